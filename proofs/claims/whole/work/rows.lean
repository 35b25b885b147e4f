section
-- ===== PART A: goes FIRST, ahead of the names: the tables' words, and 'selects' of the private methods out of them =====
/-- a private method of a class that the tables say can be made, by its rows of tables_1 -/
def lw_okq (q : MethodName × Nat) : Prop := (q.1.cls ≠ "java/lang/invoke/MethodHandle" ∧ q.1.cls ≠ "java/lang/invoke/VarHandle") ∧ Cond.instantiable q.1.cls q.2 ∈ tables_1 ∧ Cond.privateMethod q.1 ∈ tables_1 ∧ Cond.instanceMethod q.1 ∈ tables_1
theorem lw_p0 : lw_okq (⟨"DownhillWhispers", "finding", "(I)I"⟩, 7) := ⟨⟨by decide +kernel, by decide +kernel⟩, List.mem_of_getElem? (i := 14) (by decide +kernel), List.mem_of_getElem? (i := 150) (by decide +kernel), List.mem_of_getElem? (i := 151) (by decide +kernel)⟩
theorem lw_p1 : lw_okq (⟨"DownhillWhispers", "goodPlaces", "(III)I"⟩, 7) := ⟨⟨by decide +kernel, by decide +kernel⟩, List.mem_of_getElem? (i := 14) (by decide +kernel), List.mem_of_getElem? (i := 374) (by decide +kernel), List.mem_of_getElem? (i := 375) (by decide +kernel)⟩
theorem lw_p2 : lw_okq (⟨"DownhillWhispers", "cheapestSand", "(III)I"⟩, 7) := ⟨⟨by decide +kernel, by decide +kernel⟩, List.mem_of_getElem? (i := 14) (by decide +kernel), List.mem_of_getElem? (i := 398) (by decide +kernel), List.mem_of_getElem? (i := 399) (by decide +kernel)⟩
theorem lw_p3 : lw_okq (⟨"DownhillWhispers", "whyNotHeard", "(II)I"⟩, 7) := ⟨⟨by decide +kernel, by decide +kernel⟩, List.mem_of_getElem? (i := 14) (by decide +kernel), List.mem_of_getElem? (i := 423) (by decide +kernel), List.mem_of_getElem? (i := 424) (by decide +kernel)⟩
theorem lw_p4 : lw_okq (⟨"DownhillWhispers", "sheetAt", "(I)LDownhillWhispers$Sheet;"⟩, 7) := ⟨⟨by decide +kernel, by decide +kernel⟩, List.mem_of_getElem? (i := 14) (by decide +kernel), List.mem_of_getElem? (i := 427) (by decide +kernel), List.mem_of_getElem? (i := 428) (by decide +kernel)⟩
theorem lw_p5 : lw_okq (⟨"DownhillWhispers", "pairFits", "(III)Z"⟩, 7) := ⟨⟨by decide +kernel, by decide +kernel⟩, List.mem_of_getElem? (i := 14) (by decide +kernel), List.mem_of_getElem? (i := 436) (by decide +kernel), List.mem_of_getElem? (i := 437) (by decide +kernel)⟩
theorem lw_p6 : lw_okq (⟨"DownhillWhispers$Tape", "step", "()V"⟩, 6) := ⟨⟨by decide +kernel, by decide +kernel⟩, List.mem_of_getElem? (i := 71) (by decide +kernel), List.mem_of_getElem? (i := 500) (by decide +kernel), List.mem_of_getElem? (i := 501) (by decide +kernel)⟩
theorem lw_p7 : lw_okq (⟨"DownhillWhispers$Tape", "byteAt", "(I)I"⟩, 6) := ⟨⟨by decide +kernel, by decide +kernel⟩, List.mem_of_getElem? (i := 71) (by decide +kernel), List.mem_of_getElem? (i := 504) (by decide +kernel), List.mem_of_getElem? (i := 505) (by decide +kernel)⟩
theorem lw_p8 : lw_okq (⟨"DownhillWhispers$Tape", "readItem", "(LDownhillWhispers$Town;)Z"⟩, 6) := ⟨⟨by decide +kernel, by decide +kernel⟩, List.mem_of_getElem? (i := 71) (by decide +kernel), List.mem_of_getElem? (i := 513) (by decide +kernel), List.mem_of_getElem? (i := 514) (by decide +kernel)⟩
theorem lw_p9 : lw_okq (⟨"DownhillWhispers$Tape", "isWord", "(Ljava/lang/String;)Z"⟩, 6) := ⟨⟨by decide +kernel, by decide +kernel⟩, List.mem_of_getElem? (i := 71) (by decide +kernel), List.mem_of_getElem? (i := 527) (by decide +kernel), List.mem_of_getElem? (i := 528) (by decide +kernel)⟩
theorem lw_p10 : lw_okq (⟨"DownhillWhispers$Tape", "readWhisper", "(LDownhillWhispers$Town;I)Z"⟩, 6) := ⟨⟨by decide +kernel, by decide +kernel⟩, List.mem_of_getElem? (i := 71) (by decide +kernel), List.mem_of_getElem? (i := 579) (by decide +kernel), List.mem_of_getElem? (i := 580) (by decide +kernel)⟩
theorem lw_p11 : lw_okq (⟨"DownhillWhispers$Tape", "readQuality", "(LDownhillWhispers$Town;IILjava/lang/String;)Z"⟩, 6) := ⟨⟨by decide +kernel, by decide +kernel⟩, List.mem_of_getElem? (i := 71) (by decide +kernel), List.mem_of_getElem? (i := 586) (by decide +kernel), List.mem_of_getElem? (i := 587) (by decide +kernel)⟩
theorem lw_p12 : lw_okq (⟨"DownhillWhispers$Tape", "readCorner", "(LDownhillWhispers$Town;)Z"⟩, 6) := ⟨⟨by decide +kernel, by decide +kernel⟩, List.mem_of_getElem? (i := 71) (by decide +kernel), List.mem_of_getElem? (i := 594) (by decide +kernel), List.mem_of_getElem? (i := 595) (by decide +kernel)⟩
theorem lw_p13 : lw_okq (⟨"DownhillWhispers$Tape", "isNumber", "(II)Z"⟩, 6) := ⟨⟨by decide +kernel, by decide +kernel⟩, List.mem_of_getElem? (i := 71) (by decide +kernel), List.mem_of_getElem? (i := 598) (by decide +kernel), List.mem_of_getElem? (i := 599) (by decide +kernel)⟩
theorem lw_p14 : lw_okq (⟨"DownhillWhispers$Tape", "readTrait", "(LDownhillWhispers$Town;IILjava/lang/String;)Z"⟩, 6) := ⟨⟨by decide +kernel, by decide +kernel⟩, List.mem_of_getElem? (i := 71) (by decide +kernel), List.mem_of_getElem? (i := 604) (by decide +kernel), List.mem_of_getElem? (i := 605) (by decide +kernel)⟩
theorem lw_p15 : lw_okq (⟨"DownhillWhispersModel", "builds", "(III)V"⟩, 23) := ⟨⟨by decide +kernel, by decide +kernel⟩, List.mem_of_getElem? (i := 703) (by decide +kernel), List.mem_of_getElem? (i := 709) (by decide +kernel), List.mem_of_getElem? (i := 710) (by decide +kernel)⟩
def lw_privs_1 : List (MethodName × Nat) := [(⟨"DownhillWhispers", "finding", "(I)I"⟩, 7), (⟨"DownhillWhispers", "goodPlaces", "(III)I"⟩, 7), (⟨"DownhillWhispers", "cheapestSand", "(III)I"⟩, 7), (⟨"DownhillWhispers", "whyNotHeard", "(II)I"⟩, 7), (⟨"DownhillWhispers", "sheetAt", "(I)LDownhillWhispers$Sheet;"⟩, 7), (⟨"DownhillWhispers", "pairFits", "(III)Z"⟩, 7), (⟨"DownhillWhispers$Tape", "step", "()V"⟩, 6), (⟨"DownhillWhispers$Tape", "byteAt", "(I)I"⟩, 6), (⟨"DownhillWhispers$Tape", "readItem", "(LDownhillWhispers$Town;)Z"⟩, 6), (⟨"DownhillWhispers$Tape", "isWord", "(Ljava/lang/String;)Z"⟩, 6), (⟨"DownhillWhispers$Tape", "readWhisper", "(LDownhillWhispers$Town;I)Z"⟩, 6), (⟨"DownhillWhispers$Tape", "readQuality", "(LDownhillWhispers$Town;IILjava/lang/String;)Z"⟩, 6), (⟨"DownhillWhispers$Tape", "readCorner", "(LDownhillWhispers$Town;)Z"⟩, 6), (⟨"DownhillWhispers$Tape", "isNumber", "(II)Z"⟩, 6), (⟨"DownhillWhispers$Tape", "readTrait", "(LDownhillWhispers$Town;IILjava/lang/String;)Z"⟩, 6), (⟨"DownhillWhispersModel", "builds", "(III)V"⟩, 23)]
theorem lw_r1 : ∀ q ∈ lw_privs_1, lw_okq q := List.forall_mem_cons.mpr ⟨lw_p0, List.forall_mem_cons.mpr ⟨lw_p1, List.forall_mem_cons.mpr ⟨lw_p2, List.forall_mem_cons.mpr ⟨lw_p3, List.forall_mem_cons.mpr ⟨lw_p4, List.forall_mem_cons.mpr ⟨lw_p5, List.forall_mem_cons.mpr ⟨lw_p6, List.forall_mem_cons.mpr ⟨lw_p7, List.forall_mem_cons.mpr ⟨lw_p8, List.forall_mem_cons.mpr ⟨lw_p9, List.forall_mem_cons.mpr ⟨lw_p10, List.forall_mem_cons.mpr ⟨lw_p11, List.forall_mem_cons.mpr ⟨lw_p12, List.forall_mem_cons.mpr ⟨lw_p13, List.forall_mem_cons.mpr ⟨lw_p14, List.forall_mem_cons.mpr ⟨lw_p15, fun _ h => absurd h List.not_mem_nil⟩⟩⟩⟩⟩⟩⟩⟩⟩⟩⟩⟩⟩⟩⟩⟩
theorem lw_p16 : lw_okq (⟨"DownhillWhispersModel", "finds", "(I)I"⟩, 23) := ⟨⟨by decide +kernel, by decide +kernel⟩, List.mem_of_getElem? (i := 703) (by decide +kernel), List.mem_of_getElem? (i := 796) (by decide +kernel), List.mem_of_getElem? (i := 797) (by decide +kernel)⟩
theorem lw_p17 : lw_okq (⟨"DownhillWhispersModel", "steep", "(I)I"⟩, 23) := ⟨⟨by decide +kernel, by decide +kernel⟩, List.mem_of_getElem? (i := 703) (by decide +kernel), List.mem_of_getElem? (i := 801) (by decide +kernel), List.mem_of_getElem? (i := 802) (by decide +kernel)⟩
theorem lw_p18 : lw_okq (⟨"DownhillWhispersModel", "part", "(II)I"⟩, 23) := ⟨⟨by decide +kernel, by decide +kernel⟩, List.mem_of_getElem? (i := 703) (by decide +kernel), List.mem_of_getElem? (i := 805) (by decide +kernel), List.mem_of_getElem? (i := 806) (by decide +kernel)⟩
theorem lw_p19 : lw_okq (⟨"DownhillWhispersModel", "loudAt", "(I)I"⟩, 23) := ⟨⟨by decide +kernel, by decide +kernel⟩, List.mem_of_getElem? (i := 703) (by decide +kernel), List.mem_of_getElem? (i := 810) (by decide +kernel), List.mem_of_getElem? (i := 811) (by decide +kernel)⟩
theorem lw_p20 : lw_okq (⟨"DownhillWhispersModel", "its", "(II)I"⟩, 23) := ⟨⟨by decide +kernel, by decide +kernel⟩, List.mem_of_getElem? (i := 703) (by decide +kernel), List.mem_of_getElem? (i := 814) (by decide +kernel), List.mem_of_getElem? (i := 815) (by decide +kernel)⟩
theorem lw_p21 : lw_okq (⟨"DownhillWhispersModel", "isHeard", "(I)Z"⟩, 23) := ⟨⟨by decide +kernel, by decide +kernel⟩, List.mem_of_getElem? (i := 703) (by decide +kernel), List.mem_of_getElem? (i := 818) (by decide +kernel), List.mem_of_getElem? (i := 819) (by decide +kernel)⟩
theorem lw_p22 : lw_okq (⟨"DownhillWhispersModel", "rent", "(I)I"⟩, 23) := ⟨⟨by decide +kernel, by decide +kernel⟩, List.mem_of_getElem? (i := 703) (by decide +kernel), List.mem_of_getElem? (i := 822) (by decide +kernel), List.mem_of_getElem? (i := 823) (by decide +kernel)⟩
theorem lw_p23 : lw_okq (⟨"DownhillWhispersModel", "becomes", "(II)I"⟩, 23) := ⟨⟨by decide +kernel, by decide +kernel⟩, List.mem_of_getElem? (i := 703) (by decide +kernel), List.mem_of_getElem? (i := 834) (by decide +kernel), List.mem_of_getElem? (i := 835) (by decide +kernel)⟩
theorem lw_p24 : lw_okq (⟨"DownhillWhispersModel", "adds", "(III)I"⟩, 23) := ⟨⟨by decide +kernel, by decide +kernel⟩, List.mem_of_getElem? (i := 703) (by decide +kernel), List.mem_of_getElem? (i := 846) (by decide +kernel), List.mem_of_getElem? (i := 847) (by decide +kernel)⟩
theorem lw_p25 : lw_okq (⟨"DownhillWhispersModel", "sets", "(III)V"⟩, 23) := ⟨⟨by decide +kernel, by decide +kernel⟩, List.mem_of_getElem? (i := 703) (by decide +kernel), List.mem_of_getElem? (i := 850) (by decide +kernel), List.mem_of_getElem? (i := 851) (by decide +kernel)⟩
theorem lw_p26 : lw_okq (⟨"DownhillWhispersModel", "isWhisper", "(I)Z"⟩, 23) := ⟨⟨by decide +kernel, by decide +kernel⟩, List.mem_of_getElem? (i := 703) (by decide +kernel), List.mem_of_getElem? (i := 858) (by decide +kernel), List.mem_of_getElem? (i := 859) (by decide +kernel)⟩
theorem lw_p27 : lw_okq (⟨"DownhillWhispersModel", "speed", "(I)I"⟩, 23) := ⟨⟨by decide +kernel, by decide +kernel⟩, List.mem_of_getElem? (i := 703) (by decide +kernel), List.mem_of_getElem? (i := 862) (by decide +kernel), List.mem_of_getElem? (i := 863) (by decide +kernel)⟩
theorem lw_p28 : lw_okq (⟨"DownhillWhispersModel", "gathers", "(I)I"⟩, 23) := ⟨⟨by decide +kernel, by decide +kernel⟩, List.mem_of_getElem? (i := 703) (by decide +kernel), List.mem_of_getElem? (i := 866) (by decide +kernel), List.mem_of_getElem? (i := 867) (by decide +kernel)⟩
theorem lw_p29 : lw_okq (⟨"DownhillWhispersModel", "minutes", "(I)V"⟩, 23) := ⟨⟨by decide +kernel, by decide +kernel⟩, List.mem_of_getElem? (i := 703) (by decide +kernel), List.mem_of_getElem? (i := 896) (by decide +kernel), List.mem_of_getElem? (i := 897) (by decide +kernel)⟩
theorem lw_p30 : lw_okq (⟨"DownhillWhispersModel", "aMinute", "()V"⟩, 23) := ⟨⟨by decide +kernel, by decide +kernel⟩, List.mem_of_getElem? (i := 703) (by decide +kernel), List.mem_of_getElem? (i := 900) (by decide +kernel), List.mem_of_getElem? (i := 901) (by decide +kernel)⟩
theorem lw_p31 : lw_okq (⟨"DownhillWhispersModel", "rolls", "(I)V"⟩, 23) := ⟨⟨by decide +kernel, by decide +kernel⟩, List.mem_of_getElem? (i := 703) (by decide +kernel), List.mem_of_getElem? (i := 904) (by decide +kernel), List.mem_of_getElem? (i := 905) (by decide +kernel)⟩
def lw_privs_2 : List (MethodName × Nat) := [(⟨"DownhillWhispersModel", "finds", "(I)I"⟩, 23), (⟨"DownhillWhispersModel", "steep", "(I)I"⟩, 23), (⟨"DownhillWhispersModel", "part", "(II)I"⟩, 23), (⟨"DownhillWhispersModel", "loudAt", "(I)I"⟩, 23), (⟨"DownhillWhispersModel", "its", "(II)I"⟩, 23), (⟨"DownhillWhispersModel", "isHeard", "(I)Z"⟩, 23), (⟨"DownhillWhispersModel", "rent", "(I)I"⟩, 23), (⟨"DownhillWhispersModel", "becomes", "(II)I"⟩, 23), (⟨"DownhillWhispersModel", "adds", "(III)I"⟩, 23), (⟨"DownhillWhispersModel", "sets", "(III)V"⟩, 23), (⟨"DownhillWhispersModel", "isWhisper", "(I)Z"⟩, 23), (⟨"DownhillWhispersModel", "speed", "(I)I"⟩, 23), (⟨"DownhillWhispersModel", "gathers", "(I)I"⟩, 23), (⟨"DownhillWhispersModel", "minutes", "(I)V"⟩, 23), (⟨"DownhillWhispersModel", "aMinute", "()V"⟩, 23), (⟨"DownhillWhispersModel", "rolls", "(I)V"⟩, 23)]
theorem lw_r2 : ∀ q ∈ lw_privs_2, lw_okq q := List.forall_mem_cons.mpr ⟨lw_p16, List.forall_mem_cons.mpr ⟨lw_p17, List.forall_mem_cons.mpr ⟨lw_p18, List.forall_mem_cons.mpr ⟨lw_p19, List.forall_mem_cons.mpr ⟨lw_p20, List.forall_mem_cons.mpr ⟨lw_p21, List.forall_mem_cons.mpr ⟨lw_p22, List.forall_mem_cons.mpr ⟨lw_p23, List.forall_mem_cons.mpr ⟨lw_p24, List.forall_mem_cons.mpr ⟨lw_p25, List.forall_mem_cons.mpr ⟨lw_p26, List.forall_mem_cons.mpr ⟨lw_p27, List.forall_mem_cons.mpr ⟨lw_p28, List.forall_mem_cons.mpr ⟨lw_p29, List.forall_mem_cons.mpr ⟨lw_p30, List.forall_mem_cons.mpr ⟨lw_p31, fun _ h => absurd h List.not_mem_nil⟩⟩⟩⟩⟩⟩⟩⟩⟩⟩⟩⟩⟩⟩⟩⟩
theorem lw_p32 : lw_okq (⟨"DownhillWhispersModel", "cornersThat", "(Z)I"⟩, 23) := ⟨⟨by decide +kernel, by decide +kernel⟩, List.mem_of_getElem? (i := 703) (by decide +kernel), List.mem_of_getElem? (i := 912) (by decide +kernel), List.mem_of_getElem? (i := 913) (by decide +kernel)⟩
theorem lw_p33 : lw_okq (⟨"DownhillWhispersModel", "allWeight", "()I"⟩, 23) := ⟨⟨by decide +kernel, by decide +kernel⟩, List.mem_of_getElem? (i := 703) (by decide +kernel), List.mem_of_getElem? (i := 916) (by decide +kernel), List.mem_of_getElem? (i := 917) (by decide +kernel)⟩
theorem lw_p34 : lw_okq (⟨"DownhillWhispersModel", "lends", "()V"⟩, 23) := ⟨⟨by decide +kernel, by decide +kernel⟩, List.mem_of_getElem? (i := 703) (by decide +kernel), List.mem_of_getElem? (i := 932) (by decide +kernel), List.mem_of_getElem? (i := 933) (by decide +kernel)⟩
theorem lw_p35 : lw_okq (⟨"DownhillWhispersModel", "laysBack", "()V"⟩, 23) := ⟨⟨by decide +kernel, by decide +kernel⟩, List.mem_of_getElem? (i := 703) (by decide +kernel), List.mem_of_getElem? (i := 939) (by decide +kernel), List.mem_of_getElem? (i := 940) (by decide +kernel)⟩
theorem lw_p36 : lw_okq (⟨"DownhillWhispersModel", "loudBy", "(II)I"⟩, 23) := ⟨⟨by decide +kernel, by decide +kernel⟩, List.mem_of_getElem? (i := 703) (by decide +kernel), List.mem_of_getElem? (i := 947) (by decide +kernel), List.mem_of_getElem? (i := 948) (by decide +kernel)⟩
theorem lw_p37 : lw_okq (⟨"DownhillWhispersModel", "isStill", "()Z"⟩, 23) := ⟨⟨by decide +kernel, by decide +kernel⟩, List.mem_of_getElem? (i := 703) (by decide +kernel), List.mem_of_getElem? (i := 959) (by decide +kernel), List.mem_of_getElem? (i := 960) (by decide +kernel)⟩
theorem lw_p38 : lw_okq (⟨"DownhillWhispersModel", "moves", "(I)Z"⟩, 23) := ⟨⟨by decide +kernel, by decide +kernel⟩, List.mem_of_getElem? (i := 703) (by decide +kernel), List.mem_of_getElem? (i := 963) (by decide +kernel), List.mem_of_getElem? (i := 964) (by decide +kernel)⟩
theorem lw_p39 : lw_okq (⟨"DownhillWhispersModel", "comesHome", "(I)I"⟩, 23) := ⟨⟨by decide +kernel, by decide +kernel⟩, List.mem_of_getElem? (i := 703) (by decide +kernel), List.mem_of_getElem? (i := 971) (by decide +kernel), List.mem_of_getElem? (i := 972) (by decide +kernel)⟩
theorem lw_p40 : lw_okq (⟨"DownhillWhispersModel", "heightOf", "(I)I"⟩, 23) := ⟨⟨by decide +kernel, by decide +kernel⟩, List.mem_of_getElem? (i := 703) (by decide +kernel), List.mem_of_getElem? (i := 983) (by decide +kernel), List.mem_of_getElem? (i := 984) (by decide +kernel)⟩
theorem lw_p41 : lw_okq (⟨"DownhillWhispersModel", "goesFrom", "(II)I"⟩, 23) := ⟨⟨by decide +kernel, by decide +kernel⟩, List.mem_of_getElem? (i := 703) (by decide +kernel), List.mem_of_getElem? (i := 995) (by decide +kernel), List.mem_of_getElem? (i := 996) (by decide +kernel)⟩
theorem lw_p42 : lw_okq (⟨"DownhillWhispersModel", "arePlaces", "(III)Z"⟩, 23) := ⟨⟨by decide +kernel, by decide +kernel⟩, List.mem_of_getElem? (i := 703) (by decide +kernel), List.mem_of_getElem? (i := 1003) (by decide +kernel), List.mem_of_getElem? (i := 1004) (by decide +kernel)⟩
theorem lw_p43 : lw_okq (⟨"DownhillWhispersModel", "findPlaces", "(III)V"⟩, 23) := ⟨⟨by decide +kernel, by decide +kernel⟩, List.mem_of_getElem? (i := 703) (by decide +kernel), List.mem_of_getElem? (i := 1007) (by decide +kernel), List.mem_of_getElem? (i := 1008) (by decide +kernel)⟩
theorem lw_p44 : lw_okq (⟨"DownhillWhispersModel", "findSand", "(III)V"⟩, 23) := ⟨⟨by decide +kernel, by decide +kernel⟩, List.mem_of_getElem? (i := 703) (by decide +kernel), List.mem_of_getElem? (i := 1031) (by decide +kernel), List.mem_of_getElem? (i := 1032) (by decide +kernel)⟩
theorem lw_p45 : lw_okq (⟨"DownhillWhispersModel", "costOf", "(I)I"⟩, 23) := ⟨⟨by decide +kernel, by decide +kernel⟩, List.mem_of_getElem? (i := 703) (by decide +kernel), List.mem_of_getElem? (i := 1035) (by decide +kernel), List.mem_of_getElem? (i := 1036) (by decide +kernel)⟩
theorem lw_p46 : lw_okq (⟨"DownhillWhispersModel", "loudWith", "(III)I"⟩, 23) := ⟨⟨by decide +kernel, by decide +kernel⟩, List.mem_of_getElem? (i := 703) (by decide +kernel), List.mem_of_getElem? (i := 1039) (by decide +kernel), List.mem_of_getElem? (i := 1040) (by decide +kernel)⟩
theorem lw_p47 : lw_okq (⟨"DownhillWhispersModel", "lacksFits", "(II)I"⟩, 23) := ⟨⟨by decide +kernel, by decide +kernel⟩, List.mem_of_getElem? (i := 703) (by decide +kernel), List.mem_of_getElem? (i := 1055) (by decide +kernel), List.mem_of_getElem? (i := 1056) (by decide +kernel)⟩
def lw_privs_3 : List (MethodName × Nat) := [(⟨"DownhillWhispersModel", "cornersThat", "(Z)I"⟩, 23), (⟨"DownhillWhispersModel", "allWeight", "()I"⟩, 23), (⟨"DownhillWhispersModel", "lends", "()V"⟩, 23), (⟨"DownhillWhispersModel", "laysBack", "()V"⟩, 23), (⟨"DownhillWhispersModel", "loudBy", "(II)I"⟩, 23), (⟨"DownhillWhispersModel", "isStill", "()Z"⟩, 23), (⟨"DownhillWhispersModel", "moves", "(I)Z"⟩, 23), (⟨"DownhillWhispersModel", "comesHome", "(I)I"⟩, 23), (⟨"DownhillWhispersModel", "heightOf", "(I)I"⟩, 23), (⟨"DownhillWhispersModel", "goesFrom", "(II)I"⟩, 23), (⟨"DownhillWhispersModel", "arePlaces", "(III)Z"⟩, 23), (⟨"DownhillWhispersModel", "findPlaces", "(III)V"⟩, 23), (⟨"DownhillWhispersModel", "findSand", "(III)V"⟩, 23), (⟨"DownhillWhispersModel", "costOf", "(I)I"⟩, 23), (⟨"DownhillWhispersModel", "loudWith", "(III)I"⟩, 23), (⟨"DownhillWhispersModel", "lacksFits", "(II)I"⟩, 23)]
theorem lw_r3 : ∀ q ∈ lw_privs_3, lw_okq q := List.forall_mem_cons.mpr ⟨lw_p32, List.forall_mem_cons.mpr ⟨lw_p33, List.forall_mem_cons.mpr ⟨lw_p34, List.forall_mem_cons.mpr ⟨lw_p35, List.forall_mem_cons.mpr ⟨lw_p36, List.forall_mem_cons.mpr ⟨lw_p37, List.forall_mem_cons.mpr ⟨lw_p38, List.forall_mem_cons.mpr ⟨lw_p39, List.forall_mem_cons.mpr ⟨lw_p40, List.forall_mem_cons.mpr ⟨lw_p41, List.forall_mem_cons.mpr ⟨lw_p42, List.forall_mem_cons.mpr ⟨lw_p43, List.forall_mem_cons.mpr ⟨lw_p44, List.forall_mem_cons.mpr ⟨lw_p45, List.forall_mem_cons.mpr ⟨lw_p46, List.forall_mem_cons.mpr ⟨lw_p47, fun _ h => absurd h List.not_mem_nil⟩⟩⟩⟩⟩⟩⟩⟩⟩⟩⟩⟩⟩⟩⟩⟩
theorem lw_p48 : lw_okq (⟨"DownhillWhispersModel", "lacks", "(I)I"⟩, 23) := ⟨⟨by decide +kernel, by decide +kernel⟩, List.mem_of_getElem? (i := 703) (by decide +kernel), List.mem_of_getElem? (i := 1059) (by decide +kernel), List.mem_of_getElem? (i := 1060) (by decide +kernel)⟩
theorem lw_p49 : lw_okq (⟨"DownhillWhispersModel", "findFits", "(II)V"⟩, 23) := ⟨⟨by decide +kernel, by decide +kernel⟩, List.mem_of_getElem? (i := 703) (by decide +kernel), List.mem_of_getElem? (i := 1067) (by decide +kernel), List.mem_of_getElem? (i := 1068) (by decide +kernel)⟩
theorem lw_p50 : lw_okq (⟨"DownhillWhispersModel", "isAsTold", "(I)Z"⟩, 23) := ⟨⟨by decide +kernel, by decide +kernel⟩, List.mem_of_getElem? (i := 703) (by decide +kernel), List.mem_of_getElem? (i := 1071) (by decide +kernel), List.mem_of_getElem? (i := 1072) (by decide +kernel)⟩
theorem lw_p51 : lw_okq (⟨"DownhillWhispersModel", "draw", "()I"⟩, 23) := ⟨⟨by decide +kernel, by decide +kernel⟩, List.mem_of_getElem? (i := 703) (by decide +kernel), List.mem_of_getElem? (i := 1092) (by decide +kernel), List.mem_of_getElem? (i := 1093) (by decide +kernel)⟩
theorem lw_p52 : lw_okq (⟨"DownhillWhispersModel", "next", "()V"⟩, 23) := ⟨⟨by decide +kernel, by decide +kernel⟩, List.mem_of_getElem? (i := 703) (by decide +kernel), List.mem_of_getElem? (i := 1119) (by decide +kernel), List.mem_of_getElem? (i := 1120) (by decide +kernel)⟩
theorem lw_p53 : lw_okq (⟨"DownhillWhispersModel", "isByte", "(III)Z"⟩, 23) := ⟨⟨by decide +kernel, by decide +kernel⟩, List.mem_of_getElem? (i := 703) (by decide +kernel), List.mem_of_getElem? (i := 1123) (by decide +kernel), List.mem_of_getElem? (i := 1124) (by decide +kernel)⟩
theorem lw_p54 : lw_okq (⟨"DownhillWhispersModel", "item", "()V"⟩, 23) := ⟨⟨by decide +kernel, by decide +kernel⟩, List.mem_of_getElem? (i := 703) (by decide +kernel), List.mem_of_getElem? (i := 1127) (by decide +kernel), List.mem_of_getElem? (i := 1128) (by decide +kernel)⟩
theorem lw_p55 : lw_okq (⟨"DownhillWhispersModel", "kindHere", "()I"⟩, 23) := ⟨⟨by decide +kernel, by decide +kernel⟩, List.mem_of_getElem? (i := 703) (by decide +kernel), List.mem_of_getElem? (i := 1131) (by decide +kernel), List.mem_of_getElem? (i := 1132) (by decide +kernel)⟩
theorem lw_p56 : lw_okq (⟨"DownhillWhispersModel", "isWord", "(Ljava/lang/String;)Z"⟩, 23) := ⟨⟨by decide +kernel, by decide +kernel⟩, List.mem_of_getElem? (i := 703) (by decide +kernel), List.mem_of_getElem? (i := 1136) (by decide +kernel), List.mem_of_getElem? (i := 1137) (by decide +kernel)⟩
theorem lw_p57 : lw_okq (⟨"DownhillWhispersModel", "whisperTold", "(I)V"⟩, 23) := ⟨⟨by decide +kernel, by decide +kernel⟩, List.mem_of_getElem? (i := 703) (by decide +kernel), List.mem_of_getElem? (i := 1148) (by decide +kernel), List.mem_of_getElem? (i := 1149) (by decide +kernel)⟩
theorem lw_p58 : lw_okq (⟨"DownhillWhispersModel", "must", "(Z)V"⟩, 23) := ⟨⟨by decide +kernel, by decide +kernel⟩, List.mem_of_getElem? (i := 703) (by decide +kernel), List.mem_of_getElem? (i := 1152) (by decide +kernel), List.mem_of_getElem? (i := 1153) (by decide +kernel)⟩
theorem lw_p59 : lw_okq (⟨"DownhillWhispersModel", "takes", "(Ljava/lang/String;)Z"⟩, 23) := ⟨⟨by decide +kernel, by decide +kernel⟩, List.mem_of_getElem? (i := 703) (by decide +kernel), List.mem_of_getElem? (i := 1157) (by decide +kernel), List.mem_of_getElem? (i := 1158) (by decide +kernel)⟩
theorem lw_p60 : lw_okq (⟨"DownhillWhispersModel", "numberRead", "(II)I"⟩, 23) := ⟨⟨by decide +kernel, by decide +kernel⟩, List.mem_of_getElem? (i := 703) (by decide +kernel), List.mem_of_getElem? (i := 1161) (by decide +kernel), List.mem_of_getElem? (i := 1162) (by decide +kernel)⟩
theorem lw_p61 : lw_okq (⟨"DownhillWhispersModel", "partTold", "(ILjava/lang/String;I)V"⟩, 23) := ⟨⟨by decide +kernel, by decide +kernel⟩, List.mem_of_getElem? (i := 703) (by decide +kernel), List.mem_of_getElem? (i := 1168) (by decide +kernel), List.mem_of_getElem? (i := 1169) (by decide +kernel)⟩
theorem lw_p62 : lw_okq (⟨"DownhillWhispersModel", "atHarbour", "()I"⟩, 23) := ⟨⟨by decide +kernel, by decide +kernel⟩, List.mem_of_getElem? (i := 703) (by decide +kernel), List.mem_of_getElem? (i := 1235) (by decide +kernel), List.mem_of_getElem? (i := 1236) (by decide +kernel)⟩
theorem lw_p63 : lw_okq (⟨"DownhillWhispersModel", "allSand", "()I"⟩, 23) := ⟨⟨by decide +kernel, by decide +kernel⟩, List.mem_of_getElem? (i := 703) (by decide +kernel), List.mem_of_getElem? (i := 1239) (by decide +kernel), List.mem_of_getElem? (i := 1240) (by decide +kernel)⟩
def lw_privs_4 : List (MethodName × Nat) := [(⟨"DownhillWhispersModel", "lacks", "(I)I"⟩, 23), (⟨"DownhillWhispersModel", "findFits", "(II)V"⟩, 23), (⟨"DownhillWhispersModel", "isAsTold", "(I)Z"⟩, 23), (⟨"DownhillWhispersModel", "draw", "()I"⟩, 23), (⟨"DownhillWhispersModel", "next", "()V"⟩, 23), (⟨"DownhillWhispersModel", "isByte", "(III)Z"⟩, 23), (⟨"DownhillWhispersModel", "item", "()V"⟩, 23), (⟨"DownhillWhispersModel", "kindHere", "()I"⟩, 23), (⟨"DownhillWhispersModel", "isWord", "(Ljava/lang/String;)Z"⟩, 23), (⟨"DownhillWhispersModel", "whisperTold", "(I)V"⟩, 23), (⟨"DownhillWhispersModel", "must", "(Z)V"⟩, 23), (⟨"DownhillWhispersModel", "takes", "(Ljava/lang/String;)Z"⟩, 23), (⟨"DownhillWhispersModel", "numberRead", "(II)I"⟩, 23), (⟨"DownhillWhispersModel", "partTold", "(ILjava/lang/String;I)V"⟩, 23), (⟨"DownhillWhispersModel", "atHarbour", "()I"⟩, 23), (⟨"DownhillWhispersModel", "allSand", "()I"⟩, 23)]
theorem lw_r4 : ∀ q ∈ lw_privs_4, lw_okq q := List.forall_mem_cons.mpr ⟨lw_p48, List.forall_mem_cons.mpr ⟨lw_p49, List.forall_mem_cons.mpr ⟨lw_p50, List.forall_mem_cons.mpr ⟨lw_p51, List.forall_mem_cons.mpr ⟨lw_p52, List.forall_mem_cons.mpr ⟨lw_p53, List.forall_mem_cons.mpr ⟨lw_p54, List.forall_mem_cons.mpr ⟨lw_p55, List.forall_mem_cons.mpr ⟨lw_p56, List.forall_mem_cons.mpr ⟨lw_p57, List.forall_mem_cons.mpr ⟨lw_p58, List.forall_mem_cons.mpr ⟨lw_p59, List.forall_mem_cons.mpr ⟨lw_p60, List.forall_mem_cons.mpr ⟨lw_p61, List.forall_mem_cons.mpr ⟨lw_p62, List.forall_mem_cons.mpr ⟨lw_p63, fun _ h => absurd h List.not_mem_nil⟩⟩⟩⟩⟩⟩⟩⟩⟩⟩⟩⟩⟩⟩⟩⟩
theorem lw_p64 : lw_okq (⟨"DownhillWhispersModel", "held", "()I"⟩, 23) := ⟨⟨by decide +kernel, by decide +kernel⟩, List.mem_of_getElem? (i := 703) (by decide +kernel), List.mem_of_getElem? (i := 1243) (by decide +kernel), List.mem_of_getElem? (i := 1244) (by decide +kernel)⟩
def lw_privs_5 : List (MethodName × Nat) := [(⟨"DownhillWhispersModel", "held", "()I"⟩, 23)]
theorem lw_r5 : ∀ q ∈ lw_privs_5, lw_okq q := List.forall_mem_cons.mpr ⟨lw_p64, fun _ h => absurd h List.not_mem_nil⟩
def lw_privs : List (MethodName × Nat) := lw_privs_1 ++ (lw_privs_2 ++ (lw_privs_3 ++ (lw_privs_4 ++ (lw_privs_5))))
def lw_tbl : List Cond := k2_sels lw_privs ++ tables_1
theorem lw_privs_ok : ∀ q ∈ lw_privs, lw_okq q := by
  show ∀ q ∈ lw_privs_1 ++ (lw_privs_2 ++ (lw_privs_3 ++ (lw_privs_4 ++ (lw_privs_5)))), lw_okq q
  exact List.forall_mem_append.mpr ⟨lw_r1, List.forall_mem_append.mpr ⟨lw_r2, List.forall_mem_append.mpr ⟨lw_r3, List.forall_mem_append.mpr ⟨lw_r4, lw_r5⟩⟩⟩⟩
end
section
def RX0 : String := "DownhillWhispers$Sheet"
def TX0 : u_T := fun k => match k with
  | 0 => ("DownhillWhispers$Sheet", "numbers", "[I", true)
  | 1 => ("DownhillWhispers$Sheet", "bits", "I", false)
  | _ => ("DownhillWhispers$Sheet", "length", "I", false)
def tyX0 : Nat → FieldType := fun k => match k with
  | 0 => .array .int
  | 1 => .int
  | _ => .int
abbrev wsX00 : List Cond := u_ws RX0 TX0 3
theorem nmX0 : ∀ a, a < 3 → ∀ b, b < 3 → a ≠ b → (TX0 a).2.1 ≠ (TX0 b).2.1 := by decide +kernel
theorem tyX0_ok : ∀ k, k < 3 → parseFieldDescriptor (TX0 k).2.2.1 = some (tyX0 k) := by decide +kernel
abbrev cX0_init : ByteArray := prog_2_method_1_code
def yX0_init : MethodName := ⟨RX0, "<init>", "()V"⟩
abbrev cX0_isMissing : ByteArray := prog_2_method_2_code
def yX0_isMissing : MethodName := ⟨RX0, "isMissing", "()Z"⟩
abbrev cX0_begin : ByteArray := prog_2_method_3_code
def yX0_begin : MethodName := ⟨RX0, "begin", "(II)V"⟩
abbrev cX0_number : ByteArray := prog_2_method_4_code
def yX0_number : MethodName := ⟨RX0, "number", "(I)I"⟩
abbrev cX0_setNumber : ByteArray := prog_2_method_5_code
def yX0_setNumber : MethodName := ⟨RX0, "setNumber", "(II)V"⟩
abbrev cX0_hasNumbers : ByteArray := prog_2_method_6_code
def yX0_hasNumbers : MethodName := ⟨RX0, "hasNumbers", "(II)Z"⟩
def RX1 : String := "DownhillWhispers$Tape"
def TX1 : u_T := fun k => match k with
  | 0 => ("DownhillWhispers$Tape", "bytes", "[I", true)
  | 1 => ("DownhillWhispers$Tape", "length", "I", false)
  | 2 => ("DownhillWhispers$Tape", "token", "I", false)
  | 3 => ("DownhillWhispers$Tape", "start", "I", false)
  | 4 => ("DownhillWhispers$Tape", "stop", "I", false)
  | _ => ("DownhillWhispers$Tape", "value", "I", false)
def tyX1 : Nat → FieldType := fun k => match k with
  | 0 => .array .int
  | 1 => .int
  | 2 => .int
  | 3 => .int
  | 4 => .int
  | _ => .int
abbrev wsX10 : List Cond := u_ws RX1 TX1 6
theorem nmX1 : ∀ a, a < 6 → ∀ b, b < 6 → a ≠ b → (TX1 a).2.1 ≠ (TX1 b).2.1 := by decide +kernel
theorem tyX1_ok : ∀ k, k < 6 → parseFieldDescriptor (TX1 k).2.2.1 = some (tyX1 k) := by decide +kernel
abbrev cX1_init : ByteArray := prog_3_method_1_code
def yX1_init : MethodName := ⟨RX1, "<init>", "()V"⟩
abbrev cX1_append : ByteArray := prog_3_method_2_code
def yX1_append : MethodName := ⟨RX1, "append", "(I)V"⟩
abbrev cX1_clear : ByteArray := prog_3_method_3_code
def yX1_clear : MethodName := ⟨RX1, "clear", "()V"⟩
abbrev cX1_readItems : ByteArray := prog_3_method_4_code
def yX1_readItems : MethodName := ⟨RX1, "readItems", "(LDownhillWhispers$Town;)I"⟩
abbrev cX1_readItem : ByteArray := prog_3_method_5_code
def yX1_readItem : MethodName := ⟨RX1, "readItem", "(LDownhillWhispers$Town;)Z"⟩
abbrev cX1_readWhisper : ByteArray := prog_3_method_6_code
def yX1_readWhisper : MethodName := ⟨RX1, "readWhisper", "(LDownhillWhispers$Town;I)Z"⟩
abbrev cX1_readQuality : ByteArray := prog_3_method_7_code
def yX1_readQuality : MethodName := ⟨RX1, "readQuality", "(LDownhillWhispers$Town;IILjava/lang/String;)Z"⟩
abbrev cX1_readCorner : ByteArray := prog_3_method_8_code
def yX1_readCorner : MethodName := ⟨RX1, "readCorner", "(LDownhillWhispers$Town;)Z"⟩
abbrev cX1_readTrait : ByteArray := prog_3_method_9_code
def yX1_readTrait : MethodName := ⟨RX1, "readTrait", "(LDownhillWhispers$Town;IILjava/lang/String;)Z"⟩
abbrev cX1_isNumber : ByteArray := prog_3_method_10_code
def yX1_isNumber : MethodName := ⟨RX1, "isNumber", "(II)Z"⟩
abbrev cX1_isWord : ByteArray := prog_3_method_11_code
def yX1_isWord : MethodName := ⟨RX1, "isWord", "(Ljava/lang/String;)Z"⟩
abbrev cX1_kindName : ByteArray := prog_3_method_12_code
def yX1_kindName : MethodName := ⟨RX1, "kindName", "(I)Ljava/lang/String;"⟩
abbrev cX1_byteAt : ByteArray := prog_3_method_13_code
def yX1_byteAt : MethodName := ⟨RX1, "byteAt", "(I)I"⟩
abbrev cX1_step : ByteArray := prog_3_method_14_code
def yX1_step : MethodName := ⟨RX1, "step", "()V"⟩
abbrev cX1_sortOf : ByteArray := prog_3_method_15_code
def yX1_sortOf : MethodName := ⟨RX1, "sortOf", "(I)I"⟩
def RX2 : String := "DownhillWhispers$Town"
def TX2 : u_T := fun k => match k with
  | 0 => ("DownhillWhispers$Town", "traits", "[I", true)
  | 1 => ("DownhillWhispers$Town", "qualities", "[I", true)
  | 2 => ("DownhillWhispers$Town", "spots", "[I", true)
  | 3 => ("DownhillWhispers$Town", "whispers", "I", false)
  | 4 => ("DownhillWhispers$Town", "aunts", "I", false)
  | 5 => ("DownhillWhispers$Town", "frost", "I", false)
  | 6 => ("DownhillWhispers$Town", "minute", "I", false)
  | _ => ("DownhillWhispers$Town", "z", "I", false)
def tyX2 : Nat → FieldType := fun k => match k with
  | 0 => .array .int
  | 1 => .array .int
  | 2 => .array .int
  | 3 => .int
  | 4 => .int
  | 5 => .int
  | 6 => .int
  | _ => .int
abbrev wsX20 : List Cond := u_ws RX2 TX2 8
theorem nmX2 : ∀ a, a < 8 → ∀ b, b < 8 → a ≠ b → (TX2 a).2.1 ≠ (TX2 b).2.1 := by decide +kernel
theorem tyX2_ok : ∀ k, k < 8 → parseFieldDescriptor (TX2 k).2.2.1 = some (tyX2 k) := by decide +kernel
abbrev cX2_init : ByteArray := prog_4_method_1_code
def yX2_init : MethodName := ⟨RX2, "<init>", "()V"⟩
abbrev cX2_become : ByteArray := prog_4_method_2_code
def yX2_become : MethodName := ⟨RX2, "become", "(LDownhillWhispers$Town;)V"⟩
abbrev cX2_trait : ByteArray := prog_4_method_3_code
def yX2_trait : MethodName := ⟨RX2, "trait", "(II)I"⟩
abbrev cX2_setTrait : ByteArray := prog_4_method_4_code
def yX2_setTrait : MethodName := ⟨RX2, "setTrait", "(III)V"⟩
abbrev cX2_quality : ByteArray := prog_4_method_5_code
def yX2_quality : MethodName := ⟨RX2, "quality", "(II)I"⟩
abbrev cX2_setQuality : ByteArray := prog_4_method_6_code
def yX2_setQuality : MethodName := ⟨RX2, "setQuality", "(III)V"⟩
abbrev cX2_heldIn : ByteArray := prog_4_method_7_code
def yX2_heldIn : MethodName := ⟨RX2, "heldIn", "(I)I"⟩
abbrev cX2_setSpot : ByteArray := prog_4_method_8_code
def yX2_setSpot : MethodName := ⟨RX2, "setSpot", "(II)V"⟩
abbrev cX2_spotsInUse : ByteArray := prog_4_method_9_code
def yX2_spotsInUse : MethodName := ⟨RX2, "spotsInUse", "()I"⟩
abbrev cX2_hasWhisper : ByteArray := prog_4_method_10_code
def yX2_hasWhisper : MethodName := ⟨RX2, "hasWhisper", "(I)Z"⟩
abbrev cX2_isFull : ByteArray := prog_4_method_11_code
def yX2_isFull : MethodName := ⟨RX2, "isFull", "()Z"⟩
abbrev cX2_addWhisper : ByteArray := prog_4_method_12_code
def yX2_addWhisper : MethodName := ⟨RX2, "addWhisper", "(III)I"⟩
abbrev cX2_steepAt : ByteArray := prog_4_method_13_code
def yX2_steepAt : MethodName := ⟨RX2, "steepAt", "(I)I"⟩
abbrev cX2_runningCorners : ByteArray := prog_4_method_14_code
def yX2_runningCorners : MethodName := ⟨RX2, "runningCorners", "()I"⟩
abbrev cX2_weightAt : ByteArray := prog_4_method_15_code
def yX2_weightAt : MethodName := ⟨RX2, "weightAt", "(II)I"⟩
abbrev cX2_loudAt : ByteArray := prog_4_method_16_code
def yX2_loudAt : MethodName := ⟨RX2, "loudAt", "(I)I"⟩
abbrev cX2_isHeardAt : ByteArray := prog_4_method_17_code
def yX2_isHeardAt : MethodName := ⟨RX2, "isHeardAt", "(I)Z"⟩
abbrev cX2_heardCorners : ByteArray := prog_4_method_18_code
def yX2_heardCorners : MethodName := ⟨RX2, "heardCorners", "()I"⟩
abbrev cX2_rentOf : ByteArray := prog_4_method_19_code
def yX2_rentOf : MethodName := ⟨RX2, "rentOf", "(I)I"⟩
abbrev cX2_heightOf : ByteArray := prog_4_method_20_code
def yX2_heightOf : MethodName := ⟨RX2, "heightOf", "(I)I"⟩
abbrev cX2_whispersAt : ByteArray := prog_4_method_21_code
def yX2_whispersAt : MethodName := ⟨RX2, "whispersAt", "(I)I"⟩
abbrev cX2_weightOfAll : ByteArray := prog_4_method_22_code
def yX2_weightOfAll : MethodName := ⟨RX2, "weightOfAll", "()I"⟩
abbrev cX2_sandOfAll : ByteArray := prog_4_method_23_code
def yX2_sandOfAll : MethodName := ⟨RX2, "sandOfAll", "()I"⟩
abbrev cX2_costOf : ByteArray := prog_4_method_24_code
def yX2_costOf : MethodName := ⟨RX2, "costOf", "(I)I"⟩
abbrev cX2_sandAll : ByteArray := prog_4_method_25_code
def yX2_sandAll : MethodName := ⟨RX2, "sandAll", "(I)V"⟩
abbrev cX2_speedOf : ByteArray := prog_4_method_26_code
def yX2_speedOf : MethodName := ⟨RX2, "speedOf", "(I)I"⟩
abbrev cX2_gathersOf : ByteArray := prog_4_method_27_code
def yX2_gathersOf : MethodName := ⟨RX2, "gathersOf", "(I)I"⟩
abbrev cX2_roll : ByteArray := prog_4_method_28_code
def yX2_roll : MethodName := ⟨RX2, "roll", "(I)I"⟩
abbrev cX2_wayOf : ByteArray := prog_4_method_29_code
def yX2_wayOf : MethodName := ⟨RX2, "wayOf", "(II)I"⟩
abbrev cX2_minutesToHarbour : ByteArray := prog_4_method_30_code
def yX2_minutesToHarbour : MethodName := ⟨RX2, "minutesToHarbour", "(I)I"⟩
abbrev cX2_pass : ByteArray := prog_4_method_31_code
def yX2_pass : MethodName := ⟨RX2, "pass", "(I)I"⟩
abbrev cX2_mergeAt : ByteArray := prog_4_method_32_code
def yX2_mergeAt : MethodName := ⟨RX2, "mergeAt", "(I)V"⟩
abbrev cX2_draw : ByteArray := prog_4_method_33_code
def yX2_draw : MethodName := ⟨RX2, "draw", "()I"⟩
def RX3 : String := "DownhillWhispers"
def TX3 : u_T := fun k => match k with
  | 0 => ("DownhillWhispers", "town", "LDownhillWhispers$Town;", true)
  | 1 => ("DownhillWhispers", "kept", "LDownhillWhispers$Town;", true)
  | 2 => ("DownhillWhispers", "trial", "LDownhillWhispers$Town;", true)
  | 3 => ("DownhillWhispers", "isKept", "Z", false)
  | 4 => ("DownhillWhispers", "tape", "LDownhillWhispers$Tape;", true)
  | 5 => ("DownhillWhispers", "sheets", "[LDownhillWhispers$Sheet;", true)
  | _ => ("DownhillWhispers", "findings", "[I", true)
def tyX3 : Nat → FieldType := fun k => match k with
  | 0 => .object "DownhillWhispers$Town"
  | 1 => .object "DownhillWhispers$Town"
  | 2 => .object "DownhillWhispers$Town"
  | 3 => .boolean
  | 4 => .object "DownhillWhispers$Tape"
  | 5 => .array (.object "DownhillWhispers$Sheet")
  | _ => .array .int
abbrev wsX30 : List Cond := u_ws RX3 TX3 7
theorem nmX3 : ∀ a, a < 7 → ∀ b, b < 7 → a ≠ b → (TX3 a).2.1 ≠ (TX3 b).2.1 := by decide +kernel
theorem tyX3_ok : ∀ k, k < 7 → parseFieldDescriptor (TX3 k).2.2.1 = some (tyX3 k) := by decide +kernel
abbrev cX3_init : ByteArray := prog_1_method_1_code
def yX3_init : MethodName := ⟨RX3, "<init>", "()V"⟩
abbrev cX3_corner : ByteArray := prog_1_method_2_code
def yX3_corner : MethodName := ⟨RX3, "corner", "(II)I"⟩
abbrev cX3_build : ByteArray := prog_1_method_3_code
def yX3_build : MethodName := ⟨RX3, "build", "(III)I"⟩
abbrev cX3_says : ByteArray := prog_1_method_4_code
def yX3_says : MethodName := ⟨RX3, "says", "(II)I"⟩
abbrev cX3_of : ByteArray := prog_1_method_5_code
def yX3_of : MethodName := ⟨RX3, "of", "(II)I"⟩
abbrev cX3_change : ByteArray := prog_1_method_6_code
def yX3_change : MethodName := ⟨RX3, "change", "(III)I"⟩
abbrev cX3_aunts : ByteArray := prog_1_method_7_code
def yX3_aunts : MethodName := ⟨RX3, "aunts", "(I)I"⟩
abbrev cX3_frost : ByteArray := prog_1_method_8_code
def yX3_frost : MethodName := ⟨RX3, "frost", "(I)I"⟩
abbrev cX3_go : ByteArray := prog_1_method_9_code
def yX3_go : MethodName := ⟨RX3, "go", "(I)I"⟩
abbrev cX3_now : ByteArray := prog_1_method_10_code
def yX3_now : MethodName := ⟨RX3, "now", "(I)I"⟩
abbrev cX3_merge : ByteArray := prog_1_method_11_code
def yX3_merge : MethodName := ⟨RX3, "merge", "(I)I"⟩
abbrev cX3_ahead : ByteArray := prog_1_method_12_code
def yX3_ahead : MethodName := ⟨RX3, "ahead", "(II)I"⟩
abbrev cX3_loud : ByteArray := prog_1_method_13_code
def yX3_loud : MethodName := ⟨RX3, "loud", "(II)I"⟩
abbrev cX3_heard : ByteArray := prog_1_method_14_code
def yX3_heard : MethodName := ⟨RX3, "heard", "(I)I"⟩
abbrev cX3_still : ByteArray := prog_1_method_15_code
def yX3_still : MethodName := ⟨RX3, "still", "()I"⟩
abbrev cX3_harbour : ByteArray := prog_1_method_16_code
def yX3_harbour : MethodName := ⟨RX3, "harbour", "(I)I"⟩
abbrev cX3_loudest : ByteArray := prog_1_method_17_code
def yX3_loudest : MethodName := ⟨RX3, "loudest", "(II)I"⟩
abbrev cX3_overtakes : ByteArray := prog_1_method_18_code
def yX3_overtakes : MethodName := ⟨RX3, "overtakes", "(II)I"⟩
abbrev cX3_kindFor : ByteArray := prog_1_method_19_code
def yX3_kindFor : MethodName := ⟨RX3, "kindFor", "(I)I"⟩
abbrev cX3_goesBy : ByteArray := prog_1_method_20_code
def yX3_goesBy : MethodName := ⟨RX3, "goesBy", "(I)I"⟩
abbrev cX3_where : ByteArray := prog_1_method_21_code
def yX3_where : MethodName := ⟨RX3, "where", "(III)I"⟩
abbrev cX3_places : ByteArray := prog_1_method_22_code
def yX3_places : MethodName := ⟨RX3, "places", "(III)I"⟩
abbrev cX3_goodPlaces : ByteArray := prog_1_method_23_code
def yX3_goodPlaces : MethodName := ⟨RX3, "goodPlaces", "(III)I"⟩
abbrev cX3_weightFor : ByteArray := prog_1_method_24_code
def yX3_weightFor : MethodName := ⟨RX3, "weightFor", "(III)I"⟩
abbrev cX3_sand : ByteArray := prog_1_method_25_code
def yX3_sand : MethodName := ⟨RX3, "sand", "(III)I"⟩
abbrev cX3_costs : ByteArray := prog_1_method_26_code
def yX3_costs : MethodName := ⟨RX3, "costs", "(III)I"⟩
abbrev cX3_cheapestSand : ByteArray := prog_1_method_27_code
def yX3_cheapestSand : MethodName := ⟨RX3, "cheapestSand", "(III)I"⟩
abbrev cX3_aunt : ByteArray := prog_1_method_28_code
def yX3_aunt : MethodName := ⟨RX3, "aunt", "(I)I"⟩
abbrev cX3_fits : ByteArray := prog_1_method_29_code
def yX3_fits : MethodName := ⟨RX3, "fits", "(II)I"⟩
abbrev cX3_said : ByteArray := prog_1_method_30_code
def yX3_said : MethodName := ⟨RX3, "said", "(II)I"⟩
abbrev cX3_whyNotHeard : ByteArray := prog_1_method_31_code
def yX3_whyNotHeard : MethodName := ⟨RX3, "whyNotHeard", "(II)I"⟩
abbrev cX3_pairFits : ByteArray := prog_1_method_32_code
def yX3_pairFits : MethodName := ⟨RX3, "pairFits", "(III)Z"⟩
abbrev cX3_dearest : ByteArray := prog_1_method_33_code
def yX3_dearest : MethodName := ⟨RX3, "dearest", "()I"⟩
abbrev cX3_rents : ByteArray := prog_1_method_34_code
def yX3_rents : MethodName := ⟨RX3, "rents", "()I"⟩
abbrev cX3_frosts : ByteArray := prog_1_method_35_code
def yX3_frosts : MethodName := ⟨RX3, "frosts", "(I)I"⟩
abbrev cX3_odds : ByteArray := prog_1_method_36_code
def yX3_odds : MethodName := ⟨RX3, "odds", "(III)J"⟩
abbrev cX3_commonWithTen : ByteArray := prog_1_method_37_code
def yX3_commonWithTen : MethodName := ⟨RX3, "commonWithTen", "(I)I"⟩
abbrev cX3_seed : ByteArray := prog_1_method_38_code
def yX3_seed : MethodName := ⟨RX3, "seed", "(I)I"⟩
abbrev cX3_feed : ByteArray := prog_1_method_39_code
def yX3_feed : MethodName := ⟨RX3, "feed", "(II)I"⟩
abbrev cX3_wipe : ByteArray := prog_1_method_40_code
def yX3_wipe : MethodName := ⟨RX3, "wipe", "()I"⟩
abbrev cX3_text : ByteArray := prog_1_method_41_code
def yX3_text : MethodName := ⟨RX3, "text", "()I"⟩
abbrev cX3_hold : ByteArray := prog_1_method_42_code
def yX3_hold : MethodName := ⟨RX3, "hold", "(II)I"⟩
abbrev cX3_as : ByteArray := prog_1_method_43_code
def yX3_as : MethodName := ⟨RX3, "as", "(II)I"⟩
abbrev cX3_sheet : ByteArray := prog_1_method_44_code
def yX3_sheet : MethodName := ⟨RX3, "sheet", "(III)I"⟩
abbrev cX3_write : ByteArray := prog_1_method_45_code
def yX3_write : MethodName := ⟨RX3, "write", "(III)I"⟩
abbrev cX3_copy : ByteArray := prog_1_method_46_code
def yX3_copy : MethodName := ⟨RX3, "copy", "(IIIII)I"⟩
abbrev cX3_load : ByteArray := prog_1_method_47_code
def yX3_load : MethodName := ⟨RX3, "load", "(I)I"⟩
abbrev cX3_judge : ByteArray := prog_1_method_48_code
def yX3_judge : MethodName := ⟨RX3, "judge", "(I)I"⟩
abbrev cX3_image : ByteArray := prog_1_method_49_code
def yX3_image : MethodName := ⟨RX3, "image", "()I"⟩
abbrev cX3_undo : ByteArray := prog_1_method_50_code
def yX3_undo : MethodName := ⟨RX3, "undo", "()I"⟩
abbrev cX3_tear : ByteArray := prog_1_method_51_code
def yX3_tear : MethodName := ⟨RX3, "tear", "()I"⟩
abbrev cX3_count : ByteArray := prog_1_method_52_code
def yX3_count : MethodName := ⟨RX3, "count", "(I)I"⟩
abbrev cX3_status : ByteArray := prog_1_method_53_code
def yX3_status : MethodName := ⟨RX3, "status", "(I)I"⟩
abbrev cX3_finding : ByteArray := prog_1_method_54_code
def yX3_finding : MethodName := ⟨RX3, "finding", "(I)I"⟩
abbrev cX3_sheetAt : ByteArray := prog_1_method_55_code
def yX3_sheetAt : MethodName := ⟨RX3, "sheetAt", "(I)LDownhillWhispers$Sheet;"⟩
abbrev cX3_isWithin : ByteArray := prog_1_method_56_code
def yX3_isWithin : MethodName := ⟨RX3, "isWithin", "(III)Z"⟩
abbrev cX3_isCorner : ByteArray := prog_1_method_57_code
def yX3_isCorner : MethodName := ⟨RX3, "isCorner", "(I)Z"⟩
abbrev cX3_isKind : ByteArray := prog_1_method_58_code
def yX3_isKind : MethodName := ⟨RX3, "isKind", "(I)Z"⟩
abbrev cX3_isSet : ByteArray := prog_1_method_59_code
def yX3_isSet : MethodName := ⟨RX3, "isSet", "(I)Z"⟩
abbrev cX3_isIn : ByteArray := prog_1_method_60_code
def yX3_isIn : MethodName := ⟨RX3, "isIn", "(II)Z"⟩
abbrev cX3_isTrait : ByteArray := prog_1_method_61_code
def yX3_isTrait : MethodName := ⟨RX3, "isTrait", "(II)Z"⟩
abbrev cX3_isQuality : ByteArray := prog_1_method_62_code
def yX3_isQuality : MethodName := ⟨RX3, "isQuality", "(II)Z"⟩
abbrev cX3_isUnder : ByteArray := prog_1_method_63_code
def yX3_isUnder : MethodName := ⟨RX3, "isUnder", "(II)Z"⟩
abbrev cX3_put : ByteArray := prog_1_method_64_code
def yX3_put : MethodName := ⟨RX3, "put", "([III)V"⟩
abbrev cX3_copyRow : ByteArray := prog_1_method_65_code
def yX3_copyRow : MethodName := ⟨RX3, "copyRow", "([I[I)V"⟩
def RX4 : String := "DownhillWhispersModel"
def TX4 : u_T := fun k => match k with
  | 0 => ("DownhillWhispersModel", "s", "[I", true)
  | 1 => ("DownhillWhispersModel", "kept", "[I", true)
  | 2 => ("DownhillWhispersModel", "aside", "[I", true)
  | 3 => ("DownhillWhispersModel", "isKept", "Z", false)
  | 4 => ("DownhillWhispersModel", "found", "[I", true)
  | 5 => ("DownhillWhispersModel", "by", "I", false)
  | 6 => ("DownhillWhispersModel", "watched", "I", false)
  | 7 => ("DownhillWhispersModel", "bestPlace", "I", false)
  | 8 => ("DownhillWhispersModel", "placeMany", "I", false)
  | 9 => ("DownhillWhispersModel", "bestSand", "I", false)
  | 10 => ("DownhillWhispersModel", "leastCost", "I", false)
  | 11 => ("DownhillWhispersModel", "sandWas", "[I", true)
  | 12 => ("DownhillWhispersModel", "fitMany", "I", false)
  | 13 => ("DownhillWhispersModel", "firstFit", "I", false)
  | 14 => ("DownhillWhispersModel", "tape", "[I", true)
  | 15 => ("DownhillWhispersModel", "taped", "I", false)
  | 16 => ("DownhillWhispersModel", "from", "I", false)
  | 17 => ("DownhillWhispersModel", "to", "I", false)
  | 18 => ("DownhillWhispersModel", "isWrong", "Z", false)
  | 19 => ("DownhillWhispersModel", "bitsOf", "[I", true)
  | 20 => ("DownhillWhispersModel", "sizeOf", "[I", true)
  | 21 => ("DownhillWhispersModel", "number", "[I", true)
  | _ => ("DownhillWhispersModel", "moved", "[I", true)
def tyX4 : Nat → FieldType := fun k => match k with
  | 0 => .array .int
  | 1 => .array .int
  | 2 => .array .int
  | 3 => .boolean
  | 4 => .array .int
  | 5 => .int
  | 6 => .int
  | 7 => .int
  | 8 => .int
  | 9 => .int
  | 10 => .int
  | 11 => .array .int
  | 12 => .int
  | 13 => .int
  | 14 => .array .int
  | 15 => .int
  | 16 => .int
  | 17 => .int
  | 18 => .boolean
  | 19 => .array .int
  | 20 => .array .int
  | 21 => .array .int
  | _ => .array .int
abbrev wsX40 : List Cond := u_ws RX4 TX4 23
theorem nmX4 : ∀ a, a < 23 → ∀ b, b < 23 → a ≠ b → (TX4 a).2.1 ≠ (TX4 b).2.1 := by decide +kernel
theorem tyX4_ok : ∀ k, k < 23 → parseFieldDescriptor (TX4 k).2.2.1 = some (tyX4 k) := by decide +kernel
abbrev cX4_init : ByteArray := prog_6_method_1_code
def yX4_init : MethodName := ⟨RX4, "<init>", "()V"⟩
abbrev cX4_finds : ByteArray := prog_6_method_2_code
def yX4_finds : MethodName := ⟨RX4, "finds", "(I)I"⟩
abbrev cX4_in : ByteArray := prog_6_method_3_code
def yX4_in : MethodName := ⟨RX4, "in", "(JJJ)Z"⟩
abbrev cX4_become : ByteArray := prog_6_method_4_code
def yX4_become : MethodName := ⟨RX4, "become", "([I[I)V"⟩
abbrev cX4_lends : ByteArray := prog_6_method_5_code
def yX4_lends : MethodName := ⟨RX4, "lends", "()V"⟩
abbrev cX4_laysBack : ByteArray := prog_6_method_6_code
def yX4_laysBack : MethodName := ⟨RX4, "laysBack", "()V"⟩
abbrev cX4_isCorner : ByteArray := prog_6_method_7_code
def yX4_isCorner : MethodName := ⟨RX4, "isCorner", "(I)Z"⟩
abbrev cX4_isWhisper : ByteArray := prog_6_method_8_code
def yX4_isWhisper : MethodName := ⟨RX4, "isWhisper", "(I)Z"⟩
abbrev cX4_isSet : ByteArray := prog_6_method_9_code
def yX4_isSet : MethodName := ⟨RX4, "isSet", "(I)Z"⟩
abbrev cX4_part : ByteArray := prog_6_method_10_code
def yX4_part : MethodName := ⟨RX4, "part", "(II)I"⟩
abbrev cX4_builds : ByteArray := prog_6_method_11_code
def yX4_builds : MethodName := ⟨RX4, "builds", "(III)V"⟩
abbrev cX4_its : ByteArray := prog_6_method_12_code
def yX4_its : MethodName := ⟨RX4, "its", "(II)I"⟩
abbrev cX4_sets : ByteArray := prog_6_method_13_code
def yX4_sets : MethodName := ⟨RX4, "sets", "(III)V"⟩
abbrev cX4_becomes : ByteArray := prog_6_method_14_code
def yX4_becomes : MethodName := ⟨RX4, "becomes", "(II)I"⟩
abbrev cX4_steep : ByteArray := prog_6_method_15_code
def yX4_steep : MethodName := ⟨RX4, "steep", "(I)I"⟩
abbrev cX4_loudAt : ByteArray := prog_6_method_16_code
def yX4_loudAt : MethodName := ⟨RX4, "loudAt", "(I)I"⟩
abbrev cX4_isHeard : ByteArray := prog_6_method_17_code
def yX4_isHeard : MethodName := ⟨RX4, "isHeard", "(I)Z"⟩
abbrev cX4_rent : ByteArray := prog_6_method_18_code
def yX4_rent : MethodName := ⟨RX4, "rent", "(I)I"⟩
abbrev cX4_corner : ByteArray := prog_6_method_19_code
def yX4_corner : MethodName := ⟨RX4, "corner", "(II)I"⟩
abbrev cX4_mostOf : ByteArray := prog_6_method_20_code
def yX4_mostOf : MethodName := ⟨RX4, "mostOf", "(I)I"⟩
abbrev cX4_build : ByteArray := prog_6_method_21_code
def yX4_build : MethodName := ⟨RX4, "build", "(III)I"⟩
abbrev cX4_aboveOf : ByteArray := prog_6_method_22_code
def yX4_aboveOf : MethodName := ⟨RX4, "aboveOf", "(I)I"⟩
abbrev cX4_isUnder : ByteArray := prog_6_method_23_code
def yX4_isUnder : MethodName := ⟨RX4, "isUnder", "(II)Z"⟩
abbrev cX4_speed : ByteArray := prog_6_method_24_code
def yX4_speed : MethodName := ⟨RX4, "speed", "(I)I"⟩
abbrev cX4_gathers : ByteArray := prog_6_method_25_code
def yX4_gathers : MethodName := ⟨RX4, "gathers", "(I)I"⟩
abbrev cX4_isKind : ByteArray := prog_6_method_26_code
def yX4_isKind : MethodName := ⟨RX4, "isKind", "(I)Z"⟩
abbrev cX4_adds : ByteArray := prog_6_method_27_code
def yX4_adds : MethodName := ⟨RX4, "adds", "(III)I"⟩
abbrev cX4_says : ByteArray := prog_6_method_28_code
def yX4_says : MethodName := ⟨RX4, "says", "(II)I"⟩
abbrev cX4_of : ByteArray := prog_6_method_29_code
def yX4_of : MethodName := ⟨RX4, "of", "(II)I"⟩
abbrev cX4_mayBe : ByteArray := prog_6_method_30_code
def yX4_mayBe : MethodName := ⟨RX4, "mayBe", "(II)Z"⟩
abbrev cX4_change : ByteArray := prog_6_method_31_code
def yX4_change : MethodName := ⟨RX4, "change", "(III)I"⟩
abbrev cX4_aunts : ByteArray := prog_6_method_32_code
def yX4_aunts : MethodName := ⟨RX4, "aunts", "(I)I"⟩
abbrev cX4_frost : ByteArray := prog_6_method_33_code
def yX4_frost : MethodName := ⟨RX4, "frost", "(I)I"⟩
abbrev cX4_rolls : ByteArray := prog_6_method_34_code
def yX4_rolls : MethodName := ⟨RX4, "rolls", "(I)V"⟩
abbrev cX4_aMinute : ByteArray := prog_6_method_35_code
def yX4_aMinute : MethodName := ⟨RX4, "aMinute", "()V"⟩
abbrev cX4_minutes : ByteArray := prog_6_method_36_code
def yX4_minutes : MethodName := ⟨RX4, "minutes", "(I)V"⟩
abbrev cX4_go : ByteArray := prog_6_method_37_code
def yX4_go : MethodName := ⟨RX4, "go", "(I)I"⟩
abbrev cX4_allWeight : ByteArray := prog_6_method_38_code
def yX4_allWeight : MethodName := ⟨RX4, "allWeight", "()I"⟩
abbrev cX4_cornersThat : ByteArray := prog_6_method_39_code
def yX4_cornersThat : MethodName := ⟨RX4, "cornersThat", "(Z)I"⟩
abbrev cX4_now : ByteArray := prog_6_method_40_code
def yX4_now : MethodName := ⟨RX4, "now", "(I)I"⟩
abbrev cX4_merge : ByteArray := prog_6_method_41_code
def yX4_merge : MethodName := ⟨RX4, "merge", "(I)I"⟩
abbrev cX4_isAhead : ByteArray := prog_6_method_42_code
def yX4_isAhead : MethodName := ⟨RX4, "isAhead", "(I)Z"⟩
abbrev cX4_ahead : ByteArray := prog_6_method_43_code
def yX4_ahead : MethodName := ⟨RX4, "ahead", "(II)I"⟩
abbrev cX4_loudBy : ByteArray := prog_6_method_44_code
def yX4_loudBy : MethodName := ⟨RX4, "loudBy", "(II)I"⟩
abbrev cX4_loud : ByteArray := prog_6_method_45_code
def yX4_loud : MethodName := ⟨RX4, "loud", "(II)I"⟩
abbrev cX4_heard : ByteArray := prog_6_method_46_code
def yX4_heard : MethodName := ⟨RX4, "heard", "(I)I"⟩
abbrev cX4_moves : ByteArray := prog_6_method_47_code
def yX4_moves : MethodName := ⟨RX4, "moves", "(I)Z"⟩
abbrev cX4_isStill : ByteArray := prog_6_method_48_code
def yX4_isStill : MethodName := ⟨RX4, "isStill", "()Z"⟩
abbrev cX4_still : ByteArray := prog_6_method_49_code
def yX4_still : MethodName := ⟨RX4, "still", "()I"⟩
abbrev cX4_comesHome : ByteArray := prog_6_method_50_code
def yX4_comesHome : MethodName := ⟨RX4, "comesHome", "(I)I"⟩
abbrev cX4_harbour : ByteArray := prog_6_method_51_code
def yX4_harbour : MethodName := ⟨RX4, "harbour", "(I)I"⟩
abbrev cX4_loudest : ByteArray := prog_6_method_52_code
def yX4_loudest : MethodName := ⟨RX4, "loudest", "(II)I"⟩
abbrev cX4_heightOf : ByteArray := prog_6_method_53_code
def yX4_heightOf : MethodName := ⟨RX4, "heightOf", "(I)I"⟩
abbrev cX4_overtakes : ByteArray := prog_6_method_54_code
def yX4_overtakes : MethodName := ⟨RX4, "overtakes", "(II)I"⟩
abbrev cX4_kindFor : ByteArray := prog_6_method_55_code
def yX4_kindFor : MethodName := ⟨RX4, "kindFor", "(I)I"⟩
abbrev cX4_goesFrom : ByteArray := prog_6_method_56_code
def yX4_goesFrom : MethodName := ⟨RX4, "goesFrom", "(II)I"⟩
abbrev cX4_goesBy : ByteArray := prog_6_method_57_code
def yX4_goesBy : MethodName := ⟨RX4, "goesBy", "(I)I"⟩
abbrev cX4_findPlaces : ByteArray := prog_6_method_58_code
def yX4_findPlaces : MethodName := ⟨RX4, "findPlaces", "(III)V"⟩
abbrev cX4_arePlaces : ByteArray := prog_6_method_59_code
def yX4_arePlaces : MethodName := ⟨RX4, "arePlaces", "(III)Z"⟩
abbrev cX4_where : ByteArray := prog_6_method_60_code
def yX4_where : MethodName := ⟨RX4, "where", "(III)I"⟩
abbrev cX4_places : ByteArray := prog_6_method_61_code
def yX4_places : MethodName := ⟨RX4, "places", "(III)I"⟩
abbrev cX4_isShort : ByteArray := prog_6_method_62_code
def yX4_isShort : MethodName := ⟨RX4, "isShort", "(I)Z"⟩
abbrev cX4_weightFor : ByteArray := prog_6_method_63_code
def yX4_weightFor : MethodName := ⟨RX4, "weightFor", "(III)I"⟩
abbrev cX4_costOf : ByteArray := prog_6_method_64_code
def yX4_costOf : MethodName := ⟨RX4, "costOf", "(I)I"⟩
abbrev cX4_loudWith : ByteArray := prog_6_method_65_code
def yX4_loudWith : MethodName := ⟨RX4, "loudWith", "(III)I"⟩
abbrev cX4_findSand : ByteArray := prog_6_method_66_code
def yX4_findSand : MethodName := ⟨RX4, "findSand", "(III)V"⟩
abbrev cX4_isQuiet : ByteArray := prog_6_method_67_code
def yX4_isQuiet : MethodName := ⟨RX4, "isQuiet", "(III)Z"⟩
abbrev cX4_sand : ByteArray := prog_6_method_68_code
def yX4_sand : MethodName := ⟨RX4, "sand", "(III)I"⟩
abbrev cX4_costs : ByteArray := prog_6_method_69_code
def yX4_costs : MethodName := ⟨RX4, "costs", "(III)I"⟩
abbrev cX4_aunt : ByteArray := prog_6_method_70_code
def yX4_aunt : MethodName := ⟨RX4, "aunt", "(I)I"⟩
abbrev cX4_isAsTold : ByteArray := prog_6_method_71_code
def yX4_isAsTold : MethodName := ⟨RX4, "isAsTold", "(I)Z"⟩
abbrev cX4_findFits : ByteArray := prog_6_method_72_code
def yX4_findFits : MethodName := ⟨RX4, "findFits", "(II)V"⟩
abbrev cX4_lacksFits : ByteArray := prog_6_method_73_code
def yX4_lacksFits : MethodName := ⟨RX4, "lacksFits", "(II)I"⟩
abbrev cX4_fits : ByteArray := prog_6_method_74_code
def yX4_fits : MethodName := ⟨RX4, "fits", "(II)I"⟩
abbrev cX4_said : ByteArray := prog_6_method_75_code
def yX4_said : MethodName := ⟨RX4, "said", "(II)I"⟩
abbrev cX4_dearest : ByteArray := prog_6_method_76_code
def yX4_dearest : MethodName := ⟨RX4, "dearest", "()I"⟩
abbrev cX4_rents : ByteArray := prog_6_method_77_code
def yX4_rents : MethodName := ⟨RX4, "rents", "()I"⟩
abbrev cX4_draw : ByteArray := prog_6_method_78_code
def yX4_draw : MethodName := ⟨RX4, "draw", "()I"⟩
abbrev cX4_frosts : ByteArray := prog_6_method_79_code
def yX4_frosts : MethodName := ⟨RX4, "frosts", "(I)I"⟩
abbrev cX4_odds : ByteArray := prog_6_method_80_code
def yX4_odds : MethodName := ⟨RX4, "odds", "(III)J"⟩
abbrev cX4_seed : ByteArray := prog_6_method_81_code
def yX4_seed : MethodName := ⟨RX4, "seed", "(I)I"⟩
abbrev cX4_feed : ByteArray := prog_6_method_82_code
def yX4_feed : MethodName := ⟨RX4, "feed", "(II)I"⟩
abbrev cX4_wipe : ByteArray := prog_6_method_83_code
def yX4_wipe : MethodName := ⟨RX4, "wipe", "()I"⟩
abbrev cX4_isByte : ByteArray := prog_6_method_84_code
def yX4_isByte : MethodName := ⟨RX4, "isByte", "(III)Z"⟩
abbrev cX4_next : ByteArray := prog_6_method_85_code
def yX4_next : MethodName := ⟨RX4, "next", "()V"⟩
abbrev cX4_isWord : ByteArray := prog_6_method_86_code
def yX4_isWord : MethodName := ⟨RX4, "isWord", "(Ljava/lang/String;)Z"⟩
abbrev cX4_must : ByteArray := prog_6_method_87_code
def yX4_must : MethodName := ⟨RX4, "must", "(Z)V"⟩
abbrev cX4_takes : ByteArray := prog_6_method_88_code
def yX4_takes : MethodName := ⟨RX4, "takes", "(Ljava/lang/String;)Z"⟩
abbrev cX4_numberRead : ByteArray := prog_6_method_89_code
def yX4_numberRead : MethodName := ⟨RX4, "numberRead", "(II)I"⟩
abbrev cX4_kindHere : ByteArray := prog_6_method_90_code
def yX4_kindHere : MethodName := ⟨RX4, "kindHere", "()I"⟩
abbrev cX4_whisperTold : ByteArray := prog_6_method_91_code
def yX4_whisperTold : MethodName := ⟨RX4, "whisperTold", "(I)V"⟩
abbrev cX4_partTold : ByteArray := prog_6_method_92_code
def yX4_partTold : MethodName := ⟨RX4, "partTold", "(ILjava/lang/String;I)V"⟩
abbrev cX4_item : ByteArray := prog_6_method_93_code
def yX4_item : MethodName := ⟨RX4, "item", "()V"⟩
abbrev cX4_text : ByteArray := prog_6_method_94_code
def yX4_text : MethodName := ⟨RX4, "text", "()I"⟩
abbrev cX4_isSpot : ByteArray := prog_6_method_95_code
def yX4_isSpot : MethodName := ⟨RX4, "isSpot", "(I)Z"⟩
abbrev cX4_hold : ByteArray := prog_6_method_96_code
def yX4_hold : MethodName := ⟨RX4, "hold", "(II)I"⟩
abbrev cX4_as : ByteArray := prog_6_method_97_code
def yX4_as : MethodName := ⟨RX4, "as", "(II)I"⟩
abbrev cX4_isSheet : ByteArray := prog_6_method_98_code
def yX4_isSheet : MethodName := ⟨RX4, "isSheet", "(I)Z"⟩
abbrev cX4_sheet : ByteArray := prog_6_method_99_code
def yX4_sheet : MethodName := ⟨RX4, "sheet", "(III)I"⟩
abbrev cX4_lacks : ByteArray := prog_6_method_100_code
def yX4_lacks : MethodName := ⟨RX4, "lacks", "(I)I"⟩
abbrev cX4_write : ByteArray := prog_6_method_101_code
def yX4_write : MethodName := ⟨RX4, "write", "(III)I"⟩
abbrev cX4_copy : ByteArray := prog_6_method_102_code
def yX4_copy : MethodName := ⟨RX4, "copy", "(IIIII)I"⟩
abbrev cX4_load : ByteArray := prog_6_method_103_code
def yX4_load : MethodName := ⟨RX4, "load", "(I)I"⟩
abbrev cX4_judge : ByteArray := prog_6_method_104_code
def yX4_judge : MethodName := ⟨RX4, "judge", "(I)I"⟩
abbrev cX4_image : ByteArray := prog_6_method_105_code
def yX4_image : MethodName := ⟨RX4, "image", "()I"⟩
abbrev cX4_undo : ByteArray := prog_6_method_106_code
def yX4_undo : MethodName := ⟨RX4, "undo", "()I"⟩
abbrev cX4_tear : ByteArray := prog_6_method_107_code
def yX4_tear : MethodName := ⟨RX4, "tear", "()I"⟩
abbrev cX4_atHarbour : ByteArray := prog_6_method_108_code
def yX4_atHarbour : MethodName := ⟨RX4, "atHarbour", "()I"⟩
abbrev cX4_allSand : ByteArray := prog_6_method_109_code
def yX4_allSand : MethodName := ⟨RX4, "allSand", "()I"⟩
abbrev cX4_held : ByteArray := prog_6_method_110_code
def yX4_held : MethodName := ⟨RX4, "held", "()I"⟩
abbrev cX4_count : ByteArray := prog_6_method_111_code
def yX4_count : MethodName := ⟨RX4, "count", "(I)I"⟩
abbrev cX4_status : ByteArray := prog_6_method_112_code
def yX4_status : MethodName := ⟨RX4, "status", "(I)I"⟩
def RJ6 : String := "java/lang/Integer"
def TJ6 : u_T := fun k => match k with
  | _ => ("", "", "", false)
def tyJ6 : Nat → FieldType := fun k => match k with
  | _ => .int
abbrev wsJ60 : List Cond := u_ws RJ6 TJ6 0
theorem nmJ6 : ∀ a, a < 0 → ∀ b, b < 0 → a ≠ b → (TJ6 a).2.1 ≠ (TJ6 b).2.1 := by decide +kernel
theorem tyJ6_ok : ∀ k, k < 0 → parseFieldDescriptor (TJ6 k).2.2.1 = some (tyJ6 k) := by decide +kernel
abbrev cJ6_bitCount_0f7a4 : ByteArray := prog_7_method_49_code
def yJ6_bitCount_0f7a4 : MethodName := ⟨RJ6, "bitCount", "(I)I"⟩
def RJ9 : String := "java/lang/Math"
def TJ9 : u_T := fun k => match k with
  | _ => ("", "", "", false)
def tyJ9 : Nat → FieldType := fun k => match k with
  | _ => .int
abbrev wsJ90 : List Cond := u_ws RJ9 TJ9 0
theorem nmJ9 : ∀ a, a < 0 → ∀ b, b < 0 → a ≠ b → (TJ9 a).2.1 ≠ (TJ9 b).2.1 := by decide +kernel
theorem tyJ9_ok : ∀ k, k < 0 → parseFieldDescriptor (TJ9 k).2.2.1 = some (tyJ9 k) := by decide +kernel
abbrev cJ9_max_7cf53 : ByteArray := prog_8_method_65_code
def yJ9_max_7cf53 : MethodName := ⟨RJ9, "max", "(II)I"⟩
abbrev cJ9_min_7cf53 : ByteArray := prog_8_method_69_code
def yJ9_min_7cf53 : MethodName := ⟨RJ9, "min", "(II)I"⟩
def RJ0 : String := "java/lang/String"
def TJ0 : u_T := fun k => match k with
  | _ => ("", "", "", false)
def tyJ0 : Nat → FieldType := fun k => match k with
  | _ => .int
abbrev wsJ00 : List Cond := u_ws RJ0 TJ0 0
theorem nmJ0 : ∀ a, a < 0 → ∀ b, b < 0 → a ≠ b → (TJ0 a).2.1 ≠ (TJ0 b).2.1 := by decide +kernel
theorem tyJ0_ok : ∀ k, k < 0 → parseFieldDescriptor (TJ0 k).2.2.1 = some (tyJ0 k) := by decide +kernel
abbrev cJ0_length_8abf5 : ByteArray := prog_9_method_54_code
def yJ0_length_8abf5 : MethodName := ⟨RJ0, "length", "()I"⟩
abbrev cJ0_charAt_5068e : ByteArray := prog_9_method_56_code
def yJ0_charAt_5068e : MethodName := ⟨RJ0, "charAt", "(I)C"⟩
abbrev cJ0_coder_7d493 : ByteArray := prog_9_method_152_code
def yJ0_coder_7d493 : MethodName := ⟨RJ0, "coder", "()B"⟩
abbrev cJ0_isLatin1_aae02 : ByteArray := prog_9_method_154_code
def yJ0_isLatin1_aae02 : MethodName := ⟨RJ0, "isLatin1", "()Z"⟩
abbrev cJ0_checkIndex_df160 : ByteArray := prog_9_method_155_code
def yJ0_checkIndex_df160 : MethodName := ⟨RJ0, "checkIndex", "(II)V"⟩
def RJ1 : String := "java/lang/StringLatin1"
def TJ1 : u_T := fun k => match k with
  | _ => ("", "", "", false)
def tyJ1 : Nat → FieldType := fun k => match k with
  | _ => .int
abbrev wsJ10 : List Cond := u_ws RJ1 TJ1 0
theorem nmJ1 : ∀ a, a < 0 → ∀ b, b < 0 → a ≠ b → (TJ1 a).2.1 ≠ (TJ1 b).2.1 := by decide +kernel
theorem tyJ1_ok : ∀ k, k < 0 → parseFieldDescriptor (TJ1 k).2.2.1 = some (tyJ1 k) := by decide +kernel
abbrev cJ1_charAt_3b067 : ByteArray := prog_10_method_2_code
def yJ1_charAt_3b067 : MethodName := ⟨RJ1, "charAt", "([BI)C"⟩
def RJ2 : String := "java/lang/StringUTF16"
def TJ2 : u_T := fun k => match k with
  | _ => ("", "", "", false)
def tyJ2 : Nat → FieldType := fun k => match k with
  | _ => .int
abbrev wsJ20 : List Cond := u_ws RJ2 TJ2 0
theorem nmJ2 : ∀ a, a < 0 → ∀ b, b < 0 → a ≠ b → (TJ2 a).2.1 ≠ (TJ2 b).2.1 := by decide +kernel
theorem tyJ2_ok : ∀ k, k < 0 → parseFieldDescriptor (TJ2 k).2.2.1 = some (tyJ2 k) := by decide +kernel
abbrev cJ2_getChar_3b067 : ByteArray := prog_11_method_5_code
def yJ2_getChar_3b067 : MethodName := ⟨RJ2, "getChar", "([BI)C"⟩
abbrev cJ2_length_9d52b : ByteArray := prog_11_method_6_code
def yJ2_length_9d52b : MethodName := ⟨RJ2, "length", "([B)I"⟩
abbrev cJ2_charAt_3b067 : ByteArray := prog_11_method_83_code
def yJ2_charAt_3b067 : MethodName := ⟨RJ2, "charAt", "([BI)C"⟩
abbrev cJ2_checkIndex_2214a : ByteArray := prog_11_method_91_code
def yJ2_checkIndex_2214a : MethodName := ⟨RJ2, "checkIndex", "(I[B)V"⟩
def RJ10 : String := "java/lang/System"
def TJ10 : u_T := fun k => match k with
  | _ => ("", "", "", false)
def tyJ10 : Nat → FieldType := fun k => match k with
  | _ => .int
abbrev wsJ100 : List Cond := u_ws RJ10 TJ10 0
theorem nmJ10 : ∀ a, a < 0 → ∀ b, b < 0 → a ≠ b → (TJ10 a).2.1 ≠ (TJ10 b).2.1 := by decide +kernel
theorem tyJ10_ok : ∀ k, k < 0 → parseFieldDescriptor (TJ10 k).2.2.1 = some (tyJ10 k) := by decide +kernel
def RJ3 : String := "jdk/internal/util/Preconditions"
def TJ3 : u_T := fun k => match k with
  | _ => ("", "", "", false)
def tyJ3 : Nat → FieldType := fun k => match k with
  | _ => .int
abbrev wsJ30 : List Cond := u_ws RJ3 TJ3 0
theorem nmJ3 : ∀ a, a < 0 → ∀ b, b < 0 → a ≠ b → (TJ3 a).2.1 ≠ (TJ3 b).2.1 := by decide +kernel
theorem tyJ3_ok : ∀ k, k < 0 → parseFieldDescriptor (TJ3 k).2.2.1 = some (tyJ3 k) := by decide +kernel
abbrev cJ3_checkIndex_8e157 : ByteArray := prog_13_method_11_code
def yJ3_checkIndex_8e157 : MethodName := ⟨RJ3, "checkIndex", "(IILjava/util/function/BiFunction;)I"⟩
def RL : String := "DownhillWhispersLaw"
abbrev cL_law : ByteArray := code
def yL_law : MethodName := ⟨RL, "law", "([I)Z"⟩
end
section
theorem dX0_init_0 : decode cX0_init 0 = .ok (.aload_n 0, 1) := by decide +kernel
theorem dX0_init_1 : decode cX0_init 1 = .ok (.invokespecial 3, 3) := by decide +kernel
theorem dX0_init_4 : decode cX0_init 4 = .ok (.aload_n 0, 1) := by decide +kernel
theorem dX0_init_5 : decode cX0_init 5 = .ok (.bipush 40, 2) := by decide +kernel
theorem dX0_init_7 : decode cX0_init 7 = .ok (.newarray .int, 2) := by decide +kernel
theorem dX0_init_9 : decode cX0_init 9 = .ok (.putfield 9, 3) := by decide +kernel
theorem dX0_init_12 : decode cX0_init 12 = .ok (.return_, 1) := by decide +kernel
theorem dX0_isMissing_0 : decode cX0_isMissing 0 = .ok (.aload_n 0, 1) := by decide +kernel
theorem dX0_isMissing_1 : decode cX0_isMissing 1 = .ok (.getfield 15, 3) := by decide +kernel
theorem dX0_isMissing_4 : decode cX0_isMissing 4 = .ok (.ifCond .ne 7, 3) := by decide +kernel
theorem dX0_isMissing_7 : decode cX0_isMissing 7 = .ok (.iconst 1, 1) := by decide +kernel
theorem dX0_isMissing_8 : decode cX0_isMissing 8 = .ok (.goto 4, 3) := by decide +kernel
theorem dX0_isMissing_11 : decode cX0_isMissing 11 = .ok (.iconst 0, 1) := by decide +kernel
theorem dX0_isMissing_12 : decode cX0_isMissing 12 = .ok (.ireturn, 1) := by decide +kernel
theorem dX0_begin_0 : decode cX0_begin 0 = .ok (.aload_n 0, 1) := by decide +kernel
theorem dX0_begin_1 : decode cX0_begin 1 = .ok (.iload_n 1, 1) := by decide +kernel
theorem dX0_begin_2 : decode cX0_begin 2 = .ok (.putfield 15, 3) := by decide +kernel
theorem dX0_begin_5 : decode cX0_begin 5 = .ok (.aload_n 0, 1) := by decide +kernel
theorem dX0_begin_6 : decode cX0_begin 6 = .ok (.iload_n 2, 1) := by decide +kernel
theorem dX0_begin_7 : decode cX0_begin 7 = .ok (.putfield 19, 3) := by decide +kernel
theorem dX0_begin_10 : decode cX0_begin 10 = .ok (.iconst 0, 1) := by decide +kernel
theorem dX0_begin_11 : decode cX0_begin 11 = .ok (.istore_n 3, 1) := by decide +kernel
theorem dX0_begin_12 : decode cX0_begin 12 = .ok (.iload_n 3, 1) := by decide +kernel
theorem dX0_begin_13 : decode cX0_begin 13 = .ok (.aload_n 0, 1) := by decide +kernel
theorem dX0_begin_14 : decode cX0_begin 14 = .ok (.getfield 9, 3) := by decide +kernel
theorem dX0_begin_17 : decode cX0_begin 17 = .ok (.arraylength, 1) := by decide +kernel
theorem dX0_begin_18 : decode cX0_begin 18 = .ok (.if_icmp .ge 16, 3) := by decide +kernel
theorem dX0_begin_21 : decode cX0_begin 21 = .ok (.aload_n 0, 1) := by decide +kernel
theorem dX0_begin_22 : decode cX0_begin 22 = .ok (.getfield 9, 3) := by decide +kernel
theorem dX0_begin_25 : decode cX0_begin 25 = .ok (.iload_n 3, 1) := by decide +kernel
theorem dX0_begin_26 : decode cX0_begin 26 = .ok (.iconst 0, 1) := by decide +kernel
theorem dX0_begin_27 : decode cX0_begin 27 = .ok (.iastore, 1) := by decide +kernel
theorem dX0_begin_28 : decode cX0_begin 28 = .ok (.iinc 3 1, 3) := by decide +kernel
theorem dX0_begin_31 : decode cX0_begin 31 = .ok (.goto (-19), 3) := by decide +kernel
theorem dX0_begin_34 : decode cX0_begin 34 = .ok (.return_, 1) := by decide +kernel
theorem dX0_number_0 : decode cX0_number 0 = .ok (.iload_n 1, 1) := by decide +kernel
theorem dX0_number_1 : decode cX0_number 1 = .ok (.ifCond .lt 21, 3) := by decide +kernel
theorem dX0_number_4 : decode cX0_number 4 = .ok (.iload_n 1, 1) := by decide +kernel
theorem dX0_number_5 : decode cX0_number 5 = .ok (.aload_n 0, 1) := by decide +kernel
theorem dX0_number_6 : decode cX0_number 6 = .ok (.getfield 9, 3) := by decide +kernel
theorem dX0_number_9 : decode cX0_number 9 = .ok (.arraylength, 1) := by decide +kernel
theorem dX0_number_10 : decode cX0_number 10 = .ok (.if_icmp .ge 12, 3) := by decide +kernel
theorem dX0_number_13 : decode cX0_number 13 = .ok (.aload_n 0, 1) := by decide +kernel
theorem dX0_number_14 : decode cX0_number 14 = .ok (.getfield 9, 3) := by decide +kernel
theorem dX0_number_17 : decode cX0_number 17 = .ok (.iload_n 1, 1) := by decide +kernel
theorem dX0_number_18 : decode cX0_number 18 = .ok (.iaload, 1) := by decide +kernel
theorem dX0_number_19 : decode cX0_number 19 = .ok (.goto 4, 3) := by decide +kernel
theorem dX0_number_22 : decode cX0_number 22 = .ok (.iconst 0, 1) := by decide +kernel
theorem dX0_number_23 : decode cX0_number 23 = .ok (.ireturn, 1) := by decide +kernel
theorem dX0_setNumber_0 : decode cX0_setNumber 0 = .ok (.aload_n 0, 1) := by decide +kernel
theorem dX0_setNumber_1 : decode cX0_setNumber 1 = .ok (.getfield 9, 3) := by decide +kernel
theorem dX0_setNumber_4 : decode cX0_setNumber 4 = .ok (.iload_n 1, 1) := by decide +kernel
theorem dX0_setNumber_5 : decode cX0_setNumber 5 = .ok (.aload_n 0, 1) := by decide +kernel
theorem dX0_setNumber_6 : decode cX0_setNumber 6 = .ok (.getfield 15, 3) := by decide +kernel
theorem dX0_setNumber_9 : decode cX0_setNumber 9 = .ok (.bipush 8, 2) := by decide +kernel
theorem dX0_setNumber_11 : decode cX0_setNumber 11 = .ok (.if_icmp .ne 8, 3) := by decide +kernel
theorem dX0_setNumber_14 : decode cX0_setNumber 14 = .ok (.iload_n 2, 1) := by decide +kernel
theorem dX0_setNumber_15 : decode cX0_setNumber 15 = .ok (.i2b, 1) := by decide +kernel
theorem dX0_setNumber_16 : decode cX0_setNumber 16 = .ok (.goto 18, 3) := by decide +kernel
theorem dX0_setNumber_19 : decode cX0_setNumber 19 = .ok (.aload_n 0, 1) := by decide +kernel
theorem dX0_setNumber_20 : decode cX0_setNumber 20 = .ok (.getfield 15, 3) := by decide +kernel
theorem dX0_setNumber_23 : decode cX0_setNumber 23 = .ok (.bipush 16, 2) := by decide +kernel
theorem dX0_setNumber_25 : decode cX0_setNumber 25 = .ok (.if_icmp .ne 8, 3) := by decide +kernel
theorem dX0_setNumber_28 : decode cX0_setNumber 28 = .ok (.iload_n 2, 1) := by decide +kernel
theorem dX0_setNumber_29 : decode cX0_setNumber 29 = .ok (.i2s, 1) := by decide +kernel
theorem dX0_setNumber_30 : decode cX0_setNumber 30 = .ok (.goto 4, 3) := by decide +kernel
theorem dX0_setNumber_33 : decode cX0_setNumber 33 = .ok (.iload_n 2, 1) := by decide +kernel
theorem dX0_setNumber_34 : decode cX0_setNumber 34 = .ok (.invokestatic 22, 3) := by decide +kernel
theorem dX0_setNumber_37 : decode cX0_setNumber 37 = .ok (.return_, 1) := by decide +kernel
theorem dX0_hasNumbers_0 : decode cX0_hasNumbers 0 = .ok (.aload_n 0, 1) := by decide +kernel
theorem dX0_hasNumbers_1 : decode cX0_hasNumbers 1 = .ok (.getfield 19, 3) := by decide +kernel
theorem dX0_hasNumbers_4 : decode cX0_hasNumbers 4 = .ok (.aload_n 0, 1) := by decide +kernel
theorem dX0_hasNumbers_5 : decode cX0_hasNumbers 5 = .ok (.getfield 9, 3) := by decide +kernel
theorem dX0_hasNumbers_8 : decode cX0_hasNumbers 8 = .ok (.arraylength, 1) := by decide +kernel
theorem dX0_hasNumbers_9 : decode cX0_hasNumbers 9 = .ok (.invokestatic 26, 3) := by decide +kernel
theorem dX0_hasNumbers_12 : decode cX0_hasNumbers 12 = .ok (.istore_n 3, 1) := by decide +kernel
theorem dX0_hasNumbers_13 : decode cX0_hasNumbers 13 = .ok (.iload_n 1, 1) := by decide +kernel
theorem dX0_hasNumbers_14 : decode cX0_hasNumbers 14 = .ok (.ifCond .lt 23, 3) := by decide +kernel
theorem dX0_hasNumbers_17 : decode cX0_hasNumbers 17 = .ok (.iload_n 2, 1) := by decide +kernel
theorem dX0_hasNumbers_18 : decode cX0_hasNumbers 18 = .ok (.ifCond .lt 19, 3) := by decide +kernel
theorem dX0_hasNumbers_21 : decode cX0_hasNumbers 21 = .ok (.iload_n 1, 1) := by decide +kernel
theorem dX0_hasNumbers_22 : decode cX0_hasNumbers 22 = .ok (.iload_n 3, 1) := by decide +kernel
theorem dX0_hasNumbers_23 : decode cX0_hasNumbers 23 = .ok (.if_icmp .gt 14, 3) := by decide +kernel
theorem dX0_hasNumbers_26 : decode cX0_hasNumbers 26 = .ok (.iload_n 2, 1) := by decide +kernel
theorem dX0_hasNumbers_27 : decode cX0_hasNumbers 27 = .ok (.iload_n 3, 1) := by decide +kernel
theorem dX0_hasNumbers_28 : decode cX0_hasNumbers 28 = .ok (.iload_n 1, 1) := by decide +kernel
theorem dX0_hasNumbers_29 : decode cX0_hasNumbers 29 = .ok (.isub, 1) := by decide +kernel
theorem dX0_hasNumbers_30 : decode cX0_hasNumbers 30 = .ok (.if_icmp .gt 7, 3) := by decide +kernel
theorem dX0_hasNumbers_33 : decode cX0_hasNumbers 33 = .ok (.iconst 1, 1) := by decide +kernel
theorem dX0_hasNumbers_34 : decode cX0_hasNumbers 34 = .ok (.goto 4, 3) := by decide +kernel
theorem dX0_hasNumbers_37 : decode cX0_hasNumbers 37 = .ok (.iconst 0, 1) := by decide +kernel
theorem dX0_hasNumbers_38 : decode cX0_hasNumbers 38 = .ok (.ireturn, 1) := by decide +kernel
theorem dX1_init_0 : decode cX1_init 0 = .ok (.aload_n 0, 1) := by decide +kernel
theorem dX1_init_1 : decode cX1_init 1 = .ok (.invokespecial 3, 3) := by decide +kernel
theorem dX1_init_4 : decode cX1_init 4 = .ok (.aload_n 0, 1) := by decide +kernel
theorem dX1_init_5 : decode cX1_init 5 = .ok (.bipush 120, 2) := by decide +kernel
theorem dX1_init_7 : decode cX1_init 7 = .ok (.newarray .int, 2) := by decide +kernel
theorem dX1_init_9 : decode cX1_init 9 = .ok (.putfield 9, 3) := by decide +kernel
theorem dX1_init_12 : decode cX1_init 12 = .ok (.return_, 1) := by decide +kernel
theorem dX1_append_0 : decode cX1_append 0 = .ok (.aload_n 0, 1) := by decide +kernel
theorem dX1_append_1 : decode cX1_append 1 = .ok (.getfield 15, 3) := by decide +kernel
theorem dX1_append_4 : decode cX1_append 4 = .ok (.aload_n 0, 1) := by decide +kernel
theorem dX1_append_5 : decode cX1_append 5 = .ok (.getfield 9, 3) := by decide +kernel
theorem dX1_append_8 : decode cX1_append 8 = .ok (.arraylength, 1) := by decide +kernel
theorem dX1_append_9 : decode cX1_append 9 = .ok (.if_icmp .ge 23, 3) := by decide +kernel
theorem dX1_append_12 : decode cX1_append 12 = .ok (.aload_n 0, 1) := by decide +kernel
theorem dX1_append_13 : decode cX1_append 13 = .ok (.getfield 9, 3) := by decide +kernel
theorem dX1_append_16 : decode cX1_append 16 = .ok (.aload_n 0, 1) := by decide +kernel
theorem dX1_append_17 : decode cX1_append 17 = .ok (.getfield 15, 3) := by decide +kernel
theorem dX1_append_20 : decode cX1_append 20 = .ok (.iload_n 1, 1) := by decide +kernel
theorem dX1_append_21 : decode cX1_append 21 = .ok (.iastore, 1) := by decide +kernel
theorem dX1_append_22 : decode cX1_append 22 = .ok (.aload_n 0, 1) := by decide +kernel
theorem dX1_append_23 : decode cX1_append 23 = .ok (.dup, 1) := by decide +kernel
theorem dX1_append_24 : decode cX1_append 24 = .ok (.getfield 15, 3) := by decide +kernel
theorem dX1_append_27 : decode cX1_append 27 = .ok (.iconst 1, 1) := by decide +kernel
theorem dX1_append_28 : decode cX1_append 28 = .ok (.iadd, 1) := by decide +kernel
theorem dX1_append_29 : decode cX1_append 29 = .ok (.putfield 15, 3) := by decide +kernel
theorem dX1_append_32 : decode cX1_append 32 = .ok (.return_, 1) := by decide +kernel
theorem dX1_clear_0 : decode cX1_clear 0 = .ok (.aload_n 0, 1) := by decide +kernel
theorem dX1_clear_1 : decode cX1_clear 1 = .ok (.iconst 0, 1) := by decide +kernel
theorem dX1_clear_2 : decode cX1_clear 2 = .ok (.putfield 15, 3) := by decide +kernel
theorem dX1_clear_5 : decode cX1_clear 5 = .ok (.return_, 1) := by decide +kernel
theorem dX1_readItems_0 : decode cX1_readItems 0 = .ok (.aload_n 0, 1) := by decide +kernel
theorem dX1_readItems_1 : decode cX1_readItems 1 = .ok (.iconst 0, 1) := by decide +kernel
theorem dX1_readItems_2 : decode cX1_readItems 2 = .ok (.putfield 19, 3) := by decide +kernel
theorem dX1_readItems_5 : decode cX1_readItems 5 = .ok (.aload_n 0, 1) := by decide +kernel
theorem dX1_readItems_6 : decode cX1_readItems 6 = .ok (.invokevirtual 22, 3) := by decide +kernel
theorem dX1_readItems_9 : decode cX1_readItems 9 = .ok (.iconst 1, 1) := by decide +kernel
theorem dX1_readItems_10 : decode cX1_readItems 10 = .ok (.istore_n 2, 1) := by decide +kernel
theorem dX1_readItems_11 : decode cX1_readItems 11 = .ok (.iload_n 2, 1) := by decide +kernel
theorem dX1_readItems_12 : decode cX1_readItems 12 = .ok (.bipush 120, 2) := by decide +kernel
theorem dX1_readItems_14 : decode cX1_readItems 14 = .ok (.if_icmp .gt 44, 3) := by decide +kernel
theorem dX1_readItems_17 : decode cX1_readItems 17 = .ok (.aload_n 0, 1) := by decide +kernel
theorem dX1_readItems_18 : decode cX1_readItems 18 = .ok (.aload_n 1, 1) := by decide +kernel
theorem dX1_readItems_19 : decode cX1_readItems 19 = .ok (.invokevirtual 25, 3) := by decide +kernel
theorem dX1_readItems_22 : decode cX1_readItems 22 = .ok (.ifCond .ne 6, 3) := by decide +kernel
theorem dX1_readItems_25 : decode cX1_readItems 25 = .ok (.goto 33, 3) := by decide +kernel
theorem dX1_readItems_28 : decode cX1_readItems 28 = .ok (.aload_n 0, 1) := by decide +kernel
theorem dX1_readItems_29 : decode cX1_readItems 29 = .ok (.getfield 29, 3) := by decide +kernel
theorem dX1_readItems_32 : decode cX1_readItems 32 = .ok (.ifCond .ne 5, 3) := by decide +kernel
theorem dX1_readItems_35 : decode cX1_readItems 35 = .ok (.iload_n 2, 1) := by decide +kernel
theorem dX1_readItems_36 : decode cX1_readItems 36 = .ok (.ireturn, 1) := by decide +kernel
theorem dX1_readItems_37 : decode cX1_readItems 37 = .ok (.aload_n 0, 1) := by decide +kernel
theorem dX1_readItems_38 : decode cX1_readItems 38 = .ok (.getfield 29, 3) := by decide +kernel
theorem dX1_readItems_41 : decode cX1_readItems 41 = .ok (.iconst 3, 1) := by decide +kernel
theorem dX1_readItems_42 : decode cX1_readItems 42 = .ok (.if_icmp .eq 6, 3) := by decide +kernel
theorem dX1_readItems_45 : decode cX1_readItems 45 = .ok (.goto 13, 3) := by decide +kernel
theorem dX1_readItems_48 : decode cX1_readItems 48 = .ok (.aload_n 0, 1) := by decide +kernel
theorem dX1_readItems_49 : decode cX1_readItems 49 = .ok (.invokevirtual 22, 3) := by decide +kernel
theorem dX1_readItems_52 : decode cX1_readItems 52 = .ok (.iinc 2 1, 3) := by decide +kernel
theorem dX1_readItems_55 : decode cX1_readItems 55 = .ok (.goto (-44), 3) := by decide +kernel
theorem dX1_readItems_58 : decode cX1_readItems 58 = .ok (.iconst (-1), 1) := by decide +kernel
theorem dX1_readItems_59 : decode cX1_readItems 59 = .ok (.aload_n 0, 1) := by decide +kernel
theorem dX1_readItems_60 : decode cX1_readItems 60 = .ok (.getfield 32, 3) := by decide +kernel
theorem dX1_readItems_63 : decode cX1_readItems 63 = .ok (.isub, 1) := by decide +kernel
theorem dX1_readItems_64 : decode cX1_readItems 64 = .ok (.ireturn, 1) := by decide +kernel
theorem dX1_readItem_0 : decode cX1_readItem 0 = .ok (.iconst 0, 1) := by decide +kernel
theorem dX1_readItem_1 : decode cX1_readItem 1 = .ok (.istore_n 2, 1) := by decide +kernel
theorem dX1_readItem_2 : decode cX1_readItem 2 = .ok (.iload_n 2, 1) := by decide +kernel
theorem dX1_readItem_3 : decode cX1_readItem 3 = .ok (.bipush 7, 2) := by decide +kernel
theorem dX1_readItem_5 : decode cX1_readItem 5 = .ok (.if_icmp .ge 27, 3) := by decide +kernel
theorem dX1_readItem_8 : decode cX1_readItem 8 = .ok (.aload_n 0, 1) := by decide +kernel
theorem dX1_readItem_9 : decode cX1_readItem 9 = .ok (.iload_n 2, 1) := by decide +kernel
theorem dX1_readItem_10 : decode cX1_readItem 10 = .ok (.invokestatic 35, 3) := by decide +kernel
theorem dX1_readItem_13 : decode cX1_readItem 13 = .ok (.invokevirtual 39, 3) := by decide +kernel
theorem dX1_readItem_16 : decode cX1_readItem 16 = .ok (.ifCond .eq 10, 3) := by decide +kernel
theorem dX1_readItem_19 : decode cX1_readItem 19 = .ok (.aload_n 0, 1) := by decide +kernel
theorem dX1_readItem_20 : decode cX1_readItem 20 = .ok (.aload_n 1, 1) := by decide +kernel
theorem dX1_readItem_21 : decode cX1_readItem 21 = .ok (.iload_n 2, 1) := by decide +kernel
theorem dX1_readItem_22 : decode cX1_readItem 22 = .ok (.invokevirtual 43, 3) := by decide +kernel
theorem dX1_readItem_25 : decode cX1_readItem 25 = .ok (.ireturn, 1) := by decide +kernel
theorem dX1_readItem_26 : decode cX1_readItem 26 = .ok (.iinc 2 1, 3) := by decide +kernel
theorem dX1_readItem_29 : decode cX1_readItem 29 = .ok (.goto (-27), 3) := by decide +kernel
theorem dX1_readItem_32 : decode cX1_readItem 32 = .ok (.aload_n 0, 1) := by decide +kernel
theorem dX1_readItem_33 : decode cX1_readItem 33 = .ok (.ldc 47, 2) := by decide +kernel
theorem dX1_readItem_35 : decode cX1_readItem 35 = .ok (.invokevirtual 39, 3) := by decide +kernel
theorem dX1_readItem_38 : decode cX1_readItem 38 = .ok (.ifCond .eq 9, 3) := by decide +kernel
theorem dX1_readItem_41 : decode cX1_readItem 41 = .ok (.aload_n 0, 1) := by decide +kernel
theorem dX1_readItem_42 : decode cX1_readItem 42 = .ok (.aload_n 1, 1) := by decide +kernel
theorem dX1_readItem_43 : decode cX1_readItem 43 = .ok (.invokevirtual 49, 3) := by decide +kernel
theorem dX1_readItem_46 : decode cX1_readItem 46 = .ok (.ireturn, 1) := by decide +kernel
theorem dX1_readItem_47 : decode cX1_readItem 47 = .ok (.aload_n 0, 1) := by decide +kernel
theorem dX1_readItem_48 : decode cX1_readItem 48 = .ok (.ldc 52, 2) := by decide +kernel
theorem dX1_readItem_50 : decode cX1_readItem 50 = .ok (.invokevirtual 39, 3) := by decide +kernel
theorem dX1_readItem_53 : decode cX1_readItem 53 = .ok (.ifCond .eq 33, 3) := by decide +kernel
theorem dX1_readItem_56 : decode cX1_readItem 56 = .ok (.aload_n 0, 1) := by decide +kernel
theorem dX1_readItem_57 : decode cX1_readItem 57 = .ok (.invokevirtual 22, 3) := by decide +kernel
theorem dX1_readItem_60 : decode cX1_readItem 60 = .ok (.aload_n 0, 1) := by decide +kernel
theorem dX1_readItem_61 : decode cX1_readItem 61 = .ok (.iconst 0, 1) := by decide +kernel
theorem dX1_readItem_62 : decode cX1_readItem 62 = .ok (.ldc 54, 2) := by decide +kernel
theorem dX1_readItem_64 : decode cX1_readItem 64 = .ok (.invokevirtual 55, 3) := by decide +kernel
theorem dX1_readItem_67 : decode cX1_readItem 67 = .ok (.ifCond .ne 5, 3) := by decide +kernel
theorem dX1_readItem_70 : decode cX1_readItem 70 = .ok (.iconst 0, 1) := by decide +kernel
theorem dX1_readItem_71 : decode cX1_readItem 71 = .ok (.ireturn, 1) := by decide +kernel
theorem dX1_readItem_72 : decode cX1_readItem 72 = .ok (.aload_n 1, 1) := by decide +kernel
theorem dX1_readItem_73 : decode cX1_readItem 73 = .ok (.aload_n 0, 1) := by decide +kernel
theorem dX1_readItem_74 : decode cX1_readItem 74 = .ok (.getfield 59, 3) := by decide +kernel
theorem dX1_readItem_77 : decode cX1_readItem 77 = .ok (.putfield 62, 3) := by decide +kernel
theorem dX1_readItem_80 : decode cX1_readItem 80 = .ok (.aload_n 0, 1) := by decide +kernel
theorem dX1_readItem_81 : decode cX1_readItem 81 = .ok (.invokevirtual 22, 3) := by decide +kernel
theorem dX1_readItem_84 : decode cX1_readItem 84 = .ok (.iconst 1, 1) := by decide +kernel
theorem dX1_readItem_85 : decode cX1_readItem 85 = .ok (.ireturn, 1) := by decide +kernel
theorem dX1_readItem_86 : decode cX1_readItem 86 = .ok (.aload_n 0, 1) := by decide +kernel
theorem dX1_readItem_87 : decode cX1_readItem 87 = .ok (.ldc 66, 2) := by decide +kernel
theorem dX1_readItem_89 : decode cX1_readItem 89 = .ok (.invokevirtual 39, 3) := by decide +kernel
theorem dX1_readItem_92 : decode cX1_readItem 92 = .ok (.ifCond .ne 12, 3) := by decide +kernel
theorem dX1_readItem_95 : decode cX1_readItem 95 = .ok (.aload_n 0, 1) := by decide +kernel
theorem dX1_readItem_96 : decode cX1_readItem 96 = .ok (.ldc 68, 2) := by decide +kernel
theorem dX1_readItem_98 : decode cX1_readItem 98 = .ok (.invokevirtual 39, 3) := by decide +kernel
theorem dX1_readItem_101 : decode cX1_readItem 101 = .ok (.ifCond .eq 27, 3) := by decide +kernel
theorem dX1_readItem_104 : decode cX1_readItem 104 = .ok (.aload_n 1, 1) := by decide +kernel
theorem dX1_readItem_105 : decode cX1_readItem 105 = .ok (.aload_n 0, 1) := by decide +kernel
theorem dX1_readItem_106 : decode cX1_readItem 106 = .ok (.ldc 66, 2) := by decide +kernel
theorem dX1_readItem_108 : decode cX1_readItem 108 = .ok (.invokevirtual 39, 3) := by decide +kernel
theorem dX1_readItem_111 : decode cX1_readItem 111 = .ok (.ifCond .eq 7, 3) := by decide +kernel
theorem dX1_readItem_114 : decode cX1_readItem 114 = .ok (.iconst 1, 1) := by decide +kernel
theorem dX1_readItem_115 : decode cX1_readItem 115 = .ok (.goto 4, 3) := by decide +kernel
theorem dX1_readItem_118 : decode cX1_readItem 118 = .ok (.iconst 0, 1) := by decide +kernel
theorem dX1_readItem_119 : decode cX1_readItem 119 = .ok (.putfield 70, 3) := by decide +kernel
theorem dX1_readItem_122 : decode cX1_readItem 122 = .ok (.aload_n 0, 1) := by decide +kernel
theorem dX1_readItem_123 : decode cX1_readItem 123 = .ok (.invokevirtual 22, 3) := by decide +kernel
theorem dX1_readItem_126 : decode cX1_readItem 126 = .ok (.iconst 1, 1) := by decide +kernel
theorem dX1_readItem_127 : decode cX1_readItem 127 = .ok (.ireturn, 1) := by decide +kernel
theorem dX1_readItem_128 : decode cX1_readItem 128 = .ok (.iconst 0, 1) := by decide +kernel
theorem dX1_readItem_129 : decode cX1_readItem 129 = .ok (.ireturn, 1) := by decide +kernel
theorem dX1_readWhisper_0 : decode cX1_readWhisper 0 = .ok (.aload_n 1, 1) := by decide +kernel
theorem dX1_readWhisper_1 : decode cX1_readWhisper 1 = .ok (.invokevirtual 72, 3) := by decide +kernel
theorem dX1_readWhisper_4 : decode cX1_readWhisper 4 = .ok (.ifCond .eq 5, 3) := by decide +kernel
theorem dX1_readWhisper_7 : decode cX1_readWhisper 7 = .ok (.iconst 0, 1) := by decide +kernel
theorem dX1_readWhisper_8 : decode cX1_readWhisper 8 = .ok (.ireturn, 1) := by decide +kernel
theorem dX1_readWhisper_9 : decode cX1_readWhisper 9 = .ok (.aload_n 1, 1) := by decide +kernel
theorem dX1_readWhisper_10 : decode cX1_readWhisper 10 = .ok (.iload_n 2, 1) := by decide +kernel
theorem dX1_readWhisper_11 : decode cX1_readWhisper 11 = .ok (.iconst 0, 1) := by decide +kernel
theorem dX1_readWhisper_12 : decode cX1_readWhisper 12 = .ok (.iconst 1, 1) := by decide +kernel
theorem dX1_readWhisper_13 : decode cX1_readWhisper 13 = .ok (.invokevirtual 76, 3) := by decide +kernel
theorem dX1_readWhisper_16 : decode cX1_readWhisper 16 = .ok (.istore_n 3, 1) := by decide +kernel
theorem dX1_readWhisper_17 : decode cX1_readWhisper 17 = .ok (.aload_n 0, 1) := by decide +kernel
theorem dX1_readWhisper_18 : decode cX1_readWhisper 18 = .ok (.invokevirtual 22, 3) := by decide +kernel
theorem dX1_readWhisper_21 : decode cX1_readWhisper 21 = .ok (.aload_n 0, 1) := by decide +kernel
theorem dX1_readWhisper_22 : decode cX1_readWhisper 22 = .ok (.aload_n 1, 1) := by decide +kernel
theorem dX1_readWhisper_23 : decode cX1_readWhisper 23 = .ok (.iload_n 3, 1) := by decide +kernel
theorem dX1_readWhisper_24 : decode cX1_readWhisper 24 = .ok (.iconst 1, 1) := by decide +kernel
theorem dX1_readWhisper_25 : decode cX1_readWhisper 25 = .ok (.ldc 80, 2) := by decide +kernel
theorem dX1_readWhisper_27 : decode cX1_readWhisper 27 = .ok (.invokevirtual 82, 3) := by decide +kernel
theorem dX1_readWhisper_30 : decode cX1_readWhisper 30 = .ok (.ifCond .eq 19, 3) := by decide +kernel
theorem dX1_readWhisper_33 : decode cX1_readWhisper 33 = .ok (.aload_n 0, 1) := by decide +kernel
theorem dX1_readWhisper_34 : decode cX1_readWhisper 34 = .ok (.aload_n 1, 1) := by decide +kernel
theorem dX1_readWhisper_35 : decode cX1_readWhisper 35 = .ok (.iload_n 3, 1) := by decide +kernel
theorem dX1_readWhisper_36 : decode cX1_readWhisper 36 = .ok (.iconst 2, 1) := by decide +kernel
theorem dX1_readWhisper_37 : decode cX1_readWhisper 37 = .ok (.ldc 86, 2) := by decide +kernel
theorem dX1_readWhisper_39 : decode cX1_readWhisper 39 = .ok (.invokevirtual 82, 3) := by decide +kernel
theorem dX1_readWhisper_42 : decode cX1_readWhisper 42 = .ok (.ifCond .eq 7, 3) := by decide +kernel
theorem dX1_readWhisper_45 : decode cX1_readWhisper 45 = .ok (.iconst 1, 1) := by decide +kernel
theorem dX1_readWhisper_46 : decode cX1_readWhisper 46 = .ok (.goto 4, 3) := by decide +kernel
theorem dX1_readWhisper_49 : decode cX1_readWhisper 49 = .ok (.iconst 0, 1) := by decide +kernel
theorem dX1_readWhisper_50 : decode cX1_readWhisper 50 = .ok (.ireturn, 1) := by decide +kernel
theorem dX1_readQuality_0 : decode cX1_readQuality 0 = .ok (.aload_n 0, 1) := by decide +kernel
theorem dX1_readQuality_1 : decode cX1_readQuality 1 = .ok (.aload 4, 2) := by decide +kernel
theorem dX1_readQuality_3 : decode cX1_readQuality 3 = .ok (.invokevirtual 39, 3) := by decide +kernel
theorem dX1_readQuality_6 : decode cX1_readQuality 6 = .ok (.ifCond .ne 5, 3) := by decide +kernel
theorem dX1_readQuality_9 : decode cX1_readQuality 9 = .ok (.iconst 1, 1) := by decide +kernel
theorem dX1_readQuality_10 : decode cX1_readQuality 10 = .ok (.ireturn, 1) := by decide +kernel
theorem dX1_readQuality_11 : decode cX1_readQuality 11 = .ok (.aload_n 0, 1) := by decide +kernel
theorem dX1_readQuality_12 : decode cX1_readQuality 12 = .ok (.invokevirtual 22, 3) := by decide +kernel
theorem dX1_readQuality_15 : decode cX1_readQuality 15 = .ok (.aload_n 0, 1) := by decide +kernel
theorem dX1_readQuality_16 : decode cX1_readQuality 16 = .ok (.getfield 29, 3) := by decide +kernel
theorem dX1_readQuality_19 : decode cX1_readQuality 19 = .ok (.iconst 2, 1) := by decide +kernel
theorem dX1_readQuality_20 : decode cX1_readQuality 20 = .ok (.if_icmp .ne 14, 3) := by decide +kernel
theorem dX1_readQuality_23 : decode cX1_readQuality 23 = .ok (.iload_n 3, 1) := by decide +kernel
theorem dX1_readQuality_24 : decode cX1_readQuality 24 = .ok (.aload_n 0, 1) := by decide +kernel
theorem dX1_readQuality_25 : decode cX1_readQuality 25 = .ok (.getfield 59, 3) := by decide +kernel
theorem dX1_readQuality_28 : decode cX1_readQuality 28 = .ok (.invokestatic 88, 3) := by decide +kernel
theorem dX1_readQuality_31 : decode cX1_readQuality 31 = .ok (.ifCond .ne 5, 3) := by decide +kernel
theorem dX1_readQuality_34 : decode cX1_readQuality 34 = .ok (.iconst 0, 1) := by decide +kernel
theorem dX1_readQuality_35 : decode cX1_readQuality 35 = .ok (.ireturn, 1) := by decide +kernel
theorem dX1_readQuality_36 : decode cX1_readQuality 36 = .ok (.aload_n 1, 1) := by decide +kernel
theorem dX1_readQuality_37 : decode cX1_readQuality 37 = .ok (.iload_n 2, 1) := by decide +kernel
theorem dX1_readQuality_38 : decode cX1_readQuality 38 = .ok (.iload_n 3, 1) := by decide +kernel
theorem dX1_readQuality_39 : decode cX1_readQuality 39 = .ok (.aload_n 0, 1) := by decide +kernel
theorem dX1_readQuality_40 : decode cX1_readQuality 40 = .ok (.getfield 59, 3) := by decide +kernel
theorem dX1_readQuality_43 : decode cX1_readQuality 43 = .ok (.invokevirtual 91, 3) := by decide +kernel
theorem dX1_readQuality_46 : decode cX1_readQuality 46 = .ok (.aload_n 0, 1) := by decide +kernel
theorem dX1_readQuality_47 : decode cX1_readQuality 47 = .ok (.invokevirtual 22, 3) := by decide +kernel
theorem dX1_readQuality_50 : decode cX1_readQuality 50 = .ok (.iconst 1, 1) := by decide +kernel
theorem dX1_readQuality_51 : decode cX1_readQuality 51 = .ok (.ireturn, 1) := by decide +kernel
theorem dX1_readCorner_0 : decode cX1_readCorner 0 = .ok (.aload_n 0, 1) := by decide +kernel
theorem dX1_readCorner_1 : decode cX1_readCorner 1 = .ok (.invokevirtual 22, 3) := by decide +kernel
theorem dX1_readCorner_4 : decode cX1_readCorner 4 = .ok (.aload_n 0, 1) := by decide +kernel
theorem dX1_readCorner_5 : decode cX1_readCorner 5 = .ok (.iconst 0, 1) := by decide +kernel
theorem dX1_readCorner_6 : decode cX1_readCorner 6 = .ok (.bipush 15, 2) := by decide +kernel
theorem dX1_readCorner_8 : decode cX1_readCorner 8 = .ok (.invokevirtual 55, 3) := by decide +kernel
theorem dX1_readCorner_11 : decode cX1_readCorner 11 = .ok (.ifCond .ne 5, 3) := by decide +kernel
theorem dX1_readCorner_14 : decode cX1_readCorner 14 = .ok (.iconst 0, 1) := by decide +kernel
theorem dX1_readCorner_15 : decode cX1_readCorner 15 = .ok (.ireturn, 1) := by decide +kernel
theorem dX1_readCorner_16 : decode cX1_readCorner 16 = .ok (.aload_n 0, 1) := by decide +kernel
theorem dX1_readCorner_17 : decode cX1_readCorner 17 = .ok (.getfield 59, 3) := by decide +kernel
theorem dX1_readCorner_20 : decode cX1_readCorner 20 = .ok (.istore_n 2, 1) := by decide +kernel
theorem dX1_readCorner_21 : decode cX1_readCorner 21 = .ok (.aload_n 0, 1) := by decide +kernel
theorem dX1_readCorner_22 : decode cX1_readCorner 22 = .ok (.invokevirtual 22, 3) := by decide +kernel
theorem dX1_readCorner_25 : decode cX1_readCorner 25 = .ok (.aload_n 0, 1) := by decide +kernel
theorem dX1_readCorner_26 : decode cX1_readCorner 26 = .ok (.aload_n 1, 1) := by decide +kernel
theorem dX1_readCorner_27 : decode cX1_readCorner 27 = .ok (.iload_n 2, 1) := by decide +kernel
theorem dX1_readCorner_28 : decode cX1_readCorner 28 = .ok (.iconst 0, 1) := by decide +kernel
theorem dX1_readCorner_29 : decode cX1_readCorner 29 = .ok (.ldc 95, 2) := by decide +kernel
theorem dX1_readCorner_31 : decode cX1_readCorner 31 = .ok (.invokevirtual 97, 3) := by decide +kernel
theorem dX1_readCorner_34 : decode cX1_readCorner 34 = .ok (.ifCond .eq 43, 3) := by decide +kernel
theorem dX1_readCorner_37 : decode cX1_readCorner 37 = .ok (.aload_n 0, 1) := by decide +kernel
theorem dX1_readCorner_38 : decode cX1_readCorner 38 = .ok (.aload_n 1, 1) := by decide +kernel
theorem dX1_readCorner_39 : decode cX1_readCorner 39 = .ok (.iload_n 2, 1) := by decide +kernel
theorem dX1_readCorner_40 : decode cX1_readCorner 40 = .ok (.iconst 1, 1) := by decide +kernel
theorem dX1_readCorner_41 : decode cX1_readCorner 41 = .ok (.ldc 100, 2) := by decide +kernel
theorem dX1_readCorner_43 : decode cX1_readCorner 43 = .ok (.invokevirtual 97, 3) := by decide +kernel
theorem dX1_readCorner_46 : decode cX1_readCorner 46 = .ok (.ifCond .eq 31, 3) := by decide +kernel
theorem dX1_readCorner_49 : decode cX1_readCorner 49 = .ok (.aload_n 0, 1) := by decide +kernel
theorem dX1_readCorner_50 : decode cX1_readCorner 50 = .ok (.aload_n 1, 1) := by decide +kernel
theorem dX1_readCorner_51 : decode cX1_readCorner 51 = .ok (.iload_n 2, 1) := by decide +kernel
theorem dX1_readCorner_52 : decode cX1_readCorner 52 = .ok (.iconst 2, 1) := by decide +kernel
theorem dX1_readCorner_53 : decode cX1_readCorner 53 = .ok (.ldc 102, 2) := by decide +kernel
theorem dX1_readCorner_55 : decode cX1_readCorner 55 = .ok (.invokevirtual 97, 3) := by decide +kernel
theorem dX1_readCorner_58 : decode cX1_readCorner 58 = .ok (.ifCond .eq 19, 3) := by decide +kernel
theorem dX1_readCorner_61 : decode cX1_readCorner 61 = .ok (.aload_n 0, 1) := by decide +kernel
theorem dX1_readCorner_62 : decode cX1_readCorner 62 = .ok (.aload_n 1, 1) := by decide +kernel
theorem dX1_readCorner_63 : decode cX1_readCorner 63 = .ok (.iload_n 2, 1) := by decide +kernel
theorem dX1_readCorner_64 : decode cX1_readCorner 64 = .ok (.iconst 4, 1) := by decide +kernel
theorem dX1_readCorner_65 : decode cX1_readCorner 65 = .ok (.ldc 104, 2) := by decide +kernel
theorem dX1_readCorner_67 : decode cX1_readCorner 67 = .ok (.invokevirtual 97, 3) := by decide +kernel
theorem dX1_readCorner_70 : decode cX1_readCorner 70 = .ok (.ifCond .eq 7, 3) := by decide +kernel
theorem dX1_readCorner_73 : decode cX1_readCorner 73 = .ok (.iconst 1, 1) := by decide +kernel
theorem dX1_readCorner_74 : decode cX1_readCorner 74 = .ok (.goto 4, 3) := by decide +kernel
theorem dX1_readCorner_77 : decode cX1_readCorner 77 = .ok (.iconst 0, 1) := by decide +kernel
theorem dX1_readCorner_78 : decode cX1_readCorner 78 = .ok (.ireturn, 1) := by decide +kernel
theorem dX1_readTrait_0 : decode cX1_readTrait 0 = .ok (.aload_n 0, 1) := by decide +kernel
theorem dX1_readTrait_1 : decode cX1_readTrait 1 = .ok (.aload 4, 2) := by decide +kernel
theorem dX1_readTrait_3 : decode cX1_readTrait 3 = .ok (.invokevirtual 39, 3) := by decide +kernel
theorem dX1_readTrait_6 : decode cX1_readTrait 6 = .ok (.ifCond .ne 5, 3) := by decide +kernel
theorem dX1_readTrait_9 : decode cX1_readTrait 9 = .ok (.iconst 1, 1) := by decide +kernel
theorem dX1_readTrait_10 : decode cX1_readTrait 10 = .ok (.ireturn, 1) := by decide +kernel
theorem dX1_readTrait_11 : decode cX1_readTrait 11 = .ok (.aload_n 0, 1) := by decide +kernel
theorem dX1_readTrait_12 : decode cX1_readTrait 12 = .ok (.invokevirtual 22, 3) := by decide +kernel
theorem dX1_readTrait_15 : decode cX1_readTrait 15 = .ok (.aload_n 0, 1) := by decide +kernel
theorem dX1_readTrait_16 : decode cX1_readTrait 16 = .ok (.getfield 29, 3) := by decide +kernel
theorem dX1_readTrait_19 : decode cX1_readTrait 19 = .ok (.iconst 2, 1) := by decide +kernel
theorem dX1_readTrait_20 : decode cX1_readTrait 20 = .ok (.if_icmp .ne 14, 3) := by decide +kernel
theorem dX1_readTrait_23 : decode cX1_readTrait 23 = .ok (.iload_n 3, 1) := by decide +kernel
theorem dX1_readTrait_24 : decode cX1_readTrait 24 = .ok (.aload_n 0, 1) := by decide +kernel
theorem dX1_readTrait_25 : decode cX1_readTrait 25 = .ok (.getfield 59, 3) := by decide +kernel
theorem dX1_readTrait_28 : decode cX1_readTrait 28 = .ok (.invokestatic 106, 3) := by decide +kernel
theorem dX1_readTrait_31 : decode cX1_readTrait 31 = .ok (.ifCond .ne 5, 3) := by decide +kernel
theorem dX1_readTrait_34 : decode cX1_readTrait 34 = .ok (.iconst 0, 1) := by decide +kernel
theorem dX1_readTrait_35 : decode cX1_readTrait 35 = .ok (.ireturn, 1) := by decide +kernel
theorem dX1_readTrait_36 : decode cX1_readTrait 36 = .ok (.aload_n 1, 1) := by decide +kernel
theorem dX1_readTrait_37 : decode cX1_readTrait 37 = .ok (.iload_n 2, 1) := by decide +kernel
theorem dX1_readTrait_38 : decode cX1_readTrait 38 = .ok (.iload_n 3, 1) := by decide +kernel
theorem dX1_readTrait_39 : decode cX1_readTrait 39 = .ok (.aload_n 0, 1) := by decide +kernel
theorem dX1_readTrait_40 : decode cX1_readTrait 40 = .ok (.getfield 59, 3) := by decide +kernel
theorem dX1_readTrait_43 : decode cX1_readTrait 43 = .ok (.invokevirtual 109, 3) := by decide +kernel
theorem dX1_readTrait_46 : decode cX1_readTrait 46 = .ok (.aload_n 0, 1) := by decide +kernel
theorem dX1_readTrait_47 : decode cX1_readTrait 47 = .ok (.invokevirtual 22, 3) := by decide +kernel
theorem dX1_readTrait_50 : decode cX1_readTrait 50 = .ok (.iconst 1, 1) := by decide +kernel
theorem dX1_readTrait_51 : decode cX1_readTrait 51 = .ok (.ireturn, 1) := by decide +kernel
theorem dX1_isNumber_0 : decode cX1_isNumber 0 = .ok (.aload_n 0, 1) := by decide +kernel
theorem dX1_isNumber_1 : decode cX1_isNumber 1 = .ok (.getfield 29, 3) := by decide +kernel
theorem dX1_isNumber_4 : decode cX1_isNumber 4 = .ok (.iconst 2, 1) := by decide +kernel
theorem dX1_isNumber_5 : decode cX1_isNumber 5 = .ok (.if_icmp .ne 19, 3) := by decide +kernel
theorem dX1_isNumber_8 : decode cX1_isNumber 8 = .ok (.aload_n 0, 1) := by decide +kernel
theorem dX1_isNumber_9 : decode cX1_isNumber 9 = .ok (.getfield 59, 3) := by decide +kernel
theorem dX1_isNumber_12 : decode cX1_isNumber 12 = .ok (.iload_n 1, 1) := by decide +kernel
theorem dX1_isNumber_13 : decode cX1_isNumber 13 = .ok (.iload_n 2, 1) := by decide +kernel
theorem dX1_isNumber_14 : decode cX1_isNumber 14 = .ok (.invokestatic 112, 3) := by decide +kernel
theorem dX1_isNumber_17 : decode cX1_isNumber 17 = .ok (.ifCond .eq 7, 3) := by decide +kernel
theorem dX1_isNumber_20 : decode cX1_isNumber 20 = .ok (.iconst 1, 1) := by decide +kernel
theorem dX1_isNumber_21 : decode cX1_isNumber 21 = .ok (.goto 4, 3) := by decide +kernel
theorem dX1_isNumber_24 : decode cX1_isNumber 24 = .ok (.iconst 0, 1) := by decide +kernel
theorem dX1_isNumber_25 : decode cX1_isNumber 25 = .ok (.ireturn, 1) := by decide +kernel
theorem dX1_isWord_0 : decode cX1_isWord 0 = .ok (.aload_n 0, 1) := by decide +kernel
theorem dX1_isWord_1 : decode cX1_isWord 1 = .ok (.getfield 29, 3) := by decide +kernel
theorem dX1_isWord_4 : decode cX1_isWord 4 = .ok (.iconst 1, 1) := by decide +kernel
theorem dX1_isWord_5 : decode cX1_isWord 5 = .ok (.if_icmp .ne 19, 3) := by decide +kernel
theorem dX1_isWord_8 : decode cX1_isWord 8 = .ok (.aload_n 0, 1) := by decide +kernel
theorem dX1_isWord_9 : decode cX1_isWord 9 = .ok (.getfield 19, 3) := by decide +kernel
theorem dX1_isWord_12 : decode cX1_isWord 12 = .ok (.aload_n 0, 1) := by decide +kernel
theorem dX1_isWord_13 : decode cX1_isWord 13 = .ok (.getfield 32, 3) := by decide +kernel
theorem dX1_isWord_16 : decode cX1_isWord 16 = .ok (.isub, 1) := by decide +kernel
theorem dX1_isWord_17 : decode cX1_isWord 17 = .ok (.aload_n 1, 1) := by decide +kernel
theorem dX1_isWord_18 : decode cX1_isWord 18 = .ok (.invokevirtual 116, 3) := by decide +kernel
theorem dX1_isWord_21 : decode cX1_isWord 21 = .ok (.if_icmp .eq 5, 3) := by decide +kernel
theorem dX1_isWord_24 : decode cX1_isWord 24 = .ok (.iconst 0, 1) := by decide +kernel
theorem dX1_isWord_25 : decode cX1_isWord 25 = .ok (.ireturn, 1) := by decide +kernel
theorem dX1_isWord_26 : decode cX1_isWord 26 = .ok (.iconst 0, 1) := by decide +kernel
theorem dX1_isWord_27 : decode cX1_isWord 27 = .ok (.istore_n 2, 1) := by decide +kernel
theorem dX1_isWord_28 : decode cX1_isWord 28 = .ok (.iload_n 2, 1) := by decide +kernel
theorem dX1_isWord_29 : decode cX1_isWord 29 = .ok (.aload_n 1, 1) := by decide +kernel
theorem dX1_isWord_30 : decode cX1_isWord 30 = .ok (.invokevirtual 116, 3) := by decide +kernel
theorem dX1_isWord_33 : decode cX1_isWord 33 = .ok (.if_icmp .ge 29, 3) := by decide +kernel
theorem dX1_isWord_36 : decode cX1_isWord 36 = .ok (.aload_n 0, 1) := by decide +kernel
theorem dX1_isWord_37 : decode cX1_isWord 37 = .ok (.aload_n 0, 1) := by decide +kernel
theorem dX1_isWord_38 : decode cX1_isWord 38 = .ok (.getfield 32, 3) := by decide +kernel
theorem dX1_isWord_41 : decode cX1_isWord 41 = .ok (.iload_n 2, 1) := by decide +kernel
theorem dX1_isWord_42 : decode cX1_isWord 42 = .ok (.iadd, 1) := by decide +kernel
theorem dX1_isWord_43 : decode cX1_isWord 43 = .ok (.invokevirtual 121, 3) := by decide +kernel
theorem dX1_isWord_46 : decode cX1_isWord 46 = .ok (.aload_n 1, 1) := by decide +kernel
theorem dX1_isWord_47 : decode cX1_isWord 47 = .ok (.iload_n 2, 1) := by decide +kernel
theorem dX1_isWord_48 : decode cX1_isWord 48 = .ok (.invokevirtual 125, 3) := by decide +kernel
theorem dX1_isWord_51 : decode cX1_isWord 51 = .ok (.if_icmp .eq 5, 3) := by decide +kernel
theorem dX1_isWord_54 : decode cX1_isWord 54 = .ok (.iconst 0, 1) := by decide +kernel
theorem dX1_isWord_55 : decode cX1_isWord 55 = .ok (.ireturn, 1) := by decide +kernel
theorem dX1_isWord_56 : decode cX1_isWord 56 = .ok (.iinc 2 1, 3) := by decide +kernel
theorem dX1_isWord_59 : decode cX1_isWord 59 = .ok (.goto (-31), 3) := by decide +kernel
theorem dX1_isWord_62 : decode cX1_isWord 62 = .ok (.iconst 1, 1) := by decide +kernel
theorem dX1_isWord_63 : decode cX1_isWord 63 = .ok (.ireturn, 1) := by decide +kernel
theorem dX1_kindName_0 : decode cX1_kindName 0 = .ok (.iload_n 0, 1) := by decide +kernel
theorem dX1_kindName_1 : decode cX1_kindName 1 = .ok (.tableswitch 57 1 6 #[39, 42, 45, 48, 51, 54], 39) := by decide +kernel
theorem dX1_kindName_40 : decode cX1_kindName 40 = .ok (.ldc 129, 2) := by decide +kernel
theorem dX1_kindName_42 : decode cX1_kindName 42 = .ok (.areturn, 1) := by decide +kernel
theorem dX1_kindName_43 : decode cX1_kindName 43 = .ok (.ldc 131, 2) := by decide +kernel
theorem dX1_kindName_45 : decode cX1_kindName 45 = .ok (.areturn, 1) := by decide +kernel
theorem dX1_kindName_46 : decode cX1_kindName 46 = .ok (.ldc 133, 2) := by decide +kernel
theorem dX1_kindName_48 : decode cX1_kindName 48 = .ok (.areturn, 1) := by decide +kernel
theorem dX1_kindName_49 : decode cX1_kindName 49 = .ok (.ldc 135, 2) := by decide +kernel
theorem dX1_kindName_51 : decode cX1_kindName 51 = .ok (.areturn, 1) := by decide +kernel
theorem dX1_kindName_52 : decode cX1_kindName 52 = .ok (.ldc 137, 2) := by decide +kernel
theorem dX1_kindName_54 : decode cX1_kindName 54 = .ok (.areturn, 1) := by decide +kernel
theorem dX1_kindName_55 : decode cX1_kindName 55 = .ok (.ldc 139, 2) := by decide +kernel
theorem dX1_kindName_57 : decode cX1_kindName 57 = .ok (.areturn, 1) := by decide +kernel
theorem dX1_kindName_58 : decode cX1_kindName 58 = .ok (.ldc 141, 2) := by decide +kernel
theorem dX1_kindName_60 : decode cX1_kindName 60 = .ok (.areturn, 1) := by decide +kernel
theorem dX1_byteAt_0 : decode cX1_byteAt 0 = .ok (.iload_n 1, 1) := by decide +kernel
theorem dX1_byteAt_1 : decode cX1_byteAt 1 = .ok (.ifCond .lt 29, 3) := by decide +kernel
theorem dX1_byteAt_4 : decode cX1_byteAt 4 = .ok (.iload_n 1, 1) := by decide +kernel
theorem dX1_byteAt_5 : decode cX1_byteAt 5 = .ok (.aload_n 0, 1) := by decide +kernel
theorem dX1_byteAt_6 : decode cX1_byteAt 6 = .ok (.getfield 15, 3) := by decide +kernel
theorem dX1_byteAt_9 : decode cX1_byteAt 9 = .ok (.if_icmp .ge 21, 3) := by decide +kernel
theorem dX1_byteAt_12 : decode cX1_byteAt 12 = .ok (.iload_n 1, 1) := by decide +kernel
theorem dX1_byteAt_13 : decode cX1_byteAt 13 = .ok (.aload_n 0, 1) := by decide +kernel
theorem dX1_byteAt_14 : decode cX1_byteAt 14 = .ok (.getfield 9, 3) := by decide +kernel
theorem dX1_byteAt_17 : decode cX1_byteAt 17 = .ok (.arraylength, 1) := by decide +kernel
theorem dX1_byteAt_18 : decode cX1_byteAt 18 = .ok (.if_icmp .ge 12, 3) := by decide +kernel
theorem dX1_byteAt_21 : decode cX1_byteAt 21 = .ok (.aload_n 0, 1) := by decide +kernel
theorem dX1_byteAt_22 : decode cX1_byteAt 22 = .ok (.getfield 9, 3) := by decide +kernel
theorem dX1_byteAt_25 : decode cX1_byteAt 25 = .ok (.iload_n 1, 1) := by decide +kernel
theorem dX1_byteAt_26 : decode cX1_byteAt 26 = .ok (.iaload, 1) := by decide +kernel
theorem dX1_byteAt_27 : decode cX1_byteAt 27 = .ok (.goto 4, 3) := by decide +kernel
theorem dX1_byteAt_30 : decode cX1_byteAt 30 = .ok (.iconst (-1), 1) := by decide +kernel
theorem dX1_byteAt_31 : decode cX1_byteAt 31 = .ok (.ireturn, 1) := by decide +kernel
theorem dX1_step_0 : decode cX1_step 0 = .ok (.aload_n 0, 1) := by decide +kernel
theorem dX1_step_1 : decode cX1_step 1 = .ok (.aload_n 0, 1) := by decide +kernel
theorem dX1_step_2 : decode cX1_step 2 = .ok (.getfield 19, 3) := by decide +kernel
theorem dX1_step_5 : decode cX1_step 5 = .ok (.putfield 32, 3) := by decide +kernel
theorem dX1_step_8 : decode cX1_step 8 = .ok (.iconst 0, 1) := by decide +kernel
theorem dX1_step_9 : decode cX1_step 9 = .ok (.istore_n 1, 1) := by decide +kernel
theorem dX1_step_10 : decode cX1_step 10 = .ok (.iload_n 1, 1) := by decide +kernel
theorem dX1_step_11 : decode cX1_step 11 = .ok (.bipush 120, 2) := by decide +kernel
theorem dX1_step_13 : decode cX1_step 13 = .ok (.if_icmp .ge 32, 3) := by decide +kernel
theorem dX1_step_16 : decode cX1_step 16 = .ok (.aload_n 0, 1) := by decide +kernel
theorem dX1_step_17 : decode cX1_step 17 = .ok (.aload_n 0, 1) := by decide +kernel
theorem dX1_step_18 : decode cX1_step 18 = .ok (.getfield 32, 3) := by decide +kernel
theorem dX1_step_21 : decode cX1_step 21 = .ok (.invokevirtual 121, 3) := by decide +kernel
theorem dX1_step_24 : decode cX1_step 24 = .ok (.bipush 32, 2) := by decide +kernel
theorem dX1_step_26 : decode cX1_step 26 = .ok (.if_icmp .ne 19, 3) := by decide +kernel
theorem dX1_step_29 : decode cX1_step 29 = .ok (.aload_n 0, 1) := by decide +kernel
theorem dX1_step_30 : decode cX1_step 30 = .ok (.dup, 1) := by decide +kernel
theorem dX1_step_31 : decode cX1_step 31 = .ok (.getfield 32, 3) := by decide +kernel
theorem dX1_step_34 : decode cX1_step 34 = .ok (.iconst 1, 1) := by decide +kernel
theorem dX1_step_35 : decode cX1_step 35 = .ok (.iadd, 1) := by decide +kernel
theorem dX1_step_36 : decode cX1_step 36 = .ok (.putfield 32, 3) := by decide +kernel
theorem dX1_step_39 : decode cX1_step 39 = .ok (.iinc 1 1, 3) := by decide +kernel
theorem dX1_step_42 : decode cX1_step 42 = .ok (.goto (-32), 3) := by decide +kernel
theorem dX1_step_45 : decode cX1_step 45 = .ok (.aload_n 0, 1) := by decide +kernel
theorem dX1_step_46 : decode cX1_step 46 = .ok (.aload_n 0, 1) := by decide +kernel
theorem dX1_step_47 : decode cX1_step 47 = .ok (.getfield 32, 3) := by decide +kernel
theorem dX1_step_50 : decode cX1_step 50 = .ok (.putfield 19, 3) := by decide +kernel
theorem dX1_step_53 : decode cX1_step 53 = .ok (.aload_n 0, 1) := by decide +kernel
theorem dX1_step_54 : decode cX1_step 54 = .ok (.iconst 0, 1) := by decide +kernel
theorem dX1_step_55 : decode cX1_step 55 = .ok (.putfield 59, 3) := by decide +kernel
theorem dX1_step_58 : decode cX1_step 58 = .ok (.aload_n 0, 1) := by decide +kernel
theorem dX1_step_59 : decode cX1_step 59 = .ok (.aload_n 0, 1) := by decide +kernel
theorem dX1_step_60 : decode cX1_step 60 = .ok (.aload_n 0, 1) := by decide +kernel
theorem dX1_step_61 : decode cX1_step 61 = .ok (.getfield 32, 3) := by decide +kernel
theorem dX1_step_64 : decode cX1_step 64 = .ok (.invokevirtual 121, 3) := by decide +kernel
theorem dX1_step_67 : decode cX1_step 67 = .ok (.invokestatic 143, 3) := by decide +kernel
theorem dX1_step_70 : decode cX1_step 70 = .ok (.putfield 29, 3) := by decide +kernel
theorem dX1_step_73 : decode cX1_step 73 = .ok (.aload_n 0, 1) := by decide +kernel
theorem dX1_step_74 : decode cX1_step 74 = .ok (.getfield 29, 3) := by decide +kernel
theorem dX1_step_77 : decode cX1_step 77 = .ok (.iconst 1, 1) := by decide +kernel
theorem dX1_step_78 : decode cX1_step 78 = .ok (.if_icmp .eq 11, 3) := by decide +kernel
theorem dX1_step_81 : decode cX1_step 81 = .ok (.aload_n 0, 1) := by decide +kernel
theorem dX1_step_82 : decode cX1_step 82 = .ok (.getfield 29, 3) := by decide +kernel
theorem dX1_step_85 : decode cX1_step 85 = .ok (.iconst 2, 1) := by decide +kernel
theorem dX1_step_86 : decode cX1_step 86 = .ok (.if_icmp .ne 8, 3) := by decide +kernel
theorem dX1_step_89 : decode cX1_step 89 = .ok (.bipush 120, 2) := by decide +kernel
theorem dX1_step_91 : decode cX1_step 91 = .ok (.goto 15, 3) := by decide +kernel
theorem dX1_step_94 : decode cX1_step 94 = .ok (.aload_n 0, 1) := by decide +kernel
theorem dX1_step_95 : decode cX1_step 95 = .ok (.getfield 29, 3) := by decide +kernel
theorem dX1_step_98 : decode cX1_step 98 = .ok (.ifCond .ne 7, 3) := by decide +kernel
theorem dX1_step_101 : decode cX1_step 101 = .ok (.iconst 0, 1) := by decide +kernel
theorem dX1_step_102 : decode cX1_step 102 = .ok (.goto 4, 3) := by decide +kernel
theorem dX1_step_105 : decode cX1_step 105 = .ok (.iconst 1, 1) := by decide +kernel
theorem dX1_step_106 : decode cX1_step 106 = .ok (.istore_n 1, 1) := by decide +kernel
theorem dX1_step_107 : decode cX1_step 107 = .ok (.iconst 0, 1) := by decide +kernel
theorem dX1_step_108 : decode cX1_step 108 = .ok (.istore_n 2, 1) := by decide +kernel
theorem dX1_step_109 : decode cX1_step 109 = .ok (.iload_n 2, 1) := by decide +kernel
theorem dX1_step_110 : decode cX1_step 110 = .ok (.iload_n 1, 1) := by decide +kernel
theorem dX1_step_111 : decode cX1_step 111 = .ok (.if_icmp .ge 73, 3) := by decide +kernel
theorem dX1_step_114 : decode cX1_step 114 = .ok (.aload_n 0, 1) := by decide +kernel
theorem dX1_step_115 : decode cX1_step 115 = .ok (.aload_n 0, 1) := by decide +kernel
theorem dX1_step_116 : decode cX1_step 116 = .ok (.getfield 19, 3) := by decide +kernel
theorem dX1_step_119 : decode cX1_step 119 = .ok (.invokevirtual 121, 3) := by decide +kernel
theorem dX1_step_122 : decode cX1_step 122 = .ok (.invokestatic 143, 3) := by decide +kernel
theorem dX1_step_125 : decode cX1_step 125 = .ok (.aload_n 0, 1) := by decide +kernel
theorem dX1_step_126 : decode cX1_step 126 = .ok (.getfield 29, 3) := by decide +kernel
theorem dX1_step_129 : decode cX1_step 129 = .ok (.if_icmp .ne 55, 3) := by decide +kernel
theorem dX1_step_132 : decode cX1_step 132 = .ok (.aload_n 0, 1) := by decide +kernel
theorem dX1_step_133 : decode cX1_step 133 = .ok (.getfield 29, 3) := by decide +kernel
theorem dX1_step_136 : decode cX1_step 136 = .ok (.iconst 2, 1) := by decide +kernel
theorem dX1_step_137 : decode cX1_step 137 = .ok (.if_icmp .ne 31, 3) := by decide +kernel
theorem dX1_step_140 : decode cX1_step 140 = .ok (.aload_n 0, 1) := by decide +kernel
theorem dX1_step_141 : decode cX1_step 141 = .ok (.bipush 10, 2) := by decide +kernel
theorem dX1_step_143 : decode cX1_step 143 = .ok (.aload_n 0, 1) := by decide +kernel
theorem dX1_step_144 : decode cX1_step 144 = .ok (.getfield 59, 3) := by decide +kernel
theorem dX1_step_147 : decode cX1_step 147 = .ok (.imul, 1) := by decide +kernel
theorem dX1_step_148 : decode cX1_step 148 = .ok (.aload_n 0, 1) := by decide +kernel
theorem dX1_step_149 : decode cX1_step 149 = .ok (.aload_n 0, 1) := by decide +kernel
theorem dX1_step_150 : decode cX1_step 150 = .ok (.getfield 19, 3) := by decide +kernel
theorem dX1_step_153 : decode cX1_step 153 = .ok (.invokevirtual 121, 3) := by decide +kernel
theorem dX1_step_156 : decode cX1_step 156 = .ok (.iadd, 1) := by decide +kernel
theorem dX1_step_157 : decode cX1_step 157 = .ok (.bipush 48, 2) := by decide +kernel
theorem dX1_step_159 : decode cX1_step 159 = .ok (.isub, 1) := by decide +kernel
theorem dX1_step_160 : decode cX1_step 160 = .ok (.ldc 146, 2) := by decide +kernel
theorem dX1_step_162 : decode cX1_step 162 = .ok (.invokestatic 147, 3) := by decide +kernel
theorem dX1_step_165 : decode cX1_step 165 = .ok (.putfield 59, 3) := by decide +kernel
theorem dX1_step_168 : decode cX1_step 168 = .ok (.aload_n 0, 1) := by decide +kernel
theorem dX1_step_169 : decode cX1_step 169 = .ok (.dup, 1) := by decide +kernel
theorem dX1_step_170 : decode cX1_step 170 = .ok (.getfield 19, 3) := by decide +kernel
theorem dX1_step_173 : decode cX1_step 173 = .ok (.iconst 1, 1) := by decide +kernel
theorem dX1_step_174 : decode cX1_step 174 = .ok (.iadd, 1) := by decide +kernel
theorem dX1_step_175 : decode cX1_step 175 = .ok (.putfield 19, 3) := by decide +kernel
theorem dX1_step_178 : decode cX1_step 178 = .ok (.iinc 2 1, 3) := by decide +kernel
theorem dX1_step_181 : decode cX1_step 181 = .ok (.goto (-72), 3) := by decide +kernel
theorem dX1_step_184 : decode cX1_step 184 = .ok (.return_, 1) := by decide +kernel
theorem dX1_sortOf_0 : decode cX1_sortOf 0 = .ok (.iload_n 0, 1) := by decide +kernel
theorem dX1_sortOf_1 : decode cX1_sortOf 1 = .ok (.ifCond .ge 5, 3) := by decide +kernel
theorem dX1_sortOf_4 : decode cX1_sortOf 4 = .ok (.iconst 0, 1) := by decide +kernel
theorem dX1_sortOf_5 : decode cX1_sortOf 5 = .ok (.ireturn, 1) := by decide +kernel
theorem dX1_sortOf_6 : decode cX1_sortOf 6 = .ok (.iload_n 0, 1) := by decide +kernel
theorem dX1_sortOf_7 : decode cX1_sortOf 7 = .ok (.bipush 97, 2) := by decide +kernel
theorem dX1_sortOf_9 : decode cX1_sortOf 9 = .ok (.if_icmp .lt 11, 3) := by decide +kernel
theorem dX1_sortOf_12 : decode cX1_sortOf 12 = .ok (.iload_n 0, 1) := by decide +kernel
theorem dX1_sortOf_13 : decode cX1_sortOf 13 = .ok (.bipush 122, 2) := by decide +kernel
theorem dX1_sortOf_15 : decode cX1_sortOf 15 = .ok (.if_icmp .gt 5, 3) := by decide +kernel
theorem dX1_sortOf_18 : decode cX1_sortOf 18 = .ok (.iconst 1, 1) := by decide +kernel
theorem dX1_sortOf_19 : decode cX1_sortOf 19 = .ok (.ireturn, 1) := by decide +kernel
theorem dX1_sortOf_20 : decode cX1_sortOf 20 = .ok (.iload_n 0, 1) := by decide +kernel
theorem dX1_sortOf_21 : decode cX1_sortOf 21 = .ok (.bipush 48, 2) := by decide +kernel
theorem dX1_sortOf_23 : decode cX1_sortOf 23 = .ok (.if_icmp .lt 11, 3) := by decide +kernel
theorem dX1_sortOf_26 : decode cX1_sortOf 26 = .ok (.iload_n 0, 1) := by decide +kernel
theorem dX1_sortOf_27 : decode cX1_sortOf 27 = .ok (.bipush 57, 2) := by decide +kernel
theorem dX1_sortOf_29 : decode cX1_sortOf 29 = .ok (.if_icmp .gt 5, 3) := by decide +kernel
theorem dX1_sortOf_32 : decode cX1_sortOf 32 = .ok (.iconst 2, 1) := by decide +kernel
theorem dX1_sortOf_33 : decode cX1_sortOf 33 = .ok (.ireturn, 1) := by decide +kernel
theorem dX1_sortOf_34 : decode cX1_sortOf 34 = .ok (.iload_n 0, 1) := by decide +kernel
theorem dX1_sortOf_35 : decode cX1_sortOf 35 = .ok (.bipush 59, 2) := by decide +kernel
theorem dX1_sortOf_37 : decode cX1_sortOf 37 = .ok (.if_icmp .ne 7, 3) := by decide +kernel
theorem dX1_sortOf_40 : decode cX1_sortOf 40 = .ok (.iconst 3, 1) := by decide +kernel
theorem dX1_sortOf_41 : decode cX1_sortOf 41 = .ok (.goto 4, 3) := by decide +kernel
theorem dX1_sortOf_44 : decode cX1_sortOf 44 = .ok (.iconst 4, 1) := by decide +kernel
theorem dX1_sortOf_45 : decode cX1_sortOf 45 = .ok (.ireturn, 1) := by decide +kernel
theorem dX2_init_0 : decode cX2_init 0 = .ok (.aload_n 0, 1) := by decide +kernel
theorem dX2_init_1 : decode cX2_init 1 = .ok (.invokespecial 3, 3) := by decide +kernel
theorem dX2_init_4 : decode cX2_init 4 = .ok (.aload_n 0, 1) := by decide +kernel
theorem dX2_init_5 : decode cX2_init 5 = .ok (.bipush 80, 2) := by decide +kernel
theorem dX2_init_7 : decode cX2_init 7 = .ok (.newarray .int, 2) := by decide +kernel
theorem dX2_init_9 : decode cX2_init 9 = .ok (.putfield 9, 3) := by decide +kernel
theorem dX2_init_12 : decode cX2_init 12 = .ok (.aload_n 0, 1) := by decide +kernel
theorem dX2_init_13 : decode cX2_init 13 = .ok (.bipush 24, 2) := by decide +kernel
theorem dX2_init_15 : decode cX2_init 15 = .ok (.newarray .int, 2) := by decide +kernel
theorem dX2_init_17 : decode cX2_init 17 = .ok (.putfield 15, 3) := by decide +kernel
theorem dX2_init_20 : decode cX2_init 20 = .ok (.aload_n 0, 1) := by decide +kernel
theorem dX2_init_21 : decode cX2_init 21 = .ok (.bipush 10, 2) := by decide +kernel
theorem dX2_init_23 : decode cX2_init 23 = .ok (.newarray .int, 2) := by decide +kernel
theorem dX2_init_25 : decode cX2_init 25 = .ok (.putfield 18, 3) := by decide +kernel
theorem dX2_init_28 : decode cX2_init 28 = .ok (.aload_n 0, 1) := by decide +kernel
theorem dX2_init_29 : decode cX2_init 29 = .ok (.iconst 1, 1) := by decide +kernel
theorem dX2_init_30 : decode cX2_init 30 = .ok (.putfield 21, 3) := by decide +kernel
theorem dX2_init_33 : decode cX2_init 33 = .ok (.iconst 0, 1) := by decide +kernel
theorem dX2_init_34 : decode cX2_init 34 = .ok (.istore_n 1, 1) := by decide +kernel
theorem dX2_init_35 : decode cX2_init 35 = .ok (.iload_n 1, 1) := by decide +kernel
theorem dX2_init_36 : decode cX2_init 36 = .ok (.bipush 16, 2) := by decide +kernel
theorem dX2_init_38 : decode cX2_init 38 = .ok (.if_icmp .ge 51, 3) := by decide +kernel
theorem dX2_init_41 : decode cX2_init 41 = .ok (.aload_n 0, 1) := by decide +kernel
theorem dX2_init_42 : decode cX2_init 42 = .ok (.iload_n 1, 1) := by decide +kernel
theorem dX2_init_43 : decode cX2_init 43 = .ok (.iconst 0, 1) := by decide +kernel
theorem dX2_init_44 : decode cX2_init 44 = .ok (.bipush 90, 2) := by decide +kernel
theorem dX2_init_46 : decode cX2_init 46 = .ok (.bipush 6, 2) := by decide +kernel
theorem dX2_init_48 : decode cX2_init 48 = .ok (.iload_n 1, 1) := by decide +kernel
theorem dX2_init_49 : decode cX2_init 49 = .ok (.imul, 1) := by decide +kernel
theorem dX2_init_50 : decode cX2_init 50 = .ok (.isub, 1) := by decide +kernel
theorem dX2_init_51 : decode cX2_init 51 = .ok (.invokevirtual 25, 3) := by decide +kernel
theorem dX2_init_54 : decode cX2_init 54 = .ok (.aload_n 0, 1) := by decide +kernel
theorem dX2_init_55 : decode cX2_init 55 = .ok (.iload_n 1, 1) := by decide +kernel
theorem dX2_init_56 : decode cX2_init 56 = .ok (.iconst 1, 1) := by decide +kernel
theorem dX2_init_57 : decode cX2_init 57 = .ok (.iload_n 1, 1) := by decide +kernel
theorem dX2_init_58 : decode cX2_init 58 = .ok (.iconst 1, 1) := by decide +kernel
theorem dX2_init_59 : decode cX2_init 59 = .ok (.iadd, 1) := by decide +kernel
theorem dX2_init_60 : decode cX2_init 60 = .ok (.bipush 15, 2) := by decide +kernel
theorem dX2_init_62 : decode cX2_init 62 = .ok (.invokestatic 29, 3) := by decide +kernel
theorem dX2_init_65 : decode cX2_init 65 = .ok (.invokevirtual 25, 3) := by decide +kernel
theorem dX2_init_68 : decode cX2_init 68 = .ok (.aload_n 0, 1) := by decide +kernel
theorem dX2_init_69 : decode cX2_init 69 = .ok (.iload_n 1, 1) := by decide +kernel
theorem dX2_init_70 : decode cX2_init 70 = .ok (.iconst 3, 1) := by decide +kernel
theorem dX2_init_71 : decode cX2_init 71 = .ok (.iconst 1, 1) := by decide +kernel
theorem dX2_init_72 : decode cX2_init 72 = .ok (.invokevirtual 25, 3) := by decide +kernel
theorem dX2_init_75 : decode cX2_init 75 = .ok (.aload_n 0, 1) := by decide +kernel
theorem dX2_init_76 : decode cX2_init 76 = .ok (.iload_n 1, 1) := by decide +kernel
theorem dX2_init_77 : decode cX2_init 77 = .ok (.iconst 4, 1) := by decide +kernel
theorem dX2_init_78 : decode cX2_init 78 = .ok (.bipush 50, 2) := by decide +kernel
theorem dX2_init_80 : decode cX2_init 80 = .ok (.invokevirtual 25, 3) := by decide +kernel
theorem dX2_init_83 : decode cX2_init 83 = .ok (.iinc 1 1, 3) := by decide +kernel
theorem dX2_init_86 : decode cX2_init 86 = .ok (.goto (-51), 3) := by decide +kernel
theorem dX2_init_89 : decode cX2_init 89 = .ok (.iconst 0, 1) := by decide +kernel
theorem dX2_init_90 : decode cX2_init 90 = .ok (.istore_n 1, 1) := by decide +kernel
theorem dX2_init_91 : decode cX2_init 91 = .ok (.iload_n 1, 1) := by decide +kernel
theorem dX2_init_92 : decode cX2_init 92 = .ok (.aload_n 0, 1) := by decide +kernel
theorem dX2_init_93 : decode cX2_init 93 = .ok (.getfield 18, 3) := by decide +kernel
theorem dX2_init_96 : decode cX2_init 96 = .ok (.arraylength, 1) := by decide +kernel
theorem dX2_init_97 : decode cX2_init 97 = .ok (.if_icmp .ge 16, 3) := by decide +kernel
theorem dX2_init_100 : decode cX2_init 100 = .ok (.aload_n 0, 1) := by decide +kernel
theorem dX2_init_101 : decode cX2_init 101 = .ok (.getfield 18, 3) := by decide +kernel
theorem dX2_init_104 : decode cX2_init 104 = .ok (.iload_n 1, 1) := by decide +kernel
theorem dX2_init_105 : decode cX2_init 105 = .ok (.iconst (-1), 1) := by decide +kernel
theorem dX2_init_106 : decode cX2_init 106 = .ok (.iastore, 1) := by decide +kernel
theorem dX2_init_107 : decode cX2_init 107 = .ok (.iinc 1 1, 3) := by decide +kernel
theorem dX2_init_110 : decode cX2_init 110 = .ok (.goto (-19), 3) := by decide +kernel
theorem dX2_init_113 : decode cX2_init 113 = .ok (.return_, 1) := by decide +kernel
theorem dX2_become_0 : decode cX2_become 0 = .ok (.aload_n 1, 1) := by decide +kernel
theorem dX2_become_1 : decode cX2_become 1 = .ok (.getfield 9, 3) := by decide +kernel
theorem dX2_become_4 : decode cX2_become 4 = .ok (.aload_n 0, 1) := by decide +kernel
theorem dX2_become_5 : decode cX2_become 5 = .ok (.getfield 9, 3) := by decide +kernel
theorem dX2_become_8 : decode cX2_become 8 = .ok (.invokestatic 35, 3) := by decide +kernel
theorem dX2_become_11 : decode cX2_become 11 = .ok (.aload_n 1, 1) := by decide +kernel
theorem dX2_become_12 : decode cX2_become 12 = .ok (.getfield 15, 3) := by decide +kernel
theorem dX2_become_15 : decode cX2_become 15 = .ok (.aload_n 0, 1) := by decide +kernel
theorem dX2_become_16 : decode cX2_become 16 = .ok (.getfield 15, 3) := by decide +kernel
theorem dX2_become_19 : decode cX2_become 19 = .ok (.invokestatic 35, 3) := by decide +kernel
theorem dX2_become_22 : decode cX2_become 22 = .ok (.aload_n 1, 1) := by decide +kernel
theorem dX2_become_23 : decode cX2_become 23 = .ok (.getfield 18, 3) := by decide +kernel
theorem dX2_become_26 : decode cX2_become 26 = .ok (.aload_n 0, 1) := by decide +kernel
theorem dX2_become_27 : decode cX2_become 27 = .ok (.getfield 18, 3) := by decide +kernel
theorem dX2_become_30 : decode cX2_become 30 = .ok (.invokestatic 35, 3) := by decide +kernel
theorem dX2_become_33 : decode cX2_become 33 = .ok (.aload_n 0, 1) := by decide +kernel
theorem dX2_become_34 : decode cX2_become 34 = .ok (.aload_n 1, 1) := by decide +kernel
theorem dX2_become_35 : decode cX2_become 35 = .ok (.getfield 39, 3) := by decide +kernel
theorem dX2_become_38 : decode cX2_become 38 = .ok (.putfield 39, 3) := by decide +kernel
theorem dX2_become_41 : decode cX2_become 41 = .ok (.aload_n 0, 1) := by decide +kernel
theorem dX2_become_42 : decode cX2_become 42 = .ok (.aload_n 1, 1) := by decide +kernel
theorem dX2_become_43 : decode cX2_become 43 = .ok (.getfield 42, 3) := by decide +kernel
theorem dX2_become_46 : decode cX2_become 46 = .ok (.putfield 42, 3) := by decide +kernel
theorem dX2_become_49 : decode cX2_become 49 = .ok (.aload_n 0, 1) := by decide +kernel
theorem dX2_become_50 : decode cX2_become 50 = .ok (.aload_n 1, 1) := by decide +kernel
theorem dX2_become_51 : decode cX2_become 51 = .ok (.getfield 45, 3) := by decide +kernel
theorem dX2_become_54 : decode cX2_become 54 = .ok (.putfield 45, 3) := by decide +kernel
theorem dX2_become_57 : decode cX2_become 57 = .ok (.aload_n 0, 1) := by decide +kernel
theorem dX2_become_58 : decode cX2_become 58 = .ok (.aload_n 1, 1) := by decide +kernel
theorem dX2_become_59 : decode cX2_become 59 = .ok (.getfield 48, 3) := by decide +kernel
theorem dX2_become_62 : decode cX2_become 62 = .ok (.putfield 48, 3) := by decide +kernel
theorem dX2_become_65 : decode cX2_become 65 = .ok (.aload_n 0, 1) := by decide +kernel
theorem dX2_become_66 : decode cX2_become 66 = .ok (.aload_n 1, 1) := by decide +kernel
theorem dX2_become_67 : decode cX2_become 67 = .ok (.getfield 21, 3) := by decide +kernel
theorem dX2_become_70 : decode cX2_become 70 = .ok (.putfield 21, 3) := by decide +kernel
theorem dX2_become_73 : decode cX2_become 73 = .ok (.return_, 1) := by decide +kernel
theorem dX2_trait_0 : decode cX2_trait 0 = .ok (.iconst 5, 1) := by decide +kernel
theorem dX2_trait_1 : decode cX2_trait 1 = .ok (.iload_n 1, 1) := by decide +kernel
theorem dX2_trait_2 : decode cX2_trait 2 = .ok (.imul, 1) := by decide +kernel
theorem dX2_trait_3 : decode cX2_trait 3 = .ok (.iload_n 2, 1) := by decide +kernel
theorem dX2_trait_4 : decode cX2_trait 4 = .ok (.iadd, 1) := by decide +kernel
theorem dX2_trait_5 : decode cX2_trait 5 = .ok (.istore_n 3, 1) := by decide +kernel
theorem dX2_trait_6 : decode cX2_trait 6 = .ok (.iload_n 3, 1) := by decide +kernel
theorem dX2_trait_7 : decode cX2_trait 7 = .ok (.ifCond .lt 21, 3) := by decide +kernel
theorem dX2_trait_10 : decode cX2_trait 10 = .ok (.iload_n 3, 1) := by decide +kernel
theorem dX2_trait_11 : decode cX2_trait 11 = .ok (.aload_n 0, 1) := by decide +kernel
theorem dX2_trait_12 : decode cX2_trait 12 = .ok (.getfield 9, 3) := by decide +kernel
theorem dX2_trait_15 : decode cX2_trait 15 = .ok (.arraylength, 1) := by decide +kernel
theorem dX2_trait_16 : decode cX2_trait 16 = .ok (.if_icmp .ge 12, 3) := by decide +kernel
theorem dX2_trait_19 : decode cX2_trait 19 = .ok (.aload_n 0, 1) := by decide +kernel
theorem dX2_trait_20 : decode cX2_trait 20 = .ok (.getfield 9, 3) := by decide +kernel
theorem dX2_trait_23 : decode cX2_trait 23 = .ok (.iload_n 3, 1) := by decide +kernel
theorem dX2_trait_24 : decode cX2_trait 24 = .ok (.iaload, 1) := by decide +kernel
theorem dX2_trait_25 : decode cX2_trait 25 = .ok (.goto 4, 3) := by decide +kernel
theorem dX2_trait_28 : decode cX2_trait 28 = .ok (.iconst 0, 1) := by decide +kernel
theorem dX2_trait_29 : decode cX2_trait 29 = .ok (.ireturn, 1) := by decide +kernel
theorem dX2_setTrait_0 : decode cX2_setTrait 0 = .ok (.aload_n 0, 1) := by decide +kernel
theorem dX2_setTrait_1 : decode cX2_setTrait 1 = .ok (.getfield 9, 3) := by decide +kernel
theorem dX2_setTrait_4 : decode cX2_setTrait 4 = .ok (.iconst 5, 1) := by decide +kernel
theorem dX2_setTrait_5 : decode cX2_setTrait 5 = .ok (.iload_n 1, 1) := by decide +kernel
theorem dX2_setTrait_6 : decode cX2_setTrait 6 = .ok (.imul, 1) := by decide +kernel
theorem dX2_setTrait_7 : decode cX2_setTrait 7 = .ok (.iload_n 2, 1) := by decide +kernel
theorem dX2_setTrait_8 : decode cX2_setTrait 8 = .ok (.iadd, 1) := by decide +kernel
theorem dX2_setTrait_9 : decode cX2_setTrait 9 = .ok (.iload_n 3, 1) := by decide +kernel
theorem dX2_setTrait_10 : decode cX2_setTrait 10 = .ok (.invokestatic 51, 3) := by decide +kernel
theorem dX2_setTrait_13 : decode cX2_setTrait 13 = .ok (.return_, 1) := by decide +kernel
theorem dX2_quality_0 : decode cX2_quality 0 = .ok (.iconst 3, 1) := by decide +kernel
theorem dX2_quality_1 : decode cX2_quality 1 = .ok (.iload_n 1, 1) := by decide +kernel
theorem dX2_quality_2 : decode cX2_quality 2 = .ok (.imul, 1) := by decide +kernel
theorem dX2_quality_3 : decode cX2_quality 3 = .ok (.iload_n 2, 1) := by decide +kernel
theorem dX2_quality_4 : decode cX2_quality 4 = .ok (.iadd, 1) := by decide +kernel
theorem dX2_quality_5 : decode cX2_quality 5 = .ok (.istore_n 3, 1) := by decide +kernel
theorem dX2_quality_6 : decode cX2_quality 6 = .ok (.iload_n 3, 1) := by decide +kernel
theorem dX2_quality_7 : decode cX2_quality 7 = .ok (.ifCond .lt 21, 3) := by decide +kernel
theorem dX2_quality_10 : decode cX2_quality 10 = .ok (.iload_n 3, 1) := by decide +kernel
theorem dX2_quality_11 : decode cX2_quality 11 = .ok (.aload_n 0, 1) := by decide +kernel
theorem dX2_quality_12 : decode cX2_quality 12 = .ok (.getfield 15, 3) := by decide +kernel
theorem dX2_quality_15 : decode cX2_quality 15 = .ok (.arraylength, 1) := by decide +kernel
theorem dX2_quality_16 : decode cX2_quality 16 = .ok (.if_icmp .ge 12, 3) := by decide +kernel
theorem dX2_quality_19 : decode cX2_quality 19 = .ok (.aload_n 0, 1) := by decide +kernel
theorem dX2_quality_20 : decode cX2_quality 20 = .ok (.getfield 15, 3) := by decide +kernel
theorem dX2_quality_23 : decode cX2_quality 23 = .ok (.iload_n 3, 1) := by decide +kernel
theorem dX2_quality_24 : decode cX2_quality 24 = .ok (.iaload, 1) := by decide +kernel
theorem dX2_quality_25 : decode cX2_quality 25 = .ok (.goto 4, 3) := by decide +kernel
theorem dX2_quality_28 : decode cX2_quality 28 = .ok (.iconst 0, 1) := by decide +kernel
theorem dX2_quality_29 : decode cX2_quality 29 = .ok (.ireturn, 1) := by decide +kernel
theorem dX2_setQuality_0 : decode cX2_setQuality 0 = .ok (.aload_n 0, 1) := by decide +kernel
theorem dX2_setQuality_1 : decode cX2_setQuality 1 = .ok (.getfield 15, 3) := by decide +kernel
theorem dX2_setQuality_4 : decode cX2_setQuality 4 = .ok (.iconst 3, 1) := by decide +kernel
theorem dX2_setQuality_5 : decode cX2_setQuality 5 = .ok (.iload_n 1, 1) := by decide +kernel
theorem dX2_setQuality_6 : decode cX2_setQuality 6 = .ok (.imul, 1) := by decide +kernel
theorem dX2_setQuality_7 : decode cX2_setQuality 7 = .ok (.iload_n 2, 1) := by decide +kernel
theorem dX2_setQuality_8 : decode cX2_setQuality 8 = .ok (.iadd, 1) := by decide +kernel
theorem dX2_setQuality_9 : decode cX2_setQuality 9 = .ok (.iload_n 3, 1) := by decide +kernel
theorem dX2_setQuality_10 : decode cX2_setQuality 10 = .ok (.invokestatic 51, 3) := by decide +kernel
theorem dX2_setQuality_13 : decode cX2_setQuality 13 = .ok (.return_, 1) := by decide +kernel
theorem dX2_heldIn_0 : decode cX2_heldIn 0 = .ok (.iload_n 1, 1) := by decide +kernel
theorem dX2_heldIn_1 : decode cX2_heldIn 1 = .ok (.ifCond .lt 21, 3) := by decide +kernel
theorem dX2_heldIn_4 : decode cX2_heldIn 4 = .ok (.iload_n 1, 1) := by decide +kernel
theorem dX2_heldIn_5 : decode cX2_heldIn 5 = .ok (.aload_n 0, 1) := by decide +kernel
theorem dX2_heldIn_6 : decode cX2_heldIn 6 = .ok (.getfield 18, 3) := by decide +kernel
theorem dX2_heldIn_9 : decode cX2_heldIn 9 = .ok (.arraylength, 1) := by decide +kernel
theorem dX2_heldIn_10 : decode cX2_heldIn 10 = .ok (.if_icmp .ge 12, 3) := by decide +kernel
theorem dX2_heldIn_13 : decode cX2_heldIn 13 = .ok (.aload_n 0, 1) := by decide +kernel
theorem dX2_heldIn_14 : decode cX2_heldIn 14 = .ok (.getfield 18, 3) := by decide +kernel
theorem dX2_heldIn_17 : decode cX2_heldIn 17 = .ok (.iload_n 1, 1) := by decide +kernel
theorem dX2_heldIn_18 : decode cX2_heldIn 18 = .ok (.iaload, 1) := by decide +kernel
theorem dX2_heldIn_19 : decode cX2_heldIn 19 = .ok (.goto 4, 3) := by decide +kernel
theorem dX2_heldIn_22 : decode cX2_heldIn 22 = .ok (.iconst (-1), 1) := by decide +kernel
theorem dX2_heldIn_23 : decode cX2_heldIn 23 = .ok (.ireturn, 1) := by decide +kernel
theorem dX2_setSpot_0 : decode cX2_setSpot 0 = .ok (.aload_n 0, 1) := by decide +kernel
theorem dX2_setSpot_1 : decode cX2_setSpot 1 = .ok (.getfield 18, 3) := by decide +kernel
theorem dX2_setSpot_4 : decode cX2_setSpot 4 = .ok (.iload_n 1, 1) := by decide +kernel
theorem dX2_setSpot_5 : decode cX2_setSpot 5 = .ok (.iload_n 2, 1) := by decide +kernel
theorem dX2_setSpot_6 : decode cX2_setSpot 6 = .ok (.invokestatic 51, 3) := by decide +kernel
theorem dX2_setSpot_9 : decode cX2_setSpot 9 = .ok (.return_, 1) := by decide +kernel
theorem dX2_spotsInUse_0 : decode cX2_spotsInUse 0 = .ok (.iconst 0, 1) := by decide +kernel
theorem dX2_spotsInUse_1 : decode cX2_spotsInUse 1 = .ok (.istore_n 1, 1) := by decide +kernel
theorem dX2_spotsInUse_2 : decode cX2_spotsInUse 2 = .ok (.iconst 0, 1) := by decide +kernel
theorem dX2_spotsInUse_3 : decode cX2_spotsInUse 3 = .ok (.istore_n 2, 1) := by decide +kernel
theorem dX2_spotsInUse_4 : decode cX2_spotsInUse 4 = .ok (.iload_n 2, 1) := by decide +kernel
theorem dX2_spotsInUse_5 : decode cX2_spotsInUse 5 = .ok (.aload_n 0, 1) := by decide +kernel
theorem dX2_spotsInUse_6 : decode cX2_spotsInUse 6 = .ok (.getfield 18, 3) := by decide +kernel
theorem dX2_spotsInUse_9 : decode cX2_spotsInUse 9 = .ok (.arraylength, 1) := by decide +kernel
theorem dX2_spotsInUse_10 : decode cX2_spotsInUse 10 = .ok (.if_icmp .ge 21, 3) := by decide +kernel
theorem dX2_spotsInUse_13 : decode cX2_spotsInUse 13 = .ok (.aload_n 0, 1) := by decide +kernel
theorem dX2_spotsInUse_14 : decode cX2_spotsInUse 14 = .ok (.getfield 18, 3) := by decide +kernel
theorem dX2_spotsInUse_17 : decode cX2_spotsInUse 17 = .ok (.iload_n 2, 1) := by decide +kernel
theorem dX2_spotsInUse_18 : decode cX2_spotsInUse 18 = .ok (.iaload, 1) := by decide +kernel
theorem dX2_spotsInUse_19 : decode cX2_spotsInUse 19 = .ok (.ifCond .lt 6, 3) := by decide +kernel
theorem dX2_spotsInUse_22 : decode cX2_spotsInUse 22 = .ok (.iinc 1 1, 3) := by decide +kernel
theorem dX2_spotsInUse_25 : decode cX2_spotsInUse 25 = .ok (.iinc 2 1, 3) := by decide +kernel
theorem dX2_spotsInUse_28 : decode cX2_spotsInUse 28 = .ok (.goto (-24), 3) := by decide +kernel
theorem dX2_spotsInUse_31 : decode cX2_spotsInUse 31 = .ok (.iload_n 1, 1) := by decide +kernel
theorem dX2_spotsInUse_32 : decode cX2_spotsInUse 32 = .ok (.ireturn, 1) := by decide +kernel
theorem dX2_hasWhisper_0 : decode cX2_hasWhisper 0 = .ok (.iload_n 1, 1) := by decide +kernel
theorem dX2_hasWhisper_1 : decode cX2_hasWhisper 1 = .ok (.ifCond .lt 15, 3) := by decide +kernel
theorem dX2_hasWhisper_4 : decode cX2_hasWhisper 4 = .ok (.iload_n 1, 1) := by decide +kernel
theorem dX2_hasWhisper_5 : decode cX2_hasWhisper 5 = .ok (.aload_n 0, 1) := by decide +kernel
theorem dX2_hasWhisper_6 : decode cX2_hasWhisper 6 = .ok (.getfield 39, 3) := by decide +kernel
theorem dX2_hasWhisper_9 : decode cX2_hasWhisper 9 = .ok (.if_icmp .ge 7, 3) := by decide +kernel
theorem dX2_hasWhisper_12 : decode cX2_hasWhisper 12 = .ok (.iconst 1, 1) := by decide +kernel
theorem dX2_hasWhisper_13 : decode cX2_hasWhisper 13 = .ok (.goto 4, 3) := by decide +kernel
theorem dX2_hasWhisper_16 : decode cX2_hasWhisper 16 = .ok (.iconst 0, 1) := by decide +kernel
theorem dX2_hasWhisper_17 : decode cX2_hasWhisper 17 = .ok (.ireturn, 1) := by decide +kernel
theorem dX2_isFull_0 : decode cX2_isFull 0 = .ok (.aload_n 0, 1) := by decide +kernel
theorem dX2_isFull_1 : decode cX2_isFull 1 = .ok (.getfield 39, 3) := by decide +kernel
theorem dX2_isFull_4 : decode cX2_isFull 4 = .ok (.bipush 8, 2) := by decide +kernel
theorem dX2_isFull_6 : decode cX2_isFull 6 = .ok (.if_icmp .lt 7, 3) := by decide +kernel
theorem dX2_isFull_9 : decode cX2_isFull 9 = .ok (.iconst 1, 1) := by decide +kernel
theorem dX2_isFull_10 : decode cX2_isFull 10 = .ok (.goto 4, 3) := by decide +kernel
theorem dX2_isFull_13 : decode cX2_isFull 13 = .ok (.iconst 0, 1) := by decide +kernel
theorem dX2_isFull_14 : decode cX2_isFull 14 = .ok (.ireturn, 1) := by decide +kernel
theorem dX2_addWhisper_0 : decode cX2_addWhisper 0 = .ok (.aload_n 0, 1) := by decide +kernel
theorem dX2_addWhisper_1 : decode cX2_addWhisper 1 = .ok (.invokevirtual 55, 3) := by decide +kernel
theorem dX2_addWhisper_4 : decode cX2_addWhisper 4 = .ok (.ifCond .eq 5, 3) := by decide +kernel
theorem dX2_addWhisper_7 : decode cX2_addWhisper 7 = .ok (.iconst (-1), 1) := by decide +kernel
theorem dX2_addWhisper_8 : decode cX2_addWhisper 8 = .ok (.ireturn, 1) := by decide +kernel
theorem dX2_addWhisper_9 : decode cX2_addWhisper 9 = .ok (.aload_n 0, 1) := by decide +kernel
theorem dX2_addWhisper_10 : decode cX2_addWhisper 10 = .ok (.getfield 39, 3) := by decide +kernel
theorem dX2_addWhisper_13 : decode cX2_addWhisper 13 = .ok (.istore 4, 2) := by decide +kernel
theorem dX2_addWhisper_15 : decode cX2_addWhisper 15 = .ok (.aload_n 0, 1) := by decide +kernel
theorem dX2_addWhisper_16 : decode cX2_addWhisper 16 = .ok (.dup, 1) := by decide +kernel
theorem dX2_addWhisper_17 : decode cX2_addWhisper 17 = .ok (.getfield 39, 3) := by decide +kernel
theorem dX2_addWhisper_20 : decode cX2_addWhisper 20 = .ok (.iconst 1, 1) := by decide +kernel
theorem dX2_addWhisper_21 : decode cX2_addWhisper 21 = .ok (.iadd, 1) := by decide +kernel
theorem dX2_addWhisper_22 : decode cX2_addWhisper 22 = .ok (.putfield 39, 3) := by decide +kernel
theorem dX2_addWhisper_25 : decode cX2_addWhisper 25 = .ok (.aload_n 0, 1) := by decide +kernel
theorem dX2_addWhisper_26 : decode cX2_addWhisper 26 = .ok (.iload 4, 2) := by decide +kernel
theorem dX2_addWhisper_28 : decode cX2_addWhisper 28 = .ok (.iconst 0, 1) := by decide +kernel
theorem dX2_addWhisper_29 : decode cX2_addWhisper 29 = .ok (.iload_n 1, 1) := by decide +kernel
theorem dX2_addWhisper_30 : decode cX2_addWhisper 30 = .ok (.invokevirtual 59, 3) := by decide +kernel
theorem dX2_addWhisper_33 : decode cX2_addWhisper 33 = .ok (.aload_n 0, 1) := by decide +kernel
theorem dX2_addWhisper_34 : decode cX2_addWhisper 34 = .ok (.iload 4, 2) := by decide +kernel
theorem dX2_addWhisper_36 : decode cX2_addWhisper 36 = .ok (.iconst 1, 1) := by decide +kernel
theorem dX2_addWhisper_37 : decode cX2_addWhisper 37 = .ok (.iload_n 2, 1) := by decide +kernel
theorem dX2_addWhisper_38 : decode cX2_addWhisper 38 = .ok (.invokevirtual 59, 3) := by decide +kernel
theorem dX2_addWhisper_41 : decode cX2_addWhisper 41 = .ok (.aload_n 0, 1) := by decide +kernel
theorem dX2_addWhisper_42 : decode cX2_addWhisper 42 = .ok (.iload 4, 2) := by decide +kernel
theorem dX2_addWhisper_44 : decode cX2_addWhisper 44 = .ok (.iconst 2, 1) := by decide +kernel
theorem dX2_addWhisper_45 : decode cX2_addWhisper 45 = .ok (.iload_n 3, 1) := by decide +kernel
theorem dX2_addWhisper_46 : decode cX2_addWhisper 46 = .ok (.invokevirtual 59, 3) := by decide +kernel
theorem dX2_addWhisper_49 : decode cX2_addWhisper 49 = .ok (.iload 4, 2) := by decide +kernel
theorem dX2_addWhisper_51 : decode cX2_addWhisper 51 = .ok (.ireturn, 1) := by decide +kernel
theorem dX2_steepAt_0 : decode cX2_steepAt 0 = .ok (.iconst 0, 1) := by decide +kernel
theorem dX2_steepAt_1 : decode cX2_steepAt 1 = .ok (.aload_n 0, 1) := by decide +kernel
theorem dX2_steepAt_2 : decode cX2_steepAt 2 = .ok (.iload_n 1, 1) := by decide +kernel
theorem dX2_steepAt_3 : decode cX2_steepAt 3 = .ok (.iconst 0, 1) := by decide +kernel
theorem dX2_steepAt_4 : decode cX2_steepAt 4 = .ok (.invokevirtual 62, 3) := by decide +kernel
theorem dX2_steepAt_7 : decode cX2_steepAt 7 = .ok (.aload_n 0, 1) := by decide +kernel
theorem dX2_steepAt_8 : decode cX2_steepAt 8 = .ok (.aload_n 0, 1) := by decide +kernel
theorem dX2_steepAt_9 : decode cX2_steepAt 9 = .ok (.iload_n 1, 1) := by decide +kernel
theorem dX2_steepAt_10 : decode cX2_steepAt 10 = .ok (.iconst 1, 1) := by decide +kernel
theorem dX2_steepAt_11 : decode cX2_steepAt 11 = .ok (.invokevirtual 62, 3) := by decide +kernel
theorem dX2_steepAt_14 : decode cX2_steepAt 14 = .ok (.iconst 0, 1) := by decide +kernel
theorem dX2_steepAt_15 : decode cX2_steepAt 15 = .ok (.invokevirtual 62, 3) := by decide +kernel
theorem dX2_steepAt_18 : decode cX2_steepAt 18 = .ok (.isub, 1) := by decide +kernel
theorem dX2_steepAt_19 : decode cX2_steepAt 19 = .ok (.invokestatic 65, 3) := by decide +kernel
theorem dX2_steepAt_22 : decode cX2_steepAt 22 = .ok (.ireturn, 1) := by decide +kernel
theorem dX2_runningCorners_0 : decode cX2_runningCorners 0 = .ok (.iconst 0, 1) := by decide +kernel
theorem dX2_runningCorners_1 : decode cX2_runningCorners 1 = .ok (.istore_n 1, 1) := by decide +kernel
theorem dX2_runningCorners_2 : decode cX2_runningCorners 2 = .ok (.iconst 0, 1) := by decide +kernel
theorem dX2_runningCorners_3 : decode cX2_runningCorners 3 = .ok (.istore_n 2, 1) := by decide +kernel
theorem dX2_runningCorners_4 : decode cX2_runningCorners 4 = .ok (.iload_n 2, 1) := by decide +kernel
theorem dX2_runningCorners_5 : decode cX2_runningCorners 5 = .ok (.bipush 16, 2) := by decide +kernel
theorem dX2_runningCorners_7 : decode cX2_runningCorners 7 = .ok (.if_icmp .ge 23, 3) := by decide +kernel
theorem dX2_runningCorners_10 : decode cX2_runningCorners 10 = .ok (.aload_n 0, 1) := by decide +kernel
theorem dX2_runningCorners_11 : decode cX2_runningCorners 11 = .ok (.iload_n 2, 1) := by decide +kernel
theorem dX2_runningCorners_12 : decode cX2_runningCorners 12 = .ok (.invokevirtual 68, 3) := by decide +kernel
theorem dX2_runningCorners_15 : decode cX2_runningCorners 15 = .ok (.ifCond .le 9, 3) := by decide +kernel
theorem dX2_runningCorners_18 : decode cX2_runningCorners 18 = .ok (.iload_n 1, 1) := by decide +kernel
theorem dX2_runningCorners_19 : decode cX2_runningCorners 19 = .ok (.iconst 1, 1) := by decide +kernel
theorem dX2_runningCorners_20 : decode cX2_runningCorners 20 = .ok (.iload_n 2, 1) := by decide +kernel
theorem dX2_runningCorners_21 : decode cX2_runningCorners 21 = .ok (.ishl, 1) := by decide +kernel
theorem dX2_runningCorners_22 : decode cX2_runningCorners 22 = .ok (.ior, 1) := by decide +kernel
theorem dX2_runningCorners_23 : decode cX2_runningCorners 23 = .ok (.istore_n 1, 1) := by decide +kernel
theorem dX2_runningCorners_24 : decode cX2_runningCorners 24 = .ok (.iinc 2 1, 3) := by decide +kernel
theorem dX2_runningCorners_27 : decode cX2_runningCorners 27 = .ok (.goto (-23), 3) := by decide +kernel
theorem dX2_runningCorners_30 : decode cX2_runningCorners 30 = .ok (.iload_n 1, 1) := by decide +kernel
theorem dX2_runningCorners_31 : decode cX2_runningCorners 31 = .ok (.ireturn, 1) := by decide +kernel
theorem dX2_weightAt_0 : decode cX2_weightAt 0 = .ok (.aload_n 0, 1) := by decide +kernel
theorem dX2_weightAt_1 : decode cX2_weightAt 1 = .ok (.iload_n 1, 1) := by decide +kernel
theorem dX2_weightAt_2 : decode cX2_weightAt 2 = .ok (.iconst 1, 1) := by decide +kernel
theorem dX2_weightAt_3 : decode cX2_weightAt 3 = .ok (.invokevirtual 72, 3) := by decide +kernel
theorem dX2_weightAt_6 : decode cX2_weightAt 6 = .ok (.iload_n 2, 1) := by decide +kernel
theorem dX2_weightAt_7 : decode cX2_weightAt 7 = .ok (.if_icmp .ne 12, 3) := by decide +kernel
theorem dX2_weightAt_10 : decode cX2_weightAt 10 = .ok (.aload_n 0, 1) := by decide +kernel
theorem dX2_weightAt_11 : decode cX2_weightAt 11 = .ok (.iload_n 1, 1) := by decide +kernel
theorem dX2_weightAt_12 : decode cX2_weightAt 12 = .ok (.iconst 2, 1) := by decide +kernel
theorem dX2_weightAt_13 : decode cX2_weightAt 13 = .ok (.invokevirtual 72, 3) := by decide +kernel
theorem dX2_weightAt_16 : decode cX2_weightAt 16 = .ok (.goto 4, 3) := by decide +kernel
theorem dX2_weightAt_19 : decode cX2_weightAt 19 = .ok (.iconst 0, 1) := by decide +kernel
theorem dX2_weightAt_20 : decode cX2_weightAt 20 = .ok (.ireturn, 1) := by decide +kernel
theorem dX2_loudAt_0 : decode cX2_loudAt 0 = .ok (.iconst 0, 1) := by decide +kernel
theorem dX2_loudAt_1 : decode cX2_loudAt 1 = .ok (.istore_n 2, 1) := by decide +kernel
theorem dX2_loudAt_2 : decode cX2_loudAt 2 = .ok (.iconst 0, 1) := by decide +kernel
theorem dX2_loudAt_3 : decode cX2_loudAt 3 = .ok (.istore_n 3, 1) := by decide +kernel
theorem dX2_loudAt_4 : decode cX2_loudAt 4 = .ok (.iload_n 3, 1) := by decide +kernel
theorem dX2_loudAt_5 : decode cX2_loudAt 5 = .ok (.aload_n 0, 1) := by decide +kernel
theorem dX2_loudAt_6 : decode cX2_loudAt 6 = .ok (.getfield 39, 3) := by decide +kernel
theorem dX2_loudAt_9 : decode cX2_loudAt 9 = .ok (.if_icmp .ge 18, 3) := by decide +kernel
theorem dX2_loudAt_12 : decode cX2_loudAt 12 = .ok (.iload_n 2, 1) := by decide +kernel
theorem dX2_loudAt_13 : decode cX2_loudAt 13 = .ok (.aload_n 0, 1) := by decide +kernel
theorem dX2_loudAt_14 : decode cX2_loudAt 14 = .ok (.iload_n 3, 1) := by decide +kernel
theorem dX2_loudAt_15 : decode cX2_loudAt 15 = .ok (.iload_n 1, 1) := by decide +kernel
theorem dX2_loudAt_16 : decode cX2_loudAt 16 = .ok (.invokevirtual 75, 3) := by decide +kernel
theorem dX2_loudAt_19 : decode cX2_loudAt 19 = .ok (.iadd, 1) := by decide +kernel
theorem dX2_loudAt_20 : decode cX2_loudAt 20 = .ok (.istore_n 2, 1) := by decide +kernel
theorem dX2_loudAt_21 : decode cX2_loudAt 21 = .ok (.iinc 3 1, 3) := by decide +kernel
theorem dX2_loudAt_24 : decode cX2_loudAt 24 = .ok (.goto (-20), 3) := by decide +kernel
theorem dX2_loudAt_27 : decode cX2_loudAt 27 = .ok (.iload_n 2, 1) := by decide +kernel
theorem dX2_loudAt_28 : decode cX2_loudAt 28 = .ok (.ireturn, 1) := by decide +kernel
theorem dX2_isHeardAt_0 : decode cX2_isHeardAt 0 = .ok (.aload_n 0, 1) := by decide +kernel
theorem dX2_isHeardAt_1 : decode cX2_isHeardAt 1 = .ok (.iload_n 1, 1) := by decide +kernel
theorem dX2_isHeardAt_2 : decode cX2_isHeardAt 2 = .ok (.invokevirtual 78, 3) := by decide +kernel
theorem dX2_isHeardAt_5 : decode cX2_isHeardAt 5 = .ok (.aload_n 0, 1) := by decide +kernel
theorem dX2_isHeardAt_6 : decode cX2_isHeardAt 6 = .ok (.iload_n 1, 1) := by decide +kernel
theorem dX2_isHeardAt_7 : decode cX2_isHeardAt 7 = .ok (.iconst 4, 1) := by decide +kernel
theorem dX2_isHeardAt_8 : decode cX2_isHeardAt 8 = .ok (.invokevirtual 62, 3) := by decide +kernel
theorem dX2_isHeardAt_11 : decode cX2_isHeardAt 11 = .ok (.if_icmp .lt 7, 3) := by decide +kernel
theorem dX2_isHeardAt_14 : decode cX2_isHeardAt 14 = .ok (.iconst 1, 1) := by decide +kernel
theorem dX2_isHeardAt_15 : decode cX2_isHeardAt 15 = .ok (.goto 4, 3) := by decide +kernel
theorem dX2_isHeardAt_18 : decode cX2_isHeardAt 18 = .ok (.iconst 0, 1) := by decide +kernel
theorem dX2_isHeardAt_19 : decode cX2_isHeardAt 19 = .ok (.ireturn, 1) := by decide +kernel
theorem dX2_heardCorners_0 : decode cX2_heardCorners 0 = .ok (.iconst 0, 1) := by decide +kernel
theorem dX2_heardCorners_1 : decode cX2_heardCorners 1 = .ok (.istore_n 1, 1) := by decide +kernel
theorem dX2_heardCorners_2 : decode cX2_heardCorners 2 = .ok (.iconst 0, 1) := by decide +kernel
theorem dX2_heardCorners_3 : decode cX2_heardCorners 3 = .ok (.istore_n 2, 1) := by decide +kernel
theorem dX2_heardCorners_4 : decode cX2_heardCorners 4 = .ok (.iload_n 2, 1) := by decide +kernel
theorem dX2_heardCorners_5 : decode cX2_heardCorners 5 = .ok (.bipush 16, 2) := by decide +kernel
theorem dX2_heardCorners_7 : decode cX2_heardCorners 7 = .ok (.if_icmp .ge 23, 3) := by decide +kernel
theorem dX2_heardCorners_10 : decode cX2_heardCorners 10 = .ok (.aload_n 0, 1) := by decide +kernel
theorem dX2_heardCorners_11 : decode cX2_heardCorners 11 = .ok (.iload_n 2, 1) := by decide +kernel
theorem dX2_heardCorners_12 : decode cX2_heardCorners 12 = .ok (.invokevirtual 81, 3) := by decide +kernel
theorem dX2_heardCorners_15 : decode cX2_heardCorners 15 = .ok (.ifCond .eq 9, 3) := by decide +kernel
theorem dX2_heardCorners_18 : decode cX2_heardCorners 18 = .ok (.iload_n 1, 1) := by decide +kernel
theorem dX2_heardCorners_19 : decode cX2_heardCorners 19 = .ok (.iconst 1, 1) := by decide +kernel
theorem dX2_heardCorners_20 : decode cX2_heardCorners 20 = .ok (.iload_n 2, 1) := by decide +kernel
theorem dX2_heardCorners_21 : decode cX2_heardCorners 21 = .ok (.ishl, 1) := by decide +kernel
theorem dX2_heardCorners_22 : decode cX2_heardCorners 22 = .ok (.ior, 1) := by decide +kernel
theorem dX2_heardCorners_23 : decode cX2_heardCorners 23 = .ok (.istore_n 1, 1) := by decide +kernel
theorem dX2_heardCorners_24 : decode cX2_heardCorners 24 = .ok (.iinc 2 1, 3) := by decide +kernel
theorem dX2_heardCorners_27 : decode cX2_heardCorners 27 = .ok (.goto (-23), 3) := by decide +kernel
theorem dX2_heardCorners_30 : decode cX2_heardCorners 30 = .ok (.iload_n 1, 1) := by decide +kernel
theorem dX2_heardCorners_31 : decode cX2_heardCorners 31 = .ok (.ireturn, 1) := by decide +kernel
theorem dX2_rentOf_0 : decode cX2_rentOf 0 = .ok (.aload_n 0, 1) := by decide +kernel
theorem dX2_rentOf_1 : decode cX2_rentOf 1 = .ok (.iload_n 1, 1) := by decide +kernel
theorem dX2_rentOf_2 : decode cX2_rentOf 2 = .ok (.iconst 0, 1) := by decide +kernel
theorem dX2_rentOf_3 : decode cX2_rentOf 3 = .ok (.invokevirtual 62, 3) := by decide +kernel
theorem dX2_rentOf_6 : decode cX2_rentOf 6 = .ok (.iconst 0, 1) := by decide +kernel
theorem dX2_rentOf_7 : decode cX2_rentOf 7 = .ok (.bipush 50, 2) := by decide +kernel
theorem dX2_rentOf_9 : decode cX2_rentOf 9 = .ok (.aload_n 0, 1) := by decide +kernel
theorem dX2_rentOf_10 : decode cX2_rentOf 10 = .ok (.iload_n 1, 1) := by decide +kernel
theorem dX2_rentOf_11 : decode cX2_rentOf 11 = .ok (.invokevirtual 78, 3) := by decide +kernel
theorem dX2_rentOf_14 : decode cX2_rentOf 14 = .ok (.isub, 1) := by decide +kernel
theorem dX2_rentOf_15 : decode cX2_rentOf 15 = .ok (.invokestatic 65, 3) := by decide +kernel
theorem dX2_rentOf_18 : decode cX2_rentOf 18 = .ok (.iadd, 1) := by decide +kernel
theorem dX2_rentOf_19 : decode cX2_rentOf 19 = .ok (.ireturn, 1) := by decide +kernel
theorem dX2_heightOf_0 : decode cX2_heightOf 0 = .ok (.aload_n 0, 1) := by decide +kernel
theorem dX2_heightOf_1 : decode cX2_heightOf 1 = .ok (.aload_n 0, 1) := by decide +kernel
theorem dX2_heightOf_2 : decode cX2_heightOf 2 = .ok (.iload_n 1, 1) := by decide +kernel
theorem dX2_heightOf_3 : decode cX2_heightOf 3 = .ok (.iconst 1, 1) := by decide +kernel
theorem dX2_heightOf_4 : decode cX2_heightOf 4 = .ok (.invokevirtual 72, 3) := by decide +kernel
theorem dX2_heightOf_7 : decode cX2_heightOf 7 = .ok (.iconst 0, 1) := by decide +kernel
theorem dX2_heightOf_8 : decode cX2_heightOf 8 = .ok (.invokevirtual 62, 3) := by decide +kernel
theorem dX2_heightOf_11 : decode cX2_heightOf 11 = .ok (.ireturn, 1) := by decide +kernel
theorem dX2_whispersAt_0 : decode cX2_whispersAt 0 = .ok (.iconst 0, 1) := by decide +kernel
theorem dX2_whispersAt_1 : decode cX2_whispersAt 1 = .ok (.istore_n 2, 1) := by decide +kernel
theorem dX2_whispersAt_2 : decode cX2_whispersAt 2 = .ok (.iconst 0, 1) := by decide +kernel
theorem dX2_whispersAt_3 : decode cX2_whispersAt 3 = .ok (.istore_n 3, 1) := by decide +kernel
theorem dX2_whispersAt_4 : decode cX2_whispersAt 4 = .ok (.iload_n 3, 1) := by decide +kernel
theorem dX2_whispersAt_5 : decode cX2_whispersAt 5 = .ok (.aload_n 0, 1) := by decide +kernel
theorem dX2_whispersAt_6 : decode cX2_whispersAt 6 = .ok (.getfield 39, 3) := by decide +kernel
theorem dX2_whispersAt_9 : decode cX2_whispersAt 9 = .ok (.if_icmp .ge 22, 3) := by decide +kernel
theorem dX2_whispersAt_12 : decode cX2_whispersAt 12 = .ok (.aload_n 0, 1) := by decide +kernel
theorem dX2_whispersAt_13 : decode cX2_whispersAt 13 = .ok (.iload_n 3, 1) := by decide +kernel
theorem dX2_whispersAt_14 : decode cX2_whispersAt 14 = .ok (.iconst 1, 1) := by decide +kernel
theorem dX2_whispersAt_15 : decode cX2_whispersAt 15 = .ok (.invokevirtual 72, 3) := by decide +kernel
theorem dX2_whispersAt_18 : decode cX2_whispersAt 18 = .ok (.iload_n 1, 1) := by decide +kernel
theorem dX2_whispersAt_19 : decode cX2_whispersAt 19 = .ok (.if_icmp .ne 6, 3) := by decide +kernel
theorem dX2_whispersAt_22 : decode cX2_whispersAt 22 = .ok (.iinc 2 1, 3) := by decide +kernel
theorem dX2_whispersAt_25 : decode cX2_whispersAt 25 = .ok (.iinc 3 1, 3) := by decide +kernel
theorem dX2_whispersAt_28 : decode cX2_whispersAt 28 = .ok (.goto (-24), 3) := by decide +kernel
theorem dX2_whispersAt_31 : decode cX2_whispersAt 31 = .ok (.iload_n 2, 1) := by decide +kernel
theorem dX2_whispersAt_32 : decode cX2_whispersAt 32 = .ok (.ireturn, 1) := by decide +kernel
theorem dX2_weightOfAll_0 : decode cX2_weightOfAll 0 = .ok (.iconst 0, 1) := by decide +kernel
theorem dX2_weightOfAll_1 : decode cX2_weightOfAll 1 = .ok (.istore_n 1, 1) := by decide +kernel
theorem dX2_weightOfAll_2 : decode cX2_weightOfAll 2 = .ok (.iconst 0, 1) := by decide +kernel
theorem dX2_weightOfAll_3 : decode cX2_weightOfAll 3 = .ok (.istore_n 2, 1) := by decide +kernel
theorem dX2_weightOfAll_4 : decode cX2_weightOfAll 4 = .ok (.iload_n 2, 1) := by decide +kernel
theorem dX2_weightOfAll_5 : decode cX2_weightOfAll 5 = .ok (.aload_n 0, 1) := by decide +kernel
theorem dX2_weightOfAll_6 : decode cX2_weightOfAll 6 = .ok (.getfield 39, 3) := by decide +kernel
theorem dX2_weightOfAll_9 : decode cX2_weightOfAll 9 = .ok (.if_icmp .ge 18, 3) := by decide +kernel
theorem dX2_weightOfAll_12 : decode cX2_weightOfAll 12 = .ok (.iload_n 1, 1) := by decide +kernel
theorem dX2_weightOfAll_13 : decode cX2_weightOfAll 13 = .ok (.aload_n 0, 1) := by decide +kernel
theorem dX2_weightOfAll_14 : decode cX2_weightOfAll 14 = .ok (.iload_n 2, 1) := by decide +kernel
theorem dX2_weightOfAll_15 : decode cX2_weightOfAll 15 = .ok (.iconst 2, 1) := by decide +kernel
theorem dX2_weightOfAll_16 : decode cX2_weightOfAll 16 = .ok (.invokevirtual 72, 3) := by decide +kernel
theorem dX2_weightOfAll_19 : decode cX2_weightOfAll 19 = .ok (.iadd, 1) := by decide +kernel
theorem dX2_weightOfAll_20 : decode cX2_weightOfAll 20 = .ok (.istore_n 1, 1) := by decide +kernel
theorem dX2_weightOfAll_21 : decode cX2_weightOfAll 21 = .ok (.iinc 2 1, 3) := by decide +kernel
theorem dX2_weightOfAll_24 : decode cX2_weightOfAll 24 = .ok (.goto (-20), 3) := by decide +kernel
theorem dX2_weightOfAll_27 : decode cX2_weightOfAll 27 = .ok (.iload_n 1, 1) := by decide +kernel
theorem dX2_weightOfAll_28 : decode cX2_weightOfAll 28 = .ok (.ireturn, 1) := by decide +kernel
theorem dX2_sandOfAll_0 : decode cX2_sandOfAll 0 = .ok (.iconst 0, 1) := by decide +kernel
theorem dX2_sandOfAll_1 : decode cX2_sandOfAll 1 = .ok (.istore_n 1, 1) := by decide +kernel
theorem dX2_sandOfAll_2 : decode cX2_sandOfAll 2 = .ok (.iconst 0, 1) := by decide +kernel
theorem dX2_sandOfAll_3 : decode cX2_sandOfAll 3 = .ok (.istore_n 2, 1) := by decide +kernel
theorem dX2_sandOfAll_4 : decode cX2_sandOfAll 4 = .ok (.iload_n 2, 1) := by decide +kernel
theorem dX2_sandOfAll_5 : decode cX2_sandOfAll 5 = .ok (.bipush 16, 2) := by decide +kernel
theorem dX2_sandOfAll_7 : decode cX2_sandOfAll 7 = .ok (.if_icmp .ge 18, 3) := by decide +kernel
theorem dX2_sandOfAll_10 : decode cX2_sandOfAll 10 = .ok (.iload_n 1, 1) := by decide +kernel
theorem dX2_sandOfAll_11 : decode cX2_sandOfAll 11 = .ok (.aload_n 0, 1) := by decide +kernel
theorem dX2_sandOfAll_12 : decode cX2_sandOfAll 12 = .ok (.iload_n 2, 1) := by decide +kernel
theorem dX2_sandOfAll_13 : decode cX2_sandOfAll 13 = .ok (.iconst 2, 1) := by decide +kernel
theorem dX2_sandOfAll_14 : decode cX2_sandOfAll 14 = .ok (.invokevirtual 62, 3) := by decide +kernel
theorem dX2_sandOfAll_17 : decode cX2_sandOfAll 17 = .ok (.iadd, 1) := by decide +kernel
theorem dX2_sandOfAll_18 : decode cX2_sandOfAll 18 = .ok (.istore_n 1, 1) := by decide +kernel
theorem dX2_sandOfAll_19 : decode cX2_sandOfAll 19 = .ok (.iinc 2 1, 3) := by decide +kernel
theorem dX2_sandOfAll_22 : decode cX2_sandOfAll 22 = .ok (.goto (-18), 3) := by decide +kernel
theorem dX2_sandOfAll_25 : decode cX2_sandOfAll 25 = .ok (.iload_n 1, 1) := by decide +kernel
theorem dX2_sandOfAll_26 : decode cX2_sandOfAll 26 = .ok (.ireturn, 1) := by decide +kernel
theorem dX2_costOf_0 : decode cX2_costOf 0 = .ok (.iconst 0, 1) := by decide +kernel
theorem dX2_costOf_1 : decode cX2_costOf 1 = .ok (.istore_n 2, 1) := by decide +kernel
theorem dX2_costOf_2 : decode cX2_costOf 2 = .ok (.iconst 0, 1) := by decide +kernel
theorem dX2_costOf_3 : decode cX2_costOf 3 = .ok (.istore_n 3, 1) := by decide +kernel
theorem dX2_costOf_4 : decode cX2_costOf 4 = .ok (.iload_n 3, 1) := by decide +kernel
theorem dX2_costOf_5 : decode cX2_costOf 5 = .ok (.bipush 16, 2) := by decide +kernel
theorem dX2_costOf_7 : decode cX2_costOf 7 = .ok (.if_icmp .ge 26, 3) := by decide +kernel
theorem dX2_costOf_10 : decode cX2_costOf 10 = .ok (.iload_n 1, 1) := by decide +kernel
theorem dX2_costOf_11 : decode cX2_costOf 11 = .ok (.iload_n 3, 1) := by decide +kernel
theorem dX2_costOf_12 : decode cX2_costOf 12 = .ok (.invokestatic 85, 3) := by decide +kernel
theorem dX2_costOf_15 : decode cX2_costOf 15 = .ok (.ifCond .eq 12, 3) := by decide +kernel
theorem dX2_costOf_18 : decode cX2_costOf 18 = .ok (.iload_n 2, 1) := by decide +kernel
theorem dX2_costOf_19 : decode cX2_costOf 19 = .ok (.aload_n 0, 1) := by decide +kernel
theorem dX2_costOf_20 : decode cX2_costOf 20 = .ok (.iload_n 3, 1) := by decide +kernel
theorem dX2_costOf_21 : decode cX2_costOf 21 = .ok (.iconst 3, 1) := by decide +kernel
theorem dX2_costOf_22 : decode cX2_costOf 22 = .ok (.invokevirtual 62, 3) := by decide +kernel
theorem dX2_costOf_25 : decode cX2_costOf 25 = .ok (.iadd, 1) := by decide +kernel
theorem dX2_costOf_26 : decode cX2_costOf 26 = .ok (.istore_n 2, 1) := by decide +kernel
theorem dX2_costOf_27 : decode cX2_costOf 27 = .ok (.iinc 3 1, 3) := by decide +kernel
theorem dX2_costOf_30 : decode cX2_costOf 30 = .ok (.goto (-26), 3) := by decide +kernel
theorem dX2_costOf_33 : decode cX2_costOf 33 = .ok (.iload_n 2, 1) := by decide +kernel
theorem dX2_costOf_34 : decode cX2_costOf 34 = .ok (.ireturn, 1) := by decide +kernel
theorem dX2_sandAll_0 : decode cX2_sandAll 0 = .ok (.iconst 0, 1) := by decide +kernel
theorem dX2_sandAll_1 : decode cX2_sandAll 1 = .ok (.istore_n 2, 1) := by decide +kernel
theorem dX2_sandAll_2 : decode cX2_sandAll 2 = .ok (.iload_n 2, 1) := by decide +kernel
theorem dX2_sandAll_3 : decode cX2_sandAll 3 = .ok (.bipush 16, 2) := by decide +kernel
theorem dX2_sandAll_5 : decode cX2_sandAll 5 = .ok (.if_icmp .ge 25, 3) := by decide +kernel
theorem dX2_sandAll_8 : decode cX2_sandAll 8 = .ok (.iload_n 1, 1) := by decide +kernel
theorem dX2_sandAll_9 : decode cX2_sandAll 9 = .ok (.iload_n 2, 1) := by decide +kernel
theorem dX2_sandAll_10 : decode cX2_sandAll 10 = .ok (.invokestatic 85, 3) := by decide +kernel
theorem dX2_sandAll_13 : decode cX2_sandAll 13 = .ok (.ifCond .eq 11, 3) := by decide +kernel
theorem dX2_sandAll_16 : decode cX2_sandAll 16 = .ok (.aload_n 0, 1) := by decide +kernel
theorem dX2_sandAll_17 : decode cX2_sandAll 17 = .ok (.iload_n 2, 1) := by decide +kernel
theorem dX2_sandAll_18 : decode cX2_sandAll 18 = .ok (.iconst 2, 1) := by decide +kernel
theorem dX2_sandAll_19 : decode cX2_sandAll 19 = .ok (.bipush 9, 2) := by decide +kernel
theorem dX2_sandAll_21 : decode cX2_sandAll 21 = .ok (.invokevirtual 25, 3) := by decide +kernel
theorem dX2_sandAll_24 : decode cX2_sandAll 24 = .ok (.iinc 2 1, 3) := by decide +kernel
theorem dX2_sandAll_27 : decode cX2_sandAll 27 = .ok (.goto (-25), 3) := by decide +kernel
theorem dX2_sandAll_30 : decode cX2_sandAll 30 = .ok (.return_, 1) := by decide +kernel
theorem dX2_speedOf_0 : decode cX2_speedOf 0 = .ok (.aload_n 0, 1) := by decide +kernel
theorem dX2_speedOf_1 : decode cX2_speedOf 1 = .ok (.iload_n 1, 1) := by decide +kernel
theorem dX2_speedOf_2 : decode cX2_speedOf 2 = .ok (.iconst 1, 1) := by decide +kernel
theorem dX2_speedOf_3 : decode cX2_speedOf 3 = .ok (.invokevirtual 72, 3) := by decide +kernel
theorem dX2_speedOf_6 : decode cX2_speedOf 6 = .ok (.istore_n 2, 1) := by decide +kernel
theorem dX2_speedOf_7 : decode cX2_speedOf 7 = .ok (.aload_n 0, 1) := by decide +kernel
theorem dX2_speedOf_8 : decode cX2_speedOf 8 = .ok (.iload_n 2, 1) := by decide +kernel
theorem dX2_speedOf_9 : decode cX2_speedOf 9 = .ok (.iconst 2, 1) := by decide +kernel
theorem dX2_speedOf_10 : decode cX2_speedOf 10 = .ok (.invokevirtual 62, 3) := by decide +kernel
theorem dX2_speedOf_13 : decode cX2_speedOf 13 = .ok (.istore_n 3, 1) := by decide +kernel
theorem dX2_speedOf_14 : decode cX2_speedOf 14 = .ok (.iconst 3, 1) := by decide +kernel
theorem dX2_speedOf_15 : decode cX2_speedOf 15 = .ok (.aload_n 0, 1) := by decide +kernel
theorem dX2_speedOf_16 : decode cX2_speedOf 16 = .ok (.iload_n 2, 1) := by decide +kernel
theorem dX2_speedOf_17 : decode cX2_speedOf 17 = .ok (.invokevirtual 68, 3) := by decide +kernel
theorem dX2_speedOf_20 : decode cX2_speedOf 20 = .ok (.bipush 10, 2) := by decide +kernel
theorem dX2_speedOf_22 : decode cX2_speedOf 22 = .ok (.idiv, 1) := by decide +kernel
theorem dX2_speedOf_23 : decode cX2_speedOf 23 = .ok (.invokestatic 29, 3) := by decide +kernel
theorem dX2_speedOf_26 : decode cX2_speedOf 26 = .ok (.iconst 1, 1) := by decide +kernel
theorem dX2_speedOf_27 : decode cX2_speedOf 27 = .ok (.iadd, 1) := by decide +kernel
theorem dX2_speedOf_28 : decode cX2_speedOf 28 = .ok (.istore 4, 2) := by decide +kernel
theorem dX2_speedOf_30 : decode cX2_speedOf 30 = .ok (.iconst 0, 1) := by decide +kernel
theorem dX2_speedOf_31 : decode cX2_speedOf 31 = .ok (.iload 4, 2) := by decide +kernel
theorem dX2_speedOf_33 : decode cX2_speedOf 33 = .ok (.iload_n 3, 1) := by decide +kernel
theorem dX2_speedOf_34 : decode cX2_speedOf 34 = .ok (.isub, 1) := by decide +kernel
theorem dX2_speedOf_35 : decode cX2_speedOf 35 = .ok (.invokestatic 65, 3) := by decide +kernel
theorem dX2_speedOf_38 : decode cX2_speedOf 38 = .ok (.istore 5, 2) := by decide +kernel
theorem dX2_speedOf_40 : decode cX2_speedOf 40 = .ok (.aload_n 0, 1) := by decide +kernel
theorem dX2_speedOf_41 : decode cX2_speedOf 41 = .ok (.iload_n 1, 1) := by decide +kernel
theorem dX2_speedOf_42 : decode cX2_speedOf 42 = .ok (.iconst 2, 1) := by decide +kernel
theorem dX2_speedOf_43 : decode cX2_speedOf 43 = .ok (.invokevirtual 72, 3) := by decide +kernel
theorem dX2_speedOf_46 : decode cX2_speedOf 46 = .ok (.bipush 100, 2) := by decide +kernel
theorem dX2_speedOf_48 : decode cX2_speedOf 48 = .ok (.idiv, 1) := by decide +kernel
theorem dX2_speedOf_49 : decode cX2_speedOf 49 = .ok (.istore 6, 2) := by decide +kernel
theorem dX2_speedOf_51 : decode cX2_speedOf 51 = .ok (.aload_n 0, 1) := by decide +kernel
theorem dX2_speedOf_52 : decode cX2_speedOf 52 = .ok (.iload_n 1, 1) := by decide +kernel
theorem dX2_speedOf_53 : decode cX2_speedOf 53 = .ok (.iconst 0, 1) := by decide +kernel
theorem dX2_speedOf_54 : decode cX2_speedOf 54 = .ok (.invokevirtual 72, 3) := by decide +kernel
theorem dX2_speedOf_57 : decode cX2_speedOf 57 = .ok (.tableswitch 103 1 6 #[39, 48, 55, 65, 77, 92], 39) := by decide +kernel
theorem dX2_speedOf_96 : decode cX2_speedOf 96 = .ok (.iload 4, 2) := by decide +kernel
theorem dX2_speedOf_98 : decode cX2_speedOf 98 = .ok (.iconst 1, 1) := by decide +kernel
theorem dX2_speedOf_99 : decode cX2_speedOf 99 = .ok (.iadd, 1) := by decide +kernel
theorem dX2_speedOf_100 : decode cX2_speedOf 100 = .ok (.istore 7, 2) := by decide +kernel
theorem dX2_speedOf_102 : decode cX2_speedOf 102 = .ok (.goto 62, 3) := by decide +kernel
theorem dX2_speedOf_105 : decode cX2_speedOf 105 = .ok (.iload 5, 2) := by decide +kernel
theorem dX2_speedOf_107 : decode cX2_speedOf 107 = .ok (.istore 7, 2) := by decide +kernel
theorem dX2_speedOf_109 : decode cX2_speedOf 109 = .ok (.goto 55, 3) := by decide +kernel
theorem dX2_speedOf_112 : decode cX2_speedOf 112 = .ok (.iload 5, 2) := by decide +kernel
theorem dX2_speedOf_114 : decode cX2_speedOf 114 = .ok (.iload 6, 2) := by decide +kernel
theorem dX2_speedOf_116 : decode cX2_speedOf 116 = .ok (.iadd, 1) := by decide +kernel
theorem dX2_speedOf_117 : decode cX2_speedOf 117 = .ok (.istore 7, 2) := by decide +kernel
theorem dX2_speedOf_119 : decode cX2_speedOf 119 = .ok (.goto 45, 3) := by decide +kernel
theorem dX2_speedOf_122 : decode cX2_speedOf 122 = .ok (.iload 5, 2) := by decide +kernel
theorem dX2_speedOf_124 : decode cX2_speedOf 124 = .ok (.iload 6, 2) := by decide +kernel
theorem dX2_speedOf_126 : decode cX2_speedOf 126 = .ok (.iadd, 1) := by decide +kernel
theorem dX2_speedOf_127 : decode cX2_speedOf 127 = .ok (.iconst 2, 1) := by decide +kernel
theorem dX2_speedOf_128 : decode cX2_speedOf 128 = .ok (.iadd, 1) := by decide +kernel
theorem dX2_speedOf_129 : decode cX2_speedOf 129 = .ok (.istore 7, 2) := by decide +kernel
theorem dX2_speedOf_131 : decode cX2_speedOf 131 = .ok (.goto 33, 3) := by decide +kernel
theorem dX2_speedOf_134 : decode cX2_speedOf 134 = .ok (.iload_n 3, 1) := by decide +kernel
theorem dX2_speedOf_135 : decode cX2_speedOf 135 = .ok (.ifCond .le 7, 3) := by decide +kernel
theorem dX2_speedOf_138 : decode cX2_speedOf 138 = .ok (.iconst 0, 1) := by decide +kernel
theorem dX2_speedOf_139 : decode cX2_speedOf 139 = .ok (.goto 5, 3) := by decide +kernel
theorem dX2_speedOf_142 : decode cX2_speedOf 142 = .ok (.iload 4, 2) := by decide +kernel
theorem dX2_speedOf_144 : decode cX2_speedOf 144 = .ok (.istore 7, 2) := by decide +kernel
theorem dX2_speedOf_146 : decode cX2_speedOf 146 = .ok (.goto 18, 3) := by decide +kernel
theorem dX2_speedOf_149 : decode cX2_speedOf 149 = .ok (.iconst 2, 1) := by decide +kernel
theorem dX2_speedOf_150 : decode cX2_speedOf 150 = .ok (.iload 4, 2) := by decide +kernel
theorem dX2_speedOf_152 : decode cX2_speedOf 152 = .ok (.iconst 1, 1) := by decide +kernel
theorem dX2_speedOf_153 : decode cX2_speedOf 153 = .ok (.iadd, 1) := by decide +kernel
theorem dX2_speedOf_154 : decode cX2_speedOf 154 = .ok (.imul, 1) := by decide +kernel
theorem dX2_speedOf_155 : decode cX2_speedOf 155 = .ok (.istore 7, 2) := by decide +kernel
theorem dX2_speedOf_157 : decode cX2_speedOf 157 = .ok (.goto 7, 3) := by decide +kernel
theorem dX2_speedOf_160 : decode cX2_speedOf 160 = .ok (.iload 4, 2) := by decide +kernel
theorem dX2_speedOf_162 : decode cX2_speedOf 162 = .ok (.istore 7, 2) := by decide +kernel
theorem dX2_speedOf_164 : decode cX2_speedOf 164 = .ok (.aload_n 0, 1) := by decide +kernel
theorem dX2_speedOf_165 : decode cX2_speedOf 165 = .ok (.getfield 45, 3) := by decide +kernel
theorem dX2_speedOf_168 : decode cX2_speedOf 168 = .ok (.iconst 1, 1) := by decide +kernel
theorem dX2_speedOf_169 : decode cX2_speedOf 169 = .ok (.if_icmp .ne 10, 3) := by decide +kernel
theorem dX2_speedOf_172 : decode cX2_speedOf 172 = .ok (.iconst 2, 1) := by decide +kernel
theorem dX2_speedOf_173 : decode cX2_speedOf 173 = .ok (.iload 7, 2) := by decide +kernel
theorem dX2_speedOf_175 : decode cX2_speedOf 175 = .ok (.imul, 1) := by decide +kernel
theorem dX2_speedOf_176 : decode cX2_speedOf 176 = .ok (.goto 5, 3) := by decide +kernel
theorem dX2_speedOf_179 : decode cX2_speedOf 179 = .ok (.iload 7, 2) := by decide +kernel
theorem dX2_speedOf_181 : decode cX2_speedOf 181 = .ok (.ireturn, 1) := by decide +kernel
theorem dX2_gathersOf_0 : decode cX2_gathersOf 0 = .ok (.aload_n 0, 1) := by decide +kernel
theorem dX2_gathersOf_1 : decode cX2_gathersOf 1 = .ok (.iload_n 1, 1) := by decide +kernel
theorem dX2_gathersOf_2 : decode cX2_gathersOf 2 = .ok (.iconst 0, 1) := by decide +kernel
theorem dX2_gathersOf_3 : decode cX2_gathersOf 3 = .ok (.invokevirtual 72, 3) := by decide +kernel
theorem dX2_gathersOf_6 : decode cX2_gathersOf 6 = .ok (.tableswitch 55 0 4 #[34, 55, 36, 38, 40], 34) := by decide +kernel
theorem dX2_gathersOf_40 : decode cX2_gathersOf 40 = .ok (.iconst 1, 1) := by decide +kernel
theorem dX2_gathersOf_41 : decode cX2_gathersOf 41 = .ok (.ireturn, 1) := by decide +kernel
theorem dX2_gathersOf_42 : decode cX2_gathersOf 42 = .ok (.iconst 2, 1) := by decide +kernel
theorem dX2_gathersOf_43 : decode cX2_gathersOf 43 = .ok (.ireturn, 1) := by decide +kernel
theorem dX2_gathersOf_44 : decode cX2_gathersOf 44 = .ok (.iconst 4, 1) := by decide +kernel
theorem dX2_gathersOf_45 : decode cX2_gathersOf 45 = .ok (.ireturn, 1) := by decide +kernel
theorem dX2_gathersOf_46 : decode cX2_gathersOf 46 = .ok (.iconst 4, 1) := by decide +kernel
theorem dX2_gathersOf_47 : decode cX2_gathersOf 47 = .ok (.aload_n 0, 1) := by decide +kernel
theorem dX2_gathersOf_48 : decode cX2_gathersOf 48 = .ok (.aload_n 0, 1) := by decide +kernel
theorem dX2_gathersOf_49 : decode cX2_gathersOf 49 = .ok (.iload_n 1, 1) := by decide +kernel
theorem dX2_gathersOf_50 : decode cX2_gathersOf 50 = .ok (.iconst 1, 1) := by decide +kernel
theorem dX2_gathersOf_51 : decode cX2_gathersOf 51 = .ok (.invokevirtual 72, 3) := by decide +kernel
theorem dX2_gathersOf_54 : decode cX2_gathersOf 54 = .ok (.invokevirtual 68, 3) := by decide +kernel
theorem dX2_gathersOf_57 : decode cX2_gathersOf 57 = .ok (.iconst 5, 1) := by decide +kernel
theorem dX2_gathersOf_58 : decode cX2_gathersOf 58 = .ok (.idiv, 1) := by decide +kernel
theorem dX2_gathersOf_59 : decode cX2_gathersOf 59 = .ok (.iadd, 1) := by decide +kernel
theorem dX2_gathersOf_60 : decode cX2_gathersOf 60 = .ok (.ireturn, 1) := by decide +kernel
theorem dX2_gathersOf_61 : decode cX2_gathersOf 61 = .ok (.iconst 0, 1) := by decide +kernel
theorem dX2_gathersOf_62 : decode cX2_gathersOf 62 = .ok (.ireturn, 1) := by decide +kernel
theorem dX2_roll_0 : decode cX2_roll 0 = .ok (.aload_n 0, 1) := by decide +kernel
theorem dX2_roll_1 : decode cX2_roll 1 = .ok (.iload_n 1, 1) := by decide +kernel
theorem dX2_roll_2 : decode cX2_roll 2 = .ok (.invokevirtual 89, 3) := by decide +kernel
theorem dX2_roll_5 : decode cX2_roll 5 = .ok (.istore_n 2, 1) := by decide +kernel
theorem dX2_roll_6 : decode cX2_roll 6 = .ok (.iconst 0, 1) := by decide +kernel
theorem dX2_roll_7 : decode cX2_roll 7 = .ok (.istore_n 3, 1) := by decide +kernel
theorem dX2_roll_8 : decode cX2_roll 8 = .ok (.iconst 0, 1) := by decide +kernel
theorem dX2_roll_9 : decode cX2_roll 9 = .ok (.istore 4, 2) := by decide +kernel
theorem dX2_roll_11 : decode cX2_roll 11 = .ok (.iload 4, 2) := by decide +kernel
theorem dX2_roll_13 : decode cX2_roll 13 = .ok (.iload_n 2, 1) := by decide +kernel
theorem dX2_roll_14 : decode cX2_roll 14 = .ok (.if_icmp .ge 96, 3) := by decide +kernel
theorem dX2_roll_17 : decode cX2_roll 17 = .ok (.aload_n 0, 1) := by decide +kernel
theorem dX2_roll_18 : decode cX2_roll 18 = .ok (.iload_n 1, 1) := by decide +kernel
theorem dX2_roll_19 : decode cX2_roll 19 = .ok (.iconst 1, 1) := by decide +kernel
theorem dX2_roll_20 : decode cX2_roll 20 = .ok (.invokevirtual 72, 3) := by decide +kernel
theorem dX2_roll_23 : decode cX2_roll 23 = .ok (.istore 5, 2) := by decide +kernel
theorem dX2_roll_25 : decode cX2_roll 25 = .ok (.aload_n 0, 1) := by decide +kernel
theorem dX2_roll_26 : decode cX2_roll 26 = .ok (.iload 5, 2) := by decide +kernel
theorem dX2_roll_28 : decode cX2_roll 28 = .ok (.invokevirtual 68, 3) := by decide +kernel
theorem dX2_roll_31 : decode cX2_roll 31 = .ok (.ifCond .ne 6, 3) := by decide +kernel
theorem dX2_roll_34 : decode cX2_roll 34 = .ok (.goto 76, 3) := by decide +kernel
theorem dX2_roll_37 : decode cX2_roll 37 = .ok (.aload_n 0, 1) := by decide +kernel
theorem dX2_roll_38 : decode cX2_roll 38 = .ok (.iload_n 1, 1) := by decide +kernel
theorem dX2_roll_39 : decode cX2_roll 39 = .ok (.iconst 2, 1) := by decide +kernel
theorem dX2_roll_40 : decode cX2_roll 40 = .ok (.invokevirtual 72, 3) := by decide +kernel
theorem dX2_roll_43 : decode cX2_roll 43 = .ok (.aload_n 0, 1) := by decide +kernel
theorem dX2_roll_44 : decode cX2_roll 44 = .ok (.iload_n 1, 1) := by decide +kernel
theorem dX2_roll_45 : decode cX2_roll 45 = .ok (.invokevirtual 92, 3) := by decide +kernel
theorem dX2_roll_48 : decode cX2_roll 48 = .ok (.iadd, 1) := by decide +kernel
theorem dX2_roll_49 : decode cX2_roll 49 = .ok (.istore 6, 2) := by decide +kernel
theorem dX2_roll_51 : decode cX2_roll 51 = .ok (.aload_n 0, 1) := by decide +kernel
theorem dX2_roll_52 : decode cX2_roll 52 = .ok (.iload_n 1, 1) := by decide +kernel
theorem dX2_roll_53 : decode cX2_roll 53 = .ok (.iconst 2, 1) := by decide +kernel
theorem dX2_roll_54 : decode cX2_roll 54 = .ok (.iload 6, 2) := by decide +kernel
theorem dX2_roll_56 : decode cX2_roll 56 = .ok (.sipush 999, 3) := by decide +kernel
theorem dX2_roll_59 : decode cX2_roll 59 = .ok (.invokestatic 29, 3) := by decide +kernel
theorem dX2_roll_62 : decode cX2_roll 62 = .ok (.invokevirtual 59, 3) := by decide +kernel
theorem dX2_roll_65 : decode cX2_roll 65 = .ok (.aload_n 0, 1) := by decide +kernel
theorem dX2_roll_66 : decode cX2_roll 66 = .ok (.iload 5, 2) := by decide +kernel
theorem dX2_roll_68 : decode cX2_roll 68 = .ok (.iconst 1, 1) := by decide +kernel
theorem dX2_roll_69 : decode cX2_roll 69 = .ok (.invokevirtual 62, 3) := by decide +kernel
theorem dX2_roll_72 : decode cX2_roll 72 = .ok (.istore 7, 2) := by decide +kernel
theorem dX2_roll_74 : decode cX2_roll 74 = .ok (.aload_n 0, 1) := by decide +kernel
theorem dX2_roll_75 : decode cX2_roll 75 = .ok (.iload_n 1, 1) := by decide +kernel
theorem dX2_roll_76 : decode cX2_roll 76 = .ok (.iconst 1, 1) := by decide +kernel
theorem dX2_roll_77 : decode cX2_roll 77 = .ok (.iload 7, 2) := by decide +kernel
theorem dX2_roll_79 : decode cX2_roll 79 = .ok (.invokevirtual 59, 3) := by decide +kernel
theorem dX2_roll_82 : decode cX2_roll 82 = .ok (.iload_n 3, 1) := by decide +kernel
theorem dX2_roll_83 : decode cX2_roll 83 = .ok (.iconst 1, 1) := by decide +kernel
theorem dX2_roll_84 : decode cX2_roll 84 = .ok (.iload 7, 2) := by decide +kernel
theorem dX2_roll_86 : decode cX2_roll 86 = .ok (.ishl, 1) := by decide +kernel
theorem dX2_roll_87 : decode cX2_roll 87 = .ok (.ior, 1) := by decide +kernel
theorem dX2_roll_88 : decode cX2_roll 88 = .ok (.istore_n 3, 1) := by decide +kernel
theorem dX2_roll_89 : decode cX2_roll 89 = .ok (.aload_n 0, 1) := by decide +kernel
theorem dX2_roll_90 : decode cX2_roll 90 = .ok (.getfield 42, 3) := by decide +kernel
theorem dX2_roll_93 : decode cX2_roll 93 = .ok (.iload 7, 2) := by decide +kernel
theorem dX2_roll_95 : decode cX2_roll 95 = .ok (.invokestatic 85, 3) := by decide +kernel
theorem dX2_roll_98 : decode cX2_roll 98 = .ok (.ifCond .eq 6, 3) := by decide +kernel
theorem dX2_roll_101 : decode cX2_roll 101 = .ok (.goto 9, 3) := by decide +kernel
theorem dX2_roll_104 : decode cX2_roll 104 = .ok (.iinc 4 1, 3) := by decide +kernel
theorem dX2_roll_107 : decode cX2_roll 107 = .ok (.goto (-96), 3) := by decide +kernel
theorem dX2_roll_110 : decode cX2_roll 110 = .ok (.iload_n 3, 1) := by decide +kernel
theorem dX2_roll_111 : decode cX2_roll 111 = .ok (.ireturn, 1) := by decide +kernel
theorem dX2_wayOf_0 : decode cX2_wayOf 0 = .ok (.iconst 1, 1) := by decide +kernel
theorem dX2_wayOf_1 : decode cX2_wayOf 1 = .ok (.aload_n 0, 1) := by decide +kernel
theorem dX2_wayOf_2 : decode cX2_wayOf 2 = .ok (.iload_n 1, 1) := by decide +kernel
theorem dX2_wayOf_3 : decode cX2_wayOf 3 = .ok (.iconst 1, 1) := by decide +kernel
theorem dX2_wayOf_4 : decode cX2_wayOf 4 = .ok (.invokevirtual 72, 3) := by decide +kernel
theorem dX2_wayOf_7 : decode cX2_wayOf 7 = .ok (.ishl, 1) := by decide +kernel
theorem dX2_wayOf_8 : decode cX2_wayOf 8 = .ok (.istore_n 3, 1) := by decide +kernel
theorem dX2_wayOf_9 : decode cX2_wayOf 9 = .ok (.iconst 0, 1) := by decide +kernel
theorem dX2_wayOf_10 : decode cX2_wayOf 10 = .ok (.istore 4, 2) := by decide +kernel
theorem dX2_wayOf_12 : decode cX2_wayOf 12 = .ok (.iload 4, 2) := by decide +kernel
theorem dX2_wayOf_14 : decode cX2_wayOf 14 = .ok (.iload_n 2, 1) := by decide +kernel
theorem dX2_wayOf_15 : decode cX2_wayOf 15 = .ok (.if_icmp .ge 29, 3) := by decide +kernel
theorem dX2_wayOf_18 : decode cX2_wayOf 18 = .ok (.aload_n 0, 1) := by decide +kernel
theorem dX2_wayOf_19 : decode cX2_wayOf 19 = .ok (.iload_n 1, 1) := by decide +kernel
theorem dX2_wayOf_20 : decode cX2_wayOf 20 = .ok (.invokevirtual 95, 3) := by decide +kernel
theorem dX2_wayOf_23 : decode cX2_wayOf 23 = .ok (.istore 5, 2) := by decide +kernel
theorem dX2_wayOf_25 : decode cX2_wayOf 25 = .ok (.iload 5, 2) := by decide +kernel
theorem dX2_wayOf_27 : decode cX2_wayOf 27 = .ok (.ifCond .ne 6, 3) := by decide +kernel
theorem dX2_wayOf_30 : decode cX2_wayOf 30 = .ok (.goto 14, 3) := by decide +kernel
theorem dX2_wayOf_33 : decode cX2_wayOf 33 = .ok (.iload_n 3, 1) := by decide +kernel
theorem dX2_wayOf_34 : decode cX2_wayOf 34 = .ok (.iload 5, 2) := by decide +kernel
theorem dX2_wayOf_36 : decode cX2_wayOf 36 = .ok (.ior, 1) := by decide +kernel
theorem dX2_wayOf_37 : decode cX2_wayOf 37 = .ok (.istore_n 3, 1) := by decide +kernel
theorem dX2_wayOf_38 : decode cX2_wayOf 38 = .ok (.iinc 4 1, 3) := by decide +kernel
theorem dX2_wayOf_41 : decode cX2_wayOf 41 = .ok (.goto (-29), 3) := by decide +kernel
theorem dX2_wayOf_44 : decode cX2_wayOf 44 = .ok (.iload_n 3, 1) := by decide +kernel
theorem dX2_wayOf_45 : decode cX2_wayOf 45 = .ok (.ireturn, 1) := by decide +kernel
theorem dX2_minutesToHarbour_0 : decode cX2_minutesToHarbour 0 = .ok (.iconst 0, 1) := by decide +kernel
theorem dX2_minutesToHarbour_1 : decode cX2_minutesToHarbour 1 = .ok (.istore_n 2, 1) := by decide +kernel
theorem dX2_minutesToHarbour_2 : decode cX2_minutesToHarbour 2 = .ok (.iload_n 2, 1) := by decide +kernel
theorem dX2_minutesToHarbour_3 : decode cX2_minutesToHarbour 3 = .ok (.bipush 100, 2) := by decide +kernel
theorem dX2_minutesToHarbour_5 : decode cX2_minutesToHarbour 5 = .ok (.if_icmp .gt 28, 3) := by decide +kernel
theorem dX2_minutesToHarbour_8 : decode cX2_minutesToHarbour 8 = .ok (.aload_n 0, 1) := by decide +kernel
theorem dX2_minutesToHarbour_9 : decode cX2_minutesToHarbour 9 = .ok (.iload_n 1, 1) := by decide +kernel
theorem dX2_minutesToHarbour_10 : decode cX2_minutesToHarbour 10 = .ok (.iconst 1, 1) := by decide +kernel
theorem dX2_minutesToHarbour_11 : decode cX2_minutesToHarbour 11 = .ok (.invokevirtual 72, 3) := by decide +kernel
theorem dX2_minutesToHarbour_14 : decode cX2_minutesToHarbour 14 = .ok (.bipush 15, 2) := by decide +kernel
theorem dX2_minutesToHarbour_16 : decode cX2_minutesToHarbour 16 = .ok (.if_icmp .ne 5, 3) := by decide +kernel
theorem dX2_minutesToHarbour_19 : decode cX2_minutesToHarbour 19 = .ok (.iload_n 2, 1) := by decide +kernel
theorem dX2_minutesToHarbour_20 : decode cX2_minutesToHarbour 20 = .ok (.ireturn, 1) := by decide +kernel
theorem dX2_minutesToHarbour_21 : decode cX2_minutesToHarbour 21 = .ok (.aload_n 0, 1) := by decide +kernel
theorem dX2_minutesToHarbour_22 : decode cX2_minutesToHarbour 22 = .ok (.iload_n 1, 1) := by decide +kernel
theorem dX2_minutesToHarbour_23 : decode cX2_minutesToHarbour 23 = .ok (.invokevirtual 95, 3) := by decide +kernel
theorem dX2_minutesToHarbour_26 : decode cX2_minutesToHarbour 26 = .ok (.pop, 1) := by decide +kernel
theorem dX2_minutesToHarbour_27 : decode cX2_minutesToHarbour 27 = .ok (.iinc 2 1, 3) := by decide +kernel
theorem dX2_minutesToHarbour_30 : decode cX2_minutesToHarbour 30 = .ok (.goto (-28), 3) := by decide +kernel
theorem dX2_minutesToHarbour_33 : decode cX2_minutesToHarbour 33 = .ok (.bipush 101, 2) := by decide +kernel
theorem dX2_minutesToHarbour_35 : decode cX2_minutesToHarbour 35 = .ok (.ireturn, 1) := by decide +kernel
theorem dX2_pass_0 : decode cX2_pass 0 = .ok (.aload_n 0, 1) := by decide +kernel
theorem dX2_pass_1 : decode cX2_pass 1 = .ok (.aload_n 0, 1) := by decide +kernel
theorem dX2_pass_2 : decode cX2_pass 2 = .ok (.getfield 48, 3) := by decide +kernel
theorem dX2_pass_5 : decode cX2_pass 5 = .ok (.iload_n 1, 1) := by decide +kernel
theorem dX2_pass_6 : decode cX2_pass 6 = .ok (.iadd, 1) := by decide +kernel
theorem dX2_pass_7 : decode cX2_pass 7 = .ok (.ldc 98, 2) := by decide +kernel
theorem dX2_pass_9 : decode cX2_pass 9 = .ok (.invokestatic 29, 3) := by decide +kernel
theorem dX2_pass_12 : decode cX2_pass 12 = .ok (.putfield 48, 3) := by decide +kernel
theorem dX2_pass_15 : decode cX2_pass 15 = .ok (.iconst 0, 1) := by decide +kernel
theorem dX2_pass_16 : decode cX2_pass 16 = .ok (.istore_n 2, 1) := by decide +kernel
theorem dX2_pass_17 : decode cX2_pass 17 = .ok (.iload_n 2, 1) := by decide +kernel
theorem dX2_pass_18 : decode cX2_pass 18 = .ok (.iload_n 1, 1) := by decide +kernel
theorem dX2_pass_19 : decode cX2_pass 19 = .ok (.if_icmp .ge 44, 3) := by decide +kernel
theorem dX2_pass_22 : decode cX2_pass 22 = .ok (.iconst 0, 1) := by decide +kernel
theorem dX2_pass_23 : decode cX2_pass 23 = .ok (.istore_n 3, 1) := by decide +kernel
theorem dX2_pass_24 : decode cX2_pass 24 = .ok (.iconst 0, 1) := by decide +kernel
theorem dX2_pass_25 : decode cX2_pass 25 = .ok (.istore 4, 2) := by decide +kernel
theorem dX2_pass_27 : decode cX2_pass 27 = .ok (.iload 4, 2) := by decide +kernel
theorem dX2_pass_29 : decode cX2_pass 29 = .ok (.aload_n 0, 1) := by decide +kernel
theorem dX2_pass_30 : decode cX2_pass 30 = .ok (.getfield 39, 3) := by decide +kernel
theorem dX2_pass_33 : decode cX2_pass 33 = .ok (.if_icmp .ge 18, 3) := by decide +kernel
theorem dX2_pass_36 : decode cX2_pass 36 = .ok (.iload_n 3, 1) := by decide +kernel
theorem dX2_pass_37 : decode cX2_pass 37 = .ok (.aload_n 0, 1) := by decide +kernel
theorem dX2_pass_38 : decode cX2_pass 38 = .ok (.iload 4, 2) := by decide +kernel
theorem dX2_pass_40 : decode cX2_pass 40 = .ok (.invokevirtual 95, 3) := by decide +kernel
theorem dX2_pass_43 : decode cX2_pass 43 = .ok (.ior, 1) := by decide +kernel
theorem dX2_pass_44 : decode cX2_pass 44 = .ok (.istore_n 3, 1) := by decide +kernel
theorem dX2_pass_45 : decode cX2_pass 45 = .ok (.iinc 4 1, 3) := by decide +kernel
theorem dX2_pass_48 : decode cX2_pass 48 = .ok (.goto (-21), 3) := by decide +kernel
theorem dX2_pass_51 : decode cX2_pass 51 = .ok (.iload_n 3, 1) := by decide +kernel
theorem dX2_pass_52 : decode cX2_pass 52 = .ok (.ifCond .ne 5, 3) := by decide +kernel
theorem dX2_pass_55 : decode cX2_pass 55 = .ok (.iload_n 2, 1) := by decide +kernel
theorem dX2_pass_56 : decode cX2_pass 56 = .ok (.ireturn, 1) := by decide +kernel
theorem dX2_pass_57 : decode cX2_pass 57 = .ok (.iinc 2 1, 3) := by decide +kernel
theorem dX2_pass_60 : decode cX2_pass 60 = .ok (.goto (-43), 3) := by decide +kernel
theorem dX2_pass_63 : decode cX2_pass 63 = .ok (.iload_n 1, 1) := by decide +kernel
theorem dX2_pass_64 : decode cX2_pass 64 = .ok (.ireturn, 1) := by decide +kernel
theorem dX2_mergeAt_0 : decode cX2_mergeAt 0 = .ok (.aload_n 0, 1) := by decide +kernel
theorem dX2_mergeAt_1 : decode cX2_mergeAt 1 = .ok (.iload_n 1, 1) := by decide +kernel
theorem dX2_mergeAt_2 : decode cX2_mergeAt 2 = .ok (.invokevirtual 78, 3) := by decide +kernel
theorem dX2_mergeAt_5 : decode cX2_mergeAt 5 = .ok (.sipush 999, 3) := by decide +kernel
theorem dX2_mergeAt_8 : decode cX2_mergeAt 8 = .ok (.invokestatic 29, 3) := by decide +kernel
theorem dX2_mergeAt_11 : decode cX2_mergeAt 11 = .ok (.istore_n 2, 1) := by decide +kernel
theorem dX2_mergeAt_12 : decode cX2_mergeAt 12 = .ok (.iconst 1, 1) := by decide +kernel
theorem dX2_mergeAt_13 : decode cX2_mergeAt 13 = .ok (.istore_n 3, 1) := by decide +kernel
theorem dX2_mergeAt_14 : decode cX2_mergeAt 14 = .ok (.iconst 0, 1) := by decide +kernel
theorem dX2_mergeAt_15 : decode cX2_mergeAt 15 = .ok (.istore 4, 2) := by decide +kernel
theorem dX2_mergeAt_17 : decode cX2_mergeAt 17 = .ok (.iload 4, 2) := by decide +kernel
theorem dX2_mergeAt_19 : decode cX2_mergeAt 19 = .ok (.aload_n 0, 1) := by decide +kernel
theorem dX2_mergeAt_20 : decode cX2_mergeAt 20 = .ok (.getfield 39, 3) := by decide +kernel
theorem dX2_mergeAt_23 : decode cX2_mergeAt 23 = .ok (.if_icmp .ge 57, 3) := by decide +kernel
theorem dX2_mergeAt_26 : decode cX2_mergeAt 26 = .ok (.aload_n 0, 1) := by decide +kernel
theorem dX2_mergeAt_27 : decode cX2_mergeAt 27 = .ok (.iload 4, 2) := by decide +kernel
theorem dX2_mergeAt_29 : decode cX2_mergeAt 29 = .ok (.iconst 1, 1) := by decide +kernel
theorem dX2_mergeAt_30 : decode cX2_mergeAt 30 = .ok (.invokevirtual 72, 3) := by decide +kernel
theorem dX2_mergeAt_33 : decode cX2_mergeAt 33 = .ok (.iload_n 1, 1) := by decide +kernel
theorem dX2_mergeAt_34 : decode cX2_mergeAt 34 = .ok (.if_icmp .eq 6, 3) := by decide +kernel
theorem dX2_mergeAt_37 : decode cX2_mergeAt 37 = .ok (.goto 37, 3) := by decide +kernel
theorem dX2_mergeAt_40 : decode cX2_mergeAt 40 = .ok (.iload_n 3, 1) := by decide +kernel
theorem dX2_mergeAt_41 : decode cX2_mergeAt 41 = .ok (.ifCond .eq 14, 3) := by decide +kernel
theorem dX2_mergeAt_44 : decode cX2_mergeAt 44 = .ok (.aload_n 0, 1) := by decide +kernel
theorem dX2_mergeAt_45 : decode cX2_mergeAt 45 = .ok (.iload 4, 2) := by decide +kernel
theorem dX2_mergeAt_47 : decode cX2_mergeAt 47 = .ok (.iconst 2, 1) := by decide +kernel
theorem dX2_mergeAt_48 : decode cX2_mergeAt 48 = .ok (.iload_n 2, 1) := by decide +kernel
theorem dX2_mergeAt_49 : decode cX2_mergeAt 49 = .ok (.invokevirtual 59, 3) := by decide +kernel
theorem dX2_mergeAt_52 : decode cX2_mergeAt 52 = .ok (.goto 20, 3) := by decide +kernel
theorem dX2_mergeAt_55 : decode cX2_mergeAt 55 = .ok (.aload_n 0, 1) := by decide +kernel
theorem dX2_mergeAt_56 : decode cX2_mergeAt 56 = .ok (.iload 4, 2) := by decide +kernel
theorem dX2_mergeAt_58 : decode cX2_mergeAt 58 = .ok (.iconst 1, 1) := by decide +kernel
theorem dX2_mergeAt_59 : decode cX2_mergeAt 59 = .ok (.bipush 15, 2) := by decide +kernel
theorem dX2_mergeAt_61 : decode cX2_mergeAt 61 = .ok (.invokevirtual 59, 3) := by decide +kernel
theorem dX2_mergeAt_64 : decode cX2_mergeAt 64 = .ok (.aload_n 0, 1) := by decide +kernel
theorem dX2_mergeAt_65 : decode cX2_mergeAt 65 = .ok (.iload 4, 2) := by decide +kernel
theorem dX2_mergeAt_67 : decode cX2_mergeAt 67 = .ok (.iconst 2, 1) := by decide +kernel
theorem dX2_mergeAt_68 : decode cX2_mergeAt 68 = .ok (.iconst 1, 1) := by decide +kernel
theorem dX2_mergeAt_69 : decode cX2_mergeAt 69 = .ok (.invokevirtual 59, 3) := by decide +kernel
theorem dX2_mergeAt_72 : decode cX2_mergeAt 72 = .ok (.iconst 0, 1) := by decide +kernel
theorem dX2_mergeAt_73 : decode cX2_mergeAt 73 = .ok (.istore_n 3, 1) := by decide +kernel
theorem dX2_mergeAt_74 : decode cX2_mergeAt 74 = .ok (.iinc 4 1, 3) := by decide +kernel
theorem dX2_mergeAt_77 : decode cX2_mergeAt 77 = .ok (.goto (-60), 3) := by decide +kernel
theorem dX2_mergeAt_80 : decode cX2_mergeAt 80 = .ok (.return_, 1) := by decide +kernel
theorem dX2_draw_0 : decode cX2_draw 0 = .ok (.aload_n 0, 1) := by decide +kernel
theorem dX2_draw_1 : decode cX2_draw 1 = .ok (.aload_n 0, 1) := by decide +kernel
theorem dX2_draw_2 : decode cX2_draw 2 = .ok (.getfield 21, 3) := by decide +kernel
theorem dX2_draw_5 : decode cX2_draw 5 = .ok (.ldc 99, 2) := by decide +kernel
theorem dX2_draw_7 : decode cX2_draw 7 = .ok (.imul, 1) := by decide +kernel
theorem dX2_draw_8 : decode cX2_draw 8 = .ok (.sipush 12345, 3) := by decide +kernel
theorem dX2_draw_11 : decode cX2_draw 11 = .ok (.iadd, 1) := by decide +kernel
theorem dX2_draw_12 : decode cX2_draw 12 = .ok (.putfield 21, 3) := by decide +kernel
theorem dX2_draw_15 : decode cX2_draw 15 = .ok (.aload_n 0, 1) := by decide +kernel
theorem dX2_draw_16 : decode cX2_draw 16 = .ok (.getfield 21, 3) := by decide +kernel
theorem dX2_draw_19 : decode cX2_draw 19 = .ok (.bipush 8, 2) := by decide +kernel
theorem dX2_draw_21 : decode cX2_draw 21 = .ok (.iushr, 1) := by decide +kernel
theorem dX2_draw_22 : decode cX2_draw 22 = .ok (.ireturn, 1) := by decide +kernel
theorem dJ0_length_8abf5_0 : decode cJ0_length_8abf5 0 = .ok (.aload_n 0, 1) := by decide +kernel
theorem dJ0_length_8abf5_1 : decode cJ0_length_8abf5 1 = .ok (.getfield 9, 3) := by decide +kernel
theorem dJ0_length_8abf5_4 : decode cJ0_length_8abf5 4 = .ok (.arraylength, 1) := by decide +kernel
theorem dJ0_length_8abf5_5 : decode cJ0_length_8abf5 5 = .ok (.aload_n 0, 1) := by decide +kernel
theorem dJ0_length_8abf5_6 : decode cJ0_length_8abf5 6 = .ok (.invokevirtual 335, 3) := by decide +kernel
theorem dJ0_length_8abf5_9 : decode cJ0_length_8abf5 9 = .ok (.ishr, 1) := by decide +kernel
theorem dJ0_length_8abf5_10 : decode cJ0_length_8abf5 10 = .ok (.ireturn, 1) := by decide +kernel
theorem dJ0_charAt_5068e_0 : decode cJ0_charAt_5068e 0 = .ok (.aload_n 0, 1) := by decide +kernel
theorem dJ0_charAt_5068e_1 : decode cJ0_charAt_5068e 1 = .ok (.invokevirtual 492, 3) := by decide +kernel
theorem dJ0_charAt_5068e_4 : decode cJ0_charAt_5068e 4 = .ok (.ifCond .eq 12, 3) := by decide +kernel
theorem dJ0_charAt_5068e_7 : decode cJ0_charAt_5068e 7 = .ok (.aload_n 0, 1) := by decide +kernel
theorem dJ0_charAt_5068e_8 : decode cJ0_charAt_5068e 8 = .ok (.getfield 9, 3) := by decide +kernel
theorem dJ0_charAt_5068e_11 : decode cJ0_charAt_5068e 11 = .ok (.iload_n 1, 1) := by decide +kernel
theorem dJ0_charAt_5068e_12 : decode cJ0_charAt_5068e 12 = .ok (.invokestatic 495, 3) := by decide +kernel
theorem dJ0_charAt_5068e_15 : decode cJ0_charAt_5068e 15 = .ok (.ireturn, 1) := by decide +kernel
theorem dJ0_charAt_5068e_16 : decode cJ0_charAt_5068e 16 = .ok (.aload_n 0, 1) := by decide +kernel
theorem dJ0_charAt_5068e_17 : decode cJ0_charAt_5068e 17 = .ok (.getfield 9, 3) := by decide +kernel
theorem dJ0_charAt_5068e_20 : decode cJ0_charAt_5068e 20 = .ok (.iload_n 1, 1) := by decide +kernel
theorem dJ0_charAt_5068e_21 : decode cJ0_charAt_5068e 21 = .ok (.invokestatic 498, 3) := by decide +kernel
theorem dJ0_charAt_5068e_24 : decode cJ0_charAt_5068e 24 = .ok (.ireturn, 1) := by decide +kernel
theorem dJ0_coder_7d493_0 : decode cJ0_coder_7d493 0 = .ok (.getstatic 38, 3) := by decide +kernel
theorem dJ0_coder_7d493_3 : decode cJ0_coder_7d493 3 = .ok (.ifCond .eq 10, 3) := by decide +kernel
theorem dJ0_coder_7d493_6 : decode cJ0_coder_7d493 6 = .ok (.aload_n 0, 1) := by decide +kernel
theorem dJ0_coder_7d493_7 : decode cJ0_coder_7d493 7 = .ok (.getfield 15, 3) := by decide +kernel
theorem dJ0_coder_7d493_10 : decode cJ0_coder_7d493 10 = .ok (.goto 4, 3) := by decide +kernel
theorem dJ0_coder_7d493_13 : decode cJ0_coder_7d493 13 = .ok (.iconst 1, 1) := by decide +kernel
theorem dJ0_coder_7d493_14 : decode cJ0_coder_7d493 14 = .ok (.ireturn, 1) := by decide +kernel
theorem dJ0_isLatin1_aae02_0 : decode cJ0_isLatin1_aae02 0 = .ok (.getstatic 38, 3) := by decide +kernel
theorem dJ0_isLatin1_aae02_3 : decode cJ0_isLatin1_aae02 3 = .ok (.ifCond .eq 14, 3) := by decide +kernel
theorem dJ0_isLatin1_aae02_6 : decode cJ0_isLatin1_aae02 6 = .ok (.aload_n 0, 1) := by decide +kernel
theorem dJ0_isLatin1_aae02_7 : decode cJ0_isLatin1_aae02 7 = .ok (.getfield 15, 3) := by decide +kernel
theorem dJ0_isLatin1_aae02_10 : decode cJ0_isLatin1_aae02 10 = .ok (.ifCond .ne 7, 3) := by decide +kernel
theorem dJ0_isLatin1_aae02_13 : decode cJ0_isLatin1_aae02 13 = .ok (.iconst 1, 1) := by decide +kernel
theorem dJ0_isLatin1_aae02_14 : decode cJ0_isLatin1_aae02 14 = .ok (.goto 4, 3) := by decide +kernel
theorem dJ0_isLatin1_aae02_17 : decode cJ0_isLatin1_aae02 17 = .ok (.iconst 0, 1) := by decide +kernel
theorem dJ0_isLatin1_aae02_18 : decode cJ0_isLatin1_aae02 18 = .ok (.ireturn, 1) := by decide +kernel
theorem dJ0_checkIndex_df160_0 : decode cJ0_checkIndex_df160 0 = .ok (.iload_n 0, 1) := by decide +kernel
theorem dJ0_checkIndex_df160_1 : decode cJ0_checkIndex_df160 1 = .ok (.iload_n 1, 1) := by decide +kernel
theorem dJ0_checkIndex_df160_2 : decode cJ0_checkIndex_df160 2 = .ok (.getstatic 1053, 3) := by decide +kernel
theorem dJ0_checkIndex_df160_5 : decode cJ0_checkIndex_df160 5 = .ok (.invokestatic 1059, 3) := by decide +kernel
theorem dJ0_checkIndex_df160_8 : decode cJ0_checkIndex_df160 8 = .ok (.pop, 1) := by decide +kernel
theorem dJ0_checkIndex_df160_9 : decode cJ0_checkIndex_df160 9 = .ok (.return_, 1) := by decide +kernel
theorem dJ1_charAt_3b067_0 : decode cJ1_charAt_3b067 0 = .ok (.iload_n 1, 1) := by decide +kernel
theorem dJ1_charAt_3b067_1 : decode cJ1_charAt_3b067 1 = .ok (.aload_n 0, 1) := by decide +kernel
theorem dJ1_charAt_3b067_2 : decode cJ1_charAt_3b067 2 = .ok (.arraylength, 1) := by decide +kernel
theorem dJ1_charAt_3b067_3 : decode cJ1_charAt_3b067 3 = .ok (.invokestatic 9, 3) := by decide +kernel
theorem dJ1_charAt_3b067_6 : decode cJ1_charAt_3b067 6 = .ok (.aload_n 0, 1) := by decide +kernel
theorem dJ1_charAt_3b067_7 : decode cJ1_charAt_3b067 7 = .ok (.iload_n 1, 1) := by decide +kernel
theorem dJ1_charAt_3b067_8 : decode cJ1_charAt_3b067 8 = .ok (.baload, 1) := by decide +kernel
theorem dJ1_charAt_3b067_9 : decode cJ1_charAt_3b067 9 = .ok (.sipush 255, 3) := by decide +kernel
theorem dJ1_charAt_3b067_12 : decode cJ1_charAt_3b067 12 = .ok (.iand, 1) := by decide +kernel
theorem dJ1_charAt_3b067_13 : decode cJ1_charAt_3b067 13 = .ok (.i2c, 1) := by decide +kernel
theorem dJ1_charAt_3b067_14 : decode cJ1_charAt_3b067 14 = .ok (.ireturn, 1) := by decide +kernel
theorem dJ2_getChar_3b067_0 : decode cJ2_getChar_3b067 0 = .ok (.getstatic 44, 3) := by decide +kernel
theorem dJ2_getChar_3b067_3 : decode cJ2_getChar_3b067 3 = .ok (.ifCond .ne 25, 3) := by decide +kernel
theorem dJ2_getChar_3b067_6 : decode cJ2_getChar_3b067 6 = .ok (.iload_n 1, 1) := by decide +kernel
theorem dJ2_getChar_3b067_7 : decode cJ2_getChar_3b067 7 = .ok (.ifCond .lt 11, 3) := by decide +kernel
theorem dJ2_getChar_3b067_10 : decode cJ2_getChar_3b067 10 = .ok (.iload_n 1, 1) := by decide +kernel
theorem dJ2_getChar_3b067_11 : decode cJ2_getChar_3b067 11 = .ok (.aload_n 0, 1) := by decide +kernel
theorem dJ2_getChar_3b067_12 : decode cJ2_getChar_3b067 12 = .ok (.invokestatic 48, 3) := by decide +kernel
theorem dJ2_getChar_3b067_15 : decode cJ2_getChar_3b067 15 = .ok (.if_icmp .lt 13, 3) := by decide +kernel
theorem dJ2_getChar_3b067_18 : decode cJ2_getChar_3b067 18 = .ok (.new 52, 3) := by decide +kernel
theorem dJ2_getChar_3b067_21 : decode cJ2_getChar_3b067 21 = .ok (.dup, 1) := by decide +kernel
theorem dJ2_getChar_3b067_22 : decode cJ2_getChar_3b067 22 = .ok (.ldc 54, 2) := by decide +kernel
theorem dJ2_getChar_3b067_24 : decode cJ2_getChar_3b067 24 = .ok (.invokespecial 56, 3) := by decide +kernel
theorem dJ2_getChar_3b067_27 : decode cJ2_getChar_3b067 27 = .ok (.athrow, 1) := by decide +kernel
theorem dJ2_getChar_3b067_28 : decode cJ2_getChar_3b067 28 = .ok (.iload_n 1, 1) := by decide +kernel
theorem dJ2_getChar_3b067_29 : decode cJ2_getChar_3b067 29 = .ok (.iconst 1, 1) := by decide +kernel
theorem dJ2_getChar_3b067_30 : decode cJ2_getChar_3b067 30 = .ok (.ishl, 1) := by decide +kernel
theorem dJ2_getChar_3b067_31 : decode cJ2_getChar_3b067 31 = .ok (.istore_n 1, 1) := by decide +kernel
theorem dJ2_getChar_3b067_32 : decode cJ2_getChar_3b067 32 = .ok (.aload_n 0, 1) := by decide +kernel
theorem dJ2_getChar_3b067_33 : decode cJ2_getChar_3b067 33 = .ok (.iload_n 1, 1) := by decide +kernel
theorem dJ2_getChar_3b067_34 : decode cJ2_getChar_3b067 34 = .ok (.iinc 1 1, 3) := by decide +kernel
theorem dJ2_getChar_3b067_37 : decode cJ2_getChar_3b067 37 = .ok (.baload, 1) := by decide +kernel
theorem dJ2_getChar_3b067_38 : decode cJ2_getChar_3b067 38 = .ok (.sipush 255, 3) := by decide +kernel
theorem dJ2_getChar_3b067_41 : decode cJ2_getChar_3b067 41 = .ok (.iand, 1) := by decide +kernel
theorem dJ2_getChar_3b067_42 : decode cJ2_getChar_3b067 42 = .ok (.getstatic 59, 3) := by decide +kernel
theorem dJ2_getChar_3b067_45 : decode cJ2_getChar_3b067 45 = .ok (.ishl, 1) := by decide +kernel
theorem dJ2_getChar_3b067_46 : decode cJ2_getChar_3b067 46 = .ok (.aload_n 0, 1) := by decide +kernel
theorem dJ2_getChar_3b067_47 : decode cJ2_getChar_3b067 47 = .ok (.iload_n 1, 1) := by decide +kernel
theorem dJ2_getChar_3b067_48 : decode cJ2_getChar_3b067 48 = .ok (.baload, 1) := by decide +kernel
theorem dJ2_getChar_3b067_49 : decode cJ2_getChar_3b067 49 = .ok (.sipush 255, 3) := by decide +kernel
theorem dJ2_getChar_3b067_52 : decode cJ2_getChar_3b067 52 = .ok (.iand, 1) := by decide +kernel
theorem dJ2_getChar_3b067_53 : decode cJ2_getChar_3b067 53 = .ok (.getstatic 63, 3) := by decide +kernel
theorem dJ2_getChar_3b067_56 : decode cJ2_getChar_3b067 56 = .ok (.ishl, 1) := by decide +kernel
theorem dJ2_getChar_3b067_57 : decode cJ2_getChar_3b067 57 = .ok (.ior, 1) := by decide +kernel
theorem dJ2_getChar_3b067_58 : decode cJ2_getChar_3b067 58 = .ok (.i2c, 1) := by decide +kernel
theorem dJ2_getChar_3b067_59 : decode cJ2_getChar_3b067 59 = .ok (.ireturn, 1) := by decide +kernel
theorem dJ2_length_9d52b_0 : decode cJ2_length_9d52b 0 = .ok (.aload_n 0, 1) := by decide +kernel
theorem dJ2_length_9d52b_1 : decode cJ2_length_9d52b 1 = .ok (.arraylength, 1) := by decide +kernel
theorem dJ2_length_9d52b_2 : decode cJ2_length_9d52b 2 = .ok (.iconst 1, 1) := by decide +kernel
theorem dJ2_length_9d52b_3 : decode cJ2_length_9d52b 3 = .ok (.ishr, 1) := by decide +kernel
theorem dJ2_length_9d52b_4 : decode cJ2_length_9d52b 4 = .ok (.ireturn, 1) := by decide +kernel
theorem dJ2_charAt_3b067_0 : decode cJ2_charAt_3b067 0 = .ok (.iload_n 1, 1) := by decide +kernel
theorem dJ2_charAt_3b067_1 : decode cJ2_charAt_3b067 1 = .ok (.aload_n 0, 1) := by decide +kernel
theorem dJ2_charAt_3b067_2 : decode cJ2_charAt_3b067 2 = .ok (.invokestatic 67, 3) := by decide +kernel
theorem dJ2_charAt_3b067_5 : decode cJ2_charAt_3b067 5 = .ok (.aload_n 0, 1) := by decide +kernel
theorem dJ2_charAt_3b067_6 : decode cJ2_charAt_3b067 6 = .ok (.iload_n 1, 1) := by decide +kernel
theorem dJ2_charAt_3b067_7 : decode cJ2_charAt_3b067 7 = .ok (.invokestatic 71, 3) := by decide +kernel
theorem dJ2_charAt_3b067_10 : decode cJ2_charAt_3b067 10 = .ok (.ireturn, 1) := by decide +kernel
theorem dJ2_checkIndex_2214a_0 : decode cJ2_checkIndex_2214a 0 = .ok (.iload_n 0, 1) := by decide +kernel
theorem dJ2_checkIndex_2214a_1 : decode cJ2_checkIndex_2214a 1 = .ok (.aload_n 1, 1) := by decide +kernel
theorem dJ2_checkIndex_2214a_2 : decode cJ2_checkIndex_2214a 2 = .ok (.invokestatic 48, 3) := by decide +kernel
theorem dJ2_checkIndex_2214a_5 : decode cJ2_checkIndex_2214a 5 = .ok (.invokestatic 414, 3) := by decide +kernel
theorem dJ2_checkIndex_2214a_8 : decode cJ2_checkIndex_2214a 8 = .ok (.return_, 1) := by decide +kernel
theorem dJ3_checkIndex_8e157_0 : decode cJ3_checkIndex_8e157 0 = .ok (.iload_n 0, 1) := by decide +kernel
theorem dJ3_checkIndex_8e157_1 : decode cJ3_checkIndex_8e157 1 = .ok (.ifCond .lt 8, 3) := by decide +kernel
theorem dJ3_checkIndex_8e157_4 : decode cJ3_checkIndex_8e157 4 = .ok (.iload_n 0, 1) := by decide +kernel
theorem dJ3_checkIndex_8e157_5 : decode cJ3_checkIndex_8e157 5 = .ok (.iload_n 1, 1) := by decide +kernel
theorem dJ3_checkIndex_8e157_6 : decode cJ3_checkIndex_8e157 6 = .ok (.if_icmp .lt 10, 3) := by decide +kernel
theorem dJ3_checkIndex_8e157_9 : decode cJ3_checkIndex_8e157 9 = .ok (.aload_n 2, 1) := by decide +kernel
theorem dJ3_checkIndex_8e157_10 : decode cJ3_checkIndex_8e157 10 = .ok (.iload_n 0, 1) := by decide +kernel
theorem dJ3_checkIndex_8e157_11 : decode cJ3_checkIndex_8e157 11 = .ok (.iload_n 1, 1) := by decide +kernel
theorem dJ3_checkIndex_8e157_12 : decode cJ3_checkIndex_8e157 12 = .ok (.invokestatic 95, 3) := by decide +kernel
theorem dJ3_checkIndex_8e157_15 : decode cJ3_checkIndex_8e157 15 = .ok (.athrow, 1) := by decide +kernel
theorem dJ3_checkIndex_8e157_16 : decode cJ3_checkIndex_8e157 16 = .ok (.iload_n 0, 1) := by decide +kernel
theorem dJ3_checkIndex_8e157_17 : decode cJ3_checkIndex_8e157 17 = .ok (.ireturn, 1) := by decide +kernel
theorem dJ6_bitCount_0f7a4_0 : decode cJ6_bitCount_0f7a4 0 = .ok (.iload_n 0, 1) := by decide +kernel
theorem dJ6_bitCount_0f7a4_1 : decode cJ6_bitCount_0f7a4 1 = .ok (.iload_n 0, 1) := by decide +kernel
theorem dJ6_bitCount_0f7a4_2 : decode cJ6_bitCount_0f7a4 2 = .ok (.iconst 1, 1) := by decide +kernel
theorem dJ6_bitCount_0f7a4_3 : decode cJ6_bitCount_0f7a4 3 = .ok (.iushr, 1) := by decide +kernel
theorem dJ6_bitCount_0f7a4_4 : decode cJ6_bitCount_0f7a4 4 = .ok (.ldc_w 265, 3) := by decide +kernel
theorem dJ6_bitCount_0f7a4_7 : decode cJ6_bitCount_0f7a4 7 = .ok (.iand, 1) := by decide +kernel
theorem dJ6_bitCount_0f7a4_8 : decode cJ6_bitCount_0f7a4 8 = .ok (.isub, 1) := by decide +kernel
theorem dJ6_bitCount_0f7a4_9 : decode cJ6_bitCount_0f7a4 9 = .ok (.istore_n 0, 1) := by decide +kernel
theorem dJ6_bitCount_0f7a4_10 : decode cJ6_bitCount_0f7a4 10 = .ok (.iload_n 0, 1) := by decide +kernel
theorem dJ6_bitCount_0f7a4_11 : decode cJ6_bitCount_0f7a4 11 = .ok (.ldc_w 266, 3) := by decide +kernel
theorem dJ6_bitCount_0f7a4_14 : decode cJ6_bitCount_0f7a4 14 = .ok (.iand, 1) := by decide +kernel
theorem dJ6_bitCount_0f7a4_15 : decode cJ6_bitCount_0f7a4 15 = .ok (.iload_n 0, 1) := by decide +kernel
theorem dJ6_bitCount_0f7a4_16 : decode cJ6_bitCount_0f7a4 16 = .ok (.iconst 2, 1) := by decide +kernel
theorem dJ6_bitCount_0f7a4_17 : decode cJ6_bitCount_0f7a4 17 = .ok (.iushr, 1) := by decide +kernel
theorem dJ6_bitCount_0f7a4_18 : decode cJ6_bitCount_0f7a4 18 = .ok (.ldc_w 266, 3) := by decide +kernel
theorem dJ6_bitCount_0f7a4_21 : decode cJ6_bitCount_0f7a4 21 = .ok (.iand, 1) := by decide +kernel
theorem dJ6_bitCount_0f7a4_22 : decode cJ6_bitCount_0f7a4 22 = .ok (.iadd, 1) := by decide +kernel
theorem dJ6_bitCount_0f7a4_23 : decode cJ6_bitCount_0f7a4 23 = .ok (.istore_n 0, 1) := by decide +kernel
theorem dJ6_bitCount_0f7a4_24 : decode cJ6_bitCount_0f7a4 24 = .ok (.iload_n 0, 1) := by decide +kernel
theorem dJ6_bitCount_0f7a4_25 : decode cJ6_bitCount_0f7a4 25 = .ok (.iload_n 0, 1) := by decide +kernel
theorem dJ6_bitCount_0f7a4_26 : decode cJ6_bitCount_0f7a4 26 = .ok (.iconst 4, 1) := by decide +kernel
theorem dJ6_bitCount_0f7a4_27 : decode cJ6_bitCount_0f7a4 27 = .ok (.iushr, 1) := by decide +kernel
theorem dJ6_bitCount_0f7a4_28 : decode cJ6_bitCount_0f7a4 28 = .ok (.iadd, 1) := by decide +kernel
theorem dJ6_bitCount_0f7a4_29 : decode cJ6_bitCount_0f7a4 29 = .ok (.ldc_w 267, 3) := by decide +kernel
theorem dJ6_bitCount_0f7a4_32 : decode cJ6_bitCount_0f7a4 32 = .ok (.iand, 1) := by decide +kernel
theorem dJ6_bitCount_0f7a4_33 : decode cJ6_bitCount_0f7a4 33 = .ok (.istore_n 0, 1) := by decide +kernel
theorem dJ6_bitCount_0f7a4_34 : decode cJ6_bitCount_0f7a4 34 = .ok (.iload_n 0, 1) := by decide +kernel
theorem dJ6_bitCount_0f7a4_35 : decode cJ6_bitCount_0f7a4 35 = .ok (.iload_n 0, 1) := by decide +kernel
theorem dJ6_bitCount_0f7a4_36 : decode cJ6_bitCount_0f7a4 36 = .ok (.bipush 8, 2) := by decide +kernel
theorem dJ6_bitCount_0f7a4_38 : decode cJ6_bitCount_0f7a4 38 = .ok (.iushr, 1) := by decide +kernel
theorem dJ6_bitCount_0f7a4_39 : decode cJ6_bitCount_0f7a4 39 = .ok (.iadd, 1) := by decide +kernel
theorem dJ6_bitCount_0f7a4_40 : decode cJ6_bitCount_0f7a4 40 = .ok (.istore_n 0, 1) := by decide +kernel
theorem dJ6_bitCount_0f7a4_41 : decode cJ6_bitCount_0f7a4 41 = .ok (.iload_n 0, 1) := by decide +kernel
theorem dJ6_bitCount_0f7a4_42 : decode cJ6_bitCount_0f7a4 42 = .ok (.iload_n 0, 1) := by decide +kernel
theorem dJ6_bitCount_0f7a4_43 : decode cJ6_bitCount_0f7a4 43 = .ok (.bipush 16, 2) := by decide +kernel
theorem dJ6_bitCount_0f7a4_45 : decode cJ6_bitCount_0f7a4 45 = .ok (.iushr, 1) := by decide +kernel
theorem dJ6_bitCount_0f7a4_46 : decode cJ6_bitCount_0f7a4 46 = .ok (.iadd, 1) := by decide +kernel
theorem dJ6_bitCount_0f7a4_47 : decode cJ6_bitCount_0f7a4 47 = .ok (.istore_n 0, 1) := by decide +kernel
theorem dJ6_bitCount_0f7a4_48 : decode cJ6_bitCount_0f7a4 48 = .ok (.iload_n 0, 1) := by decide +kernel
theorem dJ6_bitCount_0f7a4_49 : decode cJ6_bitCount_0f7a4 49 = .ok (.bipush 63, 2) := by decide +kernel
theorem dJ6_bitCount_0f7a4_51 : decode cJ6_bitCount_0f7a4 51 = .ok (.iand, 1) := by decide +kernel
theorem dJ6_bitCount_0f7a4_52 : decode cJ6_bitCount_0f7a4 52 = .ok (.ireturn, 1) := by decide +kernel
theorem dJ9_max_7cf53_0 : decode cJ9_max_7cf53 0 = .ok (.iload_n 0, 1) := by decide +kernel
theorem dJ9_max_7cf53_1 : decode cJ9_max_7cf53 1 = .ok (.iload_n 1, 1) := by decide +kernel
theorem dJ9_max_7cf53_2 : decode cJ9_max_7cf53 2 = .ok (.if_icmp .lt 7, 3) := by decide +kernel
theorem dJ9_max_7cf53_5 : decode cJ9_max_7cf53 5 = .ok (.iload_n 0, 1) := by decide +kernel
theorem dJ9_max_7cf53_6 : decode cJ9_max_7cf53 6 = .ok (.goto 4, 3) := by decide +kernel
theorem dJ9_max_7cf53_9 : decode cJ9_max_7cf53 9 = .ok (.iload_n 1, 1) := by decide +kernel
theorem dJ9_max_7cf53_10 : decode cJ9_max_7cf53 10 = .ok (.ireturn, 1) := by decide +kernel
theorem dJ9_min_7cf53_0 : decode cJ9_min_7cf53 0 = .ok (.iload_n 0, 1) := by decide +kernel
theorem dJ9_min_7cf53_1 : decode cJ9_min_7cf53 1 = .ok (.iload_n 1, 1) := by decide +kernel
theorem dJ9_min_7cf53_2 : decode cJ9_min_7cf53 2 = .ok (.if_icmp .gt 7, 3) := by decide +kernel
theorem dJ9_min_7cf53_5 : decode cJ9_min_7cf53 5 = .ok (.iload_n 0, 1) := by decide +kernel
theorem dJ9_min_7cf53_6 : decode cJ9_min_7cf53 6 = .ok (.goto 4, 3) := by decide +kernel
theorem dJ9_min_7cf53_9 : decode cJ9_min_7cf53 9 = .ok (.iload_n 1, 1) := by decide +kernel
theorem dJ9_min_7cf53_10 : decode cJ9_min_7cf53 10 = .ok (.ireturn, 1) := by decide +kernel
end
section
theorem dX3_init_0 : decode cX3_init 0 = .ok (.aload_n 0, 1) := by decide +kernel
theorem dX3_init_1 : decode cX3_init 1 = .ok (.invokespecial 1, 3) := by decide +kernel
theorem dX3_init_4 : decode cX3_init 4 = .ok (.aload_n 0, 1) := by decide +kernel
theorem dX3_init_5 : decode cX3_init 5 = .ok (.new 7, 3) := by decide +kernel
theorem dX3_init_8 : decode cX3_init 8 = .ok (.dup, 1) := by decide +kernel
theorem dX3_init_9 : decode cX3_init 9 = .ok (.invokespecial 9, 3) := by decide +kernel
theorem dX3_init_12 : decode cX3_init 12 = .ok (.putfield 10, 3) := by decide +kernel
theorem dX3_init_15 : decode cX3_init 15 = .ok (.aload_n 0, 1) := by decide +kernel
theorem dX3_init_16 : decode cX3_init 16 = .ok (.new 7, 3) := by decide +kernel
theorem dX3_init_19 : decode cX3_init 19 = .ok (.dup, 1) := by decide +kernel
theorem dX3_init_20 : decode cX3_init 20 = .ok (.invokespecial 9, 3) := by decide +kernel
theorem dX3_init_23 : decode cX3_init 23 = .ok (.putfield 16, 3) := by decide +kernel
theorem dX3_init_26 : decode cX3_init 26 = .ok (.aload_n 0, 1) := by decide +kernel
theorem dX3_init_27 : decode cX3_init 27 = .ok (.new 7, 3) := by decide +kernel
theorem dX3_init_30 : decode cX3_init 30 = .ok (.dup, 1) := by decide +kernel
theorem dX3_init_31 : decode cX3_init 31 = .ok (.invokespecial 9, 3) := by decide +kernel
theorem dX3_init_34 : decode cX3_init 34 = .ok (.putfield 19, 3) := by decide +kernel
theorem dX3_init_37 : decode cX3_init 37 = .ok (.aload_n 0, 1) := by decide +kernel
theorem dX3_init_38 : decode cX3_init 38 = .ok (.new 22, 3) := by decide +kernel
theorem dX3_init_41 : decode cX3_init 41 = .ok (.dup, 1) := by decide +kernel
theorem dX3_init_42 : decode cX3_init 42 = .ok (.invokespecial 24, 3) := by decide +kernel
theorem dX3_init_45 : decode cX3_init 45 = .ok (.putfield 25, 3) := by decide +kernel
theorem dX3_init_48 : decode cX3_init 48 = .ok (.aload_n 0, 1) := by decide +kernel
theorem dX3_init_49 : decode cX3_init 49 = .ok (.iconst 4, 1) := by decide +kernel
theorem dX3_init_50 : decode cX3_init 50 = .ok (.anewarray 29, 3) := by decide +kernel
theorem dX3_init_53 : decode cX3_init 53 = .ok (.putfield 31, 3) := by decide +kernel
theorem dX3_init_56 : decode cX3_init 56 = .ok (.iconst 0, 1) := by decide +kernel
theorem dX3_init_57 : decode cX3_init 57 = .ok (.istore_n 1, 1) := by decide +kernel
theorem dX3_init_58 : decode cX3_init 58 = .ok (.iload_n 1, 1) := by decide +kernel
theorem dX3_init_59 : decode cX3_init 59 = .ok (.aload_n 0, 1) := by decide +kernel
theorem dX3_init_60 : decode cX3_init 60 = .ok (.getfield 31, 3) := by decide +kernel
theorem dX3_init_63 : decode cX3_init 63 = .ok (.arraylength, 1) := by decide +kernel
theorem dX3_init_64 : decode cX3_init 64 = .ok (.if_icmp .ge 22, 3) := by decide +kernel
theorem dX3_init_67 : decode cX3_init 67 = .ok (.aload_n 0, 1) := by decide +kernel
theorem dX3_init_68 : decode cX3_init 68 = .ok (.getfield 31, 3) := by decide +kernel
theorem dX3_init_71 : decode cX3_init 71 = .ok (.iload_n 1, 1) := by decide +kernel
theorem dX3_init_72 : decode cX3_init 72 = .ok (.new 29, 3) := by decide +kernel
theorem dX3_init_75 : decode cX3_init 75 = .ok (.dup, 1) := by decide +kernel
theorem dX3_init_76 : decode cX3_init 76 = .ok (.invokespecial 35, 3) := by decide +kernel
theorem dX3_init_79 : decode cX3_init 79 = .ok (.aastore, 1) := by decide +kernel
theorem dX3_init_80 : decode cX3_init 80 = .ok (.iinc 1 1, 3) := by decide +kernel
theorem dX3_init_83 : decode cX3_init 83 = .ok (.goto (-25), 3) := by decide +kernel
theorem dX3_init_86 : decode cX3_init 86 = .ok (.aload_n 0, 1) := by decide +kernel
theorem dX3_init_87 : decode cX3_init 87 = .ok (.bipush 7, 2) := by decide +kernel
theorem dX3_init_89 : decode cX3_init 89 = .ok (.newarray .int, 2) := by decide +kernel
theorem dX3_init_91 : decode cX3_init 91 = .ok (.putfield 36, 3) := by decide +kernel
theorem dX3_init_94 : decode cX3_init 94 = .ok (.return_, 1) := by decide +kernel
theorem dX3_corner_0 : decode cX3_corner 0 = .ok (.iload_n 1, 1) := by decide +kernel
theorem dX3_corner_1 : decode cX3_corner 1 = .ok (.invokestatic 40, 3) := by decide +kernel
theorem dX3_corner_4 : decode cX3_corner 4 = .ok (.ifCond .eq 13, 3) := by decide +kernel
theorem dX3_corner_7 : decode cX3_corner 7 = .ok (.iload_n 2, 1) := by decide +kernel
theorem dX3_corner_8 : decode cX3_corner 8 = .ok (.iconst 0, 1) := by decide +kernel
theorem dX3_corner_9 : decode cX3_corner 9 = .ok (.bipush 8, 2) := by decide +kernel
theorem dX3_corner_11 : decode cX3_corner 11 = .ok (.invokestatic 44, 3) := by decide +kernel
theorem dX3_corner_14 : decode cX3_corner 14 = .ok (.ifCond .ne 10, 3) := by decide +kernel
theorem dX3_corner_17 : decode cX3_corner 17 = .ok (.aload_n 0, 1) := by decide +kernel
theorem dX3_corner_18 : decode cX3_corner 18 = .ok (.ldc 48, 2) := by decide +kernel
theorem dX3_corner_20 : decode cX3_corner 20 = .ok (.invokevirtual 49, 3) := by decide +kernel
theorem dX3_corner_23 : decode cX3_corner 23 = .ok (.ireturn, 1) := by decide +kernel
theorem dX3_corner_24 : decode cX3_corner 24 = .ok (.iload_n 2, 1) := by decide +kernel
theorem dX3_corner_25 : decode cX3_corner 25 = .ok (.tableswitch 75 5 8 #[31, 40, 49, 66], 31) := by decide +kernel
theorem dX3_corner_56 : decode cX3_corner 56 = .ok (.aload_n 0, 1) := by decide +kernel
theorem dX3_corner_57 : decode cX3_corner 57 = .ok (.getfield 10, 3) := by decide +kernel
theorem dX3_corner_60 : decode cX3_corner 60 = .ok (.iload_n 1, 1) := by decide +kernel
theorem dX3_corner_61 : decode cX3_corner 61 = .ok (.invokevirtual 53, 3) := by decide +kernel
theorem dX3_corner_64 : decode cX3_corner 64 = .ok (.ireturn, 1) := by decide +kernel
theorem dX3_corner_65 : decode cX3_corner 65 = .ok (.aload_n 0, 1) := by decide +kernel
theorem dX3_corner_66 : decode cX3_corner 66 = .ok (.getfield 10, 3) := by decide +kernel
theorem dX3_corner_69 : decode cX3_corner 69 = .ok (.iload_n 1, 1) := by decide +kernel
theorem dX3_corner_70 : decode cX3_corner 70 = .ok (.invokevirtual 56, 3) := by decide +kernel
theorem dX3_corner_73 : decode cX3_corner 73 = .ok (.ireturn, 1) := by decide +kernel
theorem dX3_corner_74 : decode cX3_corner 74 = .ok (.aload_n 0, 1) := by decide +kernel
theorem dX3_corner_75 : decode cX3_corner 75 = .ok (.getfield 10, 3) := by decide +kernel
theorem dX3_corner_78 : decode cX3_corner 78 = .ok (.iload_n 1, 1) := by decide +kernel
theorem dX3_corner_79 : decode cX3_corner 79 = .ok (.invokevirtual 59, 3) := by decide +kernel
theorem dX3_corner_82 : decode cX3_corner 82 = .ok (.ifCond .eq 7, 3) := by decide +kernel
theorem dX3_corner_85 : decode cX3_corner 85 = .ok (.iconst 1, 1) := by decide +kernel
theorem dX3_corner_86 : decode cX3_corner 86 = .ok (.goto 4, 3) := by decide +kernel
theorem dX3_corner_89 : decode cX3_corner 89 = .ok (.iconst 0, 1) := by decide +kernel
theorem dX3_corner_90 : decode cX3_corner 90 = .ok (.ireturn, 1) := by decide +kernel
theorem dX3_corner_91 : decode cX3_corner 91 = .ok (.aload_n 0, 1) := by decide +kernel
theorem dX3_corner_92 : decode cX3_corner 92 = .ok (.getfield 10, 3) := by decide +kernel
theorem dX3_corner_95 : decode cX3_corner 95 = .ok (.iload_n 1, 1) := by decide +kernel
theorem dX3_corner_96 : decode cX3_corner 96 = .ok (.invokevirtual 62, 3) := by decide +kernel
theorem dX3_corner_99 : decode cX3_corner 99 = .ok (.ireturn, 1) := by decide +kernel
theorem dX3_corner_100 : decode cX3_corner 100 = .ok (.aload_n 0, 1) := by decide +kernel
theorem dX3_corner_101 : decode cX3_corner 101 = .ok (.getfield 10, 3) := by decide +kernel
theorem dX3_corner_104 : decode cX3_corner 104 = .ok (.iload_n 1, 1) := by decide +kernel
theorem dX3_corner_105 : decode cX3_corner 105 = .ok (.iload_n 2, 1) := by decide +kernel
theorem dX3_corner_106 : decode cX3_corner 106 = .ok (.invokevirtual 65, 3) := by decide +kernel
theorem dX3_corner_109 : decode cX3_corner 109 = .ok (.ireturn, 1) := by decide +kernel
theorem dX3_build_0 : decode cX3_build 0 = .ok (.iload_n 1, 1) := by decide +kernel
theorem dX3_build_1 : decode cX3_build 1 = .ok (.invokestatic 40, 3) := by decide +kernel
theorem dX3_build_4 : decode cX3_build 4 = .ok (.ifCond .eq 11, 3) := by decide +kernel
theorem dX3_build_7 : decode cX3_build 7 = .ok (.iload_n 2, 1) := by decide +kernel
theorem dX3_build_8 : decode cX3_build 8 = .ok (.iload_n 3, 1) := by decide +kernel
theorem dX3_build_9 : decode cX3_build 9 = .ok (.invokestatic 69, 3) := by decide +kernel
theorem dX3_build_12 : decode cX3_build 12 = .ok (.ifCond .ne 10, 3) := by decide +kernel
theorem dX3_build_15 : decode cX3_build 15 = .ok (.aload_n 0, 1) := by decide +kernel
theorem dX3_build_16 : decode cX3_build 16 = .ok (.ldc 48, 2) := by decide +kernel
theorem dX3_build_18 : decode cX3_build 18 = .ok (.invokevirtual 49, 3) := by decide +kernel
theorem dX3_build_21 : decode cX3_build 21 = .ok (.ireturn, 1) := by decide +kernel
theorem dX3_build_22 : decode cX3_build 22 = .ok (.aload_n 0, 1) := by decide +kernel
theorem dX3_build_23 : decode cX3_build 23 = .ok (.getfield 10, 3) := by decide +kernel
theorem dX3_build_26 : decode cX3_build 26 = .ok (.iload_n 1, 1) := by decide +kernel
theorem dX3_build_27 : decode cX3_build 27 = .ok (.iload_n 2, 1) := by decide +kernel
theorem dX3_build_28 : decode cX3_build 28 = .ok (.invokevirtual 65, 3) := by decide +kernel
theorem dX3_build_31 : decode cX3_build 31 = .ok (.istore 4, 2) := by decide +kernel
theorem dX3_build_33 : decode cX3_build 33 = .ok (.aload_n 0, 1) := by decide +kernel
theorem dX3_build_34 : decode cX3_build 34 = .ok (.getfield 10, 3) := by decide +kernel
theorem dX3_build_37 : decode cX3_build 37 = .ok (.iload_n 1, 1) := by decide +kernel
theorem dX3_build_38 : decode cX3_build 38 = .ok (.iload_n 2, 1) := by decide +kernel
theorem dX3_build_39 : decode cX3_build 39 = .ok (.iload_n 3, 1) := by decide +kernel
theorem dX3_build_40 : decode cX3_build 40 = .ok (.invokevirtual 73, 3) := by decide +kernel
theorem dX3_build_43 : decode cX3_build 43 = .ok (.iload 4, 2) := by decide +kernel
theorem dX3_build_45 : decode cX3_build 45 = .ok (.ireturn, 1) := by decide +kernel
theorem dX3_says_0 : decode cX3_says 0 = .ok (.iload_n 1, 1) := by decide +kernel
theorem dX3_says_1 : decode cX3_says 1 = .ok (.invokestatic 77, 3) := by decide +kernel
theorem dX3_says_4 : decode cX3_says 4 = .ok (.ifCond .eq 10, 3) := by decide +kernel
theorem dX3_says_7 : decode cX3_says 7 = .ok (.iload_n 2, 1) := by decide +kernel
theorem dX3_says_8 : decode cX3_says 8 = .ok (.invokestatic 40, 3) := by decide +kernel
theorem dX3_says_11 : decode cX3_says 11 = .ok (.ifCond .ne 10, 3) := by decide +kernel
theorem dX3_says_14 : decode cX3_says 14 = .ok (.aload_n 0, 1) := by decide +kernel
theorem dX3_says_15 : decode cX3_says 15 = .ok (.ldc 48, 2) := by decide +kernel
theorem dX3_says_17 : decode cX3_says 17 = .ok (.invokevirtual 49, 3) := by decide +kernel
theorem dX3_says_20 : decode cX3_says 20 = .ok (.ireturn, 1) := by decide +kernel
theorem dX3_says_21 : decode cX3_says 21 = .ok (.aload_n 0, 1) := by decide +kernel
theorem dX3_says_22 : decode cX3_says 22 = .ok (.getfield 10, 3) := by decide +kernel
theorem dX3_says_25 : decode cX3_says 25 = .ok (.invokevirtual 80, 3) := by decide +kernel
theorem dX3_says_28 : decode cX3_says 28 = .ok (.ifCond .eq 10, 3) := by decide +kernel
theorem dX3_says_31 : decode cX3_says 31 = .ok (.aload_n 0, 1) := by decide +kernel
theorem dX3_says_32 : decode cX3_says 32 = .ok (.ldc 84, 2) := by decide +kernel
theorem dX3_says_34 : decode cX3_says 34 = .ok (.invokevirtual 49, 3) := by decide +kernel
theorem dX3_says_37 : decode cX3_says 37 = .ok (.ireturn, 1) := by decide +kernel
theorem dX3_says_38 : decode cX3_says 38 = .ok (.aload_n 0, 1) := by decide +kernel
theorem dX3_says_39 : decode cX3_says 39 = .ok (.getfield 10, 3) := by decide +kernel
theorem dX3_says_42 : decode cX3_says 42 = .ok (.iload_n 1, 1) := by decide +kernel
theorem dX3_says_43 : decode cX3_says 43 = .ok (.iload_n 2, 1) := by decide +kernel
theorem dX3_says_44 : decode cX3_says 44 = .ok (.iconst 1, 1) := by decide +kernel
theorem dX3_says_45 : decode cX3_says 45 = .ok (.invokevirtual 85, 3) := by decide +kernel
theorem dX3_says_48 : decode cX3_says 48 = .ok (.ireturn, 1) := by decide +kernel
theorem dX3_of_0 : decode cX3_of 0 = .ok (.aload_n 0, 1) := by decide +kernel
theorem dX3_of_1 : decode cX3_of 1 = .ok (.getfield 10, 3) := by decide +kernel
theorem dX3_of_4 : decode cX3_of 4 = .ok (.iload_n 1, 1) := by decide +kernel
theorem dX3_of_5 : decode cX3_of 5 = .ok (.invokevirtual 89, 3) := by decide +kernel
theorem dX3_of_8 : decode cX3_of 8 = .ok (.ifCond .eq 12, 3) := by decide +kernel
theorem dX3_of_11 : decode cX3_of 11 = .ok (.iload_n 2, 1) := by decide +kernel
theorem dX3_of_12 : decode cX3_of 12 = .ok (.iconst 0, 1) := by decide +kernel
theorem dX3_of_13 : decode cX3_of 13 = .ok (.iconst 4, 1) := by decide +kernel
theorem dX3_of_14 : decode cX3_of 14 = .ok (.invokestatic 44, 3) := by decide +kernel
theorem dX3_of_17 : decode cX3_of 17 = .ok (.ifCond .ne 10, 3) := by decide +kernel
theorem dX3_of_20 : decode cX3_of 20 = .ok (.aload_n 0, 1) := by decide +kernel
theorem dX3_of_21 : decode cX3_of 21 = .ok (.ldc 48, 2) := by decide +kernel
theorem dX3_of_23 : decode cX3_of 23 = .ok (.invokevirtual 49, 3) := by decide +kernel
theorem dX3_of_26 : decode cX3_of 26 = .ok (.ireturn, 1) := by decide +kernel
theorem dX3_of_27 : decode cX3_of 27 = .ok (.iload_n 2, 1) := by decide +kernel
theorem dX3_of_28 : decode cX3_of 28 = .ok (.lookupswitch 46 #[(3, 28), (4, 37)], 28) := by decide +kernel
theorem dX3_of_56 : decode cX3_of 56 = .ok (.aload_n 0, 1) := by decide +kernel
theorem dX3_of_57 : decode cX3_of 57 = .ok (.getfield 10, 3) := by decide +kernel
theorem dX3_of_60 : decode cX3_of 60 = .ok (.iload_n 1, 1) := by decide +kernel
theorem dX3_of_61 : decode cX3_of 61 = .ok (.invokevirtual 92, 3) := by decide +kernel
theorem dX3_of_64 : decode cX3_of 64 = .ok (.ireturn, 1) := by decide +kernel
theorem dX3_of_65 : decode cX3_of 65 = .ok (.aload_n 0, 1) := by decide +kernel
theorem dX3_of_66 : decode cX3_of 66 = .ok (.getfield 10, 3) := by decide +kernel
theorem dX3_of_69 : decode cX3_of 69 = .ok (.iload_n 1, 1) := by decide +kernel
theorem dX3_of_70 : decode cX3_of 70 = .ok (.invokevirtual 95, 3) := by decide +kernel
theorem dX3_of_73 : decode cX3_of 73 = .ok (.ireturn, 1) := by decide +kernel
theorem dX3_of_74 : decode cX3_of 74 = .ok (.aload_n 0, 1) := by decide +kernel
theorem dX3_of_75 : decode cX3_of 75 = .ok (.getfield 10, 3) := by decide +kernel
theorem dX3_of_78 : decode cX3_of 78 = .ok (.iload_n 1, 1) := by decide +kernel
theorem dX3_of_79 : decode cX3_of 79 = .ok (.iload_n 2, 1) := by decide +kernel
theorem dX3_of_80 : decode cX3_of 80 = .ok (.invokevirtual 98, 3) := by decide +kernel
theorem dX3_of_83 : decode cX3_of 83 = .ok (.ireturn, 1) := by decide +kernel
theorem dX3_change_0 : decode cX3_change 0 = .ok (.aload_n 0, 1) := by decide +kernel
theorem dX3_change_1 : decode cX3_change 1 = .ok (.getfield 10, 3) := by decide +kernel
theorem dX3_change_4 : decode cX3_change 4 = .ok (.iload_n 1, 1) := by decide +kernel
theorem dX3_change_5 : decode cX3_change 5 = .ok (.invokevirtual 89, 3) := by decide +kernel
theorem dX3_change_8 : decode cX3_change 8 = .ok (.ifCond .eq 11, 3) := by decide +kernel
theorem dX3_change_11 : decode cX3_change 11 = .ok (.iload_n 2, 1) := by decide +kernel
theorem dX3_change_12 : decode cX3_change 12 = .ok (.iload_n 3, 1) := by decide +kernel
theorem dX3_change_13 : decode cX3_change 13 = .ok (.invokestatic 101, 3) := by decide +kernel
theorem dX3_change_16 : decode cX3_change 16 = .ok (.ifCond .ne 10, 3) := by decide +kernel
theorem dX3_change_19 : decode cX3_change 19 = .ok (.aload_n 0, 1) := by decide +kernel
theorem dX3_change_20 : decode cX3_change 20 = .ok (.ldc 48, 2) := by decide +kernel
theorem dX3_change_22 : decode cX3_change 22 = .ok (.invokevirtual 49, 3) := by decide +kernel
theorem dX3_change_25 : decode cX3_change 25 = .ok (.ireturn, 1) := by decide +kernel
theorem dX3_change_26 : decode cX3_change 26 = .ok (.aload_n 0, 1) := by decide +kernel
theorem dX3_change_27 : decode cX3_change 27 = .ok (.getfield 10, 3) := by decide +kernel
theorem dX3_change_30 : decode cX3_change 30 = .ok (.iload_n 1, 1) := by decide +kernel
theorem dX3_change_31 : decode cX3_change 31 = .ok (.iload_n 2, 1) := by decide +kernel
theorem dX3_change_32 : decode cX3_change 32 = .ok (.invokevirtual 98, 3) := by decide +kernel
theorem dX3_change_35 : decode cX3_change 35 = .ok (.istore 4, 2) := by decide +kernel
theorem dX3_change_37 : decode cX3_change 37 = .ok (.aload_n 0, 1) := by decide +kernel
theorem dX3_change_38 : decode cX3_change 38 = .ok (.getfield 10, 3) := by decide +kernel
theorem dX3_change_41 : decode cX3_change 41 = .ok (.iload_n 1, 1) := by decide +kernel
theorem dX3_change_42 : decode cX3_change 42 = .ok (.iload_n 2, 1) := by decide +kernel
theorem dX3_change_43 : decode cX3_change 43 = .ok (.iload_n 3, 1) := by decide +kernel
theorem dX3_change_44 : decode cX3_change 44 = .ok (.invokevirtual 104, 3) := by decide +kernel
theorem dX3_change_47 : decode cX3_change 47 = .ok (.iload 4, 2) := by decide +kernel
theorem dX3_change_49 : decode cX3_change 49 = .ok (.ireturn, 1) := by decide +kernel
theorem dX3_aunts_0 : decode cX3_aunts 0 = .ok (.iload_n 1, 1) := by decide +kernel
theorem dX3_aunts_1 : decode cX3_aunts 1 = .ok (.invokestatic 107, 3) := by decide +kernel
theorem dX3_aunts_4 : decode cX3_aunts 4 = .ok (.ifCond .ne 10, 3) := by decide +kernel
theorem dX3_aunts_7 : decode cX3_aunts 7 = .ok (.aload_n 0, 1) := by decide +kernel
theorem dX3_aunts_8 : decode cX3_aunts 8 = .ok (.ldc 48, 2) := by decide +kernel
theorem dX3_aunts_10 : decode cX3_aunts 10 = .ok (.invokevirtual 49, 3) := by decide +kernel
theorem dX3_aunts_13 : decode cX3_aunts 13 = .ok (.ireturn, 1) := by decide +kernel
theorem dX3_aunts_14 : decode cX3_aunts 14 = .ok (.aload_n 0, 1) := by decide +kernel
theorem dX3_aunts_15 : decode cX3_aunts 15 = .ok (.getfield 10, 3) := by decide +kernel
theorem dX3_aunts_18 : decode cX3_aunts 18 = .ok (.getfield 110, 3) := by decide +kernel
theorem dX3_aunts_21 : decode cX3_aunts 21 = .ok (.istore_n 2, 1) := by decide +kernel
theorem dX3_aunts_22 : decode cX3_aunts 22 = .ok (.aload_n 0, 1) := by decide +kernel
theorem dX3_aunts_23 : decode cX3_aunts 23 = .ok (.getfield 10, 3) := by decide +kernel
theorem dX3_aunts_26 : decode cX3_aunts 26 = .ok (.iload_n 1, 1) := by decide +kernel
theorem dX3_aunts_27 : decode cX3_aunts 27 = .ok (.putfield 110, 3) := by decide +kernel
theorem dX3_aunts_30 : decode cX3_aunts 30 = .ok (.iload_n 2, 1) := by decide +kernel
theorem dX3_aunts_31 : decode cX3_aunts 31 = .ok (.ireturn, 1) := by decide +kernel
theorem dX3_frost_0 : decode cX3_frost 0 = .ok (.iload_n 1, 1) := by decide +kernel
theorem dX3_frost_1 : decode cX3_frost 1 = .ok (.iconst 0, 1) := by decide +kernel
theorem dX3_frost_2 : decode cX3_frost 2 = .ok (.iconst 1, 1) := by decide +kernel
theorem dX3_frost_3 : decode cX3_frost 3 = .ok (.invokestatic 44, 3) := by decide +kernel
theorem dX3_frost_6 : decode cX3_frost 6 = .ok (.ifCond .ne 10, 3) := by decide +kernel
theorem dX3_frost_9 : decode cX3_frost 9 = .ok (.aload_n 0, 1) := by decide +kernel
theorem dX3_frost_10 : decode cX3_frost 10 = .ok (.ldc 48, 2) := by decide +kernel
theorem dX3_frost_12 : decode cX3_frost 12 = .ok (.invokevirtual 49, 3) := by decide +kernel
theorem dX3_frost_15 : decode cX3_frost 15 = .ok (.ireturn, 1) := by decide +kernel
theorem dX3_frost_16 : decode cX3_frost 16 = .ok (.aload_n 0, 1) := by decide +kernel
theorem dX3_frost_17 : decode cX3_frost 17 = .ok (.getfield 10, 3) := by decide +kernel
theorem dX3_frost_20 : decode cX3_frost 20 = .ok (.getfield 114, 3) := by decide +kernel
theorem dX3_frost_23 : decode cX3_frost 23 = .ok (.istore_n 2, 1) := by decide +kernel
theorem dX3_frost_24 : decode cX3_frost 24 = .ok (.aload_n 0, 1) := by decide +kernel
theorem dX3_frost_25 : decode cX3_frost 25 = .ok (.getfield 10, 3) := by decide +kernel
theorem dX3_frost_28 : decode cX3_frost 28 = .ok (.iload_n 1, 1) := by decide +kernel
theorem dX3_frost_29 : decode cX3_frost 29 = .ok (.putfield 114, 3) := by decide +kernel
theorem dX3_frost_32 : decode cX3_frost 32 = .ok (.iload_n 2, 1) := by decide +kernel
theorem dX3_frost_33 : decode cX3_frost 33 = .ok (.ireturn, 1) := by decide +kernel
theorem dX3_go_0 : decode cX3_go 0 = .ok (.iload_n 1, 1) := by decide +kernel
theorem dX3_go_1 : decode cX3_go 1 = .ok (.iconst 1, 1) := by decide +kernel
theorem dX3_go_2 : decode cX3_go 2 = .ok (.bipush 60, 2) := by decide +kernel
theorem dX3_go_4 : decode cX3_go 4 = .ok (.invokestatic 44, 3) := by decide +kernel
theorem dX3_go_7 : decode cX3_go 7 = .ok (.ifCond .ne 10, 3) := by decide +kernel
theorem dX3_go_10 : decode cX3_go 10 = .ok (.aload_n 0, 1) := by decide +kernel
theorem dX3_go_11 : decode cX3_go 11 = .ok (.ldc 48, 2) := by decide +kernel
theorem dX3_go_13 : decode cX3_go 13 = .ok (.invokevirtual 49, 3) := by decide +kernel
theorem dX3_go_16 : decode cX3_go 16 = .ok (.ireturn, 1) := by decide +kernel
theorem dX3_go_17 : decode cX3_go 17 = .ok (.aload_n 0, 1) := by decide +kernel
theorem dX3_go_18 : decode cX3_go 18 = .ok (.getfield 10, 3) := by decide +kernel
theorem dX3_go_21 : decode cX3_go 21 = .ok (.getfield 117, 3) := by decide +kernel
theorem dX3_go_24 : decode cX3_go 24 = .ok (.iload_n 1, 1) := by decide +kernel
theorem dX3_go_25 : decode cX3_go 25 = .ok (.iadd, 1) := by decide +kernel
theorem dX3_go_26 : decode cX3_go 26 = .ok (.ldc 120, 2) := by decide +kernel
theorem dX3_go_28 : decode cX3_go 28 = .ok (.if_icmp .le 10, 3) := by decide +kernel
theorem dX3_go_31 : decode cX3_go 31 = .ok (.aload_n 0, 1) := by decide +kernel
theorem dX3_go_32 : decode cX3_go 32 = .ok (.ldc 121, 2) := by decide +kernel
theorem dX3_go_34 : decode cX3_go 34 = .ok (.invokevirtual 49, 3) := by decide +kernel
theorem dX3_go_37 : decode cX3_go 37 = .ok (.ireturn, 1) := by decide +kernel
theorem dX3_go_38 : decode cX3_go 38 = .ok (.aload_n 0, 1) := by decide +kernel
theorem dX3_go_39 : decode cX3_go 39 = .ok (.getfield 10, 3) := by decide +kernel
theorem dX3_go_42 : decode cX3_go 42 = .ok (.iload_n 1, 1) := by decide +kernel
theorem dX3_go_43 : decode cX3_go 43 = .ok (.invokevirtual 122, 3) := by decide +kernel
theorem dX3_go_46 : decode cX3_go 46 = .ok (.pop, 1) := by decide +kernel
theorem dX3_go_47 : decode cX3_go 47 = .ok (.aload_n 0, 1) := by decide +kernel
theorem dX3_go_48 : decode cX3_go 48 = .ok (.getfield 10, 3) := by decide +kernel
theorem dX3_go_51 : decode cX3_go 51 = .ok (.bipush 15, 2) := by decide +kernel
theorem dX3_go_53 : decode cX3_go 53 = .ok (.invokevirtual 56, 3) := by decide +kernel
theorem dX3_go_56 : decode cX3_go 56 = .ok (.ireturn, 1) := by decide +kernel
theorem dX3_now_0 : decode cX3_now 0 = .ok (.iload_n 1, 1) := by decide +kernel
theorem dX3_now_1 : decode cX3_now 1 = .ok (.tableswitch 87 0 5 #[39, 47, 55, 63, 71, 79], 39) := by decide +kernel
theorem dX3_now_40 : decode cX3_now 40 = .ok (.aload_n 0, 1) := by decide +kernel
theorem dX3_now_41 : decode cX3_now 41 = .ok (.getfield 10, 3) := by decide +kernel
theorem dX3_now_44 : decode cX3_now 44 = .ok (.getfield 117, 3) := by decide +kernel
theorem dX3_now_47 : decode cX3_now 47 = .ok (.ireturn, 1) := by decide +kernel
theorem dX3_now_48 : decode cX3_now 48 = .ok (.aload_n 0, 1) := by decide +kernel
theorem dX3_now_49 : decode cX3_now 49 = .ok (.getfield 10, 3) := by decide +kernel
theorem dX3_now_52 : decode cX3_now 52 = .ok (.invokevirtual 125, 3) := by decide +kernel
theorem dX3_now_55 : decode cX3_now 55 = .ok (.ireturn, 1) := by decide +kernel
theorem dX3_now_56 : decode cX3_now 56 = .ok (.aload_n 0, 1) := by decide +kernel
theorem dX3_now_57 : decode cX3_now 57 = .ok (.getfield 10, 3) := by decide +kernel
theorem dX3_now_60 : decode cX3_now 60 = .ok (.invokevirtual 129, 3) := by decide +kernel
theorem dX3_now_63 : decode cX3_now 63 = .ok (.ireturn, 1) := by decide +kernel
theorem dX3_now_64 : decode cX3_now 64 = .ok (.aload_n 0, 1) := by decide +kernel
theorem dX3_now_65 : decode cX3_now 65 = .ok (.getfield 10, 3) := by decide +kernel
theorem dX3_now_68 : decode cX3_now 68 = .ok (.getfield 114, 3) := by decide +kernel
theorem dX3_now_71 : decode cX3_now 71 = .ok (.ireturn, 1) := by decide +kernel
theorem dX3_now_72 : decode cX3_now 72 = .ok (.aload_n 0, 1) := by decide +kernel
theorem dX3_now_73 : decode cX3_now 73 = .ok (.getfield 10, 3) := by decide +kernel
theorem dX3_now_76 : decode cX3_now 76 = .ok (.getfield 110, 3) := by decide +kernel
theorem dX3_now_79 : decode cX3_now 79 = .ok (.ireturn, 1) := by decide +kernel
theorem dX3_now_80 : decode cX3_now 80 = .ok (.aload_n 0, 1) := by decide +kernel
theorem dX3_now_81 : decode cX3_now 81 = .ok (.getfield 10, 3) := by decide +kernel
theorem dX3_now_84 : decode cX3_now 84 = .ok (.invokevirtual 132, 3) := by decide +kernel
theorem dX3_now_87 : decode cX3_now 87 = .ok (.ireturn, 1) := by decide +kernel
theorem dX3_now_88 : decode cX3_now 88 = .ok (.aload_n 0, 1) := by decide +kernel
theorem dX3_now_89 : decode cX3_now 89 = .ok (.ldc 48, 2) := by decide +kernel
theorem dX3_now_91 : decode cX3_now 91 = .ok (.invokevirtual 49, 3) := by decide +kernel
theorem dX3_now_94 : decode cX3_now 94 = .ok (.ireturn, 1) := by decide +kernel
theorem dX3_merge_0 : decode cX3_merge 0 = .ok (.iload_n 1, 1) := by decide +kernel
theorem dX3_merge_1 : decode cX3_merge 1 = .ok (.invokestatic 40, 3) := by decide +kernel
theorem dX3_merge_4 : decode cX3_merge 4 = .ok (.ifCond .ne 10, 3) := by decide +kernel
theorem dX3_merge_7 : decode cX3_merge 7 = .ok (.aload_n 0, 1) := by decide +kernel
theorem dX3_merge_8 : decode cX3_merge 8 = .ok (.ldc 48, 2) := by decide +kernel
theorem dX3_merge_10 : decode cX3_merge 10 = .ok (.invokevirtual 49, 3) := by decide +kernel
theorem dX3_merge_13 : decode cX3_merge 13 = .ok (.ireturn, 1) := by decide +kernel
theorem dX3_merge_14 : decode cX3_merge 14 = .ok (.aload_n 0, 1) := by decide +kernel
theorem dX3_merge_15 : decode cX3_merge 15 = .ok (.getfield 10, 3) := by decide +kernel
theorem dX3_merge_18 : decode cX3_merge 18 = .ok (.iload_n 1, 1) := by decide +kernel
theorem dX3_merge_19 : decode cX3_merge 19 = .ok (.invokevirtual 135, 3) := by decide +kernel
theorem dX3_merge_22 : decode cX3_merge 22 = .ok (.istore_n 2, 1) := by decide +kernel
theorem dX3_merge_23 : decode cX3_merge 23 = .ok (.iload_n 2, 1) := by decide +kernel
theorem dX3_merge_24 : decode cX3_merge 24 = .ok (.ifCond .ne 10, 3) := by decide +kernel
theorem dX3_merge_27 : decode cX3_merge 27 = .ok (.aload_n 0, 1) := by decide +kernel
theorem dX3_merge_28 : decode cX3_merge 28 = .ok (.ldc 138, 2) := by decide +kernel
theorem dX3_merge_30 : decode cX3_merge 30 = .ok (.invokevirtual 49, 3) := by decide +kernel
theorem dX3_merge_33 : decode cX3_merge 33 = .ok (.ireturn, 1) := by decide +kernel
theorem dX3_merge_34 : decode cX3_merge 34 = .ok (.aload_n 0, 1) := by decide +kernel
theorem dX3_merge_35 : decode cX3_merge 35 = .ok (.getfield 10, 3) := by decide +kernel
theorem dX3_merge_38 : decode cX3_merge 38 = .ok (.iload_n 1, 1) := by decide +kernel
theorem dX3_merge_39 : decode cX3_merge 39 = .ok (.invokevirtual 139, 3) := by decide +kernel
theorem dX3_merge_42 : decode cX3_merge 42 = .ok (.iload_n 2, 1) := by decide +kernel
theorem dX3_merge_43 : decode cX3_merge 43 = .ok (.ireturn, 1) := by decide +kernel
theorem dX3_ahead_0 : decode cX3_ahead 0 = .ok (.aload_n 0, 1) := by decide +kernel
theorem dX3_ahead_1 : decode cX3_ahead 1 = .ok (.getfield 10, 3) := by decide +kernel
theorem dX3_ahead_4 : decode cX3_ahead 4 = .ok (.iload_n 1, 1) := by decide +kernel
theorem dX3_ahead_5 : decode cX3_ahead 5 = .ok (.invokevirtual 89, 3) := by decide +kernel
theorem dX3_ahead_8 : decode cX3_ahead 8 = .ok (.ifCond .eq 13, 3) := by decide +kernel
theorem dX3_ahead_11 : decode cX3_ahead 11 = .ok (.iload_n 2, 1) := by decide +kernel
theorem dX3_ahead_12 : decode cX3_ahead 12 = .ok (.iconst 0, 1) := by decide +kernel
theorem dX3_ahead_13 : decode cX3_ahead 13 = .ok (.bipush 100, 2) := by decide +kernel
theorem dX3_ahead_15 : decode cX3_ahead 15 = .ok (.invokestatic 44, 3) := by decide +kernel
theorem dX3_ahead_18 : decode cX3_ahead 18 = .ok (.ifCond .ne 10, 3) := by decide +kernel
theorem dX3_ahead_21 : decode cX3_ahead 21 = .ok (.aload_n 0, 1) := by decide +kernel
theorem dX3_ahead_22 : decode cX3_ahead 22 = .ok (.ldc 48, 2) := by decide +kernel
theorem dX3_ahead_24 : decode cX3_ahead 24 = .ok (.invokevirtual 49, 3) := by decide +kernel
theorem dX3_ahead_27 : decode cX3_ahead 27 = .ok (.ireturn, 1) := by decide +kernel
theorem dX3_ahead_28 : decode cX3_ahead 28 = .ok (.aload_n 0, 1) := by decide +kernel
theorem dX3_ahead_29 : decode cX3_ahead 29 = .ok (.getfield 19, 3) := by decide +kernel
theorem dX3_ahead_32 : decode cX3_ahead 32 = .ok (.aload_n 0, 1) := by decide +kernel
theorem dX3_ahead_33 : decode cX3_ahead 33 = .ok (.getfield 10, 3) := by decide +kernel
theorem dX3_ahead_36 : decode cX3_ahead 36 = .ok (.invokevirtual 143, 3) := by decide +kernel
theorem dX3_ahead_39 : decode cX3_ahead 39 = .ok (.aload_n 0, 1) := by decide +kernel
theorem dX3_ahead_40 : decode cX3_ahead 40 = .ok (.getfield 19, 3) := by decide +kernel
theorem dX3_ahead_43 : decode cX3_ahead 43 = .ok (.iload_n 2, 1) := by decide +kernel
theorem dX3_ahead_44 : decode cX3_ahead 44 = .ok (.invokevirtual 122, 3) := by decide +kernel
theorem dX3_ahead_47 : decode cX3_ahead 47 = .ok (.pop, 1) := by decide +kernel
theorem dX3_ahead_48 : decode cX3_ahead 48 = .ok (.aload_n 0, 1) := by decide +kernel
theorem dX3_ahead_49 : decode cX3_ahead 49 = .ok (.getfield 19, 3) := by decide +kernel
theorem dX3_ahead_52 : decode cX3_ahead 52 = .ok (.iload_n 1, 1) := by decide +kernel
theorem dX3_ahead_53 : decode cX3_ahead 53 = .ok (.iconst 1, 1) := by decide +kernel
theorem dX3_ahead_54 : decode cX3_ahead 54 = .ok (.invokevirtual 98, 3) := by decide +kernel
theorem dX3_ahead_57 : decode cX3_ahead 57 = .ok (.ireturn, 1) := by decide +kernel
theorem dX3_loud_0 : decode cX3_loud 0 = .ok (.iload_n 1, 1) := by decide +kernel
theorem dX3_loud_1 : decode cX3_loud 1 = .ok (.invokestatic 40, 3) := by decide +kernel
theorem dX3_loud_4 : decode cX3_loud 4 = .ok (.ifCond .eq 13, 3) := by decide +kernel
theorem dX3_loud_7 : decode cX3_loud 7 = .ok (.iload_n 2, 1) := by decide +kernel
theorem dX3_loud_8 : decode cX3_loud 8 = .ok (.iconst 0, 1) := by decide +kernel
theorem dX3_loud_9 : decode cX3_loud 9 = .ok (.bipush 100, 2) := by decide +kernel
theorem dX3_loud_11 : decode cX3_loud 11 = .ok (.invokestatic 44, 3) := by decide +kernel
theorem dX3_loud_14 : decode cX3_loud 14 = .ok (.ifCond .ne 10, 3) := by decide +kernel
theorem dX3_loud_17 : decode cX3_loud 17 = .ok (.aload_n 0, 1) := by decide +kernel
theorem dX3_loud_18 : decode cX3_loud 18 = .ok (.ldc 48, 2) := by decide +kernel
theorem dX3_loud_20 : decode cX3_loud 20 = .ok (.invokevirtual 49, 3) := by decide +kernel
theorem dX3_loud_23 : decode cX3_loud 23 = .ok (.ireturn, 1) := by decide +kernel
theorem dX3_loud_24 : decode cX3_loud 24 = .ok (.aload_n 0, 1) := by decide +kernel
theorem dX3_loud_25 : decode cX3_loud 25 = .ok (.getfield 19, 3) := by decide +kernel
theorem dX3_loud_28 : decode cX3_loud 28 = .ok (.aload_n 0, 1) := by decide +kernel
theorem dX3_loud_29 : decode cX3_loud 29 = .ok (.getfield 10, 3) := by decide +kernel
theorem dX3_loud_32 : decode cX3_loud 32 = .ok (.invokevirtual 143, 3) := by decide +kernel
theorem dX3_loud_35 : decode cX3_loud 35 = .ok (.aload_n 0, 1) := by decide +kernel
theorem dX3_loud_36 : decode cX3_loud 36 = .ok (.getfield 19, 3) := by decide +kernel
theorem dX3_loud_39 : decode cX3_loud 39 = .ok (.iload_n 2, 1) := by decide +kernel
theorem dX3_loud_40 : decode cX3_loud 40 = .ok (.invokevirtual 122, 3) := by decide +kernel
theorem dX3_loud_43 : decode cX3_loud 43 = .ok (.pop, 1) := by decide +kernel
theorem dX3_loud_44 : decode cX3_loud 44 = .ok (.aload_n 0, 1) := by decide +kernel
theorem dX3_loud_45 : decode cX3_loud 45 = .ok (.getfield 19, 3) := by decide +kernel
theorem dX3_loud_48 : decode cX3_loud 48 = .ok (.iload_n 1, 1) := by decide +kernel
theorem dX3_loud_49 : decode cX3_loud 49 = .ok (.invokevirtual 56, 3) := by decide +kernel
theorem dX3_loud_52 : decode cX3_loud 52 = .ok (.ireturn, 1) := by decide +kernel
theorem dX3_heard_0 : decode cX3_heard 0 = .ok (.iload_n 1, 1) := by decide +kernel
theorem dX3_heard_1 : decode cX3_heard 1 = .ok (.invokestatic 40, 3) := by decide +kernel
theorem dX3_heard_4 : decode cX3_heard 4 = .ok (.ifCond .ne 10, 3) := by decide +kernel
theorem dX3_heard_7 : decode cX3_heard 7 = .ok (.aload_n 0, 1) := by decide +kernel
theorem dX3_heard_8 : decode cX3_heard 8 = .ok (.ldc 48, 2) := by decide +kernel
theorem dX3_heard_10 : decode cX3_heard 10 = .ok (.invokevirtual 49, 3) := by decide +kernel
theorem dX3_heard_13 : decode cX3_heard 13 = .ok (.ireturn, 1) := by decide +kernel
theorem dX3_heard_14 : decode cX3_heard 14 = .ok (.aload_n 0, 1) := by decide +kernel
theorem dX3_heard_15 : decode cX3_heard 15 = .ok (.getfield 19, 3) := by decide +kernel
theorem dX3_heard_18 : decode cX3_heard 18 = .ok (.aload_n 0, 1) := by decide +kernel
theorem dX3_heard_19 : decode cX3_heard 19 = .ok (.getfield 10, 3) := by decide +kernel
theorem dX3_heard_22 : decode cX3_heard 22 = .ok (.invokevirtual 143, 3) := by decide +kernel
theorem dX3_heard_25 : decode cX3_heard 25 = .ok (.iconst 0, 1) := by decide +kernel
theorem dX3_heard_26 : decode cX3_heard 26 = .ok (.istore_n 2, 1) := by decide +kernel
theorem dX3_heard_27 : decode cX3_heard 27 = .ok (.iload_n 2, 1) := by decide +kernel
theorem dX3_heard_28 : decode cX3_heard 28 = .ok (.bipush 100, 2) := by decide +kernel
theorem dX3_heard_30 : decode cX3_heard 30 = .ok (.if_icmp .gt 31, 3) := by decide +kernel
theorem dX3_heard_33 : decode cX3_heard 33 = .ok (.aload_n 0, 1) := by decide +kernel
theorem dX3_heard_34 : decode cX3_heard 34 = .ok (.getfield 19, 3) := by decide +kernel
theorem dX3_heard_37 : decode cX3_heard 37 = .ok (.iload_n 1, 1) := by decide +kernel
theorem dX3_heard_38 : decode cX3_heard 38 = .ok (.invokevirtual 59, 3) := by decide +kernel
theorem dX3_heard_41 : decode cX3_heard 41 = .ok (.ifCond .eq 5, 3) := by decide +kernel
theorem dX3_heard_44 : decode cX3_heard 44 = .ok (.iload_n 2, 1) := by decide +kernel
theorem dX3_heard_45 : decode cX3_heard 45 = .ok (.ireturn, 1) := by decide +kernel
theorem dX3_heard_46 : decode cX3_heard 46 = .ok (.aload_n 0, 1) := by decide +kernel
theorem dX3_heard_47 : decode cX3_heard 47 = .ok (.getfield 19, 3) := by decide +kernel
theorem dX3_heard_50 : decode cX3_heard 50 = .ok (.iconst 1, 1) := by decide +kernel
theorem dX3_heard_51 : decode cX3_heard 51 = .ok (.invokevirtual 122, 3) := by decide +kernel
theorem dX3_heard_54 : decode cX3_heard 54 = .ok (.pop, 1) := by decide +kernel
theorem dX3_heard_55 : decode cX3_heard 55 = .ok (.iinc 2 1, 3) := by decide +kernel
theorem dX3_heard_58 : decode cX3_heard 58 = .ok (.goto (-31), 3) := by decide +kernel
theorem dX3_heard_61 : decode cX3_heard 61 = .ok (.aload_n 0, 1) := by decide +kernel
theorem dX3_heard_62 : decode cX3_heard 62 = .ok (.ldc 138, 2) := by decide +kernel
theorem dX3_heard_64 : decode cX3_heard 64 = .ok (.invokevirtual 49, 3) := by decide +kernel
theorem dX3_heard_67 : decode cX3_heard 67 = .ok (.ireturn, 1) := by decide +kernel
theorem dX3_still_0 : decode cX3_still 0 = .ok (.aload_n 0, 1) := by decide +kernel
theorem dX3_still_1 : decode cX3_still 1 = .ok (.getfield 19, 3) := by decide +kernel
theorem dX3_still_4 : decode cX3_still 4 = .ok (.aload_n 0, 1) := by decide +kernel
theorem dX3_still_5 : decode cX3_still 5 = .ok (.getfield 10, 3) := by decide +kernel
theorem dX3_still_8 : decode cX3_still 8 = .ok (.invokevirtual 143, 3) := by decide +kernel
theorem dX3_still_11 : decode cX3_still 11 = .ok (.aload_n 0, 1) := by decide +kernel
theorem dX3_still_12 : decode cX3_still 12 = .ok (.getfield 19, 3) := by decide +kernel
theorem dX3_still_15 : decode cX3_still 15 = .ok (.bipush 101, 2) := by decide +kernel
theorem dX3_still_17 : decode cX3_still 17 = .ok (.invokevirtual 122, 3) := by decide +kernel
theorem dX3_still_20 : decode cX3_still 20 = .ok (.istore_n 1, 1) := by decide +kernel
theorem dX3_still_21 : decode cX3_still 21 = .ok (.iload_n 1, 1) := by decide +kernel
theorem dX3_still_22 : decode cX3_still 22 = .ok (.bipush 100, 2) := by decide +kernel
theorem dX3_still_24 : decode cX3_still 24 = .ok (.if_icmp .le 12, 3) := by decide +kernel
theorem dX3_still_27 : decode cX3_still 27 = .ok (.aload_n 0, 1) := by decide +kernel
theorem dX3_still_28 : decode cX3_still 28 = .ok (.ldc 138, 2) := by decide +kernel
theorem dX3_still_30 : decode cX3_still 30 = .ok (.invokevirtual 49, 3) := by decide +kernel
theorem dX3_still_33 : decode cX3_still 33 = .ok (.goto 4, 3) := by decide +kernel
theorem dX3_still_36 : decode cX3_still 36 = .ok (.iload_n 1, 1) := by decide +kernel
theorem dX3_still_37 : decode cX3_still 37 = .ok (.ireturn, 1) := by decide +kernel
theorem dX3_harbour_0 : decode cX3_harbour 0 = .ok (.aload_n 0, 1) := by decide +kernel
theorem dX3_harbour_1 : decode cX3_harbour 1 = .ok (.getfield 10, 3) := by decide +kernel
theorem dX3_harbour_4 : decode cX3_harbour 4 = .ok (.iload_n 1, 1) := by decide +kernel
theorem dX3_harbour_5 : decode cX3_harbour 5 = .ok (.invokevirtual 89, 3) := by decide +kernel
theorem dX3_harbour_8 : decode cX3_harbour 8 = .ok (.ifCond .ne 10, 3) := by decide +kernel
theorem dX3_harbour_11 : decode cX3_harbour 11 = .ok (.aload_n 0, 1) := by decide +kernel
theorem dX3_harbour_12 : decode cX3_harbour 12 = .ok (.ldc 48, 2) := by decide +kernel
theorem dX3_harbour_14 : decode cX3_harbour 14 = .ok (.invokevirtual 49, 3) := by decide +kernel
theorem dX3_harbour_17 : decode cX3_harbour 17 = .ok (.ireturn, 1) := by decide +kernel
theorem dX3_harbour_18 : decode cX3_harbour 18 = .ok (.aload_n 0, 1) := by decide +kernel
theorem dX3_harbour_19 : decode cX3_harbour 19 = .ok (.getfield 19, 3) := by decide +kernel
theorem dX3_harbour_22 : decode cX3_harbour 22 = .ok (.aload_n 0, 1) := by decide +kernel
theorem dX3_harbour_23 : decode cX3_harbour 23 = .ok (.getfield 10, 3) := by decide +kernel
theorem dX3_harbour_26 : decode cX3_harbour 26 = .ok (.invokevirtual 143, 3) := by decide +kernel
theorem dX3_harbour_29 : decode cX3_harbour 29 = .ok (.aload_n 0, 1) := by decide +kernel
theorem dX3_harbour_30 : decode cX3_harbour 30 = .ok (.getfield 19, 3) := by decide +kernel
theorem dX3_harbour_33 : decode cX3_harbour 33 = .ok (.iload_n 1, 1) := by decide +kernel
theorem dX3_harbour_34 : decode cX3_harbour 34 = .ok (.invokevirtual 147, 3) := by decide +kernel
theorem dX3_harbour_37 : decode cX3_harbour 37 = .ok (.istore_n 2, 1) := by decide +kernel
theorem dX3_harbour_38 : decode cX3_harbour 38 = .ok (.iload_n 2, 1) := by decide +kernel
theorem dX3_harbour_39 : decode cX3_harbour 39 = .ok (.bipush 100, 2) := by decide +kernel
theorem dX3_harbour_41 : decode cX3_harbour 41 = .ok (.if_icmp .le 12, 3) := by decide +kernel
theorem dX3_harbour_44 : decode cX3_harbour 44 = .ok (.aload_n 0, 1) := by decide +kernel
theorem dX3_harbour_45 : decode cX3_harbour 45 = .ok (.ldc 138, 2) := by decide +kernel
theorem dX3_harbour_47 : decode cX3_harbour 47 = .ok (.invokevirtual 49, 3) := by decide +kernel
theorem dX3_harbour_50 : decode cX3_harbour 50 = .ok (.goto 4, 3) := by decide +kernel
theorem dX3_harbour_53 : decode cX3_harbour 53 = .ok (.iload_n 2, 1) := by decide +kernel
theorem dX3_harbour_54 : decode cX3_harbour 54 = .ok (.ireturn, 1) := by decide +kernel
theorem dX3_loudest_0 : decode cX3_loudest 0 = .ok (.iload_n 1, 1) := by decide +kernel
theorem dX3_loudest_1 : decode cX3_loudest 1 = .ok (.invokestatic 40, 3) := by decide +kernel
theorem dX3_loudest_4 : decode cX3_loudest 4 = .ok (.ifCond .eq 13, 3) := by decide +kernel
theorem dX3_loudest_7 : decode cX3_loudest 7 = .ok (.iload_n 2, 1) := by decide +kernel
theorem dX3_loudest_8 : decode cX3_loudest 8 = .ok (.iconst 0, 1) := by decide +kernel
theorem dX3_loudest_9 : decode cX3_loudest 9 = .ok (.bipush 100, 2) := by decide +kernel
theorem dX3_loudest_11 : decode cX3_loudest 11 = .ok (.invokestatic 44, 3) := by decide +kernel
theorem dX3_loudest_14 : decode cX3_loudest 14 = .ok (.ifCond .ne 10, 3) := by decide +kernel
theorem dX3_loudest_17 : decode cX3_loudest 17 = .ok (.aload_n 0, 1) := by decide +kernel
theorem dX3_loudest_18 : decode cX3_loudest 18 = .ok (.ldc 48, 2) := by decide +kernel
theorem dX3_loudest_20 : decode cX3_loudest 20 = .ok (.invokevirtual 49, 3) := by decide +kernel
theorem dX3_loudest_23 : decode cX3_loudest 23 = .ok (.ireturn, 1) := by decide +kernel
theorem dX3_loudest_24 : decode cX3_loudest 24 = .ok (.aload_n 0, 1) := by decide +kernel
theorem dX3_loudest_25 : decode cX3_loudest 25 = .ok (.getfield 19, 3) := by decide +kernel
theorem dX3_loudest_28 : decode cX3_loudest 28 = .ok (.aload_n 0, 1) := by decide +kernel
theorem dX3_loudest_29 : decode cX3_loudest 29 = .ok (.getfield 10, 3) := by decide +kernel
theorem dX3_loudest_32 : decode cX3_loudest 32 = .ok (.invokevirtual 143, 3) := by decide +kernel
theorem dX3_loudest_35 : decode cX3_loudest 35 = .ok (.aload_n 0, 1) := by decide +kernel
theorem dX3_loudest_36 : decode cX3_loudest 36 = .ok (.getfield 19, 3) := by decide +kernel
theorem dX3_loudest_39 : decode cX3_loudest 39 = .ok (.iload_n 1, 1) := by decide +kernel
theorem dX3_loudest_40 : decode cX3_loudest 40 = .ok (.invokevirtual 56, 3) := by decide +kernel
theorem dX3_loudest_43 : decode cX3_loudest 43 = .ok (.istore_n 3, 1) := by decide +kernel
theorem dX3_loudest_44 : decode cX3_loudest 44 = .ok (.iconst 0, 1) := by decide +kernel
theorem dX3_loudest_45 : decode cX3_loudest 45 = .ok (.istore 4, 2) := by decide +kernel
theorem dX3_loudest_47 : decode cX3_loudest 47 = .ok (.iload 4, 2) := by decide +kernel
theorem dX3_loudest_49 : decode cX3_loudest 49 = .ok (.iload_n 2, 1) := by decide +kernel
theorem dX3_loudest_50 : decode cX3_loudest 50 = .ok (.if_icmp .ge 31, 3) := by decide +kernel
theorem dX3_loudest_53 : decode cX3_loudest 53 = .ok (.aload_n 0, 1) := by decide +kernel
theorem dX3_loudest_54 : decode cX3_loudest 54 = .ok (.getfield 19, 3) := by decide +kernel
theorem dX3_loudest_57 : decode cX3_loudest 57 = .ok (.iconst 1, 1) := by decide +kernel
theorem dX3_loudest_58 : decode cX3_loudest 58 = .ok (.invokevirtual 122, 3) := by decide +kernel
theorem dX3_loudest_61 : decode cX3_loudest 61 = .ok (.pop, 1) := by decide +kernel
theorem dX3_loudest_62 : decode cX3_loudest 62 = .ok (.iload_n 3, 1) := by decide +kernel
theorem dX3_loudest_63 : decode cX3_loudest 63 = .ok (.aload_n 0, 1) := by decide +kernel
theorem dX3_loudest_64 : decode cX3_loudest 64 = .ok (.getfield 19, 3) := by decide +kernel
theorem dX3_loudest_67 : decode cX3_loudest 67 = .ok (.iload_n 1, 1) := by decide +kernel
theorem dX3_loudest_68 : decode cX3_loudest 68 = .ok (.invokevirtual 56, 3) := by decide +kernel
theorem dX3_loudest_71 : decode cX3_loudest 71 = .ok (.invokestatic 150, 3) := by decide +kernel
theorem dX3_loudest_74 : decode cX3_loudest 74 = .ok (.istore_n 3, 1) := by decide +kernel
theorem dX3_loudest_75 : decode cX3_loudest 75 = .ok (.iinc 4 1, 3) := by decide +kernel
theorem dX3_loudest_78 : decode cX3_loudest 78 = .ok (.goto (-31), 3) := by decide +kernel
theorem dX3_loudest_81 : decode cX3_loudest 81 = .ok (.iload_n 3, 1) := by decide +kernel
theorem dX3_loudest_82 : decode cX3_loudest 82 = .ok (.ireturn, 1) := by decide +kernel
theorem dX3_overtakes_0 : decode cX3_overtakes 0 = .ok (.aload_n 0, 1) := by decide +kernel
theorem dX3_overtakes_1 : decode cX3_overtakes 1 = .ok (.getfield 10, 3) := by decide +kernel
theorem dX3_overtakes_4 : decode cX3_overtakes 4 = .ok (.iload_n 1, 1) := by decide +kernel
theorem dX3_overtakes_5 : decode cX3_overtakes 5 = .ok (.invokevirtual 89, 3) := by decide +kernel
theorem dX3_overtakes_8 : decode cX3_overtakes 8 = .ok (.ifCond .eq 19, 3) := by decide +kernel
theorem dX3_overtakes_11 : decode cX3_overtakes 11 = .ok (.aload_n 0, 1) := by decide +kernel
theorem dX3_overtakes_12 : decode cX3_overtakes 12 = .ok (.getfield 10, 3) := by decide +kernel
theorem dX3_overtakes_15 : decode cX3_overtakes 15 = .ok (.iload_n 2, 1) := by decide +kernel
theorem dX3_overtakes_16 : decode cX3_overtakes 16 = .ok (.invokevirtual 89, 3) := by decide +kernel
theorem dX3_overtakes_19 : decode cX3_overtakes 19 = .ok (.ifCond .eq 8, 3) := by decide +kernel
theorem dX3_overtakes_22 : decode cX3_overtakes 22 = .ok (.iload_n 1, 1) := by decide +kernel
theorem dX3_overtakes_23 : decode cX3_overtakes 23 = .ok (.iload_n 2, 1) := by decide +kernel
theorem dX3_overtakes_24 : decode cX3_overtakes 24 = .ok (.if_icmp .ne 10, 3) := by decide +kernel
theorem dX3_overtakes_27 : decode cX3_overtakes 27 = .ok (.aload_n 0, 1) := by decide +kernel
theorem dX3_overtakes_28 : decode cX3_overtakes 28 = .ok (.ldc 48, 2) := by decide +kernel
theorem dX3_overtakes_30 : decode cX3_overtakes 30 = .ok (.invokevirtual 49, 3) := by decide +kernel
theorem dX3_overtakes_33 : decode cX3_overtakes 33 = .ok (.ireturn, 1) := by decide +kernel
theorem dX3_overtakes_34 : decode cX3_overtakes 34 = .ok (.aload_n 0, 1) := by decide +kernel
theorem dX3_overtakes_35 : decode cX3_overtakes 35 = .ok (.getfield 19, 3) := by decide +kernel
theorem dX3_overtakes_38 : decode cX3_overtakes 38 = .ok (.aload_n 0, 1) := by decide +kernel
theorem dX3_overtakes_39 : decode cX3_overtakes 39 = .ok (.getfield 10, 3) := by decide +kernel
theorem dX3_overtakes_42 : decode cX3_overtakes 42 = .ok (.invokevirtual 143, 3) := by decide +kernel
theorem dX3_overtakes_45 : decode cX3_overtakes 45 = .ok (.iconst 0, 1) := by decide +kernel
theorem dX3_overtakes_46 : decode cX3_overtakes 46 = .ok (.istore_n 3, 1) := by decide +kernel
theorem dX3_overtakes_47 : decode cX3_overtakes 47 = .ok (.iload_n 3, 1) := by decide +kernel
theorem dX3_overtakes_48 : decode cX3_overtakes 48 = .ok (.bipush 100, 2) := by decide +kernel
theorem dX3_overtakes_50 : decode cX3_overtakes 50 = .ok (.if_icmp .gt 39, 3) := by decide +kernel
theorem dX3_overtakes_53 : decode cX3_overtakes 53 = .ok (.aload_n 0, 1) := by decide +kernel
theorem dX3_overtakes_54 : decode cX3_overtakes 54 = .ok (.getfield 19, 3) := by decide +kernel
theorem dX3_overtakes_57 : decode cX3_overtakes 57 = .ok (.iload_n 1, 1) := by decide +kernel
theorem dX3_overtakes_58 : decode cX3_overtakes 58 = .ok (.invokevirtual 155, 3) := by decide +kernel
theorem dX3_overtakes_61 : decode cX3_overtakes 61 = .ok (.aload_n 0, 1) := by decide +kernel
theorem dX3_overtakes_62 : decode cX3_overtakes 62 = .ok (.getfield 19, 3) := by decide +kernel
theorem dX3_overtakes_65 : decode cX3_overtakes 65 = .ok (.iload_n 2, 1) := by decide +kernel
theorem dX3_overtakes_66 : decode cX3_overtakes 66 = .ok (.invokevirtual 155, 3) := by decide +kernel
theorem dX3_overtakes_69 : decode cX3_overtakes 69 = .ok (.if_icmp .ge 5, 3) := by decide +kernel
theorem dX3_overtakes_72 : decode cX3_overtakes 72 = .ok (.iload_n 3, 1) := by decide +kernel
theorem dX3_overtakes_73 : decode cX3_overtakes 73 = .ok (.ireturn, 1) := by decide +kernel
theorem dX3_overtakes_74 : decode cX3_overtakes 74 = .ok (.aload_n 0, 1) := by decide +kernel
theorem dX3_overtakes_75 : decode cX3_overtakes 75 = .ok (.getfield 19, 3) := by decide +kernel
theorem dX3_overtakes_78 : decode cX3_overtakes 78 = .ok (.iconst 1, 1) := by decide +kernel
theorem dX3_overtakes_79 : decode cX3_overtakes 79 = .ok (.invokevirtual 122, 3) := by decide +kernel
theorem dX3_overtakes_82 : decode cX3_overtakes 82 = .ok (.pop, 1) := by decide +kernel
theorem dX3_overtakes_83 : decode cX3_overtakes 83 = .ok (.iinc 3 1, 3) := by decide +kernel
theorem dX3_overtakes_86 : decode cX3_overtakes 86 = .ok (.goto (-39), 3) := by decide +kernel
theorem dX3_overtakes_89 : decode cX3_overtakes 89 = .ok (.aload_n 0, 1) := by decide +kernel
theorem dX3_overtakes_90 : decode cX3_overtakes 90 = .ok (.ldc 138, 2) := by decide +kernel
theorem dX3_overtakes_92 : decode cX3_overtakes 92 = .ok (.invokevirtual 49, 3) := by decide +kernel
theorem dX3_overtakes_95 : decode cX3_overtakes 95 = .ok (.ireturn, 1) := by decide +kernel
theorem dX3_kindFor_0 : decode cX3_kindFor 0 = .ok (.aload_n 0, 1) := by decide +kernel
theorem dX3_kindFor_1 : decode cX3_kindFor 1 = .ok (.getfield 10, 3) := by decide +kernel
theorem dX3_kindFor_4 : decode cX3_kindFor 4 = .ok (.iload_n 1, 1) := by decide +kernel
theorem dX3_kindFor_5 : decode cX3_kindFor 5 = .ok (.invokevirtual 89, 3) := by decide +kernel
theorem dX3_kindFor_8 : decode cX3_kindFor 8 = .ok (.ifCond .ne 10, 3) := by decide +kernel
theorem dX3_kindFor_11 : decode cX3_kindFor 11 = .ok (.aload_n 0, 1) := by decide +kernel
theorem dX3_kindFor_12 : decode cX3_kindFor 12 = .ok (.ldc 48, 2) := by decide +kernel
theorem dX3_kindFor_14 : decode cX3_kindFor 14 = .ok (.invokevirtual 49, 3) := by decide +kernel
theorem dX3_kindFor_17 : decode cX3_kindFor 17 = .ok (.ireturn, 1) := by decide +kernel
theorem dX3_kindFor_18 : decode cX3_kindFor 18 = .ok (.ldc 138, 2) := by decide +kernel
theorem dX3_kindFor_20 : decode cX3_kindFor 20 = .ok (.istore_n 2, 1) := by decide +kernel
theorem dX3_kindFor_21 : decode cX3_kindFor 21 = .ok (.bipush 101, 2) := by decide +kernel
theorem dX3_kindFor_23 : decode cX3_kindFor 23 = .ok (.istore_n 3, 1) := by decide +kernel
theorem dX3_kindFor_24 : decode cX3_kindFor 24 = .ok (.iconst 0, 1) := by decide +kernel
theorem dX3_kindFor_25 : decode cX3_kindFor 25 = .ok (.istore 4, 2) := by decide +kernel
theorem dX3_kindFor_27 : decode cX3_kindFor 27 = .ok (.iload 4, 2) := by decide +kernel
theorem dX3_kindFor_29 : decode cX3_kindFor 29 = .ok (.bipush 7, 2) := by decide +kernel
theorem dX3_kindFor_31 : decode cX3_kindFor 31 = .ok (.if_icmp .ge 53, 3) := by decide +kernel
theorem dX3_kindFor_34 : decode cX3_kindFor 34 = .ok (.aload_n 0, 1) := by decide +kernel
theorem dX3_kindFor_35 : decode cX3_kindFor 35 = .ok (.getfield 19, 3) := by decide +kernel
theorem dX3_kindFor_38 : decode cX3_kindFor 38 = .ok (.aload_n 0, 1) := by decide +kernel
theorem dX3_kindFor_39 : decode cX3_kindFor 39 = .ok (.getfield 10, 3) := by decide +kernel
theorem dX3_kindFor_42 : decode cX3_kindFor 42 = .ok (.invokevirtual 143, 3) := by decide +kernel
theorem dX3_kindFor_45 : decode cX3_kindFor 45 = .ok (.aload_n 0, 1) := by decide +kernel
theorem dX3_kindFor_46 : decode cX3_kindFor 46 = .ok (.getfield 19, 3) := by decide +kernel
theorem dX3_kindFor_49 : decode cX3_kindFor 49 = .ok (.iload_n 1, 1) := by decide +kernel
theorem dX3_kindFor_50 : decode cX3_kindFor 50 = .ok (.iconst 0, 1) := by decide +kernel
theorem dX3_kindFor_51 : decode cX3_kindFor 51 = .ok (.iload 4, 2) := by decide +kernel
theorem dX3_kindFor_53 : decode cX3_kindFor 53 = .ok (.invokevirtual 104, 3) := by decide +kernel
theorem dX3_kindFor_56 : decode cX3_kindFor 56 = .ok (.aload_n 0, 1) := by decide +kernel
theorem dX3_kindFor_57 : decode cX3_kindFor 57 = .ok (.getfield 19, 3) := by decide +kernel
theorem dX3_kindFor_60 : decode cX3_kindFor 60 = .ok (.iload_n 1, 1) := by decide +kernel
theorem dX3_kindFor_61 : decode cX3_kindFor 61 = .ok (.invokevirtual 147, 3) := by decide +kernel
theorem dX3_kindFor_64 : decode cX3_kindFor 64 = .ok (.istore 5, 2) := by decide +kernel
theorem dX3_kindFor_66 : decode cX3_kindFor 66 = .ok (.iload 5, 2) := by decide +kernel
theorem dX3_kindFor_68 : decode cX3_kindFor 68 = .ok (.iload_n 3, 1) := by decide +kernel
theorem dX3_kindFor_69 : decode cX3_kindFor 69 = .ok (.if_icmp .ge 9, 3) := by decide +kernel
theorem dX3_kindFor_72 : decode cX3_kindFor 72 = .ok (.iload 5, 2) := by decide +kernel
theorem dX3_kindFor_74 : decode cX3_kindFor 74 = .ok (.istore_n 3, 1) := by decide +kernel
theorem dX3_kindFor_75 : decode cX3_kindFor 75 = .ok (.iload 4, 2) := by decide +kernel
theorem dX3_kindFor_77 : decode cX3_kindFor 77 = .ok (.istore_n 2, 1) := by decide +kernel
theorem dX3_kindFor_78 : decode cX3_kindFor 78 = .ok (.iinc 4 1, 3) := by decide +kernel
theorem dX3_kindFor_81 : decode cX3_kindFor 81 = .ok (.goto (-54), 3) := by decide +kernel
theorem dX3_kindFor_84 : decode cX3_kindFor 84 = .ok (.iload_n 2, 1) := by decide +kernel
theorem dX3_kindFor_85 : decode cX3_kindFor 85 = .ok (.ldc 138, 2) := by decide +kernel
theorem dX3_kindFor_87 : decode cX3_kindFor 87 = .ok (.if_icmp .ne 12, 3) := by decide +kernel
theorem dX3_kindFor_90 : decode cX3_kindFor 90 = .ok (.aload_n 0, 1) := by decide +kernel
theorem dX3_kindFor_91 : decode cX3_kindFor 91 = .ok (.ldc 138, 2) := by decide +kernel
theorem dX3_kindFor_93 : decode cX3_kindFor 93 = .ok (.invokevirtual 49, 3) := by decide +kernel
theorem dX3_kindFor_96 : decode cX3_kindFor 96 = .ok (.goto 4, 3) := by decide +kernel
theorem dX3_kindFor_99 : decode cX3_kindFor 99 = .ok (.iload_n 2, 1) := by decide +kernel
theorem dX3_kindFor_100 : decode cX3_kindFor 100 = .ok (.ireturn, 1) := by decide +kernel
theorem dX3_goesBy_0 : decode cX3_goesBy 0 = .ok (.aload_n 0, 1) := by decide +kernel
theorem dX3_goesBy_1 : decode cX3_goesBy 1 = .ok (.getfield 10, 3) := by decide +kernel
theorem dX3_goesBy_4 : decode cX3_goesBy 4 = .ok (.iload_n 1, 1) := by decide +kernel
theorem dX3_goesBy_5 : decode cX3_goesBy 5 = .ok (.invokevirtual 89, 3) := by decide +kernel
theorem dX3_goesBy_8 : decode cX3_goesBy 8 = .ok (.ifCond .ne 10, 3) := by decide +kernel
theorem dX3_goesBy_11 : decode cX3_goesBy 11 = .ok (.aload_n 0, 1) := by decide +kernel
theorem dX3_goesBy_12 : decode cX3_goesBy 12 = .ok (.ldc 48, 2) := by decide +kernel
theorem dX3_goesBy_14 : decode cX3_goesBy 14 = .ok (.invokevirtual 49, 3) := by decide +kernel
theorem dX3_goesBy_17 : decode cX3_goesBy 17 = .ok (.ireturn, 1) := by decide +kernel
theorem dX3_goesBy_18 : decode cX3_goesBy 18 = .ok (.aload_n 0, 1) := by decide +kernel
theorem dX3_goesBy_19 : decode cX3_goesBy 19 = .ok (.getfield 19, 3) := by decide +kernel
theorem dX3_goesBy_22 : decode cX3_goesBy 22 = .ok (.aload_n 0, 1) := by decide +kernel
theorem dX3_goesBy_23 : decode cX3_goesBy 23 = .ok (.getfield 10, 3) := by decide +kernel
theorem dX3_goesBy_26 : decode cX3_goesBy 26 = .ok (.invokevirtual 143, 3) := by decide +kernel
theorem dX3_goesBy_29 : decode cX3_goesBy 29 = .ok (.aload_n 0, 1) := by decide +kernel
theorem dX3_goesBy_30 : decode cX3_goesBy 30 = .ok (.getfield 19, 3) := by decide +kernel
theorem dX3_goesBy_33 : decode cX3_goesBy 33 = .ok (.iload_n 1, 1) := by decide +kernel
theorem dX3_goesBy_34 : decode cX3_goesBy 34 = .ok (.bipush 100, 2) := by decide +kernel
theorem dX3_goesBy_36 : decode cX3_goesBy 36 = .ok (.invokevirtual 158, 3) := by decide +kernel
theorem dX3_goesBy_39 : decode cX3_goesBy 39 = .ok (.ireturn, 1) := by decide +kernel
theorem dX3_where_0 : decode cX3_where 0 = .ok (.aload_n 0, 1) := by decide +kernel
theorem dX3_where_1 : decode cX3_where 1 = .ok (.getfield 10, 3) := by decide +kernel
theorem dX3_where_4 : decode cX3_where 4 = .ok (.iload_n 1, 1) := by decide +kernel
theorem dX3_where_5 : decode cX3_where 5 = .ok (.invokevirtual 89, 3) := by decide +kernel
theorem dX3_where_8 : decode cX3_where 8 = .ok (.ifCond .eq 17, 3) := by decide +kernel
theorem dX3_where_11 : decode cX3_where 11 = .ok (.iload_n 2, 1) := by decide +kernel
theorem dX3_where_12 : decode cX3_where 12 = .ok (.invokestatic 107, 3) := by decide +kernel
theorem dX3_where_15 : decode cX3_where 15 = .ok (.ifCond .eq 10, 3) := by decide +kernel
theorem dX3_where_18 : decode cX3_where 18 = .ok (.iload_n 3, 1) := by decide +kernel
theorem dX3_where_19 : decode cX3_where 19 = .ok (.invokestatic 107, 3) := by decide +kernel
theorem dX3_where_22 : decode cX3_where 22 = .ok (.ifCond .ne 10, 3) := by decide +kernel
theorem dX3_where_25 : decode cX3_where 25 = .ok (.aload_n 0, 1) := by decide +kernel
theorem dX3_where_26 : decode cX3_where 26 = .ok (.ldc 48, 2) := by decide +kernel
theorem dX3_where_28 : decode cX3_where 28 = .ok (.invokevirtual 49, 3) := by decide +kernel
theorem dX3_where_31 : decode cX3_where 31 = .ok (.ireturn, 1) := by decide +kernel
theorem dX3_where_32 : decode cX3_where 32 = .ok (.aload_n 0, 1) := by decide +kernel
theorem dX3_where_33 : decode cX3_where 33 = .ok (.iload_n 1, 1) := by decide +kernel
theorem dX3_where_34 : decode cX3_where 34 = .ok (.iload_n 2, 1) := by decide +kernel
theorem dX3_where_35 : decode cX3_where 35 = .ok (.iload_n 3, 1) := by decide +kernel
theorem dX3_where_36 : decode cX3_where 36 = .ok (.invokevirtual 161, 3) := by decide +kernel
theorem dX3_where_39 : decode cX3_where 39 = .ok (.istore 4, 2) := by decide +kernel
theorem dX3_where_41 : decode cX3_where 41 = .ok (.ldc 138, 2) := by decide +kernel
theorem dX3_where_43 : decode cX3_where 43 = .ok (.istore 5, 2) := by decide +kernel
theorem dX3_where_45 : decode cX3_where 45 = .ok (.iconst (-1), 1) := by decide +kernel
theorem dX3_where_46 : decode cX3_where 46 = .ok (.istore 6, 2) := by decide +kernel
theorem dX3_where_48 : decode cX3_where 48 = .ok (.iconst 0, 1) := by decide +kernel
theorem dX3_where_49 : decode cX3_where 49 = .ok (.istore 7, 2) := by decide +kernel
theorem dX3_where_51 : decode cX3_where 51 = .ok (.iload 7, 2) := by decide +kernel
theorem dX3_where_53 : decode cX3_where 53 = .ok (.bipush 16, 2) := by decide +kernel
theorem dX3_where_55 : decode cX3_where 55 = .ok (.if_icmp .ge 50, 3) := by decide +kernel
theorem dX3_where_58 : decode cX3_where 58 = .ok (.iload 4, 2) := by decide +kernel
theorem dX3_where_60 : decode cX3_where 60 = .ok (.iload 7, 2) := by decide +kernel
theorem dX3_where_62 : decode cX3_where 62 = .ok (.invokestatic 164, 3) := by decide +kernel
theorem dX3_where_65 : decode cX3_where 65 = .ok (.ifCond .eq 34, 3) := by decide +kernel
theorem dX3_where_68 : decode cX3_where 68 = .ok (.aload_n 0, 1) := by decide +kernel
theorem dX3_where_69 : decode cX3_where 69 = .ok (.getfield 10, 3) := by decide +kernel
theorem dX3_where_72 : decode cX3_where 72 = .ok (.iload 7, 2) := by decide +kernel
theorem dX3_where_74 : decode cX3_where 74 = .ok (.iconst 0, 1) := by decide +kernel
theorem dX3_where_75 : decode cX3_where 75 = .ok (.invokevirtual 65, 3) := by decide +kernel
theorem dX3_where_78 : decode cX3_where 78 = .ok (.iload 6, 2) := by decide +kernel
theorem dX3_where_80 : decode cX3_where 80 = .ok (.if_icmp .le 19, 3) := by decide +kernel
theorem dX3_where_83 : decode cX3_where 83 = .ok (.aload_n 0, 1) := by decide +kernel
theorem dX3_where_84 : decode cX3_where 84 = .ok (.getfield 10, 3) := by decide +kernel
theorem dX3_where_87 : decode cX3_where 87 = .ok (.iload 7, 2) := by decide +kernel
theorem dX3_where_89 : decode cX3_where 89 = .ok (.iconst 0, 1) := by decide +kernel
theorem dX3_where_90 : decode cX3_where 90 = .ok (.invokevirtual 65, 3) := by decide +kernel
theorem dX3_where_93 : decode cX3_where 93 = .ok (.istore 6, 2) := by decide +kernel
theorem dX3_where_95 : decode cX3_where 95 = .ok (.iload 7, 2) := by decide +kernel
theorem dX3_where_97 : decode cX3_where 97 = .ok (.istore 5, 2) := by decide +kernel
theorem dX3_where_99 : decode cX3_where 99 = .ok (.iinc 7 1, 3) := by decide +kernel
theorem dX3_where_102 : decode cX3_where 102 = .ok (.goto (-51), 3) := by decide +kernel
theorem dX3_where_105 : decode cX3_where 105 = .ok (.iload 5, 2) := by decide +kernel
theorem dX3_where_107 : decode cX3_where 107 = .ok (.ldc 138, 2) := by decide +kernel
theorem dX3_where_109 : decode cX3_where 109 = .ok (.if_icmp .ne 12, 3) := by decide +kernel
theorem dX3_where_112 : decode cX3_where 112 = .ok (.aload_n 0, 1) := by decide +kernel
theorem dX3_where_113 : decode cX3_where 113 = .ok (.ldc 138, 2) := by decide +kernel
theorem dX3_where_115 : decode cX3_where 115 = .ok (.invokevirtual 49, 3) := by decide +kernel
theorem dX3_where_118 : decode cX3_where 118 = .ok (.goto 5, 3) := by decide +kernel
theorem dX3_where_121 : decode cX3_where 121 = .ok (.iload 5, 2) := by decide +kernel
theorem dX3_where_123 : decode cX3_where 123 = .ok (.ireturn, 1) := by decide +kernel
theorem dX3_places_0 : decode cX3_places 0 = .ok (.aload_n 0, 1) := by decide +kernel
theorem dX3_places_1 : decode cX3_places 1 = .ok (.getfield 10, 3) := by decide +kernel
theorem dX3_places_4 : decode cX3_places 4 = .ok (.iload_n 1, 1) := by decide +kernel
theorem dX3_places_5 : decode cX3_places 5 = .ok (.invokevirtual 89, 3) := by decide +kernel
theorem dX3_places_8 : decode cX3_places 8 = .ok (.ifCond .eq 17, 3) := by decide +kernel
theorem dX3_places_11 : decode cX3_places 11 = .ok (.iload_n 2, 1) := by decide +kernel
theorem dX3_places_12 : decode cX3_places 12 = .ok (.invokestatic 107, 3) := by decide +kernel
theorem dX3_places_15 : decode cX3_places 15 = .ok (.ifCond .eq 10, 3) := by decide +kernel
theorem dX3_places_18 : decode cX3_places 18 = .ok (.iload_n 3, 1) := by decide +kernel
theorem dX3_places_19 : decode cX3_places 19 = .ok (.invokestatic 107, 3) := by decide +kernel
theorem dX3_places_22 : decode cX3_places 22 = .ok (.ifCond .ne 10, 3) := by decide +kernel
theorem dX3_places_25 : decode cX3_places 25 = .ok (.aload_n 0, 1) := by decide +kernel
theorem dX3_places_26 : decode cX3_places 26 = .ok (.ldc 48, 2) := by decide +kernel
theorem dX3_places_28 : decode cX3_places 28 = .ok (.invokevirtual 49, 3) := by decide +kernel
theorem dX3_places_31 : decode cX3_places 31 = .ok (.ireturn, 1) := by decide +kernel
theorem dX3_places_32 : decode cX3_places 32 = .ok (.aload_n 0, 1) := by decide +kernel
theorem dX3_places_33 : decode cX3_places 33 = .ok (.iload_n 1, 1) := by decide +kernel
theorem dX3_places_34 : decode cX3_places 34 = .ok (.iload_n 2, 1) := by decide +kernel
theorem dX3_places_35 : decode cX3_places 35 = .ok (.iload_n 3, 1) := by decide +kernel
theorem dX3_places_36 : decode cX3_places 36 = .ok (.invokevirtual 161, 3) := by decide +kernel
theorem dX3_places_39 : decode cX3_places 39 = .ok (.invokestatic 167, 3) := by decide +kernel
theorem dX3_places_42 : decode cX3_places 42 = .ok (.ireturn, 1) := by decide +kernel
theorem dX3_goodPlaces_0 : decode cX3_goodPlaces 0 = .ok (.iconst 0, 1) := by decide +kernel
theorem dX3_goodPlaces_1 : decode cX3_goodPlaces 1 = .ok (.istore 4, 2) := by decide +kernel
theorem dX3_goodPlaces_3 : decode cX3_goodPlaces 3 = .ok (.iconst 0, 1) := by decide +kernel
theorem dX3_goodPlaces_4 : decode cX3_goodPlaces 4 = .ok (.istore 5, 2) := by decide +kernel
theorem dX3_goodPlaces_6 : decode cX3_goodPlaces 6 = .ok (.iload 5, 2) := by decide +kernel
theorem dX3_goodPlaces_8 : decode cX3_goodPlaces 8 = .ok (.bipush 16, 2) := by decide +kernel
theorem dX3_goodPlaces_10 : decode cX3_goodPlaces 10 = .ok (.if_icmp .ge 67, 3) := by decide +kernel
theorem dX3_goodPlaces_13 : decode cX3_goodPlaces 13 = .ok (.aload_n 0, 1) := by decide +kernel
theorem dX3_goodPlaces_14 : decode cX3_goodPlaces 14 = .ok (.getfield 19, 3) := by decide +kernel
theorem dX3_goodPlaces_17 : decode cX3_goodPlaces 17 = .ok (.aload_n 0, 1) := by decide +kernel
theorem dX3_goodPlaces_18 : decode cX3_goodPlaces 18 = .ok (.getfield 10, 3) := by decide +kernel
theorem dX3_goodPlaces_21 : decode cX3_goodPlaces 21 = .ok (.invokevirtual 143, 3) := by decide +kernel
theorem dX3_goodPlaces_24 : decode cX3_goodPlaces 24 = .ok (.aload_n 0, 1) := by decide +kernel
theorem dX3_goodPlaces_25 : decode cX3_goodPlaces 25 = .ok (.getfield 19, 3) := by decide +kernel
theorem dX3_goodPlaces_28 : decode cX3_goodPlaces 28 = .ok (.iload_n 1, 1) := by decide +kernel
theorem dX3_goodPlaces_29 : decode cX3_goodPlaces 29 = .ok (.iconst 1, 1) := by decide +kernel
theorem dX3_goodPlaces_30 : decode cX3_goodPlaces 30 = .ok (.iload 5, 2) := by decide +kernel
theorem dX3_goodPlaces_32 : decode cX3_goodPlaces 32 = .ok (.invokevirtual 104, 3) := by decide +kernel
theorem dX3_goodPlaces_35 : decode cX3_goodPlaces 35 = .ok (.aload_n 0, 1) := by decide +kernel
theorem dX3_goodPlaces_36 : decode cX3_goodPlaces 36 = .ok (.getfield 19, 3) := by decide +kernel
theorem dX3_goodPlaces_39 : decode cX3_goodPlaces 39 = .ok (.iload_n 1, 1) := by decide +kernel
theorem dX3_goodPlaces_40 : decode cX3_goodPlaces 40 = .ok (.bipush 100, 2) := by decide +kernel
theorem dX3_goodPlaces_42 : decode cX3_goodPlaces 42 = .ok (.invokevirtual 158, 3) := by decide +kernel
theorem dX3_goodPlaces_45 : decode cX3_goodPlaces 45 = .ok (.istore 6, 2) := by decide +kernel
theorem dX3_goodPlaces_47 : decode cX3_goodPlaces 47 = .ok (.iload 6, 2) := by decide +kernel
theorem dX3_goodPlaces_49 : decode cX3_goodPlaces 49 = .ok (.iload_n 2, 1) := by decide +kernel
theorem dX3_goodPlaces_50 : decode cX3_goodPlaces 50 = .ok (.iand, 1) := by decide +kernel
theorem dX3_goodPlaces_51 : decode cX3_goodPlaces 51 = .ok (.iload_n 2, 1) := by decide +kernel
theorem dX3_goodPlaces_52 : decode cX3_goodPlaces 52 = .ok (.if_icmp .ne 19, 3) := by decide +kernel
theorem dX3_goodPlaces_55 : decode cX3_goodPlaces 55 = .ok (.iload 6, 2) := by decide +kernel
theorem dX3_goodPlaces_57 : decode cX3_goodPlaces 57 = .ok (.iload_n 3, 1) := by decide +kernel
theorem dX3_goodPlaces_58 : decode cX3_goodPlaces 58 = .ok (.iand, 1) := by decide +kernel
theorem dX3_goodPlaces_59 : decode cX3_goodPlaces 59 = .ok (.ifCond .ne 12, 3) := by decide +kernel
theorem dX3_goodPlaces_62 : decode cX3_goodPlaces 62 = .ok (.iload 4, 2) := by decide +kernel
theorem dX3_goodPlaces_64 : decode cX3_goodPlaces 64 = .ok (.iconst 1, 1) := by decide +kernel
theorem dX3_goodPlaces_65 : decode cX3_goodPlaces 65 = .ok (.iload 5, 2) := by decide +kernel
theorem dX3_goodPlaces_67 : decode cX3_goodPlaces 67 = .ok (.ishl, 1) := by decide +kernel
theorem dX3_goodPlaces_68 : decode cX3_goodPlaces 68 = .ok (.ior, 1) := by decide +kernel
theorem dX3_goodPlaces_69 : decode cX3_goodPlaces 69 = .ok (.istore 4, 2) := by decide +kernel
theorem dX3_goodPlaces_71 : decode cX3_goodPlaces 71 = .ok (.iinc 5 1, 3) := by decide +kernel
theorem dX3_goodPlaces_74 : decode cX3_goodPlaces 74 = .ok (.goto (-68), 3) := by decide +kernel
theorem dX3_goodPlaces_77 : decode cX3_goodPlaces 77 = .ok (.iload 4, 2) := by decide +kernel
theorem dX3_goodPlaces_79 : decode cX3_goodPlaces 79 = .ok (.ireturn, 1) := by decide +kernel
theorem dX3_weightFor_0 : decode cX3_weightFor 0 = .ok (.aload_n 0, 1) := by decide +kernel
theorem dX3_weightFor_1 : decode cX3_weightFor 1 = .ok (.getfield 10, 3) := by decide +kernel
theorem dX3_weightFor_4 : decode cX3_weightFor 4 = .ok (.iload_n 1, 1) := by decide +kernel
theorem dX3_weightFor_5 : decode cX3_weightFor 5 = .ok (.invokevirtual 89, 3) := by decide +kernel
theorem dX3_weightFor_8 : decode cX3_weightFor 8 = .ok (.ifCond .eq 20, 3) := by decide +kernel
theorem dX3_weightFor_11 : decode cX3_weightFor 11 = .ok (.iload_n 2, 1) := by decide +kernel
theorem dX3_weightFor_12 : decode cX3_weightFor 12 = .ok (.invokestatic 40, 3) := by decide +kernel
theorem dX3_weightFor_15 : decode cX3_weightFor 15 = .ok (.ifCond .eq 13, 3) := by decide +kernel
theorem dX3_weightFor_18 : decode cX3_weightFor 18 = .ok (.iload_n 3, 1) := by decide +kernel
theorem dX3_weightFor_19 : decode cX3_weightFor 19 = .ok (.iconst 0, 1) := by decide +kernel
theorem dX3_weightFor_20 : decode cX3_weightFor 20 = .ok (.bipush 40, 2) := by decide +kernel
theorem dX3_weightFor_22 : decode cX3_weightFor 22 = .ok (.invokestatic 44, 3) := by decide +kernel
theorem dX3_weightFor_25 : decode cX3_weightFor 25 = .ok (.ifCond .ne 10, 3) := by decide +kernel
theorem dX3_weightFor_28 : decode cX3_weightFor 28 = .ok (.aload_n 0, 1) := by decide +kernel
theorem dX3_weightFor_29 : decode cX3_weightFor 29 = .ok (.ldc 48, 2) := by decide +kernel
theorem dX3_weightFor_31 : decode cX3_weightFor 31 = .ok (.invokevirtual 49, 3) := by decide +kernel
theorem dX3_weightFor_34 : decode cX3_weightFor 34 = .ok (.ireturn, 1) := by decide +kernel
theorem dX3_weightFor_35 : decode cX3_weightFor 35 = .ok (.aload_n 0, 1) := by decide +kernel
theorem dX3_weightFor_36 : decode cX3_weightFor 36 = .ok (.getfield 19, 3) := by decide +kernel
theorem dX3_weightFor_39 : decode cX3_weightFor 39 = .ok (.aload_n 0, 1) := by decide +kernel
theorem dX3_weightFor_40 : decode cX3_weightFor 40 = .ok (.getfield 10, 3) := by decide +kernel
theorem dX3_weightFor_43 : decode cX3_weightFor 43 = .ok (.invokevirtual 143, 3) := by decide +kernel
theorem dX3_weightFor_46 : decode cX3_weightFor 46 = .ok (.aload_n 0, 1) := by decide +kernel
theorem dX3_weightFor_47 : decode cX3_weightFor 47 = .ok (.getfield 19, 3) := by decide +kernel
theorem dX3_weightFor_50 : decode cX3_weightFor 50 = .ok (.iload_n 3, 1) := by decide +kernel
theorem dX3_weightFor_51 : decode cX3_weightFor 51 = .ok (.invokevirtual 122, 3) := by decide +kernel
theorem dX3_weightFor_54 : decode cX3_weightFor 54 = .ok (.pop, 1) := by decide +kernel
theorem dX3_weightFor_55 : decode cX3_weightFor 55 = .ok (.aload_n 0, 1) := by decide +kernel
theorem dX3_weightFor_56 : decode cX3_weightFor 56 = .ok (.getfield 19, 3) := by decide +kernel
theorem dX3_weightFor_59 : decode cX3_weightFor 59 = .ok (.iload_n 2, 1) := by decide +kernel
theorem dX3_weightFor_60 : decode cX3_weightFor 60 = .ok (.invokevirtual 56, 3) := by decide +kernel
theorem dX3_weightFor_63 : decode cX3_weightFor 63 = .ok (.aload_n 0, 1) := by decide +kernel
theorem dX3_weightFor_64 : decode cX3_weightFor 64 = .ok (.getfield 19, 3) := by decide +kernel
theorem dX3_weightFor_67 : decode cX3_weightFor 67 = .ok (.iload_n 1, 1) := by decide +kernel
theorem dX3_weightFor_68 : decode cX3_weightFor 68 = .ok (.iload_n 2, 1) := by decide +kernel
theorem dX3_weightFor_69 : decode cX3_weightFor 69 = .ok (.invokevirtual 172, 3) := by decide +kernel
theorem dX3_weightFor_72 : decode cX3_weightFor 72 = .ok (.isub, 1) := by decide +kernel
theorem dX3_weightFor_73 : decode cX3_weightFor 73 = .ok (.istore 4, 2) := by decide +kernel
theorem dX3_weightFor_75 : decode cX3_weightFor 75 = .ok (.aload_n 0, 1) := by decide +kernel
theorem dX3_weightFor_76 : decode cX3_weightFor 76 = .ok (.getfield 10, 3) := by decide +kernel
theorem dX3_weightFor_79 : decode cX3_weightFor 79 = .ok (.iload_n 2, 1) := by decide +kernel
theorem dX3_weightFor_80 : decode cX3_weightFor 80 = .ok (.iconst 4, 1) := by decide +kernel
theorem dX3_weightFor_81 : decode cX3_weightFor 81 = .ok (.invokevirtual 65, 3) := by decide +kernel
theorem dX3_weightFor_84 : decode cX3_weightFor 84 = .ok (.iload 4, 2) := by decide +kernel
theorem dX3_weightFor_86 : decode cX3_weightFor 86 = .ok (.isub, 1) := by decide +kernel
theorem dX3_weightFor_87 : decode cX3_weightFor 87 = .ok (.istore 5, 2) := by decide +kernel
theorem dX3_weightFor_89 : decode cX3_weightFor 89 = .ok (.iconst 1, 1) := by decide +kernel
theorem dX3_weightFor_90 : decode cX3_weightFor 90 = .ok (.istore 6, 2) := by decide +kernel
theorem dX3_weightFor_92 : decode cX3_weightFor 92 = .ok (.iload 6, 2) := by decide +kernel
theorem dX3_weightFor_94 : decode cX3_weightFor 94 = .ok (.sipush 999, 3) := by decide +kernel
theorem dX3_weightFor_97 : decode cX3_weightFor 97 = .ok (.if_icmp .gt 65, 3) := by decide +kernel
theorem dX3_weightFor_100 : decode cX3_weightFor 100 = .ok (.aload_n 0, 1) := by decide +kernel
theorem dX3_weightFor_101 : decode cX3_weightFor 101 = .ok (.getfield 19, 3) := by decide +kernel
theorem dX3_weightFor_104 : decode cX3_weightFor 104 = .ok (.iload_n 1, 1) := by decide +kernel
theorem dX3_weightFor_105 : decode cX3_weightFor 105 = .ok (.iconst 1, 1) := by decide +kernel
theorem dX3_weightFor_106 : decode cX3_weightFor 106 = .ok (.aload_n 0, 1) := by decide +kernel
theorem dX3_weightFor_107 : decode cX3_weightFor 107 = .ok (.getfield 10, 3) := by decide +kernel
theorem dX3_weightFor_110 : decode cX3_weightFor 110 = .ok (.iload_n 1, 1) := by decide +kernel
theorem dX3_weightFor_111 : decode cX3_weightFor 111 = .ok (.iconst 1, 1) := by decide +kernel
theorem dX3_weightFor_112 : decode cX3_weightFor 112 = .ok (.invokevirtual 98, 3) := by decide +kernel
theorem dX3_weightFor_115 : decode cX3_weightFor 115 = .ok (.invokevirtual 104, 3) := by decide +kernel
theorem dX3_weightFor_118 : decode cX3_weightFor 118 = .ok (.aload_n 0, 1) := by decide +kernel
theorem dX3_weightFor_119 : decode cX3_weightFor 119 = .ok (.getfield 19, 3) := by decide +kernel
theorem dX3_weightFor_122 : decode cX3_weightFor 122 = .ok (.iload_n 1, 1) := by decide +kernel
theorem dX3_weightFor_123 : decode cX3_weightFor 123 = .ok (.iconst 2, 1) := by decide +kernel
theorem dX3_weightFor_124 : decode cX3_weightFor 124 = .ok (.iload 6, 2) := by decide +kernel
theorem dX3_weightFor_126 : decode cX3_weightFor 126 = .ok (.invokevirtual 104, 3) := by decide +kernel
theorem dX3_weightFor_129 : decode cX3_weightFor 129 = .ok (.aload_n 0, 1) := by decide +kernel
theorem dX3_weightFor_130 : decode cX3_weightFor 130 = .ok (.getfield 19, 3) := by decide +kernel
theorem dX3_weightFor_133 : decode cX3_weightFor 133 = .ok (.iload_n 1, 1) := by decide +kernel
theorem dX3_weightFor_134 : decode cX3_weightFor 134 = .ok (.iload_n 3, 1) := by decide +kernel
theorem dX3_weightFor_135 : decode cX3_weightFor 135 = .ok (.invokevirtual 158, 3) := by decide +kernel
theorem dX3_weightFor_138 : decode cX3_weightFor 138 = .ok (.pop, 1) := by decide +kernel
theorem dX3_weightFor_139 : decode cX3_weightFor 139 = .ok (.aload_n 0, 1) := by decide +kernel
theorem dX3_weightFor_140 : decode cX3_weightFor 140 = .ok (.getfield 19, 3) := by decide +kernel
theorem dX3_weightFor_143 : decode cX3_weightFor 143 = .ok (.iload_n 1, 1) := by decide +kernel
theorem dX3_weightFor_144 : decode cX3_weightFor 144 = .ok (.iload_n 2, 1) := by decide +kernel
theorem dX3_weightFor_145 : decode cX3_weightFor 145 = .ok (.invokevirtual 172, 3) := by decide +kernel
theorem dX3_weightFor_148 : decode cX3_weightFor 148 = .ok (.iload 5, 2) := by decide +kernel
theorem dX3_weightFor_150 : decode cX3_weightFor 150 = .ok (.if_icmp .lt 6, 3) := by decide +kernel
theorem dX3_weightFor_153 : decode cX3_weightFor 153 = .ok (.iload 6, 2) := by decide +kernel
theorem dX3_weightFor_155 : decode cX3_weightFor 155 = .ok (.ireturn, 1) := by decide +kernel
theorem dX3_weightFor_156 : decode cX3_weightFor 156 = .ok (.iinc 6 1, 3) := by decide +kernel
theorem dX3_weightFor_159 : decode cX3_weightFor 159 = .ok (.goto (-67), 3) := by decide +kernel
theorem dX3_weightFor_162 : decode cX3_weightFor 162 = .ok (.aload_n 0, 1) := by decide +kernel
theorem dX3_weightFor_163 : decode cX3_weightFor 163 = .ok (.ldc 138, 2) := by decide +kernel
theorem dX3_weightFor_165 : decode cX3_weightFor 165 = .ok (.invokevirtual 49, 3) := by decide +kernel
theorem dX3_weightFor_168 : decode cX3_weightFor 168 = .ok (.ireturn, 1) := by decide +kernel
theorem dX3_sand_0 : decode cX3_sand 0 = .ok (.iload_n 1, 1) := by decide +kernel
theorem dX3_sand_1 : decode cX3_sand 1 = .ok (.invokestatic 40, 3) := by decide +kernel
theorem dX3_sand_4 : decode cX3_sand 4 = .ok (.ifCond .eq 24, 3) := by decide +kernel
theorem dX3_sand_7 : decode cX3_sand 7 = .ok (.iload_n 2, 1) := by decide +kernel
theorem dX3_sand_8 : decode cX3_sand 8 = .ok (.iconst 0, 1) := by decide +kernel
theorem dX3_sand_9 : decode cX3_sand 9 = .ok (.sipush 9999, 3) := by decide +kernel
theorem dX3_sand_12 : decode cX3_sand 12 = .ok (.invokestatic 44, 3) := by decide +kernel
theorem dX3_sand_15 : decode cX3_sand 15 = .ok (.ifCond .eq 13, 3) := by decide +kernel
theorem dX3_sand_18 : decode cX3_sand 18 = .ok (.iload_n 3, 1) := by decide +kernel
theorem dX3_sand_19 : decode cX3_sand 19 = .ok (.iconst 0, 1) := by decide +kernel
theorem dX3_sand_20 : decode cX3_sand 20 = .ok (.bipush 40, 2) := by decide +kernel
theorem dX3_sand_22 : decode cX3_sand 22 = .ok (.invokestatic 44, 3) := by decide +kernel
theorem dX3_sand_25 : decode cX3_sand 25 = .ok (.ifCond .ne 10, 3) := by decide +kernel
theorem dX3_sand_28 : decode cX3_sand 28 = .ok (.aload_n 0, 1) := by decide +kernel
theorem dX3_sand_29 : decode cX3_sand 29 = .ok (.ldc 48, 2) := by decide +kernel
theorem dX3_sand_31 : decode cX3_sand 31 = .ok (.invokevirtual 49, 3) := by decide +kernel
theorem dX3_sand_34 : decode cX3_sand 34 = .ok (.ireturn, 1) := by decide +kernel
theorem dX3_sand_35 : decode cX3_sand 35 = .ok (.aload_n 0, 1) := by decide +kernel
theorem dX3_sand_36 : decode cX3_sand 36 = .ok (.iload_n 1, 1) := by decide +kernel
theorem dX3_sand_37 : decode cX3_sand 37 = .ok (.iload_n 2, 1) := by decide +kernel
theorem dX3_sand_38 : decode cX3_sand 38 = .ok (.iload_n 3, 1) := by decide +kernel
theorem dX3_sand_39 : decode cX3_sand 39 = .ok (.invokevirtual 175, 3) := by decide +kernel
theorem dX3_sand_42 : decode cX3_sand 42 = .ok (.istore 4, 2) := by decide +kernel
theorem dX3_sand_44 : decode cX3_sand 44 = .ok (.iload 4, 2) := by decide +kernel
theorem dX3_sand_46 : decode cX3_sand 46 = .ok (.ifCond .ge 12, 3) := by decide +kernel
theorem dX3_sand_49 : decode cX3_sand 49 = .ok (.aload_n 0, 1) := by decide +kernel
theorem dX3_sand_50 : decode cX3_sand 50 = .ok (.ldc 138, 2) := by decide +kernel
theorem dX3_sand_52 : decode cX3_sand 52 = .ok (.invokevirtual 49, 3) := by decide +kernel
theorem dX3_sand_55 : decode cX3_sand 55 = .ok (.goto 5, 3) := by decide +kernel
theorem dX3_sand_58 : decode cX3_sand 58 = .ok (.iload 4, 2) := by decide +kernel
theorem dX3_sand_60 : decode cX3_sand 60 = .ok (.ireturn, 1) := by decide +kernel
theorem dX3_costs_0 : decode cX3_costs 0 = .ok (.iload_n 1, 1) := by decide +kernel
theorem dX3_costs_1 : decode cX3_costs 1 = .ok (.invokestatic 40, 3) := by decide +kernel
theorem dX3_costs_4 : decode cX3_costs 4 = .ok (.ifCond .eq 24, 3) := by decide +kernel
theorem dX3_costs_7 : decode cX3_costs 7 = .ok (.iload_n 2, 1) := by decide +kernel
theorem dX3_costs_8 : decode cX3_costs 8 = .ok (.iconst 0, 1) := by decide +kernel
theorem dX3_costs_9 : decode cX3_costs 9 = .ok (.sipush 9999, 3) := by decide +kernel
theorem dX3_costs_12 : decode cX3_costs 12 = .ok (.invokestatic 44, 3) := by decide +kernel
theorem dX3_costs_15 : decode cX3_costs 15 = .ok (.ifCond .eq 13, 3) := by decide +kernel
theorem dX3_costs_18 : decode cX3_costs 18 = .ok (.iload_n 3, 1) := by decide +kernel
theorem dX3_costs_19 : decode cX3_costs 19 = .ok (.iconst 0, 1) := by decide +kernel
theorem dX3_costs_20 : decode cX3_costs 20 = .ok (.bipush 40, 2) := by decide +kernel
theorem dX3_costs_22 : decode cX3_costs 22 = .ok (.invokestatic 44, 3) := by decide +kernel
theorem dX3_costs_25 : decode cX3_costs 25 = .ok (.ifCond .ne 10, 3) := by decide +kernel
theorem dX3_costs_28 : decode cX3_costs 28 = .ok (.aload_n 0, 1) := by decide +kernel
theorem dX3_costs_29 : decode cX3_costs 29 = .ok (.ldc 48, 2) := by decide +kernel
theorem dX3_costs_31 : decode cX3_costs 31 = .ok (.invokevirtual 49, 3) := by decide +kernel
theorem dX3_costs_34 : decode cX3_costs 34 = .ok (.ireturn, 1) := by decide +kernel
theorem dX3_costs_35 : decode cX3_costs 35 = .ok (.aload_n 0, 1) := by decide +kernel
theorem dX3_costs_36 : decode cX3_costs 36 = .ok (.iload_n 1, 1) := by decide +kernel
theorem dX3_costs_37 : decode cX3_costs 37 = .ok (.iload_n 2, 1) := by decide +kernel
theorem dX3_costs_38 : decode cX3_costs 38 = .ok (.iload_n 3, 1) := by decide +kernel
theorem dX3_costs_39 : decode cX3_costs 39 = .ok (.invokevirtual 175, 3) := by decide +kernel
theorem dX3_costs_42 : decode cX3_costs 42 = .ok (.istore 4, 2) := by decide +kernel
theorem dX3_costs_44 : decode cX3_costs 44 = .ok (.iload 4, 2) := by decide +kernel
theorem dX3_costs_46 : decode cX3_costs 46 = .ok (.ifCond .ge 12, 3) := by decide +kernel
theorem dX3_costs_49 : decode cX3_costs 49 = .ok (.aload_n 0, 1) := by decide +kernel
theorem dX3_costs_50 : decode cX3_costs 50 = .ok (.ldc 138, 2) := by decide +kernel
theorem dX3_costs_52 : decode cX3_costs 52 = .ok (.invokevirtual 49, 3) := by decide +kernel
theorem dX3_costs_55 : decode cX3_costs 55 = .ok (.goto 12, 3) := by decide +kernel
theorem dX3_costs_58 : decode cX3_costs 58 = .ok (.aload_n 0, 1) := by decide +kernel
theorem dX3_costs_59 : decode cX3_costs 59 = .ok (.getfield 10, 3) := by decide +kernel
theorem dX3_costs_62 : decode cX3_costs 62 = .ok (.iload 4, 2) := by decide +kernel
theorem dX3_costs_64 : decode cX3_costs 64 = .ok (.invokevirtual 178, 3) := by decide +kernel
theorem dX3_costs_67 : decode cX3_costs 67 = .ok (.ireturn, 1) := by decide +kernel
theorem dX3_cheapestSand_0 : decode cX3_cheapestSand 0 = .ok (.iconst (-1), 1) := by decide +kernel
theorem dX3_cheapestSand_1 : decode cX3_cheapestSand 1 = .ok (.istore 4, 2) := by decide +kernel
theorem dX3_cheapestSand_3 : decode cX3_cheapestSand 3 = .ok (.ldc 181, 2) := by decide +kernel
theorem dX3_cheapestSand_5 : decode cX3_cheapestSand 5 = .ok (.istore 5, 2) := by decide +kernel
theorem dX3_cheapestSand_7 : decode cX3_cheapestSand 7 = .ok (.iconst 0, 1) := by decide +kernel
theorem dX3_cheapestSand_8 : decode cX3_cheapestSand 8 = .ok (.istore 6, 2) := by decide +kernel
theorem dX3_cheapestSand_10 : decode cX3_cheapestSand 10 = .ok (.iload 6, 2) := by decide +kernel
theorem dX3_cheapestSand_12 : decode cX3_cheapestSand 12 = .ok (.sipush 256, 3) := by decide +kernel
theorem dX3_cheapestSand_15 : decode cX3_cheapestSand 15 = .ok (.if_icmp .ge 79, 3) := by decide +kernel
theorem dX3_cheapestSand_18 : decode cX3_cheapestSand 18 = .ok (.aload_n 0, 1) := by decide +kernel
theorem dX3_cheapestSand_19 : decode cX3_cheapestSand 19 = .ok (.getfield 10, 3) := by decide +kernel
theorem dX3_cheapestSand_22 : decode cX3_cheapestSand 22 = .ok (.iload 6, 2) := by decide +kernel
theorem dX3_cheapestSand_24 : decode cX3_cheapestSand 24 = .ok (.invokevirtual 178, 3) := by decide +kernel
theorem dX3_cheapestSand_27 : decode cX3_cheapestSand 27 = .ok (.istore 7, 2) := by decide +kernel
theorem dX3_cheapestSand_29 : decode cX3_cheapestSand 29 = .ok (.iload 7, 2) := by decide +kernel
theorem dX3_cheapestSand_31 : decode cX3_cheapestSand 31 = .ok (.iload 5, 2) := by decide +kernel
theorem dX3_cheapestSand_33 : decode cX3_cheapestSand 33 = .ok (.if_icmp .lt 6, 3) := by decide +kernel
theorem dX3_cheapestSand_36 : decode cX3_cheapestSand 36 = .ok (.goto 52, 3) := by decide +kernel
theorem dX3_cheapestSand_39 : decode cX3_cheapestSand 39 = .ok (.aload_n 0, 1) := by decide +kernel
theorem dX3_cheapestSand_40 : decode cX3_cheapestSand 40 = .ok (.getfield 19, 3) := by decide +kernel
theorem dX3_cheapestSand_43 : decode cX3_cheapestSand 43 = .ok (.aload_n 0, 1) := by decide +kernel
theorem dX3_cheapestSand_44 : decode cX3_cheapestSand 44 = .ok (.getfield 10, 3) := by decide +kernel
theorem dX3_cheapestSand_47 : decode cX3_cheapestSand 47 = .ok (.invokevirtual 143, 3) := by decide +kernel
theorem dX3_cheapestSand_50 : decode cX3_cheapestSand 50 = .ok (.aload_n 0, 1) := by decide +kernel
theorem dX3_cheapestSand_51 : decode cX3_cheapestSand 51 = .ok (.getfield 19, 3) := by decide +kernel
theorem dX3_cheapestSand_54 : decode cX3_cheapestSand 54 = .ok (.iload 6, 2) := by decide +kernel
theorem dX3_cheapestSand_56 : decode cX3_cheapestSand 56 = .ok (.invokevirtual 182, 3) := by decide +kernel
theorem dX3_cheapestSand_59 : decode cX3_cheapestSand 59 = .ok (.aload_n 0, 1) := by decide +kernel
theorem dX3_cheapestSand_60 : decode cX3_cheapestSand 60 = .ok (.getfield 19, 3) := by decide +kernel
theorem dX3_cheapestSand_63 : decode cX3_cheapestSand 63 = .ok (.iload_n 3, 1) := by decide +kernel
theorem dX3_cheapestSand_64 : decode cX3_cheapestSand 64 = .ok (.invokevirtual 122, 3) := by decide +kernel
theorem dX3_cheapestSand_67 : decode cX3_cheapestSand 67 = .ok (.pop, 1) := by decide +kernel
theorem dX3_cheapestSand_68 : decode cX3_cheapestSand 68 = .ok (.aload_n 0, 1) := by decide +kernel
theorem dX3_cheapestSand_69 : decode cX3_cheapestSand 69 = .ok (.getfield 19, 3) := by decide +kernel
theorem dX3_cheapestSand_72 : decode cX3_cheapestSand 72 = .ok (.iload_n 1, 1) := by decide +kernel
theorem dX3_cheapestSand_73 : decode cX3_cheapestSand 73 = .ok (.invokevirtual 56, 3) := by decide +kernel
theorem dX3_cheapestSand_76 : decode cX3_cheapestSand 76 = .ok (.iload_n 2, 1) := by decide +kernel
theorem dX3_cheapestSand_77 : decode cX3_cheapestSand 77 = .ok (.if_icmp .gt 11, 3) := by decide +kernel
theorem dX3_cheapestSand_80 : decode cX3_cheapestSand 80 = .ok (.iload 6, 2) := by decide +kernel
theorem dX3_cheapestSand_82 : decode cX3_cheapestSand 82 = .ok (.istore 4, 2) := by decide +kernel
theorem dX3_cheapestSand_84 : decode cX3_cheapestSand 84 = .ok (.iload 7, 2) := by decide +kernel
theorem dX3_cheapestSand_86 : decode cX3_cheapestSand 86 = .ok (.istore 5, 2) := by decide +kernel
theorem dX3_cheapestSand_88 : decode cX3_cheapestSand 88 = .ok (.iinc 6 1, 3) := by decide +kernel
theorem dX3_cheapestSand_91 : decode cX3_cheapestSand 91 = .ok (.goto (-81), 3) := by decide +kernel
theorem dX3_cheapestSand_94 : decode cX3_cheapestSand 94 = .ok (.iload 4, 2) := by decide +kernel
theorem dX3_cheapestSand_96 : decode cX3_cheapestSand 96 = .ok (.ireturn, 1) := by decide +kernel
theorem dX3_aunt_0 : decode cX3_aunt 0 = .ok (.iload_n 1, 1) := by decide +kernel
theorem dX3_aunt_1 : decode cX3_aunt 1 = .ok (.iconst 0, 1) := by decide +kernel
theorem dX3_aunt_2 : decode cX3_aunt 2 = .ok (.bipush 40, 2) := by decide +kernel
theorem dX3_aunt_4 : decode cX3_aunt 4 = .ok (.invokestatic 44, 3) := by decide +kernel
theorem dX3_aunt_7 : decode cX3_aunt 7 = .ok (.ifCond .ne 10, 3) := by decide +kernel
theorem dX3_aunt_10 : decode cX3_aunt 10 = .ok (.aload_n 0, 1) := by decide +kernel
theorem dX3_aunt_11 : decode cX3_aunt 11 = .ok (.ldc 48, 2) := by decide +kernel
theorem dX3_aunt_13 : decode cX3_aunt 13 = .ok (.invokevirtual 49, 3) := by decide +kernel
theorem dX3_aunt_16 : decode cX3_aunt 16 = .ok (.ireturn, 1) := by decide +kernel
theorem dX3_aunt_17 : decode cX3_aunt 17 = .ok (.iconst 0, 1) := by decide +kernel
theorem dX3_aunt_18 : decode cX3_aunt 18 = .ok (.istore_n 2, 1) := by decide +kernel
theorem dX3_aunt_19 : decode cX3_aunt 19 = .ok (.ldc 181, 2) := by decide +kernel
theorem dX3_aunt_21 : decode cX3_aunt 21 = .ok (.istore_n 3, 1) := by decide +kernel
theorem dX3_aunt_22 : decode cX3_aunt 22 = .ok (.iconst 0, 1) := by decide +kernel
theorem dX3_aunt_23 : decode cX3_aunt 23 = .ok (.istore 4, 2) := by decide +kernel
theorem dX3_aunt_25 : decode cX3_aunt 25 = .ok (.iload 4, 2) := by decide +kernel
theorem dX3_aunt_27 : decode cX3_aunt 27 = .ok (.bipush 16, 2) := by decide +kernel
theorem dX3_aunt_29 : decode cX3_aunt 29 = .ok (.if_icmp .ge 68, 3) := by decide +kernel
theorem dX3_aunt_32 : decode cX3_aunt 32 = .ok (.aload_n 0, 1) := by decide +kernel
theorem dX3_aunt_33 : decode cX3_aunt 33 = .ok (.getfield 19, 3) := by decide +kernel
theorem dX3_aunt_36 : decode cX3_aunt 36 = .ok (.aload_n 0, 1) := by decide +kernel
theorem dX3_aunt_37 : decode cX3_aunt 37 = .ok (.getfield 10, 3) := by decide +kernel
theorem dX3_aunt_40 : decode cX3_aunt 40 = .ok (.invokevirtual 143, 3) := by decide +kernel
theorem dX3_aunt_43 : decode cX3_aunt 43 = .ok (.aload_n 0, 1) := by decide +kernel
theorem dX3_aunt_44 : decode cX3_aunt 44 = .ok (.getfield 19, 3) := by decide +kernel
theorem dX3_aunt_47 : decode cX3_aunt 47 = .ok (.dup, 1) := by decide +kernel
theorem dX3_aunt_48 : decode cX3_aunt 48 = .ok (.getfield 110, 3) := by decide +kernel
theorem dX3_aunt_51 : decode cX3_aunt 51 = .ok (.iconst 1, 1) := by decide +kernel
theorem dX3_aunt_52 : decode cX3_aunt 52 = .ok (.iload 4, 2) := by decide +kernel
theorem dX3_aunt_54 : decode cX3_aunt 54 = .ok (.ishl, 1) := by decide +kernel
theorem dX3_aunt_55 : decode cX3_aunt 55 = .ok (.ior, 1) := by decide +kernel
theorem dX3_aunt_56 : decode cX3_aunt 56 = .ok (.putfield 110, 3) := by decide +kernel
theorem dX3_aunt_59 : decode cX3_aunt 59 = .ok (.aload_n 0, 1) := by decide +kernel
theorem dX3_aunt_60 : decode cX3_aunt 60 = .ok (.getfield 19, 3) := by decide +kernel
theorem dX3_aunt_63 : decode cX3_aunt 63 = .ok (.iload_n 1, 1) := by decide +kernel
theorem dX3_aunt_64 : decode cX3_aunt 64 = .ok (.invokevirtual 122, 3) := by decide +kernel
theorem dX3_aunt_67 : decode cX3_aunt 67 = .ok (.pop, 1) := by decide +kernel
theorem dX3_aunt_68 : decode cX3_aunt 68 = .ok (.aload_n 0, 1) := by decide +kernel
theorem dX3_aunt_69 : decode cX3_aunt 69 = .ok (.getfield 19, 3) := by decide +kernel
theorem dX3_aunt_72 : decode cX3_aunt 72 = .ok (.bipush 15, 2) := by decide +kernel
theorem dX3_aunt_74 : decode cX3_aunt 74 = .ok (.invokevirtual 56, 3) := by decide +kernel
theorem dX3_aunt_77 : decode cX3_aunt 77 = .ok (.istore 5, 2) := by decide +kernel
theorem dX3_aunt_79 : decode cX3_aunt 79 = .ok (.iload 5, 2) := by decide +kernel
theorem dX3_aunt_81 : decode cX3_aunt 81 = .ok (.iload_n 3, 1) := by decide +kernel
theorem dX3_aunt_82 : decode cX3_aunt 82 = .ok (.if_icmp .ge 9, 3) := by decide +kernel
theorem dX3_aunt_85 : decode cX3_aunt 85 = .ok (.iload 5, 2) := by decide +kernel
theorem dX3_aunt_87 : decode cX3_aunt 87 = .ok (.istore_n 3, 1) := by decide +kernel
theorem dX3_aunt_88 : decode cX3_aunt 88 = .ok (.iload 4, 2) := by decide +kernel
theorem dX3_aunt_90 : decode cX3_aunt 90 = .ok (.istore_n 2, 1) := by decide +kernel
theorem dX3_aunt_91 : decode cX3_aunt 91 = .ok (.iinc 4 1, 3) := by decide +kernel
theorem dX3_aunt_94 : decode cX3_aunt 94 = .ok (.goto (-69), 3) := by decide +kernel
theorem dX3_aunt_97 : decode cX3_aunt 97 = .ok (.iload_n 2, 1) := by decide +kernel
theorem dX3_aunt_98 : decode cX3_aunt 98 = .ok (.ireturn, 1) := by decide +kernel
theorem dX3_fits_0 : decode cX3_fits 0 = .ok (.aload_n 0, 1) := by decide +kernel
theorem dX3_fits_1 : decode cX3_fits 1 = .ok (.iload_n 1, 1) := by decide +kernel
theorem dX3_fits_2 : decode cX3_fits 2 = .ok (.iload_n 2, 1) := by decide +kernel
theorem dX3_fits_3 : decode cX3_fits 3 = .ok (.invokevirtual 185, 3) := by decide +kernel
theorem dX3_fits_6 : decode cX3_fits 6 = .ok (.istore_n 3, 1) := by decide +kernel
theorem dX3_fits_7 : decode cX3_fits 7 = .ok (.iload_n 3, 1) := by decide +kernel
theorem dX3_fits_8 : decode cX3_fits 8 = .ok (.ifCond .eq 9, 3) := by decide +kernel
theorem dX3_fits_11 : decode cX3_fits 11 = .ok (.aload_n 0, 1) := by decide +kernel
theorem dX3_fits_12 : decode cX3_fits 12 = .ok (.iload_n 3, 1) := by decide +kernel
theorem dX3_fits_13 : decode cX3_fits 13 = .ok (.invokevirtual 49, 3) := by decide +kernel
theorem dX3_fits_16 : decode cX3_fits 16 = .ok (.ireturn, 1) := by decide +kernel
theorem dX3_fits_17 : decode cX3_fits 17 = .ok (.iconst 0, 1) := by decide +kernel
theorem dX3_fits_18 : decode cX3_fits 18 = .ok (.istore 4, 2) := by decide +kernel
theorem dX3_fits_20 : decode cX3_fits 20 = .ok (.iconst 0, 1) := by decide +kernel
theorem dX3_fits_21 : decode cX3_fits 21 = .ok (.istore 5, 2) := by decide +kernel
theorem dX3_fits_23 : decode cX3_fits 23 = .ok (.iload 5, 2) := by decide +kernel
theorem dX3_fits_25 : decode cX3_fits 25 = .ok (.bipush 112, 2) := by decide +kernel
theorem dX3_fits_27 : decode cX3_fits 27 = .ok (.if_icmp .ge 23, 3) := by decide +kernel
theorem dX3_fits_30 : decode cX3_fits 30 = .ok (.aload_n 0, 1) := by decide +kernel
theorem dX3_fits_31 : decode cX3_fits 31 = .ok (.iload_n 1, 1) := by decide +kernel
theorem dX3_fits_32 : decode cX3_fits 32 = .ok (.iload 5, 2) := by decide +kernel
theorem dX3_fits_34 : decode cX3_fits 34 = .ok (.iload_n 2, 1) := by decide +kernel
theorem dX3_fits_35 : decode cX3_fits 35 = .ok (.invokevirtual 188, 3) := by decide +kernel
theorem dX3_fits_38 : decode cX3_fits 38 = .ok (.ifCond .eq 6, 3) := by decide +kernel
theorem dX3_fits_41 : decode cX3_fits 41 = .ok (.iinc 4 1, 3) := by decide +kernel
theorem dX3_fits_44 : decode cX3_fits 44 = .ok (.iinc 5 1, 3) := by decide +kernel
theorem dX3_fits_47 : decode cX3_fits 47 = .ok (.goto (-24), 3) := by decide +kernel
theorem dX3_fits_50 : decode cX3_fits 50 = .ok (.iload 4, 2) := by decide +kernel
theorem dX3_fits_52 : decode cX3_fits 52 = .ok (.ireturn, 1) := by decide +kernel
theorem dX3_said_0 : decode cX3_said 0 = .ok (.aload_n 0, 1) := by decide +kernel
theorem dX3_said_1 : decode cX3_said 1 = .ok (.iload_n 1, 1) := by decide +kernel
theorem dX3_said_2 : decode cX3_said 2 = .ok (.iload_n 2, 1) := by decide +kernel
theorem dX3_said_3 : decode cX3_said 3 = .ok (.invokevirtual 185, 3) := by decide +kernel
theorem dX3_said_6 : decode cX3_said 6 = .ok (.istore_n 3, 1) := by decide +kernel
theorem dX3_said_7 : decode cX3_said 7 = .ok (.iload_n 3, 1) := by decide +kernel
theorem dX3_said_8 : decode cX3_said 8 = .ok (.ifCond .eq 9, 3) := by decide +kernel
theorem dX3_said_11 : decode cX3_said 11 = .ok (.aload_n 0, 1) := by decide +kernel
theorem dX3_said_12 : decode cX3_said 12 = .ok (.iload_n 3, 1) := by decide +kernel
theorem dX3_said_13 : decode cX3_said 13 = .ok (.invokevirtual 49, 3) := by decide +kernel
theorem dX3_said_16 : decode cX3_said 16 = .ok (.ireturn, 1) := by decide +kernel
theorem dX3_said_17 : decode cX3_said 17 = .ok (.iconst 0, 1) := by decide +kernel
theorem dX3_said_18 : decode cX3_said 18 = .ok (.istore 4, 2) := by decide +kernel
theorem dX3_said_20 : decode cX3_said 20 = .ok (.iload 4, 2) := by decide +kernel
theorem dX3_said_22 : decode cX3_said 22 = .ok (.bipush 112, 2) := by decide +kernel
theorem dX3_said_24 : decode cX3_said 24 = .ok (.if_icmp .ge 23, 3) := by decide +kernel
theorem dX3_said_27 : decode cX3_said 27 = .ok (.aload_n 0, 1) := by decide +kernel
theorem dX3_said_28 : decode cX3_said 28 = .ok (.iload_n 1, 1) := by decide +kernel
theorem dX3_said_29 : decode cX3_said 29 = .ok (.iload 4, 2) := by decide +kernel
theorem dX3_said_31 : decode cX3_said 31 = .ok (.iload_n 2, 1) := by decide +kernel
theorem dX3_said_32 : decode cX3_said 32 = .ok (.invokevirtual 188, 3) := by decide +kernel
theorem dX3_said_35 : decode cX3_said 35 = .ok (.ifCond .eq 6, 3) := by decide +kernel
theorem dX3_said_38 : decode cX3_said 38 = .ok (.iload 4, 2) := by decide +kernel
theorem dX3_said_40 : decode cX3_said 40 = .ok (.ireturn, 1) := by decide +kernel
theorem dX3_said_41 : decode cX3_said 41 = .ok (.iinc 4 1, 3) := by decide +kernel
theorem dX3_said_44 : decode cX3_said 44 = .ok (.goto (-24), 3) := by decide +kernel
theorem dX3_said_47 : decode cX3_said 47 = .ok (.aload_n 0, 1) := by decide +kernel
theorem dX3_said_48 : decode cX3_said 48 = .ok (.ldc 138, 2) := by decide +kernel
theorem dX3_said_50 : decode cX3_said 50 = .ok (.invokevirtual 49, 3) := by decide +kernel
theorem dX3_said_53 : decode cX3_said 53 = .ok (.ireturn, 1) := by decide +kernel
theorem dX3_whyNotHeard_0 : decode cX3_whyNotHeard 0 = .ok (.aload_n 0, 1) := by decide +kernel
theorem dX3_whyNotHeard_1 : decode cX3_whyNotHeard 1 = .ok (.iload_n 1, 1) := by decide +kernel
theorem dX3_whyNotHeard_2 : decode cX3_whyNotHeard 2 = .ok (.invokevirtual 191, 3) := by decide +kernel
theorem dX3_whyNotHeard_5 : decode cX3_whyNotHeard 5 = .ok (.astore_n 3, 1) := by decide +kernel
theorem dX3_whyNotHeard_6 : decode cX3_whyNotHeard 6 = .ok (.aload_n 3, 1) := by decide +kernel
theorem dX3_whyNotHeard_7 : decode cX3_whyNotHeard 7 = .ok (.ifnonnull 6, 3) := by decide +kernel
theorem dX3_whyNotHeard_10 : decode cX3_whyNotHeard 10 = .ok (.ldc 48, 2) := by decide +kernel
theorem dX3_whyNotHeard_12 : decode cX3_whyNotHeard 12 = .ok (.ireturn, 1) := by decide +kernel
theorem dX3_whyNotHeard_13 : decode cX3_whyNotHeard 13 = .ok (.aload_n 3, 1) := by decide +kernel
theorem dX3_whyNotHeard_14 : decode cX3_whyNotHeard 14 = .ok (.invokevirtual 195, 3) := by decide +kernel
theorem dX3_whyNotHeard_17 : decode cX3_whyNotHeard 17 = .ok (.ifCond .eq 6, 3) := by decide +kernel
theorem dX3_whyNotHeard_20 : decode cX3_whyNotHeard 20 = .ok (.ldc 198, 2) := by decide +kernel
theorem dX3_whyNotHeard_22 : decode cX3_whyNotHeard 22 = .ok (.ireturn, 1) := by decide +kernel
theorem dX3_whyNotHeard_23 : decode cX3_whyNotHeard 23 = .ok (.iload_n 2, 1) := by decide +kernel
theorem dX3_whyNotHeard_24 : decode cX3_whyNotHeard 24 = .ok (.iconst 1, 1) := by decide +kernel
theorem dX3_whyNotHeard_25 : decode cX3_whyNotHeard 25 = .ok (.sipush 999, 3) := by decide +kernel
theorem dX3_whyNotHeard_28 : decode cX3_whyNotHeard 28 = .ok (.invokestatic 44, 3) := by decide +kernel
theorem dX3_whyNotHeard_31 : decode cX3_whyNotHeard 31 = .ok (.ifCond .ne 6, 3) := by decide +kernel
theorem dX3_whyNotHeard_34 : decode cX3_whyNotHeard 34 = .ok (.ldc 48, 2) := by decide +kernel
theorem dX3_whyNotHeard_36 : decode cX3_whyNotHeard 36 = .ok (.ireturn, 1) := by decide +kernel
theorem dX3_whyNotHeard_37 : decode cX3_whyNotHeard 37 = .ok (.aload_n 0, 1) := by decide +kernel
theorem dX3_whyNotHeard_38 : decode cX3_whyNotHeard 38 = .ok (.getfield 10, 3) := by decide +kernel
theorem dX3_whyNotHeard_41 : decode cX3_whyNotHeard 41 = .ok (.invokevirtual 80, 3) := by decide +kernel
theorem dX3_whyNotHeard_44 : decode cX3_whyNotHeard 44 = .ok (.ifCond .eq 8, 3) := by decide +kernel
theorem dX3_whyNotHeard_47 : decode cX3_whyNotHeard 47 = .ok (.ldc 121, 2) := by decide +kernel
theorem dX3_whyNotHeard_49 : decode cX3_whyNotHeard 49 = .ok (.goto 4, 3) := by decide +kernel
theorem dX3_whyNotHeard_52 : decode cX3_whyNotHeard 52 = .ok (.iconst 0, 1) := by decide +kernel
theorem dX3_whyNotHeard_53 : decode cX3_whyNotHeard 53 = .ok (.ireturn, 1) := by decide +kernel
theorem dX3_pairFits_0 : decode cX3_pairFits 0 = .ok (.aload_n 0, 1) := by decide +kernel
theorem dX3_pairFits_1 : decode cX3_pairFits 1 = .ok (.iload_n 1, 1) := by decide +kernel
theorem dX3_pairFits_2 : decode cX3_pairFits 2 = .ok (.invokevirtual 191, 3) := by decide +kernel
theorem dX3_pairFits_5 : decode cX3_pairFits 5 = .ok (.astore 4, 2) := by decide +kernel
theorem dX3_pairFits_7 : decode cX3_pairFits 7 = .ok (.aload 4, 2) := by decide +kernel
theorem dX3_pairFits_9 : decode cX3_pairFits 9 = .ok (.ifnonnull 5, 3) := by decide +kernel
theorem dX3_pairFits_12 : decode cX3_pairFits 12 = .ok (.iconst 0, 1) := by decide +kernel
theorem dX3_pairFits_13 : decode cX3_pairFits 13 = .ok (.ireturn, 1) := by decide +kernel
theorem dX3_pairFits_14 : decode cX3_pairFits 14 = .ok (.aload_n 0, 1) := by decide +kernel
theorem dX3_pairFits_15 : decode cX3_pairFits 15 = .ok (.getfield 19, 3) := by decide +kernel
theorem dX3_pairFits_18 : decode cX3_pairFits 18 = .ok (.aload_n 0, 1) := by decide +kernel
theorem dX3_pairFits_19 : decode cX3_pairFits 19 = .ok (.getfield 10, 3) := by decide +kernel
theorem dX3_pairFits_22 : decode cX3_pairFits 22 = .ok (.invokevirtual 143, 3) := by decide +kernel
theorem dX3_pairFits_25 : decode cX3_pairFits 25 = .ok (.aload_n 0, 1) := by decide +kernel
theorem dX3_pairFits_26 : decode cX3_pairFits 26 = .ok (.getfield 19, 3) := by decide +kernel
theorem dX3_pairFits_29 : decode cX3_pairFits 29 = .ok (.iload_n 2, 1) := by decide +kernel
theorem dX3_pairFits_30 : decode cX3_pairFits 30 = .ok (.bipush 16, 2) := by decide +kernel
theorem dX3_pairFits_32 : decode cX3_pairFits 32 = .ok (.idiv, 1) := by decide +kernel
theorem dX3_pairFits_33 : decode cX3_pairFits 33 = .ok (.iload_n 2, 1) := by decide +kernel
theorem dX3_pairFits_34 : decode cX3_pairFits 34 = .ok (.bipush 16, 2) := by decide +kernel
theorem dX3_pairFits_36 : decode cX3_pairFits 36 = .ok (.irem, 1) := by decide +kernel
theorem dX3_pairFits_37 : decode cX3_pairFits 37 = .ok (.iload_n 3, 1) := by decide +kernel
theorem dX3_pairFits_38 : decode cX3_pairFits 38 = .ok (.invokevirtual 85, 3) := by decide +kernel
theorem dX3_pairFits_41 : decode cX3_pairFits 41 = .ok (.pop, 1) := by decide +kernel
theorem dX3_pairFits_42 : decode cX3_pairFits 42 = .ok (.iconst 0, 1) := by decide +kernel
theorem dX3_pairFits_43 : decode cX3_pairFits 43 = .ok (.istore 5, 2) := by decide +kernel
theorem dX3_pairFits_45 : decode cX3_pairFits 45 = .ok (.iload 5, 2) := by decide +kernel
theorem dX3_pairFits_47 : decode cX3_pairFits 47 = .ok (.aload 4, 2) := by decide +kernel
theorem dX3_pairFits_49 : decode cX3_pairFits 49 = .ok (.getfield 199, 3) := by decide +kernel
theorem dX3_pairFits_52 : decode cX3_pairFits 52 = .ok (.if_icmp .ge 49, 3) := by decide +kernel
theorem dX3_pairFits_55 : decode cX3_pairFits 55 = .ok (.aload_n 0, 1) := by decide +kernel
theorem dX3_pairFits_56 : decode cX3_pairFits 56 = .ok (.getfield 19, 3) := by decide +kernel
theorem dX3_pairFits_59 : decode cX3_pairFits 59 = .ok (.iconst 1, 1) := by decide +kernel
theorem dX3_pairFits_60 : decode cX3_pairFits 60 = .ok (.invokevirtual 122, 3) := by decide +kernel
theorem dX3_pairFits_63 : decode cX3_pairFits 63 = .ok (.pop, 1) := by decide +kernel
theorem dX3_pairFits_64 : decode cX3_pairFits 64 = .ok (.aload 4, 2) := by decide +kernel
theorem dX3_pairFits_66 : decode cX3_pairFits 66 = .ok (.iload 5, 2) := by decide +kernel
theorem dX3_pairFits_68 : decode cX3_pairFits 68 = .ok (.invokevirtual 202, 3) := by decide +kernel
theorem dX3_pairFits_71 : decode cX3_pairFits 71 = .ok (.istore 6, 2) := by decide +kernel
theorem dX3_pairFits_73 : decode cX3_pairFits 73 = .ok (.iload 6, 2) := by decide +kernel
theorem dX3_pairFits_75 : decode cX3_pairFits 75 = .ok (.iconst (-1), 1) := by decide +kernel
theorem dX3_pairFits_76 : decode cX3_pairFits 76 = .ok (.if_icmp .eq 19, 3) := by decide +kernel
theorem dX3_pairFits_79 : decode cX3_pairFits 79 = .ok (.iload 6, 2) := by decide +kernel
theorem dX3_pairFits_81 : decode cX3_pairFits 81 = .ok (.aload_n 0, 1) := by decide +kernel
theorem dX3_pairFits_82 : decode cX3_pairFits 82 = .ok (.getfield 19, 3) := by decide +kernel
theorem dX3_pairFits_85 : decode cX3_pairFits 85 = .ok (.bipush 15, 2) := by decide +kernel
theorem dX3_pairFits_87 : decode cX3_pairFits 87 = .ok (.invokevirtual 56, 3) := by decide +kernel
theorem dX3_pairFits_90 : decode cX3_pairFits 90 = .ok (.if_icmp .eq 5, 3) := by decide +kernel
theorem dX3_pairFits_93 : decode cX3_pairFits 93 = .ok (.iconst 0, 1) := by decide +kernel
theorem dX3_pairFits_94 : decode cX3_pairFits 94 = .ok (.ireturn, 1) := by decide +kernel
theorem dX3_pairFits_95 : decode cX3_pairFits 95 = .ok (.iinc 5 1, 3) := by decide +kernel
theorem dX3_pairFits_98 : decode cX3_pairFits 98 = .ok (.goto (-53), 3) := by decide +kernel
theorem dX3_pairFits_101 : decode cX3_pairFits 101 = .ok (.iconst 1, 1) := by decide +kernel
theorem dX3_pairFits_102 : decode cX3_pairFits 102 = .ok (.ireturn, 1) := by decide +kernel
theorem dX3_dearest_0 : decode cX3_dearest 0 = .ok (.iconst 0, 1) := by decide +kernel
theorem dX3_dearest_1 : decode cX3_dearest 1 = .ok (.istore_n 1, 1) := by decide +kernel
theorem dX3_dearest_2 : decode cX3_dearest 2 = .ok (.iconst 1, 1) := by decide +kernel
theorem dX3_dearest_3 : decode cX3_dearest 3 = .ok (.istore_n 2, 1) := by decide +kernel
theorem dX3_dearest_4 : decode cX3_dearest 4 = .ok (.iload_n 2, 1) := by decide +kernel
theorem dX3_dearest_5 : decode cX3_dearest 5 = .ok (.bipush 16, 2) := by decide +kernel
theorem dX3_dearest_7 : decode cX3_dearest 7 = .ok (.if_icmp .ge 30, 3) := by decide +kernel
theorem dX3_dearest_10 : decode cX3_dearest 10 = .ok (.aload_n 0, 1) := by decide +kernel
theorem dX3_dearest_11 : decode cX3_dearest 11 = .ok (.getfield 10, 3) := by decide +kernel
theorem dX3_dearest_14 : decode cX3_dearest 14 = .ok (.iload_n 2, 1) := by decide +kernel
theorem dX3_dearest_15 : decode cX3_dearest 15 = .ok (.invokevirtual 62, 3) := by decide +kernel
theorem dX3_dearest_18 : decode cX3_dearest 18 = .ok (.aload_n 0, 1) := by decide +kernel
theorem dX3_dearest_19 : decode cX3_dearest 19 = .ok (.getfield 10, 3) := by decide +kernel
theorem dX3_dearest_22 : decode cX3_dearest 22 = .ok (.iload_n 1, 1) := by decide +kernel
theorem dX3_dearest_23 : decode cX3_dearest 23 = .ok (.invokevirtual 62, 3) := by decide +kernel
theorem dX3_dearest_26 : decode cX3_dearest 26 = .ok (.if_icmp .le 5, 3) := by decide +kernel
theorem dX3_dearest_29 : decode cX3_dearest 29 = .ok (.iload_n 2, 1) := by decide +kernel
theorem dX3_dearest_30 : decode cX3_dearest 30 = .ok (.istore_n 1, 1) := by decide +kernel
theorem dX3_dearest_31 : decode cX3_dearest 31 = .ok (.iinc 2 1, 3) := by decide +kernel
theorem dX3_dearest_34 : decode cX3_dearest 34 = .ok (.goto (-30), 3) := by decide +kernel
theorem dX3_dearest_37 : decode cX3_dearest 37 = .ok (.iload_n 1, 1) := by decide +kernel
theorem dX3_dearest_38 : decode cX3_dearest 38 = .ok (.ireturn, 1) := by decide +kernel
theorem dX3_rents_0 : decode cX3_rents 0 = .ok (.iconst 0, 1) := by decide +kernel
theorem dX3_rents_1 : decode cX3_rents 1 = .ok (.istore_n 1, 1) := by decide +kernel
theorem dX3_rents_2 : decode cX3_rents 2 = .ok (.iconst 0, 1) := by decide +kernel
theorem dX3_rents_3 : decode cX3_rents 3 = .ok (.istore_n 2, 1) := by decide +kernel
theorem dX3_rents_4 : decode cX3_rents 4 = .ok (.iload_n 2, 1) := by decide +kernel
theorem dX3_rents_5 : decode cX3_rents 5 = .ok (.bipush 16, 2) := by decide +kernel
theorem dX3_rents_7 : decode cX3_rents 7 = .ok (.if_icmp .ge 20, 3) := by decide +kernel
theorem dX3_rents_10 : decode cX3_rents 10 = .ok (.iload_n 1, 1) := by decide +kernel
theorem dX3_rents_11 : decode cX3_rents 11 = .ok (.aload_n 0, 1) := by decide +kernel
theorem dX3_rents_12 : decode cX3_rents 12 = .ok (.getfield 10, 3) := by decide +kernel
theorem dX3_rents_15 : decode cX3_rents 15 = .ok (.iload_n 2, 1) := by decide +kernel
theorem dX3_rents_16 : decode cX3_rents 16 = .ok (.invokevirtual 62, 3) := by decide +kernel
theorem dX3_rents_19 : decode cX3_rents 19 = .ok (.iadd, 1) := by decide +kernel
theorem dX3_rents_20 : decode cX3_rents 20 = .ok (.istore_n 1, 1) := by decide +kernel
theorem dX3_rents_21 : decode cX3_rents 21 = .ok (.iinc 2 1, 3) := by decide +kernel
theorem dX3_rents_24 : decode cX3_rents 24 = .ok (.goto (-20), 3) := by decide +kernel
theorem dX3_rents_27 : decode cX3_rents 27 = .ok (.iload_n 1, 1) := by decide +kernel
theorem dX3_rents_28 : decode cX3_rents 28 = .ok (.ireturn, 1) := by decide +kernel
theorem dX3_frosts_0 : decode cX3_frosts 0 = .ok (.iload_n 1, 1) := by decide +kernel
theorem dX3_frosts_1 : decode cX3_frosts 1 = .ok (.iconst 1, 1) := by decide +kernel
theorem dX3_frosts_2 : decode cX3_frosts 2 = .ok (.bipush 20, 2) := by decide +kernel
theorem dX3_frosts_4 : decode cX3_frosts 4 = .ok (.invokestatic 44, 3) := by decide +kernel
theorem dX3_frosts_7 : decode cX3_frosts 7 = .ok (.ifCond .ne 10, 3) := by decide +kernel
theorem dX3_frosts_10 : decode cX3_frosts 10 = .ok (.aload_n 0, 1) := by decide +kernel
theorem dX3_frosts_11 : decode cX3_frosts 11 = .ok (.ldc 48, 2) := by decide +kernel
theorem dX3_frosts_13 : decode cX3_frosts 13 = .ok (.invokevirtual 49, 3) := by decide +kernel
theorem dX3_frosts_16 : decode cX3_frosts 16 = .ok (.ireturn, 1) := by decide +kernel
theorem dX3_frosts_17 : decode cX3_frosts 17 = .ok (.aload_n 0, 1) := by decide +kernel
theorem dX3_frosts_18 : decode cX3_frosts 18 = .ok (.getfield 10, 3) := by decide +kernel
theorem dX3_frosts_21 : decode cX3_frosts 21 = .ok (.getfield 117, 3) := by decide +kernel
theorem dX3_frosts_24 : decode cX3_frosts 24 = .ok (.iload_n 1, 1) := by decide +kernel
theorem dX3_frosts_25 : decode cX3_frosts 25 = .ok (.iadd, 1) := by decide +kernel
theorem dX3_frosts_26 : decode cX3_frosts 26 = .ok (.ldc 120, 2) := by decide +kernel
theorem dX3_frosts_28 : decode cX3_frosts 28 = .ok (.if_icmp .le 10, 3) := by decide +kernel
theorem dX3_frosts_31 : decode cX3_frosts 31 = .ok (.aload_n 0, 1) := by decide +kernel
theorem dX3_frosts_32 : decode cX3_frosts 32 = .ok (.ldc 121, 2) := by decide +kernel
theorem dX3_frosts_34 : decode cX3_frosts 34 = .ok (.invokevirtual 49, 3) := by decide +kernel
theorem dX3_frosts_37 : decode cX3_frosts 37 = .ok (.ireturn, 1) := by decide +kernel
theorem dX3_frosts_38 : decode cX3_frosts 38 = .ok (.iconst 0, 1) := by decide +kernel
theorem dX3_frosts_39 : decode cX3_frosts 39 = .ok (.istore_n 2, 1) := by decide +kernel
theorem dX3_frosts_40 : decode cX3_frosts 40 = .ok (.iconst 0, 1) := by decide +kernel
theorem dX3_frosts_41 : decode cX3_frosts 41 = .ok (.istore_n 3, 1) := by decide +kernel
theorem dX3_frosts_42 : decode cX3_frosts 42 = .ok (.iload_n 3, 1) := by decide +kernel
theorem dX3_frosts_43 : decode cX3_frosts 43 = .ok (.iload_n 1, 1) := by decide +kernel
theorem dX3_frosts_44 : decode cX3_frosts 44 = .ok (.if_icmp .ge 49, 3) := by decide +kernel
theorem dX3_frosts_47 : decode cX3_frosts 47 = .ok (.aload_n 0, 1) := by decide +kernel
theorem dX3_frosts_48 : decode cX3_frosts 48 = .ok (.getfield 10, 3) := by decide +kernel
theorem dX3_frosts_51 : decode cX3_frosts 51 = .ok (.aload_n 0, 1) := by decide +kernel
theorem dX3_frosts_52 : decode cX3_frosts 52 = .ok (.getfield 10, 3) := by decide +kernel
theorem dX3_frosts_55 : decode cX3_frosts 55 = .ok (.invokevirtual 205, 3) := by decide +kernel
theorem dX3_frosts_58 : decode cX3_frosts 58 = .ok (.iconst 2, 1) := by decide +kernel
theorem dX3_frosts_59 : decode cX3_frosts 59 = .ok (.irem, 1) := by decide +kernel
theorem dX3_frosts_60 : decode cX3_frosts 60 = .ok (.putfield 114, 3) := by decide +kernel
theorem dX3_frosts_63 : decode cX3_frosts 63 = .ok (.aload_n 0, 1) := by decide +kernel
theorem dX3_frosts_64 : decode cX3_frosts 64 = .ok (.getfield 10, 3) := by decide +kernel
theorem dX3_frosts_67 : decode cX3_frosts 67 = .ok (.iconst 1, 1) := by decide +kernel
theorem dX3_frosts_68 : decode cX3_frosts 68 = .ok (.invokevirtual 122, 3) := by decide +kernel
theorem dX3_frosts_71 : decode cX3_frosts 71 = .ok (.pop, 1) := by decide +kernel
theorem dX3_frosts_72 : decode cX3_frosts 72 = .ok (.aload_n 0, 1) := by decide +kernel
theorem dX3_frosts_73 : decode cX3_frosts 73 = .ok (.getfield 10, 3) := by decide +kernel
theorem dX3_frosts_76 : decode cX3_frosts 76 = .ok (.bipush 15, 2) := by decide +kernel
theorem dX3_frosts_78 : decode cX3_frosts 78 = .ok (.invokevirtual 59, 3) := by decide +kernel
theorem dX3_frosts_81 : decode cX3_frosts 81 = .ok (.ifCond .eq 6, 3) := by decide +kernel
theorem dX3_frosts_84 : decode cX3_frosts 84 = .ok (.iinc 2 1, 3) := by decide +kernel
theorem dX3_frosts_87 : decode cX3_frosts 87 = .ok (.iinc 3 1, 3) := by decide +kernel
theorem dX3_frosts_90 : decode cX3_frosts 90 = .ok (.goto (-48), 3) := by decide +kernel
theorem dX3_frosts_93 : decode cX3_frosts 93 = .ok (.iload_n 2, 1) := by decide +kernel
theorem dX3_frosts_94 : decode cX3_frosts 94 = .ok (.ireturn, 1) := by decide +kernel
theorem dX3_odds_0 : decode cX3_odds 0 = .ok (.iload_n 1, 1) := by decide +kernel
theorem dX3_odds_1 : decode cX3_odds 1 = .ok (.iconst 0, 1) := by decide +kernel
theorem dX3_odds_2 : decode cX3_odds 2 = .ok (.bipush 18, 2) := by decide +kernel
theorem dX3_odds_4 : decode cX3_odds 4 = .ok (.invokestatic 44, 3) := by decide +kernel
theorem dX3_odds_7 : decode cX3_odds 7 = .ok (.ifCond .eq 22, 3) := by decide +kernel
theorem dX3_odds_10 : decode cX3_odds 10 = .ok (.iload_n 2, 1) := by decide +kernel
theorem dX3_odds_11 : decode cX3_odds 11 = .ok (.iconst 0, 1) := by decide +kernel
theorem dX3_odds_12 : decode cX3_odds 12 = .ok (.bipush 10, 2) := by decide +kernel
theorem dX3_odds_14 : decode cX3_odds 14 = .ok (.invokestatic 44, 3) := by decide +kernel
theorem dX3_odds_17 : decode cX3_odds 17 = .ok (.ifCond .eq 12, 3) := by decide +kernel
theorem dX3_odds_20 : decode cX3_odds 20 = .ok (.iload_n 3, 1) := by decide +kernel
theorem dX3_odds_21 : decode cX3_odds 21 = .ok (.iconst 0, 1) := by decide +kernel
theorem dX3_odds_22 : decode cX3_odds 22 = .ok (.iconst 1, 1) := by decide +kernel
theorem dX3_odds_23 : decode cX3_odds 23 = .ok (.invokestatic 44, 3) := by decide +kernel
theorem dX3_odds_26 : decode cX3_odds 26 = .ok (.ifCond .ne 11, 3) := by decide +kernel
theorem dX3_odds_29 : decode cX3_odds 29 = .ok (.aload_n 0, 1) := by decide +kernel
theorem dX3_odds_30 : decode cX3_odds 30 = .ok (.ldc 48, 2) := by decide +kernel
theorem dX3_odds_32 : decode cX3_odds 32 = .ok (.invokevirtual 49, 3) := by decide +kernel
theorem dX3_odds_35 : decode cX3_odds 35 = .ok (.i2l, 1) := by decide +kernel
theorem dX3_odds_36 : decode cX3_odds 36 = .ok (.lreturn, 1) := by decide +kernel
theorem dX3_odds_37 : decode cX3_odds 37 = .ok (.iload_n 3, 1) := by decide +kernel
theorem dX3_odds_38 : decode cX3_odds 38 = .ok (.ifCond .ne 10, 3) := by decide +kernel
theorem dX3_odds_41 : decode cX3_odds 41 = .ok (.bipush 10, 2) := by decide +kernel
theorem dX3_odds_43 : decode cX3_odds 43 = .ok (.iload_n 2, 1) := by decide +kernel
theorem dX3_odds_44 : decode cX3_odds 44 = .ok (.isub, 1) := by decide +kernel
theorem dX3_odds_45 : decode cX3_odds 45 = .ok (.goto 5, 3) := by decide +kernel
theorem dX3_odds_48 : decode cX3_odds 48 = .ok (.bipush 10, 2) := by decide +kernel
theorem dX3_odds_50 : decode cX3_odds 50 = .ok (.istore 4, 2) := by decide +kernel
theorem dX3_odds_52 : decode cX3_odds 52 = .ok (.iload 4, 2) := by decide +kernel
theorem dX3_odds_54 : decode cX3_odds 54 = .ok (.bipush 10, 2) := by decide +kernel
theorem dX3_odds_56 : decode cX3_odds 56 = .ok (.iload_n 2, 1) := by decide +kernel
theorem dX3_odds_57 : decode cX3_odds 57 = .ok (.isub, 1) := by decide +kernel
theorem dX3_odds_58 : decode cX3_odds 58 = .ok (.invokestatic 208, 3) := by decide +kernel
theorem dX3_odds_61 : decode cX3_odds 61 = .ok (.idiv, 1) := by decide +kernel
theorem dX3_odds_62 : decode cX3_odds 62 = .ok (.istore 5, 2) := by decide +kernel
theorem dX3_odds_64 : decode cX3_odds 64 = .ok (.lconst 1, 1) := by decide +kernel
theorem dX3_odds_65 : decode cX3_odds 65 = .ok (.lstore 6, 2) := by decide +kernel
theorem dX3_odds_67 : decode cX3_odds 67 = .ok (.iconst 0, 1) := by decide +kernel
theorem dX3_odds_68 : decode cX3_odds 68 = .ok (.istore 8, 2) := by decide +kernel
theorem dX3_odds_70 : decode cX3_odds 70 = .ok (.iload 8, 2) := by decide +kernel
theorem dX3_odds_72 : decode cX3_odds 72 = .ok (.iload_n 1, 1) := by decide +kernel
theorem dX3_odds_73 : decode cX3_odds 73 = .ok (.if_icmp .ge 17, 3) := by decide +kernel
theorem dX3_odds_76 : decode cX3_odds 76 = .ok (.lload 6, 2) := by decide +kernel
theorem dX3_odds_78 : decode cX3_odds 78 = .ok (.iload 5, 2) := by decide +kernel
theorem dX3_odds_80 : decode cX3_odds 80 = .ok (.i2l, 1) := by decide +kernel
theorem dX3_odds_81 : decode cX3_odds 81 = .ok (.lmul, 1) := by decide +kernel
theorem dX3_odds_82 : decode cX3_odds 82 = .ok (.lstore 6, 2) := by decide +kernel
theorem dX3_odds_84 : decode cX3_odds 84 = .ok (.iinc 8 1, 3) := by decide +kernel
theorem dX3_odds_87 : decode cX3_odds 87 = .ok (.goto (-17), 3) := by decide +kernel
theorem dX3_odds_90 : decode cX3_odds 90 = .ok (.lload 6, 2) := by decide +kernel
theorem dX3_odds_92 : decode cX3_odds 92 = .ok (.lreturn, 1) := by decide +kernel
theorem dX3_commonWithTen_0 : decode cX3_commonWithTen 0 = .ok (.bipush 10, 2) := by decide +kernel
theorem dX3_commonWithTen_2 : decode cX3_commonWithTen 2 = .ok (.istore_n 1, 1) := by decide +kernel
theorem dX3_commonWithTen_3 : decode cX3_commonWithTen 3 = .ok (.iload_n 1, 1) := by decide +kernel
theorem dX3_commonWithTen_4 : decode cX3_commonWithTen 4 = .ok (.iconst 1, 1) := by decide +kernel
theorem dX3_commonWithTen_5 : decode cX3_commonWithTen 5 = .ok (.if_icmp .le 24, 3) := by decide +kernel
theorem dX3_commonWithTen_8 : decode cX3_commonWithTen 8 = .ok (.iload_n 0, 1) := by decide +kernel
theorem dX3_commonWithTen_9 : decode cX3_commonWithTen 9 = .ok (.iload_n 1, 1) := by decide +kernel
theorem dX3_commonWithTen_10 : decode cX3_commonWithTen 10 = .ok (.irem, 1) := by decide +kernel
theorem dX3_commonWithTen_11 : decode cX3_commonWithTen 11 = .ok (.ifCond .ne 12, 3) := by decide +kernel
theorem dX3_commonWithTen_14 : decode cX3_commonWithTen 14 = .ok (.bipush 10, 2) := by decide +kernel
theorem dX3_commonWithTen_16 : decode cX3_commonWithTen 16 = .ok (.iload_n 1, 1) := by decide +kernel
theorem dX3_commonWithTen_17 : decode cX3_commonWithTen 17 = .ok (.irem, 1) := by decide +kernel
theorem dX3_commonWithTen_18 : decode cX3_commonWithTen 18 = .ok (.ifCond .ne 5, 3) := by decide +kernel
theorem dX3_commonWithTen_21 : decode cX3_commonWithTen 21 = .ok (.iload_n 1, 1) := by decide +kernel
theorem dX3_commonWithTen_22 : decode cX3_commonWithTen 22 = .ok (.ireturn, 1) := by decide +kernel
theorem dX3_commonWithTen_23 : decode cX3_commonWithTen 23 = .ok (.iinc 1 (-1), 3) := by decide +kernel
theorem dX3_commonWithTen_26 : decode cX3_commonWithTen 26 = .ok (.goto (-23), 3) := by decide +kernel
theorem dX3_commonWithTen_29 : decode cX3_commonWithTen 29 = .ok (.iconst 1, 1) := by decide +kernel
theorem dX3_commonWithTen_30 : decode cX3_commonWithTen 30 = .ok (.ireturn, 1) := by decide +kernel
theorem dX3_seed_0 : decode cX3_seed 0 = .ok (.aload_n 0, 1) := by decide +kernel
theorem dX3_seed_1 : decode cX3_seed 1 = .ok (.getfield 10, 3) := by decide +kernel
theorem dX3_seed_4 : decode cX3_seed 4 = .ok (.getfield 211, 3) := by decide +kernel
theorem dX3_seed_7 : decode cX3_seed 7 = .ok (.istore_n 2, 1) := by decide +kernel
theorem dX3_seed_8 : decode cX3_seed 8 = .ok (.aload_n 0, 1) := by decide +kernel
theorem dX3_seed_9 : decode cX3_seed 9 = .ok (.getfield 10, 3) := by decide +kernel
theorem dX3_seed_12 : decode cX3_seed 12 = .ok (.iload_n 1, 1) := by decide +kernel
theorem dX3_seed_13 : decode cX3_seed 13 = .ok (.putfield 211, 3) := by decide +kernel
theorem dX3_seed_16 : decode cX3_seed 16 = .ok (.iload_n 2, 1) := by decide +kernel
theorem dX3_seed_17 : decode cX3_seed 17 = .ok (.ireturn, 1) := by decide +kernel
theorem dX3_feed_0 : decode cX3_feed 0 = .ok (.iload_n 2, 1) := by decide +kernel
theorem dX3_feed_1 : decode cX3_feed 1 = .ok (.iconst 1, 1) := by decide +kernel
theorem dX3_feed_2 : decode cX3_feed 2 = .ok (.iconst 4, 1) := by decide +kernel
theorem dX3_feed_3 : decode cX3_feed 3 = .ok (.invokestatic 44, 3) := by decide +kernel
theorem dX3_feed_6 : decode cX3_feed 6 = .ok (.ifCond .ne 10, 3) := by decide +kernel
theorem dX3_feed_9 : decode cX3_feed 9 = .ok (.aload_n 0, 1) := by decide +kernel
theorem dX3_feed_10 : decode cX3_feed 10 = .ok (.ldc 48, 2) := by decide +kernel
theorem dX3_feed_12 : decode cX3_feed 12 = .ok (.invokevirtual 49, 3) := by decide +kernel
theorem dX3_feed_15 : decode cX3_feed 15 = .ok (.ireturn, 1) := by decide +kernel
theorem dX3_feed_16 : decode cX3_feed 16 = .ok (.aload_n 0, 1) := by decide +kernel
theorem dX3_feed_17 : decode cX3_feed 17 = .ok (.getfield 25, 3) := by decide +kernel
theorem dX3_feed_20 : decode cX3_feed 20 = .ok (.getfield 214, 3) := by decide +kernel
theorem dX3_feed_23 : decode cX3_feed 23 = .ok (.iload_n 2, 1) := by decide +kernel
theorem dX3_feed_24 : decode cX3_feed 24 = .ok (.iadd, 1) := by decide +kernel
theorem dX3_feed_25 : decode cX3_feed 25 = .ok (.bipush 120, 2) := by decide +kernel
theorem dX3_feed_27 : decode cX3_feed 27 = .ok (.if_icmp .le 10, 3) := by decide +kernel
theorem dX3_feed_30 : decode cX3_feed 30 = .ok (.aload_n 0, 1) := by decide +kernel
theorem dX3_feed_31 : decode cX3_feed 31 = .ok (.ldc 84, 2) := by decide +kernel
theorem dX3_feed_33 : decode cX3_feed 33 = .ok (.invokevirtual 49, 3) := by decide +kernel
theorem dX3_feed_36 : decode cX3_feed 36 = .ok (.ireturn, 1) := by decide +kernel
theorem dX3_feed_37 : decode cX3_feed 37 = .ok (.iload_n 2, 1) := by decide +kernel
theorem dX3_feed_38 : decode cX3_feed 38 = .ok (.iconst 1, 1) := by decide +kernel
theorem dX3_feed_39 : decode cX3_feed 39 = .ok (.isub, 1) := by decide +kernel
theorem dX3_feed_40 : decode cX3_feed 40 = .ok (.istore_n 3, 1) := by decide +kernel
theorem dX3_feed_41 : decode cX3_feed 41 = .ok (.iload_n 3, 1) := by decide +kernel
theorem dX3_feed_42 : decode cX3_feed 42 = .ok (.ifCond .lt 26, 3) := by decide +kernel
theorem dX3_feed_45 : decode cX3_feed 45 = .ok (.aload_n 0, 1) := by decide +kernel
theorem dX3_feed_46 : decode cX3_feed 46 = .ok (.getfield 25, 3) := by decide +kernel
theorem dX3_feed_49 : decode cX3_feed 49 = .ok (.iload_n 1, 1) := by decide +kernel
theorem dX3_feed_50 : decode cX3_feed 50 = .ok (.bipush 8, 2) := by decide +kernel
theorem dX3_feed_52 : decode cX3_feed 52 = .ok (.iload_n 3, 1) := by decide +kernel
theorem dX3_feed_53 : decode cX3_feed 53 = .ok (.imul, 1) := by decide +kernel
theorem dX3_feed_54 : decode cX3_feed 54 = .ok (.iushr, 1) := by decide +kernel
theorem dX3_feed_55 : decode cX3_feed 55 = .ok (.sipush 255, 3) := by decide +kernel
theorem dX3_feed_58 : decode cX3_feed 58 = .ok (.iand, 1) := by decide +kernel
theorem dX3_feed_59 : decode cX3_feed 59 = .ok (.invokevirtual 215, 3) := by decide +kernel
theorem dX3_feed_62 : decode cX3_feed 62 = .ok (.iinc 3 (-1), 3) := by decide +kernel
theorem dX3_feed_65 : decode cX3_feed 65 = .ok (.goto (-24), 3) := by decide +kernel
theorem dX3_feed_68 : decode cX3_feed 68 = .ok (.aload_n 0, 1) := by decide +kernel
theorem dX3_feed_69 : decode cX3_feed 69 = .ok (.getfield 25, 3) := by decide +kernel
theorem dX3_feed_72 : decode cX3_feed 72 = .ok (.getfield 214, 3) := by decide +kernel
theorem dX3_feed_75 : decode cX3_feed 75 = .ok (.ireturn, 1) := by decide +kernel
theorem dX3_wipe_0 : decode cX3_wipe 0 = .ok (.aload_n 0, 1) := by decide +kernel
theorem dX3_wipe_1 : decode cX3_wipe 1 = .ok (.getfield 25, 3) := by decide +kernel
theorem dX3_wipe_4 : decode cX3_wipe 4 = .ok (.getfield 214, 3) := by decide +kernel
theorem dX3_wipe_7 : decode cX3_wipe 7 = .ok (.istore_n 1, 1) := by decide +kernel
theorem dX3_wipe_8 : decode cX3_wipe 8 = .ok (.aload_n 0, 1) := by decide +kernel
theorem dX3_wipe_9 : decode cX3_wipe 9 = .ok (.getfield 25, 3) := by decide +kernel
theorem dX3_wipe_12 : decode cX3_wipe 12 = .ok (.invokevirtual 218, 3) := by decide +kernel
theorem dX3_wipe_15 : decode cX3_wipe 15 = .ok (.iload_n 1, 1) := by decide +kernel
theorem dX3_wipe_16 : decode cX3_wipe 16 = .ok (.ireturn, 1) := by decide +kernel
theorem dX3_text_0 : decode cX3_text 0 = .ok (.aload_n 0, 1) := by decide +kernel
theorem dX3_text_1 : decode cX3_text 1 = .ok (.getfield 19, 3) := by decide +kernel
theorem dX3_text_4 : decode cX3_text 4 = .ok (.aload_n 0, 1) := by decide +kernel
theorem dX3_text_5 : decode cX3_text 5 = .ok (.getfield 10, 3) := by decide +kernel
theorem dX3_text_8 : decode cX3_text 8 = .ok (.invokevirtual 143, 3) := by decide +kernel
theorem dX3_text_11 : decode cX3_text 11 = .ok (.aload_n 0, 1) := by decide +kernel
theorem dX3_text_12 : decode cX3_text 12 = .ok (.getfield 25, 3) := by decide +kernel
theorem dX3_text_15 : decode cX3_text 15 = .ok (.aload_n 0, 1) := by decide +kernel
theorem dX3_text_16 : decode cX3_text 16 = .ok (.getfield 19, 3) := by decide +kernel
theorem dX3_text_19 : decode cX3_text 19 = .ok (.invokevirtual 221, 3) := by decide +kernel
theorem dX3_text_22 : decode cX3_text 22 = .ok (.istore_n 1, 1) := by decide +kernel
theorem dX3_text_23 : decode cX3_text 23 = .ok (.aload_n 0, 1) := by decide +kernel
theorem dX3_text_24 : decode cX3_text 24 = .ok (.getfield 25, 3) := by decide +kernel
theorem dX3_text_27 : decode cX3_text 27 = .ok (.invokevirtual 218, 3) := by decide +kernel
theorem dX3_text_30 : decode cX3_text 30 = .ok (.iload_n 1, 1) := by decide +kernel
theorem dX3_text_31 : decode cX3_text 31 = .ok (.ifCond .lt 14, 3) := by decide +kernel
theorem dX3_text_34 : decode cX3_text 34 = .ok (.aload_n 0, 1) := by decide +kernel
theorem dX3_text_35 : decode cX3_text 35 = .ok (.getfield 10, 3) := by decide +kernel
theorem dX3_text_38 : decode cX3_text 38 = .ok (.aload_n 0, 1) := by decide +kernel
theorem dX3_text_39 : decode cX3_text 39 = .ok (.getfield 19, 3) := by decide +kernel
theorem dX3_text_42 : decode cX3_text 42 = .ok (.invokevirtual 143, 3) := by decide +kernel
theorem dX3_text_45 : decode cX3_text 45 = .ok (.iload_n 1, 1) := by decide +kernel
theorem dX3_text_46 : decode cX3_text 46 = .ok (.ireturn, 1) := by decide +kernel
theorem dX3_hold_0 : decode cX3_hold 0 = .ok (.iload_n 1, 1) := by decide +kernel
theorem dX3_hold_1 : decode cX3_hold 1 = .ok (.iconst 0, 1) := by decide +kernel
theorem dX3_hold_2 : decode cX3_hold 2 = .ok (.bipush 9, 2) := by decide +kernel
theorem dX3_hold_4 : decode cX3_hold 4 = .ok (.invokestatic 44, 3) := by decide +kernel
theorem dX3_hold_7 : decode cX3_hold 7 = .ok (.ifCond .eq 19, 3) := by decide +kernel
theorem dX3_hold_10 : decode cX3_hold 10 = .ok (.iload_n 2, 1) := by decide +kernel
theorem dX3_hold_11 : decode cX3_hold 11 = .ok (.iconst (-1), 1) := by decide +kernel
theorem dX3_hold_12 : decode cX3_hold 12 = .ok (.if_icmp .eq 21, 3) := by decide +kernel
theorem dX3_hold_15 : decode cX3_hold 15 = .ok (.aload_n 0, 1) := by decide +kernel
theorem dX3_hold_16 : decode cX3_hold 16 = .ok (.getfield 10, 3) := by decide +kernel
theorem dX3_hold_19 : decode cX3_hold 19 = .ok (.iload_n 2, 1) := by decide +kernel
theorem dX3_hold_20 : decode cX3_hold 20 = .ok (.invokevirtual 89, 3) := by decide +kernel
theorem dX3_hold_23 : decode cX3_hold 23 = .ok (.ifCond .ne 10, 3) := by decide +kernel
theorem dX3_hold_26 : decode cX3_hold 26 = .ok (.aload_n 0, 1) := by decide +kernel
theorem dX3_hold_27 : decode cX3_hold 27 = .ok (.ldc 48, 2) := by decide +kernel
theorem dX3_hold_29 : decode cX3_hold 29 = .ok (.invokevirtual 49, 3) := by decide +kernel
theorem dX3_hold_32 : decode cX3_hold 32 = .ok (.ireturn, 1) := by decide +kernel
theorem dX3_hold_33 : decode cX3_hold 33 = .ok (.aload_n 0, 1) := by decide +kernel
theorem dX3_hold_34 : decode cX3_hold 34 = .ok (.getfield 10, 3) := by decide +kernel
theorem dX3_hold_37 : decode cX3_hold 37 = .ok (.iload_n 1, 1) := by decide +kernel
theorem dX3_hold_38 : decode cX3_hold 38 = .ok (.iload_n 2, 1) := by decide +kernel
theorem dX3_hold_39 : decode cX3_hold 39 = .ok (.invokevirtual 225, 3) := by decide +kernel
theorem dX3_hold_42 : decode cX3_hold 42 = .ok (.iconst 1, 1) := by decide +kernel
theorem dX3_hold_43 : decode cX3_hold 43 = .ok (.ireturn, 1) := by decide +kernel
theorem dX3_as_0 : decode cX3_as 0 = .ok (.iload_n 1, 1) := by decide +kernel
theorem dX3_as_1 : decode cX3_as 1 = .ok (.iconst 0, 1) := by decide +kernel
theorem dX3_as_2 : decode cX3_as 2 = .ok (.bipush 9, 2) := by decide +kernel
theorem dX3_as_4 : decode cX3_as 4 = .ok (.invokestatic 44, 3) := by decide +kernel
theorem dX3_as_7 : decode cX3_as 7 = .ok (.ifCond .eq 10, 3) := by decide +kernel
theorem dX3_as_10 : decode cX3_as 10 = .ok (.iload_n 2, 1) := by decide +kernel
theorem dX3_as_11 : decode cX3_as 11 = .ok (.invokestatic 77, 3) := by decide +kernel
theorem dX3_as_14 : decode cX3_as 14 = .ok (.ifCond .ne 10, 3) := by decide +kernel
theorem dX3_as_17 : decode cX3_as 17 = .ok (.aload_n 0, 1) := by decide +kernel
theorem dX3_as_18 : decode cX3_as 18 = .ok (.ldc 48, 2) := by decide +kernel
theorem dX3_as_20 : decode cX3_as 20 = .ok (.invokevirtual 49, 3) := by decide +kernel
theorem dX3_as_23 : decode cX3_as 23 = .ok (.ireturn, 1) := by decide +kernel
theorem dX3_as_24 : decode cX3_as 24 = .ok (.aload_n 0, 1) := by decide +kernel
theorem dX3_as_25 : decode cX3_as 25 = .ok (.getfield 10, 3) := by decide +kernel
theorem dX3_as_28 : decode cX3_as 28 = .ok (.iload_n 1, 1) := by decide +kernel
theorem dX3_as_29 : decode cX3_as 29 = .ok (.invokevirtual 229, 3) := by decide +kernel
theorem dX3_as_32 : decode cX3_as 32 = .ok (.istore_n 3, 1) := by decide +kernel
theorem dX3_as_33 : decode cX3_as 33 = .ok (.iload_n 3, 1) := by decide +kernel
theorem dX3_as_34 : decode cX3_as 34 = .ok (.ifCond .ge 10, 3) := by decide +kernel
theorem dX3_as_37 : decode cX3_as 37 = .ok (.aload_n 0, 1) := by decide +kernel
theorem dX3_as_38 : decode cX3_as 38 = .ok (.ldc 198, 2) := by decide +kernel
theorem dX3_as_40 : decode cX3_as 40 = .ok (.invokevirtual 49, 3) := by decide +kernel
theorem dX3_as_43 : decode cX3_as 43 = .ok (.ireturn, 1) := by decide +kernel
theorem dX3_as_44 : decode cX3_as 44 = .ok (.aload_n 0, 1) := by decide +kernel
theorem dX3_as_45 : decode cX3_as 45 = .ok (.getfield 10, 3) := by decide +kernel
theorem dX3_as_48 : decode cX3_as 48 = .ok (.iload_n 3, 1) := by decide +kernel
theorem dX3_as_49 : decode cX3_as 49 = .ok (.iconst 0, 1) := by decide +kernel
theorem dX3_as_50 : decode cX3_as 50 = .ok (.invokevirtual 98, 3) := by decide +kernel
theorem dX3_as_53 : decode cX3_as 53 = .ok (.iload_n 2, 1) := by decide +kernel
theorem dX3_as_54 : decode cX3_as 54 = .ok (.invokestatic 232, 3) := by decide +kernel
theorem dX3_as_57 : decode cX3_as 57 = .ok (.ifCond .eq 7, 3) := by decide +kernel
theorem dX3_as_60 : decode cX3_as 60 = .ok (.iload_n 3, 1) := by decide +kernel
theorem dX3_as_61 : decode cX3_as 61 = .ok (.goto 9, 3) := by decide +kernel
theorem dX3_as_64 : decode cX3_as 64 = .ok (.aload_n 0, 1) := by decide +kernel
theorem dX3_as_65 : decode cX3_as 65 = .ok (.ldc 235, 2) := by decide +kernel
theorem dX3_as_67 : decode cX3_as 67 = .ok (.invokevirtual 49, 3) := by decide +kernel
theorem dX3_as_70 : decode cX3_as 70 = .ok (.ireturn, 1) := by decide +kernel
theorem dX3_sheet_0 : decode cX3_sheet 0 = .ok (.aload_n 0, 1) := by decide +kernel
theorem dX3_sheet_1 : decode cX3_sheet 1 = .ok (.iload_n 1, 1) := by decide +kernel
theorem dX3_sheet_2 : decode cX3_sheet 2 = .ok (.invokevirtual 191, 3) := by decide +kernel
theorem dX3_sheet_5 : decode cX3_sheet 5 = .ok (.astore 4, 2) := by decide +kernel
theorem dX3_sheet_7 : decode cX3_sheet 7 = .ok (.aload 4, 2) := by decide +kernel
theorem dX3_sheet_9 : decode cX3_sheet 9 = .ok (.ifnull 25, 3) := by decide +kernel
theorem dX3_sheet_12 : decode cX3_sheet 12 = .ok (.iload_n 2, 1) := by decide +kernel
theorem dX3_sheet_13 : decode cX3_sheet 13 = .ok (.ifCond .eq 28, 3) := by decide +kernel
theorem dX3_sheet_16 : decode cX3_sheet 16 = .ok (.iload_n 2, 1) := by decide +kernel
theorem dX3_sheet_17 : decode cX3_sheet 17 = .ok (.bipush 8, 2) := by decide +kernel
theorem dX3_sheet_19 : decode cX3_sheet 19 = .ok (.if_icmp .eq 22, 3) := by decide +kernel
theorem dX3_sheet_22 : decode cX3_sheet 22 = .ok (.iload_n 2, 1) := by decide +kernel
theorem dX3_sheet_23 : decode cX3_sheet 23 = .ok (.bipush 16, 2) := by decide +kernel
theorem dX3_sheet_25 : decode cX3_sheet 25 = .ok (.if_icmp .eq 16, 3) := by decide +kernel
theorem dX3_sheet_28 : decode cX3_sheet 28 = .ok (.iload_n 2, 1) := by decide +kernel
theorem dX3_sheet_29 : decode cX3_sheet 29 = .ok (.bipush 32, 2) := by decide +kernel
theorem dX3_sheet_31 : decode cX3_sheet 31 = .ok (.if_icmp .eq 10, 3) := by decide +kernel
theorem dX3_sheet_34 : decode cX3_sheet 34 = .ok (.aload_n 0, 1) := by decide +kernel
theorem dX3_sheet_35 : decode cX3_sheet 35 = .ok (.ldc 48, 2) := by decide +kernel
theorem dX3_sheet_37 : decode cX3_sheet 37 = .ok (.invokevirtual 49, 3) := by decide +kernel
theorem dX3_sheet_40 : decode cX3_sheet 40 = .ok (.ireturn, 1) := by decide +kernel
theorem dX3_sheet_41 : decode cX3_sheet 41 = .ok (.iload_n 3, 1) := by decide +kernel
theorem dX3_sheet_42 : decode cX3_sheet 42 = .ok (.ifCond .ge 10, 3) := by decide +kernel
theorem dX3_sheet_45 : decode cX3_sheet 45 = .ok (.aload_n 0, 1) := by decide +kernel
theorem dX3_sheet_46 : decode cX3_sheet 46 = .ok (.ldc 236, 2) := by decide +kernel
theorem dX3_sheet_48 : decode cX3_sheet 48 = .ok (.invokevirtual 49, 3) := by decide +kernel
theorem dX3_sheet_51 : decode cX3_sheet 51 = .ok (.ireturn, 1) := by decide +kernel
theorem dX3_sheet_52 : decode cX3_sheet 52 = .ok (.iload_n 3, 1) := by decide +kernel
theorem dX3_sheet_53 : decode cX3_sheet 53 = .ok (.bipush 40, 2) := by decide +kernel
theorem dX3_sheet_55 : decode cX3_sheet 55 = .ok (.if_icmp .le 10, 3) := by decide +kernel
theorem dX3_sheet_58 : decode cX3_sheet 58 = .ok (.aload_n 0, 1) := by decide +kernel
theorem dX3_sheet_59 : decode cX3_sheet 59 = .ok (.ldc 48, 2) := by decide +kernel
theorem dX3_sheet_61 : decode cX3_sheet 61 = .ok (.invokevirtual 49, 3) := by decide +kernel
theorem dX3_sheet_64 : decode cX3_sheet 64 = .ok (.ireturn, 1) := by decide +kernel
theorem dX3_sheet_65 : decode cX3_sheet 65 = .ok (.aload 4, 2) := by decide +kernel
theorem dX3_sheet_67 : decode cX3_sheet 67 = .ok (.iload_n 2, 1) := by decide +kernel
theorem dX3_sheet_68 : decode cX3_sheet 68 = .ok (.iload_n 2, 1) := by decide +kernel
theorem dX3_sheet_69 : decode cX3_sheet 69 = .ok (.ifCond .ne 7, 3) := by decide +kernel
theorem dX3_sheet_72 : decode cX3_sheet 72 = .ok (.iconst 0, 1) := by decide +kernel
theorem dX3_sheet_73 : decode cX3_sheet 73 = .ok (.goto 4, 3) := by decide +kernel
theorem dX3_sheet_76 : decode cX3_sheet 76 = .ok (.iload_n 3, 1) := by decide +kernel
theorem dX3_sheet_77 : decode cX3_sheet 77 = .ok (.invokevirtual 237, 3) := by decide +kernel
theorem dX3_sheet_80 : decode cX3_sheet 80 = .ok (.aload 4, 2) := by decide +kernel
theorem dX3_sheet_82 : decode cX3_sheet 82 = .ok (.getfield 199, 3) := by decide +kernel
theorem dX3_sheet_85 : decode cX3_sheet 85 = .ok (.ireturn, 1) := by decide +kernel
theorem dX3_write_0 : decode cX3_write 0 = .ok (.aload_n 0, 1) := by decide +kernel
theorem dX3_write_1 : decode cX3_write 1 = .ok (.iload_n 1, 1) := by decide +kernel
theorem dX3_write_2 : decode cX3_write 2 = .ok (.invokevirtual 191, 3) := by decide +kernel
theorem dX3_write_5 : decode cX3_write 5 = .ok (.astore 4, 2) := by decide +kernel
theorem dX3_write_7 : decode cX3_write 7 = .ok (.aload 4, 2) := by decide +kernel
theorem dX3_write_9 : decode cX3_write 9 = .ok (.ifnonnull 10, 3) := by decide +kernel
theorem dX3_write_12 : decode cX3_write 12 = .ok (.aload_n 0, 1) := by decide +kernel
theorem dX3_write_13 : decode cX3_write 13 = .ok (.ldc 48, 2) := by decide +kernel
theorem dX3_write_15 : decode cX3_write 15 = .ok (.invokevirtual 49, 3) := by decide +kernel
theorem dX3_write_18 : decode cX3_write 18 = .ok (.ireturn, 1) := by decide +kernel
theorem dX3_write_19 : decode cX3_write 19 = .ok (.aload 4, 2) := by decide +kernel
theorem dX3_write_21 : decode cX3_write 21 = .ok (.invokevirtual 195, 3) := by decide +kernel
theorem dX3_write_24 : decode cX3_write 24 = .ok (.ifCond .eq 10, 3) := by decide +kernel
theorem dX3_write_27 : decode cX3_write 27 = .ok (.aload_n 0, 1) := by decide +kernel
theorem dX3_write_28 : decode cX3_write 28 = .ok (.ldc 198, 2) := by decide +kernel
theorem dX3_write_30 : decode cX3_write 30 = .ok (.invokevirtual 49, 3) := by decide +kernel
theorem dX3_write_33 : decode cX3_write 33 = .ok (.ireturn, 1) := by decide +kernel
theorem dX3_write_34 : decode cX3_write 34 = .ok (.iload_n 2, 1) := by decide +kernel
theorem dX3_write_35 : decode cX3_write 35 = .ok (.iconst 0, 1) := by decide +kernel
theorem dX3_write_36 : decode cX3_write 36 = .ok (.aload 4, 2) := by decide +kernel
theorem dX3_write_38 : decode cX3_write 38 = .ok (.getfield 199, 3) := by decide +kernel
theorem dX3_write_41 : decode cX3_write 41 = .ok (.iconst 1, 1) := by decide +kernel
theorem dX3_write_42 : decode cX3_write 42 = .ok (.isub, 1) := by decide +kernel
theorem dX3_write_43 : decode cX3_write 43 = .ok (.invokestatic 44, 3) := by decide +kernel
theorem dX3_write_46 : decode cX3_write 46 = .ok (.ifCond .ne 10, 3) := by decide +kernel
theorem dX3_write_49 : decode cX3_write 49 = .ok (.aload_n 0, 1) := by decide +kernel
theorem dX3_write_50 : decode cX3_write 50 = .ok (.ldc 48, 2) := by decide +kernel
theorem dX3_write_52 : decode cX3_write 52 = .ok (.invokevirtual 49, 3) := by decide +kernel
theorem dX3_write_55 : decode cX3_write 55 = .ok (.ireturn, 1) := by decide +kernel
theorem dX3_write_56 : decode cX3_write 56 = .ok (.aload 4, 2) := by decide +kernel
theorem dX3_write_58 : decode cX3_write 58 = .ok (.iload_n 2, 1) := by decide +kernel
theorem dX3_write_59 : decode cX3_write 59 = .ok (.iload_n 3, 1) := by decide +kernel
theorem dX3_write_60 : decode cX3_write 60 = .ok (.invokevirtual 240, 3) := by decide +kernel
theorem dX3_write_63 : decode cX3_write 63 = .ok (.iconst 1, 1) := by decide +kernel
theorem dX3_write_64 : decode cX3_write 64 = .ok (.ireturn, 1) := by decide +kernel
theorem dX3_copy_0 : decode cX3_copy 0 = .ok (.aload_n 0, 1) := by decide +kernel
theorem dX3_copy_1 : decode cX3_copy 1 = .ok (.iload_n 1, 1) := by decide +kernel
theorem dX3_copy_2 : decode cX3_copy 2 = .ok (.invokevirtual 191, 3) := by decide +kernel
theorem dX3_copy_5 : decode cX3_copy 5 = .ok (.astore 6, 2) := by decide +kernel
theorem dX3_copy_7 : decode cX3_copy 7 = .ok (.aload_n 0, 1) := by decide +kernel
theorem dX3_copy_8 : decode cX3_copy 8 = .ok (.iload_n 3, 1) := by decide +kernel
theorem dX3_copy_9 : decode cX3_copy 9 = .ok (.invokevirtual 191, 3) := by decide +kernel
theorem dX3_copy_12 : decode cX3_copy 12 = .ok (.astore 7, 2) := by decide +kernel
theorem dX3_copy_14 : decode cX3_copy 14 = .ok (.aload 6, 2) := by decide +kernel
theorem dX3_copy_16 : decode cX3_copy 16 = .ok (.ifnull 8, 3) := by decide +kernel
theorem dX3_copy_19 : decode cX3_copy 19 = .ok (.aload 7, 2) := by decide +kernel
theorem dX3_copy_21 : decode cX3_copy 21 = .ok (.ifnonnull 10, 3) := by decide +kernel
theorem dX3_copy_24 : decode cX3_copy 24 = .ok (.aload_n 0, 1) := by decide +kernel
theorem dX3_copy_25 : decode cX3_copy 25 = .ok (.ldc 48, 2) := by decide +kernel
theorem dX3_copy_27 : decode cX3_copy 27 = .ok (.invokevirtual 49, 3) := by decide +kernel
theorem dX3_copy_30 : decode cX3_copy 30 = .ok (.ireturn, 1) := by decide +kernel
theorem dX3_copy_31 : decode cX3_copy 31 = .ok (.aload 6, 2) := by decide +kernel
theorem dX3_copy_33 : decode cX3_copy 33 = .ok (.invokevirtual 195, 3) := by decide +kernel
theorem dX3_copy_36 : decode cX3_copy 36 = .ok (.ifCond .ne 11, 3) := by decide +kernel
theorem dX3_copy_39 : decode cX3_copy 39 = .ok (.aload 7, 2) := by decide +kernel
theorem dX3_copy_41 : decode cX3_copy 41 = .ok (.invokevirtual 195, 3) := by decide +kernel
theorem dX3_copy_44 : decode cX3_copy 44 = .ok (.ifCond .eq 10, 3) := by decide +kernel
theorem dX3_copy_47 : decode cX3_copy 47 = .ok (.aload_n 0, 1) := by decide +kernel
theorem dX3_copy_48 : decode cX3_copy 48 = .ok (.ldc 198, 2) := by decide +kernel
theorem dX3_copy_50 : decode cX3_copy 50 = .ok (.invokevirtual 49, 3) := by decide +kernel
theorem dX3_copy_53 : decode cX3_copy 53 = .ok (.ireturn, 1) := by decide +kernel
theorem dX3_copy_54 : decode cX3_copy 54 = .ok (.aload 6, 2) := by decide +kernel
theorem dX3_copy_56 : decode cX3_copy 56 = .ok (.getfield 243, 3) := by decide +kernel
theorem dX3_copy_59 : decode cX3_copy 59 = .ok (.aload 7, 2) := by decide +kernel
theorem dX3_copy_61 : decode cX3_copy 61 = .ok (.getfield 243, 3) := by decide +kernel
theorem dX3_copy_64 : decode cX3_copy 64 = .ok (.if_icmp .eq 10, 3) := by decide +kernel
theorem dX3_copy_67 : decode cX3_copy 67 = .ok (.aload_n 0, 1) := by decide +kernel
theorem dX3_copy_68 : decode cX3_copy 68 = .ok (.ldc 235, 2) := by decide +kernel
theorem dX3_copy_70 : decode cX3_copy 70 = .ok (.invokevirtual 49, 3) := by decide +kernel
theorem dX3_copy_73 : decode cX3_copy 73 = .ok (.ireturn, 1) := by decide +kernel
theorem dX3_copy_74 : decode cX3_copy 74 = .ok (.aload 6, 2) := by decide +kernel
theorem dX3_copy_76 : decode cX3_copy 76 = .ok (.iload_n 2, 1) := by decide +kernel
theorem dX3_copy_77 : decode cX3_copy 77 = .ok (.iload 5, 2) := by decide +kernel
theorem dX3_copy_79 : decode cX3_copy 79 = .ok (.invokevirtual 246, 3) := by decide +kernel
theorem dX3_copy_82 : decode cX3_copy 82 = .ok (.ifCond .eq 15, 3) := by decide +kernel
theorem dX3_copy_85 : decode cX3_copy 85 = .ok (.aload 7, 2) := by decide +kernel
theorem dX3_copy_87 : decode cX3_copy 87 = .ok (.iload 4, 2) := by decide +kernel
theorem dX3_copy_89 : decode cX3_copy 89 = .ok (.iload 5, 2) := by decide +kernel
theorem dX3_copy_91 : decode cX3_copy 91 = .ok (.invokevirtual 246, 3) := by decide +kernel
theorem dX3_copy_94 : decode cX3_copy 94 = .ok (.ifCond .ne 10, 3) := by decide +kernel
theorem dX3_copy_97 : decode cX3_copy 97 = .ok (.aload_n 0, 1) := by decide +kernel
theorem dX3_copy_98 : decode cX3_copy 98 = .ok (.ldc 48, 2) := by decide +kernel
theorem dX3_copy_100 : decode cX3_copy 100 = .ok (.invokevirtual 49, 3) := by decide +kernel
theorem dX3_copy_103 : decode cX3_copy 103 = .ok (.ireturn, 1) := by decide +kernel
theorem dX3_copy_104 : decode cX3_copy 104 = .ok (.aload 6, 2) := by decide +kernel
theorem dX3_copy_106 : decode cX3_copy 106 = .ok (.getfield 249, 3) := by decide +kernel
theorem dX3_copy_109 : decode cX3_copy 109 = .ok (.iload_n 2, 1) := by decide +kernel
theorem dX3_copy_110 : decode cX3_copy 110 = .ok (.aload 7, 2) := by decide +kernel
theorem dX3_copy_112 : decode cX3_copy 112 = .ok (.getfield 249, 3) := by decide +kernel
theorem dX3_copy_115 : decode cX3_copy 115 = .ok (.iload 4, 2) := by decide +kernel
theorem dX3_copy_117 : decode cX3_copy 117 = .ok (.iload 5, 2) := by decide +kernel
theorem dX3_copy_119 : decode cX3_copy 119 = .ok (.invokestatic 252, 3) := by decide +kernel
theorem dX3_copy_122 : decode cX3_copy 122 = .ok (.iload 5, 2) := by decide +kernel
theorem dX3_copy_124 : decode cX3_copy 124 = .ok (.ireturn, 1) := by decide +kernel
theorem dX3_load_0 : decode cX3_load 0 = .ok (.aload_n 0, 1) := by decide +kernel
theorem dX3_load_1 : decode cX3_load 1 = .ok (.iload_n 1, 1) := by decide +kernel
theorem dX3_load_2 : decode cX3_load 2 = .ok (.invokevirtual 191, 3) := by decide +kernel
theorem dX3_load_5 : decode cX3_load 5 = .ok (.astore_n 2, 1) := by decide +kernel
theorem dX3_load_6 : decode cX3_load 6 = .ok (.aload_n 2, 1) := by decide +kernel
theorem dX3_load_7 : decode cX3_load 7 = .ok (.ifnonnull 10, 3) := by decide +kernel
theorem dX3_load_10 : decode cX3_load 10 = .ok (.aload_n 0, 1) := by decide +kernel
theorem dX3_load_11 : decode cX3_load 11 = .ok (.ldc 48, 2) := by decide +kernel
theorem dX3_load_13 : decode cX3_load 13 = .ok (.invokevirtual 49, 3) := by decide +kernel
theorem dX3_load_16 : decode cX3_load 16 = .ok (.ireturn, 1) := by decide +kernel
theorem dX3_load_17 : decode cX3_load 17 = .ok (.aload_n 2, 1) := by decide +kernel
theorem dX3_load_18 : decode cX3_load 18 = .ok (.invokevirtual 195, 3) := by decide +kernel
theorem dX3_load_21 : decode cX3_load 21 = .ok (.ifCond .eq 10, 3) := by decide +kernel
theorem dX3_load_24 : decode cX3_load 24 = .ok (.aload_n 0, 1) := by decide +kernel
theorem dX3_load_25 : decode cX3_load 25 = .ok (.ldc 198, 2) := by decide +kernel
theorem dX3_load_27 : decode cX3_load 27 = .ok (.invokevirtual 49, 3) := by decide +kernel
theorem dX3_load_30 : decode cX3_load 30 = .ok (.ireturn, 1) := by decide +kernel
theorem dX3_load_31 : decode cX3_load 31 = .ok (.iconst 0, 1) := by decide +kernel
theorem dX3_load_32 : decode cX3_load 32 = .ok (.istore_n 3, 1) := by decide +kernel
theorem dX3_load_33 : decode cX3_load 33 = .ok (.iconst 0, 1) := by decide +kernel
theorem dX3_load_34 : decode cX3_load 34 = .ok (.istore 4, 2) := by decide +kernel
theorem dX3_load_36 : decode cX3_load 36 = .ok (.iload 4, 2) := by decide +kernel
theorem dX3_load_38 : decode cX3_load 38 = .ok (.aload_n 2, 1) := by decide +kernel
theorem dX3_load_39 : decode cX3_load 39 = .ok (.getfield 199, 3) := by decide +kernel
theorem dX3_load_42 : decode cX3_load 42 = .ok (.if_icmp .ge 49, 3) := by decide +kernel
theorem dX3_load_45 : decode cX3_load 45 = .ok (.iload 4, 2) := by decide +kernel
theorem dX3_load_47 : decode cX3_load 47 = .ok (.invokestatic 40, 3) := by decide +kernel
theorem dX3_load_50 : decode cX3_load 50 = .ok (.ifCond .eq 41, 3) := by decide +kernel
theorem dX3_load_53 : decode cX3_load 53 = .ok (.iconst 0, 1) := by decide +kernel
theorem dX3_load_54 : decode cX3_load 54 = .ok (.aload_n 2, 1) := by decide +kernel
theorem dX3_load_55 : decode cX3_load 55 = .ok (.iload 4, 2) := by decide +kernel
theorem dX3_load_57 : decode cX3_load 57 = .ok (.invokevirtual 202, 3) := by decide +kernel
theorem dX3_load_60 : decode cX3_load 60 = .ok (.invokestatic 69, 3) := by decide +kernel
theorem dX3_load_63 : decode cX3_load 63 = .ok (.ifCond .eq 28, 3) := by decide +kernel
theorem dX3_load_66 : decode cX3_load 66 = .ok (.aload_n 0, 1) := by decide +kernel
theorem dX3_load_67 : decode cX3_load 67 = .ok (.getfield 10, 3) := by decide +kernel
theorem dX3_load_70 : decode cX3_load 70 = .ok (.iload 4, 2) := by decide +kernel
theorem dX3_load_72 : decode cX3_load 72 = .ok (.iconst 0, 1) := by decide +kernel
theorem dX3_load_73 : decode cX3_load 73 = .ok (.aload_n 2, 1) := by decide +kernel
theorem dX3_load_74 : decode cX3_load 74 = .ok (.iload 4, 2) := by decide +kernel
theorem dX3_load_76 : decode cX3_load 76 = .ok (.invokevirtual 202, 3) := by decide +kernel
theorem dX3_load_79 : decode cX3_load 79 = .ok (.invokevirtual 73, 3) := by decide +kernel
theorem dX3_load_82 : decode cX3_load 82 = .ok (.iinc 3 1, 3) := by decide +kernel
theorem dX3_load_85 : decode cX3_load 85 = .ok (.iinc 4 1, 3) := by decide +kernel
theorem dX3_load_88 : decode cX3_load 88 = .ok (.goto (-52), 3) := by decide +kernel
theorem dX3_load_91 : decode cX3_load 91 = .ok (.iload_n 3, 1) := by decide +kernel
theorem dX3_load_92 : decode cX3_load 92 = .ok (.ireturn, 1) := by decide +kernel
theorem dX3_judge_0 : decode cX3_judge 0 = .ok (.aload_n 0, 1) := by decide +kernel
theorem dX3_judge_1 : decode cX3_judge 1 = .ok (.iload_n 1, 1) := by decide +kernel
theorem dX3_judge_2 : decode cX3_judge 2 = .ok (.invokevirtual 191, 3) := by decide +kernel
theorem dX3_judge_5 : decode cX3_judge 5 = .ok (.astore_n 2, 1) := by decide +kernel
theorem dX3_judge_6 : decode cX3_judge 6 = .ok (.aload_n 2, 1) := by decide +kernel
theorem dX3_judge_7 : decode cX3_judge 7 = .ok (.ifnonnull 10, 3) := by decide +kernel
theorem dX3_judge_10 : decode cX3_judge 10 = .ok (.aload_n 0, 1) := by decide +kernel
theorem dX3_judge_11 : decode cX3_judge 11 = .ok (.ldc 48, 2) := by decide +kernel
theorem dX3_judge_13 : decode cX3_judge 13 = .ok (.invokevirtual 49, 3) := by decide +kernel
theorem dX3_judge_16 : decode cX3_judge 16 = .ok (.ireturn, 1) := by decide +kernel
theorem dX3_judge_17 : decode cX3_judge 17 = .ok (.aload_n 2, 1) := by decide +kernel
theorem dX3_judge_18 : decode cX3_judge 18 = .ok (.invokevirtual 195, 3) := by decide +kernel
theorem dX3_judge_21 : decode cX3_judge 21 = .ok (.ifCond .eq 10, 3) := by decide +kernel
theorem dX3_judge_24 : decode cX3_judge 24 = .ok (.aload_n 0, 1) := by decide +kernel
theorem dX3_judge_25 : decode cX3_judge 25 = .ok (.ldc 198, 2) := by decide +kernel
theorem dX3_judge_27 : decode cX3_judge 27 = .ok (.invokevirtual 49, 3) := by decide +kernel
theorem dX3_judge_30 : decode cX3_judge 30 = .ok (.ireturn, 1) := by decide +kernel
theorem dX3_judge_31 : decode cX3_judge 31 = .ok (.iconst 0, 1) := by decide +kernel
theorem dX3_judge_32 : decode cX3_judge 32 = .ok (.istore_n 3, 1) := by decide +kernel
theorem dX3_judge_33 : decode cX3_judge 33 = .ok (.iload_n 3, 1) := by decide +kernel
theorem dX3_judge_34 : decode cX3_judge 34 = .ok (.aload_n 2, 1) := by decide +kernel
theorem dX3_judge_35 : decode cX3_judge 35 = .ok (.getfield 199, 3) := by decide +kernel
theorem dX3_judge_38 : decode cX3_judge 38 = .ok (.if_icmp .ge 36, 3) := by decide +kernel
theorem dX3_judge_41 : decode cX3_judge 41 = .ok (.iload_n 3, 1) := by decide +kernel
theorem dX3_judge_42 : decode cX3_judge 42 = .ok (.invokestatic 40, 3) := by decide +kernel
theorem dX3_judge_45 : decode cX3_judge 45 = .ok (.ifCond .eq 19, 3) := by decide +kernel
theorem dX3_judge_48 : decode cX3_judge 48 = .ok (.aload_n 2, 1) := by decide +kernel
theorem dX3_judge_49 : decode cX3_judge 49 = .ok (.iload_n 3, 1) := by decide +kernel
theorem dX3_judge_50 : decode cX3_judge 50 = .ok (.invokevirtual 202, 3) := by decide +kernel
theorem dX3_judge_53 : decode cX3_judge 53 = .ok (.aload_n 0, 1) := by decide +kernel
theorem dX3_judge_54 : decode cX3_judge 54 = .ok (.getfield 10, 3) := by decide +kernel
theorem dX3_judge_57 : decode cX3_judge 57 = .ok (.iload_n 3, 1) := by decide +kernel
theorem dX3_judge_58 : decode cX3_judge 58 = .ok (.invokevirtual 56, 3) := by decide +kernel
theorem dX3_judge_61 : decode cX3_judge 61 = .ok (.if_icmp .eq 7, 3) := by decide +kernel
theorem dX3_judge_64 : decode cX3_judge 64 = .ok (.iconst 1, 1) := by decide +kernel
theorem dX3_judge_65 : decode cX3_judge 65 = .ok (.iload_n 3, 1) := by decide +kernel
theorem dX3_judge_66 : decode cX3_judge 66 = .ok (.iadd, 1) := by decide +kernel
theorem dX3_judge_67 : decode cX3_judge 67 = .ok (.ireturn, 1) := by decide +kernel
theorem dX3_judge_68 : decode cX3_judge 68 = .ok (.iinc 3 1, 3) := by decide +kernel
theorem dX3_judge_71 : decode cX3_judge 71 = .ok (.goto (-38), 3) := by decide +kernel
theorem dX3_judge_74 : decode cX3_judge 74 = .ok (.iconst 0, 1) := by decide +kernel
theorem dX3_judge_75 : decode cX3_judge 75 = .ok (.ireturn, 1) := by decide +kernel
theorem dX3_image_0 : decode cX3_image 0 = .ok (.aload_n 0, 1) := by decide +kernel
theorem dX3_image_1 : decode cX3_image 1 = .ok (.getfield 16, 3) := by decide +kernel
theorem dX3_image_4 : decode cX3_image 4 = .ok (.aload_n 0, 1) := by decide +kernel
theorem dX3_image_5 : decode cX3_image 5 = .ok (.getfield 10, 3) := by decide +kernel
theorem dX3_image_8 : decode cX3_image 8 = .ok (.invokevirtual 143, 3) := by decide +kernel
theorem dX3_image_11 : decode cX3_image 11 = .ok (.aload_n 0, 1) := by decide +kernel
theorem dX3_image_12 : decode cX3_image 12 = .ok (.iconst 1, 1) := by decide +kernel
theorem dX3_image_13 : decode cX3_image 13 = .ok (.putfield 258, 3) := by decide +kernel
theorem dX3_image_16 : decode cX3_image 16 = .ok (.iconst 1, 1) := by decide +kernel
theorem dX3_image_17 : decode cX3_image 17 = .ok (.ireturn, 1) := by decide +kernel
theorem dX3_undo_0 : decode cX3_undo 0 = .ok (.aload_n 0, 1) := by decide +kernel
theorem dX3_undo_1 : decode cX3_undo 1 = .ok (.getfield 258, 3) := by decide +kernel
theorem dX3_undo_4 : decode cX3_undo 4 = .ok (.ifCond .ne 10, 3) := by decide +kernel
theorem dX3_undo_7 : decode cX3_undo 7 = .ok (.aload_n 0, 1) := by decide +kernel
theorem dX3_undo_8 : decode cX3_undo 8 = .ok (.ldc 138, 2) := by decide +kernel
theorem dX3_undo_10 : decode cX3_undo 10 = .ok (.invokevirtual 49, 3) := by decide +kernel
theorem dX3_undo_13 : decode cX3_undo 13 = .ok (.ireturn, 1) := by decide +kernel
theorem dX3_undo_14 : decode cX3_undo 14 = .ok (.aload_n 0, 1) := by decide +kernel
theorem dX3_undo_15 : decode cX3_undo 15 = .ok (.getfield 10, 3) := by decide +kernel
theorem dX3_undo_18 : decode cX3_undo 18 = .ok (.aload_n 0, 1) := by decide +kernel
theorem dX3_undo_19 : decode cX3_undo 19 = .ok (.getfield 16, 3) := by decide +kernel
theorem dX3_undo_22 : decode cX3_undo 22 = .ok (.invokevirtual 143, 3) := by decide +kernel
theorem dX3_undo_25 : decode cX3_undo 25 = .ok (.aload_n 0, 1) := by decide +kernel
theorem dX3_undo_26 : decode cX3_undo 26 = .ok (.getfield 10, 3) := by decide +kernel
theorem dX3_undo_29 : decode cX3_undo 29 = .ok (.getfield 117, 3) := by decide +kernel
theorem dX3_undo_32 : decode cX3_undo 32 = .ok (.ireturn, 1) := by decide +kernel
theorem dX3_tear_0 : decode cX3_tear 0 = .ok (.aload_n 0, 1) := by decide +kernel
theorem dX3_tear_1 : decode cX3_tear 1 = .ok (.getfield 258, 3) := by decide +kernel
theorem dX3_tear_4 : decode cX3_tear 4 = .ok (.ifCond .eq 7, 3) := by decide +kernel
theorem dX3_tear_7 : decode cX3_tear 7 = .ok (.iconst 1, 1) := by decide +kernel
theorem dX3_tear_8 : decode cX3_tear 8 = .ok (.goto 4, 3) := by decide +kernel
theorem dX3_tear_11 : decode cX3_tear 11 = .ok (.iconst 0, 1) := by decide +kernel
theorem dX3_tear_12 : decode cX3_tear 12 = .ok (.istore_n 1, 1) := by decide +kernel
theorem dX3_tear_13 : decode cX3_tear 13 = .ok (.aload_n 0, 1) := by decide +kernel
theorem dX3_tear_14 : decode cX3_tear 14 = .ok (.iconst 0, 1) := by decide +kernel
theorem dX3_tear_15 : decode cX3_tear 15 = .ok (.putfield 258, 3) := by decide +kernel
theorem dX3_tear_18 : decode cX3_tear 18 = .ok (.iload_n 1, 1) := by decide +kernel
theorem dX3_tear_19 : decode cX3_tear 19 = .ok (.ireturn, 1) := by decide +kernel
theorem dX3_count_0 : decode cX3_count 0 = .ok (.iload_n 1, 1) := by decide +kernel
theorem dX3_count_1 : decode cX3_count 1 = .ok (.tableswitch 113 0 7 #[47, 55, 63, 73, 81, 89, 97, 105], 47) := by decide +kernel
theorem dX3_count_48 : decode cX3_count 48 = .ok (.aload_n 0, 1) := by decide +kernel
theorem dX3_count_49 : decode cX3_count 49 = .ok (.getfield 10, 3) := by decide +kernel
theorem dX3_count_52 : decode cX3_count 52 = .ok (.getfield 117, 3) := by decide +kernel
theorem dX3_count_55 : decode cX3_count 55 = .ok (.ireturn, 1) := by decide +kernel
theorem dX3_count_56 : decode cX3_count 56 = .ok (.aload_n 0, 1) := by decide +kernel
theorem dX3_count_57 : decode cX3_count 57 = .ok (.getfield 10, 3) := by decide +kernel
theorem dX3_count_60 : decode cX3_count 60 = .ok (.getfield 262, 3) := by decide +kernel
theorem dX3_count_63 : decode cX3_count 63 = .ok (.ireturn, 1) := by decide +kernel
theorem dX3_count_64 : decode cX3_count 64 = .ok (.aload_n 0, 1) := by decide +kernel
theorem dX3_count_65 : decode cX3_count 65 = .ok (.getfield 10, 3) := by decide +kernel
theorem dX3_count_68 : decode cX3_count 68 = .ok (.bipush 15, 2) := by decide +kernel
theorem dX3_count_70 : decode cX3_count 70 = .ok (.invokevirtual 135, 3) := by decide +kernel
theorem dX3_count_73 : decode cX3_count 73 = .ok (.ireturn, 1) := by decide +kernel
theorem dX3_count_74 : decode cX3_count 74 = .ok (.aload_n 0, 1) := by decide +kernel
theorem dX3_count_75 : decode cX3_count 75 = .ok (.getfield 10, 3) := by decide +kernel
theorem dX3_count_78 : decode cX3_count 78 = .ok (.invokevirtual 129, 3) := by decide +kernel
theorem dX3_count_81 : decode cX3_count 81 = .ok (.ireturn, 1) := by decide +kernel
theorem dX3_count_82 : decode cX3_count 82 = .ok (.aload_n 0, 1) := by decide +kernel
theorem dX3_count_83 : decode cX3_count 83 = .ok (.getfield 10, 3) := by decide +kernel
theorem dX3_count_86 : decode cX3_count 86 = .ok (.invokevirtual 265, 3) := by decide +kernel
theorem dX3_count_89 : decode cX3_count 89 = .ok (.ireturn, 1) := by decide +kernel
theorem dX3_count_90 : decode cX3_count 90 = .ok (.aload_n 0, 1) := by decide +kernel
theorem dX3_count_91 : decode cX3_count 91 = .ok (.getfield 25, 3) := by decide +kernel
theorem dX3_count_94 : decode cX3_count 94 = .ok (.getfield 214, 3) := by decide +kernel
theorem dX3_count_97 : decode cX3_count 97 = .ok (.ireturn, 1) := by decide +kernel
theorem dX3_count_98 : decode cX3_count 98 = .ok (.aload_n 0, 1) := by decide +kernel
theorem dX3_count_99 : decode cX3_count 99 = .ok (.getfield 10, 3) := by decide +kernel
theorem dX3_count_102 : decode cX3_count 102 = .ok (.getfield 211, 3) := by decide +kernel
theorem dX3_count_105 : decode cX3_count 105 = .ok (.ireturn, 1) := by decide +kernel
theorem dX3_count_106 : decode cX3_count 106 = .ok (.aload_n 0, 1) := by decide +kernel
theorem dX3_count_107 : decode cX3_count 107 = .ok (.getfield 10, 3) := by decide +kernel
theorem dX3_count_110 : decode cX3_count 110 = .ok (.invokevirtual 268, 3) := by decide +kernel
theorem dX3_count_113 : decode cX3_count 113 = .ok (.ireturn, 1) := by decide +kernel
theorem dX3_count_114 : decode cX3_count 114 = .ok (.aload_n 0, 1) := by decide +kernel
theorem dX3_count_115 : decode cX3_count 115 = .ok (.ldc 48, 2) := by decide +kernel
theorem dX3_count_117 : decode cX3_count 117 = .ok (.invokevirtual 49, 3) := by decide +kernel
theorem dX3_count_120 : decode cX3_count 120 = .ok (.ireturn, 1) := by decide +kernel
theorem dX3_status_0 : decode cX3_status 0 = .ok (.iload_n 1, 1) := by decide +kernel
theorem dX3_status_1 : decode cX3_status 1 = .ok (.iconst (-1), 1) := by decide +kernel
theorem dX3_status_2 : decode cX3_status 2 = .ok (.aload_n 0, 1) := by decide +kernel
theorem dX3_status_3 : decode cX3_status 3 = .ok (.getfield 36, 3) := by decide +kernel
theorem dX3_status_6 : decode cX3_status 6 = .ok (.arraylength, 1) := by decide +kernel
theorem dX3_status_7 : decode cX3_status 7 = .ok (.iconst 1, 1) := by decide +kernel
theorem dX3_status_8 : decode cX3_status 8 = .ok (.isub, 1) := by decide +kernel
theorem dX3_status_9 : decode cX3_status 9 = .ok (.invokestatic 44, 3) := by decide +kernel
theorem dX3_status_12 : decode cX3_status 12 = .ok (.ifCond .ne 10, 3) := by decide +kernel
theorem dX3_status_15 : decode cX3_status 15 = .ok (.aload_n 0, 1) := by decide +kernel
theorem dX3_status_16 : decode cX3_status 16 = .ok (.ldc 48, 2) := by decide +kernel
theorem dX3_status_18 : decode cX3_status 18 = .ok (.invokevirtual 49, 3) := by decide +kernel
theorem dX3_status_21 : decode cX3_status 21 = .ok (.ireturn, 1) := by decide +kernel
theorem dX3_status_22 : decode cX3_status 22 = .ok (.iconst 0, 1) := by decide +kernel
theorem dX3_status_23 : decode cX3_status 23 = .ok (.istore_n 2, 1) := by decide +kernel
theorem dX3_status_24 : decode cX3_status 24 = .ok (.iconst 0, 1) := by decide +kernel
theorem dX3_status_25 : decode cX3_status 25 = .ok (.istore_n 3, 1) := by decide +kernel
theorem dX3_status_26 : decode cX3_status 26 = .ok (.iload_n 3, 1) := by decide +kernel
theorem dX3_status_27 : decode cX3_status 27 = .ok (.aload_n 0, 1) := by decide +kernel
theorem dX3_status_28 : decode cX3_status 28 = .ok (.getfield 36, 3) := by decide +kernel
theorem dX3_status_31 : decode cX3_status 31 = .ok (.arraylength, 1) := by decide +kernel
theorem dX3_status_32 : decode cX3_status 32 = .ok (.if_icmp .ge 28, 3) := by decide +kernel
theorem dX3_status_35 : decode cX3_status 35 = .ok (.iload_n 1, 1) := by decide +kernel
theorem dX3_status_36 : decode cX3_status 36 = .ok (.iconst (-1), 1) := by decide +kernel
theorem dX3_status_37 : decode cX3_status 37 = .ok (.if_icmp .eq 8, 3) := by decide +kernel
theorem dX3_status_40 : decode cX3_status 40 = .ok (.iload_n 1, 1) := by decide +kernel
theorem dX3_status_41 : decode cX3_status 41 = .ok (.iload_n 3, 1) := by decide +kernel
theorem dX3_status_42 : decode cX3_status 42 = .ok (.if_icmp .ne 12, 3) := by decide +kernel
theorem dX3_status_45 : decode cX3_status 45 = .ok (.iload_n 2, 1) := by decide +kernel
theorem dX3_status_46 : decode cX3_status 46 = .ok (.aload_n 0, 1) := by decide +kernel
theorem dX3_status_47 : decode cX3_status 47 = .ok (.getfield 36, 3) := by decide +kernel
theorem dX3_status_50 : decode cX3_status 50 = .ok (.iload_n 3, 1) := by decide +kernel
theorem dX3_status_51 : decode cX3_status 51 = .ok (.iaload, 1) := by decide +kernel
theorem dX3_status_52 : decode cX3_status 52 = .ok (.iadd, 1) := by decide +kernel
theorem dX3_status_53 : decode cX3_status 53 = .ok (.istore_n 2, 1) := by decide +kernel
theorem dX3_status_54 : decode cX3_status 54 = .ok (.iinc 3 1, 3) := by decide +kernel
theorem dX3_status_57 : decode cX3_status 57 = .ok (.goto (-31), 3) := by decide +kernel
theorem dX3_status_60 : decode cX3_status 60 = .ok (.iload_n 2, 1) := by decide +kernel
theorem dX3_status_61 : decode cX3_status 61 = .ok (.ireturn, 1) := by decide +kernel
theorem dX3_finding_0 : decode cX3_finding 0 = .ok (.ldc 48, 2) := by decide +kernel
theorem dX3_finding_2 : decode cX3_finding 2 = .ok (.iload_n 1, 1) := by decide +kernel
theorem dX3_finding_3 : decode cX3_finding 3 = .ok (.isub, 1) := by decide +kernel
theorem dX3_finding_4 : decode cX3_finding 4 = .ok (.istore_n 2, 1) := by decide +kernel
theorem dX3_finding_5 : decode cX3_finding 5 = .ok (.iload_n 2, 1) := by decide +kernel
theorem dX3_finding_6 : decode cX3_finding 6 = .ok (.ifCond .lt 22, 3) := by decide +kernel
theorem dX3_finding_9 : decode cX3_finding 9 = .ok (.iload_n 2, 1) := by decide +kernel
theorem dX3_finding_10 : decode cX3_finding 10 = .ok (.aload_n 0, 1) := by decide +kernel
theorem dX3_finding_11 : decode cX3_finding 11 = .ok (.getfield 36, 3) := by decide +kernel
theorem dX3_finding_14 : decode cX3_finding 14 = .ok (.arraylength, 1) := by decide +kernel
theorem dX3_finding_15 : decode cX3_finding 15 = .ok (.if_icmp .ge 13, 3) := by decide +kernel
theorem dX3_finding_18 : decode cX3_finding 18 = .ok (.aload_n 0, 1) := by decide +kernel
theorem dX3_finding_19 : decode cX3_finding 19 = .ok (.getfield 36, 3) := by decide +kernel
theorem dX3_finding_22 : decode cX3_finding 22 = .ok (.iload_n 2, 1) := by decide +kernel
theorem dX3_finding_23 : decode cX3_finding 23 = .ok (.dup2, 1) := by decide +kernel
theorem dX3_finding_24 : decode cX3_finding 24 = .ok (.iaload, 1) := by decide +kernel
theorem dX3_finding_25 : decode cX3_finding 25 = .ok (.iconst 1, 1) := by decide +kernel
theorem dX3_finding_26 : decode cX3_finding 26 = .ok (.iadd, 1) := by decide +kernel
theorem dX3_finding_27 : decode cX3_finding 27 = .ok (.iastore, 1) := by decide +kernel
theorem dX3_finding_28 : decode cX3_finding 28 = .ok (.iload_n 1, 1) := by decide +kernel
theorem dX3_finding_29 : decode cX3_finding 29 = .ok (.ireturn, 1) := by decide +kernel
theorem dX3_sheetAt_0 : decode cX3_sheetAt 0 = .ok (.iload_n 1, 1) := by decide +kernel
theorem dX3_sheetAt_1 : decode cX3_sheetAt 1 = .ok (.ifCond .lt 21, 3) := by decide +kernel
theorem dX3_sheetAt_4 : decode cX3_sheetAt 4 = .ok (.iload_n 1, 1) := by decide +kernel
theorem dX3_sheetAt_5 : decode cX3_sheetAt 5 = .ok (.aload_n 0, 1) := by decide +kernel
theorem dX3_sheetAt_6 : decode cX3_sheetAt 6 = .ok (.getfield 31, 3) := by decide +kernel
theorem dX3_sheetAt_9 : decode cX3_sheetAt 9 = .ok (.arraylength, 1) := by decide +kernel
theorem dX3_sheetAt_10 : decode cX3_sheetAt 10 = .ok (.if_icmp .ge 12, 3) := by decide +kernel
theorem dX3_sheetAt_13 : decode cX3_sheetAt 13 = .ok (.aload_n 0, 1) := by decide +kernel
theorem dX3_sheetAt_14 : decode cX3_sheetAt 14 = .ok (.getfield 31, 3) := by decide +kernel
theorem dX3_sheetAt_17 : decode cX3_sheetAt 17 = .ok (.iload_n 1, 1) := by decide +kernel
theorem dX3_sheetAt_18 : decode cX3_sheetAt 18 = .ok (.aaload, 1) := by decide +kernel
theorem dX3_sheetAt_19 : decode cX3_sheetAt 19 = .ok (.goto 4, 3) := by decide +kernel
theorem dX3_sheetAt_22 : decode cX3_sheetAt 22 = .ok (.aconst_null, 1) := by decide +kernel
theorem dX3_sheetAt_23 : decode cX3_sheetAt 23 = .ok (.areturn, 1) := by decide +kernel
theorem dX3_isWithin_0 : decode cX3_isWithin 0 = .ok (.iload_n 0, 1) := by decide +kernel
theorem dX3_isWithin_1 : decode cX3_isWithin 1 = .ok (.iload_n 1, 1) := by decide +kernel
theorem dX3_isWithin_2 : decode cX3_isWithin 2 = .ok (.if_icmp .lt 12, 3) := by decide +kernel
theorem dX3_isWithin_5 : decode cX3_isWithin 5 = .ok (.iload_n 0, 1) := by decide +kernel
theorem dX3_isWithin_6 : decode cX3_isWithin 6 = .ok (.iload_n 2, 1) := by decide +kernel
theorem dX3_isWithin_7 : decode cX3_isWithin 7 = .ok (.if_icmp .gt 7, 3) := by decide +kernel
theorem dX3_isWithin_10 : decode cX3_isWithin 10 = .ok (.iconst 1, 1) := by decide +kernel
theorem dX3_isWithin_11 : decode cX3_isWithin 11 = .ok (.goto 4, 3) := by decide +kernel
theorem dX3_isWithin_14 : decode cX3_isWithin 14 = .ok (.iconst 0, 1) := by decide +kernel
theorem dX3_isWithin_15 : decode cX3_isWithin 15 = .ok (.ireturn, 1) := by decide +kernel
theorem dX3_isCorner_0 : decode cX3_isCorner 0 = .ok (.iload_n 0, 1) := by decide +kernel
theorem dX3_isCorner_1 : decode cX3_isCorner 1 = .ok (.iconst 0, 1) := by decide +kernel
theorem dX3_isCorner_2 : decode cX3_isCorner 2 = .ok (.bipush 15, 2) := by decide +kernel
theorem dX3_isCorner_4 : decode cX3_isCorner 4 = .ok (.invokestatic 44, 3) := by decide +kernel
theorem dX3_isCorner_7 : decode cX3_isCorner 7 = .ok (.ireturn, 1) := by decide +kernel
theorem dX3_isKind_0 : decode cX3_isKind 0 = .ok (.iload_n 0, 1) := by decide +kernel
theorem dX3_isKind_1 : decode cX3_isKind 1 = .ok (.iconst 0, 1) := by decide +kernel
theorem dX3_isKind_2 : decode cX3_isKind 2 = .ok (.bipush 6, 2) := by decide +kernel
theorem dX3_isKind_4 : decode cX3_isKind 4 = .ok (.invokestatic 44, 3) := by decide +kernel
theorem dX3_isKind_7 : decode cX3_isKind 7 = .ok (.ireturn, 1) := by decide +kernel
theorem dX3_isSet_0 : decode cX3_isSet 0 = .ok (.iload_n 0, 1) := by decide +kernel
theorem dX3_isSet_1 : decode cX3_isSet 1 = .ok (.iconst 0, 1) := by decide +kernel
theorem dX3_isSet_2 : decode cX3_isSet 2 = .ok (.ldc_w 271, 3) := by decide +kernel
theorem dX3_isSet_5 : decode cX3_isSet 5 = .ok (.invokestatic 44, 3) := by decide +kernel
theorem dX3_isSet_8 : decode cX3_isSet 8 = .ok (.ireturn, 1) := by decide +kernel
theorem dX3_isIn_0 : decode cX3_isIn 0 = .ok (.iload_n 0, 1) := by decide +kernel
theorem dX3_isIn_1 : decode cX3_isIn 1 = .ok (.iload_n 1, 1) := by decide +kernel
theorem dX3_isIn_2 : decode cX3_isIn 2 = .ok (.ishr, 1) := by decide +kernel
theorem dX3_isIn_3 : decode cX3_isIn 3 = .ok (.iconst 1, 1) := by decide +kernel
theorem dX3_isIn_4 : decode cX3_isIn 4 = .ok (.iand, 1) := by decide +kernel
theorem dX3_isIn_5 : decode cX3_isIn 5 = .ok (.ifCond .eq 7, 3) := by decide +kernel
theorem dX3_isIn_8 : decode cX3_isIn 8 = .ok (.iconst 1, 1) := by decide +kernel
theorem dX3_isIn_9 : decode cX3_isIn 9 = .ok (.goto 4, 3) := by decide +kernel
theorem dX3_isIn_12 : decode cX3_isIn 12 = .ok (.iconst 0, 1) := by decide +kernel
theorem dX3_isIn_13 : decode cX3_isIn 13 = .ok (.ireturn, 1) := by decide +kernel
theorem dX3_isTrait_0 : decode cX3_isTrait 0 = .ok (.iload_n 0, 1) := by decide +kernel
theorem dX3_isTrait_1 : decode cX3_isTrait 1 = .ok (.ifCond .lt 28, 3) := by decide +kernel
theorem dX3_isTrait_4 : decode cX3_isTrait 4 = .ok (.iload_n 0, 1) := by decide +kernel
theorem dX3_isTrait_5 : decode cX3_isTrait 5 = .ok (.getstatic 272, 3) := by decide +kernel
theorem dX3_isTrait_8 : decode cX3_isTrait 8 = .ok (.arraylength, 1) := by decide +kernel
theorem dX3_isTrait_9 : decode cX3_isTrait 9 = .ok (.if_icmp .ge 20, 3) := by decide +kernel
theorem dX3_isTrait_12 : decode cX3_isTrait 12 = .ok (.iload_n 1, 1) := by decide +kernel
theorem dX3_isTrait_13 : decode cX3_isTrait 13 = .ok (.iconst 0, 1) := by decide +kernel
theorem dX3_isTrait_14 : decode cX3_isTrait 14 = .ok (.getstatic 272, 3) := by decide +kernel
theorem dX3_isTrait_17 : decode cX3_isTrait 17 = .ok (.iload_n 0, 1) := by decide +kernel
theorem dX3_isTrait_18 : decode cX3_isTrait 18 = .ok (.iaload, 1) := by decide +kernel
theorem dX3_isTrait_19 : decode cX3_isTrait 19 = .ok (.invokestatic 44, 3) := by decide +kernel
theorem dX3_isTrait_22 : decode cX3_isTrait 22 = .ok (.ifCond .eq 7, 3) := by decide +kernel
theorem dX3_isTrait_25 : decode cX3_isTrait 25 = .ok (.iconst 1, 1) := by decide +kernel
theorem dX3_isTrait_26 : decode cX3_isTrait 26 = .ok (.goto 4, 3) := by decide +kernel
theorem dX3_isTrait_29 : decode cX3_isTrait 29 = .ok (.iconst 0, 1) := by decide +kernel
theorem dX3_isTrait_30 : decode cX3_isTrait 30 = .ok (.ireturn, 1) := by decide +kernel
theorem dX3_isQuality_0 : decode cX3_isQuality 0 = .ok (.iload_n 0, 1) := by decide +kernel
theorem dX3_isQuality_1 : decode cX3_isQuality 1 = .ok (.ifCond .lt 40, 3) := by decide +kernel
theorem dX3_isQuality_4 : decode cX3_isQuality 4 = .ok (.iload_n 0, 1) := by decide +kernel
theorem dX3_isQuality_5 : decode cX3_isQuality 5 = .ok (.getstatic 275, 3) := by decide +kernel
theorem dX3_isQuality_8 : decode cX3_isQuality 8 = .ok (.arraylength, 1) := by decide +kernel
theorem dX3_isQuality_9 : decode cX3_isQuality 9 = .ok (.if_icmp .ge 32, 3) := by decide +kernel
theorem dX3_isQuality_12 : decode cX3_isQuality 12 = .ok (.iload_n 0, 1) := by decide +kernel
theorem dX3_isQuality_13 : decode cX3_isQuality 13 = .ok (.getstatic 278, 3) := by decide +kernel
theorem dX3_isQuality_16 : decode cX3_isQuality 16 = .ok (.arraylength, 1) := by decide +kernel
theorem dX3_isQuality_17 : decode cX3_isQuality 17 = .ok (.if_icmp .ge 24, 3) := by decide +kernel
theorem dX3_isQuality_20 : decode cX3_isQuality 20 = .ok (.iload_n 1, 1) := by decide +kernel
theorem dX3_isQuality_21 : decode cX3_isQuality 21 = .ok (.getstatic 275, 3) := by decide +kernel
theorem dX3_isQuality_24 : decode cX3_isQuality 24 = .ok (.iload_n 0, 1) := by decide +kernel
theorem dX3_isQuality_25 : decode cX3_isQuality 25 = .ok (.iaload, 1) := by decide +kernel
theorem dX3_isQuality_26 : decode cX3_isQuality 26 = .ok (.getstatic 278, 3) := by decide +kernel
theorem dX3_isQuality_29 : decode cX3_isQuality 29 = .ok (.iload_n 0, 1) := by decide +kernel
theorem dX3_isQuality_30 : decode cX3_isQuality 30 = .ok (.iaload, 1) := by decide +kernel
theorem dX3_isQuality_31 : decode cX3_isQuality 31 = .ok (.invokestatic 44, 3) := by decide +kernel
theorem dX3_isQuality_34 : decode cX3_isQuality 34 = .ok (.ifCond .eq 7, 3) := by decide +kernel
theorem dX3_isQuality_37 : decode cX3_isQuality 37 = .ok (.iconst 1, 1) := by decide +kernel
theorem dX3_isQuality_38 : decode cX3_isQuality 38 = .ok (.goto 4, 3) := by decide +kernel
theorem dX3_isQuality_41 : decode cX3_isQuality 41 = .ok (.iconst 0, 1) := by decide +kernel
theorem dX3_isQuality_42 : decode cX3_isQuality 42 = .ok (.ireturn, 1) := by decide +kernel
theorem dX3_isUnder_0 : decode cX3_isUnder 0 = .ok (.iload_n 0, 1) := by decide +kernel
theorem dX3_isUnder_1 : decode cX3_isUnder 1 = .ok (.istore_n 2, 1) := by decide +kernel
theorem dX3_isUnder_2 : decode cX3_isUnder 2 = .ok (.iconst 0, 1) := by decide +kernel
theorem dX3_isUnder_3 : decode cX3_isUnder 3 = .ok (.istore_n 3, 1) := by decide +kernel
theorem dX3_isUnder_4 : decode cX3_isUnder 4 = .ok (.iload_n 3, 1) := by decide +kernel
theorem dX3_isUnder_5 : decode cX3_isUnder 5 = .ok (.bipush 7, 2) := by decide +kernel
theorem dX3_isUnder_7 : decode cX3_isUnder 7 = .ok (.if_icmp .ge 34, 3) := by decide +kernel
theorem dX3_isUnder_10 : decode cX3_isUnder 10 = .ok (.iload_n 2, 1) := by decide +kernel
theorem dX3_isUnder_11 : decode cX3_isUnder 11 = .ok (.ifCond .lt 30, 3) := by decide +kernel
theorem dX3_isUnder_14 : decode cX3_isUnder 14 = .ok (.iload_n 2, 1) := by decide +kernel
theorem dX3_isUnder_15 : decode cX3_isUnder 15 = .ok (.getstatic 281, 3) := by decide +kernel
theorem dX3_isUnder_18 : decode cX3_isUnder 18 = .ok (.arraylength, 1) := by decide +kernel
theorem dX3_isUnder_19 : decode cX3_isUnder 19 = .ok (.if_icmp .ge 22, 3) := by decide +kernel
theorem dX3_isUnder_22 : decode cX3_isUnder 22 = .ok (.iload_n 2, 1) := by decide +kernel
theorem dX3_isUnder_23 : decode cX3_isUnder 23 = .ok (.iload_n 1, 1) := by decide +kernel
theorem dX3_isUnder_24 : decode cX3_isUnder 24 = .ok (.if_icmp .ne 5, 3) := by decide +kernel
theorem dX3_isUnder_27 : decode cX3_isUnder 27 = .ok (.iconst 1, 1) := by decide +kernel
theorem dX3_isUnder_28 : decode cX3_isUnder 28 = .ok (.ireturn, 1) := by decide +kernel
theorem dX3_isUnder_29 : decode cX3_isUnder 29 = .ok (.getstatic 281, 3) := by decide +kernel
theorem dX3_isUnder_32 : decode cX3_isUnder 32 = .ok (.iload_n 2, 1) := by decide +kernel
theorem dX3_isUnder_33 : decode cX3_isUnder 33 = .ok (.iaload, 1) := by decide +kernel
theorem dX3_isUnder_34 : decode cX3_isUnder 34 = .ok (.istore_n 2, 1) := by decide +kernel
theorem dX3_isUnder_35 : decode cX3_isUnder 35 = .ok (.iinc 3 1, 3) := by decide +kernel
theorem dX3_isUnder_38 : decode cX3_isUnder 38 = .ok (.goto (-34), 3) := by decide +kernel
theorem dX3_isUnder_41 : decode cX3_isUnder 41 = .ok (.iconst 0, 1) := by decide +kernel
theorem dX3_isUnder_42 : decode cX3_isUnder 42 = .ok (.ireturn, 1) := by decide +kernel
theorem dX3_put_0 : decode cX3_put 0 = .ok (.iload_n 1, 1) := by decide +kernel
theorem dX3_put_1 : decode cX3_put 1 = .ok (.ifCond .lt 13, 3) := by decide +kernel
theorem dX3_put_4 : decode cX3_put 4 = .ok (.iload_n 1, 1) := by decide +kernel
theorem dX3_put_5 : decode cX3_put 5 = .ok (.aload_n 0, 1) := by decide +kernel
theorem dX3_put_6 : decode cX3_put 6 = .ok (.arraylength, 1) := by decide +kernel
theorem dX3_put_7 : decode cX3_put 7 = .ok (.if_icmp .ge 7, 3) := by decide +kernel
theorem dX3_put_10 : decode cX3_put 10 = .ok (.aload_n 0, 1) := by decide +kernel
theorem dX3_put_11 : decode cX3_put 11 = .ok (.iload_n 1, 1) := by decide +kernel
theorem dX3_put_12 : decode cX3_put 12 = .ok (.iload_n 2, 1) := by decide +kernel
theorem dX3_put_13 : decode cX3_put 13 = .ok (.iastore, 1) := by decide +kernel
theorem dX3_put_14 : decode cX3_put 14 = .ok (.return_, 1) := by decide +kernel
theorem dX3_copyRow_0 : decode cX3_copyRow 0 = .ok (.aload_n 0, 1) := by decide +kernel
theorem dX3_copyRow_1 : decode cX3_copyRow 1 = .ok (.iconst 0, 1) := by decide +kernel
theorem dX3_copyRow_2 : decode cX3_copyRow 2 = .ok (.aload_n 1, 1) := by decide +kernel
theorem dX3_copyRow_3 : decode cX3_copyRow 3 = .ok (.iconst 0, 1) := by decide +kernel
theorem dX3_copyRow_4 : decode cX3_copyRow 4 = .ok (.aload_n 0, 1) := by decide +kernel
theorem dX3_copyRow_5 : decode cX3_copyRow 5 = .ok (.arraylength, 1) := by decide +kernel
theorem dX3_copyRow_6 : decode cX3_copyRow 6 = .ok (.aload_n 1, 1) := by decide +kernel
theorem dX3_copyRow_7 : decode cX3_copyRow 7 = .ok (.arraylength, 1) := by decide +kernel
theorem dX3_copyRow_8 : decode cX3_copyRow 8 = .ok (.invokestatic 284, 3) := by decide +kernel
theorem dX3_copyRow_11 : decode cX3_copyRow 11 = .ok (.invokestatic 252, 3) := by decide +kernel
theorem dX3_copyRow_14 : decode cX3_copyRow 14 = .ok (.return_, 1) := by decide +kernel
end
section
theorem dX4_init_0 : decode cX4_init 0 = .ok (.aload_n 0, 1) := by decide +kernel
theorem dX4_init_1 : decode cX4_init 1 = .ok (.invokespecial 3, 3) := by decide +kernel
theorem dX4_init_4 : decode cX4_init 4 = .ok (.aload_n 0, 1) := by decide +kernel
theorem dX4_init_5 : decode cX4_init 5 = .ok (.bipush 119, 2) := by decide +kernel
theorem dX4_init_7 : decode cX4_init 7 = .ok (.newarray .int, 2) := by decide +kernel
theorem dX4_init_9 : decode cX4_init 9 = .ok (.putfield 9, 3) := by decide +kernel
theorem dX4_init_12 : decode cX4_init 12 = .ok (.aload_n 0, 1) := by decide +kernel
theorem dX4_init_13 : decode cX4_init 13 = .ok (.bipush 119, 2) := by decide +kernel
theorem dX4_init_15 : decode cX4_init 15 = .ok (.newarray .int, 2) := by decide +kernel
theorem dX4_init_17 : decode cX4_init 17 = .ok (.putfield 13, 3) := by decide +kernel
theorem dX4_init_20 : decode cX4_init 20 = .ok (.aload_n 0, 1) := by decide +kernel
theorem dX4_init_21 : decode cX4_init 21 = .ok (.bipush 119, 2) := by decide +kernel
theorem dX4_init_23 : decode cX4_init 23 = .ok (.newarray .int, 2) := by decide +kernel
theorem dX4_init_25 : decode cX4_init 25 = .ok (.putfield 16, 3) := by decide +kernel
theorem dX4_init_28 : decode cX4_init 28 = .ok (.aload_n 0, 1) := by decide +kernel
theorem dX4_init_29 : decode cX4_init 29 = .ok (.bipush 7, 2) := by decide +kernel
theorem dX4_init_31 : decode cX4_init 31 = .ok (.newarray .int, 2) := by decide +kernel
theorem dX4_init_33 : decode cX4_init 33 = .ok (.putfield 19, 3) := by decide +kernel
theorem dX4_init_36 : decode cX4_init 36 = .ok (.aload_n 0, 1) := by decide +kernel
theorem dX4_init_37 : decode cX4_init 37 = .ok (.bipush 8, 2) := by decide +kernel
theorem dX4_init_39 : decode cX4_init 39 = .ok (.newarray .int, 2) := by decide +kernel
theorem dX4_init_41 : decode cX4_init 41 = .ok (.putfield 22, 3) := by decide +kernel
theorem dX4_init_44 : decode cX4_init 44 = .ok (.aload_n 0, 1) := by decide +kernel
theorem dX4_init_45 : decode cX4_init 45 = .ok (.bipush 120, 2) := by decide +kernel
theorem dX4_init_47 : decode cX4_init 47 = .ok (.newarray .int, 2) := by decide +kernel
theorem dX4_init_49 : decode cX4_init 49 = .ok (.putfield 25, 3) := by decide +kernel
theorem dX4_init_52 : decode cX4_init 52 = .ok (.aload_n 0, 1) := by decide +kernel
theorem dX4_init_53 : decode cX4_init 53 = .ok (.iconst 4, 1) := by decide +kernel
theorem dX4_init_54 : decode cX4_init 54 = .ok (.newarray .int, 2) := by decide +kernel
theorem dX4_init_56 : decode cX4_init 56 = .ok (.putfield 28, 3) := by decide +kernel
theorem dX4_init_59 : decode cX4_init 59 = .ok (.aload_n 0, 1) := by decide +kernel
theorem dX4_init_60 : decode cX4_init 60 = .ok (.iconst 4, 1) := by decide +kernel
theorem dX4_init_61 : decode cX4_init 61 = .ok (.newarray .int, 2) := by decide +kernel
theorem dX4_init_63 : decode cX4_init 63 = .ok (.putfield 31, 3) := by decide +kernel
theorem dX4_init_66 : decode cX4_init 66 = .ok (.aload_n 0, 1) := by decide +kernel
theorem dX4_init_67 : decode cX4_init 67 = .ok (.sipush 160, 3) := by decide +kernel
theorem dX4_init_70 : decode cX4_init 70 = .ok (.newarray .int, 2) := by decide +kernel
theorem dX4_init_72 : decode cX4_init 72 = .ok (.putfield 34, 3) := by decide +kernel
theorem dX4_init_75 : decode cX4_init 75 = .ok (.aload_n 0, 1) := by decide +kernel
theorem dX4_init_76 : decode cX4_init 76 = .ok (.bipush 40, 2) := by decide +kernel
theorem dX4_init_78 : decode cX4_init 78 = .ok (.newarray .int, 2) := by decide +kernel
theorem dX4_init_80 : decode cX4_init 80 = .ok (.putfield 37, 3) := by decide +kernel
theorem dX4_init_83 : decode cX4_init 83 = .ok (.aload_n 0, 1) := by decide +kernel
theorem dX4_init_84 : decode cX4_init 84 = .ok (.getfield 9, 3) := by decide +kernel
theorem dX4_init_87 : decode cX4_init 87 = .ok (.iconst 4, 1) := by decide +kernel
theorem dX4_init_88 : decode cX4_init 88 = .ok (.iconst 1, 1) := by decide +kernel
theorem dX4_init_89 : decode cX4_init 89 = .ok (.iastore, 1) := by decide +kernel
theorem dX4_init_90 : decode cX4_init 90 = .ok (.iconst 0, 1) := by decide +kernel
theorem dX4_init_91 : decode cX4_init 91 = .ok (.istore_n 1, 1) := by decide +kernel
theorem dX4_init_92 : decode cX4_init 92 = .ok (.iload_n 1, 1) := by decide +kernel
theorem dX4_init_93 : decode cX4_init 93 = .ok (.bipush 16, 2) := by decide +kernel
theorem dX4_init_95 : decode cX4_init 95 = .ok (.if_icmp .ge 51, 3) := by decide +kernel
theorem dX4_init_98 : decode cX4_init 98 = .ok (.aload_n 0, 1) := by decide +kernel
theorem dX4_init_99 : decode cX4_init 99 = .ok (.iload_n 1, 1) := by decide +kernel
theorem dX4_init_100 : decode cX4_init 100 = .ok (.iconst 0, 1) := by decide +kernel
theorem dX4_init_101 : decode cX4_init 101 = .ok (.bipush 90, 2) := by decide +kernel
theorem dX4_init_103 : decode cX4_init 103 = .ok (.bipush 6, 2) := by decide +kernel
theorem dX4_init_105 : decode cX4_init 105 = .ok (.iload_n 1, 1) := by decide +kernel
theorem dX4_init_106 : decode cX4_init 106 = .ok (.imul, 1) := by decide +kernel
theorem dX4_init_107 : decode cX4_init 107 = .ok (.isub, 1) := by decide +kernel
theorem dX4_init_108 : decode cX4_init 108 = .ok (.invokevirtual 40, 3) := by decide +kernel
theorem dX4_init_111 : decode cX4_init 111 = .ok (.aload_n 0, 1) := by decide +kernel
theorem dX4_init_112 : decode cX4_init 112 = .ok (.iload_n 1, 1) := by decide +kernel
theorem dX4_init_113 : decode cX4_init 113 = .ok (.iconst 1, 1) := by decide +kernel
theorem dX4_init_114 : decode cX4_init 114 = .ok (.bipush 15, 2) := by decide +kernel
theorem dX4_init_116 : decode cX4_init 116 = .ok (.iload_n 1, 1) := by decide +kernel
theorem dX4_init_117 : decode cX4_init 117 = .ok (.iconst 1, 1) := by decide +kernel
theorem dX4_init_118 : decode cX4_init 118 = .ok (.iadd, 1) := by decide +kernel
theorem dX4_init_119 : decode cX4_init 119 = .ok (.invokestatic 44, 3) := by decide +kernel
theorem dX4_init_122 : decode cX4_init 122 = .ok (.invokevirtual 40, 3) := by decide +kernel
theorem dX4_init_125 : decode cX4_init 125 = .ok (.aload_n 0, 1) := by decide +kernel
theorem dX4_init_126 : decode cX4_init 126 = .ok (.iload_n 1, 1) := by decide +kernel
theorem dX4_init_127 : decode cX4_init 127 = .ok (.iconst 3, 1) := by decide +kernel
theorem dX4_init_128 : decode cX4_init 128 = .ok (.iconst 1, 1) := by decide +kernel
theorem dX4_init_129 : decode cX4_init 129 = .ok (.invokevirtual 40, 3) := by decide +kernel
theorem dX4_init_132 : decode cX4_init 132 = .ok (.aload_n 0, 1) := by decide +kernel
theorem dX4_init_133 : decode cX4_init 133 = .ok (.iload_n 1, 1) := by decide +kernel
theorem dX4_init_134 : decode cX4_init 134 = .ok (.iconst 4, 1) := by decide +kernel
theorem dX4_init_135 : decode cX4_init 135 = .ok (.bipush 50, 2) := by decide +kernel
theorem dX4_init_137 : decode cX4_init 137 = .ok (.invokevirtual 40, 3) := by decide +kernel
theorem dX4_init_140 : decode cX4_init 140 = .ok (.iinc 1 1, 3) := by decide +kernel
theorem dX4_init_143 : decode cX4_init 143 = .ok (.goto (-51), 3) := by decide +kernel
theorem dX4_init_146 : decode cX4_init 146 = .ok (.iconst 0, 1) := by decide +kernel
theorem dX4_init_147 : decode cX4_init 147 = .ok (.istore_n 1, 1) := by decide +kernel
theorem dX4_init_148 : decode cX4_init 148 = .ok (.iload_n 1, 1) := by decide +kernel
theorem dX4_init_149 : decode cX4_init 149 = .ok (.bipush 10, 2) := by decide +kernel
theorem dX4_init_151 : decode cX4_init 151 = .ok (.if_icmp .ge 19, 3) := by decide +kernel
theorem dX4_init_154 : decode cX4_init 154 = .ok (.aload_n 0, 1) := by decide +kernel
theorem dX4_init_155 : decode cX4_init 155 = .ok (.getfield 9, 3) := by decide +kernel
theorem dX4_init_158 : decode cX4_init 158 = .ok (.bipush 109, 2) := by decide +kernel
theorem dX4_init_160 : decode cX4_init 160 = .ok (.iload_n 1, 1) := by decide +kernel
theorem dX4_init_161 : decode cX4_init 161 = .ok (.iadd, 1) := by decide +kernel
theorem dX4_init_162 : decode cX4_init 162 = .ok (.iconst (-1), 1) := by decide +kernel
theorem dX4_init_163 : decode cX4_init 163 = .ok (.iastore, 1) := by decide +kernel
theorem dX4_init_164 : decode cX4_init 164 = .ok (.iinc 1 1, 3) := by decide +kernel
theorem dX4_init_167 : decode cX4_init 167 = .ok (.goto (-19), 3) := by decide +kernel
theorem dX4_init_170 : decode cX4_init 170 = .ok (.return_, 1) := by decide +kernel
theorem dX4_finds_0 : decode cX4_finds 0 = .ok (.aload_n 0, 1) := by decide +kernel
theorem dX4_finds_1 : decode cX4_finds 1 = .ok (.getfield 19, 3) := by decide +kernel
theorem dX4_finds_4 : decode cX4_finds 4 = .ok (.iload_n 1, 1) := by decide +kernel
theorem dX4_finds_5 : decode cX4_finds 5 = .ok (.dup2, 1) := by decide +kernel
theorem dX4_finds_6 : decode cX4_finds 6 = .ok (.iaload, 1) := by decide +kernel
theorem dX4_finds_7 : decode cX4_finds 7 = .ok (.iconst 1, 1) := by decide +kernel
theorem dX4_finds_8 : decode cX4_finds 8 = .ok (.iadd, 1) := by decide +kernel
theorem dX4_finds_9 : decode cX4_finds 9 = .ok (.iastore, 1) := by decide +kernel
theorem dX4_finds_10 : decode cX4_finds 10 = .ok (.ldc 50, 2) := by decide +kernel
theorem dX4_finds_12 : decode cX4_finds 12 = .ok (.iload_n 1, 1) := by decide +kernel
theorem dX4_finds_13 : decode cX4_finds 13 = .ok (.isub, 1) := by decide +kernel
theorem dX4_finds_14 : decode cX4_finds 14 = .ok (.ireturn, 1) := by decide +kernel
theorem dX4_in_0 : decode cX4_in 0 = .ok (.lload_n 0, 1) := by decide +kernel
theorem dX4_in_1 : decode cX4_in 1 = .ok (.lload_n 2, 1) := by decide +kernel
theorem dX4_in_2 : decode cX4_in 2 = .ok (.lcmp, 1) := by decide +kernel
theorem dX4_in_3 : decode cX4_in 3 = .ok (.ifCond .lt 14, 3) := by decide +kernel
theorem dX4_in_6 : decode cX4_in 6 = .ok (.lload_n 0, 1) := by decide +kernel
theorem dX4_in_7 : decode cX4_in 7 = .ok (.lload 4, 2) := by decide +kernel
theorem dX4_in_9 : decode cX4_in 9 = .ok (.lcmp, 1) := by decide +kernel
theorem dX4_in_10 : decode cX4_in 10 = .ok (.ifCond .gt 7, 3) := by decide +kernel
theorem dX4_in_13 : decode cX4_in 13 = .ok (.iconst 1, 1) := by decide +kernel
theorem dX4_in_14 : decode cX4_in 14 = .ok (.goto 4, 3) := by decide +kernel
theorem dX4_in_17 : decode cX4_in 17 = .ok (.iconst 0, 1) := by decide +kernel
theorem dX4_in_18 : decode cX4_in 18 = .ok (.ireturn, 1) := by decide +kernel
theorem dX4_become_0 : decode cX4_become 0 = .ok (.iconst 0, 1) := by decide +kernel
theorem dX4_become_1 : decode cX4_become 1 = .ok (.istore_n 2, 1) := by decide +kernel
theorem dX4_become_2 : decode cX4_become 2 = .ok (.iload_n 2, 1) := by decide +kernel
theorem dX4_become_3 : decode cX4_become 3 = .ok (.bipush 119, 2) := by decide +kernel
theorem dX4_become_5 : decode cX4_become 5 = .ok (.if_icmp .ge 15, 3) := by decide +kernel
theorem dX4_become_8 : decode cX4_become 8 = .ok (.aload_n 1, 1) := by decide +kernel
theorem dX4_become_9 : decode cX4_become 9 = .ok (.iload_n 2, 1) := by decide +kernel
theorem dX4_become_10 : decode cX4_become 10 = .ok (.aload_n 0, 1) := by decide +kernel
theorem dX4_become_11 : decode cX4_become 11 = .ok (.iload_n 2, 1) := by decide +kernel
theorem dX4_become_12 : decode cX4_become 12 = .ok (.iaload, 1) := by decide +kernel
theorem dX4_become_13 : decode cX4_become 13 = .ok (.iastore, 1) := by decide +kernel
theorem dX4_become_14 : decode cX4_become 14 = .ok (.iinc 2 1, 3) := by decide +kernel
theorem dX4_become_17 : decode cX4_become 17 = .ok (.goto (-15), 3) := by decide +kernel
theorem dX4_become_20 : decode cX4_become 20 = .ok (.return_, 1) := by decide +kernel
theorem dX4_lends_0 : decode cX4_lends 0 = .ok (.aload_n 0, 1) := by decide +kernel
theorem dX4_lends_1 : decode cX4_lends 1 = .ok (.getfield 9, 3) := by decide +kernel
theorem dX4_lends_4 : decode cX4_lends 4 = .ok (.aload_n 0, 1) := by decide +kernel
theorem dX4_lends_5 : decode cX4_lends 5 = .ok (.getfield 16, 3) := by decide +kernel
theorem dX4_lends_8 : decode cX4_lends 8 = .ok (.invokestatic 51, 3) := by decide +kernel
theorem dX4_lends_11 : decode cX4_lends 11 = .ok (.return_, 1) := by decide +kernel
theorem dX4_laysBack_0 : decode cX4_laysBack 0 = .ok (.aload_n 0, 1) := by decide +kernel
theorem dX4_laysBack_1 : decode cX4_laysBack 1 = .ok (.getfield 16, 3) := by decide +kernel
theorem dX4_laysBack_4 : decode cX4_laysBack 4 = .ok (.aload_n 0, 1) := by decide +kernel
theorem dX4_laysBack_5 : decode cX4_laysBack 5 = .ok (.getfield 9, 3) := by decide +kernel
theorem dX4_laysBack_8 : decode cX4_laysBack 8 = .ok (.invokestatic 51, 3) := by decide +kernel
theorem dX4_laysBack_11 : decode cX4_laysBack 11 = .ok (.return_, 1) := by decide +kernel
theorem dX4_isCorner_0 : decode cX4_isCorner 0 = .ok (.iload_n 0, 1) := by decide +kernel
theorem dX4_isCorner_1 : decode cX4_isCorner 1 = .ok (.i2l, 1) := by decide +kernel
theorem dX4_isCorner_2 : decode cX4_isCorner 2 = .ok (.lconst 0, 1) := by decide +kernel
theorem dX4_isCorner_3 : decode cX4_isCorner 3 = .ok (.ldc2_w 55, 3) := by decide +kernel
theorem dX4_isCorner_6 : decode cX4_isCorner 6 = .ok (.invokestatic 57, 3) := by decide +kernel
theorem dX4_isCorner_9 : decode cX4_isCorner 9 = .ok (.ireturn, 1) := by decide +kernel
theorem dX4_isWhisper_0 : decode cX4_isWhisper 0 = .ok (.iload_n 1, 1) := by decide +kernel
theorem dX4_isWhisper_1 : decode cX4_isWhisper 1 = .ok (.i2l, 1) := by decide +kernel
theorem dX4_isWhisper_2 : decode cX4_isWhisper 2 = .ok (.lconst 0, 1) := by decide +kernel
theorem dX4_isWhisper_3 : decode cX4_isWhisper 3 = .ok (.aload_n 0, 1) := by decide +kernel
theorem dX4_isWhisper_4 : decode cX4_isWhisper 4 = .ok (.getfield 9, 3) := by decide +kernel
theorem dX4_isWhisper_7 : decode cX4_isWhisper 7 = .ok (.iconst 1, 1) := by decide +kernel
theorem dX4_isWhisper_8 : decode cX4_isWhisper 8 = .ok (.iaload, 1) := by decide +kernel
theorem dX4_isWhisper_9 : decode cX4_isWhisper 9 = .ok (.iconst 1, 1) := by decide +kernel
theorem dX4_isWhisper_10 : decode cX4_isWhisper 10 = .ok (.isub, 1) := by decide +kernel
theorem dX4_isWhisper_11 : decode cX4_isWhisper 11 = .ok (.i2l, 1) := by decide +kernel
theorem dX4_isWhisper_12 : decode cX4_isWhisper 12 = .ok (.invokestatic 57, 3) := by decide +kernel
theorem dX4_isWhisper_15 : decode cX4_isWhisper 15 = .ok (.ireturn, 1) := by decide +kernel
theorem dX4_isSet_0 : decode cX4_isSet 0 = .ok (.iload_n 0, 1) := by decide +kernel
theorem dX4_isSet_1 : decode cX4_isSet 1 = .ok (.i2l, 1) := by decide +kernel
theorem dX4_isSet_2 : decode cX4_isSet 2 = .ok (.lconst 0, 1) := by decide +kernel
theorem dX4_isSet_3 : decode cX4_isSet 3 = .ok (.ldc2_w 61, 3) := by decide +kernel
theorem dX4_isSet_6 : decode cX4_isSet 6 = .ok (.invokestatic 57, 3) := by decide +kernel
theorem dX4_isSet_9 : decode cX4_isSet 9 = .ok (.ireturn, 1) := by decide +kernel
theorem dX4_part_0 : decode cX4_part 0 = .ok (.aload_n 0, 1) := by decide +kernel
theorem dX4_part_1 : decode cX4_part 1 = .ok (.getfield 9, 3) := by decide +kernel
theorem dX4_part_4 : decode cX4_part 4 = .ok (.iconst 5, 1) := by decide +kernel
theorem dX4_part_5 : decode cX4_part 5 = .ok (.iconst 5, 1) := by decide +kernel
theorem dX4_part_6 : decode cX4_part 6 = .ok (.iload_n 1, 1) := by decide +kernel
theorem dX4_part_7 : decode cX4_part 7 = .ok (.imul, 1) := by decide +kernel
theorem dX4_part_8 : decode cX4_part 8 = .ok (.iadd, 1) := by decide +kernel
theorem dX4_part_9 : decode cX4_part 9 = .ok (.iload_n 2, 1) := by decide +kernel
theorem dX4_part_10 : decode cX4_part 10 = .ok (.iadd, 1) := by decide +kernel
theorem dX4_part_11 : decode cX4_part 11 = .ok (.iaload, 1) := by decide +kernel
theorem dX4_part_12 : decode cX4_part 12 = .ok (.ireturn, 1) := by decide +kernel
theorem dX4_builds_0 : decode cX4_builds 0 = .ok (.aload_n 0, 1) := by decide +kernel
theorem dX4_builds_1 : decode cX4_builds 1 = .ok (.getfield 9, 3) := by decide +kernel
theorem dX4_builds_4 : decode cX4_builds 4 = .ok (.iconst 5, 1) := by decide +kernel
theorem dX4_builds_5 : decode cX4_builds 5 = .ok (.iconst 5, 1) := by decide +kernel
theorem dX4_builds_6 : decode cX4_builds 6 = .ok (.iload_n 1, 1) := by decide +kernel
theorem dX4_builds_7 : decode cX4_builds 7 = .ok (.imul, 1) := by decide +kernel
theorem dX4_builds_8 : decode cX4_builds 8 = .ok (.iadd, 1) := by decide +kernel
theorem dX4_builds_9 : decode cX4_builds 9 = .ok (.iload_n 2, 1) := by decide +kernel
theorem dX4_builds_10 : decode cX4_builds 10 = .ok (.iadd, 1) := by decide +kernel
theorem dX4_builds_11 : decode cX4_builds 11 = .ok (.iload_n 3, 1) := by decide +kernel
theorem dX4_builds_12 : decode cX4_builds 12 = .ok (.iastore, 1) := by decide +kernel
theorem dX4_builds_13 : decode cX4_builds 13 = .ok (.return_, 1) := by decide +kernel
theorem dX4_its_0 : decode cX4_its 0 = .ok (.aload_n 0, 1) := by decide +kernel
theorem dX4_its_1 : decode cX4_its 1 = .ok (.getfield 9, 3) := by decide +kernel
theorem dX4_its_4 : decode cX4_its 4 = .ok (.bipush 85, 2) := by decide +kernel
theorem dX4_its_6 : decode cX4_its 6 = .ok (.iconst 3, 1) := by decide +kernel
theorem dX4_its_7 : decode cX4_its 7 = .ok (.iload_n 1, 1) := by decide +kernel
theorem dX4_its_8 : decode cX4_its 8 = .ok (.imul, 1) := by decide +kernel
theorem dX4_its_9 : decode cX4_its 9 = .ok (.iadd, 1) := by decide +kernel
theorem dX4_its_10 : decode cX4_its 10 = .ok (.iload_n 2, 1) := by decide +kernel
theorem dX4_its_11 : decode cX4_its 11 = .ok (.iadd, 1) := by decide +kernel
theorem dX4_its_12 : decode cX4_its 12 = .ok (.iaload, 1) := by decide +kernel
theorem dX4_its_13 : decode cX4_its 13 = .ok (.ireturn, 1) := by decide +kernel
theorem dX4_sets_0 : decode cX4_sets 0 = .ok (.aload_n 0, 1) := by decide +kernel
theorem dX4_sets_1 : decode cX4_sets 1 = .ok (.getfield 9, 3) := by decide +kernel
theorem dX4_sets_4 : decode cX4_sets 4 = .ok (.bipush 85, 2) := by decide +kernel
theorem dX4_sets_6 : decode cX4_sets 6 = .ok (.iconst 3, 1) := by decide +kernel
theorem dX4_sets_7 : decode cX4_sets 7 = .ok (.iload_n 1, 1) := by decide +kernel
theorem dX4_sets_8 : decode cX4_sets 8 = .ok (.imul, 1) := by decide +kernel
theorem dX4_sets_9 : decode cX4_sets 9 = .ok (.iadd, 1) := by decide +kernel
theorem dX4_sets_10 : decode cX4_sets 10 = .ok (.iload_n 2, 1) := by decide +kernel
theorem dX4_sets_11 : decode cX4_sets 11 = .ok (.iadd, 1) := by decide +kernel
theorem dX4_sets_12 : decode cX4_sets 12 = .ok (.iload_n 3, 1) := by decide +kernel
theorem dX4_sets_13 : decode cX4_sets 13 = .ok (.iastore, 1) := by decide +kernel
theorem dX4_sets_14 : decode cX4_sets 14 = .ok (.return_, 1) := by decide +kernel
theorem dX4_becomes_0 : decode cX4_becomes 0 = .ok (.aload_n 0, 1) := by decide +kernel
theorem dX4_becomes_1 : decode cX4_becomes 1 = .ok (.getfield 9, 3) := by decide +kernel
theorem dX4_becomes_4 : decode cX4_becomes 4 = .ok (.iload_n 1, 1) := by decide +kernel
theorem dX4_becomes_5 : decode cX4_becomes 5 = .ok (.iaload, 1) := by decide +kernel
theorem dX4_becomes_6 : decode cX4_becomes 6 = .ok (.istore_n 3, 1) := by decide +kernel
theorem dX4_becomes_7 : decode cX4_becomes 7 = .ok (.aload_n 0, 1) := by decide +kernel
theorem dX4_becomes_8 : decode cX4_becomes 8 = .ok (.getfield 9, 3) := by decide +kernel
theorem dX4_becomes_11 : decode cX4_becomes 11 = .ok (.iload_n 1, 1) := by decide +kernel
theorem dX4_becomes_12 : decode cX4_becomes 12 = .ok (.iload_n 2, 1) := by decide +kernel
theorem dX4_becomes_13 : decode cX4_becomes 13 = .ok (.iastore, 1) := by decide +kernel
theorem dX4_becomes_14 : decode cX4_becomes 14 = .ok (.iload_n 3, 1) := by decide +kernel
theorem dX4_becomes_15 : decode cX4_becomes 15 = .ok (.ireturn, 1) := by decide +kernel
theorem dX4_steep_0 : decode cX4_steep 0 = .ok (.iconst 0, 1) := by decide +kernel
theorem dX4_steep_1 : decode cX4_steep 1 = .ok (.aload_n 0, 1) := by decide +kernel
theorem dX4_steep_2 : decode cX4_steep 2 = .ok (.iload_n 1, 1) := by decide +kernel
theorem dX4_steep_3 : decode cX4_steep 3 = .ok (.iconst 0, 1) := by decide +kernel
theorem dX4_steep_4 : decode cX4_steep 4 = .ok (.invokevirtual 63, 3) := by decide +kernel
theorem dX4_steep_7 : decode cX4_steep 7 = .ok (.aload_n 0, 1) := by decide +kernel
theorem dX4_steep_8 : decode cX4_steep 8 = .ok (.aload_n 0, 1) := by decide +kernel
theorem dX4_steep_9 : decode cX4_steep 9 = .ok (.iload_n 1, 1) := by decide +kernel
theorem dX4_steep_10 : decode cX4_steep 10 = .ok (.iconst 1, 1) := by decide +kernel
theorem dX4_steep_11 : decode cX4_steep 11 = .ok (.invokevirtual 63, 3) := by decide +kernel
theorem dX4_steep_14 : decode cX4_steep 14 = .ok (.iconst 0, 1) := by decide +kernel
theorem dX4_steep_15 : decode cX4_steep 15 = .ok (.invokevirtual 63, 3) := by decide +kernel
theorem dX4_steep_18 : decode cX4_steep 18 = .ok (.isub, 1) := by decide +kernel
theorem dX4_steep_19 : decode cX4_steep 19 = .ok (.invokestatic 66, 3) := by decide +kernel
theorem dX4_steep_22 : decode cX4_steep 22 = .ok (.ireturn, 1) := by decide +kernel
theorem dX4_loudAt_0 : decode cX4_loudAt 0 = .ok (.iconst 0, 1) := by decide +kernel
theorem dX4_loudAt_1 : decode cX4_loudAt 1 = .ok (.istore_n 2, 1) := by decide +kernel
theorem dX4_loudAt_2 : decode cX4_loudAt 2 = .ok (.iconst 0, 1) := by decide +kernel
theorem dX4_loudAt_3 : decode cX4_loudAt 3 = .ok (.istore_n 3, 1) := by decide +kernel
theorem dX4_loudAt_4 : decode cX4_loudAt 4 = .ok (.iload_n 3, 1) := by decide +kernel
theorem dX4_loudAt_5 : decode cX4_loudAt 5 = .ok (.aload_n 0, 1) := by decide +kernel
theorem dX4_loudAt_6 : decode cX4_loudAt 6 = .ok (.getfield 9, 3) := by decide +kernel
theorem dX4_loudAt_9 : decode cX4_loudAt 9 = .ok (.iconst 1, 1) := by decide +kernel
theorem dX4_loudAt_10 : decode cX4_loudAt 10 = .ok (.iaload, 1) := by decide +kernel
theorem dX4_loudAt_11 : decode cX4_loudAt 11 = .ok (.if_icmp .ge 32, 3) := by decide +kernel
theorem dX4_loudAt_14 : decode cX4_loudAt 14 = .ok (.iload_n 2, 1) := by decide +kernel
theorem dX4_loudAt_15 : decode cX4_loudAt 15 = .ok (.aload_n 0, 1) := by decide +kernel
theorem dX4_loudAt_16 : decode cX4_loudAt 16 = .ok (.iload_n 3, 1) := by decide +kernel
theorem dX4_loudAt_17 : decode cX4_loudAt 17 = .ok (.iconst 1, 1) := by decide +kernel
theorem dX4_loudAt_18 : decode cX4_loudAt 18 = .ok (.invokevirtual 69, 3) := by decide +kernel
theorem dX4_loudAt_21 : decode cX4_loudAt 21 = .ok (.iload_n 1, 1) := by decide +kernel
theorem dX4_loudAt_22 : decode cX4_loudAt 22 = .ok (.if_icmp .ne 12, 3) := by decide +kernel
theorem dX4_loudAt_25 : decode cX4_loudAt 25 = .ok (.aload_n 0, 1) := by decide +kernel
theorem dX4_loudAt_26 : decode cX4_loudAt 26 = .ok (.iload_n 3, 1) := by decide +kernel
theorem dX4_loudAt_27 : decode cX4_loudAt 27 = .ok (.iconst 2, 1) := by decide +kernel
theorem dX4_loudAt_28 : decode cX4_loudAt 28 = .ok (.invokevirtual 69, 3) := by decide +kernel
theorem dX4_loudAt_31 : decode cX4_loudAt 31 = .ok (.goto 4, 3) := by decide +kernel
theorem dX4_loudAt_34 : decode cX4_loudAt 34 = .ok (.iconst 0, 1) := by decide +kernel
theorem dX4_loudAt_35 : decode cX4_loudAt 35 = .ok (.iadd, 1) := by decide +kernel
theorem dX4_loudAt_36 : decode cX4_loudAt 36 = .ok (.istore_n 2, 1) := by decide +kernel
theorem dX4_loudAt_37 : decode cX4_loudAt 37 = .ok (.iinc 3 1, 3) := by decide +kernel
theorem dX4_loudAt_40 : decode cX4_loudAt 40 = .ok (.goto (-36), 3) := by decide +kernel
theorem dX4_loudAt_43 : decode cX4_loudAt 43 = .ok (.iload_n 2, 1) := by decide +kernel
theorem dX4_loudAt_44 : decode cX4_loudAt 44 = .ok (.ireturn, 1) := by decide +kernel
theorem dX4_isHeard_0 : decode cX4_isHeard 0 = .ok (.aload_n 0, 1) := by decide +kernel
theorem dX4_isHeard_1 : decode cX4_isHeard 1 = .ok (.iload_n 1, 1) := by decide +kernel
theorem dX4_isHeard_2 : decode cX4_isHeard 2 = .ok (.invokevirtual 72, 3) := by decide +kernel
theorem dX4_isHeard_5 : decode cX4_isHeard 5 = .ok (.aload_n 0, 1) := by decide +kernel
theorem dX4_isHeard_6 : decode cX4_isHeard 6 = .ok (.iload_n 1, 1) := by decide +kernel
theorem dX4_isHeard_7 : decode cX4_isHeard 7 = .ok (.iconst 4, 1) := by decide +kernel
theorem dX4_isHeard_8 : decode cX4_isHeard 8 = .ok (.invokevirtual 63, 3) := by decide +kernel
theorem dX4_isHeard_11 : decode cX4_isHeard 11 = .ok (.if_icmp .lt 7, 3) := by decide +kernel
theorem dX4_isHeard_14 : decode cX4_isHeard 14 = .ok (.iconst 1, 1) := by decide +kernel
theorem dX4_isHeard_15 : decode cX4_isHeard 15 = .ok (.goto 4, 3) := by decide +kernel
theorem dX4_isHeard_18 : decode cX4_isHeard 18 = .ok (.iconst 0, 1) := by decide +kernel
theorem dX4_isHeard_19 : decode cX4_isHeard 19 = .ok (.ireturn, 1) := by decide +kernel
theorem dX4_rent_0 : decode cX4_rent 0 = .ok (.aload_n 0, 1) := by decide +kernel
theorem dX4_rent_1 : decode cX4_rent 1 = .ok (.iload_n 1, 1) := by decide +kernel
theorem dX4_rent_2 : decode cX4_rent 2 = .ok (.iconst 0, 1) := by decide +kernel
theorem dX4_rent_3 : decode cX4_rent 3 = .ok (.invokevirtual 63, 3) := by decide +kernel
theorem dX4_rent_6 : decode cX4_rent 6 = .ok (.iconst 0, 1) := by decide +kernel
theorem dX4_rent_7 : decode cX4_rent 7 = .ok (.bipush 50, 2) := by decide +kernel
theorem dX4_rent_9 : decode cX4_rent 9 = .ok (.aload_n 0, 1) := by decide +kernel
theorem dX4_rent_10 : decode cX4_rent 10 = .ok (.iload_n 1, 1) := by decide +kernel
theorem dX4_rent_11 : decode cX4_rent 11 = .ok (.invokevirtual 72, 3) := by decide +kernel
theorem dX4_rent_14 : decode cX4_rent 14 = .ok (.isub, 1) := by decide +kernel
theorem dX4_rent_15 : decode cX4_rent 15 = .ok (.invokestatic 66, 3) := by decide +kernel
theorem dX4_rent_18 : decode cX4_rent 18 = .ok (.iadd, 1) := by decide +kernel
theorem dX4_rent_19 : decode cX4_rent 19 = .ok (.ireturn, 1) := by decide +kernel
theorem dX4_corner_0 : decode cX4_corner 0 = .ok (.iload_n 1, 1) := by decide +kernel
theorem dX4_corner_1 : decode cX4_corner 1 = .ok (.invokestatic 76, 3) := by decide +kernel
theorem dX4_corner_4 : decode cX4_corner 4 = .ok (.ifCond .eq 15, 3) := by decide +kernel
theorem dX4_corner_7 : decode cX4_corner 7 = .ok (.iload_n 2, 1) := by decide +kernel
theorem dX4_corner_8 : decode cX4_corner 8 = .ok (.i2l, 1) := by decide +kernel
theorem dX4_corner_9 : decode cX4_corner 9 = .ok (.lconst 0, 1) := by decide +kernel
theorem dX4_corner_10 : decode cX4_corner 10 = .ok (.ldc2_w 80, 3) := by decide +kernel
theorem dX4_corner_13 : decode cX4_corner 13 = .ok (.invokestatic 57, 3) := by decide +kernel
theorem dX4_corner_16 : decode cX4_corner 16 = .ok (.ifCond .ne 9, 3) := by decide +kernel
theorem dX4_corner_19 : decode cX4_corner 19 = .ok (.aload_n 0, 1) := by decide +kernel
theorem dX4_corner_20 : decode cX4_corner 20 = .ok (.iconst 0, 1) := by decide +kernel
theorem dX4_corner_21 : decode cX4_corner 21 = .ok (.invokevirtual 82, 3) := by decide +kernel
theorem dX4_corner_24 : decode cX4_corner 24 = .ok (.ireturn, 1) := by decide +kernel
theorem dX4_corner_25 : decode cX4_corner 25 = .ok (.iload_n 2, 1) := by decide +kernel
theorem dX4_corner_26 : decode cX4_corner 26 = .ok (.tableswitch 62 5 8 #[30, 36, 42, 56], 30) := by decide +kernel
theorem dX4_corner_56 : decode cX4_corner 56 = .ok (.aload_n 0, 1) := by decide +kernel
theorem dX4_corner_57 : decode cX4_corner 57 = .ok (.iload_n 1, 1) := by decide +kernel
theorem dX4_corner_58 : decode cX4_corner 58 = .ok (.invokevirtual 85, 3) := by decide +kernel
theorem dX4_corner_61 : decode cX4_corner 61 = .ok (.ireturn, 1) := by decide +kernel
theorem dX4_corner_62 : decode cX4_corner 62 = .ok (.aload_n 0, 1) := by decide +kernel
theorem dX4_corner_63 : decode cX4_corner 63 = .ok (.iload_n 1, 1) := by decide +kernel
theorem dX4_corner_64 : decode cX4_corner 64 = .ok (.invokevirtual 72, 3) := by decide +kernel
theorem dX4_corner_67 : decode cX4_corner 67 = .ok (.ireturn, 1) := by decide +kernel
theorem dX4_corner_68 : decode cX4_corner 68 = .ok (.aload_n 0, 1) := by decide +kernel
theorem dX4_corner_69 : decode cX4_corner 69 = .ok (.iload_n 1, 1) := by decide +kernel
theorem dX4_corner_70 : decode cX4_corner 70 = .ok (.invokevirtual 88, 3) := by decide +kernel
theorem dX4_corner_73 : decode cX4_corner 73 = .ok (.ifCond .eq 7, 3) := by decide +kernel
theorem dX4_corner_76 : decode cX4_corner 76 = .ok (.iconst 1, 1) := by decide +kernel
theorem dX4_corner_77 : decode cX4_corner 77 = .ok (.goto 4, 3) := by decide +kernel
theorem dX4_corner_80 : decode cX4_corner 80 = .ok (.iconst 0, 1) := by decide +kernel
theorem dX4_corner_81 : decode cX4_corner 81 = .ok (.ireturn, 1) := by decide +kernel
theorem dX4_corner_82 : decode cX4_corner 82 = .ok (.aload_n 0, 1) := by decide +kernel
theorem dX4_corner_83 : decode cX4_corner 83 = .ok (.iload_n 1, 1) := by decide +kernel
theorem dX4_corner_84 : decode cX4_corner 84 = .ok (.invokevirtual 91, 3) := by decide +kernel
theorem dX4_corner_87 : decode cX4_corner 87 = .ok (.ireturn, 1) := by decide +kernel
theorem dX4_corner_88 : decode cX4_corner 88 = .ok (.aload_n 0, 1) := by decide +kernel
theorem dX4_corner_89 : decode cX4_corner 89 = .ok (.iload_n 1, 1) := by decide +kernel
theorem dX4_corner_90 : decode cX4_corner 90 = .ok (.iload_n 2, 1) := by decide +kernel
theorem dX4_corner_91 : decode cX4_corner 91 = .ok (.invokevirtual 63, 3) := by decide +kernel
theorem dX4_corner_94 : decode cX4_corner 94 = .ok (.ireturn, 1) := by decide +kernel
theorem dX4_mostOf_0 : decode cX4_mostOf 0 = .ok (.iload_n 0, 1) := by decide +kernel
theorem dX4_mostOf_1 : decode cX4_mostOf 1 = .ok (.iconst 1, 1) := by decide +kernel
theorem dX4_mostOf_2 : decode cX4_mostOf 2 = .ok (.if_icmp .ne 8, 3) := by decide +kernel
theorem dX4_mostOf_5 : decode cX4_mostOf 5 = .ok (.bipush 15, 2) := by decide +kernel
theorem dX4_mostOf_7 : decode cX4_mostOf 7 = .ok (.goto 15, 3) := by decide +kernel
theorem dX4_mostOf_10 : decode cX4_mostOf 10 = .ok (.iload_n 0, 1) := by decide +kernel
theorem dX4_mostOf_11 : decode cX4_mostOf 11 = .ok (.iconst 2, 1) := by decide +kernel
theorem dX4_mostOf_12 : decode cX4_mostOf 12 = .ok (.if_icmp .ne 8, 3) := by decide +kernel
theorem dX4_mostOf_15 : decode cX4_mostOf 15 = .ok (.bipush 9, 2) := by decide +kernel
theorem dX4_mostOf_17 : decode cX4_mostOf 17 = .ok (.goto 5, 3) := by decide +kernel
theorem dX4_mostOf_20 : decode cX4_mostOf 20 = .ok (.bipush 99, 2) := by decide +kernel
theorem dX4_mostOf_22 : decode cX4_mostOf 22 = .ok (.ireturn, 1) := by decide +kernel
theorem dX4_build_0 : decode cX4_build 0 = .ok (.iload_n 1, 1) := by decide +kernel
theorem dX4_build_1 : decode cX4_build 1 = .ok (.invokestatic 76, 3) := by decide +kernel
theorem dX4_build_4 : decode cX4_build 4 = .ok (.ifCond .eq 33, 3) := by decide +kernel
theorem dX4_build_7 : decode cX4_build 7 = .ok (.iload_n 2, 1) := by decide +kernel
theorem dX4_build_8 : decode cX4_build 8 = .ok (.i2l, 1) := by decide +kernel
theorem dX4_build_9 : decode cX4_build 9 = .ok (.lconst 0, 1) := by decide +kernel
theorem dX4_build_10 : decode cX4_build 10 = .ok (.ldc2_w 94, 3) := by decide +kernel
theorem dX4_build_13 : decode cX4_build 13 = .ok (.invokestatic 57, 3) := by decide +kernel
theorem dX4_build_16 : decode cX4_build 16 = .ok (.ifCond .eq 21, 3) := by decide +kernel
theorem dX4_build_19 : decode cX4_build 19 = .ok (.iload_n 3, 1) := by decide +kernel
theorem dX4_build_20 : decode cX4_build 20 = .ok (.i2l, 1) := by decide +kernel
theorem dX4_build_21 : decode cX4_build 21 = .ok (.lconst 0, 1) := by decide +kernel
theorem dX4_build_22 : decode cX4_build 22 = .ok (.iload_n 2, 1) := by decide +kernel
theorem dX4_build_23 : decode cX4_build 23 = .ok (.invokestatic 96, 3) := by decide +kernel
theorem dX4_build_26 : decode cX4_build 26 = .ok (.i2l, 1) := by decide +kernel
theorem dX4_build_27 : decode cX4_build 27 = .ok (.invokestatic 57, 3) := by decide +kernel
theorem dX4_build_30 : decode cX4_build 30 = .ok (.ifCond .eq 7, 3) := by decide +kernel
theorem dX4_build_33 : decode cX4_build 33 = .ok (.iconst 1, 1) := by decide +kernel
theorem dX4_build_34 : decode cX4_build 34 = .ok (.goto 4, 3) := by decide +kernel
theorem dX4_build_37 : decode cX4_build 37 = .ok (.iconst 0, 1) := by decide +kernel
theorem dX4_build_38 : decode cX4_build 38 = .ok (.istore 4, 2) := by decide +kernel
theorem dX4_build_40 : decode cX4_build 40 = .ok (.iload 4, 2) := by decide +kernel
theorem dX4_build_42 : decode cX4_build 42 = .ok (.ifCond .eq 18, 3) := by decide +kernel
theorem dX4_build_45 : decode cX4_build 45 = .ok (.aload_n 0, 1) := by decide +kernel
theorem dX4_build_46 : decode cX4_build 46 = .ok (.iconst 5, 1) := by decide +kernel
theorem dX4_build_47 : decode cX4_build 47 = .ok (.iconst 5, 1) := by decide +kernel
theorem dX4_build_48 : decode cX4_build 48 = .ok (.iload_n 1, 1) := by decide +kernel
theorem dX4_build_49 : decode cX4_build 49 = .ok (.imul, 1) := by decide +kernel
theorem dX4_build_50 : decode cX4_build 50 = .ok (.iadd, 1) := by decide +kernel
theorem dX4_build_51 : decode cX4_build 51 = .ok (.iload_n 2, 1) := by decide +kernel
theorem dX4_build_52 : decode cX4_build 52 = .ok (.iadd, 1) := by decide +kernel
theorem dX4_build_53 : decode cX4_build 53 = .ok (.iload_n 3, 1) := by decide +kernel
theorem dX4_build_54 : decode cX4_build 54 = .ok (.invokevirtual 99, 3) := by decide +kernel
theorem dX4_build_57 : decode cX4_build 57 = .ok (.goto 8, 3) := by decide +kernel
theorem dX4_build_60 : decode cX4_build 60 = .ok (.aload_n 0, 1) := by decide +kernel
theorem dX4_build_61 : decode cX4_build 61 = .ok (.iconst 0, 1) := by decide +kernel
theorem dX4_build_62 : decode cX4_build 62 = .ok (.invokevirtual 82, 3) := by decide +kernel
theorem dX4_build_65 : decode cX4_build 65 = .ok (.ireturn, 1) := by decide +kernel
theorem dX4_aboveOf_0 : decode cX4_aboveOf 0 = .ok (.iload_n 0, 1) := by decide +kernel
theorem dX4_aboveOf_1 : decode cX4_aboveOf 1 = .ok (.iconst 3, 1) := by decide +kernel
theorem dX4_aboveOf_2 : decode cX4_aboveOf 2 = .ok (.if_icmp .ne 7, 3) := by decide +kernel
theorem dX4_aboveOf_5 : decode cX4_aboveOf 5 = .ok (.iconst 2, 1) := by decide +kernel
theorem dX4_aboveOf_6 : decode cX4_aboveOf 6 = .ok (.goto 23, 3) := by decide +kernel
theorem dX4_aboveOf_9 : decode cX4_aboveOf 9 = .ok (.iload_n 0, 1) := by decide +kernel
theorem dX4_aboveOf_10 : decode cX4_aboveOf 10 = .ok (.iconst 4, 1) := by decide +kernel
theorem dX4_aboveOf_11 : decode cX4_aboveOf 11 = .ok (.if_icmp .ne 7, 3) := by decide +kernel
theorem dX4_aboveOf_14 : decode cX4_aboveOf 14 = .ok (.iconst 3, 1) := by decide +kernel
theorem dX4_aboveOf_15 : decode cX4_aboveOf 15 = .ok (.goto 14, 3) := by decide +kernel
theorem dX4_aboveOf_18 : decode cX4_aboveOf 18 = .ok (.iload_n 0, 1) := by decide +kernel
theorem dX4_aboveOf_19 : decode cX4_aboveOf 19 = .ok (.bipush 6, 2) := by decide +kernel
theorem dX4_aboveOf_21 : decode cX4_aboveOf 21 = .ok (.if_icmp .ne 7, 3) := by decide +kernel
theorem dX4_aboveOf_24 : decode cX4_aboveOf 24 = .ok (.iconst 1, 1) := by decide +kernel
theorem dX4_aboveOf_25 : decode cX4_aboveOf 25 = .ok (.goto 4, 3) := by decide +kernel
theorem dX4_aboveOf_28 : decode cX4_aboveOf 28 = .ok (.iconst 0, 1) := by decide +kernel
theorem dX4_aboveOf_29 : decode cX4_aboveOf 29 = .ok (.ireturn, 1) := by decide +kernel
theorem dX4_isUnder_0 : decode cX4_isUnder 0 = .ok (.iload_n 0, 1) := by decide +kernel
theorem dX4_isUnder_1 : decode cX4_isUnder 1 = .ok (.istore_n 2, 1) := by decide +kernel
theorem dX4_isUnder_2 : decode cX4_isUnder 2 = .ok (.iload_n 2, 1) := by decide +kernel
theorem dX4_isUnder_3 : decode cX4_isUnder 3 = .ok (.ifCond .eq 16, 3) := by decide +kernel
theorem dX4_isUnder_6 : decode cX4_isUnder 6 = .ok (.iload_n 2, 1) := by decide +kernel
theorem dX4_isUnder_7 : decode cX4_isUnder 7 = .ok (.iload_n 1, 1) := by decide +kernel
theorem dX4_isUnder_8 : decode cX4_isUnder 8 = .ok (.if_icmp .eq 11, 3) := by decide +kernel
theorem dX4_isUnder_11 : decode cX4_isUnder 11 = .ok (.iload_n 2, 1) := by decide +kernel
theorem dX4_isUnder_12 : decode cX4_isUnder 12 = .ok (.invokestatic 102, 3) := by decide +kernel
theorem dX4_isUnder_15 : decode cX4_isUnder 15 = .ok (.istore_n 2, 1) := by decide +kernel
theorem dX4_isUnder_16 : decode cX4_isUnder 16 = .ok (.goto (-14), 3) := by decide +kernel
theorem dX4_isUnder_19 : decode cX4_isUnder 19 = .ok (.iload_n 2, 1) := by decide +kernel
theorem dX4_isUnder_20 : decode cX4_isUnder 20 = .ok (.iload_n 1, 1) := by decide +kernel
theorem dX4_isUnder_21 : decode cX4_isUnder 21 = .ok (.if_icmp .ne 7, 3) := by decide +kernel
theorem dX4_isUnder_24 : decode cX4_isUnder 24 = .ok (.iconst 1, 1) := by decide +kernel
theorem dX4_isUnder_25 : decode cX4_isUnder 25 = .ok (.goto 4, 3) := by decide +kernel
theorem dX4_isUnder_28 : decode cX4_isUnder 28 = .ok (.iconst 0, 1) := by decide +kernel
theorem dX4_isUnder_29 : decode cX4_isUnder 29 = .ok (.ireturn, 1) := by decide +kernel
theorem dX4_speed_0 : decode cX4_speed 0 = .ok (.aload_n 0, 1) := by decide +kernel
theorem dX4_speed_1 : decode cX4_speed 1 = .ok (.iload_n 1, 1) := by decide +kernel
theorem dX4_speed_2 : decode cX4_speed 2 = .ok (.iconst 1, 1) := by decide +kernel
theorem dX4_speed_3 : decode cX4_speed 3 = .ok (.invokevirtual 69, 3) := by decide +kernel
theorem dX4_speed_6 : decode cX4_speed 6 = .ok (.istore_n 2, 1) := by decide +kernel
theorem dX4_speed_7 : decode cX4_speed 7 = .ok (.iconst 3, 1) := by decide +kernel
theorem dX4_speed_8 : decode cX4_speed 8 = .ok (.aload_n 0, 1) := by decide +kernel
theorem dX4_speed_9 : decode cX4_speed 9 = .ok (.iload_n 2, 1) := by decide +kernel
theorem dX4_speed_10 : decode cX4_speed 10 = .ok (.invokevirtual 85, 3) := by decide +kernel
theorem dX4_speed_13 : decode cX4_speed 13 = .ok (.bipush 10, 2) := by decide +kernel
theorem dX4_speed_15 : decode cX4_speed 15 = .ok (.idiv, 1) := by decide +kernel
theorem dX4_speed_16 : decode cX4_speed 16 = .ok (.invokestatic 44, 3) := by decide +kernel
theorem dX4_speed_19 : decode cX4_speed 19 = .ok (.iconst 1, 1) := by decide +kernel
theorem dX4_speed_20 : decode cX4_speed 20 = .ok (.iadd, 1) := by decide +kernel
theorem dX4_speed_21 : decode cX4_speed 21 = .ok (.istore_n 3, 1) := by decide +kernel
theorem dX4_speed_22 : decode cX4_speed 22 = .ok (.iconst 0, 1) := by decide +kernel
theorem dX4_speed_23 : decode cX4_speed 23 = .ok (.iload_n 3, 1) := by decide +kernel
theorem dX4_speed_24 : decode cX4_speed 24 = .ok (.aload_n 0, 1) := by decide +kernel
theorem dX4_speed_25 : decode cX4_speed 25 = .ok (.iload_n 2, 1) := by decide +kernel
theorem dX4_speed_26 : decode cX4_speed 26 = .ok (.iconst 2, 1) := by decide +kernel
theorem dX4_speed_27 : decode cX4_speed 27 = .ok (.invokevirtual 63, 3) := by decide +kernel
theorem dX4_speed_30 : decode cX4_speed 30 = .ok (.isub, 1) := by decide +kernel
theorem dX4_speed_31 : decode cX4_speed 31 = .ok (.invokestatic 66, 3) := by decide +kernel
theorem dX4_speed_34 : decode cX4_speed 34 = .ok (.istore 4, 2) := by decide +kernel
theorem dX4_speed_36 : decode cX4_speed 36 = .ok (.iload 4, 2) := by decide +kernel
theorem dX4_speed_38 : decode cX4_speed 38 = .ok (.aload_n 0, 1) := by decide +kernel
theorem dX4_speed_39 : decode cX4_speed 39 = .ok (.iload_n 1, 1) := by decide +kernel
theorem dX4_speed_40 : decode cX4_speed 40 = .ok (.iconst 2, 1) := by decide +kernel
theorem dX4_speed_41 : decode cX4_speed 41 = .ok (.invokevirtual 69, 3) := by decide +kernel
theorem dX4_speed_44 : decode cX4_speed 44 = .ok (.bipush 100, 2) := by decide +kernel
theorem dX4_speed_46 : decode cX4_speed 46 = .ok (.idiv, 1) := by decide +kernel
theorem dX4_speed_47 : decode cX4_speed 47 = .ok (.iadd, 1) := by decide +kernel
theorem dX4_speed_48 : decode cX4_speed 48 = .ok (.istore 5, 2) := by decide +kernel
theorem dX4_speed_50 : decode cX4_speed 50 = .ok (.aload_n 0, 1) := by decide +kernel
theorem dX4_speed_51 : decode cX4_speed 51 = .ok (.iload_n 1, 1) := by decide +kernel
theorem dX4_speed_52 : decode cX4_speed 52 = .ok (.iconst 0, 1) := by decide +kernel
theorem dX4_speed_53 : decode cX4_speed 53 = .ok (.invokevirtual 69, 3) := by decide +kernel
theorem dX4_speed_56 : decode cX4_speed 56 = .ok (.tableswitch 100 1 6 #[40, 48, 55, 62, 71, 90], 40) := by decide +kernel
theorem dX4_speed_96 : decode cX4_speed 96 = .ok (.iload_n 3, 1) := by decide +kernel
theorem dX4_speed_97 : decode cX4_speed 97 = .ok (.iconst 1, 1) := by decide +kernel
theorem dX4_speed_98 : decode cX4_speed 98 = .ok (.iadd, 1) := by decide +kernel
theorem dX4_speed_99 : decode cX4_speed 99 = .ok (.istore 6, 2) := by decide +kernel
theorem dX4_speed_101 : decode cX4_speed 101 = .ok (.goto 58, 3) := by decide +kernel
theorem dX4_speed_104 : decode cX4_speed 104 = .ok (.iload 4, 2) := by decide +kernel
theorem dX4_speed_106 : decode cX4_speed 106 = .ok (.istore 6, 2) := by decide +kernel
theorem dX4_speed_108 : decode cX4_speed 108 = .ok (.goto 51, 3) := by decide +kernel
theorem dX4_speed_111 : decode cX4_speed 111 = .ok (.iload 5, 2) := by decide +kernel
theorem dX4_speed_113 : decode cX4_speed 113 = .ok (.istore 6, 2) := by decide +kernel
theorem dX4_speed_115 : decode cX4_speed 115 = .ok (.goto 44, 3) := by decide +kernel
theorem dX4_speed_118 : decode cX4_speed 118 = .ok (.iload 5, 2) := by decide +kernel
theorem dX4_speed_120 : decode cX4_speed 120 = .ok (.iconst 2, 1) := by decide +kernel
theorem dX4_speed_121 : decode cX4_speed 121 = .ok (.iadd, 1) := by decide +kernel
theorem dX4_speed_122 : decode cX4_speed 122 = .ok (.istore 6, 2) := by decide +kernel
theorem dX4_speed_124 : decode cX4_speed 124 = .ok (.goto 35, 3) := by decide +kernel
theorem dX4_speed_127 : decode cX4_speed 127 = .ok (.aload_n 0, 1) := by decide +kernel
theorem dX4_speed_128 : decode cX4_speed 128 = .ok (.iload_n 2, 1) := by decide +kernel
theorem dX4_speed_129 : decode cX4_speed 129 = .ok (.iconst 2, 1) := by decide +kernel
theorem dX4_speed_130 : decode cX4_speed 130 = .ok (.invokevirtual 63, 3) := by decide +kernel
theorem dX4_speed_133 : decode cX4_speed 133 = .ok (.ifCond .le 7, 3) := by decide +kernel
theorem dX4_speed_136 : decode cX4_speed 136 = .ok (.iconst 0, 1) := by decide +kernel
theorem dX4_speed_137 : decode cX4_speed 137 = .ok (.goto 4, 3) := by decide +kernel
theorem dX4_speed_140 : decode cX4_speed 140 = .ok (.iload_n 3, 1) := by decide +kernel
theorem dX4_speed_141 : decode cX4_speed 141 = .ok (.istore 6, 2) := by decide +kernel
theorem dX4_speed_143 : decode cX4_speed 143 = .ok (.goto 16, 3) := by decide +kernel
theorem dX4_speed_146 : decode cX4_speed 146 = .ok (.iconst 2, 1) := by decide +kernel
theorem dX4_speed_147 : decode cX4_speed 147 = .ok (.iload_n 3, 1) := by decide +kernel
theorem dX4_speed_148 : decode cX4_speed 148 = .ok (.iconst 1, 1) := by decide +kernel
theorem dX4_speed_149 : decode cX4_speed 149 = .ok (.iadd, 1) := by decide +kernel
theorem dX4_speed_150 : decode cX4_speed 150 = .ok (.imul, 1) := by decide +kernel
theorem dX4_speed_151 : decode cX4_speed 151 = .ok (.istore 6, 2) := by decide +kernel
theorem dX4_speed_153 : decode cX4_speed 153 = .ok (.goto 6, 3) := by decide +kernel
theorem dX4_speed_156 : decode cX4_speed 156 = .ok (.iload_n 3, 1) := by decide +kernel
theorem dX4_speed_157 : decode cX4_speed 157 = .ok (.istore 6, 2) := by decide +kernel
theorem dX4_speed_159 : decode cX4_speed 159 = .ok (.aload_n 0, 1) := by decide +kernel
theorem dX4_speed_160 : decode cX4_speed 160 = .ok (.getfield 9, 3) := by decide +kernel
theorem dX4_speed_163 : decode cX4_speed 163 = .ok (.iconst 2, 1) := by decide +kernel
theorem dX4_speed_164 : decode cX4_speed 164 = .ok (.iaload, 1) := by decide +kernel
theorem dX4_speed_165 : decode cX4_speed 165 = .ok (.iconst 1, 1) := by decide +kernel
theorem dX4_speed_166 : decode cX4_speed 166 = .ok (.if_icmp .ne 10, 3) := by decide +kernel
theorem dX4_speed_169 : decode cX4_speed 169 = .ok (.iconst 2, 1) := by decide +kernel
theorem dX4_speed_170 : decode cX4_speed 170 = .ok (.iload 6, 2) := by decide +kernel
theorem dX4_speed_172 : decode cX4_speed 172 = .ok (.imul, 1) := by decide +kernel
theorem dX4_speed_173 : decode cX4_speed 173 = .ok (.goto 5, 3) := by decide +kernel
theorem dX4_speed_176 : decode cX4_speed 176 = .ok (.iload 6, 2) := by decide +kernel
theorem dX4_speed_178 : decode cX4_speed 178 = .ok (.ireturn, 1) := by decide +kernel
theorem dX4_gathers_0 : decode cX4_gathers 0 = .ok (.aload_n 0, 1) := by decide +kernel
theorem dX4_gathers_1 : decode cX4_gathers 1 = .ok (.iload_n 1, 1) := by decide +kernel
theorem dX4_gathers_2 : decode cX4_gathers 2 = .ok (.iconst 0, 1) := by decide +kernel
theorem dX4_gathers_3 : decode cX4_gathers 3 = .ok (.invokevirtual 69, 3) := by decide +kernel
theorem dX4_gathers_6 : decode cX4_gathers 6 = .ok (.tableswitch 59 1 6 #[57, 38, 40, 42, 57, 57], 38) := by decide +kernel
theorem dX4_gathers_44 : decode cX4_gathers 44 = .ok (.iconst 2, 1) := by decide +kernel
theorem dX4_gathers_45 : decode cX4_gathers 45 = .ok (.ireturn, 1) := by decide +kernel
theorem dX4_gathers_46 : decode cX4_gathers 46 = .ok (.iconst 4, 1) := by decide +kernel
theorem dX4_gathers_47 : decode cX4_gathers 47 = .ok (.ireturn, 1) := by decide +kernel
theorem dX4_gathers_48 : decode cX4_gathers 48 = .ok (.iconst 4, 1) := by decide +kernel
theorem dX4_gathers_49 : decode cX4_gathers 49 = .ok (.aload_n 0, 1) := by decide +kernel
theorem dX4_gathers_50 : decode cX4_gathers 50 = .ok (.aload_n 0, 1) := by decide +kernel
theorem dX4_gathers_51 : decode cX4_gathers 51 = .ok (.iload_n 1, 1) := by decide +kernel
theorem dX4_gathers_52 : decode cX4_gathers 52 = .ok (.iconst 1, 1) := by decide +kernel
theorem dX4_gathers_53 : decode cX4_gathers 53 = .ok (.invokevirtual 69, 3) := by decide +kernel
theorem dX4_gathers_56 : decode cX4_gathers 56 = .ok (.invokevirtual 85, 3) := by decide +kernel
theorem dX4_gathers_59 : decode cX4_gathers 59 = .ok (.iconst 5, 1) := by decide +kernel
theorem dX4_gathers_60 : decode cX4_gathers 60 = .ok (.idiv, 1) := by decide +kernel
theorem dX4_gathers_61 : decode cX4_gathers 61 = .ok (.iadd, 1) := by decide +kernel
theorem dX4_gathers_62 : decode cX4_gathers 62 = .ok (.ireturn, 1) := by decide +kernel
theorem dX4_gathers_63 : decode cX4_gathers 63 = .ok (.iconst 0, 1) := by decide +kernel
theorem dX4_gathers_64 : decode cX4_gathers 64 = .ok (.ireturn, 1) := by decide +kernel
theorem dX4_gathers_65 : decode cX4_gathers 65 = .ok (.iconst 1, 1) := by decide +kernel
theorem dX4_gathers_66 : decode cX4_gathers 66 = .ok (.ireturn, 1) := by decide +kernel
theorem dX4_isKind_0 : decode cX4_isKind 0 = .ok (.iload_n 0, 1) := by decide +kernel
theorem dX4_isKind_1 : decode cX4_isKind 1 = .ok (.i2l, 1) := by decide +kernel
theorem dX4_isKind_2 : decode cX4_isKind 2 = .ok (.lconst 0, 1) := by decide +kernel
theorem dX4_isKind_3 : decode cX4_isKind 3 = .ok (.ldc2_w 105, 3) := by decide +kernel
theorem dX4_isKind_6 : decode cX4_isKind 6 = .ok (.invokestatic 57, 3) := by decide +kernel
theorem dX4_isKind_9 : decode cX4_isKind 9 = .ok (.ireturn, 1) := by decide +kernel
theorem dX4_adds_0 : decode cX4_adds 0 = .ok (.aload_n 0, 1) := by decide +kernel
theorem dX4_adds_1 : decode cX4_adds 1 = .ok (.getfield 9, 3) := by decide +kernel
theorem dX4_adds_4 : decode cX4_adds 4 = .ok (.iconst 1, 1) := by decide +kernel
theorem dX4_adds_5 : decode cX4_adds 5 = .ok (.iaload, 1) := by decide +kernel
theorem dX4_adds_6 : decode cX4_adds 6 = .ok (.istore 4, 2) := by decide +kernel
theorem dX4_adds_8 : decode cX4_adds 8 = .ok (.aload_n 0, 1) := by decide +kernel
theorem dX4_adds_9 : decode cX4_adds 9 = .ok (.getfield 9, 3) := by decide +kernel
theorem dX4_adds_12 : decode cX4_adds 12 = .ok (.iconst 1, 1) := by decide +kernel
theorem dX4_adds_13 : decode cX4_adds 13 = .ok (.dup2, 1) := by decide +kernel
theorem dX4_adds_14 : decode cX4_adds 14 = .ok (.iaload, 1) := by decide +kernel
theorem dX4_adds_15 : decode cX4_adds 15 = .ok (.iconst 1, 1) := by decide +kernel
theorem dX4_adds_16 : decode cX4_adds 16 = .ok (.iadd, 1) := by decide +kernel
theorem dX4_adds_17 : decode cX4_adds 17 = .ok (.iastore, 1) := by decide +kernel
theorem dX4_adds_18 : decode cX4_adds 18 = .ok (.aload_n 0, 1) := by decide +kernel
theorem dX4_adds_19 : decode cX4_adds 19 = .ok (.iload 4, 2) := by decide +kernel
theorem dX4_adds_21 : decode cX4_adds 21 = .ok (.iconst 0, 1) := by decide +kernel
theorem dX4_adds_22 : decode cX4_adds 22 = .ok (.iload_n 1, 1) := by decide +kernel
theorem dX4_adds_23 : decode cX4_adds 23 = .ok (.invokevirtual 107, 3) := by decide +kernel
theorem dX4_adds_26 : decode cX4_adds 26 = .ok (.aload_n 0, 1) := by decide +kernel
theorem dX4_adds_27 : decode cX4_adds 27 = .ok (.iload 4, 2) := by decide +kernel
theorem dX4_adds_29 : decode cX4_adds 29 = .ok (.iconst 1, 1) := by decide +kernel
theorem dX4_adds_30 : decode cX4_adds 30 = .ok (.iload_n 2, 1) := by decide +kernel
theorem dX4_adds_31 : decode cX4_adds 31 = .ok (.invokevirtual 107, 3) := by decide +kernel
theorem dX4_adds_34 : decode cX4_adds 34 = .ok (.aload_n 0, 1) := by decide +kernel
theorem dX4_adds_35 : decode cX4_adds 35 = .ok (.iload 4, 2) := by decide +kernel
theorem dX4_adds_37 : decode cX4_adds 37 = .ok (.iconst 2, 1) := by decide +kernel
theorem dX4_adds_38 : decode cX4_adds 38 = .ok (.iload_n 3, 1) := by decide +kernel
theorem dX4_adds_39 : decode cX4_adds 39 = .ok (.invokevirtual 107, 3) := by decide +kernel
theorem dX4_adds_42 : decode cX4_adds 42 = .ok (.iload 4, 2) := by decide +kernel
theorem dX4_adds_44 : decode cX4_adds 44 = .ok (.ireturn, 1) := by decide +kernel
theorem dX4_says_0 : decode cX4_says 0 = .ok (.iload_n 1, 1) := by decide +kernel
theorem dX4_says_1 : decode cX4_says 1 = .ok (.invokestatic 110, 3) := by decide +kernel
theorem dX4_says_4 : decode cX4_says 4 = .ok (.ifCond .eq 10, 3) := by decide +kernel
theorem dX4_says_7 : decode cX4_says 7 = .ok (.iload_n 2, 1) := by decide +kernel
theorem dX4_says_8 : decode cX4_says 8 = .ok (.invokestatic 76, 3) := by decide +kernel
theorem dX4_says_11 : decode cX4_says 11 = .ok (.ifCond .ne 9, 3) := by decide +kernel
theorem dX4_says_14 : decode cX4_says 14 = .ok (.aload_n 0, 1) := by decide +kernel
theorem dX4_says_15 : decode cX4_says 15 = .ok (.iconst 0, 1) := by decide +kernel
theorem dX4_says_16 : decode cX4_says 16 = .ok (.invokevirtual 82, 3) := by decide +kernel
theorem dX4_says_19 : decode cX4_says 19 = .ok (.ireturn, 1) := by decide +kernel
theorem dX4_says_20 : decode cX4_says 20 = .ok (.aload_n 0, 1) := by decide +kernel
theorem dX4_says_21 : decode cX4_says 21 = .ok (.getfield 9, 3) := by decide +kernel
theorem dX4_says_24 : decode cX4_says 24 = .ok (.iconst 1, 1) := by decide +kernel
theorem dX4_says_25 : decode cX4_says 25 = .ok (.iaload, 1) := by decide +kernel
theorem dX4_says_26 : decode cX4_says 26 = .ok (.bipush 8, 2) := by decide +kernel
theorem dX4_says_28 : decode cX4_says 28 = .ok (.if_icmp .ne 11, 3) := by decide +kernel
theorem dX4_says_31 : decode cX4_says 31 = .ok (.aload_n 0, 1) := by decide +kernel
theorem dX4_says_32 : decode cX4_says 32 = .ok (.iconst 1, 1) := by decide +kernel
theorem dX4_says_33 : decode cX4_says 33 = .ok (.invokevirtual 82, 3) := by decide +kernel
theorem dX4_says_36 : decode cX4_says 36 = .ok (.goto 10, 3) := by decide +kernel
theorem dX4_says_39 : decode cX4_says 39 = .ok (.aload_n 0, 1) := by decide +kernel
theorem dX4_says_40 : decode cX4_says 40 = .ok (.iload_n 1, 1) := by decide +kernel
theorem dX4_says_41 : decode cX4_says 41 = .ok (.iload_n 2, 1) := by decide +kernel
theorem dX4_says_42 : decode cX4_says 42 = .ok (.iconst 1, 1) := by decide +kernel
theorem dX4_says_43 : decode cX4_says 43 = .ok (.invokevirtual 113, 3) := by decide +kernel
theorem dX4_says_46 : decode cX4_says 46 = .ok (.ireturn, 1) := by decide +kernel
theorem dX4_of_0 : decode cX4_of 0 = .ok (.aload_n 0, 1) := by decide +kernel
theorem dX4_of_1 : decode cX4_of 1 = .ok (.iload_n 1, 1) := by decide +kernel
theorem dX4_of_2 : decode cX4_of 2 = .ok (.invokevirtual 117, 3) := by decide +kernel
theorem dX4_of_5 : decode cX4_of 5 = .ok (.ifCond .eq 15, 3) := by decide +kernel
theorem dX4_of_8 : decode cX4_of 8 = .ok (.iload_n 2, 1) := by decide +kernel
theorem dX4_of_9 : decode cX4_of 9 = .ok (.i2l, 1) := by decide +kernel
theorem dX4_of_10 : decode cX4_of 10 = .ok (.lconst 0, 1) := by decide +kernel
theorem dX4_of_11 : decode cX4_of 11 = .ok (.ldc2_w 94, 3) := by decide +kernel
theorem dX4_of_14 : decode cX4_of 14 = .ok (.invokestatic 57, 3) := by decide +kernel
theorem dX4_of_17 : decode cX4_of 17 = .ok (.ifCond .ne 9, 3) := by decide +kernel
theorem dX4_of_20 : decode cX4_of 20 = .ok (.aload_n 0, 1) := by decide +kernel
theorem dX4_of_21 : decode cX4_of 21 = .ok (.iconst 0, 1) := by decide +kernel
theorem dX4_of_22 : decode cX4_of 22 = .ok (.invokevirtual 82, 3) := by decide +kernel
theorem dX4_of_25 : decode cX4_of 25 = .ok (.ireturn, 1) := by decide +kernel
theorem dX4_of_26 : decode cX4_of 26 = .ok (.iload_n 2, 1) := by decide +kernel
theorem dX4_of_27 : decode cX4_of 27 = .ok (.iconst 3, 1) := by decide +kernel
theorem dX4_of_28 : decode cX4_of 28 = .ok (.if_icmp .ge 12, 3) := by decide +kernel
theorem dX4_of_31 : decode cX4_of 31 = .ok (.aload_n 0, 1) := by decide +kernel
theorem dX4_of_32 : decode cX4_of 32 = .ok (.iload_n 1, 1) := by decide +kernel
theorem dX4_of_33 : decode cX4_of 33 = .ok (.iload_n 2, 1) := by decide +kernel
theorem dX4_of_34 : decode cX4_of 34 = .ok (.invokevirtual 69, 3) := by decide +kernel
theorem dX4_of_37 : decode cX4_of 37 = .ok (.goto 21, 3) := by decide +kernel
theorem dX4_of_40 : decode cX4_of 40 = .ok (.iload_n 2, 1) := by decide +kernel
theorem dX4_of_41 : decode cX4_of 41 = .ok (.iconst 3, 1) := by decide +kernel
theorem dX4_of_42 : decode cX4_of 42 = .ok (.if_icmp .ne 11, 3) := by decide +kernel
theorem dX4_of_45 : decode cX4_of 45 = .ok (.aload_n 0, 1) := by decide +kernel
theorem dX4_of_46 : decode cX4_of 46 = .ok (.iload_n 1, 1) := by decide +kernel
theorem dX4_of_47 : decode cX4_of 47 = .ok (.invokevirtual 120, 3) := by decide +kernel
theorem dX4_of_50 : decode cX4_of 50 = .ok (.goto 8, 3) := by decide +kernel
theorem dX4_of_53 : decode cX4_of 53 = .ok (.aload_n 0, 1) := by decide +kernel
theorem dX4_of_54 : decode cX4_of 54 = .ok (.iload_n 1, 1) := by decide +kernel
theorem dX4_of_55 : decode cX4_of 55 = .ok (.invokevirtual 123, 3) := by decide +kernel
theorem dX4_of_58 : decode cX4_of 58 = .ok (.ireturn, 1) := by decide +kernel
theorem dX4_mayBe_0 : decode cX4_mayBe 0 = .ok (.iload_n 0, 1) := by decide +kernel
theorem dX4_mayBe_1 : decode cX4_mayBe 1 = .ok (.ifCond .ne 10, 3) := by decide +kernel
theorem dX4_mayBe_4 : decode cX4_mayBe 4 = .ok (.iload_n 1, 1) := by decide +kernel
theorem dX4_mayBe_5 : decode cX4_mayBe 5 = .ok (.invokestatic 110, 3) := by decide +kernel
theorem dX4_mayBe_8 : decode cX4_mayBe 8 = .ok (.goto 37, 3) := by decide +kernel
theorem dX4_mayBe_11 : decode cX4_mayBe 11 = .ok (.iload_n 0, 1) := by decide +kernel
theorem dX4_mayBe_12 : decode cX4_mayBe 12 = .ok (.iconst 1, 1) := by decide +kernel
theorem dX4_mayBe_13 : decode cX4_mayBe 13 = .ok (.if_icmp .ne 10, 3) := by decide +kernel
theorem dX4_mayBe_16 : decode cX4_mayBe 16 = .ok (.iload_n 1, 1) := by decide +kernel
theorem dX4_mayBe_17 : decode cX4_mayBe 17 = .ok (.invokestatic 76, 3) := by decide +kernel
theorem dX4_mayBe_20 : decode cX4_mayBe 20 = .ok (.goto 25, 3) := by decide +kernel
theorem dX4_mayBe_23 : decode cX4_mayBe 23 = .ok (.iload_n 0, 1) := by decide +kernel
theorem dX4_mayBe_24 : decode cX4_mayBe 24 = .ok (.iconst 2, 1) := by decide +kernel
theorem dX4_mayBe_25 : decode cX4_mayBe 25 = .ok (.if_icmp .ne 19, 3) := by decide +kernel
theorem dX4_mayBe_28 : decode cX4_mayBe 28 = .ok (.iload_n 1, 1) := by decide +kernel
theorem dX4_mayBe_29 : decode cX4_mayBe 29 = .ok (.i2l, 1) := by decide +kernel
theorem dX4_mayBe_30 : decode cX4_mayBe 30 = .ok (.lconst 1, 1) := by decide +kernel
theorem dX4_mayBe_31 : decode cX4_mayBe 31 = .ok (.ldc2_w 126, 3) := by decide +kernel
theorem dX4_mayBe_34 : decode cX4_mayBe 34 = .ok (.invokestatic 57, 3) := by decide +kernel
theorem dX4_mayBe_37 : decode cX4_mayBe 37 = .ok (.ifCond .eq 7, 3) := by decide +kernel
theorem dX4_mayBe_40 : decode cX4_mayBe 40 = .ok (.iconst 1, 1) := by decide +kernel
theorem dX4_mayBe_41 : decode cX4_mayBe 41 = .ok (.goto 4, 3) := by decide +kernel
theorem dX4_mayBe_44 : decode cX4_mayBe 44 = .ok (.iconst 0, 1) := by decide +kernel
theorem dX4_mayBe_45 : decode cX4_mayBe 45 = .ok (.ireturn, 1) := by decide +kernel
theorem dX4_change_0 : decode cX4_change 0 = .ok (.aload_n 0, 1) := by decide +kernel
theorem dX4_change_1 : decode cX4_change 1 = .ok (.iload_n 1, 1) := by decide +kernel
theorem dX4_change_2 : decode cX4_change 2 = .ok (.invokevirtual 117, 3) := by decide +kernel
theorem dX4_change_5 : decode cX4_change 5 = .ok (.ifCond .eq 27, 3) := by decide +kernel
theorem dX4_change_8 : decode cX4_change 8 = .ok (.iload_n 2, 1) := by decide +kernel
theorem dX4_change_9 : decode cX4_change 9 = .ok (.iload_n 3, 1) := by decide +kernel
theorem dX4_change_10 : decode cX4_change 10 = .ok (.invokestatic 128, 3) := by decide +kernel
theorem dX4_change_13 : decode cX4_change 13 = .ok (.ifCond .eq 19, 3) := by decide +kernel
theorem dX4_change_16 : decode cX4_change 16 = .ok (.aload_n 0, 1) := by decide +kernel
theorem dX4_change_17 : decode cX4_change 17 = .ok (.bipush 85, 2) := by decide +kernel
theorem dX4_change_19 : decode cX4_change 19 = .ok (.iconst 3, 1) := by decide +kernel
theorem dX4_change_20 : decode cX4_change 20 = .ok (.iload_n 1, 1) := by decide +kernel
theorem dX4_change_21 : decode cX4_change 21 = .ok (.imul, 1) := by decide +kernel
theorem dX4_change_22 : decode cX4_change 22 = .ok (.iadd, 1) := by decide +kernel
theorem dX4_change_23 : decode cX4_change 23 = .ok (.iload_n 2, 1) := by decide +kernel
theorem dX4_change_24 : decode cX4_change 24 = .ok (.iadd, 1) := by decide +kernel
theorem dX4_change_25 : decode cX4_change 25 = .ok (.iload_n 3, 1) := by decide +kernel
theorem dX4_change_26 : decode cX4_change 26 = .ok (.invokevirtual 99, 3) := by decide +kernel
theorem dX4_change_29 : decode cX4_change 29 = .ok (.goto 8, 3) := by decide +kernel
theorem dX4_change_32 : decode cX4_change 32 = .ok (.aload_n 0, 1) := by decide +kernel
theorem dX4_change_33 : decode cX4_change 33 = .ok (.iconst 0, 1) := by decide +kernel
theorem dX4_change_34 : decode cX4_change 34 = .ok (.invokevirtual 82, 3) := by decide +kernel
theorem dX4_change_37 : decode cX4_change 37 = .ok (.ireturn, 1) := by decide +kernel
theorem dX4_aunts_0 : decode cX4_aunts 0 = .ok (.iload_n 1, 1) := by decide +kernel
theorem dX4_aunts_1 : decode cX4_aunts 1 = .ok (.invokestatic 132, 3) := by decide +kernel
theorem dX4_aunts_4 : decode cX4_aunts 4 = .ok (.ifCond .eq 12, 3) := by decide +kernel
theorem dX4_aunts_7 : decode cX4_aunts 7 = .ok (.aload_n 0, 1) := by decide +kernel
theorem dX4_aunts_8 : decode cX4_aunts 8 = .ok (.iconst 3, 1) := by decide +kernel
theorem dX4_aunts_9 : decode cX4_aunts 9 = .ok (.iload_n 1, 1) := by decide +kernel
theorem dX4_aunts_10 : decode cX4_aunts 10 = .ok (.invokevirtual 99, 3) := by decide +kernel
theorem dX4_aunts_13 : decode cX4_aunts 13 = .ok (.goto 8, 3) := by decide +kernel
theorem dX4_aunts_16 : decode cX4_aunts 16 = .ok (.aload_n 0, 1) := by decide +kernel
theorem dX4_aunts_17 : decode cX4_aunts 17 = .ok (.iconst 0, 1) := by decide +kernel
theorem dX4_aunts_18 : decode cX4_aunts 18 = .ok (.invokevirtual 82, 3) := by decide +kernel
theorem dX4_aunts_21 : decode cX4_aunts 21 = .ok (.ireturn, 1) := by decide +kernel
theorem dX4_frost_0 : decode cX4_frost 0 = .ok (.iload_n 1, 1) := by decide +kernel
theorem dX4_frost_1 : decode cX4_frost 1 = .ok (.i2l, 1) := by decide +kernel
theorem dX4_frost_2 : decode cX4_frost 2 = .ok (.lconst 0, 1) := by decide +kernel
theorem dX4_frost_3 : decode cX4_frost 3 = .ok (.lconst 1, 1) := by decide +kernel
theorem dX4_frost_4 : decode cX4_frost 4 = .ok (.invokestatic 57, 3) := by decide +kernel
theorem dX4_frost_7 : decode cX4_frost 7 = .ok (.ifCond .eq 12, 3) := by decide +kernel
theorem dX4_frost_10 : decode cX4_frost 10 = .ok (.aload_n 0, 1) := by decide +kernel
theorem dX4_frost_11 : decode cX4_frost 11 = .ok (.iconst 2, 1) := by decide +kernel
theorem dX4_frost_12 : decode cX4_frost 12 = .ok (.iload_n 1, 1) := by decide +kernel
theorem dX4_frost_13 : decode cX4_frost 13 = .ok (.invokevirtual 99, 3) := by decide +kernel
theorem dX4_frost_16 : decode cX4_frost 16 = .ok (.goto 8, 3) := by decide +kernel
theorem dX4_frost_19 : decode cX4_frost 19 = .ok (.aload_n 0, 1) := by decide +kernel
theorem dX4_frost_20 : decode cX4_frost 20 = .ok (.iconst 0, 1) := by decide +kernel
theorem dX4_frost_21 : decode cX4_frost 21 = .ok (.invokevirtual 82, 3) := by decide +kernel
theorem dX4_frost_24 : decode cX4_frost 24 = .ok (.ireturn, 1) := by decide +kernel
theorem dX4_rolls_0 : decode cX4_rolls 0 = .ok (.aload_n 0, 1) := by decide +kernel
theorem dX4_rolls_1 : decode cX4_rolls 1 = .ok (.iload_n 1, 1) := by decide +kernel
theorem dX4_rolls_2 : decode cX4_rolls 2 = .ok (.invokevirtual 120, 3) := by decide +kernel
theorem dX4_rolls_5 : decode cX4_rolls 5 = .ok (.istore_n 2, 1) := by decide +kernel
theorem dX4_rolls_6 : decode cX4_rolls 6 = .ok (.iconst 1, 1) := by decide +kernel
theorem dX4_rolls_7 : decode cX4_rolls 7 = .ok (.istore_n 3, 1) := by decide +kernel
theorem dX4_rolls_8 : decode cX4_rolls 8 = .ok (.iload_n 2, 1) := by decide +kernel
theorem dX4_rolls_9 : decode cX4_rolls 9 = .ok (.ifCond .le 120, 3) := by decide +kernel
theorem dX4_rolls_12 : decode cX4_rolls 12 = .ok (.iload_n 3, 1) := by decide +kernel
theorem dX4_rolls_13 : decode cX4_rolls 13 = .ok (.ifCond .eq 116, 3) := by decide +kernel
theorem dX4_rolls_16 : decode cX4_rolls 16 = .ok (.aload_n 0, 1) := by decide +kernel
theorem dX4_rolls_17 : decode cX4_rolls 17 = .ok (.aload_n 0, 1) := by decide +kernel
theorem dX4_rolls_18 : decode cX4_rolls 18 = .ok (.iload_n 1, 1) := by decide +kernel
theorem dX4_rolls_19 : decode cX4_rolls 19 = .ok (.iconst 1, 1) := by decide +kernel
theorem dX4_rolls_20 : decode cX4_rolls 20 = .ok (.invokevirtual 69, 3) := by decide +kernel
theorem dX4_rolls_23 : decode cX4_rolls 23 = .ok (.invokevirtual 85, 3) := by decide +kernel
theorem dX4_rolls_26 : decode cX4_rolls 26 = .ok (.ifCond .le 103, 3) := by decide +kernel
theorem dX4_rolls_29 : decode cX4_rolls 29 = .ok (.aload_n 0, 1) := by decide +kernel
theorem dX4_rolls_30 : decode cX4_rolls 30 = .ok (.iload_n 1, 1) := by decide +kernel
theorem dX4_rolls_31 : decode cX4_rolls 31 = .ok (.iconst 2, 1) := by decide +kernel
theorem dX4_rolls_32 : decode cX4_rolls 32 = .ok (.sipush 999, 3) := by decide +kernel
theorem dX4_rolls_35 : decode cX4_rolls 35 = .ok (.aload_n 0, 1) := by decide +kernel
theorem dX4_rolls_36 : decode cX4_rolls 36 = .ok (.iload_n 1, 1) := by decide +kernel
theorem dX4_rolls_37 : decode cX4_rolls 37 = .ok (.iconst 2, 1) := by decide +kernel
theorem dX4_rolls_38 : decode cX4_rolls 38 = .ok (.invokevirtual 69, 3) := by decide +kernel
theorem dX4_rolls_41 : decode cX4_rolls 41 = .ok (.aload_n 0, 1) := by decide +kernel
theorem dX4_rolls_42 : decode cX4_rolls 42 = .ok (.iload_n 1, 1) := by decide +kernel
theorem dX4_rolls_43 : decode cX4_rolls 43 = .ok (.invokevirtual 123, 3) := by decide +kernel
theorem dX4_rolls_46 : decode cX4_rolls 46 = .ok (.iadd, 1) := by decide +kernel
theorem dX4_rolls_47 : decode cX4_rolls 47 = .ok (.invokestatic 44, 3) := by decide +kernel
theorem dX4_rolls_50 : decode cX4_rolls 50 = .ok (.invokevirtual 107, 3) := by decide +kernel
theorem dX4_rolls_53 : decode cX4_rolls 53 = .ok (.aload_n 0, 1) := by decide +kernel
theorem dX4_rolls_54 : decode cX4_rolls 54 = .ok (.iload_n 1, 1) := by decide +kernel
theorem dX4_rolls_55 : decode cX4_rolls 55 = .ok (.iconst 1, 1) := by decide +kernel
theorem dX4_rolls_56 : decode cX4_rolls 56 = .ok (.aload_n 0, 1) := by decide +kernel
theorem dX4_rolls_57 : decode cX4_rolls 57 = .ok (.aload_n 0, 1) := by decide +kernel
theorem dX4_rolls_58 : decode cX4_rolls 58 = .ok (.iload_n 1, 1) := by decide +kernel
theorem dX4_rolls_59 : decode cX4_rolls 59 = .ok (.iconst 1, 1) := by decide +kernel
theorem dX4_rolls_60 : decode cX4_rolls 60 = .ok (.invokevirtual 69, 3) := by decide +kernel
theorem dX4_rolls_63 : decode cX4_rolls 63 = .ok (.iconst 1, 1) := by decide +kernel
theorem dX4_rolls_64 : decode cX4_rolls 64 = .ok (.invokevirtual 63, 3) := by decide +kernel
theorem dX4_rolls_67 : decode cX4_rolls 67 = .ok (.invokevirtual 107, 3) := by decide +kernel
theorem dX4_rolls_70 : decode cX4_rolls 70 = .ok (.aload_n 0, 1) := by decide +kernel
theorem dX4_rolls_71 : decode cX4_rolls 71 = .ok (.dup, 1) := by decide +kernel
theorem dX4_rolls_72 : decode cX4_rolls 72 = .ok (.getfield 135, 3) := by decide +kernel
theorem dX4_rolls_75 : decode cX4_rolls 75 = .ok (.iload_n 1, 1) := by decide +kernel
theorem dX4_rolls_76 : decode cX4_rolls 76 = .ok (.aload_n 0, 1) := by decide +kernel
theorem dX4_rolls_77 : decode cX4_rolls 77 = .ok (.getfield 139, 3) := by decide +kernel
theorem dX4_rolls_80 : decode cX4_rolls 80 = .ok (.if_icmp .ne 14, 3) := by decide +kernel
theorem dX4_rolls_83 : decode cX4_rolls 83 = .ok (.iconst 1, 1) := by decide +kernel
theorem dX4_rolls_84 : decode cX4_rolls 84 = .ok (.aload_n 0, 1) := by decide +kernel
theorem dX4_rolls_85 : decode cX4_rolls 85 = .ok (.iload_n 1, 1) := by decide +kernel
theorem dX4_rolls_86 : decode cX4_rolls 86 = .ok (.iconst 1, 1) := by decide +kernel
theorem dX4_rolls_87 : decode cX4_rolls 87 = .ok (.invokevirtual 69, 3) := by decide +kernel
theorem dX4_rolls_90 : decode cX4_rolls 90 = .ok (.ishl, 1) := by decide +kernel
theorem dX4_rolls_91 : decode cX4_rolls 91 = .ok (.goto 4, 3) := by decide +kernel
theorem dX4_rolls_94 : decode cX4_rolls 94 = .ok (.iconst 0, 1) := by decide +kernel
theorem dX4_rolls_95 : decode cX4_rolls 95 = .ok (.ior, 1) := by decide +kernel
theorem dX4_rolls_96 : decode cX4_rolls 96 = .ok (.putfield 135, 3) := by decide +kernel
theorem dX4_rolls_99 : decode cX4_rolls 99 = .ok (.aload_n 0, 1) := by decide +kernel
theorem dX4_rolls_100 : decode cX4_rolls 100 = .ok (.getfield 9, 3) := by decide +kernel
theorem dX4_rolls_103 : decode cX4_rolls 103 = .ok (.iconst 3, 1) := by decide +kernel
theorem dX4_rolls_104 : decode cX4_rolls 104 = .ok (.iaload, 1) := by decide +kernel
theorem dX4_rolls_105 : decode cX4_rolls 105 = .ok (.aload_n 0, 1) := by decide +kernel
theorem dX4_rolls_106 : decode cX4_rolls 106 = .ok (.iload_n 1, 1) := by decide +kernel
theorem dX4_rolls_107 : decode cX4_rolls 107 = .ok (.iconst 1, 1) := by decide +kernel
theorem dX4_rolls_108 : decode cX4_rolls 108 = .ok (.invokevirtual 69, 3) := by decide +kernel
theorem dX4_rolls_111 : decode cX4_rolls 111 = .ok (.ishr, 1) := by decide +kernel
theorem dX4_rolls_112 : decode cX4_rolls 112 = .ok (.iconst 1, 1) := by decide +kernel
theorem dX4_rolls_113 : decode cX4_rolls 113 = .ok (.iand, 1) := by decide +kernel
theorem dX4_rolls_114 : decode cX4_rolls 114 = .ok (.ifCond .ne 7, 3) := by decide +kernel
theorem dX4_rolls_117 : decode cX4_rolls 117 = .ok (.iconst 1, 1) := by decide +kernel
theorem dX4_rolls_118 : decode cX4_rolls 118 = .ok (.goto 4, 3) := by decide +kernel
theorem dX4_rolls_121 : decode cX4_rolls 121 = .ok (.iconst 0, 1) := by decide +kernel
theorem dX4_rolls_122 : decode cX4_rolls 122 = .ok (.istore_n 3, 1) := by decide +kernel
theorem dX4_rolls_123 : decode cX4_rolls 123 = .ok (.iinc 2 (-1), 3) := by decide +kernel
theorem dX4_rolls_126 : decode cX4_rolls 126 = .ok (.goto (-118), 3) := by decide +kernel
theorem dX4_rolls_129 : decode cX4_rolls 129 = .ok (.return_, 1) := by decide +kernel
theorem dX4_aMinute_0 : decode cX4_aMinute 0 = .ok (.iconst 0, 1) := by decide +kernel
theorem dX4_aMinute_1 : decode cX4_aMinute 1 = .ok (.istore_n 1, 1) := by decide +kernel
theorem dX4_aMinute_2 : decode cX4_aMinute 2 = .ok (.iload_n 1, 1) := by decide +kernel
theorem dX4_aMinute_3 : decode cX4_aMinute 3 = .ok (.aload_n 0, 1) := by decide +kernel
theorem dX4_aMinute_4 : decode cX4_aMinute 4 = .ok (.getfield 9, 3) := by decide +kernel
theorem dX4_aMinute_7 : decode cX4_aMinute 7 = .ok (.iconst 1, 1) := by decide +kernel
theorem dX4_aMinute_8 : decode cX4_aMinute 8 = .ok (.iaload, 1) := by decide +kernel
theorem dX4_aMinute_9 : decode cX4_aMinute 9 = .ok (.if_icmp .ge 14, 3) := by decide +kernel
theorem dX4_aMinute_12 : decode cX4_aMinute 12 = .ok (.aload_n 0, 1) := by decide +kernel
theorem dX4_aMinute_13 : decode cX4_aMinute 13 = .ok (.iload_n 1, 1) := by decide +kernel
theorem dX4_aMinute_14 : decode cX4_aMinute 14 = .ok (.invokevirtual 142, 3) := by decide +kernel
theorem dX4_aMinute_17 : decode cX4_aMinute 17 = .ok (.iinc 1 1, 3) := by decide +kernel
theorem dX4_aMinute_20 : decode cX4_aMinute 20 = .ok (.goto (-18), 3) := by decide +kernel
theorem dX4_aMinute_23 : decode cX4_aMinute 23 = .ok (.aload_n 0, 1) := by decide +kernel
theorem dX4_aMinute_24 : decode cX4_aMinute 24 = .ok (.getfield 9, 3) := by decide +kernel
theorem dX4_aMinute_27 : decode cX4_aMinute 27 = .ok (.iconst 0, 1) := by decide +kernel
theorem dX4_aMinute_28 : decode cX4_aMinute 28 = .ok (.dup2, 1) := by decide +kernel
theorem dX4_aMinute_29 : decode cX4_aMinute 29 = .ok (.iaload, 1) := by decide +kernel
theorem dX4_aMinute_30 : decode cX4_aMinute 30 = .ok (.iconst 1, 1) := by decide +kernel
theorem dX4_aMinute_31 : decode cX4_aMinute 31 = .ok (.iadd, 1) := by decide +kernel
theorem dX4_aMinute_32 : decode cX4_aMinute 32 = .ok (.iastore, 1) := by decide +kernel
theorem dX4_aMinute_33 : decode cX4_aMinute 33 = .ok (.return_, 1) := by decide +kernel
theorem dX4_minutes_0 : decode cX4_minutes 0 = .ok (.iconst 0, 1) := by decide +kernel
theorem dX4_minutes_1 : decode cX4_minutes 1 = .ok (.istore_n 2, 1) := by decide +kernel
theorem dX4_minutes_2 : decode cX4_minutes 2 = .ok (.iload_n 2, 1) := by decide +kernel
theorem dX4_minutes_3 : decode cX4_minutes 3 = .ok (.iload_n 1, 1) := by decide +kernel
theorem dX4_minutes_4 : decode cX4_minutes 4 = .ok (.if_icmp .ge 13, 3) := by decide +kernel
theorem dX4_minutes_7 : decode cX4_minutes 7 = .ok (.aload_n 0, 1) := by decide +kernel
theorem dX4_minutes_8 : decode cX4_minutes 8 = .ok (.invokevirtual 146, 3) := by decide +kernel
theorem dX4_minutes_11 : decode cX4_minutes 11 = .ok (.iinc 2 1, 3) := by decide +kernel
theorem dX4_minutes_14 : decode cX4_minutes 14 = .ok (.goto (-12), 3) := by decide +kernel
theorem dX4_minutes_17 : decode cX4_minutes 17 = .ok (.return_, 1) := by decide +kernel
theorem dX4_go_0 : decode cX4_go 0 = .ok (.iload_n 1, 1) := by decide +kernel
theorem dX4_go_1 : decode cX4_go 1 = .ok (.i2l, 1) := by decide +kernel
theorem dX4_go_2 : decode cX4_go 2 = .ok (.lconst 1, 1) := by decide +kernel
theorem dX4_go_3 : decode cX4_go 3 = .ok (.ldc2_w 149, 3) := by decide +kernel
theorem dX4_go_6 : decode cX4_go 6 = .ok (.invokestatic 57, 3) := by decide +kernel
theorem dX4_go_9 : decode cX4_go 9 = .ok (.ifCond .ne 9, 3) := by decide +kernel
theorem dX4_go_12 : decode cX4_go 12 = .ok (.aload_n 0, 1) := by decide +kernel
theorem dX4_go_13 : decode cX4_go 13 = .ok (.iconst 0, 1) := by decide +kernel
theorem dX4_go_14 : decode cX4_go 14 = .ok (.invokevirtual 82, 3) := by decide +kernel
theorem dX4_go_17 : decode cX4_go 17 = .ok (.ireturn, 1) := by decide +kernel
theorem dX4_go_18 : decode cX4_go 18 = .ok (.aload_n 0, 1) := by decide +kernel
theorem dX4_go_19 : decode cX4_go 19 = .ok (.getfield 9, 3) := by decide +kernel
theorem dX4_go_22 : decode cX4_go 22 = .ok (.iconst 0, 1) := by decide +kernel
theorem dX4_go_23 : decode cX4_go 23 = .ok (.iaload, 1) := by decide +kernel
theorem dX4_go_24 : decode cX4_go 24 = .ok (.iload_n 1, 1) := by decide +kernel
theorem dX4_go_25 : decode cX4_go 25 = .ok (.iadd, 1) := by decide +kernel
theorem dX4_go_26 : decode cX4_go 26 = .ok (.ldc 151, 2) := by decide +kernel
theorem dX4_go_28 : decode cX4_go 28 = .ok (.if_icmp .le 9, 3) := by decide +kernel
theorem dX4_go_31 : decode cX4_go 31 = .ok (.aload_n 0, 1) := by decide +kernel
theorem dX4_go_32 : decode cX4_go 32 = .ok (.iconst 4, 1) := by decide +kernel
theorem dX4_go_33 : decode cX4_go 33 = .ok (.invokevirtual 82, 3) := by decide +kernel
theorem dX4_go_36 : decode cX4_go 36 = .ok (.ireturn, 1) := by decide +kernel
theorem dX4_go_37 : decode cX4_go 37 = .ok (.aload_n 0, 1) := by decide +kernel
theorem dX4_go_38 : decode cX4_go 38 = .ok (.iload_n 1, 1) := by decide +kernel
theorem dX4_go_39 : decode cX4_go 39 = .ok (.invokevirtual 152, 3) := by decide +kernel
theorem dX4_go_42 : decode cX4_go 42 = .ok (.aload_n 0, 1) := by decide +kernel
theorem dX4_go_43 : decode cX4_go 43 = .ok (.bipush 15, 2) := by decide +kernel
theorem dX4_go_45 : decode cX4_go 45 = .ok (.invokevirtual 72, 3) := by decide +kernel
theorem dX4_go_48 : decode cX4_go 48 = .ok (.ireturn, 1) := by decide +kernel
theorem dX4_allWeight_0 : decode cX4_allWeight 0 = .ok (.iconst 0, 1) := by decide +kernel
theorem dX4_allWeight_1 : decode cX4_allWeight 1 = .ok (.istore_n 1, 1) := by decide +kernel
theorem dX4_allWeight_2 : decode cX4_allWeight 2 = .ok (.iconst 0, 1) := by decide +kernel
theorem dX4_allWeight_3 : decode cX4_allWeight 3 = .ok (.istore_n 2, 1) := by decide +kernel
theorem dX4_allWeight_4 : decode cX4_allWeight 4 = .ok (.iload_n 2, 1) := by decide +kernel
theorem dX4_allWeight_5 : decode cX4_allWeight 5 = .ok (.aload_n 0, 1) := by decide +kernel
theorem dX4_allWeight_6 : decode cX4_allWeight 6 = .ok (.getfield 9, 3) := by decide +kernel
theorem dX4_allWeight_9 : decode cX4_allWeight 9 = .ok (.iconst 1, 1) := by decide +kernel
theorem dX4_allWeight_10 : decode cX4_allWeight 10 = .ok (.iaload, 1) := by decide +kernel
theorem dX4_allWeight_11 : decode cX4_allWeight 11 = .ok (.if_icmp .ge 18, 3) := by decide +kernel
theorem dX4_allWeight_14 : decode cX4_allWeight 14 = .ok (.iload_n 1, 1) := by decide +kernel
theorem dX4_allWeight_15 : decode cX4_allWeight 15 = .ok (.aload_n 0, 1) := by decide +kernel
theorem dX4_allWeight_16 : decode cX4_allWeight 16 = .ok (.iload_n 2, 1) := by decide +kernel
theorem dX4_allWeight_17 : decode cX4_allWeight 17 = .ok (.iconst 2, 1) := by decide +kernel
theorem dX4_allWeight_18 : decode cX4_allWeight 18 = .ok (.invokevirtual 69, 3) := by decide +kernel
theorem dX4_allWeight_21 : decode cX4_allWeight 21 = .ok (.iadd, 1) := by decide +kernel
theorem dX4_allWeight_22 : decode cX4_allWeight 22 = .ok (.istore_n 1, 1) := by decide +kernel
theorem dX4_allWeight_23 : decode cX4_allWeight 23 = .ok (.iinc 2 1, 3) := by decide +kernel
theorem dX4_allWeight_26 : decode cX4_allWeight 26 = .ok (.goto (-22), 3) := by decide +kernel
theorem dX4_allWeight_29 : decode cX4_allWeight 29 = .ok (.iload_n 1, 1) := by decide +kernel
theorem dX4_allWeight_30 : decode cX4_allWeight 30 = .ok (.ireturn, 1) := by decide +kernel
theorem dX4_cornersThat_0 : decode cX4_cornersThat 0 = .ok (.iconst 0, 1) := by decide +kernel
theorem dX4_cornersThat_1 : decode cX4_cornersThat 1 = .ok (.istore_n 2, 1) := by decide +kernel
theorem dX4_cornersThat_2 : decode cX4_cornersThat 2 = .ok (.iconst 0, 1) := by decide +kernel
theorem dX4_cornersThat_3 : decode cX4_cornersThat 3 = .ok (.istore_n 3, 1) := by decide +kernel
theorem dX4_cornersThat_4 : decode cX4_cornersThat 4 = .ok (.iload_n 3, 1) := by decide +kernel
theorem dX4_cornersThat_5 : decode cX4_cornersThat 5 = .ok (.bipush 16, 2) := by decide +kernel
theorem dX4_cornersThat_7 : decode cX4_cornersThat 7 = .ok (.if_icmp .ge 42, 3) := by decide +kernel
theorem dX4_cornersThat_10 : decode cX4_cornersThat 10 = .ok (.iload_n 2, 1) := by decide +kernel
theorem dX4_cornersThat_11 : decode cX4_cornersThat 11 = .ok (.iload_n 1, 1) := by decide +kernel
theorem dX4_cornersThat_12 : decode cX4_cornersThat 12 = .ok (.ifCond .eq 14, 3) := by decide +kernel
theorem dX4_cornersThat_15 : decode cX4_cornersThat 15 = .ok (.aload_n 0, 1) := by decide +kernel
theorem dX4_cornersThat_16 : decode cX4_cornersThat 16 = .ok (.iload_n 3, 1) := by decide +kernel
theorem dX4_cornersThat_17 : decode cX4_cornersThat 17 = .ok (.invokevirtual 88, 3) := by decide +kernel
theorem dX4_cornersThat_20 : decode cX4_cornersThat 20 = .ok (.ifCond .eq 20, 3) := by decide +kernel
theorem dX4_cornersThat_23 : decode cX4_cornersThat 23 = .ok (.goto 11, 3) := by decide +kernel
theorem dX4_cornersThat_26 : decode cX4_cornersThat 26 = .ok (.aload_n 0, 1) := by decide +kernel
theorem dX4_cornersThat_27 : decode cX4_cornersThat 27 = .ok (.iload_n 3, 1) := by decide +kernel
theorem dX4_cornersThat_28 : decode cX4_cornersThat 28 = .ok (.invokevirtual 85, 3) := by decide +kernel
theorem dX4_cornersThat_31 : decode cX4_cornersThat 31 = .ok (.ifCond .le 9, 3) := by decide +kernel
theorem dX4_cornersThat_34 : decode cX4_cornersThat 34 = .ok (.iconst 1, 1) := by decide +kernel
theorem dX4_cornersThat_35 : decode cX4_cornersThat 35 = .ok (.iload_n 3, 1) := by decide +kernel
theorem dX4_cornersThat_36 : decode cX4_cornersThat 36 = .ok (.ishl, 1) := by decide +kernel
theorem dX4_cornersThat_37 : decode cX4_cornersThat 37 = .ok (.goto 4, 3) := by decide +kernel
theorem dX4_cornersThat_40 : decode cX4_cornersThat 40 = .ok (.iconst 0, 1) := by decide +kernel
theorem dX4_cornersThat_41 : decode cX4_cornersThat 41 = .ok (.ior, 1) := by decide +kernel
theorem dX4_cornersThat_42 : decode cX4_cornersThat 42 = .ok (.istore_n 2, 1) := by decide +kernel
theorem dX4_cornersThat_43 : decode cX4_cornersThat 43 = .ok (.iinc 3 1, 3) := by decide +kernel
theorem dX4_cornersThat_46 : decode cX4_cornersThat 46 = .ok (.goto (-42), 3) := by decide +kernel
theorem dX4_cornersThat_49 : decode cX4_cornersThat 49 = .ok (.iload_n 2, 1) := by decide +kernel
theorem dX4_cornersThat_50 : decode cX4_cornersThat 50 = .ok (.ireturn, 1) := by decide +kernel
theorem dX4_now_0 : decode cX4_now 0 = .ok (.iload_n 1, 1) := by decide +kernel
theorem dX4_now_1 : decode cX4_now 1 = .ok (.tableswitch 77 0 5 #[39, 46, 52, 57, 64, 71], 39) := by decide +kernel
theorem dX4_now_40 : decode cX4_now 40 = .ok (.aload_n 0, 1) := by decide +kernel
theorem dX4_now_41 : decode cX4_now 41 = .ok (.getfield 9, 3) := by decide +kernel
theorem dX4_now_44 : decode cX4_now 44 = .ok (.iconst 0, 1) := by decide +kernel
theorem dX4_now_45 : decode cX4_now 45 = .ok (.iaload, 1) := by decide +kernel
theorem dX4_now_46 : decode cX4_now 46 = .ok (.ireturn, 1) := by decide +kernel
theorem dX4_now_47 : decode cX4_now 47 = .ok (.aload_n 0, 1) := by decide +kernel
theorem dX4_now_48 : decode cX4_now 48 = .ok (.iconst 1, 1) := by decide +kernel
theorem dX4_now_49 : decode cX4_now 49 = .ok (.invokevirtual 155, 3) := by decide +kernel
theorem dX4_now_52 : decode cX4_now 52 = .ok (.ireturn, 1) := by decide +kernel
theorem dX4_now_53 : decode cX4_now 53 = .ok (.aload_n 0, 1) := by decide +kernel
theorem dX4_now_54 : decode cX4_now 54 = .ok (.invokevirtual 159, 3) := by decide +kernel
theorem dX4_now_57 : decode cX4_now 57 = .ok (.ireturn, 1) := by decide +kernel
theorem dX4_now_58 : decode cX4_now 58 = .ok (.aload_n 0, 1) := by decide +kernel
theorem dX4_now_59 : decode cX4_now 59 = .ok (.getfield 9, 3) := by decide +kernel
theorem dX4_now_62 : decode cX4_now 62 = .ok (.iconst 2, 1) := by decide +kernel
theorem dX4_now_63 : decode cX4_now 63 = .ok (.iaload, 1) := by decide +kernel
theorem dX4_now_64 : decode cX4_now 64 = .ok (.ireturn, 1) := by decide +kernel
theorem dX4_now_65 : decode cX4_now 65 = .ok (.aload_n 0, 1) := by decide +kernel
theorem dX4_now_66 : decode cX4_now 66 = .ok (.getfield 9, 3) := by decide +kernel
theorem dX4_now_69 : decode cX4_now 69 = .ok (.iconst 3, 1) := by decide +kernel
theorem dX4_now_70 : decode cX4_now 70 = .ok (.iaload, 1) := by decide +kernel
theorem dX4_now_71 : decode cX4_now 71 = .ok (.ireturn, 1) := by decide +kernel
theorem dX4_now_72 : decode cX4_now 72 = .ok (.aload_n 0, 1) := by decide +kernel
theorem dX4_now_73 : decode cX4_now 73 = .ok (.iconst 0, 1) := by decide +kernel
theorem dX4_now_74 : decode cX4_now 74 = .ok (.invokevirtual 155, 3) := by decide +kernel
theorem dX4_now_77 : decode cX4_now 77 = .ok (.ireturn, 1) := by decide +kernel
theorem dX4_now_78 : decode cX4_now 78 = .ok (.aload_n 0, 1) := by decide +kernel
theorem dX4_now_79 : decode cX4_now 79 = .ok (.iconst 0, 1) := by decide +kernel
theorem dX4_now_80 : decode cX4_now 80 = .ok (.invokevirtual 82, 3) := by decide +kernel
theorem dX4_now_83 : decode cX4_now 83 = .ok (.ireturn, 1) := by decide +kernel
theorem dX4_merge_0 : decode cX4_merge 0 = .ok (.iload_n 1, 1) := by decide +kernel
theorem dX4_merge_1 : decode cX4_merge 1 = .ok (.invokestatic 76, 3) := by decide +kernel
theorem dX4_merge_4 : decode cX4_merge 4 = .ok (.ifCond .ne 9, 3) := by decide +kernel
theorem dX4_merge_7 : decode cX4_merge 7 = .ok (.aload_n 0, 1) := by decide +kernel
theorem dX4_merge_8 : decode cX4_merge 8 = .ok (.iconst 0, 1) := by decide +kernel
theorem dX4_merge_9 : decode cX4_merge 9 = .ok (.invokevirtual 82, 3) := by decide +kernel
theorem dX4_merge_12 : decode cX4_merge 12 = .ok (.ireturn, 1) := by decide +kernel
theorem dX4_merge_13 : decode cX4_merge 13 = .ok (.iconst 0, 1) := by decide +kernel
theorem dX4_merge_14 : decode cX4_merge 14 = .ok (.istore_n 2, 1) := by decide +kernel
theorem dX4_merge_15 : decode cX4_merge 15 = .ok (.iconst (-1), 1) := by decide +kernel
theorem dX4_merge_16 : decode cX4_merge 16 = .ok (.istore_n 3, 1) := by decide +kernel
theorem dX4_merge_17 : decode cX4_merge 17 = .ok (.aload_n 0, 1) := by decide +kernel
theorem dX4_merge_18 : decode cX4_merge 18 = .ok (.iload_n 1, 1) := by decide +kernel
theorem dX4_merge_19 : decode cX4_merge 19 = .ok (.invokevirtual 72, 3) := by decide +kernel
theorem dX4_merge_22 : decode cX4_merge 22 = .ok (.istore 4, 2) := by decide +kernel
theorem dX4_merge_24 : decode cX4_merge 24 = .ok (.iconst 0, 1) := by decide +kernel
theorem dX4_merge_25 : decode cX4_merge 25 = .ok (.istore 5, 2) := by decide +kernel
theorem dX4_merge_27 : decode cX4_merge 27 = .ok (.iload 5, 2) := by decide +kernel
theorem dX4_merge_29 : decode cX4_merge 29 = .ok (.aload_n 0, 1) := by decide +kernel
theorem dX4_merge_30 : decode cX4_merge 30 = .ok (.getfield 9, 3) := by decide +kernel
theorem dX4_merge_33 : decode cX4_merge 33 = .ok (.iconst 1, 1) := by decide +kernel
theorem dX4_merge_34 : decode cX4_merge 34 = .ok (.iaload, 1) := by decide +kernel
theorem dX4_merge_35 : decode cX4_merge 35 = .ok (.if_icmp .ge 65, 3) := by decide +kernel
theorem dX4_merge_38 : decode cX4_merge 38 = .ok (.aload_n 0, 1) := by decide +kernel
theorem dX4_merge_39 : decode cX4_merge 39 = .ok (.iload 5, 2) := by decide +kernel
theorem dX4_merge_41 : decode cX4_merge 41 = .ok (.iconst 1, 1) := by decide +kernel
theorem dX4_merge_42 : decode cX4_merge 42 = .ok (.invokevirtual 69, 3) := by decide +kernel
theorem dX4_merge_45 : decode cX4_merge 45 = .ok (.iload_n 1, 1) := by decide +kernel
theorem dX4_merge_46 : decode cX4_merge 46 = .ok (.if_icmp .ne 48, 3) := by decide +kernel
theorem dX4_merge_49 : decode cX4_merge 49 = .ok (.iinc 2 1, 3) := by decide +kernel
theorem dX4_merge_52 : decode cX4_merge 52 = .ok (.iload_n 3, 1) := by decide +kernel
theorem dX4_merge_53 : decode cX4_merge 53 = .ok (.ifCond .ge 24, 3) := by decide +kernel
theorem dX4_merge_56 : decode cX4_merge 56 = .ok (.iload 5, 2) := by decide +kernel
theorem dX4_merge_58 : decode cX4_merge 58 = .ok (.istore_n 3, 1) := by decide +kernel
theorem dX4_merge_59 : decode cX4_merge 59 = .ok (.aload_n 0, 1) := by decide +kernel
theorem dX4_merge_60 : decode cX4_merge 60 = .ok (.iload 5, 2) := by decide +kernel
theorem dX4_merge_62 : decode cX4_merge 62 = .ok (.iconst 2, 1) := by decide +kernel
theorem dX4_merge_63 : decode cX4_merge 63 = .ok (.sipush 999, 3) := by decide +kernel
theorem dX4_merge_66 : decode cX4_merge 66 = .ok (.iload 4, 2) := by decide +kernel
theorem dX4_merge_68 : decode cX4_merge 68 = .ok (.invokestatic 44, 3) := by decide +kernel
theorem dX4_merge_71 : decode cX4_merge 71 = .ok (.invokevirtual 107, 3) := by decide +kernel
theorem dX4_merge_74 : decode cX4_merge 74 = .ok (.goto 20, 3) := by decide +kernel
theorem dX4_merge_77 : decode cX4_merge 77 = .ok (.aload_n 0, 1) := by decide +kernel
theorem dX4_merge_78 : decode cX4_merge 78 = .ok (.iload 5, 2) := by decide +kernel
theorem dX4_merge_80 : decode cX4_merge 80 = .ok (.iconst 1, 1) := by decide +kernel
theorem dX4_merge_81 : decode cX4_merge 81 = .ok (.bipush 15, 2) := by decide +kernel
theorem dX4_merge_83 : decode cX4_merge 83 = .ok (.invokevirtual 107, 3) := by decide +kernel
theorem dX4_merge_86 : decode cX4_merge 86 = .ok (.aload_n 0, 1) := by decide +kernel
theorem dX4_merge_87 : decode cX4_merge 87 = .ok (.iload 5, 2) := by decide +kernel
theorem dX4_merge_89 : decode cX4_merge 89 = .ok (.iconst 2, 1) := by decide +kernel
theorem dX4_merge_90 : decode cX4_merge 90 = .ok (.iconst 1, 1) := by decide +kernel
theorem dX4_merge_91 : decode cX4_merge 91 = .ok (.invokevirtual 107, 3) := by decide +kernel
theorem dX4_merge_94 : decode cX4_merge 94 = .ok (.iinc 5 1, 3) := by decide +kernel
theorem dX4_merge_97 : decode cX4_merge 97 = .ok (.goto (-70), 3) := by decide +kernel
theorem dX4_merge_100 : decode cX4_merge 100 = .ok (.iload_n 2, 1) := by decide +kernel
theorem dX4_merge_101 : decode cX4_merge 101 = .ok (.ifCond .ne 11, 3) := by decide +kernel
theorem dX4_merge_104 : decode cX4_merge 104 = .ok (.aload_n 0, 1) := by decide +kernel
theorem dX4_merge_105 : decode cX4_merge 105 = .ok (.iconst 3, 1) := by decide +kernel
theorem dX4_merge_106 : decode cX4_merge 106 = .ok (.invokevirtual 82, 3) := by decide +kernel
theorem dX4_merge_109 : decode cX4_merge 109 = .ok (.goto 4, 3) := by decide +kernel
theorem dX4_merge_112 : decode cX4_merge 112 = .ok (.iload_n 2, 1) := by decide +kernel
theorem dX4_merge_113 : decode cX4_merge 113 = .ok (.ireturn, 1) := by decide +kernel
theorem dX4_isAhead_0 : decode cX4_isAhead 0 = .ok (.iload_n 0, 1) := by decide +kernel
theorem dX4_isAhead_1 : decode cX4_isAhead 1 = .ok (.i2l, 1) := by decide +kernel
theorem dX4_isAhead_2 : decode cX4_isAhead 2 = .ok (.lconst 0, 1) := by decide +kernel
theorem dX4_isAhead_3 : decode cX4_isAhead 3 = .ok (.ldc2_w 163, 3) := by decide +kernel
theorem dX4_isAhead_6 : decode cX4_isAhead 6 = .ok (.invokestatic 57, 3) := by decide +kernel
theorem dX4_isAhead_9 : decode cX4_isAhead 9 = .ok (.ireturn, 1) := by decide +kernel
theorem dX4_ahead_0 : decode cX4_ahead 0 = .ok (.aload_n 0, 1) := by decide +kernel
theorem dX4_ahead_1 : decode cX4_ahead 1 = .ok (.iload_n 1, 1) := by decide +kernel
theorem dX4_ahead_2 : decode cX4_ahead 2 = .ok (.invokevirtual 117, 3) := by decide +kernel
theorem dX4_ahead_5 : decode cX4_ahead 5 = .ok (.ifCond .eq 10, 3) := by decide +kernel
theorem dX4_ahead_8 : decode cX4_ahead 8 = .ok (.iload_n 2, 1) := by decide +kernel
theorem dX4_ahead_9 : decode cX4_ahead 9 = .ok (.invokestatic 165, 3) := by decide +kernel
theorem dX4_ahead_12 : decode cX4_ahead 12 = .ok (.ifCond .ne 9, 3) := by decide +kernel
theorem dX4_ahead_15 : decode cX4_ahead 15 = .ok (.aload_n 0, 1) := by decide +kernel
theorem dX4_ahead_16 : decode cX4_ahead 16 = .ok (.iconst 0, 1) := by decide +kernel
theorem dX4_ahead_17 : decode cX4_ahead 17 = .ok (.invokevirtual 82, 3) := by decide +kernel
theorem dX4_ahead_20 : decode cX4_ahead 20 = .ok (.ireturn, 1) := by decide +kernel
theorem dX4_ahead_21 : decode cX4_ahead 21 = .ok (.aload_n 0, 1) := by decide +kernel
theorem dX4_ahead_22 : decode cX4_ahead 22 = .ok (.invokevirtual 168, 3) := by decide +kernel
theorem dX4_ahead_25 : decode cX4_ahead 25 = .ok (.aload_n 0, 1) := by decide +kernel
theorem dX4_ahead_26 : decode cX4_ahead 26 = .ok (.iload_n 2, 1) := by decide +kernel
theorem dX4_ahead_27 : decode cX4_ahead 27 = .ok (.invokevirtual 152, 3) := by decide +kernel
theorem dX4_ahead_30 : decode cX4_ahead 30 = .ok (.aload_n 0, 1) := by decide +kernel
theorem dX4_ahead_31 : decode cX4_ahead 31 = .ok (.iload_n 1, 1) := by decide +kernel
theorem dX4_ahead_32 : decode cX4_ahead 32 = .ok (.iconst 1, 1) := by decide +kernel
theorem dX4_ahead_33 : decode cX4_ahead 33 = .ok (.invokevirtual 69, 3) := by decide +kernel
theorem dX4_ahead_36 : decode cX4_ahead 36 = .ok (.istore_n 3, 1) := by decide +kernel
theorem dX4_ahead_37 : decode cX4_ahead 37 = .ok (.aload_n 0, 1) := by decide +kernel
theorem dX4_ahead_38 : decode cX4_ahead 38 = .ok (.invokevirtual 171, 3) := by decide +kernel
theorem dX4_ahead_41 : decode cX4_ahead 41 = .ok (.iload_n 3, 1) := by decide +kernel
theorem dX4_ahead_42 : decode cX4_ahead 42 = .ok (.ireturn, 1) := by decide +kernel
theorem dX4_loudBy_0 : decode cX4_loudBy 0 = .ok (.aload_n 0, 1) := by decide +kernel
theorem dX4_loudBy_1 : decode cX4_loudBy 1 = .ok (.invokevirtual 168, 3) := by decide +kernel
theorem dX4_loudBy_4 : decode cX4_loudBy 4 = .ok (.aload_n 0, 1) := by decide +kernel
theorem dX4_loudBy_5 : decode cX4_loudBy 5 = .ok (.iload_n 2, 1) := by decide +kernel
theorem dX4_loudBy_6 : decode cX4_loudBy 6 = .ok (.invokevirtual 152, 3) := by decide +kernel
theorem dX4_loudBy_9 : decode cX4_loudBy 9 = .ok (.aload_n 0, 1) := by decide +kernel
theorem dX4_loudBy_10 : decode cX4_loudBy 10 = .ok (.iload_n 1, 1) := by decide +kernel
theorem dX4_loudBy_11 : decode cX4_loudBy 11 = .ok (.invokevirtual 72, 3) := by decide +kernel
theorem dX4_loudBy_14 : decode cX4_loudBy 14 = .ok (.istore_n 3, 1) := by decide +kernel
theorem dX4_loudBy_15 : decode cX4_loudBy 15 = .ok (.aload_n 0, 1) := by decide +kernel
theorem dX4_loudBy_16 : decode cX4_loudBy 16 = .ok (.invokevirtual 171, 3) := by decide +kernel
theorem dX4_loudBy_19 : decode cX4_loudBy 19 = .ok (.iload_n 3, 1) := by decide +kernel
theorem dX4_loudBy_20 : decode cX4_loudBy 20 = .ok (.ireturn, 1) := by decide +kernel
theorem dX4_loud_0 : decode cX4_loud 0 = .ok (.iload_n 1, 1) := by decide +kernel
theorem dX4_loud_1 : decode cX4_loud 1 = .ok (.invokestatic 76, 3) := by decide +kernel
theorem dX4_loud_4 : decode cX4_loud 4 = .ok (.ifCond .eq 19, 3) := by decide +kernel
theorem dX4_loud_7 : decode cX4_loud 7 = .ok (.iload_n 2, 1) := by decide +kernel
theorem dX4_loud_8 : decode cX4_loud 8 = .ok (.invokestatic 165, 3) := by decide +kernel
theorem dX4_loud_11 : decode cX4_loud 11 = .ok (.ifCond .eq 12, 3) := by decide +kernel
theorem dX4_loud_14 : decode cX4_loud 14 = .ok (.aload_n 0, 1) := by decide +kernel
theorem dX4_loud_15 : decode cX4_loud 15 = .ok (.iload_n 1, 1) := by decide +kernel
theorem dX4_loud_16 : decode cX4_loud 16 = .ok (.iload_n 2, 1) := by decide +kernel
theorem dX4_loud_17 : decode cX4_loud 17 = .ok (.invokevirtual 174, 3) := by decide +kernel
theorem dX4_loud_20 : decode cX4_loud 20 = .ok (.goto 8, 3) := by decide +kernel
theorem dX4_loud_23 : decode cX4_loud 23 = .ok (.aload_n 0, 1) := by decide +kernel
theorem dX4_loud_24 : decode cX4_loud 24 = .ok (.iconst 0, 1) := by decide +kernel
theorem dX4_loud_25 : decode cX4_loud 25 = .ok (.invokevirtual 82, 3) := by decide +kernel
theorem dX4_loud_28 : decode cX4_loud 28 = .ok (.ireturn, 1) := by decide +kernel
theorem dX4_heard_0 : decode cX4_heard 0 = .ok (.iload_n 1, 1) := by decide +kernel
theorem dX4_heard_1 : decode cX4_heard 1 = .ok (.invokestatic 76, 3) := by decide +kernel
theorem dX4_heard_4 : decode cX4_heard 4 = .ok (.ifCond .ne 9, 3) := by decide +kernel
theorem dX4_heard_7 : decode cX4_heard 7 = .ok (.aload_n 0, 1) := by decide +kernel
theorem dX4_heard_8 : decode cX4_heard 8 = .ok (.iconst 0, 1) := by decide +kernel
theorem dX4_heard_9 : decode cX4_heard 9 = .ok (.invokevirtual 82, 3) := by decide +kernel
theorem dX4_heard_12 : decode cX4_heard 12 = .ok (.ireturn, 1) := by decide +kernel
theorem dX4_heard_13 : decode cX4_heard 13 = .ok (.aload_n 0, 1) := by decide +kernel
theorem dX4_heard_14 : decode cX4_heard 14 = .ok (.invokevirtual 168, 3) := by decide +kernel
theorem dX4_heard_17 : decode cX4_heard 17 = .ok (.iconst 0, 1) := by decide +kernel
theorem dX4_heard_18 : decode cX4_heard 18 = .ok (.istore_n 2, 1) := by decide +kernel
theorem dX4_heard_19 : decode cX4_heard 19 = .ok (.iload_n 2, 1) := by decide +kernel
theorem dX4_heard_20 : decode cX4_heard 20 = .ok (.bipush 100, 2) := by decide +kernel
theorem dX4_heard_22 : decode cX4_heard 22 = .ok (.if_icmp .gt 21, 3) := by decide +kernel
theorem dX4_heard_25 : decode cX4_heard 25 = .ok (.aload_n 0, 1) := by decide +kernel
theorem dX4_heard_26 : decode cX4_heard 26 = .ok (.iload_n 1, 1) := by decide +kernel
theorem dX4_heard_27 : decode cX4_heard 27 = .ok (.invokevirtual 88, 3) := by decide +kernel
theorem dX4_heard_30 : decode cX4_heard 30 = .ok (.ifCond .ne 13, 3) := by decide +kernel
theorem dX4_heard_33 : decode cX4_heard 33 = .ok (.aload_n 0, 1) := by decide +kernel
theorem dX4_heard_34 : decode cX4_heard 34 = .ok (.invokevirtual 146, 3) := by decide +kernel
theorem dX4_heard_37 : decode cX4_heard 37 = .ok (.iinc 2 1, 3) := by decide +kernel
theorem dX4_heard_40 : decode cX4_heard 40 = .ok (.goto (-21), 3) := by decide +kernel
theorem dX4_heard_43 : decode cX4_heard 43 = .ok (.aload_n 0, 1) := by decide +kernel
theorem dX4_heard_44 : decode cX4_heard 44 = .ok (.invokevirtual 171, 3) := by decide +kernel
theorem dX4_heard_47 : decode cX4_heard 47 = .ok (.iload_n 2, 1) := by decide +kernel
theorem dX4_heard_48 : decode cX4_heard 48 = .ok (.bipush 100, 2) := by decide +kernel
theorem dX4_heard_50 : decode cX4_heard 50 = .ok (.if_icmp .gt 7, 3) := by decide +kernel
theorem dX4_heard_53 : decode cX4_heard 53 = .ok (.iload_n 2, 1) := by decide +kernel
theorem dX4_heard_54 : decode cX4_heard 54 = .ok (.goto 8, 3) := by decide +kernel
theorem dX4_heard_57 : decode cX4_heard 57 = .ok (.aload_n 0, 1) := by decide +kernel
theorem dX4_heard_58 : decode cX4_heard 58 = .ok (.iconst 3, 1) := by decide +kernel
theorem dX4_heard_59 : decode cX4_heard 59 = .ok (.invokevirtual 82, 3) := by decide +kernel
theorem dX4_heard_62 : decode cX4_heard 62 = .ok (.ireturn, 1) := by decide +kernel
theorem dX4_moves_0 : decode cX4_moves 0 = .ok (.aload_n 0, 1) := by decide +kernel
theorem dX4_moves_1 : decode cX4_moves 1 = .ok (.aload_n 0, 1) := by decide +kernel
theorem dX4_moves_2 : decode cX4_moves 2 = .ok (.iload_n 1, 1) := by decide +kernel
theorem dX4_moves_3 : decode cX4_moves 3 = .ok (.iconst 1, 1) := by decide +kernel
theorem dX4_moves_4 : decode cX4_moves 4 = .ok (.invokevirtual 69, 3) := by decide +kernel
theorem dX4_moves_7 : decode cX4_moves 7 = .ok (.invokevirtual 85, 3) := by decide +kernel
theorem dX4_moves_10 : decode cX4_moves 10 = .ok (.ifCond .le 15, 3) := by decide +kernel
theorem dX4_moves_13 : decode cX4_moves 13 = .ok (.aload_n 0, 1) := by decide +kernel
theorem dX4_moves_14 : decode cX4_moves 14 = .ok (.iload_n 1, 1) := by decide +kernel
theorem dX4_moves_15 : decode cX4_moves 15 = .ok (.invokevirtual 120, 3) := by decide +kernel
theorem dX4_moves_18 : decode cX4_moves 18 = .ok (.ifCond .le 7, 3) := by decide +kernel
theorem dX4_moves_21 : decode cX4_moves 21 = .ok (.iconst 1, 1) := by decide +kernel
theorem dX4_moves_22 : decode cX4_moves 22 = .ok (.goto 4, 3) := by decide +kernel
theorem dX4_moves_25 : decode cX4_moves 25 = .ok (.iconst 0, 1) := by decide +kernel
theorem dX4_moves_26 : decode cX4_moves 26 = .ok (.ireturn, 1) := by decide +kernel
theorem dX4_isStill_0 : decode cX4_isStill 0 = .ok (.iconst 1, 1) := by decide +kernel
theorem dX4_isStill_1 : decode cX4_isStill 1 = .ok (.istore_n 1, 1) := by decide +kernel
theorem dX4_isStill_2 : decode cX4_isStill 2 = .ok (.iconst 0, 1) := by decide +kernel
theorem dX4_isStill_3 : decode cX4_isStill 3 = .ok (.istore_n 2, 1) := by decide +kernel
theorem dX4_isStill_4 : decode cX4_isStill 4 = .ok (.iload_n 2, 1) := by decide +kernel
theorem dX4_isStill_5 : decode cX4_isStill 5 = .ok (.aload_n 0, 1) := by decide +kernel
theorem dX4_isStill_6 : decode cX4_isStill 6 = .ok (.getfield 9, 3) := by decide +kernel
theorem dX4_isStill_9 : decode cX4_isStill 9 = .ok (.iconst 1, 1) := by decide +kernel
theorem dX4_isStill_10 : decode cX4_isStill 10 = .ok (.iaload, 1) := by decide +kernel
theorem dX4_isStill_11 : decode cX4_isStill 11 = .ok (.if_icmp .ge 27, 3) := by decide +kernel
theorem dX4_isStill_14 : decode cX4_isStill 14 = .ok (.iload_n 1, 1) := by decide +kernel
theorem dX4_isStill_15 : decode cX4_isStill 15 = .ok (.ifCond .eq 15, 3) := by decide +kernel
theorem dX4_isStill_18 : decode cX4_isStill 18 = .ok (.aload_n 0, 1) := by decide +kernel
theorem dX4_isStill_19 : decode cX4_isStill 19 = .ok (.iload_n 2, 1) := by decide +kernel
theorem dX4_isStill_20 : decode cX4_isStill 20 = .ok (.invokevirtual 177, 3) := by decide +kernel
theorem dX4_isStill_23 : decode cX4_isStill 23 = .ok (.ifCond .ne 7, 3) := by decide +kernel
theorem dX4_isStill_26 : decode cX4_isStill 26 = .ok (.iconst 1, 1) := by decide +kernel
theorem dX4_isStill_27 : decode cX4_isStill 27 = .ok (.goto 4, 3) := by decide +kernel
theorem dX4_isStill_30 : decode cX4_isStill 30 = .ok (.iconst 0, 1) := by decide +kernel
theorem dX4_isStill_31 : decode cX4_isStill 31 = .ok (.istore_n 1, 1) := by decide +kernel
theorem dX4_isStill_32 : decode cX4_isStill 32 = .ok (.iinc 2 1, 3) := by decide +kernel
theorem dX4_isStill_35 : decode cX4_isStill 35 = .ok (.goto (-31), 3) := by decide +kernel
theorem dX4_isStill_38 : decode cX4_isStill 38 = .ok (.iload_n 1, 1) := by decide +kernel
theorem dX4_isStill_39 : decode cX4_isStill 39 = .ok (.ireturn, 1) := by decide +kernel
theorem dX4_still_0 : decode cX4_still 0 = .ok (.aload_n 0, 1) := by decide +kernel
theorem dX4_still_1 : decode cX4_still 1 = .ok (.invokevirtual 168, 3) := by decide +kernel
theorem dX4_still_4 : decode cX4_still 4 = .ok (.iconst 0, 1) := by decide +kernel
theorem dX4_still_5 : decode cX4_still 5 = .ok (.istore_n 1, 1) := by decide +kernel
theorem dX4_still_6 : decode cX4_still 6 = .ok (.iload_n 1, 1) := by decide +kernel
theorem dX4_still_7 : decode cX4_still 7 = .ok (.bipush 100, 2) := by decide +kernel
theorem dX4_still_9 : decode cX4_still 9 = .ok (.if_icmp .gt 20, 3) := by decide +kernel
theorem dX4_still_12 : decode cX4_still 12 = .ok (.aload_n 0, 1) := by decide +kernel
theorem dX4_still_13 : decode cX4_still 13 = .ok (.invokevirtual 180, 3) := by decide +kernel
theorem dX4_still_16 : decode cX4_still 16 = .ok (.ifCond .ne 13, 3) := by decide +kernel
theorem dX4_still_19 : decode cX4_still 19 = .ok (.aload_n 0, 1) := by decide +kernel
theorem dX4_still_20 : decode cX4_still 20 = .ok (.invokevirtual 146, 3) := by decide +kernel
theorem dX4_still_23 : decode cX4_still 23 = .ok (.iinc 1 1, 3) := by decide +kernel
theorem dX4_still_26 : decode cX4_still 26 = .ok (.goto (-20), 3) := by decide +kernel
theorem dX4_still_29 : decode cX4_still 29 = .ok (.aload_n 0, 1) := by decide +kernel
theorem dX4_still_30 : decode cX4_still 30 = .ok (.invokevirtual 171, 3) := by decide +kernel
theorem dX4_still_33 : decode cX4_still 33 = .ok (.iload_n 1, 1) := by decide +kernel
theorem dX4_still_34 : decode cX4_still 34 = .ok (.bipush 100, 2) := by decide +kernel
theorem dX4_still_36 : decode cX4_still 36 = .ok (.if_icmp .gt 7, 3) := by decide +kernel
theorem dX4_still_39 : decode cX4_still 39 = .ok (.iload_n 1, 1) := by decide +kernel
theorem dX4_still_40 : decode cX4_still 40 = .ok (.goto 8, 3) := by decide +kernel
theorem dX4_still_43 : decode cX4_still 43 = .ok (.aload_n 0, 1) := by decide +kernel
theorem dX4_still_44 : decode cX4_still 44 = .ok (.iconst 3, 1) := by decide +kernel
theorem dX4_still_45 : decode cX4_still 45 = .ok (.invokevirtual 82, 3) := by decide +kernel
theorem dX4_still_48 : decode cX4_still 48 = .ok (.ireturn, 1) := by decide +kernel
theorem dX4_comesHome_0 : decode cX4_comesHome 0 = .ok (.aload_n 0, 1) := by decide +kernel
theorem dX4_comesHome_1 : decode cX4_comesHome 1 = .ok (.invokevirtual 168, 3) := by decide +kernel
theorem dX4_comesHome_4 : decode cX4_comesHome 4 = .ok (.iconst 0, 1) := by decide +kernel
theorem dX4_comesHome_5 : decode cX4_comesHome 5 = .ok (.istore_n 2, 1) := by decide +kernel
theorem dX4_comesHome_6 : decode cX4_comesHome 6 = .ok (.iload_n 2, 1) := by decide +kernel
theorem dX4_comesHome_7 : decode cX4_comesHome 7 = .ok (.bipush 100, 2) := by decide +kernel
theorem dX4_comesHome_9 : decode cX4_comesHome 9 = .ok (.if_icmp .gt 24, 3) := by decide +kernel
theorem dX4_comesHome_12 : decode cX4_comesHome 12 = .ok (.aload_n 0, 1) := by decide +kernel
theorem dX4_comesHome_13 : decode cX4_comesHome 13 = .ok (.iload_n 1, 1) := by decide +kernel
theorem dX4_comesHome_14 : decode cX4_comesHome 14 = .ok (.iconst 1, 1) := by decide +kernel
theorem dX4_comesHome_15 : decode cX4_comesHome 15 = .ok (.invokevirtual 69, 3) := by decide +kernel
theorem dX4_comesHome_18 : decode cX4_comesHome 18 = .ok (.bipush 15, 2) := by decide +kernel
theorem dX4_comesHome_20 : decode cX4_comesHome 20 = .ok (.if_icmp .eq 13, 3) := by decide +kernel
theorem dX4_comesHome_23 : decode cX4_comesHome 23 = .ok (.aload_n 0, 1) := by decide +kernel
theorem dX4_comesHome_24 : decode cX4_comesHome 24 = .ok (.invokevirtual 146, 3) := by decide +kernel
theorem dX4_comesHome_27 : decode cX4_comesHome 27 = .ok (.iinc 2 1, 3) := by decide +kernel
theorem dX4_comesHome_30 : decode cX4_comesHome 30 = .ok (.goto (-24), 3) := by decide +kernel
theorem dX4_comesHome_33 : decode cX4_comesHome 33 = .ok (.aload_n 0, 1) := by decide +kernel
theorem dX4_comesHome_34 : decode cX4_comesHome 34 = .ok (.invokevirtual 171, 3) := by decide +kernel
theorem dX4_comesHome_37 : decode cX4_comesHome 37 = .ok (.iload_n 2, 1) := by decide +kernel
theorem dX4_comesHome_38 : decode cX4_comesHome 38 = .ok (.ireturn, 1) := by decide +kernel
theorem dX4_harbour_0 : decode cX4_harbour 0 = .ok (.aload_n 0, 1) := by decide +kernel
theorem dX4_harbour_1 : decode cX4_harbour 1 = .ok (.iload_n 1, 1) := by decide +kernel
theorem dX4_harbour_2 : decode cX4_harbour 2 = .ok (.invokevirtual 117, 3) := by decide +kernel
theorem dX4_harbour_5 : decode cX4_harbour 5 = .ok (.ifCond .ne 9, 3) := by decide +kernel
theorem dX4_harbour_8 : decode cX4_harbour 8 = .ok (.aload_n 0, 1) := by decide +kernel
theorem dX4_harbour_9 : decode cX4_harbour 9 = .ok (.iconst 0, 1) := by decide +kernel
theorem dX4_harbour_10 : decode cX4_harbour 10 = .ok (.invokevirtual 82, 3) := by decide +kernel
theorem dX4_harbour_13 : decode cX4_harbour 13 = .ok (.ireturn, 1) := by decide +kernel
theorem dX4_harbour_14 : decode cX4_harbour 14 = .ok (.aload_n 0, 1) := by decide +kernel
theorem dX4_harbour_15 : decode cX4_harbour 15 = .ok (.iload_n 1, 1) := by decide +kernel
theorem dX4_harbour_16 : decode cX4_harbour 16 = .ok (.invokevirtual 184, 3) := by decide +kernel
theorem dX4_harbour_19 : decode cX4_harbour 19 = .ok (.istore_n 2, 1) := by decide +kernel
theorem dX4_harbour_20 : decode cX4_harbour 20 = .ok (.iload_n 2, 1) := by decide +kernel
theorem dX4_harbour_21 : decode cX4_harbour 21 = .ok (.bipush 100, 2) := by decide +kernel
theorem dX4_harbour_23 : decode cX4_harbour 23 = .ok (.if_icmp .gt 7, 3) := by decide +kernel
theorem dX4_harbour_26 : decode cX4_harbour 26 = .ok (.iload_n 2, 1) := by decide +kernel
theorem dX4_harbour_27 : decode cX4_harbour 27 = .ok (.goto 8, 3) := by decide +kernel
theorem dX4_harbour_30 : decode cX4_harbour 30 = .ok (.aload_n 0, 1) := by decide +kernel
theorem dX4_harbour_31 : decode cX4_harbour 31 = .ok (.iconst 3, 1) := by decide +kernel
theorem dX4_harbour_32 : decode cX4_harbour 32 = .ok (.invokevirtual 82, 3) := by decide +kernel
theorem dX4_harbour_35 : decode cX4_harbour 35 = .ok (.ireturn, 1) := by decide +kernel
theorem dX4_loudest_0 : decode cX4_loudest 0 = .ok (.iload_n 1, 1) := by decide +kernel
theorem dX4_loudest_1 : decode cX4_loudest 1 = .ok (.invokestatic 76, 3) := by decide +kernel
theorem dX4_loudest_4 : decode cX4_loudest 4 = .ok (.ifCond .eq 10, 3) := by decide +kernel
theorem dX4_loudest_7 : decode cX4_loudest 7 = .ok (.iload_n 2, 1) := by decide +kernel
theorem dX4_loudest_8 : decode cX4_loudest 8 = .ok (.invokestatic 165, 3) := by decide +kernel
theorem dX4_loudest_11 : decode cX4_loudest 11 = .ok (.ifCond .ne 9, 3) := by decide +kernel
theorem dX4_loudest_14 : decode cX4_loudest 14 = .ok (.aload_n 0, 1) := by decide +kernel
theorem dX4_loudest_15 : decode cX4_loudest 15 = .ok (.iconst 0, 1) := by decide +kernel
theorem dX4_loudest_16 : decode cX4_loudest 16 = .ok (.invokevirtual 82, 3) := by decide +kernel
theorem dX4_loudest_19 : decode cX4_loudest 19 = .ok (.ireturn, 1) := by decide +kernel
theorem dX4_loudest_20 : decode cX4_loudest 20 = .ok (.aload_n 0, 1) := by decide +kernel
theorem dX4_loudest_21 : decode cX4_loudest 21 = .ok (.invokevirtual 168, 3) := by decide +kernel
theorem dX4_loudest_24 : decode cX4_loudest 24 = .ok (.aload_n 0, 1) := by decide +kernel
theorem dX4_loudest_25 : decode cX4_loudest 25 = .ok (.iload_n 1, 1) := by decide +kernel
theorem dX4_loudest_26 : decode cX4_loudest 26 = .ok (.invokevirtual 72, 3) := by decide +kernel
theorem dX4_loudest_29 : decode cX4_loudest 29 = .ok (.istore_n 3, 1) := by decide +kernel
theorem dX4_loudest_30 : decode cX4_loudest 30 = .ok (.iconst 0, 1) := by decide +kernel
theorem dX4_loudest_31 : decode cX4_loudest 31 = .ok (.istore 4, 2) := by decide +kernel
theorem dX4_loudest_33 : decode cX4_loudest 33 = .ok (.iload 4, 2) := by decide +kernel
theorem dX4_loudest_35 : decode cX4_loudest 35 = .ok (.iload_n 2, 1) := by decide +kernel
theorem dX4_loudest_36 : decode cX4_loudest 36 = .ok (.if_icmp .ge 23, 3) := by decide +kernel
theorem dX4_loudest_39 : decode cX4_loudest 39 = .ok (.aload_n 0, 1) := by decide +kernel
theorem dX4_loudest_40 : decode cX4_loudest 40 = .ok (.invokevirtual 146, 3) := by decide +kernel
theorem dX4_loudest_43 : decode cX4_loudest 43 = .ok (.iload_n 3, 1) := by decide +kernel
theorem dX4_loudest_44 : decode cX4_loudest 44 = .ok (.aload_n 0, 1) := by decide +kernel
theorem dX4_loudest_45 : decode cX4_loudest 45 = .ok (.iload_n 1, 1) := by decide +kernel
theorem dX4_loudest_46 : decode cX4_loudest 46 = .ok (.invokevirtual 72, 3) := by decide +kernel
theorem dX4_loudest_49 : decode cX4_loudest 49 = .ok (.invokestatic 66, 3) := by decide +kernel
theorem dX4_loudest_52 : decode cX4_loudest 52 = .ok (.istore_n 3, 1) := by decide +kernel
theorem dX4_loudest_53 : decode cX4_loudest 53 = .ok (.iinc 4 1, 3) := by decide +kernel
theorem dX4_loudest_56 : decode cX4_loudest 56 = .ok (.goto (-23), 3) := by decide +kernel
theorem dX4_loudest_59 : decode cX4_loudest 59 = .ok (.aload_n 0, 1) := by decide +kernel
theorem dX4_loudest_60 : decode cX4_loudest 60 = .ok (.invokevirtual 171, 3) := by decide +kernel
theorem dX4_loudest_63 : decode cX4_loudest 63 = .ok (.iload_n 3, 1) := by decide +kernel
theorem dX4_loudest_64 : decode cX4_loudest 64 = .ok (.ireturn, 1) := by decide +kernel
theorem dX4_heightOf_0 : decode cX4_heightOf 0 = .ok (.aload_n 0, 1) := by decide +kernel
theorem dX4_heightOf_1 : decode cX4_heightOf 1 = .ok (.aload_n 0, 1) := by decide +kernel
theorem dX4_heightOf_2 : decode cX4_heightOf 2 = .ok (.iload_n 1, 1) := by decide +kernel
theorem dX4_heightOf_3 : decode cX4_heightOf 3 = .ok (.iconst 1, 1) := by decide +kernel
theorem dX4_heightOf_4 : decode cX4_heightOf 4 = .ok (.invokevirtual 69, 3) := by decide +kernel
theorem dX4_heightOf_7 : decode cX4_heightOf 7 = .ok (.iconst 0, 1) := by decide +kernel
theorem dX4_heightOf_8 : decode cX4_heightOf 8 = .ok (.invokevirtual 63, 3) := by decide +kernel
theorem dX4_heightOf_11 : decode cX4_heightOf 11 = .ok (.ireturn, 1) := by decide +kernel
theorem dX4_overtakes_0 : decode cX4_overtakes 0 = .ok (.aload_n 0, 1) := by decide +kernel
theorem dX4_overtakes_1 : decode cX4_overtakes 1 = .ok (.iload_n 1, 1) := by decide +kernel
theorem dX4_overtakes_2 : decode cX4_overtakes 2 = .ok (.invokevirtual 117, 3) := by decide +kernel
theorem dX4_overtakes_5 : decode cX4_overtakes 5 = .ok (.ifCond .eq 16, 3) := by decide +kernel
theorem dX4_overtakes_8 : decode cX4_overtakes 8 = .ok (.aload_n 0, 1) := by decide +kernel
theorem dX4_overtakes_9 : decode cX4_overtakes 9 = .ok (.iload_n 2, 1) := by decide +kernel
theorem dX4_overtakes_10 : decode cX4_overtakes 10 = .ok (.invokevirtual 117, 3) := by decide +kernel
theorem dX4_overtakes_13 : decode cX4_overtakes 13 = .ok (.ifCond .eq 8, 3) := by decide +kernel
theorem dX4_overtakes_16 : decode cX4_overtakes 16 = .ok (.iload_n 1, 1) := by decide +kernel
theorem dX4_overtakes_17 : decode cX4_overtakes 17 = .ok (.iload_n 2, 1) := by decide +kernel
theorem dX4_overtakes_18 : decode cX4_overtakes 18 = .ok (.if_icmp .ne 9, 3) := by decide +kernel
theorem dX4_overtakes_21 : decode cX4_overtakes 21 = .ok (.aload_n 0, 1) := by decide +kernel
theorem dX4_overtakes_22 : decode cX4_overtakes 22 = .ok (.iconst 0, 1) := by decide +kernel
theorem dX4_overtakes_23 : decode cX4_overtakes 23 = .ok (.invokevirtual 82, 3) := by decide +kernel
theorem dX4_overtakes_26 : decode cX4_overtakes 26 = .ok (.ireturn, 1) := by decide +kernel
theorem dX4_overtakes_27 : decode cX4_overtakes 27 = .ok (.aload_n 0, 1) := by decide +kernel
theorem dX4_overtakes_28 : decode cX4_overtakes 28 = .ok (.invokevirtual 168, 3) := by decide +kernel
theorem dX4_overtakes_31 : decode cX4_overtakes 31 = .ok (.iconst 0, 1) := by decide +kernel
theorem dX4_overtakes_32 : decode cX4_overtakes 32 = .ok (.istore_n 3, 1) := by decide +kernel
theorem dX4_overtakes_33 : decode cX4_overtakes 33 = .ok (.iload_n 3, 1) := by decide +kernel
theorem dX4_overtakes_34 : decode cX4_overtakes 34 = .ok (.bipush 100, 2) := by decide +kernel
theorem dX4_overtakes_36 : decode cX4_overtakes 36 = .ok (.if_icmp .gt 26, 3) := by decide +kernel
theorem dX4_overtakes_39 : decode cX4_overtakes 39 = .ok (.aload_n 0, 1) := by decide +kernel
theorem dX4_overtakes_40 : decode cX4_overtakes 40 = .ok (.iload_n 1, 1) := by decide +kernel
theorem dX4_overtakes_41 : decode cX4_overtakes 41 = .ok (.invokevirtual 187, 3) := by decide +kernel
theorem dX4_overtakes_44 : decode cX4_overtakes 44 = .ok (.aload_n 0, 1) := by decide +kernel
theorem dX4_overtakes_45 : decode cX4_overtakes 45 = .ok (.iload_n 2, 1) := by decide +kernel
theorem dX4_overtakes_46 : decode cX4_overtakes 46 = .ok (.invokevirtual 187, 3) := by decide +kernel
theorem dX4_overtakes_49 : decode cX4_overtakes 49 = .ok (.if_icmp .lt 13, 3) := by decide +kernel
theorem dX4_overtakes_52 : decode cX4_overtakes 52 = .ok (.aload_n 0, 1) := by decide +kernel
theorem dX4_overtakes_53 : decode cX4_overtakes 53 = .ok (.invokevirtual 146, 3) := by decide +kernel
theorem dX4_overtakes_56 : decode cX4_overtakes 56 = .ok (.iinc 3 1, 3) := by decide +kernel
theorem dX4_overtakes_59 : decode cX4_overtakes 59 = .ok (.goto (-26), 3) := by decide +kernel
theorem dX4_overtakes_62 : decode cX4_overtakes 62 = .ok (.aload_n 0, 1) := by decide +kernel
theorem dX4_overtakes_63 : decode cX4_overtakes 63 = .ok (.invokevirtual 171, 3) := by decide +kernel
theorem dX4_overtakes_66 : decode cX4_overtakes 66 = .ok (.iload_n 3, 1) := by decide +kernel
theorem dX4_overtakes_67 : decode cX4_overtakes 67 = .ok (.bipush 100, 2) := by decide +kernel
theorem dX4_overtakes_69 : decode cX4_overtakes 69 = .ok (.if_icmp .gt 7, 3) := by decide +kernel
theorem dX4_overtakes_72 : decode cX4_overtakes 72 = .ok (.iload_n 3, 1) := by decide +kernel
theorem dX4_overtakes_73 : decode cX4_overtakes 73 = .ok (.goto 8, 3) := by decide +kernel
theorem dX4_overtakes_76 : decode cX4_overtakes 76 = .ok (.aload_n 0, 1) := by decide +kernel
theorem dX4_overtakes_77 : decode cX4_overtakes 77 = .ok (.iconst 3, 1) := by decide +kernel
theorem dX4_overtakes_78 : decode cX4_overtakes 78 = .ok (.invokevirtual 82, 3) := by decide +kernel
theorem dX4_overtakes_81 : decode cX4_overtakes 81 = .ok (.ireturn, 1) := by decide +kernel
theorem dX4_kindFor_0 : decode cX4_kindFor 0 = .ok (.aload_n 0, 1) := by decide +kernel
theorem dX4_kindFor_1 : decode cX4_kindFor 1 = .ok (.iload_n 1, 1) := by decide +kernel
theorem dX4_kindFor_2 : decode cX4_kindFor 2 = .ok (.invokevirtual 117, 3) := by decide +kernel
theorem dX4_kindFor_5 : decode cX4_kindFor 5 = .ok (.ifCond .ne 9, 3) := by decide +kernel
theorem dX4_kindFor_8 : decode cX4_kindFor 8 = .ok (.aload_n 0, 1) := by decide +kernel
theorem dX4_kindFor_9 : decode cX4_kindFor 9 = .ok (.iconst 0, 1) := by decide +kernel
theorem dX4_kindFor_10 : decode cX4_kindFor 10 = .ok (.invokevirtual 82, 3) := by decide +kernel
theorem dX4_kindFor_13 : decode cX4_kindFor 13 = .ok (.ireturn, 1) := by decide +kernel
theorem dX4_kindFor_14 : decode cX4_kindFor 14 = .ok (.aload_n 0, 1) := by decide +kernel
theorem dX4_kindFor_15 : decode cX4_kindFor 15 = .ok (.iload_n 1, 1) := by decide +kernel
theorem dX4_kindFor_16 : decode cX4_kindFor 16 = .ok (.iconst 0, 1) := by decide +kernel
theorem dX4_kindFor_17 : decode cX4_kindFor 17 = .ok (.invokevirtual 69, 3) := by decide +kernel
theorem dX4_kindFor_20 : decode cX4_kindFor 20 = .ok (.istore_n 2, 1) := by decide +kernel
theorem dX4_kindFor_21 : decode cX4_kindFor 21 = .ok (.iconst (-1), 1) := by decide +kernel
theorem dX4_kindFor_22 : decode cX4_kindFor 22 = .ok (.istore_n 3, 1) := by decide +kernel
theorem dX4_kindFor_23 : decode cX4_kindFor 23 = .ok (.bipush 101, 2) := by decide +kernel
theorem dX4_kindFor_25 : decode cX4_kindFor 25 = .ok (.istore 4, 2) := by decide +kernel
theorem dX4_kindFor_27 : decode cX4_kindFor 27 = .ok (.iconst 0, 1) := by decide +kernel
theorem dX4_kindFor_28 : decode cX4_kindFor 28 = .ok (.istore 5, 2) := by decide +kernel
theorem dX4_kindFor_30 : decode cX4_kindFor 30 = .ok (.iload 5, 2) := by decide +kernel
theorem dX4_kindFor_32 : decode cX4_kindFor 32 = .ok (.bipush 6, 2) := by decide +kernel
theorem dX4_kindFor_34 : decode cX4_kindFor 34 = .ok (.if_icmp .gt 47, 3) := by decide +kernel
theorem dX4_kindFor_37 : decode cX4_kindFor 37 = .ok (.aload_n 0, 1) := by decide +kernel
theorem dX4_kindFor_38 : decode cX4_kindFor 38 = .ok (.iload_n 1, 1) := by decide +kernel
theorem dX4_kindFor_39 : decode cX4_kindFor 39 = .ok (.iconst 0, 1) := by decide +kernel
theorem dX4_kindFor_40 : decode cX4_kindFor 40 = .ok (.iload 5, 2) := by decide +kernel
theorem dX4_kindFor_42 : decode cX4_kindFor 42 = .ok (.invokevirtual 107, 3) := by decide +kernel
theorem dX4_kindFor_45 : decode cX4_kindFor 45 = .ok (.aload_n 0, 1) := by decide +kernel
theorem dX4_kindFor_46 : decode cX4_kindFor 46 = .ok (.iload_n 1, 1) := by decide +kernel
theorem dX4_kindFor_47 : decode cX4_kindFor 47 = .ok (.invokevirtual 184, 3) := by decide +kernel
theorem dX4_kindFor_50 : decode cX4_kindFor 50 = .ok (.istore 6, 2) := by decide +kernel
theorem dX4_kindFor_52 : decode cX4_kindFor 52 = .ok (.iload 6, 2) := by decide +kernel
theorem dX4_kindFor_54 : decode cX4_kindFor 54 = .ok (.iload 4, 2) := by decide +kernel
theorem dX4_kindFor_56 : decode cX4_kindFor 56 = .ok (.if_icmp .ge 8, 3) := by decide +kernel
theorem dX4_kindFor_59 : decode cX4_kindFor 59 = .ok (.iload 5, 2) := by decide +kernel
theorem dX4_kindFor_61 : decode cX4_kindFor 61 = .ok (.goto 4, 3) := by decide +kernel
theorem dX4_kindFor_64 : decode cX4_kindFor 64 = .ok (.iload_n 3, 1) := by decide +kernel
theorem dX4_kindFor_65 : decode cX4_kindFor 65 = .ok (.istore_n 3, 1) := by decide +kernel
theorem dX4_kindFor_66 : decode cX4_kindFor 66 = .ok (.iload 4, 2) := by decide +kernel
theorem dX4_kindFor_68 : decode cX4_kindFor 68 = .ok (.iload 6, 2) := by decide +kernel
theorem dX4_kindFor_70 : decode cX4_kindFor 70 = .ok (.invokestatic 44, 3) := by decide +kernel
theorem dX4_kindFor_73 : decode cX4_kindFor 73 = .ok (.istore 4, 2) := by decide +kernel
theorem dX4_kindFor_75 : decode cX4_kindFor 75 = .ok (.iinc 5 1, 3) := by decide +kernel
theorem dX4_kindFor_78 : decode cX4_kindFor 78 = .ok (.goto (-48), 3) := by decide +kernel
theorem dX4_kindFor_81 : decode cX4_kindFor 81 = .ok (.aload_n 0, 1) := by decide +kernel
theorem dX4_kindFor_82 : decode cX4_kindFor 82 = .ok (.iload_n 1, 1) := by decide +kernel
theorem dX4_kindFor_83 : decode cX4_kindFor 83 = .ok (.iconst 0, 1) := by decide +kernel
theorem dX4_kindFor_84 : decode cX4_kindFor 84 = .ok (.iload_n 2, 1) := by decide +kernel
theorem dX4_kindFor_85 : decode cX4_kindFor 85 = .ok (.invokevirtual 107, 3) := by decide +kernel
theorem dX4_kindFor_88 : decode cX4_kindFor 88 = .ok (.iload_n 3, 1) := by decide +kernel
theorem dX4_kindFor_89 : decode cX4_kindFor 89 = .ok (.ifCond .ge 11, 3) := by decide +kernel
theorem dX4_kindFor_92 : decode cX4_kindFor 92 = .ok (.aload_n 0, 1) := by decide +kernel
theorem dX4_kindFor_93 : decode cX4_kindFor 93 = .ok (.iconst 3, 1) := by decide +kernel
theorem dX4_kindFor_94 : decode cX4_kindFor 94 = .ok (.invokevirtual 82, 3) := by decide +kernel
theorem dX4_kindFor_97 : decode cX4_kindFor 97 = .ok (.goto 4, 3) := by decide +kernel
theorem dX4_kindFor_100 : decode cX4_kindFor 100 = .ok (.iload_n 3, 1) := by decide +kernel
theorem dX4_kindFor_101 : decode cX4_kindFor 101 = .ok (.ireturn, 1) := by decide +kernel
theorem dX4_goesFrom_0 : decode cX4_goesFrom 0 = .ok (.aload_n 0, 1) := by decide +kernel
theorem dX4_goesFrom_1 : decode cX4_goesFrom 1 = .ok (.invokevirtual 168, 3) := by decide +kernel
theorem dX4_goesFrom_4 : decode cX4_goesFrom 4 = .ok (.aload_n 0, 1) := by decide +kernel
theorem dX4_goesFrom_5 : decode cX4_goesFrom 5 = .ok (.iload_n 1, 1) := by decide +kernel
theorem dX4_goesFrom_6 : decode cX4_goesFrom 6 = .ok (.iconst 1, 1) := by decide +kernel
theorem dX4_goesFrom_7 : decode cX4_goesFrom 7 = .ok (.iload_n 2, 1) := by decide +kernel
theorem dX4_goesFrom_8 : decode cX4_goesFrom 8 = .ok (.invokevirtual 107, 3) := by decide +kernel
theorem dX4_goesFrom_11 : decode cX4_goesFrom 11 = .ok (.aload_n 0, 1) := by decide +kernel
theorem dX4_goesFrom_12 : decode cX4_goesFrom 12 = .ok (.iconst 1, 1) := by decide +kernel
theorem dX4_goesFrom_13 : decode cX4_goesFrom 13 = .ok (.iload_n 2, 1) := by decide +kernel
theorem dX4_goesFrom_14 : decode cX4_goesFrom 14 = .ok (.ishl, 1) := by decide +kernel
theorem dX4_goesFrom_15 : decode cX4_goesFrom 15 = .ok (.putfield 135, 3) := by decide +kernel
theorem dX4_goesFrom_18 : decode cX4_goesFrom 18 = .ok (.aload_n 0, 1) := by decide +kernel
theorem dX4_goesFrom_19 : decode cX4_goesFrom 19 = .ok (.iload_n 1, 1) := by decide +kernel
theorem dX4_goesFrom_20 : decode cX4_goesFrom 20 = .ok (.putfield 139, 3) := by decide +kernel
theorem dX4_goesFrom_23 : decode cX4_goesFrom 23 = .ok (.aload_n 0, 1) := by decide +kernel
theorem dX4_goesFrom_24 : decode cX4_goesFrom 24 = .ok (.bipush 100, 2) := by decide +kernel
theorem dX4_goesFrom_26 : decode cX4_goesFrom 26 = .ok (.invokevirtual 152, 3) := by decide +kernel
theorem dX4_goesFrom_29 : decode cX4_goesFrom 29 = .ok (.aload_n 0, 1) := by decide +kernel
theorem dX4_goesFrom_30 : decode cX4_goesFrom 30 = .ok (.invokevirtual 171, 3) := by decide +kernel
theorem dX4_goesFrom_33 : decode cX4_goesFrom 33 = .ok (.aload_n 0, 1) := by decide +kernel
theorem dX4_goesFrom_34 : decode cX4_goesFrom 34 = .ok (.getfield 135, 3) := by decide +kernel
theorem dX4_goesFrom_37 : decode cX4_goesFrom 37 = .ok (.ireturn, 1) := by decide +kernel
theorem dX4_goesBy_0 : decode cX4_goesBy 0 = .ok (.aload_n 0, 1) := by decide +kernel
theorem dX4_goesBy_1 : decode cX4_goesBy 1 = .ok (.iload_n 1, 1) := by decide +kernel
theorem dX4_goesBy_2 : decode cX4_goesBy 2 = .ok (.invokevirtual 117, 3) := by decide +kernel
theorem dX4_goesBy_5 : decode cX4_goesBy 5 = .ok (.ifCond .eq 17, 3) := by decide +kernel
theorem dX4_goesBy_8 : decode cX4_goesBy 8 = .ok (.aload_n 0, 1) := by decide +kernel
theorem dX4_goesBy_9 : decode cX4_goesBy 9 = .ok (.iload_n 1, 1) := by decide +kernel
theorem dX4_goesBy_10 : decode cX4_goesBy 10 = .ok (.aload_n 0, 1) := by decide +kernel
theorem dX4_goesBy_11 : decode cX4_goesBy 11 = .ok (.iload_n 1, 1) := by decide +kernel
theorem dX4_goesBy_12 : decode cX4_goesBy 12 = .ok (.iconst 1, 1) := by decide +kernel
theorem dX4_goesBy_13 : decode cX4_goesBy 13 = .ok (.invokevirtual 69, 3) := by decide +kernel
theorem dX4_goesBy_16 : decode cX4_goesBy 16 = .ok (.invokevirtual 190, 3) := by decide +kernel
theorem dX4_goesBy_19 : decode cX4_goesBy 19 = .ok (.goto 8, 3) := by decide +kernel
theorem dX4_goesBy_22 : decode cX4_goesBy 22 = .ok (.aload_n 0, 1) := by decide +kernel
theorem dX4_goesBy_23 : decode cX4_goesBy 23 = .ok (.iconst 0, 1) := by decide +kernel
theorem dX4_goesBy_24 : decode cX4_goesBy 24 = .ok (.invokevirtual 82, 3) := by decide +kernel
theorem dX4_goesBy_27 : decode cX4_goesBy 27 = .ok (.ireturn, 1) := by decide +kernel
theorem dX4_findPlaces_0 : decode cX4_findPlaces 0 = .ok (.aload_n 0, 1) := by decide +kernel
theorem dX4_findPlaces_1 : decode cX4_findPlaces 1 = .ok (.iconst (-1), 1) := by decide +kernel
theorem dX4_findPlaces_2 : decode cX4_findPlaces 2 = .ok (.putfield 193, 3) := by decide +kernel
theorem dX4_findPlaces_5 : decode cX4_findPlaces 5 = .ok (.aload_n 0, 1) := by decide +kernel
theorem dX4_findPlaces_6 : decode cX4_findPlaces 6 = .ok (.iconst 0, 1) := by decide +kernel
theorem dX4_findPlaces_7 : decode cX4_findPlaces 7 = .ok (.putfield 196, 3) := by decide +kernel
theorem dX4_findPlaces_10 : decode cX4_findPlaces 10 = .ok (.iconst 0, 1) := by decide +kernel
theorem dX4_findPlaces_11 : decode cX4_findPlaces 11 = .ok (.istore 4, 2) := by decide +kernel
theorem dX4_findPlaces_13 : decode cX4_findPlaces 13 = .ok (.iload 4, 2) := by decide +kernel
theorem dX4_findPlaces_15 : decode cX4_findPlaces 15 = .ok (.bipush 16, 2) := by decide +kernel
theorem dX4_findPlaces_17 : decode cX4_findPlaces 17 = .ok (.if_icmp .ge 82, 3) := by decide +kernel
theorem dX4_findPlaces_20 : decode cX4_findPlaces 20 = .ok (.aload_n 0, 1) := by decide +kernel
theorem dX4_findPlaces_21 : decode cX4_findPlaces 21 = .ok (.iload_n 1, 1) := by decide +kernel
theorem dX4_findPlaces_22 : decode cX4_findPlaces 22 = .ok (.iload 4, 2) := by decide +kernel
theorem dX4_findPlaces_24 : decode cX4_findPlaces 24 = .ok (.invokevirtual 190, 3) := by decide +kernel
theorem dX4_findPlaces_27 : decode cX4_findPlaces 27 = .ok (.istore 5, 2) := by decide +kernel
theorem dX4_findPlaces_29 : decode cX4_findPlaces 29 = .ok (.iload 5, 2) := by decide +kernel
theorem dX4_findPlaces_31 : decode cX4_findPlaces 31 = .ok (.iload_n 2, 1) := by decide +kernel
theorem dX4_findPlaces_32 : decode cX4_findPlaces 32 = .ok (.iand, 1) := by decide +kernel
theorem dX4_findPlaces_33 : decode cX4_findPlaces 33 = .ok (.iload_n 2, 1) := by decide +kernel
theorem dX4_findPlaces_34 : decode cX4_findPlaces 34 = .ok (.if_icmp .ne 59, 3) := by decide +kernel
theorem dX4_findPlaces_37 : decode cX4_findPlaces 37 = .ok (.iload 5, 2) := by decide +kernel
theorem dX4_findPlaces_39 : decode cX4_findPlaces 39 = .ok (.iload_n 3, 1) := by decide +kernel
theorem dX4_findPlaces_40 : decode cX4_findPlaces 40 = .ok (.iand, 1) := by decide +kernel
theorem dX4_findPlaces_41 : decode cX4_findPlaces 41 = .ok (.ifCond .ne 52, 3) := by decide +kernel
theorem dX4_findPlaces_44 : decode cX4_findPlaces 44 = .ok (.aload_n 0, 1) := by decide +kernel
theorem dX4_findPlaces_45 : decode cX4_findPlaces 45 = .ok (.dup, 1) := by decide +kernel
theorem dX4_findPlaces_46 : decode cX4_findPlaces 46 = .ok (.getfield 196, 3) := by decide +kernel
theorem dX4_findPlaces_49 : decode cX4_findPlaces 49 = .ok (.iconst 1, 1) := by decide +kernel
theorem dX4_findPlaces_50 : decode cX4_findPlaces 50 = .ok (.iadd, 1) := by decide +kernel
theorem dX4_findPlaces_51 : decode cX4_findPlaces 51 = .ok (.putfield 196, 3) := by decide +kernel
theorem dX4_findPlaces_54 : decode cX4_findPlaces 54 = .ok (.aload_n 0, 1) := by decide +kernel
theorem dX4_findPlaces_55 : decode cX4_findPlaces 55 = .ok (.aload_n 0, 1) := by decide +kernel
theorem dX4_findPlaces_56 : decode cX4_findPlaces 56 = .ok (.getfield 193, 3) := by decide +kernel
theorem dX4_findPlaces_59 : decode cX4_findPlaces 59 = .ok (.ifCond .lt 22, 3) := by decide +kernel
theorem dX4_findPlaces_62 : decode cX4_findPlaces 62 = .ok (.aload_n 0, 1) := by decide +kernel
theorem dX4_findPlaces_63 : decode cX4_findPlaces 63 = .ok (.iload 4, 2) := by decide +kernel
theorem dX4_findPlaces_65 : decode cX4_findPlaces 65 = .ok (.iconst 0, 1) := by decide +kernel
theorem dX4_findPlaces_66 : decode cX4_findPlaces 66 = .ok (.invokevirtual 63, 3) := by decide +kernel
theorem dX4_findPlaces_69 : decode cX4_findPlaces 69 = .ok (.aload_n 0, 1) := by decide +kernel
theorem dX4_findPlaces_70 : decode cX4_findPlaces 70 = .ok (.aload_n 0, 1) := by decide +kernel
theorem dX4_findPlaces_71 : decode cX4_findPlaces 71 = .ok (.getfield 193, 3) := by decide +kernel
theorem dX4_findPlaces_74 : decode cX4_findPlaces 74 = .ok (.iconst 0, 1) := by decide +kernel
theorem dX4_findPlaces_75 : decode cX4_findPlaces 75 = .ok (.invokevirtual 63, 3) := by decide +kernel
theorem dX4_findPlaces_78 : decode cX4_findPlaces 78 = .ok (.if_icmp .le 8, 3) := by decide +kernel
theorem dX4_findPlaces_81 : decode cX4_findPlaces 81 = .ok (.iload 4, 2) := by decide +kernel
theorem dX4_findPlaces_83 : decode cX4_findPlaces 83 = .ok (.goto 7, 3) := by decide +kernel
theorem dX4_findPlaces_86 : decode cX4_findPlaces 86 = .ok (.aload_n 0, 1) := by decide +kernel
theorem dX4_findPlaces_87 : decode cX4_findPlaces 87 = .ok (.getfield 193, 3) := by decide +kernel
theorem dX4_findPlaces_90 : decode cX4_findPlaces 90 = .ok (.putfield 193, 3) := by decide +kernel
theorem dX4_findPlaces_93 : decode cX4_findPlaces 93 = .ok (.iinc 4 1, 3) := by decide +kernel
theorem dX4_findPlaces_96 : decode cX4_findPlaces 96 = .ok (.goto (-83), 3) := by decide +kernel
theorem dX4_findPlaces_99 : decode cX4_findPlaces 99 = .ok (.return_, 1) := by decide +kernel
theorem dX4_arePlaces_0 : decode cX4_arePlaces 0 = .ok (.aload_n 0, 1) := by decide +kernel
theorem dX4_arePlaces_1 : decode cX4_arePlaces 1 = .ok (.iload_n 1, 1) := by decide +kernel
theorem dX4_arePlaces_2 : decode cX4_arePlaces 2 = .ok (.invokevirtual 117, 3) := by decide +kernel
theorem dX4_arePlaces_5 : decode cX4_arePlaces 5 = .ok (.ifCond .eq 21, 3) := by decide +kernel
theorem dX4_arePlaces_8 : decode cX4_arePlaces 8 = .ok (.iload_n 2, 1) := by decide +kernel
theorem dX4_arePlaces_9 : decode cX4_arePlaces 9 = .ok (.invokestatic 132, 3) := by decide +kernel
theorem dX4_arePlaces_12 : decode cX4_arePlaces 12 = .ok (.ifCond .eq 14, 3) := by decide +kernel
theorem dX4_arePlaces_15 : decode cX4_arePlaces 15 = .ok (.iload_n 3, 1) := by decide +kernel
theorem dX4_arePlaces_16 : decode cX4_arePlaces 16 = .ok (.invokestatic 132, 3) := by decide +kernel
theorem dX4_arePlaces_19 : decode cX4_arePlaces 19 = .ok (.ifCond .eq 7, 3) := by decide +kernel
theorem dX4_arePlaces_22 : decode cX4_arePlaces 22 = .ok (.iconst 1, 1) := by decide +kernel
theorem dX4_arePlaces_23 : decode cX4_arePlaces 23 = .ok (.goto 4, 3) := by decide +kernel
theorem dX4_arePlaces_26 : decode cX4_arePlaces 26 = .ok (.iconst 0, 1) := by decide +kernel
theorem dX4_arePlaces_27 : decode cX4_arePlaces 27 = .ok (.ireturn, 1) := by decide +kernel
theorem dX4_where_0 : decode cX4_where 0 = .ok (.aload_n 0, 1) := by decide +kernel
theorem dX4_where_1 : decode cX4_where 1 = .ok (.iload_n 1, 1) := by decide +kernel
theorem dX4_where_2 : decode cX4_where 2 = .ok (.iload_n 2, 1) := by decide +kernel
theorem dX4_where_3 : decode cX4_where 3 = .ok (.iload_n 3, 1) := by decide +kernel
theorem dX4_where_4 : decode cX4_where 4 = .ok (.invokevirtual 199, 3) := by decide +kernel
theorem dX4_where_7 : decode cX4_where 7 = .ok (.ifCond .ne 9, 3) := by decide +kernel
theorem dX4_where_10 : decode cX4_where 10 = .ok (.aload_n 0, 1) := by decide +kernel
theorem dX4_where_11 : decode cX4_where 11 = .ok (.iconst 0, 1) := by decide +kernel
theorem dX4_where_12 : decode cX4_where 12 = .ok (.invokevirtual 82, 3) := by decide +kernel
theorem dX4_where_15 : decode cX4_where 15 = .ok (.ireturn, 1) := by decide +kernel
theorem dX4_where_16 : decode cX4_where 16 = .ok (.aload_n 0, 1) := by decide +kernel
theorem dX4_where_17 : decode cX4_where 17 = .ok (.iload_n 1, 1) := by decide +kernel
theorem dX4_where_18 : decode cX4_where 18 = .ok (.iload_n 2, 1) := by decide +kernel
theorem dX4_where_19 : decode cX4_where 19 = .ok (.iload_n 3, 1) := by decide +kernel
theorem dX4_where_20 : decode cX4_where 20 = .ok (.invokevirtual 203, 3) := by decide +kernel
theorem dX4_where_23 : decode cX4_where 23 = .ok (.aload_n 0, 1) := by decide +kernel
theorem dX4_where_24 : decode cX4_where 24 = .ok (.getfield 193, 3) := by decide +kernel
theorem dX4_where_27 : decode cX4_where 27 = .ok (.ifCond .ge 11, 3) := by decide +kernel
theorem dX4_where_30 : decode cX4_where 30 = .ok (.aload_n 0, 1) := by decide +kernel
theorem dX4_where_31 : decode cX4_where 31 = .ok (.iconst 3, 1) := by decide +kernel
theorem dX4_where_32 : decode cX4_where 32 = .ok (.invokevirtual 82, 3) := by decide +kernel
theorem dX4_where_35 : decode cX4_where 35 = .ok (.goto 7, 3) := by decide +kernel
theorem dX4_where_38 : decode cX4_where 38 = .ok (.aload_n 0, 1) := by decide +kernel
theorem dX4_where_39 : decode cX4_where 39 = .ok (.getfield 193, 3) := by decide +kernel
theorem dX4_where_42 : decode cX4_where 42 = .ok (.ireturn, 1) := by decide +kernel
theorem dX4_places_0 : decode cX4_places 0 = .ok (.aload_n 0, 1) := by decide +kernel
theorem dX4_places_1 : decode cX4_places 1 = .ok (.iload_n 1, 1) := by decide +kernel
theorem dX4_places_2 : decode cX4_places 2 = .ok (.iload_n 2, 1) := by decide +kernel
theorem dX4_places_3 : decode cX4_places 3 = .ok (.iload_n 3, 1) := by decide +kernel
theorem dX4_places_4 : decode cX4_places 4 = .ok (.invokevirtual 199, 3) := by decide +kernel
theorem dX4_places_7 : decode cX4_places 7 = .ok (.ifCond .ne 9, 3) := by decide +kernel
theorem dX4_places_10 : decode cX4_places 10 = .ok (.aload_n 0, 1) := by decide +kernel
theorem dX4_places_11 : decode cX4_places 11 = .ok (.iconst 0, 1) := by decide +kernel
theorem dX4_places_12 : decode cX4_places 12 = .ok (.invokevirtual 82, 3) := by decide +kernel
theorem dX4_places_15 : decode cX4_places 15 = .ok (.ireturn, 1) := by decide +kernel
theorem dX4_places_16 : decode cX4_places 16 = .ok (.aload_n 0, 1) := by decide +kernel
theorem dX4_places_17 : decode cX4_places 17 = .ok (.iload_n 1, 1) := by decide +kernel
theorem dX4_places_18 : decode cX4_places 18 = .ok (.iload_n 2, 1) := by decide +kernel
theorem dX4_places_19 : decode cX4_places 19 = .ok (.iload_n 3, 1) := by decide +kernel
theorem dX4_places_20 : decode cX4_places 20 = .ok (.invokevirtual 203, 3) := by decide +kernel
theorem dX4_places_23 : decode cX4_places 23 = .ok (.aload_n 0, 1) := by decide +kernel
theorem dX4_places_24 : decode cX4_places 24 = .ok (.getfield 196, 3) := by decide +kernel
theorem dX4_places_27 : decode cX4_places 27 = .ok (.ireturn, 1) := by decide +kernel
theorem dX4_isShort_0 : decode cX4_isShort 0 = .ok (.iload_n 0, 1) := by decide +kernel
theorem dX4_isShort_1 : decode cX4_isShort 1 = .ok (.i2l, 1) := by decide +kernel
theorem dX4_isShort_2 : decode cX4_isShort 2 = .ok (.lconst 0, 1) := by decide +kernel
theorem dX4_isShort_3 : decode cX4_isShort 3 = .ok (.ldc2_w 206, 3) := by decide +kernel
theorem dX4_isShort_6 : decode cX4_isShort 6 = .ok (.invokestatic 57, 3) := by decide +kernel
theorem dX4_isShort_9 : decode cX4_isShort 9 = .ok (.ireturn, 1) := by decide +kernel
theorem dX4_weightFor_0 : decode cX4_weightFor 0 = .ok (.aload_n 0, 1) := by decide +kernel
theorem dX4_weightFor_1 : decode cX4_weightFor 1 = .ok (.iload_n 1, 1) := by decide +kernel
theorem dX4_weightFor_2 : decode cX4_weightFor 2 = .ok (.invokevirtual 117, 3) := by decide +kernel
theorem dX4_weightFor_5 : decode cX4_weightFor 5 = .ok (.ifCond .eq 17, 3) := by decide +kernel
theorem dX4_weightFor_8 : decode cX4_weightFor 8 = .ok (.iload_n 2, 1) := by decide +kernel
theorem dX4_weightFor_9 : decode cX4_weightFor 9 = .ok (.invokestatic 76, 3) := by decide +kernel
theorem dX4_weightFor_12 : decode cX4_weightFor 12 = .ok (.ifCond .eq 10, 3) := by decide +kernel
theorem dX4_weightFor_15 : decode cX4_weightFor 15 = .ok (.iload_n 3, 1) := by decide +kernel
theorem dX4_weightFor_16 : decode cX4_weightFor 16 = .ok (.invokestatic 208, 3) := by decide +kernel
theorem dX4_weightFor_19 : decode cX4_weightFor 19 = .ok (.ifCond .ne 9, 3) := by decide +kernel
theorem dX4_weightFor_22 : decode cX4_weightFor 22 = .ok (.aload_n 0, 1) := by decide +kernel
theorem dX4_weightFor_23 : decode cX4_weightFor 23 = .ok (.iconst 0, 1) := by decide +kernel
theorem dX4_weightFor_24 : decode cX4_weightFor 24 = .ok (.invokevirtual 82, 3) := by decide +kernel
theorem dX4_weightFor_27 : decode cX4_weightFor 27 = .ok (.ireturn, 1) := by decide +kernel
theorem dX4_weightFor_28 : decode cX4_weightFor 28 = .ok (.aload_n 0, 1) := by decide +kernel
theorem dX4_weightFor_29 : decode cX4_weightFor 29 = .ok (.iload_n 1, 1) := by decide +kernel
theorem dX4_weightFor_30 : decode cX4_weightFor 30 = .ok (.iconst 2, 1) := by decide +kernel
theorem dX4_weightFor_31 : decode cX4_weightFor 31 = .ok (.invokevirtual 69, 3) := by decide +kernel
theorem dX4_weightFor_34 : decode cX4_weightFor 34 = .ok (.istore 4, 2) := by decide +kernel
theorem dX4_weightFor_36 : decode cX4_weightFor 36 = .ok (.iconst 0, 1) := by decide +kernel
theorem dX4_weightFor_37 : decode cX4_weightFor 37 = .ok (.istore 5, 2) := by decide +kernel
theorem dX4_weightFor_39 : decode cX4_weightFor 39 = .ok (.iconst 0, 1) := by decide +kernel
theorem dX4_weightFor_40 : decode cX4_weightFor 40 = .ok (.istore 6, 2) := by decide +kernel
theorem dX4_weightFor_42 : decode cX4_weightFor 42 = .ok (.iload 5, 2) := by decide +kernel
theorem dX4_weightFor_44 : decode cX4_weightFor 44 = .ok (.sipush 999, 3) := by decide +kernel
theorem dX4_weightFor_47 : decode cX4_weightFor 47 = .ok (.if_icmp .ge 44, 3) := by decide +kernel
theorem dX4_weightFor_50 : decode cX4_weightFor 50 = .ok (.iload 6, 2) := by decide +kernel
theorem dX4_weightFor_52 : decode cX4_weightFor 52 = .ok (.ifCond .ne 39, 3) := by decide +kernel
theorem dX4_weightFor_55 : decode cX4_weightFor 55 = .ok (.iinc 5 1, 3) := by decide +kernel
theorem dX4_weightFor_58 : decode cX4_weightFor 58 = .ok (.aload_n 0, 1) := by decide +kernel
theorem dX4_weightFor_59 : decode cX4_weightFor 59 = .ok (.iload_n 1, 1) := by decide +kernel
theorem dX4_weightFor_60 : decode cX4_weightFor 60 = .ok (.iconst 2, 1) := by decide +kernel
theorem dX4_weightFor_61 : decode cX4_weightFor 61 = .ok (.iload 5, 2) := by decide +kernel
theorem dX4_weightFor_63 : decode cX4_weightFor 63 = .ok (.invokevirtual 107, 3) := by decide +kernel
theorem dX4_weightFor_66 : decode cX4_weightFor 66 = .ok (.aload_n 0, 1) := by decide +kernel
theorem dX4_weightFor_67 : decode cX4_weightFor 67 = .ok (.iload_n 2, 1) := by decide +kernel
theorem dX4_weightFor_68 : decode cX4_weightFor 68 = .ok (.iload_n 3, 1) := by decide +kernel
theorem dX4_weightFor_69 : decode cX4_weightFor 69 = .ok (.invokevirtual 174, 3) := by decide +kernel
theorem dX4_weightFor_72 : decode cX4_weightFor 72 = .ok (.aload_n 0, 1) := by decide +kernel
theorem dX4_weightFor_73 : decode cX4_weightFor 73 = .ok (.iload_n 2, 1) := by decide +kernel
theorem dX4_weightFor_74 : decode cX4_weightFor 74 = .ok (.iconst 4, 1) := by decide +kernel
theorem dX4_weightFor_75 : decode cX4_weightFor 75 = .ok (.invokevirtual 63, 3) := by decide +kernel
theorem dX4_weightFor_78 : decode cX4_weightFor 78 = .ok (.if_icmp .lt 7, 3) := by decide +kernel
theorem dX4_weightFor_81 : decode cX4_weightFor 81 = .ok (.iconst 1, 1) := by decide +kernel
theorem dX4_weightFor_82 : decode cX4_weightFor 82 = .ok (.goto 4, 3) := by decide +kernel
theorem dX4_weightFor_85 : decode cX4_weightFor 85 = .ok (.iconst 0, 1) := by decide +kernel
theorem dX4_weightFor_86 : decode cX4_weightFor 86 = .ok (.istore 6, 2) := by decide +kernel
theorem dX4_weightFor_88 : decode cX4_weightFor 88 = .ok (.goto (-46), 3) := by decide +kernel
theorem dX4_weightFor_91 : decode cX4_weightFor 91 = .ok (.aload_n 0, 1) := by decide +kernel
theorem dX4_weightFor_92 : decode cX4_weightFor 92 = .ok (.iload_n 1, 1) := by decide +kernel
theorem dX4_weightFor_93 : decode cX4_weightFor 93 = .ok (.iconst 2, 1) := by decide +kernel
theorem dX4_weightFor_94 : decode cX4_weightFor 94 = .ok (.iload 4, 2) := by decide +kernel
theorem dX4_weightFor_96 : decode cX4_weightFor 96 = .ok (.invokevirtual 107, 3) := by decide +kernel
theorem dX4_weightFor_99 : decode cX4_weightFor 99 = .ok (.iload 6, 2) := by decide +kernel
theorem dX4_weightFor_101 : decode cX4_weightFor 101 = .ok (.ifCond .eq 8, 3) := by decide +kernel
theorem dX4_weightFor_104 : decode cX4_weightFor 104 = .ok (.iload 5, 2) := by decide +kernel
theorem dX4_weightFor_106 : decode cX4_weightFor 106 = .ok (.goto 8, 3) := by decide +kernel
theorem dX4_weightFor_109 : decode cX4_weightFor 109 = .ok (.aload_n 0, 1) := by decide +kernel
theorem dX4_weightFor_110 : decode cX4_weightFor 110 = .ok (.iconst 3, 1) := by decide +kernel
theorem dX4_weightFor_111 : decode cX4_weightFor 111 = .ok (.invokevirtual 82, 3) := by decide +kernel
theorem dX4_weightFor_114 : decode cX4_weightFor 114 = .ok (.ireturn, 1) := by decide +kernel
theorem dX4_costOf_0 : decode cX4_costOf 0 = .ok (.iconst 0, 1) := by decide +kernel
theorem dX4_costOf_1 : decode cX4_costOf 1 = .ok (.istore_n 2, 1) := by decide +kernel
theorem dX4_costOf_2 : decode cX4_costOf 2 = .ok (.iconst 0, 1) := by decide +kernel
theorem dX4_costOf_3 : decode cX4_costOf 3 = .ok (.istore_n 3, 1) := by decide +kernel
theorem dX4_costOf_4 : decode cX4_costOf 4 = .ok (.iload_n 3, 1) := by decide +kernel
theorem dX4_costOf_5 : decode cX4_costOf 5 = .ok (.bipush 8, 2) := by decide +kernel
theorem dX4_costOf_7 : decode cX4_costOf 7 = .ok (.if_icmp .ge 24, 3) := by decide +kernel
theorem dX4_costOf_10 : decode cX4_costOf 10 = .ok (.iload_n 2, 1) := by decide +kernel
theorem dX4_costOf_11 : decode cX4_costOf 11 = .ok (.iload_n 1, 1) := by decide +kernel
theorem dX4_costOf_12 : decode cX4_costOf 12 = .ok (.iload_n 3, 1) := by decide +kernel
theorem dX4_costOf_13 : decode cX4_costOf 13 = .ok (.ishr, 1) := by decide +kernel
theorem dX4_costOf_14 : decode cX4_costOf 14 = .ok (.iconst 1, 1) := by decide +kernel
theorem dX4_costOf_15 : decode cX4_costOf 15 = .ok (.iand, 1) := by decide +kernel
theorem dX4_costOf_16 : decode cX4_costOf 16 = .ok (.aload_n 0, 1) := by decide +kernel
theorem dX4_costOf_17 : decode cX4_costOf 17 = .ok (.iload_n 3, 1) := by decide +kernel
theorem dX4_costOf_18 : decode cX4_costOf 18 = .ok (.iconst 3, 1) := by decide +kernel
theorem dX4_costOf_19 : decode cX4_costOf 19 = .ok (.invokevirtual 63, 3) := by decide +kernel
theorem dX4_costOf_22 : decode cX4_costOf 22 = .ok (.imul, 1) := by decide +kernel
theorem dX4_costOf_23 : decode cX4_costOf 23 = .ok (.iadd, 1) := by decide +kernel
theorem dX4_costOf_24 : decode cX4_costOf 24 = .ok (.istore_n 2, 1) := by decide +kernel
theorem dX4_costOf_25 : decode cX4_costOf 25 = .ok (.iinc 3 1, 3) := by decide +kernel
theorem dX4_costOf_28 : decode cX4_costOf 28 = .ok (.goto (-24), 3) := by decide +kernel
theorem dX4_costOf_31 : decode cX4_costOf 31 = .ok (.iload_n 2, 1) := by decide +kernel
theorem dX4_costOf_32 : decode cX4_costOf 32 = .ok (.ireturn, 1) := by decide +kernel
theorem dX4_loudWith_0 : decode cX4_loudWith 0 = .ok (.aload_n 0, 1) := by decide +kernel
theorem dX4_loudWith_1 : decode cX4_loudWith 1 = .ok (.getfield 22, 3) := by decide +kernel
theorem dX4_loudWith_4 : decode cX4_loudWith 4 = .ok (.astore 4, 2) := by decide +kernel
theorem dX4_loudWith_6 : decode cX4_loudWith 6 = .ok (.iconst 0, 1) := by decide +kernel
theorem dX4_loudWith_7 : decode cX4_loudWith 7 = .ok (.istore 5, 2) := by decide +kernel
theorem dX4_loudWith_9 : decode cX4_loudWith 9 = .ok (.iload 5, 2) := by decide +kernel
theorem dX4_loudWith_11 : decode cX4_loudWith 11 = .ok (.bipush 8, 2) := by decide +kernel
theorem dX4_loudWith_13 : decode cX4_loudWith 13 = .ok (.if_icmp .ge 48, 3) := by decide +kernel
theorem dX4_loudWith_16 : decode cX4_loudWith 16 = .ok (.aload 4, 2) := by decide +kernel
theorem dX4_loudWith_18 : decode cX4_loudWith 18 = .ok (.iload 5, 2) := by decide +kernel
theorem dX4_loudWith_20 : decode cX4_loudWith 20 = .ok (.aload_n 0, 1) := by decide +kernel
theorem dX4_loudWith_21 : decode cX4_loudWith 21 = .ok (.iload 5, 2) := by decide +kernel
theorem dX4_loudWith_23 : decode cX4_loudWith 23 = .ok (.iconst 2, 1) := by decide +kernel
theorem dX4_loudWith_24 : decode cX4_loudWith 24 = .ok (.invokevirtual 63, 3) := by decide +kernel
theorem dX4_loudWith_27 : decode cX4_loudWith 27 = .ok (.iastore, 1) := by decide +kernel
theorem dX4_loudWith_28 : decode cX4_loudWith 28 = .ok (.aload_n 0, 1) := by decide +kernel
theorem dX4_loudWith_29 : decode cX4_loudWith 29 = .ok (.iload 5, 2) := by decide +kernel
theorem dX4_loudWith_31 : decode cX4_loudWith 31 = .ok (.iconst 2, 1) := by decide +kernel
theorem dX4_loudWith_32 : decode cX4_loudWith 32 = .ok (.iload_n 1, 1) := by decide +kernel
theorem dX4_loudWith_33 : decode cX4_loudWith 33 = .ok (.iload 5, 2) := by decide +kernel
theorem dX4_loudWith_35 : decode cX4_loudWith 35 = .ok (.ishr, 1) := by decide +kernel
theorem dX4_loudWith_36 : decode cX4_loudWith 36 = .ok (.iconst 1, 1) := by decide +kernel
theorem dX4_loudWith_37 : decode cX4_loudWith 37 = .ok (.iand, 1) := by decide +kernel
theorem dX4_loudWith_38 : decode cX4_loudWith 38 = .ok (.iconst 1, 1) := by decide +kernel
theorem dX4_loudWith_39 : decode cX4_loudWith 39 = .ok (.if_icmp .ne 8, 3) := by decide +kernel
theorem dX4_loudWith_42 : decode cX4_loudWith 42 = .ok (.bipush 9, 2) := by decide +kernel
theorem dX4_loudWith_44 : decode cX4_loudWith 44 = .ok (.goto 8, 3) := by decide +kernel
theorem dX4_loudWith_47 : decode cX4_loudWith 47 = .ok (.aload 4, 2) := by decide +kernel
theorem dX4_loudWith_49 : decode cX4_loudWith 49 = .ok (.iload 5, 2) := by decide +kernel
theorem dX4_loudWith_51 : decode cX4_loudWith 51 = .ok (.iaload, 1) := by decide +kernel
theorem dX4_loudWith_52 : decode cX4_loudWith 52 = .ok (.invokevirtual 40, 3) := by decide +kernel
theorem dX4_loudWith_55 : decode cX4_loudWith 55 = .ok (.iinc 5 1, 3) := by decide +kernel
theorem dX4_loudWith_58 : decode cX4_loudWith 58 = .ok (.goto (-49), 3) := by decide +kernel
theorem dX4_loudWith_61 : decode cX4_loudWith 61 = .ok (.aload_n 0, 1) := by decide +kernel
theorem dX4_loudWith_62 : decode cX4_loudWith 62 = .ok (.iload_n 2, 1) := by decide +kernel
theorem dX4_loudWith_63 : decode cX4_loudWith 63 = .ok (.iload_n 3, 1) := by decide +kernel
theorem dX4_loudWith_64 : decode cX4_loudWith 64 = .ok (.invokevirtual 174, 3) := by decide +kernel
theorem dX4_loudWith_67 : decode cX4_loudWith 67 = .ok (.istore 5, 2) := by decide +kernel
theorem dX4_loudWith_69 : decode cX4_loudWith 69 = .ok (.iconst 0, 1) := by decide +kernel
theorem dX4_loudWith_70 : decode cX4_loudWith 70 = .ok (.istore 6, 2) := by decide +kernel
theorem dX4_loudWith_72 : decode cX4_loudWith 72 = .ok (.iload 6, 2) := by decide +kernel
theorem dX4_loudWith_74 : decode cX4_loudWith 74 = .ok (.bipush 8, 2) := by decide +kernel
theorem dX4_loudWith_76 : decode cX4_loudWith 76 = .ok (.if_icmp .ge 21, 3) := by decide +kernel
theorem dX4_loudWith_79 : decode cX4_loudWith 79 = .ok (.aload_n 0, 1) := by decide +kernel
theorem dX4_loudWith_80 : decode cX4_loudWith 80 = .ok (.iload 6, 2) := by decide +kernel
theorem dX4_loudWith_82 : decode cX4_loudWith 82 = .ok (.iconst 2, 1) := by decide +kernel
theorem dX4_loudWith_83 : decode cX4_loudWith 83 = .ok (.aload 4, 2) := by decide +kernel
theorem dX4_loudWith_85 : decode cX4_loudWith 85 = .ok (.iload 6, 2) := by decide +kernel
theorem dX4_loudWith_87 : decode cX4_loudWith 87 = .ok (.iaload, 1) := by decide +kernel
theorem dX4_loudWith_88 : decode cX4_loudWith 88 = .ok (.invokevirtual 40, 3) := by decide +kernel
theorem dX4_loudWith_91 : decode cX4_loudWith 91 = .ok (.iinc 6 1, 3) := by decide +kernel
theorem dX4_loudWith_94 : decode cX4_loudWith 94 = .ok (.goto (-22), 3) := by decide +kernel
theorem dX4_loudWith_97 : decode cX4_loudWith 97 = .ok (.iload 5, 2) := by decide +kernel
theorem dX4_loudWith_99 : decode cX4_loudWith 99 = .ok (.ireturn, 1) := by decide +kernel
theorem dX4_findSand_0 : decode cX4_findSand 0 = .ok (.aload_n 0, 1) := by decide +kernel
theorem dX4_findSand_1 : decode cX4_findSand 1 = .ok (.iconst (-1), 1) := by decide +kernel
theorem dX4_findSand_2 : decode cX4_findSand 2 = .ok (.putfield 211, 3) := by decide +kernel
theorem dX4_findSand_5 : decode cX4_findSand 5 = .ok (.iconst 0, 1) := by decide +kernel
theorem dX4_findSand_6 : decode cX4_findSand 6 = .ok (.istore 4, 2) := by decide +kernel
theorem dX4_findSand_8 : decode cX4_findSand 8 = .ok (.iload 4, 2) := by decide +kernel
theorem dX4_findSand_10 : decode cX4_findSand 10 = .ok (.sipush 256, 3) := by decide +kernel
theorem dX4_findSand_13 : decode cX4_findSand 13 = .ok (.if_icmp .ge 57, 3) := by decide +kernel
theorem dX4_findSand_16 : decode cX4_findSand 16 = .ok (.aload_n 0, 1) := by decide +kernel
theorem dX4_findSand_17 : decode cX4_findSand 17 = .ok (.getfield 211, 3) := by decide +kernel
theorem dX4_findSand_20 : decode cX4_findSand 20 = .ok (.ifCond .lt 16, 3) := by decide +kernel
theorem dX4_findSand_23 : decode cX4_findSand 23 = .ok (.aload_n 0, 1) := by decide +kernel
theorem dX4_findSand_24 : decode cX4_findSand 24 = .ok (.iload 4, 2) := by decide +kernel
theorem dX4_findSand_26 : decode cX4_findSand 26 = .ok (.invokevirtual 214, 3) := by decide +kernel
theorem dX4_findSand_29 : decode cX4_findSand 29 = .ok (.aload_n 0, 1) := by decide +kernel
theorem dX4_findSand_30 : decode cX4_findSand 30 = .ok (.getfield 217, 3) := by decide +kernel
theorem dX4_findSand_33 : decode cX4_findSand 33 = .ok (.if_icmp .ge 31, 3) := by decide +kernel
theorem dX4_findSand_36 : decode cX4_findSand 36 = .ok (.aload_n 0, 1) := by decide +kernel
theorem dX4_findSand_37 : decode cX4_findSand 37 = .ok (.iload 4, 2) := by decide +kernel
theorem dX4_findSand_39 : decode cX4_findSand 39 = .ok (.iload_n 1, 1) := by decide +kernel
theorem dX4_findSand_40 : decode cX4_findSand 40 = .ok (.iload_n 3, 1) := by decide +kernel
theorem dX4_findSand_41 : decode cX4_findSand 41 = .ok (.invokevirtual 220, 3) := by decide +kernel
theorem dX4_findSand_44 : decode cX4_findSand 44 = .ok (.iload_n 2, 1) := by decide +kernel
theorem dX4_findSand_45 : decode cX4_findSand 45 = .ok (.if_icmp .gt 19, 3) := by decide +kernel
theorem dX4_findSand_48 : decode cX4_findSand 48 = .ok (.aload_n 0, 1) := by decide +kernel
theorem dX4_findSand_49 : decode cX4_findSand 49 = .ok (.iload 4, 2) := by decide +kernel
theorem dX4_findSand_51 : decode cX4_findSand 51 = .ok (.putfield 211, 3) := by decide +kernel
theorem dX4_findSand_54 : decode cX4_findSand 54 = .ok (.aload_n 0, 1) := by decide +kernel
theorem dX4_findSand_55 : decode cX4_findSand 55 = .ok (.aload_n 0, 1) := by decide +kernel
end
section
theorem dX4_findSand_56 : decode cX4_findSand 56 = .ok (.iload 4, 2) := by decide +kernel
theorem dX4_findSand_58 : decode cX4_findSand 58 = .ok (.invokevirtual 214, 3) := by decide +kernel
theorem dX4_findSand_61 : decode cX4_findSand 61 = .ok (.putfield 217, 3) := by decide +kernel
theorem dX4_findSand_64 : decode cX4_findSand 64 = .ok (.iinc 4 1, 3) := by decide +kernel
theorem dX4_findSand_67 : decode cX4_findSand 67 = .ok (.goto (-59), 3) := by decide +kernel
theorem dX4_findSand_70 : decode cX4_findSand 70 = .ok (.return_, 1) := by decide +kernel
theorem dX4_isQuiet_0 : decode cX4_isQuiet 0 = .ok (.iload_n 0, 1) := by decide +kernel
theorem dX4_isQuiet_1 : decode cX4_isQuiet 1 = .ok (.invokestatic 76, 3) := by decide +kernel
theorem dX4_isQuiet_4 : decode cX4_isQuiet 4 = .ok (.ifCond .eq 26, 3) := by decide +kernel
theorem dX4_isQuiet_7 : decode cX4_isQuiet 7 = .ok (.iload_n 1, 1) := by decide +kernel
theorem dX4_isQuiet_8 : decode cX4_isQuiet 8 = .ok (.i2l, 1) := by decide +kernel
theorem dX4_isQuiet_9 : decode cX4_isQuiet 9 = .ok (.lconst 0, 1) := by decide +kernel
theorem dX4_isQuiet_10 : decode cX4_isQuiet 10 = .ok (.ldc2_w 223, 3) := by decide +kernel
theorem dX4_isQuiet_13 : decode cX4_isQuiet 13 = .ok (.invokestatic 57, 3) := by decide +kernel
theorem dX4_isQuiet_16 : decode cX4_isQuiet 16 = .ok (.ifCond .eq 14, 3) := by decide +kernel
theorem dX4_isQuiet_19 : decode cX4_isQuiet 19 = .ok (.iload_n 2, 1) := by decide +kernel
theorem dX4_isQuiet_20 : decode cX4_isQuiet 20 = .ok (.invokestatic 208, 3) := by decide +kernel
theorem dX4_isQuiet_23 : decode cX4_isQuiet 23 = .ok (.ifCond .eq 7, 3) := by decide +kernel
theorem dX4_isQuiet_26 : decode cX4_isQuiet 26 = .ok (.iconst 1, 1) := by decide +kernel
theorem dX4_isQuiet_27 : decode cX4_isQuiet 27 = .ok (.goto 4, 3) := by decide +kernel
theorem dX4_isQuiet_30 : decode cX4_isQuiet 30 = .ok (.iconst 0, 1) := by decide +kernel
theorem dX4_isQuiet_31 : decode cX4_isQuiet 31 = .ok (.ireturn, 1) := by decide +kernel
theorem dX4_sand_0 : decode cX4_sand 0 = .ok (.iload_n 1, 1) := by decide +kernel
theorem dX4_sand_1 : decode cX4_sand 1 = .ok (.iload_n 2, 1) := by decide +kernel
theorem dX4_sand_2 : decode cX4_sand 2 = .ok (.iload_n 3, 1) := by decide +kernel
theorem dX4_sand_3 : decode cX4_sand 3 = .ok (.invokestatic 225, 3) := by decide +kernel
theorem dX4_sand_6 : decode cX4_sand 6 = .ok (.ifCond .ne 9, 3) := by decide +kernel
theorem dX4_sand_9 : decode cX4_sand 9 = .ok (.aload_n 0, 1) := by decide +kernel
theorem dX4_sand_10 : decode cX4_sand 10 = .ok (.iconst 0, 1) := by decide +kernel
theorem dX4_sand_11 : decode cX4_sand 11 = .ok (.invokevirtual 82, 3) := by decide +kernel
theorem dX4_sand_14 : decode cX4_sand 14 = .ok (.ireturn, 1) := by decide +kernel
theorem dX4_sand_15 : decode cX4_sand 15 = .ok (.aload_n 0, 1) := by decide +kernel
theorem dX4_sand_16 : decode cX4_sand 16 = .ok (.iload_n 1, 1) := by decide +kernel
theorem dX4_sand_17 : decode cX4_sand 17 = .ok (.iload_n 2, 1) := by decide +kernel
theorem dX4_sand_18 : decode cX4_sand 18 = .ok (.iload_n 3, 1) := by decide +kernel
theorem dX4_sand_19 : decode cX4_sand 19 = .ok (.invokevirtual 228, 3) := by decide +kernel
theorem dX4_sand_22 : decode cX4_sand 22 = .ok (.aload_n 0, 1) := by decide +kernel
theorem dX4_sand_23 : decode cX4_sand 23 = .ok (.getfield 211, 3) := by decide +kernel
theorem dX4_sand_26 : decode cX4_sand 26 = .ok (.ifCond .ge 11, 3) := by decide +kernel
theorem dX4_sand_29 : decode cX4_sand 29 = .ok (.aload_n 0, 1) := by decide +kernel
theorem dX4_sand_30 : decode cX4_sand 30 = .ok (.iconst 3, 1) := by decide +kernel
theorem dX4_sand_31 : decode cX4_sand 31 = .ok (.invokevirtual 82, 3) := by decide +kernel
theorem dX4_sand_34 : decode cX4_sand 34 = .ok (.goto 7, 3) := by decide +kernel
theorem dX4_sand_37 : decode cX4_sand 37 = .ok (.aload_n 0, 1) := by decide +kernel
theorem dX4_sand_38 : decode cX4_sand 38 = .ok (.getfield 211, 3) := by decide +kernel
theorem dX4_sand_41 : decode cX4_sand 41 = .ok (.ireturn, 1) := by decide +kernel
theorem dX4_costs_0 : decode cX4_costs 0 = .ok (.iload_n 1, 1) := by decide +kernel
theorem dX4_costs_1 : decode cX4_costs 1 = .ok (.iload_n 2, 1) := by decide +kernel
theorem dX4_costs_2 : decode cX4_costs 2 = .ok (.iload_n 3, 1) := by decide +kernel
theorem dX4_costs_3 : decode cX4_costs 3 = .ok (.invokestatic 225, 3) := by decide +kernel
theorem dX4_costs_6 : decode cX4_costs 6 = .ok (.ifCond .ne 9, 3) := by decide +kernel
theorem dX4_costs_9 : decode cX4_costs 9 = .ok (.aload_n 0, 1) := by decide +kernel
theorem dX4_costs_10 : decode cX4_costs 10 = .ok (.iconst 0, 1) := by decide +kernel
theorem dX4_costs_11 : decode cX4_costs 11 = .ok (.invokevirtual 82, 3) := by decide +kernel
theorem dX4_costs_14 : decode cX4_costs 14 = .ok (.ireturn, 1) := by decide +kernel
theorem dX4_costs_15 : decode cX4_costs 15 = .ok (.aload_n 0, 1) := by decide +kernel
theorem dX4_costs_16 : decode cX4_costs 16 = .ok (.iload_n 1, 1) := by decide +kernel
theorem dX4_costs_17 : decode cX4_costs 17 = .ok (.iload_n 2, 1) := by decide +kernel
theorem dX4_costs_18 : decode cX4_costs 18 = .ok (.iload_n 3, 1) := by decide +kernel
theorem dX4_costs_19 : decode cX4_costs 19 = .ok (.invokevirtual 228, 3) := by decide +kernel
theorem dX4_costs_22 : decode cX4_costs 22 = .ok (.aload_n 0, 1) := by decide +kernel
theorem dX4_costs_23 : decode cX4_costs 23 = .ok (.getfield 211, 3) := by decide +kernel
theorem dX4_costs_26 : decode cX4_costs 26 = .ok (.ifCond .ge 11, 3) := by decide +kernel
theorem dX4_costs_29 : decode cX4_costs 29 = .ok (.aload_n 0, 1) := by decide +kernel
theorem dX4_costs_30 : decode cX4_costs 30 = .ok (.iconst 3, 1) := by decide +kernel
theorem dX4_costs_31 : decode cX4_costs 31 = .ok (.invokevirtual 82, 3) := by decide +kernel
theorem dX4_costs_34 : decode cX4_costs 34 = .ok (.goto 7, 3) := by decide +kernel
theorem dX4_costs_37 : decode cX4_costs 37 = .ok (.aload_n 0, 1) := by decide +kernel
theorem dX4_costs_38 : decode cX4_costs 38 = .ok (.getfield 217, 3) := by decide +kernel
theorem dX4_costs_41 : decode cX4_costs 41 = .ok (.ireturn, 1) := by decide +kernel
theorem dX4_aunt_0 : decode cX4_aunt 0 = .ok (.iload_n 1, 1) := by decide +kernel
theorem dX4_aunt_1 : decode cX4_aunt 1 = .ok (.invokestatic 208, 3) := by decide +kernel
theorem dX4_aunt_4 : decode cX4_aunt 4 = .ok (.ifCond .ne 9, 3) := by decide +kernel
theorem dX4_aunt_7 : decode cX4_aunt 7 = .ok (.aload_n 0, 1) := by decide +kernel
theorem dX4_aunt_8 : decode cX4_aunt 8 = .ok (.iconst 0, 1) := by decide +kernel
theorem dX4_aunt_9 : decode cX4_aunt 9 = .ok (.invokevirtual 82, 3) := by decide +kernel
theorem dX4_aunt_12 : decode cX4_aunt 12 = .ok (.ireturn, 1) := by decide +kernel
theorem dX4_aunt_13 : decode cX4_aunt 13 = .ok (.aload_n 0, 1) := by decide +kernel
theorem dX4_aunt_14 : decode cX4_aunt 14 = .ok (.getfield 9, 3) := by decide +kernel
theorem dX4_aunt_17 : decode cX4_aunt 17 = .ok (.iconst 3, 1) := by decide +kernel
theorem dX4_aunt_18 : decode cX4_aunt 18 = .ok (.iaload, 1) := by decide +kernel
theorem dX4_aunt_19 : decode cX4_aunt 19 = .ok (.istore_n 2, 1) := by decide +kernel
theorem dX4_aunt_20 : decode cX4_aunt 20 = .ok (.iconst (-1), 1) := by decide +kernel
theorem dX4_aunt_21 : decode cX4_aunt 21 = .ok (.istore_n 3, 1) := by decide +kernel
theorem dX4_aunt_22 : decode cX4_aunt 22 = .ok (.iconst 0, 1) := by decide +kernel
theorem dX4_aunt_23 : decode cX4_aunt 23 = .ok (.istore 4, 2) := by decide +kernel
theorem dX4_aunt_25 : decode cX4_aunt 25 = .ok (.iconst 0, 1) := by decide +kernel
theorem dX4_aunt_26 : decode cX4_aunt 26 = .ok (.istore 5, 2) := by decide +kernel
theorem dX4_aunt_28 : decode cX4_aunt 28 = .ok (.iload 5, 2) := by decide +kernel
theorem dX4_aunt_30 : decode cX4_aunt 30 = .ok (.bipush 16, 2) := by decide +kernel
theorem dX4_aunt_32 : decode cX4_aunt 32 = .ok (.if_icmp .ge 48, 3) := by decide +kernel
theorem dX4_aunt_35 : decode cX4_aunt 35 = .ok (.aload_n 0, 1) := by decide +kernel
theorem dX4_aunt_36 : decode cX4_aunt 36 = .ok (.getfield 9, 3) := by decide +kernel
theorem dX4_aunt_39 : decode cX4_aunt 39 = .ok (.iconst 3, 1) := by decide +kernel
theorem dX4_aunt_40 : decode cX4_aunt 40 = .ok (.iload_n 2, 1) := by decide +kernel
theorem dX4_aunt_41 : decode cX4_aunt 41 = .ok (.iconst 1, 1) := by decide +kernel
theorem dX4_aunt_42 : decode cX4_aunt 42 = .ok (.iload 5, 2) := by decide +kernel
theorem dX4_aunt_44 : decode cX4_aunt 44 = .ok (.ishl, 1) := by decide +kernel
theorem dX4_aunt_45 : decode cX4_aunt 45 = .ok (.ior, 1) := by decide +kernel
theorem dX4_aunt_46 : decode cX4_aunt 46 = .ok (.iastore, 1) := by decide +kernel
theorem dX4_aunt_47 : decode cX4_aunt 47 = .ok (.aload_n 0, 1) := by decide +kernel
theorem dX4_aunt_48 : decode cX4_aunt 48 = .ok (.bipush 15, 2) := by decide +kernel
theorem dX4_aunt_50 : decode cX4_aunt 50 = .ok (.iload_n 1, 1) := by decide +kernel
theorem dX4_aunt_51 : decode cX4_aunt 51 = .ok (.invokevirtual 174, 3) := by decide +kernel
theorem dX4_aunt_54 : decode cX4_aunt 54 = .ok (.istore 6, 2) := by decide +kernel
theorem dX4_aunt_56 : decode cX4_aunt 56 = .ok (.iload_n 3, 1) := by decide +kernel
theorem dX4_aunt_57 : decode cX4_aunt 57 = .ok (.ifCond .lt 10, 3) := by decide +kernel
theorem dX4_aunt_60 : decode cX4_aunt 60 = .ok (.iload 6, 2) := by decide +kernel
theorem dX4_aunt_62 : decode cX4_aunt 62 = .ok (.iload 4, 2) := by decide +kernel
theorem dX4_aunt_64 : decode cX4_aunt 64 = .ok (.if_icmp .ge 10, 3) := by decide +kernel
theorem dX4_aunt_67 : decode cX4_aunt 67 = .ok (.iload 5, 2) := by decide +kernel
theorem dX4_aunt_69 : decode cX4_aunt 69 = .ok (.istore_n 3, 1) := by decide +kernel
theorem dX4_aunt_70 : decode cX4_aunt 70 = .ok (.iload 6, 2) := by decide +kernel
theorem dX4_aunt_72 : decode cX4_aunt 72 = .ok (.istore 4, 2) := by decide +kernel
theorem dX4_aunt_74 : decode cX4_aunt 74 = .ok (.iinc 5 1, 3) := by decide +kernel
theorem dX4_aunt_77 : decode cX4_aunt 77 = .ok (.goto (-49), 3) := by decide +kernel
theorem dX4_aunt_80 : decode cX4_aunt 80 = .ok (.aload_n 0, 1) := by decide +kernel
theorem dX4_aunt_81 : decode cX4_aunt 81 = .ok (.getfield 9, 3) := by decide +kernel
theorem dX4_aunt_84 : decode cX4_aunt 84 = .ok (.iconst 3, 1) := by decide +kernel
theorem dX4_aunt_85 : decode cX4_aunt 85 = .ok (.iload_n 2, 1) := by decide +kernel
theorem dX4_aunt_86 : decode cX4_aunt 86 = .ok (.iastore, 1) := by decide +kernel
theorem dX4_aunt_87 : decode cX4_aunt 87 = .ok (.iload_n 3, 1) := by decide +kernel
theorem dX4_aunt_88 : decode cX4_aunt 88 = .ok (.ireturn, 1) := by decide +kernel
theorem dX4_isAsTold_0 : decode cX4_isAsTold 0 = .ok (.iconst 1, 1) := by decide +kernel
theorem dX4_isAsTold_1 : decode cX4_isAsTold 1 = .ok (.istore_n 2, 1) := by decide +kernel
theorem dX4_isAsTold_2 : decode cX4_isAsTold 2 = .ok (.iconst 0, 1) := by decide +kernel
theorem dX4_isAsTold_3 : decode cX4_isAsTold 3 = .ok (.istore_n 3, 1) := by decide +kernel
theorem dX4_isAsTold_4 : decode cX4_isAsTold 4 = .ok (.iload_n 3, 1) := by decide +kernel
theorem dX4_isAsTold_5 : decode cX4_isAsTold 5 = .ok (.aload_n 0, 1) := by decide +kernel
theorem dX4_isAsTold_6 : decode cX4_isAsTold 6 = .ok (.getfield 31, 3) := by decide +kernel
theorem dX4_isAsTold_9 : decode cX4_isAsTold 9 = .ok (.iload_n 1, 1) := by decide +kernel
theorem dX4_isAsTold_10 : decode cX4_isAsTold 10 = .ok (.iaload, 1) := by decide +kernel
theorem dX4_isAsTold_11 : decode cX4_isAsTold 11 = .ok (.if_icmp .ge 53, 3) := by decide +kernel
theorem dX4_isAsTold_14 : decode cX4_isAsTold 14 = .ok (.iload_n 2, 1) := by decide +kernel
theorem dX4_isAsTold_15 : decode cX4_isAsTold 15 = .ok (.ifCond .eq 49, 3) := by decide +kernel
theorem dX4_isAsTold_18 : decode cX4_isAsTold 18 = .ok (.aload_n 0, 1) := by decide +kernel
theorem dX4_isAsTold_19 : decode cX4_isAsTold 19 = .ok (.invokevirtual 146, 3) := by decide +kernel
theorem dX4_isAsTold_22 : decode cX4_isAsTold 22 = .ok (.aload_n 0, 1) := by decide +kernel
theorem dX4_isAsTold_23 : decode cX4_isAsTold 23 = .ok (.getfield 34, 3) := by decide +kernel
theorem dX4_isAsTold_26 : decode cX4_isAsTold 26 = .ok (.bipush 40, 2) := by decide +kernel
theorem dX4_isAsTold_28 : decode cX4_isAsTold 28 = .ok (.iload_n 1, 1) := by decide +kernel
theorem dX4_isAsTold_29 : decode cX4_isAsTold 29 = .ok (.imul, 1) := by decide +kernel
theorem dX4_isAsTold_30 : decode cX4_isAsTold 30 = .ok (.iload_n 3, 1) := by decide +kernel
theorem dX4_isAsTold_31 : decode cX4_isAsTold 31 = .ok (.iadd, 1) := by decide +kernel
theorem dX4_isAsTold_32 : decode cX4_isAsTold 32 = .ok (.iaload, 1) := by decide +kernel
theorem dX4_isAsTold_33 : decode cX4_isAsTold 33 = .ok (.istore 4, 2) := by decide +kernel
theorem dX4_isAsTold_35 : decode cX4_isAsTold 35 = .ok (.iload 4, 2) := by decide +kernel
theorem dX4_isAsTold_37 : decode cX4_isAsTold 37 = .ok (.iconst (-1), 1) := by decide +kernel
theorem dX4_isAsTold_38 : decode cX4_isAsTold 38 = .ok (.if_icmp .eq 14, 3) := by decide +kernel
theorem dX4_isAsTold_41 : decode cX4_isAsTold 41 = .ok (.iload 4, 2) := by decide +kernel
theorem dX4_isAsTold_43 : decode cX4_isAsTold 43 = .ok (.aload_n 0, 1) := by decide +kernel
theorem dX4_isAsTold_44 : decode cX4_isAsTold 44 = .ok (.bipush 15, 2) := by decide +kernel
theorem dX4_isAsTold_46 : decode cX4_isAsTold 46 = .ok (.invokevirtual 72, 3) := by decide +kernel
theorem dX4_isAsTold_49 : decode cX4_isAsTold 49 = .ok (.if_icmp .ne 7, 3) := by decide +kernel
theorem dX4_isAsTold_52 : decode cX4_isAsTold 52 = .ok (.iconst 1, 1) := by decide +kernel
theorem dX4_isAsTold_53 : decode cX4_isAsTold 53 = .ok (.goto 4, 3) := by decide +kernel
theorem dX4_isAsTold_56 : decode cX4_isAsTold 56 = .ok (.iconst 0, 1) := by decide +kernel
theorem dX4_isAsTold_57 : decode cX4_isAsTold 57 = .ok (.istore_n 2, 1) := by decide +kernel
theorem dX4_isAsTold_58 : decode cX4_isAsTold 58 = .ok (.iinc 3 1, 3) := by decide +kernel
theorem dX4_isAsTold_61 : decode cX4_isAsTold 61 = .ok (.goto (-57), 3) := by decide +kernel
theorem dX4_isAsTold_64 : decode cX4_isAsTold 64 = .ok (.iload_n 2, 1) := by decide +kernel
theorem dX4_isAsTold_65 : decode cX4_isAsTold 65 = .ok (.ireturn, 1) := by decide +kernel
theorem dX4_findFits_0 : decode cX4_findFits 0 = .ok (.aload_n 0, 1) := by decide +kernel
theorem dX4_findFits_1 : decode cX4_findFits 1 = .ok (.iconst 0, 1) := by decide +kernel
theorem dX4_findFits_2 : decode cX4_findFits 2 = .ok (.putfield 231, 3) := by decide +kernel
theorem dX4_findFits_5 : decode cX4_findFits 5 = .ok (.aload_n 0, 1) := by decide +kernel
theorem dX4_findFits_6 : decode cX4_findFits 6 = .ok (.iconst (-1), 1) := by decide +kernel
theorem dX4_findFits_7 : decode cX4_findFits 7 = .ok (.putfield 234, 3) := by decide +kernel
theorem dX4_findFits_10 : decode cX4_findFits 10 = .ok (.iconst 0, 1) := by decide +kernel
theorem dX4_findFits_11 : decode cX4_findFits 11 = .ok (.istore_n 3, 1) := by decide +kernel
theorem dX4_findFits_12 : decode cX4_findFits 12 = .ok (.iload_n 3, 1) := by decide +kernel
theorem dX4_findFits_13 : decode cX4_findFits 13 = .ok (.bipush 6, 2) := by decide +kernel
theorem dX4_findFits_15 : decode cX4_findFits 15 = .ok (.if_icmp .gt 99, 3) := by decide +kernel
theorem dX4_findFits_18 : decode cX4_findFits 18 = .ok (.iconst 0, 1) := by decide +kernel
theorem dX4_findFits_19 : decode cX4_findFits 19 = .ok (.istore 4, 2) := by decide +kernel
theorem dX4_findFits_21 : decode cX4_findFits 21 = .ok (.iload 4, 2) := by decide +kernel
theorem dX4_findFits_23 : decode cX4_findFits 23 = .ok (.bipush 16, 2) := by decide +kernel
theorem dX4_findFits_25 : decode cX4_findFits 25 = .ok (.if_icmp .ge 83, 3) := by decide +kernel
theorem dX4_findFits_28 : decode cX4_findFits 28 = .ok (.aload_n 0, 1) := by decide +kernel
theorem dX4_findFits_29 : decode cX4_findFits 29 = .ok (.invokevirtual 168, 3) := by decide +kernel
theorem dX4_findFits_32 : decode cX4_findFits 32 = .ok (.aload_n 0, 1) := by decide +kernel
theorem dX4_findFits_33 : decode cX4_findFits 33 = .ok (.iload_n 3, 1) := by decide +kernel
theorem dX4_findFits_34 : decode cX4_findFits 34 = .ok (.iload 4, 2) := by decide +kernel
theorem dX4_findFits_36 : decode cX4_findFits 36 = .ok (.iload_n 2, 1) := by decide +kernel
theorem dX4_findFits_37 : decode cX4_findFits 37 = .ok (.invokevirtual 113, 3) := by decide +kernel
theorem dX4_findFits_40 : decode cX4_findFits 40 = .ok (.istore 5, 2) := by decide +kernel
theorem dX4_findFits_42 : decode cX4_findFits 42 = .ok (.aload_n 0, 1) := by decide +kernel
theorem dX4_findFits_43 : decode cX4_findFits 43 = .ok (.iload_n 1, 1) := by decide +kernel
theorem dX4_findFits_44 : decode cX4_findFits 44 = .ok (.invokevirtual 237, 3) := by decide +kernel
theorem dX4_findFits_47 : decode cX4_findFits 47 = .ok (.istore 6, 2) := by decide +kernel
theorem dX4_findFits_49 : decode cX4_findFits 49 = .ok (.aload_n 0, 1) := by decide +kernel
theorem dX4_findFits_50 : decode cX4_findFits 50 = .ok (.invokevirtual 171, 3) := by decide +kernel
theorem dX4_findFits_53 : decode cX4_findFits 53 = .ok (.aload_n 0, 1) := by decide +kernel
theorem dX4_findFits_54 : decode cX4_findFits 54 = .ok (.dup, 1) := by decide +kernel
theorem dX4_findFits_55 : decode cX4_findFits 55 = .ok (.getfield 231, 3) := by decide +kernel
theorem dX4_findFits_58 : decode cX4_findFits 58 = .ok (.iload 6, 2) := by decide +kernel
theorem dX4_findFits_60 : decode cX4_findFits 60 = .ok (.ifCond .eq 7, 3) := by decide +kernel
theorem dX4_findFits_63 : decode cX4_findFits 63 = .ok (.iconst 1, 1) := by decide +kernel
theorem dX4_findFits_64 : decode cX4_findFits 64 = .ok (.goto 4, 3) := by decide +kernel
theorem dX4_findFits_67 : decode cX4_findFits 67 = .ok (.iconst 0, 1) := by decide +kernel
theorem dX4_findFits_68 : decode cX4_findFits 68 = .ok (.iadd, 1) := by decide +kernel
theorem dX4_findFits_69 : decode cX4_findFits 69 = .ok (.putfield 231, 3) := by decide +kernel
theorem dX4_findFits_72 : decode cX4_findFits 72 = .ok (.aload_n 0, 1) := by decide +kernel
theorem dX4_findFits_73 : decode cX4_findFits 73 = .ok (.iload 6, 2) := by decide +kernel
theorem dX4_findFits_75 : decode cX4_findFits 75 = .ok (.ifCond .eq 20, 3) := by decide +kernel
theorem dX4_findFits_78 : decode cX4_findFits 78 = .ok (.aload_n 0, 1) := by decide +kernel
theorem dX4_findFits_79 : decode cX4_findFits 79 = .ok (.getfield 234, 3) := by decide +kernel
theorem dX4_findFits_82 : decode cX4_findFits 82 = .ok (.ifCond .ge 13, 3) := by decide +kernel
theorem dX4_findFits_85 : decode cX4_findFits 85 = .ok (.bipush 16, 2) := by decide +kernel
theorem dX4_findFits_87 : decode cX4_findFits 87 = .ok (.iload_n 3, 1) := by decide +kernel
theorem dX4_findFits_88 : decode cX4_findFits 88 = .ok (.imul, 1) := by decide +kernel
theorem dX4_findFits_89 : decode cX4_findFits 89 = .ok (.iload 4, 2) := by decide +kernel
theorem dX4_findFits_91 : decode cX4_findFits 91 = .ok (.iadd, 1) := by decide +kernel
theorem dX4_findFits_92 : decode cX4_findFits 92 = .ok (.goto 7, 3) := by decide +kernel
theorem dX4_findFits_95 : decode cX4_findFits 95 = .ok (.aload_n 0, 1) := by decide +kernel
theorem dX4_findFits_96 : decode cX4_findFits 96 = .ok (.getfield 234, 3) := by decide +kernel
theorem dX4_findFits_99 : decode cX4_findFits 99 = .ok (.putfield 234, 3) := by decide +kernel
theorem dX4_findFits_102 : decode cX4_findFits 102 = .ok (.iinc 4 1, 3) := by decide +kernel
theorem dX4_findFits_105 : decode cX4_findFits 105 = .ok (.goto (-84), 3) := by decide +kernel
theorem dX4_findFits_108 : decode cX4_findFits 108 = .ok (.iinc 3 1, 3) := by decide +kernel
theorem dX4_findFits_111 : decode cX4_findFits 111 = .ok (.goto (-99), 3) := by decide +kernel
theorem dX4_findFits_114 : decode cX4_findFits 114 = .ok (.return_, 1) := by decide +kernel
theorem dX4_lacksFits_0 : decode cX4_lacksFits 0 = .ok (.aload_n 0, 1) := by decide +kernel
theorem dX4_lacksFits_1 : decode cX4_lacksFits 1 = .ok (.iload_n 1, 1) := by decide +kernel
theorem dX4_lacksFits_2 : decode cX4_lacksFits 2 = .ok (.invokevirtual 240, 3) := by decide +kernel
theorem dX4_lacksFits_5 : decode cX4_lacksFits 5 = .ok (.istore_n 3, 1) := by decide +kernel
theorem dX4_lacksFits_6 : decode cX4_lacksFits 6 = .ok (.iload_n 3, 1) := by decide +kernel
theorem dX4_lacksFits_7 : decode cX4_lacksFits 7 = .ok (.ifCond .lt 5, 3) := by decide +kernel
theorem dX4_lacksFits_10 : decode cX4_lacksFits 10 = .ok (.iload_n 3, 1) := by decide +kernel
theorem dX4_lacksFits_11 : decode cX4_lacksFits 11 = .ok (.ireturn, 1) := by decide +kernel
theorem dX4_lacksFits_12 : decode cX4_lacksFits 12 = .ok (.iload_n 2, 1) := by decide +kernel
theorem dX4_lacksFits_13 : decode cX4_lacksFits 13 = .ok (.i2l, 1) := by decide +kernel
theorem dX4_lacksFits_14 : decode cX4_lacksFits 14 = .ok (.lconst 1, 1) := by decide +kernel
theorem dX4_lacksFits_15 : decode cX4_lacksFits 15 = .ok (.ldc2_w 126, 3) := by decide +kernel
theorem dX4_lacksFits_18 : decode cX4_lacksFits 18 = .ok (.invokestatic 57, 3) := by decide +kernel
theorem dX4_lacksFits_21 : decode cX4_lacksFits 21 = .ok (.ifCond .ne 7, 3) := by decide +kernel
theorem dX4_lacksFits_24 : decode cX4_lacksFits 24 = .ok (.iconst 0, 1) := by decide +kernel
theorem dX4_lacksFits_25 : decode cX4_lacksFits 25 = .ok (.goto 19, 3) := by decide +kernel
theorem dX4_lacksFits_28 : decode cX4_lacksFits 28 = .ok (.aload_n 0, 1) := by decide +kernel
theorem dX4_lacksFits_29 : decode cX4_lacksFits 29 = .ok (.getfield 9, 3) := by decide +kernel
theorem dX4_lacksFits_32 : decode cX4_lacksFits 32 = .ok (.iconst 1, 1) := by decide +kernel
theorem dX4_lacksFits_33 : decode cX4_lacksFits 33 = .ok (.iaload, 1) := by decide +kernel
theorem dX4_lacksFits_34 : decode cX4_lacksFits 34 = .ok (.bipush 8, 2) := by decide +kernel
theorem dX4_lacksFits_36 : decode cX4_lacksFits 36 = .ok (.if_icmp .ne 7, 3) := by decide +kernel
theorem dX4_lacksFits_39 : decode cX4_lacksFits 39 = .ok (.iconst 4, 1) := by decide +kernel
theorem dX4_lacksFits_40 : decode cX4_lacksFits 40 = .ok (.goto 4, 3) := by decide +kernel
theorem dX4_lacksFits_43 : decode cX4_lacksFits 43 = .ok (.iconst (-1), 1) := by decide +kernel
theorem dX4_lacksFits_44 : decode cX4_lacksFits 44 = .ok (.ireturn, 1) := by decide +kernel
theorem dX4_fits_0 : decode cX4_fits 0 = .ok (.aload_n 0, 1) := by decide +kernel
theorem dX4_fits_1 : decode cX4_fits 1 = .ok (.iload_n 1, 1) := by decide +kernel
theorem dX4_fits_2 : decode cX4_fits 2 = .ok (.iload_n 2, 1) := by decide +kernel
theorem dX4_fits_3 : decode cX4_fits 3 = .ok (.invokevirtual 243, 3) := by decide +kernel
theorem dX4_fits_6 : decode cX4_fits 6 = .ok (.istore_n 3, 1) := by decide +kernel
theorem dX4_fits_7 : decode cX4_fits 7 = .ok (.iload_n 3, 1) := by decide +kernel
theorem dX4_fits_8 : decode cX4_fits 8 = .ok (.ifCond .lt 9, 3) := by decide +kernel
theorem dX4_fits_11 : decode cX4_fits 11 = .ok (.aload_n 0, 1) := by decide +kernel
theorem dX4_fits_12 : decode cX4_fits 12 = .ok (.iload_n 3, 1) := by decide +kernel
theorem dX4_fits_13 : decode cX4_fits 13 = .ok (.invokevirtual 82, 3) := by decide +kernel
theorem dX4_fits_16 : decode cX4_fits 16 = .ok (.ireturn, 1) := by decide +kernel
theorem dX4_fits_17 : decode cX4_fits 17 = .ok (.aload_n 0, 1) := by decide +kernel
theorem dX4_fits_18 : decode cX4_fits 18 = .ok (.iload_n 1, 1) := by decide +kernel
theorem dX4_fits_19 : decode cX4_fits 19 = .ok (.iload_n 2, 1) := by decide +kernel
theorem dX4_fits_20 : decode cX4_fits 20 = .ok (.invokevirtual 246, 3) := by decide +kernel
theorem dX4_fits_23 : decode cX4_fits 23 = .ok (.aload_n 0, 1) := by decide +kernel
theorem dX4_fits_24 : decode cX4_fits 24 = .ok (.getfield 231, 3) := by decide +kernel
theorem dX4_fits_27 : decode cX4_fits 27 = .ok (.ireturn, 1) := by decide +kernel
theorem dX4_said_0 : decode cX4_said 0 = .ok (.aload_n 0, 1) := by decide +kernel
theorem dX4_said_1 : decode cX4_said 1 = .ok (.iload_n 1, 1) := by decide +kernel
theorem dX4_said_2 : decode cX4_said 2 = .ok (.iload_n 2, 1) := by decide +kernel
theorem dX4_said_3 : decode cX4_said 3 = .ok (.invokevirtual 243, 3) := by decide +kernel
theorem dX4_said_6 : decode cX4_said 6 = .ok (.istore_n 3, 1) := by decide +kernel
theorem dX4_said_7 : decode cX4_said 7 = .ok (.iload_n 3, 1) := by decide +kernel
theorem dX4_said_8 : decode cX4_said 8 = .ok (.ifCond .lt 9, 3) := by decide +kernel
theorem dX4_said_11 : decode cX4_said 11 = .ok (.aload_n 0, 1) := by decide +kernel
theorem dX4_said_12 : decode cX4_said 12 = .ok (.iload_n 3, 1) := by decide +kernel
theorem dX4_said_13 : decode cX4_said 13 = .ok (.invokevirtual 82, 3) := by decide +kernel
theorem dX4_said_16 : decode cX4_said 16 = .ok (.ireturn, 1) := by decide +kernel
theorem dX4_said_17 : decode cX4_said 17 = .ok (.aload_n 0, 1) := by decide +kernel
theorem dX4_said_18 : decode cX4_said 18 = .ok (.iload_n 1, 1) := by decide +kernel
theorem dX4_said_19 : decode cX4_said 19 = .ok (.iload_n 2, 1) := by decide +kernel
theorem dX4_said_20 : decode cX4_said 20 = .ok (.invokevirtual 246, 3) := by decide +kernel
theorem dX4_said_23 : decode cX4_said 23 = .ok (.aload_n 0, 1) := by decide +kernel
theorem dX4_said_24 : decode cX4_said 24 = .ok (.getfield 234, 3) := by decide +kernel
theorem dX4_said_27 : decode cX4_said 27 = .ok (.ifCond .ge 11, 3) := by decide +kernel
theorem dX4_said_30 : decode cX4_said 30 = .ok (.aload_n 0, 1) := by decide +kernel
theorem dX4_said_31 : decode cX4_said 31 = .ok (.iconst 3, 1) := by decide +kernel
theorem dX4_said_32 : decode cX4_said 32 = .ok (.invokevirtual 82, 3) := by decide +kernel
theorem dX4_said_35 : decode cX4_said 35 = .ok (.goto 7, 3) := by decide +kernel
theorem dX4_said_38 : decode cX4_said 38 = .ok (.aload_n 0, 1) := by decide +kernel
theorem dX4_said_39 : decode cX4_said 39 = .ok (.getfield 234, 3) := by decide +kernel
theorem dX4_said_42 : decode cX4_said 42 = .ok (.ireturn, 1) := by decide +kernel
theorem dX4_dearest_0 : decode cX4_dearest 0 = .ok (.iconst 0, 1) := by decide +kernel
theorem dX4_dearest_1 : decode cX4_dearest 1 = .ok (.istore_n 1, 1) := by decide +kernel
theorem dX4_dearest_2 : decode cX4_dearest 2 = .ok (.iconst 1, 1) := by decide +kernel
theorem dX4_dearest_3 : decode cX4_dearest 3 = .ok (.istore_n 2, 1) := by decide +kernel
theorem dX4_dearest_4 : decode cX4_dearest 4 = .ok (.iload_n 2, 1) := by decide +kernel
theorem dX4_dearest_5 : decode cX4_dearest 5 = .ok (.bipush 16, 2) := by decide +kernel
theorem dX4_dearest_7 : decode cX4_dearest 7 = .ok (.if_icmp .ge 28, 3) := by decide +kernel
theorem dX4_dearest_10 : decode cX4_dearest 10 = .ok (.aload_n 0, 1) := by decide +kernel
theorem dX4_dearest_11 : decode cX4_dearest 11 = .ok (.iload_n 2, 1) := by decide +kernel
theorem dX4_dearest_12 : decode cX4_dearest 12 = .ok (.invokevirtual 91, 3) := by decide +kernel
theorem dX4_dearest_15 : decode cX4_dearest 15 = .ok (.aload_n 0, 1) := by decide +kernel
theorem dX4_dearest_16 : decode cX4_dearest 16 = .ok (.iload_n 1, 1) := by decide +kernel
theorem dX4_dearest_17 : decode cX4_dearest 17 = .ok (.invokevirtual 91, 3) := by decide +kernel
theorem dX4_dearest_20 : decode cX4_dearest 20 = .ok (.if_icmp .le 7, 3) := by decide +kernel
theorem dX4_dearest_23 : decode cX4_dearest 23 = .ok (.iload_n 2, 1) := by decide +kernel
theorem dX4_dearest_24 : decode cX4_dearest 24 = .ok (.goto 4, 3) := by decide +kernel
theorem dX4_dearest_27 : decode cX4_dearest 27 = .ok (.iload_n 1, 1) := by decide +kernel
theorem dX4_dearest_28 : decode cX4_dearest 28 = .ok (.istore_n 1, 1) := by decide +kernel
theorem dX4_dearest_29 : decode cX4_dearest 29 = .ok (.iinc 2 1, 3) := by decide +kernel
theorem dX4_dearest_32 : decode cX4_dearest 32 = .ok (.goto (-28), 3) := by decide +kernel
theorem dX4_dearest_35 : decode cX4_dearest 35 = .ok (.iload_n 1, 1) := by decide +kernel
theorem dX4_dearest_36 : decode cX4_dearest 36 = .ok (.ireturn, 1) := by decide +kernel
theorem dX4_rents_0 : decode cX4_rents 0 = .ok (.iconst 0, 1) := by decide +kernel
theorem dX4_rents_1 : decode cX4_rents 1 = .ok (.istore_n 1, 1) := by decide +kernel
theorem dX4_rents_2 : decode cX4_rents 2 = .ok (.iconst 0, 1) := by decide +kernel
theorem dX4_rents_3 : decode cX4_rents 3 = .ok (.istore_n 2, 1) := by decide +kernel
theorem dX4_rents_4 : decode cX4_rents 4 = .ok (.iload_n 2, 1) := by decide +kernel
theorem dX4_rents_5 : decode cX4_rents 5 = .ok (.bipush 16, 2) := by decide +kernel
theorem dX4_rents_7 : decode cX4_rents 7 = .ok (.if_icmp .ge 17, 3) := by decide +kernel
theorem dX4_rents_10 : decode cX4_rents 10 = .ok (.iload_n 1, 1) := by decide +kernel
theorem dX4_rents_11 : decode cX4_rents 11 = .ok (.aload_n 0, 1) := by decide +kernel
theorem dX4_rents_12 : decode cX4_rents 12 = .ok (.iload_n 2, 1) := by decide +kernel
theorem dX4_rents_13 : decode cX4_rents 13 = .ok (.invokevirtual 91, 3) := by decide +kernel
theorem dX4_rents_16 : decode cX4_rents 16 = .ok (.iadd, 1) := by decide +kernel
theorem dX4_rents_17 : decode cX4_rents 17 = .ok (.istore_n 1, 1) := by decide +kernel
theorem dX4_rents_18 : decode cX4_rents 18 = .ok (.iinc 2 1, 3) := by decide +kernel
theorem dX4_rents_21 : decode cX4_rents 21 = .ok (.goto (-17), 3) := by decide +kernel
theorem dX4_rents_24 : decode cX4_rents 24 = .ok (.iload_n 1, 1) := by decide +kernel
theorem dX4_rents_25 : decode cX4_rents 25 = .ok (.ireturn, 1) := by decide +kernel
theorem dX4_draw_0 : decode cX4_draw 0 = .ok (.aload_n 0, 1) := by decide +kernel
theorem dX4_draw_1 : decode cX4_draw 1 = .ok (.getfield 9, 3) := by decide +kernel
theorem dX4_draw_4 : decode cX4_draw 4 = .ok (.iconst 4, 1) := by decide +kernel
theorem dX4_draw_5 : decode cX4_draw 5 = .ok (.aload_n 0, 1) := by decide +kernel
theorem dX4_draw_6 : decode cX4_draw 6 = .ok (.getfield 9, 3) := by decide +kernel
theorem dX4_draw_9 : decode cX4_draw 9 = .ok (.iconst 4, 1) := by decide +kernel
theorem dX4_draw_10 : decode cX4_draw 10 = .ok (.iaload, 1) := by decide +kernel
theorem dX4_draw_11 : decode cX4_draw 11 = .ok (.ldc 250, 2) := by decide +kernel
theorem dX4_draw_13 : decode cX4_draw 13 = .ok (.imul, 1) := by decide +kernel
theorem dX4_draw_14 : decode cX4_draw 14 = .ok (.sipush 12345, 3) := by decide +kernel
theorem dX4_draw_17 : decode cX4_draw 17 = .ok (.iadd, 1) := by decide +kernel
theorem dX4_draw_18 : decode cX4_draw 18 = .ok (.iastore, 1) := by decide +kernel
theorem dX4_draw_19 : decode cX4_draw 19 = .ok (.aload_n 0, 1) := by decide +kernel
theorem dX4_draw_20 : decode cX4_draw 20 = .ok (.getfield 9, 3) := by decide +kernel
theorem dX4_draw_23 : decode cX4_draw 23 = .ok (.iconst 4, 1) := by decide +kernel
theorem dX4_draw_24 : decode cX4_draw 24 = .ok (.iaload, 1) := by decide +kernel
theorem dX4_draw_25 : decode cX4_draw 25 = .ok (.bipush 8, 2) := by decide +kernel
theorem dX4_draw_27 : decode cX4_draw 27 = .ok (.iushr, 1) := by decide +kernel
theorem dX4_draw_28 : decode cX4_draw 28 = .ok (.ireturn, 1) := by decide +kernel
theorem dX4_frosts_0 : decode cX4_frosts 0 = .ok (.iload_n 1, 1) := by decide +kernel
theorem dX4_frosts_1 : decode cX4_frosts 1 = .ok (.i2l, 1) := by decide +kernel
theorem dX4_frosts_2 : decode cX4_frosts 2 = .ok (.lconst 1, 1) := by decide +kernel
theorem dX4_frosts_3 : decode cX4_frosts 3 = .ok (.ldc2_w 251, 3) := by decide +kernel
theorem dX4_frosts_6 : decode cX4_frosts 6 = .ok (.invokestatic 57, 3) := by decide +kernel
theorem dX4_frosts_9 : decode cX4_frosts 9 = .ok (.ifCond .ne 9, 3) := by decide +kernel
theorem dX4_frosts_12 : decode cX4_frosts 12 = .ok (.aload_n 0, 1) := by decide +kernel
theorem dX4_frosts_13 : decode cX4_frosts 13 = .ok (.iconst 0, 1) := by decide +kernel
theorem dX4_frosts_14 : decode cX4_frosts 14 = .ok (.invokevirtual 82, 3) := by decide +kernel
theorem dX4_frosts_17 : decode cX4_frosts 17 = .ok (.ireturn, 1) := by decide +kernel
theorem dX4_frosts_18 : decode cX4_frosts 18 = .ok (.aload_n 0, 1) := by decide +kernel
theorem dX4_frosts_19 : decode cX4_frosts 19 = .ok (.getfield 9, 3) := by decide +kernel
theorem dX4_frosts_22 : decode cX4_frosts 22 = .ok (.iconst 0, 1) := by decide +kernel
theorem dX4_frosts_23 : decode cX4_frosts 23 = .ok (.iaload, 1) := by decide +kernel
theorem dX4_frosts_24 : decode cX4_frosts 24 = .ok (.iload_n 1, 1) := by decide +kernel
theorem dX4_frosts_25 : decode cX4_frosts 25 = .ok (.iadd, 1) := by decide +kernel
theorem dX4_frosts_26 : decode cX4_frosts 26 = .ok (.ldc 151, 2) := by decide +kernel
theorem dX4_frosts_28 : decode cX4_frosts 28 = .ok (.if_icmp .le 9, 3) := by decide +kernel
theorem dX4_frosts_31 : decode cX4_frosts 31 = .ok (.aload_n 0, 1) := by decide +kernel
theorem dX4_frosts_32 : decode cX4_frosts 32 = .ok (.iconst 4, 1) := by decide +kernel
theorem dX4_frosts_33 : decode cX4_frosts 33 = .ok (.invokevirtual 82, 3) := by decide +kernel
theorem dX4_frosts_36 : decode cX4_frosts 36 = .ok (.ireturn, 1) := by decide +kernel
theorem dX4_frosts_37 : decode cX4_frosts 37 = .ok (.iconst 0, 1) := by decide +kernel
theorem dX4_frosts_38 : decode cX4_frosts 38 = .ok (.istore_n 2, 1) := by decide +kernel
theorem dX4_frosts_39 : decode cX4_frosts 39 = .ok (.iconst 0, 1) := by decide +kernel
theorem dX4_frosts_40 : decode cX4_frosts 40 = .ok (.istore_n 3, 1) := by decide +kernel
theorem dX4_frosts_41 : decode cX4_frosts 41 = .ok (.iload_n 3, 1) := by decide +kernel
theorem dX4_frosts_42 : decode cX4_frosts 42 = .ok (.iload_n 1, 1) := by decide +kernel
theorem dX4_frosts_43 : decode cX4_frosts 43 = .ok (.if_icmp .ge 42, 3) := by decide +kernel
theorem dX4_frosts_46 : decode cX4_frosts 46 = .ok (.aload_n 0, 1) := by decide +kernel
theorem dX4_frosts_47 : decode cX4_frosts 47 = .ok (.getfield 9, 3) := by decide +kernel
theorem dX4_frosts_50 : decode cX4_frosts 50 = .ok (.iconst 2, 1) := by decide +kernel
theorem dX4_frosts_51 : decode cX4_frosts 51 = .ok (.aload_n 0, 1) := by decide +kernel
theorem dX4_frosts_52 : decode cX4_frosts 52 = .ok (.invokevirtual 253, 3) := by decide +kernel
theorem dX4_frosts_55 : decode cX4_frosts 55 = .ok (.iconst 2, 1) := by decide +kernel
theorem dX4_frosts_56 : decode cX4_frosts 56 = .ok (.irem, 1) := by decide +kernel
theorem dX4_frosts_57 : decode cX4_frosts 57 = .ok (.iastore, 1) := by decide +kernel
theorem dX4_frosts_58 : decode cX4_frosts 58 = .ok (.aload_n 0, 1) := by decide +kernel
theorem dX4_frosts_59 : decode cX4_frosts 59 = .ok (.invokevirtual 146, 3) := by decide +kernel
theorem dX4_frosts_62 : decode cX4_frosts 62 = .ok (.iload_n 2, 1) := by decide +kernel
theorem dX4_frosts_63 : decode cX4_frosts 63 = .ok (.aload_n 0, 1) := by decide +kernel
theorem dX4_frosts_64 : decode cX4_frosts 64 = .ok (.bipush 15, 2) := by decide +kernel
theorem dX4_frosts_66 : decode cX4_frosts 66 = .ok (.invokevirtual 88, 3) := by decide +kernel
theorem dX4_frosts_69 : decode cX4_frosts 69 = .ok (.ifCond .eq 7, 3) := by decide +kernel
theorem dX4_frosts_72 : decode cX4_frosts 72 = .ok (.iconst 1, 1) := by decide +kernel
theorem dX4_frosts_73 : decode cX4_frosts 73 = .ok (.goto 4, 3) := by decide +kernel
theorem dX4_frosts_76 : decode cX4_frosts 76 = .ok (.iconst 0, 1) := by decide +kernel
theorem dX4_frosts_77 : decode cX4_frosts 77 = .ok (.iadd, 1) := by decide +kernel
theorem dX4_frosts_78 : decode cX4_frosts 78 = .ok (.istore_n 2, 1) := by decide +kernel
theorem dX4_frosts_79 : decode cX4_frosts 79 = .ok (.iinc 3 1, 3) := by decide +kernel
theorem dX4_frosts_82 : decode cX4_frosts 82 = .ok (.goto (-41), 3) := by decide +kernel
theorem dX4_frosts_85 : decode cX4_frosts 85 = .ok (.iload_n 2, 1) := by decide +kernel
theorem dX4_frosts_86 : decode cX4_frosts 86 = .ok (.ireturn, 1) := by decide +kernel
theorem dX4_odds_0 : decode cX4_odds 0 = .ok (.iload_n 1, 1) := by decide +kernel
theorem dX4_odds_1 : decode cX4_odds 1 = .ok (.i2l, 1) := by decide +kernel
theorem dX4_odds_2 : decode cX4_odds 2 = .ok (.lconst 0, 1) := by decide +kernel
theorem dX4_odds_3 : decode cX4_odds 3 = .ok (.ldc2_w 256, 3) := by decide +kernel
theorem dX4_odds_6 : decode cX4_odds 6 = .ok (.invokestatic 57, 3) := by decide +kernel
theorem dX4_odds_9 : decode cX4_odds 9 = .ok (.ifCond .eq 25, 3) := by decide +kernel
theorem dX4_odds_12 : decode cX4_odds 12 = .ok (.iload_n 2, 1) := by decide +kernel
theorem dX4_odds_13 : decode cX4_odds 13 = .ok (.i2l, 1) := by decide +kernel
theorem dX4_odds_14 : decode cX4_odds 14 = .ok (.lconst 0, 1) := by decide +kernel
theorem dX4_odds_15 : decode cX4_odds 15 = .ok (.ldc2_w 258, 3) := by decide +kernel
theorem dX4_odds_18 : decode cX4_odds 18 = .ok (.invokestatic 57, 3) := by decide +kernel
theorem dX4_odds_21 : decode cX4_odds 21 = .ok (.ifCond .eq 13, 3) := by decide +kernel
theorem dX4_odds_24 : decode cX4_odds 24 = .ok (.iload_n 3, 1) := by decide +kernel
theorem dX4_odds_25 : decode cX4_odds 25 = .ok (.i2l, 1) := by decide +kernel
theorem dX4_odds_26 : decode cX4_odds 26 = .ok (.lconst 0, 1) := by decide +kernel
theorem dX4_odds_27 : decode cX4_odds 27 = .ok (.lconst 1, 1) := by decide +kernel
theorem dX4_odds_28 : decode cX4_odds 28 = .ok (.invokestatic 57, 3) := by decide +kernel
theorem dX4_odds_31 : decode cX4_odds 31 = .ok (.ifCond .ne 10, 3) := by decide +kernel
theorem dX4_odds_34 : decode cX4_odds 34 = .ok (.aload_n 0, 1) := by decide +kernel
theorem dX4_odds_35 : decode cX4_odds 35 = .ok (.iconst 0, 1) := by decide +kernel
theorem dX4_odds_36 : decode cX4_odds 36 = .ok (.invokevirtual 82, 3) := by decide +kernel
theorem dX4_odds_39 : decode cX4_odds 39 = .ok (.i2l, 1) := by decide +kernel
theorem dX4_odds_40 : decode cX4_odds 40 = .ok (.lreturn, 1) := by decide +kernel
theorem dX4_odds_41 : decode cX4_odds 41 = .ok (.lconst 1, 1) := by decide +kernel
theorem dX4_odds_42 : decode cX4_odds 42 = .ok (.lstore 4, 2) := by decide +kernel
theorem dX4_odds_44 : decode cX4_odds 44 = .ok (.lconst 1, 1) := by decide +kernel
theorem dX4_odds_45 : decode cX4_odds 45 = .ok (.lstore 6, 2) := by decide +kernel
theorem dX4_odds_47 : decode cX4_odds 47 = .ok (.iconst 0, 1) := by decide +kernel
theorem dX4_odds_48 : decode cX4_odds 48 = .ok (.istore 8, 2) := by decide +kernel
theorem dX4_odds_50 : decode cX4_odds 50 = .ok (.iload 8, 2) := by decide +kernel
theorem dX4_odds_52 : decode cX4_odds 52 = .ok (.iload_n 1, 1) := by decide +kernel
theorem dX4_odds_53 : decode cX4_odds 53 = .ok (.if_icmp .ge 27, 3) := by decide +kernel
theorem dX4_odds_56 : decode cX4_odds 56 = .ok (.lload 4, 2) := by decide +kernel
theorem dX4_odds_58 : decode cX4_odds 58 = .ok (.bipush 10, 2) := by decide +kernel
theorem dX4_odds_60 : decode cX4_odds 60 = .ok (.iload_n 2, 1) := by decide +kernel
theorem dX4_odds_61 : decode cX4_odds 61 = .ok (.isub, 1) := by decide +kernel
theorem dX4_odds_62 : decode cX4_odds 62 = .ok (.i2l, 1) := by decide +kernel
theorem dX4_odds_63 : decode cX4_odds 63 = .ok (.lmul, 1) := by decide +kernel
theorem dX4_odds_64 : decode cX4_odds 64 = .ok (.lstore 4, 2) := by decide +kernel
theorem dX4_odds_66 : decode cX4_odds 66 = .ok (.lload 6, 2) := by decide +kernel
theorem dX4_odds_68 : decode cX4_odds 68 = .ok (.ldc2_w 258, 3) := by decide +kernel
theorem dX4_odds_71 : decode cX4_odds 71 = .ok (.lmul, 1) := by decide +kernel
theorem dX4_odds_72 : decode cX4_odds 72 = .ok (.lstore 6, 2) := by decide +kernel
theorem dX4_odds_74 : decode cX4_odds 74 = .ok (.iinc 8 1, 3) := by decide +kernel
theorem dX4_odds_77 : decode cX4_odds 77 = .ok (.goto (-27), 3) := by decide +kernel
theorem dX4_odds_80 : decode cX4_odds 80 = .ok (.lload 4, 2) := by decide +kernel
theorem dX4_odds_82 : decode cX4_odds 82 = .ok (.lstore 8, 2) := by decide +kernel
theorem dX4_odds_84 : decode cX4_odds 84 = .ok (.lload 6, 2) := by decide +kernel
theorem dX4_odds_86 : decode cX4_odds 86 = .ok (.lstore 10, 2) := by decide +kernel
theorem dX4_odds_88 : decode cX4_odds 88 = .ok (.lload 10, 2) := by decide +kernel
theorem dX4_odds_90 : decode cX4_odds 90 = .ok (.lconst 0, 1) := by decide +kernel
theorem dX4_odds_91 : decode cX4_odds 91 = .ok (.lcmp, 1) := by decide +kernel
theorem dX4_odds_92 : decode cX4_odds 92 = .ok (.ifCond .eq 21, 3) := by decide +kernel
theorem dX4_odds_95 : decode cX4_odds 95 = .ok (.lload 8, 2) := by decide +kernel
theorem dX4_odds_97 : decode cX4_odds 97 = .ok (.lload 10, 2) := by decide +kernel
theorem dX4_odds_99 : decode cX4_odds 99 = .ok (.lrem, 1) := by decide +kernel
theorem dX4_odds_100 : decode cX4_odds 100 = .ok (.lstore 12, 2) := by decide +kernel
theorem dX4_odds_102 : decode cX4_odds 102 = .ok (.lload 10, 2) := by decide +kernel
theorem dX4_odds_104 : decode cX4_odds 104 = .ok (.lstore 8, 2) := by decide +kernel
theorem dX4_odds_106 : decode cX4_odds 106 = .ok (.lload 12, 2) := by decide +kernel
theorem dX4_odds_108 : decode cX4_odds 108 = .ok (.lstore 10, 2) := by decide +kernel
theorem dX4_odds_110 : decode cX4_odds 110 = .ok (.goto (-22), 3) := by decide +kernel
theorem dX4_odds_113 : decode cX4_odds 113 = .ok (.iload_n 3, 1) := by decide +kernel
theorem dX4_odds_114 : decode cX4_odds 114 = .ok (.ifCond .ne 8, 3) := by decide +kernel
theorem dX4_odds_117 : decode cX4_odds 117 = .ok (.lload 4, 2) := by decide +kernel
theorem dX4_odds_119 : decode cX4_odds 119 = .ok (.goto 5, 3) := by decide +kernel
theorem dX4_odds_122 : decode cX4_odds 122 = .ok (.lload 6, 2) := by decide +kernel
theorem dX4_odds_124 : decode cX4_odds 124 = .ok (.lload 8, 2) := by decide +kernel
theorem dX4_odds_126 : decode cX4_odds 126 = .ok (.ldiv, 1) := by decide +kernel
theorem dX4_odds_127 : decode cX4_odds 127 = .ok (.lreturn, 1) := by decide +kernel
theorem dX4_seed_0 : decode cX4_seed 0 = .ok (.aload_n 0, 1) := by decide +kernel
theorem dX4_seed_1 : decode cX4_seed 1 = .ok (.iconst 4, 1) := by decide +kernel
theorem dX4_seed_2 : decode cX4_seed 2 = .ok (.iload_n 1, 1) := by decide +kernel
theorem dX4_seed_3 : decode cX4_seed 3 = .ok (.invokevirtual 99, 3) := by decide +kernel
theorem dX4_seed_6 : decode cX4_seed 6 = .ok (.ireturn, 1) := by decide +kernel
theorem dX4_feed_0 : decode cX4_feed 0 = .ok (.iload_n 2, 1) := by decide +kernel
theorem dX4_feed_1 : decode cX4_feed 1 = .ok (.i2l, 1) := by decide +kernel
theorem dX4_feed_2 : decode cX4_feed 2 = .ok (.lconst 1, 1) := by decide +kernel
theorem dX4_feed_3 : decode cX4_feed 3 = .ok (.ldc2_w 94, 3) := by decide +kernel
theorem dX4_feed_6 : decode cX4_feed 6 = .ok (.invokestatic 57, 3) := by decide +kernel
theorem dX4_feed_9 : decode cX4_feed 9 = .ok (.ifCond .ne 9, 3) := by decide +kernel
theorem dX4_feed_12 : decode cX4_feed 12 = .ok (.aload_n 0, 1) := by decide +kernel
theorem dX4_feed_13 : decode cX4_feed 13 = .ok (.iconst 0, 1) := by decide +kernel
theorem dX4_feed_14 : decode cX4_feed 14 = .ok (.invokevirtual 82, 3) := by decide +kernel
theorem dX4_feed_17 : decode cX4_feed 17 = .ok (.ireturn, 1) := by decide +kernel
theorem dX4_feed_18 : decode cX4_feed 18 = .ok (.aload_n 0, 1) := by decide +kernel
theorem dX4_feed_19 : decode cX4_feed 19 = .ok (.getfield 260, 3) := by decide +kernel
theorem dX4_feed_22 : decode cX4_feed 22 = .ok (.iload_n 2, 1) := by decide +kernel
theorem dX4_feed_23 : decode cX4_feed 23 = .ok (.iadd, 1) := by decide +kernel
theorem dX4_feed_24 : decode cX4_feed 24 = .ok (.bipush 120, 2) := by decide +kernel
theorem dX4_feed_26 : decode cX4_feed 26 = .ok (.if_icmp .le 9, 3) := by decide +kernel
theorem dX4_feed_29 : decode cX4_feed 29 = .ok (.aload_n 0, 1) := by decide +kernel
theorem dX4_feed_30 : decode cX4_feed 30 = .ok (.iconst 1, 1) := by decide +kernel
theorem dX4_feed_31 : decode cX4_feed 31 = .ok (.invokevirtual 82, 3) := by decide +kernel
theorem dX4_feed_34 : decode cX4_feed 34 = .ok (.ireturn, 1) := by decide +kernel
theorem dX4_feed_35 : decode cX4_feed 35 = .ok (.iload_n 2, 1) := by decide +kernel
theorem dX4_feed_36 : decode cX4_feed 36 = .ok (.iconst 1, 1) := by decide +kernel
theorem dX4_feed_37 : decode cX4_feed 37 = .ok (.isub, 1) := by decide +kernel
theorem dX4_feed_38 : decode cX4_feed 38 = .ok (.istore_n 3, 1) := by decide +kernel
theorem dX4_feed_39 : decode cX4_feed 39 = .ok (.iload_n 3, 1) := by decide +kernel
theorem dX4_feed_40 : decode cX4_feed 40 = .ok (.ifCond .lt 38, 3) := by decide +kernel
theorem dX4_feed_43 : decode cX4_feed 43 = .ok (.aload_n 0, 1) := by decide +kernel
theorem dX4_feed_44 : decode cX4_feed 44 = .ok (.getfield 25, 3) := by decide +kernel
theorem dX4_feed_47 : decode cX4_feed 47 = .ok (.aload_n 0, 1) := by decide +kernel
theorem dX4_feed_48 : decode cX4_feed 48 = .ok (.getfield 260, 3) := by decide +kernel
theorem dX4_feed_51 : decode cX4_feed 51 = .ok (.iload_n 1, 1) := by decide +kernel
theorem dX4_feed_52 : decode cX4_feed 52 = .ok (.bipush 8, 2) := by decide +kernel
theorem dX4_feed_54 : decode cX4_feed 54 = .ok (.iload_n 3, 1) := by decide +kernel
theorem dX4_feed_55 : decode cX4_feed 55 = .ok (.imul, 1) := by decide +kernel
theorem dX4_feed_56 : decode cX4_feed 56 = .ok (.ishr, 1) := by decide +kernel
theorem dX4_feed_57 : decode cX4_feed 57 = .ok (.sipush 255, 3) := by decide +kernel
theorem dX4_feed_60 : decode cX4_feed 60 = .ok (.iand, 1) := by decide +kernel
theorem dX4_feed_61 : decode cX4_feed 61 = .ok (.iastore, 1) := by decide +kernel
theorem dX4_feed_62 : decode cX4_feed 62 = .ok (.aload_n 0, 1) := by decide +kernel
theorem dX4_feed_63 : decode cX4_feed 63 = .ok (.dup, 1) := by decide +kernel
theorem dX4_feed_64 : decode cX4_feed 64 = .ok (.getfield 260, 3) := by decide +kernel
theorem dX4_feed_67 : decode cX4_feed 67 = .ok (.iconst 1, 1) := by decide +kernel
theorem dX4_feed_68 : decode cX4_feed 68 = .ok (.iadd, 1) := by decide +kernel
theorem dX4_feed_69 : decode cX4_feed 69 = .ok (.putfield 260, 3) := by decide +kernel
theorem dX4_feed_72 : decode cX4_feed 72 = .ok (.iinc 3 (-1), 3) := by decide +kernel
theorem dX4_feed_75 : decode cX4_feed 75 = .ok (.goto (-36), 3) := by decide +kernel
theorem dX4_feed_78 : decode cX4_feed 78 = .ok (.aload_n 0, 1) := by decide +kernel
theorem dX4_feed_79 : decode cX4_feed 79 = .ok (.getfield 260, 3) := by decide +kernel
theorem dX4_feed_82 : decode cX4_feed 82 = .ok (.ireturn, 1) := by decide +kernel
theorem dX4_wipe_0 : decode cX4_wipe 0 = .ok (.aload_n 0, 1) := by decide +kernel
theorem dX4_wipe_1 : decode cX4_wipe 1 = .ok (.getfield 260, 3) := by decide +kernel
theorem dX4_wipe_4 : decode cX4_wipe 4 = .ok (.istore_n 1, 1) := by decide +kernel
theorem dX4_wipe_5 : decode cX4_wipe 5 = .ok (.aload_n 0, 1) := by decide +kernel
theorem dX4_wipe_6 : decode cX4_wipe 6 = .ok (.iconst 0, 1) := by decide +kernel
theorem dX4_wipe_7 : decode cX4_wipe 7 = .ok (.putfield 260, 3) := by decide +kernel
theorem dX4_wipe_10 : decode cX4_wipe 10 = .ok (.iload_n 1, 1) := by decide +kernel
theorem dX4_wipe_11 : decode cX4_wipe 11 = .ok (.ireturn, 1) := by decide +kernel
theorem dX4_isByte_0 : decode cX4_isByte 0 = .ok (.iload_n 1, 1) := by decide +kernel
theorem dX4_isByte_1 : decode cX4_isByte 1 = .ok (.aload_n 0, 1) := by decide +kernel
theorem dX4_isByte_2 : decode cX4_isByte 2 = .ok (.getfield 260, 3) := by decide +kernel
theorem dX4_isByte_5 : decode cX4_isByte 5 = .ok (.if_icmp .ge 24, 3) := by decide +kernel
theorem dX4_isByte_8 : decode cX4_isByte 8 = .ok (.aload_n 0, 1) := by decide +kernel
theorem dX4_isByte_9 : decode cX4_isByte 9 = .ok (.getfield 25, 3) := by decide +kernel
theorem dX4_isByte_12 : decode cX4_isByte 12 = .ok (.iload_n 1, 1) := by decide +kernel
theorem dX4_isByte_13 : decode cX4_isByte 13 = .ok (.iaload, 1) := by decide +kernel
theorem dX4_isByte_14 : decode cX4_isByte 14 = .ok (.i2l, 1) := by decide +kernel
theorem dX4_isByte_15 : decode cX4_isByte 15 = .ok (.iload_n 2, 1) := by decide +kernel
theorem dX4_isByte_16 : decode cX4_isByte 16 = .ok (.i2l, 1) := by decide +kernel
theorem dX4_isByte_17 : decode cX4_isByte 17 = .ok (.iload_n 3, 1) := by decide +kernel
theorem dX4_isByte_18 : decode cX4_isByte 18 = .ok (.i2l, 1) := by decide +kernel
theorem dX4_isByte_19 : decode cX4_isByte 19 = .ok (.invokestatic 57, 3) := by decide +kernel
theorem dX4_isByte_22 : decode cX4_isByte 22 = .ok (.ifCond .eq 7, 3) := by decide +kernel
theorem dX4_isByte_25 : decode cX4_isByte 25 = .ok (.iconst 1, 1) := by decide +kernel
theorem dX4_isByte_26 : decode cX4_isByte 26 = .ok (.goto 4, 3) := by decide +kernel
theorem dX4_isByte_29 : decode cX4_isByte 29 = .ok (.iconst 0, 1) := by decide +kernel
theorem dX4_isByte_30 : decode cX4_isByte 30 = .ok (.ireturn, 1) := by decide +kernel
theorem dX4_next_0 : decode cX4_next 0 = .ok (.aload_n 0, 1) := by decide +kernel
theorem dX4_next_1 : decode cX4_next 1 = .ok (.aload_n 0, 1) := by decide +kernel
theorem dX4_next_2 : decode cX4_next 2 = .ok (.getfield 263, 3) := by decide +kernel
theorem dX4_next_5 : decode cX4_next 5 = .ok (.putfield 266, 3) := by decide +kernel
theorem dX4_next_8 : decode cX4_next 8 = .ok (.aload_n 0, 1) := by decide +kernel
theorem dX4_next_9 : decode cX4_next 9 = .ok (.aload_n 0, 1) := by decide +kernel
theorem dX4_next_10 : decode cX4_next 10 = .ok (.getfield 266, 3) := by decide +kernel
theorem dX4_next_13 : decode cX4_next 13 = .ok (.bipush 32, 2) := by decide +kernel
theorem dX4_next_15 : decode cX4_next 15 = .ok (.bipush 32, 2) := by decide +kernel
theorem dX4_next_17 : decode cX4_next 17 = .ok (.invokevirtual 269, 3) := by decide +kernel
theorem dX4_next_20 : decode cX4_next 20 = .ok (.ifCond .eq 16, 3) := by decide +kernel
theorem dX4_next_23 : decode cX4_next 23 = .ok (.aload_n 0, 1) := by decide +kernel
theorem dX4_next_24 : decode cX4_next 24 = .ok (.dup, 1) := by decide +kernel
theorem dX4_next_25 : decode cX4_next 25 = .ok (.getfield 266, 3) := by decide +kernel
theorem dX4_next_28 : decode cX4_next 28 = .ok (.iconst 1, 1) := by decide +kernel
theorem dX4_next_29 : decode cX4_next 29 = .ok (.iadd, 1) := by decide +kernel
theorem dX4_next_30 : decode cX4_next 30 = .ok (.putfield 266, 3) := by decide +kernel
theorem dX4_next_33 : decode cX4_next 33 = .ok (.goto (-25), 3) := by decide +kernel
theorem dX4_next_36 : decode cX4_next 36 = .ok (.aload_n 0, 1) := by decide +kernel
theorem dX4_next_37 : decode cX4_next 37 = .ok (.aload_n 0, 1) := by decide +kernel
theorem dX4_next_38 : decode cX4_next 38 = .ok (.getfield 266, 3) := by decide +kernel
theorem dX4_next_41 : decode cX4_next 41 = .ok (.putfield 263, 3) := by decide +kernel
theorem dX4_next_44 : decode cX4_next 44 = .ok (.aload_n 0, 1) := by decide +kernel
theorem dX4_next_45 : decode cX4_next 45 = .ok (.aload_n 0, 1) := by decide +kernel
theorem dX4_next_46 : decode cX4_next 46 = .ok (.getfield 266, 3) := by decide +kernel
theorem dX4_next_49 : decode cX4_next 49 = .ok (.bipush 97, 2) := by decide +kernel
theorem dX4_next_51 : decode cX4_next 51 = .ok (.bipush 122, 2) := by decide +kernel
theorem dX4_next_53 : decode cX4_next 53 = .ok (.invokevirtual 269, 3) := by decide +kernel
theorem dX4_next_56 : decode cX4_next 56 = .ok (.istore_n 1, 1) := by decide +kernel
theorem dX4_next_57 : decode cX4_next 57 = .ok (.aload_n 0, 1) := by decide +kernel
theorem dX4_next_58 : decode cX4_next 58 = .ok (.aload_n 0, 1) := by decide +kernel
theorem dX4_next_59 : decode cX4_next 59 = .ok (.getfield 266, 3) := by decide +kernel
theorem dX4_next_62 : decode cX4_next 62 = .ok (.bipush 48, 2) := by decide +kernel
theorem dX4_next_64 : decode cX4_next 64 = .ok (.bipush 57, 2) := by decide +kernel
theorem dX4_next_66 : decode cX4_next 66 = .ok (.invokevirtual 269, 3) := by decide +kernel
theorem dX4_next_69 : decode cX4_next 69 = .ok (.istore_n 2, 1) := by decide +kernel
theorem dX4_next_70 : decode cX4_next 70 = .ok (.iload_n 1, 1) := by decide +kernel
theorem dX4_next_71 : decode cX4_next 71 = .ok (.ifCond .eq 18, 3) := by decide +kernel
theorem dX4_next_74 : decode cX4_next 74 = .ok (.aload_n 0, 1) := by decide +kernel
theorem dX4_next_75 : decode cX4_next 75 = .ok (.aload_n 0, 1) := by decide +kernel
theorem dX4_next_76 : decode cX4_next 76 = .ok (.getfield 263, 3) := by decide +kernel
theorem dX4_next_79 : decode cX4_next 79 = .ok (.bipush 97, 2) := by decide +kernel
theorem dX4_next_81 : decode cX4_next 81 = .ok (.bipush 122, 2) := by decide +kernel
theorem dX4_next_83 : decode cX4_next 83 = .ok (.invokevirtual 269, 3) := by decide +kernel
theorem dX4_next_86 : decode cX4_next 86 = .ok (.ifCond .ne 22, 3) := by decide +kernel
theorem dX4_next_89 : decode cX4_next 89 = .ok (.iload_n 2, 1) := by decide +kernel
theorem dX4_next_90 : decode cX4_next 90 = .ok (.ifCond .eq 31, 3) := by decide +kernel
theorem dX4_next_93 : decode cX4_next 93 = .ok (.aload_n 0, 1) := by decide +kernel
theorem dX4_next_94 : decode cX4_next 94 = .ok (.aload_n 0, 1) := by decide +kernel
theorem dX4_next_95 : decode cX4_next 95 = .ok (.getfield 263, 3) := by decide +kernel
theorem dX4_next_98 : decode cX4_next 98 = .ok (.bipush 48, 2) := by decide +kernel
theorem dX4_next_100 : decode cX4_next 100 = .ok (.bipush 57, 2) := by decide +kernel
theorem dX4_next_102 : decode cX4_next 102 = .ok (.invokevirtual 269, 3) := by decide +kernel
theorem dX4_next_105 : decode cX4_next 105 = .ok (.ifCond .eq 16, 3) := by decide +kernel
theorem dX4_next_108 : decode cX4_next 108 = .ok (.aload_n 0, 1) := by decide +kernel
theorem dX4_next_109 : decode cX4_next 109 = .ok (.dup, 1) := by decide +kernel
theorem dX4_next_110 : decode cX4_next 110 = .ok (.getfield 263, 3) := by decide +kernel
theorem dX4_next_113 : decode cX4_next 113 = .ok (.iconst 1, 1) := by decide +kernel
theorem dX4_next_114 : decode cX4_next 114 = .ok (.iadd, 1) := by decide +kernel
theorem dX4_next_115 : decode cX4_next 115 = .ok (.putfield 263, 3) := by decide +kernel
theorem dX4_next_118 : decode cX4_next 118 = .ok (.goto (-48), 3) := by decide +kernel
theorem dX4_next_121 : decode cX4_next 121 = .ok (.aload_n 0, 1) := by decide +kernel
theorem dX4_next_122 : decode cX4_next 122 = .ok (.dup, 1) := by decide +kernel
theorem dX4_next_123 : decode cX4_next 123 = .ok (.getfield 263, 3) := by decide +kernel
theorem dX4_next_126 : decode cX4_next 126 = .ok (.iload_n 1, 1) := by decide +kernel
theorem dX4_next_127 : decode cX4_next 127 = .ok (.ifCond .ne 22, 3) := by decide +kernel
theorem dX4_next_130 : decode cX4_next 130 = .ok (.iload_n 2, 1) := by decide +kernel
theorem dX4_next_131 : decode cX4_next 131 = .ok (.ifCond .ne 18, 3) := by decide +kernel
theorem dX4_next_134 : decode cX4_next 134 = .ok (.aload_n 0, 1) := by decide +kernel
theorem dX4_next_135 : decode cX4_next 135 = .ok (.getfield 266, 3) := by decide +kernel
theorem dX4_next_138 : decode cX4_next 138 = .ok (.aload_n 0, 1) := by decide +kernel
theorem dX4_next_139 : decode cX4_next 139 = .ok (.getfield 260, 3) := by decide +kernel
theorem dX4_next_142 : decode cX4_next 142 = .ok (.if_icmp .ge 7, 3) := by decide +kernel
theorem dX4_next_145 : decode cX4_next 145 = .ok (.iconst 1, 1) := by decide +kernel
theorem dX4_next_146 : decode cX4_next 146 = .ok (.goto 4, 3) := by decide +kernel
theorem dX4_next_149 : decode cX4_next 149 = .ok (.iconst 0, 1) := by decide +kernel
theorem dX4_next_150 : decode cX4_next 150 = .ok (.iadd, 1) := by decide +kernel
theorem dX4_next_151 : decode cX4_next 151 = .ok (.putfield 263, 3) := by decide +kernel
theorem dX4_next_154 : decode cX4_next 154 = .ok (.return_, 1) := by decide +kernel
theorem dX4_isWord_0 : decode cX4_isWord 0 = .ok (.aload_n 0, 1) := by decide +kernel
theorem dX4_isWord_1 : decode cX4_isWord 1 = .ok (.getfield 272, 3) := by decide +kernel
theorem dX4_isWord_4 : decode cX4_isWord 4 = .ok (.ifCond .ne 23, 3) := by decide +kernel
theorem dX4_isWord_7 : decode cX4_isWord 7 = .ok (.aload_n 0, 1) := by decide +kernel
theorem dX4_isWord_8 : decode cX4_isWord 8 = .ok (.getfield 263, 3) := by decide +kernel
theorem dX4_isWord_11 : decode cX4_isWord 11 = .ok (.aload_n 0, 1) := by decide +kernel
theorem dX4_isWord_12 : decode cX4_isWord 12 = .ok (.getfield 266, 3) := by decide +kernel
theorem dX4_isWord_15 : decode cX4_isWord 15 = .ok (.isub, 1) := by decide +kernel
theorem dX4_isWord_16 : decode cX4_isWord 16 = .ok (.aload_n 1, 1) := by decide +kernel
theorem dX4_isWord_17 : decode cX4_isWord 17 = .ok (.invokevirtual 276, 3) := by decide +kernel
theorem dX4_isWord_20 : decode cX4_isWord 20 = .ok (.if_icmp .ne 7, 3) := by decide +kernel
theorem dX4_isWord_23 : decode cX4_isWord 23 = .ok (.iconst 1, 1) := by decide +kernel
theorem dX4_isWord_24 : decode cX4_isWord 24 = .ok (.goto 4, 3) := by decide +kernel
theorem dX4_isWord_27 : decode cX4_isWord 27 = .ok (.iconst 0, 1) := by decide +kernel
theorem dX4_isWord_28 : decode cX4_isWord 28 = .ok (.istore_n 2, 1) := by decide +kernel
theorem dX4_isWord_29 : decode cX4_isWord 29 = .ok (.iconst 0, 1) := by decide +kernel
theorem dX4_isWord_30 : decode cX4_isWord 30 = .ok (.istore_n 3, 1) := by decide +kernel
theorem dX4_isWord_31 : decode cX4_isWord 31 = .ok (.iload_n 2, 1) := by decide +kernel
theorem dX4_isWord_32 : decode cX4_isWord 32 = .ok (.ifCond .eq 42, 3) := by decide +kernel
theorem dX4_isWord_35 : decode cX4_isWord 35 = .ok (.iload_n 3, 1) := by decide +kernel
theorem dX4_isWord_36 : decode cX4_isWord 36 = .ok (.aload_n 1, 1) := by decide +kernel
theorem dX4_isWord_37 : decode cX4_isWord 37 = .ok (.invokevirtual 276, 3) := by decide +kernel
theorem dX4_isWord_40 : decode cX4_isWord 40 = .ok (.if_icmp .ge 34, 3) := by decide +kernel
theorem dX4_isWord_43 : decode cX4_isWord 43 = .ok (.aload_n 0, 1) := by decide +kernel
theorem dX4_isWord_44 : decode cX4_isWord 44 = .ok (.getfield 25, 3) := by decide +kernel
theorem dX4_isWord_47 : decode cX4_isWord 47 = .ok (.aload_n 0, 1) := by decide +kernel
theorem dX4_isWord_48 : decode cX4_isWord 48 = .ok (.getfield 266, 3) := by decide +kernel
theorem dX4_isWord_51 : decode cX4_isWord 51 = .ok (.iload_n 3, 1) := by decide +kernel
theorem dX4_isWord_52 : decode cX4_isWord 52 = .ok (.iadd, 1) := by decide +kernel
theorem dX4_isWord_53 : decode cX4_isWord 53 = .ok (.iaload, 1) := by decide +kernel
theorem dX4_isWord_54 : decode cX4_isWord 54 = .ok (.aload_n 1, 1) := by decide +kernel
theorem dX4_isWord_55 : decode cX4_isWord 55 = .ok (.iload_n 3, 1) := by decide +kernel
theorem dX4_isWord_56 : decode cX4_isWord 56 = .ok (.invokevirtual 281, 3) := by decide +kernel
theorem dX4_isWord_59 : decode cX4_isWord 59 = .ok (.if_icmp .ne 7, 3) := by decide +kernel
theorem dX4_isWord_62 : decode cX4_isWord 62 = .ok (.iconst 1, 1) := by decide +kernel
theorem dX4_isWord_63 : decode cX4_isWord 63 = .ok (.goto 4, 3) := by decide +kernel
theorem dX4_isWord_66 : decode cX4_isWord 66 = .ok (.iconst 0, 1) := by decide +kernel
theorem dX4_isWord_67 : decode cX4_isWord 67 = .ok (.istore_n 2, 1) := by decide +kernel
theorem dX4_isWord_68 : decode cX4_isWord 68 = .ok (.iinc 3 1, 3) := by decide +kernel
theorem dX4_isWord_71 : decode cX4_isWord 71 = .ok (.goto (-40), 3) := by decide +kernel
theorem dX4_isWord_74 : decode cX4_isWord 74 = .ok (.iload_n 2, 1) := by decide +kernel
theorem dX4_isWord_75 : decode cX4_isWord 75 = .ok (.ireturn, 1) := by decide +kernel
theorem dX4_must_0 : decode cX4_must 0 = .ok (.aload_n 0, 1) := by decide +kernel
theorem dX4_must_1 : decode cX4_must 1 = .ok (.aload_n 0, 1) := by decide +kernel
theorem dX4_must_2 : decode cX4_must 2 = .ok (.getfield 272, 3) := by decide +kernel
theorem dX4_must_5 : decode cX4_must 5 = .ok (.ifCond .ne 7, 3) := by decide +kernel
theorem dX4_must_8 : decode cX4_must 8 = .ok (.iload_n 1, 1) := by decide +kernel
theorem dX4_must_9 : decode cX4_must 9 = .ok (.ifCond .ne 7, 3) := by decide +kernel
theorem dX4_must_12 : decode cX4_must 12 = .ok (.iconst 1, 1) := by decide +kernel
theorem dX4_must_13 : decode cX4_must 13 = .ok (.goto 4, 3) := by decide +kernel
theorem dX4_must_16 : decode cX4_must 16 = .ok (.iconst 0, 1) := by decide +kernel
theorem dX4_must_17 : decode cX4_must 17 = .ok (.putfield 272, 3) := by decide +kernel
theorem dX4_must_20 : decode cX4_must 20 = .ok (.aload_n 0, 1) := by decide +kernel
theorem dX4_must_21 : decode cX4_must 21 = .ok (.getfield 272, 3) := by decide +kernel
theorem dX4_must_24 : decode cX4_must 24 = .ok (.ifCond .ne 7, 3) := by decide +kernel
theorem dX4_must_27 : decode cX4_must 27 = .ok (.aload_n 0, 1) := by decide +kernel
theorem dX4_must_28 : decode cX4_must 28 = .ok (.invokevirtual 285, 3) := by decide +kernel
theorem dX4_must_31 : decode cX4_must 31 = .ok (.return_, 1) := by decide +kernel
theorem dX4_takes_0 : decode cX4_takes 0 = .ok (.aload_n 0, 1) := by decide +kernel
theorem dX4_takes_1 : decode cX4_takes 1 = .ok (.aload_n 1, 1) := by decide +kernel
theorem dX4_takes_2 : decode cX4_takes 2 = .ok (.invokevirtual 288, 3) := by decide +kernel
theorem dX4_takes_5 : decode cX4_takes 5 = .ok (.istore_n 2, 1) := by decide +kernel
theorem dX4_takes_6 : decode cX4_takes 6 = .ok (.iload_n 2, 1) := by decide +kernel
theorem dX4_takes_7 : decode cX4_takes 7 = .ok (.ifCond .eq 7, 3) := by decide +kernel
theorem dX4_takes_10 : decode cX4_takes 10 = .ok (.aload_n 0, 1) := by decide +kernel
theorem dX4_takes_11 : decode cX4_takes 11 = .ok (.invokevirtual 285, 3) := by decide +kernel
theorem dX4_takes_14 : decode cX4_takes 14 = .ok (.iload_n 2, 1) := by decide +kernel
theorem dX4_takes_15 : decode cX4_takes 15 = .ok (.ireturn, 1) := by decide +kernel
theorem dX4_numberRead_0 : decode cX4_numberRead 0 = .ok (.aload_n 0, 1) := by decide +kernel
theorem dX4_numberRead_1 : decode cX4_numberRead 1 = .ok (.aload_n 0, 1) := by decide +kernel
theorem dX4_numberRead_2 : decode cX4_numberRead 2 = .ok (.getfield 266, 3) := by decide +kernel
theorem dX4_numberRead_5 : decode cX4_numberRead 5 = .ok (.bipush 48, 2) := by decide +kernel
theorem dX4_numberRead_7 : decode cX4_numberRead 7 = .ok (.bipush 57, 2) := by decide +kernel
theorem dX4_numberRead_9 : decode cX4_numberRead 9 = .ok (.invokevirtual 269, 3) := by decide +kernel
theorem dX4_numberRead_12 : decode cX4_numberRead 12 = .ok (.ifCond .eq 7, 3) := by decide +kernel
theorem dX4_numberRead_15 : decode cX4_numberRead 15 = .ok (.iconst 0, 1) := by decide +kernel
theorem dX4_numberRead_16 : decode cX4_numberRead 16 = .ok (.goto 4, 3) := by decide +kernel
theorem dX4_numberRead_19 : decode cX4_numberRead 19 = .ok (.iconst (-1), 1) := by decide +kernel
theorem dX4_numberRead_20 : decode cX4_numberRead 20 = .ok (.istore_n 3, 1) := by decide +kernel
theorem dX4_numberRead_21 : decode cX4_numberRead 21 = .ok (.aload_n 0, 1) := by decide +kernel
theorem dX4_numberRead_22 : decode cX4_numberRead 22 = .ok (.getfield 266, 3) := by decide +kernel
theorem dX4_numberRead_25 : decode cX4_numberRead 25 = .ok (.istore 4, 2) := by decide +kernel
theorem dX4_numberRead_27 : decode cX4_numberRead 27 = .ok (.iload 4, 2) := by decide +kernel
theorem dX4_numberRead_29 : decode cX4_numberRead 29 = .ok (.aload_n 0, 1) := by decide +kernel
theorem dX4_numberRead_30 : decode cX4_numberRead 30 = .ok (.getfield 263, 3) := by decide +kernel
theorem dX4_numberRead_33 : decode cX4_numberRead 33 = .ok (.if_icmp .ge 39, 3) := by decide +kernel
theorem dX4_numberRead_36 : decode cX4_numberRead 36 = .ok (.iload_n 3, 1) := by decide +kernel
theorem dX4_numberRead_37 : decode cX4_numberRead 37 = .ok (.ifCond .lt 35, 3) := by decide +kernel
theorem dX4_numberRead_40 : decode cX4_numberRead 40 = .ok (.iload_n 3, 1) := by decide +kernel
theorem dX4_numberRead_41 : decode cX4_numberRead 41 = .ok (.ldc 151, 2) := by decide +kernel
theorem dX4_numberRead_43 : decode cX4_numberRead 43 = .ok (.if_icmp .le 7, 3) := by decide +kernel
theorem dX4_numberRead_46 : decode cX4_numberRead 46 = .ok (.iload_n 3, 1) := by decide +kernel
theorem dX4_numberRead_47 : decode cX4_numberRead 47 = .ok (.goto 18, 3) := by decide +kernel
theorem dX4_numberRead_50 : decode cX4_numberRead 50 = .ok (.bipush 10, 2) := by decide +kernel
theorem dX4_numberRead_52 : decode cX4_numberRead 52 = .ok (.iload_n 3, 1) := by decide +kernel
theorem dX4_numberRead_53 : decode cX4_numberRead 53 = .ok (.imul, 1) := by decide +kernel
theorem dX4_numberRead_54 : decode cX4_numberRead 54 = .ok (.aload_n 0, 1) := by decide +kernel
theorem dX4_numberRead_55 : decode cX4_numberRead 55 = .ok (.getfield 25, 3) := by decide +kernel
theorem dX4_numberRead_58 : decode cX4_numberRead 58 = .ok (.iload 4, 2) := by decide +kernel
theorem dX4_numberRead_60 : decode cX4_numberRead 60 = .ok (.iaload, 1) := by decide +kernel
theorem dX4_numberRead_61 : decode cX4_numberRead 61 = .ok (.iadd, 1) := by decide +kernel
theorem dX4_numberRead_62 : decode cX4_numberRead 62 = .ok (.bipush 48, 2) := by decide +kernel
theorem dX4_numberRead_64 : decode cX4_numberRead 64 = .ok (.isub, 1) := by decide +kernel
theorem dX4_numberRead_65 : decode cX4_numberRead 65 = .ok (.istore_n 3, 1) := by decide +kernel
theorem dX4_numberRead_66 : decode cX4_numberRead 66 = .ok (.iinc 4 1, 3) := by decide +kernel
theorem dX4_numberRead_69 : decode cX4_numberRead 69 = .ok (.goto (-42), 3) := by decide +kernel
theorem dX4_numberRead_72 : decode cX4_numberRead 72 = .ok (.aload_n 0, 1) := by decide +kernel
theorem dX4_numberRead_73 : decode cX4_numberRead 73 = .ok (.iload_n 3, 1) := by decide +kernel
theorem dX4_numberRead_74 : decode cX4_numberRead 74 = .ok (.i2l, 1) := by decide +kernel
theorem dX4_numberRead_75 : decode cX4_numberRead 75 = .ok (.iload_n 1, 1) := by decide +kernel
theorem dX4_numberRead_76 : decode cX4_numberRead 76 = .ok (.i2l, 1) := by decide +kernel
theorem dX4_numberRead_77 : decode cX4_numberRead 77 = .ok (.iload_n 2, 1) := by decide +kernel
theorem dX4_numberRead_78 : decode cX4_numberRead 78 = .ok (.i2l, 1) := by decide +kernel
theorem dX4_numberRead_79 : decode cX4_numberRead 79 = .ok (.invokestatic 57, 3) := by decide +kernel
theorem dX4_numberRead_82 : decode cX4_numberRead 82 = .ok (.invokevirtual 292, 3) := by decide +kernel
theorem dX4_numberRead_85 : decode cX4_numberRead 85 = .ok (.iload_n 3, 1) := by decide +kernel
theorem dX4_numberRead_86 : decode cX4_numberRead 86 = .ok (.ireturn, 1) := by decide +kernel
theorem dX4_kindHere_0 : decode cX4_kindHere 0 = .ok (.aload_n 0, 1) := by decide +kernel
theorem dX4_kindHere_1 : decode cX4_kindHere 1 = .ok (.ldc_w 296, 3) := by decide +kernel
theorem dX4_kindHere_4 : decode cX4_kindHere 4 = .ok (.invokevirtual 288, 3) := by decide +kernel
theorem dX4_kindHere_7 : decode cX4_kindHere 7 = .ok (.ifCond .eq 7, 3) := by decide +kernel
theorem dX4_kindHere_10 : decode cX4_kindHere 10 = .ok (.iconst 0, 1) := by decide +kernel
theorem dX4_kindHere_11 : decode cX4_kindHere 11 = .ok (.goto 32, 3) := by decide +kernel
theorem dX4_kindHere_14 : decode cX4_kindHere 14 = .ok (.aload_n 0, 1) := by decide +kernel
theorem dX4_kindHere_15 : decode cX4_kindHere 15 = .ok (.ldc_w 298, 3) := by decide +kernel
theorem dX4_kindHere_18 : decode cX4_kindHere 18 = .ok (.invokevirtual 288, 3) := by decide +kernel
theorem dX4_kindHere_21 : decode cX4_kindHere 21 = .ok (.ifCond .eq 7, 3) := by decide +kernel
theorem dX4_kindHere_24 : decode cX4_kindHere 24 = .ok (.iconst 1, 1) := by decide +kernel
theorem dX4_kindHere_25 : decode cX4_kindHere 25 = .ok (.goto 18, 3) := by decide +kernel
theorem dX4_kindHere_28 : decode cX4_kindHere 28 = .ok (.aload_n 0, 1) := by decide +kernel
theorem dX4_kindHere_29 : decode cX4_kindHere 29 = .ok (.ldc_w 300, 3) := by decide +kernel
theorem dX4_kindHere_32 : decode cX4_kindHere 32 = .ok (.invokevirtual 288, 3) := by decide +kernel
theorem dX4_kindHere_35 : decode cX4_kindHere 35 = .ok (.ifCond .eq 7, 3) := by decide +kernel
theorem dX4_kindHere_38 : decode cX4_kindHere 38 = .ok (.iconst 2, 1) := by decide +kernel
theorem dX4_kindHere_39 : decode cX4_kindHere 39 = .ok (.goto 4, 3) := by decide +kernel
theorem dX4_kindHere_42 : decode cX4_kindHere 42 = .ok (.iconst (-1), 1) := by decide +kernel
theorem dX4_kindHere_43 : decode cX4_kindHere 43 = .ok (.istore_n 1, 1) := by decide +kernel
theorem dX4_kindHere_44 : decode cX4_kindHere 44 = .ok (.aload_n 0, 1) := by decide +kernel
theorem dX4_kindHere_45 : decode cX4_kindHere 45 = .ok (.ldc_w 302, 3) := by decide +kernel
theorem dX4_kindHere_48 : decode cX4_kindHere 48 = .ok (.invokevirtual 288, 3) := by decide +kernel
theorem dX4_kindHere_51 : decode cX4_kindHere 51 = .ok (.ifCond .eq 7, 3) := by decide +kernel
theorem dX4_kindHere_54 : decode cX4_kindHere 54 = .ok (.iconst 3, 1) := by decide +kernel
theorem dX4_kindHere_55 : decode cX4_kindHere 55 = .ok (.goto 32, 3) := by decide +kernel
theorem dX4_kindHere_58 : decode cX4_kindHere 58 = .ok (.aload_n 0, 1) := by decide +kernel
theorem dX4_kindHere_59 : decode cX4_kindHere 59 = .ok (.ldc_w 304, 3) := by decide +kernel
theorem dX4_kindHere_62 : decode cX4_kindHere 62 = .ok (.invokevirtual 288, 3) := by decide +kernel
theorem dX4_kindHere_65 : decode cX4_kindHere 65 = .ok (.ifCond .eq 7, 3) := by decide +kernel
theorem dX4_kindHere_68 : decode cX4_kindHere 68 = .ok (.iconst 4, 1) := by decide +kernel
theorem dX4_kindHere_69 : decode cX4_kindHere 69 = .ok (.goto 18, 3) := by decide +kernel
theorem dX4_kindHere_72 : decode cX4_kindHere 72 = .ok (.aload_n 0, 1) := by decide +kernel
theorem dX4_kindHere_73 : decode cX4_kindHere 73 = .ok (.ldc_w 306, 3) := by decide +kernel
theorem dX4_kindHere_76 : decode cX4_kindHere 76 = .ok (.invokevirtual 288, 3) := by decide +kernel
theorem dX4_kindHere_79 : decode cX4_kindHere 79 = .ok (.ifCond .eq 7, 3) := by decide +kernel
theorem dX4_kindHere_82 : decode cX4_kindHere 82 = .ok (.iconst 5, 1) := by decide +kernel
theorem dX4_kindHere_83 : decode cX4_kindHere 83 = .ok (.goto 4, 3) := by decide +kernel
theorem dX4_kindHere_86 : decode cX4_kindHere 86 = .ok (.iconst (-1), 1) := by decide +kernel
theorem dX4_kindHere_87 : decode cX4_kindHere 87 = .ok (.istore_n 2, 1) := by decide +kernel
theorem dX4_kindHere_88 : decode cX4_kindHere 88 = .ok (.iload_n 1, 1) := by decide +kernel
theorem dX4_kindHere_89 : decode cX4_kindHere 89 = .ok (.ifCond .lt 7, 3) := by decide +kernel
theorem dX4_kindHere_92 : decode cX4_kindHere 92 = .ok (.iload_n 1, 1) := by decide +kernel
theorem dX4_kindHere_93 : decode cX4_kindHere 93 = .ok (.goto 27, 3) := by decide +kernel
theorem dX4_kindHere_96 : decode cX4_kindHere 96 = .ok (.iload_n 2, 1) := by decide +kernel
theorem dX4_kindHere_97 : decode cX4_kindHere 97 = .ok (.ifCond .lt 7, 3) := by decide +kernel
theorem dX4_kindHere_100 : decode cX4_kindHere 100 = .ok (.iload_n 2, 1) := by decide +kernel
theorem dX4_kindHere_101 : decode cX4_kindHere 101 = .ok (.goto 19, 3) := by decide +kernel
theorem dX4_kindHere_104 : decode cX4_kindHere 104 = .ok (.aload_n 0, 1) := by decide +kernel
theorem dX4_kindHere_105 : decode cX4_kindHere 105 = .ok (.ldc_w 308, 3) := by decide +kernel
theorem dX4_kindHere_108 : decode cX4_kindHere 108 = .ok (.invokevirtual 288, 3) := by decide +kernel
theorem dX4_kindHere_111 : decode cX4_kindHere 111 = .ok (.ifCond .eq 8, 3) := by decide +kernel
theorem dX4_kindHere_114 : decode cX4_kindHere 114 = .ok (.bipush 6, 2) := by decide +kernel
theorem dX4_kindHere_116 : decode cX4_kindHere 116 = .ok (.goto 4, 3) := by decide +kernel
theorem dX4_kindHere_119 : decode cX4_kindHere 119 = .ok (.iconst (-1), 1) := by decide +kernel
theorem dX4_kindHere_120 : decode cX4_kindHere 120 = .ok (.ireturn, 1) := by decide +kernel
theorem dX4_whisperTold_0 : decode cX4_whisperTold 0 = .ok (.aload_n 0, 1) := by decide +kernel
theorem dX4_whisperTold_1 : decode cX4_whisperTold 1 = .ok (.aload_n 0, 1) := by decide +kernel
theorem dX4_whisperTold_2 : decode cX4_whisperTold 2 = .ok (.getfield 9, 3) := by decide +kernel
theorem dX4_whisperTold_5 : decode cX4_whisperTold 5 = .ok (.iconst 1, 1) := by decide +kernel
theorem dX4_whisperTold_6 : decode cX4_whisperTold 6 = .ok (.iaload, 1) := by decide +kernel
theorem dX4_whisperTold_7 : decode cX4_whisperTold 7 = .ok (.bipush 8, 2) := by decide +kernel
theorem dX4_whisperTold_9 : decode cX4_whisperTold 9 = .ok (.if_icmp .ge 7, 3) := by decide +kernel
theorem dX4_whisperTold_12 : decode cX4_whisperTold 12 = .ok (.iconst 1, 1) := by decide +kernel
theorem dX4_whisperTold_13 : decode cX4_whisperTold 13 = .ok (.goto 4, 3) := by decide +kernel
theorem dX4_whisperTold_16 : decode cX4_whisperTold 16 = .ok (.iconst 0, 1) := by decide +kernel
theorem dX4_whisperTold_17 : decode cX4_whisperTold 17 = .ok (.invokevirtual 292, 3) := by decide +kernel
theorem dX4_whisperTold_20 : decode cX4_whisperTold 20 = .ok (.aload_n 0, 1) := by decide +kernel
theorem dX4_whisperTold_21 : decode cX4_whisperTold 21 = .ok (.getfield 272, 3) := by decide +kernel
theorem dX4_whisperTold_24 : decode cX4_whisperTold 24 = .ok (.ifCond .eq 4, 3) := by decide +kernel
theorem dX4_whisperTold_27 : decode cX4_whisperTold 27 = .ok (.return_, 1) := by decide +kernel
theorem dX4_whisperTold_28 : decode cX4_whisperTold 28 = .ok (.aload_n 0, 1) := by decide +kernel
theorem dX4_whisperTold_29 : decode cX4_whisperTold 29 = .ok (.iload_n 1, 1) := by decide +kernel
theorem dX4_whisperTold_30 : decode cX4_whisperTold 30 = .ok (.iconst 0, 1) := by decide +kernel
theorem dX4_whisperTold_31 : decode cX4_whisperTold 31 = .ok (.iconst 1, 1) := by decide +kernel
theorem dX4_whisperTold_32 : decode cX4_whisperTold 32 = .ok (.invokevirtual 113, 3) := by decide +kernel
theorem dX4_whisperTold_35 : decode cX4_whisperTold 35 = .ok (.istore_n 2, 1) := by decide +kernel
theorem dX4_whisperTold_36 : decode cX4_whisperTold 36 = .ok (.aload_n 0, 1) := by decide +kernel
theorem dX4_whisperTold_37 : decode cX4_whisperTold 37 = .ok (.ldc_w 310, 3) := by decide +kernel
theorem dX4_whisperTold_40 : decode cX4_whisperTold 40 = .ok (.invokevirtual 312, 3) := by decide +kernel
theorem dX4_whisperTold_43 : decode cX4_whisperTold 43 = .ok (.ifCond .eq 16, 3) := by decide +kernel
theorem dX4_whisperTold_46 : decode cX4_whisperTold 46 = .ok (.aload_n 0, 1) := by decide +kernel
theorem dX4_whisperTold_47 : decode cX4_whisperTold 47 = .ok (.iload_n 2, 1) := by decide +kernel
theorem dX4_whisperTold_48 : decode cX4_whisperTold 48 = .ok (.iconst 1, 1) := by decide +kernel
theorem dX4_whisperTold_49 : decode cX4_whisperTold 49 = .ok (.aload_n 0, 1) := by decide +kernel
theorem dX4_whisperTold_50 : decode cX4_whisperTold 50 = .ok (.iconst 0, 1) := by decide +kernel
theorem dX4_whisperTold_51 : decode cX4_whisperTold 51 = .ok (.bipush 15, 2) := by decide +kernel
theorem dX4_whisperTold_53 : decode cX4_whisperTold 53 = .ok (.invokevirtual 315, 3) := by decide +kernel
theorem dX4_whisperTold_56 : decode cX4_whisperTold 56 = .ok (.invokevirtual 107, 3) := by decide +kernel
theorem dX4_whisperTold_59 : decode cX4_whisperTold 59 = .ok (.aload_n 0, 1) := by decide +kernel
theorem dX4_whisperTold_60 : decode cX4_whisperTold 60 = .ok (.ldc_w 318, 3) := by decide +kernel
theorem dX4_whisperTold_63 : decode cX4_whisperTold 63 = .ok (.invokevirtual 312, 3) := by decide +kernel
theorem dX4_whisperTold_66 : decode cX4_whisperTold 66 = .ok (.ifCond .eq 17, 3) := by decide +kernel
theorem dX4_whisperTold_69 : decode cX4_whisperTold 69 = .ok (.aload_n 0, 1) := by decide +kernel
theorem dX4_whisperTold_70 : decode cX4_whisperTold 70 = .ok (.iload_n 2, 1) := by decide +kernel
theorem dX4_whisperTold_71 : decode cX4_whisperTold 71 = .ok (.iconst 2, 1) := by decide +kernel
theorem dX4_whisperTold_72 : decode cX4_whisperTold 72 = .ok (.aload_n 0, 1) := by decide +kernel
theorem dX4_whisperTold_73 : decode cX4_whisperTold 73 = .ok (.iconst 1, 1) := by decide +kernel
theorem dX4_whisperTold_74 : decode cX4_whisperTold 74 = .ok (.sipush 999, 3) := by decide +kernel
theorem dX4_whisperTold_77 : decode cX4_whisperTold 77 = .ok (.invokevirtual 315, 3) := by decide +kernel
theorem dX4_whisperTold_80 : decode cX4_whisperTold 80 = .ok (.invokevirtual 107, 3) := by decide +kernel
theorem dX4_whisperTold_83 : decode cX4_whisperTold 83 = .ok (.return_, 1) := by decide +kernel
theorem dX4_partTold_0 : decode cX4_partTold 0 = .ok (.aload_n 0, 1) := by decide +kernel
theorem dX4_partTold_1 : decode cX4_partTold 1 = .ok (.aload_n 2, 1) := by decide +kernel
theorem dX4_partTold_2 : decode cX4_partTold 2 = .ok (.invokevirtual 312, 3) := by decide +kernel
theorem dX4_partTold_5 : decode cX4_partTold 5 = .ok (.ifCond .eq 29, 3) := by decide +kernel
theorem dX4_partTold_8 : decode cX4_partTold 8 = .ok (.aload_n 0, 1) := by decide +kernel
theorem dX4_partTold_9 : decode cX4_partTold 9 = .ok (.iconst 0, 1) := by decide +kernel
theorem dX4_partTold_10 : decode cX4_partTold 10 = .ok (.iload_n 3, 1) := by decide +kernel
theorem dX4_partTold_11 : decode cX4_partTold 11 = .ok (.invokestatic 96, 3) := by decide +kernel
theorem dX4_partTold_14 : decode cX4_partTold 14 = .ok (.invokevirtual 315, 3) := by decide +kernel
theorem dX4_partTold_17 : decode cX4_partTold 17 = .ok (.istore 4, 2) := by decide +kernel
theorem dX4_partTold_19 : decode cX4_partTold 19 = .ok (.aload_n 0, 1) := by decide +kernel
theorem dX4_partTold_20 : decode cX4_partTold 20 = .ok (.getfield 272, 3) := by decide +kernel
theorem dX4_partTold_23 : decode cX4_partTold 23 = .ok (.ifCond .ne 11, 3) := by decide +kernel
theorem dX4_partTold_26 : decode cX4_partTold 26 = .ok (.aload_n 0, 1) := by decide +kernel
theorem dX4_partTold_27 : decode cX4_partTold 27 = .ok (.iload_n 1, 1) := by decide +kernel
theorem dX4_partTold_28 : decode cX4_partTold 28 = .ok (.iload_n 3, 1) := by decide +kernel
theorem dX4_partTold_29 : decode cX4_partTold 29 = .ok (.iload 4, 2) := by decide +kernel
theorem dX4_partTold_31 : decode cX4_partTold 31 = .ok (.invokevirtual 40, 3) := by decide +kernel
theorem dX4_partTold_34 : decode cX4_partTold 34 = .ok (.return_, 1) := by decide +kernel
theorem dX4_item_0 : decode cX4_item 0 = .ok (.aload_n 0, 1) := by decide +kernel
theorem dX4_item_1 : decode cX4_item 1 = .ok (.invokevirtual 320, 3) := by decide +kernel
theorem dX4_item_4 : decode cX4_item 4 = .ok (.istore_n 1, 1) := by decide +kernel
theorem dX4_item_5 : decode cX4_item 5 = .ok (.iload_n 1, 1) := by decide +kernel
theorem dX4_item_6 : decode cX4_item 6 = .ok (.ifCond .lt 11, 3) := by decide +kernel
theorem dX4_item_9 : decode cX4_item 9 = .ok (.aload_n 0, 1) := by decide +kernel
theorem dX4_item_10 : decode cX4_item 10 = .ok (.iload_n 1, 1) := by decide +kernel
theorem dX4_item_11 : decode cX4_item 11 = .ok (.invokevirtual 323, 3) := by decide +kernel
theorem dX4_item_14 : decode cX4_item 14 = .ok (.goto 125, 3) := by decide +kernel
theorem dX4_item_17 : decode cX4_item 17 = .ok (.aload_n 0, 1) := by decide +kernel
theorem dX4_item_18 : decode cX4_item 18 = .ok (.ldc_w 326, 3) := by decide +kernel
theorem dX4_item_21 : decode cX4_item 21 = .ok (.invokevirtual 312, 3) := by decide +kernel
theorem dX4_item_24 : decode cX4_item 24 = .ok (.ifCond .eq 50, 3) := by decide +kernel
theorem dX4_item_27 : decode cX4_item 27 = .ok (.aload_n 0, 1) := by decide +kernel
theorem dX4_item_28 : decode cX4_item 28 = .ok (.iconst 0, 1) := by decide +kernel
theorem dX4_item_29 : decode cX4_item 29 = .ok (.bipush 15, 2) := by decide +kernel
theorem dX4_item_31 : decode cX4_item 31 = .ok (.invokevirtual 315, 3) := by decide +kernel
theorem dX4_item_34 : decode cX4_item 34 = .ok (.istore_n 2, 1) := by decide +kernel
theorem dX4_item_35 : decode cX4_item 35 = .ok (.aload_n 0, 1) := by decide +kernel
theorem dX4_item_36 : decode cX4_item 36 = .ok (.iload_n 2, 1) := by decide +kernel
theorem dX4_item_37 : decode cX4_item 37 = .ok (.ldc_w 328, 3) := by decide +kernel
theorem dX4_item_40 : decode cX4_item 40 = .ok (.iconst 0, 1) := by decide +kernel
theorem dX4_item_41 : decode cX4_item 41 = .ok (.invokevirtual 330, 3) := by decide +kernel
theorem dX4_item_44 : decode cX4_item 44 = .ok (.aload_n 0, 1) := by decide +kernel
theorem dX4_item_45 : decode cX4_item 45 = .ok (.iload_n 2, 1) := by decide +kernel
theorem dX4_item_46 : decode cX4_item 46 = .ok (.ldc_w 334, 3) := by decide +kernel
theorem dX4_item_49 : decode cX4_item 49 = .ok (.iconst 1, 1) := by decide +kernel
theorem dX4_item_50 : decode cX4_item 50 = .ok (.invokevirtual 330, 3) := by decide +kernel
theorem dX4_item_53 : decode cX4_item 53 = .ok (.aload_n 0, 1) := by decide +kernel
theorem dX4_item_54 : decode cX4_item 54 = .ok (.iload_n 2, 1) := by decide +kernel
theorem dX4_item_55 : decode cX4_item 55 = .ok (.ldc_w 336, 3) := by decide +kernel
theorem dX4_item_58 : decode cX4_item 58 = .ok (.iconst 2, 1) := by decide +kernel
theorem dX4_item_59 : decode cX4_item 59 = .ok (.invokevirtual 330, 3) := by decide +kernel
theorem dX4_item_62 : decode cX4_item 62 = .ok (.aload_n 0, 1) := by decide +kernel
theorem dX4_item_63 : decode cX4_item 63 = .ok (.iload_n 2, 1) := by decide +kernel
theorem dX4_item_64 : decode cX4_item 64 = .ok (.ldc_w 338, 3) := by decide +kernel
theorem dX4_item_67 : decode cX4_item 67 = .ok (.iconst 4, 1) := by decide +kernel
theorem dX4_item_68 : decode cX4_item 68 = .ok (.invokevirtual 330, 3) := by decide +kernel
theorem dX4_item_71 : decode cX4_item 71 = .ok (.goto 68, 3) := by decide +kernel
theorem dX4_item_74 : decode cX4_item 74 = .ok (.aload_n 0, 1) := by decide +kernel
theorem dX4_item_75 : decode cX4_item 75 = .ok (.ldc_w 340, 3) := by decide +kernel
theorem dX4_item_78 : decode cX4_item 78 = .ok (.invokevirtual 312, 3) := by decide +kernel
theorem dX4_item_81 : decode cX4_item 81 = .ok (.ifCond .eq 20, 3) := by decide +kernel
theorem dX4_item_84 : decode cX4_item 84 = .ok (.aload_n 0, 1) := by decide +kernel
theorem dX4_item_85 : decode cX4_item 85 = .ok (.getfield 9, 3) := by decide +kernel
theorem dX4_item_88 : decode cX4_item 88 = .ok (.iconst 3, 1) := by decide +kernel
theorem dX4_item_89 : decode cX4_item 89 = .ok (.aload_n 0, 1) := by decide +kernel
theorem dX4_item_90 : decode cX4_item 90 = .ok (.iconst 0, 1) := by decide +kernel
theorem dX4_item_91 : decode cX4_item 91 = .ok (.ldc_w 342, 3) := by decide +kernel
theorem dX4_item_94 : decode cX4_item 94 = .ok (.invokevirtual 315, 3) := by decide +kernel
theorem dX4_item_97 : decode cX4_item 97 = .ok (.iastore, 1) := by decide +kernel
theorem dX4_item_98 : decode cX4_item 98 = .ok (.goto 41, 3) := by decide +kernel
theorem dX4_item_101 : decode cX4_item 101 = .ok (.aload_n 0, 1) := by decide +kernel
theorem dX4_item_102 : decode cX4_item 102 = .ok (.ldc_w 343, 3) := by decide +kernel
theorem dX4_item_105 : decode cX4_item 105 = .ok (.invokevirtual 312, 3) := by decide +kernel
theorem dX4_item_108 : decode cX4_item 108 = .ok (.ifCond .eq 13, 3) := by decide +kernel
theorem dX4_item_111 : decode cX4_item 111 = .ok (.aload_n 0, 1) := by decide +kernel
theorem dX4_item_112 : decode cX4_item 112 = .ok (.getfield 9, 3) := by decide +kernel
theorem dX4_item_115 : decode cX4_item 115 = .ok (.iconst 2, 1) := by decide +kernel
theorem dX4_item_116 : decode cX4_item 116 = .ok (.iconst 1, 1) := by decide +kernel
theorem dX4_item_117 : decode cX4_item 117 = .ok (.iastore, 1) := by decide +kernel
theorem dX4_item_118 : decode cX4_item 118 = .ok (.goto 21, 3) := by decide +kernel
theorem dX4_item_121 : decode cX4_item 121 = .ok (.aload_n 0, 1) := by decide +kernel
theorem dX4_item_122 : decode cX4_item 122 = .ok (.aload_n 0, 1) := by decide +kernel
theorem dX4_item_123 : decode cX4_item 123 = .ok (.ldc_w 345, 3) := by decide +kernel
theorem dX4_item_126 : decode cX4_item 126 = .ok (.invokevirtual 288, 3) := by decide +kernel
theorem dX4_item_129 : decode cX4_item 129 = .ok (.invokevirtual 292, 3) := by decide +kernel
theorem dX4_item_132 : decode cX4_item 132 = .ok (.aload_n 0, 1) := by decide +kernel
theorem dX4_item_133 : decode cX4_item 133 = .ok (.getfield 9, 3) := by decide +kernel
theorem dX4_item_136 : decode cX4_item 136 = .ok (.iconst 2, 1) := by decide +kernel
theorem dX4_item_137 : decode cX4_item 137 = .ok (.iconst 0, 1) := by decide +kernel
theorem dX4_item_138 : decode cX4_item 138 = .ok (.iastore, 1) := by decide +kernel
theorem dX4_item_139 : decode cX4_item 139 = .ok (.return_, 1) := by decide +kernel
theorem dX4_text_0 : decode cX4_text 0 = .ok (.aload_n 0, 1) := by decide +kernel
theorem dX4_text_1 : decode cX4_text 1 = .ok (.invokevirtual 168, 3) := by decide +kernel
theorem dX4_text_4 : decode cX4_text 4 = .ok (.aload_n 0, 1) := by decide +kernel
theorem dX4_text_5 : decode cX4_text 5 = .ok (.iconst 0, 1) := by decide +kernel
theorem dX4_text_6 : decode cX4_text 6 = .ok (.putfield 272, 3) := by decide +kernel
theorem dX4_text_9 : decode cX4_text 9 = .ok (.aload_n 0, 1) := by decide +kernel
theorem dX4_text_10 : decode cX4_text 10 = .ok (.iconst 0, 1) := by decide +kernel
theorem dX4_text_11 : decode cX4_text 11 = .ok (.putfield 263, 3) := by decide +kernel
theorem dX4_text_14 : decode cX4_text 14 = .ok (.aload_n 0, 1) := by decide +kernel
theorem dX4_text_15 : decode cX4_text 15 = .ok (.invokevirtual 285, 3) := by decide +kernel
theorem dX4_text_18 : decode cX4_text 18 = .ok (.aload_n 0, 1) := by decide +kernel
theorem dX4_text_19 : decode cX4_text 19 = .ok (.invokevirtual 347, 3) := by decide +kernel
theorem dX4_text_22 : decode cX4_text 22 = .ok (.iconst 1, 1) := by decide +kernel
theorem dX4_text_23 : decode cX4_text 23 = .ok (.istore_n 1, 1) := by decide +kernel
theorem dX4_text_24 : decode cX4_text 24 = .ok (.aload_n 0, 1) := by decide +kernel
theorem dX4_text_25 : decode cX4_text 25 = .ok (.getfield 272, 3) := by decide +kernel
theorem dX4_text_28 : decode cX4_text 28 = .ok (.ifCond .ne 35, 3) := by decide +kernel
theorem dX4_text_31 : decode cX4_text 31 = .ok (.aload_n 0, 1) := by decide +kernel
theorem dX4_text_32 : decode cX4_text 32 = .ok (.getfield 266, 3) := by decide +kernel
theorem dX4_text_35 : decode cX4_text 35 = .ok (.aload_n 0, 1) := by decide +kernel
theorem dX4_text_36 : decode cX4_text 36 = .ok (.getfield 260, 3) := by decide +kernel
theorem dX4_text_39 : decode cX4_text 39 = .ok (.if_icmp .ge 24, 3) := by decide +kernel
theorem dX4_text_42 : decode cX4_text 42 = .ok (.aload_n 0, 1) := by decide +kernel
theorem dX4_text_43 : decode cX4_text 43 = .ok (.aload_n 0, 1) := by decide +kernel
theorem dX4_text_44 : decode cX4_text 44 = .ok (.ldc_w 350, 3) := by decide +kernel
theorem dX4_text_47 : decode cX4_text 47 = .ok (.invokevirtual 288, 3) := by decide +kernel
theorem dX4_text_50 : decode cX4_text 50 = .ok (.invokevirtual 292, 3) := by decide +kernel
theorem dX4_text_53 : decode cX4_text 53 = .ok (.aload_n 0, 1) := by decide +kernel
theorem dX4_text_54 : decode cX4_text 54 = .ok (.invokevirtual 347, 3) := by decide +kernel
theorem dX4_text_57 : decode cX4_text 57 = .ok (.iinc 1 1, 3) := by decide +kernel
theorem dX4_text_60 : decode cX4_text 60 = .ok (.goto (-36), 3) := by decide +kernel
theorem dX4_text_63 : decode cX4_text 63 = .ok (.aload_n 0, 1) := by decide +kernel
theorem dX4_text_64 : decode cX4_text 64 = .ok (.iconst 0, 1) := by decide +kernel
theorem dX4_text_65 : decode cX4_text 65 = .ok (.putfield 260, 3) := by decide +kernel
theorem dX4_text_68 : decode cX4_text 68 = .ok (.aload_n 0, 1) := by decide +kernel
theorem dX4_text_69 : decode cX4_text 69 = .ok (.getfield 272, 3) := by decide +kernel
theorem dX4_text_72 : decode cX4_text 72 = .ok (.ifCond .eq 14, 3) := by decide +kernel
theorem dX4_text_75 : decode cX4_text 75 = .ok (.aload_n 0, 1) := by decide +kernel
theorem dX4_text_76 : decode cX4_text 76 = .ok (.invokevirtual 171, 3) := by decide +kernel
theorem dX4_text_79 : decode cX4_text 79 = .ok (.iconst (-1), 1) := by decide +kernel
theorem dX4_text_80 : decode cX4_text 80 = .ok (.aload_n 0, 1) := by decide +kernel
theorem dX4_text_81 : decode cX4_text 81 = .ok (.getfield 266, 3) := by decide +kernel
theorem dX4_text_84 : decode cX4_text 84 = .ok (.isub, 1) := by decide +kernel
theorem dX4_text_85 : decode cX4_text 85 = .ok (.ireturn, 1) := by decide +kernel
theorem dX4_text_86 : decode cX4_text 86 = .ok (.iload_n 1, 1) := by decide +kernel
theorem dX4_text_87 : decode cX4_text 87 = .ok (.ireturn, 1) := by decide +kernel
theorem dX4_isSpot_0 : decode cX4_isSpot 0 = .ok (.iload_n 0, 1) := by decide +kernel
theorem dX4_isSpot_1 : decode cX4_isSpot 1 = .ok (.i2l, 1) := by decide +kernel
theorem dX4_isSpot_2 : decode cX4_isSpot 2 = .ok (.lconst 0, 1) := by decide +kernel
theorem dX4_isSpot_3 : decode cX4_isSpot 3 = .ok (.ldc2_w 352, 3) := by decide +kernel
theorem dX4_isSpot_6 : decode cX4_isSpot 6 = .ok (.invokestatic 57, 3) := by decide +kernel
theorem dX4_isSpot_9 : decode cX4_isSpot 9 = .ok (.ireturn, 1) := by decide +kernel
theorem dX4_hold_0 : decode cX4_hold 0 = .ok (.iload_n 1, 1) := by decide +kernel
theorem dX4_hold_1 : decode cX4_hold 1 = .ok (.invokestatic 354, 3) := by decide +kernel
theorem dX4_hold_4 : decode cX4_hold 4 = .ok (.ifCond .eq 16, 3) := by decide +kernel
theorem dX4_hold_7 : decode cX4_hold 7 = .ok (.iload_n 2, 1) := by decide +kernel
theorem dX4_hold_8 : decode cX4_hold 8 = .ok (.iconst (-1), 1) := by decide +kernel
theorem dX4_hold_9 : decode cX4_hold 9 = .ok (.if_icmp .eq 17, 3) := by decide +kernel
theorem dX4_hold_12 : decode cX4_hold 12 = .ok (.aload_n 0, 1) := by decide +kernel
theorem dX4_hold_13 : decode cX4_hold 13 = .ok (.iload_n 2, 1) := by decide +kernel
theorem dX4_hold_14 : decode cX4_hold 14 = .ok (.invokevirtual 117, 3) := by decide +kernel
theorem dX4_hold_17 : decode cX4_hold 17 = .ok (.ifCond .ne 9, 3) := by decide +kernel
theorem dX4_hold_20 : decode cX4_hold 20 = .ok (.aload_n 0, 1) := by decide +kernel
theorem dX4_hold_21 : decode cX4_hold 21 = .ok (.iconst 0, 1) := by decide +kernel
theorem dX4_hold_22 : decode cX4_hold 22 = .ok (.invokevirtual 82, 3) := by decide +kernel
theorem dX4_hold_25 : decode cX4_hold 25 = .ok (.ireturn, 1) := by decide +kernel
theorem dX4_hold_26 : decode cX4_hold 26 = .ok (.aload_n 0, 1) := by decide +kernel
theorem dX4_hold_27 : decode cX4_hold 27 = .ok (.getfield 9, 3) := by decide +kernel
theorem dX4_hold_30 : decode cX4_hold 30 = .ok (.bipush 109, 2) := by decide +kernel
theorem dX4_hold_32 : decode cX4_hold 32 = .ok (.iload_n 1, 1) := by decide +kernel
theorem dX4_hold_33 : decode cX4_hold 33 = .ok (.iadd, 1) := by decide +kernel
theorem dX4_hold_34 : decode cX4_hold 34 = .ok (.iload_n 2, 1) := by decide +kernel
theorem dX4_hold_35 : decode cX4_hold 35 = .ok (.iastore, 1) := by decide +kernel
theorem dX4_hold_36 : decode cX4_hold 36 = .ok (.iconst 1, 1) := by decide +kernel
theorem dX4_hold_37 : decode cX4_hold 37 = .ok (.ireturn, 1) := by decide +kernel
theorem dX4_as_0 : decode cX4_as 0 = .ok (.iload_n 1, 1) := by decide +kernel
theorem dX4_as_1 : decode cX4_as 1 = .ok (.invokestatic 354, 3) := by decide +kernel
theorem dX4_as_4 : decode cX4_as 4 = .ok (.ifCond .eq 10, 3) := by decide +kernel
theorem dX4_as_7 : decode cX4_as 7 = .ok (.iload_n 2, 1) := by decide +kernel
theorem dX4_as_8 : decode cX4_as 8 = .ok (.invokestatic 110, 3) := by decide +kernel
theorem dX4_as_11 : decode cX4_as 11 = .ok (.ifCond .ne 9, 3) := by decide +kernel
theorem dX4_as_14 : decode cX4_as 14 = .ok (.aload_n 0, 1) := by decide +kernel
theorem dX4_as_15 : decode cX4_as 15 = .ok (.iconst 0, 1) := by decide +kernel
theorem dX4_as_16 : decode cX4_as 16 = .ok (.invokevirtual 82, 3) := by decide +kernel
theorem dX4_as_19 : decode cX4_as 19 = .ok (.ireturn, 1) := by decide +kernel
theorem dX4_as_20 : decode cX4_as 20 = .ok (.aload_n 0, 1) := by decide +kernel
theorem dX4_as_21 : decode cX4_as 21 = .ok (.getfield 9, 3) := by decide +kernel
theorem dX4_as_24 : decode cX4_as 24 = .ok (.bipush 109, 2) := by decide +kernel
theorem dX4_as_26 : decode cX4_as 26 = .ok (.iload_n 1, 1) := by decide +kernel
theorem dX4_as_27 : decode cX4_as 27 = .ok (.iadd, 1) := by decide +kernel
theorem dX4_as_28 : decode cX4_as 28 = .ok (.iaload, 1) := by decide +kernel
theorem dX4_as_29 : decode cX4_as 29 = .ok (.istore_n 3, 1) := by decide +kernel
theorem dX4_as_30 : decode cX4_as 30 = .ok (.iload_n 3, 1) := by decide +kernel
theorem dX4_as_31 : decode cX4_as 31 = .ok (.ifCond .ge 9, 3) := by decide +kernel
theorem dX4_as_34 : decode cX4_as 34 = .ok (.aload_n 0, 1) := by decide +kernel
theorem dX4_as_35 : decode cX4_as 35 = .ok (.iconst 5, 1) := by decide +kernel
theorem dX4_as_36 : decode cX4_as 36 = .ok (.invokevirtual 82, 3) := by decide +kernel
theorem dX4_as_39 : decode cX4_as 39 = .ok (.ireturn, 1) := by decide +kernel
theorem dX4_as_40 : decode cX4_as 40 = .ok (.aload_n 0, 1) := by decide +kernel
theorem dX4_as_41 : decode cX4_as 41 = .ok (.iload_n 3, 1) := by decide +kernel
theorem dX4_as_42 : decode cX4_as 42 = .ok (.iconst 0, 1) := by decide +kernel
theorem dX4_as_43 : decode cX4_as 43 = .ok (.invokevirtual 69, 3) := by decide +kernel
theorem dX4_as_46 : decode cX4_as 46 = .ok (.iload_n 2, 1) := by decide +kernel
theorem dX4_as_47 : decode cX4_as 47 = .ok (.invokestatic 357, 3) := by decide +kernel
theorem dX4_as_50 : decode cX4_as 50 = .ok (.ifCond .eq 7, 3) := by decide +kernel
theorem dX4_as_53 : decode cX4_as 53 = .ok (.iload_n 3, 1) := by decide +kernel
theorem dX4_as_54 : decode cX4_as 54 = .ok (.goto 8, 3) := by decide +kernel
theorem dX4_as_57 : decode cX4_as 57 = .ok (.aload_n 0, 1) := by decide +kernel
theorem dX4_as_58 : decode cX4_as 58 = .ok (.iconst 2, 1) := by decide +kernel
theorem dX4_as_59 : decode cX4_as 59 = .ok (.invokevirtual 82, 3) := by decide +kernel
theorem dX4_as_62 : decode cX4_as 62 = .ok (.ireturn, 1) := by decide +kernel
theorem dX4_isSheet_0 : decode cX4_isSheet 0 = .ok (.iload_n 0, 1) := by decide +kernel
theorem dX4_isSheet_1 : decode cX4_isSheet 1 = .ok (.i2l, 1) := by decide +kernel
theorem dX4_isSheet_2 : decode cX4_isSheet 2 = .ok (.lconst 0, 1) := by decide +kernel
theorem dX4_isSheet_3 : decode cX4_isSheet 3 = .ok (.ldc2_w 360, 3) := by decide +kernel
theorem dX4_isSheet_6 : decode cX4_isSheet 6 = .ok (.invokestatic 57, 3) := by decide +kernel
theorem dX4_isSheet_9 : decode cX4_isSheet 9 = .ok (.ireturn, 1) := by decide +kernel
theorem dX4_sheet_0 : decode cX4_sheet 0 = .ok (.iload_n 2, 1) := by decide +kernel
theorem dX4_sheet_1 : decode cX4_sheet 1 = .ok (.ifCond .eq 21, 3) := by decide +kernel
theorem dX4_sheet_4 : decode cX4_sheet 4 = .ok (.iload_n 2, 1) := by decide +kernel
theorem dX4_sheet_5 : decode cX4_sheet 5 = .ok (.bipush 8, 2) := by decide +kernel
theorem dX4_sheet_7 : decode cX4_sheet 7 = .ok (.if_icmp .eq 15, 3) := by decide +kernel
theorem dX4_sheet_10 : decode cX4_sheet 10 = .ok (.iload_n 2, 1) := by decide +kernel
theorem dX4_sheet_11 : decode cX4_sheet 11 = .ok (.bipush 16, 2) := by decide +kernel
theorem dX4_sheet_13 : decode cX4_sheet 13 = .ok (.if_icmp .eq 9, 3) := by decide +kernel
theorem dX4_sheet_16 : decode cX4_sheet 16 = .ok (.iload_n 2, 1) := by decide +kernel
theorem dX4_sheet_17 : decode cX4_sheet 17 = .ok (.bipush 32, 2) := by decide +kernel
theorem dX4_sheet_19 : decode cX4_sheet 19 = .ok (.if_icmp .ne 7, 3) := by decide +kernel
theorem dX4_sheet_22 : decode cX4_sheet 22 = .ok (.iconst 1, 1) := by decide +kernel
theorem dX4_sheet_23 : decode cX4_sheet 23 = .ok (.goto 4, 3) := by decide +kernel
theorem dX4_sheet_26 : decode cX4_sheet 26 = .ok (.iconst 0, 1) := by decide +kernel
theorem dX4_sheet_27 : decode cX4_sheet 27 = .ok (.istore 4, 2) := by decide +kernel
theorem dX4_sheet_29 : decode cX4_sheet 29 = .ok (.iload_n 1, 1) := by decide +kernel
theorem dX4_sheet_30 : decode cX4_sheet 30 = .ok (.invokestatic 362, 3) := by decide +kernel
theorem dX4_sheet_33 : decode cX4_sheet 33 = .ok (.ifCond .eq 8, 3) := by decide +kernel
theorem dX4_sheet_36 : decode cX4_sheet 36 = .ok (.iload 4, 2) := by decide +kernel
theorem dX4_sheet_38 : decode cX4_sheet 38 = .ok (.ifCond .ne 9, 3) := by decide +kernel
theorem dX4_sheet_41 : decode cX4_sheet 41 = .ok (.aload_n 0, 1) := by decide +kernel
theorem dX4_sheet_42 : decode cX4_sheet 42 = .ok (.iconst 0, 1) := by decide +kernel
theorem dX4_sheet_43 : decode cX4_sheet 43 = .ok (.invokevirtual 82, 3) := by decide +kernel
theorem dX4_sheet_46 : decode cX4_sheet 46 = .ok (.ireturn, 1) := by decide +kernel
theorem dX4_sheet_47 : decode cX4_sheet 47 = .ok (.iload_n 3, 1) := by decide +kernel
theorem dX4_sheet_48 : decode cX4_sheet 48 = .ok (.ifCond .ge 10, 3) := by decide +kernel
theorem dX4_sheet_51 : decode cX4_sheet 51 = .ok (.aload_n 0, 1) := by decide +kernel
theorem dX4_sheet_52 : decode cX4_sheet 52 = .ok (.bipush 6, 2) := by decide +kernel
theorem dX4_sheet_54 : decode cX4_sheet 54 = .ok (.invokevirtual 82, 3) := by decide +kernel
theorem dX4_sheet_57 : decode cX4_sheet 57 = .ok (.ireturn, 1) := by decide +kernel
theorem dX4_sheet_58 : decode cX4_sheet 58 = .ok (.iload_n 3, 1) := by decide +kernel
theorem dX4_sheet_59 : decode cX4_sheet 59 = .ok (.bipush 40, 2) := by decide +kernel
theorem dX4_sheet_61 : decode cX4_sheet 61 = .ok (.if_icmp .le 9, 3) := by decide +kernel
theorem dX4_sheet_64 : decode cX4_sheet 64 = .ok (.aload_n 0, 1) := by decide +kernel
theorem dX4_sheet_65 : decode cX4_sheet 65 = .ok (.iconst 0, 1) := by decide +kernel
theorem dX4_sheet_66 : decode cX4_sheet 66 = .ok (.invokevirtual 82, 3) := by decide +kernel
theorem dX4_sheet_69 : decode cX4_sheet 69 = .ok (.ireturn, 1) := by decide +kernel
theorem dX4_sheet_70 : decode cX4_sheet 70 = .ok (.aload_n 0, 1) := by decide +kernel
theorem dX4_sheet_71 : decode cX4_sheet 71 = .ok (.getfield 28, 3) := by decide +kernel
theorem dX4_sheet_74 : decode cX4_sheet 74 = .ok (.iload_n 1, 1) := by decide +kernel
theorem dX4_sheet_75 : decode cX4_sheet 75 = .ok (.iload_n 2, 1) := by decide +kernel
theorem dX4_sheet_76 : decode cX4_sheet 76 = .ok (.iastore, 1) := by decide +kernel
theorem dX4_sheet_77 : decode cX4_sheet 77 = .ok (.aload_n 0, 1) := by decide +kernel
theorem dX4_sheet_78 : decode cX4_sheet 78 = .ok (.getfield 31, 3) := by decide +kernel
theorem dX4_sheet_81 : decode cX4_sheet 81 = .ok (.iload_n 1, 1) := by decide +kernel
theorem dX4_sheet_82 : decode cX4_sheet 82 = .ok (.iload_n 2, 1) := by decide +kernel
theorem dX4_sheet_83 : decode cX4_sheet 83 = .ok (.ifCond .ne 7, 3) := by decide +kernel
theorem dX4_sheet_86 : decode cX4_sheet 86 = .ok (.iconst 0, 1) := by decide +kernel
theorem dX4_sheet_87 : decode cX4_sheet 87 = .ok (.goto 4, 3) := by decide +kernel
theorem dX4_sheet_90 : decode cX4_sheet 90 = .ok (.iload_n 3, 1) := by decide +kernel
theorem dX4_sheet_91 : decode cX4_sheet 91 = .ok (.iastore, 1) := by decide +kernel
theorem dX4_sheet_92 : decode cX4_sheet 92 = .ok (.iconst 0, 1) := by decide +kernel
theorem dX4_sheet_93 : decode cX4_sheet 93 = .ok (.istore 5, 2) := by decide +kernel
theorem dX4_sheet_95 : decode cX4_sheet 95 = .ok (.iload 5, 2) := by decide +kernel
theorem dX4_sheet_97 : decode cX4_sheet 97 = .ok (.bipush 40, 2) := by decide +kernel
theorem dX4_sheet_99 : decode cX4_sheet 99 = .ok (.if_icmp .ge 22, 3) := by decide +kernel
theorem dX4_sheet_102 : decode cX4_sheet 102 = .ok (.aload_n 0, 1) := by decide +kernel
theorem dX4_sheet_103 : decode cX4_sheet 103 = .ok (.getfield 34, 3) := by decide +kernel
theorem dX4_sheet_106 : decode cX4_sheet 106 = .ok (.bipush 40, 2) := by decide +kernel
theorem dX4_sheet_108 : decode cX4_sheet 108 = .ok (.iload_n 1, 1) := by decide +kernel
theorem dX4_sheet_109 : decode cX4_sheet 109 = .ok (.imul, 1) := by decide +kernel
theorem dX4_sheet_110 : decode cX4_sheet 110 = .ok (.iload 5, 2) := by decide +kernel
theorem dX4_sheet_112 : decode cX4_sheet 112 = .ok (.iadd, 1) := by decide +kernel
theorem dX4_sheet_113 : decode cX4_sheet 113 = .ok (.iconst 0, 1) := by decide +kernel
theorem dX4_sheet_114 : decode cX4_sheet 114 = .ok (.iastore, 1) := by decide +kernel
theorem dX4_sheet_115 : decode cX4_sheet 115 = .ok (.iinc 5 1, 3) := by decide +kernel
theorem dX4_sheet_118 : decode cX4_sheet 118 = .ok (.goto (-23), 3) := by decide +kernel
theorem dX4_sheet_121 : decode cX4_sheet 121 = .ok (.aload_n 0, 1) := by decide +kernel
theorem dX4_sheet_122 : decode cX4_sheet 122 = .ok (.getfield 31, 3) := by decide +kernel
theorem dX4_sheet_125 : decode cX4_sheet 125 = .ok (.iload_n 1, 1) := by decide +kernel
theorem dX4_sheet_126 : decode cX4_sheet 126 = .ok (.iaload, 1) := by decide +kernel
theorem dX4_sheet_127 : decode cX4_sheet 127 = .ok (.ireturn, 1) := by decide +kernel
theorem dX4_lacks_0 : decode cX4_lacks 0 = .ok (.iload_n 1, 1) := by decide +kernel
theorem dX4_lacks_1 : decode cX4_lacks 1 = .ok (.invokestatic 362, 3) := by decide +kernel
theorem dX4_lacks_4 : decode cX4_lacks 4 = .ok (.ifCond .ne 7, 3) := by decide +kernel
theorem dX4_lacks_7 : decode cX4_lacks 7 = .ok (.iconst 0, 1) := by decide +kernel
theorem dX4_lacks_8 : decode cX4_lacks 8 = .ok (.goto 17, 3) := by decide +kernel
theorem dX4_lacks_11 : decode cX4_lacks 11 = .ok (.aload_n 0, 1) := by decide +kernel
theorem dX4_lacks_12 : decode cX4_lacks 12 = .ok (.getfield 28, 3) := by decide +kernel
theorem dX4_lacks_15 : decode cX4_lacks 15 = .ok (.iload_n 1, 1) := by decide +kernel
theorem dX4_lacks_16 : decode cX4_lacks 16 = .ok (.iaload, 1) := by decide +kernel
theorem dX4_lacks_17 : decode cX4_lacks 17 = .ok (.ifCond .ne 7, 3) := by decide +kernel
theorem dX4_lacks_20 : decode cX4_lacks 20 = .ok (.iconst 5, 1) := by decide +kernel
theorem dX4_lacks_21 : decode cX4_lacks 21 = .ok (.goto 4, 3) := by decide +kernel
theorem dX4_lacks_24 : decode cX4_lacks 24 = .ok (.iconst (-1), 1) := by decide +kernel
theorem dX4_lacks_25 : decode cX4_lacks 25 = .ok (.ireturn, 1) := by decide +kernel
theorem dX4_write_0 : decode cX4_write 0 = .ok (.aload_n 0, 1) := by decide +kernel
theorem dX4_write_1 : decode cX4_write 1 = .ok (.iload_n 1, 1) := by decide +kernel
theorem dX4_write_2 : decode cX4_write 2 = .ok (.invokevirtual 240, 3) := by decide +kernel
theorem dX4_write_5 : decode cX4_write 5 = .ok (.istore 4, 2) := by decide +kernel
theorem dX4_write_7 : decode cX4_write 7 = .ok (.iload 4, 2) := by decide +kernel
theorem dX4_write_9 : decode cX4_write 9 = .ok (.ifCond .lt 10, 3) := by decide +kernel
theorem dX4_write_12 : decode cX4_write 12 = .ok (.aload_n 0, 1) := by decide +kernel
theorem dX4_write_13 : decode cX4_write 13 = .ok (.iload 4, 2) := by decide +kernel
theorem dX4_write_15 : decode cX4_write 15 = .ok (.invokevirtual 82, 3) := by decide +kernel
theorem dX4_write_18 : decode cX4_write 18 = .ok (.ireturn, 1) := by decide +kernel
theorem dX4_write_19 : decode cX4_write 19 = .ok (.iload_n 2, 1) := by decide +kernel
theorem dX4_write_20 : decode cX4_write 20 = .ok (.i2l, 1) := by decide +kernel
theorem dX4_write_21 : decode cX4_write 21 = .ok (.lconst 0, 1) := by decide +kernel
theorem dX4_write_22 : decode cX4_write 22 = .ok (.aload_n 0, 1) := by decide +kernel
theorem dX4_write_23 : decode cX4_write 23 = .ok (.getfield 31, 3) := by decide +kernel
theorem dX4_write_26 : decode cX4_write 26 = .ok (.iload_n 1, 1) := by decide +kernel
theorem dX4_write_27 : decode cX4_write 27 = .ok (.iaload, 1) := by decide +kernel
theorem dX4_write_28 : decode cX4_write 28 = .ok (.iconst 1, 1) := by decide +kernel
theorem dX4_write_29 : decode cX4_write 29 = .ok (.isub, 1) := by decide +kernel
theorem dX4_write_30 : decode cX4_write 30 = .ok (.i2l, 1) := by decide +kernel
theorem dX4_write_31 : decode cX4_write 31 = .ok (.invokestatic 57, 3) := by decide +kernel
theorem dX4_write_34 : decode cX4_write 34 = .ok (.ifCond .ne 9, 3) := by decide +kernel
theorem dX4_write_37 : decode cX4_write 37 = .ok (.aload_n 0, 1) := by decide +kernel
theorem dX4_write_38 : decode cX4_write 38 = .ok (.iconst 0, 1) := by decide +kernel
theorem dX4_write_39 : decode cX4_write 39 = .ok (.invokevirtual 82, 3) := by decide +kernel
theorem dX4_write_42 : decode cX4_write 42 = .ok (.ireturn, 1) := by decide +kernel
theorem dX4_write_43 : decode cX4_write 43 = .ok (.aload_n 0, 1) := by decide +kernel
theorem dX4_write_44 : decode cX4_write 44 = .ok (.getfield 34, 3) := by decide +kernel
theorem dX4_write_47 : decode cX4_write 47 = .ok (.bipush 40, 2) := by decide +kernel
theorem dX4_write_49 : decode cX4_write 49 = .ok (.iload_n 1, 1) := by decide +kernel
theorem dX4_write_50 : decode cX4_write 50 = .ok (.imul, 1) := by decide +kernel
theorem dX4_write_51 : decode cX4_write 51 = .ok (.iload_n 2, 1) := by decide +kernel
theorem dX4_write_52 : decode cX4_write 52 = .ok (.iadd, 1) := by decide +kernel
theorem dX4_write_53 : decode cX4_write 53 = .ok (.aload_n 0, 1) := by decide +kernel
theorem dX4_write_54 : decode cX4_write 54 = .ok (.getfield 28, 3) := by decide +kernel
theorem dX4_write_57 : decode cX4_write 57 = .ok (.iload_n 1, 1) := by decide +kernel
theorem dX4_write_58 : decode cX4_write 58 = .ok (.iaload, 1) := by decide +kernel
theorem dX4_write_59 : decode cX4_write 59 = .ok (.bipush 8, 2) := by decide +kernel
theorem dX4_write_61 : decode cX4_write 61 = .ok (.if_icmp .ne 8, 3) := by decide +kernel
theorem dX4_write_64 : decode cX4_write 64 = .ok (.iload_n 3, 1) := by decide +kernel
theorem dX4_write_65 : decode cX4_write 65 = .ok (.i2b, 1) := by decide +kernel
theorem dX4_write_66 : decode cX4_write 66 = .ok (.goto 20, 3) := by decide +kernel
theorem dX4_write_69 : decode cX4_write 69 = .ok (.aload_n 0, 1) := by decide +kernel
theorem dX4_write_70 : decode cX4_write 70 = .ok (.getfield 28, 3) := by decide +kernel
theorem dX4_write_73 : decode cX4_write 73 = .ok (.iload_n 1, 1) := by decide +kernel
theorem dX4_write_74 : decode cX4_write 74 = .ok (.iaload, 1) := by decide +kernel
theorem dX4_write_75 : decode cX4_write 75 = .ok (.bipush 16, 2) := by decide +kernel
theorem dX4_write_77 : decode cX4_write 77 = .ok (.if_icmp .ne 8, 3) := by decide +kernel
theorem dX4_write_80 : decode cX4_write 80 = .ok (.iload_n 3, 1) := by decide +kernel
theorem dX4_write_81 : decode cX4_write 81 = .ok (.i2s, 1) := by decide +kernel
theorem dX4_write_82 : decode cX4_write 82 = .ok (.goto 4, 3) := by decide +kernel
theorem dX4_write_85 : decode cX4_write 85 = .ok (.iload_n 3, 1) := by decide +kernel
theorem dX4_write_86 : decode cX4_write 86 = .ok (.iastore, 1) := by decide +kernel
theorem dX4_write_87 : decode cX4_write 87 = .ok (.iconst 1, 1) := by decide +kernel
theorem dX4_write_88 : decode cX4_write 88 = .ok (.ireturn, 1) := by decide +kernel
theorem dX4_copy_0 : decode cX4_copy 0 = .ok (.iload_n 1, 1) := by decide +kernel
theorem dX4_copy_1 : decode cX4_copy 1 = .ok (.invokestatic 362, 3) := by decide +kernel
theorem dX4_copy_4 : decode cX4_copy 4 = .ok (.ifCond .eq 10, 3) := by decide +kernel
theorem dX4_copy_7 : decode cX4_copy 7 = .ok (.iload_n 3, 1) := by decide +kernel
theorem dX4_copy_8 : decode cX4_copy 8 = .ok (.invokestatic 362, 3) := by decide +kernel
theorem dX4_copy_11 : decode cX4_copy 11 = .ok (.ifCond .ne 9, 3) := by decide +kernel
theorem dX4_copy_14 : decode cX4_copy 14 = .ok (.aload_n 0, 1) := by decide +kernel
theorem dX4_copy_15 : decode cX4_copy 15 = .ok (.iconst 0, 1) := by decide +kernel
theorem dX4_copy_16 : decode cX4_copy 16 = .ok (.invokevirtual 82, 3) := by decide +kernel
theorem dX4_copy_19 : decode cX4_copy 19 = .ok (.ireturn, 1) := by decide +kernel
theorem dX4_copy_20 : decode cX4_copy 20 = .ok (.aload_n 0, 1) := by decide +kernel
theorem dX4_copy_21 : decode cX4_copy 21 = .ok (.getfield 28, 3) := by decide +kernel
theorem dX4_copy_24 : decode cX4_copy 24 = .ok (.iload_n 1, 1) := by decide +kernel
theorem dX4_copy_25 : decode cX4_copy 25 = .ok (.iaload, 1) := by decide +kernel
theorem dX4_copy_26 : decode cX4_copy 26 = .ok (.ifCond .eq 12, 3) := by decide +kernel
theorem dX4_copy_29 : decode cX4_copy 29 = .ok (.aload_n 0, 1) := by decide +kernel
theorem dX4_copy_30 : decode cX4_copy 30 = .ok (.getfield 28, 3) := by decide +kernel
theorem dX4_copy_33 : decode cX4_copy 33 = .ok (.iload_n 3, 1) := by decide +kernel
theorem dX4_copy_34 : decode cX4_copy 34 = .ok (.iaload, 1) := by decide +kernel
theorem dX4_copy_35 : decode cX4_copy 35 = .ok (.ifCond .ne 9, 3) := by decide +kernel
theorem dX4_copy_38 : decode cX4_copy 38 = .ok (.aload_n 0, 1) := by decide +kernel
theorem dX4_copy_39 : decode cX4_copy 39 = .ok (.iconst 5, 1) := by decide +kernel
theorem dX4_copy_40 : decode cX4_copy 40 = .ok (.invokevirtual 82, 3) := by decide +kernel
theorem dX4_copy_43 : decode cX4_copy 43 = .ok (.ireturn, 1) := by decide +kernel
theorem dX4_copy_44 : decode cX4_copy 44 = .ok (.aload_n 0, 1) := by decide +kernel
theorem dX4_copy_45 : decode cX4_copy 45 = .ok (.getfield 28, 3) := by decide +kernel
theorem dX4_copy_48 : decode cX4_copy 48 = .ok (.iload_n 1, 1) := by decide +kernel
theorem dX4_copy_49 : decode cX4_copy 49 = .ok (.iaload, 1) := by decide +kernel
theorem dX4_copy_50 : decode cX4_copy 50 = .ok (.aload_n 0, 1) := by decide +kernel
theorem dX4_copy_51 : decode cX4_copy 51 = .ok (.getfield 28, 3) := by decide +kernel
theorem dX4_copy_54 : decode cX4_copy 54 = .ok (.iload_n 3, 1) := by decide +kernel
theorem dX4_copy_55 : decode cX4_copy 55 = .ok (.iaload, 1) := by decide +kernel
theorem dX4_copy_56 : decode cX4_copy 56 = .ok (.if_icmp .eq 9, 3) := by decide +kernel
theorem dX4_copy_59 : decode cX4_copy 59 = .ok (.aload_n 0, 1) := by decide +kernel
theorem dX4_copy_60 : decode cX4_copy 60 = .ok (.iconst 2, 1) := by decide +kernel
theorem dX4_copy_61 : decode cX4_copy 61 = .ok (.invokevirtual 82, 3) := by decide +kernel
theorem dX4_copy_64 : decode cX4_copy 64 = .ok (.ireturn, 1) := by decide +kernel
theorem dX4_copy_65 : decode cX4_copy 65 = .ok (.iload 5, 2) := by decide +kernel
theorem dX4_copy_67 : decode cX4_copy 67 = .ok (.ifCond .lt 51, 3) := by decide +kernel
theorem dX4_copy_70 : decode cX4_copy 70 = .ok (.iload_n 2, 1) := by decide +kernel
theorem dX4_copy_71 : decode cX4_copy 71 = .ok (.ifCond .lt 47, 3) := by decide +kernel
theorem dX4_copy_74 : decode cX4_copy 74 = .ok (.iload 4, 2) := by decide +kernel
theorem dX4_copy_76 : decode cX4_copy 76 = .ok (.ifCond .lt 42, 3) := by decide +kernel
theorem dX4_copy_79 : decode cX4_copy 79 = .ok (.iload_n 2, 1) := by decide +kernel
theorem dX4_copy_80 : decode cX4_copy 80 = .ok (.i2l, 1) := by decide +kernel
theorem dX4_copy_81 : decode cX4_copy 81 = .ok (.iload 5, 2) := by decide +kernel
theorem dX4_copy_83 : decode cX4_copy 83 = .ok (.i2l, 1) := by decide +kernel
theorem dX4_copy_84 : decode cX4_copy 84 = .ok (.ladd, 1) := by decide +kernel
theorem dX4_copy_85 : decode cX4_copy 85 = .ok (.aload_n 0, 1) := by decide +kernel
theorem dX4_copy_86 : decode cX4_copy 86 = .ok (.getfield 31, 3) := by decide +kernel
theorem dX4_copy_89 : decode cX4_copy 89 = .ok (.iload_n 1, 1) := by decide +kernel
theorem dX4_copy_90 : decode cX4_copy 90 = .ok (.iaload, 1) := by decide +kernel
theorem dX4_copy_91 : decode cX4_copy 91 = .ok (.i2l, 1) := by decide +kernel
theorem dX4_copy_92 : decode cX4_copy 92 = .ok (.lcmp, 1) := by decide +kernel
theorem dX4_copy_93 : decode cX4_copy 93 = .ok (.ifCond .gt 25, 3) := by decide +kernel
theorem dX4_copy_96 : decode cX4_copy 96 = .ok (.iload 4, 2) := by decide +kernel
theorem dX4_copy_98 : decode cX4_copy 98 = .ok (.i2l, 1) := by decide +kernel
theorem dX4_copy_99 : decode cX4_copy 99 = .ok (.iload 5, 2) := by decide +kernel
theorem dX4_copy_101 : decode cX4_copy 101 = .ok (.i2l, 1) := by decide +kernel
theorem dX4_copy_102 : decode cX4_copy 102 = .ok (.ladd, 1) := by decide +kernel
theorem dX4_copy_103 : decode cX4_copy 103 = .ok (.aload_n 0, 1) := by decide +kernel
theorem dX4_copy_104 : decode cX4_copy 104 = .ok (.getfield 31, 3) := by decide +kernel
theorem dX4_copy_107 : decode cX4_copy 107 = .ok (.iload_n 3, 1) := by decide +kernel
theorem dX4_copy_108 : decode cX4_copy 108 = .ok (.iaload, 1) := by decide +kernel
theorem dX4_copy_109 : decode cX4_copy 109 = .ok (.i2l, 1) := by decide +kernel
theorem dX4_copy_110 : decode cX4_copy 110 = .ok (.lcmp, 1) := by decide +kernel
theorem dX4_copy_111 : decode cX4_copy 111 = .ok (.ifCond .gt 7, 3) := by decide +kernel
theorem dX4_copy_114 : decode cX4_copy 114 = .ok (.iconst 1, 1) := by decide +kernel
theorem dX4_copy_115 : decode cX4_copy 115 = .ok (.goto 4, 3) := by decide +kernel
theorem dX4_copy_118 : decode cX4_copy 118 = .ok (.iconst 0, 1) := by decide +kernel
theorem dX4_copy_119 : decode cX4_copy 119 = .ok (.istore 6, 2) := by decide +kernel
theorem dX4_copy_121 : decode cX4_copy 121 = .ok (.iload 6, 2) := by decide +kernel
theorem dX4_copy_123 : decode cX4_copy 123 = .ok (.ifCond .ne 9, 3) := by decide +kernel
theorem dX4_copy_126 : decode cX4_copy 126 = .ok (.aload_n 0, 1) := by decide +kernel
theorem dX4_copy_127 : decode cX4_copy 127 = .ok (.iconst 0, 1) := by decide +kernel
theorem dX4_copy_128 : decode cX4_copy 128 = .ok (.invokevirtual 82, 3) := by decide +kernel
theorem dX4_copy_131 : decode cX4_copy 131 = .ok (.ireturn, 1) := by decide +kernel
theorem dX4_copy_132 : decode cX4_copy 132 = .ok (.iconst 0, 1) := by decide +kernel
theorem dX4_copy_133 : decode cX4_copy 133 = .ok (.istore 7, 2) := by decide +kernel
theorem dX4_copy_135 : decode cX4_copy 135 = .ok (.iload 7, 2) := by decide +kernel
theorem dX4_copy_137 : decode cX4_copy 137 = .ok (.iload 5, 2) := by decide +kernel
theorem dX4_copy_139 : decode cX4_copy 139 = .ok (.if_icmp .ge 30, 3) := by decide +kernel
theorem dX4_copy_142 : decode cX4_copy 142 = .ok (.aload_n 0, 1) := by decide +kernel
theorem dX4_copy_143 : decode cX4_copy 143 = .ok (.getfield 37, 3) := by decide +kernel
theorem dX4_copy_146 : decode cX4_copy 146 = .ok (.iload 7, 2) := by decide +kernel
theorem dX4_copy_148 : decode cX4_copy 148 = .ok (.aload_n 0, 1) := by decide +kernel
theorem dX4_copy_149 : decode cX4_copy 149 = .ok (.getfield 34, 3) := by decide +kernel
theorem dX4_copy_152 : decode cX4_copy 152 = .ok (.bipush 40, 2) := by decide +kernel
theorem dX4_copy_154 : decode cX4_copy 154 = .ok (.iload_n 1, 1) := by decide +kernel
theorem dX4_copy_155 : decode cX4_copy 155 = .ok (.imul, 1) := by decide +kernel
theorem dX4_copy_156 : decode cX4_copy 156 = .ok (.iload_n 2, 1) := by decide +kernel
theorem dX4_copy_157 : decode cX4_copy 157 = .ok (.iadd, 1) := by decide +kernel
theorem dX4_copy_158 : decode cX4_copy 158 = .ok (.iload 7, 2) := by decide +kernel
theorem dX4_copy_160 : decode cX4_copy 160 = .ok (.iadd, 1) := by decide +kernel
theorem dX4_copy_161 : decode cX4_copy 161 = .ok (.iaload, 1) := by decide +kernel
theorem dX4_copy_162 : decode cX4_copy 162 = .ok (.iastore, 1) := by decide +kernel
theorem dX4_copy_163 : decode cX4_copy 163 = .ok (.iinc 7 1, 3) := by decide +kernel
theorem dX4_copy_166 : decode cX4_copy 166 = .ok (.goto (-31), 3) := by decide +kernel
theorem dX4_copy_169 : decode cX4_copy 169 = .ok (.iconst 0, 1) := by decide +kernel
theorem dX4_copy_170 : decode cX4_copy 170 = .ok (.istore 7, 2) := by decide +kernel
theorem dX4_copy_172 : decode cX4_copy 172 = .ok (.iload 7, 2) := by decide +kernel
theorem dX4_copy_174 : decode cX4_copy 174 = .ok (.iload 5, 2) := by decide +kernel
theorem dX4_copy_176 : decode cX4_copy 176 = .ok (.if_icmp .ge 31, 3) := by decide +kernel
theorem dX4_copy_179 : decode cX4_copy 179 = .ok (.aload_n 0, 1) := by decide +kernel
theorem dX4_copy_180 : decode cX4_copy 180 = .ok (.getfield 34, 3) := by decide +kernel
theorem dX4_copy_183 : decode cX4_copy 183 = .ok (.bipush 40, 2) := by decide +kernel
theorem dX4_copy_185 : decode cX4_copy 185 = .ok (.iload_n 3, 1) := by decide +kernel
theorem dX4_copy_186 : decode cX4_copy 186 = .ok (.imul, 1) := by decide +kernel
theorem dX4_copy_187 : decode cX4_copy 187 = .ok (.iload 4, 2) := by decide +kernel
theorem dX4_copy_189 : decode cX4_copy 189 = .ok (.iadd, 1) := by decide +kernel
theorem dX4_copy_190 : decode cX4_copy 190 = .ok (.iload 7, 2) := by decide +kernel
theorem dX4_copy_192 : decode cX4_copy 192 = .ok (.iadd, 1) := by decide +kernel
theorem dX4_copy_193 : decode cX4_copy 193 = .ok (.aload_n 0, 1) := by decide +kernel
theorem dX4_copy_194 : decode cX4_copy 194 = .ok (.getfield 37, 3) := by decide +kernel
theorem dX4_copy_197 : decode cX4_copy 197 = .ok (.iload 7, 2) := by decide +kernel
theorem dX4_copy_199 : decode cX4_copy 199 = .ok (.iaload, 1) := by decide +kernel
theorem dX4_copy_200 : decode cX4_copy 200 = .ok (.iastore, 1) := by decide +kernel
theorem dX4_copy_201 : decode cX4_copy 201 = .ok (.iinc 7 1, 3) := by decide +kernel
theorem dX4_copy_204 : decode cX4_copy 204 = .ok (.goto (-32), 3) := by decide +kernel
theorem dX4_copy_207 : decode cX4_copy 207 = .ok (.iload 5, 2) := by decide +kernel
theorem dX4_copy_209 : decode cX4_copy 209 = .ok (.ireturn, 1) := by decide +kernel
theorem dX4_load_0 : decode cX4_load 0 = .ok (.aload_n 0, 1) := by decide +kernel
theorem dX4_load_1 : decode cX4_load 1 = .ok (.iload_n 1, 1) := by decide +kernel
theorem dX4_load_2 : decode cX4_load 2 = .ok (.invokevirtual 240, 3) := by decide +kernel
theorem dX4_load_5 : decode cX4_load 5 = .ok (.istore_n 2, 1) := by decide +kernel
theorem dX4_load_6 : decode cX4_load 6 = .ok (.iload_n 2, 1) := by decide +kernel
theorem dX4_load_7 : decode cX4_load 7 = .ok (.ifCond .lt 9, 3) := by decide +kernel
theorem dX4_load_10 : decode cX4_load 10 = .ok (.aload_n 0, 1) := by decide +kernel
theorem dX4_load_11 : decode cX4_load 11 = .ok (.iload_n 2, 1) := by decide +kernel
theorem dX4_load_12 : decode cX4_load 12 = .ok (.invokevirtual 82, 3) := by decide +kernel
theorem dX4_load_15 : decode cX4_load 15 = .ok (.ireturn, 1) := by decide +kernel
theorem dX4_load_16 : decode cX4_load 16 = .ok (.iconst 0, 1) := by decide +kernel
theorem dX4_load_17 : decode cX4_load 17 = .ok (.istore_n 3, 1) := by decide +kernel
theorem dX4_load_18 : decode cX4_load 18 = .ok (.iload_n 3, 1) := by decide +kernel
theorem dX4_load_19 : decode cX4_load 19 = .ok (.aload_n 0, 1) := by decide +kernel
theorem dX4_load_20 : decode cX4_load 20 = .ok (.getfield 31, 3) := by decide +kernel
theorem dX4_load_23 : decode cX4_load 23 = .ok (.iload_n 1, 1) := by decide +kernel
theorem dX4_load_24 : decode cX4_load 24 = .ok (.iaload, 1) := by decide +kernel
theorem dX4_load_25 : decode cX4_load 25 = .ok (.if_icmp .ge 54, 3) := by decide +kernel
theorem dX4_load_28 : decode cX4_load 28 = .ok (.iload_n 3, 1) := by decide +kernel
theorem dX4_load_29 : decode cX4_load 29 = .ok (.bipush 16, 2) := by decide +kernel
theorem dX4_load_31 : decode cX4_load 31 = .ok (.if_icmp .ge 48, 3) := by decide +kernel
theorem dX4_load_34 : decode cX4_load 34 = .ok (.aload_n 0, 1) := by decide +kernel
theorem dX4_load_35 : decode cX4_load 35 = .ok (.getfield 34, 3) := by decide +kernel
theorem dX4_load_38 : decode cX4_load 38 = .ok (.bipush 40, 2) := by decide +kernel
theorem dX4_load_40 : decode cX4_load 40 = .ok (.iload_n 1, 1) := by decide +kernel
theorem dX4_load_41 : decode cX4_load 41 = .ok (.imul, 1) := by decide +kernel
theorem dX4_load_42 : decode cX4_load 42 = .ok (.iload_n 3, 1) := by decide +kernel
theorem dX4_load_43 : decode cX4_load 43 = .ok (.iadd, 1) := by decide +kernel
theorem dX4_load_44 : decode cX4_load 44 = .ok (.iaload, 1) := by decide +kernel
theorem dX4_load_45 : decode cX4_load 45 = .ok (.i2l, 1) := by decide +kernel
theorem dX4_load_46 : decode cX4_load 46 = .ok (.lconst 0, 1) := by decide +kernel
theorem dX4_load_47 : decode cX4_load 47 = .ok (.ldc2_w 365, 3) := by decide +kernel
theorem dX4_load_50 : decode cX4_load 50 = .ok (.invokestatic 57, 3) := by decide +kernel
theorem dX4_load_53 : decode cX4_load 53 = .ok (.ifCond .eq 26, 3) := by decide +kernel
theorem dX4_load_56 : decode cX4_load 56 = .ok (.aload_n 0, 1) := by decide +kernel
theorem dX4_load_57 : decode cX4_load 57 = .ok (.iload_n 3, 1) := by decide +kernel
theorem dX4_load_58 : decode cX4_load 58 = .ok (.iconst 0, 1) := by decide +kernel
theorem dX4_load_59 : decode cX4_load 59 = .ok (.aload_n 0, 1) := by decide +kernel
theorem dX4_load_60 : decode cX4_load 60 = .ok (.getfield 34, 3) := by decide +kernel
theorem dX4_load_63 : decode cX4_load 63 = .ok (.bipush 40, 2) := by decide +kernel
theorem dX4_load_65 : decode cX4_load 65 = .ok (.iload_n 1, 1) := by decide +kernel
theorem dX4_load_66 : decode cX4_load 66 = .ok (.imul, 1) := by decide +kernel
theorem dX4_load_67 : decode cX4_load 67 = .ok (.iload_n 3, 1) := by decide +kernel
theorem dX4_load_68 : decode cX4_load 68 = .ok (.iadd, 1) := by decide +kernel
theorem dX4_load_69 : decode cX4_load 69 = .ok (.iaload, 1) := by decide +kernel
theorem dX4_load_70 : decode cX4_load 70 = .ok (.invokevirtual 40, 3) := by decide +kernel
theorem dX4_load_73 : decode cX4_load 73 = .ok (.iinc 3 1, 3) := by decide +kernel
theorem dX4_load_76 : decode cX4_load 76 = .ok (.goto (-58), 3) := by decide +kernel
theorem dX4_load_79 : decode cX4_load 79 = .ok (.iload_n 3, 1) := by decide +kernel
theorem dX4_load_80 : decode cX4_load 80 = .ok (.ireturn, 1) := by decide +kernel
theorem dX4_judge_0 : decode cX4_judge 0 = .ok (.aload_n 0, 1) := by decide +kernel
theorem dX4_judge_1 : decode cX4_judge 1 = .ok (.iload_n 1, 1) := by decide +kernel
theorem dX4_judge_2 : decode cX4_judge 2 = .ok (.invokevirtual 240, 3) := by decide +kernel
theorem dX4_judge_5 : decode cX4_judge 5 = .ok (.istore_n 2, 1) := by decide +kernel
theorem dX4_judge_6 : decode cX4_judge 6 = .ok (.iload_n 2, 1) := by decide +kernel
theorem dX4_judge_7 : decode cX4_judge 7 = .ok (.ifCond .lt 9, 3) := by decide +kernel
theorem dX4_judge_10 : decode cX4_judge 10 = .ok (.aload_n 0, 1) := by decide +kernel
theorem dX4_judge_11 : decode cX4_judge 11 = .ok (.iload_n 2, 1) := by decide +kernel
theorem dX4_judge_12 : decode cX4_judge 12 = .ok (.invokevirtual 82, 3) := by decide +kernel
theorem dX4_judge_15 : decode cX4_judge 15 = .ok (.ireturn, 1) := by decide +kernel
theorem dX4_judge_16 : decode cX4_judge 16 = .ok (.iconst 0, 1) := by decide +kernel
theorem dX4_judge_17 : decode cX4_judge 17 = .ok (.istore_n 3, 1) := by decide +kernel
theorem dX4_judge_18 : decode cX4_judge 18 = .ok (.iload_n 3, 1) := by decide +kernel
theorem dX4_judge_19 : decode cX4_judge 19 = .ok (.aload_n 0, 1) := by decide +kernel
theorem dX4_judge_20 : decode cX4_judge 20 = .ok (.getfield 31, 3) := by decide +kernel
theorem dX4_judge_23 : decode cX4_judge 23 = .ok (.iload_n 1, 1) := by decide +kernel
theorem dX4_judge_24 : decode cX4_judge 24 = .ok (.iaload, 1) := by decide +kernel
theorem dX4_judge_25 : decode cX4_judge 25 = .ok (.if_icmp .ge 34, 3) := by decide +kernel
theorem dX4_judge_28 : decode cX4_judge 28 = .ok (.iload_n 3, 1) := by decide +kernel
theorem dX4_judge_29 : decode cX4_judge 29 = .ok (.bipush 16, 2) := by decide +kernel
theorem dX4_judge_31 : decode cX4_judge 31 = .ok (.if_icmp .ge 28, 3) := by decide +kernel
theorem dX4_judge_34 : decode cX4_judge 34 = .ok (.aload_n 0, 1) := by decide +kernel
theorem dX4_judge_35 : decode cX4_judge 35 = .ok (.getfield 34, 3) := by decide +kernel
theorem dX4_judge_38 : decode cX4_judge 38 = .ok (.bipush 40, 2) := by decide +kernel
theorem dX4_judge_40 : decode cX4_judge 40 = .ok (.iload_n 1, 1) := by decide +kernel
theorem dX4_judge_41 : decode cX4_judge 41 = .ok (.imul, 1) := by decide +kernel
theorem dX4_judge_42 : decode cX4_judge 42 = .ok (.iload_n 3, 1) := by decide +kernel
theorem dX4_judge_43 : decode cX4_judge 43 = .ok (.iadd, 1) := by decide +kernel
theorem dX4_judge_44 : decode cX4_judge 44 = .ok (.iaload, 1) := by decide +kernel
theorem dX4_judge_45 : decode cX4_judge 45 = .ok (.aload_n 0, 1) := by decide +kernel
theorem dX4_judge_46 : decode cX4_judge 46 = .ok (.iload_n 3, 1) := by decide +kernel
theorem dX4_judge_47 : decode cX4_judge 47 = .ok (.invokevirtual 72, 3) := by decide +kernel
theorem dX4_judge_50 : decode cX4_judge 50 = .ok (.if_icmp .ne 9, 3) := by decide +kernel
theorem dX4_judge_53 : decode cX4_judge 53 = .ok (.iinc 3 1, 3) := by decide +kernel
theorem dX4_judge_56 : decode cX4_judge 56 = .ok (.goto (-38), 3) := by decide +kernel
theorem dX4_judge_59 : decode cX4_judge 59 = .ok (.iload_n 3, 1) := by decide +kernel
theorem dX4_judge_60 : decode cX4_judge 60 = .ok (.aload_n 0, 1) := by decide +kernel
theorem dX4_judge_61 : decode cX4_judge 61 = .ok (.getfield 31, 3) := by decide +kernel
theorem dX4_judge_64 : decode cX4_judge 64 = .ok (.iload_n 1, 1) := by decide +kernel
theorem dX4_judge_65 : decode cX4_judge 65 = .ok (.iaload, 1) := by decide +kernel
theorem dX4_judge_66 : decode cX4_judge 66 = .ok (.if_icmp .ne 7, 3) := by decide +kernel
theorem dX4_judge_69 : decode cX4_judge 69 = .ok (.iconst 0, 1) := by decide +kernel
theorem dX4_judge_70 : decode cX4_judge 70 = .ok (.goto 6, 3) := by decide +kernel
theorem dX4_judge_73 : decode cX4_judge 73 = .ok (.iload_n 3, 1) := by decide +kernel
theorem dX4_judge_74 : decode cX4_judge 74 = .ok (.iconst 1, 1) := by decide +kernel
theorem dX4_judge_75 : decode cX4_judge 75 = .ok (.iadd, 1) := by decide +kernel
theorem dX4_judge_76 : decode cX4_judge 76 = .ok (.ireturn, 1) := by decide +kernel
theorem dX4_image_0 : decode cX4_image 0 = .ok (.aload_n 0, 1) := by decide +kernel
theorem dX4_image_1 : decode cX4_image 1 = .ok (.getfield 9, 3) := by decide +kernel
theorem dX4_image_4 : decode cX4_image 4 = .ok (.aload_n 0, 1) := by decide +kernel
theorem dX4_image_5 : decode cX4_image 5 = .ok (.getfield 13, 3) := by decide +kernel
theorem dX4_image_8 : decode cX4_image 8 = .ok (.invokestatic 51, 3) := by decide +kernel
theorem dX4_image_11 : decode cX4_image 11 = .ok (.aload_n 0, 1) := by decide +kernel
theorem dX4_image_12 : decode cX4_image 12 = .ok (.iconst 1, 1) := by decide +kernel
theorem dX4_image_13 : decode cX4_image 13 = .ok (.putfield 367, 3) := by decide +kernel
theorem dX4_image_16 : decode cX4_image 16 = .ok (.iconst 1, 1) := by decide +kernel
theorem dX4_image_17 : decode cX4_image 17 = .ok (.ireturn, 1) := by decide +kernel
theorem dX4_undo_0 : decode cX4_undo 0 = .ok (.aload_n 0, 1) := by decide +kernel
theorem dX4_undo_1 : decode cX4_undo 1 = .ok (.getfield 367, 3) := by decide +kernel
theorem dX4_undo_4 : decode cX4_undo 4 = .ok (.ifCond .ne 9, 3) := by decide +kernel
theorem dX4_undo_7 : decode cX4_undo 7 = .ok (.aload_n 0, 1) := by decide +kernel
theorem dX4_undo_8 : decode cX4_undo 8 = .ok (.iconst 3, 1) := by decide +kernel
theorem dX4_undo_9 : decode cX4_undo 9 = .ok (.invokevirtual 82, 3) := by decide +kernel
theorem dX4_undo_12 : decode cX4_undo 12 = .ok (.ireturn, 1) := by decide +kernel
theorem dX4_undo_13 : decode cX4_undo 13 = .ok (.aload_n 0, 1) := by decide +kernel
theorem dX4_undo_14 : decode cX4_undo 14 = .ok (.getfield 13, 3) := by decide +kernel
theorem dX4_undo_17 : decode cX4_undo 17 = .ok (.aload_n 0, 1) := by decide +kernel
theorem dX4_undo_18 : decode cX4_undo 18 = .ok (.getfield 9, 3) := by decide +kernel
theorem dX4_undo_21 : decode cX4_undo 21 = .ok (.invokestatic 51, 3) := by decide +kernel
theorem dX4_undo_24 : decode cX4_undo 24 = .ok (.aload_n 0, 1) := by decide +kernel
theorem dX4_undo_25 : decode cX4_undo 25 = .ok (.getfield 9, 3) := by decide +kernel
theorem dX4_undo_28 : decode cX4_undo 28 = .ok (.iconst 0, 1) := by decide +kernel
theorem dX4_undo_29 : decode cX4_undo 29 = .ok (.iaload, 1) := by decide +kernel
theorem dX4_undo_30 : decode cX4_undo 30 = .ok (.ireturn, 1) := by decide +kernel
theorem dX4_tear_0 : decode cX4_tear 0 = .ok (.aload_n 0, 1) := by decide +kernel
theorem dX4_tear_1 : decode cX4_tear 1 = .ok (.getfield 367, 3) := by decide +kernel
theorem dX4_tear_4 : decode cX4_tear 4 = .ok (.ifCond .eq 7, 3) := by decide +kernel
theorem dX4_tear_7 : decode cX4_tear 7 = .ok (.iconst 1, 1) := by decide +kernel
theorem dX4_tear_8 : decode cX4_tear 8 = .ok (.goto 4, 3) := by decide +kernel
theorem dX4_tear_11 : decode cX4_tear 11 = .ok (.iconst 0, 1) := by decide +kernel
theorem dX4_tear_12 : decode cX4_tear 12 = .ok (.istore_n 1, 1) := by decide +kernel
theorem dX4_tear_13 : decode cX4_tear 13 = .ok (.aload_n 0, 1) := by decide +kernel
theorem dX4_tear_14 : decode cX4_tear 14 = .ok (.iconst 0, 1) := by decide +kernel
theorem dX4_tear_15 : decode cX4_tear 15 = .ok (.putfield 367, 3) := by decide +kernel
theorem dX4_tear_18 : decode cX4_tear 18 = .ok (.iload_n 1, 1) := by decide +kernel
theorem dX4_tear_19 : decode cX4_tear 19 = .ok (.ireturn, 1) := by decide +kernel
theorem dX4_atHarbour_0 : decode cX4_atHarbour 0 = .ok (.iconst 0, 1) := by decide +kernel
theorem dX4_atHarbour_1 : decode cX4_atHarbour 1 = .ok (.istore_n 1, 1) := by decide +kernel
theorem dX4_atHarbour_2 : decode cX4_atHarbour 2 = .ok (.iconst 0, 1) := by decide +kernel
theorem dX4_atHarbour_3 : decode cX4_atHarbour 3 = .ok (.istore_n 2, 1) := by decide +kernel
theorem dX4_atHarbour_4 : decode cX4_atHarbour 4 = .ok (.iload_n 2, 1) := by decide +kernel
theorem dX4_atHarbour_5 : decode cX4_atHarbour 5 = .ok (.aload_n 0, 1) := by decide +kernel
theorem dX4_atHarbour_6 : decode cX4_atHarbour 6 = .ok (.getfield 9, 3) := by decide +kernel
theorem dX4_atHarbour_9 : decode cX4_atHarbour 9 = .ok (.iconst 1, 1) := by decide +kernel
theorem dX4_atHarbour_10 : decode cX4_atHarbour 10 = .ok (.iaload, 1) := by decide +kernel
theorem dX4_atHarbour_11 : decode cX4_atHarbour 11 = .ok (.if_icmp .ge 28, 3) := by decide +kernel
theorem dX4_atHarbour_14 : decode cX4_atHarbour 14 = .ok (.iload_n 1, 1) := by decide +kernel
theorem dX4_atHarbour_15 : decode cX4_atHarbour 15 = .ok (.aload_n 0, 1) := by decide +kernel
theorem dX4_atHarbour_16 : decode cX4_atHarbour 16 = .ok (.iload_n 2, 1) := by decide +kernel
theorem dX4_atHarbour_17 : decode cX4_atHarbour 17 = .ok (.iconst 1, 1) := by decide +kernel
theorem dX4_atHarbour_18 : decode cX4_atHarbour 18 = .ok (.invokevirtual 69, 3) := by decide +kernel
theorem dX4_atHarbour_21 : decode cX4_atHarbour 21 = .ok (.bipush 15, 2) := by decide +kernel
theorem dX4_atHarbour_23 : decode cX4_atHarbour 23 = .ok (.if_icmp .ne 7, 3) := by decide +kernel
theorem dX4_atHarbour_26 : decode cX4_atHarbour 26 = .ok (.iconst 1, 1) := by decide +kernel
theorem dX4_atHarbour_27 : decode cX4_atHarbour 27 = .ok (.goto 4, 3) := by decide +kernel
theorem dX4_atHarbour_30 : decode cX4_atHarbour 30 = .ok (.iconst 0, 1) := by decide +kernel
theorem dX4_atHarbour_31 : decode cX4_atHarbour 31 = .ok (.iadd, 1) := by decide +kernel
theorem dX4_atHarbour_32 : decode cX4_atHarbour 32 = .ok (.istore_n 1, 1) := by decide +kernel
theorem dX4_atHarbour_33 : decode cX4_atHarbour 33 = .ok (.iinc 2 1, 3) := by decide +kernel
theorem dX4_atHarbour_36 : decode cX4_atHarbour 36 = .ok (.goto (-32), 3) := by decide +kernel
theorem dX4_atHarbour_39 : decode cX4_atHarbour 39 = .ok (.iload_n 1, 1) := by decide +kernel
theorem dX4_atHarbour_40 : decode cX4_atHarbour 40 = .ok (.ireturn, 1) := by decide +kernel
theorem dX4_allSand_0 : decode cX4_allSand 0 = .ok (.iconst 0, 1) := by decide +kernel
theorem dX4_allSand_1 : decode cX4_allSand 1 = .ok (.istore_n 1, 1) := by decide +kernel
theorem dX4_allSand_2 : decode cX4_allSand 2 = .ok (.iconst 0, 1) := by decide +kernel
theorem dX4_allSand_3 : decode cX4_allSand 3 = .ok (.istore_n 2, 1) := by decide +kernel
theorem dX4_allSand_4 : decode cX4_allSand 4 = .ok (.iload_n 2, 1) := by decide +kernel
theorem dX4_allSand_5 : decode cX4_allSand 5 = .ok (.bipush 16, 2) := by decide +kernel
theorem dX4_allSand_7 : decode cX4_allSand 7 = .ok (.if_icmp .ge 18, 3) := by decide +kernel
theorem dX4_allSand_10 : decode cX4_allSand 10 = .ok (.iload_n 1, 1) := by decide +kernel
theorem dX4_allSand_11 : decode cX4_allSand 11 = .ok (.aload_n 0, 1) := by decide +kernel
theorem dX4_allSand_12 : decode cX4_allSand 12 = .ok (.iload_n 2, 1) := by decide +kernel
theorem dX4_allSand_13 : decode cX4_allSand 13 = .ok (.iconst 2, 1) := by decide +kernel
theorem dX4_allSand_14 : decode cX4_allSand 14 = .ok (.invokevirtual 63, 3) := by decide +kernel
theorem dX4_allSand_17 : decode cX4_allSand 17 = .ok (.iadd, 1) := by decide +kernel
theorem dX4_allSand_18 : decode cX4_allSand 18 = .ok (.istore_n 1, 1) := by decide +kernel
theorem dX4_allSand_19 : decode cX4_allSand 19 = .ok (.iinc 2 1, 3) := by decide +kernel
theorem dX4_allSand_22 : decode cX4_allSand 22 = .ok (.goto (-18), 3) := by decide +kernel
theorem dX4_allSand_25 : decode cX4_allSand 25 = .ok (.iload_n 1, 1) := by decide +kernel
theorem dX4_allSand_26 : decode cX4_allSand 26 = .ok (.ireturn, 1) := by decide +kernel
theorem dX4_held_0 : decode cX4_held 0 = .ok (.iconst 0, 1) := by decide +kernel
theorem dX4_held_1 : decode cX4_held 1 = .ok (.istore_n 1, 1) := by decide +kernel
theorem dX4_held_2 : decode cX4_held 2 = .ok (.iconst 0, 1) := by decide +kernel
theorem dX4_held_3 : decode cX4_held 3 = .ok (.istore_n 2, 1) := by decide +kernel
theorem dX4_held_4 : decode cX4_held 4 = .ok (.iload_n 2, 1) := by decide +kernel
theorem dX4_held_5 : decode cX4_held 5 = .ok (.bipush 10, 2) := by decide +kernel
theorem dX4_held_7 : decode cX4_held 7 = .ok (.if_icmp .ge 29, 3) := by decide +kernel
theorem dX4_held_10 : decode cX4_held 10 = .ok (.iload_n 1, 1) := by decide +kernel
theorem dX4_held_11 : decode cX4_held 11 = .ok (.aload_n 0, 1) := by decide +kernel
theorem dX4_held_12 : decode cX4_held 12 = .ok (.getfield 9, 3) := by decide +kernel
theorem dX4_held_15 : decode cX4_held 15 = .ok (.bipush 109, 2) := by decide +kernel
theorem dX4_held_17 : decode cX4_held 17 = .ok (.iload_n 2, 1) := by decide +kernel
theorem dX4_held_18 : decode cX4_held 18 = .ok (.iadd, 1) := by decide +kernel
theorem dX4_held_19 : decode cX4_held 19 = .ok (.iaload, 1) := by decide +kernel
theorem dX4_held_20 : decode cX4_held 20 = .ok (.ifCond .ge 7, 3) := by decide +kernel
theorem dX4_held_23 : decode cX4_held 23 = .ok (.iconst 0, 1) := by decide +kernel
theorem dX4_held_24 : decode cX4_held 24 = .ok (.goto 4, 3) := by decide +kernel
theorem dX4_held_27 : decode cX4_held 27 = .ok (.iconst 1, 1) := by decide +kernel
theorem dX4_held_28 : decode cX4_held 28 = .ok (.iadd, 1) := by decide +kernel
theorem dX4_held_29 : decode cX4_held 29 = .ok (.istore_n 1, 1) := by decide +kernel
theorem dX4_held_30 : decode cX4_held 30 = .ok (.iinc 2 1, 3) := by decide +kernel
theorem dX4_held_33 : decode cX4_held 33 = .ok (.goto (-29), 3) := by decide +kernel
theorem dX4_held_36 : decode cX4_held 36 = .ok (.iload_n 1, 1) := by decide +kernel
theorem dX4_held_37 : decode cX4_held 37 = .ok (.ireturn, 1) := by decide +kernel
theorem dX4_count_0 : decode cX4_count 0 = .ok (.iload_n 1, 1) := by decide +kernel
theorem dX4_count_1 : decode cX4_count 1 = .ok (.tableswitch 93 0 7 #[47, 54, 61, 66, 71, 76, 81, 88], 47) := by decide +kernel
theorem dX4_count_48 : decode cX4_count 48 = .ok (.aload_n 0, 1) := by decide +kernel
theorem dX4_count_49 : decode cX4_count 49 = .ok (.getfield 9, 3) := by decide +kernel
theorem dX4_count_52 : decode cX4_count 52 = .ok (.iconst 0, 1) := by decide +kernel
theorem dX4_count_53 : decode cX4_count 53 = .ok (.iaload, 1) := by decide +kernel
theorem dX4_count_54 : decode cX4_count 54 = .ok (.ireturn, 1) := by decide +kernel
theorem dX4_count_55 : decode cX4_count 55 = .ok (.aload_n 0, 1) := by decide +kernel
theorem dX4_count_56 : decode cX4_count 56 = .ok (.getfield 9, 3) := by decide +kernel
theorem dX4_count_59 : decode cX4_count 59 = .ok (.iconst 1, 1) := by decide +kernel
theorem dX4_count_60 : decode cX4_count 60 = .ok (.iaload, 1) := by decide +kernel
theorem dX4_count_61 : decode cX4_count 61 = .ok (.ireturn, 1) := by decide +kernel
theorem dX4_count_62 : decode cX4_count 62 = .ok (.aload_n 0, 1) := by decide +kernel
theorem dX4_count_63 : decode cX4_count 63 = .ok (.invokevirtual 370, 3) := by decide +kernel
theorem dX4_count_66 : decode cX4_count 66 = .ok (.ireturn, 1) := by decide +kernel
theorem dX4_count_67 : decode cX4_count 67 = .ok (.aload_n 0, 1) := by decide +kernel
theorem dX4_count_68 : decode cX4_count 68 = .ok (.invokevirtual 159, 3) := by decide +kernel
theorem dX4_count_71 : decode cX4_count 71 = .ok (.ireturn, 1) := by decide +kernel
theorem dX4_count_72 : decode cX4_count 72 = .ok (.aload_n 0, 1) := by decide +kernel
theorem dX4_count_73 : decode cX4_count 73 = .ok (.invokevirtual 373, 3) := by decide +kernel
theorem dX4_count_76 : decode cX4_count 76 = .ok (.ireturn, 1) := by decide +kernel
theorem dX4_count_77 : decode cX4_count 77 = .ok (.aload_n 0, 1) := by decide +kernel
theorem dX4_count_78 : decode cX4_count 78 = .ok (.getfield 260, 3) := by decide +kernel
theorem dX4_count_81 : decode cX4_count 81 = .ok (.ireturn, 1) := by decide +kernel
theorem dX4_count_82 : decode cX4_count 82 = .ok (.aload_n 0, 1) := by decide +kernel
theorem dX4_count_83 : decode cX4_count 83 = .ok (.getfield 9, 3) := by decide +kernel
theorem dX4_count_86 : decode cX4_count 86 = .ok (.iconst 4, 1) := by decide +kernel
theorem dX4_count_87 : decode cX4_count 87 = .ok (.iaload, 1) := by decide +kernel
theorem dX4_count_88 : decode cX4_count 88 = .ok (.ireturn, 1) := by decide +kernel
theorem dX4_count_89 : decode cX4_count 89 = .ok (.aload_n 0, 1) := by decide +kernel
theorem dX4_count_90 : decode cX4_count 90 = .ok (.invokevirtual 376, 3) := by decide +kernel
theorem dX4_count_93 : decode cX4_count 93 = .ok (.ireturn, 1) := by decide +kernel
theorem dX4_count_94 : decode cX4_count 94 = .ok (.aload_n 0, 1) := by decide +kernel
theorem dX4_count_95 : decode cX4_count 95 = .ok (.iconst 0, 1) := by decide +kernel
theorem dX4_count_96 : decode cX4_count 96 = .ok (.invokevirtual 82, 3) := by decide +kernel
theorem dX4_count_99 : decode cX4_count 99 = .ok (.ireturn, 1) := by decide +kernel
theorem dX4_status_0 : decode cX4_status 0 = .ok (.iload_n 1, 1) := by decide +kernel
theorem dX4_status_1 : decode cX4_status 1 = .ok (.i2l, 1) := by decide +kernel
theorem dX4_status_2 : decode cX4_status 2 = .ok (.ldc2_w 379, 3) := by decide +kernel
theorem dX4_status_5 : decode cX4_status 5 = .ok (.ldc2_w 105, 3) := by decide +kernel
theorem dX4_status_8 : decode cX4_status 8 = .ok (.invokestatic 57, 3) := by decide +kernel
theorem dX4_status_11 : decode cX4_status 11 = .ok (.ifCond .ne 9, 3) := by decide +kernel
theorem dX4_status_14 : decode cX4_status 14 = .ok (.aload_n 0, 1) := by decide +kernel
theorem dX4_status_15 : decode cX4_status 15 = .ok (.iconst 0, 1) := by decide +kernel
theorem dX4_status_16 : decode cX4_status 16 = .ok (.invokevirtual 82, 3) := by decide +kernel
theorem dX4_status_19 : decode cX4_status 19 = .ok (.ireturn, 1) := by decide +kernel
theorem dX4_status_20 : decode cX4_status 20 = .ok (.iconst 0, 1) := by decide +kernel
theorem dX4_status_21 : decode cX4_status 21 = .ok (.istore_n 2, 1) := by decide +kernel
theorem dX4_status_22 : decode cX4_status 22 = .ok (.iconst 0, 1) := by decide +kernel
theorem dX4_status_23 : decode cX4_status 23 = .ok (.istore_n 3, 1) := by decide +kernel
theorem dX4_status_24 : decode cX4_status 24 = .ok (.iload_n 3, 1) := by decide +kernel
theorem dX4_status_25 : decode cX4_status 25 = .ok (.bipush 7, 2) := by decide +kernel
theorem dX4_status_27 : decode cX4_status 27 = .ok (.if_icmp .ge 31, 3) := by decide +kernel
theorem dX4_status_30 : decode cX4_status 30 = .ok (.iload_n 2, 1) := by decide +kernel
theorem dX4_status_31 : decode cX4_status 31 = .ok (.iload_n 1, 1) := by decide +kernel
theorem dX4_status_32 : decode cX4_status 32 = .ok (.ifCond .lt 8, 3) := by decide +kernel
theorem dX4_status_35 : decode cX4_status 35 = .ok (.iload_n 1, 1) := by decide +kernel
theorem dX4_status_36 : decode cX4_status 36 = .ok (.iload_n 3, 1) := by decide +kernel
theorem dX4_status_37 : decode cX4_status 37 = .ok (.if_icmp .ne 12, 3) := by decide +kernel
theorem dX4_status_40 : decode cX4_status 40 = .ok (.aload_n 0, 1) := by decide +kernel
theorem dX4_status_41 : decode cX4_status 41 = .ok (.getfield 19, 3) := by decide +kernel
theorem dX4_status_44 : decode cX4_status 44 = .ok (.iload_n 3, 1) := by decide +kernel
theorem dX4_status_45 : decode cX4_status 45 = .ok (.iaload, 1) := by decide +kernel
theorem dX4_status_46 : decode cX4_status 46 = .ok (.goto 4, 3) := by decide +kernel
theorem dX4_status_49 : decode cX4_status 49 = .ok (.iconst 0, 1) := by decide +kernel
theorem dX4_status_50 : decode cX4_status 50 = .ok (.iadd, 1) := by decide +kernel
theorem dX4_status_51 : decode cX4_status 51 = .ok (.istore_n 2, 1) := by decide +kernel
theorem dX4_status_52 : decode cX4_status 52 = .ok (.iinc 3 1, 3) := by decide +kernel
theorem dX4_status_55 : decode cX4_status 55 = .ok (.goto (-31), 3) := by decide +kernel
theorem dX4_status_58 : decode cX4_status 58 = .ok (.iload_n 2, 1) := by decide +kernel
theorem dX4_status_59 : decode cX4_status 59 = .ok (.ireturn, 1) := by decide +kernel
end
section
theorem dL_law_0 : decode cL_law 0 = .ok (.new 7, 3) := by decide +kernel
theorem dL_law_3 : decode cL_law 3 = .ok (.dup, 1) := by decide +kernel
theorem dL_law_4 : decode cL_law 4 = .ok (.invokespecial 9, 3) := by decide +kernel
theorem dL_law_7 : decode cL_law 7 = .ok (.astore_n 1, 1) := by decide +kernel
theorem dL_law_8 : decode cL_law 8 = .ok (.new 10, 3) := by decide +kernel
theorem dL_law_11 : decode cL_law 11 = .ok (.dup, 1) := by decide +kernel
theorem dL_law_12 : decode cL_law 12 = .ok (.invokespecial 12, 3) := by decide +kernel
theorem dL_law_15 : decode cL_law 15 = .ok (.astore_n 2, 1) := by decide +kernel
theorem dL_law_16 : decode cL_law 16 = .ok (.iconst 0, 1) := by decide +kernel
theorem dL_law_17 : decode cL_law 17 = .ok (.istore_n 3, 1) := by decide +kernel
theorem dL_law_18 : decode cL_law 18 = .ok (.iload_n 3, 1) := by decide +kernel
theorem dL_law_19 : decode cL_law 19 = .ok (.aload_n 0, 1) := by decide +kernel
theorem dL_law_20 : decode cL_law 20 = .ok (.arraylength, 1) := by decide +kernel
theorem dL_law_21 : decode cL_law 21 = .ok (.bipush 6, 2) := by decide +kernel
theorem dL_law_23 : decode cL_law 23 = .ok (.isub, 1) := by decide +kernel
theorem dL_law_24 : decode cL_law 24 = .ok (.if_icmp .gt 1580, 3) := by decide +kernel
theorem dL_law_27 : decode cL_law 27 = .ok (.aload_n 0, 1) := by decide +kernel
theorem dL_law_28 : decode cL_law 28 = .ok (.iload_n 3, 1) := by decide +kernel
theorem dL_law_29 : decode cL_law 29 = .ok (.iaload, 1) := by decide +kernel
theorem dL_law_30 : decode cL_law 30 = .ok (.bipush 63, 2) := by decide +kernel
theorem dL_law_32 : decode cL_law 32 = .ok (.iand, 1) := by decide +kernel
theorem dL_law_33 : decode cL_law 33 = .ok (.tableswitch 1565 0 46 #[203, 236, 279, 312, 345, 388, 411, 434, 457, 480, 503, 536, 569, 592, 605, 628, 661, 694, 717, 740, 783, 826, 869, 912, 955, 978, 1011, 1044, 1057, 1070, 1093, 1137, 1160, 1193, 1206, 1219, 1252, 1285, 1328, 1371, 1434, 1457, 1480, 1493, 1506, 1519, 1542], 203) := by decide +kernel
theorem dL_law_236 : decode cL_law 236 = .ok (.aload_n 1, 1) := by decide +kernel
theorem dL_law_237 : decode cL_law 237 = .ok (.aload_n 0, 1) := by decide +kernel
theorem dL_law_238 : decode cL_law 238 = .ok (.iload_n 3, 1) := by decide +kernel
theorem dL_law_239 : decode cL_law 239 = .ok (.iconst 1, 1) := by decide +kernel
theorem dL_law_240 : decode cL_law 240 = .ok (.iadd, 1) := by decide +kernel
theorem dL_law_241 : decode cL_law 241 = .ok (.iaload, 1) := by decide +kernel
theorem dL_law_242 : decode cL_law 242 = .ok (.aload_n 0, 1) := by decide +kernel
theorem dL_law_243 : decode cL_law 243 = .ok (.iload_n 3, 1) := by decide +kernel
theorem dL_law_244 : decode cL_law 244 = .ok (.iconst 2, 1) := by decide +kernel
theorem dL_law_245 : decode cL_law 245 = .ok (.iadd, 1) := by decide +kernel
theorem dL_law_246 : decode cL_law 246 = .ok (.iaload, 1) := by decide +kernel
theorem dL_law_247 : decode cL_law 247 = .ok (.invokevirtual 13, 3) := by decide +kernel
theorem dL_law_250 : decode cL_law 250 = .ok (.aload_n 2, 1) := by decide +kernel
theorem dL_law_251 : decode cL_law 251 = .ok (.aload_n 0, 1) := by decide +kernel
theorem dL_law_252 : decode cL_law 252 = .ok (.iload_n 3, 1) := by decide +kernel
theorem dL_law_253 : decode cL_law 253 = .ok (.iconst 1, 1) := by decide +kernel
theorem dL_law_254 : decode cL_law 254 = .ok (.iadd, 1) := by decide +kernel
theorem dL_law_255 : decode cL_law 255 = .ok (.iaload, 1) := by decide +kernel
theorem dL_law_256 : decode cL_law 256 = .ok (.aload_n 0, 1) := by decide +kernel
theorem dL_law_257 : decode cL_law 257 = .ok (.iload_n 3, 1) := by decide +kernel
theorem dL_law_258 : decode cL_law 258 = .ok (.iconst 2, 1) := by decide +kernel
theorem dL_law_259 : decode cL_law 259 = .ok (.iadd, 1) := by decide +kernel
theorem dL_law_260 : decode cL_law 260 = .ok (.iaload, 1) := by decide +kernel
theorem dL_law_261 : decode cL_law 261 = .ok (.invokevirtual 17, 3) := by decide +kernel
theorem dL_law_264 : decode cL_law 264 = .ok (.if_icmp .eq 1334, 3) := by decide +kernel
theorem dL_law_267 : decode cL_law 267 = .ok (.iconst 0, 1) := by decide +kernel
theorem dL_law_268 : decode cL_law 268 = .ok (.ireturn, 1) := by decide +kernel
theorem dL_law_269 : decode cL_law 269 = .ok (.aload_n 1, 1) := by decide +kernel
theorem dL_law_270 : decode cL_law 270 = .ok (.aload_n 0, 1) := by decide +kernel
theorem dL_law_271 : decode cL_law 271 = .ok (.iload_n 3, 1) := by decide +kernel
theorem dL_law_272 : decode cL_law 272 = .ok (.iconst 1, 1) := by decide +kernel
theorem dL_law_273 : decode cL_law 273 = .ok (.iadd, 1) := by decide +kernel
theorem dL_law_274 : decode cL_law 274 = .ok (.iaload, 1) := by decide +kernel
theorem dL_law_275 : decode cL_law 275 = .ok (.aload_n 0, 1) := by decide +kernel
theorem dL_law_276 : decode cL_law 276 = .ok (.iload_n 3, 1) := by decide +kernel
theorem dL_law_277 : decode cL_law 277 = .ok (.iconst 2, 1) := by decide +kernel
theorem dL_law_278 : decode cL_law 278 = .ok (.iadd, 1) := by decide +kernel
theorem dL_law_279 : decode cL_law 279 = .ok (.iaload, 1) := by decide +kernel
theorem dL_law_280 : decode cL_law 280 = .ok (.aload_n 0, 1) := by decide +kernel
theorem dL_law_281 : decode cL_law 281 = .ok (.iload_n 3, 1) := by decide +kernel
theorem dL_law_282 : decode cL_law 282 = .ok (.iconst 3, 1) := by decide +kernel
theorem dL_law_283 : decode cL_law 283 = .ok (.iadd, 1) := by decide +kernel
theorem dL_law_284 : decode cL_law 284 = .ok (.iaload, 1) := by decide +kernel
theorem dL_law_285 : decode cL_law 285 = .ok (.invokevirtual 18, 3) := by decide +kernel
theorem dL_law_288 : decode cL_law 288 = .ok (.aload_n 2, 1) := by decide +kernel
theorem dL_law_289 : decode cL_law 289 = .ok (.aload_n 0, 1) := by decide +kernel
theorem dL_law_290 : decode cL_law 290 = .ok (.iload_n 3, 1) := by decide +kernel
theorem dL_law_291 : decode cL_law 291 = .ok (.iconst 1, 1) := by decide +kernel
theorem dL_law_292 : decode cL_law 292 = .ok (.iadd, 1) := by decide +kernel
theorem dL_law_293 : decode cL_law 293 = .ok (.iaload, 1) := by decide +kernel
theorem dL_law_294 : decode cL_law 294 = .ok (.aload_n 0, 1) := by decide +kernel
theorem dL_law_295 : decode cL_law 295 = .ok (.iload_n 3, 1) := by decide +kernel
theorem dL_law_296 : decode cL_law 296 = .ok (.iconst 2, 1) := by decide +kernel
theorem dL_law_297 : decode cL_law 297 = .ok (.iadd, 1) := by decide +kernel
theorem dL_law_298 : decode cL_law 298 = .ok (.iaload, 1) := by decide +kernel
theorem dL_law_299 : decode cL_law 299 = .ok (.aload_n 0, 1) := by decide +kernel
theorem dL_law_300 : decode cL_law 300 = .ok (.iload_n 3, 1) := by decide +kernel
theorem dL_law_301 : decode cL_law 301 = .ok (.iconst 3, 1) := by decide +kernel
theorem dL_law_302 : decode cL_law 302 = .ok (.iadd, 1) := by decide +kernel
theorem dL_law_303 : decode cL_law 303 = .ok (.iaload, 1) := by decide +kernel
theorem dL_law_304 : decode cL_law 304 = .ok (.invokevirtual 22, 3) := by decide +kernel
theorem dL_law_307 : decode cL_law 307 = .ok (.if_icmp .eq 1291, 3) := by decide +kernel
theorem dL_law_310 : decode cL_law 310 = .ok (.iconst 0, 1) := by decide +kernel
theorem dL_law_311 : decode cL_law 311 = .ok (.ireturn, 1) := by decide +kernel
theorem dL_law_312 : decode cL_law 312 = .ok (.aload_n 1, 1) := by decide +kernel
theorem dL_law_313 : decode cL_law 313 = .ok (.aload_n 0, 1) := by decide +kernel
theorem dL_law_314 : decode cL_law 314 = .ok (.iload_n 3, 1) := by decide +kernel
theorem dL_law_315 : decode cL_law 315 = .ok (.iconst 1, 1) := by decide +kernel
theorem dL_law_316 : decode cL_law 316 = .ok (.iadd, 1) := by decide +kernel
theorem dL_law_317 : decode cL_law 317 = .ok (.iaload, 1) := by decide +kernel
theorem dL_law_318 : decode cL_law 318 = .ok (.aload_n 0, 1) := by decide +kernel
theorem dL_law_319 : decode cL_law 319 = .ok (.iload_n 3, 1) := by decide +kernel
theorem dL_law_320 : decode cL_law 320 = .ok (.iconst 2, 1) := by decide +kernel
theorem dL_law_321 : decode cL_law 321 = .ok (.iadd, 1) := by decide +kernel
theorem dL_law_322 : decode cL_law 322 = .ok (.iaload, 1) := by decide +kernel
theorem dL_law_323 : decode cL_law 323 = .ok (.invokevirtual 23, 3) := by decide +kernel
theorem dL_law_326 : decode cL_law 326 = .ok (.aload_n 2, 1) := by decide +kernel
theorem dL_law_327 : decode cL_law 327 = .ok (.aload_n 0, 1) := by decide +kernel
theorem dL_law_328 : decode cL_law 328 = .ok (.iload_n 3, 1) := by decide +kernel
theorem dL_law_329 : decode cL_law 329 = .ok (.iconst 1, 1) := by decide +kernel
theorem dL_law_330 : decode cL_law 330 = .ok (.iadd, 1) := by decide +kernel
theorem dL_law_331 : decode cL_law 331 = .ok (.iaload, 1) := by decide +kernel
theorem dL_law_332 : decode cL_law 332 = .ok (.aload_n 0, 1) := by decide +kernel
theorem dL_law_333 : decode cL_law 333 = .ok (.iload_n 3, 1) := by decide +kernel
theorem dL_law_334 : decode cL_law 334 = .ok (.iconst 2, 1) := by decide +kernel
theorem dL_law_335 : decode cL_law 335 = .ok (.iadd, 1) := by decide +kernel
theorem dL_law_336 : decode cL_law 336 = .ok (.iaload, 1) := by decide +kernel
theorem dL_law_337 : decode cL_law 337 = .ok (.invokevirtual 26, 3) := by decide +kernel
theorem dL_law_340 : decode cL_law 340 = .ok (.if_icmp .eq 1258, 3) := by decide +kernel
theorem dL_law_343 : decode cL_law 343 = .ok (.iconst 0, 1) := by decide +kernel
theorem dL_law_344 : decode cL_law 344 = .ok (.ireturn, 1) := by decide +kernel
theorem dL_law_345 : decode cL_law 345 = .ok (.aload_n 1, 1) := by decide +kernel
theorem dL_law_346 : decode cL_law 346 = .ok (.aload_n 0, 1) := by decide +kernel
theorem dL_law_347 : decode cL_law 347 = .ok (.iload_n 3, 1) := by decide +kernel
theorem dL_law_348 : decode cL_law 348 = .ok (.iconst 1, 1) := by decide +kernel
theorem dL_law_349 : decode cL_law 349 = .ok (.iadd, 1) := by decide +kernel
theorem dL_law_350 : decode cL_law 350 = .ok (.iaload, 1) := by decide +kernel
theorem dL_law_351 : decode cL_law 351 = .ok (.aload_n 0, 1) := by decide +kernel
theorem dL_law_352 : decode cL_law 352 = .ok (.iload_n 3, 1) := by decide +kernel
theorem dL_law_353 : decode cL_law 353 = .ok (.iconst 2, 1) := by decide +kernel
theorem dL_law_354 : decode cL_law 354 = .ok (.iadd, 1) := by decide +kernel
theorem dL_law_355 : decode cL_law 355 = .ok (.iaload, 1) := by decide +kernel
theorem dL_law_356 : decode cL_law 356 = .ok (.invokevirtual 27, 3) := by decide +kernel
theorem dL_law_359 : decode cL_law 359 = .ok (.aload_n 2, 1) := by decide +kernel
theorem dL_law_360 : decode cL_law 360 = .ok (.aload_n 0, 1) := by decide +kernel
theorem dL_law_361 : decode cL_law 361 = .ok (.iload_n 3, 1) := by decide +kernel
theorem dL_law_362 : decode cL_law 362 = .ok (.iconst 1, 1) := by decide +kernel
theorem dL_law_363 : decode cL_law 363 = .ok (.iadd, 1) := by decide +kernel
theorem dL_law_364 : decode cL_law 364 = .ok (.iaload, 1) := by decide +kernel
theorem dL_law_365 : decode cL_law 365 = .ok (.aload_n 0, 1) := by decide +kernel
theorem dL_law_366 : decode cL_law 366 = .ok (.iload_n 3, 1) := by decide +kernel
theorem dL_law_367 : decode cL_law 367 = .ok (.iconst 2, 1) := by decide +kernel
theorem dL_law_368 : decode cL_law 368 = .ok (.iadd, 1) := by decide +kernel
theorem dL_law_369 : decode cL_law 369 = .ok (.iaload, 1) := by decide +kernel
theorem dL_law_370 : decode cL_law 370 = .ok (.invokevirtual 30, 3) := by decide +kernel
theorem dL_law_373 : decode cL_law 373 = .ok (.if_icmp .eq 1225, 3) := by decide +kernel
theorem dL_law_376 : decode cL_law 376 = .ok (.iconst 0, 1) := by decide +kernel
theorem dL_law_377 : decode cL_law 377 = .ok (.ireturn, 1) := by decide +kernel
theorem dL_law_378 : decode cL_law 378 = .ok (.aload_n 1, 1) := by decide +kernel
theorem dL_law_379 : decode cL_law 379 = .ok (.aload_n 0, 1) := by decide +kernel
theorem dL_law_380 : decode cL_law 380 = .ok (.iload_n 3, 1) := by decide +kernel
theorem dL_law_381 : decode cL_law 381 = .ok (.iconst 1, 1) := by decide +kernel
theorem dL_law_382 : decode cL_law 382 = .ok (.iadd, 1) := by decide +kernel
theorem dL_law_383 : decode cL_law 383 = .ok (.iaload, 1) := by decide +kernel
theorem dL_law_384 : decode cL_law 384 = .ok (.aload_n 0, 1) := by decide +kernel
theorem dL_law_385 : decode cL_law 385 = .ok (.iload_n 3, 1) := by decide +kernel
theorem dL_law_386 : decode cL_law 386 = .ok (.iconst 2, 1) := by decide +kernel
theorem dL_law_387 : decode cL_law 387 = .ok (.iadd, 1) := by decide +kernel
theorem dL_law_388 : decode cL_law 388 = .ok (.iaload, 1) := by decide +kernel
theorem dL_law_389 : decode cL_law 389 = .ok (.aload_n 0, 1) := by decide +kernel
theorem dL_law_390 : decode cL_law 390 = .ok (.iload_n 3, 1) := by decide +kernel
theorem dL_law_391 : decode cL_law 391 = .ok (.iconst 3, 1) := by decide +kernel
theorem dL_law_392 : decode cL_law 392 = .ok (.iadd, 1) := by decide +kernel
theorem dL_law_393 : decode cL_law 393 = .ok (.iaload, 1) := by decide +kernel
theorem dL_law_394 : decode cL_law 394 = .ok (.invokevirtual 31, 3) := by decide +kernel
theorem dL_law_397 : decode cL_law 397 = .ok (.aload_n 2, 1) := by decide +kernel
theorem dL_law_398 : decode cL_law 398 = .ok (.aload_n 0, 1) := by decide +kernel
theorem dL_law_399 : decode cL_law 399 = .ok (.iload_n 3, 1) := by decide +kernel
theorem dL_law_400 : decode cL_law 400 = .ok (.iconst 1, 1) := by decide +kernel
theorem dL_law_401 : decode cL_law 401 = .ok (.iadd, 1) := by decide +kernel
theorem dL_law_402 : decode cL_law 402 = .ok (.iaload, 1) := by decide +kernel
theorem dL_law_403 : decode cL_law 403 = .ok (.aload_n 0, 1) := by decide +kernel
theorem dL_law_404 : decode cL_law 404 = .ok (.iload_n 3, 1) := by decide +kernel
theorem dL_law_405 : decode cL_law 405 = .ok (.iconst 2, 1) := by decide +kernel
theorem dL_law_406 : decode cL_law 406 = .ok (.iadd, 1) := by decide +kernel
theorem dL_law_407 : decode cL_law 407 = .ok (.iaload, 1) := by decide +kernel
theorem dL_law_408 : decode cL_law 408 = .ok (.aload_n 0, 1) := by decide +kernel
theorem dL_law_409 : decode cL_law 409 = .ok (.iload_n 3, 1) := by decide +kernel
theorem dL_law_410 : decode cL_law 410 = .ok (.iconst 3, 1) := by decide +kernel
theorem dL_law_411 : decode cL_law 411 = .ok (.iadd, 1) := by decide +kernel
theorem dL_law_412 : decode cL_law 412 = .ok (.iaload, 1) := by decide +kernel
theorem dL_law_413 : decode cL_law 413 = .ok (.invokevirtual 34, 3) := by decide +kernel
theorem dL_law_416 : decode cL_law 416 = .ok (.if_icmp .eq 1182, 3) := by decide +kernel
theorem dL_law_419 : decode cL_law 419 = .ok (.iconst 0, 1) := by decide +kernel
theorem dL_law_420 : decode cL_law 420 = .ok (.ireturn, 1) := by decide +kernel
theorem dL_law_421 : decode cL_law 421 = .ok (.aload_n 1, 1) := by decide +kernel
theorem dL_law_422 : decode cL_law 422 = .ok (.aload_n 0, 1) := by decide +kernel
theorem dL_law_423 : decode cL_law 423 = .ok (.iload_n 3, 1) := by decide +kernel
theorem dL_law_424 : decode cL_law 424 = .ok (.iconst 1, 1) := by decide +kernel
theorem dL_law_425 : decode cL_law 425 = .ok (.iadd, 1) := by decide +kernel
theorem dL_law_426 : decode cL_law 426 = .ok (.iaload, 1) := by decide +kernel
theorem dL_law_427 : decode cL_law 427 = .ok (.invokevirtual 35, 3) := by decide +kernel
theorem dL_law_430 : decode cL_law 430 = .ok (.aload_n 2, 1) := by decide +kernel
theorem dL_law_431 : decode cL_law 431 = .ok (.aload_n 0, 1) := by decide +kernel
theorem dL_law_432 : decode cL_law 432 = .ok (.iload_n 3, 1) := by decide +kernel
theorem dL_law_433 : decode cL_law 433 = .ok (.iconst 1, 1) := by decide +kernel
theorem dL_law_434 : decode cL_law 434 = .ok (.iadd, 1) := by decide +kernel
theorem dL_law_435 : decode cL_law 435 = .ok (.iaload, 1) := by decide +kernel
theorem dL_law_436 : decode cL_law 436 = .ok (.invokevirtual 39, 3) := by decide +kernel
theorem dL_law_439 : decode cL_law 439 = .ok (.if_icmp .eq 1159, 3) := by decide +kernel
theorem dL_law_442 : decode cL_law 442 = .ok (.iconst 0, 1) := by decide +kernel
theorem dL_law_443 : decode cL_law 443 = .ok (.ireturn, 1) := by decide +kernel
theorem dL_law_444 : decode cL_law 444 = .ok (.aload_n 1, 1) := by decide +kernel
theorem dL_law_445 : decode cL_law 445 = .ok (.aload_n 0, 1) := by decide +kernel
theorem dL_law_446 : decode cL_law 446 = .ok (.iload_n 3, 1) := by decide +kernel
theorem dL_law_447 : decode cL_law 447 = .ok (.iconst 1, 1) := by decide +kernel
theorem dL_law_448 : decode cL_law 448 = .ok (.iadd, 1) := by decide +kernel
theorem dL_law_449 : decode cL_law 449 = .ok (.iaload, 1) := by decide +kernel
theorem dL_law_450 : decode cL_law 450 = .ok (.invokevirtual 40, 3) := by decide +kernel
theorem dL_law_453 : decode cL_law 453 = .ok (.aload_n 2, 1) := by decide +kernel
theorem dL_law_454 : decode cL_law 454 = .ok (.aload_n 0, 1) := by decide +kernel
theorem dL_law_455 : decode cL_law 455 = .ok (.iload_n 3, 1) := by decide +kernel
theorem dL_law_456 : decode cL_law 456 = .ok (.iconst 1, 1) := by decide +kernel
theorem dL_law_457 : decode cL_law 457 = .ok (.iadd, 1) := by decide +kernel
theorem dL_law_458 : decode cL_law 458 = .ok (.iaload, 1) := by decide +kernel
theorem dL_law_459 : decode cL_law 459 = .ok (.invokevirtual 43, 3) := by decide +kernel
theorem dL_law_462 : decode cL_law 462 = .ok (.if_icmp .eq 1136, 3) := by decide +kernel
theorem dL_law_465 : decode cL_law 465 = .ok (.iconst 0, 1) := by decide +kernel
theorem dL_law_466 : decode cL_law 466 = .ok (.ireturn, 1) := by decide +kernel
theorem dL_law_467 : decode cL_law 467 = .ok (.aload_n 1, 1) := by decide +kernel
theorem dL_law_468 : decode cL_law 468 = .ok (.aload_n 0, 1) := by decide +kernel
theorem dL_law_469 : decode cL_law 469 = .ok (.iload_n 3, 1) := by decide +kernel
theorem dL_law_470 : decode cL_law 470 = .ok (.iconst 1, 1) := by decide +kernel
theorem dL_law_471 : decode cL_law 471 = .ok (.iadd, 1) := by decide +kernel
theorem dL_law_472 : decode cL_law 472 = .ok (.iaload, 1) := by decide +kernel
theorem dL_law_473 : decode cL_law 473 = .ok (.invokevirtual 44, 3) := by decide +kernel
theorem dL_law_476 : decode cL_law 476 = .ok (.aload_n 2, 1) := by decide +kernel
theorem dL_law_477 : decode cL_law 477 = .ok (.aload_n 0, 1) := by decide +kernel
theorem dL_law_478 : decode cL_law 478 = .ok (.iload_n 3, 1) := by decide +kernel
theorem dL_law_479 : decode cL_law 479 = .ok (.iconst 1, 1) := by decide +kernel
theorem dL_law_480 : decode cL_law 480 = .ok (.iadd, 1) := by decide +kernel
theorem dL_law_481 : decode cL_law 481 = .ok (.iaload, 1) := by decide +kernel
theorem dL_law_482 : decode cL_law 482 = .ok (.invokevirtual 47, 3) := by decide +kernel
theorem dL_law_485 : decode cL_law 485 = .ok (.if_icmp .eq 1113, 3) := by decide +kernel
theorem dL_law_488 : decode cL_law 488 = .ok (.iconst 0, 1) := by decide +kernel
theorem dL_law_489 : decode cL_law 489 = .ok (.ireturn, 1) := by decide +kernel
theorem dL_law_490 : decode cL_law 490 = .ok (.aload_n 1, 1) := by decide +kernel
theorem dL_law_491 : decode cL_law 491 = .ok (.aload_n 0, 1) := by decide +kernel
theorem dL_law_492 : decode cL_law 492 = .ok (.iload_n 3, 1) := by decide +kernel
theorem dL_law_493 : decode cL_law 493 = .ok (.iconst 1, 1) := by decide +kernel
theorem dL_law_494 : decode cL_law 494 = .ok (.iadd, 1) := by decide +kernel
theorem dL_law_495 : decode cL_law 495 = .ok (.iaload, 1) := by decide +kernel
theorem dL_law_496 : decode cL_law 496 = .ok (.invokevirtual 48, 3) := by decide +kernel
theorem dL_law_499 : decode cL_law 499 = .ok (.aload_n 2, 1) := by decide +kernel
theorem dL_law_500 : decode cL_law 500 = .ok (.aload_n 0, 1) := by decide +kernel
theorem dL_law_501 : decode cL_law 501 = .ok (.iload_n 3, 1) := by decide +kernel
theorem dL_law_502 : decode cL_law 502 = .ok (.iconst 1, 1) := by decide +kernel
theorem dL_law_503 : decode cL_law 503 = .ok (.iadd, 1) := by decide +kernel
theorem dL_law_504 : decode cL_law 504 = .ok (.iaload, 1) := by decide +kernel
theorem dL_law_505 : decode cL_law 505 = .ok (.invokevirtual 51, 3) := by decide +kernel
theorem dL_law_508 : decode cL_law 508 = .ok (.if_icmp .eq 1090, 3) := by decide +kernel
theorem dL_law_511 : decode cL_law 511 = .ok (.iconst 0, 1) := by decide +kernel
theorem dL_law_512 : decode cL_law 512 = .ok (.ireturn, 1) := by decide +kernel
theorem dL_law_513 : decode cL_law 513 = .ok (.aload_n 1, 1) := by decide +kernel
theorem dL_law_514 : decode cL_law 514 = .ok (.aload_n 0, 1) := by decide +kernel
theorem dL_law_515 : decode cL_law 515 = .ok (.iload_n 3, 1) := by decide +kernel
theorem dL_law_516 : decode cL_law 516 = .ok (.iconst 1, 1) := by decide +kernel
theorem dL_law_517 : decode cL_law 517 = .ok (.iadd, 1) := by decide +kernel
theorem dL_law_518 : decode cL_law 518 = .ok (.iaload, 1) := by decide +kernel
theorem dL_law_519 : decode cL_law 519 = .ok (.invokevirtual 52, 3) := by decide +kernel
theorem dL_law_522 : decode cL_law 522 = .ok (.aload_n 2, 1) := by decide +kernel
theorem dL_law_523 : decode cL_law 523 = .ok (.aload_n 0, 1) := by decide +kernel
theorem dL_law_524 : decode cL_law 524 = .ok (.iload_n 3, 1) := by decide +kernel
theorem dL_law_525 : decode cL_law 525 = .ok (.iconst 1, 1) := by decide +kernel
theorem dL_law_526 : decode cL_law 526 = .ok (.iadd, 1) := by decide +kernel
theorem dL_law_527 : decode cL_law 527 = .ok (.iaload, 1) := by decide +kernel
theorem dL_law_528 : decode cL_law 528 = .ok (.invokevirtual 55, 3) := by decide +kernel
theorem dL_law_531 : decode cL_law 531 = .ok (.if_icmp .eq 1067, 3) := by decide +kernel
theorem dL_law_534 : decode cL_law 534 = .ok (.iconst 0, 1) := by decide +kernel
theorem dL_law_535 : decode cL_law 535 = .ok (.ireturn, 1) := by decide +kernel
theorem dL_law_536 : decode cL_law 536 = .ok (.aload_n 1, 1) := by decide +kernel
theorem dL_law_537 : decode cL_law 537 = .ok (.aload_n 0, 1) := by decide +kernel
theorem dL_law_538 : decode cL_law 538 = .ok (.iload_n 3, 1) := by decide +kernel
theorem dL_law_539 : decode cL_law 539 = .ok (.iconst 1, 1) := by decide +kernel
theorem dL_law_540 : decode cL_law 540 = .ok (.iadd, 1) := by decide +kernel
theorem dL_law_541 : decode cL_law 541 = .ok (.iaload, 1) := by decide +kernel
theorem dL_law_542 : decode cL_law 542 = .ok (.aload_n 0, 1) := by decide +kernel
theorem dL_law_543 : decode cL_law 543 = .ok (.iload_n 3, 1) := by decide +kernel
theorem dL_law_544 : decode cL_law 544 = .ok (.iconst 2, 1) := by decide +kernel
theorem dL_law_545 : decode cL_law 545 = .ok (.iadd, 1) := by decide +kernel
theorem dL_law_546 : decode cL_law 546 = .ok (.iaload, 1) := by decide +kernel
theorem dL_law_547 : decode cL_law 547 = .ok (.invokevirtual 56, 3) := by decide +kernel
theorem dL_law_550 : decode cL_law 550 = .ok (.aload_n 2, 1) := by decide +kernel
theorem dL_law_551 : decode cL_law 551 = .ok (.aload_n 0, 1) := by decide +kernel
theorem dL_law_552 : decode cL_law 552 = .ok (.iload_n 3, 1) := by decide +kernel
theorem dL_law_553 : decode cL_law 553 = .ok (.iconst 1, 1) := by decide +kernel
theorem dL_law_554 : decode cL_law 554 = .ok (.iadd, 1) := by decide +kernel
theorem dL_law_555 : decode cL_law 555 = .ok (.iaload, 1) := by decide +kernel
theorem dL_law_556 : decode cL_law 556 = .ok (.aload_n 0, 1) := by decide +kernel
theorem dL_law_557 : decode cL_law 557 = .ok (.iload_n 3, 1) := by decide +kernel
theorem dL_law_558 : decode cL_law 558 = .ok (.iconst 2, 1) := by decide +kernel
theorem dL_law_559 : decode cL_law 559 = .ok (.iadd, 1) := by decide +kernel
theorem dL_law_560 : decode cL_law 560 = .ok (.iaload, 1) := by decide +kernel
theorem dL_law_561 : decode cL_law 561 = .ok (.invokevirtual 59, 3) := by decide +kernel
theorem dL_law_564 : decode cL_law 564 = .ok (.if_icmp .eq 1034, 3) := by decide +kernel
theorem dL_law_567 : decode cL_law 567 = .ok (.iconst 0, 1) := by decide +kernel
theorem dL_law_568 : decode cL_law 568 = .ok (.ireturn, 1) := by decide +kernel
theorem dL_law_569 : decode cL_law 569 = .ok (.aload_n 1, 1) := by decide +kernel
theorem dL_law_570 : decode cL_law 570 = .ok (.aload_n 0, 1) := by decide +kernel
theorem dL_law_571 : decode cL_law 571 = .ok (.iload_n 3, 1) := by decide +kernel
theorem dL_law_572 : decode cL_law 572 = .ok (.iconst 1, 1) := by decide +kernel
theorem dL_law_573 : decode cL_law 573 = .ok (.iadd, 1) := by decide +kernel
theorem dL_law_574 : decode cL_law 574 = .ok (.iaload, 1) := by decide +kernel
theorem dL_law_575 : decode cL_law 575 = .ok (.aload_n 0, 1) := by decide +kernel
theorem dL_law_576 : decode cL_law 576 = .ok (.iload_n 3, 1) := by decide +kernel
theorem dL_law_577 : decode cL_law 577 = .ok (.iconst 2, 1) := by decide +kernel
theorem dL_law_578 : decode cL_law 578 = .ok (.iadd, 1) := by decide +kernel
theorem dL_law_579 : decode cL_law 579 = .ok (.iaload, 1) := by decide +kernel
theorem dL_law_580 : decode cL_law 580 = .ok (.invokevirtual 60, 3) := by decide +kernel
theorem dL_law_583 : decode cL_law 583 = .ok (.aload_n 2, 1) := by decide +kernel
theorem dL_law_584 : decode cL_law 584 = .ok (.aload_n 0, 1) := by decide +kernel
theorem dL_law_585 : decode cL_law 585 = .ok (.iload_n 3, 1) := by decide +kernel
theorem dL_law_586 : decode cL_law 586 = .ok (.iconst 1, 1) := by decide +kernel
theorem dL_law_587 : decode cL_law 587 = .ok (.iadd, 1) := by decide +kernel
theorem dL_law_588 : decode cL_law 588 = .ok (.iaload, 1) := by decide +kernel
theorem dL_law_589 : decode cL_law 589 = .ok (.aload_n 0, 1) := by decide +kernel
theorem dL_law_590 : decode cL_law 590 = .ok (.iload_n 3, 1) := by decide +kernel
theorem dL_law_591 : decode cL_law 591 = .ok (.iconst 2, 1) := by decide +kernel
theorem dL_law_592 : decode cL_law 592 = .ok (.iadd, 1) := by decide +kernel
theorem dL_law_593 : decode cL_law 593 = .ok (.iaload, 1) := by decide +kernel
theorem dL_law_594 : decode cL_law 594 = .ok (.invokevirtual 63, 3) := by decide +kernel
theorem dL_law_597 : decode cL_law 597 = .ok (.if_icmp .eq 1001, 3) := by decide +kernel
theorem dL_law_600 : decode cL_law 600 = .ok (.iconst 0, 1) := by decide +kernel
theorem dL_law_601 : decode cL_law 601 = .ok (.ireturn, 1) := by decide +kernel
theorem dL_law_602 : decode cL_law 602 = .ok (.aload_n 1, 1) := by decide +kernel
theorem dL_law_603 : decode cL_law 603 = .ok (.aload_n 0, 1) := by decide +kernel
theorem dL_law_604 : decode cL_law 604 = .ok (.iload_n 3, 1) := by decide +kernel
theorem dL_law_605 : decode cL_law 605 = .ok (.iconst 1, 1) := by decide +kernel
theorem dL_law_606 : decode cL_law 606 = .ok (.iadd, 1) := by decide +kernel
theorem dL_law_607 : decode cL_law 607 = .ok (.iaload, 1) := by decide +kernel
theorem dL_law_608 : decode cL_law 608 = .ok (.invokevirtual 64, 3) := by decide +kernel
theorem dL_law_611 : decode cL_law 611 = .ok (.aload_n 2, 1) := by decide +kernel
theorem dL_law_612 : decode cL_law 612 = .ok (.aload_n 0, 1) := by decide +kernel
theorem dL_law_613 : decode cL_law 613 = .ok (.iload_n 3, 1) := by decide +kernel
theorem dL_law_614 : decode cL_law 614 = .ok (.iconst 1, 1) := by decide +kernel
theorem dL_law_615 : decode cL_law 615 = .ok (.iadd, 1) := by decide +kernel
theorem dL_law_616 : decode cL_law 616 = .ok (.iaload, 1) := by decide +kernel
theorem dL_law_617 : decode cL_law 617 = .ok (.invokevirtual 67, 3) := by decide +kernel
theorem dL_law_620 : decode cL_law 620 = .ok (.if_icmp .eq 978, 3) := by decide +kernel
theorem dL_law_623 : decode cL_law 623 = .ok (.iconst 0, 1) := by decide +kernel
theorem dL_law_624 : decode cL_law 624 = .ok (.ireturn, 1) := by decide +kernel
theorem dL_law_625 : decode cL_law 625 = .ok (.aload_n 1, 1) := by decide +kernel
theorem dL_law_626 : decode cL_law 626 = .ok (.invokevirtual 68, 3) := by decide +kernel
theorem dL_law_629 : decode cL_law 629 = .ok (.aload_n 2, 1) := by decide +kernel
theorem dL_law_630 : decode cL_law 630 = .ok (.invokevirtual 72, 3) := by decide +kernel
theorem dL_law_633 : decode cL_law 633 = .ok (.if_icmp .eq 965, 3) := by decide +kernel
theorem dL_law_636 : decode cL_law 636 = .ok (.iconst 0, 1) := by decide +kernel
theorem dL_law_637 : decode cL_law 637 = .ok (.ireturn, 1) := by decide +kernel
theorem dL_law_638 : decode cL_law 638 = .ok (.aload_n 1, 1) := by decide +kernel
theorem dL_law_639 : decode cL_law 639 = .ok (.aload_n 0, 1) := by decide +kernel
theorem dL_law_640 : decode cL_law 640 = .ok (.iload_n 3, 1) := by decide +kernel
theorem dL_law_641 : decode cL_law 641 = .ok (.iconst 1, 1) := by decide +kernel
theorem dL_law_642 : decode cL_law 642 = .ok (.iadd, 1) := by decide +kernel
theorem dL_law_643 : decode cL_law 643 = .ok (.iaload, 1) := by decide +kernel
theorem dL_law_644 : decode cL_law 644 = .ok (.invokevirtual 73, 3) := by decide +kernel
theorem dL_law_647 : decode cL_law 647 = .ok (.aload_n 2, 1) := by decide +kernel
theorem dL_law_648 : decode cL_law 648 = .ok (.aload_n 0, 1) := by decide +kernel
theorem dL_law_649 : decode cL_law 649 = .ok (.iload_n 3, 1) := by decide +kernel
theorem dL_law_650 : decode cL_law 650 = .ok (.iconst 1, 1) := by decide +kernel
theorem dL_law_651 : decode cL_law 651 = .ok (.iadd, 1) := by decide +kernel
theorem dL_law_652 : decode cL_law 652 = .ok (.iaload, 1) := by decide +kernel
theorem dL_law_653 : decode cL_law 653 = .ok (.invokevirtual 76, 3) := by decide +kernel
theorem dL_law_656 : decode cL_law 656 = .ok (.if_icmp .eq 942, 3) := by decide +kernel
theorem dL_law_659 : decode cL_law 659 = .ok (.iconst 0, 1) := by decide +kernel
theorem dL_law_660 : decode cL_law 660 = .ok (.ireturn, 1) := by decide +kernel
theorem dL_law_661 : decode cL_law 661 = .ok (.aload_n 1, 1) := by decide +kernel
theorem dL_law_662 : decode cL_law 662 = .ok (.aload_n 0, 1) := by decide +kernel
theorem dL_law_663 : decode cL_law 663 = .ok (.iload_n 3, 1) := by decide +kernel
theorem dL_law_664 : decode cL_law 664 = .ok (.iconst 1, 1) := by decide +kernel
theorem dL_law_665 : decode cL_law 665 = .ok (.iadd, 1) := by decide +kernel
theorem dL_law_666 : decode cL_law 666 = .ok (.iaload, 1) := by decide +kernel
theorem dL_law_667 : decode cL_law 667 = .ok (.aload_n 0, 1) := by decide +kernel
theorem dL_law_668 : decode cL_law 668 = .ok (.iload_n 3, 1) := by decide +kernel
theorem dL_law_669 : decode cL_law 669 = .ok (.iconst 2, 1) := by decide +kernel
theorem dL_law_670 : decode cL_law 670 = .ok (.iadd, 1) := by decide +kernel
theorem dL_law_671 : decode cL_law 671 = .ok (.iaload, 1) := by decide +kernel
theorem dL_law_672 : decode cL_law 672 = .ok (.invokevirtual 77, 3) := by decide +kernel
theorem dL_law_675 : decode cL_law 675 = .ok (.aload_n 2, 1) := by decide +kernel
theorem dL_law_676 : decode cL_law 676 = .ok (.aload_n 0, 1) := by decide +kernel
theorem dL_law_677 : decode cL_law 677 = .ok (.iload_n 3, 1) := by decide +kernel
theorem dL_law_678 : decode cL_law 678 = .ok (.iconst 1, 1) := by decide +kernel
theorem dL_law_679 : decode cL_law 679 = .ok (.iadd, 1) := by decide +kernel
theorem dL_law_680 : decode cL_law 680 = .ok (.iaload, 1) := by decide +kernel
theorem dL_law_681 : decode cL_law 681 = .ok (.aload_n 0, 1) := by decide +kernel
theorem dL_law_682 : decode cL_law 682 = .ok (.iload_n 3, 1) := by decide +kernel
theorem dL_law_683 : decode cL_law 683 = .ok (.iconst 2, 1) := by decide +kernel
theorem dL_law_684 : decode cL_law 684 = .ok (.iadd, 1) := by decide +kernel
theorem dL_law_685 : decode cL_law 685 = .ok (.iaload, 1) := by decide +kernel
theorem dL_law_686 : decode cL_law 686 = .ok (.invokevirtual 80, 3) := by decide +kernel
theorem dL_law_689 : decode cL_law 689 = .ok (.if_icmp .eq 909, 3) := by decide +kernel
theorem dL_law_692 : decode cL_law 692 = .ok (.iconst 0, 1) := by decide +kernel
theorem dL_law_693 : decode cL_law 693 = .ok (.ireturn, 1) := by decide +kernel
theorem dL_law_694 : decode cL_law 694 = .ok (.aload_n 1, 1) := by decide +kernel
theorem dL_law_695 : decode cL_law 695 = .ok (.aload_n 0, 1) := by decide +kernel
theorem dL_law_696 : decode cL_law 696 = .ok (.iload_n 3, 1) := by decide +kernel
theorem dL_law_697 : decode cL_law 697 = .ok (.iconst 1, 1) := by decide +kernel
theorem dL_law_698 : decode cL_law 698 = .ok (.iadd, 1) := by decide +kernel
theorem dL_law_699 : decode cL_law 699 = .ok (.iaload, 1) := by decide +kernel
theorem dL_law_700 : decode cL_law 700 = .ok (.aload_n 0, 1) := by decide +kernel
theorem dL_law_701 : decode cL_law 701 = .ok (.iload_n 3, 1) := by decide +kernel
theorem dL_law_702 : decode cL_law 702 = .ok (.iconst 2, 1) := by decide +kernel
theorem dL_law_703 : decode cL_law 703 = .ok (.iadd, 1) := by decide +kernel
theorem dL_law_704 : decode cL_law 704 = .ok (.iaload, 1) := by decide +kernel
theorem dL_law_705 : decode cL_law 705 = .ok (.invokevirtual 81, 3) := by decide +kernel
theorem dL_law_708 : decode cL_law 708 = .ok (.aload_n 2, 1) := by decide +kernel
theorem dL_law_709 : decode cL_law 709 = .ok (.aload_n 0, 1) := by decide +kernel
theorem dL_law_710 : decode cL_law 710 = .ok (.iload_n 3, 1) := by decide +kernel
theorem dL_law_711 : decode cL_law 711 = .ok (.iconst 1, 1) := by decide +kernel
theorem dL_law_712 : decode cL_law 712 = .ok (.iadd, 1) := by decide +kernel
theorem dL_law_713 : decode cL_law 713 = .ok (.iaload, 1) := by decide +kernel
theorem dL_law_714 : decode cL_law 714 = .ok (.aload_n 0, 1) := by decide +kernel
theorem dL_law_715 : decode cL_law 715 = .ok (.iload_n 3, 1) := by decide +kernel
theorem dL_law_716 : decode cL_law 716 = .ok (.iconst 2, 1) := by decide +kernel
theorem dL_law_717 : decode cL_law 717 = .ok (.iadd, 1) := by decide +kernel
theorem dL_law_718 : decode cL_law 718 = .ok (.iaload, 1) := by decide +kernel
theorem dL_law_719 : decode cL_law 719 = .ok (.invokevirtual 84, 3) := by decide +kernel
theorem dL_law_722 : decode cL_law 722 = .ok (.if_icmp .eq 876, 3) := by decide +kernel
theorem dL_law_725 : decode cL_law 725 = .ok (.iconst 0, 1) := by decide +kernel
theorem dL_law_726 : decode cL_law 726 = .ok (.ireturn, 1) := by decide +kernel
theorem dL_law_727 : decode cL_law 727 = .ok (.aload_n 1, 1) := by decide +kernel
theorem dL_law_728 : decode cL_law 728 = .ok (.aload_n 0, 1) := by decide +kernel
theorem dL_law_729 : decode cL_law 729 = .ok (.iload_n 3, 1) := by decide +kernel
theorem dL_law_730 : decode cL_law 730 = .ok (.iconst 1, 1) := by decide +kernel
theorem dL_law_731 : decode cL_law 731 = .ok (.iadd, 1) := by decide +kernel
theorem dL_law_732 : decode cL_law 732 = .ok (.iaload, 1) := by decide +kernel
theorem dL_law_733 : decode cL_law 733 = .ok (.invokevirtual 85, 3) := by decide +kernel
theorem dL_law_736 : decode cL_law 736 = .ok (.aload_n 2, 1) := by decide +kernel
theorem dL_law_737 : decode cL_law 737 = .ok (.aload_n 0, 1) := by decide +kernel
theorem dL_law_738 : decode cL_law 738 = .ok (.iload_n 3, 1) := by decide +kernel
theorem dL_law_739 : decode cL_law 739 = .ok (.iconst 1, 1) := by decide +kernel
theorem dL_law_740 : decode cL_law 740 = .ok (.iadd, 1) := by decide +kernel
theorem dL_law_741 : decode cL_law 741 = .ok (.iaload, 1) := by decide +kernel
theorem dL_law_742 : decode cL_law 742 = .ok (.invokevirtual 88, 3) := by decide +kernel
theorem dL_law_745 : decode cL_law 745 = .ok (.if_icmp .eq 853, 3) := by decide +kernel
theorem dL_law_748 : decode cL_law 748 = .ok (.iconst 0, 1) := by decide +kernel
theorem dL_law_749 : decode cL_law 749 = .ok (.ireturn, 1) := by decide +kernel
theorem dL_law_750 : decode cL_law 750 = .ok (.aload_n 1, 1) := by decide +kernel
theorem dL_law_751 : decode cL_law 751 = .ok (.aload_n 0, 1) := by decide +kernel
theorem dL_law_752 : decode cL_law 752 = .ok (.iload_n 3, 1) := by decide +kernel
theorem dL_law_753 : decode cL_law 753 = .ok (.iconst 1, 1) := by decide +kernel
theorem dL_law_754 : decode cL_law 754 = .ok (.iadd, 1) := by decide +kernel
theorem dL_law_755 : decode cL_law 755 = .ok (.iaload, 1) := by decide +kernel
theorem dL_law_756 : decode cL_law 756 = .ok (.invokevirtual 89, 3) := by decide +kernel
theorem dL_law_759 : decode cL_law 759 = .ok (.aload_n 2, 1) := by decide +kernel
theorem dL_law_760 : decode cL_law 760 = .ok (.aload_n 0, 1) := by decide +kernel
theorem dL_law_761 : decode cL_law 761 = .ok (.iload_n 3, 1) := by decide +kernel
theorem dL_law_762 : decode cL_law 762 = .ok (.iconst 1, 1) := by decide +kernel
theorem dL_law_763 : decode cL_law 763 = .ok (.iadd, 1) := by decide +kernel
theorem dL_law_764 : decode cL_law 764 = .ok (.iaload, 1) := by decide +kernel
theorem dL_law_765 : decode cL_law 765 = .ok (.invokevirtual 92, 3) := by decide +kernel
theorem dL_law_768 : decode cL_law 768 = .ok (.if_icmp .eq 830, 3) := by decide +kernel
theorem dL_law_771 : decode cL_law 771 = .ok (.iconst 0, 1) := by decide +kernel
theorem dL_law_772 : decode cL_law 772 = .ok (.ireturn, 1) := by decide +kernel
theorem dL_law_773 : decode cL_law 773 = .ok (.aload_n 1, 1) := by decide +kernel
theorem dL_law_774 : decode cL_law 774 = .ok (.aload_n 0, 1) := by decide +kernel
theorem dL_law_775 : decode cL_law 775 = .ok (.iload_n 3, 1) := by decide +kernel
theorem dL_law_776 : decode cL_law 776 = .ok (.iconst 1, 1) := by decide +kernel
theorem dL_law_777 : decode cL_law 777 = .ok (.iadd, 1) := by decide +kernel
theorem dL_law_778 : decode cL_law 778 = .ok (.iaload, 1) := by decide +kernel
theorem dL_law_779 : decode cL_law 779 = .ok (.aload_n 0, 1) := by decide +kernel
theorem dL_law_780 : decode cL_law 780 = .ok (.iload_n 3, 1) := by decide +kernel
theorem dL_law_781 : decode cL_law 781 = .ok (.iconst 2, 1) := by decide +kernel
theorem dL_law_782 : decode cL_law 782 = .ok (.iadd, 1) := by decide +kernel
theorem dL_law_783 : decode cL_law 783 = .ok (.iaload, 1) := by decide +kernel
theorem dL_law_784 : decode cL_law 784 = .ok (.aload_n 0, 1) := by decide +kernel
theorem dL_law_785 : decode cL_law 785 = .ok (.iload_n 3, 1) := by decide +kernel
theorem dL_law_786 : decode cL_law 786 = .ok (.iconst 3, 1) := by decide +kernel
theorem dL_law_787 : decode cL_law 787 = .ok (.iadd, 1) := by decide +kernel
theorem dL_law_788 : decode cL_law 788 = .ok (.iaload, 1) := by decide +kernel
theorem dL_law_789 : decode cL_law 789 = .ok (.invokevirtual 93, 3) := by decide +kernel
theorem dL_law_792 : decode cL_law 792 = .ok (.aload_n 2, 1) := by decide +kernel
theorem dL_law_793 : decode cL_law 793 = .ok (.aload_n 0, 1) := by decide +kernel
theorem dL_law_794 : decode cL_law 794 = .ok (.iload_n 3, 1) := by decide +kernel
theorem dL_law_795 : decode cL_law 795 = .ok (.iconst 1, 1) := by decide +kernel
theorem dL_law_796 : decode cL_law 796 = .ok (.iadd, 1) := by decide +kernel
theorem dL_law_797 : decode cL_law 797 = .ok (.iaload, 1) := by decide +kernel
theorem dL_law_798 : decode cL_law 798 = .ok (.aload_n 0, 1) := by decide +kernel
theorem dL_law_799 : decode cL_law 799 = .ok (.iload_n 3, 1) := by decide +kernel
theorem dL_law_800 : decode cL_law 800 = .ok (.iconst 2, 1) := by decide +kernel
theorem dL_law_801 : decode cL_law 801 = .ok (.iadd, 1) := by decide +kernel
theorem dL_law_802 : decode cL_law 802 = .ok (.iaload, 1) := by decide +kernel
theorem dL_law_803 : decode cL_law 803 = .ok (.aload_n 0, 1) := by decide +kernel
theorem dL_law_804 : decode cL_law 804 = .ok (.iload_n 3, 1) := by decide +kernel
theorem dL_law_805 : decode cL_law 805 = .ok (.iconst 3, 1) := by decide +kernel
theorem dL_law_806 : decode cL_law 806 = .ok (.iadd, 1) := by decide +kernel
theorem dL_law_807 : decode cL_law 807 = .ok (.iaload, 1) := by decide +kernel
theorem dL_law_808 : decode cL_law 808 = .ok (.invokevirtual 96, 3) := by decide +kernel
theorem dL_law_811 : decode cL_law 811 = .ok (.if_icmp .eq 787, 3) := by decide +kernel
theorem dL_law_814 : decode cL_law 814 = .ok (.iconst 0, 1) := by decide +kernel
theorem dL_law_815 : decode cL_law 815 = .ok (.ireturn, 1) := by decide +kernel
theorem dL_law_816 : decode cL_law 816 = .ok (.aload_n 1, 1) := by decide +kernel
theorem dL_law_817 : decode cL_law 817 = .ok (.aload_n 0, 1) := by decide +kernel
theorem dL_law_818 : decode cL_law 818 = .ok (.iload_n 3, 1) := by decide +kernel
theorem dL_law_819 : decode cL_law 819 = .ok (.iconst 1, 1) := by decide +kernel
theorem dL_law_820 : decode cL_law 820 = .ok (.iadd, 1) := by decide +kernel
theorem dL_law_821 : decode cL_law 821 = .ok (.iaload, 1) := by decide +kernel
theorem dL_law_822 : decode cL_law 822 = .ok (.aload_n 0, 1) := by decide +kernel
theorem dL_law_823 : decode cL_law 823 = .ok (.iload_n 3, 1) := by decide +kernel
theorem dL_law_824 : decode cL_law 824 = .ok (.iconst 2, 1) := by decide +kernel
theorem dL_law_825 : decode cL_law 825 = .ok (.iadd, 1) := by decide +kernel
theorem dL_law_826 : decode cL_law 826 = .ok (.iaload, 1) := by decide +kernel
theorem dL_law_827 : decode cL_law 827 = .ok (.aload_n 0, 1) := by decide +kernel
theorem dL_law_828 : decode cL_law 828 = .ok (.iload_n 3, 1) := by decide +kernel
theorem dL_law_829 : decode cL_law 829 = .ok (.iconst 3, 1) := by decide +kernel
theorem dL_law_830 : decode cL_law 830 = .ok (.iadd, 1) := by decide +kernel
theorem dL_law_831 : decode cL_law 831 = .ok (.iaload, 1) := by decide +kernel
theorem dL_law_832 : decode cL_law 832 = .ok (.invokevirtual 97, 3) := by decide +kernel
theorem dL_law_835 : decode cL_law 835 = .ok (.aload_n 2, 1) := by decide +kernel
theorem dL_law_836 : decode cL_law 836 = .ok (.aload_n 0, 1) := by decide +kernel
theorem dL_law_837 : decode cL_law 837 = .ok (.iload_n 3, 1) := by decide +kernel
theorem dL_law_838 : decode cL_law 838 = .ok (.iconst 1, 1) := by decide +kernel
theorem dL_law_839 : decode cL_law 839 = .ok (.iadd, 1) := by decide +kernel
theorem dL_law_840 : decode cL_law 840 = .ok (.iaload, 1) := by decide +kernel
theorem dL_law_841 : decode cL_law 841 = .ok (.aload_n 0, 1) := by decide +kernel
theorem dL_law_842 : decode cL_law 842 = .ok (.iload_n 3, 1) := by decide +kernel
theorem dL_law_843 : decode cL_law 843 = .ok (.iconst 2, 1) := by decide +kernel
theorem dL_law_844 : decode cL_law 844 = .ok (.iadd, 1) := by decide +kernel
theorem dL_law_845 : decode cL_law 845 = .ok (.iaload, 1) := by decide +kernel
theorem dL_law_846 : decode cL_law 846 = .ok (.aload_n 0, 1) := by decide +kernel
theorem dL_law_847 : decode cL_law 847 = .ok (.iload_n 3, 1) := by decide +kernel
theorem dL_law_848 : decode cL_law 848 = .ok (.iconst 3, 1) := by decide +kernel
theorem dL_law_849 : decode cL_law 849 = .ok (.iadd, 1) := by decide +kernel
theorem dL_law_850 : decode cL_law 850 = .ok (.iaload, 1) := by decide +kernel
theorem dL_law_851 : decode cL_law 851 = .ok (.invokevirtual 100, 3) := by decide +kernel
theorem dL_law_854 : decode cL_law 854 = .ok (.if_icmp .eq 744, 3) := by decide +kernel
theorem dL_law_857 : decode cL_law 857 = .ok (.iconst 0, 1) := by decide +kernel
theorem dL_law_858 : decode cL_law 858 = .ok (.ireturn, 1) := by decide +kernel
theorem dL_law_859 : decode cL_law 859 = .ok (.aload_n 1, 1) := by decide +kernel
theorem dL_law_860 : decode cL_law 860 = .ok (.aload_n 0, 1) := by decide +kernel
theorem dL_law_861 : decode cL_law 861 = .ok (.iload_n 3, 1) := by decide +kernel
theorem dL_law_862 : decode cL_law 862 = .ok (.iconst 1, 1) := by decide +kernel
theorem dL_law_863 : decode cL_law 863 = .ok (.iadd, 1) := by decide +kernel
theorem dL_law_864 : decode cL_law 864 = .ok (.iaload, 1) := by decide +kernel
theorem dL_law_865 : decode cL_law 865 = .ok (.aload_n 0, 1) := by decide +kernel
theorem dL_law_866 : decode cL_law 866 = .ok (.iload_n 3, 1) := by decide +kernel
theorem dL_law_867 : decode cL_law 867 = .ok (.iconst 2, 1) := by decide +kernel
theorem dL_law_868 : decode cL_law 868 = .ok (.iadd, 1) := by decide +kernel
theorem dL_law_869 : decode cL_law 869 = .ok (.iaload, 1) := by decide +kernel
theorem dL_law_870 : decode cL_law 870 = .ok (.aload_n 0, 1) := by decide +kernel
theorem dL_law_871 : decode cL_law 871 = .ok (.iload_n 3, 1) := by decide +kernel
theorem dL_law_872 : decode cL_law 872 = .ok (.iconst 3, 1) := by decide +kernel
theorem dL_law_873 : decode cL_law 873 = .ok (.iadd, 1) := by decide +kernel
theorem dL_law_874 : decode cL_law 874 = .ok (.iaload, 1) := by decide +kernel
theorem dL_law_875 : decode cL_law 875 = .ok (.invokevirtual 101, 3) := by decide +kernel
theorem dL_law_878 : decode cL_law 878 = .ok (.aload_n 2, 1) := by decide +kernel
theorem dL_law_879 : decode cL_law 879 = .ok (.aload_n 0, 1) := by decide +kernel
theorem dL_law_880 : decode cL_law 880 = .ok (.iload_n 3, 1) := by decide +kernel
theorem dL_law_881 : decode cL_law 881 = .ok (.iconst 1, 1) := by decide +kernel
theorem dL_law_882 : decode cL_law 882 = .ok (.iadd, 1) := by decide +kernel
theorem dL_law_883 : decode cL_law 883 = .ok (.iaload, 1) := by decide +kernel
theorem dL_law_884 : decode cL_law 884 = .ok (.aload_n 0, 1) := by decide +kernel
theorem dL_law_885 : decode cL_law 885 = .ok (.iload_n 3, 1) := by decide +kernel
theorem dL_law_886 : decode cL_law 886 = .ok (.iconst 2, 1) := by decide +kernel
theorem dL_law_887 : decode cL_law 887 = .ok (.iadd, 1) := by decide +kernel
theorem dL_law_888 : decode cL_law 888 = .ok (.iaload, 1) := by decide +kernel
theorem dL_law_889 : decode cL_law 889 = .ok (.aload_n 0, 1) := by decide +kernel
theorem dL_law_890 : decode cL_law 890 = .ok (.iload_n 3, 1) := by decide +kernel
theorem dL_law_891 : decode cL_law 891 = .ok (.iconst 3, 1) := by decide +kernel
theorem dL_law_892 : decode cL_law 892 = .ok (.iadd, 1) := by decide +kernel
theorem dL_law_893 : decode cL_law 893 = .ok (.iaload, 1) := by decide +kernel
theorem dL_law_894 : decode cL_law 894 = .ok (.invokevirtual 104, 3) := by decide +kernel
theorem dL_law_897 : decode cL_law 897 = .ok (.if_icmp .eq 701, 3) := by decide +kernel
theorem dL_law_900 : decode cL_law 900 = .ok (.iconst 0, 1) := by decide +kernel
theorem dL_law_901 : decode cL_law 901 = .ok (.ireturn, 1) := by decide +kernel
theorem dL_law_902 : decode cL_law 902 = .ok (.aload_n 1, 1) := by decide +kernel
theorem dL_law_903 : decode cL_law 903 = .ok (.aload_n 0, 1) := by decide +kernel
theorem dL_law_904 : decode cL_law 904 = .ok (.iload_n 3, 1) := by decide +kernel
theorem dL_law_905 : decode cL_law 905 = .ok (.iconst 1, 1) := by decide +kernel
theorem dL_law_906 : decode cL_law 906 = .ok (.iadd, 1) := by decide +kernel
theorem dL_law_907 : decode cL_law 907 = .ok (.iaload, 1) := by decide +kernel
theorem dL_law_908 : decode cL_law 908 = .ok (.aload_n 0, 1) := by decide +kernel
theorem dL_law_909 : decode cL_law 909 = .ok (.iload_n 3, 1) := by decide +kernel
theorem dL_law_910 : decode cL_law 910 = .ok (.iconst 2, 1) := by decide +kernel
theorem dL_law_911 : decode cL_law 911 = .ok (.iadd, 1) := by decide +kernel
theorem dL_law_912 : decode cL_law 912 = .ok (.iaload, 1) := by decide +kernel
theorem dL_law_913 : decode cL_law 913 = .ok (.aload_n 0, 1) := by decide +kernel
theorem dL_law_914 : decode cL_law 914 = .ok (.iload_n 3, 1) := by decide +kernel
theorem dL_law_915 : decode cL_law 915 = .ok (.iconst 3, 1) := by decide +kernel
theorem dL_law_916 : decode cL_law 916 = .ok (.iadd, 1) := by decide +kernel
theorem dL_law_917 : decode cL_law 917 = .ok (.iaload, 1) := by decide +kernel
theorem dL_law_918 : decode cL_law 918 = .ok (.invokevirtual 105, 3) := by decide +kernel
theorem dL_law_921 : decode cL_law 921 = .ok (.aload_n 2, 1) := by decide +kernel
theorem dL_law_922 : decode cL_law 922 = .ok (.aload_n 0, 1) := by decide +kernel
theorem dL_law_923 : decode cL_law 923 = .ok (.iload_n 3, 1) := by decide +kernel
theorem dL_law_924 : decode cL_law 924 = .ok (.iconst 1, 1) := by decide +kernel
theorem dL_law_925 : decode cL_law 925 = .ok (.iadd, 1) := by decide +kernel
theorem dL_law_926 : decode cL_law 926 = .ok (.iaload, 1) := by decide +kernel
theorem dL_law_927 : decode cL_law 927 = .ok (.aload_n 0, 1) := by decide +kernel
theorem dL_law_928 : decode cL_law 928 = .ok (.iload_n 3, 1) := by decide +kernel
theorem dL_law_929 : decode cL_law 929 = .ok (.iconst 2, 1) := by decide +kernel
theorem dL_law_930 : decode cL_law 930 = .ok (.iadd, 1) := by decide +kernel
theorem dL_law_931 : decode cL_law 931 = .ok (.iaload, 1) := by decide +kernel
theorem dL_law_932 : decode cL_law 932 = .ok (.aload_n 0, 1) := by decide +kernel
theorem dL_law_933 : decode cL_law 933 = .ok (.iload_n 3, 1) := by decide +kernel
theorem dL_law_934 : decode cL_law 934 = .ok (.iconst 3, 1) := by decide +kernel
theorem dL_law_935 : decode cL_law 935 = .ok (.iadd, 1) := by decide +kernel
theorem dL_law_936 : decode cL_law 936 = .ok (.iaload, 1) := by decide +kernel
theorem dL_law_937 : decode cL_law 937 = .ok (.invokevirtual 108, 3) := by decide +kernel
theorem dL_law_940 : decode cL_law 940 = .ok (.if_icmp .eq 658, 3) := by decide +kernel
theorem dL_law_943 : decode cL_law 943 = .ok (.iconst 0, 1) := by decide +kernel
theorem dL_law_944 : decode cL_law 944 = .ok (.ireturn, 1) := by decide +kernel
theorem dL_law_945 : decode cL_law 945 = .ok (.aload_n 1, 1) := by decide +kernel
theorem dL_law_946 : decode cL_law 946 = .ok (.aload_n 0, 1) := by decide +kernel
theorem dL_law_947 : decode cL_law 947 = .ok (.iload_n 3, 1) := by decide +kernel
theorem dL_law_948 : decode cL_law 948 = .ok (.iconst 1, 1) := by decide +kernel
theorem dL_law_949 : decode cL_law 949 = .ok (.iadd, 1) := by decide +kernel
theorem dL_law_950 : decode cL_law 950 = .ok (.iaload, 1) := by decide +kernel
theorem dL_law_951 : decode cL_law 951 = .ok (.aload_n 0, 1) := by decide +kernel
theorem dL_law_952 : decode cL_law 952 = .ok (.iload_n 3, 1) := by decide +kernel
theorem dL_law_953 : decode cL_law 953 = .ok (.iconst 2, 1) := by decide +kernel
theorem dL_law_954 : decode cL_law 954 = .ok (.iadd, 1) := by decide +kernel
theorem dL_law_955 : decode cL_law 955 = .ok (.iaload, 1) := by decide +kernel
theorem dL_law_956 : decode cL_law 956 = .ok (.aload_n 0, 1) := by decide +kernel
theorem dL_law_957 : decode cL_law 957 = .ok (.iload_n 3, 1) := by decide +kernel
theorem dL_law_958 : decode cL_law 958 = .ok (.iconst 3, 1) := by decide +kernel
theorem dL_law_959 : decode cL_law 959 = .ok (.iadd, 1) := by decide +kernel
theorem dL_law_960 : decode cL_law 960 = .ok (.iaload, 1) := by decide +kernel
theorem dL_law_961 : decode cL_law 961 = .ok (.invokevirtual 109, 3) := by decide +kernel
theorem dL_law_964 : decode cL_law 964 = .ok (.aload_n 2, 1) := by decide +kernel
theorem dL_law_965 : decode cL_law 965 = .ok (.aload_n 0, 1) := by decide +kernel
theorem dL_law_966 : decode cL_law 966 = .ok (.iload_n 3, 1) := by decide +kernel
theorem dL_law_967 : decode cL_law 967 = .ok (.iconst 1, 1) := by decide +kernel
theorem dL_law_968 : decode cL_law 968 = .ok (.iadd, 1) := by decide +kernel
theorem dL_law_969 : decode cL_law 969 = .ok (.iaload, 1) := by decide +kernel
theorem dL_law_970 : decode cL_law 970 = .ok (.aload_n 0, 1) := by decide +kernel
theorem dL_law_971 : decode cL_law 971 = .ok (.iload_n 3, 1) := by decide +kernel
theorem dL_law_972 : decode cL_law 972 = .ok (.iconst 2, 1) := by decide +kernel
theorem dL_law_973 : decode cL_law 973 = .ok (.iadd, 1) := by decide +kernel
theorem dL_law_974 : decode cL_law 974 = .ok (.iaload, 1) := by decide +kernel
theorem dL_law_975 : decode cL_law 975 = .ok (.aload_n 0, 1) := by decide +kernel
theorem dL_law_976 : decode cL_law 976 = .ok (.iload_n 3, 1) := by decide +kernel
theorem dL_law_977 : decode cL_law 977 = .ok (.iconst 3, 1) := by decide +kernel
theorem dL_law_978 : decode cL_law 978 = .ok (.iadd, 1) := by decide +kernel
theorem dL_law_979 : decode cL_law 979 = .ok (.iaload, 1) := by decide +kernel
theorem dL_law_980 : decode cL_law 980 = .ok (.invokevirtual 112, 3) := by decide +kernel
theorem dL_law_983 : decode cL_law 983 = .ok (.if_icmp .eq 615, 3) := by decide +kernel
theorem dL_law_986 : decode cL_law 986 = .ok (.iconst 0, 1) := by decide +kernel
theorem dL_law_987 : decode cL_law 987 = .ok (.ireturn, 1) := by decide +kernel
theorem dL_law_988 : decode cL_law 988 = .ok (.aload_n 1, 1) := by decide +kernel
theorem dL_law_989 : decode cL_law 989 = .ok (.aload_n 0, 1) := by decide +kernel
theorem dL_law_990 : decode cL_law 990 = .ok (.iload_n 3, 1) := by decide +kernel
theorem dL_law_991 : decode cL_law 991 = .ok (.iconst 1, 1) := by decide +kernel
theorem dL_law_992 : decode cL_law 992 = .ok (.iadd, 1) := by decide +kernel
theorem dL_law_993 : decode cL_law 993 = .ok (.iaload, 1) := by decide +kernel
theorem dL_law_994 : decode cL_law 994 = .ok (.invokevirtual 113, 3) := by decide +kernel
theorem dL_law_997 : decode cL_law 997 = .ok (.aload_n 2, 1) := by decide +kernel
theorem dL_law_998 : decode cL_law 998 = .ok (.aload_n 0, 1) := by decide +kernel
theorem dL_law_999 : decode cL_law 999 = .ok (.iload_n 3, 1) := by decide +kernel
theorem dL_law_1000 : decode cL_law 1000 = .ok (.iconst 1, 1) := by decide +kernel
theorem dL_law_1001 : decode cL_law 1001 = .ok (.iadd, 1) := by decide +kernel
theorem dL_law_1002 : decode cL_law 1002 = .ok (.iaload, 1) := by decide +kernel
theorem dL_law_1003 : decode cL_law 1003 = .ok (.invokevirtual 116, 3) := by decide +kernel
theorem dL_law_1006 : decode cL_law 1006 = .ok (.if_icmp .eq 592, 3) := by decide +kernel
theorem dL_law_1009 : decode cL_law 1009 = .ok (.iconst 0, 1) := by decide +kernel
theorem dL_law_1010 : decode cL_law 1010 = .ok (.ireturn, 1) := by decide +kernel
theorem dL_law_1011 : decode cL_law 1011 = .ok (.aload_n 1, 1) := by decide +kernel
theorem dL_law_1012 : decode cL_law 1012 = .ok (.aload_n 0, 1) := by decide +kernel
theorem dL_law_1013 : decode cL_law 1013 = .ok (.iload_n 3, 1) := by decide +kernel
theorem dL_law_1014 : decode cL_law 1014 = .ok (.iconst 1, 1) := by decide +kernel
theorem dL_law_1015 : decode cL_law 1015 = .ok (.iadd, 1) := by decide +kernel
theorem dL_law_1016 : decode cL_law 1016 = .ok (.iaload, 1) := by decide +kernel
theorem dL_law_1017 : decode cL_law 1017 = .ok (.aload_n 0, 1) := by decide +kernel
theorem dL_law_1018 : decode cL_law 1018 = .ok (.iload_n 3, 1) := by decide +kernel
theorem dL_law_1019 : decode cL_law 1019 = .ok (.iconst 2, 1) := by decide +kernel
theorem dL_law_1020 : decode cL_law 1020 = .ok (.iadd, 1) := by decide +kernel
theorem dL_law_1021 : decode cL_law 1021 = .ok (.iaload, 1) := by decide +kernel
theorem dL_law_1022 : decode cL_law 1022 = .ok (.invokevirtual 117, 3) := by decide +kernel
theorem dL_law_1025 : decode cL_law 1025 = .ok (.aload_n 2, 1) := by decide +kernel
theorem dL_law_1026 : decode cL_law 1026 = .ok (.aload_n 0, 1) := by decide +kernel
theorem dL_law_1027 : decode cL_law 1027 = .ok (.iload_n 3, 1) := by decide +kernel
theorem dL_law_1028 : decode cL_law 1028 = .ok (.iconst 1, 1) := by decide +kernel
theorem dL_law_1029 : decode cL_law 1029 = .ok (.iadd, 1) := by decide +kernel
theorem dL_law_1030 : decode cL_law 1030 = .ok (.iaload, 1) := by decide +kernel
theorem dL_law_1031 : decode cL_law 1031 = .ok (.aload_n 0, 1) := by decide +kernel
theorem dL_law_1032 : decode cL_law 1032 = .ok (.iload_n 3, 1) := by decide +kernel
theorem dL_law_1033 : decode cL_law 1033 = .ok (.iconst 2, 1) := by decide +kernel
theorem dL_law_1034 : decode cL_law 1034 = .ok (.iadd, 1) := by decide +kernel
theorem dL_law_1035 : decode cL_law 1035 = .ok (.iaload, 1) := by decide +kernel
theorem dL_law_1036 : decode cL_law 1036 = .ok (.invokevirtual 120, 3) := by decide +kernel
theorem dL_law_1039 : decode cL_law 1039 = .ok (.if_icmp .eq 559, 3) := by decide +kernel
theorem dL_law_1042 : decode cL_law 1042 = .ok (.iconst 0, 1) := by decide +kernel
theorem dL_law_1043 : decode cL_law 1043 = .ok (.ireturn, 1) := by decide +kernel
theorem dL_law_1044 : decode cL_law 1044 = .ok (.aload_n 1, 1) := by decide +kernel
theorem dL_law_1045 : decode cL_law 1045 = .ok (.aload_n 0, 1) := by decide +kernel
theorem dL_law_1046 : decode cL_law 1046 = .ok (.iload_n 3, 1) := by decide +kernel
theorem dL_law_1047 : decode cL_law 1047 = .ok (.iconst 1, 1) := by decide +kernel
theorem dL_law_1048 : decode cL_law 1048 = .ok (.iadd, 1) := by decide +kernel
theorem dL_law_1049 : decode cL_law 1049 = .ok (.iaload, 1) := by decide +kernel
theorem dL_law_1050 : decode cL_law 1050 = .ok (.aload_n 0, 1) := by decide +kernel
theorem dL_law_1051 : decode cL_law 1051 = .ok (.iload_n 3, 1) := by decide +kernel
theorem dL_law_1052 : decode cL_law 1052 = .ok (.iconst 2, 1) := by decide +kernel
theorem dL_law_1053 : decode cL_law 1053 = .ok (.iadd, 1) := by decide +kernel
theorem dL_law_1054 : decode cL_law 1054 = .ok (.iaload, 1) := by decide +kernel
theorem dL_law_1055 : decode cL_law 1055 = .ok (.invokevirtual 121, 3) := by decide +kernel
theorem dL_law_1058 : decode cL_law 1058 = .ok (.aload_n 2, 1) := by decide +kernel
theorem dL_law_1059 : decode cL_law 1059 = .ok (.aload_n 0, 1) := by decide +kernel
theorem dL_law_1060 : decode cL_law 1060 = .ok (.iload_n 3, 1) := by decide +kernel
theorem dL_law_1061 : decode cL_law 1061 = .ok (.iconst 1, 1) := by decide +kernel
theorem dL_law_1062 : decode cL_law 1062 = .ok (.iadd, 1) := by decide +kernel
theorem dL_law_1063 : decode cL_law 1063 = .ok (.iaload, 1) := by decide +kernel
theorem dL_law_1064 : decode cL_law 1064 = .ok (.aload_n 0, 1) := by decide +kernel
theorem dL_law_1065 : decode cL_law 1065 = .ok (.iload_n 3, 1) := by decide +kernel
theorem dL_law_1066 : decode cL_law 1066 = .ok (.iconst 2, 1) := by decide +kernel
theorem dL_law_1067 : decode cL_law 1067 = .ok (.iadd, 1) := by decide +kernel
theorem dL_law_1068 : decode cL_law 1068 = .ok (.iaload, 1) := by decide +kernel
theorem dL_law_1069 : decode cL_law 1069 = .ok (.invokevirtual 124, 3) := by decide +kernel
theorem dL_law_1072 : decode cL_law 1072 = .ok (.if_icmp .eq 526, 3) := by decide +kernel
theorem dL_law_1075 : decode cL_law 1075 = .ok (.iconst 0, 1) := by decide +kernel
theorem dL_law_1076 : decode cL_law 1076 = .ok (.ireturn, 1) := by decide +kernel
theorem dL_law_1077 : decode cL_law 1077 = .ok (.aload_n 1, 1) := by decide +kernel
theorem dL_law_1078 : decode cL_law 1078 = .ok (.invokevirtual 125, 3) := by decide +kernel
theorem dL_law_1081 : decode cL_law 1081 = .ok (.aload_n 2, 1) := by decide +kernel
theorem dL_law_1082 : decode cL_law 1082 = .ok (.invokevirtual 128, 3) := by decide +kernel
theorem dL_law_1085 : decode cL_law 1085 = .ok (.if_icmp .eq 513, 3) := by decide +kernel
theorem dL_law_1088 : decode cL_law 1088 = .ok (.iconst 0, 1) := by decide +kernel
theorem dL_law_1089 : decode cL_law 1089 = .ok (.ireturn, 1) := by decide +kernel
theorem dL_law_1090 : decode cL_law 1090 = .ok (.aload_n 1, 1) := by decide +kernel
theorem dL_law_1091 : decode cL_law 1091 = .ok (.invokevirtual 129, 3) := by decide +kernel
theorem dL_law_1094 : decode cL_law 1094 = .ok (.aload_n 2, 1) := by decide +kernel
theorem dL_law_1095 : decode cL_law 1095 = .ok (.invokevirtual 132, 3) := by decide +kernel
theorem dL_law_1098 : decode cL_law 1098 = .ok (.if_icmp .eq 500, 3) := by decide +kernel
theorem dL_law_1101 : decode cL_law 1101 = .ok (.iconst 0, 1) := by decide +kernel
theorem dL_law_1102 : decode cL_law 1102 = .ok (.ireturn, 1) := by decide +kernel
theorem dL_law_1103 : decode cL_law 1103 = .ok (.aload_n 1, 1) := by decide +kernel
theorem dL_law_1104 : decode cL_law 1104 = .ok (.aload_n 0, 1) := by decide +kernel
theorem dL_law_1105 : decode cL_law 1105 = .ok (.iload_n 3, 1) := by decide +kernel
theorem dL_law_1106 : decode cL_law 1106 = .ok (.iconst 1, 1) := by decide +kernel
theorem dL_law_1107 : decode cL_law 1107 = .ok (.iadd, 1) := by decide +kernel
theorem dL_law_1108 : decode cL_law 1108 = .ok (.iaload, 1) := by decide +kernel
theorem dL_law_1109 : decode cL_law 1109 = .ok (.invokevirtual 133, 3) := by decide +kernel
theorem dL_law_1112 : decode cL_law 1112 = .ok (.aload_n 2, 1) := by decide +kernel
theorem dL_law_1113 : decode cL_law 1113 = .ok (.aload_n 0, 1) := by decide +kernel
theorem dL_law_1114 : decode cL_law 1114 = .ok (.iload_n 3, 1) := by decide +kernel
theorem dL_law_1115 : decode cL_law 1115 = .ok (.iconst 1, 1) := by decide +kernel
theorem dL_law_1116 : decode cL_law 1116 = .ok (.iadd, 1) := by decide +kernel
theorem dL_law_1117 : decode cL_law 1117 = .ok (.iaload, 1) := by decide +kernel
theorem dL_law_1118 : decode cL_law 1118 = .ok (.invokevirtual 136, 3) := by decide +kernel
theorem dL_law_1121 : decode cL_law 1121 = .ok (.if_icmp .eq 477, 3) := by decide +kernel
theorem dL_law_1124 : decode cL_law 1124 = .ok (.iconst 0, 1) := by decide +kernel
theorem dL_law_1125 : decode cL_law 1125 = .ok (.ireturn, 1) := by decide +kernel
theorem dL_law_1126 : decode cL_law 1126 = .ok (.aload_n 1, 1) := by decide +kernel
theorem dL_law_1127 : decode cL_law 1127 = .ok (.aload_n 0, 1) := by decide +kernel
theorem dL_law_1128 : decode cL_law 1128 = .ok (.iload_n 3, 1) := by decide +kernel
theorem dL_law_1129 : decode cL_law 1129 = .ok (.iconst 1, 1) := by decide +kernel
theorem dL_law_1130 : decode cL_law 1130 = .ok (.iadd, 1) := by decide +kernel
theorem dL_law_1131 : decode cL_law 1131 = .ok (.iaload, 1) := by decide +kernel
theorem dL_law_1132 : decode cL_law 1132 = .ok (.aload_n 0, 1) := by decide +kernel
theorem dL_law_1133 : decode cL_law 1133 = .ok (.iload_n 3, 1) := by decide +kernel
theorem dL_law_1134 : decode cL_law 1134 = .ok (.iconst 2, 1) := by decide +kernel
theorem dL_law_1135 : decode cL_law 1135 = .ok (.iadd, 1) := by decide +kernel
theorem dL_law_1136 : decode cL_law 1136 = .ok (.iaload, 1) := by decide +kernel
theorem dL_law_1137 : decode cL_law 1137 = .ok (.aload_n 0, 1) := by decide +kernel
theorem dL_law_1138 : decode cL_law 1138 = .ok (.iload_n 3, 1) := by decide +kernel
theorem dL_law_1139 : decode cL_law 1139 = .ok (.iconst 3, 1) := by decide +kernel
theorem dL_law_1140 : decode cL_law 1140 = .ok (.iadd, 1) := by decide +kernel
theorem dL_law_1141 : decode cL_law 1141 = .ok (.iaload, 1) := by decide +kernel
theorem dL_law_1142 : decode cL_law 1142 = .ok (.invokevirtual 137, 3) := by decide +kernel
theorem dL_law_1145 : decode cL_law 1145 = .ok (.aload_n 2, 1) := by decide +kernel
theorem dL_law_1146 : decode cL_law 1146 = .ok (.aload_n 0, 1) := by decide +kernel
theorem dL_law_1147 : decode cL_law 1147 = .ok (.iload_n 3, 1) := by decide +kernel
theorem dL_law_1148 : decode cL_law 1148 = .ok (.iconst 1, 1) := by decide +kernel
theorem dL_law_1149 : decode cL_law 1149 = .ok (.iadd, 1) := by decide +kernel
theorem dL_law_1150 : decode cL_law 1150 = .ok (.iaload, 1) := by decide +kernel
theorem dL_law_1151 : decode cL_law 1151 = .ok (.aload_n 0, 1) := by decide +kernel
theorem dL_law_1152 : decode cL_law 1152 = .ok (.iload_n 3, 1) := by decide +kernel
theorem dL_law_1153 : decode cL_law 1153 = .ok (.iconst 2, 1) := by decide +kernel
theorem dL_law_1154 : decode cL_law 1154 = .ok (.iadd, 1) := by decide +kernel
theorem dL_law_1155 : decode cL_law 1155 = .ok (.iaload, 1) := by decide +kernel
theorem dL_law_1156 : decode cL_law 1156 = .ok (.aload_n 0, 1) := by decide +kernel
theorem dL_law_1157 : decode cL_law 1157 = .ok (.iload_n 3, 1) := by decide +kernel
theorem dL_law_1158 : decode cL_law 1158 = .ok (.iconst 3, 1) := by decide +kernel
theorem dL_law_1159 : decode cL_law 1159 = .ok (.iadd, 1) := by decide +kernel
theorem dL_law_1160 : decode cL_law 1160 = .ok (.iaload, 1) := by decide +kernel
theorem dL_law_1161 : decode cL_law 1161 = .ok (.invokevirtual 141, 3) := by decide +kernel
theorem dL_law_1164 : decode cL_law 1164 = .ok (.lcmp, 1) := by decide +kernel
theorem dL_law_1165 : decode cL_law 1165 = .ok (.ifCond .eq 433, 3) := by decide +kernel
theorem dL_law_1168 : decode cL_law 1168 = .ok (.iconst 0, 1) := by decide +kernel
theorem dL_law_1169 : decode cL_law 1169 = .ok (.ireturn, 1) := by decide +kernel
theorem dL_law_1170 : decode cL_law 1170 = .ok (.aload_n 1, 1) := by decide +kernel
theorem dL_law_1171 : decode cL_law 1171 = .ok (.aload_n 0, 1) := by decide +kernel
theorem dL_law_1172 : decode cL_law 1172 = .ok (.iload_n 3, 1) := by decide +kernel
theorem dL_law_1173 : decode cL_law 1173 = .ok (.iconst 1, 1) := by decide +kernel
theorem dL_law_1174 : decode cL_law 1174 = .ok (.iadd, 1) := by decide +kernel
theorem dL_law_1175 : decode cL_law 1175 = .ok (.iaload, 1) := by decide +kernel
theorem dL_law_1176 : decode cL_law 1176 = .ok (.invokevirtual 142, 3) := by decide +kernel
theorem dL_law_1179 : decode cL_law 1179 = .ok (.aload_n 2, 1) := by decide +kernel
theorem dL_law_1180 : decode cL_law 1180 = .ok (.aload_n 0, 1) := by decide +kernel
theorem dL_law_1181 : decode cL_law 1181 = .ok (.iload_n 3, 1) := by decide +kernel
theorem dL_law_1182 : decode cL_law 1182 = .ok (.iconst 1, 1) := by decide +kernel
theorem dL_law_1183 : decode cL_law 1183 = .ok (.iadd, 1) := by decide +kernel
theorem dL_law_1184 : decode cL_law 1184 = .ok (.iaload, 1) := by decide +kernel
theorem dL_law_1185 : decode cL_law 1185 = .ok (.invokevirtual 145, 3) := by decide +kernel
theorem dL_law_1188 : decode cL_law 1188 = .ok (.if_icmp .eq 410, 3) := by decide +kernel
theorem dL_law_1191 : decode cL_law 1191 = .ok (.iconst 0, 1) := by decide +kernel
theorem dL_law_1192 : decode cL_law 1192 = .ok (.ireturn, 1) := by decide +kernel
theorem dL_law_1193 : decode cL_law 1193 = .ok (.aload_n 1, 1) := by decide +kernel
theorem dL_law_1194 : decode cL_law 1194 = .ok (.aload_n 0, 1) := by decide +kernel
theorem dL_law_1195 : decode cL_law 1195 = .ok (.iload_n 3, 1) := by decide +kernel
theorem dL_law_1196 : decode cL_law 1196 = .ok (.iconst 1, 1) := by decide +kernel
theorem dL_law_1197 : decode cL_law 1197 = .ok (.iadd, 1) := by decide +kernel
theorem dL_law_1198 : decode cL_law 1198 = .ok (.iaload, 1) := by decide +kernel
theorem dL_law_1199 : decode cL_law 1199 = .ok (.aload_n 0, 1) := by decide +kernel
theorem dL_law_1200 : decode cL_law 1200 = .ok (.iload_n 3, 1) := by decide +kernel
theorem dL_law_1201 : decode cL_law 1201 = .ok (.iconst 2, 1) := by decide +kernel
theorem dL_law_1202 : decode cL_law 1202 = .ok (.iadd, 1) := by decide +kernel
theorem dL_law_1203 : decode cL_law 1203 = .ok (.iaload, 1) := by decide +kernel
theorem dL_law_1204 : decode cL_law 1204 = .ok (.invokevirtual 146, 3) := by decide +kernel
theorem dL_law_1207 : decode cL_law 1207 = .ok (.aload_n 2, 1) := by decide +kernel
theorem dL_law_1208 : decode cL_law 1208 = .ok (.aload_n 0, 1) := by decide +kernel
theorem dL_law_1209 : decode cL_law 1209 = .ok (.iload_n 3, 1) := by decide +kernel
theorem dL_law_1210 : decode cL_law 1210 = .ok (.iconst 1, 1) := by decide +kernel
theorem dL_law_1211 : decode cL_law 1211 = .ok (.iadd, 1) := by decide +kernel
theorem dL_law_1212 : decode cL_law 1212 = .ok (.iaload, 1) := by decide +kernel
theorem dL_law_1213 : decode cL_law 1213 = .ok (.aload_n 0, 1) := by decide +kernel
theorem dL_law_1214 : decode cL_law 1214 = .ok (.iload_n 3, 1) := by decide +kernel
theorem dL_law_1215 : decode cL_law 1215 = .ok (.iconst 2, 1) := by decide +kernel
theorem dL_law_1216 : decode cL_law 1216 = .ok (.iadd, 1) := by decide +kernel
theorem dL_law_1217 : decode cL_law 1217 = .ok (.iaload, 1) := by decide +kernel
theorem dL_law_1218 : decode cL_law 1218 = .ok (.invokevirtual 149, 3) := by decide +kernel
theorem dL_law_1221 : decode cL_law 1221 = .ok (.if_icmp .eq 377, 3) := by decide +kernel
theorem dL_law_1224 : decode cL_law 1224 = .ok (.iconst 0, 1) := by decide +kernel
theorem dL_law_1225 : decode cL_law 1225 = .ok (.ireturn, 1) := by decide +kernel
theorem dL_law_1226 : decode cL_law 1226 = .ok (.aload_n 1, 1) := by decide +kernel
theorem dL_law_1227 : decode cL_law 1227 = .ok (.invokevirtual 150, 3) := by decide +kernel
theorem dL_law_1230 : decode cL_law 1230 = .ok (.aload_n 2, 1) := by decide +kernel
theorem dL_law_1231 : decode cL_law 1231 = .ok (.invokevirtual 153, 3) := by decide +kernel
theorem dL_law_1234 : decode cL_law 1234 = .ok (.if_icmp .eq 364, 3) := by decide +kernel
theorem dL_law_1237 : decode cL_law 1237 = .ok (.iconst 0, 1) := by decide +kernel
theorem dL_law_1238 : decode cL_law 1238 = .ok (.ireturn, 1) := by decide +kernel
theorem dL_law_1239 : decode cL_law 1239 = .ok (.aload_n 1, 1) := by decide +kernel
theorem dL_law_1240 : decode cL_law 1240 = .ok (.invokevirtual 154, 3) := by decide +kernel
theorem dL_law_1243 : decode cL_law 1243 = .ok (.aload_n 2, 1) := by decide +kernel
theorem dL_law_1244 : decode cL_law 1244 = .ok (.invokevirtual 157, 3) := by decide +kernel
theorem dL_law_1247 : decode cL_law 1247 = .ok (.if_icmp .eq 351, 3) := by decide +kernel
theorem dL_law_1250 : decode cL_law 1250 = .ok (.iconst 0, 1) := by decide +kernel
theorem dL_law_1251 : decode cL_law 1251 = .ok (.ireturn, 1) := by decide +kernel
theorem dL_law_1252 : decode cL_law 1252 = .ok (.aload_n 1, 1) := by decide +kernel
theorem dL_law_1253 : decode cL_law 1253 = .ok (.aload_n 0, 1) := by decide +kernel
theorem dL_law_1254 : decode cL_law 1254 = .ok (.iload_n 3, 1) := by decide +kernel
theorem dL_law_1255 : decode cL_law 1255 = .ok (.iconst 1, 1) := by decide +kernel
theorem dL_law_1256 : decode cL_law 1256 = .ok (.iadd, 1) := by decide +kernel
theorem dL_law_1257 : decode cL_law 1257 = .ok (.iaload, 1) := by decide +kernel
theorem dL_law_1258 : decode cL_law 1258 = .ok (.aload_n 0, 1) := by decide +kernel
theorem dL_law_1259 : decode cL_law 1259 = .ok (.iload_n 3, 1) := by decide +kernel
theorem dL_law_1260 : decode cL_law 1260 = .ok (.iconst 2, 1) := by decide +kernel
theorem dL_law_1261 : decode cL_law 1261 = .ok (.iadd, 1) := by decide +kernel
theorem dL_law_1262 : decode cL_law 1262 = .ok (.iaload, 1) := by decide +kernel
theorem dL_law_1263 : decode cL_law 1263 = .ok (.invokevirtual 158, 3) := by decide +kernel
theorem dL_law_1266 : decode cL_law 1266 = .ok (.aload_n 2, 1) := by decide +kernel
theorem dL_law_1267 : decode cL_law 1267 = .ok (.aload_n 0, 1) := by decide +kernel
theorem dL_law_1268 : decode cL_law 1268 = .ok (.iload_n 3, 1) := by decide +kernel
theorem dL_law_1269 : decode cL_law 1269 = .ok (.iconst 1, 1) := by decide +kernel
theorem dL_law_1270 : decode cL_law 1270 = .ok (.iadd, 1) := by decide +kernel
theorem dL_law_1271 : decode cL_law 1271 = .ok (.iaload, 1) := by decide +kernel
theorem dL_law_1272 : decode cL_law 1272 = .ok (.aload_n 0, 1) := by decide +kernel
theorem dL_law_1273 : decode cL_law 1273 = .ok (.iload_n 3, 1) := by decide +kernel
theorem dL_law_1274 : decode cL_law 1274 = .ok (.iconst 2, 1) := by decide +kernel
theorem dL_law_1275 : decode cL_law 1275 = .ok (.iadd, 1) := by decide +kernel
theorem dL_law_1276 : decode cL_law 1276 = .ok (.iaload, 1) := by decide +kernel
theorem dL_law_1277 : decode cL_law 1277 = .ok (.invokevirtual 161, 3) := by decide +kernel
theorem dL_law_1280 : decode cL_law 1280 = .ok (.if_icmp .eq 318, 3) := by decide +kernel
theorem dL_law_1283 : decode cL_law 1283 = .ok (.iconst 0, 1) := by decide +kernel
theorem dL_law_1284 : decode cL_law 1284 = .ok (.ireturn, 1) := by decide +kernel
theorem dL_law_1285 : decode cL_law 1285 = .ok (.aload_n 1, 1) := by decide +kernel
theorem dL_law_1286 : decode cL_law 1286 = .ok (.aload_n 0, 1) := by decide +kernel
theorem dL_law_1287 : decode cL_law 1287 = .ok (.iload_n 3, 1) := by decide +kernel
theorem dL_law_1288 : decode cL_law 1288 = .ok (.iconst 1, 1) := by decide +kernel
theorem dL_law_1289 : decode cL_law 1289 = .ok (.iadd, 1) := by decide +kernel
theorem dL_law_1290 : decode cL_law 1290 = .ok (.iaload, 1) := by decide +kernel
theorem dL_law_1291 : decode cL_law 1291 = .ok (.aload_n 0, 1) := by decide +kernel
theorem dL_law_1292 : decode cL_law 1292 = .ok (.iload_n 3, 1) := by decide +kernel
theorem dL_law_1293 : decode cL_law 1293 = .ok (.iconst 2, 1) := by decide +kernel
theorem dL_law_1294 : decode cL_law 1294 = .ok (.iadd, 1) := by decide +kernel
theorem dL_law_1295 : decode cL_law 1295 = .ok (.iaload, 1) := by decide +kernel
theorem dL_law_1296 : decode cL_law 1296 = .ok (.invokevirtual 162, 3) := by decide +kernel
theorem dL_law_1299 : decode cL_law 1299 = .ok (.aload_n 2, 1) := by decide +kernel
theorem dL_law_1300 : decode cL_law 1300 = .ok (.aload_n 0, 1) := by decide +kernel
theorem dL_law_1301 : decode cL_law 1301 = .ok (.iload_n 3, 1) := by decide +kernel
theorem dL_law_1302 : decode cL_law 1302 = .ok (.iconst 1, 1) := by decide +kernel
theorem dL_law_1303 : decode cL_law 1303 = .ok (.iadd, 1) := by decide +kernel
theorem dL_law_1304 : decode cL_law 1304 = .ok (.iaload, 1) := by decide +kernel
theorem dL_law_1305 : decode cL_law 1305 = .ok (.aload_n 0, 1) := by decide +kernel
theorem dL_law_1306 : decode cL_law 1306 = .ok (.iload_n 3, 1) := by decide +kernel
theorem dL_law_1307 : decode cL_law 1307 = .ok (.iconst 2, 1) := by decide +kernel
theorem dL_law_1308 : decode cL_law 1308 = .ok (.iadd, 1) := by decide +kernel
theorem dL_law_1309 : decode cL_law 1309 = .ok (.iaload, 1) := by decide +kernel
theorem dL_law_1310 : decode cL_law 1310 = .ok (.invokevirtual 165, 3) := by decide +kernel
theorem dL_law_1313 : decode cL_law 1313 = .ok (.if_icmp .eq 285, 3) := by decide +kernel
theorem dL_law_1316 : decode cL_law 1316 = .ok (.iconst 0, 1) := by decide +kernel
theorem dL_law_1317 : decode cL_law 1317 = .ok (.ireturn, 1) := by decide +kernel
theorem dL_law_1318 : decode cL_law 1318 = .ok (.aload_n 1, 1) := by decide +kernel
theorem dL_law_1319 : decode cL_law 1319 = .ok (.aload_n 0, 1) := by decide +kernel
theorem dL_law_1320 : decode cL_law 1320 = .ok (.iload_n 3, 1) := by decide +kernel
theorem dL_law_1321 : decode cL_law 1321 = .ok (.iconst 1, 1) := by decide +kernel
theorem dL_law_1322 : decode cL_law 1322 = .ok (.iadd, 1) := by decide +kernel
theorem dL_law_1323 : decode cL_law 1323 = .ok (.iaload, 1) := by decide +kernel
theorem dL_law_1324 : decode cL_law 1324 = .ok (.aload_n 0, 1) := by decide +kernel
theorem dL_law_1325 : decode cL_law 1325 = .ok (.iload_n 3, 1) := by decide +kernel
theorem dL_law_1326 : decode cL_law 1326 = .ok (.iconst 2, 1) := by decide +kernel
theorem dL_law_1327 : decode cL_law 1327 = .ok (.iadd, 1) := by decide +kernel
theorem dL_law_1328 : decode cL_law 1328 = .ok (.iaload, 1) := by decide +kernel
theorem dL_law_1329 : decode cL_law 1329 = .ok (.aload_n 0, 1) := by decide +kernel
theorem dL_law_1330 : decode cL_law 1330 = .ok (.iload_n 3, 1) := by decide +kernel
theorem dL_law_1331 : decode cL_law 1331 = .ok (.iconst 3, 1) := by decide +kernel
theorem dL_law_1332 : decode cL_law 1332 = .ok (.iadd, 1) := by decide +kernel
theorem dL_law_1333 : decode cL_law 1333 = .ok (.iaload, 1) := by decide +kernel
theorem dL_law_1334 : decode cL_law 1334 = .ok (.invokevirtual 166, 3) := by decide +kernel
theorem dL_law_1337 : decode cL_law 1337 = .ok (.aload_n 2, 1) := by decide +kernel
theorem dL_law_1338 : decode cL_law 1338 = .ok (.aload_n 0, 1) := by decide +kernel
theorem dL_law_1339 : decode cL_law 1339 = .ok (.iload_n 3, 1) := by decide +kernel
theorem dL_law_1340 : decode cL_law 1340 = .ok (.iconst 1, 1) := by decide +kernel
theorem dL_law_1341 : decode cL_law 1341 = .ok (.iadd, 1) := by decide +kernel
theorem dL_law_1342 : decode cL_law 1342 = .ok (.iaload, 1) := by decide +kernel
theorem dL_law_1343 : decode cL_law 1343 = .ok (.aload_n 0, 1) := by decide +kernel
theorem dL_law_1344 : decode cL_law 1344 = .ok (.iload_n 3, 1) := by decide +kernel
theorem dL_law_1345 : decode cL_law 1345 = .ok (.iconst 2, 1) := by decide +kernel
theorem dL_law_1346 : decode cL_law 1346 = .ok (.iadd, 1) := by decide +kernel
theorem dL_law_1347 : decode cL_law 1347 = .ok (.iaload, 1) := by decide +kernel
theorem dL_law_1348 : decode cL_law 1348 = .ok (.aload_n 0, 1) := by decide +kernel
theorem dL_law_1349 : decode cL_law 1349 = .ok (.iload_n 3, 1) := by decide +kernel
theorem dL_law_1350 : decode cL_law 1350 = .ok (.iconst 3, 1) := by decide +kernel
theorem dL_law_1351 : decode cL_law 1351 = .ok (.iadd, 1) := by decide +kernel
theorem dL_law_1352 : decode cL_law 1352 = .ok (.iaload, 1) := by decide +kernel
theorem dL_law_1353 : decode cL_law 1353 = .ok (.invokevirtual 169, 3) := by decide +kernel
theorem dL_law_1356 : decode cL_law 1356 = .ok (.if_icmp .eq 242, 3) := by decide +kernel
theorem dL_law_1359 : decode cL_law 1359 = .ok (.iconst 0, 1) := by decide +kernel
theorem dL_law_1360 : decode cL_law 1360 = .ok (.ireturn, 1) := by decide +kernel
theorem dL_law_1361 : decode cL_law 1361 = .ok (.aload_n 1, 1) := by decide +kernel
theorem dL_law_1362 : decode cL_law 1362 = .ok (.aload_n 0, 1) := by decide +kernel
theorem dL_law_1363 : decode cL_law 1363 = .ok (.iload_n 3, 1) := by decide +kernel
theorem dL_law_1364 : decode cL_law 1364 = .ok (.iconst 1, 1) := by decide +kernel
theorem dL_law_1365 : decode cL_law 1365 = .ok (.iadd, 1) := by decide +kernel
theorem dL_law_1366 : decode cL_law 1366 = .ok (.iaload, 1) := by decide +kernel
theorem dL_law_1367 : decode cL_law 1367 = .ok (.aload_n 0, 1) := by decide +kernel
theorem dL_law_1368 : decode cL_law 1368 = .ok (.iload_n 3, 1) := by decide +kernel
theorem dL_law_1369 : decode cL_law 1369 = .ok (.iconst 2, 1) := by decide +kernel
theorem dL_law_1370 : decode cL_law 1370 = .ok (.iadd, 1) := by decide +kernel
theorem dL_law_1371 : decode cL_law 1371 = .ok (.iaload, 1) := by decide +kernel
theorem dL_law_1372 : decode cL_law 1372 = .ok (.aload_n 0, 1) := by decide +kernel
theorem dL_law_1373 : decode cL_law 1373 = .ok (.iload_n 3, 1) := by decide +kernel
theorem dL_law_1374 : decode cL_law 1374 = .ok (.iconst 3, 1) := by decide +kernel
theorem dL_law_1375 : decode cL_law 1375 = .ok (.iadd, 1) := by decide +kernel
theorem dL_law_1376 : decode cL_law 1376 = .ok (.iaload, 1) := by decide +kernel
theorem dL_law_1377 : decode cL_law 1377 = .ok (.invokevirtual 170, 3) := by decide +kernel
theorem dL_law_1380 : decode cL_law 1380 = .ok (.aload_n 2, 1) := by decide +kernel
theorem dL_law_1381 : decode cL_law 1381 = .ok (.aload_n 0, 1) := by decide +kernel
theorem dL_law_1382 : decode cL_law 1382 = .ok (.iload_n 3, 1) := by decide +kernel
theorem dL_law_1383 : decode cL_law 1383 = .ok (.iconst 1, 1) := by decide +kernel
theorem dL_law_1384 : decode cL_law 1384 = .ok (.iadd, 1) := by decide +kernel
theorem dL_law_1385 : decode cL_law 1385 = .ok (.iaload, 1) := by decide +kernel
theorem dL_law_1386 : decode cL_law 1386 = .ok (.aload_n 0, 1) := by decide +kernel
theorem dL_law_1387 : decode cL_law 1387 = .ok (.iload_n 3, 1) := by decide +kernel
theorem dL_law_1388 : decode cL_law 1388 = .ok (.iconst 2, 1) := by decide +kernel
theorem dL_law_1389 : decode cL_law 1389 = .ok (.iadd, 1) := by decide +kernel
theorem dL_law_1390 : decode cL_law 1390 = .ok (.iaload, 1) := by decide +kernel
theorem dL_law_1391 : decode cL_law 1391 = .ok (.aload_n 0, 1) := by decide +kernel
theorem dL_law_1392 : decode cL_law 1392 = .ok (.iload_n 3, 1) := by decide +kernel
theorem dL_law_1393 : decode cL_law 1393 = .ok (.iconst 3, 1) := by decide +kernel
theorem dL_law_1394 : decode cL_law 1394 = .ok (.iadd, 1) := by decide +kernel
theorem dL_law_1395 : decode cL_law 1395 = .ok (.iaload, 1) := by decide +kernel
theorem dL_law_1396 : decode cL_law 1396 = .ok (.invokevirtual 173, 3) := by decide +kernel
theorem dL_law_1399 : decode cL_law 1399 = .ok (.if_icmp .eq 199, 3) := by decide +kernel
theorem dL_law_1402 : decode cL_law 1402 = .ok (.iconst 0, 1) := by decide +kernel
theorem dL_law_1403 : decode cL_law 1403 = .ok (.ireturn, 1) := by decide +kernel
theorem dL_law_1404 : decode cL_law 1404 = .ok (.aload_n 1, 1) := by decide +kernel
theorem dL_law_1405 : decode cL_law 1405 = .ok (.aload_n 0, 1) := by decide +kernel
theorem dL_law_1406 : decode cL_law 1406 = .ok (.iload_n 3, 1) := by decide +kernel
theorem dL_law_1407 : decode cL_law 1407 = .ok (.iconst 1, 1) := by decide +kernel
theorem dL_law_1408 : decode cL_law 1408 = .ok (.iadd, 1) := by decide +kernel
theorem dL_law_1409 : decode cL_law 1409 = .ok (.iaload, 1) := by decide +kernel
theorem dL_law_1410 : decode cL_law 1410 = .ok (.aload_n 0, 1) := by decide +kernel
theorem dL_law_1411 : decode cL_law 1411 = .ok (.iload_n 3, 1) := by decide +kernel
theorem dL_law_1412 : decode cL_law 1412 = .ok (.iconst 2, 1) := by decide +kernel
theorem dL_law_1413 : decode cL_law 1413 = .ok (.iadd, 1) := by decide +kernel
theorem dL_law_1414 : decode cL_law 1414 = .ok (.iaload, 1) := by decide +kernel
theorem dL_law_1415 : decode cL_law 1415 = .ok (.aload_n 0, 1) := by decide +kernel
theorem dL_law_1416 : decode cL_law 1416 = .ok (.iload_n 3, 1) := by decide +kernel
theorem dL_law_1417 : decode cL_law 1417 = .ok (.iconst 3, 1) := by decide +kernel
theorem dL_law_1418 : decode cL_law 1418 = .ok (.iadd, 1) := by decide +kernel
theorem dL_law_1419 : decode cL_law 1419 = .ok (.iaload, 1) := by decide +kernel
theorem dL_law_1420 : decode cL_law 1420 = .ok (.aload_n 0, 1) := by decide +kernel
theorem dL_law_1421 : decode cL_law 1421 = .ok (.iload_n 3, 1) := by decide +kernel
theorem dL_law_1422 : decode cL_law 1422 = .ok (.iconst 4, 1) := by decide +kernel
theorem dL_law_1423 : decode cL_law 1423 = .ok (.iadd, 1) := by decide +kernel
theorem dL_law_1424 : decode cL_law 1424 = .ok (.iaload, 1) := by decide +kernel
theorem dL_law_1425 : decode cL_law 1425 = .ok (.aload_n 0, 1) := by decide +kernel
theorem dL_law_1426 : decode cL_law 1426 = .ok (.iload_n 3, 1) := by decide +kernel
theorem dL_law_1427 : decode cL_law 1427 = .ok (.iconst 5, 1) := by decide +kernel
theorem dL_law_1428 : decode cL_law 1428 = .ok (.iadd, 1) := by decide +kernel
theorem dL_law_1429 : decode cL_law 1429 = .ok (.iaload, 1) := by decide +kernel
theorem dL_law_1430 : decode cL_law 1430 = .ok (.invokevirtual 174, 3) := by decide +kernel
theorem dL_law_1433 : decode cL_law 1433 = .ok (.aload_n 2, 1) := by decide +kernel
theorem dL_law_1434 : decode cL_law 1434 = .ok (.aload_n 0, 1) := by decide +kernel
theorem dL_law_1435 : decode cL_law 1435 = .ok (.iload_n 3, 1) := by decide +kernel
theorem dL_law_1436 : decode cL_law 1436 = .ok (.iconst 1, 1) := by decide +kernel
theorem dL_law_1437 : decode cL_law 1437 = .ok (.iadd, 1) := by decide +kernel
theorem dL_law_1438 : decode cL_law 1438 = .ok (.iaload, 1) := by decide +kernel
theorem dL_law_1439 : decode cL_law 1439 = .ok (.aload_n 0, 1) := by decide +kernel
theorem dL_law_1440 : decode cL_law 1440 = .ok (.iload_n 3, 1) := by decide +kernel
theorem dL_law_1441 : decode cL_law 1441 = .ok (.iconst 2, 1) := by decide +kernel
theorem dL_law_1442 : decode cL_law 1442 = .ok (.iadd, 1) := by decide +kernel
theorem dL_law_1443 : decode cL_law 1443 = .ok (.iaload, 1) := by decide +kernel
theorem dL_law_1444 : decode cL_law 1444 = .ok (.aload_n 0, 1) := by decide +kernel
theorem dL_law_1445 : decode cL_law 1445 = .ok (.iload_n 3, 1) := by decide +kernel
theorem dL_law_1446 : decode cL_law 1446 = .ok (.iconst 3, 1) := by decide +kernel
theorem dL_law_1447 : decode cL_law 1447 = .ok (.iadd, 1) := by decide +kernel
theorem dL_law_1448 : decode cL_law 1448 = .ok (.iaload, 1) := by decide +kernel
theorem dL_law_1449 : decode cL_law 1449 = .ok (.aload_n 0, 1) := by decide +kernel
theorem dL_law_1450 : decode cL_law 1450 = .ok (.iload_n 3, 1) := by decide +kernel
theorem dL_law_1451 : decode cL_law 1451 = .ok (.iconst 4, 1) := by decide +kernel
theorem dL_law_1452 : decode cL_law 1452 = .ok (.iadd, 1) := by decide +kernel
theorem dL_law_1453 : decode cL_law 1453 = .ok (.iaload, 1) := by decide +kernel
theorem dL_law_1454 : decode cL_law 1454 = .ok (.aload_n 0, 1) := by decide +kernel
theorem dL_law_1455 : decode cL_law 1455 = .ok (.iload_n 3, 1) := by decide +kernel
theorem dL_law_1456 : decode cL_law 1456 = .ok (.iconst 5, 1) := by decide +kernel
theorem dL_law_1457 : decode cL_law 1457 = .ok (.iadd, 1) := by decide +kernel
theorem dL_law_1458 : decode cL_law 1458 = .ok (.iaload, 1) := by decide +kernel
theorem dL_law_1459 : decode cL_law 1459 = .ok (.invokevirtual 178, 3) := by decide +kernel
theorem dL_law_1462 : decode cL_law 1462 = .ok (.if_icmp .eq 136, 3) := by decide +kernel
theorem dL_law_1465 : decode cL_law 1465 = .ok (.iconst 0, 1) := by decide +kernel
theorem dL_law_1466 : decode cL_law 1466 = .ok (.ireturn, 1) := by decide +kernel
theorem dL_law_1467 : decode cL_law 1467 = .ok (.aload_n 1, 1) := by decide +kernel
theorem dL_law_1468 : decode cL_law 1468 = .ok (.aload_n 0, 1) := by decide +kernel
theorem dL_law_1469 : decode cL_law 1469 = .ok (.iload_n 3, 1) := by decide +kernel
theorem dL_law_1470 : decode cL_law 1470 = .ok (.iconst 1, 1) := by decide +kernel
theorem dL_law_1471 : decode cL_law 1471 = .ok (.iadd, 1) := by decide +kernel
theorem dL_law_1472 : decode cL_law 1472 = .ok (.iaload, 1) := by decide +kernel
theorem dL_law_1473 : decode cL_law 1473 = .ok (.invokevirtual 179, 3) := by decide +kernel
theorem dL_law_1476 : decode cL_law 1476 = .ok (.aload_n 2, 1) := by decide +kernel
theorem dL_law_1477 : decode cL_law 1477 = .ok (.aload_n 0, 1) := by decide +kernel
theorem dL_law_1478 : decode cL_law 1478 = .ok (.iload_n 3, 1) := by decide +kernel
theorem dL_law_1479 : decode cL_law 1479 = .ok (.iconst 1, 1) := by decide +kernel
theorem dL_law_1480 : decode cL_law 1480 = .ok (.iadd, 1) := by decide +kernel
theorem dL_law_1481 : decode cL_law 1481 = .ok (.iaload, 1) := by decide +kernel
theorem dL_law_1482 : decode cL_law 1482 = .ok (.invokevirtual 182, 3) := by decide +kernel
theorem dL_law_1485 : decode cL_law 1485 = .ok (.if_icmp .eq 113, 3) := by decide +kernel
theorem dL_law_1488 : decode cL_law 1488 = .ok (.iconst 0, 1) := by decide +kernel
theorem dL_law_1489 : decode cL_law 1489 = .ok (.ireturn, 1) := by decide +kernel
theorem dL_law_1490 : decode cL_law 1490 = .ok (.aload_n 1, 1) := by decide +kernel
theorem dL_law_1491 : decode cL_law 1491 = .ok (.aload_n 0, 1) := by decide +kernel
theorem dL_law_1492 : decode cL_law 1492 = .ok (.iload_n 3, 1) := by decide +kernel
theorem dL_law_1493 : decode cL_law 1493 = .ok (.iconst 1, 1) := by decide +kernel
theorem dL_law_1494 : decode cL_law 1494 = .ok (.iadd, 1) := by decide +kernel
theorem dL_law_1495 : decode cL_law 1495 = .ok (.iaload, 1) := by decide +kernel
theorem dL_law_1496 : decode cL_law 1496 = .ok (.invokevirtual 183, 3) := by decide +kernel
theorem dL_law_1499 : decode cL_law 1499 = .ok (.aload_n 2, 1) := by decide +kernel
theorem dL_law_1500 : decode cL_law 1500 = .ok (.aload_n 0, 1) := by decide +kernel
theorem dL_law_1501 : decode cL_law 1501 = .ok (.iload_n 3, 1) := by decide +kernel
theorem dL_law_1502 : decode cL_law 1502 = .ok (.iconst 1, 1) := by decide +kernel
theorem dL_law_1503 : decode cL_law 1503 = .ok (.iadd, 1) := by decide +kernel
theorem dL_law_1504 : decode cL_law 1504 = .ok (.iaload, 1) := by decide +kernel
theorem dL_law_1505 : decode cL_law 1505 = .ok (.invokevirtual 186, 3) := by decide +kernel
theorem dL_law_1508 : decode cL_law 1508 = .ok (.if_icmp .eq 90, 3) := by decide +kernel
theorem dL_law_1511 : decode cL_law 1511 = .ok (.iconst 0, 1) := by decide +kernel
theorem dL_law_1512 : decode cL_law 1512 = .ok (.ireturn, 1) := by decide +kernel
theorem dL_law_1513 : decode cL_law 1513 = .ok (.aload_n 1, 1) := by decide +kernel
theorem dL_law_1514 : decode cL_law 1514 = .ok (.invokevirtual 187, 3) := by decide +kernel
theorem dL_law_1517 : decode cL_law 1517 = .ok (.aload_n 2, 1) := by decide +kernel
theorem dL_law_1518 : decode cL_law 1518 = .ok (.invokevirtual 190, 3) := by decide +kernel
theorem dL_law_1521 : decode cL_law 1521 = .ok (.if_icmp .eq 77, 3) := by decide +kernel
theorem dL_law_1524 : decode cL_law 1524 = .ok (.iconst 0, 1) := by decide +kernel
theorem dL_law_1525 : decode cL_law 1525 = .ok (.ireturn, 1) := by decide +kernel
theorem dL_law_1526 : decode cL_law 1526 = .ok (.aload_n 1, 1) := by decide +kernel
theorem dL_law_1527 : decode cL_law 1527 = .ok (.invokevirtual 191, 3) := by decide +kernel
theorem dL_law_1530 : decode cL_law 1530 = .ok (.aload_n 2, 1) := by decide +kernel
theorem dL_law_1531 : decode cL_law 1531 = .ok (.invokevirtual 194, 3) := by decide +kernel
theorem dL_law_1534 : decode cL_law 1534 = .ok (.if_icmp .eq 64, 3) := by decide +kernel
theorem dL_law_1537 : decode cL_law 1537 = .ok (.iconst 0, 1) := by decide +kernel
theorem dL_law_1538 : decode cL_law 1538 = .ok (.ireturn, 1) := by decide +kernel
theorem dL_law_1539 : decode cL_law 1539 = .ok (.aload_n 1, 1) := by decide +kernel
theorem dL_law_1540 : decode cL_law 1540 = .ok (.invokevirtual 195, 3) := by decide +kernel
theorem dL_law_1543 : decode cL_law 1543 = .ok (.aload_n 2, 1) := by decide +kernel
theorem dL_law_1544 : decode cL_law 1544 = .ok (.invokevirtual 198, 3) := by decide +kernel
theorem dL_law_1547 : decode cL_law 1547 = .ok (.if_icmp .eq 51, 3) := by decide +kernel
theorem dL_law_1550 : decode cL_law 1550 = .ok (.iconst 0, 1) := by decide +kernel
theorem dL_law_1551 : decode cL_law 1551 = .ok (.ireturn, 1) := by decide +kernel
theorem dL_law_1552 : decode cL_law 1552 = .ok (.aload_n 1, 1) := by decide +kernel
theorem dL_law_1553 : decode cL_law 1553 = .ok (.aload_n 0, 1) := by decide +kernel
theorem dL_law_1554 : decode cL_law 1554 = .ok (.iload_n 3, 1) := by decide +kernel
theorem dL_law_1555 : decode cL_law 1555 = .ok (.iconst 1, 1) := by decide +kernel
theorem dL_law_1556 : decode cL_law 1556 = .ok (.iadd, 1) := by decide +kernel
theorem dL_law_1557 : decode cL_law 1557 = .ok (.iaload, 1) := by decide +kernel
theorem dL_law_1558 : decode cL_law 1558 = .ok (.invokevirtual 199, 3) := by decide +kernel
theorem dL_law_1561 : decode cL_law 1561 = .ok (.aload_n 2, 1) := by decide +kernel
theorem dL_law_1562 : decode cL_law 1562 = .ok (.aload_n 0, 1) := by decide +kernel
theorem dL_law_1563 : decode cL_law 1563 = .ok (.iload_n 3, 1) := by decide +kernel
theorem dL_law_1564 : decode cL_law 1564 = .ok (.iconst 1, 1) := by decide +kernel
theorem dL_law_1565 : decode cL_law 1565 = .ok (.iadd, 1) := by decide +kernel
theorem dL_law_1566 : decode cL_law 1566 = .ok (.iaload, 1) := by decide +kernel
theorem dL_law_1567 : decode cL_law 1567 = .ok (.invokevirtual 202, 3) := by decide +kernel
theorem dL_law_1570 : decode cL_law 1570 = .ok (.if_icmp .eq 28, 3) := by decide +kernel
theorem dL_law_1573 : decode cL_law 1573 = .ok (.iconst 0, 1) := by decide +kernel
theorem dL_law_1574 : decode cL_law 1574 = .ok (.ireturn, 1) := by decide +kernel
theorem dL_law_1575 : decode cL_law 1575 = .ok (.aload_n 1, 1) := by decide +kernel
theorem dL_law_1576 : decode cL_law 1576 = .ok (.aload_n 0, 1) := by decide +kernel
theorem dL_law_1577 : decode cL_law 1577 = .ok (.iload_n 3, 1) := by decide +kernel
theorem dL_law_1578 : decode cL_law 1578 = .ok (.iconst 1, 1) := by decide +kernel
theorem dL_law_1579 : decode cL_law 1579 = .ok (.iadd, 1) := by decide +kernel
theorem dL_law_1580 : decode cL_law 1580 = .ok (.iaload, 1) := by decide +kernel
theorem dL_law_1581 : decode cL_law 1581 = .ok (.invokevirtual 203, 3) := by decide +kernel
theorem dL_law_1584 : decode cL_law 1584 = .ok (.aload_n 2, 1) := by decide +kernel
theorem dL_law_1585 : decode cL_law 1585 = .ok (.aload_n 0, 1) := by decide +kernel
theorem dL_law_1586 : decode cL_law 1586 = .ok (.iload_n 3, 1) := by decide +kernel
theorem dL_law_1587 : decode cL_law 1587 = .ok (.iconst 1, 1) := by decide +kernel
theorem dL_law_1588 : decode cL_law 1588 = .ok (.iadd, 1) := by decide +kernel
theorem dL_law_1589 : decode cL_law 1589 = .ok (.iaload, 1) := by decide +kernel
theorem dL_law_1590 : decode cL_law 1590 = .ok (.invokevirtual 206, 3) := by decide +kernel
theorem dL_law_1593 : decode cL_law 1593 = .ok (.if_icmp .eq 5, 3) := by decide +kernel
theorem dL_law_1596 : decode cL_law 1596 = .ok (.iconst 0, 1) := by decide +kernel
theorem dL_law_1597 : decode cL_law 1597 = .ok (.ireturn, 1) := by decide +kernel
theorem dL_law_1598 : decode cL_law 1598 = .ok (.iinc 3 6, 3) := by decide +kernel
theorem dL_law_1601 : decode cL_law 1601 = .ok (.goto (-1583), 3) := by decide +kernel
theorem dL_law_1604 : decode cL_law 1604 = .ok (.iconst 1, 1) := by decide +kernel
theorem dL_law_1605 : decode cL_law 1605 = .ok (.ireturn, 1) := by decide +kernel
end
section
-- the words that stay under warmer tables
def TG : List Cond := lw_tbl.filter goodWord
theorem tg_good : ∀ w ∈ TG, goodWord w = true := fun _ h => (List.mem_filter.mp h).2
theorem tg_mem {i : Nat} {w : Cond} (h : lw_tbl[i]? = some w) (hg : goodWord w = true) : w ∈ TG := List.mem_filter.mpr ⟨List.mem_of_getElem? h, hg⟩
theorem tg_in {c : Cond} {L : List Cond} (hL : ∀ w ∈ L, w ∈ TG) : GoodIn (c :: TG) L := fun w h => ⟨List.mem_cons_of_mem _ (hL w h), good_of_word (tg_good w (hL w h))⟩
-- a method's words: its own code, and all
def wm (y : MethodName) (b : ByteArray) (n : Nat) (r : Option FieldType) : List Cond := .code y b n r :: TG
-- the states: what each cell holds, by the cell's place and the field's or element's
abbrev St : Type := Nat → Nat → Int32
def uR (x : St) (k : Nat) (f : Nat → Int32) : St := fun a => if a = k then f else x a
def up (x : St) (k i : Nat) (v : Int32) : St := uR x k (upd (x k) i v)
theorem uR_eq (x : St) (k : Nat) (f : Nat → Int32) : uR x k f k = f := by simp [uR]
theorem uR_ne (x : St) {k a : Nat} (f : Nat → Int32) (h : a ≠ k) : uR x k f a = x a := by simp [uR, h]
theorem uR_self (x : St) (k : Nat) : uR x k (x k) = x := by
  funext a
  by_cases h : a = k
  · subst h; simp [uR]
  · simp [uR, h]
theorem up_eq (x : St) (k i : Nat) (v : Int32) : up x k i v k i = v := by simp [up, uR, upd]
theorem up_ne1 (x : St) {k a : Nat} (i j : Nat) (v : Int32) (h : a ≠ k) : up x k i v a j = x a j := by simp [up, uR, h]
theorem up_ne2 (x : St) {k i j : Nat} (v : Int32) (h : j ≠ i) : up x k i v k j = x k j := by simp [up, uR, upd, h]
-- what stays: the tables, the addresses of the cells, the array classes, the static arrays, the texts
abbrev GT : Type := va_G × (Nat → Nat) × ClassId × ClassId × (Nat → Prop) × (Nat → Nat) × (Nat → Nat) × (Nat → Nat) × Value
abbrev gD (G : GT) : va_G := G.1
abbrev gq (G : GT) : Nat → Nat := G.2.1
abbrev gI (G : GT) : ClassId := G.2.2.1
abbrev gR (G : GT) : ClassId := G.2.2.2.1
abbrev gA (G : GT) : Nat → Prop := G.2.2.2.2.1
abbrev gT (G : GT) : Nat → Nat := G.2.2.2.2.2.1
abbrev gK (G : GT) : Nat → Nat := G.2.2.2.2.2.2.1
abbrev gV (G : GT) : Nat → Nat := G.2.2.2.2.2.2.2.1
abbrev gF (G : GT) : Value := G.2.2.2.2.2.2.2.2
abbrev kcl : List vw_C := [(RX0, TX0, 3), (RX1, TX1, 6), (RX2, TX2, 8), (RX3, TX3, 7), (RX4, TX4, 23)]
abbrev kty (G : GT) : List (ClassId × FieldType) := [(gI G, .int), (gR G, .object "DownhillWhispers$Sheet")]
abbrev gsh (G : GT) : Nat → Option Nat := fun i => some (gq G (16 + 2 * i))
def WW (G : GT) (x m : St) : va_W := [
  (gq G 0, .inr (3, [.ref (gq G 1), .ref (gq G 5), .ref (gq G 9), .int (x 0 3), .ref (gq G 13), .ref (gq G 15), .ref (gq G 24)])),
  (gq G 1, .inr (2, [.ref (gq G 2), .ref (gq G 3), .ref (gq G 4), .int (x 1 3), .int (x 1 4), .int (x 1 5), .int (x 1 6), .int (x 1 7)])),
  (gq G 2, .inl (gI G, 80, .inl (x 2))),
  (gq G 3, .inl (gI G, 24, .inl (x 3))),
  (gq G 4, .inl (gI G, 10, .inl (x 4))),
  (gq G 5, .inr (2, [.ref (gq G 6), .ref (gq G 7), .ref (gq G 8), .int (x 5 3), .int (x 5 4), .int (x 5 5), .int (x 5 6), .int (x 5 7)])),
  (gq G 6, .inl (gI G, 80, .inl (x 6))),
  (gq G 7, .inl (gI G, 24, .inl (x 7))),
  (gq G 8, .inl (gI G, 10, .inl (x 8))),
  (gq G 9, .inr (2, [.ref (gq G 10), .ref (gq G 11), .ref (gq G 12), .int (x 9 3), .int (x 9 4), .int (x 9 5), .int (x 9 6), .int (x 9 7)])),
  (gq G 10, .inl (gI G, 80, .inl (x 10))),
  (gq G 11, .inl (gI G, 24, .inl (x 11))),
  (gq G 12, .inl (gI G, 10, .inl (x 12))),
  (gq G 13, .inr (1, [.ref (gq G 14), .int (x 13 1), .int (x 13 2), .int (x 13 3), .int (x 13 4), .int (x 13 5)])),
  (gq G 14, .inl (gI G, 120, .inl (x 14))),
  (gq G 15, .inl (gR G, 4, .inr (.inr (.inr (.inr (gsh G)))))),
  (gq G 16, .inr (0, [.ref (gq G 17), .int (x 16 1), .int (x 16 2)])),
  (gq G 17, .inl (gI G, 40, .inl (x 17))),
  (gq G 18, .inr (0, [.ref (gq G 19), .int (x 18 1), .int (x 18 2)])),
  (gq G 19, .inl (gI G, 40, .inl (x 19))),
  (gq G 20, .inr (0, [.ref (gq G 21), .int (x 20 1), .int (x 20 2)])),
  (gq G 21, .inl (gI G, 40, .inl (x 21))),
  (gq G 22, .inr (0, [.ref (gq G 23), .int (x 22 1), .int (x 22 2)])),
  (gq G 23, .inl (gI G, 40, .inl (x 23))),
  (gq G 24, .inl (gI G, 7, .inl (x 24))),
  (gq G 25, .inr (4, [.ref (gq G 26), .ref (gq G 27), .ref (gq G 28), .int (m 25 3), .ref (gq G 29), .int (m 25 5), .int (m 25 6), .int (m 25 7), .int (m 25 8), .int (m 25 9), .int (m 25 10), .ref (gq G 30), .int (m 25 12), .int (m 25 13), .ref (gq G 31), .int (m 25 15), .int (m 25 16), .int (m 25 17), .int (m 25 18), .ref (gq G 32), .ref (gq G 33), .ref (gq G 34), .ref (gq G 35)])),
  (gq G 26, .inl (gI G, 119, .inl (m 26))),
  (gq G 27, .inl (gI G, 119, .inl (m 27))),
  (gq G 28, .inl (gI G, 119, .inl (m 28))),
  (gq G 29, .inl (gI G, 7, .inl (m 29))),
  (gq G 30, .inl (gI G, 8, .inl (m 30))),
  (gq G 31, .inl (gI G, 120, .inl (m 31))),
  (gq G 32, .inl (gI G, 4, .inl (m 32))),
  (gq G 33, .inl (gI G, 4, .inl (m 33))),
  (gq G 34, .inl (gI G, 160, .inl (m 34))),
  (gq G 35, .inl (gI G, 40, .inl (m 35)))]
def AX (k n : Nat) : Prop := ∀ (G : GT) (x m : St), (WW G x m)[k]? = some (gq G k, .inl (gI G, n, .inl (x k))) ∧ ∀ f : Nat → Int32, (WW G x m).set k (gq G k, .inl (gI G, n, .inl f)) = WW G (uR x k f) m
def AM (k n : Nat) : Prop := ∀ (G : GT) (x m : St), (WW G x m)[k]? = some (gq G k, .inl (gI G, n, .inl (m k))) ∧ ∀ f : Nat → Int32, (WW G x m).set k (gq G k, .inl (gI G, n, .inl f)) = WW G x (uR m k f)
theorem ax_2 : AX 2 80 := fun _ _ _ => ⟨rfl, fun _ => rfl⟩
theorem ax_3 : AX 3 24 := fun _ _ _ => ⟨rfl, fun _ => rfl⟩
theorem ax_4 : AX 4 10 := fun _ _ _ => ⟨rfl, fun _ => rfl⟩
theorem ax_6 : AX 6 80 := fun _ _ _ => ⟨rfl, fun _ => rfl⟩
theorem ax_7 : AX 7 24 := fun _ _ _ => ⟨rfl, fun _ => rfl⟩
theorem ax_8 : AX 8 10 := fun _ _ _ => ⟨rfl, fun _ => rfl⟩
theorem ax_10 : AX 10 80 := fun _ _ _ => ⟨rfl, fun _ => rfl⟩
theorem ax_11 : AX 11 24 := fun _ _ _ => ⟨rfl, fun _ => rfl⟩
theorem ax_12 : AX 12 10 := fun _ _ _ => ⟨rfl, fun _ => rfl⟩
theorem ax_14 : AX 14 120 := fun _ _ _ => ⟨rfl, fun _ => rfl⟩
theorem ax_17 : AX 17 40 := fun _ _ _ => ⟨rfl, fun _ => rfl⟩
theorem ax_19 : AX 19 40 := fun _ _ _ => ⟨rfl, fun _ => rfl⟩
theorem ax_21 : AX 21 40 := fun _ _ _ => ⟨rfl, fun _ => rfl⟩
theorem ax_23 : AX 23 40 := fun _ _ _ => ⟨rfl, fun _ => rfl⟩
theorem ax_24 : AX 24 7 := fun _ _ _ => ⟨rfl, fun _ => rfl⟩
theorem am_26 : AM 26 119 := fun _ _ _ => ⟨rfl, fun _ => rfl⟩
theorem am_27 : AM 27 119 := fun _ _ _ => ⟨rfl, fun _ => rfl⟩
theorem am_28 : AM 28 119 := fun _ _ _ => ⟨rfl, fun _ => rfl⟩
theorem am_29 : AM 29 7 := fun _ _ _ => ⟨rfl, fun _ => rfl⟩
theorem am_30 : AM 30 8 := fun _ _ _ => ⟨rfl, fun _ => rfl⟩
theorem am_31 : AM 31 120 := fun _ _ _ => ⟨rfl, fun _ => rfl⟩
theorem am_32 : AM 32 4 := fun _ _ _ => ⟨rfl, fun _ => rfl⟩
theorem am_33 : AM 33 4 := fun _ _ _ => ⟨rfl, fun _ => rfl⟩
theorem am_34 : AM 34 160 := fun _ _ _ => ⟨rfl, fun _ => rfl⟩
theorem am_35 : AM 35 40 := fun _ _ _ => ⟨rfl, fun _ => rfl⟩
theorem ax_tr {t : Nat} (h : t < 3) : AX (2 + 4 * t) 80 := by
  match t, h with
  | 0, _ => exact ax_2
  | 1, _ => exact ax_6
  | 2, _ => exact ax_10
theorem ax_qu {t : Nat} (h : t < 3) : AX (3 + 4 * t) 24 := by
  match t, h with
  | 0, _ => exact ax_3
  | 1, _ => exact ax_7
  | 2, _ => exact ax_11
theorem ax_sp {t : Nat} (h : t < 3) : AX (4 + 4 * t) 10 := by
  match t, h with
  | 0, _ => exact ax_4
  | 1, _ => exact ax_8
  | 2, _ => exact ax_12
theorem ax_nu {j : Nat} (h : j < 4) : AX (17 + 2 * j) 40 := by
  match j, h with
  | 0, _ => exact ax_17
  | 1, _ => exact ax_19
  | 2, _ => exact ax_21
  | 3, _ => exact ax_23
-- an object's cell: its fields as they stand, and what the world is behind a store of an int field
abbrev fTown (G : GT) (x : St) (t : Nat) : List Value := [.ref (gq G (2 + 4 * t)), .ref (gq G (3 + 4 * t)), .ref (gq G (4 + 4 * t)), .int (x (1 + 4 * t) 3), .int (x (1 + 4 * t) 4), .int (x (1 + 4 * t) 5), .int (x (1 + 4 * t) 6), .int (x (1 + 4 * t) 7)]
abbrev fSheet (G : GT) (x : St) (j : Nat) : List Value := [.ref (gq G (17 + 2 * j)), .int (x (16 + 2 * j) 1), .int (x (16 + 2 * j) 2)]
abbrev fTape (G : GT) (x : St) : List Value := [.ref (gq G 14), .int (x 13 1), .int (x 13 2), .int (x 13 3), .int (x 13 4), .int (x 13 5)]
abbrev fMain (G : GT) (x : St) : List Value := [.ref (gq G 1), .ref (gq G 5), .ref (gq G 9), .int (x 0 3), .ref (gq G 13), .ref (gq G 15), .ref (gq G 24)]
abbrev fModel (G : GT) (m : St) : List Value := [.ref (gq G 26), .ref (gq G 27), .ref (gq G 28), .int (m 25 3), .ref (gq G 29), .int (m 25 5), .int (m 25 6), .int (m 25 7), .int (m 25 8), .int (m 25 9), .int (m 25 10), .ref (gq G 30), .int (m 25 12), .int (m 25 13), .ref (gq G 31), .int (m 25 15), .int (m 25 16), .int (m 25 17), .int (m 25 18), .ref (gq G 32), .ref (gq G 33), .ref (gq G 34), .ref (gq G 35)]
theorem wk_town (G : GT) (x m : St) {t : Nat} (h : t < 3) : (WW G x m)[1 + 4 * t]? = some (gq G (1 + 4 * t), .inr (2, fTown G x t)) := by
  match t, h with
  | 0, _ => rfl
  | 1, _ => rfl
  | 2, _ => rfl
theorem wk_sheet (G : GT) (x m : St) {j : Nat} (h : j < 4) : (WW G x m)[16 + 2 * j]? = some (gq G (16 + 2 * j), .inr (0, fSheet G x j)) := by
  match j, h with
  | 0, _ => rfl
  | 1, _ => rfl
  | 2, _ => rfl
  | 3, _ => rfl
theorem wk_tape (G : GT) (x m : St) : (WW G x m)[13]? = some (gq G 13, .inr (1, fTape G x)) := rfl
theorem wk_main (G : GT) (x m : St) : (WW G x m)[0]? = some (gq G 0, .inr (3, fMain G x)) := rfl
theorem wk_model (G : GT) (x m : St) : (WW G x m)[25]? = some (gq G 25, .inr (4, fModel G m)) := rfl
theorem wk_shs (G : GT) (x m : St) : (WW G x m)[15]? = some (gq G 15, .inl (gR G, 4, .inr (.inr (.inr (.inr (gsh G)))))) := rfl
theorem ws_town (G : GT) (x m : St) {t : Nat} (h : t < 3) (k : Nat) (hk : 3 ≤ k ∧ k < 8) (v : Int32) : (WW G x m).set (1 + 4 * t) (gq G (1 + 4 * t), .inr (2, (fTown G x t).set k (.int v))) = WW G (up x (1 + 4 * t) k v) m := by
  obtain ⟨h1, h2⟩ := hk
  match t, h with
  | 0, _ => match k, h1, h2 with
    | 3, _, _ => rfl
    | 4, _, _ => rfl
    | 5, _, _ => rfl
    | 6, _, _ => rfl
    | 7, _, _ => rfl
  | 1, _ => match k, h1, h2 with
    | 3, _, _ => rfl
    | 4, _, _ => rfl
    | 5, _, _ => rfl
    | 6, _, _ => rfl
    | 7, _, _ => rfl
  | 2, _ => match k, h1, h2 with
    | 3, _, _ => rfl
    | 4, _, _ => rfl
    | 5, _, _ => rfl
    | 6, _, _ => rfl
    | 7, _, _ => rfl
theorem ws_sheet (G : GT) (x m : St) {j : Nat} (h : j < 4) (k : Nat) (hk : 1 ≤ k ∧ k < 3) (v : Int32) : (WW G x m).set (16 + 2 * j) (gq G (16 + 2 * j), .inr (0, (fSheet G x j).set k (.int v))) = WW G (up x (16 + 2 * j) k v) m := by
  obtain ⟨h1, h2⟩ := hk
  match j, h with
  | 0, _ => match k, h1, h2 with
    | 1, _, _ => rfl
    | 2, _, _ => rfl
  | 1, _ => match k, h1, h2 with
    | 1, _, _ => rfl
    | 2, _, _ => rfl
  | 2, _ => match k, h1, h2 with
    | 1, _, _ => rfl
    | 2, _, _ => rfl
  | 3, _ => match k, h1, h2 with
    | 1, _, _ => rfl
    | 2, _, _ => rfl
theorem ws_tape_1 (G : GT) (x m : St) (v : Int32) : (WW G x m).set 13 (gq G 13, .inr (1, (fTape G x).set 1 (.int v))) = WW G (up x 13 1 v) m := rfl
theorem ws_tape_2 (G : GT) (x m : St) (v : Int32) : (WW G x m).set 13 (gq G 13, .inr (1, (fTape G x).set 2 (.int v))) = WW G (up x 13 2 v) m := rfl
theorem ws_tape_3 (G : GT) (x m : St) (v : Int32) : (WW G x m).set 13 (gq G 13, .inr (1, (fTape G x).set 3 (.int v))) = WW G (up x 13 3 v) m := rfl
theorem ws_tape_4 (G : GT) (x m : St) (v : Int32) : (WW G x m).set 13 (gq G 13, .inr (1, (fTape G x).set 4 (.int v))) = WW G (up x 13 4 v) m := rfl
theorem ws_tape_5 (G : GT) (x m : St) (v : Int32) : (WW G x m).set 13 (gq G 13, .inr (1, (fTape G x).set 5 (.int v))) = WW G (up x 13 5 v) m := rfl
theorem ws_main_3 (G : GT) (x m : St) (v : Int32) : (WW G x m).set 0 (gq G 0, .inr (3, (fMain G x).set 3 (.int v))) = WW G (up x 0 3 v) m := rfl
theorem ws_model_3 (G : GT) (x m : St) (v : Int32) : (WW G x m).set 25 (gq G 25, .inr (4, (fModel G m).set 3 (.int v))) = WW G x (up m 25 3 v) := rfl
theorem ws_model_5 (G : GT) (x m : St) (v : Int32) : (WW G x m).set 25 (gq G 25, .inr (4, (fModel G m).set 5 (.int v))) = WW G x (up m 25 5 v) := rfl
theorem ws_model_6 (G : GT) (x m : St) (v : Int32) : (WW G x m).set 25 (gq G 25, .inr (4, (fModel G m).set 6 (.int v))) = WW G x (up m 25 6 v) := rfl
theorem ws_model_7 (G : GT) (x m : St) (v : Int32) : (WW G x m).set 25 (gq G 25, .inr (4, (fModel G m).set 7 (.int v))) = WW G x (up m 25 7 v) := rfl
theorem ws_model_8 (G : GT) (x m : St) (v : Int32) : (WW G x m).set 25 (gq G 25, .inr (4, (fModel G m).set 8 (.int v))) = WW G x (up m 25 8 v) := rfl
theorem ws_model_9 (G : GT) (x m : St) (v : Int32) : (WW G x m).set 25 (gq G 25, .inr (4, (fModel G m).set 9 (.int v))) = WW G x (up m 25 9 v) := rfl
theorem ws_model_10 (G : GT) (x m : St) (v : Int32) : (WW G x m).set 25 (gq G 25, .inr (4, (fModel G m).set 10 (.int v))) = WW G x (up m 25 10 v) := rfl
theorem ws_model_12 (G : GT) (x m : St) (v : Int32) : (WW G x m).set 25 (gq G 25, .inr (4, (fModel G m).set 12 (.int v))) = WW G x (up m 25 12 v) := rfl
theorem ws_model_13 (G : GT) (x m : St) (v : Int32) : (WW G x m).set 25 (gq G 25, .inr (4, (fModel G m).set 13 (.int v))) = WW G x (up m 25 13 v) := rfl
theorem ws_model_15 (G : GT) (x m : St) (v : Int32) : (WW G x m).set 25 (gq G 25, .inr (4, (fModel G m).set 15 (.int v))) = WW G x (up m 25 15 v) := rfl
theorem ws_model_16 (G : GT) (x m : St) (v : Int32) : (WW G x m).set 25 (gq G 25, .inr (4, (fModel G m).set 16 (.int v))) = WW G x (up m 25 16 v) := rfl
theorem ws_model_17 (G : GT) (x m : St) (v : Int32) : (WW G x m).set 25 (gq G 25, .inr (4, (fModel G m).set 17 (.int v))) = WW G x (up m 25 17 v) := rfl
theorem ws_model_18 (G : GT) (x m : St) (v : Int32) : (WW G x m).set 25 (gq G 25, .inr (4, (fModel G m).set 18 (.int v))) = WW G x (up m 25 18 v) := rfl
theorem it_0 : ∀ w ∈ u_ws RX0 TX0 3, w ∈ TG := by
  have h : ∀ w ∈ u_ws RX0 TX0 3, w ∈ lw_tbl ∧ goodWord w = true := by decide +kernel
  exact fun w hw => List.mem_filter.mpr (h w hw)
theorem it_1 : ∀ w ∈ u_ws RX1 TX1 6, w ∈ TG := by
  have h : ∀ w ∈ u_ws RX1 TX1 6, w ∈ lw_tbl ∧ goodWord w = true := by decide +kernel
  exact fun w hw => List.mem_filter.mpr (h w hw)
theorem it_2 : ∀ w ∈ u_ws RX2 TX2 8, w ∈ TG := by
  have h : ∀ w ∈ u_ws RX2 TX2 8, w ∈ lw_tbl ∧ goodWord w = true := by decide +kernel
  exact fun w hw => List.mem_filter.mpr (h w hw)
theorem it_3 : ∀ w ∈ u_ws RX3 TX3 7, w ∈ TG := by
  have h : ∀ w ∈ u_ws RX3 TX3 7, w ∈ lw_tbl ∧ goodWord w = true := by decide +kernel
  exact fun w hw => List.mem_filter.mpr (h w hw)
theorem it_4 : ∀ w ∈ u_ws RX4 TX4 23, w ∈ TG := by
  have h : ∀ w ∈ u_ws RX4 TX4 23, w ∈ lw_tbl ∧ goodWord w = true := by decide +kernel
  exact fun w hw => List.mem_filter.mpr (h w hw)
end
section
def NWf : List (String × Nat × String × String × String × String) := [("DownhillWhispers", 262, "DownhillWhispers$Town", "whispers", "I", "DownhillWhispers"), ("DownhillWhispers$Tape", 62, "DownhillWhispers$Town", "aunts", "I", "DownhillWhispers"), ("DownhillWhispers", 110, "DownhillWhispers$Town", "aunts", "I", "DownhillWhispers"), ("DownhillWhispers$Tape", 70, "DownhillWhispers$Town", "frost", "I", "DownhillWhispers"), ("DownhillWhispers", 114, "DownhillWhispers$Town", "frost", "I", "DownhillWhispers"), ("DownhillWhispers", 117, "DownhillWhispers$Town", "minute", "I", "DownhillWhispers"), ("DownhillWhispers", 211, "DownhillWhispers$Town", "z", "I", "DownhillWhispers"), ("DownhillWhispers", 214, "DownhillWhispers$Tape", "length", "I", "DownhillWhispers"), ("DownhillWhispers", 249, "DownhillWhispers$Sheet", "numbers", "[I", "DownhillWhispers"), ("DownhillWhispers", 243, "DownhillWhispers$Sheet", "bits", "I", "DownhillWhispers"), ("DownhillWhispers", 199, "DownhillWhispers$Sheet", "length", "I", "DownhillWhispers")]
def NWm : List (String × Nat × MethodName × String) := [("DownhillWhispers$Town", 51, ⟨"DownhillWhispers", "put", "([III)V"⟩, "DownhillWhispers"), ("DownhillWhispers$Town", 85, ⟨"DownhillWhispers", "isIn", "(II)Z"⟩, "DownhillWhispers"), ("DownhillWhispers$Town", 35, ⟨"DownhillWhispers", "copyRow", "([I[I)V"⟩, "DownhillWhispers"), ("DownhillWhispers$Tape", 88, ⟨"DownhillWhispers", "isQuality", "(II)Z"⟩, "DownhillWhispers"), ("DownhillWhispers$Tape", 112, ⟨"DownhillWhispers", "isWithin", "(III)Z"⟩, "DownhillWhispers"), ("DownhillWhispers$Tape", 106, ⟨"DownhillWhispers", "isTrait", "(II)Z"⟩, "DownhillWhispers"), ("DownhillWhispers$Sheet", 22, ⟨"DownhillWhispers", "put", "([III)V"⟩, "DownhillWhispers")]
def NW (U : State) : Prop := (∀ q ∈ NWf, va_Nw (.fieldLinkNest q.1 q.2.1 q.2.2.1 q.2.2.2.1 q.2.2.2.2.1 q.2.2.2.2.2) U) ∧ ∀ q ∈ NWm, va_Nw (.methodLinkNest q.1 q.2.1 q.2.2.1 q.2.2.2) U
theorem NW.warm {s U : State} (hW : s.WarmedH U.vm) (h : NW s) : NW U := ⟨fun q hq => va_Nw.warmF hW (h.1 q hq), fun q hq => va_Nw.warmM hW (h.2 q hq)⟩
theorem NW.same {u U : State} (hv : u.vm = U.vm) (h : NW u) : NW U := ⟨fun q hq => va_Nw.same rfl hv (h.1 q hq), fun q hq => va_Nw.same rfl hv (h.2 q hq)⟩
-- the static arrays, the texts
def tName : List String := ["MOST_OF_TRAIT", "LEAST_OF_QUALITY", "MOST_OF_QUALITY", "KIND_ABOVE"]
def tLen : List Nat := [5, 3, 3, 7]
def tVal : List (List Int32) := [[99, 15, 9, 99, 99], [0, 0, 1], [6, 15, 999], [-1, 0, 0, 2, 3, 0, 1]]
def tv (i : Nat) (k : Int32) : Int32 := (tVal.getD i []).getD k.toNatClampNeg 0
def ET (G : GT) (U : State) (H : Heap) : Prop := ∀ i, i < 4 → va_Z "DownhillWhispers" (tName.getD i "") "[I" (.ref (gT G i)) (gA G) U H ∧ va_T .int (gT G i) (tLen.getD i 0) (fun j => .int ((tVal.getD i []).getD j 0)) (gA G) U H
def sTx : List String := ["whisper", "lie", "rumour", "slander", "scandal", "secret", "fib", "at", "weight", "corner", "height", "gutter", "sand", "ears", "aunts", "frost", "thaw", ";"]
def sLen : List Nat := [7, 3, 6, 7, 7, 6, 3, 2, 6, 6, 6, 6, 4, 4, 5, 5, 4, 1]
def sByt : List (List Int32) := [[119, 104, 105, 115, 112, 101, 114], [108, 105, 101], [114, 117, 109, 111, 117, 114], [115, 108, 97, 110, 100, 101, 114], [115, 99, 97, 110, 100, 97, 108], [115, 101, 99, 114, 101, 116], [102, 105, 98], [97, 116], [119, 101, 105, 103, 104, 116], [99, 111, 114, 110, 101, 114], [104, 101, 105, 103, 104, 116], [103, 117, 116, 116, 101, 114], [115, 97, 110, 100], [101, 97, 114, 115], [97, 117, 110, 116, 115], [102, 114, 111, 115, 116], [116, 104, 97, 119], [59]]
def sRefs : List (String × Nat × Nat) := [("DownhillWhispers$Tape", 129, 1), ("DownhillWhispers$Tape", 131, 2), ("DownhillWhispers$Tape", 133, 3), ("DownhillWhispers$Tape", 135, 4), ("DownhillWhispers$Tape", 137, 5), ("DownhillWhispers$Tape", 139, 6), ("DownhillWhispers$Tape", 141, 0), ("DownhillWhispers$Tape", 80, 7), ("DownhillWhispers$Tape", 86, 8), ("DownhillWhispers$Tape", 47, 9), ("DownhillWhispers$Tape", 95, 10), ("DownhillWhispers$Tape", 100, 11), ("DownhillWhispers$Tape", 102, 12), ("DownhillWhispers$Tape", 104, 13), ("DownhillWhispers$Tape", 52, 14), ("DownhillWhispers$Tape", 66, 15), ("DownhillWhispers$Tape", 68, 16), ("DownhillWhispersModel", 296, 0), ("DownhillWhispersModel", 298, 1), ("DownhillWhispersModel", 300, 2), ("DownhillWhispersModel", 302, 3), ("DownhillWhispersModel", 304, 4), ("DownhillWhispersModel", 306, 5), ("DownhillWhispersModel", 308, 6), ("DownhillWhispersModel", 310, 7), ("DownhillWhispersModel", 318, 8), ("DownhillWhispersModel", 326, 9), ("DownhillWhispersModel", 328, 10), ("DownhillWhispersModel", 334, 11), ("DownhillWhispersModel", 336, 12), ("DownhillWhispersModel", 338, 13), ("DownhillWhispersModel", 340, 14), ("DownhillWhispersModel", 343, 15), ("DownhillWhispersModel", 345, 16), ("DownhillWhispersModel", 350, 17)]
def ES (G : GT) (U : State) (H : Heap) : Prop := vk_S 18 sLen sByt (gK G) (gV G) (gA G) U H ∧ (∀ q ∈ sRefs, vk_R q.1 q.2.1 (sTx.getD q.2.2 "") (gK G q.2.2) U) ∧ va_Z "java/lang/String" "COMPACT_STRINGS" "Z" (.int 1) (gA G) U H ∧ va_Z "jdk/internal/util/Preconditions" "SIOOBE_FORMATTER" "Ljava/util/function/BiFunction;" (gF G) (gA G) U H ∧ (gF G = .null ∨ ∃ a, gF G = .ref a)
def EV (G : GT) (U : State) (H : Heap) : Prop := va_K (gD G) kcl (kty G) U ∧ NW U ∧ ET G U H ∧ ES G U H ∧ ∀ x m : St, va_D (gA G) (WW G x m)
theorem EV.to {G : GT} {u U : State} {H H1 : Heap} (hvm : u.vm.Alike U.vm) (hn : NW u → NW U) (hr : ∀ (own : String) (k : Nat) (tx : String) (a : Nat), vk_R own k tx a u → vk_R own k tx a U) (hq : ∀ a : Nat, a < H.size → ¬ gA G a → H1[a]? = H[a]?) (h : EV G u H) : EV G U H1 := by
  obtain ⟨h1, h2, h3, ⟨h4, h5, h6, h7, h8⟩, h9⟩ := h
  exact ⟨va_K.moved hvm h1, hn h2, fun i hi => ⟨((h3 i hi).1.moved hvm).kept hq, ((h3 i hi).2.moved hvm).kept hq⟩, ⟨(h4.moved hvm).kept hq, fun q hq2 => hr _ _ _ _ (h5 q hq2), (h6.moved hvm).kept hq, (h7.moved hvm).kept hq, h8⟩, h9⟩
theorem EV.call {G : GT} {s U : State} {H : Heap} {locs : List Loc} (h : EV G s s.heap) (hS : va_S (gA G) s.heap H locs) (hU : U.heap = H) (hW : s.WarmedH U.vm) : EV G U U.heap := by
  rw [hU]
  exact h.to hW.alike (NW.warm hW) (fun _ _ _ _ => vk_R.warm hW) hS.2.1
theorem EV.blind {G : GT} {U : State} (g : JFrame) (mk : MethodId) (a : Array Value) (h : EV G U U.heap) : EV G (U.calling g mk a) (U.calling g mk a).heap :=
  h.to (U := U.calling g mk a) (Vm.Alike.refl U.vm) (NW.same rfl) (fun _ _ _ _ => vk_R.same rfl) (fun _ _ _ => rfl)
-- contracts
def PC (G : GT) (x m : St) (av : List Value) : Array Value → State → Prop := va_Pc av (fun U => va_P (gD G) kcl (WW G x m) U.heap ∧ EV G U U.heap)
def QG (G : GT) (ov : Option Value) (x m : St) : Array Value → State → Outcome → State → Prop := fun _ st oc t => oc = .returned ov ∧ va_P (gD G) kcl (WW G x m) t.heap ∧ va_F (gA G) st t
def Mt (l : Launch) (y : MethodName) (b : ByteArray) (n : Nat) (r : Option FieldType) (rm : Room) (G : GT) (x m : St) (av : List Value) (ov : Option Value) (x' m' : St) : Prop := Met l y (wm y b n r) rm (PC G x m av) (QG G ov x' m') 0 0 (gA G)
def Wd (G : GT) (s : State) (x m : St) (H : Heap) (locs : List Loc) : Prop := va_P (gD G) kcl (WW G x m) H ∧ va_S (gA G) s.heap H locs
abbrev Cx (G : GT) (p : Program) (s : State) (mm : MethodId) (meth : Method) (c : Code) (args : Array Value) (cc : ByteArray) (n : Nat) (y : MethodName) (r : Option FieldType) : Prop :=
  p.tables.exec = Jvm.exec ∧ c.code = cc ∧ meth.sig.returnType = r ∧ c.maxLocals = n ∧ s.vm.findClass y.cls = some mm.cls ∧ (∀ w ∈ wm y cc n r, w.before args s = true) ∧ meth.locks = false ∧ EV G s s.heap
theorem PC.blind {G : GT} {x m : St} {av : List Value} : FrameBlind (PC G x m av) := fun a U g mk q => ⟨q.1, q.2.1, q.2.2.blind g mk a⟩
theorem Mt.of {l : Launch} {y : MethodName} {b : ByteArray} {n : Nat} {r : Option FieldType} {rm : Room} {G : GT} {x m : St} {av : List Value} {ov : Option Value} {x' m' : St} (hy : plainName y.cls = true) (hn : (lg_sl av).length ≤ n)
    (body : ∀ (p : Program) (e : Env) (s : State) (mm : MethodId) (below : List Frame) (meth : Method) (c : Code), Cx G p s mm meth c av.toArray b n y r → ∀ ls : Array Slot, lv_has ls n (lv_args 0 av) → Wd G s x m s.heap [] →
      W p l e rm s mm av.toArray below meth c s.heap [] 0 0 (MQ below (QG G ov x' m') av.toArray s 0 0 (gA G)) (F0 mm 0 ls [])) : Mt l y b n r rm G x m av ov x' m' := by
  refine Met.ofW (cc := b) (maxL := n) (ret := r) hy rfl ?_
  intro p e s mm args below meth c s₁ B hml hv
  obtain ⟨rfl, hP, hE⟩ := hv
  have hl := lv_entry av (n := n) hn
  rw [lg_entry_eq]
  exact body p e s mm below meth c ⟨B.exec, B.bytes, B.returns, hml, findClass_of_methodNamed B.named, atoms_spec (ws := wm y b n r) B.pre, B.notSynchronized, hE⟩ _ hl ⟨hP, va_S.rf⟩
section RW
variable {p : Program} {l : Launch} {e : Env} {R : Room} {s : State} {mm : MethodId} {args : Array Value} {below : List Frame} {meth : Method} {c : Code} {H : Heap} {locs : List Loc} {Q : State → Prop}
variable {cc : ByteArray} {pc n : Nat} {ls : Array Slot} {rest st0 : List Value} {G : GT} {x m x' m' : St} {y : MethodName} {r : Option FieldType}
theorem Cx.w (C : Cx G p s mm meth c args cc n y r) {q : Cond} (h : q ∈ TG) : q.before args s = true := C.2.2.2.2.2.1 q (List.mem_cons_of_mem _ h)
theorem w_end {a : Array Value} {ov : Option Value} (hr : va_Run p l e R s mm args below meth c H locs 0 0 0 0 (F0 mm pc ls st0) rest (QG G ov x' m' a) (gA G)) (hw : Wd G s x m H locs)
    (kk : ∀ (H1 : Heap) (locs1 : List Loc), Wd G s x' m' H1 locs1 → W p l e R s mm args below meth c H1 locs1 0 0 Q (F0 mm (pc + 3) ls (ov.toList ++ rest))) : W p l e R s mm args below meth c H locs 0 0 Q (F0 mm pc ls st0) := by
  intro T hT X
  obtain ⟨v, st₀, t, T', L, h0, X', hL, e1, e2, ⟨hv, hp, hz, hk⟩, st⟩ := hr T hT X
  cases hv
  rw [h0] at hz hk
  obtain ⟨hP, hS⟩ := hw
  obtain ⟨t2, a1, b1⟩ := kk T'.heap (locs ++ L) ⟨by rw [e1]; exact hp, Nat.le_trans hS.1 (by rw [e1]; exact hz), fun q h1 h2 => by rw [e1, hk q (Nat.lt_of_lt_of_le h1 hS.1) h2]; exact hS.2.1 q h1 h2, fun q hq => by
    rcases List.mem_append.mp hq with h | h
    · exact hS.2.2 q h
    · exact hL q h⟩ T' rfl X'
  exact ⟨t2, st t2 a1, b1⟩
-- what a callee brings: of an instance's method, of a static one
abbrev hd0 (y : MethodName) (k : Nat) : Prop := y.cls ≠ "java/lang/invoke/MethodHandle" ∧ y.cls ≠ "java/lang/invoke/VarHandle" ∧ (parseMethodDescriptor y.desc).map (fun d => d.parameters.length) = some k
abbrev KV (C : String) (y : MethodName) (b : ByteArray) (n : Nat) (r : Option FieldType) (k : Nat) : Prop := (Cond.instanceMethod y ∈ TG ∧ Cond.selects C y y ∈ TG ∧ Cond.initialized C ∈ TG ∧ Cond.code y b n r ∈ TG) ∧ y.cls = C ∧ hd0 y k
abbrev KS (y : MethodName) (b : ByteArray) (n : Nat) (r : Option FieldType) (k : Nat) : Prop := (Cond.static y ∈ TG ∧ Cond.initialized y.cls ∈ TG ∧ Cond.code y b n r ∈ TG) ∧ hd0 y k
theorem gi_wm {q : Cond} {y2 : MethodName} {b2 : ByteArray} {n2 : Nat} {r2 : Option FieldType} (h : Cond.code y2 b2 n2 r2 ∈ TG) : GoodIn (q :: TG) (wm y2 b2 n2 r2) := tg_in (fun w hw => (List.mem_cons.mp hw).elim (fun e => e ▸ h) id)
theorem w_V (C : Cx G p s mm meth c args cc n y r) (hw : Wd G s x m H locs) {CN : String} {y2 : MethodName} {b2 : ByteArray} {n2 k idx : Nat} {r2 : Option FieldType} {rm : Room} {a : Nat} {As : List Value} {ov : Option Value}
    (hM : Mt l y2 b2 n2 r2 rm G x m (.ref a :: As) ov x' m') (hk : KV CN y2 b2 n2 r2 k) (hl : Cond.methodLink y.cls idx y2 ∈ TG) (hrm : rm.cells = 0 ∧ rm.slots = 0) (hR : rm.frames + 1 ≤ R.frames ∧ 8 + (n2 + 11) + rm.locals ≤ R.locals)
    (hrecv : ∃ cellB : Cell, H[a]? = some cellB ∧ cellB.vm.isStatics = false ∧ s.vm.findClass CN = some cellB.cls) (hn : As.length = k) (hst : st0 = As.reverse ++ .ref a :: rest) (hcat : (rest.map fun v => v.category).sum ≤ 8) (hls : lv_has ls n []) (hdg : decode cc pc = .ok (.invokevirtual idx, 3))
    (kk : ∀ (H1 : Heap) (locs1 : List Loc), Wd G s x' m' H1 locs1 → W p l e R s mm args below meth c H1 locs1 0 0 Q (F0 mm (pc + 3) ls (ov.toList ++ rest))) : W p l e R s mm args below meth c H locs 0 0 Q (F0 mm pc ls st0) := by
  obtain ⟨hx, hb, hr, hml, hown, hts, hlocks, hE⟩ := id C
  obtain ⟨⟨k1, k2, k3, k4⟩, k5, k6⟩ := hk
  have hT : GoodIn (wm y cc n r) (wsV y.cls idx CN y2 (wm y2 b2 n2 r2)) := by
    refine tg_in (fun w hw2 => ?_)
    rcases List.mem_append.mp hw2 with h | h
    · simp only [List.mem_cons, List.not_mem_nil, or_false] at h
      rcases h with rfl | rfl | rfl | rfl <;> assumption
    · exact (List.mem_cons.mp h).elim (fun e => e ▸ k4) id
  refine w_end (va_runV (As := As) (rest := rest) ⟨hx, hb, hml, hown, hts⟩ hM (cwV k hts hT rfl hrm.1 hrm.2 ⟨k5, k6⟩ hR) ⟨PC.blind, hrecv, fun U hU hW => ⟨rfl, by rw [hU]; exact hw.1, hE.call hw.2 hU hW⟩⟩ rfl hn hls.1 hst (lv_room hcat) hdg ⟨Nat.zero_le _, Nat.zero_le _⟩) hw kk
theorem w_S (C : Cx G p s mm meth c args cc n y r) (hw : Wd G s x m H locs) {y2 : MethodName} {b2 : ByteArray} {n2 k idx : Nat} {r2 : Option FieldType} {rm : Room} {As : List Value} {ov : Option Value}
    (hM : Mt l y2 b2 n2 r2 rm G x m As ov x' m') (hk : KS y2 b2 n2 r2 k) (hl : Cond.methodLink y.cls idx y2 ∈ TG) (hrm : rm.cells = 0 ∧ rm.slots = 0) (hR : rm.frames + 1 ≤ R.frames ∧ 8 + (n2 + 11) + rm.locals ≤ R.locals)
    (hn : As.length = k) (hst : st0 = As.reverse ++ rest) (hcat : (rest.map fun v => v.category).sum ≤ 8) (hls : lv_has ls n []) (hdg : decode cc pc = .ok (.invokestatic idx, 3))
    (kk : ∀ (H1 : Heap) (locs1 : List Loc), Wd G s x' m' H1 locs1 → W p l e R s mm args below meth c H1 locs1 0 0 Q (F0 mm (pc + 3) ls (ov.toList ++ rest))) : W p l e R s mm args below meth c H locs 0 0 Q (F0 mm pc ls st0) := by
  obtain ⟨hx, hb, hr, hml, hown, hts, hlocks, hE⟩ := id C
  obtain ⟨⟨k1, k2, k3⟩, k6⟩ := hk
  have hT : GoodIn (wm y cc n r) (va_wsS y.cls idx y2 (wm y2 b2 n2 r2)) := by
    refine tg_in (fun w hw2 => ?_)
    rcases List.mem_append.mp hw2 with h | h
    · simp only [List.mem_cons, List.not_mem_nil, or_false] at h
      rcases h with rfl | rfl | rfl <;> assumption
    · exact (List.mem_cons.mp h).elim (fun e => e ▸ k3) id
  refine w_end (va_runS (As := As) (rest := rest) ⟨hx, hb, hml, hown, hts⟩ hM (va_cwS k hts hT rfl hrm.1 hrm.2 k6 hR) ⟨PC.blind, fun U hU hW => ⟨rfl, by rw [hU]; exact hw.1, hE.call hw.2 hU hW⟩⟩ rfl hn hls.1 hst (lv_room hcat) hdg ⟨Nat.zero_le _, Nat.zero_le _⟩) hw kk
theorem w_SN (C : Cx G p s mm meth c args cc n y r) (hw : Wd G s x m H locs) {host : String} {y2 : MethodName} {b2 : ByteArray} {n2 k idx : Nat} {r2 : Option FieldType} {rm : Room} {As : List Value} {ov : Option Value}
    (hM : Mt l y2 b2 n2 r2 rm G x m As ov x' m') (hk : KS y2 b2 n2 r2 k) (hl : (y.cls, idx, y2, host) ∈ NWm) (hrm : rm.cells = 0 ∧ rm.slots = 0) (hR : rm.frames + 1 ≤ R.frames ∧ 8 + (n2 + 11) + rm.locals ≤ R.locals)
    (hn : As.length = k) (hst : st0 = As.reverse ++ rest) (hcat : (rest.map fun v => v.category).sum ≤ 8) (hls : lv_has ls n []) (hdg : decode cc pc = .ok (.invokestatic idx, 3))
    (kk : ∀ (H1 : Heap) (locs1 : List Loc), Wd G s x' m' H1 locs1 → W p l e R s mm args below meth c H1 locs1 0 0 Q (F0 mm (pc + 3) ls (ov.toList ++ rest))) : W p l e R s mm args below meth c H locs 0 0 Q (F0 mm pc ls st0) := by
  have hCw : ∀ {q : Cond}, q ∈ TG → q.before args s = true := fun h => C.w h
  obtain ⟨hx, hb, hr, hml, hown, hts, hlocks, hE⟩ := id C
  obtain ⟨⟨k1, k2, k3⟩, k6⟩ := hk
  refine w_end (va_runSN (host := host) (As := As) (rest := rest) ⟨hx, hb, hml, hown, hts⟩ hM ⟨va_cnB k hts (gi_wm k3) rfl hrm.1 hrm.2 (hE.2.1.2 _ hl) (hCw k2) k6 hR, hCw k1, trivial⟩ ⟨PC.blind, fun U hU hW => ⟨rfl, by rw [hU]; exact hw.1, hE.call hw.2 hU hW⟩⟩ rfl hn hls.1 hst (lv_room hcat) hdg ⟨Nat.zero_le _, Nat.zero_le _⟩) hw kk
-- fields
theorem w_get (C : Cx G p s mm meth c args cc n y r) (hw : Wd G s x m H locs) {CN : String} {T : u_T} {N ci idx a k0 k : Nat} {fs : List Value} {v : Value} (he : (WW G x m)[k0]? = some (a, .inr (ci, fs))) (hc : kcl[ci]? = some (CN, T, N)) (hin : ∀ w ∈ u_ws CN T N, w ∈ TG) (hk : k < N)
    (hl : Cond.fieldLink y.cls idx (T k).1 (T k).2.1 (T k).2.2.1 ∈ TG) (hv : fs[k]? = some v) (hdg : decode cc pc = .ok (.getfield idx, 3))
    (kk : W p l e R s mm args below meth c H locs 0 0 Q (F0 mm (pc + 3) ls (v :: rest))) : W p l e R s mm args below meth c H locs 0 0 Q (F0 mm pc ls (.ref a :: rest)) :=
  va_get C.1 C.2.1 C.2.2.2.2.2.1 (fun w hw2 => List.mem_cons_of_mem _ (hin w hw2)) C.2.2.2.2.1 C.2.2.2.2.2.2.2.1 hw.1 k0 he hc k hk (C.w hl) (fun _ h => h) hv hdg kk
theorem w_getN (C : Cx G p s mm meth c args cc n y r) (hw : Wd G s x m H locs) {CN host : String} {T : u_T} {N ci idx a k0 k : Nat} {fs : List Value} {v : Value} (he : (WW G x m)[k0]? = some (a, .inr (ci, fs))) (hc : kcl[ci]? = some (CN, T, N)) (hin : ∀ w ∈ u_ws CN T N, w ∈ TG) (hk : k < N)
    (hl : (y.cls, idx, (T k).1, (T k).2.1, (T k).2.2.1, host) ∈ NWf) (hv : fs[k]? = some v) (hdg : decode cc pc = .ok (.getfield idx, 3))
    (kk : W p l e R s mm args below meth c H locs 0 0 Q (F0 mm (pc + 3) ls (v :: rest))) : W p l e R s mm args below meth c H locs 0 0 Q (F0 mm pc ls (.ref a :: rest)) :=
  va_getN (host := host) C.1 C.2.1 C.2.2.2.2.2.1 (fun w hw2 => List.mem_cons_of_mem _ (hin w hw2)) C.2.2.2.2.1 C.2.2.2.2.2.2.2.1 hw.1 k0 he hc k hk (va_Nw.use rfl (C.2.2.2.2.2.2.2.2.1.1 _ hl)) (fun _ h => h) hv hdg kk
theorem w_put (C : Cx G p s mm meth c args cc n y r) (hw : Wd G s x m H locs) {CN : String} {T : u_T} {N ci idx a k0 k : Nat} {fs : List Value} {v : Int32} (ty0 : Nat → FieldType) (hty : ∀ k, k < N → parseFieldDescriptor (T k).2.2.1 = some (ty0 k)) (hnm : ∀ a, a < N → ∀ b, b < N → a ≠ b → (T a).2.1 ≠ (T b).2.1) (he : (WW G x m)[k0]? = some (a, .inr (ci, fs))) (hc : kcl[ci]? = some (CN, T, N)) (hin : ∀ w ∈ u_ws CN T N, w ∈ TG) (hk : k < N)
    (hl : Cond.fieldLink y.cls idx (T k).1 (T k).2.1 (T k).2.2.1 ∈ TG) (hfin : (T k).2.2.2 = false) {ty : FieldType} (hd : parseFieldDescriptor (T k).2.2.1 = some ty) (hn : narrow ty (.int v) = .int v) (hfit : fits ty (.int v) = true) (hlen : k < fs.length) (hset : (WW G x m).set k0 (a, .inr (ci, fs.set k (.int v))) = WW G x' m') (hdg : decode cc pc = .ok (.putfield idx, 3))
    (kk : ∀ (H1 : Heap) (locs1 : List Loc), Wd G s x' m' H1 locs1 → W p l e R s mm args below meth c H1 locs1 0 0 Q (F0 mm (pc + 3) ls rest)) : W p l e R s mm args below meth c H locs 0 0 Q (F0 mm pc ls (.int v :: .ref a :: rest)) :=
  va_put C.1 C.2.1 C.2.2.2.2.2.1 (fun w hw2 => List.mem_cons_of_mem _ (hin w hw2)) ty0 hty hnm C.2.2.2.2.1 C.2.2.2.2.2.2.2.1 hw.1 (C.2.2.2.2.2.2.2.2.2.2.2 x m) hw.2 k0 he hc k hk (C.w hl) (fun _ h => h) hfin hd hn hfit hlen hdg (fun H1 locs1 hP _ hS => kk H1 locs1 ⟨by rw [← hset]; exact hP, hS⟩)
theorem w_putN (C : Cx G p s mm meth c args cc n y r) (hw : Wd G s x m H locs) {CN host : String} {T : u_T} {N ci idx a k0 k : Nat} {fs : List Value} {v : Int32} (ty0 : Nat → FieldType) (hty : ∀ k, k < N → parseFieldDescriptor (T k).2.2.1 = some (ty0 k)) (hnm : ∀ a, a < N → ∀ b, b < N → a ≠ b → (T a).2.1 ≠ (T b).2.1) (he : (WW G x m)[k0]? = some (a, .inr (ci, fs))) (hc : kcl[ci]? = some (CN, T, N)) (hin : ∀ w ∈ u_ws CN T N, w ∈ TG) (hk : k < N)
    (hl : (y.cls, idx, (T k).1, (T k).2.1, (T k).2.2.1, host) ∈ NWf) (hfin : (T k).2.2.2 = false) {ty : FieldType} (hd : parseFieldDescriptor (T k).2.2.1 = some ty) (hn : narrow ty (.int v) = .int v) (hfit : fits ty (.int v) = true) (hlen : k < fs.length) (hset : (WW G x m).set k0 (a, .inr (ci, fs.set k (.int v))) = WW G x' m') (hdg : decode cc pc = .ok (.putfield idx, 3))
    (kk : ∀ (H1 : Heap) (locs1 : List Loc), Wd G s x' m' H1 locs1 → W p l e R s mm args below meth c H1 locs1 0 0 Q (F0 mm (pc + 3) ls rest)) : W p l e R s mm args below meth c H locs 0 0 Q (F0 mm pc ls (.int v :: .ref a :: rest)) :=
  va_putN (host := host) C.1 C.2.1 C.2.2.2.2.2.1 (fun w hw2 => List.mem_cons_of_mem _ (hin w hw2)) ty0 hty hnm C.2.2.2.2.1 C.2.2.2.2.2.2.2.1 hw.1 (C.2.2.2.2.2.2.2.2.2.2.2 x m) hw.2 k0 he hc k hk (va_Nw.use rfl (C.2.2.2.2.2.2.2.2.1.1 _ hl)) (fun _ h => h) hfin hd hn hfit hlen hdg (fun H1 locs1 hP _ hS => kk H1 locs1 ⟨by rw [← hset]; exact hP, hS⟩)
theorem w_recv (C : Cx G p s mm meth c args cc n y r) (hw : Wd G s x m H locs) {CN : String} {T : u_T} {N ci a k0 : Nat} {fs : List Value} (he : (WW G x m)[k0]? = some (a, .inr (ci, fs))) (hc : kcl[ci]? = some (CN, T, N)) : ∃ cellB : Cell, H[a]? = some cellB ∧ cellB.vm.isStatics = false ∧ s.vm.findClass CN = some cellB.cls := va_recv C.2.2.2.2.2.2.2.1 hw.1 hc he
-- rows of numbers
theorem w_ald (C : Cx G p s mm meth c args cc n y r) (hw : Wd G s x m H locs) {a k0 k : Nat} {f : Nat → Int32} (ha : (WW G x m)[k0]? = some (a, .inl (gI G, k, .inl f))) {i : Int32} (hi : ¬ (i < 0 ∨ k ≤ i.toNatClampNeg)) (hdg : decode cc pc = .ok (.iaload, 1))
    (kk : W p l e R s mm args below meth c H locs 0 0 Q (F0 mm (pc + 1) ls (.int (f i.toNatClampNeg) :: rest))) : W p l e R s mm args below meth c H locs 0 0 Q (F0 mm pc ls (.int i :: .ref a :: rest)) :=
  va_iald C.1 C.2.1 C.2.2.2.2.2.2.2.1 hw.1 k0 0 ha rfl hi hdg kk
theorem w_alen (C : Cx G p s mm meth c args cc n y r) (hw : Wd G s x m H locs) {a k0 k : Nat} {f : Nat → Int32} (ha : (WW G x m)[k0]? = some (a, .inl (gI G, k, .inl f))) {v : Int32} (hv : Int32.ofNat k = v) (hdg : decode cc pc = .ok (.arraylength, 1))
    (kk : W p l e R s mm args below meth c H locs 0 0 Q (F0 mm (pc + 1) ls (.int v :: rest))) : W p l e R s mm args below meth c H locs 0 0 Q (F0 mm pc ls (.ref a :: rest)) :=
  va_alen C.1 C.2.1 C.2.2.2.2.2.2.2.1 hw.1 k0 0 ha (x := (k, .inl f)) rfl hv hdg kk
theorem w_astX (C : Cx G p s mm meth c args cc n y r) (hw : Wd G s x m H locs) {k0 k : Nat} (hA : AX k0 k) {i v : Int32} (hi : ¬ (i < 0 ∨ k ≤ i.toNatClampNeg)) (hdg : decode cc pc = .ok (.iastore, 1))
    (kk : ∀ (H1 : Heap) (locs1 : List Loc), Wd G s (up x k0 i.toNatClampNeg v) m H1 locs1 → W p l e R s mm args below meth c H1 locs1 0 0 Q (F0 mm (pc + 1) ls rest)) : W p l e R s mm args below meth c H locs 0 0 Q (F0 mm pc ls (.int v :: .int i :: .ref (gq G k0) :: rest)) :=
  va_iast C.1 C.2.1 C.2.2.2.2.2.2.2.1 hw.1 (C.2.2.2.2.2.2.2.2.2.2.2 x m) hw.2 k0 0 (hA G x m).1 rfl hi hdg (fun H1 locs1 hP _ hS => kk H1 locs1 ⟨by unfold up; rw [← (hA G x m).2]; exact hP, hS⟩)
theorem w_astM (C : Cx G p s mm meth c args cc n y r) (hw : Wd G s x m H locs) {k0 k : Nat} (hA : AM k0 k) {i v : Int32} (hi : ¬ (i < 0 ∨ k ≤ i.toNatClampNeg)) (hdg : decode cc pc = .ok (.iastore, 1))
    (kk : ∀ (H1 : Heap) (locs1 : List Loc), Wd G s x (up m k0 i.toNatClampNeg v) H1 locs1 → W p l e R s mm args below meth c H1 locs1 0 0 Q (F0 mm (pc + 1) ls rest)) : W p l e R s mm args below meth c H locs 0 0 Q (F0 mm pc ls (.int v :: .int i :: .ref (gq G k0) :: rest)) :=
  va_iast C.1 C.2.1 C.2.2.2.2.2.2.2.1 hw.1 (C.2.2.2.2.2.2.2.2.2.2.2 x m) hw.2 k0 0 (hA G x m).1 rfl hi hdg (fun H1 locs1 hP _ hS => kk H1 locs1 ⟨by unfold up; rw [← (hA G x m).2]; exact hP, hS⟩)
-- a row of references: the sheets
theorem w_aldS (C : Cx G p s mm meth c args cc n y r) (hw : Wd G s x m H locs) {i : Int32} (hi : ¬ (i < 0 ∨ 4 ≤ i.toNatClampNeg)) (hdg : decode cc pc = .ok (.aaload, 1))
    (kk : W p l e R s mm args below meth c H locs 0 0 Q (F0 mm (pc + 1) ls (.ref (gq G (16 + 2 * i.toNatClampNeg)) :: rest))) : W p l e R s mm args below meth c H locs 0 0 Q (F0 mm pc ls (.int i :: .ref (gq G 15) :: rest)) :=
  va_aldq C.1 C.2.1 C.2.2.2.2.2.2.2.1 hw.1 15 1 (wk_shs G x m) rfl hi hdg kk
theorem w_alenS (C : Cx G p s mm meth c args cc n y r) (hw : Wd G s x m H locs) (hdg : decode cc pc = .ok (.arraylength, 1))
    (kk : W p l e R s mm args below meth c H locs 0 0 Q (F0 mm (pc + 1) ls (.int 4 :: rest))) : W p l e R s mm args below meth c H locs 0 0 Q (F0 mm pc ls (.ref (gq G 15) :: rest)) :=
  va_alen C.1 C.2.1 C.2.2.2.2.2.2.2.1 hw.1 15 1 (wk_shs G x m) rfl rfl hdg kk
-- the static arrays
theorem w_gets (C : Cx G p s mm meth c args cc n y r) (hw : Wd G s x m H locs) {idx i : Nat} (hi : i < 4) (hl : Cond.fieldLink y.cls idx "DownhillWhispers" (tName.getD i "") "[I" ∈ TG) (hdg : decode cc pc = .ok (.getstatic idx, 3))
    (kk : W p l e R s mm args below meth c H locs 0 0 Q (F0 mm (pc + 3) ls (.ref (gT G i) :: rest))) : W p l e R s mm args below meth c H locs 0 0 Q (F0 mm pc ls rest) :=
  va_gets C.1 C.2.1 (C.2.2.2.2.2.2.2.2.2.1 i hi).1 hw.2 C.2.2.2.2.1 (C.w hl) (fun _ h => h) hdg kk
theorem w_tald (C : Cx G p s mm meth c args cc n y r) (hw : Wd G s x m H locs) {i : Nat} (hi : i < 4) {k : Int32} (hk : ¬ (k < 0 ∨ tLen.getD i 0 ≤ k.toNatClampNeg)) (hdg : decode cc pc = .ok (.iaload, 1))
    (kk : W p l e R s mm args below meth c H locs 0 0 Q (F0 mm (pc + 1) ls (.int (tv i k) :: rest))) : W p l e R s mm args below meth c H locs 0 0 Q (F0 mm pc ls (.int k :: .ref (gT G i) :: rest)) :=
  va_ti C.1 C.2.1 (C.2.2.2.2.2.2.2.2.2.1 i hi).2 hw.2 hk rfl hdg kk
theorem w_tlen (C : Cx G p s mm meth c args cc n y r) (hw : Wd G s x m H locs) {i : Nat} (hi : i < 4) {v : Int32} (hv : Int32.ofNat (tLen.getD i 0) = v) (hdg : decode cc pc = .ok (.arraylength, 1))
    (kk : W p l e R s mm args below meth c H locs 0 0 Q (F0 mm (pc + 1) ls (.int v :: rest))) : W p l e R s mm args below meth c H locs 0 0 Q (F0 mm pc ls (.ref (gT G i) :: rest)) :=
  va_tlen C.1 C.2.1 (C.2.2.2.2.2.2.2.2.2.1 i hi).2 hw.2 hv hdg kk
-- texts, numbers of the pool, Math
theorem w_ldcS (C : Cx G p s mm meth c args cc n y r) {idx i : Nat} (hi : (y.cls, idx, i) ∈ sRefs) (hdg : decode cc pc = .ok (.ldc idx, 2))
    (kk : W p l e R s mm args below meth c H locs 0 0 Q (F0 mm (pc + 2) ls (.ref (gK G i) :: rest))) : W p l e R s mm args below meth c H locs 0 0 Q (F0 mm pc ls rest) :=
  va_ldcS C.1 C.2.1 C.2.2.2.2.1 (C.2.2.2.2.2.2.2.2.2.2.1.2.1 _ hi) hdg kk
theorem w_max (C : Cx G p s mm meth c args cc n y r) {idx : Nat} (hls : lv_has ls n []) (hl : Cond.methodLink y.cls idx Lib.Math.max.name ∈ TG) (hk : Cond.static Lib.Math.max.name ∈ TG ∧ Cond.initialized "java/lang/Math" ∈ TG ∧ Cond.code Lib.Math.max.name Lib.Math.max.code 2 (some .int) ∈ TG) (hR : 1 ≤ R.frames ∧ 21 ≤ R.locals) (hcat : (rest.map fun v => v.category).sum ≤ 8) {a b : Int32} (hdg : decode cc pc = .ok (.invokestatic idx, 3))
    (kk : W p l e R s mm args below meth c H locs 0 0 Q (F0 mm (pc + 3) ls (.int (if a < b then b else a) :: rest))) : W p l e R s mm args below meth c H locs 0 0 Q (F0 mm pc ls (.int b :: .int a :: rest)) :=
  va_mmax C.1 C.2.1 (C.2.2.2.1.trans hls.1.symm) C.2.2.2.2.1 (C.w hl) (C.w hk.1) (C.w hk.2.1) (C.w hk.2.2) hR.1 (by omega) (Nat.zero_le _) (Nat.zero_le _) hdg kk
theorem w_min (C : Cx G p s mm meth c args cc n y r) {idx : Nat} (hls : lv_has ls n []) (hl : Cond.methodLink y.cls idx Lib.Math.min.name ∈ TG) (hk : Cond.static Lib.Math.min.name ∈ TG ∧ Cond.initialized "java/lang/Math" ∈ TG ∧ Cond.code Lib.Math.min.name Lib.Math.min.code 2 (some .int) ∈ TG) (hR : 1 ≤ R.frames ∧ 21 ≤ R.locals) (hcat : (rest.map fun v => v.category).sum ≤ 8) {a b : Int32} (hdg : decode cc pc = .ok (.invokestatic idx, 3))
    (kk : W p l e R s mm args below meth c H locs 0 0 Q (F0 mm (pc + 3) ls (.int (if b < a then b else a) :: rest))) : W p l e R s mm args below meth c H locs 0 0 Q (F0 mm pc ls (.int b :: .int a :: rest)) :=
  va_mmin C.1 C.2.1 (C.2.2.2.1.trans hls.1.symm) C.2.2.2.2.1 (C.w hl) (C.w hk.1) (C.w hk.2.1) (C.w hk.2.2) hR.1 (by omega) (Nat.zero_le _) (Nat.zero_le _) hdg kk
-- ends
theorem w_iret (C : Cx G p s mm meth c args cc n y r) (hw : Wd G s x m H locs) {v : Int32} {ty : FieldType} (hr : r = some ty) (hn : narrow ty (.int v) = .int v) (hdg : decode cc pc = .ok (.ireturn, 1)) : W p l e R s mm args below meth c H locs 0 0 (MQ below (QG G (some (.int v)) x m) args s 0 0 (gA G)) (F0 mm pc ls [.int v]) :=
  W.zret (ty := ty) C.1 C.2.1 (C.2.2.1.trans hr) hn (fun t ht _ => ⟨rfl, by rw [ht]; exact hw.1, hw.2.F ht⟩) hw.2.2.2 hdg C.2.2.2.2.2.2.1
theorem w_vret (C : Cx G p s mm meth c args cc n y r) (hw : Wd G s x m H locs) (hr : r = none) (hdg : decode cc pc = .ok (.return_, 1)) : W p l e R s mm args below meth c H locs 0 0 (MQ below (QG G none x m) args s 0 0 (gA G)) (F0 mm pc ls []) :=
  W.vret C.1 C.2.1 (C.2.2.1.trans hr) (fun t ht _ => ⟨rfl, by rw [ht]; exact hw.1, hw.2.F ht⟩) hw.2.2.2 hdg C.2.2.2.2.2.2.1
theorem w_lret (C : Cx G p s mm meth c args cc n y r) (hw : Wd G s x m H locs) {v : Int64} (hr : r = some .long) (hdg : decode cc pc = .ok (.lreturn, 1)) : W p l e R s mm args below meth c H locs 0 0 (MQ below (QG G (some (.long v)) x m) args s 0 0 (gA G)) (F0 mm pc ls [.long v]) :=
  W.lret C.1 C.2.1 (C.2.2.1.trans hr) (fun t ht _ => ⟨rfl, by rw [ht]; exact hw.1, hw.2.F ht⟩) hw.2.2.2 hdg C.2.2.2.2.2.2.1
theorem w_aret (C : Cx G p s mm meth c args cc n y r) (hw : Wd G s x m H locs) {v : Value} {ty : FieldType} (hr : r = some ty) (hty : (∃ n, ty = .object n) ∨ ∃ t, ty = .array t) (hv : v = .null ∨ ∃ a, v = .ref a) (hdg : decode cc pc = .ok (.areturn, 1)) : W p l e R s mm args below meth c H locs 0 0 (MQ below (QG G (some v) x m) args s 0 0 (gA G)) (F0 mm pc ls [v]) :=
  W.aret (rt := ty) C.1 C.2.1 (C.2.2.1.trans hr) hty hv (fun t ht _ => ⟨rfl, by rw [ht]; exact hw.1, hw.2.F ht⟩) hw.2.2.2 hdg C.2.2.2.2.2.2.1
end RW
-- the pure side
theorem p_if {α : Type} {c : Prop} [Decidable c] {a : Option α} {r : α} (h : (if c then none else a) = some r) : ¬ c ∧ a = some r := by
  by_cases hc : c
  · rw [if_pos hc] at h; cases h
  · rw [if_neg hc] at h; exact ⟨hc, h⟩
theorem p_ck {α : Type} {c : Prop} [Decidable c] {a : Option α} {r : α} (h : (if c then a else none) = some r) : c ∧ a = some r := by
  by_cases hc : c
  · rw [if_pos hc] at h; exact ⟨hc, h⟩
  · rw [if_neg hc] at h; cases h
theorem p_bd {α β : Type} {a : Option α} {f : α → Option β} {r : β} (h : a.bind f = some r) : ∃ v, a = some v ∧ f v = some r := by
  cases a with
  | none => cases h
  | some v => exact ⟨v, rfl, h⟩
theorem nz_b {v : Int32} (h : v = 0 ∨ v = 1) : narrow .boolean (.int v) = .int v := by rcases h with rfl | rfl <;> rfl
theorem ft_b {v : Int32} (h : v = 0 ∨ v = 1) : fits .boolean (.int v) = true := by rcases h with rfl | rfl <;> rfl
end
