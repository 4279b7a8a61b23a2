-- ===== PART A: goes FIRST, ahead of the names: the tables' words, and 'selects' of the private methods out of them =====
/-- a private method of a class that the tables say can be made, by its rows of tables_1 -/
def lw_okq (q : MethodName × Nat) : Prop := (q.1.cls ≠ "java/lang/invoke/MethodHandle" ∧ q.1.cls ≠ "java/lang/invoke/VarHandle") ∧ Cond.instantiable q.1.cls q.2 ∈ tables_1 ∧ Cond.privateMethod q.1 ∈ tables_1 ∧ Cond.instanceMethod q.1 ∈ tables_1
theorem lw_p0 : lw_okq (⟨"OrderEcho", "goBy", "()I"⟩, 16) := ⟨⟨by decide +kernel, by decide +kernel⟩, List.mem_of_getElem? (i := 21) (by decide +kernel), List.mem_of_getElem? (i := 501) (by decide +kernel), List.mem_of_getElem? (i := 502) (by decide +kernel)⟩
theorem lw_p1 : lw_okq (⟨"OrderEcho$Flow", "arrive", "(I)V"⟩, 13) := ⟨⟨by decide +kernel, by decide +kernel⟩, List.mem_of_getElem? (i := 306) (by decide +kernel), List.mem_of_getElem? (i := 509) (by decide +kernel), List.mem_of_getElem? (i := 510) (by decide +kernel)⟩
theorem lw_p2 : lw_okq (⟨"OrderEcho$Flow", "learn", "(LOrderEcho$Plan;II)V"⟩, 13) := ⟨⟨by decide +kernel, by decide +kernel⟩, List.mem_of_getElem? (i := 306) (by decide +kernel), List.mem_of_getElem? (i := 516) (by decide +kernel), List.mem_of_getElem? (i := 517) (by decide +kernel)⟩
theorem lw_p3 : lw_okq (⟨"OrderEcho$Flow", "send", "(LOrderEcho$Plan;ILOrderEcho$Share;)V"⟩, 13) := ⟨⟨by decide +kernel, by decide +kernel⟩, List.mem_of_getElem? (i := 306) (by decide +kernel), List.mem_of_getElem? (i := 522) (by decide +kernel), List.mem_of_getElem? (i := 523) (by decide +kernel)⟩
theorem lw_p4 : lw_okq (⟨"OrderEcho$Share", "byNumbers", "(I)V"⟩, 3) := ⟨⟨by decide +kernel, by decide +kernel⟩, List.mem_of_getElem? (i := 144) (by decide +kernel), List.mem_of_getElem? (i := 537) (by decide +kernel), List.mem_of_getElem? (i := 538) (by decide +kernel)⟩
theorem lw_p5 : lw_okq (⟨"OrderEcho$Share", "byParts", "(IJ)V"⟩, 3) := ⟨⟨by decide +kernel, by decide +kernel⟩, List.mem_of_getElem? (i := 144) (by decide +kernel), List.mem_of_getElem? (i := 542) (by decide +kernel), List.mem_of_getElem? (i := 543) (by decide +kernel)⟩
theorem lw_p6 : lw_okq (⟨"OrderEcho$Share", "oneEach", "(I)V"⟩, 3) := ⟨⟨by decide +kernel, by decide +kernel⟩, List.mem_of_getElem? (i := 144) (by decide +kernel), List.mem_of_getElem? (i := 546) (by decide +kernel), List.mem_of_getElem? (i := 547) (by decide +kernel)⟩
theorem lw_p7 : lw_okq (⟨"OrderEcho$Share", "evenly", "(I)V"⟩, 3) := ⟨⟨by decide +kernel, by decide +kernel⟩, List.mem_of_getElem? (i := 144) (by decide +kernel), List.mem_of_getElem? (i := 550) (by decide +kernel), List.mem_of_getElem? (i := 551) (by decide +kernel)⟩
theorem lw_p8 : lw_okq (⟨"OrderEcho$Flow", "deliver", "(LOrderEcho$Plan;ILOrderEcho$Share;)I"⟩, 13) := ⟨⟨by decide +kernel, by decide +kernel⟩, List.mem_of_getElem? (i := 306) (by decide +kernel), List.mem_of_getElem? (i := 554) (by decide +kernel), List.mem_of_getElem? (i := 555) (by decide +kernel)⟩
theorem lw_p9 : lw_okq (⟨"OrderEcho$Flow", "putOnWay", "(LOrderEcho$Plan;II)V"⟩, 13) := ⟨⟨by decide +kernel, by decide +kernel⟩, List.mem_of_getElem? (i := 306) (by decide +kernel), List.mem_of_getElem? (i := 558) (by decide +kernel), List.mem_of_getElem? (i := 559) (by decide +kernel)⟩
theorem lw_p10 : lw_okq (⟨"OrderEcho$Flow", "mean", "(I)J"⟩, 13) := ⟨⟨by decide +kernel, by decide +kernel⟩, List.mem_of_getElem? (i := 306) (by decide +kernel), List.mem_of_getElem? (i := 572) (by decide +kernel), List.mem_of_getElem? (i := 573) (by decide +kernel)⟩
theorem lw_p11 : lw_okq (⟨"OrderEcho$Flow", "give", "(LOrderEcho$Plan;IJ)V"⟩, 13) := ⟨⟨by decide +kernel, by decide +kernel⟩, List.mem_of_getElem? (i := 306) (by decide +kernel), List.mem_of_getElem? (i := 594) (by decide +kernel), List.mem_of_getElem? (i := 595) (by decide +kernel)⟩
theorem lw_p12 : lw_okq (⟨"OrderEcho$Tape", "readSum", "(I)Z"⟩, 5) := ⟨⟨by decide +kernel, by decide +kernel⟩, List.mem_of_getElem? (i := 118) (by decide +kernel), List.mem_of_getElem? (i := 626) (by decide +kernel), List.mem_of_getElem? (i := 627) (by decide +kernel)⟩
theorem lw_p13 : lw_okq (⟨"OrderEcho$Tape", "readProduct", "(I)Z"⟩, 5) := ⟨⟨by decide +kernel, by decide +kernel⟩, List.mem_of_getElem? (i := 118) (by decide +kernel), List.mem_of_getElem? (i := 630) (by decide +kernel), List.mem_of_getElem? (i := 631) (by decide +kernel)⟩
theorem lw_p14 : lw_okq (⟨"OrderEcho$Tape", "readAtom", "(I)Z"⟩, 5) := ⟨⟨by decide +kernel, by decide +kernel⟩, List.mem_of_getElem? (i := 118) (by decide +kernel), List.mem_of_getElem? (i := 634) (by decide +kernel), List.mem_of_getElem? (i := 635) (by decide +kernel)⟩
theorem lw_p15 : lw_okq (⟨"OrderEcho$Tape", "isDigit", "()Z"⟩, 5) := ⟨⟨by decide +kernel, by decide +kernel⟩, List.mem_of_getElem? (i := 118) (by decide +kernel), List.mem_of_getElem? (i := 638) (by decide +kernel), List.mem_of_getElem? (i := 639) (by decide +kernel)⟩
def lw_privs_1 : List (MethodName × Nat) := [(⟨"OrderEcho", "goBy", "()I"⟩, 16), (⟨"OrderEcho$Flow", "arrive", "(I)V"⟩, 13), (⟨"OrderEcho$Flow", "learn", "(LOrderEcho$Plan;II)V"⟩, 13), (⟨"OrderEcho$Flow", "send", "(LOrderEcho$Plan;ILOrderEcho$Share;)V"⟩, 13), (⟨"OrderEcho$Share", "byNumbers", "(I)V"⟩, 3), (⟨"OrderEcho$Share", "byParts", "(IJ)V"⟩, 3), (⟨"OrderEcho$Share", "oneEach", "(I)V"⟩, 3), (⟨"OrderEcho$Share", "evenly", "(I)V"⟩, 3), (⟨"OrderEcho$Flow", "deliver", "(LOrderEcho$Plan;ILOrderEcho$Share;)I"⟩, 13), (⟨"OrderEcho$Flow", "putOnWay", "(LOrderEcho$Plan;II)V"⟩, 13), (⟨"OrderEcho$Flow", "mean", "(I)J"⟩, 13), (⟨"OrderEcho$Flow", "give", "(LOrderEcho$Plan;IJ)V"⟩, 13), (⟨"OrderEcho$Tape", "readSum", "(I)Z"⟩, 5), (⟨"OrderEcho$Tape", "readProduct", "(I)Z"⟩, 5), (⟨"OrderEcho$Tape", "readAtom", "(I)Z"⟩, 5), (⟨"OrderEcho$Tape", "isDigit", "()Z"⟩, 5)]
theorem lw_r1 : ∀ q ∈ lw_privs_1, lw_okq q := List.forall_mem_cons.mpr ⟨lw_p0, List.forall_mem_cons.mpr ⟨lw_p1, List.forall_mem_cons.mpr ⟨lw_p2, List.forall_mem_cons.mpr ⟨lw_p3, List.forall_mem_cons.mpr ⟨lw_p4, List.forall_mem_cons.mpr ⟨lw_p5, List.forall_mem_cons.mpr ⟨lw_p6, List.forall_mem_cons.mpr ⟨lw_p7, List.forall_mem_cons.mpr ⟨lw_p8, List.forall_mem_cons.mpr ⟨lw_p9, List.forall_mem_cons.mpr ⟨lw_p10, List.forall_mem_cons.mpr ⟨lw_p11, List.forall_mem_cons.mpr ⟨lw_p12, List.forall_mem_cons.mpr ⟨lw_p13, List.forall_mem_cons.mpr ⟨lw_p14, List.forall_mem_cons.mpr ⟨lw_p15, fun _ h => absurd h List.not_mem_nil⟩⟩⟩⟩⟩⟩⟩⟩⟩⟩⟩⟩⟩⟩⟩⟩
theorem lw_p16 : lw_okq (⟨"OrderEcho$Tape", "readNumber", "()V"⟩, 5) := ⟨⟨by decide +kernel, by decide +kernel⟩, List.mem_of_getElem? (i := 118) (by decide +kernel), List.mem_of_getElem? (i := 642) (by decide +kernel), List.mem_of_getElem? (i := 643) (by decide +kernel)⟩
theorem lw_p17 : lw_okq (⟨"OrderEcho$Tape", "emit", "(I)V"⟩, 5) := ⟨⟨by decide +kernel, by decide +kernel⟩, List.mem_of_getElem? (i := 118) (by decide +kernel), List.mem_of_getElem? (i := 646) (by decide +kernel), List.mem_of_getElem? (i := 647) (by decide +kernel)⟩
theorem lw_p18 : lw_okq (⟨"OrderEcho$Tape", "isNext", "(C)Z"⟩, 5) := ⟨⟨by decide +kernel, by decide +kernel⟩, List.mem_of_getElem? (i := 118) (by decide +kernel), List.mem_of_getElem? (i := 650) (by decide +kernel), List.mem_of_getElem? (i := 651) (by decide +kernel)⟩
theorem lw_p19 : lw_okq (⟨"OrderEcho$Tape", "openOne", "(I)Z"⟩, 5) := ⟨⟨by decide +kernel, by decide +kernel⟩, List.mem_of_getElem? (i := 118) (by decide +kernel), List.mem_of_getElem? (i := 654) (by decide +kernel), List.mem_of_getElem? (i := 655) (by decide +kernel)⟩
theorem lw_p20 : lw_okq (⟨"OrderEcho$Tape", "take", "(C)Z"⟩, 5) := ⟨⟨by decide +kernel, by decide +kernel⟩, List.mem_of_getElem? (i := 118) (by decide +kernel), List.mem_of_getElem? (i := 658) (by decide +kernel), List.mem_of_getElem? (i := 659) (by decide +kernel)⟩
theorem lw_p21 : lw_okq (⟨"OrderEcho$Tape", "readWord", "()I"⟩, 5) := ⟨⟨by decide +kernel, by decide +kernel⟩, List.mem_of_getElem? (i := 118) (by decide +kernel), List.mem_of_getElem? (i := 662) (by decide +kernel), List.mem_of_getElem? (i := 663) (by decide +kernel)⟩
theorem lw_p22 : lw_okq (⟨"OrderEcho", "swings", "(II)Z"⟩, 16) := ⟨⟨by decide +kernel, by decide +kernel⟩, List.mem_of_getElem? (i := 21) (by decide +kernel), List.mem_of_getElem? (i := 731) (by decide +kernel), List.mem_of_getElem? (i := 732) (by decide +kernel)⟩
theorem lw_p23 : lw_okq (⟨"OrderEcho$Fraction", "spend", "()V"⟩, 3) := ⟨⟨by decide +kernel, by decide +kernel⟩, List.mem_of_getElem? (i := 184) (by decide +kernel), List.mem_of_getElem? (i := 753) (by decide +kernel), List.mem_of_getElem? (i := 754) (by decide +kernel)⟩
theorem lw_p24 : lw_okq (⟨"OrderEcho", "lower", "(I)V"⟩, 16) := ⟨⟨by decide +kernel, by decide +kernel⟩, List.mem_of_getElem? (i := 21) (by decide +kernel), List.mem_of_getElem? (i := 827) (by decide +kernel), List.mem_of_getElem? (i := 828) (by decide +kernel)⟩
theorem lw_p25 : lw_okq (⟨"OrderEcho$Levels", "nearSum", "(I)J"⟩, 12) := ⟨⟨by decide +kernel, by decide +kernel⟩, List.mem_of_getElem? (i := 244) (by decide +kernel), List.mem_of_getElem? (i := 858) (by decide +kernel), List.mem_of_getElem? (i := 859) (by decide +kernel)⟩
theorem lw_p26 : lw_okq (⟨"OrderEcho", "lookAhead", "(IIIII)V"⟩, 16) := ⟨⟨by decide +kernel, by decide +kernel⟩, List.mem_of_getElem? (i := 21) (by decide +kernel), List.mem_of_getElem? (i := 888) (by decide +kernel), List.mem_of_getElem? (i := 889) (by decide +kernel)⟩
theorem lw_p27 : lw_okq (⟨"OrderEcho", "greatestOrder", "(I)I"⟩, 16) := ⟨⟨by decide +kernel, by decide +kernel⟩, List.mem_of_getElem? (i := 21) (by decide +kernel), List.mem_of_getElem? (i := 910) (by decide +kernel), List.mem_of_getElem? (i := 911) (by decide +kernel)⟩
theorem lw_p28 : lw_okq (⟨"OrderEcho$Claims", "distance", "(III)I"⟩, 2) := ⟨⟨by decide +kernel, by decide +kernel⟩, List.mem_of_getElem? (i := 290) (by decide +kernel), List.mem_of_getElem? (i := 949) (by decide +kernel), List.mem_of_getElem? (i := 950) (by decide +kernel)⟩
theorem lw_p29 : lw_okq (⟨"OrderEchoModel", "isStage", "(I)Z"⟩, 76) := ⟨⟨by decide +kernel, by decide +kernel⟩, List.mem_of_getElem? (i := 974) (by decide +kernel), List.mem_of_getElem? (i := 1213) (by decide +kernel), List.mem_of_getElem? (i := 1214) (by decide +kernel)⟩
theorem lw_p30 : lw_okq (⟨"OrderEchoModel", "owes", "(I)J"⟩, 76) := ⟨⟨by decide +kernel, by decide +kernel⟩, List.mem_of_getElem? (i := 974) (by decide +kernel), List.mem_of_getElem? (i := 1244) (by decide +kernel), List.mem_of_getElem? (i := 1245) (by decide +kernel)⟩
theorem lw_p31 : lw_okq (⟨"OrderEchoModel", "onWay", "(I)J"⟩, 76) := ⟨⟨by decide +kernel, by decide +kernel⟩, List.mem_of_getElem? (i := 974) (by decide +kernel), List.mem_of_getElem? (i := 1248) (by decide +kernel), List.mem_of_getElem? (i := 1249) (by decide +kernel)⟩
def lw_privs_2 : List (MethodName × Nat) := [(⟨"OrderEcho$Tape", "readNumber", "()V"⟩, 5), (⟨"OrderEcho$Tape", "emit", "(I)V"⟩, 5), (⟨"OrderEcho$Tape", "isNext", "(C)Z"⟩, 5), (⟨"OrderEcho$Tape", "openOne", "(I)Z"⟩, 5), (⟨"OrderEcho$Tape", "take", "(C)Z"⟩, 5), (⟨"OrderEcho$Tape", "readWord", "()I"⟩, 5), (⟨"OrderEcho", "swings", "(II)Z"⟩, 16), (⟨"OrderEcho$Fraction", "spend", "()V"⟩, 3), (⟨"OrderEcho", "lower", "(I)V"⟩, 16), (⟨"OrderEcho$Levels", "nearSum", "(I)J"⟩, 12), (⟨"OrderEcho", "lookAhead", "(IIIII)V"⟩, 16), (⟨"OrderEcho", "greatestOrder", "(I)I"⟩, 16), (⟨"OrderEcho$Claims", "distance", "(III)I"⟩, 2), (⟨"OrderEchoModel", "isStage", "(I)Z"⟩, 76), (⟨"OrderEchoModel", "owes", "(I)J"⟩, 76), (⟨"OrderEchoModel", "onWay", "(I)J"⟩, 76)]
theorem lw_r2 : ∀ q ∈ lw_privs_2, lw_okq q := List.forall_mem_cons.mpr ⟨lw_p16, List.forall_mem_cons.mpr ⟨lw_p17, List.forall_mem_cons.mpr ⟨lw_p18, List.forall_mem_cons.mpr ⟨lw_p19, List.forall_mem_cons.mpr ⟨lw_p20, List.forall_mem_cons.mpr ⟨lw_p21, List.forall_mem_cons.mpr ⟨lw_p22, List.forall_mem_cons.mpr ⟨lw_p23, List.forall_mem_cons.mpr ⟨lw_p24, List.forall_mem_cons.mpr ⟨lw_p25, List.forall_mem_cons.mpr ⟨lw_p26, List.forall_mem_cons.mpr ⟨lw_p27, List.forall_mem_cons.mpr ⟨lw_p28, List.forall_mem_cons.mpr ⟨lw_p29, List.forall_mem_cons.mpr ⟨lw_p30, List.forall_mem_cons.mpr ⟨lw_p31, fun _ h => absurd h List.not_mem_nil⟩⟩⟩⟩⟩⟩⟩⟩⟩⟩⟩⟩⟩⟩⟩⟩
theorem lw_p32 : lw_okq (⟨"OrderEchoModel", "position", "(I)J"⟩, 76) := ⟨⟨by decide +kernel, by decide +kernel⟩, List.mem_of_getElem? (i := 974) (by decide +kernel), List.mem_of_getElem? (i := 1256) (by decide +kernel), List.mem_of_getElem? (i := 1257) (by decide +kernel)⟩
theorem lw_p33 : lw_okq (⟨"OrderEchoModel", "isShop", "(I)Z"⟩, 76) := ⟨⟨by decide +kernel, by decide +kernel⟩, List.mem_of_getElem? (i := 974) (by decide +kernel), List.mem_of_getElem? (i := 1281) (by decide +kernel), List.mem_of_getElem? (i := 1282) (by decide +kernel)⟩
theorem lw_p34 : lw_okq (⟨"OrderEchoModel", "goesBy", "()I"⟩, 76) := ⟨⟨by decide +kernel, by decide +kernel⟩, List.mem_of_getElem? (i := 974) (by decide +kernel), List.mem_of_getElem? (i := 1290) (by decide +kernel), List.mem_of_getElem? (i := 1291) (by decide +kernel)⟩
theorem lw_p35 : lw_okq (⟨"OrderEchoModel", "sends", "(I)J"⟩, 76) := ⟨⟨by decide +kernel, by decide +kernel⟩, List.mem_of_getElem? (i := 974) (by decide +kernel), List.mem_of_getElem? (i := 1294) (by decide +kernel), List.mem_of_getElem? (i := 1295) (by decide +kernel)⟩
theorem lw_p36 : lw_okq (⟨"OrderEchoModel", "shares", "(IJI)V"⟩, 76) := ⟨⟨by decide +kernel, by decide +kernel⟩, List.mem_of_getElem? (i := 974) (by decide +kernel), List.mem_of_getElem? (i := 1298) (by decide +kernel), List.mem_of_getElem? (i := 1299) (by decide +kernel)⟩
theorem lw_p37 : lw_okq (⟨"OrderEchoModel", "orders", "(I)V"⟩, 76) := ⟨⟨by decide +kernel, by decide +kernel⟩, List.mem_of_getElem? (i := 974) (by decide +kernel), List.mem_of_getElem? (i := 1302) (by decide +kernel), List.mem_of_getElem? (i := 1303) (by decide +kernel)⟩
theorem lw_p38 : lw_okq (⟨"OrderEchoModel", "worthOf", "(III)J"⟩, 76) := ⟨⟨by decide +kernel, by decide +kernel⟩, List.mem_of_getElem? (i := 974) (by decide +kernel), List.mem_of_getElem? (i := 1306) (by decide +kernel), List.mem_of_getElem? (i := 1307) (by decide +kernel)⟩
theorem lw_p39 : lw_okq (⟨"OrderEchoModel", "field", "(III)J"⟩, 76) := ⟨⟨by decide +kernel, by decide +kernel⟩, List.mem_of_getElem? (i := 974) (by decide +kernel), List.mem_of_getElem? (i := 1310) (by decide +kernel), List.mem_of_getElem? (i := 1311) (by decide +kernel)⟩
theorem lw_p40 : lw_okq (⟨"OrderEchoModel", "mean", "(II)J"⟩, 76) := ⟨⟨by decide +kernel, by decide +kernel⟩, List.mem_of_getElem? (i := 974) (by decide +kernel), List.mem_of_getElem? (i := 1314) (by decide +kernel), List.mem_of_getElem? (i := 1315) (by decide +kernel)⟩
theorem lw_p41 : lw_okq (⟨"OrderEchoModel", "demands", "(I)V"⟩, 76) := ⟨⟨by decide +kernel, by decide +kernel⟩, List.mem_of_getElem? (i := 974) (by decide +kernel), List.mem_of_getElem? (i := 1331) (by decide +kernel), List.mem_of_getElem? (i := 1332) (by decide +kernel)⟩
theorem lw_p42 : lw_okq (⟨"OrderEchoModel", "reads", "()I"⟩, 76) := ⟨⟨by decide +kernel, by decide +kernel⟩, List.mem_of_getElem? (i := 974) (by decide +kernel), List.mem_of_getElem? (i := 1345) (by decide +kernel), List.mem_of_getElem? (i := 1346) (by decide +kernel)⟩
theorem lw_p43 : lw_okq (⟨"OrderEchoModel", "operand", "(I)I"⟩, 76) := ⟨⟨by decide +kernel, by decide +kernel⟩, List.mem_of_getElem? (i := 974) (by decide +kernel), List.mem_of_getElem? (i := 1349) (by decide +kernel), List.mem_of_getElem? (i := 1350) (by decide +kernel)⟩
theorem lw_p44 : lw_okq (⟨"OrderEchoModel", "byteAt", "(I)I"⟩, 76) := ⟨⟨by decide +kernel, by decide +kernel⟩, List.mem_of_getElem? (i := 974) (by decide +kernel), List.mem_of_getElem? (i := 1353) (by decide +kernel), List.mem_of_getElem? (i := 1354) (by decide +kernel)⟩
theorem lw_p45 : lw_okq (⟨"OrderEchoModel", "puts", "(I)V"⟩, 76) := ⟨⟨by decide +kernel, by decide +kernel⟩, List.mem_of_getElem? (i := 974) (by decide +kernel), List.mem_of_getElem? (i := 1359) (by decide +kernel), List.mem_of_getElem? (i := 1360) (by decide +kernel)⟩
theorem lw_p46 : lw_okq (⟨"OrderEchoModel", "opensAt", "(II)I"⟩, 76) := ⟨⟨by decide +kernel, by decide +kernel⟩, List.mem_of_getElem? (i := 974) (by decide +kernel), List.mem_of_getElem? (i := 1363) (by decide +kernel), List.mem_of_getElem? (i := 1364) (by decide +kernel)⟩
theorem lw_p47 : lw_okq (⟨"OrderEchoModel", "readWord", "(I)I"⟩, 76) := ⟨⟨by decide +kernel, by decide +kernel⟩, List.mem_of_getElem? (i := 974) (by decide +kernel), List.mem_of_getElem? (i := 1367) (by decide +kernel), List.mem_of_getElem? (i := 1368) (by decide +kernel)⟩
def lw_privs_3 : List (MethodName × Nat) := [(⟨"OrderEchoModel", "position", "(I)J"⟩, 76), (⟨"OrderEchoModel", "isShop", "(I)Z"⟩, 76), (⟨"OrderEchoModel", "goesBy", "()I"⟩, 76), (⟨"OrderEchoModel", "sends", "(I)J"⟩, 76), (⟨"OrderEchoModel", "shares", "(IJI)V"⟩, 76), (⟨"OrderEchoModel", "orders", "(I)V"⟩, 76), (⟨"OrderEchoModel", "worthOf", "(III)J"⟩, 76), (⟨"OrderEchoModel", "field", "(III)J"⟩, 76), (⟨"OrderEchoModel", "mean", "(II)J"⟩, 76), (⟨"OrderEchoModel", "demands", "(I)V"⟩, 76), (⟨"OrderEchoModel", "reads", "()I"⟩, 76), (⟨"OrderEchoModel", "operand", "(I)I"⟩, 76), (⟨"OrderEchoModel", "byteAt", "(I)I"⟩, 76), (⟨"OrderEchoModel", "puts", "(I)V"⟩, 76), (⟨"OrderEchoModel", "opensAt", "(II)I"⟩, 76), (⟨"OrderEchoModel", "readWord", "(I)I"⟩, 76)]
theorem lw_r3 : ∀ q ∈ lw_privs_3, lw_okq q := List.forall_mem_cons.mpr ⟨lw_p32, List.forall_mem_cons.mpr ⟨lw_p33, List.forall_mem_cons.mpr ⟨lw_p34, List.forall_mem_cons.mpr ⟨lw_p35, List.forall_mem_cons.mpr ⟨lw_p36, List.forall_mem_cons.mpr ⟨lw_p37, List.forall_mem_cons.mpr ⟨lw_p38, List.forall_mem_cons.mpr ⟨lw_p39, List.forall_mem_cons.mpr ⟨lw_p40, List.forall_mem_cons.mpr ⟨lw_p41, List.forall_mem_cons.mpr ⟨lw_p42, List.forall_mem_cons.mpr ⟨lw_p43, List.forall_mem_cons.mpr ⟨lw_p44, List.forall_mem_cons.mpr ⟨lw_p45, List.forall_mem_cons.mpr ⟨lw_p46, List.forall_mem_cons.mpr ⟨lw_p47, fun _ h => absurd h List.not_mem_nil⟩⟩⟩⟩⟩⟩⟩⟩⟩⟩⟩⟩⟩⟩⟩⟩
theorem lw_p48 : lw_okq (⟨"OrderEchoModel", "behind", "(I)I"⟩, 76) := ⟨⟨by decide +kernel, by decide +kernel⟩, List.mem_of_getElem? (i := 974) (by decide +kernel), List.mem_of_getElem? (i := 1371) (by decide +kernel), List.mem_of_getElem? (i := 1372) (by decide +kernel)⟩
theorem lw_p49 : lw_okq (⟨"OrderEchoModel", "unwinds", "(I)V"⟩, 76) := ⟨⟨by decide +kernel, by decide +kernel⟩, List.mem_of_getElem? (i := 974) (by decide +kernel), List.mem_of_getElem? (i := 1378) (by decide +kernel), List.mem_of_getElem? (i := 1379) (by decide +kernel)⟩
theorem lw_p50 : lw_okq (⟨"OrderEchoModel", "findEchoes", "(I)V"⟩, 76) := ⟨⟨by decide +kernel, by decide +kernel⟩, List.mem_of_getElem? (i := 974) (by decide +kernel), List.mem_of_getElem? (i := 1412) (by decide +kernel), List.mem_of_getElem? (i := 1413) (by decide +kernel)⟩
theorem lw_p51 : lw_okq (⟨"OrderEchoModel", "adds", "(JJJJ)V"⟩, 76) := ⟨⟨by decide +kernel, by decide +kernel⟩, List.mem_of_getElem? (i := 974) (by decide +kernel), List.mem_of_getElem? (i := 1416) (by decide +kernel), List.mem_of_getElem? (i := 1417) (by decide +kernel)⟩
theorem lw_p52 : lw_okq (⟨"OrderEchoModel", "lowest", "(JJ)V"⟩, 76) := ⟨⟨by decide +kernel, by decide +kernel⟩, List.mem_of_getElem? (i := 974) (by decide +kernel), List.mem_of_getElem? (i := 1420) (by decide +kernel), List.mem_of_getElem? (i := 1421) (by decide +kernel)⟩
theorem lw_p53 : lw_okq (⟨"OrderEchoModel", "multiplies", "(JJJJ)V"⟩, 76) := ⟨⟨by decide +kernel, by decide +kernel⟩, List.mem_of_getElem? (i := 974) (by decide +kernel), List.mem_of_getElem? (i := 1424) (by decide +kernel), List.mem_of_getElem? (i := 1425) (by decide +kernel)⟩
theorem lw_p54 : lw_okq (⟨"OrderEchoModel", "findBelow", "(I)V"⟩, 76) := ⟨⟨by decide +kernel, by decide +kernel⟩, List.mem_of_getElem? (i := 974) (by decide +kernel), List.mem_of_getElem? (i := 1432) (by decide +kernel), List.mem_of_getElem? (i := 1433) (by decide +kernel)⟩
theorem lw_p55 : lw_okq (⟨"OrderEchoModel", "findChances", "(II)V"⟩, 76) := ⟨⟨by decide +kernel, by decide +kernel⟩, List.mem_of_getElem? (i := 974) (by decide +kernel), List.mem_of_getElem? (i := 1459) (by decide +kernel), List.mem_of_getElem? (i := 1460) (by decide +kernel)⟩
theorem lw_p56 : lw_okq (⟨"OrderEchoModel", "hasLevels", "(II)Z"⟩, 76) := ⟨⟨by decide +kernel, by decide +kernel⟩, List.mem_of_getElem? (i := 974) (by decide +kernel), List.mem_of_getElem? (i := 1467) (by decide +kernel), List.mem_of_getElem? (i := 1468) (by decide +kernel)⟩
theorem lw_p57 : lw_okq (⟨"OrderEchoModel", "nearLevel", "()I"⟩, 76) := ⟨⟨by decide +kernel, by decide +kernel⟩, List.mem_of_getElem? (i := 974) (by decide +kernel), List.mem_of_getElem? (i := 1472) (by decide +kernel), List.mem_of_getElem? (i := 1473) (by decide +kernel)⟩
theorem lw_p58 : lw_okq (⟨"OrderEchoModel", "near", "(J)J"⟩, 76) := ⟨⟨by decide +kernel, by decide +kernel⟩, List.mem_of_getElem? (i := 974) (by decide +kernel), List.mem_of_getElem? (i := 1476) (by decide +kernel), List.mem_of_getElem? (i := 1477) (by decide +kernel)⟩
theorem lw_p59 : lw_okq (⟨"OrderEchoModel", "allNear", "()J"⟩, 76) := ⟨⟨by decide +kernel, by decide +kernel⟩, List.mem_of_getElem? (i := 974) (by decide +kernel), List.mem_of_getElem? (i := 1481) (by decide +kernel), List.mem_of_getElem? (i := 1482) (by decide +kernel)⟩
theorem lw_p60 : lw_okq (⟨"OrderEchoModel", "far", "(II)J"⟩, 76) := ⟨⟨by decide +kernel, by decide +kernel⟩, List.mem_of_getElem? (i := 974) (by decide +kernel), List.mem_of_getElem? (i := 1485) (by decide +kernel), List.mem_of_getElem? (i := 1486) (by decide +kernel)⟩
theorem lw_p61 : lw_okq (⟨"OrderEchoModel", "keeps", "()V"⟩, 76) := ⟨⟨by decide +kernel, by decide +kernel⟩, List.mem_of_getElem? (i := 974) (by decide +kernel), List.mem_of_getElem? (i := 1499) (by decide +kernel), List.mem_of_getElem? (i := 1500) (by decide +kernel)⟩
theorem lw_p62 : lw_okq (⟨"OrderEchoModel", "tries", "(IIIIII)J"⟩, 76) := ⟨⟨by decide +kernel, by decide +kernel⟩, List.mem_of_getElem? (i := 974) (by decide +kernel), List.mem_of_getElem? (i := 1503) (by decide +kernel), List.mem_of_getElem? (i := 1504) (by decide +kernel)⟩
theorem lw_p63 : lw_okq (⟨"OrderEchoModel", "lays", "()V"⟩, 76) := ⟨⟨by decide +kernel, by decide +kernel⟩, List.mem_of_getElem? (i := 974) (by decide +kernel), List.mem_of_getElem? (i := 1507) (by decide +kernel), List.mem_of_getElem? (i := 1508) (by decide +kernel)⟩
def lw_privs_4 : List (MethodName × Nat) := [(⟨"OrderEchoModel", "behind", "(I)I"⟩, 76), (⟨"OrderEchoModel", "unwinds", "(I)V"⟩, 76), (⟨"OrderEchoModel", "findEchoes", "(I)V"⟩, 76), (⟨"OrderEchoModel", "adds", "(JJJJ)V"⟩, 76), (⟨"OrderEchoModel", "lowest", "(JJ)V"⟩, 76), (⟨"OrderEchoModel", "multiplies", "(JJJJ)V"⟩, 76), (⟨"OrderEchoModel", "findBelow", "(I)V"⟩, 76), (⟨"OrderEchoModel", "findChances", "(II)V"⟩, 76), (⟨"OrderEchoModel", "hasLevels", "(II)Z"⟩, 76), (⟨"OrderEchoModel", "nearLevel", "()I"⟩, 76), (⟨"OrderEchoModel", "near", "(J)J"⟩, 76), (⟨"OrderEchoModel", "allNear", "()J"⟩, 76), (⟨"OrderEchoModel", "far", "(II)J"⟩, 76), (⟨"OrderEchoModel", "keeps", "()V"⟩, 76), (⟨"OrderEchoModel", "tries", "(IIIIII)J"⟩, 76), (⟨"OrderEchoModel", "lays", "()V"⟩, 76)]
theorem lw_r4 : ∀ q ∈ lw_privs_4, lw_okq q := List.forall_mem_cons.mpr ⟨lw_p48, List.forall_mem_cons.mpr ⟨lw_p49, List.forall_mem_cons.mpr ⟨lw_p50, List.forall_mem_cons.mpr ⟨lw_p51, List.forall_mem_cons.mpr ⟨lw_p52, List.forall_mem_cons.mpr ⟨lw_p53, List.forall_mem_cons.mpr ⟨lw_p54, List.forall_mem_cons.mpr ⟨lw_p55, List.forall_mem_cons.mpr ⟨lw_p56, List.forall_mem_cons.mpr ⟨lw_p57, List.forall_mem_cons.mpr ⟨lw_p58, List.forall_mem_cons.mpr ⟨lw_p59, List.forall_mem_cons.mpr ⟨lw_p60, List.forall_mem_cons.mpr ⟨lw_p61, List.forall_mem_cons.mpr ⟨lw_p62, List.forall_mem_cons.mpr ⟨lw_p63, fun _ h => absurd h List.not_mem_nil⟩⟩⟩⟩⟩⟩⟩⟩⟩⟩⟩⟩⟩⟩⟩⟩
theorem lw_p64 : lw_okq (⟨"OrderEchoModel", "getsOne", "(IIJII)J"⟩, 76) := ⟨⟨by decide +kernel, by decide +kernel⟩, List.mem_of_getElem? (i := 974) (by decide +kernel), List.mem_of_getElem? (i := 1526) (by decide +kernel), List.mem_of_getElem? (i := 1527) (by decide +kernel)⟩
theorem lw_p65 : lw_okq (⟨"OrderEchoModel", "isCalm", "(IIJJI)Z"⟩, 76) := ⟨⟨by decide +kernel, by decide +kernel⟩, List.mem_of_getElem? (i := 974) (by decide +kernel), List.mem_of_getElem? (i := 1534) (by decide +kernel), List.mem_of_getElem? (i := 1535) (by decide +kernel)⟩
def lw_privs_5 : List (MethodName × Nat) := [(⟨"OrderEchoModel", "getsOne", "(IIJII)J"⟩, 76), (⟨"OrderEchoModel", "isCalm", "(IIJJI)Z"⟩, 76)]
theorem lw_r5 : ∀ q ∈ lw_privs_5, lw_okq q := List.forall_mem_cons.mpr ⟨lw_p64, List.forall_mem_cons.mpr ⟨lw_p65, fun _ h => absurd h List.not_mem_nil⟩⟩
def lw_privs : List (MethodName × Nat) := lw_privs_1 ++ (lw_privs_2 ++ (lw_privs_3 ++ (lw_privs_4 ++ (lw_privs_5))))
def lw_tbl : List Cond := k2_sels lw_privs ++ tables_1
theorem lw_privs_ok : ∀ q ∈ lw_privs, lw_okq q := by
  show ∀ q ∈ lw_privs_1 ++ (lw_privs_2 ++ (lw_privs_3 ++ (lw_privs_4 ++ (lw_privs_5)))), lw_okq q
  exact List.forall_mem_append.mpr ⟨lw_r1, List.forall_mem_append.mpr ⟨lw_r2, List.forall_mem_append.mpr ⟨lw_r3, List.forall_mem_append.mpr ⟨lw_r4, lw_r5⟩⟩⟩⟩
/-! ===== BEGIN words of one list among another's, by their places ===== -/
theorem goodIn_r {big : List Cond} (ws : List Cond) (ps : List Nat) (hp : ws = ps.filterMap (fun i => big[i]?)) (h : ws.all goodWord = true) : GoodIn big ws := by
  intro w hw
  have h1 := List.all_eq_true.mp h w hw
  rw [hp] at hw
  obtain ⟨i, -, hi⟩ := List.mem_filterMap.mp hw
  have hm : w ∈ big := by first | exact List.mem_of_getElem? hi | exact List.getElem?_mem hi
  exact ⟨hm, good_of_word h1⟩
theorem goodIn_app {big a b : List Cond} (ha : GoodIn big a) (hb : GoodIn big b) : GoodIn big (a ++ b) := fun w h => (List.mem_append.mp h).elim (ha w) (hb w)
theorem goodIn_ca {big a b : List Cond} {c : Cond} (ha : GoodIn big (c :: a)) (hb : GoodIn big b) : GoodIn big (c :: (a ++ b)) := fun w h => (List.mem_cons.mp h).elim (fun e => ha w (List.mem_cons.mpr (Or.inl e))) (fun h => (List.mem_append.mp h).elim (fun h => ha w (List.mem_cons.mpr (Or.inr h))) (hb w))
theorem goodIn_sub {big ws : List Cond} (hm : ∀ w ∈ ws, w ∈ big) (h : ws.all goodWord = true) : GoodIn big ws := fun w hw => ⟨hm w hw, good_of_word (List.all_eq_true.mp h w hw)⟩
/-! ===== END ===== -/

/-! ===== BEGIN printed: names, fields, word lists, decode rows ===== -/
def RX0 : String := "OrderEcho$Claims"
def TX0 : u_T := fun k => match k with
  | 0 => ("OrderEcho$Claims", "share", "LOrderEcho$Share;", true)
  | _ => ("OrderEcho$Claims", "wants", "[I", true)
def tyX0 : Nat → FieldType := fun k => match k with
  | 0 => .object "OrderEcho$Share"
  | _ => .array .int
abbrev wsX00 : List Cond := u_ws RX0 TX0 2
theorem nmX0 : ∀ a, a < 2 → ∀ b, b < 2 → a ≠ b → (TX0 a).2.1 ≠ (TX0 b).2.1 := by decide +kernel
theorem tyX0_ok : ∀ k, k < 2 → parseFieldDescriptor (TX0 k).2.2.1 = some (tyX0 k) := by decide +kernel
abbrev cX0_init : ByteArray := prog_2_method_1_code
def yX0_init : MethodName := ⟨RX0, "<init>", "()V"⟩
abbrev cX0_readClaims : ByteArray := prog_2_method_2_code
def yX0_readClaims : MethodName := ⟨RX0, "readClaims", "(JI)Z"⟩
abbrev cX0_readWants : ByteArray := prog_2_method_3_code
def yX0_readWants : MethodName := ⟨RX0, "readWants", "(JI)Z"⟩
abbrev cX0_tellClaims : ByteArray := prog_2_method_4_code
def yX0_tellClaims : MethodName := ⟨RX0, "tellClaims", "()J"⟩
abbrev cX0_gotBy : ByteArray := prog_2_method_5_code
def yX0_gotBy : MethodName := ⟨RX0, "gotBy", "(III)I"⟩
abbrev cX0_distance : ByteArray := prog_2_method_6_code
def yX0_distance : MethodName := ⟨RX0, "distance", "(III)I"⟩
abbrev cX0_isCalm : ByteArray := prog_2_method_7_code
def yX0_isCalm : MethodName := ⟨RX0, "isCalm", "(II)Z"⟩
abbrev cX0_firstCalm : ByteArray := prog_2_method_8_code
def yX0_firstCalm : MethodName := ⟨RX0, "firstCalm", "(II)Z"⟩
def RX1 : String := "OrderEcho$Flow"
def TX1 : u_T := fun k => match k with
  | 0 => ("OrderEcho$Flow", "stock", "[I", true)
  | 1 => ("OrderEcho$Flow", "slots", "[I", true)
  | 2 => ("OrderEcho$Flow", "coming", "[I", true)
  | 3 => ("OrderEcho$Flow", "owes", "[I", true)
  | 4 => ("OrderEcho$Flow", "owedTo", "[I", true)
  | 5 => ("OrderEcho$Flow", "unsent", "[I", true)
  | 6 => ("OrderEcho$Flow", "sent", "[I", true)
  | 7 => ("OrderEcho$Flow", "seen", "[I", true)
  | 8 => ("OrderEcho$Flow", "ordered", "[I", true)
  | 9 => ("OrderEcho$Flow", "cost", "[J", true)
  | 10 => ("OrderEcho$Flow", "weeks", "I", false)
  | 11 => ("OrderEcho$Flow", "made", "J", false)
  | _ => ("OrderEcho$Flow", "sold", "J", false)
def tyX1 : Nat → FieldType := fun k => match k with
  | 0 => .array .int
  | 1 => .array .int
  | 2 => .array .int
  | 3 => .array .int
  | 4 => .array .int
  | 5 => .array .int
  | 6 => .array .int
  | 7 => .array .int
  | 8 => .array .int
  | 9 => .array .long
  | 10 => .int
  | 11 => .long
  | _ => .long
abbrev wsX10 : List Cond := u_ws RX1 TX1 13
theorem nmX1 : ∀ a, a < 13 → ∀ b, b < 13 → a ≠ b → (TX1 a).2.1 ≠ (TX1 b).2.1 := by decide +kernel
theorem tyX1_ok : ∀ k, k < 13 → parseFieldDescriptor (TX1 k).2.2.1 = some (tyX1 k) := by decide +kernel
abbrev cX1_init : ByteArray := prog_3_method_1_code
def yX1_init : MethodName := ⟨RX1, "<init>", "()V"⟩
abbrev cX1_copy : ByteArray := prog_3_method_2_code
def yX1_copy : MethodName := ⟨RX1, "copy", "(LOrderEcho$Flow;)V"⟩
abbrev cX1_pass : ByteArray := prog_3_method_3_code
def yX1_pass : MethodName := ⟨RX1, "pass", "(LOrderEcho$Plan;LOrderEcho$Rules;LOrderEcho$Share;[I)I"⟩
abbrev cX1_arrive : ByteArray := prog_3_method_4_code
def yX1_arrive : MethodName := ⟨RX1, "arrive", "(I)V"⟩
abbrev cX1_learn : ByteArray := prog_3_method_5_code
def yX1_learn : MethodName := ⟨RX1, "learn", "(LOrderEcho$Plan;II)V"⟩
abbrev cX1_send : ByteArray := prog_3_method_6_code
def yX1_send : MethodName := ⟨RX1, "send", "(LOrderEcho$Plan;ILOrderEcho$Share;)V"⟩
abbrev cX1_deliver : ByteArray := prog_3_method_7_code
def yX1_deliver : MethodName := ⟨RX1, "deliver", "(LOrderEcho$Plan;ILOrderEcho$Share;)I"⟩
abbrev cX1_putOnWay : ByteArray := prog_3_method_8_code
def yX1_putOnWay : MethodName := ⟨RX1, "putOnWay", "(LOrderEcho$Plan;II)V"⟩
abbrev cX1_give : ByteArray := prog_3_method_9_code
def yX1_give : MethodName := ⟨RX1, "give", "(LOrderEcho$Plan;IJ)V"⟩
abbrev cX1_latest : ByteArray := prog_3_method_10_code
def yX1_latest : MethodName := ⟨RX1, "latest", "([II)I"⟩
abbrev cX1_position : ByteArray := prog_3_method_11_code
def yX1_position : MethodName := ⟨RX1, "position", "(I)J"⟩
abbrev cX1_field : ByteArray := prog_3_method_12_code
def yX1_field : MethodName := ⟨RX1, "field", "(II)J"⟩
abbrev cX1_mean : ByteArray := prog_3_method_13_code
def yX1_mean : MethodName := ⟨RX1, "mean", "(I)J"⟩
abbrev cX1_total : ByteArray := prog_3_method_14_code
def yX1_total : MethodName := ⟨RX1, "total", "([I)J"⟩
abbrev cX1_costOfAll : ByteArray := prog_3_method_15_code
def yX1_costOfAll : MethodName := ⟨RX1, "costOfAll", "()J"⟩
def RX2 : String := "OrderEcho$Fraction"
def TX2 : u_T := fun k => match k with
  | 0 => ("OrderEcho$Fraction", "above", "J", false)
  | 1 => ("OrderEcho$Fraction", "below", "J", false)
  | _ => ("OrderEcho$Fraction", "spent", "Z", false)
def tyX2 : Nat → FieldType := fun k => match k with
  | 0 => .long
  | 1 => .long
  | _ => .boolean
abbrev wsX20 : List Cond := u_ws RX2 TX2 3
theorem nmX2 : ∀ a, a < 3 → ∀ b, b < 3 → a ≠ b → (TX2 a).2.1 ≠ (TX2 b).2.1 := by decide +kernel
theorem tyX2_ok : ∀ k, k < 3 → parseFieldDescriptor (TX2 k).2.2.1 = some (tyX2 k) := by decide +kernel
abbrev cX2_init : ByteArray := prog_4_method_1_code
def yX2_init : MethodName := ⟨RX2, "<init>", "()V"⟩
abbrev cX2_become : ByteArray := prog_4_method_2_code
def yX2_become : MethodName := ⟨RX2, "become", "(JJ)V"⟩
abbrev cX2_commonDivisor : ByteArray := prog_4_method_3_code
def yX2_commonDivisor : MethodName := ⟨RX2, "commonDivisor", "(JJ)J"⟩
abbrev cX2_spend : ByteArray := prog_4_method_4_code
def yX2_spend : MethodName := ⟨RX2, "spend", "()V"⟩
abbrev cX2_becomeSum : ByteArray := prog_4_method_5_code
def yX2_becomeSum : MethodName := ⟨RX2, "becomeSum", "(LOrderEcho$Fraction;LOrderEcho$Fraction;)V"⟩
abbrev cX2_becomeDifference : ByteArray := prog_4_method_6_code
def yX2_becomeDifference : MethodName := ⟨RX2, "becomeDifference", "(LOrderEcho$Fraction;LOrderEcho$Fraction;)V"⟩
abbrev cX2_becomeProduct : ByteArray := prog_4_method_7_code
def yX2_becomeProduct : MethodName := ⟨RX2, "becomeProduct", "(LOrderEcho$Fraction;LOrderEcho$Fraction;)V"⟩
abbrev cX2_tell : ByteArray := prog_4_method_8_code
def yX2_tell : MethodName := ⟨RX2, "tell", "(I)J"⟩
def RX3 : String := "OrderEcho$Levels"
def TX3 : u_T := fun k => match k with
  | 0 => ("OrderEcho$Levels", "weights", "[I", true)
  | 1 => ("OrderEcho$Levels", "sums", "[J", true)
  | 2 => ("OrderEcho$Levels", "nearSums", "[J", true)
  | 3 => ("OrderEcho$Levels", "farSums", "[J", true)
  | 4 => ("OrderEcho$Levels", "nearCosts", "[J", true)
  | 5 => ("OrderEcho$Levels", "nearLead", "I", false)
  | 6 => ("OrderEcho$Levels", "farLead", "I", false)
  | 7 => ("OrderEcho$Levels", "nearHold", "I", false)
  | 8 => ("OrderEcho$Levels", "farHold", "I", false)
  | 9 => ("OrderEcho$Levels", "lack", "I", false)
  | 10 => ("OrderEcho$Levels", "near", "I", false)
  | _ => ("OrderEcho$Levels", "whole", "J", false)
def tyX3 : Nat → FieldType := fun k => match k with
  | 0 => .array .int
  | 1 => .array .long
  | 2 => .array .long
  | 3 => .array .long
  | 4 => .array .long
  | 5 => .int
  | 6 => .int
  | 7 => .int
  | 8 => .int
  | 9 => .int
  | 10 => .int
  | _ => .long
abbrev wsX30 : List Cond := u_ws RX3 TX3 12
theorem nmX3 : ∀ a, a < 12 → ∀ b, b < 12 → a ≠ b → (TX3 a).2.1 ≠ (TX3 b).2.1 := by decide +kernel
theorem tyX3_ok : ∀ k, k < 12 → parseFieldDescriptor (TX3 k).2.2.1 = some (tyX3 k) := by decide +kernel
abbrev cX3_init : ByteArray := prog_5_method_1_code
def yX3_init : MethodName := ⟨RX3, "<init>", "()V"⟩
abbrev cX3_understand : ByteArray := prog_5_method_2_code
def yX3_understand : MethodName := ⟨RX3, "understand", "(II)Z"⟩
abbrev cX3_addUp : ByteArray := prog_5_method_3_code
def yX3_addUp : MethodName := ⟨RX3, "addUp", "(I[J)V"⟩
abbrev cX3_work : ByteArray := prog_5_method_4_code
def yX3_work : MethodName := ⟨RX3, "work", "()V"⟩
abbrev cX3_nearSum : ByteArray := prog_5_method_5_code
def yX3_nearSum : MethodName := ⟨RX3, "nearSum", "(I)J"⟩
abbrev cX3_nearCost : ByteArray := prog_5_method_6_code
def yX3_nearCost : MethodName := ⟨RX3, "nearCost", "(I)J"⟩
abbrev cX3_farCost : ByteArray := prog_5_method_7_code
def yX3_farCost : MethodName := ⟨RX3, "farCost", "(I)J"⟩
abbrev cX3_far : ByteArray := prog_5_method_8_code
def yX3_far : MethodName := ⟨RX3, "far", "()I"⟩
def RX4 : String := "OrderEcho$Line"
def TX4 : u_T := fun k => match k with
  | 0 => ("OrderEcho$Line", "t", "LOrderEcho$Fraction;", true)
  | 1 => ("OrderEcho$Line", "a", "LOrderEcho$Fraction;", true)
  | 2 => ("OrderEcho$Line", "m", "LOrderEcho$Fraction;", true)
  | 3 => ("OrderEcho$Line", "one", "LOrderEcho$Fraction;", true)
  | 4 => ("OrderEcho$Line", "d", "LOrderEcho$Fraction;", true)
  | 5 => ("OrderEcho$Line", "f", "LOrderEcho$Fraction;", true)
  | 6 => ("OrderEcho$Line", "p", "LOrderEcho$Fraction;", true)
  | 7 => ("OrderEcho$Line", "o", "LOrderEcho$Fraction;", true)
  | 8 => ("OrderEcho$Line", "part", "LOrderEcho$Fraction;", true)
  | 9 => ("OrderEcho$Line", "coefficient", "LOrderEcho$Fraction;", true)
  | _ => ("OrderEcho$Line", "sum", "LOrderEcho$Fraction;", true)
def tyX4 : Nat → FieldType := fun k => match k with
  | 0 => .object "OrderEcho$Fraction"
  | 1 => .object "OrderEcho$Fraction"
  | 2 => .object "OrderEcho$Fraction"
  | 3 => .object "OrderEcho$Fraction"
  | 4 => .object "OrderEcho$Fraction"
  | 5 => .object "OrderEcho$Fraction"
  | 6 => .object "OrderEcho$Fraction"
  | 7 => .object "OrderEcho$Fraction"
  | 8 => .object "OrderEcho$Fraction"
  | 9 => .object "OrderEcho$Fraction"
  | _ => .object "OrderEcho$Fraction"
abbrev wsX40 : List Cond := u_ws RX4 TX4 11
theorem nmX4 : ∀ a, a < 11 → ∀ b, b < 11 → a ≠ b → (TX4 a).2.1 ≠ (TX4 b).2.1 := by decide +kernel
theorem tyX4_ok : ∀ k, k < 11 → parseFieldDescriptor (TX4 k).2.2.1 = some (tyX4 k) := by decide +kernel
abbrev cX4_init : ByteArray := prog_6_method_1_code
def yX4_init : MethodName := ⟨RX4, "<init>", "()V"⟩
abbrev cX4_begin : ByteArray := prog_6_method_2_code
def yX4_begin : MethodName := ⟨RX4, "begin", "()V"⟩
abbrev cX4_pass : ByteArray := prog_6_method_3_code
def yX4_pass : MethodName := ⟨RX4, "pass", "(I)V"⟩
abbrev cX4_below : ByteArray := prog_6_method_4_code
def yX4_below : MethodName := ⟨RX4, "below", "(I)V"⟩
abbrev cX4_above : ByteArray := prog_6_method_5_code
def yX4_above : MethodName := ⟨RX4, "above", "(I)V"⟩
abbrev cX4_loudness : ByteArray := prog_6_method_6_code
def yX4_loudness : MethodName := ⟨RX4, "loudness", "(I)V"⟩
def RX5 : String := "OrderEcho$Past"
def TX5 : u_T := fun k => match k with
  | 0 => ("OrderEcho$Past", "seen", "[I", true)
  | _ => ("OrderEcho$Past", "ordered", "[I", true)
def tyX5 : Nat → FieldType := fun k => match k with
  | 0 => .array .int
  | _ => .array .int
abbrev wsX50 : List Cond := u_ws RX5 TX5 2
theorem nmX5 : ∀ a, a < 2 → ∀ b, b < 2 → a ≠ b → (TX5 a).2.1 ≠ (TX5 b).2.1 := by decide +kernel
theorem tyX5_ok : ∀ k, k < 2 → parseFieldDescriptor (TX5 k).2.2.1 = some (tyX5 k) := by decide +kernel
abbrev cX5_init : ByteArray := prog_7_method_1_code
def yX5_init : MethodName := ⟨RX5, "<init>", "()V"⟩
abbrev cX5_note : ByteArray := prog_7_method_2_code
def yX5_note : MethodName := ⟨RX5, "note", "(LOrderEcho$Flow;I)V"⟩
abbrev cX5_spread : ByteArray := prog_7_method_3_code
def yX5_spread : MethodName := ⟨RX5, "spread", "(IIII)J"⟩
def RX6 : String := "OrderEcho$Plan"
def TX6 : u_T := fun k => match k with
  | 0 => ("OrderEcho$Plan", "kind", "[I", true)
  | 1 => ("OrderEcho$Plan", "supplier", "[I", true)
  | 2 => ("OrderEcho$Plan", "way", "[I", true)
  | 3 => ("OrderEcho$Plan", "delay", "[I", true)
  | 4 => ("OrderEcho$Plan", "lot", "[I", true)
  | 5 => ("OrderEcho$Plan", "cap", "[I", true)
  | 6 => ("OrderEcho$Plan", "hold", "[I", true)
  | 7 => ("OrderEcho$Plan", "lack", "[I", true)
  | 8 => ("OrderEcho$Plan", "rule", "[I", true)
  | 9 => ("OrderEcho$Plan", "stages", "I", false)
  | 10 => ("OrderEcho$Plan", "shops", "I", false)
  | 11 => ("OrderEcho$Plan", "allotment", "I", false)
  | _ => ("OrderEcho$Plan", "firstStock", "J", false)
def tyX6 : Nat → FieldType := fun k => match k with
  | 0 => .array .int
  | 1 => .array .int
  | 2 => .array .int
  | 3 => .array .int
  | 4 => .array .int
  | 5 => .array .int
  | 6 => .array .int
  | 7 => .array .int
  | 8 => .array .int
  | 9 => .int
  | 10 => .int
  | 11 => .int
  | _ => .long
abbrev wsX60 : List Cond := u_ws RX6 TX6 13
theorem nmX6 : ∀ a, a < 13 → ∀ b, b < 13 → a ≠ b → (TX6 a).2.1 ≠ (TX6 b).2.1 := by decide +kernel
theorem tyX6_ok : ∀ k, k < 13 → parseFieldDescriptor (TX6 k).2.2.1 = some (tyX6 k) := by decide +kernel
abbrev cX6_init : ByteArray := prog_8_method_1_code
def yX6_init : MethodName := ⟨RX6, "<init>", "()V"⟩
abbrev cX6_has : ByteArray := prog_8_method_2_code
def yX6_has : MethodName := ⟨RX6, "has", "(I)Z"⟩
abbrev cX6_isShop : ByteArray := prog_8_method_3_code
def yX6_isShop : MethodName := ⟨RX6, "isShop", "(I)Z"⟩
abbrev cX6_settings : ByteArray := prog_8_method_4_code
def yX6_settings : MethodName := ⟨RX6, "settings", "(I)[I"⟩
abbrev cX6_enlarge : ByteArray := prog_8_method_5_code
def yX6_enlarge : MethodName := ⟨RX6, "enlarge", "(IIIII)V"⟩
def RX7 : String := "OrderEcho$Rules"
def TX7 : u_T := fun k => match k with
  | 0 => ("OrderEcho$Rules", "steps", "[I", true)
  | 1 => ("OrderEcho$Rules", "sizes", "[I", true)
  | 2 => ("OrderEcho$Rules", "stack", "[J", true)
  | _ => ("OrderEcho$Rules", "count", "I", false)
def tyX7 : Nat → FieldType := fun k => match k with
  | 0 => .array .int
  | 1 => .array .int
  | 2 => .array .long
  | _ => .int
abbrev wsX70 : List Cond := u_ws RX7 TX7 4
theorem nmX7 : ∀ a, a < 4 → ∀ b, b < 4 → a ≠ b → (TX7 a).2.1 ≠ (TX7 b).2.1 := by decide +kernel
theorem tyX7_ok : ∀ k, k < 4 → parseFieldDescriptor (TX7 k).2.2.1 = some (tyX7 k) := by decide +kernel
abbrev cX7_init : ByteArray := prog_9_method_1_code
def yX7_init : MethodName := ⟨RX7, "<init>", "()V"⟩
abbrev cX7_has : ByteArray := prog_9_method_2_code
def yX7_has : MethodName := ⟨RX7, "has", "(I)Z"⟩
abbrev cX7_keep : ByteArray := prog_9_method_3_code
def yX7_keep : MethodName := ⟨RX7, "keep", "([II)I"⟩
abbrev cX7_valueOf : ByteArray := prog_9_method_4_code
def yX7_valueOf : MethodName := ⟨RX7, "valueOf", "(ILOrderEcho$Flow;I)J"⟩
abbrev cX7_apply : ByteArray := prog_9_method_5_code
def yX7_apply : MethodName := ⟨RX7, "apply", "(IJJ)J"⟩
abbrev cX7_bound : ByteArray := prog_9_method_6_code
def yX7_bound : MethodName := ⟨RX7, "bound", "(J)J"⟩
def RX8 : String := "OrderEcho$Share"
def TX8 : u_T := fun k => match k with
  | 0 => ("OrderEcho$Share", "claims", "[I", true)
  | 1 => ("OrderEcho$Share", "got", "[I", true)
  | _ => ("OrderEcho$Share", "size", "I", false)
def tyX8 : Nat → FieldType := fun k => match k with
  | 0 => .array .int
  | 1 => .array .int
  | _ => .int
abbrev wsX80 : List Cond := u_ws RX8 TX8 3
theorem nmX8 : ∀ a, a < 3 → ∀ b, b < 3 → a ≠ b → (TX8 a).2.1 ≠ (TX8 b).2.1 := by decide +kernel
theorem tyX8_ok : ∀ k, k < 3 → parseFieldDescriptor (TX8 k).2.2.1 = some (tyX8 k) := by decide +kernel
abbrev cX8_init : ByteArray := prog_10_method_1_code
def yX8_init : MethodName := ⟨RX8, "<init>", "()V"⟩
abbrev cX8_append : ByteArray := prog_10_method_2_code
def yX8_append : MethodName := ⟨RX8, "append", "(I)V"⟩
abbrev cX8_split : ByteArray := prog_10_method_3_code
def yX8_split : MethodName := ⟨RX8, "split", "(II)V"⟩
abbrev cX8_byNumbers : ByteArray := prog_10_method_4_code
def yX8_byNumbers : MethodName := ⟨RX8, "byNumbers", "(I)V"⟩
abbrev cX8_byParts : ByteArray := prog_10_method_5_code
def yX8_byParts : MethodName := ⟨RX8, "byParts", "(IJ)V"⟩
abbrev cX8_oneEach : ByteArray := prog_10_method_6_code
def yX8_oneEach : MethodName := ⟨RX8, "oneEach", "(I)V"⟩
abbrev cX8_evenly : ByteArray := prog_10_method_7_code
def yX8_evenly : MethodName := ⟨RX8, "evenly", "(I)V"⟩
def RX9 : String := "OrderEcho$Tape"
def TX9 : u_T := fun k => match k with
  | 0 => ("OrderEcho$Tape", "bytes", "[I", true)
  | 1 => ("OrderEcho$Tape", "code", "[I", true)
  | 2 => ("OrderEcho$Tape", "length", "I", false)
  | 3 => ("OrderEcho$Tape", "at", "I", false)
  | _ => ("OrderEcho$Tape", "size", "I", false)
def tyX9 : Nat → FieldType := fun k => match k with
  | 0 => .array .int
  | 1 => .array .int
  | 2 => .int
  | 3 => .int
  | _ => .int
abbrev wsX90 : List Cond := u_ws RX9 TX9 5
theorem nmX9 : ∀ a, a < 5 → ∀ b, b < 5 → a ≠ b → (TX9 a).2.1 ≠ (TX9 b).2.1 := by decide +kernel
theorem tyX9_ok : ∀ k, k < 5 → parseFieldDescriptor (TX9 k).2.2.1 = some (tyX9 k) := by decide +kernel
abbrev cX9_init : ByteArray := prog_11_method_1_code
def yX9_init : MethodName := ⟨RX9, "<init>", "()V"⟩
abbrev cX9_append : ByteArray := prog_11_method_2_code
def yX9_append : MethodName := ⟨RX9, "append", "(I)V"⟩
abbrev cX9_read : ByteArray := prog_11_method_3_code
def yX9_read : MethodName := ⟨RX9, "read", "()Z"⟩
abbrev cX9_isNext : ByteArray := prog_11_method_4_code
def yX9_isNext : MethodName := ⟨RX9, "isNext", "(C)Z"⟩
abbrev cX9_take : ByteArray := prog_11_method_5_code
def yX9_take : MethodName := ⟨RX9, "take", "(C)Z"⟩
abbrev cX9_emit : ByteArray := prog_11_method_6_code
def yX9_emit : MethodName := ⟨RX9, "emit", "(I)V"⟩
abbrev cX9_readSum : ByteArray := prog_11_method_7_code
def yX9_readSum : MethodName := ⟨RX9, "readSum", "(I)Z"⟩
abbrev cX9_readProduct : ByteArray := prog_11_method_8_code
def yX9_readProduct : MethodName := ⟨RX9, "readProduct", "(I)Z"⟩
abbrev cX9_readAtom : ByteArray := prog_11_method_9_code
def yX9_readAtom : MethodName := ⟨RX9, "readAtom", "(I)Z"⟩
abbrev cX9_openOne : ByteArray := prog_11_method_10_code
def yX9_openOne : MethodName := ⟨RX9, "openOne", "(I)Z"⟩
abbrev cX9_isDigit : ByteArray := prog_11_method_11_code
def yX9_isDigit : MethodName := ⟨RX9, "isDigit", "()Z"⟩
abbrev cX9_readNumber : ByteArray := prog_11_method_12_code
def yX9_readNumber : MethodName := ⟨RX9, "readNumber", "()V"⟩
abbrev cX9_readWord : ByteArray := prog_11_method_13_code
def yX9_readWord : MethodName := ⟨RX9, "readWord", "()I"⟩
def RX10 : String := "OrderEcho"
def TX10 : u_T := fun k => match k with
  | 0 => ("OrderEcho", "plan", "LOrderEcho$Plan;", true)
  | 1 => ("OrderEcho", "rules", "LOrderEcho$Rules;", true)
  | 2 => ("OrderEcho", "tape", "LOrderEcho$Tape;", true)
  | 3 => ("OrderEcho", "share", "LOrderEcho$Share;", true)
  | 4 => ("OrderEcho", "past", "LOrderEcho$Past;", true)
  | 5 => ("OrderEcho", "line", "LOrderEcho$Line;", true)
  | 6 => ("OrderEcho", "quotient", "LOrderEcho$Fraction;", true)
  | 7 => ("OrderEcho", "levels", "LOrderEcho$Levels;", true)
  | 8 => ("OrderEcho", "claimants", "LOrderEcho$Claims;", true)
  | 9 => ("OrderEcho", "polynomial", "[J", true)
  | 10 => ("OrderEcho", "flows", "[LOrderEcho$Flow;", true)
  | 11 => ("OrderEcho", "flow", "LOrderEcho$Flow;", true)
  | 12 => ("OrderEcho", "told", "[I", true)
  | 13 => ("OrderEcho", "tried", "[I", true)
  | 14 => ("OrderEcho", "worstRow", "[I", true)
  | _ => ("OrderEcho", "worstWeeks", "I", false)
def tyX10 : Nat → FieldType := fun k => match k with
  | 0 => .object "OrderEcho$Plan"
  | 1 => .object "OrderEcho$Rules"
  | 2 => .object "OrderEcho$Tape"
  | 3 => .object "OrderEcho$Share"
  | 4 => .object "OrderEcho$Past"
  | 5 => .object "OrderEcho$Line"
  | 6 => .object "OrderEcho$Fraction"
  | 7 => .object "OrderEcho$Levels"
  | 8 => .object "OrderEcho$Claims"
  | 9 => .array .long
  | 10 => .array (.object "OrderEcho$Flow")
  | 11 => .object "OrderEcho$Flow"
  | 12 => .array .int
  | 13 => .array .int
  | 14 => .array .int
  | _ => .int
abbrev wsX100 : List Cond := u_ws RX10 TX10 16
theorem nmX10 : ∀ a, a < 16 → ∀ b, b < 16 → a ≠ b → (TX10 a).2.1 ≠ (TX10 b).2.1 := by decide +kernel
theorem tyX10_ok : ∀ k, k < 16 → parseFieldDescriptor (TX10 k).2.2.1 = some (tyX10 k) := by decide +kernel
abbrev cX10_init : ByteArray := prog_1_method_1_code
def yX10_init : MethodName := ⟨RX10, "<init>", "()V"⟩
abbrev cX10_stage : ByteArray := prog_1_method_2_code
def yX10_stage : MethodName := ⟨RX10, "stage", "(IIIII)I"⟩
abbrev cX10_set : ByteArray := prog_1_method_3_code
def yX10_set : MethodName := ⟨RX10, "set", "(III)I"⟩
abbrev cX10_use : ByteArray := prog_1_method_4_code
def yX10_use : MethodName := ⟨RX10, "use", "(II)I"⟩
abbrev cX10_allot : ByteArray := prog_1_method_5_code
def yX10_allot : MethodName := ⟨RX10, "allot", "(I)I"⟩
abbrev cX10_about : ByteArray := prog_1_method_6_code
def yX10_about : MethodName := ⟨RX10, "about", "(II)I"⟩
abbrev cX10_place : ByteArray := prog_1_method_7_code
def yX10_place : MethodName := ⟨RX10, "place", "(I)J"⟩
abbrev cX10_slot : ByteArray := prog_1_method_8_code
def yX10_slot : MethodName := ⟨RX10, "slot", "(II)I"⟩
abbrev cX10_owed : ByteArray := prog_1_method_9_code
def yX10_owed : MethodName := ⟨RX10, "owed", "(II)I"⟩
abbrev cX10_cost : ByteArray := prog_1_method_10_code
def yX10_cost : MethodName := ⟨RX10, "cost", "(I)J"⟩
abbrev cX10_kept : ByteArray := prog_1_method_11_code
def yX10_kept : MethodName := ⟨RX10, "kept", "(I)J"⟩
abbrev cX10_demand : ByteArray := prog_1_method_12_code
def yX10_demand : MethodName := ⟨RX10, "demand", "(II)I"⟩
abbrev cX10_week : ByteArray := prog_1_method_13_code
def yX10_week : MethodName := ⟨RX10, "week", "()I"⟩
abbrev cX10_weeks : ByteArray := prog_1_method_14_code
def yX10_weeks : MethodName := ⟨RX10, "weeks", "(II)I"⟩
abbrev cX10_goBy : ByteArray := prog_1_method_15_code
def yX10_goBy : MethodName := ⟨RX10, "goBy", "()I"⟩
abbrev cX10_feed : ByteArray := prog_1_method_16_code
def yX10_feed : MethodName := ⟨RX10, "feed", "(JI)I"⟩
abbrev cX10_rule : ByteArray := prog_1_method_17_code
def yX10_rule : MethodName := ⟨RX10, "rule", "()I"⟩
abbrev cX10_worth : ByteArray := prog_1_method_18_code
def yX10_worth : MethodName := ⟨RX10, "worth", "(II)J"⟩
abbrev cX10_swing : ByteArray := prog_1_method_19_code
def yX10_swing : MethodName := ⟨RX10, "swing", "(III)J"⟩
abbrev cX10_gain : ByteArray := prog_1_method_20_code
def yX10_gain : MethodName := ⟨RX10, "gain", "(III)J"⟩
abbrev cX10_swings : ByteArray := prog_1_method_21_code
def yX10_swings : MethodName := ⟨RX10, "swings", "(II)Z"⟩
abbrev cX10_straight : ByteArray := prog_1_method_22_code
def yX10_straight : MethodName := ⟨RX10, "straight", "(III)I"⟩
abbrev cX10_isShare : ByteArray := prog_1_method_23_code
def yX10_isShare : MethodName := ⟨RX10, "isShare", "(I)Z"⟩
abbrev cX10_echo : ByteArray := prog_1_method_24_code
def yX10_echo : MethodName := ⟨RX10, "echo", "(II)J"⟩
abbrev cX10_pole : ByteArray := prog_1_method_25_code
def yX10_pole : MethodName := ⟨RX10, "pole", "(III)J"⟩
abbrev cX10_loud : ByteArray := prog_1_method_26_code
def yX10_loud : MethodName := ⟨RX10, "loud", "(II)J"⟩
abbrev cX10_steady : ByteArray := prog_1_method_27_code
def yX10_steady : MethodName := ⟨RX10, "steady", "(JI)I"⟩
abbrev cX10_lower : ByteArray := prog_1_method_28_code
def yX10_lower : MethodName := ⟨RX10, "lower", "(I)V"⟩
abbrev cX10_chances : ByteArray := prog_1_method_29_code
def yX10_chances : MethodName := ⟨RX10, "chances", "(I)I"⟩
abbrev cX10_chance : ByteArray := prog_1_method_30_code
def yX10_chance : MethodName := ⟨RX10, "chance", "(II)J"⟩
abbrev cX10_level : ByteArray := prog_1_method_31_code
def yX10_level : MethodName := ⟨RX10, "level", "(III)I"⟩
abbrev cX10_levelCost : ByteArray := prog_1_method_32_code
def yX10_levelCost : MethodName := ⟨RX10, "levelCost", "(IIII)J"⟩
abbrev cX10_worst : ByteArray := prog_1_method_33_code
def yX10_worst : MethodName := ⟨RX10, "worst", "(IIIII)J"⟩
abbrev cX10_isHigh : ByteArray := prog_1_method_34_code
def yX10_isHigh : MethodName := ⟨RX10, "isHigh", "(III)Z"⟩
abbrev cX10_lookAhead : ByteArray := prog_1_method_35_code
def yX10_lookAhead : MethodName := ⟨RX10, "lookAhead", "(IIIII)V"⟩
abbrev cX10_greatestOrder : ByteArray := prog_1_method_36_code
def yX10_greatestOrder : MethodName := ⟨RX10, "greatestOrder", "(I)I"⟩
abbrev cX10_worstAt : ByteArray := prog_1_method_37_code
def yX10_worstAt : MethodName := ⟨RX10, "worstAt", "(I)I"⟩
abbrev cX10_gets : ByteArray := prog_1_method_38_code
def yX10_gets : MethodName := ⟨RX10, "gets", "(IIJII)I"⟩
abbrev cX10_calm : ByteArray := prog_1_method_39_code
def yX10_calm : MethodName := ⟨RX10, "calm", "(IIJJI)I"⟩
abbrev cX10_calmest : ByteArray := prog_1_method_40_code
def yX10_calmest : MethodName := ⟨RX10, "calmest", "(IIJI)J"⟩
abbrev cX10_areClaimsFine : ByteArray := prog_1_method_41_code
def yX10_areClaimsFine : MethodName := ⟨RX10, "areClaimsFine", "(III)Z"⟩
abbrev cX10_count : ByteArray := prog_1_method_42_code
def yX10_count : MethodName := ⟨RX10, "count", "(I)I"⟩
abbrev cX10_within : ByteArray := prog_1_method_43_code
def yX10_within : MethodName := ⟨RX10, "within", "(III)Z"⟩
abbrev cX10_endsBelow : ByteArray := prog_1_method_44_code
def yX10_endsBelow : MethodName := ⟨RX10, "endsBelow", "(JI)Z"⟩
def RX11 : String := "OrderEchoModel"
def TX11 : u_T := fun k => match k with
  | 0 => ("OrderEchoModel", "stages", "I", false)
  | 1 => ("OrderEchoModel", "kind", "[I", true)
  | 2 => ("OrderEchoModel", "supplier", "[I", true)
  | 3 => ("OrderEchoModel", "way", "[I", true)
  | 4 => ("OrderEchoModel", "delay", "[I", true)
  | 5 => ("OrderEchoModel", "lot", "[I", true)
  | 6 => ("OrderEchoModel", "cap", "[I", true)
  | 7 => ("OrderEchoModel", "hold", "[I", true)
  | 8 => ("OrderEchoModel", "lack", "[I", true)
  | 9 => ("OrderEchoModel", "ruleOf", "[I", true)
  | 10 => ("OrderEchoModel", "allotment", "I", false)
  | 11 => ("OrderEchoModel", "first", "J", false)
  | 12 => ("OrderEchoModel", "week", "I", false)
  | 13 => ("OrderEchoModel", "made", "J", false)
  | 14 => ("OrderEchoModel", "sold", "J", false)
  | 15 => ("OrderEchoModel", "demand", "[I", true)
  | 16 => ("OrderEchoModel", "stock", "[J", true)
  | 17 => ("OrderEchoModel", "owed", "[J", true)
  | 18 => ("OrderEchoModel", "slots", "[J", true)
  | 19 => ("OrderEchoModel", "given", "[J", true)
  | 20 => ("OrderEchoModel", "cost", "[J", true)
  | 21 => ("OrderEchoModel", "sent", "[J", true)
  | 22 => ("OrderEchoModel", "seen", "[J", true)
  | 23 => ("OrderEchoModel", "ordered", "[J", true)
  | 24 => ("OrderEchoModel", "saw", "[J", true)
  | 25 => ("OrderEchoModel", "gave", "[J", true)
  | 26 => ("OrderEchoModel", "claim", "[J", true)
  | 27 => ("OrderEchoModel", "share", "[J", true)
  | 28 => ("OrderEchoModel", "rules", "I", false)
  | 29 => ("OrderEchoModel", "length", "[I", true)
  | 30 => ("OrderEchoModel", "codes", "[I", true)
  | 31 => ("OrderEchoModel", "tape", "[I", true)
  | 32 => ("OrderEchoModel", "taped", "I", false)
  | 33 => ("OrderEchoModel", "wordLetters", "[I", true)
  | 34 => ("OrderEchoModel", "stack", "[I", true)
  | 35 => ("OrderEchoModel", "deep", "I", false)
  | 36 => ("OrderEchoModel", "opens", "I", false)
  | 37 => ("OrderEchoModel", "out", "I", false)
  | 38 => ("OrderEchoModel", "word", "I", false)
  | 39 => ("OrderEchoModel", "values", "[J", true)
  | 40 => ("OrderEchoModel", "tUp", "J", false)
  | 41 => ("OrderEchoModel", "tDown", "J", false)
  | 42 => ("OrderEchoModel", "aUp", "J", false)
  | 43 => ("OrderEchoModel", "aDown", "J", false)
  | 44 => ("OrderEchoModel", "times", "I", false)
  | 45 => ("OrderEchoModel", "up", "J", false)
  | 46 => ("OrderEchoModel", "down", "J", false)
  | 47 => ("OrderEchoModel", "isSpent", "Z", false)
  | 48 => ("OrderEchoModel", "echoUp", "[J", true)
  | 49 => ("OrderEchoModel", "echoDown", "[J", true)
  | 50 => ("OrderEchoModel", "fUp", "J", false)
  | 51 => ("OrderEchoModel", "fDown", "J", false)
  | 52 => ("OrderEchoModel", "pUp", "J", false)
  | 53 => ("OrderEchoModel", "pDown", "J", false)
  | 54 => ("OrderEchoModel", "belowUp", "[J", true)
  | 55 => ("OrderEchoModel", "belowDown", "[J", true)
  | 56 => ("OrderEchoModel", "coef", "[J", true)
  | 57 => ("OrderEchoModel", "nextCoef", "[J", true)
  | 58 => ("OrderEchoModel", "weight", "[I", true)
  | 59 => ("OrderEchoModel", "chance", "[J", true)
  | 60 => ("OrderEchoModel", "moved", "[J", true)
  | 61 => ("OrderEchoModel", "l", "I", false)
  | 62 => ("OrderEchoModel", "m", "I", false)
  | 63 => ("OrderEchoModel", "h", "J", false)
  | 64 => ("OrderEchoModel", "g", "J", false)
  | 65 => ("OrderEchoModel", "b", "J", false)
  | 66 => ("OrderEchoModel", "keptNumbers", "[J", true)
  | 67 => ("OrderEchoModel", "keptDemand", "[I", true)
  | 68 => ("OrderEchoModel", "kept8", "[J", true)
  | 69 => ("OrderEchoModel", "keptOwed", "[J", true)
  | 70 => ("OrderEchoModel", "keptSlots", "[J", true)
  | 71 => ("OrderEchoModel", "keptGiven", "[J", true)
  | 72 => ("OrderEchoModel", "keptSaw", "[J", true)
  | 73 => ("OrderEchoModel", "keptGave", "[J", true)
  | 74 => ("OrderEchoModel", "worst", "[I", true)
  | _ => ("OrderEchoModel", "worstMany", "I", false)
def tyX11 : Nat → FieldType := fun k => match k with
  | 0 => .int
  | 1 => .array .int
  | 2 => .array .int
  | 3 => .array .int
  | 4 => .array .int
  | 5 => .array .int
  | 6 => .array .int
  | 7 => .array .int
  | 8 => .array .int
  | 9 => .array .int
  | 10 => .int
  | 11 => .long
  | 12 => .int
  | 13 => .long
  | 14 => .long
  | 15 => .array .int
  | 16 => .array .long
  | 17 => .array .long
  | 18 => .array .long
  | 19 => .array .long
  | 20 => .array .long
  | 21 => .array .long
  | 22 => .array .long
  | 23 => .array .long
  | 24 => .array .long
  | 25 => .array .long
  | 26 => .array .long
  | 27 => .array .long
  | 28 => .int
  | 29 => .array .int
  | 30 => .array .int
  | 31 => .array .int
  | 32 => .int
  | 33 => .array .int
  | 34 => .array .int
  | 35 => .int
  | 36 => .int
  | 37 => .int
  | 38 => .int
  | 39 => .array .long
  | 40 => .long
  | 41 => .long
  | 42 => .long
  | 43 => .long
  | 44 => .int
  | 45 => .long
  | 46 => .long
  | 47 => .boolean
  | 48 => .array .long
  | 49 => .array .long
  | 50 => .long
  | 51 => .long
  | 52 => .long
  | 53 => .long
  | 54 => .array .long
  | 55 => .array .long
  | 56 => .array .long
  | 57 => .array .long
  | 58 => .array .int
  | 59 => .array .long
  | 60 => .array .long
  | 61 => .int
  | 62 => .int
  | 63 => .long
  | 64 => .long
  | 65 => .long
  | 66 => .array .long
  | 67 => .array .int
  | 68 => .array .long
  | 69 => .array .long
  | 70 => .array .long
  | 71 => .array .long
  | 72 => .array .long
  | 73 => .array .long
  | 74 => .array .int
  | _ => .int
abbrev wsX110 : List Cond := u_ws RX11 TX11 76
theorem nmX11 : ∀ a, a < 76 → ∀ b, b < 76 → a ≠ b → (TX11 a).2.1 ≠ (TX11 b).2.1 := by decide +kernel
theorem tyX11_ok : ∀ k, k < 76 → parseFieldDescriptor (TX11 k).2.2.1 = some (tyX11 k) := by decide +kernel
abbrev cX11_init : ByteArray := prog_13_method_1_code
def yX11_init : MethodName := ⟨RX11, "<init>", "()V"⟩
abbrev cX11_in : ByteArray := prog_13_method_3_code
def yX11_in : MethodName := ⟨RX11, "in", "(JJJ)Z"⟩
abbrev cX11_isStage : ByteArray := prog_13_method_4_code
def yX11_isStage : MethodName := ⟨RX11, "isStage", "(I)Z"⟩
abbrev cX11_isShop : ByteArray := prog_13_method_5_code
def yX11_isShop : MethodName := ⟨RX11, "isShop", "(I)Z"⟩
abbrev cX11_stage : ByteArray := prog_13_method_6_code
def yX11_stage : MethodName := ⟨RX11, "stage", "(IIIII)I"⟩
abbrev cX11_set : ByteArray := prog_13_method_7_code
def yX11_set : MethodName := ⟨RX11, "set", "(III)I"⟩
abbrev cX11_use : ByteArray := prog_13_method_8_code
def yX11_use : MethodName := ⟨RX11, "use", "(II)I"⟩
abbrev cX11_allot : ByteArray := prog_13_method_9_code
def yX11_allot : MethodName := ⟨RX11, "allot", "(I)I"⟩
abbrev cX11_owes : ByteArray := prog_13_method_10_code
def yX11_owes : MethodName := ⟨RX11, "owes", "(I)J"⟩
abbrev cX11_onWay : ByteArray := prog_13_method_11_code
def yX11_onWay : MethodName := ⟨RX11, "onWay", "(I)J"⟩
abbrev cX11_position : ByteArray := prog_13_method_12_code
def yX11_position : MethodName := ⟨RX11, "position", "(I)J"⟩
abbrev cX11_about : ByteArray := prog_13_method_13_code
def yX11_about : MethodName := ⟨RX11, "about", "(II)I"⟩
abbrev cX11_place : ByteArray := prog_13_method_14_code
def yX11_place : MethodName := ⟨RX11, "place", "(I)J"⟩
abbrev cX11_slot : ByteArray := prog_13_method_15_code
def yX11_slot : MethodName := ⟨RX11, "slot", "(II)I"⟩
abbrev cX11_owed : ByteArray := prog_13_method_16_code
def yX11_owed : MethodName := ⟨RX11, "owed", "(II)I"⟩
abbrev cX11_cost : ByteArray := prog_13_method_17_code
def yX11_cost : MethodName := ⟨RX11, "cost", "(I)J"⟩
abbrev cX11_kept : ByteArray := prog_13_method_18_code
def yX11_kept : MethodName := ⟨RX11, "kept", "(I)J"⟩
abbrev cX11_demand : ByteArray := prog_13_method_19_code
def yX11_demand : MethodName := ⟨RX11, "demand", "(II)I"⟩
abbrev cX11_shares : ByteArray := prog_13_method_20_code
def yX11_shares : MethodName := ⟨RX11, "shares", "(IJI)V"⟩
abbrev cX11_goesBy : ByteArray := prog_13_method_21_code
def yX11_goesBy : MethodName := ⟨RX11, "goesBy", "()I"⟩
abbrev cX11_sends : ByteArray := prog_13_method_22_code
def yX11_sends : MethodName := ⟨RX11, "sends", "(I)J"⟩
abbrev cX11_orders : ByteArray := prog_13_method_23_code
def yX11_orders : MethodName := ⟨RX11, "orders", "(I)V"⟩
abbrev cX11_week : ByteArray := prog_13_method_24_code
def yX11_week : MethodName := ⟨RX11, "week", "()I"⟩
abbrev cX11_demands : ByteArray := prog_13_method_25_code
def yX11_demands : MethodName := ⟨RX11, "demands", "(I)V"⟩
abbrev cX11_weeks : ByteArray := prog_13_method_26_code
def yX11_weeks : MethodName := ⟨RX11, "weeks", "(II)I"⟩
abbrev cX11_feed : ByteArray := prog_13_method_27_code
def yX11_feed : MethodName := ⟨RX11, "feed", "(JI)I"⟩
abbrev cX11_byteAt : ByteArray := prog_13_method_28_code
def yX11_byteAt : MethodName := ⟨RX11, "byteAt", "(I)I"⟩
abbrev cX11_puts : ByteArray := prog_13_method_29_code
def yX11_puts : MethodName := ⟨RX11, "puts", "(I)V"⟩
abbrev cX11_rank : ByteArray := prog_13_method_30_code
def yX11_rank : MethodName := ⟨RX11, "rank", "(I)I"⟩
abbrev cX11_unwinds : ByteArray := prog_13_method_31_code
def yX11_unwinds : MethodName := ⟨RX11, "unwinds", "(I)V"⟩
abbrev cX11_readWord : ByteArray := prog_13_method_32_code
def yX11_readWord : MethodName := ⟨RX11, "readWord", "(I)I"⟩
abbrev cX11_operand : ByteArray := prog_13_method_33_code
def yX11_operand : MethodName := ⟨RX11, "operand", "(I)I"⟩
abbrev cX11_opensAt : ByteArray := prog_13_method_34_code
def yX11_opensAt : MethodName := ⟨RX11, "opensAt", "(II)I"⟩
abbrev cX11_behind : ByteArray := prog_13_method_35_code
def yX11_behind : MethodName := ⟨RX11, "behind", "(I)I"⟩
abbrev cX11_reads : ByteArray := prog_13_method_36_code
def yX11_reads : MethodName := ⟨RX11, "reads", "()I"⟩
abbrev cX11_rule : ByteArray := prog_13_method_37_code
def yX11_rule : MethodName := ⟨RX11, "rule", "()I"⟩
abbrev cX11_kept0 : ByteArray := prog_13_method_38_code
def yX11_kept0 : MethodName := ⟨RX11, "kept0", "(J)J"⟩
abbrev cX11_mean : ByteArray := prog_13_method_39_code
def yX11_mean : MethodName := ⟨RX11, "mean", "(II)J"⟩
abbrev cX11_field : ByteArray := prog_13_method_40_code
def yX11_field : MethodName := ⟨RX11, "field", "(III)J"⟩
abbrev cX11_stepOf : ByteArray := prog_13_method_41_code
def yX11_stepOf : MethodName := ⟨RX11, "stepOf", "(IJJ)J"⟩
abbrev cX11_worthOf : ByteArray := prog_13_method_42_code
def yX11_worthOf : MethodName := ⟨RX11, "worthOf", "(III)J"⟩
abbrev cX11_worth : ByteArray := prog_13_method_43_code
def yX11_worth : MethodName := ⟨RX11, "worth", "(II)J"⟩
abbrev cX11_swing : ByteArray := prog_13_method_44_code
def yX11_swing : MethodName := ⟨RX11, "swing", "(III)J"⟩
abbrev cX11_divisor : ByteArray := prog_13_method_45_code
def yX11_divisor : MethodName := ⟨RX11, "divisor", "(JJ)J"⟩
abbrev cX11_gain : ByteArray := prog_13_method_46_code
def yX11_gain : MethodName := ⟨RX11, "gain", "(III)J"⟩
abbrev cX11_isPart : ByteArray := prog_13_method_47_code
def yX11_isPart : MethodName := ⟨RX11, "isPart", "(I)Z"⟩
abbrev cX11_straight : ByteArray := prog_13_method_48_code
def yX11_straight : MethodName := ⟨RX11, "straight", "(III)I"⟩
abbrev cX11_lowest : ByteArray := prog_13_method_49_code
def yX11_lowest : MethodName := ⟨RX11, "lowest", "(JJ)V"⟩
abbrev cX11_adds : ByteArray := prog_13_method_50_code
def yX11_adds : MethodName := ⟨RX11, "adds", "(JJJJ)V"⟩
abbrev cX11_multiplies : ByteArray := prog_13_method_51_code
def yX11_multiplies : MethodName := ⟨RX11, "multiplies", "(JJJJ)V"⟩
abbrev cX11_findEchoes : ByteArray := prog_13_method_52_code
def yX11_findEchoes : MethodName := ⟨RX11, "findEchoes", "(I)V"⟩
abbrev cX11_echo : ByteArray := prog_13_method_53_code
def yX11_echo : MethodName := ⟨RX11, "echo", "(II)J"⟩
abbrev cX11_findBelow : ByteArray := prog_13_method_54_code
def yX11_findBelow : MethodName := ⟨RX11, "findBelow", "(I)V"⟩
abbrev cX11_pole : ByteArray := prog_13_method_55_code
def yX11_pole : MethodName := ⟨RX11, "pole", "(III)J"⟩
abbrev cX11_loud : ByteArray := prog_13_method_56_code
def yX11_loud : MethodName := ⟨RX11, "loud", "(II)J"⟩
abbrev cX11_size : ByteArray := prog_13_method_57_code
def yX11_size : MethodName := ⟨RX11, "size", "(J)J"⟩
abbrev cX11_steady : ByteArray := prog_13_method_58_code
def yX11_steady : MethodName := ⟨RX11, "steady", "(JI)I"⟩
abbrev cX11_chances : ByteArray := prog_13_method_59_code
def yX11_chances : MethodName := ⟨RX11, "chances", "(I)I"⟩
abbrev cX11_findChances : ByteArray := prog_13_method_60_code
def yX11_findChances : MethodName := ⟨RX11, "findChances", "(II)V"⟩
abbrev cX11_chance : ByteArray := prog_13_method_61_code
def yX11_chance : MethodName := ⟨RX11, "chance", "(II)J"⟩
abbrev cX11_hasLevels : ByteArray := prog_13_method_62_code
def yX11_hasLevels : MethodName := ⟨RX11, "hasLevels", "(II)Z"⟩
abbrev cX11_allNear : ByteArray := prog_13_method_63_code
def yX11_allNear : MethodName := ⟨RX11, "allNear", "()J"⟩
abbrev cX11_near : ByteArray := prog_13_method_64_code
def yX11_near : MethodName := ⟨RX11, "near", "(J)J"⟩
abbrev cX11_nearLevel : ByteArray := prog_13_method_65_code
def yX11_nearLevel : MethodName := ⟨RX11, "nearLevel", "()I"⟩
abbrev cX11_far : ByteArray := prog_13_method_66_code
def yX11_far : MethodName := ⟨RX11, "far", "(II)J"⟩
abbrev cX11_level : ByteArray := prog_13_method_67_code
def yX11_level : MethodName := ⟨RX11, "level", "(III)I"⟩
abbrev cX11_levelCost : ByteArray := prog_13_method_68_code
def yX11_levelCost : MethodName := ⟨RX11, "levelCost", "(IIII)J"⟩
abbrev cX11_keeps : ByteArray := prog_13_method_69_code
def yX11_keeps : MethodName := ⟨RX11, "keeps", "()V"⟩
abbrev cX11_lays : ByteArray := prog_13_method_70_code
def yX11_lays : MethodName := ⟨RX11, "lays", "()V"⟩
abbrev cX11_tries : ByteArray := prog_13_method_71_code
def yX11_tries : MethodName := ⟨RX11, "tries", "(IIIIII)J"⟩
abbrev cX11_worst : ByteArray := prog_13_method_72_code
def yX11_worst : MethodName := ⟨RX11, "worst", "(IIIII)J"⟩
abbrev cX11_worstAt : ByteArray := prog_13_method_73_code
def yX11_worstAt : MethodName := ⟨RX11, "worstAt", "(I)I"⟩
abbrev cX11_areDigits : ByteArray := prog_13_method_74_code
def yX11_areDigits : MethodName := ⟨RX11, "areDigits", "(JII)Z"⟩
abbrev cX11_areClaims : ByteArray := prog_13_method_75_code
def yX11_areClaims : MethodName := ⟨RX11, "areClaims", "(IIJII)Z"⟩
abbrev cX11_getsOne : ByteArray := prog_13_method_76_code
def yX11_getsOne : MethodName := ⟨RX11, "getsOne", "(IIJII)J"⟩
abbrev cX11_gets : ByteArray := prog_13_method_77_code
def yX11_gets : MethodName := ⟨RX11, "gets", "(IIJII)I"⟩
abbrev cX11_isCalm : ByteArray := prog_13_method_78_code
def yX11_isCalm : MethodName := ⟨RX11, "isCalm", "(IIJJI)Z"⟩
abbrev cX11_calm : ByteArray := prog_13_method_79_code
def yX11_calm : MethodName := ⟨RX11, "calm", "(IIJJI)I"⟩
abbrev cX11_calmest : ByteArray := prog_13_method_80_code
def yX11_calmest : MethodName := ⟨RX11, "calmest", "(IIJI)J"⟩
abbrev cX11_count : ByteArray := prog_13_method_81_code
def yX11_count : MethodName := ⟨RX11, "count", "(I)I"⟩
def RJ6 : String := "java/lang/Integer"
def TJ6 : u_T := fun k => match k with
  | _ => ("", "", "", false)
def tyJ6 : Nat → FieldType := fun k => match k with
  | _ => .int
abbrev wsJ60 : List Cond := u_ws RJ6 TJ6 0
theorem nmJ6 : ∀ a, a < 0 → ∀ b, b < 0 → a ≠ b → (TJ6 a).2.1 ≠ (TJ6 b).2.1 := by decide +kernel
theorem tyJ6_ok : ∀ k, k < 0 → parseFieldDescriptor (TJ6 k).2.2.1 = some (tyJ6 k) := by decide +kernel
abbrev cJ6_bitCount_0f7a4 : ByteArray := prog_14_method_49_code
def yJ6_bitCount_0f7a4 : MethodName := ⟨RJ6, "bitCount", "(I)I"⟩
def RJ9 : String := "java/lang/Math"
def TJ9 : u_T := fun k => match k with
  | _ => ("", "", "", false)
def tyJ9 : Nat → FieldType := fun k => match k with
  | _ => .int
abbrev wsJ90 : List Cond := u_ws RJ9 TJ9 0
theorem nmJ9 : ∀ a, a < 0 → ∀ b, b < 0 → a ≠ b → (TJ9 a).2.1 ≠ (TJ9 b).2.1 := by decide +kernel
theorem tyJ9_ok : ∀ k, k < 0 → parseFieldDescriptor (TJ9 k).2.2.1 = some (tyJ9 k) := by decide +kernel
abbrev cJ9_abs_0f7a4 : ByteArray := prog_15_method_59_code
def yJ9_abs_0f7a4 : MethodName := ⟨RJ9, "abs", "(I)I"⟩
abbrev cJ9_abs_067f4 : ByteArray := prog_15_method_61_code
def yJ9_abs_067f4 : MethodName := ⟨RJ9, "abs", "(J)J"⟩
abbrev cJ9_max_7cf53 : ByteArray := prog_15_method_65_code
def yJ9_max_7cf53 : MethodName := ⟨RJ9, "max", "(II)I"⟩
abbrev cJ9_max_f86c9 : ByteArray := prog_15_method_66_code
def yJ9_max_f86c9 : MethodName := ⟨RJ9, "max", "(JJ)J"⟩
abbrev cJ9_min_7cf53 : ByteArray := prog_15_method_69_code
def yJ9_min_7cf53 : MethodName := ⟨RJ9, "min", "(II)I"⟩
abbrev cJ9_min_f86c9 : ByteArray := prog_15_method_70_code
def yJ9_min_f86c9 : MethodName := ⟨RJ9, "min", "(JJ)J"⟩
def RJ0 : String := "java/lang/String"
def TJ0 : u_T := fun k => match k with
  | _ => ("", "", "", false)
def tyJ0 : Nat → FieldType := fun k => match k with
  | _ => .int
abbrev wsJ00 : List Cond := u_ws RJ0 TJ0 0
theorem nmJ0 : ∀ a, a < 0 → ∀ b, b < 0 → a ≠ b → (TJ0 a).2.1 ≠ (TJ0 b).2.1 := by decide +kernel
theorem tyJ0_ok : ∀ k, k < 0 → parseFieldDescriptor (TJ0 k).2.2.1 = some (tyJ0 k) := by decide +kernel
abbrev cJ0_length_8abf5 : ByteArray := prog_16_method_54_code
def yJ0_length_8abf5 : MethodName := ⟨RJ0, "length", "()I"⟩
abbrev cJ0_charAt_5068e : ByteArray := prog_16_method_56_code
def yJ0_charAt_5068e : MethodName := ⟨RJ0, "charAt", "(I)C"⟩
abbrev cJ0_coder_7d493 : ByteArray := prog_16_method_152_code
def yJ0_coder_7d493 : MethodName := ⟨RJ0, "coder", "()B"⟩
abbrev cJ0_isLatin1_aae02 : ByteArray := prog_16_method_154_code
def yJ0_isLatin1_aae02 : MethodName := ⟨RJ0, "isLatin1", "()Z"⟩
abbrev cJ0_checkIndex_df160 : ByteArray := prog_16_method_155_code
def yJ0_checkIndex_df160 : MethodName := ⟨RJ0, "checkIndex", "(II)V"⟩
def RJ1 : String := "java/lang/StringLatin1"
def TJ1 : u_T := fun k => match k with
  | _ => ("", "", "", false)
def tyJ1 : Nat → FieldType := fun k => match k with
  | _ => .int
abbrev wsJ10 : List Cond := u_ws RJ1 TJ1 0
theorem nmJ1 : ∀ a, a < 0 → ∀ b, b < 0 → a ≠ b → (TJ1 a).2.1 ≠ (TJ1 b).2.1 := by decide +kernel
theorem tyJ1_ok : ∀ k, k < 0 → parseFieldDescriptor (TJ1 k).2.2.1 = some (tyJ1 k) := by decide +kernel
abbrev cJ1_charAt_3b067 : ByteArray := prog_17_method_2_code
def yJ1_charAt_3b067 : MethodName := ⟨RJ1, "charAt", "([BI)C"⟩
def RJ2 : String := "java/lang/StringUTF16"
def TJ2 : u_T := fun k => match k with
  | _ => ("", "", "", false)
def tyJ2 : Nat → FieldType := fun k => match k with
  | _ => .int
abbrev wsJ20 : List Cond := u_ws RJ2 TJ2 0
theorem nmJ2 : ∀ a, a < 0 → ∀ b, b < 0 → a ≠ b → (TJ2 a).2.1 ≠ (TJ2 b).2.1 := by decide +kernel
theorem tyJ2_ok : ∀ k, k < 0 → parseFieldDescriptor (TJ2 k).2.2.1 = some (tyJ2 k) := by decide +kernel
abbrev cJ2_getChar_3b067 : ByteArray := prog_18_method_5_code
def yJ2_getChar_3b067 : MethodName := ⟨RJ2, "getChar", "([BI)C"⟩
abbrev cJ2_length_9d52b : ByteArray := prog_18_method_6_code
def yJ2_length_9d52b : MethodName := ⟨RJ2, "length", "([B)I"⟩
abbrev cJ2_charAt_3b067 : ByteArray := prog_18_method_83_code
def yJ2_charAt_3b067 : MethodName := ⟨RJ2, "charAt", "([BI)C"⟩
abbrev cJ2_checkIndex_2214a : ByteArray := prog_18_method_91_code
def yJ2_checkIndex_2214a : MethodName := ⟨RJ2, "checkIndex", "(I[B)V"⟩
def RJ10 : String := "java/lang/System"
def TJ10 : u_T := fun k => match k with
  | _ => ("", "", "", false)
def tyJ10 : Nat → FieldType := fun k => match k with
  | _ => .int
abbrev wsJ100 : List Cond := u_ws RJ10 TJ10 0
theorem nmJ10 : ∀ a, a < 0 → ∀ b, b < 0 → a ≠ b → (TJ10 a).2.1 ≠ (TJ10 b).2.1 := by decide +kernel
theorem tyJ10_ok : ∀ k, k < 0 → parseFieldDescriptor (TJ10 k).2.2.1 = some (tyJ10 k) := by decide +kernel
def RJ3 : String := "jdk/internal/util/Preconditions"
def TJ3 : u_T := fun k => match k with
  | _ => ("", "", "", false)
def tyJ3 : Nat → FieldType := fun k => match k with
  | _ => .int
abbrev wsJ30 : List Cond := u_ws RJ3 TJ3 0
theorem nmJ3 : ∀ a, a < 0 → ∀ b, b < 0 → a ≠ b → (TJ3 a).2.1 ≠ (TJ3 b).2.1 := by decide +kernel
theorem tyJ3_ok : ∀ k, k < 0 → parseFieldDescriptor (TJ3 k).2.2.1 = some (tyJ3 k) := by decide +kernel
abbrev cJ3_checkIndex_8e157 : ByteArray := prog_20_method_11_code
def yJ3_checkIndex_8e157 : MethodName := ⟨RJ3, "checkIndex", "(IILjava/util/function/BiFunction;)I"⟩
def RL : String := "OrderEchoLaw"
abbrev cL_law : ByteArray := code
def yL_law : MethodName := ⟨RL, "law", "([I)Z"⟩
def wsL_law_r1 : List Cond := [Cond.classLink RL 7 RX10, Cond.instantiable RX10 16, Cond.initialized RX10, Cond.classLink RL 10 RX11, Cond.instantiable RX11 76, Cond.initialized RX11, Cond.constantLong RL 71 (4294967295), Cond.methodLink RL 9 yX10_init, Cond.instanceMethod yX10_init, Cond.code yX10_init cX10_init 2 none, Cond.methodLink RX10 3 objectInit, Cond.instanceMethod objectInit, Cond.code objectInit ⟨#[0xb1]⟩ 1 none, Cond.classLink RX10 9 RX6, Cond.instantiable RX6 13, Cond.initialized RX6, Cond.fieldLink RX10 12 "OrderEcho" "plan" "LOrderEcho$Plan;", Cond.classLink RX10 18 RX7, Cond.instantiable RX7 4, Cond.initialized RX7, Cond.fieldLink RX10 21 "OrderEcho" "rules" "LOrderEcho$Rules;", Cond.classLink RX10 25 RX9, Cond.instantiable RX9 5, Cond.initialized RX9]
def wsL_law_r2 : List Cond := [Cond.fieldLink RX10 28 "OrderEcho" "tape" "LOrderEcho$Tape;", Cond.classLink RX10 32 RX8, Cond.instantiable RX8 3, Cond.initialized RX8, Cond.fieldLink RX10 35 "OrderEcho" "share" "LOrderEcho$Share;", Cond.classLink RX10 39 RX5, Cond.instantiable RX5 2, Cond.initialized RX5, Cond.fieldLink RX10 42 "OrderEcho" "past" "LOrderEcho$Past;", Cond.classLink RX10 46 RX4, Cond.instantiable RX4 11, Cond.initialized RX4, Cond.fieldLink RX10 49 "OrderEcho" "line" "LOrderEcho$Line;", Cond.classLink RX10 53 RX2, Cond.instantiable RX2 3, Cond.initialized RX2, Cond.fieldLink RX10 56 "OrderEcho" "quotient" "LOrderEcho$Fraction;", Cond.classLink RX10 60 RX3, Cond.instantiable RX3 12, Cond.initialized RX3, Cond.fieldLink RX10 63 "OrderEcho" "levels" "LOrderEcho$Levels;", Cond.classLink RX10 67 RX0, Cond.instantiable RX0 2, Cond.initialized RX0]
def wsL_law_r3 : List Cond := [Cond.fieldLink RX10 70 "OrderEcho" "claimants" "LOrderEcho$Claims;", Cond.arrayClass .long, Cond.fieldLink RX10 74 "OrderEcho" "polynomial" "[J", Cond.classLink RX10 78 RX1, Cond.fieldLink RX10 80 "OrderEcho" "flows" "[LOrderEcho$Flow;", Cond.instantiable RX1 13, Cond.initialized RX1, Cond.fieldLink RX10 85 "OrderEcho" "flow" "LOrderEcho$Flow;", Cond.arrayClass .int, Cond.fieldLink RX10 89 "OrderEcho" "told" "[I", Cond.fieldLink RX10 93 "OrderEcho" "tried" "[I", Cond.fieldLink RX10 96 "OrderEcho" "worstRow" "[I", Cond.instanceMethod yX6_init, Cond.code yX6_init cX6_init 1 none, Cond.methodLink RX6 3 objectInit, Cond.fieldLink RX6 9 "OrderEcho$Plan" "kind" "[I", Cond.fieldLink RX6 15 "OrderEcho$Plan" "supplier" "[I", Cond.fieldLink RX6 18 "OrderEcho$Plan" "way" "[I", Cond.fieldLink RX6 21 "OrderEcho$Plan" "delay" "[I", Cond.fieldLink RX6 24 "OrderEcho$Plan" "lot" "[I", Cond.fieldLink RX6 27 "OrderEcho$Plan" "cap" "[I", Cond.fieldLink RX6 30 "OrderEcho$Plan" "hold" "[I", Cond.fieldLink RX6 33 "OrderEcho$Plan" "lack" "[I", Cond.fieldLink RX6 36 "OrderEcho$Plan" "rule" "[I"]
def wsL_law_r4 : List Cond := [Cond.instanceMethod yX7_init, Cond.code yX7_init cX7_init 1 none, Cond.methodLink RX7 3 objectInit, Cond.fieldLink RX7 9 "OrderEcho$Rules" "steps" "[I", Cond.fieldLink RX7 15 "OrderEcho$Rules" "sizes" "[I", Cond.fieldLink RX7 18 "OrderEcho$Rules" "stack" "[J", Cond.instanceMethod yX9_init, Cond.code yX9_init cX9_init 1 none, Cond.methodLink RX9 3 objectInit, Cond.fieldLink RX9 9 "OrderEcho$Tape" "bytes" "[I", Cond.fieldLink RX9 15 "OrderEcho$Tape" "code" "[I", Cond.instanceMethod yX8_init, Cond.code yX8_init cX8_init 1 none, Cond.methodLink RX8 3 objectInit, Cond.fieldLink RX8 9 "OrderEcho$Share" "claims" "[I", Cond.fieldLink RX8 15 "OrderEcho$Share" "got" "[I", Cond.instanceMethod yX5_init, Cond.code yX5_init cX5_init 1 none, Cond.methodLink RX5 3 objectInit, Cond.fieldLink RX5 9 "OrderEcho$Past" "seen" "[I", Cond.fieldLink RX5 15 "OrderEcho$Past" "ordered" "[I", Cond.methodLink RX10 48 yX4_init, Cond.instanceMethod yX4_init, Cond.code yX4_init cX4_init 1 none]
def wsL_law_r5 : List Cond := [Cond.methodLink RX4 1 objectInit, Cond.classLink RX4 7 RX2, Cond.fieldLink RX4 10 "OrderEcho$Line" "t" "LOrderEcho$Fraction;", Cond.fieldLink RX4 16 "OrderEcho$Line" "a" "LOrderEcho$Fraction;", Cond.fieldLink RX4 19 "OrderEcho$Line" "m" "LOrderEcho$Fraction;", Cond.fieldLink RX4 22 "OrderEcho$Line" "one" "LOrderEcho$Fraction;", Cond.fieldLink RX4 25 "OrderEcho$Line" "d" "LOrderEcho$Fraction;", Cond.fieldLink RX4 28 "OrderEcho$Line" "f" "LOrderEcho$Fraction;", Cond.fieldLink RX4 31 "OrderEcho$Line" "p" "LOrderEcho$Fraction;", Cond.fieldLink RX4 34 "OrderEcho$Line" "o" "LOrderEcho$Fraction;", Cond.fieldLink RX4 37 "OrderEcho$Line" "part" "LOrderEcho$Fraction;", Cond.fieldLink RX4 40 "OrderEcho$Line" "coefficient" "LOrderEcho$Fraction;", Cond.fieldLink RX4 43 "OrderEcho$Line" "sum" "LOrderEcho$Fraction;", Cond.fieldLink RX4 46 "OrderEcho$Fraction" "above" "J", Cond.instanceMethod yX2_init, Cond.code yX2_init cX2_init 1 none, Cond.methodLink RX2 3 objectInit, Cond.fieldLink RX2 9 "OrderEcho$Fraction" "below" "J", Cond.methodLink RX10 62 yX3_init, Cond.instanceMethod yX3_init, Cond.code yX3_init cX3_init 2 none, Cond.methodLink RX3 3 objectInit, Cond.fieldLink RX3 9 "OrderEcho$Levels" "weights" "[I", Cond.fieldLink RX3 13 "OrderEcho$Levels" "sums" "[J"]
def wsL_law_r6 : List Cond := [Cond.fieldLink RX3 17 "OrderEcho$Levels" "nearSums" "[J", Cond.fieldLink RX3 20 "OrderEcho$Levels" "farSums" "[J", Cond.fieldLink RX3 23 "OrderEcho$Levels" "nearCosts" "[J", Cond.instanceMethod yX0_init, Cond.code yX0_init cX0_init 1 none, Cond.methodLink RX0 1 objectInit, Cond.classLink RX0 7 RX8, Cond.fieldLink RX0 10 "OrderEcho$Claims" "share" "LOrderEcho$Share;", Cond.fieldLink RX0 16 "OrderEcho$Claims" "wants" "[I", Cond.instanceMethod yX1_init, Cond.code yX1_init cX1_init 1 none, Cond.methodLink RX1 3 objectInit, Cond.fieldLink RX1 9 "OrderEcho$Flow" "stock" "[I", Cond.fieldLink RX1 15 "OrderEcho$Flow" "slots" "[I", Cond.fieldLink RX1 18 "OrderEcho$Flow" "coming" "[I", Cond.fieldLink RX1 21 "OrderEcho$Flow" "owes" "[I", Cond.fieldLink RX1 24 "OrderEcho$Flow" "owedTo" "[I", Cond.fieldLink RX1 27 "OrderEcho$Flow" "unsent" "[I", Cond.fieldLink RX1 30 "OrderEcho$Flow" "sent" "[I", Cond.fieldLink RX1 33 "OrderEcho$Flow" "seen" "[I", Cond.fieldLink RX1 36 "OrderEcho$Flow" "ordered" "[I", Cond.fieldLink RX1 39 "OrderEcho$Flow" "cost" "[J", Cond.methodLink RL 12 yX11_init, Cond.instanceMethod yX11_init]
def wsL_law_r7 : List Cond := [Cond.code yX11_init cX11_init 1 none, Cond.methodLink RX11 1 objectInit, Cond.fieldLink RX11 7 "OrderEchoModel" "kind" "[I", Cond.fieldLink RX11 13 "OrderEchoModel" "supplier" "[I", Cond.fieldLink RX11 16 "OrderEchoModel" "way" "[I", Cond.fieldLink RX11 19 "OrderEchoModel" "delay" "[I", Cond.fieldLink RX11 22 "OrderEchoModel" "lot" "[I", Cond.fieldLink RX11 25 "OrderEchoModel" "cap" "[I", Cond.fieldLink RX11 28 "OrderEchoModel" "hold" "[I", Cond.fieldLink RX11 31 "OrderEchoModel" "lack" "[I", Cond.fieldLink RX11 34 "OrderEchoModel" "ruleOf" "[I", Cond.fieldLink RX11 37 "OrderEchoModel" "demand" "[I", Cond.fieldLink RX11 40 "OrderEchoModel" "stock" "[J", Cond.fieldLink RX11 44 "OrderEchoModel" "owed" "[J", Cond.fieldLink RX11 47 "OrderEchoModel" "slots" "[J", Cond.fieldLink RX11 50 "OrderEchoModel" "given" "[J", Cond.fieldLink RX11 53 "OrderEchoModel" "cost" "[J", Cond.fieldLink RX11 56 "OrderEchoModel" "sent" "[J", Cond.fieldLink RX11 59 "OrderEchoModel" "seen" "[J", Cond.fieldLink RX11 62 "OrderEchoModel" "ordered" "[J", Cond.fieldLink RX11 65 "OrderEchoModel" "saw" "[J", Cond.fieldLink RX11 68 "OrderEchoModel" "gave" "[J", Cond.fieldLink RX11 71 "OrderEchoModel" "claim" "[J", Cond.fieldLink RX11 74 "OrderEchoModel" "share" "[J"]
def wsL_law_r8 : List Cond := [Cond.fieldLink RX11 77 "OrderEchoModel" "length" "[I", Cond.fieldLink RX11 80 "OrderEchoModel" "codes" "[I", Cond.fieldLink RX11 83 "OrderEchoModel" "tape" "[I", Cond.fieldLink RX11 86 "OrderEchoModel" "wordLetters" "[I", Cond.fieldLink RX11 89 "OrderEchoModel" "stack" "[I", Cond.fieldLink RX11 92 "OrderEchoModel" "values" "[J", Cond.fieldLink RX11 95 "OrderEchoModel" "tUp" "J", Cond.fieldLink RX11 99 "OrderEchoModel" "tDown" "J", Cond.fieldLink RX11 102 "OrderEchoModel" "aUp" "J", Cond.fieldLink RX11 105 "OrderEchoModel" "aDown" "J", Cond.fieldLink RX11 108 "OrderEchoModel" "times" "I", Cond.fieldLink RX11 112 "OrderEchoModel" "echoUp" "[J", Cond.fieldLink RX11 115 "OrderEchoModel" "echoDown" "[J", Cond.fieldLink RX11 118 "OrderEchoModel" "belowUp" "[J", Cond.fieldLink RX11 121 "OrderEchoModel" "belowDown" "[J", Cond.fieldLink RX11 124 "OrderEchoModel" "coef" "[J", Cond.fieldLink RX11 127 "OrderEchoModel" "nextCoef" "[J", Cond.fieldLink RX11 130 "OrderEchoModel" "weight" "[I", Cond.fieldLink RX11 133 "OrderEchoModel" "chance" "[J", Cond.fieldLink RX11 136 "OrderEchoModel" "moved" "[J", Cond.fieldLink RX11 139 "OrderEchoModel" "keptNumbers" "[J", Cond.fieldLink RX11 142 "OrderEchoModel" "keptDemand" "[I", Cond.fieldLink RX11 145 "OrderEchoModel" "kept8" "[J", Cond.fieldLink RX11 148 "OrderEchoModel" "keptOwed" "[J"]
def wsL_law_r9 : List Cond := [Cond.fieldLink RX11 151 "OrderEchoModel" "keptSlots" "[J", Cond.fieldLink RX11 154 "OrderEchoModel" "keptGiven" "[J", Cond.fieldLink RX11 157 "OrderEchoModel" "keptSaw" "[J", Cond.fieldLink RX11 160 "OrderEchoModel" "keptGave" "[J", Cond.fieldLink RX11 163 "OrderEchoModel" "worst" "[I", Cond.methodLink RL 13 yX10_stage, Cond.instanceMethod yX10_stage, Cond.selects RX10 yX10_stage yX10_stage, Cond.code yX10_stage cX10_stage 8 (some .int), Cond.fieldLink RX10 99 "OrderEcho$Plan" "stages" "I", Cond.fieldLink RX10 114 "OrderEcho$Flow" "weeks" "I", Cond.fieldLink RX10 121 "OrderEcho$Flow" "stock" "[I", Cond.methodLink RX10 103 yX6_has, Cond.instanceMethod yX6_has, Cond.selects RX6 yX6_has yX6_has, Cond.code yX6_has cX6_has 2 (some .boolean), Cond.fieldLink RX6 39 "OrderEcho$Plan" "stages" "I", Cond.methodLink RX10 107 yX10_within, Cond.static yX10_within, Cond.code yX10_within cX10_within 3 (some .boolean), Cond.methodLink RX10 111 yX6_isShop, Cond.instanceMethod yX6_isShop, Cond.selects RX6 yX6_isShop yX6_isShop, Cond.code yX6_isShop cX6_isShop 2 (some .boolean)]
def wsL_law_r10 : List Cond := [Cond.methodLink RX6 43 yX6_has, Cond.methodLink RX10 117 yX6_enlarge, Cond.instanceMethod yX6_enlarge, Cond.selects RX6 yX6_enlarge yX6_enlarge, Cond.code yX6_enlarge cX6_enlarge 7 none, Cond.fieldLink RX6 47 "OrderEcho$Plan" "firstStock" "J", Cond.fieldLink RX6 51 "OrderEcho$Plan" "shops" "I", Cond.methodLink RL 17 yX11_stage, Cond.instanceMethod yX11_stage, Cond.selects RX11 yX11_stage yX11_stage, Cond.code yX11_stage cX11_stage 8 (some .int), Cond.fieldLink RX11 166 "OrderEchoModel" "stages" "I", Cond.constantLong RX11 177 (3), Cond.constantLong RX11 179 (6), Cond.constantLong RX11 181 (9999), Cond.fieldLink RX11 183 "OrderEchoModel" "week" "I", Cond.fieldLink RX11 186 "OrderEchoModel" "first" "J", Cond.methodLink RX11 173 yX11_isStage, Cond.instanceMethod yX11_isStage, Cond.selects RX11 yX11_isStage yX11_isStage, Cond.code yX11_isStage cX11_isStage 2 (some .boolean), Cond.methodLink RX11 169 yX11_in, Cond.static yX11_in, Cond.code yX11_in cX11_in 6 (some .boolean)]
def wsL_law_r11 : List Cond := [Cond.methodLink RL 18 yX10_set, Cond.instanceMethod yX10_set, Cond.selects RX10 yX10_set yX10_set, Cond.code yX10_set cX10_set 8 (some .int), Cond.methodLink RX10 124 yX6_settings, Cond.instanceMethod yX6_settings, Cond.selects RX6 yX6_settings yX6_settings, Cond.code yX6_settings cX6_settings 2 (some (.array .int)), Cond.methodLink RL 22 yX11_set, Cond.instanceMethod yX11_set, Cond.selects RX11 yX11_set yX11_set, Cond.code yX11_set cX11_set 5 (some .int), Cond.constantLong RX11 189 (50), Cond.constantLong RX11 191 (99), Cond.methodLink RL 23 yX10_use, Cond.instanceMethod yX10_use, Cond.selects RX10 yX10_use yX10_use, Cond.code yX10_use cX10_use 4 (some .int), Cond.fieldLink RX10 129 "OrderEcho$Plan" "rule" "[I", Cond.methodLink RX10 128 yX7_has, Cond.instanceMethod yX7_has, Cond.selects RX7 yX7_has yX7_has, Cond.code yX7_has cX7_has 2 (some .boolean), Cond.fieldLink RX7 22 "OrderEcho$Rules" "count" "I"]
def wsL_law_r12 : List Cond := [Cond.methodLink RL 27 yX11_use, Cond.instanceMethod yX11_use, Cond.selects RX11 yX11_use yX11_use, Cond.code yX11_use cX11_use 4 (some .int), Cond.constantLong RX11 193 (-1), Cond.fieldLink RX11 195 "OrderEchoModel" "rules" "I", Cond.methodLink RL 28 yX10_allot, Cond.instanceMethod yX10_allot, Cond.selects RX10 yX10_allot yX10_allot, Cond.code yX10_allot cX10_allot 3 (some .int), Cond.fieldLink RX10 132 "OrderEcho$Plan" "allotment" "I", Cond.methodLink RL 32 yX11_allot, Cond.instanceMethod yX11_allot, Cond.selects RX11 yX11_allot yX11_allot, Cond.code yX11_allot cX11_allot 3 (some .int), Cond.constantLong RX11 198 (2), Cond.fieldLink RX11 200 "OrderEchoModel" "allotment" "I", Cond.methodLink RL 33 yX10_about, Cond.instanceMethod yX10_about, Cond.selects RX10 yX10_about yX10_about, Cond.code yX10_about cX10_about 3 (some .int), Cond.fieldLink RX10 135 "OrderEcho$Plan" "kind" "[I", Cond.fieldLink RX10 138 "OrderEcho$Plan" "supplier" "[I", Cond.fieldLink RX10 141 "OrderEcho$Plan" "way" "[I"]
def wsL_law_r13 : List Cond := [Cond.fieldLink RX10 144 "OrderEcho$Plan" "delay" "[I", Cond.fieldLink RX10 147 "OrderEcho$Plan" "lot" "[I", Cond.fieldLink RX10 150 "OrderEcho$Plan" "cap" "[I", Cond.fieldLink RX10 153 "OrderEcho$Flow" "owes" "[I", Cond.fieldLink RX10 156 "OrderEcho$Flow" "coming" "[I", Cond.fieldLink RX10 159 "OrderEcho$Flow" "seen" "[I", Cond.fieldLink RX10 166 "OrderEcho$Flow" "ordered" "[I", Cond.fieldLink RX10 169 "OrderEcho$Flow" "sent" "[I", Cond.methodLink RX10 162 yX1_latest, Cond.instanceMethod yX1_latest, Cond.selects RX1 yX1_latest yX1_latest, Cond.code yX1_latest cX1_latest 3 (some .int), Cond.fieldLink RX1 49 "OrderEcho$Flow" "weeks" "I", Cond.methodLink RL 36 yX11_about, Cond.instanceMethod yX11_about, Cond.selects RX11 yX11_about yX11_about, Cond.code yX11_about cX11_about 3 (some .int), Cond.constantLong RX11 210 (12), Cond.methodLink RX11 207 yX11_owes, Cond.instanceMethod yX11_owes, Cond.selects RX11 yX11_owes yX11_owes, Cond.code yX11_owes cX11_owes 5 (some .long), Cond.methodLink RX11 203 yX11_onWay, Cond.instanceMethod yX11_onWay]
def wsL_law_r14 : List Cond := [Cond.selects RX11 yX11_onWay yX11_onWay, Cond.code yX11_onWay cX11_onWay 5 (some .long), Cond.methodLink RL 37 yX10_place, Cond.instanceMethod yX10_place, Cond.selects RX10 yX10_place yX10_place, Cond.code yX10_place cX10_place 2 (some .long), Cond.constantLong RX10 176 (-9223372036854775808), Cond.methodLink RX10 172 yX1_position, Cond.instanceMethod yX1_position, Cond.selects RX1 yX1_position yX1_position, Cond.code yX1_position cX1_position 2 (some .long), Cond.methodLink RL 41 yX11_place, Cond.instanceMethod yX11_place, Cond.selects RX11 yX11_place yX11_place, Cond.code yX11_place cX11_place 2 (some .long), Cond.constantLong RX11 215 (-9223372036854775808), Cond.methodLink RX11 212 yX11_position, Cond.instanceMethod yX11_position, Cond.selects RX11 yX11_position yX11_position, Cond.code yX11_position cX11_position 5 (some .long), Cond.methodLink RL 42 yX10_slot, Cond.instanceMethod yX10_slot, Cond.selects RX10 yX10_slot yX10_slot, Cond.code yX10_slot cX10_slot 3 (some .int)]
def wsL_law_r15 : List Cond := [Cond.fieldLink RX10 178 "OrderEcho$Flow" "slots" "[I", Cond.methodLink RL 45 yX11_slot, Cond.instanceMethod yX11_slot, Cond.selects RX11 yX11_slot yX11_slot, Cond.code yX11_slot cX11_slot 3 (some .int), Cond.methodLink RL 46 yX10_owed, Cond.instanceMethod yX10_owed, Cond.selects RX10 yX10_owed yX10_owed, Cond.code yX10_owed cX10_owed 3 (some .int), Cond.fieldLink RX10 181 "OrderEcho$Flow" "owedTo" "[I", Cond.methodLink RL 49 yX11_owed, Cond.instanceMethod yX11_owed, Cond.selects RX11 yX11_owed yX11_owed, Cond.code yX11_owed cX11_owed 4 (some .int), Cond.methodLink RL 50 yX10_cost, Cond.instanceMethod yX10_cost, Cond.selects RX10 yX10_cost yX10_cost, Cond.code yX10_cost cX10_cost 2 (some .long), Cond.fieldLink RX10 184 "OrderEcho$Flow" "cost" "[J", Cond.methodLink RL 53 yX11_cost, Cond.instanceMethod yX11_cost, Cond.selects RX11 yX11_cost yX11_cost, Cond.code yX11_cost cX11_cost 2 (some .long), Cond.methodLink RL 54 yX10_kept]
def wsL_law_r16 : List Cond := [Cond.instanceMethod yX10_kept, Cond.selects RX10 yX10_kept yX10_kept, Cond.code yX10_kept cX10_kept 2 (some .long), Cond.fieldLink RX10 187 "OrderEcho$Flow" "made" "J", Cond.fieldLink RX10 191 "OrderEcho$Plan" "firstStock" "J", Cond.fieldLink RX10 194 "OrderEcho$Flow" "sold" "J", Cond.methodLink RX10 197 yX1_total, Cond.instanceMethod yX1_total, Cond.selects RX1 yX1_total yX1_total, Cond.code yX1_total cX1_total 8 (some .long), Cond.methodLink RL 57 yX11_kept, Cond.instanceMethod yX11_kept, Cond.selects RX11 yX11_kept yX11_kept, Cond.code yX11_kept cX11_kept 5 (some .long), Cond.fieldLink RX11 217 "OrderEchoModel" "made" "J", Cond.fieldLink RX11 220 "OrderEchoModel" "sold" "J", Cond.methodLink RL 58 yX10_demand, Cond.instanceMethod yX10_demand, Cond.selects RX10 yX10_demand yX10_demand, Cond.code yX10_demand cX10_demand 4 (some .int), Cond.methodLink RL 61 yX11_demand, Cond.instanceMethod yX11_demand, Cond.selects RX11 yX11_demand yX11_demand, Cond.code yX11_demand cX11_demand 4 (some .int)]
def wsL_law_r17 : List Cond := [Cond.constantLong RX11 226 (999), Cond.methodLink RX11 223 yX11_isShop, Cond.instanceMethod yX11_isShop, Cond.selects RX11 yX11_isShop yX11_isShop, Cond.code yX11_isShop cX11_isShop 2 (some .boolean), Cond.methodLink RL 62 yX10_week, Cond.instanceMethod yX10_week, Cond.selects RX10 yX10_week yX10_week, Cond.code yX10_week cX10_week 1 (some .int), Cond.methodLink RX10 201 yX10_goBy, Cond.instanceMethod yX10_goBy, Cond.selects RX10 yX10_goBy yX10_goBy, Cond.code yX10_goBy cX10_goBy 3 (some .int), Cond.methodLink RX10 205 yX1_pass, Cond.instanceMethod yX1_pass, Cond.selects RX1 yX1_pass yX1_pass, Cond.code yX1_pass cX1_pass 8 (some .int), Cond.fieldLink RX1 57 "OrderEcho$Flow" "sold" "J", Cond.fieldLink RX1 60 "OrderEcho$Plan" "stages" "I", Cond.fieldLink RX1 77 "OrderEcho$Plan" "rule" "[I", Cond.fieldLink RX1 94 "OrderEcho$Plan" "hold" "[I", Cond.fieldLink RX1 97 "OrderEcho$Plan" "lack" "[I", Cond.methodLink RX1 65 yX1_arrive, Cond.instanceMethod yX1_arrive]
def wsL_law_r18 : List Cond := [Cond.selects RX1 yX1_arrive yX1_arrive, Cond.code yX1_arrive cX1_arrive 4 none, Cond.methodLink RX1 43 arraycopyName, Cond.native arraycopyName, Cond.static arraycopyName, Cond.initialized "java/lang/System", Cond.methodLink RX1 69 yX1_learn, Cond.instanceMethod yX1_learn, Cond.selects RX1 yX1_learn yX1_learn, Cond.code yX1_learn cX1_learn 9 none, Cond.fieldLink RX1 103 "OrderEcho$Plan" "supplier" "[I", Cond.fieldLink RX1 106 "OrderEcho$Plan" "delay" "[I", Cond.methodLink RX1 100 yX6_isShop, Cond.methodLink RX1 109 yX6_has, Cond.methodLink RX1 73 yX1_send, Cond.instanceMethod yX1_send, Cond.selects RX1 yX1_send yX1_send, Cond.code yX1_send cX1_send 6 none, Cond.methodLink RX1 110 Lib.Math.min.name, Cond.static Lib.Math.min.name, Cond.initialized "java/lang/Math", Cond.code Lib.Math.min.name Lib.Math.min.code 2 (some .int), Cond.fieldLink RX1 116 "OrderEcho$Share" "size" "I", Cond.fieldLink RX1 124 "OrderEcho$Plan" "allotment" "I"]
def wsL_law_r19 : List Cond := [Cond.methodLink RX1 121 yX8_append, Cond.instanceMethod yX8_append, Cond.selects RX8 yX8_append yX8_append, Cond.code yX8_append cX8_append 2 none, Cond.fieldLink RX8 18 "OrderEcho$Share" "size" "I", Cond.methodLink RX1 127 yX8_split, Cond.instanceMethod yX8_split, Cond.selects RX8 yX8_split yX8_split, Cond.code yX8_split cX8_split 6 none, Cond.methodLink RX8 22 yX8_byNumbers, Cond.instanceMethod yX8_byNumbers, Cond.selects RX8 yX8_byNumbers yX8_byNumbers, Cond.code yX8_byNumbers cX8_byNumbers 4 none, Cond.methodLink RX8 33 Lib.Math.min.name, Cond.methodLink RX8 26 yX8_byParts, Cond.instanceMethod yX8_byParts, Cond.selects RX8 yX8_byParts yX8_byParts, Cond.code yX8_byParts cX8_byParts 6 none, Cond.methodLink RX8 39 yX8_oneEach, Cond.instanceMethod yX8_oneEach, Cond.selects RX8 yX8_oneEach yX8_oneEach, Cond.code yX8_oneEach cX8_oneEach 4 none, Cond.methodLink RX8 30 yX8_evenly, Cond.instanceMethod yX8_evenly]
def wsL_law_r20 : List Cond := [Cond.selects RX8 yX8_evenly yX8_evenly, Cond.code yX8_evenly cX8_evenly 8 none, Cond.methodLink RX1 131 yX1_deliver, Cond.instanceMethod yX1_deliver, Cond.selects RX1 yX1_deliver yX1_deliver, Cond.code yX1_deliver cX1_deliver 8 (some .int), Cond.fieldLink RX1 135 "OrderEcho$Share" "got" "[I", Cond.methodLink RX1 138 yX1_putOnWay, Cond.instanceMethod yX1_putOnWay, Cond.selects RX1 yX1_putOnWay yX1_putOnWay, Cond.code yX1_putOnWay cX1_putOnWay 4 none, Cond.fieldLink RX1 141 "OrderEcho$Plan" "way" "[I", Cond.methodLink RX1 80 yX7_has, Cond.methodLink RX1 86 yX7_valueOf, Cond.instanceMethod yX7_valueOf, Cond.selects RX7 yX7_valueOf yX7_valueOf, Cond.code yX7_valueOf cX7_valueOf 8 (some .long), Cond.methodLink RX7 32 yX1_field, Cond.instanceMethod yX1_field, Cond.selects RX1 yX1_field yX1_field, Cond.code yX1_field cX1_field 3 (some .long), Cond.methodLink RX1 147 Lib.Math.max.name, Cond.static Lib.Math.max.name, Cond.code Lib.Math.max.name Lib.Math.max.code 2 (some .int)]
def wsL_law_r21 : List Cond := [Cond.methodLink RX1 161 yX1_latest, Cond.methodLink RX1 165 yX1_mean, Cond.instanceMethod yX1_mean, Cond.selects RX1 yX1_mean yX1_mean, Cond.code yX1_mean cX1_mean 6 (some .long), Cond.methodLink RX1 169 yX1_position, Cond.methodLink RX7 38 yX7_apply, Cond.static yX7_apply, Cond.code yX7_apply cX7_apply 5 (some .long), Cond.methodLink RX7 46 Lib.MathLoose.min_long.x, Cond.static Lib.MathLoose.min_long.x, Cond.code Lib.MathLoose.min_long.x Lib.MathLoose.min_long.code 4 (some .long), Cond.methodLink RX7 52 Lib.MathLoose.max_long.x, Cond.static Lib.MathLoose.max_long.x, Cond.code Lib.MathLoose.max_long.x Lib.MathLoose.max_long.code 4 (some .long), Cond.methodLink RX7 42 yX7_bound, Cond.static yX7_bound, Cond.code yX7_bound cX7_bound 2 (some .long), Cond.constantLong RX7 55 (-1000000000), Cond.constantLong RX7 57 (1000000000), Cond.methodLink RX1 90 yX1_give, Cond.instanceMethod yX1_give, Cond.selects RX1 yX1_give yX1_give, Cond.code yX1_give cX1_give 10 none]
def wsL_law_r22 : List Cond := [Cond.fieldLink RX1 144 "OrderEcho$Plan" "lot" "[I", Cond.methodLink RX1 150 Lib.MathLoose.max_long.x, Cond.fieldLink RX1 153 "OrderEcho$Plan" "cap" "[I", Cond.methodLink RX1 156 Lib.MathLoose.min_long.x, Cond.fieldLink RX1 158 "OrderEcho$Plan" "kind" "[I", Cond.fieldLink RX1 53 "OrderEcho$Flow" "made" "J", Cond.methodLink RX10 209 yX5_note, Cond.instanceMethod yX5_note, Cond.selects RX5 yX5_note yX5_note, Cond.code yX5_note cX5_note 5 none, Cond.fieldLink RX5 18 "OrderEcho$Flow" "weeks" "I", Cond.methodLink RX5 24 Lib.Math.max.name, Cond.fieldLink RX5 30 "OrderEcho$Flow" "seen" "[I", Cond.fieldLink RX5 35 "OrderEcho$Flow" "ordered" "[I", Cond.methodLink RX5 31 yX1_latest, Cond.methodLink RL 66 yX11_week, Cond.instanceMethod yX11_week, Cond.selects RX11 yX11_week yX11_week, Cond.code yX11_week cX11_week 1 (some .int), Cond.methodLink RX11 243 yX11_goesBy, Cond.instanceMethod yX11_goesBy, Cond.selects RX11 yX11_goesBy yX11_goesBy, Cond.code yX11_goesBy cX11_goesBy 5 (some .int), Cond.methodLink RX11 228 yX11_sends]
def wsL_law_r23 : List Cond := [Cond.instanceMethod yX11_sends, Cond.selects RX11 yX11_sends yX11_sends, Cond.code yX11_sends cX11_sends 5 (some .long), Cond.methodLink RX11 235 yX11_shares, Cond.instanceMethod yX11_shares, Cond.selects RX11 yX11_shares yX11_shares, Cond.code yX11_shares cX11_shares 11 none, Cond.methodLink RX11 231 yX11_orders, Cond.instanceMethod yX11_orders, Cond.selects RX11 yX11_orders yX11_orders, Cond.code yX11_orders cX11_orders 4 none, Cond.methodLink RX11 239 yX11_worthOf, Cond.instanceMethod yX11_worthOf, Cond.selects RX11 yX11_worthOf yX11_worthOf, Cond.code yX11_worthOf cX11_worthOf 7 (some .long), Cond.methodLink RX11 312 yX11_field, Cond.instanceMethod yX11_field, Cond.selects RX11 yX11_field yX11_field, Cond.code yX11_field cX11_field 4 (some .long), Cond.methodLink RX11 308 yX11_mean, Cond.instanceMethod yX11_mean, Cond.selects RX11 yX11_mean yX11_mean, Cond.code yX11_mean cX11_mean 7 (some .long), Cond.methodLink RX11 315 yX11_kept0]
def wsL_law_r24 : List Cond := [Cond.static yX11_kept0, Cond.code yX11_kept0 cX11_kept0 2 (some .long), Cond.constantLong RX11 304 (1000000000), Cond.constantLong RX11 306 (-1000000000), Cond.methodLink RX11 319 yX11_stepOf, Cond.static yX11_stepOf, Cond.code yX11_stepOf cX11_stepOf 5 (some .long), Cond.methodLink RL 67 yX10_weeks, Cond.instanceMethod yX10_weeks, Cond.selects RX10 yX10_weeks yX10_weeks, Cond.code yX10_weeks cX10_weeks 6 (some .int), Cond.methodLink RL 70 yX11_weeks, Cond.instanceMethod yX11_weeks, Cond.selects RX11 yX11_weeks yX11_weeks, Cond.code yX11_weeks cX11_weeks 5 (some .int), Cond.constantLong RX11 247 (20), Cond.methodLink RX11 249 yX11_demands, Cond.instanceMethod yX11_demands, Cond.selects RX11 yX11_demands yX11_demands, Cond.code yX11_demands cX11_demands 3 none, Cond.methodLink RL 73 yX10_feed, Cond.instanceMethod yX10_feed, Cond.selects RX10 yX10_feed yX10_feed, Cond.code yX10_feed cX10_feed 5 (some .int)]
def wsL_law_r25 : List Cond := [Cond.fieldLink RX10 213 "OrderEcho$Tape" "length" "I", Cond.methodLink RX10 216 yX9_append, Cond.instanceMethod yX9_append, Cond.selects RX9 yX9_append yX9_append, Cond.code yX9_append cX9_append 2 none, Cond.fieldLink RX9 18 "OrderEcho$Tape" "length" "I", Cond.methodLink RL 77 yX11_feed, Cond.instanceMethod yX11_feed, Cond.selects RX11 yX11_feed yX11_feed, Cond.code yX11_feed cX11_feed 5 (some .int), Cond.constantLong RX11 252 (8), Cond.fieldLink RX11 254 "OrderEchoModel" "taped" "I", Cond.constantLong RX11 257 (255), Cond.methodLink RL 78 yX10_rule, Cond.instanceMethod yX10_rule, Cond.selects RX10 yX10_rule yX10_rule, Cond.code yX10_rule cX10_rule 2 (some .int), Cond.fieldLink RX10 220 "OrderEcho$Rules" "count" "I", Cond.fieldLink RX10 227 "OrderEcho$Tape" "code" "[I", Cond.fieldLink RX10 230 "OrderEcho$Tape" "size" "I", Cond.fieldLink RX10 236 "OrderEcho$Tape" "at" "I", Cond.methodLink RX10 223 yX9_read, Cond.instanceMethod yX9_read, Cond.selects RX9 yX9_read yX9_read]
def wsL_law_r26 : List Cond := [Cond.code yX9_read cX9_read 1 (some .boolean), Cond.fieldLink RX9 22 "OrderEcho$Tape" "at" "I", Cond.fieldLink RX9 25 "OrderEcho$Tape" "size" "I", Cond.methodLink RX9 28 yX9_readSum, Cond.instanceMethod yX9_readSum, Cond.selects RX9 yX9_readSum yX9_readSum, Cond.code yX9_readSum cX9_readSum 5 (some .boolean), Cond.methodLink RX9 36 yX9_readProduct, Cond.instanceMethod yX9_readProduct, Cond.selects RX9 yX9_readProduct yX9_readProduct, Cond.methodLink RX9 32 yX9_isNext, Cond.instanceMethod yX9_isNext, Cond.selects RX9 yX9_isNext yX9_isNext, Cond.code yX9_isNext cX9_isNext 2 (some .boolean), Cond.methodLink RX9 41 yX9_emit, Cond.instanceMethod yX9_emit, Cond.selects RX9 yX9_emit yX9_emit, Cond.code yX9_emit cX9_emit 2 none, Cond.code yX9_readAtom cX9_readAtom 4 (some .boolean), Cond.methodLink RX9 48 yX9_isDigit, Cond.instanceMethod yX9_isDigit, Cond.selects RX9 yX9_isDigit yX9_isDigit, Cond.code yX9_isDigit cX9_isDigit 1 (some .boolean), Cond.methodLink RX9 52 yX9_readNumber]
def wsL_law_r27 : List Cond := [Cond.instanceMethod yX9_readNumber, Cond.selects RX9 yX9_readNumber yX9_readNumber, Cond.code yX9_readNumber cX9_readNumber 3 none, Cond.methodLink RX9 55 yX9_openOne, Cond.instanceMethod yX9_openOne, Cond.selects RX9 yX9_openOne yX9_openOne, Cond.code yX9_openOne cX9_openOne 2 (some .boolean), Cond.methodLink RX9 58 yX9_take, Cond.instanceMethod yX9_take, Cond.selects RX9 yX9_take yX9_take, Cond.code yX9_take cX9_take 3 (some .boolean), Cond.methodLink RX9 61 yX9_readWord, Cond.instanceMethod yX9_readWord, Cond.selects RX9 yX9_readWord yX9_readWord, Cond.code yX9_readWord cX9_readWord 7 (some .int), Cond.methodLink RX9 75 Lib.Math.max.name, Cond.methodLink RX9 67 yJ0_length_8abf5, Cond.instanceMethod yJ0_length_8abf5, Cond.selects RJ0 yJ0_length_8abf5 yJ0_length_8abf5, Cond.initialized RJ0, Cond.code yJ0_length_8abf5 cJ0_length_8abf5 1 (some .int), Cond.fieldLink RJ0 9 "java/lang/String" "value" "[B", Cond.methodLink RJ0 335 yJ0_coder_7d493, Cond.instanceMethod yJ0_coder_7d493]
def wsL_law_r28 : List Cond := [Cond.selects RJ0 yJ0_coder_7d493 yJ0_coder_7d493, Cond.code yJ0_coder_7d493 cJ0_coder_7d493 1 (some .byte), Cond.fieldLink RJ0 38 "java/lang/String" "COMPACT_STRINGS" "Z", Cond.fieldLink RJ0 15 "java/lang/String" "coder" "B", Cond.methodLink RX9 71 yJ0_charAt_5068e, Cond.instanceMethod yJ0_charAt_5068e, Cond.selects RJ0 yJ0_charAt_5068e yJ0_charAt_5068e, Cond.code yJ0_charAt_5068e cJ0_charAt_5068e 2 (some .char), Cond.methodLink RJ0 492 yJ0_isLatin1_aae02, Cond.instanceMethod yJ0_isLatin1_aae02, Cond.selects RJ0 yJ0_isLatin1_aae02 yJ0_isLatin1_aae02, Cond.code yJ0_isLatin1_aae02 cJ0_isLatin1_aae02 1 (some .boolean), Cond.methodLink RJ0 495 yJ1_charAt_3b067, Cond.static yJ1_charAt_3b067, Cond.initialized RJ1, Cond.code yJ1_charAt_3b067 cJ1_charAt_3b067 2 (some .char), Cond.methodLink RJ1 9 yJ0_checkIndex_df160, Cond.static yJ0_checkIndex_df160, Cond.code yJ0_checkIndex_df160 cJ0_checkIndex_df160 2 none, Cond.fieldLink RJ0 1053 "jdk/internal/util/Preconditions" "SIOOBE_FORMATTER" "Ljava/util/function/BiFunction;", Cond.methodLink RJ0 1059 yJ3_checkIndex_8e157, Cond.static yJ3_checkIndex_8e157, Cond.initialized RJ3, Cond.code yJ3_checkIndex_8e157 cJ3_checkIndex_8e157 3 (some .int)]
def wsL_law_r29 : List Cond := [Cond.methodLink RJ0 498 yJ2_charAt_3b067, Cond.static yJ2_charAt_3b067, Cond.initialized RJ2, Cond.code yJ2_charAt_3b067 cJ2_charAt_3b067 2 (some .char), Cond.methodLink RJ2 67 yJ2_checkIndex_2214a, Cond.static yJ2_checkIndex_2214a, Cond.code yJ2_checkIndex_2214a cJ2_checkIndex_2214a 2 none, Cond.methodLink RJ2 48 yJ2_length_9d52b, Cond.static yJ2_length_9d52b, Cond.code yJ2_length_9d52b cJ2_length_9d52b 1 (some .int), Cond.methodLink RJ2 414 yJ0_checkIndex_df160, Cond.methodLink RJ2 71 yJ2_getChar_3b067, Cond.static yJ2_getChar_3b067, Cond.code yJ2_getChar_3b067 cJ2_getChar_3b067 2 (some .char), Cond.fieldLink RJ2 44 "java/lang/StringUTF16" "$assertionsDisabled" "Z", Cond.fieldLink RJ2 59 "java/lang/StringUTF16" "HI_BYTE_SHIFT" "I", Cond.fieldLink RJ2 63 "java/lang/StringUTF16" "LO_BYTE_SHIFT" "I", Cond.code yX9_readProduct cX9_readProduct 5 (some .boolean), Cond.methodLink RX9 45 yX9_readAtom, Cond.instanceMethod yX9_readAtom, Cond.selects RX9 yX9_readAtom yX9_readAtom, Cond.methodLink RX10 233 yX7_keep, Cond.instanceMethod yX7_keep, Cond.selects RX7 yX7_keep yX7_keep]
def wsL_law_r30 : List Cond := [Cond.code yX7_keep cX7_keep 4 (some .int), Cond.methodLink RX7 26 arraycopyName, Cond.methodLink RL 81 yX11_rule, Cond.instanceMethod yX11_rule, Cond.selects RX11 yX11_rule yX11_rule, Cond.code yX11_rule cX11_rule 2 (some .int), Cond.fieldLink RX11 259 "OrderEchoModel" "out" "I", Cond.methodLink RX11 301 yX11_reads, Cond.instanceMethod yX11_reads, Cond.selects RX11 yX11_reads yX11_reads, Cond.code yX11_reads cX11_reads 6 (some .int), Cond.fieldLink RX11 262 "OrderEchoModel" "deep" "I", Cond.fieldLink RX11 289 "OrderEchoModel" "opens" "I", Cond.methodLink RX11 295 yX11_operand, Cond.instanceMethod yX11_operand, Cond.selects RX11 yX11_operand yX11_operand, Cond.code yX11_operand cX11_operand 5 (some .int), Cond.constantLong RX11 278 (48), Cond.constantLong RX11 280 (57), Cond.fieldLink RX11 275 "OrderEchoModel" "word" "I", Cond.methodLink RX11 272 yX11_byteAt, Cond.instanceMethod yX11_byteAt, Cond.selects RX11 yX11_byteAt yX11_byteAt, Cond.code yX11_byteAt cX11_byteAt 2 (some .int)]
def wsL_law_r31 : List Cond := [Cond.methodLink RX11 269 yX11_puts, Cond.instanceMethod yX11_puts, Cond.selects RX11 yX11_puts yX11_puts, Cond.code yX11_puts cX11_puts 2 none, Cond.methodLink RX11 282 yX11_opensAt, Cond.instanceMethod yX11_opensAt, Cond.selects RX11 yX11_opensAt yX11_opensAt, Cond.code yX11_opensAt cX11_opensAt 3 (some .int), Cond.methodLink RX11 286 yX11_readWord, Cond.instanceMethod yX11_readWord, Cond.selects RX11 yX11_readWord yX11_readWord, Cond.code yX11_readWord cX11_readWord 8 (some .int), Cond.methodLink RX11 298 yX11_behind, Cond.instanceMethod yX11_behind, Cond.selects RX11 yX11_behind yX11_behind, Cond.code yX11_behind cX11_behind 5 (some .int), Cond.methodLink RX11 265 yX11_rank, Cond.static yX11_rank, Cond.code yX11_rank cX11_rank 1 (some .int), Cond.methodLink RX11 292 yX11_unwinds, Cond.instanceMethod yX11_unwinds, Cond.selects RX11 yX11_unwinds yX11_unwinds, Cond.code yX11_unwinds cX11_unwinds 2 none, Cond.methodLink RL 82 yX10_worth]
def wsL_law_r32 : List Cond := [Cond.instanceMethod yX10_worth, Cond.selects RX10 yX10_worth yX10_worth, Cond.code yX10_worth cX10_worth 3 (some .long), Cond.methodLink RX10 239 yX7_valueOf, Cond.methodLink RL 86 yX11_worth, Cond.instanceMethod yX11_worth, Cond.selects RX11 yX11_worth yX11_worth, Cond.code yX11_worth cX11_worth 3 (some .long), Cond.methodLink RL 87 yX10_swing, Cond.instanceMethod yX10_swing, Cond.selects RX10 yX10_swing yX10_swing, Cond.code yX10_swing cX10_swing 4 (some .long), Cond.methodLink RX10 243 yX10_swings, Cond.instanceMethod yX10_swings, Cond.selects RX10 yX10_swings yX10_swings, Cond.code yX10_swings cX10_swings 3 (some .boolean), Cond.methodLink RX10 247 yX5_spread, Cond.instanceMethod yX5_spread, Cond.selects RX5 yX5_spread yX5_spread, Cond.code yX5_spread cX5_spread 13 (some .long), Cond.methodLink RL 91 yX11_swing, Cond.instanceMethod yX11_swing, Cond.selects RX11 yX11_swing yX11_swing, Cond.code yX11_swing cX11_swing 11 (some .long)]
def wsL_law_r33 : List Cond := [Cond.constantLong RX11 323 (40), Cond.methodLink RL 92 yX10_gain, Cond.instanceMethod yX10_gain, Cond.selects RX10 yX10_gain yX10_gain, Cond.code yX10_gain cX10_gain 6 (some .long), Cond.methodLink RX10 251 yX2_become, Cond.instanceMethod yX2_become, Cond.selects RX2 yX2_become yX2_become, Cond.code yX2_become cX2_become 7 none, Cond.methodLink RX2 15 Lib.MathLoose.abs_long.x, Cond.static Lib.MathLoose.abs_long.x, Cond.code Lib.MathLoose.abs_long.x Lib.MathLoose.abs_long.code 2 (some .long), Cond.fieldLink RX2 28 "OrderEcho$Fraction" "above" "J", Cond.constantLong RX2 31 (1000000000), Cond.fieldLink RX2 33 "OrderEcho$Fraction" "spent" "Z", Cond.methodLink RX2 21 yX2_commonDivisor, Cond.static yX2_commonDivisor, Cond.code yX2_commonDivisor cX2_commonDivisor 11 (some .long), Cond.methodLink RX2 25 yX2_spend, Cond.instanceMethod yX2_spend, Cond.selects RX2 yX2_spend yX2_spend, Cond.code yX2_spend cX2_spend 1 none, Cond.methodLink RX10 255 yX2_tell, Cond.instanceMethod yX2_tell]
def wsL_law_r34 : List Cond := [Cond.selects RX2 yX2_tell yX2_tell, Cond.code yX2_tell cX2_tell 2 (some .long), Cond.constantLong RX2 41 (-9223372036854775807), Cond.methodLink RL 95 yX11_gain, Cond.instanceMethod yX11_gain, Cond.selects RX11 yX11_gain yX11_gain, Cond.code yX11_gain cX11_gain 10 (some .long), Cond.constantLong RX11 332 (-9223372036854775807), Cond.methodLink RX11 325 yX11_swing, Cond.methodLink RX11 328 yX11_divisor, Cond.static yX11_divisor, Cond.code yX11_divisor cX11_divisor 10 (some .long), Cond.methodLink RL 96 yX10_straight, Cond.instanceMethod yX10_straight, Cond.selects RX10 yX10_straight yX10_straight, Cond.code yX10_straight cX10_straight 4 (some .int), Cond.fieldLink RX10 261 "OrderEcho$Line" "t" "LOrderEcho$Fraction;", Cond.fieldLink RX10 264 "OrderEcho$Line" "a" "LOrderEcho$Fraction;", Cond.fieldLink RX10 267 "OrderEcho$Line" "m" "LOrderEcho$Fraction;", Cond.methodLink RX10 258 yX10_isShare, Cond.static yX10_isShare, Cond.code yX10_isShare cX10_isShare 1 (some .boolean), Cond.methodLink RL 99 yX11_straight, Cond.instanceMethod yX11_straight]
def wsL_law_r35 : List Cond := [Cond.selects RX11 yX11_straight yX11_straight, Cond.code yX11_straight cX11_straight 6 (some .int), Cond.methodLink RX11 334 yX11_isPart, Cond.static yX11_isPart, Cond.code yX11_isPart cX11_isPart 1 (some .boolean), Cond.methodLink RL 100 yX10_echo, Cond.instanceMethod yX10_echo, Cond.selects RX10 yX10_echo yX10_echo, Cond.code yX10_echo cX10_echo 4 (some .long), Cond.fieldLink RX10 275 "OrderEcho$Line" "o" "LOrderEcho$Fraction;", Cond.methodLink RX10 270 yX4_begin, Cond.instanceMethod yX4_begin, Cond.selects RX4 yX4_begin yX4_begin, Cond.code yX4_begin cX4_begin 1 none, Cond.methodLink RX4 50 yX2_become, Cond.methodLink RX10 273 yX4_pass, Cond.instanceMethod yX4_pass, Cond.selects RX4 yX4_pass yX4_pass, Cond.code yX4_pass cX4_pass 2 none, Cond.fieldLink RX4 64 "OrderEcho$Fraction" "spent" "Z", Cond.methodLink RX4 54 yX2_becomeDifference, Cond.instanceMethod yX2_becomeDifference, Cond.selects RX2 yX2_becomeDifference yX2_becomeDifference, Cond.code yX2_becomeDifference cX2_becomeDifference 3 none]
def wsL_law_r36 : List Cond := [Cond.methodLink RX2 37 yX2_become, Cond.methodLink RX4 58 yX2_becomeProduct, Cond.instanceMethod yX2_becomeProduct, Cond.selects RX2 yX2_becomeProduct yX2_becomeProduct, Cond.code yX2_becomeProduct cX2_becomeProduct 3 none, Cond.methodLink RX4 61 yX2_becomeSum, Cond.instanceMethod yX2_becomeSum, Cond.selects RX2 yX2_becomeSum yX2_becomeSum, Cond.code yX2_becomeSum cX2_becomeSum 3 none, Cond.methodLink RL 103 yX11_echo, Cond.instanceMethod yX11_echo, Cond.selects RX11 yX11_echo yX11_echo, Cond.code yX11_echo cX11_echo 3 (some .long), Cond.constantLong RX11 370 (30), Cond.fieldLink RX11 343 "OrderEchoModel" "isSpent" "Z", Cond.methodLink RX11 372 yX11_findEchoes, Cond.instanceMethod yX11_findEchoes, Cond.selects RX11 yX11_findEchoes yX11_findEchoes, Cond.code yX11_findEchoes cX11_findEchoes 5 none, Cond.fieldLink RX11 351 "OrderEchoModel" "fUp" "J", Cond.fieldLink RX11 354 "OrderEchoModel" "fDown" "J", Cond.fieldLink RX11 357 "OrderEchoModel" "pUp" "J", Cond.fieldLink RX11 360 "OrderEchoModel" "pDown" "J", Cond.fieldLink RX11 337 "OrderEchoModel" "up" "J"]
def wsL_law_r37 : List Cond := [Cond.fieldLink RX11 340 "OrderEchoModel" "down" "J", Cond.methodLink RX11 363 yX11_adds, Cond.instanceMethod yX11_adds, Cond.selects RX11 yX11_adds yX11_adds, Cond.code yX11_adds cX11_adds 9 none, Cond.methodLink RX11 347 yX11_lowest, Cond.instanceMethod yX11_lowest, Cond.selects RX11 yX11_lowest yX11_lowest, Cond.code yX11_lowest cX11_lowest 7 none, Cond.methodLink RX11 367 yX11_multiplies, Cond.instanceMethod yX11_multiplies, Cond.selects RX11 yX11_multiplies yX11_multiplies, Cond.code yX11_multiplies cX11_multiplies 17 none, Cond.methodLink RL 104 yX10_pole, Cond.instanceMethod yX10_pole, Cond.selects RX10 yX10_pole yX10_pole, Cond.code yX10_pole cX10_pole 4 (some .long), Cond.fieldLink RX10 284 "OrderEcho$Line" "sum" "LOrderEcho$Fraction;", Cond.fieldLink RX10 287 "OrderEcho$Line" "coefficient" "LOrderEcho$Fraction;", Cond.methodLink RX10 278 yX4_above, Cond.instanceMethod yX4_above, Cond.selects RX4 yX4_above yX4_above, Cond.code yX4_above cX4_above 3 none, Cond.methodLink RX4 68 yX4_begin]
def wsL_law_r38 : List Cond := [Cond.methodLink RX4 71 yX4_pass, Cond.methodLink RX4 75 yX4_below, Cond.instanceMethod yX4_below, Cond.selects RX4 yX4_below yX4_below, Cond.code yX4_below cX4_below 2 none, Cond.methodLink RX10 281 yX4_below, Cond.methodLink RL 107 yX11_pole, Cond.instanceMethod yX11_pole, Cond.selects RX11 yX11_pole yX11_pole, Cond.code yX11_pole cX11_pole 9 (some .long), Cond.methodLink RX11 375 yX11_findBelow, Cond.instanceMethod yX11_findBelow, Cond.selects RX11 yX11_findBelow yX11_findBelow, Cond.code yX11_findBelow cX11_findBelow 10 none, Cond.methodLink RL 108 yX10_loud, Cond.instanceMethod yX10_loud, Cond.selects RX10 yX10_loud yX10_loud, Cond.code yX10_loud cX10_loud 3 (some .long), Cond.methodLink RX10 290 yX4_loudness, Cond.instanceMethod yX4_loudness, Cond.selects RX4 yX4_loudness yX4_loudness, Cond.code yX4_loudness cX4_loudness 3 none, Cond.methodLink RL 111 yX11_loud, Cond.instanceMethod yX11_loud]
def wsL_law_r39 : List Cond := [Cond.selects RX11 yX11_loud yX11_loud, Cond.code yX11_loud cX11_loud 8 (some .long), Cond.methodLink RL 112 yX10_steady, Cond.instanceMethod yX10_steady, Cond.selects RX10 yX10_steady yX10_steady, Cond.code yX10_steady cX10_steady 6 (some .int), Cond.methodLink RX10 297 Lib.MathLoose.abs_long.x, Cond.methodLink RX10 293 yX10_endsBelow, Cond.static yX10_endsBelow, Cond.code yX10_endsBelow cX10_endsBelow 3 (some .boolean), Cond.methodLink RX10 303 yX10_lower, Cond.instanceMethod yX10_lower, Cond.selects RX10 yX10_lower yX10_lower, Cond.code yX10_lower cX10_lower 12 none, Cond.methodLink RL 115 yX11_steady, Cond.instanceMethod yX11_steady, Cond.selects RX11 yX11_steady yX11_steady, Cond.code yX11_steady cX11_steady 6 (some .int), Cond.constantLong RX11 378 (4), Cond.constantLong RX11 380 (100), Cond.constantLong RX11 382 (-99), Cond.methodLink RX11 384 yX11_size, Cond.static yX11_size, Cond.code yX11_size cX11_size 2 (some .long)]
def wsL_law_r40 : List Cond := [Cond.methodLink RL 116 yX10_chances, Cond.instanceMethod yX10_chances, Cond.selects RX10 yX10_chances yX10_chances, Cond.code yX10_chances cX10_chances 4 (some .int), Cond.constant RX10 306 (99999), Cond.fieldLink RX10 307 "OrderEcho$Levels" "weights" "[I", Cond.methodLink RL 119 yX11_chances, Cond.instanceMethod yX11_chances, Cond.selects RX11 yX11_chances yX11_chances, Cond.code yX11_chances cX11_chances 4 (some .int), Cond.constantLong RX11 387 (99999), Cond.methodLink RL 120 yX10_chance, Cond.instanceMethod yX10_chance, Cond.selects RX10 yX10_chance yX10_chance, Cond.code yX10_chance cX10_chance 3 (some .long), Cond.fieldLink RX10 310 "OrderEcho$Levels" "sums" "[J", Cond.methodLink RX10 313 yX3_addUp, Cond.instanceMethod yX3_addUp, Cond.selects RX3 yX3_addUp yX3_addUp, Cond.code yX3_addUp cX3_addUp 8 none, Cond.methodLink RL 123 yX11_chance, Cond.instanceMethod yX11_chance, Cond.selects RX11 yX11_chance yX11_chance, Cond.code yX11_chance cX11_chance 3 (some .long)]
def wsL_law_r41 : List Cond := [Cond.methodLink RX11 389 yX11_findChances, Cond.instanceMethod yX11_findChances, Cond.selects RX11 yX11_findChances yX11_findChances, Cond.code yX11_findChances cX11_findChances 6 none, Cond.methodLink RL 124 yX10_level, Cond.instanceMethod yX10_level, Cond.selects RX10 yX10_level yX10_level, Cond.code yX10_level cX10_level 4 (some .int), Cond.fieldLink RX10 323 "OrderEcho$Levels" "near" "I", Cond.methodLink RX10 317 yX3_understand, Cond.instanceMethod yX3_understand, Cond.selects RX3 yX3_understand yX3_understand, Cond.code yX3_understand cX3_understand 3 (some .boolean), Cond.fieldLink RX3 26 "OrderEcho$Levels" "nearLead" "I", Cond.fieldLink RX3 30 "OrderEcho$Levels" "farLead" "I", Cond.fieldLink RX3 33 "OrderEcho$Levels" "nearHold" "I", Cond.fieldLink RX3 36 "OrderEcho$Levels" "farHold" "I", Cond.fieldLink RX3 39 "OrderEcho$Levels" "lack" "I", Cond.methodLink RX10 320 yX3_work, Cond.instanceMethod yX3_work, Cond.selects RX3 yX3_work yX3_work, Cond.code yX3_work cX3_work 6 none, Cond.fieldLink RX3 52 "OrderEcho$Levels" "whole" "J", Cond.fieldLink RX3 60 "OrderEcho$Levels" "near" "I"]
def wsL_law_r42 : List Cond := [Cond.methodLink RX3 48 yX3_addUp, Cond.methodLink RX3 56 yX3_nearSum, Cond.instanceMethod yX3_nearSum, Cond.selects RX3 yX3_nearSum yX3_nearSum, Cond.code yX3_nearSum cX3_nearSum 7 (some .long), Cond.methodLink RX3 63 yX3_nearCost, Cond.instanceMethod yX3_nearCost, Cond.selects RX3 yX3_nearCost yX3_nearCost, Cond.code yX3_nearCost cX3_nearCost 2 (some .long), Cond.methodLink RX10 326 yX3_far, Cond.instanceMethod yX3_far, Cond.selects RX3 yX3_far yX3_far, Cond.code yX3_far cX3_far 7 (some .int), Cond.methodLink RX3 72 yX3_farCost, Cond.instanceMethod yX3_farCost, Cond.selects RX3 yX3_farCost yX3_farCost, Cond.code yX3_farCost cX3_farCost 7 (some .long), Cond.methodLink RX3 66 Lib.Math.min.name, Cond.methodLink RL 127 yX11_level, Cond.instanceMethod yX11_level, Cond.selects RX11 yX11_level yX11_level, Cond.code yX11_level cX11_level 11 (some .int), Cond.methodLink RX11 419 yX11_hasLevels, Cond.instanceMethod yX11_hasLevels]
def wsL_law_r43 : List Cond := [Cond.selects RX11 yX11_hasLevels yX11_hasLevels, Cond.code yX11_hasLevels cX11_hasLevels 3 (some .boolean), Cond.fieldLink RX11 393 "OrderEchoModel" "l" "I", Cond.fieldLink RX11 396 "OrderEchoModel" "m" "I", Cond.fieldLink RX11 399 "OrderEchoModel" "h" "J", Cond.fieldLink RX11 402 "OrderEchoModel" "g" "J", Cond.fieldLink RX11 405 "OrderEchoModel" "b" "J", Cond.constantLong RX11 408 (9), Cond.methodLink RX11 423 yX11_nearLevel, Cond.instanceMethod yX11_nearLevel, Cond.selects RX11 yX11_nearLevel yX11_nearLevel, Cond.code yX11_nearLevel cX11_nearLevel 3 (some .int), Cond.methodLink RX11 416 yX11_near, Cond.instanceMethod yX11_near, Cond.selects RX11 yX11_near yX11_near, Cond.code yX11_near cX11_near 8 (some .long), Cond.constantLong RX11 410 (-30), Cond.methodLink RX11 412 yX11_allNear, Cond.instanceMethod yX11_allNear, Cond.selects RX11 yX11_allNear yX11_allNear, Cond.code yX11_allNear cX11_allNear 4 (some .long), Cond.methodLink RX11 426 yX11_far, Cond.instanceMethod yX11_far, Cond.selects RX11 yX11_far yX11_far]
def wsL_law_r44 : List Cond := [Cond.code yX11_far cX11_far 8 (some .long), Cond.methodLink RL 128 yX10_levelCost, Cond.instanceMethod yX10_levelCost, Cond.selects RX10 yX10_levelCost yX10_levelCost, Cond.code yX10_levelCost cX10_levelCost 5 (some .long), Cond.methodLink RX10 329 yX3_nearCost, Cond.methodLink RX10 332 yX3_farCost, Cond.methodLink RL 132 yX11_levelCost, Cond.instanceMethod yX11_levelCost, Cond.selects RX11 yX11_levelCost yX11_levelCost, Cond.code yX11_levelCost cX11_levelCost 5 (some .long), Cond.methodLink RL 133 yX10_worst, Cond.instanceMethod yX10_worst, Cond.selects RX10 yX10_worst yX10_worst, Cond.code yX10_worst cX10_worst 12 (some .long), Cond.constantLong RX10 335 (-1), Cond.constantLong RX10 337 (-2), Cond.constantLong RX10 339 (-3), Cond.fieldLink RX10 355 "OrderEcho" "worstWeeks" "I", Cond.methodLink RX10 341 yX10_lookAhead, Cond.instanceMethod yX10_lookAhead, Cond.selects RX10 yX10_lookAhead yX10_lookAhead, Cond.code yX10_lookAhead cX10_lookAhead 8 none, Cond.methodLink RX10 363 Lib.Math.max.name]
def wsL_law_r45 : List Cond := [Cond.methodLink RX10 358 yJ6_bitCount_0f7a4, Cond.static yJ6_bitCount_0f7a4, Cond.initialized RJ6, Cond.code yJ6_bitCount_0f7a4 cJ6_bitCount_0f7a4 1 (some .int), Cond.constant RJ6 265 (1431655765), Cond.constant RJ6 266 (858993459), Cond.constant RJ6 267 (252645135), Cond.methodLink RX10 367 yX1_copy, Cond.instanceMethod yX1_copy, Cond.selects RX1 yX1_copy yX1_copy, Cond.code yX1_copy cX1_copy 2 none, Cond.methodLink RX10 352 yX10_isHigh, Cond.static yX10_isHigh, Cond.code yX10_isHigh cX10_isHigh 3 (some .boolean), Cond.methodLink RX10 344 yX1_costOfAll, Cond.instanceMethod yX1_costOfAll, Cond.selects RX1 yX1_costOfAll yX1_costOfAll, Cond.code yX1_costOfAll cX1_costOfAll 8 (some .long), Cond.methodLink RX10 348 yX10_greatestOrder, Cond.instanceMethod yX10_greatestOrder, Cond.selects RX10 yX10_greatestOrder yX10_greatestOrder, Cond.code yX10_greatestOrder cX10_greatestOrder 4 (some .int), Cond.methodLink RL 137 yX11_worst, Cond.instanceMethod yX11_worst]
def wsL_law_r46 : List Cond := [Cond.selects RX11 yX11_worst yX11_worst, Cond.code yX11_worst cX11_worst 12 (some .long), Cond.constantLong RX11 429 (-2), Cond.constantLong RX11 431 (-3), Cond.fieldLink RX11 443 "OrderEchoModel" "worstMany" "I", Cond.methodLink RX11 433 yX11_keeps, Cond.instanceMethod yX11_keeps, Cond.selects RX11 yX11_keeps yX11_keeps, Cond.code yX11_keeps cX11_keeps 2 none, Cond.methodLink RX11 436 yX11_tries, Cond.instanceMethod yX11_tries, Cond.selects RX11 yX11_tries yX11_tries, Cond.code yX11_tries cX11_tries 12 (some .long), Cond.methodLink RX11 440 yX11_lays, Cond.instanceMethod yX11_lays, Cond.selects RX11 yX11_lays yX11_lays, Cond.code yX11_lays cX11_lays 2 none, Cond.methodLink RL 138 yX10_worstAt, Cond.instanceMethod yX10_worstAt, Cond.selects RX10 yX10_worstAt yX10_worstAt, Cond.code yX10_worstAt cX10_worstAt 2 (some .int), Cond.methodLink RL 141 yX11_worstAt, Cond.instanceMethod yX11_worstAt, Cond.selects RX11 yX11_worstAt yX11_worstAt]
def wsL_law_r47 : List Cond := [Cond.code yX11_worstAt cX11_worstAt 2 (some .int), Cond.methodLink RL 142 yX10_gets, Cond.instanceMethod yX10_gets, Cond.selects RX10 yX10_gets yX10_gets, Cond.code yX10_gets cX10_gets 7 (some .int), Cond.methodLink RX10 371 yX10_areClaimsFine, Cond.static yX10_areClaimsFine, Cond.code yX10_areClaimsFine cX10_areClaimsFine 3 (some .boolean), Cond.methodLink RX10 374 yX0_readClaims, Cond.instanceMethod yX0_readClaims, Cond.selects RX0 yX0_readClaims yX0_readClaims, Cond.code yX0_readClaims cX0_readClaims 7 (some .boolean), Cond.fieldLink RX0 20 "OrderEcho$Share" "size" "I", Cond.methodLink RX0 30 yX8_append, Cond.methodLink RX10 377 yX0_gotBy, Cond.instanceMethod yX0_gotBy, Cond.selects RX0 yX0_gotBy yX0_gotBy, Cond.code yX0_gotBy cX0_gotBy 4 (some .int), Cond.fieldLink RX0 43 "OrderEcho$Share" "got" "[I", Cond.methodLink RX0 39 yX8_split, Cond.methodLink RL 146 yX11_gets, Cond.instanceMethod yX11_gets, Cond.selects RX11 yX11_gets yX11_gets, Cond.code yX11_gets cX11_gets 7 (some .int)]
def wsL_law_r48 : List Cond := [Cond.methodLink RX11 452 yX11_areClaims, Cond.static yX11_areClaims, Cond.code yX11_areClaims cX11_areClaims 6 (some .boolean), Cond.methodLink RX11 448 yX11_areDigits, Cond.static yX11_areDigits, Cond.code yX11_areDigits cX11_areDigits 5 (some .boolean), Cond.constantLong RX11 446 (15), Cond.methodLink RX11 456 yX11_getsOne, Cond.instanceMethod yX11_getsOne, Cond.selects RX11 yX11_getsOne yX11_getsOne, Cond.code yX11_getsOne cX11_getsOne 8 (some .long), Cond.methodLink RL 147 yX10_calm, Cond.instanceMethod yX10_calm, Cond.selects RX10 yX10_calm yX10_calm, Cond.code yX10_calm cX10_calm 8 (some .int), Cond.methodLink RX10 381 yX0_readWants, Cond.instanceMethod yX0_readWants, Cond.selects RX0 yX0_readWants yX0_readWants, Cond.code yX0_readWants cX0_readWants 6 (some .boolean), Cond.methodLink RX10 384 yX0_isCalm, Cond.instanceMethod yX0_isCalm, Cond.selects RX0 yX0_isCalm yX0_isCalm, Cond.code yX0_isCalm cX0_isCalm 8 (some .boolean), Cond.methodLink RX0 52 Lib.Math.min.name]
def wsL_law_r49 : List Cond := [Cond.fieldLink RX0 36 "OrderEcho$Share" "claims" "[I", Cond.methodLink RX0 56 yX0_distance, Cond.instanceMethod yX0_distance, Cond.selects RX0 yX0_distance yX0_distance, Cond.code yX0_distance cX0_distance 4 (some .int), Cond.methodLink RX0 46 Lib.Math.abs.name, Cond.static Lib.Math.abs.name, Cond.code Lib.Math.abs.name Lib.Math.abs.code 1 (some .int), Cond.methodLink RL 151 yX11_calm, Cond.instanceMethod yX11_calm, Cond.selects RX11 yX11_calm yX11_calm, Cond.code yX11_calm cX11_calm 8 (some .int), Cond.methodLink RX11 460 yX11_isCalm, Cond.instanceMethod yX11_isCalm, Cond.selects RX11 yX11_isCalm yX11_isCalm, Cond.code yX11_isCalm cX11_isCalm 17 (some .boolean), Cond.methodLink RL 152 yX10_calmest, Cond.instanceMethod yX10_calmest, Cond.selects RX10 yX10_calmest yX10_calmest, Cond.code yX10_calmest cX10_calmest 6 (some .long), Cond.methodLink RX10 387 yX0_firstCalm, Cond.instanceMethod yX0_firstCalm, Cond.selects RX0 yX0_firstCalm yX0_firstCalm, Cond.code yX0_firstCalm cX0_firstCalm 7 (some .boolean)]
def wsL_law_r50 : List Cond := [Cond.methodLink RX0 60 yX0_isCalm, Cond.methodLink RX10 390 yX0_tellClaims, Cond.instanceMethod yX0_tellClaims, Cond.selects RX0 yX0_tellClaims yX0_tellClaims, Cond.code yX0_tellClaims cX0_tellClaims 4 (some .long), Cond.constantLong RX0 34 (16), Cond.methodLink RL 156 yX11_calmest, Cond.instanceMethod yX11_calmest, Cond.selects RX11 yX11_calmest yX11_calmest, Cond.code yX11_calmest cX11_calmest 12 (some .long), Cond.methodLink RL 157 yX10_count, Cond.instanceMethod yX10_count, Cond.selects RX10 yX10_count yX10_count, Cond.code yX10_count cX10_count 2 (some .int), Cond.fieldLink RX10 393 "OrderEcho$Plan" "shops" "I", Cond.methodLink RL 160 yX11_count, Cond.instanceMethod yX11_count, Cond.selects RX11 yX11_count yX11_count, Cond.code yX11_count cX11_count 4 (some .int)]
def wsL_law : List Cond := (wsL_law_r1 ++ (wsL_law_r2 ++ (wsL_law_r3 ++ (wsL_law_r4 ++ (wsL_law_r5 ++ (wsL_law_r6 ++ (wsL_law_r7 ++ (wsL_law_r8 ++ (wsL_law_r9 ++ (wsL_law_r10 ++ (wsL_law_r11 ++ (wsL_law_r12 ++ (wsL_law_r13 ++ (wsL_law_r14 ++ (wsL_law_r15 ++ (wsL_law_r16 ++ (wsL_law_r17 ++ (wsL_law_r18 ++ (wsL_law_r19 ++ (wsL_law_r20 ++ (wsL_law_r21 ++ (wsL_law_r22 ++ (wsL_law_r23 ++ (wsL_law_r24 ++ (wsL_law_r25 ++ (wsL_law_r26 ++ (wsL_law_r27 ++ (wsL_law_r28 ++ (wsL_law_r29 ++ (wsL_law_r30 ++ (wsL_law_r31 ++ (wsL_law_r32 ++ (wsL_law_r33 ++ (wsL_law_r34 ++ (wsL_law_r35 ++ (wsL_law_r36 ++ (wsL_law_r37 ++ (wsL_law_r38 ++ (wsL_law_r39 ++ (wsL_law_r40 ++ (wsL_law_r41 ++ (wsL_law_r42 ++ (wsL_law_r43 ++ (wsL_law_r44 ++ (wsL_law_r45 ++ (wsL_law_r46 ++ (wsL_law_r47 ++ (wsL_law_r48 ++ (wsL_law_r49 ++ wsL_law_r50))))))))))))))))))))))))))))))))))))))))))))))))) ++ wsX100 ++ wsX110 ++ wsX60 ++ wsX70 ++ wsX90 ++ wsX80 ++ wsX50 ++ wsX40 ++ wsX20 ++ wsX30 ++ wsX00 ++ wsX10 ++ ([] : List Cond)
theorem inlX0 : ∀ w ∈ wsX00, w ∈ wsL_law := fun _ h => List.mem_append_left _ (List.mem_append_left _ (List.mem_append_right _ h))
theorem inlX1 : ∀ w ∈ wsX10, w ∈ wsL_law := fun _ h => List.mem_append_left _ (List.mem_append_right _ h)
theorem inlX2 : ∀ w ∈ wsX20, w ∈ wsL_law := fun _ h => List.mem_append_left _ (List.mem_append_left _ (List.mem_append_left _ (List.mem_append_left _ (List.mem_append_right _ h))))
theorem inlX3 : ∀ w ∈ wsX30, w ∈ wsL_law := fun _ h => List.mem_append_left _ (List.mem_append_left _ (List.mem_append_left _ (List.mem_append_right _ h)))
theorem inlX4 : ∀ w ∈ wsX40, w ∈ wsL_law := fun _ h => List.mem_append_left _ (List.mem_append_left _ (List.mem_append_left _ (List.mem_append_left _ (List.mem_append_left _ (List.mem_append_right _ h)))))
theorem inlX5 : ∀ w ∈ wsX50, w ∈ wsL_law := fun _ h => List.mem_append_left _ (List.mem_append_left _ (List.mem_append_left _ (List.mem_append_left _ (List.mem_append_left _ (List.mem_append_left _ (List.mem_append_right _ h))))))
theorem inlX6 : ∀ w ∈ wsX60, w ∈ wsL_law := fun _ h => List.mem_append_left _ (List.mem_append_left _ (List.mem_append_left _ (List.mem_append_left _ (List.mem_append_left _ (List.mem_append_left _ (List.mem_append_left _ (List.mem_append_left _ (List.mem_append_left _ (List.mem_append_left _ (List.mem_append_right _ h))))))))))
theorem inlX7 : ∀ w ∈ wsX70, w ∈ wsL_law := fun _ h => List.mem_append_left _ (List.mem_append_left _ (List.mem_append_left _ (List.mem_append_left _ (List.mem_append_left _ (List.mem_append_left _ (List.mem_append_left _ (List.mem_append_left _ (List.mem_append_left _ (List.mem_append_right _ h)))))))))
theorem inlX8 : ∀ w ∈ wsX80, w ∈ wsL_law := fun _ h => List.mem_append_left _ (List.mem_append_left _ (List.mem_append_left _ (List.mem_append_left _ (List.mem_append_left _ (List.mem_append_left _ (List.mem_append_left _ (List.mem_append_right _ h)))))))
theorem inlX9 : ∀ w ∈ wsX90, w ∈ wsL_law := fun _ h => List.mem_append_left _ (List.mem_append_left _ (List.mem_append_left _ (List.mem_append_left _ (List.mem_append_left _ (List.mem_append_left _ (List.mem_append_left _ (List.mem_append_left _ (List.mem_append_right _ h))))))))
theorem inlX10 : ∀ w ∈ wsX100, w ∈ wsL_law := fun _ h => List.mem_append_left _ (List.mem_append_left _ (List.mem_append_left _ (List.mem_append_left _ (List.mem_append_left _ (List.mem_append_left _ (List.mem_append_left _ (List.mem_append_left _ (List.mem_append_left _ (List.mem_append_left _ (List.mem_append_left _ (List.mem_append_left _ (List.mem_append_right _ h))))))))))))
theorem inlX11 : ∀ w ∈ wsX110, w ∈ wsL_law := fun _ h => List.mem_append_left _ (List.mem_append_left _ (List.mem_append_left _ (List.mem_append_left _ (List.mem_append_left _ (List.mem_append_left _ (List.mem_append_left _ (List.mem_append_left _ (List.mem_append_left _ (List.mem_append_left _ (List.mem_append_left _ (List.mem_append_right _ h)))))))))))
theorem inJ6 : ∀ w ∈ wsJ60, w ∈ lw_tbl := by decide +kernel
theorem inJ9 : ∀ w ∈ wsJ90, w ∈ lw_tbl := by decide +kernel
theorem inJ0 : ∀ w ∈ wsJ00, w ∈ lw_tbl := by decide +kernel
theorem inJ1 : ∀ w ∈ wsJ10, w ∈ lw_tbl := by decide +kernel
theorem inJ2 : ∀ w ∈ wsJ20, w ∈ lw_tbl := by decide +kernel
theorem inJ10 : ∀ w ∈ wsJ100, w ∈ lw_tbl := by decide +kernel
theorem inJ3 : ∀ w ∈ wsJ30, w ∈ lw_tbl := by decide +kernel
abbrev vwCl : List vw_C := [(RX0, TX0, 2), (RX1, TX1, 13), (RX2, TX2, 3), (RX3, TX3, 12), (RX4, TX4, 11), (RX5, TX5, 2), (RX6, TX6, 13), (RX7, TX7, 4), (RX8, TX8, 3), (RX9, TX9, 5), (RX10, TX10, 16), (RX11, TX11, 76)]
theorem in_r1 : ∀ w ∈ wsL_law_r1, w ∈ wsL_law := fun _ h => List.mem_append_left _ (List.mem_append_left _ (List.mem_append_left _ (List.mem_append_left _ (List.mem_append_left _ (List.mem_append_left _ (List.mem_append_left _ (List.mem_append_left _ (List.mem_append_left _ (List.mem_append_left _ (List.mem_append_left _ (List.mem_append_left _ (List.mem_append_left _ (List.mem_append_left _ h)))))))))))))
theorem in_r2 : ∀ w ∈ wsL_law_r2, w ∈ wsL_law := fun _ h => List.mem_append_left _ (List.mem_append_left _ (List.mem_append_left _ (List.mem_append_left _ (List.mem_append_left _ (List.mem_append_left _ (List.mem_append_left _ (List.mem_append_left _ (List.mem_append_left _ (List.mem_append_left _ (List.mem_append_left _ (List.mem_append_left _ (List.mem_append_left _ (List.mem_append_right _ (List.mem_append_left _ h))))))))))))))
theorem in_r3 : ∀ w ∈ wsL_law_r3, w ∈ wsL_law := fun _ h => List.mem_append_left _ (List.mem_append_left _ (List.mem_append_left _ (List.mem_append_left _ (List.mem_append_left _ (List.mem_append_left _ (List.mem_append_left _ (List.mem_append_left _ (List.mem_append_left _ (List.mem_append_left _ (List.mem_append_left _ (List.mem_append_left _ (List.mem_append_left _ (List.mem_append_right _ (List.mem_append_right _ (List.mem_append_left _ h)))))))))))))))
theorem in_r4 : ∀ w ∈ wsL_law_r4, w ∈ wsL_law := fun _ h => List.mem_append_left _ (List.mem_append_left _ (List.mem_append_left _ (List.mem_append_left _ (List.mem_append_left _ (List.mem_append_left _ (List.mem_append_left _ (List.mem_append_left _ (List.mem_append_left _ (List.mem_append_left _ (List.mem_append_left _ (List.mem_append_left _ (List.mem_append_left _ (List.mem_append_right _ (List.mem_append_right _ (List.mem_append_right _ (List.mem_append_left _ h))))))))))))))))
theorem in_r5 : ∀ w ∈ wsL_law_r5, w ∈ wsL_law := fun _ h => List.mem_append_left _ (List.mem_append_left _ (List.mem_append_left _ (List.mem_append_left _ (List.mem_append_left _ (List.mem_append_left _ (List.mem_append_left _ (List.mem_append_left _ (List.mem_append_left _ (List.mem_append_left _ (List.mem_append_left _ (List.mem_append_left _ (List.mem_append_left _ (List.mem_append_right _ (List.mem_append_right _ (List.mem_append_right _ (List.mem_append_right _ (List.mem_append_left _ h)))))))))))))))))
theorem in_r6 : ∀ w ∈ wsL_law_r6, w ∈ wsL_law := fun _ h => List.mem_append_left _ (List.mem_append_left _ (List.mem_append_left _ (List.mem_append_left _ (List.mem_append_left _ (List.mem_append_left _ (List.mem_append_left _ (List.mem_append_left _ (List.mem_append_left _ (List.mem_append_left _ (List.mem_append_left _ (List.mem_append_left _ (List.mem_append_left _ (List.mem_append_right _ (List.mem_append_right _ (List.mem_append_right _ (List.mem_append_right _ (List.mem_append_right _ (List.mem_append_left _ h))))))))))))))))))
theorem in_r7 : ∀ w ∈ wsL_law_r7, w ∈ wsL_law := fun _ h => List.mem_append_left _ (List.mem_append_left _ (List.mem_append_left _ (List.mem_append_left _ (List.mem_append_left _ (List.mem_append_left _ (List.mem_append_left _ (List.mem_append_left _ (List.mem_append_left _ (List.mem_append_left _ (List.mem_append_left _ (List.mem_append_left _ (List.mem_append_left _ (List.mem_append_right _ (List.mem_append_right _ (List.mem_append_right _ (List.mem_append_right _ (List.mem_append_right _ (List.mem_append_right _ (List.mem_append_left _ h)))))))))))))))))))
theorem in_r8 : ∀ w ∈ wsL_law_r8, w ∈ wsL_law := fun _ h => List.mem_append_left _ (List.mem_append_left _ (List.mem_append_left _ (List.mem_append_left _ (List.mem_append_left _ (List.mem_append_left _ (List.mem_append_left _ (List.mem_append_left _ (List.mem_append_left _ (List.mem_append_left _ (List.mem_append_left _ (List.mem_append_left _ (List.mem_append_left _ (List.mem_append_right _ (List.mem_append_right _ (List.mem_append_right _ (List.mem_append_right _ (List.mem_append_right _ (List.mem_append_right _ (List.mem_append_right _ (List.mem_append_left _ h))))))))))))))))))))
theorem in_r9 : ∀ w ∈ wsL_law_r9, w ∈ wsL_law := fun _ h => List.mem_append_left _ (List.mem_append_left _ (List.mem_append_left _ (List.mem_append_left _ (List.mem_append_left _ (List.mem_append_left _ (List.mem_append_left _ (List.mem_append_left _ (List.mem_append_left _ (List.mem_append_left _ (List.mem_append_left _ (List.mem_append_left _ (List.mem_append_left _ (List.mem_append_right _ (List.mem_append_right _ (List.mem_append_right _ (List.mem_append_right _ (List.mem_append_right _ (List.mem_append_right _ (List.mem_append_right _ (List.mem_append_right _ (List.mem_append_left _ h)))))))))))))))))))))
theorem in_r10 : ∀ w ∈ wsL_law_r10, w ∈ wsL_law := fun _ h => List.mem_append_left _ (List.mem_append_left _ (List.mem_append_left _ (List.mem_append_left _ (List.mem_append_left _ (List.mem_append_left _ (List.mem_append_left _ (List.mem_append_left _ (List.mem_append_left _ (List.mem_append_left _ (List.mem_append_left _ (List.mem_append_left _ (List.mem_append_left _ (List.mem_append_right _ (List.mem_append_right _ (List.mem_append_right _ (List.mem_append_right _ (List.mem_append_right _ (List.mem_append_right _ (List.mem_append_right _ (List.mem_append_right _ (List.mem_append_right _ (List.mem_append_left _ h))))))))))))))))))))))
theorem in_r11 : ∀ w ∈ wsL_law_r11, w ∈ wsL_law := fun _ h => List.mem_append_left _ (List.mem_append_left _ (List.mem_append_left _ (List.mem_append_left _ (List.mem_append_left _ (List.mem_append_left _ (List.mem_append_left _ (List.mem_append_left _ (List.mem_append_left _ (List.mem_append_left _ (List.mem_append_left _ (List.mem_append_left _ (List.mem_append_left _ (List.mem_append_right _ (List.mem_append_right _ (List.mem_append_right _ (List.mem_append_right _ (List.mem_append_right _ (List.mem_append_right _ (List.mem_append_right _ (List.mem_append_right _ (List.mem_append_right _ (List.mem_append_right _ (List.mem_append_left _ h)))))))))))))))))))))))
theorem in_r12 : ∀ w ∈ wsL_law_r12, w ∈ wsL_law := fun _ h => List.mem_append_left _ (List.mem_append_left _ (List.mem_append_left _ (List.mem_append_left _ (List.mem_append_left _ (List.mem_append_left _ (List.mem_append_left _ (List.mem_append_left _ (List.mem_append_left _ (List.mem_append_left _ (List.mem_append_left _ (List.mem_append_left _ (List.mem_append_left _ (List.mem_append_right _ (List.mem_append_right _ (List.mem_append_right _ (List.mem_append_right _ (List.mem_append_right _ (List.mem_append_right _ (List.mem_append_right _ (List.mem_append_right _ (List.mem_append_right _ (List.mem_append_right _ (List.mem_append_right _ (List.mem_append_left _ h))))))))))))))))))))))))
theorem in_r13 : ∀ w ∈ wsL_law_r13, w ∈ wsL_law := fun _ h => List.mem_append_left _ (List.mem_append_left _ (List.mem_append_left _ (List.mem_append_left _ (List.mem_append_left _ (List.mem_append_left _ (List.mem_append_left _ (List.mem_append_left _ (List.mem_append_left _ (List.mem_append_left _ (List.mem_append_left _ (List.mem_append_left _ (List.mem_append_left _ (List.mem_append_right _ (List.mem_append_right _ (List.mem_append_right _ (List.mem_append_right _ (List.mem_append_right _ (List.mem_append_right _ (List.mem_append_right _ (List.mem_append_right _ (List.mem_append_right _ (List.mem_append_right _ (List.mem_append_right _ (List.mem_append_right _ (List.mem_append_left _ h)))))))))))))))))))))))))
theorem in_r14 : ∀ w ∈ wsL_law_r14, w ∈ wsL_law := fun _ h => List.mem_append_left _ (List.mem_append_left _ (List.mem_append_left _ (List.mem_append_left _ (List.mem_append_left _ (List.mem_append_left _ (List.mem_append_left _ (List.mem_append_left _ (List.mem_append_left _ (List.mem_append_left _ (List.mem_append_left _ (List.mem_append_left _ (List.mem_append_left _ (List.mem_append_right _ (List.mem_append_right _ (List.mem_append_right _ (List.mem_append_right _ (List.mem_append_right _ (List.mem_append_right _ (List.mem_append_right _ (List.mem_append_right _ (List.mem_append_right _ (List.mem_append_right _ (List.mem_append_right _ (List.mem_append_right _ (List.mem_append_right _ (List.mem_append_left _ h))))))))))))))))))))))))))
theorem in_r15 : ∀ w ∈ wsL_law_r15, w ∈ wsL_law := fun _ h => List.mem_append_left _ (List.mem_append_left _ (List.mem_append_left _ (List.mem_append_left _ (List.mem_append_left _ (List.mem_append_left _ (List.mem_append_left _ (List.mem_append_left _ (List.mem_append_left _ (List.mem_append_left _ (List.mem_append_left _ (List.mem_append_left _ (List.mem_append_left _ (List.mem_append_right _ (List.mem_append_right _ (List.mem_append_right _ (List.mem_append_right _ (List.mem_append_right _ (List.mem_append_right _ (List.mem_append_right _ (List.mem_append_right _ (List.mem_append_right _ (List.mem_append_right _ (List.mem_append_right _ (List.mem_append_right _ (List.mem_append_right _ (List.mem_append_right _ (List.mem_append_left _ h)))))))))))))))))))))))))))
theorem in_r16 : ∀ w ∈ wsL_law_r16, w ∈ wsL_law := fun _ h => List.mem_append_left _ (List.mem_append_left _ (List.mem_append_left _ (List.mem_append_left _ (List.mem_append_left _ (List.mem_append_left _ (List.mem_append_left _ (List.mem_append_left _ (List.mem_append_left _ (List.mem_append_left _ (List.mem_append_left _ (List.mem_append_left _ (List.mem_append_left _ (List.mem_append_right _ (List.mem_append_right _ (List.mem_append_right _ (List.mem_append_right _ (List.mem_append_right _ (List.mem_append_right _ (List.mem_append_right _ (List.mem_append_right _ (List.mem_append_right _ (List.mem_append_right _ (List.mem_append_right _ (List.mem_append_right _ (List.mem_append_right _ (List.mem_append_right _ (List.mem_append_right _ (List.mem_append_left _ h))))))))))))))))))))))))))))
theorem in_r17 : ∀ w ∈ wsL_law_r17, w ∈ wsL_law := fun _ h => List.mem_append_left _ (List.mem_append_left _ (List.mem_append_left _ (List.mem_append_left _ (List.mem_append_left _ (List.mem_append_left _ (List.mem_append_left _ (List.mem_append_left _ (List.mem_append_left _ (List.mem_append_left _ (List.mem_append_left _ (List.mem_append_left _ (List.mem_append_left _ (List.mem_append_right _ (List.mem_append_right _ (List.mem_append_right _ (List.mem_append_right _ (List.mem_append_right _ (List.mem_append_right _ (List.mem_append_right _ (List.mem_append_right _ (List.mem_append_right _ (List.mem_append_right _ (List.mem_append_right _ (List.mem_append_right _ (List.mem_append_right _ (List.mem_append_right _ (List.mem_append_right _ (List.mem_append_right _ (List.mem_append_left _ h)))))))))))))))))))))))))))))
theorem in_r18 : ∀ w ∈ wsL_law_r18, w ∈ wsL_law := fun _ h => List.mem_append_left _ (List.mem_append_left _ (List.mem_append_left _ (List.mem_append_left _ (List.mem_append_left _ (List.mem_append_left _ (List.mem_append_left _ (List.mem_append_left _ (List.mem_append_left _ (List.mem_append_left _ (List.mem_append_left _ (List.mem_append_left _ (List.mem_append_left _ (List.mem_append_right _ (List.mem_append_right _ (List.mem_append_right _ (List.mem_append_right _ (List.mem_append_right _ (List.mem_append_right _ (List.mem_append_right _ (List.mem_append_right _ (List.mem_append_right _ (List.mem_append_right _ (List.mem_append_right _ (List.mem_append_right _ (List.mem_append_right _ (List.mem_append_right _ (List.mem_append_right _ (List.mem_append_right _ (List.mem_append_right _ (List.mem_append_left _ h))))))))))))))))))))))))))))))
theorem in_r19 : ∀ w ∈ wsL_law_r19, w ∈ wsL_law := fun _ h => List.mem_append_left _ (List.mem_append_left _ (List.mem_append_left _ (List.mem_append_left _ (List.mem_append_left _ (List.mem_append_left _ (List.mem_append_left _ (List.mem_append_left _ (List.mem_append_left _ (List.mem_append_left _ (List.mem_append_left _ (List.mem_append_left _ (List.mem_append_left _ (List.mem_append_right _ (List.mem_append_right _ (List.mem_append_right _ (List.mem_append_right _ (List.mem_append_right _ (List.mem_append_right _ (List.mem_append_right _ (List.mem_append_right _ (List.mem_append_right _ (List.mem_append_right _ (List.mem_append_right _ (List.mem_append_right _ (List.mem_append_right _ (List.mem_append_right _ (List.mem_append_right _ (List.mem_append_right _ (List.mem_append_right _ (List.mem_append_right _ (List.mem_append_left _ h)))))))))))))))))))))))))))))))
theorem in_r20 : ∀ w ∈ wsL_law_r20, w ∈ wsL_law := fun _ h => List.mem_append_left _ (List.mem_append_left _ (List.mem_append_left _ (List.mem_append_left _ (List.mem_append_left _ (List.mem_append_left _ (List.mem_append_left _ (List.mem_append_left _ (List.mem_append_left _ (List.mem_append_left _ (List.mem_append_left _ (List.mem_append_left _ (List.mem_append_left _ (List.mem_append_right _ (List.mem_append_right _ (List.mem_append_right _ (List.mem_append_right _ (List.mem_append_right _ (List.mem_append_right _ (List.mem_append_right _ (List.mem_append_right _ (List.mem_append_right _ (List.mem_append_right _ (List.mem_append_right _ (List.mem_append_right _ (List.mem_append_right _ (List.mem_append_right _ (List.mem_append_right _ (List.mem_append_right _ (List.mem_append_right _ (List.mem_append_right _ (List.mem_append_right _ (List.mem_append_left _ h))))))))))))))))))))))))))))))))
theorem in_r21 : ∀ w ∈ wsL_law_r21, w ∈ wsL_law := fun _ h => List.mem_append_left _ (List.mem_append_left _ (List.mem_append_left _ (List.mem_append_left _ (List.mem_append_left _ (List.mem_append_left _ (List.mem_append_left _ (List.mem_append_left _ (List.mem_append_left _ (List.mem_append_left _ (List.mem_append_left _ (List.mem_append_left _ (List.mem_append_left _ (List.mem_append_right _ (List.mem_append_right _ (List.mem_append_right _ (List.mem_append_right _ (List.mem_append_right _ (List.mem_append_right _ (List.mem_append_right _ (List.mem_append_right _ (List.mem_append_right _ (List.mem_append_right _ (List.mem_append_right _ (List.mem_append_right _ (List.mem_append_right _ (List.mem_append_right _ (List.mem_append_right _ (List.mem_append_right _ (List.mem_append_right _ (List.mem_append_right _ (List.mem_append_right _ (List.mem_append_right _ (List.mem_append_left _ h)))))))))))))))))))))))))))))))))
theorem in_r22 : ∀ w ∈ wsL_law_r22, w ∈ wsL_law := fun _ h => List.mem_append_left _ (List.mem_append_left _ (List.mem_append_left _ (List.mem_append_left _ (List.mem_append_left _ (List.mem_append_left _ (List.mem_append_left _ (List.mem_append_left _ (List.mem_append_left _ (List.mem_append_left _ (List.mem_append_left _ (List.mem_append_left _ (List.mem_append_left _ (List.mem_append_right _ (List.mem_append_right _ (List.mem_append_right _ (List.mem_append_right _ (List.mem_append_right _ (List.mem_append_right _ (List.mem_append_right _ (List.mem_append_right _ (List.mem_append_right _ (List.mem_append_right _ (List.mem_append_right _ (List.mem_append_right _ (List.mem_append_right _ (List.mem_append_right _ (List.mem_append_right _ (List.mem_append_right _ (List.mem_append_right _ (List.mem_append_right _ (List.mem_append_right _ (List.mem_append_right _ (List.mem_append_right _ (List.mem_append_left _ h))))))))))))))))))))))))))))))))))
theorem in_r23 : ∀ w ∈ wsL_law_r23, w ∈ wsL_law := fun _ h => List.mem_append_left _ (List.mem_append_left _ (List.mem_append_left _ (List.mem_append_left _ (List.mem_append_left _ (List.mem_append_left _ (List.mem_append_left _ (List.mem_append_left _ (List.mem_append_left _ (List.mem_append_left _ (List.mem_append_left _ (List.mem_append_left _ (List.mem_append_left _ (List.mem_append_right _ (List.mem_append_right _ (List.mem_append_right _ (List.mem_append_right _ (List.mem_append_right _ (List.mem_append_right _ (List.mem_append_right _ (List.mem_append_right _ (List.mem_append_right _ (List.mem_append_right _ (List.mem_append_right _ (List.mem_append_right _ (List.mem_append_right _ (List.mem_append_right _ (List.mem_append_right _ (List.mem_append_right _ (List.mem_append_right _ (List.mem_append_right _ (List.mem_append_right _ (List.mem_append_right _ (List.mem_append_right _ (List.mem_append_right _ (List.mem_append_left _ h)))))))))))))))))))))))))))))))))))
theorem in_r24 : ∀ w ∈ wsL_law_r24, w ∈ wsL_law := fun _ h => List.mem_append_left _ (List.mem_append_left _ (List.mem_append_left _ (List.mem_append_left _ (List.mem_append_left _ (List.mem_append_left _ (List.mem_append_left _ (List.mem_append_left _ (List.mem_append_left _ (List.mem_append_left _ (List.mem_append_left _ (List.mem_append_left _ (List.mem_append_left _ (List.mem_append_right _ (List.mem_append_right _ (List.mem_append_right _ (List.mem_append_right _ (List.mem_append_right _ (List.mem_append_right _ (List.mem_append_right _ (List.mem_append_right _ (List.mem_append_right _ (List.mem_append_right _ (List.mem_append_right _ (List.mem_append_right _ (List.mem_append_right _ (List.mem_append_right _ (List.mem_append_right _ (List.mem_append_right _ (List.mem_append_right _ (List.mem_append_right _ (List.mem_append_right _ (List.mem_append_right _ (List.mem_append_right _ (List.mem_append_right _ (List.mem_append_right _ (List.mem_append_left _ h))))))))))))))))))))))))))))))))))))
theorem in_r25 : ∀ w ∈ wsL_law_r25, w ∈ wsL_law := fun _ h => List.mem_append_left _ (List.mem_append_left _ (List.mem_append_left _ (List.mem_append_left _ (List.mem_append_left _ (List.mem_append_left _ (List.mem_append_left _ (List.mem_append_left _ (List.mem_append_left _ (List.mem_append_left _ (List.mem_append_left _ (List.mem_append_left _ (List.mem_append_left _ (List.mem_append_right _ (List.mem_append_right _ (List.mem_append_right _ (List.mem_append_right _ (List.mem_append_right _ (List.mem_append_right _ (List.mem_append_right _ (List.mem_append_right _ (List.mem_append_right _ (List.mem_append_right _ (List.mem_append_right _ (List.mem_append_right _ (List.mem_append_right _ (List.mem_append_right _ (List.mem_append_right _ (List.mem_append_right _ (List.mem_append_right _ (List.mem_append_right _ (List.mem_append_right _ (List.mem_append_right _ (List.mem_append_right _ (List.mem_append_right _ (List.mem_append_right _ (List.mem_append_right _ (List.mem_append_left _ h)))))))))))))))))))))))))))))))))))))
theorem in_r26 : ∀ w ∈ wsL_law_r26, w ∈ wsL_law := fun _ h => List.mem_append_left _ (List.mem_append_left _ (List.mem_append_left _ (List.mem_append_left _ (List.mem_append_left _ (List.mem_append_left _ (List.mem_append_left _ (List.mem_append_left _ (List.mem_append_left _ (List.mem_append_left _ (List.mem_append_left _ (List.mem_append_left _ (List.mem_append_left _ (List.mem_append_right _ (List.mem_append_right _ (List.mem_append_right _ (List.mem_append_right _ (List.mem_append_right _ (List.mem_append_right _ (List.mem_append_right _ (List.mem_append_right _ (List.mem_append_right _ (List.mem_append_right _ (List.mem_append_right _ (List.mem_append_right _ (List.mem_append_right _ (List.mem_append_right _ (List.mem_append_right _ (List.mem_append_right _ (List.mem_append_right _ (List.mem_append_right _ (List.mem_append_right _ (List.mem_append_right _ (List.mem_append_right _ (List.mem_append_right _ (List.mem_append_right _ (List.mem_append_right _ (List.mem_append_right _ (List.mem_append_left _ h))))))))))))))))))))))))))))))))))))))
theorem in_r27 : ∀ w ∈ wsL_law_r27, w ∈ wsL_law := fun _ h => List.mem_append_left _ (List.mem_append_left _ (List.mem_append_left _ (List.mem_append_left _ (List.mem_append_left _ (List.mem_append_left _ (List.mem_append_left _ (List.mem_append_left _ (List.mem_append_left _ (List.mem_append_left _ (List.mem_append_left _ (List.mem_append_left _ (List.mem_append_left _ (List.mem_append_right _ (List.mem_append_right _ (List.mem_append_right _ (List.mem_append_right _ (List.mem_append_right _ (List.mem_append_right _ (List.mem_append_right _ (List.mem_append_right _ (List.mem_append_right _ (List.mem_append_right _ (List.mem_append_right _ (List.mem_append_right _ (List.mem_append_right _ (List.mem_append_right _ (List.mem_append_right _ (List.mem_append_right _ (List.mem_append_right _ (List.mem_append_right _ (List.mem_append_right _ (List.mem_append_right _ (List.mem_append_right _ (List.mem_append_right _ (List.mem_append_right _ (List.mem_append_right _ (List.mem_append_right _ (List.mem_append_right _ (List.mem_append_left _ h)))))))))))))))))))))))))))))))))))))))
theorem in_r28 : ∀ w ∈ wsL_law_r28, w ∈ wsL_law := fun _ h => List.mem_append_left _ (List.mem_append_left _ (List.mem_append_left _ (List.mem_append_left _ (List.mem_append_left _ (List.mem_append_left _ (List.mem_append_left _ (List.mem_append_left _ (List.mem_append_left _ (List.mem_append_left _ (List.mem_append_left _ (List.mem_append_left _ (List.mem_append_left _ (List.mem_append_right _ (List.mem_append_right _ (List.mem_append_right _ (List.mem_append_right _ (List.mem_append_right _ (List.mem_append_right _ (List.mem_append_right _ (List.mem_append_right _ (List.mem_append_right _ (List.mem_append_right _ (List.mem_append_right _ (List.mem_append_right _ (List.mem_append_right _ (List.mem_append_right _ (List.mem_append_right _ (List.mem_append_right _ (List.mem_append_right _ (List.mem_append_right _ (List.mem_append_right _ (List.mem_append_right _ (List.mem_append_right _ (List.mem_append_right _ (List.mem_append_right _ (List.mem_append_right _ (List.mem_append_right _ (List.mem_append_right _ (List.mem_append_right _ (List.mem_append_left _ h))))))))))))))))))))))))))))))))))))))))
theorem in_r29 : ∀ w ∈ wsL_law_r29, w ∈ wsL_law := fun _ h => List.mem_append_left _ (List.mem_append_left _ (List.mem_append_left _ (List.mem_append_left _ (List.mem_append_left _ (List.mem_append_left _ (List.mem_append_left _ (List.mem_append_left _ (List.mem_append_left _ (List.mem_append_left _ (List.mem_append_left _ (List.mem_append_left _ (List.mem_append_left _ (List.mem_append_right _ (List.mem_append_right _ (List.mem_append_right _ (List.mem_append_right _ (List.mem_append_right _ (List.mem_append_right _ (List.mem_append_right _ (List.mem_append_right _ (List.mem_append_right _ (List.mem_append_right _ (List.mem_append_right _ (List.mem_append_right _ (List.mem_append_right _ (List.mem_append_right _ (List.mem_append_right _ (List.mem_append_right _ (List.mem_append_right _ (List.mem_append_right _ (List.mem_append_right _ (List.mem_append_right _ (List.mem_append_right _ (List.mem_append_right _ (List.mem_append_right _ (List.mem_append_right _ (List.mem_append_right _ (List.mem_append_right _ (List.mem_append_right _ (List.mem_append_right _ (List.mem_append_left _ h)))))))))))))))))))))))))))))))))))))))))
theorem in_r30 : ∀ w ∈ wsL_law_r30, w ∈ wsL_law := fun _ h => List.mem_append_left _ (List.mem_append_left _ (List.mem_append_left _ (List.mem_append_left _ (List.mem_append_left _ (List.mem_append_left _ (List.mem_append_left _ (List.mem_append_left _ (List.mem_append_left _ (List.mem_append_left _ (List.mem_append_left _ (List.mem_append_left _ (List.mem_append_left _ (List.mem_append_right _ (List.mem_append_right _ (List.mem_append_right _ (List.mem_append_right _ (List.mem_append_right _ (List.mem_append_right _ (List.mem_append_right _ (List.mem_append_right _ (List.mem_append_right _ (List.mem_append_right _ (List.mem_append_right _ (List.mem_append_right _ (List.mem_append_right _ (List.mem_append_right _ (List.mem_append_right _ (List.mem_append_right _ (List.mem_append_right _ (List.mem_append_right _ (List.mem_append_right _ (List.mem_append_right _ (List.mem_append_right _ (List.mem_append_right _ (List.mem_append_right _ (List.mem_append_right _ (List.mem_append_right _ (List.mem_append_right _ (List.mem_append_right _ (List.mem_append_right _ (List.mem_append_right _ (List.mem_append_left _ h))))))))))))))))))))))))))))))))))))))))))
theorem in_r31 : ∀ w ∈ wsL_law_r31, w ∈ wsL_law := fun _ h => List.mem_append_left _ (List.mem_append_left _ (List.mem_append_left _ (List.mem_append_left _ (List.mem_append_left _ (List.mem_append_left _ (List.mem_append_left _ (List.mem_append_left _ (List.mem_append_left _ (List.mem_append_left _ (List.mem_append_left _ (List.mem_append_left _ (List.mem_append_left _ (List.mem_append_right _ (List.mem_append_right _ (List.mem_append_right _ (List.mem_append_right _ (List.mem_append_right _ (List.mem_append_right _ (List.mem_append_right _ (List.mem_append_right _ (List.mem_append_right _ (List.mem_append_right _ (List.mem_append_right _ (List.mem_append_right _ (List.mem_append_right _ (List.mem_append_right _ (List.mem_append_right _ (List.mem_append_right _ (List.mem_append_right _ (List.mem_append_right _ (List.mem_append_right _ (List.mem_append_right _ (List.mem_append_right _ (List.mem_append_right _ (List.mem_append_right _ (List.mem_append_right _ (List.mem_append_right _ (List.mem_append_right _ (List.mem_append_right _ (List.mem_append_right _ (List.mem_append_right _ (List.mem_append_right _ (List.mem_append_left _ h)))))))))))))))))))))))))))))))))))))))))))
theorem in_r32 : ∀ w ∈ wsL_law_r32, w ∈ wsL_law := fun _ h => List.mem_append_left _ (List.mem_append_left _ (List.mem_append_left _ (List.mem_append_left _ (List.mem_append_left _ (List.mem_append_left _ (List.mem_append_left _ (List.mem_append_left _ (List.mem_append_left _ (List.mem_append_left _ (List.mem_append_left _ (List.mem_append_left _ (List.mem_append_left _ (List.mem_append_right _ (List.mem_append_right _ (List.mem_append_right _ (List.mem_append_right _ (List.mem_append_right _ (List.mem_append_right _ (List.mem_append_right _ (List.mem_append_right _ (List.mem_append_right _ (List.mem_append_right _ (List.mem_append_right _ (List.mem_append_right _ (List.mem_append_right _ (List.mem_append_right _ (List.mem_append_right _ (List.mem_append_right _ (List.mem_append_right _ (List.mem_append_right _ (List.mem_append_right _ (List.mem_append_right _ (List.mem_append_right _ (List.mem_append_right _ (List.mem_append_right _ (List.mem_append_right _ (List.mem_append_right _ (List.mem_append_right _ (List.mem_append_right _ (List.mem_append_right _ (List.mem_append_right _ (List.mem_append_right _ (List.mem_append_right _ (List.mem_append_left _ h))))))))))))))))))))))))))))))))))))))))))))
theorem in_r33 : ∀ w ∈ wsL_law_r33, w ∈ wsL_law := fun _ h => List.mem_append_left _ (List.mem_append_left _ (List.mem_append_left _ (List.mem_append_left _ (List.mem_append_left _ (List.mem_append_left _ (List.mem_append_left _ (List.mem_append_left _ (List.mem_append_left _ (List.mem_append_left _ (List.mem_append_left _ (List.mem_append_left _ (List.mem_append_left _ (List.mem_append_right _ (List.mem_append_right _ (List.mem_append_right _ (List.mem_append_right _ (List.mem_append_right _ (List.mem_append_right _ (List.mem_append_right _ (List.mem_append_right _ (List.mem_append_right _ (List.mem_append_right _ (List.mem_append_right _ (List.mem_append_right _ (List.mem_append_right _ (List.mem_append_right _ (List.mem_append_right _ (List.mem_append_right _ (List.mem_append_right _ (List.mem_append_right _ (List.mem_append_right _ (List.mem_append_right _ (List.mem_append_right _ (List.mem_append_right _ (List.mem_append_right _ (List.mem_append_right _ (List.mem_append_right _ (List.mem_append_right _ (List.mem_append_right _ (List.mem_append_right _ (List.mem_append_right _ (List.mem_append_right _ (List.mem_append_right _ (List.mem_append_right _ (List.mem_append_left _ h)))))))))))))))))))))))))))))))))))))))))))))
theorem in_r34 : ∀ w ∈ wsL_law_r34, w ∈ wsL_law := fun _ h => List.mem_append_left _ (List.mem_append_left _ (List.mem_append_left _ (List.mem_append_left _ (List.mem_append_left _ (List.mem_append_left _ (List.mem_append_left _ (List.mem_append_left _ (List.mem_append_left _ (List.mem_append_left _ (List.mem_append_left _ (List.mem_append_left _ (List.mem_append_left _ (List.mem_append_right _ (List.mem_append_right _ (List.mem_append_right _ (List.mem_append_right _ (List.mem_append_right _ (List.mem_append_right _ (List.mem_append_right _ (List.mem_append_right _ (List.mem_append_right _ (List.mem_append_right _ (List.mem_append_right _ (List.mem_append_right _ (List.mem_append_right _ (List.mem_append_right _ (List.mem_append_right _ (List.mem_append_right _ (List.mem_append_right _ (List.mem_append_right _ (List.mem_append_right _ (List.mem_append_right _ (List.mem_append_right _ (List.mem_append_right _ (List.mem_append_right _ (List.mem_append_right _ (List.mem_append_right _ (List.mem_append_right _ (List.mem_append_right _ (List.mem_append_right _ (List.mem_append_right _ (List.mem_append_right _ (List.mem_append_right _ (List.mem_append_right _ (List.mem_append_right _ (List.mem_append_left _ h))))))))))))))))))))))))))))))))))))))))))))))
theorem in_r35 : ∀ w ∈ wsL_law_r35, w ∈ wsL_law := fun _ h => List.mem_append_left _ (List.mem_append_left _ (List.mem_append_left _ (List.mem_append_left _ (List.mem_append_left _ (List.mem_append_left _ (List.mem_append_left _ (List.mem_append_left _ (List.mem_append_left _ (List.mem_append_left _ (List.mem_append_left _ (List.mem_append_left _ (List.mem_append_left _ (List.mem_append_right _ (List.mem_append_right _ (List.mem_append_right _ (List.mem_append_right _ (List.mem_append_right _ (List.mem_append_right _ (List.mem_append_right _ (List.mem_append_right _ (List.mem_append_right _ (List.mem_append_right _ (List.mem_append_right _ (List.mem_append_right _ (List.mem_append_right _ (List.mem_append_right _ (List.mem_append_right _ (List.mem_append_right _ (List.mem_append_right _ (List.mem_append_right _ (List.mem_append_right _ (List.mem_append_right _ (List.mem_append_right _ (List.mem_append_right _ (List.mem_append_right _ (List.mem_append_right _ (List.mem_append_right _ (List.mem_append_right _ (List.mem_append_right _ (List.mem_append_right _ (List.mem_append_right _ (List.mem_append_right _ (List.mem_append_right _ (List.mem_append_right _ (List.mem_append_right _ (List.mem_append_right _ (List.mem_append_left _ h)))))))))))))))))))))))))))))))))))))))))))))))
theorem in_r36 : ∀ w ∈ wsL_law_r36, w ∈ wsL_law := fun _ h => List.mem_append_left _ (List.mem_append_left _ (List.mem_append_left _ (List.mem_append_left _ (List.mem_append_left _ (List.mem_append_left _ (List.mem_append_left _ (List.mem_append_left _ (List.mem_append_left _ (List.mem_append_left _ (List.mem_append_left _ (List.mem_append_left _ (List.mem_append_left _ (List.mem_append_right _ (List.mem_append_right _ (List.mem_append_right _ (List.mem_append_right _ (List.mem_append_right _ (List.mem_append_right _ (List.mem_append_right _ (List.mem_append_right _ (List.mem_append_right _ (List.mem_append_right _ (List.mem_append_right _ (List.mem_append_right _ (List.mem_append_right _ (List.mem_append_right _ (List.mem_append_right _ (List.mem_append_right _ (List.mem_append_right _ (List.mem_append_right _ (List.mem_append_right _ (List.mem_append_right _ (List.mem_append_right _ (List.mem_append_right _ (List.mem_append_right _ (List.mem_append_right _ (List.mem_append_right _ (List.mem_append_right _ (List.mem_append_right _ (List.mem_append_right _ (List.mem_append_right _ (List.mem_append_right _ (List.mem_append_right _ (List.mem_append_right _ (List.mem_append_right _ (List.mem_append_right _ (List.mem_append_right _ (List.mem_append_left _ h))))))))))))))))))))))))))))))))))))))))))))))))
theorem in_r37 : ∀ w ∈ wsL_law_r37, w ∈ wsL_law := fun _ h => List.mem_append_left _ (List.mem_append_left _ (List.mem_append_left _ (List.mem_append_left _ (List.mem_append_left _ (List.mem_append_left _ (List.mem_append_left _ (List.mem_append_left _ (List.mem_append_left _ (List.mem_append_left _ (List.mem_append_left _ (List.mem_append_left _ (List.mem_append_left _ (List.mem_append_right _ (List.mem_append_right _ (List.mem_append_right _ (List.mem_append_right _ (List.mem_append_right _ (List.mem_append_right _ (List.mem_append_right _ (List.mem_append_right _ (List.mem_append_right _ (List.mem_append_right _ (List.mem_append_right _ (List.mem_append_right _ (List.mem_append_right _ (List.mem_append_right _ (List.mem_append_right _ (List.mem_append_right _ (List.mem_append_right _ (List.mem_append_right _ (List.mem_append_right _ (List.mem_append_right _ (List.mem_append_right _ (List.mem_append_right _ (List.mem_append_right _ (List.mem_append_right _ (List.mem_append_right _ (List.mem_append_right _ (List.mem_append_right _ (List.mem_append_right _ (List.mem_append_right _ (List.mem_append_right _ (List.mem_append_right _ (List.mem_append_right _ (List.mem_append_right _ (List.mem_append_right _ (List.mem_append_right _ (List.mem_append_right _ (List.mem_append_left _ h)))))))))))))))))))))))))))))))))))))))))))))))))
theorem in_r38 : ∀ w ∈ wsL_law_r38, w ∈ wsL_law := fun _ h => List.mem_append_left _ (List.mem_append_left _ (List.mem_append_left _ (List.mem_append_left _ (List.mem_append_left _ (List.mem_append_left _ (List.mem_append_left _ (List.mem_append_left _ (List.mem_append_left _ (List.mem_append_left _ (List.mem_append_left _ (List.mem_append_left _ (List.mem_append_left _ (List.mem_append_right _ (List.mem_append_right _ (List.mem_append_right _ (List.mem_append_right _ (List.mem_append_right _ (List.mem_append_right _ (List.mem_append_right _ (List.mem_append_right _ (List.mem_append_right _ (List.mem_append_right _ (List.mem_append_right _ (List.mem_append_right _ (List.mem_append_right _ (List.mem_append_right _ (List.mem_append_right _ (List.mem_append_right _ (List.mem_append_right _ (List.mem_append_right _ (List.mem_append_right _ (List.mem_append_right _ (List.mem_append_right _ (List.mem_append_right _ (List.mem_append_right _ (List.mem_append_right _ (List.mem_append_right _ (List.mem_append_right _ (List.mem_append_right _ (List.mem_append_right _ (List.mem_append_right _ (List.mem_append_right _ (List.mem_append_right _ (List.mem_append_right _ (List.mem_append_right _ (List.mem_append_right _ (List.mem_append_right _ (List.mem_append_right _ (List.mem_append_right _ (List.mem_append_left _ h))))))))))))))))))))))))))))))))))))))))))))))))))
theorem in_r39 : ∀ w ∈ wsL_law_r39, w ∈ wsL_law := fun _ h => List.mem_append_left _ (List.mem_append_left _ (List.mem_append_left _ (List.mem_append_left _ (List.mem_append_left _ (List.mem_append_left _ (List.mem_append_left _ (List.mem_append_left _ (List.mem_append_left _ (List.mem_append_left _ (List.mem_append_left _ (List.mem_append_left _ (List.mem_append_left _ (List.mem_append_right _ (List.mem_append_right _ (List.mem_append_right _ (List.mem_append_right _ (List.mem_append_right _ (List.mem_append_right _ (List.mem_append_right _ (List.mem_append_right _ (List.mem_append_right _ (List.mem_append_right _ (List.mem_append_right _ (List.mem_append_right _ (List.mem_append_right _ (List.mem_append_right _ (List.mem_append_right _ (List.mem_append_right _ (List.mem_append_right _ (List.mem_append_right _ (List.mem_append_right _ (List.mem_append_right _ (List.mem_append_right _ (List.mem_append_right _ (List.mem_append_right _ (List.mem_append_right _ (List.mem_append_right _ (List.mem_append_right _ (List.mem_append_right _ (List.mem_append_right _ (List.mem_append_right _ (List.mem_append_right _ (List.mem_append_right _ (List.mem_append_right _ (List.mem_append_right _ (List.mem_append_right _ (List.mem_append_right _ (List.mem_append_right _ (List.mem_append_right _ (List.mem_append_right _ (List.mem_append_left _ h)))))))))))))))))))))))))))))))))))))))))))))))))))
theorem in_r40 : ∀ w ∈ wsL_law_r40, w ∈ wsL_law := fun _ h => List.mem_append_left _ (List.mem_append_left _ (List.mem_append_left _ (List.mem_append_left _ (List.mem_append_left _ (List.mem_append_left _ (List.mem_append_left _ (List.mem_append_left _ (List.mem_append_left _ (List.mem_append_left _ (List.mem_append_left _ (List.mem_append_left _ (List.mem_append_left _ (List.mem_append_right _ (List.mem_append_right _ (List.mem_append_right _ (List.mem_append_right _ (List.mem_append_right _ (List.mem_append_right _ (List.mem_append_right _ (List.mem_append_right _ (List.mem_append_right _ (List.mem_append_right _ (List.mem_append_right _ (List.mem_append_right _ (List.mem_append_right _ (List.mem_append_right _ (List.mem_append_right _ (List.mem_append_right _ (List.mem_append_right _ (List.mem_append_right _ (List.mem_append_right _ (List.mem_append_right _ (List.mem_append_right _ (List.mem_append_right _ (List.mem_append_right _ (List.mem_append_right _ (List.mem_append_right _ (List.mem_append_right _ (List.mem_append_right _ (List.mem_append_right _ (List.mem_append_right _ (List.mem_append_right _ (List.mem_append_right _ (List.mem_append_right _ (List.mem_append_right _ (List.mem_append_right _ (List.mem_append_right _ (List.mem_append_right _ (List.mem_append_right _ (List.mem_append_right _ (List.mem_append_right _ (List.mem_append_left _ h))))))))))))))))))))))))))))))))))))))))))))))))))))
theorem in_r41 : ∀ w ∈ wsL_law_r41, w ∈ wsL_law := fun _ h => List.mem_append_left _ (List.mem_append_left _ (List.mem_append_left _ (List.mem_append_left _ (List.mem_append_left _ (List.mem_append_left _ (List.mem_append_left _ (List.mem_append_left _ (List.mem_append_left _ (List.mem_append_left _ (List.mem_append_left _ (List.mem_append_left _ (List.mem_append_left _ (List.mem_append_right _ (List.mem_append_right _ (List.mem_append_right _ (List.mem_append_right _ (List.mem_append_right _ (List.mem_append_right _ (List.mem_append_right _ (List.mem_append_right _ (List.mem_append_right _ (List.mem_append_right _ (List.mem_append_right _ (List.mem_append_right _ (List.mem_append_right _ (List.mem_append_right _ (List.mem_append_right _ (List.mem_append_right _ (List.mem_append_right _ (List.mem_append_right _ (List.mem_append_right _ (List.mem_append_right _ (List.mem_append_right _ (List.mem_append_right _ (List.mem_append_right _ (List.mem_append_right _ (List.mem_append_right _ (List.mem_append_right _ (List.mem_append_right _ (List.mem_append_right _ (List.mem_append_right _ (List.mem_append_right _ (List.mem_append_right _ (List.mem_append_right _ (List.mem_append_right _ (List.mem_append_right _ (List.mem_append_right _ (List.mem_append_right _ (List.mem_append_right _ (List.mem_append_right _ (List.mem_append_right _ (List.mem_append_right _ (List.mem_append_left _ h)))))))))))))))))))))))))))))))))))))))))))))))))))))
theorem in_r42 : ∀ w ∈ wsL_law_r42, w ∈ wsL_law := fun _ h => List.mem_append_left _ (List.mem_append_left _ (List.mem_append_left _ (List.mem_append_left _ (List.mem_append_left _ (List.mem_append_left _ (List.mem_append_left _ (List.mem_append_left _ (List.mem_append_left _ (List.mem_append_left _ (List.mem_append_left _ (List.mem_append_left _ (List.mem_append_left _ (List.mem_append_right _ (List.mem_append_right _ (List.mem_append_right _ (List.mem_append_right _ (List.mem_append_right _ (List.mem_append_right _ (List.mem_append_right _ (List.mem_append_right _ (List.mem_append_right _ (List.mem_append_right _ (List.mem_append_right _ (List.mem_append_right _ (List.mem_append_right _ (List.mem_append_right _ (List.mem_append_right _ (List.mem_append_right _ (List.mem_append_right _ (List.mem_append_right _ (List.mem_append_right _ (List.mem_append_right _ (List.mem_append_right _ (List.mem_append_right _ (List.mem_append_right _ (List.mem_append_right _ (List.mem_append_right _ (List.mem_append_right _ (List.mem_append_right _ (List.mem_append_right _ (List.mem_append_right _ (List.mem_append_right _ (List.mem_append_right _ (List.mem_append_right _ (List.mem_append_right _ (List.mem_append_right _ (List.mem_append_right _ (List.mem_append_right _ (List.mem_append_right _ (List.mem_append_right _ (List.mem_append_right _ (List.mem_append_right _ (List.mem_append_right _ (List.mem_append_left _ h))))))))))))))))))))))))))))))))))))))))))))))))))))))
theorem in_r43 : ∀ w ∈ wsL_law_r43, w ∈ wsL_law := fun _ h => List.mem_append_left _ (List.mem_append_left _ (List.mem_append_left _ (List.mem_append_left _ (List.mem_append_left _ (List.mem_append_left _ (List.mem_append_left _ (List.mem_append_left _ (List.mem_append_left _ (List.mem_append_left _ (List.mem_append_left _ (List.mem_append_left _ (List.mem_append_left _ (List.mem_append_right _ (List.mem_append_right _ (List.mem_append_right _ (List.mem_append_right _ (List.mem_append_right _ (List.mem_append_right _ (List.mem_append_right _ (List.mem_append_right _ (List.mem_append_right _ (List.mem_append_right _ (List.mem_append_right _ (List.mem_append_right _ (List.mem_append_right _ (List.mem_append_right _ (List.mem_append_right _ (List.mem_append_right _ (List.mem_append_right _ (List.mem_append_right _ (List.mem_append_right _ (List.mem_append_right _ (List.mem_append_right _ (List.mem_append_right _ (List.mem_append_right _ (List.mem_append_right _ (List.mem_append_right _ (List.mem_append_right _ (List.mem_append_right _ (List.mem_append_right _ (List.mem_append_right _ (List.mem_append_right _ (List.mem_append_right _ (List.mem_append_right _ (List.mem_append_right _ (List.mem_append_right _ (List.mem_append_right _ (List.mem_append_right _ (List.mem_append_right _ (List.mem_append_right _ (List.mem_append_right _ (List.mem_append_right _ (List.mem_append_right _ (List.mem_append_right _ (List.mem_append_left _ h)))))))))))))))))))))))))))))))))))))))))))))))))))))))
theorem in_r44 : ∀ w ∈ wsL_law_r44, w ∈ wsL_law := fun _ h => List.mem_append_left _ (List.mem_append_left _ (List.mem_append_left _ (List.mem_append_left _ (List.mem_append_left _ (List.mem_append_left _ (List.mem_append_left _ (List.mem_append_left _ (List.mem_append_left _ (List.mem_append_left _ (List.mem_append_left _ (List.mem_append_left _ (List.mem_append_left _ (List.mem_append_right _ (List.mem_append_right _ (List.mem_append_right _ (List.mem_append_right _ (List.mem_append_right _ (List.mem_append_right _ (List.mem_append_right _ (List.mem_append_right _ (List.mem_append_right _ (List.mem_append_right _ (List.mem_append_right _ (List.mem_append_right _ (List.mem_append_right _ (List.mem_append_right _ (List.mem_append_right _ (List.mem_append_right _ (List.mem_append_right _ (List.mem_append_right _ (List.mem_append_right _ (List.mem_append_right _ (List.mem_append_right _ (List.mem_append_right _ (List.mem_append_right _ (List.mem_append_right _ (List.mem_append_right _ (List.mem_append_right _ (List.mem_append_right _ (List.mem_append_right _ (List.mem_append_right _ (List.mem_append_right _ (List.mem_append_right _ (List.mem_append_right _ (List.mem_append_right _ (List.mem_append_right _ (List.mem_append_right _ (List.mem_append_right _ (List.mem_append_right _ (List.mem_append_right _ (List.mem_append_right _ (List.mem_append_right _ (List.mem_append_right _ (List.mem_append_right _ (List.mem_append_right _ (List.mem_append_left _ h))))))))))))))))))))))))))))))))))))))))))))))))))))))))
theorem in_r45 : ∀ w ∈ wsL_law_r45, w ∈ wsL_law := fun _ h => List.mem_append_left _ (List.mem_append_left _ (List.mem_append_left _ (List.mem_append_left _ (List.mem_append_left _ (List.mem_append_left _ (List.mem_append_left _ (List.mem_append_left _ (List.mem_append_left _ (List.mem_append_left _ (List.mem_append_left _ (List.mem_append_left _ (List.mem_append_left _ (List.mem_append_right _ (List.mem_append_right _ (List.mem_append_right _ (List.mem_append_right _ (List.mem_append_right _ (List.mem_append_right _ (List.mem_append_right _ (List.mem_append_right _ (List.mem_append_right _ (List.mem_append_right _ (List.mem_append_right _ (List.mem_append_right _ (List.mem_append_right _ (List.mem_append_right _ (List.mem_append_right _ (List.mem_append_right _ (List.mem_append_right _ (List.mem_append_right _ (List.mem_append_right _ (List.mem_append_right _ (List.mem_append_right _ (List.mem_append_right _ (List.mem_append_right _ (List.mem_append_right _ (List.mem_append_right _ (List.mem_append_right _ (List.mem_append_right _ (List.mem_append_right _ (List.mem_append_right _ (List.mem_append_right _ (List.mem_append_right _ (List.mem_append_right _ (List.mem_append_right _ (List.mem_append_right _ (List.mem_append_right _ (List.mem_append_right _ (List.mem_append_right _ (List.mem_append_right _ (List.mem_append_right _ (List.mem_append_right _ (List.mem_append_right _ (List.mem_append_right _ (List.mem_append_right _ (List.mem_append_right _ (List.mem_append_left _ h)))))))))))))))))))))))))))))))))))))))))))))))))))))))))
theorem in_r46 : ∀ w ∈ wsL_law_r46, w ∈ wsL_law := fun _ h => List.mem_append_left _ (List.mem_append_left _ (List.mem_append_left _ (List.mem_append_left _ (List.mem_append_left _ (List.mem_append_left _ (List.mem_append_left _ (List.mem_append_left _ (List.mem_append_left _ (List.mem_append_left _ (List.mem_append_left _ (List.mem_append_left _ (List.mem_append_left _ (List.mem_append_right _ (List.mem_append_right _ (List.mem_append_right _ (List.mem_append_right _ (List.mem_append_right _ (List.mem_append_right _ (List.mem_append_right _ (List.mem_append_right _ (List.mem_append_right _ (List.mem_append_right _ (List.mem_append_right _ (List.mem_append_right _ (List.mem_append_right _ (List.mem_append_right _ (List.mem_append_right _ (List.mem_append_right _ (List.mem_append_right _ (List.mem_append_right _ (List.mem_append_right _ (List.mem_append_right _ (List.mem_append_right _ (List.mem_append_right _ (List.mem_append_right _ (List.mem_append_right _ (List.mem_append_right _ (List.mem_append_right _ (List.mem_append_right _ (List.mem_append_right _ (List.mem_append_right _ (List.mem_append_right _ (List.mem_append_right _ (List.mem_append_right _ (List.mem_append_right _ (List.mem_append_right _ (List.mem_append_right _ (List.mem_append_right _ (List.mem_append_right _ (List.mem_append_right _ (List.mem_append_right _ (List.mem_append_right _ (List.mem_append_right _ (List.mem_append_right _ (List.mem_append_right _ (List.mem_append_right _ (List.mem_append_right _ (List.mem_append_left _ h))))))))))))))))))))))))))))))))))))))))))))))))))))))))))
theorem in_r47 : ∀ w ∈ wsL_law_r47, w ∈ wsL_law := fun _ h => List.mem_append_left _ (List.mem_append_left _ (List.mem_append_left _ (List.mem_append_left _ (List.mem_append_left _ (List.mem_append_left _ (List.mem_append_left _ (List.mem_append_left _ (List.mem_append_left _ (List.mem_append_left _ (List.mem_append_left _ (List.mem_append_left _ (List.mem_append_left _ (List.mem_append_right _ (List.mem_append_right _ (List.mem_append_right _ (List.mem_append_right _ (List.mem_append_right _ (List.mem_append_right _ (List.mem_append_right _ (List.mem_append_right _ (List.mem_append_right _ (List.mem_append_right _ (List.mem_append_right _ (List.mem_append_right _ (List.mem_append_right _ (List.mem_append_right _ (List.mem_append_right _ (List.mem_append_right _ (List.mem_append_right _ (List.mem_append_right _ (List.mem_append_right _ (List.mem_append_right _ (List.mem_append_right _ (List.mem_append_right _ (List.mem_append_right _ (List.mem_append_right _ (List.mem_append_right _ (List.mem_append_right _ (List.mem_append_right _ (List.mem_append_right _ (List.mem_append_right _ (List.mem_append_right _ (List.mem_append_right _ (List.mem_append_right _ (List.mem_append_right _ (List.mem_append_right _ (List.mem_append_right _ (List.mem_append_right _ (List.mem_append_right _ (List.mem_append_right _ (List.mem_append_right _ (List.mem_append_right _ (List.mem_append_right _ (List.mem_append_right _ (List.mem_append_right _ (List.mem_append_right _ (List.mem_append_right _ (List.mem_append_right _ (List.mem_append_left _ h)))))))))))))))))))))))))))))))))))))))))))))))))))))))))))
theorem in_r48 : ∀ w ∈ wsL_law_r48, w ∈ wsL_law := fun _ h => List.mem_append_left _ (List.mem_append_left _ (List.mem_append_left _ (List.mem_append_left _ (List.mem_append_left _ (List.mem_append_left _ (List.mem_append_left _ (List.mem_append_left _ (List.mem_append_left _ (List.mem_append_left _ (List.mem_append_left _ (List.mem_append_left _ (List.mem_append_left _ (List.mem_append_right _ (List.mem_append_right _ (List.mem_append_right _ (List.mem_append_right _ (List.mem_append_right _ (List.mem_append_right _ (List.mem_append_right _ (List.mem_append_right _ (List.mem_append_right _ (List.mem_append_right _ (List.mem_append_right _ (List.mem_append_right _ (List.mem_append_right _ (List.mem_append_right _ (List.mem_append_right _ (List.mem_append_right _ (List.mem_append_right _ (List.mem_append_right _ (List.mem_append_right _ (List.mem_append_right _ (List.mem_append_right _ (List.mem_append_right _ (List.mem_append_right _ (List.mem_append_right _ (List.mem_append_right _ (List.mem_append_right _ (List.mem_append_right _ (List.mem_append_right _ (List.mem_append_right _ (List.mem_append_right _ (List.mem_append_right _ (List.mem_append_right _ (List.mem_append_right _ (List.mem_append_right _ (List.mem_append_right _ (List.mem_append_right _ (List.mem_append_right _ (List.mem_append_right _ (List.mem_append_right _ (List.mem_append_right _ (List.mem_append_right _ (List.mem_append_right _ (List.mem_append_right _ (List.mem_append_right _ (List.mem_append_right _ (List.mem_append_right _ (List.mem_append_right _ (List.mem_append_left _ h))))))))))))))))))))))))))))))))))))))))))))))))))))))))))))
theorem in_r49 : ∀ w ∈ wsL_law_r49, w ∈ wsL_law := fun _ h => List.mem_append_left _ (List.mem_append_left _ (List.mem_append_left _ (List.mem_append_left _ (List.mem_append_left _ (List.mem_append_left _ (List.mem_append_left _ (List.mem_append_left _ (List.mem_append_left _ (List.mem_append_left _ (List.mem_append_left _ (List.mem_append_left _ (List.mem_append_left _ (List.mem_append_right _ (List.mem_append_right _ (List.mem_append_right _ (List.mem_append_right _ (List.mem_append_right _ (List.mem_append_right _ (List.mem_append_right _ (List.mem_append_right _ (List.mem_append_right _ (List.mem_append_right _ (List.mem_append_right _ (List.mem_append_right _ (List.mem_append_right _ (List.mem_append_right _ (List.mem_append_right _ (List.mem_append_right _ (List.mem_append_right _ (List.mem_append_right _ (List.mem_append_right _ (List.mem_append_right _ (List.mem_append_right _ (List.mem_append_right _ (List.mem_append_right _ (List.mem_append_right _ (List.mem_append_right _ (List.mem_append_right _ (List.mem_append_right _ (List.mem_append_right _ (List.mem_append_right _ (List.mem_append_right _ (List.mem_append_right _ (List.mem_append_right _ (List.mem_append_right _ (List.mem_append_right _ (List.mem_append_right _ (List.mem_append_right _ (List.mem_append_right _ (List.mem_append_right _ (List.mem_append_right _ (List.mem_append_right _ (List.mem_append_right _ (List.mem_append_right _ (List.mem_append_right _ (List.mem_append_right _ (List.mem_append_right _ (List.mem_append_right _ (List.mem_append_right _ (List.mem_append_right _ (List.mem_append_left _ h)))))))))))))))))))))))))))))))))))))))))))))))))))))))))))))
theorem in_r50 : ∀ w ∈ wsL_law_r50, w ∈ wsL_law := fun _ h => List.mem_append_left _ (List.mem_append_left _ (List.mem_append_left _ (List.mem_append_left _ (List.mem_append_left _ (List.mem_append_left _ (List.mem_append_left _ (List.mem_append_left _ (List.mem_append_left _ (List.mem_append_left _ (List.mem_append_left _ (List.mem_append_left _ (List.mem_append_left _ (List.mem_append_right _ (List.mem_append_right _ (List.mem_append_right _ (List.mem_append_right _ (List.mem_append_right _ (List.mem_append_right _ (List.mem_append_right _ (List.mem_append_right _ (List.mem_append_right _ (List.mem_append_right _ (List.mem_append_right _ (List.mem_append_right _ (List.mem_append_right _ (List.mem_append_right _ (List.mem_append_right _ (List.mem_append_right _ (List.mem_append_right _ (List.mem_append_right _ (List.mem_append_right _ (List.mem_append_right _ (List.mem_append_right _ (List.mem_append_right _ (List.mem_append_right _ (List.mem_append_right _ (List.mem_append_right _ (List.mem_append_right _ (List.mem_append_right _ (List.mem_append_right _ (List.mem_append_right _ (List.mem_append_right _ (List.mem_append_right _ (List.mem_append_right _ (List.mem_append_right _ (List.mem_append_right _ (List.mem_append_right _ (List.mem_append_right _ (List.mem_append_right _ (List.mem_append_right _ (List.mem_append_right _ (List.mem_append_right _ (List.mem_append_right _ (List.mem_append_right _ (List.mem_append_right _ (List.mem_append_right _ (List.mem_append_right _ (List.mem_append_right _ (List.mem_append_right _ (List.mem_append_right _ (List.mem_append_right _ (h))))))))))))))))))))))))))))))))))))))))))))))))))))))))))))))
theorem mm_at {l : List Cond} {w : Cond} (i : Nat) (h : l[i]? = some w) : w ∈ l := List.mem_of_getElem? h
