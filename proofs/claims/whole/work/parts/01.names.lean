-- ===== PART A: goes FIRST, ahead of the names: the tables' words, and 'selects' of the private methods out of them =====
/-- a private method of a class that the tables say can be made, by its rows of tables_1 -/
def lw_okq (q : MethodName × Nat) : Prop := (q.1.cls ≠ "java/lang/invoke/MethodHandle" ∧ q.1.cls ≠ "java/lang/invoke/VarHandle") ∧ Cond.instantiable q.1.cls q.2 ∈ tables_1 ∧ Cond.privateMethod q.1 ∈ tables_1 ∧ Cond.instanceMethod q.1 ∈ tables_1
theorem lw_p0 : lw_okq (⟨"PalletRounds", "netTold", "()V"⟩, 9) := ⟨⟨by decide +kernel, by decide +kernel⟩, List.mem_of_getElem? (i := 15) (by decide +kernel), List.mem_of_getElem? (i := 267) (by decide +kernel), List.mem_of_getElem? (i := 268) (by decide +kernel)⟩
theorem lw_p1 : lw_okq (⟨"PalletRounds$Tours", "treesTo", "(LPalletRounds$Net;II)J"⟩, 7) := ⟨⟨by decide +kernel, by decide +kernel⟩, List.mem_of_getElem? (i := 72) (by decide +kernel), List.mem_of_getElem? (i := 293) (by decide +kernel), List.mem_of_getElem? (i := 294) (by decide +kernel)⟩
theorem lw_p2 : lw_okq (⟨"PalletRounds$Tours", "determinant", "(I)J"⟩, 7) := ⟨⟨by decide +kernel, by decide +kernel⟩, List.mem_of_getElem? (i := 72) (by decide +kernel), List.mem_of_getElem? (i := 305) (by decide +kernel), List.mem_of_getElem? (i := 306) (by decide +kernel)⟩
theorem lw_p3 : lw_okq (⟨"PalletRounds", "obey", "(I)Z"⟩, 9) := ⟨⟨by decide +kernel, by decide +kernel⟩, List.mem_of_getElem? (i := 15) (by decide +kernel), List.mem_of_getElem? (i := 394) (by decide +kernel), List.mem_of_getElem? (i := 395) (by decide +kernel)⟩
theorem lw_p4 : lw_okq (⟨"PalletRounds$States", "fillConstants", "(IIII)V"⟩, 11) := ⟨⟨by decide +kernel, by decide +kernel⟩, List.mem_of_getElem? (i := 103) (by decide +kernel), List.mem_of_getElem? (i := 455) (by decide +kernel), List.mem_of_getElem? (i := 456) (by decide +kernel)⟩
theorem lw_p5 : lw_okq (⟨"PalletRounds$States", "fillFactors", "(III)V"⟩, 11) := ⟨⟨by decide +kernel, by decide +kernel⟩, List.mem_of_getElem? (i := 103) (by decide +kernel), List.mem_of_getElem? (i := 462) (by decide +kernel), List.mem_of_getElem? (i := 463) (by decide +kernel)⟩
theorem lw_p6 : lw_okq (⟨"PalletRounds$States", "factorOf", "(III)J"⟩, 11) := ⟨⟨by decide +kernel, by decide +kernel⟩, List.mem_of_getElem? (i := 103) (by decide +kernel), List.mem_of_getElem? (i := 466) (by decide +kernel), List.mem_of_getElem? (i := 467) (by decide +kernel)⟩
theorem lw_p7 : lw_okq (⟨"PalletRounds$States", "addStation", "(II)V"⟩, 11) := ⟨⟨by decide +kernel, by decide +kernel⟩, List.mem_of_getElem? (i := 103) (by decide +kernel), List.mem_of_getElem? (i := 478) (by decide +kernel), List.mem_of_getElem? (i := 479) (by decide +kernel)⟩
theorem lw_p8 : lw_okq (⟨"PalletRounds$States", "waysTimes", "(IIII)J"⟩, 11) := ⟨⟨by decide +kernel, by decide +kernel⟩, List.mem_of_getElem? (i := 103) (by decide +kernel), List.mem_of_getElem? (i := 482) (by decide +kernel), List.mem_of_getElem? (i := 483) (by decide +kernel)⟩
theorem lw_p9 : lw_okq (⟨"PalletRounds", "readState", "(LPalletRounds$Sheet;)Z"⟩, 9) := ⟨⟨by decide +kernel, by decide +kernel⟩, List.mem_of_getElem? (i := 15) (by decide +kernel), List.mem_of_getElem? (i := 503) (by decide +kernel), List.mem_of_getElem? (i := 504) (by decide +kernel)⟩
theorem lw_p10 : lw_okq (⟨"PalletRounds$States", "takeIfGreater", "(J)V"⟩, 11) := ⟨⟨by decide +kernel, by decide +kernel⟩, List.mem_of_getElem? (i := 103) (by decide +kernel), List.mem_of_getElem? (i := 527) (by decide +kernel), List.mem_of_getElem? (i := 528) (by decide +kernel)⟩
theorem lw_p11 : lw_okq (⟨"PalletRounds", "rateOf", "(IIII)J"⟩, 9) := ⟨⟨by decide +kernel, by decide +kernel⟩, List.mem_of_getElem? (i := 15) (by decide +kernel), List.mem_of_getElem? (i := 551) (by decide +kernel), List.mem_of_getElem? (i := 552) (by decide +kernel)⟩
theorem lw_p12 : lw_okq (⟨"PalletRounds", "limitAbove", "(II)J"⟩, 9) := ⟨⟨by decide +kernel, by decide +kernel⟩, List.mem_of_getElem? (i := 15) (by decide +kernel), List.mem_of_getElem? (i := 559) (by decide +kernel), List.mem_of_getElem? (i := 560) (by decide +kernel)⟩
theorem lw_p13 : lw_okq (⟨"PalletRounds", "demandTogether", "(IZ)J"⟩, 9) := ⟨⟨by decide +kernel, by decide +kernel⟩, List.mem_of_getElem? (i := 15) (by decide +kernel), List.mem_of_getElem? (i := 563) (by decide +kernel), List.mem_of_getElem? (i := 564) (by decide +kernel)⟩
theorem lw_p14 : lw_okq (⟨"PalletRounds", "demandMost", "(I)J"⟩, 9) := ⟨⟨by decide +kernel, by decide +kernel⟩, List.mem_of_getElem? (i := 15) (by decide +kernel), List.mem_of_getElem? (i := 567) (by decide +kernel), List.mem_of_getElem? (i := 568) (by decide +kernel)⟩
theorem lw_p15 : lw_okq (⟨"PalletRounds", "limitBelow", "(II)J"⟩, 9) := ⟨⟨by decide +kernel, by decide +kernel⟩, List.mem_of_getElem? (i := 15) (by decide +kernel), List.mem_of_getElem? (i := 572) (by decide +kernel), List.mem_of_getElem? (i := 573) (by decide +kernel)⟩
def lw_privs_1 : List (MethodName × Nat) := [(⟨"PalletRounds", "netTold", "()V"⟩, 9), (⟨"PalletRounds$Tours", "treesTo", "(LPalletRounds$Net;II)J"⟩, 7), (⟨"PalletRounds$Tours", "determinant", "(I)J"⟩, 7), (⟨"PalletRounds", "obey", "(I)Z"⟩, 9), (⟨"PalletRounds$States", "fillConstants", "(IIII)V"⟩, 11), (⟨"PalletRounds$States", "fillFactors", "(III)V"⟩, 11), (⟨"PalletRounds$States", "factorOf", "(III)J"⟩, 11), (⟨"PalletRounds$States", "addStation", "(II)V"⟩, 11), (⟨"PalletRounds$States", "waysTimes", "(IIII)J"⟩, 11), (⟨"PalletRounds", "readState", "(LPalletRounds$Sheet;)Z"⟩, 9), (⟨"PalletRounds$States", "takeIfGreater", "(J)V"⟩, 11), (⟨"PalletRounds", "rateOf", "(IIII)J"⟩, 9), (⟨"PalletRounds", "limitAbove", "(II)J"⟩, 9), (⟨"PalletRounds", "demandTogether", "(IZ)J"⟩, 9), (⟨"PalletRounds", "demandMost", "(I)J"⟩, 9), (⟨"PalletRounds", "limitBelow", "(II)J"⟩, 9)]
theorem lw_r1 : ∀ q ∈ lw_privs_1, lw_okq q := List.forall_mem_cons.mpr ⟨lw_p0, List.forall_mem_cons.mpr ⟨lw_p1, List.forall_mem_cons.mpr ⟨lw_p2, List.forall_mem_cons.mpr ⟨lw_p3, List.forall_mem_cons.mpr ⟨lw_p4, List.forall_mem_cons.mpr ⟨lw_p5, List.forall_mem_cons.mpr ⟨lw_p6, List.forall_mem_cons.mpr ⟨lw_p7, List.forall_mem_cons.mpr ⟨lw_p8, List.forall_mem_cons.mpr ⟨lw_p9, List.forall_mem_cons.mpr ⟨lw_p10, List.forall_mem_cons.mpr ⟨lw_p11, List.forall_mem_cons.mpr ⟨lw_p12, List.forall_mem_cons.mpr ⟨lw_p13, List.forall_mem_cons.mpr ⟨lw_p14, List.forall_mem_cons.mpr ⟨lw_p15, fun _ h => absurd h List.not_mem_nil⟩⟩⟩⟩⟩⟩⟩⟩⟩⟩⟩⟩⟩⟩⟩⟩
theorem lw_p16 : lw_okq (⟨"PalletRounds", "hasten", "(II)V"⟩, 9) := ⟨⟨by decide +kernel, by decide +kernel⟩, List.mem_of_getElem? (i := 15) (by decide +kernel), List.mem_of_getElem? (i := 611) (by decide +kernel), List.mem_of_getElem? (i := 612) (by decide +kernel)⟩
theorem lw_p17 : lw_okq (⟨"PalletRounds$Truth", "arrive", "(LPalletRounds$Net;II)V"⟩, 12) := ⟨⟨by decide +kernel, by decide +kernel⟩, List.mem_of_getElem? (i := 143) (by decide +kernel), List.mem_of_getElem? (i := 635) (by decide +kernel), List.mem_of_getElem? (i := 636) (by decide +kernel)⟩
theorem lw_p18 : lw_okq (⟨"PalletRounds$Truth", "standLast", "(II)V"⟩, 12) := ⟨⟨by decide +kernel, by decide +kernel⟩, List.mem_of_getElem? (i := 143) (by decide +kernel), List.mem_of_getElem? (i := 640) (by decide +kernel), List.mem_of_getElem? (i := 641) (by decide +kernel)⟩
theorem lw_p19 : lw_okq (⟨"PalletRounds$Truth", "classOf", "(I)I"⟩, 12) := ⟨⟨by decide +kernel, by decide +kernel⟩, List.mem_of_getElem? (i := 143) (by decide +kernel), List.mem_of_getElem? (i := 644) (by decide +kernel), List.mem_of_getElem? (i := 645) (by decide +kernel)⟩
theorem lw_p20 : lw_okq (⟨"PalletRounds$Truth", "serve", "(II)V"⟩, 12) := ⟨⟨by decide +kernel, by decide +kernel⟩, List.mem_of_getElem? (i := 143) (by decide +kernel), List.mem_of_getElem? (i := 657) (by decide +kernel), List.mem_of_getElem? (i := 658) (by decide +kernel)⟩
theorem lw_p21 : lw_okq (⟨"PalletRounds$Truth", "work", "(II)Z"⟩, 12) := ⟨⟨by decide +kernel, by decide +kernel⟩, List.mem_of_getElem? (i := 143) (by decide +kernel), List.mem_of_getElem? (i := 661) (by decide +kernel), List.mem_of_getElem? (i := 662) (by decide +kernel)⟩
theorem lw_p22 : lw_okq (⟨"PalletRounds$Truth", "takeOut", "(II)V"⟩, 12) := ⟨⟨by decide +kernel, by decide +kernel⟩, List.mem_of_getElem? (i := 143) (by decide +kernel), List.mem_of_getElem? (i := 665) (by decide +kernel), List.mem_of_getElem? (i := 666) (by decide +kernel)⟩
theorem lw_p23 : lw_okq (⟨"PalletRounds$Truth", "drawGoal", "(LPalletRounds$Net;I)I"⟩, 12) := ⟨⟨by decide +kernel, by decide +kernel⟩, List.mem_of_getElem? (i := 143) (by decide +kernel), List.mem_of_getElem? (i := 669) (by decide +kernel), List.mem_of_getElem? (i := 670) (by decide +kernel)⟩
theorem lw_p24 : lw_okq (⟨"PalletRounds$Truth", "draw", "(I)I"⟩, 12) := ⟨⟨by decide +kernel, by decide +kernel⟩, List.mem_of_getElem? (i := 143) (by decide +kernel), List.mem_of_getElem? (i := 674) (by decide +kernel), List.mem_of_getElem? (i := 675) (by decide +kernel)⟩
theorem lw_p25 : lw_okq (⟨"PalletRounds", "homePasses", "(I)I"⟩, 9) := ⟨⟨by decide +kernel, by decide +kernel⟩, List.mem_of_getElem? (i := 15) (by decide +kernel), List.mem_of_getElem? (i := 700) (by decide +kernel), List.mem_of_getElem? (i := 701) (by decide +kernel)⟩
theorem lw_p26 : lw_okq (⟨"PalletRoundsModel", "ends", "()V"⟩, 42) := ⟨⟨by decide +kernel, by decide +kernel⟩, List.mem_of_getElem? (i := 767) (by decide +kernel), List.mem_of_getElem? (i := 918) (by decide +kernel), List.mem_of_getElem? (i := 919) (by decide +kernel)⟩
theorem lw_p27 : lw_okq (⟨"PalletRoundsModel", "isStation", "(I)Z"⟩, 42) := ⟨⟨by decide +kernel, by decide +kernel⟩, List.mem_of_getElem? (i := 767) (by decide +kernel), List.mem_of_getElem? (i := 926) (by decide +kernel), List.mem_of_getElem? (i := 927) (by decide +kernel)⟩
theorem lw_p28 : lw_okq (⟨"PalletRoundsModel", "clause", "()Z"⟩, 42) := ⟨⟨by decide +kernel, by decide +kernel⟩, List.mem_of_getElem? (i := 767) (by decide +kernel), List.mem_of_getElem? (i := 964) (by decide +kernel), List.mem_of_getElem? (i := 965) (by decide +kernel)⟩
theorem lw_p29 : lw_okq (⟨"PalletRoundsModel", "isDone", "(I)Z"⟩, 42) := ⟨⟨by decide +kernel, by decide +kernel⟩, List.mem_of_getElem? (i := 767) (by decide +kernel), List.mem_of_getElem? (i := 970) (by decide +kernel), List.mem_of_getElem? (i := 971) (by decide +kernel)⟩
theorem lw_p30 : lw_okq (⟨"PalletRoundsModel", "goesRound", "(I)Z"⟩, 42) := ⟨⟨by decide +kernel, by decide +kernel⟩, List.mem_of_getElem? (i := 767) (by decide +kernel), List.mem_of_getElem? (i := 990) (by decide +kernel), List.mem_of_getElem? (i := 991) (by decide +kernel)⟩
theorem lw_p31 : lw_okq (⟨"PalletRoundsModel", "reached", "(I)I"⟩, 42) := ⟨⟨by decide +kernel, by decide +kernel⟩, List.mem_of_getElem? (i := 767) (by decide +kernel), List.mem_of_getElem? (i := 994) (by decide +kernel), List.mem_of_getElem? (i := 995) (by decide +kernel)⟩
def lw_privs_2 : List (MethodName × Nat) := [(⟨"PalletRounds", "hasten", "(II)V"⟩, 9), (⟨"PalletRounds$Truth", "arrive", "(LPalletRounds$Net;II)V"⟩, 12), (⟨"PalletRounds$Truth", "standLast", "(II)V"⟩, 12), (⟨"PalletRounds$Truth", "classOf", "(I)I"⟩, 12), (⟨"PalletRounds$Truth", "serve", "(II)V"⟩, 12), (⟨"PalletRounds$Truth", "work", "(II)Z"⟩, 12), (⟨"PalletRounds$Truth", "takeOut", "(II)V"⟩, 12), (⟨"PalletRounds$Truth", "drawGoal", "(LPalletRounds$Net;I)I"⟩, 12), (⟨"PalletRounds$Truth", "draw", "(I)I"⟩, 12), (⟨"PalletRounds", "homePasses", "(I)I"⟩, 9), (⟨"PalletRoundsModel", "ends", "()V"⟩, 42), (⟨"PalletRoundsModel", "isStation", "(I)Z"⟩, 42), (⟨"PalletRoundsModel", "clause", "()Z"⟩, 42), (⟨"PalletRoundsModel", "isDone", "(I)Z"⟩, 42), (⟨"PalletRoundsModel", "goesRound", "(I)Z"⟩, 42), (⟨"PalletRoundsModel", "reached", "(I)I"⟩, 42)]
theorem lw_r2 : ∀ q ∈ lw_privs_2, lw_okq q := List.forall_mem_cons.mpr ⟨lw_p16, List.forall_mem_cons.mpr ⟨lw_p17, List.forall_mem_cons.mpr ⟨lw_p18, List.forall_mem_cons.mpr ⟨lw_p19, List.forall_mem_cons.mpr ⟨lw_p20, List.forall_mem_cons.mpr ⟨lw_p21, List.forall_mem_cons.mpr ⟨lw_p22, List.forall_mem_cons.mpr ⟨lw_p23, List.forall_mem_cons.mpr ⟨lw_p24, List.forall_mem_cons.mpr ⟨lw_p25, List.forall_mem_cons.mpr ⟨lw_p26, List.forall_mem_cons.mpr ⟨lw_p27, List.forall_mem_cons.mpr ⟨lw_p28, List.forall_mem_cons.mpr ⟨lw_p29, List.forall_mem_cons.mpr ⟨lw_p30, List.forall_mem_cons.mpr ⟨lw_p31, fun _ h => absurd h List.not_mem_nil⟩⟩⟩⟩⟩⟩⟩⟩⟩⟩⟩⟩⟩⟩⟩⟩
theorem lw_p32 : lw_okq (⟨"PalletRoundsModel", "from", "(II)I"⟩, 42) := ⟨⟨by decide +kernel, by decide +kernel⟩, List.mem_of_getElem? (i := 767) (by decide +kernel), List.mem_of_getElem? (i := 998) (by decide +kernel), List.mem_of_getElem? (i := 999) (by decide +kernel)⟩
theorem lw_p33 : lw_okq (⟨"PalletRoundsModel", "visit", "(I)V"⟩, 42) := ⟨⟨by decide +kernel, by decide +kernel⟩, List.mem_of_getElem? (i := 767) (by decide +kernel), List.mem_of_getElem? (i := 1010) (by decide +kernel), List.mem_of_getElem? (i := 1011) (by decide +kernel)⟩
theorem lw_p34 : lw_okq (⟨"PalletRoundsModel", "weights", "(II)I"⟩, 42) := ⟨⟨by decide +kernel, by decide +kernel⟩, List.mem_of_getElem? (i := 767) (by decide +kernel), List.mem_of_getElem? (i := 1014) (by decide +kernel), List.mem_of_getElem? (i := 1015) (by decide +kernel)⟩
theorem lw_p35 : lw_okq (⟨"PalletRoundsModel", "determinant", "(III)J"⟩, 42) := ⟨⟨by decide +kernel, by decide +kernel⟩, List.mem_of_getElem? (i := 767) (by decide +kernel), List.mem_of_getElem? (i := 1018) (by decide +kernel), List.mem_of_getElem? (i := 1019) (by decide +kernel)⟩
theorem lw_p36 : lw_okq (⟨"PalletRoundsModel", "entry", "(III)J"⟩, 42) := ⟨⟨by decide +kernel, by decide +kernel⟩, List.mem_of_getElem? (i := 767) (by decide +kernel), List.mem_of_getElem? (i := 1022) (by decide +kernel), List.mem_of_getElem? (i := 1023) (by decide +kernel)⟩
theorem lw_p37 : lw_okq (⟨"PalletRoundsModel", "timeOf", "(II)I"⟩, 42) := ⟨⟨by decide +kernel, by decide +kernel⟩, List.mem_of_getElem? (i := 767) (by decide +kernel), List.mem_of_getElem? (i := 1029) (by decide +kernel), List.mem_of_getElem? (i := 1030) (by decide +kernel)⟩
theorem lw_p38 : lw_okq (⟨"PalletRoundsModel", "isSound", "()Z"⟩, 42) := ⟨⟨by decide +kernel, by decide +kernel⟩, List.mem_of_getElem? (i := 767) (by decide +kernel), List.mem_of_getElem? (i := 1037) (by decide +kernel), List.mem_of_getElem? (i := 1038) (by decide +kernel)⟩
theorem lw_p39 : lw_okq (⟨"PalletRoundsModel", "constants", "(II)V"⟩, 42) := ⟨⟨by decide +kernel, by decide +kernel⟩, List.mem_of_getElem? (i := 767) (by decide +kernel), List.mem_of_getElem? (i := 1046) (by decide +kernel), List.mem_of_getElem? (i := 1047) (by decide +kernel)⟩
theorem lw_p40 : lw_okq (⟨"PalletRoundsModel", "grows", "(III)J"⟩, 42) := ⟨⟨by decide +kernel, by decide +kernel⟩, List.mem_of_getElem? (i := 767) (by decide +kernel), List.mem_of_getElem? (i := 1050) (by decide +kernel), List.mem_of_getElem? (i := 1051) (by decide +kernel)⟩
theorem lw_p41 : lw_okq (⟨"PalletRoundsModel", "choose", "(II)J"⟩, 42) := ⟨⟨by decide +kernel, by decide +kernel⟩, List.mem_of_getElem? (i := 767) (by decide +kernel), List.mem_of_getElem? (i := 1054) (by decide +kernel), List.mem_of_getElem? (i := 1055) (by decide +kernel)⟩
theorem lw_p42 : lw_okq (⟨"PalletRoundsModel", "heap", "(III)J"⟩, 42) := ⟨⟨by decide +kernel, by decide +kernel⟩, List.mem_of_getElem? (i := 767) (by decide +kernel), List.mem_of_getElem? (i := 1058) (by decide +kernel), List.mem_of_getElem? (i := 1059) (by decide +kernel)⟩
theorem lw_p43 : lw_okq (⟨"PalletRoundsModel", "whole", "(II)J"⟩, 42) := ⟨⟨by decide +kernel, by decide +kernel⟩, List.mem_of_getElem? (i := 767) (by decide +kernel), List.mem_of_getElem? (i := 1065) (by decide +kernel), List.mem_of_getElem? (i := 1066) (by decide +kernel)⟩
theorem lw_p44 : lw_okq (⟨"PalletRoundsModel", "readsState", "(I)Z"⟩, 42) := ⟨⟨by decide +kernel, by decide +kernel⟩, List.mem_of_getElem? (i := 767) (by decide +kernel), List.mem_of_getElem? (i := 1079) (by decide +kernel), List.mem_of_getElem? (i := 1080) (by decide +kernel)⟩
theorem lw_p45 : lw_okq (⟨"PalletRoundsModel", "weight", "()J"⟩, 42) := ⟨⟨by decide +kernel, by decide +kernel⟩, List.mem_of_getElem? (i := 767) (by decide +kernel), List.mem_of_getElem? (i := 1083) (by decide +kernel), List.mem_of_getElem? (i := 1084) (by decide +kernel)⟩
theorem lw_p46 : lw_okq (⟨"PalletRoundsModel", "likeliest", "()V"⟩, 42) := ⟨⟨by decide +kernel, by decide +kernel⟩, List.mem_of_getElem? (i := 767) (by decide +kernel), List.mem_of_getElem? (i := 1091) (by decide +kernel), List.mem_of_getElem? (i := 1092) (by decide +kernel)⟩
theorem lw_p47 : lw_okq (⟨"PalletRoundsModel", "walk", "(II)V"⟩, 42) := ⟨⟨by decide +kernel, by decide +kernel⟩, List.mem_of_getElem? (i := 767) (by decide +kernel), List.mem_of_getElem? (i := 1096) (by decide +kernel), List.mem_of_getElem? (i := 1097) (by decide +kernel)⟩
def lw_privs_3 : List (MethodName × Nat) := [(⟨"PalletRoundsModel", "from", "(II)I"⟩, 42), (⟨"PalletRoundsModel", "visit", "(I)V"⟩, 42), (⟨"PalletRoundsModel", "weights", "(II)I"⟩, 42), (⟨"PalletRoundsModel", "determinant", "(III)J"⟩, 42), (⟨"PalletRoundsModel", "entry", "(III)J"⟩, 42), (⟨"PalletRoundsModel", "timeOf", "(II)I"⟩, 42), (⟨"PalletRoundsModel", "isSound", "()Z"⟩, 42), (⟨"PalletRoundsModel", "constants", "(II)V"⟩, 42), (⟨"PalletRoundsModel", "grows", "(III)J"⟩, 42), (⟨"PalletRoundsModel", "choose", "(II)J"⟩, 42), (⟨"PalletRoundsModel", "heap", "(III)J"⟩, 42), (⟨"PalletRoundsModel", "whole", "(II)J"⟩, 42), (⟨"PalletRoundsModel", "readsState", "(I)Z"⟩, 42), (⟨"PalletRoundsModel", "weight", "()J"⟩, 42), (⟨"PalletRoundsModel", "likeliest", "()V"⟩, 42), (⟨"PalletRoundsModel", "walk", "(II)V"⟩, 42)]
theorem lw_r3 : ∀ q ∈ lw_privs_3, lw_okq q := List.forall_mem_cons.mpr ⟨lw_p32, List.forall_mem_cons.mpr ⟨lw_p33, List.forall_mem_cons.mpr ⟨lw_p34, List.forall_mem_cons.mpr ⟨lw_p35, List.forall_mem_cons.mpr ⟨lw_p36, List.forall_mem_cons.mpr ⟨lw_p37, List.forall_mem_cons.mpr ⟨lw_p38, List.forall_mem_cons.mpr ⟨lw_p39, List.forall_mem_cons.mpr ⟨lw_p40, List.forall_mem_cons.mpr ⟨lw_p41, List.forall_mem_cons.mpr ⟨lw_p42, List.forall_mem_cons.mpr ⟨lw_p43, List.forall_mem_cons.mpr ⟨lw_p44, List.forall_mem_cons.mpr ⟨lw_p45, List.forall_mem_cons.mpr ⟨lw_p46, List.forall_mem_cons.mpr ⟨lw_p47, fun _ h => absurd h List.not_mem_nil⟩⟩⟩⟩⟩⟩⟩⟩⟩⟩⟩⟩⟩⟩⟩⟩
theorem lw_p48 : lw_okq (⟨"PalletRoundsModel", "lays", "(III)V"⟩, 42) := ⟨⟨by decide +kernel, by decide +kernel⟩, List.mem_of_getElem? (i := 767) (by decide +kernel), List.mem_of_getElem? (i := 1100) (by decide +kernel), List.mem_of_getElem? (i := 1101) (by decide +kernel)⟩
theorem lw_p49 : lw_okq (⟨"PalletRoundsModel", "limit", "(III)J"⟩, 42) := ⟨⟨by decide +kernel, by decide +kernel⟩, List.mem_of_getElem? (i := 767) (by decide +kernel), List.mem_of_getElem? (i := 1113) (by decide +kernel), List.mem_of_getElem? (i := 1114) (by decide +kernel)⟩
theorem lw_p50 : lw_okq (⟨"PalletRoundsModel", "all", "(IZ)J"⟩, 42) := ⟨⟨by decide +kernel, by decide +kernel⟩, List.mem_of_getElem? (i := 767) (by decide +kernel), List.mem_of_getElem? (i := 1117) (by decide +kernel), List.mem_of_getElem? (i := 1118) (by decide +kernel)⟩
theorem lw_p51 : lw_okq (⟨"PalletRoundsModel", "rateAbove", "(III)J"⟩, 42) := ⟨⟨by decide +kernel, by decide +kernel⟩, List.mem_of_getElem? (i := 767) (by decide +kernel), List.mem_of_getElem? (i := 1121) (by decide +kernel), List.mem_of_getElem? (i := 1122) (by decide +kernel)⟩
theorem lw_p52 : lw_okq (⟨"PalletRoundsModel", "numberAbove", "(II)J"⟩, 42) := ⟨⟨by decide +kernel, by decide +kernel⟩, List.mem_of_getElem? (i := 767) (by decide +kernel), List.mem_of_getElem? (i := 1129) (by decide +kernel), List.mem_of_getElem? (i := 1130) (by decide +kernel)⟩
theorem lw_p53 : lw_okq (⟨"PalletRoundsModel", "busyAbove", "(I)J"⟩, 42) := ⟨⟨by decide +kernel, by decide +kernel⟩, List.mem_of_getElem? (i := 767) (by decide +kernel), List.mem_of_getElem? (i := 1137) (by decide +kernel), List.mem_of_getElem? (i := 1138) (by decide +kernel)⟩
theorem lw_p54 : lw_okq (⟨"PalletRoundsModel", "classOf", "(I)I"⟩, 42) := ⟨⟨by decide +kernel, by decide +kernel⟩, List.mem_of_getElem? (i := 767) (by decide +kernel), List.mem_of_getElem? (i := 1156) (by decide +kernel), List.mem_of_getElem? (i := 1157) (by decide +kernel)⟩
theorem lw_p55 : lw_okq (⟨"PalletRoundsModel", "comes", "(II)V"⟩, 42) := ⟨⟨by decide +kernel, by decide +kernel⟩, List.mem_of_getElem? (i := 767) (by decide +kernel), List.mem_of_getElem? (i := 1160) (by decide +kernel), List.mem_of_getElem? (i := 1161) (by decide +kernel)⟩
theorem lw_p56 : lw_okq (⟨"PalletRoundsModel", "turnOne", "()I"⟩, 42) := ⟨⟨by decide +kernel, by decide +kernel⟩, List.mem_of_getElem? (i := 767) (by decide +kernel), List.mem_of_getElem? (i := 1169) (by decide +kernel), List.mem_of_getElem? (i := 1170) (by decide +kernel)⟩
theorem lw_p57 : lw_okq (⟨"PalletRoundsModel", "serves", "(I)V"⟩, 42) := ⟨⟨by decide +kernel, by decide +kernel⟩, List.mem_of_getElem? (i := 767) (by decide +kernel), List.mem_of_getElem? (i := 1173) (by decide +kernel), List.mem_of_getElem? (i := 1174) (by decide +kernel)⟩
theorem lw_p58 : lw_okq (⟨"PalletRoundsModel", "isOver", "(II)Z"⟩, 42) := ⟨⟨by decide +kernel, by decide +kernel⟩, List.mem_of_getElem? (i := 767) (by decide +kernel), List.mem_of_getElem? (i := 1177) (by decide +kernel), List.mem_of_getElem? (i := 1178) (by decide +kernel)⟩
theorem lw_p59 : lw_okq (⟨"PalletRoundsModel", "goes", "(IIZ)V"⟩, 42) := ⟨⟨by decide +kernel, by decide +kernel⟩, List.mem_of_getElem? (i := 767) (by decide +kernel), List.mem_of_getElem? (i := 1181) (by decide +kernel), List.mem_of_getElem? (i := 1182) (by decide +kernel)⟩
theorem lw_p60 : lw_okq (⟨"PalletRoundsModel", "leads", "(II)I"⟩, 42) := ⟨⟨by decide +kernel, by decide +kernel⟩, List.mem_of_getElem? (i := 767) (by decide +kernel), List.mem_of_getElem? (i := 1185) (by decide +kernel), List.mem_of_getElem? (i := 1186) (by decide +kernel)⟩
theorem lw_p61 : lw_okq (⟨"PalletRoundsModel", "drawn", "(I)I"⟩, 42) := ⟨⟨by decide +kernel, by decide +kernel⟩, List.mem_of_getElem? (i := 767) (by decide +kernel), List.mem_of_getElem? (i := 1189) (by decide +kernel), List.mem_of_getElem? (i := 1190) (by decide +kernel)⟩
theorem lw_p62 : lw_okq (⟨"PalletRoundsModel", "inTruth", "()I"⟩, 42) := ⟨⟨by decide +kernel, by decide +kernel⟩, List.mem_of_getElem? (i := 767) (by decide +kernel), List.mem_of_getElem? (i := 1198) (by decide +kernel), List.mem_of_getElem? (i := 1199) (by decide +kernel)⟩
def lw_privs_4 : List (MethodName × Nat) := [(⟨"PalletRoundsModel", "lays", "(III)V"⟩, 42), (⟨"PalletRoundsModel", "limit", "(III)J"⟩, 42), (⟨"PalletRoundsModel", "all", "(IZ)J"⟩, 42), (⟨"PalletRoundsModel", "rateAbove", "(III)J"⟩, 42), (⟨"PalletRoundsModel", "numberAbove", "(II)J"⟩, 42), (⟨"PalletRoundsModel", "busyAbove", "(I)J"⟩, 42), (⟨"PalletRoundsModel", "classOf", "(I)I"⟩, 42), (⟨"PalletRoundsModel", "comes", "(II)V"⟩, 42), (⟨"PalletRoundsModel", "turnOne", "()I"⟩, 42), (⟨"PalletRoundsModel", "serves", "(I)V"⟩, 42), (⟨"PalletRoundsModel", "isOver", "(II)Z"⟩, 42), (⟨"PalletRoundsModel", "goes", "(IIZ)V"⟩, 42), (⟨"PalletRoundsModel", "leads", "(II)I"⟩, 42), (⟨"PalletRoundsModel", "drawn", "(I)I"⟩, 42), (⟨"PalletRoundsModel", "inTruth", "()I"⟩, 42)]
theorem lw_r4 : ∀ q ∈ lw_privs_4, lw_okq q := List.forall_mem_cons.mpr ⟨lw_p48, List.forall_mem_cons.mpr ⟨lw_p49, List.forall_mem_cons.mpr ⟨lw_p50, List.forall_mem_cons.mpr ⟨lw_p51, List.forall_mem_cons.mpr ⟨lw_p52, List.forall_mem_cons.mpr ⟨lw_p53, List.forall_mem_cons.mpr ⟨lw_p54, List.forall_mem_cons.mpr ⟨lw_p55, List.forall_mem_cons.mpr ⟨lw_p56, List.forall_mem_cons.mpr ⟨lw_p57, List.forall_mem_cons.mpr ⟨lw_p58, List.forall_mem_cons.mpr ⟨lw_p59, List.forall_mem_cons.mpr ⟨lw_p60, List.forall_mem_cons.mpr ⟨lw_p61, List.forall_mem_cons.mpr ⟨lw_p62, fun _ h => absurd h List.not_mem_nil⟩⟩⟩⟩⟩⟩⟩⟩⟩⟩⟩⟩⟩⟩⟩
def lw_privs : List (MethodName × Nat) := lw_privs_1 ++ (lw_privs_2 ++ (lw_privs_3 ++ (lw_privs_4)))
def lw_tbl : List Cond := k2_sels lw_privs ++ tables_1
theorem lw_privs_ok : ∀ q ∈ lw_privs, lw_okq q := by
  show ∀ q ∈ lw_privs_1 ++ (lw_privs_2 ++ (lw_privs_3 ++ (lw_privs_4))), lw_okq q
  exact List.forall_mem_append.mpr ⟨lw_r1, List.forall_mem_append.mpr ⟨lw_r2, List.forall_mem_append.mpr ⟨lw_r3, lw_r4⟩⟩⟩
def RX0 : String := "PalletRounds$Net"
def TX0 : u_T := fun k => match k with
  | 0 => ("PalletRounds$Net", "size", "I", false)
  | 1 => ("PalletRounds$Net", "kinds", "[I", true)
  | 2 => ("PalletRounds$Net", "times", "[I", true)
  | 3 => ("PalletRounds$Net", "homes", "[I", true)
  | 4 => ("PalletRounds$Net", "parts", "[I", true)
  | 5 => ("PalletRounds$Net", "weights", "[I", true)
  | _ => ("PalletRounds$Net", "pays", "[J", true)
def tyX0 : Nat → FieldType := fun k => match k with
  | 0 => .int
  | 1 => .array .int
  | 2 => .array .int
  | 3 => .array .int
  | 4 => .array .int
  | 5 => .array .int
  | _ => .array .long
abbrev wsX00 : List Cond := u_ws RX0 TX0 7
theorem nmX0 : ∀ a, a < 7 → ∀ b, b < 7 → a ≠ b → (TX0 a).2.1 ≠ (TX0 b).2.1 := by decide +kernel
theorem tyX0_ok : ∀ k, k < 7 → parseFieldDescriptor (TX0 k).2.2.1 = some (tyX0 k) := by decide +kernel
def RX1 : String := "PalletRounds$Sheet"
def TX1 : u_T := fun k => match k with
  | 0 => ("PalletRounds$Sheet", "sort", "I", false)
  | 1 => ("PalletRounds$Sheet", "size", "I", false)
  | _ => ("PalletRounds$Sheet", "items", "[J", true)
def tyX1 : Nat → FieldType := fun k => match k with
  | 0 => .int
  | 1 => .int
  | _ => .array .long
abbrev wsX10 : List Cond := u_ws RX1 TX1 3
theorem nmX1 : ∀ a, a < 3 → ∀ b, b < 3 → a ≠ b → (TX1 a).2.1 ≠ (TX1 b).2.1 := by decide +kernel
theorem tyX1_ok : ∀ k, k < 3 → parseFieldDescriptor (TX1 k).2.2.1 = some (tyX1 k) := by decide +kernel
def RX2 : String := "PalletRounds$States"
def TX2 : u_T := fun k => match k with
  | 0 => ("PalletRounds$States", "size", "I", false)
  | 1 => ("PalletRounds$States", "all0", "I", false)
  | 2 => ("PalletRounds$States", "all1", "I", false)
  | 3 => ("PalletRounds$States", "likeliestKnown", "Z", false)
  | 4 => ("PalletRounds$States", "greatest", "J", false)
  | 5 => ("PalletRounds$States", "walks", "[Z", true)
  | 6 => ("PalletRounds$States", "demands", "[J", true)
  | 7 => ("PalletRounds$States", "constants", "[J", true)
  | 8 => ("PalletRounds$States", "factors", "[J", true)
  | 9 => ("PalletRounds$States", "tried", "[I", true)
  | _ => ("PalletRounds$States", "likeliest", "[I", true)
def tyX2 : Nat → FieldType := fun k => match k with
  | 0 => .int
  | 1 => .int
  | 2 => .int
  | 3 => .boolean
  | 4 => .long
  | 5 => .array .boolean
  | 6 => .array .long
  | 7 => .array .long
  | 8 => .array .long
  | 9 => .array .int
  | _ => .array .int
abbrev wsX20 : List Cond := u_ws RX2 TX2 11
theorem nmX2 : ∀ a, a < 11 → ∀ b, b < 11 → a ≠ b → (TX2 a).2.1 ≠ (TX2 b).2.1 := by decide +kernel
theorem tyX2_ok : ∀ k, k < 11 → parseFieldDescriptor (TX2 k).2.2.1 = some (tyX2 k) := by decide +kernel
def RX3 : String := "PalletRounds$Tape"
def TX3 : u_T := fun k => match k with
  | 0 => ("PalletRounds$Tape", "size", "I", false)
  | _ => ("PalletRounds$Tape", "bytes", "[I", true)
def tyX3 : Nat → FieldType := fun k => match k with
  | 0 => .int
  | _ => .array .int
abbrev wsX30 : List Cond := u_ws RX3 TX3 2
theorem nmX3 : ∀ a, a < 2 → ∀ b, b < 2 → a ≠ b → (TX3 a).2.1 ≠ (TX3 b).2.1 := by decide +kernel
theorem tyX3_ok : ∀ k, k < 2 → parseFieldDescriptor (TX3 k).2.2.1 = some (tyX3 k) := by decide +kernel
def RX4 : String := "PalletRounds$Tours"
def TX4 : u_T := fun k => match k with
  | 0 => ("PalletRounds$Tours", "fit", "[Z", true)
  | 1 => ("PalletRounds$Tours", "reached", "[I", true)
  | 2 => ("PalletRounds$Tours", "round", "[Z", true)
  | 3 => ("PalletRounds$Tours", "visitRow", "[J", true)
  | 4 => ("PalletRounds$Tours", "demandRow", "[J", true)
  | 5 => ("PalletRounds$Tours", "others", "[I", true)
  | _ => ("PalletRounds$Tours", "cells", "[J", true)
def tyX4 : Nat → FieldType := fun k => match k with
  | 0 => .array .boolean
  | 1 => .array .int
  | 2 => .array .boolean
  | 3 => .array .long
  | 4 => .array .long
  | 5 => .array .int
  | _ => .array .long
abbrev wsX40 : List Cond := u_ws RX4 TX4 7
theorem nmX4 : ∀ a, a < 7 → ∀ b, b < 7 → a ≠ b → (TX4 a).2.1 ≠ (TX4 b).2.1 := by decide +kernel
theorem tyX4_ok : ∀ k, k < 7 → parseFieldDescriptor (TX4 k).2.2.1 = some (tyX4 k) := by decide +kernel
def RX5 : String := "PalletRounds$Truth"
def TX5 : u_T := fun k => match k with
  | 0 => ("PalletRounds$Truth", "begun", "Z", false)
  | 1 => ("PalletRounds$Truth", "people", "I", false)
  | 2 => ("PalletRounds$Truth", "ofClass0", "I", false)
  | 3 => ("PalletRounds$Truth", "turns", "I", false)
  | 4 => ("PalletRounds$Truth", "seed", "I", false)
  | 5 => ("PalletRounds$Truth", "leftNow", "I", false)
  | 6 => ("PalletRounds$Truth", "rows", "[I", true)
  | 7 => ("PalletRounds$Truth", "standing", "[I", true)
  | 8 => ("PalletRounds$Truth", "places", "[I", true)
  | 9 => ("PalletRounds$Truth", "rests", "[I", true)
  | 10 => ("PalletRounds$Truth", "passes", "[I", true)
  | _ => ("PalletRounds$Truth", "leavers", "[I", true)
def tyX5 : Nat → FieldType := fun k => match k with
  | 0 => .boolean
  | 1 => .int
  | 2 => .int
  | 3 => .int
  | 4 => .int
  | 5 => .int
  | 6 => .array .int
  | 7 => .array .int
  | 8 => .array .int
  | 9 => .array .int
  | 10 => .array .int
  | _ => .array .int
abbrev wsX50 : List Cond := u_ws RX5 TX5 12
theorem nmX5 : ∀ a, a < 12 → ∀ b, b < 12 → a ≠ b → (TX5 a).2.1 ≠ (TX5 b).2.1 := by decide +kernel
theorem tyX5_ok : ∀ k, k < 12 → parseFieldDescriptor (TX5 k).2.2.1 = some (tyX5 k) := by decide +kernel
def RX6 : String := "PalletRounds"
def TX6 : u_T := fun k => match k with
  | 0 => ("PalletRounds", "net", "LPalletRounds$Net;", true)
  | 1 => ("PalletRounds", "keptNet", "LPalletRounds$Net;", true)
  | 2 => ("PalletRounds", "imageKept", "Z", false)
  | 3 => ("PalletRounds", "tours", "LPalletRounds$Tours;", true)
  | 4 => ("PalletRounds", "states", "LPalletRounds$States;", true)
  | 5 => ("PalletRounds", "truth", "LPalletRounds$Truth;", true)
  | 6 => ("PalletRounds", "tape", "LPalletRounds$Tape;", true)
  | 7 => ("PalletRounds", "sheets", "[LPalletRounds$Sheet;", true)
  | _ => ("PalletRounds", "shown", "[I", true)
def tyX6 : Nat → FieldType := fun k => match k with
  | 0 => .object "PalletRounds$Net"
  | 1 => .object "PalletRounds$Net"
  | 2 => .boolean
  | 3 => .object "PalletRounds$Tours"
  | 4 => .object "PalletRounds$States"
  | 5 => .object "PalletRounds$Truth"
  | 6 => .object "PalletRounds$Tape"
  | 7 => .array (.object "PalletRounds$Sheet")
  | _ => .array .int
abbrev wsX60 : List Cond := u_ws RX6 TX6 9
theorem nmX6 : ∀ a, a < 9 → ∀ b, b < 9 → a ≠ b → (TX6 a).2.1 ≠ (TX6 b).2.1 := by decide +kernel
theorem tyX6_ok : ∀ k, k < 9 → parseFieldDescriptor (TX6 k).2.2.1 = some (tyX6 k) := by decide +kernel
def RX7 : String := "PalletRoundsModel"
def TX7 : u_T := fun k => match k with
  | 0 => ("PalletRoundsModel", "thrown", "I", false)
  | 1 => ("PalletRoundsModel", "stations", "I", false)
  | 2 => ("PalletRoundsModel", "kinds", "[I", true)
  | 3 => ("PalletRoundsModel", "times", "[I", true)
  | 4 => ("PalletRoundsModel", "homes", "[I", true)
  | 5 => ("PalletRoundsModel", "many", "[I", true)
  | 6 => ("PalletRoundsModel", "routes", "[I", true)
  | 7 => ("PalletRoundsModel", "pays", "[J", true)
  | 8 => ("PalletRoundsModel", "tape", "[I", true)
  | 9 => ("PalletRoundsModel", "taped", "I", false)
  | 10 => ("PalletRoundsModel", "at", "I", false)
  | 11 => ("PalletRoundsModel", "clauses", "I", false)
  | 12 => ("PalletRoundsModel", "letters", "[I", true)
  | 13 => ("PalletRoundsModel", "told", "[I", true)
  | 14 => ("PalletRoundsModel", "visits", "[J", true)
  | 15 => ("PalletRoundsModel", "demands", "[J", true)
  | 16 => ("PalletRoundsModel", "factorials", "[J", true)
  | 17 => ("PalletRoundsModel", "row", "[J", true)
  | 18 => ("PalletRoundsModel", "grown", "[J", true)
  | 19 => ("PalletRoundsModel", "state", "[I", true)
  | 20 => ("PalletRoundsModel", "heaviest", "J", false)
  | 21 => ("PalletRoundsModel", "likeliest", "[I", true)
  | 22 => ("PalletRoundsModel", "isBegun", "Z", false)
  | 23 => ("PalletRoundsModel", "turns", "I", false)
  | 24 => ("PalletRoundsModel", "standing", "[I", true)
  | 25 => ("PalletRoundsModel", "row0", "[I", true)
  | 26 => ("PalletRoundsModel", "rests", "[I", true)
  | 27 => ("PalletRoundsModel", "passed", "[I", true)
  | 28 => ("PalletRoundsModel", "seed", "I", false)
  | 29 => ("PalletRoundsModel", "leaving", "I", false)
  | 30 => ("PalletRoundsModel", "leavers", "[I", true)
  | 31 => ("PalletRoundsModel", "whence", "[I", true)
  | 32 => ("PalletRoundsModel", "stationsKept", "I", false)
  | 33 => ("PalletRoundsModel", "kindsKept", "[I", true)
  | 34 => ("PalletRoundsModel", "timesKept", "[I", true)
  | 35 => ("PalletRoundsModel", "homesKept", "[I", true)
  | 36 => ("PalletRoundsModel", "manyKept", "[I", true)
  | 37 => ("PalletRoundsModel", "routesKept", "[I", true)
  | 38 => ("PalletRoundsModel", "paysKept", "[J", true)
  | 39 => ("PalletRoundsModel", "sorts", "[I", true)
  | 40 => ("PalletRoundsModel", "sizes", "[I", true)
  | _ => ("PalletRoundsModel", "items", "[J", true)
def tyX7 : Nat → FieldType := fun k => match k with
  | 0 => .int
  | 1 => .int
  | 2 => .array .int
  | 3 => .array .int
  | 4 => .array .int
  | 5 => .array .int
  | 6 => .array .int
  | 7 => .array .long
  | 8 => .array .int
  | 9 => .int
  | 10 => .int
  | 11 => .int
  | 12 => .array .int
  | 13 => .array .int
  | 14 => .array .long
  | 15 => .array .long
  | 16 => .array .long
  | 17 => .array .long
  | 18 => .array .long
  | 19 => .array .int
  | 20 => .long
  | 21 => .array .int
  | 22 => .boolean
  | 23 => .int
  | 24 => .array .int
  | 25 => .array .int
  | 26 => .array .int
  | 27 => .array .int
  | 28 => .int
  | 29 => .int
  | 30 => .array .int
  | 31 => .array .int
  | 32 => .int
  | 33 => .array .int
  | 34 => .array .int
  | 35 => .array .int
  | 36 => .array .int
  | 37 => .array .int
  | 38 => .array .long
  | 39 => .array .int
  | 40 => .array .int
  | _ => .array .long
abbrev wsX70 : List Cond := u_ws RX7 TX7 42
theorem nmX7 : ∀ a, a < 42 → ∀ b, b < 42 → a ≠ b → (TX7 a).2.1 ≠ (TX7 b).2.1 := by decide +kernel
theorem tyX7_ok : ∀ k, k < 42 → parseFieldDescriptor (TX7 k).2.2.1 = some (tyX7 k) := by decide +kernel
def RJ6 : String := "java/lang/Integer"
def RJ13 : String := "java/lang/Long"
def RJ9 : String := "java/lang/Math"
def RJ10 : String := "java/lang/System"
def RJ7 : String := "java/util/Arrays"
def yX0_init : MethodName := ⟨RX0, "<init>", "()V"⟩
def yX0_takeFrom : MethodName := ⟨RX0, "takeFrom", "(LPalletRounds$Net;)V"⟩
def yX0_hasStation : MethodName := ⟨RX0, "hasStation", "(I)Z"⟩
def yX0_timeOf : MethodName := ⟨RX0, "timeOf", "(II)I"⟩
def yX0_weightOf : MethodName := ⟨RX0, "weightOf", "(III)I"⟩
def yX0_setWeight : MethodName := ⟨RX0, "setWeight", "(IIII)V"⟩
def yX0_weightsFrom : MethodName := ⟨RX0, "weightsFrom", "(II)I"⟩
def yX0_ledTo : MethodName := ⟨RX0, "ledTo", "(II)I"⟩
def yX0_countRoutes : MethodName := ⟨RX0, "countRoutes", "()I"⟩
def yX1_init : MethodName := ⟨RX1, "<init>", "()V"⟩
def yX1_become : MethodName := ⟨RX1, "become", "(II)V"⟩
def yX1_isMissing : MethodName := ⟨RX1, "isMissing", "()Z"⟩
def yX1_hasItem : MethodName := ⟨RX1, "hasItem", "(I)Z"⟩
def yX1_hasRun : MethodName := ⟨RX1, "hasRun", "(II)Z"⟩
def yX1_store : MethodName := ⟨RX1, "store", "(IJ)V"⟩
def yX2_init : MethodName := ⟨RX2, "<init>", "()V"⟩
def yX2_load : MethodName := ⟨RX2, "load", "(LPalletRounds$Net;LPalletRounds$Tours;)V"⟩
def yX2_lessen : MethodName := ⟨RX2, "lessen", "(IIJ)V"⟩
def yX2_constantOf : MethodName := ⟨RX2, "constantOf", "(III)J"⟩
def yX2_constantOfAll : MethodName := ⟨RX2, "constantOfAll", "()J"⟩
def yX2_rateAbove : MethodName := ⟨RX2, "rateAbove", "(I)J"⟩
def yX2_oneLessAbove : MethodName := ⟨RX2, "oneLessAbove", "(III)J"⟩
def yX2_busyAbove : MethodName := ⟨RX2, "busyAbove", "(I)J"⟩
def yX2_numberAbove : MethodName := ⟨RX2, "numberAbove", "(II)J"⟩
def yX2_weightOf : MethodName := ⟨RX2, "weightOf", "([I)J"⟩
def yX2_likeliestAt : MethodName := ⟨RX2, "likeliestAt", "(II)I"⟩
def yX2_tryPlace : MethodName := ⟨RX2, "tryPlace", "(LPalletRounds$States;IIIJ)V"⟩
def yX2_takeIfGreater : MethodName := ⟨RX2, "takeIfGreater", "(J)V"⟩
def yX2_fillConstants : MethodName := ⟨RX2, "fillConstants", "(IIII)V"⟩
def yX2_addStation : MethodName := ⟨RX2, "addStation", "(II)V"⟩
def yX2_waysTimes : MethodName := ⟨RX2, "waysTimes", "(IIII)J"⟩
def yX2_fillFactors : MethodName := ⟨RX2, "fillFactors", "(III)V"⟩
def yX2_factorOf : MethodName := ⟨RX2, "factorOf", "(III)J"⟩
def yX3_init : MethodName := ⟨RX3, "<init>", "()V"⟩
def yX3_hasRoom : MethodName := ⟨RX3, "hasRoom", "(I)Z"⟩
def yX3_append : MethodName := ⟨RX3, "append", "(I)V"⟩
def yX3_byteAt : MethodName := ⟨RX3, "byteAt", "(I)I"⟩
def yX3_digitAt : MethodName := ⟨RX3, "digitAt", "(I)I"⟩
def yX3_clauseSize : MethodName := ⟨RX3, "clauseSize", "(I)I"⟩
def yX3_faultPlace : MethodName := ⟨RX3, "faultPlace", "()I"⟩
def yX4_init : MethodName := ⟨RX4, "<init>", "()V"⟩
def yX4_visitsOf : MethodName := ⟨RX4, "visitsOf", "(II)J"⟩
def yX4_demandOf : MethodName := ⟨RX4, "demandOf", "(II)J"⟩
def yX4_reckon : MethodName := ⟨RX4, "reckon", "(LPalletRounds$Net;I)V"⟩
def yX4_isSound : MethodName := ⟨RX4, "isSound", "()Z"⟩
def yX4_hasBit : MethodName := ⟨RX4, "hasBit", "(II)Z"⟩
def yX4_findReached : MethodName := ⟨RX4, "findReached", "(LPalletRounds$Net;I)I"⟩
def yX4_findReturning : MethodName := ⟨RX4, "findReturning", "(LPalletRounds$Net;I)I"⟩
def yX4_treesTo : MethodName := ⟨RX4, "treesTo", "(LPalletRounds$Net;II)J"⟩
def yX4_determinant : MethodName := ⟨RX4, "determinant", "(I)J"⟩
def yX5_init : MethodName := ⟨RX5, "<init>", "()V"⟩
def yX5_forget : MethodName := ⟨RX5, "forget", "()V"⟩
def yX5_beginAtHomes : MethodName := ⟨RX5, "beginAtHomes", "(LPalletRounds$Net;)V"⟩
def yX5_turnOnce : MethodName := ⟨RX5, "turnOnce", "(LPalletRounds$Net;)I"⟩
def yX5_aheadOf : MethodName := ⟨RX5, "aheadOf", "(I)I"⟩
def yX5_classOf : MethodName := ⟨RX5, "classOf", "(I)I"⟩
def yX5_arrive : MethodName := ⟨RX5, "arrive", "(LPalletRounds$Net;II)V"⟩
def yX5_standLast : MethodName := ⟨RX5, "standLast", "(II)V"⟩
def yX5_serve : MethodName := ⟨RX5, "serve", "(II)V"⟩
def yX5_work : MethodName := ⟨RX5, "work", "(II)Z"⟩
def yX5_takeOut : MethodName := ⟨RX5, "takeOut", "(II)V"⟩
def yX5_drawGoal : MethodName := ⟨RX5, "drawGoal", "(LPalletRounds$Net;I)I"⟩
def yX5_draw : MethodName := ⟨RX5, "draw", "(I)I"⟩
def yX6_init : MethodName := ⟨RX6, "<init>", "()V"⟩
def yX6_station : MethodName := ⟨RX6, "station", "(III)I"⟩
def yX6_time : MethodName := ⟨RX6, "time", "(III)I"⟩
def yX6_becomes : MethodName := ⟨RX6, "becomes", "(II)I"⟩
def yX6_route : MethodName := ⟨RX6, "route", "(IIII)I"⟩
def yX6_home : MethodName := ⟨RX6, "home", "(II)I"⟩
def yX6_parts : MethodName := ⟨RX6, "parts", "(II)I"⟩
def yX6_pay : MethodName := ⟨RX6, "pay", "(IJ)J"⟩
def yX6_feed : MethodName := ⟨RX6, "feed", "(IIIIII)I"⟩
def yX6_text : MethodName := ⟨RX6, "text", "()I"⟩
def yX6_told : MethodName := ⟨RX6, "told", "(II)I"⟩
def yX6_taken : MethodName := ⟨RX6, "taken", "(II)I"⟩
def yX6_of : MethodName := ⟨RX6, "of", "(II)I"⟩
def yX6_visits : MethodName := ⟨RX6, "visits", "(III)J"⟩
def yX6_sound : MethodName := ⟨RX6, "sound", "()I"⟩
def yX6_constant : MethodName := ⟨RX6, "constant", "(IIII)J"⟩
def yX6_odds : MethodName := ⟨RX6, "odds", "(II)J"⟩
def yX6_likely : MethodName := ⟨RX6, "likely", "(II)I"⟩
def yX6_film : MethodName := ⟨RX6, "film", "(I)I"⟩
def yX6_rate : MethodName := ⟨RX6, "rate", "(III)J"⟩
def yX6_mean : MethodName := ⟨RX6, "mean", "(IIII)J"⟩
def yX6_busy : MethodName := ⟨RX6, "busy", "(II)J"⟩
def yX6_narrow : MethodName := ⟨RX6, "narrow", "()I"⟩
def yX6_swift : MethodName := ⟨RX6, "swift", "(I)I"⟩
def yX6_begin : MethodName := ⟨RX6, "begin", "()I"⟩
def yX6_turn : MethodName := ⟨RX6, "turn", "(I)I"⟩
def yX6_where : MethodName := ⟨RX6, "where", "(II)I"⟩
def yX6_stands : MethodName := ⟨RX6, "stands", "(II)I"⟩
def yX6_passed : MethodName := ⟨RX6, "passed", "(II)I"⟩
def yX6_earned : MethodName := ⟨RX6, "earned", "()J"⟩
def yX6_seed : MethodName := ⟨RX6, "seed", "(I)I"⟩
def yX6_image : MethodName := ⟨RX6, "image", "()I"⟩
def yX6_back : MethodName := ⟨RX6, "back", "()I"⟩
def yX6_count : MethodName := ⟨RX6, "count", "(I)I"⟩
def yX6_sheet : MethodName := ⟨RX6, "sheet", "(III)I"⟩
def yX6_put : MethodName := ⟨RX6, "put", "(IIJ)I"⟩
def yX6_item : MethodName := ⟨RX6, "item", "(II)J"⟩
def yX6_copy : MethodName := ⟨RX6, "copy", "(IIIII)I"⟩
def yX6_lay : MethodName := ⟨RX6, "lay", "(IIIII)I"⟩
def yX6_isClass : MethodName := ⟨RX6, "isClass", "(I)Z"⟩
def yX6_isKind : MethodName := ⟨RX6, "isKind", "(I)Z"⟩
def yX6_isTime : MethodName := ⟨RX6, "isTime", "(I)Z"⟩
def yX6_isByte : MethodName := ⟨RX6, "isByte", "(I)Z"⟩
def yX6_isLine : MethodName := ⟨RX6, "isLine", "(I)Z"⟩
def yX6_isSheet : MethodName := ⟨RX6, "isSheet", "(I)Z"⟩
def yX6_isSort : MethodName := ⟨RX6, "isSort", "(I)Z"⟩
def yX6_groupOf : MethodName := ⟨RX6, "groupOf", "(I)I"⟩
def yX6_netTold : MethodName := ⟨RX6, "netTold", "()V"⟩
def yX6_obey : MethodName := ⟨RX6, "obey", "(I)Z"⟩
def yX6_readState : MethodName := ⟨RX6, "readState", "(LPalletRounds$Sheet;)Z"⟩
def yX6_rateOf : MethodName := ⟨RX6, "rateOf", "(IIII)J"⟩
def yX6_limitAbove : MethodName := ⟨RX6, "limitAbove", "(II)J"⟩
def yX6_limitBelow : MethodName := ⟨RX6, "limitBelow", "(II)J"⟩
def yX6_demandTogether : MethodName := ⟨RX6, "demandTogether", "(IZ)J"⟩
def yX6_demandMost : MethodName := ⟨RX6, "demandMost", "(I)J"⟩
def yX6_hasten : MethodName := ⟨RX6, "hasten", "(II)V"⟩
def yX6_homePasses : MethodName := ⟨RX6, "homePasses", "(I)I"⟩
def yX6_fitsTimes : MethodName := ⟨RX6, "fitsTimes", "(JI)Z"⟩
def yX6_commonDivisor : MethodName := ⟨RX6, "commonDivisor", "(JJ)J"⟩
def yX6_fraction : MethodName := ⟨RX6, "fraction", "(JJI)J"⟩
def yX6_compareFractions : MethodName := ⟨RX6, "compareFractions", "(JJJJ)I"⟩
def yX6_factorial : MethodName := ⟨RX6, "factorial", "(I)J"⟩
def yX6_choose : MethodName := ⟨RX6, "choose", "(II)J"⟩
def yX6_power : MethodName := ⟨RX6, "power", "(JI)J"⟩
def yX7_init : MethodName := ⟨RX7, "<init>", "()V"⟩
def yX7_in : MethodName := ⟨RX7, "in", "(JJJ)Z"⟩
def yX7_isStation : MethodName := ⟨RX7, "isStation", "(I)Z"⟩
def yX7_isPart : MethodName := ⟨RX7, "isPart", "(I)Z"⟩
def yX7_routeAt : MethodName := ⟨RX7, "routeAt", "(III)I"⟩
def yX7_station : MethodName := ⟨RX7, "station", "(III)I"⟩
def yX7_time : MethodName := ⟨RX7, "time", "(III)I"⟩
def yX7_becomes : MethodName := ⟨RX7, "becomes", "(II)I"⟩
def yX7_route : MethodName := ⟨RX7, "route", "(IIII)I"⟩
def yX7_home : MethodName := ⟨RX7, "home", "(II)I"⟩
def yX7_parts : MethodName := ⟨RX7, "parts", "(II)I"⟩
def yX7_pay : MethodName := ⟨RX7, "pay", "(IJ)J"⟩
def yX7_timeOf : MethodName := ⟨RX7, "timeOf", "(II)I"⟩
def yX7_feed : MethodName := ⟨RX7, "feed", "(IIIIII)I"⟩
def yX7_clause : MethodName := ⟨RX7, "clause", "()Z"⟩
def yX7_isDone : MethodName := ⟨RX7, "isDone", "(I)Z"⟩
def yX7_text : MethodName := ⟨RX7, "text", "()I"⟩
def yX7_told : MethodName := ⟨RX7, "told", "(II)I"⟩
def yX7_taken : MethodName := ⟨RX7, "taken", "(II)I"⟩
def yX7_from : MethodName := ⟨RX7, "from", "(II)I"⟩
def yX7_reached : MethodName := ⟨RX7, "reached", "(I)I"⟩
def yX7_goesRound : MethodName := ⟨RX7, "goesRound", "(I)Z"⟩
def yX7_weights : MethodName := ⟨RX7, "weights", "(II)I"⟩
def yX7_entry : MethodName := ⟨RX7, "entry", "(III)J"⟩
def yX7_determinant : MethodName := ⟨RX7, "determinant", "(III)J"⟩
def yX7_common : MethodName := ⟨RX7, "common", "(JJ)J"⟩
def yX7_visit : MethodName := ⟨RX7, "visit", "(I)V"⟩
def yX7_of : MethodName := ⟨RX7, "of", "(II)I"⟩
def yX7_visits : MethodName := ⟨RX7, "visits", "(III)J"⟩
def yX7_isSound : MethodName := ⟨RX7, "isSound", "()Z"⟩
def yX7_sound : MethodName := ⟨RX7, "sound", "()I"⟩
def yX7_power : MethodName := ⟨RX7, "power", "(JI)J"⟩
def yX7_heap : MethodName := ⟨RX7, "heap", "(III)J"⟩
def yX7_choose : MethodName := ⟨RX7, "choose", "(II)J"⟩
def yX7_constants : MethodName := ⟨RX7, "constants", "(II)V"⟩
def yX7_grows : MethodName := ⟨RX7, "grows", "(III)J"⟩
def yX7_whole : MethodName := ⟨RX7, "whole", "(II)J"⟩
def yX7_part : MethodName := ⟨RX7, "part", "(JJI)J"⟩
def yX7_constant : MethodName := ⟨RX7, "constant", "(IIII)J"⟩
def yX7_weight : MethodName := ⟨RX7, "weight", "()J"⟩
def yX7_readsState : MethodName := ⟨RX7, "readsState", "(I)Z"⟩
def yX7_odds : MethodName := ⟨RX7, "odds", "(II)J"⟩
def yX7_walk : MethodName := ⟨RX7, "walk", "(II)V"⟩
def yX7_lays : MethodName := ⟨RX7, "lays", "(III)V"⟩
def yX7_likeliest : MethodName := ⟨RX7, "likeliest", "()V"⟩
def yX7_likely : MethodName := ⟨RX7, "likely", "(II)I"⟩
def yX7_film : MethodName := ⟨RX7, "film", "(I)I"⟩
def yX7_rateAbove : MethodName := ⟨RX7, "rateAbove", "(III)J"⟩
def yX7_all : MethodName := ⟨RX7, "all", "(IZ)J"⟩
def yX7_limit : MethodName := ⟨RX7, "limit", "(III)J"⟩
def yX7_rate : MethodName := ⟨RX7, "rate", "(III)J"⟩
def yX7_numberAbove : MethodName := ⟨RX7, "numberAbove", "(II)J"⟩
def yX7_mean : MethodName := ⟨RX7, "mean", "(IIII)J"⟩
def yX7_busyAbove : MethodName := ⟨RX7, "busyAbove", "(I)J"⟩
def yX7_busy : MethodName := ⟨RX7, "busy", "(II)J"⟩
def yX7_narrow : MethodName := ⟨RX7, "narrow", "()I"⟩
def yX7_isMore : MethodName := ⟨RX7, "isMore", "(JJJJ)Z"⟩
def yX7_swift : MethodName := ⟨RX7, "swift", "(I)I"⟩
def yX7_ends : MethodName := ⟨RX7, "ends", "()V"⟩
def yX7_inTruth : MethodName := ⟨RX7, "inTruth", "()I"⟩
def yX7_classOf : MethodName := ⟨RX7, "classOf", "(I)I"⟩
def yX7_comes : MethodName := ⟨RX7, "comes", "(II)V"⟩
def yX7_begin : MethodName := ⟨RX7, "begin", "()I"⟩
def yX7_goes : MethodName := ⟨RX7, "goes", "(IIZ)V"⟩
def yX7_isOver : MethodName := ⟨RX7, "isOver", "(II)Z"⟩
def yX7_serves : MethodName := ⟨RX7, "serves", "(I)V"⟩
def yX7_drawn : MethodName := ⟨RX7, "drawn", "(I)I"⟩
def yX7_leads : MethodName := ⟨RX7, "leads", "(II)I"⟩
def yX7_turnOne : MethodName := ⟨RX7, "turnOne", "()I"⟩
def yX7_turn : MethodName := ⟨RX7, "turn", "(I)I"⟩
def yX7_where : MethodName := ⟨RX7, "where", "(II)I"⟩
def yX7_stands : MethodName := ⟨RX7, "stands", "(II)I"⟩
def yX7_passed : MethodName := ⟨RX7, "passed", "(II)I"⟩
def yX7_isProduct : MethodName := ⟨RX7, "isProduct", "(JI)Z"⟩
def yX7_earned : MethodName := ⟨RX7, "earned", "()J"⟩
def yX7_seed : MethodName := ⟨RX7, "seed", "(I)I"⟩
def yX7_copies : MethodName := ⟨RX7, "copies", "([I[II)V"⟩
def yX7_image : MethodName := ⟨RX7, "image", "()I"⟩
def yX7_back : MethodName := ⟨RX7, "back", "()I"⟩
def yX7_count : MethodName := ⟨RX7, "count", "(I)I"⟩
def yX7_isSheet : MethodName := ⟨RX7, "isSheet", "(I)Z"⟩
def yX7_sheet : MethodName := ⟨RX7, "sheet", "(III)I"⟩
def yX7_put : MethodName := ⟨RX7, "put", "(IIJ)I"⟩
def yX7_item : MethodName := ⟨RX7, "item", "(II)J"⟩
def yX7_copy : MethodName := ⟨RX7, "copy", "(IIIII)I"⟩
def yX7_lay : MethodName := ⟨RX7, "lay", "(IIIII)I"⟩
def yJ6_numberOfTrailingZeros_0f7a4 : MethodName := ⟨RJ6, "numberOfTrailingZeros", "(I)I"⟩
def yJ13_compare_74951 : MethodName := ⟨RJ13, "compare", "(JJ)I"⟩
def yJ9_abs_067f4 : MethodName := ⟨RJ9, "abs", "(J)J"⟩
def yJ9_max_f86c9 : MethodName := ⟨RJ9, "max", "(JJ)J"⟩
def yJ7_fill_d0a16 : MethodName := ⟨RJ7, "fill", "([JJ)V"⟩
def yJ7_fill_53178 : MethodName := ⟨RJ7, "fill", "([II)V"⟩
def R_law : String := "PalletRoundsLaw"
abbrev vwCl : List vw_C := [(RX0, TX0, 7), (RX1, TX1, 3), (RX2, TX2, 11), (RX3, TX3, 2), (RX4, TX4, 7), (RX5, TX5, 12), (RX6, TX6, 9), (RX7, TX7, 42)]
