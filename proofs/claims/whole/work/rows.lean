section
-- ===== PART A: goes FIRST, ahead of the names: the tables' words, and 'selects' of the private methods out of them =====
/-- a private method of a class that the tables say can be made, by its rows of tables_1 -/
def lw_okq (q : MethodName × Nat) : Prop := (q.1.cls ≠ "java/lang/invoke/MethodHandle" ∧ q.1.cls ≠ "java/lang/invoke/VarHandle") ∧ Cond.instantiable q.1.cls q.2 ∈ tables_1 ∧ Cond.privateMethod q.1 ∈ tables_1 ∧ Cond.instanceMethod q.1 ∈ tables_1
theorem lw_p0 : lw_okq (⟨"OneStatement$Reader", "readLine", "([BII)Z"⟩, 9) := ⟨⟨by decide +kernel, by decide +kernel⟩, List.mem_of_getElem? (i := 72) (by decide +kernel), List.mem_of_getElem? (i := 255) (by decide +kernel), List.mem_of_getElem? (i := 256) (by decide +kernel)⟩
theorem lw_p1 : lw_okq (⟨"OneStatement$Reader", "nextToken", "([BI)V"⟩, 9) := ⟨⟨by decide +kernel, by decide +kernel⟩, List.mem_of_getElem? (i := 72) (by decide +kernel), List.mem_of_getElem? (i := 259) (by decide +kernel), List.mem_of_getElem? (i := 260) (by decide +kernel)⟩
theorem lw_p2 : lw_okq (⟨"OneStatement$Reader", "readNumber", "([BI)V"⟩, 9) := ⟨⟨by decide +kernel, by decide +kernel⟩, List.mem_of_getElem? (i := 72) (by decide +kernel), List.mem_of_getElem? (i := 269) (by decide +kernel), List.mem_of_getElem? (i := 270) (by decide +kernel)⟩
theorem lw_p3 : lw_okq (⟨"OneStatement$Reader", "wordOf", "([BI)I"⟩, 9) := ⟨⟨by decide +kernel, by decide +kernel⟩, List.mem_of_getElem? (i := 72) (by decide +kernel), List.mem_of_getElem? (i := 273) (by decide +kernel), List.mem_of_getElem? (i := 274) (by decide +kernel)⟩
theorem lw_p4 : lw_okq (⟨"OneStatement$Reader", "isWritten", "([BLjava/lang/String;)Z"⟩, 9) := ⟨⟨by decide +kernel, by decide +kernel⟩, List.mem_of_getElem? (i := 72) (by decide +kernel), List.mem_of_getElem? (i := 294) (by decide +kernel), List.mem_of_getElem? (i := 295) (by decide +kernel)⟩
theorem lw_p5 : lw_okq (⟨"OneStatement$Reader", "refuse", "()Z"⟩, 9) := ⟨⟨by decide +kernel, by decide +kernel⟩, List.mem_of_getElem? (i := 72) (by decide +kernel), List.mem_of_getElem? (i := 346) (by decide +kernel), List.mem_of_getElem? (i := 347) (by decide +kernel)⟩
theorem lw_p6 : lw_okq (⟨"OneStatement$Reader", "countLine", "(II)V"⟩, 9) := ⟨⟨by decide +kernel, by decide +kernel⟩, List.mem_of_getElem? (i := 72) (by decide +kernel), List.mem_of_getElem? (i := 350) (by decide +kernel), List.mem_of_getElem? (i := 351) (by decide +kernel)⟩
theorem lw_p7 : lw_okq (⟨"OneStatement$Reader", "blame", "(II)V"⟩, 9) := ⟨⟨by decide +kernel, by decide +kernel⟩, List.mem_of_getElem? (i := 72) (by decide +kernel), List.mem_of_getElem? (i := 356) (by decide +kernel), List.mem_of_getElem? (i := 357) (by decide +kernel)⟩
theorem lw_p8 : lw_okq (⟨"OneStatement$Reader", "isTheFirstAgain", "(III)Z"⟩, 9) := ⟨⟨by decide +kernel, by decide +kernel⟩, List.mem_of_getElem? (i := 72) (by decide +kernel), List.mem_of_getElem? (i := 369) (by decide +kernel), List.mem_of_getElem? (i := 370) (by decide +kernel)⟩
theorem lw_p9 : lw_okq (⟨"OneStatement$Reader", "tellsOfMissing", "()Z"⟩, 9) := ⟨⟨by decide +kernel, by decide +kernel⟩, List.mem_of_getElem? (i := 72) (by decide +kernel), List.mem_of_getElem? (i := 373) (by decide +kernel), List.mem_of_getElem? (i := 374) (by decide +kernel)⟩
theorem lw_p10 : lw_okq (⟨"OneStatement$Play", "goes", "(LOneStatement$Town;IIII)Z"⟩, 14) := ⟨⟨by decide +kernel, by decide +kernel⟩, List.mem_of_getElem? (i := 108) (by decide +kernel), List.mem_of_getElem? (i := 542) (by decide +kernel), List.mem_of_getElem? (i := 543) (by decide +kernel)⟩
theorem lw_p11 : lw_okq (⟨"OneStatement$Play", "passEve", "()V"⟩, 14) := ⟨⟨by decide +kernel, by decide +kernel⟩, List.mem_of_getElem? (i := 108) (by decide +kernel), List.mem_of_getElem? (i := 546) (by decide +kernel), List.mem_of_getElem? (i := 547) (by decide +kernel)⟩
theorem lw_p12 : lw_okq (⟨"OneStatement$Play", "sells", "(III)Z"⟩, 14) := ⟨⟨by decide +kernel, by decide +kernel⟩, List.mem_of_getElem? (i := 108) (by decide +kernel), List.mem_of_getElem? (i := 550) (by decide +kernel), List.mem_of_getElem? (i := 551) (by decide +kernel)⟩
theorem lw_p13 : lw_okq (⟨"OneStatement$Play", "speaks", "(LOneStatement$Town;III)Z"⟩, 14) := ⟨⟨by decide +kernel, by decide +kernel⟩, List.mem_of_getElem? (i := 108) (by decide +kernel), List.mem_of_getElem? (i := 555) (by decide +kernel), List.mem_of_getElem? (i := 556) (by decide +kernel)⟩
theorem lw_p14 : lw_okq (⟨"OneStatement$Play", "tells", "(LOneStatement$Town;II)Z"⟩, 14) := ⟨⟨by decide +kernel, by decide +kernel⟩, List.mem_of_getElem? (i := 108) (by decide +kernel), List.mem_of_getElem? (i := 562) (by decide +kernel), List.mem_of_getElem? (i := 563) (by decide +kernel)⟩
theorem lw_p15 : lw_okq (⟨"OneStatement$Play", "learns", "(LOneStatement$Town;II)V"⟩, 14) := ⟨⟨by decide +kernel, by decide +kernel⟩, List.mem_of_getElem? (i := 108) (by decide +kernel), List.mem_of_getElem? (i := 567) (by decide +kernel), List.mem_of_getElem? (i := 568) (by decide +kernel)⟩
def lw_privs_1 : List (MethodName × Nat) := [(⟨"OneStatement$Reader", "readLine", "([BII)Z"⟩, 9), (⟨"OneStatement$Reader", "nextToken", "([BI)V"⟩, 9), (⟨"OneStatement$Reader", "readNumber", "([BI)V"⟩, 9), (⟨"OneStatement$Reader", "wordOf", "([BI)I"⟩, 9), (⟨"OneStatement$Reader", "isWritten", "([BLjava/lang/String;)Z"⟩, 9), (⟨"OneStatement$Reader", "refuse", "()Z"⟩, 9), (⟨"OneStatement$Reader", "countLine", "(II)V"⟩, 9), (⟨"OneStatement$Reader", "blame", "(II)V"⟩, 9), (⟨"OneStatement$Reader", "isTheFirstAgain", "(III)Z"⟩, 9), (⟨"OneStatement$Reader", "tellsOfMissing", "()Z"⟩, 9), (⟨"OneStatement$Play", "goes", "(LOneStatement$Town;IIII)Z"⟩, 14), (⟨"OneStatement$Play", "passEve", "()V"⟩, 14), (⟨"OneStatement$Play", "sells", "(III)Z"⟩, 14), (⟨"OneStatement$Play", "speaks", "(LOneStatement$Town;III)Z"⟩, 14), (⟨"OneStatement$Play", "tells", "(LOneStatement$Town;II)Z"⟩, 14), (⟨"OneStatement$Play", "learns", "(LOneStatement$Town;II)V"⟩, 14)]
theorem lw_r1 : ∀ q ∈ lw_privs_1, lw_okq q := List.forall_mem_cons.mpr ⟨lw_p0, List.forall_mem_cons.mpr ⟨lw_p1, List.forall_mem_cons.mpr ⟨lw_p2, List.forall_mem_cons.mpr ⟨lw_p3, List.forall_mem_cons.mpr ⟨lw_p4, List.forall_mem_cons.mpr ⟨lw_p5, List.forall_mem_cons.mpr ⟨lw_p6, List.forall_mem_cons.mpr ⟨lw_p7, List.forall_mem_cons.mpr ⟨lw_p8, List.forall_mem_cons.mpr ⟨lw_p9, List.forall_mem_cons.mpr ⟨lw_p10, List.forall_mem_cons.mpr ⟨lw_p11, List.forall_mem_cons.mpr ⟨lw_p12, List.forall_mem_cons.mpr ⟨lw_p13, List.forall_mem_cons.mpr ⟨lw_p14, List.forall_mem_cons.mpr ⟨lw_p15, fun _ h => absurd h List.not_mem_nil⟩⟩⟩⟩⟩⟩⟩⟩⟩⟩⟩⟩⟩⟩⟩⟩
theorem lw_p16 : lw_okq (⟨"OneStatement$Play", "asks", "(LOneStatement$Town;II)V"⟩, 14) := ⟨⟨by decide +kernel, by decide +kernel⟩, List.mem_of_getElem? (i := 108) (by decide +kernel), List.mem_of_getElem? (i := 575) (by decide +kernel), List.mem_of_getElem? (i := 576) (by decide +kernel)⟩
theorem lw_p17 : lw_okq (⟨"OneStatement$Spread", "measure", "(LOneStatement$Town;)V"⟩, 1) := ⟨⟨by decide +kernel, by decide +kernel⟩, List.mem_of_getElem? (i := 199) (by decide +kernel), List.mem_of_getElem? (i := 602) (by decide +kernel), List.mem_of_getElem? (i := 603) (by decide +kernel)⟩
theorem lw_p18 : lw_okq (⟨"OneStatement$Spread", "firstTeller", "(LOneStatement$Town;I)I"⟩, 1) := ⟨⟨by decide +kernel, by decide +kernel⟩, List.mem_of_getElem? (i := 199) (by decide +kernel), List.mem_of_getElem? (i := 612) (by decide +kernel), List.mem_of_getElem? (i := 613) (by decide +kernel)⟩
theorem lw_p19 : lw_okq (⟨"OneStatement$Search", "ringFrom", "(LOneStatement$Town;II)V"⟩, 9) := ⟨⟨by decide +kernel, by decide +kernel⟩, List.mem_of_getElem? (i := 163) (by decide +kernel), List.mem_of_getElem? (i := 661) (by decide +kernel), List.mem_of_getElem? (i := 662) (by decide +kernel)⟩
theorem lw_p20 : lw_okq (⟨"OneStatement$Search", "keep", "(I)V"⟩, 9) := ⟨⟨by decide +kernel, by decide +kernel⟩, List.mem_of_getElem? (i := 163) (by decide +kernel), List.mem_of_getElem? (i := 665) (by decide +kernel), List.mem_of_getElem? (i := 666) (by decide +kernel)⟩
theorem lw_p21 : lw_okq (⟨"OneStatement$Search", "hearFrom", "(LOneStatement$Town;III)I"⟩, 9) := ⟨⟨by decide +kernel, by decide +kernel⟩, List.mem_of_getElem? (i := 163) (by decide +kernel), List.mem_of_getElem? (i := 671) (by decide +kernel), List.mem_of_getElem? (i := 672) (by decide +kernel)⟩
theorem lw_p22 : lw_okq (⟨"OneStatement$Search", "pairFrom", "(LOneStatement$Town;III)V"⟩, 9) := ⟨⟨by decide +kernel, by decide +kernel⟩, List.mem_of_getElem? (i := 163) (by decide +kernel), List.mem_of_getElem? (i := 694) (by decide +kernel), List.mem_of_getElem? (i := 695) (by decide +kernel)⟩
theorem lw_p23 : lw_okq (⟨"OneStatement$Search", "leadOf", "(LOneStatement$Town;III)I"⟩, 9) := ⟨⟨by decide +kernel, by decide +kernel⟩, List.mem_of_getElem? (i := 163) (by decide +kernel), List.mem_of_getElem? (i := 744) (by decide +kernel), List.mem_of_getElem? (i := 745) (by decide +kernel)⟩
theorem lw_p24 : lw_okq (⟨"OneStatement$Search", "leadBy", "(LOneStatement$Town;IIIII)I"⟩, 9) := ⟨⟨by decide +kernel, by decide +kernel⟩, List.mem_of_getElem? (i := 163) (by decide +kernel), List.mem_of_getElem? (i := 748) (by decide +kernel), List.mem_of_getElem? (i := 749) (by decide +kernel)⟩
theorem lw_p25 : lw_okq (⟨"OneStatement$Play", "drawDeed", "(LOneStatement$Town;)V"⟩, 14) := ⟨⟨by decide +kernel, by decide +kernel⟩, List.mem_of_getElem? (i := 108) (by decide +kernel), List.mem_of_getElem? (i := 802) (by decide +kernel), List.mem_of_getElem? (i := 803) (by decide +kernel)⟩
theorem lw_p26 : lw_okq (⟨"OneStatement$Play", "below", "(I)I"⟩, 14) := ⟨⟨by decide +kernel, by decide +kernel⟩, List.mem_of_getElem? (i := 108) (by decide +kernel), List.mem_of_getElem? (i := 806) (by decide +kernel), List.mem_of_getElem? (i := 807) (by decide +kernel)⟩
theorem lw_p27 : lw_okq (⟨"OneStatement$Play", "drawSale", "(LOneStatement$Town;)V"⟩, 14) := ⟨⟨by decide +kernel, by decide +kernel⟩, List.mem_of_getElem? (i := 108) (by decide +kernel), List.mem_of_getElem? (i := 811) (by decide +kernel), List.mem_of_getElem? (i := 812) (by decide +kernel)⟩
theorem lw_p28 : lw_okq (⟨"OneStatement$Town", "ringOf", "(I)I"⟩, 9) := ⟨⟨by decide +kernel, by decide +kernel⟩, List.mem_of_getElem? (i := 385) (by decide +kernel), List.mem_of_getElem? (i := 829) (by decide +kernel), List.mem_of_getElem? (i := 830) (by decide +kernel)⟩
theorem lw_p29 : lw_okq (⟨"OneStatement$Search", "linkFrom", "(LOneStatement$Town;III)V"⟩, 9) := ⟨⟨by decide +kernel, by decide +kernel⟩, List.mem_of_getElem? (i := 163) (by decide +kernel), List.mem_of_getElem? (i := 860) (by decide +kernel), List.mem_of_getElem? (i := 861) (by decide +kernel)⟩
theorem lw_p30 : lw_okq (⟨"OneStatementModel", "four", "(I)V"⟩, 47) := ⟨⟨by decide +kernel, by decide +kernel⟩, List.mem_of_getElem? (i := 966) (by decide +kernel), List.mem_of_getElem? (i := 1120) (by decide +kernel), List.mem_of_getElem? (i := 1121) (by decide +kernel)⟩
theorem lw_p31 : lw_okq (⟨"OneStatementModel", "is", "(II)Z"⟩, 47) := ⟨⟨by decide +kernel, by decide +kernel⟩, List.mem_of_getElem? (i := 966) (by decide +kernel), List.mem_of_getElem? (i := 1135) (by decide +kernel), List.mem_of_getElem? (i := 1136) (by decide +kernel)⟩
def lw_privs_2 : List (MethodName × Nat) := [(⟨"OneStatement$Play", "asks", "(LOneStatement$Town;II)V"⟩, 14), (⟨"OneStatement$Spread", "measure", "(LOneStatement$Town;)V"⟩, 1), (⟨"OneStatement$Spread", "firstTeller", "(LOneStatement$Town;I)I"⟩, 1), (⟨"OneStatement$Search", "ringFrom", "(LOneStatement$Town;II)V"⟩, 9), (⟨"OneStatement$Search", "keep", "(I)V"⟩, 9), (⟨"OneStatement$Search", "hearFrom", "(LOneStatement$Town;III)I"⟩, 9), (⟨"OneStatement$Search", "pairFrom", "(LOneStatement$Town;III)V"⟩, 9), (⟨"OneStatement$Search", "leadOf", "(LOneStatement$Town;III)I"⟩, 9), (⟨"OneStatement$Search", "leadBy", "(LOneStatement$Town;IIIII)I"⟩, 9), (⟨"OneStatement$Play", "drawDeed", "(LOneStatement$Town;)V"⟩, 14), (⟨"OneStatement$Play", "below", "(I)I"⟩, 14), (⟨"OneStatement$Play", "drawSale", "(LOneStatement$Town;)V"⟩, 14), (⟨"OneStatement$Town", "ringOf", "(I)I"⟩, 9), (⟨"OneStatement$Search", "linkFrom", "(LOneStatement$Town;III)V"⟩, 9), (⟨"OneStatementModel", "four", "(I)V"⟩, 47), (⟨"OneStatementModel", "is", "(II)Z"⟩, 47)]
theorem lw_r2 : ∀ q ∈ lw_privs_2, lw_okq q := List.forall_mem_cons.mpr ⟨lw_p16, List.forall_mem_cons.mpr ⟨lw_p17, List.forall_mem_cons.mpr ⟨lw_p18, List.forall_mem_cons.mpr ⟨lw_p19, List.forall_mem_cons.mpr ⟨lw_p20, List.forall_mem_cons.mpr ⟨lw_p21, List.forall_mem_cons.mpr ⟨lw_p22, List.forall_mem_cons.mpr ⟨lw_p23, List.forall_mem_cons.mpr ⟨lw_p24, List.forall_mem_cons.mpr ⟨lw_p25, List.forall_mem_cons.mpr ⟨lw_p26, List.forall_mem_cons.mpr ⟨lw_p27, List.forall_mem_cons.mpr ⟨lw_p28, List.forall_mem_cons.mpr ⟨lw_p29, List.forall_mem_cons.mpr ⟨lw_p30, List.forall_mem_cons.mpr ⟨lw_p31, fun _ h => absurd h List.not_mem_nil⟩⟩⟩⟩⟩⟩⟩⟩⟩⟩⟩⟩⟩⟩⟩⟩
theorem lw_p32 : lw_okq (⟨"OneStatementModel", "readText", "(I)Z"⟩, 47) := ⟨⟨by decide +kernel, by decide +kernel⟩, List.mem_of_getElem? (i := 966) (by decide +kernel), List.mem_of_getElem? (i := 1139) (by decide +kernel), List.mem_of_getElem? (i := 1140) (by decide +kernel)⟩
theorem lw_p33 : lw_okq (⟨"OneStatementModel", "token", "()V"⟩, 47) := ⟨⟨by decide +kernel, by decide +kernel⟩, List.mem_of_getElem? (i := 966) (by decide +kernel), List.mem_of_getElem? (i := 1143) (by decide +kernel), List.mem_of_getElem? (i := 1144) (by decide +kernel)⟩
theorem lw_p34 : lw_okq (⟨"OneStatementModel", "see", "()I"⟩, 47) := ⟨⟨by decide +kernel, by decide +kernel⟩, List.mem_of_getElem? (i := 966) (by decide +kernel), List.mem_of_getElem? (i := 1147) (by decide +kernel), List.mem_of_getElem? (i := 1148) (by decide +kernel)⟩
theorem lw_p35 : lw_okq (⟨"OneStatementModel", "lines", "(I)Z"⟩, 47) := ⟨⟨by decide +kernel, by decide +kernel⟩, List.mem_of_getElem? (i := 966) (by decide +kernel), List.mem_of_getElem? (i := 1151) (by decide +kernel), List.mem_of_getElem? (i := 1152) (by decide +kernel)⟩
theorem lw_p36 : lw_okq (⟨"OneStatementModel", "townLine", "(JI)Z"⟩, 47) := ⟨⟨by decide +kernel, by decide +kernel⟩, List.mem_of_getElem? (i := 966) (by decide +kernel), List.mem_of_getElem? (i := 1155) (by decide +kernel), List.mem_of_getElem? (i := 1156) (by decide +kernel)⟩
theorem lw_p37 : lw_okq (⟨"OneStatementModel", "full", "(III)V"⟩, 47) := ⟨⟨by decide +kernel, by decide +kernel⟩, List.mem_of_getElem? (i := 966) (by decide +kernel), List.mem_of_getElem? (i := 1160) (by decide +kernel), List.mem_of_getElem? (i := 1161) (by decide +kernel)⟩
theorem lw_p38 : lw_okq (⟨"OneStatementModel", "later", "(II)V"⟩, 47) := ⟨⟨by decide +kernel, by decide +kernel⟩, List.mem_of_getElem? (i := 966) (by decide +kernel), List.mem_of_getElem? (i := 1164) (by decide +kernel), List.mem_of_getElem? (i := 1165) (by decide +kernel)⟩
theorem lw_p39 : lw_okq (⟨"OneStatementModel", "personLine", "()Z"⟩, 47) := ⟨⟨by decide +kernel, by decide +kernel⟩, List.mem_of_getElem? (i := 966) (by decide +kernel), List.mem_of_getElem? (i := 1168) (by decide +kernel), List.mem_of_getElem? (i := 1169) (by decide +kernel)⟩
theorem lw_p40 : lw_okq (⟨"OneStatementModel", "take", "(III)Z"⟩, 47) := ⟨⟨by decide +kernel, by decide +kernel⟩, List.mem_of_getElem? (i := 966) (by decide +kernel), List.mem_of_getElem? (i := 1172) (by decide +kernel), List.mem_of_getElem? (i := 1173) (by decide +kernel)⟩
theorem lw_p41 : lw_okq (⟨"OneStatementModel", "takeBut", "(IIII)Z"⟩, 47) := ⟨⟨by decide +kernel, by decide +kernel⟩, List.mem_of_getElem? (i := 966) (by decide +kernel), List.mem_of_getElem? (i := 1176) (by decide +kernel), List.mem_of_getElem? (i := 1177) (by decide +kernel)⟩
theorem lw_p42 : lw_okq (⟨"OneStatementModel", "fails", "()Z"⟩, 47) := ⟨⟨by decide +kernel, by decide +kernel⟩, List.mem_of_getElem? (i := 966) (by decide +kernel), List.mem_of_getElem? (i := 1180) (by decide +kernel), List.mem_of_getElem? (i := 1181) (by decide +kernel)⟩
theorem lw_p43 : lw_okq (⟨"OneStatementModel", "twoLine", "(J)Z"⟩, 47) := ⟨⟨by decide +kernel, by decide +kernel⟩, List.mem_of_getElem? (i := 966) (by decide +kernel), List.mem_of_getElem? (i := 1188) (by decide +kernel), List.mem_of_getElem? (i := 1189) (by decide +kernel)⟩
theorem lw_p44 : lw_okq (⟨"OneStatementModel", "yearLine", "(JI)Z"⟩, 47) := ⟨⟨by decide +kernel, by decide +kernel⟩, List.mem_of_getElem? (i := 966) (by decide +kernel), List.mem_of_getElem? (i := 1195) (by decide +kernel), List.mem_of_getElem? (i := 1196) (by decide +kernel)⟩
theorem lw_p45 : lw_okq (⟨"OneStatementModel", "keepRow", "(II)V"⟩, 47) := ⟨⟨by decide +kernel, by decide +kernel⟩, List.mem_of_getElem? (i := 966) (by decide +kernel), List.mem_of_getElem? (i := 1204) (by decide +kernel), List.mem_of_getElem? (i := 1205) (by decide +kernel)⟩
theorem lw_p46 : lw_okq (⟨"OneStatementModel", "logLine", "(JI)Z"⟩, 47) := ⟨⟨by decide +kernel, by decide +kernel⟩, List.mem_of_getElem? (i := 966) (by decide +kernel), List.mem_of_getElem? (i := 1208) (by decide +kernel), List.mem_of_getElem? (i := 1209) (by decide +kernel)⟩
theorem lw_p47 : lw_okq (⟨"OneStatementModel", "close", "()V"⟩, 47) := ⟨⟨by decide +kernel, by decide +kernel⟩, List.mem_of_getElem? (i := 966) (by decide +kernel), List.mem_of_getElem? (i := 1214) (by decide +kernel), List.mem_of_getElem? (i := 1215) (by decide +kernel)⟩
def lw_privs_3 : List (MethodName × Nat) := [(⟨"OneStatementModel", "readText", "(I)Z"⟩, 47), (⟨"OneStatementModel", "token", "()V"⟩, 47), (⟨"OneStatementModel", "see", "()I"⟩, 47), (⟨"OneStatementModel", "lines", "(I)Z"⟩, 47), (⟨"OneStatementModel", "townLine", "(JI)Z"⟩, 47), (⟨"OneStatementModel", "full", "(III)V"⟩, 47), (⟨"OneStatementModel", "later", "(II)V"⟩, 47), (⟨"OneStatementModel", "personLine", "()Z"⟩, 47), (⟨"OneStatementModel", "take", "(III)Z"⟩, 47), (⟨"OneStatementModel", "takeBut", "(IIII)Z"⟩, 47), (⟨"OneStatementModel", "fails", "()Z"⟩, 47), (⟨"OneStatementModel", "twoLine", "(J)Z"⟩, 47), (⟨"OneStatementModel", "yearLine", "(JI)Z"⟩, 47), (⟨"OneStatementModel", "keepRow", "(II)V"⟩, 47), (⟨"OneStatementModel", "logLine", "(JI)Z"⟩, 47), (⟨"OneStatementModel", "close", "()V"⟩, 47)]
theorem lw_r3 : ∀ q ∈ lw_privs_3, lw_okq q := List.forall_mem_cons.mpr ⟨lw_p32, List.forall_mem_cons.mpr ⟨lw_p33, List.forall_mem_cons.mpr ⟨lw_p34, List.forall_mem_cons.mpr ⟨lw_p35, List.forall_mem_cons.mpr ⟨lw_p36, List.forall_mem_cons.mpr ⟨lw_p37, List.forall_mem_cons.mpr ⟨lw_p38, List.forall_mem_cons.mpr ⟨lw_p39, List.forall_mem_cons.mpr ⟨lw_p40, List.forall_mem_cons.mpr ⟨lw_p41, List.forall_mem_cons.mpr ⟨lw_p42, List.forall_mem_cons.mpr ⟨lw_p43, List.forall_mem_cons.mpr ⟨lw_p44, List.forall_mem_cons.mpr ⟨lw_p45, List.forall_mem_cons.mpr ⟨lw_p46, List.forall_mem_cons.mpr ⟨lw_p47, fun _ h => absurd h List.not_mem_nil⟩⟩⟩⟩⟩⟩⟩⟩⟩⟩⟩⟩⟩⟩⟩⟩
theorem lw_p48 : lw_okq (⟨"OneStatementModel", "store", "([III)V"⟩, 47) := ⟨⟨by decide +kernel, by decide +kernel⟩, List.mem_of_getElem? (i := 966) (by decide +kernel), List.mem_of_getElem? (i := 1221) (by decide +kernel), List.mem_of_getElem? (i := 1222) (by decide +kernel)⟩
theorem lw_p49 : lw_okq (⟨"OneStatementModel", "hand", "(I)Z"⟩, 47) := ⟨⟨by decide +kernel, by decide +kernel⟩, List.mem_of_getElem? (i := 966) (by decide +kernel), List.mem_of_getElem? (i := 1233) (by decide +kernel), List.mem_of_getElem? (i := 1234) (by decide +kernel)⟩
theorem lw_p50 : lw_okq (⟨"OneStatementModel", "of", "(I)I"⟩, 47) := ⟨⟨by decide +kernel, by decide +kernel⟩, List.mem_of_getElem? (i := 966) (by decide +kernel), List.mem_of_getElem? (i := 1237) (by decide +kernel), List.mem_of_getElem? (i := 1238) (by decide +kernel)⟩
theorem lw_p51 : lw_okq (⟨"OneStatementModel", "hasYear", "(I)Z"⟩, 47) := ⟨⟨by decide +kernel, by decide +kernel⟩, List.mem_of_getElem? (i := 966) (by decide +kernel), List.mem_of_getElem? (i := 1245) (by decide +kernel), List.mem_of_getElem? (i := 1246) (by decide +kernel)⟩
theorem lw_p52 : lw_okq (⟨"OneStatementModel", "deeds", "()I"⟩, 47) := ⟨⟨by decide +kernel, by decide +kernel⟩, List.mem_of_getElem? (i := 966) (by decide +kernel), List.mem_of_getElem? (i := 1249) (by decide +kernel), List.mem_of_getElem? (i := 1250) (by decide +kernel)⟩
theorem lw_p53 : lw_okq (⟨"OneStatementModel", "deedOf", "(II)I"⟩, 47) := ⟨⟨by decide +kernel, by decide +kernel⟩, List.mem_of_getElem? (i := 966) (by decide +kernel), List.mem_of_getElem? (i := 1253) (by decide +kernel), List.mem_of_getElem? (i := 1254) (by decide +kernel)⟩
theorem lw_p54 : lw_okq (⟨"OneStatementModel", "layAll", "(II)Z"⟩, 47) := ⟨⟨by decide +kernel, by decide +kernel⟩, List.mem_of_getElem? (i := 966) (by decide +kernel), List.mem_of_getElem? (i := 1261) (by decide +kernel), List.mem_of_getElem? (i := 1262) (by decide +kernel)⟩
theorem lw_p55 : lw_okq (⟨"OneStatementModel", "play", "(I)I"⟩, 47) := ⟨⟨by decide +kernel, by decide +kernel⟩, List.mem_of_getElem? (i := 966) (by decide +kernel), List.mem_of_getElem? (i := 1265) (by decide +kernel), List.mem_of_getElem? (i := 1266) (by decide +kernel)⟩
theorem lw_p56 : lw_okq (⟨"OneStatementModel", "doesDeed", "(I)Z"⟩, 47) := ⟨⟨by decide +kernel, by decide +kernel⟩, List.mem_of_getElem? (i := 966) (by decide +kernel), List.mem_of_getElem? (i := 1269) (by decide +kernel), List.mem_of_getElem? (i := 1270) (by decide +kernel)⟩
theorem lw_p57 : lw_okq (⟨"OneStatementModel", "does", "(IIII)Z"⟩, 47) := ⟨⟨by decide +kernel, by decide +kernel⟩, List.mem_of_getElem? (i := 966) (by decide +kernel), List.mem_of_getElem? (i := 1273) (by decide +kernel), List.mem_of_getElem? (i := 1274) (by decide +kernel)⟩
theorem lw_p58 : lw_okq (⟨"OneStatementModel", "eve", "()V"⟩, 47) := ⟨⟨by decide +kernel, by decide +kernel⟩, List.mem_of_getElem? (i := 966) (by decide +kernel), List.mem_of_getElem? (i := 1277) (by decide +kernel), List.mem_of_getElem? (i := 1278) (by decide +kernel)⟩
theorem lw_p59 : lw_okq (⟨"OneStatementModel", "isPerson", "(I)Z"⟩, 47) := ⟨⟨by decide +kernel, by decide +kernel⟩, List.mem_of_getElem? (i := 966) (by decide +kernel), List.mem_of_getElem? (i := 1281) (by decide +kernel), List.mem_of_getElem? (i := 1282) (by decide +kernel)⟩
theorem lw_p60 : lw_okq (⟨"OneStatementModel", "tells", "(II)Z"⟩, 47) := ⟨⟨by decide +kernel, by decide +kernel⟩, List.mem_of_getElem? (i := 966) (by decide +kernel), List.mem_of_getElem? (i := 1285) (by decide +kernel), List.mem_of_getElem? (i := 1286) (by decide +kernel)⟩
theorem lw_p61 : lw_okq (⟨"OneStatementModel", "hears", "(II)Z"⟩, 47) := ⟨⟨by decide +kernel, by decide +kernel⟩, List.mem_of_getElem? (i := 966) (by decide +kernel), List.mem_of_getElem? (i := 1289) (by decide +kernel), List.mem_of_getElem? (i := 1290) (by decide +kernel)⟩
theorem lw_p62 : lw_okq (⟨"OneStatementModel", "whole", "(I)I"⟩, 47) := ⟨⟨by decide +kernel, by decide +kernel⟩, List.mem_of_getElem? (i := 966) (by decide +kernel), List.mem_of_getElem? (i := 1293) (by decide +kernel), List.mem_of_getElem? (i := 1294) (by decide +kernel)⟩
theorem lw_p63 : lw_okq (⟨"OneStatementModel", "learns", "(II)V"⟩, 47) := ⟨⟨by decide +kernel, by decide +kernel⟩, List.mem_of_getElem? (i := 966) (by decide +kernel), List.mem_of_getElem? (i := 1297) (by decide +kernel), List.mem_of_getElem? (i := 1298) (by decide +kernel)⟩
def lw_privs_4 : List (MethodName × Nat) := [(⟨"OneStatementModel", "store", "([III)V"⟩, 47), (⟨"OneStatementModel", "hand", "(I)Z"⟩, 47), (⟨"OneStatementModel", "of", "(I)I"⟩, 47), (⟨"OneStatementModel", "hasYear", "(I)Z"⟩, 47), (⟨"OneStatementModel", "deeds", "()I"⟩, 47), (⟨"OneStatementModel", "deedOf", "(II)I"⟩, 47), (⟨"OneStatementModel", "layAll", "(II)Z"⟩, 47), (⟨"OneStatementModel", "play", "(I)I"⟩, 47), (⟨"OneStatementModel", "doesDeed", "(I)Z"⟩, 47), (⟨"OneStatementModel", "does", "(IIII)Z"⟩, 47), (⟨"OneStatementModel", "eve", "()V"⟩, 47), (⟨"OneStatementModel", "isPerson", "(I)Z"⟩, 47), (⟨"OneStatementModel", "tells", "(II)Z"⟩, 47), (⟨"OneStatementModel", "hears", "(II)Z"⟩, 47), (⟨"OneStatementModel", "whole", "(I)I"⟩, 47), (⟨"OneStatementModel", "learns", "(II)V"⟩, 47)]
theorem lw_r4 : ∀ q ∈ lw_privs_4, lw_okq q := List.forall_mem_cons.mpr ⟨lw_p48, List.forall_mem_cons.mpr ⟨lw_p49, List.forall_mem_cons.mpr ⟨lw_p50, List.forall_mem_cons.mpr ⟨lw_p51, List.forall_mem_cons.mpr ⟨lw_p52, List.forall_mem_cons.mpr ⟨lw_p53, List.forall_mem_cons.mpr ⟨lw_p54, List.forall_mem_cons.mpr ⟨lw_p55, List.forall_mem_cons.mpr ⟨lw_p56, List.forall_mem_cons.mpr ⟨lw_p57, List.forall_mem_cons.mpr ⟨lw_p58, List.forall_mem_cons.mpr ⟨lw_p59, List.forall_mem_cons.mpr ⟨lw_p60, List.forall_mem_cons.mpr ⟨lw_p61, List.forall_mem_cons.mpr ⟨lw_p62, List.forall_mem_cons.mpr ⟨lw_p63, fun _ h => absurd h List.not_mem_nil⟩⟩⟩⟩⟩⟩⟩⟩⟩⟩⟩⟩⟩⟩⟩⟩
theorem lw_p64 : lw_okq (⟨"OneStatementModel", "asks", "(II)V"⟩, 47) := ⟨⟨by decide +kernel, by decide +kernel⟩, List.mem_of_getElem? (i := 966) (by decide +kernel), List.mem_of_getElem? (i := 1301) (by decide +kernel), List.mem_of_getElem? (i := 1302) (by decide +kernel)⟩
theorem lw_p65 : lw_okq (⟨"OneStatementModel", "sells", "(III)Z"⟩, 47) := ⟨⟨by decide +kernel, by decide +kernel⟩, List.mem_of_getElem? (i := 966) (by decide +kernel), List.mem_of_getElem? (i := 1305) (by decide +kernel), List.mem_of_getElem? (i := 1306) (by decide +kernel)⟩
theorem lw_p66 : lw_okq (⟨"OneStatementModel", "ofState", "(I)I"⟩, 47) := ⟨⟨by decide +kernel, by decide +kernel⟩, List.mem_of_getElem? (i := 966) (by decide +kernel), List.mem_of_getElem? (i := 1316) (by decide +kernel), List.mem_of_getElem? (i := 1317) (by decide +kernel)⟩
theorem lw_p67 : lw_okq (⟨"OneStatementModel", "findLeft", "(I)V"⟩, 47) := ⟨⟨by decide +kernel, by decide +kernel⟩, List.mem_of_getElem? (i := 966) (by decide +kernel), List.mem_of_getElem? (i := 1324) (by decide +kernel), List.mem_of_getElem? (i := 1325) (by decide +kernel)⟩
theorem lw_p68 : lw_okq (⟨"OneStatementModel", "toldBy", "(II)I"⟩, 47) := ⟨⟨by decide +kernel, by decide +kernel⟩, List.mem_of_getElem? (i := 966) (by decide +kernel), List.mem_of_getElem? (i := 1329) (by decide +kernel), List.mem_of_getElem? (i := 1330) (by decide +kernel)⟩
theorem lw_p69 : lw_okq (⟨"OneStatementModel", "knowers", "(I)I"⟩, 47) := ⟨⟨by decide +kernel, by decide +kernel⟩, List.mem_of_getElem? (i := 966) (by decide +kernel), List.mem_of_getElem? (i := 1333) (by decide +kernel), List.mem_of_getElem? (i := 1334) (by decide +kernel)⟩
theorem lw_p70 : lw_okq (⟨"OneStatementModel", "rows", "()I"⟩, 47) := ⟨⟨by decide +kernel, by decide +kernel⟩, List.mem_of_getElem? (i := 966) (by decide +kernel), List.mem_of_getElem? (i := 1345) (by decide +kernel), List.mem_of_getElem? (i := 1346) (by decide +kernel)⟩
theorem lw_p71 : lw_okq (⟨"OneStatementModel", "layRow", "(I)Z"⟩, 47) := ⟨⟨by decide +kernel, by decide +kernel⟩, List.mem_of_getElem? (i := 966) (by decide +kernel), List.mem_of_getElem? (i := 1349) (by decide +kernel), List.mem_of_getElem? (i := 1350) (by decide +kernel)⟩
theorem lw_p72 : lw_okq (⟨"OneStatementModel", "learntByRow", "()I"⟩, 47) := ⟨⟨by decide +kernel, by decide +kernel⟩, List.mem_of_getElem? (i := 966) (by decide +kernel), List.mem_of_getElem? (i := 1353) (by decide +kernel), List.mem_of_getElem? (i := 1354) (by decide +kernel)⟩
theorem lw_p73 : lw_okq (⟨"OneStatementModel", "worthOf", "(I)I"⟩, 47) := ⟨⟨by decide +kernel, by decide +kernel⟩, List.mem_of_getElem? (i := 966) (by decide +kernel), List.mem_of_getElem? (i := 1357) (by decide +kernel), List.mem_of_getElem? (i := 1358) (by decide +kernel)⟩
theorem lw_p74 : lw_okq (⟨"OneStatementModel", "findCouples", "(Z)V"⟩, 47) := ⟨⟨by decide +kernel, by decide +kernel⟩, List.mem_of_getElem? (i := 966) (by decide +kernel), List.mem_of_getElem? (i := 1365) (by decide +kernel), List.mem_of_getElem? (i := 1366) (by decide +kernel)⟩
theorem lw_p75 : lw_okq (⟨"OneStatementModel", "coupleBy", "(IIIZ)I"⟩, 47) := ⟨⟨by decide +kernel, by decide +kernel⟩, List.mem_of_getElem? (i := 966) (by decide +kernel), List.mem_of_getElem? (i := 1369) (by decide +kernel), List.mem_of_getElem? (i := 1370) (by decide +kernel)⟩
theorem lw_p76 : lw_okq (⟨"OneStatementModel", "couple", "(IIZ)I"⟩, 47) := ⟨⟨by decide +kernel, by decide +kernel⟩, List.mem_of_getElem? (i := 966) (by decide +kernel), List.mem_of_getElem? (i := 1373) (by decide +kernel), List.mem_of_getElem? (i := 1374) (by decide +kernel)⟩
theorem lw_p77 : lw_okq (⟨"OneStatementModel", "bestOf", "(IZ)I"⟩, 47) := ⟨⟨by decide +kernel, by decide +kernel⟩, List.mem_of_getElem? (i := 966) (by decide +kernel), List.mem_of_getElem? (i := 1381) (by decide +kernel), List.mem_of_getElem? (i := 1382) (by decide +kernel)⟩
theorem lw_p78 : lw_okq (⟨"OneStatementModel", "learntOf", "(II)I"⟩, 47) := ⟨⟨by decide +kernel, by decide +kernel⟩, List.mem_of_getElem? (i := 966) (by decide +kernel), List.mem_of_getElem? (i := 1385) (by decide +kernel), List.mem_of_getElem? (i := 1386) (by decide +kernel)⟩
theorem lw_p79 : lw_okq (⟨"OneStatementModel", "layCouples", "(Z)V"⟩, 47) := ⟨⟨by decide +kernel, by decide +kernel⟩, List.mem_of_getElem? (i := 966) (by decide +kernel), List.mem_of_getElem? (i := 1389) (by decide +kernel), List.mem_of_getElem? (i := 1390) (by decide +kernel)⟩
def lw_privs_5 : List (MethodName × Nat) := [(⟨"OneStatementModel", "asks", "(II)V"⟩, 47), (⟨"OneStatementModel", "sells", "(III)Z"⟩, 47), (⟨"OneStatementModel", "ofState", "(I)I"⟩, 47), (⟨"OneStatementModel", "findLeft", "(I)V"⟩, 47), (⟨"OneStatementModel", "toldBy", "(II)I"⟩, 47), (⟨"OneStatementModel", "knowers", "(I)I"⟩, 47), (⟨"OneStatementModel", "rows", "()I"⟩, 47), (⟨"OneStatementModel", "layRow", "(I)Z"⟩, 47), (⟨"OneStatementModel", "learntByRow", "()I"⟩, 47), (⟨"OneStatementModel", "worthOf", "(I)I"⟩, 47), (⟨"OneStatementModel", "findCouples", "(Z)V"⟩, 47), (⟨"OneStatementModel", "coupleBy", "(IIIZ)I"⟩, 47), (⟨"OneStatementModel", "couple", "(IIZ)I"⟩, 47), (⟨"OneStatementModel", "bestOf", "(IZ)I"⟩, 47), (⟨"OneStatementModel", "learntOf", "(II)I"⟩, 47), (⟨"OneStatementModel", "layCouples", "(Z)V"⟩, 47)]
theorem lw_r5 : ∀ q ∈ lw_privs_5, lw_okq q := List.forall_mem_cons.mpr ⟨lw_p64, List.forall_mem_cons.mpr ⟨lw_p65, List.forall_mem_cons.mpr ⟨lw_p66, List.forall_mem_cons.mpr ⟨lw_p67, List.forall_mem_cons.mpr ⟨lw_p68, List.forall_mem_cons.mpr ⟨lw_p69, List.forall_mem_cons.mpr ⟨lw_p70, List.forall_mem_cons.mpr ⟨lw_p71, List.forall_mem_cons.mpr ⟨lw_p72, List.forall_mem_cons.mpr ⟨lw_p73, List.forall_mem_cons.mpr ⟨lw_p74, List.forall_mem_cons.mpr ⟨lw_p75, List.forall_mem_cons.mpr ⟨lw_p76, List.forall_mem_cons.mpr ⟨lw_p77, List.forall_mem_cons.mpr ⟨lw_p78, List.forall_mem_cons.mpr ⟨lw_p79, fun _ h => absurd h List.not_mem_nil⟩⟩⟩⟩⟩⟩⟩⟩⟩⟩⟩⟩⟩⟩⟩⟩
theorem lw_p80 : lw_okq (⟨"OneStatementModel", "leastHeap", "(I)I"⟩, 47) := ⟨⟨by decide +kernel, by decide +kernel⟩, List.mem_of_getElem? (i := 966) (by decide +kernel), List.mem_of_getElem? (i := 1397) (by decide +kernel), List.mem_of_getElem? (i := 1398) (by decide +kernel)⟩
theorem lw_p81 : lw_okq (⟨"OneStatementModel", "endOf", "(II)I"⟩, 47) := ⟨⟨by decide +kernel, by decide +kernel⟩, List.mem_of_getElem? (i := 966) (by decide +kernel), List.mem_of_getElem? (i := 1419) (by decide +kernel), List.mem_of_getElem? (i := 1420) (by decide +kernel)⟩
theorem lw_p82 : lw_okq (⟨"OneStatementModel", "forget", "()V"⟩, 47) := ⟨⟨by decide +kernel, by decide +kernel⟩, List.mem_of_getElem? (i := 966) (by decide +kernel), List.mem_of_getElem? (i := 1423) (by decide +kernel), List.mem_of_getElem? (i := 1424) (by decide +kernel)⟩
theorem lw_p83 : lw_okq (⟨"OneStatementModel", "nowTold", "(II)I"⟩, 47) := ⟨⟨by decide +kernel, by decide +kernel⟩, List.mem_of_getElem? (i := 966) (by decide +kernel), List.mem_of_getElem? (i := 1427) (by decide +kernel), List.mem_of_getElem? (i := 1428) (by decide +kernel)⟩
theorem lw_p84 : lw_okq (⟨"OneStatementModel", "fold", "(IZ)I"⟩, 47) := ⟨⟨by decide +kernel, by decide +kernel⟩, List.mem_of_getElem? (i := 966) (by decide +kernel), List.mem_of_getElem? (i := 1431) (by decide +kernel), List.mem_of_getElem? (i := 1432) (by decide +kernel)⟩
theorem lw_p85 : lw_okq (⟨"OneStatementModel", "hasLog", "(I)Z"⟩, 47) := ⟨⟨by decide +kernel, by decide +kernel⟩, List.mem_of_getElem? (i := 966) (by decide +kernel), List.mem_of_getElem? (i := 1439) (by decide +kernel), List.mem_of_getElem? (i := 1440) (by decide +kernel)⟩
theorem lw_p86 : lw_okq (⟨"OneStatementModel", "linesOf", "()I"⟩, 47) := ⟨⟨by decide +kernel, by decide +kernel⟩, List.mem_of_getElem? (i := 966) (by decide +kernel), List.mem_of_getElem? (i := 1443) (by decide +kernel), List.mem_of_getElem? (i := 1444) (by decide +kernel)⟩
theorem lw_p87 : lw_okq (⟨"OneStatementModel", "lineOf", "(II)I"⟩, 47) := ⟨⟨by decide +kernel, by decide +kernel⟩, List.mem_of_getElem? (i := 966) (by decide +kernel), List.mem_of_getElem? (i := 1447) (by decide +kernel), List.mem_of_getElem? (i := 1448) (by decide +kernel)⟩
theorem lw_p88 : lw_okq (⟨"OneStatementModel", "layLog", "(II)Z"⟩, 47) := ⟨⟨by decide +kernel, by decide +kernel⟩, List.mem_of_getElem? (i := 966) (by decide +kernel), List.mem_of_getElem? (i := 1455) (by decide +kernel), List.mem_of_getElem? (i := 1456) (by decide +kernel)⟩
theorem lw_p89 : lw_okq (⟨"OneStatementModel", "isFit", "(I)Z"⟩, 47) := ⟨⟨by decide +kernel, by decide +kernel⟩, List.mem_of_getElem? (i := 966) (by decide +kernel), List.mem_of_getElem? (i := 1459) (by decide +kernel), List.mem_of_getElem? (i := 1460) (by decide +kernel)⟩
theorem lw_p90 : lw_okq (⟨"OneStatementModel", "closed", "(I)I"⟩, 47) := ⟨⟨by decide +kernel, by decide +kernel⟩, List.mem_of_getElem? (i := 966) (by decide +kernel), List.mem_of_getElem? (i := 1463) (by decide +kernel), List.mem_of_getElem? (i := 1464) (by decide +kernel)⟩
theorem lw_p91 : lw_okq (⟨"OneStatementModel", "sure", "()I"⟩, 47) := ⟨⟨by decide +kernel, by decide +kernel⟩, List.mem_of_getElem? (i := 966) (by decide +kernel), List.mem_of_getElem? (i := 1467) (by decide +kernel), List.mem_of_getElem? (i := 1468) (by decide +kernel)⟩
theorem lw_p92 : lw_okq (⟨"OneStatementModel", "next", "()I"⟩, 47) := ⟨⟨by decide +kernel, by decide +kernel⟩, List.mem_of_getElem? (i := 966) (by decide +kernel), List.mem_of_getElem? (i := 1471) (by decide +kernel), List.mem_of_getElem? (i := 1472) (by decide +kernel)⟩
theorem lw_p93 : lw_okq (⟨"OneStatementModel", "manyHave", "(I)I"⟩, 47) := ⟨⟨by decide +kernel, by decide +kernel⟩, List.mem_of_getElem? (i := 966) (by decide +kernel), List.mem_of_getElem? (i := 1475) (by decide +kernel), List.mem_of_getElem? (i := 1476) (by decide +kernel)⟩
theorem lw_p94 : lw_okq (⟨"OneStatementModel", "whose", "()I"⟩, 47) := ⟨⟨by decide +kernel, by decide +kernel⟩, List.mem_of_getElem? (i := 966) (by decide +kernel), List.mem_of_getElem? (i := 1479) (by decide +kernel), List.mem_of_getElem? (i := 1480) (by decide +kernel)⟩
theorem lw_p95 : lw_okq (⟨"OneStatementModel", "drawDeed", "()V"⟩, 47) := ⟨⟨by decide +kernel, by decide +kernel⟩, List.mem_of_getElem? (i := 966) (by decide +kernel), List.mem_of_getElem? (i := 1487) (by decide +kernel), List.mem_of_getElem? (i := 1488) (by decide +kernel)⟩
def lw_privs_6 : List (MethodName × Nat) := [(⟨"OneStatementModel", "leastHeap", "(I)I"⟩, 47), (⟨"OneStatementModel", "endOf", "(II)I"⟩, 47), (⟨"OneStatementModel", "forget", "()V"⟩, 47), (⟨"OneStatementModel", "nowTold", "(II)I"⟩, 47), (⟨"OneStatementModel", "fold", "(IZ)I"⟩, 47), (⟨"OneStatementModel", "hasLog", "(I)Z"⟩, 47), (⟨"OneStatementModel", "linesOf", "()I"⟩, 47), (⟨"OneStatementModel", "lineOf", "(II)I"⟩, 47), (⟨"OneStatementModel", "layLog", "(II)Z"⟩, 47), (⟨"OneStatementModel", "isFit", "(I)Z"⟩, 47), (⟨"OneStatementModel", "closed", "(I)I"⟩, 47), (⟨"OneStatementModel", "sure", "()I"⟩, 47), (⟨"OneStatementModel", "next", "()I"⟩, 47), (⟨"OneStatementModel", "manyHave", "(I)I"⟩, 47), (⟨"OneStatementModel", "whose", "()I"⟩, 47), (⟨"OneStatementModel", "drawDeed", "()V"⟩, 47)]
theorem lw_r6 : ∀ q ∈ lw_privs_6, lw_okq q := List.forall_mem_cons.mpr ⟨lw_p80, List.forall_mem_cons.mpr ⟨lw_p81, List.forall_mem_cons.mpr ⟨lw_p82, List.forall_mem_cons.mpr ⟨lw_p83, List.forall_mem_cons.mpr ⟨lw_p84, List.forall_mem_cons.mpr ⟨lw_p85, List.forall_mem_cons.mpr ⟨lw_p86, List.forall_mem_cons.mpr ⟨lw_p87, List.forall_mem_cons.mpr ⟨lw_p88, List.forall_mem_cons.mpr ⟨lw_p89, List.forall_mem_cons.mpr ⟨lw_p90, List.forall_mem_cons.mpr ⟨lw_p91, List.forall_mem_cons.mpr ⟨lw_p92, List.forall_mem_cons.mpr ⟨lw_p93, List.forall_mem_cons.mpr ⟨lw_p94, List.forall_mem_cons.mpr ⟨lw_p95, fun _ h => absurd h List.not_mem_nil⟩⟩⟩⟩⟩⟩⟩⟩⟩⟩⟩⟩⟩⟩⟩⟩
theorem lw_p96 : lw_okq (⟨"OneStatementModel", "draw", "(I)I"⟩, 47) := ⟨⟨by decide +kernel, by decide +kernel⟩, List.mem_of_getElem? (i := 966) (by decide +kernel), List.mem_of_getElem? (i := 1491) (by decide +kernel), List.mem_of_getElem? (i := 1492) (by decide +kernel)⟩
theorem lw_p97 : lw_okq (⟨"OneStatementModel", "rootSet", "()I"⟩, 47) := ⟨⟨by decide +kernel, by decide +kernel⟩, List.mem_of_getElem? (i := 966) (by decide +kernel), List.mem_of_getElem? (i := 1500) (by decide +kernel), List.mem_of_getElem? (i := 1501) (by decide +kernel)⟩
theorem lw_p98 : lw_okq (⟨"OneStatementModel", "rings", "(Z)I"⟩, 47) := ⟨⟨by decide +kernel, by decide +kernel⟩, List.mem_of_getElem? (i := 966) (by decide +kernel), List.mem_of_getElem? (i := 1504) (by decide +kernel), List.mem_of_getElem? (i := 1505) (by decide +kernel)⟩
theorem lw_p99 : lw_okq (⟨"OneStatementModel", "ringOf", "(I)I"⟩, 47) := ⟨⟨by decide +kernel, by decide +kernel⟩, List.mem_of_getElem? (i := 966) (by decide +kernel), List.mem_of_getElem? (i := 1508) (by decide +kernel), List.mem_of_getElem? (i := 1509) (by decide +kernel)⟩
theorem lw_p100 : lw_okq (⟨"OneStatementModel", "closedOnes", "()I"⟩, 47) := ⟨⟨by decide +kernel, by decide +kernel⟩, List.mem_of_getElem? (i := 966) (by decide +kernel), List.mem_of_getElem? (i := 1512) (by decide +kernel), List.mem_of_getElem? (i := 1513) (by decide +kernel)⟩
theorem lw_p101 : lw_okq (⟨"OneStatementModel", "dearest", "()I"⟩, 47) := ⟨⟨by decide +kernel, by decide +kernel⟩, List.mem_of_getElem? (i := 966) (by decide +kernel), List.mem_of_getElem? (i := 1516) (by decide +kernel), List.mem_of_getElem? (i := 1517) (by decide +kernel)⟩
theorem lw_p102 : lw_okq (⟨"OneStatementModel", "knownBy", "(I)I"⟩, 47) := ⟨⟨by decide +kernel, by decide +kernel⟩, List.mem_of_getElem? (i := 966) (by decide +kernel), List.mem_of_getElem? (i := 1520) (by decide +kernel), List.mem_of_getElem? (i := 1521) (by decide +kernel)⟩
theorem lw_p103 : lw_okq (⟨"OneStatementModel", "findChains", "()V"⟩, 47) := ⟨⟨by decide +kernel, by decide +kernel⟩, List.mem_of_getElem? (i := 966) (by decide +kernel), List.mem_of_getElem? (i := 1528) (by decide +kernel), List.mem_of_getElem? (i := 1529) (by decide +kernel)⟩
theorem lw_p104 : lw_okq (⟨"OneStatementModel", "chainBy", "(III)I"⟩, 47) := ⟨⟨by decide +kernel, by decide +kernel⟩, List.mem_of_getElem? (i := 966) (by decide +kernel), List.mem_of_getElem? (i := 1532) (by decide +kernel), List.mem_of_getElem? (i := 1533) (by decide +kernel)⟩
theorem lw_p105 : lw_okq (⟨"OneStatementModel", "reachOf", "(I)I"⟩, 47) := ⟨⟨by decide +kernel, by decide +kernel⟩, List.mem_of_getElem? (i := 966) (by decide +kernel), List.mem_of_getElem? (i := 1540) (by decide +kernel), List.mem_of_getElem? (i := 1541) (by decide +kernel)⟩
theorem lw_p106 : lw_okq (⟨"OneStatementModel", "loudest", "()I"⟩, 47) := ⟨⟨by decide +kernel, by decide +kernel⟩, List.mem_of_getElem? (i := 966) (by decide +kernel), List.mem_of_getElem? (i := 1544) (by decide +kernel), List.mem_of_getElem? (i := 1545) (by decide +kernel)⟩
theorem lw_p107 : lw_okq (⟨"OneStatementModel", "hearers", "(I)I"⟩, 47) := ⟨⟨by decide +kernel, by decide +kernel⟩, List.mem_of_getElem? (i := 966) (by decide +kernel), List.mem_of_getElem? (i := 1548) (by decide +kernel), List.mem_of_getElem? (i := 1549) (by decide +kernel)⟩
theorem lw_p108 : lw_okq (⟨"OneStatementModel", "deaf", "()I"⟩, 47) := ⟨⟨by decide +kernel, by decide +kernel⟩, List.mem_of_getElem? (i := 966) (by decide +kernel), List.mem_of_getElem? (i := 1552) (by decide +kernel), List.mem_of_getElem? (i := 1553) (by decide +kernel)⟩
theorem lw_p109 : lw_okq (⟨"OneStatementModel", "choir", "()I"⟩, 47) := ⟨⟨by decide +kernel, by decide +kernel⟩, List.mem_of_getElem? (i := 966) (by decide +kernel), List.mem_of_getElem? (i := 1556) (by decide +kernel), List.mem_of_getElem? (i := 1557) (by decide +kernel)⟩
theorem lw_p110 : lw_okq (⟨"OneStatementModel", "twins", "()I"⟩, 47) := ⟨⟨by decide +kernel, by decide +kernel⟩, List.mem_of_getElem? (i := 966) (by decide +kernel), List.mem_of_getElem? (i := 1560) (by decide +kernel), List.mem_of_getElem? (i := 1561) (by decide +kernel)⟩
theorem lw_p111 : lw_okq (⟨"OneStatementModel", "cover", "()I"⟩, 47) := ⟨⟨by decide +kernel, by decide +kernel⟩, List.mem_of_getElem? (i := 966) (by decide +kernel), List.mem_of_getElem? (i := 1564) (by decide +kernel), List.mem_of_getElem? (i := 1565) (by decide +kernel)⟩
def lw_privs_7 : List (MethodName × Nat) := [(⟨"OneStatementModel", "draw", "(I)I"⟩, 47), (⟨"OneStatementModel", "rootSet", "()I"⟩, 47), (⟨"OneStatementModel", "rings", "(Z)I"⟩, 47), (⟨"OneStatementModel", "ringOf", "(I)I"⟩, 47), (⟨"OneStatementModel", "closedOnes", "()I"⟩, 47), (⟨"OneStatementModel", "dearest", "()I"⟩, 47), (⟨"OneStatementModel", "knownBy", "(I)I"⟩, 47), (⟨"OneStatementModel", "findChains", "()V"⟩, 47), (⟨"OneStatementModel", "chainBy", "(III)I"⟩, 47), (⟨"OneStatementModel", "reachOf", "(I)I"⟩, 47), (⟨"OneStatementModel", "loudest", "()I"⟩, 47), (⟨"OneStatementModel", "hearers", "(I)I"⟩, 47), (⟨"OneStatementModel", "deaf", "()I"⟩, 47), (⟨"OneStatementModel", "choir", "()I"⟩, 47), (⟨"OneStatementModel", "twins", "()I"⟩, 47), (⟨"OneStatementModel", "cover", "()I"⟩, 47)]
theorem lw_r7 : ∀ q ∈ lw_privs_7, lw_okq q := List.forall_mem_cons.mpr ⟨lw_p96, List.forall_mem_cons.mpr ⟨lw_p97, List.forall_mem_cons.mpr ⟨lw_p98, List.forall_mem_cons.mpr ⟨lw_p99, List.forall_mem_cons.mpr ⟨lw_p100, List.forall_mem_cons.mpr ⟨lw_p101, List.forall_mem_cons.mpr ⟨lw_p102, List.forall_mem_cons.mpr ⟨lw_p103, List.forall_mem_cons.mpr ⟨lw_p104, List.forall_mem_cons.mpr ⟨lw_p105, List.forall_mem_cons.mpr ⟨lw_p106, List.forall_mem_cons.mpr ⟨lw_p107, List.forall_mem_cons.mpr ⟨lw_p108, List.forall_mem_cons.mpr ⟨lw_p109, List.forall_mem_cons.mpr ⟨lw_p110, List.forall_mem_cons.mpr ⟨lw_p111, fun _ h => absurd h List.not_mem_nil⟩⟩⟩⟩⟩⟩⟩⟩⟩⟩⟩⟩⟩⟩⟩⟩
theorem lw_p112 : lw_okq (⟨"OneStatementModel", "knownOf", "(I)I"⟩, 47) := ⟨⟨by decide +kernel, by decide +kernel⟩, List.mem_of_getElem? (i := 966) (by decide +kernel), List.mem_of_getElem? (i := 1568) (by decide +kernel), List.mem_of_getElem? (i := 1569) (by decide +kernel)⟩
theorem lw_p113 : lw_okq (⟨"OneStatementModel", "most", "(I)I"⟩, 47) := ⟨⟨by decide +kernel, by decide +kernel⟩, List.mem_of_getElem? (i := 966) (by decide +kernel), List.mem_of_getElem? (i := 1593) (by decide +kernel), List.mem_of_getElem? (i := 1594) (by decide +kernel)⟩
theorem lw_p114 : lw_okq (⟨"OneStatementModel", "copyAll", "(II)V"⟩, 47) := ⟨⟨by decide +kernel, by decide +kernel⟩, List.mem_of_getElem? (i := 966) (by decide +kernel), List.mem_of_getElem? (i := 1613) (by decide +kernel), List.mem_of_getElem? (i := 1614) (by decide +kernel)⟩
def lw_privs_8 : List (MethodName × Nat) := [(⟨"OneStatementModel", "knownOf", "(I)I"⟩, 47), (⟨"OneStatementModel", "most", "(I)I"⟩, 47), (⟨"OneStatementModel", "copyAll", "(II)V"⟩, 47)]
theorem lw_r8 : ∀ q ∈ lw_privs_8, lw_okq q := List.forall_mem_cons.mpr ⟨lw_p112, List.forall_mem_cons.mpr ⟨lw_p113, List.forall_mem_cons.mpr ⟨lw_p114, fun _ h => absurd h List.not_mem_nil⟩⟩⟩
def lw_privs : List (MethodName × Nat) := lw_privs_1 ++ (lw_privs_2 ++ (lw_privs_3 ++ (lw_privs_4 ++ (lw_privs_5 ++ (lw_privs_6 ++ (lw_privs_7 ++ (lw_privs_8)))))))
def lw_tbl : List Cond := k2_sels lw_privs ++ tables_1
theorem lw_privs_ok : ∀ q ∈ lw_privs, lw_okq q := by
  show ∀ q ∈ lw_privs_1 ++ (lw_privs_2 ++ (lw_privs_3 ++ (lw_privs_4 ++ (lw_privs_5 ++ (lw_privs_6 ++ (lw_privs_7 ++ (lw_privs_8))))))), lw_okq q
  exact List.forall_mem_append.mpr ⟨lw_r1, List.forall_mem_append.mpr ⟨lw_r2, List.forall_mem_append.mpr ⟨lw_r3, List.forall_mem_append.mpr ⟨lw_r4, List.forall_mem_append.mpr ⟨lw_r5, List.forall_mem_append.mpr ⟨lw_r6, List.forall_mem_append.mpr ⟨lw_r7, lw_r8⟩⟩⟩⟩⟩⟩⟩
end
section
def RX0 : String := "OneStatement$Fraction"
def TX0 : u_T := fun k => match k with
  | _ => ("", "", "", false)
def tyX0 : Nat → FieldType := fun k => match k with
  | _ => .int
abbrev cX0_sumOfBetter : ByteArray := prog_2_method_2_code
def yX0_sumOfBetter : MethodName := ⟨RX0, "sumOfBetter", "(IJJ)J"⟩
abbrev cX0_upward : ByteArray := prog_2_method_3_code
def yX0_upward : MethodName := ⟨RX0, "upward", "(JJ)J"⟩
abbrev cX0_part : ByteArray := prog_2_method_4_code
def yX0_part : MethodName := ⟨RX0, "part", "(JJZ)J"⟩
abbrev cX0_commonOf : ByteArray := prog_2_method_5_code
def yX0_commonOf : MethodName := ⟨RX0, "commonOf", "(JJ)J"⟩
def RX1 : String := "OneStatement$Play"
def TX1 : u_T := fun k => match k with
  | 0 => ("OneStatement$Play", "done", "I", false)
  | 1 => ("OneStatement$Play", "fire", "I", false)
  | 2 => ("OneStatement$Play", "guessed", "I", false)
  | 3 => ("OneStatement$Play", "cows", "[I", true)
  | 4 => ("OneStatement$Play", "lostBy", "[I", true)
  | 5 => ("OneStatement$Play", "toldOf", "[I", true)
  | 6 => ("OneStatement$Play", "people", "I", false)
  | 7 => ("OneStatement$Play", "years", "I", false)
  | 8 => ("OneStatement$Play", "tellings", "I", false)
  | 9 => ("OneStatement$Play", "lost", "I", false)
  | 10 => ("OneStatement$Play", "seed", "I", false)
  | 11 => ("OneStatement$Play", "statements", "[I", true)
  | 12 => ("OneStatement$Play", "known", "[I", true)
  | _ => ("OneStatement$Play", "suspected", "[I", true)
def tyX1 : Nat → FieldType := fun k => match k with
  | 0 => .int
  | 1 => .int
  | 2 => .int
  | 3 => .array .int
  | 4 => .array .int
  | 5 => .array .int
  | 6 => .int
  | 7 => .int
  | 8 => .int
  | 9 => .int
  | 10 => .int
  | 11 => .array .int
  | 12 => .array .int
  | _ => .array .int
abbrev cX1_init : ByteArray := prog_3_method_1_code
def yX1_init : MethodName := ⟨RX1, "<init>", "()V"⟩
abbrev cX1_begin : ByteArray := prog_3_method_2_code
def yX1_begin : MethodName := ⟨RX1, "begin", "(LOneStatement$Town;)V"⟩
abbrev cX1_playAll : ByteArray := prog_3_method_3_code
def yX1_playAll : MethodName := ⟨RX1, "playAll", "(LOneStatement$Town;LOneStatement$Rows;)V"⟩
abbrev cX1_play : ByteArray := prog_3_method_4_code
def yX1_play : MethodName := ⟨RX1, "play", "(LOneStatement$Town;LOneStatement$Rows;I)V"⟩
abbrev cX1_goes : ByteArray := prog_3_method_5_code
def yX1_goes : MethodName := ⟨RX1, "goes", "(LOneStatement$Town;IIII)Z"⟩
abbrev cX1_passEve : ByteArray := prog_3_method_6_code
def yX1_passEve : MethodName := ⟨RX1, "passEve", "()V"⟩
abbrev cX1_sells : ByteArray := prog_3_method_7_code
def yX1_sells : MethodName := ⟨RX1, "sells", "(III)Z"⟩
abbrev cX1_speaks : ByteArray := prog_3_method_8_code
def yX1_speaks : MethodName := ⟨RX1, "speaks", "(LOneStatement$Town;III)Z"⟩
abbrev cX1_tells : ByteArray := prog_3_method_9_code
def yX1_tells : MethodName := ⟨RX1, "tells", "(LOneStatement$Town;II)Z"⟩
abbrev cX1_asks : ByteArray := prog_3_method_10_code
def yX1_asks : MethodName := ⟨RX1, "asks", "(LOneStatement$Town;II)V"⟩
abbrev cX1_learns : ByteArray := prog_3_method_11_code
def yX1_learns : MethodName := ⟨RX1, "learns", "(LOneStatement$Town;II)V"⟩
abbrev cX1_drawFrom : ByteArray := prog_3_method_12_code
def yX1_drawFrom : MethodName := ⟨RX1, "drawFrom", "(LOneStatement$Town;II)V"⟩
abbrev cX1_drawDeed : ByteArray := prog_3_method_13_code
def yX1_drawDeed : MethodName := ⟨RX1, "drawDeed", "(LOneStatement$Town;)V"⟩
abbrev cX1_drawSale : ByteArray := prog_3_method_14_code
def yX1_drawSale : MethodName := ⟨RX1, "drawSale", "(LOneStatement$Town;)V"⟩
abbrev cX1_below : ByteArray := prog_3_method_15_code
def yX1_below : MethodName := ⟨RX1, "below", "(I)I"⟩
abbrev cX1_answer : ByteArray := prog_3_method_16_code
def yX1_answer : MethodName := ⟨RX1, "answer", "(I)I"⟩
abbrev cX1_wisest : ByteArray := prog_3_method_17_code
def yX1_wisest : MethodName := ⟨RX1, "wisest", "(LOneStatement$Town;)I"⟩
def RX2 : String := "OneStatement$Reader"
def TX2 : u_T := fun k => match k with
  | 0 => ("OneStatement$Reader", "fault", "I", false)
  | 1 => ("OneStatement$Reader", "place", "I", false)
  | 2 => ("OneStatement$Reader", "lines", "[I", true)
  | 3 => ("OneStatement$Reader", "size", "I", false)
  | 4 => ("OneStatement$Reader", "limited", "I", false)
  | 5 => ("OneStatement$Reader", "at", "I", false)
  | 6 => ("OneStatement$Reader", "token", "I", false)
  | 7 => ("OneStatement$Reader", "start", "I", false)
  | _ => ("OneStatement$Reader", "number", "I", false)
def tyX2 : Nat → FieldType := fun k => match k with
  | 0 => .int
  | 1 => .int
  | 2 => .array .int
  | 3 => .int
  | 4 => .int
  | 5 => .int
  | 6 => .int
  | 7 => .int
  | _ => .int
abbrev cX2_init : ByteArray := prog_4_method_1_code
def yX2_init : MethodName := ⟨RX2, "<init>", "()V"⟩
abbrev cX2_read : ByteArray := prog_4_method_2_code
def yX2_read : MethodName := ⟨RX2, "read", "([BII)V"⟩
abbrev cX2_readLine : ByteArray := prog_4_method_3_code
def yX2_readLine : MethodName := ⟨RX2, "readLine", "([BII)Z"⟩
abbrev cX2_countLine : ByteArray := prog_4_method_4_code
def yX2_countLine : MethodName := ⟨RX2, "countLine", "(II)V"⟩
abbrev cX2_mostOf : ByteArray := prog_4_method_5_code
def yX2_mostOf : MethodName := ⟨RX2, "mostOf", "(II)I"⟩
abbrev cX2_isTheFirstAgain : ByteArray := prog_4_method_6_code
def yX2_isTheFirstAgain : MethodName := ⟨RX2, "isTheFirstAgain", "(III)Z"⟩
abbrev cX2_refuse : ByteArray := prog_4_method_7_code
def yX2_refuse : MethodName := ⟨RX2, "refuse", "()Z"⟩
abbrev cX2_blame : ByteArray := prog_4_method_8_code
def yX2_blame : MethodName := ⟨RX2, "blame", "(II)V"⟩
abbrev cX2_tellsOfMissing : ByteArray := prog_4_method_9_code
def yX2_tellsOfMissing : MethodName := ⟨RX2, "tellsOfMissing", "()Z"⟩
abbrev cX2_nextToken : ByteArray := prog_4_method_10_code
def yX2_nextToken : MethodName := ⟨RX2, "nextToken", "([BI)V"⟩
abbrev cX2_readNumber : ByteArray := prog_4_method_11_code
def yX2_readNumber : MethodName := ⟨RX2, "readNumber", "([BI)V"⟩
abbrev cX2_isLetter : ByteArray := prog_4_method_12_code
def yX2_isLetter : MethodName := ⟨RX2, "isLetter", "(I)Z"⟩
abbrev cX2_isDigit : ByteArray := prog_4_method_13_code
def yX2_isDigit : MethodName := ⟨RX2, "isDigit", "(I)Z"⟩
abbrev cX2_wordOf : ByteArray := prog_4_method_14_code
def yX2_wordOf : MethodName := ⟨RX2, "wordOf", "([BI)I"⟩
abbrev cX2_isWritten : ByteArray := prog_4_method_15_code
def yX2_isWritten : MethodName := ⟨RX2, "isWritten", "([BLjava/lang/String;)Z"⟩
abbrev cX2_nameOf : ByteArray := prog_4_method_16_code
def yX2_nameOf : MethodName := ⟨RX2, "nameOf", "(I)Ljava/lang/String;"⟩
abbrev cX2_toTown : ByteArray := prog_4_method_17_code
def yX2_toTown : MethodName := ⟨RX2, "toTown", "()LOneStatement$Town;"⟩
abbrev cX2_toRows : ByteArray := prog_4_method_18_code
def yX2_toRows : MethodName := ⟨RX2, "toRows", "(I)LOneStatement$Rows;"⟩
def RX3 : String := "OneStatement$Rows"
def TX3 : u_T := fun k => match k with
  | 0 => ("OneStatement$Rows", "size", "I", true)
  | _ => ("OneStatement$Rows", "numbers", "[I", true)
def tyX3 : Nat → FieldType := fun k => match k with
  | 0 => .int
  | _ => .array .int
abbrev cX3_init : ByteArray := prog_5_method_1_code
def yX3_init : MethodName := ⟨RX3, "<init>", "(I)V"⟩
abbrev cX3_at : ByteArray := prog_5_method_2_code
def yX3_at : MethodName := ⟨RX3, "at", "(II)I"⟩
abbrev cX3_answer : ByteArray := prog_5_method_3_code
def yX3_answer : MethodName := ⟨RX3, "answer", "(III)I"⟩
def RX4 : String := "OneStatement$Search"
def TX4 : u_T := fun k => match k with
  | 0 => ("OneStatement$Search", "most", "I", false)
  | 1 => ("OneStatement$Search", "firstMove", "I", false)
  | 2 => ("OneStatement$Search", "row", "[I", true)
  | 3 => ("OneStatement$Search", "trial", "[I", true)
  | 4 => ("OneStatement$Search", "heard", "[I", true)
  | 5 => ("OneStatement$Search", "hope", "[I", true)
  | 6 => ("OneStatement$Search", "couples", "[I", true)
  | 7 => ("OneStatement$Search", "bests", "[I", true)
  | _ => ("OneStatement$Search", "wedding", "Z", false)
def tyX4 : Nat → FieldType := fun k => match k with
  | 0 => .int
  | 1 => .int
  | 2 => .array .int
  | 3 => .array .int
  | 4 => .array .int
  | 5 => .array .int
  | 6 => .array .int
  | 7 => .array .int
  | _ => .boolean
abbrev cX4_init : ByteArray := prog_6_method_1_code
def yX4_init : MethodName := ⟨RX4, "<init>", "()V"⟩
abbrev cX4_found : ByteArray := prog_6_method_2_code
def yX4_found : MethodName := ⟨RX4, "found", "(I)I"⟩
abbrev cX4_keep : ByteArray := prog_6_method_3_code
def yX4_keep : MethodName := ⟨RX4, "keep", "(I)V"⟩
abbrev cX4_ring : ByteArray := prog_6_method_4_code
def yX4_ring : MethodName := ⟨RX4, "ring", "(LOneStatement$Town;)V"⟩
abbrev cX4_ringFrom : ByteArray := prog_6_method_5_code
def yX4_ringFrom : MethodName := ⟨RX4, "ringFrom", "(LOneStatement$Town;II)V"⟩
abbrev cX4_hearFrom : ByteArray := prog_6_method_6_code
def yX4_hearFrom : MethodName := ⟨RX4, "hearFrom", "(LOneStatement$Town;III)I"⟩
abbrev cX4_wed : ByteArray := prog_6_method_7_code
def yX4_wed : MethodName := ⟨RX4, "wed", "(LOneStatement$Town;)V"⟩
abbrev cX4_trade : ByteArray := prog_6_method_8_code
def yX4_trade : MethodName := ⟨RX4, "trade", "(LOneStatement$Town;)V"⟩
abbrev cX4_pairFrom : ByteArray := prog_6_method_9_code
def yX4_pairFrom : MethodName := ⟨RX4, "pairFrom", "(LOneStatement$Town;III)V"⟩
abbrev cX4_link : ByteArray := prog_6_method_10_code
def yX4_link : MethodName := ⟨RX4, "link", "(LOneStatement$Town;)V"⟩
abbrev cX4_linkFrom : ByteArray := prog_6_method_11_code
def yX4_linkFrom : MethodName := ⟨RX4, "linkFrom", "(LOneStatement$Town;III)V"⟩
abbrev cX4_takeTurns : ByteArray := prog_6_method_12_code
def yX4_takeTurns : MethodName := ⟨RX4, "takeTurns", "(LOneStatement$Town;I)V"⟩
abbrev cX4_leadOf : ByteArray := prog_6_method_13_code
def yX4_leadOf : MethodName := ⟨RX4, "leadOf", "(LOneStatement$Town;III)I"⟩
abbrev cX4_leadBy : ByteArray := prog_6_method_14_code
def yX4_leadBy : MethodName := ⟨RX4, "leadBy", "(LOneStatement$Town;IIIII)I"⟩
def RX5 : String := "OneStatement$Sets"
def TX5 : u_T := fun k => match k with
  | _ => ("", "", "", false)
def tyX5 : Nat → FieldType := fun k => match k with
  | _ => .int
abbrev cX5_fitting : ByteArray := prog_7_method_2_code
def yX5_fitting : MethodName := ⟨RX5, "fitting", "(LOneStatement$Town;LOneStatement$Rows;)J"⟩
abbrev cX5_inAll : ByteArray := prog_7_method_3_code
def yX5_inAll : MethodName := ⟨RX5, "inAll", "(J)I"⟩
abbrev cX5_halving : ByteArray := prog_7_method_4_code
def yX5_halving : MethodName := ⟨RX5, "halving", "(J)I"⟩
abbrev cX5_whose : ByteArray := prog_7_method_5_code
def yX5_whose : MethodName := ⟨RX5, "whose", "(LOneStatement$Town;J)I"⟩
abbrev cX5_nth : ByteArray := prog_7_method_6_code
def yX5_nth : MethodName := ⟨RX5, "nth", "(JI)I"⟩
abbrev cX5_smallest : ByteArray := prog_7_method_7_code
def yX5_smallest : MethodName := ⟨RX5, "smallest", "(J)I"⟩
abbrev cX5_largest : ByteArray := prog_7_method_8_code
def yX5_largest : MethodName := ⟨RX5, "largest", "(J)I"⟩
abbrev cX5_has : ByteArray := prog_7_method_9_code
def yX5_has : MethodName := ⟨RX5, "has", "(JI)Z"⟩
def RX6 : String := "OneStatement$Spread"
def TX6 : u_T := fun k => match k with
  | _ => ("OneStatement$Spread", "toGo", "[I", true)
def tyX6 : Nat → FieldType := fun k => match k with
  | _ => .array .int
abbrev cX6_init : ByteArray := prog_8_method_1_code
def yX6_init : MethodName := ⟨RX6, "<init>", "()V"⟩
abbrev cX6_tellers : ByteArray := prog_8_method_2_code
def yX6_tellers : MethodName := ⟨RX6, "tellers", "(LOneStatement$Town;II)I"⟩
abbrev cX6_measure : ByteArray := prog_8_method_3_code
def yX6_measure : MethodName := ⟨RX6, "measure", "(LOneStatement$Town;)V"⟩
abbrev cX6_firstTeller : ByteArray := prog_8_method_4_code
def yX6_firstTeller : MethodName := ⟨RX6, "firstTeller", "(LOneStatement$Town;I)I"⟩
abbrev cX6_steps : ByteArray := prog_8_method_5_code
def yX6_steps : MethodName := ⟨RX6, "steps", "(LOneStatement$Town;II)I"⟩
abbrev cX6_withHearers : ByteArray := prog_8_method_6_code
def yX6_withHearers : MethodName := ⟨RX6, "withHearers", "(LOneStatement$Town;I)I"⟩
abbrev cX6_audience : ByteArray := prog_8_method_7_code
def yX6_audience : MethodName := ⟨RX6, "audience", "(LOneStatement$Town;I)I"⟩
abbrev cX6_loudest : ByteArray := prog_8_method_8_code
def yX6_loudest : MethodName := ⟨RX6, "loudest", "(LOneStatement$Town;)I"⟩
abbrev cX6_deaf : ByteArray := prog_8_method_9_code
def yX6_deaf : MethodName := ⟨RX6, "deaf", "(LOneStatement$Town;)I"⟩
abbrev cX6_choir : ByteArray := prog_8_method_10_code
def yX6_choir : MethodName := ⟨RX6, "choir", "(LOneStatement$Town;)I"⟩
abbrev cX6_noneHears : ByteArray := prog_8_method_11_code
def yX6_noneHears : MethodName := ⟨RX6, "noneHears", "(LOneStatement$Town;I)Z"⟩
abbrev cX6_twins : ByteArray := prog_8_method_12_code
def yX6_twins : MethodName := ⟨RX6, "twins", "(LOneStatement$Town;)I"⟩
abbrev cX6_cover : ByteArray := prog_8_method_13_code
def yX6_cover : MethodName := ⟨RX6, "cover", "(LOneStatement$Town;)I"⟩
abbrev cX6_knownTogether : ByteArray := prog_8_method_14_code
def yX6_knownTogether : MethodName := ⟨RX6, "knownTogether", "(LOneStatement$Town;I)I"⟩
def RX7 : String := "OneStatement$Told"
def TX7 : u_T := fun k => match k with
  | 0 => ("OneStatement$Told", "tape", "[B", true)
  | 1 => ("OneStatement$Told", "length", "I", false)
  | 2 => ("OneStatement$Told", "fault", "I", false)
  | 3 => ("OneStatement$Told", "place", "I", false)
  | 4 => ("OneStatement$Told", "towns", "[LOneStatement$Town;", true)
  | 5 => ("OneStatement$Told", "years", "[LOneStatement$Rows;", true)
  | 6 => ("OneStatement$Told", "logs", "[LOneStatement$Rows;", true)
  | _ => ("OneStatement$Told", "counts", "[I", true)
def tyX7 : Nat → FieldType := fun k => match k with
  | 0 => .array .byte
  | 1 => .int
  | 2 => .int
  | 3 => .int
  | 4 => .array (.object "OneStatement$Town")
  | 5 => .array (.object "OneStatement$Rows")
  | 6 => .array (.object "OneStatement$Rows")
  | _ => .array .int
abbrev cX7_init : ByteArray := prog_9_method_1_code
def yX7_init : MethodName := ⟨RX7, "<init>", "()V"⟩
abbrev cX7_append : ByteArray := prog_9_method_2_code
def yX7_append : MethodName := ⟨RX7, "append", "(I)V"⟩
abbrev cX7_howMany : ByteArray := prog_9_method_3_code
def yX7_howMany : MethodName := ⟨RX7, "howMany", "(I)I"⟩
abbrev cX7_townAt : ByteArray := prog_9_method_4_code
def yX7_townAt : MethodName := ⟨RX7, "townAt", "(I)LOneStatement$Town;"⟩
abbrev cX7_yearAt : ByteArray := prog_9_method_5_code
def yX7_yearAt : MethodName := ⟨RX7, "yearAt", "(I)LOneStatement$Rows;"⟩
abbrev cX7_logAt : ByteArray := prog_9_method_6_code
def yX7_logAt : MethodName := ⟨RX7, "logAt", "(I)LOneStatement$Rows;"⟩
abbrev cX7_put : ByteArray := prog_9_method_7_code
def yX7_put : MethodName := ⟨RX7, "put", "(LOneStatement$Reader;II)V"⟩
abbrev cX7_become : ByteArray := prog_9_method_8_code
def yX7_become : MethodName := ⟨RX7, "become", "(LOneStatement$Told;)V"⟩
def RX8 : String := "OneStatement$Town"
def TX8 : u_T := fun k => match k with
  | 0 => ("OneStatement$Town", "people", "I", false)
  | 1 => ("OneStatement$Town", "worth", "[I", true)
  | 2 => ("OneStatement$Town", "follows", "[I", true)
  | 3 => ("OneStatement$Town", "cows", "[I", true)
  | 4 => ("OneStatement$Town", "known", "[I", true)
  | 5 => ("OneStatement$Town", "hears", "[I", true)
  | 6 => ("OneStatement$Town", "heardBy", "[I", true)
  | 7 => ("OneStatement$Town", "worthOf", "[I", true)
  | _ => ("OneStatement$Town", "closed", "J", false)
def tyX8 : Nat → FieldType := fun k => match k with
  | 0 => .int
  | 1 => .array .int
  | 2 => .array .int
  | 3 => .array .int
  | 4 => .array .int
  | 5 => .array .int
  | 6 => .array .int
  | 7 => .array .int
  | _ => .long
abbrev cX8_init : ByteArray := prog_10_method_1_code
def yX8_init : MethodName := ⟨RX8, "<init>", "()V"⟩
abbrev cX8_take : ByteArray := prog_10_method_2_code
def yX8_take : MethodName := ⟨RX8, "take", "(III)V"⟩
abbrev cX8_settle : ByteArray := prog_10_method_3_code
def yX8_settle : MethodName := ⟨RX8, "settle", "()V"⟩
abbrev cX8_has : ByteArray := prog_10_method_4_code
def yX8_has : MethodName := ⟨RX8, "has", "(I)Z"⟩
abbrev cX8_knows : ByteArray := prog_10_method_5_code
def yX8_knows : MethodName := ⟨RX8, "knows", "(II)Z"⟩
abbrev cX8_everyone : ByteArray := prog_10_method_6_code
def yX8_everyone : MethodName := ⟨RX8, "everyone", "()I"⟩
abbrev cX8_answer : ByteArray := prog_10_method_7_code
def yX8_answer : MethodName := ⟨RX8, "answer", "(I)I"⟩
abbrev cX8_withAll : ByteArray := prog_10_method_8_code
def yX8_withAll : MethodName := ⟨RX8, "withAll", "(I)I"⟩
abbrev cX8_wholeOf : ByteArray := prog_10_method_9_code
def yX8_wholeOf : MethodName := ⟨RX8, "wholeOf", "(I)I"⟩
abbrev cX8_whoKnow : ByteArray := prog_10_method_10_code
def yX8_whoKnow : MethodName := ⟨RX8, "whoKnow", "(I)I"⟩
abbrev cX8_knownBy : ByteArray := prog_10_method_11_code
def yX8_knownBy : MethodName := ⟨RX8, "knownBy", "(I)I"⟩
abbrev cX8_whole : ByteArray := prog_10_method_12_code
def yX8_whole : MethodName := ⟨RX8, "whole", "(I)I"⟩
abbrev cX8_dearest : ByteArray := prog_10_method_13_code
def yX8_dearest : MethodName := ⟨RX8, "dearest", "()I"⟩
abbrev cX8_rootFacts : ByteArray := prog_10_method_14_code
def yX8_rootFacts : MethodName := ⟨RX8, "rootFacts", "()I"⟩
abbrev cX8_ringOf : ByteArray := prog_10_method_15_code
def yX8_ringOf : MethodName := ⟨RX8, "ringOf", "(I)I"⟩
abbrev cX8_rings : ByteArray := prog_10_method_16_code
def yX8_rings : MethodName := ⟨RX8, "rings", "()I"⟩
abbrev cX8_largestRing : ByteArray := prog_10_method_17_code
def yX8_largestRing : MethodName := ⟨RX8, "largestRing", "()I"⟩
abbrev cX8_codeLength : ByteArray := prog_10_method_18_code
def yX8_codeLength : MethodName := ⟨RX8, "codeLength", "()I"⟩
abbrev cX8_moveLeastTo : ByteArray := prog_10_method_19_code
def yX8_moveLeastTo : MethodName := ⟨RX8, "moveLeastTo", "([II)V"⟩
abbrev cX8_gain : ByteArray := prog_10_method_20_code
def yX8_gain : MethodName := ⟨RX8, "gain", "(II)I"⟩
abbrev cX8_bestFact : ByteArray := prog_10_method_21_code
def yX8_bestFact : MethodName := ⟨RX8, "bestFact", "(I)I"⟩
abbrev cX8_bestGain : ByteArray := prog_10_method_22_code
def yX8_bestGain : MethodName := ⟨RX8, "bestGain", "(I)I"⟩
abbrev cX8_sixtiethsOfLuck : ByteArray := prog_10_method_23_code
def yX8_sixtiethsOfLuck : MethodName := ⟨RX8, "sixtiethsOfLuck", "(I)J"⟩
def RX9 : String := "OneStatement"
def TX9 : u_T := fun k => match k with
  | 0 => ("OneStatement", "told", "LOneStatement$Told;", true)
  | 1 => ("OneStatement", "images", "[LOneStatement$Told;", true)
  | 2 => ("OneStatement", "reader", "LOneStatement$Reader;", true)
  | 3 => ("OneStatement", "play", "LOneStatement$Play;", true)
  | 4 => ("OneStatement", "search", "LOneStatement$Search;", true)
  | _ => ("OneStatement", "spread", "LOneStatement$Spread;", true)
def tyX9 : Nat → FieldType := fun k => match k with
  | 0 => .object "OneStatement$Told"
  | 1 => .array (.object "OneStatement$Told")
  | 2 => .object "OneStatement$Reader"
  | 3 => .object "OneStatement$Play"
  | 4 => .object "OneStatement$Search"
  | _ => .object "OneStatement$Spread"
abbrev cX9_init : ByteArray := prog_1_method_1_code
def yX9_init : MethodName := ⟨RX9, "<init>", "()V"⟩
abbrev cX9_feed : ByteArray := prog_1_method_2_code
def yX9_feed : MethodName := ⟨RX9, "feed", "(IIIII)I"⟩
abbrev cX9_end : ByteArray := prog_1_method_3_code
def yX9_end : MethodName := ⟨RX9, "end", "(I)I"⟩
abbrev cX9_text : ByteArray := prog_1_method_4_code
def yX9_text : MethodName := ⟨RX9, "text", "(II)I"⟩
abbrev cX9_fault : ByteArray := prog_1_method_5_code
def yX9_fault : MethodName := ⟨RX9, "fault", "(I)I"⟩
abbrev cX9_town : ByteArray := prog_1_method_6_code
def yX9_town : MethodName := ⟨RX9, "town", "(II)I"⟩
abbrev cX9_deed : ByteArray := prog_1_method_7_code
def yX9_deed : MethodName := ⟨RX9, "deed", "(III)I"⟩
abbrev cX9_till : ByteArray := prog_1_method_8_code
def yX9_till : MethodName := ⟨RX9, "till", "(II)I"⟩
abbrev cX9_state : ByteArray := prog_1_method_9_code
def yX9_state : MethodName := ⟨RX9, "state", "(IIII)I"⟩
abbrev cX9_tellings : ByteArray := prog_1_method_10_code
def yX9_tellings : MethodName := ⟨RX9, "tellings", "(III)I"⟩
abbrev cX9_message : ByteArray := prog_1_method_11_code
def yX9_message : MethodName := ⟨RX9, "message", "(III)I"⟩
abbrev cX9_bell : ByteArray := prog_1_method_12_code
def yX9_bell : MethodName := ⟨RX9, "bell", "(II)I"⟩
abbrev cX9_weddings : ByteArray := prog_1_method_13_code
def yX9_weddings : MethodName := ⟨RX9, "weddings", "(II)I"⟩
abbrev cX9_code : ByteArray := prog_1_method_14_code
def yX9_code : MethodName := ⟨RX9, "code", "(I)I"⟩
abbrev cX9_save : ByteArray := prog_1_method_15_code
def yX9_save : MethodName := ⟨RX9, "save", "(III)J"⟩
abbrev cX9_byTurns : ByteArray := prog_1_method_16_code
def yX9_byTurns : MethodName := ⟨RX9, "byTurns", "(IIZ)I"⟩
abbrev cX9_fact : ByteArray := prog_1_method_17_code
def yX9_fact : MethodName := ⟨RX9, "fact", "(III)I"⟩
abbrev cX9_fits : ByteArray := prog_1_method_18_code
def yX9_fits : MethodName := ⟨RX9, "fits", "(III)I"⟩
abbrev cX9_drawn : ByteArray := prog_1_method_19_code
def yX9_drawn : MethodName := ⟨RX9, "drawn", "(IIII)I"⟩
abbrev cX9_roots : ByteArray := prog_1_method_20_code
def yX9_roots : MethodName := ⟨RX9, "roots", "(II)I"⟩
abbrev cX9_chain : ByteArray := prog_1_method_21_code
def yX9_chain : MethodName := ⟨RX9, "chain", "(II)I"⟩
abbrev cX9_reach : ByteArray := prog_1_method_22_code
def yX9_reach : MethodName := ⟨RX9, "reach", "(II)I"⟩
abbrev cX9_learnt : ByteArray := prog_1_method_23_code
def yX9_learnt : MethodName := ⟨RX9, "learnt", "(III)I"⟩
abbrev cX9_best : ByteArray := prog_1_method_24_code
def yX9_best : MethodName := ⟨RX9, "best", "(IIZ)I"⟩
abbrev cX9_sales : ByteArray := prog_1_method_25_code
def yX9_sales : MethodName := ⟨RX9, "sales", "(II)I"⟩
abbrev cX9_luck : ByteArray := prog_1_method_26_code
def yX9_luck : MethodName := ⟨RX9, "luck", "(IIZ)J"⟩
abbrev cX9_after : ByteArray := prog_1_method_27_code
def yX9_after : MethodName := ⟨RX9, "after", "(III)I"⟩
abbrev cX9_share : ByteArray := prog_1_method_28_code
def yX9_share : MethodName := ⟨RX9, "share", "(IIIZ)J"⟩
abbrev cX9_fewest : ByteArray := prog_1_method_29_code
def yX9_fewest : MethodName := ⟨RX9, "fewest", "(IIZ)I"⟩
abbrev cX9_count : ByteArray := prog_1_method_30_code
def yX9_count : MethodName := ⟨RX9, "count", "(I)I"⟩
abbrev cX9_image : ByteArray := prog_1_method_31_code
def yX9_image : MethodName := ⟨RX9, "image", "(I)Z"⟩
abbrev cX9_again : ByteArray := prog_1_method_32_code
def yX9_again : MethodName := ⟨RX9, "again", "(I)Z"⟩
abbrev cX9_isFact : ByteArray := prog_1_method_33_code
def yX9_isFact : MethodName := ⟨RX9, "isFact", "(I)Z"⟩
abbrev cX9_isRowIndex : ByteArray := prog_1_method_34_code
def yX9_isRowIndex : MethodName := ⟨RX9, "isRowIndex", "(LOneStatement$Town;I)Z"⟩
abbrev cX9_isIn : ByteArray := prog_1_method_35_code
def yX9_isIn : MethodName := ⟨RX9, "isIn", "(II)Z"⟩
abbrev cX9_greatest : ByteArray := prog_1_method_36_code
def yX9_greatest : MethodName := ⟨RX9, "greatest", "([III)I"⟩
def RX10 : String := "OneStatementModel"
def TX10 : u_T := fun k => match k with
  | 0 => ("OneStatementModel", "code", "I", false)
  | 1 => ("OneStatementModel", "tape", "[B", true)
  | 2 => ("OneStatementModel", "size", "[I", true)
  | 3 => ("OneStatementModel", "fault", "[I", true)
  | 4 => ("OneStatementModel", "faultPlace", "[I", true)
  | 5 => ("OneStatementModel", "many", "[I", true)
  | 6 => ("OneStatementModel", "towns", "[I", true)
  | 7 => ("OneStatementModel", "years", "[I", true)
  | 8 => ("OneStatementModel", "logs", "[I", true)
  | 9 => ("OneStatementModel", "reached", "I", false)
  | 10 => ("OneStatementModel", "length", "I", false)
  | 11 => ("OneStatementModel", "begins", "I", false)
  | 12 => ("OneStatementModel", "sort", "I", false)
  | 13 => ("OneStatementModel", "value", "I", false)
  | 14 => ("OneStatementModel", "word", "J", false)
  | 15 => ("OneStatementModel", "wrongAt", "I", false)
  | 16 => ("OneStatementModel", "laterFault", "I", false)
  | 17 => ("OneStatementModel", "laterPlace", "I", false)
  | 18 => ("OneStatementModel", "told", "[I", true)
  | 19 => ("OneStatementModel", "read", "[I", true)
  | 20 => ("OneStatementModel", "farOne", "I", false)
  | 21 => ("OneStatementModel", "good", "Z", false)
  | 22 => ("OneStatementModel", "town", "I", false)
  | 23 => ("OneStatementModel", "people", "I", false)
  | 24 => ("OneStatementModel", "when", "I", false)
  | 25 => ("OneStatementModel", "toldAll", "I", false)
  | 26 => ("OneStatementModel", "lost", "I", false)
  | 27 => ("OneStatementModel", "guessed", "I", false)
  | 28 => ("OneStatementModel", "statements", "[I", true)
  | 29 => ("OneStatementModel", "cows", "[I", true)
  | 30 => ("OneStatementModel", "mind", "[I", true)
  | 31 => ("OneStatementModel", "hunch", "[I", true)
  | 32 => ("OneStatementModel", "lostBy", "[I", true)
  | 33 => ("OneStatementModel", "toldOf", "[I", true)
  | 34 => ("OneStatementModel", "year", "I", false)
  | 35 => ("OneStatementModel", "left", "[I", true)
  | 36 => ("OneStatementModel", "row", "[I", true)
  | 37 => ("OneStatementModel", "couples", "[I", true)
  | 38 => ("OneStatementModel", "heaps", "[I", true)
  | 39 => ("OneStatementModel", "ends", "[I", true)
  | 40 => ("OneStatementModel", "which", "I", false)
  | 41 => ("OneStatementModel", "log", "I", false)
  | 42 => ("OneStatementModel", "fitting", "[I", true)
  | 43 => ("OneStatementModel", "found", "I", false)
  | 44 => ("OneStatementModel", "seed", "I", false)
  | 45 => ("OneStatementModel", "chains", "[I", true)
  | _ => ("OneStatementModel", "saved", "[Z", true)
def tyX10 : Nat → FieldType := fun k => match k with
  | 0 => .int
  | 1 => .array .byte
  | 2 => .array .int
  | 3 => .array .int
  | 4 => .array .int
  | 5 => .array .int
  | 6 => .array .int
  | 7 => .array .int
  | 8 => .array .int
  | 9 => .int
  | 10 => .int
  | 11 => .int
  | 12 => .int
  | 13 => .int
  | 14 => .long
  | 15 => .int
  | 16 => .int
  | 17 => .int
  | 18 => .array .int
  | 19 => .array .int
  | 20 => .int
  | 21 => .boolean
  | 22 => .int
  | 23 => .int
  | 24 => .int
  | 25 => .int
  | 26 => .int
  | 27 => .int
  | 28 => .array .int
  | 29 => .array .int
  | 30 => .array .int
  | 31 => .array .int
  | 32 => .array .int
  | 33 => .array .int
  | 34 => .int
  | 35 => .array .int
  | 36 => .array .int
  | 37 => .array .int
  | 38 => .array .int
  | 39 => .array .int
  | 40 => .int
  | 41 => .int
  | 42 => .array .int
  | 43 => .int
  | 44 => .int
  | 45 => .array .int
  | _ => .array .boolean
abbrev cX10_init : ByteArray := prog_12_method_1_code
def yX10_init : MethodName := ⟨RX10, "<init>", "()V"⟩
abbrev cX10_in : ByteArray := prog_12_method_3_code
def yX10_in : MethodName := ⟨RX10, "in", "(III)Z"⟩
abbrev cX10_has : ByteArray := prog_12_method_4_code
def yX10_has : MethodName := ⟨RX10, "has", "(II)Z"⟩
abbrev cX10_greater : ByteArray := prog_12_method_5_code
def yX10_greater : MethodName := ⟨RX10, "greater", "(II)I"⟩
abbrev cX10_lesser : ByteArray := prog_12_method_6_code
def yX10_lesser : MethodName := ⟨RX10, "lesser", "(II)I"⟩
abbrev cX10_ones : ByteArray := prog_12_method_7_code
def yX10_ones : MethodName := ⟨RX10, "ones", "(I)I"⟩
abbrev cX10_copyRow : ByteArray := prog_12_method_8_code
def yX10_copyRow : MethodName := ⟨RX10, "copyRow", "([IIII)V"⟩
abbrev cX10_copyAll : ByteArray := prog_12_method_9_code
def yX10_copyAll : MethodName := ⟨RX10, "copyAll", "(II)V"⟩
abbrev cX10_is : ByteArray := prog_12_method_10_code
def yX10_is : MethodName := ⟨RX10, "is", "(II)Z"⟩
abbrev cX10_feed : ByteArray := prog_12_method_11_code
def yX10_feed : MethodName := ⟨RX10, "feed", "(IIIII)I"⟩
abbrev cX10_four : ByteArray := prog_12_method_12_code
def yX10_four : MethodName := ⟨RX10, "four", "(I)V"⟩
abbrev cX10_end : ByteArray := prog_12_method_13_code
def yX10_end : MethodName := ⟨RX10, "end", "(I)I"⟩
abbrev cX10_see : ByteArray := prog_12_method_14_code
def yX10_see : MethodName := ⟨RX10, "see", "()I"⟩
abbrev cX10_token : ByteArray := prog_12_method_15_code
def yX10_token : MethodName := ⟨RX10, "token", "()V"⟩
abbrev cX10_fails : ByteArray := prog_12_method_16_code
def yX10_fails : MethodName := ⟨RX10, "fails", "()Z"⟩
abbrev cX10_later : ByteArray := prog_12_method_17_code
def yX10_later : MethodName := ⟨RX10, "later", "(II)V"⟩
abbrev cX10_takeBut : ByteArray := prog_12_method_18_code
def yX10_takeBut : MethodName := ⟨RX10, "takeBut", "(IIII)Z"⟩
abbrev cX10_take : ByteArray := prog_12_method_19_code
def yX10_take : MethodName := ⟨RX10, "take", "(III)Z"⟩
abbrev cX10_full : ByteArray := prog_12_method_20_code
def yX10_full : MethodName := ⟨RX10, "full", "(III)V"⟩
abbrev cX10_personLine : ByteArray := prog_12_method_21_code
def yX10_personLine : MethodName := ⟨RX10, "personLine", "()Z"⟩
abbrev cX10_twoLine : ByteArray := prog_12_method_22_code
def yX10_twoLine : MethodName := ⟨RX10, "twoLine", "(J)Z"⟩
abbrev cX10_townLine : ByteArray := prog_12_method_23_code
def yX10_townLine : MethodName := ⟨RX10, "townLine", "(JI)Z"⟩
abbrev cX10_keepRow : ByteArray := prog_12_method_24_code
def yX10_keepRow : MethodName := ⟨RX10, "keepRow", "(II)V"⟩
abbrev cX10_yearLine : ByteArray := prog_12_method_25_code
def yX10_yearLine : MethodName := ⟨RX10, "yearLine", "(JI)Z"⟩
abbrev cX10_logLine : ByteArray := prog_12_method_26_code
def yX10_logLine : MethodName := ⟨RX10, "logLine", "(JI)Z"⟩
abbrev cX10_lines : ByteArray := prog_12_method_27_code
def yX10_lines : MethodName := ⟨RX10, "lines", "(I)Z"⟩
abbrev cX10_close : ByteArray := prog_12_method_28_code
def yX10_close : MethodName := ⟨RX10, "close", "()V"⟩
abbrev cX10_readText : ByteArray := prog_12_method_29_code
def yX10_readText : MethodName := ⟨RX10, "readText", "(I)Z"⟩
abbrev cX10_store : ByteArray := prog_12_method_30_code
def yX10_store : MethodName := ⟨RX10, "store", "([III)V"⟩
abbrev cX10_text : ByteArray := prog_12_method_31_code
def yX10_text : MethodName := ⟨RX10, "text", "(II)I"⟩
abbrev cX10_fault : ByteArray := prog_12_method_32_code
def yX10_fault : MethodName := ⟨RX10, "fault", "(I)I"⟩
abbrev cX10_of : ByteArray := prog_12_method_33_code
def yX10_of : MethodName := ⟨RX10, "of", "(I)I"⟩
abbrev cX10_hand : ByteArray := prog_12_method_34_code
def yX10_hand : MethodName := ⟨RX10, "hand", "(I)Z"⟩
abbrev cX10_isPerson : ByteArray := prog_12_method_35_code
def yX10_isPerson : MethodName := ⟨RX10, "isPerson", "(I)Z"⟩
abbrev cX10_whole : ByteArray := prog_12_method_36_code
def yX10_whole : MethodName := ⟨RX10, "whole", "(I)I"⟩
abbrev cX10_hears : ByteArray := prog_12_method_37_code
def yX10_hears : MethodName := ⟨RX10, "hears", "(II)Z"⟩
abbrev cX10_worthOf : ByteArray := prog_12_method_38_code
def yX10_worthOf : MethodName := ⟨RX10, "worthOf", "(I)I"⟩
abbrev cX10_town : ByteArray := prog_12_method_39_code
def yX10_town : MethodName := ⟨RX10, "town", "(II)I"⟩
abbrev cX10_deeds : ByteArray := prog_12_method_40_code
def yX10_deeds : MethodName := ⟨RX10, "deeds", "()I"⟩
abbrev cX10_deedOf : ByteArray := prog_12_method_41_code
def yX10_deedOf : MethodName := ⟨RX10, "deedOf", "(II)I"⟩
abbrev cX10_hasYear : ByteArray := prog_12_method_42_code
def yX10_hasYear : MethodName := ⟨RX10, "hasYear", "(I)Z"⟩
abbrev cX10_deed : ByteArray := prog_12_method_43_code
def yX10_deed : MethodName := ⟨RX10, "deed", "(III)I"⟩
abbrev cX10_learns : ByteArray := prog_12_method_44_code
def yX10_learns : MethodName := ⟨RX10, "learns", "(II)V"⟩
abbrev cX10_tells : ByteArray := prog_12_method_45_code
def yX10_tells : MethodName := ⟨RX10, "tells", "(II)Z"⟩
abbrev cX10_asks : ByteArray := prog_12_method_46_code
def yX10_asks : MethodName := ⟨RX10, "asks", "(II)V"⟩
abbrev cX10_sells : ByteArray := prog_12_method_47_code
def yX10_sells : MethodName := ⟨RX10, "sells", "(III)Z"⟩
abbrev cX10_eve : ByteArray := prog_12_method_48_code
def yX10_eve : MethodName := ⟨RX10, "eve", "()V"⟩
abbrev cX10_does : ByteArray := prog_12_method_49_code
def yX10_does : MethodName := ⟨RX10, "does", "(IIII)Z"⟩
abbrev cX10_doesDeed : ByteArray := prog_12_method_50_code
def yX10_doesDeed : MethodName := ⟨RX10, "doesDeed", "(I)Z"⟩
abbrev cX10_play : ByteArray := prog_12_method_51_code
def yX10_play : MethodName := ⟨RX10, "play", "(I)I"⟩
abbrev cX10_layAll : ByteArray := prog_12_method_52_code
def yX10_layAll : MethodName := ⟨RX10, "layAll", "(II)Z"⟩
abbrev cX10_till : ByteArray := prog_12_method_53_code
def yX10_till : MethodName := ⟨RX10, "till", "(II)I"⟩
abbrev cX10_ofState : ByteArray := prog_12_method_54_code
def yX10_ofState : MethodName := ⟨RX10, "ofState", "(I)I"⟩
abbrev cX10_state : ByteArray := prog_12_method_55_code
def yX10_state : MethodName := ⟨RX10, "state", "(IIII)I"⟩
abbrev cX10_knowers : ByteArray := prog_12_method_56_code
def yX10_knowers : MethodName := ⟨RX10, "knowers", "(I)I"⟩
abbrev cX10_toldBy : ByteArray := prog_12_method_57_code
def yX10_toldBy : MethodName := ⟨RX10, "toldBy", "(II)I"⟩
abbrev cX10_findLeft : ByteArray := prog_12_method_58_code
def yX10_findLeft : MethodName := ⟨RX10, "findLeft", "(I)V"⟩
abbrev cX10_tellings : ByteArray := prog_12_method_59_code
def yX10_tellings : MethodName := ⟨RX10, "tellings", "(III)I"⟩
abbrev cX10_message : ByteArray := prog_12_method_60_code
def yX10_message : MethodName := ⟨RX10, "message", "(III)I"⟩
abbrev cX10_layRow : ByteArray := prog_12_method_61_code
def yX10_layRow : MethodName := ⟨RX10, "layRow", "(I)Z"⟩
abbrev cX10_learntByRow : ByteArray := prog_12_method_62_code
def yX10_learntByRow : MethodName := ⟨RX10, "learntByRow", "()I"⟩
abbrev cX10_rows : ByteArray := prog_12_method_63_code
def yX10_rows : MethodName := ⟨RX10, "rows", "()I"⟩
abbrev cX10_bell : ByteArray := prog_12_method_64_code
def yX10_bell : MethodName := ⟨RX10, "bell", "(II)I"⟩
abbrev cX10_couple : ByteArray := prog_12_method_65_code
def yX10_couple : MethodName := ⟨RX10, "couple", "(IIZ)I"⟩
abbrev cX10_coupleBy : ByteArray := prog_12_method_66_code
def yX10_coupleBy : MethodName := ⟨RX10, "coupleBy", "(IIIZ)I"⟩
abbrev cX10_findCouples : ByteArray := prog_12_method_67_code
def yX10_findCouples : MethodName := ⟨RX10, "findCouples", "(Z)V"⟩
abbrev cX10_layCouples : ByteArray := prog_12_method_68_code
def yX10_layCouples : MethodName := ⟨RX10, "layCouples", "(Z)V"⟩
abbrev cX10_weddings : ByteArray := prog_12_method_69_code
def yX10_weddings : MethodName := ⟨RX10, "weddings", "(II)I"⟩
abbrev cX10_leastHeap : ByteArray := prog_12_method_70_code
def yX10_leastHeap : MethodName := ⟨RX10, "leastHeap", "(I)I"⟩
abbrev cX10_code : ByteArray := prog_12_method_71_code
def yX10_code : MethodName := ⟨RX10, "code", "(I)I"⟩
abbrev cX10_common : ByteArray := prog_12_method_72_code
def yX10_common : MethodName := ⟨RX10, "common", "(JJ)J"⟩
abbrev cX10_part : ByteArray := prog_12_method_73_code
def yX10_part : MethodName := ⟨RX10, "part", "(JJZ)J"⟩
abbrev cX10_save : ByteArray := prog_12_method_74_code
def yX10_save : MethodName := ⟨RX10, "save", "(III)J"⟩
abbrev cX10_allEnds : ByteArray := prog_12_method_75_code
def yX10_allEnds : MethodName := ⟨RX10, "allEnds", "(I)I"⟩
abbrev cX10_forget : ByteArray := prog_12_method_76_code
def yX10_forget : MethodName := ⟨RX10, "forget", "()V"⟩
abbrev cX10_nowTold : ByteArray := prog_12_method_77_code
def yX10_nowTold : MethodName := ⟨RX10, "nowTold", "(II)I"⟩
abbrev cX10_endOf : ByteArray := prog_12_method_78_code
def yX10_endOf : MethodName := ⟨RX10, "endOf", "(II)I"⟩
abbrev cX10_fold : ByteArray := prog_12_method_79_code
def yX10_fold : MethodName := ⟨RX10, "fold", "(IZ)I"⟩
abbrev cX10_byTurns : ByteArray := prog_12_method_80_code
def yX10_byTurns : MethodName := ⟨RX10, "byTurns", "(IIZ)I"⟩
abbrev cX10_lineOf : ByteArray := prog_12_method_81_code
def yX10_lineOf : MethodName := ⟨RX10, "lineOf", "(II)I"⟩
abbrev cX10_linesOf : ByteArray := prog_12_method_82_code
def yX10_linesOf : MethodName := ⟨RX10, "linesOf", "()I"⟩
abbrev cX10_hasLog : ByteArray := prog_12_method_83_code
def yX10_hasLog : MethodName := ⟨RX10, "hasLog", "(I)Z"⟩
abbrev cX10_fact : ByteArray := prog_12_method_84_code
def yX10_fact : MethodName := ⟨RX10, "fact", "(III)I"⟩
abbrev cX10_closed : ByteArray := prog_12_method_85_code
def yX10_closed : MethodName := ⟨RX10, "closed", "(I)I"⟩
abbrev cX10_isFit : ByteArray := prog_12_method_86_code
def yX10_isFit : MethodName := ⟨RX10, "isFit", "(I)Z"⟩
abbrev cX10_layLog : ByteArray := prog_12_method_87_code
def yX10_layLog : MethodName := ⟨RX10, "layLog", "(II)Z"⟩
abbrev cX10_manyHave : ByteArray := prog_12_method_88_code
def yX10_manyHave : MethodName := ⟨RX10, "manyHave", "(I)I"⟩
abbrev cX10_sure : ByteArray := prog_12_method_89_code
def yX10_sure : MethodName := ⟨RX10, "sure", "()I"⟩
abbrev cX10_next : ByteArray := prog_12_method_90_code
def yX10_next : MethodName := ⟨RX10, "next", "()I"⟩
abbrev cX10_whose : ByteArray := prog_12_method_91_code
def yX10_whose : MethodName := ⟨RX10, "whose", "()I"⟩
abbrev cX10_fits : ByteArray := prog_12_method_92_code
def yX10_fits : MethodName := ⟨RX10, "fits", "(III)I"⟩
abbrev cX10_draw : ByteArray := prog_12_method_93_code
def yX10_draw : MethodName := ⟨RX10, "draw", "(I)I"⟩
abbrev cX10_drawDeed : ByteArray := prog_12_method_94_code
def yX10_drawDeed : MethodName := ⟨RX10, "drawDeed", "()V"⟩
abbrev cX10_drawn : ByteArray := prog_12_method_95_code
def yX10_drawn : MethodName := ⟨RX10, "drawn", "(IIII)I"⟩
abbrev cX10_rootSet : ByteArray := prog_12_method_96_code
def yX10_rootSet : MethodName := ⟨RX10, "rootSet", "()I"⟩
abbrev cX10_ringOf : ByteArray := prog_12_method_97_code
def yX10_ringOf : MethodName := ⟨RX10, "ringOf", "(I)I"⟩
abbrev cX10_rings : ByteArray := prog_12_method_98_code
def yX10_rings : MethodName := ⟨RX10, "rings", "(Z)I"⟩
abbrev cX10_closedOnes : ByteArray := prog_12_method_99_code
def yX10_closedOnes : MethodName := ⟨RX10, "closedOnes", "()I"⟩
abbrev cX10_dearest : ByteArray := prog_12_method_100_code
def yX10_dearest : MethodName := ⟨RX10, "dearest", "()I"⟩
abbrev cX10_knownBy : ByteArray := prog_12_method_101_code
def yX10_knownBy : MethodName := ⟨RX10, "knownBy", "(I)I"⟩
abbrev cX10_roots : ByteArray := prog_12_method_102_code
def yX10_roots : MethodName := ⟨RX10, "roots", "(II)I"⟩
abbrev cX10_chainBy : ByteArray := prog_12_method_103_code
def yX10_chainBy : MethodName := ⟨RX10, "chainBy", "(III)I"⟩
abbrev cX10_findChains : ByteArray := prog_12_method_104_code
def yX10_findChains : MethodName := ⟨RX10, "findChains", "()V"⟩
abbrev cX10_chain : ByteArray := prog_12_method_105_code
def yX10_chain : MethodName := ⟨RX10, "chain", "(II)I"⟩
abbrev cX10_reachOf : ByteArray := prog_12_method_106_code
def yX10_reachOf : MethodName := ⟨RX10, "reachOf", "(I)I"⟩
abbrev cX10_hearers : ByteArray := prog_12_method_107_code
def yX10_hearers : MethodName := ⟨RX10, "hearers", "(I)I"⟩
abbrev cX10_loudest : ByteArray := prog_12_method_108_code
def yX10_loudest : MethodName := ⟨RX10, "loudest", "()I"⟩
abbrev cX10_deaf : ByteArray := prog_12_method_109_code
def yX10_deaf : MethodName := ⟨RX10, "deaf", "()I"⟩
abbrev cX10_choir : ByteArray := prog_12_method_110_code
def yX10_choir : MethodName := ⟨RX10, "choir", "()I"⟩
abbrev cX10_twins : ByteArray := prog_12_method_111_code
def yX10_twins : MethodName := ⟨RX10, "twins", "()I"⟩
abbrev cX10_knownOf : ByteArray := prog_12_method_112_code
def yX10_knownOf : MethodName := ⟨RX10, "knownOf", "(I)I"⟩
abbrev cX10_cover : ByteArray := prog_12_method_113_code
def yX10_cover : MethodName := ⟨RX10, "cover", "()I"⟩
abbrev cX10_reach : ByteArray := prog_12_method_114_code
def yX10_reach : MethodName := ⟨RX10, "reach", "(II)I"⟩
abbrev cX10_learntOf : ByteArray := prog_12_method_115_code
def yX10_learntOf : MethodName := ⟨RX10, "learntOf", "(II)I"⟩
abbrev cX10_learnt : ByteArray := prog_12_method_116_code
def yX10_learnt : MethodName := ⟨RX10, "learnt", "(III)I"⟩
abbrev cX10_bestOf : ByteArray := prog_12_method_117_code
def yX10_bestOf : MethodName := ⟨RX10, "bestOf", "(IZ)I"⟩
abbrev cX10_best : ByteArray := prog_12_method_118_code
def yX10_best : MethodName := ⟨RX10, "best", "(IIZ)I"⟩
abbrev cX10_sales : ByteArray := prog_12_method_119_code
def yX10_sales : MethodName := ⟨RX10, "sales", "(II)I"⟩
abbrev cX10_luck : ByteArray := prog_12_method_120_code
def yX10_luck : MethodName := ⟨RX10, "luck", "(IIZ)J"⟩
abbrev cX10_most : ByteArray := prog_12_method_121_code
def yX10_most : MethodName := ⟨RX10, "most", "(I)I"⟩
abbrev cX10_after : ByteArray := prog_12_method_122_code
def yX10_after : MethodName := ⟨RX10, "after", "(III)I"⟩
abbrev cX10_share : ByteArray := prog_12_method_123_code
def yX10_share : MethodName := ⟨RX10, "share", "(IIIZ)J"⟩
abbrev cX10_fewest : ByteArray := prog_12_method_124_code
def yX10_fewest : MethodName := ⟨RX10, "fewest", "(IIZ)I"⟩
abbrev cX10_count : ByteArray := prog_12_method_125_code
def yX10_count : MethodName := ⟨RX10, "count", "(I)I"⟩
abbrev cX10_image : ByteArray := prog_12_method_126_code
def yX10_image : MethodName := ⟨RX10, "image", "(I)Z"⟩
abbrev cX10_again : ByteArray := prog_12_method_127_code
def yX10_again : MethodName := ⟨RX10, "again", "(I)Z"⟩
def RJx145de : String := "java/io/Serializable"
def RJx9f9b0 : String := "java/lang/CharSequence"
def RJx8e188 : String := "java/lang/Cloneable"
def RJxb160c : String := "java/lang/Comparable"
def RJ6 : String := "java/lang/Integer"
abbrev cJ6_numberOfTrailingZeros_0f7a4 : ByteArray := prog_14_method_48_code
def yJ6_numberOfTrailingZeros_0f7a4 : MethodName := ⟨RJ6, "numberOfTrailingZeros", "(I)I"⟩
abbrev cJ6_bitCount_0f7a4 : ByteArray := prog_14_method_49_code
def yJ6_bitCount_0f7a4 : MethodName := ⟨RJ6, "bitCount", "(I)I"⟩
def RJ13 : String := "java/lang/Long"
abbrev cJ13_bitCount_95d88 : ByteArray := prog_15_method_50_code
def yJ13_bitCount_95d88 : MethodName := ⟨RJ13, "bitCount", "(J)I"⟩
def RJ9 : String := "java/lang/Math"
abbrev cJ9_max_7cf53 : ByteArray := prog_16_method_65_code
def yJ9_max_7cf53 : MethodName := ⟨RJ9, "max", "(II)I"⟩
abbrev cJ9_max_f86c9 : ByteArray := prog_16_method_66_code
def yJ9_max_f86c9 : MethodName := ⟨RJ9, "max", "(JJ)J"⟩
abbrev cJ9_min_7cf53 : ByteArray := prog_16_method_69_code
def yJ9_min_7cf53 : MethodName := ⟨RJ9, "min", "(II)I"⟩
def RJ0 : String := "java/lang/String"
abbrev cJ0_length_8abf5 : ByteArray := prog_17_method_54_code
def yJ0_length_8abf5 : MethodName := ⟨RJ0, "length", "()I"⟩
abbrev cJ0_charAt_5068e : ByteArray := prog_17_method_56_code
def yJ0_charAt_5068e : MethodName := ⟨RJ0, "charAt", "(I)C"⟩
abbrev cJ0_coder_7d493 : ByteArray := prog_17_method_152_code
def yJ0_coder_7d493 : MethodName := ⟨RJ0, "coder", "()B"⟩
abbrev cJ0_isLatin1_aae02 : ByteArray := prog_17_method_154_code
def yJ0_isLatin1_aae02 : MethodName := ⟨RJ0, "isLatin1", "()Z"⟩
abbrev cJ0_checkIndex_df160 : ByteArray := prog_17_method_155_code
def yJ0_checkIndex_df160 : MethodName := ⟨RJ0, "checkIndex", "(II)V"⟩
def RJ1 : String := "java/lang/StringLatin1"
abbrev cJ1_charAt_3b067 : ByteArray := prog_18_method_2_code
def yJ1_charAt_3b067 : MethodName := ⟨RJ1, "charAt", "([BI)C"⟩
def RJ2 : String := "java/lang/StringUTF16"
abbrev cJ2_getChar_3b067 : ByteArray := prog_19_method_5_code
def yJ2_getChar_3b067 : MethodName := ⟨RJ2, "getChar", "([BI)C"⟩
abbrev cJ2_length_9d52b : ByteArray := prog_19_method_6_code
def yJ2_length_9d52b : MethodName := ⟨RJ2, "length", "([B)I"⟩
abbrev cJ2_charAt_3b067 : ByteArray := prog_19_method_83_code
def yJ2_charAt_3b067 : MethodName := ⟨RJ2, "charAt", "([BI)C"⟩
abbrev cJ2_checkIndex_2214a : ByteArray := prog_19_method_91_code
def yJ2_checkIndex_2214a : MethodName := ⟨RJ2, "checkIndex", "(I[B)V"⟩
def RJ10 : String := "java/lang/System"
def RJxfd54e : String := "java/lang/constant/Constable"
def RJx3cf43 : String := "java/lang/constant/ConstantDesc"
def RJ7 : String := "java/util/Arrays"
abbrev cJ7_fill_53178 : ByteArray := prog_21_method_103_code
def yJ7_fill_53178 : MethodName := ⟨RJ7, "fill", "([II)V"⟩
def RJ3 : String := "jdk/internal/util/Preconditions"
abbrev cJ3_checkIndex_8e157 : ByteArray := prog_22_method_11_code
def yJ3_checkIndex_8e157 : MethodName := ⟨RJ3, "checkIndex", "(IILjava/util/function/BiFunction;)I"⟩
def RL : String := "OneStatementLaw"
abbrev cL_law : ByteArray := code
def yL_law : MethodName := ⟨RL, "law", "([I)Z"⟩
abbrev vwCl : List vw_C := [(RX1, TX1, 14), (RX2, TX2, 9), (RX3, TX3, 2), (RX4, TX4, 9), (RX6, TX6, 1), (RX7, TX7, 8), (RX8, TX8, 9), (RX9, TX9, 6), (RX10, TX10, 47)]
end
section
/-! the constant places: references that the constructors lay once and for all, kinds and lengths of the places they make (by program: wip/whole/skel.py) -/
def qm_SK : List (List (Option Nat)) := [[some 1, some 7, some 8, some 10, some 17, some 24], [some 2, none, none, none, some 3, some 4, some 5, some 6], [], [], [], [], [], [], [none, none, some 9, none, none, none, none, none, none], [], [none, none, none, some 11, some 12, some 13, none, none, none, none, none, some 14, some 15, some 16], [], [], [], [], [], [], [none, none, some 18, some 19, some 20, some 21, some 22, some 23, none], [], [], [], [], [], [], [some 25], [], [none, some 27, some 28, some 29, some 30, some 31, some 32, some 33, some 34, none, none, none, none, none, none, none, none, none, some 35, some 36, none, none, none, none, none, none, none, none, some 37, some 38, some 39, some 40, some 41, some 42, none, some 43, some 44, some 45, some 46, some 47, none, none, some 48, none, none, some 49, some 50], [], [], [], [], [], [], [], [], [], [], [], [], [], [], [], [], [], [], [], [], [], [], [], []]
def qm_SKK : List (Nat × Nat) := [(7, 0), (5, 0), (9, 600), (14, 2), (12, 2), (12, 2), (10, 3), (13, 3), (1, 0), (10, 600), (0, 0), (10, 6), (10, 6), (10, 6), (10, 6), (10, 6), (10, 6), (3, 0), (10, 6), (10, 6), (10, 42), (10, 7), (10, 36), (10, 6), (4, 0), (10, 64), (8, 0), (9, 2400), (10, 4), (10, 4), (10, 4), (10, 12), (10, 248), (10, 1288), (10, 136), (10, 161), (10, 4), (10, 6), (10, 6), (10, 6), (10, 6), (10, 6), (10, 6), (10, 64), (10, 6), (10, 448), (10, 6), (10, 50653), (10, 64), (10, 448), (11, 3)]
/-- the kinds of the classes' fields: 0 an int, 1 a long, 2 a reference -/
def qm_FT : List (List Nat) := [[0, 0, 0, 2, 2, 2, 0, 0, 0, 0, 0, 2, 2, 2], [0, 0, 2, 0, 0, 0, 0, 0, 0], [0, 2], [0, 0, 2, 2, 2, 2, 2, 2, 0], [2], [2, 0, 0, 0, 2, 2, 2, 2], [0, 2, 2, 2, 2, 2, 2, 2, 1], [2, 2, 2, 2, 2, 2], [0, 2, 2, 2, 2, 2, 2, 2, 2, 0, 0, 0, 0, 0, 1, 0, 0, 0, 2, 2, 0, 0, 0, 0, 0, 0, 0, 0, 2, 2, 2, 2, 2, 2, 0, 2, 2, 2, 2, 2, 0, 0, 2, 0, 0, 2, 2]]
end
section
/-! THE PURE MACHINE: its heap by places (place p lies at the address sz0 + p), what it stands for, and the walk of it -/
abbrev qm_CI : Type := MethodName × ByteArray × Nat × Option FieldType
/-- an instruction: its pc, itself, numbers, a number, the method that it calls -/
abbrev qm_I : Type := Nat × ClassFile.Instr × List Nat × (Int32 × Int64) × qm_CI
/-- a method: the class's name, its name and code, its instructions -/
abbrev qm_M : Type := String × qm_CI × List qm_I
/-- the heap: ints, longs, references by place and slot; kind and length by place; how many places -/
abbrev qm_H : Type := (Nat → Nat → Int32) × (Nat → Nat → Int64) × (Nat → Nat → Option Nat) × (Nat → Nat × Nat) × Nat
abbrev qm_L : Type := List (Option Value)
/-- what a start fixes: classes and slots, array classes by kind, the heap's size, the addresses of the constants, constant places in force -/
abbrev qm_G : Type := va_G × (Nat → ClassId) × Nat × (Nat → Nat) × Bool
def qm_ad (G : qm_G) (p : Nat) : Nat := if p < 1000000 then G.2.2.1 + p else G.2.2.2.1 (p - 1000000)
def qm_mv (G : qm_G) : Value → Value
  | .ref p => .ref (qm_ad G p)
  | v => v
def qm_rd (b : Bool) (h : qm_H) (p k : Nat) : Option Nat := match (bif b then ((qm_SK[p]?).bind (fun r => r[k]?)).join else none) with
  | some q => some q
  | none => h.2.2.1 p k
def qm_kn (b : Bool) (h : qm_H) (p : Nat) : Nat × Nat := match (bif b then qm_SKK[p]? else none) with
  | some x => x
  | none => h.2.2.2.1 p
def qm_si (h : qm_H) (p k : Nat) (v : Int32) : qm_H := (va_up h.1 p (va_up (h.1 p) k v), h.2)
def qm_sl (h : qm_H) (p k : Nat) (v : Int64) : qm_H := (h.1, va_up h.2.1 p (va_up (h.2.1 p) k v), h.2.2)
def qm_sr (h : qm_H) (p k : Nat) (v : Option Nat) : qm_H := (h.1, h.2.1, va_up h.2.2.1 p (va_up (h.2.2.1 p) k v), h.2.2.2)
/-- a new place of a kind and length, all zero -/
def qm_nw (h : qm_H) (kd n : Nat) : qm_H := (va_up h.1 h.2.2.2.2 (fun _ => 0), va_up h.2.1 h.2.2.2.2 (fun _ => 0), va_up h.2.2.1 h.2.2.2.2 (fun _ => none), va_up h.2.2.2.1 h.2.2.2.2 (kd, n), h.2.2.2.2 + 1)
def qm_ft (ci k : Nat) : Nat := ((qm_FT[ci]?).getD []).getD k 2
def qm_et (kd : Nat) : Nat := if kd < 12 then 0 else 2
def qm_vl (G : qm_G) (h : qm_H) (p k t : Nat) : Value := match t with
  | 0 => .int (h.1 p k)
  | 1 => .long (h.2.1 p k)
  | 2 => va_rf ((qm_rd G.2.2.2.2 h p k).map (qm_ad G))
  | _ => .null
def qm_at (G : qm_G) (h : qm_H) (H : Heap) (p : Nat) : Prop :=
  if (qm_kn G.2.2.2.2 h p).1 < 9 then ∃ r : vw_C, vwCl[(qm_kn G.2.2.2.2 h p).1]? = some r ∧ t_OB (G.2.2.1 + p) (G.1.1 (qm_kn G.2.2.2.2 h p).1) r.2.2 (G.1.2 (qm_kn G.2.2.2.2 h p).1) H (fun k => qm_vl G h p k (qm_ft (qm_kn G.2.2.2.2 h p).1 k))
  else H[G.2.2.1 + p]? = some (arrV (G.2.1 (qm_kn G.2.2.2.2 h p).1) (qm_kn G.2.2.2.2 h p).2 (fun j => qm_vl G h p j (qm_et (qm_kn G.2.2.2.2 h p).1)))
def qm_Rep (G : qm_G) (h : qm_H) (H : Heap) : Prop := H.size = G.2.2.1 + h.2.2.2.2 ∧ h.2.2.2.2 ≤ 1000000 ∧ (G.2.2.2.2 = true → qm_SKK.length ≤ h.2.2.2.2) ∧ ∀ p, p < h.2.2.2.2 → qm_at G h H p
/-- the place p is of the kind kd -/
def qm_is (b : Bool) (h : qm_H) (p kd : Nat) : Prop := match (bif b then qm_SKK[p]? else none) with
  | some x => x.1 = kd
  | none => p < h.2.2.2.2 ∧ (h.2.2.2.1 p).1 = kd
/-- what may be written into a constant place -/
def qm_wr (b : Bool) (p k : Nat) (o : Option Nat) : Prop := match (bif b then ((qm_SK[p]?).bind (fun r => r[k]?)).join else none) with
  | some q => o = some q
  | none => True
theorem qm_is.kd {b : Bool} {h : qm_H} {p kd : Nat} (k : qm_is b h p kd) : (qm_kn b h p).1 = kd := by
  unfold qm_is at k
  unfold qm_kn
  cases e : (bif b then qm_SKK[p]? else none) with
  | some x => rw [e] at k; exact k
  | none => rw [e] at k; exact k.2
theorem qm_is.lt {G : qm_G} {h : qm_H} {H : Heap} {p kd : Nat} (hR : qm_Rep G h H) (k : qm_is G.2.2.2.2 h p kd) : p < h.2.2.2.2 := by
  unfold qm_is at k
  split at k
  · rename_i x e
    cases hb : G.2.2.2.2 with
    | false => rw [hb] at e; cases e
    | true =>
      rw [hb] at e
      exact Nat.lt_of_lt_of_le (List.getElem?_eq_some_iff.mp e).1 (hR.2.2.1 hb)
  · exact k.1
theorem qm_ad_lt {G : qm_G} {p : Nat} (h : p < 1000000) : qm_ad G p = G.2.2.1 + p := if_pos h
/-- the cell of a place -/
theorem qm_Rep.obj {G : qm_G} {h : qm_H} {H : Heap} {p kd : Nat} (hR : qm_Rep G h H) (k : qm_is G.2.2.2.2 h p kd) (hk : kd < 9) : qm_ad G p = G.2.2.1 + p ∧ ∃ r : vw_C, vwCl[kd]? = some r ∧ t_OB (G.2.2.1 + p) (G.1.1 kd) r.2.2 (G.1.2 kd) H (fun k => qm_vl G h p k (qm_ft kd k)) := by
  have h1 := k.lt hR
  have h2 := hR.2.2.2 p h1
  unfold qm_at at h2
  rw [k.kd, if_pos hk] at h2
  exact ⟨qm_ad_lt (Nat.lt_of_lt_of_le h1 hR.2.1), h2⟩
theorem qm_Rep.arr {G : qm_G} {h : qm_H} {H : Heap} {p kd : Nat} (hR : qm_Rep G h H) (k : qm_is G.2.2.2.2 h p kd) (hk : ¬ kd < 9) : qm_ad G p = G.2.2.1 + p ∧ H[G.2.2.1 + p]? = some (arrV (G.2.1 kd) (qm_kn G.2.2.2.2 h p).2 (fun j => qm_vl G h p j (qm_et kd))) := by
  have h1 := k.lt hR
  have h2 := hR.2.2.2 p h1
  unfold qm_at at h2
  rw [k.kd, if_neg hk] at h2
  exact ⟨qm_ad_lt (Nat.lt_of_lt_of_le h1 hR.2.1), h2⟩
/-- a write into one place: the others stay -/
theorem qm_Rep.set {G : qm_G} {h h' : qm_H} {H H1 : Heap} {p : Nat} (hR : qm_Rep G h H) (hz : h'.2.2.2.2 = h.2.2.2.2) (hk : h'.2.2.2.1 = h.2.2.2.1) (ho : ∀ q, q ≠ p → ∀ k t, qm_vl G h' q k t = qm_vl G h q k t) (hs : H1.size = H.size) (oq : ∀ q : Nat, q ≠ G.2.2.1 + p → H1[q]? = H[q]?) (hp : qm_at G h' H1 p) : qm_Rep G h' H1 := by
  refine ⟨by rw [hs, hz]; exact hR.1, by rw [hz]; exact hR.2.1, by rw [hz]; exact hR.2.2.1, fun q hq => ?_⟩
  rw [hz] at hq
  by_cases e : q = p
  · rw [e]; exact hp
  · have h2 := hR.2.2.2 q hq
    have hkn : qm_kn G.2.2.2.2 h' q = qm_kn G.2.2.2.2 h q := by unfold qm_kn; rw [hk]
    have hq1 : H1[G.2.2.1 + q]? = H[G.2.2.1 + q]? := oq _ (by omega)
    unfold qm_at at h2 ⊢
    rw [hkn]
    split
    · rename_i hc
      rw [if_pos hc] at h2
      obtain ⟨r, g1, g2⟩ := h2
      exact ⟨r, g1, (g2.kept hq1).to (fun k _ => (ho q e k _).symm)⟩
    · rename_i hc
      rw [if_neg hc] at h2
      rw [hq1, h2]
      congr 2
      funext j
      exact (ho q e j _).symm
/-- the locals that are known, by their numbers -/
def qm_al (G : qm_G) : Nat → qm_L → List (Nat × Value)
  | _, [] => []
  | i, none :: L => qm_al G (i + 1) L
  | i, some v :: L => (i, qm_mv G v) :: qm_al G (i + 1) L
theorem qm_al_mem (G : qm_G) : ∀ (L : qm_L) (i : Nat) (q : Nat × Value), q ∈ qm_al G i L ↔ ∃ j v, L[j]? = some (some v) ∧ q = (i + j, qm_mv G v)
  | [], i, q => by simp [qm_al]
  | none :: L, i, q => by
    rw [qm_al, qm_al_mem G L (i + 1) q]
    constructor
    · rintro ⟨j, v, h, e⟩
      exact ⟨j + 1, v, by simpa using h, by rw [e]; congr 1; omega⟩
    · rintro ⟨j, v, h, e⟩
      cases j with
      | zero => simp at h
      | succ j => exact ⟨j, v, by simpa using h, by rw [e]; congr 1; omega⟩
  | some w :: L, i, q => by
    rw [qm_al, List.mem_cons, qm_al_mem G L (i + 1) q]
    constructor
    · rintro (e | ⟨j, v, h, e⟩)
      · exact ⟨0, w, by simp, by rw [e]; rfl⟩
      · exact ⟨j + 1, v, by simpa using h, by rw [e]; congr 1; omega⟩
    · rintro ⟨j, v, h, e⟩
      cases j with
      | zero => left; simp at h; rw [e, h]; rfl
      | succ j => right; exact ⟨j, v, by simpa using h, by rw [e]; congr 1; omega⟩
def qm_lv (G : qm_G) (ls : Array Slot) (n : Nat) (L : qm_L) : Prop := lv_has ls n (qm_al G 0 L)
theorem qm_lv.at {G : qm_G} {ls : Array Slot} {n : Nat} {L : qm_L} (h : qm_lv G ls n L) {i : Nat} {v : Value} (hi : L[i]? = some (some v)) : ls[i]? = some (.val (qm_mv G v)) := h.2.2 (i, qm_mv G v) ((qm_al_mem G L 0 _).mpr ⟨i, v, hi, by simp⟩)
theorem qm_mv_cat (G : qm_G) (v : Value) : (qm_mv G v).category = v.category := by cases v <;> rfl
/-- a known local of two words -/
def qm_two : Option (Option Value) → Bool
  | some (some (.long _)) => true
  | some (some (.double _)) => true
  | _ => false
theorem qm_two_cat {v : Value} : qm_two (some (some v)) = (v.category == 2) := by cases v <;> rfl
/-- what is known behind a store of one word -/
def qm_s1 (L : qm_L) (i : Nat) (v : Value) : qm_L := match i with
  | 0 => L.set 0 (some v)
  | j + 1 => bif qm_two (L[j]?) then (L.set j none).set (j + 1) (some v) else L.set (j + 1) (some v)
/-- what is known behind a store of two words -/
def qm_s2 (L : qm_L) (i : Nat) (v : Value) : qm_L := (qm_s1 L i v).set (i + 1) none
theorem qm_s1_get {L : qm_L} {i : Nat} {v : Value} {j : Nat} {w : Value} (h : (qm_s1 L i v)[j]? = some (some w)) : (j = i ∧ w = v) ∨ (j ≠ i ∧ L[j]? = some (some w) ∧ ¬ (j + 1 = i ∧ w.category = 2)) := by
  have aux : ∀ (K : qm_L) (i j : Nat) (x : Option Value), (K.set i x)[j]? = some (some w) → (j = i ∧ x = some w) ∨ (j ≠ i ∧ K[j]? = some (some w)) := by
    intro K i j x h
    rw [List.getElem?_set] at h
    by_cases e : i = j
    · rw [if_pos e] at h
      left
      split at h
      · exact ⟨e.symm, by simpa using h⟩
      · cases h
    · rw [if_neg e] at h
      exact Or.inr ⟨fun q => e q.symm, h⟩
  cases i with
  | zero =>
    rcases aux _ _ _ _ h with ⟨e, e2⟩ | ⟨e, e2⟩
    · exact Or.inl ⟨e, by cases e2; rfl⟩
    · exact Or.inr ⟨e, e2, fun q => by omega⟩
  | succ i =>
    unfold qm_s1 at h
    cases ht : qm_two (L[i]?) with
    | true =>
      simp only [ht, cond_true] at h
      rcases aux _ _ _ _ h with ⟨e, e2⟩ | ⟨e, e2⟩
      · exact Or.inl ⟨e, by cases e2; rfl⟩
      · rcases aux _ _ _ _ e2 with ⟨e3, e4⟩ | ⟨e3, e4⟩
        · cases e4
        · exact Or.inr ⟨e, e4, fun q => e3 (by omega)⟩
    | false =>
      simp only [ht, cond_false] at h
      rcases aux _ _ _ _ h with ⟨e, e2⟩ | ⟨e, e2⟩
      · exact Or.inl ⟨e, by cases e2; rfl⟩
      · refine Or.inr ⟨e, e2, fun q => ?_⟩
        have e5 : j = i := by omega
        subst e5
        rw [e2, qm_two_cat, q.2] at ht
        cases ht
theorem qm_lv.s1 {G : qm_G} {ls : Array Slot} {n i : Nat} {L : qm_L} {v : Value} (h : lv_has ls n ((i, qm_mv G v) :: (qm_al G 0 L).filter (fun q => !(q.1 == i) && !(q.1 + 1 == i && q.2.category == 2)))) : qm_lv G ls n (qm_s1 L i v) := by
  refine ⟨h.1, h.2.1, fun q hq => ?_⟩
  obtain ⟨j, w, hw, rfl⟩ := (qm_al_mem G _ 0 q).mp hq
  refine h.2.2 _ ?_
  rcases qm_s1_get hw with ⟨e, e2⟩ | ⟨e, e2, e3⟩
  · subst e; subst e2; simp
  · refine List.mem_cons_of_mem _ (List.mem_filter.mpr ⟨(qm_al_mem G L 0 _).mpr ⟨j, w, e2, rfl⟩, ?_⟩)
    rw [qm_mv_cat]
    simp only [Nat.zero_add, Bool.and_eq_true, Bool.not_eq_true', beq_eq_false_iff_ne, ne_eq, Bool.and_eq_false_imp, beq_iff_eq]
    exact ⟨e, fun q q2 => e3 ⟨q, q2⟩⟩
theorem qm_lv.s2 {G : qm_G} {ls : Array Slot} {n i : Nat} {L : qm_L} {v : Value} (h : lv_has ls n ((i, qm_mv G v) :: (qm_al G 0 L).filter (fun q => !(q.1 == i) && (!(q.1 == i + 1) && !(q.1 + 1 == i && q.2.category == 2))))) : qm_lv G ls n (qm_s2 L i v) := by
  refine ⟨h.1, h.2.1, fun q hq => ?_⟩
  obtain ⟨j, w, hw, rfl⟩ := (qm_al_mem G _ 0 q).mp hq
  refine h.2.2 _ ?_
  have hw2 : j ≠ i + 1 ∧ (qm_s1 L i v)[j]? = some (some w) := by
    unfold qm_s2 at hw
    rw [List.getElem?_set] at hw
    by_cases e : i + 1 = j
    · rw [if_pos e] at hw
      split at hw <;> cases hw
    · rw [if_neg e] at hw
      exact ⟨fun q => e q.symm, hw⟩
  rcases qm_s1_get hw2.2 with ⟨e, e2⟩ | ⟨e, e2, e3⟩
  · subst e; subst e2; simp
  · refine List.mem_cons_of_mem _ (List.mem_filter.mpr ⟨(qm_al_mem G L 0 _).mpr ⟨j, w, e2, rfl⟩, ?_⟩)
    rw [qm_mv_cat]
    simp only [Nat.zero_add, Bool.and_eq_true, Bool.not_eq_true', beq_eq_false_iff_ne, ne_eq, Bool.and_eq_false_imp, beq_iff_eq]
    exact ⟨e, hw2.1, fun q q2 => e3 ⟨q, q2⟩⟩
/-- fewer known locals -/
def qm_mask : List Bool → qm_L → qm_L
  | b :: bs, x :: L => (bif b then x else none) :: qm_mask bs L
  | _, _ => []
theorem qm_mask_get : ∀ (bs : List Bool) (L : qm_L) (j : Nat) (w : Value), (qm_mask bs L)[j]? = some (some w) → L[j]? = some (some w)
  | [], L, j, w, h => by simp [qm_mask] at h
  | b :: bs, [], j, w, h => by simp [qm_mask] at h
  | b :: bs, x :: L, 0, w, h => by
    cases b <;> simp [qm_mask] at h ⊢
    exact h
  | b :: bs, x :: L, j + 1, w, h => by
    simp only [qm_mask, List.getElem?_cons_succ] at h ⊢
    exact qm_mask_get bs L j w h
theorem qm_lv.fewer {G : qm_G} {ls : Array Slot} {n : Nat} {L L' : qm_L} (h : qm_lv G ls n L) (hs : ∀ (j : Nat) (w : Value), L'[j]? = some (some w) → L[j]? = some (some w)) : qm_lv G ls n L' := by
  refine ⟨h.1, h.2.1, fun q hq => ?_⟩
  obtain ⟨j, w, hw, rfl⟩ := (qm_al_mem G _ 0 q).mp hq
  exact h.2.2 _ ((qm_al_mem G _ 0 _).mpr ⟨j, w, hs j w hw, rfl⟩)
end
section
/-! what a walk stands on: the words, the classes, the constants -/
def qm_A (G : qm_G) : Nat → Prop := fun q => G.2.2.1 ≤ q
def qm_tys (G : qm_G) : List (ClassId × FieldType) := [(G.2.1 9, .byte), (G.2.1 10, .int), (G.2.1 11, .boolean), (G.2.1 12, .object RX3), (G.2.1 13, .object RX7), (G.2.1 14, .object RX8)]
/-- the static rows of ints: FIRST_WORD, LIMIT, NUMBERS, FIRST_MOST, SECOND_MOST (by 1 to 5) -/
def qm_sti (k j : Nat) : Int32 := ((([[], [0, 5, 10, 12], [6, 40, 8], [1, 2, 2, 2, 2, 2, 2, 2, 3, 0, 1, 1], [30, 5, 5, 5, 5, 5, 5, 5, 5, 0, 5, 5], [0, 20, 5, 5, 5, 5, 5, 5, 5, 0, 0, 0]] : List (List Int32))[k]?).getD []).getD j 0
/-- HAVING -/
def qm_stl (j : Nat) : Int64 := ([-6148914691236517206, -3689348814741910324, -1085102592571150096, -71777214294589696, -281470681808896, -4294967296] : List Int64).getD j 0
/-- the static arrays: class, name, descriptor, type, length, contents -/
def qm_ST : List (String × String × String × FieldType × Nat × (Nat → Value)) := [("OneStatement", "HAVING", "[J", .long, 6, fun j => .long (qm_stl j)), ("OneStatement$Reader", "FIRST_WORD", "[I", .int, 4, fun j => .int (qm_sti 1 j)), ("OneStatement$Reader", "LIMIT", "[I", .int, 3, fun j => .int (qm_sti 2 j)), ("OneStatement$Reader", "NUMBERS", "[I", .int, 12, fun j => .int (qm_sti 3 j)), ("OneStatement$Reader", "FIRST_MOST", "[I", .int, 12, fun j => .int (qm_sti 4 j)), ("OneStatement$Reader", "SECOND_MOST", "[I", .int, 12, fun j => .int (qm_sti 5 j))]
/-- the words of the Reader: their places in the pool, texts, lengths, bytes -/
def qm_SW : List (Nat × String) := [(122, "person"), (124, "worth"), (126, "follows"), (128, "knows"), (130, "hears"), (132, "tell"), (134, "ask"), (136, "see"), (138, "sell"), (140, "eve"), (142, "asked"), (144, "told")]
def qm_SLn : List Nat := [6, 5, 7, 5, 5, 4, 3, 3, 4, 3, 5, 4]
def qm_SB : List (List Int32) := [[112, 101, 114, 115, 111, 110], [119, 111, 114, 116, 104], [102, 111, 108, 108, 111, 119, 115], [107, 110, 111, 119, 115], [104, 101, 97, 114, 115], [116, 101, 108, 108], [97, 115, 107], [115, 101, 101], [115, 101, 108, 108], [101, 118, 101], [97, 115, 107, 101, 100], [116, 111, 108, 100]]
def qm_isNest : Cond → Bool
  | .methodLinkNest .. => true
  | .fieldLinkNest .. => true
  | _ => false
def qm_KX (G : qm_G) (U : State) (H : Heap) : Prop := (∀ w ∈ lw_tbl, qm_isNest w = true → va_Nw w U) ∧ (∀ C ∈ [RX3, RX7, RX8], va_AO C U) ∧ (∀ (i : Nat) (q : String × String × String × FieldType × Nat × (Nat → Value)), qm_ST[i]? = some q → va_Z q.1 q.2.1 q.2.2.1 (.ref (G.2.2.2.1 i)) (qm_A G) U H ∧ va_T q.2.2.2.1 (G.2.2.2.1 i) q.2.2.2.2.1 q.2.2.2.2.2 (qm_A G) U H) ∧ ((∀ (i : Nat) (q : Nat × String), qm_SW[i]? = some q → vk_R RX2 q.1 q.2 (G.2.2.2.1 (6 + i)) U) ∧ vk_S 12 qm_SLn qm_SB (fun i => G.2.2.2.1 (6 + i)) (fun i => G.2.2.2.1 (18 + i)) (qm_A G) U H ∧ va_Z "java/lang/String" "COMPACT_STRINGS" "Z" (.int 1) (qm_A G) U H)
def qm_K (G : qm_G) (U : State) (H : Heap) : Prop := va_K G.1 vwCl (qm_tys G) U ∧ qm_KX G U H ∧ G.2.2.1 ≤ H.size
theorem qm_K.moved {G : qm_G} {s U : State} {H H1 : Heap} (hW : s.WarmedH U.vm) (hz : H.size ≤ H1.size) (hq : ∀ a : Nat, a < H.size → ¬ qm_A G a → H1[a]? = H[a]?) (h : qm_K G s H) : qm_K G U H1 := by
  obtain ⟨h1, ⟨h2, h3, h4, h7, h8, h9⟩, h5⟩ := h
  refine ⟨va_K.moved hW.alike h1, ⟨fun w hw hn => ?_, fun C hC => va_AO.moved hW.alike (h3 C hC), fun i q hi => ⟨va_Z.moved hW.alike ((h4 i q hi).1.kept hq), va_T.moved hW.alike ((h4 i q hi).2.kept hq)⟩, fun i q hi => vk_R.warm hW (h7 i q hi), vk_S.moved hW.alike (h8.kept hq), va_Z.moved hW.alike (h9.kept hq)⟩, Nat.le_trans h5 hz⟩
  have h6 := h2 w hw hn
  cases w with
  | methodLinkNest a i x h => exact va_Nw.warmM hW h6
  | fieldLinkNest a i b n d h => exact va_Nw.warmF hW h6
  | _ => cases hn
theorem qm_K.same {G : qm_G} {s U : State} {H : Heap} (hv : s.vm = U.vm) (h : qm_K G s H) : qm_K G U H := by
  obtain ⟨h1, ⟨h2, h3, h4, h7, h8, h9⟩, h5⟩ := h
  have ha : s.vm.Alike U.vm := by rw [hv]; exact Vm.Alike.refl _
  refine ⟨va_K.moved ha h1, ⟨fun w hw hn => ?_, fun C hC => va_AO.moved ha (h3 C hC), fun i q hi => ⟨va_Z.moved ha (h4 i q hi).1, va_T.moved ha (h4 i q hi).2⟩, fun i q hi => vk_R.same hv.symm (h7 i q hi), vk_S.moved ha h8, va_Z.moved ha h9⟩, h5⟩
  have h6 := h2 w hw hn
  cases w with
  | methodLinkNest a i x h => exact va_Nw.same rfl hv h6
  | fieldLinkNest a i b n d h => exact va_Nw.same rfl hv h6
  | _ => cases hn
abbrev qm_Z : Type := Program × Launch × Env × Room × State × MethodId × Array Value × List Frame × Method × Code × (State → Prop)
def qm_W (z : qm_Z) (H : Heap) (locs : List Loc) (c s : Nat) (g : JFrame) : Prop := W z.1 z.2.1 z.2.2.1 z.2.2.2.1 z.2.2.2.2.1 z.2.2.2.2.2.1 z.2.2.2.2.2.2.1 z.2.2.2.2.2.2.2.1 z.2.2.2.2.2.2.2.2.1 z.2.2.2.2.2.2.2.2.2.1 H locs c s z.2.2.2.2.2.2.2.2.2.2 g
abbrev qm_R (z : qm_Z) : Room := z.2.2.2.1
abbrev qm_S (z : qm_Z) : State := z.2.2.2.2.1
def qm_pc (M : qm_M) (i : Nat) : Nat := match M.2.2[i]? with
  | some e => e.1
  | none => 0
/-- the good words -/
def qm_tb : List Cond := lw_tbl.filter goodWord
/-- the frame and the tables of a walk of M -/
def qm_C (G : qm_G) (M : qm_M) (z : qm_Z) : Prop := z.1.tables.exec = Jvm.exec ∧ z.2.2.2.2.2.2.2.2.2.1.code = M.2.1.2.1 ∧ z.2.2.2.2.2.2.2.2.2.1.maxLocals = M.2.1.2.2.1 ∧ (qm_S z).vm.findClass M.1 = some z.2.2.2.2.2.1.cls ∧ (∀ w ∈ qm_tb, w.before z.2.2.2.2.2.2.1 (qm_S z) = true) ∧ z.2.2.2.2.2.2.2.2.1.locks = false ∧ z.2.2.2.2.2.2.2.2.1.sig.returnType = M.2.1.2.2.2 ∧ z.2.2.2.2.2.2.2.2.1.name = M.2.1.1.name ∧ qm_K G (qm_S z) (qm_S z).heap
/-- the walk from the i-th instruction on, with c cells and s slots made: for every heap that the pure one stands for -/
def qm_PW (G : qm_G) (M : qm_M) (z : qm_Z) (i c s : Nat) (L : qm_L) (st : List Value) (h : qm_H) : Prop :=
  ∀ (H : Heap) (locs : List Loc) (ls : Array Slot), c ≤ (qm_R z).cells → s ≤ (qm_R z).slots → qm_Rep G h H → va_S (qm_A G) (qm_S z).heap H locs → qm_lv G ls M.2.1.2.2.1 L → qm_W z H locs c s (F0 z.2.2.2.2.2.1 (qm_pc M i) ls (st.map (qm_mv G)))
theorem qm_PW.mask {G : qm_G} {M : qm_M} {z : qm_Z} {i c s : Nat} {L : qm_L} {st : List Value} {h : qm_H} (bs : List Bool) (k : qm_PW G M z i c s (qm_mask bs L) st h) : qm_PW G M z i c s L st h := fun H locs ls h1 h2 hR hS hl => k H locs ls h1 h2 hR hS (hl.fewer fun j w hw => qm_mask_get bs L j w hw)
/-- a method's words -/
def qm_ws (y : qm_CI) : List Cond := Cond.code y.1 y.2.1 y.2.2.1 y.2.2.2 :: qm_tb
def qm_Qc (G : qm_G) (uQ : Option Value → qm_H → Prop) : Array Value → State → Outcome → State → Prop := fun _ st oc t => ∃ v h, oc = .returned (v.map (qm_mv G)) ∧ uQ v h ∧ qm_Rep G h t.heap ∧ va_F (qm_A G) st t
def qm_Pc (G : qm_G) (as : List Value) (h : qm_H) : Array Value → State → Prop := fun v U => v = (as.map (qm_mv G)).toArray ∧ qm_Rep G h U.heap ∧ qm_K G U U.heap
/-- A CONTRACT: called with the values as at the heap h, in a depth d, with at most C cells and S slots made, the method returns v with the heap h', as uQ says -/
def qm_Ev (G : qm_G) (d C S : Nat) (y : qm_CI) (as : List Value) (h : qm_H) (uQ : Option Value → qm_H → Prop) : Prop := ∀ l : Launch, Met l y.1 (qm_ws y) { frames := d, cells := C, slots := S, locals := 41 * d } (qm_Pc G as h) (qm_Qc G uQ) C S (qm_A G)
theorem qm_Ev.mono {G : qm_G} {d C S : Nat} {y : qm_CI} {as : List Value} {h : qm_H} {uQ uQ' : Option Value → qm_H → Prop} (k : qm_Ev G d C S y as h uQ) (hq : ∀ v h', uQ v h' → uQ' v h') : qm_Ev G d C S y as h uQ' := by
  intro l p e ha hc hk s m args below hf h1 h2 h3
  obtain ⟨k, o, g1, g2, g3, ⟨⟨v, h', e1, e2, e3⟩, g4⟩⟩ := k l p e ha hc hk s m args below hf h1 h2 h3
  exact ⟨k, o, g1, g2, g3, ⟨v, h', e1, hq v h' e2, e3⟩, g4⟩
end
section
/-! reading and writing the pure heap, in the machine -/
def qm_pt (r : vw_C) (k : Nat) : FieldType := (parseFieldDescriptor (r.2.1 k).2.2.1).getD .int
def qm_clc (r : vw_C) : Bool := (u_ws r.1 r.2.1 r.2.2).all (fun w => decide (w ∈ qm_tb)) && ((List.range r.2.2).all (fun k => decide (parseFieldDescriptor (r.2.1 k).2.2.1 = some (qm_pt r k)) && decide ((r.2.1 k).1 = r.1)) && (List.range r.2.2).all (fun a => (List.range r.2.2).all (fun b => a == b || !decide ((r.2.1 a).2.1 = (r.2.1 b).2.1))))
set_option maxRecDepth 100000 in
theorem qm_clk : vwCl.all qm_clc = true := by decide +kernel
theorem qm_clok {ci : Nat} {r : vw_C} (h : vwCl[ci]? = some r) : (∀ w ∈ u_ws r.1 r.2.1 r.2.2, w ∈ qm_tb) ∧ (∀ k, k < r.2.2 → parseFieldDescriptor (r.2.1 k).2.2.1 = some (qm_pt r k)) ∧ (∀ k, k < r.2.2 → (r.2.1 k).1 = r.1) ∧ ∀ a, a < r.2.2 → ∀ b, b < r.2.2 → a ≠ b → (r.2.1 a).2.1 ≠ (r.2.1 b).2.1 := by
  have h1 := List.all_eq_true.mp qm_clk r (List.mem_of_getElem? h)
  unfold qm_clc at h1
  simp only [Bool.and_eq_true, List.all_eq_true, decide_eq_true_eq, List.mem_range, Bool.or_eq_true, beq_iff_eq, Bool.not_eq_true', decide_eq_false_iff_not] at h1
  exact ⟨h1.1, fun k hk => (h1.2.1 k hk).1, fun k hk => (h1.2.1 k hk).2, fun a ha b hb e => (h1.2.2 a ha b hb).resolve_left e⟩
end
section
section Mem
variable {G : qm_G} {M : qm_M} {z : qm_Z} {H : Heap} {locs : List Loc} {c s : Nat} {h : qm_H} {ls : Array Slot} {rest : List Value} {pc : Nat}
theorem qm_cls (hC : qm_C G M z) {ci : Nat} {r : vw_C} (hr : vwCl[ci]? = some r) : u_Kn (qm_S z) r.1 r.2.1 r.2.2 (G.1.1 ci) (G.1.2 ci) := hC.2.2.2.2.2.2.2.2.1.1 ci r hr
theorem qm_getW (hC : qm_C G M z) (hR : qm_Rep G h H) {p ci k idx : Nat} (hi : qm_is G.2.2.2.2 h p ci) (hc9 : ci < 9) {r : vw_C} (hr : vwCl[ci]? = some r) (hk : k < r.2.2) (hlink : Cond.fieldLink M.1 idx r.1 (r.2.1 k).2.1 (r.2.1 k).2.2.1 ∈ qm_tb) (hd : decode M.2.1.2.1 pc = .ok (.getfield idx, 3))
    (kk : qm_W z H locs c s (F0 z.2.2.2.2.2.1 (pc + 3) ls (qm_vl G h p k (qm_ft ci k) :: rest))) : qm_W z H locs c s (F0 z.2.2.2.2.2.1 pc ls (.ref (qm_ad G p) :: rest)) := by
  obtain ⟨e1, r', e2, cell, q1, q2, q3, q4⟩ := hR.obj hi hc9
  have e3 : r' = r := Option.some.inj (e2.symm.trans hr)
  subst e3
  obtain ⟨hS, hfc, kC, hkC, hkind⟩ := qm_cls hC hr
  obtain ⟨cf, kf, fi, f, hif, hsl⟩ := hS k hk
  have hk1 := qm_clok hr
  rw [e1]
  refine W.getf hC.1 hC.2.1 hC.2.2.2.1 (hC.2.2.2.2.1 _ hlink) (by rw [← hk1.2.2.1 k hk]; exact hif) (u_facts hfc hkC (u_lays hC.2.2.2.2.1 hk1.1 hk) hif).1 q1 (by rw [q3]; exact fun h => by cases h) ?_ rfl rfl hd kk
  rw [hsl, q4 k hk]
theorem qm_vl_si (G : qm_G) (h : qm_H) (p k : Nat) (x : Int32) (q j t : Nat) : qm_vl G (qm_si h p k x) q j t = if q = p ∧ j = k ∧ t = 0 then .int x else qm_vl G h q j t := by
  unfold qm_vl
  match t with
  | 0 =>
    simp only [qm_si, va_up]
    by_cases e : q = p
    · subst e
      by_cases e2 : j = k
      · subst e2; simp [va_up]
      · simp [va_up, e2]
    · simp [e]
  | 1 => simp [qm_si]
  | 2 =>
    have e : qm_rd G.2.2.2.2 (qm_si h p k x) q j = qm_rd G.2.2.2.2 h q j := rfl
    simp [e]
  | t + 3 => simp
theorem qm_vl_sl (G : qm_G) (h : qm_H) (p k : Nat) (x : Int64) (q j t : Nat) : qm_vl G (qm_sl h p k x) q j t = if q = p ∧ j = k ∧ t = 1 then .long x else qm_vl G h q j t := by
  unfold qm_vl
  match t with
  | 0 => simp [qm_sl]
  | 1 =>
    simp only [qm_sl, va_up]
    by_cases e : q = p
    · subst e
      by_cases e2 : j = k
      · subst e2; simp [va_up]
      · simp [va_up, e2]
    · simp [e]
  | 2 =>
    have e : qm_rd G.2.2.2.2 (qm_sl h p k x) q j = qm_rd G.2.2.2.2 h q j := rfl
    simp [e]
  | t + 3 => simp
theorem qm_rd_sr {b : Bool} {h : qm_H} {p k : Nat} {o : Option Nat} (hw : qm_wr b p k o) (q j : Nat) : qm_rd b (qm_sr h p k o) q j = if q = p ∧ j = k then o else qm_rd b h q j := by
  unfold qm_rd
  unfold qm_wr at hw
  by_cases e : q = p ∧ j = k
  · obtain ⟨rfl, rfl⟩ := e
    rw [if_pos ⟨rfl, rfl⟩]
    cases e3 : (bif b then ((qm_SK[q]?).bind (fun r => r[j]?)).join else none) with
    | some x => rw [e3] at hw; exact hw.symm
    | none => simp [qm_sr, va_up]
  · rw [if_neg e]
    cases e3 : (bif b then ((qm_SK[q]?).bind (fun r => r[j]?)).join else none) with
    | some x => rfl
    | none =>
      simp only [qm_sr, va_up]
      by_cases e1 : q = p
      · subst e1
        have e2 : j ≠ k := fun q => e ⟨rfl, q⟩
        simp [va_up, e2]
      · simp [e1]
theorem qm_vl_sr {G : qm_G} {h : qm_H} {p k : Nat} {o : Option Nat} (hw : qm_wr G.2.2.2.2 p k o) (q j t : Nat) : qm_vl G (qm_sr h p k o) q j t = if q = p ∧ j = k ∧ t = 2 then va_rf (o.map (qm_ad G)) else qm_vl G h q j t := by
  unfold qm_vl
  match t with
  | 0 => simp [qm_sr]
  | 1 => simp [qm_sr]
  | 2 =>
    simp only [qm_rd_sr hw]
    by_cases e : q = p ∧ j = k
    · rw [if_pos e, if_pos ⟨e.1, e.2, trivial⟩]
    · rw [if_neg e, if_neg (fun q => e ⟨q.1, q.2.1⟩)]
  | t + 3 => simp
/-- a field's store: any value, any change of the pure heap that is just this one -/
theorem qm_putW (hC : qm_C G M z) (hR : qm_Rep G h H) (hS0 : va_S (qm_A G) (qm_S z).heap H locs) {p ci k idx : Nat} (hi : qm_is G.2.2.2.2 h p ci) (hc9 : ci < 9) {r : vw_C} (hr : vwCl[ci]? = some r) (hk : k < r.2.2) (hlink : Cond.fieldLink M.1 idx r.1 (r.2.1 k).2.1 (r.2.1 k).2.2.1 ∈ qm_tb) (hfin : (r.2.1 k).2.2.2 = false ∨ (M.2.1.1.name = "<init>" ∧ r.1 = M.1)) {v : Value} (hn : narrow (qm_pt r k) v = v) (hfit : fits (qm_pt r k) v = true) {h' : qm_H} (hz : h'.2.2.2.2 = h.2.2.2.2) (hkn : h'.2.2.2.1 = h.2.2.2.1) (ho : ∀ q j t, qm_vl G h' q j t = if q = p ∧ j = k ∧ t = qm_ft ci k then v else qm_vl G h q j t)
    (hd : decode M.2.1.2.1 pc = .ok (.putfield idx, 3)) (kk : ∀ (H1 : Heap) (locs1 : List Loc), qm_Rep G h' H1 → va_S (qm_A G) (qm_S z).heap H1 locs1 → qm_W z H1 locs1 c s (F0 z.2.2.2.2.2.1 (pc + 3) ls rest)) : qm_W z H locs c s (F0 z.2.2.2.2.2.1 pc ls (v :: .ref (qm_ad G p) :: rest)) := by
  obtain ⟨e1, r', e2, cell, q1, q2, q3, q4⟩ := hR.obj hi hc9
  have e3 : r' = r := Option.some.inj (e2.symm.trans hr)
  subst e3
  obtain ⟨hS, hfc, kC, hkC, hkind⟩ := qm_cls hC hr
  obtain ⟨cf, kf, fi, f, hif, hsl⟩ := hS k hk
  have hk1 := qm_clok hr
  have hts := hC.2.2.2.2.1
  have hap := va_apart (own := M.1) hts hk1.1 (qm_pt r') hk1.2.1 hk1.2.2.2 hC.2.2.2.2.2.2.2.2.1 hr
  have hst := (u_facts hfc hkC (u_lays hts hk1.1 hk) hif).1
  have hAp : qm_A G (G.2.2.1 + p) := Nat.le_add_right _ _
  have fin : ∀ H' : Heap, H'[G.2.2.1 + p]? = some (cell.setSlot f.slot v) → H'.size = H.size → (∀ q, q ≠ G.2.2.1 + p → H'[q]? = H[q]?) → qm_W z H' (locs ++ [⟨G.2.2.1 + p, f.slot⟩]) c s (F0 z.2.2.2.2.2.1 (pc + 3) ls rest) := by
    intro H' e1' e2' e3'
    refine kk H' _ (hR.set (p := p) hz hkn (fun q hq j t => by rw [ho, if_neg (fun e => hq e.1)]) e2' e3' ?_) (hS0.put e2' e3' hAp)
    have hkn2 : qm_kn G.2.2.2.2 h' p = qm_kn G.2.2.2.2 h p := by unfold qm_kn; rw [hkn]
    unfold qm_at
    rw [hkn2, hi.kd, if_pos hc9]
    rw [hsl] at e1'
    refine ⟨_, hr, t_OB.to (V := updV (fun k => qm_vl G h p k (qm_ft ci k)) k v) ⟨_, e1', q2, q3, t_set q4 hap hk v⟩ (fun j _ => ?_)⟩
    rw [ho]
    unfold updV
    by_cases ej : j = k
    · subst ej; simp
    · simp [ej]
  have hlk : (Cond.fieldLink M.1 idx (r'.2.1 k).1 (r'.2.1 k).2.1 (r'.2.1 k).2.2.1).before z.2.2.2.2.2.2.1 (qm_S z) = true := by rw [hk1.2.2.1 k hk]; exact hts _ hlink
  rw [e1]
  by_cases hf : (r'.2.1 k).2.2.2 = false
  · have hlay := hts _ (hk1.1 _ (u_in_lay hk))
    unfold u_lay at hlay
    rw [if_neg (by rw [hf]; decide)] at hlay
    have h6 := u_store hfc hkC hkind hlay hif (hk1.2.1 k hk) hn hfit
    exact W.putK hC.1 hC.2.1 (f := f) ⟨hC.2.2.2.1, hlk, ⟨_, _, _, hif⟩, hst⟩ (by rw [q2]; exact h6) q1 q3 (by rw [hsl]; exact k2_hasslot (q4 k hk)) rfl rfl hd fin
  · obtain ⟨hn1, hn2⟩ := hfin.resolve_left hf
    have hlay := hts _ (hk1.1 _ (u_in_lay hk))
    unfold u_lay at hlay
    rw [if_pos (by revert hf; cases (r'.2.1 k).2.2.2 <;> simp)] at hlay
    have hcf : z.2.2.2.2.2.1.cls = cf := by
      obtain ⟨_, _, c', _, _, _, -, -, hf', -, -, -, hown2, -⟩ := Cond.laysFinal_spec hlay
      have e1 : c' = cf := by have := hif.symm.trans hf'; simp at this; exact this.1.symm
      rw [hk1.2.2.1 k hk, hn2] at hown2
      rw [← e1]; exact Option.some.inj (hC.2.2.2.1.symm.trans hown2)
    have h6 := u_fits hfc hkC hkind (Or.inr hlay) hif (hk1.2.1 k hk) hn hfit
    exact W.putFinK hC.1 hC.2.1 hC.2.2.2.1 hlk hif hst hcf (by rw [hC.2.2.2.2.2.2.2.1]; exact hn1) (by rw [q2]; exact h6) q1 q3 (by rw [hsl]; exact k2_hasslot (q4 k hk)) rfl rfl hd fin
end Mem
end
section
/-! arrays, new cells, calls, returns -/
section Arr
variable {G : qm_G} {M : qm_M} {z : qm_Z} {H : Heap} {locs : List Loc} {c s : Nat} {h : qm_H} {ls : Array Slot} {rest : List Value} {pc : Nat}
theorem qm_tyK (hC : qm_C G M z) {k : Nat} {q : ClassId × FieldType} (hq : (qm_tys G)[k]? = some q) : ArrOfT (qm_S z) q.1 q.2 ∧ va_RA (qm_S z) q.1 q.2 := hC.2.2.2.2.2.2.2.2.1.2 k q hq
theorem qm_in_lt {i : Int32} {n : Nat} (h : vp_in i n) : i.toNatClampNeg < n := Nat.not_le.mp fun q => h (Or.inr q)
theorem qm_ialdW (hC : qm_C G M z) (hR : qm_Rep G h H) {p : Nat} {i : Int32} (hi : qm_is G.2.2.2.2 h p 10) (hin : vp_in i (qm_kn G.2.2.2.2 h p).2) (hd : decode M.2.1.2.1 pc = .ok (.iaload, 1))
    (kk : qm_W z H locs c s (F0 z.2.2.2.2.2.1 (pc + 1) ls (.int (h.1 p i.toNatClampNeg) :: rest))) : qm_W z H locs c s (F0 z.2.2.2.2.2.1 pc ls (.int i :: .ref (qm_ad G p) :: rest)) := by
  obtain ⟨e1, e2⟩ := hR.arr hi (by decide)
  rw [e1]
  exact W.iald (v := .int (h.1 p i.toNatClampNeg)) hC.1 hC.2.1 e2 ((qm_tyK hC (k := 1) rfl).1 _ _) (fun q => by cases q) (by rw [arrV_size]; exact hin) (by rw [arrV_read _ _ (qm_in_lt hin)]; rfl) rfl rfl hd kk
theorem qm_baldW (hC : qm_C G M z) (hR : qm_Rep G h H) {p : Nat} {i : Int32} (hi : qm_is G.2.2.2.2 h p 9) (hin : vp_in i (qm_kn G.2.2.2.2 h p).2) (hd : decode M.2.1.2.1 pc = .ok (.baload, 1))
    (kk : qm_W z H locs c s (F0 z.2.2.2.2.2.1 (pc + 1) ls (.int (h.1 p i.toNatClampNeg) :: rest))) : qm_W z H locs c s (F0 z.2.2.2.2.2.1 pc ls (.int i :: .ref (qm_ad G p) :: rest)) := by
  obtain ⟨e1, e2⟩ := hR.arr hi (by decide)
  rw [e1]
  exact W.bald (v := .int (h.1 p i.toNatClampNeg)) hC.1 hC.2.1 e2 ((qm_tyK hC (k := 0) rfl).1 _ _) (fun q => by cases q) (by rw [arrV_size]; exact hin) (by rw [arrV_read _ _ (qm_in_lt hin)]; rfl) rfl rfl hd kk
theorem qm_zaldW (hC : qm_C G M z) (hR : qm_Rep G h H) {p : Nat} {i : Int32} (hi : qm_is G.2.2.2.2 h p 11) (hin : vp_in i (qm_kn G.2.2.2.2 h p).2) (hd : decode M.2.1.2.1 pc = .ok (.baload, 1))
    (kk : qm_W z H locs c s (F0 z.2.2.2.2.2.1 (pc + 1) ls (.int (h.1 p i.toNatClampNeg) :: rest))) : qm_W z H locs c s (F0 z.2.2.2.2.2.1 pc ls (.int i :: .ref (qm_ad G p) :: rest)) := by
  obtain ⟨e1, e2⟩ := hR.arr hi (by decide)
  rw [e1]
  exact W.zald (v := .int (h.1 p i.toNatClampNeg)) hC.1 hC.2.1 e2 ((qm_tyK hC (k := 2) rfl).1 _ _) (fun q => by cases q) (by rw [arrV_size]; exact hin) (by rw [arrV_read _ _ (qm_in_lt hin)]; rfl) rfl rfl hd kk
/-- the class of the objects of an array's kind -/
def qm_ec (kd : Nat) : Nat := if kd = 12 then 2 else if kd = 13 then 5 else 6
theorem qm_aaldW (hC : qm_C G M z) (hR : qm_Rep G h H) {p kd : Nat} {i : Int32} (hkd : kd = 12 ∨ kd = 13 ∨ kd = 14) (hi : qm_is G.2.2.2.2 h p kd) (hin : vp_in i (qm_kn G.2.2.2.2 h p).2) (hd : decode M.2.1.2.1 pc = .ok (.aaload, 1))
    (kk : qm_W z H locs c s (F0 z.2.2.2.2.2.1 (pc + 1) ls (va_rf ((qm_rd G.2.2.2.2 h p i.toNatClampNeg).map (qm_ad G)) :: rest))) : qm_W z H locs c s (F0 z.2.2.2.2.2.1 pc ls (.int i :: .ref (qm_ad G p) :: rest)) := by
  rcases hkd with rfl | rfl | rfl
  · obtain ⟨e1, e2⟩ := hR.arr hi (by decide)
    rw [e1]
    exact va_aldq (ws := [(G.2.2.1 + p, .inl (G.2.1 12, (qm_kn G.2.2.2.2 h p).2, .inr (.inr (.inr (.inr (fun j => (qm_rd G.2.2.2.2 h p j).map (qm_ad G)))))))]) hC.1 hC.2.1 hC.2.2.2.2.2.2.2.2.1 (fun k q hq => by cases k with | zero => cases hq; exact e2 | succ k => cases hq) 0 3 rfl rfl hin hd kk
  · obtain ⟨e1, e2⟩ := hR.arr hi (by decide)
    rw [e1]
    exact va_aldq (ws := [(G.2.2.1 + p, .inl (G.2.1 13, (qm_kn G.2.2.2.2 h p).2, .inr (.inr (.inr (.inr (fun j => (qm_rd G.2.2.2.2 h p j).map (qm_ad G)))))))]) hC.1 hC.2.1 hC.2.2.2.2.2.2.2.2.1 (fun k q hq => by cases k with | zero => cases hq; exact e2 | succ k => cases hq) 0 4 rfl rfl hin hd kk
  · obtain ⟨e1, e2⟩ := hR.arr hi (by decide)
    rw [e1]
    exact va_aldq (ws := [(G.2.2.1 + p, .inl (G.2.1 14, (qm_kn G.2.2.2.2 h p).2, .inr (.inr (.inr (.inr (fun j => (qm_rd G.2.2.2.2 h p j).map (qm_ad G)))))))]) hC.1 hC.2.1 hC.2.2.2.2.2.2.2.2.1 (fun k q hq => by cases k with | zero => cases hq; exact e2 | succ k => cases hq) 0 5 rfl rfl hin hd kk
theorem qm_alenW (hC : qm_C G M z) (hR : qm_Rep G h H) {p kd : Nat} (hkd : kd = 9 ∨ kd = 10 ∨ kd = 11 ∨ kd = 12 ∨ kd = 13 ∨ kd = 14) (hi : qm_is G.2.2.2.2 h p kd) (hd : decode M.2.1.2.1 pc = .ok (.arraylength, 1))
    (kk : qm_W z H locs c s (F0 z.2.2.2.2.2.1 (pc + 1) ls (.int (Int32.ofNat (qm_kn G.2.2.2.2 h p).2) :: rest))) : qm_W z H locs c s (F0 z.2.2.2.2.2.1 pc ls (.ref (qm_ad G p) :: rest)) := by
  have h9 : ¬ kd < 9 := by omega
  obtain ⟨e1, e2⟩ := hR.arr hi h9
  rw [e1]
  rcases hkd with rfl | rfl | rfl | rfl | rfl | rfl
  · exact W.alen hC.1 hC.2.1 e2 ((qm_tyK hC (k := 0) rfl).1 _ _) (by rw [arrV_size]) rfl rfl hd kk
  · exact W.alen hC.1 hC.2.1 e2 ((qm_tyK hC (k := 1) rfl).1 _ _) (by rw [arrV_size]) rfl rfl hd kk
  · exact W.alen hC.1 hC.2.1 e2 ((qm_tyK hC (k := 2) rfl).1 _ _) (by rw [arrV_size]) rfl rfl hd kk
  · exact W.alen hC.1 hC.2.1 e2 ((qm_tyK hC (k := 3) rfl).1 _ _) (by rw [arrV_size]) rfl rfl hd kk
  · exact W.alen hC.1 hC.2.1 e2 ((qm_tyK hC (k := 4) rfl).1 _ _) (by rw [arrV_size]) rfl rfl hd kk
  · exact W.alen hC.1 hC.2.1 e2 ((qm_tyK hC (k := 5) rfl).1 _ _) (by rw [arrV_size]) rfl rfl hd kk
/-- the heap behind a store into an array -/
theorem qm_ast_fin (hR : qm_Rep G h H) (hS0 : va_S (qm_A G) (qm_S z).heap H locs) {p kd : Nat} (hk9 : ¬ kd < 9) (hi : qm_is G.2.2.2.2 h p kd) {j : Nat} {v : Value} {h' : qm_H} (hz : h'.2.2.2.2 = h.2.2.2.2) (hkn : h'.2.2.2.1 = h.2.2.2.1) (ho : ∀ q k t, qm_vl G h' q k t = if q = p ∧ k = j ∧ t = qm_et kd then v else qm_vl G h q k t) {H1 : Heap}
    (e : H1[G.2.2.1 + p]? = some ((arrV (G.2.1 kd) (qm_kn G.2.2.2.2 h p).2 (fun j => qm_vl G h p j (qm_et kd))).setSlot j v)) (hz1 : H1.size = H.size) (oq : ∀ q, q ≠ G.2.2.1 + p → H1[q]? = H[q]?) : qm_Rep G h' H1 ∧ va_S (qm_A G) (qm_S z).heap H1 (locs ++ [⟨G.2.2.1 + p, j⟩]) := by
  refine ⟨hR.set (p := p) hz hkn (fun q hq k t => by rw [ho, if_neg (fun e => hq e.1)]) hz1 oq ?_, hS0.put hz1 oq (Nat.le_add_right _ _)⟩
  have hkn2 : qm_kn G.2.2.2.2 h' p = qm_kn G.2.2.2.2 h p := by unfold qm_kn; rw [hkn]
  unfold qm_at
  rw [hkn2, hi.kd, if_neg hk9, e, arrV_store]
  congr 2
  funext k
  rw [ho]
  unfold updV
  by_cases ek : k = j
  · subst ek; simp
  · simp [ek]
theorem qm_iastW (hC : qm_C G M z) (hR : qm_Rep G h H) (hS0 : va_S (qm_A G) (qm_S z).heap H locs) {p : Nat} {i x : Int32} (hi : qm_is G.2.2.2.2 h p 10) (hin : vp_in i (qm_kn G.2.2.2.2 h p).2) (hd : decode M.2.1.2.1 pc = .ok (.iastore, 1))
    (kk : ∀ (H1 : Heap) (locs1 : List Loc), qm_Rep G (qm_si h p i.toNatClampNeg x) H1 → va_S (qm_A G) (qm_S z).heap H1 locs1 → qm_W z H1 locs1 c s (F0 z.2.2.2.2.2.1 (pc + 1) ls rest)) : qm_W z H locs c s (F0 z.2.2.2.2.2.1 pc ls (.int x :: .int i :: .ref (qm_ad G p) :: rest)) := by
  obtain ⟨e1, e2⟩ := hR.arr hi (by decide)
  rw [e1]
  refine W.iast hC.1 hC.2.1 e2 ((qm_tyK hC (k := 1) rfl).1 _ _) (fun q => by cases q) (by rw [arrV_size]; exact hin) rfl rfl hd fun H1 e z1 oq => ?_
  obtain ⟨g1, g2⟩ := qm_ast_fin hR hS0 (by decide) hi (h' := qm_si h p i.toNatClampNeg x) (v := .int x) rfl rfl (fun q k t => by rw [qm_vl_si]; rfl) e z1 oq
  exact kk H1 _ g1 g2
theorem qm_bastW (hC : qm_C G M z) (hR : qm_Rep G h H) (hS0 : va_S (qm_A G) (qm_S z).heap H locs) {p : Nat} {i x : Int32} (hi : qm_is G.2.2.2.2 h p 9) (hin : vp_in i (qm_kn G.2.2.2.2 h p).2) (hd : decode M.2.1.2.1 pc = .ok (.bastore, 1))
    (kk : ∀ (H1 : Heap) (locs1 : List Loc), qm_Rep G (qm_si h p i.toNatClampNeg x.toInt8.toInt32) H1 → va_S (qm_A G) (qm_S z).heap H1 locs1 → qm_W z H1 locs1 c s (F0 z.2.2.2.2.2.1 (pc + 1) ls rest)) : qm_W z H locs c s (F0 z.2.2.2.2.2.1 pc ls (.int x :: .int i :: .ref (qm_ad G p) :: rest)) := by
  obtain ⟨e1, e2⟩ := hR.arr hi (by decide)
  rw [e1]
  refine W.bast hC.1 hC.2.1 e2 ((qm_tyK hC (k := 0) rfl).1 _ _) (fun q => by cases q) (by rw [arrV_size]; exact hin) rfl rfl hd fun H1 e z1 oq => ?_
  obtain ⟨g1, g2⟩ := qm_ast_fin hR hS0 (by decide) hi (h' := qm_si h p i.toNatClampNeg x.toInt8.toInt32) (v := .int x.toInt8.toInt32) rfl rfl (fun q k t => by rw [qm_vl_si]; rfl) e z1 oq
  exact kk H1 _ g1 g2
theorem qm_zastW (hC : qm_C G M z) (hR : qm_Rep G h H) (hS0 : va_S (qm_A G) (qm_S z).heap H locs) {p : Nat} {i x : Int32} (hi : qm_is G.2.2.2.2 h p 11) (hin : vp_in i (qm_kn G.2.2.2.2 h p).2) (hd : decode M.2.1.2.1 pc = .ok (.bastore, 1))
    (kk : ∀ (H1 : Heap) (locs1 : List Loc), qm_Rep G (qm_si h p i.toNatClampNeg (x &&& 1)) H1 → va_S (qm_A G) (qm_S z).heap H1 locs1 → qm_W z H1 locs1 c s (F0 z.2.2.2.2.2.1 (pc + 1) ls rest)) : qm_W z H locs c s (F0 z.2.2.2.2.2.1 pc ls (.int x :: .int i :: .ref (qm_ad G p) :: rest)) := by
  obtain ⟨e1, e2⟩ := hR.arr hi (by decide)
  rw [e1]
  refine W.zast hC.1 hC.2.1 e2 ((qm_tyK hC (k := 2) rfl).1 _ _) (fun q => by cases q) (by rw [arrV_size]; exact hin) rfl rfl hd fun H1 e z1 oq => ?_
  obtain ⟨g1, g2⟩ := qm_ast_fin hR hS0 (by decide) hi (h' := qm_si h p i.toNatClampNeg (x &&& 1)) (v := .int (x &&& 1)) rfl rfl (fun q k t => by rw [qm_vl_si]; rfl) e z1 oq
  exact kk H1 _ g1 g2
theorem qm_aastW (hC : qm_C G M z) (hR : qm_Rep G h H) (hS0 : va_S (qm_A G) (qm_S z).heap H locs) {p kd v : Nat} {i : Int32} (hkd : kd = 12 ∨ kd = 13 ∨ kd = 14) (hi : qm_is G.2.2.2.2 h p kd) (hv : qm_is G.2.2.2.2 h v (qm_ec kd)) (hin : vp_in i (qm_kn G.2.2.2.2 h p).2) (hw : qm_wr G.2.2.2.2 p i.toNatClampNeg (some v)) (hd : decode M.2.1.2.1 pc = .ok (.aastore, 1))
    (kk : ∀ (H1 : Heap) (locs1 : List Loc), qm_Rep G (qm_sr h p i.toNatClampNeg (some v)) H1 → va_S (qm_A G) (qm_S z).heap H1 locs1 → qm_W z H1 locs1 c s (F0 z.2.2.2.2.2.1 (pc + 1) ls rest)) : qm_W z H locs c s (F0 z.2.2.2.2.2.1 pc ls (.ref (qm_ad G v) :: .int i :: .ref (qm_ad G p) :: rest)) := by
  have h9 : ¬ kd < 9 := by omega
  obtain ⟨e1, e2⟩ := hR.arr hi h9
  obtain ⟨e1v, r, hr, cellV, g1, g2, g3, -⟩ := hR.obj hv (by unfold qm_ec; rcases hkd with rfl | rfl | rfl <;> decide)
  rw [e1, e1v]
  have hlt := qm_in_lt hin
  have h0 : ¬ i < 0 := fun q => hin (Or.inl q)
  obtain ⟨-, hcls⟩ := qm_cls hC hr
  have hA : ∃ kA, (qm_S z).vm.classes[G.2.1 kd]? = some kA ∧ kA.kind = .array (G.1.1 (qm_ec kd)) (.object r.1) := by
    have fin : ∀ {C : String}, va_RA (qm_S z) (G.2.1 kd) (.object C) → r.1 = C → ∃ kA, (qm_S z).vm.classes[G.2.1 kd]? = some kA ∧ kA.kind = .array (G.1.1 (qm_ec kd)) (.object r.1) := by
      rintro C ⟨kA, comp, k1, k2, k3, -⟩ rfl
      have : comp = G.1.1 (qm_ec kd) := Option.some.inj (k3.symm.trans hcls.1)
      subst this
      exact ⟨kA, k1, k2⟩
    rcases hkd with rfl | rfl | rfl
    · exact fin (qm_tyK hC (k := 3) rfl).2 (by cases hr; rfl)
    · exact fin (qm_tyK hC (k := 4) rfl).2 (by cases hr; rfl)
    · exact fin (qm_tyK hC (k := 5) rfl).2 (by cases hr; rfl)
  obtain ⟨kA, k1, k2⟩ := hA
  obtain ⟨kC, hkC, -⟩ := hcls.2
  refine W.aast hC.1 hC.2.1 e2 (fun q h => by cases h) (fun h => by cases h) k1 k2 rfl hkC ⟨h0, by rw [arrV_size]; exact hlt⟩ g1 (fun q h => by rw [g3] at h; cases h) (by rw [g2]; exact hkC) (by rw [g2]; exact va_assign hcls) rfl rfl hd fun H1 e z1 oq => ?_
  have het : qm_et kd = 2 := by unfold qm_et; rw [if_neg (by omega)]
  obtain ⟨f1, f2⟩ := qm_ast_fin hR hS0 h9 hi (h' := qm_sr h p i.toNatClampNeg (some v)) (v := .ref (G.2.2.1 + v)) rfl rfl (fun q k t => by
    rw [qm_vl_sr hw, het]
    have e3 : va_rf ((some v).map (qm_ad G)) = .ref (G.2.2.1 + v) := by rw [Option.map_some, e1v]; rfl
    rw [e3]) e z1 oq
  exact kk H1 _ f1 f2
end Arr
end
section
/-! new cells -/
def qm_tagT : FieldType → Nat
  | .int => 0
  | .boolean => 0
  | .long => 1
  | .object _ => 2
  | .array _ => 2
  | _ => 3
set_option maxRecDepth 100000 in
theorem qm_tagok : ((List.range 9).all fun ci => match vwCl[ci]? with | some r => (List.range r.2.2).all fun k => decide (qm_tagT (qm_pt r k) = qm_ft ci k ∧ qm_ft ci k < 3) | none => false) = true := by decide +kernel
theorem qm_tag {ci k : Nat} {r : vw_C} (hr : vwCl[ci]? = some r) (hk : k < r.2.2) : qm_tagT (qm_pt r k) = qm_ft ci k ∧ qm_ft ci k < 3 := by
  have hc : ci < 9 := (List.getElem?_eq_some_iff.mp hr).1
  have h1 := List.all_eq_true.mp qm_tagok ci (List.mem_range.mpr hc)
  rw [hr] at h1
  exact of_decide_eq_true (List.all_eq_true.mp h1 k (List.mem_range.mpr hk))
theorem qm_SKle : qm_SK.length ≤ qm_SKK.length := by decide +kernel
section New
variable {G : qm_G} {M : qm_M} {z : qm_Z} {H : Heap} {locs : List Loc} {c s : Nat} {h : qm_H} {ls : Array Slot} {rest : List Value} {pc : Nat}
theorem qm_kn_nw {b : Bool} {h : qm_H} {kd n : Nat} (hb : b = true → qm_SKK.length ≤ h.2.2.2.2) : qm_kn b (qm_nw h kd n) h.2.2.2.2 = (kd, n) := by
  unfold qm_kn
  have e : (bif b then qm_SKK[h.2.2.2.2]? else none) = none := by
    cases b with
    | false => rfl
    | true => exact List.getElem?_eq_none (hb rfl)
  rw [e]
  simp [qm_nw, va_up]
theorem qm_rd_nw {b : Bool} {h : qm_H} {kd n j : Nat} (hb : b = true → qm_SKK.length ≤ h.2.2.2.2) : qm_rd b (qm_nw h kd n) h.2.2.2.2 j = none := by
  unfold qm_rd
  have e : (bif b then ((qm_SK[h.2.2.2.2]?).bind (fun r => r[j]?)).join else none) = none := by
    cases b with
    | false => rfl
    | true =>
      rw [List.getElem?_eq_none (Nat.le_trans qm_SKle (hb rfl))]
      rfl
  rw [e]
  simp [qm_nw, va_up]
theorem qm_old_nw {G : qm_G} {h : qm_H} {kd n q : Nat} (hq : q < h.2.2.2.2) : qm_kn G.2.2.2.2 (qm_nw h kd n) q = qm_kn G.2.2.2.2 h q ∧ ∀ j t, qm_vl G (qm_nw h kd n) q j t = qm_vl G h q j t := by
  have e : q ≠ h.2.2.2.2 := Nat.ne_of_lt hq
  refine ⟨?_, fun j t => ?_⟩
  · unfold qm_kn
    simp [qm_nw, va_up, e]
  · have e1 : qm_rd G.2.2.2.2 (qm_nw h kd n) q j = qm_rd G.2.2.2.2 h q j := by
      unfold qm_rd
      simp [qm_nw, va_up, e]
    unfold qm_vl
    rw [e1]
    simp [qm_nw, va_up, e]
theorem qm_Rep.nw {H1 : Heap} {kd n : Nat} (hR : qm_Rep G h H) (hz : h.2.2.2.2 < 1000000) (hs : H1.size = H.size + 1) (ho : ∀ q, q < H.size → H1[q]? = H[q]?) (hp : qm_at G (qm_nw h kd n) H1 h.2.2.2.2) : qm_Rep G (qm_nw h kd n) H1 := by
  refine ⟨by rw [hs, hR.1]; rfl, by show h.2.2.2.2 + 1 ≤ _; omega, fun hb => Nat.le_succ_of_le (hR.2.2.1 hb), fun q hq => ?_⟩
  have hq1 : q < h.2.2.2.2 + 1 := hq
  by_cases e : q = h.2.2.2.2
  · rw [e]; exact hp
  · have hq2 : q < h.2.2.2.2 := by omega
    obtain ⟨e1, e2⟩ := qm_old_nw (G := G) (h := h) (kd := kd) (n := n) hq2
    have h2 := hR.2.2.2 q hq2
    have h3 : H1[G.2.2.1 + q]? = H[G.2.2.1 + q]? := ho _ (by rw [hR.1]; omega)
    unfold qm_at at h2 ⊢
    rw [e1]
    split
    · rename_i hc
      rw [if_pos hc] at h2
      obtain ⟨r, g1, g2⟩ := h2
      exact ⟨r, g1, (g2.kept h3).to (fun k _ => (e2 k _).symm)⟩
    · rename_i hc
      rw [if_neg hc] at h2
      rw [h3, h2]
      congr 2
      funext j
      exact (e2 j _).symm
theorem qm_S_nw {H1 : Heap} (hS0 : va_S (qm_A G) (qm_S z).heap H locs) (hs : H1.size = H.size + 1) (ho : ∀ q, q < H.size → H1[q]? = H[q]?) : va_S (qm_A G) (qm_S z).heap H1 locs := ⟨Nat.le_trans hS0.1 (by omega), fun x h1 h2 => (ho x (Nat.lt_of_lt_of_le h1 hS0.1)).trans (hS0.2.1 x h1 h2), hS0.2.2⟩
theorem qm_newW (hC : qm_C G M z) (hR : qm_Rep G h H) (hS0 : va_S (qm_A G) (qm_S z).heap H locs) {ci idx : Nat} (hc9 : ci < 9) {r : vw_C} (hr : vwCl[ci]? = some r) (hz : h.2.2.2.2 < 1000000) (h1 : Cond.classLink M.1 idx r.1 ∈ qm_tb) (h2 : Cond.instantiable r.1 r.2.2 ∈ qm_tb) (h3 : Cond.initialized r.1 ∈ qm_tb) (hcells : c + 1 ≤ (qm_R z).cells) (hslots : s + r.2.2 ≤ (qm_R z).slots) (hd : decode M.2.1.2.1 pc = .ok (.new idx, 3))
    (kk : ∀ H1 : Heap, qm_Rep G (qm_nw h ci 0) H1 → va_S (qm_A G) (qm_S z).heap H1 locs → qm_W z H1 locs (c + 1) (s + r.2.2) (F0 z.2.2.2.2.2.1 (pc + 3) ls (.ref (qm_ad G h.2.2.2.2) :: rest))) : qm_W z H locs c s (F0 z.2.2.2.2.2.1 pc ls rest) := by
  have hts := hC.2.2.2.2.1
  have hKn := qm_cls hC hr
  have hk1 := qm_clok hr
  refine W.newcK hC.1 hC.2.1 hC.2.2.2.1 (hts _ h1) (hts _ h2) (hts _ h3) rfl hd hcells hslots hKn.2.1 (hR.1) fun H1 kC hkC e1 z1 o1 => ?_
  have ho : ∀ q, q < H.size → H1[q]? = H[q]? := fun q hq => o1 q (by rw [← hR.1]; exact hq)
  have hs : H1.size = H.size + 1 := by rw [z1, hR.1]
  rw [← qm_ad_lt hz]
  refine kk H1 (hR.nw hz hs ho ?_) (qm_S_nw hS0 hs ho)
  unfold qm_at
  rw [qm_kn_nw hR.2.2.1, if_pos hc9]
  refine ⟨r, hr, (u_born (qm_pt r) hts hk1.1 hKn hkC e1 hk1.2.1).to (fun k hk => ?_)⟩
  obtain ⟨ht, ht3⟩ := qm_tag hr hk
  dsimp only
  rw [← ht] at ht3 ⊢
  unfold qm_vl
  cases hq : qm_pt r k <;> simp only [qm_tagT, defaultValue, qm_rd_nw hR.2.2.1] <;> first | rfl | (simp [qm_nw, va_up]; done) | (rw [hq] at ht3; exact absurd ht3 (by decide))
theorem qm_newaW (hC : qm_C G M z) (hR : qm_Rep G h H) (hS0 : va_S (qm_A G) (qm_S z).heap H locs) {at_ : ArrayType} {kd k : Nat} (hk : (qm_tys G)[k]? = some (G.2.1 kd, newarray.typeOf at_)) (h9 : ¬ kd < 9) (ht : qm_et kd = 0) (hdv : defaultValue (newarray.typeOf at_) = .int 0) (hob : ∀ C, newarray.typeOf at_ ≠ .object C) (hz : h.2.2.2.2 < 1000000) (h1 : Cond.arrayClass (newarray.typeOf at_) ∈ qm_tb) {n : Int32} (hn : ¬ n < 0) (hbytes : n.toNatClampNeg * componentBytes (newarray.typeOf at_) ≤ 536870912) (hcells : c + 1 ≤ (qm_R z).cells) (hslots : s + n.toNatClampNeg ≤ (qm_R z).slots) (hd : decode M.2.1.2.1 pc = .ok (.newarray at_, 2))
    (kk : ∀ H1 : Heap, qm_Rep G (qm_nw h kd n.toNatClampNeg) H1 → va_S (qm_A G) (qm_S z).heap H1 locs → qm_W z H1 locs (c + 1) (s + n.toNatClampNeg) (F0 z.2.2.2.2.2.1 (pc + 2) ls (.ref (qm_ad G h.2.2.2.2) :: rest))) : qm_W z H locs c s (F0 z.2.2.2.2.2.1 pc ls (.int n :: rest)) := by
  have hts := hC.2.2.2.2.1
  refine va_newaK hC.1 hC.2.1 (hts _ h1) rfl hd rfl hn rfl hbytes hcells hslots hR.1 fun H1 cA e1 z1 o1 hAr hNm => ?_
  have ho : ∀ q, q < H.size → H1[q]? = H[q]? := fun q hq => o1 q (by rw [← hR.1]; exact hq)
  have hs : H1.size = H.size + 1 := by rw [z1, hR.1]
  have hcA : G.2.1 kd = cA := by
    have h2 := (qm_tyK hC hk).2
    have h3 : (qm_S z).vm.findClass ("[" ++ (newarray.typeOf at_).toString) = some (G.2.1 kd) := by
      revert h2 hob
      cases newarray.typeOf at_ <;> intro hob h2 <;> first | exact h2 | exact absurd rfl (hob _)
    exact Option.some.inj (h3.symm.trans hNm)
  rw [← qm_ad_lt hz]
  refine kk H1 (hR.nw hz hs ho ?_) (qm_S_nw hS0 hs ho)
  unfold qm_at
  rw [qm_kn_nw hR.2.2.1, if_neg h9, e1, ← hcA, ht, hdv]
  congr 2
  funext j
  simp [qm_vl, qm_nw, va_up]
theorem qm_anewW (hC : qm_C G M z) (hR : qm_Rep G h H) (hS0 : va_S (qm_A G) (qm_S z).heap H locs) {kd k idx : Nat} {C : String} (hk : (qm_tys G)[k]? = some (G.2.1 kd, .object C)) (hCC : C ∈ [RX3, RX7, RX8]) (h9 : ¬ kd < 9) (ht : qm_et kd = 2) (hz : h.2.2.2.2 < 1000000) (h1 : Cond.classLink M.1 idx C ∈ qm_tb) {n : Int32} (hn : ¬ n < 0) (hbytes : n.toNatClampNeg * 4 ≤ 536870912) (hcells : c + 1 ≤ (qm_R z).cells) (hslots : s + n.toNatClampNeg ≤ (qm_R z).slots) (hd : decode M.2.1.2.1 pc = .ok (.anewarray idx, 3))
    (kk : ∀ H1 : Heap, qm_Rep G (qm_nw h kd n.toNatClampNeg) H1 → va_S (qm_A G) (qm_S z).heap H1 locs → qm_W z H1 locs (c + 1) (s + n.toNatClampNeg) (F0 z.2.2.2.2.2.1 (pc + 3) ls (.ref (qm_ad G h.2.2.2.2) :: rest))) : qm_W z H locs c s (F0 z.2.2.2.2.2.1 pc ls (.int n :: rest)) := by
  have hts := hC.2.2.2.2.1
  refine W.anew hC.1 hC.2.1 hC.2.2.2.1 (hts _ h1) (va_AO.use (hC.2.2.2.2.2.2.2.2.2.1.2.1 C hCC)) rfl hd rfl hn hbytes hcells hslots fun cA kA comp f1 f2 f3 f4 => ?_
  generalize hH1 : H.push ({ cls := cA, slots := Array.replicate n.toNatClampNeg .null, vm := .none } : Cell) = H1
  have hs : H1.size = H.size + 1 := by rw [← hH1, Array.size_push]
  have e1 : H1[H.size]? = some (arrV cA n.toNatClampNeg (fun _ => .null)) := by rw [← hH1, Array.getElem?_push_size, ← arrV_new]
  have ho : ∀ q : Nat, q < H.size → H1[q]? = H[q]? := fun q hq => by rw [← hH1, Array.getElem?_push, if_neg (Nat.ne_of_lt hq)]
  have hcA : G.2.1 kd = cA := by
    obtain ⟨_, _, _, _, _, h3⟩ := (qm_tyK hC hk).2
    exact Option.some.inj (h3.symm.trans f1)
  have ea : qm_ad G h.2.2.2.2 = H.size := by rw [qm_ad_lt hz, hR.1]
  rw [← ea]
  refine kk H1 (hR.nw hz hs ho ?_) (qm_S_nw hS0 hs ho)
  unfold qm_at
  rw [qm_kn_nw hR.2.2.1, if_neg h9, ← hR.1, e1, ← hcA, ht]
  congr 2
  funext j
  simp [qm_vl, qm_rd_nw hR.2.2.1, va_rf]
end New
/-! calls -/
section Call
variable {G : qm_G} {M : qm_M} {z : qm_Z} {H : Heap} {locs : List Loc} {c s : Nat} {h : qm_H} {ls : Array Slot} {rest : List Value} {pc : Nat}
theorem qm_after {uQ : Option Value → qm_H → Prop} {a : Array Value} {mc ms : Nat} {st0 : List Value} (hr : va_Run z.1 z.2.1 z.2.2.1 z.2.2.2.1 z.2.2.2.2.1 z.2.2.2.2.2.1 z.2.2.2.2.2.2.1 z.2.2.2.2.2.2.2.1 z.2.2.2.2.2.2.2.2.1 z.2.2.2.2.2.2.2.2.2.1 H locs c s mc ms (F0 z.2.2.2.2.2.1 pc ls st0) rest (qm_Qc G uQ a) (qm_A G)) (hS0 : va_S (qm_A G) (qm_S z).heap H locs)
    (kk : ∀ (v : Option Value) (h' : qm_H) (H1 : Heap) (locs1 : List Loc), uQ v h' → qm_Rep G h' H1 → va_S (qm_A G) (qm_S z).heap H1 locs1 → qm_W z H1 locs1 (c + mc) (s + ms) (F0 z.2.2.2.2.2.1 (pc + 3) ls ((v.map (qm_mv G)).toList ++ rest))) : qm_W z H locs c s (F0 z.2.2.2.2.2.1 pc ls st0) := by
  intro T hT X
  obtain ⟨v, st₀, t, T', L, h0, X', hL, e1, e2, ⟨w, h', hv, hp, hR, hz, hk⟩, st⟩ := hr T hT X
  cases hv
  rw [h0] at hz hk
  obtain ⟨t2, a1, b1⟩ := kk w h' T'.heap (locs ++ L) hp (by rw [e1]; exact hR)
    ⟨Nat.le_trans hS0.1 (by rw [e1]; exact hz), fun q h1 h2 => by rw [e1, hk q (Nat.lt_of_lt_of_le h1 hS0.1) h2]; exact hS0.2.1 q h1 h2, fun q hq => by
      rcases List.mem_append.mp hq with h | h
      · exact hS0.2.2 q h
      · exact hL q h⟩ T' rfl X'
  exact ⟨t2, st t2 a1, b1⟩
/-- what the tables say of a call -/
def qm_cok (own : String) (idx n : Nat) (y : qm_CI) : Prop := Cond.code y.1 y.2.1 y.2.2.1 y.2.2.2 ∈ qm_tb ∧ Cond.initialized y.1.cls ∈ qm_tb ∧ (y.1.cls ≠ "java/lang/invoke/MethodHandle" ∧ y.1.cls ≠ "java/lang/invoke/VarHandle") ∧ (parseMethodDescriptor y.1.desc).map (fun d => d.parameters.length) = some n ∧ Cond.methodLink own idx y.1 ∈ qm_tb ∧ y.2.2.1 ≤ 22
theorem qm_good {w : Cond} (h : w ∈ qm_tb) : (w.onTables && w.keeps) = true ∨ ∃ ty, w = .arrayClass ty := good_of_word (List.mem_filter.mp h).2
theorem qm_callB (hC : qm_C G M z) {idx n d C1 S1 : Nat} {y : qm_CI} (hk : qm_cok M.1 idx n y) (hd1 : d + 1 ≤ (qm_R z).frames) (hd2 : 41 * (d + 1) ≤ (qm_R z).locals) : CallB (qm_R z) (qm_S z) z.2.2.2.2.2.2.1 M.1 idx y.1 y.2.1 y.2.2.1 y.2.2.2 (qm_ws y) { frames := d, cells := C1, slots := S1, locals := 41 * d } C1 S1 n := by
  obtain ⟨k1, k2, k3, k4, k5, k6⟩ := hk
  have hts := hC.2.2.2.2.1
  refine ⟨rfl, rfl, hd1, ?_, pay_in (big := qm_tb) hts (fun w hw => ?_), List.mem_cons_self, hts _ k1, hts _ k2, k3, fun sig e => ?_, hts _ k5⟩
  · show 8 + (y.2.2.1 + 11) + 41 * d ≤ _
    omega
  · rcases List.mem_cons.mp hw with rfl | hw
    · exact ⟨k1, qm_good k1⟩
    · exact ⟨hw, qm_good hw⟩
  · rw [e] at k4
    exact (Option.some.inj k4).symm
theorem qm_blind (as : List Value) (h : qm_H) : FrameBlind (qm_Pc G as h) := fun a U g mk q => ⟨q.1, q.2.1, qm_K.same (s := U) (U := U.calling g mk a) rfl q.2.2⟩
theorem qm_pre (hC : qm_C G M z) (hR : qm_Rep G h H) (hS0 : va_S (qm_A G) (qm_S z).heap H locs) (as : List Value) : ∀ U : State, U.heap = H → (qm_S z).WarmedH U.vm → qm_Pc G as h (as.map (qm_mv G)).toArray U := fun U hU hW => ⟨rfl, by rw [hU]; exact hR, by rw [hU]; exact qm_K.moved hW hS0.1 (fun a ha hn => hS0.2.1 a ha hn) hC.2.2.2.2.2.2.2.2⟩
theorem qm_staW (hC : qm_C G M z) (hR : qm_Rep G h H) (hS0 : va_S (qm_A G) (qm_S z).heap H locs) {idx n d C1 S1 : Nat} {y : qm_CI} {as rs : List Value} {uQ : Option Value → qm_H → Prop} (hk : qm_cok M.1 idx n y) (hst : Cond.static y.1 ∈ qm_tb) (hd1 : d + 1 ≤ (qm_R z).frames) (hd2 : 41 * (d + 1) ≤ (qm_R z).locals) (hE : qm_Ev G d C1 S1 y as h uQ) (hn : as.length = n) (hsz : ls.size = M.2.1.2.2.1) (hcat : (rs.map fun v => v.category).sum ≤ 8) (hc1 : c + C1 ≤ (qm_R z).cells) (hs1 : s + S1 ≤ (qm_R z).slots) (hd : decode M.2.1.2.1 pc = .ok (.invokestatic idx, 3))
    (kk : ∀ (v : Option Value) (h' : qm_H) (H1 : Heap) (locs1 : List Loc), uQ v h' → qm_Rep G h' H1 → va_S (qm_A G) (qm_S z).heap H1 locs1 → qm_W z H1 locs1 (c + C1) (s + S1) (F0 z.2.2.2.2.2.1 (pc + 3) ls ((v.map (qm_mv G)).toList ++ rs.map (qm_mv G)))) : qm_W z H locs c s (F0 z.2.2.2.2.2.1 pc ls ((as.reverse ++ rs).map (qm_mv G))) := by
  have hts := hC.2.2.2.2.1
  refine qm_after (rest := rs.map (qm_mv G)) (va_runS (As := as.map (qm_mv G)) ⟨hC.1, hC.2.1, hC.2.2.1, hC.2.2.2.1, hts⟩ (hE z.2.1) ⟨qm_callB hC hk hd1 hd2, hts _ hst⟩ ⟨qm_blind as h, qm_pre hC hR hS0 as⟩ rfl (by rw [List.length_map]; exact hn) hsz (by rw [List.map_append, List.map_reverse]) ?_ hd ⟨hc1, hs1⟩) hS0 kk
  refine lv_room ?_
  rw [List.map_map]
  refine Nat.le_trans (Nat.le_of_eq ?_) hcat
  congr 1
  refine List.map_congr_left fun v _ => ?_
  exact qm_mv_cat G v
theorem qm_recv (hC : qm_C G M z) (hR : qm_Rep G h H) {p ci : Nat} {r : vw_C} (hr : vwCl[ci]? = some r) (hc9 : ci < 9) (hi : qm_is G.2.2.2.2 h p ci) : ∃ cellB : Cell, H[qm_ad G p]? = some cellB ∧ cellB.vm.isStatics = false ∧ (qm_S z).vm.findClass r.1 = some cellB.cls := by
  obtain ⟨e1, r', e2, cell, q1, q2, q3, -⟩ := hR.obj hi hc9
  have e3 : r' = r := Option.some.inj (e2.symm.trans hr)
  subst e3
  exact ⟨cell, by rw [e1]; exact q1, by rw [q3]; rfl, by rw [q2]; exact (qm_cls hC hr).2.1⟩
theorem qm_virW (hC : qm_C G M z) (hR : qm_Rep G h H) (hS0 : va_S (qm_A G) (qm_S z).heap H locs) {idx n d C1 S1 ci p : Nat} {y : qm_CI} {as rs : List Value} {uQ : Option Value → qm_H → Prop} {r : vw_C} (hr : vwCl[ci]? = some r) (hc9 : ci < 9) (hi : qm_is G.2.2.2.2 h p ci) (hk : qm_cok M.1 idx n y) (hin : Cond.instanceMethod y.1 ∈ qm_tb) (hse : Cond.selects r.1 y.1 y.1 ∈ qm_tb) (hd1 : d + 1 ≤ (qm_R z).frames) (hd2 : 41 * (d + 1) ≤ (qm_R z).locals) (hE : qm_Ev G d C1 S1 y (.ref p :: as) h uQ) (hn : as.length = n) (hsz : ls.size = M.2.1.2.2.1) (hcat : (rs.map fun v => v.category).sum ≤ 8) (hc1 : c + C1 ≤ (qm_R z).cells) (hs1 : s + S1 ≤ (qm_R z).slots) (hd : decode M.2.1.2.1 pc = .ok (.invokevirtual idx, 3))
    (kk : ∀ (v : Option Value) (h' : qm_H) (H1 : Heap) (locs1 : List Loc), uQ v h' → qm_Rep G h' H1 → va_S (qm_A G) (qm_S z).heap H1 locs1 → qm_W z H1 locs1 (c + C1) (s + S1) (F0 z.2.2.2.2.2.1 (pc + 3) ls ((v.map (qm_mv G)).toList ++ rs.map (qm_mv G)))) : qm_W z H locs c s (F0 z.2.2.2.2.2.1 pc ls ((as.reverse ++ .ref p :: rs).map (qm_mv G))) := by
  have hts := hC.2.2.2.2.1
  refine qm_after (rest := rs.map (qm_mv G)) (va_runV (As := as.map (qm_mv G)) (b := qm_ad G p) (C := r.1) ⟨hC.1, hC.2.1, hC.2.2.1, hC.2.2.2.1, hts⟩ (hE z.2.1) ⟨qm_callB hC hk hd1 hd2, hts _ hin, hts _ hse⟩ ⟨qm_blind _ h, qm_recv hC hR hr hc9 hi, qm_pre hC hR hS0 (.ref p :: as)⟩ rfl (by rw [List.length_map]; exact hn) hsz (by rw [List.map_append, List.map_reverse]; rfl) ?_ hd ⟨hc1, hs1⟩) hS0 kk
  refine lv_room ?_
  rw [List.map_map]
  refine Nat.le_trans (Nat.le_of_eq ?_) hcat
  congr 1
  refine List.map_congr_left fun v _ => ?_
  exact qm_mv_cat G v
theorem qm_speW (hC : qm_C G M z) (hR : qm_Rep G h H) (hS0 : va_S (qm_A G) (qm_S z).heap H locs) {idx n d C1 S1 p : Nat} {y : qm_CI} {as rs : List Value} {uQ : Option Value → qm_H → Prop} (hk : qm_cok M.1 idx n y) (hret : y.2.2.2 = none) (hin : Cond.instanceMethod y.1 ∈ qm_tb) (hy1 : y.1.name = "<init>") (hd1 : d + 1 ≤ (qm_R z).frames) (hd2 : 41 * (d + 1) ≤ (qm_R z).locals) (hE : qm_Ev G d C1 S1 y (.ref p :: as) h uQ) (hn : as.length = n) (hsz : ls.size = M.2.1.2.2.1) (hcat : (rs.map fun v => v.category).sum ≤ 8) (hc1 : c + C1 ≤ (qm_R z).cells) (hs1 : s + S1 ≤ (qm_R z).slots) (hd : decode M.2.1.2.1 pc = .ok (.invokespecial idx, 3))
    (kk : ∀ (v : Option Value) (h' : qm_H) (H1 : Heap) (locs1 : List Loc), uQ v h' → qm_Rep G h' H1 → va_S (qm_A G) (qm_S z).heap H1 locs1 → qm_W z H1 locs1 (c + C1) (s + S1) (F0 z.2.2.2.2.2.1 (pc + 3) ls ((v.map (qm_mv G)).toList ++ rs.map (qm_mv G)))) : qm_W z H locs c s (F0 z.2.2.2.2.2.1 pc ls ((as.reverse ++ .ref p :: rs).map (qm_mv G))) := by
  have hts := hC.2.2.2.2.1
  obtain ⟨y1, y2, y3, y4⟩ := y
  dsimp only at hret
  subst hret
  refine qm_after (rest := rs.map (qm_mv G)) (va_runI (As := as.map (qm_mv G)) (b := qm_ad G p) ⟨hC.1, hC.2.1, hC.2.2.1, hC.2.2.2.1, hts⟩ (hE z.2.1) ⟨qm_callB hC hk hd1 hd2, hy1, hts _ hin⟩ ⟨qm_blind _ h, qm_pre hC hR hS0 (.ref p :: as)⟩ rfl (by rw [List.length_map]; exact hn) hsz (by rw [List.map_append, List.map_reverse]; rfl) ?_ hd ⟨hc1, hs1⟩) hS0 kk
  refine lv_room ?_
  rw [List.map_map]
  refine Nat.le_trans (Nat.le_of_eq ?_) hcat
  congr 1
  refine List.map_congr_left fun v _ => ?_
  exact qm_mv_cat G v
end Call
end
section
/-! calls of nest mates; the start and the end of a method -/
section Nest
variable {G : qm_G} {M : qm_M} {z : qm_Z} {H : Heap} {locs : List Loc} {c s : Nat} {h : qm_H} {ls : Array Slot} {rest : List Value} {pc : Nat}
def qm_cokN (own : String) (idx n : Nat) (y : qm_CI) (host : String) : Prop := Cond.code y.1 y.2.1 y.2.2.1 y.2.2.2 ∈ qm_tb ∧ Cond.initialized y.1.cls ∈ qm_tb ∧ (y.1.cls ≠ "java/lang/invoke/MethodHandle" ∧ y.1.cls ≠ "java/lang/invoke/VarHandle") ∧ (parseMethodDescriptor y.1.desc).map (fun d => d.parameters.length) = some n ∧ Cond.methodLinkNest own idx y.1 host ∈ lw_tbl ∧ y.2.2.1 ≤ 22
theorem qm_callN (hC : qm_C G M z) {idx n d C1 S1 : Nat} {y : qm_CI} {host : String} (hk : qm_cokN M.1 idx n y host) (hd1 : d + 1 ≤ (qm_R z).frames) (hd2 : 41 * (d + 1) ≤ (qm_R z).locals) : va_CN (qm_R z) (qm_S z) z.2.2.2.2.2.2.1 M.1 idx y.1 host y.2.1 y.2.2.1 y.2.2.2 (qm_ws y) { frames := d, cells := C1, slots := S1, locals := 41 * d } C1 S1 n := by
  obtain ⟨k1, k2, k3, k4, k5, k6⟩ := hk
  have hts := hC.2.2.2.2.1
  refine ⟨⟨rfl, rfl, hd1, ?_, pay_in (big := qm_tb) hts (fun w hw => ?_), List.mem_cons_self⟩, hts _ k1, hts _ k2, k3, fun sig e => ?_, va_Nw.use rfl (hC.2.2.2.2.2.2.2.2.2.1.1 _ k5 rfl)⟩
  · show 8 + (y.2.2.1 + 11) + 41 * d ≤ _
    omega
  · rcases List.mem_cons.mp hw with rfl | hw
    · exact ⟨k1, qm_good k1⟩
    · exact ⟨hw, qm_good hw⟩
  · rw [e] at k4
    exact (Option.some.inj k4).symm
theorem qm_staNW (hC : qm_C G M z) (hR : qm_Rep G h H) (hS0 : va_S (qm_A G) (qm_S z).heap H locs) {idx n d C1 S1 : Nat} {y : qm_CI} {host : String} {as rs : List Value} {uQ : Option Value → qm_H → Prop} (hk : qm_cokN M.1 idx n y host) (hst : Cond.static y.1 ∈ qm_tb) (hd1 : d + 1 ≤ (qm_R z).frames) (hd2 : 41 * (d + 1) ≤ (qm_R z).locals) (hE : qm_Ev G d C1 S1 y as h uQ) (hn : as.length = n) (hsz : ls.size = M.2.1.2.2.1) (hcat : (rs.map fun v => v.category).sum ≤ 8) (hc1 : c + C1 ≤ (qm_R z).cells) (hs1 : s + S1 ≤ (qm_R z).slots) (hd : decode M.2.1.2.1 pc = .ok (.invokestatic idx, 3))
    (kk : ∀ (v : Option Value) (h' : qm_H) (H1 : Heap) (locs1 : List Loc), uQ v h' → qm_Rep G h' H1 → va_S (qm_A G) (qm_S z).heap H1 locs1 → qm_W z H1 locs1 (c + C1) (s + S1) (F0 z.2.2.2.2.2.1 (pc + 3) ls ((v.map (qm_mv G)).toList ++ rs.map (qm_mv G)))) : qm_W z H locs c s (F0 z.2.2.2.2.2.1 pc ls ((as.reverse ++ rs).map (qm_mv G))) := by
  have hts := hC.2.2.2.2.1
  refine qm_after (rest := rs.map (qm_mv G)) (va_runSN (As := as.map (qm_mv G)) ⟨hC.1, hC.2.1, hC.2.2.1, hC.2.2.2.1, hts⟩ (hE z.2.1) ⟨qm_callN hC hk hd1 hd2, hts _ hst, trivial⟩ ⟨qm_blind as h, qm_pre hC hR hS0 as⟩ rfl (by rw [List.length_map]; exact hn) hsz (by rw [List.map_append, List.map_reverse]) ?_ hd ⟨hc1, hs1⟩) hS0 kk
  refine lv_room ?_
  rw [List.map_map]
  refine Nat.le_trans (Nat.le_of_eq ?_) hcat
  congr 1
  refine List.map_congr_left fun v _ => ?_
  exact qm_mv_cat G v
theorem qm_speNW (hC : qm_C G M z) (hR : qm_Rep G h H) (hS0 : va_S (qm_A G) (qm_S z).heap H locs) {idx n d C1 S1 p : Nat} {y : qm_CI} {host : String} {as rs : List Value} {uQ : Option Value → qm_H → Prop} (hk : qm_cokN M.1 idx n y host) (hret : y.2.2.2 = none) (hin : Cond.instanceMethod y.1 ∈ qm_tb) (hy1 : y.1.name = "<init>") (hd1 : d + 1 ≤ (qm_R z).frames) (hd2 : 41 * (d + 1) ≤ (qm_R z).locals) (hE : qm_Ev G d C1 S1 y (.ref p :: as) h uQ) (hn : as.length = n) (hsz : ls.size = M.2.1.2.2.1) (hcat : (rs.map fun v => v.category).sum ≤ 8) (hc1 : c + C1 ≤ (qm_R z).cells) (hs1 : s + S1 ≤ (qm_R z).slots) (hd : decode M.2.1.2.1 pc = .ok (.invokespecial idx, 3))
    (kk : ∀ (v : Option Value) (h' : qm_H) (H1 : Heap) (locs1 : List Loc), uQ v h' → qm_Rep G h' H1 → va_S (qm_A G) (qm_S z).heap H1 locs1 → qm_W z H1 locs1 (c + C1) (s + S1) (F0 z.2.2.2.2.2.1 (pc + 3) ls ((v.map (qm_mv G)).toList ++ rs.map (qm_mv G)))) : qm_W z H locs c s (F0 z.2.2.2.2.2.1 pc ls ((as.reverse ++ .ref p :: rs).map (qm_mv G))) := by
  have hts := hC.2.2.2.2.1
  obtain ⟨y1, y2, y3, y4⟩ := y
  dsimp only at hret
  subst hret
  refine qm_after (rest := rs.map (qm_mv G)) (va_runIN (As := as.map (qm_mv G)) (b := qm_ad G p) ⟨hC.1, hC.2.1, hC.2.2.1, hC.2.2.2.1, hts⟩ (hE z.2.1) ⟨qm_callN hC hk hd1 hd2, hy1, hts _ hin⟩ ⟨qm_blind _ h, qm_pre hC hR hS0 (.ref p :: as)⟩ rfl (by rw [List.length_map]; exact hn) hsz (by rw [List.map_append, List.map_reverse]; rfl) ?_ hd ⟨hc1, hs1⟩) hS0 kk
  refine lv_room ?_
  rw [List.map_map]
  refine Nat.le_trans (Nat.le_of_eq ?_) hcat
  congr 1
  refine List.map_congr_left fun v _ => ?_
  exact qm_mv_cat G v
end Nest
/-- the end that a walk of a method wants -/
def qm_MQ (G : qm_G) (z : qm_Z) (uQ : Option Value → qm_H → Prop) : Prop := z.2.2.2.2.2.2.2.2.2.2 = MQ z.2.2.2.2.2.2.2.1 (qm_Qc G uQ) z.2.2.2.2.2.2.1 (qm_S z) (qm_R z).cells (qm_R z).slots (qm_A G)
/-- the locals at the start -/
def qm_in : List Value → qm_L
  | [] => []
  | v :: vs => bif qm_two (some (some v)) then some v :: none :: qm_in vs else some v :: qm_in vs
def qm_L0 (n : Nat) (as : List Value) : qm_L := qm_in as ++ List.replicate (n - (qm_in as).length) none
theorem qm_in_len (G : qm_G) : ∀ as : List Value, (lg_sl (as.map (qm_mv G))).length = (qm_in as).length
  | [] => rfl
  | v :: vs => by
    have ih := qm_in_len G vs
    unfold lg_sl at ih ⊢
    rw [List.map_cons, List.flatMap_cons, List.length_append, ih, qm_mv_cat]
    have e0 : qm_in (v :: vs) = bif qm_two (some (some v)) then some v :: none :: qm_in vs else some v :: qm_in vs := rfl
    rw [e0, qm_two_cat]
    rcases lv_cat v with e | e <;> simp [e] <;> omega
theorem qm_in_args (G : qm_G) : ∀ (as : List Value) (i j : Nat) (v : Value), (qm_in as)[j]? = some (some v) → (i + j, qm_mv G v) ∈ lv_args i (as.map (qm_mv G))
  | [], i, j, v, h => by simp [qm_in] at h
  | w :: vs, i, j, v, h => by
    unfold qm_in at h
    rw [qm_two_cat] at h
    rw [List.map_cons, lv_args, qm_mv_cat]
    rcases lv_cat w with e | e
    · simp only [e, Nat.reduceBEq, cond_false, Nat.reduceEqDiff, if_false] at h ⊢
      cases j with
      | zero => simp at h; subst h; simp
      | succ j =>
        have := qm_in_args G vs (i + 1) j v (by simpa using h)
        refine List.mem_cons_of_mem _ ?_
        rw [show i + (j + 1) = i + 1 + j by omega]
        exact this
    · simp only [e, Nat.reduceBEq, cond_true, if_true] at h ⊢
      match j with
      | 0 => simp at h; subst h; simp
      | 1 => simp at h
      | j + 2 =>
        have := qm_in_args G vs (i + 2) j v (by simpa using h)
        refine List.mem_cons_of_mem _ ?_
        rw [show i + (j + 2) = i + 2 + j by omega]
        exact this
theorem qm_L0_lv (G : qm_G) (n : Nat) (as : List Value) (h : (qm_in as).length ≤ n) : qm_lv G ((lg_sl (as.map (qm_mv G)) ++ List.replicate (n - (lg_sl (as.map (qm_mv G))).length) Slot.unset).toArray) n (qm_L0 n as) := by
  have h1 := lv_entry (as.map (qm_mv G)) (n := n) (by rw [qm_in_len]; exact h)
  refine ⟨h1.1, h1.2.1, fun q hq => ?_⟩
  obtain ⟨j, w, hw, rfl⟩ := (qm_al_mem G _ 0 q).mp hq
  refine h1.2.2 _ (qm_in_args G as 0 j w ?_)
  unfold qm_L0 at hw
  rw [List.getElem?_append] at hw
  split at hw
  · exact hw
  · rw [List.getElem?_replicate] at hw
    split at hw <;> cases hw
/-- A CONTRACT OUT OF A WALK -/
theorem qm_Ev.intro {G : qm_G} {d C S : Nat} (M : qm_M) {as : List Value} {h : qm_H} {uQ : Option Value → qm_H → Prop} (hy : plainName M.2.1.1.cls = true) (hown : M.1 = M.2.1.1.cls) (hn : (qm_in as).length ≤ M.2.1.2.2.1) (h0 : qm_pc M 0 = 0)
    (body : ∀ z : qm_Z, qm_C G M z → qm_R z = { frames := d, cells := C, slots := S, locals := 41 * d } → qm_MQ G z uQ → qm_PW G M z 0 0 0 (qm_L0 M.2.1.2.2.1 as) [] h) : qm_Ev G d C S M.2.1 as h uQ := by
  intro l
  refine Met.ofW (cc := M.2.1.2.1) (maxL := M.2.1.2.2.1) (ret := M.2.1.2.2.2) hy rfl ?_
  intro p e s m args below meth c s₁ B hml hv
  obtain ⟨rfl, hR, hK⟩ := hv
  have hts : ∀ w ∈ qm_tb, w.before (as.map (qm_mv G)).toArray s = true := fun w hw => atoms_spec (ws := qm_ws M.2.1) B.pre w (List.mem_cons_of_mem _ hw)
  have hown2 : s.vm.findClass M.1 = some m.cls := by rw [hown]; exact findClass_of_methodNamed B.named
  have hPW := body (p, l, e, { frames := d, cells := C, slots := S, locals := 41 * d }, s, m, (as.map (qm_mv G)).toArray, below, meth, c, MQ below (qm_Qc G uQ) (as.map (qm_mv G)).toArray s C S (qm_A G)) ⟨B.exec, B.bytes, hml, hown2, hts, B.notSynchronized, B.returns, (name_of_methodNamed B.named B.method).1, hK⟩ rfl rfl
  have := hPW s.heap [] _ (Nat.zero_le _) (Nat.zero_le _) hR va_S.rf (qm_L0_lv G _ as hn)
  rw [h0] at this
  rw [lg_entry_eq]
  exact this
section Ret
variable {G : qm_G} {M : qm_M} {z : qm_Z} {H : Heap} {locs : List Loc} {c s : Nat} {h : qm_H} {ls : Array Slot} {pc : Nat} {uQ : Option Value → qm_H → Prop}
theorem qm_qc (hR : qm_Rep G h H) (hS0 : va_S (qm_A G) (qm_S z).heap H locs) (v : Option Value) (hq : uQ v h) : ∀ t : State, t.heap = H → (qm_S z).WarmedH t.vm → qm_Qc G uQ z.2.2.2.2.2.2.1 (qm_S z) (.returned (v.map (qm_mv G))) t := fun t ht _ => ⟨v, h, rfl, hq, by rw [ht]; exact hR, hS0.F ht⟩
theorem qm_iretW (hC : qm_C G M z) (hZ : qm_MQ G z uQ) (hR : qm_Rep G h H) (hS0 : va_S (qm_A G) (qm_S z).heap H locs) (hc : c ≤ (qm_R z).cells) (hs : s ≤ (qm_R z).slots) {x : Int32} {ty : FieldType} (hty : M.2.1.2.2.2 = some ty) (hn : narrow ty (.int x) = .int x) (hq : uQ (some (.int x)) h) (hd : decode M.2.1.2.1 pc = .ok (.ireturn, 1)) : qm_W z H locs c s (F0 z.2.2.2.2.2.1 pc ls [.int x]) := by
  unfold qm_W
  rw [hZ]
  exact W.widen hc hs (W.zret hC.1 hC.2.1 (hC.2.2.2.2.2.2.1.trans hty) hn (qm_qc hR hS0 (some (.int x)) hq) hS0.2.2 hd hC.2.2.2.2.2.1)
theorem qm_lretW (hC : qm_C G M z) (hZ : qm_MQ G z uQ) (hR : qm_Rep G h H) (hS0 : va_S (qm_A G) (qm_S z).heap H locs) (hc : c ≤ (qm_R z).cells) (hs : s ≤ (qm_R z).slots) {x : Int64} (hty : M.2.1.2.2.2 = some .long) (hq : uQ (some (.long x)) h) (hd : decode M.2.1.2.1 pc = .ok (.lreturn, 1)) : qm_W z H locs c s (F0 z.2.2.2.2.2.1 pc ls [.long x]) := by
  unfold qm_W
  rw [hZ]
  exact W.widen hc hs (W.lret hC.1 hC.2.1 (hC.2.2.2.2.2.2.1.trans hty) (qm_qc hR hS0 (some (.long x)) hq) hS0.2.2 hd hC.2.2.2.2.2.1)
theorem qm_vretW (hC : qm_C G M z) (hZ : qm_MQ G z uQ) (hR : qm_Rep G h H) (hS0 : va_S (qm_A G) (qm_S z).heap H locs) (hc : c ≤ (qm_R z).cells) (hs : s ≤ (qm_R z).slots) (hty : M.2.1.2.2.2 = none) (hq : uQ none h) (hd : decode M.2.1.2.1 pc = .ok (.return_, 1)) : qm_W z H locs c s (F0 z.2.2.2.2.2.1 pc ls []) := by
  unfold qm_W
  rw [hZ]
  exact W.widen hc hs (W.vret hC.1 hC.2.1 (hC.2.2.2.2.2.2.1.trans hty) (qm_qc hR hS0 none hq) hS0.2.2 hd hC.2.2.2.2.2.1)
theorem qm_aretW (hC : qm_C G M z) (hZ : qm_MQ G z uQ) (hR : qm_Rep G h H) (hS0 : va_S (qm_A G) (qm_S z).heap H locs) (hc : c ≤ (qm_R z).cells) (hs : s ≤ (qm_R z).slots) {v : Value} {rt : FieldType} (hty : M.2.1.2.2.2 = some rt) (hrt : (∃ n, rt = .object n) ∨ ∃ t, rt = .array t) (hv : v = .null ∨ ∃ a, v = .ref a) (hq : uQ (some v) h) (hd : decode M.2.1.2.1 pc = .ok (.areturn, 1)) : qm_W z H locs c s (F0 z.2.2.2.2.2.1 pc ls [qm_mv G v]) := by
  unfold qm_W
  rw [hZ]
  exact W.widen hc hs (W.aret hC.1 hC.2.1 (hC.2.2.2.2.2.2.1.trans hty) hrt (by rcases hv with rfl | ⟨a, rfl⟩; exact Or.inl rfl; exact Or.inr ⟨_, rfl⟩) (qm_qc hR hS0 (some v) hq) hS0.2.2 hd hC.2.2.2.2.2.1)
end Ret
end
section
/-! one instruction of the pure machine -/
def qm_p1 (st : List Value) (k : Int32 → List Value → Prop) : Prop := match st with
  | .int x :: r => k x r
  | _ => False
def qm_p2 (st : List Value) (k : Int32 → Int32 → List Value → Prop) : Prop := match st with
  | .int y :: .int x :: r => k x y r
  | _ => False
def qm_q1 (st : List Value) (k : Int64 → List Value → Prop) : Prop := match st with
  | .long x :: r => k x r
  | _ => False
def qm_q2 (st : List Value) (k : Int64 → Int64 → List Value → Prop) : Prop := match st with
  | .long y :: .long x :: r => k x y r
  | _ => False
def qm_qi (st : List Value) (k : Int64 → Int32 → List Value → Prop) : Prop := match st with
  | .int y :: .long x :: r => k x y r
  | _ => False
def qm_pr (st : List Value) (k : Nat → List Value → Prop) : Prop := match st with
  | .ref p :: r => k p r
  | _ => False
def qm_pa (st : List Value) (k : Nat → Int32 → List Value → Prop) : Prop := match st with
  | .int i :: .ref p :: r => k p i r
  | _ => False
def qm_ps (st : List Value) (k : Nat → Int32 → Int32 → List Value → Prop) : Prop := match st with
  | .int x :: .int i :: .ref p :: r => k p i x r
  | _ => False
def qm_pq (st : List Value) (k : Nat → Int32 → Nat → List Value → Prop) : Prop := match st with
  | .ref v :: .int i :: .ref p :: r => k p i v r
  | _ => False
def qm_fi (st : List Value) (k : Nat → Int32 → List Value → Prop) : Prop := match st with
  | .int x :: .ref p :: r => k p x r
  | _ => False
def qm_fl (st : List Value) (k : Nat → Int64 → List Value → Prop) : Prop := match st with
  | .long x :: .ref p :: r => k p x r
  | _ => False
def qm_fr (st : List Value) (k : Nat → Option Nat → List Value → Prop) : Prop := match st with
  | .ref v :: .ref p :: r => k p (some v) r
  | .null :: .ref p :: r => k p none r
  | _ => False
def qm_nl (st : List Value) (k0 k1 : List Value → Prop) : Prop := match st with
  | .null :: r => k0 r
  | .ref _ :: r => k1 r
  | _ => False
def qm_d1 (st : List Value) (k : Value → List Value → Prop) : Prop := match st with
  | .int x :: r => k (.int x) r
  | .ref x :: r => k (.ref x) r
  | .null :: r => k .null r
  | _ => False
def qm_d2 (st : List Value) (k : Value → Value → List Value → Prop) : Prop := match st with
  | .int y :: .ref x :: r => k (.int y) (.ref x) r
  | .int y :: .int x :: r => k (.int y) (.int x) r
  | _ => False
def qm_lc (L : qm_L) (i : Nat) (k : Value → Prop) : Prop := match L[i]? with
  | some (some v) => k v
  | _ => False
def qm_li (v : Value) (k : Int32 → Prop) : Prop := match v with
  | .int x => k x
  | _ => False
def qm_ll (v : Value) (k : Int64 → Prop) : Prop := match v with
  | .long x => k x
  | _ => False
def qm_la (v : Value) (k : Prop) : Prop := match v with
  | .ref _ => k
  | .null => k
  | _ => False
def qm_pop : Nat → List Value → List Value → Option (List Value × List Value)
  | 0, acc, st => some (acc, st)
  | n + 1, acc, v :: st => qm_pop n (v :: acc) st
  | _ + 1, _, [] => none
def qm_cs (n : Nat) (st : List Value) (k : List Value → List Value → Prop) : Prop := match qm_pop n [] st with
  | some (as, r) => bif Nat.ble ((r.map fun v => v.category).sum) 8 then k as r else False
  | none => False
def qm_c1 (as : List Value) (k : Nat → List Value → Prop) : Prop := match as with
  | .ref p :: as' => k p as'
  | _ => False
/-- the cases of a switch -/
def qm_sw (x : Int32) (k : Nat → Prop) : Int → List Nat → Prop
  | _, [] => True
  | lo, t :: ts => (x = Int32.ofInt lo → k t) ∧ qm_sw x k (lo + 1) ts
/-- what a method of this type may return -/
def qm_rn (ty : Option FieldType) (x : Int32) : Prop := match ty with
  | some .int => True
  | some .boolean => x &&& 1 = x
  | _ => False
def qm_bz (ci k : Nat) (x : Int32) : Prop := match (vwCl[ci]?).map (fun r => qm_pt r k) with
  | some .boolean => x = 0 ∨ x = 1
  | _ => True
section Pop
theorem qm_p1e {st : List Value} {k : Int32 → List Value → Prop} (h : qm_p1 st k) : ∃ x r, st = .int x :: r ∧ k x r := by
  unfold qm_p1 at h; split at h
  · exact ⟨_, _, rfl, h⟩
  · exact h.elim
theorem qm_p2e {st : List Value} {k : Int32 → Int32 → List Value → Prop} (h : qm_p2 st k) : ∃ x y r, st = .int y :: .int x :: r ∧ k x y r := by
  unfold qm_p2 at h; split at h
  · exact ⟨_, _, _, rfl, h⟩
  · exact h.elim
theorem qm_q1e {st : List Value} {k : Int64 → List Value → Prop} (h : qm_q1 st k) : ∃ x r, st = .long x :: r ∧ k x r := by
  unfold qm_q1 at h; split at h
  · exact ⟨_, _, rfl, h⟩
  · exact h.elim
theorem qm_q2e {st : List Value} {k : Int64 → Int64 → List Value → Prop} (h : qm_q2 st k) : ∃ x y r, st = .long y :: .long x :: r ∧ k x y r := by
  unfold qm_q2 at h; split at h
  · exact ⟨_, _, _, rfl, h⟩
  · exact h.elim
theorem qm_qie {st : List Value} {k : Int64 → Int32 → List Value → Prop} (h : qm_qi st k) : ∃ x y r, st = .int y :: .long x :: r ∧ k x y r := by
  unfold qm_qi at h; split at h
  · exact ⟨_, _, _, rfl, h⟩
  · exact h.elim
theorem qm_pre_ {st : List Value} {k : Nat → List Value → Prop} (h : qm_pr st k) : ∃ p r, st = .ref p :: r ∧ k p r := by
  unfold qm_pr at h; split at h
  · exact ⟨_, _, rfl, h⟩
  · exact h.elim
theorem qm_pae {st : List Value} {k : Nat → Int32 → List Value → Prop} (h : qm_pa st k) : ∃ p i r, st = .int i :: .ref p :: r ∧ k p i r := by
  unfold qm_pa at h; split at h
  · exact ⟨_, _, _, rfl, h⟩
  · exact h.elim
theorem qm_pse {st : List Value} {k : Nat → Int32 → Int32 → List Value → Prop} (h : qm_ps st k) : ∃ p i x r, st = .int x :: .int i :: .ref p :: r ∧ k p i x r := by
  unfold qm_ps at h; split at h
  · exact ⟨_, _, _, _, rfl, h⟩
  · exact h.elim
theorem qm_pqe {st : List Value} {k : Nat → Int32 → Nat → List Value → Prop} (h : qm_pq st k) : ∃ p i v r, st = .ref v :: .int i :: .ref p :: r ∧ k p i v r := by
  unfold qm_pq at h; split at h
  · exact ⟨_, _, _, _, rfl, h⟩
  · exact h.elim
theorem qm_fie {st : List Value} {k : Nat → Int32 → List Value → Prop} (h : qm_fi st k) : ∃ p x r, st = .int x :: .ref p :: r ∧ k p x r := by
  unfold qm_fi at h; split at h
  · exact ⟨_, _, _, rfl, h⟩
  · exact h.elim
theorem qm_fle {st : List Value} {k : Nat → Int64 → List Value → Prop} (h : qm_fl st k) : ∃ p x r, st = .long x :: .ref p :: r ∧ k p x r := by
  unfold qm_fl at h; split at h
  · exact ⟨_, _, _, rfl, h⟩
  · exact h.elim
theorem qm_fre {st : List Value} {k : Nat → Option Nat → List Value → Prop} (h : qm_fr st k) : ∃ p o r, st = va_rf o :: .ref p :: r ∧ k p o r := by
  unfold qm_fr at h; split at h
  · exact ⟨_, some _, _, rfl, h⟩
  · exact ⟨_, none, _, rfl, h⟩
  · exact h.elim
theorem qm_nle {st : List Value} {k0 k1 : List Value → Prop} (h : qm_nl st k0 k1) : (∃ r, st = .null :: r ∧ k0 r) ∨ ∃ p r, st = .ref p :: r ∧ k1 r := by
  unfold qm_nl at h; split at h
  · exact Or.inl ⟨_, rfl, h⟩
  · exact Or.inr ⟨_, _, rfl, h⟩
  · exact h.elim
theorem qm_d1e {st : List Value} {k : Value → List Value → Prop} (h : qm_d1 st k) : ∃ v r, st = v :: r ∧ v.category = 1 ∧ k v r := by
  unfold qm_d1 at h; split at h
  · exact ⟨_, _, rfl, rfl, h⟩
  · exact ⟨_, _, rfl, rfl, h⟩
  · exact ⟨_, _, rfl, rfl, h⟩
  · exact h.elim
theorem qm_d2e {st : List Value} {k : Value → Value → List Value → Prop} (h : qm_d2 st k) : ∃ v w r, st = v :: w :: r ∧ v.category = 1 ∧ w.category = 1 ∧ k v w r := by
  unfold qm_d2 at h; split at h
  · exact ⟨_, _, _, rfl, rfl, rfl, h⟩
  · exact ⟨_, _, _, rfl, rfl, rfl, h⟩
  · exact h.elim
theorem qm_lce {L : qm_L} {i : Nat} {k : Value → Prop} (h : qm_lc L i k) : ∃ v, L[i]? = some (some v) ∧ k v := by
  unfold qm_lc at h; split at h
  · exact ⟨_, by assumption, h⟩
  · exact h.elim
theorem qm_lie {v : Value} {k : Int32 → Prop} (h : qm_li v k) : ∃ x, v = .int x ∧ k x := by
  unfold qm_li at h; split at h
  · exact ⟨_, rfl, h⟩
  · exact h.elim
theorem qm_lle {v : Value} {k : Int64 → Prop} (h : qm_ll v k) : ∃ x, v = .long x ∧ k x := by
  unfold qm_ll at h; split at h
  · exact ⟨_, rfl, h⟩
  · exact h.elim
theorem qm_lae {v : Value} {k : Prop} (h : qm_la v k) : ((∃ p, v = .ref p) ∨ v = .null) ∧ k := by
  unfold qm_la at h; split at h
  · exact ⟨Or.inl ⟨_, rfl⟩, h⟩
  · exact ⟨Or.inr rfl, h⟩
  · exact h.elim
theorem qm_pop_e : ∀ (n : Nat) (acc st : List Value) {as r : List Value}, qm_pop n acc st = some (as, r) → ∃ t, as = t ++ acc ∧ st = t.reverse ++ r ∧ t.length = n
  | 0, acc, st, as, r, h => by
    simp only [qm_pop, Option.some.injEq, Prod.mk.injEq] at h
    exact ⟨[], h.1.symm, h.2, rfl⟩
  | n + 1, acc, v :: st, as, r, h => by
    obtain ⟨t, e1, e2, e3⟩ := qm_pop_e n (v :: acc) st h
    exact ⟨t ++ [v], by simp [e1], by simp [e2], by simp [e3]⟩
  | n + 1, acc, [], as, r, h => by cases h
theorem qm_cse {n : Nat} {st : List Value} {k : List Value → List Value → Prop} (h : qm_cs n st k) : ∃ as r, st = as.reverse ++ r ∧ as.length = n ∧ (r.map fun v => v.category).sum ≤ 8 ∧ k as r := by
  unfold qm_cs at h
  split at h
  · rename_i as r e
    obtain ⟨t, e1, e2, e3⟩ := qm_pop_e n [] st e
    rw [List.append_nil] at e1
    subst e1
    cases hb : Nat.ble ((r.map fun v => v.category).sum) 8 with
    | true => rw [hb] at h; exact ⟨_, _, e2, e3, Nat.le_of_ble_eq_true hb, h⟩
    | false => rw [hb] at h; exact h.elim
  · exact h.elim
theorem qm_c1e {as : List Value} {k : Nat → List Value → Prop} (h : qm_c1 as k) : ∃ p as', as = .ref p :: as' ∧ k p as' := by
  unfold qm_c1 at h; split at h
  · exact ⟨_, _, rfl, h⟩
  · exact h.elim
end Pop
/-- instructions that stand on words or kinds: with none given the walk stops there -/
def qm_lk (ins : ClassFile.Instr) : Bool := match ins with
  | .ldc _ | .ldc_w _ | .ldc2_w _ | .getfield _ | .putfield _ | .getstatic _ | .new _ | .newarray _ | .anewarray _ | .invokestatic _ | .invokevirtual _ | .invokespecial _ | .arraylength | .iaload | .laload | .baload | .bastore | .aaload | .aastore | .checkcast _ => true
  | _ => false
/-- WHAT THE i-TH INSTRUCTION ASKS, so that the walk goes on -/
def qm_step1 (G : qm_G) (b : Bool) (M : qm_M) (d C S : Nat) (uQ : Option Value → qm_H → Prop) (go : Nat → Nat → Nat → qm_L → List Value → qm_H → Prop) (i c s : Nat) (L : qm_L) (st : List Value) (h : qm_H) (e : qm_I) : Prop := match e.2.1 with
  | .iconst _ => go (i + 1) c s L (.int e.2.2.2.1.1 :: st) h
  | .bipush _ => go (i + 1) c s L (.int e.2.2.2.1.1 :: st) h
  | .sipush _ => go (i + 1) c s L (.int e.2.2.2.1.1 :: st) h
  | .lconst _ => go (i + 1) c s L (.long e.2.2.2.1.2 :: st) h
  | .ldc _ => go (i + 1) c s L (.int e.2.2.2.1.1 :: st) h
  | .ldc_w _ => go (i + 1) c s L (.int e.2.2.2.1.1 :: st) h
  | .ldc2_w _ => go (i + 1) c s L (.long e.2.2.2.1.2 :: st) h
  | .aconst_null => go (i + 1) c s L (.null :: st) h
  | .iload k => qm_lc L k fun v => qm_li v fun x => go (i + 1) c s L (.int x :: st) h
  | .iload_n k => qm_lc L (k : Nat) fun v => qm_li v fun x => go (i + 1) c s L (.int x :: st) h
  | .lload k => qm_lc L k fun v => qm_ll v fun x => go (i + 1) c s L (.long x :: st) h
  | .lload_n k => qm_lc L (k : Nat) fun v => qm_ll v fun x => go (i + 1) c s L (.long x :: st) h
  | .aload k => qm_lc L k fun v => qm_la v (go (i + 1) c s L (v :: st) h)
  | .aload_n k => qm_lc L (k : Nat) fun v => qm_la v (go (i + 1) c s L (v :: st) h)
  | .istore k => bif Nat.blt k M.2.1.2.2.1 then qm_p1 st fun x r => go (i + 1) c s (qm_s1 L k (.int x)) r h else False
  | .istore_n k => bif Nat.blt (k : Nat) M.2.1.2.2.1 then qm_p1 st fun x r => go (i + 1) c s (qm_s1 L (k : Nat) (.int x)) r h else False
  | .lstore k => bif Nat.blt (k + 1) M.2.1.2.2.1 then qm_q1 st fun x r => go (i + 1) c s (qm_s2 L k (.long x)) r h else False
  | .lstore_n k => bif Nat.blt ((k : Nat) + 1) M.2.1.2.2.1 then qm_q1 st fun x r => go (i + 1) c s (qm_s2 L (k : Nat) (.long x)) r h else False
  | .astore k => bif Nat.blt k M.2.1.2.2.1 then qm_nl st (fun r => go (i + 1) c s (qm_s1 L k .null) r h) (fun r => qm_pr st fun p _ => go (i + 1) c s (qm_s1 L k (.ref p)) r h) else False
  | .astore_n k => bif Nat.blt (k : Nat) M.2.1.2.2.1 then qm_nl st (fun r => go (i + 1) c s (qm_s1 L (k : Nat) .null) r h) (fun r => qm_pr st fun p _ => go (i + 1) c s (qm_s1 L (k : Nat) (.ref p)) r h) else False
  | .iinc k _ => bif Nat.blt k M.2.1.2.2.1 then qm_lc L k fun v => qm_li v fun x => go (i + 1) c s (qm_s1 L k (.int (x + e.2.2.2.1.1))) st h else False
  | .iadd => qm_p2 st fun x y r => go (i + 1) c s L (.int (x + y) :: r) h
  | .isub => qm_p2 st fun x y r => go (i + 1) c s L (.int (x - y) :: r) h
  | .imul => qm_p2 st fun x y r => go (i + 1) c s L (.int (x * y) :: r) h
  | .iand => qm_p2 st fun x y r => go (i + 1) c s L (.int (x &&& y) :: r) h
  | .ior => qm_p2 st fun x y r => go (i + 1) c s L (.int (x ||| y) :: r) h
  | .ixor => qm_p2 st fun x y r => go (i + 1) c s L (.int (x ^^^ y) :: r) h
  | .ishl => qm_p2 st fun x y r => go (i + 1) c s L (.int (x <<< (y &&& 31)) :: r) h
  | .ishr => qm_p2 st fun x y r => go (i + 1) c s L (.int (x >>> (y &&& 31)) :: r) h
  | .iushr => qm_p2 st fun x y r => go (i + 1) c s L (.int (x.toUInt32 >>> (y.toUInt32 &&& Int32.toUInt32 31)).toInt32 :: r) h
  | .idiv => qm_p2 st fun x y r => ¬ y = 0 ∧ go (i + 1) c s L (.int (x / y) :: r) h
  | .irem => qm_p2 st fun x y r => ¬ y = 0 ∧ go (i + 1) c s L (.int (x - x / y * y) :: r) h
  | .ineg => qm_p1 st fun x r => go (i + 1) c s L (.int (-x) :: r) h
  | .i2l => qm_p1 st fun x r => go (i + 1) c s L (.long x.toInt64 :: r) h
  | .l2i => qm_q1 st fun x r => go (i + 1) c s L (.int x.toInt32 :: r) h
  | .i2b => qm_p1 st fun x r => go (i + 1) c s L (.int x.toInt8.toInt32 :: r) h
  | .ladd => qm_q2 st fun x y r => go (i + 1) c s L (.long (x + y) :: r) h
  | .lsub => qm_q2 st fun x y r => go (i + 1) c s L (.long (x - y) :: r) h
  | .lmul => qm_q2 st fun x y r => go (i + 1) c s L (.long (x * y) :: r) h
  | .land => qm_q2 st fun x y r => go (i + 1) c s L (.long (x &&& y) :: r) h
  | .lor => qm_q2 st fun x y r => go (i + 1) c s L (.long (x ||| y) :: r) h
  | .lxor => qm_q2 st fun x y r => go (i + 1) c s L (.long (x ^^^ y) :: r) h
  | .ldiv => qm_q2 st fun x y r => ¬ y = 0 ∧ go (i + 1) c s L (.long (x / y) :: r) h
  | .lrem => qm_q2 st fun x y r => ¬ y = 0 ∧ go (i + 1) c s L (.long (x - x / y * y) :: r) h
  | .lushr => qm_qi st fun x y r => go (i + 1) c s L (.long (x.toUInt64 >>> (y.toInt64.toUInt64 &&& Int64.toUInt64 63)).toInt64 :: r) h
  | .lshl => qm_qi st fun x y r => go (i + 1) c s L (.long (x <<< (y.toInt64 &&& 63)) :: r) h
  | .lshr => qm_qi st fun x y r => go (i + 1) c s L (.long (x >>> (y.toInt64 &&& 63)) :: r) h
  | .lcmp => qm_q2 st fun x y r => go (i + 1) c s L (.int (lg_cmp x y) :: r) h
  | .dup => qm_d1 st fun v r => go (i + 1) c s L (v :: v :: r) h
  | .pop => qm_d1 st fun _ r => go (i + 1) c s L r h
  | .dup2 => qm_d2 st fun v w r => go (i + 1) c s L (v :: w :: v :: w :: r) h
  | .ifCond .eq _ => qm_p1 st fun x r => (x = 0 → go (e.2.2.1.headD 0) c s L r h) ∧ (¬ x = 0 → go (i + 1) c s L r h)
  | .ifCond .ne _ => qm_p1 st fun x r => (¬ x = 0 → go (e.2.2.1.headD 0) c s L r h) ∧ (x = 0 → go (i + 1) c s L r h)
  | .ifCond .lt _ => qm_p1 st fun x r => (x < 0 → go (e.2.2.1.headD 0) c s L r h) ∧ (¬ x < 0 → go (i + 1) c s L r h)
  | .ifCond .ge _ => qm_p1 st fun x r => (0 ≤ x → go (e.2.2.1.headD 0) c s L r h) ∧ (¬ 0 ≤ x → go (i + 1) c s L r h)
  | .ifCond .gt _ => qm_p1 st fun x r => (0 < x → go (e.2.2.1.headD 0) c s L r h) ∧ (¬ 0 < x → go (i + 1) c s L r h)
  | .ifCond .le _ => qm_p1 st fun x r => (x ≤ 0 → go (e.2.2.1.headD 0) c s L r h) ∧ (¬ x ≤ 0 → go (i + 1) c s L r h)
  | .if_icmp .eq _ => qm_p2 st fun x y r => (x = y → go (e.2.2.1.headD 0) c s L r h) ∧ (¬ x = y → go (i + 1) c s L r h)
  | .if_icmp .ne _ => qm_p2 st fun x y r => (¬ x = y → go (e.2.2.1.headD 0) c s L r h) ∧ (x = y → go (i + 1) c s L r h)
  | .if_icmp .lt _ => qm_p2 st fun x y r => (x < y → go (e.2.2.1.headD 0) c s L r h) ∧ (¬ x < y → go (i + 1) c s L r h)
  | .if_icmp .ge _ => qm_p2 st fun x y r => (y ≤ x → go (e.2.2.1.headD 0) c s L r h) ∧ (¬ y ≤ x → go (i + 1) c s L r h)
  | .if_icmp .gt _ => qm_p2 st fun x y r => (y < x → go (e.2.2.1.headD 0) c s L r h) ∧ (¬ y < x → go (i + 1) c s L r h)
  | .if_icmp .le _ => qm_p2 st fun x y r => (x ≤ y → go (e.2.2.1.headD 0) c s L r h) ∧ (¬ x ≤ y → go (i + 1) c s L r h)
  | .ifnull _ => qm_nl st (fun r => go (e.2.2.1.headD 0) c s L r h) (fun r => go (i + 1) c s L r h)
  | .ifnonnull _ => qm_nl st (fun r => go (i + 1) c s L r h) (fun r => go (e.2.2.1.headD 0) c s L r h)
  | .goto _ => go (e.2.2.1.headD 0) c s L st h
  | .tableswitch _ lo _ _ => qm_p1 st fun x r => qm_sw x (fun t => go t c s L r h) lo (e.2.2.1.drop 1) ∧ ((x.toInt < lo ∨ lo + (e.2.2.1.drop 1).length ≤ x.toInt) → go (e.2.2.1.headD 0) c s L r h)
  | .getfield _ => qm_pr st fun p r => qm_is b h p (e.2.2.1.getD 0 0) ∧ (match e.2.2.1.getD 2 0 with
    | 0 => go (i + 1) c s L (.int (h.1 p (e.2.2.1.getD 1 0)) :: r) h
    | 1 => go (i + 1) c s L (.long (h.2.1 p (e.2.2.1.getD 1 0)) :: r) h
    | _ => ∃ o, qm_rd b h p (e.2.2.1.getD 1 0) = o ∧ go (i + 1) c s L (va_rf o :: r) h)
  | .putfield _ => match e.2.2.1.getD 2 0 with
    | 0 => qm_fi st fun p x r => qm_is b h p (e.2.2.1.getD 0 0) ∧ qm_bz (e.2.2.1.getD 0 0) (e.2.2.1.getD 1 0) x ∧ go (i + 1) c s L r (qm_si h p (e.2.2.1.getD 1 0) x)
    | 1 => qm_fl st fun p x r => qm_is b h p (e.2.2.1.getD 0 0) ∧ go (i + 1) c s L r (qm_sl h p (e.2.2.1.getD 1 0) x)
    | _ => qm_fr st fun p o r => qm_is b h p (e.2.2.1.getD 0 0) ∧ qm_wr b p (e.2.2.1.getD 1 0) o ∧ go (i + 1) c s L r (qm_sr h p (e.2.2.1.getD 1 0) o)
  | .iaload => qm_pa st fun p j r => qm_is b h p 10 ∧ vp_in j (qm_kn b h p).2 ∧ go (i + 1) c s L (.int (h.1 p j.toNatClampNeg) :: r) h
  | .baload => qm_pa st fun p j r => qm_is b h p (e.2.2.1.headD 9) ∧ vp_in j (qm_kn b h p).2 ∧ go (i + 1) c s L (.int (h.1 p j.toNatClampNeg) :: r) h
  | .aaload => qm_pa st fun p j r => qm_is b h p (e.2.2.1.headD 12) ∧ vp_in j (qm_kn b h p).2 ∧ ∃ o, qm_rd b h p j.toNatClampNeg = o ∧ go (i + 1) c s L (va_rf o :: r) h
  | .arraylength => qm_pr st fun p r => qm_is b h p (e.2.2.1.headD 10) ∧ go (i + 1) c s L (.int (Int32.ofNat (qm_kn b h p).2) :: r) h
  | .iastore => qm_ps st fun p j x r => qm_is b h p 10 ∧ vp_in j (qm_kn b h p).2 ∧ go (i + 1) c s L r (qm_si h p j.toNatClampNeg x)
  | .bastore => qm_ps st fun p j x r => qm_is b h p (e.2.2.1.headD 9) ∧ vp_in j (qm_kn b h p).2 ∧ go (i + 1) c s L r (qm_si h p j.toNatClampNeg (bif (e.2.2.1.headD 9) == 9 then x.toInt8.toInt32 else x &&& 1))
  | .aastore => qm_pq st fun p j v r => qm_is b h p (e.2.2.1.headD 12) ∧ qm_is b h v (qm_ec (e.2.2.1.headD 12)) ∧ vp_in j (qm_kn b h p).2 ∧ qm_wr b p j.toNatClampNeg (some v) ∧ go (i + 1) c s L r (qm_sr h p j.toNatClampNeg (some v))
  | .new _ => h.2.2.2.2 < 1000000 ∧ c + 1 ≤ C ∧ s + ((qm_FT[e.2.2.1.headD 0]?).getD []).length ≤ S ∧ go (i + 1) (c + 1) (s + ((qm_FT[e.2.2.1.headD 0]?).getD []).length) L (.ref h.2.2.2.2 :: st) (qm_nw h (e.2.2.1.headD 0) 0)
  | .newarray _ => qm_p1 st fun n r => ¬ n < 0 ∧ n.toNatClampNeg ≤ 100000 ∧ h.2.2.2.2 < 1000000 ∧ c + 1 ≤ C ∧ s + n.toNatClampNeg ≤ S ∧ go (i + 1) (c + 1) (s + n.toNatClampNeg) L (.ref h.2.2.2.2 :: r) (qm_nw h (e.2.2.1.headD 0) n.toNatClampNeg)
  | .anewarray _ => qm_p1 st fun n r => ¬ n < 0 ∧ n.toNatClampNeg ≤ 100000 ∧ h.2.2.2.2 < 1000000 ∧ c + 1 ≤ C ∧ s + n.toNatClampNeg ≤ S ∧ go (i + 1) (c + 1) (s + n.toNatClampNeg) L (.ref h.2.2.2.2 :: r) (qm_nw h (e.2.2.1.headD 0) n.toNatClampNeg)
  | .invokestatic _ => qm_cs (e.2.2.1.getD 0 0) st fun as r => match d with
    | 0 => False
    | d' + 1 => ∃ C1 S1 Q1, qm_Ev G d' C1 S1 e.2.2.2.2 as h Q1 ∧ (c + C1 ≤ C ∧ s + S1 ≤ S) ∧ ∀ v h', Q1 v h' → go (i + 1) (c + C1) (s + S1) L (v.toList ++ r) h'
  | .invokevirtual _ => qm_cs (e.2.2.1.getD 0 0 + 1) st fun as r => qm_c1 as fun p _ => qm_is b h p (e.2.2.1.getD 1 0) ∧ match d with
    | 0 => False
    | d' + 1 => ∃ C1 S1 Q1, qm_Ev G d' C1 S1 e.2.2.2.2 as h Q1 ∧ (c + C1 ≤ C ∧ s + S1 ≤ S) ∧ ∀ v h', Q1 v h' → go (i + 1) (c + C1) (s + S1) L (v.toList ++ r) h'
  | .invokespecial _ => bif (e.2.2.1.getD 1 0) == 2 then qm_pr st fun _ r => bif Nat.ble ((r.map fun v => v.category).sum) 8 then (match d with
      | 0 => False
      | _ + 1 => go (i + 1) c s L r h) else False
    else qm_cs (e.2.2.1.getD 0 0 + 1) st fun as r => qm_c1 as fun _ _ => match d with
    | 0 => False
    | d' + 1 => ∃ C1 S1 Q1, qm_Ev G d' C1 S1 e.2.2.2.2 as h Q1 ∧ (c + C1 ≤ C ∧ s + S1 ≤ S) ∧ ∀ v h', Q1 v h' → go (i + 1) (c + C1) (s + S1) L (v.toList ++ r) h'
  | .ireturn => match st with
    | [.int x] => qm_rn M.2.1.2.2.2 x ∧ uQ (some (.int x)) h
    | _ => False
  | .lreturn => match st with
    | [.long x] => M.2.1.2.2.2 = some .long ∧ uQ (some (.long x)) h
    | _ => False
  | .areturn => match st with
    | [.ref p] => (∃ t, M.2.1.2.2.2 = some (.object t)) ∧ uQ (some (.ref p)) h
    | [.null] => (∃ t, M.2.1.2.2.2 = some (.object t)) ∧ uQ (some .null) h
    | _ => False
  | .return_ => match st with
    | [] => M.2.1.2.2.2 = none ∧ uQ none h
    | _ => False
  | _ => False
def qm_step (G : qm_G) (b : Bool) (M : qm_M) (d C S : Nat) (uQ : Option Value → qm_H → Prop) (go : Nat → Nat → Nat → qm_L → List Value → qm_H → Prop) (i c s : Nat) (L : qm_L) (st : List Value) (h : qm_H) (e : qm_I) : Prop := bif e.2.2.1.isEmpty && qm_lk e.2.1 then False else qm_step1 G b M d C S uQ go i c s L st h e
end
section
/-! what a program decides of a method's instructions -/
def qm_len (e : qm_I) : Nat := match e.2.1 with
  | .bipush _ | .iload _ | .lload _ | .aload _ | .istore _ | .lstore _ | .astore _ | .ldc _ | .newarray _ => 2
  | .sipush _ | .ldc_w _ | .ldc2_w _ | .iinc _ _ | .ifCond _ _ | .if_icmp _ _ | .ifnull _ | .ifnonnull _ | .goto _ | .getfield _ | .putfield _ | .getstatic _ | .new _ | .anewarray _ | .invokestatic _ | .invokevirtual _ | .invokespecial _ | .checkcast _ => 3
  | .tableswitch _ _ _ _ => e.2.2.2.1.1.toNatClampNeg
  | _ => 1
def qm_hs (k : Cond) (w : Nat) : Bool := decide (lw_tbl[w]? = some k) && goodWord k
def qm_hn (k : Cond) (w : Nat) : Bool := decide (lw_tbl[w]? = some k)
theorem qm_hs_in {k : Cond} {w : Nat} (h : qm_hs k w = true) : k ∈ qm_tb := by
  unfold qm_hs at h
  rw [Bool.and_eq_true, decide_eq_true_eq] at h
  exact List.mem_filter.mpr ⟨List.mem_of_getElem? h.1, h.2⟩
theorem qm_hn_in {k : Cond} {w : Nat} (h : qm_hn k w = true) : k ∈ lw_tbl := List.mem_of_getElem? (of_decide_eq_true h)
def qm_clsOK (y : qm_CI) (n w2 w3 : Nat) : Bool := qm_hs (Cond.code y.1 y.2.1 y.2.2.1 y.2.2.2) w2 && (qm_hs (Cond.initialized y.1.cls) w3 && (decide (y.1.cls ≠ "java/lang/invoke/MethodHandle" ∧ y.1.cls ≠ "java/lang/invoke/VarHandle") && (decide ((parseMethodDescriptor y.1.desc).map (fun d => d.parameters.length) = some n) && decide (y.2.2.1 ≤ 22))))
def qm_jmp (M : qm_M) (pc t : Nat) (off : Int) : Bool := decide ((pc : Int) + off = (qm_pc M t : Int))
def qm_okx (M : qm_M) (e : qm_I) : Bool := match e.2.1 with
  | .iconst n => decide (Int32.ofInt n = e.2.2.2.1.1)
  | .bipush n => decide ((Int8.ofInt n).toInt32 = e.2.2.2.1.1)
  | .sipush n => decide ((Int16.ofInt n).toInt32 = e.2.2.2.1.1)
  | .lconst n => decide (Int64.ofNat (n : Nat) = e.2.2.2.1.2)
  | .iinc _ n => decide (Int32.ofInt n = e.2.2.2.1.1)
  | .ifCond _ off => qm_jmp M e.1 (e.2.2.1.headD 0) off
  | .if_icmp _ off => qm_jmp M e.1 (e.2.2.1.headD 0) off
  | .ifnull off => qm_jmp M e.1 (e.2.2.1.headD 0) off
  | .ifnonnull off => qm_jmp M e.1 (e.2.2.1.headD 0) off
  | .goto off => qm_jmp M e.1 (e.2.2.1.headD 0) off
  | .tableswitch d lo hi offs => qm_jmp M e.1 (e.2.2.1.headD 0) d && (decide (hi = lo + offs.size - 1) && (decide (offs.size = (e.2.2.1.drop 1).length) && (decide (-2147483648 ≤ lo ∧ lo + offs.size ≤ 2147483647) && (List.range offs.size).all fun j => match offs[j]?, (e.2.2.1.drop 1)[j]? with
    | some o, some t => qm_jmp M e.1 t o
    | _, _ => false)))
  | .getfield idx => match vwCl[e.2.2.1.getD 0 0]? with
    | some r => decide (e.2.2.1.getD 0 0 < 9 ∧ e.2.2.1.getD 1 0 < r.2.2 ∧ e.2.2.1.getD 2 0 = qm_ft (e.2.2.1.getD 0 0) (e.2.2.1.getD 1 0)) && qm_hs (Cond.fieldLink M.1 idx r.1 (r.2.1 (e.2.2.1.getD 1 0)).2.1 (r.2.1 (e.2.2.1.getD 1 0)).2.2.1) (e.2.2.1.getD 3 0)
    | none => false
  | .putfield idx => match vwCl[e.2.2.1.getD 0 0]? with
    | some r => decide (e.2.2.1.getD 0 0 < 9 ∧ e.2.2.1.getD 1 0 < r.2.2 ∧ e.2.2.1.getD 2 0 = qm_ft (e.2.2.1.getD 0 0) (e.2.2.1.getD 1 0)) && (qm_hs (Cond.fieldLink M.1 idx r.1 (r.2.1 (e.2.2.1.getD 1 0)).2.1 (r.2.1 (e.2.2.1.getD 1 0)).2.2.1) (e.2.2.1.getD 3 0) && decide ((r.2.1 (e.2.2.1.getD 1 0)).2.2.2 = false ∨ (M.2.1.1.name = "<init>" ∧ r.1 = M.1)))
    | none => false
  | .ldc idx => qm_hs (Cond.constant M.1 idx e.2.2.2.1.1) (e.2.2.1.headD 0)
  | .ldc_w idx => qm_hs (Cond.constant M.1 idx e.2.2.2.1.1) (e.2.2.1.headD 0)
  | .ldc2_w idx => qm_hs (Cond.constantLong M.1 idx e.2.2.2.1.2) (e.2.2.1.headD 0)
  | .new idx => match vwCl[e.2.2.1.headD 0]? with
    | some r => decide (e.2.2.1.headD 0 < 9 ∧ ((qm_FT[e.2.2.1.headD 0]?).getD []).length = r.2.2) && (qm_hs (Cond.classLink M.1 idx r.1) (e.2.2.1.getD 1 0) && (qm_hs (Cond.instantiable r.1 r.2.2) (e.2.2.1.getD 2 0) && qm_hs (Cond.initialized r.1) (e.2.2.1.getD 3 0)))
    | none => false
  | .newarray a => qm_hs (Cond.arrayClass (newarray.typeOf a)) (e.2.2.1.getD 1 0) && decide ((a = .int ∧ e.2.2.1.headD 0 = 10) ∨ (a = .byte ∧ e.2.2.1.headD 0 = 9) ∨ (a = .boolean ∧ e.2.2.1.headD 0 = 11))
  | .anewarray idx => (qm_hs (Cond.classLink M.1 idx RX3) (e.2.2.1.getD 1 0) && decide (e.2.2.1.headD 0 = 12)) || ((qm_hs (Cond.classLink M.1 idx RX7) (e.2.2.1.getD 1 0) && decide (e.2.2.1.headD 0 = 13)) || (qm_hs (Cond.classLink M.1 idx RX8) (e.2.2.1.getD 1 0) && decide (e.2.2.1.headD 0 = 14)))
  | .baload => decide (e.2.2.1.headD 9 = 9 ∨ e.2.2.1.headD 9 = 11)
  | .bastore => decide (e.2.2.1.headD 9 = 9 ∨ e.2.2.1.headD 9 = 11)
  | .aaload => decide (e.2.2.1.headD 12 = 12 ∨ e.2.2.1.headD 12 = 13 ∨ e.2.2.1.headD 12 = 14)
  | .aastore => decide (e.2.2.1.headD 12 = 12 ∨ e.2.2.1.headD 12 = 13 ∨ e.2.2.1.headD 12 = 14)
  | .arraylength => decide (e.2.2.1.headD 10 = 9 ∨ e.2.2.1.headD 10 = 10 ∨ e.2.2.1.headD 10 = 11 ∨ e.2.2.1.headD 10 = 12 ∨ e.2.2.1.headD 10 = 13 ∨ e.2.2.1.headD 10 = 14)
  | .invokestatic idx => qm_clsOK e.2.2.2.2 (e.2.2.1.getD 0 0) (e.2.2.1.getD 3 0) (e.2.2.1.getD 4 0) && (qm_hs (Cond.static e.2.2.2.2.1) (e.2.2.1.getD 5 0) && (qm_hs (Cond.methodLink M.1 idx e.2.2.2.2.1) (e.2.2.1.getD 2 0) || qm_hn (Cond.methodLinkNest M.1 idx e.2.2.2.2.1 RX9) (e.2.2.1.getD 2 0)))
  | .invokevirtual idx => match vwCl[e.2.2.1.getD 1 0]? with
    | some r => decide (e.2.2.1.getD 1 0 < 9) && (qm_clsOK e.2.2.2.2 (e.2.2.1.getD 0 0) (e.2.2.1.getD 3 0) (e.2.2.1.getD 4 0) && (qm_hs (Cond.instanceMethod e.2.2.2.2.1) (e.2.2.1.getD 5 0) && (qm_hs (Cond.selects r.1 e.2.2.2.2.1 e.2.2.2.2.1) (e.2.2.1.getD 6 0) && qm_hs (Cond.methodLink M.1 idx e.2.2.2.2.1) (e.2.2.1.getD 2 0))))
    | none => false
  | .invokespecial idx => bif (e.2.2.1.getD 1 0) == 2 then qm_hs (Cond.methodLink M.1 idx Lib.objectInit) (e.2.2.1.getD 2 0) && (qm_hs (Cond.instanceMethod Lib.objectInit) (e.2.2.1.getD 3 0) && qm_hs (Cond.code Lib.objectInit ⟨#[0xb1]⟩ 1 none) (e.2.2.1.getD 4 0))
    else qm_clsOK e.2.2.2.2 (e.2.2.1.getD 0 0) (e.2.2.1.getD 3 0) (e.2.2.1.getD 4 0) && (qm_hs (Cond.instanceMethod e.2.2.2.2.1) (e.2.2.1.getD 5 0) && (decide (e.2.2.2.2.1.name = "<init>" ∧ e.2.2.2.2.2.2.2 = none) && (qm_hs (Cond.methodLink M.1 idx e.2.2.2.2.1) (e.2.2.1.getD 2 0) || qm_hn (Cond.methodLinkNest M.1 idx e.2.2.2.2.1 RX9) (e.2.2.1.getD 2 0))))
  | _ => true
def qm_tm (ins : ClassFile.Instr) : Bool := match ins with
  | .goto _ | .ireturn | .lreturn | .areturn | .return_ | .tableswitch _ _ _ _ => true
  | _ => false
def qm_ok1 (M : qm_M) (i : Nat) (e : qm_I) : Bool := decide (decode M.2.1.2.1 e.1 = .ok (e.2.1, qm_len e)) && ((qm_tm e.2.1 || decide (qm_pc M (i + 1) = e.1 + qm_len e)) && ((e.2.2.1.isEmpty && qm_lk e.2.1) || qm_okx M e))
def qm_okl (M : qm_M) : Nat → List qm_I → Bool
  | _, [] => true
  | i, e :: es => qm_ok1 M i e && qm_okl M (i + 1) es
/-- all that is decided of a method -/
def qm_okM (M : qm_M) : Bool := qm_okl M 0 M.2.2 && (plainName M.2.1.1.cls && (decide (M.1 = M.2.1.1.cls) && decide (qm_pc M 0 = 0)))
theorem qm_okl_at (M : qm_M) : ∀ (es : List qm_I) (k i : Nat) (e : qm_I), qm_okl M k es = true → es[i]? = some e → qm_ok1 M (k + i) e = true
  | [], k, i, e, _, h => by simp at h
  | x :: es, k, i, e, h, he => by
    rw [qm_okl, Bool.and_eq_true] at h
    cases i with
    | zero => simp at he; subst he; exact h.1
    | succ i =>
      have := qm_okl_at M es (k + 1) i e h.2 (by simpa using he)
      rw [show k + (i + 1) = k + 1 + i by omega]
      exact this
theorem qm_okM_at {M : qm_M} (h : qm_okM M = true) {i : Nat} {e : qm_I} (he : M.2.2[i]? = some e) : decode M.2.1.2.1 (qm_pc M i) = .ok (e.2.1, qm_len e) ∧ (qm_tm e.2.1 = true ∨ qm_pc M (i + 1) = qm_pc M i + qm_len e) ∧ ((e.2.2.1.isEmpty && qm_lk e.2.1) = true ∨ qm_okx M e = true) ∧ e.1 = qm_pc M i := by
  unfold qm_okM at h
  rw [Bool.and_eq_true] at h
  have h1 := qm_okl_at M M.2.2 0 i e h.1 he
  rw [Nat.zero_add] at h1
  unfold qm_ok1 at h1
  rw [Bool.and_eq_true, Bool.and_eq_true, decide_eq_true_eq, Bool.or_eq_true, decide_eq_true_eq, Bool.or_eq_true] at h1
  have e1 : qm_pc M i = e.1 := by unfold qm_pc; rw [he]
  rw [e1]
  exact ⟨h1.1, h1.2.1, h1.2.2, rfl⟩
end
section
/-! THE STEP IS SOUND -/
theorem fb_asI' (x : Int32) : Int32.ofInt x.toInt = x := Int32.ofInt_toInt x
section Sound
variable {G : qm_G} {b : Bool} {M : qm_M} {z : qm_Z} {d C S i c s : Nat} {uQ : Option Value → qm_H → Prop} {L : qm_L} {st : List Value} {h : qm_H}
/-- from the walk at the next instruction -/
theorem qm_nx {j n pc : Nat} {H : Heap} {locs : List Loc} {ls : Array Slot} (hn : qm_pc M j = pc + n) (k : qm_PW G M z j c s L st h) (h1 : c ≤ (qm_R z).cells) (h2 : s ≤ (qm_R z).slots) (hR : qm_Rep G h H) (hS : va_S (qm_A G) (qm_S z).heap H locs) (hl : qm_lv G ls M.2.1.2.2.1 L) : qm_W z H locs c s (F0 z.2.2.2.2.2.1 (pc + n) ls (st.map (qm_mv G))) := by
  have := k H locs ls h1 h2 hR hS hl
  rw [hn] at this
  exact this
theorem qm_to {j : Nat} {off : Int} {pc : Nat} (hj : qm_jmp M pc j off = true) : (pc : Int) + off = ((qm_pc M j : Nat) : Int) := of_decide_eq_true hj
/-- what holds of a walk of M at depth d, that is to end as uQ says -/
def qm_At (G : qm_G) (b : Bool) (M : qm_M) (z : qm_Z) (d C S : Nat) (uQ : Option Value → qm_H → Prop) : Prop := qm_C G M z ∧ G.2.2.2.2 = b ∧ (d ≤ (qm_R z).frames ∧ 41 * d ≤ (qm_R z).locals ∧ C ≤ (qm_R z).cells ∧ S ≤ (qm_R z).slots) ∧ (qm_MQ G z uQ ∨ ∀ v h, ¬ uQ v h) ∧ qm_okM M = true
theorem qm_sw_at {x : Int32} {k : Nat → Prop} : ∀ (ts : List Nat) (lo : Int) (j t : Nat), qm_sw x k lo ts → ts[j]? = some t → x = Int32.ofInt (lo + j) → k t
  | [], lo, j, t, _, h, _ => by simp at h
  | u :: ts, lo, 0, t, hs, h, e => by
    simp at h; subst h
    exact hs.1 (by simpa using e)
  | u :: ts, lo, j + 1, t, hs, h, e => qm_sw_at ts (lo + 1) j t hs.2 (by simpa using h) (by rw [e]; congr 1; omega)
set_option maxHeartbeats 4000000 in
set_option maxRecDepth 100000 in
theorem qm_step_ok {e : qm_I} {go : Nat → Nat → Nat → qm_L → List Value → qm_H → Prop} (hA : qm_At G b M z d C S uQ) (hi : M.2.2[i]? = some e) (hgo : ∀ j c s L st h, go j c s L st h → qm_PW G M z j c s L st h) (hs : qm_step G b M d C S uQ go i c s L st h e) : qm_PW G M z i c s L st h := by
  obtain ⟨hC, hb, ⟨hdF, hdL, hCR, hSR⟩, hZ, hok⟩ := hA
  subst hb
  obtain ⟨hd, hn, hx, hpc⟩ := qm_okM_at hok hi
  have hx1 := hC.1
  have hb1 := hC.2.1
  obtain ⟨pc, ins, aux, zz, y⟩ := e
  dsimp only at hpc
  subst hpc
  cases hlk : (List.isEmpty aux && qm_lk ins) with
  | true =>
    unfold qm_step at hs
    dsimp only at hs
    rw [hlk] at hs
    exact hs.elim
  | false =>
  replace hx : qm_okx M (qm_pc M i, ins, aux, zz, y) = true := hx.resolve_left (by dsimp only; rw [hlk]; exact Bool.false_ne_true)
  replace hs : qm_step1 G G.2.2.2.2 M d C S uQ go i c s L st h (qm_pc M i, ins, aux, zz, y) := by
    unfold qm_step at hs
    dsimp only at hs
    rw [hlk] at hs
    exact hs
  have nz : ∀ v h, uQ v h → qm_MQ G z uQ := fun v h hq => hZ.resolve_right (fun k => k v h hq)
  cases ins with
  | iconst n => exact fun H locs ls h1 h2 hR hS hl => lv_iconst hx1 hb1 hd (of_decide_eq_true hx) (qm_nx (hn.resolve_left Bool.false_ne_true) (hgo _ _ _ _ _ _ hs) h1 h2 hR hS hl)
  | bipush n => exact fun H locs ls h1 h2 hR hS hl => lv_bipush hx1 hb1 hd (of_decide_eq_true hx) (qm_nx (hn.resolve_left Bool.false_ne_true) (hgo _ _ _ _ _ _ hs) h1 h2 hR hS hl)
  | sipush n => exact fun H locs ls h1 h2 hR hS hl => lv_sipush hx1 hb1 hd (of_decide_eq_true hx) (qm_nx (hn.resolve_left Bool.false_ne_true) (hgo _ _ _ _ _ _ hs) h1 h2 hR hS hl)
  | lconst n => exact fun H locs ls h1 h2 hR hS hl => lv_lconst hx1 hb1 hd (of_decide_eq_true hx) (qm_nx (hn.resolve_left Bool.false_ne_true) (hgo _ _ _ _ _ _ hs) h1 h2 hR hS hl)
  | aconst_null => exact fun H locs ls h1 h2 hR hS hl => lv_null hx1 hb1 hd (qm_nx (hn.resolve_left Bool.false_ne_true) (hgo _ _ _ _ _ _ hs) h1 h2 hR hS hl)
  | ldc k => exact fun H locs ls h1 h2 hR hS hl => lv_ldc hx1 hb1 hC.2.2.2.1 (hC.2.2.2.2.1 _ (qm_hs_in hx)) hd (qm_nx (hn.resolve_left Bool.false_ne_true) (hgo _ _ _ _ _ _ hs) h1 h2 hR hS hl)
  | ldc_w k => exact fun H locs ls h1 h2 hR hS hl => lv_ldcw hx1 hb1 hC.2.2.2.1 (hC.2.2.2.2.1 _ (qm_hs_in hx)) hd (qm_nx (hn.resolve_left Bool.false_ne_true) (hgo _ _ _ _ _ _ hs) h1 h2 hR hS hl)
  | ldc2_w k => exact fun H locs ls h1 h2 hR hS hl => lv_ldc2 hx1 hb1 hC.2.2.2.1 (hC.2.2.2.2.1 _ (qm_hs_in hx)) hd (qm_nx (hn.resolve_left Bool.false_ne_true) (hgo _ _ _ _ _ _ hs) h1 h2 hR hS hl)
  | iload k =>
    obtain ⟨v, hv, hs⟩ := qm_lce hs
    obtain ⟨x, rfl, hs⟩ := qm_lie hs
    exact fun H locs ls h1 h2 hR hS hl => lv_iload hx1 hb1 hd (hl.at hv) (qm_nx (hn.resolve_left Bool.false_ne_true) (hgo _ _ _ _ _ _ hs) h1 h2 hR hS hl)
  | iload_n k =>
    obtain ⟨v, hv, hs⟩ := qm_lce hs
    obtain ⟨x, rfl, hs⟩ := qm_lie hs
    exact fun H locs ls h1 h2 hR hS hl => lv_iload_n hx1 hb1 hd rfl (hl.at hv) (qm_nx (hn.resolve_left Bool.false_ne_true) (hgo _ _ _ _ _ _ hs) h1 h2 hR hS hl)
  | lload k =>
    obtain ⟨v, hv, hs⟩ := qm_lce hs
    obtain ⟨x, rfl, hs⟩ := qm_lle hs
    exact fun H locs ls h1 h2 hR hS hl => lv_lload hx1 hb1 hd (hl.at hv) (qm_nx (hn.resolve_left Bool.false_ne_true) (hgo _ _ _ _ _ _ hs) h1 h2 hR hS hl)
  | lload_n k =>
    obtain ⟨v, hv, hs⟩ := qm_lce hs
    obtain ⟨x, rfl, hs⟩ := qm_lle hs
    exact fun H locs ls h1 h2 hR hS hl => lv_lload_n hx1 hb1 hd rfl (hl.at hv) (qm_nx (hn.resolve_left Bool.false_ne_true) (hgo _ _ _ _ _ _ hs) h1 h2 hR hS hl)
  | aload k =>
    obtain ⟨v, hv, hs⟩ := qm_lce hs
    obtain ⟨hv2, hs⟩ := qm_lae hs
    rcases hv2 with ⟨p, rfl⟩ | rfl
    · exact fun H locs ls h1 h2 hR hS hl => lv_aload hx1 hb1 hd (hl.at hv) (qm_nx (hn.resolve_left Bool.false_ne_true) (hgo _ _ _ _ _ _ hs) h1 h2 hR hS hl)
    · exact fun H locs ls h1 h2 hR hS hl => lv_aloadN hx1 hb1 hd (hl.at hv) (qm_nx (hn.resolve_left Bool.false_ne_true) (hgo _ _ _ _ _ _ hs) h1 h2 hR hS hl)
  | aload_n k =>
    obtain ⟨v, hv, hs⟩ := qm_lce hs
    obtain ⟨hv2, hs⟩ := qm_lae hs
    rcases hv2 with ⟨p, rfl⟩ | rfl
    · exact fun H locs ls h1 h2 hR hS hl => lv_aload_n hx1 hb1 hd rfl (hl.at hv) (qm_nx (hn.resolve_left Bool.false_ne_true) (hgo _ _ _ _ _ _ hs) h1 h2 hR hS hl)
    · exact fun H locs ls h1 h2 hR hS hl => lv_aload_nN hx1 hb1 hd rfl (hl.at hv) (qm_nx (hn.resolve_left Bool.false_ne_true) (hgo _ _ _ _ _ _ hs) h1 h2 hR hS hl)
  | istore k =>
    unfold qm_step1 at hs; dsimp only at hs
    cases hlt : Nat.blt k M.2.1.2.2.1 with
    | false => rw [hlt] at hs; exact hs.elim
    | true =>
      rw [hlt] at hs
      obtain ⟨x, r, rfl, hs⟩ := qm_p1e hs
      exact fun H locs ls h1 h2 hR hS hl => lv_istore hx1 hb1 hd hl (Nat.le_of_ble_eq_true hlt) rfl (fun ls' hl' => qm_nx (hn.resolve_left Bool.false_ne_true) (hgo _ _ _ _ _ _ hs) h1 h2 hR hS (qm_lv.s1 hl'))
  | istore_n k =>
    unfold qm_step1 at hs; dsimp only at hs
    cases hlt : Nat.blt (k : Nat) M.2.1.2.2.1 with
    | false => rw [hlt] at hs; exact hs.elim
    | true =>
      rw [hlt] at hs
      obtain ⟨x, r, rfl, hs⟩ := qm_p1e hs
      exact fun H locs ls h1 h2 hR hS hl => lv_istore_n hx1 hb1 hd rfl hl (Nat.le_of_ble_eq_true hlt) rfl (fun ls' hl' => qm_nx (hn.resolve_left Bool.false_ne_true) (hgo _ _ _ _ _ _ hs) h1 h2 hR hS (qm_lv.s1 hl'))
  | lstore k =>
    unfold qm_step1 at hs; dsimp only at hs
    cases hlt : Nat.blt (k + 1) M.2.1.2.2.1 with
    | false => rw [hlt] at hs; exact hs.elim
    | true =>
      rw [hlt] at hs
      obtain ⟨x, r, rfl, hs⟩ := qm_q1e hs
      exact fun H locs ls h1 h2 hR hS hl => lv_lstore hx1 hb1 hd hl (Nat.le_of_ble_eq_true hlt) rfl (fun ls' hl' => qm_nx (hn.resolve_left Bool.false_ne_true) (hgo _ _ _ _ _ _ hs) h1 h2 hR hS (qm_lv.s2 hl'))
  | lstore_n k =>
    unfold qm_step1 at hs; dsimp only at hs
    cases hlt : Nat.blt ((k : Nat) + 1) M.2.1.2.2.1 with
    | false => rw [hlt] at hs; exact hs.elim
    | true =>
      rw [hlt] at hs
      obtain ⟨x, r, rfl, hs⟩ := qm_q1e hs
      exact fun H locs ls h1 h2 hR hS hl => lv_lstore_n hx1 hb1 hd rfl hl (Nat.le_of_ble_eq_true hlt) rfl (fun ls' hl' => qm_nx (hn.resolve_left Bool.false_ne_true) (hgo _ _ _ _ _ _ hs) h1 h2 hR hS (qm_lv.s2 hl'))
  | astore k =>
    unfold qm_step1 at hs; dsimp only at hs
    cases hlt : Nat.blt k M.2.1.2.2.1 with
    | false => rw [hlt] at hs; exact hs.elim
    | true =>
      rw [hlt] at hs
      rcases qm_nle hs with ⟨r, rfl, hs⟩ | ⟨p, r, rfl, hs⟩
      · exact fun H locs ls h1 h2 hR hS hl => lv_astoreN hx1 hb1 hd hl (Nat.le_of_ble_eq_true hlt) rfl (fun ls' hl' => qm_nx (hn.resolve_left Bool.false_ne_true) (hgo _ _ _ _ _ _ hs) h1 h2 hR hS (qm_lv.s1 (v := .null) hl'))
      · exact fun H locs ls h1 h2 hR hS hl => lv_astore hx1 hb1 hd hl (Nat.le_of_ble_eq_true hlt) rfl (fun ls' hl' => qm_nx (hn.resolve_left Bool.false_ne_true) (hgo _ _ _ _ _ _ hs) h1 h2 hR hS (qm_lv.s1 (v := .ref p) hl'))
  | astore_n k =>
    unfold qm_step1 at hs; dsimp only at hs
    cases hlt : Nat.blt (k : Nat) M.2.1.2.2.1 with
    | false => rw [hlt] at hs; exact hs.elim
    | true =>
      rw [hlt] at hs
      rcases qm_nle hs with ⟨r, rfl, hs⟩ | ⟨p, r, rfl, hs⟩
      · exact fun H locs ls h1 h2 hR hS hl => lv_astore_nN hx1 hb1 hd rfl hl (Nat.le_of_ble_eq_true hlt) rfl (fun ls' hl' => qm_nx (hn.resolve_left Bool.false_ne_true) (hgo _ _ _ _ _ _ hs) h1 h2 hR hS (qm_lv.s1 (v := .null) hl'))
      · exact fun H locs ls h1 h2 hR hS hl => lv_astore_n hx1 hb1 hd rfl hl (Nat.le_of_ble_eq_true hlt) rfl (fun ls' hl' => qm_nx (hn.resolve_left Bool.false_ne_true) (hgo _ _ _ _ _ _ hs) h1 h2 hR hS (qm_lv.s1 (v := .ref p) hl'))
  | iinc k n =>
    unfold qm_step1 at hs; dsimp only at hs
    cases hlt : Nat.blt k M.2.1.2.2.1 with
    | false => rw [hlt] at hs; exact hs.elim
    | true =>
      rw [hlt] at hs
      obtain ⟨v, hv, hs⟩ := qm_lce hs
      obtain ⟨x, rfl, hs⟩ := qm_lie hs
      intro H locs ls h1 h2 hR hS hl
      obtain ⟨q, hq⟩ := List.mem_iff_getElem?.mp ((qm_al_mem G L 0 (k, .int x)).mpr ⟨k, _, hv, by simp [qm_mv]⟩)
      have hxn : Int32.ofInt n = zz.1 := of_decide_eq_true hx
      exact lv_iinc hx1 hb1 hd hl hq (by rw [hxn]) (Nat.le_of_ble_eq_true hlt) rfl (fun ls' hl' => qm_nx (hn.resolve_left Bool.false_ne_true) (hgo _ _ _ _ _ _ hs) h1 h2 hR hS (qm_lv.s1 (v := .int (x + zz.1)) hl'))
  | iadd =>
    obtain ⟨x, y', r, rfl, hs⟩ := qm_p2e hs
    exact fun H locs ls h1 h2 hR hS hl => lv_iadd hx1 hb1 hd (qm_nx (hn.resolve_left Bool.false_ne_true) (hgo _ _ _ _ _ _ hs) h1 h2 hR hS hl)
  | isub =>
    obtain ⟨x, y', r, rfl, hs⟩ := qm_p2e hs
    exact fun H locs ls h1 h2 hR hS hl => lv_isub hx1 hb1 hd (qm_nx (hn.resolve_left Bool.false_ne_true) (hgo _ _ _ _ _ _ hs) h1 h2 hR hS hl)
  | imul =>
    obtain ⟨x, y', r, rfl, hs⟩ := qm_p2e hs
    exact fun H locs ls h1 h2 hR hS hl => lv_imul hx1 hb1 hd (qm_nx (hn.resolve_left Bool.false_ne_true) (hgo _ _ _ _ _ _ hs) h1 h2 hR hS hl)
  | iand =>
    obtain ⟨x, y', r, rfl, hs⟩ := qm_p2e hs
    exact fun H locs ls h1 h2 hR hS hl => lv_iand hx1 hb1 hd (qm_nx (hn.resolve_left Bool.false_ne_true) (hgo _ _ _ _ _ _ hs) h1 h2 hR hS hl)
  | ior =>
    obtain ⟨x, y', r, rfl, hs⟩ := qm_p2e hs
    exact fun H locs ls h1 h2 hR hS hl => lv_ior hx1 hb1 hd (qm_nx (hn.resolve_left Bool.false_ne_true) (hgo _ _ _ _ _ _ hs) h1 h2 hR hS hl)
  | ixor =>
    obtain ⟨x, y', r, rfl, hs⟩ := qm_p2e hs
    exact fun H locs ls h1 h2 hR hS hl => lv_ixor hx1 hb1 hd (qm_nx (hn.resolve_left Bool.false_ne_true) (hgo _ _ _ _ _ _ hs) h1 h2 hR hS hl)
  | ishl =>
    obtain ⟨x, y', r, rfl, hs⟩ := qm_p2e hs
    exact fun H locs ls h1 h2 hR hS hl => lv_ishl hx1 hb1 hd (qm_nx (hn.resolve_left Bool.false_ne_true) (hgo _ _ _ _ _ _ hs) h1 h2 hR hS hl)
  | ishr =>
    obtain ⟨x, y', r, rfl, hs⟩ := qm_p2e hs
    exact fun H locs ls h1 h2 hR hS hl => lv_ishr hx1 hb1 hd (qm_nx (hn.resolve_left Bool.false_ne_true) (hgo _ _ _ _ _ _ hs) h1 h2 hR hS hl)
  | iushr =>
    obtain ⟨x, y', r, rfl, hs⟩ := qm_p2e hs
    exact fun H locs ls h1 h2 hR hS hl => lv_iushr hx1 hb1 hd rfl (qm_nx (hn.resolve_left Bool.false_ne_true) (hgo _ _ _ _ _ _ hs) h1 h2 hR hS hl)
  | idiv =>
    obtain ⟨x, y', r, rfl, h0, hs⟩ := qm_p2e hs
    exact fun H locs ls h1 h2 hR hS hl => lv_idiv hx1 hb1 hd h0 (qm_nx (hn.resolve_left Bool.false_ne_true) (hgo _ _ _ _ _ _ hs) h1 h2 hR hS hl)
  | irem =>
    obtain ⟨x, y', r, rfl, h0, hs⟩ := qm_p2e hs
    exact fun H locs ls h1 h2 hR hS hl => lv_irem hx1 hb1 hd h0 (qm_nx (hn.resolve_left Bool.false_ne_true) (hgo _ _ _ _ _ _ hs) h1 h2 hR hS hl)
  | ineg =>
    obtain ⟨x, r, rfl, hs⟩ := qm_p1e hs
    exact fun H locs ls h1 h2 hR hS hl => lv_ineg hx1 hb1 hd (qm_nx (hn.resolve_left Bool.false_ne_true) (hgo _ _ _ _ _ _ hs) h1 h2 hR hS hl)
  | i2l =>
    obtain ⟨x, r, rfl, hs⟩ := qm_p1e hs
    exact fun H locs ls h1 h2 hR hS hl => lv_i2l hx1 hb1 hd rfl (qm_nx (hn.resolve_left Bool.false_ne_true) (hgo _ _ _ _ _ _ hs) h1 h2 hR hS hl)
  | l2i =>
    obtain ⟨x, r, rfl, hs⟩ := qm_q1e hs
    exact fun H locs ls h1 h2 hR hS hl => lv_l2i hx1 hb1 hd rfl (qm_nx (hn.resolve_left Bool.false_ne_true) (hgo _ _ _ _ _ _ hs) h1 h2 hR hS hl)
  | i2b =>
    obtain ⟨x, r, rfl, hs⟩ := qm_p1e hs
    exact fun H locs ls h1 h2 hR hS hl => lv_i2b hx1 hb1 hd rfl (qm_nx (hn.resolve_left Bool.false_ne_true) (hgo _ _ _ _ _ _ hs) h1 h2 hR hS hl)
  | ladd =>
    obtain ⟨x, y', r, rfl, hs⟩ := qm_q2e hs
    exact fun H locs ls h1 h2 hR hS hl => lv_ladd hx1 hb1 hd (qm_nx (hn.resolve_left Bool.false_ne_true) (hgo _ _ _ _ _ _ hs) h1 h2 hR hS hl)
  | lsub =>
    obtain ⟨x, y', r, rfl, hs⟩ := qm_q2e hs
    exact fun H locs ls h1 h2 hR hS hl => lv_lsub hx1 hb1 hd (qm_nx (hn.resolve_left Bool.false_ne_true) (hgo _ _ _ _ _ _ hs) h1 h2 hR hS hl)
  | lmul =>
    obtain ⟨x, y', r, rfl, hs⟩ := qm_q2e hs
    exact fun H locs ls h1 h2 hR hS hl => lv_lmul hx1 hb1 hd (qm_nx (hn.resolve_left Bool.false_ne_true) (hgo _ _ _ _ _ _ hs) h1 h2 hR hS hl)
  | land =>
    obtain ⟨x, y', r, rfl, hs⟩ := qm_q2e hs
    exact fun H locs ls h1 h2 hR hS hl => lv_land hx1 hb1 hd (qm_nx (hn.resolve_left Bool.false_ne_true) (hgo _ _ _ _ _ _ hs) h1 h2 hR hS hl)
  | lor =>
    obtain ⟨x, y', r, rfl, hs⟩ := qm_q2e hs
    exact fun H locs ls h1 h2 hR hS hl => lv_lor hx1 hb1 hd (qm_nx (hn.resolve_left Bool.false_ne_true) (hgo _ _ _ _ _ _ hs) h1 h2 hR hS hl)
  | lxor =>
    obtain ⟨x, y', r, rfl, hs⟩ := qm_q2e hs
    exact fun H locs ls h1 h2 hR hS hl => lv_lxor hx1 hb1 hd (qm_nx (hn.resolve_left Bool.false_ne_true) (hgo _ _ _ _ _ _ hs) h1 h2 hR hS hl)
  | ldiv =>
    obtain ⟨x, y', r, rfl, h0, hs⟩ := qm_q2e hs
    exact fun H locs ls h1 h2 hR hS hl => lv_ldiv hx1 hb1 hd h0 (qm_nx (hn.resolve_left Bool.false_ne_true) (hgo _ _ _ _ _ _ hs) h1 h2 hR hS hl)
  | lrem =>
    obtain ⟨x, y', r, rfl, h0, hs⟩ := qm_q2e hs
    exact fun H locs ls h1 h2 hR hS hl => lv_lrem hx1 hb1 hd h0 (qm_nx (hn.resolve_left Bool.false_ne_true) (hgo _ _ _ _ _ _ hs) h1 h2 hR hS hl)
  | lushr =>
    obtain ⟨x, y', r, rfl, hs⟩ := qm_qie hs
    exact fun H locs ls h1 h2 hR hS hl => lv_lushr hx1 hb1 hd rfl (qm_nx (hn.resolve_left Bool.false_ne_true) (hgo _ _ _ _ _ _ hs) h1 h2 hR hS hl)
  | lshl =>
    obtain ⟨x, y', r, rfl, hs⟩ := qm_qie hs
    exact fun H locs ls h1 h2 hR hS hl => lv_lshl hx1 hb1 hd rfl (qm_nx (hn.resolve_left Bool.false_ne_true) (hgo _ _ _ _ _ _ hs) h1 h2 hR hS hl)
  | lshr =>
    obtain ⟨x, y', r, rfl, hs⟩ := qm_qie hs
    exact fun H locs ls h1 h2 hR hS hl => lv_lshr hx1 hb1 hd rfl (qm_nx (hn.resolve_left Bool.false_ne_true) (hgo _ _ _ _ _ _ hs) h1 h2 hR hS hl)
  | lcmp =>
    obtain ⟨x, y', r, rfl, hs⟩ := qm_q2e hs
    exact fun H locs ls h1 h2 hR hS hl => W.lcmp hx1 hb1 hd (qm_nx (hn.resolve_left Bool.false_ne_true) (hgo _ _ _ _ _ _ hs) h1 h2 hR hS hl)
  | dup =>
    unfold qm_step1 at hs; dsimp only at hs
    obtain ⟨v, r, rfl, hc1, hs⟩ := qm_d1e hs
    exact fun H locs ls h1 h2 hR hS hl => lv_dup hx1 hb1 hd (by rw [qm_mv_cat]; exact hc1) (qm_nx (hn.resolve_left Bool.false_ne_true) (hgo _ _ _ _ _ _ hs) h1 h2 hR hS hl)
  | pop =>
    unfold qm_step1 at hs; dsimp only at hs
    obtain ⟨v, r, rfl, hc1, hs⟩ := qm_d1e hs
    exact fun H locs ls h1 h2 hR hS hl => lv_pop hx1 hb1 hd (by rw [qm_mv_cat]; exact hc1) (qm_nx (hn.resolve_left Bool.false_ne_true) (hgo _ _ _ _ _ _ hs) h1 h2 hR hS hl)
  | dup2 =>
    unfold qm_step1 at hs; dsimp only at hs
    obtain ⟨v, w, r, rfl, hc1, hc2, hs⟩ := qm_d2e hs
    exact fun H locs ls h1 h2 hR hS hl => lv_dup2_11 hx1 hb1 hd (by rw [qm_mv_cat]; exact hc1) (by rw [qm_mv_cat]; exact hc2) (qm_nx (hn.resolve_left Bool.false_ne_true) (hgo _ _ _ _ _ _ hs) h1 h2 hR hS hl)
  | goto off => exact fun H locs ls h1 h2 hR hS hl => lv_goto hx1 hb1 hd (qm_to hx) (hgo _ _ _ _ _ _ hs H locs ls h1 h2 hR hS hl)
  | ifCond k off =>
    cases k with
    | eq =>
      obtain ⟨x, r, rfl, hs⟩ := qm_p1e hs
      exact fun H locs ls h1 h2 hR hS hl => lv_if_eq hx1 hb1 hd (qm_to hx) (fun q => hgo _ _ _ _ _ _ (hs.1 q) H locs ls h1 h2 hR hS hl) (fun q => qm_nx (hn.resolve_left Bool.false_ne_true) (hgo _ _ _ _ _ _ (hs.2 q)) h1 h2 hR hS hl)
    | ne =>
      obtain ⟨x, r, rfl, hs⟩ := qm_p1e hs
      exact fun H locs ls h1 h2 hR hS hl => lv_if_ne hx1 hb1 hd (qm_to hx) (fun q => hgo _ _ _ _ _ _ (hs.1 q) H locs ls h1 h2 hR hS hl) (fun q => qm_nx (hn.resolve_left Bool.false_ne_true) (hgo _ _ _ _ _ _ (hs.2 q)) h1 h2 hR hS hl)
    | lt =>
      obtain ⟨x, r, rfl, hs⟩ := qm_p1e hs
      exact fun H locs ls h1 h2 hR hS hl => lv_if_lt hx1 hb1 hd (qm_to hx) (fun q => hgo _ _ _ _ _ _ (hs.1 q) H locs ls h1 h2 hR hS hl) (fun q => qm_nx (hn.resolve_left Bool.false_ne_true) (hgo _ _ _ _ _ _ (hs.2 q)) h1 h2 hR hS hl)
    | ge =>
      obtain ⟨x, r, rfl, hs⟩ := qm_p1e hs
      exact fun H locs ls h1 h2 hR hS hl => lv_if_ge hx1 hb1 hd (qm_to hx) (fun q => hgo _ _ _ _ _ _ (hs.1 q) H locs ls h1 h2 hR hS hl) (fun q => qm_nx (hn.resolve_left Bool.false_ne_true) (hgo _ _ _ _ _ _ (hs.2 q)) h1 h2 hR hS hl)
    | gt =>
      obtain ⟨x, r, rfl, hs⟩ := qm_p1e hs
      exact fun H locs ls h1 h2 hR hS hl => lv_if_gt hx1 hb1 hd (qm_to hx) (fun q => hgo _ _ _ _ _ _ (hs.1 q) H locs ls h1 h2 hR hS hl) (fun q => qm_nx (hn.resolve_left Bool.false_ne_true) (hgo _ _ _ _ _ _ (hs.2 q)) h1 h2 hR hS hl)
    | le =>
      obtain ⟨x, r, rfl, hs⟩ := qm_p1e hs
      exact fun H locs ls h1 h2 hR hS hl => lv_if_le hx1 hb1 hd (qm_to hx) (fun q => hgo _ _ _ _ _ _ (hs.1 q) H locs ls h1 h2 hR hS hl) (fun q => qm_nx (hn.resolve_left Bool.false_ne_true) (hgo _ _ _ _ _ _ (hs.2 q)) h1 h2 hR hS hl)
  | if_icmp k off =>
    cases k with
    | eq =>
      obtain ⟨x, y', r, rfl, hs⟩ := qm_p2e hs
      exact fun H locs ls h1 h2 hR hS hl => lv_icmp_eq hx1 hb1 hd (qm_to hx) (fun q => hgo _ _ _ _ _ _ (hs.1 q) H locs ls h1 h2 hR hS hl) (fun q => qm_nx (hn.resolve_left Bool.false_ne_true) (hgo _ _ _ _ _ _ (hs.2 q)) h1 h2 hR hS hl)
    | ne =>
      obtain ⟨x, y', r, rfl, hs⟩ := qm_p2e hs
      exact fun H locs ls h1 h2 hR hS hl => lv_icmp_ne hx1 hb1 hd (qm_to hx) (fun q => hgo _ _ _ _ _ _ (hs.1 q) H locs ls h1 h2 hR hS hl) (fun q => qm_nx (hn.resolve_left Bool.false_ne_true) (hgo _ _ _ _ _ _ (hs.2 q)) h1 h2 hR hS hl)
    | lt =>
      obtain ⟨x, y', r, rfl, hs⟩ := qm_p2e hs
      exact fun H locs ls h1 h2 hR hS hl => lv_icmp_lt hx1 hb1 hd (qm_to hx) (fun q => hgo _ _ _ _ _ _ (hs.1 q) H locs ls h1 h2 hR hS hl) (fun q => qm_nx (hn.resolve_left Bool.false_ne_true) (hgo _ _ _ _ _ _ (hs.2 q)) h1 h2 hR hS hl)
    | ge =>
      obtain ⟨x, y', r, rfl, hs⟩ := qm_p2e hs
      exact fun H locs ls h1 h2 hR hS hl => lv_icmp_ge hx1 hb1 hd (qm_to hx) (fun q => hgo _ _ _ _ _ _ (hs.1 q) H locs ls h1 h2 hR hS hl) (fun q => qm_nx (hn.resolve_left Bool.false_ne_true) (hgo _ _ _ _ _ _ (hs.2 q)) h1 h2 hR hS hl)
    | gt =>
      obtain ⟨x, y', r, rfl, hs⟩ := qm_p2e hs
      exact fun H locs ls h1 h2 hR hS hl => lv_icmp_gt hx1 hb1 hd (qm_to hx) (fun q => hgo _ _ _ _ _ _ (hs.1 q) H locs ls h1 h2 hR hS hl) (fun q => qm_nx (hn.resolve_left Bool.false_ne_true) (hgo _ _ _ _ _ _ (hs.2 q)) h1 h2 hR hS hl)
    | le =>
      obtain ⟨x, y', r, rfl, hs⟩ := qm_p2e hs
      exact fun H locs ls h1 h2 hR hS hl => lv_icmp_le hx1 hb1 hd (qm_to hx) (fun q => hgo _ _ _ _ _ _ (hs.1 q) H locs ls h1 h2 hR hS hl) (fun q => qm_nx (hn.resolve_left Bool.false_ne_true) (hgo _ _ _ _ _ _ (hs.2 q)) h1 h2 hR hS hl)
  | ifnull off =>
    rcases qm_nle hs with ⟨r, rfl, hs⟩ | ⟨p, r, rfl, hs⟩
    · exact fun H locs ls h1 h2 hR hS hl => lv_ifnullN hx1 hb1 hd (qm_to hx) (hgo _ _ _ _ _ _ hs H locs ls h1 h2 hR hS hl)
    · exact fun H locs ls h1 h2 hR hS hl => lv_ifnull hx1 hb1 hd (qm_nx (hn.resolve_left Bool.false_ne_true) (hgo _ _ _ _ _ _ hs) h1 h2 hR hS hl)
  | ifnonnull off =>
    rcases qm_nle hs with ⟨r, rfl, hs⟩ | ⟨p, r, rfl, hs⟩
    · exact fun H locs ls h1 h2 hR hS hl => lv_ifnonnullN hx1 hb1 hd (qm_nx (hn.resolve_left Bool.false_ne_true) (hgo _ _ _ _ _ _ hs) h1 h2 hR hS hl)
    · exact fun H locs ls h1 h2 hR hS hl => lv_ifnonnull hx1 hb1 hd (qm_to hx) (hgo _ _ _ _ _ _ hs H locs ls h1 h2 hR hS hl)
  | tableswitch dflt lo hj2 offs =>
    obtain ⟨x, r, rfl, hs1, hs2⟩ := qm_p1e hs
    unfold qm_okx at hx; dsimp only at hx
    rw [Bool.and_eq_true, Bool.and_eq_true, Bool.and_eq_true, Bool.and_eq_true, decide_eq_true_eq, decide_eq_true_eq, decide_eq_true_eq] at hx
    obtain ⟨g1, g2, g3, g4, g5⟩ := hx
    intro H locs ls h1 h2 hR hS hl
    by_cases hin : x.toInt < lo ∨ hj2 < x.toInt
    · exact lv_tableOut hx1 hb1 hd hin (qm_to g1) (hgo _ _ _ _ _ _ (hs2 (by rcases hin with q | q; exact Or.inl q; right; dsimp only; omega)) H locs ls h1 h2 hR hS hl)
    · have hj : (x.toInt - lo).toNat < offs.size := by omega
      have g6 := List.all_eq_true.mp g5 _ (List.mem_range.mpr hj)
      cases ho : offs[(x.toInt - lo).toNat]? with
      | none => rw [ho] at g6; cases g6
      | some o =>
        cases ht : (List.drop 1 aux)[(x.toInt - lo).toNat]? with
        | none => rw [ho, ht] at g6; cases g6
        | some t =>
          rw [ho, ht] at g6
          refine lv_tableIn hx1 hb1 hd (fun q => hin (Or.inl q)) (fun q => hin (Or.inr q)) ho (qm_to g6) (hgo _ _ _ _ _ _ (qm_sw_at _ lo _ t hs1 ht ?_) H locs ls h1 h2 hR hS hl)
          have e : lo + (((x.toInt - lo).toNat : Nat) : Int) = x.toInt := by omega
          rw [e]
          exact (fb_asI' x).symm
  | getfield idx =>
    obtain ⟨p, r, rfl, hk, hs⟩ := qm_pre_ hs
    unfold qm_okx at hx; dsimp only at hx hk hs
    cases hr : vwCl[aux.getD 0 0]? with
    | none => rw [hr] at hx; cases hx
    | some rr =>
      rw [hr] at hx
      dsimp only at hx
      rw [Bool.and_eq_true, decide_eq_true_eq] at hx
      obtain ⟨⟨g1, g2, g3⟩, g4⟩ := hx
      intro H locs ls h1 h2 hR hS hl
      refine qm_getW hC hR hk g1 hr g2 (qm_hs_in g4) hd ?_
      rw [← g3]
      have ht3 := (qm_tag hr g2).2
      rw [← g3] at ht3
      revert hs
      generalize aux.getD 2 0 = t at ht3 ⊢
      intro hs
      match t, ht3, hs with
      | 0, _, hs => exact qm_nx (hn.resolve_left Bool.false_ne_true) (hgo _ _ _ _ _ _ hs) h1 h2 hR hS hl
      | 1, _, hs => exact qm_nx (hn.resolve_left Bool.false_ne_true) (hgo _ _ _ _ _ _ hs) h1 h2 hR hS hl
      | 2, _, hs =>
        obtain ⟨o, ho, hs⟩ := hs
        have := qm_nx (hn.resolve_left Bool.false_ne_true) (hgo _ _ _ _ _ _ hs) h1 h2 hR hS hl
        unfold qm_vl
        rw [ho]
        cases o <;> exact this
  | putfield idx =>
    unfold qm_okx at hx; dsimp only at hx
    unfold qm_step1 at hs; dsimp only at hs
    cases hr : vwCl[aux.getD 0 0]? with
    | none => rw [hr] at hx; cases hx
    | some rr =>
      rw [hr] at hx
      dsimp only at hx
      rw [Bool.and_eq_true, Bool.and_eq_true, decide_eq_true_eq, decide_eq_true_eq] at hx
      obtain ⟨⟨g1, g2, g3⟩, g4, g5⟩ := hx
      obtain ⟨ht1, ht3⟩ := qm_tag hr g2
      rw [← g3] at ht1 ht3
      intro H locs ls h1 h2 hR hS hl
      have hbz : ∀ x, qm_bz (aux.getD 0 0) (aux.getD 1 0) x → (qm_pt rr (aux.getD 1 0) = .boolean → x = 0 ∨ x = 1) := by
        intro x hx2 e
        unfold qm_bz at hx2
        rw [hr, Option.map_some, e] at hx2
        exact hx2
      match ht : aux.getD 2 0, ht3, hs with
      | 0, _, hs =>
        obtain ⟨p, x, r, rfl, hk, hz2, hs⟩ := qm_fie hs
        refine qm_putW hC hR hS hk g1 hr g2 (qm_hs_in g4) g5 (v := .int x) (h' := qm_si h p (aux.getD 1 0) x) ?_ ?_ rfl rfl (fun q j t => ?_) hd (fun H1 locs1 hR1 hS1 => qm_nx (hn.resolve_left Bool.false_ne_true) (hgo _ _ _ _ _ _ hs) h1 h2 hR1 hS1 hl)
        · rw [ht] at ht1
          have hz3 := hbz x hz2
          cases hq : qm_pt rr (aux.getD 1 0) <;> rw [hq] at ht1 <;> first | rfl | (cases ht1; done) | (rcases hz3 hq with rfl | rfl <;> rfl)
        · rw [ht] at ht1
          have hz3 := hbz x hz2
          cases hq : qm_pt rr (aux.getD 1 0) <;> rw [hq] at ht1 <;> first | rfl | (cases ht1; done) | (rcases hz3 hq with rfl | rfl <;> rfl)
        · rw [qm_vl_si, ← g3, ht]
      | 1, _, hs =>
        obtain ⟨p, x, r, rfl, hk, hs⟩ := qm_fle hs
        refine qm_putW hC hR hS hk g1 hr g2 (qm_hs_in g4) g5 (v := .long x) (h' := qm_sl h p (aux.getD 1 0) x) ?_ ?_ rfl rfl (fun q j t => ?_) hd (fun H1 locs1 hR1 hS1 => qm_nx (hn.resolve_left Bool.false_ne_true) (hgo _ _ _ _ _ _ hs) h1 h2 hR1 hS1 hl)
        · rw [ht] at ht1
          cases hq : qm_pt rr (aux.getD 1 0) <;> rw [hq] at ht1 <;> first | rfl | cases ht1
        · rw [ht] at ht1
          cases hq : qm_pt rr (aux.getD 1 0) <;> rw [hq] at ht1 <;> first | rfl | cases ht1
        · rw [qm_vl_sl, ← g3, ht]
      | 2, _, hs =>
        obtain ⟨p, o, r, rfl, hk, hw, hs⟩ := qm_fre hs
        have e0 : qm_mv G (va_rf o) = va_rf (o.map (qm_ad G)) := by cases o <;> rfl
        have key := qm_putW (ls := ls) (c := c) (s := s) (rest := r.map (qm_mv G)) hC hR hS hk g1 hr g2 (qm_hs_in g4) g5 (v := va_rf (o.map (qm_ad G))) (h' := qm_sr h p (aux.getD 1 0) o) (by
            rw [ht] at ht1
            cases hq : qm_pt rr (aux.getD 1 0) <;> rw [hq] at ht1 <;> first | (cases o <;> rfl) | cases ht1) (by
            rw [ht] at ht1
            cases hq : qm_pt rr (aux.getD 1 0) <;> rw [hq] at ht1 <;> first | (cases o <;> rfl) | cases ht1) rfl rfl (fun q j t => by rw [qm_vl_sr hw, ← g3, ht]) hd (fun H1 locs1 hR1 hS1 => qm_nx (hn.resolve_left Bool.false_ne_true) (hgo _ _ _ _ _ _ hs) h1 h2 hR1 hS1 hl)
        rw [← e0] at key
        exact key
  | iaload =>
    obtain ⟨p, j, r, rfl, hk, hin, hs⟩ := qm_pae hs
    exact fun H locs ls h1 h2 hR hS hl => qm_ialdW hC hR hk hin hd (qm_nx (hn.resolve_left Bool.false_ne_true) (hgo _ _ _ _ _ _ hs) h1 h2 hR hS hl)
  | baload =>
    obtain ⟨p, j, r, rfl, hk, hin, hs⟩ := qm_pae hs
    rcases (of_decide_eq_true hx : aux.headD 9 = 9 ∨ aux.headD 9 = 11) with e | e
    · dsimp only at hk; rw [e] at hk
      exact fun H locs ls h1 h2 hR hS hl => qm_baldW hC hR hk hin hd (qm_nx (hn.resolve_left Bool.false_ne_true) (hgo _ _ _ _ _ _ hs) h1 h2 hR hS hl)
    · dsimp only at hk; rw [e] at hk
      exact fun H locs ls h1 h2 hR hS hl => qm_zaldW hC hR hk hin hd (qm_nx (hn.resolve_left Bool.false_ne_true) (hgo _ _ _ _ _ _ hs) h1 h2 hR hS hl)
  | aaload =>
    obtain ⟨p, j, r, rfl, hk, hin, o, ho, hs⟩ := qm_pae hs
    intro H locs ls h1 h2 hR hS hl
    refine qm_aaldW hC hR (of_decide_eq_true hx) hk hin hd ?_
    have := qm_nx (hn.resolve_left Bool.false_ne_true) (hgo _ _ _ _ _ _ hs) h1 h2 hR hS hl
    rw [ho]
    cases o <;> exact this
  | arraylength =>
    obtain ⟨p, r, rfl, hk, hs⟩ := qm_pre_ hs
    exact fun H locs ls h1 h2 hR hS hl => qm_alenW hC hR (of_decide_eq_true hx) hk hd (qm_nx (hn.resolve_left Bool.false_ne_true) (hgo _ _ _ _ _ _ hs) h1 h2 hR hS hl)
  | iastore =>
    obtain ⟨p, j, x, r, rfl, hk, hin, hs⟩ := qm_pse hs
    exact fun H locs ls h1 h2 hR hS hl => qm_iastW hC hR hS hk hin hd (fun H1 locs1 hR1 hS1 => qm_nx (hn.resolve_left Bool.false_ne_true) (hgo _ _ _ _ _ _ hs) h1 h2 hR1 hS1 hl)
  | bastore =>
    obtain ⟨p, j, x, r, rfl, hk, hin, hs⟩ := qm_pse hs
    dsimp only at hk hs
    rcases (of_decide_eq_true hx : aux.headD 9 = 9 ∨ aux.headD 9 = 11) with e | e
    · rw [e] at hk hs
      exact fun H locs ls h1 h2 hR hS hl => qm_bastW hC hR hS hk hin hd (fun H1 locs1 hR1 hS1 => qm_nx (hn.resolve_left Bool.false_ne_true) (hgo _ _ _ _ _ _ hs) h1 h2 hR1 hS1 hl)
    · rw [e] at hk hs
      exact fun H locs ls h1 h2 hR hS hl => qm_zastW hC hR hS hk hin hd (fun H1 locs1 hR1 hS1 => qm_nx (hn.resolve_left Bool.false_ne_true) (hgo _ _ _ _ _ _ hs) h1 h2 hR1 hS1 hl)
  | aastore =>
    obtain ⟨p, j, v, r, rfl, hk, hv, hin, hw, hs⟩ := qm_pqe hs
    exact fun H locs ls h1 h2 hR hS hl => qm_aastW hC hR hS (of_decide_eq_true hx) hk hv hin hw hd (fun H1 locs1 hR1 hS1 => qm_nx (hn.resolve_left Bool.false_ne_true) (hgo _ _ _ _ _ _ hs) h1 h2 hR1 hS1 hl)
  | new idx =>
    obtain ⟨hz, hc1, hs1, hs⟩ := hs
    unfold qm_okx at hx; dsimp only at hx hc1 hs1 hs
    cases hr : vwCl[aux.headD 0]? with
    | none => rw [hr] at hx; cases hx
    | some rr =>
      rw [hr] at hx
      dsimp only at hx
      rw [Bool.and_eq_true, Bool.and_eq_true, Bool.and_eq_true, decide_eq_true_eq] at hx
      obtain ⟨⟨g1, g2⟩, g3, g4, g5⟩ := hx
      rw [g2] at hs1 hs
      exact fun H locs ls h1 h2 hR hS hl => qm_newW hC hR hS g1 hr hz (qm_hs_in g3) (qm_hs_in g4) (qm_hs_in g5) (Nat.le_trans hc1 hCR) (Nat.le_trans hs1 hSR) hd (fun H1 hR1 hS1 => qm_nx (hn.resolve_left Bool.false_ne_true) (hgo _ _ _ _ _ _ hs) (Nat.le_trans hc1 hCR) (Nat.le_trans hs1 hSR) hR1 hS1 hl)
  | newarray a =>
    obtain ⟨n, r, rfl, hn0, hn1, hz, hc1, hs1, hs'⟩ := qm_p1e hs
    unfold qm_okx at hx; dsimp only at hx hs'
    rw [Bool.and_eq_true, decide_eq_true_eq] at hx
    obtain ⟨g1, g2⟩ := hx
    intro H locs ls h1 h2 hR hS hl
    rcases g2 with ⟨rfl, e⟩ | ⟨rfl, e⟩ | ⟨rfl, e⟩
    · rw [e] at hs'
      exact qm_newaW (at_ := .int) (k := 1) (kd := 10) hC hR hS rfl (by decide) rfl rfl (fun C h => by cases h) hz (qm_hs_in g1) hn0 (Nat.le_trans (Nat.mul_le_mul hn1 (Nat.le_refl 4)) (Nat.le_of_ble_eq_true rfl)) (Nat.le_trans hc1 hCR) (Nat.le_trans hs1 hSR) hd (fun H1 hR1 hS1 => qm_nx (hn.resolve_left Bool.false_ne_true) (hgo _ _ _ _ _ _ hs') (Nat.le_trans hc1 hCR) (Nat.le_trans hs1 hSR) hR1 hS1 hl)
    · rw [e] at hs'
      exact qm_newaW (at_ := .byte) (k := 0) (kd := 9) hC hR hS rfl (by decide) rfl rfl (fun C h => by cases h) hz (qm_hs_in g1) hn0 (Nat.le_trans (Nat.mul_le_mul hn1 (Nat.le_refl 1)) (Nat.le_of_ble_eq_true rfl)) (Nat.le_trans hc1 hCR) (Nat.le_trans hs1 hSR) hd (fun H1 hR1 hS1 => qm_nx (hn.resolve_left Bool.false_ne_true) (hgo _ _ _ _ _ _ hs') (Nat.le_trans hc1 hCR) (Nat.le_trans hs1 hSR) hR1 hS1 hl)
    · rw [e] at hs'
      exact qm_newaW (at_ := .boolean) (k := 2) (kd := 11) hC hR hS rfl (by decide) rfl rfl (fun C h => by cases h) hz (qm_hs_in g1) hn0 (Nat.le_trans (Nat.mul_le_mul hn1 (Nat.le_refl 1)) (Nat.le_of_ble_eq_true rfl)) (Nat.le_trans hc1 hCR) (Nat.le_trans hs1 hSR) hd (fun H1 hR1 hS1 => qm_nx (hn.resolve_left Bool.false_ne_true) (hgo _ _ _ _ _ _ hs') (Nat.le_trans hc1 hCR) (Nat.le_trans hs1 hSR) hR1 hS1 hl)
  | anewarray idx =>
    obtain ⟨n, r, rfl, hn0, hn1, hz, hc1, hs1, hs'⟩ := qm_p1e hs
    unfold qm_okx at hx; dsimp only at hx hs'
    rw [Bool.or_eq_true, Bool.or_eq_true, Bool.and_eq_true, Bool.and_eq_true, Bool.and_eq_true, decide_eq_true_eq, decide_eq_true_eq, decide_eq_true_eq] at hx
    intro H locs ls h1 h2 hR hS hl
    rcases hx with ⟨g1, e⟩ | ⟨g1, e⟩ | ⟨g1, e⟩
    · rw [e] at hs'
      exact qm_anewW (k := 3) (kd := 12) (C := RX3) hC hR hS rfl (by simp) (by decide) rfl hz (qm_hs_in g1) hn0 (Nat.le_trans (Nat.mul_le_mul hn1 (Nat.le_refl 4)) (Nat.le_of_ble_eq_true rfl)) (Nat.le_trans hc1 hCR) (Nat.le_trans hs1 hSR) hd (fun H1 hR1 hS1 => qm_nx (hn.resolve_left Bool.false_ne_true) (hgo _ _ _ _ _ _ hs') (Nat.le_trans hc1 hCR) (Nat.le_trans hs1 hSR) hR1 hS1 hl)
    · rw [e] at hs'
      exact qm_anewW (k := 4) (kd := 13) (C := RX7) hC hR hS rfl (by simp) (by decide) rfl hz (qm_hs_in g1) hn0 (Nat.le_trans (Nat.mul_le_mul hn1 (Nat.le_refl 4)) (Nat.le_of_ble_eq_true rfl)) (Nat.le_trans hc1 hCR) (Nat.le_trans hs1 hSR) hd (fun H1 hR1 hS1 => qm_nx (hn.resolve_left Bool.false_ne_true) (hgo _ _ _ _ _ _ hs') (Nat.le_trans hc1 hCR) (Nat.le_trans hs1 hSR) hR1 hS1 hl)
    · rw [e] at hs'
      exact qm_anewW (k := 5) (kd := 14) (C := RX8) hC hR hS rfl (by simp) (by decide) rfl hz (qm_hs_in g1) hn0 (Nat.le_trans (Nat.mul_le_mul hn1 (Nat.le_refl 4)) (Nat.le_of_ble_eq_true rfl)) (Nat.le_trans hc1 hCR) (Nat.le_trans hs1 hSR) hd (fun H1 hR1 hS1 => qm_nx (hn.resolve_left Bool.false_ne_true) (hgo _ _ _ _ _ _ hs') (Nat.le_trans hc1 hCR) (Nat.le_trans hs1 hSR) hR1 hS1 hl)
  | ireturn =>
    unfold qm_step1 at hs; dsimp only at hs
    split at hs
    · rename_i x
      obtain ⟨g1, g2⟩ := hs
      intro H locs ls h1 h2 hR hS hl
      unfold qm_rn at g1
      split at g1
      · rename_i e
        exact qm_iretW hC (nz _ _ g2) hR hS h1 h2 e rfl g2 hd
      · rename_i e
        exact qm_iretW hC (nz _ _ g2) hR hS h1 h2 e (by show Value.int (x &&& 1) = _; rw [g1]) g2 hd
      · exact g1.elim
    · exact hs.elim
  | lreturn =>
    unfold qm_step1 at hs; dsimp only at hs
    split at hs
    · exact fun H locs ls h1 h2 hR hS hl => qm_lretW hC (nz _ _ hs.2) hR hS h1 h2 hs.1 hs.2 hd
    · exact hs.elim
  | areturn =>
    unfold qm_step1 at hs; dsimp only at hs
    split at hs
    · obtain ⟨⟨t, g1⟩, g2⟩ := hs
      exact fun H locs ls h1 h2 hR hS hl => qm_aretW hC (nz _ _ g2) hR hS h1 h2 g1 (Or.inl ⟨_, rfl⟩) (Or.inr ⟨_, rfl⟩) g2 hd
    · obtain ⟨⟨t, g1⟩, g2⟩ := hs
      exact fun H locs ls h1 h2 hR hS hl => qm_aretW hC (nz _ _ g2) hR hS h1 h2 g1 (Or.inl ⟨_, rfl⟩) (Or.inl rfl) g2 hd
    · exact hs.elim
  | return_ =>
    unfold qm_step1 at hs; dsimp only at hs
    split at hs
    · exact fun H locs ls h1 h2 hR hS hl => qm_vretW hC (nz _ _ hs.2) hR hS h1 h2 hs.1 hs.2 hd
    · exact hs.elim
  | invokestatic idx =>
    unfold qm_step1 at hs; dsimp only at hs
    obtain ⟨as, r, rfl, hlen, hcat, hs⟩ := qm_cse hs
    unfold qm_okx at hx; dsimp only at hx
    unfold qm_clsOK at hx
    rw [Bool.and_eq_true, Bool.and_eq_true, Bool.and_eq_true, Bool.and_eq_true, Bool.and_eq_true, Bool.and_eq_true, decide_eq_true_eq, decide_eq_true_eq, decide_eq_true_eq, Bool.or_eq_true] at hx
    obtain ⟨⟨g1, g2, g3, g4, g5⟩, g6, g7⟩ := hx
    intro H locs ls h1 h2 hR hS hl
    match d, hdF, hdL, hs with
    | d' + 1, hdF, hdL, ⟨C1, S1, Q1, hE, ⟨k1, k2⟩, hk⟩ =>
      have kk : ∀ (v : Option Value) (h' : qm_H) (H1 : Heap) (locs1 : List Loc), Q1 v h' → qm_Rep G h' H1 → va_S (qm_A G) (qm_S z).heap H1 locs1 → qm_W z H1 locs1 (c + C1) (s + S1) (F0 z.2.2.2.2.2.1 (qm_pc M i + 3) ls ((v.map (qm_mv G)).toList ++ r.map (qm_mv G))) := by
        intro v h' H1 locs1 hq hR1 hS1
        have := qm_nx (hn.resolve_left Bool.false_ne_true) (hgo _ _ _ _ _ _ (hk v h' hq)) (Nat.le_trans k1 hCR) (Nat.le_trans k2 hSR) hR1 hS1 hl
        rw [List.map_append] at this
        cases v <;> exact this
      rcases g7 with g7 | g7
      · exact qm_staW hC hR hS ⟨qm_hs_in g1, qm_hs_in g2, g3, g4, qm_hs_in g7, g5⟩ (qm_hs_in g6) hdF hdL hE hlen hl.1 hcat (Nat.le_trans k1 hCR) (Nat.le_trans k2 hSR) hd kk
      · exact qm_staNW hC hR hS ⟨qm_hs_in g1, qm_hs_in g2, g3, g4, qm_hn_in g7, g5⟩ (qm_hs_in g6) hdF hdL hE hlen hl.1 hcat (Nat.le_trans k1 hCR) (Nat.le_trans k2 hSR) hd kk
  | invokevirtual idx =>
    unfold qm_step1 at hs; dsimp only at hs
    obtain ⟨as, r, rfl, hlen, hcat, hs⟩ := qm_cse hs
    obtain ⟨p, as', rfl, hk0, hs⟩ := qm_c1e hs
    unfold qm_okx at hx; dsimp only at hx
    unfold qm_clsOK at hx
    cases hr : vwCl[aux.getD 1 0]? with
    | none => rw [hr] at hx; cases hx
    | some rr =>
      rw [hr] at hx
      dsimp only at hx
      rw [Bool.and_eq_true, Bool.and_eq_true, Bool.and_eq_true, Bool.and_eq_true, Bool.and_eq_true, Bool.and_eq_true, Bool.and_eq_true, Bool.and_eq_true, decide_eq_true_eq, decide_eq_true_eq, decide_eq_true_eq, decide_eq_true_eq] at hx
      obtain ⟨g0, ⟨g1, g2, g3, g4, g5⟩, g6, g7, g8⟩ := hx
      intro H locs ls h1 h2 hR hS hl
      match d, hdF, hdL, hs with
      | d' + 1, hdF, hdL, ⟨C1, S1, Q1, hE, ⟨k1, k2⟩, hk⟩ =>
        have kk : ∀ (v : Option Value) (h' : qm_H) (H1 : Heap) (locs1 : List Loc), Q1 v h' → qm_Rep G h' H1 → va_S (qm_A G) (qm_S z).heap H1 locs1 → qm_W z H1 locs1 (c + C1) (s + S1) (F0 z.2.2.2.2.2.1 (qm_pc M i + 3) ls ((v.map (qm_mv G)).toList ++ r.map (qm_mv G))) := by
          intro v h' H1 locs1 hq hR1 hS1
          have := qm_nx (hn.resolve_left Bool.false_ne_true) (hgo _ _ _ _ _ _ (hk v h' hq)) (Nat.le_trans k1 hCR) (Nat.le_trans k2 hSR) hR1 hS1 hl
          rw [List.map_append] at this
          cases v <;> exact this
        have e1 : (Value.ref p :: as').reverse ++ r = as'.reverse ++ .ref p :: r := by simp
        rw [e1]
        exact qm_virW hC hR hS hr g0 hk0 ⟨qm_hs_in g1, qm_hs_in g2, g3, g4, qm_hs_in g8, g5⟩ (qm_hs_in g6) (qm_hs_in g7) hdF hdL hE (Nat.succ.inj hlen) hl.1 hcat (Nat.le_trans k1 hCR) (Nat.le_trans k2 hSR) hd kk
  | invokespecial idx =>
    unfold qm_step1 at hs; dsimp only at hs
    unfold qm_okx at hx; dsimp only at hx
    cases h2m : (aux.getD 1 0 == 2) with
    | true =>
      rw [h2m, cond_true] at hs hx
      obtain ⟨p, r, rfl, hs'⟩ := qm_pre_ hs
      clear hs
      rw [Bool.and_eq_true, Bool.and_eq_true] at hx
      obtain ⟨g1, g2, g3⟩ := hx
      cases hb8 : Nat.ble ((r.map fun v => v.category).sum) 8 with
      | false => rw [hb8] at hs'; exact hs'.elim
      | true =>
        rw [hb8, cond_true] at hs'
        have hcat := Nat.le_of_ble_eq_true hb8
        intro H locs ls h1 h2 hR hS hl
        match d, hdF, hdL, hs' with
        | d' + 1, hdF, hdL, hs =>
          refine W.objInit hx1 hb1 hC.2.2.2.1 (hC.2.2.2.2.1 _ (qm_hs_in g1)) (hC.2.2.2.2.1 _ (qm_hs_in g2)) (hC.2.2.2.2.1 _ (qm_hs_in g3)) rfl (hl.1.trans hC.2.2.1.symm) rfl hd (Nat.le_trans (Nat.succ_le_succ (Nat.zero_le d')) hdF) ?_ (qm_nx (hn.resolve_left Bool.false_ne_true) (hgo _ _ _ _ _ _ hs) h1 h2 hR hS hl)
          have hlr : 2 * (F0 z.2.2.2.2.2.1 (qm_pc M i) ls ((Value.ref p :: r).map (qm_mv G))).monitorRoom + ((r.map (qm_mv G)).map fun v => v.category).sum ≤ 8 := by
            refine lv_room ?_
            rw [List.map_map]
            refine Nat.le_trans (Nat.le_of_eq ?_) hcat
            congr 1
            exact List.map_congr_left fun v _ => qm_mv_cat G v
          refine Nat.le_trans (Nat.add_le_add_right hlr 12) (Nat.le_trans ?_ hdL)
          omega
    | false =>
      rw [h2m] at hs hx
      rw [cond_false] at hs hx
      unfold qm_clsOK at hx
      obtain ⟨as, r, rfl, hlen, hcat, hs⟩ := qm_cse hs
      obtain ⟨p, as', rfl, hs⟩ := qm_c1e hs
      rw [Bool.and_eq_true, Bool.and_eq_true, Bool.and_eq_true, Bool.and_eq_true, Bool.and_eq_true, Bool.and_eq_true, Bool.and_eq_true, decide_eq_true_eq, decide_eq_true_eq, decide_eq_true_eq, decide_eq_true_eq, Bool.or_eq_true] at hx
      obtain ⟨⟨g1, g2, g3, g4, g5⟩, g6, ⟨g7, g8⟩, g9⟩ := hx
      intro H locs ls h1 h2 hR hS hl
      match d, hdF, hdL, hs with
      | d' + 1, hdF, hdL, ⟨C1, S1, Q1, hE, ⟨k1, k2⟩, hk⟩ =>
        have kk : ∀ (v : Option Value) (h' : qm_H) (H1 : Heap) (locs1 : List Loc), Q1 v h' → qm_Rep G h' H1 → va_S (qm_A G) (qm_S z).heap H1 locs1 → qm_W z H1 locs1 (c + C1) (s + S1) (F0 z.2.2.2.2.2.1 (qm_pc M i + 3) ls ((v.map (qm_mv G)).toList ++ r.map (qm_mv G))) := by
          intro v h' H1 locs1 hq hR1 hS1
          have := qm_nx (hn.resolve_left Bool.false_ne_true) (hgo _ _ _ _ _ _ (hk v h' hq)) (Nat.le_trans k1 hCR) (Nat.le_trans k2 hSR) hR1 hS1 hl
          rw [List.map_append] at this
          cases v <;> exact this
        have e1 : (Value.ref p :: as').reverse ++ r = as'.reverse ++ .ref p :: r := by simp
        rw [e1]
        rcases g9 with g9 | g9
        · exact qm_speW hC hR hS ⟨qm_hs_in g1, qm_hs_in g2, g3, g4, qm_hs_in g9, g5⟩ g8 (qm_hs_in g6) g7 hdF hdL hE (Nat.succ.inj hlen) hl.1 hcat (Nat.le_trans k1 hCR) (Nat.le_trans k2 hSR) hd kk
        · exact qm_speNW hC hR hS ⟨qm_hs_in g1, qm_hs_in g2, g3, g4, qm_hn_in g9, g5⟩ g8 (qm_hs_in g6) g7 hdF hdL hE (Nat.succ.inj hlen) hl.1 hcat (Nat.le_trans k1 hCR) (Nat.le_trans k2 hSR) hd kk
  | _ => exact hs.elim
/-- the walk over at most n instructions, up to the next one of those at which it stops -/
def qm_wp (G : qm_G) (b : Bool) (M : qm_M) (z : qm_Z) (d C S : Nat) (uQ : Option Value → qm_H → Prop) (stops : List Nat) (n : Nat) : Nat → Nat → Nat → qm_L → List Value → qm_H → Prop := Nat.rec (fun i c s L st h => qm_PW G M z i c s L st h) (fun _ ih i c s L st h => match M.2.2[i]? with
  | some e => qm_step G b M d C S uQ (fun j c s L st h => bif stops.elem j then qm_PW G M z j c s L st h else ih j c s L st h) i c s L st h e
  | none => False) n
theorem qm_wp_ok (hA : qm_At G b M z d C S uQ) (stops : List Nat) : ∀ (n i c s : Nat) (L : qm_L) (st : List Value) (h : qm_H), qm_wp G b M z d C S uQ stops n i c s L st h → qm_PW G M z i c s L st h
  | 0, i, c, s, L, st, h, k => k
  | n + 1, i, c, s, L, st, h, k => by
    have k' : (match M.2.2[i]? with
      | some e => qm_step G b M d C S uQ (fun j c s L st h => bif stops.elem j then qm_PW G M z j c s L st h else qm_wp G b M z d C S uQ stops n j c s L st h) i c s L st h e
      | none => False) := k
    cases hi : M.2.2[i]? with
    | none => rw [hi] at k'; exact k'.elim
    | some e =>
      rw [hi] at k'
      refine qm_step_ok hA hi (fun j c s L st h q => ?_) k'
      cases hj : stops.elem j with
      | true => rw [hj] at q; exact q
      | false => rw [hj] at q; exact qm_wp_ok hA stops n j c s L st h q
/-- A CONTRACT, by a walk with wp -/
theorem qm_Ev.by {as : List Value} (hok : qm_okM M = true) (hn : (qm_in as).length ≤ M.2.1.2.2.1) (hb : G.2.2.2.2 = b)
    (body : ∀ z : qm_Z, qm_At G b M z d C S uQ → qm_PW G M z 0 0 0 (qm_L0 M.2.1.2.2.1 as) [] h) : qm_Ev G d C S M.2.1 as h uQ := by
  have h1 := hok
  unfold qm_okM at h1
  rw [Bool.and_eq_true, Bool.and_eq_true, Bool.and_eq_true, decide_eq_true_eq, decide_eq_true_eq] at h1
  refine qm_Ev.intro M h1.2.1 h1.2.2.1 hn h1.2.2.2 (fun z hC hR hZ => body z ⟨hC, hb, ?_, Or.inl hZ, hok⟩)
  rw [hR]
  exact ⟨Nat.le_refl _, Nat.le_refl _, Nat.le_refl _, Nat.le_refl _⟩
end Sound
end
section
/-! the methods: names with code, locals, answer -/
def qm_d0 : qm_CI := (⟨"", "", ""⟩, ⟨#[]⟩, 0, none)
def qyX9_init : qm_CI := (yX9_init, cX9_init, 1, none)
def qyX9_feed : qm_CI := (yX9_feed, cX9_feed, 6, some .int)
def qyX9_end : qm_CI := (yX9_end, cX9_end, 2, some .int)
def qyX9_text : qm_CI := (yX9_text, cX9_text, 6, some .int)
def qyX9_fault : qm_CI := (yX9_fault, cX9_fault, 2, some .int)
def qyX9_town : qm_CI := (yX9_town, cX9_town, 4, some .int)
def qyX9_deed : qm_CI := (yX9_deed, cX9_deed, 5, some .int)
def qyX9_till : qm_CI := (yX9_till, cX9_till, 5, some .int)
def qyX9_state : qm_CI := (yX9_state, cX9_state, 7, some .int)
def qyX9_tellings : qm_CI := (yX9_tellings, cX9_tellings, 5, some .int)
def qyX9_message : qm_CI := (yX9_message, cX9_message, 5, some .int)
def qyX9_bell : qm_CI := (yX9_bell, cX9_bell, 4, some .int)
def qyX9_weddings : qm_CI := (yX9_weddings, cX9_weddings, 4, some .int)
def qyX9_code : qm_CI := (yX9_code, cX9_code, 3, some .int)
def qyX9_save : qm_CI := (yX9_save, cX9_save, 9, some .long)
def qyX9_byTurns : qm_CI := (yX9_byTurns, cX9_byTurns, 5, some .int)
def qyX9_fact : qm_CI := (yX9_fact, cX9_fact, 5, some .int)
def qyX9_fits : qm_CI := (yX9_fits, cX9_fits, 8, some .int)
def qyX9_drawn : qm_CI := (yX9_drawn, cX9_drawn, 6, some .int)
def qyX9_roots : qm_CI := (yX9_roots, cX9_roots, 4, some .int)
def qyX9_chain : qm_CI := (yX9_chain, cX9_chain, 4, some .int)
def qyX9_reach : qm_CI := (yX9_reach, cX9_reach, 4, some .int)
def qyX9_learnt : qm_CI := (yX9_learnt, cX9_learnt, 5, some .int)
def qyX9_best : qm_CI := (yX9_best, cX9_best, 5, some .int)
def qyX9_sales : qm_CI := (yX9_sales, cX9_sales, 4, some .int)
def qyX9_luck : qm_CI := (yX9_luck, cX9_luck, 5, some .long)
def qyX9_after : qm_CI := (yX9_after, cX9_after, 6, some .int)
def qyX9_share : qm_CI := (yX9_share, cX9_share, 9, some .long)
def qyX9_fewest : qm_CI := (yX9_fewest, cX9_fewest, 8, some .int)
def qyX9_count : qm_CI := (yX9_count, cX9_count, 2, some .int)
def qyX9_image : qm_CI := (yX9_image, cX9_image, 3, some .boolean)
def qyX9_again : qm_CI := (yX9_again, cX9_again, 3, some .boolean)
def qyX9_isFact : qm_CI := (yX9_isFact, cX9_isFact, 1, some .boolean)
def qyX9_isRowIndex : qm_CI := (yX9_isRowIndex, cX9_isRowIndex, 2, some .boolean)
def qyX9_isIn : qm_CI := (yX9_isIn, cX9_isIn, 2, some .boolean)
def qyX9_greatest : qm_CI := (yX9_greatest, cX9_greatest, 6, some .int)
def qyX10_init : qm_CI := (yX10_init, cX10_init, 1, none)
def qyX10_in : qm_CI := (yX10_in, cX10_in, 3, some .boolean)
def qyX10_has : qm_CI := (yX10_has, cX10_has, 2, some .boolean)
def qyX10_greater : qm_CI := (yX10_greater, cX10_greater, 2, some .int)
def qyX10_lesser : qm_CI := (yX10_lesser, cX10_lesser, 2, some .int)
def qyX10_ones : qm_CI := (yX10_ones, cX10_ones, 3, some .int)
def qyX10_copyRow : qm_CI := (yX10_copyRow, cX10_copyRow, 5, none)
def qyX10_copyAll : qm_CI := (yX10_copyAll, cX10_copyAll, 4, none)
def qyX10_is : qm_CI := (yX10_is, cX10_is, 3, some .boolean)
def qyX10_feed : qm_CI := (yX10_feed, cX10_feed, 6, some .int)
def qyX10_four : qm_CI := (yX10_four, cX10_four, 3, none)
def qyX10_end : qm_CI := (yX10_end, cX10_end, 2, some .int)
def qyX10_see : qm_CI := (yX10_see, cX10_see, 1, some .int)
def qyX10_token : qm_CI := (yX10_token, cX10_token, 3, none)
def qyX10_fails : qm_CI := (yX10_fails, cX10_fails, 1, some .boolean)
def qyX10_later : qm_CI := (yX10_later, cX10_later, 3, none)
def qyX10_takeBut : qm_CI := (yX10_takeBut, cX10_takeBut, 5, some .boolean)
def qyX10_take : qm_CI := (yX10_take, cX10_take, 4, some .boolean)
def qyX10_full : qm_CI := (yX10_full, cX10_full, 4, none)
def qyX10_personLine : qm_CI := (yX10_personLine, cX10_personLine, 2, some .boolean)
def qyX10_twoLine : qm_CI := (yX10_twoLine, cX10_twoLine, 4, some .boolean)
def qyX10_townLine : qm_CI := (yX10_townLine, cX10_townLine, 4, some .boolean)
def qyX10_keepRow : qm_CI := (yX10_keepRow, cX10_keepRow, 5, none)
def qyX10_yearLine : qm_CI := (yX10_yearLine, cX10_yearLine, 5, some .boolean)
def qyX10_logLine : qm_CI := (yX10_logLine, cX10_logLine, 4, some .boolean)
def qyX10_lines : qm_CI := (yX10_lines, cX10_lines, 6, some .boolean)
def qyX10_close : qm_CI := (yX10_close, cX10_close, 4, none)
def qyX10_readText : qm_CI := (yX10_readText, cX10_readText, 3, some .boolean)
def qyX10_store : qm_CI := (yX10_store, cX10_store, 5, none)
def qyX10_text : qm_CI := (yX10_text, cX10_text, 4, some .int)
def qyX10_fault : qm_CI := (yX10_fault, cX10_fault, 2, some .int)
def qyX10_of : qm_CI := (yX10_of, cX10_of, 2, some .int)
def qyX10_hand : qm_CI := (yX10_hand, cX10_hand, 3, some .boolean)
def qyX10_isPerson : qm_CI := (yX10_isPerson, cX10_isPerson, 2, some .boolean)
def qyX10_whole : qm_CI := (yX10_whole, cX10_whole, 2, some .int)
def qyX10_hears : qm_CI := (yX10_hears, cX10_hears, 3, some .boolean)
def qyX10_worthOf : qm_CI := (yX10_worthOf, cX10_worthOf, 4, some .int)
def qyX10_town : qm_CI := (yX10_town, cX10_town, 4, some .int)
def qyX10_deeds : qm_CI := (yX10_deeds, cX10_deeds, 1, some .int)
def qyX10_deedOf : qm_CI := (yX10_deedOf, cX10_deedOf, 3, some .int)
def qyX10_hasYear : qm_CI := (yX10_hasYear, cX10_hasYear, 2, some .boolean)
def qyX10_deed : qm_CI := (yX10_deed, cX10_deed, 4, some .int)
def qyX10_learns : qm_CI := (yX10_learns, cX10_learns, 3, none)
def qyX10_tells : qm_CI := (yX10_tells, cX10_tells, 4, some .boolean)
def qyX10_asks : qm_CI := (yX10_asks, cX10_asks, 4, none)
def qyX10_sells : qm_CI := (yX10_sells, cX10_sells, 4, some .boolean)
def qyX10_eve : qm_CI := (yX10_eve, cX10_eve, 2, none)
def qyX10_does : qm_CI := (yX10_does, cX10_does, 5, some .boolean)
def qyX10_doesDeed : qm_CI := (yX10_doesDeed, cX10_doesDeed, 2, some .boolean)
def qyX10_play : qm_CI := (yX10_play, cX10_play, 3, some .int)
def qyX10_layAll : qm_CI := (yX10_layAll, cX10_layAll, 3, some .boolean)
def qyX10_till : qm_CI := (yX10_till, cX10_till, 3, some .int)
def qyX10_ofState : qm_CI := (yX10_ofState, cX10_ofState, 3, some .int)
def qyX10_state : qm_CI := (yX10_state, cX10_state, 5, some .int)
def qyX10_knowers : qm_CI := (yX10_knowers, cX10_knowers, 4, some .int)
def qyX10_toldBy : qm_CI := (yX10_toldBy, cX10_toldBy, 5, some .int)
def qyX10_findLeft : qm_CI := (yX10_findLeft, cX10_findLeft, 6, none)
def qyX10_tellings : qm_CI := (yX10_tellings, cX10_tellings, 8, some .int)
def qyX10_message : qm_CI := (yX10_message, cX10_message, 5, some .int)
def qyX10_layRow : qm_CI := (yX10_layRow, cX10_layRow, 4, some .boolean)
def qyX10_learntByRow : qm_CI := (yX10_learntByRow, cX10_learntByRow, 5, some .int)
def qyX10_rows : qm_CI := (yX10_rows, cX10_rows, 3, some .int)
def qyX10_bell : qm_CI := (yX10_bell, cX10_bell, 8, some .int)
def qyX10_couple : qm_CI := (yX10_couple, cX10_couple, 5, some .int)
def qyX10_coupleBy : qm_CI := (yX10_coupleBy, cX10_coupleBy, 6, some .int)
def qyX10_findCouples : qm_CI := (yX10_findCouples, cX10_findCouples, 6, none)
def qyX10_layCouples : qm_CI := (yX10_layCouples, cX10_layCouples, 5, none)
def qyX10_weddings : qm_CI := (yX10_weddings, cX10_weddings, 3, some .int)
def qyX10_leastHeap : qm_CI := (yX10_leastHeap, cX10_leastHeap, 5, some .int)
def qyX10_code : qm_CI := (yX10_code, cX10_code, 6, some .int)
def qyX10_common : qm_CI := (yX10_common, cX10_common, 10, some .long)
def qyX10_part : qm_CI := (yX10_part, cX10_part, 5, some .long)
def qyX10_save : qm_CI := (yX10_save, cX10_save, 14, some .long)
def qyX10_allEnds : qm_CI := (yX10_allEnds, cX10_allEnds, 3, some .int)
def qyX10_forget : qm_CI := (yX10_forget, cX10_forget, 2, none)
def qyX10_nowTold : qm_CI := (yX10_nowTold, cX10_nowTold, 6, some .int)
def qyX10_endOf : qm_CI := (yX10_endOf, cX10_endOf, 10, some .int)
def qyX10_fold : qm_CI := (yX10_fold, cX10_fold, 6, some .int)
def qyX10_byTurns : qm_CI := (yX10_byTurns, cX10_byTurns, 7, some .int)
def qyX10_lineOf : qm_CI := (yX10_lineOf, cX10_lineOf, 3, some .int)
def qyX10_linesOf : qm_CI := (yX10_linesOf, cX10_linesOf, 1, some .int)
def qyX10_hasLog : qm_CI := (yX10_hasLog, cX10_hasLog, 2, some .boolean)
def qyX10_fact : qm_CI := (yX10_fact, cX10_fact, 4, some .int)
def qyX10_closed : qm_CI := (yX10_closed, cX10_closed, 4, some .int)
def qyX10_isFit : qm_CI := (yX10_isFit, cX10_isFit, 4, some .boolean)
def qyX10_layLog : qm_CI := (yX10_layLog, cX10_layLog, 4, some .boolean)
def qyX10_manyHave : qm_CI := (yX10_manyHave, cX10_manyHave, 4, some .int)
def qyX10_sure : qm_CI := (yX10_sure, cX10_sure, 3, some .int)
def qyX10_next : qm_CI := (yX10_next, cX10_next, 5, some .int)
def qyX10_whose : qm_CI := (yX10_whose, cX10_whose, 3, some .int)
def qyX10_fits : qm_CI := (yX10_fits, cX10_fits, 4, some .int)
def qyX10_draw : qm_CI := (yX10_draw, cX10_draw, 2, some .int)
def qyX10_drawDeed : qm_CI := (yX10_drawDeed, cX10_drawDeed, 4, none)
def qyX10_drawn : qm_CI := (yX10_drawn, cX10_drawn, 6, some .int)
def qyX10_rootSet : qm_CI := (yX10_rootSet, cX10_rootSet, 4, some .int)
def qyX10_ringOf : qm_CI := (yX10_ringOf, cX10_ringOf, 4, some .int)
def qyX10_rings : qm_CI := (yX10_rings, cX10_rings, 5, some .int)
def qyX10_closedOnes : qm_CI := (yX10_closedOnes, cX10_closedOnes, 3, some .int)
def qyX10_dearest : qm_CI := (yX10_dearest, cX10_dearest, 3, some .int)
def qyX10_knownBy : qm_CI := (yX10_knownBy, cX10_knownBy, 4, some .int)
def qyX10_roots : qm_CI := (yX10_roots, cX10_roots, 3, some .int)
def qyX10_chainBy : qm_CI := (yX10_chainBy, cX10_chainBy, 5, some .int)
def qyX10_findChains : qm_CI := (yX10_findChains, cX10_findChains, 5, none)
def qyX10_chain : qm_CI := (yX10_chain, cX10_chain, 8, some .int)
def qyX10_reachOf : qm_CI := (yX10_reachOf, cX10_reachOf, 5, some .int)
def qyX10_hearers : qm_CI := (yX10_hearers, cX10_hearers, 4, some .int)
def qyX10_loudest : qm_CI := (yX10_loudest, cX10_loudest, 3, some .int)
def qyX10_deaf : qm_CI := (yX10_deaf, cX10_deaf, 3, some .int)
def qyX10_choir : qm_CI := (yX10_choir, cX10_choir, 5, some .int)
def qyX10_twins : qm_CI := (yX10_twins, cX10_twins, 4, some .int)
def qyX10_knownOf : qm_CI := (yX10_knownOf, cX10_knownOf, 4, some .int)
def qyX10_cover : qm_CI := (yX10_cover, cX10_cover, 5, some .int)
def qyX10_reach : qm_CI := (yX10_reach, cX10_reach, 3, some .int)
def qyX10_learntOf : qm_CI := (yX10_learntOf, cX10_learntOf, 5, some .int)
def qyX10_learnt : qm_CI := (yX10_learnt, cX10_learnt, 4, some .int)
def qyX10_bestOf : qm_CI := (yX10_bestOf, cX10_bestOf, 7, some .int)
def qyX10_best : qm_CI := (yX10_best, cX10_best, 4, some .int)
def qyX10_sales : qm_CI := (yX10_sales, cX10_sales, 3, some .int)
def qyX10_luck : qm_CI := (yX10_luck, cX10_luck, 10, some .long)
def qyX10_most : qm_CI := (yX10_most, cX10_most, 7, some .int)
def qyX10_after : qm_CI := (yX10_after, cX10_after, 7, some .int)
def qyX10_share : qm_CI := (yX10_share, cX10_share, 5, some .long)
def qyX10_fewest : qm_CI := (yX10_fewest, cX10_fewest, 6, some .int)
def qyX10_count : qm_CI := (yX10_count, cX10_count, 2, some .int)
def qyX10_image : qm_CI := (yX10_image, cX10_image, 2, some .boolean)
def qyX10_again : qm_CI := (yX10_again, cX10_again, 2, some .boolean)
def qyX0_sumOfBetter : qm_CI := (yX0_sumOfBetter, cX0_sumOfBetter, 8, some .long)
def qyX0_upward : qm_CI := (yX0_upward, cX0_upward, 4, some .long)
def qyX0_part : qm_CI := (yX0_part, cX0_part, 7, some .long)
def qyX0_commonOf : qm_CI := (yX0_commonOf, cX0_commonOf, 11, some .long)
def qyX1_init : qm_CI := (yX1_init, cX1_init, 1, none)
def qyX1_begin : qm_CI := (yX1_begin, cX1_begin, 2, none)
def qyX1_playAll : qm_CI := (yX1_playAll, cX1_playAll, 3, none)
def qyX1_play : qm_CI := (yX1_play, cX1_play, 6, none)
def qyX1_goes : qm_CI := (yX1_goes, cX1_goes, 7, some .boolean)
def qyX1_passEve : qm_CI := (yX1_passEve, cX1_passEve, 2, none)
def qyX1_sells : qm_CI := (yX1_sells, cX1_sells, 5, some .boolean)
def qyX1_speaks : qm_CI := (yX1_speaks, cX1_speaks, 5, some .boolean)
def qyX1_tells : qm_CI := (yX1_tells, cX1_tells, 5, some .boolean)
def qyX1_asks : qm_CI := (yX1_asks, cX1_asks, 6, none)
def qyX1_learns : qm_CI := (yX1_learns, cX1_learns, 4, none)
def qyX1_drawFrom : qm_CI := (yX1_drawFrom, cX1_drawFrom, 5, none)
def qyX1_drawDeed : qm_CI := (yX1_drawDeed, cX1_drawDeed, 4, none)
def qyX1_drawSale : qm_CI := (yX1_drawSale, cX1_drawSale, 4, none)
def qyX1_below : qm_CI := (yX1_below, cX1_below, 2, some .int)
def qyX1_answer : qm_CI := (yX1_answer, cX1_answer, 3, some .int)
def qyX1_wisest : qm_CI := (yX1_wisest, cX1_wisest, 6, some .int)
def qyX2_init : qm_CI := (yX2_init, cX2_init, 1, none)
def qyX2_read : qm_CI := (yX2_read, cX2_read, 7, none)
def qyX2_readLine : qm_CI := (yX2_readLine, cX2_readLine, 7, some .boolean)
def qyX2_countLine : qm_CI := (yX2_countLine, cX2_countLine, 3, none)
def qyX2_mostOf : qm_CI := (yX2_mostOf, cX2_mostOf, 2, some .int)
def qyX2_isTheFirstAgain : qm_CI := (yX2_isTheFirstAgain, cX2_isTheFirstAgain, 5, some .boolean)
def qyX2_refuse : qm_CI := (yX2_refuse, cX2_refuse, 1, some .boolean)
def qyX2_blame : qm_CI := (yX2_blame, cX2_blame, 3, none)
def qyX2_tellsOfMissing : qm_CI := (yX2_tellsOfMissing, cX2_tellsOfMissing, 3, some .boolean)
def qyX2_nextToken : qm_CI := (yX2_nextToken, cX2_nextToken, 3, none)
def qyX2_readNumber : qm_CI := (yX2_readNumber, cX2_readNumber, 3, none)
def qyX2_isLetter : qm_CI := (yX2_isLetter, cX2_isLetter, 1, some .boolean)
def qyX2_isDigit : qm_CI := (yX2_isDigit, cX2_isDigit, 1, some .boolean)
def qyX2_wordOf : qm_CI := (yX2_wordOf, cX2_wordOf, 4, some .int)
def qyX2_isWritten : qm_CI := (yX2_isWritten, cX2_isWritten, 4, some .boolean)
def qyX2_nameOf : qm_CI := (yX2_nameOf, cX2_nameOf, 1, some (.object "java/lang/String"))
def qyX2_toTown : qm_CI := (yX2_toTown, cX2_toTown, 3, some (.object "OneStatement$Town"))
def qyX2_toRows : qm_CI := (yX2_toRows, cX2_toRows, 4, some (.object "OneStatement$Rows"))
def qyX3_init : qm_CI := (yX3_init, cX3_init, 2, none)
def qyX3_at : qm_CI := (yX3_at, cX3_at, 3, some .int)
def qyX3_answer : qm_CI := (yX3_answer, cX3_answer, 4, some .int)
def qyX4_init : qm_CI := (yX4_init, cX4_init, 1, none)
def qyX4_found : qm_CI := (yX4_found, cX4_found, 2, some .int)
def qyX4_keep : qm_CI := (yX4_keep, cX4_keep, 2, none)
def qyX4_ring : qm_CI := (yX4_ring, cX4_ring, 3, none)
def qyX4_ringFrom : qm_CI := (yX4_ringFrom, cX4_ringFrom, 5, none)
def qyX4_hearFrom : qm_CI := (yX4_hearFrom, cX4_hearFrom, 9, some .int)
def qyX4_wed : qm_CI := (yX4_wed, cX4_wed, 4, none)
def qyX4_trade : qm_CI := (yX4_trade, cX4_trade, 5, none)
def qyX4_pairFrom : qm_CI := (yX4_pairFrom, cX4_pairFrom, 7, none)
def qyX4_link : qm_CI := (yX4_link, cX4_link, 2, none)
def qyX4_linkFrom : qm_CI := (yX4_linkFrom, cX4_linkFrom, 6, none)
def qyX4_takeTurns : qm_CI := (yX4_takeTurns, cX4_takeTurns, 3, none)
def qyX4_leadOf : qm_CI := (yX4_leadOf, cX4_leadOf, 11, some .int)
def qyX4_leadBy : qm_CI := (yX4_leadBy, cX4_leadBy, 8, some .int)
def qyX5_fitting : qm_CI := (yX5_fitting, cX5_fitting, 6, some .long)
def qyX5_inAll : qm_CI := (yX5_inAll, cX5_inAll, 4, some .int)
def qyX5_halving : qm_CI := (yX5_halving, cX5_halving, 6, some .int)
def qyX5_whose : qm_CI := (yX5_whose, cX5_whose, 5, some .int)
def qyX5_nth : qm_CI := (yX5_nth, cX5_nth, 5, some .int)
def qyX5_smallest : qm_CI := (yX5_smallest, cX5_smallest, 4, some .int)
def qyX5_largest : qm_CI := (yX5_largest, cX5_largest, 4, some .int)
def qyX5_has : qm_CI := (yX5_has, cX5_has, 3, some .boolean)
def qyX6_init : qm_CI := (yX6_init, cX6_init, 1, none)
def qyX6_tellers : qm_CI := (yX6_tellers, cX6_tellers, 8, some .int)
def qyX6_measure : qm_CI := (yX6_measure, cX6_measure, 7, none)
def qyX6_firstTeller : qm_CI := (yX6_firstTeller, cX6_firstTeller, 4, some .int)
def qyX6_steps : qm_CI := (yX6_steps, cX6_steps, 5, some .int)
def qyX6_withHearers : qm_CI := (yX6_withHearers, cX6_withHearers, 4, some .int)
def qyX6_audience : qm_CI := (yX6_audience, cX6_audience, 4, some .int)
def qyX6_loudest : qm_CI := (yX6_loudest, cX6_loudest, 4, some .int)
def qyX6_deaf : qm_CI := (yX6_deaf, cX6_deaf, 3, some .int)
def qyX6_choir : qm_CI := (yX6_choir, cX6_choir, 3, some .int)
def qyX6_noneHears : qm_CI := (yX6_noneHears, cX6_noneHears, 3, some .boolean)
def qyX6_twins : qm_CI := (yX6_twins, cX6_twins, 4, some .int)
def qyX6_cover : qm_CI := (yX6_cover, cX6_cover, 4, some .int)
def qyX6_knownTogether : qm_CI := (yX6_knownTogether, cX6_knownTogether, 4, some .int)
def qyX7_init : qm_CI := (yX7_init, cX7_init, 1, none)
def qyX7_append : qm_CI := (yX7_append, cX7_append, 3, none)
def qyX7_howMany : qm_CI := (yX7_howMany, cX7_howMany, 2, some .int)
def qyX7_townAt : qm_CI := (yX7_townAt, cX7_townAt, 2, some (.object "OneStatement$Town"))
def qyX7_yearAt : qm_CI := (yX7_yearAt, cX7_yearAt, 2, some (.object "OneStatement$Rows"))
def qyX7_logAt : qm_CI := (yX7_logAt, cX7_logAt, 2, some (.object "OneStatement$Rows"))
def qyX7_put : qm_CI := (yX7_put, cX7_put, 4, none)
def qyX7_become : qm_CI := (yX7_become, cX7_become, 3, none)
def qyX8_init : qm_CI := (yX8_init, cX8_init, 1, none)
def qyX8_take : qm_CI := (yX8_take, cX8_take, 4, none)
def qyX8_settle : qm_CI := (yX8_settle, cX8_settle, 3, none)
def qyX8_has : qm_CI := (yX8_has, cX8_has, 2, some .boolean)
def qyX8_knows : qm_CI := (yX8_knows, cX8_knows, 3, some .boolean)
def qyX8_everyone : qm_CI := (yX8_everyone, cX8_everyone, 1, some .int)
def qyX8_answer : qm_CI := (yX8_answer, cX8_answer, 4, some .int)
def qyX8_withAll : qm_CI := (yX8_withAll, cX8_withAll, 4, some .int)
def qyX8_wholeOf : qm_CI := (yX8_wholeOf, cX8_wholeOf, 2, some .int)
def qyX8_whoKnow : qm_CI := (yX8_whoKnow, cX8_whoKnow, 4, some .int)
def qyX8_knownBy : qm_CI := (yX8_knownBy, cX8_knownBy, 4, some .int)
def qyX8_whole : qm_CI := (yX8_whole, cX8_whole, 2, some .int)
def qyX8_dearest : qm_CI := (yX8_dearest, cX8_dearest, 3, some .int)
def qyX8_rootFacts : qm_CI := (yX8_rootFacts, cX8_rootFacts, 3, some .int)
def qyX8_ringOf : qm_CI := (yX8_ringOf, cX8_ringOf, 4, some .int)
def qyX8_rings : qm_CI := (yX8_rings, cX8_rings, 3, some .int)
def qyX8_largestRing : qm_CI := (yX8_largestRing, cX8_largestRing, 3, some .int)
def qyX8_codeLength : qm_CI := (yX8_codeLength, cX8_codeLength, 4, some .int)
def qyX8_moveLeastTo : qm_CI := (yX8_moveLeastTo, cX8_moveLeastTo, 4, none)
def qyX8_gain : qm_CI := (yX8_gain, cX8_gain, 6, some .int)
def qyX8_bestFact : qm_CI := (yX8_bestFact, cX8_bestFact, 6, some .int)
def qyX8_bestGain : qm_CI := (yX8_bestGain, cX8_bestGain, 3, some .int)
def qyX8_sixtiethsOfLuck : qm_CI := (yX8_sixtiethsOfLuck, cX8_sixtiethsOfLuck, 6, some .long)
def qyJ6_bitCount_0f7a4 : qm_CI := (yJ6_bitCount_0f7a4, cJ6_bitCount_0f7a4, 1, some .int)
def qyJ6_numberOfTrailingZeros_0f7a4 : qm_CI := (yJ6_numberOfTrailingZeros_0f7a4, cJ6_numberOfTrailingZeros_0f7a4, 2, some .int)
def qyJ13_bitCount_95d88 : qm_CI := (yJ13_bitCount_95d88, cJ13_bitCount_95d88, 2, some .int)
def qyJ9_max_7cf53 : qm_CI := (yJ9_max_7cf53, cJ9_max_7cf53, 2, some .int)
def qyJ9_max_f86c9 : qm_CI := (yJ9_max_f86c9, cJ9_max_f86c9, 4, some .long)
def qyJ9_min_7cf53 : qm_CI := (yJ9_min_7cf53, cJ9_min_7cf53, 2, some .int)
def qyJ0_charAt_5068e : qm_CI := (yJ0_charAt_5068e, cJ0_charAt_5068e, 2, some .char)
def qyJ0_checkIndex_df160 : qm_CI := (yJ0_checkIndex_df160, cJ0_checkIndex_df160, 2, none)
def qyJ0_coder_7d493 : qm_CI := (yJ0_coder_7d493, cJ0_coder_7d493, 1, some .byte)
def qyJ0_isLatin1_aae02 : qm_CI := (yJ0_isLatin1_aae02, cJ0_isLatin1_aae02, 1, some .boolean)
def qyJ0_length_8abf5 : qm_CI := (yJ0_length_8abf5, cJ0_length_8abf5, 1, some .int)
def qyJ1_charAt_3b067 : qm_CI := (yJ1_charAt_3b067, cJ1_charAt_3b067, 2, some .char)
def qyJ2_charAt_3b067 : qm_CI := (yJ2_charAt_3b067, cJ2_charAt_3b067, 2, some .char)
def qyJ2_checkIndex_2214a : qm_CI := (yJ2_checkIndex_2214a, cJ2_checkIndex_2214a, 2, none)
def qyJ2_getChar_3b067 : qm_CI := (yJ2_getChar_3b067, cJ2_getChar_3b067, 2, some .char)
def qyJ2_length_9d52b : qm_CI := (yJ2_length_9d52b, cJ2_length_9d52b, 1, some .int)
def qyJ7_fill_53178 : qm_CI := (yJ7_fill_53178, cJ7_fill_53178, 4, none)
end
section
def mX10_init : qm_M := (RX10, qyX10_init, [(0, .aload_n 0, [], (0, 0), qm_d0), (1, .invokespecial 1, [0, 2, 1085, 142, 143], (0, 0), qm_d0), (4, .aload_n 0, [], (0, 0), qm_d0), (5, .sipush (2400), [], (2400, 0), qm_d0), (8, .newarray .byte, [9, 183], (0, 0), qm_d0), (10, .putfield 7, [8, 1, 2, 1088], (0, 0), qm_d0), (13, .aload_n 0, [], (0, 0), qm_d0), (14, .iconst (4), [], (4, 0), qm_d0), (15, .newarray .int, [10, 184], (0, 0), qm_d0), (17, .putfield 13, [8, 2, 2, 1089], (0, 0), qm_d0), (20, .aload_n 0, [], (0, 0), qm_d0), (21, .iconst (4), [], (4, 0), qm_d0), (22, .newarray .int, [10, 184], (0, 0), qm_d0), (24, .putfield 17, [8, 3, 2, 1090], (0, 0), qm_d0), (27, .aload_n 0, [], (0, 0), qm_d0), (28, .iconst (4), [], (4, 0), qm_d0), (29, .newarray .int, [10, 184], (0, 0), qm_d0), (31, .putfield 20, [8, 4, 2, 1091], (0, 0), qm_d0), (34, .aload_n 0, [], (0, 0), qm_d0), (35, .bipush (12), [], (12, 0), qm_d0), (37, .newarray .int, [10, 184], (0, 0), qm_d0), (39, .putfield 23, [8, 5, 2, 1092], (0, 0), qm_d0), (42, .aload_n 0, [], (0, 0), qm_d0), (43, .sipush (248), [], (248, 0), qm_d0), (46, .newarray .int, [10, 184], (0, 0), qm_d0), (48, .putfield 26, [8, 6, 2, 1093], (0, 0), qm_d0), (51, .aload_n 0, [], (0, 0), qm_d0), (52, .sipush (1288), [], (1288, 0), qm_d0), (55, .newarray .int, [10, 184], (0, 0), qm_d0), (57, .putfield 29, [8, 7, 2, 1094], (0, 0), qm_d0), (60, .aload_n 0, [], (0, 0), qm_d0), (61, .sipush (136), [], (136, 0), qm_d0), (64, .newarray .int, [10, 184], (0, 0), qm_d0), (66, .putfield 32, [8, 8, 2, 1095], (0, 0), qm_d0), (69, .aload_n 0, [], (0, 0), qm_d0), (70, .sipush (161), [], (161, 0), qm_d0), (73, .newarray .int, [10, 184], (0, 0), qm_d0), (75, .putfield 35, [8, 18, 2, 1105], (0, 0), qm_d0), (78, .aload_n 0, [], (0, 0), qm_d0), (79, .iconst (4), [], (4, 0), qm_d0), (80, .newarray .int, [10, 184], (0, 0), qm_d0), (82, .putfield 38, [8, 19, 2, 1106], (0, 0), qm_d0), (85, .aload_n 0, [], (0, 0), qm_d0), (86, .bipush (6), [], (6, 0), qm_d0), (88, .newarray .int, [10, 184], (0, 0), qm_d0), (90, .putfield 41, [8, 28, 2, 1115], (0, 0), qm_d0), (93, .aload_n 0, [], (0, 0), qm_d0), (94, .bipush (6), [], (6, 0), qm_d0), (96, .newarray .int, [10, 184], (0, 0), qm_d0), (98, .putfield 44, [8, 29, 2, 1116], (0, 0), qm_d0), (101, .aload_n 0, [], (0, 0), qm_d0), (102, .bipush (6), [], (6, 0), qm_d0), (104, .newarray .int, [10, 184], (0, 0), qm_d0), (106, .putfield 47, [8, 30, 2, 1117], (0, 0), qm_d0), (109, .aload_n 0, [], (0, 0), qm_d0), (110, .bipush (6), [], (6, 0), qm_d0), (112, .newarray .int, [10, 184], (0, 0), qm_d0), (114, .putfield 50, [8, 31, 2, 1118], (0, 0), qm_d0), (117, .aload_n 0, [], (0, 0), qm_d0), (118, .bipush (6), [], (6, 0), qm_d0), (120, .newarray .int, [10, 184], (0, 0), qm_d0), (122, .putfield 53, [8, 32, 2, 1119], (0, 0), qm_d0), (125, .aload_n 0, [], (0, 0), qm_d0), (126, .bipush (6), [], (6, 0), qm_d0), (128, .newarray .int, [10, 184], (0, 0), qm_d0), (130, .putfield 56, [8, 33, 2, 1120], (0, 0), qm_d0), (133, .aload_n 0, [], (0, 0), qm_d0), (134, .bipush (64), [], (64, 0), qm_d0), (136, .newarray .int, [10, 184], (0, 0), qm_d0), (138, .putfield 59, [8, 35, 2, 1122], (0, 0), qm_d0), (141, .aload_n 0, [], (0, 0), qm_d0), (142, .bipush (6), [], (6, 0), qm_d0), (144, .newarray .int, [10, 184], (0, 0), qm_d0), (146, .putfield 62, [8, 36, 2, 1123], (0, 0), qm_d0), (149, .aload_n 0, [], (0, 0), qm_d0), (150, .sipush (448), [], (448, 0), qm_d0), (153, .newarray .int, [10, 184], (0, 0), qm_d0), (155, .putfield 65, [8, 37, 2, 1124], (0, 0), qm_d0), (158, .aload_n 0, [], (0, 0), qm_d0), (159, .bipush (6), [], (6, 0), qm_d0), (161, .newarray .int, [10, 184], (0, 0), qm_d0), (163, .putfield 68, [8, 38, 2, 1125], (0, 0), qm_d0), (166, .aload_n 0, [], (0, 0), qm_d0), (167, .ldc 71, [1086], (50653, 0), qm_d0), (169, .newarray .int, [10, 184], (0, 0), qm_d0), (171, .putfield 72, [8, 39, 2, 1126], (0, 0), qm_d0), (174, .aload_n 0, [], (0, 0), qm_d0), (175, .bipush (64), [], (64, 0), qm_d0), (177, .newarray .int, [10, 184], (0, 0), qm_d0), (179, .putfield 75, [8, 42, 2, 1129], (0, 0), qm_d0), (182, .aload_n 0, [], (0, 0), qm_d0), (183, .sipush (448), [], (448, 0), qm_d0), (186, .newarray .int, [10, 184], (0, 0), qm_d0), (188, .putfield 78, [8, 45, 2, 1132], (0, 0), qm_d0), (191, .aload_n 0, [], (0, 0), qm_d0), (192, .iconst (3), [], (3, 0), qm_d0), (193, .newarray .boolean, [11, 1229], (0, 0), qm_d0), (195, .putfield 81, [8, 46, 2, 1133], (0, 0), qm_d0), (198, .aload_n 0, [], (0, 0), qm_d0), (199, .getfield 20, [8, 4, 2, 1091], (0, 0), qm_d0), (202, .iconst (0), [], (0, 0), qm_d0), (203, .iconst (-1), [], (-1, 0), qm_d0), (204, .iastore, [], (0, 0), qm_d0), (205, .return_, [], (0, 0), qm_d0)])
set_option maxRecDepth 100000 in
theorem okX10_init : qm_okM mX10_init = true := by decide +kernel
def mX10_in : qm_M := (RX10, qyX10_in, [(0, .iload_n 0, [], (0, 0), qm_d0), (1, .iload_n 1, [], (0, 0), qm_d0), (2, .if_icmp .lt (12), [8], (0, 0), qm_d0), (5, .iload_n 0, [], (0, 0), qm_d0), (6, .iload_n 2, [], (0, 0), qm_d0), (7, .if_icmp .gt (7), [8], (0, 0), qm_d0), (10, .iconst (1), [], (1, 0), qm_d0), (11, .goto (4), [9], (0, 0), qm_d0), (14, .iconst (0), [], (0, 0), qm_d0), (15, .ireturn, [], (0, 0), qm_d0)])
set_option maxRecDepth 100000 in
theorem okX10_in : qm_okM mX10_in = true := by decide +kernel
def mX10_has : qm_M := (RX10, qyX10_has, [(0, .iload_n 0, [], (0, 0), qm_d0), (1, .iload_n 1, [], (0, 0), qm_d0), (2, .ishr, [], (0, 0), qm_d0), (3, .iconst (1), [], (1, 0), qm_d0), (4, .iand, [], (0, 0), qm_d0), (5, .iconst (1), [], (1, 0), qm_d0), (6, .if_icmp .ne (7), [9], (0, 0), qm_d0), (9, .iconst (1), [], (1, 0), qm_d0), (10, .goto (4), [10], (0, 0), qm_d0), (13, .iconst (0), [], (0, 0), qm_d0), (14, .ireturn, [], (0, 0), qm_d0)])
set_option maxRecDepth 100000 in
theorem okX10_has : qm_okM mX10_has = true := by decide +kernel
def mX10_greater : qm_M := (RX10, qyX10_greater, [(0, .iload_n 0, [], (0, 0), qm_d0), (1, .iload_n 1, [], (0, 0), qm_d0), (2, .if_icmp .le (7), [5], (0, 0), qm_d0), (5, .iload_n 0, [], (0, 0), qm_d0), (6, .goto (4), [6], (0, 0), qm_d0), (9, .iload_n 1, [], (0, 0), qm_d0), (10, .ireturn, [], (0, 0), qm_d0)])
set_option maxRecDepth 100000 in
theorem okX10_greater : qm_okM mX10_greater = true := by decide +kernel
def mX10_lesser : qm_M := (RX10, qyX10_lesser, [(0, .iload_n 0, [], (0, 0), qm_d0), (1, .iload_n 1, [], (0, 0), qm_d0), (2, .if_icmp .ge (7), [5], (0, 0), qm_d0), (5, .iload_n 0, [], (0, 0), qm_d0), (6, .goto (4), [6], (0, 0), qm_d0), (9, .iload_n 1, [], (0, 0), qm_d0), (10, .ireturn, [], (0, 0), qm_d0)])
set_option maxRecDepth 100000 in
theorem okX10_lesser : qm_okM mX10_lesser = true := by decide +kernel
def mX10_ones : qm_M := (RX10, qyX10_ones, [(0, .iconst (0), [], (0, 0), qm_d0), (1, .istore_n 1, [], (0, 0), qm_d0), (2, .iconst (0), [], (0, 0), qm_d0), (3, .istore_n 2, [], (0, 0), qm_d0), (4, .iload_n 2, [], (0, 0), qm_d0), (5, .bipush (6), [], (6, 0), qm_d0), (7, .if_icmp .ge (25), [19], (0, 0), qm_d0), (10, .iload_n 1, [], (0, 0), qm_d0), (11, .iload_n 0, [], (0, 0), qm_d0), (12, .iload_n 2, [], (0, 0), qm_d0), (13, .invokestatic 89, [2, 0, 1332, 1334, 122, 1333], (0, 0), qyX10_has), (16, .ifCond .eq (7), [14], (0, 0), qm_d0), (19, .iconst (1), [], (1, 0), qm_d0), (20, .goto (4), [15], (0, 0), qm_d0), (23, .iconst (0), [], (0, 0), qm_d0), (24, .iadd, [], (0, 0), qm_d0), (25, .istore_n 1, [], (0, 0), qm_d0), (26, .iinc 2 (1), [], (1, 0), qm_d0), (29, .goto (-25), [4], (0, 0), qm_d0), (32, .iload_n 1, [], (0, 0), qm_d0), (33, .ireturn, [], (0, 0), qm_d0)])
set_option maxRecDepth 100000 in
theorem okX10_ones : qm_okM mX10_ones = true := by decide +kernel
def mX10_copyRow : qm_M := (RX10, qyX10_copyRow, [(0, .iconst (0), [], (0, 0), qm_d0), (1, .istore 4, [], (0, 0), qm_d0), (3, .iload 4, [], (0, 0), qm_d0), (5, .iload_n 1, [], (0, 0), qm_d0), (6, .if_icmp .ge (25), [21], (0, 0), qm_d0), (9, .aload_n 0, [], (0, 0), qm_d0), (10, .iload_n 1, [], (0, 0), qm_d0), (11, .iload_n 3, [], (0, 0), qm_d0), (12, .imul, [], (0, 0), qm_d0), (13, .iload 4, [], (0, 0), qm_d0), (15, .iadd, [], (0, 0), qm_d0), (16, .aload_n 0, [], (0, 0), qm_d0), (17, .iload_n 1, [], (0, 0), qm_d0), (18, .iload_n 2, [], (0, 0), qm_d0), (19, .imul, [], (0, 0), qm_d0), (20, .iload 4, [], (0, 0), qm_d0), (22, .iadd, [], (0, 0), qm_d0), (23, .iaload, [10], (0, 0), qm_d0), (24, .iastore, [], (0, 0), qm_d0), (25, .iinc 4 (1), [], (1, 0), qm_d0), (28, .goto (-25), [2], (0, 0), qm_d0), (31, .return_, [], (0, 0), qm_d0)])
set_option maxRecDepth 100000 in
theorem okX10_copyRow : qm_okM mX10_copyRow = true := by decide +kernel
def mX10_copyAll : qm_M := (RX10, qyX10_copyAll, [(0, .iconst (0), [], (0, 0), qm_d0), (1, .istore_n 3, [], (0, 0), qm_d0), (2, .iload_n 3, [], (0, 0), qm_d0), (3, .sipush (600), [], (600, 0), qm_d0), (6, .if_icmp .ge (33), [23], (0, 0), qm_d0), (9, .aload_n 0, [], (0, 0), qm_d0), (10, .getfield 7, [8, 1, 2, 1088], (0, 0), qm_d0), (13, .sipush (600), [], (600, 0), qm_d0), (16, .iload_n 2, [], (0, 0), qm_d0), (17, .imul, [], (0, 0), qm_d0), (18, .iload_n 3, [], (0, 0), qm_d0), (19, .iadd, [], (0, 0), qm_d0), (20, .aload_n 0, [], (0, 0), qm_d0), (21, .getfield 7, [8, 1, 2, 1088], (0, 0), qm_d0), (24, .sipush (600), [], (600, 0), qm_d0), (27, .iload_n 1, [], (0, 0), qm_d0), (28, .imul, [], (0, 0), qm_d0), (29, .iload_n 3, [], (0, 0), qm_d0), (30, .iadd, [], (0, 0), qm_d0), (31, .baload, [9], (0, 0), qm_d0), (32, .bastore, [9], (0, 0), qm_d0), (33, .iinc 3 (1), [], (1, 0), qm_d0), (36, .goto (-34), [2], (0, 0), qm_d0), (39, .aload_n 0, [], (0, 0), qm_d0), (40, .getfield 13, [8, 2, 2, 1089], (0, 0), qm_d0), (43, .iconst (1), [], (1, 0), qm_d0), (44, .iload_n 1, [], (0, 0), qm_d0), (45, .iload_n 2, [], (0, 0), qm_d0), (46, .invokestatic 93, [4, 0, 1731, 1733, 122, 1732], (0, 0), qyX10_copyRow), (49, .aload_n 0, [], (0, 0), qm_d0), (50, .getfield 17, [8, 3, 2, 1090], (0, 0), qm_d0), (53, .iconst (1), [], (1, 0), qm_d0), (54, .iload_n 1, [], (0, 0), qm_d0), (55, .iload_n 2, [], (0, 0), qm_d0), (56, .invokestatic 93, [4, 0, 1731, 1733, 122, 1732], (0, 0), qyX10_copyRow), (59, .aload_n 0, [], (0, 0), qm_d0), (60, .getfield 20, [8, 4, 2, 1091], (0, 0), qm_d0), (63, .iconst (1), [], (1, 0), qm_d0), (64, .iload_n 1, [], (0, 0), qm_d0), (65, .iload_n 2, [], (0, 0), qm_d0), (66, .invokestatic 93, [4, 0, 1731, 1733, 122, 1732], (0, 0), qyX10_copyRow), (69, .aload_n 0, [], (0, 0), qm_d0), (70, .getfield 23, [8, 5, 2, 1092], (0, 0), qm_d0), (73, .iconst (3), [], (3, 0), qm_d0), (74, .iload_n 1, [], (0, 0), qm_d0), (75, .iload_n 2, [], (0, 0), qm_d0), (76, .invokestatic 93, [4, 0, 1731, 1733, 122, 1732], (0, 0), qyX10_copyRow), (79, .aload_n 0, [], (0, 0), qm_d0), (80, .getfield 26, [8, 6, 2, 1093], (0, 0), qm_d0), (83, .bipush (62), [], (62, 0), qm_d0), (85, .iload_n 1, [], (0, 0), qm_d0), (86, .iload_n 2, [], (0, 0), qm_d0), (87, .invokestatic 93, [4, 0, 1731, 1733, 122, 1732], (0, 0), qyX10_copyRow), (90, .aload_n 0, [], (0, 0), qm_d0), (91, .getfield 29, [8, 7, 2, 1094], (0, 0), qm_d0), (94, .sipush (322), [], (322, 0), qm_d0), (97, .iload_n 1, [], (0, 0), qm_d0), (98, .iload_n 2, [], (0, 0), qm_d0), (99, .invokestatic 93, [4, 0, 1731, 1733, 122, 1732], (0, 0), qyX10_copyRow), (102, .aload_n 0, [], (0, 0), qm_d0), (103, .getfield 32, [8, 8, 2, 1095], (0, 0), qm_d0), (106, .bipush (34), [], (34, 0), qm_d0), (108, .iload_n 1, [], (0, 0), qm_d0), (109, .iload_n 2, [], (0, 0), qm_d0), (110, .invokestatic 93, [4, 0, 1731, 1733, 122, 1732], (0, 0), qyX10_copyRow), (113, .return_, [], (0, 0), qm_d0)])
set_option maxRecDepth 100000 in
theorem okX10_copyAll : qm_okM mX10_copyAll = true := by decide +kernel
def mX10_is : qm_M := (RX10, qyX10_is, [(0, .iload_n 2, [], (0, 0), qm_d0), (1, .iconst (0), [], (0, 0), qm_d0), (2, .aload_n 0, [], (0, 0), qm_d0), (3, .getfield 23, [8, 5, 2, 1092], (0, 0), qm_d0), (6, .iload_n 1, [], (0, 0), qm_d0), (7, .iaload, [10], (0, 0), qm_d0), (8, .iconst (1), [], (1, 0), qm_d0), (9, .isub, [], (0, 0), qm_d0), (10, .invokestatic 97, [3, 0, 1242, 1244, 122, 1243], (0, 0), qyX10_in), (13, .ireturn, [], (0, 0), qm_d0)])
set_option maxRecDepth 100000 in
theorem okX10_is : qm_okM mX10_is = true := by decide +kernel
def mX10_feed : qm_M := (RX10, qyX10_feed, [(0, .aload_n 0, [], (0, 0), qm_d0), (1, .iconst (0), [], (0, 0), qm_d0), (2, .putfield 85, [8, 0, 0, 1087], (0, 0), qm_d0), (5, .aload_n 0, [], (0, 0), qm_d0), (6, .getfield 13, [8, 2, 2, 1089], (0, 0), qm_d0), (9, .iconst (0), [], (0, 0), qm_d0), (10, .iaload, [10], (0, 0), qm_d0), (11, .bipush (20), [], (20, 0), qm_d0), (13, .iadd, [], (0, 0), qm_d0), (14, .sipush (600), [], (600, 0), qm_d0), (17, .if_icmp .le (5), [13], (0, 0), qm_d0), (20, .iconst (-1), [], (-1, 0), qm_d0), (21, .ireturn, [], (0, 0), qm_d0), (22, .aload_n 0, [], (0, 0), qm_d0), (23, .iload_n 1, [], (0, 0), qm_d0), (24, .invokevirtual 101, [1, 8, 1234, 1237, 122, 1236, 30], (0, 0), qyX10_four), (27, .aload_n 0, [], (0, 0), qm_d0), (28, .iload_n 2, [], (0, 0), qm_d0), (29, .invokevirtual 101, [1, 8, 1234, 1237, 122, 1236, 30], (0, 0), qyX10_four), (32, .aload_n 0, [], (0, 0), qm_d0), (33, .iload_n 3, [], (0, 0), qm_d0), (34, .invokevirtual 101, [1, 8, 1234, 1237, 122, 1236, 30], (0, 0), qyX10_four), (37, .aload_n 0, [], (0, 0), qm_d0), (38, .iload 4, [], (0, 0), qm_d0), (40, .invokevirtual 101, [1, 8, 1234, 1237, 122, 1236, 30], (0, 0), qyX10_four), (43, .aload_n 0, [], (0, 0), qm_d0), (44, .iload 5, [], (0, 0), qm_d0), (46, .invokevirtual 101, [1, 8, 1234, 1237, 122, 1236, 30], (0, 0), qyX10_four), (49, .aload_n 0, [], (0, 0), qm_d0), (50, .getfield 13, [8, 2, 2, 1089], (0, 0), qm_d0), (53, .iconst (0), [], (0, 0), qm_d0), (54, .iaload, [10], (0, 0), qm_d0), (55, .ireturn, [], (0, 0), qm_d0)])
set_option maxRecDepth 100000 in
theorem okX10_feed : qm_okM mX10_feed = true := by decide +kernel
def mX10_four : qm_M := (RX10, qyX10_four, [(0, .bipush (24), [], (24, 0), qm_d0), (2, .istore_n 2, [], (0, 0), qm_d0), (3, .iload_n 2, [], (0, 0), qm_d0), (4, .ifCond .lt (34), [25], (0, 0), qm_d0), (7, .aload_n 0, [], (0, 0), qm_d0), (8, .getfield 7, [8, 1, 2, 1088], (0, 0), qm_d0), (11, .aload_n 0, [], (0, 0), qm_d0), (12, .getfield 13, [8, 2, 2, 1089], (0, 0), qm_d0), (15, .iconst (0), [], (0, 0), qm_d0), (16, .iaload, [10], (0, 0), qm_d0), (17, .iload_n 1, [], (0, 0), qm_d0), (18, .iload_n 2, [], (0, 0), qm_d0), (19, .ishr, [], (0, 0), qm_d0), (20, .i2b, [], (0, 0), qm_d0), (21, .bastore, [9], (0, 0), qm_d0), (22, .aload_n 0, [], (0, 0), qm_d0), (23, .getfield 13, [8, 2, 2, 1089], (0, 0), qm_d0), (26, .iconst (0), [], (0, 0), qm_d0), (27, .dup2, [], (0, 0), qm_d0), (28, .iaload, [10], (0, 0), qm_d0), (29, .iconst (1), [], (1, 0), qm_d0), (30, .iadd, [], (0, 0), qm_d0), (31, .iastore, [], (0, 0), qm_d0), (32, .iinc 2 (-8), [], (-8, 0), qm_d0), (35, .goto (-32), [2], (0, 0), qm_d0), (38, .return_, [], (0, 0), qm_d0)])
set_option maxRecDepth 100000 in
theorem okX10_four : qm_okM mX10_four = true := by decide +kernel
def mX10_end : qm_M := (RX10, qyX10_end, [(0, .aload_n 0, [], (0, 0), qm_d0), (1, .iconst (0), [], (0, 0), qm_d0), (2, .putfield 85, [8, 0, 0, 1087], (0, 0), qm_d0), (5, .iload_n 1, [], (0, 0), qm_d0), (6, .iconst (0), [], (0, 0), qm_d0), (7, .aload_n 0, [], (0, 0), qm_d0), (8, .getfield 13, [8, 2, 2, 1089], (0, 0), qm_d0), (11, .iconst (0), [], (0, 0), qm_d0), (12, .iaload, [10], (0, 0), qm_d0), (13, .invokestatic 97, [3, 0, 1242, 1244, 122, 1243], (0, 0), qyX10_in), (16, .ifCond .ne (5), [13], (0, 0), qm_d0), (19, .iconst (-1), [], (-1, 0), qm_d0), (20, .ireturn, [], (0, 0), qm_d0), (21, .aload_n 0, [], (0, 0), qm_d0), (22, .getfield 13, [8, 2, 2, 1089], (0, 0), qm_d0), (25, .iconst (0), [], (0, 0), qm_d0), (26, .iload_n 1, [], (0, 0), qm_d0), (27, .iastore, [], (0, 0), qm_d0), (28, .iload_n 1, [], (0, 0), qm_d0), (29, .ireturn, [], (0, 0), qm_d0)])
set_option maxRecDepth 100000 in
theorem okX10_end : qm_okM mX10_end = true := by decide +kernel
def mX10_see : qm_M := (RX10, qyX10_see, [(0, .aload_n 0, [], (0, 0), qm_d0), (1, .getfield 105, [8, 9, 0, 1096], (0, 0), qm_d0), (4, .aload_n 0, [], (0, 0), qm_d0), (5, .getfield 108, [8, 10, 0, 1097], (0, 0), qm_d0), (8, .if_icmp .ge (19), [13], (0, 0), qm_d0), (11, .aload_n 0, [], (0, 0), qm_d0), (12, .getfield 7, [8, 1, 2, 1088], (0, 0), qm_d0), (15, .aload_n 0, [], (0, 0), qm_d0), (16, .getfield 105, [8, 9, 0, 1096], (0, 0), qm_d0), (19, .baload, [9], (0, 0), qm_d0), (20, .sipush (255), [], (255, 0), qm_d0), (23, .iand, [], (0, 0), qm_d0), (24, .goto (4), [14], (0, 0), qm_d0), (27, .iconst (-1), [], (-1, 0), qm_d0), (28, .ireturn, [], (0, 0), qm_d0)])
set_option maxRecDepth 100000 in
theorem okX10_see : qm_okM mX10_see = true := by decide +kernel
def mX10_token : qm_M := (RX10, qyX10_token, [(0, .aload_n 0, [], (0, 0), qm_d0), (1, .invokevirtual 111, [0, 8, 1261, 1264, 122, 1263, 34], (0, 0), qyX10_see), (4, .bipush (10), [], (10, 0), qm_d0), (6, .if_icmp .eq (12), [8], (0, 0), qm_d0), (9, .aload_n 0, [], (0, 0), qm_d0), (10, .invokevirtual 111, [0, 8, 1261, 1264, 122, 1263, 34], (0, 0), qyX10_see), (13, .bipush (32), [], (32, 0), qm_d0), (15, .if_icmp .ne (16), [15], (0, 0), qm_d0), (18, .aload_n 0, [], (0, 0), qm_d0), (19, .dup, [], (0, 0), qm_d0), (20, .getfield 105, [8, 9, 0, 1096], (0, 0), qm_d0), (23, .iconst (1), [], (1, 0), qm_d0), (24, .iadd, [], (0, 0), qm_d0), (25, .putfield 105, [8, 9, 0, 1096], (0, 0), qm_d0), (28, .goto (-28), [0], (0, 0), qm_d0), (31, .aload_n 0, [], (0, 0), qm_d0), (32, .aload_n 0, [], (0, 0), qm_d0), (33, .getfield 105, [8, 9, 0, 1096], (0, 0), qm_d0), (36, .putfield 115, [8, 11, 0, 1098], (0, 0), qm_d0), (39, .aload_n 0, [], (0, 0), qm_d0), (40, .invokevirtual 111, [0, 8, 1261, 1264, 122, 1263, 34], (0, 0), qyX10_see), (43, .istore_n 1, [], (0, 0), qm_d0), (44, .aload_n 0, [], (0, 0), qm_d0), (45, .lconst 0, [], (0, 0), qm_d0), (46, .putfield 118, [8, 14, 1, 1101], (0, 0), qm_d0), (49, .iconst (0), [], (0, 0), qm_d0), (50, .istore_n 2, [], (0, 0), qm_d0), (51, .iload_n 1, [], (0, 0), qm_d0), (52, .ifCond .ge (11), [33], (0, 0), qm_d0), (55, .aload_n 0, [], (0, 0), qm_d0), (56, .iconst (0), [], (0, 0), qm_d0), (57, .putfield 122, [8, 12, 0, 1099], (0, 0), qm_d0), (60, .goto (206), [137], (0, 0), qm_d0), (63, .iload_n 1, [], (0, 0), qm_d0), (64, .bipush (97), [], (97, 0), qm_d0), (66, .bipush (122), [], (122, 0), qm_d0), (68, .invokestatic 97, [3, 0, 1242, 1244, 122, 1243], (0, 0), qyX10_in), (71, .ifCond .eq (76), [75], (0, 0), qm_d0), (74, .aload_n 0, [], (0, 0), qm_d0), (75, .invokevirtual 111, [0, 8, 1261, 1264, 122, 1263, 34], (0, 0), qyX10_see), (78, .bipush (97), [], (97, 0), qm_d0), (80, .bipush (122), [], (122, 0), qm_d0), (82, .invokestatic 97, [3, 0, 1242, 1244, 122, 1243], (0, 0), qyX10_in), (85, .ifCond .eq (36), [62], (0, 0), qm_d0), (88, .aload_n 0, [], (0, 0), qm_d0), (89, .aload_n 0, [], (0, 0), qm_d0), (90, .getfield 118, [8, 14, 1, 1101], (0, 0), qm_d0), (93, .bipush (8), [], (8, 0), qm_d0), (95, .lshl, [], (0, 0), qm_d0), (96, .aload_n 0, [], (0, 0), qm_d0), (97, .invokevirtual 111, [0, 8, 1261, 1264, 122, 1263, 34], (0, 0), qyX10_see), (100, .i2l, [], (0, 0), qm_d0), (101, .lor, [], (0, 0), qm_d0), (102, .putfield 118, [8, 14, 1, 1101], (0, 0), qm_d0), (105, .aload_n 0, [], (0, 0), qm_d0), (106, .dup, [], (0, 0), qm_d0), (107, .getfield 105, [8, 9, 0, 1096], (0, 0), qm_d0), (110, .iconst (1), [], (1, 0), qm_d0), (111, .iadd, [], (0, 0), qm_d0), (112, .putfield 105, [8, 9, 0, 1096], (0, 0), qm_d0), (115, .iinc 2 (1), [], (1, 0), qm_d0), (118, .goto (-44), [38], (0, 0), qm_d0), (121, .aload_n 0, [], (0, 0), qm_d0), (122, .iload_n 2, [], (0, 0), qm_d0), (123, .bipush (8), [], (8, 0), qm_d0), (125, .if_icmp .le (7), [68], (0, 0), qm_d0), (128, .lconst 0, [], (0, 0), qm_d0), (129, .goto (7), [70], (0, 0), qm_d0), (132, .aload_n 0, [], (0, 0), qm_d0), (133, .getfield 118, [8, 14, 1, 1101], (0, 0), qm_d0), (136, .putfield 118, [8, 14, 1, 1101], (0, 0), qm_d0), (139, .aload_n 0, [], (0, 0), qm_d0), (140, .iconst (2), [], (2, 0), qm_d0), (141, .putfield 122, [8, 12, 0, 1099], (0, 0), qm_d0), (144, .goto (122), [137], (0, 0), qm_d0), (147, .iload_n 1, [], (0, 0), qm_d0), (148, .bipush (48), [], (48, 0), qm_d0), (150, .bipush (57), [], (57, 0), qm_d0), (152, .invokestatic 97, [3, 0, 1242, 1244, 122, 1243], (0, 0), qyX10_in), (155, .ifCond .eq (86), [123], (0, 0), qm_d0), (158, .aload_n 0, [], (0, 0), qm_d0), (159, .iconst (0), [], (0, 0), qm_d0), (160, .putfield 125, [8, 13, 0, 1100], (0, 0), qm_d0), (163, .aload_n 0, [], (0, 0), qm_d0), (164, .invokevirtual 111, [0, 8, 1261, 1264, 122, 1263, 34], (0, 0), qyX10_see), (167, .bipush (48), [], (48, 0), qm_d0), (169, .bipush (57), [], (57, 0), qm_d0), (171, .invokestatic 97, [3, 0, 1242, 1244, 122, 1243], (0, 0), qyX10_in), (174, .ifCond .eq (50), [114], (0, 0), qm_d0), (177, .aload_n 0, [], (0, 0), qm_d0), (178, .iload_n 2, [], (0, 0), qm_d0), (179, .iconst (2), [], (2, 0), qm_d0), (180, .if_icmp .ge (21), [103], (0, 0), qm_d0), (183, .bipush (10), [], (10, 0), qm_d0), (185, .aload_n 0, [], (0, 0), qm_d0), (186, .getfield 125, [8, 13, 0, 1100], (0, 0), qm_d0), (189, .imul, [], (0, 0), qm_d0), (190, .aload_n 0, [], (0, 0), qm_d0), (191, .invokevirtual 111, [0, 8, 1261, 1264, 122, 1263, 34], (0, 0), qyX10_see), (194, .iadd, [], (0, 0), qm_d0), (195, .bipush (48), [], (48, 0), qm_d0), (197, .isub, [], (0, 0), qm_d0), (198, .goto (7), [105], (0, 0), qm_d0), (201, .aload_n 0, [], (0, 0), qm_d0), (202, .getfield 125, [8, 13, 0, 1100], (0, 0), qm_d0), (205, .putfield 125, [8, 13, 0, 1100], (0, 0), qm_d0), (208, .aload_n 0, [], (0, 0), qm_d0), (209, .dup, [], (0, 0), qm_d0), (210, .getfield 105, [8, 9, 0, 1096], (0, 0), qm_d0), (213, .iconst (1), [], (1, 0), qm_d0), (214, .iadd, [], (0, 0), qm_d0), (215, .putfield 105, [8, 9, 0, 1096], (0, 0), qm_d0), (218, .iinc 2 (1), [], (1, 0), qm_d0), (221, .goto (-58), [83], (0, 0), qm_d0), (224, .aload_n 0, [], (0, 0), qm_d0), (225, .iload_n 2, [], (0, 0), qm_d0), (226, .iconst (2), [], (2, 0), qm_d0), (227, .if_icmp .le (7), [120], (0, 0), qm_d0), (230, .iconst (1), [], (1, 0), qm_d0), (231, .goto (4), [121], (0, 0), qm_d0), (234, .iconst (3), [], (3, 0), qm_d0), (235, .putfield 122, [8, 12, 0, 1099], (0, 0), qm_d0), (238, .goto (28), [137], (0, 0), qm_d0), (241, .aload_n 0, [], (0, 0), qm_d0), (242, .dup, [], (0, 0), qm_d0), (243, .getfield 105, [8, 9, 0, 1096], (0, 0), qm_d0), (246, .iconst (1), [], (1, 0), qm_d0), (247, .iadd, [], (0, 0), qm_d0), (248, .putfield 105, [8, 9, 0, 1096], (0, 0), qm_d0), (251, .aload_n 0, [], (0, 0), qm_d0), (252, .iload_n 1, [], (0, 0), qm_d0), (253, .bipush (59), [], (59, 0), qm_d0), (255, .if_icmp .ne (7), [135], (0, 0), qm_d0), (258, .iconst (4), [], (4, 0), qm_d0), (259, .goto (4), [136], (0, 0), qm_d0), (262, .iconst (1), [], (1, 0), qm_d0), (263, .putfield 122, [8, 12, 0, 1099], (0, 0), qm_d0), (266, .return_, [], (0, 0), qm_d0)])
set_option maxRecDepth 100000 in
theorem okX10_token : qm_okM mX10_token = true := by decide +kernel
def mX10_fails : qm_M := (RX10, qyX10_fails, [(0, .aload_n 0, [], (0, 0), qm_d0), (1, .aload_n 0, [], (0, 0), qm_d0), (2, .getfield 115, [8, 11, 0, 1098], (0, 0), qm_d0), (5, .putfield 128, [8, 15, 0, 1102], (0, 0), qm_d0), (8, .iconst (0), [], (0, 0), qm_d0), (9, .ireturn, [], (0, 0), qm_d0)])
set_option maxRecDepth 100000 in
theorem okX10_fails : qm_okM mX10_fails = true := by decide +kernel
def mX10_later : qm_M := (RX10, qyX10_later, [(0, .aload_n 0, [], (0, 0), qm_d0), (1, .getfield 131, [8, 16, 0, 1103], (0, 0), qm_d0), (4, .ifCond .eq (27), [15], (0, 0), qm_d0), (7, .iload_n 2, [], (0, 0), qm_d0), (8, .aload_n 0, [], (0, 0), qm_d0), (9, .getfield 134, [8, 17, 0, 1104], (0, 0), qm_d0), (12, .if_icmp .lt (19), [15], (0, 0), qm_d0), (15, .iload_n 2, [], (0, 0), qm_d0), (16, .aload_n 0, [], (0, 0), qm_d0), (17, .getfield 134, [8, 17, 0, 1104], (0, 0), qm_d0), (20, .if_icmp .ne (21), [21], (0, 0), qm_d0), (23, .iload_n 1, [], (0, 0), qm_d0), (24, .aload_n 0, [], (0, 0), qm_d0), (25, .getfield 131, [8, 16, 0, 1103], (0, 0), qm_d0), (28, .if_icmp .ge (13), [21], (0, 0), qm_d0), (31, .aload_n 0, [], (0, 0), qm_d0), (32, .iload_n 1, [], (0, 0), qm_d0), (33, .putfield 131, [8, 16, 0, 1103], (0, 0), qm_d0), (36, .aload_n 0, [], (0, 0), qm_d0), (37, .iload_n 2, [], (0, 0), qm_d0), (38, .putfield 134, [8, 17, 0, 1104], (0, 0), qm_d0), (41, .return_, [], (0, 0), qm_d0)])
set_option maxRecDepth 100000 in
theorem okX10_later : qm_okM mX10_later = true := by decide +kernel
def mX10_takeBut : qm_M := (RX10, qyX10_takeBut, [(0, .aload_n 0, [], (0, 0), qm_d0), (1, .getfield 122, [8, 12, 0, 1099], (0, 0), qm_d0), (4, .iconst (3), [], (3, 0), qm_d0), (5, .if_icmp .eq (8), [7], (0, 0), qm_d0), (8, .aload_n 0, [], (0, 0), qm_d0), (9, .invokevirtual 137, [0, 8, 1294, 1297, 122, 1296, 42], (0, 0), qyX10_fails), (12, .ireturn, [], (0, 0), qm_d0), (13, .aload_n 0, [], (0, 0), qm_d0), (14, .getfield 38, [8, 19, 2, 1106], (0, 0), qm_d0), (17, .iload_n 1, [], (0, 0), qm_d0), (18, .aload_n 0, [], (0, 0), qm_d0), (19, .getfield 125, [8, 13, 0, 1100], (0, 0), qm_d0), (22, .iastore, [], (0, 0), qm_d0), (23, .aload_n 0, [], (0, 0), qm_d0), (24, .getfield 125, [8, 13, 0, 1100], (0, 0), qm_d0), (27, .iload_n 2, [], (0, 0), qm_d0), (28, .iload_n 3, [], (0, 0), qm_d0), (29, .invokestatic 97, [3, 0, 1242, 1244, 122, 1243], (0, 0), qyX10_in), (32, .ifCond .eq (12), [23], (0, 0), qm_d0), (35, .aload_n 0, [], (0, 0), qm_d0), (36, .getfield 125, [8, 13, 0, 1100], (0, 0), qm_d0), (39, .iload 4, [], (0, 0), qm_d0), (41, .if_icmp .ne (17), [31], (0, 0), qm_d0), (44, .aload_n 0, [], (0, 0), qm_d0), (45, .iconst (2), [], (2, 0), qm_d0), (46, .aload_n 0, [], (0, 0), qm_d0), (47, .getfield 115, [8, 11, 0, 1098], (0, 0), qm_d0), (50, .invokevirtual 141, [2, 8, 1278, 1281, 122, 1280, 38], (0, 0), qyX10_later), (53, .aload_n 0, [], (0, 0), qm_d0), (54, .iconst (0), [], (0, 0), qm_d0), (55, .putfield 145, [8, 21, 0, 1108], (0, 0), qm_d0), (58, .aload_n 0, [], (0, 0), qm_d0), (59, .invokevirtual 149, [0, 8, 1257, 1260, 122, 1259, 33], (0, 0), qyX10_token), (62, .iconst (1), [], (1, 0), qm_d0), (63, .ireturn, [], (0, 0), qm_d0)])
set_option maxRecDepth 100000 in
theorem okX10_takeBut : qm_okM mX10_takeBut = true := by decide +kernel
def mX10_take : qm_M := (RX10, qyX10_take, [(0, .aload_n 0, [], (0, 0), qm_d0), (1, .iload_n 1, [], (0, 0), qm_d0), (2, .iload_n 2, [], (0, 0), qm_d0), (3, .iload_n 3, [], (0, 0), qm_d0), (4, .iconst (-1), [], (-1, 0), qm_d0), (5, .invokevirtual 152, [4, 8, 1290, 1293, 122, 1292, 41], (0, 0), qyX10_takeBut), (8, .ireturn, [], (0, 0), qm_d0)])
set_option maxRecDepth 100000 in
theorem okX10_take : qm_okM mX10_take = true := by decide +kernel
def mX10_full : qm_M := (RX10, qyX10_full, [(0, .aload_n 0, [], (0, 0), qm_d0), (1, .getfield 35, [8, 18, 2, 1105], (0, 0), qm_d0), (4, .iload_n 1, [], (0, 0), qm_d0), (5, .iaload, [10], (0, 0), qm_d0), (6, .iload_n 2, [], (0, 0), qm_d0), (7, .if_icmp .ne (9), [10], (0, 0), qm_d0), (10, .aload_n 0, [], (0, 0), qm_d0), (11, .iconst (3), [], (3, 0), qm_d0), (12, .iload_n 3, [], (0, 0), qm_d0), (13, .invokevirtual 141, [2, 8, 1278, 1281, 122, 1280, 38], (0, 0), qyX10_later), (16, .return_, [], (0, 0), qm_d0)])
set_option maxRecDepth 100000 in
theorem okX10_full : qm_okM mX10_full = true := by decide +kernel
def mX10_personLine : qm_M := (RX10, qyX10_personLine, [(0, .aload_n 0, [], (0, 0), qm_d0), (1, .iconst (0), [], (0, 0), qm_d0), (2, .iconst (0), [], (0, 0), qm_d0), (3, .bipush (30), [], (30, 0), qm_d0), (5, .invokevirtual 156, [3, 8, 1286, 1289, 122, 1288, 40], (0, 0), qyX10_take), (8, .ifCond .ne (5), [8], (0, 0), qm_d0), (11, .iconst (0), [], (0, 0), qm_d0), (12, .ireturn, [], (0, 0), qm_d0), (13, .aload_n 0, [], (0, 0), qm_d0), (14, .getfield 35, [8, 18, 2, 1105], (0, 0), qm_d0), (17, .iconst (0), [], (0, 0), qm_d0), (18, .iaload, [10], (0, 0), qm_d0), (19, .istore_n 1, [], (0, 0), qm_d0), (20, .iload_n 1, [], (0, 0), qm_d0), (21, .bipush (6), [], (6, 0), qm_d0), (23, .if_icmp .ge (28), [34], (0, 0), qm_d0), (26, .aload_n 0, [], (0, 0), qm_d0), (27, .getfield 35, [8, 18, 2, 1105], (0, 0), qm_d0), (30, .bipush (13), [], (13, 0), qm_d0), (32, .iload_n 1, [], (0, 0), qm_d0), (33, .iadd, [], (0, 0), qm_d0), (34, .aload_n 0, [], (0, 0), qm_d0), (35, .getfield 38, [8, 19, 2, 1106], (0, 0), qm_d0), (38, .iconst (0), [], (0, 0), qm_d0), (39, .iaload, [10], (0, 0), qm_d0), (40, .iastore, [], (0, 0), qm_d0), (41, .aload_n 0, [], (0, 0), qm_d0), (42, .getfield 35, [8, 18, 2, 1105], (0, 0), qm_d0), (45, .iconst (0), [], (0, 0), qm_d0), (46, .dup2, [], (0, 0), qm_d0), (47, .iaload, [10], (0, 0), qm_d0), (48, .iconst (1), [], (1, 0), qm_d0), (49, .iadd, [], (0, 0), qm_d0), (50, .iastore, [], (0, 0), qm_d0), (51, .iconst (1), [], (1, 0), qm_d0), (52, .ireturn, [], (0, 0), qm_d0)])
set_option maxRecDepth 100000 in
theorem okX10_personLine : qm_okM mX10_personLine = true := by decide +kernel
def mX10_twoLine : qm_M := (RX10, qyX10_twoLine, [(0, .lload_n 1, [], (0, 0), qm_d0), (1, .ldc2_w 159, [1299], (0, 28832959090882419), qm_d0), (4, .lcmp, [], (0, 0), qm_d0), (5, .ifCond .eq (11), [8], (0, 0), qm_d0), (8, .lload_n 1, [], (0, 0), qm_d0), (9, .ldc2_w 161, [1301], (0, 448377483891), qm_d0), (12, .lcmp, [], (0, 0), qm_d0), (13, .ifCond .ne (7), [10], (0, 0), qm_d0), (16, .iconst (1), [], (1, 0), qm_d0), (17, .goto (4), [11], (0, 0), qm_d0), (20, .iconst (0), [], (0, 0), qm_d0), (21, .istore_n 3, [], (0, 0), qm_d0), (22, .aload_n 0, [], (0, 0), qm_d0), (23, .iconst (0), [], (0, 0), qm_d0), (24, .iconst (0), [], (0, 0), qm_d0), (25, .iconst (5), [], (5, 0), qm_d0), (26, .invokevirtual 156, [3, 8, 1286, 1289, 122, 1288, 40], (0, 0), qyX10_take), (29, .ifCond .eq (40), [38], (0, 0), qm_d0), (32, .aload_n 0, [], (0, 0), qm_d0), (33, .iconst (1), [], (1, 0), qm_d0), (34, .iconst (0), [], (0, 0), qm_d0), (35, .lload_n 1, [], (0, 0), qm_d0), (36, .ldc2_w 163, [1298], (0, 512970880104), qm_d0), (39, .lcmp, [], (0, 0), qm_d0), (40, .ifCond .ne (8), [27], (0, 0), qm_d0), (43, .bipush (20), [], (20, 0), qm_d0), (45, .goto (4), [28], (0, 0), qm_d0), (48, .iconst (5), [], (5, 0), qm_d0), (49, .iload_n 3, [], (0, 0), qm_d0), (50, .ifCond .eq (12), [35], (0, 0), qm_d0), (53, .aload_n 0, [], (0, 0), qm_d0), (54, .getfield 38, [8, 19, 2, 1106], (0, 0), qm_d0), (57, .iconst (0), [], (0, 0), qm_d0), (58, .iaload, [10], (0, 0), qm_d0), (59, .goto (4), [36], (0, 0), qm_d0), (62, .iconst (-1), [], (-1, 0), qm_d0), (63, .invokevirtual 152, [4, 8, 1290, 1293, 122, 1292, 41], (0, 0), qyX10_takeBut), (66, .ifCond .ne (5), [40], (0, 0), qm_d0), (69, .iconst (0), [], (0, 0), qm_d0), (70, .ireturn, [], (0, 0), qm_d0), (71, .aload_n 0, [], (0, 0), qm_d0), (72, .lload_n 1, [], (0, 0), qm_d0), (73, .ldc2_w 165, [1300], (0, 461414299507), qm_d0), (76, .lcmp, [], (0, 0), qm_d0), (77, .ifCond .eq (11), [49], (0, 0), qm_d0), (80, .lload_n 1, [], (0, 0), qm_d0), (81, .ldc2_w 161, [1301], (0, 448377483891), qm_d0), (84, .lcmp, [], (0, 0), qm_d0), (85, .ifCond .ne (19), [57], (0, 0), qm_d0), (88, .aload_n 0, [], (0, 0), qm_d0), (89, .getfield 167, [8, 20, 0, 1107], (0, 0), qm_d0), (92, .aload_n 0, [], (0, 0), qm_d0), (93, .getfield 38, [8, 19, 2, 1106], (0, 0), qm_d0), (96, .iconst (0), [], (0, 0), qm_d0), (97, .iaload, [10], (0, 0), qm_d0), (98, .invokestatic 170, [2, 0, 1306, 1308, 122, 1307], (0, 0), qyX10_greater), (101, .goto (7), [59], (0, 0), qm_d0), (104, .aload_n 0, [], (0, 0), qm_d0), (105, .getfield 167, [8, 20, 0, 1107], (0, 0), qm_d0), (108, .putfield 167, [8, 20, 0, 1107], (0, 0), qm_d0), (111, .aload_n 0, [], (0, 0), qm_d0), (112, .lload_n 1, [], (0, 0), qm_d0), (113, .ldc2_w 161, [1301], (0, 448377483891), qm_d0), (116, .lcmp, [], (0, 0), qm_d0), (117, .ifCond .ne (19), [73], (0, 0), qm_d0), (120, .aload_n 0, [], (0, 0), qm_d0), (121, .getfield 167, [8, 20, 0, 1107], (0, 0), qm_d0), (124, .aload_n 0, [], (0, 0), qm_d0), (125, .getfield 38, [8, 19, 2, 1106], (0, 0), qm_d0), (128, .iconst (1), [], (1, 0), qm_d0), (129, .iaload, [10], (0, 0), qm_d0), (130, .invokestatic 170, [2, 0, 1306, 1308, 122, 1307], (0, 0), qyX10_greater), (133, .goto (7), [75], (0, 0), qm_d0), (136, .aload_n 0, [], (0, 0), qm_d0), (137, .getfield 167, [8, 20, 0, 1107], (0, 0), qm_d0), (140, .putfield 167, [8, 20, 0, 1107], (0, 0), qm_d0), (143, .aload_n 0, [], (0, 0), qm_d0), (144, .getfield 145, [8, 21, 0, 1108], (0, 0), qm_d0), (147, .ifCond .ne (5), [81], (0, 0), qm_d0), (150, .iconst (1), [], (1, 0), qm_d0), (151, .ireturn, [], (0, 0), qm_d0), (152, .lload_n 1, [], (0, 0), qm_d0), (153, .ldc2_w 163, [1298], (0, 512970880104), qm_d0), (156, .lcmp, [], (0, 0), qm_d0), (157, .ifCond .ne (25), [99], (0, 0), qm_d0), (160, .aload_n 0, [], (0, 0), qm_d0), (161, .getfield 35, [8, 18, 2, 1105], (0, 0), qm_d0), (164, .iconst (1), [], (1, 0), qm_d0), (165, .aload_n 0, [], (0, 0), qm_d0), (166, .getfield 38, [8, 19, 2, 1106], (0, 0), qm_d0), (169, .iconst (0), [], (0, 0), qm_d0), (170, .iaload, [10], (0, 0), qm_d0), (171, .iadd, [], (0, 0), qm_d0), (172, .aload_n 0, [], (0, 0), qm_d0), (173, .getfield 38, [8, 19, 2, 1106], (0, 0), qm_d0), (176, .iconst (1), [], (1, 0), qm_d0), (177, .iaload, [10], (0, 0), qm_d0), (178, .iastore, [], (0, 0), qm_d0), (179, .goto (54), [129], (0, 0), qm_d0), (182, .aload_n 0, [], (0, 0), qm_d0), (183, .getfield 35, [8, 18, 2, 1105], (0, 0), qm_d0), (186, .lload_n 1, [], (0, 0), qm_d0), (187, .ldc2_w 159, [1299], (0, 28832959090882419), qm_d0), (190, .lcmp, [], (0, 0), qm_d0), (191, .ifCond .ne (8), [107], (0, 0), qm_d0), (194, .bipush (7), [], (7, 0), qm_d0), (196, .goto (18), [114], (0, 0), qm_d0), (199, .lload_n 1, [], (0, 0), qm_d0), (200, .ldc2_w 165, [1300], (0, 461414299507), qm_d0), (203, .lcmp, [], (0, 0), qm_d0), (204, .ifCond .ne (8), [113], (0, 0), qm_d0), (207, .bipush (19), [], (19, 0), qm_d0), (209, .goto (5), [114], (0, 0), qm_d0), (212, .bipush (25), [], (25, 0), qm_d0), (214, .aload_n 0, [], (0, 0), qm_d0), (215, .getfield 38, [8, 19, 2, 1106], (0, 0), qm_d0), (218, .iconst (0), [], (0, 0), qm_d0), (219, .iaload, [10], (0, 0), qm_d0), (220, .iadd, [], (0, 0), qm_d0), (221, .dup2, [], (0, 0), qm_d0), (222, .iaload, [10], (0, 0), qm_d0), (223, .iconst (1), [], (1, 0), qm_d0), (224, .aload_n 0, [], (0, 0), qm_d0), (225, .getfield 38, [8, 19, 2, 1106], (0, 0), qm_d0), (228, .iconst (1), [], (1, 0), qm_d0), (229, .iaload, [10], (0, 0), qm_d0), (230, .ishl, [], (0, 0), qm_d0), (231, .ior, [], (0, 0), qm_d0), (232, .iastore, [], (0, 0), qm_d0), (233, .iconst (1), [], (1, 0), qm_d0), (234, .ireturn, [], (0, 0), qm_d0)])
set_option maxRecDepth 100000 in
theorem okX10_twoLine : qm_okM mX10_twoLine = true := by decide +kernel
def mX10_townLine : qm_M := (RX10, qyX10_townLine, [(0, .lload_n 1, [], (0, 0), qm_d0), (1, .ldc2_w 174, [1273], (0, 123581014175598), qm_d0), (4, .lcmp, [], (0, 0), qm_d0), (5, .ifCond .ne (20), [14], (0, 0), qm_d0), (8, .aload_n 0, [], (0, 0), qm_d0), (9, .iconst (0), [], (0, 0), qm_d0), (10, .bipush (6), [], (6, 0), qm_d0), (12, .iload_n 3, [], (0, 0), qm_d0), (13, .invokevirtual 176, [3, 8, 1274, 1277, 122, 1276, 37], (0, 0), qyX10_full), (16, .aload_n 0, [], (0, 0), qm_d0), (17, .invokevirtual 149, [0, 8, 1257, 1260, 122, 1259, 33], (0, 0), qyX10_token), (20, .aload_n 0, [], (0, 0), qm_d0), (21, .invokevirtual 180, [0, 8, 1282, 1285, 122, 1284, 39], (0, 0), qyX10_personLine), (24, .ireturn, [], (0, 0), qm_d0), (25, .lload_n 1, [], (0, 0), qm_d0), (26, .ldc2_w 163, [1298], (0, 512970880104), qm_d0), (29, .lcmp, [], (0, 0), qm_d0), (30, .ifCond .eq (32), [33], (0, 0), qm_d0), (33, .lload_n 1, [], (0, 0), qm_d0), (34, .ldc2_w 159, [1299], (0, 28832959090882419), qm_d0), (37, .lcmp, [], (0, 0), qm_d0), (38, .ifCond .eq (24), [33], (0, 0), qm_d0), (41, .lload_n 1, [], (0, 0), qm_d0), (42, .ldc2_w 165, [1300], (0, 461414299507), qm_d0), (45, .lcmp, [], (0, 0), qm_d0), (46, .ifCond .eq (16), [33], (0, 0), qm_d0), (49, .lload_n 1, [], (0, 0), qm_d0), (50, .ldc2_w 161, [1301], (0, 448377483891), qm_d0), (53, .lcmp, [], (0, 0), qm_d0), (54, .ifCond .eq (8), [33], (0, 0), qm_d0), (57, .aload_n 0, [], (0, 0), qm_d0), (58, .invokevirtual 137, [0, 8, 1294, 1297, 122, 1296, 42], (0, 0), qyX10_fails), (61, .ireturn, [], (0, 0), qm_d0), (62, .aload_n 0, [], (0, 0), qm_d0), (63, .invokevirtual 149, [0, 8, 1257, 1260, 122, 1259, 33], (0, 0), qyX10_token), (66, .aload_n 0, [], (0, 0), qm_d0), (67, .lload_n 1, [], (0, 0), qm_d0), (68, .invokevirtual 183, [1, 8, 1302, 1305, 122, 1304, 43], (0, 0), qyX10_twoLine), (71, .ireturn, [], (0, 0), qm_d0)])
set_option maxRecDepth 100000 in
theorem okX10_townLine : qm_okM mX10_townLine = true := by decide +kernel
def mX10_keepRow : qm_M := (RX10, qyX10_keepRow, [(0, .aload_n 0, [], (0, 0), qm_d0), (1, .getfield 35, [8, 18, 2, 1105], (0, 0), qm_d0), (4, .iconst (0), [], (0, 0), qm_d0), (5, .iaload, [10], (0, 0), qm_d0), (6, .istore_n 3, [], (0, 0), qm_d0), (7, .iload_n 3, [], (0, 0), qm_d0), (8, .iload_n 2, [], (0, 0), qm_d0), (9, .if_icmp .ne (4), [9], (0, 0), qm_d0), (12, .return_, [], (0, 0), qm_d0), (13, .iconst (0), [], (0, 0), qm_d0), (14, .istore 4, [], (0, 0), qm_d0), (16, .iload 4, [], (0, 0), qm_d0), (18, .iload_n 1, [], (0, 0), qm_d0), (19, .if_icmp .ge (29), [30], (0, 0), qm_d0), (22, .aload_n 0, [], (0, 0), qm_d0), (23, .getfield 35, [8, 18, 2, 1105], (0, 0), qm_d0), (26, .iconst (1), [], (1, 0), qm_d0), (27, .iload_n 1, [], (0, 0), qm_d0), (28, .iload_n 3, [], (0, 0), qm_d0), (29, .imul, [], (0, 0), qm_d0), (30, .iadd, [], (0, 0), qm_d0), (31, .iload 4, [], (0, 0), qm_d0), (33, .iadd, [], (0, 0), qm_d0), (34, .aload_n 0, [], (0, 0), qm_d0), (35, .getfield 38, [8, 19, 2, 1106], (0, 0), qm_d0), (38, .iload 4, [], (0, 0), qm_d0), (40, .iaload, [10], (0, 0), qm_d0), (41, .iastore, [], (0, 0), qm_d0), (42, .iinc 4 (1), [], (1, 0), qm_d0), (45, .goto (-29), [11], (0, 0), qm_d0), (48, .aload_n 0, [], (0, 0), qm_d0), (49, .getfield 35, [8, 18, 2, 1105], (0, 0), qm_d0), (52, .iconst (0), [], (0, 0), qm_d0), (53, .dup2, [], (0, 0), qm_d0), (54, .iaload, [10], (0, 0), qm_d0), (55, .iconst (1), [], (1, 0), qm_d0), (56, .iadd, [], (0, 0), qm_d0), (57, .iastore, [], (0, 0), qm_d0), (58, .return_, [], (0, 0), qm_d0)])
set_option maxRecDepth 100000 in
theorem okX10_keepRow : qm_okM mX10_keepRow = true := by decide +kernel
def mX10_yearLine : qm_M := (RX10, qyX10_yearLine, [(0, .lload_n 1, [], (0, 0), qm_d0), (1, .ldc2_w 187, [1313], (0, 1952803948), qm_d0), (4, .lcmp, [], (0, 0), qm_d0), (5, .ifCond .ne (7), [6], (0, 0), qm_d0), (8, .iconst (0), [], (0, 0), qm_d0), (9, .goto (52), [31], (0, 0), qm_d0), (12, .lload_n 1, [], (0, 0), qm_d0), (13, .ldc2_w 189, [1314], (0, 6386539), qm_d0), (16, .lcmp, [], (0, 0), qm_d0), (17, .ifCond .ne (7), [12], (0, 0), qm_d0), (20, .iconst (1), [], (1, 0), qm_d0), (21, .goto (40), [31], (0, 0), qm_d0), (24, .lload_n 1, [], (0, 0), qm_d0), (25, .ldc2_w 191, [1315], (0, 7562597), qm_d0), (28, .lcmp, [], (0, 0), qm_d0), (29, .ifCond .ne (7), [18], (0, 0), qm_d0), (32, .iconst (2), [], (2, 0), qm_d0), (33, .goto (28), [31], (0, 0), qm_d0), (36, .lload_n 1, [], (0, 0), qm_d0), (37, .ldc2_w 193, [1316], (0, 1936026732), qm_d0), (40, .lcmp, [], (0, 0), qm_d0), (41, .ifCond .ne (7), [24], (0, 0), qm_d0), (44, .iconst (3), [], (3, 0), qm_d0), (45, .goto (16), [31], (0, 0), qm_d0), (48, .lload_n 1, [], (0, 0), qm_d0), (49, .ldc2_w 195, [1317], (0, 6649445), qm_d0), (52, .lcmp, [], (0, 0), qm_d0), (53, .ifCond .ne (7), [30], (0, 0), qm_d0), (56, .iconst (4), [], (4, 0), qm_d0), (57, .goto (4), [31], (0, 0), qm_d0), (60, .iconst (-1), [], (-1, 0), qm_d0), (61, .istore 4, [], (0, 0), qm_d0), (63, .iload 4, [], (0, 0), qm_d0), (65, .iconst (-1), [], (-1, 0), qm_d0), (66, .if_icmp .ne (8), [38], (0, 0), qm_d0), (69, .aload_n 0, [], (0, 0), qm_d0), (70, .invokevirtual 137, [0, 8, 1294, 1297, 122, 1296, 42], (0, 0), qyX10_fails), (73, .ireturn, [], (0, 0), qm_d0), (74, .aload_n 0, [], (0, 0), qm_d0), (75, .iconst (0), [], (0, 0), qm_d0), (76, .bipush (40), [], (40, 0), qm_d0), (78, .iload_n 3, [], (0, 0), qm_d0), (79, .invokevirtual 176, [3, 8, 1274, 1277, 122, 1276, 37], (0, 0), qyX10_full), (82, .aload_n 0, [], (0, 0), qm_d0), (83, .invokevirtual 149, [0, 8, 1257, 1260, 122, 1259, 33], (0, 0), qyX10_token), (86, .aload_n 0, [], (0, 0), qm_d0), (87, .getfield 38, [8, 19, 2, 1106], (0, 0), qm_d0), (90, .iconst (1), [], (1, 0), qm_d0), (91, .iconst (-1), [], (-1, 0), qm_d0), (92, .iastore, [], (0, 0), qm_d0), (93, .aload_n 0, [], (0, 0), qm_d0), (94, .getfield 38, [8, 19, 2, 1106], (0, 0), qm_d0), (97, .iconst (2), [], (2, 0), qm_d0), (98, .iconst (-1), [], (-1, 0), qm_d0), (99, .iastore, [], (0, 0), qm_d0), (100, .aload_n 0, [], (0, 0), qm_d0), (101, .getfield 38, [8, 19, 2, 1106], (0, 0), qm_d0), (104, .iconst (3), [], (3, 0), qm_d0), (105, .iconst (-1), [], (-1, 0), qm_d0), (106, .iastore, [], (0, 0), qm_d0), (107, .iload 4, [], (0, 0), qm_d0), (109, .iconst (4), [], (4, 0), qm_d0), (110, .if_icmp .ge (41), [86], (0, 0), qm_d0), (113, .aload_n 0, [], (0, 0), qm_d0), (114, .iconst (1), [], (1, 0), qm_d0), (115, .iconst (0), [], (0, 0), qm_d0), (116, .iconst (5), [], (5, 0), qm_d0), (117, .invokevirtual 156, [3, 8, 1286, 1289, 122, 1288, 40], (0, 0), qyX10_take), (120, .ifCond .eq (29), [84], (0, 0), qm_d0), (123, .aload_n 0, [], (0, 0), qm_d0), (124, .iconst (2), [], (2, 0), qm_d0), (125, .iconst (0), [], (0, 0), qm_d0), (126, .iconst (5), [], (5, 0), qm_d0), (127, .iload 4, [], (0, 0), qm_d0), (129, .iconst (3), [], (3, 0), qm_d0), (130, .if_icmp .ne (12), [81], (0, 0), qm_d0), (133, .aload_n 0, [], (0, 0), qm_d0), (134, .getfield 38, [8, 19, 2, 1106], (0, 0), qm_d0), (137, .iconst (1), [], (1, 0), qm_d0), (138, .iaload, [10], (0, 0), qm_d0), (139, .goto (4), [82], (0, 0), qm_d0), (142, .iconst (-1), [], (-1, 0), qm_d0), (143, .invokevirtual 152, [4, 8, 1290, 1293, 122, 1292, 41], (0, 0), qyX10_takeBut), (146, .ifCond .ne (5), [86], (0, 0), qm_d0), (149, .iconst (0), [], (0, 0), qm_d0), (150, .ireturn, [], (0, 0), qm_d0), (151, .iload 4, [], (0, 0), qm_d0), (153, .iconst (3), [], (3, 0), qm_d0), (154, .if_icmp .ne (16), [97], (0, 0), qm_d0), (157, .aload_n 0, [], (0, 0), qm_d0), (158, .iconst (3), [], (3, 0), qm_d0), (159, .iconst (0), [], (0, 0), qm_d0), (160, .bipush (30), [], (30, 0), qm_d0), (162, .invokevirtual 156, [3, 8, 1286, 1289, 122, 1288, 40], (0, 0), qyX10_take), (165, .ifCond .ne (5), [97], (0, 0), qm_d0), (168, .iconst (0), [], (0, 0), qm_d0), (169, .ireturn, [], (0, 0), qm_d0), (170, .aload_n 0, [], (0, 0), qm_d0), (171, .getfield 38, [8, 19, 2, 1106], (0, 0), qm_d0), (174, .iconst (0), [], (0, 0), qm_d0), (175, .iload 4, [], (0, 0), qm_d0), (177, .iastore, [], (0, 0), qm_d0), (178, .aload_n 0, [], (0, 0), qm_d0), (179, .iconst (4), [], (4, 0), qm_d0), (180, .bipush (40), [], (40, 0), qm_d0), (182, .invokevirtual 197, [2, 8, 1318, 1321, 122, 1320, 45], (0, 0), qyX10_keepRow), (185, .iconst (1), [], (1, 0), qm_d0), (186, .ireturn, [], (0, 0), qm_d0)])
set_option maxRecDepth 100000 in
theorem okX10_yearLine : qm_okM mX10_yearLine = true := by decide +kernel
def mX10_logLine : qm_M := (RX10, qyX10_logLine, [(0, .lload_n 1, [], (0, 0), qm_d0), (1, .ldc2_w 200, [1326], (0, 418548245860), qm_d0), (4, .lcmp, [], (0, 0), qm_d0), (5, .ifCond .eq (16), [11], (0, 0), qm_d0), (8, .lload_n 1, [], (0, 0), qm_d0), (9, .ldc2_w 202, [1327], (0, 1953459300), qm_d0), (12, .lcmp, [], (0, 0), qm_d0), (13, .ifCond .eq (8), [11], (0, 0), qm_d0), (16, .aload_n 0, [], (0, 0), qm_d0), (17, .invokevirtual 137, [0, 8, 1294, 1297, 122, 1296, 42], (0, 0), qyX10_fails), (20, .ireturn, [], (0, 0), qm_d0), (21, .aload_n 0, [], (0, 0), qm_d0), (22, .iconst (0), [], (0, 0), qm_d0), (23, .bipush (8), [], (8, 0), qm_d0), (25, .iload_n 3, [], (0, 0), qm_d0), (26, .invokevirtual 176, [3, 8, 1274, 1277, 122, 1276, 37], (0, 0), qyX10_full), (29, .aload_n 0, [], (0, 0), qm_d0), (30, .invokevirtual 149, [0, 8, 1257, 1260, 122, 1259, 33], (0, 0), qyX10_token), (33, .aload_n 0, [], (0, 0), qm_d0), (34, .iconst (1), [], (1, 0), qm_d0), (35, .iconst (0), [], (0, 0), qm_d0), (36, .iconst (5), [], (5, 0), qm_d0), (37, .invokevirtual 156, [3, 8, 1286, 1289, 122, 1288, 40], (0, 0), qyX10_take), (40, .ifCond .ne (5), [26], (0, 0), qm_d0), (43, .iconst (0), [], (0, 0), qm_d0), (44, .ireturn, [], (0, 0), qm_d0), (45, .aload_n 0, [], (0, 0), qm_d0), (46, .getfield 38, [8, 19, 2, 1106], (0, 0), qm_d0), (49, .iconst (0), [], (0, 0), qm_d0), (50, .lload_n 1, [], (0, 0), qm_d0), (51, .ldc2_w 200, [1326], (0, 418548245860), qm_d0), (54, .lcmp, [], (0, 0), qm_d0), (55, .ifCond .ne (7), [35], (0, 0), qm_d0), (58, .iconst (0), [], (0, 0), qm_d0), (59, .goto (4), [36], (0, 0), qm_d0), (62, .iconst (1), [], (1, 0), qm_d0), (63, .iastore, [], (0, 0), qm_d0), (64, .aload_n 0, [], (0, 0), qm_d0), (65, .iconst (2), [], (2, 0), qm_d0), (66, .bipush (8), [], (8, 0), qm_d0), (68, .invokevirtual 197, [2, 8, 1318, 1321, 122, 1320, 45], (0, 0), qyX10_keepRow), (71, .iconst (1), [], (1, 0), qm_d0), (72, .ireturn, [], (0, 0), qm_d0)])
set_option maxRecDepth 100000 in
theorem okX10_logLine : qm_okM mX10_logLine = true := by decide +kernel
def mX10_lines : qm_M := (RX10, qyX10_lines, [(0, .iconst (1), [], (1, 0), qm_d0), (1, .istore_n 2, [], (0, 0), qm_d0), (2, .iload_n 2, [], (0, 0), qm_d0), (3, .ifCond .eq (103), [56], (0, 0), qm_d0), (6, .aload_n 0, [], (0, 0), qm_d0), (7, .getfield 122, [8, 12, 0, 1099], (0, 0), qm_d0), (10, .ifCond .eq (96), [56], (0, 0), qm_d0), (13, .aload_n 0, [], (0, 0), qm_d0), (14, .getfield 115, [8, 11, 0, 1098], (0, 0), qm_d0), (17, .istore_n 3, [], (0, 0), qm_d0), (18, .aload_n 0, [], (0, 0), qm_d0), (19, .getfield 122, [8, 12, 0, 1099], (0, 0), qm_d0), (22, .iconst (2), [], (2, 0), qm_d0), (23, .if_icmp .ne (10), [17], (0, 0), qm_d0), (26, .aload_n 0, [], (0, 0), qm_d0), (27, .getfield 118, [8, 14, 1, 1101], (0, 0), qm_d0), (30, .goto (4), [18], (0, 0), qm_d0), (33, .lconst 0, [], (0, 0), qm_d0), (34, .lstore 4, [], (0, 0), qm_d0), (36, .aload_n 0, [], (0, 0), qm_d0), (37, .iconst (1), [], (1, 0), qm_d0), (38, .putfield 145, [8, 21, 0, 1108], (0, 0), qm_d0), (41, .iload_n 1, [], (0, 0), qm_d0), (42, .ifCond .ne (13), [29], (0, 0), qm_d0), (45, .aload_n 0, [], (0, 0), qm_d0), (46, .lload 4, [], (0, 0), qm_d0), (48, .iload_n 3, [], (0, 0), qm_d0), (49, .invokevirtual 204, [2, 8, 1269, 1272, 122, 1271, 36], (0, 0), qyX10_townLine), (52, .goto (25), [41], (0, 0), qm_d0), (55, .iload_n 1, [], (0, 0), qm_d0), (56, .iconst (1), [], (1, 0), qm_d0), (57, .if_icmp .ne (13), [37], (0, 0), qm_d0), (60, .aload_n 0, [], (0, 0), qm_d0), (61, .lload 4, [], (0, 0), qm_d0), (63, .iload_n 3, [], (0, 0), qm_d0), (64, .invokevirtual 208, [2, 8, 1309, 1312, 122, 1311, 44], (0, 0), qyX10_yearLine), (67, .goto (10), [41], (0, 0), qm_d0), (70, .aload_n 0, [], (0, 0), qm_d0), (71, .lload 4, [], (0, 0), qm_d0), (73, .iload_n 3, [], (0, 0), qm_d0), (74, .invokevirtual 211, [2, 8, 1322, 1325, 122, 1324, 46], (0, 0), qyX10_logLine), (77, .istore_n 2, [], (0, 0), qm_d0), (78, .iload_n 2, [], (0, 0), qm_d0), (79, .ifCond .eq (16), [51], (0, 0), qm_d0), (82, .aload_n 0, [], (0, 0), qm_d0), (83, .getfield 122, [8, 12, 0, 1099], (0, 0), qm_d0), (86, .iconst (4), [], (4, 0), qm_d0), (87, .if_icmp .eq (8), [51], (0, 0), qm_d0), (90, .aload_n 0, [], (0, 0), qm_d0), (91, .invokevirtual 137, [0, 8, 1294, 1297, 122, 1296, 42], (0, 0), qyX10_fails), (94, .istore_n 2, [], (0, 0), qm_d0), (95, .iload_n 2, [], (0, 0), qm_d0), (96, .ifCond .eq (7), [55], (0, 0), qm_d0), (99, .aload_n 0, [], (0, 0), qm_d0), (100, .invokevirtual 149, [0, 8, 1257, 1260, 122, 1259, 33], (0, 0), qyX10_token), (103, .goto (-101), [2], (0, 0), qm_d0), (106, .iload_n 2, [], (0, 0), qm_d0), (107, .ireturn, [], (0, 0), qm_d0)])
set_option maxRecDepth 100000 in
theorem okX10_lines : qm_okM mX10_lines = true := by decide +kernel
def mX10_close : qm_M := (RX10, qyX10_close, [(0, .iconst (0), [], (0, 0), qm_d0), (1, .istore_n 1, [], (0, 0), qm_d0), (2, .iload_n 1, [], (0, 0), qm_d0), (3, .bipush (6), [], (6, 0), qm_d0), (5, .if_icmp .ge (64), [40], (0, 0), qm_d0), (8, .iconst (0), [], (0, 0), qm_d0), (9, .istore_n 2, [], (0, 0), qm_d0), (10, .iload_n 2, [], (0, 0), qm_d0), (11, .bipush (6), [], (6, 0), qm_d0), (13, .if_icmp .ge (50), [38], (0, 0), qm_d0), (16, .aload_n 0, [], (0, 0), qm_d0), (17, .getfield 35, [8, 18, 2, 1105], (0, 0), qm_d0), (20, .bipush (7), [], (7, 0), qm_d0), (22, .iload_n 2, [], (0, 0), qm_d0), (23, .iadd, [], (0, 0), qm_d0), (24, .dup2, [], (0, 0), qm_d0), (25, .iaload, [10], (0, 0), qm_d0), (26, .aload_n 0, [], (0, 0), qm_d0), (27, .getfield 35, [8, 18, 2, 1105], (0, 0), qm_d0), (30, .bipush (7), [], (7, 0), qm_d0), (32, .iload_n 2, [], (0, 0), qm_d0), (33, .iadd, [], (0, 0), qm_d0), (34, .iaload, [10], (0, 0), qm_d0), (35, .iload_n 1, [], (0, 0), qm_d0), (36, .invokestatic 89, [2, 0, 1332, 1334, 122, 1333], (0, 0), qyX10_has), (39, .ifCond .eq (15), [33], (0, 0), qm_d0), (42, .aload_n 0, [], (0, 0), qm_d0), (43, .getfield 35, [8, 18, 2, 1105], (0, 0), qm_d0), (46, .bipush (7), [], (7, 0), qm_d0), (48, .iload_n 1, [], (0, 0), qm_d0), (49, .iadd, [], (0, 0), qm_d0), (50, .iaload, [10], (0, 0), qm_d0), (51, .goto (4), [34], (0, 0), qm_d0), (54, .iconst (0), [], (0, 0), qm_d0), (55, .ior, [], (0, 0), qm_d0), (56, .iastore, [], (0, 0), qm_d0), (57, .iinc 2 (1), [], (1, 0), qm_d0), (60, .goto (-50), [7], (0, 0), qm_d0), (63, .iinc 1 (1), [], (1, 0), qm_d0), (66, .goto (-64), [2], (0, 0), qm_d0), (69, .iconst (0), [], (0, 0), qm_d0), (70, .istore_n 1, [], (0, 0), qm_d0), (71, .iload_n 1, [], (0, 0), qm_d0), (72, .bipush (6), [], (6, 0), qm_d0), (74, .if_icmp .ge (66), [82], (0, 0), qm_d0), (77, .aload_n 0, [], (0, 0), qm_d0), (78, .getfield 35, [8, 18, 2, 1105], (0, 0), qm_d0), (81, .bipush (19), [], (19, 0), qm_d0), (83, .iload_n 1, [], (0, 0), qm_d0), (84, .iadd, [], (0, 0), qm_d0), (85, .iaload, [10], (0, 0), qm_d0), (86, .istore_n 2, [], (0, 0), qm_d0), (87, .iconst (0), [], (0, 0), qm_d0), (88, .istore_n 3, [], (0, 0), qm_d0), (89, .iload_n 3, [], (0, 0), qm_d0), (90, .bipush (6), [], (6, 0), qm_d0), (92, .if_icmp .ge (42), [80], (0, 0), qm_d0), (95, .aload_n 0, [], (0, 0), qm_d0), (96, .getfield 35, [8, 18, 2, 1105], (0, 0), qm_d0), (99, .bipush (19), [], (19, 0), qm_d0), (101, .iload_n 1, [], (0, 0), qm_d0), (102, .iadd, [], (0, 0), qm_d0), (103, .dup2, [], (0, 0), qm_d0), (104, .iaload, [10], (0, 0), qm_d0), (105, .iload_n 2, [], (0, 0), qm_d0), (106, .iload_n 3, [], (0, 0), qm_d0), (107, .invokestatic 89, [2, 0, 1332, 1334, 122, 1333], (0, 0), qyX10_has), (110, .ifCond .eq (15), [75], (0, 0), qm_d0), (113, .aload_n 0, [], (0, 0), qm_d0), (114, .getfield 35, [8, 18, 2, 1105], (0, 0), qm_d0), (117, .bipush (7), [], (7, 0), qm_d0), (119, .iload_n 3, [], (0, 0), qm_d0), (120, .iadd, [], (0, 0), qm_d0), (121, .iaload, [10], (0, 0), qm_d0), (122, .goto (4), [76], (0, 0), qm_d0), (125, .iconst (0), [], (0, 0), qm_d0), (126, .ior, [], (0, 0), qm_d0), (127, .iastore, [], (0, 0), qm_d0), (128, .iinc 3 (1), [], (1, 0), qm_d0), (131, .goto (-42), [54], (0, 0), qm_d0), (134, .iinc 1 (1), [], (1, 0), qm_d0), (137, .goto (-66), [42], (0, 0), qm_d0), (140, .return_, [], (0, 0), qm_d0)])
set_option maxRecDepth 100000 in
theorem okX10_close : qm_okM mX10_close = true := by decide +kernel
def mX10_readText : qm_M := (RX10, qyX10_readText, [(0, .iconst (0), [], (0, 0), qm_d0), (1, .istore_n 2, [], (0, 0), qm_d0), (2, .iload_n 2, [], (0, 0), qm_d0), (3, .sipush (161), [], (161, 0), qm_d0), (6, .if_icmp .ge (34), [21], (0, 0), qm_d0), (9, .aload_n 0, [], (0, 0), qm_d0), (10, .getfield 35, [8, 18, 2, 1105], (0, 0), qm_d0), (13, .iload_n 2, [], (0, 0), qm_d0), (14, .iload_n 1, [], (0, 0), qm_d0), (15, .ifCond .ne (17), [17], (0, 0), qm_d0), (18, .iload_n 2, [], (0, 0), qm_d0), (19, .iconst (1), [], (1, 0), qm_d0), (20, .bipush (6), [], (6, 0), qm_d0), (22, .invokestatic 97, [3, 0, 1242, 1244, 122, 1243], (0, 0), qyX10_in), (25, .ifCond .eq (7), [17], (0, 0), qm_d0), (28, .iconst (1), [], (1, 0), qm_d0), (29, .goto (4), [18], (0, 0), qm_d0), (32, .iconst (0), [], (0, 0), qm_d0), (33, .iastore, [], (0, 0), qm_d0), (34, .iinc 2 (1), [], (1, 0), qm_d0), (37, .goto (-35), [2], (0, 0), qm_d0), (40, .aload_n 0, [], (0, 0), qm_d0), (41, .iconst (-1), [], (-1, 0), qm_d0), (42, .putfield 167, [8, 20, 0, 1107], (0, 0), qm_d0), (45, .aload_n 0, [], (0, 0), qm_d0), (46, .iconst (0), [], (0, 0), qm_d0), (47, .putfield 105, [8, 9, 0, 1096], (0, 0), qm_d0), (50, .aload_n 0, [], (0, 0), qm_d0), (51, .iconst (0), [], (0, 0), qm_d0), (52, .putfield 131, [8, 16, 0, 1103], (0, 0), qm_d0), (55, .aload_n 0, [], (0, 0), qm_d0), (56, .invokevirtual 149, [0, 8, 1257, 1260, 122, 1259, 33], (0, 0), qyX10_token), (59, .aload_n 0, [], (0, 0), qm_d0), (60, .iload_n 1, [], (0, 0), qm_d0), (61, .invokevirtual 214, [1, 8, 1265, 1268, 122, 1267, 35], (0, 0), qyX10_lines), (64, .istore_n 2, [], (0, 0), qm_d0), (65, .iload_n 2, [], (0, 0), qm_d0), (66, .ifCond .eq (36), [55], (0, 0), qm_d0), (69, .iload_n 1, [], (0, 0), qm_d0), (70, .ifCond .ne (32), [55], (0, 0), qm_d0), (73, .aload_n 0, [], (0, 0), qm_d0), (74, .getfield 131, [8, 16, 0, 1103], (0, 0), qm_d0), (77, .ifCond .ne (25), [55], (0, 0), qm_d0), (80, .aload_n 0, [], (0, 0), qm_d0), (81, .getfield 167, [8, 20, 0, 1107], (0, 0), qm_d0), (84, .aload_n 0, [], (0, 0), qm_d0), (85, .getfield 35, [8, 18, 2, 1105], (0, 0), qm_d0), (88, .iconst (0), [], (0, 0), qm_d0), (89, .iaload, [10], (0, 0), qm_d0), (90, .if_icmp .lt (12), [55], (0, 0), qm_d0), (93, .aload_n 0, [], (0, 0), qm_d0), (94, .iconst (4), [], (4, 0), qm_d0), (95, .aload_n 0, [], (0, 0), qm_d0), (96, .getfield 115, [8, 11, 0, 1098], (0, 0), qm_d0), (99, .invokevirtual 141, [2, 8, 1278, 1281, 122, 1280, 38], (0, 0), qyX10_later), (102, .iload_n 1, [], (0, 0), qm_d0), (103, .ifCond .ne (7), [59], (0, 0), qm_d0), (106, .aload_n 0, [], (0, 0), qm_d0), (107, .invokevirtual 218, [0, 8, 1328, 1331, 122, 1330, 47], (0, 0), qyX10_close), (110, .aload_n 0, [], (0, 0), qm_d0), (111, .getfield 17, [8, 3, 2, 1090], (0, 0), qm_d0), (114, .iconst (0), [], (0, 0), qm_d0), (115, .iload_n 2, [], (0, 0), qm_d0), (116, .ifCond .eq (10), [67], (0, 0), qm_d0), (119, .aload_n 0, [], (0, 0), qm_d0), (120, .getfield 131, [8, 16, 0, 1103], (0, 0), qm_d0), (123, .goto (4), [68], (0, 0), qm_d0), (126, .iconst (1), [], (1, 0), qm_d0), (127, .iastore, [], (0, 0), qm_d0), (128, .aload_n 0, [], (0, 0), qm_d0), (129, .getfield 20, [8, 4, 2, 1091], (0, 0), qm_d0), (132, .iconst (0), [], (0, 0), qm_d0), (133, .iload_n 2, [], (0, 0), qm_d0), (134, .ifCond .ne (10), [77], (0, 0), qm_d0), (137, .aload_n 0, [], (0, 0), qm_d0), (138, .getfield 128, [8, 15, 0, 1102], (0, 0), qm_d0), (141, .goto (18), [84], (0, 0), qm_d0), (144, .aload_n 0, [], (0, 0), qm_d0), (145, .getfield 131, [8, 16, 0, 1103], (0, 0), qm_d0), (148, .ifCond .le (10), [83], (0, 0), qm_d0), (151, .aload_n 0, [], (0, 0), qm_d0), (152, .getfield 134, [8, 17, 0, 1104], (0, 0), qm_d0), (155, .goto (4), [84], (0, 0), qm_d0), (158, .iconst (-1), [], (-1, 0), qm_d0), (159, .iastore, [], (0, 0), qm_d0), (160, .aload_n 0, [], (0, 0), qm_d0), (161, .getfield 17, [8, 3, 2, 1090], (0, 0), qm_d0), (164, .iconst (0), [], (0, 0), qm_d0), (165, .iaload, [10], (0, 0), qm_d0), (166, .ifCond .ne (7), [92], (0, 0), qm_d0), (169, .iconst (1), [], (1, 0), qm_d0), (170, .goto (4), [93], (0, 0), qm_d0), (173, .iconst (0), [], (0, 0), qm_d0), (174, .ireturn, [], (0, 0), qm_d0)])
set_option maxRecDepth 100000 in
theorem okX10_readText : qm_okM mX10_readText = true := by decide +kernel
def mX10_store : qm_M := (RX10, qyX10_store, [(0, .iconst (0), [], (0, 0), qm_d0), (1, .istore 4, [], (0, 0), qm_d0), (3, .iload 4, [], (0, 0), qm_d0), (5, .iload_n 2, [], (0, 0), qm_d0), (6, .if_icmp .ge (24), [18], (0, 0), qm_d0), (9, .aload_n 1, [], (0, 0), qm_d0), (10, .iload_n 2, [], (0, 0), qm_d0), (11, .iload_n 3, [], (0, 0), qm_d0), (12, .imul, [], (0, 0), qm_d0), (13, .iload 4, [], (0, 0), qm_d0), (15, .iadd, [], (0, 0), qm_d0), (16, .aload_n 0, [], (0, 0), qm_d0), (17, .getfield 35, [8, 18, 2, 1105], (0, 0), qm_d0), (20, .iload 4, [], (0, 0), qm_d0), (22, .iaload, [10], (0, 0), qm_d0), (23, .iastore, [], (0, 0), qm_d0), (24, .iinc 4 (1), [], (1, 0), qm_d0), (27, .goto (-24), [2], (0, 0), qm_d0), (30, .return_, [], (0, 0), qm_d0)])
set_option maxRecDepth 100000 in
theorem okX10_store : qm_okM mX10_store = true := by decide +kernel
def mX10_text : qm_M := (RX10, qyX10_text, [(0, .aload_n 0, [], (0, 0), qm_d0), (1, .iconst (0), [], (0, 0), qm_d0), (2, .putfield 85, [8, 0, 0, 1087], (0, 0), qm_d0), (5, .aload_n 0, [], (0, 0), qm_d0), (6, .aload_n 0, [], (0, 0), qm_d0), (7, .getfield 13, [8, 2, 2, 1089], (0, 0), qm_d0), (10, .iconst (0), [], (0, 0), qm_d0), (11, .iaload, [10], (0, 0), qm_d0), (12, .putfield 108, [8, 10, 0, 1097], (0, 0), qm_d0), (15, .aload_n 0, [], (0, 0), qm_d0), (16, .getfield 13, [8, 2, 2, 1089], (0, 0), qm_d0), (19, .iconst (0), [], (0, 0), qm_d0), (20, .iconst (0), [], (0, 0), qm_d0), (21, .iastore, [], (0, 0), qm_d0), (22, .aload_n 0, [], (0, 0), qm_d0), (23, .getfield 17, [8, 3, 2, 1090], (0, 0), qm_d0), (26, .iconst (0), [], (0, 0), qm_d0), (27, .iconst (0), [], (0, 0), qm_d0), (28, .iastore, [], (0, 0), qm_d0), (29, .aload_n 0, [], (0, 0), qm_d0), (30, .getfield 20, [8, 4, 2, 1091], (0, 0), qm_d0), (33, .iconst (0), [], (0, 0), qm_d0), (34, .iconst (-1), [], (-1, 0), qm_d0), (35, .iastore, [], (0, 0), qm_d0), (36, .iload_n 1, [], (0, 0), qm_d0), (37, .iconst (0), [], (0, 0), qm_d0), (38, .iconst (2), [], (2, 0), qm_d0), (39, .invokestatic 97, [3, 0, 1242, 1244, 122, 1243], (0, 0), qyX10_in), (42, .ifCond .eq (30), [44], (0, 0), qm_d0), (45, .iload_n 2, [], (0, 0), qm_d0), (46, .iconst (-1), [], (-1, 0), qm_d0), (47, .if_icmp .ne (16), [39], (0, 0), qm_d0), (50, .aload_n 0, [], (0, 0), qm_d0), (51, .getfield 23, [8, 5, 2, 1092], (0, 0), qm_d0), (54, .iload_n 1, [], (0, 0), qm_d0), (55, .iaload, [10], (0, 0), qm_d0), (56, .iconst (2), [], (2, 0), qm_d0), (57, .if_icmp .ne (18), [46], (0, 0), qm_d0), (60, .goto (12), [44], (0, 0), qm_d0), (63, .aload_n 0, [], (0, 0), qm_d0), (64, .iload_n 1, [], (0, 0), qm_d0), (65, .iload_n 2, [], (0, 0), qm_d0), (66, .invokevirtual 221, [2, 8, 1249, 1252, 122, 1251, 31], (0, 0), qyX10_is), (69, .ifCond .ne (6), [46], (0, 0), qm_d0), (72, .bipush (-2), [], (-2, 0), qm_d0), (74, .ireturn, [], (0, 0), qm_d0), (75, .aload_n 0, [], (0, 0), qm_d0), (76, .iload_n 1, [], (0, 0), qm_d0), (77, .invokevirtual 224, [1, 8, 1253, 1256, 122, 1255, 32], (0, 0), qyX10_readText), (80, .ifCond .ne (5), [52], (0, 0), qm_d0), (83, .iconst (-1), [], (-1, 0), qm_d0), (84, .ireturn, [], (0, 0), qm_d0), (85, .iload_n 2, [], (0, 0), qm_d0), (86, .iconst (-1), [], (-1, 0), qm_d0), (87, .if_icmp .ne (12), [60], (0, 0), qm_d0), (90, .aload_n 0, [], (0, 0), qm_d0), (91, .getfield 23, [8, 5, 2, 1092], (0, 0), qm_d0), (94, .iload_n 1, [], (0, 0), qm_d0), (95, .iaload, [10], (0, 0), qm_d0), (96, .goto (4), [61], (0, 0), qm_d0), (99, .iload_n 2, [], (0, 0), qm_d0), (100, .istore_n 3, [], (0, 0), qm_d0), (101, .aload_n 0, [], (0, 0), qm_d0), (102, .getfield 23, [8, 5, 2, 1092], (0, 0), qm_d0), (105, .iload_n 1, [], (0, 0), qm_d0), (106, .dup2, [], (0, 0), qm_d0), (107, .iaload, [10], (0, 0), qm_d0), (108, .iload_n 2, [], (0, 0), qm_d0), (109, .iconst (-1), [], (-1, 0), qm_d0), (110, .if_icmp .ne (7), [72], (0, 0), qm_d0), (113, .iconst (1), [], (1, 0), qm_d0), (114, .goto (4), [73], (0, 0), qm_d0), (117, .iconst (0), [], (0, 0), qm_d0), (118, .iadd, [], (0, 0), qm_d0), (119, .iastore, [], (0, 0), qm_d0), (120, .iload_n 1, [], (0, 0), qm_d0), (121, .ifCond .ne (17), [84], (0, 0), qm_d0), (124, .aload_n 0, [], (0, 0), qm_d0), (125, .aload_n 0, [], (0, 0), qm_d0), (126, .getfield 26, [8, 6, 2, 1093], (0, 0), qm_d0), (129, .bipush (31), [], (31, 0), qm_d0), (131, .iload_n 3, [], (0, 0), qm_d0), (132, .invokevirtual 227, [3, 8, 1335, 1338, 122, 1337, 48], (0, 0), qyX10_store), (135, .goto (34), [100], (0, 0), qm_d0), (138, .iload_n 1, [], (0, 0), qm_d0), (139, .iconst (1), [], (1, 0), qm_d0), (140, .if_icmp .ne (18), [94], (0, 0), qm_d0), (143, .aload_n 0, [], (0, 0), qm_d0), (144, .aload_n 0, [], (0, 0), qm_d0), (145, .getfield 29, [8, 7, 2, 1094], (0, 0), qm_d0), (148, .sipush (161), [], (161, 0), qm_d0), (151, .iload_n 3, [], (0, 0), qm_d0), (152, .invokevirtual 227, [3, 8, 1335, 1338, 122, 1337, 48], (0, 0), qyX10_store), (155, .goto (14), [100], (0, 0), qm_d0), (158, .aload_n 0, [], (0, 0), qm_d0), (159, .aload_n 0, [], (0, 0), qm_d0), (160, .getfield 32, [8, 8, 2, 1095], (0, 0), qm_d0), (163, .bipush (17), [], (17, 0), qm_d0), (165, .iload_n 3, [], (0, 0), qm_d0), (166, .invokevirtual 227, [3, 8, 1335, 1338, 122, 1337, 48], (0, 0), qyX10_store), (169, .iload_n 3, [], (0, 0), qm_d0), (170, .ireturn, [], (0, 0), qm_d0)])
set_option maxRecDepth 100000 in
theorem okX10_text : qm_okM mX10_text = true := by decide +kernel
def mX10_fault : qm_M := (RX10, qyX10_fault, [(0, .aload_n 0, [], (0, 0), qm_d0), (1, .iconst (0), [], (0, 0), qm_d0), (2, .putfield 85, [8, 0, 0, 1087], (0, 0), qm_d0), (5, .iload_n 1, [], (0, 0), qm_d0), (6, .ifCond .ne (12), [10], (0, 0), qm_d0), (9, .aload_n 0, [], (0, 0), qm_d0), (10, .getfield 17, [8, 3, 2, 1090], (0, 0), qm_d0), (13, .iconst (0), [], (0, 0), qm_d0), (14, .iaload, [10], (0, 0), qm_d0), (15, .goto (18), [19], (0, 0), qm_d0), (18, .iload_n 1, [], (0, 0), qm_d0), (19, .iconst (1), [], (1, 0), qm_d0), (20, .if_icmp .ne (12), [18], (0, 0), qm_d0), (23, .aload_n 0, [], (0, 0), qm_d0), (24, .getfield 20, [8, 4, 2, 1091], (0, 0), qm_d0), (27, .iconst (0), [], (0, 0), qm_d0), (28, .iaload, [10], (0, 0), qm_d0), (29, .goto (4), [19], (0, 0), qm_d0), (32, .iconst (-1), [], (-1, 0), qm_d0), (33, .ireturn, [], (0, 0), qm_d0)])
set_option maxRecDepth 100000 in
theorem okX10_fault : qm_okM mX10_fault = true := by decide +kernel
def mX10_of : qm_M := (RX10, qyX10_of, [(0, .aload_n 0, [], (0, 0), qm_d0), (1, .getfield 26, [8, 6, 2, 1093], (0, 0), qm_d0), (4, .bipush (31), [], (31, 0), qm_d0), (6, .aload_n 0, [], (0, 0), qm_d0), (7, .getfield 231, [8, 22, 0, 1109], (0, 0), qm_d0), (10, .imul, [], (0, 0), qm_d0), (11, .iload_n 1, [], (0, 0), qm_d0), (12, .iadd, [], (0, 0), qm_d0), (13, .iaload, [10], (0, 0), qm_d0), (14, .ireturn, [], (0, 0), qm_d0)])
set_option maxRecDepth 100000 in
theorem okX10_of : qm_okM mX10_of = true := by decide +kernel
def mX10_hand : qm_M := (RX10, qyX10_hand, [(0, .aload_n 0, [], (0, 0), qm_d0), (1, .iconst (0), [], (0, 0), qm_d0), (2, .iload_n 1, [], (0, 0), qm_d0), (3, .invokevirtual 221, [2, 8, 1249, 1252, 122, 1251, 31], (0, 0), qyX10_is), (6, .ifCond .ne (5), [7], (0, 0), qm_d0), (9, .iconst (0), [], (0, 0), qm_d0), (10, .ireturn, [], (0, 0), qm_d0), (11, .aload_n 0, [], (0, 0), qm_d0), (12, .iload_n 1, [], (0, 0), qm_d0), (13, .putfield 231, [8, 22, 0, 1109], (0, 0), qm_d0), (16, .aload_n 0, [], (0, 0), qm_d0), (17, .aload_n 0, [], (0, 0), qm_d0), (18, .iconst (0), [], (0, 0), qm_d0), (19, .invokevirtual 234, [1, 8, 1351, 1354, 122, 1353, 50], (0, 0), qyX10_of), (22, .putfield 238, [8, 23, 0, 1110], (0, 0), qm_d0), (25, .aload_n 0, [], (0, 0), qm_d0), (26, .iconst (0), [], (0, 0), qm_d0), (27, .putfield 241, [8, 24, 0, 1111], (0, 0), qm_d0), (30, .aload_n 0, [], (0, 0), qm_d0), (31, .iconst (0), [], (0, 0), qm_d0), (32, .putfield 244, [8, 25, 0, 1112], (0, 0), qm_d0), (35, .aload_n 0, [], (0, 0), qm_d0), (36, .iconst (0), [], (0, 0), qm_d0), (37, .putfield 247, [8, 26, 0, 1113], (0, 0), qm_d0), (40, .aload_n 0, [], (0, 0), qm_d0), (41, .iconst (0), [], (0, 0), qm_d0), (42, .putfield 250, [8, 27, 0, 1114], (0, 0), qm_d0), (45, .iconst (0), [], (0, 0), qm_d0), (46, .istore_n 2, [], (0, 0), qm_d0), (47, .iload_n 2, [], (0, 0), qm_d0), (48, .bipush (6), [], (6, 0), qm_d0), (50, .if_icmp .ge (65), [72], (0, 0), qm_d0), (53, .aload_n 0, [], (0, 0), qm_d0), (54, .getfield 41, [8, 28, 2, 1115], (0, 0), qm_d0), (57, .iload_n 2, [], (0, 0), qm_d0), (58, .iconst (1), [], (1, 0), qm_d0), (59, .iastore, [], (0, 0), qm_d0), (60, .aload_n 0, [], (0, 0), qm_d0), (61, .getfield 44, [8, 29, 2, 1116], (0, 0), qm_d0), (64, .iload_n 2, [], (0, 0), qm_d0), (65, .aload_n 0, [], (0, 0), qm_d0), (66, .bipush (13), [], (13, 0), qm_d0), (68, .iload_n 2, [], (0, 0), qm_d0), (69, .iadd, [], (0, 0), qm_d0), (70, .invokevirtual 234, [1, 8, 1351, 1354, 122, 1353, 50], (0, 0), qyX10_of), (73, .iastore, [], (0, 0), qm_d0), (74, .aload_n 0, [], (0, 0), qm_d0), (75, .getfield 47, [8, 30, 2, 1117], (0, 0), qm_d0), (78, .iload_n 2, [], (0, 0), qm_d0), (79, .aload_n 0, [], (0, 0), qm_d0), (80, .bipush (19), [], (19, 0), qm_d0), (82, .iload_n 2, [], (0, 0), qm_d0), (83, .iadd, [], (0, 0), qm_d0), (84, .invokevirtual 234, [1, 8, 1351, 1354, 122, 1353, 50], (0, 0), qyX10_of), (87, .iastore, [], (0, 0), qm_d0), (88, .aload_n 0, [], (0, 0), qm_d0), (89, .getfield 50, [8, 31, 2, 1118], (0, 0), qm_d0), (92, .iload_n 2, [], (0, 0), qm_d0), (93, .iconst (0), [], (0, 0), qm_d0), (94, .iastore, [], (0, 0), qm_d0), (95, .aload_n 0, [], (0, 0), qm_d0), (96, .getfield 53, [8, 32, 2, 1119], (0, 0), qm_d0), (99, .iload_n 2, [], (0, 0), qm_d0), (100, .iconst (0), [], (0, 0), qm_d0), (101, .iastore, [], (0, 0), qm_d0), (102, .aload_n 0, [], (0, 0), qm_d0), (103, .getfield 56, [8, 33, 2, 1120], (0, 0), qm_d0), (106, .iload_n 2, [], (0, 0), qm_d0), (107, .iconst (0), [], (0, 0), qm_d0), (108, .iastore, [], (0, 0), qm_d0), (109, .iinc 2 (1), [], (1, 0), qm_d0), (112, .goto (-65), [29], (0, 0), qm_d0), (115, .iconst (1), [], (1, 0), qm_d0), (116, .ireturn, [], (0, 0), qm_d0)])
set_option maxRecDepth 100000 in
theorem okX10_hand : qm_okM mX10_hand = true := by decide +kernel
end
section
def mX10_isPerson : qm_M := (RX10, qyX10_isPerson, [(0, .iload_n 1, [], (0, 0), qm_d0), (1, .iconst (0), [], (0, 0), qm_d0), (2, .aload_n 0, [], (0, 0), qm_d0), (3, .getfield 238, [8, 23, 0, 1110], (0, 0), qm_d0), (6, .iconst (1), [], (1, 0), qm_d0), (7, .isub, [], (0, 0), qm_d0), (8, .invokestatic 97, [3, 0, 1242, 1244, 122, 1243], (0, 0), qyX10_in), (11, .ireturn, [], (0, 0), qm_d0)])
set_option maxRecDepth 100000 in
theorem okX10_isPerson : qm_okM mX10_isPerson = true := by decide +kernel
def mX10_whole : qm_M := (RX10, qyX10_whole, [(0, .iconst (1), [], (1, 0), qm_d0), (1, .iload_n 1, [], (0, 0), qm_d0), (2, .ishl, [], (0, 0), qm_d0), (3, .aload_n 0, [], (0, 0), qm_d0), (4, .bipush (7), [], (7, 0), qm_d0), (6, .iload_n 1, [], (0, 0), qm_d0), (7, .iadd, [], (0, 0), qm_d0), (8, .invokevirtual 234, [1, 8, 1351, 1354, 122, 1353, 50], (0, 0), qyX10_of), (11, .ior, [], (0, 0), qm_d0), (12, .ireturn, [], (0, 0), qm_d0)])
set_option maxRecDepth 100000 in
theorem okX10_whole : qm_okM mX10_whole = true := by decide +kernel
def mX10_hears : qm_M := (RX10, qyX10_hears, [(0, .aload_n 0, [], (0, 0), qm_d0), (1, .bipush (25), [], (25, 0), qm_d0), (3, .iload_n 1, [], (0, 0), qm_d0), (4, .iadd, [], (0, 0), qm_d0), (5, .invokevirtual 234, [1, 8, 1351, 1354, 122, 1353, 50], (0, 0), qyX10_of), (8, .iload_n 2, [], (0, 0), qm_d0), (9, .invokestatic 89, [2, 0, 1332, 1334, 122, 1333], (0, 0), qyX10_has), (12, .ireturn, [], (0, 0), qm_d0)])
set_option maxRecDepth 100000 in
theorem okX10_hears : qm_okM mX10_hears = true := by decide +kernel
def mX10_worthOf : qm_M := (RX10, qyX10_worthOf, [(0, .iconst (0), [], (0, 0), qm_d0), (1, .istore_n 2, [], (0, 0), qm_d0), (2, .iconst (0), [], (0, 0), qm_d0), (3, .istore_n 3, [], (0, 0), qm_d0), (4, .iload_n 3, [], (0, 0), qm_d0), (5, .bipush (6), [], (6, 0), qm_d0), (7, .if_icmp .ge (31), [23], (0, 0), qm_d0), (10, .iload_n 2, [], (0, 0), qm_d0), (11, .iload_n 1, [], (0, 0), qm_d0), (12, .iload_n 3, [], (0, 0), qm_d0), (13, .invokestatic 89, [2, 0, 1332, 1334, 122, 1333], (0, 0), qyX10_has), (16, .ifCond .eq (13), [18], (0, 0), qm_d0), (19, .aload_n 0, [], (0, 0), qm_d0), (20, .iconst (1), [], (1, 0), qm_d0), (21, .iload_n 3, [], (0, 0), qm_d0), (22, .iadd, [], (0, 0), qm_d0), (23, .invokevirtual 234, [1, 8, 1351, 1354, 122, 1353, 50], (0, 0), qyX10_of), (26, .goto (4), [19], (0, 0), qm_d0), (29, .iconst (0), [], (0, 0), qm_d0), (30, .iadd, [], (0, 0), qm_d0), (31, .istore_n 2, [], (0, 0), qm_d0), (32, .iinc 3 (1), [], (1, 0), qm_d0), (35, .goto (-31), [4], (0, 0), qm_d0), (38, .iload_n 2, [], (0, 0), qm_d0), (39, .ireturn, [], (0, 0), qm_d0)])
set_option maxRecDepth 100000 in
theorem okX10_worthOf : qm_okM mX10_worthOf = true := by decide +kernel
def mX10_town : qm_M := (RX10, qyX10_town, [(0, .aload_n 0, [], (0, 0), qm_d0), (1, .iconst (0), [], (0, 0), qm_d0), (2, .putfield 85, [8, 0, 0, 1087], (0, 0), qm_d0), (5, .aload_n 0, [], (0, 0), qm_d0), (6, .iload_n 1, [], (0, 0), qm_d0), (7, .invokevirtual 253, [1, 8, 1347, 1350, 122, 1349, 49], (0, 0), qyX10_hand), (10, .ifCond .ne (5), [9], (0, 0), qm_d0), (13, .iconst (-1), [], (-1, 0), qm_d0), (14, .ireturn, [], (0, 0), qm_d0), (15, .iload_n 2, [], (0, 0), qm_d0), (16, .bipush (10), [], (10, 0), qm_d0), (18, .irem, [], (0, 0), qm_d0), (19, .istore_n 3, [], (0, 0), qm_d0), (20, .iload_n 2, [], (0, 0), qm_d0), (21, .bipush (10), [], (10, 0), qm_d0), (23, .idiv, [], (0, 0), qm_d0), (24, .tableswitch (113) (0) (5) #[40, 53, 53, 82, 82, 82], [60, 17, 24, 24, 40, 40, 40], (40, 0), qm_d0), (64, .iload_n 2, [], (0, 0), qm_d0), (65, .ifCond .ne (10), [22], (0, 0), qm_d0), (68, .aload_n 0, [], (0, 0), qm_d0), (69, .getfield 238, [8, 23, 0, 1110], (0, 0), qm_d0), (72, .goto (4), [23], (0, 0), qm_d0), (75, .iconst (-1), [], (-1, 0), qm_d0), (76, .ireturn, [], (0, 0), qm_d0), (77, .iload_n 3, [], (0, 0), qm_d0), (78, .bipush (6), [], (6, 0), qm_d0), (80, .if_icmp .ge (24), [38], (0, 0), qm_d0), (83, .aload_n 0, [], (0, 0), qm_d0), (84, .iload_n 2, [], (0, 0), qm_d0), (85, .bipush (20), [], (20, 0), qm_d0), (87, .if_icmp .ge (7), [33], (0, 0), qm_d0), (90, .iconst (1), [], (1, 0), qm_d0), (91, .goto (5), [34], (0, 0), qm_d0), (94, .bipush (7), [], (7, 0), qm_d0), (96, .iload_n 3, [], (0, 0), qm_d0), (97, .iadd, [], (0, 0), qm_d0), (98, .invokevirtual 234, [1, 8, 1351, 1354, 122, 1353, 50], (0, 0), qyX10_of), (101, .goto (4), [39], (0, 0), qm_d0), (104, .iconst (-1), [], (-1, 0), qm_d0), (105, .ireturn, [], (0, 0), qm_d0), (106, .iload_n 3, [], (0, 0), qm_d0), (107, .aload_n 0, [], (0, 0), qm_d0), (108, .getfield 238, [8, 23, 0, 1110], (0, 0), qm_d0), (111, .if_icmp .ge (24), [58], (0, 0), qm_d0), (114, .aload_n 0, [], (0, 0), qm_d0), (115, .bipush (13), [], (13, 0), qm_d0), (117, .bipush (6), [], (6, 0), qm_d0), (119, .iload_n 2, [], (0, 0), qm_d0), (120, .bipush (10), [], (10, 0), qm_d0), (122, .idiv, [], (0, 0), qm_d0), (123, .iconst (3), [], (3, 0), qm_d0), (124, .isub, [], (0, 0), qm_d0), (125, .imul, [], (0, 0), qm_d0), (126, .iadd, [], (0, 0), qm_d0), (127, .iload_n 3, [], (0, 0), qm_d0), (128, .iadd, [], (0, 0), qm_d0), (129, .invokevirtual 234, [1, 8, 1351, 1354, 122, 1353, 50], (0, 0), qyX10_of), (132, .goto (4), [59], (0, 0), qm_d0), (135, .iconst (-1), [], (-1, 0), qm_d0), (136, .ireturn, [], (0, 0), qm_d0), (137, .iconst (-1), [], (-1, 0), qm_d0), (138, .ireturn, [], (0, 0), qm_d0)])
set_option maxRecDepth 100000 in
theorem okX10_town : qm_okM mX10_town = true := by decide +kernel
def mX10_deeds : qm_M := (RX10, qyX10_deeds, [(0, .aload_n 0, [], (0, 0), qm_d0), (1, .getfield 29, [8, 7, 2, 1094], (0, 0), qm_d0), (4, .sipush (161), [], (161, 0), qm_d0), (7, .aload_n 0, [], (0, 0), qm_d0), (8, .getfield 256, [8, 34, 0, 1121], (0, 0), qm_d0), (11, .imul, [], (0, 0), qm_d0), (12, .iaload, [10], (0, 0), qm_d0), (13, .ireturn, [], (0, 0), qm_d0)])
set_option maxRecDepth 100000 in
theorem okX10_deeds : qm_okM mX10_deeds = true := by decide +kernel
def mX10_deedOf : qm_M := (RX10, qyX10_deedOf, [(0, .aload_n 0, [], (0, 0), qm_d0), (1, .getfield 29, [8, 7, 2, 1094], (0, 0), qm_d0), (4, .sipush (161), [], (161, 0), qm_d0), (7, .aload_n 0, [], (0, 0), qm_d0), (8, .getfield 256, [8, 34, 0, 1121], (0, 0), qm_d0), (11, .imul, [], (0, 0), qm_d0), (12, .iconst (1), [], (1, 0), qm_d0), (13, .iadd, [], (0, 0), qm_d0), (14, .iconst (4), [], (4, 0), qm_d0), (15, .iload_n 1, [], (0, 0), qm_d0), (16, .imul, [], (0, 0), qm_d0), (17, .iadd, [], (0, 0), qm_d0), (18, .iload_n 2, [], (0, 0), qm_d0), (19, .iadd, [], (0, 0), qm_d0), (20, .iaload, [10], (0, 0), qm_d0), (21, .ireturn, [], (0, 0), qm_d0)])
set_option maxRecDepth 100000 in
theorem okX10_deedOf : qm_okM mX10_deedOf = true := by decide +kernel
def mX10_hasYear : qm_M := (RX10, qyX10_hasYear, [(0, .aload_n 0, [], (0, 0), qm_d0), (1, .iload_n 1, [], (0, 0), qm_d0), (2, .putfield 256, [8, 34, 0, 1121], (0, 0), qm_d0), (5, .aload_n 0, [], (0, 0), qm_d0), (6, .iconst (1), [], (1, 0), qm_d0), (7, .iload_n 1, [], (0, 0), qm_d0), (8, .invokevirtual 221, [2, 8, 1249, 1252, 122, 1251, 31], (0, 0), qyX10_is), (11, .ireturn, [], (0, 0), qm_d0)])
set_option maxRecDepth 100000 in
theorem okX10_hasYear : qm_okM mX10_hasYear = true := by decide +kernel
def mX10_deed : qm_M := (RX10, qyX10_deed, [(0, .aload_n 0, [], (0, 0), qm_d0), (1, .iconst (0), [], (0, 0), qm_d0), (2, .putfield 85, [8, 0, 0, 1087], (0, 0), qm_d0), (5, .aload_n 0, [], (0, 0), qm_d0), (6, .iload_n 1, [], (0, 0), qm_d0), (7, .invokevirtual 259, [1, 8, 1359, 1362, 122, 1361, 51], (0, 0), qyX10_hasYear), (10, .ifCond .ne (6), [9], (0, 0), qm_d0), (13, .bipush (-2), [], (-2, 0), qm_d0), (15, .ireturn, [], (0, 0), qm_d0), (16, .iload_n 2, [], (0, 0), qm_d0), (17, .iconst (-1), [], (-1, 0), qm_d0), (18, .if_icmp .ne (17), [19], (0, 0), qm_d0), (21, .iload_n 3, [], (0, 0), qm_d0), (22, .ifCond .ne (10), [17], (0, 0), qm_d0), (25, .aload_n 0, [], (0, 0), qm_d0), (26, .invokevirtual 262, [0, 8, 1363, 1366, 122, 1365, 52], (0, 0), qyX10_deeds), (29, .goto (5), [18], (0, 0), qm_d0), (32, .bipush (-2), [], (-2, 0), qm_d0), (34, .ireturn, [], (0, 0), qm_d0), (35, .iload_n 2, [], (0, 0), qm_d0), (36, .iconst (0), [], (0, 0), qm_d0), (37, .aload_n 0, [], (0, 0), qm_d0), (38, .invokevirtual 262, [0, 8, 1363, 1366, 122, 1365, 52], (0, 0), qyX10_deeds), (41, .iconst (1), [], (1, 0), qm_d0), (42, .isub, [], (0, 0), qm_d0), (43, .invokestatic 97, [3, 0, 1242, 1244, 122, 1243], (0, 0), qyX10_in), (46, .ifCond .eq (21), [37], (0, 0), qm_d0), (49, .iload_n 3, [], (0, 0), qm_d0), (50, .iconst (0), [], (0, 0), qm_d0), (51, .iconst (3), [], (3, 0), qm_d0), (52, .invokestatic 97, [3, 0, 1242, 1244, 122, 1243], (0, 0), qyX10_in), (55, .ifCond .eq (12), [37], (0, 0), qm_d0), (58, .aload_n 0, [], (0, 0), qm_d0), (59, .iload_n 2, [], (0, 0), qm_d0), (60, .iload_n 3, [], (0, 0), qm_d0), (61, .invokevirtual 265, [2, 8, 1367, 1370, 122, 1369, 53], (0, 0), qyX10_deedOf), (64, .goto (5), [38], (0, 0), qm_d0), (67, .bipush (-2), [], (-2, 0), qm_d0), (69, .ireturn, [], (0, 0), qm_d0)])
set_option maxRecDepth 100000 in
theorem okX10_deed : qm_okM mX10_deed = true := by decide +kernel
def mX10_learns : qm_M := (RX10, qyX10_learns, [(0, .aload_n 0, [], (0, 0), qm_d0), (1, .getfield 47, [8, 30, 2, 1117], (0, 0), qm_d0), (4, .iload_n 1, [], (0, 0), qm_d0), (5, .dup2, [], (0, 0), qm_d0), (6, .iaload, [10], (0, 0), qm_d0), (7, .iload_n 2, [], (0, 0), qm_d0), (8, .ior, [], (0, 0), qm_d0), (9, .iastore, [], (0, 0), qm_d0), (10, .aload_n 0, [], (0, 0), qm_d0), (11, .getfield 50, [8, 31, 2, 1118], (0, 0), qm_d0), (14, .iload_n 1, [], (0, 0), qm_d0), (15, .dup2, [], (0, 0), qm_d0), (16, .iaload, [10], (0, 0), qm_d0), (17, .aload_n 0, [], (0, 0), qm_d0), (18, .getfield 47, [8, 30, 2, 1117], (0, 0), qm_d0), (21, .iload_n 1, [], (0, 0), qm_d0), (22, .iaload, [10], (0, 0), qm_d0), (23, .iconst (-1), [], (-1, 0), qm_d0), (24, .ixor, [], (0, 0), qm_d0), (25, .iand, [], (0, 0), qm_d0), (26, .iastore, [], (0, 0), qm_d0), (27, .return_, [], (0, 0), qm_d0)])
set_option maxRecDepth 100000 in
theorem okX10_learns : qm_okM mX10_learns = true := by decide +kernel
def mX10_tells : qm_M := (RX10, qyX10_tells, [(0, .aload_n 0, [], (0, 0), qm_d0), (1, .getfield 41, [8, 28, 2, 1115], (0, 0), qm_d0), (4, .iload_n 1, [], (0, 0), qm_d0), (5, .iaload, [10], (0, 0), qm_d0), (6, .ifCond .eq (16), [12], (0, 0), qm_d0), (9, .aload_n 0, [], (0, 0), qm_d0), (10, .getfield 47, [8, 30, 2, 1117], (0, 0), qm_d0), (13, .iload_n 1, [], (0, 0), qm_d0), (14, .iaload, [10], (0, 0), qm_d0), (15, .iload_n 2, [], (0, 0), qm_d0), (16, .invokestatic 89, [2, 0, 1332, 1334, 122, 1333], (0, 0), qyX10_has), (19, .ifCond .ne (5), [14], (0, 0), qm_d0), (22, .iconst (0), [], (0, 0), qm_d0), (23, .ireturn, [], (0, 0), qm_d0), (24, .aload_n 0, [], (0, 0), qm_d0), (25, .getfield 41, [8, 28, 2, 1115], (0, 0), qm_d0), (28, .iload_n 1, [], (0, 0), qm_d0), (29, .dup2, [], (0, 0), qm_d0), (30, .iaload, [10], (0, 0), qm_d0), (31, .iconst (1), [], (1, 0), qm_d0), (32, .isub, [], (0, 0), qm_d0), (33, .iastore, [], (0, 0), qm_d0), (34, .aload_n 0, [], (0, 0), qm_d0), (35, .dup, [], (0, 0), qm_d0), (36, .getfield 244, [8, 25, 0, 1112], (0, 0), qm_d0), (39, .iconst (1), [], (1, 0), qm_d0), (40, .iadd, [], (0, 0), qm_d0), (41, .putfield 244, [8, 25, 0, 1112], (0, 0), qm_d0), (44, .aload_n 0, [], (0, 0), qm_d0), (45, .getfield 56, [8, 33, 2, 1120], (0, 0), qm_d0), (48, .iload_n 2, [], (0, 0), qm_d0), (49, .dup2, [], (0, 0), qm_d0), (50, .iaload, [10], (0, 0), qm_d0), (51, .iconst (1), [], (1, 0), qm_d0), (52, .iadd, [], (0, 0), qm_d0), (53, .iastore, [], (0, 0), qm_d0), (54, .iconst (0), [], (0, 0), qm_d0), (55, .istore_n 3, [], (0, 0), qm_d0), (56, .iload_n 3, [], (0, 0), qm_d0), (57, .aload_n 0, [], (0, 0), qm_d0), (58, .getfield 238, [8, 23, 0, 1110], (0, 0), qm_d0), (61, .if_icmp .ge (28), [55], (0, 0), qm_d0), (64, .aload_n 0, [], (0, 0), qm_d0), (65, .iload_n 3, [], (0, 0), qm_d0), (66, .iload_n 1, [], (0, 0), qm_d0), (67, .invokevirtual 268, [2, 8, 1403, 1406, 122, 1405, 61], (0, 0), qyX10_hears), (70, .ifCond .eq (13), [53], (0, 0), qm_d0), (73, .aload_n 0, [], (0, 0), qm_d0), (74, .iload_n 3, [], (0, 0), qm_d0), (75, .aload_n 0, [], (0, 0), qm_d0), (76, .iload_n 2, [], (0, 0), qm_d0), (77, .invokevirtual 271, [1, 8, 1407, 1410, 122, 1409, 62], (0, 0), qyX10_whole), (80, .invokevirtual 274, [2, 8, 1411, 1414, 122, 1413, 63], (0, 0), qyX10_learns), (83, .iinc 3 (1), [], (1, 0), qm_d0), (86, .goto (-30), [38], (0, 0), qm_d0), (89, .iconst (1), [], (1, 0), qm_d0), (90, .ireturn, [], (0, 0), qm_d0)])
set_option maxRecDepth 100000 in
theorem okX10_tells : qm_okM mX10_tells = true := by decide +kernel
def mX10_asks : qm_M := (RX10, qyX10_asks, [(0, .iconst (0), [], (0, 0), qm_d0), (1, .istore_n 3, [], (0, 0), qm_d0), (2, .iload_n 3, [], (0, 0), qm_d0), (3, .aload_n 0, [], (0, 0), qm_d0), (4, .getfield 238, [8, 23, 0, 1110], (0, 0), qm_d0), (7, .if_icmp .ge (79), [50], (0, 0), qm_d0), (10, .aload_n 0, [], (0, 0), qm_d0), (11, .iload_n 3, [], (0, 0), qm_d0), (12, .iload_n 1, [], (0, 0), qm_d0), (13, .invokevirtual 268, [2, 8, 1403, 1406, 122, 1405, 61], (0, 0), qyX10_hears), (16, .ifCond .eq (64), [48], (0, 0), qm_d0), (19, .aload_n 0, [], (0, 0), qm_d0), (20, .getfield 47, [8, 30, 2, 1117], (0, 0), qm_d0), (23, .iload_n 3, [], (0, 0), qm_d0), (24, .iaload, [10], (0, 0), qm_d0), (25, .iload_n 2, [], (0, 0), qm_d0), (26, .invokestatic 89, [2, 0, 1332, 1334, 122, 1333], (0, 0), qyX10_has), (29, .ifCond .ne (51), [48], (0, 0), qm_d0), (32, .aload_n 0, [], (0, 0), qm_d0), (33, .getfield 50, [8, 31, 2, 1118], (0, 0), qm_d0), (36, .iload_n 3, [], (0, 0), qm_d0), (37, .iaload, [10], (0, 0), qm_d0), (38, .iload_n 2, [], (0, 0), qm_d0), (39, .invokestatic 89, [2, 0, 1332, 1334, 122, 1333], (0, 0), qyX10_has), (42, .ifCond .eq (26), [38], (0, 0), qm_d0), (45, .aload_n 0, [], (0, 0), qm_d0), (46, .iload_n 3, [], (0, 0), qm_d0), (47, .aload_n 0, [], (0, 0), qm_d0), (48, .iload_n 2, [], (0, 0), qm_d0), (49, .invokevirtual 271, [1, 8, 1407, 1410, 122, 1409, 62], (0, 0), qyX10_whole), (52, .invokevirtual 274, [2, 8, 1411, 1414, 122, 1413, 63], (0, 0), qyX10_learns), (55, .aload_n 0, [], (0, 0), qm_d0), (56, .dup, [], (0, 0), qm_d0), (57, .getfield 250, [8, 27, 0, 1114], (0, 0), qm_d0), (60, .iconst (1), [], (1, 0), qm_d0), (61, .iadd, [], (0, 0), qm_d0), (62, .putfield 250, [8, 27, 0, 1114], (0, 0), qm_d0), (65, .goto (15), [48], (0, 0), qm_d0), (68, .aload_n 0, [], (0, 0), qm_d0), (69, .getfield 50, [8, 31, 2, 1118], (0, 0), qm_d0), (72, .iload_n 3, [], (0, 0), qm_d0), (73, .dup2, [], (0, 0), qm_d0), (74, .iaload, [10], (0, 0), qm_d0), (75, .iconst (1), [], (1, 0), qm_d0), (76, .iload_n 2, [], (0, 0), qm_d0), (77, .ishl, [], (0, 0), qm_d0), (78, .ior, [], (0, 0), qm_d0), (79, .iastore, [], (0, 0), qm_d0), (80, .iinc 3 (1), [], (1, 0), qm_d0), (83, .goto (-81), [2], (0, 0), qm_d0), (86, .return_, [], (0, 0), qm_d0)])
set_option maxRecDepth 100000 in
theorem okX10_asks : qm_okM mX10_asks = true := by decide +kernel
def mX10_sells : qm_M := (RX10, qyX10_sells, [(0, .aload_n 0, [], (0, 0), qm_d0), (1, .iload_n 2, [], (0, 0), qm_d0), (2, .invokevirtual 277, [1, 8, 1395, 1398, 122, 1397, 59], (0, 0), qyX10_isPerson), (5, .ifCond .eq (22), [15], (0, 0), qm_d0), (8, .aload_n 0, [], (0, 0), qm_d0), (9, .getfield 41, [8, 28, 2, 1115], (0, 0), qm_d0), (12, .iload_n 1, [], (0, 0), qm_d0), (13, .iaload, [10], (0, 0), qm_d0), (14, .ifCond .eq (13), [15], (0, 0), qm_d0), (17, .aload_n 0, [], (0, 0), qm_d0), (18, .getfield 44, [8, 29, 2, 1116], (0, 0), qm_d0), (21, .iload_n 2, [], (0, 0), qm_d0), (22, .iaload, [10], (0, 0), qm_d0), (23, .iload_n 3, [], (0, 0), qm_d0), (24, .if_icmp .ge (5), [17], (0, 0), qm_d0), (27, .iconst (0), [], (0, 0), qm_d0), (28, .ireturn, [], (0, 0), qm_d0), (29, .aload_n 0, [], (0, 0), qm_d0), (30, .getfield 41, [8, 28, 2, 1115], (0, 0), qm_d0), (33, .iload_n 1, [], (0, 0), qm_d0), (34, .dup2, [], (0, 0), qm_d0), (35, .iaload, [10], (0, 0), qm_d0), (36, .iconst (1), [], (1, 0), qm_d0), (37, .isub, [], (0, 0), qm_d0), (38, .iastore, [], (0, 0), qm_d0), (39, .aload_n 0, [], (0, 0), qm_d0), (40, .getfield 41, [8, 28, 2, 1115], (0, 0), qm_d0), (43, .iload_n 2, [], (0, 0), qm_d0), (44, .dup2, [], (0, 0), qm_d0), (45, .iaload, [10], (0, 0), qm_d0), (46, .iconst (1), [], (1, 0), qm_d0), (47, .iadd, [], (0, 0), qm_d0), (48, .iastore, [], (0, 0), qm_d0), (49, .aload_n 0, [], (0, 0), qm_d0), (50, .getfield 44, [8, 29, 2, 1116], (0, 0), qm_d0), (53, .iload_n 2, [], (0, 0), qm_d0), (54, .dup2, [], (0, 0), qm_d0), (55, .iaload, [10], (0, 0), qm_d0), (56, .iload_n 3, [], (0, 0), qm_d0), (57, .isub, [], (0, 0), qm_d0), (58, .iastore, [], (0, 0), qm_d0), (59, .aload_n 0, [], (0, 0), qm_d0), (60, .getfield 44, [8, 29, 2, 1116], (0, 0), qm_d0), (63, .iload_n 1, [], (0, 0), qm_d0), (64, .bipush (99), [], (99, 0), qm_d0), (66, .aload_n 0, [], (0, 0), qm_d0), (67, .getfield 44, [8, 29, 2, 1116], (0, 0), qm_d0), (70, .iload_n 1, [], (0, 0), qm_d0), (71, .iaload, [10], (0, 0), qm_d0), (72, .iload_n 3, [], (0, 0), qm_d0), (73, .iadd, [], (0, 0), qm_d0), (74, .invokestatic 280, [2, 0, 1423, 1425, 122, 1424], (0, 0), qyX10_lesser), (77, .iastore, [], (0, 0), qm_d0), (78, .iconst (1), [], (1, 0), qm_d0), (79, .ireturn, [], (0, 0), qm_d0)])
set_option maxRecDepth 100000 in
theorem okX10_sells : qm_okM mX10_sells = true := by decide +kernel
def mX10_eve : qm_M := (RX10, qyX10_eve, [(0, .iconst (0), [], (0, 0), qm_d0), (1, .istore_n 1, [], (0, 0), qm_d0), (2, .iload_n 1, [], (0, 0), qm_d0), (3, .aload_n 0, [], (0, 0), qm_d0), (4, .getfield 238, [8, 23, 0, 1110], (0, 0), qm_d0), (7, .if_icmp .ge (53), [38], (0, 0), qm_d0), (10, .aload_n 0, [], (0, 0), qm_d0), (11, .dup, [], (0, 0), qm_d0), (12, .getfield 247, [8, 26, 0, 1113], (0, 0), qm_d0), (15, .aload_n 0, [], (0, 0), qm_d0), (16, .getfield 41, [8, 28, 2, 1115], (0, 0), qm_d0), (19, .iload_n 1, [], (0, 0), qm_d0), (20, .iaload, [10], (0, 0), qm_d0), (21, .iadd, [], (0, 0), qm_d0), (22, .putfield 247, [8, 26, 0, 1113], (0, 0), qm_d0), (25, .aload_n 0, [], (0, 0), qm_d0), (26, .getfield 53, [8, 32, 2, 1119], (0, 0), qm_d0), (29, .iload_n 1, [], (0, 0), qm_d0), (30, .dup2, [], (0, 0), qm_d0), (31, .iaload, [10], (0, 0), qm_d0), (32, .aload_n 0, [], (0, 0), qm_d0), (33, .getfield 41, [8, 28, 2, 1115], (0, 0), qm_d0), (36, .iload_n 1, [], (0, 0), qm_d0), (37, .iaload, [10], (0, 0), qm_d0), (38, .iadd, [], (0, 0), qm_d0), (39, .iastore, [], (0, 0), qm_d0), (40, .aload_n 0, [], (0, 0), qm_d0), (41, .getfield 41, [8, 28, 2, 1115], (0, 0), qm_d0), (44, .iload_n 1, [], (0, 0), qm_d0), (45, .iconst (1), [], (1, 0), qm_d0), (46, .iastore, [], (0, 0), qm_d0), (47, .aload_n 0, [], (0, 0), qm_d0), (48, .getfield 50, [8, 31, 2, 1118], (0, 0), qm_d0), (51, .iload_n 1, [], (0, 0), qm_d0), (52, .iconst (0), [], (0, 0), qm_d0), (53, .iastore, [], (0, 0), qm_d0), (54, .iinc 1 (1), [], (1, 0), qm_d0), (57, .goto (-55), [2], (0, 0), qm_d0), (60, .aload_n 0, [], (0, 0), qm_d0), (61, .dup, [], (0, 0), qm_d0), (62, .getfield 241, [8, 24, 0, 1111], (0, 0), qm_d0), (65, .iconst (1), [], (1, 0), qm_d0), (66, .iadd, [], (0, 0), qm_d0), (67, .putfield 241, [8, 24, 0, 1111], (0, 0), qm_d0), (70, .return_, [], (0, 0), qm_d0)])
set_option maxRecDepth 100000 in
theorem okX10_eve : qm_okM mX10_eve = true := by decide +kernel
def mX10_does : qm_M := (RX10, qyX10_does, [(0, .iload_n 1, [], (0, 0), qm_d0), (1, .iconst (4), [], (4, 0), qm_d0), (2, .if_icmp .ne (9), [7], (0, 0), qm_d0), (5, .aload_n 0, [], (0, 0), qm_d0), (6, .invokevirtual 283, [0, 8, 1391, 1394, 122, 1393, 58], (0, 0), qyX10_eve), (9, .iconst (1), [], (1, 0), qm_d0), (10, .ireturn, [], (0, 0), qm_d0), (11, .aload_n 0, [], (0, 0), qm_d0), (12, .iload_n 2, [], (0, 0), qm_d0), (13, .invokevirtual 277, [1, 8, 1395, 1398, 122, 1397, 59], (0, 0), qyX10_isPerson), (16, .ifCond .ne (5), [13], (0, 0), qm_d0), (19, .iconst (0), [], (0, 0), qm_d0), (20, .ireturn, [], (0, 0), qm_d0), (21, .iload_n 1, [], (0, 0), qm_d0), (22, .tableswitch (53) (0) (2) #[26, 33, 41], [34, 15, 20, 26], (26, 0), qm_d0), (48, .aload_n 0, [], (0, 0), qm_d0), (49, .iload_n 2, [], (0, 0), qm_d0), (50, .iload_n 3, [], (0, 0), qm_d0), (51, .invokevirtual 286, [2, 8, 1399, 1402, 122, 1401, 60], (0, 0), qyX10_tells), (54, .ireturn, [], (0, 0), qm_d0), (55, .aload_n 0, [], (0, 0), qm_d0), (56, .iload_n 2, [], (0, 0), qm_d0), (57, .iload_n 3, [], (0, 0), qm_d0), (58, .invokevirtual 289, [2, 8, 1415, 1418, 122, 1417, 64], (0, 0), qyX10_asks), (61, .iconst (1), [], (1, 0), qm_d0), (62, .ireturn, [], (0, 0), qm_d0), (63, .aload_n 0, [], (0, 0), qm_d0), (64, .iload_n 2, [], (0, 0), qm_d0), (65, .aload_n 0, [], (0, 0), qm_d0), (66, .iload_n 3, [], (0, 0), qm_d0), (67, .invokevirtual 271, [1, 8, 1407, 1410, 122, 1409, 62], (0, 0), qyX10_whole), (70, .invokevirtual 274, [2, 8, 1411, 1414, 122, 1413, 63], (0, 0), qyX10_learns), (73, .iconst (1), [], (1, 0), qm_d0), (74, .ireturn, [], (0, 0), qm_d0), (75, .aload_n 0, [], (0, 0), qm_d0), (76, .iload_n 2, [], (0, 0), qm_d0), (77, .iload_n 3, [], (0, 0), qm_d0), (78, .iload 4, [], (0, 0), qm_d0), (80, .invokevirtual 292, [3, 8, 1419, 1422, 122, 1421, 65], (0, 0), qyX10_sells), (83, .ireturn, [], (0, 0), qm_d0)])
set_option maxRecDepth 100000 in
theorem okX10_does : qm_okM mX10_does = true := by decide +kernel
def mX10_doesDeed : qm_M := (RX10, qyX10_doesDeed, [(0, .aload_n 0, [], (0, 0), qm_d0), (1, .aload_n 0, [], (0, 0), qm_d0), (2, .iload_n 1, [], (0, 0), qm_d0), (3, .iconst (0), [], (0, 0), qm_d0), (4, .invokevirtual 265, [2, 8, 1367, 1370, 122, 1369, 53], (0, 0), qyX10_deedOf), (7, .aload_n 0, [], (0, 0), qm_d0), (8, .iload_n 1, [], (0, 0), qm_d0), (9, .iconst (1), [], (1, 0), qm_d0), (10, .invokevirtual 265, [2, 8, 1367, 1370, 122, 1369, 53], (0, 0), qyX10_deedOf), (13, .aload_n 0, [], (0, 0), qm_d0), (14, .iload_n 1, [], (0, 0), qm_d0), (15, .iconst (2), [], (2, 0), qm_d0), (16, .invokevirtual 265, [2, 8, 1367, 1370, 122, 1369, 53], (0, 0), qyX10_deedOf), (19, .aload_n 0, [], (0, 0), qm_d0), (20, .iload_n 1, [], (0, 0), qm_d0), (21, .iconst (3), [], (3, 0), qm_d0), (22, .invokevirtual 265, [2, 8, 1367, 1370, 122, 1369, 53], (0, 0), qyX10_deedOf), (25, .invokevirtual 295, [4, 8, 1387, 1390, 122, 1389, 57], (0, 0), qyX10_does), (28, .ireturn, [], (0, 0), qm_d0)])
set_option maxRecDepth 100000 in
theorem okX10_doesDeed : qm_okM mX10_doesDeed = true := by decide +kernel
def mX10_play : qm_M := (RX10, qyX10_play, [(0, .iconst (0), [], (0, 0), qm_d0), (1, .istore_n 2, [], (0, 0), qm_d0), (2, .iload_n 2, [], (0, 0), qm_d0), (3, .iload_n 1, [], (0, 0), qm_d0), (4, .if_icmp .ge (17), [11], (0, 0), qm_d0), (7, .aload_n 0, [], (0, 0), qm_d0), (8, .iload_n 2, [], (0, 0), qm_d0), (9, .invokevirtual 298, [1, 8, 1383, 1386, 122, 1385, 56], (0, 0), qyX10_doesDeed), (12, .ifCond .eq (9), [11], (0, 0), qm_d0), (15, .iinc 2 (1), [], (1, 0), qm_d0), (18, .goto (-16), [2], (0, 0), qm_d0), (21, .iload_n 2, [], (0, 0), qm_d0), (22, .ireturn, [], (0, 0), qm_d0)])
set_option maxRecDepth 100000 in
theorem okX10_play : qm_okM mX10_play = true := by decide +kernel
def mX10_layAll : qm_M := (RX10, qyX10_layAll, [(0, .aload_n 0, [], (0, 0), qm_d0), (1, .iload_n 2, [], (0, 0), qm_d0), (2, .invokevirtual 259, [1, 8, 1359, 1362, 122, 1361, 51], (0, 0), qyX10_hasYear), (5, .ifCond .eq (15), [10], (0, 0), qm_d0), (8, .aload_n 0, [], (0, 0), qm_d0), (9, .iload_n 1, [], (0, 0), qm_d0), (10, .invokevirtual 253, [1, 8, 1347, 1350, 122, 1349, 49], (0, 0), qyX10_hand), (13, .ifCond .eq (7), [10], (0, 0), qm_d0), (16, .iconst (1), [], (1, 0), qm_d0), (17, .goto (4), [11], (0, 0), qm_d0), (20, .iconst (0), [], (0, 0), qm_d0), (21, .ireturn, [], (0, 0), qm_d0)])
set_option maxRecDepth 100000 in
theorem okX10_layAll : qm_okM mX10_layAll = true := by decide +kernel
def mX10_till : qm_M := (RX10, qyX10_till, [(0, .aload_n 0, [], (0, 0), qm_d0), (1, .iconst (0), [], (0, 0), qm_d0), (2, .putfield 85, [8, 0, 0, 1087], (0, 0), qm_d0), (5, .aload_n 0, [], (0, 0), qm_d0), (6, .iload_n 1, [], (0, 0), qm_d0), (7, .iload_n 2, [], (0, 0), qm_d0), (8, .invokevirtual 301, [2, 8, 1375, 1378, 122, 1377, 54], (0, 0), qyX10_layAll), (11, .ifCond .eq (14), [13], (0, 0), qm_d0), (14, .aload_n 0, [], (0, 0), qm_d0), (15, .aload_n 0, [], (0, 0), qm_d0), (16, .invokevirtual 262, [0, 8, 1363, 1366, 122, 1365, 52], (0, 0), qyX10_deeds), (19, .invokevirtual 304, [1, 8, 1379, 1382, 122, 1381, 55], (0, 0), qyX10_play), (22, .goto (4), [14], (0, 0), qm_d0), (25, .iconst (-1), [], (-1, 0), qm_d0), (26, .ireturn, [], (0, 0), qm_d0)])
set_option maxRecDepth 100000 in
theorem okX10_till : qm_okM mX10_till = true := by decide +kernel
def mX10_ofState : qm_M := (RX10, qyX10_ofState, [(0, .iload_n 1, [], (0, 0), qm_d0), (1, .bipush (10), [], (10, 0), qm_d0), (3, .irem, [], (0, 0), qm_d0), (4, .istore_n 2, [], (0, 0), qm_d0), (5, .iload_n 1, [], (0, 0), qm_d0), (6, .bipush (10), [], (10, 0), qm_d0), (8, .if_icmp .lt (13), [13], (0, 0), qm_d0), (11, .iload_n 2, [], (0, 0), qm_d0), (12, .aload_n 0, [], (0, 0), qm_d0), (13, .getfield 238, [8, 23, 0, 1110], (0, 0), qm_d0), (16, .if_icmp .lt (5), [13], (0, 0), qm_d0), (19, .iconst (-1), [], (-1, 0), qm_d0), (20, .ireturn, [], (0, 0), qm_d0), (21, .iload_n 1, [], (0, 0), qm_d0), (22, .bipush (10), [], (10, 0), qm_d0), (24, .idiv, [], (0, 0), qm_d0), (25, .tableswitch (100) (0) (4) #[35, 72, 79, 86, 93], [56, 17, 36, 41, 46, 51], (35, 0), qm_d0), (60, .iload_n 1, [], (0, 0), qm_d0), (61, .ifCond .ne (10), [22], (0, 0), qm_d0), (64, .aload_n 0, [], (0, 0), qm_d0), (65, .getfield 241, [8, 24, 0, 1111], (0, 0), qm_d0), (68, .goto (28), [35], (0, 0), qm_d0), (71, .iload_n 1, [], (0, 0), qm_d0), (72, .iconst (1), [], (1, 0), qm_d0), (73, .if_icmp .ne (10), [28], (0, 0), qm_d0), (76, .aload_n 0, [], (0, 0), qm_d0), (77, .getfield 244, [8, 25, 0, 1112], (0, 0), qm_d0), (80, .goto (16), [35], (0, 0), qm_d0), (83, .iload_n 1, [], (0, 0), qm_d0), (84, .iconst (2), [], (2, 0), qm_d0), (85, .if_icmp .ne (10), [34], (0, 0), qm_d0), (88, .aload_n 0, [], (0, 0), qm_d0), (89, .getfield 247, [8, 26, 0, 1113], (0, 0), qm_d0), (92, .goto (4), [35], (0, 0), qm_d0), (95, .iconst (-1), [], (-1, 0), qm_d0), (96, .ireturn, [], (0, 0), qm_d0), (97, .aload_n 0, [], (0, 0), qm_d0), (98, .getfield 41, [8, 28, 2, 1115], (0, 0), qm_d0), (101, .iload_n 2, [], (0, 0), qm_d0), (102, .iaload, [10], (0, 0), qm_d0), (103, .ireturn, [], (0, 0), qm_d0), (104, .aload_n 0, [], (0, 0), qm_d0), (105, .getfield 44, [8, 29, 2, 1116], (0, 0), qm_d0), (108, .iload_n 2, [], (0, 0), qm_d0), (109, .iaload, [10], (0, 0), qm_d0), (110, .ireturn, [], (0, 0), qm_d0), (111, .aload_n 0, [], (0, 0), qm_d0), (112, .getfield 47, [8, 30, 2, 1117], (0, 0), qm_d0), (115, .iload_n 2, [], (0, 0), qm_d0), (116, .iaload, [10], (0, 0), qm_d0), (117, .ireturn, [], (0, 0), qm_d0), (118, .aload_n 0, [], (0, 0), qm_d0), (119, .getfield 50, [8, 31, 2, 1118], (0, 0), qm_d0), (122, .iload_n 2, [], (0, 0), qm_d0), (123, .iaload, [10], (0, 0), qm_d0), (124, .ireturn, [], (0, 0), qm_d0), (125, .iconst (-1), [], (-1, 0), qm_d0), (126, .ireturn, [], (0, 0), qm_d0)])
set_option maxRecDepth 100000 in
theorem okX10_ofState : qm_okM mX10_ofState = true := by decide +kernel
def mX10_state : qm_M := (RX10, qyX10_state, [(0, .aload_n 0, [], (0, 0), qm_d0), (1, .iconst (0), [], (0, 0), qm_d0), (2, .putfield 85, [8, 0, 0, 1087], (0, 0), qm_d0), (5, .aload_n 0, [], (0, 0), qm_d0), (6, .iload_n 1, [], (0, 0), qm_d0), (7, .iload_n 2, [], (0, 0), qm_d0), (8, .invokevirtual 301, [2, 8, 1375, 1378, 122, 1377, 54], (0, 0), qyX10_layAll), (11, .ifCond .eq (33), [23], (0, 0), qm_d0), (14, .iload_n 3, [], (0, 0), qm_d0), (15, .iconst (0), [], (0, 0), qm_d0), (16, .aload_n 0, [], (0, 0), qm_d0), (17, .invokevirtual 262, [0, 8, 1363, 1366, 122, 1365, 52], (0, 0), qyX10_deeds), (20, .invokestatic 97, [3, 0, 1242, 1244, 122, 1243], (0, 0), qyX10_in), (23, .ifCond .eq (21), [23], (0, 0), qm_d0), (26, .aload_n 0, [], (0, 0), qm_d0), (27, .iload_n 3, [], (0, 0), qm_d0), (28, .invokevirtual 304, [1, 8, 1379, 1382, 122, 1381, 55], (0, 0), qyX10_play), (31, .iload_n 3, [], (0, 0), qm_d0), (32, .if_icmp .ne (12), [23], (0, 0), qm_d0), (35, .aload_n 0, [], (0, 0), qm_d0), (36, .iload 4, [], (0, 0), qm_d0), (38, .invokevirtual 307, [1, 8, 1430, 1433, 122, 1432, 66], (0, 0), qyX10_ofState), (41, .goto (4), [24], (0, 0), qm_d0), (44, .iconst (-1), [], (-1, 0), qm_d0), (45, .ireturn, [], (0, 0), qm_d0)])
set_option maxRecDepth 100000 in
theorem okX10_state : qm_okM mX10_state = true := by decide +kernel
def mX10_knowers : qm_M := (RX10, qyX10_knowers, [(0, .iconst (0), [], (0, 0), qm_d0), (1, .istore_n 2, [], (0, 0), qm_d0), (2, .iconst (0), [], (0, 0), qm_d0), (3, .istore_n 3, [], (0, 0), qm_d0), (4, .iload_n 3, [], (0, 0), qm_d0), (5, .aload_n 0, [], (0, 0), qm_d0), (6, .getfield 238, [8, 23, 0, 1110], (0, 0), qm_d0), (9, .if_icmp .ge (32), [25], (0, 0), qm_d0), (12, .iload_n 2, [], (0, 0), qm_d0), (13, .aload_n 0, [], (0, 0), qm_d0), (14, .getfield 47, [8, 30, 2, 1117], (0, 0), qm_d0), (17, .iload_n 3, [], (0, 0), qm_d0), (18, .iaload, [10], (0, 0), qm_d0), (19, .iload_n 1, [], (0, 0), qm_d0), (20, .invokestatic 89, [2, 0, 1332, 1334, 122, 1333], (0, 0), qyX10_has), (23, .ifCond .eq (9), [20], (0, 0), qm_d0), (26, .iconst (1), [], (1, 0), qm_d0), (27, .iload_n 3, [], (0, 0), qm_d0), (28, .ishl, [], (0, 0), qm_d0), (29, .goto (4), [21], (0, 0), qm_d0), (32, .iconst (0), [], (0, 0), qm_d0), (33, .ior, [], (0, 0), qm_d0), (34, .istore_n 2, [], (0, 0), qm_d0), (35, .iinc 3 (1), [], (1, 0), qm_d0), (38, .goto (-34), [4], (0, 0), qm_d0), (41, .iload_n 2, [], (0, 0), qm_d0), (42, .ireturn, [], (0, 0), qm_d0)])
set_option maxRecDepth 100000 in
theorem okX10_knowers : qm_okM mX10_knowers = true := by decide +kernel
def mX10_toldBy : qm_M := (RX10, qyX10_toldBy, [(0, .iload_n 1, [], (0, 0), qm_d0), (1, .istore_n 3, [], (0, 0), qm_d0), (2, .iconst (0), [], (0, 0), qm_d0), (3, .istore 4, [], (0, 0), qm_d0), (5, .iload 4, [], (0, 0), qm_d0), (7, .aload_n 0, [], (0, 0), qm_d0), (8, .getfield 238, [8, 23, 0, 1110], (0, 0), qm_d0), (11, .if_icmp .ge (30), [23], (0, 0), qm_d0), (14, .iload_n 3, [], (0, 0), qm_d0), (15, .aload_n 0, [], (0, 0), qm_d0), (16, .iload 4, [], (0, 0), qm_d0), (18, .iload_n 2, [], (0, 0), qm_d0), (19, .invokevirtual 268, [2, 8, 1403, 1406, 122, 1405, 61], (0, 0), qyX10_hears), (22, .ifCond .eq (10), [18], (0, 0), qm_d0), (25, .iconst (1), [], (1, 0), qm_d0), (26, .iload 4, [], (0, 0), qm_d0), (28, .ishl, [], (0, 0), qm_d0), (29, .goto (4), [19], (0, 0), qm_d0), (32, .iconst (0), [], (0, 0), qm_d0), (33, .ior, [], (0, 0), qm_d0), (34, .istore_n 3, [], (0, 0), qm_d0), (35, .iinc 4 (1), [], (1, 0), qm_d0), (38, .goto (-33), [4], (0, 0), qm_d0), (41, .iload_n 3, [], (0, 0), qm_d0), (42, .ireturn, [], (0, 0), qm_d0)])
set_option maxRecDepth 100000 in
theorem okX10_toldBy : qm_okM mX10_toldBy = true := by decide +kernel
def mX10_findLeft : qm_M := (RX10, qyX10_findLeft, [(0, .iconst (1), [], (1, 0), qm_d0), (1, .aload_n 0, [], (0, 0), qm_d0), (2, .getfield 238, [8, 23, 0, 1110], (0, 0), qm_d0), (5, .ishl, [], (0, 0), qm_d0), (6, .iconst (1), [], (1, 0), qm_d0), (7, .isub, [], (0, 0), qm_d0), (8, .istore_n 2, [], (0, 0), qm_d0), (9, .iload_n 2, [], (0, 0), qm_d0), (10, .ifCond .lt (112), [69], (0, 0), qm_d0), (13, .aload_n 0, [], (0, 0), qm_d0), (14, .getfield 59, [8, 35, 2, 1122], (0, 0), qm_d0), (17, .iload_n 2, [], (0, 0), qm_d0), (18, .iload_n 2, [], (0, 0), qm_d0), (19, .iload_n 1, [], (0, 0), qm_d0), (20, .iand, [], (0, 0), qm_d0), (21, .iload_n 1, [], (0, 0), qm_d0), (22, .if_icmp .ne (7), [19], (0, 0), qm_d0), (25, .iconst (0), [], (0, 0), qm_d0), (26, .goto (6), [20], (0, 0), qm_d0), (29, .ldc_w 310, [1442], (1000000, 0), qm_d0), (32, .iastore, [], (0, 0), qm_d0), (33, .iconst (0), [], (0, 0), qm_d0), (34, .istore_n 3, [], (0, 0), qm_d0), (35, .iload_n 3, [], (0, 0), qm_d0), (36, .aload_n 0, [], (0, 0), qm_d0), (37, .getfield 238, [8, 23, 0, 1110], (0, 0), qm_d0), (40, .if_icmp .ge (76), [67], (0, 0), qm_d0), (43, .aload_n 0, [], (0, 0), qm_d0), (44, .iload_n 2, [], (0, 0), qm_d0), (45, .iload_n 3, [], (0, 0), qm_d0), (46, .invokevirtual 311, [2, 8, 1443, 1446, 122, 1445, 68], (0, 0), qyX10_toldBy), (49, .istore 4, [], (0, 0), qm_d0), (51, .iload_n 2, [], (0, 0), qm_d0), (52, .iload_n 3, [], (0, 0), qm_d0), (53, .invokestatic 89, [2, 0, 1332, 1334, 122, 1333], (0, 0), qyX10_has), (56, .ifCond .eq (13), [41], (0, 0), qm_d0), (59, .iload 4, [], (0, 0), qm_d0), (61, .iload_n 2, [], (0, 0), qm_d0), (62, .if_icmp .eq (7), [41], (0, 0), qm_d0), (65, .iconst (1), [], (1, 0), qm_d0), (66, .goto (4), [42], (0, 0), qm_d0), (69, .iconst (0), [], (0, 0), qm_d0), (70, .istore 5, [], (0, 0), qm_d0), (72, .aload_n 0, [], (0, 0), qm_d0), (73, .getfield 59, [8, 35, 2, 1122], (0, 0), qm_d0), (76, .iload_n 2, [], (0, 0), qm_d0), (77, .iload 5, [], (0, 0), qm_d0), (79, .ifCond .eq (24), [60], (0, 0), qm_d0), (82, .aload_n 0, [], (0, 0), qm_d0), (83, .getfield 59, [8, 35, 2, 1122], (0, 0), qm_d0), (86, .iload_n 2, [], (0, 0), qm_d0), (87, .iaload, [10], (0, 0), qm_d0), (88, .aload_n 0, [], (0, 0), qm_d0), (89, .getfield 59, [8, 35, 2, 1122], (0, 0), qm_d0), (92, .iload 4, [], (0, 0), qm_d0), (94, .iaload, [10], (0, 0), qm_d0), (95, .iconst (1), [], (1, 0), qm_d0), (96, .iadd, [], (0, 0), qm_d0), (97, .invokestatic 280, [2, 0, 1423, 1425, 122, 1424], (0, 0), qyX10_lesser), (100, .goto (9), [64], (0, 0), qm_d0), (103, .aload_n 0, [], (0, 0), qm_d0), (104, .getfield 59, [8, 35, 2, 1122], (0, 0), qm_d0), (107, .iload_n 2, [], (0, 0), qm_d0), (108, .iaload, [10], (0, 0), qm_d0), (109, .iastore, [], (0, 0), qm_d0), (110, .iinc 3 (1), [], (1, 0), qm_d0), (113, .goto (-78), [23], (0, 0), qm_d0), (116, .iinc 2 (-1), [], (-1, 0), qm_d0), (119, .goto (-110), [7], (0, 0), qm_d0), (122, .return_, [], (0, 0), qm_d0)])
set_option maxRecDepth 100000 in
theorem okX10_findLeft : qm_okM mX10_findLeft = true := by decide +kernel
def mX10_tellings : qm_M := (RX10, qyX10_tellings, [(0, .aload_n 0, [], (0, 0), qm_d0), (1, .iconst (0), [], (0, 0), qm_d0), (2, .putfield 85, [8, 0, 0, 1087], (0, 0), qm_d0), (5, .aload_n 0, [], (0, 0), qm_d0), (6, .iload_n 1, [], (0, 0), qm_d0), (7, .invokevirtual 253, [1, 8, 1347, 1350, 122, 1349, 49], (0, 0), qyX10_hand), (10, .ifCond .eq (12), [12], (0, 0), qm_d0), (13, .iload_n 2, [], (0, 0), qm_d0), (14, .iconst (0), [], (0, 0), qm_d0), (15, .iconst (5), [], (5, 0), qm_d0), (16, .invokestatic 97, [3, 0, 1242, 1244, 122, 1243], (0, 0), qyX10_in), (19, .ifCond .ne (5), [14], (0, 0), qm_d0), (22, .iconst (-1), [], (-1, 0), qm_d0), (23, .ireturn, [], (0, 0), qm_d0), (24, .aload_n 0, [], (0, 0), qm_d0), (25, .iconst (1), [], (1, 0), qm_d0), (26, .aload_n 0, [], (0, 0), qm_d0), (27, .getfield 238, [8, 23, 0, 1110], (0, 0), qm_d0), (30, .ishl, [], (0, 0), qm_d0), (31, .iconst (1), [], (1, 0), qm_d0), (32, .isub, [], (0, 0), qm_d0), (33, .invokevirtual 314, [1, 8, 1438, 1441, 122, 1440, 67], (0, 0), qyX10_findLeft), (36, .aload_n 0, [], (0, 0), qm_d0), (37, .iload_n 2, [], (0, 0), qm_d0), (38, .invokevirtual 317, [1, 8, 1447, 1450, 122, 1449, 69], (0, 0), qyX10_knowers), (41, .istore 4, [], (0, 0), qm_d0), (43, .aload_n 0, [], (0, 0), qm_d0), (44, .getfield 59, [8, 35, 2, 1122], (0, 0), qm_d0), (47, .iload 4, [], (0, 0), qm_d0), (49, .iaload, [10], (0, 0), qm_d0), (50, .istore 5, [], (0, 0), qm_d0), (52, .iload 5, [], (0, 0), qm_d0), (54, .ldc_w 310, [1442], (1000000, 0), qm_d0), (57, .if_icmp .ge (20), [44], (0, 0), qm_d0), (60, .iload_n 3, [], (0, 0), qm_d0), (61, .iconst (-1), [], (-1, 0), qm_d0), (62, .if_icmp .eq (17), [46], (0, 0), qm_d0), (65, .iload_n 3, [], (0, 0), qm_d0), (66, .iconst (0), [], (0, 0), qm_d0), (67, .iload 5, [], (0, 0), qm_d0), (69, .iconst (1), [], (1, 0), qm_d0), (70, .isub, [], (0, 0), qm_d0), (71, .invokestatic 97, [3, 0, 1242, 1244, 122, 1243], (0, 0), qyX10_in), (74, .ifCond .ne (5), [46], (0, 0), qm_d0), (77, .iconst (-1), [], (-1, 0), qm_d0), (78, .ireturn, [], (0, 0), qm_d0), (79, .iload 5, [], (0, 0), qm_d0), (81, .istore 6, [], (0, 0), qm_d0), (83, .iconst (0), [], (0, 0), qm_d0), (84, .istore 7, [], (0, 0), qm_d0), (86, .iload 7, [], (0, 0), qm_d0), (88, .iload_n 3, [], (0, 0), qm_d0), (89, .if_icmp .gt (63), [82], (0, 0), qm_d0), (92, .iconst (0), [], (0, 0), qm_d0), (93, .istore 6, [], (0, 0), qm_d0), (95, .iload 4, [], (0, 0), qm_d0), (97, .iload 6, [], (0, 0), qm_d0), (99, .invokestatic 89, [2, 0, 1332, 1334, 122, 1333], (0, 0), qyX10_has), (102, .ifCond .eq (28), [73], (0, 0), qm_d0), (105, .aload_n 0, [], (0, 0), qm_d0), (106, .getfield 59, [8, 35, 2, 1122], (0, 0), qm_d0), (109, .aload_n 0, [], (0, 0), qm_d0), (110, .iload 4, [], (0, 0), qm_d0), (112, .iload 6, [], (0, 0), qm_d0), (114, .invokevirtual 311, [2, 8, 1443, 1446, 122, 1445, 68], (0, 0), qyX10_toldBy), (117, .iaload, [10], (0, 0), qm_d0), (118, .aload_n 0, [], (0, 0), qm_d0), (119, .getfield 59, [8, 35, 2, 1122], (0, 0), qm_d0), (122, .iload 4, [], (0, 0), qm_d0), (124, .iaload, [10], (0, 0), qm_d0), (125, .iconst (1), [], (1, 0), qm_d0), (126, .isub, [], (0, 0), qm_d0), (127, .if_icmp .eq (9), [75], (0, 0), qm_d0), (130, .iinc 6 (1), [], (1, 0), qm_d0), (133, .goto (-38), [55], (0, 0), qm_d0), (136, .aload_n 0, [], (0, 0), qm_d0), (137, .iload 4, [], (0, 0), qm_d0), (139, .iload 6, [], (0, 0), qm_d0), (141, .invokevirtual 311, [2, 8, 1443, 1446, 122, 1445, 68], (0, 0), qyX10_toldBy), (144, .istore 4, [], (0, 0), qm_d0), (146, .iinc 7 (1), [], (1, 0), qm_d0), (149, .goto (-63), [50], (0, 0), qm_d0), (152, .iload 6, [], (0, 0), qm_d0), (154, .ireturn, [], (0, 0), qm_d0)])
set_option maxRecDepth 100000 in
theorem okX10_tellings : qm_okM mX10_tellings = true := by decide +kernel
def mX10_message : qm_M := (RX10, qyX10_message, [(0, .aload_n 0, [], (0, 0), qm_d0), (1, .iconst (0), [], (0, 0), qm_d0), (2, .putfield 85, [8, 0, 0, 1087], (0, 0), qm_d0), (5, .aload_n 0, [], (0, 0), qm_d0), (6, .iload_n 1, [], (0, 0), qm_d0), (7, .invokevirtual 253, [1, 8, 1347, 1350, 122, 1349, 49], (0, 0), qyX10_hand), (10, .ifCond .eq (20), [16], (0, 0), qm_d0), (13, .iload_n 2, [], (0, 0), qm_d0), (14, .iconst (0), [], (0, 0), qm_d0), (15, .iconst (5), [], (5, 0), qm_d0), (16, .invokestatic 97, [3, 0, 1242, 1244, 122, 1243], (0, 0), qyX10_in), (19, .ifCond .eq (11), [16], (0, 0), qm_d0), (22, .aload_n 0, [], (0, 0), qm_d0), (23, .iload_n 3, [], (0, 0), qm_d0), (24, .invokevirtual 277, [1, 8, 1395, 1398, 122, 1397, 59], (0, 0), qyX10_isPerson), (27, .ifCond .ne (5), [18], (0, 0), qm_d0), (30, .iconst (-1), [], (-1, 0), qm_d0), (31, .ireturn, [], (0, 0), qm_d0), (32, .aload_n 0, [], (0, 0), qm_d0), (33, .iconst (1), [], (1, 0), qm_d0), (34, .iload_n 3, [], (0, 0), qm_d0), (35, .ishl, [], (0, 0), qm_d0), (36, .invokevirtual 314, [1, 8, 1438, 1441, 122, 1440, 67], (0, 0), qyX10_findLeft), (39, .aload_n 0, [], (0, 0), qm_d0), (40, .getfield 59, [8, 35, 2, 1122], (0, 0), qm_d0), (43, .aload_n 0, [], (0, 0), qm_d0), (44, .iload_n 2, [], (0, 0), qm_d0), (45, .invokevirtual 317, [1, 8, 1447, 1450, 122, 1449, 69], (0, 0), qyX10_knowers), (48, .iaload, [10], (0, 0), qm_d0), (49, .istore 4, [], (0, 0), qm_d0), (51, .iload 4, [], (0, 0), qm_d0), (53, .ldc_w 310, [1442], (1000000, 0), qm_d0), (56, .if_icmp .lt (7), [35], (0, 0), qm_d0), (59, .iconst (-1), [], (-1, 0), qm_d0), (60, .goto (5), [36], (0, 0), qm_d0), (63, .iload 4, [], (0, 0), qm_d0), (65, .ireturn, [], (0, 0), qm_d0)])
set_option maxRecDepth 100000 in
theorem okX10_message : qm_okM mX10_message = true := by decide +kernel
def mX10_layRow : qm_M := (RX10, qyX10_layRow, [(0, .iload_n 1, [], (0, 0), qm_d0), (1, .istore_n 2, [], (0, 0), qm_d0), (2, .aload_n 0, [], (0, 0), qm_d0), (3, .getfield 238, [8, 23, 0, 1110], (0, 0), qm_d0), (6, .iconst (1), [], (1, 0), qm_d0), (7, .isub, [], (0, 0), qm_d0), (8, .istore_n 3, [], (0, 0), qm_d0), (9, .iload_n 3, [], (0, 0), qm_d0), (10, .ifCond .lt (55), [40], (0, 0), qm_d0), (13, .aload_n 0, [], (0, 0), qm_d0), (14, .getfield 62, [8, 36, 2, 1123], (0, 0), qm_d0), (17, .iload_n 3, [], (0, 0), qm_d0), (18, .iload_n 2, [], (0, 0), qm_d0), (19, .bipush (7), [], (7, 0), qm_d0), (21, .irem, [], (0, 0), qm_d0), (22, .iastore, [], (0, 0), qm_d0), (23, .iload_n 2, [], (0, 0), qm_d0), (24, .bipush (7), [], (7, 0), qm_d0), (26, .idiv, [], (0, 0), qm_d0), (27, .istore_n 2, [], (0, 0), qm_d0), (28, .aload_n 0, [], (0, 0), qm_d0), (29, .getfield 62, [8, 36, 2, 1123], (0, 0), qm_d0), (32, .iload_n 3, [], (0, 0), qm_d0), (33, .iaload, [10], (0, 0), qm_d0), (34, .bipush (6), [], (6, 0), qm_d0), (36, .if_icmp .ge (23), [38], (0, 0), qm_d0), (39, .aload_n 0, [], (0, 0), qm_d0), (40, .getfield 47, [8, 30, 2, 1117], (0, 0), qm_d0), (43, .iload_n 3, [], (0, 0), qm_d0), (44, .iaload, [10], (0, 0), qm_d0), (45, .aload_n 0, [], (0, 0), qm_d0), (46, .getfield 62, [8, 36, 2, 1123], (0, 0), qm_d0), (49, .iload_n 3, [], (0, 0), qm_d0), (50, .iaload, [10], (0, 0), qm_d0), (51, .invokestatic 89, [2, 0, 1332, 1334, 122, 1333], (0, 0), qyX10_has), (54, .ifCond .ne (5), [38], (0, 0), qm_d0), (57, .iconst (0), [], (0, 0), qm_d0), (58, .ireturn, [], (0, 0), qm_d0), (59, .iinc 3 (-1), [], (-1, 0), qm_d0), (62, .goto (-53), [7], (0, 0), qm_d0), (65, .iconst (1), [], (1, 0), qm_d0), (66, .ireturn, [], (0, 0), qm_d0)])
set_option maxRecDepth 100000 in
theorem okX10_layRow : qm_okM mX10_layRow = true := by decide +kernel
def mX10_learntByRow : qm_M := (RX10, qyX10_learntByRow, [(0, .iconst (0), [], (0, 0), qm_d0), (1, .istore_n 1, [], (0, 0), qm_d0), (2, .iconst (0), [], (0, 0), qm_d0), (3, .istore_n 2, [], (0, 0), qm_d0), (4, .iload_n 2, [], (0, 0), qm_d0), (5, .aload_n 0, [], (0, 0), qm_d0), (6, .getfield 238, [8, 23, 0, 1110], (0, 0), qm_d0), (9, .if_icmp .ge (86), [55], (0, 0), qm_d0), (12, .iconst (0), [], (0, 0), qm_d0), (13, .istore_n 3, [], (0, 0), qm_d0), (14, .iconst (0), [], (0, 0), qm_d0), (15, .istore 4, [], (0, 0), qm_d0), (17, .iload 4, [], (0, 0), qm_d0), (19, .aload_n 0, [], (0, 0), qm_d0), (20, .getfield 238, [8, 23, 0, 1110], (0, 0), qm_d0), (23, .if_icmp .ge (49), [40], (0, 0), qm_d0), (26, .iload_n 3, [], (0, 0), qm_d0), (27, .aload_n 0, [], (0, 0), qm_d0), (28, .getfield 62, [8, 36, 2, 1123], (0, 0), qm_d0), (31, .iload 4, [], (0, 0), qm_d0), (33, .iaload, [10], (0, 0), qm_d0), (34, .bipush (6), [], (6, 0), qm_d0), (36, .if_icmp .ge (27), [35], (0, 0), qm_d0), (39, .aload_n 0, [], (0, 0), qm_d0), (40, .iload_n 2, [], (0, 0), qm_d0), (41, .iload 4, [], (0, 0), qm_d0), (43, .invokevirtual 268, [2, 8, 1403, 1406, 122, 1405, 61], (0, 0), qyX10_hears), (46, .ifCond .eq (17), [35], (0, 0), qm_d0), (49, .aload_n 0, [], (0, 0), qm_d0), (50, .aload_n 0, [], (0, 0), qm_d0), (51, .getfield 62, [8, 36, 2, 1123], (0, 0), qm_d0), (54, .iload 4, [], (0, 0), qm_d0), (56, .iaload, [10], (0, 0), qm_d0), (57, .invokevirtual 271, [1, 8, 1407, 1410, 122, 1409, 62], (0, 0), qyX10_whole), (60, .goto (4), [36], (0, 0), qm_d0), (63, .iconst (0), [], (0, 0), qm_d0), (64, .ior, [], (0, 0), qm_d0), (65, .istore_n 3, [], (0, 0), qm_d0), (66, .iinc 4 (1), [], (1, 0), qm_d0), (69, .goto (-52), [12], (0, 0), qm_d0), (72, .iload_n 1, [], (0, 0), qm_d0), (73, .aload_n 0, [], (0, 0), qm_d0), (74, .iload_n 3, [], (0, 0), qm_d0), (75, .aload_n 0, [], (0, 0), qm_d0), (76, .getfield 47, [8, 30, 2, 1117], (0, 0), qm_d0), (79, .iload_n 2, [], (0, 0), qm_d0), (80, .iaload, [10], (0, 0), qm_d0), (81, .iconst (-1), [], (-1, 0), qm_d0), (82, .ixor, [], (0, 0), qm_d0), (83, .iand, [], (0, 0), qm_d0), (84, .invokevirtual 320, [1, 8, 1471, 1474, 122, 1473, 73], (0, 0), qyX10_worthOf), (87, .iadd, [], (0, 0), qm_d0), (88, .istore_n 1, [], (0, 0), qm_d0), (89, .iinc 2 (1), [], (1, 0), qm_d0), (92, .goto (-88), [4], (0, 0), qm_d0), (95, .iload_n 1, [], (0, 0), qm_d0), (96, .ireturn, [], (0, 0), qm_d0)])
set_option maxRecDepth 100000 in
theorem okX10_learntByRow : qm_okM mX10_learntByRow = true := by decide +kernel
def mX10_rows : qm_M := (RX10, qyX10_rows, [(0, .iconst (1), [], (1, 0), qm_d0), (1, .istore_n 1, [], (0, 0), qm_d0), (2, .iconst (0), [], (0, 0), qm_d0), (3, .istore_n 2, [], (0, 0), qm_d0), (4, .iload_n 2, [], (0, 0), qm_d0), (5, .aload_n 0, [], (0, 0), qm_d0), (6, .getfield 238, [8, 23, 0, 1110], (0, 0), qm_d0), (9, .if_icmp .ge (14), [14], (0, 0), qm_d0), (12, .iload_n 1, [], (0, 0), qm_d0), (13, .bipush (7), [], (7, 0), qm_d0), (15, .imul, [], (0, 0), qm_d0), (16, .istore_n 1, [], (0, 0), qm_d0), (17, .iinc 2 (1), [], (1, 0), qm_d0), (20, .goto (-16), [4], (0, 0), qm_d0), (23, .iload_n 1, [], (0, 0), qm_d0), (24, .ireturn, [], (0, 0), qm_d0)])
set_option maxRecDepth 100000 in
theorem okX10_rows : qm_okM mX10_rows = true := by decide +kernel
def mX10_bell : qm_M := (RX10, qyX10_bell, [(0, .aload_n 0, [], (0, 0), qm_d0), (1, .iconst (0), [], (0, 0), qm_d0), (2, .putfield 85, [8, 0, 0, 1087], (0, 0), qm_d0), (5, .aload_n 0, [], (0, 0), qm_d0), (6, .iload_n 1, [], (0, 0), qm_d0), (7, .invokevirtual 253, [1, 8, 1347, 1350, 122, 1349, 49], (0, 0), qyX10_hand), (10, .ifCond .eq (17), [15], (0, 0), qm_d0), (13, .iload_n 2, [], (0, 0), qm_d0), (14, .iconst (-1), [], (-1, 0), qm_d0), (15, .aload_n 0, [], (0, 0), qm_d0), (16, .getfield 238, [8, 23, 0, 1110], (0, 0), qm_d0), (19, .iconst (1), [], (1, 0), qm_d0), (20, .isub, [], (0, 0), qm_d0), (21, .invokestatic 97, [3, 0, 1242, 1244, 122, 1243], (0, 0), qyX10_in), (24, .ifCond .ne (5), [17], (0, 0), qm_d0), (27, .iconst (-1), [], (-1, 0), qm_d0), (28, .ireturn, [], (0, 0), qm_d0), (29, .iconst (-1), [], (-1, 0), qm_d0), (30, .istore_n 3, [], (0, 0), qm_d0), (31, .iconst (-1), [], (-1, 0), qm_d0), (32, .istore 4, [], (0, 0), qm_d0), (34, .aload_n 0, [], (0, 0), qm_d0), (35, .invokevirtual 323, [0, 8, 1459, 1462, 122, 1461, 70], (0, 0), qyX10_rows), (38, .istore 5, [], (0, 0), qm_d0), (40, .iconst (0), [], (0, 0), qm_d0), (41, .istore 6, [], (0, 0), qm_d0), (43, .iload 6, [], (0, 0), qm_d0), (45, .iload 5, [], (0, 0), qm_d0), (47, .if_icmp .ge (51), [51], (0, 0), qm_d0), (50, .aload_n 0, [], (0, 0), qm_d0), (51, .iload 6, [], (0, 0), qm_d0), (53, .invokevirtual 326, [1, 8, 1463, 1466, 122, 1465, 71], (0, 0), qyX10_layRow), (56, .ifCond .eq (10), [36], (0, 0), qm_d0), (59, .aload_n 0, [], (0, 0), qm_d0), (60, .invokevirtual 329, [0, 8, 1467, 1470, 122, 1469, 72], (0, 0), qyX10_learntByRow), (63, .goto (4), [37], (0, 0), qm_d0), (66, .iconst (-1), [], (-1, 0), qm_d0), (67, .istore 7, [], (0, 0), qm_d0), (69, .iload 7, [], (0, 0), qm_d0), (71, .iload 4, [], (0, 0), qm_d0), (73, .if_icmp .le (8), [43], (0, 0), qm_d0), (76, .iload 6, [], (0, 0), qm_d0), (78, .goto (4), [44], (0, 0), qm_d0), (81, .iload_n 3, [], (0, 0), qm_d0), (82, .istore_n 3, [], (0, 0), qm_d0), (83, .iload 4, [], (0, 0), qm_d0), (85, .iload 7, [], (0, 0), qm_d0), (87, .invokestatic 170, [2, 0, 1306, 1308, 122, 1307], (0, 0), qyX10_greater), (90, .istore 4, [], (0, 0), qm_d0), (92, .iinc 6 (1), [], (1, 0), qm_d0), (95, .goto (-52), [26], (0, 0), qm_d0), (98, .aload_n 0, [], (0, 0), qm_d0), (99, .iload_n 3, [], (0, 0), qm_d0), (100, .invokevirtual 326, [1, 8, 1463, 1466, 122, 1465, 71], (0, 0), qyX10_layRow), (103, .pop, [], (0, 0), qm_d0), (104, .iload_n 2, [], (0, 0), qm_d0), (105, .iconst (-1), [], (-1, 0), qm_d0), (106, .if_icmp .ne (8), [60], (0, 0), qm_d0), (109, .iload 4, [], (0, 0), qm_d0), (111, .goto (9), [64], (0, 0), qm_d0), (114, .aload_n 0, [], (0, 0), qm_d0), (115, .getfield 62, [8, 36, 2, 1123], (0, 0), qm_d0), (118, .iload_n 2, [], (0, 0), qm_d0), (119, .iaload, [10], (0, 0), qm_d0), (120, .ireturn, [], (0, 0), qm_d0)])
set_option maxRecDepth 100000 in
theorem okX10_bell : qm_okM mX10_bell = true := by decide +kernel
def mX10_couple : qm_M := (RX10, qyX10_couple, [(0, .iload_n 3, [], (0, 0), qm_d0), (1, .ifCond .ne (31), [18], (0, 0), qm_d0), (4, .iload_n 1, [], (0, 0), qm_d0), (5, .iload_n 2, [], (0, 0), qm_d0), (6, .if_icmp .ge (22), [16], (0, 0), qm_d0), (9, .aload_n 0, [], (0, 0), qm_d0), (10, .getfield 47, [8, 30, 2, 1117], (0, 0), qm_d0), (13, .iload_n 1, [], (0, 0), qm_d0), (14, .iaload, [10], (0, 0), qm_d0), (15, .aload_n 0, [], (0, 0), qm_d0), (16, .getfield 47, [8, 30, 2, 1117], (0, 0), qm_d0), (19, .iload_n 2, [], (0, 0), qm_d0), (20, .iaload, [10], (0, 0), qm_d0), (21, .ior, [], (0, 0), qm_d0), (22, .invokestatic 332, [1, 0, 1491, 1493, 122, 1492], (0, 0), qyX10_ones), (25, .goto (6), [17], (0, 0), qm_d0), (28, .ldc_w 335, [1494], (-1000000, 0), qm_d0), (31, .ireturn, [], (0, 0), qm_d0), (32, .aload_n 0, [], (0, 0), qm_d0), (33, .iload_n 2, [], (0, 0), qm_d0), (34, .iconst (1), [], (1, 0), qm_d0), (35, .invokevirtual 336, [2, 8, 1495, 1498, 122, 1497, 77], (0, 0), qyX10_bestOf), (38, .aload_n 0, [], (0, 0), qm_d0), (39, .iload_n 1, [], (0, 0), qm_d0), (40, .iconst (1), [], (1, 0), qm_d0), (41, .invokevirtual 336, [2, 8, 1495, 1498, 122, 1497, 77], (0, 0), qyX10_bestOf), (44, .isub, [], (0, 0), qm_d0), (45, .istore 4, [], (0, 0), qm_d0), (47, .iload_n 1, [], (0, 0), qm_d0), (48, .iload_n 2, [], (0, 0), qm_d0), (49, .if_icmp .eq (13), [35], (0, 0), qm_d0), (52, .iload 4, [], (0, 0), qm_d0), (54, .ifCond .le (8), [35], (0, 0), qm_d0), (57, .iload 4, [], (0, 0), qm_d0), (59, .goto (6), [36], (0, 0), qm_d0), (62, .ldc_w 335, [1494], (-1000000, 0), qm_d0), (65, .ireturn, [], (0, 0), qm_d0)])
set_option maxRecDepth 100000 in
theorem okX10_couple : qm_okM mX10_couple = true := by decide +kernel
def mX10_coupleBy : qm_M := (RX10, qyX10_coupleBy, [(0, .iload_n 3, [], (0, 0), qm_d0), (1, .bipush (6), [], (6, 0), qm_d0), (3, .if_icmp .ne (17), [14], (0, 0), qm_d0), (6, .aload_n 0, [], (0, 0), qm_d0), (7, .getfield 65, [8, 37, 2, 1124], (0, 0), qm_d0), (10, .bipush (64), [], (64, 0), qm_d0), (12, .iload_n 1, [], (0, 0), qm_d0), (13, .iconst (1), [], (1, 0), qm_d0), (14, .iadd, [], (0, 0), qm_d0), (15, .imul, [], (0, 0), qm_d0), (16, .iload_n 2, [], (0, 0), qm_d0), (17, .iadd, [], (0, 0), qm_d0), (18, .iaload, [10], (0, 0), qm_d0), (19, .ireturn, [], (0, 0), qm_d0), (20, .iload_n 3, [], (0, 0), qm_d0), (21, .aload_n 0, [], (0, 0), qm_d0), (22, .getfield 238, [8, 23, 0, 1110], (0, 0), qm_d0), (25, .if_icmp .ge (23), [28], (0, 0), qm_d0), (28, .iload_n 2, [], (0, 0), qm_d0), (29, .iload_n 1, [], (0, 0), qm_d0), (30, .invokestatic 89, [2, 0, 1332, 1334, 122, 1333], (0, 0), qyX10_has), (33, .ifCond .ne (15), [28], (0, 0), qm_d0), (36, .iload_n 2, [], (0, 0), qm_d0), (37, .iload_n 3, [], (0, 0), qm_d0), (38, .invokestatic 89, [2, 0, 1332, 1334, 122, 1333], (0, 0), qyX10_has), (41, .ifCond .ne (7), [28], (0, 0), qm_d0), (44, .iconst (1), [], (1, 0), qm_d0), (45, .goto (4), [29], (0, 0), qm_d0), (48, .iconst (0), [], (0, 0), qm_d0), (49, .istore 5, [], (0, 0), qm_d0), (51, .iload 5, [], (0, 0), qm_d0), (53, .ifCond .eq (36), [57], (0, 0), qm_d0), (56, .aload_n 0, [], (0, 0), qm_d0), (57, .iload_n 1, [], (0, 0), qm_d0), (58, .iload_n 3, [], (0, 0), qm_d0), (59, .iload 4, [], (0, 0), qm_d0), (61, .invokevirtual 340, [3, 8, 1487, 1490, 122, 1489, 76], (0, 0), qyX10_couple), (64, .aload_n 0, [], (0, 0), qm_d0), (65, .getfield 65, [8, 37, 2, 1124], (0, 0), qm_d0), (68, .bipush (64), [], (64, 0), qm_d0), (70, .iload_n 1, [], (0, 0), qm_d0), (71, .iconst (1), [], (1, 0), qm_d0), (72, .iadd, [], (0, 0), qm_d0), (73, .imul, [], (0, 0), qm_d0), (74, .iload_n 2, [], (0, 0), qm_d0), (75, .iconst (1), [], (1, 0), qm_d0), (76, .iload_n 1, [], (0, 0), qm_d0), (77, .ishl, [], (0, 0), qm_d0), (78, .ior, [], (0, 0), qm_d0), (79, .iconst (1), [], (1, 0), qm_d0), (80, .iload_n 3, [], (0, 0), qm_d0), (81, .ishl, [], (0, 0), qm_d0), (82, .ior, [], (0, 0), qm_d0), (83, .iadd, [], (0, 0), qm_d0), (84, .iaload, [10], (0, 0), qm_d0), (85, .iadd, [], (0, 0), qm_d0), (86, .goto (6), [58], (0, 0), qm_d0), (89, .ldc_w 335, [1494], (-1000000, 0), qm_d0), (92, .ireturn, [], (0, 0), qm_d0)])
set_option maxRecDepth 100000 in
theorem okX10_coupleBy : qm_okM mX10_coupleBy = true := by decide +kernel
def mX10_findCouples : qm_M := (RX10, qyX10_findCouples, [(0, .aload_n 0, [], (0, 0), qm_d0), (1, .getfield 238, [8, 23, 0, 1110], (0, 0), qm_d0), (4, .istore_n 2, [], (0, 0), qm_d0), (5, .iload_n 2, [], (0, 0), qm_d0), (6, .ifCond .lt (79), [45], (0, 0), qm_d0), (9, .iconst (0), [], (0, 0), qm_d0), (10, .istore_n 3, [], (0, 0), qm_d0), (11, .iload_n 3, [], (0, 0), qm_d0), (12, .bipush (64), [], (64, 0), qm_d0), (14, .if_icmp .ge (65), [43], (0, 0), qm_d0), (17, .iconst (0), [], (0, 0), qm_d0), (18, .istore 4, [], (0, 0), qm_d0), (20, .iconst (0), [], (0, 0), qm_d0), (21, .istore 5, [], (0, 0), qm_d0), (23, .iload 5, [], (0, 0), qm_d0), (25, .bipush (6), [], (6, 0), qm_d0), (27, .if_icmp .gt (33), [32], (0, 0), qm_d0), (30, .iload_n 2, [], (0, 0), qm_d0), (31, .aload_n 0, [], (0, 0), qm_d0), (32, .getfield 238, [8, 23, 0, 1110], (0, 0), qm_d0), (35, .if_icmp .ge (25), [32], (0, 0), qm_d0), (38, .iload 4, [], (0, 0), qm_d0), (40, .aload_n 0, [], (0, 0), qm_d0), (41, .iload_n 2, [], (0, 0), qm_d0), (42, .iload_n 3, [], (0, 0), qm_d0), (43, .iload 5, [], (0, 0), qm_d0), (45, .iload_n 1, [], (0, 0), qm_d0), (46, .invokevirtual 344, [4, 8, 1483, 1486, 122, 1485, 75], (0, 0), qyX10_coupleBy), (49, .invokestatic 170, [2, 0, 1306, 1308, 122, 1307], (0, 0), qyX10_greater), (52, .istore 4, [], (0, 0), qm_d0), (54, .iinc 5 (1), [], (1, 0), qm_d0), (57, .goto (-34), [14], (0, 0), qm_d0), (60, .aload_n 0, [], (0, 0), qm_d0), (61, .getfield 65, [8, 37, 2, 1124], (0, 0), qm_d0), (64, .bipush (64), [], (64, 0), qm_d0), (66, .iload_n 2, [], (0, 0), qm_d0), (67, .imul, [], (0, 0), qm_d0), (68, .iload_n 3, [], (0, 0), qm_d0), (69, .iadd, [], (0, 0), qm_d0), (70, .iload 4, [], (0, 0), qm_d0), (72, .iastore, [], (0, 0), qm_d0), (73, .iinc 3 (1), [], (1, 0), qm_d0), (76, .goto (-65), [7], (0, 0), qm_d0), (79, .iinc 2 (-1), [], (-1, 0), qm_d0), (82, .goto (-77), [3], (0, 0), qm_d0), (85, .return_, [], (0, 0), qm_d0)])
set_option maxRecDepth 100000 in
theorem okX10_findCouples : qm_okM mX10_findCouples = true := by decide +kernel
def mX10_layCouples : qm_M := (RX10, qyX10_layCouples, [(0, .iconst (0), [], (0, 0), qm_d0), (1, .istore_n 2, [], (0, 0), qm_d0), (2, .iconst (0), [], (0, 0), qm_d0), (3, .istore_n 3, [], (0, 0), qm_d0), (4, .iload_n 3, [], (0, 0), qm_d0), (5, .aload_n 0, [], (0, 0), qm_d0), (6, .getfield 238, [8, 23, 0, 1110], (0, 0), qm_d0), (9, .if_icmp .ge (17), [15], (0, 0), qm_d0), (12, .aload_n 0, [], (0, 0), qm_d0), (13, .getfield 62, [8, 36, 2, 1123], (0, 0), qm_d0), (16, .iload_n 3, [], (0, 0), qm_d0), (17, .bipush (6), [], (6, 0), qm_d0), (19, .iastore, [], (0, 0), qm_d0), (20, .iinc 3 (1), [], (1, 0), qm_d0), (23, .goto (-19), [4], (0, 0), qm_d0), (26, .iconst (0), [], (0, 0), qm_d0), (27, .istore_n 3, [], (0, 0), qm_d0), (28, .iload_n 3, [], (0, 0), qm_d0), (29, .aload_n 0, [], (0, 0), qm_d0), (30, .getfield 238, [8, 23, 0, 1110], (0, 0), qm_d0), (33, .if_icmp .ge (84), [69], (0, 0), qm_d0), (36, .iconst (0), [], (0, 0), qm_d0), (37, .istore 4, [], (0, 0), qm_d0), (39, .aload_n 0, [], (0, 0), qm_d0), (40, .iload_n 3, [], (0, 0), qm_d0), (41, .iload_n 2, [], (0, 0), qm_d0), (42, .iload 4, [], (0, 0), qm_d0), (44, .iload_n 1, [], (0, 0), qm_d0), (45, .invokevirtual 344, [4, 8, 1483, 1486, 122, 1485, 75], (0, 0), qyX10_coupleBy), (48, .aload_n 0, [], (0, 0), qm_d0), (49, .getfield 65, [8, 37, 2, 1124], (0, 0), qm_d0), (52, .bipush (64), [], (64, 0), qm_d0), (54, .iload_n 3, [], (0, 0), qm_d0), (55, .imul, [], (0, 0), qm_d0), (56, .iload_n 2, [], (0, 0), qm_d0), (57, .iadd, [], (0, 0), qm_d0), (58, .iaload, [10], (0, 0), qm_d0), (59, .if_icmp .eq (9), [40], (0, 0), qm_d0), (62, .iinc 4 (1), [], (1, 0), qm_d0), (65, .goto (-26), [23], (0, 0), qm_d0), (68, .iload 4, [], (0, 0), qm_d0), (70, .bipush (6), [], (6, 0), qm_d0), (72, .if_icmp .ge (39), [67], (0, 0), qm_d0), (75, .aload_n 0, [], (0, 0), qm_d0), (76, .getfield 62, [8, 36, 2, 1123], (0, 0), qm_d0), (79, .iload_n 3, [], (0, 0), qm_d0), (80, .iload 4, [], (0, 0), qm_d0), (82, .iastore, [], (0, 0), qm_d0), (83, .aload_n 0, [], (0, 0), qm_d0), (84, .getfield 62, [8, 36, 2, 1123], (0, 0), qm_d0), (87, .iload 4, [], (0, 0), qm_d0), (89, .iload_n 1, [], (0, 0), qm_d0), (90, .ifCond .eq (8), [55], (0, 0), qm_d0), (93, .bipush (6), [], (6, 0), qm_d0), (95, .goto (4), [56], (0, 0), qm_d0), (98, .iload_n 3, [], (0, 0), qm_d0), (99, .iastore, [], (0, 0), qm_d0), (100, .iload_n 2, [], (0, 0), qm_d0), (101, .iconst (1), [], (1, 0), qm_d0), (102, .iload_n 3, [], (0, 0), qm_d0), (103, .ishl, [], (0, 0), qm_d0), (104, .iconst (1), [], (1, 0), qm_d0), (105, .iload 4, [], (0, 0), qm_d0), (107, .ishl, [], (0, 0), qm_d0), (108, .ior, [], (0, 0), qm_d0), (109, .ior, [], (0, 0), qm_d0), (110, .istore_n 2, [], (0, 0), qm_d0), (111, .iinc 3 (1), [], (1, 0), qm_d0), (114, .goto (-86), [17], (0, 0), qm_d0), (117, .return_, [], (0, 0), qm_d0)])
set_option maxRecDepth 100000 in
theorem okX10_layCouples : qm_okM mX10_layCouples = true := by decide +kernel
def mX10_weddings : qm_M := (RX10, qyX10_weddings, [(0, .aload_n 0, [], (0, 0), qm_d0), (1, .iconst (0), [], (0, 0), qm_d0), (2, .putfield 85, [8, 0, 0, 1087], (0, 0), qm_d0), (5, .aload_n 0, [], (0, 0), qm_d0), (6, .iload_n 1, [], (0, 0), qm_d0), (7, .invokevirtual 253, [1, 8, 1347, 1350, 122, 1349, 49], (0, 0), qyX10_hand), (10, .ifCond .eq (17), [15], (0, 0), qm_d0), (13, .iload_n 2, [], (0, 0), qm_d0), (14, .iconst (-1), [], (-1, 0), qm_d0), (15, .aload_n 0, [], (0, 0), qm_d0), (16, .getfield 238, [8, 23, 0, 1110], (0, 0), qm_d0), (19, .iconst (1), [], (1, 0), qm_d0), (20, .isub, [], (0, 0), qm_d0), (21, .invokestatic 97, [3, 0, 1242, 1244, 122, 1243], (0, 0), qyX10_in), (24, .ifCond .ne (5), [17], (0, 0), qm_d0), (27, .iconst (-1), [], (-1, 0), qm_d0), (28, .ireturn, [], (0, 0), qm_d0), (29, .aload_n 0, [], (0, 0), qm_d0), (30, .iconst (0), [], (0, 0), qm_d0), (31, .invokevirtual 348, [1, 8, 1479, 1482, 122, 1481, 74], (0, 0), qyX10_findCouples), (34, .aload_n 0, [], (0, 0), qm_d0), (35, .iconst (0), [], (0, 0), qm_d0), (36, .invokevirtual 352, [1, 8, 1503, 1506, 122, 1505, 79], (0, 0), qyX10_layCouples), (39, .iload_n 2, [], (0, 0), qm_d0), (40, .iconst (-1), [], (-1, 0), qm_d0), (41, .if_icmp .ne (12), [31], (0, 0), qm_d0), (44, .aload_n 0, [], (0, 0), qm_d0), (45, .getfield 65, [8, 37, 2, 1124], (0, 0), qm_d0), (48, .iconst (0), [], (0, 0), qm_d0), (49, .iaload, [10], (0, 0), qm_d0), (50, .goto (9), [35], (0, 0), qm_d0), (53, .aload_n 0, [], (0, 0), qm_d0), (54, .getfield 62, [8, 36, 2, 1123], (0, 0), qm_d0), (57, .iload_n 2, [], (0, 0), qm_d0), (58, .iaload, [10], (0, 0), qm_d0), (59, .ireturn, [], (0, 0), qm_d0)])
set_option maxRecDepth 100000 in
theorem okX10_weddings : qm_okM mX10_weddings = true := by decide +kernel
def mX10_leastHeap : qm_M := (RX10, qyX10_leastHeap, [(0, .iconst (-1), [], (-1, 0), qm_d0), (1, .istore_n 2, [], (0, 0), qm_d0), (2, .iconst (0), [], (0, 0), qm_d0), (3, .istore_n 3, [], (0, 0), qm_d0), (4, .iload_n 3, [], (0, 0), qm_d0), (5, .bipush (6), [], (6, 0), qm_d0), (7, .if_icmp .ge (61), [39], (0, 0), qm_d0), (10, .iload_n 3, [], (0, 0), qm_d0), (11, .iload_n 1, [], (0, 0), qm_d0), (12, .if_icmp .eq (16), [17], (0, 0), qm_d0), (15, .aload_n 0, [], (0, 0), qm_d0), (16, .getfield 68, [8, 38, 2, 1125], (0, 0), qm_d0), (19, .iload_n 3, [], (0, 0), qm_d0), (20, .iaload, [10], (0, 0), qm_d0), (21, .ifCond .lt (7), [17], (0, 0), qm_d0), (24, .iconst (1), [], (1, 0), qm_d0), (25, .goto (4), [18], (0, 0), qm_d0), (28, .iconst (0), [], (0, 0), qm_d0), (29, .istore 4, [], (0, 0), qm_d0), (31, .iload 4, [], (0, 0), qm_d0), (33, .ifCond .eq (27), [35], (0, 0), qm_d0), (36, .iload_n 2, [], (0, 0), qm_d0), (37, .iconst (-1), [], (-1, 0), qm_d0), (38, .if_icmp .eq (18), [33], (0, 0), qm_d0), (41, .aload_n 0, [], (0, 0), qm_d0), (42, .getfield 68, [8, 38, 2, 1125], (0, 0), qm_d0), (45, .iload_n 3, [], (0, 0), qm_d0), (46, .iaload, [10], (0, 0), qm_d0), (47, .aload_n 0, [], (0, 0), qm_d0), (48, .getfield 68, [8, 38, 2, 1125], (0, 0), qm_d0), (51, .iload_n 2, [], (0, 0), qm_d0), (52, .iaload, [10], (0, 0), qm_d0), (53, .if_icmp .ge (7), [35], (0, 0), qm_d0), (56, .iload_n 3, [], (0, 0), qm_d0), (57, .goto (4), [36], (0, 0), qm_d0), (60, .iload_n 2, [], (0, 0), qm_d0), (61, .istore_n 2, [], (0, 0), qm_d0), (62, .iinc 3 (1), [], (1, 0), qm_d0), (65, .goto (-61), [4], (0, 0), qm_d0), (68, .iload_n 2, [], (0, 0), qm_d0), (69, .ireturn, [], (0, 0), qm_d0)])
set_option maxRecDepth 100000 in
theorem okX10_leastHeap : qm_okM mX10_leastHeap = true := by decide +kernel
def mX10_code : qm_M := (RX10, qyX10_code, [(0, .aload_n 0, [], (0, 0), qm_d0), (1, .iconst (0), [], (0, 0), qm_d0), (2, .putfield 85, [8, 0, 0, 1087], (0, 0), qm_d0), (5, .aload_n 0, [], (0, 0), qm_d0), (6, .iload_n 1, [], (0, 0), qm_d0), (7, .invokevirtual 253, [1, 8, 1347, 1350, 122, 1349, 49], (0, 0), qyX10_hand), (10, .ifCond .ne (5), [9], (0, 0), qm_d0), (13, .iconst (-1), [], (-1, 0), qm_d0), (14, .ireturn, [], (0, 0), qm_d0), (15, .iconst (0), [], (0, 0), qm_d0), (16, .istore_n 2, [], (0, 0), qm_d0), (17, .iload_n 2, [], (0, 0), qm_d0), (18, .bipush (6), [], (6, 0), qm_d0), (20, .if_icmp .ge (22), [25], (0, 0), qm_d0), (23, .aload_n 0, [], (0, 0), qm_d0), (24, .getfield 68, [8, 38, 2, 1125], (0, 0), qm_d0), (27, .iload_n 2, [], (0, 0), qm_d0), (28, .aload_n 0, [], (0, 0), qm_d0), (29, .iconst (1), [], (1, 0), qm_d0), (30, .iload_n 2, [], (0, 0), qm_d0), (31, .iadd, [], (0, 0), qm_d0), (32, .invokevirtual 234, [1, 8, 1351, 1354, 122, 1353, 50], (0, 0), qyX10_of), (35, .iastore, [], (0, 0), qm_d0), (36, .iinc 2 (1), [], (1, 0), qm_d0), (39, .goto (-22), [11], (0, 0), qm_d0), (42, .iconst (0), [], (0, 0), qm_d0), (43, .istore_n 2, [], (0, 0), qm_d0), (44, .iconst (1), [], (1, 0), qm_d0), (45, .istore_n 3, [], (0, 0), qm_d0), (46, .iload_n 3, [], (0, 0), qm_d0), (47, .bipush (6), [], (6, 0), qm_d0), (49, .if_icmp .ge (59), [65], (0, 0), qm_d0), (52, .aload_n 0, [], (0, 0), qm_d0), (53, .iconst (-1), [], (-1, 0), qm_d0), (54, .invokevirtual 355, [1, 8, 1511, 1514, 122, 1513, 80], (0, 0), qyX10_leastHeap), (57, .istore 4, [], (0, 0), qm_d0), (59, .aload_n 0, [], (0, 0), qm_d0), (60, .iload 4, [], (0, 0), qm_d0), (62, .invokevirtual 355, [1, 8, 1511, 1514, 122, 1513, 80], (0, 0), qyX10_leastHeap), (65, .istore 5, [], (0, 0), qm_d0), (67, .aload_n 0, [], (0, 0), qm_d0), (68, .getfield 68, [8, 38, 2, 1125], (0, 0), qm_d0), (71, .iload 4, [], (0, 0), qm_d0), (73, .dup2, [], (0, 0), qm_d0), (74, .iaload, [10], (0, 0), qm_d0), (75, .aload_n 0, [], (0, 0), qm_d0), (76, .getfield 68, [8, 38, 2, 1125], (0, 0), qm_d0), (79, .iload 5, [], (0, 0), qm_d0), (81, .iaload, [10], (0, 0), qm_d0), (82, .iadd, [], (0, 0), qm_d0), (83, .iastore, [], (0, 0), qm_d0), (84, .aload_n 0, [], (0, 0), qm_d0), (85, .getfield 68, [8, 38, 2, 1125], (0, 0), qm_d0), (88, .iload 5, [], (0, 0), qm_d0), (90, .iconst (-1), [], (-1, 0), qm_d0), (91, .iastore, [], (0, 0), qm_d0), (92, .iload_n 2, [], (0, 0), qm_d0), (93, .aload_n 0, [], (0, 0), qm_d0), (94, .getfield 68, [8, 38, 2, 1125], (0, 0), qm_d0), (97, .iload 4, [], (0, 0), qm_d0), (99, .iaload, [10], (0, 0), qm_d0), (100, .iadd, [], (0, 0), qm_d0), (101, .istore_n 2, [], (0, 0), qm_d0), (102, .iinc 3 (1), [], (1, 0), qm_d0), (105, .goto (-59), [29], (0, 0), qm_d0), (108, .iload_n 2, [], (0, 0), qm_d0), (109, .ireturn, [], (0, 0), qm_d0)])
set_option maxRecDepth 100000 in
theorem okX10_code : qm_okM mX10_code = true := by decide +kernel
def mX10_common : qm_M := (RX10, qyX10_common, [(0, .lload_n 0, [], (0, 0), qm_d0), (1, .lstore 4, [], (0, 0), qm_d0), (3, .lload_n 2, [], (0, 0), qm_d0), (4, .lstore 6, [], (0, 0), qm_d0), (6, .lload 6, [], (0, 0), qm_d0), (8, .lconst 0, [], (0, 0), qm_d0), (9, .lcmp, [], (0, 0), qm_d0), (10, .ifCond .eq (21), [17], (0, 0), qm_d0), (13, .lload 4, [], (0, 0), qm_d0), (15, .lload 6, [], (0, 0), qm_d0), (17, .lrem, [], (0, 0), qm_d0), (18, .lstore 8, [], (0, 0), qm_d0), (20, .lload 6, [], (0, 0), qm_d0), (22, .lstore 4, [], (0, 0), qm_d0), (24, .lload 8, [], (0, 0), qm_d0), (26, .lstore 6, [], (0, 0), qm_d0), (28, .goto (-22), [4], (0, 0), qm_d0), (31, .lload 4, [], (0, 0), qm_d0), (33, .lreturn, [], (0, 0), qm_d0)])
set_option maxRecDepth 100000 in
theorem okX10_common : qm_okM mX10_common = true := by decide +kernel
def mX10_part : qm_M := (RX10, qyX10_part, [(0, .iload 4, [], (0, 0), qm_d0), (2, .ifCond .eq (7), [4], (0, 0), qm_d0), (5, .lload_n 2, [], (0, 0), qm_d0), (6, .goto (4), [5], (0, 0), qm_d0), (9, .lload_n 0, [], (0, 0), qm_d0), (10, .lload_n 2, [], (0, 0), qm_d0), (11, .lload_n 0, [], (0, 0), qm_d0), (12, .invokestatic 358, [2, 0, 1523, 1525, 122, 1524], (0, 0), qyX10_common), (15, .ldiv, [], (0, 0), qm_d0), (16, .lreturn, [], (0, 0), qm_d0)])
set_option maxRecDepth 100000 in
theorem okX10_part : qm_okM mX10_part = true := by decide +kernel
end
section
def mX10_save : qm_M := (RX10, qyX10_save, [(0, .aload_n 0, [], (0, 0), qm_d0), (1, .iconst (0), [], (0, 0), qm_d0), (2, .putfield 85, [8, 0, 0, 1087], (0, 0), qm_d0), (5, .iload_n 1, [], (0, 0), qm_d0), (6, .iconst (1), [], (1, 0), qm_d0), (7, .bipush (6), [], (6, 0), qm_d0), (9, .invokestatic 97, [3, 0, 1242, 1244, 122, 1243], (0, 0), qyX10_in), (12, .ifCond .eq (22), [18], (0, 0), qm_d0), (15, .iload_n 2, [], (0, 0), qm_d0), (16, .iconst (1), [], (1, 0), qm_d0), (17, .bipush (9), [], (9, 0), qm_d0), (19, .invokestatic 97, [3, 0, 1242, 1244, 122, 1243], (0, 0), qyX10_in), (22, .ifCond .eq (12), [18], (0, 0), qm_d0), (25, .iload_n 3, [], (0, 0), qm_d0), (26, .iconst (0), [], (0, 0), qm_d0), (27, .iconst (2), [], (2, 0), qm_d0), (28, .invokestatic 97, [3, 0, 1242, 1244, 122, 1243], (0, 0), qyX10_in), (31, .ifCond .ne (7), [20], (0, 0), qm_d0), (34, .ldc2_w 362, [1519], (0, -1), qm_d0), (37, .lreturn, [], (0, 0), qm_d0), (38, .lconst 0, [], (0, 0), qm_d0), (39, .lstore 4, [], (0, 0), qm_d0), (41, .lconst 1, [], (0, 1), qm_d0), (42, .lstore 6, [], (0, 0), qm_d0), (44, .iconst (1), [], (1, 0), qm_d0), (45, .istore 8, [], (0, 0), qm_d0), (47, .iconst (0), [], (0, 0), qm_d0), (48, .istore 9, [], (0, 0), qm_d0), (50, .iload 9, [], (0, 0), qm_d0), (52, .iload_n 2, [], (0, 0), qm_d0), (53, .if_icmp .ge (94), [78], (0, 0), qm_d0), (56, .lconst 0, [], (0, 0), qm_d0), (57, .lstore 10, [], (0, 0), qm_d0), (59, .iload_n 1, [], (0, 0), qm_d0), (60, .istore 8, [], (0, 0), qm_d0), (62, .iload_n 1, [], (0, 0), qm_d0), (63, .istore 12, [], (0, 0), qm_d0), (65, .iload 12, [], (0, 0), qm_d0), (67, .ifCond .le (63), [69], (0, 0), qm_d0), (70, .iload 12, [], (0, 0), qm_d0), (72, .i2l, [], (0, 0), qm_d0), (73, .lload 6, [], (0, 0), qm_d0), (75, .lmul, [], (0, 0), qm_d0), (76, .lload 4, [], (0, 0), qm_d0), (78, .lcmp, [], (0, 0), qm_d0), (79, .ifCond .lt (7), [48], (0, 0), qm_d0), (82, .iconst (1), [], (1, 0), qm_d0), (83, .goto (4), [49], (0, 0), qm_d0), (86, .iconst (0), [], (0, 0), qm_d0), (87, .istore 13, [], (0, 0), qm_d0), (89, .lload 10, [], (0, 0), qm_d0), (91, .iload 13, [], (0, 0), qm_d0), (93, .ifCond .eq (12), [58], (0, 0), qm_d0), (96, .iload 12, [], (0, 0), qm_d0), (98, .i2l, [], (0, 0), qm_d0), (99, .lload 6, [], (0, 0), qm_d0), (101, .lmul, [], (0, 0), qm_d0), (102, .goto (5), [59], (0, 0), qm_d0), (105, .lload 4, [], (0, 0), qm_d0), (107, .ladd, [], (0, 0), qm_d0), (108, .lstore 10, [], (0, 0), qm_d0), (110, .iload 13, [], (0, 0), qm_d0), (112, .ifCond .eq (8), [65], (0, 0), qm_d0), (115, .iload 12, [], (0, 0), qm_d0), (117, .goto (5), [66], (0, 0), qm_d0), (120, .iload 8, [], (0, 0), qm_d0), (122, .istore 8, [], (0, 0), qm_d0), (124, .iinc 12 (-1), [], (-1, 0), qm_d0), (127, .goto (-62), [37], (0, 0), qm_d0), (130, .lload 10, [], (0, 0), qm_d0), (132, .lstore 4, [], (0, 0), qm_d0), (134, .lload 6, [], (0, 0), qm_d0), (136, .iload_n 1, [], (0, 0), qm_d0), (137, .i2l, [], (0, 0), qm_d0), (138, .lmul, [], (0, 0), qm_d0), (139, .lstore 6, [], (0, 0), qm_d0), (141, .iinc 9 (1), [], (1, 0), qm_d0), (144, .goto (-94), [28], (0, 0), qm_d0), (147, .iload_n 3, [], (0, 0), qm_d0), (148, .iconst (2), [], (2, 0), qm_d0), (149, .if_icmp .ne (9), [84], (0, 0), qm_d0), (152, .iload 8, [], (0, 0), qm_d0), (154, .i2l, [], (0, 0), qm_d0), (155, .goto (20), [93], (0, 0), qm_d0), (158, .lload 4, [], (0, 0), qm_d0), (160, .lload 6, [], (0, 0), qm_d0), (162, .iload_n 3, [], (0, 0), qm_d0), (163, .iconst (1), [], (1, 0), qm_d0), (164, .if_icmp .ne (7), [91], (0, 0), qm_d0), (167, .iconst (1), [], (1, 0), qm_d0), (168, .goto (4), [92], (0, 0), qm_d0), (171, .iconst (0), [], (0, 0), qm_d0), (172, .invokestatic 364, [3, 0, 1520, 1522, 122, 1521], (0, 0), qyX10_part), (175, .lreturn, [], (0, 0), qm_d0)])
set_option maxRecDepth 100000 in
theorem okX10_save : qm_okM mX10_save = true := by decide +kernel
def mX10_allEnds : qm_M := (RX10, qyX10_allEnds, [(0, .iconst (1), [], (1, 0), qm_d0), (1, .istore_n 1, [], (0, 0), qm_d0), (2, .iconst (0), [], (0, 0), qm_d0), (3, .istore_n 2, [], (0, 0), qm_d0), (4, .iload_n 2, [], (0, 0), qm_d0), (5, .iload_n 0, [], (0, 0), qm_d0), (6, .if_icmp .ge (14), [13], (0, 0), qm_d0), (9, .iload_n 1, [], (0, 0), qm_d0), (10, .bipush (37), [], (37, 0), qm_d0), (12, .imul, [], (0, 0), qm_d0), (13, .istore_n 1, [], (0, 0), qm_d0), (14, .iinc 2 (1), [], (1, 0), qm_d0), (17, .goto (-13), [4], (0, 0), qm_d0), (20, .iload_n 1, [], (0, 0), qm_d0), (21, .ireturn, [], (0, 0), qm_d0)])
set_option maxRecDepth 100000 in
theorem okX10_allEnds : qm_okM mX10_allEnds = true := by decide +kernel
def mX10_forget : qm_M := (RX10, qyX10_forget, [(0, .iconst (0), [], (0, 0), qm_d0), (1, .istore_n 1, [], (0, 0), qm_d0), (2, .iload_n 1, [], (0, 0), qm_d0), (3, .bipush (6), [], (6, 0), qm_d0), (5, .if_icmp .ge (23), [16], (0, 0), qm_d0), (8, .aload_n 0, [], (0, 0), qm_d0), (9, .getfield 47, [8, 30, 2, 1117], (0, 0), qm_d0), (12, .iload_n 1, [], (0, 0), qm_d0), (13, .aload_n 0, [], (0, 0), qm_d0), (14, .bipush (19), [], (19, 0), qm_d0), (16, .iload_n 1, [], (0, 0), qm_d0), (17, .iadd, [], (0, 0), qm_d0), (18, .invokevirtual 234, [1, 8, 1351, 1354, 122, 1353, 50], (0, 0), qyX10_of), (21, .iastore, [], (0, 0), qm_d0), (22, .iinc 1 (1), [], (1, 0), qm_d0), (25, .goto (-23), [2], (0, 0), qm_d0), (28, .return_, [], (0, 0), qm_d0)])
set_option maxRecDepth 100000 in
theorem okX10_forget : qm_okM mX10_forget = true := by decide +kernel
def mX10_nowTold : qm_M := (RX10, qyX10_nowTold, [(0, .iconst (0), [], (0, 0), qm_d0), (1, .istore_n 3, [], (0, 0), qm_d0), (2, .iconst (0), [], (0, 0), qm_d0), (3, .istore 4, [], (0, 0), qm_d0), (5, .iload 4, [], (0, 0), qm_d0), (7, .aload_n 0, [], (0, 0), qm_d0), (8, .getfield 238, [8, 23, 0, 1110], (0, 0), qm_d0), (11, .if_icmp .ge (61), [42], (0, 0), qm_d0), (14, .aload_n 0, [], (0, 0), qm_d0), (15, .iload 4, [], (0, 0), qm_d0), (17, .iload_n 1, [], (0, 0), qm_d0), (18, .invokevirtual 268, [2, 8, 1403, 1406, 122, 1405, 61], (0, 0), qyX10_hears), (21, .ifCond .eq (21), [24], (0, 0), qm_d0), (24, .aload_n 0, [], (0, 0), qm_d0), (25, .iload_n 2, [], (0, 0), qm_d0), (26, .invokevirtual 271, [1, 8, 1407, 1410, 122, 1409, 62], (0, 0), qyX10_whole), (29, .aload_n 0, [], (0, 0), qm_d0), (30, .getfield 47, [8, 30, 2, 1117], (0, 0), qm_d0), (33, .iload 4, [], (0, 0), qm_d0), (35, .iaload, [10], (0, 0), qm_d0), (36, .iconst (-1), [], (-1, 0), qm_d0), (37, .ixor, [], (0, 0), qm_d0), (38, .iand, [], (0, 0), qm_d0), (39, .goto (4), [25], (0, 0), qm_d0), (42, .iconst (0), [], (0, 0), qm_d0), (43, .istore 5, [], (0, 0), qm_d0), (45, .iload_n 3, [], (0, 0), qm_d0), (46, .aload_n 0, [], (0, 0), qm_d0), (47, .iload 5, [], (0, 0), qm_d0), (49, .invokevirtual 320, [1, 8, 1471, 1474, 122, 1473, 73], (0, 0), qyX10_worthOf), (52, .iadd, [], (0, 0), qm_d0), (53, .istore_n 3, [], (0, 0), qm_d0), (54, .aload_n 0, [], (0, 0), qm_d0), (55, .getfield 47, [8, 30, 2, 1117], (0, 0), qm_d0), (58, .iload 4, [], (0, 0), qm_d0), (60, .dup2, [], (0, 0), qm_d0), (61, .iaload, [10], (0, 0), qm_d0), (62, .iload 5, [], (0, 0), qm_d0), (64, .ior, [], (0, 0), qm_d0), (65, .iastore, [], (0, 0), qm_d0), (66, .iinc 4 (1), [], (1, 0), qm_d0), (69, .goto (-64), [4], (0, 0), qm_d0), (72, .iload_n 3, [], (0, 0), qm_d0), (73, .ireturn, [], (0, 0), qm_d0)])
set_option maxRecDepth 100000 in
theorem okX10_nowTold : qm_okM mX10_nowTold = true := by decide +kernel
def mX10_endOf : qm_M := (RX10, qyX10_endOf, [(0, .aload_n 0, [], (0, 0), qm_d0), (1, .invokevirtual 368, [0, 8, 1537, 1540, 122, 1539, 82], (0, 0), qyX10_forget), (4, .iconst (0), [], (0, 0), qm_d0), (5, .istore_n 3, [], (0, 0), qm_d0), (6, .iconst (0), [], (0, 0), qm_d0), (7, .istore 4, [], (0, 0), qm_d0), (9, .iload_n 1, [], (0, 0), qm_d0), (10, .invokestatic 371, [1, 0, 1530, 1532, 122, 1531], (0, 0), qyX10_allEnds), (13, .istore 5, [], (0, 0), qm_d0), (15, .iconst (0), [], (0, 0), qm_d0), (16, .istore 6, [], (0, 0), qm_d0), (18, .iload 6, [], (0, 0), qm_d0), (20, .iload_n 1, [], (0, 0), qm_d0), (21, .if_icmp .ge (119), [76], (0, 0), qm_d0), (24, .iload 5, [], (0, 0), qm_d0), (26, .bipush (37), [], (37, 0), qm_d0), (28, .idiv, [], (0, 0), qm_d0), (29, .istore 5, [], (0, 0), qm_d0), (31, .iload_n 2, [], (0, 0), qm_d0), (32, .iload 5, [], (0, 0), qm_d0), (34, .idiv, [], (0, 0), qm_d0), (35, .bipush (37), [], (37, 0), qm_d0), (37, .irem, [], (0, 0), qm_d0), (38, .istore 7, [], (0, 0), qm_d0), (40, .iload 7, [], (0, 0), qm_d0), (42, .bipush (6), [], (6, 0), qm_d0), (44, .idiv, [], (0, 0), qm_d0), (45, .istore 8, [], (0, 0), qm_d0), (47, .iload 7, [], (0, 0), qm_d0), (49, .bipush (36), [], (36, 0), qm_d0), (51, .if_icmp .ge (83), [74], (0, 0), qm_d0), (54, .iload 8, [], (0, 0), qm_d0), (56, .aload_n 0, [], (0, 0), qm_d0), (57, .getfield 238, [8, 23, 0, 1110], (0, 0), qm_d0), (60, .if_icmp .ge (30), [48], (0, 0), qm_d0), (63, .iload_n 3, [], (0, 0), qm_d0), (64, .iload 8, [], (0, 0), qm_d0), (66, .invokestatic 89, [2, 0, 1332, 1334, 122, 1333], (0, 0), qyX10_has), (69, .ifCond .ne (21), [48], (0, 0), qm_d0), (72, .aload_n 0, [], (0, 0), qm_d0), (73, .getfield 47, [8, 30, 2, 1117], (0, 0), qm_d0), (76, .iload 8, [], (0, 0), qm_d0), (78, .iaload, [10], (0, 0), qm_d0), (79, .iload 7, [], (0, 0), qm_d0), (81, .bipush (6), [], (6, 0), qm_d0), (83, .irem, [], (0, 0), qm_d0), (84, .invokestatic 89, [2, 0, 1332, 1334, 122, 1333], (0, 0), qyX10_has), (87, .ifCond .ne (7), [50], (0, 0), qm_d0), (90, .sipush (-9999), [], (-9999, 0), qm_d0), (93, .ireturn, [], (0, 0), qm_d0), (94, .iload_n 3, [], (0, 0), qm_d0), (95, .iconst (1), [], (1, 0), qm_d0), (96, .iload 8, [], (0, 0), qm_d0), (98, .ishl, [], (0, 0), qm_d0), (99, .ior, [], (0, 0), qm_d0), (100, .istore_n 3, [], (0, 0), qm_d0), (101, .aload_n 0, [], (0, 0), qm_d0), (102, .iload 8, [], (0, 0), qm_d0), (104, .iload 7, [], (0, 0), qm_d0), (106, .bipush (6), [], (6, 0), qm_d0), (108, .irem, [], (0, 0), qm_d0), (109, .invokevirtual 374, [2, 8, 1541, 1544, 122, 1543, 83], (0, 0), qyX10_nowTold), (112, .istore 9, [], (0, 0), qm_d0), (114, .iload 4, [], (0, 0), qm_d0), (116, .iload 6, [], (0, 0), qm_d0), (118, .iconst (2), [], (2, 0), qm_d0), (119, .irem, [], (0, 0), qm_d0), (120, .ifCond .ne (8), [70], (0, 0), qm_d0), (123, .iload 9, [], (0, 0), qm_d0), (125, .goto (6), [72], (0, 0), qm_d0), (128, .iload 9, [], (0, 0), qm_d0), (130, .ineg, [], (0, 0), qm_d0), (131, .iadd, [], (0, 0), qm_d0), (132, .istore 4, [], (0, 0), qm_d0), (134, .iinc 6 (1), [], (1, 0), qm_d0), (137, .goto (-119), [11], (0, 0), qm_d0), (140, .iload 4, [], (0, 0), qm_d0), (142, .ireturn, [], (0, 0), qm_d0)])
set_option maxRecDepth 100000 in
theorem okX10_endOf : qm_okM mX10_endOf = true := by decide +kernel
def mX10_fold : qm_M := (RX10, qyX10_fold, [(0, .sipush (-9999), [], (-9999, 0), qm_d0), (3, .istore_n 3, [], (0, 0), qm_d0), (4, .aload_n 0, [], (0, 0), qm_d0), (5, .iconst (-1), [], (-1, 0), qm_d0), (6, .putfield 377, [8, 40, 0, 1127], (0, 0), qm_d0), (9, .iconst (0), [], (0, 0), qm_d0), (10, .istore 4, [], (0, 0), qm_d0), (12, .iload 4, [], (0, 0), qm_d0), (14, .bipush (37), [], (37, 0), qm_d0), (16, .if_icmp .ge (63), [39], (0, 0), qm_d0), (19, .aload_n 0, [], (0, 0), qm_d0), (20, .getfield 72, [8, 39, 2, 1126], (0, 0), qm_d0), (23, .iload_n 1, [], (0, 0), qm_d0), (24, .iload 4, [], (0, 0), qm_d0), (26, .iadd, [], (0, 0), qm_d0), (27, .iaload, [10], (0, 0), qm_d0), (28, .istore 5, [], (0, 0), qm_d0), (30, .iload 5, [], (0, 0), qm_d0), (32, .sipush (-9999), [], (-9999, 0), qm_d0), (35, .if_icmp .eq (38), [37], (0, 0), qm_d0), (38, .iload_n 3, [], (0, 0), qm_d0), (39, .sipush (-9999), [], (-9999, 0), qm_d0), (42, .if_icmp .eq (22), [32], (0, 0), qm_d0), (45, .iload_n 2, [], (0, 0), qm_d0), (46, .ifCond .eq (12), [29], (0, 0), qm_d0), (49, .iload 5, [], (0, 0), qm_d0), (51, .iload_n 3, [], (0, 0), qm_d0), (52, .if_icmp .le (21), [37], (0, 0), qm_d0), (55, .goto (9), [32], (0, 0), qm_d0), (58, .iload 5, [], (0, 0), qm_d0), (60, .iload_n 3, [], (0, 0), qm_d0), (61, .if_icmp .ge (12), [37], (0, 0), qm_d0), (64, .iload 5, [], (0, 0), qm_d0), (66, .istore_n 3, [], (0, 0), qm_d0), (67, .aload_n 0, [], (0, 0), qm_d0), (68, .iload 4, [], (0, 0), qm_d0), (70, .putfield 377, [8, 40, 0, 1127], (0, 0), qm_d0), (73, .iinc 4 (1), [], (1, 0), qm_d0), (76, .goto (-64), [7], (0, 0), qm_d0), (79, .iload_n 3, [], (0, 0), qm_d0), (80, .ireturn, [], (0, 0), qm_d0)])
set_option maxRecDepth 100000 in
theorem okX10_fold : qm_okM mX10_fold = true := by decide +kernel
def mX10_byTurns : qm_M := (RX10, qyX10_byTurns, [(0, .aload_n 0, [], (0, 0), qm_d0), (1, .iconst (0), [], (0, 0), qm_d0), (2, .putfield 85, [8, 0, 0, 1087], (0, 0), qm_d0), (5, .iload_n 2, [], (0, 0), qm_d0), (6, .iconst (0), [], (0, 0), qm_d0), (7, .iconst (3), [], (3, 0), qm_d0), (8, .invokestatic 97, [3, 0, 1242, 1244, 122, 1243], (0, 0), qyX10_in), (11, .ifCond .eq (11), [12], (0, 0), qm_d0), (14, .aload_n 0, [], (0, 0), qm_d0), (15, .iload_n 1, [], (0, 0), qm_d0), (16, .invokevirtual 253, [1, 8, 1347, 1350, 122, 1349, 49], (0, 0), qyX10_hand), (19, .ifCond .ne (7), [14], (0, 0), qm_d0), (22, .sipush (-999), [], (-999, 0), qm_d0), (25, .ireturn, [], (0, 0), qm_d0), (26, .iload_n 2, [], (0, 0), qm_d0), (27, .invokestatic 371, [1, 0, 1530, 1532, 122, 1531], (0, 0), qyX10_allEnds), (30, .istore 4, [], (0, 0), qm_d0), (32, .iconst (0), [], (0, 0), qm_d0), (33, .istore 5, [], (0, 0), qm_d0), (35, .iload 5, [], (0, 0), qm_d0), (37, .iload 4, [], (0, 0), qm_d0), (39, .if_icmp .ge (23), [32], (0, 0), qm_d0), (42, .aload_n 0, [], (0, 0), qm_d0), (43, .getfield 72, [8, 39, 2, 1126], (0, 0), qm_d0), (46, .iload 5, [], (0, 0), qm_d0), (48, .aload_n 0, [], (0, 0), qm_d0), (49, .iload_n 2, [], (0, 0), qm_d0), (50, .iload 5, [], (0, 0), qm_d0), (52, .invokevirtual 380, [2, 8, 1533, 1536, 122, 1535, 81], (0, 0), qyX10_endOf), (55, .iastore, [], (0, 0), qm_d0), (56, .iinc 5 (1), [], (1, 0), qm_d0), (59, .goto (-24), [19], (0, 0), qm_d0), (62, .aload_n 0, [], (0, 0), qm_d0), (63, .iconst (-1), [], (-1, 0), qm_d0), (64, .putfield 377, [8, 40, 0, 1127], (0, 0), qm_d0), (67, .iload_n 2, [], (0, 0), qm_d0), (68, .iconst (1), [], (1, 0), qm_d0), (69, .isub, [], (0, 0), qm_d0), (70, .istore 5, [], (0, 0), qm_d0), (72, .iload 5, [], (0, 0), qm_d0), (74, .ifCond .lt (60), [70], (0, 0), qm_d0), (77, .iload 4, [], (0, 0), qm_d0), (79, .bipush (37), [], (37, 0), qm_d0), (81, .idiv, [], (0, 0), qm_d0), (82, .istore 4, [], (0, 0), qm_d0), (84, .iconst (0), [], (0, 0), qm_d0), (85, .istore 6, [], (0, 0), qm_d0), (87, .iload 6, [], (0, 0), qm_d0), (89, .iload 4, [], (0, 0), qm_d0), (91, .if_icmp .ge (37), [68], (0, 0), qm_d0), (94, .aload_n 0, [], (0, 0), qm_d0), (95, .getfield 72, [8, 39, 2, 1126], (0, 0), qm_d0), (98, .iload 6, [], (0, 0), qm_d0), (100, .aload_n 0, [], (0, 0), qm_d0), (101, .bipush (37), [], (37, 0), qm_d0), (103, .iload 6, [], (0, 0), qm_d0), (105, .imul, [], (0, 0), qm_d0), (106, .iload 5, [], (0, 0), qm_d0), (108, .iconst (2), [], (2, 0), qm_d0), (109, .irem, [], (0, 0), qm_d0), (110, .ifCond .ne (7), [63], (0, 0), qm_d0), (113, .iconst (1), [], (1, 0), qm_d0), (114, .goto (4), [64], (0, 0), qm_d0), (117, .iconst (0), [], (0, 0), qm_d0), (118, .invokevirtual 383, [2, 8, 1545, 1548, 122, 1547, 84], (0, 0), qyX10_fold), (121, .iastore, [], (0, 0), qm_d0), (122, .iinc 6 (1), [], (1, 0), qm_d0), (125, .goto (-38), [47], (0, 0), qm_d0), (128, .iinc 5 (-1), [], (-1, 0), qm_d0), (131, .goto (-59), [39], (0, 0), qm_d0), (134, .iload_n 3, [], (0, 0), qm_d0), (135, .ifCond .ne (12), [77], (0, 0), qm_d0), (138, .aload_n 0, [], (0, 0), qm_d0), (139, .getfield 72, [8, 39, 2, 1126], (0, 0), qm_d0), (142, .iconst (0), [], (0, 0), qm_d0), (143, .iaload, [10], (0, 0), qm_d0), (144, .goto (47), [100], (0, 0), qm_d0), (147, .aload_n 0, [], (0, 0), qm_d0), (148, .getfield 377, [8, 40, 0, 1127], (0, 0), qm_d0), (151, .iconst (-1), [], (-1, 0), qm_d0), (152, .if_icmp .ne (7), [83], (0, 0), qm_d0), (155, .iconst (-1), [], (-1, 0), qm_d0), (156, .goto (35), [100], (0, 0), qm_d0), (159, .aload_n 0, [], (0, 0), qm_d0), (160, .getfield 377, [8, 40, 0, 1127], (0, 0), qm_d0), (163, .bipush (36), [], (36, 0), qm_d0), (165, .if_icmp .ne (8), [89], (0, 0), qm_d0), (168, .bipush (99), [], (99, 0), qm_d0), (170, .goto (21), [100], (0, 0), qm_d0), (173, .bipush (10), [], (10, 0), qm_d0), (175, .aload_n 0, [], (0, 0), qm_d0), (176, .getfield 377, [8, 40, 0, 1127], (0, 0), qm_d0), (179, .bipush (6), [], (6, 0), qm_d0), (181, .idiv, [], (0, 0), qm_d0), (182, .imul, [], (0, 0), qm_d0), (183, .aload_n 0, [], (0, 0), qm_d0), (184, .getfield 377, [8, 40, 0, 1127], (0, 0), qm_d0), (187, .bipush (6), [], (6, 0), qm_d0), (189, .irem, [], (0, 0), qm_d0), (190, .iadd, [], (0, 0), qm_d0), (191, .ireturn, [], (0, 0), qm_d0)])
set_option maxRecDepth 100000 in
theorem okX10_byTurns : qm_okM mX10_byTurns = true := by decide +kernel
def mX10_lineOf : qm_M := (RX10, qyX10_lineOf, [(0, .aload_n 0, [], (0, 0), qm_d0), (1, .getfield 32, [8, 8, 2, 1095], (0, 0), qm_d0), (4, .bipush (17), [], (17, 0), qm_d0), (6, .aload_n 0, [], (0, 0), qm_d0), (7, .getfield 386, [8, 41, 0, 1128], (0, 0), qm_d0), (10, .imul, [], (0, 0), qm_d0), (11, .iconst (1), [], (1, 0), qm_d0), (12, .iadd, [], (0, 0), qm_d0), (13, .iconst (2), [], (2, 0), qm_d0), (14, .iload_n 1, [], (0, 0), qm_d0), (15, .imul, [], (0, 0), qm_d0), (16, .iadd, [], (0, 0), qm_d0), (17, .iload_n 2, [], (0, 0), qm_d0), (18, .iadd, [], (0, 0), qm_d0), (19, .iaload, [10], (0, 0), qm_d0), (20, .ireturn, [], (0, 0), qm_d0)])
set_option maxRecDepth 100000 in
theorem okX10_lineOf : qm_okM mX10_lineOf = true := by decide +kernel
def mX10_linesOf : qm_M := (RX10, qyX10_linesOf, [(0, .aload_n 0, [], (0, 0), qm_d0), (1, .getfield 32, [8, 8, 2, 1095], (0, 0), qm_d0), (4, .bipush (17), [], (17, 0), qm_d0), (6, .aload_n 0, [], (0, 0), qm_d0), (7, .getfield 386, [8, 41, 0, 1128], (0, 0), qm_d0), (10, .imul, [], (0, 0), qm_d0), (11, .iaload, [10], (0, 0), qm_d0), (12, .ireturn, [], (0, 0), qm_d0)])
set_option maxRecDepth 100000 in
theorem okX10_linesOf : qm_okM mX10_linesOf = true := by decide +kernel
def mX10_hasLog : qm_M := (RX10, qyX10_hasLog, [(0, .aload_n 0, [], (0, 0), qm_d0), (1, .iload_n 1, [], (0, 0), qm_d0), (2, .putfield 386, [8, 41, 0, 1128], (0, 0), qm_d0), (5, .aload_n 0, [], (0, 0), qm_d0), (6, .iconst (2), [], (2, 0), qm_d0), (7, .iload_n 1, [], (0, 0), qm_d0), (8, .invokevirtual 221, [2, 8, 1249, 1252, 122, 1251, 31], (0, 0), qyX10_is), (11, .ireturn, [], (0, 0), qm_d0)])
set_option maxRecDepth 100000 in
theorem okX10_hasLog : qm_okM mX10_hasLog = true := by decide +kernel
def mX10_fact : qm_M := (RX10, qyX10_fact, [(0, .aload_n 0, [], (0, 0), qm_d0), (1, .iconst (0), [], (0, 0), qm_d0), (2, .putfield 85, [8, 0, 0, 1087], (0, 0), qm_d0), (5, .aload_n 0, [], (0, 0), qm_d0), (6, .iload_n 1, [], (0, 0), qm_d0), (7, .invokevirtual 389, [1, 8, 1553, 1556, 122, 1555, 85], (0, 0), qyX10_hasLog), (10, .ifCond .ne (6), [9], (0, 0), qm_d0), (13, .bipush (-2), [], (-2, 0), qm_d0), (15, .ireturn, [], (0, 0), qm_d0), (16, .iload_n 2, [], (0, 0), qm_d0), (17, .iconst (-1), [], (-1, 0), qm_d0), (18, .if_icmp .ne (17), [19], (0, 0), qm_d0), (21, .iload_n 3, [], (0, 0), qm_d0), (22, .ifCond .ne (10), [17], (0, 0), qm_d0), (25, .aload_n 0, [], (0, 0), qm_d0), (26, .invokevirtual 392, [0, 8, 1557, 1560, 122, 1559, 86], (0, 0), qyX10_linesOf), (29, .goto (5), [18], (0, 0), qm_d0), (32, .bipush (-2), [], (-2, 0), qm_d0), (34, .ireturn, [], (0, 0), qm_d0), (35, .iload_n 2, [], (0, 0), qm_d0), (36, .iconst (0), [], (0, 0), qm_d0), (37, .aload_n 0, [], (0, 0), qm_d0), (38, .invokevirtual 392, [0, 8, 1557, 1560, 122, 1559, 86], (0, 0), qyX10_linesOf), (41, .iconst (1), [], (1, 0), qm_d0), (42, .isub, [], (0, 0), qm_d0), (43, .invokestatic 97, [3, 0, 1242, 1244, 122, 1243], (0, 0), qyX10_in), (46, .ifCond .eq (21), [37], (0, 0), qm_d0), (49, .iload_n 3, [], (0, 0), qm_d0), (50, .iconst (0), [], (0, 0), qm_d0), (51, .iconst (1), [], (1, 0), qm_d0), (52, .invokestatic 97, [3, 0, 1242, 1244, 122, 1243], (0, 0), qyX10_in), (55, .ifCond .eq (12), [37], (0, 0), qm_d0), (58, .aload_n 0, [], (0, 0), qm_d0), (59, .iload_n 2, [], (0, 0), qm_d0), (60, .iload_n 3, [], (0, 0), qm_d0), (61, .invokevirtual 395, [2, 8, 1561, 1564, 122, 1563, 87], (0, 0), qyX10_lineOf), (64, .goto (5), [38], (0, 0), qm_d0), (67, .bipush (-2), [], (-2, 0), qm_d0), (69, .ireturn, [], (0, 0), qm_d0)])
set_option maxRecDepth 100000 in
theorem okX10_fact : qm_okM mX10_fact = true := by decide +kernel
def mX10_closed : qm_M := (RX10, qyX10_closed, [(0, .iload_n 1, [], (0, 0), qm_d0), (1, .istore_n 2, [], (0, 0), qm_d0), (2, .iconst (0), [], (0, 0), qm_d0), (3, .istore_n 3, [], (0, 0), qm_d0), (4, .iload_n 3, [], (0, 0), qm_d0), (5, .bipush (6), [], (6, 0), qm_d0), (7, .if_icmp .ge (32), [23], (0, 0), qm_d0), (10, .iload_n 2, [], (0, 0), qm_d0), (11, .iload_n 1, [], (0, 0), qm_d0), (12, .iload_n 3, [], (0, 0), qm_d0), (13, .invokestatic 89, [2, 0, 1332, 1334, 122, 1333], (0, 0), qyX10_has), (16, .ifCond .eq (14), [18], (0, 0), qm_d0), (19, .aload_n 0, [], (0, 0), qm_d0), (20, .bipush (7), [], (7, 0), qm_d0), (22, .iload_n 3, [], (0, 0), qm_d0), (23, .iadd, [], (0, 0), qm_d0), (24, .invokevirtual 234, [1, 8, 1351, 1354, 122, 1353, 50], (0, 0), qyX10_of), (27, .goto (4), [19], (0, 0), qm_d0), (30, .iconst (0), [], (0, 0), qm_d0), (31, .ior, [], (0, 0), qm_d0), (32, .istore_n 2, [], (0, 0), qm_d0), (33, .iinc 3 (1), [], (1, 0), qm_d0), (36, .goto (-32), [4], (0, 0), qm_d0), (39, .iload_n 2, [], (0, 0), qm_d0), (40, .ireturn, [], (0, 0), qm_d0)])
set_option maxRecDepth 100000 in
theorem okX10_closed : qm_okM mX10_closed = true := by decide +kernel
def mX10_isFit : qm_M := (RX10, qyX10_isFit, [(0, .aload_n 0, [], (0, 0), qm_d0), (1, .iload_n 1, [], (0, 0), qm_d0), (2, .invokevirtual 398, [1, 8, 1577, 1580, 122, 1579, 90], (0, 0), qyX10_closed), (5, .iload_n 1, [], (0, 0), qm_d0), (6, .if_icmp .ne (7), [7], (0, 0), qm_d0), (9, .iconst (1), [], (1, 0), qm_d0), (10, .goto (4), [8], (0, 0), qm_d0), (13, .iconst (0), [], (0, 0), qm_d0), (14, .istore_n 2, [], (0, 0), qm_d0), (15, .iconst (0), [], (0, 0), qm_d0), (16, .istore_n 3, [], (0, 0), qm_d0), (17, .iload_n 3, [], (0, 0), qm_d0), (18, .aload_n 0, [], (0, 0), qm_d0), (19, .invokevirtual 392, [0, 8, 1557, 1560, 122, 1559, 86], (0, 0), qyX10_linesOf), (22, .if_icmp .ge (47), [39], (0, 0), qm_d0), (25, .iload_n 2, [], (0, 0), qm_d0), (26, .ifCond .eq (43), [39], (0, 0), qm_d0), (29, .iload_n 1, [], (0, 0), qm_d0), (30, .aload_n 0, [], (0, 0), qm_d0), (31, .iload_n 3, [], (0, 0), qm_d0), (32, .iconst (1), [], (1, 0), qm_d0), (33, .invokevirtual 395, [2, 8, 1561, 1564, 122, 1563, 87], (0, 0), qyX10_lineOf), (36, .invokestatic 89, [2, 0, 1332, 1334, 122, 1333], (0, 0), qyX10_has), (39, .aload_n 0, [], (0, 0), qm_d0), (40, .iload_n 3, [], (0, 0), qm_d0), (41, .iconst (0), [], (0, 0), qm_d0), (42, .invokevirtual 395, [2, 8, 1561, 1564, 122, 1563, 87], (0, 0), qyX10_lineOf), (45, .iconst (1), [], (1, 0), qm_d0), (46, .if_icmp .ne (7), [31], (0, 0), qm_d0), (49, .iconst (1), [], (1, 0), qm_d0), (50, .goto (4), [32], (0, 0), qm_d0), (53, .iconst (0), [], (0, 0), qm_d0), (54, .if_icmp .ne (7), [35], (0, 0), qm_d0), (57, .iconst (1), [], (1, 0), qm_d0), (58, .goto (4), [36], (0, 0), qm_d0), (61, .iconst (0), [], (0, 0), qm_d0), (62, .istore_n 2, [], (0, 0), qm_d0), (63, .iinc 3 (1), [], (1, 0), qm_d0), (66, .goto (-49), [11], (0, 0), qm_d0), (69, .iload_n 2, [], (0, 0), qm_d0), (70, .ireturn, [], (0, 0), qm_d0)])
set_option maxRecDepth 100000 in
theorem okX10_isFit : qm_okM mX10_isFit = true := by decide +kernel
def mX10_layLog : qm_M := (RX10, qyX10_layLog, [(0, .aload_n 0, [], (0, 0), qm_d0), (1, .iload_n 2, [], (0, 0), qm_d0), (2, .invokevirtual 389, [1, 8, 1553, 1556, 122, 1555, 85], (0, 0), qyX10_hasLog), (5, .ifCond .eq (11), [8], (0, 0), qm_d0), (8, .aload_n 0, [], (0, 0), qm_d0), (9, .iload_n 1, [], (0, 0), qm_d0), (10, .invokevirtual 253, [1, 8, 1347, 1350, 122, 1349, 49], (0, 0), qyX10_hand), (13, .ifCond .ne (5), [10], (0, 0), qm_d0), (16, .iconst (0), [], (0, 0), qm_d0), (17, .ireturn, [], (0, 0), qm_d0), (18, .aload_n 0, [], (0, 0), qm_d0), (19, .iconst (0), [], (0, 0), qm_d0), (20, .putfield 401, [8, 43, 0, 1130], (0, 0), qm_d0), (23, .iconst (0), [], (0, 0), qm_d0), (24, .istore_n 3, [], (0, 0), qm_d0), (25, .iload_n 3, [], (0, 0), qm_d0), (26, .bipush (64), [], (64, 0), qm_d0), (28, .if_icmp .ge (37), [36], (0, 0), qm_d0), (31, .aload_n 0, [], (0, 0), qm_d0), (32, .iload_n 3, [], (0, 0), qm_d0), (33, .invokevirtual 404, [1, 8, 1573, 1576, 122, 1575, 89], (0, 0), qyX10_isFit), (36, .ifCond .eq (23), [34], (0, 0), qm_d0), (39, .aload_n 0, [], (0, 0), qm_d0), (40, .getfield 75, [8, 42, 2, 1129], (0, 0), qm_d0), (43, .aload_n 0, [], (0, 0), qm_d0), (44, .getfield 401, [8, 43, 0, 1130], (0, 0), qm_d0), (47, .iload_n 3, [], (0, 0), qm_d0), (48, .iastore, [], (0, 0), qm_d0), (49, .aload_n 0, [], (0, 0), qm_d0), (50, .dup, [], (0, 0), qm_d0), (51, .getfield 401, [8, 43, 0, 1130], (0, 0), qm_d0), (54, .iconst (1), [], (1, 0), qm_d0), (55, .iadd, [], (0, 0), qm_d0), (56, .putfield 401, [8, 43, 0, 1130], (0, 0), qm_d0), (59, .iinc 3 (1), [], (1, 0), qm_d0), (62, .goto (-37), [15], (0, 0), qm_d0), (65, .iconst (1), [], (1, 0), qm_d0), (66, .ireturn, [], (0, 0), qm_d0)])
set_option maxRecDepth 100000 in
theorem okX10_layLog : qm_okM mX10_layLog = true := by decide +kernel
def mX10_manyHave : qm_M := (RX10, qyX10_manyHave, [(0, .iconst (0), [], (0, 0), qm_d0), (1, .istore_n 2, [], (0, 0), qm_d0), (2, .iconst (0), [], (0, 0), qm_d0), (3, .istore_n 3, [], (0, 0), qm_d0), (4, .iload_n 3, [], (0, 0), qm_d0), (5, .aload_n 0, [], (0, 0), qm_d0), (6, .getfield 401, [8, 43, 0, 1130], (0, 0), qm_d0), (9, .if_icmp .ge (30), [23], (0, 0), qm_d0), (12, .iload_n 2, [], (0, 0), qm_d0), (13, .aload_n 0, [], (0, 0), qm_d0), (14, .getfield 75, [8, 42, 2, 1129], (0, 0), qm_d0), (17, .iload_n 3, [], (0, 0), qm_d0), (18, .iaload, [10], (0, 0), qm_d0), (19, .iload_n 1, [], (0, 0), qm_d0), (20, .invokestatic 89, [2, 0, 1332, 1334, 122, 1333], (0, 0), qyX10_has), (23, .ifCond .eq (7), [18], (0, 0), qm_d0), (26, .iconst (1), [], (1, 0), qm_d0), (27, .goto (4), [19], (0, 0), qm_d0), (30, .iconst (0), [], (0, 0), qm_d0), (31, .iadd, [], (0, 0), qm_d0), (32, .istore_n 2, [], (0, 0), qm_d0), (33, .iinc 3 (1), [], (1, 0), qm_d0), (36, .goto (-32), [4], (0, 0), qm_d0), (39, .iload_n 2, [], (0, 0), qm_d0), (40, .ireturn, [], (0, 0), qm_d0)])
set_option maxRecDepth 100000 in
theorem okX10_manyHave : qm_okM mX10_manyHave = true := by decide +kernel
def mX10_sure : qm_M := (RX10, qyX10_sure, [(0, .bipush (63), [], (63, 0), qm_d0), (2, .istore_n 1, [], (0, 0), qm_d0), (3, .iconst (0), [], (0, 0), qm_d0), (4, .istore_n 2, [], (0, 0), qm_d0), (5, .iload_n 2, [], (0, 0), qm_d0), (6, .aload_n 0, [], (0, 0), qm_d0), (7, .getfield 401, [8, 43, 0, 1130], (0, 0), qm_d0), (10, .if_icmp .ge (18), [17], (0, 0), qm_d0), (13, .iload_n 1, [], (0, 0), qm_d0), (14, .aload_n 0, [], (0, 0), qm_d0), (15, .getfield 75, [8, 42, 2, 1129], (0, 0), qm_d0), (18, .iload_n 2, [], (0, 0), qm_d0), (19, .iaload, [10], (0, 0), qm_d0), (20, .iand, [], (0, 0), qm_d0), (21, .istore_n 1, [], (0, 0), qm_d0), (22, .iinc 2 (1), [], (1, 0), qm_d0), (25, .goto (-20), [4], (0, 0), qm_d0), (28, .aload_n 0, [], (0, 0), qm_d0), (29, .getfield 401, [8, 43, 0, 1130], (0, 0), qm_d0), (32, .ifCond .ne (7), [22], (0, 0), qm_d0), (35, .iconst (-1), [], (-1, 0), qm_d0), (36, .goto (4), [23], (0, 0), qm_d0), (39, .iload_n 1, [], (0, 0), qm_d0), (40, .ireturn, [], (0, 0), qm_d0)])
set_option maxRecDepth 100000 in
theorem okX10_sure : qm_okM mX10_sure = true := by decide +kernel
def mX10_next : qm_M := (RX10, qyX10_next, [(0, .iconst (-1), [], (-1, 0), qm_d0), (1, .istore_n 1, [], (0, 0), qm_d0), (2, .ldc_w 310, [1442], (1000000, 0), qm_d0), (5, .istore_n 2, [], (0, 0), qm_d0), (6, .iconst (0), [], (0, 0), qm_d0), (7, .istore_n 3, [], (0, 0), qm_d0), (8, .iload_n 3, [], (0, 0), qm_d0), (9, .bipush (6), [], (6, 0), qm_d0), (11, .if_icmp .ge (55), [36], (0, 0), qm_d0), (14, .aload_n 0, [], (0, 0), qm_d0), (15, .getfield 401, [8, 43, 0, 1130], (0, 0), qm_d0), (18, .ifCond .le (48), [36], (0, 0), qm_d0), (21, .aload_n 0, [], (0, 0), qm_d0), (22, .iload_n 3, [], (0, 0), qm_d0), (23, .invokevirtual 407, [1, 8, 1589, 1592, 122, 1591, 93], (0, 0), qyX10_manyHave), (26, .aload_n 0, [], (0, 0), qm_d0), (27, .getfield 401, [8, 43, 0, 1130], (0, 0), qm_d0), (30, .aload_n 0, [], (0, 0), qm_d0), (31, .iload_n 3, [], (0, 0), qm_d0), (32, .invokevirtual 407, [1, 8, 1589, 1592, 122, 1591, 93], (0, 0), qyX10_manyHave), (35, .isub, [], (0, 0), qm_d0), (36, .invokestatic 170, [2, 0, 1306, 1308, 122, 1307], (0, 0), qyX10_greater), (39, .istore 4, [], (0, 0), qm_d0), (41, .iload 4, [], (0, 0), qm_d0), (43, .iload_n 2, [], (0, 0), qm_d0), (44, .if_icmp .ge (7), [28], (0, 0), qm_d0), (47, .iload_n 3, [], (0, 0), qm_d0), (48, .goto (4), [29], (0, 0), qm_d0), (51, .iload_n 1, [], (0, 0), qm_d0), (52, .istore_n 1, [], (0, 0), qm_d0), (53, .iload_n 2, [], (0, 0), qm_d0), (54, .iload 4, [], (0, 0), qm_d0), (56, .invokestatic 280, [2, 0, 1423, 1425, 122, 1424], (0, 0), qyX10_lesser), (59, .istore_n 2, [], (0, 0), qm_d0), (60, .iinc 3 (1), [], (1, 0), qm_d0), (63, .goto (-55), [6], (0, 0), qm_d0), (66, .iload_n 1, [], (0, 0), qm_d0), (67, .ireturn, [], (0, 0), qm_d0)])
set_option maxRecDepth 100000 in
theorem okX10_next : qm_okM mX10_next = true := by decide +kernel
def mX10_whose : qm_M := (RX10, qyX10_whose, [(0, .iconst (0), [], (0, 0), qm_d0), (1, .istore_n 1, [], (0, 0), qm_d0), (2, .iconst (0), [], (0, 0), qm_d0), (3, .istore_n 2, [], (0, 0), qm_d0), (4, .iload_n 2, [], (0, 0), qm_d0), (5, .aload_n 0, [], (0, 0), qm_d0), (6, .getfield 238, [8, 23, 0, 1110], (0, 0), qm_d0), (9, .if_icmp .ge (32), [25], (0, 0), qm_d0), (12, .iload_n 1, [], (0, 0), qm_d0), (13, .aload_n 0, [], (0, 0), qm_d0), (14, .aload_n 0, [], (0, 0), qm_d0), (15, .getfield 47, [8, 30, 2, 1117], (0, 0), qm_d0), (18, .iload_n 2, [], (0, 0), qm_d0), (19, .iaload, [10], (0, 0), qm_d0), (20, .invokevirtual 404, [1, 8, 1573, 1576, 122, 1575, 89], (0, 0), qyX10_isFit), (23, .ifCond .eq (9), [20], (0, 0), qm_d0), (26, .iconst (1), [], (1, 0), qm_d0), (27, .iload_n 2, [], (0, 0), qm_d0), (28, .ishl, [], (0, 0), qm_d0), (29, .goto (4), [21], (0, 0), qm_d0), (32, .iconst (0), [], (0, 0), qm_d0), (33, .ior, [], (0, 0), qm_d0), (34, .istore_n 1, [], (0, 0), qm_d0), (35, .iinc 2 (1), [], (1, 0), qm_d0), (38, .goto (-34), [4], (0, 0), qm_d0), (41, .iload_n 1, [], (0, 0), qm_d0), (42, .ireturn, [], (0, 0), qm_d0)])
set_option maxRecDepth 100000 in
theorem okX10_whose : qm_okM mX10_whose = true := by decide +kernel
def mX10_fits : qm_M := (RX10, qyX10_fits, [(0, .aload_n 0, [], (0, 0), qm_d0), (1, .iconst (0), [], (0, 0), qm_d0), (2, .putfield 85, [8, 0, 0, 1087], (0, 0), qm_d0), (5, .aload_n 0, [], (0, 0), qm_d0), (6, .iload_n 1, [], (0, 0), qm_d0), (7, .iload_n 2, [], (0, 0), qm_d0), (8, .invokevirtual 410, [2, 8, 1569, 1572, 122, 1571, 88], (0, 0), qyX10_layLog), (11, .ifCond .ne (6), [10], (0, 0), qm_d0), (14, .bipush (-2), [], (-2, 0), qm_d0), (16, .ireturn, [], (0, 0), qm_d0), (17, .iload_n 3, [], (0, 0), qm_d0), (18, .bipush (10), [], (10, 0), qm_d0), (20, .if_icmp .lt (29), [28], (0, 0), qm_d0), (23, .iload_n 3, [], (0, 0), qm_d0), (24, .bipush (10), [], (10, 0), qm_d0), (26, .isub, [], (0, 0), qm_d0), (27, .aload_n 0, [], (0, 0), qm_d0), (28, .getfield 401, [8, 43, 0, 1130], (0, 0), qm_d0), (31, .if_icmp .ge (15), [26], (0, 0), qm_d0), (34, .aload_n 0, [], (0, 0), qm_d0), (35, .getfield 75, [8, 42, 2, 1129], (0, 0), qm_d0), (38, .iload_n 3, [], (0, 0), qm_d0), (39, .bipush (10), [], (10, 0), qm_d0), (41, .isub, [], (0, 0), qm_d0), (42, .iaload, [10], (0, 0), qm_d0), (43, .goto (5), [27], (0, 0), qm_d0), (46, .bipush (-2), [], (-2, 0), qm_d0), (48, .ireturn, [], (0, 0), qm_d0), (49, .iload_n 3, [], (0, 0), qm_d0), (50, .tableswitch (50) (0) (3) #[30, 35, 40, 45], [42, 30, 33, 36, 39], (30, 0), qm_d0), (80, .aload_n 0, [], (0, 0), qm_d0), (81, .getfield 401, [8, 43, 0, 1130], (0, 0), qm_d0), (84, .ireturn, [], (0, 0), qm_d0), (85, .aload_n 0, [], (0, 0), qm_d0), (86, .invokevirtual 413, [0, 8, 1581, 1584, 122, 1583, 91], (0, 0), qyX10_sure), (89, .ireturn, [], (0, 0), qm_d0), (90, .aload_n 0, [], (0, 0), qm_d0), (91, .invokevirtual 416, [0, 8, 1585, 1588, 122, 1587, 92], (0, 0), qyX10_next), (94, .ireturn, [], (0, 0), qm_d0), (95, .aload_n 0, [], (0, 0), qm_d0), (96, .invokevirtual 419, [0, 8, 1593, 1596, 122, 1595, 94], (0, 0), qyX10_whose), (99, .ireturn, [], (0, 0), qm_d0), (100, .bipush (-2), [], (-2, 0), qm_d0), (102, .ireturn, [], (0, 0), qm_d0)])
set_option maxRecDepth 100000 in
theorem okX10_fits : qm_okM mX10_fits = true := by decide +kernel
def mX10_draw : qm_M := (RX10, qyX10_draw, [(0, .aload_n 0, [], (0, 0), qm_d0), (1, .aload_n 0, [], (0, 0), qm_d0), (2, .getfield 422, [8, 44, 0, 1131], (0, 0), qm_d0), (5, .ldc_w 425, [1609], (1103515245, 0), qm_d0), (8, .imul, [], (0, 0), qm_d0), (9, .sipush (12345), [], (12345, 0), qm_d0), (12, .iadd, [], (0, 0), qm_d0), (13, .putfield 422, [8, 44, 0, 1131], (0, 0), qm_d0), (16, .aload_n 0, [], (0, 0), qm_d0), (17, .getfield 422, [8, 44, 0, 1131], (0, 0), qm_d0), (20, .bipush (16), [], (16, 0), qm_d0), (22, .iushr, [], (0, 0), qm_d0), (23, .iload_n 1, [], (0, 0), qm_d0), (24, .irem, [], (0, 0), qm_d0), (25, .ireturn, [], (0, 0), qm_d0)])
set_option maxRecDepth 100000 in
theorem okX10_draw : qm_okM mX10_draw = true := by decide +kernel
def mX10_drawDeed : qm_M := (RX10, qyX10_drawDeed, [(0, .aload_n 0, [], (0, 0), qm_d0), (1, .bipush (8), [], (8, 0), qm_d0), (3, .invokevirtual 426, [1, 8, 1605, 1608, 122, 1607, 96], (0, 0), qyX10_draw), (6, .istore_n 1, [], (0, 0), qm_d0), (7, .iload_n 1, [], (0, 0), qm_d0), (8, .iconst (5), [], (5, 0), qm_d0), (9, .if_icmp .le (10), [10], (0, 0), qm_d0), (12, .aload_n 0, [], (0, 0), qm_d0), (13, .invokevirtual 283, [0, 8, 1391, 1394, 122, 1393, 58], (0, 0), qyX10_eve), (16, .goto (110), [73], (0, 0), qm_d0), (19, .aload_n 0, [], (0, 0), qm_d0), (20, .getfield 238, [8, 23, 0, 1110], (0, 0), qm_d0), (23, .ifCond .le (52), [41], (0, 0), qm_d0), (26, .iload_n 1, [], (0, 0), qm_d0), (27, .iconst (5), [], (5, 0), qm_d0), (28, .if_icmp .ge (47), [41], (0, 0), qm_d0), (31, .aload_n 0, [], (0, 0), qm_d0), (32, .aload_n 0, [], (0, 0), qm_d0), (33, .getfield 238, [8, 23, 0, 1110], (0, 0), qm_d0), (36, .invokevirtual 426, [1, 8, 1605, 1608, 122, 1607, 96], (0, 0), qyX10_draw), (39, .istore_n 2, [], (0, 0), qm_d0), (40, .aload_n 0, [], (0, 0), qm_d0), (41, .iload_n 1, [], (0, 0), qm_d0), (42, .iconst (2), [], (2, 0), qm_d0), (43, .if_icmp .ge (7), [27], (0, 0), qm_d0), (46, .iconst (0), [], (0, 0), qm_d0), (47, .goto (13), [33], (0, 0), qm_d0), (50, .iload_n 1, [], (0, 0), qm_d0), (51, .iconst (4), [], (4, 0), qm_d0), (52, .if_icmp .ge (7), [32], (0, 0), qm_d0), (55, .iconst (1), [], (1, 0), qm_d0), (56, .goto (4), [33], (0, 0), qm_d0), (59, .iconst (2), [], (2, 0), qm_d0), (60, .iload_n 2, [], (0, 0), qm_d0), (61, .aload_n 0, [], (0, 0), qm_d0), (62, .bipush (6), [], (6, 0), qm_d0), (64, .invokevirtual 426, [1, 8, 1605, 1608, 122, 1607, 96], (0, 0), qyX10_draw), (67, .iconst (-1), [], (-1, 0), qm_d0), (68, .invokevirtual 295, [4, 8, 1387, 1390, 122, 1389, 57], (0, 0), qyX10_does), (71, .pop, [], (0, 0), qm_d0), (72, .goto (54), [73], (0, 0), qm_d0), (75, .aload_n 0, [], (0, 0), qm_d0), (76, .getfield 238, [8, 23, 0, 1110], (0, 0), qm_d0), (79, .iconst (1), [], (1, 0), qm_d0), (80, .if_icmp .le (46), [73], (0, 0), qm_d0), (83, .aload_n 0, [], (0, 0), qm_d0), (84, .aload_n 0, [], (0, 0), qm_d0), (85, .getfield 238, [8, 23, 0, 1110], (0, 0), qm_d0), (88, .invokevirtual 426, [1, 8, 1605, 1608, 122, 1607, 96], (0, 0), qyX10_draw), (91, .istore_n 2, [], (0, 0), qm_d0), (92, .aload_n 0, [], (0, 0), qm_d0), (93, .aload_n 0, [], (0, 0), qm_d0), (94, .getfield 238, [8, 23, 0, 1110], (0, 0), qm_d0), (97, .iconst (1), [], (1, 0), qm_d0), (98, .isub, [], (0, 0), qm_d0), (99, .invokevirtual 426, [1, 8, 1605, 1608, 122, 1607, 96], (0, 0), qyX10_draw), (102, .iconst (1), [], (1, 0), qm_d0), (103, .iadd, [], (0, 0), qm_d0), (104, .iload_n 2, [], (0, 0), qm_d0), (105, .iadd, [], (0, 0), qm_d0), (106, .aload_n 0, [], (0, 0), qm_d0), (107, .getfield 238, [8, 23, 0, 1110], (0, 0), qm_d0), (110, .irem, [], (0, 0), qm_d0), (111, .istore_n 3, [], (0, 0), qm_d0), (112, .aload_n 0, [], (0, 0), qm_d0), (113, .iconst (3), [], (3, 0), qm_d0), (114, .iload_n 2, [], (0, 0), qm_d0), (115, .iload_n 3, [], (0, 0), qm_d0), (116, .aload_n 0, [], (0, 0), qm_d0), (117, .bipush (6), [], (6, 0), qm_d0), (119, .invokevirtual 426, [1, 8, 1605, 1608, 122, 1607, 96], (0, 0), qyX10_draw), (122, .invokevirtual 295, [4, 8, 1387, 1390, 122, 1389, 57], (0, 0), qyX10_does), (125, .pop, [], (0, 0), qm_d0), (126, .return_, [], (0, 0), qm_d0)])
set_option maxRecDepth 100000 in
theorem okX10_drawDeed : qm_okM mX10_drawDeed = true := by decide +kernel
def mX10_drawn : qm_M := (RX10, qyX10_drawn, [(0, .aload_n 0, [], (0, 0), qm_d0), (1, .iconst (0), [], (0, 0), qm_d0), (2, .putfield 85, [8, 0, 0, 1087], (0, 0), qm_d0), (5, .iload_n 3, [], (0, 0), qm_d0), (6, .iconst (0), [], (0, 0), qm_d0), (7, .bipush (60), [], (60, 0), qm_d0), (9, .invokestatic 97, [3, 0, 1242, 1244, 122, 1243], (0, 0), qyX10_in), (12, .ifCond .eq (11), [12], (0, 0), qm_d0), (15, .aload_n 0, [], (0, 0), qm_d0), (16, .iload_n 1, [], (0, 0), qm_d0), (17, .invokevirtual 253, [1, 8, 1347, 1350, 122, 1349, 49], (0, 0), qyX10_hand), (20, .ifCond .ne (5), [14], (0, 0), qm_d0), (23, .iconst (-1), [], (-1, 0), qm_d0), (24, .ireturn, [], (0, 0), qm_d0), (25, .aload_n 0, [], (0, 0), qm_d0), (26, .iload_n 2, [], (0, 0), qm_d0), (27, .putfield 422, [8, 44, 0, 1131], (0, 0), qm_d0), (30, .iconst (0), [], (0, 0), qm_d0), (31, .istore 5, [], (0, 0), qm_d0), (33, .iload 5, [], (0, 0), qm_d0), (35, .iload_n 3, [], (0, 0), qm_d0), (36, .if_icmp .ge (13), [26], (0, 0), qm_d0), (39, .aload_n 0, [], (0, 0), qm_d0), (40, .invokevirtual 429, [0, 8, 1601, 1604, 122, 1603, 95], (0, 0), qyX10_drawDeed), (43, .iinc 5 (1), [], (1, 0), qm_d0), (46, .goto (-13), [19], (0, 0), qm_d0), (49, .aload_n 0, [], (0, 0), qm_d0), (50, .iload 4, [], (0, 0), qm_d0), (52, .invokevirtual 307, [1, 8, 1430, 1433, 122, 1432, 66], (0, 0), qyX10_ofState), (55, .ireturn, [], (0, 0), qm_d0)])
set_option maxRecDepth 100000 in
theorem okX10_drawn : qm_okM mX10_drawn = true := by decide +kernel
def mX10_rootSet : qm_M := (RX10, qyX10_rootSet, [(0, .bipush (63), [], (63, 0), qm_d0), (2, .istore_n 1, [], (0, 0), qm_d0), (3, .iconst (0), [], (0, 0), qm_d0), (4, .istore_n 2, [], (0, 0), qm_d0), (5, .iload_n 2, [], (0, 0), qm_d0), (6, .bipush (64), [], (64, 0), qm_d0), (8, .if_icmp .ge (62), [37], (0, 0), qm_d0), (11, .iload_n 2, [], (0, 0), qm_d0), (12, .invokestatic 332, [1, 0, 1491, 1493, 122, 1492], (0, 0), qyX10_ones), (15, .iload_n 1, [], (0, 0), qm_d0), (16, .invokestatic 332, [1, 0, 1491, 1493, 122, 1492], (0, 0), qyX10_ones), (19, .if_icmp .lt (19), [20], (0, 0), qm_d0), (22, .iload_n 2, [], (0, 0), qm_d0), (23, .invokestatic 332, [1, 0, 1491, 1493, 122, 1492], (0, 0), qyX10_ones), (26, .iload_n 1, [], (0, 0), qm_d0), (27, .invokestatic 332, [1, 0, 1491, 1493, 122, 1492], (0, 0), qyX10_ones), (30, .if_icmp .ne (12), [22], (0, 0), qm_d0), (33, .iload_n 2, [], (0, 0), qm_d0), (34, .iload_n 1, [], (0, 0), qm_d0), (35, .if_icmp .ge (7), [22], (0, 0), qm_d0), (38, .iconst (1), [], (1, 0), qm_d0), (39, .goto (4), [23], (0, 0), qm_d0), (42, .iconst (0), [], (0, 0), qm_d0), (43, .istore_n 3, [], (0, 0), qm_d0), (44, .iload_n 3, [], (0, 0), qm_d0), (45, .ifCond .eq (17), [33], (0, 0), qm_d0), (48, .aload_n 0, [], (0, 0), qm_d0), (49, .iload_n 2, [], (0, 0), qm_d0), (50, .invokevirtual 398, [1, 8, 1577, 1580, 122, 1579, 90], (0, 0), qyX10_closed), (53, .bipush (63), [], (63, 0), qm_d0), (55, .if_icmp .ne (7), [33], (0, 0), qm_d0), (58, .iload_n 2, [], (0, 0), qm_d0), (59, .goto (4), [34], (0, 0), qm_d0), (62, .iload_n 1, [], (0, 0), qm_d0), (63, .istore_n 1, [], (0, 0), qm_d0), (64, .iinc 2 (1), [], (1, 0), qm_d0), (67, .goto (-62), [4], (0, 0), qm_d0), (70, .iload_n 1, [], (0, 0), qm_d0), (71, .ireturn, [], (0, 0), qm_d0)])
set_option maxRecDepth 100000 in
theorem okX10_rootSet : qm_okM mX10_rootSet = true := by decide +kernel
def mX10_ringOf : qm_M := (RX10, qyX10_ringOf, [(0, .iconst (1), [], (1, 0), qm_d0), (1, .iload_n 1, [], (0, 0), qm_d0), (2, .ishl, [], (0, 0), qm_d0), (3, .istore_n 2, [], (0, 0), qm_d0), (4, .iconst (0), [], (0, 0), qm_d0), (5, .istore_n 3, [], (0, 0), qm_d0), (6, .iload_n 3, [], (0, 0), qm_d0), (7, .bipush (6), [], (6, 0), qm_d0), (9, .if_icmp .ge (49), [35], (0, 0), qm_d0), (12, .iload_n 2, [], (0, 0), qm_d0), (13, .aload_n 0, [], (0, 0), qm_d0), (14, .bipush (7), [], (7, 0), qm_d0), (16, .iload_n 1, [], (0, 0), qm_d0), (17, .iadd, [], (0, 0), qm_d0), (18, .invokevirtual 234, [1, 8, 1351, 1354, 122, 1353, 50], (0, 0), qyX10_of), (21, .iload_n 3, [], (0, 0), qm_d0), (22, .invokestatic 89, [2, 0, 1332, 1334, 122, 1333], (0, 0), qyX10_has), (25, .ifCond .eq (24), [30], (0, 0), qm_d0), (28, .aload_n 0, [], (0, 0), qm_d0), (29, .bipush (7), [], (7, 0), qm_d0), (31, .iload_n 3, [], (0, 0), qm_d0), (32, .iadd, [], (0, 0), qm_d0), (33, .invokevirtual 234, [1, 8, 1351, 1354, 122, 1353, 50], (0, 0), qyX10_of), (36, .iload_n 1, [], (0, 0), qm_d0), (37, .invokestatic 89, [2, 0, 1332, 1334, 122, 1333], (0, 0), qyX10_has), (40, .ifCond .eq (9), [30], (0, 0), qm_d0), (43, .iconst (1), [], (1, 0), qm_d0), (44, .iload_n 3, [], (0, 0), qm_d0), (45, .ishl, [], (0, 0), qm_d0), (46, .goto (4), [31], (0, 0), qm_d0), (49, .iconst (0), [], (0, 0), qm_d0), (50, .ior, [], (0, 0), qm_d0), (51, .istore_n 2, [], (0, 0), qm_d0), (52, .iinc 3 (1), [], (1, 0), qm_d0), (55, .goto (-49), [6], (0, 0), qm_d0), (58, .iload_n 2, [], (0, 0), qm_d0), (59, .ireturn, [], (0, 0), qm_d0)])
set_option maxRecDepth 100000 in
theorem okX10_ringOf : qm_okM mX10_ringOf = true := by decide +kernel
def mX10_rings : qm_M := (RX10, qyX10_rings, [(0, .iconst (0), [], (0, 0), qm_d0), (1, .istore_n 2, [], (0, 0), qm_d0), (2, .iconst (0), [], (0, 0), qm_d0), (3, .istore_n 3, [], (0, 0), qm_d0), (4, .iconst (0), [], (0, 0), qm_d0), (5, .istore 4, [], (0, 0), qm_d0), (7, .iload 4, [], (0, 0), qm_d0), (9, .bipush (6), [], (6, 0), qm_d0), (11, .if_icmp .ge (47), [34], (0, 0), qm_d0), (14, .iload_n 2, [], (0, 0), qm_d0), (15, .aload_n 0, [], (0, 0), qm_d0), (16, .iload 4, [], (0, 0), qm_d0), (18, .invokevirtual 432, [1, 8, 1622, 1625, 122, 1624, 99], (0, 0), qyX10_ringOf), (21, .iconst (1), [], (1, 0), qm_d0), (22, .iload 4, [], (0, 0), qm_d0), (24, .ishl, [], (0, 0), qm_d0), (25, .iconst (1), [], (1, 0), qm_d0), (26, .isub, [], (0, 0), qm_d0), (27, .iand, [], (0, 0), qm_d0), (28, .ifCond .ne (7), [22], (0, 0), qm_d0), (31, .iconst (1), [], (1, 0), qm_d0), (32, .goto (4), [23], (0, 0), qm_d0), (35, .iconst (0), [], (0, 0), qm_d0), (36, .iadd, [], (0, 0), qm_d0), (37, .istore_n 2, [], (0, 0), qm_d0), (38, .iload_n 3, [], (0, 0), qm_d0), (39, .aload_n 0, [], (0, 0), qm_d0), (40, .iload 4, [], (0, 0), qm_d0), (42, .invokevirtual 432, [1, 8, 1622, 1625, 122, 1624, 99], (0, 0), qyX10_ringOf), (45, .invokestatic 332, [1, 0, 1491, 1493, 122, 1492], (0, 0), qyX10_ones), (48, .invokestatic 170, [2, 0, 1306, 1308, 122, 1307], (0, 0), qyX10_greater), (51, .istore_n 3, [], (0, 0), qm_d0), (52, .iinc 4 (1), [], (1, 0), qm_d0), (55, .goto (-48), [6], (0, 0), qm_d0), (58, .iload_n 1, [], (0, 0), qm_d0), (59, .ifCond .eq (7), [38], (0, 0), qm_d0), (62, .iload_n 3, [], (0, 0), qm_d0), (63, .goto (4), [39], (0, 0), qm_d0), (66, .iload_n 2, [], (0, 0), qm_d0), (67, .ireturn, [], (0, 0), qm_d0)])
set_option maxRecDepth 100000 in
theorem okX10_rings : qm_okM mX10_rings = true := by decide +kernel
def mX10_closedOnes : qm_M := (RX10, qyX10_closedOnes, [(0, .iconst (0), [], (0, 0), qm_d0), (1, .istore_n 1, [], (0, 0), qm_d0), (2, .iconst (0), [], (0, 0), qm_d0), (3, .istore_n 2, [], (0, 0), qm_d0), (4, .iload_n 2, [], (0, 0), qm_d0), (5, .bipush (64), [], (64, 0), qm_d0), (7, .if_icmp .ge (26), [20], (0, 0), qm_d0), (10, .iload_n 1, [], (0, 0), qm_d0), (11, .aload_n 0, [], (0, 0), qm_d0), (12, .iload_n 2, [], (0, 0), qm_d0), (13, .invokevirtual 398, [1, 8, 1577, 1580, 122, 1579, 90], (0, 0), qyX10_closed), (16, .iload_n 2, [], (0, 0), qm_d0), (17, .if_icmp .ne (7), [15], (0, 0), qm_d0), (20, .iconst (1), [], (1, 0), qm_d0), (21, .goto (4), [16], (0, 0), qm_d0), (24, .iconst (0), [], (0, 0), qm_d0), (25, .iadd, [], (0, 0), qm_d0), (26, .istore_n 1, [], (0, 0), qm_d0), (27, .iinc 2 (1), [], (1, 0), qm_d0), (30, .goto (-26), [4], (0, 0), qm_d0), (33, .iload_n 1, [], (0, 0), qm_d0), (34, .ireturn, [], (0, 0), qm_d0)])
set_option maxRecDepth 100000 in
theorem okX10_closedOnes : qm_okM mX10_closedOnes = true := by decide +kernel
def mX10_dearest : qm_M := (RX10, qyX10_dearest, [(0, .iconst (0), [], (0, 0), qm_d0), (1, .istore_n 1, [], (0, 0), qm_d0), (2, .iconst (1), [], (1, 0), qm_d0), (3, .istore_n 2, [], (0, 0), qm_d0), (4, .iload_n 2, [], (0, 0), qm_d0), (5, .bipush (6), [], (6, 0), qm_d0), (7, .if_icmp .ge (36), [24], (0, 0), qm_d0), (10, .aload_n 0, [], (0, 0), qm_d0), (11, .aload_n 0, [], (0, 0), qm_d0), (12, .iload_n 2, [], (0, 0), qm_d0), (13, .invokevirtual 271, [1, 8, 1407, 1410, 122, 1409, 62], (0, 0), qyX10_whole), (16, .invokevirtual 320, [1, 8, 1471, 1474, 122, 1473, 73], (0, 0), qyX10_worthOf), (19, .aload_n 0, [], (0, 0), qm_d0), (20, .aload_n 0, [], (0, 0), qm_d0), (21, .iload_n 1, [], (0, 0), qm_d0), (22, .invokevirtual 271, [1, 8, 1407, 1410, 122, 1409, 62], (0, 0), qyX10_whole), (25, .invokevirtual 320, [1, 8, 1471, 1474, 122, 1473, 73], (0, 0), qyX10_worthOf), (28, .if_icmp .le (7), [20], (0, 0), qm_d0), (31, .iload_n 2, [], (0, 0), qm_d0), (32, .goto (4), [21], (0, 0), qm_d0), (35, .iload_n 1, [], (0, 0), qm_d0), (36, .istore_n 1, [], (0, 0), qm_d0), (37, .iinc 2 (1), [], (1, 0), qm_d0), (40, .goto (-36), [4], (0, 0), qm_d0), (43, .iload_n 1, [], (0, 0), qm_d0), (44, .ireturn, [], (0, 0), qm_d0)])
set_option maxRecDepth 100000 in
theorem okX10_dearest : qm_okM mX10_dearest = true := by decide +kernel
def mX10_knownBy : qm_M := (RX10, qyX10_knownBy, [(0, .iconst (0), [], (0, 0), qm_d0), (1, .istore_n 2, [], (0, 0), qm_d0), (2, .iconst (0), [], (0, 0), qm_d0), (3, .istore_n 3, [], (0, 0), qm_d0), (4, .iload_n 3, [], (0, 0), qm_d0), (5, .bipush (6), [], (6, 0), qm_d0), (7, .if_icmp .ge (31), [23], (0, 0), qm_d0), (10, .iload_n 2, [], (0, 0), qm_d0), (11, .aload_n 0, [], (0, 0), qm_d0), (12, .iload_n 3, [], (0, 0), qm_d0), (13, .invokevirtual 317, [1, 8, 1447, 1450, 122, 1449, 69], (0, 0), qyX10_knowers), (16, .invokestatic 332, [1, 0, 1491, 1493, 122, 1492], (0, 0), qyX10_ones), (19, .iload_n 1, [], (0, 0), qm_d0), (20, .if_icmp .ne (9), [18], (0, 0), qm_d0), (23, .iconst (1), [], (1, 0), qm_d0), (24, .iload_n 3, [], (0, 0), qm_d0), (25, .ishl, [], (0, 0), qm_d0), (26, .goto (4), [19], (0, 0), qm_d0), (29, .iconst (0), [], (0, 0), qm_d0), (30, .ior, [], (0, 0), qm_d0), (31, .istore_n 2, [], (0, 0), qm_d0), (32, .iinc 3 (1), [], (1, 0), qm_d0), (35, .goto (-31), [4], (0, 0), qm_d0), (38, .iload_n 2, [], (0, 0), qm_d0), (39, .ireturn, [], (0, 0), qm_d0)])
set_option maxRecDepth 100000 in
theorem okX10_knownBy : qm_okM mX10_knownBy = true := by decide +kernel
def mX10_roots : qm_M := (RX10, qyX10_roots, [(0, .aload_n 0, [], (0, 0), qm_d0), (1, .iconst (0), [], (0, 0), qm_d0), (2, .putfield 85, [8, 0, 0, 1087], (0, 0), qm_d0), (5, .aload_n 0, [], (0, 0), qm_d0), (6, .iload_n 1, [], (0, 0), qm_d0), (7, .invokevirtual 253, [1, 8, 1347, 1350, 122, 1349, 49], (0, 0), qyX10_hand), (10, .ifCond .ne (5), [9], (0, 0), qm_d0), (13, .iconst (-1), [], (-1, 0), qm_d0), (14, .ireturn, [], (0, 0), qm_d0), (15, .iload_n 2, [], (0, 0), qm_d0), (16, .bipush (10), [], (10, 0), qm_d0), (18, .if_icmp .lt (26), [25], (0, 0), qm_d0), (21, .iload_n 2, [], (0, 0), qm_d0), (22, .bipush (16), [], (16, 0), qm_d0), (24, .if_icmp .ge (18), [23], (0, 0), qm_d0), (27, .aload_n 0, [], (0, 0), qm_d0), (28, .aload_n 0, [], (0, 0), qm_d0), (29, .iload_n 2, [], (0, 0), qm_d0), (30, .bipush (10), [], (10, 0), qm_d0), (32, .isub, [], (0, 0), qm_d0), (33, .invokevirtual 271, [1, 8, 1407, 1410, 122, 1409, 62], (0, 0), qyX10_whole), (36, .invokevirtual 320, [1, 8, 1471, 1474, 122, 1473, 73], (0, 0), qyX10_worthOf), (39, .goto (4), [24], (0, 0), qm_d0), (42, .iconst (-1), [], (-1, 0), qm_d0), (43, .ireturn, [], (0, 0), qm_d0), (44, .iload_n 2, [], (0, 0), qm_d0), (45, .tableswitch (121) (0) (8) #[51, 59, 64, 64, 79, 84, 89, 95, 101], [67, 27, 31, 34, 34, 43, 46, 49, 53, 57], (51, 0), qm_d0), (96, .aload_n 0, [], (0, 0), qm_d0), (97, .invokevirtual 435, [0, 8, 1614, 1617, 122, 1616, 97], (0, 0), qyX10_rootSet), (100, .invokestatic 332, [1, 0, 1491, 1493, 122, 1492], (0, 0), qyX10_ones), (103, .ireturn, [], (0, 0), qm_d0), (104, .aload_n 0, [], (0, 0), qm_d0), (105, .invokevirtual 435, [0, 8, 1614, 1617, 122, 1616, 97], (0, 0), qyX10_rootSet), (108, .ireturn, [], (0, 0), qm_d0), (109, .aload_n 0, [], (0, 0), qm_d0), (110, .iload_n 2, [], (0, 0), qm_d0), (111, .iconst (3), [], (3, 0), qm_d0), (112, .if_icmp .ne (7), [40], (0, 0), qm_d0), (115, .iconst (1), [], (1, 0), qm_d0), (116, .goto (4), [41], (0, 0), qm_d0), (119, .iconst (0), [], (0, 0), qm_d0), (120, .invokevirtual 438, [1, 8, 1618, 1621, 122, 1620, 98], (0, 0), qyX10_rings), (123, .ireturn, [], (0, 0), qm_d0), (124, .aload_n 0, [], (0, 0), qm_d0), (125, .invokevirtual 442, [0, 8, 1626, 1629, 122, 1628, 100], (0, 0), qyX10_closedOnes), (128, .ireturn, [], (0, 0), qm_d0), (129, .aload_n 0, [], (0, 0), qm_d0), (130, .invokevirtual 445, [0, 8, 1630, 1633, 122, 1632, 101], (0, 0), qyX10_dearest), (133, .ireturn, [], (0, 0), qm_d0), (134, .aload_n 0, [], (0, 0), qm_d0), (135, .iconst (1), [], (1, 0), qm_d0), (136, .invokevirtual 448, [1, 8, 1634, 1637, 122, 1636, 102], (0, 0), qyX10_knownBy), (139, .ireturn, [], (0, 0), qm_d0), (140, .aload_n 0, [], (0, 0), qm_d0), (141, .iconst (0), [], (0, 0), qm_d0), (142, .invokevirtual 448, [1, 8, 1634, 1637, 122, 1636, 102], (0, 0), qyX10_knownBy), (145, .ireturn, [], (0, 0), qm_d0), (146, .aload_n 0, [], (0, 0), qm_d0), (147, .getfield 238, [8, 23, 0, 1110], (0, 0), qm_d0), (150, .ifCond .ne (7), [62], (0, 0), qm_d0), (153, .iconst (0), [], (0, 0), qm_d0), (154, .goto (11), [66], (0, 0), qm_d0), (157, .aload_n 0, [], (0, 0), qm_d0), (158, .aload_n 0, [], (0, 0), qm_d0), (159, .getfield 238, [8, 23, 0, 1110], (0, 0), qm_d0), (162, .invokevirtual 448, [1, 8, 1634, 1637, 122, 1636, 102], (0, 0), qyX10_knownBy), (165, .ireturn, [], (0, 0), qm_d0), (166, .iconst (-1), [], (-1, 0), qm_d0), (167, .ireturn, [], (0, 0), qm_d0)])
set_option maxRecDepth 100000 in
theorem okX10_roots : qm_okM mX10_roots = true := by decide +kernel
def mX10_chainBy : qm_M := (RX10, qyX10_chainBy, [(0, .iload_n 1, [], (0, 0), qm_d0), (1, .iload_n 3, [], (0, 0), qm_d0), (2, .invokestatic 89, [2, 0, 1332, 1334, 122, 1333], (0, 0), qyX10_has), (5, .ifCond .ne (28), [17], (0, 0), qm_d0), (8, .iload_n 2, [], (0, 0), qm_d0), (9, .bipush (6), [], (6, 0), qm_d0), (11, .if_icmp .eq (18), [15], (0, 0), qm_d0), (14, .aload_n 0, [], (0, 0), qm_d0), (15, .bipush (7), [], (7, 0), qm_d0), (17, .iload_n 2, [], (0, 0), qm_d0), (18, .iadd, [], (0, 0), qm_d0), (19, .invokevirtual 234, [1, 8, 1351, 1354, 122, 1353, 50], (0, 0), qyX10_of), (22, .iload_n 3, [], (0, 0), qm_d0), (23, .invokestatic 89, [2, 0, 1332, 1334, 122, 1333], (0, 0), qyX10_has), (26, .ifCond .eq (7), [17], (0, 0), qm_d0), (29, .iconst (1), [], (1, 0), qm_d0), (30, .goto (4), [18], (0, 0), qm_d0), (33, .iconst (0), [], (0, 0), qm_d0), (34, .istore 4, [], (0, 0), qm_d0), (36, .iload 4, [], (0, 0), qm_d0), (38, .ifCond .eq (23), [36], (0, 0), qm_d0), (41, .iconst (1), [], (1, 0), qm_d0), (42, .aload_n 0, [], (0, 0), qm_d0), (43, .getfield 78, [8, 45, 2, 1132], (0, 0), qm_d0), (46, .bipush (64), [], (64, 0), qm_d0), (48, .iload_n 3, [], (0, 0), qm_d0), (49, .imul, [], (0, 0), qm_d0), (50, .iload_n 1, [], (0, 0), qm_d0), (51, .iconst (1), [], (1, 0), qm_d0), (52, .iload_n 3, [], (0, 0), qm_d0), (53, .ishl, [], (0, 0), qm_d0), (54, .ior, [], (0, 0), qm_d0), (55, .iadd, [], (0, 0), qm_d0), (56, .iaload, [10], (0, 0), qm_d0), (57, .iadd, [], (0, 0), qm_d0), (58, .goto (4), [37], (0, 0), qm_d0), (61, .iconst (0), [], (0, 0), qm_d0), (62, .ireturn, [], (0, 0), qm_d0)])
set_option maxRecDepth 100000 in
theorem okX10_chainBy : qm_okM mX10_chainBy = true := by decide +kernel
def mX10_findChains : qm_M := (RX10, qyX10_findChains, [(0, .bipush (63), [], (63, 0), qm_d0), (2, .istore_n 1, [], (0, 0), qm_d0), (3, .iload_n 1, [], (0, 0), qm_d0), (4, .ifCond .lt (66), [39], (0, 0), qm_d0), (7, .iconst (0), [], (0, 0), qm_d0), (8, .istore_n 2, [], (0, 0), qm_d0), (9, .iload_n 2, [], (0, 0), qm_d0), (10, .bipush (6), [], (6, 0), qm_d0), (12, .if_icmp .gt (52), [37], (0, 0), qm_d0), (15, .iconst (0), [], (0, 0), qm_d0), (16, .istore_n 3, [], (0, 0), qm_d0), (17, .iconst (0), [], (0, 0), qm_d0), (18, .istore 4, [], (0, 0), qm_d0), (20, .iload 4, [], (0, 0), qm_d0), (22, .bipush (6), [], (6, 0), qm_d0), (24, .if_icmp .ge (22), [26], (0, 0), qm_d0), (27, .iload_n 3, [], (0, 0), qm_d0), (28, .aload_n 0, [], (0, 0), qm_d0), (29, .iload_n 1, [], (0, 0), qm_d0), (30, .iload_n 2, [], (0, 0), qm_d0), (31, .iload 4, [], (0, 0), qm_d0), (33, .invokevirtual 451, [3, 8, 1646, 1649, 122, 1648, 104], (0, 0), qyX10_chainBy), (36, .invokestatic 170, [2, 0, 1306, 1308, 122, 1307], (0, 0), qyX10_greater), (39, .istore_n 3, [], (0, 0), qm_d0), (40, .iinc 4 (1), [], (1, 0), qm_d0), (43, .goto (-23), [13], (0, 0), qm_d0), (46, .aload_n 0, [], (0, 0), qm_d0), (47, .getfield 78, [8, 45, 2, 1132], (0, 0), qm_d0), (50, .bipush (64), [], (64, 0), qm_d0), (52, .iload_n 2, [], (0, 0), qm_d0), (53, .imul, [], (0, 0), qm_d0), (54, .iload_n 1, [], (0, 0), qm_d0), (55, .iadd, [], (0, 0), qm_d0), (56, .iload_n 3, [], (0, 0), qm_d0), (57, .iastore, [], (0, 0), qm_d0), (58, .iinc 2 (1), [], (1, 0), qm_d0), (61, .goto (-52), [6], (0, 0), qm_d0), (64, .iinc 1 (-1), [], (-1, 0), qm_d0), (67, .goto (-64), [2], (0, 0), qm_d0), (70, .return_, [], (0, 0), qm_d0)])
set_option maxRecDepth 100000 in
theorem okX10_findChains : qm_okM mX10_findChains = true := by decide +kernel
def mX10_chain : qm_M := (RX10, qyX10_chain, [(0, .aload_n 0, [], (0, 0), qm_d0), (1, .iconst (0), [], (0, 0), qm_d0), (2, .putfield 85, [8, 0, 0, 1087], (0, 0), qm_d0), (5, .aload_n 0, [], (0, 0), qm_d0), (6, .iload_n 1, [], (0, 0), qm_d0), (7, .invokevirtual 253, [1, 8, 1347, 1350, 122, 1349, 49], (0, 0), qyX10_hand), (10, .ifCond .ne (5), [9], (0, 0), qm_d0), (13, .iconst (-1), [], (-1, 0), qm_d0), (14, .ireturn, [], (0, 0), qm_d0), (15, .aload_n 0, [], (0, 0), qm_d0), (16, .invokevirtual 455, [0, 8, 1642, 1645, 122, 1644, 103], (0, 0), qyX10_findChains), (19, .aload_n 0, [], (0, 0), qm_d0), (20, .getfield 78, [8, 45, 2, 1132], (0, 0), qm_d0), (23, .sipush (384), [], (384, 0), qm_d0), (26, .iaload, [10], (0, 0), qm_d0), (27, .istore_n 3, [], (0, 0), qm_d0), (28, .iload_n 2, [], (0, 0), qm_d0), (29, .iconst (-1), [], (-1, 0), qm_d0), (30, .if_icmp .eq (14), [26], (0, 0), qm_d0), (33, .iload_n 2, [], (0, 0), qm_d0), (34, .iconst (0), [], (0, 0), qm_d0), (35, .iload_n 3, [], (0, 0), qm_d0), (36, .iconst (1), [], (1, 0), qm_d0), (37, .isub, [], (0, 0), qm_d0), (38, .invokestatic 97, [3, 0, 1242, 1244, 122, 1243], (0, 0), qyX10_in), (41, .ifCond .ne (14), [33], (0, 0), qm_d0), (44, .iload_n 2, [], (0, 0), qm_d0), (45, .iconst (-1), [], (-1, 0), qm_d0), (46, .if_icmp .ne (7), [31], (0, 0), qm_d0), (49, .iload_n 3, [], (0, 0), qm_d0), (50, .goto (4), [32], (0, 0), qm_d0), (53, .iconst (-1), [], (-1, 0), qm_d0), (54, .ireturn, [], (0, 0), qm_d0), (55, .iconst (0), [], (0, 0), qm_d0), (56, .istore 4, [], (0, 0), qm_d0), (58, .bipush (6), [], (6, 0), qm_d0), (60, .istore 5, [], (0, 0), qm_d0), (62, .iconst (0), [], (0, 0), qm_d0), (63, .istore 6, [], (0, 0), qm_d0), (65, .iload 6, [], (0, 0), qm_d0), (67, .iload_n 2, [], (0, 0), qm_d0), (68, .if_icmp .gt (57), [70], (0, 0), qm_d0), (71, .iconst (0), [], (0, 0), qm_d0), (72, .istore 7, [], (0, 0), qm_d0), (74, .aload_n 0, [], (0, 0), qm_d0), (75, .iload 4, [], (0, 0), qm_d0), (77, .iload 5, [], (0, 0), qm_d0), (79, .iload 7, [], (0, 0), qm_d0), (81, .invokevirtual 451, [3, 8, 1646, 1649, 122, 1648, 104], (0, 0), qyX10_chainBy), (84, .aload_n 0, [], (0, 0), qm_d0), (85, .getfield 78, [8, 45, 2, 1132], (0, 0), qm_d0), (88, .bipush (64), [], (64, 0), qm_d0), (90, .iload 5, [], (0, 0), qm_d0), (92, .imul, [], (0, 0), qm_d0), (93, .iload 4, [], (0, 0), qm_d0), (95, .iadd, [], (0, 0), qm_d0), (96, .iaload, [10], (0, 0), qm_d0), (97, .if_icmp .eq (9), [60], (0, 0), qm_d0), (100, .iinc 7 (1), [], (1, 0), qm_d0), (103, .goto (-29), [44], (0, 0), qm_d0), (106, .iload 4, [], (0, 0), qm_d0), (108, .iconst (1), [], (1, 0), qm_d0), (109, .iload 7, [], (0, 0), qm_d0), (111, .ishl, [], (0, 0), qm_d0), (112, .ior, [], (0, 0), qm_d0), (113, .istore 4, [], (0, 0), qm_d0), (115, .iload 7, [], (0, 0), qm_d0), (117, .istore 5, [], (0, 0), qm_d0), (119, .iinc 6 (1), [], (1, 0), qm_d0), (122, .goto (-57), [39], (0, 0), qm_d0), (125, .iload 5, [], (0, 0), qm_d0), (127, .ireturn, [], (0, 0), qm_d0)])
set_option maxRecDepth 100000 in
theorem okX10_chain : qm_okM mX10_chain = true := by decide +kernel
def mX10_reachOf : qm_M := (RX10, qyX10_reachOf, [(0, .iconst (1), [], (1, 0), qm_d0), (1, .iload_n 1, [], (0, 0), qm_d0), (2, .ishl, [], (0, 0), qm_d0), (3, .istore_n 2, [], (0, 0), qm_d0), (4, .iconst (0), [], (0, 0), qm_d0), (5, .istore_n 3, [], (0, 0), qm_d0), (6, .iload_n 3, [], (0, 0), qm_d0), (7, .bipush (6), [], (6, 0), qm_d0), (9, .if_icmp .ge (52), [35], (0, 0), qm_d0), (12, .iconst (0), [], (0, 0), qm_d0), (13, .istore 4, [], (0, 0), qm_d0), (15, .iload 4, [], (0, 0), qm_d0), (17, .aload_n 0, [], (0, 0), qm_d0), (18, .getfield 238, [8, 23, 0, 1110], (0, 0), qm_d0), (21, .if_icmp .ge (34), [33], (0, 0), qm_d0), (24, .iload_n 2, [], (0, 0), qm_d0), (25, .aload_n 0, [], (0, 0), qm_d0), (26, .bipush (25), [], (25, 0), qm_d0), (28, .iload 4, [], (0, 0), qm_d0), (30, .iadd, [], (0, 0), qm_d0), (31, .invokevirtual 234, [1, 8, 1351, 1354, 122, 1353, 50], (0, 0), qyX10_of), (34, .iload_n 2, [], (0, 0), qm_d0), (35, .iand, [], (0, 0), qm_d0), (36, .ifCond .eq (10), [28], (0, 0), qm_d0), (39, .iconst (1), [], (1, 0), qm_d0), (40, .iload 4, [], (0, 0), qm_d0), (42, .ishl, [], (0, 0), qm_d0), (43, .goto (4), [29], (0, 0), qm_d0), (46, .iconst (0), [], (0, 0), qm_d0), (47, .ior, [], (0, 0), qm_d0), (48, .istore_n 2, [], (0, 0), qm_d0), (49, .iinc 4 (1), [], (1, 0), qm_d0), (52, .goto (-37), [11], (0, 0), qm_d0), (55, .iinc 3 (1), [], (1, 0), qm_d0), (58, .goto (-52), [6], (0, 0), qm_d0), (61, .iload_n 2, [], (0, 0), qm_d0), (62, .ireturn, [], (0, 0), qm_d0)])
set_option maxRecDepth 100000 in
theorem okX10_reachOf : qm_okM mX10_reachOf = true := by decide +kernel
def mX10_hearers : qm_M := (RX10, qyX10_hearers, [(0, .iconst (0), [], (0, 0), qm_d0), (1, .istore_n 2, [], (0, 0), qm_d0), (2, .iconst (0), [], (0, 0), qm_d0), (3, .istore_n 3, [], (0, 0), qm_d0), (4, .iload_n 3, [], (0, 0), qm_d0), (5, .aload_n 0, [], (0, 0), qm_d0), (6, .getfield 238, [8, 23, 0, 1110], (0, 0), qm_d0), (9, .if_icmp .ge (26), [21], (0, 0), qm_d0), (12, .iload_n 2, [], (0, 0), qm_d0), (13, .aload_n 0, [], (0, 0), qm_d0), (14, .iload_n 3, [], (0, 0), qm_d0), (15, .iload_n 1, [], (0, 0), qm_d0), (16, .invokevirtual 268, [2, 8, 1403, 1406, 122, 1405, 61], (0, 0), qyX10_hears), (19, .ifCond .eq (7), [16], (0, 0), qm_d0), (22, .iconst (1), [], (1, 0), qm_d0), (23, .goto (4), [17], (0, 0), qm_d0), (26, .iconst (0), [], (0, 0), qm_d0), (27, .iadd, [], (0, 0), qm_d0), (28, .istore_n 2, [], (0, 0), qm_d0), (29, .iinc 3 (1), [], (1, 0), qm_d0), (32, .goto (-28), [4], (0, 0), qm_d0), (35, .iload_n 2, [], (0, 0), qm_d0), (36, .ireturn, [], (0, 0), qm_d0)])
set_option maxRecDepth 100000 in
theorem okX10_hearers : qm_okM mX10_hearers = true := by decide +kernel
def mX10_loudest : qm_M := (RX10, qyX10_loudest, [(0, .iconst (-1), [], (-1, 0), qm_d0), (1, .istore_n 1, [], (0, 0), qm_d0), (2, .iconst (0), [], (0, 0), qm_d0), (3, .istore_n 2, [], (0, 0), qm_d0), (4, .iload_n 2, [], (0, 0), qm_d0), (5, .aload_n 0, [], (0, 0), qm_d0), (6, .getfield 238, [8, 23, 0, 1110], (0, 0), qm_d0), (9, .if_icmp .ge (33), [24], (0, 0), qm_d0), (12, .iload_n 1, [], (0, 0), qm_d0), (13, .iconst (-1), [], (-1, 0), qm_d0), (14, .if_icmp .eq (16), [18], (0, 0), qm_d0), (17, .aload_n 0, [], (0, 0), qm_d0), (18, .iload_n 2, [], (0, 0), qm_d0), (19, .invokevirtual 458, [1, 8, 1662, 1665, 122, 1664, 107], (0, 0), qyX10_hearers), (22, .aload_n 0, [], (0, 0), qm_d0), (23, .iload_n 1, [], (0, 0), qm_d0), (24, .invokevirtual 458, [1, 8, 1662, 1665, 122, 1664, 107], (0, 0), qyX10_hearers), (27, .if_icmp .le (7), [20], (0, 0), qm_d0), (30, .iload_n 2, [], (0, 0), qm_d0), (31, .goto (4), [21], (0, 0), qm_d0), (34, .iload_n 1, [], (0, 0), qm_d0), (35, .istore_n 1, [], (0, 0), qm_d0), (36, .iinc 2 (1), [], (1, 0), qm_d0), (39, .goto (-35), [4], (0, 0), qm_d0), (42, .iload_n 1, [], (0, 0), qm_d0), (43, .ireturn, [], (0, 0), qm_d0)])
set_option maxRecDepth 100000 in
theorem okX10_loudest : qm_okM mX10_loudest = true := by decide +kernel
def mX10_deaf : qm_M := (RX10, qyX10_deaf, [(0, .iconst (0), [], (0, 0), qm_d0), (1, .istore_n 1, [], (0, 0), qm_d0), (2, .iconst (0), [], (0, 0), qm_d0), (3, .istore_n 2, [], (0, 0), qm_d0), (4, .iload_n 2, [], (0, 0), qm_d0), (5, .aload_n 0, [], (0, 0), qm_d0), (6, .getfield 238, [8, 23, 0, 1110], (0, 0), qm_d0), (9, .if_icmp .ge (30), [24], (0, 0), qm_d0), (12, .iload_n 1, [], (0, 0), qm_d0), (13, .aload_n 0, [], (0, 0), qm_d0), (14, .bipush (25), [], (25, 0), qm_d0), (16, .iload_n 2, [], (0, 0), qm_d0), (17, .iadd, [], (0, 0), qm_d0), (18, .invokevirtual 234, [1, 8, 1351, 1354, 122, 1353, 50], (0, 0), qyX10_of), (21, .ifCond .ne (9), [19], (0, 0), qm_d0), (24, .iconst (1), [], (1, 0), qm_d0), (25, .iload_n 2, [], (0, 0), qm_d0), (26, .ishl, [], (0, 0), qm_d0), (27, .goto (4), [20], (0, 0), qm_d0), (30, .iconst (0), [], (0, 0), qm_d0), (31, .ior, [], (0, 0), qm_d0), (32, .istore_n 1, [], (0, 0), qm_d0), (33, .iinc 2 (1), [], (1, 0), qm_d0), (36, .goto (-32), [4], (0, 0), qm_d0), (39, .iload_n 1, [], (0, 0), qm_d0), (40, .ireturn, [], (0, 0), qm_d0)])
set_option maxRecDepth 100000 in
theorem okX10_deaf : qm_okM mX10_deaf = true := by decide +kernel
def mX10_choir : qm_M := (RX10, qyX10_choir, [(0, .iconst (0), [], (0, 0), qm_d0), (1, .istore_n 1, [], (0, 0), qm_d0), (2, .iconst (0), [], (0, 0), qm_d0), (3, .istore_n 2, [], (0, 0), qm_d0), (4, .iload_n 2, [], (0, 0), qm_d0), (5, .iconst (1), [], (1, 0), qm_d0), (6, .aload_n 0, [], (0, 0), qm_d0), (7, .getfield 238, [8, 23, 0, 1110], (0, 0), qm_d0), (10, .ishl, [], (0, 0), qm_d0), (11, .if_icmp .ge (87), [53], (0, 0), qm_d0), (14, .iload_n 2, [], (0, 0), qm_d0), (15, .invokestatic 332, [1, 0, 1491, 1493, 122, 1492], (0, 0), qyX10_ones), (18, .iload_n 1, [], (0, 0), qm_d0), (19, .invokestatic 332, [1, 0, 1491, 1493, 122, 1492], (0, 0), qyX10_ones), (22, .if_icmp .le (7), [17], (0, 0), qm_d0), (25, .iconst (1), [], (1, 0), qm_d0), (26, .goto (4), [18], (0, 0), qm_d0), (29, .iconst (0), [], (0, 0), qm_d0), (30, .istore_n 3, [], (0, 0), qm_d0), (31, .iconst (0), [], (0, 0), qm_d0), (32, .istore 4, [], (0, 0), qm_d0), (34, .iload 4, [], (0, 0), qm_d0), (36, .aload_n 0, [], (0, 0), qm_d0), (37, .getfield 238, [8, 23, 0, 1110], (0, 0), qm_d0), (40, .if_icmp .ge (42), [45], (0, 0), qm_d0), (43, .iload_n 3, [], (0, 0), qm_d0), (44, .ifCond .eq (38), [45], (0, 0), qm_d0), (47, .iload_n 2, [], (0, 0), qm_d0), (48, .iload 4, [], (0, 0), qm_d0), (50, .invokestatic 89, [2, 0, 1332, 1334, 122, 1333], (0, 0), qyX10_has), (53, .ifCond .eq (17), [39], (0, 0), qm_d0), (56, .aload_n 0, [], (0, 0), qm_d0), (57, .bipush (25), [], (25, 0), qm_d0), (59, .iload 4, [], (0, 0), qm_d0), (61, .iadd, [], (0, 0), qm_d0), (62, .invokevirtual 234, [1, 8, 1351, 1354, 122, 1353, 50], (0, 0), qyX10_of), (65, .iload_n 2, [], (0, 0), qm_d0), (66, .iand, [], (0, 0), qm_d0), (67, .ifCond .ne (7), [41], (0, 0), qm_d0), (70, .iconst (1), [], (1, 0), qm_d0), (71, .goto (4), [42], (0, 0), qm_d0), (74, .iconst (0), [], (0, 0), qm_d0), (75, .istore_n 3, [], (0, 0), qm_d0), (76, .iinc 4 (1), [], (1, 0), qm_d0), (79, .goto (-45), [21], (0, 0), qm_d0), (82, .iload_n 3, [], (0, 0), qm_d0), (83, .ifCond .eq (7), [49], (0, 0), qm_d0), (86, .iload_n 2, [], (0, 0), qm_d0), (87, .goto (4), [50], (0, 0), qm_d0), (90, .iload_n 1, [], (0, 0), qm_d0), (91, .istore_n 1, [], (0, 0), qm_d0), (92, .iinc 2 (1), [], (1, 0), qm_d0), (95, .goto (-91), [4], (0, 0), qm_d0), (98, .iload_n 1, [], (0, 0), qm_d0), (99, .ireturn, [], (0, 0), qm_d0)])
set_option maxRecDepth 100000 in
theorem okX10_choir : qm_okM mX10_choir = true := by decide +kernel
end
section
def mX10_twins : qm_M := (RX10, qyX10_twins, [(0, .iconst (0), [], (0, 0), qm_d0), (1, .istore_n 1, [], (0, 0), qm_d0), (2, .iconst (0), [], (0, 0), qm_d0), (3, .istore_n 2, [], (0, 0), qm_d0), (4, .iload_n 2, [], (0, 0), qm_d0), (5, .aload_n 0, [], (0, 0), qm_d0), (6, .getfield 238, [8, 23, 0, 1110], (0, 0), qm_d0), (9, .if_icmp .ge (45), [32], (0, 0), qm_d0), (12, .iconst (0), [], (0, 0), qm_d0), (13, .istore_n 3, [], (0, 0), qm_d0), (14, .iload_n 3, [], (0, 0), qm_d0), (15, .iload_n 2, [], (0, 0), qm_d0), (16, .if_icmp .ge (32), [30], (0, 0), qm_d0), (19, .iload_n 1, [], (0, 0), qm_d0), (20, .aload_n 0, [], (0, 0), qm_d0), (21, .getfield 47, [8, 30, 2, 1117], (0, 0), qm_d0), (24, .iload_n 2, [], (0, 0), qm_d0), (25, .iaload, [10], (0, 0), qm_d0), (26, .aload_n 0, [], (0, 0), qm_d0), (27, .getfield 47, [8, 30, 2, 1117], (0, 0), qm_d0), (30, .iload_n 3, [], (0, 0), qm_d0), (31, .iaload, [10], (0, 0), qm_d0), (32, .if_icmp .ne (7), [25], (0, 0), qm_d0), (35, .iconst (1), [], (1, 0), qm_d0), (36, .goto (4), [26], (0, 0), qm_d0), (39, .iconst (0), [], (0, 0), qm_d0), (40, .iadd, [], (0, 0), qm_d0), (41, .istore_n 1, [], (0, 0), qm_d0), (42, .iinc 3 (1), [], (1, 0), qm_d0), (45, .goto (-31), [10], (0, 0), qm_d0), (48, .iinc 2 (1), [], (1, 0), qm_d0), (51, .goto (-47), [4], (0, 0), qm_d0), (54, .iload_n 1, [], (0, 0), qm_d0), (55, .ireturn, [], (0, 0), qm_d0)])
set_option maxRecDepth 100000 in
theorem okX10_twins : qm_okM mX10_twins = true := by decide +kernel
def mX10_knownOf : qm_M := (RX10, qyX10_knownOf, [(0, .iconst (0), [], (0, 0), qm_d0), (1, .istore_n 2, [], (0, 0), qm_d0), (2, .iconst (0), [], (0, 0), qm_d0), (3, .istore_n 3, [], (0, 0), qm_d0), (4, .iload_n 3, [], (0, 0), qm_d0), (5, .aload_n 0, [], (0, 0), qm_d0), (6, .getfield 238, [8, 23, 0, 1110], (0, 0), qm_d0), (9, .if_icmp .ge (30), [23], (0, 0), qm_d0), (12, .iload_n 2, [], (0, 0), qm_d0), (13, .iload_n 1, [], (0, 0), qm_d0), (14, .iload_n 3, [], (0, 0), qm_d0), (15, .invokestatic 89, [2, 0, 1332, 1334, 122, 1333], (0, 0), qyX10_has), (18, .ifCond .eq (12), [18], (0, 0), qm_d0), (21, .aload_n 0, [], (0, 0), qm_d0), (22, .getfield 47, [8, 30, 2, 1117], (0, 0), qm_d0), (25, .iload_n 3, [], (0, 0), qm_d0), (26, .iaload, [10], (0, 0), qm_d0), (27, .goto (4), [19], (0, 0), qm_d0), (30, .iconst (0), [], (0, 0), qm_d0), (31, .ior, [], (0, 0), qm_d0), (32, .istore_n 2, [], (0, 0), qm_d0), (33, .iinc 3 (1), [], (1, 0), qm_d0), (36, .goto (-32), [4], (0, 0), qm_d0), (39, .iload_n 2, [], (0, 0), qm_d0), (40, .ireturn, [], (0, 0), qm_d0)])
set_option maxRecDepth 100000 in
theorem okX10_knownOf : qm_okM mX10_knownOf = true := by decide +kernel
def mX10_cover : qm_M := (RX10, qyX10_cover, [(0, .iconst (1), [], (1, 0), qm_d0), (1, .aload_n 0, [], (0, 0), qm_d0), (2, .getfield 238, [8, 23, 0, 1110], (0, 0), qm_d0), (5, .ishl, [], (0, 0), qm_d0), (6, .iconst (1), [], (1, 0), qm_d0), (7, .isub, [], (0, 0), qm_d0), (8, .istore_n 1, [], (0, 0), qm_d0), (9, .iload_n 1, [], (0, 0), qm_d0), (10, .istore_n 2, [], (0, 0), qm_d0), (11, .iconst (0), [], (0, 0), qm_d0), (12, .istore_n 3, [], (0, 0), qm_d0), (13, .iload_n 3, [], (0, 0), qm_d0), (14, .iload_n 1, [], (0, 0), qm_d0), (15, .if_icmp .gt (67), [46], (0, 0), qm_d0), (18, .iload_n 3, [], (0, 0), qm_d0), (19, .invokestatic 332, [1, 0, 1491, 1493, 122, 1492], (0, 0), qyX10_ones), (22, .iload_n 2, [], (0, 0), qm_d0), (23, .invokestatic 332, [1, 0, 1491, 1493, 122, 1492], (0, 0), qyX10_ones), (26, .if_icmp .lt (19), [27], (0, 0), qm_d0), (29, .iload_n 3, [], (0, 0), qm_d0), (30, .invokestatic 332, [1, 0, 1491, 1493, 122, 1492], (0, 0), qyX10_ones), (33, .iload_n 2, [], (0, 0), qm_d0), (34, .invokestatic 332, [1, 0, 1491, 1493, 122, 1492], (0, 0), qyX10_ones), (37, .if_icmp .ne (12), [29], (0, 0), qm_d0), (40, .iload_n 3, [], (0, 0), qm_d0), (41, .iload_n 2, [], (0, 0), qm_d0), (42, .if_icmp .ge (7), [29], (0, 0), qm_d0), (45, .iconst (1), [], (1, 0), qm_d0), (46, .goto (4), [30], (0, 0), qm_d0), (49, .iconst (0), [], (0, 0), qm_d0), (50, .istore 4, [], (0, 0), qm_d0), (52, .iload 4, [], (0, 0), qm_d0), (54, .ifCond .eq (20), [42], (0, 0), qm_d0), (57, .aload_n 0, [], (0, 0), qm_d0), (58, .iload_n 3, [], (0, 0), qm_d0), (59, .invokevirtual 461, [1, 8, 1682, 1685, 122, 1684, 112], (0, 0), qyX10_knownOf), (62, .aload_n 0, [], (0, 0), qm_d0), (63, .iload_n 1, [], (0, 0), qm_d0), (64, .invokevirtual 461, [1, 8, 1682, 1685, 122, 1684, 112], (0, 0), qyX10_knownOf), (67, .if_icmp .ne (7), [42], (0, 0), qm_d0), (70, .iload_n 3, [], (0, 0), qm_d0), (71, .goto (4), [43], (0, 0), qm_d0), (74, .iload_n 2, [], (0, 0), qm_d0), (75, .istore_n 2, [], (0, 0), qm_d0), (76, .iinc 3 (1), [], (1, 0), qm_d0), (79, .goto (-66), [11], (0, 0), qm_d0), (82, .iload_n 2, [], (0, 0), qm_d0), (83, .ireturn, [], (0, 0), qm_d0)])
set_option maxRecDepth 100000 in
theorem okX10_cover : qm_okM mX10_cover = true := by decide +kernel
def mX10_reach : qm_M := (RX10, qyX10_reach, [(0, .aload_n 0, [], (0, 0), qm_d0), (1, .iconst (0), [], (0, 0), qm_d0), (2, .putfield 85, [8, 0, 0, 1087], (0, 0), qm_d0), (5, .aload_n 0, [], (0, 0), qm_d0), (6, .iload_n 1, [], (0, 0), qm_d0), (7, .invokevirtual 253, [1, 8, 1347, 1350, 122, 1349, 49], (0, 0), qyX10_hand), (10, .ifCond .ne (6), [9], (0, 0), qm_d0), (13, .bipush (-2), [], (-2, 0), qm_d0), (15, .ireturn, [], (0, 0), qm_d0), (16, .iload_n 2, [], (0, 0), qm_d0), (17, .bipush (10), [], (10, 0), qm_d0), (19, .if_icmp .lt (28), [26], (0, 0), qm_d0), (22, .aload_n 0, [], (0, 0), qm_d0), (23, .iload_n 2, [], (0, 0), qm_d0), (24, .bipush (10), [], (10, 0), qm_d0), (26, .isub, [], (0, 0), qm_d0), (27, .invokevirtual 277, [1, 8, 1395, 1398, 122, 1397, 59], (0, 0), qyX10_isPerson), (30, .ifCond .eq (14), [24], (0, 0), qm_d0), (33, .aload_n 0, [], (0, 0), qm_d0), (34, .iload_n 2, [], (0, 0), qm_d0), (35, .bipush (10), [], (10, 0), qm_d0), (37, .isub, [], (0, 0), qm_d0), (38, .invokevirtual 464, [1, 8, 1654, 1657, 122, 1656, 105], (0, 0), qyX10_reachOf), (41, .goto (5), [25], (0, 0), qm_d0), (44, .bipush (-2), [], (-2, 0), qm_d0), (46, .ireturn, [], (0, 0), qm_d0), (47, .iload_n 2, [], (0, 0), qm_d0), (48, .tableswitch (85) (0) (6) #[44, 49, 54, 62, 67, 72, 80], [51, 28, 31, 34, 38, 41, 44, 48], (44, 0), qm_d0), (92, .aload_n 0, [], (0, 0), qm_d0), (93, .invokevirtual 467, [0, 8, 1658, 1661, 122, 1660, 106], (0, 0), qyX10_loudest), (96, .ireturn, [], (0, 0), qm_d0), (97, .aload_n 0, [], (0, 0), qm_d0), (98, .invokevirtual 470, [0, 8, 1666, 1669, 122, 1668, 108], (0, 0), qyX10_deaf), (101, .ireturn, [], (0, 0), qm_d0), (102, .aload_n 0, [], (0, 0), qm_d0), (103, .invokevirtual 473, [0, 8, 1670, 1673, 122, 1672, 109], (0, 0), qyX10_choir), (106, .invokestatic 332, [1, 0, 1491, 1493, 122, 1492], (0, 0), qyX10_ones), (109, .ireturn, [], (0, 0), qm_d0), (110, .aload_n 0, [], (0, 0), qm_d0), (111, .invokevirtual 473, [0, 8, 1670, 1673, 122, 1672, 109], (0, 0), qyX10_choir), (114, .ireturn, [], (0, 0), qm_d0), (115, .aload_n 0, [], (0, 0), qm_d0), (116, .invokevirtual 476, [0, 8, 1674, 1677, 122, 1676, 110], (0, 0), qyX10_twins), (119, .ireturn, [], (0, 0), qm_d0), (120, .aload_n 0, [], (0, 0), qm_d0), (121, .invokevirtual 479, [0, 8, 1678, 1681, 122, 1680, 111], (0, 0), qyX10_cover), (124, .invokestatic 332, [1, 0, 1491, 1493, 122, 1492], (0, 0), qyX10_ones), (127, .ireturn, [], (0, 0), qm_d0), (128, .aload_n 0, [], (0, 0), qm_d0), (129, .invokevirtual 479, [0, 8, 1678, 1681, 122, 1680, 111], (0, 0), qyX10_cover), (132, .ireturn, [], (0, 0), qm_d0), (133, .bipush (-2), [], (-2, 0), qm_d0), (135, .ireturn, [], (0, 0), qm_d0)])
set_option maxRecDepth 100000 in
theorem okX10_reach : qm_okM mX10_reach = true := by decide +kernel
def mX10_learntOf : qm_M := (RX10, qyX10_learntOf, [(0, .iconst (0), [], (0, 0), qm_d0), (1, .istore_n 3, [], (0, 0), qm_d0), (2, .iconst (0), [], (0, 0), qm_d0), (3, .istore 4, [], (0, 0), qm_d0), (5, .iload 4, [], (0, 0), qm_d0), (7, .aload_n 0, [], (0, 0), qm_d0), (8, .getfield 238, [8, 23, 0, 1110], (0, 0), qm_d0), (11, .if_icmp .ge (45), [32], (0, 0), qm_d0), (14, .iload_n 3, [], (0, 0), qm_d0), (15, .aload_n 0, [], (0, 0), qm_d0), (16, .iload 4, [], (0, 0), qm_d0), (18, .iload_n 1, [], (0, 0), qm_d0), (19, .invokevirtual 268, [2, 8, 1403, 1406, 122, 1405, 61], (0, 0), qyX10_hears), (22, .ifCond .eq (25), [27], (0, 0), qm_d0), (25, .aload_n 0, [], (0, 0), qm_d0), (26, .aload_n 0, [], (0, 0), qm_d0), (27, .iload_n 2, [], (0, 0), qm_d0), (28, .invokevirtual 271, [1, 8, 1407, 1410, 122, 1409, 62], (0, 0), qyX10_whole), (31, .aload_n 0, [], (0, 0), qm_d0), (32, .getfield 47, [8, 30, 2, 1117], (0, 0), qm_d0), (35, .iload 4, [], (0, 0), qm_d0), (37, .iaload, [10], (0, 0), qm_d0), (38, .iconst (-1), [], (-1, 0), qm_d0), (39, .ixor, [], (0, 0), qm_d0), (40, .iand, [], (0, 0), qm_d0), (41, .invokevirtual 320, [1, 8, 1471, 1474, 122, 1473, 73], (0, 0), qyX10_worthOf), (44, .goto (4), [28], (0, 0), qm_d0), (47, .iconst (0), [], (0, 0), qm_d0), (48, .iadd, [], (0, 0), qm_d0), (49, .istore_n 3, [], (0, 0), qm_d0), (50, .iinc 4 (1), [], (1, 0), qm_d0), (53, .goto (-48), [4], (0, 0), qm_d0), (56, .iload_n 3, [], (0, 0), qm_d0), (57, .ireturn, [], (0, 0), qm_d0)])
set_option maxRecDepth 100000 in
theorem okX10_learntOf : qm_okM mX10_learntOf = true := by decide +kernel
def mX10_learnt : qm_M := (RX10, qyX10_learnt, [(0, .aload_n 0, [], (0, 0), qm_d0), (1, .iconst (0), [], (0, 0), qm_d0), (2, .putfield 85, [8, 0, 0, 1087], (0, 0), qm_d0), (5, .aload_n 0, [], (0, 0), qm_d0), (6, .iload_n 1, [], (0, 0), qm_d0), (7, .invokevirtual 253, [1, 8, 1347, 1350, 122, 1349, 49], (0, 0), qyX10_hand), (10, .ifCond .eq (42), [28], (0, 0), qm_d0), (13, .aload_n 0, [], (0, 0), qm_d0), (14, .iload_n 2, [], (0, 0), qm_d0), (15, .invokevirtual 277, [1, 8, 1395, 1398, 122, 1397, 59], (0, 0), qyX10_isPerson), (18, .ifCond .eq (34), [28], (0, 0), qm_d0), (21, .iload_n 3, [], (0, 0), qm_d0), (22, .iconst (0), [], (0, 0), qm_d0), (23, .iconst (5), [], (5, 0), qm_d0), (24, .invokestatic 97, [3, 0, 1242, 1244, 122, 1243], (0, 0), qyX10_in), (27, .ifCond .eq (25), [28], (0, 0), qm_d0), (30, .aload_n 0, [], (0, 0), qm_d0), (31, .getfield 47, [8, 30, 2, 1117], (0, 0), qm_d0), (34, .iload_n 2, [], (0, 0), qm_d0), (35, .iaload, [10], (0, 0), qm_d0), (36, .iload_n 3, [], (0, 0), qm_d0), (37, .invokestatic 89, [2, 0, 1332, 1334, 122, 1333], (0, 0), qyX10_has), (40, .ifCond .eq (12), [28], (0, 0), qm_d0), (43, .aload_n 0, [], (0, 0), qm_d0), (44, .iload_n 2, [], (0, 0), qm_d0), (45, .iload_n 3, [], (0, 0), qm_d0), (46, .invokevirtual 482, [2, 8, 1499, 1502, 122, 1501, 78], (0, 0), qyX10_learntOf), (49, .goto (4), [29], (0, 0), qm_d0), (52, .iconst (-1), [], (-1, 0), qm_d0), (53, .ireturn, [], (0, 0), qm_d0)])
set_option maxRecDepth 100000 in
theorem okX10_learnt : qm_okM mX10_learnt = true := by decide +kernel
def mX10_bestOf : qm_M := (RX10, qyX10_bestOf, [(0, .iconst (-1), [], (-1, 0), qm_d0), (1, .istore_n 3, [], (0, 0), qm_d0), (2, .iconst (-1), [], (-1, 0), qm_d0), (3, .istore 4, [], (0, 0), qm_d0), (5, .iconst (0), [], (0, 0), qm_d0), (6, .istore 5, [], (0, 0), qm_d0), (8, .iload 5, [], (0, 0), qm_d0), (10, .bipush (6), [], (6, 0), qm_d0), (12, .if_icmp .ge (59), [36], (0, 0), qm_d0), (15, .aload_n 0, [], (0, 0), qm_d0), (16, .getfield 47, [8, 30, 2, 1117], (0, 0), qm_d0), (19, .iload_n 1, [], (0, 0), qm_d0), (20, .iaload, [10], (0, 0), qm_d0), (21, .iload 5, [], (0, 0), qm_d0), (23, .invokestatic 89, [2, 0, 1332, 1334, 122, 1333], (0, 0), qyX10_has), (26, .ifCond .eq (13), [21], (0, 0), qm_d0), (29, .aload_n 0, [], (0, 0), qm_d0), (30, .iload_n 1, [], (0, 0), qm_d0), (31, .iload 5, [], (0, 0), qm_d0), (33, .invokevirtual 482, [2, 8, 1499, 1502, 122, 1501, 78], (0, 0), qyX10_learntOf), (36, .goto (4), [22], (0, 0), qm_d0), (39, .iconst (-1), [], (-1, 0), qm_d0), (40, .istore 6, [], (0, 0), qm_d0), (42, .iload 6, [], (0, 0), qm_d0), (44, .iload 4, [], (0, 0), qm_d0), (46, .if_icmp .le (8), [28], (0, 0), qm_d0), (49, .iload 5, [], (0, 0), qm_d0), (51, .goto (4), [29], (0, 0), qm_d0), (54, .iload_n 3, [], (0, 0), qm_d0), (55, .istore_n 3, [], (0, 0), qm_d0), (56, .iload 4, [], (0, 0), qm_d0), (58, .iload 6, [], (0, 0), qm_d0), (60, .invokestatic 170, [2, 0, 1306, 1308, 122, 1307], (0, 0), qyX10_greater), (63, .istore 4, [], (0, 0), qm_d0), (65, .iinc 5 (1), [], (1, 0), qm_d0), (68, .goto (-60), [6], (0, 0), qm_d0), (71, .iload_n 2, [], (0, 0), qm_d0), (72, .ifCond .eq (12), [42], (0, 0), qm_d0), (75, .iconst (0), [], (0, 0), qm_d0), (76, .iload 4, [], (0, 0), qm_d0), (78, .invokestatic 170, [2, 0, 1306, 1308, 122, 1307], (0, 0), qyX10_greater), (81, .goto (4), [43], (0, 0), qm_d0), (84, .iload_n 3, [], (0, 0), qm_d0), (85, .ireturn, [], (0, 0), qm_d0)])
set_option maxRecDepth 100000 in
theorem okX10_bestOf : qm_okM mX10_bestOf = true := by decide +kernel
def mX10_best : qm_M := (RX10, qyX10_best, [(0, .aload_n 0, [], (0, 0), qm_d0), (1, .iconst (0), [], (0, 0), qm_d0), (2, .putfield 85, [8, 0, 0, 1087], (0, 0), qm_d0), (5, .aload_n 0, [], (0, 0), qm_d0), (6, .iload_n 1, [], (0, 0), qm_d0), (7, .invokevirtual 253, [1, 8, 1347, 1350, 122, 1349, 49], (0, 0), qyX10_hand), (10, .ifCond .eq (20), [16], (0, 0), qm_d0), (13, .aload_n 0, [], (0, 0), qm_d0), (14, .iload_n 2, [], (0, 0), qm_d0), (15, .invokevirtual 277, [1, 8, 1395, 1398, 122, 1397, 59], (0, 0), qyX10_isPerson), (18, .ifCond .eq (12), [16], (0, 0), qm_d0), (21, .aload_n 0, [], (0, 0), qm_d0), (22, .iload_n 2, [], (0, 0), qm_d0), (23, .iload_n 3, [], (0, 0), qm_d0), (24, .invokevirtual 336, [2, 8, 1495, 1498, 122, 1497, 77], (0, 0), qyX10_bestOf), (27, .goto (5), [17], (0, 0), qm_d0), (30, .bipush (-2), [], (-2, 0), qm_d0), (32, .ireturn, [], (0, 0), qm_d0)])
set_option maxRecDepth 100000 in
theorem okX10_best : qm_okM mX10_best = true := by decide +kernel
def mX10_sales : qm_M := (RX10, qyX10_sales, [(0, .aload_n 0, [], (0, 0), qm_d0), (1, .iconst (0), [], (0, 0), qm_d0), (2, .putfield 85, [8, 0, 0, 1087], (0, 0), qm_d0), (5, .aload_n 0, [], (0, 0), qm_d0), (6, .iload_n 1, [], (0, 0), qm_d0), (7, .invokevirtual 253, [1, 8, 1347, 1350, 122, 1349, 49], (0, 0), qyX10_hand), (10, .ifCond .eq (17), [15], (0, 0), qm_d0), (13, .iload_n 2, [], (0, 0), qm_d0), (14, .iconst (-1), [], (-1, 0), qm_d0), (15, .aload_n 0, [], (0, 0), qm_d0), (16, .getfield 238, [8, 23, 0, 1110], (0, 0), qm_d0), (19, .iconst (1), [], (1, 0), qm_d0), (20, .isub, [], (0, 0), qm_d0), (21, .invokestatic 97, [3, 0, 1242, 1244, 122, 1243], (0, 0), qyX10_in), (24, .ifCond .ne (5), [17], (0, 0), qm_d0), (27, .iconst (-1), [], (-1, 0), qm_d0), (28, .ireturn, [], (0, 0), qm_d0), (29, .aload_n 0, [], (0, 0), qm_d0), (30, .iconst (1), [], (1, 0), qm_d0), (31, .invokevirtual 348, [1, 8, 1479, 1482, 122, 1481, 74], (0, 0), qyX10_findCouples), (34, .aload_n 0, [], (0, 0), qm_d0), (35, .iconst (1), [], (1, 0), qm_d0), (36, .invokevirtual 352, [1, 8, 1503, 1506, 122, 1505, 79], (0, 0), qyX10_layCouples), (39, .iload_n 2, [], (0, 0), qm_d0), (40, .iconst (-1), [], (-1, 0), qm_d0), (41, .if_icmp .ne (12), [31], (0, 0), qm_d0), (44, .aload_n 0, [], (0, 0), qm_d0), (45, .getfield 65, [8, 37, 2, 1124], (0, 0), qm_d0), (48, .iconst (0), [], (0, 0), qm_d0), (49, .iaload, [10], (0, 0), qm_d0), (50, .goto (9), [35], (0, 0), qm_d0), (53, .aload_n 0, [], (0, 0), qm_d0), (54, .getfield 62, [8, 36, 2, 1123], (0, 0), qm_d0), (57, .iload_n 2, [], (0, 0), qm_d0), (58, .iaload, [10], (0, 0), qm_d0), (59, .ireturn, [], (0, 0), qm_d0)])
set_option maxRecDepth 100000 in
theorem okX10_sales : qm_okM mX10_sales = true := by decide +kernel
def mX10_luck : qm_M := (RX10, qyX10_luck, [(0, .aload_n 0, [], (0, 0), qm_d0), (1, .iconst (0), [], (0, 0), qm_d0), (2, .putfield 85, [8, 0, 0, 1087], (0, 0), qm_d0), (5, .aload_n 0, [], (0, 0), qm_d0), (6, .iload_n 1, [], (0, 0), qm_d0), (7, .invokevirtual 253, [1, 8, 1347, 1350, 122, 1349, 49], (0, 0), qyX10_hand), (10, .ifCond .eq (11), [11], (0, 0), qm_d0), (13, .aload_n 0, [], (0, 0), qm_d0), (14, .iload_n 2, [], (0, 0), qm_d0), (15, .invokevirtual 277, [1, 8, 1395, 1398, 122, 1397, 59], (0, 0), qyX10_isPerson), (18, .ifCond .ne (7), [13], (0, 0), qm_d0), (21, .ldc2_w 362, [1519], (0, -1), qm_d0), (24, .lreturn, [], (0, 0), qm_d0), (25, .lconst 0, [], (0, 0), qm_d0), (26, .lstore 4, [], (0, 0), qm_d0), (28, .iconst (0), [], (0, 0), qm_d0), (29, .istore 6, [], (0, 0), qm_d0), (31, .iload 6, [], (0, 0), qm_d0), (33, .aload_n 0, [], (0, 0), qm_d0), (34, .getfield 238, [8, 23, 0, 1110], (0, 0), qm_d0), (37, .if_icmp .ge (126), [85], (0, 0), qm_d0), (40, .iconst (0), [], (0, 0), qm_d0), (41, .istore 7, [], (0, 0), qm_d0), (43, .iconst (0), [], (0, 0), qm_d0), (44, .istore 8, [], (0, 0), qm_d0), (46, .iload 8, [], (0, 0), qm_d0), (48, .bipush (6), [], (6, 0), qm_d0), (50, .if_icmp .ge (74), [65], (0, 0), qm_d0), (53, .aload_n 0, [], (0, 0), qm_d0), (54, .getfield 47, [8, 30, 2, 1117], (0, 0), qm_d0), (57, .iload 6, [], (0, 0), qm_d0), (59, .iaload, [10], (0, 0), qm_d0), (60, .iload 8, [], (0, 0), qm_d0), (62, .invokestatic 89, [2, 0, 1332, 1334, 122, 1333], (0, 0), qyX10_has), (65, .ifCond .eq (35), [53], (0, 0), qm_d0), (68, .aload_n 0, [], (0, 0), qm_d0), (69, .iload_n 2, [], (0, 0), qm_d0), (70, .iload 6, [], (0, 0), qm_d0), (72, .invokevirtual 268, [2, 8, 1403, 1406, 122, 1405, 61], (0, 0), qyX10_hears), (75, .ifCond .eq (25), [53], (0, 0), qm_d0), (78, .aload_n 0, [], (0, 0), qm_d0), (79, .iload 8, [], (0, 0), qm_d0), (81, .invokevirtual 271, [1, 8, 1407, 1410, 122, 1409, 62], (0, 0), qyX10_whole), (84, .aload_n 0, [], (0, 0), qm_d0), (85, .getfield 47, [8, 30, 2, 1117], (0, 0), qm_d0), (88, .iload_n 2, [], (0, 0), qm_d0), (89, .iaload, [10], (0, 0), qm_d0), (90, .iconst (-1), [], (-1, 0), qm_d0), (91, .ixor, [], (0, 0), qm_d0), (92, .iand, [], (0, 0), qm_d0), (93, .ifCond .eq (7), [53], (0, 0), qm_d0), (96, .iconst (1), [], (1, 0), qm_d0), (97, .goto (4), [54], (0, 0), qm_d0), (100, .iconst (0), [], (0, 0), qm_d0), (101, .istore 9, [], (0, 0), qm_d0), (103, .iload 7, [], (0, 0), qm_d0), (105, .iload 9, [], (0, 0), qm_d0), (107, .ifCond .eq (7), [60], (0, 0), qm_d0), (110, .iconst (1), [], (1, 0), qm_d0), (111, .goto (4), [61], (0, 0), qm_d0), (114, .iconst (0), [], (0, 0), qm_d0), (115, .iadd, [], (0, 0), qm_d0), (116, .istore 7, [], (0, 0), qm_d0), (118, .iinc 8 (1), [], (1, 0), qm_d0), (121, .goto (-75), [25], (0, 0), qm_d0), (124, .lload 4, [], (0, 0), qm_d0), (126, .iload 7, [], (0, 0), qm_d0), (128, .ifCond .le (25), [80], (0, 0), qm_d0), (131, .ldc2_w 485, [1702], (0, 60), qm_d0), (134, .iload 7, [], (0, 0), qm_d0), (136, .i2l, [], (0, 0), qm_d0), (137, .lmul, [], (0, 0), qm_d0), (138, .aload_n 0, [], (0, 0), qm_d0), (139, .getfield 47, [8, 30, 2, 1117], (0, 0), qm_d0), (142, .iload 6, [], (0, 0), qm_d0), (144, .iaload, [10], (0, 0), qm_d0), (145, .invokestatic 332, [1, 0, 1491, 1493, 122, 1492], (0, 0), qyX10_ones), (148, .i2l, [], (0, 0), qm_d0), (149, .ldiv, [], (0, 0), qm_d0), (150, .goto (4), [81], (0, 0), qm_d0), (153, .lconst 0, [], (0, 0), qm_d0), (154, .ladd, [], (0, 0), qm_d0), (155, .lstore 4, [], (0, 0), qm_d0), (157, .iinc 6 (1), [], (1, 0), qm_d0), (160, .goto (-129), [17], (0, 0), qm_d0), (163, .lload 4, [], (0, 0), qm_d0), (165, .ldc2_w 485, [1702], (0, 60), qm_d0), (168, .aload_n 0, [], (0, 0), qm_d0), (169, .getfield 238, [8, 23, 0, 1110], (0, 0), qm_d0), (172, .i2l, [], (0, 0), qm_d0), (173, .lmul, [], (0, 0), qm_d0), (174, .iload_n 3, [], (0, 0), qm_d0), (175, .invokestatic 364, [3, 0, 1520, 1522, 122, 1521], (0, 0), qyX10_part), (178, .lreturn, [], (0, 0), qm_d0)])
set_option maxRecDepth 100000 in
theorem okX10_luck : qm_okM mX10_luck = true := by decide +kernel
def mX10_most : qm_M := (RX10, qyX10_most, [(0, .iconst (-1), [], (-1, 0), qm_d0), (1, .istore_n 2, [], (0, 0), qm_d0), (2, .iconst (0), [], (0, 0), qm_d0), (3, .istore_n 3, [], (0, 0), qm_d0), (4, .iload_n 3, [], (0, 0), qm_d0), (5, .iload_n 1, [], (0, 0), qm_d0), (6, .iconst (3), [], (3, 0), qm_d0), (7, .if_icmp .ne (8), [10], (0, 0), qm_d0), (10, .bipush (6), [], (6, 0), qm_d0), (12, .goto (7), [12], (0, 0), qm_d0), (15, .aload_n 0, [], (0, 0), qm_d0), (16, .getfield 238, [8, 23, 0, 1110], (0, 0), qm_d0), (19, .if_icmp .ge (164), [102], (0, 0), qm_d0), (22, .iload_n 1, [], (0, 0), qm_d0), (23, .ifCond .ne (12), [20], (0, 0), qm_d0), (26, .aload_n 0, [], (0, 0), qm_d0), (27, .getfield 53, [8, 32, 2, 1119], (0, 0), qm_d0), (30, .iload_n 3, [], (0, 0), qm_d0), (31, .iaload, [10], (0, 0), qm_d0), (32, .goto (41), [42], (0, 0), qm_d0), (35, .iload_n 1, [], (0, 0), qm_d0), (36, .iconst (1), [], (1, 0), qm_d0), (37, .if_icmp .ne (12), [28], (0, 0), qm_d0), (40, .aload_n 0, [], (0, 0), qm_d0), (41, .getfield 44, [8, 29, 2, 1116], (0, 0), qm_d0), (44, .iload_n 3, [], (0, 0), qm_d0), (45, .iaload, [10], (0, 0), qm_d0), (46, .goto (27), [42], (0, 0), qm_d0), (49, .iload_n 1, [], (0, 0), qm_d0), (50, .iconst (2), [], (2, 0), qm_d0), (51, .if_icmp .ne (16), [38], (0, 0), qm_d0), (54, .aload_n 0, [], (0, 0), qm_d0), (55, .aload_n 0, [], (0, 0), qm_d0), (56, .getfield 47, [8, 30, 2, 1117], (0, 0), qm_d0), (59, .iload_n 3, [], (0, 0), qm_d0), (60, .iaload, [10], (0, 0), qm_d0), (61, .invokevirtual 320, [1, 8, 1471, 1474, 122, 1473, 73], (0, 0), qyX10_worthOf), (64, .goto (9), [42], (0, 0), qm_d0), (67, .aload_n 0, [], (0, 0), qm_d0), (68, .getfield 56, [8, 33, 2, 1120], (0, 0), qm_d0), (71, .iload_n 3, [], (0, 0), qm_d0), (72, .iaload, [10], (0, 0), qm_d0), (73, .istore 4, [], (0, 0), qm_d0), (75, .iload_n 2, [], (0, 0), qm_d0), (76, .iconst (-1), [], (-1, 0), qm_d0), (77, .if_icmp .ne (7), [48], (0, 0), qm_d0), (80, .iconst (0), [], (0, 0), qm_d0), (81, .goto (54), [77], (0, 0), qm_d0), (84, .iload_n 1, [], (0, 0), qm_d0), (85, .ifCond .ne (12), [55], (0, 0), qm_d0), (88, .aload_n 0, [], (0, 0), qm_d0), (89, .getfield 53, [8, 32, 2, 1119], (0, 0), qm_d0), (92, .iload_n 2, [], (0, 0), qm_d0), (93, .iaload, [10], (0, 0), qm_d0), (94, .goto (41), [77], (0, 0), qm_d0), (97, .iload_n 1, [], (0, 0), qm_d0), (98, .iconst (1), [], (1, 0), qm_d0), (99, .if_icmp .ne (12), [63], (0, 0), qm_d0), (102, .aload_n 0, [], (0, 0), qm_d0), (103, .getfield 44, [8, 29, 2, 1116], (0, 0), qm_d0), (106, .iload_n 2, [], (0, 0), qm_d0), (107, .iaload, [10], (0, 0), qm_d0), (108, .goto (27), [77], (0, 0), qm_d0), (111, .iload_n 1, [], (0, 0), qm_d0), (112, .iconst (2), [], (2, 0), qm_d0), (113, .if_icmp .ne (16), [73], (0, 0), qm_d0), (116, .aload_n 0, [], (0, 0), qm_d0), (117, .aload_n 0, [], (0, 0), qm_d0), (118, .getfield 47, [8, 30, 2, 1117], (0, 0), qm_d0), (121, .iload_n 2, [], (0, 0), qm_d0), (122, .iaload, [10], (0, 0), qm_d0), (123, .invokevirtual 320, [1, 8, 1471, 1474, 122, 1473, 73], (0, 0), qyX10_worthOf), (126, .goto (9), [77], (0, 0), qm_d0), (129, .aload_n 0, [], (0, 0), qm_d0), (130, .getfield 56, [8, 33, 2, 1120], (0, 0), qm_d0), (133, .iload_n 2, [], (0, 0), qm_d0), (134, .iaload, [10], (0, 0), qm_d0), (135, .istore 5, [], (0, 0), qm_d0), (137, .iload_n 2, [], (0, 0), qm_d0), (138, .iconst (-1), [], (-1, 0), qm_d0), (139, .if_icmp .ne (17), [89], (0, 0), qm_d0), (142, .iload_n 1, [], (0, 0), qm_d0), (143, .iconst (1), [], (1, 0), qm_d0), (144, .if_icmp .eq (8), [87], (0, 0), qm_d0), (147, .iload_n 1, [], (0, 0), qm_d0), (148, .iconst (2), [], (2, 0), qm_d0), (149, .if_icmp .ne (7), [89], (0, 0), qm_d0), (152, .iconst (1), [], (1, 0), qm_d0), (153, .goto (4), [90], (0, 0), qm_d0), (156, .iconst (0), [], (0, 0), qm_d0), (157, .istore 6, [], (0, 0), qm_d0), (159, .iload 6, [], (0, 0), qm_d0), (161, .ifCond .ne (10), [96], (0, 0), qm_d0), (164, .iload 4, [], (0, 0), qm_d0), (166, .iload 5, [], (0, 0), qm_d0), (168, .if_icmp .le (7), [98], (0, 0), qm_d0), (171, .iload_n 3, [], (0, 0), qm_d0), (172, .goto (4), [99], (0, 0), qm_d0), (175, .iload_n 2, [], (0, 0), qm_d0), (176, .istore_n 2, [], (0, 0), qm_d0), (177, .iinc 3 (1), [], (1, 0), qm_d0), (180, .goto (-176), [4], (0, 0), qm_d0), (183, .iload_n 2, [], (0, 0), qm_d0), (184, .ireturn, [], (0, 0), qm_d0)])
set_option maxRecDepth 100000 in
theorem okX10_most : qm_okM mX10_most = true := by decide +kernel
def mX10_after : qm_M := (RX10, qyX10_after, [(0, .aload_n 0, [], (0, 0), qm_d0), (1, .iconst (0), [], (0, 0), qm_d0), (2, .putfield 85, [8, 0, 0, 1087], (0, 0), qm_d0), (5, .aload_n 0, [], (0, 0), qm_d0), (6, .iload_n 1, [], (0, 0), qm_d0), (7, .iload_n 2, [], (0, 0), qm_d0), (8, .invokevirtual 301, [2, 8, 1375, 1378, 122, 1377, 54], (0, 0), qyX10_layAll), (11, .ifCond .eq (12), [13], (0, 0), qm_d0), (14, .iload_n 3, [], (0, 0), qm_d0), (15, .iconst (0), [], (0, 0), qm_d0), (16, .iconst (5), [], (5, 0), qm_d0), (17, .invokestatic 97, [3, 0, 1242, 1244, 122, 1243], (0, 0), qyX10_in), (20, .ifCond .ne (6), [15], (0, 0), qm_d0), (23, .bipush (-2), [], (-2, 0), qm_d0), (25, .ireturn, [], (0, 0), qm_d0), (26, .iconst (-1), [], (-1, 0), qm_d0), (27, .istore 4, [], (0, 0), qm_d0), (29, .iconst (1), [], (1, 0), qm_d0), (30, .istore 5, [], (0, 0), qm_d0), (32, .iconst (0), [], (0, 0), qm_d0), (33, .istore 6, [], (0, 0), qm_d0), (35, .iload 5, [], (0, 0), qm_d0), (37, .ifCond .eq (56), [47], (0, 0), qm_d0), (40, .iload 6, [], (0, 0), qm_d0), (42, .aload_n 0, [], (0, 0), qm_d0), (43, .invokevirtual 262, [0, 8, 1363, 1366, 122, 1365, 52], (0, 0), qyX10_deeds), (46, .if_icmp .ge (16), [33], (0, 0), qm_d0), (49, .aload_n 0, [], (0, 0), qm_d0), (50, .iload 6, [], (0, 0), qm_d0), (52, .invokevirtual 298, [1, 8, 1383, 1386, 122, 1385, 56], (0, 0), qyX10_doesDeed), (55, .ifCond .eq (7), [33], (0, 0), qm_d0), (58, .iconst (1), [], (1, 0), qm_d0), (59, .goto (4), [34], (0, 0), qm_d0), (62, .iconst (0), [], (0, 0), qm_d0), (63, .istore 5, [], (0, 0), qm_d0), (65, .iload 4, [], (0, 0), qm_d0), (67, .iconst (-1), [], (-1, 0), qm_d0), (68, .if_icmp .ne (15), [43], (0, 0), qm_d0), (71, .aload_n 0, [], (0, 0), qm_d0), (72, .getfield 244, [8, 25, 0, 1112], (0, 0), qm_d0), (75, .ifCond .le (8), [43], (0, 0), qm_d0), (78, .iload 6, [], (0, 0), qm_d0), (80, .goto (5), [44], (0, 0), qm_d0), (83, .iload 4, [], (0, 0), qm_d0), (85, .istore 4, [], (0, 0), qm_d0), (87, .iinc 6 (1), [], (1, 0), qm_d0), (90, .goto (-55), [21], (0, 0), qm_d0), (93, .iload_n 3, [], (0, 0), qm_d0), (94, .tableswitch (45) (0) (4) #[34, 37, 37, 37, 37], [57, 49, 51, 51, 51, 51], (34, 0), qm_d0), (128, .iload 4, [], (0, 0), qm_d0), (130, .ireturn, [], (0, 0), qm_d0), (131, .aload_n 0, [], (0, 0), qm_d0), (132, .iload_n 3, [], (0, 0), qm_d0), (133, .iconst (1), [], (1, 0), qm_d0), (134, .isub, [], (0, 0), qm_d0), (135, .invokevirtual 487, [1, 8, 1707, 1710, 122, 1709, 113], (0, 0), qyX10_most), (138, .ireturn, [], (0, 0), qm_d0), (139, .aload_n 0, [], (0, 0), qm_d0), (140, .getfield 250, [8, 27, 0, 1114], (0, 0), qm_d0), (143, .ireturn, [], (0, 0), qm_d0)])
set_option maxRecDepth 100000 in
theorem okX10_after : qm_okM mX10_after = true := by decide +kernel
def mX10_share : qm_M := (RX10, qyX10_share, [(0, .aload_n 0, [], (0, 0), qm_d0), (1, .iconst (0), [], (0, 0), qm_d0), (2, .putfield 85, [8, 0, 0, 1087], (0, 0), qm_d0), (5, .iload_n 3, [], (0, 0), qm_d0), (6, .iconst (0), [], (0, 0), qm_d0), (7, .iconst (5), [], (5, 0), qm_d0), (8, .invokestatic 97, [3, 0, 1242, 1244, 122, 1243], (0, 0), qyX10_in), (11, .ifCond .eq (19), [16], (0, 0), qm_d0), (14, .aload_n 0, [], (0, 0), qm_d0), (15, .iload_n 1, [], (0, 0), qm_d0), (16, .iload_n 2, [], (0, 0), qm_d0), (17, .invokevirtual 410, [2, 8, 1569, 1572, 122, 1571, 88], (0, 0), qyX10_layLog), (20, .ifCond .eq (10), [16], (0, 0), qm_d0), (23, .aload_n 0, [], (0, 0), qm_d0), (24, .getfield 401, [8, 43, 0, 1130], (0, 0), qm_d0), (27, .ifCond .ne (7), [18], (0, 0), qm_d0), (30, .ldc2_w 362, [1519], (0, -1), qm_d0), (33, .lreturn, [], (0, 0), qm_d0), (34, .aload_n 0, [], (0, 0), qm_d0), (35, .iload_n 3, [], (0, 0), qm_d0), (36, .invokevirtual 407, [1, 8, 1589, 1592, 122, 1591, 93], (0, 0), qyX10_manyHave), (39, .i2l, [], (0, 0), qm_d0), (40, .aload_n 0, [], (0, 0), qm_d0), (41, .getfield 401, [8, 43, 0, 1130], (0, 0), qm_d0), (44, .i2l, [], (0, 0), qm_d0), (45, .iload 4, [], (0, 0), qm_d0), (47, .invokestatic 364, [3, 0, 1520, 1522, 122, 1521], (0, 0), qyX10_part), (50, .lreturn, [], (0, 0), qm_d0)])
set_option maxRecDepth 100000 in
theorem okX10_share : qm_okM mX10_share = true := by decide +kernel
def mX10_fewest : qm_M := (RX10, qyX10_fewest, [(0, .aload_n 0, [], (0, 0), qm_d0), (1, .iconst (0), [], (0, 0), qm_d0), (2, .putfield 85, [8, 0, 0, 1087], (0, 0), qm_d0), (5, .aload_n 0, [], (0, 0), qm_d0), (6, .iload_n 1, [], (0, 0), qm_d0), (7, .iload_n 2, [], (0, 0), qm_d0), (8, .invokevirtual 410, [2, 8, 1569, 1572, 122, 1571, 88], (0, 0), qyX10_layLog), (11, .ifCond .eq (10), [11], (0, 0), qm_d0), (14, .aload_n 0, [], (0, 0), qm_d0), (15, .getfield 401, [8, 43, 0, 1130], (0, 0), qm_d0), (18, .ifCond .ne (5), [13], (0, 0), qm_d0), (21, .iconst (-1), [], (-1, 0), qm_d0), (22, .ireturn, [], (0, 0), qm_d0), (23, .aload_n 0, [], (0, 0), qm_d0), (24, .getfield 75, [8, 42, 2, 1129], (0, 0), qm_d0), (27, .iconst (0), [], (0, 0), qm_d0), (28, .iaload, [10], (0, 0), qm_d0), (29, .invokestatic 332, [1, 0, 1491, 1493, 122, 1492], (0, 0), qyX10_ones), (32, .istore 4, [], (0, 0), qm_d0), (34, .iconst (0), [], (0, 0), qm_d0), (35, .istore 5, [], (0, 0), qm_d0), (37, .iload 5, [], (0, 0), qm_d0), (39, .aload_n 0, [], (0, 0), qm_d0), (40, .getfield 401, [8, 43, 0, 1130], (0, 0), qm_d0), (43, .if_icmp .ge (48), [45], (0, 0), qm_d0), (46, .iload_n 3, [], (0, 0), qm_d0), (47, .ifCond .eq (21), [35], (0, 0), qm_d0), (50, .iload 4, [], (0, 0), qm_d0), (52, .aload_n 0, [], (0, 0), qm_d0), (53, .getfield 75, [8, 42, 2, 1129], (0, 0), qm_d0), (56, .iload 5, [], (0, 0), qm_d0), (58, .iaload, [10], (0, 0), qm_d0), (59, .invokestatic 332, [1, 0, 1491, 1493, 122, 1492], (0, 0), qyX10_ones), (62, .invokestatic 170, [2, 0, 1306, 1308, 122, 1307], (0, 0), qyX10_greater), (65, .goto (18), [42], (0, 0), qm_d0), (68, .iload 4, [], (0, 0), qm_d0), (70, .aload_n 0, [], (0, 0), qm_d0), (71, .getfield 75, [8, 42, 2, 1129], (0, 0), qm_d0), (74, .iload 5, [], (0, 0), qm_d0), (76, .iaload, [10], (0, 0), qm_d0), (77, .invokestatic 332, [1, 0, 1491, 1493, 122, 1492], (0, 0), qyX10_ones), (80, .invokestatic 280, [2, 0, 1423, 1425, 122, 1424], (0, 0), qyX10_lesser), (83, .istore 4, [], (0, 0), qm_d0), (85, .iinc 5 (1), [], (1, 0), qm_d0), (88, .goto (-51), [21], (0, 0), qm_d0), (91, .iload 4, [], (0, 0), qm_d0), (93, .ireturn, [], (0, 0), qm_d0)])
set_option maxRecDepth 100000 in
theorem okX10_fewest : qm_okM mX10_fewest = true := by decide +kernel
def mX10_count : qm_M := (RX10, qyX10_count, [(0, .aload_n 0, [], (0, 0), qm_d0), (1, .iconst (0), [], (0, 0), qm_d0), (2, .putfield 85, [8, 0, 0, 1087], (0, 0), qm_d0), (5, .iload_n 1, [], (0, 0), qm_d0), (6, .iconst (0), [], (0, 0), qm_d0), (7, .iconst (2), [], (2, 0), qm_d0), (8, .invokestatic 97, [3, 0, 1242, 1244, 122, 1243], (0, 0), qyX10_in), (11, .ifCond .eq (12), [13], (0, 0), qm_d0), (14, .aload_n 0, [], (0, 0), qm_d0), (15, .getfield 23, [8, 5, 2, 1092], (0, 0), qm_d0), (18, .iload_n 1, [], (0, 0), qm_d0), (19, .iaload, [10], (0, 0), qm_d0), (20, .goto (5), [14], (0, 0), qm_d0), (23, .bipush (-2), [], (-2, 0), qm_d0), (25, .ireturn, [], (0, 0), qm_d0)])
set_option maxRecDepth 100000 in
theorem okX10_count : qm_okM mX10_count = true := by decide +kernel
def mX10_image : qm_M := (RX10, qyX10_image, [(0, .aload_n 0, [], (0, 0), qm_d0), (1, .iconst (0), [], (0, 0), qm_d0), (2, .putfield 85, [8, 0, 0, 1087], (0, 0), qm_d0), (5, .iload_n 1, [], (0, 0), qm_d0), (6, .iconst (0), [], (0, 0), qm_d0), (7, .iconst (2), [], (2, 0), qm_d0), (8, .invokestatic 97, [3, 0, 1242, 1244, 122, 1243], (0, 0), qyX10_in), (11, .ifCond .ne (5), [10], (0, 0), qm_d0), (14, .iconst (0), [], (0, 0), qm_d0), (15, .ireturn, [], (0, 0), qm_d0), (16, .aload_n 0, [], (0, 0), qm_d0), (17, .iconst (0), [], (0, 0), qm_d0), (18, .iload_n 1, [], (0, 0), qm_d0), (19, .iconst (1), [], (1, 0), qm_d0), (20, .iadd, [], (0, 0), qm_d0), (21, .invokevirtual 490, [2, 8, 1727, 1730, 122, 1729, 114], (0, 0), qyX10_copyAll), (24, .aload_n 0, [], (0, 0), qm_d0), (25, .getfield 81, [8, 46, 2, 1133], (0, 0), qm_d0), (28, .iload_n 1, [], (0, 0), qm_d0), (29, .iconst (1), [], (1, 0), qm_d0), (30, .bastore, [11], (0, 0), qm_d0), (31, .iconst (1), [], (1, 0), qm_d0), (32, .ireturn, [], (0, 0), qm_d0)])
set_option maxRecDepth 100000 in
theorem okX10_image : qm_okM mX10_image = true := by decide +kernel
def mX10_again : qm_M := (RX10, qyX10_again, [(0, .aload_n 0, [], (0, 0), qm_d0), (1, .iconst (0), [], (0, 0), qm_d0), (2, .putfield 85, [8, 0, 0, 1087], (0, 0), qm_d0), (5, .iload_n 1, [], (0, 0), qm_d0), (6, .iconst (0), [], (0, 0), qm_d0), (7, .iconst (2), [], (2, 0), qm_d0), (8, .invokestatic 97, [3, 0, 1242, 1244, 122, 1243], (0, 0), qyX10_in), (11, .ifCond .eq (12), [13], (0, 0), qm_d0), (14, .aload_n 0, [], (0, 0), qm_d0), (15, .getfield 81, [8, 46, 2, 1133], (0, 0), qm_d0), (18, .iload_n 1, [], (0, 0), qm_d0), (19, .baload, [11], (0, 0), qm_d0), (20, .ifCond .ne (5), [15], (0, 0), qm_d0), (23, .iconst (0), [], (0, 0), qm_d0), (24, .ireturn, [], (0, 0), qm_d0), (25, .aload_n 0, [], (0, 0), qm_d0), (26, .iload_n 1, [], (0, 0), qm_d0), (27, .iconst (1), [], (1, 0), qm_d0), (28, .iadd, [], (0, 0), qm_d0), (29, .iconst (0), [], (0, 0), qm_d0), (30, .invokevirtual 490, [2, 8, 1727, 1730, 122, 1729, 114], (0, 0), qyX10_copyAll), (33, .iconst (1), [], (1, 0), qm_d0), (34, .ireturn, [], (0, 0), qm_d0)])
set_option maxRecDepth 100000 in
theorem okX10_again : qm_okM mX10_again = true := by decide +kernel
end
section
/-! words for locals and truth values; calls; frames -/
abbrev vi (x : Int32) : Option Value := some (.int x)
abbrev vl (x : Int64) : Option Value := some (.long x)
abbrev vr (x : Nat) : Option Value := some (.ref x)
abbrev vu : Option Value := none
def b2 (b : Bool) : Int32 := if b then 1 else 0
theorem b2_t : b2 true = 1 := rfl
theorem b2_f : b2 false = 0 := rfl
theorem b2_and (b : Bool) : b2 b &&& 1 = b2 b := by cases b <;> rfl
/-- ifeq, ifne over a truth value -/
theorem b2_eq {b : Bool} {A B : Prop} (t : b = true → B) (f : b = false → A) : (b2 b = 0 → A) ∧ (¬ b2 b = 0 → B) := by
  cases b
  · exact ⟨fun _ => f rfl, fun q => absurd rfl q⟩
  · exact ⟨fun q => absurd q (by decide), fun _ => t rfl⟩
theorem b2_ne {b : Bool} {A B : Prop} (t : b = true → A) (f : b = false → B) : (¬ b2 b = 0 → A) ∧ (b2 b = 0 → B) := ⟨fun q => (b2_eq (b := b) t f).2 q, fun q => (b2_eq (b := b) t f).1 q⟩
/-- ints of these places alone may differ -/
def sb (S : List Nat) (h h' : qm_H) : Prop := h'.2 = h.2 ∧ ∀ q, q ∉ S → h'.1 q = h.1 q
theorem sb.rf {S : List Nat} {h : qm_H} : sb S h h := ⟨rfl, fun _ _ => rfl⟩
theorem sb.tr {S : List Nat} {h h1 h2 : qm_H} (a : sb S h h1) (b : sb S h1 h2) : sb S h h2 := ⟨b.1.trans a.1, fun q hq => (b.2 q hq).trans (a.2 q hq)⟩
theorem sb.mono {S S' : List Nat} {h h' : qm_H} (a : sb S h h') (hs : ∀ q, q ∈ S → q ∈ S') : sb S' h h' := ⟨a.1, fun q hq => a.2 q (fun k => hq (hs q k))⟩
theorem sb.si {S : List Nat} {h h1 : qm_H} (a : sb S h h1) {p k : Nat} {v : Int32} (hp : p ∈ S) : sb S h (qm_si h1 p k v) := ⟨a.1, fun q hq => by
  have e : q ≠ p := fun e => hq (e ▸ hp)
  show va_up h1.1 p _ q = h.1 q
  rw [va_up, if_neg e]
  exact a.2 q hq⟩
theorem si_row (h : qm_H) (p k : Nat) (v : Int32) : (qm_si h p k v).1 p = va_up (h.1 p) k v := by
  show va_up h.1 p _ p = _
  rw [va_up, if_pos rfl]
theorem si_ne (h : qm_H) {p q : Nat} (k : Nat) (v : Int32) (e : q ≠ p) : (qm_si h p k v).1 q = h.1 q := by
  show va_up h.1 p _ q = _
  rw [va_up, if_neg e]
theorem si_2 (h : qm_H) (p k : Nat) (v : Int32) : (qm_si h p k v).2 = h.2 := rfl
theorem up_s {α : Type} (f : Nat → α) (k : Nat) (v : α) : va_up f k v k = v := if_pos rfl
theorem up_n {α : Type} (f : Nat → α) {k j : Nat} (v : α) (e : j ≠ k) : va_up f k v j = f j := if_neg e
/-- a contract of a method without a loop -/
theorem qm_Ev.run {G : qm_G} {b : Bool} {d C S : Nat} {M : qm_M} {as : List Value} {h : qm_H} {uQ : Option Value → qm_H → Prop} (hok : qm_okM M = true) (hn : Nat.ble (qm_in as).length M.2.1.2.2.1 = true) (hb : G.2.2.2.2 = b) (body : ∀ z : qm_Z, qm_wp G b M z d C S uQ [] 400 0 0 0 (qm_L0 M.2.1.2.2.1 as) [] h) : qm_Ev G d C S M.2.1 as h uQ := qm_Ev.by hok (Nat.le_of_ble_eq_true hn) hb fun z hA => qm_wp_ok hA [] 400 _ _ _ _ _ _ (body z)
/-- a bit -/
def bit (x k : Int32) : Bool := decide ((x >>> (k &&& 31)) &&& 1 = 1)
theorem in_of {x : Int32} {n : Nat} (h : 0 ≤ x) (h2 : x ≤ nI n - 1) (hn : n < 2 ^ 31) : ∃ j, j < n ∧ x = nI j := by
  have h3 : ¬ x < 0 := Int32.not_lt.mpr h
  rcases n with _ | n
  · have e : nI 0 - 1 = (-1 : Int32) := by decide
    rw [e] at h2
    exact absurd (Int32.le_trans h h2) (by decide)
  · rw [nI_pred] at h2
    obtain ⟨j, hj, e⟩ := nI_of h3
    refine ⟨j, ?_, e⟩
    rw [e] at h2
    have := (nI_leI hj (by omega)).mp h2
    omega
end
section
/-! the reference: small ones -/
section Ref1
theorem e_in {G : qm_G} (hG : G.2.2.2.2 = true) (d : Nat) (h : qm_H) (v lo hi : Int32) : qm_Ev G d 0 0 qyX10_in [.int v, .int lo, .int hi] h (fun r h' => r = some (.int (b2 (decide (lo ≤ v ∧ v ≤ hi)))) ∧ h = h') := by
  refine qm_Ev.run (M := mX10_in) okX10_in rfl hG fun z => ?_
  refine ⟨fun c1 => ?_, fun c1 => ?_⟩
  · exact ⟨rfl, by rw [decide_eq_false (fun q => absurd q.1 (Int32.not_le.mpr c1))]; rfl, rfl⟩
  · refine ⟨fun c2 => ?_, fun c2 => ?_⟩
    · exact ⟨rfl, by rw [decide_eq_false (fun q => absurd q.2 (Int32.not_le.mpr c2))]; rfl, rfl⟩
    · exact ⟨rfl, by rw [decide_eq_true ⟨Int32.not_lt.mp c1, Int32.not_lt.mp c2⟩]; rfl, rfl⟩
theorem e_has {G : qm_G} (hG : G.2.2.2.2 = true) (d : Nat) (h : qm_H) (x k : Int32) : qm_Ev G d 0 0 qyX10_has [.int x, .int k] h (fun r h' => r = some (.int (b2 (bit x k))) ∧ h = h') := by
  refine qm_Ev.run (M := mX10_has) okX10_has rfl hG fun z => ?_
  refine ⟨fun c1 => ?_, fun c1 => ?_⟩
  · exact ⟨rfl, by rw [bit, decide_eq_false c1]; rfl, rfl⟩
  · exact ⟨rfl, by rw [bit, decide_eq_true c1]; rfl, rfl⟩
def mx (a b : Int32) : Int32 := if a ≤ b then b else a
def mn (a b : Int32) : Int32 := if a < b then a else b
theorem e_greater {G : qm_G} (hG : G.2.2.2.2 = true) (d : Nat) (h : qm_H) (a b : Int32) : qm_Ev G d 0 0 qyX10_greater [.int a, .int b] h (fun r h' => r = some (.int (mx a b)) ∧ h = h') := by
  refine qm_Ev.run (M := mX10_greater) okX10_greater rfl hG fun z => ?_
  exact ⟨fun c1 => ⟨trivial, by rw [mx, if_pos c1], rfl⟩, fun c1 => ⟨trivial, by rw [mx, if_neg c1], rfl⟩⟩
theorem e_lesser {G : qm_G} (hG : G.2.2.2.2 = true) (d : Nat) (h : qm_H) (a b : Int32) : qm_Ev G d 0 0 qyX10_lesser [.int a, .int b] h (fun r h' => r = some (.int (mn a b)) ∧ h = h') := by
  refine qm_Ev.run (M := mX10_lesser) okX10_lesser rfl hG fun z => ?_
  exact ⟨fun c1 => ⟨trivial, by rw [mn, if_neg (Int32.not_lt.mpr c1)], rfl⟩, fun c1 => ⟨trivial, by rw [mn, if_pos (Int32.not_le.mp c1)], rfl⟩⟩
def ones (x : Int32) : Nat → Int32
  | 0 => 0
  | n + 1 => ones x n + b2 (bit x (nI n))
theorem e_ones {G : qm_G} (hG : G.2.2.2.2 = true) (d : Nat) (h : qm_H) (x : Int32) : qm_Ev G (d + 1) 0 0 qyX10_ones [.int x] h (fun r h' => r = some (.int (ones x 6)) ∧ h = h') := by
  refine qm_Ev.by (M := mX10_ones) okX10_ones (Nat.le_of_ble_eq_true rfl) hG fun z hA => ?_
  have loop : ∀ n i : Nat, i + n = 6 → qm_PW G mX10_ones z 4 0 0 [vi x, vi (ones x i), vi (nI i)] [] h := by
    intro n
    induction n with
    | zero =>
      intro i hi
      obtain rfl : i = 6 := hi
      refine qm_wp_ok hA [] 20 _ _ _ _ _ _ ?_
      exact ⟨fun _ => ⟨trivial, rfl, rfl⟩, fun q => absurd (by decide) q⟩
    | succ n ih =>
      intro i hi
      refine qm_wp_ok hA [4] 30 _ _ _ _ _ _ ?_
      refine ⟨fun q => absurd q (nI_ge (by omega : i < 6) (by decide)), fun _ => ?_⟩
      refine ⟨0, 0, _, e_has hG d h x (nI i), ⟨Nat.le_refl _, Nat.le_refl _⟩, ?_⟩
      rintro _ _ ⟨rfl, rfl⟩
      have key := ih (i + 1) (by omega)
      rw [ones, ← nI_1] at key
      exact b2_eq (fun hb => by rw [hb] at key; exact key) (fun hb => by rw [hb] at key; exact key)
  refine qm_wp_ok hA [4] 20 _ _ _ _ _ _ ?_
  exact loop 6 0 rfl
/-- the row of a town -/
def tw (h : qm_H) (t : Nat) : Nat → Int32 := fun j => h.1 32 (31 * t + j)
theorem e_of {G : qm_G} (hG : G.2.2.2.2 = true) (d : Nat) (h : qm_H) {t j : Nat} (ht : h.1 26 22 = nI t) (hk : t < 2) (hj : j < 31) : qm_Ev G d 0 0 qyX10_of [.ref 26, .int (nI j)] h (fun r h' => r = some (.int (tw h t j)) ∧ h = h') := by
  refine qm_Ev.run (M := mX10_of) okX10_of rfl hG fun z => ?_
  have e : (31 : Int32) * h.1 26 22 + nI j = nI (31 * t + j) := by rw [ht, ← nI_add, ← pk_mul]; rfl
  refine ⟨rfl, _, rfl, rfl, rfl, ?_, trivial, ?_, rfl⟩
  · show vp_in ((31 : Int32) * h.1 26 22 + nI j) 248
    rw [e]; exact vp_in_nI (by omega) (by decide)
  · show some (Value.int (h.1 32 ((31 : Int32) * h.1 26 22 + nI j).toNatClampNeg)) = _
    rw [e, nI_clamp (by omega)]
    rfl
theorem e_is {G : qm_G} (hG : G.2.2.2.2 = true) (d : Nat) (h : qm_H) {s : Nat} (hs : s < 3) (k : Int32) : qm_Ev G (d + 1) 0 0 qyX10_is [.ref 26, .int (nI s), .int k] h (fun r h' => r = some (.int (b2 (decide (0 ≤ k ∧ k ≤ h.1 31 s - 1)))) ∧ h = h') := by
  refine qm_Ev.run (M := mX10_is) okX10_is rfl hG fun z => ?_
  refine ⟨rfl, _, rfl, rfl, (vp_in_nI (by omega) (by decide) : vp_in (nI s) 12), ?_⟩
  refine ⟨0, 0, _, e_in hG d h k 0 (h.1 31 (nI s).toNatClampNeg - 1), ⟨Nat.le_refl _, Nat.le_refl _⟩, ?_⟩
  rintro _ _ ⟨rfl, rfl⟩
  rw [nI_clamp (by omega)]
  exact ⟨b2_and _, rfl, rfl⟩
theorem e_isPerson {G : qm_G} (hG : G.2.2.2.2 = true) (d : Nat) (h : qm_H) (p : Int32) : qm_Ev G (d + 1) 0 0 qyX10_isPerson [.ref 26, .int p] h (fun r h' => r = some (.int (b2 (decide (0 ≤ p ∧ p ≤ h.1 26 23 - 1)))) ∧ h = h') := by
  refine qm_Ev.run (M := mX10_isPerson) okX10_isPerson rfl hG fun z => ?_
  refine ⟨rfl, ?_⟩
  refine ⟨0, 0, _, e_in hG d h p 0 (h.1 26 23 - 1), ⟨Nat.le_refl _, Nat.le_refl _⟩, ?_⟩
  rintro _ _ ⟨rfl, rfl⟩
  exact ⟨b2_and _, rfl, rfl⟩
/-- a fact and all that follows -/
def s_whole (w : Nat → Int32) (f : Nat) : Int32 := (1 <<< (nI f &&& 31)) ||| w (7 + f)
def s_hears (w : Nat → Int32) (o p : Nat) : Bool := bit (w (25 + o)) (nI p)
def s_worth (w : Nat → Int32) (set : Int32) : Nat → Int32
  | 0 => 0
  | n + 1 => s_worth w set n + (if bit set (nI n) then w (1 + n) else 0)
theorem e_whole {G : qm_G} (hG : G.2.2.2.2 = true) (d : Nat) (h : qm_H) {t f : Nat} (ht : h.1 26 22 = nI t) (hk : t < 2) (hf : f < 6) : qm_Ev G (d + 1) 0 0 qyX10_whole [.ref 26, .int (nI f)] h (fun r h' => r = some (.int (s_whole (tw h t) f)) ∧ h = h') := by
  refine qm_Ev.run (M := mX10_whole) okX10_whole rfl hG fun z => ?_
  have e : (7 : Int32) + nI f = nI (7 + f) := nI_add 7 f
  refine ⟨rfl, ?_⟩
  refine ⟨0, 0, _, (by rw [e]; exact e_of hG d h ht hk (by omega)), ⟨Nat.le_refl _, Nat.le_refl _⟩, ?_⟩
  rintro _ _ ⟨rfl, rfl⟩
  exact ⟨trivial, rfl, rfl⟩
theorem e_hears {G : qm_G} (hG : G.2.2.2.2 = true) (d : Nat) (h : qm_H) {t o p : Nat} (ht : h.1 26 22 = nI t) (hk : t < 2) (ho : o < 6) : qm_Ev G (d + 1) 0 0 qyX10_hears [.ref 26, .int (nI o), .int (nI p)] h (fun r h' => r = some (.int (b2 (s_hears (tw h t) o p))) ∧ h = h') := by
  refine qm_Ev.run (M := mX10_hears) okX10_hears rfl hG fun z => ?_
  have e : (25 : Int32) + nI o = nI (25 + o) := nI_add 25 o
  refine ⟨rfl, ?_⟩
  refine ⟨0, 0, _, (by rw [e]; exact e_of hG d h ht hk (by omega)), ⟨Nat.le_refl _, Nat.le_refl _⟩, ?_⟩
  rintro _ _ ⟨rfl, rfl⟩
  refine ⟨0, 0, _, e_has hG d h _ (nI p), ⟨Nat.le_refl _, Nat.le_refl _⟩, ?_⟩
  rintro _ _ ⟨rfl, rfl⟩
  exact ⟨b2_and _, rfl, rfl⟩
theorem e_worthOf {G : qm_G} (hG : G.2.2.2.2 = true) (d : Nat) (h : qm_H) {t : Nat} (ht : h.1 26 22 = nI t) (hk : t < 2) (set : Int32) : qm_Ev G (d + 1) 0 0 qyX10_worthOf [.ref 26, .int set] h (fun r h' => r = some (.int (s_worth (tw h t) set 6)) ∧ h = h') := by
  refine qm_Ev.by (M := mX10_worthOf) okX10_worthOf (Nat.le_of_ble_eq_true rfl) hG fun z hA => ?_
  have loop : ∀ n i : Nat, i + n = 6 → qm_PW G mX10_worthOf z 4 0 0 [vr 26, vi set, vi (s_worth (tw h t) set i), vi (nI i)] [] h := by
    intro n
    induction n with
    | zero =>
      intro i hi
      obtain rfl : i = 6 := hi
      refine qm_wp_ok hA [] 20 _ _ _ _ _ _ ?_
      exact ⟨fun _ => ⟨trivial, rfl, rfl⟩, fun q => absurd (by decide) q⟩
    | succ n ih =>
      intro i hi
      have key := ih (i + 1) (by omega)
      rw [s_worth, ← nI_1] at key
      refine qm_wp_ok hA [4] 30 _ _ _ _ _ _ ?_
      refine ⟨fun q => absurd q (nI_ge (by omega : i < 6) (by decide)), fun _ => ?_⟩
      refine ⟨0, 0, _, e_has hG d h set (nI i), ⟨Nat.le_refl _, Nat.le_refl _⟩, ?_⟩
      rintro _ _ ⟨rfl, rfl⟩
      refine b2_eq (fun hb => ?_) (fun hb => ?_)
      · have e : (1 : Int32) + nI i = nI (1 + i) := nI_add 1 i
        refine ⟨rfl, ?_⟩
        refine ⟨0, 0, _, (by rw [e]; exact e_of hG d h ht hk (by omega)), ⟨Nat.le_refl _, Nat.le_refl _⟩, ?_⟩
        rintro _ _ ⟨rfl, rfl⟩
        rw [if_pos hb] at key
        exact key
      · rw [if_neg (by rw [hb]; decide)] at key
        exact key
  refine qm_wp_ok hA [4] 20 _ _ _ _ _ _ ?_
  exact loop 6 0 rfl
end Ref1
end
section
/-! the reference: playing -/
/-- what a play is at: statements, cows, minds, hunches, lost by each, told of each; years, tellings, lost, guessed -/
abbrev PSt : Type := (Nat → Int32) × (Nat → Int32) × (Nat → Int32) × (Nat → Int32) × (Nat → Int32) × (Nat → Int32) × Int32 × Int32 × Int32 × Int32
def rps (h : qm_H) : PSt := (h.1 37, h.1 38, h.1 39, h.1 40, h.1 41, h.1 42, h.1 26 24, h.1 26 25, h.1 26 26, h.1 26 27)
/-- the play alone may differ -/
def fr (h h' : qm_H) : Prop := h'.2 = h.2 ∧ (∀ q, q ∉ [26, 37, 38, 39, 40, 41, 42] → h'.1 q = h.1 q) ∧ ∀ k, k ∉ [24, 25, 26, 27] → h'.1 26 k = h.1 26 k
theorem fr.rf {h : qm_H} : fr h h := ⟨rfl, fun _ _ => rfl, fun _ _ => rfl⟩
theorem fr.tr {h h1 h2 : qm_H} (a : fr h h1) (b : fr h1 h2) : fr h h2 := ⟨b.1.trans a.1, fun q hq => (b.2.1 q hq).trans (a.2.1 q hq), fun k hk => (b.2.2 k hk).trans (a.2.2 k hk)⟩
theorem fr.si {h h1 : qm_H} (a : fr h h1) {p k : Nat} {v : Int32} (hp : p ∈ [37, 38, 39, 40, 41, 42]) : fr h (qm_si h1 p k v) := by
  have h26 : p ≠ 26 := fun e => by rw [e] at hp; exact absurd hp (by decide)
  refine ⟨a.1, fun q hq => ?_, fun j hj => ?_⟩
  · have e : q ≠ p := fun e => hq (by rw [e]; exact List.mem_cons_of_mem _ hp)
    rw [si_ne _ _ _ e]
    exact a.2.1 q hq
  · rw [si_ne _ _ _ (Ne.symm h26)]
    exact a.2.2 j hj
theorem fr.s26 {h h1 : qm_H} (a : fr h h1) {k : Nat} {v : Int32} (hk : k ∈ [24, 25, 26, 27]) : fr h (qm_si h1 26 k v) := by
  refine ⟨a.1, fun q hq => ?_, fun j hj => ?_⟩
  · have e : q ≠ 26 := fun e => hq (by rw [e]; decide)
    rw [si_ne _ _ _ e]
    exact a.2.1 q hq
  · rw [si_row, up_n _ _ (fun e => hj (by rw [e]; exact hk))]
    exact a.2.2 j hj
theorem fr.row {h h' : qm_H} (a : fr h h') (t : Nat) : tw h' t = tw h t := by
  unfold tw
  rw [a.2.1 32 (by decide)]
def s_learns (ps : PSt) (p : Nat) (set : Int32) : PSt := (ps.1, ps.2.1, va_up ps.2.2.1 p (ps.2.2.1 p ||| set), va_up ps.2.2.2.1 p (ps.2.2.2.1 p &&& (va_up ps.2.2.1 p (ps.2.2.1 p ||| set) p ^^^ -1)), ps.2.2.2.2)
section Ref2
theorem e_learns {G : qm_G} (hG : G.2.2.2.2 = true) (d : Nat) (h : qm_H) {p : Nat} (hp : p < 6) (set : Int32) : qm_Ev G d 0 0 qyX10_learns [.ref 26, .int (nI p), .int set] h (fun r h' => r = none ∧ rps h' = s_learns (rps h) p set ∧ fr h h') := by
  refine qm_Ev.run (M := mX10_learns) okX10_learns rfl hG fun z => ?_
  have hin : vp_in (nI p) 6 := vp_in_nI hp (by decide)
  have e : (nI p).toNatClampNeg = p := nI_clamp (by omega)
  refine ⟨rfl, _, rfl, rfl, hin, rfl, hin, rfl, _, rfl, rfl, hin, rfl, _, rfl, rfl, hin, rfl, hin, rfl, rfl, ?_, ?_⟩
  · rw [e]; rfl
  · exact (fr.rf.si (by decide)).si (by decide)
def s_tellOn (w : Nat → Int32) (p f : Nat) (ps : PSt) : Nat → PSt
  | 0 => ps
  | o + 1 => if s_hears w o p then s_learns (s_tellOn w p f ps o) o (s_whole w f) else s_tellOn w p f ps o
def s_tells (w : Nat → Int32) (n p f : Nat) (ps : PSt) : Bool × PSt :=
  if ps.1 p = 0 then (false, ps) else if bit (ps.2.2.1 p) (nI f) then (true, s_tellOn w p f (va_up ps.1 p (ps.1 p - 1), ps.2.1, ps.2.2.1, ps.2.2.2.1, ps.2.2.2.2.1, va_up ps.2.2.2.2.2.1 f (ps.2.2.2.2.2.1 f + 1), ps.2.2.2.2.2.2.1, ps.2.2.2.2.2.2.2.1 + 1, ps.2.2.2.2.2.2.2.2) n) else (false, ps)
theorem e_tells {G : qm_G} (hG : G.2.2.2.2 = true) (d : Nat) (h : qm_H) {t n p f : Nat} (ht : h.1 26 22 = nI t) (hk : t < 2) (hn : h.1 26 23 = nI n) (hn6 : n ≤ 6) (hp : p < 6) (hf : f < 6) : qm_Ev G (d + 2) 0 0 qyX10_tells [.ref 26, .int (nI p), .int (nI f)] h (fun r h' => r = some (.int (b2 (s_tells (tw h t) n p f (rps h)).1)) ∧ rps h' = (s_tells (tw h t) n p f (rps h)).2 ∧ fr h h') := by
  refine qm_Ev.by (M := mX10_tells) okX10_tells (Nat.le_of_ble_eq_true rfl) hG fun z hA => ?_
  have hin : vp_in (nI p) 6 := vp_in_nI hp (by decide)
  have hif : vp_in (nI f) 6 := vp_in_nI hf (by decide)
  have ep : (nI p).toNatClampNeg = p := nI_clamp (by omega)
  have ef : (nI f).toNatClampNeg = f := nI_clamp (by omega)
  refine qm_wp_ok hA [38] 99 _ _ _ _ _ _ ?_
  refine ⟨rfl, _, rfl, rfl, hin, ?_⟩
  rw [ep]
  refine ⟨fun c => ?_, fun c => ?_⟩
  · refine ⟨rfl, ?_⟩
    have e0 : s_tells (tw h t) n p f (rps h) = (false, rps h) := if_pos c
    rw [e0]
    exact ⟨rfl, rfl, fr.rf⟩
  · refine ⟨rfl, _, rfl, rfl, hin, ?_⟩
    rw [ep]
    refine ⟨0, 0, _, e_has hG _ h (h.1 39 p) (nI f), ⟨Nat.le_refl _, Nat.le_refl _⟩, ?_⟩
    rintro _ _ ⟨rfl, rfl⟩
    refine b2_ne (fun hb => ?_) (fun hb => ?_)
    · refine ⟨rfl, _, rfl, rfl, hin, rfl, hin, rfl, rfl, trivial, rfl, _, rfl, rfl, hif, rfl, hif, ?_⟩
      rw [ep, ef]
      have e0 : s_tells (tw h t) n p f (rps h) = (true, _) := (if_neg c).trans (if_pos hb)
      generalize hps : (va_up (rps h).1 p ((rps h).1 p - 1), (rps h).2.1, (rps h).2.2.1, (rps h).2.2.2.1, (rps h).2.2.2.2.1, va_up (rps h).2.2.2.2.2.1 f ((rps h).2.2.2.2.2.1 f + 1), (rps h).2.2.2.2.2.2.1, (rps h).2.2.2.2.2.2.2.1 + 1, (rps h).2.2.2.2.2.2.2.2) = ps at *
      have loop : ∀ m o : Nat, o + m = n → ∀ h' : qm_H, rps h' = s_tellOn (tw h t) p f ps o → fr h h' → qm_PW G mX10_tells z 38 0 0 [vr 26, vi (nI p), vi (nI f), vi (nI o)] [] h' := by
        intro m
        induction m with
        | zero =>
          intro o ho h' e1 e2
          obtain rfl : o = n := ho
          refine qm_wp_ok hA [] 20 _ _ _ _ _ _ ?_
          exact ⟨rfl, fun _ => ⟨rfl, by rw [e0]; rfl, by rw [e0]; exact e1, e2⟩, fun (q : ¬ h'.1 26 23 ≤ nI o) => absurd (by rw [e2.2.2 23 (by decide), hn]; exact Int32.le_refl _) q⟩
        | succ m ih =>
          intro o ho h' e1 e2
          have e3 := e2.row t
          refine qm_wp_ok hA [38] 40 _ _ _ _ _ _ ?_
          refine ⟨rfl, fun (q : h'.1 26 23 ≤ nI o) => absurd q (by rw [e2.2.2 23 (by decide), hn]; exact nI_ge (by omega) (by omega)), fun _ => ?_⟩
          refine ⟨rfl, ?_⟩
          refine ⟨0, 0, _, e_hears hG d h' (t := t) (o := o) (p := p) (by rw [e2.2.2 22 (by decide), ht]) hk (by omega), ⟨Nat.le_refl _, Nat.le_refl _⟩, ?_⟩
          rintro _ _ ⟨rfl, rfl⟩
          refine b2_eq (fun hb2 => ?_) (fun hb2 => ?_)
          · refine ⟨rfl, ?_⟩
            refine ⟨0, 0, _, e_whole hG d h' (t := t) (f := f) (by rw [e2.2.2 22 (by decide), ht]) hk hf, ⟨Nat.le_refl _, Nat.le_refl _⟩, ?_⟩
            rintro _ _ ⟨rfl, rfl⟩
            refine ⟨rfl, ?_⟩
            refine ⟨0, 0, _, e_learns hG (d + 1) h' (p := o) (by omega) _, ⟨Nat.le_refl _, Nat.le_refl _⟩, ?_⟩
            rintro _ h2 ⟨rfl, e4, e5⟩
            have e6 : rps h2 = s_tellOn (tw h t) p f ps (o + 1) := by
              rw [e4, s_tellOn, if_pos (by rw [← e3]; exact hb2), e1, e3]
            have := ih (o + 1) (by omega) h2 e6 (e2.tr e5)
            rw [← nI_1] at this
            exact this
          · have e6 : rps h' = s_tellOn (tw h t) p f ps (o + 1) := by
              rw [s_tellOn, if_neg (by rw [← e3, hb2]; decide), e1]
            have := ih (o + 1) (by omega) h' e6 e2
            rw [← nI_1] at this
            exact this
      refine loop n 0 (Nat.zero_add n) _ ?_ ?_
      · rw [← hps]; rfl
      · exact ((fr.rf.si (by decide)).s26 (by decide)).si (by decide)
    · refine ⟨rfl, ?_⟩
      have e0 : s_tells (tw h t) n p f (rps h) = (false, rps h) := (if_neg c).trans (if_neg (by rw [show (rps h).2.2.1 p = h.1 39 p from rfl, hb]; decide))
      rw [e0]
      exact ⟨rfl, rfl, fr.rf⟩
end Ref2
end
section
/-! the reference: the other deeds -/
def s_gue (ps : PSt) : PSt := (ps.1, ps.2.1, ps.2.2.1, ps.2.2.2.1, ps.2.2.2.2.1, ps.2.2.2.2.2.1, ps.2.2.2.2.2.2.1, ps.2.2.2.2.2.2.2.1, ps.2.2.2.2.2.2.2.2.1, ps.2.2.2.2.2.2.2.2.2 + 1)
def s_hunch (ps : PSt) (o f : Nat) : PSt := (ps.1, ps.2.1, ps.2.2.1, va_up ps.2.2.2.1 o (ps.2.2.2.1 o ||| (1 <<< (nI f &&& 31))), ps.2.2.2.2)
def s_ask1 (w : Nat → Int32) (p f o : Nat) (ps : PSt) : PSt :=
  if s_hears w o p then (if bit (ps.2.2.1 o) (nI f) then ps else if bit (ps.2.2.2.1 o) (nI f) then s_gue (s_learns ps o (s_whole w f)) else s_hunch ps o f) else ps
def s_asks (w : Nat → Int32) (p f : Nat) (ps : PSt) : Nat → PSt
  | 0 => ps
  | o + 1 => s_ask1 w p f o (s_asks w p f ps o)
def s_sells (n : Nat) (p : Nat) (b c : Int32) (ps : PSt) : Bool × PSt :=
  if 0 ≤ b ∧ b ≤ nI n - 1 then (if ps.1 p = 0 then (false, ps) else if c ≤ ps.2.1 b.toNatClampNeg then
    (true, (va_up (va_up ps.1 p (ps.1 p - 1)) b.toNatClampNeg (va_up ps.1 p (ps.1 p - 1) b.toNatClampNeg + 1), va_up (va_up ps.2.1 b.toNatClampNeg (ps.2.1 b.toNatClampNeg - c)) p (mn 99 (va_up ps.2.1 b.toNatClampNeg (ps.2.1 b.toNatClampNeg - c) p + c)), ps.2.2)) else (false, ps)) else (false, ps)
def s_eve1 (p : Nat) (ps : PSt) : PSt := (va_up ps.1 p 1, ps.2.1, ps.2.2.1, va_up ps.2.2.2.1 p 0, va_up ps.2.2.2.2.1 p (ps.2.2.2.2.1 p + ps.1 p), ps.2.2.2.2.2.1, ps.2.2.2.2.2.2.1, ps.2.2.2.2.2.2.2.1, ps.2.2.2.2.2.2.2.2.1 + ps.1 p, ps.2.2.2.2.2.2.2.2.2)
def s_eveOn (ps : PSt) : Nat → PSt
  | 0 => ps
  | p + 1 => s_eve1 p (s_eveOn ps p)
def s_eve (n : Nat) (ps : PSt) : PSt := ((s_eveOn ps n).1, (s_eveOn ps n).2.1, (s_eveOn ps n).2.2.1, (s_eveOn ps n).2.2.2.1, (s_eveOn ps n).2.2.2.2.1, (s_eveOn ps n).2.2.2.2.2.1, (s_eveOn ps n).2.2.2.2.2.2.1 + 1, (s_eveOn ps n).2.2.2.2.2.2.2)
section Ref3
theorem e_asks {G : qm_G} (hG : G.2.2.2.2 = true) (d : Nat) (h : qm_H) {t n p f : Nat} (ht : h.1 26 22 = nI t) (hk : t < 2) (hn : h.1 26 23 = nI n) (hn6 : n ≤ 6) (hf : f < 6) : qm_Ev G (d + 2) 0 0 qyX10_asks [.ref 26, .int (nI p), .int (nI f)] h (fun r h' => r = none ∧ rps h' = s_asks (tw h t) p f (rps h) n ∧ fr h h') := by
  refine qm_Ev.by (M := mX10_asks) okX10_asks (Nat.le_of_ble_eq_true rfl) hG fun z hA => ?_
  have loop : ∀ m o : Nat, o + m = n → ∀ h' : qm_H, rps h' = s_asks (tw h t) p f (rps h) o → fr h h' → qm_PW G mX10_asks z 2 0 0 [vr 26, vi (nI p), vi (nI f), vi (nI o)] [] h' := by
    intro m
    induction m with
    | zero =>
      intro o ho h' e1 e2
      obtain rfl : o = n := ho
      refine qm_wp_ok hA [] 20 _ _ _ _ _ _ ?_
      exact ⟨rfl, fun _ => ⟨rfl, rfl, e1, e2⟩, fun (q : ¬ h'.1 26 23 ≤ nI o) => absurd (by rw [e2.2.2 23 (by decide), hn]; exact Int32.le_refl _) q⟩
    | succ m ih =>
      intro o ho h' e1 e2
      have e3 := e2.row t
      have hin : vp_in (nI o) 6 := vp_in_nI (by omega) (by decide)
      have eo : (nI o).toNatClampNeg = o := nI_clamp (by omega)
      have hstep : ∀ h2 : qm_H, rps h2 = s_ask1 (tw h' t) p f o (rps h') → fr h' h2 → qm_PW G mX10_asks z 2 0 0 [vr 26, vi (nI p), vi (nI f), vi (nI o + 1)] [] h2 := by
        intro h2 e4 e5
        have := ih (o + 1) (by omega) h2 (by rw [e4, s_asks, ← e1, e3]) (e2.tr e5)
        rw [← nI_1] at this
        exact this
      refine qm_wp_ok hA [2] 60 _ _ _ _ _ _ ?_
      refine ⟨rfl, fun (q : h'.1 26 23 ≤ nI o) => absurd q (by rw [e2.2.2 23 (by decide), hn]; exact nI_ge (by omega) (by omega)), fun _ => ?_⟩
      refine ⟨rfl, ?_⟩
      refine ⟨0, 0, _, e_hears hG d h' (t := t) (o := o) (p := p) (by rw [e2.2.2 22 (by decide), ht]) hk (by omega), ⟨Nat.le_refl _, Nat.le_refl _⟩, ?_⟩
      rintro _ _ ⟨rfl, rfl⟩
      refine b2_eq (fun hb => ?_) (fun hb => ?_)
      · refine ⟨rfl, _, rfl, rfl, hin, ?_⟩
        rw [eo]
        refine ⟨0, 0, _, e_has hG _ h' (h'.1 39 o) (nI f), ⟨Nat.le_refl _, Nat.le_refl _⟩, ?_⟩
        rintro _ _ ⟨rfl, rfl⟩
        refine b2_ne (fun hb2 => ?_) (fun hb2 => ?_)
        · exact hstep h' ((if_pos hb).trans (if_pos hb2)).symm fr.rf
        · refine ⟨rfl, _, rfl, rfl, hin, ?_⟩
          rw [eo]
          refine ⟨0, 0, _, e_has hG _ h' (h'.1 40 o) (nI f), ⟨Nat.le_refl _, Nat.le_refl _⟩, ?_⟩
          rintro _ _ ⟨rfl, rfl⟩
          have n2 : ¬ bit ((rps h').2.2.1 o) (nI f) = true := by rw [show (rps h').2.2.1 o = h'.1 39 o from rfl, hb2]; decide
          refine b2_eq (fun hb3 => ?_) (fun hb3 => ?_)
          · refine ⟨rfl, ?_⟩
            refine ⟨0, 0, _, e_whole hG d h' (t := t) (f := f) (by rw [e2.2.2 22 (by decide), ht]) hk hf, ⟨Nat.le_refl _, Nat.le_refl _⟩, ?_⟩
            rintro _ _ ⟨rfl, rfl⟩
            refine ⟨rfl, ?_⟩
            refine ⟨0, 0, _, e_learns hG (d + 1) h' (p := o) (by omega) _, ⟨Nat.le_refl _, Nat.le_refl _⟩, ?_⟩
            rintro _ h2 ⟨rfl, e4, e5⟩
            refine ⟨rfl, rfl, trivial, ?_⟩
            refine hstep _ ?_ (e5.s26 (by decide))
            rw [s_ask1, if_pos hb, if_neg n2, if_pos (show bit ((rps h').2.2.2.1 o) (nI f) = true from hb3), ← e4]
            rfl
          · refine ⟨rfl, _, rfl, rfl, hin, rfl, hin, ?_⟩
            rw [eo]
            refine hstep _ ?_ (fr.rf.si (by decide))
            have n3 : ¬ bit ((rps h').2.2.2.1 o) (nI f) = true := by rw [show (rps h').2.2.2.1 o = h'.1 40 o from rfl, hb3]; decide
            rw [s_ask1, if_pos hb, if_neg n2, if_neg n3]
            rfl
      · exact hstep h' (if_neg (by rw [hb]; decide)).symm fr.rf
  refine qm_wp_ok hA [2] 20 _ _ _ _ _ _ ?_
  exact loop n 0 (Nat.zero_add n) h rfl fr.rf
theorem e_sells {G : qm_G} (hG : G.2.2.2.2 = true) (d : Nat) (h : qm_H) {n p : Nat} (hn : h.1 26 23 = nI n) (hn6 : n ≤ 6) (hp : p < 6) (b c : Int32) : qm_Ev G (d + 2) 0 0 qyX10_sells [.ref 26, .int (nI p), .int b, .int c] h (fun r h' => r = some (.int (b2 (s_sells n p b c (rps h)).1)) ∧ rps h' = (s_sells n p b c (rps h)).2 ∧ fr h h') := by
  refine qm_Ev.run (M := mX10_sells) okX10_sells rfl hG fun z => ?_
  have hin : vp_in (nI p) 6 := vp_in_nI hp (by decide)
  have ep : (nI p).toNatClampNeg = p := nI_clamp (by omega)
  refine ⟨rfl, ?_⟩
  refine ⟨0, 0, _, e_isPerson hG d h b, ⟨Nat.le_refl _, Nat.le_refl _⟩, ?_⟩
  rintro _ _ ⟨rfl, rfl⟩
  rw [hn]
  refine b2_eq (fun hb => ?_) (fun hb => ?_)
  · have hb1 := of_decide_eq_true hb
    obtain ⟨o, ho, rfl⟩ := in_of hb1.1 hb1.2 (by omega)
    have hio : vp_in (nI o) 6 := vp_in_nI (by omega) (by decide)
    have eo : (nI o).toNatClampNeg = o := nI_clamp (by omega)
    refine ⟨rfl, _, rfl, rfl, hin, ?_⟩
    rw [ep]
    refine ⟨fun c1 => ?_, fun c1 => ?_⟩
    · have e0 : s_sells n p (nI o) c (rps h) = (false, rps h) := (if_pos hb1).trans (if_pos c1)
      rw [e0]
      exact ⟨rfl, rfl, rfl, fr.rf⟩
    · refine ⟨rfl, _, rfl, rfl, hio, ?_⟩
      rw [eo]
      refine ⟨fun c2 => ?_, fun c2 => ?_⟩
      · have e0 : s_sells n p (nI o) c (rps h) = (true, _) := (if_pos hb1).trans ((if_neg c1).trans (if_pos (by rw [eo]; exact c2)))
        rw [e0, eo]
        refine ⟨rfl, _, rfl, rfl, hin, rfl, hin, rfl, _, rfl, rfl, hio, rfl, hio, rfl, _, rfl, rfl, hio, rfl, hio, rfl, _, rfl, rfl, _, rfl, rfl, hin, ?_⟩
        rw [ep, eo]
        refine ⟨0, 0, _, e_lesser hG _ _ 99 _, ⟨Nat.le_refl _, Nat.le_refl _⟩, ?_⟩
        rintro _ _ ⟨rfl, rfl⟩
        refine ⟨rfl, hin, rfl, rfl, ?_, ?_⟩
        · rw [ep]; rfl
        · exact (((fr.rf.si (by decide)).si (by decide)).si (by decide)).si (by decide)
      · have e0 : s_sells n p (nI o) c (rps h) = (false, rps h) := (if_pos hb1).trans ((if_neg c1).trans (if_neg (by rw [eo]; exact c2)))
        rw [e0]
        exact ⟨rfl, rfl, rfl, fr.rf⟩
  · have e0 : s_sells n p b c (rps h) = (false, rps h) := if_neg (of_decide_eq_false hb)
    rw [e0]
    exact ⟨rfl, rfl, rfl, fr.rf⟩
theorem e_eve {G : qm_G} (hG : G.2.2.2.2 = true) (d : Nat) (h : qm_H) {n : Nat} (hn : h.1 26 23 = nI n) (hn6 : n ≤ 6) : qm_Ev G d 0 0 qyX10_eve [.ref 26] h (fun r h' => r = none ∧ rps h' = s_eve n (rps h) ∧ fr h h') := by
  refine qm_Ev.by (M := mX10_eve) okX10_eve (Nat.le_of_ble_eq_true rfl) hG fun z hA => ?_
  have loop : ∀ m o : Nat, o + m = n → ∀ h' : qm_H, rps h' = s_eveOn (rps h) o → fr h h' → qm_PW G mX10_eve z 2 0 0 [vr 26, vi (nI o)] [] h' := by
    intro m
    induction m with
    | zero =>
      intro o ho h' e1 e2
      obtain rfl : o = n := ho
      refine qm_wp_ok hA [] 20 _ _ _ _ _ _ ?_
      refine ⟨rfl, fun _ => ⟨rfl, rfl, trivial, rfl, rfl, ?_, e2.s26 (by decide)⟩, fun (q : ¬ h'.1 26 23 ≤ nI o) => absurd (by rw [e2.2.2 23 (by decide), hn]; exact Int32.le_refl _) q⟩
      rw [s_eve, ← e1]
      rfl
    | succ m ih =>
      intro o ho h' e1 e2
      have hin : vp_in (nI o) 6 := vp_in_nI (by omega) (by decide)
      have eo : (nI o).toNatClampNeg = o := nI_clamp (by omega)
      refine qm_wp_ok hA [2] 60 _ _ _ _ _ _ ?_
      refine ⟨rfl, fun (q : h'.1 26 23 ≤ nI o) => absurd q (by rw [e2.2.2 23 (by decide), hn]; exact nI_ge (by omega) (by omega)), fun _ => ?_⟩
      refine ⟨rfl, rfl, _, rfl, rfl, hin, rfl, trivial, rfl, _, rfl, rfl, hin, rfl, _, rfl, rfl, hin, rfl, hin, rfl, _, rfl, rfl, hin, rfl, _, rfl, rfl, hin, ?_⟩
      rw [eo]
      have := ih (o + 1) (by omega) (qm_si (qm_si (qm_si (qm_si h' 26 26 (h'.1 26 26 + h'.1 37 o)) 41 o (h'.1 41 o + h'.1 37 o)) 37 o 1) 40 o 0) (by rw [s_eveOn, ← e1]; rfl) ((((e2.s26 (by decide)).si (by decide)).si (by decide)).si (by decide))
      rw [← nI_1] at this
      exact this
  refine qm_wp_ok hA [2] 20 _ _ _ _ _ _ ?_
  exact loop n 0 (Nat.zero_add n) h rfl fr.rf
end Ref3
end
section
/-! the reference: a town in hand, a year played -/
def s_hand1 (w : Nat → Int32) (i : Nat) (ps : PSt) : PSt := (va_up ps.1 i 1, va_up ps.2.1 i (w (13 + i)), va_up ps.2.2.1 i (w (19 + i)), va_up ps.2.2.2.1 i 0, va_up ps.2.2.2.2.1 i 0, va_up ps.2.2.2.2.2.1 i 0, ps.2.2.2.2.2.2)
def s_handOn (w : Nat → Int32) (ps : PSt) : Nat → PSt
  | 0 => ps
  | i + 1 => s_hand1 w i (s_handOn w ps i)
def s_zero (ps : PSt) : PSt := (ps.1, ps.2.1, ps.2.2.1, ps.2.2.2.1, ps.2.2.2.2.1, ps.2.2.2.2.2.1, 0, 0, 0, 0)
def s_hand (w : Nat → Int32) (ps : PSt) : PSt := s_handOn w (s_zero ps) 6
/-- a town is in hand -/
def HD (h h' : qm_H) (t : Nat) : Prop := rps h' = s_hand (tw h t) (rps h) ∧ h'.1 26 22 = nI t ∧ h'.1 26 23 = tw h t 0 ∧ h'.2 = h.2 ∧ (∀ q, q ∉ [26, 37, 38, 39, 40, 41, 42] → h'.1 q = h.1 q) ∧ ∀ k, k ∉ [22, 23, 24, 25, 26, 27] → h'.1 26 k = h.1 26 k
section Ref4
theorem e_hand {G : qm_G} (hG : G.2.2.2.2 = true) (d : Nat) (h : qm_H) {mt : Nat} (hm : h.1 31 0 = nI mt) (hm2 : mt ≤ 2) (k : Int32) : qm_Ev G (d + 2) 0 0 qyX10_hand [.ref 26, .int k] h (fun r h' => (∃ t, t < mt ∧ k = nI t ∧ r = some (.int 1) ∧ HD h h' t) ∨ (¬ (0 ≤ k ∧ k ≤ nI mt - 1) ∧ r = some (.int 0) ∧ h = h')) := by
  refine qm_Ev.by (M := mX10_hand) okX10_hand (Nat.le_of_ble_eq_true rfl) hG fun z hA => ?_
  refine qm_wp_ok hA [29] 60 _ _ _ _ _ _ ?_
  refine ⟨rfl, ?_⟩
  refine ⟨0, 0, _, e_is hG d h (s := 0) (by decide) k, ⟨Nat.le_refl _, Nat.le_refl _⟩, ?_⟩
  rintro _ _ ⟨rfl, rfl⟩
  rw [hm]
  refine b2_ne (fun hb => ?_) (fun hb => ?_)
  · have hb1 := of_decide_eq_true hb
    obtain ⟨t, ht, rfl⟩ := in_of hb1.1 hb1.2 (by omega)
    refine ⟨rfl, trivial, rfl, ?_⟩
    refine ⟨0, 0, _, e_of hG (d + 1) (qm_si h 26 22 (nI t)) (t := t) (j := 0) rfl (by omega) (by decide), ⟨Nat.le_refl _, Nat.le_refl _⟩, ?_⟩
    rintro _ _ ⟨rfl, rfl⟩
    refine ⟨rfl, trivial, rfl, trivial, rfl, trivial, rfl, trivial, rfl, trivial, ?_⟩
    obtain ⟨h1, hh1⟩ : ∃ x, x = qm_si (qm_si (qm_si (qm_si (qm_si (qm_si h 26 22 (nI t)) 26 23 (tw (qm_si h 26 22 (nI t)) t 0)) 26 24 0) 26 25 0) 26 26 0) 26 27 0 := ⟨_, rfl⟩
    have a1 : rps h1 = s_zero (rps h) := by rw [hh1]; rfl
    have a2 : h1.1 26 22 = nI t := by rw [hh1]; rfl
    have a3 : h1.1 26 23 = tw h t 0 := by rw [hh1]; rfl
    have a4 : h1.1 32 = h.1 32 := by rw [hh1]; rfl
    have a5 : h1.2 = h.2 := by rw [hh1]; rfl
    have a6 : ∀ q, q ≠ 26 → h1.1 q = h.1 q := by
      intro q hq
      rw [hh1]
      simp only [si_ne _ _ _ hq]
    have a7 : ∀ k, k ∉ [22, 23, 24, 25, 26, 27] → h1.1 26 k = h.1 26 k := by
      intro k hk
      simp only [List.mem_cons, List.not_mem_nil, or_false, not_or] at hk
      obtain ⟨k1, k2, k3, k4, k5, k6⟩ := hk
      rw [hh1]
      simp only [si_row, up_n _ _ k1, up_n _ _ k2, up_n _ _ k3, up_n _ _ k4, up_n _ _ k5, up_n _ _ k6]
    have loop : ∀ m i : Nat, i + m = 6 → ∀ h' : qm_H, rps h' = s_handOn (tw h t) (s_zero (rps h)) i → fr h1 h' → qm_PW G mX10_hand z 29 0 0 [vr 26, vi (nI t), vi (nI i)] [] h' := by
      intro m
      induction m with
      | zero =>
        intro i hi h' e1 e2
        obtain rfl : i = 6 := hi
        refine qm_wp_ok hA [] 20 _ _ _ _ _ _ ?_
        refine ⟨fun _ => ⟨rfl, Or.inl ⟨t, ht, rfl, rfl, e1, (e2.2.2 22 (by decide)).trans a2, (e2.2.2 23 (by decide)).trans a3, e2.1.trans a5, fun q hq => ?_, fun k hk => ?_⟩⟩, fun q => absurd (by decide) q⟩
        · rw [e2.2.1 q hq]
          exact a6 q (fun e => hq (by rw [e]; decide))
        · rw [e2.2.2 k (fun e => hk (by revert e; simp only [List.mem_cons, List.not_mem_nil, or_false]; omega))]
          exact a7 k hk
      | succ m ih =>
        intro i hi h' e1 e2
        have hin : vp_in (nI i) 6 := vp_in_nI (by omega) (by decide)
        have ei : (nI i).toNatClampNeg = i := nI_clamp (by omega)
        have e13 : (13 : Int32) + nI i = nI (13 + i) := nI_add 13 i
        have e19 : (19 : Int32) + nI i = nI (19 + i) := nI_add 19 i
        have hw : ∀ x y v1 v2, tw (qm_si (qm_si h' 37 x v1) 38 y v2) t = tw h t := by
          intro x y v1 v2
          have : (qm_si (qm_si h' 37 x v1) 38 y v2).1 32 = h.1 32 := (e2.2.1 32 (by decide)).trans a4
          unfold tw
          rw [this]
        have hw1 : ∀ x v1, tw (qm_si h' 37 x v1) t = tw h t := by
          intro x v1
          have : (qm_si h' 37 x v1).1 32 = h.1 32 := (e2.2.1 32 (by decide)).trans a4
          unfold tw
          rw [this]
        have b2' : h'.1 26 22 = nI t := (e2.2.2 22 (by decide)).trans a2
        refine qm_wp_ok hA [29] 80 _ _ _ _ _ _ ?_
        refine ⟨fun q => absurd q (nI_ge (by omega : i < 6) (by decide)), fun _ => ?_⟩
        refine ⟨rfl, _, rfl, rfl, hin, rfl, _, rfl, rfl, ?_⟩
        rw [ei]
        refine ⟨0, 0, _, (by rw [e13]; exact e_of hG (d + 1) _ (t := t) b2' (by omega) (by omega)), ⟨Nat.le_refl _, Nat.le_refl _⟩, ?_⟩
        rintro _ _ ⟨rfl, rfl⟩
        refine ⟨rfl, hin, rfl, _, rfl, rfl, ?_⟩
        rw [ei]
        refine ⟨0, 0, _, (by rw [e19]; exact e_of hG (d + 1) _ (t := t) b2' (by omega) (by omega)), ⟨Nat.le_refl _, Nat.le_refl _⟩, ?_⟩
        rintro _ _ ⟨rfl, rfl⟩
        refine ⟨rfl, hin, rfl, _, rfl, rfl, hin, rfl, _, rfl, rfl, hin, rfl, _, rfl, rfl, hin, ?_⟩
        rw [ei, hw, hw1]
        have := ih (i + 1) (by omega) (qm_si (qm_si (qm_si (qm_si (qm_si (qm_si h' 37 i 1) 38 i (tw h t (13 + i))) 39 i (tw h t (19 + i))) 40 i 0) 41 i 0) 42 i 0) (by rw [s_handOn, ← e1]; rfl) ((((((e2.si (by decide)).si (by decide)).si (by decide)).si (by decide)).si (by decide)).si (by decide))
        rw [← nI_1] at this
        exact this
    have k := loop 6 0 rfl h1 a1 fr.rf
    rw [hh1] at k
    exact k
  · exact ⟨rfl, Or.inr ⟨of_decide_eq_false hb, rfl, rfl⟩⟩
/-- the row of a year -/
def yw (h : qm_H) (y : Nat) : Nat → Int32 := fun j => h.1 33 (161 * y + j)
theorem e_deeds {G : qm_G} (hG : G.2.2.2.2 = true) (d : Nat) (h : qm_H) {y : Nat} (hy : h.1 26 34 = nI y) (hk : y < 2) : qm_Ev G d 0 0 qyX10_deeds [.ref 26] h (fun r h' => r = some (.int (yw h y 0)) ∧ h = h') := by
  refine qm_Ev.run (M := mX10_deeds) okX10_deeds rfl hG fun z => ?_
  have e : (161 : Int32) * h.1 26 34 = nI (161 * y) := by rw [hy, ← pk_mul]; rfl
  refine ⟨rfl, _, rfl, rfl, rfl, ?_, trivial, ?_, rfl⟩
  · show vp_in ((161 : Int32) * h.1 26 34) 1288
    rw [e]; exact vp_in_nI (by omega) (by decide)
  · show some (Value.int (h.1 33 ((161 : Int32) * h.1 26 34).toNatClampNeg)) = _
    rw [e, nI_clamp (by omega)]
    rfl
theorem e_deedOf {G : qm_G} (hG : G.2.2.2.2 = true) (d : Nat) (h : qm_H) {y k j : Nat} (hy : h.1 26 34 = nI y) (hk : y < 2) (hkk : k < 40) (hj : j < 4) : qm_Ev G d 0 0 qyX10_deedOf [.ref 26, .int (nI k), .int (nI j)] h (fun r h' => r = some (.int (yw h y (1 + 4 * k + j))) ∧ h = h') := by
  refine qm_Ev.run (M := mX10_deedOf) okX10_deedOf rfl hG fun z => ?_
  have e : (161 : Int32) * h.1 26 34 + 1 + 4 * nI k + nI j = nI (161 * y + (1 + 4 * k + j)) := by
    rw [hy, show (161 : Int32) = nI 161 from rfl, show (4 : Int32) = nI 4 from rfl, show (1 : Int32) = nI 1 from rfl, pk_mul, pk_mul, nI_add, nI_add, nI_add]
    congr 1
    omega
  refine ⟨rfl, _, rfl, rfl, rfl, ?_, trivial, ?_, rfl⟩
  · show vp_in ((161 : Int32) * h.1 26 34 + 1 + 4 * nI k + nI j) 1288
    rw [e]; exact vp_in_nI (by omega) (by decide)
  · show some (Value.int (h.1 33 ((161 : Int32) * h.1 26 34 + 1 + 4 * nI k + nI j).toNatClampNeg)) = _
    rw [e, nI_clamp (by omega)]
    rfl
theorem e_hasYear {G : qm_G} (hG : G.2.2.2.2 = true) (d : Nat) (h : qm_H) (k : Int32) : qm_Ev G (d + 2) 0 0 qyX10_hasYear [.ref 26, .int k] h (fun r h' => r = some (.int (b2 (decide (0 ≤ k ∧ k ≤ h.1 31 1 - 1)))) ∧ h' = qm_si h 26 34 k) := by
  refine qm_Ev.run (M := mX10_hasYear) okX10_hasYear rfl hG fun z => ?_
  refine ⟨rfl, trivial, rfl, ?_⟩
  refine ⟨0, 0, _, e_is hG d (qm_si h 26 34 k) (s := 1) (by decide) k, ⟨Nat.le_refl _, Nat.le_refl _⟩, ?_⟩
  rintro _ _ ⟨rfl, rfl⟩
  exact ⟨b2_and _, rfl, rfl⟩
/-- a deed -/
def s_does (w : Nat → Int32) (n : Nat) (wh : Nat) (a b c : Int32) (ps : PSt) : Bool × PSt :=
  if wh = 4 then (true, s_eve n ps) else if 0 ≤ a ∧ a ≤ nI n - 1 then
    (if wh = 0 then s_tells w n a.toNatClampNeg b.toNatClampNeg ps else if wh = 1 then (true, s_asks w a.toNatClampNeg b.toNatClampNeg ps n) else if wh = 2 then (true, s_learns ps a.toNatClampNeg (s_whole w b.toNatClampNeg)) else s_sells n a.toNatClampNeg b c ps) else (false, ps)
theorem e_does {G : qm_G} (hG : G.2.2.2.2 = true) (d : Nat) (h : qm_H) {t n wh : Nat} (ht : h.1 26 22 = nI t) (hk : t < 2) (hn : h.1 26 23 = nI n) (hn6 : n ≤ 6) (hw : wh < 5) (a b c : Int32) (hb : wh < 3 → ∃ f, f < 6 ∧ b = nI f) : qm_Ev G (d + 3) 0 0 qyX10_does [.ref 26, .int (nI wh), .int a, .int b, .int c] h (fun r h' => r = some (.int (b2 (s_does (tw h t) n wh a b c (rps h)).1)) ∧ rps h' = (s_does (tw h t) n wh a b c (rps h)).2 ∧ fr h h') := by
  refine qm_Ev.run (M := mX10_does) okX10_does rfl hG fun z => ?_
  by_cases h4 : wh = 4
  · subst h4
    have e0 : s_does (tw h t) n 4 a b c (rps h) = (true, s_eve n (rps h)) := if_pos rfl
    rw [e0]
    refine ⟨fun q => absurd rfl q, fun _ => ?_⟩
    refine ⟨rfl, ?_⟩
    refine ⟨0, 0, _, e_eve hG _ h hn hn6, ⟨Nat.le_refl _, Nat.le_refl _⟩, ?_⟩
    rintro _ h2 ⟨rfl, e1, e2⟩
    exact ⟨rfl, rfl, e1, e2⟩
  · have hne : ¬ nI wh = 4 := fun q => h4 ((nI_eq (by omega) (by decide)).mp (q : nI wh = nI 4))
    refine ⟨fun _ => ?_, fun q => absurd q hne⟩
    refine ⟨rfl, ?_⟩
    refine ⟨0, 0, _, e_isPerson hG _ h a, ⟨Nat.le_refl _, Nat.le_refl _⟩, ?_⟩
    rintro _ _ ⟨rfl, rfl⟩
    rw [hn]
    refine b2_ne (fun hp => ?_) (fun hp => ?_)
    · have hp1 := of_decide_eq_true hp
      obtain ⟨p, hpn, rfl⟩ := in_of hp1.1 hp1.2 (by omega)
      have ep : (nI p).toNatClampNeg = p := nI_clamp (by omega)
      have e00 : ∀ X, s_does (tw h t) n wh (nI p) b c (rps h) = X ↔ (if wh = 0 then s_tells (tw h t) n p b.toNatClampNeg (rps h) else if wh = 1 then (true, s_asks (tw h t) p b.toNatClampNeg (rps h) n) else if wh = 2 then (true, s_learns (rps h) p (s_whole (tw h t) b.toNatClampNeg)) else s_sells n p b c (rps h)) = X := by
        intro X
        rw [s_does, if_neg h4, if_pos hp1, ep]
      refine ⟨⟨fun q => ?_, fun q => ?_, fun q => ?_, trivial⟩, fun q => ?_⟩
      · have h0 : wh = 0 := (nI_eq (by omega) (by decide)).mp (q : nI wh = nI 0)
        obtain ⟨f, hf, rfl⟩ := hb (by omega)
        rw [(e00 _).mpr (if_pos h0), nI_clamp (by omega)]
        refine ⟨rfl, ?_⟩
        refine ⟨0, 0, _, e_tells hG d h ht hk hn hn6 (by omega) hf, ⟨Nat.le_refl _, Nat.le_refl _⟩, ?_⟩
        rintro _ h2 ⟨rfl, e1, e2⟩
        exact ⟨b2_and _, rfl, e1, e2⟩
      · have h0 : wh = 1 := (nI_eq (by omega) (by decide)).mp (q : nI wh = nI 1)
        obtain ⟨f, hf, rfl⟩ := hb (by omega)
        rw [(e00 _).mpr ((if_neg (by omega)).trans (if_pos h0)), nI_clamp (by omega)]
        refine ⟨rfl, ?_⟩
        refine ⟨0, 0, _, e_asks hG d h ht hk hn hn6 hf, ⟨Nat.le_refl _, Nat.le_refl _⟩, ?_⟩
        rintro _ h2 ⟨rfl, e1, e2⟩
        exact ⟨rfl, rfl, e1, e2⟩
      · have h0 : wh = 2 := (nI_eq (by omega) (by decide)).mp (q : nI wh = nI 2)
        obtain ⟨f, hf, rfl⟩ := hb (by omega)
        rw [(e00 _).mpr ((if_neg (by omega)).trans ((if_neg (by omega)).trans (if_pos h0))), nI_clamp (by omega)]
        refine ⟨rfl, ?_⟩
        refine ⟨0, 0, _, e_whole hG (d + 1) h ht hk hf, ⟨Nat.le_refl _, Nat.le_refl _⟩, ?_⟩
        rintro _ _ ⟨rfl, rfl⟩
        refine ⟨rfl, ?_⟩
        refine ⟨0, 0, _, e_learns hG (d + 2) h (p := p) (by omega) _, ⟨Nat.le_refl _, Nat.le_refl _⟩, ?_⟩
        rintro _ h2 ⟨rfl, e1, e2⟩
        exact ⟨rfl, rfl, e1, e2⟩
      · have h3 : wh = 3 := by
          have e1 : (nI wh).toInt = wh := nI_toInt (by omega)
          rw [e1] at q
          simp only [List.length_cons, List.length_nil, List.drop] at q
          omega
        rw [(e00 _).mpr ((if_neg (by omega)).trans ((if_neg (by omega)).trans (if_neg (by omega))))]
        refine ⟨rfl, ?_⟩
        refine ⟨0, 0, _, e_sells hG d h hn hn6 (by omega) b c, ⟨Nat.le_refl _, Nat.le_refl _⟩, ?_⟩
        rintro _ h2 ⟨rfl, e1, e2⟩
        exact ⟨b2_and _, rfl, e1, e2⟩
    · have e0 : s_does (tw h t) n wh a b c (rps h) = (false, rps h) := (if_neg h4).trans (if_neg (of_decide_eq_false hp))
      rw [e0]
      exact ⟨rfl, rfl, rfl, fr.rf⟩
end Ref4
end
section
/-! the reference: a year's deeds, and the calls till, state, deed -/
/-- a loop that counts up to N -/
theorem qm_for {P : Nat → Prop} {N : Nat} (hz : P N) (hs : ∀ i, i < N → P (i + 1) → P i) : P 0 := by
  have : ∀ m i, i + m = N → P i := by
    intro m
    induction m with
    | zero => intro i hi; rw [show i = N from hi]; exact hz
    | succ m ih => intro i hi; exact hs i (by omega) (ih (i + 1) (by omega))
  exact this N 0 (Nat.zero_add N)
/-- rows of years and logs as texts make them -/
def VY (w : Nat → Int32) (m : Nat) : Prop := m ≤ 40 ∧ w 0 = nI m ∧ ∀ k, k < m → ∃ wh, wh < 5 ∧ w (1 + 4 * k) = nI wh ∧ (wh < 3 → ∃ f, f < 6 ∧ w (1 + 4 * k + 2) = nI f)
/-- one deed of a year -/
def s_deed (w : Nat → Int32) (n : Nat) (yr : Nat → Int32) (k : Nat) (ps : PSt) : Bool × PSt := s_does w n (yr (1 + 4 * k)).toNatClampNeg (yr (1 + 4 * k + 1)) (yr (1 + 4 * k + 2)) (yr (1 + 4 * k + 3)) ps
def s_play (w : Nat → Int32) (n : Nat) (yr : Nat → Int32) : Nat → Nat → PSt → Nat × PSt
  | 0, k, ps => (k, ps)
  | r + 1, k, ps => if (s_deed w n yr k ps).1 then s_play w n yr r (k + 1) (s_deed w n yr k ps).2 else (k, (s_deed w n yr k ps).2)
theorem fr.yr {h h' : qm_H} (a : fr h h') (y : Nat) : yw h' y = yw h y := by
  unfold yw
  rw [a.2.1 33 (by decide)]
section Ref5
theorem e_doesDeed {G : qm_G} (hG : G.2.2.2.2 = true) (d : Nat) (h : qm_H) {t n y m k : Nat} (ht : h.1 26 22 = nI t) (hk : t < 2) (hn : h.1 26 23 = nI n) (hn6 : n ≤ 6) (hy : h.1 26 34 = nI y) (hy2 : y < 2) (hV : VY (yw h y) m) (hkm : k < m) : qm_Ev G (d + 4) 0 0 qyX10_doesDeed [.ref 26, .int (nI k)] h (fun r h' => r = some (.int (b2 (s_deed (tw h t) n (yw h y) k (rps h)).1)) ∧ rps h' = (s_deed (tw h t) n (yw h y) k (rps h)).2 ∧ fr h h') := by
  refine qm_Ev.run (M := mX10_doesDeed) okX10_doesDeed rfl hG fun z => ?_
  have hk40 : k < 40 := by have := hV.1; omega
  obtain ⟨wh, hw5, hwe, hwf⟩ := hV.2.2 k hkm
  refine ⟨rfl, ?_⟩
  refine ⟨0, 0, _, e_deedOf hG _ h (j := 0) hy hy2 hk40 (by decide), ⟨Nat.le_refl _, Nat.le_refl _⟩, ?_⟩
  rintro _ _ ⟨rfl, rfl⟩
  refine ⟨rfl, ?_⟩
  refine ⟨0, 0, _, e_deedOf hG _ h (j := 1) hy hy2 hk40 (by decide), ⟨Nat.le_refl _, Nat.le_refl _⟩, ?_⟩
  rintro _ _ ⟨rfl, rfl⟩
  refine ⟨rfl, ?_⟩
  refine ⟨0, 0, _, e_deedOf hG _ h (j := 2) hy hy2 hk40 (by decide), ⟨Nat.le_refl _, Nat.le_refl _⟩, ?_⟩
  rintro _ _ ⟨rfl, rfl⟩
  refine ⟨rfl, ?_⟩
  refine ⟨0, 0, _, e_deedOf hG _ h (j := 3) hy hy2 hk40 (by decide), ⟨Nat.le_refl _, Nat.le_refl _⟩, ?_⟩
  rintro _ _ ⟨rfl, rfl⟩
  refine ⟨rfl, ?_⟩
  have e0 : yw h y (1 + 4 * k + 0) = nI wh := hwe
  rw [e0]
  refine ⟨0, 0, _, e_does hG d h ht hk hn hn6 hw5 (yw h y (1 + 4 * k + 1)) (yw h y (1 + 4 * k + 2)) (yw h y (1 + 4 * k + 3)) hwf, ⟨Nat.le_refl _, Nat.le_refl _⟩, ?_⟩
  rintro _ h2 ⟨rfl, e1, e2⟩
  have e3 : s_deed (tw h t) n (yw h y) k (rps h) = s_does (tw h t) n wh (yw h y (1 + 4 * k + 1)) (yw h y (1 + 4 * k + 2)) (yw h y (1 + 4 * k + 3)) (rps h) := by
    unfold s_deed
    rw [hwe, nI_clamp (by omega)]
  rw [e3]
  exact ⟨b2_and _, rfl, e1, e2⟩
theorem e_play {G : qm_G} (hG : G.2.2.2.2 = true) (d : Nat) (h : qm_H) {t n y m lim : Nat} (ht : h.1 26 22 = nI t) (hk : t < 2) (hn : h.1 26 23 = nI n) (hn6 : n ≤ 6) (hy : h.1 26 34 = nI y) (hy2 : y < 2) (hV : VY (yw h y) m) (hl : lim ≤ m) : qm_Ev G (d + 5) 0 0 qyX10_play [.ref 26, .int (nI lim)] h (fun r h' => r = some (.int (nI (s_play (tw h t) n (yw h y) lim 0 (rps h)).1)) ∧ rps h' = (s_play (tw h t) n (yw h y) lim 0 (rps h)).2 ∧ fr h h') := by
  refine qm_Ev.by (M := mX10_play) okX10_play (Nat.le_of_ble_eq_true rfl) hG fun z hA => ?_
  have h40 := hV.1
  have loop : ∀ r k : Nat, k + r = lim → ∀ h' : qm_H, s_play (tw h t) n (yw h y) lim 0 (rps h) = s_play (tw h t) n (yw h y) r k (rps h') → fr h h' → qm_PW G mX10_play z 2 0 0 [vr 26, vi (nI lim), vi (nI k)] [] h' := by
    intro r
    induction r with
    | zero =>
      intro k hkr h' e1 e2
      obtain rfl : k = lim := hkr
      refine qm_wp_ok hA [] 20 _ _ _ _ _ _ ?_
      exact ⟨fun _ => ⟨trivial, by rw [e1]; rfl, by rw [e1]; rfl, e2⟩, fun q => absurd (Int32.le_refl _) q⟩
    | succ r ih =>
      intro k hkr h' e1 e2
      have c1 := e2.row t
      have c2 := e2.yr y
      refine qm_wp_ok hA [2] 30 _ _ _ _ _ _ ?_
      refine ⟨fun q => absurd q (nI_ge (by omega) (by omega)), fun _ => ?_⟩
      refine ⟨rfl, ?_⟩
      refine ⟨0, 0, _, e_doesDeed hG d h' (t := t) (n := n) (y := y) (m := m) (k := k) (by rw [e2.2.2 22 (by decide), ht]) hk (by rw [e2.2.2 23 (by decide), hn]) hn6 (by rw [e2.2.2 34 (by decide), hy]) hy2 (by rw [c2]; exact hV) (by omega), ⟨Nat.le_refl _, Nat.le_refl _⟩, ?_⟩
      rintro _ h2 ⟨rfl, e3, e4⟩
      rw [c1, c2] at e3 ⊢
      refine b2_eq (fun hb => ?_) (fun hb => ?_)
      · have := ih (k + 1) (by omega) h2 (by rw [e1, s_play, if_pos hb, e3]) (e2.tr e4)
        rw [← nI_1] at this
        exact this
      · refine ⟨trivial, ?_, ?_, e2.tr e4⟩
        · rw [e1, s_play, if_neg (by rw [hb]; decide)]
        · rw [e1, s_play, if_neg (by rw [hb]; decide), e3]
  refine qm_wp_ok hA [2] 20 _ _ _ _ _ _ ?_
  exact loop lim 0 (Nat.zero_add lim) h rfl fr.rf
/-- of a play's state, what is asked -/
def s_of (n : Nat) (ps : PSt) (what : Int32) : Int32 :=
  if what < 10 then (if what = 0 then ps.2.2.2.2.2.2.1 else if what = 1 then ps.2.2.2.2.2.2.2.1 else if what = 2 then ps.2.2.2.2.2.2.2.2.1 else -1)
  else if what - what / 10 * 10 < nI n then (if what / 10 = 1 then ps.1 (what - what / 10 * 10).toNatClampNeg else if what / 10 = 2 then ps.2.1 (what - what / 10 * 10).toNatClampNeg else if what / 10 = 3 then ps.2.2.1 (what - what / 10 * 10).toNatClampNeg else if what / 10 = 4 then ps.2.2.2.1 (what - what / 10 * 10).toNatClampNeg else -1) else -1
end Ref5
end
section
/-! the reference: calls that play a year -/
/-- what is kept from call to call stays -/
def pers (h h' : qm_H) : Prop := sb [26, 35, 36, 37, 38, 39, 40, 41, 42, 43, 44, 45, 46, 47, 48, 49] h h'
theorem pers.rf {h : qm_H} : pers h h := sb.rf
theorem pers.tr {h h1 h2 : qm_H} (a : pers h h1) (b : pers h1 h2) : pers h h2 := sb.tr a b
theorem pers.s26 {h h1 : qm_H} {k : Nat} {v : Int32} (a : pers h h1) : pers h (qm_si h1 26 k v) := sb.si a (by decide)
theorem fr.ps {h h' : qm_H} (a : fr h h') : pers h h' := ⟨a.1, fun q hq => a.2.1 q (fun e => hq (by revert e; simp only [List.mem_cons, List.not_mem_nil, or_false]; omega))⟩
theorem HD.ps {h h' : qm_H} {t : Nat} (a : HD h h' t) : pers h h' := ⟨a.2.2.2.1, fun q hq => a.2.2.2.2.1 q (fun e => hq (by revert e; simp only [List.mem_cons, List.not_mem_nil, or_false]; omega))⟩
theorem pers.row {h h' : qm_H} (a : pers h h') (t : Nat) : tw h' t = tw h t := by
  funext j
  show h'.1 32 _ = h.1 32 _
  rw [a.2 32 (by decide)]
theorem pers.yr {h h' : qm_H} (a : pers h h') (y : Nat) : yw h' y = yw h y := by
  funext j
  show h'.1 33 _ = h.1 33 _
  rw [a.2 33 (by decide)]
/-- a number of so many -/
def inR (k : Int32) (m : Nat) : Prop := 0 ≤ k ∧ k ≤ nI m - 1
section Ref6
theorem e_layAll {G : qm_G} (hG : G.2.2.2.2 = true) (d : Nat) (h : qm_H) {mt my : Nat} (hm : h.1 31 0 = nI mt) (hm2 : mt ≤ 2) (hy : h.1 31 1 = nI my) (hy2 : my ≤ 2) (a b : Int32) : qm_Ev G (d + 3) 0 0 qyX10_layAll [.ref 26, .int a, .int b] h (fun r h' => (∃ t y, t < mt ∧ y < my ∧ a = nI t ∧ b = nI y ∧ r = some (.int 1) ∧ HD (qm_si h 26 34 (nI y)) h' t) ∨ (¬ (inR b my ∧ inR a mt) ∧ r = some (.int 0) ∧ pers h h')) := by
  refine qm_Ev.run (M := mX10_layAll) okX10_layAll rfl hG fun z => ?_
  refine ⟨rfl, ?_⟩
  refine ⟨0, 0, _, e_hasYear hG d h b, ⟨Nat.le_refl _, Nat.le_refl _⟩, ?_⟩
  rintro _ _ ⟨rfl, rfl⟩
  rw [hy]
  refine b2_eq (fun hb => ?_) (fun hb => ?_)
  · have hb1 := of_decide_eq_true hb
    obtain ⟨y, hyy, rfl⟩ := in_of hb1.1 hb1.2 (by omega)
    refine ⟨rfl, ?_⟩
    refine ⟨0, 0, _, e_hand hG d (qm_si h 26 34 (nI y)) (mt := mt) hm hm2 a, ⟨Nat.le_refl _, Nat.le_refl _⟩, ?_⟩
    rintro _ h2 (⟨t, ht, rfl, rfl, e1⟩ | ⟨e0, rfl, rfl⟩)
    · exact ⟨fun q => absurd q (by decide), fun _ => ⟨rfl, Or.inl ⟨t, y, ht, hyy, rfl, rfl, rfl, e1⟩⟩⟩
    · exact ⟨fun _ => ⟨rfl, Or.inr ⟨fun q => e0 q.2, rfl, pers.rf.s26⟩⟩, fun q => absurd rfl q⟩
  · exact ⟨rfl, Or.inr ⟨fun q => of_decide_eq_false hb q.1, rfl, pers.rf.s26⟩⟩
end Ref6
end
section
/-! the reference: sets and sums over people and facts -/
def s_knowers (mi : Nat → Int32) (f : Int32) : Nat → Int32
  | 0 => 0
  | n + 1 => s_knowers mi f n ||| (if bit (mi n) f then 1 <<< (nI n &&& 31) else 0)
def s_toldBy (w : Nat → Int32) (set : Int32) (p : Nat) : Nat → Int32
  | 0 => set
  | n + 1 => s_toldBy w set p n ||| (if s_hears w n p then 1 <<< (nI n &&& 31) else 0)
def s_closed (w : Nat → Int32) (set : Int32) : Nat → Int32
  | 0 => set
  | n + 1 => s_closed w set n ||| (if bit set (nI n) then w (7 + n) else 0)
def s_hearers (w : Nat → Int32) (p : Nat) : Nat → Int32
  | 0 => 0
  | n + 1 => s_hearers w p n + b2 (s_hears w n p)
def s_deaf (w : Nat → Int32) : Nat → Int32
  | 0 => 0
  | n + 1 => s_deaf w n ||| (if w (25 + n) = 0 then 1 <<< (nI n &&& 31) else 0)
def s_knownOf (mi : Nat → Int32) (set : Int32) : Nat → Int32
  | 0 => 0
  | n + 1 => s_knownOf mi set n ||| (if bit set (nI n) then mi n else 0)
def s_learnt (w : Nat → Int32) (mi : Nat → Int32) (p f : Nat) : Nat → Int32
  | 0 => 0
  | n + 1 => s_learnt w mi p f n + (if s_hears w n p then s_worth w (s_whole w f &&& (mi n ^^^ -1)) 6 else 0)
section Ref7
theorem e_knowers {G : qm_G} (hG : G.2.2.2.2 = true) (d : Nat) (h : qm_H) {n : Nat} (hn : h.1 26 23 = nI n) (hn6 : n ≤ 6) (f : Int32) : qm_Ev G (d + 1) 0 0 qyX10_knowers [.ref 26, .int f] h (fun r h' => r = some (.int (s_knowers (h.1 39) f n)) ∧ h = h') := by
  refine qm_Ev.by (M := mX10_knowers) okX10_knowers (Nat.le_of_ble_eq_true rfl) hG fun z hA => ?_
  refine qm_wp_ok hA [4] 20 _ _ _ _ _ _ ?_
  refine qm_for (P := fun i => qm_PW G mX10_knowers z 4 0 0 [vr 26, vi f, vi (s_knowers (h.1 39) f i), vi (nI i)] [] h) (N := n) ?_ ?_
  · exact qm_wp_ok hA [] 20 _ _ _ _ _ _ ⟨rfl, fun _ => ⟨trivial, rfl, rfl⟩, fun (q : ¬ h.1 26 23 ≤ nI n) => absurd (by rw [hn]; exact Int32.le_refl _) q⟩
  · intro i hi key
    rw [s_knowers, ← nI_1] at key
    have hin : vp_in (nI i) 6 := vp_in_nI (by omega) (by decide)
    refine qm_wp_ok hA [4] 40 _ _ _ _ _ _ ⟨rfl, fun (q : h.1 26 23 ≤ nI i) => absurd q (by rw [hn]; exact nI_ge hi (by omega)), fun _ => ?_⟩
    refine ⟨rfl, _, rfl, rfl, hin, ?_⟩
    rw [nI_clamp (by omega)]
    refine ⟨0, 0, _, e_has hG d h (h.1 39 i) f, ⟨Nat.le_refl _, Nat.le_refl _⟩, ?_⟩
    rintro _ _ ⟨rfl, rfl⟩
    exact b2_eq (fun hb => by rw [if_pos hb] at key; exact key) (fun hb => by rw [if_neg (by rw [hb]; decide)] at key; exact key)
theorem e_toldBy {G : qm_G} (hG : G.2.2.2.2 = true) (d : Nat) (h : qm_H) {t n p : Nat} (ht : h.1 26 22 = nI t) (hk : t < 2) (hn : h.1 26 23 = nI n) (hn6 : n ≤ 6) (set : Int32) : qm_Ev G (d + 2) 0 0 qyX10_toldBy [.ref 26, .int set, .int (nI p)] h (fun r h' => r = some (.int (s_toldBy (tw h t) set p n)) ∧ h = h') := by
  refine qm_Ev.by (M := mX10_toldBy) okX10_toldBy (Nat.le_of_ble_eq_true rfl) hG fun z hA => ?_
  refine qm_wp_ok hA [4] 20 _ _ _ _ _ _ ?_
  refine qm_for (P := fun i => qm_PW G mX10_toldBy z 4 0 0 [vr 26, vi set, vi (nI p), vi (s_toldBy (tw h t) set p i), vi (nI i)] [] h) (N := n) ?_ ?_
  · exact qm_wp_ok hA [] 20 _ _ _ _ _ _ ⟨rfl, fun _ => ⟨trivial, rfl, rfl⟩, fun (q : ¬ h.1 26 23 ≤ nI n) => absurd (by rw [hn]; exact Int32.le_refl _) q⟩
  · intro i hi key
    rw [s_toldBy, ← nI_1] at key
    refine qm_wp_ok hA [4] 40 _ _ _ _ _ _ ⟨rfl, fun (q : h.1 26 23 ≤ nI i) => absurd q (by rw [hn]; exact nI_ge hi (by omega)), fun _ => ⟨rfl, ?_⟩⟩
    refine ⟨0, 0, _, e_hears hG d h (t := t) (o := i) (p := p) ht hk (by omega), ⟨Nat.le_refl _, Nat.le_refl _⟩, ?_⟩
    rintro _ _ ⟨rfl, rfl⟩
    exact b2_eq (fun hb => by rw [if_pos hb] at key; exact key) (fun hb => by rw [if_neg (by rw [hb]; decide)] at key; exact key)
theorem e_closed {G : qm_G} (hG : G.2.2.2.2 = true) (d : Nat) (h : qm_H) {t : Nat} (ht : h.1 26 22 = nI t) (hk : t < 2) (set : Int32) : qm_Ev G (d + 1) 0 0 qyX10_closed [.ref 26, .int set] h (fun r h' => r = some (.int (s_closed (tw h t) set 6)) ∧ h = h') := by
  refine qm_Ev.by (M := mX10_closed) okX10_closed (Nat.le_of_ble_eq_true rfl) hG fun z hA => ?_
  refine qm_wp_ok hA [4] 20 _ _ _ _ _ _ ?_
  refine qm_for (P := fun i => qm_PW G mX10_closed z 4 0 0 [vr 26, vi set, vi (s_closed (tw h t) set i), vi (nI i)] [] h) (N := 6) ?_ ?_
  · refine qm_wp_ok hA [] 20 _ _ _ _ _ _ ?_
    exact ⟨fun _ => ⟨trivial, rfl, rfl⟩, fun q => absurd (by decide) q⟩
  · intro i hi key
    rw [s_closed, ← nI_1] at key
    have e : (7 : Int32) + nI i = nI (7 + i) := nI_add 7 i
    refine qm_wp_ok hA [4] 40 _ _ _ _ _ _ ?_
    refine ⟨fun q => absurd q (nI_ge hi (by decide)), fun _ => ?_⟩
    refine ⟨0, 0, _, e_has hG d h set (nI i), ⟨Nat.le_refl _, Nat.le_refl _⟩, ?_⟩
    rintro _ _ ⟨rfl, rfl⟩
    refine b2_eq (fun hb => ?_) (fun hb => by rw [if_neg (by rw [hb]; decide)] at key; exact key)
    refine ⟨rfl, ?_⟩
    refine ⟨0, 0, _, (by rw [e]; exact e_of hG d h ht hk (by omega)), ⟨Nat.le_refl _, Nat.le_refl _⟩, ?_⟩
    rintro _ _ ⟨rfl, rfl⟩
    rw [if_pos hb] at key
    exact key
theorem e_hearers {G : qm_G} (hG : G.2.2.2.2 = true) (d : Nat) (h : qm_H) {t n p : Nat} (ht : h.1 26 22 = nI t) (hk : t < 2) (hn : h.1 26 23 = nI n) (hn6 : n ≤ 6) : qm_Ev G (d + 2) 0 0 qyX10_hearers [.ref 26, .int (nI p)] h (fun r h' => r = some (.int (s_hearers (tw h t) p n)) ∧ h = h') := by
  refine qm_Ev.by (M := mX10_hearers) okX10_hearers (Nat.le_of_ble_eq_true rfl) hG fun z hA => ?_
  refine qm_wp_ok hA [4] 20 _ _ _ _ _ _ ?_
  refine qm_for (P := fun i => qm_PW G mX10_hearers z 4 0 0 [vr 26, vi (nI p), vi (s_hearers (tw h t) p i), vi (nI i)] [] h) (N := n) ?_ ?_
  · exact qm_wp_ok hA [] 20 _ _ _ _ _ _ ⟨rfl, fun _ => ⟨trivial, rfl, rfl⟩, fun (q : ¬ h.1 26 23 ≤ nI n) => absurd (by rw [hn]; exact Int32.le_refl _) q⟩
  · intro i hi key
    rw [s_hearers, ← nI_1] at key
    refine qm_wp_ok hA [4] 40 _ _ _ _ _ _ ⟨rfl, fun (q : h.1 26 23 ≤ nI i) => absurd q (by rw [hn]; exact nI_ge hi (by omega)), fun _ => ⟨rfl, ?_⟩⟩
    refine ⟨0, 0, _, e_hears hG d h (t := t) (o := i) (p := p) ht hk (by omega), ⟨Nat.le_refl _, Nat.le_refl _⟩, ?_⟩
    rintro _ _ ⟨rfl, rfl⟩
    exact b2_eq (fun hb => by rw [hb] at key; exact key) (fun hb => by rw [hb] at key; exact key)
theorem e_learntOf {G : qm_G} (hG : G.2.2.2.2 = true) (d : Nat) (h : qm_H) {t n p f : Nat} (ht : h.1 26 22 = nI t) (hk : t < 2) (hn : h.1 26 23 = nI n) (hn6 : n ≤ 6) (hf : f < 6) : qm_Ev G (d + 2) 0 0 qyX10_learntOf [.ref 26, .int (nI p), .int (nI f)] h (fun r h' => r = some (.int (s_learnt (tw h t) (h.1 39) p f n)) ∧ h = h') := by
  refine qm_Ev.by (M := mX10_learntOf) okX10_learntOf (Nat.le_of_ble_eq_true rfl) hG fun z hA => ?_
  refine qm_wp_ok hA [4] 20 _ _ _ _ _ _ ?_
  refine qm_for (P := fun i => qm_PW G mX10_learntOf z 4 0 0 [vr 26, vi (nI p), vi (nI f), vi (s_learnt (tw h t) (h.1 39) p f i), vi (nI i)] [] h) (N := n) ?_ ?_
  · exact qm_wp_ok hA [] 20 _ _ _ _ _ _ ⟨rfl, fun _ => ⟨trivial, rfl, rfl⟩, fun (q : ¬ h.1 26 23 ≤ nI n) => absurd (by rw [hn]; exact Int32.le_refl _) q⟩
  · intro i hi key
    rw [s_learnt, ← nI_1] at key
    have hin : vp_in (nI i) 6 := vp_in_nI (by omega) (by decide)
    refine qm_wp_ok hA [4] 40 _ _ _ _ _ _ ⟨rfl, fun (q : h.1 26 23 ≤ nI i) => absurd q (by rw [hn]; exact nI_ge hi (by omega)), fun _ => ⟨rfl, ?_⟩⟩
    refine ⟨0, 0, _, e_hears hG d h (t := t) (o := i) (p := p) ht hk (by omega), ⟨Nat.le_refl _, Nat.le_refl _⟩, ?_⟩
    rintro _ _ ⟨rfl, rfl⟩
    refine b2_eq (fun hb => ?_) (fun hb => by rw [if_neg (by rw [hb]; decide)] at key; exact key)
    refine ⟨rfl, ?_⟩
    refine ⟨0, 0, _, e_whole hG d h ht hk hf, ⟨Nat.le_refl _, Nat.le_refl _⟩, ?_⟩
    rintro _ _ ⟨rfl, rfl⟩
    refine ⟨rfl, _, rfl, rfl, hin, rfl, ?_⟩
    rw [nI_clamp (by omega)]
    refine ⟨0, 0, _, e_worthOf hG d h ht hk _, ⟨Nat.le_refl _, Nat.le_refl _⟩, ?_⟩
    rintro _ _ ⟨rfl, rfl⟩
    rw [if_pos hb] at key
    exact key
end Ref7
end
section
/-! the reference: roots, rings, reach -/
theorem e_deaf {G : qm_G} (hG : G.2.2.2.2 = true) (d : Nat) (h : qm_H) {t n : Nat} (ht : h.1 26 22 = nI t) (hk : t < 2) (hn : h.1 26 23 = nI n) (hn6 : n ≤ 6) : qm_Ev G (d + 1) 0 0 qyX10_deaf [.ref 26] h (fun r h' => r = some (.int (s_deaf (tw h t) n)) ∧ h = h') := by
  refine qm_Ev.by (M := mX10_deaf) okX10_deaf (Nat.le_of_ble_eq_true rfl) hG fun z hA => ?_
  refine qm_wp_ok hA [4] 20 _ _ _ _ _ _ ?_
  refine qm_for (P := fun i => qm_PW G mX10_deaf z 4 0 0 [vr 26, vi (s_deaf (tw h t) i), vi (nI i)] [] h) (N := n) ?_ ?_
  · exact qm_wp_ok hA [] 20 _ _ _ _ _ _ ⟨rfl, fun _ => ⟨trivial, rfl, rfl⟩, fun (q : ¬ h.1 26 23 ≤ nI n) => absurd (by rw [hn]; exact Int32.le_refl _) q⟩
  · intro i hi key
    rw [s_deaf, ← nI_1] at key
    have e : (25 : Int32) + nI i = nI (25 + i) := nI_add 25 i
    refine qm_wp_ok hA [4] 40 _ _ _ _ _ _ ⟨rfl, fun (q : h.1 26 23 ≤ nI i) => absurd q (by rw [hn]; exact nI_ge hi (by omega)), fun _ => ⟨rfl, ?_⟩⟩
    refine ⟨0, 0, _, (by rw [e]; exact e_of hG d h ht hk (by omega)), ⟨Nat.le_refl _, Nat.le_refl _⟩, ?_⟩
    rintro _ _ ⟨rfl, rfl⟩
    exact ⟨fun hb => by rw [if_neg hb] at key; exact key, fun hb => by rw [if_pos hb] at key; exact key⟩
theorem e_knownOf {G : qm_G} (hG : G.2.2.2.2 = true) (d : Nat) (h : qm_H) {n : Nat} (hn : h.1 26 23 = nI n) (hn6 : n ≤ 6) (set : Int32) : qm_Ev G (d + 1) 0 0 qyX10_knownOf [.ref 26, .int set] h (fun r h' => r = some (.int (s_knownOf (h.1 39) set n)) ∧ h = h') := by
  refine qm_Ev.by (M := mX10_knownOf) okX10_knownOf (Nat.le_of_ble_eq_true rfl) hG fun z hA => ?_
  refine qm_wp_ok hA [4] 20 _ _ _ _ _ _ ?_
  refine qm_for (P := fun i => qm_PW G mX10_knownOf z 4 0 0 [vr 26, vi set, vi (s_knownOf (h.1 39) set i), vi (nI i)] [] h) (N := n) ?_ ?_
  · exact qm_wp_ok hA [] 20 _ _ _ _ _ _ ⟨rfl, fun _ => ⟨trivial, rfl, rfl⟩, fun (q : ¬ h.1 26 23 ≤ nI n) => absurd (by rw [hn]; exact Int32.le_refl _) q⟩
  · intro i hi key
    rw [s_knownOf, ← nI_1] at key
    have hin : vp_in (nI i) 6 := vp_in_nI (by omega) (by decide)
    refine qm_wp_ok hA [4] 40 _ _ _ _ _ _ ⟨rfl, fun (q : h.1 26 23 ≤ nI i) => absurd q (by rw [hn]; exact nI_ge hi (by omega)), fun _ => ?_⟩
    refine ⟨0, 0, _, e_has hG d h set (nI i), ⟨Nat.le_refl _, Nat.le_refl _⟩, ?_⟩
    rintro _ _ ⟨rfl, rfl⟩
    refine b2_eq (fun hb => ?_) (fun hb => by rw [if_neg (by rw [hb]; decide)] at key; exact key)
    refine ⟨rfl, _, rfl, rfl, hin, ?_⟩
    rw [nI_clamp (by omega)]
    rw [if_pos hb] at key
    exact key
def s_closedOnes (w : Nat → Int32) : Nat → Int32
  | 0 => 0
  | n + 1 => s_closedOnes w n + (if s_closed w (nI n) 6 = nI n then 1 else 0)
theorem e_closedOnes {G : qm_G} (hG : G.2.2.2.2 = true) (d : Nat) (h : qm_H) {t : Nat} (ht : h.1 26 22 = nI t) (hk : t < 2) : qm_Ev G (d + 2) 0 0 qyX10_closedOnes [.ref 26] h (fun r h' => r = some (.int (s_closedOnes (tw h t) 64)) ∧ h = h') := by
  refine qm_Ev.by (M := mX10_closedOnes) okX10_closedOnes (Nat.le_of_ble_eq_true rfl) hG fun z hA => ?_
  refine qm_wp_ok hA [4] 20 _ _ _ _ _ _ ?_
  refine qm_for (P := fun i => qm_PW G mX10_closedOnes z 4 0 0 [vr 26, vi (s_closedOnes (tw h t) i), vi (nI i)] [] h) (N := 64) ?_ ?_
  · exact qm_wp_ok hA [] 20 _ _ _ _ _ _ ⟨fun _ => ⟨trivial, rfl, rfl⟩, fun q => absurd (by decide) q⟩
  · intro i hi key
    rw [s_closedOnes, ← nI_1] at key
    refine qm_wp_ok hA [4] 40 _ _ _ _ _ _ ⟨fun q => absurd q (nI_ge hi (by decide)), fun _ => ⟨rfl, ?_⟩⟩
    refine ⟨0, 0, _, e_closed hG d h ht hk (nI i), ⟨Nat.le_refl _, Nat.le_refl _⟩, ?_⟩
    rintro _ _ ⟨rfl, rfl⟩
    exact ⟨fun hb => by rw [if_neg hb] at key; exact key, fun hb => by rw [if_pos hb] at key; exact key⟩
def s_ringOf (w : Nat → Int32) (f : Nat) : Nat → Int32
  | 0 => 1 <<< (nI f &&& 31)
  | n + 1 => s_ringOf w f n ||| (if bit (w (7 + f)) (nI n) = true ∧ bit (w (7 + n)) (nI f) = true then 1 <<< (nI n &&& 31) else 0)
theorem e_ringOf {G : qm_G} (hG : G.2.2.2.2 = true) (d : Nat) (h : qm_H) {t f : Nat} (ht : h.1 26 22 = nI t) (hk : t < 2) (hf : f < 6) : qm_Ev G (d + 1) 0 0 qyX10_ringOf [.ref 26, .int (nI f)] h (fun r h' => r = some (.int (s_ringOf (tw h t) f 6)) ∧ h = h') := by
  refine qm_Ev.by (M := mX10_ringOf) okX10_ringOf (Nat.le_of_ble_eq_true rfl) hG fun z hA => ?_
  refine qm_wp_ok hA [6] 20 _ _ _ _ _ _ ?_
  refine qm_for (P := fun i => qm_PW G mX10_ringOf z 6 0 0 [vr 26, vi (nI f), vi (s_ringOf (tw h t) f i), vi (nI i)] [] h) (N := 6) ?_ ?_
  · exact qm_wp_ok hA [] 20 _ _ _ _ _ _ ⟨fun _ => ⟨trivial, rfl, rfl⟩, fun q => absurd (by decide) q⟩
  · intro i hi key
    rw [s_ringOf, ← nI_1] at key
    have e : (7 : Int32) + nI f = nI (7 + f) := nI_add 7 f
    have e2 : (7 : Int32) + nI i = nI (7 + i) := nI_add 7 i
    refine qm_wp_ok hA [6] 40 _ _ _ _ _ _ ⟨fun q => absurd q (nI_ge hi (by decide)), fun _ => ⟨rfl, ?_⟩⟩
    refine ⟨0, 0, _, (by rw [e]; exact e_of hG d h ht hk (by omega)), ⟨Nat.le_refl _, Nat.le_refl _⟩, ?_⟩
    rintro _ _ ⟨rfl, rfl⟩
    refine ⟨0, 0, _, e_has hG d h (tw h t (7 + f)) (nI i), ⟨Nat.le_refl _, Nat.le_refl _⟩, ?_⟩
    rintro _ _ ⟨rfl, rfl⟩
    refine b2_eq (fun hb => ?_) (fun hb => by rw [if_neg (fun q => by rw [hb] at q; exact absurd q.1 (by decide))] at key; exact key)
    refine ⟨rfl, ?_⟩
    refine ⟨0, 0, _, (by rw [e2]; exact e_of hG d h ht hk (by omega)), ⟨Nat.le_refl _, Nat.le_refl _⟩, ?_⟩
    rintro _ _ ⟨rfl, rfl⟩
    refine ⟨0, 0, _, e_has hG d h (tw h t (7 + i)) (nI f), ⟨Nat.le_refl _, Nat.le_refl _⟩, ?_⟩
    rintro _ _ ⟨rfl, rfl⟩
    exact b2_eq (fun hb2 => by rw [if_pos ⟨hb, hb2⟩] at key; exact key) (fun hb2 => by rw [if_neg (fun q => by rw [hb2] at q; exact absurd q.2 (by decide))] at key; exact key)
def s_rings (w : Nat → Int32) : Nat → Int32 × Int32
  | 0 => (0, 0)
  | n + 1 => ((s_rings w n).1 + (if s_ringOf w n 6 &&& ((1 <<< (nI n &&& 31)) - 1) = 0 then 1 else 0), mx (s_rings w n).2 (ones (s_ringOf w n 6) 6))
theorem e_rings {G : qm_G} (hG : G.2.2.2.2 = true) (d : Nat) (h : qm_H) {t : Nat} (ht : h.1 26 22 = nI t) (hk : t < 2) (b : Bool) : qm_Ev G (d + 2) 0 0 qyX10_rings [.ref 26, .int (b2 b)] h (fun r h' => r = some (.int (if b then (s_rings (tw h t) 6).2 else (s_rings (tw h t) 6).1)) ∧ h = h') := by
  refine qm_Ev.by (M := mX10_rings) okX10_rings (Nat.le_of_ble_eq_true rfl) hG fun z hA => ?_
  refine qm_wp_ok hA [6] 20 _ _ _ _ _ _ ?_
  refine qm_for (P := fun i => qm_PW G mX10_rings z 6 0 0 [vr 26, vi (b2 b), vi (s_rings (tw h t) i).1, vi (s_rings (tw h t) i).2, vi (nI i)] [] h) (N := 6) ?_ ?_
  · refine qm_wp_ok hA [] 20 _ _ _ _ _ _ ⟨fun _ => ?_, fun q => absurd (by decide) q⟩
    exact b2_eq (fun hb => ⟨trivial, by rw [if_pos hb], rfl⟩) (fun hb => ⟨trivial, by rw [if_neg (by rw [hb]; decide)], rfl⟩)
  · intro i hi key
    rw [s_rings, ← nI_1] at key
    refine qm_wp_ok hA [6] 60 _ _ _ _ _ _ ⟨fun q => absurd q (nI_ge hi (by decide)), fun _ => ⟨rfl, ?_⟩⟩
    refine ⟨0, 0, _, e_ringOf hG d h ht hk hi, ⟨Nat.le_refl _, Nat.le_refl _⟩, ?_⟩
    rintro _ _ ⟨rfl, rfl⟩
    refine ⟨fun hb => ⟨rfl, ?_⟩, fun hb => ⟨rfl, ?_⟩⟩
    · refine ⟨0, 0, _, e_ringOf hG d h ht hk hi, ⟨Nat.le_refl _, Nat.le_refl _⟩, ?_⟩
      rintro _ _ ⟨rfl, rfl⟩
      refine ⟨0, 0, _, e_ones hG d h _, ⟨Nat.le_refl _, Nat.le_refl _⟩, ?_⟩
      rintro _ _ ⟨rfl, rfl⟩
      refine ⟨0, 0, _, e_greater hG (d + 1) h _ _, ⟨Nat.le_refl _, Nat.le_refl _⟩, ?_⟩
      rintro _ _ ⟨rfl, rfl⟩
      rw [if_neg hb] at key
      exact key
    · refine ⟨0, 0, _, e_ringOf hG d h ht hk hi, ⟨Nat.le_refl _, Nat.le_refl _⟩, ?_⟩
      rintro _ _ ⟨rfl, rfl⟩
      refine ⟨0, 0, _, e_ones hG d h _, ⟨Nat.le_refl _, Nat.le_refl _⟩, ?_⟩
      rintro _ _ ⟨rfl, rfl⟩
      refine ⟨0, 0, _, e_greater hG (d + 1) h _ _, ⟨Nat.le_refl _, Nat.le_refl _⟩, ?_⟩
      rintro _ _ ⟨rfl, rfl⟩
      rw [if_pos hb] at key
      exact key
def s_knownBy (mi : Nat → Int32) (n : Nat) (a : Int32) : Nat → Int32
  | 0 => 0
  | f + 1 => s_knownBy mi n a f ||| (if ones (s_knowers mi (nI f) n) 6 = a then 1 <<< (nI f &&& 31) else 0)
theorem e_knownBy {G : qm_G} (hG : G.2.2.2.2 = true) (d : Nat) (h : qm_H) {n : Nat} (hn : h.1 26 23 = nI n) (hn6 : n ≤ 6) (a : Int32) : qm_Ev G (d + 2) 0 0 qyX10_knownBy [.ref 26, .int a] h (fun r h' => r = some (.int (s_knownBy (h.1 39) n a 6)) ∧ h = h') := by
  refine qm_Ev.by (M := mX10_knownBy) okX10_knownBy (Nat.le_of_ble_eq_true rfl) hG fun z hA => ?_
  refine qm_wp_ok hA [4] 20 _ _ _ _ _ _ ?_
  refine qm_for (P := fun i => qm_PW G mX10_knownBy z 4 0 0 [vr 26, vi a, vi (s_knownBy (h.1 39) n a i), vi (nI i)] [] h) (N := 6) ?_ ?_
  · exact qm_wp_ok hA [] 20 _ _ _ _ _ _ ⟨fun _ => ⟨trivial, rfl, rfl⟩, fun q => absurd (by decide) q⟩
  · intro i hi key
    rw [s_knownBy, ← nI_1] at key
    refine qm_wp_ok hA [4] 40 _ _ _ _ _ _ ⟨fun q => absurd q (nI_ge hi (by decide)), fun _ => ⟨rfl, ?_⟩⟩
    refine ⟨0, 0, _, e_knowers hG d h hn hn6 (nI i), ⟨Nat.le_refl _, Nat.le_refl _⟩, ?_⟩
    rintro _ _ ⟨rfl, rfl⟩
    refine ⟨0, 0, _, e_ones hG d h _, ⟨Nat.le_refl _, Nat.le_refl _⟩, ?_⟩
    rintro _ _ ⟨rfl, rfl⟩
    exact ⟨fun hb => by rw [if_neg hb] at key; exact key, fun hb => by rw [if_pos hb] at key; exact key⟩
def s_dearest (w : Nat → Int32) : Nat → Nat
  | 0 => 0
  | n + 1 => if s_worth w (s_whole w (n + 1)) 6 ≤ s_worth w (s_whole w (s_dearest w n)) 6 then s_dearest w n else n + 1
theorem s_dearest_le (w : Nat → Int32) : ∀ n, s_dearest w n ≤ n
  | 0 => Nat.le_refl 0
  | n + 1 => by
    have ih := s_dearest_le w n
    rw [s_dearest]
    split <;> omega
theorem e_dearest {G : qm_G} (hG : G.2.2.2.2 = true) (d : Nat) (h : qm_H) {t : Nat} (ht : h.1 26 22 = nI t) (hk : t < 2) : qm_Ev G (d + 2) 0 0 qyX10_dearest [.ref 26] h (fun r h' => r = some (.int (nI (s_dearest (tw h t) 5))) ∧ h = h') := by
  refine qm_Ev.by (M := mX10_dearest) okX10_dearest (Nat.le_of_ble_eq_true rfl) hG fun z hA => ?_
  refine qm_wp_ok hA [4] 20 _ _ _ _ _ _ ?_
  refine qm_for (P := fun i => qm_PW G mX10_dearest z 4 0 0 [vr 26, vi (nI (s_dearest (tw h t) i)), vi (nI (i + 1))] [] h) (N := 5) ?_ ?_
  · exact qm_wp_ok hA [] 20 _ _ _ _ _ _ ⟨fun _ => ⟨trivial, rfl, rfl⟩, fun q => absurd (by decide) q⟩
  · intro i hi key
    have hb := s_dearest_le (tw h t) i
    rw [s_dearest, ← nI_1] at key
    refine qm_wp_ok hA [4] 60 _ _ _ _ _ _ ⟨fun q => absurd q (nI_ge (by omega : i + 1 < 6) (by decide)), fun _ => ⟨rfl, ?_⟩⟩
    refine ⟨0, 0, _, e_whole hG d h (f := i + 1) ht hk (by omega), ⟨Nat.le_refl _, Nat.le_refl _⟩, ?_⟩
    rintro _ _ ⟨rfl, rfl⟩
    refine ⟨rfl, 0, 0, _, e_worthOf hG d h ht hk _, ⟨Nat.le_refl _, Nat.le_refl _⟩, ?_⟩
    rintro _ _ ⟨rfl, rfl⟩
    refine ⟨rfl, 0, 0, _, e_whole hG d h (f := s_dearest (tw h t) i) ht hk (by omega), ⟨Nat.le_refl _, Nat.le_refl _⟩, ?_⟩
    rintro _ _ ⟨rfl, rfl⟩
    refine ⟨rfl, 0, 0, _, e_worthOf hG d h ht hk _, ⟨Nat.le_refl _, Nat.le_refl _⟩, ?_⟩
    rintro _ _ ⟨rfl, rfl⟩
    exact ⟨fun hb2 => by rw [if_pos hb2] at key; exact key, fun hb2 => by rw [if_neg hb2] at key; exact key⟩
def s_reach1 (w : Nat → Int32) (set : Int32) : Nat → Int32
  | 0 => set
  | n + 1 => s_reach1 w set n ||| (if w (25 + n) &&& s_reach1 w set n = 0 then (0 : Int32) else 1 <<< (nI n &&& 31))
def s_reach (w : Nat → Int32) (n p : Nat) : Nat → Int32
  | 0 => 1 <<< (nI p &&& 31)
  | r + 1 => s_reach1 w (s_reach w n p r) n
theorem e_reachOf {G : qm_G} (hG : G.2.2.2.2 = true) (d : Nat) (h : qm_H) {t n p : Nat} (ht : h.1 26 22 = nI t) (hk : t < 2) (hn : h.1 26 23 = nI n) (hn6 : n ≤ 6) : qm_Ev G (d + 1) 0 0 qyX10_reachOf [.ref 26, .int (nI p)] h (fun r h' => r = some (.int (s_reach (tw h t) n p 6)) ∧ h = h') := by
  refine qm_Ev.by (M := mX10_reachOf) okX10_reachOf (Nat.le_of_ble_eq_true rfl) hG fun z hA => ?_
  refine qm_wp_ok hA [6] 20 _ _ _ _ _ _ ?_
  refine qm_PW.mask [true, true, true, true, false] ?_
  refine qm_for (P := fun i => qm_PW G mX10_reachOf z 6 0 0 [vr 26, vi (nI p), vi (s_reach (tw h t) n p i), vi (nI i), vu] [] h) (N := 6) ?_ ?_
  · exact qm_wp_ok hA [] 20 _ _ _ _ _ _ ⟨fun _ => ⟨trivial, rfl, rfl⟩, fun q => absurd (by decide) q⟩
  · intro i hi key
    refine qm_wp_ok hA [6, 11] 20 _ _ _ _ _ _ ⟨fun q => absurd q (nI_ge hi (by decide)), fun _ => ?_⟩
    refine qm_for (P := fun j => qm_PW G mX10_reachOf z 11 0 0 [vr 26, vi (nI p), vi (s_reach1 (tw h t) (s_reach (tw h t) n p i) j), vi (nI i), vi (nI j)] [] h) (N := n) ?_ ?_
    · refine qm_wp_ok hA [6] 20 _ _ _ _ _ _ ⟨rfl, fun _ => ?_, fun (q : ¬ h.1 26 23 ≤ nI n) => absurd (by rw [hn]; exact Int32.le_refl _) q⟩
      rw [s_reach, ← nI_1] at key
      exact qm_PW.mask [true, true, true, true, false] key
    · intro j hj key2
      rw [s_reach1, ← nI_1] at key2
      have e : (25 : Int32) + nI j = nI (25 + j) := nI_add 25 j
      refine qm_wp_ok hA [11] 40 _ _ _ _ _ _ ⟨rfl, fun (q : h.1 26 23 ≤ nI j) => absurd q (by rw [hn]; exact nI_ge hj (by omega)), fun _ => ⟨rfl, ?_⟩⟩
      refine ⟨0, 0, _, (by rw [e]; exact e_of hG d h ht hk (by omega)), ⟨Nat.le_refl _, Nat.le_refl _⟩, ?_⟩
      rintro _ _ ⟨rfl, rfl⟩
      exact ⟨fun hb => by rw [if_pos hb] at key2; exact key2, fun hb => by rw [if_neg hb] at key2; exact key2⟩
end
section
/-! the reference: the least sets, twins, the best to tell -/
def s_fewer (set best : Int32) : Bool := decide (ones set 6 < ones best 6 ∨ (ones set 6 = ones best 6 ∧ set < best))
def s_root (w : Nat → Int32) : Nat → Int32
  | 0 => 63
  | n + 1 => if s_fewer (nI n) (s_root w n) = true ∧ s_closed w (nI n) 6 = 63 then nI n else s_root w n
theorem e_rootSet {G : qm_G} (hG : G.2.2.2.2 = true) (d : Nat) (h : qm_H) {t : Nat} (ht : h.1 26 22 = nI t) (hk : t < 2) : qm_Ev G (d + 2) 0 0 qyX10_rootSet [.ref 26] h (fun r h' => r = some (.int (s_root (tw h t) 64)) ∧ h = h') := by
  refine qm_Ev.by (M := mX10_rootSet) okX10_rootSet (Nat.le_of_ble_eq_true rfl) hG fun z hA => ?_
  refine qm_wp_ok hA [4] 20 _ _ _ _ _ _ ?_
  refine qm_for (P := fun i => qm_PW G mX10_rootSet z 4 0 0 [vr 26, vi (s_root (tw h t) i), vi (nI i), vu] [] h) (N := 64) ?_ ?_
  · exact qm_wp_ok hA [] 20 _ _ _ _ _ _ ⟨fun _ => ⟨trivial, rfl, rfl⟩, fun q => absurd (by decide) q⟩
  · intro i hi key
    rw [s_root, ← nI_1] at key
    have m23 : qm_PW G mX10_rootSet z 23 0 0 [vr 26, vi (s_root (tw h t) i), vi (nI i), vu] [.int (b2 (s_fewer (nI i) (s_root (tw h t) i)))] h := by
      refine qm_wp_ok hA [4] 40 _ _ _ _ _ _ ?_
      refine b2_eq (fun hb => ⟨rfl, ?_⟩) (fun hb => ?_)
      · refine ⟨0, 0, _, e_closed hG d h ht hk (nI i), ⟨Nat.le_refl _, Nat.le_refl _⟩, ?_⟩
        rintro _ _ ⟨rfl, rfl⟩
        refine ⟨fun c => ?_, fun c => ?_⟩
        · rw [if_neg (fun q => c q.2)] at key
          exact qm_PW.mask [true, true, true, false] key
        · rw [if_pos ⟨hb, c⟩] at key
          exact qm_PW.mask [true, true, true, false] key
      · rw [if_neg (fun q => by rw [hb] at q; exact absurd q.1 (by decide))] at key
        exact qm_PW.mask [true, true, true, false] key
    refine qm_wp_ok hA [23] 40 _ _ _ _ _ _ ⟨fun q => absurd q (nI_ge hi (by decide)), fun _ => ?_⟩
    refine ⟨0, 0, _, e_ones hG d h (nI i), ⟨Nat.le_refl _, Nat.le_refl _⟩, ?_⟩
    rintro _ _ ⟨rfl, rfl⟩
    refine ⟨0, 0, _, e_ones hG d h (s_root (tw h t) i), ⟨Nat.le_refl _, Nat.le_refl _⟩, ?_⟩
    rintro _ _ ⟨rfl, rfl⟩
    refine ⟨fun c => ?_, fun c => ?_⟩
    · have e : s_fewer (nI i) (s_root (tw h t) i) = true := decide_eq_true (Or.inl c)
      rw [e] at m23
      exact m23
    · refine ⟨0, 0, _, e_ones hG d h (nI i), ⟨Nat.le_refl _, Nat.le_refl _⟩, ?_⟩
      rintro _ _ ⟨rfl, rfl⟩
      refine ⟨0, 0, _, e_ones hG d h (s_root (tw h t) i), ⟨Nat.le_refl _, Nat.le_refl _⟩, ?_⟩
      rintro _ _ ⟨rfl, rfl⟩
      refine ⟨fun c2 => ?_, fun c2 => ⟨fun c3 => ?_, fun c3 => ?_⟩⟩
      · have e : s_fewer (nI i) (s_root (tw h t) i) = false := decide_eq_false (fun q => q.elim c (fun q => c2 q.1))
        rw [e] at m23
        exact m23
      · have e : s_fewer (nI i) (s_root (tw h t) i) = false := decide_eq_false (fun q => q.elim c (fun q => absurd q.2 (Int32.not_lt.mpr c3)))
        rw [e] at m23
        exact m23
      · have e : s_fewer (nI i) (s_root (tw h t) i) = true := decide_eq_true (Or.inr ⟨c2, Int32.not_le.mp c3⟩)
        rw [e] at m23
        exact m23
def s_cover (mi : Nat → Int32) (n : Nat) (all : Int32) : Nat → Int32
  | 0 => all
  | k + 1 => if s_fewer (nI k) (s_cover mi n all k) = true ∧ s_knownOf mi (nI k) n = s_knownOf mi all n then nI k else s_cover mi n all k
theorem s_pow {n : Nat} (hn : n ≤ 6) : (1 : Int32) <<< (nI n &&& 31) - 1 = nI (2 ^ n - 1) ∧ (1 : Int32) <<< (nI n &&& 31) = nI (2 ^ n) := by
  match n, hn with
  | 0, _ => decide
  | 1, _ => decide
  | 2, _ => decide
  | 3, _ => decide
  | 4, _ => decide
  | 5, _ => decide
  | 6, _ => decide
theorem s_pow6 {n : Nat} (hn : n ≤ 6) : 2 ^ n ≤ 64 ∧ 0 < 2 ^ n := by
  match n, hn with
  | 0, _ => decide
  | 1, _ => decide
  | 2, _ => decide
  | 3, _ => decide
  | 4, _ => decide
  | 5, _ => decide
  | 6, _ => decide
theorem e_cover {G : qm_G} (hG : G.2.2.2.2 = true) (d : Nat) (h : qm_H) {n : Nat} (hn : h.1 26 23 = nI n) (hn6 : n ≤ 6) : qm_Ev G (d + 2) 0 0 qyX10_cover [.ref 26] h (fun r h' => r = some (.int (s_cover (h.1 39) n (nI (2 ^ n - 1)) (2 ^ n))) ∧ h = h') := by
  refine qm_Ev.by (M := mX10_cover) okX10_cover (Nat.le_of_ble_eq_true rfl) hG fun z hA => ?_
  obtain ⟨p1, -⟩ := s_pow hn6
  obtain ⟨p2, p3⟩ := s_pow6 hn6
  have start : qm_PW G mX10_cover z 11 0 0 [vr 26, vi (nI (2 ^ n - 1)), vi (s_cover (h.1 39) n (nI (2 ^ n - 1)) 0), vi (nI 0), vu] [] h := by
    refine qm_for (P := fun i => qm_PW G mX10_cover z 11 0 0 [vr 26, vi (nI (2 ^ n - 1)), vi (s_cover (h.1 39) n (nI (2 ^ n - 1)) i), vi (nI i), vu] [] h) (N := 2 ^ n) ?_ ?_
    · exact qm_wp_ok hA [] 20 _ _ _ _ _ _ ⟨fun _ => ⟨trivial, rfl, rfl⟩, fun q => absurd (nI_lt (by omega) (by omega)) q⟩
    · intro i hi key
      rw [s_cover, ← nI_1] at key
      have m30 : qm_PW G mX10_cover z 30 0 0 [vr 26, vi (nI (2 ^ n - 1)), vi (s_cover (h.1 39) n (nI (2 ^ n - 1)) i), vi (nI i), vu] [.int (b2 (s_fewer (nI i) (s_cover (h.1 39) n (nI (2 ^ n - 1)) i)))] h := by
        refine qm_wp_ok hA [11] 40 _ _ _ _ _ _ ?_
        refine b2_eq (fun hb => ⟨rfl, ?_⟩) (fun hb => ?_)
        · refine ⟨0, 0, _, e_knownOf hG d h hn hn6 (nI i), ⟨Nat.le_refl _, Nat.le_refl _⟩, ?_⟩
          rintro _ _ ⟨rfl, rfl⟩
          refine ⟨rfl, 0, 0, _, e_knownOf hG d h hn hn6 (nI (2 ^ n - 1)), ⟨Nat.le_refl _, Nat.le_refl _⟩, ?_⟩
          rintro _ _ ⟨rfl, rfl⟩
          refine ⟨fun c => ?_, fun c => ?_⟩
          · rw [if_neg (fun q => c q.2)] at key
            exact qm_PW.mask [true, true, true, true, false] key
          · rw [if_pos ⟨hb, c⟩] at key
            exact qm_PW.mask [true, true, true, true, false] key
        · rw [if_neg (fun q => by rw [hb] at q; exact absurd q.1 (by decide))] at key
          exact qm_PW.mask [true, true, true, true, false] key
      refine qm_wp_ok hA [30] 40 _ _ _ _ _ _ ⟨fun q => absurd q (nI_nlt (by omega) (by omega)), fun _ => ?_⟩
      refine ⟨0, 0, _, e_ones hG d h (nI i), ⟨Nat.le_refl _, Nat.le_refl _⟩, ?_⟩
      rintro _ _ ⟨rfl, rfl⟩
      refine ⟨0, 0, _, e_ones hG d h (s_cover (h.1 39) n (nI (2 ^ n - 1)) i), ⟨Nat.le_refl _, Nat.le_refl _⟩, ?_⟩
      rintro _ _ ⟨rfl, rfl⟩
      refine ⟨fun c => ?_, fun c => ?_⟩
      · have e : s_fewer (nI i) (s_cover (h.1 39) n (nI (2 ^ n - 1)) i) = true := decide_eq_true (Or.inl c)
        rw [e] at m30
        exact m30
      · refine ⟨0, 0, _, e_ones hG d h (nI i), ⟨Nat.le_refl _, Nat.le_refl _⟩, ?_⟩
        rintro _ _ ⟨rfl, rfl⟩
        refine ⟨0, 0, _, e_ones hG d h (s_cover (h.1 39) n (nI (2 ^ n - 1)) i), ⟨Nat.le_refl _, Nat.le_refl _⟩, ?_⟩
        rintro _ _ ⟨rfl, rfl⟩
        refine ⟨fun c2 => ?_, fun c2 => ⟨fun c3 => ?_, fun c3 => ?_⟩⟩
        · have e : s_fewer (nI i) (s_cover (h.1 39) n (nI (2 ^ n - 1)) i) = false := decide_eq_false (fun q => q.elim c (fun q => c2 q.1))
          rw [e] at m30
          exact m30
        · have e : s_fewer (nI i) (s_cover (h.1 39) n (nI (2 ^ n - 1)) i) = false := decide_eq_false (fun q => q.elim c (fun q => absurd q.2 (Int32.not_lt.mpr c3)))
          rw [e] at m30
          exact m30
        · have e : s_fewer (nI i) (s_cover (h.1 39) n (nI (2 ^ n - 1)) i) = true := decide_eq_true (Or.inr ⟨c2, Int32.not_le.mp c3⟩)
          rw [e] at m30
          exact m30
  refine qm_wp_ok hA [11] 20 _ _ _ _ _ _ ⟨rfl, ?_⟩
  have e0 : (1 : Int32) <<< (h.1 26 23 &&& 31) - 1 = nI (2 ^ n - 1) := by rw [hn]; exact p1
  show qm_PW G mX10_cover z 11 0 0 [vr 26, vi ((1 : Int32) <<< (h.1 26 23 &&& 31) - 1), vi ((1 : Int32) <<< (h.1 26 23 &&& 31) - 1), vi 0, vu] [] h
  rw [e0]
  exact start
def s_twins1 (mi : Nat → Int32) (a : Nat) (s : Int32) : Nat → Int32
  | 0 => s
  | b + 1 => s_twins1 mi a s b + (if mi a = mi b then 1 else 0)
def s_twins (mi : Nat → Int32) : Nat → Int32
  | 0 => 0
  | a + 1 => s_twins1 mi a (s_twins mi a) a
theorem e_twins {G : qm_G} (hG : G.2.2.2.2 = true) (d : Nat) (h : qm_H) {n : Nat} (hn : h.1 26 23 = nI n) (hn6 : n ≤ 6) : qm_Ev G d 0 0 qyX10_twins [.ref 26] h (fun r h' => r = some (.int (s_twins (h.1 39) n)) ∧ h = h') := by
  refine qm_Ev.by (M := mX10_twins) okX10_twins (Nat.le_of_ble_eq_true rfl) hG fun z hA => ?_
  refine qm_wp_ok hA [4] 20 _ _ _ _ _ _ ?_
  refine qm_for (P := fun i => qm_PW G mX10_twins z 4 0 0 [vr 26, vi (s_twins (h.1 39) i), vi (nI i), vu] [] h) (N := n) ?_ ?_
  · exact qm_wp_ok hA [] 20 _ _ _ _ _ _ ⟨rfl, fun _ => ⟨trivial, rfl, rfl⟩, fun (q : ¬ h.1 26 23 ≤ nI n) => absurd (by rw [hn]; exact Int32.le_refl _) q⟩
  · intro i hi key
    rw [s_twins, ← nI_1] at key
    have hii : vp_in (nI i) 6 := vp_in_nI (by omega) (by decide)
    refine qm_wp_ok hA [4, 10] 20 _ _ _ _ _ _ ⟨rfl, fun (q : h.1 26 23 ≤ nI i) => absurd q (by rw [hn]; exact nI_ge hi (by omega)), fun _ => ?_⟩
    refine qm_for (P := fun j => qm_PW G mX10_twins z 10 0 0 [vr 26, vi (s_twins1 (h.1 39) i (s_twins (h.1 39) i) j), vi (nI i), vi (nI j)] [] h) (N := i) ?_ ?_
    · exact qm_wp_ok hA [4] 20 _ _ _ _ _ _ ⟨fun _ => qm_PW.mask [true, true, true, false] key, fun q => absurd (Int32.le_refl _) q⟩
    · intro j hj key2
      rw [s_twins1, ← nI_1] at key2
      have hij : vp_in (nI j) 6 := vp_in_nI (by omega) (by decide)
      refine qm_wp_ok hA [10] 40 _ _ _ _ _ _ ⟨fun q => absurd q (nI_ge hj (by omega)), fun _ => ⟨rfl, _, rfl, rfl, hii, rfl, _, rfl, rfl, hij, ?_⟩⟩
      rw [nI_clamp (by omega), nI_clamp (by omega)]
      exact ⟨fun hb => by rw [if_neg hb] at key2; exact key2, fun hb => by rw [if_pos hb] at key2; exact key2⟩
end
section
/-! the reference: logs -/
def gw (h : qm_H) (l : Nat) : Nat → Int32 := fun j => h.1 34 (17 * l + j)
def VL (w : Nat → Int32) (m : Nat) : Prop := m ≤ 8 ∧ w 0 = nI m ∧ ∀ k, k < m → (w (1 + 2 * k) = 0 ∨ w (1 + 2 * k) = 1) ∧ ∃ f, f < 6 ∧ w (1 + 2 * k + 1) = nI f
theorem e_linesOf {G : qm_G} (hG : G.2.2.2.2 = true) (d : Nat) (h : qm_H) {l : Nat} (hl : h.1 26 41 = nI l) (hk : l < 2) : qm_Ev G d 0 0 qyX10_linesOf [.ref 26] h (fun r h' => r = some (.int (gw h l 0)) ∧ h = h') := by
  refine qm_Ev.run (M := mX10_linesOf) okX10_linesOf rfl hG fun z => ?_
  have e : (17 : Int32) * h.1 26 41 = nI (17 * l) := by rw [hl, ← pk_mul]; rfl
  refine ⟨rfl, _, rfl, rfl, rfl, ?_, trivial, ?_, rfl⟩
  · show vp_in ((17 : Int32) * h.1 26 41) 136
    rw [e]; exact vp_in_nI (by omega) (by decide)
  · show some (Value.int (h.1 34 ((17 : Int32) * h.1 26 41).toNatClampNeg)) = _
    rw [e, nI_clamp (by omega)]
    rfl
theorem e_lineOf {G : qm_G} (hG : G.2.2.2.2 = true) (d : Nat) (h : qm_H) {l k j : Nat} (hl : h.1 26 41 = nI l) (hk : l < 2) (hkk : k < 8) (hj : j < 2) : qm_Ev G d 0 0 qyX10_lineOf [.ref 26, .int (nI k), .int (nI j)] h (fun r h' => r = some (.int (gw h l (1 + 2 * k + j))) ∧ h = h') := by
  refine qm_Ev.run (M := mX10_lineOf) okX10_lineOf rfl hG fun z => ?_
  have e : (17 : Int32) * h.1 26 41 + 1 + 2 * nI k + nI j = nI (17 * l + (1 + 2 * k + j)) := by
    rw [hl, show (17 : Int32) = nI 17 from rfl, show (2 : Int32) = nI 2 from rfl, show (1 : Int32) = nI 1 from rfl, pk_mul, pk_mul, nI_add, nI_add, nI_add]
    congr 1
    omega
  refine ⟨rfl, _, rfl, rfl, rfl, ?_, trivial, ?_, rfl⟩
  · show vp_in ((17 : Int32) * h.1 26 41 + 1 + 2 * nI k + nI j) 136
    rw [e]; exact vp_in_nI (by omega) (by decide)
  · show some (Value.int (h.1 34 ((17 : Int32) * h.1 26 41 + 1 + 2 * nI k + nI j).toNatClampNeg)) = _
    rw [e, nI_clamp (by omega)]
    rfl
theorem e_hasLog {G : qm_G} (hG : G.2.2.2.2 = true) (d : Nat) (h : qm_H) (k : Int32) : qm_Ev G (d + 2) 0 0 qyX10_hasLog [.ref 26, .int k] h (fun r h' => r = some (.int (b2 (decide (0 ≤ k ∧ k ≤ h.1 31 2 - 1)))) ∧ h' = qm_si h 26 41 k) := by
  refine qm_Ev.run (M := mX10_hasLog) okX10_hasLog rfl hG fun z => ?_
  refine ⟨rfl, trivial, rfl, ?_⟩
  refine ⟨0, 0, _, e_is hG d (qm_si h 26 41 k) (s := 2) (by decide) k, ⟨Nat.le_refl _, Nat.le_refl _⟩, ?_⟩
  rintro _ _ ⟨rfl, rfl⟩
  exact ⟨b2_and _, rfl, rfl⟩
/-- a set fits a log's first lines -/
def s_fit (w lg : Nat → Int32) (set : Int32) : Nat → Bool
  | 0 => decide (s_closed w set 6 = set)
  | k + 1 => s_fit w lg set k && (bit set (lg (1 + 2 * k + 1)) == decide (lg (1 + 2 * k) = 1))
theorem s_fit_no {w lg : Nat → Int32} {set : Int32} {k : Nat} (h : s_fit w lg set k = false) : ∀ m, k ≤ m → s_fit w lg set m = false := by
  intro m
  induction m with
  | zero => intro hk; rw [show k = 0 by omega] at h; exact h
  | succ m ih =>
    intro hk
    rcases Nat.lt_or_ge m k with q | q
    · rw [show k = m + 1 by omega] at h; exact h
    · rw [s_fit, ih q]; rfl
theorem e_isFit {G : qm_G} (hG : G.2.2.2.2 = true) (d : Nat) (h : qm_H) {t l m : Nat} (ht : h.1 26 22 = nI t) (hk : t < 2) (hl : h.1 26 41 = nI l) (hl2 : l < 2) (hV : VL (gw h l) m) (set : Int32) : qm_Ev G (d + 2) 0 0 qyX10_isFit [.ref 26, .int set] h (fun r h' => r = some (.int (b2 (s_fit (tw h t) (gw h l) set m))) ∧ h = h') := by
  refine qm_Ev.by (M := mX10_isFit) okX10_isFit (Nat.le_of_ble_eq_true rfl) hG fun z hA => ?_
  obtain ⟨m8, hm0, hml⟩ := hV
  have start : qm_PW G mX10_isFit z 11 0 0 [vr 26, vi set, vi (b2 (s_fit (tw h t) (gw h l) set 0)), vi (nI 0)] [] h := by
    refine qm_for (P := fun i => qm_PW G mX10_isFit z 11 0 0 [vr 26, vi set, vi (b2 (s_fit (tw h t) (gw h l) set i)), vi (nI i)] [] h) (N := m) ?_ ?_
    · refine qm_wp_ok hA [] 20 _ _ _ _ _ _ ⟨rfl, 0, 0, _, e_linesOf hG (d + 1) h hl hl2, ⟨Nat.le_refl _, Nat.le_refl _⟩, ?_⟩
      rintro _ _ ⟨rfl, rfl⟩
      rw [hm0]
      exact ⟨fun _ => ⟨b2_and _, rfl, rfl⟩, fun q => absurd (Int32.le_refl _) q⟩
    · intro i hi key
      rw [← nI_1] at key
      obtain ⟨hline, f, hf, hfe⟩ := hml i hi
      refine qm_wp_ok hA [11] 60 _ _ _ _ _ _ ⟨rfl, 0, 0, _, e_linesOf hG (d + 1) h hl hl2, ⟨Nat.le_refl _, Nat.le_refl _⟩, ?_⟩
      rintro _ _ ⟨rfl, rfl⟩
      rw [hm0]
      refine ⟨fun q => absurd q (nI_ge hi (by omega)), fun _ => ?_⟩
      refine b2_eq (fun hb => ?_) (fun hb => ?_)
      · rw [s_fit, hb, Bool.true_and] at key
        refine ⟨rfl, 0, 0, _, e_lineOf hG (d + 1) h (k := i) (j := 1) hl hl2 (by omega) (by decide), ⟨Nat.le_refl _, Nat.le_refl _⟩, ?_⟩
        rintro _ _ ⟨rfl, rfl⟩
        refine ⟨0, 0, _, e_has hG (d + 1) h set (gw h l (1 + 2 * i + 1)), ⟨Nat.le_refl _, Nat.le_refl _⟩, ?_⟩
        rintro _ _ ⟨rfl, rfl⟩
        refine ⟨rfl, 0, 0, _, e_lineOf hG (d + 1) h (k := i) (j := 0) hl hl2 (by omega) (by decide), ⟨Nat.le_refl _, Nat.le_refl _⟩, ?_⟩
        rintro _ _ ⟨rfl, rfl⟩
        refine ⟨fun (c : ¬ gw h l (1 + 2 * i) = 1) => ?_, fun (c : gw h l (1 + 2 * i) = 1) => ?_⟩
        · rw [decide_eq_false c] at key
          cases hx : bit set (gw h l (1 + 2 * i + 1)) with
          | true => rw [hx] at key; exact ⟨fun _ => key, fun q => absurd q (by decide)⟩
          | false => rw [hx] at key; exact ⟨fun q => absurd rfl q, fun _ => key⟩
        · rw [decide_eq_true c] at key
          cases hx : bit set (gw h l (1 + 2 * i + 1)) with
          | true => rw [hx] at key; exact ⟨fun q => absurd rfl q, fun _ => key⟩
          | false => rw [hx] at key; exact ⟨fun _ => key, fun q => absurd q (by decide)⟩
      · rw [hb]
        exact ⟨rfl, by rw [s_fit_no hb m (by omega)], rfl⟩
  refine qm_wp_ok hA [11] 30 _ _ _ _ _ _ ⟨rfl, 0, 0, _, e_closed hG d h ht hk set, ⟨Nat.le_refl _, Nat.le_refl _⟩, ?_⟩
  rintro _ _ ⟨rfl, rfl⟩
  rw [s_fit] at start
  exact ⟨fun c => by rw [decide_eq_false c] at start; exact start, fun c => by rw [decide_eq_true c] at start; exact start⟩
/-- the sets that fit, one behind the other -/
def s_lay (w lg : Nat → Int32) (m : Nat) (a : Nat → Int32) : Nat → Nat × (Nat → Int32)
  | 0 => (0, a)
  | k + 1 => if s_fit w lg (nI k) m then ((s_lay w lg m a k).1 + 1, va_up (s_lay w lg m a k).2 (s_lay w lg m a k).1 (nI k)) else s_lay w lg m a k
theorem s_lay_le (w lg : Nat → Int32) (m : Nat) (a : Nat → Int32) : ∀ k, (s_lay w lg m a k).1 ≤ k
  | 0 => Nat.le_refl 0
  | k + 1 => by
    have ih := s_lay_le w lg m a k
    rw [s_lay]
    split
    · exact Nat.succ_le_succ ih
    · omega
def s_many (a : Nat → Int32) (f : Int32) : Nat → Int32
  | 0 => 0
  | k + 1 => s_many a f k + b2 (bit (a k) f)
theorem e_manyHave {G : qm_G} (hG : G.2.2.2.2 = true) (d : Nat) (h : qm_H) {c : Nat} (hc : h.1 26 43 = nI c) (hc64 : c ≤ 64) (f : Int32) : qm_Ev G (d + 1) 0 0 qyX10_manyHave [.ref 26, .int f] h (fun r h' => r = some (.int (s_many (h.1 48) f c)) ∧ h = h') := by
  refine qm_Ev.by (M := mX10_manyHave) okX10_manyHave (Nat.le_of_ble_eq_true rfl) hG fun z hA => ?_
  refine qm_wp_ok hA [4] 20 _ _ _ _ _ _ ?_
  refine qm_for (P := fun i => qm_PW G mX10_manyHave z 4 0 0 [vr 26, vi f, vi (s_many (h.1 48) f i), vi (nI i)] [] h) (N := c) ?_ ?_
  · exact qm_wp_ok hA [] 20 _ _ _ _ _ _ ⟨rfl, fun _ => ⟨trivial, rfl, rfl⟩, fun (q : ¬ h.1 26 43 ≤ nI c) => absurd (by rw [hc]; exact Int32.le_refl _) q⟩
  · intro i hi key
    rw [s_many, ← nI_1] at key
    have hin : vp_in (nI i) 64 := vp_in_nI (by omega) (by decide)
    refine qm_wp_ok hA [4] 40 _ _ _ _ _ _ ⟨rfl, fun (q : h.1 26 43 ≤ nI i) => absurd q (by rw [hc]; exact nI_ge hi (by omega)), fun _ => ⟨rfl, _, rfl, rfl, hin, ?_⟩⟩
    rw [nI_clamp (by omega)]
    refine ⟨0, 0, _, e_has hG d h (h.1 48 i) f, ⟨Nat.le_refl _, Nat.le_refl _⟩, ?_⟩
    rintro _ _ ⟨rfl, rfl⟩
    exact b2_eq (fun hb => by rw [hb] at key; exact key) (fun hb => by rw [hb] at key; exact key)
def s_sure (a : Nat → Int32) : Nat → Int32
  | 0 => 63
  | k + 1 => s_sure a k &&& a k
theorem e_sure {G : qm_G} (hG : G.2.2.2.2 = true) (d : Nat) (h : qm_H) {c : Nat} (hc : h.1 26 43 = nI c) (hc64 : c ≤ 64) : qm_Ev G d 0 0 qyX10_sure [.ref 26] h (fun r h' => r = some (.int (if c = 0 then -1 else s_sure (h.1 48) c)) ∧ h = h') := by
  refine qm_Ev.by (M := mX10_sure) okX10_sure (Nat.le_of_ble_eq_true rfl) hG fun z hA => ?_
  refine qm_wp_ok hA [4] 20 _ _ _ _ _ _ ?_
  refine qm_for (P := fun i => qm_PW G mX10_sure z 4 0 0 [vr 26, vi (s_sure (h.1 48) i), vi (nI i)] [] h) (N := c) ?_ ?_
  · refine qm_wp_ok hA [] 20 _ _ _ _ _ _ ⟨rfl, fun _ => ⟨rfl, fun (q : ¬ h.1 26 43 = 0) => ?_, fun (q : h.1 26 43 = 0) => ?_⟩, fun (q : ¬ h.1 26 43 ≤ nI c) => absurd (by rw [hc]; exact Int32.le_refl _) q⟩
    · refine ⟨trivial, ?_, rfl⟩
      rw [if_neg (fun e => q (by rw [hc, e]; rfl))]
    · refine ⟨trivial, ?_, rfl⟩
      rw [if_pos ((nI_eq (by omega) (by decide)).mp (hc.symm.trans q : nI c = nI 0))]
  · intro i hi key
    rw [s_sure, ← nI_1] at key
    have hin : vp_in (nI i) 64 := vp_in_nI (by omega) (by decide)
    refine qm_wp_ok hA [4] 40 _ _ _ _ _ _ ⟨rfl, fun (q : h.1 26 43 ≤ nI i) => absurd q (by rw [hc]; exact nI_ge hi (by omega)), fun _ => ⟨rfl, _, rfl, rfl, hin, ?_⟩⟩
    rw [nI_clamp (by omega)]
    exact key
def s_whose (w lg mi : Nat → Int32) (m : Nat) : Nat → Int32
  | 0 => 0
  | p + 1 => s_whose w lg mi m p ||| (if s_fit w lg (mi p) m then 1 <<< (nI p &&& 31) else 0)
theorem e_whose {G : qm_G} (hG : G.2.2.2.2 = true) (d : Nat) (h : qm_H) {t n l m : Nat} (ht : h.1 26 22 = nI t) (hk : t < 2) (hn : h.1 26 23 = nI n) (hn6 : n ≤ 6) (hl : h.1 26 41 = nI l) (hl2 : l < 2) (hV : VL (gw h l) m) : qm_Ev G (d + 3) 0 0 qyX10_whose [.ref 26] h (fun r h' => r = some (.int (s_whose (tw h t) (gw h l) (h.1 39) m n)) ∧ h = h') := by
  refine qm_Ev.by (M := mX10_whose) okX10_whose (Nat.le_of_ble_eq_true rfl) hG fun z hA => ?_
  refine qm_wp_ok hA [4] 20 _ _ _ _ _ _ ?_
  refine qm_for (P := fun i => qm_PW G mX10_whose z 4 0 0 [vr 26, vi (s_whose (tw h t) (gw h l) (h.1 39) m i), vi (nI i)] [] h) (N := n) ?_ ?_
  · exact qm_wp_ok hA [] 20 _ _ _ _ _ _ ⟨rfl, fun _ => ⟨trivial, rfl, rfl⟩, fun (q : ¬ h.1 26 23 ≤ nI n) => absurd (by rw [hn]; exact Int32.le_refl _) q⟩
  · intro i hi key
    rw [s_whose, ← nI_1] at key
    have hin : vp_in (nI i) 6 := vp_in_nI (by omega) (by decide)
    refine qm_wp_ok hA [4] 40 _ _ _ _ _ _ ⟨rfl, fun (q : h.1 26 23 ≤ nI i) => absurd q (by rw [hn]; exact nI_ge hi (by omega)), fun _ => ⟨rfl, _, rfl, rfl, hin, rfl, ?_⟩⟩
    rw [nI_clamp (by omega)]
    refine ⟨0, 0, _, e_isFit hG d h ht hk hl hl2 hV (h.1 39 i), ⟨Nat.le_refl _, Nat.le_refl _⟩, ?_⟩
    rintro _ _ ⟨rfl, rfl⟩
    exact b2_eq (fun hb => by rw [if_pos hb] at key; exact key) (fun hb => by rw [if_neg (by rw [hb]; decide)] at key; exact key)
end
section
/-! the reference: the sets that fit, laid; the best to tell; the loudest; how many tellings are left -/
/-- a town in hand, a log laid -/
def LG (h h' : qm_H) (t l m : Nat) : Prop := ∃ h1, HD (qm_si h 26 41 (nI l)) h1 t ∧ h'.1 26 43 = nI (s_lay (tw h t) (gw h l) m (h.1 48) 64).1 ∧ h'.1 48 = (s_lay (tw h t) (gw h l) m (h.1 48) 64).2 ∧ sb [26, 48] h1 h' ∧ ∀ k, k ≠ 43 → h'.1 26 k = h1.1 26 k
theorem e_layLog {G : qm_G} (hG : G.2.2.2.2 = true) (d : Nat) (h : qm_H) {mt ml : Nat} (hm : h.1 31 0 = nI mt) (hm2 : mt ≤ 2) (hl : h.1 31 2 = nI ml) (hl2 : ml ≤ 2) (lm : Nat → Nat) (hV : ∀ l, l < ml → VL (gw h l) (lm l)) (a b : Int32) : qm_Ev G (d + 3) 0 0 qyX10_layLog [.ref 26, .int a, .int b] h (fun r h' => (∃ t l, t < mt ∧ l < ml ∧ a = nI t ∧ b = nI l ∧ r = some (.int 1) ∧ LG h h' t l (lm l)) ∨ (¬ (inR b ml ∧ inR a mt) ∧ r = some (.int 0) ∧ pers h h')) := by
  refine qm_Ev.by (M := mX10_layLog) okX10_layLog (Nat.le_of_ble_eq_true rfl) hG fun z hA => ?_
  refine qm_wp_ok hA [15] 30 _ _ _ _ _ _ ⟨rfl, 0, 0, _, e_hasLog hG d h b, ⟨Nat.le_refl _, Nat.le_refl _⟩, ?_⟩
  rintro _ _ ⟨rfl, rfl⟩
  rw [hl]
  refine b2_eq (fun hb => ?_) (fun hb => ⟨rfl, Or.inr ⟨fun q => of_decide_eq_false hb q.1, rfl, pers.rf.s26⟩⟩)
  have hb1 := of_decide_eq_true hb
  obtain ⟨l, hll, rfl⟩ := in_of hb1.1 hb1.2 (by omega)
  refine ⟨rfl, 0, 0, _, e_hand hG d (qm_si h 26 41 (nI l)) (mt := mt) hm hm2 a, ⟨Nat.le_refl _, Nat.le_refl _⟩, ?_⟩
  rintro _ h1 (⟨t, ht, rfl, rfl, e1⟩ | ⟨e0, rfl, rfl⟩)
  · refine ⟨fun _ => ⟨rfl, trivial, ?_⟩, fun q => absurd q (by decide)⟩
    have c1 : h1.1 26 41 = nI l := (e1.2.2.2.2.2 41 (by decide)).trans rfl
    have c2 : h1.1 32 = h.1 32 := e1.2.2.2.2.1 32 (by decide)
    have c3 : h1.1 34 = h.1 34 := e1.2.2.2.2.1 34 (by decide)
    have c4 : h1.1 48 = h.1 48 := e1.2.2.2.2.1 48 (by decide)
    have loop : ∀ r i : Nat, i + r = 64 → ∀ h' : qm_H, h'.1 26 43 = nI (s_lay (tw h t) (gw h l) (lm l) (h.1 48) i).1 → h'.1 48 = (s_lay (tw h t) (gw h l) (lm l) (h.1 48) i).2 → sb [26, 48] h1 h' → (∀ k, k ≠ 43 → h'.1 26 k = h1.1 26 k) → qm_PW G mX10_layLog z 15 0 0 [vr 26, vi (nI t), vi (nI l), vi (nI i)] [] h' := by
      intro r
      induction r with
      | zero =>
        intro i hi h' f1 f2 f3 f4
        obtain rfl : i = 64 := hi
        exact qm_wp_ok hA [] 20 _ _ _ _ _ _ ⟨fun _ => ⟨rfl, Or.inl ⟨t, l, ht, hll, rfl, rfl, rfl, h1, e1, f1, f2, f3, f4⟩⟩, fun q => absurd (by decide) q⟩
      | succ r ih =>
        intro i hi h' f1 f2 f3 f4
        have g1 : tw h' t = tw h t := by
          unfold tw
          rw [f3.2 32 (by decide), c2]
        have g2 : gw h' l = gw h l := by
          unfold gw
          rw [f3.2 34 (by decide), c3]
        have hle := s_lay_le (tw h t) (gw h l) (lm l) (h.1 48) i
        refine qm_wp_ok hA [15] 60 _ _ _ _ _ _ ⟨fun q => absurd q (nI_ge (by omega : i < 64) (by decide)), fun _ => ⟨rfl, 0, 0, _, e_isFit hG d h' (t := t) (l := l) (m := lm l) (by rw [f4 22 (by decide)]; exact e1.2.1) (by omega) (by rw [f4 41 (by decide)]; exact c1) (by omega) (by rw [g2]; exact hV l hll) (nI i), ⟨Nat.le_refl _, Nat.le_refl _⟩, ?_⟩⟩
        rintro _ _ ⟨rfl, rfl⟩
        rw [g1, g2]
        refine b2_eq (fun hb2 => ?_) (fun hb2 => ?_)
        · have hin : vp_in (h'.1 26 43) 64 := by rw [f1]; exact vp_in_nI (by omega) (by decide)
          refine ⟨rfl, _, rfl, rfl, rfl, hin, rfl, rfl, trivial, ?_⟩
          have e3 : (h'.1 26 43).toNatClampNeg = (s_lay (tw h t) (gw h l) (lm l) (h.1 48) i).1 := by rw [f1]; exact nI_clamp (by omega)
          have k := ih (i + 1) (by omega) (qm_si (qm_si h' 48 (h'.1 26 43).toNatClampNeg (nI i)) 26 43 (h'.1 26 43 + 1)) (by
              rw [s_lay, if_pos hb2, si_row, up_s, f1]
              exact nI_1 _) (by
              rw [s_lay, if_pos hb2, si_ne _ _ _ (by decide), si_row, e3, f2]) ((f3.si (by decide)).si (by decide)) (fun k hk => by
              rw [si_row, up_n _ _ hk, si_ne _ _ _ (by decide)]
              exact f4 k hk)
          rw [← nI_1] at k
          exact k
        · have k := ih (i + 1) (by omega) h' (by rw [s_lay, if_neg (by rw [hb2]; decide)]; exact f1) (by rw [s_lay, if_neg (by rw [hb2]; decide)]; exact f2) f3 f4
          rw [← nI_1] at k
          exact k
    exact loop 64 0 rfl (qm_si h1 26 43 0) rfl c4 (sb.rf.si (by decide)) (fun k hk => by rw [si_row, up_n _ _ hk])
  · exact ⟨fun q => absurd rfl q, fun _ => ⟨rfl, Or.inr ⟨fun q => e0 q.2, rfl, pers.rf.s26⟩⟩⟩
def s_next (a : Nat → Int32) (c : Nat) : Nat → Int32 × Int32
  | 0 => (-1, 1000000)
  | f + 1 => (if (s_next a c f).2 ≤ mx (s_many a (nI f) c) (nI c - s_many a (nI f) c) then (s_next a c f).1 else nI f, mn (s_next a c f).2 (mx (s_many a (nI f) c) (nI c - s_many a (nI f) c)))
theorem e_next {G : qm_G} (hG : G.2.2.2.2 = true) (d : Nat) (h : qm_H) {c : Nat} (hc : h.1 26 43 = nI c) (hc64 : c ≤ 64) : qm_Ev G (d + 2) 0 0 qyX10_next [.ref 26] h (fun r h' => r = some (.int (if c = 0 then -1 else (s_next (h.1 48) c 6).1)) ∧ h = h') := by
  refine qm_Ev.by (M := mX10_next) okX10_next (Nat.le_of_ble_eq_true rfl) hG fun z hA => ?_
  refine qm_wp_ok hA [6] 20 _ _ _ _ _ _ ?_
  by_cases c0 : c = 0
  · refine qm_wp_ok hA [] 20 _ _ _ _ _ _ ⟨fun q => absurd q (by decide), fun _ => ⟨rfl, fun _ => ⟨trivial, by rw [if_pos c0], rfl⟩, fun (q : ¬ h.1 26 43 ≤ 0) => absurd (by rw [hc, c0]; decide) q⟩⟩
  · refine qm_for (P := fun i => qm_PW G mX10_next z 6 0 0 [vr 26, vi (s_next (h.1 48) c i).1, vi (s_next (h.1 48) c i).2, vi (nI i), vu] [] h) (N := 6) ?_ ?_
    · exact qm_wp_ok hA [] 20 _ _ _ _ _ _ ⟨fun _ => ⟨trivial, by rw [if_neg c0], rfl⟩, fun q => absurd (by decide) q⟩
    · intro i hi key
      rw [s_next, ← nI_1] at key
      refine qm_wp_ok hA [6] 60 _ _ _ _ _ _ ⟨fun q => absurd q (nI_ge hi (by decide)), fun _ => ⟨rfl, fun (q : h.1 26 43 ≤ 0) => absurd q (by rw [hc]; exact nI_nle (by omega) (by omega)), fun _ => ⟨rfl, 0, 0, _, e_manyHave hG d h hc hc64 (nI i), ⟨Nat.le_refl _, Nat.le_refl _⟩, ?_⟩⟩⟩
      rintro _ _ ⟨rfl, rfl⟩
      refine ⟨rfl, rfl, 0, 0, _, e_manyHave hG d h hc hc64 (nI i), ⟨Nat.le_refl _, Nat.le_refl _⟩, ?_⟩
      rintro _ _ ⟨rfl, rfl⟩
      refine ⟨0, 0, _, e_greater hG (d + 1) h (s_many (h.1 48) (nI i) c) (h.1 26 43 - s_many (h.1 48) (nI i) c), ⟨Nat.le_refl _, Nat.le_refl _⟩, ?_⟩
      rintro _ _ ⟨rfl, rfl⟩
      rw [hc]
      refine ⟨fun q => ?_, fun q => ?_⟩
      · refine ⟨0, 0, _, e_lesser hG (d + 1) h _ _, ⟨Nat.le_refl _, Nat.le_refl _⟩, ?_⟩
        rintro _ _ ⟨rfl, rfl⟩
        rw [if_pos q] at key
        exact qm_PW.mask [true, true, true, true, false] key
      · refine ⟨0, 0, _, e_lesser hG (d + 1) h _ _, ⟨Nat.le_refl _, Nat.le_refl _⟩, ?_⟩
        rintro _ _ ⟨rfl, rfl⟩
        rw [if_neg q] at key
        exact qm_PW.mask [true, true, true, true, false] key
/-- what is learnt by a fact, NONE if he doesn't know it -/
def s_by (w mi : Nat → Int32) (n p f : Nat) : Int32 := if bit (mi p) (nI f) then s_learnt w mi p f n else -1
def s_best (w mi : Nat → Int32) (n p : Nat) : Nat → Int32 × Int32
  | 0 => (-1, -1)
  | f + 1 => (if s_by w mi n p f ≤ (s_best w mi n p f).2 then (s_best w mi n p f).1 else nI f, mx (s_best w mi n p f).2 (s_by w mi n p f))
end
section
/-! the reference: the best to tell, the loudest -/
theorem e_bestOf {G : qm_G} (hG : G.2.2.2.2 = true) (d : Nat) (h : qm_H) {t n p : Nat} (ht : h.1 26 22 = nI t) (hk : t < 2) (hn : h.1 26 23 = nI n) (hn6 : n ≤ 6) (hp : p < 6) (b : Bool) : qm_Ev G (d + 3) 0 0 qyX10_bestOf [.ref 26, .int (nI p), .int (b2 b)] h (fun r h' => r = some (.int (if b then mx 0 (s_best (tw h t) (h.1 39) n p 6).2 else (s_best (tw h t) (h.1 39) n p 6).1)) ∧ h = h') := by
  refine qm_Ev.by (M := mX10_bestOf) okX10_bestOf (Nat.le_of_ble_eq_true rfl) hG fun z hA => ?_
  refine qm_wp_ok hA [6] 20 _ _ _ _ _ _ ?_
  refine qm_for (P := fun i => qm_PW G mX10_bestOf z 6 0 0 [vr 26, vi (nI p), vi (b2 b), vi (s_best (tw h t) (h.1 39) n p i).1, vi (s_best (tw h t) (h.1 39) n p i).2, vi (nI i), vu] [] h) (N := 6) ?_ ?_
  · refine qm_wp_ok hA [] 20 _ _ _ _ _ _ ⟨fun _ => ?_, fun q => absurd (by decide) q⟩
    refine b2_eq (fun hb => ?_) (fun hb => ⟨trivial, by rw [if_neg (by rw [hb]; decide)], rfl⟩)
    refine ⟨0, 0, _, e_greater hG _ h 0 _, ⟨Nat.le_refl _, Nat.le_refl _⟩, ?_⟩
    rintro _ _ ⟨rfl, rfl⟩
    exact ⟨trivial, by rw [if_pos hb], rfl⟩
  · intro i hi key
    rw [s_best, ← nI_1] at key
    have hin : vp_in (nI p) 6 := vp_in_nI hp (by decide)
    have m22 : qm_PW G mX10_bestOf z 22 0 0 [vr 26, vi (nI p), vi (b2 b), vi (s_best (tw h t) (h.1 39) n p i).1, vi (s_best (tw h t) (h.1 39) n p i).2, vi (nI i), vu] [.int (s_by (tw h t) (h.1 39) n p i)] h := by
      refine qm_wp_ok hA [6] 40 _ _ _ _ _ _ ⟨fun c => ?_, fun c => ?_⟩
      · refine ⟨0, 0, _, e_greater hG _ h _ _, ⟨Nat.le_refl _, Nat.le_refl _⟩, ?_⟩
        rintro _ _ ⟨rfl, rfl⟩
        rw [if_pos c] at key
        exact qm_PW.mask [true, true, true, true, true, true, false] key
      · refine ⟨0, 0, _, e_greater hG _ h _ _, ⟨Nat.le_refl _, Nat.le_refl _⟩, ?_⟩
        rintro _ _ ⟨rfl, rfl⟩
        rw [if_neg c] at key
        exact qm_PW.mask [true, true, true, true, true, true, false] key
    refine qm_wp_ok hA [22] 40 _ _ _ _ _ _ ⟨fun q => absurd q (nI_ge hi (by decide)), fun _ => ⟨rfl, _, rfl, rfl, hin, ?_⟩⟩
    rw [nI_clamp (by omega)]
    refine ⟨0, 0, _, e_has hG _ h (h.1 39 p) (nI i), ⟨Nat.le_refl _, Nat.le_refl _⟩, ?_⟩
    rintro _ _ ⟨rfl, rfl⟩
    unfold s_by at m22
    refine b2_eq (fun hb => ⟨rfl, ?_⟩) (fun hb => by rw [if_neg (by rw [hb]; decide)] at m22; exact m22)
    refine ⟨0, 0, _, e_learntOf hG d h ht hk hn hn6 hi, ⟨Nat.le_refl _, Nat.le_refl _⟩, ?_⟩
    rintro _ _ ⟨rfl, rfl⟩
    rw [if_pos hb] at m22
    exact m22
/-- the loudest of the first ones: none, or a number below -/
def s_loud (w : Nat → Int32) (n : Nat) : Nat → Option Nat
  | 0 => none
  | p + 1 => match s_loud w n p with
    | none => some p
    | some b => if s_hearers w p n ≤ s_hearers w b n then some b else some p
def s_oi (o : Option Nat) : Int32 := match o with
  | none => -1
  | some p => nI p
theorem s_loud_lt (w : Nat → Int32) (n : Nat) : ∀ p b, s_loud w n p = some b → b < p
  | 0, b, h => by cases h
  | p + 1, b, h => by
    have ih := s_loud_lt w n p
    rw [s_loud] at h
    split at h
    · cases h; omega
    · rename_i b' e
      have := ih b' e
      split at h
      · cases h; omega
      · cases h; omega
theorem e_loudest {G : qm_G} (hG : G.2.2.2.2 = true) (d : Nat) (h : qm_H) {t n : Nat} (ht : h.1 26 22 = nI t) (hk : t < 2) (hn : h.1 26 23 = nI n) (hn6 : n ≤ 6) : qm_Ev G (d + 3) 0 0 qyX10_loudest [.ref 26] h (fun r h' => r = some (.int (s_oi (s_loud (tw h t) n n))) ∧ h = h') := by
  refine qm_Ev.by (M := mX10_loudest) okX10_loudest (Nat.le_of_ble_eq_true rfl) hG fun z hA => ?_
  refine qm_wp_ok hA [4] 20 _ _ _ _ _ _ ?_
  refine qm_for (P := fun i => qm_PW G mX10_loudest z 4 0 0 [vr 26, vi (s_oi (s_loud (tw h t) n i)), vi (nI i)] [] h) (N := n) ?_ ?_
  · exact qm_wp_ok hA [] 20 _ _ _ _ _ _ ⟨rfl, fun _ => ⟨trivial, rfl, rfl⟩, fun (q : ¬ h.1 26 23 ≤ nI n) => absurd (by rw [hn]; exact Int32.le_refl _) q⟩
  · intro i hi key
    rw [← nI_1] at key
    have hlt := s_loud_lt (tw h t) n i
    refine qm_wp_ok hA [4] 40 _ _ _ _ _ _ ⟨rfl, fun (q : h.1 26 23 ≤ nI i) => absurd q (by rw [hn]; exact nI_ge hi (by omega)), fun _ => ?_⟩
    rw [s_loud] at key
    cases hx : s_loud (tw h t) n i with
    | none =>
      rw [hx] at key
      exact ⟨fun _ => key, fun q => absurd rfl q⟩
    | some b =>
      have hb := hlt b hx
      rw [hx] at key
      refine ⟨fun (q : nI b = -1) => absurd (by rw [q]; decide : nI b < 0) (nI_pos (by omega)), fun _ => ⟨rfl, ?_⟩⟩
      refine ⟨0, 0, _, e_hearers hG d h (p := i) ht hk hn hn6, ⟨Nat.le_refl _, Nat.le_refl _⟩, ?_⟩
      rintro _ _ ⟨rfl, rfl⟩
      refine ⟨rfl, 0, 0, _, e_hearers hG d h (p := b) ht hk hn hn6, ⟨Nat.le_refl _, Nat.le_refl _⟩, ?_⟩
      rintro _ _ ⟨rfl, rfl⟩
      exact ⟨fun c => by simp only [if_pos c] at key; exact key, fun c => by simp only [if_neg c] at key; exact key⟩
end
section
/-! bits; the reference: how many tellings are left -/
theorem fa_and (a b : Nat) : nI a &&& nI b = nI (a &&& b) := by
  apply Int32.toBitVec_inj.1
  show BitVec.ofNat 32 a &&& BitVec.ofNat 32 b = BitVec.ofNat 32 (a &&& b)
  apply BitVec.eq_of_getLsbD_eq
  intro i hi
  simp [hi]
theorem fa_or (a b : Nat) : nI a ||| nI b = nI (a ||| b) := by
  apply Int32.toBitVec_inj.1
  show BitVec.ofNat 32 a ||| BitVec.ofNat 32 b = BitVec.ofNat 32 (a ||| b)
  apply BitVec.eq_of_getLsbD_eq
  intro i hi
  simp [hi]
theorem s_toldBy_nat (w : Nat → Int32) {s n : Nat} (p : Nat) (hs : s < 2 ^ n) (hn : n ≤ 6) : ∀ i, i ≤ n → ∃ j, j < 2 ^ n ∧ s_toldBy w (nI s) p i = nI j
  | 0, _ => ⟨s, hs, rfl⟩
  | i + 1, hi => by
    obtain ⟨j, hj, e⟩ := s_toldBy_nat w p hs hn i (by omega)
    rw [s_toldBy, e]
    split
    · rw [(s_pow (by omega : i ≤ 6)).2, fa_or]
      exact ⟨j ||| 2 ^ i, Nat.or_lt_two_pow hj (Nat.pow_lt_pow_right (by decide) (by omega)), rfl⟩
    · rw [show (0 : Int32) = nI 0 from rfl, fa_or, Nat.or_zero]
      exact ⟨j, hj, rfl⟩
def s_left1 (w : Nat → Int32) (n : Nat) (a : Nat → Int32) (set : Nat) (v : Int32) : Nat → Int32
  | 0 => v
  | p + 1 => if bit (nI set) (nI p) = true ∧ ¬ s_toldBy w (nI set) p n = nI set then mn (s_left1 w n a set v p) (a (s_toldBy w (nI set) p n).toNatClampNeg + 1) else s_left1 w n a set v p
def s_left0 (wanted : Int32) (set : Nat) : Int32 := if nI set &&& wanted = wanted then 0 else 1000000
def s_leftOn (w : Nat → Int32) (n : Nat) (wanted : Int32) (a : Nat → Int32) : Nat → (Nat → Int32)
  | 0 => a
  | m + 1 => va_up (s_leftOn w n wanted a m) (2 ^ n - 1 - m) (s_left1 w n (s_leftOn w n wanted a m) (2 ^ n - 1 - m) (s_left0 wanted (2 ^ n - 1 - m)) n)
theorem e_findLeft {G : qm_G} (hG : G.2.2.2.2 = true) (d : Nat) (h : qm_H) {t n : Nat} (ht : h.1 26 22 = nI t) (hk : t < 2) (hn : h.1 26 23 = nI n) (hn6 : n ≤ 6) (wanted : Int32) : qm_Ev G (d + 3) 0 0 qyX10_findLeft [.ref 26, .int wanted] h (fun r h' => r = none ∧ h'.1 43 = s_leftOn (tw h t) n wanted (h.1 43) (2 ^ n) ∧ sb [43] h h') := by
  refine qm_Ev.by (M := mX10_findLeft) okX10_findLeft (Nat.le_of_ble_eq_true rfl) hG fun z hA => ?_
  obtain ⟨p1, -⟩ := s_pow hn6
  obtain ⟨p2, p3⟩ := s_pow6 hn6
  have loop : ∀ r m : Nat, m + r = 2 ^ n → ∀ h' : qm_H, h'.1 43 = s_leftOn (tw h t) n wanted (h.1 43) m → sb [43] h h' → qm_PW G mX10_findLeft z 7 0 0 [vr 26, vi wanted, vi (if m < 2 ^ n then nI (2 ^ n - 1 - m) else -1), vu, vu, vu] [] h' := by
    intro r
    induction r with
    | zero =>
      intro m hm h' e1 e2
      obtain rfl : m = 2 ^ n := hm
      rw [if_neg (Nat.lt_irrefl _)]
      exact qm_wp_ok hA [] 20 _ _ _ _ _ _ ⟨fun _ => ⟨rfl, rfl, e1, e2⟩, fun q => absurd (by decide) q⟩
    | succ r ih =>
      intro m hm h' e1 e2
      have hmn : m < 2 ^ n := by omega
      rw [if_pos hmn]
      obtain ⟨s, hs⟩ : ∃ s, s = 2 ^ n - 1 - m := ⟨_, rfl⟩
      rw [← hs]
      have hs2 : s < 2 ^ n := by omega
      have hin : vp_in (nI s) 64 := vp_in_nI (by omega) (by decide)
      have es : (nI s).toNatClampNeg = s := nI_clamp (by omega)
      obtain ⟨A, hAe⟩ : ∃ A, A = s_leftOn (tw h t) n wanted (h.1 43) m := ⟨_, rfl⟩
      rw [← hAe] at e1
      have done : ∀ h2 : qm_H, h2.1 43 = va_up A s (s_left1 (tw h t) n A s (s_left0 wanted s) n) → sb [43] h h2 → qm_PW G mX10_findLeft z 7 0 0 [vr 26, vi wanted, vi (nI s + -1), vu, vu, vu] [] h2 := by
        intro h2 f1 f2
        have k := ih (m + 1) (by omega) h2 (by rw [f1, s_leftOn, ← hAe, ← hs]) f2
        have e3 : (if m + 1 < 2 ^ n then nI (2 ^ n - 1 - (m + 1)) else (-1 : Int32)) = nI s + -1 := by
          split
          · rw [show s = (2 ^ n - 1 - (m + 1)) + 1 by omega, pk_m1]
          · rw [show s = 0 by omega]; decide
        rw [e3] at k
        exact k
      have inner : ∀ q p : Nat, p + q = n → ∀ h2 : qm_H, h2.1 43 = va_up A s (s_left1 (tw h t) n A s (s_left0 wanted s) p) → sb [43] h h2 → qm_PW G mX10_findLeft z 23 0 0 [vr 26, vi wanted, vi (nI s), vi (nI p), vu, vu] [] h2 := by
        intro q
        induction q with
        | zero =>
          intro p hp h2 f1 f2
          obtain rfl : p = n := hp
          refine qm_wp_ok hA [7] 20 _ _ _ _ _ _ ⟨rfl, fun _ => ?_, fun (q : ¬ h2.1 26 23 ≤ nI p) => absurd (by rw [f2.2 26 (by decide), hn]; exact Int32.le_refl _) q⟩
          exact qm_PW.mask [true, true, true, false, false, false] (done h2 f1 f2)
        | succ q ih2 =>
          intro p hp h2 f1 f2
          have g1 : tw h2 t = tw h t := by
            unfold tw
            rw [f2.2 32 (by decide)]
          obtain ⟨j, hj, ej⟩ := s_toldBy_nat (tw h t) (s := s) (n := n) p hs2 hn6 n (Nat.le_refl n)
          have hinj : vp_in (nI j) 64 := vp_in_nI (by omega) (by decide)
          have ejn : (nI j).toNatClampNeg = j := nI_clamp (by omega)
          have step : ∀ v : Int32, v = s_left1 (tw h t) n A s (s_left0 wanted s) (p + 1) → ∀ L4 L5 : Option Value, qm_PW G mX10_findLeft z 23 0 0 [vr 26, vi wanted, vi (nI s), vi (nI p + 1), L4, L5] [] (qm_si h2 43 s v) := by
            intro v hv L4 L5
            have k := ih2 (p + 1) (by omega) (qm_si h2 43 s v) (by rw [si_row, f1, bx_uu, hv]) (f2.si (by decide))
            rw [← nI_1] at k
            exact qm_PW.mask [true, true, true, true, false, false] k
          have m42 : qm_PW G mX10_findLeft z 42 0 0 [vr 26, vi wanted, vi (nI s), vi (nI p), vi (nI j), vu] [.int (b2 (decide (bit (nI s) (nI p) = true ∧ ¬ nI j = nI s)))] h2 := by
            refine qm_wp_ok hA [23] 60 _ _ _ _ _ _ ⟨rfl, _, rfl, ?_⟩
            refine b2_eq (fun hb => ?_) (fun hb => ?_)
            · have hb1 := of_decide_eq_true hb
              refine ⟨rfl, _, rfl, rfl, hin, rfl, _, rfl, rfl, hinj, ?_⟩
              rw [es, ejn]
              refine ⟨0, 0, _, e_lesser hG _ h2 _ _, ⟨Nat.le_refl _, Nat.le_refl _⟩, ?_⟩
              rintro _ _ ⟨rfl, rfl⟩
              refine ⟨rfl, hin, ?_⟩
              rw [es]
              refine step _ ?_ _ _
              rw [s_left1, if_pos (by rw [ej]; exact hb1), ej, ejn, f1, up_s, up_n _ _ (fun e => hb1.2 (by rw [e]))]
            · have hb1 := of_decide_eq_false hb
              refine ⟨rfl, _, rfl, rfl, hin, rfl, hin, ?_⟩
              rw [es]
              refine step _ ?_ _ _
              rw [s_left1, if_neg (by rw [ej]; exact hb1), f1, up_s]
          refine qm_wp_ok hA [42] 40 _ _ _ _ _ _ ⟨rfl, fun (q : h2.1 26 23 ≤ nI p) => absurd q (by rw [f2.2 26 (by decide), hn]; exact nI_ge (by omega) (by omega)), fun _ => ⟨rfl, 0, 0, _, e_toldBy hG d h2 (t := t) (n := n) (p := p) (by rw [f2.2 26 (by decide), ht]) hk (by rw [f2.2 26 (by decide), hn]) hn6 (nI s), ⟨Nat.le_refl _, Nat.le_refl _⟩, ?_⟩⟩
          rintro _ _ ⟨rfl, rfl⟩
          rw [g1, ej]
          refine ⟨0, 0, _, e_has hG _ h2 (nI s) (nI p), ⟨Nat.le_refl _, Nat.le_refl _⟩, ?_⟩
          rintro _ _ ⟨rfl, rfl⟩
          refine b2_eq (fun hb => ⟨fun c => ?_, fun c => ?_⟩) (fun hb => ?_)
          · rw [decide_eq_false (fun q => q.2 c)] at m42
            exact m42
          · rw [decide_eq_true ⟨hb, c⟩] at m42
            exact m42
          · rw [decide_eq_false (fun q => by rw [hb] at q; exact absurd q.1 (by decide))] at m42
            exact m42
      have first : ∀ v : Int32, v = s_left0 wanted s → qm_PW G mX10_findLeft z 23 0 0 [vr 26, vi wanted, vi (nI s), vi 0, vu, vu] [] (qm_si h' 43 s v) := fun v hv => inner n 0 (Nat.zero_add n) _ (by rw [si_row, e1, hv]; rfl) (e2.si (by decide))
      refine qm_wp_ok hA [23] 40 _ _ _ _ _ _ ⟨fun q => absurd q (nI_pos (by omega)), fun _ => ⟨rfl, _, rfl, fun c => ⟨rfl, hin, ?_⟩, fun c => ⟨rfl, hin, ?_⟩⟩⟩
      · rw [es]
        exact first _ (by rw [s_left0, if_neg c])
      · rw [es]
        exact first _ (by rw [s_left0, if_pos c])
  refine qm_wp_ok hA [7] 20 _ _ _ _ _ _ ⟨rfl, ?_⟩
  have e0 : (1 : Int32) <<< (h.1 26 23 &&& 31) - 1 = nI (2 ^ n - 1) := by rw [hn]; exact p1
  show qm_PW G mX10_findLeft z 7 0 0 [vr 26, vi wanted, vi ((1 : Int32) <<< (h.1 26 23 &&& 31) - 1), vu, vu, vu] [] h
  rw [e0]
  have k := loop (2 ^ n) 0 (Nat.zero_add _) h rfl sb.rf
  rw [if_pos p3] at k
  exact k
end
section
/-! the reference: rows of tellings, the bell -/
theorem s_pow7 {n : Nat} (hn : n ≤ 6) : 7 ^ n ≤ 117649 ∧ 0 < 7 ^ n := by
  match n, hn with
  | 0, _ => decide
  | 1, _ => decide
  | 2, _ => decide
  | 3, _ => decide
  | 4, _ => decide
  | 5, _ => decide
  | 6, _ => decide
theorem e_rows {G : qm_G} (hG : G.2.2.2.2 = true) (d : Nat) (h : qm_H) {n : Nat} (hn : h.1 26 23 = nI n) (hn6 : n ≤ 6) : qm_Ev G d 0 0 qyX10_rows [.ref 26] h (fun r h' => r = some (.int (nI (7 ^ n))) ∧ h = h') := by
  refine qm_Ev.by (M := mX10_rows) okX10_rows (Nat.le_of_ble_eq_true rfl) hG fun z hA => ?_
  refine qm_wp_ok hA [4] 20 _ _ _ _ _ _ ?_
  refine qm_for (P := fun i => qm_PW G mX10_rows z 4 0 0 [vr 26, vi (nI (7 ^ i)), vi (nI i)] [] h) (N := n) ?_ ?_
  · exact qm_wp_ok hA [] 20 _ _ _ _ _ _ ⟨rfl, fun _ => ⟨trivial, rfl, rfl⟩, fun (q : ¬ h.1 26 23 ≤ nI n) => absurd (by rw [hn]; exact Int32.le_refl _) q⟩
  · intro i hi key
    rw [← nI_1, Nat.pow_succ, ← pk_mul] at key
    exact qm_wp_ok hA [4] 40 _ _ _ _ _ _ ⟨rfl, fun (q : h.1 26 23 ≤ nI i) => absurd q (by rw [hn]; exact nI_ge hi (by omega)), fun _ => key⟩
/-- the p-th of the row of a number -/
def s_dg (n k p : Nat) : Nat := k / 7 ^ (n - 1 - p) % 7
def s_rok (mi : Nat → Int32) (n k p : Nat) : Prop := s_dg n k p < 6 → bit (mi p) (nI (s_dg n k p)) = true
theorem e_layRow {G : qm_G} (hG : G.2.2.2.2 = true) (d : Nat) (h : qm_H) {n k : Nat} (hn : h.1 26 23 = nI n) (hn6 : n ≤ 6) (hk : k < 2 ^ 31) : qm_Ev G (d + 1) 0 0 qyX10_layRow [.ref 26, .int (nI k)] h (fun r h' => sb [44] h h' ∧ ((r = some (.int 1) ∧ ∀ p, p < n → s_rok (h.1 39) n k p ∧ h'.1 44 p = nI (s_dg n k p)) ∨ (r = some (.int 0) ∧ ∃ p, p < n ∧ ¬ s_rok (h.1 39) n k p))) := by
  refine qm_Ev.by (M := mX10_layRow) okX10_layRow (Nat.le_of_ble_eq_true rfl) hG fun z hA => ?_
  have loop : ∀ r m : Nat, m + r = n → ∀ h' : qm_H, sb [44] h h' → (∀ p, n - m ≤ p → p < n → s_rok (h.1 39) n k p ∧ h'.1 44 p = nI (s_dg n k p)) → qm_PW G mX10_layRow z 7 0 0 [vr 26, vi (nI k), vi (nI (k / 7 ^ m)), vi (if m < n then nI (n - 1 - m) else -1)] [] h' := by
    intro r
    induction r with
    | zero =>
      intro m hm h' e1 e2
      obtain rfl : m = n := hm
      rw [if_neg (Nat.lt_irrefl _)]
      exact qm_wp_ok hA [] 20 _ _ _ _ _ _ ⟨fun _ => ⟨rfl, e1, Or.inl ⟨rfl, fun p hp => e2 p (by omega) hp⟩⟩, fun q => absurd (by decide) q⟩
    | succ r ih =>
      intro m hm h' e1 e2
      have hmn : m < n := by omega
      rw [if_pos hmn]
      obtain ⟨p, hp⟩ : ∃ p, p = n - 1 - m := ⟨_, rfl⟩
      rw [← hp]
      have hin : vp_in (nI p) 6 := vp_in_nI (by omega) (by decide)
      have ep : (nI p).toNatClampNeg = p := nI_clamp (by omega)
      have hkm : k / 7 ^ m < 2 ^ 31 := Nat.lt_of_le_of_lt (Nat.div_le_self _ _) hk
      have er : nI (k / 7 ^ m) - nI (k / 7 ^ m) / 7 * 7 = nI (s_dg n k p) := by
        have := pk_rem (a := k / 7 ^ m) (d := 7) hkm (by decide) (by decide)
        rw [show (7 : Int32) = nI 7 from rfl, this]
        unfold s_dg
        rw [show n - 1 - p = m by omega]
      have ed : nI (k / 7 ^ m) / 7 = nI (k / 7 ^ (m + 1)) := by
        rw [show (7 : Int32) = nI 7 from rfl, pk_div hkm (by decide) (by decide), Nat.div_div_eq_div_mul, Nat.pow_succ]
      have hdg : s_dg n k p < 7 := Nat.mod_lt _ (by decide)
      have next : s_rok (h.1 39) n k p → qm_PW G mX10_layRow z 7 0 0 [vr 26, vi (nI k), vi (nI (k / 7 ^ (m + 1))), vi (nI p + -1)] [] (qm_si h' 44 p (nI (s_dg n k p))) := by
        intro hok
        have kk := ih (m + 1) (by omega) (qm_si h' 44 p (nI (s_dg n k p))) (e1.si (by decide)) (fun q hq1 hq2 => by
          by_cases e : q = p
          · subst e
            exact ⟨hok, by rw [si_row, up_s]⟩
          · rw [si_row, up_n _ _ e]
            exact e2 q (by omega) hq2)
        have e3 : (if m + 1 < n then nI (n - 1 - (m + 1)) else (-1 : Int32)) = nI p + -1 := by
          split
          · rw [show p = (n - 1 - (m + 1)) + 1 by omega, pk_m1]
          · rw [show p = 0 by omega]; decide
        rw [e3] at kk
        exact kk
      refine qm_wp_ok hA [7] 60 _ _ _ _ _ _ ⟨fun q => absurd q (nI_pos (by omega)), fun _ => ⟨rfl, _, rfl, by decide, rfl, hin, by decide, rfl, _, rfl, rfl, hin, ?_⟩⟩
      show (6 ≤ (qm_si h' 44 (nI p).toNatClampNeg (nI (k / 7 ^ m) - nI (k / 7 ^ m) / 7 * 7)).1 44 (nI p).toNatClampNeg → _) ∧ (¬ 6 ≤ (qm_si h' 44 (nI p).toNatClampNeg (nI (k / 7 ^ m) - nI (k / 7 ^ m) / 7 * 7)).1 44 (nI p).toNatClampNeg → _)
      rw [ep, er, ed, si_row, up_s]
      refine ⟨fun c => ?_, fun c => ?_⟩
      · have h6 : ¬ s_dg n k p < 6 := fun q => absurd c (nI_ge q (by decide))
        exact next (fun q => absurd q h6)
      · have h6 : s_dg n k p < 6 := by
          rcases Nat.lt_or_ge (s_dg n k p) 6 with q | q
          · exact q
          · exact absurd (nI_le q (by omega) : nI 6 ≤ nI (s_dg n k p)) c
        refine ⟨rfl, _, rfl, rfl, hin, rfl, _, rfl, rfl, hin, ?_⟩
        rw [ep]
        have e4 : (qm_si h' 44 p (nI (s_dg n k p))).1 39 = h.1 39 := (e1.2 39 (by decide))
        have e5 : (qm_si h' 44 p (nI (s_dg n k p))).1 44 p = nI (s_dg n k p) := by rw [si_row, up_s]
        rw [e4, e5]
        refine ⟨0, 0, _, e_has hG d _ (h.1 39 p) (nI (s_dg n k p)), ⟨Nat.le_refl _, Nat.le_refl _⟩, ?_⟩
        rintro _ _ ⟨rfl, rfl⟩
        refine b2_ne (fun hb => next (fun _ => hb)) (fun hb => ⟨rfl, e1.si (by decide), Or.inr ⟨rfl, p, by omega, fun q => ?_⟩⟩)
        rw [q h6] at hb
        cases hb
  refine qm_wp_ok hA [7] 20 _ _ _ _ _ _ ⟨rfl, ?_⟩
  have kk := loop n 0 (Nat.zero_add n) h sb.rf (fun p h1 h2 => absurd h2 (by omega))
  rw [Nat.pow_zero, Nat.div_one] at kk
  have e3 : (if 0 < n then nI (n - 1 - 0) else (-1 : Int32)) = nI n - 1 := by
    split
    · rw [show nI n = nI ((n - 1) + 1) by congr 1; omega, nI_pred, Nat.sub_zero]
    · rw [show n = 0 by omega]; decide
  rw [e3] at kk
  show qm_PW G mX10_layRow z 7 0 0 [vr 26, vi (nI k), vi (nI k), vi (h.1 26 23 - 1)] [] h
  rw [hn]
  exact kk
/-- what o hears in a row -/
def s_rowset (w row : Nat → Int32) (o : Nat) : Nat → Int32
  | 0 => 0
  | p + 1 => s_rowset w row o p ||| (if row p < 6 ∧ s_hears w o p = true then s_whole w (row p).toNatClampNeg else 0)
def s_byRow (w mi row : Nat → Int32) (n : Nat) : Nat → Int32
  | 0 => 0
  | o + 1 => s_byRow w mi row n o + s_worth w (s_rowset w row o n &&& (mi o ^^^ -1)) 6
theorem e_learntByRow {G : qm_G} (hG : G.2.2.2.2 = true) (d : Nat) (h : qm_H) {t n : Nat} (ht : h.1 26 22 = nI t) (hk : t < 2) (hn : h.1 26 23 = nI n) (hn6 : n ≤ 6) (hr : ∀ p, p < n → ∃ f, f < 7 ∧ h.1 44 p = nI f) : qm_Ev G (d + 2) 0 0 qyX10_learntByRow [.ref 26] h (fun r h' => r = some (.int (s_byRow (tw h t) (h.1 39) (h.1 44) n n)) ∧ h = h') := by
  refine qm_Ev.by (M := mX10_learntByRow) okX10_learntByRow (Nat.le_of_ble_eq_true rfl) hG fun z hA => ?_
  refine qm_wp_ok hA [4] 20 _ _ _ _ _ _ ?_
  refine qm_for (P := fun i => qm_PW G mX10_learntByRow z 4 0 0 [vr 26, vi (s_byRow (tw h t) (h.1 39) (h.1 44) n i), vi (nI i), vu, vu] [] h) (N := n) ?_ ?_
  · exact qm_wp_ok hA [] 20 _ _ _ _ _ _ ⟨rfl, fun _ => ⟨trivial, rfl, rfl⟩, fun (q : ¬ h.1 26 23 ≤ nI n) => absurd (by rw [hn]; exact Int32.le_refl _) q⟩
  · intro i hi key
    rw [s_byRow, ← nI_1] at key
    have hii : vp_in (nI i) 6 := vp_in_nI (by omega) (by decide)
    refine qm_wp_ok hA [4, 12] 20 _ _ _ _ _ _ ⟨rfl, fun (q : h.1 26 23 ≤ nI i) => absurd q (by rw [hn]; exact nI_ge hi (by omega)), fun _ => ?_⟩
    refine qm_for (P := fun j => qm_PW G mX10_learntByRow z 12 0 0 [vr 26, vi (s_byRow (tw h t) (h.1 39) (h.1 44) n i), vi (nI i), vi (s_rowset (tw h t) (h.1 44) i j), vi (nI j)] [] h) (N := n) ?_ ?_
    · refine qm_wp_ok hA [4] 40 _ _ _ _ _ _ ⟨rfl, fun _ => ⟨rfl, _, rfl, rfl, hii, rfl, ?_⟩, fun (q : ¬ h.1 26 23 ≤ nI n) => absurd (by rw [hn]; exact Int32.le_refl _) q⟩
      rw [nI_clamp (by omega)]
      refine ⟨0, 0, _, e_worthOf hG d h ht hk _, ⟨Nat.le_refl _, Nat.le_refl _⟩, ?_⟩
      rintro _ _ ⟨rfl, rfl⟩
      exact qm_PW.mask [true, true, true, false, false] key
    · intro j hj key2
      rw [s_rowset, ← nI_1] at key2
      obtain ⟨f, hf, ef⟩ := hr j hj
      have hij : vp_in (nI j) 6 := vp_in_nI (by omega) (by decide)
      refine qm_wp_ok hA [12] 40 _ _ _ _ _ _ ⟨rfl, fun (q : h.1 26 23 ≤ nI j) => absurd q (by rw [hn]; exact nI_ge hj (by omega)), fun _ => ⟨rfl, _, rfl, rfl, hij, ?_⟩⟩
      rw [nI_clamp (by omega)]
      refine ⟨fun c => ?_, fun c => ⟨rfl, ?_⟩⟩
      · rw [if_neg (fun q => absurd q.1 (Int32.not_lt.mpr c))] at key2
        exact key2
      · refine ⟨0, 0, _, e_hears hG d h (t := t) (o := i) (p := j) ht hk (by omega), ⟨Nat.le_refl _, Nat.le_refl _⟩, ?_⟩
        rintro _ _ ⟨rfl, rfl⟩
        refine b2_eq (fun hb => ⟨rfl, _, rfl, rfl, hij, rfl, ?_⟩) (fun hb => by rw [if_neg (fun q => by rw [hb] at q; exact absurd q.2 (by decide))] at key2; exact key2)
        rw [nI_clamp (by omega)]
        have c6 : f < 6 := by
          rcases Nat.lt_or_ge f 6 with q | q
          · exact q
          · exact absurd (by rw [ef]; exact nI_le q (by omega) : (6 : Int32) ≤ h.1 44 j) c
        rw [if_pos ⟨Int32.not_le.mp c, hb⟩, ef, nI_clamp (by omega)] at key2
        rw [ef]
        refine ⟨0, 0, _, e_whole hG d h ht hk c6, ⟨Nat.le_refl _, Nat.le_refl _⟩, ?_⟩
        rintro _ _ ⟨rfl, rfl⟩
        exact key2
end
section
/-! the reference: chains -/
theorem s_or1 {had f : Nat} (hh : had < 64) (hf : f < 6) : nI had ||| (1 <<< (nI f &&& 31)) = nI (had ||| 2 ^ f) ∧ had ||| 2 ^ f < 64 := by
  rw [(s_pow (by omega : f ≤ 6)).2, fa_or]
  exact ⟨rfl, Nat.or_lt_two_pow (n := 6) hh (Nat.pow_lt_pow_right (by decide) hf)⟩
def s_may (w : Nat → Int32) (had ahead f : Nat) : Bool := !bit (nI had) (nI f) && (decide (ahead = 6) || bit (w (7 + ahead)) (nI f))
def s_chainBy (w cp : Nat → Int32) (had ahead f : Nat) : Int32 := if s_may w had ahead f then 1 + cp (64 * f + (had ||| 2 ^ f)) else 0
theorem e_chainBy {G : qm_G} (hG : G.2.2.2.2 = true) (d : Nat) (h : qm_H) {t had ahead f : Nat} (ht : h.1 26 22 = nI t) (hk : t < 2) (hh : had < 64) (ha : ahead ≤ 6) (hf : f < 6) : qm_Ev G (d + 1) 0 0 qyX10_chainBy [.ref 26, .int (nI had), .int (nI ahead), .int (nI f)] h (fun r h' => r = some (.int (s_chainBy (tw h t) (h.1 49) had ahead f)) ∧ h = h') := by
  refine qm_Ev.by (M := mX10_chainBy) okX10_chainBy (Nat.le_of_ble_eq_true rfl) hG fun z hA => ?_
  obtain ⟨o1, o2⟩ := s_or1 hh hf
  have ei : (64 : Int32) * nI f + (nI had ||| (1 <<< (nI f &&& 31))) = nI (64 * f + (had ||| 2 ^ f)) := by
    rw [o1, show (64 : Int32) = nI 64 from rfl, pk_mul, nI_add]
  have m18 : qm_PW G mX10_chainBy z 18 0 0 [vr 26, vi (nI had), vi (nI ahead), vi (nI f), vu] [.int (b2 (s_may (tw h t) had ahead f))] h := by
    refine qm_wp_ok hA [] 40 _ _ _ _ _ _ ?_
    refine b2_eq (fun hb => ?_) (fun hb => ⟨trivial, by rw [s_chainBy, if_neg (by rw [hb]; decide)], rfl⟩)
    refine ⟨rfl, _, rfl, rfl, ?_, trivial, ?_, rfl⟩
    · show vp_in ((64 : Int32) * nI f + (nI had ||| (1 <<< (nI f &&& 31)))) 448
      rw [ei]; exact vp_in_nI (by omega) (by decide)
    · show some (Value.int ((1 : Int32) + h.1 49 ((64 : Int32) * nI f + (nI had ||| (1 <<< (nI f &&& 31)))).toNatClampNeg)) = _
      rw [ei, nI_clamp (by omega), s_chainBy, if_pos hb]
  unfold s_may at m18
  refine qm_wp_ok hA [18] 40 _ _ _ _ _ _ ⟨0, 0, _, e_has hG d h (nI had) (nI f), ⟨Nat.le_refl _, Nat.le_refl _⟩, ?_⟩
  rintro _ _ ⟨rfl, rfl⟩
  refine b2_ne (fun hb => ?_) (fun hb => ⟨fun c => ?_, fun c => ⟨rfl, ?_⟩⟩)
  · rw [hb] at m18
    exact m18
  · have e6 : ahead = 6 := (nI_eq (by omega) (by decide)).mp (c : nI ahead = nI 6)
    rw [hb, decide_eq_true e6] at m18
    exact m18
  · have e6 : ahead ≠ 6 := fun e => c (by rw [e]; rfl)
    have e7 : (7 : Int32) + nI ahead = nI (7 + ahead) := nI_add 7 ahead
    rw [hb, decide_eq_false e6] at m18
    refine ⟨0, 0, _, (by rw [e7]; exact e_of hG d h ht hk (by omega)), ⟨Nat.le_refl _, Nat.le_refl _⟩, ?_⟩
    rintro _ _ ⟨rfl, rfl⟩
    refine ⟨0, 0, _, e_has hG d h (tw h t (7 + ahead)) (nI f), ⟨Nat.le_refl _, Nat.le_refl _⟩, ?_⟩
    rintro _ _ ⟨rfl, rfl⟩
    exact b2_eq (fun hb2 => by rw [hb2] at m18; exact m18) (fun hb2 => by rw [hb2] at m18; exact m18)
def s_chain1 (w cp : Nat → Int32) (had ahead : Nat) : Nat → Int32
  | 0 => 0
  | f + 1 => mx (s_chain1 w cp had ahead f) (s_chainBy w cp had ahead f)
def s_chainRow (w cp : Nat → Int32) (had : Nat) : Nat → (Nat → Int32)
  | 0 => cp
  | k + 1 => va_up (s_chainRow w cp had k) (64 * k + had) (s_chain1 w (s_chainRow w cp had k) had k 6)
def s_chains (w cp : Nat → Int32) : Nat → (Nat → Int32)
  | 0 => cp
  | m + 1 => s_chainRow w (s_chains w cp m) (63 - m) 7
theorem e_findChains {G : qm_G} (hG : G.2.2.2.2 = true) (d : Nat) (h : qm_H) {t : Nat} (ht : h.1 26 22 = nI t) (hk : t < 2) : qm_Ev G (d + 2) 0 0 qyX10_findChains [.ref 26] h (fun r h' => r = none ∧ h'.1 49 = s_chains (tw h t) (h.1 49) 64 ∧ sb [49] h h') := by
  refine qm_Ev.by (M := mX10_findChains) okX10_findChains (Nat.le_of_ble_eq_true rfl) hG fun z hA => ?_
  have loop : ∀ r m : Nat, m + r = 64 → ∀ h' : qm_H, h'.1 49 = s_chains (tw h t) (h.1 49) m → sb [49] h h' → qm_PW G mX10_findChains z 2 0 0 [vr 26, vi (if m < 64 then nI (63 - m) else -1), vu, vu, vu] [] h' := by
    intro r
    induction r with
    | zero =>
      intro m hm h' e1 e2
      obtain rfl : m = 64 := hm
      exact qm_wp_ok hA [] 20 _ _ _ _ _ _ ⟨fun _ => ⟨rfl, rfl, e1, e2⟩, fun q => absurd (by decide) q⟩
    | succ r ih =>
      intro m hm h' e1 e2
      rw [if_pos (by omega)]
      obtain ⟨s, hs⟩ : ∃ s, s = 63 - m := ⟨_, rfl⟩
      rw [← hs]
      obtain ⟨A, hAe⟩ : ∃ A, A = s_chains (tw h t) (h.1 49) m := ⟨_, rfl⟩
      rw [← hAe] at e1
      have mid : ∀ q k : Nat, k + q = 7 → ∀ h2 : qm_H, h2.1 49 = s_chainRow (tw h t) A s k → sb [49] h h2 → qm_PW G mX10_findChains z 6 0 0 [vr 26, vi (nI s), vi (nI k), vu, vu] [] h2 := by
        intro q
        induction q with
        | zero =>
          intro k hkq h2 f1 f2
          obtain rfl : k = 7 := hkq
          refine qm_wp_ok hA [2] 20 _ _ _ _ _ _ ⟨fun _ => ?_, fun q => absurd (by decide) q⟩
          have kk := ih (m + 1) (by omega) h2 (by rw [f1, s_chains, ← hAe, ← hs]) f2
          have e3 : (if m + 1 < 64 then nI (63 - (m + 1)) else (-1 : Int32)) = nI s + -1 := by
            split
            · rw [show s = (63 - (m + 1)) + 1 by omega, pk_m1]
            · rw [show s = 0 by omega]; decide
          rw [e3] at kk
          exact qm_PW.mask [true, true, false, false, false] kk
        | succ q ih2 =>
          intro k hkq h2 f1 f2
          have g1 : tw h2 t = tw h t := by
            unfold tw
            rw [f2.2 32 (by decide)]
          have ei : (64 : Int32) * nI k + nI s = nI (64 * k + s) := by rw [show (64 : Int32) = nI 64 from rfl, pk_mul, nI_add]
          refine qm_wp_ok hA [6, 13] 20 _ _ _ _ _ _ ⟨fun q => absurd q (nI_nlt (by omega : k ≤ 6) (by decide)), fun _ => ?_⟩
          refine qm_for (P := fun f => qm_PW G mX10_findChains z 13 0 0 [vr 26, vi (nI s), vi (nI k), vi (s_chain1 (tw h t) (h2.1 49) s k f), vi (nI f)] [] h2) (N := 6) ?_ ?_
          · refine qm_wp_ok hA [6] 40 _ _ _ _ _ _ ⟨fun _ => ⟨rfl, _, rfl, rfl, ?_, ?_⟩, fun q => absurd (by decide) q⟩
            · show vp_in ((64 : Int32) * nI k + nI s) 448
              rw [ei]; exact vp_in_nI (by omega) (by decide)
            · rw [ei, nI_clamp (by omega)]
              have kk := ih2 (k + 1) (by omega) (qm_si h2 49 (64 * k + s) (s_chain1 (tw h t) (h2.1 49) s k 6)) (by rw [si_row, s_chainRow, f1]) (f2.si (by decide))
              rw [← nI_1] at kk
              exact qm_PW.mask [true, true, true, false, false] kk
          · intro f hf key
            rw [s_chain1, ← nI_1] at key
            refine qm_wp_ok hA [13] 40 _ _ _ _ _ _ ⟨fun q => absurd q (nI_ge hf (by decide)), fun _ => ⟨rfl, 0, 0, _, e_chainBy hG d h2 (t := t) (had := s) (ahead := k) (f := f) (by rw [f2.2 26 (by decide), ht]) hk (by omega) (by omega) hf, ⟨Nat.le_refl _, Nat.le_refl _⟩, ?_⟩⟩
            rintro _ _ ⟨rfl, rfl⟩
            rw [g1]
            refine ⟨0, 0, _, e_greater hG _ h2 _ _, ⟨Nat.le_refl _, Nat.le_refl _⟩, ?_⟩
            rintro _ _ ⟨rfl, rfl⟩
            exact key
      refine qm_wp_ok hA [6] 20 _ _ _ _ _ _ ⟨fun q => absurd q (nI_pos (by omega)), fun _ => ?_⟩
      exact mid 7 0 rfl h' e1 e2
  refine qm_wp_ok hA [2] 20 _ _ _ _ _ _ ?_
  exact loop 64 0 rfl h rfl sb.rf
/-! numbers by a seed -/
def s_seed (s : Int32) : Int32 := s * 1103515245 + 12345
def s_draw (s n : Int32) : Int32 := ((s_seed s).toUInt32 >>> ((16 : Int32).toUInt32 &&& Int32.toUInt32 31)).toInt32 - ((s_seed s).toUInt32 >>> ((16 : Int32).toUInt32 &&& Int32.toUInt32 31)).toInt32 / n * n
theorem e_draw {G : qm_G} (hG : G.2.2.2.2 = true) (d : Nat) (h : qm_H) (n : Int32) (hn : ¬ n = 0) : qm_Ev G d 0 0 qyX10_draw [.ref 26, .int n] h (fun r h' => r = some (.int (s_draw (h.1 26 44) n)) ∧ h' = qm_si h 26 44 (s_seed (h.1 26 44))) := by
  refine qm_Ev.run (M := mX10_draw) okX10_draw rfl hG fun z => ?_
  exact ⟨rfl, rfl, trivial, rfl, hn, trivial, rfl, rfl⟩
theorem e_allEnds {G : qm_G} (hG : G.2.2.2.2 = true) (d : Nat) (h : qm_H) {n : Nat} (hn3 : n ≤ 3) : qm_Ev G d 0 0 qyX10_allEnds [.int (nI n)] h (fun r h' => r = some (.int (nI (37 ^ n))) ∧ h = h') := by
  refine qm_Ev.by (M := mX10_allEnds) okX10_allEnds (Nat.le_of_ble_eq_true rfl) hG fun z hA => ?_
  refine qm_wp_ok hA [4] 20 _ _ _ _ _ _ ?_
  refine qm_for (P := fun i => qm_PW G mX10_allEnds z 4 0 0 [vi (nI n), vi (nI (37 ^ i)), vi (nI i)] [] h) (N := n) ?_ ?_
  · exact qm_wp_ok hA [] 20 _ _ _ _ _ _ ⟨fun _ => ⟨trivial, rfl, rfl⟩, fun q => absurd (Int32.le_refl _) q⟩
  · intro i hi key
    rw [← nI_1, Nat.pow_succ, ← pk_mul] at key
    exact qm_wp_ok hA [4] 40 _ _ _ _ _ _ ⟨fun q => absurd q (nI_ge hi (by omega)), fun _ => key⟩
end
section
/-! plays that are alike in their first six places go on alike -/
def e6 (f g : Nat → Int32) : Prop := ∀ j, j < 6 → f j = g j
theorem e6.up {f g : Nat → Int32} (a : e6 f g) (k : Nat) {v v' : Int32} (hv : v = v') : e6 (va_up f k v) (va_up g k v') := by
  intro j hj
  unfold va_up
  split
  · exact hv
  · exact a j hj
def eq6 (a b : PSt) : Prop := e6 a.1 b.1 ∧ e6 a.2.1 b.2.1 ∧ e6 a.2.2.1 b.2.2.1 ∧ e6 a.2.2.2.1 b.2.2.2.1 ∧ e6 a.2.2.2.2.1 b.2.2.2.2.1 ∧ e6 a.2.2.2.2.2.1 b.2.2.2.2.2.1 ∧ a.2.2.2.2.2.2 = b.2.2.2.2.2.2
theorem eq6.rf (a : PSt) : eq6 a a := ⟨fun _ _ => rfl, fun _ _ => rfl, fun _ _ => rfl, fun _ _ => rfl, fun _ _ => rfl, fun _ _ => rfl, rfl⟩
theorem eq6.sm {a b : PSt} (h : eq6 a b) : eq6 b a := ⟨fun j hj => (h.1 j hj).symm, fun j hj => (h.2.1 j hj).symm, fun j hj => (h.2.2.1 j hj).symm, fun j hj => (h.2.2.2.1 j hj).symm, fun j hj => (h.2.2.2.2.1 j hj).symm, fun j hj => (h.2.2.2.2.2.1 j hj).symm, h.2.2.2.2.2.2.symm⟩
theorem eq6.tr {a b c : PSt} (h : eq6 a b) (k : eq6 b c) : eq6 a c := ⟨fun j hj => (h.1 j hj).trans (k.1 j hj), fun j hj => (h.2.1 j hj).trans (k.2.1 j hj), fun j hj => (h.2.2.1 j hj).trans (k.2.2.1 j hj), fun j hj => (h.2.2.2.1 j hj).trans (k.2.2.2.1 j hj), fun j hj => (h.2.2.2.2.1 j hj).trans (k.2.2.2.2.1 j hj), fun j hj => (h.2.2.2.2.2.1 j hj).trans (k.2.2.2.2.2.1 j hj), h.2.2.2.2.2.2.trans k.2.2.2.2.2.2⟩
theorem q_learns {a b : PSt} (h : eq6 a b) {p : Nat} (hp : p < 6) (set : Int32) : eq6 (s_learns a p set) (s_learns b p set) := by
  obtain ⟨h1, h2, h3, h4, h5, h6, h7⟩ := h
  refine ⟨h1, h2, h3.up p (by rw [h3 p hp]), h4.up p ?_, h5, h6, h7⟩
  rw [up_s, up_s, h3 p hp, h4 p hp]
theorem q_tellOn {a b : PSt} (h : eq6 a b) (w : Nat → Int32) (p f : Nat) : ∀ n, n ≤ 6 → eq6 (s_tellOn w p f a n) (s_tellOn w p f b n)
  | 0, _ => h
  | n + 1, hn => by
    have ih := q_tellOn h w p f n (by omega)
    rw [s_tellOn, s_tellOn]
    split
    · exact q_learns ih (by omega) _
    · exact ih
theorem q_tells {a b : PSt} (h : eq6 a b) (w : Nat → Int32) {n p f : Nat} (hn : n ≤ 6) (hp : p < 6) (hf : f < 6) : (s_tells w n p f a).1 = (s_tells w n p f b).1 ∧ eq6 (s_tells w n p f a).2 (s_tells w n p f b).2 := by
  obtain ⟨h1, h2, h3, h4, h5, h6, h7⟩ := id h
  unfold s_tells
  rw [h1 p hp, h3 p hp]
  split
  · exact ⟨rfl, h⟩
  · split
    · refine ⟨rfl, ?_⟩
      dsimp only
      refine q_tellOn ?_ w p f n hn
      refine ⟨h1.up p rfl, h2, h3, h4, h5, h6.up f (by rw [h6 f hf]), ?_⟩
      dsimp only
      rw [h7]
    · exact ⟨rfl, h⟩
theorem q_ask1 {a b : PSt} (h : eq6 a b) (w : Nat → Int32) (p f : Nat) {o : Nat} (ho : o < 6) : eq6 (s_ask1 w p f o a) (s_ask1 w p f o b) := by
  obtain ⟨h1, h2, h3, h4, h5, h6, h7⟩ := id h
  unfold s_ask1
  rw [h3 o ho, h4 o ho]
  split
  · split
    · exact h
    · split
      · obtain ⟨g1, g2, g3, g4, g5, g6, g7⟩ := q_learns h ho (s_whole w f)
        refine ⟨g1, g2, g3, g4, g5, g6, ?_⟩
        unfold s_gue
        dsimp only
        rw [g7]
      · refine ⟨h1, h2, h3, h4.up o (by rw [h4 o ho]), h5, h6, h7⟩
  · exact h
theorem q_asks {a b : PSt} (h : eq6 a b) (w : Nat → Int32) (p f : Nat) : ∀ n, n ≤ 6 → eq6 (s_asks w p f a n) (s_asks w p f b n)
  | 0, _ => h
  | n + 1, hn => q_ask1 (q_asks h w p f n (by omega)) w p f (by omega)
theorem q_sells {a b : PSt} (h : eq6 a b) {n p : Nat} (hn : n ≤ 6) (hp : p < 6) (o c : Int32) : (s_sells n p o c a).1 = (s_sells n p o c b).1 ∧ eq6 (s_sells n p o c a).2 (s_sells n p o c b).2 := by
  obtain ⟨h1, h2, h3, h4, h5, h6, h7⟩ := id h
  unfold s_sells
  by_cases hb : 0 ≤ o ∧ o ≤ nI n - 1
  · obtain ⟨q, hq, rfl⟩ := in_of hb.1 hb.2 (by omega)
    have hq6 : q < 6 := by omega
    have k1 : e6 (va_up a.1 p (a.1 p - 1)) (va_up b.1 p (b.1 p - 1)) := h1.up p (by rw [h1 p hp])
    have k2 : e6 (va_up a.2.1 q (a.2.1 q - c)) (va_up b.2.1 q (b.2.1 q - c)) := h2.up q (by rw [h2 q hq6])
    rw [if_pos hb, if_pos hb, nI_clamp (by omega), h1 p hp, h2 q hq6]
    split
    · exact ⟨rfl, h⟩
    · split
      · refine ⟨rfl, ?_, ?_, h3, h4, h5, h6, h7⟩
        · rw [h1 p hp] at k1
          exact k1.up q (by rw [k1 q hq6])
        · rw [h2 q hq6] at k2
          exact k2.up p (by rw [k2 p hp])
      · exact ⟨rfl, h⟩
  · rw [if_neg hb, if_neg hb]
    exact ⟨rfl, h⟩
theorem q_eveOn {a b : PSt} (h : eq6 a b) : ∀ n, n ≤ 6 → eq6 (s_eveOn a n) (s_eveOn b n)
  | 0, _ => h
  | n + 1, hn => by
    obtain ⟨h1, h2, h3, h4, h5, h6, h7⟩ := q_eveOn h n (by omega)
    rw [s_eveOn, s_eveOn]
    unfold s_eve1
    refine ⟨h1.up n rfl, h2, h3, h4.up n rfl, h5.up n (by rw [h5 n (by omega), h1 n (by omega)]), h6, ?_⟩
    dsimp only
    rw [h7, h1 n (by omega)]
theorem q_eve {a b : PSt} (h : eq6 a b) {n : Nat} (hn : n ≤ 6) : eq6 (s_eve n a) (s_eve n b) := by
  obtain ⟨h1, h2, h3, h4, h5, h6, h7⟩ := q_eveOn h n hn
  refine ⟨h1, h2, h3, h4, h5, h6, ?_⟩
  unfold s_eve
  dsimp only
  rw [h7]
theorem q_does {a b : PSt} (h : eq6 a b) (w : Nat → Int32) {n wh : Nat} (hn : n ≤ 6) (x y c : Int32) (hy : wh < 3 → ∃ f, f < 6 ∧ y = nI f) : (s_does w n wh x y c a).1 = (s_does w n wh x y c b).1 ∧ eq6 (s_does w n wh x y c a).2 (s_does w n wh x y c b).2 := by
  unfold s_does
  by_cases h4 : wh = 4
  · rw [if_pos h4, if_pos h4]
    exact ⟨rfl, q_eve h hn⟩
  · rw [if_neg h4, if_neg h4]
    by_cases hb : 0 ≤ x ∧ x ≤ nI n - 1
    · obtain ⟨p, hp, rfl⟩ := in_of hb.1 hb.2 (by omega)
      rw [if_pos hb, if_pos hb, nI_clamp (by omega)]
      by_cases h0 : wh = 0
      · obtain ⟨f, hf, rfl⟩ := hy (by omega)
        rw [if_pos h0, if_pos h0, nI_clamp (by omega)]
        exact q_tells h w hn (by omega) hf
      · rw [if_neg h0, if_neg h0]
        by_cases h1 : wh = 1
        · rw [if_pos h1, if_pos h1]
          exact ⟨rfl, q_asks h w p _ n hn⟩
        · rw [if_neg h1, if_neg h1]
          by_cases h2 : wh = 2
          · rw [if_pos h2, if_pos h2]
            exact ⟨rfl, q_learns h (by omega) _⟩
          · rw [if_neg h2, if_neg h2]
            exact q_sells h hn (by omega) y c
    · rw [if_neg hb, if_neg hb]
      exact ⟨rfl, h⟩
theorem q_deed {a b : PSt} (h : eq6 a b) (w : Nat → Int32) {n m k : Nat} (hn : n ≤ 6) {yr : Nat → Int32} (hV : VY yr m) (hk : k < m) : (s_deed w n yr k a).1 = (s_deed w n yr k b).1 ∧ eq6 (s_deed w n yr k a).2 (s_deed w n yr k b).2 := by
  obtain ⟨wh, hw, e, hf⟩ := hV.2.2 k hk
  unfold s_deed
  rw [e, nI_clamp (by omega)]
  exact q_does h w hn _ _ _ hf
theorem q_play (w : Nat → Int32) {n m : Nat} (hn : n ≤ 6) {yr : Nat → Int32} (hV : VY yr m) : ∀ (r k : Nat) (a b : PSt), k + r ≤ m → eq6 a b → (s_play w n yr r k a).1 = (s_play w n yr r k b).1 ∧ eq6 (s_play w n yr r k a).2 (s_play w n yr r k b).2
  | 0, k, a, b, _, h => ⟨rfl, h⟩
  | r + 1, k, a, b, hk, h => by
    obtain ⟨e1, e2⟩ := q_deed h w hn hV (by omega : k < m)
    rw [s_play, s_play, e1]
    split
    · exact q_play w hn hV r (k + 1) _ _ (by omega) e2
    · exact ⟨rfl, e2⟩
/-- a play's start -/
def s_init (w : Nat → Int32) : PSt := (fun _ => 1, fun p => w (13 + p), fun p => w (19 + p), fun _ => 0, fun _ => 0, fun _ => 0, 0, 0, 0, 0)
theorem s_hand_init (w : Nat → Int32) (ps : PSt) : eq6 (s_hand w ps) (s_init w) := by
  have key : ∀ n, n ≤ 6 → (∀ j, j < n → (s_handOn w (s_zero ps) n).1 j = 1 ∧ (s_handOn w (s_zero ps) n).2.1 j = w (13 + j) ∧ (s_handOn w (s_zero ps) n).2.2.1 j = w (19 + j) ∧ (s_handOn w (s_zero ps) n).2.2.2.1 j = 0 ∧ (s_handOn w (s_zero ps) n).2.2.2.2.1 j = 0 ∧ (s_handOn w (s_zero ps) n).2.2.2.2.2.1 j = 0) ∧ (s_handOn w (s_zero ps) n).2.2.2.2.2.2 = (0, 0, 0, 0) := by
    intro n
    induction n with
    | zero => intro _; exact ⟨fun j hj => absurd hj (Nat.not_lt_zero j), rfl⟩
    | succ n ih =>
      intro hn
      obtain ⟨i1, i2⟩ := ih (by omega)
      refine ⟨fun j hj => ?_, i2⟩
      rw [s_handOn]
      unfold s_hand1
      dsimp only
      by_cases e : j = n
      · subst e
        simp only [up_s, and_self]
      · simp only [up_n _ _ e]
        exact i1 j (by omega)
  obtain ⟨k1, k2⟩ := key 6 (Nat.le_refl 6)
  exact ⟨fun j hj => (k1 j hj).1, fun j hj => (k1 j hj).2.1, fun j hj => (k1 j hj).2.2.1, fun j hj => (k1 j hj).2.2.2.1, fun j hj => (k1 j hj).2.2.2.2.1, fun j hj => (k1 j hj).2.2.2.2.2, k2⟩
end
section
/-! the reference: calls of the face, first ones -/
def inb (k : Int32) (m : Nat) : Bool := decide (0 ≤ k ∧ k ≤ nI m - 1)
theorem inb_e {k : Int32} {m : Nat} (hm : m < 2 ^ 31) (h : inb k m = true) : ∃ t, t < m ∧ k = nI t := by
  have h1 := of_decide_eq_true h
  exact in_of h1.1 h1.2 hm
theorem inb_n {t m : Nat} (hm : m < 2 ^ 31) (h : t < m) : inb (nI t) m = true := by
  refine decide_eq_true ⟨nI_pos' (by omega), ?_⟩
  rcases m with _ | m
  · omega
  · rw [nI_pred]
    exact nI_le (by omega) (by omega)
theorem inb_f {k : Int32} {m : Nat} (h : ¬ (0 ≤ k ∧ k ≤ nI m - 1)) : inb k m = false := decide_eq_false h
theorem dv10n {x : Int32} (hx : x < 0) : (x / 10).toInt ≤ 0 := by
  have e1 : (x / 10).toInt = x.toInt.tdiv 10 := Int32.toInt_div_of_ne_right x 10 (by decide)
  have e2 : x.toInt < 0 := Int32.lt_iff_toInt_lt.mp hx
  have e3 : x.toInt.tdiv 10 = -((-x.toInt).tdiv 10) := by rw [Int.neg_tdiv, Int.neg_neg]
  have e4 : 0 ≤ (-x.toInt).tdiv 10 := Int.tdiv_nonneg (by omega) (by decide)
  omega
theorem dv10 {x : Int32} {g : Nat} (h1 : 1 ≤ g) (h2 : g < 100) (h : x / 10 = nI g) : ∃ k, k < 10 ∧ x = nI (10 * g + k) ∧ x - x / 10 * 10 = nI k := by
  by_cases hx : x < 0
  · have e := dv10n hx
    rw [h, nI_toInt (by omega)] at e
    omega
  · obtain ⟨a, ha, rfl⟩ := nI_of hx
    have e1 : nI a / 10 = nI (a / 10) := pk_div ha (by decide) (by decide)
    have e2 : nI a - nI a / 10 * 10 = nI (a % 10) := pk_rem ha (by decide) (by decide)
    rw [e1] at h
    have e3 := (nI_eq (by omega) (by omega)).mp h
    exact ⟨a % 10, Nat.mod_lt _ (by decide), by congr 1; omega, e2⟩
/-- a number of two digits: its tens -/
theorem dv10' {g k : Nat} (hk : k < 10) (hg : g < 1000) : nI (10 * g + k) / 10 = nI g ∧ nI (10 * g + k) - nI (10 * g + k) / 10 * 10 = nI k := by
  have e1 : nI (10 * g + k) / 10 = nI ((10 * g + k) / 10) := pk_div (by omega) (by decide) (by decide)
  have e2 : nI (10 * g + k) - nI (10 * g + k) / 10 * 10 = nI ((10 * g + k) % 10) := pk_rem (by omega) (by decide) (by decide)
  rw [e2, e1]
  exact ⟨by congr 1; omega, by congr 1; omega⟩
theorem e_ofState {G : qm_G} (hG : G.2.2.2.2 = true) (d : Nat) (h : qm_H) {n : Nat} (hn : h.1 26 23 = nI n) (hn6 : n ≤ 6) (what : Int32) : qm_Ev G d 0 0 qyX10_ofState [.ref 26, .int what] h (fun r h' => r = some (.int (s_of n (rps h) what)) ∧ h = h') := by
  refine qm_Ev.run (M := mX10_ofState) okX10_ofState rfl hG fun z => ?_
  refine ⟨by decide, fun c => ?_, fun c => ?_⟩
  · refine ⟨by decide, ⟨fun q => ⟨fun c1 => ⟨fun c2 => ⟨fun c3 => ?_, fun c3 => ?_⟩, fun c2 => ?_⟩, fun c1 => ?_⟩, fun q => ?_, fun q => ?_, fun q => ?_, fun q => ?_, trivial⟩, fun q => ?_⟩
    · exact ⟨trivial, by rw [s_of, if_pos c, if_neg c1, if_neg c2, if_neg c3], rfl⟩
    · exact ⟨rfl, trivial, by rw [s_of, if_pos c, if_neg c1, if_neg c2, if_pos c3]; rfl, rfl⟩
    · exact ⟨rfl, trivial, by rw [s_of, if_pos c, if_neg c1, if_pos c2]; rfl, rfl⟩
    · exact ⟨rfl, trivial, by rw [s_of, if_pos c, if_pos c1]; rfl, rfl⟩
    · obtain ⟨k, hk, e, -⟩ := dv10 (x := what) (g := 1) (by decide) (by decide) q
      exact absurd c (by rw [e]; exact nI_nlt (b := 10) (by omega) (by omega))
    · obtain ⟨k, hk, e, -⟩ := dv10 (x := what) (g := 2) (by decide) (by decide) q
      exact absurd c (by rw [e]; exact nI_nlt (b := 10) (by omega) (by omega))
    · obtain ⟨k, hk, e, -⟩ := dv10 (x := what) (g := 3) (by decide) (by decide) q
      exact absurd c (by rw [e]; exact nI_nlt (b := 10) (by omega) (by omega))
    · obtain ⟨k, hk, e, -⟩ := dv10 (x := what) (g := 4) (by decide) (by decide) q
      exact absurd c (by rw [e]; exact nI_nlt (b := 10) (by omega) (by omega))
    · have n0 : ¬ what = 0 := fun e => by rw [e] at q; revert q; decide
      have n1 : ¬ what = 1 := fun e => by rw [e] at q; revert q; decide
      have n2 : ¬ what = 2 := fun e => by rw [e] at q; revert q; decide
      exact ⟨trivial, by rw [s_of, if_pos c, if_neg n0, if_neg n1, if_neg n2], rfl⟩
  · have hpos : ¬ what < 0 := fun q => c (Int32.lt_of_lt_of_le q (by decide))
    obtain ⟨a, ha, rfl⟩ := nI_of hpos
    have ha10 : 10 ≤ a := by
      rcases Nat.lt_or_ge a 10 with q | q
      · exact absurd (nI_lt q (by decide)) c
      · exact q
    have e1 : nI a / 10 = nI (a / 10) := pk_div ha (by decide) (by decide)
    have e2 : nI a - nI a / 10 * 10 = nI (a % 10) := pk_rem ha (by decide) (by decide)
    have ecl : (nI (a % 10)).toNatClampNeg = a % 10 := nI_clamp (by omega)
    refine ⟨rfl, fun (c2 : nI a - nI a / 10 * 10 < h.1 26 23) => ?_, fun (c2 : ¬ nI a - nI a / 10 * 10 < h.1 26 23) => ?_⟩
    · rw [hn] at c2
      have c3 : a % 10 < n := by
        rw [e2] at c2
        exact (nI_ltI (by omega) (by omega)).mp c2
      have hin : vp_in (nI a - nI a / 10 * 10) 6 := by rw [e2]; exact vp_in_nI (by omega) (by decide)
      have key : ∀ X, (if nI a / 10 = 1 then (rps h).1 (a % 10) else if nI a / 10 = 2 then (rps h).2.1 (a % 10) else if nI a / 10 = 3 then (rps h).2.2.1 (a % 10) else if nI a / 10 = 4 then (rps h).2.2.2.1 (a % 10) else -1) = X → s_of n (rps h) (nI a) = X := by
        intro X hX
        rw [s_of, if_neg c, if_pos c2, e2, ecl]
        exact hX
      refine ⟨by decide, ⟨fun q => ?_, fun q => ?_, fun q => ?_, fun q => ?_, fun q => ?_, trivial⟩, fun q => ?_⟩
      · rw [e1] at q
        have := (nI_eq (a := a / 10) (b := 0) (by omega) (by decide)).mp q
        omega
      · refine ⟨rfl, _, rfl, rfl, hin, trivial, ?_, rfl⟩
        rw [key _ (if_pos q), e2, ecl]
        rfl
      · refine ⟨rfl, _, rfl, rfl, hin, trivial, ?_, rfl⟩
        rw [key _ ((if_neg (by rw [q]; decide)).trans (if_pos q)), e2, ecl]
        rfl
      · refine ⟨rfl, _, rfl, rfl, hin, trivial, ?_, rfl⟩
        rw [key _ ((if_neg (by rw [q]; decide)).trans ((if_neg (by rw [q]; decide)).trans (if_pos q))), e2, ecl]
        rfl
      · refine ⟨rfl, _, rfl, rfl, hin, trivial, ?_, rfl⟩
        rw [key _ ((if_neg (by rw [q]; decide)).trans ((if_neg (by rw [q]; decide)).trans ((if_neg (by rw [q]; decide)).trans (if_pos q)))), e2, ecl]
        rfl
      · have q' : ∀ j : Nat, j < 5 → nI a / 10 ≠ nI j := by
          intro j hj e
          rw [e, nI_toInt (by omega)] at q
          simp only [List.length_cons, List.length_nil, List.drop] at q
          omega
        refine ⟨trivial, ?_, rfl⟩
        rw [key _ ((if_neg (q' 1 (by decide))).trans ((if_neg (q' 2 (by decide))).trans ((if_neg (q' 3 (by decide))).trans (if_neg (q' 4 (by decide))))))]
    · rw [hn] at c2
      exact ⟨trivial, by rw [s_of, if_neg c, if_neg c2], rfl⟩
end
section
/-! what lies behind an array's end is free: heaps may be made canonical -/
def al (h h' : qm_H) : Prop := h'.2 = h.2 ∧ ∀ p, h'.1 p = h.1 p ∨ ∃ N, qm_SKK[p]? = some (10, N) ∧ ∀ j, j < N → h'.1 p j = h.1 p j
theorem arrV_to {cI : ClassId} {N : Nat} {f g : Nat → Value} (h : ∀ j, j < N → f j = g j) : arrV cI N f = arrV cI N g := by
  unfold arrV
  congr 2
  funext j
  exact h j.val j.isLt
theorem qm_Rep.al {G : qm_G} (hG : G.2.2.2.2 = true) {h h' : qm_H} {H : Heap} (a : al h h') (k : qm_Rep G h H) : qm_Rep G h' H := by
  obtain ⟨k1, k2, k3, k4⟩ := k
  obtain ⟨a1, a2⟩ := a
  refine ⟨by rw [a1]; exact k1, by rw [a1]; exact k2, by rw [a1]; exact k3, fun p hp => ?_⟩
  rw [a1] at hp
  have k5 := k4 p hp
  have hkn : qm_kn G.2.2.2.2 h' p = qm_kn G.2.2.2.2 h p := by unfold qm_kn; rw [a1]
  have hrd : ∀ j, qm_rd G.2.2.2.2 h' p j = qm_rd G.2.2.2.2 h p j := fun j => by unfold qm_rd; rw [a1]
  have hvl : h'.1 p = h.1 p → ∀ j t, qm_vl G h' p j t = qm_vl G h p j t := by
    intro e j t
    unfold qm_vl
    rw [e, a1, hrd]
  unfold qm_at at k5 ⊢
  rw [hkn]
  rcases a2 p with e | ⟨N, e, hN⟩
  · split
    · rename_i hc
      rw [if_pos hc] at k5
      obtain ⟨r, g1, g2⟩ := k5
      exact ⟨r, g1, g2.to (fun j _ => (hvl e j _).symm)⟩
    · rename_i hc
      rw [if_neg hc] at k5
      rw [k5]
      congr 2
      funext j
      exact (hvl e j _).symm
  · have e2 : qm_kn G.2.2.2.2 h p = (10, N) := by
      unfold qm_kn
      rw [hG]
      show (match qm_SKK[p]? with
        | some x => x
        | none => h.2.2.2.1 p) = (10, N)
      rw [e]
    rw [e2] at k5 ⊢
    rw [if_neg (show ¬ 10 < 9 by decide)] at k5 ⊢
    rw [k5]
    congr 1
    exact arrV_to (fun j hj => congrArg Value.int (hN j hj).symm)
theorem qm_Ev.al {G : qm_G} (hG : G.2.2.2.2 = true) {d C S : Nat} {y : qm_CI} {as : List Value} {h : qm_H} {uQ uQ' : Option Value → qm_H → Prop} (k : qm_Ev G d C S y as h uQ) (hq : ∀ v h1, uQ v h1 → ∃ h2, al h1 h2 ∧ uQ' v h2) : qm_Ev G d C S y as h uQ' := by
  intro l p e ha hc hk s m args below hf h1 h2 h3
  obtain ⟨k, o, g1, g2, g3, ⟨⟨v, h', e1, e2, e3⟩, g4⟩⟩ := k l p e ha hc hk s m args below hf h1 h2 h3
  obtain ⟨h2, q1, q2⟩ := hq v h' e2
  exact ⟨k, o, g1, g2, g3, ⟨v, h2, e1, q2, e3.1.al hG q1, e3.2⟩, g4⟩
/-- a town in hand, nothing played -/
def hnd (h : qm_H) (t : Nat) : qm_H := (fun q => if q = 26 then (fun k => if k = 22 then nI t else if k = 23 then tw h t 0 else if k = 24 ∨ k = 25 ∨ k = 26 ∨ k = 27 then 0 else h.1 26 k) else if q = 37 then (s_init (tw h t)).1 else if q = 38 then (s_init (tw h t)).2.1 else if q = 39 then (s_init (tw h t)).2.2.1 else if q = 40 then (s_init (tw h t)).2.2.2.1 else if q = 41 then (s_init (tw h t)).2.2.2.2.1 else if q = 42 then (s_init (tw h t)).2.2.2.2.2.1 else h.1 q, h.2)
theorem hnd.ps (h : qm_H) (t : Nat) : pers h (hnd h t) := by
  refine ⟨rfl, fun q hq => ?_⟩
  simp only [List.mem_cons, List.not_mem_nil, or_false, not_or] at hq
  obtain ⟨n26, -, -, n37, n38, n39, n40, n41, n42, -⟩ := hq
  show (if q = 26 then _ else _) = _
  rw [if_neg n26, if_neg n37, if_neg n38, if_neg n39, if_neg n40, if_neg n41, if_neg n42]
theorem HD.hnd {h h' : qm_H} {t : Nat} (a : HD h h' t) : al h' (hnd h t) := by
  obtain ⟨a1, a2, a3, a4, a5, a6⟩ := a
  obtain ⟨b1, b2, b3, b4, b5, b6, b7⟩ := (s_hand_init (tw h t) (rps h)).sm
  rw [← a1] at b1 b2 b3 b4 b5 b6 b7
  refine ⟨a4.symm, fun p => ?_⟩
  by_cases n26 : p = 26
  · subst n26
    left
    funext k
    show (if k = 22 then nI t else if k = 23 then tw h t 0 else if k = 24 ∨ k = 25 ∨ k = 26 ∨ k = 27 then 0 else h.1 26 k) = h'.1 26 k
    split
    · rename_i e; rw [e, a2]
    · split
      · rename_i e; rw [e, a3]
      · have c24 : h'.1 26 24 = 0 := (congrArg (fun x => x.1) b7).symm
        have c25 : h'.1 26 25 = 0 := (congrArg (fun x => x.2.1) b7).symm
        have c26 : h'.1 26 26 = 0 := (congrArg (fun x => x.2.2.1) b7).symm
        have c27 : h'.1 26 27 = 0 := (congrArg (fun x => x.2.2.2) b7).symm
        split
        · rename_i e
          rcases e with e | e | e | e <;> rw [e]
          · exact c24.symm
          · exact c25.symm
          · exact c26.symm
          · exact c27.symm
        · rename_i e1 e2 e3
          refine (a6 k (fun q => ?_)).symm
          simp only [List.mem_cons, List.not_mem_nil, or_false] at q
          omega
  · by_cases n37 : p = 37
    · subst n37; exact Or.inr ⟨6, rfl, b1⟩
    · by_cases n38 : p = 38
      · subst n38; exact Or.inr ⟨6, rfl, b2⟩
      · by_cases n39 : p = 39
        · subst n39; exact Or.inr ⟨6, rfl, b3⟩
        · by_cases n40 : p = 40
          · subst n40; exact Or.inr ⟨6, rfl, b4⟩
          · by_cases n41 : p = 41
            · subst n41; exact Or.inr ⟨6, rfl, b5⟩
            · by_cases n42 : p = 42
              · subst n42; exact Or.inr ⟨6, rfl, b6⟩
              · left
                show (if p = 26 then _ else _) = _
                rw [if_neg n26, if_neg n37, if_neg n38, if_neg n39, if_neg n40, if_neg n41, if_neg n42]
                refine (a5 p (fun q => ?_)).symm
                simp only [List.mem_cons, List.not_mem_nil, or_false] at q
                omega
theorem e_handC {G : qm_G} (hG : G.2.2.2.2 = true) (d : Nat) (h : qm_H) {mt : Nat} (hm : h.1 31 0 = nI mt) (hm2 : mt ≤ 2) (k : Int32) : qm_Ev G (d + 2) 0 0 qyX10_hand [.ref 26, .int k] h (fun r h' => (∃ t, t < mt ∧ k = nI t ∧ r = some (.int 1) ∧ h' = hnd h t) ∨ (inb k mt = false ∧ r = some (.int 0) ∧ h = h')) := by
  refine (e_hand hG d h hm hm2 k).al hG ?_
  rintro v h1 (⟨t, e1, e2, e3, e4⟩ | ⟨e1, e2, e3⟩)
  · exact ⟨_, e4.hnd, Or.inl ⟨t, e1, e2, e3, rfl⟩⟩
  · exact ⟨h1, ⟨rfl, fun _ => Or.inl rfl⟩, Or.inr ⟨inb_f e1, e2, e3⟩⟩
theorem inR_b {k : Int32} {m : Nat} (h : inb k m = true) : inR k m := by
  have h1 := of_decide_eq_true h
  exact h1
theorem e_layAllC {G : qm_G} (hG : G.2.2.2.2 = true) (d : Nat) (h : qm_H) {mt my : Nat} (hm : h.1 31 0 = nI mt) (hm2 : mt ≤ 2) (hy : h.1 31 1 = nI my) (hy2 : my ≤ 2) (a b : Int32) : qm_Ev G (d + 3) 0 0 qyX10_layAll [.ref 26, .int a, .int b] h (fun r h' => (∃ t y, t < mt ∧ y < my ∧ a = nI t ∧ b = nI y ∧ r = some (.int 1) ∧ h' = hnd (qm_si h 26 34 (nI y)) t) ∨ ((inb a mt && inb b my) = false ∧ r = some (.int 0) ∧ pers h h')) := by
  refine (e_layAll hG d h hm hm2 hy hy2 a b).al hG ?_
  rintro v h1 (⟨t, y, e1, e2, e3, e4, e5, e6⟩ | ⟨e1, e2, e3⟩)
  · exact ⟨_, e6.hnd, Or.inl ⟨t, y, e1, e2, e3, e4, e5, rfl⟩⟩
  · refine ⟨h1, ⟨rfl, fun _ => Or.inl rfl⟩, Or.inr ⟨?_, e2, e3⟩⟩
    cases ha : inb a mt
    · rfl
    · cases hb : inb b my
      · rfl
      · exact absurd ⟨inR_b hb, inR_b ha⟩ e1
end
section
/-! the reference: what is kept is well made; the face's small calls -/
def nn (w : Nat → Int32) : Nat := (w 0).toNatClampNeg
/-- a town's row, as texts make it -/
def VT (w : Nat → Int32) (n : Nat) : Prop := n ≤ 6 ∧ w 0 = nI n ∧ (∀ f, f < 6 → ∃ v, v ≤ 20 ∧ w (1 + f) = nI v) ∧ (∀ f, f < 6 → ∃ s, s < 64 ∧ w (7 + f) = nI s) ∧ (∀ p, p < 6 → ∃ v, v ≤ 30 ∧ w (13 + p) = nI v) ∧ (∀ p, p < 6 → ∃ s, s < 64 ∧ w (19 + p) = nI s ∧ (n ≤ p → s = 0)) ∧ (∀ p, p < 6 → ∃ s, s < 2 ^ n ∧ w (25 + p) = nI s ∧ (n ≤ p → s = 0)) ∧ (∀ f g k, f < 6 → g < 6 → k < 6 → bit (w (7 + f)) (nI g) = true → bit (w (7 + g)) (nI k) = true → bit (w (7 + f)) (nI k) = true) ∧ (∀ p g k, p < 6 → g < 6 → k < 6 → bit (w (19 + p)) (nI g) = true → bit (w (7 + g)) (nI k) = true → bit (w (19 + p)) (nI k) = true)
def ST (h : qm_H) (mt my ml : Nat) : Prop := h.1 31 0 = nI mt ∧ mt ≤ 2 ∧ h.1 31 1 = nI my ∧ my ≤ 2 ∧ h.1 31 2 = nI ml ∧ ml ≤ 2 ∧ (∀ t, t < mt → VT (tw h t) (nn (tw h t))) ∧ (∀ y, y < my → VY (yw h y) (nn (yw h y))) ∧ (∀ l, l < ml → VL (gw h l) (nn (gw h l)))
theorem p_in {t m : Nat} (ht : t < m) (hm : m ≤ 2) : inb (nI t) m = true ∧ (nI t).toNatClampNeg = t := ⟨inb_n (by omega) ht, nI_clamp (by omega)⟩
def s_town (w : Nat → Int32) (n : Nat) (what : Int32) : Int32 :=
  if what / 10 = 0 then (if what = 0 then nI n else -1)
  else if what / 10 = 1 ∨ what / 10 = 2 then (if what - what / 10 * 10 < 6 then w (6 * (what / 10).toNatClampNeg - 5 + (what - what / 10 * 10).toNatClampNeg) else -1)
  else if what / 10 = 3 ∨ what / 10 = 4 ∨ what / 10 = 5 then (if what - what / 10 * 10 < nI n then w (6 * (what / 10).toNatClampNeg - 5 + (what - what / 10 * 10).toNatClampNeg) else -1)
  else -1
def p_town (h : qm_H) (mt : Nat) (a what : Int32) : Int32 := if inb a mt then s_town (tw h a.toNatClampNeg) (nn (tw h a.toNatClampNeg)) what else -1
theorem a_town {G : qm_G} (hG : G.2.2.2.2 = true) (d : Nat) (h : qm_H) {mt my ml : Nat} (hS : ST h mt my ml) (a what : Int32) : qm_Ev G (d + 3) 0 0 qyX10_town [.ref 26, .int a, .int what] h (fun r h' => r = some (.int (p_town h mt a what)) ∧ pers h h') := by
  refine qm_Ev.run (M := mX10_town) okX10_town rfl hG fun z => ?_
  refine ⟨rfl, trivial, rfl, 0, 0, _, e_handC hG d (qm_si h 26 0 0) (mt := mt) hS.1 hS.2.1 a, ⟨Nat.le_refl _, Nat.le_refl _⟩, ?_⟩
  rintro _ _ (⟨t, ht, rfl, rfl, rfl⟩ | ⟨e0, rfl, rfl⟩)
  · obtain ⟨i1, i2⟩ := p_in ht hS.2.1
    have hT := hS.2.2.2.2.2.2.1 t ht
    have ht2 : t < 2 := by have := hS.2.1; omega
    obtain ⟨n, hn⟩ : ∃ n, n = nn (tw h t) := ⟨_, rfl⟩
    rw [← hn] at hT
    have e23 : (hnd (qm_si h 26 0 0) t).1 26 23 = nI n := hT.2.1
    have hn6 := hT.1
    have fin : pers h (hnd (qm_si h 26 0 0) t) := pers.rf.s26.tr (hnd.ps _ t)
    have eP : p_town h mt (nI t) what = s_town (tw h t) n what := by rw [p_town, i1, i2, ← hn]; rfl
    rw [eP]
    have g12 : ∀ g k : Nat, g = 1 ∨ g = 2 → k < 10 → what = nI (10 * g + k) → s_town (tw h t) n what = if k < 6 then tw h t (6 * g - 5 + k) else -1 := by
      intro g k hg hk e
      obtain ⟨f1, f2⟩ := dv10' (g := g) (k := k) hk (by omega)
      rw [e, s_town, f2, f1, if_neg (fun q => by have := (nI_eq (b := 0) (by omega) (by decide)).mp q; omega), if_pos (by rcases hg with rfl | rfl <;> decide), nI_clamp (by omega), nI_clamp (by omega)]
      by_cases c : k < 6
      · have c2 : nI k < 6 := nI_lt (b := 6) c (by decide)
        rw [if_pos c, if_pos c2]
      · have c2 : ¬ nI k < 6 := nI_nlt (a := k) (b := 6) (by omega) (by omega)
        rw [if_neg c, if_neg c2]
    have g345 : ∀ g k : Nat, g = 3 ∨ g = 4 ∨ g = 5 → k < 10 → what = nI (10 * g + k) → s_town (tw h t) n what = if k < n then tw h t (6 * g - 5 + k) else -1 := by
      intro g k hg hk e
      obtain ⟨f1, f2⟩ := dv10' (g := g) (k := k) hk (by omega)
      rw [e, s_town, f2, f1, if_neg (fun q => by have := (nI_eq (b := 0) (by omega) (by decide)).mp q; omega), if_neg (by rcases hg with rfl | rfl | rfl <;> decide), if_pos (by rcases hg with rfl | rfl | rfl <;> decide), nI_clamp (by omega), nI_clamp (by omega)]
      by_cases c : k < n
      · rw [if_pos c, if_pos (nI_lt c (by omega))]
      · rw [if_neg c, if_neg (nI_nlt (by omega) (by omega))]
    have ofl : ∀ (g k : Nat), g < 6 → 1 ≤ g → k < 6 → ∀ x : Int32, x = nI (6 * g - 5 + k) → qm_Ev G (d + 2) 0 0 qyX10_of [.ref 26, .int x] (hnd (qm_si h 26 0 0) t) (fun r h' => r = some (.int (tw h t (6 * g - 5 + k))) ∧ hnd (qm_si h 26 0 0) t = h') := by
      intro g k hg hg1 hk x hx
      rw [hx]
      exact e_of hG (d + 2) (hnd (qm_si h 26 0 0) t) (t := t) rfl ht2 (by omega)
    refine ⟨fun _ => ⟨by decide, by decide, ⟨fun q => ⟨fun c => ?_, fun c => ?_⟩, fun q => ?_, fun q => ?_, fun q => ?_, fun q => ?_, fun q => ?_, trivial⟩, fun q => ?_⟩, fun q => absurd q (by decide)⟩
    · have q0 : what / 10 = 0 := q
      exact ⟨trivial, by rw [s_town, if_pos q0, if_neg c], fin⟩
    · have q0 : what / 10 = 0 := q
      exact ⟨rfl, trivial, by rw [s_town, if_pos q0, if_pos c]; exact congrArg (fun x => some (Value.int x)) e23, fin⟩
    · obtain ⟨k, hk, e, e2⟩ := dv10 (x := what) (g := 1) (by decide) (by decide) q
      rw [g12 1 k (Or.inl rfl) hk e]
      refine ⟨fun (c : 6 ≤ what - what / 10 * 10) => ?_, fun (c : ¬ 6 ≤ what - what / 10 * 10) => ⟨fun (c2 : 20 ≤ what) => ?_, fun c2 => ?_⟩⟩
      · rw [e2] at c
        exact ⟨trivial, by rw [if_neg (fun q => absurd c (nI_ge (b := 6) q (by decide)))], fin⟩
      · rw [e] at c2
        exact absurd c2 (nI_ge (b := 20) (by omega) (by decide))
      · have ck : k < 6 := by
          rcases Nat.lt_or_ge k 6 with q | q
          · exact q
          · exact absurd (by rw [e2]; exact nI_le (a := 6) q (by omega)) c
        refine ⟨rfl, 0, 0, _, ofl 1 k (by decide) (by decide) ck _ (by rw [e2]; exact nI_add 1 k), ⟨Nat.le_refl _, Nat.le_refl _⟩, ?_⟩
        rintro _ _ ⟨rfl, rfl⟩
        exact ⟨trivial, by rw [if_pos ck], fin⟩
    · obtain ⟨k, hk, e, e2⟩ := dv10 (x := what) (g := 2) (by decide) (by decide) q
      rw [g12 2 k (Or.inr rfl) hk e]
      refine ⟨fun (c : 6 ≤ what - what / 10 * 10) => ?_, fun (c : ¬ 6 ≤ what - what / 10 * 10) => ⟨fun (c2 : 20 ≤ what) => ?_, fun (c2 : ¬ 20 ≤ what) => ?_⟩⟩
      · rw [e2] at c
        exact ⟨trivial, by rw [if_neg (fun q => absurd c (nI_ge (b := 6) q (by decide)))], fin⟩
      · have ck : k < 6 := by
          rcases Nat.lt_or_ge k 6 with q | q
          · exact q
          · exact absurd (by rw [e2]; exact nI_le (a := 6) q (by omega)) c
        refine ⟨rfl, 0, 0, _, ofl 2 k (by decide) (by decide) ck _ (by rw [e2]; exact nI_add 7 k), ⟨Nat.le_refl _, Nat.le_refl _⟩, ?_⟩
        rintro _ _ ⟨rfl, rfl⟩
        exact ⟨trivial, by rw [if_pos ck], fin⟩
      · rw [e] at c2
        exact absurd (nI_le (a := 20) (by omega) (by omega)) c2
    · obtain ⟨k, hk, e, e2⟩ := dv10 (x := what) (g := 3) (by decide) (by decide) q
      rw [g345 3 k (Or.inl rfl) hk e]
      refine ⟨rfl, fun (c : (hnd (qm_si h 26 0 0) t).1 26 23 ≤ what - what / 10 * 10) => ?_, fun (c : ¬ (hnd (qm_si h 26 0 0) t).1 26 23 ≤ what - what / 10 * 10) => ⟨by decide, rfl, ?_⟩⟩
      · rw [e2, e23] at c
        exact ⟨trivial, by rw [if_neg (fun q => absurd c (nI_ge q (by omega)))], fin⟩
      · have ck : k < n := by
          rcases Nat.lt_or_ge k n with q | q
          · exact q
          · exact absurd (by rw [e2, e23]; exact nI_le q (by omega)) c
        refine ⟨0, 0, _, ofl 3 k (by decide) (by decide) (by omega) _ (by rw [e2, q]; exact nI_add 13 k), ⟨Nat.le_refl _, Nat.le_refl _⟩, ?_⟩
        rintro _ _ ⟨rfl, rfl⟩
        exact ⟨trivial, by rw [if_pos ck], fin⟩
    · obtain ⟨k, hk, e, e2⟩ := dv10 (x := what) (g := 4) (by decide) (by decide) q
      rw [g345 4 k (Or.inr (Or.inl rfl)) hk e]
      refine ⟨rfl, fun (c : (hnd (qm_si h 26 0 0) t).1 26 23 ≤ what - what / 10 * 10) => ?_, fun (c : ¬ (hnd (qm_si h 26 0 0) t).1 26 23 ≤ what - what / 10 * 10) => ⟨by decide, rfl, ?_⟩⟩
      · rw [e2, e23] at c
        exact ⟨trivial, by rw [if_neg (fun q => absurd c (nI_ge q (by omega)))], fin⟩
      · have ck : k < n := by
          rcases Nat.lt_or_ge k n with q | q
          · exact q
          · exact absurd (by rw [e2, e23]; exact nI_le q (by omega)) c
        refine ⟨0, 0, _, ofl 4 k (by decide) (by decide) (by omega) _ (by rw [e2, q]; exact nI_add 19 k), ⟨Nat.le_refl _, Nat.le_refl _⟩, ?_⟩
        rintro _ _ ⟨rfl, rfl⟩
        exact ⟨trivial, by rw [if_pos ck], fin⟩
    · obtain ⟨k, hk, e, e2⟩ := dv10 (x := what) (g := 5) (by decide) (by decide) q
      rw [g345 5 k (Or.inr (Or.inr rfl)) hk e]
      refine ⟨rfl, fun (c : (hnd (qm_si h 26 0 0) t).1 26 23 ≤ what - what / 10 * 10) => ?_, fun (c : ¬ (hnd (qm_si h 26 0 0) t).1 26 23 ≤ what - what / 10 * 10) => ⟨by decide, rfl, ?_⟩⟩
      · rw [e2, e23] at c
        exact ⟨trivial, by rw [if_neg (fun q => absurd c (nI_ge q (by omega)))], fin⟩
      · have ck : k < n := by
          rcases Nat.lt_or_ge k n with q | q
          · exact q
          · exact absurd (by rw [e2, e23]; exact nI_le q (by omega)) c
        refine ⟨0, 0, _, ofl 5 k (by decide) (by decide) (by omega) _ (by rw [e2, q]; exact nI_add 25 k), ⟨Nat.le_refl _, Nat.le_refl _⟩, ?_⟩
        rintro _ _ ⟨rfl, rfl⟩
        exact ⟨trivial, by rw [if_pos ck], fin⟩
    · have q' : ∀ j : Nat, j < 6 → what / 10 ≠ nI j := by
        intro j hj e
        rw [e, nI_toInt (by omega)] at q
        simp only [List.length_cons, List.length_nil, List.drop] at q
        omega
      refine ⟨trivial, ?_, fin⟩
      have q0 : ¬ what / 10 = 0 := q' 0 (by decide)
      have q1 : ¬ (what / 10 = 1 ∨ what / 10 = 2) := fun e => e.elim (q' 1 (by decide)) (q' 2 (by decide))
      have q2 : ¬ (what / 10 = 3 ∨ what / 10 = 4 ∨ what / 10 = 5) := fun e => e.elim (q' 3 (by decide)) (fun e => e.elim (q' 4 (by decide)) (q' 5 (by decide)))
      rw [s_town, if_neg q0, if_neg q1, if_neg q2]
  · exact ⟨fun q => absurd rfl q, fun _ => ⟨trivial, by rw [p_town, e0]; rfl, pers.rf.s26⟩⟩
end
section
/-! the reference: deeds, lines, years played, counts, faults; what is learnt, the best -/
def s_cell (w : Nat → Int32) (c m : Nat) (k what : Int32) : Int32 := if k = -1 then (if what = 0 then nI m else -2) else if inb k m && inb what c then w (1 + c * k.toNatClampNeg + what.toNatClampNeg) else -2
def p_deed (h : qm_H) (my : Nat) (a k what : Int32) : Int32 := if inb a my then s_cell (yw h a.toNatClampNeg) 4 (nn (yw h a.toNatClampNeg)) k what else -2
theorem a_deed {G : qm_G} (hG : G.2.2.2.2 = true) (d : Nat) (h : qm_H) {mt my ml : Nat} (hS : ST h mt my ml) (a k what : Int32) : qm_Ev G (d + 3) 0 0 qyX10_deed [.ref 26, .int a, .int k, .int what] h (fun r h' => r = some (.int (p_deed h my a k what)) ∧ pers h h') := by
  refine qm_Ev.run (M := mX10_deed) okX10_deed rfl hG fun z => ?_
  obtain ⟨-, -, hS3, hS4, -, -, -, hY, -⟩ := hS
  refine ⟨rfl, trivial, rfl, 0, 0, _, e_hasYear hG d (qm_si h 26 0 0) a, ⟨Nat.le_refl _, Nat.le_refl _⟩, ?_⟩
  rintro _ _ ⟨rfl, rfl⟩
  have e31 : (qm_si h 26 0 0).1 31 1 = nI my := hS3
  rw [e31]
  have fin : pers h (qm_si (qm_si h 26 0 0) 26 34 a) := pers.rf.s26.s26
  refine b2_ne (fun hb => ?_) (fun hb => ⟨trivial, by rw [p_deed, show inb a my = false from hb]; rfl, fin⟩)
  have hb1 : inb a my = true := hb
  obtain ⟨y, hy, rfl⟩ := inb_e (by omega) hb1
  obtain ⟨i1, i2⟩ := p_in hy hS4
  have hV := hY y hy
  obtain ⟨m, hm⟩ : ∃ m, m = nn (yw h y) := ⟨_, rfl⟩
  rw [← hm] at hV
  have eP : p_deed h my (nI y) k what = s_cell (yw h y) 4 m k what := by rw [p_deed, i1, i2, ← hm]; rfl
  rw [eP]
  have hm40 := hV.1
  have e34 : (qm_si (qm_si h 26 0 0) 26 34 (nI y)).1 26 34 = nI y := rfl
  have e0 : yw (qm_si (qm_si h 26 0 0) 26 34 (nI y)) y 0 = nI m := hV.2.1
  refine ⟨fun c => ?_, fun c => ⟨fun c2 => ?_, fun c2 => ?_⟩⟩
  · have c0 : ¬ k = -1 := c
    refine ⟨rfl, 0, 0, _, e_deeds hG (d + 2) _ e34 (by omega), ⟨Nat.le_refl _, Nat.le_refl _⟩, ?_⟩
    rintro _ _ ⟨rfl, rfl⟩
    rw [e0]
    refine ⟨0, 0, _, e_in hG (d + 2) _ k 0 (nI m - 1), ⟨Nat.le_refl _, Nat.le_refl _⟩, ?_⟩
    rintro _ _ ⟨rfl, rfl⟩
    refine b2_eq (fun hk => ?_) (fun hk => ⟨trivial, by rw [s_cell, if_neg c0, show inb k m = false from hk]; rfl, fin⟩)
    refine ⟨0, 0, _, e_in hG (d + 2) _ what 0 3, ⟨Nat.le_refl _, Nat.le_refl _⟩, ?_⟩
    rintro _ _ ⟨rfl, rfl⟩
    refine b2_eq (fun hw => ?_) (fun hw => ⟨trivial, by rw [s_cell, if_neg c0, show inb what 4 = false from hw, Bool.and_false]; rfl, fin⟩)
    have hk1 : inb k m = true := hk
    have hw1 : inb what 4 = true := hw
    obtain ⟨kk, hkk, rfl⟩ := inb_e (by omega) hk1
    obtain ⟨j, hj, rfl⟩ := inb_e (by omega) hw1
    refine ⟨rfl, 0, 0, _, e_deedOf hG (d + 2) _ (k := kk) (j := j) e34 (by omega) (by omega) hj, ⟨Nat.le_refl _, Nat.le_refl _⟩, ?_⟩
    rintro _ _ ⟨rfl, rfl⟩
    exact ⟨trivial, by rw [s_cell, if_neg c0, hk1, hw1, nI_clamp (by omega), nI_clamp (by omega)]; rfl, fin⟩
  · have c0 : k = -1 := c
    exact ⟨trivial, by rw [s_cell, if_pos c0, if_neg c2], fin⟩
  · have c0 : k = -1 := c
    refine ⟨rfl, 0, 0, _, e_deeds hG (d + 2) _ e34 (by omega), ⟨Nat.le_refl _, Nat.le_refl _⟩, ?_⟩
    rintro _ _ ⟨rfl, rfl⟩
    exact ⟨trivial, by rw [s_cell, if_pos c0, if_pos c2, e0], fin⟩
def p_fact (h : qm_H) (ml : Nat) (a k what : Int32) : Int32 := if inb a ml then s_cell (gw h a.toNatClampNeg) 2 (nn (gw h a.toNatClampNeg)) k what else -2
theorem a_fact {G : qm_G} (hG : G.2.2.2.2 = true) (d : Nat) (h : qm_H) {mt my ml : Nat} (hS : ST h mt my ml) (a k what : Int32) : qm_Ev G (d + 3) 0 0 qyX10_fact [.ref 26, .int a, .int k, .int what] h (fun r h' => r = some (.int (p_fact h ml a k what)) ∧ pers h h') := by
  refine qm_Ev.run (M := mX10_fact) okX10_fact rfl hG fun z => ?_
  obtain ⟨-, -, -, -, hS3, hS4, -, -, hY⟩ := hS
  refine ⟨rfl, trivial, rfl, 0, 0, _, e_hasLog hG d (qm_si h 26 0 0) a, ⟨Nat.le_refl _, Nat.le_refl _⟩, ?_⟩
  rintro _ _ ⟨rfl, rfl⟩
  have e31 : (qm_si h 26 0 0).1 31 2 = nI ml := hS3
  rw [e31]
  have fin : pers h (qm_si (qm_si h 26 0 0) 26 41 a) := pers.rf.s26.s26
  refine b2_ne (fun hb => ?_) (fun hb => ⟨trivial, by rw [p_fact, show inb a ml = false from hb]; rfl, fin⟩)
  have hb1 : inb a ml = true := hb
  obtain ⟨y, hy, rfl⟩ := inb_e (by omega) hb1
  obtain ⟨i1, i2⟩ := p_in hy hS4
  have hV := hY y hy
  obtain ⟨m, hm⟩ : ∃ m, m = nn (gw h y) := ⟨_, rfl⟩
  rw [← hm] at hV
  have eP : p_fact h ml (nI y) k what = s_cell (gw h y) 2 m k what := by rw [p_fact, i1, i2, ← hm]; rfl
  rw [eP]
  have hm40 := hV.1
  have e34 : (qm_si (qm_si h 26 0 0) 26 41 (nI y)).1 26 41 = nI y := rfl
  have e0 : gw (qm_si (qm_si h 26 0 0) 26 41 (nI y)) y 0 = nI m := hV.2.1
  refine ⟨fun c => ?_, fun c => ⟨fun c2 => ?_, fun c2 => ?_⟩⟩
  · have c0 : ¬ k = -1 := c
    refine ⟨rfl, 0, 0, _, e_linesOf hG (d + 2) _ e34 (by omega), ⟨Nat.le_refl _, Nat.le_refl _⟩, ?_⟩
    rintro _ _ ⟨rfl, rfl⟩
    rw [e0]
    refine ⟨0, 0, _, e_in hG (d + 2) _ k 0 (nI m - 1), ⟨Nat.le_refl _, Nat.le_refl _⟩, ?_⟩
    rintro _ _ ⟨rfl, rfl⟩
    refine b2_eq (fun hk => ?_) (fun hk => ⟨trivial, by rw [s_cell, if_neg c0, show inb k m = false from hk]; rfl, fin⟩)
    refine ⟨0, 0, _, e_in hG (d + 2) _ what 0 1, ⟨Nat.le_refl _, Nat.le_refl _⟩, ?_⟩
    rintro _ _ ⟨rfl, rfl⟩
    refine b2_eq (fun hw => ?_) (fun hw => ⟨trivial, by rw [s_cell, if_neg c0, show inb what 2 = false from hw, Bool.and_false]; rfl, fin⟩)
    have hk1 : inb k m = true := hk
    have hw1 : inb what 2 = true := hw
    obtain ⟨kk, hkk, rfl⟩ := inb_e (by omega) hk1
    obtain ⟨j, hj, rfl⟩ := inb_e (by omega) hw1
    refine ⟨rfl, 0, 0, _, e_lineOf hG (d + 2) _ (k := kk) (j := j) e34 (by omega) (by omega) hj, ⟨Nat.le_refl _, Nat.le_refl _⟩, ?_⟩
    rintro _ _ ⟨rfl, rfl⟩
    exact ⟨trivial, by rw [s_cell, if_neg c0, hk1, hw1, nI_clamp (by omega), nI_clamp (by omega)]; rfl, fin⟩
  · have c0 : k = -1 := c
    exact ⟨trivial, by rw [s_cell, if_pos c0, if_neg c2], fin⟩
  · have c0 : k = -1 := c
    refine ⟨rfl, 0, 0, _, e_linesOf hG (d + 2) _ e34 (by omega), ⟨Nat.le_refl _, Nat.le_refl _⟩, ?_⟩
    rintro _ _ ⟨rfl, rfl⟩
    exact ⟨trivial, by rw [s_cell, if_pos c0, if_pos c2, e0], fin⟩
def p_till (h : qm_H) (mt my : Nat) (a b : Int32) : Int32 := if inb a mt && inb b my then nI (s_play (tw h a.toNatClampNeg) (nn (tw h a.toNatClampNeg)) (yw h b.toNatClampNeg) (nn (yw h b.toNatClampNeg)) 0 (s_init (tw h a.toNatClampNeg))).1 else -1
theorem a_till {G : qm_G} (hG : G.2.2.2.2 = true) (d : Nat) (h : qm_H) {mt my ml : Nat} (hS : ST h mt my ml) (a b : Int32) : qm_Ev G (d + 6) 0 0 qyX10_till [.ref 26, .int a, .int b] h (fun r h' => r = some (.int (p_till h mt my a b)) ∧ pers h h') := by
  refine qm_Ev.run (M := mX10_till) okX10_till rfl hG fun z => ?_
  obtain ⟨s1, s2, s3, s4, -, -, hT, hY, -⟩ := hS
  refine ⟨rfl, trivial, rfl, 0, 0, _, e_layAllC hG (d + 2) (qm_si h 26 0 0) (mt := mt) (my := my) s1 s2 s3 s4 a b, ⟨Nat.le_refl _, Nat.le_refl _⟩, ?_⟩
  rintro _ h' (⟨t, y, ht, hy, rfl, rfl, rfl, rfl⟩ | ⟨e0, rfl, e1⟩)
  · obtain ⟨i1, i2⟩ := p_in ht s2
    obtain ⟨i3, i4⟩ := p_in hy s4
    have vT := hT t ht
    have vY := hY y hy
    refine ⟨fun q => absurd q (by decide), fun _ => ?_⟩
    have g1 : (hnd (qm_si (qm_si h 26 0 0) 26 34 (nI y)) t).1 26 34 = nI y := rfl
    refine ⟨rfl, 0, 0, _, e_deeds hG (d + 5) _ g1 (by omega), ⟨Nat.le_refl _, Nat.le_refl _⟩, ?_⟩
    rintro _ _ ⟨rfl, rfl⟩
    have g2 : yw (hnd (qm_si (qm_si h 26 0 0) 26 34 (nI y)) t) y 0 = nI (nn (yw h y)) := vY.2.1
    rw [g2]
    refine ⟨rfl, 0, 0, _, e_play hG d _ (t := t) (n := nn (tw h t)) (y := y) (m := nn (yw h y)) (lim := nn (yw h y)) rfl (by omega) vT.2.1 vT.1 g1 (by omega) vY (Nat.le_refl _), ⟨Nat.le_refl _, Nat.le_refl _⟩, ?_⟩
    rintro _ h2 ⟨rfl, f1, f2⟩
    exact ⟨trivial, by rw [p_till, i1, i3, i2, i4]; rfl, pers.rf.s26.s26.tr ((hnd.ps _ t).tr f2.ps)⟩
  · exact ⟨fun _ => ⟨trivial, by rw [p_till, e0]; rfl, pers.rf.s26.tr e1⟩, fun q => absurd rfl q⟩
def p_state (h : qm_H) (mt my : Nat) (a b k what : Int32) : Int32 := if inb a mt && inb b my then (if 0 ≤ k ∧ k ≤ nI (nn (yw h b.toNatClampNeg)) then (if nI (s_play (tw h a.toNatClampNeg) (nn (tw h a.toNatClampNeg)) (yw h b.toNatClampNeg) k.toNatClampNeg 0 (s_init (tw h a.toNatClampNeg))).1 = k then s_of (nn (tw h a.toNatClampNeg)) (s_play (tw h a.toNatClampNeg) (nn (tw h a.toNatClampNeg)) (yw h b.toNatClampNeg) k.toNatClampNeg 0 (s_init (tw h a.toNatClampNeg))).2 what else -1) else -1) else -1
theorem a_state {G : qm_G} (hG : G.2.2.2.2 = true) (d : Nat) (h : qm_H) {mt my ml : Nat} (hS : ST h mt my ml) (a b k what : Int32) : qm_Ev G (d + 6) 0 0 qyX10_state [.ref 26, .int a, .int b, .int k, .int what] h (fun r h' => r = some (.int (p_state h mt my a b k what)) ∧ pers h h') := by
  refine qm_Ev.run (M := mX10_state) okX10_state rfl hG fun z => ?_
  obtain ⟨s1, s2, s3, s4, -, -, hT, hY, -⟩ := hS
  refine ⟨rfl, trivial, rfl, 0, 0, _, e_layAllC hG (d + 2) (qm_si h 26 0 0) (mt := mt) (my := my) s1 s2 s3 s4 a b, ⟨Nat.le_refl _, Nat.le_refl _⟩, ?_⟩
  rintro _ h' (⟨t, y, ht, hy, rfl, rfl, rfl, rfl⟩ | ⟨e0, rfl, e1⟩)
  · obtain ⟨i1, i2⟩ := p_in ht s2
    obtain ⟨i3, i4⟩ := p_in hy s4
    have vT := hT t ht
    have vY := hY y hy
    refine ⟨fun q => absurd q (by decide), fun _ => ?_⟩
    have g1 : (hnd (qm_si (qm_si h 26 0 0) 26 34 (nI y)) t).1 26 34 = nI y := rfl
    have fin : pers h (hnd (qm_si (qm_si h 26 0 0) 26 34 (nI y)) t) := pers.rf.s26.s26.tr (hnd.ps _ t)
    refine ⟨rfl, 0, 0, _, e_deeds hG (d + 5) _ g1 (by omega), ⟨Nat.le_refl _, Nat.le_refl _⟩, ?_⟩
    rintro _ _ ⟨rfl, rfl⟩
    have g2 : yw (hnd (qm_si (qm_si h 26 0 0) 26 34 (nI y)) t) y 0 = nI (nn (yw h y)) := vY.2.1
    rw [g2]
    refine ⟨0, 0, _, e_in hG (d + 5) _ k 0 (nI (nn (yw h y))), ⟨Nat.le_refl _, Nat.le_refl _⟩, ?_⟩
    rintro _ _ ⟨rfl, rfl⟩
    have v40 := vY.1
    refine b2_eq (fun hb => ?_) (fun hb => ⟨trivial, by rw [p_state, i1, i3, i2, i4]; simp only [Bool.and_self, if_true]; rw [if_neg (of_decide_eq_false hb)], fin⟩)
    have hb1 := of_decide_eq_true hb
    obtain ⟨kk, hkk, rfl⟩ := nI_of2 (M := nI (nn (yw h y))) (n := nn (yw h y)) (nI_toInt (by omega)) (Int32.not_lt.mpr hb1.1) hb1.2
    refine ⟨rfl, 0, 0, _, e_play hG d _ (t := t) (n := nn (tw h t)) (y := y) (m := nn (yw h y)) (lim := kk) rfl (by omega) vT.2.1 vT.1 g1 (by omega) vY hkk, ⟨Nat.le_refl _, Nat.le_refl _⟩, ?_⟩
    rintro _ h2 ⟨rfl, f1, f2⟩
    have eP : p_state h mt my (nI t) (nI y) (nI kk) what = if nI (s_play (tw h t) (nn (tw h t)) (yw h y) kk 0 (s_init (tw h t))).1 = nI kk then s_of (nn (tw h t)) (s_play (tw h t) (nn (tw h t)) (yw h y) kk 0 (s_init (tw h t))).2 what else -1 := by
      rw [p_state, i1, i3, i2, i4, nI_clamp (by omega)]
      simp only [Bool.and_self, if_true]
      rw [if_pos hb1]
    rw [eP]
    have f1' : rps h2 = (s_play (tw h t) (nn (tw h t)) (yw h y) kk 0 (s_init (tw h t))).2 := f1
    refine ⟨fun (c : ¬ nI (s_play (tw h t) (nn (tw h t)) (yw h y) kk 0 (s_init (tw h t))).1 = nI kk) => ⟨trivial, by rw [if_neg c], fin.tr f2.ps⟩, fun (c : nI (s_play (tw h t) (nn (tw h t)) (yw h y) kk 0 (s_init (tw h t))).1 = nI kk) => ?_⟩
    refine ⟨rfl, 0, 0, _, e_ofState hG (d + 5) h2 (n := nn (tw h t)) (by rw [f2.2.2 23 (by decide)]; exact vT.2.1) vT.1 what, ⟨Nat.le_refl _, Nat.le_refl _⟩, ?_⟩
    rintro _ _ ⟨rfl, rfl⟩
    exact ⟨trivial, by rw [if_pos c, f1'], fin.tr f2.ps⟩
  · exact ⟨fun _ => ⟨trivial, by rw [p_state, e0]; rfl, pers.rf.s26.tr e1⟩, fun q => absurd rfl q⟩
def p_count (h : qm_H) (sort : Int32) : Int32 := if inb sort 3 then h.1 31 sort.toNatClampNeg else -2
theorem a_count {G : qm_G} (hG : G.2.2.2.2 = true) (d : Nat) (h : qm_H) (sort : Int32) : qm_Ev G (d + 1) 0 0 qyX10_count [.ref 26, .int sort] h (fun r h' => r = some (.int (p_count h sort)) ∧ pers h h') := by
  refine qm_Ev.run (M := mX10_count) okX10_count rfl hG fun z => ?_
  refine ⟨rfl, trivial, 0, 0, _, e_in hG d (qm_si h 26 0 0) sort 0 2, ⟨Nat.le_refl _, Nat.le_refl _⟩, ?_⟩
  rintro _ _ ⟨rfl, rfl⟩
  refine b2_eq (fun hb => ?_) (fun hb => ⟨trivial, by rw [p_count, show inb sort 3 = false from hb]; rfl, pers.rf.s26⟩)
  have hb1 : inb sort 3 = true := hb
  obtain ⟨s, hs, rfl⟩ := inb_e (by omega) hb1
  refine ⟨rfl, _, rfl, rfl, (vp_in_nI (by omega) (by decide) : vp_in (nI s) 12), trivial, ?_, pers.rf.s26⟩
  rw [p_count, hb1]
  rfl
def p_fault (h : qm_H) (what : Int32) : Int32 := if what = 0 then h.1 29 0 else if what = 1 then h.1 30 0 else -1
theorem a_fault {G : qm_G} (hG : G.2.2.2.2 = true) (d : Nat) (h : qm_H) (what : Int32) : qm_Ev G d 0 0 qyX10_fault [.ref 26, .int what] h (fun r h' => r = some (.int (p_fault h what)) ∧ pers h h') := by
  refine qm_Ev.run (M := mX10_fault) okX10_fault rfl hG fun z => ?_
  refine ⟨rfl, trivial, fun c => ⟨fun c2 => ?_, fun c2 => ?_⟩, fun c => ?_⟩
  · exact ⟨trivial, by rw [p_fault, if_neg c, if_neg c2], pers.rf.s26⟩
  · exact ⟨rfl, _, rfl, rfl, (vp_in_nI (n := 0) (by decide) (by decide) : vp_in (nI 0) 4), trivial, by rw [p_fault, if_neg c, if_pos c2]; rfl, pers.rf.s26⟩
  · exact ⟨rfl, _, rfl, rfl, (vp_in_nI (n := 0) (by decide) (by decide) : vp_in (nI 0) 4), trivial, by rw [p_fault, if_pos c]; rfl, pers.rf.s26⟩
/-- who knows what in a town -/
def mi0 (w : Nat → Int32) : Nat → Int32 := (s_init w).2.2.1
def p_learnt (h : qm_H) (mt : Nat) (a p f : Int32) : Int32 := if inb a mt then (if inb p (nn (tw h a.toNatClampNeg)) && (inb f 6 && bit (mi0 (tw h a.toNatClampNeg) p.toNatClampNeg) f) then s_learnt (tw h a.toNatClampNeg) (mi0 (tw h a.toNatClampNeg)) p.toNatClampNeg f.toNatClampNeg (nn (tw h a.toNatClampNeg)) else -1) else -1
theorem a_learnt {G : qm_G} (hG : G.2.2.2.2 = true) (d : Nat) (h : qm_H) {mt my ml : Nat} (hS : ST h mt my ml) (a p f : Int32) : qm_Ev G (d + 3) 0 0 qyX10_learnt [.ref 26, .int a, .int p, .int f] h (fun r h' => r = some (.int (p_learnt h mt a p f)) ∧ pers h h') := by
  refine qm_Ev.run (M := mX10_learnt) okX10_learnt rfl hG fun z => ?_
  obtain ⟨s1, s2, -, -, -, -, hT, -, -⟩ := hS
  refine ⟨rfl, trivial, rfl, 0, 0, _, e_handC hG d (qm_si h 26 0 0) (mt := mt) s1 s2 a, ⟨Nat.le_refl _, Nat.le_refl _⟩, ?_⟩
  rintro _ _ (⟨t, ht, rfl, rfl, rfl⟩ | ⟨e0, rfl, rfl⟩)
  · obtain ⟨i1, i2⟩ := p_in ht s2
    have vT := hT t ht
    have n6 := vT.1
    have fin : pers h (hnd (qm_si h 26 0 0) t) := pers.rf.s26.tr (hnd.ps _ t)
    have g23 : (hnd (qm_si h 26 0 0) t).1 26 23 = nI (nn (tw h t)) := vT.2.1
    have eP : p_learnt h mt (nI t) p f = if inb p (nn (tw h t)) && (inb f 6 && bit (mi0 (tw h t) p.toNatClampNeg) f) then s_learnt (tw h t) (mi0 (tw h t)) p.toNatClampNeg f.toNatClampNeg (nn (tw h t)) else -1 := by
      rw [p_learnt, i1, i2]; rfl
    rw [eP]
    refine ⟨fun q => absurd q (by decide), fun _ => ?_⟩
    refine ⟨rfl, 0, 0, _, e_isPerson hG (d + 1) (hnd (qm_si h 26 0 0) t) p, ⟨Nat.le_refl _, Nat.le_refl _⟩, ?_⟩
    rintro _ _ ⟨rfl, rfl⟩
    rw [g23]
    refine b2_eq (fun hb => ?_) (fun hb => ⟨trivial, by rw [show inb p (nn (tw h t)) = false from hb]; rfl, fin⟩)
    have hb1 : inb p (nn (tw h t)) = true := hb
    refine ⟨0, 0, _, e_in hG (d + 2) _ f 0 5, ⟨Nat.le_refl _, Nat.le_refl _⟩, ?_⟩
    rintro _ _ ⟨rfl, rfl⟩
    refine b2_eq (fun hf => ?_) (fun hf => ⟨trivial, by rw [show inb f 6 = false from hf, Bool.false_and, Bool.and_false]; rfl, fin⟩)
    have hf1 : inb f 6 = true := hf
    obtain ⟨pp, hpp, rfl⟩ := inb_e (by omega) hb1
    obtain ⟨ff, hff, rfl⟩ := inb_e (by omega) hf1
    rw [hb1, hf1, Bool.true_and, Bool.true_and, nI_clamp (by omega), nI_clamp (by omega)]
    refine ⟨rfl, _, rfl, rfl, (vp_in_nI (by omega) (by decide) : vp_in (nI pp) 6), ?_⟩
    rw [nI_clamp (by omega)]
    refine ⟨0, 0, _, e_has hG (d + 2) _ ((hnd (qm_si h 26 0 0) t).1 39 pp) (nI ff), ⟨Nat.le_refl _, Nat.le_refl _⟩, ?_⟩
    rintro _ _ ⟨rfl, rfl⟩
    refine b2_eq (fun hh => ?_) (fun hh => ⟨trivial, by rw [show bit (mi0 (tw h t) pp) (nI ff) = false from hh]; rfl, fin⟩)
    refine ⟨rfl, 0, 0, _, e_learntOf hG d (hnd (qm_si h 26 0 0) t) (t := t) (n := nn (tw h t)) (p := pp) (f := ff) rfl (by omega) g23 n6 hff, ⟨Nat.le_refl _, Nat.le_refl _⟩, ?_⟩
    rintro _ _ ⟨rfl, rfl⟩
    exact ⟨trivial, by rw [show bit (mi0 (tw h t) pp) (nI ff) = true from hh]; rfl, fin⟩
  · exact ⟨fun _ => ⟨trivial, by rw [p_learnt, e0]; rfl, pers.rf.s26⟩, fun q => absurd rfl q⟩
def p_best (h : qm_H) (mt : Nat) (a p : Int32) (b : Bool) : Int32 := if inb a mt then (if inb p (nn (tw h a.toNatClampNeg)) then (if b then mx 0 (s_best (tw h a.toNatClampNeg) (mi0 (tw h a.toNatClampNeg)) (nn (tw h a.toNatClampNeg)) p.toNatClampNeg 6).2 else (s_best (tw h a.toNatClampNeg) (mi0 (tw h a.toNatClampNeg)) (nn (tw h a.toNatClampNeg)) p.toNatClampNeg 6).1) else -2) else -2
theorem a_best {G : qm_G} (hG : G.2.2.2.2 = true) (d : Nat) (h : qm_H) {mt my ml : Nat} (hS : ST h mt my ml) (a p : Int32) (b : Bool) : qm_Ev G (d + 4) 0 0 qyX10_best [.ref 26, .int a, .int p, .int (b2 b)] h (fun r h' => r = some (.int (p_best h mt a p b)) ∧ pers h h') := by
  refine qm_Ev.run (M := mX10_best) okX10_best rfl hG fun z => ?_
  obtain ⟨s1, s2, -, -, -, -, hT, -, -⟩ := hS
  refine ⟨rfl, trivial, rfl, 0, 0, _, e_handC hG (d + 1) (qm_si h 26 0 0) (mt := mt) s1 s2 a, ⟨Nat.le_refl _, Nat.le_refl _⟩, ?_⟩
  rintro _ _ (⟨t, ht, rfl, rfl, rfl⟩ | ⟨e0, rfl, rfl⟩)
  · obtain ⟨i1, i2⟩ := p_in ht s2
    have vT := hT t ht
    have n6 := vT.1
    have fin : pers h (hnd (qm_si h 26 0 0) t) := pers.rf.s26.tr (hnd.ps _ t)
    have g23 : (hnd (qm_si h 26 0 0) t).1 26 23 = nI (nn (tw h t)) := vT.2.1
    have eP : p_best h mt (nI t) p b = if inb p (nn (tw h t)) then (if b then mx 0 (s_best (tw h t) (mi0 (tw h t)) (nn (tw h t)) p.toNatClampNeg 6).2 else (s_best (tw h t) (mi0 (tw h t)) (nn (tw h t)) p.toNatClampNeg 6).1) else -2 := by
      rw [p_best, i1, i2]; rfl
    rw [eP]
    refine ⟨fun q => absurd q (by decide), fun _ => ?_⟩
    refine ⟨rfl, 0, 0, _, e_isPerson hG (d + 2) (hnd (qm_si h 26 0 0) t) p, ⟨Nat.le_refl _, Nat.le_refl _⟩, ?_⟩
    rintro _ _ ⟨rfl, rfl⟩
    rw [g23]
    refine b2_eq (fun hb => ?_) (fun hb => ⟨trivial, by rw [show inb p (nn (tw h t)) = false from hb]; rfl, fin⟩)
    have hb1 : inb p (nn (tw h t)) = true := hb
    obtain ⟨pp, hpp, rfl⟩ := inb_e (by omega) hb1
    rw [hb1, nI_clamp (by omega)]
    refine ⟨rfl, 0, 0, _, e_bestOf hG d (hnd (qm_si h 26 0 0) t) (t := t) (n := nn (tw h t)) (p := pp) rfl (by omega) g23 n6 (by omega) b, ⟨Nat.le_refl _, Nat.le_refl _⟩, ?_⟩
    rintro _ _ ⟨rfl, rfl⟩
    exact ⟨trivial, rfl, fin⟩
  · exact ⟨fun _ => ⟨trivial, by rw [p_best, e0]; rfl, pers.rf.s26⟩, fun q => absurd rfl q⟩
end
section
/-! the reference: roots and reach -/
def s_choir1 (w : Nat → Int32) (set : Int32) (i : Bool) : Nat → Bool
  | 0 => i
  | p + 1 => s_choir1 w set i p && (!bit set (nI p) || decide (w (25 + p) &&& set = 0))
theorem s_choir1_no {w : Nat → Int32} {set : Int32} {i : Bool} {k : Nat} (h : s_choir1 w set i k = false) : ∀ m, k ≤ m → s_choir1 w set i m = false := by
  intro m
  induction m with
  | zero => intro hk; rw [show k = 0 by omega] at h; exact h
  | succ m ih =>
    intro hk
    rcases Nat.lt_or_ge m k with q | q
    · rw [show k = m + 1 by omega] at h; exact h
    · rw [s_choir1, ih q]; rfl
def s_choir (w : Nat → Int32) (n : Nat) : Nat → Int32
  | 0 => 0
  | k + 1 => if s_choir1 w (nI k) (!decide (ones (nI k) 6 ≤ ones (s_choir w n k) 6)) n then nI k else s_choir w n k
theorem e_choir {G : qm_G} (hG : G.2.2.2.2 = true) (d : Nat) (h : qm_H) {t n : Nat} (ht : h.1 26 22 = nI t) (hk : t < 2) (hn : h.1 26 23 = nI n) (hn6 : n ≤ 6) : qm_Ev G (d + 2) 0 0 qyX10_choir [.ref 26] h (fun r h' => r = some (.int (s_choir (tw h t) n (2 ^ n))) ∧ h = h') := by
  refine qm_Ev.by (M := mX10_choir) okX10_choir (Nat.le_of_ble_eq_true rfl) hG fun z hA => ?_
  obtain ⟨-, p1⟩ := s_pow hn6
  obtain ⟨p2, p3⟩ := s_pow6 hn6
  have e0 : (1 : Int32) <<< (h.1 26 23 &&& 31) = nI (2 ^ n) := by rw [hn]; exact p1
  refine qm_wp_ok hA [4] 20 _ _ _ _ _ _ ?_
  refine qm_for (P := fun i => qm_PW G mX10_choir z 4 0 0 [vr 26, vi (s_choir (tw h t) n i), vi (nI i), vu, vu] [] h) (N := 2 ^ n) ?_ ?_
  · refine qm_wp_ok hA [] 20 _ _ _ _ _ _ ⟨rfl, fun _ => ⟨trivial, rfl, rfl⟩, fun (q : ¬ (1 : Int32) <<< (h.1 26 23 &&& 31) ≤ nI (2 ^ n)) => absurd (by rw [e0]; exact Int32.le_refl _) q⟩
  · intro i hi key
    rw [s_choir, ← nI_1] at key
    have key2 : ∀ L3 L4 : Option Value, qm_PW G mX10_choir z 4 0 0 [vr 26, vi (if s_choir1 (tw h t) (nI i) (!decide (ones (nI i) 6 ≤ ones (s_choir (tw h t) n i) 6)) n = true then nI i else s_choir (tw h t) n i), vi (nI i + 1), L3, L4] [] h := fun L3 L4 => qm_PW.mask [true, true, true, false, false] key
    have inner : ∀ b : Bool, b = (!decide (ones (nI i) 6 ≤ ones (s_choir (tw h t) n i) 6)) → qm_PW G mX10_choir z 21 0 0 [vr 26, vi (s_choir (tw h t) n i), vi (nI i), vi (b2 (s_choir1 (tw h t) (nI i) b 0)), vi (nI 0)] [] h := by
      intro b hb
      rw [← hb] at key2
      refine qm_for (P := fun j => qm_PW G mX10_choir z 21 0 0 [vr 26, vi (s_choir (tw h t) n i), vi (nI i), vi (b2 (s_choir1 (tw h t) (nI i) b j)), vi (nI j)] [] h) (N := n) ?_ ?_
      · refine qm_wp_ok hA [4] 30 _ _ _ _ _ _ ⟨rfl, fun _ => ?_, fun (q : ¬ h.1 26 23 ≤ nI n) => absurd (by rw [hn]; exact Int32.le_refl _) q⟩
        refine b2_eq (fun hx => ?_) (fun hx => ?_)
        · have k := key2 (vi (b2 (s_choir1 (tw h t) (nI i) b n))) (vi (nI n))
          rw [if_pos hx] at k
          exact k
        · have k := key2 (vi (b2 (s_choir1 (tw h t) (nI i) b n))) (vi (nI n))
          rw [if_neg (by rw [hx]; decide)] at k
          exact k
      · intro j hj kj
        rw [s_choir1, ← nI_1] at kj
        have e : (25 : Int32) + nI j = nI (25 + j) := nI_add 25 j
        refine qm_wp_ok hA [4, 21] 60 _ _ _ _ _ _ ⟨rfl, fun (q : h.1 26 23 ≤ nI j) => absurd q (by rw [hn]; exact nI_ge hj (by omega)), fun _ => ?_⟩
        cases hx : s_choir1 (tw h t) (nI i) b j with
        | false =>
          refine ⟨fun _ => ⟨fun _ => ?_, fun q => absurd rfl q⟩, fun q => absurd rfl q⟩
          have k := key2 (vi (b2 (s_choir1 (tw h t) (nI i) b j))) (vi (nI j))
          rw [if_neg (by rw [s_choir1_no hx n (by omega)]; decide), hx] at k
          exact k
        | true =>
          rw [hx, Bool.true_and] at kj
          refine ⟨fun q => absurd q (by decide), fun _ => ?_⟩
          refine ⟨0, 0, _, e_has hG (d + 1) h (nI i) (nI j), ⟨Nat.le_refl _, Nat.le_refl _⟩, ?_⟩
          rintro _ _ ⟨rfl, rfl⟩
          refine b2_eq (fun hb2 => ?_) (fun hb2 => by rw [hb2] at kj; exact kj)
          rw [hb2, Bool.not_true, Bool.false_or] at kj
          refine ⟨rfl, 0, 0, _, (by rw [e]; exact e_of hG (d + 1) h ht hk (by omega)), ⟨Nat.le_refl _, Nat.le_refl _⟩, ?_⟩
          rintro _ _ ⟨rfl, rfl⟩
          exact ⟨fun c => by rw [decide_eq_false c] at kj; exact kj, fun c => by rw [decide_eq_true c] at kj; exact kj⟩
    refine qm_wp_ok hA [21] 30 _ _ _ _ _ _ ⟨rfl, fun (q : (1 : Int32) <<< (h.1 26 23 &&& 31) ≤ nI i) => absurd q (by rw [e0]; exact nI_ge hi (by omega)), fun _ => ?_⟩
    refine ⟨0, 0, _, e_ones hG d h (nI i), ⟨Nat.le_refl _, Nat.le_refl _⟩, ?_⟩
    rintro _ _ ⟨rfl, rfl⟩
    refine ⟨0, 0, _, e_ones hG d h (s_choir (tw h t) n i), ⟨Nat.le_refl _, Nat.le_refl _⟩, ?_⟩
    rintro _ _ ⟨rfl, rfl⟩
    exact ⟨fun c => inner false (by rw [decide_eq_true c]; rfl), fun c => inner true (by rw [decide_eq_false c]; rfl)⟩
def s_roots (w : Nat → Int32) (n : Nat) (what : Int32) : Int32 :=
  if what < 10 then (if what = 0 then ones (s_root w 64) 6 else if what = 1 then s_root w 64 else if what = 2 then (s_rings w 6).1 else if what = 3 then (s_rings w 6).2 else if what = 4 then s_closedOnes w 64 else if what = 5 then nI (s_dearest w 5) else if what = 6 then s_knownBy (mi0 w) n 1 6 else if what = 7 then s_knownBy (mi0 w) n 0 6 else if what = 8 then (if nI n = 0 then 0 else s_knownBy (mi0 w) n (nI n) 6) else -1)
  else if 16 ≤ what then -1 else s_worth w (s_whole w (what - 10).toNatClampNeg) 6
def p_roots (h : qm_H) (mt : Nat) (a what : Int32) : Int32 := if inb a mt then s_roots (tw h a.toNatClampNeg) (nn (tw h a.toNatClampNeg)) what else -1
theorem a_roots {G : qm_G} (hG : G.2.2.2.2 = true) (d : Nat) (h : qm_H) {mt my ml : Nat} (hS : ST h mt my ml) (a what : Int32) : qm_Ev G (d + 3) 0 0 qyX10_roots [.ref 26, .int a, .int what] h (fun r h' => r = some (.int (p_roots h mt a what)) ∧ pers h h') := by
  refine qm_Ev.run (M := mX10_roots) okX10_roots rfl hG fun z => ?_
  obtain ⟨s1, s2, -, -, -, -, hT, -, -⟩ := hS
  refine ⟨rfl, trivial, rfl, 0, 0, _, e_handC hG d (qm_si h 26 0 0) (mt := mt) s1 s2 a, ⟨Nat.le_refl _, Nat.le_refl _⟩, ?_⟩
  rintro _ _ (⟨t, ht, rfl, rfl, rfl⟩ | ⟨e0, rfl, rfl⟩)
  · obtain ⟨i1, i2⟩ := p_in ht s2
    have vT := hT t ht
    have n6 := vT.1
    have fin : pers h (hnd (qm_si h 26 0 0) t) := pers.rf.s26.tr (hnd.ps _ t)
    have g23 : (hnd (qm_si h 26 0 0) t).1 26 23 = nI (nn (tw h t)) := vT.2.1
    have t2 : t < 2 := by omega
    have eP : p_roots h mt (nI t) what = s_roots (tw h t) (nn (tw h t)) what := by
      rw [p_roots, i1, i2]; rfl
    rw [eP]
    refine ⟨fun _ => ⟨fun c => ⟨⟨fun q => ?_, fun q => ?_, fun q => ⟨fun c => ?_, fun c => ?_⟩, fun q => ⟨fun c => ?_, fun c => ?_⟩, fun q => ?_, fun q => ?_, fun q => ?_, fun q => ?_, fun q => ⟨rfl, fun (c8 : ¬ (hnd (qm_si h 26 0 0) t).1 26 23 = 0) => ?_, fun (c8 : (hnd (qm_si h 26 0 0) t).1 26 23 = 0) => ?_⟩, trivial⟩, fun q => ?_⟩, fun c => ⟨fun c2 => ?_, fun c2 => ?_⟩⟩, fun q => absurd q (by decide)⟩
    · obtain rfl : what = 0 := q
      refine ⟨rfl, 0, 0, _, e_rootSet hG d _ (t := t) rfl t2, ⟨Nat.le_refl _, Nat.le_refl _⟩, ?_⟩
      rintro _ _ ⟨rfl, rfl⟩
      refine ⟨0, 0, _, e_ones hG (d + 1) _ _, ⟨Nat.le_refl _, Nat.le_refl _⟩, ?_⟩
      rintro _ _ ⟨rfl, rfl⟩
      refine ⟨trivial, ?_, fin⟩
      rw [s_roots, if_pos (by decide), if_pos rfl]
      rfl
    · obtain rfl : what = 1 := q
      refine ⟨rfl, 0, 0, _, e_rootSet hG d _ (t := t) rfl t2, ⟨Nat.le_refl _, Nat.le_refl _⟩, ?_⟩
      rintro _ _ ⟨rfl, rfl⟩
      refine ⟨trivial, ?_, fin⟩
      rw [s_roots, if_pos (by decide), if_neg (by decide), if_pos rfl]
      rfl
    · obtain rfl : what = 2 := q
      refine ⟨rfl, 0, 0, _, e_rings hG d _ (t := t) rfl t2 false, ⟨Nat.le_refl _, Nat.le_refl _⟩, ?_⟩
      rintro _ _ ⟨rfl, rfl⟩
      refine ⟨trivial, ?_, fin⟩
      have eK : s_roots (tw h t) (nn (tw h t)) 2 = (s_rings (tw h t) 6).1 := by rw [s_roots, if_pos (by decide), if_neg (by decide), if_neg (by decide), if_pos rfl]
      rw [eK]
      rfl
    · obtain rfl : what = 2 := q
      exact absurd c (by decide)
    · obtain rfl : what = 3 := q
      exact absurd rfl c
    · obtain rfl : what = 3 := q
      refine ⟨rfl, 0, 0, _, e_rings hG d _ (t := t) rfl t2 true, ⟨Nat.le_refl _, Nat.le_refl _⟩, ?_⟩
      rintro _ _ ⟨rfl, rfl⟩
      refine ⟨trivial, ?_, fin⟩
      have eK : s_roots (tw h t) (nn (tw h t)) 3 = (s_rings (tw h t) 6).2 := by rw [s_roots, if_pos (by decide), if_neg (by decide), if_neg (by decide), if_neg (by decide), if_pos rfl]
      rw [eK]
      rfl
    · obtain rfl : what = 4 := q
      refine ⟨rfl, 0, 0, _, e_closedOnes hG d _ (t := t) rfl t2, ⟨Nat.le_refl _, Nat.le_refl _⟩, ?_⟩
      rintro _ _ ⟨rfl, rfl⟩
      refine ⟨trivial, ?_, fin⟩
      rw [s_roots, if_pos (by decide), if_neg (by decide), if_neg (by decide), if_neg (by decide), if_neg (by decide), if_pos rfl]
      rfl
    · obtain rfl : what = 5 := q
      refine ⟨rfl, 0, 0, _, e_dearest hG d _ (t := t) rfl t2, ⟨Nat.le_refl _, Nat.le_refl _⟩, ?_⟩
      rintro _ _ ⟨rfl, rfl⟩
      refine ⟨trivial, ?_, fin⟩
      rw [s_roots, if_pos (by decide), if_neg (by decide), if_neg (by decide), if_neg (by decide), if_neg (by decide), if_neg (by decide), if_pos rfl]
      rfl
    · obtain rfl : what = 6 := q
      refine ⟨rfl, 0, 0, _, e_knownBy hG d _ g23 n6 1, ⟨Nat.le_refl _, Nat.le_refl _⟩, ?_⟩
      rintro _ _ ⟨rfl, rfl⟩
      refine ⟨trivial, ?_, fin⟩
      rw [s_roots, if_pos (by decide), if_neg (by decide), if_neg (by decide), if_neg (by decide), if_neg (by decide), if_neg (by decide), if_neg (by decide), if_pos rfl]
      rfl
    · obtain rfl : what = 7 := q
      refine ⟨rfl, 0, 0, _, e_knownBy hG d _ g23 n6 0, ⟨Nat.le_refl _, Nat.le_refl _⟩, ?_⟩
      rintro _ _ ⟨rfl, rfl⟩
      refine ⟨trivial, ?_, fin⟩
      rw [s_roots, if_pos (by decide), if_neg (by decide), if_neg (by decide), if_neg (by decide), if_neg (by decide), if_neg (by decide), if_neg (by decide), if_neg (by decide), if_pos rfl]
      rfl
    · obtain rfl : what = 8 := q
      refine ⟨rfl, rfl, 0, 0, _, e_knownBy hG d _ g23 n6 ((hnd (qm_si h 26 0 0) t).1 26 23), ⟨Nat.le_refl _, Nat.le_refl _⟩, ?_⟩
      rintro _ _ ⟨rfl, rfl⟩
      rw [g23] at c8 ⊢
      refine ⟨trivial, ?_, fin⟩
      have e1 : s_roots (tw h t) (nn (tw h t)) 8 = if nI (nn (tw h t)) = 0 then 0 else s_knownBy (mi0 (tw h t)) (nn (tw h t)) (nI (nn (tw h t))) 6 := by rw [s_roots, if_pos (by decide), if_neg (by decide), if_neg (by decide), if_neg (by decide), if_neg (by decide), if_neg (by decide), if_neg (by decide), if_neg (by decide), if_neg (by decide), if_pos rfl]
      rw [e1, if_neg c8]
      rfl
    · obtain rfl : what = 8 := q
      rw [g23] at c8
      refine ⟨trivial, ?_, fin⟩
      have e1 : s_roots (tw h t) (nn (tw h t)) 8 = if nI (nn (tw h t)) = 0 then 0 else s_knownBy (mi0 (tw h t)) (nn (tw h t)) (nI (nn (tw h t))) 6 := by rw [s_roots, if_pos (by decide), if_neg (by decide), if_neg (by decide), if_neg (by decide), if_neg (by decide), if_neg (by decide), if_neg (by decide), if_neg (by decide), if_neg (by decide), if_pos rfl]
      rw [e1, if_pos c8]
    · have q' : ∀ j : Nat, j < 9 → what ≠ nI j := by
        intro j hj e
        rw [e, nI_toInt (by omega)] at q
        simp only [List.length_cons, List.length_nil, List.drop] at q
        omega
      refine ⟨trivial, ?_, fin⟩
      have z0 : ¬ what = 0 := q' 0 (by decide)
      have z1 : ¬ what = 1 := q' 1 (by decide)
      have z2 : ¬ what = 2 := q' 2 (by decide)
      have z3 : ¬ what = 3 := q' 3 (by decide)
      have z4 : ¬ what = 4 := q' 4 (by decide)
      have z5 : ¬ what = 5 := q' 5 (by decide)
      have z6 : ¬ what = 6 := q' 6 (by decide)
      have z7 : ¬ what = 7 := q' 7 (by decide)
      have z8 : ¬ what = 8 := q' 8 (by decide)
      rw [s_roots, if_pos c, if_neg z0, if_neg z1, if_neg z2, if_neg z3, if_neg z4, if_neg z5, if_neg z6, if_neg z7, if_neg z8]
    · exact ⟨trivial, by rw [s_roots, if_neg c, if_pos c2], fin⟩
    · have hpos : ¬ what < 0 := fun q => c (Int32.lt_of_lt_of_le q (by decide))
      obtain ⟨x, hx, rfl⟩ := nI_of hpos
      have x1 : 10 ≤ x := by
        rcases Nat.lt_or_ge x 10 with q | q
        · exact absurd (nI_lt (b := 10) q (by decide)) c
        · exact q
      have x2 : x < 16 := by
        rcases Nat.lt_or_ge x 16 with q | q
        · exact q
        · exact absurd (nI_le (a := 16) q (by omega)) c2
      have x3 : nI x - 10 = nI (x - 10) := pk_sub x1
      have eR : s_roots (tw h t) (nn (tw h t)) (nI x) = s_worth (tw h t) (s_whole (tw h t) (x - 10)) 6 := by
        rw [s_roots, if_neg c, if_neg c2, x3, nI_clamp (by omega)]
      rw [eR]
      refine ⟨rfl, 0, 0, _, (by rw [x3]; exact e_whole hG (d + 1) (hnd (qm_si h 26 0 0) t) (t := t) (f := x - 10) rfl t2 (by omega)), ⟨Nat.le_refl _, Nat.le_refl _⟩, ?_⟩
      rintro _ _ ⟨rfl, rfl⟩
      refine ⟨rfl, 0, 0, _, e_worthOf hG (d + 1) _ (t := t) rfl t2 _, ⟨Nat.le_refl _, Nat.le_refl _⟩, ?_⟩
      rintro _ _ ⟨rfl, rfl⟩
      exact ⟨trivial, rfl, fin⟩
  · exact ⟨fun q => absurd rfl q, fun _ => ⟨trivial, by rw [p_roots, e0]; rfl, pers.rf.s26⟩⟩
def s_reachA (w : Nat → Int32) (n : Nat) (what : Int32) : Int32 :=
  if what < 10 then (if what = 0 then s_oi (s_loud w n n) else if what = 1 then s_deaf w n else if what = 2 then ones (s_choir w n (2 ^ n)) 6 else if what = 3 then s_choir w n (2 ^ n) else if what = 4 then s_twins (mi0 w) n else if what = 5 then ones (s_cover (mi0 w) n (nI (2 ^ n - 1)) (2 ^ n)) 6 else if what = 6 then s_cover (mi0 w) n (nI (2 ^ n - 1)) (2 ^ n) else -2)
  else if inb (what - 10) n then s_reach w n (what - 10).toNatClampNeg 6 else -2
def p_reach (h : qm_H) (mt : Nat) (a what : Int32) : Int32 := if inb a mt then s_reachA (tw h a.toNatClampNeg) (nn (tw h a.toNatClampNeg)) what else -2
theorem a_reach {G : qm_G} (hG : G.2.2.2.2 = true) (d : Nat) (h : qm_H) {mt my ml : Nat} (hS : ST h mt my ml) (a what : Int32) : qm_Ev G (d + 4) 0 0 qyX10_reach [.ref 26, .int a, .int what] h (fun r h' => r = some (.int (p_reach h mt a what)) ∧ pers h h') := by
  refine qm_Ev.run (M := mX10_reach) okX10_reach rfl hG fun z => ?_
  obtain ⟨s1, s2, -, -, -, -, hT, -, -⟩ := hS
  refine ⟨rfl, trivial, rfl, 0, 0, _, e_handC hG (d + 1) (qm_si h 26 0 0) (mt := mt) s1 s2 a, ⟨Nat.le_refl _, Nat.le_refl _⟩, ?_⟩
  rintro _ _ (⟨t, ht, rfl, rfl, rfl⟩ | ⟨e0, rfl, rfl⟩)
  · obtain ⟨i1, i2⟩ := p_in ht s2
    have vT := hT t ht
    have n6 := vT.1
    have fin : pers h (hnd (qm_si h 26 0 0) t) := pers.rf.s26.tr (hnd.ps _ t)
    have g23 : (hnd (qm_si h 26 0 0) t).1 26 23 = nI (nn (tw h t)) := vT.2.1
    have t2 : t < 2 := by omega
    have eP : p_reach h mt (nI t) what = s_reachA (tw h t) (nn (tw h t)) what := by
      rw [p_reach, i1, i2]; rfl
    rw [eP]
    refine ⟨fun _ => ⟨fun c => ⟨⟨fun q => ?_, fun q => ?_, fun q => ?_, fun q => ?_, fun q => ?_, fun q => ?_, fun q => ?_, trivial⟩, fun q => ?_⟩, fun c => ?_⟩, fun q => absurd q (by decide)⟩
    · obtain rfl : what = 0 := q
      refine ⟨rfl, 0, 0, _, e_loudest hG d _ (t := t) rfl t2 g23 n6, ⟨Nat.le_refl _, Nat.le_refl _⟩, ?_⟩
      rintro _ _ ⟨rfl, rfl⟩
      refine ⟨trivial, ?_, fin⟩
      rw [s_reachA, if_pos (by decide), if_pos rfl]
      rfl
    · obtain rfl : what = 1 := q
      refine ⟨rfl, 0, 0, _, e_deaf hG (d + 2) _ (t := t) rfl t2 g23 n6, ⟨Nat.le_refl _, Nat.le_refl _⟩, ?_⟩
      rintro _ _ ⟨rfl, rfl⟩
      refine ⟨trivial, ?_, fin⟩
      rw [s_reachA, if_pos (by decide), if_neg (by decide), if_pos rfl]
      rfl
    · obtain rfl : what = 2 := q
      refine ⟨rfl, 0, 0, _, e_choir hG (d + 1) _ (t := t) rfl t2 g23 n6, ⟨Nat.le_refl _, Nat.le_refl _⟩, ?_⟩
      rintro _ _ ⟨rfl, rfl⟩
      refine ⟨0, 0, _, e_ones hG (d + 2) _ _, ⟨Nat.le_refl _, Nat.le_refl _⟩, ?_⟩
      rintro _ _ ⟨rfl, rfl⟩
      refine ⟨trivial, ?_, fin⟩
      rw [s_reachA, if_pos (by decide), if_neg (by decide), if_neg (by decide), if_pos rfl]
      rfl
    · obtain rfl : what = 3 := q
      refine ⟨rfl, 0, 0, _, e_choir hG (d + 1) _ (t := t) rfl t2 g23 n6, ⟨Nat.le_refl _, Nat.le_refl _⟩, ?_⟩
      rintro _ _ ⟨rfl, rfl⟩
      refine ⟨trivial, ?_, fin⟩
      rw [s_reachA, if_pos (by decide), if_neg (by decide), if_neg (by decide), if_neg (by decide), if_pos rfl]
      rfl
    · obtain rfl : what = 4 := q
      refine ⟨rfl, 0, 0, _, e_twins hG (d + 3) _ g23 n6, ⟨Nat.le_refl _, Nat.le_refl _⟩, ?_⟩
      rintro _ _ ⟨rfl, rfl⟩
      refine ⟨trivial, ?_, fin⟩
      rw [s_reachA, if_pos (by decide), if_neg (by decide), if_neg (by decide), if_neg (by decide), if_neg (by decide), if_pos rfl]
      rfl
    · obtain rfl : what = 5 := q
      refine ⟨rfl, 0, 0, _, e_cover hG (d + 1) _ g23 n6, ⟨Nat.le_refl _, Nat.le_refl _⟩, ?_⟩
      rintro _ _ ⟨rfl, rfl⟩
      refine ⟨0, 0, _, e_ones hG (d + 2) _ _, ⟨Nat.le_refl _, Nat.le_refl _⟩, ?_⟩
      rintro _ _ ⟨rfl, rfl⟩
      refine ⟨trivial, ?_, fin⟩
      rw [s_reachA, if_pos (by decide), if_neg (by decide), if_neg (by decide), if_neg (by decide), if_neg (by decide), if_neg (by decide), if_pos rfl]
      rfl
    · obtain rfl : what = 6 := q
      refine ⟨rfl, 0, 0, _, e_cover hG (d + 1) _ g23 n6, ⟨Nat.le_refl _, Nat.le_refl _⟩, ?_⟩
      rintro _ _ ⟨rfl, rfl⟩
      refine ⟨trivial, ?_, fin⟩
      rw [s_reachA, if_pos (by decide), if_neg (by decide), if_neg (by decide), if_neg (by decide), if_neg (by decide), if_neg (by decide), if_neg (by decide), if_pos rfl]
      rfl
    · have q' : ∀ j : Nat, j < 7 → what ≠ nI j := by
        intro j hj e
        rw [e, nI_toInt (by omega)] at q
        simp only [List.length_cons, List.length_nil, List.drop] at q
        omega
      refine ⟨trivial, ?_, fin⟩
      have z0 : ¬ what = 0 := q' 0 (by decide)
      have z1 : ¬ what = 1 := q' 1 (by decide)
      have z2 : ¬ what = 2 := q' 2 (by decide)
      have z3 : ¬ what = 3 := q' 3 (by decide)
      have z4 : ¬ what = 4 := q' 4 (by decide)
      have z5 : ¬ what = 5 := q' 5 (by decide)
      have z6 : ¬ what = 6 := q' 6 (by decide)
      rw [s_reachA, if_pos c, if_neg z0, if_neg z1, if_neg z2, if_neg z3, if_neg z4, if_neg z5, if_neg z6]
    · have eR : s_reachA (tw h t) (nn (tw h t)) what = if inb (what - 10) (nn (tw h t)) then s_reach (tw h t) (nn (tw h t)) (what - 10).toNatClampNeg 6 else -2 := by
        rw [s_reachA, if_neg c]
      rw [eR]
      refine ⟨rfl, 0, 0, _, e_isPerson hG (d + 2) (hnd (qm_si h 26 0 0) t) (what - 10), ⟨Nat.le_refl _, Nat.le_refl _⟩, ?_⟩
      rintro _ _ ⟨rfl, rfl⟩
      rw [g23]
      refine b2_eq (fun hb => ?_) (fun hb => ⟨trivial, by rw [show inb (what - 10) (nn (tw h t)) = false from hb]; rfl, fin⟩)
      have hb1 : inb (what - 10) (nn (tw h t)) = true := hb
      obtain ⟨pp, hpp, ep⟩ := inb_e (by omega) hb1
      rw [hb1]
      refine ⟨rfl, 0, 0, _, (by rw [show what - (10 : Int32) = nI pp from ep]; exact e_reachOf hG (d + 2) (hnd (qm_si h 26 0 0) t) (t := t) (n := nn (tw h t)) (p := pp) rfl t2 g23 n6), ⟨Nat.le_refl _, Nat.le_refl _⟩, ?_⟩
      rintro _ _ ⟨rfl, rfl⟩
      exact ⟨trivial, by rw [ep, nI_clamp (by omega)]; rfl, fin⟩
  · exact ⟨fun q => absurd rfl q, fun _ => ⟨trivial, by rw [p_reach, e0]; rfl, pers.rf.s26⟩⟩
end
section
/-! the reference: after a year; years by a seed -/
def s_mv (w : Nat → Int32) (ps : PSt) (wh p : Nat) : Int32 := if wh = 0 then ps.2.2.2.2.1 p else if wh = 1 then ps.2.1 p else if wh = 2 then s_worth w (ps.2.2.1 p) 6 else ps.2.2.2.2.2.1 p
def s_most (v : Nat → Int32) (any : Bool) : Nat → Option Nat
  | 0 => none
  | p + 1 => match s_most v any p with
    | none => if any = false ∧ v p ≤ 0 then none else some p
    | some b => if v p ≤ v b then some b else some p
theorem s_most_lt (v : Nat → Int32) (any : Bool) : ∀ p b, s_most v any p = some b → b < p
  | 0, b, h => by cases h
  | p + 1, b, h => by
    have ih := s_most_lt v any p
    rw [s_most] at h
    split at h
    · split at h
      · cases h
      · cases h; omega
    · rename_i b' e
      have := ih b' e
      split at h
      · cases h; omega
      · cases h; omega
theorem e_most {G : qm_G} (hG : G.2.2.2.2 = true) (d : Nat) (h : qm_H) {t n wh : Nat} (ht : h.1 26 22 = nI t) (hk : t < 2) (hn : h.1 26 23 = nI n) (hn6 : n ≤ 6) (hw : wh < 4) : qm_Ev G (d + 2) 0 0 qyX10_most [.ref 26, .int (nI wh)] h (fun r h' => r = some (.int (s_oi (s_most (s_mv (tw h t) (rps h) wh) (decide (wh = 1 ∨ wh = 2)) (if wh = 3 then 6 else n)))) ∧ h = h') := by
  obtain ⟨v, hv⟩ : ∃ v, v = s_mv (tw h t) (rps h) wh := ⟨_, rfl⟩
  obtain ⟨any, hany⟩ : ∃ any, any = decide (wh = 1 ∨ wh = 2) := ⟨_, rfl⟩
  obtain ⟨N, hN⟩ : ∃ N, N = if wh = 3 then 6 else n := ⟨_, rfl⟩
  rw [← hv, ← hany, ← hN]
  refine qm_Ev.by (M := mX10_most) okX10_most (Nat.le_of_ble_eq_true rfl) hG fun z hA => ?_
  have hN6 : N ≤ 6 := by rw [hN]; split <;> omega
  have w0 : ∀ {j : Nat}, j < 4 → ∀ x : Int32, x = nI j → (nI wh = x ↔ wh = j) := fun {j} hj x hx => by rw [hx]; exact nI_eq (by omega) (by omega)
  refine qm_wp_ok hA [4] 20 _ _ _ _ _ _ ?_
  refine qm_for (P := fun i => qm_PW G mX10_most z 4 0 0 [vr 26, vi (nI wh), vi (s_oi (s_most v any i)), vi (nI i), vu, vu, vu] [] h) (N := N) ?_ ?_
  · refine qm_wp_ok hA [12] 20 _ _ _ _ _ _ ⟨fun (c : ¬ nI wh = 3) => ⟨rfl, ?_⟩, fun (c : nI wh = 3) => ?_⟩
    · have c' : ¬ wh = 3 := fun e => c ((w0 (by decide) 3 rfl).mpr e)
      have eN : N = n := by rw [hN, if_neg c']
      rw [eN]
      exact qm_wp_ok hA [] 20 _ _ _ _ _ _ ⟨fun _ => ⟨trivial, by rw [eN], rfl⟩, fun (q : ¬ h.1 26 23 ≤ nI n) => absurd (by rw [hn]; exact Int32.le_refl _) q⟩
    · have c' : wh = 3 := (w0 (by decide) 3 rfl).mp c
      have eN : N = 6 := by rw [hN, if_pos c']
      rw [eN]
      exact qm_wp_ok hA [] 20 _ _ _ _ _ _ ⟨fun _ => ⟨trivial, by rw [eN], rfl⟩, fun q => absurd (by decide) q⟩
  · intro i hi key
    rw [← nI_1] at key
    have key2 : ∀ L4 L5 L6 : Option Value, qm_PW G mX10_most z 4 0 0 [vr 26, vi (nI wh), vi (s_oi (s_most v any (i + 1))), vi (nI i + 1), L4, L5, L6] [] h := fun L4 L5 L6 => qm_PW.mask [true, true, true, true, false, false, false] key
    have hin : vp_in (nI i) 6 := vp_in_nI (by omega) (by decide)
    have ei : (nI i).toNatClampNeg = i := nI_clamp (by omega)
    have m90 : ∀ had : Int32, (s_most v any i = none → had = 0) → (∀ b, s_most v any i = some b → had = v b) → qm_PW G mX10_most z 90 0 0 [vr 26, vi (nI wh), vi (s_oi (s_most v any i)), vi (nI i), vi (v i), vi had, vu] [.int (b2 (decide (s_most v any i = none) && any))] h := by
      intro had h0 h1
      refine qm_wp_ok hA [4] 20 _ _ _ _ _ _ ?_
      rw [s_most] at key2
      cases hx : s_most v any i with
      | none =>
        rw [hx] at key2
        have e := h0 hx
        subst e
        cases any with
        | true => exact ⟨fun _ => key2 _ _ _, fun q => absurd q (by decide)⟩
        | false =>
          refine ⟨fun q => absurd rfl q, fun _ => ⟨fun c => ?_, fun c => ?_⟩⟩
          · have k := key2 (vi (v i)) (vi 0) (vi 0)
            simp only [true_and, if_pos c] at k
            exact k
          · have k := key2 (vi (v i)) (vi 0) (vi 0)
            simp only [true_and, if_neg c] at k
            exact k
      | some b =>
        rw [hx] at key2
        have e := h1 b hx
        subst e
        refine ⟨fun q => absurd rfl q, fun _ => ⟨fun c => ?_, fun c => ?_⟩⟩
        · have k := key2 (vi (v i)) (vi (v b)) (vi 0)
          simp only [if_pos c] at k
          exact k
        · have k := key2 (vi (v i)) (vi (v b)) (vi 0)
          simp only [if_neg c] at k
          exact k
    have m77 : ∀ had : Int32, (s_most v any i = none → had = 0) → (∀ b, s_most v any i = some b → had = v b) → qm_PW G mX10_most z 77 0 0 [vr 26, vi (nI wh), vi (s_oi (s_most v any i)), vi (nI i), vi (v i), vu, vu] [.int had] h := by
      intro had h0 h1
      have k := m90 had h0 h1
      cases hx : s_most v any i with
      | none =>
        rw [hx] at k
        refine qm_wp_ok hA [90] 20 _ _ _ _ _ _ ⟨fun q => absurd rfl q, fun _ => ⟨fun (c : nI wh = 1) => ?_, fun (c : ¬ nI wh = 1) => ⟨fun (c2 : ¬ nI wh = 2) => ?_, fun (c2 : nI wh = 2) => ?_⟩⟩⟩
        · rw [show any = true by rw [hany]; exact decide_eq_true (Or.inl ((w0 (by decide) 1 rfl).mp c))] at k
          exact k
        · rw [show any = false by rw [hany]; exact decide_eq_false (fun q => q.elim (fun q => c ((w0 (by decide) 1 rfl).mpr q)) (fun q => c2 ((w0 (by decide) 2 rfl).mpr q)))] at k
          exact k
        · rw [show any = true by rw [hany]; exact decide_eq_true (Or.inr ((w0 (by decide) 2 rfl).mp c2))] at k
          exact k
      | some b =>
        have hb := s_most_lt v any i b hx
        rw [hx] at k
        refine qm_wp_ok hA [90] 20 _ _ _ _ _ _ ⟨fun _ => k, fun (q : nI b = -1) => absurd (by rw [q]; decide : nI b < 0) (nI_pos (by omega))⟩
    have m42 : qm_PW G mX10_most z 42 0 0 [vr 26, vi (nI wh), vi (s_oi (s_most v any i)), vi (nI i), vu, vu, vu] [.int (v i)] h := by
      cases hx : s_most v any i with
      | none =>
        have k := m77 0 (fun _ => rfl) (fun b hb => by rw [hx] at hb; cases hb)
        rw [hx] at k
        exact qm_wp_ok hA [77] 20 _ _ _ _ _ _ ⟨fun q => absurd rfl q, fun _ => k⟩
      | some b =>
        have hb := s_most_lt v any i b hx
        have k := m77 (v b) (fun q => by rw [hx] at q; cases q) (fun b' hb' => by rw [hx] at hb'; cases hb'; rfl)
        rw [hx] at k
        have hib : vp_in (nI b) 6 := vp_in_nI (by omega) (by decide)
        have eb : (s_oi (some b)).toNatClampNeg = b := nI_clamp (n := b) (by omega)
        refine qm_wp_ok hA [77] 40 _ _ _ _ _ _ ⟨fun _ => ?_, fun (q : nI b = -1) => absurd (by rw [q]; decide : nI b < 0) (nI_pos (by omega))⟩
        refine ⟨fun (c : ¬ nI wh = 0) => ⟨fun (c1 : ¬ nI wh = 1) => ⟨fun (c2 : ¬ nI wh = 2) => ?_, fun (c2 : nI wh = 2) => ?_⟩, fun (c1 : nI wh = 1) => ?_⟩, fun (c : nI wh = 0) => ?_⟩
        · refine ⟨rfl, _, rfl, rfl, hib, ?_⟩
          rw [show v b = h.1 42 b by rw [hv, s_mv, if_neg (fun e => c ((w0 (by decide) 0 rfl).mpr e)), if_neg (fun e => c1 ((w0 (by decide) 1 rfl).mpr e)), if_neg (fun e => c2 ((w0 (by decide) 2 rfl).mpr e))]; rfl] at k
          rw [eb]
          exact k
        · refine ⟨rfl, _, rfl, rfl, hib, rfl, ?_⟩
          rw [show v b = s_worth (tw h t) (h.1 39 b) 6 by rw [hv, s_mv, if_neg (fun e => c ((w0 (by decide) 0 rfl).mpr e)), if_neg (fun e => c1 ((w0 (by decide) 1 rfl).mpr e)), if_pos ((w0 (by decide) 2 rfl).mp c2)]; rfl] at k
          rw [eb]
          refine ⟨0, 0, _, e_worthOf hG d h ht hk (h.1 39 b), ⟨Nat.le_refl _, Nat.le_refl _⟩, ?_⟩
          rintro _ _ ⟨rfl, rfl⟩
          exact k
        · refine ⟨rfl, _, rfl, rfl, hib, ?_⟩
          rw [show v b = h.1 38 b by rw [hv, s_mv, if_neg (fun e => c ((w0 (by decide) 0 rfl).mpr e)), if_pos ((w0 (by decide) 1 rfl).mp c1)]; rfl] at k
          rw [eb]
          exact k
        · refine ⟨rfl, _, rfl, rfl, hib, ?_⟩
          rw [show v b = h.1 41 b by rw [hv, s_mv, if_pos ((w0 (by decide) 0 rfl).mp c)]; rfl] at k
          rw [eb]
          exact k
    have m14 : ∀ M : Int32, ¬ M ≤ nI i → qm_PW G mX10_most z 12 0 0 [vr 26, vi (nI wh), vi (s_oi (s_most v any i)), vi (nI i), vu, vu, vu] [.int M, .int (nI i)] h := by
      intro M hM
      have k := m42
      refine qm_wp_ok hA [42] 40 _ _ _ _ _ _ ⟨fun q => absurd q hM, fun _ => ?_⟩
      refine ⟨fun (c : ¬ nI wh = 0) => ⟨fun (c1 : ¬ nI wh = 1) => ⟨fun (c2 : ¬ nI wh = 2) => ?_, fun (c2 : nI wh = 2) => ?_⟩, fun (c1 : nI wh = 1) => ?_⟩, fun (c : nI wh = 0) => ?_⟩
      · refine ⟨rfl, _, rfl, rfl, hin, ?_⟩
        rw [show v i = h.1 42 i by rw [hv, s_mv, if_neg (fun e => c ((w0 (by decide) 0 rfl).mpr e)), if_neg (fun e => c1 ((w0 (by decide) 1 rfl).mpr e)), if_neg (fun e => c2 ((w0 (by decide) 2 rfl).mpr e))]; rfl] at k
        rw [ei]
        exact k
      · refine ⟨rfl, _, rfl, rfl, hin, rfl, ?_⟩
        rw [show v i = s_worth (tw h t) (h.1 39 i) 6 by rw [hv, s_mv, if_neg (fun e => c ((w0 (by decide) 0 rfl).mpr e)), if_neg (fun e => c1 ((w0 (by decide) 1 rfl).mpr e)), if_pos ((w0 (by decide) 2 rfl).mp c2)]; rfl] at k
        rw [ei]
        refine ⟨0, 0, _, e_worthOf hG d h ht hk (h.1 39 i), ⟨Nat.le_refl _, Nat.le_refl _⟩, ?_⟩
        rintro _ _ ⟨rfl, rfl⟩
        exact k
      · refine ⟨rfl, _, rfl, rfl, hin, ?_⟩
        rw [show v i = h.1 38 i by rw [hv, s_mv, if_neg (fun e => c ((w0 (by decide) 0 rfl).mpr e)), if_pos ((w0 (by decide) 1 rfl).mp c1)]; rfl] at k
        rw [ei]
        exact k
      · refine ⟨rfl, _, rfl, rfl, hin, ?_⟩
        rw [show v i = h.1 41 i by rw [hv, s_mv, if_pos ((w0 (by decide) 0 rfl).mp c)]; rfl] at k
        rw [ei]
        exact k
    refine qm_wp_ok hA [12] 20 _ _ _ _ _ _ ⟨fun (c : ¬ nI wh = 3) => ⟨rfl, ?_⟩, fun (c : nI wh = 3) => ?_⟩
    · have c' : ¬ wh = 3 := fun e => c ((w0 (by decide) 3 rfl).mpr e)
      have eN : N = n := by rw [hN, if_neg c']
      exact m14 _ (by show ¬ h.1 26 23 ≤ nI i; rw [hn]; exact nI_ge (by omega) (by omega))
    · have c' : wh = 3 := (w0 (by decide) 3 rfl).mp c
      have eN : N = 6 := by rw [hN, if_pos c']
      exact m14 6 (nI_ge (b := 6) (by omega) (by omega))
end
section
/-! the reference: after a year; years by a seed -/
def s_fz (f : Int32) (ps : PSt) (k : Nat) : Int32 := if f = -1 ∧ ¬ ps.2.2.2.2.2.2.2.1 ≤ 0 then nI k else f
def s_aft (w : Nat → Int32) (n : Nat) (yr : Nat → Int32) : Nat → Nat → PSt → Int32 → PSt × Int32
  | 0, k, ps, f => (ps, s_fz f ps k)
  | r + 1, k, ps, f => if (s_deed w n yr k ps).1 then s_aft w n yr r (k + 1) (s_deed w n yr k ps).2 (s_fz f (s_deed w n yr k ps).2 k) else ((s_deed w n yr k ps).2, s_fz f (s_deed w n yr k ps).2 k)
def s_afterA (w : Nat → Int32) (n : Nat) (r : PSt × Int32) (what : Int32) : Int32 := if what = 0 then r.2 else if what = 5 then r.1.2.2.2.2.2.2.2.2.2 else s_oi (s_most (s_mv w r.1 ((what.toNatClampNeg) - 1)) (decide (what.toNatClampNeg - 1 = 1 ∨ what.toNatClampNeg - 1 = 2)) (if what.toNatClampNeg - 1 = 3 then 6 else n))
def p_after (h : qm_H) (mt my : Nat) (a b what : Int32) : Int32 := if inb a mt && inb b my && inb what 6 then s_afterA (tw h a.toNatClampNeg) (nn (tw h a.toNatClampNeg)) (s_aft (tw h a.toNatClampNeg) (nn (tw h a.toNatClampNeg)) (yw h b.toNatClampNeg) (nn (yw h b.toNatClampNeg)) 0 (s_init (tw h a.toNatClampNeg)) (-1)) what else -2
theorem a_after {G : qm_G} (hG : G.2.2.2.2 = true) (d : Nat) (h : qm_H) {mt my ml : Nat} (hS : ST h mt my ml) (a b what : Int32) : qm_Ev G (d + 6) 0 0 qyX10_after [.ref 26, .int a, .int b, .int what] h (fun r h' => r = some (.int (p_after h mt my a b what)) ∧ pers h h') := by
  refine qm_Ev.by (M := mX10_after) okX10_after (Nat.le_of_ble_eq_true rfl) hG fun z hA => ?_
  obtain ⟨s1, s2, s3, s4, -, -, hT, hY, -⟩ := hS
  refine qm_wp_ok hA [21] 30 _ _ _ _ _ _ ?_
  refine ⟨rfl, trivial, rfl, 0, 0, _, e_layAllC hG (d + 2) (qm_si h 26 0 0) (mt := mt) (my := my) s1 s2 s3 s4 a b, ⟨Nat.le_refl _, Nat.le_refl _⟩, ?_⟩
  rintro _ h' (⟨t, y, ht, hy, rfl, rfl, rfl, rfl⟩ | ⟨e0, rfl, e1⟩)
  · obtain ⟨i1, i2⟩ := p_in ht s2
    obtain ⟨i3, i4⟩ := p_in hy s4
    have vT := hT t ht
    have vY := hY y hy
    refine ⟨fun q => absurd q (by decide), fun _ => ?_⟩
    have fin : pers h (hnd (qm_si (qm_si h 26 0 0) 26 34 (nI y)) t) := pers.rf.s26.s26.tr (hnd.ps _ t)
    refine ⟨0, 0, _, e_in hG (d + 5) _ what 0 5, ⟨Nat.le_refl _, Nat.le_refl _⟩, ?_⟩
    rintro _ _ ⟨rfl, rfl⟩
    refine b2_ne (fun hb => ?_) (fun hb => ⟨trivial, by rw [p_after, show inb what 6 = false from hb, Bool.and_false]; rfl, fin⟩)
    have hb1 : inb what 6 = true := hb
    obtain ⟨wh, hwh, rfl⟩ := inb_e (by omega) hb1
    obtain ⟨w, hw⟩ : ∃ w, w = tw h t := ⟨_, rfl⟩
    obtain ⟨yr, hyr⟩ : ∃ yr, yr = yw h y := ⟨_, rfl⟩
    obtain ⟨n, hn⟩ : ∃ n, n = nn w := ⟨_, rfl⟩
    obtain ⟨m, hm⟩ : ∃ m, m = nn yr := ⟨_, rfl⟩
    obtain ⟨R, hR⟩ : ∃ R, R = s_aft w n yr m 0 (s_init w) (-1) := ⟨_, rfl⟩
    have eP : p_after h mt my (nI t) (nI y) (nI wh) = s_afterA w n R (nI wh) := by
      rw [p_after, i1, i3, hb1, i2, i4, ← hw, ← hyr, ← hn, ← hm, ← hR]; rfl
    rw [← hw, ← hn] at vT
    rw [← hyr, ← hm] at vY
    have m40 := vY.1
    have n6 := vT.1
    have done : ∀ (h2 : qm_H) (k : Nat), fr (hnd (qm_si (qm_si h 26 0 0) 26 34 (nI y)) t) h2 → rps h2 = R.1 → qm_PW G mX10_after z 21 0 0 [vr 26, vi (nI t), vi (nI y), vi (nI wh), vi R.2, vi 0, vi (nI k)] [] h2 := by
      intro h2 k f1 f2
      have tw2 : tw h2 t = w := (f1.row t).trans hw.symm
      have n2 : h2.1 26 23 = nI n := (f1.2.2 23 (by decide)).trans (by rw [hw] at vT; exact vT.2.1)
      have t2 : h2.1 26 22 = nI t := f1.2.2 22 (by decide)
      have most : ∀ j, j < 4 → wh = j + 1 → qm_Ev G (d + 5) 0 0 qyX10_most [.ref 26, .int (nI wh - 1)] h2 (fun r h' => r = some (.int (s_afterA w n R (nI wh))) ∧ h2 = h') := by
        intro j hj e
        have k := e_most hG (d + 3) h2 (t := t) (n := n) (wh := j) t2 (by omega) n2 n6 hj
        rw [tw2, f2] at k
        have e2 : nI wh - 1 = nI j := by rw [e]; exact nI_pred j
        have e3 : s_afterA w n R (nI wh) = s_oi (s_most (s_mv w R.1 j) (decide (j = 1 ∨ j = 2)) (if j = 3 then 6 else n)) := by
          have z0 : ¬ nI wh = 0 := fun q => by have := (nI_eq (a := wh) (b := 0) (by omega) (by decide)).mp q; omega
          have z5 : ¬ nI wh = 5 := fun q => by have := (nI_eq (a := wh) (b := 5) (by omega) (by decide)).mp q; omega
          rw [s_afterA, if_neg z0, if_neg z5, nI_clamp (by omega), show wh - 1 = j by omega]
        rw [e2, e3]
        exact k
      refine qm_wp_ok hA [] 30 _ _ _ _ _ _ ⟨fun _ => ⟨⟨fun q => ?_, fun q => ?_, fun q => ?_, fun q => ?_, fun q => ?_, trivial⟩, fun q => ?_⟩, fun q => absurd rfl q⟩
      · have q0 : wh = 0 := (nI_eq (a := wh) (b := 0) (by omega) (by decide)).mp q
        exact ⟨trivial, by rw [eP, s_afterA, if_pos (by rw [q0]; rfl)], fin.tr f1.ps⟩
      · have q0 : wh = 1 := (nI_eq (a := wh) (b := 1) (by omega) (by decide)).mp q
        refine ⟨rfl, 0, 0, _, most 0 (by decide) q0, ⟨Nat.le_refl _, Nat.le_refl _⟩, ?_⟩
        rintro _ _ ⟨rfl, rfl⟩
        exact ⟨trivial, by rw [eP], fin.tr f1.ps⟩
      · have q0 : wh = 2 := (nI_eq (a := wh) (b := 2) (by omega) (by decide)).mp q
        refine ⟨rfl, 0, 0, _, most 1 (by decide) q0, ⟨Nat.le_refl _, Nat.le_refl _⟩, ?_⟩
        rintro _ _ ⟨rfl, rfl⟩
        exact ⟨trivial, by rw [eP], fin.tr f1.ps⟩
      · have q0 : wh = 3 := (nI_eq (a := wh) (b := 3) (by omega) (by decide)).mp q
        refine ⟨rfl, 0, 0, _, most 2 (by decide) q0, ⟨Nat.le_refl _, Nat.le_refl _⟩, ?_⟩
        rintro _ _ ⟨rfl, rfl⟩
        exact ⟨trivial, by rw [eP], fin.tr f1.ps⟩
      · have q0 : wh = 4 := (nI_eq (a := wh) (b := 4) (by omega) (by decide)).mp q
        refine ⟨rfl, 0, 0, _, most 3 (by decide) q0, ⟨Nat.le_refl _, Nat.le_refl _⟩, ?_⟩
        rintro _ _ ⟨rfl, rfl⟩
        exact ⟨trivial, by rw [eP], fin.tr f1.ps⟩
      · have e5 : wh = 5 := by
          rw [nI_toInt (by omega)] at q
          simp only [List.length_cons, List.length_nil, List.drop] at q
          omega
        have g : h2.1 26 27 = R.1.2.2.2.2.2.2.2.2.2 := congrArg (fun x => x.2.2.2.2.2.2.2.2.2) f2
        refine ⟨rfl, trivial, ?_, fin.tr f1.ps⟩
        rw [eP, s_afterA, if_neg (by rw [e5]; decide), if_pos (by rw [e5]; rfl)]
        exact congrArg (fun x => some (Value.int x)) g
    have loop : ∀ r k : Nat, k + r = m → ∀ (h2 : qm_H) (f : Int32), R = s_aft w n yr r k (rps h2) f → fr (hnd (qm_si (qm_si h 26 0 0) 26 34 (nI y)) t) h2 → qm_PW G mX10_after z 21 0 0 [vr 26, vi (nI t), vi (nI y), vi (nI wh), vi f, vi 1, vi (nI k)] [] h2 := by
      intro r
      induction r with
      | zero =>
        intro k hkr h2 f e1 f1
        obtain rfl : k = m := hkr
        have e2 : R.1 = rps h2 := by rw [e1]; rfl
        have e3 : R.2 = s_fz f (rps h2) k := by rw [e1]; rfl
        have y0 : yw h2 y 0 = nI k := by rw [f1.yr y]; rw [hyr] at vY; exact vY.2.1
        have k2 := done h2 (k + 1) f1 e2.symm
        rw [← nI_1, e3] at k2
        refine qm_wp_ok hA [21] 40 _ _ _ _ _ _ ⟨fun q => absurd q (by decide), fun _ => ⟨rfl, 0, 0, _, e_deeds hG (d + 5) h2 (y := y) (f1.2.2 34 (by decide)) (by omega), ⟨Nat.le_refl _, Nat.le_refl _⟩, ?_⟩⟩
        rintro _ _ ⟨rfl, rfl⟩
        rw [y0]
        refine ⟨fun _ => ⟨fun c => ?_, fun c => ⟨rfl, fun (c2 : h2.1 26 25 ≤ 0) => ?_, fun (c2 : ¬ h2.1 26 25 ≤ 0) => ?_⟩⟩, fun q => absurd (Int32.le_refl _) q⟩
        · rw [s_fz, if_neg (fun q => c q.1)] at k2
          exact k2
        · rw [s_fz, if_neg (fun q => q.2 c2)] at k2
          exact k2
        · rw [s_fz, if_pos ⟨c, c2⟩] at k2
          exact k2
      | succ r ih =>
        intro k hkr h2 f e1 f1
        have y0 : yw h2 y 0 = nI m := by rw [f1.yr y]; rw [hyr] at vY; exact vY.2.1
        refine qm_wp_ok hA [21] 40 _ _ _ _ _ _ ⟨fun q => absurd q (by decide), fun _ => ⟨rfl, 0, 0, _, e_deeds hG (d + 5) h2 (y := y) (f1.2.2 34 (by decide)) (by omega), ⟨Nat.le_refl _, Nat.le_refl _⟩, ?_⟩⟩
        rintro _ _ ⟨rfl, rfl⟩
        rw [y0]
        refine ⟨fun q => absurd q (nI_ge (by omega) (by omega)), fun _ => ?_⟩
        refine ⟨rfl, 0, 0, _, e_doesDeed hG (d + 1) h2 (t := t) (n := n) (y := y) (m := m) (k := k) (f1.2.2 22 (by decide)) (by omega) ((f1.2.2 23 (by decide)).trans (by rw [hw] at vT; exact vT.2.1)) n6 (f1.2.2 34 (by decide)) (by omega) (by rw [f1.yr y]; rw [hyr] at vY; exact vY) (by omega), ⟨Nat.le_refl _, Nat.le_refl _⟩, ?_⟩
        rintro _ h3 ⟨rfl, e3, e4⟩
        have g1 : tw h2 t = w := (f1.row t).trans hw.symm
        have g2 : yw h2 y = yr := (f1.yr y).trans hyr.symm
        rw [g1, g2] at e3 ⊢
        refine b2_eq (fun hb => ?_) (fun hb => ?_)
        · have k2 := ih (k + 1) (by omega) h3 (s_fz f (rps h3) k) (by rw [e1, s_aft, if_pos hb, ← e3]) (f1.tr e4)
          rw [← nI_1] at k2
          refine ⟨fun c => ?_, fun c => ⟨rfl, fun (c2 : h3.1 26 25 ≤ 0) => ?_, fun (c2 : ¬ h3.1 26 25 ≤ 0) => ?_⟩⟩
          · rw [s_fz, if_neg (fun q => c q.1)] at k2
            exact k2
          · rw [s_fz, if_neg (fun q => q.2 c2)] at k2
            exact k2
          · rw [s_fz, if_pos ⟨c, c2⟩] at k2
            exact k2
        · rw [s_aft, if_neg (by rw [hb]; decide), ← e3] at e1
          have k2 := done h3 (k + 1) (f1.tr e4) (by rw [e1])
          rw [← nI_1, show R.2 = s_fz f (rps h3) k by rw [e1]] at k2
          refine ⟨fun c => ?_, fun c => ⟨rfl, fun (c2 : h3.1 26 25 ≤ 0) => ?_, fun (c2 : ¬ h3.1 26 25 ≤ 0) => ?_⟩⟩
          · rw [s_fz, if_neg (fun q => c q.1)] at k2
            exact k2
          · rw [s_fz, if_neg (fun q => q.2 c2)] at k2
            exact k2
          · rw [s_fz, if_pos ⟨c, c2⟩] at k2
            exact k2
    exact loop m 0 (Nat.zero_add m) _ (-1) (by rw [hR, hw]; rfl) fr.rf
  · exact ⟨fun _ => ⟨trivial, by rw [p_after, e0]; rfl, pers.rf.s26.tr e1⟩, fun q => absurd rfl q⟩
end
section
/-! the reference: years by a seed -/
theorem s_draw_nat (s : Int32) {k : Nat} (hk : 0 < k) (hk2 : k < 2 ^ 31) : ∃ j, j < k ∧ s_draw s (nI k) = nI j := by
  have h1 := pk_ushr (s_seed s) 16 16 (by decide)
  unfold s_draw
  obtain ⟨x, hx⟩ : ∃ x, x = ((s_seed s).toUInt32 >>> ((16 : Int32).toUInt32 &&& Int32.toUInt32 31)).toInt32 := ⟨_, rfl⟩
  rw [← hx] at h1 ⊢
  have h2 : x.toBitVec.toNat < 65536 := by
    rw [h1]
    have := (s_seed s).toBitVec.isLt
    omega
  have h3 : x = nI x.toBitVec.toNat := by
    apply Int32.toBitVec_inj.1
    show x.toBitVec = BitVec.ofNat 32 x.toBitVec.toNat
    rw [BitVec.ofNat_toNat, BitVec.setWidth_eq]
  obtain ⟨q, hq⟩ : ∃ q, q = x.toBitVec.toNat := ⟨_, rfl⟩
  rw [← hq] at h2 h3
  refine ⟨q % k, Nat.mod_lt _ hk, ?_⟩
  rw [h3]
  exact pk_rem (by omega) hk hk2
/-- a deed that is drawn: the seed, the play -/
def s_dd (w : Nat → Int32) (n : Nat) (s : Int32) (ps : PSt) : Int32 × PSt :=
  if s_draw s 8 ≤ 5 then
    (if ¬ nI n ≤ 0 ∧ ¬ 5 ≤ s_draw s 8 then
      (s_seed (s_seed (s_seed s)), (s_does w n (if 2 ≤ s_draw s 8 then (if 4 ≤ s_draw s 8 then 2 else 1) else 0) (s_draw (s_seed s) (nI n)) (s_draw (s_seed (s_seed s)) 6) (-1) ps).2)
    else if nI n ≤ 1 then (s_seed s, ps)
    else (s_seed (s_seed (s_seed (s_seed s))), (s_does w n 3 (s_draw (s_seed s) (nI n)) ((s_draw (s_seed (s_seed s)) (nI n - 1) + 1 + s_draw (s_seed s) (nI n)) - (s_draw (s_seed (s_seed s)) (nI n - 1) + 1 + s_draw (s_seed s) (nI n)) / nI n * nI n) (s_draw (s_seed (s_seed (s_seed s))) 6) ps).2))
  else (s_seed s, s_eve n ps)
/-- what a drawn deed leaves -/
def frd (h h' : qm_H) : Prop := pers h h' ∧ h'.1 26 22 = h.1 26 22 ∧ h'.1 26 23 = h.1 26 23
theorem fr.d {h h' : qm_H} (a : fr h h') : frd h h' := ⟨a.ps, a.2.2 22 (by decide), a.2.2 23 (by decide)⟩
theorem frd.tr {h h1 h2 : qm_H} (a : frd h h1) (b : frd h1 h2) : frd h h2 := ⟨a.1.tr b.1, b.2.1.trans a.2.1, b.2.2.trans a.2.2⟩
theorem frd.sd (h : qm_H) (v : Int32) : frd h (qm_si h 26 44 v) := ⟨pers.rf.s26, rfl, rfl⟩
theorem e_drawN {G : qm_G} (hG : G.2.2.2.2 = true) (d : Nat) (h : qm_H) {k : Nat} (hk : 0 < k) (hk2 : k < 2 ^ 31) (x : Int32) (hx : x = nI k) {s : Int32} (hs : h.1 26 44 = s) : qm_Ev G d 0 0 qyX10_draw [.ref 26, .int x] h (fun r h' => r = some (.int (s_draw s (nI k))) ∧ h' = qm_si h 26 44 (s_seed s)) := by
  rw [hx, ← hs]
  exact e_draw hG d h (nI k) (nI_ne0 hk hk2)
theorem e_drawDeed {G : qm_G} (hG : G.2.2.2.2 = true) (d : Nat) (h : qm_H) {t n : Nat} (ht : h.1 26 22 = nI t) (hk : t < 2) (hn : h.1 26 23 = nI n) (hn6 : n ≤ 6) : qm_Ev G (d + 4) 0 0 qyX10_drawDeed [.ref 26] h (fun r h' => r = none ∧ h'.1 26 44 = (s_dd (tw h t) n (h.1 26 44) (rps h)).1 ∧ rps h' = (s_dd (tw h t) n (h.1 26 44) (rps h)).2 ∧ frd h h') := by
  obtain ⟨s, hs⟩ : ∃ s, s = h.1 26 44 := ⟨_, rfl⟩
  rw [← hs]
  refine qm_Ev.by (M := mX10_drawDeed) okX10_drawDeed (Nat.le_of_ble_eq_true rfl) hG fun z hA => ?_
  refine qm_wp_ok hA [33, 41] 40 _ _ _ _ _ _ ?_
  refine ⟨rfl, 0, 0, _, e_draw hG (d + 3) h 8 (by decide), ⟨Nat.le_refl _, Nat.le_refl _⟩, ?_⟩
  rintro _ _ ⟨rfl, rfl⟩
  rw [← hs]
  obtain ⟨h1, hh1⟩ : ∃ x, x = qm_si h 26 44 (s_seed s) := ⟨_, rfl⟩
  rw [← hh1]
  have a1 : h1.1 26 44 = s_seed s := by rw [hh1]; rfl
  have a2 : rps h1 = rps h := by rw [hh1]; rfl
  have a3 : frd h h1 := by rw [hh1]; exact frd.sd h _
  have a4 : h1.1 26 23 = nI n := a3.2.2.trans hn
  have a5 : h1.1 26 22 = nI t := a3.2.1.trans ht
  have a6 : tw h1 t = tw h t := a3.1.row t
  have m41 : s_draw s 8 ≤ 5 → ¬ (¬ nI n ≤ 0 ∧ ¬ 5 ≤ s_draw s 8) → qm_PW G mX10_drawDeed z 41 0 0 [vr 26, vi (s_draw s 8), vu, vu] [] h1 := by
    intro c1 c2
    refine qm_wp_ok hA [] 60 _ _ _ _ _ _ ⟨rfl, fun (c3 : h1.1 26 23 ≤ 1) => ?_, fun (c3 : ¬ h1.1 26 23 ≤ 1) => ?_⟩
    · rw [a4] at c3
      have e : s_dd (tw h t) n s (rps h) = (s_seed s, rps h) := by rw [s_dd, if_pos c1, if_neg c2, if_pos c3]
      exact ⟨rfl, rfl, by rw [e]; exact a1, by rw [e]; exact a2, a3⟩
    · rw [a4] at c3
      have n2 : 2 ≤ n := by
        rcases Nat.lt_or_ge n 2 with q | q
        · exact absurd (nI_le (b := 1) (by omega) (by decide)) c3
        · exact q
      have en : nI n - 1 = nI (n - 1) := by
        have := nI_pred (n - 1)
        rw [show n - 1 + 1 = n by omega] at this
        exact this
      have a4' : h1.1 26 23 = nI n := a4
      obtain ⟨p, hp, ep⟩ := s_draw_nat (s_seed s) (k := n) (by omega) (by omega)
      obtain ⟨o, ho, eo⟩ := s_draw_nat (s_seed (s_seed s)) (k := n - 1) (by omega) (by omega)
      obtain ⟨c, hc, ec⟩ := s_draw_nat (s_seed (s_seed (s_seed s))) (k := 6) (by omega) (by omega)
      have ec' : s_draw (s_seed (s_seed (s_seed s))) 6 = nI c := ec
      have eoo : nI o + 1 + nI p - (nI o + 1 + nI p) / nI n * nI n = nI ((o + 1 + p) % n) := by
        rw [nI_1, nI_add]
        exact pk_rem (by omega) (by omega) (by omega)
      have e : s_dd (tw h t) n s (rps h) = (s_seed (s_seed (s_seed (s_seed s))), (s_does (tw h t) n 3 (nI p) (nI ((o + 1 + p) % n)) (nI c) (rps h)).2) := by
        rw [s_dd, if_pos c1, if_neg c2, if_neg c3, en, ep, eo, ec', eoo]
      refine ⟨rfl, rfl, 0, 0, _, e_drawN hG (d + 3) h1 (k := n) (by omega) (by omega) _ a4 a1, ⟨Nat.le_refl _, Nat.le_refl _⟩, ?_⟩
      rintro _ _ ⟨rfl, rfl⟩
      rw [ep]
      refine ⟨rfl, rfl, 0, 0, _, e_drawN hG (d + 3) (qm_si h1 26 44 (s_seed (s_seed s))) (k := n - 1) (by omega) (by omega) _ (by show h1.1 26 23 - 1 = _; rw [a4, en]) (s := s_seed (s_seed s)) rfl, ⟨Nat.le_refl _, Nat.le_refl _⟩, ?_⟩
      rintro _ _ ⟨rfl, rfl⟩
      rw [eo]
      refine ⟨rfl, by show ¬ h1.1 26 23 = 0; rw [a4]; exact nI_ne0 (by omega) (by omega), rfl, 0, 0, _, e_drawN hG (d + 3) (qm_si (qm_si h1 26 44 (s_seed (s_seed s))) 26 44 (s_seed (s_seed (s_seed s)))) (k := 6) (by omega) (by omega) _ rfl (s := s_seed (s_seed (s_seed s))) rfl, ⟨Nat.le_refl _, Nat.le_refl _⟩, ?_⟩
      rintro _ _ ⟨rfl, rfl⟩
      rw [ec]
      obtain ⟨h4, hh4⟩ : ∃ x, x = qm_si (qm_si (qm_si h1 26 44 (s_seed (s_seed s))) 26 44 (s_seed (s_seed (s_seed s)))) 26 44 (s_seed (s_seed (s_seed (s_seed s)))) := ⟨_, rfl⟩
      have b1 : h4.1 26 44 = s_seed (s_seed (s_seed (s_seed s))) := by rw [hh4]; rfl
      have b2 : rps h4 = rps h := by rw [hh4, ← a2]; rfl
      have b3 : frd h h4 := by rw [hh4]; exact ((a3.tr (frd.sd _ _)).tr (frd.sd _ _)).tr (frd.sd _ _)
      have b4 : (qm_si (qm_si (qm_si h1 26 44 (s_seed (s_seed s))) 26 44 (s_seed (s_seed (s_seed s)))) 26 44 (s_seed (s_seed (s_seed (s_seed s))))).1 26 22 = nI t := a5
      have b5 : (qm_si (qm_si (qm_si h1 26 44 (s_seed (s_seed s))) 26 44 (s_seed (s_seed (s_seed s)))) 26 44 (s_seed (s_seed (s_seed (s_seed s))))).1 26 23 = nI n := a4
      refine ⟨rfl, 0, 0, _, e_does hG d _ (t := t) (n := n) (wh := 3) b4 hk b5 hn6 (by decide) (nI p) _ (nI c) (fun q => absurd q (by decide)), ⟨Nat.le_refl _, Nat.le_refl _⟩, ?_⟩
      rintro _ h5 ⟨rfl, f1, f2⟩
      have f1' : rps h5 = (s_does (tw h4 t) n 3 (nI p) (nI o + 1 + nI p - (nI o + 1 + nI p) / h1.1 26 23 * h1.1 26 23) (nI c) (rps h4)).2 := by rw [hh4]; exact f1
      rw [a4, eoo] at f1'
      rw [← hh4] at f2
      refine ⟨rfl, rfl, ?_, ?_, b3.tr f2.d⟩
      · rw [e, f2.2.2 44 (by decide)]; exact b1
      · rw [e, f1', b2, b3.1.row t]
  have m33 : ∀ wh : Nat, wh < 3 → s_draw s 8 ≤ 5 → (¬ nI n ≤ 0 ∧ ¬ 5 ≤ s_draw s 8) → (if 2 ≤ s_draw s 8 then (if 4 ≤ s_draw s 8 then 2 else 1) else 0) = wh → qm_PW G mX10_drawDeed z 33 0 0 [vr 26, vi (s_draw s 8), vi (s_draw (s_seed s) (nI n)), vu] [.int (nI wh), .ref 26] (qm_si h1 26 44 (s_seed (s_seed s))) := by
    intro wh hwh c1 c2 c3
    obtain ⟨f, hf, ef⟩ := s_draw_nat (s_seed (s_seed s)) (k := 6) (by omega) (by omega)
    have ef' : s_draw (s_seed (s_seed s)) 6 = nI f := ef
    have e : s_dd (tw h t) n s (rps h) = (s_seed (s_seed (s_seed s)), (s_does (tw h t) n wh (s_draw (s_seed s) (nI n)) (nI f) (-1) (rps h)).2) := by
      rw [s_dd, if_pos c1, if_pos c2, c3, ef']
    refine qm_wp_ok hA [] 60 _ _ _ _ _ _ ⟨rfl, 0, 0, _, e_drawN hG (d + 3) (qm_si h1 26 44 (s_seed (s_seed s))) (k := 6) (by omega) (by omega) _ rfl (s := s_seed (s_seed s)) rfl, ⟨Nat.le_refl _, Nat.le_refl _⟩, ?_⟩
    rintro _ _ ⟨rfl, rfl⟩
    rw [ef]
    obtain ⟨h4, hh4⟩ : ∃ x, x = qm_si (qm_si h1 26 44 (s_seed (s_seed s))) 26 44 (s_seed (s_seed (s_seed s))) := ⟨_, rfl⟩
    have b1 : h4.1 26 44 = s_seed (s_seed (s_seed s)) := by rw [hh4]; rfl
    have b2 : rps h4 = rps h := by rw [hh4, ← a2]; rfl
    have b3 : frd h h4 := by rw [hh4]; exact (a3.tr (frd.sd _ _)).tr (frd.sd _ _)
    have k := e_does hG d h4 (t := t) (n := n) (wh := wh) (b3.2.1.trans ht) hk (b3.2.2.trans hn) hn6 (by omega) (s_draw (s_seed s) (nI n)) (nI f) (-1) (fun _ => ⟨f, hf, rfl⟩)
    rw [hh4] at k
    refine ⟨rfl, 0, 0, _, k, ⟨Nat.le_refl _, Nat.le_refl _⟩, ?_⟩
    rintro _ h5 ⟨rfl, f1, f2⟩
    rw [← hh4] at f1 f2
    refine ⟨rfl, rfl, ?_, ?_, b3.tr f2.d⟩
    · rw [e, f2.2.2 44 (by decide)]; exact b1
    · rw [e, f1, b2, b3.1.row t]
  refine ⟨fun c => ⟨rfl, fun (c2 : h1.1 26 23 ≤ 0) => ?_, fun (c2 : ¬ h1.1 26 23 ≤ 0) => ⟨fun c3 => ?_, fun c3 => ?_⟩⟩, fun c => ?_⟩
  · rw [a4] at c2
    exact m41 c (fun q => q.1 c2)
  · exact m41 c (fun q => q.2 c3)
  · rw [a4] at c2
    have n1 : 0 < n := by
      rcases Nat.eq_zero_or_pos n with q | q
      · exact absurd (by rw [q]; decide) c2
      · exact q
    refine ⟨rfl, rfl, 0, 0, _, e_drawN hG (d + 3) h1 (k := n) n1 (by omega) _ a4 a1, ⟨Nat.le_refl _, Nat.le_refl _⟩, ?_⟩
    rintro _ _ ⟨rfl, rfl⟩
    refine ⟨fun c4 => ⟨fun c5 => ?_, fun c5 => ?_⟩, fun c4 => ?_⟩
    · exact m33 2 (by decide) c ⟨c2, c3⟩ (by rw [if_pos c4, if_pos c5])
    · exact m33 1 (by decide) c ⟨c2, c3⟩ (by rw [if_pos c4, if_neg c5])
    · exact m33 0 (by decide) c ⟨c2, c3⟩ (by rw [if_neg c4])
  · have e : s_dd (tw h t) n s (rps h) = (s_seed s, s_eve n (rps h)) := by rw [s_dd, if_neg c]
    refine ⟨rfl, 0, 0, _, e_eve hG (d + 3) h1 a4 hn6, ⟨Nat.le_refl _, Nat.le_refl _⟩, ?_⟩
    rintro _ h2 ⟨rfl, f1, f2⟩
    refine ⟨rfl, rfl, ?_, ?_, a3.tr f2.d⟩
    · rw [e, f2.2.2 44 (by decide)]; exact a1
    · rw [e, f1, a2]
def s_draws (w : Nat → Int32) (n : Nat) (s : Int32) (ps : PSt) : Nat → Int32 × PSt
  | 0 => (s, ps)
  | k + 1 => s_dd w n (s_draws w n s ps k).1 (s_draws w n s ps k).2
def p_drawn (h : qm_H) (mt : Nat) (a sd k what : Int32) : Int32 := if inb k 61 && inb a mt then s_of (nn (tw h a.toNatClampNeg)) (s_draws (tw h a.toNatClampNeg) (nn (tw h a.toNatClampNeg)) sd (s_init (tw h a.toNatClampNeg)) k.toNatClampNeg).2 what else -1
theorem a_drawn {G : qm_G} (hG : G.2.2.2.2 = true) (d : Nat) (h : qm_H) {mt my ml : Nat} (hS : ST h mt my ml) (a sd k what : Int32) : qm_Ev G (d + 5) 0 0 qyX10_drawn [.ref 26, .int a, .int sd, .int k, .int what] h (fun r h' => r = some (.int (p_drawn h mt a sd k what)) ∧ pers h h') := by
  refine qm_Ev.by (M := mX10_drawn) okX10_drawn (Nat.le_of_ble_eq_true rfl) hG fun z hA => ?_
  obtain ⟨s1, s2, -, -, -, -, hT, -, -⟩ := hS
  refine qm_wp_ok hA [19] 40 _ _ _ _ _ _ ?_
  refine ⟨rfl, trivial, 0, 0, _, e_in hG (d + 4) (qm_si h 26 0 0) k 0 60, ⟨Nat.le_refl _, Nat.le_refl _⟩, ?_⟩
  rintro _ _ ⟨rfl, rfl⟩
  refine b2_eq (fun hb => ?_) (fun hb => ⟨trivial, by rw [p_drawn, show inb k 61 = false from hb]; rfl, pers.rf.s26⟩)
  have hb1 : inb k 61 = true := hb
  obtain ⟨kk, hkk, rfl⟩ := inb_e (by omega) hb1
  refine ⟨rfl, 0, 0, _, e_handC hG (d + 2) (qm_si h 26 0 0) (mt := mt) s1 s2 a, ⟨Nat.le_refl _, Nat.le_refl _⟩, ?_⟩
  rintro _ _ (⟨t, ht, rfl, rfl, rfl⟩ | ⟨e0, rfl, rfl⟩)
  · obtain ⟨i1, i2⟩ := p_in ht s2
    have vT := hT t ht
    have n6 := vT.1
    have eP : p_drawn h mt (nI t) sd (nI kk) what = s_of (nn (tw h t)) (s_draws (tw h t) (nn (tw h t)) sd (s_init (tw h t)) kk).2 what := by
      rw [p_drawn, hb1, i1, i2, nI_clamp (by omega)]; rfl
    refine ⟨fun _ => ⟨rfl, trivial, ?_⟩, fun q => absurd q (by decide)⟩
    have fin : pers h (hnd (qm_si h 26 0 0) t) := pers.rf.s26.tr (hnd.ps _ t)
    have loop : ∀ r i : Nat, i + r = kk → ∀ h2 : qm_H, h2.1 26 44 = (s_draws (tw h t) (nn (tw h t)) sd (s_init (tw h t)) i).1 → rps h2 = (s_draws (tw h t) (nn (tw h t)) sd (s_init (tw h t)) i).2 → frd (hnd (qm_si h 26 0 0) t) h2 → qm_PW G mX10_drawn z 19 0 0 [vr 26, vi (nI t), vi sd, vi (nI kk), vi what, vi (nI i)] [] h2 := by
      intro r
      induction r with
      | zero =>
        intro i hi h2 f1 f2 f3
        obtain rfl : i = kk := hi
        refine qm_wp_ok hA [] 30 _ _ _ _ _ _ ⟨fun _ => ⟨rfl, 0, 0, _, e_ofState hG (d + 4) h2 (n := nn (tw h t)) (f3.2.2.trans vT.2.1) n6 what, ⟨Nat.le_refl _, Nat.le_refl _⟩, ?_⟩, fun q => absurd (Int32.le_refl _) q⟩
        rintro _ _ ⟨rfl, rfl⟩
        exact ⟨trivial, by rw [eP, f2], fin.tr f3.1⟩
      | succ r ih =>
        intro i hi h2 f1 f2 f3
        have g1 : tw h2 t = tw h t := f3.1.row t
        refine qm_wp_ok hA [19] 30 _ _ _ _ _ _ ⟨fun q => absurd q (nI_ge (by omega) (by omega)), fun _ => ⟨rfl, 0, 0, _, e_drawDeed hG d h2 (t := t) (n := nn (tw h t)) f3.2.1 (by omega) (f3.2.2.trans vT.2.1) n6, ⟨Nat.le_refl _, Nat.le_refl _⟩, ?_⟩⟩
        rintro _ h3 ⟨rfl, k1, k2, k3⟩
        rw [g1, f1, f2] at k1 k2
        have kx := ih (i + 1) (by omega) h3 k1 k2 (f3.tr k3)
        rw [← nI_1] at kx
        exact kx
    exact loop kk 0 (Nat.zero_add kk) _ rfl rfl (frd.sd _ _)
  · exact ⟨fun q => absurd rfl q, fun _ => ⟨trivial, by rw [p_drawn, e0, Bool.and_false]; rfl, pers.rf.s26⟩⟩
end
section
/-! the reference: fractions; saving -/
theorem e_common {G : qm_G} (hG : G.2.2.2.2 = true) (d : Nat) (h : qm_H) {a b : Nat} (ha : a < 2 ^ 63) (hb : b < 2 ^ 63) : qm_Ev G d 0 0 qyX10_common [.long (lN a), .long (lN b)] h (fun r h' => r = some (.long (lN (Nat.gcd a b))) ∧ h = h') := by
  refine qm_Ev.by (M := mX10_common) okX10_common (Nat.le_of_ble_eq_true rfl) hG fun z hA => ?_
  have loop : ∀ N y x : Nat, y ≤ N → x < 2 ^ 63 → y < 2 ^ 63 → Nat.gcd x y = Nat.gcd a b → qm_PW G mX10_common z 4 0 0 [vl (lN a), vu, vl (lN b), vu, vl (lN x), vu, vl (lN y), vu, vu, vu] [] h := by
    intro N
    induction N with
    | zero =>
      intro y x hy hx hy2 e
      obtain rfl : y = 0 := by omega
      refine qm_wp_ok hA [] 20 _ _ _ _ _ _ ⟨fun _ => ⟨rfl, ?_, rfl⟩, fun q => absurd ((lg_cmp_eq _ _).mpr rfl) q⟩
      rw [← e, Nat.gcd_zero_right]
    | succ N ih =>
      intro y x hy hx hy2 e
      refine qm_wp_ok hA [4] 20 _ _ _ _ _ _ ⟨fun c => ?_, fun c => ?_⟩
      · have c1 : lN y = lN 0 := (lg_cmp_eq _ _).mp c
        have c2 : y = 0 := (pk_lEQ hy2 (by decide)).mp c1
        refine ⟨rfl, ?_, rfl⟩
        rw [← e, c2, Nat.gcd_zero_right]
      · have c1 : ¬ lN y = 0 := fun q => c ((lg_cmp_eq _ _).mpr q)
        have c2 : 0 < y := by
          rcases Nat.eq_zero_or_pos y with q | q
          · exact absurd (by rw [q]; rfl) c1
          · exact q
        have hlt := Nat.mod_lt x c2
        have k := ih (x % y) y (by omega) hy2 (by omega) (by rw [← e, Nat.gcd_comm y, ← Nat.gcd_rec, Nat.gcd_comm])
        refine ⟨c1, ?_⟩
        rw [pk_lRem hx c2 hy2]
        exact qm_PW.mask [true, false, true, false, true, false, true, false, false, false] k
  refine qm_wp_ok hA [4] 20 _ _ _ _ _ _ ?_
  exact qm_PW.mask [true, false, true, false, true, false, true, false, false, false] (loop b b a (Nat.le_refl _) ha hb rfl)
theorem e_part {G : qm_G} (hG : G.2.2.2.2 = true) (d : Nat) (h : qm_H) {a b : Nat} (ha : a < 2 ^ 63) (hb : b < 2 ^ 63) (hb0 : 0 < b) (u : Bool) : qm_Ev G (d + 1) 0 0 qyX10_part [.long (lN a), .long (lN b), .int (b2 u)] h (fun r h' => r = some (.long (lN ((if u then b else a) / Nat.gcd b a))) ∧ h = h') := by
  have g0 : 0 < Nat.gcd b a := Nat.gcd_pos_of_pos_left _ hb0
  have g1 : Nat.gcd b a ≤ b := Nat.gcd_le_left _ hb0
  have gne : ¬ lN (Nat.gcd b a) = 0 := fun q => by have := (pk_lEQ (a := Nat.gcd b a) (b := 0) (by omega) (by decide)).mp q; omega
  refine qm_Ev.run (M := mX10_part) okX10_part rfl hG fun z => ?_
  refine b2_eq (fun hu => ?_) (fun hu => ?_)
  · refine ⟨0, 0, _, e_common hG d h hb ha, ⟨Nat.le_refl _, Nat.le_refl _⟩, ?_⟩
    rintro _ _ ⟨rfl, rfl⟩
    refine ⟨gne, rfl, ?_, rfl⟩
    rw [pk_lDiv hb g0 (by omega), if_pos hu]
  · refine ⟨0, 0, _, e_common hG d h hb ha, ⟨Nat.le_refl _, Nat.le_refl _⟩, ?_⟩
    rintro _ _ ⟨rfl, rfl⟩
    refine ⟨gne, rfl, ?_, rfl⟩
    rw [pk_lDiv ha g0 (by omega), if_neg (by rw [hu]; decide)]
/-- what is had, and the scale, behind so many days -/
def sv_sum (sc had : Nat) : Nat → Nat
  | 0 => 0
  | j + 1 => sv_sum sc had j + max ((j + 1) * sc) had
def sv (m : Nat) : Nat → Nat × Nat
  | 0 => (0, 1)
  | k + 1 => (sv_sum (sv m k).2 (sv m k).1 m, (sv m k).2 * m)
def sv_l (m sc had : Nat) : Nat → Nat
  | 0 => m
  | r + 1 => if had ≤ (m - r) * sc then m - r else sv_l m sc had r
theorem sv_sum_le {sc had B : Nat} (h1 : had ≤ B) : ∀ j, j * sc ≤ B → sv_sum sc had j ≤ j * B
  | 0, _ => by rw [sv_sum]; exact Nat.zero_le _
  | j + 1, h2 => by
    have h3 : j * sc ≤ B := Nat.le_trans (Nat.mul_le_mul_right _ (Nat.le_succ j)) h2
    have ih := sv_sum_le (sc := sc) h1 j h3
    have e : (j + 1) * B = j * B + B := Nat.succ_mul j B
    have : max ((j + 1) * sc) had ≤ B := Nat.max_le.mpr ⟨h2, h1⟩
    rw [sv_sum, e]
    exact Nat.add_le_add ih this
theorem sv_le (m : Nat) : ∀ k, (sv m k).2 = m ^ k ∧ (sv m k).1 ≤ m * m ^ k
  | 0 => ⟨rfl, Nat.zero_le _⟩
  | k + 1 => by
    obtain ⟨i1, i2⟩ := sv_le m k
    refine ⟨by rw [sv, i1, Nat.pow_succ], ?_⟩
    rw [sv, i1]
    have := sv_sum_le (sc := m ^ k) i2 m (Nat.le_refl _)
    rw [Nat.pow_succ, Nat.mul_comm (m ^ k) m]
    exact this
theorem sv_b {m k : Nat} (hm : m ≤ 6) (hk : k ≤ 9) : (sv m k).2 ≤ 10077696 ∧ (sv m k).1 ≤ 60466176 := by
  obtain ⟨h1, h2⟩ := sv_le m k
  have h3 : m ^ k ≤ 6 ^ 9 := by
    rcases Nat.eq_zero_or_pos m with q | q
    · rw [q]
      rcases Nat.eq_zero_or_pos k with q2 | q2
      · rw [q2]; decide
      · rw [Nat.zero_pow q2]; decide
    · exact Nat.le_trans (Nat.pow_le_pow_left hm k) (Nat.pow_le_pow_right (by decide) hk)
  have h4 : m * m ^ k ≤ 6 * 6 ^ 9 := Nat.mul_le_mul hm h3
  have e1 : 6 ^ 9 = 10077696 := by decide
  rw [e1] at h3 h4
  omega
def s_save (m n : Nat) (what : Int32) : Int64 := if what = 2 then lN (sv_l m (sv m (n - 1)).2 (sv m (n - 1)).1 m) else if what = 1 then lN ((sv m n).2 / Nat.gcd (sv m n).2 (sv m n).1) else lN ((sv m n).1 / Nat.gcd (sv m n).2 (sv m n).1)
def p_save (m n what : Int32) : Int64 := if decide (1 ≤ m ∧ m ≤ 6) && decide (1 ≤ n ∧ n ≤ 9) && inb what 3 then s_save m.toNatClampNeg n.toNatClampNeg what else -1
theorem in1 {x : Int32} {N : Nat} {M : Int32} (hM : M = nI N) (hN : N < 2 ^ 31) (h : 1 ≤ x ∧ x ≤ M) : ∃ j, 1 ≤ j ∧ j ≤ N ∧ x = nI j := by
  have h0 : ¬ x < 0 := fun q => absurd (Int32.lt_of_lt_of_le q (by decide : (0 : Int32) ≤ 1)) (Int32.not_lt.mpr h.1)
  obtain ⟨j, hj, e⟩ := nI_of2 (M := M) (n := N) (by rw [hM]; exact nI_toInt hN) h0 h.2
  refine ⟨j, ?_, hj, e⟩
  have := h.1
  rw [e] at this
  exact (nI_leI (a := 1) (b := j) (by decide) (by omega)).mp this
theorem a_save {G : qm_G} (hG : G.2.2.2.2 = true) (d : Nat) (h : qm_H) (m n what : Int32) : qm_Ev G (d + 2) 0 0 qyX10_save [.ref 26, .int m, .int n, .int what] h (fun r h' => r = some (.long (p_save m n what)) ∧ pers h h') := by
  refine qm_Ev.by (M := mX10_save) okX10_save (Nat.le_of_ble_eq_true rfl) hG fun z hA => ?_
  refine qm_wp_ok hA [28] 40 _ _ _ _ _ _ ?_
  refine ⟨rfl, trivial, 0, 0, _, e_in hG (d + 1) (qm_si h 26 0 0) m 1 6, ⟨Nat.le_refl _, Nat.le_refl _⟩, ?_⟩
  rintro _ _ ⟨rfl, rfl⟩
  refine b2_eq (fun hm => ?_) (fun hm => ⟨rfl, by rw [p_save, hm]; rfl, pers.rf.s26⟩)
  refine ⟨0, 0, _, e_in hG (d + 1) (qm_si h 26 0 0) n 1 9, ⟨Nat.le_refl _, Nat.le_refl _⟩, ?_⟩
  rintro _ _ ⟨rfl, rfl⟩
  refine b2_eq (fun hn => ?_) (fun hn => ⟨rfl, by rw [p_save, hn, Bool.and_false]; rfl, pers.rf.s26⟩)
  refine ⟨0, 0, _, e_in hG (d + 1) (qm_si h 26 0 0) what 0 2, ⟨Nat.le_refl _, Nat.le_refl _⟩, ?_⟩
  rintro _ _ ⟨rfl, rfl⟩
  refine b2_ne (fun hw => ?_) (fun hw => ⟨rfl, by rw [p_save, show inb what 3 = false from hw, Bool.and_false]; rfl, pers.rf.s26⟩)
  have hw1 : inb what 3 = true := hw
  obtain ⟨M, hM1, hM6, rfl⟩ := in1 (N := 6) rfl (by decide) (of_decide_eq_true hm)
  obtain ⟨N, hN1, hN9, rfl⟩ := in1 (N := 9) rfl (by decide) (of_decide_eq_true hn)
  have eP : p_save (nI M) (nI N) what = s_save M N what := by
    rw [p_save, hm, hn, hw1, nI_clamp (by omega), nI_clamp (by omega)]; rfl
  obtain ⟨h1, hh1⟩ : ∃ x, x = qm_si h 26 0 0 := ⟨_, rfl⟩
  have fin : pers h h1 := by rw [hh1]; exact pers.rf.s26
  rw [← hh1]
  obtain ⟨lst, hlst⟩ : ∃ lst : Nat → Nat, lst = fun k => if k = 0 then 1 else sv_l M (sv M (k - 1)).2 (sv M (k - 1)).1 M := ⟨_, rfl⟩
  refine qm_PW.mask [true, true, true, true, true, false, true, false, true, true, false, false, false, false] ?_
  have l0 : lst 0 = 1 := by rw [hlst]; rfl
  have start : qm_PW G mX10_save z 28 0 0 [vr 26, vi (nI M), vi (nI N), vi what, vl (lN (sv M 0).1), vu, vl (lN (sv M 0).2), vu, vi (nI (lst 0)), vi (nI 0), vu, vu, vu, vu] [] h1 := by
    refine qm_for (P := fun k => qm_PW G mX10_save z 28 0 0 [vr 26, vi (nI M), vi (nI N), vi what, vl (lN (sv M k).1), vu, vl (lN (sv M k).2), vu, vi (nI (lst k)), vi (nI k), vu, vu, vu, vu] [] h1) (N := N) ?_ ?_
    · obtain ⟨b1, b2'⟩ := sv_b hM6 hN9
      have b3 : 0 < (sv M N).2 := by rw [(sv_le M N).1]; exact Nat.pow_pos hM1
      refine qm_wp_ok hA [] 30 _ _ _ _ _ _ ⟨fun _ => ⟨fun c => ⟨fun c2 => ?_, fun c2 => ?_⟩, fun c => ?_⟩, fun q => absurd (Int32.le_refl _) q⟩
      · refine ⟨0, 0, _, e_part hG d h1 (a := (sv M N).1) (b := (sv M N).2) (by omega) (by omega) b3 false, ⟨Nat.le_refl _, Nat.le_refl _⟩, ?_⟩
        rintro _ _ ⟨rfl, rfl⟩
        exact ⟨rfl, by rw [eP, s_save, if_neg c, if_neg c2]; rfl, fin⟩
      · refine ⟨0, 0, _, e_part hG d h1 (a := (sv M N).1) (b := (sv M N).2) (by omega) (by omega) b3 true, ⟨Nat.le_refl _, Nat.le_refl _⟩, ?_⟩
        rintro _ _ ⟨rfl, rfl⟩
        exact ⟨rfl, by rw [eP, s_save, if_neg c, if_pos c2]; rfl, fin⟩
      · have hl : lst N ≤ 6 ∧ lst N = sv_l M (sv M (N - 1)).2 (sv M (N - 1)).1 M := by
          rw [hlst]
          have : ∀ r, sv_l M (sv M (N - 1)).2 (sv M (N - 1)).1 r ≤ M := by
            intro r
            induction r with
            | zero => exact Nat.le_refl _
            | succ r ih =>
              rw [sv_l]
              split <;> omega
          have h2 := this M
          simp only [if_neg (show ¬ N = 0 by omega)]
          exact ⟨by omega, trivial⟩
        exact ⟨rfl, by rw [eP, s_save, if_pos c, nI_l (by omega), hl.2], fin⟩
    · intro k hk key
      obtain ⟨b1, b2'⟩ := sv_b (k := k) hM6 (by omega)
      obtain ⟨had, hhad⟩ : ∃ x, x = (sv M k).1 := ⟨_, rfl⟩
      obtain ⟨sc, hsc⟩ : ∃ x, x = (sv M k).2 := ⟨_, rfl⟩
      rw [← hhad] at b2'
      rw [← hsc] at b1
      rw [← hhad, ← hsc]
      have e1 : (sv M (k + 1)).1 = sv_sum sc had M := by rw [sv, ← hhad, ← hsc]
      have e2 : (sv M (k + 1)).2 = sc * M := by rw [sv, ← hsc]
      have e3 : lst (k + 1) = sv_l M sc had M := by rw [hlst]; simp only [if_neg (Nat.succ_ne_zero k), Nat.add_sub_cancel]; rw [← hhad, ← hsc]
      rw [e1, e2, e3, ← nI_1, ← lN_mul, ← nI_l (n := M) (by omega)] at key
      refine qm_wp_ok hA [37] 30 _ _ _ _ _ _ ⟨fun q => absurd q (nI_ge hk (by omega)), fun _ => ?_⟩
      have inner : ∀ q r : Nat, r + q = M → ∀ s : Nat, s + sv_sum sc had (M - r) = sv_sum sc had M → qm_PW G mX10_save z 37 0 0 [vr 26, vi (nI M), vi (nI N), vi what, vl (lN had), vu, vl (lN sc), vu, vi (nI (sv_l M sc had r)), vi (nI k), vl (lN s), vu, vi (nI (M - r)), vu] [] h1 := by
        intro q
        induction q with
        | zero =>
          intro r hr s hs
          obtain rfl : r = M := hr
          rw [Nat.sub_self, sv_sum, Nat.add_zero] at hs
          rw [Nat.sub_self, hs]
          refine qm_wp_ok hA [28] 30 _ _ _ _ _ _ ⟨fun _ => ?_, fun q => absurd (by decide) q⟩
          exact qm_PW.mask [true, true, true, true, true, false, true, false, true, true, false, false, false, false] key
        | succ q ih =>
          intro r hr s hs
          obtain ⟨w, hw⟩ : ∃ w, M - r = w + 1 := ⟨M - r - 1, by omega⟩
          rw [hw, sv_sum] at hs
          rw [hw]
          have hwm : (w + 1) * sc < 2 ^ 63 := by
            have : (w + 1) * sc ≤ 6 * 10077696 := Nat.mul_le_mul (by omega) b1
            omega
          have key3 : ∀ (v lv : Nat) (L13 : Option Value), v = max ((w + 1) * sc) had → lv = sv_l M sc had (r + 1) → qm_PW G mX10_save z 37 0 0 [vr 26, vi (nI M), vi (nI N), vi what, vl (lN had), vu, vl (lN sc), vu, vi (nI lv), vi (nI k), vl (lN s + lN v), vu, vi (nI (w + 1) + -1), L13] [] h1 := by
            intro v lv L13 ev el
            have kk := ih (r + 1) (by omega) (s + v) (by rw [show M - (r + 1) = w by omega, ev]; omega)
            rw [show M - (r + 1) = w by omega, ← el] at kk
            rw [lN_add, pk_m1]
            exact qm_PW.mask [true, true, true, true, true, false, true, false, true, true, true, false, true, false] kk
          have eml : (nI (w + 1)).toInt64 * lN sc = lN ((w + 1) * sc) := by rw [nI_l (by omega), lN_mul]
          refine qm_wp_ok hA [37] 60 _ _ _ _ _ _ ⟨fun q => absurd q (nI_nle (by omega) (by omega)), fun _ => ?_⟩
          refine ⟨fun (c : lg_cmp ((nI (w + 1)).toInt64 * lN sc) (lN had) < 0) => ?_, fun (c : ¬ lg_cmp ((nI (w + 1)).toInt64 * lN sc) (lN had) < 0) => ?_⟩
          · rw [eml] at c
            have c1 : ¬ had ≤ (w + 1) * sc := fun q => absurd ((lg_cmp_lt _ _).mp c) (fun q2 => by have := (pk_lLT hwm (by omega)).mp q2; omega)
            refine ⟨fun _ => ⟨fun _ => ?_, fun q => absurd rfl q⟩, fun q => absurd rfl q⟩
            refine key3 had (sv_l M sc had r) (vi 0) (by omega) ?_
            rw [sv_l, hw, if_neg c1]
          · rw [eml] at c
            have c1 : had ≤ (w + 1) * sc := by
              rcases Nat.lt_or_ge ((w + 1) * sc) had with q | q
              · exact absurd ((lg_cmp_lt _ _).mpr ((pk_lLT hwm (by omega)).mpr q)) c
              · exact q
            refine ⟨fun q => absurd q (by decide), fun _ => ⟨fun q => absurd q (by decide), fun _ => ?_⟩⟩
            have kx := key3 ((w + 1) * sc) (w + 1) (vi 1) (by omega) (by rw [sv_l, hw, if_pos c1])
            rw [← eml] at kx
            exact kx
      have kk := inner M 0 (Nat.zero_add M) 0 (by rw [Nat.sub_zero, Nat.zero_add])
      exact qm_PW.mask [true, true, true, true, true, false, true, false, true, true, true, false, true, false] kk
  rw [l0] at start
  exact start
end
section
/-! the reference: luck; the sets that fit, asked -/
def onesN (x : Int32) : Nat → Nat
  | 0 => 0
  | n + 1 => onesN x n + (if bit x (nI n) then 1 else 0)
theorem ones_N (x : Int32) : ∀ n, ones x n = nI (onesN x n)
  | 0 => rfl
  | n + 1 => by
    rw [ones, onesN, ones_N x n]
    cases bit x (nI n)
    · rw [if_neg (by decide), Nat.add_zero, b2_f, show (0 : Int32) = nI 0 from rfl, nI_add, Nat.add_zero]
    · rw [if_pos rfl, b2_t, nI_1]
theorem onesN_le (x : Int32) : ∀ n, onesN x n ≤ n
  | 0 => Nat.le_refl _
  | n + 1 => by
    have := onesN_le x n
    rw [onesN]
    split <;> omega
/-- of his facts so many are news -/
def s_fresh (w mi : Nat → Int32) (q p : Nat) : Nat → Nat
  | 0 => 0
  | f + 1 => s_fresh w mi q p f + (if bit (mi p) (nI f) = true ∧ s_hears w q p = true ∧ ¬ (s_whole w f &&& (mi q ^^^ -1)) = 0 then 1 else 0)
theorem s_fresh_le (w mi : Nat → Int32) (q p : Nat) : ∀ f, s_fresh w mi q p f ≤ onesN (mi p) f
  | 0 => Nat.le_refl _
  | f + 1 => by
    have := s_fresh_le w mi q p f
    rw [s_fresh, onesN]
    split
    · rename_i c
      rw [if_pos c.1]
      omega
    · split <;> omega
def s_lucks (w mi : Nat → Int32) (q : Nat) : Nat → Nat
  | 0 => 0
  | p + 1 => s_lucks w mi q p + 60 * s_fresh w mi q p 6 / onesN (mi p) 6
theorem s_lucks_le (w mi : Nat → Int32) (q : Nat) : ∀ p, s_lucks w mi q p ≤ 360 * p
  | 0 => Nat.le_refl _
  | p + 1 => by
    have h1 := s_lucks_le w mi q p
    have h2 := s_fresh_le w mi q p 6
    have h3 := onesN_le (mi p) 6
    have h4 : 60 * s_fresh w mi q p 6 / onesN (mi p) 6 ≤ 60 * s_fresh w mi q p 6 := Nat.div_le_self _ _
    rw [s_lucks]
    omega
theorem e_partX {G : qm_G} (hG : G.2.2.2.2 = true) (d : Nat) (h : qm_H) {a b : Nat} (x y : Int64) (hx : x = lN a) (hy : y = lN b) (ha : a < 2 ^ 63) (hb : b < 2 ^ 63) (hb0 : 0 < b) (u : Bool) : qm_Ev G (d + 1) 0 0 qyX10_part [.long x, .long y, .int (b2 u)] h (fun r h' => r = some (.long (lN ((if u then b else a) / Nat.gcd b a))) ∧ h = h') := by
  rw [hx, hy]
  exact e_part hG d h ha hb hb0 u
def p_luck (h : qm_H) (mt : Nat) (a p : Int32) (u : Bool) : Int64 := if inb a mt then (if inb p (nn (tw h a.toNatClampNeg)) then lN ((if u then 60 * nn (tw h a.toNatClampNeg) else s_lucks (tw h a.toNatClampNeg) (mi0 (tw h a.toNatClampNeg)) p.toNatClampNeg (nn (tw h a.toNatClampNeg))) / Nat.gcd (60 * nn (tw h a.toNatClampNeg)) (s_lucks (tw h a.toNatClampNeg) (mi0 (tw h a.toNatClampNeg)) p.toNatClampNeg (nn (tw h a.toNatClampNeg)))) else -1) else -1
theorem a_luck {G : qm_G} (hG : G.2.2.2.2 = true) (d : Nat) (h : qm_H) {mt my ml : Nat} (hS : ST h mt my ml) (a p : Int32) (u : Bool) : qm_Ev G (d + 3) 0 0 qyX10_luck [.ref 26, .int a, .int p, .int (b2 u)] h (fun r h' => r = some (.long (p_luck h mt a p u)) ∧ pers h h') := by
  refine qm_Ev.by (M := mX10_luck) okX10_luck (Nat.le_of_ble_eq_true rfl) hG fun z hA => ?_
  obtain ⟨s1, s2, -, -, -, -, hT, -, -⟩ := hS
  refine qm_wp_ok hA [17] 30 _ _ _ _ _ _ ?_
  refine ⟨rfl, trivial, rfl, 0, 0, _, e_handC hG d (qm_si h 26 0 0) (mt := mt) s1 s2 a, ⟨Nat.le_refl _, Nat.le_refl _⟩, ?_⟩
  rintro _ _ (⟨t, ht, rfl, rfl, rfl⟩ | ⟨e0, rfl, rfl⟩)
  · obtain ⟨i1, i2⟩ := p_in ht s2
    have vT := hT t ht
    have n6 := vT.1
    have fin : pers h (hnd (qm_si h 26 0 0) t) := pers.rf.s26.tr (hnd.ps _ t)
    obtain ⟨w, hw⟩ : ∃ w, w = tw h t := ⟨_, rfl⟩
    obtain ⟨n, hn⟩ : ∃ n, n = nn w := ⟨_, rfl⟩
    rw [← hw, ← hn] at vT n6
    obtain ⟨h1, hh1⟩ : ∃ x, x = hnd (qm_si h 26 0 0) t := ⟨_, rfl⟩
    have g23 : h1.1 26 23 = nI n := by rw [hh1, hw] at *; exact vT.2.1
    have g22 : h1.1 26 22 = nI t := by rw [hh1]; rfl
    have g39 : h1.1 39 = mi0 w := by rw [hh1, hw]; rfl
    have gtw : tw h1 t = w := by rw [hh1, hw]; rfl
    rw [← hh1] at fin ⊢
    refine ⟨fun q => absurd q (by decide), fun _ => ?_⟩
    refine ⟨rfl, 0, 0, _, e_isPerson hG (d + 1) h1 p, ⟨Nat.le_refl _, Nat.le_refl _⟩, ?_⟩
    rintro _ _ ⟨rfl, rfl⟩
    rw [g23]
    refine b2_ne (fun hb => ?_) (fun hb => ⟨rfl, by rw [p_luck, i1, i2, ← hw, ← hn, show inb p n = false from hb]; rfl, fin⟩)
    have hb1 : inb p n = true := hb
    obtain ⟨q, hq, rfl⟩ := inb_e (by omega) hb1
    have eP : p_luck h mt (nI t) (nI q) u = lN ((if u then 60 * n else s_lucks w (mi0 w) q n) / Nat.gcd (60 * n) (s_lucks w (mi0 w) q n)) := by
      rw [p_luck, i1, i2, ← hw, ← hn, hb1, nI_clamp (by omega)]; rfl
    refine qm_PW.mask [true, true, true, true, true, false, true, false, false, false] ?_
    have inq : vp_in (nI q) 6 := vp_in_nI (by omega) (by decide)
    have ecq : (nI q).toNatClampNeg = q := nI_clamp (by omega)
    refine qm_for (P := fun i => qm_PW G mX10_luck z 17 0 0 [vr 26, vi (nI t), vi (nI q), vi (b2 u), vl (lN (s_lucks w (mi0 w) q i)), vu, vi (nI i), vu, vu, vu] [] h1) (N := n) ?_ ?_
    · have hle := s_lucks_le w (mi0 w) q n
      have e60 : (60 : Int64) * (h1.1 26 23).toInt64 = lN (60 * n) := by rw [g23, nI_l (by omega), show (60 : Int64) = lN 60 from rfl, lN_mul]
      refine qm_wp_ok hA [] 30 _ _ _ _ _ _ ⟨rfl, fun _ => ⟨rfl, 0, 0, _, e_partX hG (d + 1) h1 (a := s_lucks w (mi0 w) q n) (b := 60 * n) _ _ rfl e60 (by omega) (by omega) (by omega) u, ⟨Nat.le_refl _, Nat.le_refl _⟩, ?_⟩, fun (q : ¬ h1.1 26 23 ≤ nI n) => absurd (by rw [g23]; exact Int32.le_refl _) q⟩
      rintro _ _ ⟨rfl, rfl⟩
      exact ⟨rfl, by rw [eP], fin⟩
    · intro i hi key
      rw [s_lucks, ← nI_1, ← lN_add] at key
      have ini : vp_in (nI i) 6 := vp_in_nI (by omega) (by decide)
      have eci : (nI i).toNatClampNeg = i := nI_clamp (by omega)
      refine qm_wp_ok hA [25] 30 _ _ _ _ _ _ ⟨rfl, fun (q : h1.1 26 23 ≤ nI i) => absurd q (by rw [g23]; exact nI_ge hi (by omega)), fun _ => ?_⟩
      refine qm_PW.mask [true, true, true, true, true, false, true, true, true, false] ?_
      refine qm_for (P := fun f => qm_PW G mX10_luck z 25 0 0 [vr 26, vi (nI t), vi (nI q), vi (b2 u), vl (lN (s_lucks w (mi0 w) q i)), vu, vi (nI i), vi (nI (s_fresh w (mi0 w) q i f)), vi (nI f), vu] [] h1) (N := 6) ?_ ?_
      · have hfl := s_fresh_le w (mi0 w) q i 6
        have hol := onesN_le (mi0 w i) 6
        refine qm_wp_ok hA [17] 40 _ _ _ _ _ _ ⟨fun _ => ⟨fun c => ?_, fun c => ?_⟩, fun q => absurd (by decide) q⟩
        · have e0 : s_fresh w (mi0 w) q i 6 = 0 := by
            rcases Nat.eq_zero_or_pos (s_fresh w (mi0 w) q i 6) with q | q
            · exact q
            · exact absurd c (nI_nle q (by omega))
          rw [e0, Nat.mul_zero, Nat.zero_div] at key
          exact qm_PW.mask [true, true, true, true, true, false, true, false, false, false] key
        · have e0 : 0 < s_fresh w (mi0 w) q i 6 := by
            rcases Nat.eq_zero_or_pos (s_fresh w (mi0 w) q i 6) with q | q
            · exact absurd (by rw [q]; decide) c
            · exact q
          refine ⟨rfl, _, rfl, rfl, ini, ?_⟩
          rw [eci, g39]
          refine ⟨0, 0, _, e_ones hG (d + 1) h1 (mi0 w i), ⟨Nat.le_refl _, Nat.le_refl _⟩, ?_⟩
          rintro _ _ ⟨rfl, rfl⟩
          have e1 : (ones (mi0 w i) 6).toInt64 = lN (onesN (mi0 w i) 6) := by rw [ones_N, nI_l (by omega)]
          have e2 : (60 : Int64) * (nI (s_fresh w (mi0 w) q i 6)).toInt64 = lN (60 * s_fresh w (mi0 w) q i 6) := by rw [nI_l (by omega), show (60 : Int64) = lN 60 from rfl, lN_mul]
          refine ⟨?_, ?_⟩
          · rw [e1]
            exact fun q => by have := (pk_lEQ (b := 0) (by omega) (by decide)).mp q; omega
          · have e3 : lN (60 * s_fresh w (mi0 w) q i 6 / onesN (mi0 w i) 6) = (60 : Int64) * (nI (s_fresh w (mi0 w) q i 6)).toInt64 / (ones (mi0 w i) 6).toInt64 := by
              rw [e1, e2, pk_lDiv (by omega) (by omega) (by omega)]
            rw [e3] at key
            exact qm_PW.mask [true, true, true, true, true, false, true, false, false, false] key
      · intro f hf kf
        rw [s_fresh, ← nI_1] at kf
        have key2 : ∀ (v : Nat) (x : Int32) (L9 : Option Value), x = nI v → v = (if bit (mi0 w i) (nI f) = true ∧ s_hears w q i = true ∧ ¬ (s_whole w f &&& (mi0 w q ^^^ -1)) = 0 then 1 else 0) → qm_PW G mX10_luck z 25 0 0 [vr 26, vi (nI t), vi (nI q), vi (b2 u), vl (lN (s_lucks w (mi0 w) q i)), vu, vi (nI i), vi (nI (s_fresh w (mi0 w) q i f) + x), vi (nI f + 1), L9] [] h1 := by
          intro v x L9 hx hv
          rw [hx, hv, nI_add]
          exact qm_PW.mask [true, true, true, true, true, false, true, true, true, false] kf
        refine qm_wp_ok hA [25] 80 _ _ _ _ _ _ ⟨fun q => absurd q (nI_ge hf (by decide)), fun _ => ⟨rfl, _, rfl, rfl, ini, ?_⟩⟩
        rw [eci, g39]
        refine ⟨0, 0, _, e_has hG (d + 2) h1 (mi0 w i) (nI f), ⟨Nat.le_refl _, Nat.le_refl _⟩, ?_⟩
        rintro _ _ ⟨rfl, rfl⟩
        refine b2_eq (fun hx => ?_) (fun hx => ⟨fun _ => key2 0 0 _ rfl (by rw [if_neg (fun q => by rw [hx] at q; exact absurd q.1 (by decide))]), fun q => absurd rfl q⟩)
        refine ⟨rfl, 0, 0, _, e_hears hG (d + 1) h1 (t := t) (o := q) (p := i) g22 (by omega) (by omega), ⟨Nat.le_refl _, Nat.le_refl _⟩, ?_⟩
        rintro _ _ ⟨rfl, rfl⟩
        rw [gtw]
        refine b2_eq (fun hy => ?_) (fun hy => ⟨fun _ => key2 0 0 _ rfl (by rw [if_neg (fun q => by rw [hy] at q; exact absurd q.2.1 (by decide))]), fun q => absurd rfl q⟩)
        refine ⟨rfl, 0, 0, _, e_whole hG (d + 1) h1 (t := t) (f := f) g22 (by omega) hf, ⟨Nat.le_refl _, Nat.le_refl _⟩, ?_⟩
        rintro _ _ ⟨rfl, rfl⟩
        refine ⟨rfl, _, rfl, rfl, inq, ?_⟩
        rw [gtw, ecq, g39]
        refine ⟨fun c => ⟨fun _ => key2 0 0 _ rfl (by rw [if_neg (fun q => q.2.2 c)]), fun q => absurd rfl q⟩, fun c => ⟨fun q => absurd q (by decide), fun _ => key2 1 1 _ rfl (by rw [if_pos ⟨hx, hy, c⟩])⟩⟩
  · exact ⟨fun _ => ⟨rfl, by rw [p_luck, e0]; rfl, pers.rf.s26⟩, fun q => absurd rfl q⟩
/-- the sets that fit, laid -/
def FL (w lg : Nat → Int32) (m : Nat) : Nat × (Nat → Int32) := s_lay w lg m (fun _ => 0) 64
theorem s_lay_ext (w lg : Nat → Int32) (m : Nat) (a a' : Nat → Int32) : ∀ k, (s_lay w lg m a k).1 = (s_lay w lg m a' k).1 ∧ ∀ j, j < (s_lay w lg m a k).1 → (s_lay w lg m a k).2 j = (s_lay w lg m a' k).2 j
  | 0 => ⟨rfl, fun j hj => absurd hj (Nat.not_lt_zero j)⟩
  | k + 1 => by
    obtain ⟨i1, i2⟩ := s_lay_ext w lg m a a' k
    rw [s_lay, s_lay]
    split
    · refine ⟨by rw [i1], fun j hj => ?_⟩
      dsimp only at hj ⊢
      rw [← i1]
      by_cases e : j = (s_lay w lg m a k).1
      · rw [e, up_s, up_s]
      · rw [up_n _ _ e, up_n _ _ e]
        exact i2 j (by omega)
    · exact ⟨i1, i2⟩
theorem s_many_ext {a a' : Nat → Int32} {c : Nat} (h : ∀ j, j < c → a j = a' j) (f : Int32) : ∀ k, k ≤ c → s_many a f k = s_many a' f k
  | 0, _ => rfl
  | k + 1, hk => by rw [s_many, s_many, s_many_ext h f k (by omega), h k (by omega)]
theorem s_sure_ext {a a' : Nat → Int32} {c : Nat} (h : ∀ j, j < c → a j = a' j) : ∀ k, k ≤ c → s_sure a k = s_sure a' k
  | 0, _ => rfl
  | k + 1, hk => by rw [s_sure, s_sure, s_sure_ext h k (by omega), h k (by omega)]
theorem s_next_ext {a a' : Nat → Int32} {c : Nat} (h : ∀ j, j < c → a j = a' j) : ∀ f, s_next a c f = s_next a' c f
  | 0 => rfl
  | f + 1 => by rw [s_next, s_next, s_next_ext h f, s_many_ext h (nI f) c (Nat.le_refl _)]
def LC (h h' : qm_H) (t l m : Nat) : Prop := h'.1 26 22 = nI t ∧ h'.1 26 23 = tw h t 0 ∧ h'.1 26 41 = nI l ∧ h'.1 26 43 = nI (FL (tw h t) (gw h l) m).1 ∧ (∀ j, j < (FL (tw h t) (gw h l) m).1 → h'.1 48 j = (FL (tw h t) (gw h l) m).2 j) ∧ h'.1 39 = mi0 (tw h t) ∧ pers h h'
theorem LG.to {h h' : qm_H} {t l m : Nat} (a : LG h h' t l m) : ∃ h2, al h' h2 ∧ LC h h2 t l m := by
  obtain ⟨h1, a1, a2, a3, a4, a5⟩ := a
  have b := a1.hnd
  have etw : tw (qm_si h 26 41 (nI l)) t = tw h t := rfl
  refine ⟨(fun q => if q = 39 then mi0 (tw h t) else h'.1 q, h'.2), ⟨rfl, fun p => ?_⟩, ?_, ?_, ?_, ?_, ?_, ?_, ?_⟩
  · by_cases e : p = 39
    · subst e
      refine Or.inr ⟨6, rfl, fun j hj => ?_⟩
      rcases b.2 39 with q | ⟨N, q, q2⟩
      · show mi0 (tw h t) j = h'.1 39 j
        rw [a4.2 39 (by decide), ← q]
        rfl
      · have : N = 6 := by
          have q3 : (some (10, 6) : Option (Nat × Nat)) = some (10, N) := q
          cases q3
          rfl
        subst this
        show mi0 (tw h t) j = h'.1 39 j
        rw [a4.2 39 (by decide), ← q2 j hj]
        rfl
    · left
      show (if p = 39 then _ else _) = _
      rw [if_neg e]
  · exact (a5 22 (by decide)).trans a1.2.1
  · exact (a5 23 (by decide)).trans a1.2.2.1
  · exact (a5 41 (by decide)).trans ((a1.2.2.2.2.2 41 (by decide)).trans rfl)
  · show h'.1 26 43 = _
    rw [a2, FL, (s_lay_ext _ _ _ (h.1 48) (fun _ => 0) 64).1]
  · intro j hj
    show h'.1 48 j = _
    rw [a3]
    exact (s_lay_ext _ _ _ (h.1 48) (fun _ => 0) 64).2 j (by rw [(s_lay_ext _ _ _ (h.1 48) (fun _ => 0) 64).1]; exact hj)
  · rfl
  · have p1 : pers h h1 := pers.rf.s26.tr a1.ps
    refine ⟨a4.1.trans p1.1, fun q hq => ?_⟩
    show (if q = 39 then _ else _) = _
    rw [if_neg (fun e => hq (by rw [e]; decide))]
    rw [a4.2 q (fun e => hq (by revert e; simp only [List.mem_cons, List.not_mem_nil, or_false]; omega))]
    exact p1.2 q hq
theorem e_layLogC {G : qm_G} (hG : G.2.2.2.2 = true) (d : Nat) (h : qm_H) {mt my ml : Nat} (hS : ST h mt my ml) (h0 : qm_H) (e31 : h0.1 31 = h.1 31) (e34 : h0.1 34 = h.1 34) (a b : Int32) : qm_Ev G (d + 3) 0 0 qyX10_layLog [.ref 26, .int a, .int b] h0 (fun r h' => (∃ t l, t < mt ∧ l < ml ∧ a = nI t ∧ b = nI l ∧ r = some (.int 1) ∧ LC h0 h' t l (nn (gw h l))) ∨ ((inb a mt && inb b ml) = false ∧ r = some (.int 0) ∧ pers h0 h')) := by
  obtain ⟨s1, s2, -, -, s3, s4, -, -, hL⟩ := hS
  have eg : ∀ l, gw h0 l = gw h l := fun l => by unfold gw; rw [e34]
  refine (e_layLog hG d h0 (mt := mt) (ml := ml) (by rw [e31]; exact s1) s2 (by rw [e31]; exact s3) s4 (fun l => nn (gw h l)) (fun l hl => by rw [eg l]; exact hL l hl) a b).al hG ?_
  rintro v h1 (⟨t, l, e1, e2, e3, e4, e5, e6⟩ | ⟨e1, e2, e3⟩)
  · obtain ⟨h2, q1, q2⟩ := e6.to
    exact ⟨h2, q1, Or.inl ⟨t, l, e1, e2, e3, e4, e5, q2⟩⟩
  · refine ⟨h1, ⟨rfl, fun _ => Or.inl rfl⟩, Or.inr ⟨?_, e2, e3⟩⟩
    cases ha : inb a mt
    · rfl
    · cases hb : inb b ml
      · rfl
      · exact absurd ⟨inR_b hb, inR_b ha⟩ e1
def s_fits (w lg : Nat → Int32) (n m : Nat) (what : Int32) : Int32 :=
  if what < 10 then (if what = 0 then nI (FL w lg m).1 else if what = 1 then (if (FL w lg m).1 = 0 then -1 else s_sure (FL w lg m).2 (FL w lg m).1) else if what = 2 then (if (FL w lg m).1 = 0 then -1 else (s_next (FL w lg m).2 (FL w lg m).1 6).1) else if what = 3 then s_whose w lg (mi0 w) m n else -2)
  else if nI (FL w lg m).1 ≤ what - 10 then -2 else (FL w lg m).2 (what - 10).toNatClampNeg
def p_fits (h : qm_H) (mt ml : Nat) (a b what : Int32) : Int32 := if inb a mt && inb b ml then s_fits (tw h a.toNatClampNeg) (gw h b.toNatClampNeg) (nn (tw h a.toNatClampNeg)) (nn (gw h b.toNatClampNeg)) what else -2
theorem FL_le (w lg : Nat → Int32) (m : Nat) : (FL w lg m).1 ≤ 64 := s_lay_le _ _ _ _ 64
theorem a_fits {G : qm_G} (hG : G.2.2.2.2 = true) (d : Nat) (h : qm_H) {mt my ml : Nat} (hS : ST h mt my ml) (a b what : Int32) : qm_Ev G (d + 4) 0 0 qyX10_fits [.ref 26, .int a, .int b, .int what] h (fun r h' => r = some (.int (p_fits h mt ml a b what)) ∧ pers h h') := by
  refine qm_Ev.run (M := mX10_fits) okX10_fits rfl hG fun z => ?_
  refine ⟨rfl, trivial, rfl, 0, 0, _, e_layLogC hG d h hS (qm_si h 26 0 0) rfl rfl a b, ⟨Nat.le_refl _, Nat.le_refl _⟩, ?_⟩
  obtain ⟨s1, s2, -, -, s3, s4, hT, -, hL⟩ := hS
  rintro _ h2 (⟨t, l, ht, hl, rfl, rfl, rfl, c1, c2, c3, c4, c5, c6, c7⟩ | ⟨e0, rfl, e1⟩)
  · obtain ⟨i1, i2⟩ := p_in ht s2
    obtain ⟨i3, i4⟩ := p_in hl s4
    have vT := hT t ht
    have vL := hL l hl
    have n6 := vT.1
    have fin : pers h h2 := pers.rf.s26.tr c7
    have etw : tw (qm_si h 26 0 0) t = tw h t := rfl
    have egw : gw (qm_si h 26 0 0) l = gw h l := rfl
    rw [etw] at c2 c4 c5 c6
    rw [egw] at c4 c5
    have etw2 : tw h2 t = tw h t := c7.row t
    have egw2 : gw h2 l = gw h l := by
      unfold gw
      rw [c7.2 34 (by decide)]
      rfl
    have hle := FL_le (tw h t) (gw h l) (nn (gw h l))
    have eP : p_fits h mt ml (nI t) (nI l) what = s_fits (tw h t) (gw h l) (nn (tw h t)) (nn (gw h l)) what := by
      rw [p_fits, i1, i3, i2, i4]; rfl
    rw [eP]
    refine ⟨fun _ => ⟨fun c => ⟨⟨fun q => ?_, fun q => ?_, fun q => ?_, fun q => ?_, trivial⟩, fun q => ?_⟩, fun c => ⟨rfl, fun (cc : h2.1 26 43 ≤ what - 10) => ?_, fun (cc : ¬ h2.1 26 43 ≤ what - 10) => ?_⟩⟩, fun q => absurd q (by decide)⟩
    · obtain rfl : what = 0 := q
      refine ⟨rfl, trivial, ?_, fin⟩
      rw [s_fits, if_pos (by decide), if_pos rfl]
      exact congrArg (fun x => some (Value.int x)) c4
    · obtain rfl : what = 1 := q
      refine ⟨rfl, 0, 0, _, e_sure hG (d + 3) h2 c4 hle, ⟨Nat.le_refl _, Nat.le_refl _⟩, ?_⟩
      rintro _ _ ⟨rfl, rfl⟩
      refine ⟨trivial, ?_, fin⟩
      have eK : s_fits (tw h t) (gw h l) (nn (tw h t)) (nn (gw h l)) 1 = if (FL (tw h t) (gw h l) (nn (gw h l))).1 = 0 then -1 else s_sure (FL (tw h t) (gw h l) (nn (gw h l))).2 (FL (tw h t) (gw h l) (nn (gw h l))).1 := by rw [s_fits, if_pos (by decide), if_neg (by decide), if_pos rfl]
      rw [eK, s_sure_ext c5 _ (Nat.le_refl _)]
    · obtain rfl : what = 2 := q
      refine ⟨rfl, 0, 0, _, e_next hG (d + 1) h2 c4 hle, ⟨Nat.le_refl _, Nat.le_refl _⟩, ?_⟩
      rintro _ _ ⟨rfl, rfl⟩
      refine ⟨trivial, ?_, fin⟩
      have eK : s_fits (tw h t) (gw h l) (nn (tw h t)) (nn (gw h l)) 2 = if (FL (tw h t) (gw h l) (nn (gw h l))).1 = 0 then -1 else (s_next (FL (tw h t) (gw h l) (nn (gw h l))).2 (FL (tw h t) (gw h l) (nn (gw h l))).1 6).1 := by rw [s_fits, if_pos (by decide), if_neg (by decide), if_neg (by decide), if_pos rfl]
      rw [eK, s_next_ext c5]
    · obtain rfl : what = 3 := q
      refine ⟨rfl, 0, 0, _, e_whose hG d h2 (t := t) (n := nn (tw h t)) (l := l) (m := nn (gw h l)) c1 (by omega) (c2.trans vT.2.1) n6 c3 (by omega) (by rw [egw2]; exact vL), ⟨Nat.le_refl _, Nat.le_refl _⟩, ?_⟩
      rintro _ _ ⟨rfl, rfl⟩
      refine ⟨trivial, ?_, fin⟩
      rw [s_fits, if_pos (by decide), if_neg (by decide), if_neg (by decide), if_neg (by decide), if_pos rfl, etw2, egw2, c6]
    · have q' : ∀ j : Nat, j < 4 → what ≠ nI j := by
        intro j hj e
        rw [e, nI_toInt (by omega)] at q
        simp only [List.length_cons, List.length_nil, List.drop] at q
        omega
      have z0 : ¬ what = 0 := q' 0 (by decide)
      have z1 : ¬ what = 1 := q' 1 (by decide)
      have z2 : ¬ what = 2 := q' 2 (by decide)
      have z3 : ¬ what = 3 := q' 3 (by decide)
      exact ⟨trivial, by rw [s_fits, if_pos c, if_neg z0, if_neg z1, if_neg z2, if_neg z3], fin⟩
    · rw [c4] at cc
      exact ⟨trivial, by rw [s_fits, if_neg c, if_pos cc], fin⟩
    · rw [c4] at cc
      have hpos : ¬ what < 0 := fun q => c (Int32.lt_of_lt_of_le q (by decide))
      obtain ⟨x, hx, rfl⟩ := nI_of hpos
      have x1 : 10 ≤ x := by
        rcases Nat.lt_or_ge x 10 with q | q
        · exact absurd (nI_lt (b := 10) q (by decide)) c
        · exact q
      have x3 : nI x - 10 = nI (x - 10) := pk_sub x1
      have x4 : x - 10 < (FL (tw h t) (gw h l) (nn (gw h l))).1 := by
        rcases Nat.lt_or_ge (x - 10) (FL (tw h t) (gw h l) (nn (gw h l))).1 with q | q
        · exact q
        · exact absurd (by rw [x3]; exact nI_le q (by omega)) cc
      have x5 : (nI x - 10).toNatClampNeg = x - 10 := by rw [x3]; exact nI_clamp (by omega)
      refine ⟨rfl, _, rfl, rfl, (by show vp_in (nI x - 10) 64; rw [x3]; exact vp_in_nI (by omega) (by decide)), trivial, ?_, fin⟩
      rw [s_fits, if_neg c, if_neg cc, x5, ← c5 _ x4]
  · exact ⟨fun q => absurd rfl q, fun _ => ⟨trivial, by rw [p_fits, e0]; rfl, pers.rf.s26.tr e1⟩⟩
end
section
/-! the reference: shares, the fewest and the most facts -/
def manyN (a : Nat → Int32) (f : Int32) : Nat → Nat
  | 0 => 0
  | k + 1 => manyN a f k + (if bit (a k) f then 1 else 0)
theorem many_N (a : Nat → Int32) (f : Int32) : ∀ k, s_many a f k = nI (manyN a f k)
  | 0 => rfl
  | k + 1 => by
    rw [s_many, manyN, many_N a f k]
    cases bit (a k) f
    · rw [if_neg (by decide), Nat.add_zero, b2_f, show (0 : Int32) = nI 0 from rfl, nI_add, Nat.add_zero]
    · rw [if_pos rfl, b2_t, nI_1]
theorem manyN_le (a : Nat → Int32) (f : Int32) : ∀ k, manyN a f k ≤ k
  | 0 => Nat.le_refl _
  | k + 1 => by
    have := manyN_le a f k
    rw [manyN]
    split <;> omega
def s_share (w lg : Nat → Int32) (m f : Nat) (u : Bool) : Int64 := if (FL w lg m).1 = 0 then -1 else lN ((if u then (FL w lg m).1 else manyN (FL w lg m).2 (nI f) (FL w lg m).1) / Nat.gcd (FL w lg m).1 (manyN (FL w lg m).2 (nI f) (FL w lg m).1))
def p_share (h : qm_H) (mt ml : Nat) (a b f : Int32) (u : Bool) : Int64 := if inb f 6 && (inb a mt && inb b ml) then s_share (tw h a.toNatClampNeg) (gw h b.toNatClampNeg) (nn (gw h b.toNatClampNeg)) f.toNatClampNeg u else -1
theorem a_share {G : qm_G} (hG : G.2.2.2.2 = true) (d : Nat) (h : qm_H) {mt my ml : Nat} (hS : ST h mt my ml) (a b f : Int32) (u : Bool) : qm_Ev G (d + 4) 0 0 qyX10_share [.ref 26, .int a, .int b, .int f, .int (b2 u)] h (fun r h' => r = some (.long (p_share h mt ml a b f u)) ∧ pers h h') := by
  refine qm_Ev.run (M := mX10_share) okX10_share rfl hG fun z => ?_
  refine ⟨rfl, trivial, 0, 0, _, e_in hG (d + 3) (qm_si h 26 0 0) f 0 5, ⟨Nat.le_refl _, Nat.le_refl _⟩, ?_⟩
  rintro _ _ ⟨rfl, rfl⟩
  refine b2_eq (fun hf => ?_) (fun hf => ⟨rfl, by rw [p_share, show inb f 6 = false from hf]; rfl, pers.rf.s26⟩)
  have hf1 : inb f 6 = true := hf
  obtain ⟨ff, hff, rfl⟩ := inb_e (by omega) hf1
  refine ⟨rfl, 0, 0, _, e_layLogC hG d h hS (qm_si h 26 0 0) rfl rfl a b, ⟨Nat.le_refl _, Nat.le_refl _⟩, ?_⟩
  obtain ⟨s1, s2, -, -, s3, s4, hT, -, hL⟩ := hS
  rintro _ h2 (⟨t, l, ht, hl, rfl, rfl, rfl, c1, c2, c3, c4, c5, c6, c7⟩ | ⟨e0, rfl, e1⟩)
  · obtain ⟨i1, i2⟩ := p_in ht s2
    obtain ⟨i3, i4⟩ := p_in hl s4
    have fin : pers h h2 := pers.rf.s26.tr c7
    have etw : tw (qm_si h 26 0 0) t = tw h t := rfl
    have egw : gw (qm_si h 26 0 0) l = gw h l := rfl
    rw [etw, egw] at c4 c5
    have hle := FL_le (tw h t) (gw h l) (nn (gw h l))
    have eP : p_share h mt ml (nI t) (nI l) (nI ff) u = s_share (tw h t) (gw h l) (nn (gw h l)) ff u := by
      rw [p_share, hf1, i1, i3, i2, i4, nI_clamp (by omega)]; rfl
    rw [eP]
    refine ⟨fun q => absurd q (by decide), fun _ => ⟨rfl, fun (c : ¬ h2.1 26 43 = 0) => ?_, fun (c : h2.1 26 43 = 0) => ?_⟩⟩
    · rw [c4] at c
      have h0 : 0 < (FL (tw h t) (gw h l) (nn (gw h l))).1 := by
        rcases Nat.eq_zero_or_pos (FL (tw h t) (gw h l) (nn (gw h l))).1 with q | q
        · exact absurd (by rw [q]; rfl) c
        · exact q
      refine ⟨rfl, 0, 0, _, e_manyHave hG (d + 2) h2 c4 hle (nI ff), ⟨Nat.le_refl _, Nat.le_refl _⟩, ?_⟩
      rintro _ _ ⟨rfl, rfl⟩
      have em := s_many_ext c5 (nI ff) _ (Nat.le_refl _)
      have hml := manyN_le (FL (tw h t) (gw h l) (nn (gw h l))).2 (nI ff) (FL (tw h t) (gw h l) (nn (gw h l))).1
      have e1 : (s_many (h2.1 48) (nI ff) (FL (tw h t) (gw h l) (nn (gw h l))).1).toInt64 = lN (manyN (FL (tw h t) (gw h l) (nn (gw h l))).2 (nI ff) (FL (tw h t) (gw h l) (nn (gw h l))).1) := by
        rw [em, many_N, nI_l (by omega)]
      have e2 : (h2.1 26 43).toInt64 = lN (FL (tw h t) (gw h l) (nn (gw h l))).1 := by rw [c4, nI_l (by omega)]
      refine ⟨rfl, 0, 0, _, e_partX hG (d + 2) h2 _ _ e1 e2 (by omega) (by omega) h0 u, ⟨Nat.le_refl _, Nat.le_refl _⟩, ?_⟩
      rintro _ _ ⟨rfl, rfl⟩
      have eK : s_share (tw h t) (gw h l) (nn (gw h l)) ff u = lN ((if u then (FL (tw h t) (gw h l) (nn (gw h l))).1 else manyN (FL (tw h t) (gw h l) (nn (gw h l))).2 (nI ff) (FL (tw h t) (gw h l) (nn (gw h l))).1) / Nat.gcd (FL (tw h t) (gw h l) (nn (gw h l))).1 (manyN (FL (tw h t) (gw h l) (nn (gw h l))).2 (nI ff) (FL (tw h t) (gw h l) (nn (gw h l))).1)) := by
        rw [s_share]
        exact if_neg (by omega)
      exact ⟨rfl, by rw [eK], fin⟩
    · rw [c4] at c
      have h0 : (FL (tw h t) (gw h l) (nn (gw h l))).1 = 0 := (nI_eq (b := 0) (by omega) (by decide)).mp c
      exact ⟨rfl, by rw [s_share, if_pos h0], fin⟩
  · exact ⟨fun _ => ⟨rfl, by rw [p_share, e0, Bool.and_false]; rfl, pers.rf.s26.tr e1⟩, fun q => absurd rfl q⟩
def s_few (a : Nat → Int32) (u : Bool) : Nat → Int32
  | 0 => ones (a 0) 6
  | k + 1 => if u then mx (s_few a u k) (ones (a k) 6) else mn (s_few a u k) (ones (a k) 6)
theorem s_few_ext {a a' : Nat → Int32} {c : Nat} (hc : 0 < c) (h : ∀ j, j < c → a j = a' j) (u : Bool) : ∀ k, k ≤ c → s_few a u k = s_few a' u k
  | 0, _ => by rw [s_few, s_few, h 0 hc]
  | k + 1, hk => by rw [s_few, s_few, s_few_ext hc h u k (by omega), h k (by omega)]
def s_fewest (w lg : Nat → Int32) (m : Nat) (u : Bool) : Int32 := if (FL w lg m).1 = 0 then -1 else s_few (FL w lg m).2 u (FL w lg m).1
def p_fewest (h : qm_H) (mt ml : Nat) (a b : Int32) (u : Bool) : Int32 := if inb a mt && inb b ml then s_fewest (tw h a.toNatClampNeg) (gw h b.toNatClampNeg) (nn (gw h b.toNatClampNeg)) u else -1
theorem a_fewest {G : qm_G} (hG : G.2.2.2.2 = true) (d : Nat) (h : qm_H) {mt my ml : Nat} (hS : ST h mt my ml) (a b : Int32) (u : Bool) : qm_Ev G (d + 4) 0 0 qyX10_fewest [.ref 26, .int a, .int b, .int (b2 u)] h (fun r h' => r = some (.int (p_fewest h mt ml a b u)) ∧ pers h h') := by
  refine qm_Ev.by (M := mX10_fewest) okX10_fewest (Nat.le_of_ble_eq_true rfl) hG fun z hA => ?_
  refine qm_wp_ok hA [21] 40 _ _ _ _ _ _ ?_
  refine ⟨rfl, trivial, rfl, 0, 0, _, e_layLogC hG d h hS (qm_si h 26 0 0) rfl rfl a b, ⟨Nat.le_refl _, Nat.le_refl _⟩, ?_⟩
  obtain ⟨s1, s2, -, -, s3, s4, hT, -, hL⟩ := hS
  rintro _ h2 (⟨t, l, ht, hl, rfl, rfl, rfl, c1, c2, c3, c4, c5, c6, c7⟩ | ⟨e0, rfl, e1⟩)
  · obtain ⟨i1, i2⟩ := p_in ht s2
    obtain ⟨i3, i4⟩ := p_in hl s4
    have fin : pers h h2 := pers.rf.s26.tr c7
    have etw : tw (qm_si h 26 0 0) t = tw h t := rfl
    have egw : gw (qm_si h 26 0 0) l = gw h l := rfl
    rw [etw, egw] at c4 c5
    have hle := FL_le (tw h t) (gw h l) (nn (gw h l))
    have eP : p_fewest h mt ml (nI t) (nI l) u = s_fewest (tw h t) (gw h l) (nn (gw h l)) u := by
      rw [p_fewest, i1, i3, i2, i4]; rfl
    obtain ⟨F, hF⟩ : ∃ F, F = FL (tw h t) (gw h l) (nn (gw h l)) := ⟨_, rfl⟩
    rw [s_fewest, ← hF] at eP
    rw [← hF] at c4 c5 hle
    refine ⟨fun q => absurd q (by decide), fun _ => ⟨rfl, fun (c : ¬ h2.1 26 43 = 0) => ?_, fun (c : h2.1 26 43 = 0) => ?_⟩⟩
    · rw [c4] at c
      have h0 : 0 < F.1 := by
        rcases Nat.eq_zero_or_pos F.1 with q | q
        · exact absurd (by rw [q]; rfl) c
        · exact q
      rw [if_neg (by omega), ← s_few_ext h0 c5 u _ (Nat.le_refl _)] at eP
      refine ⟨rfl, _, rfl, rfl, (vp_in_nI (n := 0) (by decide) (by decide) : vp_in (nI 0) 64), ?_⟩
      refine ⟨0, 0, _, e_ones hG (d + 2) h2 (h2.1 48 0), ⟨Nat.le_refl _, Nat.le_refl _⟩, ?_⟩
      rintro _ _ ⟨rfl, rfl⟩
      refine qm_for (P := fun i => qm_PW G mX10_fewest z 21 0 0 [vr 26, vi (nI t), vi (nI l), vi (b2 u), vi (s_few (h2.1 48) u i), vi (nI i)] [] h2) (N := F.1) ?_ ?_
      · refine qm_wp_ok hA [] 30 _ _ _ _ _ _ ⟨rfl, fun _ => ⟨trivial, by rw [eP], fin⟩, fun (q : ¬ h2.1 26 43 ≤ nI F.1) => absurd (by rw [c4]; exact Int32.le_refl _) q⟩
      · intro i hi key
        rw [s_few, ← nI_1] at key
        have hin : vp_in (nI i) 64 := vp_in_nI (by omega) (by decide)
        refine qm_wp_ok hA [21] 40 _ _ _ _ _ _ ⟨rfl, fun (q : h2.1 26 43 ≤ nI i) => absurd q (by rw [c4]; exact nI_ge hi (by omega)), fun _ => ?_⟩
        refine b2_eq (fun hu => ?_) (fun hu => ?_)
        · refine ⟨rfl, _, rfl, rfl, hin, ?_⟩
          rw [nI_clamp (by omega)]
          refine ⟨0, 0, _, e_ones hG (d + 2) h2 (h2.1 48 i), ⟨Nat.le_refl _, Nat.le_refl _⟩, ?_⟩
          rintro _ _ ⟨rfl, rfl⟩
          refine ⟨0, 0, _, e_greater hG (d + 3) h2 _ _, ⟨Nat.le_refl _, Nat.le_refl _⟩, ?_⟩
          rintro _ _ ⟨rfl, rfl⟩
          rw [if_pos hu] at key
          exact key
        · refine ⟨rfl, _, rfl, rfl, hin, ?_⟩
          rw [nI_clamp (by omega)]
          refine ⟨0, 0, _, e_ones hG (d + 2) h2 (h2.1 48 i), ⟨Nat.le_refl _, Nat.le_refl _⟩, ?_⟩
          rintro _ _ ⟨rfl, rfl⟩
          refine ⟨0, 0, _, e_lesser hG (d + 3) h2 _ _, ⟨Nat.le_refl _, Nat.le_refl _⟩, ?_⟩
          rintro _ _ ⟨rfl, rfl⟩
          rw [if_neg (by rw [hu]; decide)] at key
          exact key
    · rw [c4] at c
      have h0 : F.1 = 0 := (nI_eq (b := 0) (by omega) (by decide)).mp c
      exact ⟨trivial, by rw [eP, if_pos h0], fin⟩
  · exact ⟨fun _ => ⟨trivial, by rw [p_fewest, e0]; rfl, pers.rf.s26.tr e1⟩, fun q => absurd rfl q⟩
end
section
/-! the reference: the longest chain -/
def ff (p : Nat → Bool) : Nat → Nat → Nat
  | 0, i => i
  | r + 1, i => if p i then i else ff p r (i + 1)
theorem ff_spec {p : Nat → Bool} : ∀ (r i : Nat), (∃ j, i ≤ j ∧ j < i + r ∧ p j = true) → p (ff p r i) = true ∧ ff p r i < i + r ∧ i ≤ ff p r i ∧ ∀ j, i ≤ j → j < ff p r i → p j = false
  | 0, i, ⟨j, a, b, _⟩ => by omega
  | r + 1, i, ⟨j, a, b, c⟩ => by
    rw [ff]
    by_cases hp : p i = true
    · rw [if_pos hp]
      exact ⟨hp, by omega, Nat.le_refl _, fun j h1 h2 => by omega⟩
    · rw [if_neg hp]
      have hj : i ≠ j := fun e => hp (by rw [e]; exact c)
      obtain ⟨k1, k2, k3, k4⟩ := ff_spec r (i + 1) ⟨j, by omega, by omega, c⟩
      refine ⟨k1, by omega, by omega, fun j h1 h2 => ?_⟩
      by_cases e : i = j
      · rw [← e]; cases q : p i
        · rfl
        · exact absurd q hp
      · exact k4 j (by omega) h2
def pop (s : Nat) : Nat := s % 2 + s / 2 % 2 + s / 4 % 2 + s / 8 % 2 + s / 16 % 2 + s / 32 % 2
theorem pop_dec : ∀ s, s < 64 → ∀ f, f < 6 → (bit (nI s) (nI f) = false → pop (s ||| 2 ^ f) = pop s + 1 ∧ s < s ||| 2 ^ f) := by decide +kernel
theorem pop_63 : ∀ s, s < 64 → pop s ≤ 6 ∧ (pop s = 6 → ∀ f, f < 6 → bit (nI s) (nI f) = true) := by decide +kernel
theorem may_bit {w : Nat → Int32} {had ahead f : Nat} (h : s_may w had ahead f = true) : bit (nI had) (nI f) = false := by
  rw [s_may] at h
  cases q : bit (nI had) (nI f)
  · rfl
  · rw [q] at h; exact absurd h Bool.false_ne_true
theorem may_no {w : Nat → Int32} {had ahead f : Nat} (h : bit (nI had) (nI f) = true) : s_may w had ahead f = false := by
  rw [s_may, h]; rfl
def cLm (w : Nat → Int32) (had ahead : Nat) (L : Nat → Nat) : Nat → Nat
  | 0 => 0
  | f + 1 => max (cLm w had ahead L f) (if s_may w had ahead f then 1 + L f else 0)
def cLen (w : Nat → Int32) : Nat → Nat → Nat → Nat
  | 0, _, _ => 0
  | k + 1, ahead, had => cLm w had ahead (fun f => cLen w k f (had ||| 2 ^ f)) 6
theorem cLm_le {w : Nat → Int32} {had ahead K : Nat} {L : Nat → Nat} (h : ∀ f, L f ≤ K) : ∀ j, cLm w had ahead L j ≤ K + 1
  | 0 => by rw [cLm]; omega
  | j + 1 => by
    rw [cLm]
    have := cLm_le h (w := w) (had := had) (ahead := ahead) j
    have := h j
    split <;> omega
theorem cLen_le (w : Nat → Int32) : ∀ k ahead had, cLen w k ahead had ≤ k
  | 0, _, _ => Nat.le_refl _
  | k + 1, ahead, had => by
    rw [cLen]
    exact cLm_le (fun f => cLen_le w k f _) 6
theorem cLm_at {w : Nat → Int32} {had ahead : Nat} {L : Nat → Nat} : ∀ j, 0 < cLm w had ahead L j → ∃ f, f < j ∧ s_may w had ahead f = true ∧ 1 + L f = cLm w had ahead L j
  | 0, h => absurd h (by rw [cLm]; omega)
  | j + 1, h => by
    rw [cLm] at h ⊢
    by_cases c : s_may w had ahead j = true
    · rw [if_pos c] at h ⊢
      by_cases q : cLm w had ahead L j ≤ 1 + L j
      · exact ⟨j, by omega, c, by omega⟩
      · obtain ⟨f, h1, h2, h3⟩ := cLm_at (w := w) (had := had) (ahead := ahead) (L := L) j (by omega)
        exact ⟨f, by omega, h2, by omega⟩
    · rw [if_neg c] at h ⊢
      obtain ⟨f, h1, h2, h3⟩ := cLm_at (w := w) (had := had) (ahead := ahead) (L := L) j (by omega)
      exact ⟨f, by omega, h2, by omega⟩
def cF (w : Nat → Int32) (k ahead had : Nat) : Nat := ff (fun f => s_may w had ahead f && decide (1 + cLen w k f (had ||| 2 ^ f) = cLen w (k + 1) ahead had)) 6 0
def cPath (w : Nat → Int32) : Nat → Nat → Nat → List Nat
  | 0, _, _ => []
  | k + 1, ahead, had => if cLen w (k + 1) ahead had = 0 then [] else cF w k ahead had :: cPath w k (cF w k ahead had) (had ||| 2 ^ cF w k ahead had)
theorem cF_spec (w : Nat → Int32) {k ahead had : Nat} (h : 0 < cLen w (k + 1) ahead had) : cF w k ahead had < 6 ∧ s_may w had ahead (cF w k ahead had) = true ∧ 1 + cLen w k (cF w k ahead had) (had ||| 2 ^ cF w k ahead had) = cLen w (k + 1) ahead had ∧ ∀ j, j < cF w k ahead had → ¬ (s_may w had ahead j = true ∧ 1 + cLen w k j (had ||| 2 ^ j) = cLen w (k + 1) ahead had) := by
  have hx := h
  rw [cLen] at hx
  obtain ⟨f, h1, h2, h3⟩ := cLm_at 6 hx
  obtain ⟨k1, k2, -, k4⟩ := ff_spec (p := fun f => s_may w had ahead f && decide (1 + cLen w k f (had ||| 2 ^ f) = cLen w (k + 1) ahead had)) 6 0 ⟨f, by omega, by omega, by rw [h2, cLen]; exact decide_eq_true h3⟩
  rw [Bool.and_eq_true, decide_eq_true_eq] at k1
  refine ⟨by rw [cF]; omega, k1.1, k1.2, fun j hj q => ?_⟩
  have := k4 j (by omega) hj
  rw [q.1, decide_eq_true q.2] at this
  exact absurd this (by decide)
/-- the table holds the lengths -/
theorem chBy {w T : Nat → Int32} {had ahead k : Nat} (hh : had < 64) (hp : pop had + k = 6) (hT : ∀ f, f < 6 → s_may w had ahead f = true → ∀ j, j + 1 = k → T (64 * f + (had ||| 2 ^ f)) = nI (cLen w j f (had ||| 2 ^ f))) : ∀ f, f < 6 → s_chainBy w T had ahead f = nI (if s_may w had ahead f then 1 + cLen w (k - 1) f (had ||| 2 ^ f) else 0) := by
  intro f hf
  rw [s_chainBy]
  by_cases c : s_may w had ahead f = true
  · rw [if_pos c, if_pos c]
    have hb := may_bit c
    rcases Nat.eq_zero_or_pos k with e | e
    · have := (pop_63 had hh).2 (by omega) f hf
      rw [hb] at this
      exact absurd this (by decide)
    · rw [hT f hf c (k - 1) (by omega), ← nI_add]
      rfl
  · rw [if_neg c, if_neg c]
    rfl
theorem chOne {w T : Nat → Int32} {had ahead k : Nat} (hh : had < 64) (hp : pop had + k = 6) (hT : ∀ f, f < 6 → s_may w had ahead f = true → ∀ j, j + 1 = k → T (64 * f + (had ||| 2 ^ f)) = nI (cLen w j f (had ||| 2 ^ f))) : s_chain1 w T had ahead 6 = nI (cLen w k ahead had) := by
  have by1 := chBy hh hp hT
  have key : ∀ j, j ≤ 6 → s_chain1 w T had ahead j = nI (cLm w had ahead (fun f => cLen w (k - 1) f (had ||| 2 ^ f)) j) ∧ cLm w had ahead (fun f => cLen w (k - 1) f (had ||| 2 ^ f)) j ≤ 7 := by
    intro j
    induction j with
    | zero => exact fun _ => ⟨rfl, by rw [cLm]; omega⟩
    | succ j ih =>
      intro hj
      obtain ⟨i1, i2⟩ := ih (by omega)
      have hl := cLen_le w (k - 1) j (had ||| 2 ^ j)
      rw [s_chain1, i1, by1 j (by omega), cLm]
      obtain ⟨b, hb⟩ : ∃ b, b = (if s_may w had ahead j then 1 + cLen w (k - 1) j (had ||| 2 ^ j) else 0) := ⟨_, rfl⟩
      have hb7 : b ≤ 7 := by rw [hb]; split <;> omega
      show mx _ (nI (if s_may w had ahead j then 1 + cLen w (k - 1) j (had ||| 2 ^ j) else 0)) = nI (max _ (if s_may w had ahead j then 1 + cLen w (k - 1) j (had ||| 2 ^ j) else 0)) ∧ max _ (if s_may w had ahead j then 1 + cLen w (k - 1) j (had ||| 2 ^ j) else 0) ≤ 7
      rw [← hb]
      refine ⟨?_, by omega⟩
      rw [mx]
      split
      · rename_i q
        have := (nI_leI (by omega) (by omega)).mp q
        rw [Nat.max_eq_right this]
      · rename_i q
        have : ¬ _ ≤ b := fun q2 => q ((nI_leI (by omega) (by omega)).mpr q2)
        rw [Nat.max_eq_left (by omega)]
  rw [(key 6 (Nat.le_refl _)).1]
  rcases Nat.eq_zero_or_pos k with e | e
  · subst e
    have hn : ∀ j, j ≤ 6 → cLm w had ahead (fun f => cLen w (0 - 1) f (had ||| 2 ^ f)) j = 0 := by
      intro j
      induction j with
      | zero => exact fun _ => rfl
      | succ j ih =>
        intro hj
        rw [cLm, ih (by omega), may_no ((pop_63 had hh).2 (by omega) j (by omega))]
        rfl
    rw [hn 6 (Nat.le_refl _)]
    rfl
  · rw [show cLen w k ahead had = cLen w (k - 1 + 1) ahead had by rw [Nat.sub_add_cancel e], cLen]
theorem chT (w cp : Nat → Int32) : ∀ m, m ≤ 64 → ∀ had, 64 - m ≤ had → had < 64 → ∀ ahead, ahead ≤ 6 → s_chains w cp m (64 * ahead + had) = nI (cLen w (6 - pop had) ahead had)
  | 0, _, had, h1, h2, _, _ => by omega
  | m + 1, hm, had, h1, h2, ahead, ha => by
    rw [s_chains]
    obtain ⟨A, hA⟩ : ∃ A, A = s_chains w cp m := ⟨_, rfl⟩
    have ih := chT w cp m (by omega)
    rw [← hA] at ih ⊢
    have row : ∀ k, k ≤ 7 → (∀ g, 64 - m ≤ g → g < 64 → ∀ a, a ≤ 6 → s_chainRow w A (63 - m) k (64 * a + g) = nI (cLen w (6 - pop g) a g)) ∧ ∀ a, a < k → s_chainRow w A (63 - m) k (64 * a + (63 - m)) = nI (cLen w (6 - pop (63 - m)) a (63 - m)) := by
      intro k
      induction k with
      | zero => exact fun _ => ⟨ih, fun a q => by omega⟩
      | succ k ihk =>
        intro hk
        obtain ⟨r1, r2⟩ := ihk (by omega)
        rw [s_chainRow]
        have hone : s_chain1 w (s_chainRow w A (63 - m) k) (63 - m) k 6 = nI (cLen w (6 - pop (63 - m)) k (63 - m)) := by
          have hpp := (pop_63 (63 - m) (by omega)).1
          refine chOne (by omega) (by omega) fun f hf hmay j hj => ?_
          have hb := may_bit hmay
          obtain ⟨p1, p2⟩ := pop_dec (63 - m) (by omega) f hf hb
          rw [r1 _ (by omega) (Nat.or_lt_two_pow (n := 6) (by omega) (Nat.pow_lt_pow_right (by decide) hf)) f (by omega), p1, show 6 - (pop (63 - m) + 1) = j by omega]
        refine ⟨fun g g1 g2 a ha => ?_, fun a ha => ?_⟩
        · rw [up_n _ _ (by omega)]
          exact r1 g g1 g2 a ha
        · by_cases e : a = k
          · rw [e, up_s, hone]
          · rw [up_n _ _ (by omega)]
            exact r2 a (by omega)
    by_cases e : had = 63 - m
    · rw [e]
      exact (row 7 (Nat.le_refl _)).2 ahead (by omega)
    · exact (row 7 (Nat.le_refl _)).1 had (by omega) h2 ahead ha
def s_chainA (w : Nat → Int32) (k : Int32) : Int32 := if k = -1 then nI (cLen w 6 6 0) else if inb k (cLen w 6 6 0) then nI ((cPath w 6 6 0).getD k.toNatClampNeg 0) else -1
def p_chain (h : qm_H) (mt : Nat) (a k : Int32) : Int32 := if inb a mt then s_chainA (tw h a.toNatClampNeg) k else -1
theorem a_chain {G : qm_G} (hG : G.2.2.2.2 = true) (d : Nat) (h : qm_H) {mt my ml : Nat} (hS : ST h mt my ml) (a k : Int32) : qm_Ev G (d + 4) 0 0 qyX10_chain [.ref 26, .int a, .int k] h (fun r h' => r = some (.int (p_chain h mt a k)) ∧ pers h h') := by
  obtain ⟨s1, s2, -⟩ := hS
  refine qm_Ev.by (M := mX10_chain) okX10_chain (Nat.le_of_ble_eq_true rfl) hG fun z hA => ?_
  refine qm_wp_ok hA [26, 39] 40 _ _ _ _ _ _ ?_
  refine ⟨rfl, trivial, rfl, 0, 0, _, e_handC hG (d + 1) (qm_si h 26 0 0) (mt := mt) s1 s2 a, ⟨Nat.le_refl _, Nat.le_refl _⟩, ?_⟩
  rintro _ h1 (⟨t, ht, rfl, rfl, rfl⟩ | ⟨e0, rfl, e1⟩)
  · obtain ⟨i1, i2⟩ := p_in ht s2
    have etw : tw (hnd (qm_si h 26 0 0) t) t = tw h t := rfl
    have eP : p_chain h mt (nI t) k = s_chainA (tw h t) k := by rw [p_chain, i1, i2]; rfl
    refine ⟨fun q => ?_, fun q => absurd q (by decide)⟩
    refine ⟨rfl, 0, 0, _, e_findChains hG (d + 1) (hnd (qm_si h 26 0 0) t) (t := t) rfl (by omega), ⟨Nat.le_refl _, Nat.le_refl _⟩, ?_⟩
    rintro _ h2 ⟨rfl, c1, c2⟩
    have fin : pers h h2 := (pers.rf.s26.tr (hnd.ps _ t)).tr (c2.mono (by decide))
    have tab := chT (tw h t) ((hnd (qm_si h 26 0 0) t).1 49) 64 (Nat.le_refl _)
    rw [etw] at c1
    rw [← c1] at tab
    have n0 := tab 0 (by omega) (by omega) 6 (Nat.le_refl _)
    obtain ⟨w, hw⟩ : ∃ w, w = tw h t := ⟨_, rfl⟩
    have etw2 : tw h2 t = w := by
      rw [hw, ← etw]; unfold tw
      rw [c2.2 32 (by decide)]
    have e22 : h2.1 26 22 = nI t := by rw [c2.2 26 (by decide)]; rfl
    rw [← hw] at tab n0 eP
    have n0' : h2.1 49 384 = nI (cLen w 6 6 0) := n0
    have hn6 := cLen_le w 6 6 0
    refine ⟨rfl, _, rfl, rfl, (vp_in_nI (n := 384) (by decide) (by decide) : vp_in (nI 384) 448), ?_⟩
    have m26 : (k = -1 ∨ inb k (cLen w 6 6 0) = false) → qm_PW G mX10_chain z 26 0 0 [vr 26, vi (nI t), vi k, vi (h2.1 49 384), vu, vu, vu, vu] [] h2 := by
      intro hk
      have z1 : ¬ k = -1 → p_chain h mt (nI t) k = -1 := fun q => by
        rw [eP]
        rcases hk with e | e
        · exact absurd e q
        · rw [s_chainA, if_neg q, e]; rfl
      have z2 : k = -1 → p_chain h mt (nI t) k = h2.1 49 384 := fun q => by rw [eP, s_chainA, if_pos q, n0']
      exact qm_wp_ok hA [] 20 _ _ _ _ _ _ ⟨fun (q : ¬ k = -1) => ⟨trivial, congrArg (fun v => some (Value.int v)) (z1 q).symm, fin⟩, fun (q : k = -1) => ⟨trivial, congrArg (fun v => some (Value.int v)) (z2 q).symm, fin⟩⟩
    refine ⟨fun (q : k = -1) => m26 (Or.inl q), fun (q : ¬ k = -1) => ?_⟩
    refine ⟨0, 0, _, e_in hG (d + 3) h2 k 0 (h2.1 49 384 - 1), ⟨Nat.le_refl _, Nat.le_refl _⟩, ?_⟩
    rintro _ _ ⟨rfl, rfl⟩
    refine b2_ne (fun hb => ?_) (fun hb => m26 (Or.inr (by rw [inb, ← n0']; exact hb)))
    have hb2 : inb k (cLen w 6 6 0) = true := by rw [inb, ← n0']; exact hb
    obtain ⟨kk, hkk, rfl⟩ := inb_e (by omega) hb2
    have eV : s_chainA w (nI kk) = nI ((cPath w 6 6 0).getD kk 0) := by
      rw [s_chainA, if_neg q, hb2, nI_clamp (by omega)]; rfl
    obtain ⟨V, hV⟩ : ∃ V, V = (cPath w 6 6 0).getD kk 0 := ⟨_, rfl⟩
    rw [eV, ← hV] at eP
    have main : ∀ r i ahead had : Nat, i + r = kk + 1 → pop had = i → had < 64 → ahead ≤ 6 → (r = 0 → ahead = V) → (∀ r', r = r' + 1 → (cPath w (6 - i) ahead had).getD r' 0 = V ∧ r ≤ cLen w (6 - i) ahead had) → qm_PW G mX10_chain z 39 0 0 [vr 26, vi (nI t), vi (nI kk), vu, vi (nI had), vi (nI ahead), vi (nI i), vu] [] h2 := by
      intro r
      induction r with
      | zero =>
        intro i ahead had e1 e2 e3 e4 e5 _
        refine qm_wp_ok hA [] 20 _ _ _ _ _ _ ⟨fun _ => ⟨trivial, by rw [eP, e5 rfl], fin⟩, fun (q : ¬ nI kk < nI i) => absurd (nI_lt (by omega) (by omega)) q⟩
      | succ r ih =>
        intro i ahead had e1 e2 e3 e4 _ e6
        obtain ⟨f1, f2⟩ := e6 r rfl
        have hi6 : i < 6 := by omega
        obtain ⟨j, hj⟩ : ∃ j, 6 - i = j + 1 := ⟨5 - i, by omega⟩
        rw [hj] at f1 f2
        obtain ⟨g1, g2, g3, g4⟩ := cF_spec w (k := j) (ahead := ahead) (had := had) (by omega)
        rw [cPath, if_neg (by omega)] at f1
        obtain ⟨F, hF⟩ : ∃ F, F = cF w j ahead had := ⟨_, rfl⟩
        rw [← hF] at f1 g1 g2 g3 g4
        have hbF := may_bit g2
        obtain ⟨p1, p2⟩ := pop_dec had e3 F g1 hbF
        obtain ⟨o1, o2⟩ := s_or1 e3 g1
        have nx := ih (i + 1) F (had ||| 2 ^ F) (by omega) (by omega) o2 (by omega) (fun e => by subst e; exact f1) (fun r' er => by
          subst er
          rw [show 6 - (i + 1) = j by omega]
          exact ⟨f1, by omega⟩)
        rw [← o1, ← nI_1] at nx
        have cby := chBy (w := w) (T := h2.1 49) (had := had) (ahead := ahead) (k := j + 1) e3 (by omega) (fun f hf hm jj hjj => by
          have hb := may_bit hm
          obtain ⟨p1, p2⟩ := pop_dec had e3 f hf hb
          rw [tab _ (by omega) (s_or1 e3 hf).2 f (by omega), p1, show 6 - (pop had + 1) = jj by omega])
        have tv : h2.1 49 (64 * ahead + had) = nI (cLen w (j + 1) ahead had) := by
          rw [tab _ (by omega) e3 ahead e4, show 6 - pop had = j + 1 by omega]
        have ei : (64 : Int32) * nI ahead + nI had = nI (64 * ahead + had) := by rw [show (64 : Int32) = nI 64 from rfl, pk_mul, nI_add]
        have hin : vp_in ((64 : Int32) * nI ahead + nI had) 448 := by rw [ei]; exact vp_in_nI (by omega) (by decide)
        have cl : h2.1 49 ((64 : Int32) * nI ahead + nI had).toNatClampNeg = nI (cLen w (j + 1) ahead had) := by rw [ei, nI_clamp (by omega), tv]
        have hcl := cLen_le w (j + 1) ahead had
        refine qm_wp_ok hA [44] 20 _ _ _ _ _ _ ⟨fun (q : nI kk < nI i) => absurd q (nI_nlt (by omega) (by omega)), fun _ => ?_⟩
        refine qm_for (P := fun f => qm_PW G mX10_chain z 44 0 0 [vr 26, vi (nI t), vi (nI kk), vu, vi (nI had), vi (nI ahead), vi (nI i), vi (nI f)] [] h2) (N := F) ?_ ?_
        · refine qm_wp_ok hA [39, 44] 40 _ _ _ _ _ _ ⟨rfl, 0, 0, _, e_chainBy hG (d + 2) h2 (t := t) (had := had) (ahead := ahead) (f := F) e22 (by omega) e3 e4 g1, ⟨Nat.le_refl _, Nat.le_refl _⟩, ?_⟩
          rintro _ _ ⟨rfl, rfl⟩
          rw [etw2, cby F g1, if_pos g2]
          refine ⟨rfl, _, rfl, rfl, hin, ?_⟩
          rw [cl, show 1 + cLen w (j + 1 - 1) F (had ||| 2 ^ F) = cLen w (j + 1) ahead had from g3]
          exact ⟨fun _ => qm_PW.mask [true, true, true, false, true, true, true, false] nx, fun q => absurd rfl q⟩
        · intro f hf key
          rw [← nI_1] at key
          refine qm_wp_ok hA [39, 44] 40 _ _ _ _ _ _ ⟨rfl, 0, 0, _, e_chainBy hG (d + 2) h2 (t := t) (had := had) (ahead := ahead) (f := f) e22 (by omega) e3 e4 (by omega), ⟨Nat.le_refl _, Nat.le_refl _⟩, ?_⟩
          rintro _ _ ⟨rfl, rfl⟩
          rw [etw2, cby f (by omega)]
          refine ⟨rfl, _, rfl, rfl, hin, ?_⟩
          rw [cl]
          refine ⟨fun q => ?_, fun _ => key⟩
          exfalso
          have hl := cLen_le w (j + 1 - 1) f (had ||| 2 ^ f)
          have hq := (nI_eq (by split <;> omega) (by omega)).mp q
          split at hq
          · rename_i c
            exact g4 f hf ⟨c, hq⟩
          · omega
    exact qm_PW.mask [true, true, true, false, true, true, true, false] (main (kk + 1) 0 6 0 (by omega) rfl (by decide) (by omega) (fun q => by omega) (fun r' e => by
      obtain rfl : kk = r' := by omega
      exact ⟨hV.symm, hkk⟩))
  · exact ⟨fun q => absurd rfl q, fun _ => ⟨trivial, by rw [p_chain, e0]; rfl, e1 ▸ pers.rf.s26⟩⟩
end
section
/-! the reference: a code -/
def ins (x : Nat) : List Nat → List Nat
  | [] => [x]
  | y :: l => if x ≤ y then x :: y :: l else y :: ins x l
def srt : List Nat → List Nat
  | [] => []
  | x :: l => ins x (srt l)
def huff : Nat → List Nat → Nat
  | k + 1, a :: b :: l => (a + b) + huff k (ins (a + b) l)
  | _, _ => 0
def srd (l : List Nat) : Prop := l.Pairwise (fun a b => a ≤ b)
theorem ins_perm (x : Nat) : ∀ l, List.Perm (ins x l) (x :: l)
  | [] => List.Perm.refl _
  | y :: l => by
    rw [ins]
    split
    · exact List.Perm.refl _
    · exact ((ins_perm x l).cons y).trans (List.Perm.swap x y l)
theorem ins_srd (x : Nat) : ∀ l, srd l → srd (ins x l)
  | [], _ => List.pairwise_singleton _ _
  | y :: l, h => by
    have hc := List.pairwise_cons.mp h
    rw [ins]
    split
    · rename_i q
      refine List.pairwise_cons.mpr ⟨fun z hz => ?_, h⟩
      rcases List.mem_cons.mp hz with e | e
      · omega
      · have := hc.1 z e
        omega
    · rename_i q
      refine List.pairwise_cons.mpr ⟨fun z hz => ?_, ins_srd x l hc.2⟩
      rcases List.mem_cons.mp ((ins_perm x l).mem_iff.mp hz) with e | e
      · omega
      · exact hc.1 z e
theorem srt_perm : ∀ l, List.Perm (srt l) l
  | [] => List.Perm.refl _
  | x :: l => (ins_perm x (srt l)).trans ((srt_perm l).cons x)
theorem srt_srd : ∀ l, srd (srt l)
  | [] => List.Pairwise.nil
  | x :: l => ins_srd x _ (srt_srd l)
def lsum : List Nat → Nat
  | [] => 0
  | x :: l => x + lsum l
theorem lsum_perm {l l' : List Nat} (h : List.Perm l l') : lsum l = lsum l' := by
  induction h with
  | nil => rfl
  | cons x _ ih => rw [lsum, lsum, ih]
  | swap x y l => rw [lsum, lsum, lsum, lsum]; omega
  | trans _ _ i1 i2 => exact i1.trans i2
theorem lsum_mem {l : List Nat} : ∀ {x}, x ∈ l → x ≤ lsum l := by
  induction l with
  | nil => intro x h; cases h
  | cons y l ih =>
    intro x h
    rw [lsum]
    rcases List.mem_cons.mp h with e | e
    · omega
    · have := ih e
      omega
theorem srd_min {l B : List Nat} {x u : Nat} (hs : srd (x :: l)) (hp : List.Perm B (x :: l)) (hu : u ∈ B) (hm : ∀ z, z ∈ B → u ≤ z) : u = x := by
  have h1 := hm x (hp.mem_iff.mpr (List.mem_cons_self))
  rcases List.mem_cons.mp (hp.mem_iff.mp hu) with e | e
  · exact e
  · have := (List.pairwise_cons.mp hs).1 u e
    omega
def bag (hp : Nat → Option Nat) (L : List Nat) : List Nat := L.filterMap hp
theorem bag_mem {hp : Nat → Option Nat} {L : List Nat} {z : Nat} : z ∈ bag hp L ↔ ∃ j, j ∈ L ∧ hp j = some z := List.mem_filterMap
theorem bag_co {hp hp' : Nat → Option Nat} : ∀ {L : List Nat}, (∀ j, j ∈ L → hp j = hp' j) → bag hp L = bag hp' L
  | [], _ => rfl
  | z :: L, h => by
    rw [bag, bag, List.filterMap_cons, List.filterMap_cons, h z List.mem_cons_self]
    have := bag_co (L := L) (fun j hj => h j (List.mem_cons_of_mem _ hj))
    rw [bag, bag] at this
    rw [this]
theorem bag_rm {hp : Nat → Option Nat} {a u : Nat} (hu : hp a = some u) : ∀ {L : List Nat}, L.Nodup → a ∈ L → List.Perm (bag hp L) (u :: bag (va_up hp a none) L)
  | [], _, h => by cases h
  | z :: L, hd, h => by
    have hn := List.nodup_cons.mp hd
    by_cases e : z = a
    · subst e
      have : bag (va_up hp z none) L = bag hp L := bag_co (fun j hj => up_n _ _ (fun e => hn.1 (by rw [← e]; exact hj)))
      rw [bag, bag, List.filterMap_cons, List.filterMap_cons, hu, up_s]
      rw [bag, bag] at this
      show List.Perm (u :: List.filterMap hp L) (u :: List.filterMap (va_up hp z none) L)
      rw [this]
    · have hL : a ∈ L := by
        rcases List.mem_cons.mp h with q | q
        · exact absurd q.symm e
        · exact q
      have ih := bag_rm hu hn.2 hL
      rw [bag, bag] at ih
      rw [bag, bag, List.filterMap_cons, List.filterMap_cons, up_n _ _ e]
      cases q : hp z with
      | none => exact ih
      | some v => exact (ih.cons v).trans (List.Perm.swap u v _)
def lh (hp : Nat → Option Nat) (but : Option Nat) : Nat → Option Nat
  | 0 => none
  | k + 1 => match hp k with
    | none => lh hp but k
    | some v => if some k = but then lh hp but k else match lh hp but k with
      | none => some k
      | some b => if v < (hp b).getD 0 then some k else some b
theorem lh_spec (hp : Nat → Option Nat) (but : Option Nat) : ∀ k, (lh hp but k = none → ∀ j, j < k → some j ≠ but → hp j = none) ∧ (∀ a, lh hp but k = some a → a < k ∧ some a ≠ but ∧ ∃ v, hp a = some v ∧ ∀ j, j < k → some j ≠ but → ∀ u, hp j = some u → v ≤ u)
  | 0 => ⟨fun _ j hj => by omega, fun a q => by rw [lh] at q; exact absurd q (by simp)⟩
  | k + 1 => by
    obtain ⟨i1, i2⟩ := lh_spec hp but k
    rw [lh]
    cases q : hp k with
    | none =>
      refine ⟨fun e j hj hb => ?_, fun a e => ?_⟩
      · by_cases c : j = k
        · rw [c]; exact q
        · exact i1 e j (by omega) hb
      · obtain ⟨a1, a2, v, a3, a4⟩ := i2 a e
        refine ⟨by omega, a2, v, a3, fun j hj hb u hu => ?_⟩
        by_cases c : j = k
        · rw [c, q] at hu; exact absurd hu (by simp)
        · exact a4 j (by omega) hb u hu
    | some v =>
      by_cases c : some k = but
      · simp only [if_pos c]
        refine ⟨fun e j hj hb => ?_, fun a e => ?_⟩
        · by_cases c2 : j = k
          · rw [c2] at hb; exact absurd c hb
          · exact i1 e j (by omega) hb
        · obtain ⟨a1, a2, v', a3, a4⟩ := i2 a e
          refine ⟨by omega, a2, v', a3, fun j hj hb u hu => ?_⟩
          by_cases c2 : j = k
          · rw [c2] at hb; exact absurd c hb
          · exact a4 j (by omega) hb u hu
      · simp only [if_neg c]
        cases q2 : lh hp but k with
        | none =>
          refine ⟨fun e => absurd e (by simp), fun a e => ?_⟩
          obtain rfl : k = a := Option.some.inj e
          refine ⟨by omega, c, v, q, fun j hj hb u hu => ?_⟩
          by_cases c2 : j = k
          · rw [c2, q] at hu; have := Option.some.inj hu; omega
          · rw [i1 q2 j (by omega) hb] at hu; exact absurd hu (by simp)
        | some b =>
          obtain ⟨b1, b2, vb, b3, b4⟩ := i2 b q2
          simp only [b3, Option.getD_some]
          by_cases c3 : v < vb
          · rw [if_pos c3]
            refine ⟨fun e => absurd e (by simp), fun a e => ?_⟩
            obtain rfl : k = a := Option.some.inj e
            refine ⟨by omega, c, v, q, fun j hj hb u hu => ?_⟩
            by_cases c2 : j = k
            · rw [c2, q] at hu; have := Option.some.inj hu; omega
            · have := b4 j (by omega) hb u hu; omega
          · rw [if_neg c3]
            refine ⟨fun e => absurd e (by simp), fun a e => ?_⟩
            obtain rfl : b = a := Option.some.inj e
            refine ⟨by omega, b2, vb, b3, fun j hj hb u hu => ?_⟩
            by_cases c2 : j = k
            · rw [c2, q] at hu; have := Option.some.inj hu; omega
            · exact b4 j (by omega) hb u hu
theorem r6_nd : (List.range 6).Nodup := by decide
theorem hf_step {hp : Nat → Option Nat} {x y : Nat} {l : List Nat} (hs : srd (x :: y :: l)) (hP : List.Perm (bag hp (List.range 6)) (x :: y :: l)) : ∃ a b, lh hp none 6 = some a ∧ lh hp (some a) 6 = some b ∧ a < 6 ∧ b < 6 ∧ a ≠ b ∧ hp a = some x ∧ hp b = some y ∧ List.Perm (bag (va_up (va_up hp a (some (x + y))) b none) (List.range 6)) ((x + y) :: l) := by
  obtain ⟨n1, n2⟩ := lh_spec hp none 6
  have hx : x ∈ bag hp (List.range 6) := hP.mem_iff.mpr List.mem_cons_self
  obtain ⟨j0, j1, j2⟩ := bag_mem.mp hx
  have j1 := List.mem_range.mp j1
  cases q : lh hp none 6 with
  | none =>
    have := n1 q j0 j1 (by simp)
    rw [j2] at this; exact absurd this (by simp)
  | some a =>
    obtain ⟨a1, -, v, a3, a4⟩ := n2 a q
    have ha : a ∈ List.range 6 := List.mem_range.mpr a1
    have ev : v = x := srd_min hs hP (bag_mem.mpr ⟨a, ha, a3⟩) (fun z hz => by
      obtain ⟨j, k1, k2⟩ := bag_mem.mp hz
      exact a4 j (List.mem_range.mp k1) (by simp) z k2)
    subst ev
    have p1 := bag_rm a3 r6_nd ha
    have p2 : List.Perm (bag (va_up hp a none) (List.range 6)) (y :: l) := List.Perm.cons_inv (p1.symm.trans hP)
    obtain ⟨m1, m2⟩ := lh_spec hp (some a) 6
    have hy : y ∈ bag (va_up hp a none) (List.range 6) := p2.mem_iff.mpr List.mem_cons_self
    obtain ⟨j3, j4, j5⟩ := bag_mem.mp hy
    have j4 := List.mem_range.mp j4
    have hj3 : j3 ≠ a := fun e => by rw [e, up_s] at j5; exact absurd j5 (by simp)
    rw [up_n _ _ hj3] at j5
    cases q2 : lh hp (some a) 6 with
    | none =>
      have := m1 q2 j3 j4 (fun e => hj3 (Option.some.inj e))
      rw [j5] at this; exact absurd this (by simp)
    | some b =>
      obtain ⟨b1, b2, vb, b3, b4⟩ := m2 b q2
      have hba : b ≠ a := fun e => b2 (by rw [e])
      have hb : b ∈ List.range 6 := List.mem_range.mpr b1
      have eb : vb = y := srd_min (List.pairwise_cons.mp hs).2 p2 (bag_mem.mpr ⟨b, hb, by rw [up_n _ _ hba]; exact b3⟩) (fun z hz => by
        obtain ⟨j, k1, k2⟩ := bag_mem.mp hz
        have hja : j ≠ a := fun e => by rw [e, up_s] at k2; exact absurd k2 (by simp)
        rw [up_n _ _ hja] at k2
        exact b4 j (List.mem_range.mp k1) (fun e => hja (Option.some.inj e)) z k2)
      subst eb
      have p3 := bag_rm (hp := va_up hp a none) (a := b) (by rw [up_n _ _ hba]; exact b3) r6_nd hb
      have p4 : List.Perm (bag (va_up (va_up hp a none) b none) (List.range 6)) l := List.Perm.cons_inv (p3.symm.trans p2)
      have p5 := bag_rm (hp := va_up (va_up hp a (some (v + vb))) b none) (a := a) (u := v + vb) (by rw [up_n _ _ hba.symm, up_s]) r6_nd ha
      have e6 : bag (va_up (va_up (va_up hp a (some (v + vb))) b none) a none) (List.range 6) = bag (va_up (va_up hp a none) b none) (List.range 6) := bag_co (fun j _ => by
        by_cases c : j = a
        · rw [c, up_s, up_n _ _ hba.symm, up_s]
        · rw [up_n _ _ c]
          by_cases c2 : j = b
          · rw [c2, up_s, up_s]
          · rw [up_n _ _ c2, up_n _ _ c2, up_n _ _ c, up_n _ _ c])
      rw [e6] at p5
      exact ⟨a, b, rfl, q2, a1, b1, hba.symm, a3, b3, p5.trans (p4.cons _)⟩
theorem s_oi_n (v : Nat) : s_oi (some v) = nI v := rfl
theorem s_oi_0 : s_oi none = -1 := rfl
theorem e_leastHeap {G : qm_G} (hG : G.2.2.2.2 = true) (d : Nat) (h : qm_H) {hp : Nat → Option Nat} (hH : ∀ j, j < 6 → h.1 46 j = s_oi (hp j)) (hB : ∀ j v, hp j = some v → v < 2 ^ 31) (but : Option Nat) (hb6 : ∀ b, but = some b → b < 6) : qm_Ev G d 0 0 qyX10_leastHeap [.ref 26, .int (s_oi but)] h (fun r h' => r = some (.int (s_oi (lh hp but 6))) ∧ h = h') := by
  refine qm_Ev.by (M := mX10_leastHeap) okX10_leastHeap (Nat.le_of_ble_eq_true rfl) hG fun z hA => ?_
  refine qm_wp_ok hA [4] 40 _ _ _ _ _ _ ?_
  refine qm_for (P := fun k => qm_PW G mX10_leastHeap z 4 0 0 [vr 26, vi (s_oi but), vi (s_oi (lh hp but k)), vi (nI k), vu] [] h) (N := 6) ?_ ?_
  · exact qm_wp_ok hA [] 20 _ _ _ _ _ _ ⟨fun _ => ⟨trivial, rfl, rfl⟩, fun q => absurd (by decide) q⟩
  · intro k hk key
    rw [← nI_1] at key
    have hin : vp_in (nI k) 6 := vp_in_nI (by omega) (by decide)
    refine qm_wp_ok hA [4] 60 _ _ _ _ _ _ ⟨fun q => absurd q (nI_ge hk (by decide)), fun _ => ⟨fun (c : nI k = s_oi but) => ?_, fun (c : ¬ nI k = s_oi but) => ⟨rfl, _, rfl, rfl, hin, ?_⟩⟩⟩
    · have hbk : some k = but := by
        cases hq : but with
        | none =>
          rw [hq] at c
          exact absurd (show (-1 : Int32) < 0 by decide) (by rw [← s_oi_0, ← c]; exact nI_pos (by omega))
        | some b =>
          rw [hq] at c
          have := hb6 b hq
          rw [(nI_eq (by omega) (by omega)).mp c]
      refine ⟨fun _ => ?_, fun q => absurd rfl q⟩
      cases hq : hp k with
      | none =>
        have el : lh hp but (k + 1) = lh hp but k := by rw [lh, hq]
        rw [el] at key; exact qm_PW.mask [true, true, true, true, false] key
      | some v =>
        have el : lh hp but (k + 1) = lh hp but k := by rw [lh, hq]; exact if_pos hbk
        rw [el] at key; exact qm_PW.mask [true, true, true, true, false] key
    · have hbk : ¬ some k = but := fun e => c (by rw [← e]; rfl)
      rw [nI_clamp (by omega), hH k hk]
      cases hq : hp k with
      | none =>
        have el : lh hp but (k + 1) = lh hp but k := by rw [lh, hq]
        rw [el] at key
        exact ⟨fun _ => ⟨fun _ => qm_PW.mask [true, true, true, true, false] key, fun q => absurd rfl q⟩, fun q => absurd (by decide) q⟩
      | some v =>
        have el : lh hp but (k + 1) = (match lh hp but k with
          | none => some k
          | some b => if v < (hp b).getD 0 then some k else some b) := by rw [lh, hq]; exact if_neg hbk
        have hv := hB k v hq
        refine ⟨fun (q : nI v < 0) => absurd q (nI_pos hv), fun _ => ⟨fun q => absurd q (by decide), fun _ => ?_⟩⟩
        cases hl : lh hp but k with
        | none =>
          rw [hl] at el
          rw [show lh hp but (k + 1) = some k from el] at key
          exact ⟨fun _ => qm_PW.mask [true, true, true, true, false] key, fun q => absurd rfl q⟩
        | some b =>
          rw [hl] at el
          obtain ⟨b1, -, vb, b3, -⟩ := (lh_spec hp but k).2 b hl
          have hvb := hB b vb b3
          refine ⟨fun (q : nI b = -1) => absurd (show (-1 : Int32) < 0 by decide) (by rw [← q]; exact nI_pos (by omega)), fun _ => ⟨rfl, _, rfl, rfl, hin, rfl, _, rfl, rfl, (vp_in_nI (by omega) (by decide) : vp_in (nI b) 6), ?_⟩⟩
          have hk0 : h.1 46 (nI k).toNatClampNeg = nI v := by rw [nI_clamp (by omega), hH k hk, hq]; rfl
          have hb0 : h.1 46 (nI b).toNatClampNeg = nI vb := by rw [nI_clamp (by omega), hH b (by omega), b3]; rfl
          have el2 : lh hp but (k + 1) = if v < vb then some k else some b := by
            rw [el]
            show (if v < (hp b).getD 0 then some k else some b) = _
            rw [b3]; rfl
          refine ⟨fun (q : h.1 46 (nI b).toNatClampNeg ≤ h.1 46 (nI k).toNatClampNeg) => ?_, fun (q : ¬ h.1 46 (nI b).toNatClampNeg ≤ h.1 46 (nI k).toNatClampNeg) => ?_⟩ <;> rw [hk0, hb0] at q
          · rw [el2, if_neg (by have := (nI_leI (by omega) (by omega)).mp q; omega)] at key
            exact qm_PW.mask [true, true, true, true, false] key
          · rw [el2, if_pos (by have : ¬ vb ≤ v := fun e => q ((nI_leI (by omega) (by omega)).mpr e); omega)] at key
            exact qm_PW.mask [true, true, true, true, false] key
def s_code (w : Nat → Int32) : Int32 := nI (huff 5 (srt (List.ofFn (n := 6) fun f => (w (1 + f.1)).toNatClampNeg)))
def p_code (h : qm_H) (mt : Nat) (a : Int32) : Int32 := if inb a mt then s_code (tw h a.toNatClampNeg) else -1
theorem a_code {G : qm_G} (hG : G.2.2.2.2 = true) (d : Nat) (h : qm_H) {mt my ml : Nat} (hS : ST h mt my ml) (a : Int32) : qm_Ev G (d + 4) 0 0 qyX10_code [.ref 26, .int a] h (fun r h' => r = some (.int (p_code h mt a)) ∧ pers h h') := by
  obtain ⟨s1, s2, -, -, -, -, hT, -⟩ := hS
  refine qm_Ev.by (M := mX10_code) okX10_code (Nat.le_of_ble_eq_true rfl) hG fun z hA => ?_
  refine qm_wp_ok hA [11] 40 _ _ _ _ _ _ ?_
  refine ⟨rfl, trivial, rfl, 0, 0, _, e_handC hG (d + 1) (qm_si h 26 0 0) (mt := mt) s1 s2 a, ⟨Nat.le_refl _, Nat.le_refl _⟩, ?_⟩
  rintro _ h1 (⟨t, ht, rfl, rfl, rfl⟩ | ⟨e0, rfl, e1⟩)
  · obtain ⟨i1, i2⟩ := p_in ht s2
    have eP : p_code h mt (nI t) = s_code (tw h t) := by rw [p_code, i1, i2]; rfl
    obtain ⟨-, -, hw, -⟩ := hT t ht
    obtain ⟨w, hw0⟩ : ∃ w, w = tw h t := ⟨_, rfl⟩
    rw [← hw0] at hw eP
    obtain ⟨h0, hh0⟩ : ∃ h0, h0 = hnd (qm_si h 26 0 0) t := ⟨_, rfl⟩
    have p0 : pers h h0 := by rw [hh0]; exact pers.rf.s26.tr (hnd.ps _ t)
    have e22 : h0.1 26 22 = nI t := by rw [hh0]; rfl
    have etw : tw h0 t = w := by rw [hh0, hw0]; rfl
    rw [← hh0]
    refine ⟨fun q => ?_, fun q => absurd q (by decide)⟩
    have hv : ∀ f, f < 6 → (w (1 + f)).toNatClampNeg ≤ 20 ∧ w (1 + f) = nI (w (1 + f)).toNatClampNeg := fun f hf => by
      obtain ⟨v, v1, v2⟩ := hw f hf
      rw [v2, nI_clamp (by omega)]
      exact ⟨v1, rfl⟩
    have main : ∀ r k : Nat, k + r = 6 → 1 ≤ k → ∀ (h' : qm_H) (S : Nat) (hp : Nat → Option Nat) (l : List Nat), sb [46] h0 h' → (∀ j, j < 6 → h'.1 46 j = s_oi (hp j)) → (∀ j, 6 ≤ j → hp j = none) → srd l → List.Perm (bag hp (List.range 6)) l → l.length = r + 1 → lsum l ≤ 120 → s_code w = nI (S + huff r l) → qm_PW G mX10_code z 29 0 0 [vr 26, vu, vi (nI S), vi (nI k), vu, vu] [] h' := by
      intro r
      induction r with
      | zero =>
        intro k hk _ h' S hp l c1 _ _ _ _ c4 _ c6
        refine qm_wp_ok hA [] 20 _ _ _ _ _ _ ⟨fun _ => ⟨trivial, ?_, p0.tr (c1.mono (by decide))⟩, fun (q : ¬ nI 6 ≤ nI k) => absurd (nI_le (by omega) (by omega)) q⟩
        rw [eP, c6]
        have : huff 0 l = 0 := match l with
          | [] => rfl
          | [_] => rfl
          | _ :: _ :: _ => rfl
        rw [this]; rfl
      | succ r ih =>
        intro k hk hk1 h' S hp l c1 c2 c2' c3 c3' c4 c5 c6
        match l, c3, c3', c4, c5, c6 with
        | x :: y :: l, c3, c3', c4, c5, c6 =>
          obtain ⟨a, b, l1, l2, a6, b6, hab, ha, hb, hP⟩ := hf_step c3 c3'
          have hBd : ∀ j v, hp j = some v → v < 2 ^ 31 := fun j v q => by
            have hj : j < 6 := by
              rcases Nat.lt_or_ge j 6 with e | e
              · exact e
              · rw [c2' j e] at q; exact absurd q (by simp)
            have := lsum_mem (c3'.mem_iff.mp (bag_mem.mpr ⟨j, List.mem_range.mpr hj, q⟩))
            omega
          have el := e_leastHeap hG (d + 3) h' c2 hBd none (fun b q => absurd q (by simp))
          rw [l1] at el
          have el2 := e_leastHeap hG (d + 3) h' c2 hBd (some a) (fun b q => by have := Option.some.inj q; omega)
          rw [l2] at el2
          have ina : vp_in (nI a) 6 := vp_in_nI (by omega) (by decide)
          have inb6 : vp_in (nI b) 6 := vp_in_nI (by omega) (by decide)
          refine qm_wp_ok hA [29] 60 _ _ _ _ _ _ ⟨fun q => absurd q (nI_ge (by omega : k < 6) (by decide)), fun _ => ⟨rfl, 0, 0, _, el, ⟨Nat.le_refl _, Nat.le_refl _⟩, ?_⟩⟩
          rintro _ _ ⟨rfl, rfl⟩
          refine ⟨rfl, 0, 0, _, el2, ⟨Nat.le_refl _, Nat.le_refl _⟩, ?_⟩
          rintro _ _ ⟨rfl, rfl⟩
          refine ⟨rfl, _, rfl, rfl, ina, rfl, _, rfl, rfl, inb6, rfl, ina, rfl, _, rfl, rfl, inb6, rfl, _, rfl, rfl, ina, ?_⟩
          rw [s_oi_n, s_oi_n, nI_clamp (by omega), nI_clamp (by omega), c2 a a6, c2 b b6, ha, hb]
          have nx := ih (k + 1) (by omega) (by omega) (qm_si (qm_si h' 46 a (nI x + nI y)) 46 b (-1)) (S + (x + y)) (va_up (va_up hp a (some (x + y))) b none) (ins (x + y) l) ((c1.si (by decide)).si (by decide)) (fun j hj => by
            rw [si_row, si_row]
            by_cases q : j = b
            · rw [q, up_s, up_s]; rfl
            · rw [up_n _ _ q, up_n _ _ q]
              by_cases q2 : j = a
              · rw [q2, up_s, up_s, nI_add]; rfl
              · rw [up_n _ _ q2, up_n _ _ q2]; exact c2 j hj) (fun j hj => by
            rw [up_n _ _ (by omega), up_n _ _ (by omega)]
            exact c2' j hj) (ins_srd _ _ (List.pairwise_cons.mp (List.pairwise_cons.mp c3).2).2) (hP.trans (ins_perm _ _).symm) (by
            rw [(ins_perm _ _).length_eq]
            simp only [List.length_cons] at c4 ⊢
            omega) (by
            rw [lsum_perm (ins_perm _ _)]
            simp only [lsum] at c5 ⊢
            omega) (by
            rw [c6, huff, Nat.add_assoc S])
          have ev : (qm_si (qm_si h' 46 a (nI x + nI y)) 46 b (-1)).1 46 a = nI x + nI y := by
            rw [si_row, si_row, up_n _ _ hab, up_s]
          rw [← nI_1, ← nI_add S, ← nI_add x] at nx
          exact qm_PW.mask [true, false, true, true, false, false] (show qm_PW G mX10_code z 29 0 0 [vr 26, vu, vi (nI S + (qm_si (qm_si h' 46 a (nI x + nI y)) 46 b (-1)).1 46 a), vi (nI k + 1), vu, vu] [] (qm_si (qm_si h' 46 a (nI x + nI y)) 46 b (-1)) from by rw [ev]; exact nx)
    refine qm_for (P := fun f => ∀ h', sb [46] h0 h' → (∀ j, j < f → h'.1 46 j = w (1 + j)) → qm_PW G mX10_code z 11 0 0 [vr 26, vi (nI t), vi (nI f), vu, vu, vu] [] h') (N := 6) ?_ ?_ h0 sb.rf (fun j q => by omega)
    · intro h' c1 c2
      refine qm_wp_ok hA [29] 30 _ _ _ _ _ _ ⟨fun _ => ?_, fun q => absurd (by decide) q⟩
      have hl : List.Perm (bag (fun j => if j < 6 then some (w (1 + j)).toNatClampNeg else none) (List.range 6)) (srt (List.ofFn (n := 6) fun f => (w (1 + f.1)).toNatClampNeg)) := (List.Perm.refl _).trans (srt_perm _).symm
      refine qm_PW.mask [true, false, true, true, false, false] (main 5 1 rfl (Nat.le_refl _) h' 0 (fun j => if j < 6 then some (w (1 + j)).toNatClampNeg else none) _ c1 (fun j hj => ?_) (fun j hj => if_neg (by omega)) (srt_srd _) hl ?_ ?_ ?_)
      · rw [c2 j hj, if_pos hj]; exact (hv j hj).2
      · rw [(srt_perm _).length_eq, List.length_ofFn]
      · rw [lsum_perm (srt_perm _)]
        have z0 := (hv 0 (by decide)).1
        have z1 := (hv 1 (by decide)).1
        have z2 := (hv 2 (by decide)).1
        have z3 := (hv 3 (by decide)).1
        have z4 := (hv 4 (by decide)).1
        have z5 := (hv 5 (by decide)).1
        show (w (1 + 0)).toNatClampNeg + ((w (1 + 1)).toNatClampNeg + ((w (1 + 2)).toNatClampNeg + ((w (1 + 3)).toNatClampNeg + ((w (1 + 4)).toNatClampNeg + ((w (1 + 5)).toNatClampNeg + 0))))) ≤ 120
        omega
      · rw [s_code, Nat.zero_add]
    · intro f hf ih h' c1 c2
      have e1f : (1 : Int32) + nI f = nI (1 + f) := nI_add 1 f
      have g1 : tw h' t = w := by
        rw [← etw]; unfold tw
        rw [c1.2 32 (by decide)]
      refine qm_wp_ok hA [11] 40 _ _ _ _ _ _ ⟨fun q => absurd q (nI_ge hf (by decide)), fun _ => ⟨rfl, _, rfl, rfl, 0, 0, _, (by rw [e1f]; exact e_of hG (d + 3) h' (t := t) (j := 1 + f) (by rw [c1.2 26 (by decide), e22]) (by omega) (by omega)), ⟨Nat.le_refl _, Nat.le_refl _⟩, ?_⟩⟩
      rintro _ _ ⟨rfl, rfl⟩
      rw [g1]
      refine ⟨rfl, (vp_in_nI (by omega) (by decide) : vp_in (nI f) 6), ?_⟩
      rw [nI_clamp (by omega)]
      have nx := ih (qm_si h' 46 f (w (1 + f))) (c1.si (by decide)) (fun j hj => by
        rw [si_row]
        by_cases q : j = f
        · rw [q, up_s]
        · rw [up_n _ _ q]; exact c2 j (by omega))
      rw [← nI_1] at nx
      exact nx
  · exact ⟨fun q => absurd rfl q, fun _ => ⟨trivial, by rw [p_code, e0]; rfl, e1 ▸ pers.rf.s26⟩⟩
end
section
/-! worth, what is learnt, the best: as plain numbers -/
def wN (w : Nat → Int32) (f : Nat) : Nat := (w (1 + f)).toNatClampNeg
def VW (w : Nat → Int32) : Prop := ∀ f, f < 6 → wN w f ≤ 20 ∧ w (1 + f) = nI (wN w f)
theorem VT.w {w : Nat → Int32} {n : Nat} (h : VT w n) : VW w := fun f hf => by
  obtain ⟨v, v1, v2⟩ := h.2.2.1 f hf
  rw [wN, v2, nI_clamp (by omega)]
  exact ⟨v1, rfl⟩
def worthN (w : Nat → Int32) (set : Int32) : Nat → Nat
  | 0 => 0
  | f + 1 => worthN w set f + (if bit set (nI f) then wN w f else 0)
theorem worth_N {w : Nat → Int32} (hw : VW w) (set : Int32) : ∀ k, k ≤ 6 → s_worth w set k = nI (worthN w set k) ∧ worthN w set k ≤ 20 * k
  | 0, _ => ⟨rfl, Nat.le_refl _⟩
  | k + 1, hk => by
    obtain ⟨i1, i2⟩ := worth_N hw set k (by omega)
    obtain ⟨v1, v2⟩ := hw k (by omega)
    rw [s_worth, worthN, i1]
    split
    · rw [v2, nI_add]
      exact ⟨rfl, by omega⟩
    · exact ⟨by rw [Nat.add_zero]; exact Int32.add_zero _, by omega⟩
def learntN (w mi : Nat → Int32) (p f : Nat) : Nat → Nat
  | 0 => 0
  | o + 1 => learntN w mi p f o + (if s_hears w o p then worthN w (s_whole w f &&& (mi o ^^^ -1)) 6 else 0)
theorem learnt_N {w : Nat → Int32} (hw : VW w) (mi : Nat → Int32) (p f : Nat) : ∀ k, s_learnt w mi p f k = nI (learntN w mi p f k) ∧ learntN w mi p f k ≤ 120 * k
  | 0 => ⟨rfl, Nat.le_refl _⟩
  | k + 1 => by
    obtain ⟨i1, i2⟩ := learnt_N hw mi p f k
    obtain ⟨j1, j2⟩ := worth_N hw (s_whole w f &&& (mi k ^^^ -1)) 6 (Nat.le_refl _)
    rw [s_learnt, learntN, i1]
    split
    · rw [j1, nI_add]
      exact ⟨rfl, by omega⟩
    · exact ⟨by rw [Nat.add_zero]; exact Int32.add_zero _, by omega⟩
def bestN (w mi : Nat → Int32) (n p : Nat) : Nat → Option (Nat × Nat)
  | 0 => none
  | f + 1 => if bit (mi p) (nI f) then (match bestN w mi n p f with
    | none => some (f, learntN w mi p f n)
    | some (b, v) => if v < learntN w mi p f n then some (f, learntN w mi p f n) else some (b, v)) else bestN w mi n p f
def oi1 (o : Option (Nat × Nat)) : Int32 := match o with
  | none => -1
  | some (b, _) => nI b
def oi2 (o : Option (Nat × Nat)) : Int32 := match o with
  | none => -1
  | some (_, v) => nI v
theorem nI_m1 {v : Nat} (h : v < 2 ^ 31) : ¬ nI v ≤ -1 := fun q => nI_pos h (Int32.lt_of_le_of_lt q (by decide))
theorem m1_nI {v : Nat} (h : v < 2 ^ 31) : (-1 : Int32) ≤ nI v := Int32.le_trans (by decide : (-1 : Int32) ≤ 0) (nI_pos' h)
theorem best_N {w : Nat → Int32} (hw : VW w) (mi : Nat → Int32) {n : Nat} (hn : n ≤ 6) (p : Nat) : ∀ k, k ≤ 6 → s_best w mi n p k = (oi1 (bestN w mi n p k), oi2 (bestN w mi n p k)) ∧ ∀ b v, bestN w mi n p k = some (b, v) → b < k ∧ v ≤ 720
  | 0, _ => ⟨rfl, fun b v q => absurd q (by rw [bestN]; simp)⟩
  | k + 1, hk => by
    obtain ⟨i1, i2⟩ := best_N hw mi hn p k (by omega)
    obtain ⟨j1, j2⟩ := learnt_N hw mi p k n
    rw [s_best, i1, s_by, j1]
    by_cases hb : bit (mi p) (nI k) = true
    · rw [if_pos hb]
      cases q : bestN w mi n p k with
      | none =>
        have e : bestN w mi n p (k + 1) = some (k, learntN w mi p k n) := by rw [bestN, if_pos hb, q]
        rw [e]
        refine ⟨?_, fun b v z => ?_⟩
        · show (if nI _ ≤ -1 then -1 else nI k, mx (-1) (nI _)) = (nI k, nI _)
          rw [if_neg (nI_m1 (by omega)), mx, if_pos (m1_nI (by omega))]
        · have := Option.some.inj z
          injection this with z1 z2
          omega
      | some bv =>
        obtain ⟨b, v⟩ := bv
        obtain ⟨k1, k2⟩ := i2 b v q
        have e : bestN w mi n p (k + 1) = if v < learntN w mi p k n then some (k, learntN w mi p k n) else some (b, v) := by rw [bestN, if_pos hb, q]
        rw [e]
        by_cases c : v < learntN w mi p k n
        · rw [if_pos c]
          refine ⟨?_, fun b v z => ?_⟩
          · show (if nI (learntN w mi p k n) ≤ nI v then nI b else nI k, mx (nI v) (nI (learntN w mi p k n))) = (nI k, nI (learntN w mi p k n))
            rw [if_neg (nI_ge c (by omega)), mx, if_pos (nI_le (by omega) (by omega))]
          · have := Option.some.inj z
            injection this with z1 z2
            omega
        · rw [if_neg c]
          refine ⟨?_, fun b v z => ?_⟩
          · show (if nI (learntN w mi p k n) ≤ nI v then nI b else nI k, mx (nI v) (nI (learntN w mi p k n))) = (nI b, nI v)
            rw [if_pos (nI_le (by omega) (by omega)), mx]
            by_cases c2 : v = learntN w mi p k n
            · rw [← c2, if_pos (Int32.le_refl _)]
            · rw [if_neg (nI_ge (by omega) (by omega))]
          · have := Option.some.inj z
            injection this with z1 z2
            omega
    · rw [if_neg hb]
      have e : bestN w mi n p (k + 1) = bestN w mi n p k := by rw [bestN, if_neg hb]
      rw [e]
      refine ⟨?_, fun b v z => by have := i2 b v z; omega⟩
      cases q : bestN w mi n p k with
      | none => rfl
      | some bv =>
        obtain ⟨b, v⟩ := bv
        obtain ⟨k1, k2⟩ := i2 b v q
        show (if -1 ≤ nI v then nI b else nI k, mx (nI v) (-1)) = (nI b, nI v)
        rw [if_pos (m1_nI (by omega)), mx, if_neg (nI_m1 (by omega))]
def bgN (w mi : Nat → Int32) (n p : Nat) : Nat := match bestN w mi n p 6 with
  | none => 0
  | some (_, v) => v
theorem bg_N {w : Nat → Int32} (hw : VW w) (mi : Nat → Int32) {n : Nat} (hn : n ≤ 6) (p : Nat) : mx 0 (s_best w mi n p 6).2 = nI (bgN w mi n p) ∧ bgN w mi n p ≤ 720 := by
  obtain ⟨i1, i2⟩ := best_N hw mi hn p 6 (Nat.le_refl _)
  rw [i1, bgN]
  cases q : bestN w mi n p 6 with
  | none => exact ⟨rfl, Nat.zero_le _⟩
  | some bv =>
    obtain ⟨b, v⟩ := bv
    have := (i2 b v q).2
    exact ⟨by show mx 0 (nI v) = nI v; rw [mx, if_pos (nI_pos' (by omega))], this⟩
end
section
/-! the reference: couples -/
def cgN (w mi : Nat → Int32) (n : Nat) (sale : Bool) (a b : Nat) : Option Nat :=
  if sale then (if bgN w mi n a < bgN w mi n b then some (bgN w mi n b - bgN w mi n a) else none)
  else if a < b then some (onesN (mi a ||| mi b) 6) else none
theorem cgN_le {w mi : Nat → Int32} (hw : VW w) {n : Nat} (hn : n ≤ 6) {sale : Bool} {a b v : Nat} (h : cgN w mi n sale a b = some v) : v ≤ 720 := by
  rw [cgN] at h
  split at h
  · split at h
    · have := Option.some.inj h
      have := (bg_N hw mi hn b).2
      omega
    · exact absurd h (by simp)
  · split at h
    · have := Option.some.inj h
      have := onesN_le (mi a ||| mi b) 6
      omega
    · exact absurd h (by simp)
theorem nI_sb {a b : Nat} (h : a ≤ b) : nI b - nI a = nI (b - a) := by
  have : nI b = nI (b - a) + nI a := by rw [nI_add, Nat.sub_add_cancel h]
  rw [this, Int32.add_sub_cancel]
def cpI (o : Option Nat) : Int32 := match o with
  | none => -1000000
  | some v => nI v
theorem e_couple {G : qm_G} (hG : G.2.2.2.2 = true) (d : Nat) (h : qm_H) {t n a b : Nat} (ht : h.1 26 22 = nI t) (hk : t < 2) (hn : h.1 26 23 = nI n) (hn6 : n ≤ 6) (hw : VW (tw h t)) (ha : a < 6) (hb : b < 6) (sale : Bool) : qm_Ev G (d + 4) 0 0 qyX10_couple [.ref 26, .int (nI a), .int (nI b), .int (b2 sale)] h (fun r h' => r = some (.int (cpI (cgN (tw h t) (h.1 39) n sale a b))) ∧ h = h') := by
  obtain ⟨V, hV⟩ : ∃ V, V = cpI (cgN (tw h t) (h.1 39) n sale a b) := ⟨_, rfl⟩
  rw [← hV]
  refine qm_Ev.run (M := mX10_couple) okX10_couple rfl hG fun z => ?_
  refine b2_ne (fun hs => ?_) (fun hs => ?_)
  · obtain ⟨b1, b2'⟩ := bg_N hw (h.1 39) hn6 b
    obtain ⟨a1, a2⟩ := bg_N hw (h.1 39) hn6 a
    refine ⟨rfl, 0, 0, _, e_bestOf hG d h ht hk hn hn6 hb true, ⟨Nat.le_refl _, Nat.le_refl _⟩, ?_⟩
    rintro _ _ ⟨rfl, rfl⟩
    refine ⟨rfl, 0, 0, _, e_bestOf hG d h ht hk hn hn6 ha true, ⟨Nat.le_refl _, Nat.le_refl _⟩, ?_⟩
    rintro _ _ ⟨rfl, rfl⟩
    rw [if_pos rfl, if_pos rfl, b1, a1]
    rw [cgN, if_pos hs] at hV
    refine ⟨fun (c : nI a = nI b) => ?_, fun (c : ¬ nI a = nI b) => ⟨fun (q : nI (bgN (tw h t) (h.1 39) n b) - nI (bgN (tw h t) (h.1 39) n a) ≤ 0) => ?_, fun (q : ¬ nI (bgN (tw h t) (h.1 39) n b) - nI (bgN (tw h t) (h.1 39) n a) ≤ 0) => ?_⟩⟩
    · have e := (nI_eq (by omega) (by omega)).mp c
      rw [e, if_neg (by omega)] at hV
      exact ⟨trivial, by rw [hV]; rfl, rfl⟩
    · have hlt : ¬ bgN (tw h t) (h.1 39) n a < bgN (tw h t) (h.1 39) n b := fun e => by
        rw [nI_sb (by omega)] at q
        exact nI_nle (by omega) (by omega) q
      rw [if_neg hlt] at hV
      exact ⟨trivial, by rw [hV]; rfl, rfl⟩
    · have hlt : bgN (tw h t) (h.1 39) n a < bgN (tw h t) (h.1 39) n b := by
        rcases Nat.lt_or_ge (bgN (tw h t) (h.1 39) n a) (bgN (tw h t) (h.1 39) n b) with e | e
        · exact e
        · refine absurd ?_ q
          refine Int32.le_iff_toInt_le.mpr ?_
          have h1 : (nI (bgN (tw h t) (h.1 39) n b) - nI (bgN (tw h t) (h.1 39) n a)).toInt = (bgN (tw h t) (h.1 39) n b : Int) - (bgN (tw h t) (h.1 39) n a : Int) := by
            rw [Int32.toInt_sub, nI_toInt (by omega), nI_toInt (by omega)]
            exact Int.bmod_eq_of_le (by omega) (by omega)
          rw [h1]
          show _ ≤ (0 : Int)
          omega
      rw [if_pos hlt] at hV
      exact ⟨trivial, by rw [hV, nI_sb (by omega)]; rfl, rfl⟩
  · rw [cgN, if_neg (by rw [hs]; decide)] at hV
    refine ⟨fun (q : nI b ≤ nI a) => ?_, fun (q : ¬ nI b ≤ nI a) => ⟨rfl, _, rfl, rfl, (vp_in_nI (by omega) (by decide) : vp_in (nI a) 6), rfl, _, rfl, rfl, (vp_in_nI (by omega) (by decide) : vp_in (nI b) 6), ?_⟩⟩
    · rw [if_neg (by have := (nI_leI (by omega) (by omega)).mp q; omega)] at hV
      exact ⟨trivial, by rw [hV]; rfl, rfl⟩
    · rw [if_pos (by have : ¬ b ≤ a := fun e => q ((nI_leI (by omega) (by omega)).mpr e); omega)] at hV
      refine ⟨0, 0, _, e_ones hG (d + 2) h _, ⟨Nat.le_refl _, Nat.le_refl _⟩, ?_⟩
      rintro _ _ ⟨rfl, rfl⟩
      have e1 : ones (h.1 39 (nI a).toNatClampNeg ||| h.1 39 (nI b).toNatClampNeg) 6 = V := by
        rw [nI_clamp (by omega), nI_clamp (by omega), hV, ones_N]; rfl
      exact ⟨trivial, congrArg (fun v => some (Value.int v)) e1, rfl⟩
/-- what the b-th choice of a brings, with those had -/
def cO (g : Nat → Nat → Option Nat) (n : Nat) (L : Nat → Nat) (a had b : Nat) : Option Nat :=
  if b = 6 then some (L had) else if (decide (b < n) && (!bit (nI had) (nI a) && !bit (nI had) (nI b))) then (match g a b with
    | none => none
    | some v => some (v + L ((had ||| 2 ^ a) ||| 2 ^ b))) else none
def cM (o : Nat → Option Nat) : Nat → Nat
  | 0 => 0
  | b + 1 => max (cM o b) ((o b).getD 0)
def cB (g : Nat → Nat → Option Nat) (n : Nat) : Nat → Nat → Nat → Nat
  | 0, _, _ => 0
  | k + 1, a, had => cM (cO g n (cB g n k (a + 1)) a had) 7
theorem cM_le {o : Nat → Option Nat} {K : Nat} (h : ∀ b v, o b = some v → v ≤ K) : ∀ j, cM o j ≤ K
  | 0 => Nat.zero_le _
  | j + 1 => by
    rw [cM]
    have := cM_le h j
    cases q : o j with
    | none => simp only [Option.getD_none]; omega
    | some v => have := h j v q; simp only [Option.getD_some]; omega
theorem cM_ge {o : Nat → Option Nat} {b v : Nat} (hb : o b = some v) : ∀ j, b < j → v ≤ cM o j
  | 0, h => by omega
  | j + 1, h => by
    rw [cM]
    by_cases e : b = j
    · rw [← e, hb]; exact Nat.le_max_right _ _
    · exact Nat.le_trans (cM_ge hb j (by omega)) (Nat.le_max_left _ _)
theorem cM_at {o : Nat → Option Nat} : ∀ j, 0 < cM o j → ∃ b, b < j ∧ o b = some (cM o j)
  | 0, h => by rw [cM] at h; omega
  | j + 1, h => by
    rw [cM] at h ⊢
    by_cases c : (o j).getD 0 ≤ cM o j
    · rw [Nat.max_eq_left c] at h ⊢
      obtain ⟨b, h1, h2⟩ := cM_at j h
      exact ⟨b, by omega, h2⟩
    · have c2 : cM o j ≤ (o j).getD 0 := by omega
      rw [Nat.max_eq_right c2] at h ⊢
      refine ⟨j, by omega, ?_⟩
      cases q : o j with
      | none => rw [q] at h; exact absurd h (by simp)
      | some v => rfl
theorem cO_le {g : Nat → Nat → Option Nat} {n K : Nat} {L : Nat → Nat} {a had : Nat} (hg : ∀ a b v, g a b = some v → v ≤ 720) (hL : ∀ s, L s ≤ K) : ∀ b v, cO g n L a had b = some v → v ≤ 720 + K := by
  intro b v h
  rw [cO] at h
  split at h
  · have := Option.some.inj h
    have := hL had
    omega
  · split at h
    · cases q : g a b with
      | none => rw [q] at h; exact absurd h (by simp)
      | some x =>
        rw [q] at h
        have e : x + L ((had ||| 2 ^ a) ||| 2 ^ b) = v := Option.some.inj h
        have := hg a b x q
        have := hL ((had ||| 2 ^ a) ||| 2 ^ b)
        omega
    · exact absurd h (by simp)
theorem cB_le {g : Nat → Nat → Option Nat} {n : Nat} (hg : ∀ a b v, g a b = some v → v ≤ 720) : ∀ k a had, cB g n k a had ≤ 720 * k
  | 0, _, _ => Nat.le_refl _
  | k + 1, a, had => by
    rw [cB]
    refine Nat.le_trans (cM_le (cO_le hg (fun s => cB_le hg k (a + 1) s)) 7) (by omega)
theorem cB_at (g : Nat → Nat → Option Nat) (n k a had : Nat) : ∃ b, b < 7 ∧ cO g n (cB g n k (a + 1)) a had b = some (cB g n (k + 1) a had) := by
  rw [cB]
  rcases Nat.eq_zero_or_pos (cM (cO g n (cB g n k (a + 1)) a had) 7) with e | e
  · refine ⟨6, by omega, ?_⟩
    have h6 : cO g n (cB g n k (a + 1)) a had 6 = some (cB g n k (a + 1) had) := by rw [cO, if_pos rfl]
    have := cM_ge h6 7 (by omega)
    rw [h6, e, show cB g n k (a + 1) had = 0 by omega]
  · exact cM_at 7 e
def cC (g : Nat → Nat → Option Nat) (n k a had : Nat) : Nat := ff (fun b => decide (cO g n (cB g n k (a + 1)) a had b = some (cB g n (k + 1) a had))) 7 0
theorem cC_spec (g : Nat → Nat → Option Nat) (n k a had : Nat) : cC g n k a had < 7 ∧ cO g n (cB g n k (a + 1)) a had (cC g n k a had) = some (cB g n (k + 1) a had) ∧ ∀ b, b < cC g n k a had → ¬ cO g n (cB g n k (a + 1)) a had b = some (cB g n (k + 1) a had) := by
  obtain ⟨b, h1, h2⟩ := cB_at g n k a had
  obtain ⟨k1, k2, -, k4⟩ := ff_spec (p := fun b => decide (cO g n (cB g n k (a + 1)) a had b = some (cB g n (k + 1) a had))) 7 0 ⟨b, by omega, by omega, decide_eq_true h2⟩
  refine ⟨by rw [cC]; omega, of_decide_eq_true k1, fun j hj q => ?_⟩
  have := k4 j (by omega) hj
  exact absurd q (of_decide_eq_false this)
def cRow (g : Nat → Nat → Option Nat) (n : Nat) (sale : Bool) : Nat → Nat → Nat → (Nat → Nat) → (Nat → Nat)
  | 0, _, _, row => row
  | k + 1, a, had, row => if cC g n k a had < 6 then cRow g n sale k (a + 1) ((had ||| 2 ^ a) ||| 2 ^ cC g n k a had) (va_up (va_up row a (cC g n k a had)) (cC g n k a had) (if sale then 6 else a)) else cRow g n sale k (a + 1) had row
theorem e_coupleBy {G : qm_G} (hG : G.2.2.2.2 = true) (d : Nat) (h : qm_H) {t n a had b : Nat} (ht : h.1 26 22 = nI t) (hk : t < 2) (hn : h.1 26 23 = nI n) (hn6 : n ≤ 6) (hw : VW (tw h t)) (ha : a < n) (hh : had < 64) (hb : b < 7) (sale : Bool) (hT : ∀ s, s < 64 → h.1 45 (64 * (a + 1) + s) = nI (cB (cgN (tw h t) (h.1 39) n sale) n (n - (a + 1)) (a + 1) s)) : qm_Ev G (d + 5) 0 0 qyX10_coupleBy [.ref 26, .int (nI a), .int (nI had), .int (nI b), .int (b2 sale)] h (fun r h' => (∃ v, r = some (.int v) ∧ (∀ x, cO (cgN (tw h t) (h.1 39) n sale) n (cB (cgN (tw h t) (h.1 39) n sale) n (n - (a + 1)) (a + 1)) a had b = some x → v = nI x) ∧ (cO (cgN (tw h t) (h.1 39) n sale) n (cB (cgN (tw h t) (h.1 39) n sale) n (n - (a + 1)) (a + 1)) a had b = none → v < 0)) ∧ h = h') := by
  have hgl : ∀ a b v, cgN (tw h t) (h.1 39) n sale a b = some v → v ≤ 720 := fun a b v q => cgN_le hw hn6 q
  obtain ⟨g, hg⟩ : ∃ g, g = cgN (tw h t) (h.1 39) n sale := ⟨_, rfl⟩
  rw [← hg] at hT hgl ⊢
  have hLl := cB_le (n := n) hgl (n - (a + 1)) (a + 1)
  obtain ⟨L, hL⟩ : ∃ L, L = cB g n (n - (a + 1)) (a + 1) := ⟨_, rfl⟩
  rw [← hL] at hT hLl ⊢
  have hLl : ∀ s, L s ≤ 4320 := fun s => Nat.le_trans (hLl s) (by omega)
  have fail : cO g n L a had b = none → (∃ v, some (Value.int (-1000000)) = some (Value.int v) ∧ (∀ x, cO g n L a had b = some x → v = nI x) ∧ (cO g n L a had b = none → v < 0)) := fun e => ⟨_, rfl, fun x q => by rw [e] at q; exact absurd q (by simp), fun _ => by decide⟩
  have ei : (64 : Int32) * (nI a + 1) + nI had = nI (64 * (a + 1) + had) := by rw [show (64 : Int32) = nI 64 from rfl, nI_1, pk_mul, nI_add]
  have h26 : vp_in ((64 : Int32) * (nI a + 1) + nI had) 448 := by rw [ei]; exact vp_in_nI (by omega) (by decide)
  obtain ⟨C, hC⟩ : ∃ C : Option Nat → Prop, C = fun o => cO g n L a had b = o := ⟨_, rfl⟩
  refine qm_Ev.run (M := mX10_coupleBy) okX10_coupleBy rfl hG fun z => ?_
  refine ⟨fun (q : ¬ nI b = 6) => ?_, fun (q : nI b = 6) => ⟨rfl, _, rfl, rfl, h26, trivial, ⟨_, rfl, fun x e => ?_, fun e => ?_⟩, rfl⟩⟩
  · have b6 : b ≠ 6 := fun e => q (by rw [e]; rfl)
    refine ⟨rfl, fun (c : h.1 26 23 ≤ nI b) => ?_, fun (c : ¬ h.1 26 23 ≤ nI b) => ?_⟩
    · have : ¬ b < n := by rw [hn] at c; have := (nI_leI (by omega) (by omega)).mp c; omega
      exact ⟨fun _ => ⟨trivial, fail (by rw [cO, if_neg b6, decide_eq_false this]; rfl), rfl⟩, fun z => absurd rfl z⟩
    · have hbn : b < n := by
        rw [hn] at c
        rcases Nat.lt_or_ge b n with e | e
        · exact e
        · exact absurd (nI_le e (by omega)) c
      refine ⟨0, 0, _, e_has hG (d + 4) h (nI had) (nI a), ⟨Nat.le_refl _, Nat.le_refl _⟩, ?_⟩
      rintro _ _ ⟨rfl, rfl⟩
      refine b2_ne (fun hb1 => ⟨fun _ => ⟨trivial, fail (by rw [cO, if_neg b6, hb1, decide_eq_true hbn]; rfl), rfl⟩, fun z => absurd rfl z⟩) (fun hb1 => ?_)
      refine ⟨0, 0, _, e_has hG (d + 4) h (nI had) (nI b), ⟨Nat.le_refl _, Nat.le_refl _⟩, ?_⟩
      rintro _ _ ⟨rfl, rfl⟩
      refine b2_ne (fun hb2 => ⟨fun _ => ⟨trivial, fail (by rw [cO, if_neg b6, hb1, hb2, decide_eq_true hbn]; rfl), rfl⟩, fun z => absurd rfl z⟩) (fun hb2 => ⟨fun z => absurd z (by decide), fun _ => ?_⟩)
      refine ⟨rfl, 0, 0, _, e_couple hG d h ht hk hn hn6 hw (by omega) (by omega) sale, ⟨Nat.le_refl _, Nat.le_refl _⟩, ?_⟩
      rintro _ _ ⟨rfl, rfl⟩
      rw [← hg]
      obtain ⟨o1, o2⟩ := s_or1 hh (by omega : a < 6)
      obtain ⟨o3, o4⟩ := s_or1 o2 (by omega : b < 6)
      have ei2 : (64 : Int32) * (nI a + 1) + ((nI had ||| ((1 : Int32) <<< (nI a &&& 31))) ||| ((1 : Int32) <<< (nI b &&& 31))) = nI (64 * (a + 1) + ((had ||| 2 ^ a) ||| 2 ^ b)) := by rw [o1, o3, show (64 : Int32) = nI 64 from rfl, nI_1, pk_mul, nI_add]
      have eO : cO g n L a had b = (match g a b with
        | none => none
        | some v => some (v + L ((had ||| 2 ^ a) ||| 2 ^ b))) := by rw [cO, if_neg b6, hb1, hb2, decide_eq_true hbn]; rfl
      have eT : h.1 45 ((64 : Int32) * (nI a + 1) + ((nI had ||| ((1 : Int32) <<< (nI a &&& 31))) ||| ((1 : Int32) <<< (nI b &&& 31)))).toNatClampNeg = nI (L ((had ||| 2 ^ a) ||| 2 ^ b)) := by rw [ei2, nI_clamp (by omega), hT _ o4]
      have hl := hLl ((had ||| 2 ^ a) ||| 2 ^ b)
      refine ⟨rfl, _, rfl, rfl, (by rw [ei2]; exact vp_in_nI (by omega) (by decide) : vp_in ((64 : Int32) * (nI a + 1) + ((nI had ||| ((1 : Int32) <<< (nI a &&& 31))) ||| ((1 : Int32) <<< (nI b &&& 31)))) 448), trivial, ⟨_, rfl, fun x e => ?_, fun e => ?_⟩, rfl⟩
      · show cpI (g a b) + h.1 45 ((64 : Int32) * (nI a + 1) + ((nI had ||| ((1 : Int32) <<< (nI a &&& 31))) ||| ((1 : Int32) <<< (nI b &&& 31)))).toNatClampNeg = nI x
        rw [eT]
        cases qg : g a b with
        | none => rw [eO, qg] at e; exact absurd e (by simp)
        | some v =>
          rw [eO, qg] at e
          have e' : v + L ((had ||| 2 ^ a) ||| 2 ^ b) = x := Option.some.inj e
          rw [← e', ← nI_add]; rfl
      · show cpI (g a b) + h.1 45 ((64 : Int32) * (nI a + 1) + ((nI had ||| ((1 : Int32) <<< (nI a &&& 31))) ||| ((1 : Int32) <<< (nI b &&& 31)))).toNatClampNeg < 0
        rw [eT]
        cases qg : g a b with
        | none =>
          show (-1000000 : Int32) + nI (L ((had ||| 2 ^ a) ||| 2 ^ b)) < 0
          refine Int32.lt_iff_toInt_lt.mpr ?_
          have h1 : ((-1000000 : Int32) + nI (L ((had ||| 2 ^ a) ||| 2 ^ b))).toInt = -1000000 + (L ((had ||| 2 ^ a) ||| 2 ^ b) : Int) := by
            rw [Int32.toInt_add, nI_toInt (by omega)]
            exact Int.bmod_eq_of_le (by simp; omega) (by simp; omega)
          rw [h1]
          show _ < (0 : Int)
          omega
        | some v => rw [eO, qg] at e; exact absurd e (by simp)
  · have b6 : b = 6 := (nI_eq (by omega) (by decide)).mp (q : nI b = nI 6)
    show h.1 45 ((64 : Int32) * (nI a + 1) + nI had).toNatClampNeg = nI x
    rw [cO, if_pos b6] at e
    rw [ei, nI_clamp (by omega), hT _ hh, Option.some.inj e]
  · have b6 : b = 6 := (nI_eq (by omega) (by decide)).mp (q : nI b = nI 6)
    rw [cO, if_pos b6] at e
    exact absurd e (by simp)
end
section
/-! the reference: weddings, sales -/
theorem mx_N {a b : Nat} (ha : a < 2 ^ 31) (hb : b < 2 ^ 31) : mx (nI a) (nI b) = nI (max a b) := by
  rw [mx]
  by_cases c : a ≤ b
  · rw [if_pos (nI_le c hb), Nat.max_eq_right c]
  · rw [if_neg (nI_ge (by omega) ha), Nat.max_eq_left (by omega)]
theorem mx_neg {a : Nat} {v : Int32} (ha : a < 2 ^ 31) (hv : v < 0) : mx (nI a) v = nI a := by
  rw [mx, if_neg (fun q => nI_pos ha (Int32.lt_of_le_of_lt q hv))]
def TB (w mi : Nat → Int32) (n : Nat) (sale : Bool) (T : Nat → Int32) (a : Nat) : Prop := ∀ a', a ≤ a' → a' ≤ n → ∀ s, s < 64 → T (64 * a' + s) = nI (cB (cgN w mi n sale) n (n - a') a' s)
theorem e_findCouples {G : qm_G} (hG : G.2.2.2.2 = true) (d : Nat) (h : qm_H) {t n : Nat} (ht : h.1 26 22 = nI t) (hk : t < 2) (hn : h.1 26 23 = nI n) (hn6 : n ≤ 6) (hw : VW (tw h t)) (sale : Bool) : qm_Ev G (d + 6) 0 0 qyX10_findCouples [.ref 26, .int (b2 sale)] h (fun r h' => r = none ∧ TB (tw h t) (h.1 39) n sale (h'.1 45) 0 ∧ sb [45] h h') := by
  refine qm_Ev.by (M := mX10_findCouples) okX10_findCouples (Nat.le_of_ble_eq_true rfl) hG fun z hA => ?_
  have hgl : ∀ a b v, cgN (tw h t) (h.1 39) n sale a b = some v → v ≤ 720 := fun a b v q => cgN_le hw hn6 q
  have fr1 : ∀ h', sb [45] h h' → h'.1 26 22 = nI t ∧ h'.1 26 23 = nI n ∧ tw h' t = tw h t ∧ h'.1 39 = h.1 39 := fun h' c => ⟨by rw [c.2 26 (by decide), ht], by rw [c.2 26 (by decide), hn], by unfold tw; rw [c.2 32 (by decide)], c.2 39 (by decide)⟩
  have loop : ∀ m, m ≤ n + 1 → ∀ h', sb [45] h h' → TB (tw h t) (h.1 39) n sale (h'.1 45) m → qm_PW G mX10_findCouples z 3 0 0 [vr 26, vi (b2 sale), vi (nI m + -1), vu, vu, vu] [] h' := by
    intro m
    induction m with
    | zero =>
      intro _ h' c1 c2
      exact qm_wp_ok hA [] 20 _ _ _ _ _ _ ⟨fun _ => ⟨rfl, rfl, c2, c1⟩, fun q => absurd (by decide) q⟩
    | succ m ih =>
      intro hm h' c1 c2
      rw [pk_m1]
      have p7 : ∀ h', sb [45] h h' → TB (tw h t) (h.1 39) n sale (h'.1 45) (m + 1) → (∀ s', s' < 0 → h'.1 45 (64 * m + s') = nI (cB (cgN (tw h t) (h.1 39) n sale) n (n - m) m s')) → qm_PW G mX10_findCouples z 7 0 0 [vr 26, vi (b2 sale), vi (nI m), vi (nI 0), vu, vu] [] h' := by
        refine qm_for (P := fun s => ∀ h', sb [45] h h' → TB (tw h t) (h.1 39) n sale (h'.1 45) (m + 1) → (∀ s', s' < s → h'.1 45 (64 * m + s') = nI (cB (cgN (tw h t) (h.1 39) n sale) n (n - m) m s')) → qm_PW G mX10_findCouples z 7 0 0 [vr 26, vi (b2 sale), vi (nI m), vi (nI s), vu, vu] [] h') (N := 64) ?_ ?_
        · intro h' c1 c2 c3
          refine qm_wp_ok hA [3] 20 _ _ _ _ _ _ ⟨fun _ => ?_, fun q => absurd (by decide) q⟩
          refine qm_PW.mask [true, true, true, false, false, false] (ih (by omega) h' c1 fun a' h1 h2 s hs => ?_)
          by_cases e : a' = m
          · rw [e]; exact c3 s hs
          · exact c2 a' (by omega) h2 s hs
        · intro s hs nx h' c1 c2 c3
          obtain ⟨f1, f2, f3, f4⟩ := fr1 h' c1
          have ei : (64 : Int32) * nI m + nI s = nI (64 * m + s) := by rw [show (64 : Int32) = nI 64 from rfl, pk_mul, nI_add]
          have fin : ∀ x, x = cB (cgN (tw h t) (h.1 39) n sale) n (n - m) m s → qm_PW G mX10_findCouples z 7 0 0 [vr 26, vi (b2 sale), vi (nI m), vi (nI s + 1), vu, vu] [] (qm_si h' 45 ((64 : Int32) * nI m + nI s).toNatClampNeg (nI x)) := by
            intro x hx
            rw [nI_1, ei, nI_clamp (by omega)]
            refine nx _ (c1.si (by decide)) (fun a' h1 h2 s' hs' => ?_) (fun s' hs' => ?_)
            · rw [si_row, up_n _ _ (by omega)]; exact c2 a' h1 h2 s' hs'
            · rw [si_row]
              by_cases e : s' = s
              · rw [e, up_s, hx]
              · rw [up_n _ _ (by omega)]; exact c3 s' (by omega)
          have h26 : vp_in ((64 : Int32) * nI m + nI s) 448 := by rw [ei]; exact vp_in_nI (by omega) (by decide)
          refine qm_wp_ok hA [7, 14] 20 _ _ _ _ _ _ ⟨fun q => absurd q (nI_ge hs (by decide)), fun _ => ?_⟩
          by_cases hmn : m = n
          · subst hmn
            refine qm_wp_ok hA [7] 40 _ _ _ _ _ _ ⟨fun q => absurd q (by decide), fun _ => ⟨rfl, fun _ => ⟨rfl, _, rfl, rfl, h26, qm_PW.mask [true, true, true, true, false, false] (fin 0 (by rw [Nat.sub_self]; rfl))⟩, fun (q : ¬ h'.1 26 23 ≤ nI m) => absurd (by rw [f2]; exact Int32.le_refl _) q⟩⟩
          · have hmn : m < n := by omega
            obtain ⟨g, hg⟩ : ∃ g, g = cgN (tw h t) (h.1 39) n sale := ⟨_, rfl⟩
            have hgl' := hgl
            have cby := fun b (hb : b < 7) => e_coupleBy hG d h' (t := t) (n := n) (a := m) (had := s) (b := b) f1 hk f2 hn6 (by rw [f3]; exact hw) hmn hs hb sale (fun s' hs' => by rw [f3, f4]; exact c2 (m + 1) (Nat.le_refl _) hmn s' hs')
            rw [f3, f4, ← hg] at cby
            rw [← hg] at fin hgl'
            have col := cO_le (n := n) (a := m) (had := s) hgl' (cB_le (n := n) hgl' (n - (m + 1)) (m + 1))
            have cml := fun j => cM_le col j
            obtain ⟨o, ho⟩ : ∃ o, o = cO g n (cB g n (n - (m + 1)) (m + 1)) m s := ⟨_, rfl⟩
            rw [← ho] at cby col cml
            have ecB : cM o 7 = cB g n (n - m) m s := by
              rw [show n - m = (n - (m + 1)) + 1 by omega, cB, ho]
            refine qm_for (P := fun b => qm_PW G mX10_findCouples z 14 0 0 [vr 26, vi (b2 sale), vi (nI m), vi (nI s), vi (nI (cM o b)), vi (nI b)] [] h') (N := 7) ?_ ?_
            · exact qm_wp_ok hA [7] 40 _ _ _ _ _ _ ⟨fun _ => ⟨rfl, _, rfl, rfl, h26, qm_PW.mask [true, true, true, true, false, false] (fin _ ecB)⟩, fun q => absurd (by decide) q⟩
            · intro b hb key
              rw [← nI_1] at key
              refine qm_wp_ok hA [7, 14] 40 _ _ _ _ _ _ ⟨fun q => absurd q (nI_nlt (by omega : b ≤ 6) (by decide)), fun _ => ⟨rfl, fun (q : h'.1 26 23 ≤ nI m) => absurd q (by rw [f2]; exact nI_ge hmn (by omega)), fun _ => ⟨rfl, 0, 0, _, cby b hb, ⟨Nat.le_refl _, Nat.le_refl _⟩, ?_⟩⟩⟩
              rintro _ _ ⟨⟨v, rfl, v1, v2⟩, rfl⟩
              refine ⟨0, 0, _, e_greater hG (d + 5) h' _ _, ⟨Nat.le_refl _, Nat.le_refl _⟩, ?_⟩
              rintro _ _ ⟨rfl, rfl⟩
              have em : mx (nI (cM o b)) v = nI (cM o (b + 1)) := by
                have hb1 := cml b
                rw [cM]
                cases q : o b with
                | none => rw [mx_neg (by omega) (v2 q)]; exact congrArg nI (Nat.max_eq_left (Nat.zero_le _)).symm
                | some x =>
                  have hx := col b x q
                  rw [v1 x q, mx_N (by omega) (by omega)]; rfl
              rw [em]
              exact key
      refine qm_wp_ok hA [3, 7] 20 _ _ _ _ _ _ ⟨fun q => absurd q (nI_pos (by omega)), fun _ => ?_⟩
      exact p7 h' c1 c2 (fun s' q => by omega)
  refine qm_wp_ok hA [3] 20 _ _ _ _ _ _ ?_
  refine ⟨rfl, ?_⟩
  have := loop (n + 1) (Nat.le_refl _) h sb.rf (fun a' h1 h2 => by omega)
  rw [pk_m1, ← hn] at this
  exact this
theorem e_layCouples {G : qm_G} (hG : G.2.2.2.2 = true) (d : Nat) (h : qm_H) {t n : Nat} (ht : h.1 26 22 = nI t) (hk : t < 2) (hn : h.1 26 23 = nI n) (hn6 : n ≤ 6) (hw : VW (tw h t)) (sale : Bool) (hT : TB (tw h t) (h.1 39) n sale (h.1 45) 0) : qm_Ev G (d + 6) 0 0 qyX10_layCouples [.ref 26, .int (b2 sale)] h (fun r h' => r = none ∧ (∀ p, p < n → h'.1 44 p = nI (cRow (cgN (tw h t) (h.1 39) n sale) n sale n 0 0 (fun _ => 6) p)) ∧ sb [44] h h') := by
  refine qm_Ev.by (M := mX10_layCouples) okX10_layCouples (Nat.le_of_ble_eq_true rfl) hG fun z hA => ?_
  have hgl : ∀ a b v, cgN (tw h t) (h.1 39) n sale a b = some v → v ≤ 720 := fun a b v q => cgN_le hw hn6 q
  have fr1 : ∀ h', sb [44] h h' → h'.1 26 22 = nI t ∧ h'.1 26 23 = nI n ∧ tw h' t = tw h t ∧ h'.1 39 = h.1 39 ∧ h'.1 45 = h.1 45 := fun h' c => ⟨by rw [c.2 26 (by decide), ht], by rw [c.2 26 (by decide), hn], by unfold tw; rw [c.2 32 (by decide)], c.2 39 (by decide), c.2 45 (by decide)⟩
  have loop : ∀ k a : Nat, a + k = n → ∀ (had : Nat) (h' : qm_H) (row : Nat → Nat), had < 64 → sb [44] h h' → (∀ p, p < n → h'.1 44 p = nI (row p)) → cRow (cgN (tw h t) (h.1 39) n sale) n sale k a had row = cRow (cgN (tw h t) (h.1 39) n sale) n sale n 0 0 (fun _ => 6) → qm_PW G mX10_layCouples z 17 0 0 [vr 26, vi (b2 sale), vi (nI had), vi (nI a), vu] [] h' := by
    intro k
    induction k with
    | zero =>
      intro a ha had h' row hh c1 c2 c3
      obtain rfl : a = n := ha
      obtain ⟨f1, f2, -⟩ := fr1 h' c1
      exact qm_wp_ok hA [] 20 _ _ _ _ _ _ ⟨rfl, fun _ => ⟨rfl, rfl, fun p hp => by rw [← c3]; exact c2 p hp, c1⟩, fun (q : ¬ h'.1 26 23 ≤ nI a) => absurd (by rw [f2]; exact Int32.le_refl _) q⟩
    | succ k ih =>
      intro a ha had h' row hh c1 c2 c3
      obtain ⟨f1, f2, f3, f4, f5⟩ := fr1 h' c1
      have hTa := hT a (Nat.zero_le _) (by omega) had hh
      rw [show n - a = k + 1 by omega] at hTa
      have cby := fun b (hb : b < 7) => e_coupleBy hG d h' (t := t) (n := n) (a := a) (had := had) (b := b) f1 hk f2 hn6 (by rw [f3]; exact hw) (by omega) hh hb sale (fun s' hs' => by rw [f3, f4, f5]; exact hT (a + 1) (Nat.zero_le _) (by omega) s' hs')
      rw [f3, f4, show n - (a + 1) = k by omega] at cby
      have hgl' := hgl
      obtain ⟨g, hg⟩ : ∃ g, g = cgN (tw h t) (h.1 39) n sale := ⟨_, rfl⟩
      rw [← hg] at cby hTa c3 hgl' ih
      obtain ⟨s1, s2, s3⟩ := cC_spec g n k a had
      rw [cRow] at c3
      obtain ⟨B, hB⟩ : ∃ B, B = cC g n k a had := ⟨_, rfl⟩
      rw [← hB] at s1 s2 s3 c3
      have hcb := cB_le (n := n) hgl' (k + 1) a had
      have col := cO_le (n := n) (a := a) (had := had) hgl' (cB_le (n := n) hgl' k (a + 1))
      have ei : (64 : Int32) * nI a + nI had = nI (64 * a + had) := by rw [show (64 : Int32) = nI 64 from rfl, pk_mul, nI_add]
      have h26 : vp_in ((64 : Int32) * nI a + nI had) 448 := by rw [ei]; exact vp_in_nI (by omega) (by decide)
      have eT : h'.1 45 ((64 : Int32) * nI a + nI had).toNatClampNeg = nI (cB g n (k + 1) a had) := by rw [ei, nI_clamp (by omega), f5, hTa]
      refine qm_wp_ok hA [23] 20 _ _ _ _ _ _ ⟨rfl, fun (q : h'.1 26 23 ≤ nI a) => absurd q (by rw [f2]; exact nI_ge (by omega) (by omega)), fun _ => ?_⟩
      refine qm_for (P := fun b => qm_PW G mX10_layCouples z 23 0 0 [vr 26, vi (b2 sale), vi (nI had), vi (nI a), vi (nI b)] [] h') (N := B) ?_ ?_
      · refine qm_wp_ok hA [17] 60 _ _ _ _ _ _ ⟨rfl, 0, 0, _, cby B s1, ⟨Nat.le_refl _, Nat.le_refl _⟩, ?_⟩
        rintro _ _ ⟨⟨v, rfl, v1, v2⟩, rfl⟩
        have ev := v1 _ s2
        subst ev
        refine ⟨rfl, _, rfl, rfl, h26, ?_⟩
        rw [eT]
        refine ⟨fun _ => ⟨fun (q : nI 6 ≤ nI B) => ?_, fun (q : ¬ nI 6 ≤ nI B) => ?_⟩, fun q => absurd rfl q⟩
        · have hB6 : ¬ B < 6 := by have := (nI_leI (by omega) (by omega)).mp q; omega
          rw [if_neg hB6] at c3
          have nx := ih (a + 1) (by omega) had h' row hh c1 c2 c3
          rw [← nI_1] at nx
          exact qm_PW.mask [true, true, true, true, false] nx
        · have hB6 : B < 6 := by
            rcases Nat.lt_or_ge B 6 with e | e
            · exact e
            · exact absurd (nI_le e (by omega)) q
          have hBn : B < n := by
            rw [cO, if_neg (by omega)] at s2
            split at s2
            · rename_i c
              exact of_decide_eq_true (Bool.and_eq_true_iff.mp c).1
            · exact absurd s2 (by simp)
          rw [if_pos hB6] at c3
          obtain ⟨o1, o2⟩ := s_or1 hh (by omega : a < 6)
          obtain ⟨o3, o4⟩ := s_or1 o2 hB6
          have eh : nI had ||| ((1 : Int32) <<< (nI a &&& 31) ||| (1 : Int32) <<< (nI B &&& 31)) = nI ((had ||| 2 ^ a) ||| 2 ^ B) := by
            rw [← o3, ← o1, Int32.or_assoc]
          have nx := ih (a + 1) (by omega) ((had ||| 2 ^ a) ||| 2 ^ B) (qm_si (qm_si h' 44 a (nI B)) 44 B (nI (if sale then 6 else a))) _ o4 ((c1.si (by decide)).si (by decide)) (fun p hp => by
            rw [si_row, si_row]
            by_cases e : p = B
            · rw [e, up_s, up_s]
            · rw [up_n _ _ e, up_n _ _ e]
              by_cases e2 : p = a
              · rw [e2, up_s, up_s]
              · rw [up_n _ _ e2, up_n _ _ e2]; exact c2 p hp) c3
          rw [← nI_1, ← eh] at nx
          refine ⟨rfl, _, rfl, rfl, (vp_in_nI (by omega) (by decide) : vp_in (nI a) 6), rfl, _, rfl, ?_⟩
          rw [nI_clamp (by omega)]
          refine b2_eq (fun hs => ?_) (fun hs => ?_)
          · rw [if_pos hs] at nx
            refine ⟨rfl, (vp_in_nI (by omega) (by decide) : vp_in (nI B) 6), ?_⟩
            rw [nI_clamp (by omega)]
            exact qm_PW.mask [true, true, true, true, false] nx
          · rw [if_neg (by rw [hs]; decide)] at nx
            refine ⟨rfl, (vp_in_nI (by omega) (by decide) : vp_in (nI B) 6), ?_⟩
            rw [nI_clamp (by omega)]
            exact qm_PW.mask [true, true, true, true, false] nx
      · intro b hb key
        rw [← nI_1] at key
        refine qm_wp_ok hA [17, 23] 60 _ _ _ _ _ _ ⟨rfl, 0, 0, _, cby b (by omega), ⟨Nat.le_refl _, Nat.le_refl _⟩, ?_⟩
        rintro _ _ ⟨⟨v, rfl, v1, v2⟩, rfl⟩
        refine ⟨rfl, _, rfl, rfl, h26, ?_⟩
        rw [eT]
        refine ⟨fun (q : v = nI (cB g n (k + 1) a had)) => ?_, fun _ => key⟩
        exfalso
        cases qo : cO g n (cB g n k (a + 1)) a had b with
        | none =>
          have := v2 qo
          rw [q] at this
          exact nI_pos (by omega) this
        | some x =>
          have hx := v1 x qo
          have hxl := col b x qo
          rw [q] at hx
          have := (nI_eq (by omega) (by omega)).mp hx
          exact s3 b hb (by rw [qo, this])
  refine qm_wp_ok hA [4] 20 _ _ _ _ _ _ ?_
  refine qm_for (P := fun a => ∀ h', sb [44] h h' → (∀ p, p < a → h'.1 44 p = nI 6) → qm_PW G mX10_layCouples z 4 0 0 [vr 26, vi (b2 sale), vi 0, vi (nI a), vu] [] h') (N := n) ?_ ?_ h sb.rf (fun p q => by omega)
  · intro h' c1 c2
    obtain ⟨f1, f2, -⟩ := fr1 h' c1
    refine qm_wp_ok hA [17] 20 _ _ _ _ _ _ ⟨rfl, fun _ => ?_, fun (q : ¬ h'.1 26 23 ≤ nI n) => absurd (by rw [f2]; exact Int32.le_refl _) q⟩
    exact loop n 0 (Nat.zero_add _) 0 h' (fun _ => 6) (by decide) c1 c2 rfl
  · intro a ha nx h' c1 c2
    obtain ⟨f1, f2, -⟩ := fr1 h' c1
    refine qm_wp_ok hA [4] 20 _ _ _ _ _ _ ⟨rfl, fun (q : h'.1 26 23 ≤ nI a) => absurd q (by rw [f2]; exact nI_ge ha (by omega)), fun _ => ⟨rfl, _, rfl, rfl, (vp_in_nI (by omega) (by decide) : vp_in (nI a) 6), ?_⟩⟩
    rw [nI_clamp (by omega)]
    have := nx (qm_si h' 44 a (nI 6)) (c1.si (by decide)) (fun p hp => by
      rw [si_row]
      by_cases e : p = a
      · rw [e, up_s]
      · rw [up_n _ _ e]; exact c2 p (by omega))
    rw [← nI_1] at this
    exact this
def s_cpl (w : Nat → Int32) (n : Nat) (sale : Bool) (k : Int32) : Int32 := if k = -1 then nI (cB (cgN w (mi0 w) n sale) n n 0 0) else if inb k n then nI (cRow (cgN w (mi0 w) n sale) n sale n 0 0 (fun _ => 6) k.toNatClampNeg) else -1
def p_cpl (h : qm_H) (mt : Nat) (sale : Bool) (a k : Int32) : Int32 := if inb a mt then s_cpl (tw h a.toNatClampNeg) (nn (tw h a.toNatClampNeg)) sale k else -1
theorem in_m1 {k : Int32} {n : Nat} (hn : n ≤ 6) : decide ((-1 : Int32) ≤ k ∧ k ≤ nI n - 1) = (decide (k = -1) || inb k n) := by
  rw [inb, Bool.eq_iff_iff, Bool.or_eq_true, decide_eq_true_eq, decide_eq_true_eq, decide_eq_true_eq]
  constructor
  · rintro ⟨h1, h2⟩
    by_cases e : k = -1
    · exact Or.inl e
    · refine Or.inr ⟨?_, h2⟩
      have h3 := Int32.le_iff_toInt_le.mp h1
      refine Int32.le_iff_toInt_le.mpr ?_
      have h4 : k.toInt ≠ -1 := fun q => e (Int32.toInt_inj.mp q)
      show (0 : Int) ≤ _
      have h5 : (-1 : Int32).toInt = -1 := rfl
      omega
  · rintro (e | ⟨h1, h2⟩)
    · subst e
      refine ⟨Int32.le_refl _, ?_⟩
      have : ∀ n, n ≤ 6 → (-1 : Int32) ≤ nI n - 1 := by decide
      exact this n hn
    · exact ⟨Int32.le_trans (by decide : (-1 : Int32) ≤ 0) h1, h2⟩
theorem a_weddings {G : qm_G} (hG : G.2.2.2.2 = true) (d : Nat) (h : qm_H) {mt my ml : Nat} (hS : ST h mt my ml) (a k : Int32) : qm_Ev G (d + 7) 0 0 qyX10_weddings [.ref 26, .int a, .int k] h (fun r h' => r = some (.int (p_cpl h mt false a k)) ∧ pers h h') := by
  obtain ⟨s1, s2, -, -, -, -, hT, -⟩ := hS
  refine qm_Ev.run (M := mX10_weddings) okX10_weddings rfl hG fun z => ?_
  refine ⟨rfl, trivial, rfl, 0, 0, _, e_handC hG (d + 4) (qm_si h 26 0 0) (mt := mt) s1 s2 a, ⟨Nat.le_refl _, Nat.le_refl _⟩, ?_⟩
  rintro _ h1 (⟨t, ht, rfl, rfl, rfl⟩ | ⟨e0, rfl, e1⟩)
  · obtain ⟨i1, i2⟩ := p_in ht s2
    have hV := hT t ht
    have hw := hV.w
    obtain ⟨hn6, hn, -⟩ := hV
    have eP : p_cpl h mt false (nI t) k = s_cpl (tw h t) (nn (tw h t)) false k := by rw [p_cpl, i1, i2]; rfl
    have p0 : pers h (hnd (qm_si h 26 0 0) t) := pers.rf.s26.tr (hnd.ps _ t)
    refine ⟨fun q => absurd q (by decide), fun _ => ⟨rfl, ?_⟩⟩
    have e23 : (hnd (qm_si h 26 0 0) t).1 26 23 = nI (nn (tw h t)) := hn
    refine ⟨0, 0, _, e_in hG (d + 6) (hnd (qm_si h 26 0 0) t) k (-1) ((hnd (qm_si h 26 0 0) t).1 26 23 - 1), ⟨Nat.le_refl _, Nat.le_refl _⟩, ?_⟩
    rintro _ _ ⟨rfl, rfl⟩
    rw [e23, in_m1 hn6]
    refine b2_ne (fun hb => ?_) (fun hb => ⟨trivial, ?_, p0⟩)
    · refine ⟨rfl, 0, 0, _, e_findCouples hG d (hnd (qm_si h 26 0 0) t) (t := t) (n := nn (tw h t)) rfl (by omega) e23 hn6 hw false, ⟨Nat.le_refl _, Nat.le_refl _⟩, ?_⟩
      rintro _ h2 ⟨rfl, c1, c2⟩
      have g22 : h2.1 26 22 = nI t := by rw [c2.2 26 (by decide)]; rfl
      have g23 : h2.1 26 23 = nI (nn (tw h t)) := by rw [c2.2 26 (by decide)]; exact e23
      have gtw : tw h2 t = tw h t := by
        have : tw (hnd (qm_si h 26 0 0) t) t = tw h t := rfl
        rw [← this]; unfold tw; rw [c2.2 32 (by decide)]
      have g39 : h2.1 39 = mi0 (tw h t) := by rw [c2.2 39 (by decide)]; rfl
      refine ⟨rfl, 0, 0, _, e_layCouples hG d h2 (t := t) (n := nn (tw h t)) g22 (by omega) g23 hn6 (by rw [gtw]; exact hw) false (by rw [gtw, g39]; exact c1), ⟨Nat.le_refl _, Nat.le_refl _⟩, ?_⟩
      rintro _ h3 ⟨rfl, c3, c4⟩
      rw [gtw, g39] at c3
      have fin : pers h h3 := (p0.tr (c2.mono (by decide))).tr (c4.mono (by decide))
      refine ⟨fun (q : ¬ k = -1) => ?_, fun (q : k = -1) => ?_⟩
      · have hb2 : inb k (nn (tw h t)) = true := by
          rw [decide_eq_false q] at hb; exact hb
        obtain ⟨kk, hkk, rfl⟩ := inb_e (by omega) hb2
        refine ⟨rfl, _, rfl, rfl, (vp_in_nI (by omega) (by decide) : vp_in (nI kk) 6), trivial, congrArg (fun v => some (Value.int v)) ?_, fin⟩
        rw [eP, s_cpl, if_neg q, if_pos hb2, nI_clamp (by omega)]
        exact c3 kk hkk
      · refine ⟨rfl, _, rfl, rfl, (vp_in_nI (n := 0) (by decide) (by decide) : vp_in (nI 0) 448), trivial, congrArg (fun v => some (Value.int v)) ?_, fin⟩
        rw [eP, s_cpl, if_pos q]
        show h3.1 45 0 = _
        rw [c4.2 45 (by decide)]
        exact c1 0 (Nat.le_refl _) (Nat.zero_le _) 0 (by decide)
    · rw [eP, s_cpl, if_neg (by intro e; rw [e] at hb; exact absurd hb (by rw [decide_eq_true rfl]; simp)), if_neg (by intro e; rw [e, Bool.or_true] at hb; exact absurd hb (by decide))]
  · exact ⟨fun _ => ⟨trivial, by rw [p_cpl, e0]; rfl, e1 ▸ pers.rf.s26⟩, fun q => absurd rfl q⟩
theorem a_sales {G : qm_G} (hG : G.2.2.2.2 = true) (d : Nat) (h : qm_H) {mt my ml : Nat} (hS : ST h mt my ml) (a k : Int32) : qm_Ev G (d + 7) 0 0 qyX10_sales [.ref 26, .int a, .int k] h (fun r h' => r = some (.int (p_cpl h mt true a k)) ∧ pers h h') := by
  obtain ⟨s1, s2, -, -, -, -, hT, -⟩ := hS
  refine qm_Ev.run (M := mX10_sales) okX10_sales rfl hG fun z => ?_
  refine ⟨rfl, trivial, rfl, 0, 0, _, e_handC hG (d + 4) (qm_si h 26 0 0) (mt := mt) s1 s2 a, ⟨Nat.le_refl _, Nat.le_refl _⟩, ?_⟩
  rintro _ h1 (⟨t, ht, rfl, rfl, rfl⟩ | ⟨e0, rfl, e1⟩)
  · obtain ⟨i1, i2⟩ := p_in ht s2
    have hV := hT t ht
    have hw := hV.w
    obtain ⟨hn6, hn, -⟩ := hV
    have eP : p_cpl h mt true (nI t) k = s_cpl (tw h t) (nn (tw h t)) true k := by rw [p_cpl, i1, i2]; rfl
    have p0 : pers h (hnd (qm_si h 26 0 0) t) := pers.rf.s26.tr (hnd.ps _ t)
    refine ⟨fun q => absurd q (by decide), fun _ => ⟨rfl, ?_⟩⟩
    have e23 : (hnd (qm_si h 26 0 0) t).1 26 23 = nI (nn (tw h t)) := hn
    refine ⟨0, 0, _, e_in hG (d + 6) (hnd (qm_si h 26 0 0) t) k (-1) ((hnd (qm_si h 26 0 0) t).1 26 23 - 1), ⟨Nat.le_refl _, Nat.le_refl _⟩, ?_⟩
    rintro _ _ ⟨rfl, rfl⟩
    rw [e23, in_m1 hn6]
    refine b2_ne (fun hb => ?_) (fun hb => ⟨trivial, ?_, p0⟩)
    · refine ⟨rfl, 0, 0, _, e_findCouples hG d (hnd (qm_si h 26 0 0) t) (t := t) (n := nn (tw h t)) rfl (by omega) e23 hn6 hw true, ⟨Nat.le_refl _, Nat.le_refl _⟩, ?_⟩
      rintro _ h2 ⟨rfl, c1, c2⟩
      have g22 : h2.1 26 22 = nI t := by rw [c2.2 26 (by decide)]; rfl
      have g23 : h2.1 26 23 = nI (nn (tw h t)) := by rw [c2.2 26 (by decide)]; exact e23
      have gtw : tw h2 t = tw h t := by
        have : tw (hnd (qm_si h 26 0 0) t) t = tw h t := rfl
        rw [← this]; unfold tw; rw [c2.2 32 (by decide)]
      have g39 : h2.1 39 = mi0 (tw h t) := by rw [c2.2 39 (by decide)]; rfl
      refine ⟨rfl, 0, 0, _, e_layCouples hG d h2 (t := t) (n := nn (tw h t)) g22 (by omega) g23 hn6 (by rw [gtw]; exact hw) true (by rw [gtw, g39]; exact c1), ⟨Nat.le_refl _, Nat.le_refl _⟩, ?_⟩
      rintro _ h3 ⟨rfl, c3, c4⟩
      rw [gtw, g39] at c3
      have fin : pers h h3 := (p0.tr (c2.mono (by decide))).tr (c4.mono (by decide))
      refine ⟨fun (q : ¬ k = -1) => ?_, fun (q : k = -1) => ?_⟩
      · have hb2 : inb k (nn (tw h t)) = true := by
          rw [decide_eq_false q] at hb; exact hb
        obtain ⟨kk, hkk, rfl⟩ := inb_e (by omega) hb2
        refine ⟨rfl, _, rfl, rfl, (vp_in_nI (by omega) (by decide) : vp_in (nI kk) 6), trivial, congrArg (fun v => some (Value.int v)) ?_, fin⟩
        rw [eP, s_cpl, if_neg q, if_pos hb2, nI_clamp (by omega)]
        exact c3 kk hkk
      · refine ⟨rfl, _, rfl, rfl, (vp_in_nI (n := 0) (by decide) (by decide) : vp_in (nI 0) 448), trivial, congrArg (fun v => some (Value.int v)) ?_, fin⟩
        rw [eP, s_cpl, if_pos q]
        show h3.1 45 0 = _
        rw [c4.2 45 (by decide)]
        exact c1 0 (Nat.le_refl _) (Nat.zero_le _) 0 (by decide)
    · rw [eP, s_cpl, if_neg (by intro e; rw [e] at hb; exact absurd hb (by rw [decide_eq_true rfl]; simp)), if_neg (by intro e; rw [e, Bool.or_true] at hb; exact absurd hb (by decide))]
  · exact ⟨fun _ => ⟨trivial, by rw [p_cpl, e0]; rfl, e1 ▸ pers.rf.s26⟩, fun q => absurd rfl q⟩
end
section
/-! the reference: by turns -/
def frs (w mi : Nat → Int32) (p f o : Nat) : Int32 := if s_hears w o p then s_whole w f &&& (mi o ^^^ -1) else 0
def toldN (w mi : Nat → Int32) (p f : Nat) : Nat → Nat
  | 0 => 0
  | o + 1 => toldN w mi p f o + worthN w (frs w mi p f o) 6
def tM (w : Nat → Int32) (n : Nat) (mi : Nat → Int32) (p f : Nat) : Nat → Int32 := fun o => if o < n then mi o ||| frs w mi p f o else mi o
theorem toldN_le {w : Nat → Int32} (hw : VW w) (mi : Nat → Int32) (p f : Nat) : ∀ o, toldN w mi p f o ≤ 120 * o
  | 0 => Nat.le_refl _
  | o + 1 => by
    rw [toldN]
    have := toldN_le hw mi p f o
    have := (worth_N hw (frs w mi p f o) 6 (Nat.le_refl _)).2
    omega
theorem e_forget {G : qm_G} (hG : G.2.2.2.2 = true) (d : Nat) (h : qm_H) {t : Nat} (ht : h.1 26 22 = nI t) (hk : t < 2) : qm_Ev G (d + 1) 0 0 qyX10_forget [.ref 26] h (fun r h' => r = none ∧ (∀ j, j < 6 → h'.1 39 j = mi0 (tw h t) j) ∧ sb [39] h h') := by
  refine qm_Ev.by (M := mX10_forget) okX10_forget (Nat.le_of_ble_eq_true rfl) hG fun z hA => ?_
  refine qm_wp_ok hA [2] 20 _ _ _ _ _ _ ?_
  refine qm_for (P := fun i => ∀ h', sb [39] h h' → (∀ j, j < i → h'.1 39 j = mi0 (tw h t) j) → qm_PW G mX10_forget z 2 0 0 [vr 26, vi (nI i)] [] h') (N := 6) ?_ ?_ h sb.rf (fun j q => by omega)
  · intro h' c1 c2
    exact qm_wp_ok hA [] 20 _ _ _ _ _ _ ⟨fun _ => ⟨rfl, rfl, c2, c1⟩, fun q => absurd (by decide) q⟩
  · intro i hi nx h' c1 c2
    have e1 : (19 : Int32) + nI i = nI (19 + i) := nI_add 19 i
    have g1 : tw h' t = tw h t := by unfold tw; rw [c1.2 32 (by decide)]
    refine qm_wp_ok hA [2] 40 _ _ _ _ _ _ ⟨fun q => absurd q (nI_ge hi (by decide)), fun _ => ⟨rfl, _, rfl, rfl, 0, 0, _, (by rw [e1]; exact e_of hG d h' (t := t) (j := 19 + i) (by rw [c1.2 26 (by decide), ht]) hk (by omega)), ⟨Nat.le_refl _, Nat.le_refl _⟩, ?_⟩⟩
    rintro _ _ ⟨rfl, rfl⟩
    rw [g1]
    refine ⟨rfl, (vp_in_nI (by omega) (by decide) : vp_in (nI i) 6), ?_⟩
    rw [nI_clamp (by omega)]
    have k := nx (qm_si h' 39 i (tw h t (19 + i))) (c1.si (by decide)) (fun j hj => by
      rw [si_row]
      by_cases e : j = i
      · rw [e, up_s]; rfl
      · rw [up_n _ _ e]; exact c2 j (by omega))
    rw [← nI_1] at k
    exact k
theorem e_nowTold {G : qm_G} (hG : G.2.2.2.2 = true) (d : Nat) (h : qm_H) {t n p f : Nat} (ht : h.1 26 22 = nI t) (hk : t < 2) (hn : h.1 26 23 = nI n) (hn6 : n ≤ 6) (hw : VW (tw h t)) (hf : f < 6) (mi : Nat → Int32) (hmi : ∀ j, j < 6 → h.1 39 j = mi j) : qm_Ev G (d + 2) 0 0 qyX10_nowTold [.ref 26, .int (nI p), .int (nI f)] h (fun r h' => r = some (.int (nI (toldN (tw h t) mi p f n))) ∧ (∀ j, j < 6 → h'.1 39 j = tM (tw h t) n mi p f j) ∧ sb [39] h h') := by
  refine qm_Ev.by (M := mX10_nowTold) okX10_nowTold (Nat.le_of_ble_eq_true rfl) hG fun z hA => ?_
  refine qm_wp_ok hA [4] 20 _ _ _ _ _ _ ?_
  refine qm_for (P := fun o => ∀ h', sb [39] h h' → (∀ j, j < 6 → h'.1 39 j = tM (tw h t) o mi p f j) → qm_PW G mX10_nowTold z 4 0 0 [vr 26, vi (nI p), vi (nI f), vi (nI (toldN (tw h t) mi p f o)), vi (nI o), vu] [] h') (N := n) ?_ ?_ h sb.rf (fun j q => by rw [tM, if_neg (by omega)]; exact hmi j q)
  · intro h' c1 c2
    have e23 : h'.1 26 23 = nI n := by rw [c1.2 26 (by decide), hn]
    exact qm_wp_ok hA [] 20 _ _ _ _ _ _ ⟨rfl, fun _ => ⟨trivial, rfl, c2, c1⟩, fun (q : ¬ h'.1 26 23 ≤ nI n) => absurd (by rw [e23]; exact Int32.le_refl _) q⟩
  · intro o ho nx h' c1 c2
    have e22 : h'.1 26 22 = nI t := by rw [c1.2 26 (by decide), ht]
    have e23 : h'.1 26 23 = nI n := by rw [c1.2 26 (by decide), hn]
    have g1 : tw h' t = tw h t := by unfold tw; rw [c1.2 32 (by decide)]
    have ho6 : o < 6 := by omega
    have ein : vp_in (nI o) 6 := vp_in_nI ho6 (by decide)
    have em : h'.1 39 o = mi o := by rw [c2 o ho6, tM, if_neg (by omega)]
    obtain ⟨j1, j2⟩ := worth_N hw (frs (tw h t) mi p f o) 6 (Nat.le_refl _)
    have m25 : ∀ s, s = frs (tw h t) mi p f o → qm_PW G mX10_nowTold z 25 0 0 [vr 26, vi (nI p), vi (nI f), vi (nI (toldN (tw h t) mi p f o)), vi (nI o), vu] [.int s] h' := by
      intro s hs
      refine qm_wp_ok hA [4] 40 _ _ _ _ _ _ ⟨rfl, 0, 0, _, e_worthOf hG d h' e22 hk s, ⟨Nat.le_refl _, Nat.le_refl _⟩, ?_⟩
      rintro _ _ ⟨rfl, rfl⟩
      rw [g1]
      refine ⟨rfl, _, rfl, rfl, ein, rfl, ein, ?_⟩
      rw [nI_clamp (by omega), em, hs, j1]
      have k := nx (qm_si h' 39 o (mi o ||| frs (tw h t) mi p f o)) (c1.si (by decide)) (fun j hj => by
        rw [si_row]
        by_cases e : j = o
        · rw [e, up_s, tM, if_pos (by omega)]
        · rw [up_n _ _ e, c2 j hj, tM, tM]
          by_cases q : j < o
          · rw [if_pos q, if_pos (by omega)]
          · rw [if_neg q, if_neg (by omega)])
      rw [← nI_1, toldN, ← nI_add] at k
      exact qm_PW.mask [true, true, true, true, true, false] k
    refine qm_wp_ok hA [25] 40 _ _ _ _ _ _ ⟨rfl, fun (q : h'.1 26 23 ≤ nI o) => absurd q (by rw [e23]; exact nI_ge ho (by omega)), fun _ => ⟨rfl, 0, 0, _, e_hears hG d h' (p := p) e22 hk ho6, ⟨Nat.le_refl _, Nat.le_refl _⟩, ?_⟩⟩
    rintro _ _ ⟨rfl, rfl⟩
    rw [g1]
    refine b2_eq (fun hb => ?_) (fun hb => ?_)
    · refine ⟨rfl, 0, 0, _, e_whole hG d h' e22 hk hf, ⟨Nat.le_refl _, Nat.le_refl _⟩, ?_⟩
      rintro _ _ ⟨rfl, rfl⟩
      rw [g1]
      refine ⟨rfl, _, rfl, rfl, ein, ?_⟩
      refine m25 (s_whole (tw h t) f &&& (h'.1 39 (nI o).toNatClampNeg ^^^ -1)) ?_
      rw [nI_clamp (by omega), em, frs, if_pos hb]
    · exact m25 0 (by rw [frs, if_neg (by rw [hb]; decide)])
def iI (x : Int) : Int32 := Int32.ofInt x
theorem iI_add (x y : Int) : iI x + iI y = iI (x + y) := (Int32.ofInt_add x y).symm
theorem iI_n (n : Nat) : iI n = nI n := rfl
theorem iI_neg (x : Int) : - iI x = iI (-x) := (Int32.ofInt_neg x).symm
theorem iI_t {x : Int} (h1 : -100000 ≤ x) (h2 : x ≤ 100000) : (iI x).toInt = x := by
  rw [iI, Int32.toInt_ofInt]
  exact Int.bmod_eq_of_le (by simp; omega) (by simp; omega)
theorem iI_le {x y : Int} (h1 : -100000 ≤ x) (h2 : x ≤ 100000) (h3 : -100000 ≤ y) (h4 : y ≤ 100000) : iI x ≤ iI y ↔ x ≤ y := by
  rw [Int32.le_iff_toInt_le, iI_t h1 h2, iI_t h3 h4]
theorem iI_eq {x y : Int} (h1 : -100000 ≤ x) (h2 : x ≤ 100000) (h3 : -100000 ≤ y) (h4 : y ≤ 100000) : iI x = iI y ↔ x = y :=
  ⟨fun q => by rw [← iI_t h1 h2, ← iI_t h3 h4, q], fun q => by rw [q]⟩
def sg (t : Nat) : Int := if t % 2 = 0 then 1 else -1
def gst : Type := (Nat → Int32) × Nat × Int
def mvb (n : Nat) (mi : Nat → Int32) (had v : Nat) : Bool := decide (v / 6 < n) && (!bit (nI had) (nI (v / 6)) && bit (mi (v / 6)) (nI (v % 6)))
def stp (w : Nat → Int32) (n t : Nat) (mi : Nat → Int32) (had : Nat) (acc : Int) (v : Nat) : Option ((Nat → Int32) × Nat × Int) :=
  if v = 36 then some (mi, had, acc) else if mvb n mi had v then some (tM w n mi (v / 6) (v % 6), had ||| 2 ^ (v / 6), acc + sg t * (toldN w mi (v / 6) (v % 6) n : Int)) else none
def pth (w : Nat → Int32) (n : Nat) : Nat → Nat → Option ((Nat → Int32) × Nat × Int)
  | 0, _ => some (mi0 w, 0, 0)
  | t + 1, k => match pth w n t (k / 37) with
    | none => none
    | some (mi, had, acc) => stp w n t mi had acc (k % 37)
theorem pth_no {w : Nat → Int32} {n : Nat} : ∀ (r t number : Nat), pth w n t (number / 37 ^ r) = none → pth w n (t + r) number = none
  | 0, t, number, h => by rw [Nat.pow_zero, Nat.div_one] at h; exact h
  | r + 1, t, number, h => by
    have e : pth w n (t + 1) (number / 37 ^ r) = none := by
      rw [pth, Nat.div_div_eq_div_mul, ← Nat.pow_succ, h]
    have := pth_no r (t + 1) number e
    rw [show t + (r + 1) = t + 1 + r by omega]
    exact this
theorem stp_b {w : Nat → Int32} (hw : VW w) {n t : Nat} (hn : n ≤ 6) {mi : Nat → Int32} {had : Nat} {acc : Int} {v : Nat} {mi' : Nat → Int32} {had' : Nat} {acc' : Int} (h : stp w n t mi had acc v = some (mi', had', acc')) (h1 : had < 64) (h2 : -720 * t ≤ acc) (h3 : acc ≤ 720 * t) : had' < 64 ∧ -720 * ((t : Int) + 1) ≤ acc' ∧ acc' ≤ 720 * ((t : Int) + 1) := by
  rw [stp] at h
  split at h
  · have := Option.some.inj h
    injection this with a b
    injection b with b c
    omega
  · split at h
    · rename_i c
      have hp : v / 6 < n := of_decide_eq_true (Bool.and_eq_true_iff.mp c).1
      have := Option.some.inj h
      injection this with a b
      injection b with b c
      have h4 := toldN_le hw mi (v / 6) (v % 6) n
      refine ⟨by rw [← b]; exact Nat.or_lt_two_pow (n := 6) h1 (Nat.pow_lt_pow_right (by decide) (by omega)), ?_, ?_⟩
      all_goals
        rw [← c, sg]
        split <;> omega
    · exact absurd h (by simp)
theorem pth_b {w : Nat → Int32} (hw : VW w) {n : Nat} (hn : n ≤ 6) : ∀ (t k : Nat) (mi : Nat → Int32) (had : Nat) (acc : Int), pth w n t k = some (mi, had, acc) → had < 64 ∧ -720 * (t : Int) ≤ acc ∧ acc ≤ 720 * (t : Int)
  | 0, k, mi, had, acc, h => by
    rw [pth] at h
    have := Option.some.inj h
    injection this with a b
    injection b with b c
    omega
  | t + 1, k, mi, had, acc, h => by
    rw [pth] at h
    cases q : pth w n t (k / 37) with
    | none => rw [q] at h; exact absurd h (by simp)
    | some st =>
      obtain ⟨mi1, had1, acc1⟩ := st
      rw [q] at h
      obtain ⟨b1, b2, b3⟩ := pth_b hw hn t _ mi1 had1 acc1 q
      have := stp_b hw hn h b1 b2 b3
      omega
def oE (o : Option ((Nat → Int32) × Nat × Int)) : Int32 := match o with
  | none => -9999
  | some (_, _, acc) => iI acc
theorem e_endOf {G : qm_G} (hG : G.2.2.2.2 = true) (d : Nat) (h : qm_H) {t n N number : Nat} (ht : h.1 26 22 = nI t) (hk : t < 2) (hn : h.1 26 23 = nI n) (hn6 : n ≤ 6) (hw : VW (tw h t)) (hN : N ≤ 3) (hnum : number < 37 ^ N) : qm_Ev G (d + 3) 0 0 qyX10_endOf [.ref 26, .int (nI N), .int (nI number)] h (fun r h' => r = some (.int (oE (pth (tw h t) n N number))) ∧ sb [39] h h') := by
  obtain ⟨E, hE⟩ : ∃ E, E = oE (pth (tw h t) n N number) := ⟨_, rfl⟩
  rw [← hE]
  have hpow : ∀ r, r ≤ 3 → 0 < 37 ^ r ∧ 37 ^ r ≤ 50653 := by decide
  have hnum2 : number < 50653 := Nat.lt_of_lt_of_le hnum (hpow N hN).2
  refine qm_Ev.by (M := mX10_endOf) okX10_endOf (Nat.le_of_ble_eq_true rfl) hG fun z hA => ?_
  have loop : ∀ r s : Nat, s + r = N → ∀ (h' : qm_H) (mi : Nat → Int32) (had : Nat) (acc : Int), pth (tw h t) n s (number / 37 ^ r) = some (mi, had, acc) → (∀ j, j < 6 → h'.1 39 j = mi j) → sb [39] h h' → qm_PW G mX10_endOf z 11 0 0 [vr 26, vi (nI N), vi (nI number), vi (nI had), vi (iI acc), vi (nI (37 ^ r)), vi (nI s), vu, vu, vu] [] h' := by
    intro r
    induction r with
    | zero =>
      intro s hs h' mi had acc c1 c2 c3
      obtain rfl : s = N := hs
      rw [Nat.pow_zero, Nat.div_one] at c1
      exact qm_wp_ok hA [] 20 _ _ _ _ _ _ ⟨fun _ => ⟨trivial, by rw [hE, c1]; rfl, c3⟩, fun (q : ¬ nI s ≤ nI s) => absurd (Int32.le_refl _) q⟩
    | succ r ih =>
      intro s hs h' mi had acc c1 c2 c3
      obtain ⟨b1, b2, b3⟩ := pth_b hw hn6 s _ _ _ _ c1
      have e22 : h'.1 26 22 = nI t := by rw [c3.2 26 (by decide), ht]
      have e23 : h'.1 26 23 = nI n := by rw [c3.2 26 (by decide), hn]
      have g1 : tw h' t = tw h t := by unfold tw; rw [c3.2 32 (by decide)]
      obtain ⟨p1, p2⟩ := hpow r (by omega)
      obtain ⟨p3, p4⟩ := hpow (r + 1) (by omega)
      have ed : nI (37 ^ (r + 1)) / 37 = nI (37 ^ r) := by
        rw [show (37 : Int32) = nI 37 from rfl, pk_div (by omega) (by decide) (by decide), Nat.pow_succ, Nat.mul_div_cancel _ (by decide)]
      obtain ⟨K, hK⟩ : ∃ K, K = number / 37 ^ r := ⟨_, rfl⟩
      have hKl : K ≤ number := by rw [hK]; exact Nat.div_le_self _ _
      have ev : nI number / nI (37 ^ r) = nI K := by rw [pk_div (by omega) p1 (by omega), hK]
      have er : nI K - nI K / 37 * 37 = nI (K % 37) := by rw [show (37 : Int32) = nI 37 from rfl, pk_rem (by omega) (by decide) (by decide)]
      obtain ⟨v, hv⟩ : ∃ v, v = K % 37 := ⟨_, rfl⟩
      have hv37 : v < 37 := by omega
      have e6 : nI v / 6 = nI (v / 6) := by rw [show (6 : Int32) = nI 6 from rfl, pk_div (by omega) (by decide) (by decide)]
      have e6r : nI v - nI v / 6 * 6 = nI (v % 6) := by rw [show (6 : Int32) = nI 6 from rfl, pk_rem (by omega) (by decide) (by decide)]
      have epth : pth (tw h t) n (s + 1) K = stp (tw h t) n s mi had acc v := by
        rw [pth, hK, Nat.div_div_eq_div_mul, ← Nat.pow_succ, c1, hv, hK]
      have hbad : stp (tw h t) n s mi had acc v = none → (-9999 : Int32) = E := fun q => by
        rw [q, hK] at epth
        have := pth_no r (s + 1) number epth
        rw [show s + 1 + r = N by omega] at this
        rw [hE, this]; rfl
      have nx : ∀ h2 mi2 had2 acc2, stp (tw h t) n s mi had acc v = some (mi2, had2, acc2) → (∀ j, j < 6 → h2.1 39 j = mi2 j) → sb [39] h h2 → qm_PW G mX10_endOf z 11 0 0 [vr 26, vi (nI N), vi (nI number), vi (nI had2), vi (iI acc2), vi (nI (37 ^ r)), vi (nI s + 1), vu, vu, vu] [] h2 := fun h2 mi2 had2 acc2 q1 q2 q3 => by
        rw [nI_1]
        exact ih (s + 1) (by omega) h2 mi2 had2 acc2 (by rw [← hK, epth, q1]) q2 q3
      have n37 : ¬ (37 : Int32) = 0 := by decide
      have n6 : ¬ (6 : Int32) = 0 := by decide
      have nw : ¬ nI (37 ^ r) = 0 := fun q => by have := (nI_eq (b := 0) (by omega) (by decide)).mp q; omega
      refine qm_wp_ok hA [11] 80 _ _ _ _ _ _ ⟨fun (q : nI N ≤ nI s) => absurd q (nI_ge (by omega) (by omega)), fun _ => ⟨n37, (by rw [ed]; exact nw), n37, n6, ?_⟩⟩
      rw [ed, ev, er, ← hv]
      refine ⟨fun (q : nI 36 ≤ nI v) => ?_, fun (q : ¬ nI 36 ≤ nI v) => ?_⟩
      · have hv36 : v = 36 := by have := (nI_leI (by omega) (by omega)).mp q; omega
        exact qm_PW.mask [true, true, true, true, true, true, true, false, false, false] (nx h' mi had acc (by rw [stp, if_pos hv36]) c2 c3)
      · have hv36 : ¬ v = 36 := fun e => q (by rw [e]; exact Int32.le_refl _)
        refine ⟨rfl, ?_⟩
        rw [e6]
        refine ⟨fun (q : h'.1 26 23 ≤ nI (v / 6)) => ⟨trivial, by rw [hbad (by
          rw [e23] at q
          have := (nI_leI (by omega) (by omega)).mp q
          rw [stp, if_neg hv36, mvb, decide_eq_false (by omega)]; rfl)], c3⟩, fun (q : ¬ h'.1 26 23 ≤ nI (v / 6)) => ?_⟩
        have hvn : v / 6 < n := by
          rw [e23] at q
          rcases Nat.lt_or_ge (v / 6) n with e | e
          · exact e
          · exact absurd (nI_le e (by omega)) q
        refine ⟨0, 0, _, e_has hG (d + 2) h' (nI had) (nI (v / 6)), ⟨Nat.le_refl _, Nat.le_refl _⟩, ?_⟩
        rintro _ _ ⟨rfl, rfl⟩
        refine b2_ne (fun hb => ⟨trivial, by rw [hbad (by rw [stp, if_neg hv36, mvb, hb, decide_eq_true hvn]; rfl)], c3⟩) (fun hb => ?_)
        refine ⟨rfl, _, rfl, rfl, (vp_in_nI (by omega) (by decide) : vp_in (nI (v / 6)) 6), n6, ?_⟩
        rw [← e6, e6r, e6, nI_clamp (by omega), c2 (v / 6) (by omega)]
        refine ⟨0, 0, _, e_has hG (d + 2) h' (mi (v / 6)) (nI (v % 6)), ⟨Nat.le_refl _, Nat.le_refl _⟩, ?_⟩
        rintro _ _ ⟨rfl, rfl⟩
        refine b2_ne (fun hb2 => ?_) (fun hb2 => ⟨trivial, by rw [hbad (by rw [stp, if_neg hv36, mvb, hb, hb2, decide_eq_true hvn]; rfl)], c3⟩)
        have hmv : mvb n mi had v = true := by rw [mvb, hb, hb2, decide_eq_true hvn]; rfl
        refine ⟨n6, rfl, ?_⟩
        rw [← e6, e6r, e6]
        refine ⟨0, 0, _, e_nowTold hG d h' (p := v / 6) (f := v % 6) e22 hk e23 hn6 (by rw [g1]; exact hw) (by omega) mi c2, ⟨Nat.le_refl _, Nat.le_refl _⟩, ?_⟩
        rintro _ h2 ⟨rfl, d1, d2⟩
        rw [g1] at d1 ⊢
        obtain ⟨o1, o2⟩ := s_or1 b1 (by omega : v / 6 < 6)
        have e2r : nI s - nI s / 2 * 2 = nI (s % 2) := by rw [show (2 : Int32) = nI 2 from rfl, pk_rem (by omega) (by decide) (by decide)]
        refine ⟨(by decide : ¬ (2 : Int32) = 0), ?_⟩
        rw [e2r]
        have k := nx h2 (tM (tw h t) n mi (v / 6) (v % 6)) (had ||| 2 ^ (v / 6)) (acc + sg s * (toldN (tw h t) mi (v / 6) (v % 6) n : Int)) (by rw [stp, if_neg hv36, if_pos hmv]) d1 (c3.tr d2)
        rw [← o1, ← iI_add] at k
        refine ⟨fun (q : ¬ nI (s % 2) = 0) => ?_, fun (q : nI (s % 2) = 0) => ?_⟩
        · rw [sg, if_neg (fun e => q (by rw [e]; rfl)), Int.neg_one_mul, ← iI_neg] at k
          exact qm_PW.mask [true, true, true, true, true, true, true, false, false, false] k
        · rw [sg, if_pos ((nI_eq (b := 0) (by omega) (by decide)).mp q), Int.one_mul] at k
          exact qm_PW.mask [true, true, true, true, true, true, true, false, false, false] k
  refine qm_wp_ok hA [11] 20 _ _ _ _ _ _ ?_
  refine ⟨rfl, 0, 0, _, e_forget hG (d + 1) h ht hk, ⟨Nat.le_refl _, Nat.le_refl _⟩, ?_⟩
  rintro _ h1 ⟨rfl, c1, c2⟩
  refine ⟨0, 0, _, e_allEnds hG (d + 2) h1 hN, ⟨Nat.le_refl _, Nat.le_refl _⟩, ?_⟩
  rintro _ _ ⟨rfl, rfl⟩
  exact loop N 0 (Nat.zero_add _) h1 (mi0 (tw h t)) 0 0 rfl c1 c2
end
section
/-! the reference: by turns, folded -/
def am (q : Nat → Option Int) : Nat → Option (Nat × Int)
  | 0 => none
  | j + 1 => match q j with
    | none => am q j
    | some x => match am q j with
      | none => some (j, x)
      | some (b, v) => if v < x then some (j, x) else some (b, v)
theorem am_b {q : Nat → Option Int} {B : Int} (h : ∀ j x, q j = some x → -B ≤ x ∧ x ≤ B) : ∀ k b v, am q k = some (b, v) → b < k ∧ -B ≤ v ∧ v ≤ B
  | 0, b, v, e => by rw [am] at e; exact absurd e (by simp)
  | k + 1, b, v, e => by
    rw [am] at e
    cases q1 : q k with
    | none =>
      rw [q1] at e
      have := am_b h k b v e
      omega
    | some x =>
      rw [q1] at e
      have hx := h k x q1
      cases q2 : am q k with
      | none =>
        rw [q2] at e
        have := Option.some.inj e
        injection this with a b
        omega
      | some bv =>
        obtain ⟨b0, v0⟩ := bv
        have h0 := am_b h k b0 v0 q2
        rw [q2] at e
        by_cases c : v0 < x
        · have e2 : some (k, x) = some (b, v) := (if_pos c).symm.trans e
          have := Option.some.inj e2
          injection this with a b
          omega
        · have e2 : some (b0, v0) = some (b, v) := (if_neg c).symm.trans e
          have := Option.some.inj e2
          injection this with a b
          omega
theorem am_no {q : Nat → Option Int} : ∀ k, (∀ j, j < k → q j = none) → am q k = none
  | 0, _ => rfl
  | k + 1, h => by rw [am, h k (by omega)]; exact am_no k (fun j hj => h j (by omega))
theorem am_some {q : Nat → Option Int} {k : Nat} {x : Int} (h : q k = some x) : ∃ b v, am q (k + 1) = some (b, v) := by
  rw [am, h]
  cases q2 : am q k with
  | none => exact ⟨_, _, rfl⟩
  | some bv =>
    obtain ⟨b0, v0⟩ := bv
    by_cases c : v0 < x
    · exact ⟨_, _, if_pos c⟩
    · exact ⟨_, _, if_neg c⟩
def qv (L : (Nat → Int32) → Nat → Int) (w : Nat → Int32) (n : Nat) (mi : Nat → Int32) (had j : Nat) : Option Int :=
  if j = 36 then some (- L mi had) else if mvb n mi had j then some ((toldN w mi (j / 6) (j % 6) n : Int) - L (tM w n mi (j / 6) (j % 6)) (had ||| 2 ^ (j / 6))) else none
def tv (w : Nat → Int32) (n : Nat) : Nat → (Nat → Int32) → Nat → Int
  | 0, _, _ => 0
  | r + 1, mi, had => match am (qv (tv w n r) w n mi had) 37 with
    | none => 0
    | some (_, v) => v
theorem qv_b {w : Nat → Int32} (hw : VW w) {n : Nat} (hn : n ≤ 6) {L : (Nat → Int32) → Nat → Int} {B : Int} (hL : ∀ mi had, -B ≤ L mi had ∧ L mi had ≤ B) (mi : Nat → Int32) (had : Nat) : ∀ j x, qv L w n mi had j = some x → -(B + 720) ≤ x ∧ x ≤ B + 720 := by
  intro j x e
  rw [qv] at e
  split at e
  · have := Option.some.inj e
    have := hL mi had
    omega
  · split at e
    · have := Option.some.inj e
      have := hL (tM w n mi (j / 6) (j % 6)) (had ||| 2 ^ (j / 6))
      have := toldN_le hw mi (j / 6) (j % 6) n
      omega
    · exact absurd e (by simp)
theorem tv_b {w : Nat → Int32} (hw : VW w) {n : Nat} (hn : n ≤ 6) : ∀ (r : Nat) (mi : Nat → Int32) (had : Nat), -(720 * (r : Int)) ≤ tv w n r mi had ∧ tv w n r mi had ≤ 720 * (r : Int)
  | 0, mi, had => by rw [tv]; omega
  | r + 1, mi, had => by
    have qb := qv_b hw hn (tv_b hw hn r) mi had
    rw [tv]
    cases q : am (qv (tv w n r) w n mi had) 37 with
    | none => exact ⟨by show _ ≤ (0 : Int); omega, by show (0 : Int) ≤ _; omega⟩
    | some bv =>
      obtain ⟨b, v⟩ := bv
      have := am_b qb 37 b v q
      exact ⟨by show _ ≤ v; omega, by show v ≤ _; omega⟩
def fd1 (by' : Int32) (k : Nat) (most : Bool) (p : Int32 × Int32) : Int32 × Int32 :=
  if by' = -9999 then p else if p.1 = -9999 then (by', nI k) else if most then (if by' ≤ p.1 then p else (by', nI k)) else (if p.1 ≤ by' then p else (by', nI k))
def fd (T : Nat → Int32) (fr : Nat) (most : Bool) : Nat → Int32 × Int32
  | 0 => (-9999, -1)
  | k + 1 => fd1 (T (fr + k)) k most (fd T fr most k)
theorem iI_w {x : Int} (h1 : -9000 ≤ x) (h2 : x ≤ 9000) : ¬ iI x = -9999 := fun q => by
  have : iI x = iI (-9999) := q
  have := (iI_eq (by omega) (by omega) (by omega) (by omega)).mp this
  omega
theorem fd_am {T : Nat → Int32} {fr : Nat} {most : Bool} {q : Nat → Option Int} {acc s : Int} (hs : s = if most then 1 else -1) (hb : ∀ j x, q j = some x → -9000 ≤ acc + s * x ∧ acc + s * x ≤ 9000) : ∀ k, (∀ j, j < k → T (fr + j) = match q j with
    | none => (-9999 : Int32)
    | some x => iI (acc + s * x)) → fd T fr most k = match am q k with
    | none => ((-9999 : Int32), (-1 : Int32))
    | some (b, v) => (iI (acc + s * v), nI b)
  | 0, _ => rfl
  | k + 1, h => by
    have ih := fd_am hs hb k (fun j hj => h j (by omega))
    rw [fd, ih, h k (by omega), am]
    have hv : ∀ b v, am q k = some (b, v) → -9000 ≤ acc + s * v ∧ acc + s * v ≤ 9000 := by
      have key : ∀ k b v, am q k = some (b, v) → ∃ j, q j = some v := by
        intro k
        induction k with
        | zero => intro b v e; rw [am] at e; exact absurd e (by simp)
        | succ k ih2 =>
          intro b v e
          rw [am] at e
          cases q1 : q k with
          | none => rw [q1] at e; exact ih2 b v e
          | some x =>
            rw [q1] at e
            cases q2 : am q k with
            | none =>
              rw [q2] at e
              have := Option.some.inj e
              injection this with a b
              exact ⟨k, by rw [q1, b]⟩
            | some bv =>
              obtain ⟨b0, v0⟩ := bv
              rw [q2] at e
              by_cases c : v0 < x
              · have e2 : some (k, x) = some (b, v) := (if_pos c).symm.trans e
                have := Option.some.inj e2
                injection this with a b
                exact ⟨k, by rw [q1, b]⟩
              · have e2 : some (b0, v0) = some (b, v) := (if_neg c).symm.trans e
                have := Option.some.inj e2
                injection this with a b
                rw [← b]
                exact ih2 b0 v0 q2
      intro b v e
      obtain ⟨j, hj⟩ := key k b v e
      exact hb j v hj
    cases q1 : q k with
    | none => exact if_pos rfl
    | some x =>
      obtain ⟨x1, x2⟩ := hb k x q1
      have nx := iI_w x1 x2
      cases q2 : am q k with
      | none =>
        show fd1 (iI (acc + s * x)) k most (-9999, -1) = (iI (acc + s * x), nI k)
        rw [fd1, if_neg nx, if_pos rfl]
      | some bv =>
        obtain ⟨b, v⟩ := bv
        obtain ⟨v1, v2⟩ := hv b v q2
        show fd1 (iI (acc + s * x)) k most (iI (acc + s * v), nI b) = match (if v < x then some (k, x) else some (b, v)) with
          | none => ((-9999 : Int32), (-1 : Int32))
          | some (b, v) => (iI (acc + s * v), nI b)
        rw [fd1, if_neg nx, if_neg (iI_w v1 v2)]
        cases most with
        | true =>
          rw [if_pos rfl] at hs ⊢
          subst hs
          rw [Int.one_mul] at x1 x2 v1 v2
          by_cases c : v < x
          · rw [if_pos c, if_neg (fun z => by have := (iI_le (by omega) (by omega) (by omega) (by omega)).mp z; omega)]
          · rw [if_neg c, if_pos ((iI_le (by omega) (by omega) (by omega) (by omega)).mpr (by omega))]
        | false =>
          rw [if_neg (by decide)] at hs ⊢
          subst hs
          by_cases c : v < x
          · rw [if_pos c, if_neg (fun z => by have := (iI_le (by omega) (by omega) (by omega) (by omega)).mp z; omega)]
          · rw [if_neg c, if_pos ((iI_le (by omega) (by omega) (by omega) (by omega)).mpr (by omega))]
def fo (h h' : qm_H) : Prop := h'.2 = h.2 ∧ (∀ q, q ≠ 26 → h'.1 q = h.1 q) ∧ ∀ k, k ≠ 40 → h'.1 26 k = h.1 26 k
theorem fo.s {h h1 : qm_H} (a : fo h h1) {v : Int32} : fo h (qm_si h1 26 40 v) := by
  refine ⟨a.1, fun q hq => ?_, fun k hk => ?_⟩
  · rw [si_ne _ _ _ hq]; exact a.2.1 q hq
  · rw [si_row, up_n _ _ hk]; exact a.2.2 k hk
theorem e_fold {G : qm_G} (hG : G.2.2.2.2 = true) (d : Nat) (h : qm_H) {fr : Nat} (hfr : fr + 37 ≤ 50653) (most : Bool) : qm_Ev G d 0 0 qyX10_fold [.ref 26, .int (nI fr), .int (b2 most)] h (fun r h' => r = some (.int (fd (h.1 47) fr most 37).1) ∧ h'.1 26 40 = (fd (h.1 47) fr most 37).2 ∧ fo h h') := by
  refine qm_Ev.by (M := mX10_fold) okX10_fold (Nat.le_of_ble_eq_true rfl) hG fun z hA => ?_
  refine qm_wp_ok hA [7] 20 _ _ _ _ _ _ ?_
  refine ⟨rfl, trivial, ?_⟩
  refine qm_for (P := fun k => ∀ h', fo h h' → h'.1 26 40 = (fd (h.1 47) fr most k).2 → qm_PW G mX10_fold z 7 0 0 [vr 26, vi (nI fr), vi (b2 most), vi (fd (h.1 47) fr most k).1, vi (nI k), vu] [] h') (N := 37) ?_ ?_ (qm_si h 26 40 (-1)) (fo.s ⟨rfl, fun _ _ => rfl, fun _ _ => rfl⟩) (by rw [si_row, up_s]; rfl)
  · intro h' c1 c2
    exact qm_wp_ok hA [] 20 _ _ _ _ _ _ ⟨fun _ => ⟨trivial, rfl, c2, c1⟩, fun q => absurd (by decide) q⟩
  · intro k hk nx h' c1 c2
    rw [fd] at nx
    have e47 : h'.1 47 = h.1 47 := c1.2.1 47 (by decide)
    have ei : nI fr + nI k = nI (fr + k) := nI_add fr k
    have hin : vp_in (nI fr + nI k) 50653 := by rw [ei]; exact vp_in_nI (by omega) (by decide)
    obtain ⟨B, hB⟩ : ∃ B, B = h.1 47 (fr + k) := ⟨_, rfl⟩
    have eB : h'.1 47 (nI fr + nI k).toNatClampNeg = B := by rw [ei, nI_clamp (by omega), e47, hB]
    obtain ⟨p, hp⟩ : ∃ p, p = fd (h.1 47) fr most k := ⟨_, rfl⟩
    rw [← hB, ← hp, ← nI_1] at nx
    rw [← hp] at c2 ⊢
    have skip : fd1 B k most p = p → qm_PW G mX10_fold z 7 0 0 [vr 26, vi (nI fr), vi (b2 most), vi p.1, vi (nI k + 1), vu] [] h' := fun e => by
      have := nx h' c1 (by rw [e]; exact c2)
      rw [e] at this
      exact this
    have take : fd1 B k most p = (B, nI k) → qm_PW G mX10_fold z 7 0 0 [vr 26, vi (nI fr), vi (b2 most), vi B, vi (nI k + 1), vu] [] (qm_si h' 26 40 (nI k)) := fun e => by
      have := nx (qm_si h' 26 40 (nI k)) c1.s (by rw [e, si_row, up_s])
      rw [e] at this
      exact this
    refine qm_wp_ok hA [7] 40 _ _ _ _ _ _ ⟨fun q => absurd q (nI_ge hk (by decide)), fun _ => ⟨rfl, _, rfl, rfl, hin, ?_⟩⟩
    rw [eB]
    refine ⟨fun (q : B = -9999) => qm_PW.mask [true, true, true, true, true, false] (skip (by rw [fd1, if_pos q])), fun (q : ¬ B = -9999) => ⟨fun (c : p.1 = -9999) => ⟨rfl, trivial, qm_PW.mask [true, true, true, true, true, false] (take (by rw [fd1, if_neg q, if_pos c]))⟩, fun (c : ¬ p.1 = -9999) => ?_⟩⟩
    refine b2_eq (fun hm => ⟨fun (z : B ≤ p.1) => qm_PW.mask [true, true, true, true, true, false] (skip (by rw [fd1, if_neg q, if_neg c, if_pos hm, if_pos z])), fun (z : ¬ B ≤ p.1) => ⟨rfl, trivial, qm_PW.mask [true, true, true, true, true, false] (take (by rw [fd1, if_neg q, if_neg c, if_pos hm, if_neg z]))⟩⟩) (fun hm => ⟨fun (z : p.1 ≤ B) => qm_PW.mask [true, true, true, true, true, false] (skip (by rw [fd1, if_neg q, if_neg c, if_neg (by rw [hm]; decide), if_pos z])), fun (z : ¬ p.1 ≤ B) => ⟨rfl, trivial, qm_PW.mask [true, true, true, true, true, false] (take (by rw [fd1, if_neg q, if_neg c, if_neg (by rw [hm]; decide), if_neg z]))⟩⟩)
/-- the value of a path of t turns, the rest played best -/
def lv (w : Nat → Int32) (n N t k : Nat) : Int32 := match pth w n t k with
  | none => -9999
  | some (mi, had, acc) => iI (acc + sg t * tv w n (N - t) mi had)
def wh (w : Nat → Int32) (n N : Nat) : Int32 := if N = 0 then -1 else match am (qv (tv w n (N - 1)) w n (mi0 w) 0) 37 with
  | none => -1
  | some (b, _) => nI b
theorem sg_s (t : Nat) : sg (t + 1) = - sg t := by
  rw [sg, sg]
  split <;> split <;> omega
theorem lv_fold {w : Nat → Int32} (hw : VW w) {n N t k : Nat} (hn : n ≤ 6) (ht : t < N) (hN : N ≤ 3) {T : Nat → Int32} (hT : ∀ j, j < 37 → T (37 * k + j) = lv w n N (t + 1) (37 * k + j)) : (fd T (37 * k) (decide (t % 2 = 0)) 37).1 = lv w n N t k ∧ (t = 0 → (fd T (37 * k) (decide (t % 2 = 0)) 37).2 = wh w n N) := by
  have hch : ∀ j, j < 37 → pth w n (t + 1) (37 * k + j) = match pth w n t k with
      | none => none
      | some (mi, had, acc) => stp w n t mi had acc j := fun j hj => by
    rw [pth, show (37 * k + j) / 37 = k by omega, show (37 * k + j) % 37 = j by omega]
    cases pth w n t k with
    | none => rfl
    | some st => rfl
  cases q : pth w n t k with
  | none =>
    have h0 := fd_am (T := T) (fr := 37 * k) (most := decide (t % 2 = 0)) (q := fun _ => none) (acc := 0) (s := if decide (t % 2 = 0) then 1 else -1) rfl (fun j x e => absurd e (by simp)) 37 (fun j hj => by
      rw [hT j hj, lv, hch j hj, q])
    rw [am_no 37 (fun _ _ => rfl)] at h0
    rw [h0]
    refine ⟨by rw [lv, q], fun e => ?_⟩
    subst e
    rw [pth] at q
    exact absurd q (by simp)
  | some st =>
    obtain ⟨mi, had, acc⟩ := st
    obtain ⟨b1, b2, b3⟩ := pth_b hw hn t k mi had acc q
    have hs : sg t = if decide (t % 2 = 0) = true then 1 else -1 := by
      rw [sg]
      by_cases c : t % 2 = 0
      · rw [if_pos c, if_pos (decide_eq_true c)]
      · rw [if_neg c, if_neg (by rw [decide_eq_false c]; decide)]
    have qb := qv_b hw hn (tv_b hw hn (N - (t + 1))) mi had
    have hq : ∀ j x, qv (tv w n (N - (t + 1))) w n mi had j = some x → -9000 ≤ acc + sg t * x ∧ acc + sg t * x ≤ 9000 := fun j x e => by
      have := qb j x e
      rw [sg]
      split <;> omega
    have h0 := fd_am (T := T) (fr := 37 * k) (most := decide (t % 2 = 0)) (q := qv (tv w n (N - (t + 1))) w n mi had) (acc := acc) (s := sg t) hs hq 37 (fun j hj => by
      rw [hT j hj, lv, hch j hj, q]
      show (match stp w n t mi had acc j with
        | none => (-9999 : Int32)
        | some (mi, had, acc) => iI (acc + sg (t + 1) * tv w n (N - (t + 1)) mi had)) = _
      rw [stp, qv]
      by_cases c : j = 36
      · rw [if_pos c, if_pos c]
        show iI (acc + sg (t + 1) * tv w n (N - (t + 1)) mi had) = iI (acc + sg t * -tv w n (N - (t + 1)) mi had)
        rw [sg_s, Int.neg_mul, Int.mul_neg]
      · rw [if_neg c, if_neg c]
        by_cases c2 : mvb n mi had j = true
        · rw [if_pos c2, if_pos c2]
          show iI (acc + sg t * (toldN w mi (j / 6) (j % 6) n : Int) + sg (t + 1) * tv w n (N - (t + 1)) (tM w n mi (j / 6) (j % 6)) (had ||| 2 ^ (j / 6))) = iI (acc + sg t * ((toldN w mi (j / 6) (j % 6) n : Int) - tv w n (N - (t + 1)) (tM w n mi (j / 6) (j % 6)) (had ||| 2 ^ (j / 6))))
          rw [sg_s, Int.neg_mul, Int.mul_sub]
          congr 1
          omega
        · rw [if_neg c2, if_neg c2])
    obtain ⟨b, v, hbv⟩ := am_some (q := qv (tv w n (N - (t + 1))) w n mi had) (k := 36) (x := - tv w n (N - (t + 1)) mi had) (by rw [qv, if_pos rfl])
    have hbv : am (qv (tv w n (N - (t + 1))) w n mi had) 37 = some (b, v) := hbv
    rw [hbv] at h0
    have h1 : fd T (37 * k) (decide (t % 2 = 0)) 37 = (iI (acc + sg t * v), nI b) := h0
    rw [h1]
    refine ⟨?_, fun e => ?_⟩
    · rw [lv, q]
      show iI (acc + sg t * v) = iI (acc + sg t * tv w n (N - t) mi had)
      rw [show N - t = (N - (t + 1)) + 1 by omega, tv, hbv]
    · subst e
      rw [pth] at q
      have := Option.some.inj q
      injection this with a b'
      injection b' with b' c'
      rw [wh, if_neg (by omega), a, b', show N - 1 = N - (0 + 1) by omega, hbv]
def s_turns (w : Nat → Int32) (n N : Nat) (first : Bool) : Int32 :=
  if first then (if wh w n N = -1 then -1 else if wh w n N = 36 then 99 else 10 * (wh w n N / 6) + (wh w n N - wh w n N / 6 * 6)) else iI (tv w n N (mi0 w) 0)
def p_turns (h : qm_H) (mt : Nat) (a k : Int32) (first : Bool) : Int32 := if inb k 4 && inb a mt then s_turns (tw h a.toNatClampNeg) (nn (tw h a.toNatClampNeg)) k.toNatClampNeg first else -999
def fb (h h' : qm_H) : Prop := h'.2 = h.2 ∧ (∀ q, q ∉ [26, 39, 47] → h'.1 q = h.1 q) ∧ ∀ k, k ≠ 40 → h'.1 26 k = h.1 26 k
theorem fb.si {h h1 : qm_H} (a : fb h h1) {k : Nat} {v : Int32} : fb h (qm_si h1 47 k v) := ⟨a.1, fun q hq => by
  rw [si_ne _ _ _ (by intro e; subst e; exact hq (by decide))]; exact a.2.1 q hq, fun k hk => by rw [si_ne _ _ _ (by decide)]; exact a.2.2 k hk⟩
theorem fb.s39 {h h1 h2 : qm_H} (a : fb h h1) (b : sb [39] h1 h2) : fb h h2 := ⟨b.1.trans a.1, fun q hq => by
  rw [b.2 q (by intro e; exact hq (by rw [List.mem_singleton.mp e]; decide))]; exact a.2.1 q hq, fun k hk => by rw [b.2 26 (by decide)]; exact a.2.2 k hk⟩
theorem fb.fo {h h1 h2 : qm_H} (a : fb h h1) (b : fo h1 h2) : fb h h2 := ⟨b.1.trans a.1, fun q hq => by
  rw [b.2.1 q (by intro e; exact hq (by rw [e]; decide))]; exact a.2.1 q hq, fun k hk => by rw [b.2.2 k hk]; exact a.2.2 k hk⟩
theorem fb.ps {h h1 : qm_H} (a : fb h h1) : pers h h1 := ⟨a.1, fun q hq => a.2.1 q (fun e => hq (by revert e; simp only [List.mem_cons, List.not_mem_nil, or_false]; omega))⟩
theorem a_byTurns {G : qm_G} (hG : G.2.2.2.2 = true) (d : Nat) (h : qm_H) {mt my ml : Nat} (hS : ST h mt my ml) (a k : Int32) (first : Bool) : qm_Ev G (d + 4) 0 0 qyX10_byTurns [.ref 26, .int a, .int k, .int (b2 first)] h (fun r h' => r = some (.int (p_turns h mt a k first)) ∧ pers h h') := by
  obtain ⟨s1, s2, -, -, -, -, hT, -⟩ := hS
  refine qm_Ev.by (M := mX10_byTurns) okX10_byTurns (Nat.le_of_ble_eq_true rfl) hG fun z hA => ?_
  refine qm_wp_ok hA [19] 40 _ _ _ _ _ _ ?_
  refine ⟨rfl, trivial, 0, 0, _, e_in hG (d + 3) (qm_si h 26 0 0) k 0 3, ⟨Nat.le_refl _, Nat.le_refl _⟩, ?_⟩
  rintro _ _ ⟨rfl, rfl⟩
  refine b2_eq (fun hb => ?_) (fun hb => ⟨trivial, by rw [p_turns, show inb k 4 = false from hb]; rfl, pers.rf.s26⟩)
  have hb : inb k 4 = true := hb
  obtain ⟨N, hN, rfl⟩ := inb_e (by decide) hb
  refine ⟨rfl, 0, 0, _, e_handC hG (d + 1) (qm_si h 26 0 0) (mt := mt) s1 s2 a, ⟨Nat.le_refl _, Nat.le_refl _⟩, ?_⟩
  rintro _ h1 (⟨t, ht, rfl, rfl, rfl⟩ | ⟨e0, rfl, e1⟩)
  · obtain ⟨i1, i2⟩ := p_in ht s2
    have hV := hT t ht
    have hw := hV.w
    obtain ⟨hn6, hn, -⟩ := hV
    have eP : p_turns h mt (nI t) (nI N) first = s_turns (tw h t) (nn (tw h t)) N first := by rw [p_turns, hb, i1, i2, nI_clamp (by omega)]; rfl
    obtain ⟨h0, hh0⟩ : ∃ h0, h0 = hnd (qm_si h 26 0 0) t := ⟨_, rfl⟩
    have p0 : pers h h0 := by rw [hh0]; exact pers.rf.s26.tr (hnd.ps _ t)
    have e22 : h0.1 26 22 = nI t := by rw [hh0]; rfl
    have e23 : h0.1 26 23 = nI (nn (tw h t)) := by rw [hh0]; exact hn
    have etw : tw h0 t = tw h t := by rw [hh0]; rfl
    rw [← hh0]
    obtain ⟨n, hnn⟩ : ∃ n, n = nn (tw h t) := ⟨_, rfl⟩
    obtain ⟨w, hww⟩ : ∃ w, w = tw h t := ⟨_, rfl⟩
    rw [← hnn] at e23 eP hn6
    rw [← hww] at etw eP hw
    refine ⟨fun _ => ?_, fun q => absurd q (by decide)⟩
    refine ⟨0, 0, _, e_allEnds hG (d + 3) h0 (n := N) (by omega), ⟨Nat.le_refl _, Nat.le_refl _⟩, ?_⟩
    rintro _ _ ⟨rfl, rfl⟩
    have hpow : ∀ r, r ≤ 3 → 0 < 37 ^ r ∧ 37 ^ r ≤ 50653 := by decide
    have fr1 : ∀ h', fb h0 h' → h'.1 26 22 = nI t ∧ h'.1 26 23 = nI n ∧ tw h' t = w := fun h' c => ⟨by rw [c.2.2 22 (by decide), e22], by rw [c.2.2 23 (by decide), e23], by rw [← etw]; unfold tw; rw [c.2.1 32 (by decide)]⟩
    have n37 : ¬ (37 : Int32) = 0 := by decide
    have n6 : ¬ (6 : Int32) = 0 := by decide
    have main : ∀ s, s ≤ N → ∀ h', fb h0 h' → (∀ j, j < 37 ^ s → h'.1 47 j = lv w n N s j) → (s = 0 → h'.1 26 40 = wh w n N) → qm_PW G mX10_byTurns z 39 0 0 [vr 26, vi (nI t), vi (nI N), vi (b2 first), vi (nI (37 ^ s)), vi (nI s + -1), vu] [] h' := by
      intro s
      induction s with
      | zero =>
        intro _ h' c1 c2 c3
        have c3 := c3 rfl
        have fin : pers h h' := p0.tr c1.ps
        refine qm_wp_ok hA [] 40 _ _ _ _ _ _ ⟨fun _ => ?_, fun q => absurd (by decide) q⟩
        refine b2_ne (fun hf => ?_) (fun hf => ?_)
        · rw [s_turns, if_pos hf] at eP
          refine ⟨rfl, fun (q : ¬ h'.1 26 40 = -1) => ⟨rfl, fun (q2 : ¬ h'.1 26 40 = 36) => ⟨rfl, n6, rfl, n6, trivial, ?_, fin⟩, fun (q2 : h'.1 26 40 = 36) => ⟨trivial, ?_, fin⟩⟩, fun (q : h'.1 26 40 = -1) => ⟨trivial, ?_, fin⟩⟩
          · rw [c3] at q q2
            rw [if_neg q, if_neg q2, ← c3] at eP
            exact congrArg (fun v => some (Value.int v)) eP.symm
          · rw [c3] at q q2
            rw [if_neg q, if_pos q2] at eP
            rw [eP]
          · rw [c3] at q
            rw [if_pos q] at eP
            rw [eP]
        · rw [s_turns, if_neg (by rw [hf]; decide)] at eP
          refine ⟨rfl, _, rfl, rfl, (vp_in_nI (n := 0) (by decide) (by decide) : vp_in (nI 0) 50653), trivial, congrArg (fun v => some (Value.int v)) ?_, fin⟩
          rw [eP]
          show h'.1 47 0 = _
          rw [c2 0 (by decide), lv]
          show iI (0 + sg 0 * tv w n (N - 0) (mi0 w) 0) = _
          rw [Nat.sub_zero, sg, if_pos rfl, Int.one_mul, Int.zero_add]
      | succ s ih =>
        intro hs h' c1 c2 _
        obtain ⟨p1, p2⟩ := hpow s (by omega)
        obtain ⟨p3, p4⟩ := hpow (s + 1) (by omega)
        have ep : 37 ^ (s + 1) = 37 ^ s * 37 := Nat.pow_succ _ _
        have ed : nI (37 ^ (s + 1)) / 37 = nI (37 ^ s) := by
          rw [show (37 : Int32) = nI 37 from rfl, pk_div (by omega) (by decide) (by decide), Nat.pow_succ, Nat.mul_div_cancel _ (by decide)]
        rw [pk_m1]
        refine qm_wp_ok hA [47] 40 _ _ _ _ _ _ ⟨fun q => absurd q (nI_pos (by omega)), fun _ => ⟨n37, ?_⟩⟩
        rw [ed]
        obtain ⟨P, hP⟩ : ∃ P, P = 37 ^ s := ⟨_, rfl⟩
        rw [← hP] at p1 p2 ep ih ⊢
        refine qm_for (P := fun j => ∀ h', fb h0 h' → (∀ i, i < j → h'.1 47 i = lv w n N s i) → (∀ i, 37 * j ≤ i → i < 37 * P → h'.1 47 i = lv w n N (s + 1) i) → (0 < j → s = 0 → h'.1 26 40 = wh w n N) → qm_PW G mX10_byTurns z 47 0 0 [vr 26, vi (nI t), vi (nI N), vi (b2 first), vi (nI P), vi (nI s), vi (nI j)] [] h') (N := P) ?_ ?_ h' c1 (fun i q => by omega) (fun i _ q => c2 i (by omega)) (fun q => absurd q (by omega))
        · intro h' c1 c2 _ c4
          refine qm_wp_ok hA [39] 40 _ _ _ _ _ _ ⟨fun _ => ?_, fun (q : ¬ nI P ≤ nI P) => absurd (Int32.le_refl _) q⟩
          exact qm_PW.mask [true, true, true, true, true, true, false] (ih (by omega) h' c1 c2 (fun e => c4 p1 e))
        · intro j hj nx h' c1 c2 c3 c4
          obtain ⟨g1, g2⟩ := lv_fold hw (n := n) (N := N) (t := s) (k := j) hn6 (by omega) (by omega) (T := h'.1 47) (fun i hi => c3 (37 * j + i) (by omega) (by omega))
          have e2r : nI s - nI s / 2 * 2 = nI (s % 2) := by rw [show (2 : Int32) = nI 2 from rfl, pk_rem (by omega) (by decide) (by decide)]
          have e37 : (37 : Int32) * nI j = nI (37 * j) := by rw [show (37 : Int32) = nI 37 from rfl, pk_mul]
          have hin : vp_in (nI j) 50653 := vp_in_nI (by omega) (by decide)
          have fin : ∀ b, b = decide (s % 2 = 0) → ∀ h2, h2.1 26 40 = (fd (h'.1 47) (37 * j) b 37).2 → fo h' h2 → qm_PW G mX10_byTurns z 47 0 0 [vr 26, vi (nI t), vi (nI N), vi (b2 first), vi (nI P), vi (nI s), vi (nI j + 1)] [] (qm_si h2 47 j (fd (h'.1 47) (37 * j) b 37).1) := by
            intro b eb h2 d1 d2
            subst eb
            rw [nI_1, g1]
            have e47 : h2.1 47 = h'.1 47 := d2.2.1 47 (by decide)
            refine nx _ (c1.fo d2).si (fun i hi => ?_) (fun i hi hi2 => ?_) (fun _ e => ?_)
            · rw [si_row]
              by_cases e : i = j
              · rw [e, up_s]
              · rw [up_n _ _ e, e47]; exact c2 i (by omega)
            · rw [si_row, up_n _ _ (by omega), e47]
              exact c3 i (by omega) hi2
            · rw [si_ne _ _ _ (by decide), d1]; exact g2 e
          refine qm_wp_ok hA [47] 60 _ _ _ _ _ _ ⟨fun (q : nI P ≤ nI j) => absurd q (nI_ge hj (by omega)), fun _ => ⟨rfl, _, rfl, (by decide : ¬ (2 : Int32) = 0), ?_⟩⟩
          rw [e2r, e37]
          refine ⟨fun (q : ¬ nI (s % 2) = 0) => ⟨rfl, 0, 0, _, e_fold hG (d + 3) h' (fr := 37 * j) (by omega) false, ⟨Nat.le_refl _, Nat.le_refl _⟩, ?_⟩, fun (q : nI (s % 2) = 0) => ⟨rfl, 0, 0, _, e_fold hG (d + 3) h' (fr := 37 * j) (by omega) true, ⟨Nat.le_refl _, Nat.le_refl _⟩, ?_⟩⟩
          · rintro _ h2 ⟨rfl, d1, d2⟩
            refine ⟨rfl, hin, ?_⟩
            rw [nI_clamp (by omega)]
            exact fin false (decide_eq_false (fun e => q (by rw [e]; rfl))).symm h2 d1 d2
          · rintro _ h2 ⟨rfl, d1, d2⟩
            refine ⟨rfl, hin, ?_⟩
            rw [nI_clamp (by omega)]
            exact fin true (decide_eq_true ((nI_eq (b := 0) (by omega) (by decide)).mp q)).symm h2 d1 d2
    obtain ⟨p1, p2⟩ := hpow N (by omega)
    refine qm_for (P := fun j => ∀ h', fb h0 h' → (∀ i, i < j → h'.1 47 i = lv w n N N i) → qm_PW G mX10_byTurns z 19 0 0 [vr 26, vi (nI t), vi (nI N), vi (b2 first), vi (nI (37 ^ N)), vi (nI j), vu] [] h') (N := 37 ^ N) ?_ ?_ h0 ⟨rfl, fun _ _ => rfl, fun _ _ => rfl⟩ (fun i q => by omega)
    · intro h' c1 c2
      refine qm_wp_ok hA [39] 40 _ _ _ _ _ _ ⟨fun _ => ⟨rfl, trivial, ?_⟩, fun (q : ¬ nI (37 ^ N) ≤ nI (37 ^ N)) => absurd (Int32.le_refl _) q⟩
      have k := main N (Nat.le_refl _) (qm_si h' 26 40 (-1)) (c1.fo (fo.s ⟨rfl, fun _ _ => rfl, fun _ _ => rfl⟩)) (fun i hi => by rw [si_ne _ _ _ (by decide)]; exact c2 i hi) (fun e => by rw [si_row, up_s, wh, if_pos e])
      rw [← Int32.sub_eq_add_neg] at k
      exact k
    · intro j hj nx h' c1 c2
      obtain ⟨f1, f2, f3⟩ := fr1 h' c1
      refine qm_wp_ok hA [19] 40 _ _ _ _ _ _ ⟨fun (q : nI (37 ^ N) ≤ nI j) => absurd q (nI_ge hj (by omega)), fun _ => ⟨rfl, _, rfl, rfl, 0, 0, _, e_endOf hG d h' (t := t) (n := n) (N := N) (number := j) f1 (by omega) f2 hn6 (by rw [f3]; exact hw) (by omega) hj, ⟨Nat.le_refl _, Nat.le_refl _⟩, ?_⟩⟩
      rintro _ h2 ⟨rfl, d2⟩
      rw [f3]
      refine ⟨rfl, (vp_in_nI (by omega) (by decide) : vp_in (nI j) 50653), ?_⟩
      rw [nI_clamp (by omega)]
      have eq1 : oE (pth w n N j) = lv w n N N j := by
        rw [lv]
        cases q : pth w n N j with
        | none => rfl
        | some st =>
          obtain ⟨mi, had, acc⟩ := st
          show iI acc = iI (acc + sg N * tv w n (N - N) mi had)
          rw [Nat.sub_self, tv, Int.mul_zero, Int.add_zero]
      have k := nx (qm_si h2 47 j (oE (pth w n N j))) (c1.s39 d2).si (fun i hi => by
        rw [si_row]
        by_cases e : i = j
        · rw [e, up_s, eq1]
        · rw [up_n _ _ e, d2.2 47 (by decide)]; exact c2 i (by omega))
      rw [← nI_1] at k
      exact k
  · exact ⟨fun q => absurd rfl q, fun _ => ⟨trivial, by rw [p_turns, e0, Bool.and_false]; rfl, e1 ▸ pers.rf.s26⟩⟩
end
section
/-! the reference: tellings, messages -/
def hbN (w : Nat → Int32) (p : Nat) : Nat → Nat
  | 0 => 0
  | o + 1 => hbN w p o ||| (if s_hears w o p then 2 ^ o else 0)
theorem hbN_lt (w : Nat → Int32) (p : Nat) {n : Nat} : ∀ o, o ≤ n → hbN w p o < 2 ^ n
  | 0, _ => Nat.two_pow_pos _
  | o + 1, ho => by
    rw [hbN]
    have := hbN_lt w p (n := n) o (by omega)
    split
    · exact Nat.or_lt_two_pow this (Nat.pow_lt_pow_right (by decide) (by omega))
    · rw [Nat.or_zero]; exact this
theorem told_N (w : Nat → Int32) (s p : Nat) : ∀ o, o ≤ 6 → s_toldBy w (nI s) p o = nI (s ||| hbN w p o)
  | 0, _ => by rw [s_toldBy, hbN, Nat.or_zero]
  | o + 1, ho => by
    rw [s_toldBy, hbN, told_N w s p o (by omega)]
    split
    · rw [(s_pow (by omega : o ≤ 6)).2, fa_or, Nat.or_assoc]
    · rw [Nat.or_zero, show (0 : Int32) = nI 0 from rfl, fa_or, Nat.or_zero]
def knN (mi : Nat → Int32) (f : Int32) : Nat → Nat
  | 0 => 0
  | p + 1 => knN mi f p ||| (if bit (mi p) f then 2 ^ p else 0)
theorem knN_lt (mi : Nat → Int32) (f : Int32) {n : Nat} : ∀ o, o ≤ n → knN mi f o < 2 ^ n
  | 0, _ => Nat.two_pow_pos _
  | o + 1, ho => by
    rw [knN]
    have := knN_lt mi f (n := n) o (by omega)
    split
    · exact Nat.or_lt_two_pow this (Nat.pow_lt_pow_right (by decide) (by omega))
    · rw [Nat.or_zero]; exact this
theorem kn_N (mi : Nat → Int32) (f : Int32) : ∀ o, o ≤ 6 → s_knowers mi f o = nI (knN mi f o)
  | 0, _ => rfl
  | o + 1, ho => by
    rw [s_knowers, knN, kn_N mi f o (by omega)]
    split
    · rw [(s_pow (by omega : o ≤ 6)).2, fa_or]
    · rw [Nat.or_zero, show (0 : Int32) = nI 0 from rfl, fa_or, Nat.or_zero]
def omn : Option Nat → Option Nat → Option Nat
  | none, x => x
  | some a, none => some a
  | some a, some b => some (min a b)
def lfm (o : Nat → Option Nat) : Nat → Option Nat
  | 0 => none
  | p + 1 => omn (lfm o p) (o p)
def lfo (w : Nat → Int32) (n : Nat) (T : Nat → Option Nat) (set p : Nat) : Option Nat := if bit (nI set) (nI p) && decide (¬ set ||| hbN w p n = set) then (T (set ||| hbN w p n)).map (· + 1) else none
def lf (w : Nat → Int32) (n wt : Nat) : Nat → Nat → Option Nat
  | 0, _ => none
  | k + 1, set => if set &&& wt = wt then some 0 else lfm (lfo w n (lf w n wt k) set) n
theorem lfm_co {o o' : Nat → Option Nat} : ∀ n, (∀ p, p < n → o p = o' p) → lfm o n = lfm o' n
  | 0, _ => rfl
  | n + 1, h => by rw [lfm, lfm, lfm_co n (fun p hp => h p (by omega)), h n (by omega)]
theorem or_gt {a b : Nat} (h : ¬ a ||| b = a) : a < a ||| b := by
  have := @Nat.left_le_or a b
  omega
theorem lf_st {w : Nat → Int32} {n wt : Nat} (hn : n ≤ 6) : ∀ k set, set < 64 → 64 - set ≤ k → lf w n wt (k + 1) set = lf w n wt k set
  | 0, set, h1, h2 => by omega
  | k + 1, set, h1, h2 => by
    rw [lf, lf]
    split
    · rfl
    · refine lfm_co n fun p hp => ?_
      rw [lfo, lfo]
      split
      · rename_i c
        have c2 := of_decide_eq_true (Bool.and_eq_true_iff.mp c).2
        have h3 := or_gt c2
        have h4 : hbN w p n < 2 ^ n := hbN_lt w p n (Nat.le_refl _)
        have h5 : 2 ^ n ≤ 64 := (s_pow6 hn).1
        have h6 : set ||| hbN w p n < 64 := Nat.or_lt_two_pow (n := 6) h1 (by omega)
        rw [lf_st hn k _ h6 (by omega)]
      · rfl
theorem lfm_some {o : Nat → Option Nat} : ∀ {n v}, lfm o n = some v → (∃ p, p < n ∧ o p = some v) ∧ ∀ p, p < n → ∀ u, o p = some u → v ≤ u
  | 0, v, h => by rw [lfm] at h; exact absurd h (by simp)
  | n + 1, v, h => by
    rw [lfm] at h
    cases q : lfm o n with
    | none =>
      rw [q] at h
      have h : o n = some v := h
      refine ⟨⟨n, by omega, h⟩, fun p hp u hu => ?_⟩
      by_cases e : p = n
      · rw [e, h] at hu
        have := Option.some.inj hu
        omega
      · exfalso
        have key : ∀ m, lfm o m = none → ∀ p, p < m → o p = none := by
          intro m
          induction m with
          | zero => intro _ p hp; omega
          | succ m ih =>
            intro hm p hp
            rw [lfm] at hm
            cases q1 : lfm o m with
            | none =>
              rw [q1] at hm
              by_cases e : p = m
              · rw [e]; exact hm
              · exact ih q1 p (by omega)
            | some a =>
              rw [q1] at hm
              cases q2 : o m with
              | none => rw [q2] at hm; exact absurd hm (by simp [omn])
              | some b => rw [q2] at hm; exact absurd hm (by simp [omn])
        rw [key n q p (by omega)] at hu
        exact absurd hu (by simp)
    | some a =>
      obtain ⟨⟨p, hp, hop⟩, hmin⟩ := lfm_some q
      rw [q] at h
      cases q2 : o n with
      | none =>
        rw [q2] at h
        have e : a = v := Option.some.inj h
        subst e
        refine ⟨⟨p, by omega, hop⟩, fun p' hp' u hu => ?_⟩
        by_cases e : p' = n
        · rw [e, q2] at hu; exact absurd hu (by simp)
        · exact hmin p' (by omega) u hu
      | some b =>
        rw [q2] at h
        have e : min a b = v := Option.some.inj h
        refine ⟨?_, fun p' hp' u hu => ?_⟩
        · by_cases c : a ≤ b
          · exact ⟨p, by omega, by rw [hop, ← e, Nat.min_eq_left c]⟩
          · exact ⟨n, by omega, by rw [q2, ← e, Nat.min_eq_right (by omega)]⟩
        · by_cases e2 : p' = n
          · rw [e2, q2] at hu
            have := Option.some.inj hu
            omega
          · have := hmin p' (by omega) u hu
            omega
theorem lf_le {w : Nat → Int32} {n wt : Nat} : ∀ k set v, lf w n wt k set = some v → v ≤ k
  | 0, set, v, h => by rw [lf] at h; exact absurd h (by simp)
  | k + 1, set, v, h => by
    rw [lf] at h
    split at h
    · have := Option.some.inj h; omega
    · obtain ⟨⟨p, hp, hop⟩, -⟩ := lfm_some h
      rw [lfo] at hop
      split at hop
      · cases q : lf w n wt k (set ||| hbN w p n) with
        | none => rw [q] at hop; exact absurd hop (by simp)
        | some u =>
          rw [q] at hop
          have e : u + 1 = v := Option.some.inj hop
          have := lf_le k _ u q
          omega
      · exact absurd hop (by simp)
def lI (F : Nat) (o : Option Nat) : Int32 := match o with
  | none => nI F
  | some v => nI v
theorem mn_N {a b : Nat} (ha : a < 2 ^ 31) (hb : b < 2 ^ 31) : mn (nI a) (nI b) = nI (min a b) := by
  rw [mn]
  by_cases c : a < b
  · rw [if_pos (nI_lt c hb), Nat.min_eq_left (by omega)]
  · rw [if_neg (nI_nlt (by omega) ha), Nat.min_eq_right (by omega)]
theorem lI_mn2 {F : Nat} (h1 : 100 ≤ F) (h2 : F < 2 ^ 30) {a b : Option Nat} (ha : ∀ v, a = some v → v ≤ 65) (hb : ∀ v, b = some v → v ≤ 64) : mn (lI F a) (lI F b + 1) = lI F (omn a (b.map (· + 1))) := by
  cases a with
  | none =>
    cases b with
    | none => show mn (nI F) (nI F + 1) = nI F; rw [nI_1, mn_N (by omega) (by omega), Nat.min_eq_left (by omega)]
    | some v => have := hb v rfl; show mn (nI F) (nI v + 1) = nI (v + 1); rw [nI_1, mn_N (by omega) (by omega), Nat.min_eq_right (by omega)]
  | some u =>
    have := ha u rfl
    cases b with
    | none => show mn (nI u) (nI F + 1) = nI u; rw [nI_1, mn_N (by omega) (by omega), Nat.min_eq_left (by omega)]
    | some v => have := hb v rfl; show mn (nI u) (nI v + 1) = nI (min u (v + 1)); rw [nI_1, mn_N (by omega) (by omega)]
theorem lfm_le {o : Nat → Option Nat} {n v : Nat} (h : lfm o n = some v) {K : Nat} (hK : ∀ p u, p < n → o p = some u → u ≤ K) : v ≤ K := by
  obtain ⟨⟨p, hp, hop⟩, -⟩ := lfm_some h
  exact hK p v hp hop
theorem leftT (w cp : Nat → Int32) {n wt : Nat} (hn : n ≤ 6) (hwt : wt < 64) : ∀ m, m ≤ 2 ^ n → ∀ set, 2 ^ n - m ≤ set → set < 2 ^ n → s_leftOn w n (nI wt) cp m set = lI 1000000 (lf w n wt 64 set)
  | 0, _, set, h1, h2 => by omega
  | m + 1, hm, set, h1, h2 => by
    have p6 := (s_pow6 hn).1
    have ih := leftT w cp hn hwt m (by omega)
    rw [s_leftOn]
    obtain ⟨s0, hs0⟩ : ∃ s0, s0 = 2 ^ n - 1 - m := ⟨_, rfl⟩
    rw [← hs0]
    by_cases e : set = s0
    · subst e
      rw [up_s]
      have hs64 : set < 64 := by omega
      have ev : (nI set &&& nI wt = nI wt) ↔ (set &&& wt = wt) := by
        rw [fa_and]
        exact ⟨fun q => (nI_eq (by have := @Nat.and_le_left set wt; omega) (by omega)).mp q, fun q => by rw [q]⟩
      rw [← lf_st hn 64 set hs64 (by omega), lf]
      obtain ⟨A, hA⟩ : ∃ A, A = s_leftOn w n (nI wt) cp m := ⟨_, rfl⟩
      rw [← hA] at ih ⊢
      have stepv : ∀ p, bit (nI set) (nI p) = true → ¬ set ||| hbN w p n = set → A (set ||| hbN w p n) = lI 1000000 (lf w n wt 64 (set ||| hbN w p n)) := fun p _ c => ih _ (by have := or_gt c; omega) (Nat.or_lt_two_pow h2 (hbN_lt w p n (Nat.le_refl _)))
      have cnd : ∀ p, (bit (nI set) (nI p) = true ∧ ¬ s_toldBy w (nI set) p n = nI set) ↔ (bit (nI set) (nI p) && decide (¬ set ||| hbN w p n = set)) = true := fun p => by
        have h4 : set ||| hbN w p n < 2 ^ n := Nat.or_lt_two_pow h2 (hbN_lt w p n (Nat.le_refl _))
        rw [told_N w set p n hn, Bool.and_eq_true, decide_eq_true_eq, nI_eq (by omega) (by omega)]
      have idx : ∀ p, (s_toldBy w (nI set) p n).toNatClampNeg = set ||| hbN w p n := fun p => by
        have h4 : set ||| hbN w p n < 2 ^ n := Nat.or_lt_two_pow h2 (hbN_lt w p n (Nat.le_refl _))
        rw [told_N w set p n hn, nI_clamp (by omega)]
      by_cases c0 : set &&& wt = wt
      · rw [if_pos c0, s_left0, if_pos (ev.mpr c0)]
        have z : ∀ j, j ≤ n → s_left1 w n A set 0 j = 0 := by
          intro j
          induction j with
          | zero => exact fun _ => rfl
          | succ j ihj =>
            intro hj
            rw [s_left1, ihj (by omega)]
            split
            · rename_i c
              have c1 := (cnd j).mp c
              have c2 := of_decide_eq_true (Bool.and_eq_true_iff.mp c1).2
              rw [idx, stepv j c.1 c2]
              have hl := lf_le (w := w) (n := n) (wt := wt) 64 (set ||| hbN w j n)
              cases q : lf w n wt 64 (set ||| hbN w j n) with
              | none => rfl
              | some v =>
                have := hl v q
                show mn (nI 0) (nI v + 1) = 0
                rw [nI_1, mn_N (by omega) (by omega), Nat.min_eq_left (by omega)]; rfl
            · rfl
        exact z n (Nat.le_refl _)
      · rw [if_neg c0, s_left0, if_neg (fun q => c0 (ev.mp q))]
        have z : ∀ j, j ≤ n → s_left1 w n A set 1000000 j = lI 1000000 (lfm (lfo w n (lf w n wt 64) set) j) ∧ ∀ v, lfm (lfo w n (lf w n wt 64) set) j = some v → v ≤ 65 := by
          intro j
          induction j with
          | zero => exact fun _ => ⟨rfl, fun v q => by rw [lfm] at q; exact absurd q (by simp)⟩
          | succ j ihj =>
            intro hj
            obtain ⟨i1, i2⟩ := ihj (by omega)
            have hl := lf_le (w := w) (n := n) (wt := wt) 64 (set ||| hbN w j n)
            refine ⟨?_, fun v q => lfm_le q fun p u hp hu => ?_⟩
            · rw [s_left1, i1, lfm, lfo]
              by_cases c : bit (nI set) (nI j) = true ∧ ¬ s_toldBy w (nI set) j n = nI set
              · have c1 := (cnd j).mp c
                have c2 := of_decide_eq_true (Bool.and_eq_true_iff.mp c1).2
                rw [if_pos c, if_pos c1, idx, stepv j c.1 c2]
                exact lI_mn2 (by omega) (by omega) i2 hl
              · rw [if_neg c, if_neg (fun q => c ((cnd j).mpr q))]
                cases lfm (lfo w n (lf w n wt 64) set) j with
                | none => rfl
                | some u => rfl
            · rw [lfo] at hu
              split at hu
              · cases q2 : lf w n wt 64 (set ||| hbN w p n) with
                | none => rw [q2] at hu; exact absurd hu (by simp)
                | some x =>
                  rw [q2] at hu
                  have e : x + 1 = u := Option.some.inj hu
                  have := lf_le (w := w) (n := n) (wt := wt) 64 (set ||| hbN w p n) x q2
                  omega
              · exact absurd hu (by simp)
        exact (z n (Nat.le_refl _)).1
    · rw [up_n _ _ e]
      exact ih set (by omega) h2
def tF (w : Nat → Int32) (n wt v set : Nat) : Nat := ff (fun p => bit (nI set) (nI p) && decide (lf w n wt 64 (set ||| hbN w p n) = some v)) n 0
def tPath (w : Nat → Int32) (n wt : Nat) : Nat → Nat → List Nat
  | 0, _ => []
  | v + 1, set => tF w n wt v set :: tPath w n wt v (set ||| hbN w (tF w n wt v set) n)
theorem tF_spec {w : Nat → Int32} {n wt v set : Nat} (hn : n ≤ 6) (hs : set < 64) (h : lf w n wt 64 set = some (v + 1)) : tF w n wt v set < n ∧ bit (nI set) (nI (tF w n wt v set)) = true ∧ lf w n wt 64 (set ||| hbN w (tF w n wt v set) n) = some v ∧ ∀ p, p < tF w n wt v set → ¬ (bit (nI set) (nI p) = true ∧ lf w n wt 64 (set ||| hbN w p n) = some v) := by
  rw [← lf_st hn 64 set hs (by omega), lf] at h
  have hne : ¬ set &&& wt = wt := fun e => by rw [if_pos e] at h; exact absurd h (by simp)
  rw [if_neg hne] at h
  obtain ⟨⟨p, hp, hop⟩, -⟩ := lfm_some h
  rw [lfo] at hop
  split at hop
  · rename_i c
    have c1 := (Bool.and_eq_true_iff.mp c).1
    have hx : lf w n wt 64 (set ||| hbN w p n) = some v := by
      cases q2 : lf w n wt 64 (set ||| hbN w p n) with
      | none => rw [q2] at hop; exact absurd hop (by simp)
      | some x =>
        rw [q2] at hop
        have e : x + 1 = v + 1 := Option.some.inj hop
        rw [show x = v by omega]
    obtain ⟨k1, k2, -, k4⟩ := ff_spec (p := fun p => bit (nI set) (nI p) && decide (lf w n wt 64 (set ||| hbN w p n) = some v)) n 0 ⟨p, by omega, by omega, by rw [c1, decide_eq_true hx]; rfl⟩
    rw [Bool.and_eq_true, decide_eq_true_eq] at k1
    refine ⟨by rw [tF]; omega, k1.1, k1.2, fun j hj q => ?_⟩
    have := k4 j (by omega) hj
    rw [q.1, decide_eq_true q.2] at this
    exact absurd this (by decide)
  · exact absurd hop (by simp)
def s_tell (w : Nat → Int32) (n : Nat) (f k : Int32) : Int32 := match lf w n (2 ^ n - 1) 64 (knN (mi0 w) f n) with
  | none => -1
  | some v => if k = -1 then nI v else if inb k v then nI ((tPath w n (2 ^ n - 1) v (knN (mi0 w) f n)).getD k.toNatClampNeg 0) else -1
def p_tell (h : qm_H) (mt : Nat) (a f k : Int32) : Int32 := if inb a mt && inb f 6 then s_tell (tw h a.toNatClampNeg) (nn (tw h a.toNatClampNeg)) f k else -1
def s_msg (w : Nat → Int32) (n : Nat) (f : Int32) (p : Nat) : Int32 := match lf w n (2 ^ p) 64 (knN (mi0 w) f n) with
  | none => -1
  | some v => nI v
def p_msg (h : qm_H) (mt : Nat) (a f p : Int32) : Int32 := if inb a mt && (inb f 6 && inb p (nn (tw h a.toNatClampNeg))) then s_msg (tw h a.toNatClampNeg) (nn (tw h a.toNatClampNeg)) f p.toNatClampNeg else -1
theorem congV {a b : Int32} (h : a = b) : some (Value.int a) = some (Value.int b) := by rw [h]
theorem a_message {G : qm_G} (hG : G.2.2.2.2 = true) (d : Nat) (h : qm_H) {mt my ml : Nat} (hS : ST h mt my ml) (a f p : Int32) : qm_Ev G (d + 4) 0 0 qyX10_message [.ref 26, .int a, .int f, .int p] h (fun r h' => r = some (.int (p_msg h mt a f p)) ∧ pers h h') := by
  obtain ⟨s1, s2, -, -, -, -, hT, -⟩ := hS
  refine qm_Ev.run (M := mX10_message) okX10_message rfl hG fun z => ?_
  refine ⟨rfl, trivial, rfl, 0, 0, _, e_handC hG (d + 1) (qm_si h 26 0 0) (mt := mt) s1 s2 a, ⟨Nat.le_refl _, Nat.le_refl _⟩, ?_⟩
  rintro _ h1 (⟨t, ht, rfl, rfl, rfl⟩ | ⟨e0, rfl, e1⟩)
  · obtain ⟨i1, i2⟩ := p_in ht s2
    obtain ⟨hn6, hn, -⟩ := hT t ht
    have eP : p_msg h mt (nI t) f p = if inb f 6 && inb p (nn (tw h t)) then s_msg (tw h t) (nn (tw h t)) f p.toNatClampNeg else -1 := by rw [p_msg, i1, i2]; rfl
    have p0 : pers h (hnd (qm_si h 26 0 0) t) := pers.rf.s26.tr (hnd.ps _ t)
    have e23 : (hnd (qm_si h 26 0 0) t).1 26 23 = nI (nn (tw h t)) := hn
    obtain ⟨n, hnn⟩ : ∃ n, n = nn (tw h t) := ⟨_, rfl⟩
    rw [← hnn] at eP e23 hn6
    have p6 := (s_pow6 hn6).1
    refine ⟨fun q => absurd q (by decide), fun _ => ⟨0, 0, _, e_in hG (d + 3) (hnd (qm_si h 26 0 0) t) f 0 5, ⟨Nat.le_refl _, Nat.le_refl _⟩, ?_⟩⟩
    rintro _ _ ⟨rfl, rfl⟩
    refine b2_eq (fun hf => ?_) (fun hf => ⟨trivial, congV (by rw [eP, show inb f 6 = false from hf]; rfl), p0⟩)
    have hf1 : inb f 6 = true := hf
    refine ⟨rfl, 0, 0, _, e_isPerson hG (d + 2) (hnd (qm_si h 26 0 0) t) p, ⟨Nat.le_refl _, Nat.le_refl _⟩, ?_⟩
    rintro _ _ ⟨rfl, rfl⟩
    rw [e23]
    refine b2_ne (fun hp => ?_) (fun hp => ⟨trivial, congV (by rw [eP, show inb p n = false from hp, Bool.and_false]; rfl), p0⟩)
    have hp1 : inb p n = true := hp
    obtain ⟨pp, hpp, rfl⟩ := inb_e (by omega) hp1
    have ew : (1 : Int32) <<< (nI pp &&& 31) = nI (2 ^ pp) := (s_pow (by omega : pp ≤ 6)).2
    have hw64 : 2 ^ pp < 64 := (Nat.pow_lt_pow_right (by decide) (by omega : pp < 6) : 2 ^ pp < 2 ^ 6)
    refine ⟨rfl, ?_⟩
    rw [ew]
    refine ⟨0, 0, _, e_findLeft hG (d + 0) (hnd (qm_si h 26 0 0) t) (t := t) (n := n) rfl (by omega) e23 hn6 (nI (2 ^ pp)), ⟨Nat.le_refl _, Nat.le_refl _⟩, ?_⟩
    rintro _ h2 ⟨rfl, c1, c2⟩
    have g23 : h2.1 26 23 = nI n := by rw [c2.2 26 (by decide)]; exact e23
    have g39 : h2.1 39 = mi0 (tw h t) := by rw [c2.2 39 (by decide)]; rfl
    have fin : pers h h2 := p0.tr (c2.mono (by decide))
    refine ⟨rfl, _, rfl, rfl, 0, 0, _, e_knowers hG (d + 2) h2 g23 hn6 f, ⟨Nat.le_refl _, Nat.le_refl _⟩, ?_⟩
    rintro _ _ ⟨rfl, rfl⟩
    rw [g39, kn_N _ _ _ hn6]
    have hk := knN_lt (mi0 (tw h t)) f (n := n) n (Nat.le_refl _)
    have tab := leftT (tw h t) ((hnd (qm_si h 26 0 0) t).1 43) hn6 hw64 (2 ^ n) (Nat.le_refl _) (knN (mi0 (tw h t)) f n) (by omega) hk
    have ev : h2.1 43 (nI (knN (mi0 (tw h t)) f n)).toNatClampNeg = lI 1000000 (lf (tw h t) n (2 ^ pp) 64 (knN (mi0 (tw h t)) f n)) := by
      rw [nI_clamp (by omega), c1]; exact tab
    rw [if_pos (by rw [hf1, hp1]; rfl), nI_clamp (by omega), s_msg] at eP
    refine ⟨rfl, (vp_in_nI (by omega) (by decide) : vp_in (nI (knN (mi0 (tw h t)) f n)) 64), ?_⟩
    rw [ev]
    have hl := lf_le (w := tw h t) (n := n) (wt := 2 ^ pp) 64 (knN (mi0 (tw h t)) f n)
    cases q : lf (tw h t) n (2 ^ pp) 64 (knN (mi0 (tw h t)) f n) with
    | none =>
      rw [q] at eP
      exact ⟨fun z => absurd z (by decide), fun _ => ⟨trivial, congV eP.symm, fin⟩⟩
    | some v =>
      rw [q] at eP
      have := hl v q
      exact ⟨fun _ => ⟨trivial, congV eP.symm, fin⟩, fun (z : ¬ nI v < nI 1000000) => absurd (nI_lt (by omega) (by omega)) z⟩
  · exact ⟨fun _ => ⟨trivial, by rw [p_msg, e0]; rfl, e1 ▸ pers.rf.s26⟩, fun q => absurd rfl q⟩
theorem a_tellings {G : qm_G} (hG : G.2.2.2.2 = true) (d : Nat) (h : qm_H) {mt my ml : Nat} (hS : ST h mt my ml) (a f k : Int32) : qm_Ev G (d + 4) 0 0 qyX10_tellings [.ref 26, .int a, .int f, .int k] h (fun r h' => r = some (.int (p_tell h mt a f k)) ∧ pers h h') := by
  obtain ⟨s1, s2, -, -, -, -, hT, -⟩ := hS
  refine qm_Ev.by (M := mX10_tellings) okX10_tellings (Nat.le_of_ble_eq_true rfl) hG fun z hA => ?_
  refine qm_wp_ok hA [44, 46] 60 _ _ _ _ _ _ ?_
  refine ⟨rfl, trivial, rfl, 0, 0, _, e_handC hG (d + 1) (qm_si h 26 0 0) (mt := mt) s1 s2 a, ⟨Nat.le_refl _, Nat.le_refl _⟩, ?_⟩
  rintro _ h1 (⟨t, ht, rfl, rfl, rfl⟩ | ⟨e0, rfl, e1⟩)
  · obtain ⟨i1, i2⟩ := p_in ht s2
    obtain ⟨hn6, hn, -⟩ := hT t ht
    have eP : p_tell h mt (nI t) f k = if inb f 6 then s_tell (tw h t) (nn (tw h t)) f k else -1 := by rw [p_tell, i1, i2]; rfl
    have p0 : pers h (hnd (qm_si h 26 0 0) t) := pers.rf.s26.tr (hnd.ps _ t)
    have e23 : (hnd (qm_si h 26 0 0) t).1 26 23 = nI (nn (tw h t)) := hn
    obtain ⟨n, hnn⟩ : ∃ n, n = nn (tw h t) := ⟨_, rfl⟩
    rw [← hnn] at eP e23 hn6
    have p6 := (s_pow6 hn6).1
    refine ⟨fun q => absurd q (by decide), fun _ => ⟨0, 0, _, e_in hG (d + 3) (hnd (qm_si h 26 0 0) t) f 0 5, ⟨Nat.le_refl _, Nat.le_refl _⟩, ?_⟩⟩
    rintro _ _ ⟨rfl, rfl⟩
    refine b2_ne (fun hf => ?_) (fun hf => ⟨trivial, congV (by rw [eP, show inb f 6 = false from hf]; rfl), p0⟩)
    have hf1 : inb f 6 = true := hf
    rw [if_pos hf1, s_tell] at eP
    refine ⟨rfl, rfl, ?_⟩
    have ew : (1 : Int32) <<< ((hnd (qm_si h 26 0 0) t).1 26 23 &&& 31) - 1 = nI (2 ^ n - 1) := by rw [e23]; exact (s_pow hn6).1
    refine ⟨0, 0, _, e_findLeft hG (d + 0) (hnd (qm_si h 26 0 0) t) (t := t) (n := n) rfl (by omega) e23 hn6 _, ⟨Nat.le_refl _, Nat.le_refl _⟩, ?_⟩
    rintro _ h2 ⟨rfl, c1, c2⟩
    have c1 : h2.1 43 = s_leftOn (tw h t) n (nI (2 ^ n - 1)) ((hnd (qm_si h 26 0 0) t).1 43) (2 ^ n) := by rw [← ew]; exact c1
    have g22 : h2.1 26 22 = nI t := by rw [c2.2 26 (by decide)]; rfl
    have g23 : h2.1 26 23 = nI n := by rw [c2.2 26 (by decide)]; exact e23
    have g39 : h2.1 39 = mi0 (tw h t) := by rw [c2.2 39 (by decide)]; rfl
    have gtw : tw h2 t = tw h t := by
      have : tw (hnd (qm_si h 26 0 0) t) t = tw h t := rfl
      rw [← this]; unfold tw; rw [c2.2 32 (by decide)]
    have fin : pers h h2 := p0.tr (c2.mono (by decide))
    obtain ⟨w, hww⟩ : ∃ w, w = tw h t := ⟨_, rfl⟩
    refine ⟨rfl, 0, 0, _, e_knowers hG (d + 2) h2 g23 hn6 f, ⟨Nat.le_refl _, Nat.le_refl _⟩, ?_⟩
    rintro _ _ ⟨rfl, rfl⟩
    rw [g39, kn_N _ _ _ hn6]
    have hk := knN_lt (mi0 (tw h t)) f (n := n) n (Nat.le_refl _)
    have tab : ∀ s, s < 2 ^ n → h2.1 43 s = lI 1000000 (lf w n (2 ^ n - 1) 64 s) := fun s hs => by
      rw [c1, hww]
      exact leftT (tw h t) ((hnd (qm_si h 26 0 0) t).1 43) hn6 (by omega) (2 ^ n) (Nat.le_refl _) s (by omega) hs
    rw [← hww] at eP gtw hk ⊢
    obtain ⟨K, hK⟩ : ∃ K, K = knN (mi0 w) f n := ⟨_, rfl⟩
    rw [← hK] at eP hk ⊢
    have ev : h2.1 43 (nI K).toNatClampNeg = lI 1000000 (lf w n (2 ^ n - 1) 64 K) := by
      rw [nI_clamp (by omega)]; exact tab K hk
    have hl := lf_le (w := w) (n := n) (wt := 2 ^ n - 1)
    refine ⟨rfl, _, rfl, rfl, (vp_in_nI (by omega) (by decide) : vp_in (nI K) 64), ?_⟩
    rw [ev]
    have m44 : p_tell h mt (nI t) f k = -1 → ∀ x y, qm_PW G mX10_tellings z 44 0 0 [vr 26, vi (nI t), vi f, vi k, vi x, vi y, vu, vu] [] h2 := fun e x y => qm_wp_ok hA [] 20 _ _ _ _ _ _ ⟨trivial, congV e.symm, fin⟩
    cases q : lf w n (2 ^ n - 1) 64 K with
    | none =>
      rw [q] at eP
      exact ⟨fun _ => m44 eP _ _, fun z => absurd (by decide) z⟩
    | some v =>
      rw [q] at eP
      have eP : p_tell h mt (nI t) f k = if k = -1 then nI v else if inb k v then nI ((tPath w n (2 ^ n - 1) v K).getD k.toNatClampNeg 0) else -1 := eP
      have hv := hl 64 K v q
      refine ⟨fun (z : nI 1000000 ≤ nI v) => absurd z (nI_ge (by omega) (by omega)), fun _ => ⟨fun (e : k = -1) => ?_, fun (e : ¬ k = -1) => ⟨0, 0, _, e_in hG (d + 3) h2 k 0 (nI v - 1), ⟨Nat.le_refl _, Nat.le_refl _⟩, ?_⟩⟩⟩
      · rw [if_pos e] at eP
        subst e
        exact qm_wp_ok hA [] 40 _ _ _ _ _ _ ⟨fun _ => ⟨trivial, congV eP.symm, fin⟩, fun (z : ¬ (-1 : Int32) < 0) => absurd (by decide) z⟩
      · rintro _ _ ⟨rfl, rfl⟩
        refine b2_ne (fun hb => ?_) (fun hb => m44 (by rw [eP, if_neg e, show inb k v = false from hb]; rfl) _ _)
        have hb : inb k v = true := hb
        rw [if_neg e, if_pos hb] at eP
        obtain ⟨kk, hkk, rfl⟩ := inb_e (by omega) hb
        rw [nI_clamp (by omega)] at eP
        obtain ⟨V, hV⟩ : ∃ V, V = (tPath w n (2 ^ n - 1) v K).getD kk 0 := ⟨_, rfl⟩
        rw [← hV] at eP
        have main : ∀ r i set v' p : Nat, i + r = kk + 1 → set < 2 ^ n → lf w n (2 ^ n - 1) 64 set = some v' → r ≤ v' → v' ≤ 64 → (r = 0 → p = V) → (∀ r', r = r' + 1 → (tPath w n (2 ^ n - 1) v' set).getD r' 0 = V) → qm_PW G mX10_tellings z 50 0 0 [vr 26, vi (nI t), vi f, vi (nI kk), vi (nI set), vu, vi (nI p), vi (nI i)] [] h2 := by
          intro r
          induction r with
          | zero =>
            intro i set v' p e1 e2 e3 _ _ e4 _
            exact qm_wp_ok hA [] 20 _ _ _ _ _ _ ⟨fun _ => ⟨trivial, congV (by rw [eP, e4 rfl]), fin⟩, fun (q : ¬ nI kk < nI i) => absurd (nI_lt (by omega) (by omega)) q⟩
          | succ r ih =>
            intro i set v' p e1 e2 e3 e4 e5 _ e6
            have e6 := e6 r rfl
            obtain ⟨v1, rfl⟩ : ∃ v1, v' = v1 + 1 := ⟨v' - 1, by omega⟩
            obtain ⟨t1, t2, t3, t4⟩ := tF_spec hn6 (by omega : set < 64) e3
            rw [tPath] at e6
            obtain ⟨F, hF⟩ : ∃ F, F = tF w n (2 ^ n - 1) v1 set := ⟨_, rfl⟩
            rw [← hF] at t1 t2 t3 t4 e6
            have sF : ∀ p, set ||| hbN w p n < 2 ^ n := fun p => Nat.or_lt_two_pow e2 (hbN_lt w p n (Nat.le_refl _))
            have nx := ih (i + 1) (set ||| hbN w F n) v1 F (by omega) (sF F) t3 (by omega) (by omega) (fun e => by subst e; exact e6) (fun r' er => by subst er; exact e6)
            rw [← nI_1] at nx
            have eset : h2.1 43 (nI set).toNatClampNeg = nI (v1 + 1) := by rw [nI_clamp (by omega), tab set e2, e3]; rfl
            have etold : ∀ p, s_toldBy (tw h2 t) (nI set) p n = nI (set ||| hbN w p n) := fun p => by rw [gtw, told_N w set p n hn6]
            have hin : ∀ s, s < 2 ^ n → vp_in (nI s) 64 := fun s hs => vp_in_nI (by omega) (by decide)
            have etab : ∀ p, h2.1 43 (nI (set ||| hbN w p n)).toNatClampNeg = lI 1000000 (lf w n (2 ^ n - 1) 64 (set ||| hbN w p n)) := fun p => by rw [nI_clamp (by have := sF p; omega), tab _ (sF p)]
            refine qm_wp_ok hA [55] 20 _ _ _ _ _ _ ⟨fun (q : nI kk < nI i) => absurd q (nI_nlt (by omega) (by omega)), fun _ => ?_⟩
            refine qm_for (P := fun p => qm_PW G mX10_tellings z 55 0 0 [vr 26, vi (nI t), vi f, vi (nI kk), vi (nI set), vu, vi (nI p), vi (nI i)] [] h2) (N := F) ?_ ?_
            · refine qm_wp_ok hA [50, 55] 60 _ _ _ _ _ _ ⟨0, 0, _, e_has hG (d + 3) h2 (nI set) (nI F), ⟨Nat.le_refl _, Nat.le_refl _⟩, ?_⟩
              rintro _ _ ⟨rfl, rfl⟩
              refine b2_eq (fun _ => ⟨rfl, _, rfl, rfl, 0, 0, _, e_toldBy hG (d + 1) h2 (p := F) g22 (by omega) g23 hn6 (nI set), ⟨Nat.le_refl _, Nat.le_refl _⟩, ?_⟩) (fun hb2 => absurd hb2 (by rw [t2]; decide))
              rintro _ _ ⟨rfl, rfl⟩
              rw [etold]
              refine ⟨rfl, hin _ (sF F), rfl, _, rfl, rfl, hin _ e2, ?_⟩
              rw [etab F, eset, t3]
              refine ⟨fun _ => ⟨rfl, 0, 0, _, e_toldBy hG (d + 1) h2 (p := F) g22 (by omega) g23 hn6 (nI set), ⟨Nat.le_refl _, Nat.le_refl _⟩, ?_⟩, fun (z : ¬ nI v1 = nI (v1 + 1) - 1) => absurd (by rw [show (1 : Int32) = nI 1 from rfl, pk_sub (by omega)]; rfl) z⟩
              rintro _ _ ⟨rfl, rfl⟩
              rw [etold]
              exact nx
            · intro p hp key
              rw [← nI_1] at key
              refine qm_wp_ok hA [50, 55] 60 _ _ _ _ _ _ ⟨0, 0, _, e_has hG (d + 3) h2 (nI set) (nI p), ⟨Nat.le_refl _, Nat.le_refl _⟩, ?_⟩
              rintro _ _ ⟨rfl, rfl⟩
              refine b2_eq (fun hb2 => ⟨rfl, _, rfl, rfl, 0, 0, _, e_toldBy hG (d + 1) h2 (p := p) g22 (by omega) g23 hn6 (nI set), ⟨Nat.le_refl _, Nat.le_refl _⟩, ?_⟩) (fun hb2 => key)
              rintro _ _ ⟨rfl, rfl⟩
              rw [etold]
              refine ⟨rfl, hin _ (sF p), rfl, _, rfl, rfl, hin _ e2, ?_⟩
              rw [etab p, eset]
              refine ⟨fun (z : lI 1000000 (lf w n (2 ^ n - 1) 64 (set ||| hbN w p n)) = nI (v1 + 1) - 1) => ?_, fun _ => key⟩
              exfalso
              rw [show (1 : Int32) = nI 1 from rfl, pk_sub (by omega)] at z
              have hlx := hl 64 (set ||| hbN w p n)
              cases q2 : lf w n (2 ^ n - 1) 64 (set ||| hbN w p n) with
              | none =>
                rw [q2] at z
                have := (nI_eq (a := 1000000) (by omega) (by omega)).mp z
                omega
              | some x =>
                rw [q2] at z
                have hx := hlx x q2
                have := (nI_eq (a := x) (by omega) (by omega)).mp z
                exact t4 p hp ⟨hb2, by rw [q2, show x = v1 by omega]⟩
        have k0 := main (kk + 1) 0 K v v (by omega) hk q (by omega) (by omega) (fun z => by omega) (fun r' er => by
          obtain rfl : kk = r' := by omega
          exact hV.symm)
        refine qm_wp_ok hA [50] 20 _ _ _ _ _ _ ?_
        exact qm_PW.mask [true, true, true, true, true, false, true, true] k0
  · exact ⟨fun _ => ⟨trivial, by rw [p_tell, e0]; rfl, e1 ▸ pers.rf.s26⟩, fun q => absurd rfl q⟩
end
section
/-! bits -/
theorem bit_sh : ∀ k, k < 32 → ((nI k &&& 31).toBitVec.smod 32).toNat = k := by decide
theorem bit_t (x : Int32) {k : Nat} (hk : k < 32) : bit x (nI k) = x.toBitVec.getLsbD k := by
  have h1 : (x >>> (nI k &&& 31)).toBitVec = x.toBitVec.sshiftRight k := by
    rw [Int32.toBitVec_shiftRight, BitVec.sshiftRight', bit_sh k hk]
  rw [bit, Bool.eq_iff_iff, decide_eq_true_eq, ← Int32.toBitVec_inj, Int32.toBitVec_and, h1]
  have h0 : (x.toBitVec.sshiftRight k).getLsbD 0 = x.toBitVec.getLsbD k := by
    rw [BitVec.getLsbD_sshiftRight]
    simp [hk]
  rw [← h0]
  constructor
  · intro q
    have := congrArg (fun v => v.getLsbD 0) q
    simpa using this
  · intro q
    apply BitVec.eq_of_getLsbD_eq
    intro i hi
    show (BitVec.sshiftRight x.toBitVec k &&& 1#32).getLsbD i = (1#32).getLsbD i
    rw [BitVec.getLsbD_and, BitVec.getLsbD_one]
    by_cases e : i = 0
    · subst e; rw [q]; rfl
    · simp [e]
theorem bit_or (a b : Int32) {k : Nat} (hk : k < 32) : bit (a ||| b) (nI k) = (bit a (nI k) || bit b (nI k)) := by
  rw [bit_t _ hk, bit_t _ hk, bit_t _ hk, Int32.toBitVec_or, BitVec.getLsbD_or]
theorem bit_and (a b : Int32) {k : Nat} (hk : k < 32) : bit (a &&& b) (nI k) = (bit a (nI k) && bit b (nI k)) := by
  rw [bit_t _ hk, bit_t _ hk, bit_t _ hk, Int32.toBitVec_and, BitVec.getLsbD_and]
theorem bit_not (a : Int32) {k : Nat} (hk : k < 32) : bit (a ^^^ -1) (nI k) = !bit a (nI k) := by
  rw [bit_t _ hk, bit_t _ hk, Int32.toBitVec_xor, BitVec.getLsbD_xor]
  have : (-1 : Int32).toBitVec.getLsbD k = true := by
    have : ∀ k, k < 32 → (-1 : Int32).toBitVec.getLsbD k = true := by decide
    exact this k hk
  rw [this, Bool.xor_true]
theorem bit_0 {k : Nat} (hk : k < 32) : bit 0 (nI k) = false := by
  have : ∀ k, k < 32 → bit 0 (nI k) = false := by decide
  exact this k hk
theorem bit_n (s : Nat) {k : Nat} (hk : k < 32) : bit (nI s) (nI k) = s.testBit k := by
  rw [bit_t _ hk]
  show (BitVec.ofNat 32 s).getLsbD k = _
  rw [BitVec.getLsbD_ofNat]
  simp [hk]
theorem bit_ext {a b : Int32} (h : ∀ k, k < 32 → bit a (nI k) = bit b (nI k)) : a = b := by
  apply Int32.toBitVec_inj.1
  apply BitVec.eq_of_getLsbD_eq
  intro i hi
  have := h i hi
  rw [bit_t _ hi, bit_t _ hi] at this
  exact this
theorem worth_co {w : Nat → Int32} {a b : Int32} : ∀ k, k ≤ 6 → (∀ f, f < 6 → bit a (nI f) = bit b (nI f)) → worthN w a k = worthN w b k
  | 0, _, _ => rfl
  | k + 1, hk, h => by rw [worthN, worthN, worth_co k (by omega) h, h k (by omega)]
theorem worth_add {w : Nat → Int32} {a b c : Int32} : ∀ k, k ≤ 6 → (∀ f, f < 6 → bit c (nI f) = (bit a (nI f) || bit b (nI f)) ∧ (bit a (nI f) && bit b (nI f)) = false) → worthN w c k = worthN w a k + worthN w b k
  | 0, _, _ => rfl
  | k + 1, hk, h => by
    obtain ⟨h1, h2⟩ := h k (by omega)
    rw [worthN, worthN, worthN, worth_add k (by omega) h, h1]
    cases q1 : bit a (nI k)
    · cases q2 : bit b (nI k)
      · show _ + 0 = (_ + 0) + (_ + 0); omega
      · show _ + wN w k = (_ + 0) + (_ + wN w k); omega
    · cases q2 : bit b (nI k)
      · show _ + wN w k = (_ + wN w k) + (_ + 0); omega
      · rw [q1, q2] at h2; exact absurd h2 (by decide)
end
section
/-! the reference: the bell -/
def bst (w : Nat → Int32) (n p : Nat) (mi : Nat → Int32) (acc v : Nat) : Option ((Nat → Int32) × Nat) :=
  if v = 6 then some (mi, acc) else if bit (mi0 w p) (nI v) then some (tM w n mi p v, acc + toldN w mi p v n) else none
def bth (w : Nat → Int32) (n : Nat) : Nat → Nat → Option ((Nat → Int32) × Nat)
  | 0, _ => some (mi0 w, 0)
  | p + 1, K => match bth w n p (K / 7) with
    | none => none
    | some (mi, acc) => bst w n p mi acc (K % 7)
def bval (w : Nat → Int32) (n k : Nat) : Option Nat := match bth w n n k with
  | none => none
  | some (_, acc) => some acc
def cmb (x y : Option (Nat × Nat)) : Option (Nat × Nat) := match y with
  | none => x
  | some (j, v) => match x with
    | none => some (j, v)
    | some (b, u) => if u < v then some (j, v) else some (b, u)
theorem cmb_as (x y z : Option (Nat × Nat)) : cmb (cmb x y) z = cmb x (cmb y z) := by
  cases z with
  | none => rfl
  | some z =>
    obtain ⟨zj, zv⟩ := z
    cases y with
    | none => rfl
    | some y =>
      obtain ⟨yj, yv⟩ := y
      cases x with
      | none =>
        show cmb (some (yj, yv)) (some (zj, zv)) = cmb none (cmb (some (yj, yv)) (some (zj, zv)))
        cases cmb (some (yj, yv)) (some (zj, zv)) with
        | none => rfl
        | some _ => rfl
      | some x =>
        obtain ⟨xj, xv⟩ := x
        show cmb (if xv < yv then some (yj, yv) else some (xj, xv)) (some (zj, zv)) = cmb (some (xj, xv)) (if yv < zv then some (zj, zv) else some (yj, yv))
        by_cases c1 : xv < yv
        · rw [if_pos c1]
          by_cases c2 : yv < zv
          · rw [if_pos c2]
            show (if yv < zv then some (zj, zv) else some (yj, yv)) = if xv < zv then some (zj, zv) else some (xj, xv)
            rw [if_pos c2, if_pos (by omega)]
          · rw [if_neg c2]
            show (if yv < zv then some (zj, zv) else some (yj, yv)) = if xv < yv then some (yj, yv) else some (xj, xv)
            rw [if_neg c2, if_pos c1]
        · rw [if_neg c1]
          by_cases c2 : yv < zv
          · rw [if_pos c2]
          · rw [if_neg c2]
            show (if xv < zv then some (zj, zv) else some (xj, xv)) = if xv < yv then some (yj, yv) else some (xj, xv)
            rw [if_neg c1, if_neg (by omega)]
def fdc (x : Option (Nat × Nat)) (g : Nat → Option (Nat × Nat)) : Nat → Option (Nat × Nat)
  | 0 => x
  | k + 1 => cmb (fdc x g k) (g k)
theorem fdc_as (x : Option (Nat × Nat)) (g : Nat → Option (Nat × Nat)) : ∀ k, fdc x g k = cmb x (fdc none g k)
  | 0 => rfl
  | k + 1 => by rw [fdc, fdc, fdc_as x g k, cmb_as]
theorem fdc_co {x : Option (Nat × Nat)} {g g' : Nat → Option (Nat × Nat)} : ∀ k, (∀ j, j < k → g j = g' j) → fdc x g k = fdc x g' k
  | 0, _ => rfl
  | k + 1, h => by rw [fdc, fdc, fdc_co k (fun j hj => h j (by omega)), h k (by omega)]
theorem fdc_no {x : Option (Nat × Nat)} {g : Nat → Option (Nat × Nat)} : ∀ k, (∀ j, j < k → g j = none) → fdc x g k = x
  | 0, _ => rfl
  | k + 1, h => by rw [fdc, fdc_no k (fun j hj => h j (by omega)), h k (by omega)]; rfl
/-- the first of the greatest -/
theorem fdc_first {g : Nat → Option (Nat × Nat)} {F J M : Nat} (hF : g F = some (J, M)) (hlt : ∀ v j x, v < F → g v = some (j, x) → x < M) : ∀ k, (∀ v j x, v < k → g v = some (j, x) → x ≤ M) → (k ≤ F → ∀ j x, fdc none g k = some (j, x) → x < M) ∧ (F < k → fdc none g k = some (J, M))
  | 0, _ => ⟨fun _ j x q => by rw [fdc] at q; exact absurd q (by simp), fun q => by omega⟩
  | k + 1, hle => by
    obtain ⟨i1, i2⟩ := fdc_first hF hlt k (fun v j x hv => hle v j x (by omega))
    refine ⟨fun hk j x q => ?_, fun hk => ?_⟩
    · rw [fdc] at q
      cases q1 : g k with
      | none => rw [q1] at q; exact i1 (by omega) j x q
      | some gv =>
        obtain ⟨gj, gx⟩ := gv
        have h1 := hlt k gj gx (by omega) q1
        rw [q1] at q
        cases q2 : fdc none g k with
        | none =>
          rw [q2] at q
          have := Option.some.inj q
          injection this with a b
          omega
        | some fv =>
          obtain ⟨fj, fx⟩ := fv
          have h2 := i1 (by omega) fj fx q2
          rw [q2] at q
          by_cases c : fx < gx
          · have e := Option.some.inj ((if_pos c).symm.trans q : some (gj, gx) = some (j, x))
            injection e with a b
            omega
          · have e := Option.some.inj ((if_neg c).symm.trans q : some (fj, fx) = some (j, x))
            injection e with a b
            omega
    · rw [fdc]
      by_cases e : k = F
      · subst e
        rw [hF]
        cases q2 : fdc none g k with
        | none => rfl
        | some fv =>
          obtain ⟨fj, fx⟩ := fv
          exact if_pos (i1 (Nat.le_refl _) fj fx q2)
      · rw [i2 (by omega)]
        cases q1 : g k with
        | none => rfl
        | some gv =>
          obtain ⟨gj, gx⟩ := gv
          exact if_neg (by have := hle k gj gx (by omega) q1; omega)
def bvO (L : (Nat → Int32) → Nat) (w : Nat → Int32) (n p : Nat) (mi : Nat → Int32) (v : Nat) : Option Nat :=
  if v = 6 then some (L mi) else if bit (mi0 w p) (nI v) then some (toldN w mi p v n + L (tM w n mi p v)) else none
def bV (w : Nat → Int32) (n : Nat) : Nat → Nat → (Nat → Int32) → Nat
  | 0, _, _ => 0
  | r + 1, p, mi => cM (bvO (bV w n r (p + 1)) w n p mi) 7
def bF (w : Nat → Int32) (n r p : Nat) (mi : Nat → Int32) : Nat := ff (fun v => decide (bvO (bV w n r (p + 1)) w n p mi v = some (bV w n (r + 1) p mi))) 7 0
theorem bF_spec (w : Nat → Int32) (n r p : Nat) (mi : Nat → Int32) : bF w n r p mi < 7 ∧ bvO (bV w n r (p + 1)) w n p mi (bF w n r p mi) = some (bV w n (r + 1) p mi) ∧ ∀ v, v < bF w n r p mi → ¬ bvO (bV w n r (p + 1)) w n p mi v = some (bV w n (r + 1) p mi) := by
  have hat : ∃ v, v < 7 ∧ bvO (bV w n r (p + 1)) w n p mi v = some (bV w n (r + 1) p mi) := by
    rw [bV]
    rcases Nat.eq_zero_or_pos (cM (bvO (bV w n r (p + 1)) w n p mi) 7) with e | e
    · refine ⟨6, by omega, ?_⟩
      have h6 : bvO (bV w n r (p + 1)) w n p mi 6 = some (bV w n r (p + 1) mi) := by rw [bvO, if_pos rfl]
      have := cM_ge h6 7 (by omega)
      rw [h6, e, show bV w n r (p + 1) mi = 0 by omega]
    · exact cM_at 7 e
  obtain ⟨v, h1, h2⟩ := hat
  obtain ⟨k1, k2, -, k4⟩ := ff_spec (p := fun v => decide (bvO (bV w n r (p + 1)) w n p mi v = some (bV w n (r + 1) p mi))) 7 0 ⟨v, by omega, by omega, decide_eq_true h2⟩
  refine ⟨by rw [bF]; omega, of_decide_eq_true k1, fun j hj q => ?_⟩
  exact absurd q (of_decide_eq_false (k4 j (by omega) hj))
def bmi (w : Nat → Int32) (n p : Nat) (mi : Nat → Int32) (v : Nat) : Nat → Int32 := if v = 6 then mi else tM w n mi p v
def bN (w : Nat → Int32) (n : Nat) : Nat → Nat → (Nat → Int32) → Nat
  | 0, _, _ => 0
  | r + 1, p, mi => bF w n r p mi * 7 ^ r + bN w n r (p + 1) (bmi w n p mi (bF w n r p mi))
theorem bst_v {w : Nat → Int32} {n p : Nat} {mi : Nat → Int32} {acc v : Nat} {L : (Nat → Int32) → Nat} : (bst w n p mi acc v = none ∧ bvO L w n p mi v = none) ∨ (∃ a, bst w n p mi acc v = some (bmi w n p mi v, acc + a) ∧ bvO L w n p mi v = some (a + L (bmi w n p mi v))) := by
  rw [bst, bvO, bmi]
  by_cases e : v = 6
  · rw [if_pos e, if_pos e, if_pos e]
    exact Or.inr ⟨0, by rw [Nat.add_zero], by rw [Nat.zero_add]⟩
  · rw [if_neg e, if_neg e, if_neg e]
    by_cases c : bit (mi0 w p) (nI v) = true
    · rw [if_pos c, if_pos c]
      exact Or.inr ⟨_, rfl, rfl⟩
    · rw [if_neg c, if_neg c]
      exact Or.inl ⟨rfl, rfl⟩
def kv (k : Nat) (o : Option Nat) : Option (Nat × Nat) := match o with
  | none => none
  | some v => some (k, v)
def amN (q : Nat → Option Nat) : Nat → Option (Nat × Nat) := fdc none (fun k => kv k (q k))
def blk (w : Nat → Int32) (n r p K : Nat) : Option (Nat × Nat) := match bth w n p K with
  | none => none
  | some (mi, acc) => some (7 ^ r * K + bN w n r p mi, acc + bV w n r p mi)
theorem amN_blk (w : Nat → Int32) (n : Nat) : ∀ r p K, p + r = n → amN (bval w n) (7 ^ r * (K + 1)) = cmb (amN (bval w n) (7 ^ r * K)) (blk w n r p K)
  | 0, p, K, h => by
    obtain rfl : p = n := h
    rw [Nat.pow_zero, Nat.one_mul, Nat.one_mul]
    show cmb (amN (bval w p) K) _ = _
    congr 1
    show kv K (bval w p K) = blk w p 0 p K
    rw [bval, blk]
    cases bth w p p K with
    | none => rfl
    | some st =>
      obtain ⟨mi, acc⟩ := st
      show some (K, acc) = some (7 ^ 0 * K + 0, acc + 0)
      rw [Nat.pow_zero, Nat.one_mul]; rfl
  | r + 1, p, K, h => by
    have ih := fun v => amN_blk w n r (p + 1) (7 * K + v) (by omega)
    have e7 : 7 ^ (r + 1) * K = 7 ^ r * (7 * K) := by rw [Nat.pow_succ, Nat.mul_assoc]
    have e8 : 7 ^ (r + 1) * (K + 1) = 7 ^ r * (7 * K + 7) := by rw [Nat.pow_succ, Nat.mul_assoc, Nat.mul_add]
    rw [e7, e8]
    have hf : ∀ k, amN (bval w n) (7 ^ r * (7 * K + k)) = fdc (amN (bval w n) (7 ^ r * (7 * K))) (fun v => blk w n r (p + 1) (7 * K + v)) k := by
      intro k
      induction k with
      | zero => rfl
      | succ k ihk => rw [fdc, ← ihk, ← Nat.add_assoc, ih k]
    rw [hf 7]
    have hch : ∀ j, j < 7 → bth w n (p + 1) (7 * K + j) = match bth w n p K with
        | none => none
        | some (mi, acc) => bst w n p mi acc j := fun j hj => by
      rw [bth, show (7 * K + j) / 7 = K by omega, show (7 * K + j) % 7 = j by omega]
    cases q : bth w n p K with
    | none =>
      rw [fdc_no 7 (fun j hj => by rw [blk, hch j hj, q])]
      rw [blk, q]; rfl
    | some st =>
      obtain ⟨mi, acc⟩ := st
      rw [fdc_as]
      congr 1
      obtain ⟨f1, f2, f3⟩ := bF_spec w n r p mi
      have hg : ∀ v, v < 7 → ∀ j x, blk w n r (p + 1) (7 * K + v) = some (j, x) → ∃ y, bvO (bV w n r (p + 1)) w n p mi v = some y ∧ x = acc + y := fun v hv j x e => by
        rw [blk, hch v hv, q] at e
        rcases bst_v (w := w) (n := n) (p := p) (mi := mi) (acc := acc) (v := v) (L := bV w n r (p + 1)) with ⟨b1, b2⟩ | ⟨a, b1, b2⟩
        · have e : (match bst w n p mi acc v with
            | none => none
            | some (mi, acc) => some (7 ^ r * (7 * K + v) + bN w n r (p + 1) mi, acc + bV w n r (p + 1) mi)) = some (j, x) := e
          rw [b1] at e; exact absurd e (by simp)
        · have e : (match bst w n p mi acc v with
            | none => none
            | some (mi, acc) => some (7 ^ r * (7 * K + v) + bN w n r (p + 1) mi, acc + bV w n r (p + 1) mi)) = some (j, x) := e
          rw [b1] at e
          have e := Option.some.inj e
          injection e with e1 e2
          exact ⟨_, b2, by omega⟩
      have hFb : blk w n r (p + 1) (7 * K + bF w n r p mi) = some (7 ^ r * (7 * K) + bN w n (r + 1) p mi, acc + bV w n (r + 1) p mi) := by
        rw [blk, hch _ f1, q]
        show (match bst w n p mi acc (bF w n r p mi) with
            | none => none
            | some (m2, a2) => some (7 ^ r * (7 * K + bF w n r p mi) + bN w n r (p + 1) m2, a2 + bV w n r (p + 1) m2)) = some (7 ^ r * (7 * K) + bN w n (r + 1) p mi, acc + bV w n (r + 1) p mi)
        rcases bst_v (w := w) (n := n) (p := p) (mi := mi) (acc := acc) (v := bF w n r p mi) (L := bV w n r (p + 1)) with ⟨b1, b2⟩ | ⟨a, b1, b2⟩
        · rw [f2] at b2; exact absurd b2 (by simp)
        · rw [b1]
          show some (_, _) = some (_, _)
          rw [f2] at b2
          rw [Option.some.inj b2, bN, Nat.mul_add, Nat.add_assoc acc, Nat.mul_comm (7 ^ r) (bF w n r p mi), Nat.add_assoc]
      have := (fdc_first (g := fun v => blk w n r (p + 1) (7 * K + v)) (F := bF w n r p mi) hFb (fun v j x hv e => by
        obtain ⟨y, y1, y2⟩ := hg v (by omega) j x e
        have h1 : y ≤ bV w n (r + 1) p mi := by rw [bV]; exact cM_ge y1 7 (by omega)
        have h2 : y ≠ bV w n (r + 1) p mi := fun z => f3 v hv (by rw [y1, z])
        omega) 7 (fun v j x hv e => by
        obtain ⟨y, y1, y2⟩ := hg v hv j x e
        have h1 : y ≤ bV w n (r + 1) p mi := by rw [bV]; exact cM_ge y1 7 hv
        omega)).2 f1
      rw [this, blk, q]
      show some (_, _) = some (7 ^ (r + 1) * K + _, _)
      rw [e7]
theorem amN_bell (w : Nat → Int32) (n : Nat) : amN (bval w n) (7 ^ n) = some (bN w n n 0 (mi0 w), bV w n n 0 (mi0 w)) := by
  have h := amN_blk w n n 0 0 (Nat.zero_add _)
  rw [Nat.zero_add, Nat.mul_one, Nat.mul_zero] at h
  rw [h, blk, bth]
  show some (7 ^ n * 0 + _, 0 + _) = _
  rw [Nat.mul_zero, Nat.zero_add, Nat.zero_add]
theorem amN_in {q : Nat → Option Nat} : ∀ k b v, amN q k = some (b, v) → b < k ∧ q b = some v
  | 0, b, v, h => by
    have h : (none : Option (Nat × Nat)) = some (b, v) := h
    exact absurd h (by simp)
  | k + 1, b, v, h => by
    have h : cmb (amN q k) (kv k (q k)) = some (b, v) := h
    cases q1 : q k with
    | none =>
      rw [q1] at h
      have := amN_in k b v h
      exact ⟨by omega, this.2⟩
    | some x =>
      rw [q1] at h
      cases q2 : amN q k with
      | none =>
        rw [q2] at h
        have := Option.some.inj h
        injection this with a c
        exact ⟨by omega, by rw [← a, q1, c]⟩
      | some bv =>
        obtain ⟨b0, v0⟩ := bv
        rw [q2] at h
        by_cases c : v0 < x
        · have e := Option.some.inj ((if_pos c).symm.trans h : some (k, x) = some (b, v))
          injection e with e1 e2
          exact ⟨by omega, by rw [← e1, q1, e2]⟩
        · have e := Option.some.inj ((if_neg c).symm.trans h : some (b0, v0) = some (b, v))
          injection e with e1 e2
          have := amN_in k b0 v0 q2
          rw [← e1, ← e2]
          exact ⟨by omega, this.2⟩
/-! what a row brings, told one behind the other -/
theorem or_an (a b : Int32) : a ||| (b &&& (a ^^^ -1)) = a ||| b := by
  refine bit_ext fun k hk => ?_
  rw [bit_or _ _ hk, bit_and _ _ hk, bit_not _ hk, bit_or _ _ hk]
  cases bit a (nI k) <;> cases bit b (nI k) <;> rfl
def sumo (g : Nat → Nat) : Nat → Nat
  | 0 => 0
  | o + 1 => sumo g o + g o
theorem sumo_add {g a b : Nat → Nat} : ∀ k, (∀ o, o < k → g o = a o + b o) → sumo g k = sumo a k + sumo b k
  | 0, _ => rfl
  | k + 1, h => by
    rw [sumo, sumo, sumo, sumo_add k (fun o ho => h o (by omega)), h k (by omega)]
    omega
theorem told_sumo (w mi : Nat → Int32) (p f : Nat) : ∀ k, toldN w mi p f k = sumo (fun o => worthN w (frs w mi p f o) 6) k
  | 0 => rfl
  | k + 1 => by rw [toldN, sumo, told_sumo w mi p f k]
theorem row_co {w : Nat → Int32} {row row' : Nat → Int32} {o : Nat} : ∀ p, (∀ j, j < p → row j = row' j) → s_rowset w row o p = s_rowset w row' o p
  | 0, _ => rfl
  | p + 1, h => by rw [s_rowset, s_rowset, row_co p (fun j hj => h j (by omega)), h p (by omega)]
theorem byRow_N {w : Nat → Int32} (hw : VW w) (mi row : Nat → Int32) (n : Nat) : ∀ k, s_byRow w mi row n k = nI (sumo (fun o => worthN w (s_rowset w row o n &&& (mi o ^^^ -1)) 6) k) ∧ sumo (fun o => worthN w (s_rowset w row o n &&& (mi o ^^^ -1)) 6) k ≤ 120 * k
  | 0 => ⟨rfl, Nat.le_refl _⟩
  | k + 1 => by
    obtain ⟨i1, i2⟩ := byRow_N hw mi row n k
    obtain ⟨j1, j2⟩ := worth_N hw (s_rowset w row k n &&& (mi k ^^^ -1)) 6 (Nat.le_refl _)
    rw [s_byRow, sumo, i1, j1, nI_add]
    exact ⟨rfl, by omega⟩
theorem bth_row {w : Nat → Int32} {n k : Nat} : ∀ p, p ≤ n → match bth w n p (k / 7 ^ (n - p)) with
    | none => ¬ ∀ j, j < p → s_rok (mi0 w) n k j
    | some (mi, acc) => (∀ j, j < p → s_rok (mi0 w) n k j) ∧ (∀ o, o < n → mi o = mi0 w o ||| s_rowset w (fun j => nI (s_dg n k j)) o p) ∧ acc = sumo (fun o => worthN w (s_rowset w (fun j => nI (s_dg n k j)) o p &&& (mi0 w o ^^^ -1)) 6) n
  | 0, _ => by
    rw [bth]
    refine ⟨fun j hj => by omega, fun o _ => ?_, ?_⟩
    · rw [s_rowset]; exact (Int32.or_zero).symm
    · have : ∀ m, sumo (fun o => worthN w (s_rowset w (fun j => nI (s_dg n k j)) o 0 &&& (mi0 w o ^^^ -1)) 6) m = 0 := by
        intro m
        induction m with
        | zero => rfl
        | succ m ih =>
          rw [sumo, ih, s_rowset, Nat.zero_add]
          have : ∀ x, x ≤ 6 → worthN w ((0 : Int32) &&& (mi0 w m ^^^ -1)) x = 0 := by
            intro x
            induction x with
            | zero => exact fun _ => rfl
            | succ x ihx =>
              intro hx
              rw [worthN, ihx (by omega), bit_and _ _ (by omega), bit_0 (by omega)]; rfl
          exact this 6 (Nat.le_refl _)
      exact (this n).symm
  | p + 1, hp => by
    have ih := bth_row (w := w) (n := n) (k := k) p (by omega)
    have ek : k / 7 ^ (n - (p + 1)) / 7 = k / 7 ^ (n - p) := by
      rw [Nat.div_div_eq_div_mul, ← Nat.pow_succ, show (n - (p + 1)).succ = n - p by omega]
    have ed : k / 7 ^ (n - (p + 1)) % 7 = s_dg n k p := by
      rw [s_dg, show n - (p + 1) = n - 1 - p by omega]
    rw [bth, ek, ed]
    cases q : bth w n p (k / 7 ^ (n - p)) with
    | none =>
      rw [q] at ih
      exact fun z => ih (fun j hj => z j (by omega))
    | some st =>
      obtain ⟨mi, acc⟩ := st
      rw [q] at ih
      obtain ⟨r1, r2, r3⟩ := ih
      have hd7 : s_dg n k p < 7 := Nat.mod_lt _ (by decide)
      obtain ⟨v, hv⟩ : ∃ v, v = s_dg n k p := ⟨_, rfl⟩
      show (match bst w n p mi acc (s_dg n k p) with
        | none => ¬ ∀ j, j < p + 1 → s_rok (mi0 w) n k j
        | some (mi, acc) => (∀ j, j < p + 1 → s_rok (mi0 w) n k j) ∧ (∀ o, o < n → mi o = mi0 w o ||| s_rowset w (fun j => nI (s_dg n k j)) o (p + 1)) ∧ acc = sumo (fun o => worthN w (s_rowset w (fun j => nI (s_dg n k j)) o (p + 1) &&& (mi0 w o ^^^ -1)) 6) n)
      rw [bst]
      by_cases c6 : s_dg n k p = 6
      · rw [if_pos c6]
        have ers : ∀ o, s_rowset w (fun j => nI (s_dg n k j)) o (p + 1) = s_rowset w (fun j => nI (s_dg n k j)) o p := fun o => by
          rw [s_rowset]
          simp only [c6]
          rw [if_neg (fun z => absurd z.1 (by decide))]
          exact Int32.or_zero
        refine ⟨fun j hj => ?_, fun o ho => ?_, ?_⟩
        · by_cases e : j = p
          · rw [e]; intro z; omega
          · exact r1 j (by omega)
        · rw [ers]; exact r2 o ho
        · rw [r3]; simp only [ers]
      · rw [if_neg c6]
        have hlt : s_dg n k p < 6 := by omega
        by_cases cb : bit (mi0 w p) (nI (s_dg n k p)) = true
        · rw [if_pos cb]
          have ers : ∀ o, s_rowset w (fun j => nI (s_dg n k j)) o (p + 1) = s_rowset w (fun j => nI (s_dg n k j)) o p ||| (if s_hears w o p = true then s_whole w (s_dg n k p) else 0) := fun o => by
            rw [s_rowset]
            show _ ||| (if nI (s_dg n k p) < 6 ∧ s_hears w o p = true then s_whole w (nI (s_dg n k p)).toNatClampNeg else 0) = _
            rw [nI_clamp (by omega)]
            by_cases ch : s_hears w o p = true
            · rw [if_pos ⟨nI_lt (b := 6) hlt (by decide), ch⟩, if_pos ch]
            · rw [if_neg (fun z => ch z.2), if_neg ch]
          refine ⟨fun j hj => ?_, fun o ho => ?_, ?_⟩
          · by_cases e : j = p
            · rw [e]; exact fun _ => cb
            · exact r1 j (by omega)
          · show tM w n mi p (s_dg n k p) o = _
            rw [tM, if_pos ho, frs, ers, r2 o ho]
            split
            · rw [or_an, Int32.or_assoc]
            · rw [Int32.or_zero, Int32.or_zero]
          · show acc + toldN w mi p (s_dg n k p) n = _
            rw [r3, told_sumo]
            refine (sumo_add n fun o ho => ?_).symm
            refine worth_add 6 (Nat.le_refl _) fun f hf => ?_
            rw [frs, ers, r2 o ho]
            split
            · rw [bit_and _ _ (by omega), bit_or _ _ (by omega), bit_not _ (by omega), bit_and _ _ (by omega), bit_not _ (by omega), bit_and _ _ (by omega), bit_not _ (by omega), bit_or _ _ (by omega)]
              cases bit (mi0 w o) (nI f) <;> cases bit (s_rowset w (fun j => nI (s_dg n k j)) o p) (nI f) <;> cases bit (s_whole w (s_dg n k p)) (nI f) <;> exact ⟨rfl, rfl⟩
            · rw [Int32.or_zero, bit_0 (by omega), Bool.or_false, Bool.and_false]
              exact ⟨rfl, rfl⟩
        · rw [if_neg cb]
          exact fun z => cb (z p (by omega) hlt)
theorem bval_le {w : Nat → Int32} (hw : VW w) {n k v : Nat} (hn : n ≤ 6) (h : bval w n k = some v) : v ≤ 720 := by
  have hr := bth_row (w := w) (n := n) (k := k) n (Nat.le_refl _)
  rw [Nat.sub_self, Nat.pow_zero, Nat.div_one] at hr
  rw [bval] at h
  cases q : bth w n n k with
  | none => rw [q] at h; exact absurd h (by simp)
  | some st =>
    obtain ⟨mi, acc⟩ := st
    rw [q] at h hr
    have e : acc = v := Option.some.inj h
    have := (byRow_N hw (mi0 w) (fun j => nI (s_dg n k j)) n n).2
    have := hr.2.2
    omega
def s_bell (w : Nat → Int32) (n : Nat) (k : Int32) : Int32 := if k = -1 then nI (bV w n n 0 (mi0 w)) else if inb k n then nI (s_dg n (bN w n n 0 (mi0 w)) k.toNatClampNeg) else -1
def p_bell (h : qm_H) (mt : Nat) (a k : Int32) : Int32 := if inb a mt then s_bell (tw h a.toNatClampNeg) (nn (tw h a.toNatClampNeg)) k else -1
theorem am_step {x : Option (Nat × Nat)} {k : Nat} {o : Option Nat} (hx : ∀ b v, x = some (b, v) → v ≤ 720) (ho : ∀ v, o = some v → v ≤ 720) : (if s_oi o ≤ oi2 x then oi1 x else nI k) = oi1 (cmb x (kv k o)) ∧ mx (oi2 x) (s_oi o) = oi2 (cmb x (kv k o)) := by
  cases o with
  | none =>
    cases x with
    | none => exact ⟨rfl, rfl⟩
    | some bv =>
      obtain ⟨b, v⟩ := bv
      have := hx b v rfl
      show (if (-1 : Int32) ≤ nI v then nI b else nI k) = nI b ∧ mx (nI v) (-1) = nI v
      rw [if_pos (m1_nI (by omega)), mx, if_neg (nI_m1 (by omega))]
      exact ⟨rfl, rfl⟩
  | some u =>
    have hu := ho u rfl
    cases x with
    | none =>
      show (if nI u ≤ (-1 : Int32) then -1 else nI k) = nI k ∧ mx (-1) (nI u) = nI u
      rw [if_neg (nI_m1 (by omega)), mx, if_pos (m1_nI (by omega))]
      exact ⟨rfl, rfl⟩
    | some bv =>
      obtain ⟨b, v⟩ := bv
      have hv := hx b v rfl
      show (if nI u ≤ nI v then nI b else nI k) = oi1 (if v < u then some (k, u) else some (b, v)) ∧ mx (nI v) (nI u) = oi2 (if v < u then some (k, u) else some (b, v))
      by_cases c : v < u
      · rw [if_pos c, if_neg (nI_ge c (by omega)), mx_N (by omega) (by omega), Nat.max_eq_right (by omega)]
        exact ⟨rfl, rfl⟩
      · rw [if_neg c, if_pos (nI_le (by omega) (by omega)), mx_N (by omega) (by omega), Nat.max_eq_left (by omega)]
        exact ⟨rfl, rfl⟩
theorem a_bell {G : qm_G} (hG : G.2.2.2.2 = true) (d : Nat) (h : qm_H) {mt my ml : Nat} (hS : ST h mt my ml) (a k : Int32) : qm_Ev G (d + 4) 0 0 qyX10_bell [.ref 26, .int a, .int k] h (fun r h' => r = some (.int (p_bell h mt a k)) ∧ pers h h') := by
  obtain ⟨s1, s2, -, -, -, -, hT, -⟩ := hS
  refine qm_Ev.by (M := mX10_bell) okX10_bell (Nat.le_of_ble_eq_true rfl) hG fun z hA => ?_
  refine qm_wp_ok hA [26] 40 _ _ _ _ _ _ ?_
  refine ⟨rfl, trivial, rfl, 0, 0, _, e_handC hG (d + 1) (qm_si h 26 0 0) (mt := mt) s1 s2 a, ⟨Nat.le_refl _, Nat.le_refl _⟩, ?_⟩
  rintro _ h1 (⟨t, ht, rfl, rfl, rfl⟩ | ⟨e0, rfl, e1⟩)
  · obtain ⟨i1, i2⟩ := p_in ht s2
    have hV := hT t ht
    have hw := hV.w
    obtain ⟨hn6, hn, -⟩ := hV
    have eP : p_bell h mt (nI t) k = s_bell (tw h t) (nn (tw h t)) k := by rw [p_bell, i1, i2]; rfl
    have p0 : pers h (hnd (qm_si h 26 0 0) t) := pers.rf.s26.tr (hnd.ps _ t)
    have e22 : (hnd (qm_si h 26 0 0) t).1 26 22 = nI t := rfl
    have e23 : (hnd (qm_si h 26 0 0) t).1 26 23 = nI (nn (tw h t)) := hn
    have e39 : (hnd (qm_si h 26 0 0) t).1 39 = mi0 (tw h t) := rfl
    have etw : tw (hnd (qm_si h 26 0 0) t) t = tw h t := rfl
    obtain ⟨h0, hh0⟩ : ∃ h0, h0 = hnd (qm_si h 26 0 0) t := ⟨_, rfl⟩
    obtain ⟨n, hnn⟩ : ∃ n, n = nn (tw h t) := ⟨_, rfl⟩
    obtain ⟨w, hww⟩ : ∃ w, w = tw h t := ⟨_, rfl⟩
    rw [← hh0] at p0 e22 e23 e39 etw
    rw [← hnn] at eP e23 hn6
    rw [← hww] at eP e39 etw hw
    rw [← hh0]
    refine ⟨fun q => absurd q (by decide), fun _ => ⟨rfl, ?_⟩⟩
    refine ⟨0, 0, _, e_in hG (d + 3) h0 k (-1) (h0.1 26 23 - 1), ⟨Nat.le_refl _, Nat.le_refl _⟩, ?_⟩
    rintro _ _ ⟨rfl, rfl⟩
    rw [e23, in_m1 hn6]
    have fr1 : ∀ h', sb [44] h0 h' → h'.1 26 22 = nI t ∧ h'.1 26 23 = nI n ∧ tw h' t = w ∧ h'.1 39 = mi0 w := fun h' c => ⟨by rw [c.2 26 (by decide), e22], by rw [c.2 26 (by decide), e23], by rw [← etw]; unfold tw; rw [c.2 32 (by decide)], by rw [c.2 39 (by decide), e39]⟩
    obtain ⟨p1, p2⟩ := s_pow7 hn6
    refine b2_ne (fun hb => ?_) (fun hb => ⟨trivial, congV ?_, p0⟩)
    · refine ⟨rfl, 0, 0, _, e_rows hG (d + 3) h0 e23 hn6, ⟨Nat.le_refl _, Nat.le_refl _⟩, ?_⟩
      rintro _ _ ⟨rfl, rfl⟩
      refine qm_for (P := fun j => ∀ h', sb [44] h0 h' → qm_PW G mX10_bell z 26 0 0 [vr 26, vi (nI t), vi k, vi (oi1 (amN (bval w n) j)), vi (oi2 (amN (bval w n) j)), vi (nI (7 ^ n)), vi (nI j), vu] [] h') (N := 7 ^ n) ?_ ?_ h0 sb.rf
      · intro h' c1
        obtain ⟨g22, g23, gtw, g39⟩ := fr1 h' c1
        have hbell := amN_bell w n
        obtain ⟨b1, b2⟩ := amN_in _ _ _ hbell
        rw [hbell]
        refine qm_wp_ok hA [] 40 _ _ _ _ _ _ ⟨fun _ => ⟨rfl, 0, 0, _, e_layRow hG (d + 2) h' (n := n) (k := bN w n n 0 (mi0 w)) g23 hn6 (by omega), ⟨Nat.le_refl _, Nat.le_refl _⟩, ?_⟩, fun (q : ¬ nI (7 ^ n) ≤ nI (7 ^ n)) => absurd (Int32.le_refl _) q⟩
        rintro _ h2 ⟨d1, ⟨rfl, d2⟩ | ⟨rfl, d2⟩⟩
        · have fin : pers h h2 := p0.tr ((c1.tr d1).mono (by decide))
          refine ⟨fun (q : ¬ k = -1) => ?_, fun (q : k = -1) => ⟨trivial, congV (by rw [eP, s_bell, if_pos q]; rfl), fin⟩⟩
          have hb2 : inb k n = true := by
            rw [decide_eq_false q] at hb; exact hb
          obtain ⟨kk, hkk, rfl⟩ := inb_e (by omega) hb2
          refine ⟨rfl, _, rfl, rfl, (vp_in_nI (by omega) (by decide) : vp_in (nI kk) 6), trivial, congV ?_, fin⟩
          rw [eP, s_bell, if_neg q, if_pos hb2, nI_clamp (by omega)]
          exact (d2 kk hkk).2
        · exfalso
          rw [g39] at d2
          obtain ⟨p, hp, hpr⟩ := d2
          have hr := bth_row (w := w) (n := n) (k := bN w n n 0 (mi0 w)) n (Nat.le_refl _)
          rw [Nat.sub_self, Nat.pow_zero, Nat.div_one] at hr
          rw [bval] at b2
          cases q : bth w n n (bN w n n 0 (mi0 w)) with
          | none => rw [q] at b2; exact absurd b2 (by simp)
          | some st =>
            obtain ⟨mi, acc⟩ := st
            rw [q] at hr
            exact hpr (hr.1 p hp)
      · intro j hj nx h' c1
        obtain ⟨g22, g23, gtw, g39⟩ := fr1 h' c1
        have hst := am_step (x := amN (bval w n) j) (k := j) (o := bval w n j) (fun b v e => bval_le hw hn6 (amN_in _ _ _ e).2) (fun v e => bval_le hw hn6 e)
        have hnx : amN (bval w n) (j + 1) = cmb (amN (bval w n) j) (kv j (bval w n j)) := rfl
        rw [← hnx] at hst
        have m37 : ∀ h2, sb [44] h0 h2 → ∀ s0, s0 = s_oi (bval w n j) → qm_PW G mX10_bell z 37 0 0 [vr 26, vi (nI t), vi k, vi (oi1 (amN (bval w n) j)), vi (oi2 (amN (bval w n) j)), vi (nI (7 ^ n)), vi (nI j), vu] [.int s0] h2 := by
          intro h2 c2 s0 hs
          have key := nx h2 c2
          rw [← hst.1, ← hst.2, ← nI_1, ← hs] at key
          refine qm_wp_ok hA [26] 40 _ _ _ _ _ _ ⟨fun (q : s0 ≤ oi2 (amN (bval w n) j)) => ⟨0, 0, _, e_greater hG (d + 3) h2 _ _, ⟨Nat.le_refl _, Nat.le_refl _⟩, ?_⟩, fun (q : ¬ s0 ≤ oi2 (amN (bval w n) j)) => ⟨0, 0, _, e_greater hG (d + 3) h2 _ _, ⟨Nat.le_refl _, Nat.le_refl _⟩, ?_⟩⟩
          · rintro _ _ ⟨rfl, rfl⟩
            rw [if_pos q] at key
            exact qm_PW.mask [true, true, true, true, true, true, true, false] key
          · rintro _ _ ⟨rfl, rfl⟩
            rw [if_neg q] at key
            exact qm_PW.mask [true, true, true, true, true, true, true, false] key
        have hr := bth_row (w := w) (n := n) (k := j) n (Nat.le_refl _)
        rw [Nat.sub_self, Nat.pow_zero, Nat.div_one] at hr
        refine qm_wp_ok hA [37] 40 _ _ _ _ _ _ ⟨fun (q : nI (7 ^ n) ≤ nI j) => absurd q (nI_ge hj (by omega)), fun _ => ⟨rfl, 0, 0, _, e_layRow hG (d + 2) h' (n := n) (k := j) g23 hn6 (by omega), ⟨Nat.le_refl _, Nat.le_refl _⟩, ?_⟩⟩
        rintro _ h2 ⟨d1, ⟨rfl, d2⟩ | ⟨rfl, d2⟩⟩
        · refine ⟨fun q => absurd q (by decide), fun _ => ?_⟩
          obtain ⟨k22, k23, ktw, k39⟩ := fr1 h2 (c1.tr d1)
          refine ⟨rfl, 0, 0, _, e_learntByRow hG (d + 1) h2 (t := t) (n := n) k22 (by omega) k23 hn6 (fun p hp => ⟨_, Nat.mod_lt _ (by decide), (d2 p hp).2⟩), ⟨Nat.le_refl _, Nat.le_refl _⟩, ?_⟩
          rintro _ _ ⟨rfl, rfl⟩
          rw [ktw, k39]
          refine m37 h2 (c1.tr d1) _ ?_
          obtain ⟨v1, v2⟩ := byRow_N hw (mi0 w) (h2.1 44) n n
          rw [v1, bval]
          cases q : bth w n n j with
          | none =>
            rw [q] at hr
            exact absurd (fun p hp => by have := (d2 p hp).1; rw [g39] at this; exact this) hr
          | some st =>
            obtain ⟨mi, acc⟩ := st
            rw [q] at hr
            show nI _ = nI acc
            have e := hr.2.2
            rw [e]
            have eset : ∀ o, s_rowset w (h2.1 44) o n = s_rowset w (fun p => nI (s_dg n j p)) o n := fun o => row_co n (fun p hp => (d2 p hp).2)
            simp only [eset]
        · refine ⟨fun _ => ?_, fun q => absurd rfl q⟩
          refine m37 h2 (c1.tr d1) _ ?_
          obtain ⟨p, hp, hpr⟩ := d2
          rw [g39] at hpr
          rw [bval]
          cases q : bth w n n j with
          | none => rfl
          | some st =>
            obtain ⟨mi, acc⟩ := st
            rw [q] at hr
            exact absurd (hr.1 p hp) hpr
    · rw [eP, s_bell, if_neg (by intro e; rw [e] at hb; exact absurd hb (by rw [decide_eq_true rfl]; simp)), if_neg (by intro e; rw [e, Bool.or_true] at hb; exact absurd hb (by decide))]
  · exact ⟨fun _ => ⟨trivial, by rw [p_bell, e0]; rfl, e1 ▸ pers.rf.s26⟩, fun q => absurd rfl q⟩
end
section
/-! the reference: a tape's signs -/
def byI (b : Nat) : Int32 := (nI b).toInt8.toInt32
theorem byI_and : ∀ b, b < 256 → byI b &&& 255 = nI b := by decide +kernel
def TP (t : Nat → Int32) (B : Nat → Nat) : Prop := ∀ k, k < 600 → t k = byI (B k) ∧ B k < 256
theorem by_i2b (v : Int32) : v.toInt8.toInt32 = byI (v.toBitVec.toNat % 256) := by
  rw [byI]
  congr 1
  apply Int8.toBitVec_inj.1
  rw [Int32.toBitVec_toInt8, Int32.toBitVec_toInt8, BitVec.signExtend_eq_setWidth_of_le _ (by decide), BitVec.signExtend_eq_setWidth_of_le _ (by decide)]
  show _ = (BitVec.ofNat 32 (v.toBitVec.toNat % 256)).setWidth 8
  apply BitVec.eq_of_toNat_eq
  simp only [BitVec.toNat_setWidth, BitVec.toNat_ofNat]
  omega
def ru (p : Nat → Bool) : Nat → Nat → Nat
  | 0, a => a
  | r + 1, a => if p a then ru p r (a + 1) else a
theorem ru_spec {p : Nat → Bool} : ∀ r a, (∀ j, a + r ≤ j → p j = false) → a ≤ ru p r a ∧ (∀ j, a ≤ j → j < ru p r a → p j = true) ∧ p (ru p r a) = false
  | 0, a, h => ⟨Nat.le_refl _, fun j h1 h2 => by rw [ru] at h2; omega, h a (by omega)⟩
  | r + 1, a, h => by
    rw [ru]
    by_cases c : p a = true
    · rw [if_pos c]
      obtain ⟨k1, k2, k3⟩ := ru_spec (p := p) r (a + 1) (fun j hj => h j (by omega))
      refine ⟨by omega, fun j h1 h2 => ?_, k3⟩
      by_cases e : j = a
      · rw [e]; exact c
      · exact k2 j (by omega) h2
    · rw [if_neg c]
      refine ⟨Nat.le_refl _, fun j h1 h2 => by omega, ?_⟩
      cases q : p a
      · rfl
      · exact absurd q c
def pB (B : Nat → Nat) (L j : Nat) : Bool := decide (j < L) && (decide (B j = 10) || decide (B j = 32))
def pL (B : Nat → Nat) (L j : Nat) : Bool := decide (j < L) && (decide (97 ≤ B j) && decide (B j ≤ 122))
def pD (B : Nat → Nat) (L j : Nat) : Bool := decide (j < L) && (decide (48 ≤ B j) && decide (B j ≤ 57))
theorem pB_no {B : Nat → Nat} {L j : Nat} (h : L ≤ j) : pB B L j = false := by rw [pB, decide_eq_false (by omega)]; rfl
theorem pL_no {B : Nat → Nat} {L j : Nat} (h : L ≤ j) : pL B L j = false := by rw [pL, decide_eq_false (by omega)]; rfl
theorem pD_no {B : Nat → Nat} {L j : Nat} (h : L ≤ j) : pD B L j = false := by rw [pD, decide_eq_false (by omega)]; rfl
def tB (B : Nat → Nat) (L a : Nat) : Nat := ru (pB B L) L a
def nv (B : Nat → Nat) (b : Nat) : Nat → Nat
  | 0 => 0
  | n + 1 => if n < 2 then 10 * nv B b n + B (b + n) - 48 else nv B b n
def hs (B : Nat → Nat) (b : Nat) : Nat → Int64
  | 0 => 0
  | n + 1 => (hs B b n <<< ((8 : Int32).toInt64 &&& 63)) ||| (nI (B (b + n))).toInt64
/-- kind (0 end, 1 bad, 2 word, 3 number, 4 sign) and end of the token that begins at b -/
def tKE (B : Nat → Nat) (L b : Nat) : Nat × Nat :=
  if b < L then (if pL B L b then (2, ru (pL B L) L b) else if pD B L b then ((if ru (pD B L) L b - b ≤ 2 then 3 else 1), ru (pD B L) L b) else ((if B b = 59 then 4 else 1), b + 1)) else (0, b)
def tK (B : Nat → Nat) (L a : Nat) : Nat := (tKE B L (tB B L a)).1
def tE (B : Nat → Nat) (L a : Nat) : Nat := (tKE B L (tB B L a)).2
def tV (B : Nat → Nat) (L a : Nat) : Nat := nv B (tB B L a) (tE B L a - tB B L a)
def wH (B : Nat → Nat) (b e : Nat) : Int64 := if e - b ≤ 8 then hs B b (e - b) else 0
def TS (h : qm_H) (B : Nat → Nat) (L a : Nat) : Prop := h.1 26 9 = nI (tE B L a) ∧ h.1 26 11 = nI (tB B L a) ∧ h.1 26 12 = nI (tK B L a) ∧ (tK B L a = 3 → h.1 26 13 = nI (tV B L a)) ∧ (tK B L a = 2 → h.2.1 26 14 = wH B (tB B L a) (tE B L a))
def tf (h h' : qm_H) : Prop := h'.2.2 = h.2.2 ∧ (∀ q, q ≠ 26 → h'.1 q = h.1 q) ∧ (∀ q, q ≠ 26 → h'.2.1 q = h.2.1 q) ∧ ∀ k, k ∉ [9, 11, 12, 13] → h'.1 26 k = h.1 26 k
theorem tf.rf {h : qm_H} : tf h h := ⟨rfl, fun _ _ => rfl, fun _ _ => rfl, fun _ _ => rfl⟩
theorem tf.s {h h1 : qm_H} (a : tf h h1) {k : Nat} {v : Int32} (hk : k ∈ [9, 11, 12, 13]) : tf h (qm_si h1 26 k v) := by
  refine ⟨a.1, fun q hq => ?_, a.2.2.1, fun j hj => ?_⟩
  · rw [si_ne _ _ _ hq]; exact a.2.1 q hq
  · rw [si_row, up_n _ _ (fun e => hj (by rw [e]; exact hk))]; exact a.2.2.2 j hj
theorem tf.l {h h1 : qm_H} (a : tf h h1) {k : Nat} {v : Int64} : tf h (qm_sl h1 26 k v) := by
  refine ⟨a.1, a.2.1, fun q hq => ?_, a.2.2.2⟩
  show va_up h1.2.1 26 _ q = _
  rw [up_n _ _ hq]; exact a.2.2.1 q hq
theorem sl_1 (h : qm_H) (p k : Nat) (v : Int64) : (qm_sl h p k v).1 = h.1 := rfl
theorem sl_s (h : qm_H) (p k : Nat) (v : Int64) : (qm_sl h p k v).2.1 p k = v := by
  show va_up h.2.1 p _ p k = v
  rw [up_s, up_s]
def sI (B : Nat → Nat) (L a : Nat) : Int32 := if a < L then nI (B a) else -1
theorem tf.tr {h h1 h2 : qm_H} (a : tf h h1) (b : tf h1 h2) : tf h h2 := ⟨b.1.trans a.1, fun q hq => (b.2.1 q hq).trans (a.2.1 q hq), fun q hq => (b.2.2.1 q hq).trans (a.2.2.1 q hq), fun k hk => (b.2.2.2 k hk).trans (a.2.2.2 k hk)⟩
theorem e_see {G : qm_G} (hG : G.2.2.2.2 = true) (d : Nat) (h : qm_H) {B : Nat → Nat} {L a : Nat} (hB : TP (h.1 27) B) (hL : L ≤ 600) (ha : h.1 26 9 = nI a) (ha6 : a ≤ 600) (hl : h.1 26 10 = nI L) : qm_Ev G d 0 0 qyX10_see [.ref 26] h (fun r h' => r = some (.int (sI B L a)) ∧ h = h') := by
  obtain ⟨V, hV⟩ : ∃ V, V = sI B L a := ⟨_, rfl⟩
  rw [← hV]
  refine qm_Ev.run (M := mX10_see) okX10_see rfl hG fun z => ?_
  refine ⟨rfl, rfl, fun (q : h.1 26 10 ≤ h.1 26 9) => ⟨trivial, congV ?_, rfl⟩, fun (q : ¬ h.1 26 10 ≤ h.1 26 9) => ?_⟩
  · rw [ha, hl] at q
    have := (nI_leI (by omega) (by omega)).mp q
    rw [hV, sI, if_neg (by omega)]
  · rw [ha, hl] at q
    have hlt : a < L := by
      rcases Nat.lt_or_ge a L with e | e
      · exact e
      · exact absurd (nI_le e (by omega)) q
    refine ⟨rfl, _, rfl, rfl, rfl, ?_, trivial, congV ?_, rfl⟩
    · show vp_in (h.1 26 9) 2400
      rw [ha]; exact vp_in_nI (by omega) (by decide)
    · show h.1 27 (h.1 26 9).toNatClampNeg &&& 255 = V
      rw [ha, nI_clamp (by omega), (hB a (by omega)).1, byI_and _ (hB a (by omega)).2, hV, sI, if_pos hlt]
theorem sI_eq {B : Nat → Nat} {L a c : Nat} (hb : a < L → B a < 256) (hc : c < 256) : sI B L a = nI c ↔ a < L ∧ B a = c := by
  rw [sI]
  by_cases h : a < L
  · have := hb h
    rw [if_pos h, nI_eq (by omega) (by omega)]
    exact ⟨fun e => ⟨h, e⟩, fun e => e.2⟩
  · rw [if_neg h]
    exact ⟨fun e => absurd (show (-1 : Int32) < 0 by decide) (by rw [e]; exact nI_pos (by omega)), fun e => absurd e.1 h⟩
theorem sI_in {B : Nat → Nat} {L a lo hi : Nat} (hb : a < L → B a < 256) (hl : lo < 256) (hh : hi < 256) : decide (nI lo ≤ sI B L a ∧ sI B L a ≤ nI hi) = (decide (a < L) && (decide (lo ≤ B a) && decide (B a ≤ hi))) := by
  rw [sI]
  by_cases h : a < L
  · have := hb h
    rw [if_pos h, decide_eq_true h, Bool.true_and, Bool.eq_iff_iff, decide_eq_true_eq, Bool.and_eq_true, decide_eq_true_eq, decide_eq_true_eq, nI_leI (by omega) (by omega), nI_leI (by omega) (by omega)]
  · rw [if_neg h, decide_eq_false h, Bool.false_and]
    exact decide_eq_false (fun e => nI_m1 (by omega) e.1)
theorem nv_le {B : Nat → Nat} {b : Nat} : ∀ n, (∀ j, j < n → 48 ≤ B (b + j) ∧ B (b + j) ≤ 57) → nv B b n ≤ 99 ∧ (n ≤ 1 → nv B b n ≤ 9) ∧ (n = 0 → nv B b n = 0)
  | 0, _ => ⟨Nat.zero_le _, fun _ => Nat.zero_le _, fun _ => rfl⟩
  | n + 1, h => by
    obtain ⟨i1, i2, i3⟩ := nv_le n (fun j hj => h j (by omega))
    have := h n (by omega)
    rw [nv]
    split
    · rename_i c
      rcases Nat.eq_zero_or_pos n with e | e
      · have := i3 e
        omega
      · have := i2 (by omega)
        omega
    · omega
theorem e_token {G : qm_G} (hG : G.2.2.2.2 = true) (d : Nat) (h : qm_H) {B : Nat → Nat} {L a : Nat} (hB : TP (h.1 27) B) (hL : L ≤ 600) (ha : h.1 26 9 = nI a) (ha6 : a ≤ L) (hl : h.1 26 10 = nI L) : qm_Ev G (d + 1) 0 0 qyX10_token [.ref 26] h (fun r h' => r = none ∧ TS h' B L a ∧ tf h h' ∧ a ≤ tB B L a ∧ tB B L a ≤ tE B L a ∧ tE B L a ≤ L) := by
  obtain ⟨b1, b2, b3⟩ := ru_spec (p := pB B L) L a (fun j hj => pB_no (by omega))
  have bL : tB B L a ≤ L := by
    rcases Nat.lt_or_ge L (tB B L a) with e | e
    · have := b2 L ha6 e
      rw [pB_no (Nat.le_refl _)] at this
      exact absurd this (by decide)
    · exact e
  rw [← tB] at b1 b2 b3
  have hbb : ∀ j, j < L → B j < 256 := fun j hj => (hB j (by omega)).2
  refine qm_Ev.by (M := mX10_token) okX10_token (Nat.le_of_ble_eq_true rfl) hG fun z hA => ?_
  have fr1 : ∀ h', tf h h' → TP (h'.1 27) B ∧ h'.1 26 10 = nI L := fun h' c => ⟨by rw [c.2.1 27 (by decide)]; exact hB, by rw [c.2.2.2 10 (by decide), hl]⟩
  obtain ⟨b, hb⟩ : ∃ b, b = tB B L a := ⟨_, rfl⟩
  rw [← hb] at b1 b2 b3 bL
  have hTS : ∀ h' e k, tf h h' → tKE B L b = (k, e) → b ≤ e → e ≤ L → h'.1 26 9 = nI e → h'.1 26 11 = nI b → h'.1 26 12 = nI k → (k = 3 → h'.1 26 13 = nI (nv B b (e - b))) → (k = 2 → h'.2.1 26 14 = wH B b e) → (none : Option Value) = none ∧ TS h' B L a ∧ tf h h' ∧ a ≤ tB B L a ∧ tB B L a ≤ tE B L a ∧ tE B L a ≤ L := by
    intro h' e k c1 c2 c3 c4 c5 c6 c7 c8 c9
    have eK : tK B L a = k := by rw [tK, ← hb, c2]
    have eE : tE B L a = e := by rw [tE, ← hb, c2]
    refine ⟨rfl, ⟨by rw [c5, eE], by rw [c6, hb], by rw [c7, eK], fun q => ?_, fun q => ?_⟩, c1, by omega, by omega, by omega⟩
    · rw [c8 (by omega), tV, eE, ← hb]
    · rw [c9 (by omega), eE, hb]
  -- behind the blanks
  have rest : ∀ h', tf h h' → h'.1 26 9 = nI b → h'.1 26 11 = nI b → h'.2.1 26 14 = 0 → (b < L → pL B L b = true → qm_PW G mX10_token z 38 0 0 [vr 26, vu, vi (nI 0)] [] h') ∧ (∀ h', tf h h' → h'.1 26 9 = nI b → h'.1 26 11 = nI b → h'.1 26 13 = nI 0 → b < L → pL B L b = false → pD B L b = true → qm_PW G mX10_token z 83 0 0 [vr 26, vu, vi (nI 0)] [] h') := by
    intro h' c1 c2 c3 c4
    constructor
    · intro hbL hlet
      obtain ⟨e1, e2, e3⟩ := ru_spec (p := pL B L) L b (fun j hj => pL_no (by omega))
      have eL : ru (pL B L) L b ≤ L := by
        rcases Nat.lt_or_ge L (ru (pL B L) L b) with q | q
        · have := e2 L bL q
          rw [pL_no (Nat.le_refl _)] at this
          exact absurd this (by decide)
        · exact q
      obtain ⟨e, he⟩ : ∃ e, e = ru (pL B L) L b := ⟨_, rfl⟩
      rw [← he] at e1 e2 e3 eL
      have eKE : tKE B L b = (2, e) := by rw [tKE, if_pos hbL, if_pos hlet, he]
      refine qm_for (P := fun i => ∀ h', tf h h' → h'.1 26 9 = nI (b + i) → h'.1 26 11 = nI b → h'.2.1 26 14 = hs B b i → qm_PW G mX10_token z 38 0 0 [vr 26, vu, vi (nI i)] [] h') (N := e - b) ?_ ?_ h' c1 c2 c3 c4
      · intro h' c1 c2 c3 c4
        rw [show b + (e - b) = e by omega] at c2
        obtain ⟨f1, f2⟩ := fr1 h' c1
        refine qm_wp_ok hA [70] 40 _ _ _ _ _ _ ⟨rfl, 0, 0, _, e_see hG (d + 0) h' f1 hL c2 (by omega) f2, ⟨Nat.le_refl _, Nat.le_refl _⟩, ?_⟩
        rintro _ _ ⟨rfl, rfl⟩
        refine ⟨0, 0, _, e_in hG (d + 0) h' (sI B L e) 97 122, ⟨Nat.le_refl _, Nat.le_refl _⟩, ?_⟩
        rintro _ _ ⟨rfl, rfl⟩
        have : decide ((97 : Int32) ≤ sI B L e ∧ sI B L e ≤ 122) = pL B L e := sI_in (lo := 97) (hi := 122) (fun q => hbb e q) (by decide) (by decide)
        rw [this, e3]
        have m70 : ∀ v, v = wH B b e → qm_PW G mX10_token z 70 0 0 [vr 26, vu, vu] [.long v, .ref 26] h' := fun v hv => by
          refine qm_wp_ok hA [] 20 _ _ _ _ _ _ ⟨rfl, rfl, trivial, rfl, ?_⟩
          refine hTS (qm_si (qm_sl h' 26 14 v) 26 12 2) e 2 ((c1.l).s (by decide)) eKE e1 eL ?_ ?_ ?_ (fun q => by omega) (fun _ => ?_)
          · rw [si_row, up_n _ _ (by decide), sl_1, c2]
          · rw [si_row, up_n _ _ (by decide), sl_1, c3]
          · rw [si_row, up_s]; rfl
          · show (qm_sl h' 26 14 v).2.1 26 14 = _
            rw [sl_s, hv]
        refine ⟨fun _ => ⟨fun (q : nI (e - b) ≤ nI 8) => ⟨rfl, qm_PW.mask [true, false, false] (m70 _ ?_)⟩, fun (q : ¬ nI (e - b) ≤ nI 8) => qm_PW.mask [true, false, false] (m70 _ ?_)⟩, fun q => absurd rfl q⟩
        · have := (nI_leI (by omega) (by omega)).mp q
          rw [wH, if_pos this]; exact c4
        · have : ¬ e - b ≤ 8 := fun z => q (nI_le z (by omega))
          rw [wH, if_neg this]
      · intro i hi nx h' c1 c2 c3 c4
        obtain ⟨f1, f2⟩ := fr1 h' c1
        have hp := e2 (b + i) (by omega) (by omega)
        have hiL : b + i < L := by
          rcases Nat.lt_or_ge (b + i) L with q | q
          · exact q
          · rw [pL_no q] at hp; exact absurd hp (by decide)
        refine qm_wp_ok hA [38] 40 _ _ _ _ _ _ ⟨rfl, 0, 0, _, e_see hG (d + 0) h' f1 hL c2 (by omega) f2, ⟨Nat.le_refl _, Nat.le_refl _⟩, ?_⟩
        rintro _ _ ⟨rfl, rfl⟩
        refine ⟨0, 0, _, e_in hG (d + 0) h' (sI B L (b + i)) 97 122, ⟨Nat.le_refl _, Nat.le_refl _⟩, ?_⟩
        rintro _ _ ⟨rfl, rfl⟩
        have : decide ((97 : Int32) ≤ sI B L (b + i) ∧ sI B L (b + i) ≤ 122) = pL B L (b + i) := sI_in (lo := 97) (hi := 122) (fun q => hbb _ q) (by decide) (by decide)
        rw [this, hp]
        refine ⟨fun q => absurd q (by decide), fun _ => ⟨rfl, rfl, 0, 0, _, e_see hG (d + 0) h' f1 hL c2 (by omega) f2, ⟨Nat.le_refl _, Nat.le_refl _⟩, ?_⟩⟩
        rintro _ _ ⟨rfl, rfl⟩
        refine ⟨rfl, rfl, rfl, trivial, ?_⟩
        have k := nx (qm_si (qm_sl h' 26 14 (hs B b (i + 1))) 26 9 (nI (b + i) + 1)) ((c1.l).s (by decide)) (by rw [si_row, up_s, nI_1, Nat.add_assoc]) (by rw [si_row, up_n _ _ (by decide), sl_1, c3]) (by show (qm_sl h' 26 14 _).2.1 26 14 = _; rw [sl_s])
        rw [← nI_1, hs] at k
        have es : sI B L (b + i) = nI (B (b + i)) := by rw [sI, if_pos hiL]
        rw [← es, ← c4, ← c2] at k
        exact k
    · intro h' c1 c2 c3 c4 hbL hnl hdig
      obtain ⟨e1, e2, e3⟩ := ru_spec (p := pD B L) L b (fun j hj => pD_no (by omega))
      have eL : ru (pD B L) L b ≤ L := by
        rcases Nat.lt_or_ge L (ru (pD B L) L b) with q | q
        · have := e2 L bL q
          rw [pD_no (Nat.le_refl _)] at this
          exact absurd this (by decide)
        · exact q
      obtain ⟨e, he⟩ : ∃ e, e = ru (pD B L) L b := ⟨_, rfl⟩
      rw [← he] at e1 e2 e3 eL
      have eKE : tKE B L b = ((if e - b ≤ 2 then 3 else 1), e) := by rw [tKE, if_pos hbL, if_neg (by rw [hnl]; decide), if_pos hdig, he]
      have dig : ∀ j, j < e - b → 48 ≤ B (b + j) ∧ B (b + j) ≤ 57 := fun j hj => by
        have := e2 (b + j) (by omega) (by omega)
        rw [pD, Bool.and_eq_true, Bool.and_eq_true, decide_eq_true_eq, decide_eq_true_eq, decide_eq_true_eq] at this
        exact this.2
      refine qm_for (P := fun i => ∀ h', tf h h' → h'.1 26 9 = nI (b + i) → h'.1 26 11 = nI b → h'.1 26 13 = nI (nv B b i) → qm_PW G mX10_token z 83 0 0 [vr 26, vu, vi (nI i)] [] h') (N := e - b) ?_ ?_ h' c1 c2 c3 c4
      · intro h' c1 c2 c3 c4
        rw [show b + (e - b) = e by omega] at c2
        obtain ⟨f1, f2⟩ := fr1 h' c1
        refine qm_wp_ok hA [121] 40 _ _ _ _ _ _ ⟨rfl, 0, 0, _, e_see hG (d + 0) h' f1 hL c2 (by omega) f2, ⟨Nat.le_refl _, Nat.le_refl _⟩, ?_⟩
        rintro _ _ ⟨rfl, rfl⟩
        refine ⟨0, 0, _, e_in hG (d + 0) h' (sI B L e) 48 57, ⟨Nat.le_refl _, Nat.le_refl _⟩, ?_⟩
        rintro _ _ ⟨rfl, rfl⟩
        have : decide ((48 : Int32) ≤ sI B L e ∧ sI B L e ≤ 57) = pD B L e := sI_in (lo := 48) (hi := 57) (fun q => hbb e q) (by decide) (by decide)
        rw [this, e3]
        have m121 : ∀ k, k = (if e - b ≤ 2 then 3 else 1) → qm_PW G mX10_token z 121 0 0 [vr 26, vu, vu] [.int (nI k), .ref 26] h' := fun k hk => by
          refine qm_wp_ok hA [] 20 _ _ _ _ _ _ ⟨rfl, trivial, rfl, ?_⟩
          refine hTS (qm_si h' 26 12 (nI k)) e k (c1.s (by decide)) (by rw [eKE, hk]) e1 eL ?_ ?_ ?_ (fun _ => ?_) (fun q => by rw [hk] at q; split at q <;> omega)
          · rw [si_row, up_n _ _ (by decide), c2]
          · rw [si_row, up_n _ _ (by decide), c3]
          · rw [si_row, up_s]
          · rw [si_row, up_n _ _ (by decide), c4]
        refine ⟨fun _ => ⟨fun (q : nI (e - b) ≤ nI 2) => qm_PW.mask [true, false, false] (m121 3 ?_), fun (q : ¬ nI (e - b) ≤ nI 2) => qm_PW.mask [true, false, false] (m121 1 ?_)⟩, fun q => absurd rfl q⟩
        · have := (nI_leI (by omega) (by omega)).mp q
          rw [if_pos this]
        · have : ¬ e - b ≤ 2 := fun z => q (nI_le z (by omega))
          rw [if_neg this]
      · intro i hi nx h' c1 c2 c3 c4
        obtain ⟨f1, f2⟩ := fr1 h' c1
        have hp := e2 (b + i) (by omega) (by omega)
        have hiL : b + i < L := by
          rcases Nat.lt_or_ge (b + i) L with q | q
          · exact q
          · rw [pD_no q] at hp; exact absurd hp (by decide)
        obtain ⟨v1, v2, v3⟩ := nv_le (B := B) (b := b) i (fun j hj => dig j (by omega))
        have hdi := dig i hi
        have m105 : ∀ v, v = nI (nv B b (i + 1)) → qm_PW G mX10_token z 105 0 0 [vr 26, vu, vi (nI i)] [.int v, .ref 26] h' := fun v hv => by
          refine qm_wp_ok hA [83] 20 _ _ _ _ _ _ ⟨rfl, trivial, rfl, rfl, trivial, ?_⟩
          have k := nx (qm_si (qm_si h' 26 13 v) 26 9 (nI (b + i) + 1)) ((c1.s (by decide)).s (by decide)) (by rw [si_row, up_s, nI_1, Nat.add_assoc]) (by rw [si_row, up_n _ _ (by decide), si_row, up_n _ _ (by decide), c3]) (by rw [si_row, up_n _ _ (by decide), si_row, up_s, hv])
          have e9 : (qm_si h' 26 13 v).1 26 9 = nI (b + i) := by rw [si_row, up_n _ _ (by decide), c2]
          rw [← nI_1, ← e9] at k
          exact k
        refine qm_wp_ok hA [83, 105] 40 _ _ _ _ _ _ ⟨rfl, 0, 0, _, e_see hG (d + 0) h' f1 hL c2 (by omega) f2, ⟨Nat.le_refl _, Nat.le_refl _⟩, ?_⟩
        rintro _ _ ⟨rfl, rfl⟩
        refine ⟨0, 0, _, e_in hG (d + 0) h' (sI B L (b + i)) 48 57, ⟨Nat.le_refl _, Nat.le_refl _⟩, ?_⟩
        rintro _ _ ⟨rfl, rfl⟩
        have : decide ((48 : Int32) ≤ sI B L (b + i) ∧ sI B L (b + i) ≤ 57) = pD B L (b + i) := sI_in (lo := 48) (hi := 57) (fun q => hbb _ q) (by decide) (by decide)
        rw [this, hp]
        refine ⟨fun q => absurd q (by decide), fun _ => ⟨fun (q : nI 2 ≤ nI i) => ⟨rfl, m105 _ ?_⟩, fun (q : ¬ nI 2 ≤ nI i) => ⟨rfl, rfl, 0, 0, _, e_see hG (d + 0) h' f1 hL c2 (by omega) f2, ⟨Nat.le_refl _, Nat.le_refl _⟩, ?_⟩⟩⟩
        · have := (nI_leI (by omega) (by omega)).mp q
          rw [nv, if_neg (by omega)]; exact c4
        · rintro _ _ ⟨rfl, rfl⟩
          have hi2 : ¬ 2 ≤ i := fun z => q (nI_le z (by omega))
          refine m105 _ ?_
          show (10 : Int32) * h'.1 26 13 + sI B L (b + i) - 48 = _
          rw [c4, sI, if_pos hiL, nv, if_pos (by omega), show (10 : Int32) = nI 10 from rfl, show (48 : Int32) = nI 48 from rfl, pk_mul, nI_add, pk_sub (by omega)]
  refine qm_for (P := fun i => ∀ h', tf h h' → h'.1 26 9 = nI (a + i) → qm_PW G mX10_token z 0 0 0 [vr 26, vu, vu] [] h') (N := b - a) ?_ ?_ h tf.rf ha
  · intro h' c1 c2
    rw [show a + (b - a) = b by omega] at c2
    obtain ⟨f1, f2⟩ := fr1 h' c1
    have nb : ¬ (b < L ∧ B b = 10) ∧ ¬ (b < L ∧ B b = 32) := by
      rw [pB] at b3
      constructor
      · intro z
        rw [decide_eq_true z.1, decide_eq_true z.2] at b3
        exact absurd (show true = false from b3) Bool.noConfusion
      · intro z
        rw [decide_eq_true z.1, decide_eq_true z.2, Bool.or_true] at b3
        exact absurd b3 (by decide)
    refine qm_wp_ok hA [0, 38, 83] 80 _ _ _ _ _ _ ⟨rfl, 0, 0, _, e_see hG (d + 0) h' f1 hL c2 (by omega) f2, ⟨Nat.le_refl _, Nat.le_refl _⟩, ?_⟩
    rintro _ _ ⟨rfl, rfl⟩
    refine ⟨fun (q : sI B L b = nI 10) => absurd ((sI_eq (fun z => hbb b z) (by decide)).mp q) nb.1, fun _ => ⟨rfl, 0, 0, _, e_see hG (d + 0) h' f1 hL c2 (by omega) f2, ⟨Nat.le_refl _, Nat.le_refl _⟩, ?_⟩⟩
    rintro _ _ ⟨rfl, rfl⟩
    refine ⟨fun _ => ?_, fun (q : sI B L b = nI 32) => absurd ((sI_eq (fun z => hbb b z) (by decide)).mp q) nb.2⟩
    have d1 : tf h (qm_si h' 26 11 (h'.1 26 9)) := c1.s (by decide)
    obtain ⟨g1, g2⟩ := fr1 _ d1
    have d9 : (qm_si h' 26 11 (h'.1 26 9)).1 26 9 = nI b := by rw [si_row, up_n _ _ (by decide), c2]
    refine ⟨rfl, rfl, trivial, rfl, 0, 0, _, e_see hG (d + 0) (qm_si h' 26 11 (h'.1 26 9)) g1 hL d9 (by omega) g2, ⟨Nat.le_refl _, Nat.le_refl _⟩, ?_⟩
    rintro _ _ ⟨rfl, rfl⟩
    have x1 : tf h (qm_sl (qm_si h' 26 11 (h'.1 26 9)) 26 14 0) := d1.l
    have x9 : (qm_sl (qm_si h' 26 11 (h'.1 26 9)) 26 14 0).1 26 9 = nI b := d9
    have x11 : (qm_sl (qm_si h' 26 11 (h'.1 26 9)) 26 14 0).1 26 11 = nI b := by rw [sl_1, si_row, up_s, c2]
    have x14 : (qm_sl (qm_si h' 26 11 (h'.1 26 9)) 26 14 0).2.1 26 14 = 0 := sl_s _ _ _ _
    obtain ⟨r1, r2⟩ := rest _ x1 x9 x11 x14
    refine ⟨rfl, ?_⟩
    refine ⟨fun (q : (0 : Int32) ≤ sI B L b) => ?_, fun (q : ¬ (0 : Int32) ≤ sI B L b) => ⟨rfl, trivial, rfl, ?_⟩⟩
    · have hbL : b < L := by
        rcases Nat.lt_or_ge b L with z | z
        · exact z
        · rw [sI, if_neg (by omega)] at q; exact absurd q (by decide)
      refine ⟨0, 0, _, e_in hG (d + 0) _ (sI B L b) 97 122, ⟨Nat.le_refl _, Nat.le_refl _⟩, ?_⟩
      rintro _ _ ⟨rfl, rfl⟩
      have k1 : decide ((97 : Int32) ≤ sI B L b ∧ sI B L b ≤ 122) = pL B L b := sI_in (lo := 97) (hi := 122) (fun q => hbb _ q) (by decide) (by decide)
      rw [k1]
      refine b2_eq (fun hlet => qm_PW.mask [true, false, true] (r1 hbL hlet)) (fun hnl => ?_)
      refine ⟨0, 0, _, e_in hG (d + 0) _ (sI B L b) 48 57, ⟨Nat.le_refl _, Nat.le_refl _⟩, ?_⟩
      rintro _ _ ⟨rfl, rfl⟩
      have k2 : decide ((48 : Int32) ≤ sI B L b ∧ sI B L b ≤ 57) = pD B L b := sI_in (lo := 48) (hi := 57) (fun q => hbb _ q) (by decide) (by decide)
      rw [k2]
      refine b2_eq (fun hdig => ⟨rfl, trivial, qm_PW.mask [true, false, true] (r2 (qm_si (qm_sl (qm_si h' 26 11 (h'.1 26 9)) 26 14 0) 26 13 0) (x1.s (by decide)) (by rw [si_row, up_n _ _ (by decide), x9]) (by rw [si_row, up_n _ _ (by decide), x11]) (by rw [si_row, up_s]; rfl) hbL hnl hdig)⟩) (fun hnd => ?_)
      have eKE : tKE B L b = ((if B b = 59 then 4 else 1), b + 1) := by rw [tKE, if_pos hbL, if_neg (by rw [hnl]; decide), if_neg (by rw [hnd]; decide)]
      refine ⟨rfl, rfl, trivial, fun (q : ¬ sI B L b = nI 59) => ⟨rfl, trivial, rfl, ?_⟩, fun (q : sI B L b = nI 59) => ⟨rfl, trivial, rfl, ?_⟩⟩
      · have hne : ¬ B b = 59 := fun z => q ((sI_eq (fun z => hbb b z) (by decide)).mpr ⟨hbL, z⟩)
        rw [if_neg hne] at eKE
        refine hTS (qm_si (qm_si (qm_sl (qm_si h' 26 11 (h'.1 26 9)) 26 14 0) 26 9 ((qm_sl (qm_si h' 26 11 (h'.1 26 9)) 26 14 0).1 26 9 + 1)) 26 12 1) (b + 1) 1 ((x1.s (by decide)).s (by decide)) eKE (by omega) (by omega) ?_ ?_ ?_ (fun z => by omega) (fun z => by omega)
        · rw [si_row, up_n _ _ (by decide), si_row, up_s, x9, nI_1]
        · rw [si_row, up_n _ _ (by decide), si_row, up_n _ _ (by decide), x11]
        · rw [si_row, up_s]; rfl
      · have he := ((sI_eq (fun z => hbb b z) (by decide)).mp q).2
        rw [if_pos he] at eKE
        refine hTS (qm_si (qm_si (qm_sl (qm_si h' 26 11 (h'.1 26 9)) 26 14 0) 26 9 ((qm_sl (qm_si h' 26 11 (h'.1 26 9)) 26 14 0).1 26 9 + 1)) 26 12 4) (b + 1) 4 ((x1.s (by decide)).s (by decide)) eKE (by omega) (by omega) ?_ ?_ ?_ (fun z => by omega) (fun z => by omega)
        · rw [si_row, up_n _ _ (by decide), si_row, up_s, x9, nI_1]
        · rw [si_row, up_n _ _ (by decide), si_row, up_n _ _ (by decide), x11]
        · rw [si_row, up_s]; rfl
    · have hbL : ¬ b < L := fun z => q (by rw [sI, if_pos z]; exact nI_pos' (by have := hbb b z; omega))
      refine hTS (qm_si (qm_sl (qm_si h' 26 11 (h'.1 26 9)) 26 14 0) 26 12 0) b 0 (x1.s (by decide)) (by rw [tKE, if_neg hbL]) (Nat.le_refl _) bL ?_ ?_ ?_ (fun z => by omega) (fun z => by omega)
      · rw [si_row, up_n _ _ (by decide), x9]
      · rw [si_row, up_n _ _ (by decide), x11]
      · rw [si_row, up_s]; rfl
  · intro i hi nx h' c1 c2
    obtain ⟨f1, f2⟩ := fr1 h' c1
    have hp := b2 (a + i) (by omega) (by omega)
    have hiL : a + i < L := by
      rcases Nat.lt_or_ge (a + i) L with q | q
      · exact q
      · rw [pB_no q] at hp; exact absurd hp (by decide)
    have k := nx (qm_si h' 26 9 (nI (a + i) + 1)) (c1.s (by decide)) (by rw [si_row, up_s, nI_1, Nat.add_assoc])
    rw [← c2] at k
    rw [pB, decide_eq_true hiL, Bool.true_and, Bool.or_eq_true, decide_eq_true_eq, decide_eq_true_eq] at hp
    refine qm_wp_ok hA [0, 38, 83] 80 _ _ _ _ _ _ ⟨rfl, 0, 0, _, e_see hG (d + 0) h' f1 hL c2 (by omega) f2, ⟨Nat.le_refl _, Nat.le_refl _⟩, ?_⟩
    rintro _ _ ⟨rfl, rfl⟩
    refine ⟨fun _ => ⟨rfl, rfl, trivial, k⟩, fun (q : ¬ sI B L (a + i) = nI 10) => ⟨rfl, 0, 0, _, e_see hG (d + 0) h' f1 hL c2 (by omega) f2, ⟨Nat.le_refl _, Nat.le_refl _⟩, ?_⟩⟩
    rintro _ _ ⟨rfl, rfl⟩
    refine ⟨fun (z : ¬ sI B L (a + i) = nI 32) => ?_, fun _ => ⟨rfl, rfl, trivial, k⟩⟩
    exfalso
    rcases hp with e | e
    · exact q ((sI_eq (fun z => hbb _ z) (by decide)).mpr ⟨hiL, e⟩)
    · exact z ((sI_eq (fun z => hbb _ z) (by decide)).mpr ⟨hiL, e⟩)
end
section
/-! the reference: faults, numbers; words by their numbers -/
theorem tB_le {B : Nat → Nat} {L a : Nat} (ha : a ≤ L) : a ≤ tB B L a ∧ tB B L a ≤ L := by
  obtain ⟨b1, b2, b3⟩ := ru_spec (p := pB B L) L a (fun j hj => pB_no (by omega))
  rw [← tB] at b1 b2 b3
  refine ⟨b1, ?_⟩
  rcases Nat.lt_or_ge L (tB B L a) with e | e
  · have := b2 L ha e
    rw [pB_no (Nat.le_refl _)] at this
    exact absurd this (by decide)
  · exact e
theorem ru_le {p : Nat → Bool} {L b : Nat} (hp : ∀ j, L ≤ j → p j = false) (hb : b ≤ L) : b ≤ ru p L b ∧ ru p L b ≤ L ∧ (p b = true → b < ru p L b) ∧ ∀ j, b ≤ j → j < ru p L b → p j = true := by
  obtain ⟨e1, e2, e3⟩ := ru_spec (p := p) L b (fun j hj => hp j (by omega))
  refine ⟨e1, ?_, fun h => ?_, e2⟩
  · rcases Nat.lt_or_ge L (ru p L b) with q | q
    · have := e2 L hb q
      rw [hp L (Nat.le_refl _)] at this
      exact absurd this (by decide)
    · exact q
  · rcases Nat.lt_or_ge b (ru p L b) with q | q
    · exact q
    · rw [show ru p L b = b by omega] at e3
      rw [e3] at h
      exact absurd h (by decide)
theorem tE_lt {B : Nat → Nat} {L a : Nat} (ha : a ≤ L) : tB B L a ≤ tE B L a ∧ tE B L a ≤ L ∧ (tK B L a ≠ 0 → tB B L a < tE B L a) ∧ (tK B L a = 2 → ∀ j, tB B L a ≤ j → j < tE B L a → pL B L j = true) ∧ (tK B L a = 3 → tE B L a - tB B L a ≤ 2 ∧ ∀ j, tB B L a ≤ j → j < tE B L a → pD B L j = true) ∧ tK B L a ≤ 4 := by
  obtain ⟨b1, b2⟩ := tB_le (B := B) ha
  rw [tE, tK]
  obtain ⟨b, hb⟩ : ∃ b, b = tB B L a := ⟨_, rfl⟩
  rw [← hb] at b2 ⊢
  rw [tKE]
  by_cases c1 : b < L
  · rw [if_pos c1]
    by_cases c2 : pL B L b = true
    · rw [if_pos c2]
      obtain ⟨r1, r2, r3, r4⟩ := ru_le (p := pL B L) (L := L) (fun j hj => pL_no hj) b2
      exact ⟨r1, r2, fun _ => r3 c2, fun _ => r4, fun q => absurd (show 2 = 3 from q) (by decide), (by decide : 2 ≤ 4)⟩
    · rw [if_neg c2]
      by_cases c3 : pD B L b = true
      · rw [if_pos c3]
        obtain ⟨r1, r2, r3, r4⟩ := ru_le (p := pD B L) (L := L) (fun j hj => pD_no hj) b2
        refine ⟨r1, r2, fun _ => r3 c3, fun q => ?_, fun q => ⟨?_, r4⟩, ?_⟩
        · exfalso
          have q : (if ru (pD B L) L b - b ≤ 2 then 3 else 1) = 2 := q
          split at q <;> omega
        · have q : (if ru (pD B L) L b - b ≤ 2 then 3 else 1) = 3 := q
          split at q
          · assumption
          · omega
        · show (if ru (pD B L) L b - b ≤ 2 then 3 else 1) ≤ 4
          split <;> omega
      · rw [if_neg c3]
        refine ⟨by show b ≤ b + 1; omega, by show b + 1 ≤ L; omega, fun _ => by show b < b + 1; omega, fun q => ?_, fun q => ?_, ?_⟩
        · exfalso
          have q : (if B b = 59 then 4 else 1) = 2 := q
          split at q <;> omega
        · exfalso
          have q : (if B b = 59 then 4 else 1) = 3 := q
          split at q <;> omega
        · show (if B b = 59 then 4 else 1) ≤ 4
          split <;> omega
  · rw [if_neg c1]
    exact ⟨Nat.le_refl _, b2, fun q => absurd rfl q, fun q => absurd (show 0 = 2 from q) (by decide), fun q => absurd (show 0 = 3 from q) (by decide), (by decide : 0 ≤ 4)⟩
theorem tV_le {B : Nat → Nat} {L a : Nat} (ha : a ≤ L) (h : tK B L a = 3) : tV B L a ≤ 99 := by
  obtain ⟨e1, e2, -, -, e5, -⟩ := tE_lt (B := B) ha
  obtain ⟨e6, e7⟩ := e5 h
  rw [tV]
  refine (nv_le (B := B) (b := tB B L a) _ fun j hj => ?_).1
  have := e7 (tB B L a + j) (by omega) (by omega)
  rw [pD, Bool.and_eq_true, Bool.and_eq_true, decide_eq_true_eq, decide_eq_true_eq, decide_eq_true_eq] at this
  exact this.2
/-! words -/
def wr (B : Nat → Nat) (b : Nat) : Nat → List Nat
  | 0 => []
  | n + 1 => B (b + n) :: wr B b n
def hr : List Nat → Nat
  | [] => 0
  | x :: l => x + 256 * hr l
def nm (i : Nat) : List Nat := match i with
  | 0 => [110, 111, 115, 114, 101, 112]
  | 1 => [104, 116, 114, 111, 119]
  | 2 => [115, 119, 111, 108, 108, 111, 102]
  | 3 => [115, 119, 111, 110, 107]
  | 4 => [115, 114, 97, 101, 104]
  | 5 => [108, 108, 101, 116]
  | 6 => [107, 115, 97]
  | 7 => [101, 101, 115]
  | 8 => [108, 108, 101, 115]
  | 9 => [101, 118, 101]
  | 10 => [100, 101, 107, 115, 97]
  | _ => [100, 108, 111, 116]
def wc (i : Nat) : Int64 := lN (hr (nm i))
theorem hr_inj : ∀ l l' : List Nat, (∀ x, x ∈ l → 0 < x ∧ x < 256) → (∀ x, x ∈ l' → 0 < x ∧ x < 256) → hr l = hr l' → l = l'
  | [], [], _, _, _ => rfl
  | [], y :: l', _, h2, e => by have := h2 y List.mem_cons_self; rw [hr, hr] at e; omega
  | x :: l, [], h1, _, e => by have := h1 x List.mem_cons_self; rw [hr, hr] at e; omega
  | x :: l, y :: l', h1, h2, e => by
    have := h1 x List.mem_cons_self
    have := h2 y List.mem_cons_self
    rw [hr, hr] at e
    rw [show x = y by omega, hr_inj l l' (fun z hz => h1 z (List.mem_cons_of_mem _ hz)) (fun z hz => h2 z (List.mem_cons_of_mem _ hz)) (by omega)]
theorem hr_lt : ∀ l : List Nat, (∀ x, x ∈ l → x < 256) → hr l < 256 ^ l.length
  | [], _ => by rw [hr]; exact Nat.one_pos
  | x :: l, h => by
    have h1 := hr_lt l (fun z hz => h z (List.mem_cons_of_mem _ hz))
    have h2 := h x List.mem_cons_self
    rw [hr, List.length_cons, Nat.pow_succ]
    omega
theorem wr_len (B : Nat → Nat) (b : Nat) : ∀ n, (wr B b n).length = n
  | 0 => rfl
  | n + 1 => by rw [wr, List.length_cons, wr_len B b n]
theorem wr_mem {B : Nat → Nat} {b x : Nat} : ∀ {n}, x ∈ wr B b n → ∃ j, j < n ∧ x = B (b + j)
  | 0, h => by rw [wr] at h; cases h
  | n + 1, h => by
    rw [wr] at h
    rcases List.mem_cons.mp h with e | e
    · exact ⟨n, by omega, e⟩
    · obtain ⟨j, h1, h2⟩ := wr_mem e
      exact ⟨j, by omega, h2⟩
theorem lb_v (n : Nat) : (lN n).toBitVec = BitVec.ofNat 64 n := rfl
theorem lb_n {n : Nat} (h : n < 2 ^ 64) : (lN n).toBitVec.toNat = n := by
  rw [lb_v, BitVec.toNat_ofNat]
  exact Nat.mod_eq_of_lt h
theorem l_sh8 (x : Nat) (y : Nat) (hy : y < 256) : (lN x <<< ((8 : Int32).toInt64 &&& 63)) ||| (nI y).toInt64 = lN (256 * x + y) := by
  rw [nI_l (by omega)]
  apply Int64.toBitVec_inj.1
  rw [Int64.toBitVec_or, Int64.toBitVec_shiftLeft, lb_v, lb_v, lb_v]
  have e8 : (((8 : Int32).toInt64 &&& 63).toBitVec.smod 64).toNat = 8 := by decide
  apply BitVec.eq_of_getLsbD_eq
  intro i hi
  rw [BitVec.getLsbD_or, BitVec.shiftLeft_eq', e8, BitVec.getLsbD_shiftLeft, BitVec.getLsbD_ofNat, BitVec.getLsbD_ofNat, BitVec.getLsbD_ofNat]
  rw [show 256 * x + y = 2 ^ 8 * x + y from rfl, Nat.testBit_two_pow_mul_add x (by omega : y < 2 ^ 8) i]
  by_cases c : i < 8
  · simp [c, hi]
  · have : y.testBit i = false := Nat.testBit_lt_two_pow (Nat.lt_of_lt_of_le hy (by
      calc 256 = 2 ^ 8 := rfl
        _ ≤ 2 ^ i := Nat.pow_le_pow_right (by decide) (by omega)))
    simp [c, hi, this]
    omega
theorem hs_N {B : Nat → Nat} {b : Nat} : ∀ n, (∀ j, j < n → B (b + j) < 256) → hs B b n = lN (hr (wr B b n))
  | 0, _ => rfl
  | n + 1, h => by
    rw [hs, hs_N n (fun j hj => h j (by omega)), l_sh8 _ _ (h n (by omega)), wr, hr, Nat.add_comm]
def wrd (B : Nat → Nat) (L a : Nat) : List Nat := if tK B L a = 2 then wr B (tB B L a) (tE B L a - tB B L a) else []
def hv (B : Nat → Nat) (L a : Nat) : Int64 := if tK B L a = 2 then wH B (tB B L a) (tE B L a) else 0
theorem nm_ok : ∀ i, i < 12 → (∀ x, x ∈ nm i → 0 < x ∧ x < 256) ∧ (nm i).length ≤ 8 ∧ nm i ≠ [] ∧ hr (nm i) < 2 ^ 63 ∧ hr (nm i) ≠ 0 := by decide
theorem hv_w {B : Nat → Nat} {L a : Nat} (ha : a ≤ L) {i : Nat} (hi : i < 12) : hv B L a = wc i ↔ wrd B L a = nm i := by
  obtain ⟨n1, n2, n3, n4, n5⟩ := nm_ok i hi
  rw [hv, wrd]
  by_cases c : tK B L a = 2
  · rw [if_pos c, if_pos c]
    obtain ⟨e1, e2, -, e4, -⟩ := tE_lt (B := B) ha
    have hl : ∀ j, j < tE B L a - tB B L a → 97 ≤ B (tB B L a + j) ∧ B (tB B L a + j) ≤ 122 := fun j hj => by
      have := e4 c (tB B L a + j) (by omega) (by omega)
      rw [pL, Bool.and_eq_true, Bool.and_eq_true, decide_eq_true_eq, decide_eq_true_eq, decide_eq_true_eq] at this
      exact this.2
    have hm : ∀ x, x ∈ wr B (tB B L a) (tE B L a - tB B L a) → 0 < x ∧ x < 256 := fun x hx => by
      obtain ⟨j, j1, j2⟩ := wr_mem hx
      have := hl j j1
      omega
    rw [wH]
    by_cases c8 : tE B L a - tB B L a ≤ 8
    · rw [if_pos c8, hs_N _ (fun j hj => by have := hl j hj; omega), wc]
      constructor
      · intro q
        refine hr_inj _ _ hm n1 ?_
        have h1 := hr_lt (wr B (tB B L a) (tE B L a - tB B L a)) (fun x hx => (hm x hx).2)
        rw [wr_len] at h1
        have h2 : hr (wr B (tB B L a) (tE B L a - tB B L a)) < 2 ^ 64 := Nat.lt_of_lt_of_le h1 (by
          calc 256 ^ (tE B L a - tB B L a) ≤ 256 ^ 8 := Nat.pow_le_pow_right (by decide) c8
            _ = 2 ^ 64 := by decide)
        have := congrArg (fun v => v.toBitVec.toNat) q
        simp only [lb_n h2, lb_n (show hr (nm i) < 2 ^ 64 by omega)] at this
        exact this
      · intro q
        rw [q]
    · rw [if_neg c8]
      constructor
      · intro q
        exfalso
        rw [wc, show (0 : Int64) = lN 0 from rfl] at q
        have := congrArg (fun v => v.toBitVec.toNat) q
        simp only [lb_n (show 0 < 2 ^ 64 by decide), lb_n (show hr (nm i) < 2 ^ 64 by omega)] at this
        omega
      · intro q
        have := congrArg List.length q
        rw [wr_len] at this
        omega
  · rw [if_neg c, if_neg c]
    constructor
    · intro q
      exfalso
      rw [wc, show (0 : Int64) = lN 0 from rfl] at q
      have := congrArg (fun v => v.toBitVec.toNat) q
      simp only [lb_n (show 0 < 2 ^ 64 by decide), lb_n (show hr (nm i) < 2 ^ 64 by omega)] at this
      omega
    · intro q
      exact absurd q.symm n3
end
section
/-! the reference: reading numbers, counting lines -/
def rf (S K : List Nat) (h h' : qm_H) : Prop := h'.2.2 = h.2.2 ∧ (∀ q, q ≠ 26 → q ∉ S → h'.1 q = h.1 q) ∧ (∀ q, q ≠ 26 → h'.2.1 q = h.2.1 q) ∧ ∀ k, k ∉ K → h'.1 26 k = h.1 26 k
theorem rf.r {S K : List Nat} {h : qm_H} : rf S K h h := ⟨rfl, fun _ _ _ => rfl, fun _ _ => rfl, fun _ _ => rfl⟩
theorem rf.tr {S K : List Nat} {h h1 h2 : qm_H} (a : rf S K h h1) (b : rf S K h1 h2) : rf S K h h2 := ⟨b.1.trans a.1, fun q hq hs => (b.2.1 q hq hs).trans (a.2.1 q hq hs), fun q hq => (b.2.2.1 q hq).trans (a.2.2.1 q hq), fun k hk => (b.2.2.2 k hk).trans (a.2.2.2 k hk)⟩
theorem rf.mono {S K S' K' : List Nat} {h h1 : qm_H} (a : rf S K h h1) (h1' : ∀ q, q ∈ S → q ∈ S') (h2' : ∀ q, q ∈ K → q ∈ K') : rf S' K' h h1 := ⟨a.1, fun q hq hs => a.2.1 q hq (fun z => hs (h1' q z)), a.2.2.1, fun k hk => a.2.2.2 k (fun z => hk (h2' k z))⟩
theorem rf.s26 {S K : List Nat} {h h1 : qm_H} (a : rf S K h h1) {k : Nat} {v : Int32} (hk : k ∈ K) : rf S K h (qm_si h1 26 k v) := ⟨a.1, fun q hq hs => by rw [si_ne _ _ _ hq]; exact a.2.1 q hq hs, a.2.2.1, fun j hj => by rw [si_row, up_n _ _ (fun e => hj (by rw [e]; exact hk))]; exact a.2.2.2 j hj⟩
theorem rf.si {S K : List Nat} {h h1 : qm_H} (a : rf S K h h1) {p k : Nat} {v : Int32} (hp : p ∈ S) (hp2 : 26 ≠ p) : rf S K h (qm_si h1 p k v) := ⟨a.1, fun q hq hs => by rw [si_ne _ _ _ (fun e => hs (by rw [e]; exact hp))]; exact a.2.1 q hq hs, a.2.2.1, fun j hj => by rw [si_ne _ _ _ hp2]; exact a.2.2.2 j hj⟩
theorem tfto {S K : List Nat} {h h1 : qm_H} (a : tf h h1) (hK : ∀ k, k ∈ [9, 11, 12, 13] → k ∈ K) : rf S K h h1 := ⟨a.1, fun q hq _ => a.2.1 q hq, a.2.2.1, fun k hk => a.2.2.2 k (fun z => hk (hK k z))⟩
def LF (h : qm_H) (a : Nat) (flt : Nat × Nat) : Prop := h.1 26 16 = nI flt.1 ∧ (flt.1 ≠ 0 → h.1 26 17 = nI flt.2 ∧ flt.2 < a) ∧ flt.1 ≤ 4
def RW (h : qm_H) (B : Nat → Nat) (L a : Nat) (flt : Nat × Nat) : Prop := TP (h.1 27) B ∧ L ≤ 600 ∧ h.1 26 10 = nI L ∧ a ≤ L ∧ h.1 26 9 = nI a ∧ LF h a flt
def RD (h : qm_H) (B : Nat → Nat) (L a : Nat) (flt : Nat × Nat) : Prop := TP (h.1 27) B ∧ L ≤ 600 ∧ h.1 26 10 = nI L ∧ a ≤ L ∧ TS h B L a ∧ LF h a flt
theorem LF.up {h : qm_H} {a a' : Nat} {flt : Nat × Nat} (k : LF h a flt) (ha : a ≤ a') : LF h a' flt := ⟨k.1, fun q => ⟨(k.2.1 q).1, by have := (k.2.1 q).2; omega⟩, k.2.2⟩
theorem RD.w {h : qm_H} {B : Nat → Nat} {L a : Nat} {flt : Nat × Nat} (k : RD h B L a flt) : RW h B L (tE B L a) flt := by
  obtain ⟨k1, k2, k3, k4, k5, k6⟩ := k
  obtain ⟨t1, t2⟩ := tB_le (B := B) k4
  obtain ⟨t3, t4, -⟩ := tE_lt (B := B) k4
  exact ⟨k1, k2, k3, t4, k5.1, k6.up (by omega)⟩
theorem RD.si {h : qm_H} {B : Nat → Nat} {L a : Nat} {flt : Nat × Nat} (k : RD h B L a flt) {p j : Nat} {v : Int32} (h1 : 26 ≠ p) (h2 : 27 ≠ p) : RD (qm_si h p j v) B L a flt := by
  have e1 : (qm_si h p j v).1 26 = h.1 26 := si_ne _ _ _ h1
  have e2 : (qm_si h p j v).1 27 = h.1 27 := si_ne _ _ _ h2
  obtain ⟨k1, k2, k3, k4, k5, k6⟩ := k
  refine ⟨by rw [e2]; exact k1, k2, by rw [e1]; exact k3, k4, ?_, ?_⟩
  · unfold TS at k5 ⊢; rw [e1]; exact k5
  · unfold LF at k6 ⊢; rw [e1]; exact k6
theorem RD.s26 {h : qm_H} {B : Nat → Nat} {L a : Nat} {flt : Nat × Nat} (k : RD h B L a flt) {j : Nat} {v : Int32} (hj : j ∉ [9, 10, 11, 12, 13, 16, 17]) : RD (qm_si h 26 j v) B L a flt := by
  have e0 : ∀ i, i ∈ [9, 10, 11, 12, 13, 16, 17] → (qm_si h 26 j v).1 26 i = h.1 26 i := fun i hi => by rw [si_row, up_n _ _ (fun e => hj (by rw [← e]; exact hi))]
  have e2 : (qm_si h 26 j v).1 27 = h.1 27 := si_ne _ _ _ (by decide)
  obtain ⟨k1, k2, k3, k4, ⟨q1, q2, q3, q4, q5⟩, ⟨l1, l2, l3⟩⟩ := k
  exact ⟨by rw [e2]; exact k1, k2, by rw [e0 10 (by decide)]; exact k3, k4, ⟨by rw [e0 9 (by decide)]; exact q1, by rw [e0 11 (by decide)]; exact q2, by rw [e0 12 (by decide)]; exact q3, fun z => by rw [e0 13 (by decide)]; exact q4 z, q5⟩, ⟨by rw [e0 16 (by decide)]; exact l1, fun z => ⟨by rw [e0 17 (by decide)]; exact (l2 z).1, (l2 z).2⟩, l3⟩⟩
theorem e_tok {G : qm_G} (hG : G.2.2.2.2 = true) (d : Nat) (h : qm_H) {B : Nat → Nat} {L a : Nat} {flt : Nat × Nat} (hR : RW h B L a flt) : qm_Ev G (d + 1) 0 0 qyX10_token [.ref 26] h (fun r h' => r = none ∧ RD h' B L a flt ∧ tf h h') := by
  obtain ⟨k1, k2, k3, k4, k5, k6⟩ := hR
  refine (e_token hG d h k1 k2 k5 k4 k3).mono ?_
  rintro _ h' ⟨rfl, q1, q2, -⟩
  refine ⟨rfl, ⟨by rw [q2.2.1 27 (by decide)]; exact k1, k2, by rw [q2.2.2.2 10 (by decide)]; exact k3, k4, q1, ?_⟩, q2⟩
  unfold LF at k6 ⊢
  rw [q2.2.2.2 16 (by decide), q2.2.2.2 17 (by decide)]
  exact k6
theorem e_fails {G : qm_G} (hG : G.2.2.2.2 = true) (d : Nat) (h : qm_H) : qm_Ev G d 0 0 qyX10_fails [.ref 26] h (fun r h' => r = some (.int 0) ∧ h' = qm_si h 26 15 (h.1 26 11)) := by
  refine qm_Ev.run (M := mX10_fails) okX10_fails rfl hG fun z => ?_
  exact ⟨rfl, rfl, trivial, rfl, rfl, rfl⟩
def fs1 (flt : Nat × Nat) (f p : Nat) : Nat × Nat := if flt.1 = 0 then (f, p) else flt
theorem e_later {G : qm_G} (hG : G.2.2.2.2 = true) (d : Nat) (h : qm_H) {a f p : Nat} {flt : Nat × Nat} (hL : LF h a flt) (hf : f ≤ 4) (hf0 : f ≠ 0) (hp : a ≤ p) (hp6 : p ≤ 600) : qm_Ev G d 0 0 qyX10_later [.ref 26, .int (nI f), .int (nI p)] h (fun r h' => r = none ∧ LF h' (p + 1) (fs1 flt f p) ∧ rf [] [16, 17] h h' ∧ h'.2 = h.2) := by
  obtain ⟨l1, l2, l3⟩ := hL
  refine qm_Ev.run (M := mX10_later) okX10_later rfl hG fun z => ?_
  refine ⟨rfl, fun (q : h.1 26 16 = 0) => ⟨rfl, trivial, rfl, trivial, rfl, rfl, ?_, ?_, rfl⟩, fun (q : ¬ h.1 26 16 = 0) => ?_⟩
  · rw [l1] at q
    have e0 : flt.1 = 0 := (nI_eq (b := 0) (by omega) (by decide)).mp q
    rw [fs1, if_pos e0]
    refine ⟨?_, fun _ => ⟨?_, by show p < p + 1; omega⟩, hf⟩
    · show (qm_si (qm_si h 26 16 (nI f)) 26 17 (nI p)).1 26 16 = nI f
      rw [si_row, up_n _ _ (by decide), si_row, up_s]
    · show (qm_si (qm_si h 26 16 (nI f)) 26 17 (nI p)).1 26 17 = nI p
      rw [si_row, up_s]
  · exact (rf.r.s26 (by decide)).s26 (by decide)
  · rw [l1] at q
    have e0 : flt.1 ≠ 0 := fun e => q (by rw [e]; rfl)
    obtain ⟨l4, l5⟩ := l2 e0
    refine ⟨rfl, fun (z : nI p < h.1 26 17) => absurd z (by rw [l4]; exact nI_nlt (by omega) (by omega)), fun _ => ⟨rfl, fun _ => ⟨rfl, rfl, ?_, rf.r, rfl⟩, fun (z : nI p = h.1 26 17) => ?_⟩⟩
    · rw [fs1, if_neg e0]
      exact ⟨l1, fun _ => ⟨l4, by omega⟩, l3⟩
    · rw [l4] at z
      have := (nI_eq (by omega) (by omega)).mp z
      omega
def KR : List Nat := [9, 11, 12, 13, 15, 16, 17, 20, 21]
def bdd (hi v : Nat) (but : Int32) : Bool := decide (hi < v) || decide (nI v = but)
theorem e_in0 {G : qm_G} (hG : G.2.2.2.2 = true) (d : Nat) (h : qm_H) {x : Int32} {v hi : Nat} (hx : x = nI v) (hv : v < 2 ^ 31) (hh : hi < 2 ^ 31) : qm_Ev G d 0 0 qyX10_in [.int x, .int 0, .int (nI hi)] h (fun r h' => r = some (.int (b2 (decide (v ≤ hi)))) ∧ h = h') := by
  refine (e_in hG d h x 0 (nI hi)).mono ?_
  rintro _ h' ⟨rfl, rfl⟩
  refine ⟨?_, rfl⟩
  have : decide ((0 : Int32) ≤ x ∧ x ≤ nI hi) = decide (v ≤ hi) := by
    rw [hx]
    exact decide_eq_decide.mpr ⟨fun q => (nI_leI hv hh).mp q.2, fun q => ⟨nI_pos' hv, nI_le q hh⟩⟩
  rw [this]
theorem e_takeBut {G : qm_G} (hG : G.2.2.2.2 = true) (d : Nat) (h : qm_H) {B : Nat → Nat} {L a : Nat} {flt : Nat × Nat} (hR : RD h B L a flt) {k hi : Nat} (hk : k < 4) (hh : hi < 256) (but : Int32) : qm_Ev G (d + 2) 0 0 qyX10_takeBut [.ref 26, .int (nI k), .int 0, .int (nI hi), .int but] h (fun r h' => (tK B L a = 3 ∧ r = some (.int 1) ∧ RD h' B L (tE B L a) (if bdd hi (tV B L a) but then fs1 flt 2 (tB B L a) else flt) ∧ h'.1 36 = va_up (h.1 36) k (nI (tV B L a)) ∧ h'.1 26 21 = (if bdd hi (tV B L a) but then 0 else h.1 26 21) ∧ h'.1 26 20 = h.1 26 20 ∧ rf [36] KR h h') ∨ (tK B L a ≠ 3 ∧ r = some (.int 0) ∧ h'.1 26 15 = nI (tB B L a) ∧ rf [] KR h h')) := by
  have hR0 := hR
  obtain ⟨k1, k2, k3, k4, k5, k6⟩ := hR
  obtain ⟨t1, t2⟩ := tB_le (B := B) k4
  obtain ⟨t3, t4, t5, -, -, t6⟩ := tE_lt (B := B) k4
  refine qm_Ev.by (M := mX10_takeBut) okX10_takeBut (Nat.le_of_ble_eq_true rfl) hG fun z hA => ?_
  by_cases c3 : tK B L a = 3
  · have hv := tV_le k4 c3
    have h13 := k5.2.2.2.1 c3
    have m31 : ∀ h2 flt2 g, RW h2 B L (tE B L a) flt2 → flt2 = (if bdd hi (tV B L a) but then fs1 flt 2 (tB B L a) else flt) → h2.1 36 = va_up (h.1 36) k (nI (tV B L a)) → h2.1 26 21 = g → g = (if bdd hi (tV B L a) but then 0 else h.1 26 21) → h2.1 26 20 = h.1 26 20 → rf [36] KR h h2 → qm_PW G mX10_takeBut z 31 0 0 [vr 26, vu, vu, vu, vu] [] h2 := by
      intro h2 flt2 g r1 r2 r3 r4 r5 r6 r7
      refine qm_wp_ok hA [] 20 _ _ _ _ _ _ ⟨rfl, 0, 0, _, e_tok hG d h2 r1, ⟨Nat.le_refl _, Nat.le_refl _⟩, ?_⟩
      rintro _ h3 ⟨rfl, s1, s2⟩
      refine ⟨rfl, Or.inl ⟨c3, rfl, by rw [← r2]; exact s1, ?_, ?_, ?_, r7.tr (tfto s2 (by decide))⟩⟩
      · rw [s2.2.1 36 (by decide), r3]
      · rw [s2.2.2.2 21 (by decide), r4, r5]
      · rw [s2.2.2.2 20 (by decide), r6]
    have hin : vp_in (nI k) 4 := vp_in_nI hk (by decide)
    have hR1 := hR0.si (p := 36) (j := k) (v := nI (tV B L a)) (by decide) (by decide)
    have m23 : bdd hi (tV B L a) but = true → qm_PW G mX10_takeBut z 23 0 0 [vr 26, vu, vu, vu, vu] [] (qm_si h 36 k (nI (tV B L a))) := by
      intro hb
      have e11 : (qm_si h 36 k (nI (tV B L a))).1 26 11 = nI (tB B L a) := by rw [si_ne _ _ _ (by decide)]; exact k5.2.1
      have el := e_later hG (d + 1) (qm_si h 36 k (nI (tV B L a))) (a := a) (f := 2) (p := tB B L a) (flt := flt) hR1.2.2.2.2.2 (by decide) (by decide) t1 (by omega)
      rw [← e11] at el
      refine qm_wp_ok hA [31] 20 _ _ _ _ _ _ ⟨rfl, rfl, 0, 0, _, el, ⟨Nat.le_refl _, Nat.le_refl _⟩, ?_⟩
      rintro _ h2 ⟨rfl, s1, s2, s3⟩
      refine ⟨rfl, ?_⟩
      have e36 : h2.1 36 = va_up (h.1 36) k (nI (tV B L a)) := by rw [s2.2.1 36 (by decide) (by decide), si_row]
      refine ⟨?_, qm_PW.mask [true, false, false, false, false] (m31 (qm_si h2 26 21 0) (fs1 flt 2 (tB B L a)) 0 ?_ (by rw [hb]; rfl) (by rw [si_ne _ _ _ (by decide), e36]) (by rw [si_row, up_s]) (by rw [hb]; rfl) (by rw [si_row, up_n _ _ (by decide), s2.2.2.2 20 (by decide), si_ne _ _ _ (by decide)]) ?_)⟩
      · first | trivial | exact Or.inl rfl | decide
      · refine ⟨?_, k2, ?_, t4, ?_, ?_⟩
        · rw [si_ne _ _ _ (by decide), s2.2.1 27 (by decide) (by decide), si_ne _ _ _ (by decide)]; exact k1
        · rw [si_row, up_n _ _ (by decide), s2.2.2.2 10 (by decide), si_ne _ _ _ (by decide)]; exact k3
        · rw [si_row, up_n _ _ (by decide), s2.2.2.2 9 (by decide), si_ne _ _ _ (by decide)]; exact k5.1
        · have := t5 (by omega)
          have s1' := s1.up (a' := tE B L a) (by omega)
          obtain ⟨z1, z2, z3⟩ := s1'
          exact ⟨by rw [si_row, up_n _ _ (by decide)]; exact z1, fun q => ⟨by rw [si_row, up_n _ _ (by decide)]; exact (z2 q).1, (z2 q).2⟩, z3⟩
      · refine rf.s26 ?_ (by decide)
        exact (rf.r.si (by decide) (by decide)).tr (s2.mono (fun q hq => absurd hq (by simp)) (by decide))
    rw [← h13] at m23 hR1
    refine qm_wp_ok hA [23, 31] 40 _ _ _ _ _ _ ⟨rfl, fun _ => ?_, fun (q : ¬ h.1 26 12 = nI 3) => absurd (by rw [k5.2.2.1, c3]) q⟩
    refine ⟨rfl, _, rfl, rfl, rfl, hin, ?_⟩
    rw [nI_clamp (by omega)]
    have e13 : (qm_si h 36 k (h.1 26 13)).1 26 13 = nI (tV B L a) := by rw [si_ne _ _ _ (by decide), h13]
    refine ⟨rfl, 0, 0, _, e_in0 hG (d + 1) (qm_si h 36 k (h.1 26 13)) (v := tV B L a) (hi := hi) e13 (by omega) (by omega), ⟨Nat.le_refl _, Nat.le_refl _⟩, ?_⟩
    rintro _ _ ⟨rfl, rfl⟩
    refine b2_eq (fun hb => ⟨rfl, fun (q : ¬ (qm_si h 36 k (h.1 26 13)).1 26 13 = but) => ?_, fun (q : (qm_si h 36 k (h.1 26 13)).1 26 13 = but) => ?_⟩) (fun hb => ?_)
    · rw [e13] at q
      have hnb : bdd hi (tV B L a) but = false := by
        rw [bdd, decide_eq_false q, decide_eq_false (by have := of_decide_eq_true hb; omega)]; rfl
      refine qm_PW.mask [true, false, false, false, false] (m31 _ flt (h.1 26 21) hR1.w (by rw [hnb]; rfl) (by rw [si_row, h13]) (by rw [si_ne _ _ _ (by decide)]) (by rw [hnb]; rfl) (by rw [si_ne _ _ _ (by decide)]) (rf.r.si (by decide) (by decide)))
    · rw [e13] at q
      exact qm_PW.mask [true, false, false, false, false] (m23 (by rw [bdd, decide_eq_true q, Bool.or_true]))
    · exact qm_PW.mask [true, false, false, false, false] (m23 (by rw [bdd, decide_eq_true (by have := of_decide_eq_false hb; omega)]; rfl))
  · refine qm_wp_ok hA [] 40 _ _ _ _ _ _ ⟨rfl, fun (q : h.1 26 12 = nI 3) => absurd ((nI_eq (by omega) (by decide)).mp (by rw [← k5.2.2.1]; exact q)) c3, fun _ => ⟨rfl, 0, 0, _, e_fails hG (d + 1) h, ⟨Nat.le_refl _, Nat.le_refl _⟩, ?_⟩⟩
    rintro _ _ ⟨rfl, rfl⟩
    exact ⟨rfl, Or.inr ⟨c3, rfl, by rw [si_row, up_s]; exact k5.2.1, rf.r.s26 (by decide)⟩⟩
theorem e_take {G : qm_G} (hG : G.2.2.2.2 = true) (d : Nat) (h : qm_H) {B : Nat → Nat} {L a : Nat} {flt : Nat × Nat} (hR : RD h B L a flt) {k hi : Nat} (hk : k < 4) (hh : hi < 256) : qm_Ev G (d + 3) 0 0 qyX10_take [.ref 26, .int (nI k), .int 0, .int (nI hi)] h (fun r h' => (tK B L a = 3 ∧ r = some (.int 1) ∧ RD h' B L (tE B L a) (if bdd hi (tV B L a) (-1) then fs1 flt 2 (tB B L a) else flt) ∧ h'.1 36 = va_up (h.1 36) k (nI (tV B L a)) ∧ h'.1 26 21 = (if bdd hi (tV B L a) (-1) then 0 else h.1 26 21) ∧ h'.1 26 20 = h.1 26 20 ∧ rf [36] KR h h') ∨ (tK B L a ≠ 3 ∧ r = some (.int 0) ∧ h'.1 26 15 = nI (tB B L a) ∧ rf [] KR h h')) := by
  refine qm_Ev.run (M := mX10_take) okX10_take rfl hG fun z => ?_
  refine ⟨rfl, 0, 0, _, e_takeBut hG d h hR hk hh (-1), ⟨Nat.le_refl _, Nat.le_refl _⟩, ?_⟩
  rintro _ h' (⟨a1, rfl, a2⟩ | ⟨a1, rfl, a2⟩)
  · exact ⟨rfl, Or.inl ⟨a1, rfl, a2⟩⟩
  · exact ⟨rfl, Or.inr ⟨a1, rfl, a2⟩⟩
theorem e_full {G : qm_G} (hG : G.2.2.2.2 = true) (d : Nat) (h : qm_H) {a c lim p : Nat} {flt : Nat × Nat} (hL : LF h a flt) (hc : h.1 35 0 = nI c) (hcl : c ≤ lim) (hl : lim ≤ 40) (hp : a ≤ p) (hp6 : p ≤ 600) : qm_Ev G (d + 1) 0 0 qyX10_full [.ref 26, .int 0, .int (nI lim), .int (nI p)] h (fun r h' => r = none ∧ LF h' (p + 1) (if lim ≤ c then fs1 flt 3 p else flt) ∧ rf [] [16, 17] h h' ∧ h'.2 = h.2) := by
  refine qm_Ev.run (M := mX10_full) okX10_full rfl hG fun z => ?_
  refine ⟨rfl, _, rfl, rfl, (vp_in_nI (n := 0) (by decide) (by decide) : vp_in (nI 0) 161), fun (q : ¬ h.1 35 0 = nI lim) => ⟨rfl, rfl, ?_, rf.r, rfl⟩, fun (q : h.1 35 0 = nI lim) => ⟨rfl, 0, 0, _, e_later hG d h (f := 3) hL (by decide) (by decide) hp hp6, ⟨Nat.le_refl _, Nat.le_refl _⟩, ?_⟩⟩
  · rw [if_neg (fun z => q (by rw [hc, show c = lim by omega]))]
    exact hL.up (by omega)
  · rintro _ h' ⟨rfl, s1, s2, s3⟩
    rw [hc] at q
    have := (nI_eq (by omega) (by omega)).mp q
    exact ⟨rfl, rfl, by rw [if_pos (by omega)]; exact s1, s2, s3⟩
end
section
/-! a text's lines; the reference: lines of towns -/
def nu (w : Nat) : Nat := [1, 2, 2, 2, 2, 2, 2, 2, 3, 0, 1, 1].getD w 0
def mo (w k : Nat) : Nat := if k = 1 then [30, 5, 5, 5, 5, 5, 5, 5, 5, 0, 5, 5].getD w 0 else if k = 2 then [0, 20, 5, 5, 5, 5, 5, 5, 5, 0, 0, 0].getD w 0 else 30
def unl (w : Nat) : Bool := decide (w = 2) || (decide (w = 4) || decide (w = 8))
def bd (w k : Nat) (vs : Nat → Int32) (v : Nat) : Bool := decide (mo w k < v) || (decide (k = 2) && (unl w && decide (vs 1 = nI v)))
def pn (B : Nat → Nat) (L w : Nat) : Nat → Nat → Nat → Nat × Nat → (Nat → Int32) → Except Nat (Nat × (Nat × Nat) × (Nat → Int32))
  | 0, _, a, flt, vs => .ok (a, flt, vs)
  | r + 1, k, a, flt, vs => if tK B L a = 3 then pn B L w r (k + 1) (tE B L a) (if bd w k vs (tV B L a) then fs1 flt 2 (tB B L a) else flt) (va_up vs k (nI (tV B L a))) else .error (tB B L a)
def LRes (h' : qm_H) (r : Option Value) (B : Nat → Nat) (L : Nat) (res : Except Nat (Nat × (Nat × Nat) × (Nat → Int32))) (Q : (Nat → Int32) → Nat × Nat → Prop) : Prop := match res with
  | .error p => r = some (.int 0) ∧ h'.1 26 15 = nI p
  | .ok (a2, flt2, vs) => r = some (.int 1) ∧ RD h' B L a2 flt2 ∧ Q vs flt2
def bs0 (w : Nat) : Nat := if w = 2 then 7 else if w = 3 then 19 else 25
def tdT (w : Nat) (vs T : Nat → Int32) : Nat → Int32 :=
  if w = 0 then (if T 0 < 6 then va_up (va_up T (13 + (T 0).toNatClampNeg) (vs 1)) 0 (T 0 + 1) else T)
  else if w = 1 then va_up T (1 + (vs 1).toNatClampNeg) (vs 2)
  else va_up T (bs0 w + (vs 1).toNatClampNeg) (T (bs0 w + (vs 1).toNatClampNeg) ||| ((1 : Int32) <<< (vs 2 &&& 31)))
def far1 (w : Nat) (vs : Nat → Int32) (f : Int32) : Int32 := if w = 3 ∨ w = 4 then mx f (vs 1) else f
def far2 (w : Nat) (vs : Nat → Int32) (f : Int32) : Int32 := if w = 4 then mx (far1 w vs f) (vs 2) else far1 w vs f
theorem nI_ne1 {v : Nat} (h : v < 2 ^ 31) : ¬ nI v = -1 := fun q => absurd (show (-1 : Int32) < 0 by decide) (by rw [← q]; exact nI_pos h)
theorem bdd_m1 {hi v : Nat} (h : v < 2 ^ 31) : bdd hi v (-1) = decide (hi < v) := by rw [bdd, decide_eq_false (nI_ne1 h), Bool.or_false]
theorem fs1_0 {flt : Nat × Nat} {f p : Nat} (hf : f ≠ 0) : (fs1 flt f p).1 ≠ 0 := by
  rw [fs1]
  split
  · exact hf
  · assumption
theorem e_personLine {G : qm_G} (hG : G.2.2.2.2 = true) (d : Nat) (h : qm_H) {B : Nat → Nat} {L a c : Nat} {flt : Nat × Nat} (hR : RD h B L a flt) (hc : h.1 35 0 = nI c) (hc6 : c ≤ 6) : qm_Ev G (d + 4) 0 0 qyX10_personLine [.ref 26] h (fun r h' => rf [35, 36] KR h h' ∧ LRes h' r B L (pn B L 0 1 1 a flt (fun _ => -1)) (fun vs _ => h'.1 35 = tdT 0 vs (h.1 35) ∧ h'.1 26 20 = h.1 26 20)) := by
  have k4 := hR.2.2.2.1
  refine qm_Ev.run (M := mX10_personLine) okX10_personLine rfl hG fun z => ?_
  refine ⟨rfl, 0, 0, _, e_take hG d h hR (k := 0) (hi := 30) (by decide) (by decide), ⟨Nat.le_refl _, Nat.le_refl _⟩, ?_⟩
  rintro _ h' (⟨a1, rfl, a2, a3, a4, a5, a6⟩ | ⟨a1, rfl, a2, a3⟩)
  · have hv := tV_le k4 a1
    have epn : pn B L 0 1 1 a flt (fun _ => -1) = .ok (tE B L a, (if bdd 30 (tV B L a) (-1) then fs1 flt 2 (tB B L a) else flt), va_up (fun _ => -1) 1 (nI (tV B L a))) := by
      rw [pn, if_pos a1, pn, bdd_m1 (by omega), bd, mo, if_pos rfl]
      simp
    rw [epn]
    have e35 : h'.1 35 = h.1 35 := a6.2.1 35 (by decide) (by decide)
    have f0 : rf [35, 36] KR h h' := a6.mono (by decide) (fun q hq => hq)
    refine ⟨fun _ => ?_, fun q => absurd q (by decide)⟩
    refine ⟨rfl, _, rfl, rfl, (vp_in_nI (n := 0) (by decide) (by decide) : vp_in (nI 0) 161), fun (q : nI 6 ≤ h'.1 35 0) => ?_, fun (q : ¬ nI 6 ≤ h'.1 35 0) => ?_⟩
    · refine ⟨rfl, f0, rfl, a2, ?_, a5⟩
      rw [e35] at q ⊢
      have q' : (6 : Int32) ≤ h.1 35 0 := q
      rw [tdT, if_pos rfl, if_neg (fun z => Int32.lt_irrefl (Int32.lt_of_lt_of_le z q'))]
    · rw [e35, hc] at q
      have hc6 : c < 6 := by
        rcases Nat.lt_or_ge c 6 with e | e
        · exact e
        · exact absurd (nI_le e (by omega)) q
      have e13 : (13 : Int32) + h'.1 35 0 = nI (13 + c) := by rw [e35, hc]; exact nI_add 13 c
      have ein : vp_in ((13 : Int32) + h'.1 35 0) 161 := by rw [e13]; exact vp_in_nI (by omega) (by decide)
      have ecl : ((13 : Int32) + h'.1 35 0).toNatClampNeg = 13 + c := by rw [e13, nI_clamp (by omega)]
      have z0 : vp_in (nI 0) 161 := vp_in_nI (n := 0) (by decide) (by decide)
      refine ⟨rfl, _, rfl, rfl, _, rfl, rfl, (vp_in_nI (n := 0) (by decide) (by decide) : vp_in (nI 0) 4), rfl, ein, rfl, _, rfl, rfl, z0, rfl, z0, rfl, ?_, rfl, ?_, ?_, ?_⟩
      · exact (f0.si (by decide) (by decide)).si (by decide) (by decide)
      · exact (a2.si (by decide) (by decide)).si (by decide) (by decide)
      · show (qm_si (qm_si h' 35 ((13 : Int32) + h'.1 35 0).toNatClampNeg (h'.1 36 0)) 35 0 ((qm_si h' 35 ((13 : Int32) + h'.1 35 0).toNatClampNeg (h'.1 36 0)).1 35 0 + 1)).1 35 = _
        rw [ecl, si_row, si_row, up_n _ _ (by omega), e35, a3, up_s, tdT, if_pos rfl, hc, if_pos (show nI c < (6 : Int32) from nI_lt (b := 6) hc6 (by decide)), nI_clamp (by omega), up_s]
      · show (qm_si (qm_si h' 35 _ _) 35 _ _).1 26 20 = _
        rw [si_ne _ _ _ (by decide), si_ne _ _ _ (by decide)]
        exact a5
  · have epn : pn B L 0 1 1 a flt (fun _ => -1) = .error (tB B L a) := by rw [pn, if_neg a1]
    rw [epn]
    exact ⟨fun q => absurd rfl q, fun _ => ⟨rfl, a3.mono (by decide) (fun q hq => hq), rfl, a2⟩⟩
theorem wc_in : ∀ i, i < 12 → ∀ j, j < 12 → wc i = wc j → i = j := by decide
theorem lgz {v : Int64} {i w : Nat} (hv : v = wc w) (hw : w < 12) (hi : i < 12) : lg_cmp v (wc i) = 0 ↔ w = i := by
  rw [lg_cmp_eq, hv]
  exact ⟨fun q => wc_in w hw i hi q, fun q => by rw [q]⟩
theorem e_twoLine {G : qm_G} (hG : G.2.2.2.2 = true) (d : Nat) (h : qm_H) {B : Nat → Nat} {L a w : Nat} {flt : Nat × Nat} (hR : RD h B L a flt) (hw1 : 1 ≤ w) (hw4 : w ≤ 4) (hg : h.1 26 21 = 1) {v : Int64} (hv : v = wc w) : qm_Ev G (d + 4) 0 0 qyX10_twoLine [.ref 26, .long v] h (fun r h' => rf [35, 36] KR h h' ∧ LRes h' r B L (pn B L w 2 1 a flt (fun _ => -1)) (fun vs flt2 => (flt2.1 = 0 → h'.1 35 = tdT w vs (h.1 35)) ∧ h'.1 35 0 = h.1 35 0 ∧ h'.1 26 20 = far2 w vs (h.1 26 20))) := by
  have k4 := hR.2.2.2.1
  obtain ⟨t1, t2⟩ := tB_le (B := B) k4
  obtain ⟨t3, t4, t5, -⟩ := tE_lt (B := B) k4
  have lz := fun i (hi : i < 12) => lgz (i := i) hv (by omega) hi
  obtain ⟨R, hRes⟩ : ∃ R, R = pn B L w 2 1 a flt (fun _ => -1) := ⟨_, rfl⟩
  rw [← hRes]
  refine qm_Ev.by (M := mX10_twoLine) okX10_twoLine (Nat.le_of_ble_eq_true rfl) hG fun z hA => ?_
  have hm1 : mo w 1 = 5 := by
    rcases (by omega : w = 1 ∨ w = 2 ∨ w = 3 ∨ w = 4) with e | e | e | e <;> rw [e] <;> rfl
  obtain ⟨hi, hhi⟩ : ∃ hi, hi = if w = 1 then 20 else 5 := ⟨_, rfl⟩
  have hm2 : mo w 2 = hi := by
    rw [hhi]
    rcases (by omega : w = 1 ∨ w = 2 ∨ w = 3 ∨ w = 4) with e | e | e | e <;> rw [e] <;> rfl
  have hu : unl w = (decide (w = 2) || decide (w = 4)) := by rw [unl, decide_eq_false (by omega : ¬ w = 8), Bool.or_false]
  have m38 : ∀ h1 p, R = .error p → h1.1 26 15 = nI p → rf [35, 36] KR h h1 → qm_PW G mX10_twoLine z 38 0 0 [vr 26, vl v, vu, vu] [] h1 := fun h1 p c1 c2 c3 => by
    refine qm_wp_ok hA [] 20 _ _ _ _ _ _ ⟨rfl, c3, ?_⟩
    rw [c1]
    exact ⟨rfl, c2⟩
  have m11 : qm_PW G mX10_twoLine z 11 0 0 [vr 26, vl v, vu, vu] [.int (b2 (unl w))] h := by
    refine qm_wp_ok hA [28, 38] 40 _ _ _ _ _ _ ⟨rfl, 0, 0, _, e_take hG d h hR (k := 0) (hi := 5) (by decide) (by decide), ⟨Nat.le_refl _, Nat.le_refl _⟩, ?_⟩
    rintro _ h1 (⟨a1, rfl, a2, a3, a4, a5, a6⟩ | ⟨a1, rfl, a2, a3⟩)
    · have hv1 := tV_le k4 a1
      obtain ⟨v1, hv1e⟩ : ∃ v1, v1 = tV B L a := ⟨_, rfl⟩
      rw [← hv1e] at hv1 a2 a3 a4
      obtain ⟨flt1, hf1⟩ : ∃ flt1, flt1 = (if bdd 5 v1 (-1) then fs1 flt 2 (tB B L a) else flt) := ⟨_, rfl⟩
      rw [← hf1] at a2
      have k4' := a2.2.2.2.1
      obtain ⟨a', ha'⟩ : ∃ a', a' = tE B L a := ⟨_, rfl⟩
      rw [← ha'] at a2 k4'
      obtain ⟨but, hbut⟩ : ∃ but : Int32, but = if unl w then nI v1 else -1 := ⟨_, rfl⟩
      have epn : R = if tK B L a' = 3 then .ok (tE B L a', (if bdd hi (tV B L a') but then fs1 flt1 2 (tB B L a') else flt1), va_up (va_up (fun _ => -1) 1 (nI v1)) 2 (nI (tV B L a'))) else .error (tB B L a') := by
        rw [hRes, pn, if_pos a1, pn, ← ha', ← hv1e]
        have e1 : bd w 1 (fun _ => -1) v1 = bdd 5 v1 (-1) := by
          rw [bdd_m1 (by omega), bd, hm1]
          simp
        rw [e1, ← hf1]
        by_cases c3 : tK B L a' = 3
        · have hv2 := tV_le k4' c3
          rw [if_pos c3, if_pos c3, pn]
          have e2 : bd w 2 (va_up (fun _ => -1) 1 (nI v1)) (tV B L a') = bdd hi (tV B L a') but := by
            rw [bd, bdd, hm2, up_s, hbut]
            cases unl w
            · rw [if_neg (by decide), decide_eq_false (nI_ne1 (by omega))]
              simp
            · rw [if_pos rfl]
              simp only [Bool.true_and, decide_true]
              congr 1
              exact decide_eq_decide.mpr ⟨fun q => q.symm, fun q => q.symm⟩
          rw [e2]
        · rw [if_neg c3, if_neg c3]
      have f0 : rf [35, 36] KR h h1 := a6.mono (by decide) (fun q hq => hq)
      have e35 : h1.1 35 = h.1 35 := a6.2.1 35 (by decide) (by decide)
      -- behind the second number
      have m36 : qm_PW G mX10_twoLine z 36 0 0 [vr 26, vl v, vu, vi (b2 (unl w))] [.int but, .int (nI hi), .int 0, .int (nI 1), .ref 26] h1 := by
        refine qm_wp_ok hA [38, 49, 59] 40 _ _ _ _ _ _ ⟨rfl, 0, 0, _, e_takeBut hG (d + 1) h1 a2 (k := 1) (hi := hi) (by decide) (by rw [hhi]; split <;> omega) but, ⟨Nat.le_refl _, Nat.le_refl _⟩, ?_⟩
        rintro _ h2 (⟨b1, rfl, b2', b3, b4, b5, b6⟩ | ⟨b1, rfl, b2', b3⟩)
        · have hv2 := tV_le k4' b1
          rw [if_pos b1] at epn
          obtain ⟨v2, hv2e⟩ : ∃ v2, v2 = tV B L a' := ⟨_, rfl⟩
          rw [← hv2e] at hv2 b2' b3 b4 epn
          obtain ⟨flt2, hf2⟩ : ∃ flt2, flt2 = (if bdd hi v2 but then fs1 flt1 2 (tB B L a') else flt1) := ⟨_, rfl⟩
          rw [← hf2] at b2' epn
          obtain ⟨vs, hvs⟩ : ∃ vs, vs = va_up (va_up (fun _ => (-1 : Int32)) 1 (nI v1)) 2 (nI v2) := ⟨_, rfl⟩
          rw [← hvs] at epn
          have vs1 : vs 1 = nI v1 := by rw [hvs, up_n _ _ (by decide), up_s]
          have vs2 : vs 2 = nI v2 := by rw [hvs, up_s]
          have r0 : h2.1 36 0 = nI v1 := by rw [b3, up_n _ _ (by decide), a3, up_s]
          have r1 : h2.1 36 1 = nI v2 := by rw [b3, up_s]
          have g0 : rf [35, 36] KR h h2 := f0.tr (b6.mono (by decide) (fun q hq => hq))
          have g35 : h2.1 35 = h.1 35 := by rw [b6.2.1 35 (by decide) (by decide), e35]
          have g20 : h2.1 26 20 = h.1 26 20 := by rw [b5, a5]
          have g21 : h2.1 26 21 = if bdd 5 v1 (-1) || bdd hi v2 but then 0 else 1 := by
            rw [b4, a4, hg]
            cases bdd 5 v1 (-1) <;> cases bdd hi v2 but <;> rfl
          have hflt : flt2.1 = 0 → (bdd 5 v1 (-1) || bdd hi v2 but) = false := fun q => by
            cases c2 : bdd hi v2 but
            · cases c1 : bdd 5 v1 (-1)
              · rfl
              · rw [hf2, c2, if_neg (by decide), hf1, c1, if_pos rfl] at q
                exact absurd q (fs1_0 (by decide))
            · rw [hf2, c2, if_pos rfl] at q
              exact absurd q (fs1_0 (by decide))
          have n0 : vp_in (nI 0) 4 := vp_in_nI (n := 0) (by decide) (by decide)
          have n1 : vp_in (nI 1) 4 := vp_in_nI (n := 1) (by decide) (by decide)
          have m75 : ∀ h3 s, RD h3 B L (tE B L a') flt2 → rf [35, 36] KR h h3 → h3.1 35 = h.1 35 → h3.1 36 = h2.1 36 → h3.1 26 21 = h2.1 26 21 → s = far2 w vs (h.1 26 20) → qm_PW G mX10_twoLine z 75 0 0 [vr 26, vl v, vu, vi (b2 (unl w))] [.int s, .ref 26] h3 := by
            intro h3 s q1 q2 q3 q4 q5 q6
            have x1 : RD (qm_si h3 26 20 s) B L (tE B L a') flt2 := q1.s26 (by decide)
            have x2 : rf [35, 36] KR h (qm_si h3 26 20 s) := q2.s26 (by decide)
            have x3 : (qm_si h3 26 20 s).1 35 = h.1 35 := by rw [si_ne _ _ _ (by decide), q3]
            have x4 : (qm_si h3 26 20 s).1 36 = h2.1 36 := by rw [si_ne _ _ _ (by decide), q4]
            have x5 : (qm_si h3 26 20 s).1 26 21 = h2.1 26 21 := by rw [si_row, up_n _ _ (by decide), q5]
            have x6 : (qm_si h3 26 20 s).1 26 20 = far2 w vs (h.1 26 20) := by rw [si_row, up_s, q6]
            have fin : ∀ h4, rf [35, 36] KR h h4 → RD h4 B L (tE B L a') flt2 → (flt2.1 = 0 → h4.1 35 = tdT w vs (h.1 35)) → h4.1 35 0 = h.1 35 0 → h4.1 26 20 = far2 w vs (h.1 26 20) → rf [35, 36] KR h h4 ∧ LRes h4 (some (.int 1)) B L R (fun vs flt2 => (flt2.1 = 0 → h4.1 35 = tdT w vs (h.1 35)) ∧ h4.1 35 0 = h.1 35 0 ∧ h4.1 26 20 = far2 w vs (h.1 26 20)) := fun h4 z1 z2 z3 z4 z5 => ⟨z1, by rw [epn]; exact ⟨rfl, z2, z3, z4, z5⟩⟩
            cases hgood : bdd 5 v1 (-1) || bdd hi v2 but with
            | true =>
              rw [hgood] at g21 hflt
              have g21 : (qm_si h3 26 20 s).1 26 21 = 0 := by rw [x5, g21]; rfl
              refine qm_wp_ok hA [] 60 _ _ _ _ _ _ ⟨rfl, trivial, rfl, fun (q : ¬ (qm_si h3 26 20 s).1 26 21 = 0) => absurd g21 q, fun _ => ⟨rfl, fin (qm_si h3 26 20 s) x2 x1 (fun z => absurd (hflt z) (by decide)) (by rw [x3]) x6⟩⟩
            | false =>
              rw [hgood] at g21
              have g21 : (qm_si h3 26 20 s).1 26 21 = 1 := by rw [x5, g21]; rfl
              have b51 : bdd 5 v1 (-1) = false := (Bool.or_eq_false_iff.mp hgood).1
              have b52 : bdd hi v2 but = false := (Bool.or_eq_false_iff.mp hgood).2
              rw [bdd_m1 (by omega)] at b51
              have hv15 : v1 ≤ 5 := by have := of_decide_eq_false b51; omega
              rw [bdd] at b52
              have hv25 : v2 ≤ hi := by have := of_decide_eq_false (Bool.or_eq_false_iff.mp b52).1; omega
              have y0 : (qm_si h3 26 20 s).1 36 0 = nI v1 := by rw [x4, r0]
              have y1 : (qm_si h3 26 20 s).1 36 1 = nI v2 := by rw [x4, r1]
              obtain ⟨H, hH⟩ : ∃ H, H = qm_si h3 26 20 s := ⟨_, rfl⟩
              have m114 : w ≠ 1 → qm_PW G mX10_twoLine z 114 0 0 [vr 26, vl v, vu, vi (b2 (unl w))] [.int (nI (bs0 w)), .ref 35] (qm_si h3 26 20 s) := by
                intro hw
                rw [← hH] at x1 x2 x3 x6 y0 y1 ⊢
                have hbs : bs0 w ≤ 25 ∧ 7 ≤ bs0 w := by
                  rw [bs0]
                  split
                  · omega
                  · split <;> omega
                have ei : nI (bs0 w) + H.1 36 0 = nI (bs0 w + v1) := by rw [y0, nI_add]
                have ein : vp_in (nI (bs0 w) + H.1 36 0) 161 := by rw [ei]; exact vp_in_nI (by omega) (by decide)
                refine qm_wp_ok hA [] 60 _ _ _ _ _ _ ⟨rfl, _, rfl, rfl, n0, rfl, ein, rfl, _, rfl, rfl, n1, rfl, ein, rfl, ?_⟩
                refine fin (qm_si H 35 (nI (bs0 w) + H.1 36 0).toNatClampNeg (H.1 35 (nI (bs0 w) + H.1 36 0).toNatClampNeg ||| ((1 : Int32) <<< (H.1 36 1 &&& 31)))) (x2.si (by decide) (by decide)) (x1.si (by decide) (by decide)) (fun _ => ?_) ?_ ?_
                · rw [si_row, ei, nI_clamp (by omega), x3, y1, tdT, if_neg (by omega), if_neg hw, vs1, vs2, nI_clamp (by omega)]
                · rw [si_row, ei, nI_clamp (by omega), up_n _ _ (by omega), x3]
                · rw [si_ne _ _ _ (by decide)]; exact x6
              refine qm_wp_ok hA [114] 60 _ _ _ _ _ _ ⟨rfl, trivial, rfl, fun _ => ⟨fun (q : ¬ lg_cmp v (wc 1) = 0) => ⟨rfl, _, rfl, fun (q2 : ¬ lg_cmp v (wc 2) = 0) => ⟨fun (q3 : ¬ lg_cmp v (wc 3) = 0) => ?_, fun (q3 : lg_cmp v (wc 3) = 0) => ?_⟩, fun (q2 : lg_cmp v (wc 2) = 0) => ?_⟩, fun (q : lg_cmp v (wc 1) = 0) => ?_⟩, fun (q : (qm_si h3 26 20 s).1 26 21 = 0) => absurd q (by rw [g21]; decide)⟩
              · have hw : w ≠ 1 := fun e => q ((lz 1 (by decide)).mpr e)
                have k := m114 hw
                rw [bs0, if_neg (fun e => q2 ((lz 2 (by decide)).mpr e)), if_neg (fun e => q3 ((lz 3 (by decide)).mpr e))] at k
                exact k
              · have hw : w ≠ 1 := fun e => q ((lz 1 (by decide)).mpr e)
                have k := m114 hw
                rw [bs0, if_neg (fun e => q2 ((lz 2 (by decide)).mpr e)), if_pos ((lz 3 (by decide)).mp q3)] at k
                exact k
              · have hw : w ≠ 1 := fun e => q ((lz 1 (by decide)).mpr e)
                have k := m114 hw
                rw [bs0, if_pos ((lz 2 (by decide)).mp q2)] at k
                exact k
              · have hw := (lz 1 (by decide)).mp q
                have ei : (1 : Int32) + (qm_si h3 26 20 s).1 36 0 = nI (1 + v1) := by rw [y0]; exact nI_add 1 v1
                have ein : vp_in ((1 : Int32) + (qm_si h3 26 20 s).1 36 0) 161 := by rw [ei]; exact vp_in_nI (by omega) (by decide)
                refine ⟨rfl, _, rfl, rfl, _, rfl, rfl, n0, rfl, _, rfl, rfl, n1, rfl, ein, rfl, ?_⟩
                refine fin (qm_si (qm_si h3 26 20 s) 35 ((1 : Int32) + (qm_si h3 26 20 s).1 36 0).toNatClampNeg ((qm_si h3 26 20 s).1 36 1)) (x2.si (by decide) (by decide)) (x1.si (by decide) (by decide)) (fun _ => ?_) ?_ ?_
                · rw [si_row, ei, nI_clamp (by omega), x3, y1, tdT, if_neg (by omega), if_pos hw, vs1, vs2, nI_clamp (by omega)]
                · rw [si_row, ei, nI_clamp (by omega), up_n _ _ (by omega), x3]
                · rw [si_ne _ _ _ (by decide)]; exact x6
          have m59 : ∀ s, s = far1 w vs (h.1 26 20) → qm_PW G mX10_twoLine z 59 0 0 [vr 26, vl v, vu, vi (b2 (unl w))] [.int s, .ref 26] h2 := by
            intro s hs
            have x1 : RD (qm_si h2 26 20 s) B L (tE B L a') flt2 := b2'.s26 (by decide)
            have x2 : rf [35, 36] KR h (qm_si h2 26 20 s) := g0.s26 (by decide)
            have x6 : (qm_si h2 26 20 s).1 26 20 = s := by rw [si_row, up_s]
            have x7 : (qm_si h2 26 20 s).1 36 1 = nI v2 := by rw [si_ne _ _ _ (by decide), r1]
            have m := fun s' hs' => m75 (qm_si h2 26 20 s) s' x1 x2 (by rw [si_ne _ _ _ (by decide), g35]) (by rw [si_ne _ _ _ (by decide)]) (by rw [si_row, up_n _ _ (by decide)]) hs'
            refine qm_wp_ok hA [75] 40 _ _ _ _ _ _ ⟨rfl, trivial, fun (q : ¬ lg_cmp v (wc 4) = 0) => ⟨rfl, m _ ?_⟩, fun (q : lg_cmp v (wc 4) = 0) => ⟨rfl, rfl, _, rfl, rfl, n1, 0, 0, _, e_greater hG (d + 3) (qm_si h2 26 20 s) _ _, ⟨Nat.le_refl _, Nat.le_refl _⟩, ?_⟩⟩
            · show (qm_si h2 26 20 s).1 26 20 = _
              rw [x6, hs, far2, if_neg (fun e => q ((lz 4 (by decide)).mpr e))]
            · rintro _ _ ⟨rfl, rfl⟩
              refine m _ ?_
              show mx ((qm_si h2 26 20 s).1 26 20) ((qm_si h2 26 20 s).1 36 1) = _
              rw [x6, x7, hs, far2, if_pos ((lz 4 (by decide)).mp q), vs2]
          have m49 : (w = 3 ∨ w = 4) → qm_PW G mX10_twoLine z 49 0 0 [vr 26, vl v, vu, vi (b2 (unl w))] [.ref 26] h2 := by
            intro hw
            refine qm_wp_ok hA [59] 40 _ _ _ _ _ _ ⟨rfl, rfl, _, rfl, rfl, n0, 0, 0, _, e_greater hG (d + 3) h2 _ _, ⟨Nat.le_refl _, Nat.le_refl _⟩, ?_⟩
            rintro _ _ ⟨rfl, rfl⟩
            refine m59 _ ?_
            show mx (h2.1 26 20) (h2.1 36 0) = _
            rw [g20, r0, far1, if_pos hw, vs1]
          refine ⟨fun _ => ⟨fun (q : lg_cmp v (wc 3) = 0) => m49 (Or.inl ((lz 3 (by decide)).mp q)), fun (q : ¬ lg_cmp v (wc 3) = 0) => ⟨fun (q2 : ¬ lg_cmp v (wc 4) = 0) => ⟨rfl, m59 _ ?_⟩, fun (q2 : lg_cmp v (wc 4) = 0) => m49 (Or.inr ((lz 4 (by decide)).mp q2))⟩⟩, fun z => absurd z (by decide)⟩
          rw [far1, if_neg (fun z => z.elim (fun e => q ((lz 3 (by decide)).mpr e)) (fun e => q2 ((lz 4 (by decide)).mpr e)))]
          exact g20
        · rw [if_neg b1] at epn
          exact ⟨fun z => absurd rfl z, fun _ => qm_PW.mask [true, true, false, false] (m38 h2 _ epn b2' (f0.tr (b3.mono (by decide) (fun q hq => hq))))⟩
      have m28 : qm_PW G mX10_twoLine z 28 0 0 [vr 26, vl v, vu, vi (b2 (unl w))] [.int (nI hi), .int 0, .int (nI 1), .ref 26] h1 := by
        refine qm_wp_ok hA [36] 40 _ _ _ _ _ _ ?_
        refine b2_eq (fun hun => ⟨rfl, _, rfl, rfl, (vp_in_nI (n := 0) (by decide) (by decide) : vp_in (nI 0) 4), ?_⟩) (fun hun => ?_)
        · have eb : h1.1 36 0 = but := by rw [a3, up_s, hbut, if_pos hun]
          rw [← eb] at m36
          exact m36
        · rw [hbut, if_neg (by rw [hun]; decide)] at m36
          exact m36
      refine ⟨fun z => absurd z (by decide), fun _ => ⟨fun (q : ¬ lg_cmp v (wc 1) = 0) => ?_, fun (q : lg_cmp v (wc 1) = 0) => ?_⟩⟩
      · rw [hhi, if_neg (fun e => q ((lz 1 (by decide)).mpr e))] at m28
        exact m28
      · rw [hhi, if_pos ((lz 1 (by decide)).mp q)] at m28
        exact m28
    · have epn : R = .error (tB B L a) := by rw [hRes, pn, if_neg a1]
      exact ⟨fun _ => qm_PW.mask [true, true, false, false] (m38 h1 _ epn a2 (a3.mono (by decide) (fun q hq => hq))), fun z => absurd rfl z⟩
  rw [hu] at m11
  refine qm_wp_ok hA [11] 40 _ _ _ _ _ _ ⟨fun (q : lg_cmp v (wc 2) = 0) => ?_, fun (q : ¬ lg_cmp v (wc 2) = 0) => ⟨fun (q2 : ¬ lg_cmp v (wc 4) = 0) => ?_, fun (q2 : lg_cmp v (wc 4) = 0) => ?_⟩⟩
  · rw [decide_eq_true ((lz 2 (by decide)).mp q)] at m11
    exact m11
  · rw [decide_eq_false (fun e => q ((lz 2 (by decide)).mpr e)), decide_eq_false (fun e => q2 ((lz 4 (by decide)).mpr e))] at m11
    exact m11
  · rw [decide_eq_true ((lz 4 (by decide)).mp q2), Bool.or_true] at m11
    exact m11
end
