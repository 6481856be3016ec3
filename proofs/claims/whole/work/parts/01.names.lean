-- ===== PART A: goes FIRST, ahead of the names: the tables' words, and 'selects' of the private methods out of them =====
/-- a private method of a class that the tables say can be made, by its rows of tables_1 -/
def lw_okq (q : MethodName × Nat) : Prop := (q.1.cls ≠ "java/lang/invoke/MethodHandle" ∧ q.1.cls ≠ "java/lang/invoke/VarHandle") ∧ Cond.instantiable q.1.cls q.2 ∈ tables_1 ∧ Cond.privateMethod q.1 ∈ tables_1 ∧ Cond.instanceMethod q.1 ∈ tables_1
theorem lw_p0 : lw_okq (⟨"CrashTies$Reader", "cut", "()V"⟩, 8) := ⟨⟨by decide +kernel, by decide +kernel⟩, List.mem_of_getElem? (i := 138) (by decide +kernel), List.mem_of_getElem? (i := 288) (by decide +kernel), List.mem_of_getElem? (i := 289) (by decide +kernel)⟩
theorem lw_p1 : lw_okq (⟨"CrashTies$Reader", "sortAt", "(I)I"⟩, 8) := ⟨⟨by decide +kernel, by decide +kernel⟩, List.mem_of_getElem? (i := 138) (by decide +kernel), List.mem_of_getElem? (i := 292) (by decide +kernel), List.mem_of_getElem? (i := 293) (by decide +kernel)⟩
theorem lw_p2 : lw_okq (⟨"CrashTies$Reader", "byteAt", "(I)I"⟩, 8) := ⟨⟨by decide +kernel, by decide +kernel⟩, List.mem_of_getElem? (i := 138) (by decide +kernel), List.mem_of_getElem? (i := 296) (by decide +kernel), List.mem_of_getElem? (i := 297) (by decide +kernel)⟩
theorem lw_p3 : lw_okq (⟨"CrashTies$Reader", "tokenOf", "(III)I"⟩, 8) := ⟨⟨by decide +kernel, by decide +kernel⟩, List.mem_of_getElem? (i := 138) (by decide +kernel), List.mem_of_getElem? (i := 300) (by decide +kernel), List.mem_of_getElem? (i := 301) (by decide +kernel)⟩
theorem lw_p4 : lw_okq (⟨"CrashTies$Reader", "nameToken", "(II)I"⟩, 8) := ⟨⟨by decide +kernel, by decide +kernel⟩, List.mem_of_getElem? (i := 138) (by decide +kernel), List.mem_of_getElem? (i := 304) (by decide +kernel), List.mem_of_getElem? (i := 305) (by decide +kernel)⟩
theorem lw_p5 : lw_okq (⟨"CrashTies$Reader", "isName", "(IILjava/lang/String;)Z"⟩, 8) := ⟨⟨by decide +kernel, by decide +kernel⟩, List.mem_of_getElem? (i := 138) (by decide +kernel), List.mem_of_getElem? (i := 309) (by decide +kernel), List.mem_of_getElem? (i := 310) (by decide +kernel)⟩
theorem lw_p6 : lw_okq (⟨"CrashTies$Reader", "numberToken", "(II)I"⟩, 8) := ⟨⟨by decide +kernel, by decide +kernel⟩, List.mem_of_getElem? (i := 138) (by decide +kernel), List.mem_of_getElem? (i := 372) (by decide +kernel), List.mem_of_getElem? (i := 373) (by decide +kernel)⟩
theorem lw_p7 : lw_okq (⟨"CrashTies$Reader", "addToken", "(II)V"⟩, 8) := ⟨⟨by decide +kernel, by decide +kernel⟩, List.mem_of_getElem? (i := 138) (by decide +kernel), List.mem_of_getElem? (i := 376) (by decide +kernel), List.mem_of_getElem? (i := 377) (by decide +kernel)⟩
theorem lw_p8 : lw_okq (⟨"CrashTies$Reader", "here", "()I"⟩, 8) := ⟨⟨by decide +kernel, by decide +kernel⟩, List.mem_of_getElem? (i := 138) (by decide +kernel), List.mem_of_getElem? (i := 380) (by decide +kernel), List.mem_of_getElem? (i := 381) (by decide +kernel)⟩
theorem lw_p9 : lw_okq (⟨"CrashTies$Reader", "readClause", "()Z"⟩, 8) := ⟨⟨by decide +kernel, by decide +kernel⟩, List.mem_of_getElem? (i := 138) (by decide +kernel), List.mem_of_getElem? (i := 384) (by decide +kernel), List.mem_of_getElem? (i := 385) (by decide +kernel)⟩
theorem lw_p10 : lw_okq (⟨"CrashTies$Reader", "refuse", "()Z"⟩, 8) := ⟨⟨by decide +kernel, by decide +kernel⟩, List.mem_of_getElem? (i := 138) (by decide +kernel), List.mem_of_getElem? (i := 388) (by decide +kernel), List.mem_of_getElem? (i := 389) (by decide +kernel)⟩
theorem lw_p11 : lw_okq (⟨"CrashTies$Reader", "readCond", "(I)Z"⟩, 8) := ⟨⟨by decide +kernel, by decide +kernel⟩, List.mem_of_getElem? (i := 138) (by decide +kernel), List.mem_of_getElem? (i := 392) (by decide +kernel), List.mem_of_getElem? (i := 393) (by decide +kernel)⟩
theorem lw_p12 : lw_okq (⟨"CrashTies$Reader", "readAll", "(I)Z"⟩, 8) := ⟨⟨by decide +kernel, by decide +kernel⟩, List.mem_of_getElem? (i := 138) (by decide +kernel), List.mem_of_getElem? (i := 396) (by decide +kernel), List.mem_of_getElem? (i := 397) (by decide +kernel)⟩
theorem lw_p13 : lw_okq (⟨"CrashTies$Reader", "readOne", "(I)Z"⟩, 8) := ⟨⟨by decide +kernel, by decide +kernel⟩, List.mem_of_getElem? (i := 138) (by decide +kernel), List.mem_of_getElem? (i := 400) (by decide +kernel), List.mem_of_getElem? (i := 401) (by decide +kernel)⟩
theorem lw_p14 : lw_okq (⟨"CrashTies$Reader", "readBracket", "(I)Z"⟩, 8) := ⟨⟨by decide +kernel, by decide +kernel⟩, List.mem_of_getElem? (i := 138) (by decide +kernel), List.mem_of_getElem? (i := 404) (by decide +kernel), List.mem_of_getElem? (i := 405) (by decide +kernel)⟩
theorem lw_p15 : lw_okq (⟨"CrashTies$Reader", "readComparison", "()Z"⟩, 8) := ⟨⟨by decide +kernel, by decide +kernel⟩, List.mem_of_getElem? (i := 138) (by decide +kernel), List.mem_of_getElem? (i := 408) (by decide +kernel), List.mem_of_getElem? (i := 409) (by decide +kernel)⟩
def lw_privs_1 : List (MethodName × Nat) := [(⟨"CrashTies$Reader", "cut", "()V"⟩, 8), (⟨"CrashTies$Reader", "sortAt", "(I)I"⟩, 8), (⟨"CrashTies$Reader", "byteAt", "(I)I"⟩, 8), (⟨"CrashTies$Reader", "tokenOf", "(III)I"⟩, 8), (⟨"CrashTies$Reader", "nameToken", "(II)I"⟩, 8), (⟨"CrashTies$Reader", "isName", "(IILjava/lang/String;)Z"⟩, 8), (⟨"CrashTies$Reader", "numberToken", "(II)I"⟩, 8), (⟨"CrashTies$Reader", "addToken", "(II)V"⟩, 8), (⟨"CrashTies$Reader", "here", "()I"⟩, 8), (⟨"CrashTies$Reader", "readClause", "()Z"⟩, 8), (⟨"CrashTies$Reader", "refuse", "()Z"⟩, 8), (⟨"CrashTies$Reader", "readCond", "(I)Z"⟩, 8), (⟨"CrashTies$Reader", "readAll", "(I)Z"⟩, 8), (⟨"CrashTies$Reader", "readOne", "(I)Z"⟩, 8), (⟨"CrashTies$Reader", "readBracket", "(I)Z"⟩, 8), (⟨"CrashTies$Reader", "readComparison", "()Z"⟩, 8)]
theorem lw_r1 : ∀ q ∈ lw_privs_1, lw_okq q := List.forall_mem_cons.mpr ⟨lw_p0, List.forall_mem_cons.mpr ⟨lw_p1, List.forall_mem_cons.mpr ⟨lw_p2, List.forall_mem_cons.mpr ⟨lw_p3, List.forall_mem_cons.mpr ⟨lw_p4, List.forall_mem_cons.mpr ⟨lw_p5, List.forall_mem_cons.mpr ⟨lw_p6, List.forall_mem_cons.mpr ⟨lw_p7, List.forall_mem_cons.mpr ⟨lw_p8, List.forall_mem_cons.mpr ⟨lw_p9, List.forall_mem_cons.mpr ⟨lw_p10, List.forall_mem_cons.mpr ⟨lw_p11, List.forall_mem_cons.mpr ⟨lw_p12, List.forall_mem_cons.mpr ⟨lw_p13, List.forall_mem_cons.mpr ⟨lw_p14, List.forall_mem_cons.mpr ⟨lw_p15, fun _ h => absurd h List.not_mem_nil⟩⟩⟩⟩⟩⟩⟩⟩⟩⟩⟩⟩⟩⟩⟩⟩
theorem lw_p16 : lw_okq (⟨"CrashTies$Ties", "weave", "(LCrashTies$Book;I)V"⟩, 4) := ⟨⟨by decide +kernel, by decide +kernel⟩, List.mem_of_getElem? (i := 119) (by decide +kernel), List.mem_of_getElem? (i := 562) (by decide +kernel), List.mem_of_getElem? (i := 563) (by decide +kernel)⟩
theorem lw_p17 : lw_okq (⟨"CrashTies$Ties", "tiedToAny", "(LCrashTies$Book;I)I"⟩, 4) := ⟨⟨by decide +kernel, by decide +kernel⟩, List.mem_of_getElem? (i := 119) (by decide +kernel), List.mem_of_getElem? (i := 566) (by decide +kernel), List.mem_of_getElem? (i := 567) (by decide +kernel)⟩
theorem lw_p18 : lw_okq (⟨"CrashTies$Ties", "reachFrom", "(LCrashTies$Book;II)V"⟩, 4) := ⟨⟨by decide +kernel, by decide +kernel⟩, List.mem_of_getElem? (i := 119) (by decide +kernel), List.mem_of_getElem? (i := 582) (by decide +kernel), List.mem_of_getElem? (i := 583) (by decide +kernel)⟩
theorem lw_p19 : lw_okq (⟨"CrashTies$Ties", "bonds", "(II)I"⟩, 4) := ⟨⟨by decide +kernel, by decide +kernel⟩, List.mem_of_getElem? (i := 119) (by decide +kernel), List.mem_of_getElem? (i := 604) (by decide +kernel), List.mem_of_getElem? (i := 605) (by decide +kernel)⟩
theorem lw_p20 : lw_okq (⟨"CrashTies$Ties", "isBetterLot", "(II)Z"⟩, 4) := ⟨⟨by decide +kernel, by decide +kernel⟩, List.mem_of_getElem? (i := 119) (by decide +kernel), List.mem_of_getElem? (i := 629) (by decide +kernel), List.mem_of_getElem? (i := 630) (by decide +kernel)⟩
theorem lw_p21 : lw_okq (⟨"CrashTies", "asks", "(I)Z"⟩, 10) := ⟨⟨by decide +kernel, by decide +kernel⟩, List.mem_of_getElem? (i := 19) (by decide +kernel), List.mem_of_getElem? (i := 698) (by decide +kernel), List.mem_of_getElem? (i := 699) (by decide +kernel)⟩
theorem lw_p22 : lw_okq (⟨"CrashTies$Rules", "obey", "(I[I)V"⟩, 6) := ⟨⟨by decide +kernel, by decide +kernel⟩, List.mem_of_getElem? (i := 33) (by decide +kernel), List.mem_of_getElem? (i := 708) (by decide +kernel), List.mem_of_getElem? (i := 709) (by decide +kernel)⟩
theorem lw_p23 : lw_okq (⟨"CrashTies$Rules", "push", "(I)V"⟩, 6) := ⟨⟨by decide +kernel, by decide +kernel⟩, List.mem_of_getElem? (i := 33) (by decide +kernel), List.mem_of_getElem? (i := 712) (by decide +kernel), List.mem_of_getElem? (i := 713) (by decide +kernel)⟩
theorem lw_p24 : lw_okq (⟨"CrashTies$Rules", "compare", "(I)V"⟩, 6) := ⟨⟨by decide +kernel, by decide +kernel⟩, List.mem_of_getElem? (i := 33) (by decide +kernel), List.mem_of_getElem? (i := 716) (by decide +kernel), List.mem_of_getElem? (i := 717) (by decide +kernel)⟩
theorem lw_p25 : lw_okq (⟨"CrashTies$Rules", "pop", "()I"⟩, 6) := ⟨⟨by decide +kernel, by decide +kernel⟩, List.mem_of_getElem? (i := 33) (by decide +kernel), List.mem_of_getElem? (i := 720) (by decide +kernel), List.mem_of_getElem? (i := 721) (by decide +kernel)⟩
theorem lw_p26 : lw_okq (⟨"CrashTies$Rows", "append", "(III)V"⟩, 2) := ⟨⟨by decide +kernel, by decide +kernel⟩, List.mem_of_getElem? (i := 174) (by decide +kernel), List.mem_of_getElem? (i := 758) (by decide +kernel), List.mem_of_getElem? (i := 759) (by decide +kernel)⟩
theorem lw_p27 : lw_okq (⟨"CrashTies$Play", "bodyOf", "(I)I"⟩, 6) := ⟨⟨by decide +kernel, by decide +kernel⟩, List.mem_of_getElem? (i := 214) (by decide +kernel), List.mem_of_getElem? (i := 871) (by decide +kernel), List.mem_of_getElem? (i := 872) (by decide +kernel)⟩
theorem lw_p28 : lw_okq (⟨"CrashTies$Play", "run", "(III)I"⟩, 6) := ⟨⟨by decide +kernel, by decide +kernel⟩, List.mem_of_getElem? (i := 214) (by decide +kernel), List.mem_of_getElem? (i := 877) (by decide +kernel), List.mem_of_getElem? (i := 878) (by decide +kernel)⟩
theorem lw_p29 : lw_okq (⟨"CrashTies$Play", "share", "(I)I"⟩, 6) := ⟨⟨by decide +kernel, by decide +kernel⟩, List.mem_of_getElem? (i := 214) (by decide +kernel), List.mem_of_getElem? (i := 881) (by decide +kernel), List.mem_of_getElem? (i := 882) (by decide +kernel)⟩
theorem lw_p30 : lw_okq (⟨"CrashTiesModel", "advance", "()V"⟩, 56) := ⟨⟨by decide +kernel, by decide +kernel⟩, List.mem_of_getElem? (i := 913) (by decide +kernel), List.mem_of_getElem? (i := 1100) (by decide +kernel), List.mem_of_getElem? (i := 1101) (by decide +kernel)⟩
theorem lw_p31 : lw_okq (⟨"CrashTiesModel", "byteAt", "(I)I"⟩, 56) := ⟨⟨by decide +kernel, by decide +kernel⟩, List.mem_of_getElem? (i := 913) (by decide +kernel), List.mem_of_getElem? (i := 1104) (by decide +kernel), List.mem_of_getElem? (i := 1105) (by decide +kernel)⟩
def lw_privs_2 : List (MethodName × Nat) := [(⟨"CrashTies$Ties", "weave", "(LCrashTies$Book;I)V"⟩, 4), (⟨"CrashTies$Ties", "tiedToAny", "(LCrashTies$Book;I)I"⟩, 4), (⟨"CrashTies$Ties", "reachFrom", "(LCrashTies$Book;II)V"⟩, 4), (⟨"CrashTies$Ties", "bonds", "(II)I"⟩, 4), (⟨"CrashTies$Ties", "isBetterLot", "(II)Z"⟩, 4), (⟨"CrashTies", "asks", "(I)Z"⟩, 10), (⟨"CrashTies$Rules", "obey", "(I[I)V"⟩, 6), (⟨"CrashTies$Rules", "push", "(I)V"⟩, 6), (⟨"CrashTies$Rules", "compare", "(I)V"⟩, 6), (⟨"CrashTies$Rules", "pop", "()I"⟩, 6), (⟨"CrashTies$Rows", "append", "(III)V"⟩, 2), (⟨"CrashTies$Play", "bodyOf", "(I)I"⟩, 6), (⟨"CrashTies$Play", "run", "(III)I"⟩, 6), (⟨"CrashTies$Play", "share", "(I)I"⟩, 6), (⟨"CrashTiesModel", "advance", "()V"⟩, 56), (⟨"CrashTiesModel", "byteAt", "(I)I"⟩, 56)]
theorem lw_r2 : ∀ q ∈ lw_privs_2, lw_okq q := List.forall_mem_cons.mpr ⟨lw_p16, List.forall_mem_cons.mpr ⟨lw_p17, List.forall_mem_cons.mpr ⟨lw_p18, List.forall_mem_cons.mpr ⟨lw_p19, List.forall_mem_cons.mpr ⟨lw_p20, List.forall_mem_cons.mpr ⟨lw_p21, List.forall_mem_cons.mpr ⟨lw_p22, List.forall_mem_cons.mpr ⟨lw_p23, List.forall_mem_cons.mpr ⟨lw_p24, List.forall_mem_cons.mpr ⟨lw_p25, List.forall_mem_cons.mpr ⟨lw_p26, List.forall_mem_cons.mpr ⟨lw_p27, List.forall_mem_cons.mpr ⟨lw_p28, List.forall_mem_cons.mpr ⟨lw_p29, List.forall_mem_cons.mpr ⟨lw_p30, List.forall_mem_cons.mpr ⟨lw_p31, fun _ h => absurd h List.not_mem_nil⟩⟩⟩⟩⟩⟩⟩⟩⟩⟩⟩⟩⟩⟩⟩⟩
theorem lw_p32 : lw_okq (⟨"CrashTiesModel", "isWord", "(J)Z"⟩, 56) := ⟨⟨by decide +kernel, by decide +kernel⟩, List.mem_of_getElem? (i := 913) (by decide +kernel), List.mem_of_getElem? (i := 1118) (by decide +kernel), List.mem_of_getElem? (i := 1119) (by decide +kernel)⟩
theorem lw_p33 : lw_okq (⟨"CrashTiesModel", "wantCond", "(JJJ)V"⟩, 56) := ⟨⟨by decide +kernel, by decide +kernel⟩, List.mem_of_getElem? (i := 913) (by decide +kernel), List.mem_of_getElem? (i := 1127) (by decide +kernel), List.mem_of_getElem? (i := 1128) (by decide +kernel)⟩
theorem lw_p34 : lw_okq (⟨"CrashTiesModel", "pend", "(I)V"⟩, 56) := ⟨⟨by decide +kernel, by decide +kernel⟩, List.mem_of_getElem? (i := 913) (by decide +kernel), List.mem_of_getElem? (i := 1132) (by decide +kernel), List.mem_of_getElem? (i := 1133) (by decide +kernel)⟩
theorem lw_p35 : lw_okq (⟨"CrashTiesModel", "isMark", "(I)Z"⟩, 56) := ⟨⟨by decide +kernel, by decide +kernel⟩, List.mem_of_getElem? (i := 913) (by decide +kernel), List.mem_of_getElem? (i := 1136) (by decide +kernel), List.mem_of_getElem? (i := 1137) (by decide +kernel)⟩
theorem lw_p36 : lw_okq (⟨"CrashTiesModel", "wantCompared", "()V"⟩, 56) := ⟨⟨by decide +kernel, by decide +kernel⟩, List.mem_of_getElem? (i := 913) (by decide +kernel), List.mem_of_getElem? (i := 1141) (by decide +kernel), List.mem_of_getElem? (i := 1142) (by decide +kernel)⟩
theorem lw_p37 : lw_okq (⟨"CrashTiesModel", "wantValue", "()V"⟩, 56) := ⟨⟨by decide +kernel, by decide +kernel⟩, List.mem_of_getElem? (i := 913) (by decide +kernel), List.mem_of_getElem? (i := 1145) (by decide +kernel), List.mem_of_getElem? (i := 1146) (by decide +kernel)⟩
theorem lw_p38 : lw_okq (⟨"CrashTiesModel", "factHere", "()I"⟩, 56) := ⟨⟨by decide +kernel, by decide +kernel⟩, List.mem_of_getElem? (i := 913) (by decide +kernel), List.mem_of_getElem? (i := 1149) (by decide +kernel), List.mem_of_getElem? (i := 1150) (by decide +kernel)⟩
theorem lw_p39 : lw_okq (⟨"CrashTiesModel", "emit", "(I)V"⟩, 56) := ⟨⟨by decide +kernel, by decide +kernel⟩, List.mem_of_getElem? (i := 913) (by decide +kernel), List.mem_of_getElem? (i := 1159) (by decide +kernel), List.mem_of_getElem? (i := 1160) (by decide +kernel)⟩
theorem lw_p40 : lw_okq (⟨"CrashTiesModel", "settle", "(I)V"⟩, 56) := ⟨⟨by decide +kernel, by decide +kernel⟩, List.mem_of_getElem? (i := 913) (by decide +kernel), List.mem_of_getElem? (i := 1163) (by decide +kernel), List.mem_of_getElem? (i := 1164) (by decide +kernel)⟩
theorem lw_p41 : lw_okq (⟨"CrashTiesModel", "isTop", "(I)Z"⟩, 56) := ⟨⟨by decide +kernel, by decide +kernel⟩, List.mem_of_getElem? (i := 913) (by decide +kernel), List.mem_of_getElem? (i := 1167) (by decide +kernel), List.mem_of_getElem? (i := 1168) (by decide +kernel)⟩
theorem lw_p42 : lw_okq (⟨"CrashTiesModel", "isPerson", "(I)Z"⟩, 56) := ⟨⟨by decide +kernel, by decide +kernel⟩, List.mem_of_getElem? (i := 913) (by decide +kernel), List.mem_of_getElem? (i := 1185) (by decide +kernel), List.mem_of_getElem? (i := 1186) (by decide +kernel)⟩
theorem lw_p43 : lw_okq (⟨"CrashTiesModel", "isHubOne", "(I)Z"⟩, 56) := ⟨⟨by decide +kernel, by decide +kernel⟩, List.mem_of_getElem? (i := 913) (by decide +kernel), List.mem_of_getElem? (i := 1189) (by decide +kernel), List.mem_of_getElem? (i := 1190) (by decide +kernel)⟩
theorem lw_p44 : lw_okq (⟨"CrashTiesModel", "claimsOf", "(I)I"⟩, 56) := ⟨⟨by decide +kernel, by decide +kernel⟩, List.mem_of_getElem? (i := 913) (by decide +kernel), List.mem_of_getElem? (i := 1193) (by decide +kernel), List.mem_of_getElem? (i := 1194) (by decide +kernel)⟩
theorem lw_p45 : lw_okq (⟨"CrashTiesModel", "placesOf", "(II)I"⟩, 56) := ⟨⟨by decide +kernel, by decide +kernel⟩, List.mem_of_getElem? (i := 913) (by decide +kernel), List.mem_of_getElem? (i := 1197) (by decide +kernel), List.mem_of_getElem? (i := 1198) (by decide +kernel)⟩
theorem lw_p46 : lw_okq (⟨"CrashTiesModel", "oneIn", "(II)I"⟩, 56) := ⟨⟨by decide +kernel, by decide +kernel⟩, List.mem_of_getElem? (i := 913) (by decide +kernel), List.mem_of_getElem? (i := 1201) (by decide +kernel), List.mem_of_getElem? (i := 1202) (by decide +kernel)⟩
theorem lw_p47 : lw_okq (⟨"CrashTiesModel", "its", "(II)I"⟩, 56) := ⟨⟨by decide +kernel, by decide +kernel⟩, List.mem_of_getElem? (i := 913) (by decide +kernel), List.mem_of_getElem? (i := 1205) (by decide +kernel), List.mem_of_getElem? (i := 1206) (by decide +kernel)⟩
def lw_privs_3 : List (MethodName × Nat) := [(⟨"CrashTiesModel", "isWord", "(J)Z"⟩, 56), (⟨"CrashTiesModel", "wantCond", "(JJJ)V"⟩, 56), (⟨"CrashTiesModel", "pend", "(I)V"⟩, 56), (⟨"CrashTiesModel", "isMark", "(I)Z"⟩, 56), (⟨"CrashTiesModel", "wantCompared", "()V"⟩, 56), (⟨"CrashTiesModel", "wantValue", "()V"⟩, 56), (⟨"CrashTiesModel", "factHere", "()I"⟩, 56), (⟨"CrashTiesModel", "emit", "(I)V"⟩, 56), (⟨"CrashTiesModel", "settle", "(I)V"⟩, 56), (⟨"CrashTiesModel", "isTop", "(I)Z"⟩, 56), (⟨"CrashTiesModel", "isPerson", "(I)Z"⟩, 56), (⟨"CrashTiesModel", "isHubOne", "(I)Z"⟩, 56), (⟨"CrashTiesModel", "claimsOf", "(I)I"⟩, 56), (⟨"CrashTiesModel", "placesOf", "(II)I"⟩, 56), (⟨"CrashTiesModel", "oneIn", "(II)I"⟩, 56), (⟨"CrashTiesModel", "its", "(II)I"⟩, 56)]
theorem lw_r3 : ∀ q ∈ lw_privs_3, lw_okq q := List.forall_mem_cons.mpr ⟨lw_p32, List.forall_mem_cons.mpr ⟨lw_p33, List.forall_mem_cons.mpr ⟨lw_p34, List.forall_mem_cons.mpr ⟨lw_p35, List.forall_mem_cons.mpr ⟨lw_p36, List.forall_mem_cons.mpr ⟨lw_p37, List.forall_mem_cons.mpr ⟨lw_p38, List.forall_mem_cons.mpr ⟨lw_p39, List.forall_mem_cons.mpr ⟨lw_p40, List.forall_mem_cons.mpr ⟨lw_p41, List.forall_mem_cons.mpr ⟨lw_p42, List.forall_mem_cons.mpr ⟨lw_p43, List.forall_mem_cons.mpr ⟨lw_p44, List.forall_mem_cons.mpr ⟨lw_p45, List.forall_mem_cons.mpr ⟨lw_p46, List.forall_mem_cons.mpr ⟨lw_p47, fun _ h => absurd h List.not_mem_nil⟩⟩⟩⟩⟩⟩⟩⟩⟩⟩⟩⟩⟩⟩⟩⟩
theorem lw_p48 : lw_okq (⟨"CrashTiesModel", "isClaim", "(I)Z"⟩, 56) := ⟨⟨by decide +kernel, by decide +kernel⟩, List.mem_of_getElem? (i := 913) (by decide +kernel), List.mem_of_getElem? (i := 1221) (by decide +kernel), List.mem_of_getElem? (i := 1222) (by decide +kernel)⟩
theorem lw_p49 : lw_okq (⟨"CrashTiesModel", "strengthOf", "(II)I"⟩, 56) := ⟨⟨by decide +kernel, by decide +kernel⟩, List.mem_of_getElem? (i := 913) (by decide +kernel), List.mem_of_getElem? (i := 1240) (by decide +kernel), List.mem_of_getElem? (i := 1241) (by decide +kernel)⟩
theorem lw_p50 : lw_okq (⟨"CrashTiesModel", "weighs", "(II)I"⟩, 56) := ⟨⟨by decide +kernel, by decide +kernel⟩, List.mem_of_getElem? (i := 913) (by decide +kernel), List.mem_of_getElem? (i := 1244) (by decide +kernel), List.mem_of_getElem? (i := 1245) (by decide +kernel)⟩
theorem lw_p51 : lw_okq (⟨"CrashTiesModel", "tiedTo", "(I)I"⟩, 56) := ⟨⟨by decide +kernel, by decide +kernel⟩, List.mem_of_getElem? (i := 913) (by decide +kernel), List.mem_of_getElem? (i := 1252) (by decide +kernel), List.mem_of_getElem? (i := 1253) (by decide +kernel)⟩
theorem lw_p52 : lw_okq (⟨"CrashTiesModel", "onesIn", "(I)I"⟩, 56) := ⟨⟨by decide +kernel, by decide +kernel⟩, List.mem_of_getElem? (i := 913) (by decide +kernel), List.mem_of_getElem? (i := 1264) (by decide +kernel), List.mem_of_getElem? (i := 1265) (by decide +kernel)⟩
theorem lw_p53 : lw_okq (⟨"CrashTiesModel", "isSet", "(I)Z"⟩, 56) := ⟨⟨by decide +kernel, by decide +kernel⟩, List.mem_of_getElem? (i := 913) (by decide +kernel), List.mem_of_getElem? (i := 1276) (by decide +kernel), List.mem_of_getElem? (i := 1277) (by decide +kernel)⟩
theorem lw_p54 : lw_okq (⟨"CrashTiesModel", "findStrengths", "()V"⟩, 56) := ⟨⟨by decide +kernel, by decide +kernel⟩, List.mem_of_getElem? (i := 913) (by decide +kernel), List.mem_of_getElem? (i := 1280) (by decide +kernel), List.mem_of_getElem? (i := 1281) (by decide +kernel)⟩
theorem lw_p55 : lw_okq (⟨"CrashTiesModel", "scoreOf", "(I)I"⟩, 56) := ⟨⟨by decide +kernel, by decide +kernel⟩, List.mem_of_getElem? (i := 913) (by decide +kernel), List.mem_of_getElem? (i := 1285) (by decide +kernel), List.mem_of_getElem? (i := 1286) (by decide +kernel)⟩
theorem lw_p56 : lw_okq (⟨"CrashTiesModel", "findLot", "()I"⟩, 56) := ⟨⟨by decide +kernel, by decide +kernel⟩, List.mem_of_getElem? (i := 913) (by decide +kernel), List.mem_of_getElem? (i := 1299) (by decide +kernel), List.mem_of_getElem? (i := 1300) (by decide +kernel)⟩
theorem lw_p57 : lw_okq (⟨"CrashTiesModel", "lotWithout", "(I)I"⟩, 56) := ⟨⟨by decide +kernel, by decide +kernel⟩, List.mem_of_getElem? (i := 913) (by decide +kernel), List.mem_of_getElem? (i := 1311) (by decide +kernel), List.mem_of_getElem? (i := 1312) (by decide +kernel)⟩
theorem lw_p58 : lw_okq (⟨"CrashTiesModel", "lowest", "(JJ)V"⟩, 56) := ⟨⟨by decide +kernel, by decide +kernel⟩, List.mem_of_getElem? (i := 913) (by decide +kernel), List.mem_of_getElem? (i := 1324) (by decide +kernel), List.mem_of_getElem? (i := 1325) (by decide +kernel)⟩
theorem lw_p59 : lw_okq (⟨"CrashTiesModel", "likelyOf", "(I)I"⟩, 56) := ⟨⟨by decide +kernel, by decide +kernel⟩, List.mem_of_getElem? (i := 913) (by decide +kernel), List.mem_of_getElem? (i := 1332) (by decide +kernel), List.mem_of_getElem? (i := 1333) (by decide +kernel)⟩
theorem lw_p60 : lw_okq (⟨"CrashTiesModel", "peopleIn", "(I)I"⟩, 56) := ⟨⟨by decide +kernel, by decide +kernel⟩, List.mem_of_getElem? (i := 913) (by decide +kernel), List.mem_of_getElem? (i := 1340) (by decide +kernel), List.mem_of_getElem? (i := 1341) (by decide +kernel)⟩
theorem lw_p61 : lw_okq (⟨"CrashTiesModel", "saysOf", "(I)I"⟩, 56) := ⟨⟨by decide +kernel, by decide +kernel⟩, List.mem_of_getElem? (i := 913) (by decide +kernel), List.mem_of_getElem? (i := 1348) (by decide +kernel), List.mem_of_getElem? (i := 1349) (by decide +kernel)⟩
theorem lw_p62 : lw_okq (⟨"CrashTiesModel", "isSo", "([III)Z"⟩, 56) := ⟨⟨by decide +kernel, by decide +kernel⟩, List.mem_of_getElem? (i := 913) (by decide +kernel), List.mem_of_getElem? (i := 1352) (by decide +kernel), List.mem_of_getElem? (i := 1353) (by decide +kernel)⟩
theorem lw_p63 : lw_okq (⟨"CrashTiesModel", "foundMany", "()I"⟩, 56) := ⟨⟨by decide +kernel, by decide +kernel⟩, List.mem_of_getElem? (i := 913) (by decide +kernel), List.mem_of_getElem? (i := 1376) (by decide +kernel), List.mem_of_getElem? (i := 1377) (by decide +kernel)⟩
def lw_privs_4 : List (MethodName × Nat) := [(⟨"CrashTiesModel", "isClaim", "(I)Z"⟩, 56), (⟨"CrashTiesModel", "strengthOf", "(II)I"⟩, 56), (⟨"CrashTiesModel", "weighs", "(II)I"⟩, 56), (⟨"CrashTiesModel", "tiedTo", "(I)I"⟩, 56), (⟨"CrashTiesModel", "onesIn", "(I)I"⟩, 56), (⟨"CrashTiesModel", "isSet", "(I)Z"⟩, 56), (⟨"CrashTiesModel", "findStrengths", "()V"⟩, 56), (⟨"CrashTiesModel", "scoreOf", "(I)I"⟩, 56), (⟨"CrashTiesModel", "findLot", "()I"⟩, 56), (⟨"CrashTiesModel", "lotWithout", "(I)I"⟩, 56), (⟨"CrashTiesModel", "lowest", "(JJ)V"⟩, 56), (⟨"CrashTiesModel", "likelyOf", "(I)I"⟩, 56), (⟨"CrashTiesModel", "peopleIn", "(I)I"⟩, 56), (⟨"CrashTiesModel", "saysOf", "(I)I"⟩, 56), (⟨"CrashTiesModel", "isSo", "([III)Z"⟩, 56), (⟨"CrashTiesModel", "foundMany", "()I"⟩, 56)]
theorem lw_r4 : ∀ q ∈ lw_privs_4, lw_okq q := List.forall_mem_cons.mpr ⟨lw_p48, List.forall_mem_cons.mpr ⟨lw_p49, List.forall_mem_cons.mpr ⟨lw_p50, List.forall_mem_cons.mpr ⟨lw_p51, List.forall_mem_cons.mpr ⟨lw_p52, List.forall_mem_cons.mpr ⟨lw_p53, List.forall_mem_cons.mpr ⟨lw_p54, List.forall_mem_cons.mpr ⟨lw_p55, List.forall_mem_cons.mpr ⟨lw_p56, List.forall_mem_cons.mpr ⟨lw_p57, List.forall_mem_cons.mpr ⟨lw_p58, List.forall_mem_cons.mpr ⟨lw_p59, List.forall_mem_cons.mpr ⟨lw_p60, List.forall_mem_cons.mpr ⟨lw_p61, List.forall_mem_cons.mpr ⟨lw_p62, List.forall_mem_cons.mpr ⟨lw_p63, fun _ h => absurd h List.not_mem_nil⟩⟩⟩⟩⟩⟩⟩⟩⟩⟩⟩⟩⟩⟩⟩⟩
theorem lw_p64 : lw_okq (⟨"CrashTiesModel", "findRows", "()Z"⟩, 56) := ⟨⟨by decide +kernel, by decide +kernel⟩, List.mem_of_getElem? (i := 913) (by decide +kernel), List.mem_of_getElem? (i := 1385) (by decide +kernel), List.mem_of_getElem? (i := 1386) (by decide +kernel)⟩
theorem lw_p65 : lw_okq (⟨"CrashTiesModel", "isRow", "(II)Z"⟩, 56) := ⟨⟨by decide +kernel, by decide +kernel⟩, List.mem_of_getElem? (i := 913) (by decide +kernel), List.mem_of_getElem? (i := 1393) (by decide +kernel), List.mem_of_getElem? (i := 1394) (by decide +kernel)⟩
theorem lw_p66 : lw_okq (⟨"CrashTiesModel", "lacksSort", "(II)I"⟩, 56) := ⟨⟨by decide +kernel, by decide +kernel⟩, List.mem_of_getElem? (i := 913) (by decide +kernel), List.mem_of_getElem? (i := 1420) (by decide +kernel), List.mem_of_getElem? (i := 1421) (by decide +kernel)⟩
theorem lw_p67 : lw_okq (⟨"CrashTiesModel", "isHeld", "(II)Z"⟩, 56) := ⟨⟨by decide +kernel, by decide +kernel⟩, List.mem_of_getElem? (i := 913) (by decide +kernel), List.mem_of_getElem? (i := 1428) (by decide +kernel), List.mem_of_getElem? (i := 1429) (by decide +kernel)⟩
theorem lw_p68 : lw_okq (⟨"CrashTiesModel", "kindOn", "(I)I"⟩, 56) := ⟨⟨by decide +kernel, by decide +kernel⟩, List.mem_of_getElem? (i := 913) (by decide +kernel), List.mem_of_getElem? (i := 1436) (by decide +kernel), List.mem_of_getElem? (i := 1437) (by decide +kernel)⟩
theorem lw_p69 : lw_okq (⟨"CrashTiesModel", "hitsIt", "(I)I"⟩, 56) := ⟨⟨by decide +kernel, by decide +kernel⟩, List.mem_of_getElem? (i := 913) (by decide +kernel), List.mem_of_getElem? (i := 1447) (by decide +kernel), List.mem_of_getElem? (i := 1448) (by decide +kernel)⟩
theorem lw_p70 : lw_okq (⟨"CrashTiesModel", "glassHits", "(I)I"⟩, 56) := ⟨⟨by decide +kernel, by decide +kernel⟩, List.mem_of_getElem? (i := 913) (by decide +kernel), List.mem_of_getElem? (i := 1451) (by decide +kernel), List.mem_of_getElem? (i := 1452) (by decide +kernel)⟩
theorem lw_p71 : lw_okq (⟨"CrashTiesModel", "ran", "(I)V"⟩, 56) := ⟨⟨by decide +kernel, by decide +kernel⟩, List.mem_of_getElem? (i := 913) (by decide +kernel), List.mem_of_getElem? (i := 1455) (by decide +kernel), List.mem_of_getElem? (i := 1456) (by decide +kernel)⟩
theorem lw_p72 : lw_okq (⟨"CrashTiesModel", "plainHits", "(I)I"⟩, 56) := ⟨⟨by decide +kernel, by decide +kernel⟩, List.mem_of_getElem? (i := 913) (by decide +kernel), List.mem_of_getElem? (i := 1459) (by decide +kernel), List.mem_of_getElem? (i := 1460) (by decide +kernel)⟩
theorem lw_p73 : lw_okq (⟨"CrashTiesModel", "paysIt", "(I)I"⟩, 56) := ⟨⟨by decide +kernel, by decide +kernel⟩, List.mem_of_getElem? (i := 913) (by decide +kernel), List.mem_of_getElem? (i := 1463) (by decide +kernel), List.mem_of_getElem? (i := 1464) (by decide +kernel)⟩
theorem lw_p74 : lw_okq (⟨"CrashTiesModel", "bumpPays", "(I)I"⟩, 56) := ⟨⟨by decide +kernel, by decide +kernel⟩, List.mem_of_getElem? (i := 913) (by decide +kernel), List.mem_of_getElem? (i := 1467) (by decide +kernel), List.mem_of_getElem? (i := 1468) (by decide +kernel)⟩
theorem lw_p75 : lw_okq (⟨"CrashTiesModel", "plainPays", "(I)I"⟩, 56) := ⟨⟨by decide +kernel, by decide +kernel⟩, List.mem_of_getElem? (i := 913) (by decide +kernel), List.mem_of_getElem? (i := 1471) (by decide +kernel), List.mem_of_getElem? (i := 1472) (by decide +kernel)⟩
theorem lw_p76 : lw_okq (⟨"CrashTiesModel", "sharesIt", "(I)I"⟩, 56) := ⟨⟨by decide +kernel, by decide +kernel⟩, List.mem_of_getElem? (i := 913) (by decide +kernel), List.mem_of_getElem? (i := 1475) (by decide +kernel), List.mem_of_getElem? (i := 1476) (by decide +kernel)⟩
theorem lw_p77 : lw_okq (⟨"CrashTiesModel", "plainShares", "(I)I"⟩, 56) := ⟨⟨by decide +kernel, by decide +kernel⟩, List.mem_of_getElem? (i := 913) (by decide +kernel), List.mem_of_getElem? (i := 1479) (by decide +kernel), List.mem_of_getElem? (i := 1480) (by decide +kernel)⟩
theorem lw_p78 : lw_okq (⟨"CrashTiesModel", "tellsIt", "(I)I"⟩, 56) := ⟨⟨by decide +kernel, by decide +kernel⟩, List.mem_of_getElem? (i := 913) (by decide +kernel), List.mem_of_getElem? (i := 1483) (by decide +kernel), List.mem_of_getElem? (i := 1484) (by decide +kernel)⟩
theorem lw_p79 : lw_okq (⟨"CrashTiesModel", "plainTells", "(I)I"⟩, 56) := ⟨⟨by decide +kernel, by decide +kernel⟩, List.mem_of_getElem? (i := 913) (by decide +kernel), List.mem_of_getElem? (i := 1487) (by decide +kernel), List.mem_of_getElem? (i := 1488) (by decide +kernel)⟩
def lw_privs_5 : List (MethodName × Nat) := [(⟨"CrashTiesModel", "findRows", "()Z"⟩, 56), (⟨"CrashTiesModel", "isRow", "(II)Z"⟩, 56), (⟨"CrashTiesModel", "lacksSort", "(II)I"⟩, 56), (⟨"CrashTiesModel", "isHeld", "(II)Z"⟩, 56), (⟨"CrashTiesModel", "kindOn", "(I)I"⟩, 56), (⟨"CrashTiesModel", "hitsIt", "(I)I"⟩, 56), (⟨"CrashTiesModel", "glassHits", "(I)I"⟩, 56), (⟨"CrashTiesModel", "ran", "(I)V"⟩, 56), (⟨"CrashTiesModel", "plainHits", "(I)I"⟩, 56), (⟨"CrashTiesModel", "paysIt", "(I)I"⟩, 56), (⟨"CrashTiesModel", "bumpPays", "(I)I"⟩, 56), (⟨"CrashTiesModel", "plainPays", "(I)I"⟩, 56), (⟨"CrashTiesModel", "sharesIt", "(I)I"⟩, 56), (⟨"CrashTiesModel", "plainShares", "(I)I"⟩, 56), (⟨"CrashTiesModel", "tellsIt", "(I)I"⟩, 56), (⟨"CrashTiesModel", "plainTells", "(I)I"⟩, 56)]
theorem lw_r5 : ∀ q ∈ lw_privs_5, lw_okq q := List.forall_mem_cons.mpr ⟨lw_p64, List.forall_mem_cons.mpr ⟨lw_p65, List.forall_mem_cons.mpr ⟨lw_p66, List.forall_mem_cons.mpr ⟨lw_p67, List.forall_mem_cons.mpr ⟨lw_p68, List.forall_mem_cons.mpr ⟨lw_p69, List.forall_mem_cons.mpr ⟨lw_p70, List.forall_mem_cons.mpr ⟨lw_p71, List.forall_mem_cons.mpr ⟨lw_p72, List.forall_mem_cons.mpr ⟨lw_p73, List.forall_mem_cons.mpr ⟨lw_p74, List.forall_mem_cons.mpr ⟨lw_p75, List.forall_mem_cons.mpr ⟨lw_p76, List.forall_mem_cons.mpr ⟨lw_p77, List.forall_mem_cons.mpr ⟨lw_p78, List.forall_mem_cons.mpr ⟨lw_p79, fun _ h => absurd h List.not_mem_nil⟩⟩⟩⟩⟩⟩⟩⟩⟩⟩⟩⟩⟩⟩⟩⟩
theorem lw_p80 : lw_okq (⟨"CrashTiesModel", "moveAll", "(Z)V"⟩, 56) := ⟨⟨by decide +kernel, by decide +kernel⟩, List.mem_of_getElem? (i := 913) (by decide +kernel), List.mem_of_getElem? (i := 1503) (by decide +kernel), List.mem_of_getElem? (i := 1504) (by decide +kernel)⟩
theorem lw_p81 : lw_okq (⟨"CrashTiesModel", "move", "([IIZ)V"⟩, 56) := ⟨⟨by decide +kernel, by decide +kernel⟩, List.mem_of_getElem? (i := 913) (by decide +kernel), List.mem_of_getElem? (i := 1507) (by decide +kernel), List.mem_of_getElem? (i := 1508) (by decide +kernel)⟩
def lw_privs_6 : List (MethodName × Nat) := [(⟨"CrashTiesModel", "moveAll", "(Z)V"⟩, 56), (⟨"CrashTiesModel", "move", "([IIZ)V"⟩, 56)]
theorem lw_r6 : ∀ q ∈ lw_privs_6, lw_okq q := List.forall_mem_cons.mpr ⟨lw_p80, List.forall_mem_cons.mpr ⟨lw_p81, fun _ h => absurd h List.not_mem_nil⟩⟩
def lw_privs : List (MethodName × Nat) := lw_privs_1 ++ (lw_privs_2 ++ (lw_privs_3 ++ (lw_privs_4 ++ (lw_privs_5 ++ (lw_privs_6)))))
def lw_tbl : List Cond := k2_sels lw_privs ++ tables_1
theorem lw_privs_ok : ∀ q ∈ lw_privs, lw_okq q := by
  show ∀ q ∈ lw_privs_1 ++ (lw_privs_2 ++ (lw_privs_3 ++ (lw_privs_4 ++ (lw_privs_5 ++ (lw_privs_6))))), lw_okq q
  exact List.forall_mem_append.mpr ⟨lw_r1, List.forall_mem_append.mpr ⟨lw_r2, List.forall_mem_append.mpr ⟨lw_r3, List.forall_mem_append.mpr ⟨lw_r4, List.forall_mem_append.mpr ⟨lw_r5, lw_r6⟩⟩⟩⟩⟩
-- ===== end of PART A; then your names; then what follows =====
def RX0 : String := "CrashTies$Book"
def TX0 : u_T := fun k => match k with
  | 0 => ("CrashTies$Book", "sizes", "[I", true)
  | 1 => ("CrashTies$Book", "laws", "[I", true)
  | 2 => ("CrashTies$Book", "people", "I", false)
  | 3 => ("CrashTies$Book", "homes", "[I", true)
  | 4 => ("CrashTies$Book", "hubs", "[Z", true)
  | 5 => ("CrashTies$Book", "ones", "[I", true)
  | 6 => ("CrashTies$Book", "claims", "I", false)
  | 7 => ("CrashTies$Book", "facts", "[I", true)
  | 8 => ("CrashTies$Book", "seats", "[I", true)
  | 9 => ("CrashTies$Book", "found", "[I", true)
  | 10 => ("CrashTies$Book", "byChance", "[Z", true)
  | 11 => ("CrashTies$Book", "rules", "LCrashTies$Rules;", true)
  | _ => ("CrashTies$Book", "z", "I", false)
def tyX0 : Nat → FieldType := fun k => match k with
  | 0 => .array .int
  | 1 => .array .int
  | 2 => .int
  | 3 => .array .int
  | 4 => .array .boolean
  | 5 => .array .int
  | 6 => .int
  | 7 => .array .int
  | 8 => .array .int
  | 9 => .array .int
  | 10 => .array .boolean
  | 11 => .object "CrashTies$Rules"
  | _ => .int
abbrev wsX00 : List Cond := u_ws RX0 TX0 13
theorem nmX0 : ∀ a, a < 13 → ∀ b, b < 13 → a ≠ b → (TX0 a).2.1 ≠ (TX0 b).2.1 := by decide +kernel
theorem tyX0_ok : ∀ k, k < 13 → parseFieldDescriptor (TX0 k).2.2.1 = some (tyX0 k) := by decide +kernel
abbrev cX0_init : ByteArray := prog_2_method_1_code
def yX0_init : MethodName := ⟨RX0, "<init>", "()V"⟩
abbrev cX0_copyFrom : ByteArray := prog_2_method_2_code
def yX0_copyFrom : MethodName := ⟨RX0, "copyFrom", "(LCrashTies$Book;)V"⟩
abbrev cX0_isPerson : ByteArray := prog_2_method_3_code
def yX0_isPerson : MethodName := ⟨RX0, "isPerson", "(I)Z"⟩
abbrev cX0_isClaim : ByteArray := prog_2_method_4_code
def yX0_isClaim : MethodName := ⟨RX0, "isClaim", "(I)Z"⟩
abbrev cX0_allClaims : ByteArray := prog_2_method_5_code
def yX0_allClaims : MethodName := ⟨RX0, "allClaims", "()I"⟩
abbrev cX0_addPerson : ByteArray := prog_2_method_6_code
def yX0_addPerson : MethodName := ⟨RX0, "addPerson", "(IZ)I"⟩
abbrev cX0_addClaim : ByteArray := prog_2_method_7_code
def yX0_addClaim : MethodName := ⟨RX0, "addClaim", "(IIIII)I"⟩
abbrev cX0_fact : ByteArray := prog_2_method_8_code
def yX0_fact : MethodName := ⟨RX0, "fact", "(II)I"⟩
abbrev cX0_law : ByteArray := prog_2_method_9_code
def yX0_law : MethodName := ⟨RX0, "law", "(I)I"⟩
abbrev cX0_sitter : ByteArray := prog_2_method_10_code
def yX0_sitter : MethodName := ⟨RX0, "sitter", "(II)I"⟩
abbrev cX0_oneAt : ByteArray := prog_2_method_11_code
def yX0_oneAt : MethodName := ⟨RX0, "oneAt", "(II)I"⟩
abbrev cX0_isIn : ByteArray := prog_2_method_12_code
def yX0_isIn : MethodName := ⟨RX0, "isIn", "(II)Z"⟩
abbrev cX0_isElsewhere : ByteArray := prog_2_method_13_code
def yX0_isElsewhere : MethodName := ⟨RX0, "isElsewhere", "(III)Z"⟩
abbrev cX0_seated : ByteArray := prog_2_method_14_code
def yX0_seated : MethodName := ⟨RX0, "seated", "(I)I"⟩
abbrev cX0_isHub : ByteArray := prog_2_method_15_code
def yX0_isHub : MethodName := ⟨RX0, "isHub", "(I)Z"⟩
abbrev cX0_claimsWith : ByteArray := prog_2_method_16_code
def yX0_claimsWith : MethodName := ⟨RX0, "claimsWith", "(I)I"⟩
abbrev cX0_joinOnes : ByteArray := prog_2_method_17_code
def yX0_joinOnes : MethodName := ⟨RX0, "joinOnes", "(II)Z"⟩
abbrev cX0_countOnes : ByteArray := prog_2_method_18_code
def yX0_countOnes : MethodName := ⟨RX0, "countOnes", "()I"⟩
abbrev cX0_countFound : ByteArray := prog_2_method_19_code
def yX0_countFound : MethodName := ⟨RX0, "countFound", "()I"⟩
def RX1 : String := "CrashTies$Host"
def TX1 : u_T := fun k => match k with
  | 0 => ("CrashTies$Host", "sorts", "[I", true)
  | 1 => ("CrashTies$Host", "lengths", "[I", true)
  | 2 => ("CrashTies$Host", "items", "[J", true)
  | 3 => ("CrashTies$Host", "held", "[I", true)
  | _ => ("CrashTies$Host", "numbers", "[I", true)
def tyX1 : Nat → FieldType := fun k => match k with
  | 0 => .array .int
  | 1 => .array .int
  | 2 => .array .long
  | 3 => .array .int
  | _ => .array .int
abbrev wsX10 : List Cond := u_ws RX1 TX1 5
theorem nmX1 : ∀ a, a < 5 → ∀ b, b < 5 → a ≠ b → (TX1 a).2.1 ≠ (TX1 b).2.1 := by decide +kernel
theorem tyX1_ok : ∀ k, k < 5 → parseFieldDescriptor (TX1 k).2.2.1 = some (tyX1 k) := by decide +kernel
abbrev cX1_init : ByteArray := prog_3_method_1_code
def yX1_init : MethodName := ⟨RX1, "<init>", "()V"⟩
abbrev cX1_isSheet : ByteArray := prog_3_method_2_code
def yX1_isSheet : MethodName := ⟨RX1, "isSheet", "(I)Z"⟩
abbrev cX1_isShelf : ByteArray := prog_3_method_3_code
def yX1_isShelf : MethodName := ⟨RX1, "isShelf", "(I)Z"⟩
abbrev cX1_isMissing : ByteArray := prog_3_method_4_code
def yX1_isMissing : MethodName := ⟨RX1, "isMissing", "(I)Z"⟩
abbrev cX1_isInside : ByteArray := prog_3_method_5_code
def yX1_isInside : MethodName := ⟨RX1, "isInside", "(II)Z"⟩
abbrev cX1_drop : ByteArray := prog_3_method_6_code
def yX1_drop : MethodName := ⟨RX1, "drop", "(I)V"⟩
abbrev cX1_lay : ByteArray := prog_3_method_7_code
def yX1_lay : MethodName := ⟨RX1, "lay", "(III)V"⟩
abbrev cX1_write : ByteArray := prog_3_method_8_code
def yX1_write : MethodName := ⟨RX1, "write", "(III)V"⟩
abbrev cX1_read : ByteArray := prog_3_method_9_code
def yX1_read : MethodName := ⟨RX1, "read", "(II)I"⟩
abbrev cX1_holdNothing : ByteArray := prog_3_method_10_code
def yX1_holdNothing : MethodName := ⟨RX1, "holdNothing", "(I)V"⟩
abbrev cX1_holdClaim : ByteArray := prog_3_method_11_code
def yX1_holdClaim : MethodName := ⟨RX1, "holdClaim", "(II)V"⟩
abbrev cX1_holdRow : ByteArray := prog_3_method_12_code
def yX1_holdRow : MethodName := ⟨RX1, "holdRow", "(II)V"⟩
abbrev cX1_heldOn : ByteArray := prog_3_method_13_code
def yX1_heldOn : MethodName := ⟨RX1, "heldOn", "(II)I"⟩
def RX2 : String := "CrashTies$Odds"
def TX2 : u_T := fun k => match k with
  | _ => ("", "", "", false)
def tyX2 : Nat → FieldType := fun k => match k with
  | _ => .int
abbrev wsX20 : List Cond := u_ws RX2 TX2 0
theorem nmX2 : ∀ a, a < 0 → ∀ b, b < 0 → a ≠ b → (TX2 a).2.1 ≠ (TX2 b).2.1 := by decide +kernel
theorem tyX2_ok : ∀ k, k < 0 → parseFieldDescriptor (TX2 k).2.2.1 = some (tyX2 k) := by decide +kernel
abbrev cX2_asManyOrMore : ByteArray := prog_4_method_2_code
def yX2_asManyOrMore : MethodName := ⟨RX2, "asManyOrMore", "(IIJ)J"⟩
abbrev cX2_power : ByteArray := prog_4_method_3_code
def yX2_power : MethodName := ⟨RX2, "power", "(JI)J"⟩
abbrev cX2_part : ByteArray := prog_4_method_4_code
def yX2_part : MethodName := ⟨RX2, "part", "(JJI)J"⟩
abbrev cX2_commonDivisor : ByteArray := prog_4_method_5_code
def yX2_commonDivisor : MethodName := ⟨RX2, "commonDivisor", "(JJ)J"⟩
def RX3 : String := "CrashTies$Play"
def TX3 : u_T := fun k => match k with
  | 0 => ("CrashTies$Play", "bodies", "[I", true)
  | 1 => ("CrashTies$Play", "count", "I", false)
  | 2 => ("CrashTies$Play", "kind", "I", false)
  | 3 => ("CrashTies$Play", "n", "I", false)
  | 4 => ("CrashTies$Play", "a", "I", false)
  | _ => ("CrashTies$Play", "parted", "Z", false)
def tyX3 : Nat → FieldType := fun k => match k with
  | 0 => .array .int
  | 1 => .int
  | 2 => .int
  | 3 => .int
  | 4 => .int
  | _ => .boolean
abbrev wsX30 : List Cond := u_ws RX3 TX3 6
theorem nmX3 : ∀ a, a < 6 → ∀ b, b < 6 → a ≠ b → (TX3 a).2.1 ≠ (TX3 b).2.1 := by decide +kernel
theorem tyX3_ok : ∀ k, k < 6 → parseFieldDescriptor (TX3 k).2.2.1 = some (tyX3 k) := by decide +kernel
abbrev cX3_init : ByteArray := prog_5_method_1_code
def yX3_init : MethodName := ⟨RX3, "<init>", "()V"⟩
abbrev cX3_perform : ByteArray := prog_5_method_2_code
def yX3_perform : MethodName := ⟨RX3, "perform", "(IIIII)I"⟩
abbrev cX3_bodyOf : ByteArray := prog_5_method_3_code
def yX3_bodyOf : MethodName := ⟨RX3, "bodyOf", "(I)I"⟩
abbrev cX3_run : ByteArray := prog_5_method_4_code
def yX3_run : MethodName := ⟨RX3, "run", "(III)I"⟩
abbrev cX3_share : ByteArray := prog_5_method_5_code
def yX3_share : MethodName := ⟨RX3, "share", "(I)I"⟩
def RX4 : String := "CrashTies$Reader"
def TX4 : u_T := fun k => match k with
  | 0 => ("CrashTies$Reader", "tape", "[I", true)
  | 1 => ("CrashTies$Reader", "length", "I", false)
  | 2 => ("CrashTies$Reader", "tokens", "[I", true)
  | 3 => ("CrashTies$Reader", "starts", "[I", true)
  | 4 => ("CrashTies$Reader", "count", "I", false)
  | 5 => ("CrashTies$Reader", "at", "I", false)
  | 6 => ("CrashTies$Reader", "draft", "LCrashTies$Rules;", true)
  | _ => ("CrashTies$Reader", "fault", "I", false)
def tyX4 : Nat → FieldType := fun k => match k with
  | 0 => .array .int
  | 1 => .int
  | 2 => .array .int
  | 3 => .array .int
  | 4 => .int
  | 5 => .int
  | 6 => .object "CrashTies$Rules"
  | _ => .int
abbrev wsX40 : List Cond := u_ws RX4 TX4 8
theorem nmX4 : ∀ a, a < 8 → ∀ b, b < 8 → a ≠ b → (TX4 a).2.1 ≠ (TX4 b).2.1 := by decide +kernel
theorem tyX4_ok : ∀ k, k < 8 → parseFieldDescriptor (TX4 k).2.2.1 = some (tyX4 k) := by decide +kernel
abbrev cX4_init : ByteArray := prog_6_method_1_code
def yX4_init : MethodName := ⟨RX4, "<init>", "()V"⟩
abbrev cX4_append : ByteArray := prog_6_method_2_code
def yX4_append : MethodName := ⟨RX4, "append", "(I)V"⟩
abbrev cX4_readText : ByteArray := prog_6_method_3_code
def yX4_readText : MethodName := ⟨RX4, "readText", "()Z"⟩
abbrev cX4_readClause : ByteArray := prog_6_method_4_code
def yX4_readClause : MethodName := ⟨RX4, "readClause", "()Z"⟩
abbrev cX4_readCond : ByteArray := prog_6_method_5_code
def yX4_readCond : MethodName := ⟨RX4, "readCond", "(I)Z"⟩
abbrev cX4_readAll : ByteArray := prog_6_method_6_code
def yX4_readAll : MethodName := ⟨RX4, "readAll", "(I)Z"⟩
abbrev cX4_readOne : ByteArray := prog_6_method_7_code
def yX4_readOne : MethodName := ⟨RX4, "readOne", "(I)Z"⟩
abbrev cX4_readBracket : ByteArray := prog_6_method_8_code
def yX4_readBracket : MethodName := ⟨RX4, "readBracket", "(I)Z"⟩
abbrev cX4_readComparison : ByteArray := prog_6_method_9_code
def yX4_readComparison : MethodName := ⟨RX4, "readComparison", "()Z"⟩
abbrev cX4_isValue : ByteArray := prog_6_method_10_code
def yX4_isValue : MethodName := ⟨RX4, "isValue", "(I)Z"⟩
abbrev cX4_here : ByteArray := prog_6_method_11_code
def yX4_here : MethodName := ⟨RX4, "here", "()I"⟩
abbrev cX4_refuse : ByteArray := prog_6_method_12_code
def yX4_refuse : MethodName := ⟨RX4, "refuse", "()Z"⟩
abbrev cX4_cut : ByteArray := prog_6_method_13_code
def yX4_cut : MethodName := ⟨RX4, "cut", "()V"⟩
abbrev cX4_addToken : ByteArray := prog_6_method_14_code
def yX4_addToken : MethodName := ⟨RX4, "addToken", "(II)V"⟩
abbrev cX4_tokenOf : ByteArray := prog_6_method_15_code
def yX4_tokenOf : MethodName := ⟨RX4, "tokenOf", "(III)I"⟩
abbrev cX4_nameToken : ByteArray := prog_6_method_16_code
def yX4_nameToken : MethodName := ⟨RX4, "nameToken", "(II)I"⟩
abbrev cX4_isName : ByteArray := prog_6_method_17_code
def yX4_isName : MethodName := ⟨RX4, "isName", "(IILjava/lang/String;)Z"⟩
abbrev cX4_numberToken : ByteArray := prog_6_method_18_code
def yX4_numberToken : MethodName := ⟨RX4, "numberToken", "(II)I"⟩
abbrev cX4_sortAt : ByteArray := prog_6_method_19_code
def yX4_sortAt : MethodName := ⟨RX4, "sortAt", "(I)I"⟩
abbrev cX4_byteAt : ByteArray := prog_6_method_20_code
def yX4_byteAt : MethodName := ⟨RX4, "byteAt", "(I)I"⟩
def RX5 : String := "CrashTies$Rows"
def TX5 : u_T := fun k => match k with
  | 0 => ("CrashTies$Rows", "entries", "[I", true)
  | _ => ("CrashTies$Rows", "count", "I", false)
def tyX5 : Nat → FieldType := fun k => match k with
  | 0 => .array .int
  | _ => .int
abbrev wsX50 : List Cond := u_ws RX5 TX5 2
theorem nmX5 : ∀ a, a < 2 → ∀ b, b < 2 → a ≠ b → (TX5 a).2.1 ≠ (TX5 b).2.1 := by decide +kernel
theorem tyX5_ok : ∀ k, k < 2 → parseFieldDescriptor (TX5 k).2.2.1 = some (tyX5 k) := by decide +kernel
abbrev cX5_init : ByteArray := prog_7_method_1_code
def yX5_init : MethodName := ⟨RX5, "<init>", "()V"⟩
abbrev cX5_write : ByteArray := prog_7_method_2_code
def yX5_write : MethodName := ⟨RX5, "write", "(LCrashTies$Book;LCrashTies$Ties;I)V"⟩
abbrev cX5_append : ByteArray := prog_7_method_3_code
def yX5_append : MethodName := ⟨RX5, "append", "(III)V"⟩
abbrev cX5_holds : ByteArray := prog_7_method_4_code
def yX5_holds : MethodName := ⟨RX5, "holds", "(II)Z"⟩
abbrev cX5_entry : ByteArray := prog_7_method_5_code
def yX5_entry : MethodName := ⟨RX5, "entry", "(II)I"⟩
abbrev cX5_hasSame : ByteArray := prog_7_method_6_code
def yX5_hasSame : MethodName := ⟨RX5, "hasSame", "(LCrashTies$Rows;I)Z"⟩
def RX6 : String := "CrashTies$Rules"
def TX6 : u_T := fun k => match k with
  | 0 => ("CrashTies$Rules", "codes", "[I", true)
  | 1 => ("CrashTies$Rules", "stack", "[I", true)
  | 2 => ("CrashTies$Rules", "count", "I", false)
  | 3 => ("CrashTies$Rules", "clauses", "I", false)
  | 4 => ("CrashTies$Rules", "height", "I", false)
  | _ => ("CrashTies$Rules", "asking", "Z", false)
def tyX6 : Nat → FieldType := fun k => match k with
  | 0 => .array .int
  | 1 => .array .int
  | 2 => .int
  | 3 => .int
  | 4 => .int
  | _ => .boolean
abbrev wsX60 : List Cond := u_ws RX6 TX6 6
theorem nmX6 : ∀ a, a < 6 → ∀ b, b < 6 → a ≠ b → (TX6 a).2.1 ≠ (TX6 b).2.1 := by decide +kernel
theorem tyX6_ok : ∀ k, k < 6 → parseFieldDescriptor (TX6 k).2.2.1 = some (tyX6 k) := by decide +kernel
abbrev cX6_init : ByteArray := prog_8_method_1_code
def yX6_init : MethodName := ⟨RX6, "<init>", "()V"⟩
abbrev cX6_copyFrom : ByteArray := prog_8_method_2_code
def yX6_copyFrom : MethodName := ⟨RX6, "copyFrom", "(LCrashTies$Rules;)V"⟩
abbrev cX6_emit : ByteArray := prog_8_method_3_code
def yX6_emit : MethodName := ⟨RX6, "emit", "(I)V"⟩
abbrev cX6_ask : ByteArray := prog_8_method_4_code
def yX6_ask : MethodName := ⟨RX6, "ask", "([I)Z"⟩
abbrev cX6_obey : ByteArray := prog_8_method_5_code
def yX6_obey : MethodName := ⟨RX6, "obey", "(I[I)V"⟩
abbrev cX6_compare : ByteArray := prog_8_method_6_code
def yX6_compare : MethodName := ⟨RX6, "compare", "(I)V"⟩
abbrev cX6_push : ByteArray := prog_8_method_7_code
def yX6_push : MethodName := ⟨RX6, "push", "(I)V"⟩
abbrev cX6_pop : ByteArray := prog_8_method_8_code
def yX6_pop : MethodName := ⟨RX6, "pop", "()I"⟩
def RX7 : String := "CrashTies$Ties"
def TX7 : u_T := fun k => match k with
  | 0 => ("CrashTies$Ties", "strengths", "[I", true)
  | 1 => ("CrashTies$Ties", "scores", "[I", true)
  | 2 => ("CrashTies$Ties", "hours", "[I", true)
  | _ => ("CrashTies$Ties", "reached", "[I", true)
def tyX7 : Nat → FieldType := fun k => match k with
  | 0 => .array .int
  | 1 => .array .int
  | 2 => .array .int
  | _ => .array .int
abbrev wsX70 : List Cond := u_ws RX7 TX7 4
theorem nmX7 : ∀ a, a < 4 → ∀ b, b < 4 → a ≠ b → (TX7 a).2.1 ≠ (TX7 b).2.1 := by decide +kernel
theorem tyX7_ok : ∀ k, k < 4 → parseFieldDescriptor (TX7 k).2.2.1 = some (tyX7 k) := by decide +kernel
abbrev cX7_init : ByteArray := prog_9_method_1_code
def yX7_init : MethodName := ⟨RX7, "<init>", "()V"⟩
abbrev cX7_strength : ByteArray := prog_9_method_2_code
def yX7_strength : MethodName := ⟨RX7, "strength", "(LCrashTies$Book;III)I"⟩
abbrev cX7_placeSign : ByteArray := prog_9_method_3_code
def yX7_placeSign : MethodName := ⟨RX7, "placeSign", "(LCrashTies$Book;IIIII)I"⟩
abbrev cX7_sign : ByteArray := prog_9_method_4_code
def yX7_sign : MethodName := ⟨RX7, "sign", "(LCrashTies$Book;II)I"⟩
abbrev cX7_weigh : ByteArray := prog_9_method_5_code
def yX7_weigh : MethodName := ⟨RX7, "weigh", "(III)I"⟩
abbrev cX7_weave : ByteArray := prog_9_method_6_code
def yX7_weave : MethodName := ⟨RX7, "weave", "(LCrashTies$Book;I)V"⟩
abbrev cX7_woven : ByteArray := prog_9_method_7_code
def yX7_woven : MethodName := ⟨RX7, "woven", "(II)I"⟩
abbrev cX7_tiedWith : ByteArray := prog_9_method_8_code
def yX7_tiedWith : MethodName := ⟨RX7, "tiedWith", "(LCrashTies$Book;I)I"⟩
abbrev cX7_hanging : ByteArray := prog_9_method_9_code
def yX7_hanging : MethodName := ⟨RX7, "hanging", "(LCrashTies$Book;I)I"⟩
abbrev cX7_tiedToAny : ByteArray := prog_9_method_10_code
def yX7_tiedToAny : MethodName := ⟨RX7, "tiedToAny", "(LCrashTies$Book;I)I"⟩
abbrev cX7_stepsBetween : ByteArray := prog_9_method_11_code
def yX7_stepsBetween : MethodName := ⟨RX7, "stepsBetween", "(LCrashTies$Book;II)I"⟩
abbrev cX7_reachFrom : ByteArray := prog_9_method_12_code
def yX7_reachFrom : MethodName := ⟨RX7, "reachFrom", "(LCrashTies$Book;II)V"⟩
abbrev cX7_scoreSets : ByteArray := prog_9_method_13_code
def yX7_scoreSets : MethodName := ⟨RX7, "scoreSets", "(LCrashTies$Book;I)V"⟩
abbrev cX7_bonds : ByteArray := prog_9_method_14_code
def yX7_bonds : MethodName := ⟨RX7, "bonds", "(II)I"⟩
abbrev cX7_scoreOf : ByteArray := prog_9_method_15_code
def yX7_scoreOf : MethodName := ⟨RX7, "scoreOf", "(I)I"⟩
abbrev cX7_findLot : ByteArray := prog_9_method_16_code
def yX7_findLot : MethodName := ⟨RX7, "findLot", "(LCrashTies$Book;I)I"⟩
abbrev cX7_isBetterLot : ByteArray := prog_9_method_17_code
def yX7_isBetterLot : MethodName := ⟨RX7, "isBetterLot", "(II)Z"⟩
abbrev cX7_firstDay : ByteArray := prog_9_method_18_code
def yX7_firstDay : MethodName := ⟨RX7, "firstDay", "(LCrashTies$Book;I)I"⟩
abbrev cX7_lastDay : ByteArray := prog_9_method_19_code
def yX7_lastDay : MethodName := ⟨RX7, "lastDay", "(LCrashTies$Book;I)I"⟩
abbrev cX7_likelihood : ByteArray := prog_9_method_20_code
def yX7_likelihood : MethodName := ⟨RX7, "likelihood", "(LCrashTies$Book;I)I"⟩
abbrev cX7_findAsked : ByteArray := prog_9_method_21_code
def yX7_findAsked : MethodName := ⟨RX7, "findAsked", "(LCrashTies$Book;)I"⟩
def RX8 : String := "CrashTies"
def TX8 : u_T := fun k => match k with
  | 0 => ("CrashTies", "book", "LCrashTies$Book;", true)
  | 1 => ("CrashTies", "kept", "LCrashTies$Book;", true)
  | 2 => ("CrashTies", "anyKept", "Z", false)
  | 3 => ("CrashTies", "ties", "LCrashTies$Ties;", true)
  | 4 => ("CrashTies", "reader", "LCrashTies$Reader;", true)
  | 5 => ("CrashTies", "rows", "LCrashTies$Rows;", true)
  | 6 => ("CrashTies", "dueRows", "LCrashTies$Rows;", true)
  | 7 => ("CrashTies", "host", "LCrashTies$Host;", true)
  | 8 => ("CrashTies", "play", "LCrashTies$Play;", true)
  | _ => ("CrashTies", "ruleFacts", "[I", true)
def tyX8 : Nat → FieldType := fun k => match k with
  | 0 => .object "CrashTies$Book"
  | 1 => .object "CrashTies$Book"
  | 2 => .boolean
  | 3 => .object "CrashTies$Ties"
  | 4 => .object "CrashTies$Reader"
  | 5 => .object "CrashTies$Rows"
  | 6 => .object "CrashTies$Rows"
  | 7 => .object "CrashTies$Host"
  | 8 => .object "CrashTies$Play"
  | _ => .array .int
abbrev wsX80 : List Cond := u_ws RX8 TX8 10
theorem nmX8 : ∀ a, a < 10 → ∀ b, b < 10 → a ≠ b → (TX8 a).2.1 ≠ (TX8 b).2.1 := by decide +kernel
theorem tyX8_ok : ∀ k, k < 10 → parseFieldDescriptor (TX8 k).2.2.1 = some (tyX8 k) := by decide +kernel
abbrev cX8_init : ByteArray := prog_1_method_1_code
def yX8_init : MethodName := ⟨RX8, "<init>", "()V"⟩
abbrev cX8_feed : ByteArray := prog_1_method_2_code
def yX8_feed : MethodName := ⟨RX8, "feed", "(JI)I"⟩
abbrev cX8_rules : ByteArray := prog_1_method_3_code
def yX8_rules : MethodName := ⟨RX8, "rules", "()I"⟩
abbrev cX8_size : ByteArray := prog_1_method_4_code
def yX8_size : MethodName := ⟨RX8, "size", "(II)I"⟩
abbrev cX8_person : ByteArray := prog_1_method_5_code
def yX8_person : MethodName := ⟨RX8, "person", "(IZ)I"⟩
abbrev cX8_personOf : ByteArray := prog_1_method_6_code
def yX8_personOf : MethodName := ⟨RX8, "personOf", "(II)I"⟩
abbrev cX8_join : ByteArray := prog_1_method_7_code
def yX8_join : MethodName := ⟨RX8, "join", "(II)I"⟩
abbrev cX8_claim : ByteArray := prog_1_method_8_code
def yX8_claim : MethodName := ⟨RX8, "claim", "(IIIII)I"⟩
abbrev cX8_claimOf : ByteArray := prog_1_method_9_code
def yX8_claimOf : MethodName := ⟨RX8, "claimOf", "(II)I"⟩
abbrev cX8_seat : ByteArray := prog_1_method_10_code
def yX8_seat : MethodName := ⟨RX8, "seat", "(III)I"⟩
abbrev cX8_set : ByteArray := prog_1_method_11_code
def yX8_set : MethodName := ⟨RX8, "set", "(II)I"⟩
abbrev cX8_tie : ByteArray := prog_1_method_12_code
def yX8_tie : MethodName := ⟨RX8, "tie", "(II)I"⟩
abbrev cX8_tied : ByteArray := prog_1_method_13_code
def yX8_tied : MethodName := ⟨RX8, "tied", "(I)I"⟩
abbrev cX8_hang : ByteArray := prog_1_method_14_code
def yX8_hang : MethodName := ⟨RX8, "hang", "(I)I"⟩
abbrev cX8_steps : ByteArray := prog_1_method_15_code
def yX8_steps : MethodName := ⟨RX8, "steps", "(II)I"⟩
abbrev cX8_turned : ByteArray := prog_1_method_16_code
def yX8_turned : MethodName := ⟨RX8, "turned", "(I)I"⟩
abbrev cX8_score : ByteArray := prog_1_method_17_code
def yX8_score : MethodName := ⟨RX8, "score", "(I)I"⟩
abbrev cX8_lot : ByteArray := prog_1_method_18_code
def yX8_lot : MethodName := ⟨RX8, "lot", "(I)I"⟩
abbrev cX8_seen : ByteArray := prog_1_method_19_code
def yX8_seen : MethodName := ⟨RX8, "seen", "(I)I"⟩
abbrev cX8_without : ByteArray := prog_1_method_20_code
def yX8_without : MethodName := ⟨RX8, "without", "(I)I"⟩
abbrev cX8_hold : ByteArray := prog_1_method_21_code
def yX8_hold : MethodName := ⟨RX8, "hold", "()I"⟩
abbrev cX8_odds : ByteArray := prog_1_method_22_code
def yX8_odds : MethodName := ⟨RX8, "odds", "(II)J"⟩
abbrev cX8_likely : ByteArray := prog_1_method_23_code
def yX8_likely : MethodName := ⟨RX8, "likely", "(I)I"⟩
abbrev cX8_best : ByteArray := prog_1_method_24_code
def yX8_best : MethodName := ⟨RX8, "best", "(I)I"⟩
abbrev cX8_says : ByteArray := prog_1_method_25_code
def yX8_says : MethodName := ⟨RX8, "says", "(I)I"⟩
abbrev cX8_found : ByteArray := prog_1_method_26_code
def yX8_found : MethodName := ⟨RX8, "found", "(IIZ)I"⟩
abbrev cX8_rate : ByteArray := prog_1_method_27_code
def yX8_rate : MethodName := ⟨RX8, "rate", "(I)I"⟩
abbrev cX8_right : ByteArray := prog_1_method_28_code
def yX8_right : MethodName := ⟨RX8, "right", "(I)I"⟩
abbrev cX8_seed : ByteArray := prog_1_method_29_code
def yX8_seed : MethodName := ⟨RX8, "seed", "(I)I"⟩
abbrev cX8_draw : ByteArray := prog_1_method_30_code
def yX8_draw : MethodName := ⟨RX8, "draw", "()I"⟩
abbrev cX8_prove : ByteArray := prog_1_method_31_code
def yX8_prove : MethodName := ⟨RX8, "prove", "()I"⟩
abbrev cX8_row : ByteArray := prog_1_method_32_code
def yX8_row : MethodName := ⟨RX8, "row", "(II)I"⟩
abbrev cX8_alterRow : ByteArray := prog_1_method_33_code
def yX8_alterRow : MethodName := ⟨RX8, "alterRow", "(III)I"⟩
abbrev cX8_judge : ByteArray := prog_1_method_34_code
def yX8_judge : MethodName := ⟨RX8, "judge", "()I"⟩
abbrev cX8_sheet : ByteArray := prog_1_method_35_code
def yX8_sheet : MethodName := ⟨RX8, "sheet", "(III)I"⟩
abbrev cX8_put : ByteArray := prog_1_method_36_code
def yX8_put : MethodName := ⟨RX8, "put", "(III)I"⟩
abbrev cX8_item : ByteArray := prog_1_method_37_code
def yX8_item : MethodName := ⟨RX8, "item", "(III)I"⟩
abbrev cX8_shelf : ByteArray := prog_1_method_38_code
def yX8_shelf : MethodName := ⟨RX8, "shelf", "(III)I"⟩
abbrev cX8_taken : ByteArray := prog_1_method_39_code
def yX8_taken : MethodName := ⟨RX8, "taken", "(II)I"⟩
abbrev cX8_act : ByteArray := prog_1_method_40_code
def yX8_act : MethodName := ⟨RX8, "act", "(III)I"⟩
abbrev cX8_trace : ByteArray := prog_1_method_41_code
def yX8_trace : MethodName := ⟨RX8, "trace", "(I)I"⟩
abbrev cX8_many : ByteArray := prog_1_method_42_code
def yX8_many : MethodName := ⟨RX8, "many", "(I)I"⟩
abbrev cX8_keep : ByteArray := prog_1_method_43_code
def yX8_keep : MethodName := ⟨RX8, "keep", "()I"⟩
abbrev cX8_again : ByteArray := prog_1_method_44_code
def yX8_again : MethodName := ⟨RX8, "again", "()I"⟩
abbrev cX8_isTown : ByteArray := prog_1_method_45_code
def yX8_isTown : MethodName := ⟨RX8, "isTown", "(I)Z"⟩
abbrev cX8_isUnder : ByteArray := prog_1_method_46_code
def yX8_isUnder : MethodName := ⟨RX8, "isUnder", "(II)Z"⟩
abbrev cX8_asks : ByteArray := prog_1_method_47_code
def yX8_asks : MethodName := ⟨RX8, "asks", "(I)Z"⟩
def RX9 : String := "CrashTiesModel"
def TX9 : u_T := fun k => match k with
  | 0 => ("CrashTiesModel", "sizeOf", "[I", true)
  | 1 => ("CrashTiesModel", "people", "I", false)
  | 2 => ("CrashTiesModel", "townOf", "[I", true)
  | 3 => ("CrashTiesModel", "isHub", "[I", true)
  | 4 => ("CrashTiesModel", "oneOf", "[I", true)
  | 5 => ("CrashTiesModel", "claims", "I", false)
  | 6 => ("CrashTiesModel", "claim", "[I", true)
  | 7 => ("CrashTiesModel", "laws", "[I", true)
  | 8 => ("CrashTiesModel", "mostOf", "[I", true)
  | 9 => ("CrashTiesModel", "clauses", "I", false)
  | 10 => ("CrashTiesModel", "clause", "[I", true)
  | 11 => ("CrashTiesModel", "signs", "[I", true)
  | 12 => ("CrashTiesModel", "z", "I", false)
  | 13 => ("CrashTiesModel", "tape", "[I", true)
  | 14 => ("CrashTiesModel", "tapeMany", "I", false)
  | 15 => ("CrashTiesModel", "sort", "I", false)
  | 16 => ("CrashTiesModel", "begins", "I", false)
  | 17 => ("CrashTiesModel", "tokenEnds", "I", false)
  | 18 => ("CrashTiesModel", "word", "J", false)
  | 19 => ("CrashTiesModel", "value", "I", false)
  | 20 => ("CrashTiesModel", "good", "Z", false)
  | 21 => ("CrashTiesModel", "facts", "[I", true)
  | 22 => ("CrashTiesModel", "fresh", "[I", true)
  | 23 => ("CrashTiesModel", "pending", "[I", true)
  | 24 => ("CrashTiesModel", "freshMany", "I", false)
  | 25 => ("CrashTiesModel", "pendingMany", "I", false)
  | 26 => ("CrashTiesModel", "open", "I", false)
  | 27 => ("CrashTiesModel", "pile", "[Z", true)
  | 28 => ("CrashTiesModel", "freshClause", "[I", true)
  | 29 => ("CrashTiesModel", "strength", "[I", true)
  | 30 => ("CrashTiesModel", "lotScore", "I", false)
  | 31 => ("CrashTiesModel", "above", "J", false)
  | 32 => ("CrashTiesModel", "below", "J", false)
  | 33 => ("CrashTiesModel", "often", "[J", true)
  | 34 => ("CrashTiesModel", "hours", "[I", true)
  | 35 => ("CrashTiesModel", "worth", "[I", true)
  | 36 => ("CrashTiesModel", "rows", "[I", true)
  | 37 => ("CrashTiesModel", "must", "[I", true)
  | 38 => ("CrashTiesModel", "rowMany", "I", false)
  | 39 => ("CrashTiesModel", "mustMany", "I", false)
  | 40 => ("CrashTiesModel", "sorts", "[I", true)
  | 41 => ("CrashTiesModel", "sizes", "[I", true)
  | 42 => ("CrashTiesModel", "sheets", "[J", true)
  | 43 => ("CrashTiesModel", "held", "[I", true)
  | 44 => ("CrashTiesModel", "heldNumber", "[I", true)
  | 45 => ("CrashTiesModel", "heldSize", "[I", true)
  | 46 => ("CrashTiesModel", "kind", "I", false)
  | 47 => ("CrashTiesModel", "number", "I", false)
  | 48 => ("CrashTiesModel", "own", "I", false)
  | 49 => ("CrashTiesModel", "traced", "[I", true)
  | 50 => ("CrashTiesModel", "bodies", "I", false)
  | 51 => ("CrashTiesModel", "isParted", "Z", false)
  | 52 => ("CrashTiesModel", "isKept", "Z", false)
  | 53 => ("CrashTiesModel", "kept", "[I", true)
  | 54 => ("CrashTiesModel", "movedTo", "I", false)
  | _ => ("CrashTiesModel", "single", "[I", true)
def tyX9 : Nat → FieldType := fun k => match k with
  | 0 => .array .int
  | 1 => .int
  | 2 => .array .int
  | 3 => .array .int
  | 4 => .array .int
  | 5 => .int
  | 6 => .array .int
  | 7 => .array .int
  | 8 => .array .int
  | 9 => .int
  | 10 => .array .int
  | 11 => .array .int
  | 12 => .int
  | 13 => .array .int
  | 14 => .int
  | 15 => .int
  | 16 => .int
  | 17 => .int
  | 18 => .long
  | 19 => .int
  | 20 => .boolean
  | 21 => .array .int
  | 22 => .array .int
  | 23 => .array .int
  | 24 => .int
  | 25 => .int
  | 26 => .int
  | 27 => .array .boolean
  | 28 => .array .int
  | 29 => .array .int
  | 30 => .int
  | 31 => .long
  | 32 => .long
  | 33 => .array .long
  | 34 => .array .int
  | 35 => .array .int
  | 36 => .array .int
  | 37 => .array .int
  | 38 => .int
  | 39 => .int
  | 40 => .array .int
  | 41 => .array .int
  | 42 => .array .long
  | 43 => .array .int
  | 44 => .array .int
  | 45 => .array .int
  | 46 => .int
  | 47 => .int
  | 48 => .int
  | 49 => .array .int
  | 50 => .int
  | 51 => .boolean
  | 52 => .boolean
  | 53 => .array .int
  | 54 => .int
  | _ => .array .int
abbrev wsX90 : List Cond := u_ws RX9 TX9 56
theorem nmX9 : ∀ a, a < 56 → ∀ b, b < 56 → a ≠ b → (TX9 a).2.1 ≠ (TX9 b).2.1 := by decide +kernel
theorem tyX9_ok : ∀ k, k < 56 → parseFieldDescriptor (TX9 k).2.2.1 = some (tyX9 k) := by decide +kernel
abbrev cX9_init : ByteArray := prog_11_method_1_code
def yX9_init : MethodName := ⟨RX9, "<init>", "()V"⟩
abbrev cX9_in : ByteArray := prog_11_method_2_code
def yX9_in : MethodName := ⟨RX9, "in", "(III)Z"⟩
abbrev cX9_isPerson : ByteArray := prog_11_method_3_code
def yX9_isPerson : MethodName := ⟨RX9, "isPerson", "(I)Z"⟩
abbrev cX9_isClaim : ByteArray := prog_11_method_4_code
def yX9_isClaim : MethodName := ⟨RX9, "isClaim", "(I)Z"⟩
abbrev cX9_isSide : ByteArray := prog_11_method_5_code
def yX9_isSide : MethodName := ⟨RX9, "isSide", "(I)Z"⟩
abbrev cX9_its : ByteArray := prog_11_method_6_code
def yX9_its : MethodName := ⟨RX9, "its", "(II)I"⟩
abbrev cX9_ones : ByteArray := prog_11_method_7_code
def yX9_ones : MethodName := ⟨RX9, "ones", "(I)I"⟩
abbrev cX9_feed : ByteArray := prog_11_method_8_code
def yX9_feed : MethodName := ⟨RX9, "feed", "(JI)I"⟩
abbrev cX9_byteAt : ByteArray := prog_11_method_9_code
def yX9_byteAt : MethodName := ⟨RX9, "byteAt", "(I)I"⟩
abbrev cX9_isLetter : ByteArray := prog_11_method_10_code
def yX9_isLetter : MethodName := ⟨RX9, "isLetter", "(I)Z"⟩
abbrev cX9_isDigit : ByteArray := prog_11_method_11_code
def yX9_isDigit : MethodName := ⟨RX9, "isDigit", "(I)Z"⟩
abbrev cX9_advance : ByteArray := prog_11_method_12_code
def yX9_advance : MethodName := ⟨RX9, "advance", "()V"⟩
abbrev cX9_isWord : ByteArray := prog_11_method_13_code
def yX9_isWord : MethodName := ⟨RX9, "isWord", "(J)Z"⟩
abbrev cX9_isMark : ByteArray := prog_11_method_14_code
def yX9_isMark : MethodName := ⟨RX9, "isMark", "(I)Z"⟩
abbrev cX9_factHere : ByteArray := prog_11_method_15_code
def yX9_factHere : MethodName := ⟨RX9, "factHere", "()I"⟩
abbrev cX9_emit : ByteArray := prog_11_method_16_code
def yX9_emit : MethodName := ⟨RX9, "emit", "(I)V"⟩
abbrev cX9_pend : ByteArray := prog_11_method_17_code
def yX9_pend : MethodName := ⟨RX9, "pend", "(I)V"⟩
abbrev cX9_isTop : ByteArray := prog_11_method_18_code
def yX9_isTop : MethodName := ⟨RX9, "isTop", "(I)Z"⟩
abbrev cX9_settle : ByteArray := prog_11_method_19_code
def yX9_settle : MethodName := ⟨RX9, "settle", "(I)V"⟩
abbrev cX9_wantValue : ByteArray := prog_11_method_20_code
def yX9_wantValue : MethodName := ⟨RX9, "wantValue", "()V"⟩
abbrev cX9_wantCompared : ByteArray := prog_11_method_21_code
def yX9_wantCompared : MethodName := ⟨RX9, "wantCompared", "()V"⟩
abbrev cX9_wantCond : ByteArray := prog_11_method_22_code
def yX9_wantCond : MethodName := ⟨RX9, "wantCond", "(JJJ)V"⟩
abbrev cX9_isSo : ByteArray := prog_11_method_23_code
def yX9_isSo : MethodName := ⟨RX9, "isSo", "([III)Z"⟩
abbrev cX9_rules : ByteArray := prog_11_method_24_code
def yX9_rules : MethodName := ⟨RX9, "rules", "()I"⟩
abbrev cX9_size : ByteArray := prog_11_method_25_code
def yX9_size : MethodName := ⟨RX9, "size", "(II)I"⟩
abbrev cX9_person : ByteArray := prog_11_method_26_code
def yX9_person : MethodName := ⟨RX9, "person", "(IZ)I"⟩
abbrev cX9_isHubOne : ByteArray := prog_11_method_27_code
def yX9_isHubOne : MethodName := ⟨RX9, "isHubOne", "(I)Z"⟩
abbrev cX9_oneIn : ByteArray := prog_11_method_28_code
def yX9_oneIn : MethodName := ⟨RX9, "oneIn", "(II)I"⟩
abbrev cX9_placesOf : ByteArray := prog_11_method_29_code
def yX9_placesOf : MethodName := ⟨RX9, "placesOf", "(II)I"⟩
abbrev cX9_claimsOf : ByteArray := prog_11_method_30_code
def yX9_claimsOf : MethodName := ⟨RX9, "claimsOf", "(I)I"⟩
abbrev cX9_personOf : ByteArray := prog_11_method_31_code
def yX9_personOf : MethodName := ⟨RX9, "personOf", "(II)I"⟩
abbrev cX9_join : ByteArray := prog_11_method_32_code
def yX9_join : MethodName := ⟨RX9, "join", "(II)I"⟩
abbrev cX9_claim : ByteArray := prog_11_method_33_code
def yX9_claim : MethodName := ⟨RX9, "claim", "(IIIII)I"⟩
abbrev cX9_orNobody : ByteArray := prog_11_method_34_code
def yX9_orNobody : MethodName := ⟨RX9, "orNobody", "(I)I"⟩
abbrev cX9_claimOf : ByteArray := prog_11_method_35_code
def yX9_claimOf : MethodName := ⟨RX9, "claimOf", "(II)I"⟩
abbrev cX9_seat : ByteArray := prog_11_method_36_code
def yX9_seat : MethodName := ⟨RX9, "seat", "(III)I"⟩
abbrev cX9_set : ByteArray := prog_11_method_37_code
def yX9_set : MethodName := ⟨RX9, "set", "(II)I"⟩
abbrev cX9_weighs : ByteArray := prog_11_method_38_code
def yX9_weighs : MethodName := ⟨RX9, "weighs", "(II)I"⟩
abbrev cX9_strengthOf : ByteArray := prog_11_method_39_code
def yX9_strengthOf : MethodName := ⟨RX9, "strengthOf", "(II)I"⟩
abbrev cX9_tie : ByteArray := prog_11_method_40_code
def yX9_tie : MethodName := ⟨RX9, "tie", "(II)I"⟩
abbrev cX9_tiedTo : ByteArray := prog_11_method_41_code
def yX9_tiedTo : MethodName := ⟨RX9, "tiedTo", "(I)I"⟩
abbrev cX9_tied : ByteArray := prog_11_method_42_code
def yX9_tied : MethodName := ⟨RX9, "tied", "(I)I"⟩
abbrev cX9_hang : ByteArray := prog_11_method_43_code
def yX9_hang : MethodName := ⟨RX9, "hang", "(I)I"⟩
abbrev cX9_onesIn : ByteArray := prog_11_method_44_code
def yX9_onesIn : MethodName := ⟨RX9, "onesIn", "(I)I"⟩
abbrev cX9_steps : ByteArray := prog_11_method_45_code
def yX9_steps : MethodName := ⟨RX9, "steps", "(II)I"⟩
abbrev cX9_turned : ByteArray := prog_11_method_46_code
def yX9_turned : MethodName := ⟨RX9, "turned", "(I)I"⟩
abbrev cX9_findStrengths : ByteArray := prog_11_method_47_code
def yX9_findStrengths : MethodName := ⟨RX9, "findStrengths", "()V"⟩
abbrev cX9_scoreOf : ByteArray := prog_11_method_48_code
def yX9_scoreOf : MethodName := ⟨RX9, "scoreOf", "(I)I"⟩
abbrev cX9_isSet : ByteArray := prog_11_method_49_code
def yX9_isSet : MethodName := ⟨RX9, "isSet", "(I)Z"⟩
abbrev cX9_score : ByteArray := prog_11_method_50_code
def yX9_score : MethodName := ⟨RX9, "score", "(I)I"⟩
abbrev cX9_findLot : ByteArray := prog_11_method_51_code
def yX9_findLot : MethodName := ⟨RX9, "findLot", "()I"⟩
abbrev cX9_lot : ByteArray := prog_11_method_52_code
def yX9_lot : MethodName := ⟨RX9, "lot", "(I)I"⟩
abbrev cX9_seen : ByteArray := prog_11_method_53_code
def yX9_seen : MethodName := ⟨RX9, "seen", "(I)I"⟩
abbrev cX9_lotWithout : ByteArray := prog_11_method_54_code
def yX9_lotWithout : MethodName := ⟨RX9, "lotWithout", "(I)I"⟩
abbrev cX9_without : ByteArray := prog_11_method_55_code
def yX9_without : MethodName := ⟨RX9, "without", "(I)I"⟩
abbrev cX9_hold : ByteArray := prog_11_method_56_code
def yX9_hold : MethodName := ⟨RX9, "hold", "()I"⟩
abbrev cX9_lowest : ByteArray := prog_11_method_57_code
def yX9_lowest : MethodName := ⟨RX9, "lowest", "(JJ)V"⟩
abbrev cX9_odds : ByteArray := prog_11_method_58_code
def yX9_odds : MethodName := ⟨RX9, "odds", "(II)J"⟩
abbrev cX9_likelyOf : ByteArray := prog_11_method_59_code
def yX9_likelyOf : MethodName := ⟨RX9, "likelyOf", "(I)I"⟩
abbrev cX9_likely : ByteArray := prog_11_method_60_code
def yX9_likely : MethodName := ⟨RX9, "likely", "(I)I"⟩
abbrev cX9_peopleIn : ByteArray := prog_11_method_61_code
def yX9_peopleIn : MethodName := ⟨RX9, "peopleIn", "(I)I"⟩
abbrev cX9_best : ByteArray := prog_11_method_62_code
def yX9_best : MethodName := ⟨RX9, "best", "(I)I"⟩
abbrev cX9_saysOf : ByteArray := prog_11_method_63_code
def yX9_saysOf : MethodName := ⟨RX9, "saysOf", "(I)I"⟩
abbrev cX9_says : ByteArray := prog_11_method_64_code
def yX9_says : MethodName := ⟨RX9, "says", "(I)I"⟩
abbrev cX9_found : ByteArray := prog_11_method_65_code
def yX9_found : MethodName := ⟨RX9, "found", "(IIZ)I"⟩
abbrev cX9_rate : ByteArray := prog_11_method_66_code
def yX9_rate : MethodName := ⟨RX9, "rate", "(I)I"⟩
abbrev cX9_right : ByteArray := prog_11_method_67_code
def yX9_right : MethodName := ⟨RX9, "right", "(I)I"⟩
abbrev cX9_seed : ByteArray := prog_11_method_68_code
def yX9_seed : MethodName := ⟨RX9, "seed", "(I)I"⟩
abbrev cX9_foundMany : ByteArray := prog_11_method_69_code
def yX9_foundMany : MethodName := ⟨RX9, "foundMany", "()I"⟩
abbrev cX9_draw : ByteArray := prog_11_method_70_code
def yX9_draw : MethodName := ⟨RX9, "draw", "()I"⟩
abbrev cX9_findRows : ByteArray := prog_11_method_71_code
def yX9_findRows : MethodName := ⟨RX9, "findRows", "()Z"⟩
abbrev cX9_prove : ByteArray := prog_11_method_72_code
def yX9_prove : MethodName := ⟨RX9, "prove", "()I"⟩
abbrev cX9_isRow : ByteArray := prog_11_method_73_code
def yX9_isRow : MethodName := ⟨RX9, "isRow", "(II)Z"⟩
abbrev cX9_row : ByteArray := prog_11_method_74_code
def yX9_row : MethodName := ⟨RX9, "row", "(II)I"⟩
abbrev cX9_alterRow : ByteArray := prog_11_method_75_code
def yX9_alterRow : MethodName := ⟨RX9, "alterRow", "(III)I"⟩
abbrev cX9_judge : ByteArray := prog_11_method_76_code
def yX9_judge : MethodName := ⟨RX9, "judge", "()I"⟩
abbrev cX9_isShelf : ByteArray := prog_11_method_77_code
def yX9_isShelf : MethodName := ⟨RX9, "isShelf", "(I)Z"⟩
abbrev cX9_sheet : ByteArray := prog_11_method_78_code
def yX9_sheet : MethodName := ⟨RX9, "sheet", "(III)I"⟩
abbrev cX9_put : ByteArray := prog_11_method_79_code
def yX9_put : MethodName := ⟨RX9, "put", "(III)I"⟩
abbrev cX9_lacksSort : ByteArray := prog_11_method_80_code
def yX9_lacksSort : MethodName := ⟨RX9, "lacksSort", "(II)I"⟩
abbrev cX9_item : ByteArray := prog_11_method_81_code
def yX9_item : MethodName := ⟨RX9, "item", "(III)I"⟩
abbrev cX9_isHeld : ByteArray := prog_11_method_82_code
def yX9_isHeld : MethodName := ⟨RX9, "isHeld", "(II)Z"⟩
abbrev cX9_shelf : ByteArray := prog_11_method_83_code
def yX9_shelf : MethodName := ⟨RX9, "shelf", "(III)I"⟩
abbrev cX9_kindOn : ByteArray := prog_11_method_84_code
def yX9_kindOn : MethodName := ⟨RX9, "kindOn", "(I)I"⟩
abbrev cX9_isUnder : ByteArray := prog_11_method_85_code
def yX9_isUnder : MethodName := ⟨RX9, "isUnder", "(II)Z"⟩
abbrev cX9_taken : ByteArray := prog_11_method_86_code
def yX9_taken : MethodName := ⟨RX9, "taken", "(II)I"⟩
abbrev cX9_ran : ByteArray := prog_11_method_87_code
def yX9_ran : MethodName := ⟨RX9, "ran", "(I)V"⟩
abbrev cX9_plainHits : ByteArray := prog_11_method_88_code
def yX9_plainHits : MethodName := ⟨RX9, "plainHits", "(I)I"⟩
abbrev cX9_glassHits : ByteArray := prog_11_method_89_code
def yX9_glassHits : MethodName := ⟨RX9, "glassHits", "(I)I"⟩
abbrev cX9_hitsIt : ByteArray := prog_11_method_90_code
def yX9_hitsIt : MethodName := ⟨RX9, "hitsIt", "(I)I"⟩
abbrev cX9_plainPays : ByteArray := prog_11_method_91_code
def yX9_plainPays : MethodName := ⟨RX9, "plainPays", "(I)I"⟩
abbrev cX9_bumpPays : ByteArray := prog_11_method_92_code
def yX9_bumpPays : MethodName := ⟨RX9, "bumpPays", "(I)I"⟩
abbrev cX9_paysIt : ByteArray := prog_11_method_93_code
def yX9_paysIt : MethodName := ⟨RX9, "paysIt", "(I)I"⟩
abbrev cX9_plainShares : ByteArray := prog_11_method_94_code
def yX9_plainShares : MethodName := ⟨RX9, "plainShares", "(I)I"⟩
abbrev cX9_sharesIt : ByteArray := prog_11_method_95_code
def yX9_sharesIt : MethodName := ⟨RX9, "sharesIt", "(I)I"⟩
abbrev cX9_plainTells : ByteArray := prog_11_method_96_code
def yX9_plainTells : MethodName := ⟨RX9, "plainTells", "(I)I"⟩
abbrev cX9_tellsIt : ByteArray := prog_11_method_97_code
def yX9_tellsIt : MethodName := ⟨RX9, "tellsIt", "(I)I"⟩
abbrev cX9_act : ByteArray := prog_11_method_98_code
def yX9_act : MethodName := ⟨RX9, "act", "(III)I"⟩
abbrev cX9_trace : ByteArray := prog_11_method_99_code
def yX9_trace : MethodName := ⟨RX9, "trace", "(I)I"⟩
abbrev cX9_many : ByteArray := prog_11_method_100_code
def yX9_many : MethodName := ⟨RX9, "many", "(I)I"⟩
abbrev cX9_move : ByteArray := prog_11_method_101_code
def yX9_move : MethodName := ⟨RX9, "move", "([IIZ)V"⟩
abbrev cX9_moveAll : ByteArray := prog_11_method_102_code
def yX9_moveAll : MethodName := ⟨RX9, "moveAll", "(Z)V"⟩
abbrev cX9_keep : ByteArray := prog_11_method_103_code
def yX9_keep : MethodName := ⟨RX9, "keep", "()I"⟩
abbrev cX9_again : ByteArray := prog_11_method_104_code
def yX9_again : MethodName := ⟨RX9, "again", "()I"⟩
def RJ6 : String := "java/lang/Integer"
def TJ6 : u_T := fun k => match k with
  | _ => ("", "", "", false)
def tyJ6 : Nat → FieldType := fun k => match k with
  | _ => .int
abbrev wsJ60 : List Cond := u_ws RJ6 TJ6 0
theorem nmJ6 : ∀ a, a < 0 → ∀ b, b < 0 → a ≠ b → (TJ6 a).2.1 ≠ (TJ6 b).2.1 := by decide +kernel
theorem tyJ6_ok : ∀ k, k < 0 → parseFieldDescriptor (TJ6 k).2.2.1 = some (tyJ6 k) := by decide +kernel
abbrev cJ6_bitCount_0f7a4 : ByteArray := prog_12_method_49_code
def yJ6_bitCount_0f7a4 : MethodName := ⟨RJ6, "bitCount", "(I)I"⟩
def RJ9 : String := "java/lang/Math"
def TJ9 : u_T := fun k => match k with
  | _ => ("", "", "", false)
def tyJ9 : Nat → FieldType := fun k => match k with
  | _ => .int
abbrev wsJ90 : List Cond := u_ws RJ9 TJ9 0
theorem nmJ9 : ∀ a, a < 0 → ∀ b, b < 0 → a ≠ b → (TJ9 a).2.1 ≠ (TJ9 b).2.1 := by decide +kernel
theorem tyJ9_ok : ∀ k, k < 0 → parseFieldDescriptor (TJ9 k).2.2.1 = some (tyJ9 k) := by decide +kernel
abbrev cJ9_max_7cf53 : ByteArray := prog_13_method_65_code
def yJ9_max_7cf53 : MethodName := ⟨RJ9, "max", "(II)I"⟩
abbrev cJ9_min_7cf53 : ByteArray := prog_13_method_69_code
def yJ9_min_7cf53 : MethodName := ⟨RJ9, "min", "(II)I"⟩
def RJ0 : String := "java/lang/String"
def TJ0 : u_T := fun k => match k with
  | _ => ("", "", "", false)
def tyJ0 : Nat → FieldType := fun k => match k with
  | _ => .int
abbrev wsJ00 : List Cond := u_ws RJ0 TJ0 0
theorem nmJ0 : ∀ a, a < 0 → ∀ b, b < 0 → a ≠ b → (TJ0 a).2.1 ≠ (TJ0 b).2.1 := by decide +kernel
theorem tyJ0_ok : ∀ k, k < 0 → parseFieldDescriptor (TJ0 k).2.2.1 = some (tyJ0 k) := by decide +kernel
abbrev cJ0_length_8abf5 : ByteArray := prog_14_method_54_code
def yJ0_length_8abf5 : MethodName := ⟨RJ0, "length", "()I"⟩
abbrev cJ0_charAt_5068e : ByteArray := prog_14_method_56_code
def yJ0_charAt_5068e : MethodName := ⟨RJ0, "charAt", "(I)C"⟩
abbrev cJ0_coder_7d493 : ByteArray := prog_14_method_152_code
def yJ0_coder_7d493 : MethodName := ⟨RJ0, "coder", "()B"⟩
abbrev cJ0_isLatin1_aae02 : ByteArray := prog_14_method_154_code
def yJ0_isLatin1_aae02 : MethodName := ⟨RJ0, "isLatin1", "()Z"⟩
abbrev cJ0_checkIndex_df160 : ByteArray := prog_14_method_155_code
def yJ0_checkIndex_df160 : MethodName := ⟨RJ0, "checkIndex", "(II)V"⟩
def RJ1 : String := "java/lang/StringLatin1"
def TJ1 : u_T := fun k => match k with
  | _ => ("", "", "", false)
def tyJ1 : Nat → FieldType := fun k => match k with
  | _ => .int
abbrev wsJ10 : List Cond := u_ws RJ1 TJ1 0
theorem nmJ1 : ∀ a, a < 0 → ∀ b, b < 0 → a ≠ b → (TJ1 a).2.1 ≠ (TJ1 b).2.1 := by decide +kernel
theorem tyJ1_ok : ∀ k, k < 0 → parseFieldDescriptor (TJ1 k).2.2.1 = some (tyJ1 k) := by decide +kernel
abbrev cJ1_charAt_3b067 : ByteArray := prog_15_method_2_code
def yJ1_charAt_3b067 : MethodName := ⟨RJ1, "charAt", "([BI)C"⟩
def RJ2 : String := "java/lang/StringUTF16"
def TJ2 : u_T := fun k => match k with
  | _ => ("", "", "", false)
def tyJ2 : Nat → FieldType := fun k => match k with
  | _ => .int
abbrev wsJ20 : List Cond := u_ws RJ2 TJ2 0
theorem nmJ2 : ∀ a, a < 0 → ∀ b, b < 0 → a ≠ b → (TJ2 a).2.1 ≠ (TJ2 b).2.1 := by decide +kernel
theorem tyJ2_ok : ∀ k, k < 0 → parseFieldDescriptor (TJ2 k).2.2.1 = some (tyJ2 k) := by decide +kernel
abbrev cJ2_getChar_3b067 : ByteArray := prog_16_method_5_code
def yJ2_getChar_3b067 : MethodName := ⟨RJ2, "getChar", "([BI)C"⟩
abbrev cJ2_length_9d52b : ByteArray := prog_16_method_6_code
def yJ2_length_9d52b : MethodName := ⟨RJ2, "length", "([B)I"⟩
abbrev cJ2_charAt_3b067 : ByteArray := prog_16_method_83_code
def yJ2_charAt_3b067 : MethodName := ⟨RJ2, "charAt", "([BI)C"⟩
abbrev cJ2_checkIndex_2214a : ByteArray := prog_16_method_91_code
def yJ2_checkIndex_2214a : MethodName := ⟨RJ2, "checkIndex", "(I[B)V"⟩
def RJ10 : String := "java/lang/System"
def TJ10 : u_T := fun k => match k with
  | _ => ("", "", "", false)
def tyJ10 : Nat → FieldType := fun k => match k with
  | _ => .int
abbrev wsJ100 : List Cond := u_ws RJ10 TJ10 0
theorem nmJ10 : ∀ a, a < 0 → ∀ b, b < 0 → a ≠ b → (TJ10 a).2.1 ≠ (TJ10 b).2.1 := by decide +kernel
theorem tyJ10_ok : ∀ k, k < 0 → parseFieldDescriptor (TJ10 k).2.2.1 = some (tyJ10 k) := by decide +kernel
def RJ3 : String := "jdk/internal/util/Preconditions"
def TJ3 : u_T := fun k => match k with
  | _ => ("", "", "", false)
def tyJ3 : Nat → FieldType := fun k => match k with
  | _ => .int
abbrev wsJ30 : List Cond := u_ws RJ3 TJ3 0
theorem nmJ3 : ∀ a, a < 0 → ∀ b, b < 0 → a ≠ b → (TJ3 a).2.1 ≠ (TJ3 b).2.1 := by decide +kernel
theorem tyJ3_ok : ∀ k, k < 0 → parseFieldDescriptor (TJ3 k).2.2.1 = some (tyJ3 k) := by decide +kernel
abbrev cJ3_checkIndex_8e157 : ByteArray := prog_18_method_11_code
def yJ3_checkIndex_8e157 : MethodName := ⟨RJ3, "checkIndex", "(IILjava/util/function/BiFunction;)I"⟩
def RL : String := "CrashTiesLaw"
abbrev cL_law : ByteArray := code
def yL_law : MethodName := ⟨RL, "law", "([I)Z"⟩
abbrev vwCl : List vw_C := [(RX0, TX0, 13), (RX1, TX1, 5), (RX3, TX3, 6), (RX4, TX4, 8), (RX5, TX5, 2), (RX6, TX6, 6), (RX7, TX7, 4), (RX8, TX8, 10), (RX9, TX9, 56)]
/-! ===== the words that a landed proof uses: what of the tables bears a call, each by its place ===== -/
def AL : List Cond := lw_tbl.filter goodWord
theorem AL_in {w : Cond} (h : w ∈ AL) : w ∈ lw_tbl := (List.mem_filter.mp h).1
theorem AL_good : GoodIn AL AL := fun w h => ⟨h, good_of_word (List.mem_filter.mp h).2⟩
theorem AL_t {w : Cond} (h : w ∈ tables_1) (hg : goodWord w = true) : w ∈ AL := List.mem_filter.mpr ⟨List.mem_append_right _ h, hg⟩
theorem AL_s {w : Cond} (h : w ∈ k2_sels lw_privs) (hg : goodWord w = true) : w ∈ AL := List.mem_filter.mpr ⟨List.mem_append_left _ h, hg⟩
theorem AL_t1 {w : Cond} (h : w ∈ tables_1_1) (hg : goodWord w = true) : w ∈ AL := AL_t (List.mem_append_left _ h) hg
theorem AL_t2 {w : Cond} (h : w ∈ tables_1_2) (hg : goodWord w = true) : w ∈ AL := AL_t (List.mem_append_right _ (List.mem_append_left _ h)) hg
theorem AL_t3 {w : Cond} (h : w ∈ tables_1_3) (hg : goodWord w = true) : w ∈ AL := AL_t (List.mem_append_right _ (List.mem_append_right _ (List.mem_append_left _ h))) hg
theorem AL_t4 {w : Cond} (h : w ∈ tables_1_4) (hg : goodWord w = true) : w ∈ AL := AL_t (List.mem_append_right _ (List.mem_append_right _ (List.mem_append_right _ (List.mem_append_left _ h)))) hg
theorem AL_t5 {w : Cond} (h : w ∈ tables_1_5) (hg : goodWord w = true) : w ∈ AL := AL_t (List.mem_append_right _ (List.mem_append_right _ (List.mem_append_right _ (List.mem_append_right _ (List.mem_append_left _ h))))) hg
theorem AL_t6 {w : Cond} (h : w ∈ tables_1_6) (hg : goodWord w = true) : w ∈ AL := AL_t (List.mem_append_right _ (List.mem_append_right _ (List.mem_append_right _ (List.mem_append_right _ (List.mem_append_right _ (List.mem_append_left _ h)))))) hg
theorem AL_t7 {w : Cond} (h : w ∈ tables_1_7) (hg : goodWord w = true) : w ∈ AL := AL_t (List.mem_append_right _ (List.mem_append_right _ (List.mem_append_right _ (List.mem_append_right _ (List.mem_append_right _ (List.mem_append_right _ (h))))))) hg
theorem q_0 : Cond.classLink RL 7 RX8 ∈ AL := AL_t1 (List.mem_of_getElem? (i := 18) (by decide +kernel)) (by decide +kernel)
theorem q_1 : Cond.instantiable RX8 10 ∈ AL := AL_t1 (List.mem_of_getElem? (i := 19) (by decide +kernel)) (by decide +kernel)
theorem q_2 : Cond.initialized RX8 ∈ AL := AL_t1 (List.mem_of_getElem? (i := 1) (by decide +kernel)) (by decide +kernel)
theorem q_3 : Cond.classLink RL 10 RX9 ∈ AL := AL_t4 (List.mem_of_getElem? (i := 192) (by decide +kernel)) (by decide +kernel)
theorem q_4 : Cond.instantiable RX9 56 ∈ AL := AL_t4 (List.mem_of_getElem? (i := 193) (by decide +kernel)) (by decide +kernel)
theorem q_5 : Cond.initialized RX9 ∈ AL := AL_t1 (List.mem_of_getElem? (i := 9) (by decide +kernel)) (by decide +kernel)
theorem q_6 : Cond.constantLong RL 13 (4294967295) ∈ AL := AL_t7 (List.mem_of_getElem? (i := 74) (by decide +kernel)) (by decide +kernel)
theorem q_7 : Cond.methodLink RL 9 yX8_init ∈ AL := AL_t1 (List.mem_of_getElem? (i := 20) (by decide +kernel)) (by decide +kernel)
theorem q_8 : Cond.instanceMethod yX8_init ∈ AL := AL_t1 (List.mem_of_getElem? (i := 21) (by decide +kernel)) (by decide +kernel)
theorem q_9 : Cond.code yX8_init cX8_init 1 none ∈ AL := AL_t1 (List.mem_of_getElem? (i := 22) (by decide +kernel)) (by decide +kernel)
theorem q_10 : Cond.methodLink RX8 1 objectInit ∈ AL := AL_t1 (List.mem_of_getElem? (i := 23) (by decide +kernel)) (by decide +kernel)
theorem q_11 : Cond.instanceMethod objectInit ∈ AL := AL_t1 (List.mem_of_getElem? (i := 24) (by decide +kernel)) (by decide +kernel)
theorem q_12 : Cond.code objectInit ⟨#[0xb1]⟩ 1 none ∈ AL := AL_t1 (List.mem_of_getElem? (i := 25) (by decide +kernel)) (by decide +kernel)
theorem q_13 : Cond.classLink RX8 7 RX0 ∈ AL := AL_t1 (List.mem_of_getElem? (i := 26) (by decide +kernel)) (by decide +kernel)
theorem q_14 : Cond.instantiable RX0 13 ∈ AL := AL_t1 (List.mem_of_getElem? (i := 27) (by decide +kernel)) (by decide +kernel)
theorem q_15 : Cond.initialized RX0 ∈ AL := AL_t1 (List.mem_of_getElem? (i := 2) (by decide +kernel)) (by decide +kernel)
theorem q_16 : Cond.fieldLink RX8 10 "CrashTies" "book" "LCrashTies$Book;" ∈ AL := AL_t2 (List.mem_of_getElem? (i := 0) (by decide +kernel)) (by decide +kernel)
theorem q_17 : Cond.fieldLink RX8 16 "CrashTies" "kept" "LCrashTies$Book;" ∈ AL := AL_t2 (List.mem_of_getElem? (i := 1) (by decide +kernel)) (by decide +kernel)
theorem q_18 : Cond.fieldLink RX8 19 "CrashTies" "anyKept" "Z" ∈ AL := AL_t2 (List.mem_of_getElem? (i := 2) (by decide +kernel)) (by decide +kernel)
theorem q_19 : Cond.classLink RX8 23 RX7 ∈ AL := AL_t1 (List.mem_of_getElem? (i := 118) (by decide +kernel)) (by decide +kernel)
theorem q_20 : Cond.instantiable RX7 4 ∈ AL := AL_t1 (List.mem_of_getElem? (i := 119) (by decide +kernel)) (by decide +kernel)
theorem q_21 : Cond.initialized RX7 ∈ AL := AL_t1 (List.mem_of_getElem? (i := 4) (by decide +kernel)) (by decide +kernel)
theorem q_22 : Cond.fieldLink RX8 26 "CrashTies" "ties" "LCrashTies$Ties;" ∈ AL := AL_t2 (List.mem_of_getElem? (i := 3) (by decide +kernel)) (by decide +kernel)
theorem q_23 : Cond.classLink RX8 30 RX4 ∈ AL := AL_t1 (List.mem_of_getElem? (i := 137) (by decide +kernel)) (by decide +kernel)
theorem q_24 : Cond.instantiable RX4 8 ∈ AL := AL_t1 (List.mem_of_getElem? (i := 138) (by decide +kernel)) (by decide +kernel)
theorem q_25 : Cond.initialized RX4 ∈ AL := AL_t1 (List.mem_of_getElem? (i := 5) (by decide +kernel)) (by decide +kernel)
theorem q_26 : Cond.fieldLink RX8 33 "CrashTies" "reader" "LCrashTies$Reader;" ∈ AL := AL_t2 (List.mem_of_getElem? (i := 4) (by decide +kernel)) (by decide +kernel)
theorem q_27 : Cond.classLink RX8 37 RX5 ∈ AL := AL_t1 (List.mem_of_getElem? (i := 173) (by decide +kernel)) (by decide +kernel)
theorem q_28 : Cond.instantiable RX5 2 ∈ AL := AL_t1 (List.mem_of_getElem? (i := 174) (by decide +kernel)) (by decide +kernel)
theorem q_29 : Cond.initialized RX5 ∈ AL := AL_t1 (List.mem_of_getElem? (i := 6) (by decide +kernel)) (by decide +kernel)
theorem q_30 : Cond.fieldLink RX8 40 "CrashTies" "rows" "LCrashTies$Rows;" ∈ AL := AL_t2 (List.mem_of_getElem? (i := 5) (by decide +kernel)) (by decide +kernel)
theorem q_31 : Cond.fieldLink RX8 44 "CrashTies" "dueRows" "LCrashTies$Rows;" ∈ AL := AL_t2 (List.mem_of_getElem? (i := 6) (by decide +kernel)) (by decide +kernel)
theorem q_32 : Cond.classLink RX8 47 RX1 ∈ AL := AL_t1 (List.mem_of_getElem? (i := 188) (by decide +kernel)) (by decide +kernel)
theorem q_33 : Cond.instantiable RX1 5 ∈ AL := AL_t1 (List.mem_of_getElem? (i := 189) (by decide +kernel)) (by decide +kernel)
theorem q_34 : Cond.initialized RX1 ∈ AL := AL_t1 (List.mem_of_getElem? (i := 7) (by decide +kernel)) (by decide +kernel)
theorem q_35 : Cond.fieldLink RX8 50 "CrashTies" "host" "LCrashTies$Host;" ∈ AL := AL_t2 (List.mem_of_getElem? (i := 7) (by decide +kernel)) (by decide +kernel)
theorem q_36 : Cond.classLink RX8 54 RX3 ∈ AL := AL_t1 (List.mem_of_getElem? (i := 213) (by decide +kernel)) (by decide +kernel)
theorem q_37 : Cond.instantiable RX3 6 ∈ AL := AL_t1 (List.mem_of_getElem? (i := 214) (by decide +kernel)) (by decide +kernel)
theorem q_38 : Cond.initialized RX3 ∈ AL := AL_t1 (List.mem_of_getElem? (i := 8) (by decide +kernel)) (by decide +kernel)
theorem q_39 : Cond.fieldLink RX8 57 "CrashTies" "play" "LCrashTies$Play;" ∈ AL := AL_t2 (List.mem_of_getElem? (i := 8) (by decide +kernel)) (by decide +kernel)
theorem q_40 : Cond.arrayClass .int ∈ AL := AL_t1 (List.mem_of_getElem? (i := 60) (by decide +kernel)) (by decide +kernel)
theorem q_41 : Cond.fieldLink RX8 63 "CrashTies" "ruleFacts" "[I" ∈ AL := AL_t2 (List.mem_of_getElem? (i := 9) (by decide +kernel)) (by decide +kernel)
theorem q_42 : Cond.methodLink RX8 9 yX0_init ∈ AL := AL_t1 (List.mem_of_getElem? (i := 28) (by decide +kernel)) (by decide +kernel)
theorem q_43 : Cond.instanceMethod yX0_init ∈ AL := AL_t1 (List.mem_of_getElem? (i := 29) (by decide +kernel)) (by decide +kernel)
theorem q_44 : Cond.code yX0_init cX0_init 2 none ∈ AL := AL_t1 (List.mem_of_getElem? (i := 30) (by decide +kernel)) (by decide +kernel)
theorem q_45 : Cond.methodLink RX0 3 objectInit ∈ AL := AL_t1 (List.mem_of_getElem? (i := 31) (by decide +kernel)) (by decide +kernel)
theorem q_46 : Cond.fieldLink RX0 9 "CrashTies$Book" "sizes" "[I" ∈ AL := AL_t1 (List.mem_of_getElem? (i := 64) (by decide +kernel)) (by decide +kernel)
theorem q_47 : Cond.fieldLink RX0 15 "CrashTies$Book" "laws" "[I" ∈ AL := AL_t1 (List.mem_of_getElem? (i := 66) (by decide +kernel)) (by decide +kernel)
theorem q_48 : Cond.fieldLink RX0 18 "CrashTies$Book" "homes" "[I" ∈ AL := AL_t1 (List.mem_of_getElem? (i := 71) (by decide +kernel)) (by decide +kernel)
theorem q_49 : Cond.arrayClass .boolean ∈ AL := AL_t1 (List.mem_of_getElem? (i := 61) (by decide +kernel)) (by decide +kernel)
theorem q_50 : Cond.fieldLink RX0 21 "CrashTies$Book" "hubs" "[Z" ∈ AL := AL_t1 (List.mem_of_getElem? (i := 73) (by decide +kernel)) (by decide +kernel)
theorem q_51 : Cond.fieldLink RX0 25 "CrashTies$Book" "ones" "[I" ∈ AL := AL_t1 (List.mem_of_getElem? (i := 74) (by decide +kernel)) (by decide +kernel)
theorem q_52 : Cond.fieldLink RX0 28 "CrashTies$Book" "facts" "[I" ∈ AL := AL_t1 (List.mem_of_getElem? (i := 80) (by decide +kernel)) (by decide +kernel)
theorem q_53 : Cond.fieldLink RX0 31 "CrashTies$Book" "seats" "[I" ∈ AL := AL_t1 (List.mem_of_getElem? (i := 81) (by decide +kernel)) (by decide +kernel)
theorem q_54 : Cond.fieldLink RX0 34 "CrashTies$Book" "found" "[I" ∈ AL := AL_t1 (List.mem_of_getElem? (i := 83) (by decide +kernel)) (by decide +kernel)
theorem q_55 : Cond.fieldLink RX0 37 "CrashTies$Book" "byChance" "[Z" ∈ AL := AL_t1 (List.mem_of_getElem? (i := 85) (by decide +kernel)) (by decide +kernel)
theorem q_56 : Cond.classLink RX0 40 RX6 ∈ AL := AL_t1 (List.mem_of_getElem? (i := 32) (by decide +kernel)) (by decide +kernel)
theorem q_57 : Cond.instantiable RX6 6 ∈ AL := AL_t1 (List.mem_of_getElem? (i := 33) (by decide +kernel)) (by decide +kernel)
theorem q_58 : Cond.initialized RX6 ∈ AL := AL_t1 (List.mem_of_getElem? (i := 3) (by decide +kernel)) (by decide +kernel)
theorem q_59 : Cond.fieldLink RX0 43 "CrashTies$Book" "rules" "LCrashTies$Rules;" ∈ AL := AL_t1 (List.mem_of_getElem? (i := 87) (by decide +kernel)) (by decide +kernel)
theorem q_60 : Cond.fieldLink RX0 47 "CrashTies$Book" "z" "I" ∈ AL := AL_t1 (List.mem_of_getElem? (i := 89) (by decide +kernel)) (by decide +kernel)
theorem q_61 : Cond.instanceMethod yX6_init ∈ AL := AL_t1 (List.mem_of_getElem? (i := 35) (by decide +kernel)) (by decide +kernel)
theorem q_62 : Cond.code yX6_init cX6_init 1 none ∈ AL := AL_t1 (List.mem_of_getElem? (i := 36) (by decide +kernel)) (by decide +kernel)
theorem q_63 : Cond.methodLink RX6 3 objectInit ∈ AL := AL_t1 (List.mem_of_getElem? (i := 37) (by decide +kernel)) (by decide +kernel)
theorem q_64 : Cond.fieldLink RX6 9 "CrashTies$Rules" "codes" "[I" ∈ AL := AL_t1 (List.mem_of_getElem? (i := 38) (by decide +kernel)) (by decide +kernel)
theorem q_65 : Cond.fieldLink RX6 15 "CrashTies$Rules" "stack" "[I" ∈ AL := AL_t1 (List.mem_of_getElem? (i := 39) (by decide +kernel)) (by decide +kernel)
theorem q_66 : Cond.instanceMethod yX7_init ∈ AL := AL_t1 (List.mem_of_getElem? (i := 121) (by decide +kernel)) (by decide +kernel)
theorem q_67 : Cond.code yX7_init cX7_init 1 none ∈ AL := AL_t1 (List.mem_of_getElem? (i := 122) (by decide +kernel)) (by decide +kernel)
theorem q_68 : Cond.methodLink RX7 3 objectInit ∈ AL := AL_t1 (List.mem_of_getElem? (i := 123) (by decide +kernel)) (by decide +kernel)
theorem q_69 : Cond.fieldLink RX7 9 "CrashTies$Ties" "strengths" "[I" ∈ AL := AL_t1 (List.mem_of_getElem? (i := 124) (by decide +kernel)) (by decide +kernel)
theorem q_70 : Cond.fieldLink RX7 15 "CrashTies$Ties" "scores" "[I" ∈ AL := AL_t1 (List.mem_of_getElem? (i := 125) (by decide +kernel)) (by decide +kernel)
theorem q_71 : Cond.fieldLink RX7 18 "CrashTies$Ties" "hours" "[I" ∈ AL := AL_t1 (List.mem_of_getElem? (i := 126) (by decide +kernel)) (by decide +kernel)
theorem q_72 : Cond.fieldLink RX7 21 "CrashTies$Ties" "reached" "[I" ∈ AL := AL_t1 (List.mem_of_getElem? (i := 127) (by decide +kernel)) (by decide +kernel)
theorem q_73 : Cond.instanceMethod yX4_init ∈ AL := AL_t1 (List.mem_of_getElem? (i := 140) (by decide +kernel)) (by decide +kernel)
theorem q_74 : Cond.code yX4_init cX4_init 1 none ∈ AL := AL_t1 (List.mem_of_getElem? (i := 141) (by decide +kernel)) (by decide +kernel)
theorem q_75 : Cond.methodLink RX4 3 objectInit ∈ AL := AL_t1 (List.mem_of_getElem? (i := 142) (by decide +kernel)) (by decide +kernel)
theorem q_76 : Cond.fieldLink RX4 9 "CrashTies$Reader" "tape" "[I" ∈ AL := AL_t1 (List.mem_of_getElem? (i := 145) (by decide +kernel)) (by decide +kernel)
theorem q_77 : Cond.fieldLink RX4 15 "CrashTies$Reader" "tokens" "[I" ∈ AL := AL_t1 (List.mem_of_getElem? (i := 148) (by decide +kernel)) (by decide +kernel)
theorem q_78 : Cond.fieldLink RX4 18 "CrashTies$Reader" "starts" "[I" ∈ AL := AL_t1 (List.mem_of_getElem? (i := 149) (by decide +kernel)) (by decide +kernel)
theorem q_79 : Cond.classLink RX4 21 RX6 ∈ AL := AL_t1 (List.mem_of_getElem? (i := 143) (by decide +kernel)) (by decide +kernel)
theorem q_80 : Cond.fieldLink RX4 24 "CrashTies$Reader" "draft" "LCrashTies$Rules;" ∈ AL := AL_t1 (List.mem_of_getElem? (i := 152) (by decide +kernel)) (by decide +kernel)
theorem q_81 : Cond.instanceMethod yX5_init ∈ AL := AL_t1 (List.mem_of_getElem? (i := 176) (by decide +kernel)) (by decide +kernel)
theorem q_82 : Cond.code yX5_init cX5_init 1 none ∈ AL := AL_t1 (List.mem_of_getElem? (i := 177) (by decide +kernel)) (by decide +kernel)
theorem q_83 : Cond.methodLink RX5 3 objectInit ∈ AL := AL_t1 (List.mem_of_getElem? (i := 178) (by decide +kernel)) (by decide +kernel)
theorem q_84 : Cond.fieldLink RX5 11 "CrashTies$Rows" "entries" "[I" ∈ AL := AL_t1 (List.mem_of_getElem? (i := 179) (by decide +kernel)) (by decide +kernel)
theorem q_85 : Cond.methodLink RX8 49 yX1_init ∈ AL := AL_t1 (List.mem_of_getElem? (i := 190) (by decide +kernel)) (by decide +kernel)
theorem q_86 : Cond.instanceMethod yX1_init ∈ AL := AL_t1 (List.mem_of_getElem? (i := 191) (by decide +kernel)) (by decide +kernel)
theorem q_87 : Cond.code yX1_init cX1_init 2 none ∈ AL := AL_t1 (List.mem_of_getElem? (i := 192) (by decide +kernel)) (by decide +kernel)
theorem q_88 : Cond.methodLink RX1 1 objectInit ∈ AL := AL_t1 (List.mem_of_getElem? (i := 193) (by decide +kernel)) (by decide +kernel)
theorem q_89 : Cond.fieldLink RX1 9 "CrashTies$Host" "sorts" "[I" ∈ AL := AL_t1 (List.mem_of_getElem? (i := 194) (by decide +kernel)) (by decide +kernel)
theorem q_90 : Cond.fieldLink RX1 13 "CrashTies$Host" "lengths" "[I" ∈ AL := AL_t1 (List.mem_of_getElem? (i := 196) (by decide +kernel)) (by decide +kernel)
theorem q_91 : Cond.arrayClass .long ∈ AL := AL_t1 (List.mem_of_getElem? (i := 212) (by decide +kernel)) (by decide +kernel)
theorem q_92 : Cond.fieldLink RX1 16 "CrashTies$Host" "items" "[J" ∈ AL := AL_t1 (List.mem_of_getElem? (i := 197) (by decide +kernel)) (by decide +kernel)
theorem q_93 : Cond.fieldLink RX1 20 "CrashTies$Host" "held" "[I" ∈ AL := AL_t1 (List.mem_of_getElem? (i := 198) (by decide +kernel)) (by decide +kernel)
theorem q_94 : Cond.fieldLink RX1 23 "CrashTies$Host" "numbers" "[I" ∈ AL := AL_t1 (List.mem_of_getElem? (i := 199) (by decide +kernel)) (by decide +kernel)
theorem q_95 : Cond.instanceMethod yX3_init ∈ AL := AL_t1 (List.mem_of_getElem? (i := 216) (by decide +kernel)) (by decide +kernel)
theorem q_96 : Cond.code yX3_init cX3_init 1 none ∈ AL := AL_t1 (List.mem_of_getElem? (i := 217) (by decide +kernel)) (by decide +kernel)
theorem q_97 : Cond.methodLink RX3 3 objectInit ∈ AL := AL_t1 (List.mem_of_getElem? (i := 218) (by decide +kernel)) (by decide +kernel)
theorem q_98 : Cond.fieldLink RX3 11 "CrashTies$Play" "bodies" "[I" ∈ AL := AL_t1 (List.mem_of_getElem? (i := 219) (by decide +kernel)) (by decide +kernel)
theorem q_99 : Cond.methodLink RL 12 yX9_init ∈ AL := AL_t4 (List.mem_of_getElem? (i := 194) (by decide +kernel)) (by decide +kernel)
theorem q_100 : Cond.instanceMethod yX9_init ∈ AL := AL_t4 (List.mem_of_getElem? (i := 195) (by decide +kernel)) (by decide +kernel)
theorem q_101 : Cond.code yX9_init cX9_init 1 none ∈ AL := AL_t4 (List.mem_of_getElem? (i := 196) (by decide +kernel)) (by decide +kernel)
theorem q_102 : Cond.methodLink RX9 1 objectInit ∈ AL := AL_t4 (List.mem_of_getElem? (i := 197) (by decide +kernel)) (by decide +kernel)
theorem q_103 : Cond.fieldLink RX9 7 "CrashTiesModel" "sizeOf" "[I" ∈ AL := AL_t4 (List.mem_of_getElem? (i := 198) (by decide +kernel)) (by decide +kernel)
theorem q_104 : Cond.fieldLink RX9 13 "CrashTiesModel" "townOf" "[I" ∈ AL := AL_t4 (List.mem_of_getElem? (i := 200) (by decide +kernel)) (by decide +kernel)
theorem q_105 : Cond.fieldLink RX9 16 "CrashTiesModel" "isHub" "[I" ∈ AL := AL_t4 (List.mem_of_getElem? (i := 201) (by decide +kernel)) (by decide +kernel)
theorem q_106 : Cond.fieldLink RX9 19 "CrashTiesModel" "oneOf" "[I" ∈ AL := AL_t4 (List.mem_of_getElem? (i := 202) (by decide +kernel)) (by decide +kernel)
theorem q_107 : Cond.fieldLink RX9 22 "CrashTiesModel" "claim" "[I" ∈ AL := AL_t4 (List.mem_of_getElem? (i := 204) (by decide +kernel)) (by decide +kernel)
theorem q_108 : Cond.fieldLink RX9 25 "CrashTiesModel" "laws" "[I" ∈ AL := AL_t4 (List.mem_of_getElem? (i := 205) (by decide +kernel)) (by decide +kernel)
theorem q_109 : Cond.fieldLink RX9 28 "CrashTiesModel" "mostOf" "[I" ∈ AL := AL_t4 (List.mem_of_getElem? (i := 206) (by decide +kernel)) (by decide +kernel)
theorem q_110 : Cond.fieldLink RX9 31 "CrashTiesModel" "clause" "[I" ∈ AL := AL_t4 (List.mem_of_getElem? (i := 208) (by decide +kernel)) (by decide +kernel)
theorem q_111 : Cond.fieldLink RX9 34 "CrashTiesModel" "signs" "[I" ∈ AL := AL_t4 (List.mem_of_getElem? (i := 209) (by decide +kernel)) (by decide +kernel)
theorem q_112 : Cond.fieldLink RX9 37 "CrashTiesModel" "z" "I" ∈ AL := AL_t4 (List.mem_of_getElem? (i := 210) (by decide +kernel)) (by decide +kernel)
theorem q_113 : Cond.fieldLink RX9 41 "CrashTiesModel" "tape" "[I" ∈ AL := AL_t4 (List.mem_of_getElem? (i := 211) (by decide +kernel)) (by decide +kernel)
theorem q_114 : Cond.fieldLink RX9 44 "CrashTiesModel" "facts" "[I" ∈ AL := AL_t4 (List.mem_of_getElem? (i := 219) (by decide +kernel)) (by decide +kernel)
theorem q_115 : Cond.fieldLink RX9 47 "CrashTiesModel" "fresh" "[I" ∈ AL := AL_t4 (List.mem_of_getElem? (i := 220) (by decide +kernel)) (by decide +kernel)
theorem q_116 : Cond.fieldLink RX9 50 "CrashTiesModel" "pending" "[I" ∈ AL := AL_t4 (List.mem_of_getElem? (i := 221) (by decide +kernel)) (by decide +kernel)
theorem q_117 : Cond.fieldLink RX9 53 "CrashTiesModel" "pile" "[Z" ∈ AL := AL_t4 (List.mem_of_getElem? (i := 225) (by decide +kernel)) (by decide +kernel)
theorem q_118 : Cond.fieldLink RX9 57 "CrashTiesModel" "freshClause" "[I" ∈ AL := AL_t4 (List.mem_of_getElem? (i := 226) (by decide +kernel)) (by decide +kernel)
theorem q_119 : Cond.fieldLink RX9 60 "CrashTiesModel" "strength" "[I" ∈ AL := AL_t4 (List.mem_of_getElem? (i := 227) (by decide +kernel)) (by decide +kernel)
theorem q_120 : Cond.fieldLink RX9 63 "CrashTiesModel" "often" "[J" ∈ AL := AL_t4 (List.mem_of_getElem? (i := 231) (by decide +kernel)) (by decide +kernel)
theorem q_121 : Cond.fieldLink RX9 67 "CrashTiesModel" "hours" "[I" ∈ AL := AL_t4 (List.mem_of_getElem? (i := 232) (by decide +kernel)) (by decide +kernel)
theorem q_122 : Cond.fieldLink RX9 70 "CrashTiesModel" "worth" "[I" ∈ AL := AL_t4 (List.mem_of_getElem? (i := 233) (by decide +kernel)) (by decide +kernel)
theorem q_123 : Cond.fieldLink RX9 73 "CrashTiesModel" "rows" "[I" ∈ AL := AL_t4 (List.mem_of_getElem? (i := 234) (by decide +kernel)) (by decide +kernel)
theorem q_124 : Cond.fieldLink RX9 76 "CrashTiesModel" "must" "[I" ∈ AL := AL_t4 (List.mem_of_getElem? (i := 235) (by decide +kernel)) (by decide +kernel)
theorem q_125 : Cond.fieldLink RX9 79 "CrashTiesModel" "sorts" "[I" ∈ AL := AL_t4 (List.mem_of_getElem? (i := 238) (by decide +kernel)) (by decide +kernel)
theorem q_126 : Cond.fieldLink RX9 82 "CrashTiesModel" "sizes" "[I" ∈ AL := AL_t4 (List.mem_of_getElem? (i := 239) (by decide +kernel)) (by decide +kernel)
theorem q_127 : Cond.fieldLink RX9 85 "CrashTiesModel" "sheets" "[J" ∈ AL := AL_t5 (List.mem_of_getElem? (i := 0) (by decide +kernel)) (by decide +kernel)
theorem q_128 : Cond.fieldLink RX9 88 "CrashTiesModel" "held" "[I" ∈ AL := AL_t5 (List.mem_of_getElem? (i := 1) (by decide +kernel)) (by decide +kernel)
theorem q_129 : Cond.fieldLink RX9 91 "CrashTiesModel" "heldNumber" "[I" ∈ AL := AL_t5 (List.mem_of_getElem? (i := 2) (by decide +kernel)) (by decide +kernel)
theorem q_130 : Cond.fieldLink RX9 94 "CrashTiesModel" "heldSize" "[I" ∈ AL := AL_t5 (List.mem_of_getElem? (i := 3) (by decide +kernel)) (by decide +kernel)
theorem q_131 : Cond.fieldLink RX9 97 "CrashTiesModel" "traced" "[I" ∈ AL := AL_t5 (List.mem_of_getElem? (i := 7) (by decide +kernel)) (by decide +kernel)
theorem q_132 : Cond.fieldLink RX9 100 "CrashTiesModel" "kept" "[I" ∈ AL := AL_t5 (List.mem_of_getElem? (i := 11) (by decide +kernel)) (by decide +kernel)
theorem q_133 : Cond.fieldLink RX9 103 "CrashTiesModel" "single" "[I" ∈ AL := AL_t5 (List.mem_of_getElem? (i := 13) (by decide +kernel)) (by decide +kernel)
theorem q_134 : Cond.methodLink RL 15 yX8_feed ∈ AL := AL_t2 (List.mem_of_getElem? (i := 31) (by decide +kernel)) (by decide +kernel)
theorem q_135 : Cond.instanceMethod yX8_feed ∈ AL := AL_t2 (List.mem_of_getElem? (i := 32) (by decide +kernel)) (by decide +kernel)
theorem q_136 : Cond.selects RX8 yX8_feed yX8_feed ∈ AL := AL_t2 (List.mem_of_getElem? (i := 33) (by decide +kernel)) (by decide +kernel)
theorem q_137 : Cond.code yX8_feed cX8_feed 5 (some .int) ∈ AL := AL_t2 (List.mem_of_getElem? (i := 34) (by decide +kernel)) (by decide +kernel)
theorem q_138 : Cond.fieldLink RX8 67 "CrashTies$Reader" "length" "I" ∈ AL := AL_t1 (List.mem_of_getElem? (i := 147) (by decide +kernel)) (by decide +kernel)
theorem q_139 : Cond.methodLink RX8 71 yX4_append ∈ AL := AL_t2 (List.mem_of_getElem? (i := 35) (by decide +kernel)) (by decide +kernel)
theorem q_140 : Cond.instanceMethod yX4_append ∈ AL := AL_t2 (List.mem_of_getElem? (i := 36) (by decide +kernel)) (by decide +kernel)
theorem q_141 : Cond.selects RX4 yX4_append yX4_append ∈ AL := AL_t2 (List.mem_of_getElem? (i := 37) (by decide +kernel)) (by decide +kernel)
theorem q_142 : Cond.code yX4_append cX4_append 2 none ∈ AL := AL_t2 (List.mem_of_getElem? (i := 38) (by decide +kernel)) (by decide +kernel)
theorem q_143 : Cond.fieldLink RX4 28 "CrashTies$Reader" "length" "I" ∈ AL := AL_t1 (List.mem_of_getElem? (i := 146) (by decide +kernel)) (by decide +kernel)
theorem q_144 : Cond.methodLink RL 19 yX9_feed ∈ AL := AL_t5 (List.mem_of_getElem? (i := 127) (by decide +kernel)) (by decide +kernel)
theorem q_145 : Cond.instanceMethod yX9_feed ∈ AL := AL_t5 (List.mem_of_getElem? (i := 128) (by decide +kernel)) (by decide +kernel)
theorem q_146 : Cond.selects RX9 yX9_feed yX9_feed ∈ AL := AL_t5 (List.mem_of_getElem? (i := 129) (by decide +kernel)) (by decide +kernel)
theorem q_147 : Cond.code yX9_feed cX9_feed 5 (some .int) ∈ AL := AL_t5 (List.mem_of_getElem? (i := 130) (by decide +kernel)) (by decide +kernel)
theorem q_148 : Cond.fieldLink RX9 116 "CrashTiesModel" "tapeMany" "I" ∈ AL := AL_t4 (List.mem_of_getElem? (i := 212) (by decide +kernel)) (by decide +kernel)
theorem q_149 : Cond.constantLong RX9 119 (255) ∈ AL := AL_t5 (List.mem_of_getElem? (i := 134) (by decide +kernel)) (by decide +kernel)
theorem q_150 : Cond.methodLink RX9 109 yX9_in ∈ AL := AL_t5 (List.mem_of_getElem? (i := 131) (by decide +kernel)) (by decide +kernel)
theorem q_151 : Cond.static yX9_in ∈ AL := AL_t5 (List.mem_of_getElem? (i := 132) (by decide +kernel)) (by decide +kernel)
theorem q_152 : Cond.code yX9_in cX9_in 3 (some .boolean) ∈ AL := AL_t5 (List.mem_of_getElem? (i := 133) (by decide +kernel)) (by decide +kernel)
theorem q_153 : Cond.methodLink RL 20 yX8_rules ∈ AL := AL_t2 (List.mem_of_getElem? (i := 39) (by decide +kernel)) (by decide +kernel)
theorem q_154 : Cond.instanceMethod yX8_rules ∈ AL := AL_t2 (List.mem_of_getElem? (i := 40) (by decide +kernel)) (by decide +kernel)
theorem q_155 : Cond.selects RX8 yX8_rules yX8_rules ∈ AL := AL_t2 (List.mem_of_getElem? (i := 41) (by decide +kernel)) (by decide +kernel)
theorem q_156 : Cond.code yX8_rules cX8_rules 2 (some .int) ∈ AL := AL_t2 (List.mem_of_getElem? (i := 42) (by decide +kernel)) (by decide +kernel)
theorem q_157 : Cond.fieldLink RX8 79 "CrashTies$Reader" "fault" "I" ∈ AL := AL_t1 (List.mem_of_getElem? (i := 154) (by decide +kernel)) (by decide +kernel)
theorem q_158 : Cond.fieldLink RX8 82 "CrashTies$Book" "rules" "LCrashTies$Rules;" ∈ AL := AL_t1 (List.mem_of_getElem? (i := 88) (by decide +kernel)) (by decide +kernel)
theorem q_159 : Cond.fieldLink RX8 86 "CrashTies$Reader" "draft" "LCrashTies$Rules;" ∈ AL := AL_t1 (List.mem_of_getElem? (i := 153) (by decide +kernel)) (by decide +kernel)
theorem q_160 : Cond.fieldLink RX8 93 "CrashTies$Rules" "clauses" "I" ∈ AL := AL_t1 (List.mem_of_getElem? (i := 44) (by decide +kernel)) (by decide +kernel)
theorem q_161 : Cond.methodLink RX8 75 yX4_readText ∈ AL := AL_t2 (List.mem_of_getElem? (i := 43) (by decide +kernel)) (by decide +kernel)
theorem q_162 : Cond.instanceMethod yX4_readText ∈ AL := AL_t2 (List.mem_of_getElem? (i := 44) (by decide +kernel)) (by decide +kernel)
theorem q_163 : Cond.selects RX4 yX4_readText yX4_readText ∈ AL := AL_t2 (List.mem_of_getElem? (i := 45) (by decide +kernel)) (by decide +kernel)
theorem q_164 : Cond.code yX4_readText cX4_readText 2 (some .boolean) ∈ AL := AL_t2 (List.mem_of_getElem? (i := 46) (by decide +kernel)) (by decide +kernel)
theorem q_165 : Cond.fieldLink RX4 35 "CrashTies$Rules" "count" "I" ∈ AL := AL_t1 (List.mem_of_getElem? (i := 41) (by decide +kernel)) (by decide +kernel)
theorem q_166 : Cond.fieldLink RX4 38 "CrashTies$Rules" "clauses" "I" ∈ AL := AL_t1 (List.mem_of_getElem? (i := 43) (by decide +kernel)) (by decide +kernel)
theorem q_167 : Cond.fieldLink RX4 41 "CrashTies$Reader" "at" "I" ∈ AL := AL_t1 (List.mem_of_getElem? (i := 151) (by decide +kernel)) (by decide +kernel)
theorem q_168 : Cond.fieldLink RX4 44 "CrashTies$Reader" "fault" "I" ∈ AL := AL_t1 (List.mem_of_getElem? (i := 155) (by decide +kernel)) (by decide +kernel)
theorem q_169 : Cond.methodLink RX4 32 yX4_cut ∈ AL := AL_t2 (List.mem_of_getElem? (i := 47) (by decide +kernel)) (by decide +kernel)
theorem q_170 : Cond.instanceMethod yX4_cut ∈ AL := AL_t2 (List.mem_of_getElem? (i := 49) (by decide +kernel)) (by decide +kernel)
theorem q_171 : Cond.selects RX4 yX4_cut yX4_cut ∈ AL := AL_s (List.mem_of_getElem? (i := 0) (by decide +kernel)) (by decide +kernel)
theorem q_172 : Cond.code yX4_cut cX4_cut 4 none ∈ AL := AL_t2 (List.mem_of_getElem? (i := 50) (by decide +kernel)) (by decide +kernel)
theorem q_173 : Cond.fieldLink RX4 81 "CrashTies$Reader" "count" "I" ∈ AL := AL_t1 (List.mem_of_getElem? (i := 150) (by decide +kernel)) (by decide +kernel)
theorem q_174 : Cond.methodLink RX4 82 yX4_sortAt ∈ AL := AL_t2 (List.mem_of_getElem? (i := 51) (by decide +kernel)) (by decide +kernel)
theorem q_175 : Cond.instanceMethod yX4_sortAt ∈ AL := AL_t2 (List.mem_of_getElem? (i := 53) (by decide +kernel)) (by decide +kernel)
theorem q_176 : Cond.selects RX4 yX4_sortAt yX4_sortAt ∈ AL := AL_s (List.mem_of_getElem? (i := 1) (by decide +kernel)) (by decide +kernel)
theorem q_177 : Cond.code yX4_sortAt cX4_sortAt 3 (some .int) ∈ AL := AL_t2 (List.mem_of_getElem? (i := 54) (by decide +kernel)) (by decide +kernel)
theorem q_178 : Cond.methodLink RX4 86 yX4_byteAt ∈ AL := AL_t2 (List.mem_of_getElem? (i := 55) (by decide +kernel)) (by decide +kernel)
theorem q_179 : Cond.instanceMethod yX4_byteAt ∈ AL := AL_t2 (List.mem_of_getElem? (i := 57) (by decide +kernel)) (by decide +kernel)
theorem q_180 : Cond.selects RX4 yX4_byteAt yX4_byteAt ∈ AL := AL_s (List.mem_of_getElem? (i := 2) (by decide +kernel)) (by decide +kernel)
theorem q_181 : Cond.code yX4_byteAt cX4_byteAt 2 (some .int) ∈ AL := AL_t2 (List.mem_of_getElem? (i := 58) (by decide +kernel)) (by decide +kernel)
theorem q_182 : Cond.methodLink RX4 89 yX4_tokenOf ∈ AL := AL_t2 (List.mem_of_getElem? (i := 59) (by decide +kernel)) (by decide +kernel)
theorem q_183 : Cond.instanceMethod yX4_tokenOf ∈ AL := AL_t2 (List.mem_of_getElem? (i := 61) (by decide +kernel)) (by decide +kernel)
theorem q_184 : Cond.selects RX4 yX4_tokenOf yX4_tokenOf ∈ AL := AL_s (List.mem_of_getElem? (i := 3) (by decide +kernel)) (by decide +kernel)
theorem q_185 : Cond.code yX4_tokenOf cX4_tokenOf 4 (some .int) ∈ AL := AL_t2 (List.mem_of_getElem? (i := 62) (by decide +kernel)) (by decide +kernel)
theorem q_186 : Cond.methodLink RX4 97 yX4_nameToken ∈ AL := AL_t2 (List.mem_of_getElem? (i := 63) (by decide +kernel)) (by decide +kernel)
theorem q_187 : Cond.instanceMethod yX4_nameToken ∈ AL := AL_t2 (List.mem_of_getElem? (i := 65) (by decide +kernel)) (by decide +kernel)
theorem q_188 : Cond.selects RX4 yX4_nameToken yX4_nameToken ∈ AL := AL_s (List.mem_of_getElem? (i := 4) (by decide +kernel)) (by decide +kernel)
theorem q_189 : Cond.code yX4_nameToken cX4_nameToken 3 (some .int) ∈ AL := AL_t2 (List.mem_of_getElem? (i := 66) (by decide +kernel)) (by decide +kernel)
theorem q_190 : Cond.methodLink RX4 106 yX4_isName ∈ AL := AL_t2 (List.mem_of_getElem? (i := 68) (by decide +kernel)) (by decide +kernel)
theorem q_191 : Cond.instanceMethod yX4_isName ∈ AL := AL_t2 (List.mem_of_getElem? (i := 70) (by decide +kernel)) (by decide +kernel)
theorem q_192 : Cond.selects RX4 yX4_isName yX4_isName ∈ AL := AL_s (List.mem_of_getElem? (i := 5) (by decide +kernel)) (by decide +kernel)
theorem q_193 : Cond.code yX4_isName cX4_isName 5 (some .boolean) ∈ AL := AL_t2 (List.mem_of_getElem? (i := 71) (by decide +kernel)) (by decide +kernel)
theorem q_194 : Cond.methodLink RX4 132 yJ0_length_8abf5 ∈ AL := AL_t2 (List.mem_of_getElem? (i := 72) (by decide +kernel)) (by decide +kernel)
theorem q_195 : Cond.instanceMethod yJ0_length_8abf5 ∈ AL := AL_t2 (List.mem_of_getElem? (i := 73) (by decide +kernel)) (by decide +kernel)
theorem q_196 : Cond.selects RJ0 yJ0_length_8abf5 yJ0_length_8abf5 ∈ AL := AL_t2 (List.mem_of_getElem? (i := 74) (by decide +kernel)) (by decide +kernel)
theorem q_197 : Cond.initialized RJ0 ∈ AL := AL_t1 (List.mem_of_getElem? (i := 10) (by decide +kernel)) (by decide +kernel)
theorem q_198 : Cond.code yJ0_length_8abf5 cJ0_length_8abf5 1 (some .int) ∈ AL := AL_t2 (List.mem_of_getElem? (i := 75) (by decide +kernel)) (by decide +kernel)
theorem q_199 : Cond.fieldLink RJ0 9 "java/lang/String" "value" "[B" ∈ AL := AL_t7 (List.mem_of_getElem? (i := 75) (by decide +kernel)) (by decide +kernel)
theorem q_200 : Cond.methodLink RJ0 335 yJ0_coder_7d493 ∈ AL := AL_t2 (List.mem_of_getElem? (i := 76) (by decide +kernel)) (by decide +kernel)
theorem q_201 : Cond.instanceMethod yJ0_coder_7d493 ∈ AL := AL_t2 (List.mem_of_getElem? (i := 77) (by decide +kernel)) (by decide +kernel)
theorem q_202 : Cond.selects RJ0 yJ0_coder_7d493 yJ0_coder_7d493 ∈ AL := AL_t2 (List.mem_of_getElem? (i := 78) (by decide +kernel)) (by decide +kernel)
theorem q_203 : Cond.code yJ0_coder_7d493 cJ0_coder_7d493 1 (some .byte) ∈ AL := AL_t2 (List.mem_of_getElem? (i := 79) (by decide +kernel)) (by decide +kernel)
theorem q_204 : Cond.fieldLink RJ0 38 "java/lang/String" "COMPACT_STRINGS" "Z" ∈ AL := AL_t2 (List.mem_of_getElem? (i := 80) (by decide +kernel)) (by decide +kernel)
theorem q_205 : Cond.fieldLink RJ0 15 "java/lang/String" "coder" "B" ∈ AL := AL_t7 (List.mem_of_getElem? (i := 76) (by decide +kernel)) (by decide +kernel)
theorem q_206 : Cond.methodLink RX4 136 yJ0_charAt_5068e ∈ AL := AL_t2 (List.mem_of_getElem? (i := 82) (by decide +kernel)) (by decide +kernel)
theorem q_207 : Cond.instanceMethod yJ0_charAt_5068e ∈ AL := AL_t2 (List.mem_of_getElem? (i := 83) (by decide +kernel)) (by decide +kernel)
theorem q_208 : Cond.selects RJ0 yJ0_charAt_5068e yJ0_charAt_5068e ∈ AL := AL_t2 (List.mem_of_getElem? (i := 84) (by decide +kernel)) (by decide +kernel)
theorem q_209 : Cond.code yJ0_charAt_5068e cJ0_charAt_5068e 2 (some .char) ∈ AL := AL_t2 (List.mem_of_getElem? (i := 85) (by decide +kernel)) (by decide +kernel)
theorem q_210 : Cond.methodLink RJ0 492 yJ0_isLatin1_aae02 ∈ AL := AL_t2 (List.mem_of_getElem? (i := 86) (by decide +kernel)) (by decide +kernel)
theorem q_211 : Cond.instanceMethod yJ0_isLatin1_aae02 ∈ AL := AL_t2 (List.mem_of_getElem? (i := 87) (by decide +kernel)) (by decide +kernel)
theorem q_212 : Cond.selects RJ0 yJ0_isLatin1_aae02 yJ0_isLatin1_aae02 ∈ AL := AL_t2 (List.mem_of_getElem? (i := 88) (by decide +kernel)) (by decide +kernel)
theorem q_213 : Cond.code yJ0_isLatin1_aae02 cJ0_isLatin1_aae02 1 (some .boolean) ∈ AL := AL_t2 (List.mem_of_getElem? (i := 89) (by decide +kernel)) (by decide +kernel)
theorem q_214 : Cond.methodLink RJ0 495 yJ1_charAt_3b067 ∈ AL := AL_t2 (List.mem_of_getElem? (i := 90) (by decide +kernel)) (by decide +kernel)
theorem q_215 : Cond.static yJ1_charAt_3b067 ∈ AL := AL_t2 (List.mem_of_getElem? (i := 91) (by decide +kernel)) (by decide +kernel)
theorem q_216 : Cond.initialized RJ1 ∈ AL := AL_t1 (List.mem_of_getElem? (i := 11) (by decide +kernel)) (by decide +kernel)
theorem q_217 : Cond.code yJ1_charAt_3b067 cJ1_charAt_3b067 2 (some .char) ∈ AL := AL_t2 (List.mem_of_getElem? (i := 92) (by decide +kernel)) (by decide +kernel)
theorem q_218 : Cond.methodLink RJ1 9 yJ0_checkIndex_df160 ∈ AL := AL_t2 (List.mem_of_getElem? (i := 93) (by decide +kernel)) (by decide +kernel)
theorem q_219 : Cond.static yJ0_checkIndex_df160 ∈ AL := AL_t2 (List.mem_of_getElem? (i := 94) (by decide +kernel)) (by decide +kernel)
theorem q_220 : Cond.code yJ0_checkIndex_df160 cJ0_checkIndex_df160 2 none ∈ AL := AL_t2 (List.mem_of_getElem? (i := 95) (by decide +kernel)) (by decide +kernel)
theorem q_221 : Cond.fieldLink RJ0 1053 "jdk/internal/util/Preconditions" "SIOOBE_FORMATTER" "Ljava/util/function/BiFunction;" ∈ AL := AL_t2 (List.mem_of_getElem? (i := 96) (by decide +kernel)) (by decide +kernel)
theorem q_222 : Cond.methodLink RJ0 1059 yJ3_checkIndex_8e157 ∈ AL := AL_t2 (List.mem_of_getElem? (i := 98) (by decide +kernel)) (by decide +kernel)
theorem q_223 : Cond.static yJ3_checkIndex_8e157 ∈ AL := AL_t2 (List.mem_of_getElem? (i := 99) (by decide +kernel)) (by decide +kernel)
theorem q_224 : Cond.initialized RJ3 ∈ AL := AL_t1 (List.mem_of_getElem? (i := 12) (by decide +kernel)) (by decide +kernel)
theorem q_225 : Cond.code yJ3_checkIndex_8e157 cJ3_checkIndex_8e157 3 (some .int) ∈ AL := AL_t2 (List.mem_of_getElem? (i := 100) (by decide +kernel)) (by decide +kernel)
theorem q_226 : Cond.methodLink RJ0 498 yJ2_charAt_3b067 ∈ AL := AL_t2 (List.mem_of_getElem? (i := 101) (by decide +kernel)) (by decide +kernel)
theorem q_227 : Cond.static yJ2_charAt_3b067 ∈ AL := AL_t2 (List.mem_of_getElem? (i := 102) (by decide +kernel)) (by decide +kernel)
theorem q_228 : Cond.initialized RJ2 ∈ AL := AL_t1 (List.mem_of_getElem? (i := 13) (by decide +kernel)) (by decide +kernel)
theorem q_229 : Cond.code yJ2_charAt_3b067 cJ2_charAt_3b067 2 (some .char) ∈ AL := AL_t2 (List.mem_of_getElem? (i := 103) (by decide +kernel)) (by decide +kernel)
theorem q_230 : Cond.methodLink RJ2 67 yJ2_checkIndex_2214a ∈ AL := AL_t2 (List.mem_of_getElem? (i := 104) (by decide +kernel)) (by decide +kernel)
theorem q_231 : Cond.static yJ2_checkIndex_2214a ∈ AL := AL_t2 (List.mem_of_getElem? (i := 105) (by decide +kernel)) (by decide +kernel)
theorem q_232 : Cond.code yJ2_checkIndex_2214a cJ2_checkIndex_2214a 2 none ∈ AL := AL_t2 (List.mem_of_getElem? (i := 106) (by decide +kernel)) (by decide +kernel)
theorem q_233 : Cond.methodLink RJ2 48 yJ2_length_9d52b ∈ AL := AL_t2 (List.mem_of_getElem? (i := 107) (by decide +kernel)) (by decide +kernel)
theorem q_234 : Cond.static yJ2_length_9d52b ∈ AL := AL_t2 (List.mem_of_getElem? (i := 108) (by decide +kernel)) (by decide +kernel)
theorem q_235 : Cond.code yJ2_length_9d52b cJ2_length_9d52b 1 (some .int) ∈ AL := AL_t2 (List.mem_of_getElem? (i := 109) (by decide +kernel)) (by decide +kernel)
theorem q_236 : Cond.methodLink RJ2 414 yJ0_checkIndex_df160 ∈ AL := AL_t2 (List.mem_of_getElem? (i := 110) (by decide +kernel)) (by decide +kernel)
theorem q_237 : Cond.methodLink RJ2 71 yJ2_getChar_3b067 ∈ AL := AL_t2 (List.mem_of_getElem? (i := 111) (by decide +kernel)) (by decide +kernel)
theorem q_238 : Cond.static yJ2_getChar_3b067 ∈ AL := AL_t2 (List.mem_of_getElem? (i := 112) (by decide +kernel)) (by decide +kernel)
theorem q_239 : Cond.code yJ2_getChar_3b067 cJ2_getChar_3b067 2 (some .char) ∈ AL := AL_t2 (List.mem_of_getElem? (i := 113) (by decide +kernel)) (by decide +kernel)
theorem q_240 : Cond.fieldLink RJ2 44 "java/lang/StringUTF16" "$assertionsDisabled" "Z" ∈ AL := AL_t2 (List.mem_of_getElem? (i := 114) (by decide +kernel)) (by decide +kernel)
theorem q_241 : Cond.fieldLink RJ2 59 "java/lang/StringUTF16" "HI_BYTE_SHIFT" "I" ∈ AL := AL_t2 (List.mem_of_getElem? (i := 116) (by decide +kernel)) (by decide +kernel)
theorem q_242 : Cond.fieldLink RJ2 63 "java/lang/StringUTF16" "LO_BYTE_SHIFT" "I" ∈ AL := AL_t2 (List.mem_of_getElem? (i := 118) (by decide +kernel)) (by decide +kernel)
theorem q_243 : Cond.methodLink RX4 101 yX4_numberToken ∈ AL := AL_t2 (List.mem_of_getElem? (i := 131) (by decide +kernel)) (by decide +kernel)
theorem q_244 : Cond.instanceMethod yX4_numberToken ∈ AL := AL_t2 (List.mem_of_getElem? (i := 133) (by decide +kernel)) (by decide +kernel)
theorem q_245 : Cond.selects RX4 yX4_numberToken yX4_numberToken ∈ AL := AL_s (List.mem_of_getElem? (i := 6) (by decide +kernel)) (by decide +kernel)
theorem q_246 : Cond.code yX4_numberToken cX4_numberToken 5 (some .int) ∈ AL := AL_t2 (List.mem_of_getElem? (i := 134) (by decide +kernel)) (by decide +kernel)
theorem q_247 : Cond.methodLink RX4 93 yX4_addToken ∈ AL := AL_t2 (List.mem_of_getElem? (i := 135) (by decide +kernel)) (by decide +kernel)
theorem q_248 : Cond.instanceMethod yX4_addToken ∈ AL := AL_t2 (List.mem_of_getElem? (i := 137) (by decide +kernel)) (by decide +kernel)
theorem q_249 : Cond.selects RX4 yX4_addToken yX4_addToken ∈ AL := AL_s (List.mem_of_getElem? (i := 7) (by decide +kernel)) (by decide +kernel)
theorem q_250 : Cond.code yX4_addToken cX4_addToken 3 none ∈ AL := AL_t2 (List.mem_of_getElem? (i := 138) (by decide +kernel)) (by decide +kernel)
theorem q_251 : Cond.methodLink RX4 47 yX4_here ∈ AL := AL_t2 (List.mem_of_getElem? (i := 139) (by decide +kernel)) (by decide +kernel)
theorem q_252 : Cond.instanceMethod yX4_here ∈ AL := AL_t2 (List.mem_of_getElem? (i := 141) (by decide +kernel)) (by decide +kernel)
theorem q_253 : Cond.selects RX4 yX4_here yX4_here ∈ AL := AL_s (List.mem_of_getElem? (i := 8) (by decide +kernel)) (by decide +kernel)
theorem q_254 : Cond.code yX4_here cX4_here 1 (some .int) ∈ AL := AL_t2 (List.mem_of_getElem? (i := 142) (by decide +kernel)) (by decide +kernel)
theorem q_255 : Cond.methodLink RX4 51 yX4_readClause ∈ AL := AL_t2 (List.mem_of_getElem? (i := 143) (by decide +kernel)) (by decide +kernel)
theorem q_256 : Cond.instanceMethod yX4_readClause ∈ AL := AL_t2 (List.mem_of_getElem? (i := 145) (by decide +kernel)) (by decide +kernel)
theorem q_257 : Cond.selects RX4 yX4_readClause yX4_readClause ∈ AL := AL_s (List.mem_of_getElem? (i := 9) (by decide +kernel)) (by decide +kernel)
theorem q_258 : Cond.code yX4_readClause cX4_readClause 3 (some .boolean) ∈ AL := AL_t2 (List.mem_of_getElem? (i := 146) (by decide +kernel)) (by decide +kernel)
theorem q_259 : Cond.methodLink RX4 55 yX4_refuse ∈ AL := AL_t2 (List.mem_of_getElem? (i := 147) (by decide +kernel)) (by decide +kernel)
theorem q_260 : Cond.instanceMethod yX4_refuse ∈ AL := AL_t2 (List.mem_of_getElem? (i := 149) (by decide +kernel)) (by decide +kernel)
theorem q_261 : Cond.selects RX4 yX4_refuse yX4_refuse ∈ AL := AL_s (List.mem_of_getElem? (i := 10) (by decide +kernel)) (by decide +kernel)
theorem q_262 : Cond.code yX4_refuse cX4_refuse 1 (some .boolean) ∈ AL := AL_t2 (List.mem_of_getElem? (i := 150) (by decide +kernel)) (by decide +kernel)
theorem q_263 : Cond.methodLink RX4 58 yX4_readCond ∈ AL := AL_t2 (List.mem_of_getElem? (i := 151) (by decide +kernel)) (by decide +kernel)
theorem q_264 : Cond.instanceMethod yX4_readCond ∈ AL := AL_t2 (List.mem_of_getElem? (i := 153) (by decide +kernel)) (by decide +kernel)
theorem q_265 : Cond.selects RX4 yX4_readCond yX4_readCond ∈ AL := AL_s (List.mem_of_getElem? (i := 11) (by decide +kernel)) (by decide +kernel)
theorem q_266 : Cond.code yX4_readCond cX4_readCond 3 (some .boolean) ∈ AL := AL_t2 (List.mem_of_getElem? (i := 154) (by decide +kernel)) (by decide +kernel)
theorem q_267 : Cond.methodLink RX4 66 yX4_readAll ∈ AL := AL_t2 (List.mem_of_getElem? (i := 155) (by decide +kernel)) (by decide +kernel)
theorem q_268 : Cond.instanceMethod yX4_readAll ∈ AL := AL_t2 (List.mem_of_getElem? (i := 157) (by decide +kernel)) (by decide +kernel)
theorem q_269 : Cond.selects RX4 yX4_readAll yX4_readAll ∈ AL := AL_s (List.mem_of_getElem? (i := 12) (by decide +kernel)) (by decide +kernel)
theorem q_270 : Cond.methodLink RX4 62 yX6_emit ∈ AL := AL_t2 (List.mem_of_getElem? (i := 174) (by decide +kernel)) (by decide +kernel)
theorem q_271 : Cond.instanceMethod yX6_emit ∈ AL := AL_t2 (List.mem_of_getElem? (i := 175) (by decide +kernel)) (by decide +kernel)
theorem q_272 : Cond.selects RX6 yX6_emit yX6_emit ∈ AL := AL_t2 (List.mem_of_getElem? (i := 176) (by decide +kernel)) (by decide +kernel)
theorem q_273 : Cond.code yX6_emit cX6_emit 2 none ∈ AL := AL_t2 (List.mem_of_getElem? (i := 177) (by decide +kernel)) (by decide +kernel)
theorem q_274 : Cond.fieldLink RX6 18 "CrashTies$Rules" "count" "I" ∈ AL := AL_t1 (List.mem_of_getElem? (i := 40) (by decide +kernel)) (by decide +kernel)
theorem q_275 : Cond.code yX4_readAll cX4_readAll 3 (some .boolean) ∈ AL := AL_t2 (List.mem_of_getElem? (i := 158) (by decide +kernel)) (by decide +kernel)
theorem q_276 : Cond.methodLink RX4 69 yX4_readOne ∈ AL := AL_t2 (List.mem_of_getElem? (i := 159) (by decide +kernel)) (by decide +kernel)
theorem q_277 : Cond.instanceMethod yX4_readOne ∈ AL := AL_t2 (List.mem_of_getElem? (i := 161) (by decide +kernel)) (by decide +kernel)
theorem q_278 : Cond.selects RX4 yX4_readOne yX4_readOne ∈ AL := AL_s (List.mem_of_getElem? (i := 13) (by decide +kernel)) (by decide +kernel)
theorem q_279 : Cond.code yX4_readBracket cX4_readBracket 2 (some .boolean) ∈ AL := AL_t2 (List.mem_of_getElem? (i := 166) (by decide +kernel)) (by decide +kernel)
theorem q_280 : Cond.code yX4_readOne cX4_readOne 4 (some .boolean) ∈ AL := AL_t2 (List.mem_of_getElem? (i := 162) (by decide +kernel)) (by decide +kernel)
theorem q_281 : Cond.methodLink RX4 72 yX4_readBracket ∈ AL := AL_t2 (List.mem_of_getElem? (i := 163) (by decide +kernel)) (by decide +kernel)
theorem q_282 : Cond.instanceMethod yX4_readBracket ∈ AL := AL_t2 (List.mem_of_getElem? (i := 165) (by decide +kernel)) (by decide +kernel)
theorem q_283 : Cond.selects RX4 yX4_readBracket yX4_readBracket ∈ AL := AL_s (List.mem_of_getElem? (i := 14) (by decide +kernel)) (by decide +kernel)
theorem q_284 : Cond.methodLink RX4 75 yX4_readComparison ∈ AL := AL_t2 (List.mem_of_getElem? (i := 167) (by decide +kernel)) (by decide +kernel)
theorem q_285 : Cond.instanceMethod yX4_readComparison ∈ AL := AL_t2 (List.mem_of_getElem? (i := 169) (by decide +kernel)) (by decide +kernel)
theorem q_286 : Cond.selects RX4 yX4_readComparison yX4_readComparison ∈ AL := AL_s (List.mem_of_getElem? (i := 15) (by decide +kernel)) (by decide +kernel)
theorem q_287 : Cond.code yX4_readComparison cX4_readComparison 4 (some .boolean) ∈ AL := AL_t2 (List.mem_of_getElem? (i := 170) (by decide +kernel)) (by decide +kernel)
theorem q_288 : Cond.methodLink RX4 78 yX4_isValue ∈ AL := AL_t2 (List.mem_of_getElem? (i := 171) (by decide +kernel)) (by decide +kernel)
theorem q_289 : Cond.static yX4_isValue ∈ AL := AL_t2 (List.mem_of_getElem? (i := 172) (by decide +kernel)) (by decide +kernel)
theorem q_290 : Cond.code yX4_isValue cX4_isValue 1 (some .boolean) ∈ AL := AL_t2 (List.mem_of_getElem? (i := 173) (by decide +kernel)) (by decide +kernel)
theorem q_291 : Cond.methodLink RX8 89 yX6_copyFrom ∈ AL := AL_t2 (List.mem_of_getElem? (i := 178) (by decide +kernel)) (by decide +kernel)
theorem q_292 : Cond.instanceMethod yX6_copyFrom ∈ AL := AL_t2 (List.mem_of_getElem? (i := 179) (by decide +kernel)) (by decide +kernel)
theorem q_293 : Cond.selects RX6 yX6_copyFrom yX6_copyFrom ∈ AL := AL_t2 (List.mem_of_getElem? (i := 180) (by decide +kernel)) (by decide +kernel)
theorem q_294 : Cond.code yX6_copyFrom cX6_copyFrom 3 none ∈ AL := AL_t2 (List.mem_of_getElem? (i := 181) (by decide +kernel)) (by decide +kernel)
theorem q_295 : Cond.fieldLink RX6 22 "CrashTies$Rules" "clauses" "I" ∈ AL := AL_t1 (List.mem_of_getElem? (i := 42) (by decide +kernel)) (by decide +kernel)
theorem q_296 : Cond.methodLink RL 24 yX9_rules ∈ AL := AL_t5 (List.mem_of_getElem? (i := 135) (by decide +kernel)) (by decide +kernel)
theorem q_297 : Cond.instanceMethod yX9_rules ∈ AL := AL_t5 (List.mem_of_getElem? (i := 136) (by decide +kernel)) (by decide +kernel)
theorem q_298 : Cond.selects RX9 yX9_rules yX9_rules ∈ AL := AL_t5 (List.mem_of_getElem? (i := 137) (by decide +kernel)) (by decide +kernel)
theorem q_299 : Cond.code yX9_rules cX9_rules 3 (some .int) ∈ AL := AL_t5 (List.mem_of_getElem? (i := 138) (by decide +kernel)) (by decide +kernel)
theorem q_300 : Cond.fieldLink RX9 121 "CrashTiesModel" "tokenEnds" "I" ∈ AL := AL_t4 (List.mem_of_getElem? (i := 215) (by decide +kernel)) (by decide +kernel)
theorem q_301 : Cond.fieldLink RX9 187 "CrashTiesModel" "good" "Z" ∈ AL := AL_t4 (List.mem_of_getElem? (i := 218) (by decide +kernel)) (by decide +kernel)
theorem q_302 : Cond.fieldLink RX9 170 "CrashTiesModel" "freshMany" "I" ∈ AL := AL_t4 (List.mem_of_getElem? (i := 222) (by decide +kernel)) (by decide +kernel)
theorem q_303 : Cond.fieldLink RX9 138 "CrashTiesModel" "sort" "I" ∈ AL := AL_t4 (List.mem_of_getElem? (i := 213) (by decide +kernel)) (by decide +kernel)
theorem q_304 : Cond.constantLong RX9 216 (1253) ∈ AL := AL_t5 (List.mem_of_getElem? (i := 156) (by decide +kernel)) (by decide +kernel)
theorem q_305 : Cond.constantLong RX9 218 (11716) ∈ AL := AL_t5 (List.mem_of_getElem? (i := 161) (by decide +kernel)) (by decide +kernel)
theorem q_306 : Cond.constantLong RX9 220 (249) ∈ AL := AL_t5 (List.mem_of_getElem? (i := 162) (by decide +kernel)) (by decide +kernel)
theorem q_307 : Cond.constantLong RX9 222 (10631) ∈ AL := AL_t5 (List.mem_of_getElem? (i := 163) (by decide +kernel)) (by decide +kernel)
theorem q_308 : Cond.constantLong RX9 224 (1111) ∈ AL := AL_t5 (List.mem_of_getElem? (i := 164) (by decide +kernel)) (by decide +kernel)
theorem q_309 : Cond.constantLong RX9 226 (423) ∈ AL := AL_t5 (List.mem_of_getElem? (i := 165) (by decide +kernel)) (by decide +kernel)
theorem q_310 : Cond.fieldLink RX9 124 "CrashTiesModel" "begins" "I" ∈ AL := AL_t4 (List.mem_of_getElem? (i := 214) (by decide +kernel)) (by decide +kernel)
theorem q_311 : Cond.fieldLink RX9 232 "CrashTiesModel" "clauses" "I" ∈ AL := AL_t4 (List.mem_of_getElem? (i := 207) (by decide +kernel)) (by decide +kernel)
theorem q_312 : Cond.methodLink RX9 191 yX9_advance ∈ AL := AL_t5 (List.mem_of_getElem? (i := 139) (by decide +kernel)) (by decide +kernel)
theorem q_313 : Cond.instanceMethod yX9_advance ∈ AL := AL_t5 (List.mem_of_getElem? (i := 141) (by decide +kernel)) (by decide +kernel)
theorem q_314 : Cond.selects RX9 yX9_advance yX9_advance ∈ AL := AL_s (List.mem_of_getElem? (i := 30) (by decide +kernel)) (by decide +kernel)
theorem q_315 : Cond.code yX9_advance cX9_advance 2 none ∈ AL := AL_t5 (List.mem_of_getElem? (i := 142) (by decide +kernel)) (by decide +kernel)
theorem q_316 : Cond.fieldLink RX9 141 "CrashTiesModel" "word" "J" ∈ AL := AL_t4 (List.mem_of_getElem? (i := 216) (by decide +kernel)) (by decide +kernel)
theorem q_317 : Cond.fieldLink RX9 145 "CrashTiesModel" "value" "I" ∈ AL := AL_t4 (List.mem_of_getElem? (i := 217) (by decide +kernel)) (by decide +kernel)
theorem q_318 : Cond.constantLong RX9 148 (27) ∈ AL := AL_t5 (List.mem_of_getElem? (i := 153) (by decide +kernel)) (by decide +kernel)
theorem q_319 : Cond.constantLong RX9 150 (96) ∈ AL := AL_t5 (List.mem_of_getElem? (i := 154) (by decide +kernel)) (by decide +kernel)
theorem q_320 : Cond.constantLong RX9 152 (-1) ∈ AL := AL_t5 (List.mem_of_getElem? (i := 155) (by decide +kernel)) (by decide +kernel)
theorem q_321 : Cond.methodLink RX9 127 yX9_byteAt ∈ AL := AL_t5 (List.mem_of_getElem? (i := 143) (by decide +kernel)) (by decide +kernel)
theorem q_322 : Cond.instanceMethod yX9_byteAt ∈ AL := AL_t5 (List.mem_of_getElem? (i := 145) (by decide +kernel)) (by decide +kernel)
theorem q_323 : Cond.selects RX9 yX9_byteAt yX9_byteAt ∈ AL := AL_s (List.mem_of_getElem? (i := 31) (by decide +kernel)) (by decide +kernel)
theorem q_324 : Cond.code yX9_byteAt cX9_byteAt 2 (some .int) ∈ AL := AL_t5 (List.mem_of_getElem? (i := 146) (by decide +kernel)) (by decide +kernel)
theorem q_325 : Cond.methodLink RX9 131 yX9_isLetter ∈ AL := AL_t5 (List.mem_of_getElem? (i := 147) (by decide +kernel)) (by decide +kernel)
theorem q_326 : Cond.static yX9_isLetter ∈ AL := AL_t5 (List.mem_of_getElem? (i := 148) (by decide +kernel)) (by decide +kernel)
theorem q_327 : Cond.code yX9_isLetter cX9_isLetter 1 (some .boolean) ∈ AL := AL_t5 (List.mem_of_getElem? (i := 149) (by decide +kernel)) (by decide +kernel)
theorem q_328 : Cond.methodLink RX9 135 yX9_isDigit ∈ AL := AL_t5 (List.mem_of_getElem? (i := 150) (by decide +kernel)) (by decide +kernel)
theorem q_329 : Cond.static yX9_isDigit ∈ AL := AL_t5 (List.mem_of_getElem? (i := 151) (by decide +kernel)) (by decide +kernel)
theorem q_330 : Cond.code yX9_isDigit cX9_isDigit 1 (some .boolean) ∈ AL := AL_t5 (List.mem_of_getElem? (i := 152) (by decide +kernel)) (by decide +kernel)
theorem q_331 : Cond.methodLink RX9 156 yX9_isWord ∈ AL := AL_t5 (List.mem_of_getElem? (i := 157) (by decide +kernel)) (by decide +kernel)
theorem q_332 : Cond.instanceMethod yX9_isWord ∈ AL := AL_t5 (List.mem_of_getElem? (i := 159) (by decide +kernel)) (by decide +kernel)
theorem q_333 : Cond.selects RX9 yX9_isWord yX9_isWord ∈ AL := AL_s (List.mem_of_getElem? (i := 32) (by decide +kernel)) (by decide +kernel)
theorem q_334 : Cond.code yX9_isWord cX9_isWord 3 (some .boolean) ∈ AL := AL_t5 (List.mem_of_getElem? (i := 160) (by decide +kernel)) (by decide +kernel)
theorem q_335 : Cond.methodLink RX9 228 yX9_wantCond ∈ AL := AL_t5 (List.mem_of_getElem? (i := 166) (by decide +kernel)) (by decide +kernel)
theorem q_336 : Cond.instanceMethod yX9_wantCond ∈ AL := AL_t5 (List.mem_of_getElem? (i := 168) (by decide +kernel)) (by decide +kernel)
theorem q_337 : Cond.selects RX9 yX9_wantCond yX9_wantCond ∈ AL := AL_s (List.mem_of_getElem? (i := 33) (by decide +kernel)) (by decide +kernel)
theorem q_338 : Cond.code yX9_wantCond cX9_wantCond 10 none ∈ AL := AL_t5 (List.mem_of_getElem? (i := 169) (by decide +kernel)) (by decide +kernel)
theorem q_339 : Cond.fieldLink RX9 173 "CrashTiesModel" "pendingMany" "I" ∈ AL := AL_t4 (List.mem_of_getElem? (i := 223) (by decide +kernel)) (by decide +kernel)
theorem q_340 : Cond.fieldLink RX9 204 "CrashTiesModel" "open" "I" ∈ AL := AL_t4 (List.mem_of_getElem? (i := 224) (by decide +kernel)) (by decide +kernel)
theorem q_341 : Cond.constant RX9 200 (40002) ∈ AL := AL_t5 (List.mem_of_getElem? (i := 170) (by decide +kernel)) (by decide +kernel)
theorem q_342 : Cond.constant RX9 210 (40003) ∈ AL := AL_t5 (List.mem_of_getElem? (i := 179) (by decide +kernel)) (by decide +kernel)
theorem q_343 : Cond.constant RX9 214 (40000) ∈ AL := AL_t5 (List.mem_of_getElem? (i := 210) (by decide +kernel)) (by decide +kernel)
theorem q_344 : Cond.constant RX9 215 (40001) ∈ AL := AL_t5 (List.mem_of_getElem? (i := 211) (by decide +kernel)) (by decide +kernel)
theorem q_345 : Cond.methodLink RX9 207 yX9_pend ∈ AL := AL_t5 (List.mem_of_getElem? (i := 171) (by decide +kernel)) (by decide +kernel)
theorem q_346 : Cond.instanceMethod yX9_pend ∈ AL := AL_t5 (List.mem_of_getElem? (i := 173) (by decide +kernel)) (by decide +kernel)
theorem q_347 : Cond.selects RX9 yX9_pend yX9_pend ∈ AL := AL_s (List.mem_of_getElem? (i := 34) (by decide +kernel)) (by decide +kernel)
theorem q_348 : Cond.code yX9_pend cX9_pend 2 none ∈ AL := AL_t5 (List.mem_of_getElem? (i := 174) (by decide +kernel)) (by decide +kernel)
theorem q_349 : Cond.methodLink RX9 197 yX9_isMark ∈ AL := AL_t5 (List.mem_of_getElem? (i := 175) (by decide +kernel)) (by decide +kernel)
theorem q_350 : Cond.instanceMethod yX9_isMark ∈ AL := AL_t5 (List.mem_of_getElem? (i := 177) (by decide +kernel)) (by decide +kernel)
theorem q_351 : Cond.selects RX9 yX9_isMark yX9_isMark ∈ AL := AL_s (List.mem_of_getElem? (i := 35) (by decide +kernel)) (by decide +kernel)
theorem q_352 : Cond.code yX9_isMark cX9_isMark 2 (some .boolean) ∈ AL := AL_t5 (List.mem_of_getElem? (i := 178) (by decide +kernel)) (by decide +kernel)
theorem q_353 : Cond.methodLink RX9 211 yX9_wantCompared ∈ AL := AL_t5 (List.mem_of_getElem? (i := 180) (by decide +kernel)) (by decide +kernel)
theorem q_354 : Cond.instanceMethod yX9_wantCompared ∈ AL := AL_t5 (List.mem_of_getElem? (i := 182) (by decide +kernel)) (by decide +kernel)
theorem q_355 : Cond.selects RX9 yX9_wantCompared yX9_wantCompared ∈ AL := AL_s (List.mem_of_getElem? (i := 36) (by decide +kernel)) (by decide +kernel)
theorem q_356 : Cond.code yX9_wantCompared cX9_wantCompared 2 none ∈ AL := AL_t5 (List.mem_of_getElem? (i := 183) (by decide +kernel)) (by decide +kernel)
theorem q_357 : Cond.methodLink RX9 194 yX9_wantValue ∈ AL := AL_t5 (List.mem_of_getElem? (i := 184) (by decide +kernel)) (by decide +kernel)
theorem q_358 : Cond.instanceMethod yX9_wantValue ∈ AL := AL_t5 (List.mem_of_getElem? (i := 186) (by decide +kernel)) (by decide +kernel)
theorem q_359 : Cond.selects RX9 yX9_wantValue yX9_wantValue ∈ AL := AL_s (List.mem_of_getElem? (i := 37) (by decide +kernel)) (by decide +kernel)
theorem q_360 : Cond.code yX9_wantValue cX9_wantValue 2 none ∈ AL := AL_t5 (List.mem_of_getElem? (i := 187) (by decide +kernel)) (by decide +kernel)
theorem q_361 : Cond.methodLink RX9 183 yX9_factHere ∈ AL := AL_t5 (List.mem_of_getElem? (i := 188) (by decide +kernel)) (by decide +kernel)
theorem q_362 : Cond.instanceMethod yX9_factHere ∈ AL := AL_t5 (List.mem_of_getElem? (i := 190) (by decide +kernel)) (by decide +kernel)
theorem q_363 : Cond.selects RX9 yX9_factHere yX9_factHere ∈ AL := AL_s (List.mem_of_getElem? (i := 38) (by decide +kernel)) (by decide +kernel)
theorem q_364 : Cond.code yX9_factHere cX9_factHere 1 (some .int) ∈ AL := AL_t5 (List.mem_of_getElem? (i := 191) (by decide +kernel)) (by decide +kernel)
theorem q_365 : Cond.constantLong RX9 154 (70241) ∈ AL := AL_t5 (List.mem_of_getElem? (i := 192) (by decide +kernel)) (by decide +kernel)
theorem q_366 : Cond.constantLong RX9 160 (2968) ∈ AL := AL_t5 (List.mem_of_getElem? (i := 193) (by decide +kernel)) (by decide +kernel)
theorem q_367 : Cond.constantLong RX9 162 (232546955) ∈ AL := AL_t5 (List.mem_of_getElem? (i := 194) (by decide +kernel)) (by decide +kernel)
theorem q_368 : Cond.constantLong RX9 164 (400375) ∈ AL := AL_t5 (List.mem_of_getElem? (i := 195) (by decide +kernel)) (by decide +kernel)
theorem q_369 : Cond.constantLong RX9 166 (12531637) ∈ AL := AL_t5 (List.mem_of_getElem? (i := 196) (by decide +kernel)) (by decide +kernel)
theorem q_370 : Cond.constantLong RX9 168 (223456) ∈ AL := AL_t5 (List.mem_of_getElem? (i := 197) (by decide +kernel)) (by decide +kernel)
theorem q_371 : Cond.methodLink RX9 179 yX9_emit ∈ AL := AL_t5 (List.mem_of_getElem? (i := 198) (by decide +kernel)) (by decide +kernel)
theorem q_372 : Cond.instanceMethod yX9_emit ∈ AL := AL_t5 (List.mem_of_getElem? (i := 200) (by decide +kernel)) (by decide +kernel)
theorem q_373 : Cond.selects RX9 yX9_emit yX9_emit ∈ AL := AL_s (List.mem_of_getElem? (i := 39) (by decide +kernel)) (by decide +kernel)
theorem q_374 : Cond.code yX9_emit cX9_emit 2 none ∈ AL := AL_t5 (List.mem_of_getElem? (i := 201) (by decide +kernel)) (by decide +kernel)
theorem q_375 : Cond.methodLink RX9 201 yX9_settle ∈ AL := AL_t5 (List.mem_of_getElem? (i := 202) (by decide +kernel)) (by decide +kernel)
theorem q_376 : Cond.instanceMethod yX9_settle ∈ AL := AL_t5 (List.mem_of_getElem? (i := 204) (by decide +kernel)) (by decide +kernel)
theorem q_377 : Cond.selects RX9 yX9_settle yX9_settle ∈ AL := AL_s (List.mem_of_getElem? (i := 40) (by decide +kernel)) (by decide +kernel)
theorem q_378 : Cond.code yX9_settle cX9_settle 2 none ∈ AL := AL_t5 (List.mem_of_getElem? (i := 205) (by decide +kernel)) (by decide +kernel)
theorem q_379 : Cond.methodLink RX9 176 yX9_isTop ∈ AL := AL_t5 (List.mem_of_getElem? (i := 206) (by decide +kernel)) (by decide +kernel)
theorem q_380 : Cond.instanceMethod yX9_isTop ∈ AL := AL_t5 (List.mem_of_getElem? (i := 208) (by decide +kernel)) (by decide +kernel)
theorem q_381 : Cond.selects RX9 yX9_isTop yX9_isTop ∈ AL := AL_s (List.mem_of_getElem? (i := 41) (by decide +kernel)) (by decide +kernel)
theorem q_382 : Cond.code yX9_isTop cX9_isTop 2 (some .boolean) ∈ AL := AL_t5 (List.mem_of_getElem? (i := 209) (by decide +kernel)) (by decide +kernel)
theorem q_383 : Cond.methodLink RL 25 yX8_size ∈ AL := AL_t2 (List.mem_of_getElem? (i := 183) (by decide +kernel)) (by decide +kernel)
theorem q_384 : Cond.instanceMethod yX8_size ∈ AL := AL_t2 (List.mem_of_getElem? (i := 184) (by decide +kernel)) (by decide +kernel)
theorem q_385 : Cond.selects RX8 yX8_size yX8_size ∈ AL := AL_t2 (List.mem_of_getElem? (i := 185) (by decide +kernel)) (by decide +kernel)
theorem q_386 : Cond.code yX8_size cX8_size 4 (some .int) ∈ AL := AL_t2 (List.mem_of_getElem? (i := 186) (by decide +kernel)) (by decide +kernel)
theorem q_387 : Cond.fieldLink RX8 100 "CrashTies$Book" "sizes" "[I" ∈ AL := AL_t1 (List.mem_of_getElem? (i := 65) (by decide +kernel)) (by decide +kernel)
theorem q_388 : Cond.methodLink RX8 96 yX8_isTown ∈ AL := AL_t2 (List.mem_of_getElem? (i := 187) (by decide +kernel)) (by decide +kernel)
theorem q_389 : Cond.static yX8_isTown ∈ AL := AL_t2 (List.mem_of_getElem? (i := 188) (by decide +kernel)) (by decide +kernel)
theorem q_390 : Cond.code yX8_isTown cX8_isTown 1 (some .boolean) ∈ AL := AL_t2 (List.mem_of_getElem? (i := 189) (by decide +kernel)) (by decide +kernel)
theorem q_391 : Cond.methodLink RL 29 yX9_size ∈ AL := AL_t5 (List.mem_of_getElem? (i := 212) (by decide +kernel)) (by decide +kernel)
theorem q_392 : Cond.instanceMethod yX9_size ∈ AL := AL_t5 (List.mem_of_getElem? (i := 213) (by decide +kernel)) (by decide +kernel)
theorem q_393 : Cond.selects RX9 yX9_size yX9_size ∈ AL := AL_t5 (List.mem_of_getElem? (i := 214) (by decide +kernel)) (by decide +kernel)
theorem q_394 : Cond.code yX9_size cX9_size 4 (some .int) ∈ AL := AL_t5 (List.mem_of_getElem? (i := 215) (by decide +kernel)) (by decide +kernel)
theorem q_395 : Cond.methodLink RL 30 yX8_person ∈ AL := AL_t2 (List.mem_of_getElem? (i := 190) (by decide +kernel)) (by decide +kernel)
theorem q_396 : Cond.instanceMethod yX8_person ∈ AL := AL_t2 (List.mem_of_getElem? (i := 191) (by decide +kernel)) (by decide +kernel)
theorem q_397 : Cond.selects RX8 yX8_person yX8_person ∈ AL := AL_t2 (List.mem_of_getElem? (i := 192) (by decide +kernel)) (by decide +kernel)
theorem q_398 : Cond.code yX8_person cX8_person 3 (some .int) ∈ AL := AL_t2 (List.mem_of_getElem? (i := 193) (by decide +kernel)) (by decide +kernel)
theorem q_399 : Cond.fieldLink RX8 103 "CrashTies$Book" "people" "I" ∈ AL := AL_t1 (List.mem_of_getElem? (i := 69) (by decide +kernel)) (by decide +kernel)
theorem q_400 : Cond.methodLink RX8 106 yX0_addPerson ∈ AL := AL_t2 (List.mem_of_getElem? (i := 194) (by decide +kernel)) (by decide +kernel)
theorem q_401 : Cond.instanceMethod yX0_addPerson ∈ AL := AL_t2 (List.mem_of_getElem? (i := 195) (by decide +kernel)) (by decide +kernel)
theorem q_402 : Cond.selects RX0 yX0_addPerson yX0_addPerson ∈ AL := AL_t2 (List.mem_of_getElem? (i := 196) (by decide +kernel)) (by decide +kernel)
theorem q_403 : Cond.code yX0_addPerson cX0_addPerson 3 (some .int) ∈ AL := AL_t2 (List.mem_of_getElem? (i := 197) (by decide +kernel)) (by decide +kernel)
theorem q_404 : Cond.fieldLink RX0 60 "CrashTies$Book" "people" "I" ∈ AL := AL_t1 (List.mem_of_getElem? (i := 68) (by decide +kernel)) (by decide +kernel)
theorem q_405 : Cond.methodLink RL 34 yX9_person ∈ AL := AL_t5 (List.mem_of_getElem? (i := 216) (by decide +kernel)) (by decide +kernel)
theorem q_406 : Cond.instanceMethod yX9_person ∈ AL := AL_t5 (List.mem_of_getElem? (i := 217) (by decide +kernel)) (by decide +kernel)
theorem q_407 : Cond.selects RX9 yX9_person yX9_person ∈ AL := AL_t5 (List.mem_of_getElem? (i := 218) (by decide +kernel)) (by decide +kernel)
theorem q_408 : Cond.code yX9_person cX9_person 3 (some .int) ∈ AL := AL_t5 (List.mem_of_getElem? (i := 219) (by decide +kernel)) (by decide +kernel)
theorem q_409 : Cond.fieldLink RX9 106 "CrashTiesModel" "people" "I" ∈ AL := AL_t4 (List.mem_of_getElem? (i := 199) (by decide +kernel)) (by decide +kernel)
theorem q_410 : Cond.methodLink RL 35 yX8_personOf ∈ AL := AL_t2 (List.mem_of_getElem? (i := 198) (by decide +kernel)) (by decide +kernel)
theorem q_411 : Cond.instanceMethod yX8_personOf ∈ AL := AL_t2 (List.mem_of_getElem? (i := 199) (by decide +kernel)) (by decide +kernel)
theorem q_412 : Cond.selects RX8 yX8_personOf yX8_personOf ∈ AL := AL_t2 (List.mem_of_getElem? (i := 200) (by decide +kernel)) (by decide +kernel)
theorem q_413 : Cond.code yX8_personOf cX8_personOf 4 (some .int) ∈ AL := AL_t2 (List.mem_of_getElem? (i := 201) (by decide +kernel)) (by decide +kernel)
theorem q_414 : Cond.fieldLink RX8 113 "CrashTies$Book" "ones" "[I" ∈ AL := AL_t1 (List.mem_of_getElem? (i := 75) (by decide +kernel)) (by decide +kernel)
theorem q_415 : Cond.fieldLink RX8 116 "CrashTies$Book" "homes" "[I" ∈ AL := AL_t1 (List.mem_of_getElem? (i := 72) (by decide +kernel)) (by decide +kernel)
theorem q_416 : Cond.methodLink RX8 110 yX0_isPerson ∈ AL := AL_t2 (List.mem_of_getElem? (i := 202) (by decide +kernel)) (by decide +kernel)
theorem q_417 : Cond.instanceMethod yX0_isPerson ∈ AL := AL_t2 (List.mem_of_getElem? (i := 203) (by decide +kernel)) (by decide +kernel)
theorem q_418 : Cond.selects RX0 yX0_isPerson yX0_isPerson ∈ AL := AL_t2 (List.mem_of_getElem? (i := 204) (by decide +kernel)) (by decide +kernel)
theorem q_419 : Cond.code yX0_isPerson cX0_isPerson 2 (some .boolean) ∈ AL := AL_t2 (List.mem_of_getElem? (i := 205) (by decide +kernel)) (by decide +kernel)
theorem q_420 : Cond.methodLink RX8 119 yX0_isHub ∈ AL := AL_t2 (List.mem_of_getElem? (i := 206) (by decide +kernel)) (by decide +kernel)
theorem q_421 : Cond.instanceMethod yX0_isHub ∈ AL := AL_t2 (List.mem_of_getElem? (i := 207) (by decide +kernel)) (by decide +kernel)
theorem q_422 : Cond.selects RX0 yX0_isHub yX0_isHub ∈ AL := AL_t2 (List.mem_of_getElem? (i := 208) (by decide +kernel)) (by decide +kernel)
theorem q_423 : Cond.code yX0_isHub cX0_isHub 3 (some .boolean) ∈ AL := AL_t2 (List.mem_of_getElem? (i := 209) (by decide +kernel)) (by decide +kernel)
theorem q_424 : Cond.methodLink RX8 122 yX0_claimsWith ∈ AL := AL_t2 (List.mem_of_getElem? (i := 210) (by decide +kernel)) (by decide +kernel)
theorem q_425 : Cond.instanceMethod yX0_claimsWith ∈ AL := AL_t2 (List.mem_of_getElem? (i := 211) (by decide +kernel)) (by decide +kernel)
theorem q_426 : Cond.selects RX0 yX0_claimsWith yX0_claimsWith ∈ AL := AL_t2 (List.mem_of_getElem? (i := 212) (by decide +kernel)) (by decide +kernel)
theorem q_427 : Cond.code yX0_claimsWith cX0_claimsWith 4 (some .int) ∈ AL := AL_t2 (List.mem_of_getElem? (i := 213) (by decide +kernel)) (by decide +kernel)
theorem q_428 : Cond.fieldLink RX0 63 "CrashTies$Book" "claims" "I" ∈ AL := AL_t1 (List.mem_of_getElem? (i := 77) (by decide +kernel)) (by decide +kernel)
theorem q_429 : Cond.methodLink RX0 88 yX0_isIn ∈ AL := AL_t2 (List.mem_of_getElem? (i := 214) (by decide +kernel)) (by decide +kernel)
theorem q_430 : Cond.instanceMethod yX0_isIn ∈ AL := AL_t2 (List.mem_of_getElem? (i := 215) (by decide +kernel)) (by decide +kernel)
theorem q_431 : Cond.selects RX0 yX0_isIn yX0_isIn ∈ AL := AL_t2 (List.mem_of_getElem? (i := 216) (by decide +kernel)) (by decide +kernel)
theorem q_432 : Cond.code yX0_isIn cX0_isIn 3 (some .boolean) ∈ AL := AL_t2 (List.mem_of_getElem? (i := 217) (by decide +kernel)) (by decide +kernel)
theorem q_433 : Cond.methodLink RX0 81 yX0_isElsewhere ∈ AL := AL_t2 (List.mem_of_getElem? (i := 218) (by decide +kernel)) (by decide +kernel)
theorem q_434 : Cond.instanceMethod yX0_isElsewhere ∈ AL := AL_t2 (List.mem_of_getElem? (i := 219) (by decide +kernel)) (by decide +kernel)
theorem q_435 : Cond.selects RX0 yX0_isElsewhere yX0_isElsewhere ∈ AL := AL_t2 (List.mem_of_getElem? (i := 220) (by decide +kernel)) (by decide +kernel)
theorem q_436 : Cond.code yX0_isElsewhere cX0_isElsewhere 5 (some .boolean) ∈ AL := AL_t2 (List.mem_of_getElem? (i := 221) (by decide +kernel)) (by decide +kernel)
theorem q_437 : Cond.methodLink RX0 85 yX0_oneAt ∈ AL := AL_t2 (List.mem_of_getElem? (i := 222) (by decide +kernel)) (by decide +kernel)
theorem q_438 : Cond.instanceMethod yX0_oneAt ∈ AL := AL_t2 (List.mem_of_getElem? (i := 223) (by decide +kernel)) (by decide +kernel)
theorem q_439 : Cond.selects RX0 yX0_oneAt yX0_oneAt ∈ AL := AL_t2 (List.mem_of_getElem? (i := 224) (by decide +kernel)) (by decide +kernel)
theorem q_440 : Cond.code yX0_oneAt cX0_oneAt 4 (some .int) ∈ AL := AL_t2 (List.mem_of_getElem? (i := 225) (by decide +kernel)) (by decide +kernel)
theorem q_441 : Cond.methodLink RX0 74 yX0_sitter ∈ AL := AL_t2 (List.mem_of_getElem? (i := 226) (by decide +kernel)) (by decide +kernel)
theorem q_442 : Cond.instanceMethod yX0_sitter ∈ AL := AL_t2 (List.mem_of_getElem? (i := 227) (by decide +kernel)) (by decide +kernel)
theorem q_443 : Cond.selects RX0 yX0_sitter yX0_sitter ∈ AL := AL_t2 (List.mem_of_getElem? (i := 228) (by decide +kernel)) (by decide +kernel)
theorem q_444 : Cond.code yX0_sitter cX0_sitter 3 (some .int) ∈ AL := AL_t2 (List.mem_of_getElem? (i := 229) (by decide +kernel)) (by decide +kernel)
theorem q_445 : Cond.methodLink RX0 78 yX0_isPerson ∈ AL := AL_t2 (List.mem_of_getElem? (i := 230) (by decide +kernel)) (by decide +kernel)
theorem q_446 : Cond.methodLink RL 38 yX9_personOf ∈ AL := AL_t5 (List.mem_of_getElem? (i := 220) (by decide +kernel)) (by decide +kernel)
theorem q_447 : Cond.instanceMethod yX9_personOf ∈ AL := AL_t5 (List.mem_of_getElem? (i := 221) (by decide +kernel)) (by decide +kernel)
theorem q_448 : Cond.selects RX9 yX9_personOf yX9_personOf ∈ AL := AL_t5 (List.mem_of_getElem? (i := 222) (by decide +kernel)) (by decide +kernel)
theorem q_449 : Cond.code yX9_personOf cX9_personOf 3 (some .int) ∈ AL := AL_t5 (List.mem_of_getElem? (i := 223) (by decide +kernel)) (by decide +kernel)
theorem q_450 : Cond.methodLink RX9 245 yX9_isPerson ∈ AL := AL_t5 (List.mem_of_getElem? (i := 224) (by decide +kernel)) (by decide +kernel)
theorem q_451 : Cond.instanceMethod yX9_isPerson ∈ AL := AL_t5 (List.mem_of_getElem? (i := 226) (by decide +kernel)) (by decide +kernel)
theorem q_452 : Cond.selects RX9 yX9_isPerson yX9_isPerson ∈ AL := AL_s (List.mem_of_getElem? (i := 42) (by decide +kernel)) (by decide +kernel)
theorem q_453 : Cond.code yX9_isPerson cX9_isPerson 2 (some .boolean) ∈ AL := AL_t5 (List.mem_of_getElem? (i := 227) (by decide +kernel)) (by decide +kernel)
theorem q_454 : Cond.methodLink RX9 248 yX9_isHubOne ∈ AL := AL_t5 (List.mem_of_getElem? (i := 228) (by decide +kernel)) (by decide +kernel)
theorem q_455 : Cond.instanceMethod yX9_isHubOne ∈ AL := AL_t5 (List.mem_of_getElem? (i := 230) (by decide +kernel)) (by decide +kernel)
theorem q_456 : Cond.selects RX9 yX9_isHubOne yX9_isHubOne ∈ AL := AL_s (List.mem_of_getElem? (i := 43) (by decide +kernel)) (by decide +kernel)
theorem q_457 : Cond.code yX9_isHubOne cX9_isHubOne 3 (some .boolean) ∈ AL := AL_t5 (List.mem_of_getElem? (i := 231) (by decide +kernel)) (by decide +kernel)
theorem q_458 : Cond.methodLink RX9 251 yX9_claimsOf ∈ AL := AL_t5 (List.mem_of_getElem? (i := 232) (by decide +kernel)) (by decide +kernel)
theorem q_459 : Cond.instanceMethod yX9_claimsOf ∈ AL := AL_t5 (List.mem_of_getElem? (i := 234) (by decide +kernel)) (by decide +kernel)
theorem q_460 : Cond.selects RX9 yX9_claimsOf yX9_claimsOf ∈ AL := AL_s (List.mem_of_getElem? (i := 44) (by decide +kernel)) (by decide +kernel)
theorem q_461 : Cond.code yX9_claimsOf cX9_claimsOf 4 (some .int) ∈ AL := AL_t5 (List.mem_of_getElem? (i := 235) (by decide +kernel)) (by decide +kernel)
theorem q_462 : Cond.fieldLink RX9 113 "CrashTiesModel" "claims" "I" ∈ AL := AL_t4 (List.mem_of_getElem? (i := 203) (by decide +kernel)) (by decide +kernel)
theorem q_463 : Cond.methodLink RX9 242 yX9_placesOf ∈ AL := AL_t5 (List.mem_of_getElem? (i := 236) (by decide +kernel)) (by decide +kernel)
theorem q_464 : Cond.instanceMethod yX9_placesOf ∈ AL := AL_t5 (List.mem_of_getElem? (i := 238) (by decide +kernel)) (by decide +kernel)
theorem q_465 : Cond.selects RX9 yX9_placesOf yX9_placesOf ∈ AL := AL_s (List.mem_of_getElem? (i := 45) (by decide +kernel)) (by decide +kernel)
theorem q_466 : Cond.code yX9_placesOf cX9_placesOf 5 (some .int) ∈ AL := AL_t5 (List.mem_of_getElem? (i := 239) (by decide +kernel)) (by decide +kernel)
theorem q_467 : Cond.methodLink RX9 239 yX9_oneIn ∈ AL := AL_t6 (List.mem_of_getElem? (i := 0) (by decide +kernel)) (by decide +kernel)
theorem q_468 : Cond.instanceMethod yX9_oneIn ∈ AL := AL_t6 (List.mem_of_getElem? (i := 2) (by decide +kernel)) (by decide +kernel)
theorem q_469 : Cond.selects RX9 yX9_oneIn yX9_oneIn ∈ AL := AL_s (List.mem_of_getElem? (i := 46) (by decide +kernel)) (by decide +kernel)
theorem q_470 : Cond.code yX9_oneIn cX9_oneIn 4 (some .int) ∈ AL := AL_t6 (List.mem_of_getElem? (i := 3) (by decide +kernel)) (by decide +kernel)
theorem q_471 : Cond.methodLink RX9 235 yX9_its ∈ AL := AL_t6 (List.mem_of_getElem? (i := 4) (by decide +kernel)) (by decide +kernel)
theorem q_472 : Cond.instanceMethod yX9_its ∈ AL := AL_t6 (List.mem_of_getElem? (i := 6) (by decide +kernel)) (by decide +kernel)
theorem q_473 : Cond.selects RX9 yX9_its yX9_its ∈ AL := AL_s (List.mem_of_getElem? (i := 47) (by decide +kernel)) (by decide +kernel)
theorem q_474 : Cond.code yX9_its cX9_its 3 (some .int) ∈ AL := AL_t6 (List.mem_of_getElem? (i := 7) (by decide +kernel)) (by decide +kernel)
theorem q_475 : Cond.methodLink RL 39 yX8_join ∈ AL := AL_t2 (List.mem_of_getElem? (i := 231) (by decide +kernel)) (by decide +kernel)
theorem q_476 : Cond.instanceMethod yX8_join ∈ AL := AL_t2 (List.mem_of_getElem? (i := 232) (by decide +kernel)) (by decide +kernel)
theorem q_477 : Cond.selects RX8 yX8_join yX8_join ∈ AL := AL_t2 (List.mem_of_getElem? (i := 233) (by decide +kernel)) (by decide +kernel)
theorem q_478 : Cond.code yX8_join cX8_join 3 (some .int) ∈ AL := AL_t2 (List.mem_of_getElem? (i := 234) (by decide +kernel)) (by decide +kernel)
theorem q_479 : Cond.methodLink RX8 126 yX0_joinOnes ∈ AL := AL_t2 (List.mem_of_getElem? (i := 235) (by decide +kernel)) (by decide +kernel)
theorem q_480 : Cond.instanceMethod yX0_joinOnes ∈ AL := AL_t2 (List.mem_of_getElem? (i := 236) (by decide +kernel)) (by decide +kernel)
theorem q_481 : Cond.selects RX0 yX0_joinOnes yX0_joinOnes ∈ AL := AL_t2 (List.mem_of_getElem? (i := 237) (by decide +kernel)) (by decide +kernel)
theorem q_482 : Cond.code yX0_joinOnes cX0_joinOnes 6 (some .boolean) ∈ AL := AL_t2 (List.mem_of_getElem? (i := 238) (by decide +kernel)) (by decide +kernel)
theorem q_483 : Cond.methodLink RX0 92 Lib.Math.min.name ∈ AL := AL_t2 (List.mem_of_getElem? (i := 239) (by decide +kernel)) (by decide +kernel)
theorem q_484 : Cond.static Lib.Math.min.name ∈ AL := AL_t3 (List.mem_of_getElem? (i := 0) (by decide +kernel)) (by decide +kernel)
theorem q_485 : Cond.initialized "java/lang/Math" ∈ AL := AL_t1 (List.mem_of_getElem? (i := 14) (by decide +kernel)) (by decide +kernel)
theorem q_486 : Cond.code Lib.Math.min.name Lib.Math.min.code 2 (some .int) ∈ AL := AL_t3 (List.mem_of_getElem? (i := 1) (by decide +kernel)) (by decide +kernel)
theorem q_487 : Cond.methodLink RX0 97 Lib.Math.max.name ∈ AL := AL_t3 (List.mem_of_getElem? (i := 2) (by decide +kernel)) (by decide +kernel)
theorem q_488 : Cond.static Lib.Math.max.name ∈ AL := AL_t3 (List.mem_of_getElem? (i := 3) (by decide +kernel)) (by decide +kernel)
theorem q_489 : Cond.code Lib.Math.max.name Lib.Math.max.code 2 (some .int) ∈ AL := AL_t3 (List.mem_of_getElem? (i := 4) (by decide +kernel)) (by decide +kernel)
theorem q_490 : Cond.methodLink RL 42 yX9_join ∈ AL := AL_t6 (List.mem_of_getElem? (i := 8) (by decide +kernel)) (by decide +kernel)
theorem q_491 : Cond.instanceMethod yX9_join ∈ AL := AL_t6 (List.mem_of_getElem? (i := 9) (by decide +kernel)) (by decide +kernel)
theorem q_492 : Cond.selects RX9 yX9_join yX9_join ∈ AL := AL_t6 (List.mem_of_getElem? (i := 10) (by decide +kernel)) (by decide +kernel)
theorem q_493 : Cond.code yX9_join cX9_join 6 (some .int) ∈ AL := AL_t6 (List.mem_of_getElem? (i := 11) (by decide +kernel)) (by decide +kernel)
theorem q_494 : Cond.methodLink RL 43 yX8_claim ∈ AL := AL_t3 (List.mem_of_getElem? (i := 5) (by decide +kernel)) (by decide +kernel)
theorem q_495 : Cond.instanceMethod yX8_claim ∈ AL := AL_t3 (List.mem_of_getElem? (i := 6) (by decide +kernel)) (by decide +kernel)
theorem q_496 : Cond.selects RX8 yX8_claim yX8_claim ∈ AL := AL_t3 (List.mem_of_getElem? (i := 7) (by decide +kernel)) (by decide +kernel)
theorem q_497 : Cond.code yX8_claim cX8_claim 6 (some .int) ∈ AL := AL_t3 (List.mem_of_getElem? (i := 8) (by decide +kernel)) (by decide +kernel)
theorem q_498 : Cond.fieldLink RX8 130 "CrashTies$Book" "claims" "I" ∈ AL := AL_t1 (List.mem_of_getElem? (i := 79) (by decide +kernel)) (by decide +kernel)
theorem q_499 : Cond.methodLink RX8 133 yX0_addClaim ∈ AL := AL_t3 (List.mem_of_getElem? (i := 9) (by decide +kernel)) (by decide +kernel)
theorem q_500 : Cond.instanceMethod yX0_addClaim ∈ AL := AL_t3 (List.mem_of_getElem? (i := 10) (by decide +kernel)) (by decide +kernel)
theorem q_501 : Cond.selects RX0 yX0_addClaim yX0_addClaim ∈ AL := AL_t3 (List.mem_of_getElem? (i := 11) (by decide +kernel)) (by decide +kernel)
theorem q_502 : Cond.code yX0_addClaim cX0_addClaim 8 (some .int) ∈ AL := AL_t3 (List.mem_of_getElem? (i := 12) (by decide +kernel)) (by decide +kernel)
theorem q_503 : Cond.methodLink RL 47 yX9_claim ∈ AL := AL_t6 (List.mem_of_getElem? (i := 12) (by decide +kernel)) (by decide +kernel)
theorem q_504 : Cond.instanceMethod yX9_claim ∈ AL := AL_t6 (List.mem_of_getElem? (i := 13) (by decide +kernel)) (by decide +kernel)
theorem q_505 : Cond.selects RX9 yX9_claim yX9_claim ∈ AL := AL_t6 (List.mem_of_getElem? (i := 14) (by decide +kernel)) (by decide +kernel)
theorem q_506 : Cond.code yX9_claim cX9_claim 8 (some .int) ∈ AL := AL_t6 (List.mem_of_getElem? (i := 15) (by decide +kernel)) (by decide +kernel)
theorem q_507 : Cond.methodLink RL 48 yX8_claimOf ∈ AL := AL_t3 (List.mem_of_getElem? (i := 13) (by decide +kernel)) (by decide +kernel)
theorem q_508 : Cond.instanceMethod yX8_claimOf ∈ AL := AL_t3 (List.mem_of_getElem? (i := 14) (by decide +kernel)) (by decide +kernel)
theorem q_509 : Cond.selects RX8 yX8_claimOf yX8_claimOf ∈ AL := AL_t3 (List.mem_of_getElem? (i := 15) (by decide +kernel)) (by decide +kernel)
theorem q_510 : Cond.code yX8_claimOf cX8_claimOf 3 (some .int) ∈ AL := AL_t3 (List.mem_of_getElem? (i := 16) (by decide +kernel)) (by decide +kernel)
theorem q_511 : Cond.methodLink RX8 137 yX0_isClaim ∈ AL := AL_t3 (List.mem_of_getElem? (i := 17) (by decide +kernel)) (by decide +kernel)
theorem q_512 : Cond.instanceMethod yX0_isClaim ∈ AL := AL_t3 (List.mem_of_getElem? (i := 18) (by decide +kernel)) (by decide +kernel)
theorem q_513 : Cond.selects RX0 yX0_isClaim yX0_isClaim ∈ AL := AL_t3 (List.mem_of_getElem? (i := 19) (by decide +kernel)) (by decide +kernel)
theorem q_514 : Cond.code yX0_isClaim cX0_isClaim 2 (some .boolean) ∈ AL := AL_t3 (List.mem_of_getElem? (i := 20) (by decide +kernel)) (by decide +kernel)
theorem q_515 : Cond.methodLink RX8 140 yX0_fact ∈ AL := AL_t3 (List.mem_of_getElem? (i := 21) (by decide +kernel)) (by decide +kernel)
theorem q_516 : Cond.instanceMethod yX0_fact ∈ AL := AL_t3 (List.mem_of_getElem? (i := 22) (by decide +kernel)) (by decide +kernel)
theorem q_517 : Cond.selects RX0 yX0_fact yX0_fact ∈ AL := AL_t3 (List.mem_of_getElem? (i := 23) (by decide +kernel)) (by decide +kernel)
theorem q_518 : Cond.code yX0_fact cX0_fact 3 (some .int) ∈ AL := AL_t3 (List.mem_of_getElem? (i := 24) (by decide +kernel)) (by decide +kernel)
theorem q_519 : Cond.methodLink RX0 70 yX0_isClaim ∈ AL := AL_t3 (List.mem_of_getElem? (i := 25) (by decide +kernel)) (by decide +kernel)
theorem q_520 : Cond.methodLink RX8 144 yX0_sitter ∈ AL := AL_t3 (List.mem_of_getElem? (i := 26) (by decide +kernel)) (by decide +kernel)
theorem q_521 : Cond.methodLink RL 51 yX9_claimOf ∈ AL := AL_t6 (List.mem_of_getElem? (i := 16) (by decide +kernel)) (by decide +kernel)
theorem q_522 : Cond.instanceMethod yX9_claimOf ∈ AL := AL_t6 (List.mem_of_getElem? (i := 17) (by decide +kernel)) (by decide +kernel)
theorem q_523 : Cond.selects RX9 yX9_claimOf yX9_claimOf ∈ AL := AL_t6 (List.mem_of_getElem? (i := 18) (by decide +kernel)) (by decide +kernel)
theorem q_524 : Cond.code yX9_claimOf cX9_claimOf 3 (some .int) ∈ AL := AL_t6 (List.mem_of_getElem? (i := 19) (by decide +kernel)) (by decide +kernel)
theorem q_525 : Cond.methodLink RX9 254 yX9_isClaim ∈ AL := AL_t6 (List.mem_of_getElem? (i := 20) (by decide +kernel)) (by decide +kernel)
theorem q_526 : Cond.instanceMethod yX9_isClaim ∈ AL := AL_t6 (List.mem_of_getElem? (i := 22) (by decide +kernel)) (by decide +kernel)
theorem q_527 : Cond.selects RX9 yX9_isClaim yX9_isClaim ∈ AL := AL_s (List.mem_of_getElem? (i := 48) (by decide +kernel)) (by decide +kernel)
theorem q_528 : Cond.code yX9_isClaim cX9_isClaim 2 (some .boolean) ∈ AL := AL_t6 (List.mem_of_getElem? (i := 23) (by decide +kernel)) (by decide +kernel)
theorem q_529 : Cond.methodLink RX9 257 yX9_orNobody ∈ AL := AL_t6 (List.mem_of_getElem? (i := 24) (by decide +kernel)) (by decide +kernel)
theorem q_530 : Cond.static yX9_orNobody ∈ AL := AL_t6 (List.mem_of_getElem? (i := 25) (by decide +kernel)) (by decide +kernel)
theorem q_531 : Cond.code yX9_orNobody cX9_orNobody 1 (some .int) ∈ AL := AL_t6 (List.mem_of_getElem? (i := 26) (by decide +kernel)) (by decide +kernel)
theorem q_532 : Cond.methodLink RL 52 yX8_seat ∈ AL := AL_t3 (List.mem_of_getElem? (i := 27) (by decide +kernel)) (by decide +kernel)
theorem q_533 : Cond.instanceMethod yX8_seat ∈ AL := AL_t3 (List.mem_of_getElem? (i := 28) (by decide +kernel)) (by decide +kernel)
theorem q_534 : Cond.selects RX8 yX8_seat yX8_seat ∈ AL := AL_t3 (List.mem_of_getElem? (i := 29) (by decide +kernel)) (by decide +kernel)
theorem q_535 : Cond.code yX8_seat cX8_seat 5 (some .int) ∈ AL := AL_t3 (List.mem_of_getElem? (i := 30) (by decide +kernel)) (by decide +kernel)
theorem q_536 : Cond.fieldLink RX8 151 "CrashTies$Book" "seats" "[I" ∈ AL := AL_t1 (List.mem_of_getElem? (i := 82) (by decide +kernel)) (by decide +kernel)
theorem q_537 : Cond.methodLink RX8 147 yX0_isElsewhere ∈ AL := AL_t3 (List.mem_of_getElem? (i := 31) (by decide +kernel)) (by decide +kernel)
theorem q_538 : Cond.methodLink RL 56 yX9_seat ∈ AL := AL_t6 (List.mem_of_getElem? (i := 27) (by decide +kernel)) (by decide +kernel)
theorem q_539 : Cond.instanceMethod yX9_seat ∈ AL := AL_t6 (List.mem_of_getElem? (i := 28) (by decide +kernel)) (by decide +kernel)
theorem q_540 : Cond.selects RX9 yX9_seat yX9_seat ∈ AL := AL_t6 (List.mem_of_getElem? (i := 29) (by decide +kernel)) (by decide +kernel)
theorem q_541 : Cond.code yX9_seat cX9_seat 5 (some .int) ∈ AL := AL_t6 (List.mem_of_getElem? (i := 30) (by decide +kernel)) (by decide +kernel)
theorem q_542 : Cond.methodLink RL 57 yX8_set ∈ AL := AL_t3 (List.mem_of_getElem? (i := 32) (by decide +kernel)) (by decide +kernel)
theorem q_543 : Cond.instanceMethod yX8_set ∈ AL := AL_t3 (List.mem_of_getElem? (i := 33) (by decide +kernel)) (by decide +kernel)
theorem q_544 : Cond.selects RX8 yX8_set yX8_set ∈ AL := AL_t3 (List.mem_of_getElem? (i := 34) (by decide +kernel)) (by decide +kernel)
theorem q_545 : Cond.code yX8_set cX8_set 4 (some .int) ∈ AL := AL_t3 (List.mem_of_getElem? (i := 35) (by decide +kernel)) (by decide +kernel)
theorem q_546 : Cond.fieldLink RX8 154 "CrashTies" "LAW_MOST" "[I" ∈ AL := AL_t3 (List.mem_of_getElem? (i := 36) (by decide +kernel)) (by decide +kernel)
theorem q_547 : Cond.fieldLink RX8 157 "CrashTies$Book" "laws" "[I" ∈ AL := AL_t1 (List.mem_of_getElem? (i := 67) (by decide +kernel)) (by decide +kernel)
theorem q_548 : Cond.methodLink RL 60 yX9_set ∈ AL := AL_t6 (List.mem_of_getElem? (i := 31) (by decide +kernel)) (by decide +kernel)
theorem q_549 : Cond.instanceMethod yX9_set ∈ AL := AL_t6 (List.mem_of_getElem? (i := 32) (by decide +kernel)) (by decide +kernel)
theorem q_550 : Cond.selects RX9 yX9_set yX9_set ∈ AL := AL_t6 (List.mem_of_getElem? (i := 33) (by decide +kernel)) (by decide +kernel)
theorem q_551 : Cond.code yX9_set cX9_set 4 (some .int) ∈ AL := AL_t6 (List.mem_of_getElem? (i := 34) (by decide +kernel)) (by decide +kernel)
theorem q_552 : Cond.methodLink RL 61 yX8_tie ∈ AL := AL_t3 (List.mem_of_getElem? (i := 38) (by decide +kernel)) (by decide +kernel)
theorem q_553 : Cond.instanceMethod yX8_tie ∈ AL := AL_t3 (List.mem_of_getElem? (i := 39) (by decide +kernel)) (by decide +kernel)
theorem q_554 : Cond.selects RX8 yX8_tie yX8_tie ∈ AL := AL_t3 (List.mem_of_getElem? (i := 40) (by decide +kernel)) (by decide +kernel)
theorem q_555 : Cond.code yX8_tie cX8_tie 3 (some .int) ∈ AL := AL_t3 (List.mem_of_getElem? (i := 41) (by decide +kernel)) (by decide +kernel)
theorem q_556 : Cond.methodLink RX8 160 yX7_strength ∈ AL := AL_t3 (List.mem_of_getElem? (i := 42) (by decide +kernel)) (by decide +kernel)
theorem q_557 : Cond.instanceMethod yX7_strength ∈ AL := AL_t3 (List.mem_of_getElem? (i := 43) (by decide +kernel)) (by decide +kernel)
theorem q_558 : Cond.selects RX7 yX7_strength yX7_strength ∈ AL := AL_t3 (List.mem_of_getElem? (i := 44) (by decide +kernel)) (by decide +kernel)
theorem q_559 : Cond.code yX7_strength cX7_strength 10 (some .int) ∈ AL := AL_t3 (List.mem_of_getElem? (i := 45) (by decide +kernel)) (by decide +kernel)
theorem q_560 : Cond.methodLink RX7 24 Lib.Math.min.name ∈ AL := AL_t3 (List.mem_of_getElem? (i := 46) (by decide +kernel)) (by decide +kernel)
theorem q_561 : Cond.methodLink RX7 30 Lib.Math.max.name ∈ AL := AL_t3 (List.mem_of_getElem? (i := 47) (by decide +kernel)) (by decide +kernel)
theorem q_562 : Cond.methodLink RX7 33 yX7_placeSign ∈ AL := AL_t3 (List.mem_of_getElem? (i := 48) (by decide +kernel)) (by decide +kernel)
theorem q_563 : Cond.static yX7_placeSign ∈ AL := AL_t3 (List.mem_of_getElem? (i := 49) (by decide +kernel)) (by decide +kernel)
theorem q_564 : Cond.code yX7_placeSign cX7_placeSign 7 (some .int) ∈ AL := AL_t3 (List.mem_of_getElem? (i := 50) (by decide +kernel)) (by decide +kernel)
theorem q_565 : Cond.methodLink RX7 50 yX0_oneAt ∈ AL := AL_t3 (List.mem_of_getElem? (i := 51) (by decide +kernel)) (by decide +kernel)
theorem q_566 : Cond.methodLink RX7 53 yX0_isHub ∈ AL := AL_t3 (List.mem_of_getElem? (i := 52) (by decide +kernel)) (by decide +kernel)
theorem q_567 : Cond.methodLink RX7 42 yX7_sign ∈ AL := AL_t3 (List.mem_of_getElem? (i := 53) (by decide +kernel)) (by decide +kernel)
theorem q_568 : Cond.static yX7_sign ∈ AL := AL_t3 (List.mem_of_getElem? (i := 54) (by decide +kernel)) (by decide +kernel)
theorem q_569 : Cond.code yX7_sign cX7_sign 3 (some .int) ∈ AL := AL_t3 (List.mem_of_getElem? (i := 55) (by decide +kernel)) (by decide +kernel)
theorem q_570 : Cond.methodLink RX7 57 yX0_law ∈ AL := AL_t3 (List.mem_of_getElem? (i := 56) (by decide +kernel)) (by decide +kernel)
theorem q_571 : Cond.instanceMethod yX0_law ∈ AL := AL_t3 (List.mem_of_getElem? (i := 57) (by decide +kernel)) (by decide +kernel)
theorem q_572 : Cond.selects RX0 yX0_law yX0_law ∈ AL := AL_t3 (List.mem_of_getElem? (i := 58) (by decide +kernel)) (by decide +kernel)
theorem q_573 : Cond.code yX0_law cX0_law 2 (some .int) ∈ AL := AL_t3 (List.mem_of_getElem? (i := 59) (by decide +kernel)) (by decide +kernel)
theorem q_574 : Cond.methodLink RX7 37 yX0_fact ∈ AL := AL_t3 (List.mem_of_getElem? (i := 60) (by decide +kernel)) (by decide +kernel)
theorem q_575 : Cond.methodLink RX7 46 yX7_weigh ∈ AL := AL_t3 (List.mem_of_getElem? (i := 61) (by decide +kernel)) (by decide +kernel)
theorem q_576 : Cond.static yX7_weigh ∈ AL := AL_t3 (List.mem_of_getElem? (i := 62) (by decide +kernel)) (by decide +kernel)
theorem q_577 : Cond.code yX7_weigh cX7_weigh 4 (some .int) ∈ AL := AL_t3 (List.mem_of_getElem? (i := 63) (by decide +kernel)) (by decide +kernel)
theorem q_578 : Cond.methodLink RL 64 yX9_tie ∈ AL := AL_t6 (List.mem_of_getElem? (i := 35) (by decide +kernel)) (by decide +kernel)
theorem q_579 : Cond.instanceMethod yX9_tie ∈ AL := AL_t6 (List.mem_of_getElem? (i := 36) (by decide +kernel)) (by decide +kernel)
theorem q_580 : Cond.selects RX9 yX9_tie yX9_tie ∈ AL := AL_t6 (List.mem_of_getElem? (i := 37) (by decide +kernel)) (by decide +kernel)
theorem q_581 : Cond.code yX9_tie cX9_tie 3 (some .int) ∈ AL := AL_t6 (List.mem_of_getElem? (i := 38) (by decide +kernel)) (by decide +kernel)
theorem q_582 : Cond.methodLink RX9 263 yX9_strengthOf ∈ AL := AL_t6 (List.mem_of_getElem? (i := 39) (by decide +kernel)) (by decide +kernel)
theorem q_583 : Cond.instanceMethod yX9_strengthOf ∈ AL := AL_t6 (List.mem_of_getElem? (i := 41) (by decide +kernel)) (by decide +kernel)
theorem q_584 : Cond.selects RX9 yX9_strengthOf yX9_strengthOf ∈ AL := AL_s (List.mem_of_getElem? (i := 49) (by decide +kernel)) (by decide +kernel)
theorem q_585 : Cond.code yX9_strengthOf cX9_strengthOf 10 (some .int) ∈ AL := AL_t6 (List.mem_of_getElem? (i := 42) (by decide +kernel)) (by decide +kernel)
theorem q_586 : Cond.methodLink RX9 260 yX9_weighs ∈ AL := AL_t6 (List.mem_of_getElem? (i := 43) (by decide +kernel)) (by decide +kernel)
theorem q_587 : Cond.instanceMethod yX9_weighs ∈ AL := AL_t6 (List.mem_of_getElem? (i := 45) (by decide +kernel)) (by decide +kernel)
theorem q_588 : Cond.selects RX9 yX9_weighs yX9_weighs ∈ AL := AL_s (List.mem_of_getElem? (i := 50) (by decide +kernel)) (by decide +kernel)
theorem q_589 : Cond.code yX9_weighs cX9_weighs 4 (some .int) ∈ AL := AL_t6 (List.mem_of_getElem? (i := 46) (by decide +kernel)) (by decide +kernel)
theorem q_590 : Cond.methodLink RL 65 yX8_tied ∈ AL := AL_t3 (List.mem_of_getElem? (i := 64) (by decide +kernel)) (by decide +kernel)
theorem q_591 : Cond.instanceMethod yX8_tied ∈ AL := AL_t3 (List.mem_of_getElem? (i := 65) (by decide +kernel)) (by decide +kernel)
theorem q_592 : Cond.selects RX8 yX8_tied yX8_tied ∈ AL := AL_t3 (List.mem_of_getElem? (i := 66) (by decide +kernel)) (by decide +kernel)
theorem q_593 : Cond.code yX8_tied cX8_tied 2 (some .int) ∈ AL := AL_t3 (List.mem_of_getElem? (i := 67) (by decide +kernel)) (by decide +kernel)
theorem q_594 : Cond.methodLink RX8 164 yX7_tiedWith ∈ AL := AL_t3 (List.mem_of_getElem? (i := 68) (by decide +kernel)) (by decide +kernel)
theorem q_595 : Cond.instanceMethod yX7_tiedWith ∈ AL := AL_t3 (List.mem_of_getElem? (i := 69) (by decide +kernel)) (by decide +kernel)
theorem q_596 : Cond.selects RX7 yX7_tiedWith yX7_tiedWith ∈ AL := AL_t3 (List.mem_of_getElem? (i := 70) (by decide +kernel)) (by decide +kernel)
theorem q_597 : Cond.code yX7_tiedWith cX7_tiedWith 5 (some .int) ∈ AL := AL_t3 (List.mem_of_getElem? (i := 71) (by decide +kernel)) (by decide +kernel)
theorem q_598 : Cond.fieldLink RX7 61 "CrashTies$Book" "claims" "I" ∈ AL := AL_t1 (List.mem_of_getElem? (i := 78) (by decide +kernel)) (by decide +kernel)
theorem q_599 : Cond.methodLink RX7 65 yX7_strength ∈ AL := AL_t3 (List.mem_of_getElem? (i := 72) (by decide +kernel)) (by decide +kernel)
theorem q_600 : Cond.methodLink RL 69 yX9_tied ∈ AL := AL_t6 (List.mem_of_getElem? (i := 47) (by decide +kernel)) (by decide +kernel)
theorem q_601 : Cond.instanceMethod yX9_tied ∈ AL := AL_t6 (List.mem_of_getElem? (i := 48) (by decide +kernel)) (by decide +kernel)
theorem q_602 : Cond.selects RX9 yX9_tied yX9_tied ∈ AL := AL_t6 (List.mem_of_getElem? (i := 49) (by decide +kernel)) (by decide +kernel)
theorem q_603 : Cond.code yX9_tied cX9_tied 2 (some .int) ∈ AL := AL_t6 (List.mem_of_getElem? (i := 50) (by decide +kernel)) (by decide +kernel)
theorem q_604 : Cond.methodLink RX9 266 yX9_tiedTo ∈ AL := AL_t6 (List.mem_of_getElem? (i := 51) (by decide +kernel)) (by decide +kernel)
theorem q_605 : Cond.instanceMethod yX9_tiedTo ∈ AL := AL_t6 (List.mem_of_getElem? (i := 53) (by decide +kernel)) (by decide +kernel)
theorem q_606 : Cond.selects RX9 yX9_tiedTo yX9_tiedTo ∈ AL := AL_s (List.mem_of_getElem? (i := 51) (by decide +kernel)) (by decide +kernel)
theorem q_607 : Cond.code yX9_tiedTo cX9_tiedTo 4 (some .int) ∈ AL := AL_t6 (List.mem_of_getElem? (i := 54) (by decide +kernel)) (by decide +kernel)
theorem q_608 : Cond.methodLink RL 70 yX8_hang ∈ AL := AL_t3 (List.mem_of_getElem? (i := 73) (by decide +kernel)) (by decide +kernel)
theorem q_609 : Cond.instanceMethod yX8_hang ∈ AL := AL_t3 (List.mem_of_getElem? (i := 74) (by decide +kernel)) (by decide +kernel)
theorem q_610 : Cond.selects RX8 yX8_hang yX8_hang ∈ AL := AL_t3 (List.mem_of_getElem? (i := 75) (by decide +kernel)) (by decide +kernel)
theorem q_611 : Cond.code yX8_hang cX8_hang 2 (some .int) ∈ AL := AL_t3 (List.mem_of_getElem? (i := 76) (by decide +kernel)) (by decide +kernel)
theorem q_612 : Cond.methodLink RX8 168 yX7_hanging ∈ AL := AL_t3 (List.mem_of_getElem? (i := 77) (by decide +kernel)) (by decide +kernel)
theorem q_613 : Cond.instanceMethod yX7_hanging ∈ AL := AL_t3 (List.mem_of_getElem? (i := 78) (by decide +kernel)) (by decide +kernel)
theorem q_614 : Cond.selects RX7 yX7_hanging yX7_hanging ∈ AL := AL_t3 (List.mem_of_getElem? (i := 79) (by decide +kernel)) (by decide +kernel)
theorem q_615 : Cond.code yX7_hanging cX7_hanging 5 (some .int) ∈ AL := AL_t3 (List.mem_of_getElem? (i := 80) (by decide +kernel)) (by decide +kernel)
theorem q_616 : Cond.methodLink RX7 69 yX7_weave ∈ AL := AL_t3 (List.mem_of_getElem? (i := 81) (by decide +kernel)) (by decide +kernel)
theorem q_617 : Cond.instanceMethod yX7_weave ∈ AL := AL_t3 (List.mem_of_getElem? (i := 83) (by decide +kernel)) (by decide +kernel)
theorem q_618 : Cond.selects RX7 yX7_weave yX7_weave ∈ AL := AL_s (List.mem_of_getElem? (i := 16) (by decide +kernel)) (by decide +kernel)
theorem q_619 : Cond.code yX7_weave cX7_weave 6 none ∈ AL := AL_t3 (List.mem_of_getElem? (i := 84) (by decide +kernel)) (by decide +kernel)
theorem q_620 : Cond.methodLink RX7 73 yX7_tiedToAny ∈ AL := AL_t3 (List.mem_of_getElem? (i := 85) (by decide +kernel)) (by decide +kernel)
theorem q_621 : Cond.instanceMethod yX7_tiedToAny ∈ AL := AL_t3 (List.mem_of_getElem? (i := 87) (by decide +kernel)) (by decide +kernel)
theorem q_622 : Cond.selects RX7 yX7_tiedToAny yX7_tiedToAny ∈ AL := AL_s (List.mem_of_getElem? (i := 17) (by decide +kernel)) (by decide +kernel)
theorem q_623 : Cond.code yX7_tiedToAny cX7_tiedToAny 6 (some .int) ∈ AL := AL_t3 (List.mem_of_getElem? (i := 88) (by decide +kernel)) (by decide +kernel)
theorem q_624 : Cond.methodLink RX7 77 yX7_woven ∈ AL := AL_t3 (List.mem_of_getElem? (i := 89) (by decide +kernel)) (by decide +kernel)
theorem q_625 : Cond.instanceMethod yX7_woven ∈ AL := AL_t3 (List.mem_of_getElem? (i := 90) (by decide +kernel)) (by decide +kernel)
theorem q_626 : Cond.selects RX7 yX7_woven yX7_woven ∈ AL := AL_t3 (List.mem_of_getElem? (i := 91) (by decide +kernel)) (by decide +kernel)
theorem q_627 : Cond.code yX7_woven cX7_woven 4 (some .int) ∈ AL := AL_t3 (List.mem_of_getElem? (i := 92) (by decide +kernel)) (by decide +kernel)
theorem q_628 : Cond.methodLink RL 73 yX9_hang ∈ AL := AL_t6 (List.mem_of_getElem? (i := 55) (by decide +kernel)) (by decide +kernel)
theorem q_629 : Cond.instanceMethod yX9_hang ∈ AL := AL_t6 (List.mem_of_getElem? (i := 56) (by decide +kernel)) (by decide +kernel)
theorem q_630 : Cond.selects RX9 yX9_hang yX9_hang ∈ AL := AL_t6 (List.mem_of_getElem? (i := 57) (by decide +kernel)) (by decide +kernel)
theorem q_631 : Cond.code yX9_hang cX9_hang 5 (some .int) ∈ AL := AL_t6 (List.mem_of_getElem? (i := 58) (by decide +kernel)) (by decide +kernel)
theorem q_632 : Cond.methodLink RL 74 yX8_steps ∈ AL := AL_t3 (List.mem_of_getElem? (i := 93) (by decide +kernel)) (by decide +kernel)
theorem q_633 : Cond.instanceMethod yX8_steps ∈ AL := AL_t3 (List.mem_of_getElem? (i := 94) (by decide +kernel)) (by decide +kernel)
theorem q_634 : Cond.selects RX8 yX8_steps yX8_steps ∈ AL := AL_t3 (List.mem_of_getElem? (i := 95) (by decide +kernel)) (by decide +kernel)
theorem q_635 : Cond.code yX8_steps cX8_steps 3 (some .int) ∈ AL := AL_t3 (List.mem_of_getElem? (i := 96) (by decide +kernel)) (by decide +kernel)
theorem q_636 : Cond.methodLink RX8 171 yX7_stepsBetween ∈ AL := AL_t3 (List.mem_of_getElem? (i := 97) (by decide +kernel)) (by decide +kernel)
theorem q_637 : Cond.instanceMethod yX7_stepsBetween ∈ AL := AL_t3 (List.mem_of_getElem? (i := 98) (by decide +kernel)) (by decide +kernel)
theorem q_638 : Cond.selects RX7 yX7_stepsBetween yX7_stepsBetween ∈ AL := AL_t3 (List.mem_of_getElem? (i := 99) (by decide +kernel)) (by decide +kernel)
theorem q_639 : Cond.code yX7_stepsBetween cX7_stepsBetween 7 (some .int) ∈ AL := AL_t3 (List.mem_of_getElem? (i := 100) (by decide +kernel)) (by decide +kernel)
theorem q_640 : Cond.fieldLink RX7 80 "CrashTies$Book" "people" "I" ∈ AL := AL_t1 (List.mem_of_getElem? (i := 70) (by decide +kernel)) (by decide +kernel)
theorem q_641 : Cond.methodLink RX7 83 yX7_reachFrom ∈ AL := AL_t3 (List.mem_of_getElem? (i := 101) (by decide +kernel)) (by decide +kernel)
theorem q_642 : Cond.instanceMethod yX7_reachFrom ∈ AL := AL_t3 (List.mem_of_getElem? (i := 103) (by decide +kernel)) (by decide +kernel)
theorem q_643 : Cond.selects RX7 yX7_reachFrom yX7_reachFrom ∈ AL := AL_s (List.mem_of_getElem? (i := 18) (by decide +kernel)) (by decide +kernel)
theorem q_644 : Cond.code yX7_reachFrom cX7_reachFrom 7 none ∈ AL := AL_t3 (List.mem_of_getElem? (i := 104) (by decide +kernel)) (by decide +kernel)
theorem q_645 : Cond.methodLink RX7 87 yX0_isIn ∈ AL := AL_t3 (List.mem_of_getElem? (i := 105) (by decide +kernel)) (by decide +kernel)
theorem q_646 : Cond.methodLink RL 77 yX9_steps ∈ AL := AL_t6 (List.mem_of_getElem? (i := 59) (by decide +kernel)) (by decide +kernel)
theorem q_647 : Cond.instanceMethod yX9_steps ∈ AL := AL_t6 (List.mem_of_getElem? (i := 60) (by decide +kernel)) (by decide +kernel)
theorem q_648 : Cond.selects RX9 yX9_steps yX9_steps ∈ AL := AL_t6 (List.mem_of_getElem? (i := 61) (by decide +kernel)) (by decide +kernel)
theorem q_649 : Cond.code yX9_steps cX9_steps 10 (some .int) ∈ AL := AL_t6 (List.mem_of_getElem? (i := 62) (by decide +kernel)) (by decide +kernel)
theorem q_650 : Cond.methodLink RX9 269 yX9_onesIn ∈ AL := AL_t6 (List.mem_of_getElem? (i := 63) (by decide +kernel)) (by decide +kernel)
theorem q_651 : Cond.instanceMethod yX9_onesIn ∈ AL := AL_t6 (List.mem_of_getElem? (i := 65) (by decide +kernel)) (by decide +kernel)
theorem q_652 : Cond.selects RX9 yX9_onesIn yX9_onesIn ∈ AL := AL_s (List.mem_of_getElem? (i := 52) (by decide +kernel)) (by decide +kernel)
theorem q_653 : Cond.code yX9_onesIn cX9_onesIn 4 (some .int) ∈ AL := AL_t6 (List.mem_of_getElem? (i := 66) (by decide +kernel)) (by decide +kernel)
theorem q_654 : Cond.methodLink RL 78 yX8_turned ∈ AL := AL_t3 (List.mem_of_getElem? (i := 106) (by decide +kernel)) (by decide +kernel)
theorem q_655 : Cond.instanceMethod yX8_turned ∈ AL := AL_t3 (List.mem_of_getElem? (i := 107) (by decide +kernel)) (by decide +kernel)
theorem q_656 : Cond.selects RX8 yX8_turned yX8_turned ∈ AL := AL_t3 (List.mem_of_getElem? (i := 108) (by decide +kernel)) (by decide +kernel)
theorem q_657 : Cond.code yX8_turned cX8_turned 8 (some .int) ∈ AL := AL_t3 (List.mem_of_getElem? (i := 109) (by decide +kernel)) (by decide +kernel)
theorem q_658 : Cond.methodLink RX8 175 yX0_oneAt ∈ AL := AL_t3 (List.mem_of_getElem? (i := 110) (by decide +kernel)) (by decide +kernel)
theorem q_659 : Cond.methodLink RL 81 yX9_turned ∈ AL := AL_t6 (List.mem_of_getElem? (i := 67) (by decide +kernel)) (by decide +kernel)
theorem q_660 : Cond.instanceMethod yX9_turned ∈ AL := AL_t6 (List.mem_of_getElem? (i := 68) (by decide +kernel)) (by decide +kernel)
theorem q_661 : Cond.selects RX9 yX9_turned yX9_turned ∈ AL := AL_t6 (List.mem_of_getElem? (i := 69) (by decide +kernel)) (by decide +kernel)
theorem q_662 : Cond.code yX9_turned cX9_turned 7 (some .int) ∈ AL := AL_t6 (List.mem_of_getElem? (i := 70) (by decide +kernel)) (by decide +kernel)
theorem q_663 : Cond.methodLink RL 82 yX8_score ∈ AL := AL_t3 (List.mem_of_getElem? (i := 111) (by decide +kernel)) (by decide +kernel)
theorem q_664 : Cond.instanceMethod yX8_score ∈ AL := AL_t3 (List.mem_of_getElem? (i := 112) (by decide +kernel)) (by decide +kernel)
theorem q_665 : Cond.selects RX8 yX8_score yX8_score ∈ AL := AL_t3 (List.mem_of_getElem? (i := 113) (by decide +kernel)) (by decide +kernel)
theorem q_666 : Cond.code yX8_score cX8_score 2 (some .int) ∈ AL := AL_t3 (List.mem_of_getElem? (i := 114) (by decide +kernel)) (by decide +kernel)
theorem q_667 : Cond.constant RX8 189 (100000) ∈ AL := AL_t3 (List.mem_of_getElem? (i := 131) (by decide +kernel)) (by decide +kernel)
theorem q_668 : Cond.methodLink RX8 178 yX0_allClaims ∈ AL := AL_t3 (List.mem_of_getElem? (i := 115) (by decide +kernel)) (by decide +kernel)
theorem q_669 : Cond.instanceMethod yX0_allClaims ∈ AL := AL_t3 (List.mem_of_getElem? (i := 116) (by decide +kernel)) (by decide +kernel)
theorem q_670 : Cond.selects RX0 yX0_allClaims yX0_allClaims ∈ AL := AL_t3 (List.mem_of_getElem? (i := 117) (by decide +kernel)) (by decide +kernel)
theorem q_671 : Cond.code yX0_allClaims cX0_allClaims 1 (some .int) ∈ AL := AL_t3 (List.mem_of_getElem? (i := 118) (by decide +kernel)) (by decide +kernel)
theorem q_672 : Cond.methodLink RX8 182 yX7_scoreSets ∈ AL := AL_t3 (List.mem_of_getElem? (i := 119) (by decide +kernel)) (by decide +kernel)
theorem q_673 : Cond.instanceMethod yX7_scoreSets ∈ AL := AL_t3 (List.mem_of_getElem? (i := 120) (by decide +kernel)) (by decide +kernel)
theorem q_674 : Cond.selects RX7 yX7_scoreSets yX7_scoreSets ∈ AL := AL_t3 (List.mem_of_getElem? (i := 121) (by decide +kernel)) (by decide +kernel)
theorem q_675 : Cond.code yX7_scoreSets cX7_scoreSets 6 none ∈ AL := AL_t3 (List.mem_of_getElem? (i := 122) (by decide +kernel)) (by decide +kernel)
theorem q_676 : Cond.methodLink RX7 91 yX7_bonds ∈ AL := AL_t3 (List.mem_of_getElem? (i := 123) (by decide +kernel)) (by decide +kernel)
theorem q_677 : Cond.instanceMethod yX7_bonds ∈ AL := AL_t3 (List.mem_of_getElem? (i := 125) (by decide +kernel)) (by decide +kernel)
theorem q_678 : Cond.selects RX7 yX7_bonds yX7_bonds ∈ AL := AL_s (List.mem_of_getElem? (i := 19) (by decide +kernel)) (by decide +kernel)
theorem q_679 : Cond.code yX7_bonds cX7_bonds 5 (some .int) ∈ AL := AL_t3 (List.mem_of_getElem? (i := 126) (by decide +kernel)) (by decide +kernel)
theorem q_680 : Cond.methodLink RX8 186 yX7_scoreOf ∈ AL := AL_t3 (List.mem_of_getElem? (i := 127) (by decide +kernel)) (by decide +kernel)
theorem q_681 : Cond.instanceMethod yX7_scoreOf ∈ AL := AL_t3 (List.mem_of_getElem? (i := 128) (by decide +kernel)) (by decide +kernel)
theorem q_682 : Cond.selects RX7 yX7_scoreOf yX7_scoreOf ∈ AL := AL_t3 (List.mem_of_getElem? (i := 129) (by decide +kernel)) (by decide +kernel)
theorem q_683 : Cond.code yX7_scoreOf cX7_scoreOf 2 (some .int) ∈ AL := AL_t3 (List.mem_of_getElem? (i := 130) (by decide +kernel)) (by decide +kernel)
theorem q_684 : Cond.methodLink RL 85 yX9_score ∈ AL := AL_t6 (List.mem_of_getElem? (i := 71) (by decide +kernel)) (by decide +kernel)
theorem q_685 : Cond.instanceMethod yX9_score ∈ AL := AL_t6 (List.mem_of_getElem? (i := 72) (by decide +kernel)) (by decide +kernel)
theorem q_686 : Cond.selects RX9 yX9_score yX9_score ∈ AL := AL_t6 (List.mem_of_getElem? (i := 73) (by decide +kernel)) (by decide +kernel)
theorem q_687 : Cond.code yX9_score cX9_score 2 (some .int) ∈ AL := AL_t6 (List.mem_of_getElem? (i := 74) (by decide +kernel)) (by decide +kernel)
theorem q_688 : Cond.constant RX9 281 (100000) ∈ AL := AL_t6 (List.mem_of_getElem? (i := 83) (by decide +kernel)) (by decide +kernel)
theorem q_689 : Cond.methodLink RX9 275 yX9_isSet ∈ AL := AL_t6 (List.mem_of_getElem? (i := 75) (by decide +kernel)) (by decide +kernel)
theorem q_690 : Cond.instanceMethod yX9_isSet ∈ AL := AL_t6 (List.mem_of_getElem? (i := 77) (by decide +kernel)) (by decide +kernel)
theorem q_691 : Cond.selects RX9 yX9_isSet yX9_isSet ∈ AL := AL_s (List.mem_of_getElem? (i := 53) (by decide +kernel)) (by decide +kernel)
theorem q_692 : Cond.code yX9_isSet cX9_isSet 2 (some .boolean) ∈ AL := AL_t6 (List.mem_of_getElem? (i := 78) (by decide +kernel)) (by decide +kernel)
theorem q_693 : Cond.methodLink RX9 278 yX9_findStrengths ∈ AL := AL_t6 (List.mem_of_getElem? (i := 79) (by decide +kernel)) (by decide +kernel)
theorem q_694 : Cond.instanceMethod yX9_findStrengths ∈ AL := AL_t6 (List.mem_of_getElem? (i := 81) (by decide +kernel)) (by decide +kernel)
theorem q_695 : Cond.selects RX9 yX9_findStrengths yX9_findStrengths ∈ AL := AL_s (List.mem_of_getElem? (i := 54) (by decide +kernel)) (by decide +kernel)
theorem q_696 : Cond.code yX9_findStrengths cX9_findStrengths 3 none ∈ AL := AL_t6 (List.mem_of_getElem? (i := 82) (by decide +kernel)) (by decide +kernel)
theorem q_697 : Cond.methodLink RX9 282 yX9_scoreOf ∈ AL := AL_t6 (List.mem_of_getElem? (i := 84) (by decide +kernel)) (by decide +kernel)
theorem q_698 : Cond.instanceMethod yX9_scoreOf ∈ AL := AL_t6 (List.mem_of_getElem? (i := 86) (by decide +kernel)) (by decide +kernel)
theorem q_699 : Cond.selects RX9 yX9_scoreOf yX9_scoreOf ∈ AL := AL_s (List.mem_of_getElem? (i := 55) (by decide +kernel)) (by decide +kernel)
theorem q_700 : Cond.code yX9_scoreOf cX9_scoreOf 5 (some .int) ∈ AL := AL_t6 (List.mem_of_getElem? (i := 87) (by decide +kernel)) (by decide +kernel)
theorem q_701 : Cond.methodLink RX9 272 yX9_ones ∈ AL := AL_t6 (List.mem_of_getElem? (i := 88) (by decide +kernel)) (by decide +kernel)
theorem q_702 : Cond.static yX9_ones ∈ AL := AL_t6 (List.mem_of_getElem? (i := 89) (by decide +kernel)) (by decide +kernel)
theorem q_703 : Cond.code yX9_ones cX9_ones 3 (some .int) ∈ AL := AL_t6 (List.mem_of_getElem? (i := 90) (by decide +kernel)) (by decide +kernel)
theorem q_704 : Cond.methodLink RL 86 yX8_lot ∈ AL := AL_t3 (List.mem_of_getElem? (i := 132) (by decide +kernel)) (by decide +kernel)
theorem q_705 : Cond.instanceMethod yX8_lot ∈ AL := AL_t3 (List.mem_of_getElem? (i := 133) (by decide +kernel)) (by decide +kernel)
theorem q_706 : Cond.selects RX8 yX8_lot yX8_lot ∈ AL := AL_t3 (List.mem_of_getElem? (i := 134) (by decide +kernel)) (by decide +kernel)
theorem q_707 : Cond.code yX8_lot cX8_lot 3 (some .int) ∈ AL := AL_t3 (List.mem_of_getElem? (i := 135) (by decide +kernel)) (by decide +kernel)
theorem q_708 : Cond.methodLink RX8 190 yX7_findLot ∈ AL := AL_t3 (List.mem_of_getElem? (i := 136) (by decide +kernel)) (by decide +kernel)
theorem q_709 : Cond.instanceMethod yX7_findLot ∈ AL := AL_t3 (List.mem_of_getElem? (i := 137) (by decide +kernel)) (by decide +kernel)
theorem q_710 : Cond.selects RX7 yX7_findLot yX7_findLot ∈ AL := AL_t3 (List.mem_of_getElem? (i := 138) (by decide +kernel)) (by decide +kernel)
theorem q_711 : Cond.code yX7_findLot cX7_findLot 5 (some .int) ∈ AL := AL_t3 (List.mem_of_getElem? (i := 139) (by decide +kernel)) (by decide +kernel)
theorem q_712 : Cond.methodLink RX7 94 yX7_scoreSets ∈ AL := AL_t3 (List.mem_of_getElem? (i := 140) (by decide +kernel)) (by decide +kernel)
theorem q_713 : Cond.methodLink RX7 97 yX0_allClaims ∈ AL := AL_t3 (List.mem_of_getElem? (i := 141) (by decide +kernel)) (by decide +kernel)
theorem q_714 : Cond.methodLink RX7 101 yJ6_bitCount_0f7a4 ∈ AL := AL_t3 (List.mem_of_getElem? (i := 142) (by decide +kernel)) (by decide +kernel)
theorem q_715 : Cond.static yJ6_bitCount_0f7a4 ∈ AL := AL_t3 (List.mem_of_getElem? (i := 143) (by decide +kernel)) (by decide +kernel)
theorem q_716 : Cond.initialized RJ6 ∈ AL := AL_t1 (List.mem_of_getElem? (i := 15) (by decide +kernel)) (by decide +kernel)
theorem q_717 : Cond.code yJ6_bitCount_0f7a4 cJ6_bitCount_0f7a4 1 (some .int) ∈ AL := AL_t3 (List.mem_of_getElem? (i := 144) (by decide +kernel)) (by decide +kernel)
theorem q_718 : Cond.constant RJ6 265 (1431655765) ∈ AL := AL_t3 (List.mem_of_getElem? (i := 145) (by decide +kernel)) (by decide +kernel)
theorem q_719 : Cond.constant RJ6 266 (858993459) ∈ AL := AL_t3 (List.mem_of_getElem? (i := 146) (by decide +kernel)) (by decide +kernel)
theorem q_720 : Cond.constant RJ6 267 (252645135) ∈ AL := AL_t3 (List.mem_of_getElem? (i := 147) (by decide +kernel)) (by decide +kernel)
theorem q_721 : Cond.methodLink RX7 106 yX7_isBetterLot ∈ AL := AL_t3 (List.mem_of_getElem? (i := 148) (by decide +kernel)) (by decide +kernel)
theorem q_722 : Cond.instanceMethod yX7_isBetterLot ∈ AL := AL_t3 (List.mem_of_getElem? (i := 150) (by decide +kernel)) (by decide +kernel)
theorem q_723 : Cond.selects RX7 yX7_isBetterLot yX7_isBetterLot ∈ AL := AL_s (List.mem_of_getElem? (i := 20) (by decide +kernel)) (by decide +kernel)
theorem q_724 : Cond.code yX7_isBetterLot cX7_isBetterLot 3 (some .boolean) ∈ AL := AL_t3 (List.mem_of_getElem? (i := 151) (by decide +kernel)) (by decide +kernel)
theorem q_725 : Cond.methodLink RX7 109 yX7_scoreOf ∈ AL := AL_t3 (List.mem_of_getElem? (i := 152) (by decide +kernel)) (by decide +kernel)
theorem q_726 : Cond.methodLink RL 89 yX9_lot ∈ AL := AL_t6 (List.mem_of_getElem? (i := 91) (by decide +kernel)) (by decide +kernel)
theorem q_727 : Cond.instanceMethod yX9_lot ∈ AL := AL_t6 (List.mem_of_getElem? (i := 92) (by decide +kernel)) (by decide +kernel)
theorem q_728 : Cond.selects RX9 yX9_lot yX9_lot ∈ AL := AL_t6 (List.mem_of_getElem? (i := 93) (by decide +kernel)) (by decide +kernel)
theorem q_729 : Cond.code yX9_lot cX9_lot 3 (some .int) ∈ AL := AL_t6 (List.mem_of_getElem? (i := 94) (by decide +kernel)) (by decide +kernel)
theorem q_730 : Cond.fieldLink RX9 285 "CrashTiesModel" "lotScore" "I" ∈ AL := AL_t4 (List.mem_of_getElem? (i := 228) (by decide +kernel)) (by decide +kernel)
theorem q_731 : Cond.methodLink RX9 288 yX9_isSide ∈ AL := AL_t6 (List.mem_of_getElem? (i := 95) (by decide +kernel)) (by decide +kernel)
theorem q_732 : Cond.static yX9_isSide ∈ AL := AL_t6 (List.mem_of_getElem? (i := 96) (by decide +kernel)) (by decide +kernel)
theorem q_733 : Cond.code yX9_isSide cX9_isSide 1 (some .boolean) ∈ AL := AL_t6 (List.mem_of_getElem? (i := 97) (by decide +kernel)) (by decide +kernel)
theorem q_734 : Cond.methodLink RX9 291 yX9_findLot ∈ AL := AL_t6 (List.mem_of_getElem? (i := 98) (by decide +kernel)) (by decide +kernel)
theorem q_735 : Cond.instanceMethod yX9_findLot ∈ AL := AL_t6 (List.mem_of_getElem? (i := 100) (by decide +kernel)) (by decide +kernel)
theorem q_736 : Cond.selects RX9 yX9_findLot yX9_findLot ∈ AL := AL_s (List.mem_of_getElem? (i := 56) (by decide +kernel)) (by decide +kernel)
theorem q_737 : Cond.code yX9_findLot cX9_findLot 5 (some .int) ∈ AL := AL_t6 (List.mem_of_getElem? (i := 101) (by decide +kernel)) (by decide +kernel)
theorem q_738 : Cond.methodLink RL 90 yX8_seen ∈ AL := AL_t3 (List.mem_of_getElem? (i := 153) (by decide +kernel)) (by decide +kernel)
theorem q_739 : Cond.instanceMethod yX8_seen ∈ AL := AL_t3 (List.mem_of_getElem? (i := 154) (by decide +kernel)) (by decide +kernel)
theorem q_740 : Cond.selects RX8 yX8_seen yX8_seen ∈ AL := AL_t3 (List.mem_of_getElem? (i := 155) (by decide +kernel)) (by decide +kernel)
theorem q_741 : Cond.code yX8_seen cX8_seen 2 (some .int) ∈ AL := AL_t3 (List.mem_of_getElem? (i := 156) (by decide +kernel)) (by decide +kernel)
theorem q_742 : Cond.methodLink RX8 193 yX7_firstDay ∈ AL := AL_t3 (List.mem_of_getElem? (i := 157) (by decide +kernel)) (by decide +kernel)
theorem q_743 : Cond.instanceMethod yX7_firstDay ∈ AL := AL_t3 (List.mem_of_getElem? (i := 158) (by decide +kernel)) (by decide +kernel)
theorem q_744 : Cond.selects RX7 yX7_firstDay yX7_firstDay ∈ AL := AL_t3 (List.mem_of_getElem? (i := 159) (by decide +kernel)) (by decide +kernel)
theorem q_745 : Cond.code yX7_firstDay cX7_firstDay 6 (some .int) ∈ AL := AL_t3 (List.mem_of_getElem? (i := 160) (by decide +kernel)) (by decide +kernel)
theorem q_746 : Cond.methodLink RX7 112 yX7_lastDay ∈ AL := AL_t3 (List.mem_of_getElem? (i := 161) (by decide +kernel)) (by decide +kernel)
theorem q_747 : Cond.static yX7_lastDay ∈ AL := AL_t3 (List.mem_of_getElem? (i := 162) (by decide +kernel)) (by decide +kernel)
theorem q_748 : Cond.code yX7_lastDay cX7_lastDay 4 (some .int) ∈ AL := AL_t3 (List.mem_of_getElem? (i := 163) (by decide +kernel)) (by decide +kernel)
theorem q_749 : Cond.methodLink RL 93 yX9_seen ∈ AL := AL_t6 (List.mem_of_getElem? (i := 102) (by decide +kernel)) (by decide +kernel)
theorem q_750 : Cond.instanceMethod yX9_seen ∈ AL := AL_t6 (List.mem_of_getElem? (i := 103) (by decide +kernel)) (by decide +kernel)
theorem q_751 : Cond.selects RX9 yX9_seen yX9_seen ∈ AL := AL_t6 (List.mem_of_getElem? (i := 104) (by decide +kernel)) (by decide +kernel)
theorem q_752 : Cond.code yX9_seen cX9_seen 6 (some .int) ∈ AL := AL_t6 (List.mem_of_getElem? (i := 105) (by decide +kernel)) (by decide +kernel)
theorem q_753 : Cond.methodLink RL 94 yX8_without ∈ AL := AL_t3 (List.mem_of_getElem? (i := 164) (by decide +kernel)) (by decide +kernel)
theorem q_754 : Cond.instanceMethod yX8_without ∈ AL := AL_t3 (List.mem_of_getElem? (i := 165) (by decide +kernel)) (by decide +kernel)
theorem q_755 : Cond.selects RX8 yX8_without yX8_without ∈ AL := AL_t3 (List.mem_of_getElem? (i := 166) (by decide +kernel)) (by decide +kernel)
theorem q_756 : Cond.code yX8_without cX8_without 2 (some .int) ∈ AL := AL_t3 (List.mem_of_getElem? (i := 167) (by decide +kernel)) (by decide +kernel)
theorem q_757 : Cond.methodLink RL 97 yX9_without ∈ AL := AL_t6 (List.mem_of_getElem? (i := 106) (by decide +kernel)) (by decide +kernel)
theorem q_758 : Cond.instanceMethod yX9_without ∈ AL := AL_t6 (List.mem_of_getElem? (i := 107) (by decide +kernel)) (by decide +kernel)
theorem q_759 : Cond.selects RX9 yX9_without yX9_without ∈ AL := AL_t6 (List.mem_of_getElem? (i := 108) (by decide +kernel)) (by decide +kernel)
theorem q_760 : Cond.code yX9_without cX9_without 2 (some .int) ∈ AL := AL_t6 (List.mem_of_getElem? (i := 109) (by decide +kernel)) (by decide +kernel)
theorem q_761 : Cond.methodLink RX9 294 yX9_lotWithout ∈ AL := AL_t6 (List.mem_of_getElem? (i := 110) (by decide +kernel)) (by decide +kernel)
theorem q_762 : Cond.instanceMethod yX9_lotWithout ∈ AL := AL_t6 (List.mem_of_getElem? (i := 112) (by decide +kernel)) (by decide +kernel)
theorem q_763 : Cond.selects RX9 yX9_lotWithout yX9_lotWithout ∈ AL := AL_s (List.mem_of_getElem? (i := 57) (by decide +kernel)) (by decide +kernel)
theorem q_764 : Cond.code yX9_lotWithout cX9_lotWithout 4 (some .int) ∈ AL := AL_t6 (List.mem_of_getElem? (i := 113) (by decide +kernel)) (by decide +kernel)
theorem q_765 : Cond.methodLink RL 98 yX8_hold ∈ AL := AL_t3 (List.mem_of_getElem? (i := 168) (by decide +kernel)) (by decide +kernel)
theorem q_766 : Cond.instanceMethod yX8_hold ∈ AL := AL_t3 (List.mem_of_getElem? (i := 169) (by decide +kernel)) (by decide +kernel)
theorem q_767 : Cond.selects RX8 yX8_hold yX8_hold ∈ AL := AL_t3 (List.mem_of_getElem? (i := 170) (by decide +kernel)) (by decide +kernel)
theorem q_768 : Cond.code yX8_hold cX8_hold 4 (some .int) ∈ AL := AL_t3 (List.mem_of_getElem? (i := 171) (by decide +kernel)) (by decide +kernel)
theorem q_769 : Cond.methodLink RL 101 yX9_hold ∈ AL := AL_t6 (List.mem_of_getElem? (i := 114) (by decide +kernel)) (by decide +kernel)
theorem q_770 : Cond.instanceMethod yX9_hold ∈ AL := AL_t6 (List.mem_of_getElem? (i := 115) (by decide +kernel)) (by decide +kernel)
theorem q_771 : Cond.selects RX9 yX9_hold yX9_hold ∈ AL := AL_t6 (List.mem_of_getElem? (i := 116) (by decide +kernel)) (by decide +kernel)
theorem q_772 : Cond.code yX9_hold cX9_hold 4 (some .int) ∈ AL := AL_t6 (List.mem_of_getElem? (i := 117) (by decide +kernel)) (by decide +kernel)
theorem q_773 : Cond.methodLink RL 102 yX8_odds ∈ AL := AL_t3 (List.mem_of_getElem? (i := 172) (by decide +kernel)) (by decide +kernel)
theorem q_774 : Cond.instanceMethod yX8_odds ∈ AL := AL_t3 (List.mem_of_getElem? (i := 173) (by decide +kernel)) (by decide +kernel)
theorem q_775 : Cond.selects RX8 yX8_odds yX8_odds ∈ AL := AL_t3 (List.mem_of_getElem? (i := 174) (by decide +kernel)) (by decide +kernel)
theorem q_776 : Cond.code yX8_odds cX8_odds 10 (some .long) ∈ AL := AL_t3 (List.mem_of_getElem? (i := 175) (by decide +kernel)) (by decide +kernel)
theorem q_777 : Cond.constantLong RX8 196 (-1) ∈ AL := AL_t3 (List.mem_of_getElem? (i := 176) (by decide +kernel)) (by decide +kernel)
theorem q_778 : Cond.methodLink RX8 198 yX0_isIn ∈ AL := AL_t3 (List.mem_of_getElem? (i := 177) (by decide +kernel)) (by decide +kernel)
theorem q_779 : Cond.methodLink RX8 201 yX2_asManyOrMore ∈ AL := AL_t3 (List.mem_of_getElem? (i := 178) (by decide +kernel)) (by decide +kernel)
theorem q_780 : Cond.static yX2_asManyOrMore ∈ AL := AL_t3 (List.mem_of_getElem? (i := 179) (by decide +kernel)) (by decide +kernel)
theorem q_781 : Cond.initialized RX2 ∈ AL := AL_t1 (List.mem_of_getElem? (i := 16) (by decide +kernel)) (by decide +kernel)
theorem q_782 : Cond.code yX2_asManyOrMore cX2_asManyOrMore 9 (some .long) ∈ AL := AL_t3 (List.mem_of_getElem? (i := 180) (by decide +kernel)) (by decide +kernel)
theorem q_783 : Cond.constantLong RX2 9 (4) ∈ AL := AL_t3 (List.mem_of_getElem? (i := 181) (by decide +kernel)) (by decide +kernel)
theorem q_784 : Cond.methodLink RX2 11 yX2_power ∈ AL := AL_t3 (List.mem_of_getElem? (i := 182) (by decide +kernel)) (by decide +kernel)
theorem q_785 : Cond.static yX2_power ∈ AL := AL_t3 (List.mem_of_getElem? (i := 183) (by decide +kernel)) (by decide +kernel)
theorem q_786 : Cond.code yX2_power cX2_power 6 (some .long) ∈ AL := AL_t3 (List.mem_of_getElem? (i := 184) (by decide +kernel)) (by decide +kernel)
theorem q_787 : Cond.methodLink RX8 207 yX2_power ∈ AL := AL_t3 (List.mem_of_getElem? (i := 185) (by decide +kernel)) (by decide +kernel)
theorem q_788 : Cond.methodLink RX8 211 yX2_part ∈ AL := AL_t3 (List.mem_of_getElem? (i := 186) (by decide +kernel)) (by decide +kernel)
theorem q_789 : Cond.static yX2_part ∈ AL := AL_t3 (List.mem_of_getElem? (i := 187) (by decide +kernel)) (by decide +kernel)
theorem q_790 : Cond.code yX2_part cX2_part 7 (some .long) ∈ AL := AL_t3 (List.mem_of_getElem? (i := 188) (by decide +kernel)) (by decide +kernel)
theorem q_791 : Cond.methodLink RX2 17 yX2_commonDivisor ∈ AL := AL_t3 (List.mem_of_getElem? (i := 189) (by decide +kernel)) (by decide +kernel)
theorem q_792 : Cond.static yX2_commonDivisor ∈ AL := AL_t3 (List.mem_of_getElem? (i := 190) (by decide +kernel)) (by decide +kernel)
theorem q_793 : Cond.code yX2_commonDivisor cX2_commonDivisor 11 (some .long) ∈ AL := AL_t3 (List.mem_of_getElem? (i := 191) (by decide +kernel)) (by decide +kernel)
theorem q_794 : Cond.methodLink RL 106 yX9_odds ∈ AL := AL_t6 (List.mem_of_getElem? (i := 118) (by decide +kernel)) (by decide +kernel)
theorem q_795 : Cond.instanceMethod yX9_odds ∈ AL := AL_t6 (List.mem_of_getElem? (i := 119) (by decide +kernel)) (by decide +kernel)
theorem q_796 : Cond.selects RX9 yX9_odds yX9_odds ∈ AL := AL_t6 (List.mem_of_getElem? (i := 120) (by decide +kernel)) (by decide +kernel)
theorem q_797 : Cond.code yX9_odds cX9_odds 11 (some .long) ∈ AL := AL_t6 (List.mem_of_getElem? (i := 121) (by decide +kernel)) (by decide +kernel)
theorem q_798 : Cond.constantLong RX9 303 (4) ∈ AL := AL_t6 (List.mem_of_getElem? (i := 122) (by decide +kernel)) (by decide +kernel)
theorem q_799 : Cond.fieldLink RX9 297 "CrashTiesModel" "above" "J" ∈ AL := AL_t4 (List.mem_of_getElem? (i := 229) (by decide +kernel)) (by decide +kernel)
theorem q_800 : Cond.fieldLink RX9 300 "CrashTiesModel" "below" "J" ∈ AL := AL_t4 (List.mem_of_getElem? (i := 230) (by decide +kernel)) (by decide +kernel)
theorem q_801 : Cond.methodLink RX9 305 yX9_lowest ∈ AL := AL_t6 (List.mem_of_getElem? (i := 123) (by decide +kernel)) (by decide +kernel)
theorem q_802 : Cond.instanceMethod yX9_lowest ∈ AL := AL_t6 (List.mem_of_getElem? (i := 125) (by decide +kernel)) (by decide +kernel)
theorem q_803 : Cond.selects RX9 yX9_lowest yX9_lowest ∈ AL := AL_s (List.mem_of_getElem? (i := 58) (by decide +kernel)) (by decide +kernel)
theorem q_804 : Cond.code yX9_lowest cX9_lowest 11 none ∈ AL := AL_t6 (List.mem_of_getElem? (i := 126) (by decide +kernel)) (by decide +kernel)
theorem q_805 : Cond.methodLink RL 107 yX8_likely ∈ AL := AL_t3 (List.mem_of_getElem? (i := 192) (by decide +kernel)) (by decide +kernel)
theorem q_806 : Cond.instanceMethod yX8_likely ∈ AL := AL_t3 (List.mem_of_getElem? (i := 193) (by decide +kernel)) (by decide +kernel)
theorem q_807 : Cond.selects RX8 yX8_likely yX8_likely ∈ AL := AL_t3 (List.mem_of_getElem? (i := 194) (by decide +kernel)) (by decide +kernel)
theorem q_808 : Cond.code yX8_likely cX8_likely 2 (some .int) ∈ AL := AL_t3 (List.mem_of_getElem? (i := 195) (by decide +kernel)) (by decide +kernel)
theorem q_809 : Cond.methodLink RX8 215 yX7_likelihood ∈ AL := AL_t3 (List.mem_of_getElem? (i := 196) (by decide +kernel)) (by decide +kernel)
theorem q_810 : Cond.instanceMethod yX7_likelihood ∈ AL := AL_t3 (List.mem_of_getElem? (i := 197) (by decide +kernel)) (by decide +kernel)
theorem q_811 : Cond.selects RX7 yX7_likelihood yX7_likelihood ∈ AL := AL_t3 (List.mem_of_getElem? (i := 198) (by decide +kernel)) (by decide +kernel)
theorem q_812 : Cond.code yX7_likelihood cX7_likelihood 5 (some .int) ∈ AL := AL_t3 (List.mem_of_getElem? (i := 199) (by decide +kernel)) (by decide +kernel)
theorem q_813 : Cond.methodLink RL 110 yX9_likely ∈ AL := AL_t6 (List.mem_of_getElem? (i := 127) (by decide +kernel)) (by decide +kernel)
theorem q_814 : Cond.instanceMethod yX9_likely ∈ AL := AL_t6 (List.mem_of_getElem? (i := 128) (by decide +kernel)) (by decide +kernel)
theorem q_815 : Cond.selects RX9 yX9_likely yX9_likely ∈ AL := AL_t6 (List.mem_of_getElem? (i := 129) (by decide +kernel)) (by decide +kernel)
theorem q_816 : Cond.code yX9_likely cX9_likely 2 (some .int) ∈ AL := AL_t6 (List.mem_of_getElem? (i := 130) (by decide +kernel)) (by decide +kernel)
theorem q_817 : Cond.methodLink RX9 309 yX9_likelyOf ∈ AL := AL_t6 (List.mem_of_getElem? (i := 131) (by decide +kernel)) (by decide +kernel)
theorem q_818 : Cond.instanceMethod yX9_likelyOf ∈ AL := AL_t6 (List.mem_of_getElem? (i := 133) (by decide +kernel)) (by decide +kernel)
theorem q_819 : Cond.selects RX9 yX9_likelyOf yX9_likelyOf ∈ AL := AL_s (List.mem_of_getElem? (i := 59) (by decide +kernel)) (by decide +kernel)
theorem q_820 : Cond.code yX9_likelyOf cX9_likelyOf 4 (some .int) ∈ AL := AL_t6 (List.mem_of_getElem? (i := 134) (by decide +kernel)) (by decide +kernel)
theorem q_821 : Cond.methodLink RL 111 yX8_best ∈ AL := AL_t3 (List.mem_of_getElem? (i := 200) (by decide +kernel)) (by decide +kernel)
theorem q_822 : Cond.instanceMethod yX8_best ∈ AL := AL_t3 (List.mem_of_getElem? (i := 201) (by decide +kernel)) (by decide +kernel)
theorem q_823 : Cond.selects RX8 yX8_best yX8_best ∈ AL := AL_t3 (List.mem_of_getElem? (i := 202) (by decide +kernel)) (by decide +kernel)
theorem q_824 : Cond.code yX8_best cX8_best 3 (some .int) ∈ AL := AL_t3 (List.mem_of_getElem? (i := 203) (by decide +kernel)) (by decide +kernel)
theorem q_825 : Cond.methodLink RX8 218 yX7_findAsked ∈ AL := AL_t3 (List.mem_of_getElem? (i := 204) (by decide +kernel)) (by decide +kernel)
theorem q_826 : Cond.instanceMethod yX7_findAsked ∈ AL := AL_t3 (List.mem_of_getElem? (i := 205) (by decide +kernel)) (by decide +kernel)
theorem q_827 : Cond.selects RX7 yX7_findAsked yX7_findAsked ∈ AL := AL_t3 (List.mem_of_getElem? (i := 206) (by decide +kernel)) (by decide +kernel)
theorem q_828 : Cond.code yX7_findAsked cX7_findAsked 7 (some .int) ∈ AL := AL_t3 (List.mem_of_getElem? (i := 207) (by decide +kernel)) (by decide +kernel)
theorem q_829 : Cond.methodLink RX7 115 yX7_likelihood ∈ AL := AL_t3 (List.mem_of_getElem? (i := 208) (by decide +kernel)) (by decide +kernel)
theorem q_830 : Cond.methodLink RX7 118 yX0_seated ∈ AL := AL_t3 (List.mem_of_getElem? (i := 209) (by decide +kernel)) (by decide +kernel)
theorem q_831 : Cond.instanceMethod yX0_seated ∈ AL := AL_t3 (List.mem_of_getElem? (i := 210) (by decide +kernel)) (by decide +kernel)
theorem q_832 : Cond.selects RX0 yX0_seated yX0_seated ∈ AL := AL_t3 (List.mem_of_getElem? (i := 211) (by decide +kernel)) (by decide +kernel)
theorem q_833 : Cond.code yX0_seated cX0_seated 4 (some .int) ∈ AL := AL_t3 (List.mem_of_getElem? (i := 212) (by decide +kernel)) (by decide +kernel)
theorem q_834 : Cond.methodLink RL 114 yX9_best ∈ AL := AL_t6 (List.mem_of_getElem? (i := 135) (by decide +kernel)) (by decide +kernel)
theorem q_835 : Cond.instanceMethod yX9_best ∈ AL := AL_t6 (List.mem_of_getElem? (i := 136) (by decide +kernel)) (by decide +kernel)
theorem q_836 : Cond.selects RX9 yX9_best yX9_best ∈ AL := AL_t6 (List.mem_of_getElem? (i := 137) (by decide +kernel)) (by decide +kernel)
theorem q_837 : Cond.code yX9_best cX9_best 8 (some .int) ∈ AL := AL_t6 (List.mem_of_getElem? (i := 138) (by decide +kernel)) (by decide +kernel)
theorem q_838 : Cond.methodLink RX9 312 yX9_peopleIn ∈ AL := AL_t6 (List.mem_of_getElem? (i := 139) (by decide +kernel)) (by decide +kernel)
theorem q_839 : Cond.instanceMethod yX9_peopleIn ∈ AL := AL_t6 (List.mem_of_getElem? (i := 141) (by decide +kernel)) (by decide +kernel)
theorem q_840 : Cond.selects RX9 yX9_peopleIn yX9_peopleIn ∈ AL := AL_s (List.mem_of_getElem? (i := 60) (by decide +kernel)) (by decide +kernel)
theorem q_841 : Cond.code yX9_peopleIn cX9_peopleIn 4 (some .int) ∈ AL := AL_t6 (List.mem_of_getElem? (i := 142) (by decide +kernel)) (by decide +kernel)
theorem q_842 : Cond.methodLink RL 115 yX8_says ∈ AL := AL_t3 (List.mem_of_getElem? (i := 213) (by decide +kernel)) (by decide +kernel)
theorem q_843 : Cond.instanceMethod yX8_says ∈ AL := AL_t3 (List.mem_of_getElem? (i := 214) (by decide +kernel)) (by decide +kernel)
theorem q_844 : Cond.selects RX8 yX8_says yX8_says ∈ AL := AL_t3 (List.mem_of_getElem? (i := 215) (by decide +kernel)) (by decide +kernel)
theorem q_845 : Cond.code yX8_says cX8_says 2 (some .int) ∈ AL := AL_t3 (List.mem_of_getElem? (i := 216) (by decide +kernel)) (by decide +kernel)
theorem q_846 : Cond.methodLink RX8 222 yX8_asks ∈ AL := AL_t3 (List.mem_of_getElem? (i := 217) (by decide +kernel)) (by decide +kernel)
theorem q_847 : Cond.instanceMethod yX8_asks ∈ AL := AL_t3 (List.mem_of_getElem? (i := 219) (by decide +kernel)) (by decide +kernel)
theorem q_848 : Cond.selects RX8 yX8_asks yX8_asks ∈ AL := AL_s (List.mem_of_getElem? (i := 21) (by decide +kernel)) (by decide +kernel)
theorem q_849 : Cond.code yX8_asks cX8_asks 2 (some .boolean) ∈ AL := AL_t3 (List.mem_of_getElem? (i := 220) (by decide +kernel)) (by decide +kernel)
theorem q_850 : Cond.methodLink RX8 321 yX0_seated ∈ AL := AL_t3 (List.mem_of_getElem? (i := 221) (by decide +kernel)) (by decide +kernel)
theorem q_851 : Cond.methodLink RX8 324 yJ6_bitCount_0f7a4 ∈ AL := AL_t3 (List.mem_of_getElem? (i := 222) (by decide +kernel)) (by decide +kernel)
theorem q_852 : Cond.methodLink RX8 329 yX6_ask ∈ AL := AL_t3 (List.mem_of_getElem? (i := 223) (by decide +kernel)) (by decide +kernel)
theorem q_853 : Cond.instanceMethod yX6_ask ∈ AL := AL_t3 (List.mem_of_getElem? (i := 224) (by decide +kernel)) (by decide +kernel)
theorem q_854 : Cond.selects RX6 yX6_ask yX6_ask ∈ AL := AL_t3 (List.mem_of_getElem? (i := 225) (by decide +kernel)) (by decide +kernel)
theorem q_855 : Cond.code yX6_ask cX6_ask 3 (some .boolean) ∈ AL := AL_t3 (List.mem_of_getElem? (i := 226) (by decide +kernel)) (by decide +kernel)
theorem q_856 : Cond.fieldLink RX6 25 "CrashTies$Rules" "height" "I" ∈ AL := AL_t1 (List.mem_of_getElem? (i := 45) (by decide +kernel)) (by decide +kernel)
theorem q_857 : Cond.fieldLink RX6 28 "CrashTies$Rules" "asking" "Z" ∈ AL := AL_t1 (List.mem_of_getElem? (i := 46) (by decide +kernel)) (by decide +kernel)
theorem q_858 : Cond.methodLink RX6 32 yX6_obey ∈ AL := AL_t3 (List.mem_of_getElem? (i := 227) (by decide +kernel)) (by decide +kernel)
theorem q_859 : Cond.instanceMethod yX6_obey ∈ AL := AL_t3 (List.mem_of_getElem? (i := 229) (by decide +kernel)) (by decide +kernel)
theorem q_860 : Cond.selects RX6 yX6_obey yX6_obey ∈ AL := AL_s (List.mem_of_getElem? (i := 22) (by decide +kernel)) (by decide +kernel)
theorem q_861 : Cond.code yX6_obey cX6_obey 3 none ∈ AL := AL_t3 (List.mem_of_getElem? (i := 230) (by decide +kernel)) (by decide +kernel)
theorem q_862 : Cond.methodLink RX6 36 yX6_push ∈ AL := AL_t3 (List.mem_of_getElem? (i := 231) (by decide +kernel)) (by decide +kernel)
theorem q_863 : Cond.instanceMethod yX6_push ∈ AL := AL_t3 (List.mem_of_getElem? (i := 233) (by decide +kernel)) (by decide +kernel)
theorem q_864 : Cond.selects RX6 yX6_push yX6_push ∈ AL := AL_s (List.mem_of_getElem? (i := 23) (by decide +kernel)) (by decide +kernel)
theorem q_865 : Cond.code yX6_push cX6_push 2 none ∈ AL := AL_t3 (List.mem_of_getElem? (i := 234) (by decide +kernel)) (by decide +kernel)
theorem q_866 : Cond.methodLink RX6 40 yX6_compare ∈ AL := AL_t3 (List.mem_of_getElem? (i := 235) (by decide +kernel)) (by decide +kernel)
theorem q_867 : Cond.instanceMethod yX6_compare ∈ AL := AL_t3 (List.mem_of_getElem? (i := 237) (by decide +kernel)) (by decide +kernel)
theorem q_868 : Cond.selects RX6 yX6_compare yX6_compare ∈ AL := AL_s (List.mem_of_getElem? (i := 24) (by decide +kernel)) (by decide +kernel)
theorem q_869 : Cond.code yX6_compare cX6_compare 5 none ∈ AL := AL_t3 (List.mem_of_getElem? (i := 238) (by decide +kernel)) (by decide +kernel)
theorem q_870 : Cond.methodLink RX6 43 yX6_pop ∈ AL := AL_t3 (List.mem_of_getElem? (i := 239) (by decide +kernel)) (by decide +kernel)
theorem q_871 : Cond.instanceMethod yX6_pop ∈ AL := AL_t4 (List.mem_of_getElem? (i := 1) (by decide +kernel)) (by decide +kernel)
theorem q_872 : Cond.selects RX6 yX6_pop yX6_pop ∈ AL := AL_s (List.mem_of_getElem? (i := 25) (by decide +kernel)) (by decide +kernel)
theorem q_873 : Cond.code yX6_pop cX6_pop 1 (some .int) ∈ AL := AL_t4 (List.mem_of_getElem? (i := 2) (by decide +kernel)) (by decide +kernel)
theorem q_874 : Cond.methodLink RL 118 yX9_says ∈ AL := AL_t6 (List.mem_of_getElem? (i := 143) (by decide +kernel)) (by decide +kernel)
theorem q_875 : Cond.instanceMethod yX9_says ∈ AL := AL_t6 (List.mem_of_getElem? (i := 144) (by decide +kernel)) (by decide +kernel)
theorem q_876 : Cond.selects RX9 yX9_says yX9_says ∈ AL := AL_t6 (List.mem_of_getElem? (i := 145) (by decide +kernel)) (by decide +kernel)
theorem q_877 : Cond.code yX9_says cX9_says 2 (some .int) ∈ AL := AL_t6 (List.mem_of_getElem? (i := 146) (by decide +kernel)) (by decide +kernel)
theorem q_878 : Cond.methodLink RX9 319 yX9_saysOf ∈ AL := AL_t6 (List.mem_of_getElem? (i := 147) (by decide +kernel)) (by decide +kernel)
theorem q_879 : Cond.instanceMethod yX9_saysOf ∈ AL := AL_t6 (List.mem_of_getElem? (i := 149) (by decide +kernel)) (by decide +kernel)
theorem q_880 : Cond.selects RX9 yX9_saysOf yX9_saysOf ∈ AL := AL_s (List.mem_of_getElem? (i := 61) (by decide +kernel)) (by decide +kernel)
theorem q_881 : Cond.code yX9_saysOf cX9_saysOf 4 (some .int) ∈ AL := AL_t6 (List.mem_of_getElem? (i := 150) (by decide +kernel)) (by decide +kernel)
theorem q_882 : Cond.methodLink RX9 315 yX9_isSo ∈ AL := AL_t6 (List.mem_of_getElem? (i := 151) (by decide +kernel)) (by decide +kernel)
theorem q_883 : Cond.instanceMethod yX9_isSo ∈ AL := AL_t6 (List.mem_of_getElem? (i := 153) (by decide +kernel)) (by decide +kernel)
theorem q_884 : Cond.selects RX9 yX9_isSo yX9_isSo ∈ AL := AL_s (List.mem_of_getElem? (i := 62) (by decide +kernel)) (by decide +kernel)
theorem q_885 : Cond.code yX9_isSo cX9_isSo 9 (some .boolean) ∈ AL := AL_t6 (List.mem_of_getElem? (i := 154) (by decide +kernel)) (by decide +kernel)
theorem q_886 : Cond.methodLink RL 119 yX8_found ∈ AL := AL_t4 (List.mem_of_getElem? (i := 3) (by decide +kernel)) (by decide +kernel)
theorem q_887 : Cond.instanceMethod yX8_found ∈ AL := AL_t4 (List.mem_of_getElem? (i := 4) (by decide +kernel)) (by decide +kernel)
theorem q_888 : Cond.selects RX8 yX8_found yX8_found ∈ AL := AL_t4 (List.mem_of_getElem? (i := 5) (by decide +kernel)) (by decide +kernel)
theorem q_889 : Cond.code yX8_found cX8_found 5 (some .int) ∈ AL := AL_t4 (List.mem_of_getElem? (i := 6) (by decide +kernel)) (by decide +kernel)
theorem q_890 : Cond.fieldLink RX8 225 "CrashTies$Book" "found" "[I" ∈ AL := AL_t1 (List.mem_of_getElem? (i := 84) (by decide +kernel)) (by decide +kernel)
theorem q_891 : Cond.fieldLink RX8 228 "CrashTies$Book" "byChance" "[Z" ∈ AL := AL_t1 (List.mem_of_getElem? (i := 86) (by decide +kernel)) (by decide +kernel)
theorem q_892 : Cond.methodLink RL 123 yX9_found ∈ AL := AL_t6 (List.mem_of_getElem? (i := 155) (by decide +kernel)) (by decide +kernel)
theorem q_893 : Cond.instanceMethod yX9_found ∈ AL := AL_t6 (List.mem_of_getElem? (i := 156) (by decide +kernel)) (by decide +kernel)
theorem q_894 : Cond.selects RX9 yX9_found yX9_found ∈ AL := AL_t6 (List.mem_of_getElem? (i := 157) (by decide +kernel)) (by decide +kernel)
theorem q_895 : Cond.code yX9_found cX9_found 5 (some .int) ∈ AL := AL_t6 (List.mem_of_getElem? (i := 158) (by decide +kernel)) (by decide +kernel)
theorem q_896 : Cond.methodLink RL 124 yX8_rate ∈ AL := AL_t4 (List.mem_of_getElem? (i := 7) (by decide +kernel)) (by decide +kernel)
theorem q_897 : Cond.instanceMethod yX8_rate ∈ AL := AL_t4 (List.mem_of_getElem? (i := 8) (by decide +kernel)) (by decide +kernel)
theorem q_898 : Cond.selects RX8 yX8_rate yX8_rate ∈ AL := AL_t4 (List.mem_of_getElem? (i := 9) (by decide +kernel)) (by decide +kernel)
theorem q_899 : Cond.code yX8_rate cX8_rate 5 (some .int) ∈ AL := AL_t4 (List.mem_of_getElem? (i := 10) (by decide +kernel)) (by decide +kernel)
theorem q_900 : Cond.methodLink RL 127 yX9_rate ∈ AL := AL_t6 (List.mem_of_getElem? (i := 159) (by decide +kernel)) (by decide +kernel)
theorem q_901 : Cond.instanceMethod yX9_rate ∈ AL := AL_t6 (List.mem_of_getElem? (i := 160) (by decide +kernel)) (by decide +kernel)
theorem q_902 : Cond.selects RX9 yX9_rate yX9_rate ∈ AL := AL_t6 (List.mem_of_getElem? (i := 161) (by decide +kernel)) (by decide +kernel)
theorem q_903 : Cond.code yX9_rate cX9_rate 6 (some .int) ∈ AL := AL_t6 (List.mem_of_getElem? (i := 162) (by decide +kernel)) (by decide +kernel)
theorem q_904 : Cond.methodLink RL 128 yX8_right ∈ AL := AL_t4 (List.mem_of_getElem? (i := 11) (by decide +kernel)) (by decide +kernel)
theorem q_905 : Cond.instanceMethod yX8_right ∈ AL := AL_t4 (List.mem_of_getElem? (i := 12) (by decide +kernel)) (by decide +kernel)
theorem q_906 : Cond.selects RX8 yX8_right yX8_right ∈ AL := AL_t4 (List.mem_of_getElem? (i := 13) (by decide +kernel)) (by decide +kernel)
theorem q_907 : Cond.code yX8_right cX8_right 5 (some .int) ∈ AL := AL_t4 (List.mem_of_getElem? (i := 14) (by decide +kernel)) (by decide +kernel)
theorem q_908 : Cond.methodLink RL 131 yX9_right ∈ AL := AL_t6 (List.mem_of_getElem? (i := 163) (by decide +kernel)) (by decide +kernel)
theorem q_909 : Cond.instanceMethod yX9_right ∈ AL := AL_t6 (List.mem_of_getElem? (i := 164) (by decide +kernel)) (by decide +kernel)
theorem q_910 : Cond.selects RX9 yX9_right yX9_right ∈ AL := AL_t6 (List.mem_of_getElem? (i := 165) (by decide +kernel)) (by decide +kernel)
theorem q_911 : Cond.code yX9_right cX9_right 5 (some .int) ∈ AL := AL_t6 (List.mem_of_getElem? (i := 166) (by decide +kernel)) (by decide +kernel)
theorem q_912 : Cond.methodLink RL 132 yX8_seed ∈ AL := AL_t4 (List.mem_of_getElem? (i := 15) (by decide +kernel)) (by decide +kernel)
theorem q_913 : Cond.instanceMethod yX8_seed ∈ AL := AL_t4 (List.mem_of_getElem? (i := 16) (by decide +kernel)) (by decide +kernel)
theorem q_914 : Cond.selects RX8 yX8_seed yX8_seed ∈ AL := AL_t4 (List.mem_of_getElem? (i := 17) (by decide +kernel)) (by decide +kernel)
theorem q_915 : Cond.code yX8_seed cX8_seed 3 (some .int) ∈ AL := AL_t4 (List.mem_of_getElem? (i := 18) (by decide +kernel)) (by decide +kernel)
theorem q_916 : Cond.fieldLink RX8 232 "CrashTies$Book" "z" "I" ∈ AL := AL_t1 (List.mem_of_getElem? (i := 90) (by decide +kernel)) (by decide +kernel)
theorem q_917 : Cond.methodLink RL 135 yX9_seed ∈ AL := AL_t6 (List.mem_of_getElem? (i := 167) (by decide +kernel)) (by decide +kernel)
theorem q_918 : Cond.instanceMethod yX9_seed ∈ AL := AL_t6 (List.mem_of_getElem? (i := 168) (by decide +kernel)) (by decide +kernel)
theorem q_919 : Cond.selects RX9 yX9_seed yX9_seed ∈ AL := AL_t6 (List.mem_of_getElem? (i := 169) (by decide +kernel)) (by decide +kernel)
theorem q_920 : Cond.code yX9_seed cX9_seed 3 (some .int) ∈ AL := AL_t6 (List.mem_of_getElem? (i := 170) (by decide +kernel)) (by decide +kernel)
theorem q_921 : Cond.methodLink RL 136 yX8_draw ∈ AL := AL_t4 (List.mem_of_getElem? (i := 19) (by decide +kernel)) (by decide +kernel)
theorem q_922 : Cond.instanceMethod yX8_draw ∈ AL := AL_t4 (List.mem_of_getElem? (i := 20) (by decide +kernel)) (by decide +kernel)
theorem q_923 : Cond.selects RX8 yX8_draw yX8_draw ∈ AL := AL_t4 (List.mem_of_getElem? (i := 21) (by decide +kernel)) (by decide +kernel)
theorem q_924 : Cond.code yX8_draw cX8_draw 4 (some .int) ∈ AL := AL_t4 (List.mem_of_getElem? (i := 22) (by decide +kernel)) (by decide +kernel)
theorem q_925 : Cond.constant RX8 238 (1103515245) ∈ AL := AL_t4 (List.mem_of_getElem? (i := 27) (by decide +kernel)) (by decide +kernel)
theorem q_926 : Cond.methodLink RX8 235 yX0_countFound ∈ AL := AL_t4 (List.mem_of_getElem? (i := 23) (by decide +kernel)) (by decide +kernel)
theorem q_927 : Cond.instanceMethod yX0_countFound ∈ AL := AL_t4 (List.mem_of_getElem? (i := 24) (by decide +kernel)) (by decide +kernel)
theorem q_928 : Cond.selects RX0 yX0_countFound yX0_countFound ∈ AL := AL_t4 (List.mem_of_getElem? (i := 25) (by decide +kernel)) (by decide +kernel)
theorem q_929 : Cond.code yX0_countFound cX0_countFound 3 (some .int) ∈ AL := AL_t4 (List.mem_of_getElem? (i := 26) (by decide +kernel)) (by decide +kernel)
theorem q_930 : Cond.methodLink RL 139 yX9_draw ∈ AL := AL_t6 (List.mem_of_getElem? (i := 171) (by decide +kernel)) (by decide +kernel)
theorem q_931 : Cond.instanceMethod yX9_draw ∈ AL := AL_t6 (List.mem_of_getElem? (i := 172) (by decide +kernel)) (by decide +kernel)
theorem q_932 : Cond.selects RX9 yX9_draw yX9_draw ∈ AL := AL_t6 (List.mem_of_getElem? (i := 173) (by decide +kernel)) (by decide +kernel)
theorem q_933 : Cond.code yX9_draw cX9_draw 4 (some .int) ∈ AL := AL_t6 (List.mem_of_getElem? (i := 174) (by decide +kernel)) (by decide +kernel)
theorem q_934 : Cond.constant RX9 325 (1103515245) ∈ AL := AL_t6 (List.mem_of_getElem? (i := 179) (by decide +kernel)) (by decide +kernel)
theorem q_935 : Cond.methodLink RX9 322 yX9_foundMany ∈ AL := AL_t6 (List.mem_of_getElem? (i := 175) (by decide +kernel)) (by decide +kernel)
theorem q_936 : Cond.instanceMethod yX9_foundMany ∈ AL := AL_t6 (List.mem_of_getElem? (i := 177) (by decide +kernel)) (by decide +kernel)
theorem q_937 : Cond.selects RX9 yX9_foundMany yX9_foundMany ∈ AL := AL_s (List.mem_of_getElem? (i := 63) (by decide +kernel)) (by decide +kernel)
theorem q_938 : Cond.code yX9_foundMany cX9_foundMany 3 (some .int) ∈ AL := AL_t6 (List.mem_of_getElem? (i := 178) (by decide +kernel)) (by decide +kernel)
theorem q_939 : Cond.methodLink RL 140 yX8_prove ∈ AL := AL_t4 (List.mem_of_getElem? (i := 28) (by decide +kernel)) (by decide +kernel)
theorem q_940 : Cond.instanceMethod yX8_prove ∈ AL := AL_t4 (List.mem_of_getElem? (i := 29) (by decide +kernel)) (by decide +kernel)
theorem q_941 : Cond.selects RX8 yX8_prove yX8_prove ∈ AL := AL_t4 (List.mem_of_getElem? (i := 30) (by decide +kernel)) (by decide +kernel)
theorem q_942 : Cond.code yX8_prove cX8_prove 2 (some .int) ∈ AL := AL_t4 (List.mem_of_getElem? (i := 31) (by decide +kernel)) (by decide +kernel)
theorem q_943 : Cond.fieldLink RX8 243 "CrashTies$Rows" "count" "I" ∈ AL := AL_t1 (List.mem_of_getElem? (i := 182) (by decide +kernel)) (by decide +kernel)
theorem q_944 : Cond.methodLink RX8 239 yX5_write ∈ AL := AL_t4 (List.mem_of_getElem? (i := 32) (by decide +kernel)) (by decide +kernel)
theorem q_945 : Cond.instanceMethod yX5_write ∈ AL := AL_t4 (List.mem_of_getElem? (i := 33) (by decide +kernel)) (by decide +kernel)
theorem q_946 : Cond.selects RX5 yX5_write yX5_write ∈ AL := AL_t4 (List.mem_of_getElem? (i := 34) (by decide +kernel)) (by decide +kernel)
theorem q_947 : Cond.code yX5_write cX5_write 8 none ∈ AL := AL_t4 (List.mem_of_getElem? (i := 35) (by decide +kernel)) (by decide +kernel)
theorem q_948 : Cond.fieldLink RX5 15 "CrashTies$Rows" "count" "I" ∈ AL := AL_t1 (List.mem_of_getElem? (i := 181) (by decide +kernel)) (by decide +kernel)
theorem q_949 : Cond.fieldLink RX5 19 "CrashTies$Book" "claims" "I" ∈ AL := AL_t1 (List.mem_of_getElem? (i := 76) (by decide +kernel)) (by decide +kernel)
theorem q_950 : Cond.methodLink RX5 24 yX7_woven ∈ AL := AL_t4 (List.mem_of_getElem? (i := 36) (by decide +kernel)) (by decide +kernel)
theorem q_951 : Cond.methodLink RX5 30 yX5_append ∈ AL := AL_t4 (List.mem_of_getElem? (i := 37) (by decide +kernel)) (by decide +kernel)
theorem q_952 : Cond.instanceMethod yX5_append ∈ AL := AL_t4 (List.mem_of_getElem? (i := 39) (by decide +kernel)) (by decide +kernel)
theorem q_953 : Cond.selects RX5 yX5_append yX5_append ∈ AL := AL_s (List.mem_of_getElem? (i := 26) (by decide +kernel)) (by decide +kernel)
theorem q_954 : Cond.code yX5_append cX5_append 4 none ∈ AL := AL_t4 (List.mem_of_getElem? (i := 40) (by decide +kernel)) (by decide +kernel)
theorem q_955 : Cond.methodLink RL 143 yX9_prove ∈ AL := AL_t6 (List.mem_of_getElem? (i := 180) (by decide +kernel)) (by decide +kernel)
theorem q_956 : Cond.instanceMethod yX9_prove ∈ AL := AL_t6 (List.mem_of_getElem? (i := 181) (by decide +kernel)) (by decide +kernel)
theorem q_957 : Cond.selects RX9 yX9_prove yX9_prove ∈ AL := AL_t6 (List.mem_of_getElem? (i := 182) (by decide +kernel)) (by decide +kernel)
theorem q_958 : Cond.code yX9_prove cX9_prove 2 (some .int) ∈ AL := AL_t6 (List.mem_of_getElem? (i := 183) (by decide +kernel)) (by decide +kernel)
theorem q_959 : Cond.fieldLink RX9 326 "CrashTiesModel" "mustMany" "I" ∈ AL := AL_t4 (List.mem_of_getElem? (i := 237) (by decide +kernel)) (by decide +kernel)
theorem q_960 : Cond.fieldLink RX9 333 "CrashTiesModel" "rowMany" "I" ∈ AL := AL_t4 (List.mem_of_getElem? (i := 236) (by decide +kernel)) (by decide +kernel)
theorem q_961 : Cond.methodLink RX9 329 yX9_findRows ∈ AL := AL_t6 (List.mem_of_getElem? (i := 184) (by decide +kernel)) (by decide +kernel)
theorem q_962 : Cond.instanceMethod yX9_findRows ∈ AL := AL_t6 (List.mem_of_getElem? (i := 186) (by decide +kernel)) (by decide +kernel)
theorem q_963 : Cond.selects RX9 yX9_findRows yX9_findRows ∈ AL := AL_s (List.mem_of_getElem? (i := 64) (by decide +kernel)) (by decide +kernel)
theorem q_964 : Cond.code yX9_findRows cX9_findRows 4 (some .boolean) ∈ AL := AL_t6 (List.mem_of_getElem? (i := 187) (by decide +kernel)) (by decide +kernel)
theorem q_965 : Cond.methodLink RL 144 yX8_row ∈ AL := AL_t4 (List.mem_of_getElem? (i := 41) (by decide +kernel)) (by decide +kernel)
theorem q_966 : Cond.instanceMethod yX8_row ∈ AL := AL_t4 (List.mem_of_getElem? (i := 42) (by decide +kernel)) (by decide +kernel)
theorem q_967 : Cond.selects RX8 yX8_row yX8_row ∈ AL := AL_t4 (List.mem_of_getElem? (i := 43) (by decide +kernel)) (by decide +kernel)
theorem q_968 : Cond.code yX8_row cX8_row 3 (some .int) ∈ AL := AL_t4 (List.mem_of_getElem? (i := 44) (by decide +kernel)) (by decide +kernel)
theorem q_969 : Cond.methodLink RX8 246 yX5_holds ∈ AL := AL_t4 (List.mem_of_getElem? (i := 45) (by decide +kernel)) (by decide +kernel)
theorem q_970 : Cond.instanceMethod yX5_holds ∈ AL := AL_t4 (List.mem_of_getElem? (i := 46) (by decide +kernel)) (by decide +kernel)
theorem q_971 : Cond.selects RX5 yX5_holds yX5_holds ∈ AL := AL_t4 (List.mem_of_getElem? (i := 47) (by decide +kernel)) (by decide +kernel)
theorem q_972 : Cond.code yX5_holds cX5_holds 3 (some .boolean) ∈ AL := AL_t4 (List.mem_of_getElem? (i := 48) (by decide +kernel)) (by decide +kernel)
theorem q_973 : Cond.methodLink RX8 249 yX5_entry ∈ AL := AL_t4 (List.mem_of_getElem? (i := 49) (by decide +kernel)) (by decide +kernel)
theorem q_974 : Cond.instanceMethod yX5_entry ∈ AL := AL_t4 (List.mem_of_getElem? (i := 50) (by decide +kernel)) (by decide +kernel)
theorem q_975 : Cond.selects RX5 yX5_entry yX5_entry ∈ AL := AL_t4 (List.mem_of_getElem? (i := 51) (by decide +kernel)) (by decide +kernel)
theorem q_976 : Cond.code yX5_entry cX5_entry 3 (some .int) ∈ AL := AL_t4 (List.mem_of_getElem? (i := 52) (by decide +kernel)) (by decide +kernel)
theorem q_977 : Cond.methodLink RX5 34 yX5_holds ∈ AL := AL_t4 (List.mem_of_getElem? (i := 53) (by decide +kernel)) (by decide +kernel)
theorem q_978 : Cond.methodLink RL 147 yX9_row ∈ AL := AL_t6 (List.mem_of_getElem? (i := 188) (by decide +kernel)) (by decide +kernel)
theorem q_979 : Cond.instanceMethod yX9_row ∈ AL := AL_t6 (List.mem_of_getElem? (i := 189) (by decide +kernel)) (by decide +kernel)
theorem q_980 : Cond.selects RX9 yX9_row yX9_row ∈ AL := AL_t6 (List.mem_of_getElem? (i := 190) (by decide +kernel)) (by decide +kernel)
theorem q_981 : Cond.code yX9_row cX9_row 3 (some .int) ∈ AL := AL_t6 (List.mem_of_getElem? (i := 191) (by decide +kernel)) (by decide +kernel)
theorem q_982 : Cond.methodLink RX9 336 yX9_isRow ∈ AL := AL_t6 (List.mem_of_getElem? (i := 192) (by decide +kernel)) (by decide +kernel)
theorem q_983 : Cond.instanceMethod yX9_isRow ∈ AL := AL_t6 (List.mem_of_getElem? (i := 194) (by decide +kernel)) (by decide +kernel)
theorem q_984 : Cond.selects RX9 yX9_isRow yX9_isRow ∈ AL := AL_s (List.mem_of_getElem? (i := 65) (by decide +kernel)) (by decide +kernel)
theorem q_985 : Cond.code yX9_isRow cX9_isRow 3 (some .boolean) ∈ AL := AL_t6 (List.mem_of_getElem? (i := 195) (by decide +kernel)) (by decide +kernel)
theorem q_986 : Cond.methodLink RL 148 yX8_alterRow ∈ AL := AL_t4 (List.mem_of_getElem? (i := 54) (by decide +kernel)) (by decide +kernel)
theorem q_987 : Cond.instanceMethod yX8_alterRow ∈ AL := AL_t4 (List.mem_of_getElem? (i := 55) (by decide +kernel)) (by decide +kernel)
theorem q_988 : Cond.selects RX8 yX8_alterRow yX8_alterRow ∈ AL := AL_t4 (List.mem_of_getElem? (i := 56) (by decide +kernel)) (by decide +kernel)
theorem q_989 : Cond.code yX8_alterRow cX8_alterRow 5 (some .int) ∈ AL := AL_t4 (List.mem_of_getElem? (i := 57) (by decide +kernel)) (by decide +kernel)
theorem q_990 : Cond.fieldLink RX8 252 "CrashTies$Rows" "entries" "[I" ∈ AL := AL_t1 (List.mem_of_getElem? (i := 180) (by decide +kernel)) (by decide +kernel)
theorem q_991 : Cond.methodLink RL 151 yX9_alterRow ∈ AL := AL_t6 (List.mem_of_getElem? (i := 196) (by decide +kernel)) (by decide +kernel)
theorem q_992 : Cond.instanceMethod yX9_alterRow ∈ AL := AL_t6 (List.mem_of_getElem? (i := 197) (by decide +kernel)) (by decide +kernel)
theorem q_993 : Cond.selects RX9 yX9_alterRow yX9_alterRow ∈ AL := AL_t6 (List.mem_of_getElem? (i := 198) (by decide +kernel)) (by decide +kernel)
theorem q_994 : Cond.code yX9_alterRow cX9_alterRow 5 (some .int) ∈ AL := AL_t6 (List.mem_of_getElem? (i := 199) (by decide +kernel)) (by decide +kernel)
theorem q_995 : Cond.methodLink RL 152 yX8_judge ∈ AL := AL_t4 (List.mem_of_getElem? (i := 58) (by decide +kernel)) (by decide +kernel)
theorem q_996 : Cond.instanceMethod yX8_judge ∈ AL := AL_t4 (List.mem_of_getElem? (i := 59) (by decide +kernel)) (by decide +kernel)
theorem q_997 : Cond.selects RX8 yX8_judge yX8_judge ∈ AL := AL_t4 (List.mem_of_getElem? (i := 60) (by decide +kernel)) (by decide +kernel)
theorem q_998 : Cond.code yX8_judge cX8_judge 3 (some .int) ∈ AL := AL_t4 (List.mem_of_getElem? (i := 61) (by decide +kernel)) (by decide +kernel)
theorem q_999 : Cond.methodLink RX8 255 yX5_hasSame ∈ AL := AL_t4 (List.mem_of_getElem? (i := 62) (by decide +kernel)) (by decide +kernel)
theorem q_1000 : Cond.instanceMethod yX5_hasSame ∈ AL := AL_t4 (List.mem_of_getElem? (i := 63) (by decide +kernel)) (by decide +kernel)
theorem q_1001 : Cond.selects RX5 yX5_hasSame yX5_hasSame ∈ AL := AL_t4 (List.mem_of_getElem? (i := 64) (by decide +kernel)) (by decide +kernel)
theorem q_1002 : Cond.code yX5_hasSame cX5_hasSame 4 (some .boolean) ∈ AL := AL_t4 (List.mem_of_getElem? (i := 65) (by decide +kernel)) (by decide +kernel)
theorem q_1003 : Cond.methodLink RX5 38 yX5_entry ∈ AL := AL_t4 (List.mem_of_getElem? (i := 66) (by decide +kernel)) (by decide +kernel)
theorem q_1004 : Cond.methodLink RL 155 yX9_judge ∈ AL := AL_t6 (List.mem_of_getElem? (i := 200) (by decide +kernel)) (by decide +kernel)
theorem q_1005 : Cond.instanceMethod yX9_judge ∈ AL := AL_t6 (List.mem_of_getElem? (i := 201) (by decide +kernel)) (by decide +kernel)
theorem q_1006 : Cond.selects RX9 yX9_judge yX9_judge ∈ AL := AL_t6 (List.mem_of_getElem? (i := 202) (by decide +kernel)) (by decide +kernel)
theorem q_1007 : Cond.code yX9_judge cX9_judge 4 (some .int) ∈ AL := AL_t6 (List.mem_of_getElem? (i := 203) (by decide +kernel)) (by decide +kernel)
theorem q_1008 : Cond.methodLink RL 156 yX8_sheet ∈ AL := AL_t4 (List.mem_of_getElem? (i := 67) (by decide +kernel)) (by decide +kernel)
theorem q_1009 : Cond.instanceMethod yX8_sheet ∈ AL := AL_t4 (List.mem_of_getElem? (i := 68) (by decide +kernel)) (by decide +kernel)
theorem q_1010 : Cond.selects RX8 yX8_sheet yX8_sheet ∈ AL := AL_t4 (List.mem_of_getElem? (i := 69) (by decide +kernel)) (by decide +kernel)
theorem q_1011 : Cond.code yX8_sheet cX8_sheet 4 (some .int) ∈ AL := AL_t4 (List.mem_of_getElem? (i := 70) (by decide +kernel)) (by decide +kernel)
theorem q_1012 : Cond.methodLink RX8 259 yX1_isSheet ∈ AL := AL_t4 (List.mem_of_getElem? (i := 71) (by decide +kernel)) (by decide +kernel)
theorem q_1013 : Cond.static yX1_isSheet ∈ AL := AL_t4 (List.mem_of_getElem? (i := 72) (by decide +kernel)) (by decide +kernel)
theorem q_1014 : Cond.code yX1_isSheet cX1_isSheet 1 (some .boolean) ∈ AL := AL_t4 (List.mem_of_getElem? (i := 73) (by decide +kernel)) (by decide +kernel)
theorem q_1015 : Cond.methodLink RX8 262 yX1_drop ∈ AL := AL_t4 (List.mem_of_getElem? (i := 74) (by decide +kernel)) (by decide +kernel)
theorem q_1016 : Cond.instanceMethod yX1_drop ∈ AL := AL_t4 (List.mem_of_getElem? (i := 75) (by decide +kernel)) (by decide +kernel)
theorem q_1017 : Cond.selects RX1 yX1_drop yX1_drop ∈ AL := AL_t4 (List.mem_of_getElem? (i := 76) (by decide +kernel)) (by decide +kernel)
theorem q_1018 : Cond.code yX1_drop cX1_drop 2 none ∈ AL := AL_t4 (List.mem_of_getElem? (i := 77) (by decide +kernel)) (by decide +kernel)
theorem q_1019 : Cond.methodLink RX1 26 yX1_isSheet ∈ AL := AL_t4 (List.mem_of_getElem? (i := 78) (by decide +kernel)) (by decide +kernel)
theorem q_1020 : Cond.methodLink RX8 265 yX1_lay ∈ AL := AL_t4 (List.mem_of_getElem? (i := 79) (by decide +kernel)) (by decide +kernel)
theorem q_1021 : Cond.instanceMethod yX1_lay ∈ AL := AL_t4 (List.mem_of_getElem? (i := 80) (by decide +kernel)) (by decide +kernel)
theorem q_1022 : Cond.selects RX1 yX1_lay yX1_lay ∈ AL := AL_t4 (List.mem_of_getElem? (i := 81) (by decide +kernel)) (by decide +kernel)
theorem q_1023 : Cond.code yX1_lay cX1_lay 5 none ∈ AL := AL_t4 (List.mem_of_getElem? (i := 82) (by decide +kernel)) (by decide +kernel)
theorem q_1024 : Cond.methodLink RL 159 yX9_sheet ∈ AL := AL_t6 (List.mem_of_getElem? (i := 204) (by decide +kernel)) (by decide +kernel)
theorem q_1025 : Cond.instanceMethod yX9_sheet ∈ AL := AL_t6 (List.mem_of_getElem? (i := 205) (by decide +kernel)) (by decide +kernel)
theorem q_1026 : Cond.selects RX9 yX9_sheet yX9_sheet ∈ AL := AL_t6 (List.mem_of_getElem? (i := 206) (by decide +kernel)) (by decide +kernel)
theorem q_1027 : Cond.code yX9_sheet cX9_sheet 5 (some .int) ∈ AL := AL_t6 (List.mem_of_getElem? (i := 207) (by decide +kernel)) (by decide +kernel)
theorem q_1028 : Cond.methodLink RX9 340 yX9_isShelf ∈ AL := AL_t6 (List.mem_of_getElem? (i := 208) (by decide +kernel)) (by decide +kernel)
theorem q_1029 : Cond.static yX9_isShelf ∈ AL := AL_t6 (List.mem_of_getElem? (i := 209) (by decide +kernel)) (by decide +kernel)
theorem q_1030 : Cond.code yX9_isShelf cX9_isShelf 1 (some .boolean) ∈ AL := AL_t6 (List.mem_of_getElem? (i := 210) (by decide +kernel)) (by decide +kernel)
theorem q_1031 : Cond.methodLink RL 160 yX8_put ∈ AL := AL_t4 (List.mem_of_getElem? (i := 83) (by decide +kernel)) (by decide +kernel)
theorem q_1032 : Cond.instanceMethod yX8_put ∈ AL := AL_t4 (List.mem_of_getElem? (i := 84) (by decide +kernel)) (by decide +kernel)
theorem q_1033 : Cond.selects RX8 yX8_put yX8_put ∈ AL := AL_t4 (List.mem_of_getElem? (i := 85) (by decide +kernel)) (by decide +kernel)
theorem q_1034 : Cond.code yX8_put cX8_put 4 (some .int) ∈ AL := AL_t4 (List.mem_of_getElem? (i := 86) (by decide +kernel)) (by decide +kernel)
theorem q_1035 : Cond.methodLink RX8 269 yX1_isMissing ∈ AL := AL_t4 (List.mem_of_getElem? (i := 87) (by decide +kernel)) (by decide +kernel)
theorem q_1036 : Cond.instanceMethod yX1_isMissing ∈ AL := AL_t4 (List.mem_of_getElem? (i := 88) (by decide +kernel)) (by decide +kernel)
theorem q_1037 : Cond.selects RX1 yX1_isMissing yX1_isMissing ∈ AL := AL_t4 (List.mem_of_getElem? (i := 89) (by decide +kernel)) (by decide +kernel)
theorem q_1038 : Cond.code yX1_isMissing cX1_isMissing 2 (some .boolean) ∈ AL := AL_t4 (List.mem_of_getElem? (i := 90) (by decide +kernel)) (by decide +kernel)
theorem q_1039 : Cond.methodLink RX8 272 yX1_isInside ∈ AL := AL_t4 (List.mem_of_getElem? (i := 91) (by decide +kernel)) (by decide +kernel)
theorem q_1040 : Cond.instanceMethod yX1_isInside ∈ AL := AL_t4 (List.mem_of_getElem? (i := 92) (by decide +kernel)) (by decide +kernel)
theorem q_1041 : Cond.selects RX1 yX1_isInside yX1_isInside ∈ AL := AL_t4 (List.mem_of_getElem? (i := 93) (by decide +kernel)) (by decide +kernel)
theorem q_1042 : Cond.code yX1_isInside cX1_isInside 3 (some .boolean) ∈ AL := AL_t4 (List.mem_of_getElem? (i := 94) (by decide +kernel)) (by decide +kernel)
theorem q_1043 : Cond.methodLink RX1 30 yX1_isMissing ∈ AL := AL_t4 (List.mem_of_getElem? (i := 95) (by decide +kernel)) (by decide +kernel)
theorem q_1044 : Cond.methodLink RX8 275 yX1_write ∈ AL := AL_t4 (List.mem_of_getElem? (i := 96) (by decide +kernel)) (by decide +kernel)
theorem q_1045 : Cond.instanceMethod yX1_write ∈ AL := AL_t4 (List.mem_of_getElem? (i := 97) (by decide +kernel)) (by decide +kernel)
theorem q_1046 : Cond.selects RX1 yX1_write yX1_write ∈ AL := AL_t4 (List.mem_of_getElem? (i := 98) (by decide +kernel)) (by decide +kernel)
theorem q_1047 : Cond.code yX1_write cX1_write 5 none ∈ AL := AL_t4 (List.mem_of_getElem? (i := 99) (by decide +kernel)) (by decide +kernel)
theorem q_1048 : Cond.methodLink RX1 33 yX1_isInside ∈ AL := AL_t4 (List.mem_of_getElem? (i := 100) (by decide +kernel)) (by decide +kernel)
theorem q_1049 : Cond.methodLink RL 163 yX9_put ∈ AL := AL_t6 (List.mem_of_getElem? (i := 211) (by decide +kernel)) (by decide +kernel)
theorem q_1050 : Cond.instanceMethod yX9_put ∈ AL := AL_t6 (List.mem_of_getElem? (i := 212) (by decide +kernel)) (by decide +kernel)
theorem q_1051 : Cond.selects RX9 yX9_put yX9_put ∈ AL := AL_t6 (List.mem_of_getElem? (i := 213) (by decide +kernel)) (by decide +kernel)
theorem q_1052 : Cond.code yX9_put cX9_put 4 (some .int) ∈ AL := AL_t6 (List.mem_of_getElem? (i := 214) (by decide +kernel)) (by decide +kernel)
theorem q_1053 : Cond.methodLink RL 164 yX8_item ∈ AL := AL_t4 (List.mem_of_getElem? (i := 101) (by decide +kernel)) (by decide +kernel)
theorem q_1054 : Cond.instanceMethod yX8_item ∈ AL := AL_t4 (List.mem_of_getElem? (i := 102) (by decide +kernel)) (by decide +kernel)
theorem q_1055 : Cond.selects RX8 yX8_item yX8_item ∈ AL := AL_t4 (List.mem_of_getElem? (i := 103) (by decide +kernel)) (by decide +kernel)
theorem q_1056 : Cond.code yX8_item cX8_item 4 (some .int) ∈ AL := AL_t4 (List.mem_of_getElem? (i := 104) (by decide +kernel)) (by decide +kernel)
theorem q_1057 : Cond.fieldLink RX8 277 "CrashTies$Host" "sorts" "[I" ∈ AL := AL_t1 (List.mem_of_getElem? (i := 195) (by decide +kernel)) (by decide +kernel)
theorem q_1058 : Cond.methodLink RX8 280 yX1_read ∈ AL := AL_t4 (List.mem_of_getElem? (i := 105) (by decide +kernel)) (by decide +kernel)
theorem q_1059 : Cond.instanceMethod yX1_read ∈ AL := AL_t4 (List.mem_of_getElem? (i := 106) (by decide +kernel)) (by decide +kernel)
theorem q_1060 : Cond.selects RX1 yX1_read yX1_read ∈ AL := AL_t4 (List.mem_of_getElem? (i := 107) (by decide +kernel)) (by decide +kernel)
theorem q_1061 : Cond.code yX1_read cX1_read 3 (some .int) ∈ AL := AL_t4 (List.mem_of_getElem? (i := 108) (by decide +kernel)) (by decide +kernel)
theorem q_1062 : Cond.methodLink RL 167 yX9_item ∈ AL := AL_t6 (List.mem_of_getElem? (i := 215) (by decide +kernel)) (by decide +kernel)
theorem q_1063 : Cond.instanceMethod yX9_item ∈ AL := AL_t6 (List.mem_of_getElem? (i := 216) (by decide +kernel)) (by decide +kernel)
theorem q_1064 : Cond.selects RX9 yX9_item yX9_item ∈ AL := AL_t6 (List.mem_of_getElem? (i := 217) (by decide +kernel)) (by decide +kernel)
theorem q_1065 : Cond.code yX9_item cX9_item 5 (some .int) ∈ AL := AL_t6 (List.mem_of_getElem? (i := 218) (by decide +kernel)) (by decide +kernel)
theorem q_1066 : Cond.methodLink RX9 343 yX9_lacksSort ∈ AL := AL_t6 (List.mem_of_getElem? (i := 219) (by decide +kernel)) (by decide +kernel)
theorem q_1067 : Cond.instanceMethod yX9_lacksSort ∈ AL := AL_t6 (List.mem_of_getElem? (i := 221) (by decide +kernel)) (by decide +kernel)
theorem q_1068 : Cond.selects RX9 yX9_lacksSort yX9_lacksSort ∈ AL := AL_s (List.mem_of_getElem? (i := 66) (by decide +kernel)) (by decide +kernel)
theorem q_1069 : Cond.code yX9_lacksSort cX9_lacksSort 3 (some .int) ∈ AL := AL_t6 (List.mem_of_getElem? (i := 222) (by decide +kernel)) (by decide +kernel)
theorem q_1070 : Cond.methodLink RL 168 yX8_shelf ∈ AL := AL_t4 (List.mem_of_getElem? (i := 109) (by decide +kernel)) (by decide +kernel)
theorem q_1071 : Cond.instanceMethod yX8_shelf ∈ AL := AL_t4 (List.mem_of_getElem? (i := 110) (by decide +kernel)) (by decide +kernel)
theorem q_1072 : Cond.selects RX8 yX8_shelf yX8_shelf ∈ AL := AL_t4 (List.mem_of_getElem? (i := 111) (by decide +kernel)) (by decide +kernel)
theorem q_1073 : Cond.code yX8_shelf cX8_shelf 4 (some .int) ∈ AL := AL_t4 (List.mem_of_getElem? (i := 112) (by decide +kernel)) (by decide +kernel)
theorem q_1074 : Cond.methodLink RX8 283 yX1_isShelf ∈ AL := AL_t4 (List.mem_of_getElem? (i := 113) (by decide +kernel)) (by decide +kernel)
theorem q_1075 : Cond.static yX1_isShelf ∈ AL := AL_t4 (List.mem_of_getElem? (i := 114) (by decide +kernel)) (by decide +kernel)
theorem q_1076 : Cond.code yX1_isShelf cX1_isShelf 1 (some .boolean) ∈ AL := AL_t4 (List.mem_of_getElem? (i := 115) (by decide +kernel)) (by decide +kernel)
theorem q_1077 : Cond.methodLink RX8 286 yX1_holdClaim ∈ AL := AL_t4 (List.mem_of_getElem? (i := 116) (by decide +kernel)) (by decide +kernel)
theorem q_1078 : Cond.instanceMethod yX1_holdClaim ∈ AL := AL_t4 (List.mem_of_getElem? (i := 117) (by decide +kernel)) (by decide +kernel)
theorem q_1079 : Cond.selects RX1 yX1_holdClaim yX1_holdClaim ∈ AL := AL_t4 (List.mem_of_getElem? (i := 118) (by decide +kernel)) (by decide +kernel)
theorem q_1080 : Cond.code yX1_holdClaim cX1_holdClaim 3 none ∈ AL := AL_t4 (List.mem_of_getElem? (i := 119) (by decide +kernel)) (by decide +kernel)
theorem q_1081 : Cond.methodLink RX1 37 yX1_isShelf ∈ AL := AL_t4 (List.mem_of_getElem? (i := 120) (by decide +kernel)) (by decide +kernel)
theorem q_1082 : Cond.methodLink RX8 290 yX1_holdRow ∈ AL := AL_t4 (List.mem_of_getElem? (i := 121) (by decide +kernel)) (by decide +kernel)
theorem q_1083 : Cond.instanceMethod yX1_holdRow ∈ AL := AL_t4 (List.mem_of_getElem? (i := 122) (by decide +kernel)) (by decide +kernel)
theorem q_1084 : Cond.selects RX1 yX1_holdRow yX1_holdRow ∈ AL := AL_t4 (List.mem_of_getElem? (i := 123) (by decide +kernel)) (by decide +kernel)
theorem q_1085 : Cond.code yX1_holdRow cX1_holdRow 3 none ∈ AL := AL_t4 (List.mem_of_getElem? (i := 124) (by decide +kernel)) (by decide +kernel)
theorem q_1086 : Cond.methodLink RX8 293 yX1_holdNothing ∈ AL := AL_t4 (List.mem_of_getElem? (i := 125) (by decide +kernel)) (by decide +kernel)
theorem q_1087 : Cond.instanceMethod yX1_holdNothing ∈ AL := AL_t4 (List.mem_of_getElem? (i := 126) (by decide +kernel)) (by decide +kernel)
theorem q_1088 : Cond.selects RX1 yX1_holdNothing yX1_holdNothing ∈ AL := AL_t4 (List.mem_of_getElem? (i := 127) (by decide +kernel)) (by decide +kernel)
theorem q_1089 : Cond.code yX1_holdNothing cX1_holdNothing 2 none ∈ AL := AL_t4 (List.mem_of_getElem? (i := 128) (by decide +kernel)) (by decide +kernel)
theorem q_1090 : Cond.methodLink RL 171 yX9_shelf ∈ AL := AL_t6 (List.mem_of_getElem? (i := 223) (by decide +kernel)) (by decide +kernel)
theorem q_1091 : Cond.instanceMethod yX9_shelf ∈ AL := AL_t6 (List.mem_of_getElem? (i := 224) (by decide +kernel)) (by decide +kernel)
theorem q_1092 : Cond.selects RX9 yX9_shelf yX9_shelf ∈ AL := AL_t6 (List.mem_of_getElem? (i := 225) (by decide +kernel)) (by decide +kernel)
theorem q_1093 : Cond.code yX9_shelf cX9_shelf 4 (some .int) ∈ AL := AL_t6 (List.mem_of_getElem? (i := 226) (by decide +kernel)) (by decide +kernel)
theorem q_1094 : Cond.methodLink RX9 346 yX9_isHeld ∈ AL := AL_t6 (List.mem_of_getElem? (i := 227) (by decide +kernel)) (by decide +kernel)
theorem q_1095 : Cond.instanceMethod yX9_isHeld ∈ AL := AL_t6 (List.mem_of_getElem? (i := 229) (by decide +kernel)) (by decide +kernel)
theorem q_1096 : Cond.selects RX9 yX9_isHeld yX9_isHeld ∈ AL := AL_s (List.mem_of_getElem? (i := 67) (by decide +kernel)) (by decide +kernel)
theorem q_1097 : Cond.code yX9_isHeld cX9_isHeld 3 (some .boolean) ∈ AL := AL_t6 (List.mem_of_getElem? (i := 230) (by decide +kernel)) (by decide +kernel)
theorem q_1098 : Cond.methodLink RL 172 yX8_taken ∈ AL := AL_t4 (List.mem_of_getElem? (i := 129) (by decide +kernel)) (by decide +kernel)
theorem q_1099 : Cond.instanceMethod yX8_taken ∈ AL := AL_t4 (List.mem_of_getElem? (i := 130) (by decide +kernel)) (by decide +kernel)
theorem q_1100 : Cond.selects RX8 yX8_taken yX8_taken ∈ AL := AL_t4 (List.mem_of_getElem? (i := 131) (by decide +kernel)) (by decide +kernel)
theorem q_1101 : Cond.code yX8_taken cX8_taken 8 (some .int) ∈ AL := AL_t4 (List.mem_of_getElem? (i := 132) (by decide +kernel)) (by decide +kernel)
theorem q_1102 : Cond.fieldLink RX8 299 "CrashTies$Host" "numbers" "[I" ∈ AL := AL_t1 (List.mem_of_getElem? (i := 200) (by decide +kernel)) (by decide +kernel)
theorem q_1103 : Cond.methodLink RX8 296 yX1_heldOn ∈ AL := AL_t4 (List.mem_of_getElem? (i := 133) (by decide +kernel)) (by decide +kernel)
theorem q_1104 : Cond.instanceMethod yX1_heldOn ∈ AL := AL_t4 (List.mem_of_getElem? (i := 134) (by decide +kernel)) (by decide +kernel)
theorem q_1105 : Cond.selects RX1 yX1_heldOn yX1_heldOn ∈ AL := AL_t4 (List.mem_of_getElem? (i := 135) (by decide +kernel)) (by decide +kernel)
theorem q_1106 : Cond.code yX1_heldOn cX1_heldOn 4 (some .int) ∈ AL := AL_t4 (List.mem_of_getElem? (i := 136) (by decide +kernel)) (by decide +kernel)
theorem q_1107 : Cond.methodLink RX8 302 yX8_isUnder ∈ AL := AL_t4 (List.mem_of_getElem? (i := 137) (by decide +kernel)) (by decide +kernel)
theorem q_1108 : Cond.static yX8_isUnder ∈ AL := AL_t4 (List.mem_of_getElem? (i := 138) (by decide +kernel)) (by decide +kernel)
theorem q_1109 : Cond.code yX8_isUnder cX8_isUnder 4 (some .boolean) ∈ AL := AL_t4 (List.mem_of_getElem? (i := 139) (by decide +kernel)) (by decide +kernel)
theorem q_1110 : Cond.fieldLink RX8 318 "CrashTies" "OVER" "[I" ∈ AL := AL_t4 (List.mem_of_getElem? (i := 140) (by decide +kernel)) (by decide +kernel)
theorem q_1111 : Cond.methodLink RL 175 yX9_taken ∈ AL := AL_t6 (List.mem_of_getElem? (i := 231) (by decide +kernel)) (by decide +kernel)
theorem q_1112 : Cond.instanceMethod yX9_taken ∈ AL := AL_t6 (List.mem_of_getElem? (i := 232) (by decide +kernel)) (by decide +kernel)
theorem q_1113 : Cond.selects RX9 yX9_taken yX9_taken ∈ AL := AL_t6 (List.mem_of_getElem? (i := 233) (by decide +kernel)) (by decide +kernel)
theorem q_1114 : Cond.code yX9_taken cX9_taken 4 (some .int) ∈ AL := AL_t6 (List.mem_of_getElem? (i := 234) (by decide +kernel)) (by decide +kernel)
theorem q_1115 : Cond.methodLink RX9 349 yX9_kindOn ∈ AL := AL_t6 (List.mem_of_getElem? (i := 235) (by decide +kernel)) (by decide +kernel)
theorem q_1116 : Cond.instanceMethod yX9_kindOn ∈ AL := AL_t6 (List.mem_of_getElem? (i := 237) (by decide +kernel)) (by decide +kernel)
theorem q_1117 : Cond.selects RX9 yX9_kindOn yX9_kindOn ∈ AL := AL_s (List.mem_of_getElem? (i := 68) (by decide +kernel)) (by decide +kernel)
theorem q_1118 : Cond.code yX9_kindOn cX9_kindOn 2 (some .int) ∈ AL := AL_t6 (List.mem_of_getElem? (i := 238) (by decide +kernel)) (by decide +kernel)
theorem q_1119 : Cond.methodLink RX9 352 yX9_isUnder ∈ AL := AL_t6 (List.mem_of_getElem? (i := 239) (by decide +kernel)) (by decide +kernel)
theorem q_1120 : Cond.static yX9_isUnder ∈ AL := AL_t7 (List.mem_of_getElem? (i := 0) (by decide +kernel)) (by decide +kernel)
theorem q_1121 : Cond.code yX9_isUnder cX9_isUnder 2 (some .boolean) ∈ AL := AL_t7 (List.mem_of_getElem? (i := 1) (by decide +kernel)) (by decide +kernel)
theorem q_1122 : Cond.methodLink RL 176 yX8_act ∈ AL := AL_t4 (List.mem_of_getElem? (i := 142) (by decide +kernel)) (by decide +kernel)
theorem q_1123 : Cond.instanceMethod yX8_act ∈ AL := AL_t4 (List.mem_of_getElem? (i := 143) (by decide +kernel)) (by decide +kernel)
theorem q_1124 : Cond.selects RX8 yX8_act yX8_act ∈ AL := AL_t4 (List.mem_of_getElem? (i := 144) (by decide +kernel)) (by decide +kernel)
theorem q_1125 : Cond.code yX8_act cX8_act 5 (some .int) ∈ AL := AL_t4 (List.mem_of_getElem? (i := 145) (by decide +kernel)) (by decide +kernel)
theorem q_1126 : Cond.fieldLink RX8 305 "CrashTies$Play" "count" "I" ∈ AL := AL_t1 (List.mem_of_getElem? (i := 222) (by decide +kernel)) (by decide +kernel)
theorem q_1127 : Cond.methodLink RX8 306 yX3_perform ∈ AL := AL_t4 (List.mem_of_getElem? (i := 146) (by decide +kernel)) (by decide +kernel)
theorem q_1128 : Cond.instanceMethod yX3_perform ∈ AL := AL_t4 (List.mem_of_getElem? (i := 147) (by decide +kernel)) (by decide +kernel)
theorem q_1129 : Cond.selects RX3 yX3_perform yX3_perform ∈ AL := AL_t4 (List.mem_of_getElem? (i := 148) (by decide +kernel)) (by decide +kernel)
theorem q_1130 : Cond.code yX3_perform cX3_perform 7 (some .int) ∈ AL := AL_t4 (List.mem_of_getElem? (i := 149) (by decide +kernel)) (by decide +kernel)
theorem q_1131 : Cond.fieldLink RX3 15 "CrashTies$Play" "kind" "I" ∈ AL := AL_t1 (List.mem_of_getElem? (i := 223) (by decide +kernel)) (by decide +kernel)
theorem q_1132 : Cond.fieldLink RX3 19 "CrashTies$Play" "n" "I" ∈ AL := AL_t1 (List.mem_of_getElem? (i := 224) (by decide +kernel)) (by decide +kernel)
theorem q_1133 : Cond.fieldLink RX3 22 "CrashTies$Play" "a" "I" ∈ AL := AL_t1 (List.mem_of_getElem? (i := 225) (by decide +kernel)) (by decide +kernel)
theorem q_1134 : Cond.fieldLink RX3 25 "CrashTies$Play" "count" "I" ∈ AL := AL_t1 (List.mem_of_getElem? (i := 221) (by decide +kernel)) (by decide +kernel)
theorem q_1135 : Cond.fieldLink RX3 28 "CrashTies$Play" "parted" "Z" ∈ AL := AL_t1 (List.mem_of_getElem? (i := 226) (by decide +kernel)) (by decide +kernel)
theorem q_1136 : Cond.methodLink RX3 32 yX3_bodyOf ∈ AL := AL_t4 (List.mem_of_getElem? (i := 150) (by decide +kernel)) (by decide +kernel)
theorem q_1137 : Cond.instanceMethod yX3_bodyOf ∈ AL := AL_t4 (List.mem_of_getElem? (i := 152) (by decide +kernel)) (by decide +kernel)
theorem q_1138 : Cond.selects RX3 yX3_bodyOf yX3_bodyOf ∈ AL := AL_s (List.mem_of_getElem? (i := 27) (by decide +kernel)) (by decide +kernel)
theorem q_1139 : Cond.code yX3_bodyOf cX3_bodyOf 3 (some .int) ∈ AL := AL_t4 (List.mem_of_getElem? (i := 153) (by decide +kernel)) (by decide +kernel)
theorem q_1140 : Cond.fieldLink RX3 40 "CrashTies$Play" "BODIES" "[I" ∈ AL := AL_t4 (List.mem_of_getElem? (i := 154) (by decide +kernel)) (by decide +kernel)
theorem q_1141 : Cond.methodLink RX3 36 yX3_run ∈ AL := AL_t4 (List.mem_of_getElem? (i := 156) (by decide +kernel)) (by decide +kernel)
theorem q_1142 : Cond.instanceMethod yX3_run ∈ AL := AL_t4 (List.mem_of_getElem? (i := 158) (by decide +kernel)) (by decide +kernel)
theorem q_1143 : Cond.selects RX3 yX3_run yX3_run ∈ AL := AL_s (List.mem_of_getElem? (i := 28) (by decide +kernel)) (by decide +kernel)
theorem q_1144 : Cond.code yX3_run cX3_run 5 (some .int) ∈ AL := AL_t4 (List.mem_of_getElem? (i := 159) (by decide +kernel)) (by decide +kernel)
theorem q_1145 : Cond.methodLink RX3 43 yX3_share ∈ AL := AL_t4 (List.mem_of_getElem? (i := 160) (by decide +kernel)) (by decide +kernel)
theorem q_1146 : Cond.instanceMethod yX3_share ∈ AL := AL_t4 (List.mem_of_getElem? (i := 162) (by decide +kernel)) (by decide +kernel)
theorem q_1147 : Cond.selects RX3 yX3_share yX3_share ∈ AL := AL_s (List.mem_of_getElem? (i := 29) (by decide +kernel)) (by decide +kernel)
theorem q_1148 : Cond.code yX3_share cX3_share 3 (some .int) ∈ AL := AL_t4 (List.mem_of_getElem? (i := 163) (by decide +kernel)) (by decide +kernel)
theorem q_1149 : Cond.methodLink RL 179 yX9_act ∈ AL := AL_t7 (List.mem_of_getElem? (i := 2) (by decide +kernel)) (by decide +kernel)
theorem q_1150 : Cond.instanceMethod yX9_act ∈ AL := AL_t7 (List.mem_of_getElem? (i := 3) (by decide +kernel)) (by decide +kernel)
theorem q_1151 : Cond.selects RX9 yX9_act yX9_act ∈ AL := AL_t7 (List.mem_of_getElem? (i := 4) (by decide +kernel)) (by decide +kernel)
theorem q_1152 : Cond.code yX9_act cX9_act 6 (some .int) ∈ AL := AL_t7 (List.mem_of_getElem? (i := 5) (by decide +kernel)) (by decide +kernel)
theorem q_1153 : Cond.fieldLink RX9 355 "CrashTiesModel" "bodies" "I" ∈ AL := AL_t5 (List.mem_of_getElem? (i := 8) (by decide +kernel)) (by decide +kernel)
theorem q_1154 : Cond.fieldLink RX9 367 "CrashTiesModel" "kind" "I" ∈ AL := AL_t5 (List.mem_of_getElem? (i := 4) (by decide +kernel)) (by decide +kernel)
theorem q_1155 : Cond.fieldLink RX9 361 "CrashTiesModel" "number" "I" ∈ AL := AL_t5 (List.mem_of_getElem? (i := 5) (by decide +kernel)) (by decide +kernel)
theorem q_1156 : Cond.fieldLink RX9 379 "CrashTiesModel" "own" "I" ∈ AL := AL_t5 (List.mem_of_getElem? (i := 6) (by decide +kernel)) (by decide +kernel)
theorem q_1157 : Cond.fieldLink RX9 385 "CrashTiesModel" "isParted" "Z" ∈ AL := AL_t5 (List.mem_of_getElem? (i := 9) (by decide +kernel)) (by decide +kernel)
theorem q_1158 : Cond.methodLink RX9 373 yX9_hitsIt ∈ AL := AL_t7 (List.mem_of_getElem? (i := 6) (by decide +kernel)) (by decide +kernel)
theorem q_1159 : Cond.instanceMethod yX9_hitsIt ∈ AL := AL_t7 (List.mem_of_getElem? (i := 8) (by decide +kernel)) (by decide +kernel)
theorem q_1160 : Cond.selects RX9 yX9_hitsIt yX9_hitsIt ∈ AL := AL_s (List.mem_of_getElem? (i := 69) (by decide +kernel)) (by decide +kernel)
theorem q_1161 : Cond.code yX9_hitsIt cX9_hitsIt 2 (some .int) ∈ AL := AL_t7 (List.mem_of_getElem? (i := 9) (by decide +kernel)) (by decide +kernel)
theorem q_1162 : Cond.methodLink RX9 370 yX9_glassHits ∈ AL := AL_t7 (List.mem_of_getElem? (i := 10) (by decide +kernel)) (by decide +kernel)
theorem q_1163 : Cond.instanceMethod yX9_glassHits ∈ AL := AL_t7 (List.mem_of_getElem? (i := 12) (by decide +kernel)) (by decide +kernel)
theorem q_1164 : Cond.selects RX9 yX9_glassHits yX9_glassHits ∈ AL := AL_s (List.mem_of_getElem? (i := 70) (by decide +kernel)) (by decide +kernel)
theorem q_1165 : Cond.code yX9_glassHits cX9_glassHits 2 (some .int) ∈ AL := AL_t7 (List.mem_of_getElem? (i := 13) (by decide +kernel)) (by decide +kernel)
theorem q_1166 : Cond.methodLink RX9 358 yX9_ran ∈ AL := AL_t7 (List.mem_of_getElem? (i := 14) (by decide +kernel)) (by decide +kernel)
theorem q_1167 : Cond.instanceMethod yX9_ran ∈ AL := AL_t7 (List.mem_of_getElem? (i := 16) (by decide +kernel)) (by decide +kernel)
theorem q_1168 : Cond.selects RX9 yX9_ran yX9_ran ∈ AL := AL_s (List.mem_of_getElem? (i := 71) (by decide +kernel)) (by decide +kernel)
theorem q_1169 : Cond.code yX9_ran cX9_ran 2 none ∈ AL := AL_t7 (List.mem_of_getElem? (i := 17) (by decide +kernel)) (by decide +kernel)
theorem q_1170 : Cond.methodLink RX9 364 yX9_plainHits ∈ AL := AL_t7 (List.mem_of_getElem? (i := 18) (by decide +kernel)) (by decide +kernel)
theorem q_1171 : Cond.instanceMethod yX9_plainHits ∈ AL := AL_t7 (List.mem_of_getElem? (i := 20) (by decide +kernel)) (by decide +kernel)
theorem q_1172 : Cond.selects RX9 yX9_plainHits yX9_plainHits ∈ AL := AL_s (List.mem_of_getElem? (i := 72) (by decide +kernel)) (by decide +kernel)
theorem q_1173 : Cond.code yX9_plainHits cX9_plainHits 2 (some .int) ∈ AL := AL_t7 (List.mem_of_getElem? (i := 21) (by decide +kernel)) (by decide +kernel)
theorem q_1174 : Cond.methodLink RX9 391 yX9_paysIt ∈ AL := AL_t7 (List.mem_of_getElem? (i := 22) (by decide +kernel)) (by decide +kernel)
theorem q_1175 : Cond.instanceMethod yX9_paysIt ∈ AL := AL_t7 (List.mem_of_getElem? (i := 24) (by decide +kernel)) (by decide +kernel)
theorem q_1176 : Cond.selects RX9 yX9_paysIt yX9_paysIt ∈ AL := AL_s (List.mem_of_getElem? (i := 73) (by decide +kernel)) (by decide +kernel)
theorem q_1177 : Cond.code yX9_paysIt cX9_paysIt 3 (some .int) ∈ AL := AL_t7 (List.mem_of_getElem? (i := 25) (by decide +kernel)) (by decide +kernel)
theorem q_1178 : Cond.methodLink RX9 382 yX9_bumpPays ∈ AL := AL_t7 (List.mem_of_getElem? (i := 26) (by decide +kernel)) (by decide +kernel)
theorem q_1179 : Cond.instanceMethod yX9_bumpPays ∈ AL := AL_t7 (List.mem_of_getElem? (i := 28) (by decide +kernel)) (by decide +kernel)
theorem q_1180 : Cond.selects RX9 yX9_bumpPays yX9_bumpPays ∈ AL := AL_s (List.mem_of_getElem? (i := 74) (by decide +kernel)) (by decide +kernel)
theorem q_1181 : Cond.code yX9_bumpPays cX9_bumpPays 2 (some .int) ∈ AL := AL_t7 (List.mem_of_getElem? (i := 29) (by decide +kernel)) (by decide +kernel)
theorem q_1182 : Cond.methodLink RX9 376 yX9_plainPays ∈ AL := AL_t7 (List.mem_of_getElem? (i := 30) (by decide +kernel)) (by decide +kernel)
theorem q_1183 : Cond.instanceMethod yX9_plainPays ∈ AL := AL_t7 (List.mem_of_getElem? (i := 32) (by decide +kernel)) (by decide +kernel)
theorem q_1184 : Cond.selects RX9 yX9_plainPays yX9_plainPays ∈ AL := AL_s (List.mem_of_getElem? (i := 75) (by decide +kernel)) (by decide +kernel)
theorem q_1185 : Cond.code yX9_plainPays cX9_plainPays 2 (some .int) ∈ AL := AL_t7 (List.mem_of_getElem? (i := 33) (by decide +kernel)) (by decide +kernel)
theorem q_1186 : Cond.methodLink RX9 397 yX9_sharesIt ∈ AL := AL_t7 (List.mem_of_getElem? (i := 34) (by decide +kernel)) (by decide +kernel)
theorem q_1187 : Cond.instanceMethod yX9_sharesIt ∈ AL := AL_t7 (List.mem_of_getElem? (i := 36) (by decide +kernel)) (by decide +kernel)
theorem q_1188 : Cond.selects RX9 yX9_sharesIt yX9_sharesIt ∈ AL := AL_s (List.mem_of_getElem? (i := 76) (by decide +kernel)) (by decide +kernel)
theorem q_1189 : Cond.code yX9_sharesIt cX9_sharesIt 3 (some .int) ∈ AL := AL_t7 (List.mem_of_getElem? (i := 37) (by decide +kernel)) (by decide +kernel)
theorem q_1190 : Cond.methodLink RX9 388 yX9_plainShares ∈ AL := AL_t7 (List.mem_of_getElem? (i := 38) (by decide +kernel)) (by decide +kernel)
theorem q_1191 : Cond.instanceMethod yX9_plainShares ∈ AL := AL_t7 (List.mem_of_getElem? (i := 40) (by decide +kernel)) (by decide +kernel)
theorem q_1192 : Cond.selects RX9 yX9_plainShares yX9_plainShares ∈ AL := AL_s (List.mem_of_getElem? (i := 77) (by decide +kernel)) (by decide +kernel)
theorem q_1193 : Cond.code yX9_plainShares cX9_plainShares 2 (some .int) ∈ AL := AL_t7 (List.mem_of_getElem? (i := 41) (by decide +kernel)) (by decide +kernel)
theorem q_1194 : Cond.methodLink RX9 400 yX9_tellsIt ∈ AL := AL_t7 (List.mem_of_getElem? (i := 42) (by decide +kernel)) (by decide +kernel)
theorem q_1195 : Cond.instanceMethod yX9_tellsIt ∈ AL := AL_t7 (List.mem_of_getElem? (i := 44) (by decide +kernel)) (by decide +kernel)
theorem q_1196 : Cond.selects RX9 yX9_tellsIt yX9_tellsIt ∈ AL := AL_s (List.mem_of_getElem? (i := 78) (by decide +kernel)) (by decide +kernel)
theorem q_1197 : Cond.code yX9_tellsIt cX9_tellsIt 3 (some .int) ∈ AL := AL_t7 (List.mem_of_getElem? (i := 45) (by decide +kernel)) (by decide +kernel)
theorem q_1198 : Cond.methodLink RX9 394 yX9_plainTells ∈ AL := AL_t7 (List.mem_of_getElem? (i := 46) (by decide +kernel)) (by decide +kernel)
theorem q_1199 : Cond.instanceMethod yX9_plainTells ∈ AL := AL_t7 (List.mem_of_getElem? (i := 48) (by decide +kernel)) (by decide +kernel)
theorem q_1200 : Cond.selects RX9 yX9_plainTells yX9_plainTells ∈ AL := AL_s (List.mem_of_getElem? (i := 79) (by decide +kernel)) (by decide +kernel)
theorem q_1201 : Cond.code yX9_plainTells cX9_plainTells 2 (some .int) ∈ AL := AL_t7 (List.mem_of_getElem? (i := 49) (by decide +kernel)) (by decide +kernel)
theorem q_1202 : Cond.methodLink RL 180 yX8_trace ∈ AL := AL_t4 (List.mem_of_getElem? (i := 164) (by decide +kernel)) (by decide +kernel)
theorem q_1203 : Cond.instanceMethod yX8_trace ∈ AL := AL_t4 (List.mem_of_getElem? (i := 165) (by decide +kernel)) (by decide +kernel)
theorem q_1204 : Cond.selects RX8 yX8_trace yX8_trace ∈ AL := AL_t4 (List.mem_of_getElem? (i := 166) (by decide +kernel)) (by decide +kernel)
theorem q_1205 : Cond.code yX8_trace cX8_trace 2 (some .int) ∈ AL := AL_t4 (List.mem_of_getElem? (i := 167) (by decide +kernel)) (by decide +kernel)
theorem q_1206 : Cond.fieldLink RX8 309 "CrashTies$Play" "bodies" "[I" ∈ AL := AL_t1 (List.mem_of_getElem? (i := 220) (by decide +kernel)) (by decide +kernel)
theorem q_1207 : Cond.methodLink RL 183 yX9_trace ∈ AL := AL_t7 (List.mem_of_getElem? (i := 50) (by decide +kernel)) (by decide +kernel)
theorem q_1208 : Cond.instanceMethod yX9_trace ∈ AL := AL_t7 (List.mem_of_getElem? (i := 51) (by decide +kernel)) (by decide +kernel)
theorem q_1209 : Cond.selects RX9 yX9_trace yX9_trace ∈ AL := AL_t7 (List.mem_of_getElem? (i := 52) (by decide +kernel)) (by decide +kernel)
theorem q_1210 : Cond.code yX9_trace cX9_trace 2 (some .int) ∈ AL := AL_t7 (List.mem_of_getElem? (i := 53) (by decide +kernel)) (by decide +kernel)
theorem q_1211 : Cond.methodLink RL 184 yX8_many ∈ AL := AL_t4 (List.mem_of_getElem? (i := 168) (by decide +kernel)) (by decide +kernel)
theorem q_1212 : Cond.instanceMethod yX8_many ∈ AL := AL_t4 (List.mem_of_getElem? (i := 169) (by decide +kernel)) (by decide +kernel)
theorem q_1213 : Cond.selects RX8 yX8_many yX8_many ∈ AL := AL_t4 (List.mem_of_getElem? (i := 170) (by decide +kernel)) (by decide +kernel)
theorem q_1214 : Cond.code yX8_many cX8_many 2 (some .int) ∈ AL := AL_t4 (List.mem_of_getElem? (i := 171) (by decide +kernel)) (by decide +kernel)
theorem q_1215 : Cond.methodLink RX8 312 yX0_countOnes ∈ AL := AL_t4 (List.mem_of_getElem? (i := 172) (by decide +kernel)) (by decide +kernel)
theorem q_1216 : Cond.instanceMethod yX0_countOnes ∈ AL := AL_t4 (List.mem_of_getElem? (i := 173) (by decide +kernel)) (by decide +kernel)
theorem q_1217 : Cond.selects RX0 yX0_countOnes yX0_countOnes ∈ AL := AL_t4 (List.mem_of_getElem? (i := 174) (by decide +kernel)) (by decide +kernel)
theorem q_1218 : Cond.code yX0_countOnes cX0_countOnes 3 (some .int) ∈ AL := AL_t4 (List.mem_of_getElem? (i := 175) (by decide +kernel)) (by decide +kernel)
theorem q_1219 : Cond.methodLink RL 187 yX9_many ∈ AL := AL_t7 (List.mem_of_getElem? (i := 54) (by decide +kernel)) (by decide +kernel)
theorem q_1220 : Cond.instanceMethod yX9_many ∈ AL := AL_t7 (List.mem_of_getElem? (i := 55) (by decide +kernel)) (by decide +kernel)
theorem q_1221 : Cond.selects RX9 yX9_many yX9_many ∈ AL := AL_t7 (List.mem_of_getElem? (i := 56) (by decide +kernel)) (by decide +kernel)
theorem q_1222 : Cond.code yX9_many cX9_many 4 (some .int) ∈ AL := AL_t7 (List.mem_of_getElem? (i := 57) (by decide +kernel)) (by decide +kernel)
theorem q_1223 : Cond.methodLink RL 188 yX8_keep ∈ AL := AL_t4 (List.mem_of_getElem? (i := 176) (by decide +kernel)) (by decide +kernel)
theorem q_1224 : Cond.instanceMethod yX8_keep ∈ AL := AL_t4 (List.mem_of_getElem? (i := 177) (by decide +kernel)) (by decide +kernel)
theorem q_1225 : Cond.selects RX8 yX8_keep yX8_keep ∈ AL := AL_t4 (List.mem_of_getElem? (i := 178) (by decide +kernel)) (by decide +kernel)
theorem q_1226 : Cond.code yX8_keep cX8_keep 1 (some .int) ∈ AL := AL_t4 (List.mem_of_getElem? (i := 179) (by decide +kernel)) (by decide +kernel)
theorem q_1227 : Cond.methodLink RX8 315 yX0_copyFrom ∈ AL := AL_t4 (List.mem_of_getElem? (i := 180) (by decide +kernel)) (by decide +kernel)
theorem q_1228 : Cond.instanceMethod yX0_copyFrom ∈ AL := AL_t4 (List.mem_of_getElem? (i := 181) (by decide +kernel)) (by decide +kernel)
theorem q_1229 : Cond.selects RX0 yX0_copyFrom yX0_copyFrom ∈ AL := AL_t4 (List.mem_of_getElem? (i := 182) (by decide +kernel)) (by decide +kernel)
theorem q_1230 : Cond.code yX0_copyFrom cX0_copyFrom 3 none ∈ AL := AL_t4 (List.mem_of_getElem? (i := 183) (by decide +kernel)) (by decide +kernel)
theorem q_1231 : Cond.methodLink RX0 54 arraycopyName ∈ AL := AL_t4 (List.mem_of_getElem? (i := 184) (by decide +kernel)) (by decide +kernel)
theorem q_1232 : Cond.native arraycopyName ∈ AL := AL_t4 (List.mem_of_getElem? (i := 186) (by decide +kernel)) (by decide +kernel)
theorem q_1233 : Cond.static arraycopyName ∈ AL := AL_t4 (List.mem_of_getElem? (i := 185) (by decide +kernel)) (by decide +kernel)
theorem q_1234 : Cond.initialized "java/lang/System" ∈ AL := AL_t1 (List.mem_of_getElem? (i := 17) (by decide +kernel)) (by decide +kernel)
theorem q_1235 : Cond.methodLink RX0 66 yX6_copyFrom ∈ AL := AL_t4 (List.mem_of_getElem? (i := 187) (by decide +kernel)) (by decide +kernel)
theorem q_1236 : Cond.methodLink RL 191 yX9_keep ∈ AL := AL_t7 (List.mem_of_getElem? (i := 58) (by decide +kernel)) (by decide +kernel)
theorem q_1237 : Cond.instanceMethod yX9_keep ∈ AL := AL_t7 (List.mem_of_getElem? (i := 59) (by decide +kernel)) (by decide +kernel)
theorem q_1238 : Cond.selects RX9 yX9_keep yX9_keep ∈ AL := AL_t7 (List.mem_of_getElem? (i := 60) (by decide +kernel)) (by decide +kernel)
theorem q_1239 : Cond.code yX9_keep cX9_keep 1 (some .int) ∈ AL := AL_t7 (List.mem_of_getElem? (i := 61) (by decide +kernel)) (by decide +kernel)
theorem q_1240 : Cond.fieldLink RX9 414 "CrashTiesModel" "isKept" "Z" ∈ AL := AL_t5 (List.mem_of_getElem? (i := 10) (by decide +kernel)) (by decide +kernel)
theorem q_1241 : Cond.methodLink RX9 410 yX9_moveAll ∈ AL := AL_t7 (List.mem_of_getElem? (i := 62) (by decide +kernel)) (by decide +kernel)
theorem q_1242 : Cond.instanceMethod yX9_moveAll ∈ AL := AL_t7 (List.mem_of_getElem? (i := 64) (by decide +kernel)) (by decide +kernel)
theorem q_1243 : Cond.selects RX9 yX9_moveAll yX9_moveAll ∈ AL := AL_s (List.mem_of_getElem? (i := 80) (by decide +kernel)) (by decide +kernel)
theorem q_1244 : Cond.code yX9_moveAll cX9_moveAll 2 none ∈ AL := AL_t7 (List.mem_of_getElem? (i := 65) (by decide +kernel)) (by decide +kernel)
theorem q_1245 : Cond.fieldLink RX9 403 "CrashTiesModel" "movedTo" "I" ∈ AL := AL_t5 (List.mem_of_getElem? (i := 12) (by decide +kernel)) (by decide +kernel)
theorem q_1246 : Cond.methodLink RX9 406 yX9_move ∈ AL := AL_t7 (List.mem_of_getElem? (i := 66) (by decide +kernel)) (by decide +kernel)
theorem q_1247 : Cond.instanceMethod yX9_move ∈ AL := AL_t7 (List.mem_of_getElem? (i := 68) (by decide +kernel)) (by decide +kernel)
theorem q_1248 : Cond.selects RX9 yX9_move yX9_move ∈ AL := AL_s (List.mem_of_getElem? (i := 81) (by decide +kernel)) (by decide +kernel)
theorem q_1249 : Cond.code yX9_move cX9_move 5 none ∈ AL := AL_t7 (List.mem_of_getElem? (i := 69) (by decide +kernel)) (by decide +kernel)
theorem q_1250 : Cond.methodLink RL 192 yX8_again ∈ AL := AL_t4 (List.mem_of_getElem? (i := 188) (by decide +kernel)) (by decide +kernel)
theorem q_1251 : Cond.instanceMethod yX8_again ∈ AL := AL_t4 (List.mem_of_getElem? (i := 189) (by decide +kernel)) (by decide +kernel)
theorem q_1252 : Cond.selects RX8 yX8_again yX8_again ∈ AL := AL_t4 (List.mem_of_getElem? (i := 190) (by decide +kernel)) (by decide +kernel)
theorem q_1253 : Cond.code yX8_again cX8_again 1 (some .int) ∈ AL := AL_t4 (List.mem_of_getElem? (i := 191) (by decide +kernel)) (by decide +kernel)
theorem q_1254 : Cond.methodLink RL 195 yX9_again ∈ AL := AL_t7 (List.mem_of_getElem? (i := 70) (by decide +kernel)) (by decide +kernel)
theorem q_1255 : Cond.instanceMethod yX9_again ∈ AL := AL_t7 (List.mem_of_getElem? (i := 71) (by decide +kernel)) (by decide +kernel)
theorem q_1256 : Cond.selects RX9 yX9_again yX9_again ∈ AL := AL_t7 (List.mem_of_getElem? (i := 72) (by decide +kernel)) (by decide +kernel)
theorem q_1257 : Cond.code yX9_again cX9_again 1 (some .int) ∈ AL := AL_t7 (List.mem_of_getElem? (i := 73) (by decide +kernel)) (by decide +kernel)
theorem q_1258 : Cond.laysFinal RX0 "CrashTies$Book" "sizes" "[I" ∈ AL := AL_t1 (List.mem_of_getElem? (i := 91) (by decide +kernel)) (by decide +kernel)
theorem q_1259 : Cond.laysFinal RX0 "CrashTies$Book" "laws" "[I" ∈ AL := AL_t1 (List.mem_of_getElem? (i := 93) (by decide +kernel)) (by decide +kernel)
theorem q_1260 : Cond.lays RX0 "CrashTies$Book" "people" "I" ∈ AL := AL_t1 (List.mem_of_getElem? (i := 95) (by decide +kernel)) (by decide +kernel)
theorem q_1261 : Cond.laysFinal RX0 "CrashTies$Book" "homes" "[I" ∈ AL := AL_t1 (List.mem_of_getElem? (i := 97) (by decide +kernel)) (by decide +kernel)
theorem q_1262 : Cond.laysFinal RX0 "CrashTies$Book" "hubs" "[Z" ∈ AL := AL_t1 (List.mem_of_getElem? (i := 99) (by decide +kernel)) (by decide +kernel)
theorem q_1263 : Cond.laysFinal RX0 "CrashTies$Book" "ones" "[I" ∈ AL := AL_t1 (List.mem_of_getElem? (i := 101) (by decide +kernel)) (by decide +kernel)
theorem q_1264 : Cond.lays RX0 "CrashTies$Book" "claims" "I" ∈ AL := AL_t1 (List.mem_of_getElem? (i := 103) (by decide +kernel)) (by decide +kernel)
theorem q_1265 : Cond.laysFinal RX0 "CrashTies$Book" "facts" "[I" ∈ AL := AL_t1 (List.mem_of_getElem? (i := 105) (by decide +kernel)) (by decide +kernel)
theorem q_1266 : Cond.laysFinal RX0 "CrashTies$Book" "seats" "[I" ∈ AL := AL_t1 (List.mem_of_getElem? (i := 107) (by decide +kernel)) (by decide +kernel)
theorem q_1267 : Cond.laysFinal RX0 "CrashTies$Book" "found" "[I" ∈ AL := AL_t1 (List.mem_of_getElem? (i := 109) (by decide +kernel)) (by decide +kernel)
theorem q_1268 : Cond.laysFinal RX0 "CrashTies$Book" "byChance" "[Z" ∈ AL := AL_t1 (List.mem_of_getElem? (i := 111) (by decide +kernel)) (by decide +kernel)
theorem q_1269 : Cond.laysFinal RX0 "CrashTies$Book" "rules" "LCrashTies$Rules;" ∈ AL := AL_t1 (List.mem_of_getElem? (i := 113) (by decide +kernel)) (by decide +kernel)
theorem q_1270 : Cond.lays RX0 "CrashTies$Book" "z" "I" ∈ AL := AL_t1 (List.mem_of_getElem? (i := 115) (by decide +kernel)) (by decide +kernel)
theorem q_1271 : Cond.laysFinal RX1 "CrashTies$Host" "sorts" "[I" ∈ AL := AL_t1 (List.mem_of_getElem? (i := 201) (by decide +kernel)) (by decide +kernel)
theorem q_1272 : Cond.laysFinal RX1 "CrashTies$Host" "lengths" "[I" ∈ AL := AL_t1 (List.mem_of_getElem? (i := 203) (by decide +kernel)) (by decide +kernel)
theorem q_1273 : Cond.laysFinal RX1 "CrashTies$Host" "items" "[J" ∈ AL := AL_t1 (List.mem_of_getElem? (i := 205) (by decide +kernel)) (by decide +kernel)
theorem q_1274 : Cond.laysFinal RX1 "CrashTies$Host" "held" "[I" ∈ AL := AL_t1 (List.mem_of_getElem? (i := 207) (by decide +kernel)) (by decide +kernel)
theorem q_1275 : Cond.laysFinal RX1 "CrashTies$Host" "numbers" "[I" ∈ AL := AL_t1 (List.mem_of_getElem? (i := 209) (by decide +kernel)) (by decide +kernel)
theorem q_1276 : Cond.laysFinal RX3 "CrashTies$Play" "bodies" "[I" ∈ AL := AL_t1 (List.mem_of_getElem? (i := 227) (by decide +kernel)) (by decide +kernel)
theorem q_1277 : Cond.lays RX3 "CrashTies$Play" "count" "I" ∈ AL := AL_t1 (List.mem_of_getElem? (i := 229) (by decide +kernel)) (by decide +kernel)
theorem q_1278 : Cond.lays RX3 "CrashTies$Play" "kind" "I" ∈ AL := AL_t1 (List.mem_of_getElem? (i := 231) (by decide +kernel)) (by decide +kernel)
theorem q_1279 : Cond.lays RX3 "CrashTies$Play" "n" "I" ∈ AL := AL_t1 (List.mem_of_getElem? (i := 233) (by decide +kernel)) (by decide +kernel)
theorem q_1280 : Cond.lays RX3 "CrashTies$Play" "a" "I" ∈ AL := AL_t1 (List.mem_of_getElem? (i := 235) (by decide +kernel)) (by decide +kernel)
theorem q_1281 : Cond.lays RX3 "CrashTies$Play" "parted" "Z" ∈ AL := AL_t1 (List.mem_of_getElem? (i := 237) (by decide +kernel)) (by decide +kernel)
theorem q_1282 : Cond.laysFinal RX4 "CrashTies$Reader" "tape" "[I" ∈ AL := AL_t1 (List.mem_of_getElem? (i := 156) (by decide +kernel)) (by decide +kernel)
theorem q_1283 : Cond.lays RX4 "CrashTies$Reader" "length" "I" ∈ AL := AL_t1 (List.mem_of_getElem? (i := 158) (by decide +kernel)) (by decide +kernel)
theorem q_1284 : Cond.laysFinal RX4 "CrashTies$Reader" "tokens" "[I" ∈ AL := AL_t1 (List.mem_of_getElem? (i := 160) (by decide +kernel)) (by decide +kernel)
theorem q_1285 : Cond.laysFinal RX4 "CrashTies$Reader" "starts" "[I" ∈ AL := AL_t1 (List.mem_of_getElem? (i := 162) (by decide +kernel)) (by decide +kernel)
theorem q_1286 : Cond.lays RX4 "CrashTies$Reader" "count" "I" ∈ AL := AL_t1 (List.mem_of_getElem? (i := 164) (by decide +kernel)) (by decide +kernel)
theorem q_1287 : Cond.lays RX4 "CrashTies$Reader" "at" "I" ∈ AL := AL_t1 (List.mem_of_getElem? (i := 166) (by decide +kernel)) (by decide +kernel)
theorem q_1288 : Cond.laysFinal RX4 "CrashTies$Reader" "draft" "LCrashTies$Rules;" ∈ AL := AL_t1 (List.mem_of_getElem? (i := 168) (by decide +kernel)) (by decide +kernel)
theorem q_1289 : Cond.lays RX4 "CrashTies$Reader" "fault" "I" ∈ AL := AL_t1 (List.mem_of_getElem? (i := 170) (by decide +kernel)) (by decide +kernel)
theorem q_1290 : Cond.laysFinal RX5 "CrashTies$Rows" "entries" "[I" ∈ AL := AL_t1 (List.mem_of_getElem? (i := 183) (by decide +kernel)) (by decide +kernel)
theorem q_1291 : Cond.lays RX5 "CrashTies$Rows" "count" "I" ∈ AL := AL_t1 (List.mem_of_getElem? (i := 185) (by decide +kernel)) (by decide +kernel)
theorem q_1292 : Cond.laysFinal RX6 "CrashTies$Rules" "codes" "[I" ∈ AL := AL_t1 (List.mem_of_getElem? (i := 47) (by decide +kernel)) (by decide +kernel)
theorem q_1293 : Cond.laysFinal RX6 "CrashTies$Rules" "stack" "[I" ∈ AL := AL_t1 (List.mem_of_getElem? (i := 49) (by decide +kernel)) (by decide +kernel)
theorem q_1294 : Cond.lays RX6 "CrashTies$Rules" "count" "I" ∈ AL := AL_t1 (List.mem_of_getElem? (i := 51) (by decide +kernel)) (by decide +kernel)
theorem q_1295 : Cond.lays RX6 "CrashTies$Rules" "clauses" "I" ∈ AL := AL_t1 (List.mem_of_getElem? (i := 53) (by decide +kernel)) (by decide +kernel)
theorem q_1296 : Cond.lays RX6 "CrashTies$Rules" "height" "I" ∈ AL := AL_t1 (List.mem_of_getElem? (i := 55) (by decide +kernel)) (by decide +kernel)
theorem q_1297 : Cond.lays RX6 "CrashTies$Rules" "asking" "Z" ∈ AL := AL_t1 (List.mem_of_getElem? (i := 57) (by decide +kernel)) (by decide +kernel)
theorem q_1298 : Cond.laysFinal RX7 "CrashTies$Ties" "strengths" "[I" ∈ AL := AL_t1 (List.mem_of_getElem? (i := 128) (by decide +kernel)) (by decide +kernel)
theorem q_1299 : Cond.laysFinal RX7 "CrashTies$Ties" "scores" "[I" ∈ AL := AL_t1 (List.mem_of_getElem? (i := 130) (by decide +kernel)) (by decide +kernel)
theorem q_1300 : Cond.laysFinal RX7 "CrashTies$Ties" "hours" "[I" ∈ AL := AL_t1 (List.mem_of_getElem? (i := 132) (by decide +kernel)) (by decide +kernel)
theorem q_1301 : Cond.laysFinal RX7 "CrashTies$Ties" "reached" "[I" ∈ AL := AL_t1 (List.mem_of_getElem? (i := 134) (by decide +kernel)) (by decide +kernel)
theorem q_1302 : Cond.laysFinal RX8 "CrashTies" "book" "LCrashTies$Book;" ∈ AL := AL_t2 (List.mem_of_getElem? (i := 10) (by decide +kernel)) (by decide +kernel)
theorem q_1303 : Cond.laysFinal RX8 "CrashTies" "kept" "LCrashTies$Book;" ∈ AL := AL_t2 (List.mem_of_getElem? (i := 12) (by decide +kernel)) (by decide +kernel)
theorem q_1304 : Cond.lays RX8 "CrashTies" "anyKept" "Z" ∈ AL := AL_t2 (List.mem_of_getElem? (i := 14) (by decide +kernel)) (by decide +kernel)
theorem q_1305 : Cond.laysFinal RX8 "CrashTies" "ties" "LCrashTies$Ties;" ∈ AL := AL_t2 (List.mem_of_getElem? (i := 16) (by decide +kernel)) (by decide +kernel)
theorem q_1306 : Cond.laysFinal RX8 "CrashTies" "reader" "LCrashTies$Reader;" ∈ AL := AL_t2 (List.mem_of_getElem? (i := 18) (by decide +kernel)) (by decide +kernel)
theorem q_1307 : Cond.laysFinal RX8 "CrashTies" "rows" "LCrashTies$Rows;" ∈ AL := AL_t2 (List.mem_of_getElem? (i := 20) (by decide +kernel)) (by decide +kernel)
theorem q_1308 : Cond.laysFinal RX8 "CrashTies" "dueRows" "LCrashTies$Rows;" ∈ AL := AL_t2 (List.mem_of_getElem? (i := 22) (by decide +kernel)) (by decide +kernel)
theorem q_1309 : Cond.laysFinal RX8 "CrashTies" "host" "LCrashTies$Host;" ∈ AL := AL_t2 (List.mem_of_getElem? (i := 24) (by decide +kernel)) (by decide +kernel)
theorem q_1310 : Cond.laysFinal RX8 "CrashTies" "play" "LCrashTies$Play;" ∈ AL := AL_t2 (List.mem_of_getElem? (i := 26) (by decide +kernel)) (by decide +kernel)
theorem q_1311 : Cond.laysFinal RX8 "CrashTies" "ruleFacts" "[I" ∈ AL := AL_t2 (List.mem_of_getElem? (i := 28) (by decide +kernel)) (by decide +kernel)
theorem q_1312 : Cond.laysFinal RX9 "CrashTiesModel" "sizeOf" "[I" ∈ AL := AL_t5 (List.mem_of_getElem? (i := 14) (by decide +kernel)) (by decide +kernel)
theorem q_1313 : Cond.lays RX9 "CrashTiesModel" "people" "I" ∈ AL := AL_t5 (List.mem_of_getElem? (i := 16) (by decide +kernel)) (by decide +kernel)
theorem q_1314 : Cond.laysFinal RX9 "CrashTiesModel" "townOf" "[I" ∈ AL := AL_t5 (List.mem_of_getElem? (i := 18) (by decide +kernel)) (by decide +kernel)
theorem q_1315 : Cond.laysFinal RX9 "CrashTiesModel" "isHub" "[I" ∈ AL := AL_t5 (List.mem_of_getElem? (i := 20) (by decide +kernel)) (by decide +kernel)
theorem q_1316 : Cond.laysFinal RX9 "CrashTiesModel" "oneOf" "[I" ∈ AL := AL_t5 (List.mem_of_getElem? (i := 22) (by decide +kernel)) (by decide +kernel)
theorem q_1317 : Cond.lays RX9 "CrashTiesModel" "claims" "I" ∈ AL := AL_t5 (List.mem_of_getElem? (i := 24) (by decide +kernel)) (by decide +kernel)
theorem q_1318 : Cond.laysFinal RX9 "CrashTiesModel" "claim" "[I" ∈ AL := AL_t5 (List.mem_of_getElem? (i := 26) (by decide +kernel)) (by decide +kernel)
theorem q_1319 : Cond.laysFinal RX9 "CrashTiesModel" "laws" "[I" ∈ AL := AL_t5 (List.mem_of_getElem? (i := 28) (by decide +kernel)) (by decide +kernel)
theorem q_1320 : Cond.laysFinal RX9 "CrashTiesModel" "mostOf" "[I" ∈ AL := AL_t5 (List.mem_of_getElem? (i := 30) (by decide +kernel)) (by decide +kernel)
theorem q_1321 : Cond.lays RX9 "CrashTiesModel" "clauses" "I" ∈ AL := AL_t5 (List.mem_of_getElem? (i := 32) (by decide +kernel)) (by decide +kernel)
theorem q_1322 : Cond.laysFinal RX9 "CrashTiesModel" "clause" "[I" ∈ AL := AL_t5 (List.mem_of_getElem? (i := 34) (by decide +kernel)) (by decide +kernel)
theorem q_1323 : Cond.laysFinal RX9 "CrashTiesModel" "signs" "[I" ∈ AL := AL_t5 (List.mem_of_getElem? (i := 36) (by decide +kernel)) (by decide +kernel)
theorem q_1324 : Cond.lays RX9 "CrashTiesModel" "z" "I" ∈ AL := AL_t5 (List.mem_of_getElem? (i := 38) (by decide +kernel)) (by decide +kernel)
theorem q_1325 : Cond.laysFinal RX9 "CrashTiesModel" "tape" "[I" ∈ AL := AL_t5 (List.mem_of_getElem? (i := 40) (by decide +kernel)) (by decide +kernel)
theorem q_1326 : Cond.lays RX9 "CrashTiesModel" "tapeMany" "I" ∈ AL := AL_t5 (List.mem_of_getElem? (i := 42) (by decide +kernel)) (by decide +kernel)
theorem q_1327 : Cond.lays RX9 "CrashTiesModel" "sort" "I" ∈ AL := AL_t5 (List.mem_of_getElem? (i := 44) (by decide +kernel)) (by decide +kernel)
theorem q_1328 : Cond.lays RX9 "CrashTiesModel" "begins" "I" ∈ AL := AL_t5 (List.mem_of_getElem? (i := 46) (by decide +kernel)) (by decide +kernel)
theorem q_1329 : Cond.lays RX9 "CrashTiesModel" "tokenEnds" "I" ∈ AL := AL_t5 (List.mem_of_getElem? (i := 48) (by decide +kernel)) (by decide +kernel)
theorem q_1330 : Cond.lays RX9 "CrashTiesModel" "word" "J" ∈ AL := AL_t5 (List.mem_of_getElem? (i := 50) (by decide +kernel)) (by decide +kernel)
theorem q_1331 : Cond.lays RX9 "CrashTiesModel" "value" "I" ∈ AL := AL_t5 (List.mem_of_getElem? (i := 52) (by decide +kernel)) (by decide +kernel)
theorem q_1332 : Cond.lays RX9 "CrashTiesModel" "good" "Z" ∈ AL := AL_t5 (List.mem_of_getElem? (i := 54) (by decide +kernel)) (by decide +kernel)
theorem q_1333 : Cond.laysFinal RX9 "CrashTiesModel" "facts" "[I" ∈ AL := AL_t5 (List.mem_of_getElem? (i := 56) (by decide +kernel)) (by decide +kernel)
theorem q_1334 : Cond.laysFinal RX9 "CrashTiesModel" "fresh" "[I" ∈ AL := AL_t5 (List.mem_of_getElem? (i := 58) (by decide +kernel)) (by decide +kernel)
theorem q_1335 : Cond.laysFinal RX9 "CrashTiesModel" "pending" "[I" ∈ AL := AL_t5 (List.mem_of_getElem? (i := 60) (by decide +kernel)) (by decide +kernel)
theorem q_1336 : Cond.lays RX9 "CrashTiesModel" "freshMany" "I" ∈ AL := AL_t5 (List.mem_of_getElem? (i := 62) (by decide +kernel)) (by decide +kernel)
theorem q_1337 : Cond.lays RX9 "CrashTiesModel" "pendingMany" "I" ∈ AL := AL_t5 (List.mem_of_getElem? (i := 64) (by decide +kernel)) (by decide +kernel)
theorem q_1338 : Cond.lays RX9 "CrashTiesModel" "open" "I" ∈ AL := AL_t5 (List.mem_of_getElem? (i := 66) (by decide +kernel)) (by decide +kernel)
theorem q_1339 : Cond.laysFinal RX9 "CrashTiesModel" "pile" "[Z" ∈ AL := AL_t5 (List.mem_of_getElem? (i := 68) (by decide +kernel)) (by decide +kernel)
theorem q_1340 : Cond.laysFinal RX9 "CrashTiesModel" "freshClause" "[I" ∈ AL := AL_t5 (List.mem_of_getElem? (i := 70) (by decide +kernel)) (by decide +kernel)
theorem q_1341 : Cond.laysFinal RX9 "CrashTiesModel" "strength" "[I" ∈ AL := AL_t5 (List.mem_of_getElem? (i := 72) (by decide +kernel)) (by decide +kernel)
theorem q_1342 : Cond.lays RX9 "CrashTiesModel" "lotScore" "I" ∈ AL := AL_t5 (List.mem_of_getElem? (i := 74) (by decide +kernel)) (by decide +kernel)
theorem q_1343 : Cond.lays RX9 "CrashTiesModel" "above" "J" ∈ AL := AL_t5 (List.mem_of_getElem? (i := 76) (by decide +kernel)) (by decide +kernel)
theorem q_1344 : Cond.lays RX9 "CrashTiesModel" "below" "J" ∈ AL := AL_t5 (List.mem_of_getElem? (i := 78) (by decide +kernel)) (by decide +kernel)
theorem q_1345 : Cond.laysFinal RX9 "CrashTiesModel" "often" "[J" ∈ AL := AL_t5 (List.mem_of_getElem? (i := 80) (by decide +kernel)) (by decide +kernel)
theorem q_1346 : Cond.laysFinal RX9 "CrashTiesModel" "hours" "[I" ∈ AL := AL_t5 (List.mem_of_getElem? (i := 82) (by decide +kernel)) (by decide +kernel)
theorem q_1347 : Cond.laysFinal RX9 "CrashTiesModel" "worth" "[I" ∈ AL := AL_t5 (List.mem_of_getElem? (i := 84) (by decide +kernel)) (by decide +kernel)
theorem q_1348 : Cond.laysFinal RX9 "CrashTiesModel" "rows" "[I" ∈ AL := AL_t5 (List.mem_of_getElem? (i := 86) (by decide +kernel)) (by decide +kernel)
theorem q_1349 : Cond.laysFinal RX9 "CrashTiesModel" "must" "[I" ∈ AL := AL_t5 (List.mem_of_getElem? (i := 88) (by decide +kernel)) (by decide +kernel)
theorem q_1350 : Cond.lays RX9 "CrashTiesModel" "rowMany" "I" ∈ AL := AL_t5 (List.mem_of_getElem? (i := 90) (by decide +kernel)) (by decide +kernel)
theorem q_1351 : Cond.lays RX9 "CrashTiesModel" "mustMany" "I" ∈ AL := AL_t5 (List.mem_of_getElem? (i := 92) (by decide +kernel)) (by decide +kernel)
theorem q_1352 : Cond.laysFinal RX9 "CrashTiesModel" "sorts" "[I" ∈ AL := AL_t5 (List.mem_of_getElem? (i := 94) (by decide +kernel)) (by decide +kernel)
theorem q_1353 : Cond.laysFinal RX9 "CrashTiesModel" "sizes" "[I" ∈ AL := AL_t5 (List.mem_of_getElem? (i := 96) (by decide +kernel)) (by decide +kernel)
theorem q_1354 : Cond.laysFinal RX9 "CrashTiesModel" "sheets" "[J" ∈ AL := AL_t5 (List.mem_of_getElem? (i := 98) (by decide +kernel)) (by decide +kernel)
theorem q_1355 : Cond.laysFinal RX9 "CrashTiesModel" "held" "[I" ∈ AL := AL_t5 (List.mem_of_getElem? (i := 100) (by decide +kernel)) (by decide +kernel)
theorem q_1356 : Cond.laysFinal RX9 "CrashTiesModel" "heldNumber" "[I" ∈ AL := AL_t5 (List.mem_of_getElem? (i := 102) (by decide +kernel)) (by decide +kernel)
theorem q_1357 : Cond.laysFinal RX9 "CrashTiesModel" "heldSize" "[I" ∈ AL := AL_t5 (List.mem_of_getElem? (i := 104) (by decide +kernel)) (by decide +kernel)
theorem q_1358 : Cond.lays RX9 "CrashTiesModel" "kind" "I" ∈ AL := AL_t5 (List.mem_of_getElem? (i := 106) (by decide +kernel)) (by decide +kernel)
theorem q_1359 : Cond.lays RX9 "CrashTiesModel" "number" "I" ∈ AL := AL_t5 (List.mem_of_getElem? (i := 108) (by decide +kernel)) (by decide +kernel)
theorem q_1360 : Cond.lays RX9 "CrashTiesModel" "own" "I" ∈ AL := AL_t5 (List.mem_of_getElem? (i := 110) (by decide +kernel)) (by decide +kernel)
theorem q_1361 : Cond.laysFinal RX9 "CrashTiesModel" "traced" "[I" ∈ AL := AL_t5 (List.mem_of_getElem? (i := 112) (by decide +kernel)) (by decide +kernel)
theorem q_1362 : Cond.lays RX9 "CrashTiesModel" "bodies" "I" ∈ AL := AL_t5 (List.mem_of_getElem? (i := 114) (by decide +kernel)) (by decide +kernel)
theorem q_1363 : Cond.lays RX9 "CrashTiesModel" "isParted" "Z" ∈ AL := AL_t5 (List.mem_of_getElem? (i := 116) (by decide +kernel)) (by decide +kernel)
theorem q_1364 : Cond.lays RX9 "CrashTiesModel" "isKept" "Z" ∈ AL := AL_t5 (List.mem_of_getElem? (i := 118) (by decide +kernel)) (by decide +kernel)
theorem q_1365 : Cond.laysFinal RX9 "CrashTiesModel" "kept" "[I" ∈ AL := AL_t5 (List.mem_of_getElem? (i := 120) (by decide +kernel)) (by decide +kernel)
theorem q_1366 : Cond.lays RX9 "CrashTiesModel" "movedTo" "I" ∈ AL := AL_t5 (List.mem_of_getElem? (i := 122) (by decide +kernel)) (by decide +kernel)
theorem q_1367 : Cond.laysFinal RX9 "CrashTiesModel" "single" "[I" ∈ AL := AL_t5 (List.mem_of_getElem? (i := 124) (by decide +kernel)) (by decide +kernel)
theorem q_1368 : Cond.laysStatic "CrashTies" "LAW_FIRST" "[I" ∈ lw_tbl := (fun (h : Cond.laysStatic "CrashTies" "LAW_FIRST" "[I" ∈ tables_1_1) => List.mem_append_right _ (List.mem_append_left _ h)) (List.mem_of_getElem? (i := 63) (by decide +kernel))
theorem q_1369 : Cond.stringRef "CrashTies$Reader" 104 "ask" ∈ lw_tbl := (fun (h : Cond.stringRef "CrashTies$Reader" 104 "ask" ∈ tables_1_2) => List.mem_append_right _ (List.mem_append_right _ (List.mem_append_left _ h))) (List.mem_of_getElem? (i := 67) (by decide +kernel))
theorem q_1370 : Cond.laysStatic "java/lang/String" "COMPACT_STRINGS" "Z" ∈ lw_tbl := (fun (h : Cond.laysStatic "java/lang/String" "COMPACT_STRINGS" "Z" ∈ tables_1_2) => List.mem_append_right _ (List.mem_append_right _ (List.mem_append_left _ h))) (List.mem_of_getElem? (i := 81) (by decide +kernel))
theorem q_1371 : Cond.laysStatic "jdk/internal/util/Preconditions" "SIOOBE_FORMATTER" "Ljava/util/function/BiFunction;" ∈ lw_tbl := (fun (h : Cond.laysStatic "jdk/internal/util/Preconditions" "SIOOBE_FORMATTER" "Ljava/util/function/BiFunction;" ∈ tables_1_2) => List.mem_append_right _ (List.mem_append_right _ (List.mem_append_left _ h))) (List.mem_of_getElem? (i := 97) (by decide +kernel))
theorem q_1372 : Cond.laysStatic "java/lang/StringUTF16" "$assertionsDisabled" "Z" ∈ lw_tbl := (fun (h : Cond.laysStatic "java/lang/StringUTF16" "$assertionsDisabled" "Z" ∈ tables_1_2) => List.mem_append_right _ (List.mem_append_right _ (List.mem_append_left _ h))) (List.mem_of_getElem? (i := 115) (by decide +kernel))
theorem q_1373 : Cond.laysStatic "java/lang/StringUTF16" "HI_BYTE_SHIFT" "I" ∈ lw_tbl := (fun (h : Cond.laysStatic "java/lang/StringUTF16" "HI_BYTE_SHIFT" "I" ∈ tables_1_2) => List.mem_append_right _ (List.mem_append_right _ (List.mem_append_left _ h))) (List.mem_of_getElem? (i := 117) (by decide +kernel))
theorem q_1374 : Cond.laysStatic "java/lang/StringUTF16" "LO_BYTE_SHIFT" "I" ∈ lw_tbl := (fun (h : Cond.laysStatic "java/lang/StringUTF16" "LO_BYTE_SHIFT" "I" ∈ tables_1_2) => List.mem_append_right _ (List.mem_append_right _ (List.mem_append_left _ h))) (List.mem_of_getElem? (i := 119) (by decide +kernel))
theorem q_1375 : Cond.stringRef "CrashTies$Reader" 110 "pay" ∈ lw_tbl := (fun (h : Cond.stringRef "CrashTies$Reader" 110 "pay" ∈ tables_1_2) => List.mem_append_right _ (List.mem_append_right _ (List.mem_append_left _ h))) (List.mem_of_getElem? (i := 120) (by decide +kernel))
theorem q_1376 : Cond.stringRef "CrashTies$Reader" 112 "if" ∈ lw_tbl := (fun (h : Cond.stringRef "CrashTies$Reader" 112 "if" ∈ tables_1_2) => List.mem_append_right _ (List.mem_append_right _ (List.mem_append_left _ h))) (List.mem_of_getElem? (i := 121) (by decide +kernel))
theorem q_1377 : Cond.stringRef "CrashTies$Reader" 114 "or" ∈ lw_tbl := (fun (h : Cond.stringRef "CrashTies$Reader" 114 "or" ∈ tables_1_2) => List.mem_append_right _ (List.mem_append_right _ (List.mem_append_left _ h))) (List.mem_of_getElem? (i := 122) (by decide +kernel))
theorem q_1378 : Cond.stringRef "CrashTies$Reader" 116 "and" ∈ lw_tbl := (fun (h : Cond.stringRef "CrashTies$Reader" 116 "and" ∈ tables_1_2) => List.mem_append_right _ (List.mem_append_right _ (List.mem_append_left _ h))) (List.mem_of_getElem? (i := 123) (by decide +kernel))
theorem q_1379 : Cond.stringRef "CrashTies$Reader" 118 "not" ∈ lw_tbl := (fun (h : Cond.stringRef "CrashTies$Reader" 118 "not" ∈ tables_1_2) => List.mem_append_right _ (List.mem_append_right _ (List.mem_append_left _ h))) (List.mem_of_getElem? (i := 124) (by decide +kernel))
theorem q_1380 : Cond.stringRef "CrashTies$Reader" 120 "coin" ∈ lw_tbl := (fun (h : Cond.stringRef "CrashTies$Reader" 120 "coin" ∈ tables_1_2) => List.mem_append_right _ (List.mem_append_right _ (List.mem_append_left _ h))) (List.mem_of_getElem? (i := 125) (by decide +kernel))
theorem q_1381 : Cond.stringRef "CrashTies$Reader" 122 "day" ∈ lw_tbl := (fun (h : Cond.stringRef "CrashTies$Reader" 122 "day" ∈ tables_1_2) => List.mem_append_right _ (List.mem_append_right _ (List.mem_append_left _ h))) (List.mem_of_getElem? (i := 126) (by decide +kernel))
theorem q_1382 : Cond.stringRef "CrashTies$Reader" 124 "people" ∈ lw_tbl := (fun (h : Cond.stringRef "CrashTies$Reader" 124 "people" ∈ tables_1_2) => List.mem_append_right _ (List.mem_append_right _ (List.mem_append_left _ h))) (List.mem_of_getElem? (i := 127) (by decide +kernel))
theorem q_1383 : Cond.stringRef "CrashTies$Reader" 126 "ties" ∈ lw_tbl := (fun (h : Cond.stringRef "CrashTies$Reader" 126 "ties" ∈ tables_1_2) => List.mem_append_right _ (List.mem_append_right _ (List.mem_append_left _ h))) (List.mem_of_getElem? (i := 128) (by decide +kernel))
theorem q_1384 : Cond.stringRef "CrashTies$Reader" 128 "words" ∈ lw_tbl := (fun (h : Cond.stringRef "CrashTies$Reader" 128 "words" ∈ tables_1_2) => List.mem_append_right _ (List.mem_append_right _ (List.mem_append_left _ h))) (List.mem_of_getElem? (i := 129) (by decide +kernel))
theorem q_1385 : Cond.stringRef "CrashTies$Reader" 130 "kind" ∈ lw_tbl := (fun (h : Cond.stringRef "CrashTies$Reader" 130 "kind" ∈ tables_1_2) => List.mem_append_right _ (List.mem_append_right _ (List.mem_append_left _ h))) (List.mem_of_getElem? (i := 130) (by decide +kernel))
theorem q_1386 : Cond.laysStatic "CrashTies" "LAW_MOST" "[I" ∈ lw_tbl := (fun (h : Cond.laysStatic "CrashTies" "LAW_MOST" "[I" ∈ tables_1_3) => List.mem_append_right _ (List.mem_append_right _ (List.mem_append_right _ (List.mem_append_left _ h)))) (List.mem_of_getElem? (i := 37) (by decide +kernel))
theorem q_1387 : Cond.laysStatic "CrashTies" "OVER" "[I" ∈ lw_tbl := (fun (h : Cond.laysStatic "CrashTies" "OVER" "[I" ∈ tables_1_4) => List.mem_append_right _ (List.mem_append_right _ (List.mem_append_right _ (List.mem_append_right _ (List.mem_append_left _ h))))) (List.mem_of_getElem? (i := 141) (by decide +kernel))
theorem q_1388 : Cond.laysStatic "CrashTies$Play" "BODIES" "[I" ∈ lw_tbl := (fun (h : Cond.laysStatic "CrashTies$Play" "BODIES" "[I" ∈ tables_1_4) => List.mem_append_right _ (List.mem_append_right _ (List.mem_append_right _ (List.mem_append_right _ (List.mem_append_left _ h))))) (List.mem_of_getElem? (i := 155) (by decide +kernel))
theorem inX0 : ∀ w ∈ wsX00, w ∈ AL := by
  intro w hw
  obtain ⟨k, hk, rfl⟩ := List.mem_map.mp hw
  have hk := List.mem_range.mp hk
  match k, hk with
  | 0, _ => exact q_1258
  | 1, _ => exact q_1259
  | 2, _ => exact q_1260
  | 3, _ => exact q_1261
  | 4, _ => exact q_1262
  | 5, _ => exact q_1263
  | 6, _ => exact q_1264
  | 7, _ => exact q_1265
  | 8, _ => exact q_1266
  | 9, _ => exact q_1267
  | 10, _ => exact q_1268
  | 11, _ => exact q_1269
  | 12, _ => exact q_1270
  | k + 13, h => exact absurd h (by omega)
theorem inX1 : ∀ w ∈ wsX10, w ∈ AL := by
  intro w hw
  obtain ⟨k, hk, rfl⟩ := List.mem_map.mp hw
  have hk := List.mem_range.mp hk
  match k, hk with
  | 0, _ => exact q_1271
  | 1, _ => exact q_1272
  | 2, _ => exact q_1273
  | 3, _ => exact q_1274
  | 4, _ => exact q_1275
  | k + 5, h => exact absurd h (by omega)
theorem inX3 : ∀ w ∈ wsX30, w ∈ AL := by
  intro w hw
  obtain ⟨k, hk, rfl⟩ := List.mem_map.mp hw
  have hk := List.mem_range.mp hk
  match k, hk with
  | 0, _ => exact q_1276
  | 1, _ => exact q_1277
  | 2, _ => exact q_1278
  | 3, _ => exact q_1279
  | 4, _ => exact q_1280
  | 5, _ => exact q_1281
  | k + 6, h => exact absurd h (by omega)
theorem inX4 : ∀ w ∈ wsX40, w ∈ AL := by
  intro w hw
  obtain ⟨k, hk, rfl⟩ := List.mem_map.mp hw
  have hk := List.mem_range.mp hk
  match k, hk with
  | 0, _ => exact q_1282
  | 1, _ => exact q_1283
  | 2, _ => exact q_1284
  | 3, _ => exact q_1285
  | 4, _ => exact q_1286
  | 5, _ => exact q_1287
  | 6, _ => exact q_1288
  | 7, _ => exact q_1289
  | k + 8, h => exact absurd h (by omega)
theorem inX5 : ∀ w ∈ wsX50, w ∈ AL := by
  intro w hw
  obtain ⟨k, hk, rfl⟩ := List.mem_map.mp hw
  have hk := List.mem_range.mp hk
  match k, hk with
  | 0, _ => exact q_1290
  | 1, _ => exact q_1291
  | k + 2, h => exact absurd h (by omega)
theorem inX6 : ∀ w ∈ wsX60, w ∈ AL := by
  intro w hw
  obtain ⟨k, hk, rfl⟩ := List.mem_map.mp hw
  have hk := List.mem_range.mp hk
  match k, hk with
  | 0, _ => exact q_1292
  | 1, _ => exact q_1293
  | 2, _ => exact q_1294
  | 3, _ => exact q_1295
  | 4, _ => exact q_1296
  | 5, _ => exact q_1297
  | k + 6, h => exact absurd h (by omega)
theorem inX7 : ∀ w ∈ wsX70, w ∈ AL := by
  intro w hw
  obtain ⟨k, hk, rfl⟩ := List.mem_map.mp hw
  have hk := List.mem_range.mp hk
  match k, hk with
  | 0, _ => exact q_1298
  | 1, _ => exact q_1299
  | 2, _ => exact q_1300
  | 3, _ => exact q_1301
  | k + 4, h => exact absurd h (by omega)
theorem inX8 : ∀ w ∈ wsX80, w ∈ AL := by
  intro w hw
  obtain ⟨k, hk, rfl⟩ := List.mem_map.mp hw
  have hk := List.mem_range.mp hk
  match k, hk with
  | 0, _ => exact q_1302
  | 1, _ => exact q_1303
  | 2, _ => exact q_1304
  | 3, _ => exact q_1305
  | 4, _ => exact q_1306
  | 5, _ => exact q_1307
  | 6, _ => exact q_1308
  | 7, _ => exact q_1309
  | 8, _ => exact q_1310
  | 9, _ => exact q_1311
  | k + 10, h => exact absurd h (by omega)
theorem inX9 : ∀ w ∈ wsX90, w ∈ AL := by
  intro w hw
  obtain ⟨k, hk, rfl⟩ := List.mem_map.mp hw
  have hk := List.mem_range.mp hk
  match k, hk with
  | 0, _ => exact q_1312
  | 1, _ => exact q_1313
  | 2, _ => exact q_1314
  | 3, _ => exact q_1315
  | 4, _ => exact q_1316
  | 5, _ => exact q_1317
  | 6, _ => exact q_1318
  | 7, _ => exact q_1319
  | 8, _ => exact q_1320
  | 9, _ => exact q_1321
  | 10, _ => exact q_1322
  | 11, _ => exact q_1323
  | 12, _ => exact q_1324
  | 13, _ => exact q_1325
  | 14, _ => exact q_1326
  | 15, _ => exact q_1327
  | 16, _ => exact q_1328
  | 17, _ => exact q_1329
  | 18, _ => exact q_1330
  | 19, _ => exact q_1331
  | 20, _ => exact q_1332
  | 21, _ => exact q_1333
  | 22, _ => exact q_1334
  | 23, _ => exact q_1335
  | 24, _ => exact q_1336
  | 25, _ => exact q_1337
  | 26, _ => exact q_1338
  | 27, _ => exact q_1339
  | 28, _ => exact q_1340
  | 29, _ => exact q_1341
  | 30, _ => exact q_1342
  | 31, _ => exact q_1343
  | 32, _ => exact q_1344
  | 33, _ => exact q_1345
  | 34, _ => exact q_1346
  | 35, _ => exact q_1347
  | 36, _ => exact q_1348
  | 37, _ => exact q_1349
  | 38, _ => exact q_1350
  | 39, _ => exact q_1351
  | 40, _ => exact q_1352
  | 41, _ => exact q_1353
  | 42, _ => exact q_1354
  | 43, _ => exact q_1355
  | 44, _ => exact q_1356
  | 45, _ => exact q_1357
  | 46, _ => exact q_1358
  | 47, _ => exact q_1359
  | 48, _ => exact q_1360
  | 49, _ => exact q_1361
  | 50, _ => exact q_1362
  | 51, _ => exact q_1363
  | 52, _ => exact q_1364
  | 53, _ => exact q_1365
  | 54, _ => exact q_1366
  | 55, _ => exact q_1367
  | k + 56, h => exact absurd h (by omega)
