section
/-- the whole library is read from here on -/
theorem zz_whole_lib : True := (fun (_ : String → Nat → String → Nat → ByteArray → List String → List Cond) => trivial) Bundle.ownAtomsX
end
section
-- ===== PART A: goes FIRST, ahead of the names: the tables' words, and 'selects' of the private methods out of them =====
/-- a private method of a class that the tables say can be made, by its rows of tables_1 -/
def lw_okq (q : MethodName × Nat) : Prop := (q.1.cls ≠ "java/lang/invoke/MethodHandle" ∧ q.1.cls ≠ "java/lang/invoke/VarHandle") ∧ Cond.instantiable q.1.cls q.2 ∈ tables_1 ∧ Cond.privateMethod q.1 ∈ tables_1 ∧ Cond.instanceMethod q.1 ∈ tables_1
theorem lw_p0 : lw_okq (⟨"HutLedger$Grammar", "begin", "()V"⟩, 4) := ⟨⟨by decide +kernel, by decide +kernel⟩, List.mem_of_getElem? (i := 217) (by decide +kernel), List.mem_of_getElem? (i := 358) (by decide +kernel), List.mem_of_getElem? (i := 359) (by decide +kernel)⟩
theorem lw_p1 : lw_okq (⟨"HutLedger$Grammar", "readLogs", "(LHutLedger$Hut;)Z"⟩, 4) := ⟨⟨by decide +kernel, by decide +kernel⟩, List.mem_of_getElem? (i := 217) (by decide +kernel), List.mem_of_getElem? (i := 373) (by decide +kernel), List.mem_of_getElem? (i := 374) (by decide +kernel)⟩
theorem lw_p2 : lw_okq (⟨"HutLedger$Grammar", "readWord", "(Ljava/lang/String;)Z"⟩, 4) := ⟨⟨by decide +kernel, by decide +kernel⟩, List.mem_of_getElem? (i := 217) (by decide +kernel), List.mem_of_getElem? (i := 378) (by decide +kernel), List.mem_of_getElem? (i := 379) (by decide +kernel)⟩
theorem lw_p3 : lw_okq (⟨"HutLedger$Grammar", "fail", "(I)Z"⟩, 4) := ⟨⟨by decide +kernel, by decide +kernel⟩, List.mem_of_getElem? (i := 217) (by decide +kernel), List.mem_of_getElem? (i := 386) (by decide +kernel), List.mem_of_getElem? (i := 387) (by decide +kernel)⟩
theorem lw_p4 : lw_okq (⟨"HutLedger$Grammar", "isNumber", "(II)Z"⟩, 4) := ⟨⟨by decide +kernel, by decide +kernel⟩, List.mem_of_getElem? (i := 217) (by decide +kernel), List.mem_of_getElem? (i := 391) (by decide +kernel), List.mem_of_getElem? (i := 392) (by decide +kernel)⟩
theorem lw_p5 : lw_okq (⟨"HutLedger$Grammar", "readSemicolon", "()Z"⟩, 4) := ⟨⟨by decide +kernel, by decide +kernel⟩, List.mem_of_getElem? (i := 217) (by decide +kernel), List.mem_of_getElem? (i := 405) (by decide +kernel), List.mem_of_getElem? (i := 406) (by decide +kernel)⟩
theorem lw_p6 : lw_okq (⟨"HutLedger$Grammar", "readBunks", "(LHutLedger$Hut;)Z"⟩, 4) := ⟨⟨by decide +kernel, by decide +kernel⟩, List.mem_of_getElem? (i := 217) (by decide +kernel), List.mem_of_getElem? (i := 409) (by decide +kernel), List.mem_of_getElem? (i := 410) (by decide +kernel)⟩
theorem lw_p7 : lw_okq (⟨"HutLedger$Grammar", "readRow", "([III)Z"⟩, 4) := ⟨⟨by decide +kernel, by decide +kernel⟩, List.mem_of_getElem? (i := 217) (by decide +kernel), List.mem_of_getElem? (i := 414) (by decide +kernel), List.mem_of_getElem? (i := 415) (by decide +kernel)⟩
theorem lw_p8 : lw_okq (⟨"HutLedger$Grammar", "readBlankets", "(LHutLedger$Hut;)Z"⟩, 4) := ⟨⟨by decide +kernel, by decide +kernel⟩, List.mem_of_getElem? (i := 217) (by decide +kernel), List.mem_of_getElem? (i := 418) (by decide +kernel), List.mem_of_getElem? (i := 419) (by decide +kernel)⟩
theorem lw_p9 : lw_okq (⟨"HutLedger$Grammar", "readForecast", "(LHutLedger$Hut;)Z"⟩, 4) := ⟨⟨by decide +kernel, by decide +kernel⟩, List.mem_of_getElem? (i := 217) (by decide +kernel), List.mem_of_getElem? (i := 423) (by decide +kernel), List.mem_of_getElem? (i := 424) (by decide +kernel)⟩
theorem lw_p10 : lw_okq (⟨"HutLedger$Grammar", "readHikers", "(LHutLedger$Hut;)Z"⟩, 4) := ⟨⟨by decide +kernel, by decide +kernel⟩, List.mem_of_getElem? (i := 217) (by decide +kernel), List.mem_of_getElem? (i := 428) (by decide +kernel), List.mem_of_getElem? (i := 429) (by decide +kernel)⟩
theorem lw_p11 : lw_okq (⟨"HutLedger$Grammar", "readHiker", "(LHutLedger$Hiker;)Z"⟩, 4) := ⟨⟨by decide +kernel, by decide +kernel⟩, List.mem_of_getElem? (i := 217) (by decide +kernel), List.mem_of_getElem? (i := 433) (by decide +kernel), List.mem_of_getElem? (i := 434) (by decide +kernel)⟩
theorem lw_p12 : lw_okq (⟨"HutLedger$Hut", "warmthOfBunk", "(I)I"⟩, 19) := ⟨⟨by decide +kernel, by decide +kernel⟩, List.mem_of_getElem? (i := 49) (by decide +kernel), List.mem_of_getElem? (i := 457) (by decide +kernel), List.mem_of_getElem? (i := 458) (by decide +kernel)⟩
theorem lw_p13 : lw_okq (⟨"HutLedgerLaw", "holds", "([I)Z"⟩, 17) := ⟨⟨by decide +kernel, by decide +kernel⟩, List.mem_of_getElem? (i := 35) (by decide +kernel), List.mem_of_getElem? (i := 576) (by decide +kernel), List.mem_of_getElem? (i := 577) (by decide +kernel)⟩
theorem lw_p14 : lw_okq (⟨"HutLedgerLaw", "loads", "()Z"⟩, 17) := ⟨⟨by decide +kernel, by decide +kernel⟩, List.mem_of_getElem? (i := 35) (by decide +kernel), List.mem_of_getElem? (i := 580) (by decide +kernel), List.mem_of_getElem? (i := 581) (by decide +kernel)⟩
theorem lw_p15 : lw_okq (⟨"HutLedgerLaw", "draw", "(I)I"⟩, 17) := ⟨⟨by decide +kernel, by decide +kernel⟩, List.mem_of_getElem? (i := 35) (by decide +kernel), List.mem_of_getElem? (i := 588) (by decide +kernel), List.mem_of_getElem? (i := 589) (by decide +kernel)⟩
def lw_privs_1 : List (MethodName × Nat) := [(⟨"HutLedger$Grammar", "begin", "()V"⟩, 4), (⟨"HutLedger$Grammar", "readLogs", "(LHutLedger$Hut;)Z"⟩, 4), (⟨"HutLedger$Grammar", "readWord", "(Ljava/lang/String;)Z"⟩, 4), (⟨"HutLedger$Grammar", "fail", "(I)Z"⟩, 4), (⟨"HutLedger$Grammar", "isNumber", "(II)Z"⟩, 4), (⟨"HutLedger$Grammar", "readSemicolon", "()Z"⟩, 4), (⟨"HutLedger$Grammar", "readBunks", "(LHutLedger$Hut;)Z"⟩, 4), (⟨"HutLedger$Grammar", "readRow", "([III)Z"⟩, 4), (⟨"HutLedger$Grammar", "readBlankets", "(LHutLedger$Hut;)Z"⟩, 4), (⟨"HutLedger$Grammar", "readForecast", "(LHutLedger$Hut;)Z"⟩, 4), (⟨"HutLedger$Grammar", "readHikers", "(LHutLedger$Hut;)Z"⟩, 4), (⟨"HutLedger$Grammar", "readHiker", "(LHutLedger$Hiker;)Z"⟩, 4), (⟨"HutLedger$Hut", "warmthOfBunk", "(I)I"⟩, 19), (⟨"HutLedgerLaw", "holds", "([I)Z"⟩, 17), (⟨"HutLedgerLaw", "loads", "()Z"⟩, 17), (⟨"HutLedgerLaw", "draw", "(I)I"⟩, 17)]
theorem lw_r1 : ∀ q ∈ lw_privs_1, lw_okq q := List.forall_mem_cons.mpr ⟨lw_p0, List.forall_mem_cons.mpr ⟨lw_p1, List.forall_mem_cons.mpr ⟨lw_p2, List.forall_mem_cons.mpr ⟨lw_p3, List.forall_mem_cons.mpr ⟨lw_p4, List.forall_mem_cons.mpr ⟨lw_p5, List.forall_mem_cons.mpr ⟨lw_p6, List.forall_mem_cons.mpr ⟨lw_p7, List.forall_mem_cons.mpr ⟨lw_p8, List.forall_mem_cons.mpr ⟨lw_p9, List.forall_mem_cons.mpr ⟨lw_p10, List.forall_mem_cons.mpr ⟨lw_p11, List.forall_mem_cons.mpr ⟨lw_p12, List.forall_mem_cons.mpr ⟨lw_p13, List.forall_mem_cons.mpr ⟨lw_p14, List.forall_mem_cons.mpr ⟨lw_p15, fun _ h => absurd h List.not_mem_nil⟩⟩⟩⟩⟩⟩⟩⟩⟩⟩⟩⟩⟩⟩⟩⟩
theorem lw_p16 : lw_okq (⟨"java/util/ArrayList", "add", "(Ljava/lang/Object;[Ljava/lang/Object;I)V"⟩, 3) := ⟨⟨by decide +kernel, by decide +kernel⟩, List.mem_of_getElem? (i := 498) (by decide +kernel), List.mem_of_getElem? (i := 821) (by decide +kernel), List.mem_of_getElem? (i := 822) (by decide +kernel)⟩
theorem lw_p17 : lw_okq (⟨"java/util/ArrayList", "grow", "()[Ljava/lang/Object;"⟩, 3) := ⟨⟨by decide +kernel, by decide +kernel⟩, List.mem_of_getElem? (i := 498) (by decide +kernel), List.mem_of_getElem? (i := 825) (by decide +kernel), List.mem_of_getElem? (i := 826) (by decide +kernel)⟩
theorem lw_p18 : lw_okq (⟨"java/util/ArrayList", "grow", "(I)[Ljava/lang/Object;"⟩, 3) := ⟨⟨by decide +kernel, by decide +kernel⟩, List.mem_of_getElem? (i := 498) (by decide +kernel), List.mem_of_getElem? (i := 829) (by decide +kernel), List.mem_of_getElem? (i := 830) (by decide +kernel)⟩
theorem lw_p19 : lw_okq (⟨"java/lang/Throwable", "fillInStackTrace", "(I)Ljava/lang/Throwable;"⟩, 6) := ⟨⟨by decide +kernel, by decide +kernel⟩, List.mem_of_getElem? (i := 943) (by decide +kernel), List.mem_of_getElem? (i := 941) (by decide +kernel), List.mem_of_getElem? (i := 942) (by decide +kernel)⟩
theorem lw_p20 : lw_okq (⟨"HutLedgerLaw", "lays", "(Ljava/lang/String;)Z"⟩, 17) := ⟨⟨by decide +kernel, by decide +kernel⟩, List.mem_of_getElem? (i := 35) (by decide +kernel), List.mem_of_getElem? (i := 1003) (by decide +kernel), List.mem_of_getElem? (i := 1004) (by decide +kernel)⟩
theorem lw_p21 : lw_okq (⟨"HutLedgerLaw", "same", "()Z"⟩, 17) := ⟨⟨by decide +kernel, by decide +kernel⟩, List.mem_of_getElem? (i := 35) (by decide +kernel), List.mem_of_getElem? (i := 1078) (by decide +kernel), List.mem_of_getElem? (i := 1079) (by decide +kernel)⟩
theorem lw_p22 : lw_okq (⟨"HutLedger", "demandHiker", "(I)V"⟩, 9) := ⟨⟨by decide +kernel, by decide +kernel⟩, List.mem_of_getElem? (i := 43) (by decide +kernel), List.mem_of_getElem? (i := 1102) (by decide +kernel), List.mem_of_getElem? (i := 1103) (by decide +kernel)⟩
theorem lw_p23 : lw_okq (⟨"HutLedgerLaw", "warm", "(LHutLedgerLaw$Hiker;)I"⟩, 17) := ⟨⟨by decide +kernel, by decide +kernel⟩, List.mem_of_getElem? (i := 35) (by decide +kernel), List.mem_of_getElem? (i := 1148) (by decide +kernel), List.mem_of_getElem? (i := 1149) (by decide +kernel)⟩
theorem lw_p24 : lw_okq (⟨"HutLedgerLaw", "in", "(I)LHutLedgerLaw$Hiker;"⟩, 17) := ⟨⟨by decide +kernel, by decide +kernel⟩, List.mem_of_getElem? (i := 35) (by decide +kernel), List.mem_of_getElem? (i := 1152) (by decide +kernel), List.mem_of_getElem? (i := 1153) (by decide +kernel)⟩
theorem lw_p25 : lw_okq (⟨"HutLedgerLaw", "does", "(LHutLedgerLaw$Hiker;)I"⟩, 17) := ⟨⟨by decide +kernel, by decide +kernel⟩, List.mem_of_getElem? (i := 35) (by decide +kernel), List.mem_of_getElem? (i := 1171) (by decide +kernel), List.mem_of_getElem? (i := 1172) (by decide +kernel)⟩
theorem lw_p26 : lw_okq (⟨"HutLedgerLaw", "isCold", "(LHutLedgerLaw$Hiker;)Z"⟩, 17) := ⟨⟨by decide +kernel, by decide +kernel⟩, List.mem_of_getElem? (i := 35) (by decide +kernel), List.mem_of_getElem? (i := 1175) (by decide +kernel), List.mem_of_getElem? (i := 1176) (by decide +kernel)⟩
theorem lw_p27 : lw_okq (⟨"HutLedgerLaw", "noise", "(I)I"⟩, 17) := ⟨⟨by decide +kernel, by decide +kernel⟩, List.mem_of_getElem? (i := 35) (by decide +kernel), List.mem_of_getElem? (i := 1179) (by decide +kernel), List.mem_of_getElem? (i := 1180) (by decide +kernel)⟩
theorem lw_p28 : lw_okq (⟨"HutLedgerLaw", "loud", "(I)I"⟩, 17) := ⟨⟨by decide +kernel, by decide +kernel⟩, List.mem_of_getElem? (i := 35) (by decide +kernel), List.mem_of_getElem? (i := 1183) (by decide +kernel), List.mem_of_getElem? (i := 1184) (by decide +kernel)⟩
theorem lw_p29 : lw_okq (⟨"HutLedger", "demandBunk", "(I)V"⟩, 9) := ⟨⟨by decide +kernel, by decide +kernel⟩, List.mem_of_getElem? (i := 43) (by decide +kernel), List.mem_of_getElem? (i := 1208) (by decide +kernel), List.mem_of_getElem? (i := 1209) (by decide +kernel)⟩
theorem lw_p30 : lw_okq (⟨"HutLedgerLaw", "under", "(I)LHutLedgerLaw$Hiker;"⟩, 17) := ⟨⟨by decide +kernel, by decide +kernel⟩, List.mem_of_getElem? (i := 35) (by decide +kernel), List.mem_of_getElem? (i := 1239) (by decide +kernel), List.mem_of_getElem? (i := 1240) (by decide +kernel)⟩
theorem lw_p31 : lw_okq (⟨"HutLedger$Hut", "rankOfHiker", "(I)I"⟩, 19) := ⟨⟨by decide +kernel, by decide +kernel⟩, List.mem_of_getElem? (i := 49) (by decide +kernel), List.mem_of_getElem? (i := 1255) (by decide +kernel), List.mem_of_getElem? (i := 1256) (by decide +kernel)⟩
def lw_privs_2 : List (MethodName × Nat) := [(⟨"java/util/ArrayList", "add", "(Ljava/lang/Object;[Ljava/lang/Object;I)V"⟩, 3), (⟨"java/util/ArrayList", "grow", "()[Ljava/lang/Object;"⟩, 3), (⟨"java/util/ArrayList", "grow", "(I)[Ljava/lang/Object;"⟩, 3), (⟨"java/lang/Throwable", "fillInStackTrace", "(I)Ljava/lang/Throwable;"⟩, 6), (⟨"HutLedgerLaw", "lays", "(Ljava/lang/String;)Z"⟩, 17), (⟨"HutLedgerLaw", "same", "()Z"⟩, 17), (⟨"HutLedger", "demandHiker", "(I)V"⟩, 9), (⟨"HutLedgerLaw", "warm", "(LHutLedgerLaw$Hiker;)I"⟩, 17), (⟨"HutLedgerLaw", "in", "(I)LHutLedgerLaw$Hiker;"⟩, 17), (⟨"HutLedgerLaw", "does", "(LHutLedgerLaw$Hiker;)I"⟩, 17), (⟨"HutLedgerLaw", "isCold", "(LHutLedgerLaw$Hiker;)Z"⟩, 17), (⟨"HutLedgerLaw", "noise", "(I)I"⟩, 17), (⟨"HutLedgerLaw", "loud", "(I)I"⟩, 17), (⟨"HutLedger", "demandBunk", "(I)V"⟩, 9), (⟨"HutLedgerLaw", "under", "(I)LHutLedgerLaw$Hiker;"⟩, 17), (⟨"HutLedger$Hut", "rankOfHiker", "(I)I"⟩, 19)]
theorem lw_r2 : ∀ q ∈ lw_privs_2, lw_okq q := List.forall_mem_cons.mpr ⟨lw_p16, List.forall_mem_cons.mpr ⟨lw_p17, List.forall_mem_cons.mpr ⟨lw_p18, List.forall_mem_cons.mpr ⟨lw_p19, List.forall_mem_cons.mpr ⟨lw_p20, List.forall_mem_cons.mpr ⟨lw_p21, List.forall_mem_cons.mpr ⟨lw_p22, List.forall_mem_cons.mpr ⟨lw_p23, List.forall_mem_cons.mpr ⟨lw_p24, List.forall_mem_cons.mpr ⟨lw_p25, List.forall_mem_cons.mpr ⟨lw_p26, List.forall_mem_cons.mpr ⟨lw_p27, List.forall_mem_cons.mpr ⟨lw_p28, List.forall_mem_cons.mpr ⟨lw_p29, List.forall_mem_cons.mpr ⟨lw_p30, List.forall_mem_cons.mpr ⟨lw_p31, fun _ h => absurd h List.not_mem_nil⟩⟩⟩⟩⟩⟩⟩⟩⟩⟩⟩⟩⟩⟩⟩⟩
theorem lw_p32 : lw_okq (⟨"HutLedgerLaw", "act", "()Z"⟩, 17) := ⟨⟨by decide +kernel, by decide +kernel⟩, List.mem_of_getElem? (i := 35) (by decide +kernel), List.mem_of_getElem? (i := 1357) (by decide +kernel), List.mem_of_getElem? (i := 1358) (by decide +kernel)⟩
theorem lw_p33 : lw_okq (⟨"HutLedger", "act", "(III)I"⟩, 9) := ⟨⟨by decide +kernel, by decide +kernel⟩, List.mem_of_getElem? (i := 43) (by decide +kernel), List.mem_of_getElem? (i := 1368) (by decide +kernel), List.mem_of_getElem? (i := 1369) (by decide +kernel)⟩
theorem lw_p34 : lw_okq (⟨"HutLedger$Hut", "faultOfTake", "(II)I"⟩, 19) := ⟨⟨by decide +kernel, by decide +kernel⟩, List.mem_of_getElem? (i := 49) (by decide +kernel), List.mem_of_getElem? (i := 1376) (by decide +kernel), List.mem_of_getElem? (i := 1377) (by decide +kernel)⟩
theorem lw_p35 : lw_okq (⟨"HutLedger$Hut", "faultOfReturn", "(I)I"⟩, 19) := ⟨⟨by decide +kernel, by decide +kernel⟩, List.mem_of_getElem? (i := 49) (by decide +kernel), List.mem_of_getElem? (i := 1382) (by decide +kernel), List.mem_of_getElem? (i := 1383) (by decide +kernel)⟩
theorem lw_p36 : lw_okq (⟨"HutLedger$Hut", "faultOfSwap", "(II)I"⟩, 19) := ⟨⟨by decide +kernel, by decide +kernel⟩, List.mem_of_getElem? (i := 49) (by decide +kernel), List.mem_of_getElem? (i := 1386) (by decide +kernel), List.mem_of_getElem? (i := 1387) (by decide +kernel)⟩
theorem lw_p37 : lw_okq (⟨"HutLedger$Hut", "faultOfLie", "(II)I"⟩, 19) := ⟨⟨by decide +kernel, by decide +kernel⟩, List.mem_of_getElem? (i := 49) (by decide +kernel), List.mem_of_getElem? (i := 1390) (by decide +kernel), List.mem_of_getElem? (i := 1391) (by decide +kernel)⟩
theorem lw_p38 : lw_okq (⟨"HutLedger$Hut", "faultOfRise", "(I)I"⟩, 19) := ⟨⟨by decide +kernel, by decide +kernel⟩, List.mem_of_getElem? (i := 49) (by decide +kernel), List.mem_of_getElem? (i := 1395) (by decide +kernel), List.mem_of_getElem? (i := 1396) (by decide +kernel)⟩
theorem lw_p39 : lw_okq (⟨"HutLedger$Hut", "faultOfFetch", "(I)I"⟩, 19) := ⟨⟨by decide +kernel, by decide +kernel⟩, List.mem_of_getElem? (i := 49) (by decide +kernel), List.mem_of_getElem? (i := 1400) (by decide +kernel), List.mem_of_getElem? (i := 1401) (by decide +kernel)⟩
theorem lw_p40 : lw_okq (⟨"HutLedger$Hut", "faultOfPay", "(II)I"⟩, 19) := ⟨⟨by decide +kernel, by decide +kernel⟩, List.mem_of_getElem? (i := 49) (by decide +kernel), List.mem_of_getElem? (i := 1404) (by decide +kernel), List.mem_of_getElem? (i := 1405) (by decide +kernel)⟩
theorem lw_p41 : lw_okq (⟨"HutLedger$Hut", "faultOfPass", "(I)I"⟩, 19) := ⟨⟨by decide +kernel, by decide +kernel⟩, List.mem_of_getElem? (i := 49) (by decide +kernel), List.mem_of_getElem? (i := 1408) (by decide +kernel), List.mem_of_getElem? (i := 1409) (by decide +kernel)⟩
theorem lw_p42 : lw_okq (⟨"HutLedger$Hut", "giveBlanket", "(II)I"⟩, 19) := ⟨⟨by decide +kernel, by decide +kernel⟩, List.mem_of_getElem? (i := 49) (by decide +kernel), List.mem_of_getElem? (i := 1427) (by decide +kernel), List.mem_of_getElem? (i := 1428) (by decide +kernel)⟩
theorem lw_p43 : lw_okq (⟨"HutLedger$Hut", "exchangeBlankets", "(II)V"⟩, 19) := ⟨⟨by decide +kernel, by decide +kernel⟩, List.mem_of_getElem? (i := 49) (by decide +kernel), List.mem_of_getElem? (i := 1431) (by decide +kernel), List.mem_of_getElem? (i := 1432) (by decide +kernel)⟩
theorem lw_p44 : lw_okq (⟨"HutLedger$Hut", "changeRate", "(I)I"⟩, 19) := ⟨⟨by decide +kernel, by decide +kernel⟩, List.mem_of_getElem? (i := 49) (by decide +kernel), List.mem_of_getElem? (i := 1440) (by decide +kernel), List.mem_of_getElem? (i := 1441) (by decide +kernel)⟩
theorem lw_p45 : lw_okq (⟨"HutLedger$Hut", "addLogs", "(I)I"⟩, 19) := ⟨⟨by decide +kernel, by decide +kernel⟩, List.mem_of_getElem? (i := 49) (by decide +kernel), List.mem_of_getElem? (i := 1444) (by decide +kernel), List.mem_of_getElem? (i := 1445) (by decide +kernel)⟩
theorem lw_p46 : lw_okq (⟨"HutLedger$Hut", "payBack", "(II)I"⟩, 19) := ⟨⟨by decide +kernel, by decide +kernel⟩, List.mem_of_getElem? (i := 49) (by decide +kernel), List.mem_of_getElem? (i := 1448) (by decide +kernel), List.mem_of_getElem? (i := 1449) (by decide +kernel)⟩
theorem lw_p47 : lw_okq (⟨"HutLedger$Hut", "burnLogs", "()V"⟩, 19) := ⟨⟨by decide +kernel, by decide +kernel⟩, List.mem_of_getElem? (i := 49) (by decide +kernel), List.mem_of_getElem? (i := 1456) (by decide +kernel), List.mem_of_getElem? (i := 1457) (by decide +kernel)⟩
def lw_privs_3 : List (MethodName × Nat) := [(⟨"HutLedgerLaw", "act", "()Z"⟩, 17), (⟨"HutLedger", "act", "(III)I"⟩, 9), (⟨"HutLedger$Hut", "faultOfTake", "(II)I"⟩, 19), (⟨"HutLedger$Hut", "faultOfReturn", "(I)I"⟩, 19), (⟨"HutLedger$Hut", "faultOfSwap", "(II)I"⟩, 19), (⟨"HutLedger$Hut", "faultOfLie", "(II)I"⟩, 19), (⟨"HutLedger$Hut", "faultOfRise", "(I)I"⟩, 19), (⟨"HutLedger$Hut", "faultOfFetch", "(I)I"⟩, 19), (⟨"HutLedger$Hut", "faultOfPay", "(II)I"⟩, 19), (⟨"HutLedger$Hut", "faultOfPass", "(I)I"⟩, 19), (⟨"HutLedger$Hut", "giveBlanket", "(II)I"⟩, 19), (⟨"HutLedger$Hut", "exchangeBlankets", "(II)V"⟩, 19), (⟨"HutLedger$Hut", "changeRate", "(I)I"⟩, 19), (⟨"HutLedger$Hut", "addLogs", "(I)I"⟩, 19), (⟨"HutLedger$Hut", "payBack", "(II)I"⟩, 19), (⟨"HutLedger$Hut", "burnLogs", "()V"⟩, 19)]
theorem lw_r3 : ∀ q ∈ lw_privs_3, lw_okq q := List.forall_mem_cons.mpr ⟨lw_p32, List.forall_mem_cons.mpr ⟨lw_p33, List.forall_mem_cons.mpr ⟨lw_p34, List.forall_mem_cons.mpr ⟨lw_p35, List.forall_mem_cons.mpr ⟨lw_p36, List.forall_mem_cons.mpr ⟨lw_p37, List.forall_mem_cons.mpr ⟨lw_p38, List.forall_mem_cons.mpr ⟨lw_p39, List.forall_mem_cons.mpr ⟨lw_p40, List.forall_mem_cons.mpr ⟨lw_p41, List.forall_mem_cons.mpr ⟨lw_p42, List.forall_mem_cons.mpr ⟨lw_p43, List.forall_mem_cons.mpr ⟨lw_p44, List.forall_mem_cons.mpr ⟨lw_p45, List.forall_mem_cons.mpr ⟨lw_p46, List.forall_mem_cons.mpr ⟨lw_p47, fun _ h => absurd h List.not_mem_nil⟩⟩⟩⟩⟩⟩⟩⟩⟩⟩⟩⟩⟩⟩⟩⟩
theorem lw_p48 : lw_okq (⟨"HutLedger$Hut", "noteWhatHappens", "()V"⟩, 19) := ⟨⟨by decide +kernel, by decide +kernel⟩, List.mem_of_getElem? (i := 49) (by decide +kernel), List.mem_of_getElem? (i := 1460) (by decide +kernel), List.mem_of_getElem? (i := 1461) (by decide +kernel)⟩
theorem lw_p49 : lw_okq (⟨"HutLedger$Hut", "endHour", "()V"⟩, 19) := ⟨⟨by decide +kernel, by decide +kernel⟩, List.mem_of_getElem? (i := 49) (by decide +kernel), List.mem_of_getElem? (i := 1464) (by decide +kernel), List.mem_of_getElem? (i := 1465) (by decide +kernel)⟩
theorem lw_p50 : lw_okq (⟨"HutLedger$Hut", "payForNight", "()V"⟩, 19) := ⟨⟨by decide +kernel, by decide +kernel⟩, List.mem_of_getElem? (i := 49) (by decide +kernel), List.mem_of_getElem? (i := 1468) (by decide +kernel), List.mem_of_getElem? (i := 1469) (by decide +kernel)⟩
theorem lw_p51 : lw_okq (⟨"HutLedger$Hut", "payForLogs", "()V"⟩, 19) := ⟨⟨by decide +kernel, by decide +kernel⟩, List.mem_of_getElem? (i := 49) (by decide +kernel), List.mem_of_getElem? (i := 1476) (by decide +kernel), List.mem_of_getElem? (i := 1477) (by decide +kernel)⟩
theorem lw_p52 : lw_okq (⟨"HutLedger$Hut", "payForBlankets", "()V"⟩, 19) := ⟨⟨by decide +kernel, by decide +kernel⟩, List.mem_of_getElem? (i := 49) (by decide +kernel), List.mem_of_getElem? (i := 1484) (by decide +kernel), List.mem_of_getElem? (i := 1485) (by decide +kernel)⟩
theorem lw_p53 : lw_okq (⟨"HutLedgerLaw", "passes", "()V"⟩, 17) := ⟨⟨by decide +kernel, by decide +kernel⟩, List.mem_of_getElem? (i := 35) (by decide +kernel), List.mem_of_getElem? (i := 1549) (by decide +kernel), List.mem_of_getElem? (i := 1550) (by decide +kernel)⟩
theorem lw_p54 : lw_okq (⟨"HutLedgerLaw", "dawns", "()V"⟩, 17) := ⟨⟨by decide +kernel, by decide +kernel⟩, List.mem_of_getElem? (i := 35) (by decide +kernel), List.mem_of_getElem? (i := 1553) (by decide +kernel), List.mem_of_getElem? (i := 1554) (by decide +kernel)⟩
theorem lw_p55 : lw_okq (⟨"HutLedgerLaw", "pays", "(LHutLedgerLaw$Hiker;I)I"⟩, 17) := ⟨⟨by decide +kernel, by decide +kernel⟩, List.mem_of_getElem? (i := 35) (by decide +kernel), List.mem_of_getElem? (i := 1557) (by decide +kernel), List.mem_of_getElem? (i := 1558) (by decide +kernel)⟩
def lw_privs_4 : List (MethodName × Nat) := [(⟨"HutLedger$Hut", "noteWhatHappens", "()V"⟩, 19), (⟨"HutLedger$Hut", "endHour", "()V"⟩, 19), (⟨"HutLedger$Hut", "payForNight", "()V"⟩, 19), (⟨"HutLedger$Hut", "payForLogs", "()V"⟩, 19), (⟨"HutLedger$Hut", "payForBlankets", "()V"⟩, 19), (⟨"HutLedgerLaw", "passes", "()V"⟩, 17), (⟨"HutLedgerLaw", "dawns", "()V"⟩, 17), (⟨"HutLedgerLaw", "pays", "(LHutLedgerLaw$Hiker;I)I"⟩, 17)]
theorem lw_r4 : ∀ q ∈ lw_privs_4, lw_okq q := List.forall_mem_cons.mpr ⟨lw_p48, List.forall_mem_cons.mpr ⟨lw_p49, List.forall_mem_cons.mpr ⟨lw_p50, List.forall_mem_cons.mpr ⟨lw_p51, List.forall_mem_cons.mpr ⟨lw_p52, List.forall_mem_cons.mpr ⟨lw_p53, List.forall_mem_cons.mpr ⟨lw_p54, List.forall_mem_cons.mpr ⟨lw_p55, fun _ h => absurd h List.not_mem_nil⟩⟩⟩⟩⟩⟩⟩⟩
def lw_privs : List (MethodName × Nat) := lw_privs_1 ++ (lw_privs_2 ++ (lw_privs_3 ++ (lw_privs_4)))
def lw_tbl : List Cond := k2_sels lw_privs ++ tables_1
theorem lw_privs_ok : ∀ q ∈ lw_privs, lw_okq q := by
  show ∀ q ∈ lw_privs_1 ++ (lw_privs_2 ++ (lw_privs_3 ++ (lw_privs_4))), lw_okq q
  exact List.forall_mem_append.mpr ⟨lw_r1, List.forall_mem_append.mpr ⟨lw_r2, List.forall_mem_append.mpr ⟨lw_r3, lw_r4⟩⟩⟩
/-- the streams that the claim lets the run draw from -/
abbrev lw_cs : List Choice := [Jvm.Choice.named "NaN.bits"]
theorem lw_bits : nanBits ∈ lw_cs := by first | decide | exact List.mem_cons_self | simp [lw_cs, nanBits]
-- ===== end of PART A; then your names; then what follows =====
end
section
/-! ===== BEGIN words of one list among another's, by their places ===== -/
theorem goodIn_r {big : List Cond} (ws : List Cond) (ps : List Nat) (hp : ws = ps.filterMap (fun i => big[i]?)) (h : ws.all goodWord = true) : GoodIn big ws := by
  intro w hw
  have h1 := List.all_eq_true.mp h w hw
  rw [hp] at hw
  obtain ⟨i, -, hi⟩ := List.mem_filterMap.mp hw
  have hm : w ∈ big := by first | exact List.mem_of_getElem? hi | exact List.getElem?_mem hi
  exact ⟨hm, good_of_word h1⟩
theorem goodIn_app {big a b : List Cond} (ha : GoodIn big a) (hb : GoodIn big b) : GoodIn big (a ++ b) := fun w h => (List.mem_append.mp h).elim (ha w) (hb w)
theorem goodIn_ca {big a b : List Cond} {c : Cond} (ha : GoodIn big (c :: a)) (hb : GoodIn big b) : GoodIn big (c :: (a ++ b)) := fun w h => (List.mem_cons.mp h).elim (fun e => ha w (List.mem_cons.mpr (Or.inl e))) (fun h => (List.mem_append.mp h).elim (fun h => ha w (List.mem_cons.mpr (Or.inr h))) (hb w))
theorem goodIn_sub {big ws : List Cond} (hm : ∀ w ∈ ws, w ∈ big) (h : ws.all goodWord = true) : GoodIn big ws := fun w hw => ⟨hm w hw, good_of_word (List.all_eq_true.mp h w hw)⟩
/-! ===== END ===== -/

/-! ===== BEGIN exceptions that leave a method, and their catching by the caller (launches without stack traces) ===== -/
section VXA
/-! The laws vx_back, vx_callV, vx_callS, vx_callSW, vx_throw0, vx_throwS follow proofs of the library, with one case more: JvmDerived/Free/Laws.lean (Back.of_free), Shelf42/LK1.lean (callV, callS), Shelf/KitTraced.lean (throwNew0V, throwNewS). -/
/-- where a method has thrown q: the class by its name, the cell, what was written, the world -/
def vx_T (XC : String → State → State → Prop) (st : State) (q : Addr) (t : State) (mc ms : Nat) (free : Addr → Prop) : Prop :=
  ∃ (E : String) (ce : Cell) (L : List Loc), XC E st t ∧ t.heap[q]? = some ce ∧ ce.vm = .none ∧ st.vm.findClass E = some ce.cls ∧ st.WarmedH t.vm ∧ st.sameButNew ({ t with vm := st.vm } : State) L mc ms ∧ ∀ z ∈ L, free z.base
def vx_Q (Qc : Array Value → State → Outcome → State → Prop) (XC : String → State → State → Prop) (mc ms : Nat) (free : Addr → Prop) : Array Value → State → Outcome → State → Prop := fun a st o t =>
  (Qc a st o t ∧ ∃ L, FrameEnd st o t L mc ms ∧ ∀ q ∈ L, free q.base) ∨ ∃ q, o = .threw q ∧ vx_T XC st q t mc ms free
/-- a callee that returns or throws -/
def vx_Met (l : Launch) (y : MethodName) (ws : List Cond) (rm : Room) (Pc : Array Value → State → Prop) (Qc : Array Value → State → Outcome → State → Prop) (XC : String → State → State → Prop) (mc ms : Nat) (free : Addr → Prop) : Prop :=
  MetFree l y (headSpec ws rm) Pc (fun _ _ _ _ _ => True) (vx_Q Qc XC mc ms free)
def vx_Post (XC : String → State → State → Prop) (mc ms : Nat) (free : Addr → Prop) : Pt → Array Value → Addr → Pt → Prop := fun A a q B =>
  ∃ (g : JFrame) (mk : MethodId) (t : State) (L : List Loc) (E : String) (ce : Cell), B.U.heap = t.heap ∧ B.U.vm = t.vm ∧ XC E (A.U.calling g mk a) t ∧ t.heap[q]? = some ce ∧ ce.vm = .none ∧ A.U.vm.findClass E = some ce.cls ∧ B.locs = A.locs ++ L ∧ (∀ z ∈ L, free z.base) ∧ B.cells = A.cells + mc ∧ B.slots = A.slots + ms
def vx_Back (l : Launch) (R : Room) (p : Program) (e : Env) (below : List Frame) (s : State) (sargs : Array Value) (y : MethodName) (len W9 : Nat)
    (Pre : Pt → Array Value → Prop) (Post : Pt → Array Value → Option Value → Pt → Prop) (PostX : Pt → Array Value → Addr → Pt → Prop) : Prop :=
  ∀ (m : MethodId) (meth : Method) (c : Code) (A : Pt) (g : JFrame) (ig : Instr) (mk : MethodId) (a : Array Value),
    Stand p l e R s m sargs below meth c A.U A.locs A.cells A.slots → g.method = m → g.locals.size = c.maxLocals → decode c.code g.pc = .ok (ig, len) →
    2 * g.monitorRoom + (g.stack.map fun v => v.category).sum ≤ W9 → A.U.methodNamed? y = some mk → Pre A a →
    (∃ (v : Option Value) (B : Pt), Stand p l e R s m sargs below meth c B.U B.locs B.cells B.slots ∧ Post A a v B ∧
      Steps p.tables e below (doInvoke e (A.U.setTop g) [] mk a).1 (B.U.setTop { g with pc := g.pc + len, stack := v.toList ++ g.stack })) ∨
    (∃ (q : Addr) (B : Pt), Stand p l e R s m sargs below meth c B.U B.locs B.cells B.slots ∧ PostX A a q B ∧
      Steps p.tables e below (doInvoke e (A.U.setTop g) [] mk a).1 ((B.U.setTop g).pushFrame (.throwing q)))
section Payer
variable {l : Launch} {R : Room} {p : Program} {e : Env} {below : List Frame} {s : State} {sargs : Array Value} {y : MethodName} {len W9 : Nat}
theorem vx_back {ws : List Cond} {rm : Room} {Pc : Array Value → State → Prop} {Qc : Array Value → State → Outcome → State → Prop} {XC : String → State → State → Prop} {mc ms : Nat} {free : Addr → Prop} {bytes : ByteArray} {maxL : Nat} {ret : Option FieldType}
    (hM : vx_Met l y ws rm Pc Qc XC mc ms free) (hblind : FrameBlind Pc) (hrc : rm.cells = mc) (hrs : rm.slots = ms)
    (hframes : rm.frames + 1 ≤ R.frames) (hlocals : W9 + (maxL + 11) + rm.locals ≤ R.locals)
    (hws : ∀ w ∈ ws, ∀ a' U, s.WarmedH U.vm → w.before a' U = true) (hcode : Cond.code y bytes maxL ret ∈ ws) (hinit : ∀ a' U, s.WarmedH U.vm → (Cond.initialized y.cls).before a' U = true) :
    vx_Back l R p e below s sargs y len W9 (PreOf R mc ms Pc) (PostOf Qc mc ms free) (vx_Post XC mc ms free) := by
  intro m meth c A g ig mk a X hg hsize hdg hW hn hp
  have h1 : (headSpec ws rm).pre.before a A.U = true := atoms_intro fun w hw => hws w hw _ _ X.warmed
  have h2 : (Cond.code y bytes maxL ret).before a A.U = true := hws _ hcode _ _ X.warmed
  have h3 : (Cond.initialized y.cls).before a A.U = true := hinit _ _ X.warmed
  have h4 : A.cells + (headSpec ws rm).room.cells ≤ R.cells := by rw [show (headSpec ws rm).room.cells = mc from hrc]; exact hp.1
  have h5 : A.slots + (headSpec ws rm).room.slots ≤ R.slots := by rw [show (headSpec ws rm).room.slots = ms from hrs]; exact hp.2.1
  have hPc : Pc a (A.U.calling g mk a) := hblind _ _ _ _ hp.2.2
  obtain ⟨U, Ls, c0, s0⟩ := A
  dsimp only [Pt.U, Pt.locs, Pt.cells, Pt.slots] at h1 h2 h3 h4 h5 X hn hPc ⊢
  obtain ⟨methY, cY, hmY, hcY, -, hlY, -, -, -, -⟩ := Cond.code_spec hn h2
  obtain ⟨kY, hkY, -⟩ := className_of_methodNamed hn
  have hinitY : kY.init = .initialized := Cond.initialized_spec (findClass_of_methodNamed hn) hkY h3
  have h : At U g.method c below := by rw [hg]; exact X.here
  have hlocals9 : W9 + (maxL + 11) + (headSpec ws rm).room.locals ≤ R.locals := hlocals
  have happ : (headSpec ws rm).appliesLoose y e.platform (U.calling g mk a) = true :=
    Spec.appliesLoose_calling (g := g) h hdg hn hkY hinitY
      (X.room_calling (g := g) (R' := (headSpec ws rm).room) hsize hmY hcY hframes (by rw [hlY]; omega) h4 h5) h1
  obtain ⟨mid, hmid⟩ := h.above
  have hfr : (U.setTop g).frames = (.java g :: mid) ++ below := by rw [State.frames_setTop' g h.top, hmid]; rfl
  obtain ⟨o, s₂, hsteps, -, hend, hq⟩ := Steps.callFree hM p X.admits X.cas X.clock (acts := []) hfr happ hPc trivial
  have hq' : vx_Q Qc XC mc ms free a (U.calling g mk a) o s₂ := hq
  rw [State.frames_setTop' g h.top] at hend
  obtain ⟨g₀, hg0⟩ := Option.isSome_iff_exists.mp h.top
  obtain ⟨r, hr⟩ := State.topJava?_eq_some.mp hg0
  have hr' : (({ U with heap := s₂.heap, slotsUsed := s₂.slotsUsed } : State).setVm s₂.vm).frames = .java g₀ :: r := hr
  rcases hq' with ⟨hqc, L, hfe, hL⟩ | ⟨q, rfl, E, ce, L, hx, hce, hcv, hcl, hW₂, hsm, hL⟩
  · obtain ⟨⟨v, rfl⟩, hW₂, e2, q2, q3, q4, q5, q6⟩ := id hfe
    have e3 : s₂ = ({ (U.calling g mk a).setFrames s₂.frames with heap := s₂.heap, slotsUsed := s₂.slotsUsed } : State).setVm s₂.vm := by
      have : s₂ = ({ s₂ with vm := (U.calling g mk a).vm } : State).setVm s₂.vm := rfl
      rw [e2] at this
      exact this
    obtain ⟨c₂, i₂, len₂, hc₂, hd₂, hf₂⟩ := hend
    have hW' : U.WarmedH s₂.vm := hW₂
    have hcc : c₂ = c := by
      have h1 : s₂.code? g.method = U.code? g.method := by
        rw [State.code?_eq, State.code?_eq, hW'.alike.method?]
      exact Option.some.inj (hc₂.symm.trans (h1.trans h.code))
    subst hcc
    have hlen : len₂ = len := by rw [hdg] at hd₂; cases hd₂; rfl
    subst hlen
    have hs₂ : s₂ = (({ U with heap := s₂.heap, slotsUsed := s₂.slotsUsed } : State).setVm s₂.vm).setTop { g with pc := g.pc + len₂, stack := v.toList ++ g.stack } := by
      refine e3.trans ?_
      rw [hf₂, State.calling_eq h.top, State.setFrames_setFrames, State.setTop_of_frames _ hr', hr]
      rfl
    have hsame : U.sameButNew ({ U with heap := s₂.heap, slotsUsed := s₂.slotsUsed } : State) L mc ms := by
      refine ⟨?_, q2, q3, q4, q5, q6⟩
      obtain ⟨t, ht, -⟩ := State.frames_cons hr
      show ({ U with heap := s₂.heap, slotsUsed := s₂.slotsUsed } : State) = { U.setFrames U.frames with heap := s₂.heap, slotsUsed := s₂.slotsUsed }
      rw [State.setFrames_self ht]
    subst hg
    refine Or.inl ⟨v, ⟨(({ U with heap := s₂.heap, slotsUsed := s₂.slotsUsed } : State).setVm s₂.vm), Ls ++ L, c0 + mc, s0 + ms⟩,
      ⟨X.admits, X.cas, X.clock, X.frames, X.room, X.hears, X.method, X.code, (X.here.setHeapUsed s₂.heap s₂.slotsUsed).setVm hW'.alike, X.tail, State.WarmedH.trans X.warmed hW', X.limits, X.bytes, X.same.trans (hsame.setVm s.vm)⟩,
      ⟨g, mk, s₂, L, rfl, rfl, hqc, rfl, hL, rfl, rfl⟩, ?_⟩
    show Steps p.tables e below _ ((({ U with heap := s₂.heap, slotsUsed := s₂.slotsUsed } : State).setVm s₂.vm).setTop { g with pc := g.pc + len₂, stack := v.toList ++ g.stack })
    rw [← hs₂]
    exact hsteps
  · obtain ⟨e2, q2, q3, q4, q5, q6⟩ := id hsm
    have e3 : s₂ = ({ (U.calling g mk a).setFrames s₂.frames with heap := s₂.heap, slotsUsed := s₂.slotsUsed } : State).setVm s₂.vm := by
      have : s₂ = ({ s₂ with vm := (U.calling g mk a).vm } : State).setVm s₂.vm := rfl
      rw [e2] at this
      exact this
    have hf₂ : s₂.frames = .throwing q :: .java g :: U.frames.tail := hend
    have hW' : U.WarmedH s₂.vm := hW₂
    have hs₂ : s₂ = ((({ U with heap := s₂.heap, slotsUsed := s₂.slotsUsed } : State).setVm s₂.vm).setTop g).pushFrame (.throwing q) := by
      refine e3.trans ?_
      rw [hf₂, State.calling_eq h.top, State.setFrames_setFrames, State.pushFrame, State.frames_setTop _ hr', State.setTop_of_frames _ hr', State.setFrames_setFrames, hr]
      rfl
    have hsame : U.sameButNew ({ U with heap := s₂.heap, slotsUsed := s₂.slotsUsed } : State) L mc ms := by
      refine ⟨?_, q2, q3, q4, q5, q6⟩
      obtain ⟨t, ht, -⟩ := State.frames_cons hr
      show ({ U with heap := s₂.heap, slotsUsed := s₂.slotsUsed } : State) = { U.setFrames U.frames with heap := s₂.heap, slotsUsed := s₂.slotsUsed }
      rw [State.setFrames_self ht]
    subst hg
    refine Or.inr ⟨q, ⟨(({ U with heap := s₂.heap, slotsUsed := s₂.slotsUsed } : State).setVm s₂.vm), Ls ++ L, c0 + mc, s0 + ms⟩,
      ⟨X.admits, X.cas, X.clock, X.frames, X.room, X.hears, X.method, X.code, (X.here.setHeapUsed s₂.heap s₂.slotsUsed).setVm hW'.alike, X.tail, State.WarmedH.trans X.warmed hW', X.limits, X.bytes, X.same.trans (hsame.setVm s.vm)⟩,
      ⟨g, mk, s₂, L, E, ce, rfl, rfl, hx, hce, hcv, hcl, rfl, hL, rfl, rfl⟩, ?_⟩
    show Steps p.tables e below _ (((({ U with heap := s₂.heap, slotsUsed := s₂.slotsUsed } : State).setVm s₂.vm).setTop g).pushFrame (.throwing q))
    rw [← hs₂]
    exact hsteps
end Payer
section Calls
variable {p : Program} {l : Launch} {e : Env} {R : Room} {s : State} {m : MethodId} {args : Array Value} {below : List Frame} {meth : Method} {c : Code} {T : State} {locs : List Loc} {cells slots : Nat}
theorem vx_callV (X : Stand p l e R s m args below meth c T locs cells slots) (hexec : p.tables.exec = Jvm.exec) {own C : String} {index : Nat} {y : MethodName} {bytes : ByteArray} {maxL : Nat} {ret : Option FieldType}
    (hown : s.vm.findClass own = some m.cls) (hlink : (Cond.methodLink own index y).before args s = true) (hinst : (Cond.instanceMethod y).before args s = true) (hsel : (Cond.selects C y y).before args s = true)
    (hcode : (Cond.code y bytes maxL ret).before args s = true) (hy : y.cls ≠ "java/lang/invoke/MethodHandle" ∧ y.cls ≠ "java/lang/invoke/VarHandle")
    {W9 : Nat} {Pre : Pt → Array Value → Prop} {Post : Pt → Array Value → Option Value → Pt → Prop} {PostX : Pt → Array Value → Addr → Pt → Prop} (hK : vx_Back l R p e below s args y 3 W9 Pre Post PostX)
    {b : Addr} {cellB : Cell} (hcell : T.heap[b]? = some cellB) (hobj : cellB.vm.isStatics = false) (hcls : s.vm.findClass C = some cellB.cls)
    {g : JFrame} (hg : g.method = m) (hsize : g.locals.size = c.maxLocals) {argsL rest : List Value} (hlen : ∀ sig, parseMethodDescriptor y.desc = some sig → argsL.length = sig.parameters.length)
    (hstack : g.stack = argsL.reverse ++ .ref b :: rest) (hW : 2 * g.monitorRoom + (rest.map fun v => v.category).sum ≤ W9) (hdg : decode c.code g.pc = .ok (.invokevirtual index, 3))
    (hpre : ∀ vm₁, s.WarmedH vm₁ → Pre ⟨T.setVm vm₁, locs, cells, slots⟩ (Value.ref b :: argsL).toArray) :
    (∃ (v : Option Value) (vm₁ : Vm) (B : Pt), s.WarmedH vm₁ ∧ Stand p l e R s m args below meth c B.U B.locs B.cells B.slots ∧ Post ⟨T.setVm vm₁, locs, cells, slots⟩ (Value.ref b :: argsL).toArray v B ∧
      ∀ target, Steps p.tables e below (B.U.setTop { g with pc := g.pc + 3, stack := v.toList ++ rest }) target → Steps p.tables e below (T.setTop g) target) ∨
    (∃ (q : Addr) (vm₁ : Vm) (B : Pt), s.WarmedH vm₁ ∧ Stand p l e R s m args below meth c B.U B.locs B.cells B.slots ∧ PostX ⟨T.setVm vm₁, locs, cells, slots⟩ (Value.ref b :: argsL).toArray q B ∧
      Steps p.tables e below (T.setTop g) ((B.U.setTop { g with stack := rest }).pushFrame (.throwing q))) := by
  obtain ⟨mk, methM, hnamed, hmethM, hstM, habM⟩ := Cond.instanceMethod_spec hinst
  obtain ⟨methM', cM, hmethM', -, -, -, -, -, -, hsigM⟩ := Cond.code_spec hnamed hcode
  cases hmethM.symm.trans hmethM'
  obtain ⟨c2, r2, m2, q1, q2, q3, q4, kP, hkP, hkPi⟩ := Cond.selects_spec hsel
  cases hcls.symm.trans q1
  cases (State.methodFound?_of_named hnamed hy).symm.trans q2
  cases hnamed.symm.trans q3
  have hselP : selectMethod e.platform s.vm cellB.cls mk = .method mk := by rw [Launch.admits_selectMethod X.admits]; exact q4
  obtain ⟨vm₁, X₁, hstep₁⟩ := X.invokevirtual hexec hown hlink hnamed hmethM hstM hkP hkPi hy (a := b) (cell := cellB) hcell
    (fun z h => by rw [h] at hobj; cases hobj) hselP hmethM habM hkP hkPi (g := g) hg (argsL := argsL) (rest := rest) (hlen _ hsigM) hstack hdg
  rcases hK m meth c ⟨T.setVm vm₁, locs, cells, slots⟩ { g with stack := rest } (.invokevirtual index) mk (Value.ref b :: argsL).toArray X₁ hg hsize hdg hW (X₁.named hnamed) (hpre vm₁ X₁.warmed) with ⟨v, B, X', hpost, hsteps⟩ | ⟨q, B, X', hpost, hsteps⟩
  · exact Or.inl ⟨v, vm₁, B, X₁.warmed, X', hpost, fun target h => hstep₁ _ fun acts => by rw [doInvoke_state]; exact hsteps.trans h⟩
  · exact Or.inr ⟨q, vm₁, B, X₁.warmed, X', hpost, hstep₁ _ fun acts => by rw [doInvoke_state]; exact hsteps⟩
theorem vx_callS (X : Stand p l e R s m args below meth c T locs cells slots) (hexec : p.tables.exec = Jvm.exec) {own : String} {index : Nat} {y : MethodName} {bytes : ByteArray} {maxL : Nat} {ret : Option FieldType}
    (hown : s.vm.findClass own = some m.cls) (hlink : (Cond.methodLink own index y).before args s = true) (hstat : (Cond.static y).before args s = true) (hinit : (Cond.initialized y.cls).before args s = true)
    (hcode : (Cond.code y bytes maxL ret).before args s = true) (hy : y.cls ≠ "java/lang/invoke/MethodHandle" ∧ y.cls ≠ "java/lang/invoke/VarHandle")
    {W9 : Nat} {Pre : Pt → Array Value → Prop} {Post : Pt → Array Value → Option Value → Pt → Prop} {PostX : Pt → Array Value → Addr → Pt → Prop} (hK : vx_Back l R p e below s args y 3 W9 Pre Post PostX)
    {g : JFrame} (hg : g.method = m) (hsize : g.locals.size = c.maxLocals) {argsL rest : List Value} (hlen : ∀ sig, parseMethodDescriptor y.desc = some sig → argsL.length = sig.parameters.length)
    (hstack : g.stack = argsL.reverse ++ rest) (hW : 2 * g.monitorRoom + (rest.map fun v => v.category).sum ≤ W9) (hdg : decode c.code g.pc = .ok (.invokestatic index, 3))
    (hpre : ∀ vm₁, s.WarmedH vm₁ → Pre ⟨T.setVm vm₁, locs, cells, slots⟩ argsL.toArray) :
    (∃ (v : Option Value) (vm₁ : Vm) (B : Pt), s.WarmedH vm₁ ∧ Stand p l e R s m args below meth c B.U B.locs B.cells B.slots ∧ Post ⟨T.setVm vm₁, locs, cells, slots⟩ argsL.toArray v B ∧
      ∀ target, Steps p.tables e below (B.U.setTop { g with pc := g.pc + 3, stack := v.toList ++ rest }) target → Steps p.tables e below (T.setTop g) target) ∨
    (∃ (q : Addr) (vm₁ : Vm) (B : Pt), s.WarmedH vm₁ ∧ Stand p l e R s m args below meth c B.U B.locs B.cells B.slots ∧ PostX ⟨T.setVm vm₁, locs, cells, slots⟩ argsL.toArray q B ∧
      Steps p.tables e below (T.setTop g) ((B.U.setTop { g with stack := rest }).pushFrame (.throwing q))) := by
  obtain ⟨mk, hnamed⟩ := Cond.code_named hcode
  obtain ⟨methM, cM, hmethM, -, -, -, -, -, -, hsigM⟩ := Cond.code_spec hnamed hcode
  have hstatic : methM.isStatic = true := Cond.static_spec hnamed hmethM hstat
  obtain ⟨kP, hkP, -⟩ := className_of_methodNamed hnamed
  have hinitP : kP.init = .initialized := Cond.initialized_spec (findClass_of_methodNamed hnamed) hkP hinit
  obtain ⟨vm₁, X₁, hstep₁⟩ := X.invokestatic hexec hown hlink hnamed hmethM hstatic hkP hinitP hy (g := g) hg (argsL := argsL) (rest := rest) (hlen _ hsigM) hstack hdg
  rcases hK m meth c ⟨T.setVm vm₁, locs, cells, slots⟩ { g with stack := rest } (.invokestatic index) mk argsL.toArray X₁ hg hsize hdg hW (X₁.named hnamed) (hpre vm₁ X₁.warmed) with ⟨v, B, X', hpost, hsteps⟩ | ⟨q, B, X', hpost, hsteps⟩
  · exact Or.inl ⟨v, vm₁, B, X₁.warmed, X', hpost, fun target h => hstep₁ _ fun acts => by rw [doInvoke_state]; exact hsteps.trans h⟩
  · exact Or.inr ⟨q, vm₁, B, X₁.warmed, X', hpost, hstep₁ _ fun acts => by rw [doInvoke_state]; exact hsteps⟩
end Calls
theorem vx_cls {s : State} {T : State} {vm₁ : Vm} {E : String} {k : ClassId} (hW : s.WarmedH vm₁) (h : (T.setVm vm₁).vm.findClass E = some k) : s.vm.findClass E = some k := by
  have h1 : vm₁.findClass E = some k := h
  rw [hW.alike.findClass] at h1
  exact h1
/-- the method's frame g, with q thrown over it -/
def vx_W (p : Program) (l : Launch) (e : Env) (R : Room) (s : State) (m : MethodId) (args : Array Value) (below : List Frame) (meth : Method) (c : Code) (H : Heap) (locs : List Loc) (cells slots : Nat) (Q : State → Prop) (g : JFrame) (q : Addr) : Prop :=
  ∀ T : State, T.heap = H → Stand p l e R s m args below meth c T locs cells slots → ∃ t, Steps p.tables e below ((T.setTop g).pushFrame (.throwing q)) t ∧ Q t
def vx_Run (p : Program) (l : Launch) (e : Env) (R : Room) (s : State) (m : MethodId) (args : Array Value) (below : List Frame) (meth : Method) (c : Code) (H : Heap) (locs : List Loc) (cells slots mc ms : Nat) (g : JFrame) (rest : List Value) (Qa : State → Outcome → State → Prop) (XC : String → State → State → Prop) (free : Addr → Prop) : Prop :=
  ∀ T : State, T.heap = H → Stand p l e R s m args below meth c T locs cells slots →
    (∃ (v : Option Value) (st₀ t T' : State) (L : List Loc), st₀.heap = H ∧ Stand p l e R s m args below meth c T' (locs ++ L) (cells + mc) (slots + ms) ∧ (∀ q ∈ L, free q.base) ∧ T'.heap = t.heap ∧ T'.vm = t.vm ∧ Qa st₀ (.returned v) t ∧
      Goes p e below T g T' { g with pc := g.pc + 3, stack := v.toList ++ rest }) ∨
    (∃ (q : Addr) (st₀ t T' : State) (L : List Loc) (E : String) (ce : Cell), st₀.heap = H ∧ Stand p l e R s m args below meth c T' (locs ++ L) (cells + mc) (slots + ms) ∧ (∀ z ∈ L, free z.base) ∧ T'.heap = t.heap ∧ T'.vm = t.vm ∧ XC E st₀ t ∧ t.heap[q]? = some ce ∧ ce.vm = .none ∧ s.vm.findClass E = some ce.cls ∧
      Steps p.tables e below (T.setTop g) ((T'.setTop { g with stack := rest }).pushFrame (.throwing q)))
def vx_X {S : Type} (px : S → Prop) (B : String → S → State → Prop) (A : Nat → Prop) : String → State → State → Prop := fun E st t => ∃ u : S, px u ∧ B E u t ∧ va_F A st t
section Runs
variable {p : Program} {l : Launch} {e : Env} {R : Room} {s : State} {m : MethodId} {args : Array Value} {below : List Frame} {meth : Method} {c : Code} {H : Heap} {locs : List Loc} {cells slots : Nat}
variable {y : MethodName} {bytes cc : ByteArray} {maxL nL mc ms n index : Nat} {ret : Option FieldType} {ws : List Cond} {rm : Room} {Pc : Array Value → State → Prop} {Qc : Array Value → State → Outcome → State → Prop} {XC : String → State → State → Prop} {free : Addr → Prop} {Ts : List Cond} {own C : String} {b : Addr} {As rest : List Value} {g : JFrame}
theorem vx_callBack (cb : CallB R s args own index y bytes maxL ret ws rm mc ms n) (hM : vx_Met l y ws rm Pc Qc XC mc ms free) (hbl : FrameBlind Pc) : vx_Back l R p e below s args y 3 8 (PreOf R mc ms Pc) (PostOf Qc mc ms free) (vx_Post XC mc ms free) := by
  obtain ⟨hrc, hrs, hfr, hlo, hws, hcw, -, hini, -⟩ := cb
  exact vx_back (bytes := bytes) (maxL := maxL) (ret := ret) hM hbl hrc hrs hfr hlo hws hcw (fun a' U hW => word_at hW (Or.inl (by first | rfl | simp [Cond.onTables, Cond.keeps, Cond.steady])) hini)
theorem vx_runV (S : CallFix p m c cc nL s args Ts own) (hM : vx_Met l y ws rm Pc Qc XC mc ms free) (cw : CallW R s args own C index y bytes maxL ret ws rm mc ms n) (hp : PreV s H C b Pc As)
    (hg : g.method = m) (hn : As.length = n) (hsize : g.locals.size = nL) (hstack : g.stack = As.reverse ++ .ref b :: rest) (hW : 2 * g.monitorRoom + (rest.map fun v => v.category).sum ≤ 8) (hdg : decode cc g.pc = .ok (.invokevirtual index, 3)) (hf : cells + mc ≤ R.cells ∧ slots + ms ≤ R.slots) :
    vx_Run p l e R s m args below meth c H locs cells slots mc ms g rest (Qc (Value.ref b :: As).toArray) XC free := by
  have hK : vx_Back l R p e below s args y 3 8 (PreOf R mc ms Pc) (PostOf Qc mc ms free) (vx_Post XC mc ms free) := vx_callBack cw.1 hM hp.1
  obtain ⟨⟨-, -, -, -, -, -, hcode, -, hy, hlen, hl⟩, hin, hse⟩ := cw
  obtain ⟨hx, hb, hml, ho, -⟩ := S
  obtain ⟨-, ⟨cellB, hcB, hoB, hclB⟩, hPc⟩ := hp
  intro T hT X
  rcases vx_callV X hx (C := C) (bytes := bytes) (maxL := maxL) (ret := ret) ho hl hin hse hcode hy hK (by rw [hT]; exact hcB) hoB hclB hg (hsize.trans hml.symm) (argsL := As) (rest := rest) (fun sig h => hn.trans (hlen sig h)) hstack hW (by rw [hb]; exact hdg)
    (fun vm₁ hW₁ => ⟨hf.1, hf.2, hPc (T.setVm vm₁) hT hW₁⟩) with ⟨v, vm₁, ⟨U', l2, c2, s2⟩, hW₁, X', ⟨g', mk, t, L, e1, e2, hq, h1, hL, h2, h3⟩, st⟩ | ⟨q, vm₁, ⟨U', l2, c2, s2⟩, hW₁, X', ⟨g', mk, t, L, E, ce, e1, e2, hq, hce, hcv, hcl, h1, hL, h2, h3⟩, st⟩
  · dsimp only [Pt.U, Pt.locs, Pt.cells, Pt.slots] at X' e1 e2 h1 h2 h3 st
    subst h1; subst h2; subst h3
    exact Or.inl ⟨v, (T.setVm vm₁).calling g' mk (Value.ref b :: As).toArray, t, U', L, hT, X', hL, e1, e2, hq, st⟩
  · dsimp only [Pt.U, Pt.locs, Pt.cells, Pt.slots] at X' e1 e2 h1 h2 h3 st hcl
    subst h1; subst h2; subst h3
    exact Or.inr ⟨q, (T.setVm vm₁).calling g' mk (Value.ref b :: As).toArray, t, U', L, E, ce, hT, X', hL, e1, e2, hq, hce, hcv, vx_cls hW₁ hcl, st⟩
theorem vx_runS (S : CallFix p m c cc nL s args Ts own) (hM : vx_Met l y ws rm Pc Qc XC mc ms free) (cw : CallB R s args own index y bytes maxL ret ws rm mc ms n ∧ (Cond.static y).before args s = true) (hp : PreS s H Pc As)
    (hg : g.method = m) (hn : As.length = n) (hsize : g.locals.size = nL) (hstack : g.stack = As.reverse ++ rest) (hW : 2 * g.monitorRoom + (rest.map fun v => v.category).sum ≤ 8) (hdg : decode cc g.pc = .ok (.invokestatic index, 3)) (hf : cells + mc ≤ R.cells ∧ slots + ms ≤ R.slots) :
    vx_Run p l e R s m args below meth c H locs cells slots mc ms g rest (Qc As.toArray) XC free := by
  have hK : vx_Back l R p e below s args y 3 8 (PreOf R mc ms Pc) (PostOf Qc mc ms free) (vx_Post XC mc ms free) := vx_callBack cw.1 hM hp.1
  obtain ⟨⟨-, -, -, -, -, -, hcode, hini, hy, hlen, hl⟩, hstt⟩ := cw
  obtain ⟨hx, hb, hml, ho, -⟩ := S
  intro T hT X
  rcases vx_callS X hx (bytes := bytes) (maxL := maxL) (ret := ret) ho hl hstt hini hcode hy hK hg (hsize.trans hml.symm) (argsL := As) (rest := rest) (fun sig h => hn.trans (hlen sig h)) hstack hW (by rw [hb]; exact hdg)
    (fun vm₁ hW₁ => ⟨hf.1, hf.2, hp.2 (T.setVm vm₁) hT hW₁⟩) with ⟨v, vm₁, ⟨U', l2, c2, s2⟩, hW₁, X', ⟨g', mk, t, L, e1, e2, hq, h1, hL, h2, h3⟩, st⟩ | ⟨q, vm₁, ⟨U', l2, c2, s2⟩, hW₁, X', ⟨g', mk, t, L, E, ce, e1, e2, hq, hce, hcv, hcl, h1, hL, h2, h3⟩, st⟩
  · dsimp only [Pt.U, Pt.locs, Pt.cells, Pt.slots] at X' e1 e2 h1 h2 h3 st
    subst h1; subst h2; subst h3
    exact Or.inl ⟨v, (T.setVm vm₁).calling g' mk As.toArray, t, U', L, hT, X', hL, e1, e2, hq, st⟩
  · dsimp only [Pt.U, Pt.locs, Pt.cells, Pt.slots] at X' e1 e2 h1 h2 h3 st hcl
    subst h1; subst h2; subst h3
    exact Or.inr ⟨q, (T.setVm vm₁).calling g' mk As.toArray, t, U', L, E, ce, hT, X', hL, e1, e2, hq, hce, hcv, vx_cls hW₁ hcl, st⟩
end Runs
section Rows
variable {p : Program} {l : Launch} {e : Env} {R : Room} {s : State} {m : MethodId} {args : Array Value} {below : List Frame} {meth : Method} {c : Code} {H : Heap} {locs : List Loc} {cells slots : Nat} {Q : State → Prop}
variable {mc ms : Nat} {free : Addr → Prop} {A0 A1 : Nat → Prop} {H0 : Heap} {a : Array Value} {pc : Nat} {ls : Array Slot} {st0 rest : List Value}
theorem vx_keep {st₀ t T' : State} {L : List Loc} (h0 : st₀.heap = H) (e1 : T'.heap = t.heap) (hS : va_S A0 H0 H locs) (hA : ∀ q, q < H.size → A1 q → A0 q) (hf : ∀ q, free q → A0 q) (hL : ∀ q ∈ L, free q.base) (hF : va_F A1 st₀ t) :
    H.size ≤ T'.heap.size ∧ (∀ q : Nat, q < H.size → ¬ A1 q → T'.heap[q]? = H[q]?) ∧ va_S A0 H0 T'.heap (locs ++ L) := by
  obtain ⟨hz, hk⟩ := hF
  rw [h0] at hz hk
  exact ⟨by rw [e1]; exact hz, fun q h1 h2 => by rw [e1]; exact hk q h1 h2,
    ⟨Nat.le_trans hS.1 (by rw [e1]; exact hz), fun q h1 h2 => by rw [e1, hk q (Nat.lt_of_lt_of_le h1 hS.1) (fun z => h2 (hA q (Nat.lt_of_lt_of_le h1 hS.1) z))]; exact hS.2.1 q h1 h2, fun q hq => by
      rcases List.mem_append.mp hq with h | h
      · exact hS.2.2 q h
      · exact hf _ (hL q h)⟩⟩
theorem vx_calli {S SX : Type} {post : Int32 → S → Prop} {px : SX → Prop} {B : S → State → Prop} {BX : String → SX → State → Prop} {AX : Nat → Prop} (hr : vx_Run p l e R s m args below meth c H locs cells slots mc ms (F0 m pc ls st0) rest (va_Qi post B A1 a) (vx_X px BX AX) free) (hS : va_S A0 H0 H locs) (hA : ∀ q, q < H.size → A1 q → A0 q) (hf : ∀ q, free q → A0 q) (hAX : ∀ q, q < H.size → AX q → A0 q)
    (kx : ∀ (E : String) (ce : Cell) (q9 : Addr) (u : SX) (t : State) (H1 : Heap) (locs1 : List Loc), t.heap = H1 → s.vm.Alike t.vm → px u → BX E u t → H.size ≤ H1.size → (∀ q : Nat, q < H.size → ¬ AX q → H1[q]? = H[q]?) → va_S A0 H0 H1 locs1 → H1[q9]? = some ce → ce.vm = .none → s.vm.findClass E = some ce.cls → vx_W p l e R s m args below meth c H1 locs1 (cells + mc) (slots + ms) Q (F0 m pc ls rest) q9)
    (kk : ∀ (r : Int32) (u : S) (t : State) (H1 : Heap) (locs1 : List Loc), t.heap = H1 → s.vm.Alike t.vm → post r u → B u t → H.size ≤ H1.size → (∀ q : Nat, q < H.size → ¬ A1 q → H1[q]? = H[q]?) → va_S A0 H0 H1 locs1 → W p l e R s m args below meth c H1 locs1 (cells + mc) (slots + ms) Q (F0 m (pc + 3) ls (.int r :: rest))) : W p l e R s m args below meth c H locs cells slots Q (F0 m pc ls st0) := by
  intro T hT X
  rcases hr T hT X with ⟨v, st₀, t, T', L, h0, X', hL, e1, e2, ⟨⟨r, u, hv, hp, hb⟩, hF⟩, st⟩ | ⟨q, st₀, t, T', L, E, ce, h0, X', hL, e1, e2, ⟨u, hp, hb, hF⟩, hce, hcv, hcl, st⟩
  · cases hv
    obtain ⟨k1, k2, k3⟩ := vx_keep h0 e1 hS hA hf hL hF
    obtain ⟨t2, a1, b1⟩ := kk r u t T'.heap (locs ++ L) e1.symm (by rw [← e2]; exact X'.warmed.alike) hp hb k1 k2 k3 T' rfl X'
    exact ⟨t2, st t2 a1, b1⟩
  · obtain ⟨k1, k2, k3⟩ := vx_keep h0 e1 hS hAX hf hL hF
    obtain ⟨t2, a1, b1⟩ := kx E ce q u t T'.heap (locs ++ L) e1.symm (by rw [← e2]; exact X'.warmed.alike) hp hb k1 k2 k3 (by rw [e1]; exact hce) hcv hcl T' rfl X'
    exact ⟨t2, st.trans a1, b1⟩
theorem vx_calll {S SX : Type} {post : Int64 → S → Prop} {px : SX → Prop} {B : S → State → Prop} {BX : String → SX → State → Prop} {AX : Nat → Prop} (hr : vx_Run p l e R s m args below meth c H locs cells slots mc ms (F0 m pc ls st0) rest (va_Ql post B A1 a) (vx_X px BX AX) free) (hS : va_S A0 H0 H locs) (hA : ∀ q, q < H.size → A1 q → A0 q) (hf : ∀ q, free q → A0 q) (hAX : ∀ q, q < H.size → AX q → A0 q)
    (kx : ∀ (E : String) (ce : Cell) (q9 : Addr) (u : SX) (t : State) (H1 : Heap) (locs1 : List Loc), t.heap = H1 → s.vm.Alike t.vm → px u → BX E u t → H.size ≤ H1.size → (∀ q : Nat, q < H.size → ¬ AX q → H1[q]? = H[q]?) → va_S A0 H0 H1 locs1 → H1[q9]? = some ce → ce.vm = .none → s.vm.findClass E = some ce.cls → vx_W p l e R s m args below meth c H1 locs1 (cells + mc) (slots + ms) Q (F0 m pc ls rest) q9)
    (kk : ∀ (r : Int64) (u : S) (t : State) (H1 : Heap) (locs1 : List Loc), t.heap = H1 → s.vm.Alike t.vm → post r u → B u t → H.size ≤ H1.size → (∀ q : Nat, q < H.size → ¬ A1 q → H1[q]? = H[q]?) → va_S A0 H0 H1 locs1 → W p l e R s m args below meth c H1 locs1 (cells + mc) (slots + ms) Q (F0 m (pc + 3) ls (.long r :: rest))) : W p l e R s m args below meth c H locs cells slots Q (F0 m pc ls st0) := by
  intro T hT X
  rcases hr T hT X with ⟨v, st₀, t, T', L, h0, X', hL, e1, e2, ⟨⟨r, u, hv, hp, hb⟩, hF⟩, st⟩ | ⟨q, st₀, t, T', L, E, ce, h0, X', hL, e1, e2, ⟨u, hp, hb, hF⟩, hce, hcv, hcl, st⟩
  · cases hv
    obtain ⟨k1, k2, k3⟩ := vx_keep h0 e1 hS hA hf hL hF
    obtain ⟨t2, a1, b1⟩ := kk r u t T'.heap (locs ++ L) e1.symm (by rw [← e2]; exact X'.warmed.alike) hp hb k1 k2 k3 T' rfl X'
    exact ⟨t2, st t2 a1, b1⟩
  · obtain ⟨k1, k2, k3⟩ := vx_keep h0 e1 hS hAX hf hL hF
    obtain ⟨t2, a1, b1⟩ := kx E ce q u t T'.heap (locs ++ L) e1.symm (by rw [← e2]; exact X'.warmed.alike) hp hb k1 k2 k3 (by rw [e1]; exact hce) hcv hcl T' rfl X'
    exact ⟨t2, st.trans a1, b1⟩
theorem vx_callf {S SX : Type} {post : UInt32 → S → Prop} {px : SX → Prop} {B : S → State → Prop} {BX : String → SX → State → Prop} {AX : Nat → Prop} (hr : vx_Run p l e R s m args below meth c H locs cells slots mc ms (F0 m pc ls st0) rest (va_Qf post B A1 a) (vx_X px BX AX) free) (hS : va_S A0 H0 H locs) (hA : ∀ q, q < H.size → A1 q → A0 q) (hf : ∀ q, free q → A0 q) (hAX : ∀ q, q < H.size → AX q → A0 q)
    (kx : ∀ (E : String) (ce : Cell) (q9 : Addr) (u : SX) (t : State) (H1 : Heap) (locs1 : List Loc), t.heap = H1 → s.vm.Alike t.vm → px u → BX E u t → H.size ≤ H1.size → (∀ q : Nat, q < H.size → ¬ AX q → H1[q]? = H[q]?) → va_S A0 H0 H1 locs1 → H1[q9]? = some ce → ce.vm = .none → s.vm.findClass E = some ce.cls → vx_W p l e R s m args below meth c H1 locs1 (cells + mc) (slots + ms) Q (F0 m pc ls rest) q9)
    (kk : ∀ (r : UInt32) (u : S) (t : State) (H1 : Heap) (locs1 : List Loc), t.heap = H1 → s.vm.Alike t.vm → post r u → B u t → H.size ≤ H1.size → (∀ q : Nat, q < H.size → ¬ A1 q → H1[q]? = H[q]?) → va_S A0 H0 H1 locs1 → W p l e R s m args below meth c H1 locs1 (cells + mc) (slots + ms) Q (F0 m (pc + 3) ls (.float r :: rest))) : W p l e R s m args below meth c H locs cells slots Q (F0 m pc ls st0) := by
  intro T hT X
  rcases hr T hT X with ⟨v, st₀, t, T', L, h0, X', hL, e1, e2, ⟨⟨r, u, hv, hp, hb⟩, hF⟩, st⟩ | ⟨q, st₀, t, T', L, E, ce, h0, X', hL, e1, e2, ⟨u, hp, hb, hF⟩, hce, hcv, hcl, st⟩
  · cases hv
    obtain ⟨k1, k2, k3⟩ := vx_keep h0 e1 hS hA hf hL hF
    obtain ⟨t2, a1, b1⟩ := kk r u t T'.heap (locs ++ L) e1.symm (by rw [← e2]; exact X'.warmed.alike) hp hb k1 k2 k3 T' rfl X'
    exact ⟨t2, st t2 a1, b1⟩
  · obtain ⟨k1, k2, k3⟩ := vx_keep h0 e1 hS hAX hf hL hF
    obtain ⟨t2, a1, b1⟩ := kx E ce q u t T'.heap (locs ++ L) e1.symm (by rw [← e2]; exact X'.warmed.alike) hp hb k1 k2 k3 (by rw [e1]; exact hce) hcv hcl T' rfl X'
    exact ⟨t2, st.trans a1, b1⟩
theorem vx_calld {S SX : Type} {post : UInt64 → S → Prop} {px : SX → Prop} {B : S → State → Prop} {BX : String → SX → State → Prop} {AX : Nat → Prop} (hr : vx_Run p l e R s m args below meth c H locs cells slots mc ms (F0 m pc ls st0) rest (va_Qd post B A1 a) (vx_X px BX AX) free) (hS : va_S A0 H0 H locs) (hA : ∀ q, q < H.size → A1 q → A0 q) (hf : ∀ q, free q → A0 q) (hAX : ∀ q, q < H.size → AX q → A0 q)
    (kx : ∀ (E : String) (ce : Cell) (q9 : Addr) (u : SX) (t : State) (H1 : Heap) (locs1 : List Loc), t.heap = H1 → s.vm.Alike t.vm → px u → BX E u t → H.size ≤ H1.size → (∀ q : Nat, q < H.size → ¬ AX q → H1[q]? = H[q]?) → va_S A0 H0 H1 locs1 → H1[q9]? = some ce → ce.vm = .none → s.vm.findClass E = some ce.cls → vx_W p l e R s m args below meth c H1 locs1 (cells + mc) (slots + ms) Q (F0 m pc ls rest) q9)
    (kk : ∀ (r : UInt64) (u : S) (t : State) (H1 : Heap) (locs1 : List Loc), t.heap = H1 → s.vm.Alike t.vm → post r u → B u t → H.size ≤ H1.size → (∀ q : Nat, q < H.size → ¬ A1 q → H1[q]? = H[q]?) → va_S A0 H0 H1 locs1 → W p l e R s m args below meth c H1 locs1 (cells + mc) (slots + ms) Q (F0 m (pc + 3) ls (.double r :: rest))) : W p l e R s m args below meth c H locs cells slots Q (F0 m pc ls st0) := by
  intro T hT X
  rcases hr T hT X with ⟨v, st₀, t, T', L, h0, X', hL, e1, e2, ⟨⟨r, u, hv, hp, hb⟩, hF⟩, st⟩ | ⟨q, st₀, t, T', L, E, ce, h0, X', hL, e1, e2, ⟨u, hp, hb, hF⟩, hce, hcv, hcl, st⟩
  · cases hv
    obtain ⟨k1, k2, k3⟩ := vx_keep h0 e1 hS hA hf hL hF
    obtain ⟨t2, a1, b1⟩ := kk r u t T'.heap (locs ++ L) e1.symm (by rw [← e2]; exact X'.warmed.alike) hp hb k1 k2 k3 T' rfl X'
    exact ⟨t2, st t2 a1, b1⟩
  · obtain ⟨k1, k2, k3⟩ := vx_keep h0 e1 hS hAX hf hL hF
    obtain ⟨t2, a1, b1⟩ := kx E ce q u t T'.heap (locs ++ L) e1.symm (by rw [← e2]; exact X'.warmed.alike) hp hb k1 k2 k3 (by rw [e1]; exact hce) hcv hcl T' rfl X'
    exact ⟨t2, st.trans a1, b1⟩
theorem vx_callv {S SX : Type} {post : S → Prop} {px : SX → Prop} {B : S → State → Prop} {BX : String → SX → State → Prop} {AX : Nat → Prop} (hr : vx_Run p l e R s m args below meth c H locs cells slots mc ms (F0 m pc ls st0) rest (va_Qv post B A1 a) (vx_X px BX AX) free) (hS : va_S A0 H0 H locs) (hA : ∀ q, q < H.size → A1 q → A0 q) (hf : ∀ q, free q → A0 q) (hAX : ∀ q, q < H.size → AX q → A0 q)
    (kx : ∀ (E : String) (ce : Cell) (q9 : Addr) (u : SX) (t : State) (H1 : Heap) (locs1 : List Loc), t.heap = H1 → s.vm.Alike t.vm → px u → BX E u t → H.size ≤ H1.size → (∀ q : Nat, q < H.size → ¬ AX q → H1[q]? = H[q]?) → va_S A0 H0 H1 locs1 → H1[q9]? = some ce → ce.vm = .none → s.vm.findClass E = some ce.cls → vx_W p l e R s m args below meth c H1 locs1 (cells + mc) (slots + ms) Q (F0 m pc ls rest) q9)
    (kk : ∀ (u : S) (t : State) (H1 : Heap) (locs1 : List Loc), t.heap = H1 → s.vm.Alike t.vm → post u → B u t → H.size ≤ H1.size → (∀ q : Nat, q < H.size → ¬ A1 q → H1[q]? = H[q]?) → va_S A0 H0 H1 locs1 → W p l e R s m args below meth c H1 locs1 (cells + mc) (slots + ms) Q (F0 m (pc + 3) ls (rest))) : W p l e R s m args below meth c H locs cells slots Q (F0 m pc ls st0) := by
  intro T hT X
  rcases hr T hT X with ⟨v, st₀, t, T', L, h0, X', hL, e1, e2, ⟨⟨u, hv, hp, hb⟩, hF⟩, st⟩ | ⟨q, st₀, t, T', L, E, ce, h0, X', hL, e1, e2, ⟨u, hp, hb, hF⟩, hce, hcv, hcl, st⟩
  · cases hv
    obtain ⟨k1, k2, k3⟩ := vx_keep h0 e1 hS hA hf hL hF
    obtain ⟨t2, a1, b1⟩ := kk u t T'.heap (locs ++ L) e1.symm (by rw [← e2]; exact X'.warmed.alike) hp hb k1 k2 k3 T' rfl X'
    exact ⟨t2, st t2 a1, b1⟩
  · obtain ⟨k1, k2, k3⟩ := vx_keep h0 e1 hS hAX hf hL hF
    obtain ⟨t2, a1, b1⟩ := kx E ce q u t T'.heap (locs ++ L) e1.symm (by rw [← e2]; exact X'.warmed.alike) hp hb k1 k2 k3 (by rw [e1]; exact hce) hcv hcl T' rfl X'
    exact ⟨t2, st.trans a1, b1⟩
/-- caught by the row x of this method's table; the rows ahead don't take it -/
theorem vx_catch {own name : String} {E : String} {ce : Cell} {q : Addr} (hown : s.vm.findClass own = some m.cls) (pre : List ExceptionTableEntry) (x : ExceptionTableEntry) (suf : List ExceptionTableEntry) (hsplit : c.exceptionTable.toList = pre ++ x :: suf)
    (hpass : ∀ z ∈ pre, covers z pc = false ∨ (z.catchType ≠ 0 ∧ ∃ nm : String, (Cond.classLink own z.catchType nm).before args s = true ∧ va_Nc E nm s)) (hx : covers x pc = true) (h0 : x.catchType ≠ 0)
    (hlink : (Cond.classLink own x.catchType name).before args s = true) (hcast : (Cond.castable E name).before args s = true) (hcell : H[q]? = some ce) (hv : ce.vm = .none) (hcl : s.vm.findClass E = some ce.cls)
    (kk : W p l e R s m args below meth c H locs cells slots Q (F0 m x.handlerPc ls [.ref q])) : vx_W p l e R s m args below meth c H locs cells slots Q (F0 m pc ls rest) q := by
  intro T hT X
  have hpl : e.platform.magicAccessors = ({} : Platform).magicAccessors := by rw [X.admits.platform]
  obtain ⟨c3, c4, hc3, hc4, hasg⟩ := Cond.castable_spec hcast
  cases Option.some.inj (hc3.symm.trans hcl)
  obtain ⟨c5, hc5, hcl5⟩ := Cond.classLink_spec hown hlink e.platform hpl
  cases Option.some.inj (hc4.symm.trans hc5)
  obtain ⟨vm', X', st⟩ := X.thenCaughtThrough q (g := F0 m pc ls rest) rfl (Steps.refl _) (by rw [hT]; exact hcell) (by rw [hv]; rfl) (by obtain ⟨k9, h9, -⟩ := Vm.findClass_spec hcl; exact ⟨k9, h9⟩) pre x suf hsplit
    (fun z hz => by
      rcases hpass z hz with h | ⟨hz0, nm, hl1, hn1⟩
      · exact Or.inl h
      · obtain ⟨c6, hc6, hcl6⟩ := Cond.classLink_spec hown hl1 e.platform hpl
        obtain ⟨a8, b8, h1, h2, h3⟩ := hn1
        cases Option.some.inj (h1.symm.trans hcl)
        cases Option.some.inj (h2.symm.trans hc6)
        exact Or.inr ⟨hz0, _, hcl6, h3⟩) hx (Or.inr ⟨h0, c4, hcl5, hasg⟩)
  obtain ⟨t, a1, b1⟩ := kk (T.setVm vm') hT X'
  exact ⟨t, st.trans a1, b1⟩
end Rows
section Ends
variable {p : Program} {l : Launch} {e : Env} {R : Room} {s : State} {m : MethodId} {args : Array Value} {below : List Frame} {meth : Method} {c : Code} {H : Heap} {locs : List Loc} {cells slots : Nat} {Q : State → Prop}
variable {mc ms : Nat} {free : Addr → Prop} {A0 A1 : Nat → Prop} {H0 : Heap} {a : Array Value} {ls : Array Slot} {st0 rest : List Value}
variable {Qc : Array Value → State → Outcome → State → Prop} {XC : String → State → State → Prop}
/-- what a body that may throw owes at its end -/
def vx_MQ (below : List Frame) (Qc : Array Value → State → Outcome → State → Prop) (XC : String → State → State → Prop) (a : Array Value) (s : State) (mc ms : Nat) (free : Addr → Prop) : State → Prop := fun t =>
  ∃ o, t.status = .running ∧ Ended t below o ∧ vx_Q Qc XC mc ms free a s o t
theorem vx_ret {g : JFrame} {mc ms : Nat} (k : W p l e R s m args below meth c H locs cells slots (MQ below Qc args s mc ms free) g) : W p l e R s m args below meth c H locs cells slots (vx_MQ below Qc XC args s mc ms free) g := by
  intro T hT X
  obtain ⟨t, a1, o, b1, b2, b3, b4⟩ := k T hT X
  exact ⟨t, a1, o, b1, b2, Or.inl ⟨b3, b4⟩⟩
/-- not caught here: it goes on to the caller -/
theorem vx_widen {g : JFrame} {q : Addr} {k n : Nat} (h1 : cells ≤ k) (h2 : slots ≤ n) (kk : vx_W p l e R s m args below meth c H locs k n Q g q) : vx_W p l e R s m args below meth c H locs cells slots Q g q := fun T hT X => kk T hT (stand_widen X h1 h2)
theorem vx_out {pc : Nat} {E : String} {ce : Cell} {q : Addr} {mc ms : Nat} (hout : ∀ x ∈ c.exceptionTable.toList, covers x pc = false) (hlocks : meth.locks = false) (hcell : H[q]? = some ce) (hv : ce.vm = .none) (hcl : s.vm.findClass E = some ce.cls)
    (hx : ∀ t : State, t.heap = H → s.vm.Alike t.vm → XC E s t) (hf : ∀ z ∈ locs, free z.base) (hc : cells ≤ mc) (hs : slots ≤ ms) :
    vx_W p l e R s m args below meth c H locs cells slots (vx_MQ below Qc XC args s mc ms free) (F0 m pc ls rest) q := by
  intro T hT X
  obtain ⟨st1, hrun, hend, hW, hsm⟩ := X.leaveThrown q (g := F0 m pc ls rest) rfl rfl rfl hout hlocks
  have hcell9 : (T.setFrames (.throwing q :: below)).heap[q]? = some ce := by
    show T.heap[q]? = some ce
    rw [hT]; exact hcell
  exact ⟨_, st1, .threw q, hrun, hend, Or.inr ⟨q, rfl, E, ce, locs, hx _ hT hW.alike, hcell9, hv, hcl, hW, hsm.mono hc hs, hf⟩⟩
theorem vx_frame {U : State} {k n : Nat} (h : s.sameButNew ({ U with vm := s.vm } : State) locs k n) : s.heap.size ≤ U.heap.size ∧ ∀ q : Nat, q < s.heap.size → (∀ z ∈ locs, z.base ≠ q) → U.heap[q]? = s.heap[q]? := by
  obtain ⟨-, h2, -, -, -, h6⟩ := h
  refine ⟨h2, fun q hq hz => ?_⟩
  obtain ⟨c9, e1, e2, e3, e4⟩ := h6 q _ (Array.getElem?_eq_getElem hq)
  have hs : c9.slots = (s.heap[q]).slots := Array.ext_getElem? fun i => e4 i fun hm => hz _ hm rfl
  have h9 : c9 = s.heap[q] := by
    rw [hs] at e2
    exact e2
  have e5 : U.heap[q]? = some c9 := e1
  rw [e5, h9, Array.getElem?_eq_getElem hq]
/-- the words of a throw but the four that speak of the heap -/
def vx_no (w : Cond) : Bool := decide (w ≠ .isRef (.static Bundle.tN "UNASSIGNED_STACK" Bundle.steD)) && decide (w ≠ .isRef (.static Bundle.tN "SUPPRESSED_SENTINEL" Bundle.listD)) && decide (w ≠ .laysStatic Bundle.tN "UNASSIGNED_STACK" Bundle.steD) && decide (w ≠ .laysStatic Bundle.tN "SUPPRESSED_SENTINEL" Bundle.listD)
def vx_at0 (own : String) (ic : Nat) (X : String) (names : List String) : List Cond := (Bundle.ownAtoms0 own ic X names).filter vx_no
def vx_atS (own : String) (ic : Nat) (X : String) (names : List String) : List Cond := (Bundle.ownAtoms own ic X names).filter vx_no
/-- a word that the tables alone decide, or a good one -/
def vx_ot (w : Cond) : Bool := w.onTables || goodWord w
theorem vx_ot_at {args a' : Array Value} {s U : State} {w : Cond} (hW : s.WarmedH U.vm) (hvm : s.vm = U.vm) (hg : vx_ot w = true) (h : w.before args s = true) : w.before a' U = true := by
  simp only [vx_ot, Bool.or_eq_true] at hg
  rcases hg with hg | hg
  · exact va_tabs hg hvm h
  · exact word_at hW (good_of_word hg) h
/-- a list's words: the good ones out of the method's own list, the others by premises of their own -/
theorem vx_hat {args : Array Value} {s : State} {L B : List Cond} (h1 : ∀ w ∈ L.filter goodWord, w.before args s = true) (h2 : ∀ w ∈ L.filter (fun w => !goodWord w), w ∈ B) (h3 : ∀ w ∈ B, w.before args s = true) : ∀ w ∈ L, w.before args s = true := by
  intro w hw
  by_cases g : goodWord w = true
  · exact h1 w (List.mem_filter.mpr ⟨hw, g⟩)
  · refine h3 w (h2 w (List.mem_filter.mpr ⟨hw, ?_⟩))
    show (!goodWord w) = true
    cases hgw : goodWord w
    · rfl
    · exact absurd hgw g
theorem vx_c {args : Array Value} {s : State} {w : Cond} {B : List Cond} (h : w.before args s = true) (t : ∀ w ∈ B, w.before args s = true) : ∀ w' ∈ w :: B, w'.before args s = true := fun w' h' => (List.mem_cons.mp h').elim (fun e => by rw [e]; exact h) (t w')
theorem vx_n {args : Array Value} {s : State} : ∀ w ∈ ([] : List Cond), w.before args s = true := fun _ h => nomatch h
theorem vx_own {args : Array Value} {s : State} {L : List Cond} (h1 : ∀ w ∈ L.filter vx_no, w.before args s = true)
    (hU : (Cond.isRef (.static Bundle.tN "UNASSIGNED_STACK" Bundle.steD)).before args s = true) (hN : (Cond.isRef (.static Bundle.tN "SUPPRESSED_SENTINEL" Bundle.listD)).before args s = true)
    (lU : (Cond.laysStatic Bundle.tN "UNASSIGNED_STACK" Bundle.steD).before args s = true) (lN : (Cond.laysStatic Bundle.tN "SUPPRESSED_SENTINEL" Bundle.listD).before args s = true) : ∀ w ∈ L, w.before args s = true := by
  intro w hw
  by_cases e1 : w = .isRef (.static Bundle.tN "UNASSIGNED_STACK" Bundle.steD)
  · rw [e1]; exact hU
  · by_cases e2 : w = .isRef (.static Bundle.tN "SUPPRESSED_SENTINEL" Bundle.listD)
    · rw [e2]; exact hN
    · by_cases e3 : w = .laysStatic Bundle.tN "UNASSIGNED_STACK" Bundle.steD
      · rw [e3]; exact lU
      · by_cases e4 : w = .laysStatic Bundle.tN "SUPPRESSED_SENTINEL" Bundle.listD
        · rw [e4]; exact lN
        · exact h1 w (List.mem_filter.mpr ⟨hw, by unfold vx_no; rw [decide_eq_true e1, decide_eq_true e2, decide_eq_true e3, decide_eq_true e4]; rfl⟩)
/-- where a static field lies, its class's statics cell in H -/
def vx_L (C n d : String) (A : Nat → Prop) (U : State) (H : Heap) : Prop := ∃ (c : ClassId) (k : Class) (i : Nat) (f : Field) (a : Nat) (cell : Cell), U.vm.findClass C = some c ∧ U.fieldFound? C n d = some (c, k, i, f) ∧ f.isStatic = true ∧ k.statics = some a ∧ H[a]? = some cell ∧ cell.vm.isStatics = true ∧ cell.cls = c ∧ f.slot < cell.slots.size ∧ k.staticTypes[f.slot]? = some f.type ∧ ¬ A a
theorem vx_L.moved {C n d : String} {A : Nat → Prop} {u U : State} {H : Heap} (hvm : u.vm.Alike U.vm) (h : vx_L C n d A u H) : vx_L C n d A U H := by
  obtain ⟨c, k, i, f, a, cell, h1, h2, h3, h4, h5, h6, h7, h8, h9, h10⟩ := h
  obtain ⟨k', hi', he⟩ := State.fieldFound?_setVm hvm h2
  exact ⟨c, k', i, f, a, cell, by rw [hvm.findClass]; exact h1, hi', h3, by rw [he]; exact h4, h5, h6, h7, h8, by rw [he]; exact h9, h10⟩
theorem vx_L.kept {C n d : String} {A : Nat → Prop} {U : State} {H H1 : Heap} (h : vx_L C n d A U H) (hq : ∀ a : Nat, a < H.size → ¬ A a → H1[a]? = H[a]?) : vx_L C n d A U H1 := by
  obtain ⟨c, k, i, f, a, cell, h1, h2, h3, h4, h5, h6, h7, h8, h9, h10⟩ := h
  exact ⟨c, k, i, f, a, cell, h1, h2, h3, h4, by rw [hq a (Array.getElem?_eq_some_iff.mp h5).1 h10]; exact h5, h6, h7, h8, h9, h10⟩
theorem vx_L.narrow {C n d : String} {A B : Nat → Prop} {U : State} {H : Heap} (h : vx_L C n d A U H) (hAB : ∀ q, B q → A q) : vx_L C n d B U H := by
  obtain ⟨c, k, i, f, a, cell, h1, h2, h3, h4, h5, h6, h7, h8, h9, h10⟩ := h
  exact ⟨c, k, i, f, a, cell, h1, h2, h3, h4, h5, h6, h7, h8, h9, fun z => h10 (hAB _ z)⟩
theorem vx_L.word {C n d : String} {A : Nat → Prop} {s : State} {args : Array Value} (h : vx_L C n d A s s.heap) : (Cond.laysStatic C n d).before args s = true := by
  obtain ⟨c, k, i, f, a, cell, h1, h2, h3, h4, h5, h6, h7, h8, h9, -⟩ := h
  show (Cond.laysStatic C n d).holds args s none s [] = true
  exact Cond.laysStatic_of h1 h2 h3 h4 h5 h6 h7 h8 h9
/-- .. and what it holds: null or some reference -/
def vx_Zq (C n d : String) (A : Nat → Prop) (U : State) (H : Heap) : Prop := va_Zq C n d A U H ∧ vx_L C n d A U H
theorem vx_Zq.moved {C n d : String} {A : Nat → Prop} {u U : State} {H : Heap} (hvm : u.vm.Alike U.vm) (h : vx_Zq C n d A u H) : vx_Zq C n d A U H := ⟨va_Zq.moved hvm h.1, vx_L.moved hvm h.2⟩
theorem vx_Zq.kept {C n d : String} {A : Nat → Prop} {U : State} {H H1 : Heap} (h : vx_Zq C n d A U H) (hq : ∀ a : Nat, a < H.size → ¬ A a → H1[a]? = H[a]?) : vx_Zq C n d A U H1 := ⟨va_Zq.kept h.1 hq, vx_L.kept h.2 hq⟩
theorem vx_Zq.narrow {C n d : String} {A B : Nat → Prop} {U : State} {H : Heap} (h : vx_Zq C n d A U H) (hAB : ∀ q, B q → A q) : vx_Zq C n d B U H := ⟨va_Zq.narrow h.1 hAB, vx_L.narrow h.2 hAB⟩
theorem vx_Zqof {args : Array Value} {s : State} {C n d : String} {A : Nat → Prop} (hl : (Cond.laysStatic C n d).before args s = true) (hini : (Cond.initialized C).before args s = true) (h : (Cond.isRef (.static C n d)).before args s = true) (hA : ∀ a : Nat, a < s.heap.size → ¬ A a) : vx_Zq C n d A s s.heap := by
  refine ⟨va_Zqof hl hini h hA, ?_⟩
  obtain ⟨c, k, i, f, a, cell, h1, h2, h3, h4, h5, h6, h7, h8, h9⟩ := Cond.laysStatic_spec hl
  exact ⟨c, k, i, f, a, cell, h1, h2, h3, h4, h5, h6, h7, h8, h9, hA a (Array.getElem?_eq_some_iff.mp h5).1⟩
theorem vx_isRef {C n d : String} {v : Value} {A : Nat → Prop} {s : State} {args : Array Value} (h : va_Z C n d v A s s.heap) (hv : v.isRef = true) : (Cond.isRef (.static C n d)).before args s = true := by
  obtain ⟨cf, kf, fi, f, a, cell, h1, h2, h3, h4, h5, h6, h7, -⟩ := h
  have he : (Term.static C n d).eval args s none [] s = some v := by
    simp [Term.eval, State.fieldNamed?, h1, h2, h4, h5, h6, h7]
  simp only [Cond.before, Cond.holds, Cond.value, he]
  cases v <;> simp_all [Value.isRef]
theorem vx_isRefq {C n d : String} {A : Nat → Prop} {s : State} {args : Array Value} (h : va_Zq C n d A s s.heap) : (Cond.isRef (.static C n d)).before args s = true := by
  rcases h with h | ⟨t, h⟩
  · exact vx_isRef h rfl
  · exact vx_isRef h rfl
/-- the same frame, seen from here: as if the method were called anew in this heap -/
theorem vx_rebase {T : State} (X : Stand p l e R s m args below meth c T locs cells slots) {R' : Room} (hf : R'.frames ≤ R.frames) (hl : R'.locals ≤ R.locals) (hc : cells + R'.cells ≤ R.cells) (hs : slots + R'.slots ≤ R.slots) :
    Stand p l e R' ((T.setVm s.vm).setFrames (.invoking m args :: below)) m args below meth c T [] 0 0 := by
  have htop : (T.setVm s.vm).topJava?.isSome := X.here.top
  have hF : ((T.setVm s.vm).setFrames (.invoking m args :: below)).frames = .invoking m args :: below := State.frames_setFrames _ (State.cur_lt_of_top htop)
  obtain ⟨g₀, hg0⟩ := Option.isSome_iff_exists.mp htop
  obtain ⟨r, hr⟩ := State.topJava?_eq_some.mp hg0
  have hl9 : e.platform.stackLimits (T.setVm s.vm).me = e.platform.stackLimits s.me := X.limits
  have hb9 : (T.setVm s.vm).me.stackBytes = s.me.stackBytes := X.bytes
  refine ⟨X.admits, X.cas, X.clock, hF, ?_, X.hears, X.method, X.code, X.here, X.tail, X.warmed, ?_, ?_, ?_⟩
  · have h := X.room
    have hU : ((T.setVm s.vm).setFrames (.invoking m args :: below)).localsInUse = s.localsInUse := by
      rw [State.localsInUse_invoking hF (meth := meth) (c := c) X.method X.code, State.localsInUse_invoking X.frames X.method X.code]
    simp only [State.hasRoom, Bool.and_eq_true, decide_eq_true_eq] at h ⊢
    obtain ⟨⟨⟨⟨h1, h2, h3, h4, h5, h6⟩, h7⟩, h8⟩, h9⟩ := h
    rw [X.frames, List.length_cons] at h2 h3
    have q1 := X.heapSize
    have q2 := X.used
    simp only [hF, hU, List.length_cons, State.stackLimits_setFrames, State.stackBytes_setFrames, hl9, hb9]
    refine ⟨⟨⟨⟨by omega, by omega, by omega, by omega, by omega, h6⟩, ?_⟩, ?_⟩, X.book⟩
    · show T.heap.size + R'.cells ≤ e.platform.maxCells
      omega
    · show T.slotsUsed + R'.slots ≤ e.platform.maxSlots
      omega
  · rw [State.stackLimits_setFrames]; rfl
  · rw [State.stackBytes_setFrames]; rfl
  · refine ⟨?_, Nat.le_refl _, Nat.le_refl _, ?_, ?_, fun a c9 h9 => ⟨c9, h9, rfl, rfl, fun _ _ => rfl⟩⟩
    · obtain ⟨t, ht, -⟩ := State.frames_cons hr
      show T.setVm s.vm = { ((T.setVm s.vm).setFrames (.invoking m args :: below)).setFrames (T.setVm s.vm).frames with heap := T.heap, slotsUsed := T.slotsUsed }
      rw [State.setFrames_setFrames, State.setFrames_self ht]
      rfl
    · show T.slotsUsed = T.slotsUsed + ((T.heap.toList.drop T.heap.size).map (·.slots.size)).sum
      rw [List.drop_eq_nil_of_le (Nat.le_of_eq Array.length_toList)]
      rfl
    · show ((T.heap.toList.drop T.heap.size).map (·.slots.size)).sum ≤ 0
      rw [List.drop_eq_nil_of_le (Nat.le_of_eq Array.length_toList)]
      exact Nat.le_refl _
/-- 'throw new E()': new; dup; invokespecial; athrow -/
theorem vx_throw0 {cc : ByteArray} {pc : Nat} (hexec : p.tables.exec = Jvm.exec) (hb : c.code = cc) (hl : l.stackTraces = false) {own cls : String} {names : List String} {ik ic mc ms : Nat} {A : Nat → Prop}
    (hown : s.vm.findClass own = some m.cls) (hcls : Bundle.fit cls = true) (hnames : ∀ n ∈ names, Bundle.fit n = true)
    (hk : (Cond.classLink own ik cls).before args s = true) (hini : (Cond.initialized cls).before args s = true) (hat : ∀ w ∈ vx_at0 own ic cls names, w.before args s = true)
    (hgood : ∀ w ∈ Cond.classLink own ik cls :: Cond.initialized cls :: vx_at0 own ic cls names, vx_ot w = true)
    (hU : vx_Zq Bundle.tN "UNASSIGNED_STACK" Bundle.steD A s s.heap) (hN : vx_Zq Bundle.tN "SUPPRESSED_SENTINEL" Bundle.listD A s s.heap) (hS : va_S A s.heap H locs) (hsize : ls.size = c.maxLocals)
    (d0 : decode cc pc = .ok (.new ik, 3)) (d3 : decode cc (pc + 3) = .ok (.dup, 1)) (d4 : decode cc (pc + 4) = .ok (.invokespecial ic, 3)) (d7 : decode cc (pc + 7) = .ok (.athrow, 1))
    (hout : ∀ x ∈ c.exceptionTable.toList, covers x (pc + 7) = false)
    (hRframes : names.length + 3 < R.frames) (hRlocals : (rest.map fun v => v.category).sum + (13 * (names.length + 1) + 42) ≤ R.locals) (hRcells : cells + 1 ≤ R.cells) (hRslots : slots + 6 ≤ R.slots) (hlocks : meth.locks = false)
    (hx : ∀ t : State, s.vm.Alike t.vm → H.size ≤ t.heap.size → (∀ q : Nat, q < H.size → t.heap[q]? = H[q]?) → XC cls s t)
    (hf : ∀ z ∈ locs, free z.base) (hc : cells + 1 ≤ mc) (hs : slots + 6 ≤ ms) :
    W p l e R s m args below meth c H locs cells slots (vx_MQ below Qc XC args s mc ms free) (F0 m pc ls rest) := by
  intro T hT X
  have htr : e.platform.stackTraces = false := (show e.platform.stackTraces = l.stackTraces by rw [X.admits.platform]).trans hl
  have Y := vx_rebase X (R' := { frames := R.frames, locals := R.locals, cells := 1, slots := 6 }) (Nat.le_refl _) (Nat.le_refl _) hRcells hRslots
  obtain ⟨s', hA⟩ : ∃ z, z = (T.setVm s.vm).setFrames (.invoking m args :: below) := ⟨_, rfl⟩
  rw [← hA] at Y
  have hvm : s'.vm = s.vm := by rw [hA]; rfl
  have hhp : s'.heap = H := by rw [hA]; exact hT
  have hW0 : s.WarmedH s'.vm := by rw [hvm]; exact State.WarmedH.refl s
  have hat' : ∀ w ∈ vx_at0 own ic cls names, w.before args s' = true := fun w hw => vx_ot_at hW0 hvm.symm (hgood w (List.mem_cons_of_mem _ (List.mem_cons_of_mem _ hw))) (hat w hw)
  have hk' : (Cond.classLink own ik cls).before args s' = true := vx_ot_at hW0 hvm.symm (hgood _ List.mem_cons_self) hk
  have hini' : (Cond.initialized cls).before args s' = true := vx_ot_at hW0 hvm.symm (hgood _ (List.mem_cons_of_mem _ List.mem_cons_self)) hini
  have hU' : vx_Zq Bundle.tN "UNASSIGNED_STACK" Bundle.steD A s' s'.heap := by rw [hhp]; exact vx_Zq.moved hW0.alike (hU.kept hS.2.1)
  have hN' : vx_Zq Bundle.tN "SUPPRESSED_SENTINEL" Bundle.listD A s' s'.heap := by rw [hhp]; exact vx_Zq.moved hW0.alike (hN.kept hS.2.1)
  have h : ∀ w ∈ Bundle.ownAtoms0 own ic cls names, w.before args s' = true := vx_own hat' (vx_isRefq hU'.1) (vx_isRefq hN'.1) hU'.2.word hN'.2.word
  have hown' : s'.vm.findClass own = some m.cls := by rw [hvm]; exact hown
  have hins : (Cond.instantiable cls 6).before args s' = true := h _ (by simp [Bundle.ownAtoms0])
  obtain ⟨vm₁, cX, kX, hfX, hkX, -, -, X₁, st1⟩ := Y.newCold hexec (own := own) (C := cls) (index := ik) (n := 6) hown' hk' hins hini'
    (g := F0 m pc ls rest) rfl (by rw [hb]; exact d0) (Nat.le_refl _) (Nat.le_refl _)
  generalize hT1 : (T.setVm vm₁).pushCell { cls := cX, slots := kX.instanceTypes.map defaultValue, vm := .none } = T1 at X₁ st1
  have hcat : (Value.ref T.heap.size).category = 1 := rfl
  have hcellA : T1.heap[T.heap.size]? = some (freshCell cX kX) := by rw [← hT1]; exact State.heap_pushCell_size _ _
  have d3' : decode c.code (pc + 3) = .ok (.dup, 1) := by rw [hb]; exact d3
  obtain ⟨U, hsteps, hrun, hend, hW, hsame, ce, hce, hO⟩ := X₁.ctorThrow0 hexec htr (own := own) (cls := cls) (names := names) (ic := ic) hown' hcls hnames h (fun x hx => nomatch hx) hfX hkX hcellA (by rw [hhp, hT]; exact Nat.le_refl _)
    (g := { method := m, pc := pc + 4, locals := ls, stack := .ref T.heap.size :: .ref T.heap.size :: rest, locked := none }) rfl hsize rfl rfl (rest := rest) rfl
    (by rw [hb]; exact d4) (by rw [hb]; exact d7) hout hRframes (by simp only [List.map_cons, List.sum_cons, hcat]; omega) hlocks
  obtain ⟨f1, f2⟩ := vx_frame hsame
  rw [hhp] at f1 f2
  have hWs : s.WarmedH U.vm := State.WarmedH.trans hW0 hW
  have hcl : s.vm.findClass cls = some ce.cls := by
    have h9 := hO.cls
    rw [hvm] at h9
    exact h9
  have hall : s.sameButNew ({ U with vm := s.vm } : State) locs mc ms := by
    subst hA
    obtain ⟨e1, e2⟩ := hsame
    rw [State.setFrames_setFrames] at e1
    have h2 : (T.setVm s.vm).sameButNew ({ U with vm := s.vm } : State) [] (0 + 1) (0 + 6) := ⟨e1, e2⟩
    have h3 := X.same.trans h2
    rw [List.append_nil] at h3
    exact h3.mono hc hs
  refine ⟨U, ?_, .threw T.heap.size, hrun, hend, Or.inr ⟨T.heap.size, rfl, cls, ce, locs, hx U hWs.alike f1 (fun q hq => f2 q hq (fun z hz => nomatch hz)), hce, hO.vm, hcl, hWs, hall, hf⟩⟩
  refine st1 _ ?_
  show Steps p.tables e below (T1.setTop { method := m, pc := pc + 3, locals := ls, stack := .ref T.heap.size :: rest, locked := none }) _
  jvm_step X₁.here [X₁.here.top, hexec, d3', Value.category]
  exact hsteps
/-- 'throw new E("text")': new; dup; ldc; invokespecial; athrow -/
theorem vx_throwS {cc : ByteArray} {pc : Nat} (hexec : p.tables.exec = Jvm.exec) (hb : c.code = cc) (hl : l.stackTraces = false) {own cls text : String} {names : List String} {ik is ic mc ms sa : Nat} {A : Nat → Prop}
    (hown : s.vm.findClass own = some m.cls) (hcls : Bundle.fit cls = true) (hnames : ∀ n ∈ names, Bundle.fit n = true)
    (hk : (Cond.classLink own ik cls).before args s = true) (hini : (Cond.initialized cls).before args s = true) (hstr : vk_R own is text sa s) (hat : ∀ w ∈ vx_atS own ic cls names, w.before args s = true)
    (hgood : ∀ w ∈ Cond.classLink own ik cls :: Cond.initialized cls :: vx_atS own ic cls names, vx_ot w = true)
    (hU : vx_Zq Bundle.tN "UNASSIGNED_STACK" Bundle.steD A s s.heap) (hN : vx_Zq Bundle.tN "SUPPRESSED_SENTINEL" Bundle.listD A s s.heap) (hS : va_S A s.heap H locs) (hsize : ls.size = c.maxLocals)
    (d0 : decode cc pc = .ok (.new ik, 3)) (d3 : decode cc (pc + 3) = .ok (.dup, 1)) (d4 : decode cc (pc + 4) = .ok (.ldc is, 2)) (d6 : decode cc (pc + 6) = .ok (.invokespecial ic, 3)) (d9 : decode cc (pc + 9) = .ok (.athrow, 1))
    (hout : ∀ x ∈ c.exceptionTable.toList, covers x (pc + 9) = false)
    (hRframes : names.length + 3 < R.frames) (hRlocals : (rest.map fun v => v.category).sum + (13 * (names.length + 1) + 43) ≤ R.locals) (hRcells : cells + 1 ≤ R.cells) (hRslots : slots + 6 ≤ R.slots) (hlocks : meth.locks = false)
    (hx : ∀ t : State, s.vm.Alike t.vm → H.size ≤ t.heap.size → (∀ q : Nat, q < H.size → t.heap[q]? = H[q]?) → XC cls s t)
    (hf : ∀ z ∈ locs, free z.base) (hc : cells + 1 ≤ mc) (hs : slots + 6 ≤ ms) :
    W p l e R s m args below meth c H locs cells slots (vx_MQ below Qc XC args s mc ms free) (F0 m pc ls rest) := by
  intro T hT X
  have htr : e.platform.stackTraces = false := (show e.platform.stackTraces = l.stackTraces by rw [X.admits.platform]).trans hl
  have Y := vx_rebase X (R' := { frames := R.frames, locals := R.locals, cells := 1, slots := 6 }) (Nat.le_refl _) (Nat.le_refl _) hRcells hRslots
  obtain ⟨s', hA⟩ : ∃ z, z = (T.setVm s.vm).setFrames (.invoking m args :: below) := ⟨_, rfl⟩
  rw [← hA] at Y
  have hvm : s'.vm = s.vm := by rw [hA]; rfl
  have hhp : s'.heap = H := by rw [hA]; exact hT
  have hW0 : s.WarmedH s'.vm := by rw [hvm]; exact State.WarmedH.refl s
  have hat' : ∀ w ∈ vx_atS own ic cls names, w.before args s' = true := fun w hw => vx_ot_at hW0 hvm.symm (hgood w (List.mem_cons_of_mem _ (List.mem_cons_of_mem _ hw))) (hat w hw)
  have hk' : (Cond.classLink own ik cls).before args s' = true := vx_ot_at hW0 hvm.symm (hgood _ List.mem_cons_self) hk
  have hini' : (Cond.initialized cls).before args s' = true := vx_ot_at hW0 hvm.symm (hgood _ (List.mem_cons_of_mem _ List.mem_cons_self)) hini
  have hU' : vx_Zq Bundle.tN "UNASSIGNED_STACK" Bundle.steD A s' s'.heap := by rw [hhp]; exact vx_Zq.moved hW0.alike (hU.kept hS.2.1)
  have hN' : vx_Zq Bundle.tN "SUPPRESSED_SENTINEL" Bundle.listD A s' s'.heap := by rw [hhp]; exact vx_Zq.moved hW0.alike (hN.kept hS.2.1)
  have h : ∀ w ∈ Bundle.ownAtoms own ic cls names, w.before args s' = true := vx_own hat' (vx_isRefq hU'.1) (vx_isRefq hN'.1) hU'.2.word hN'.2.word
  have hown' : s'.vm.findClass own = some m.cls := by rw [hvm]; exact hown
  have hins : (Cond.instantiable cls 6).before args s' = true := h _ (by simp [Bundle.ownAtoms])
  obtain ⟨vm₁, cX, kX, hfX, hkX, -, -, X₁, st1⟩ := Y.newCold hexec (own := own) (C := cls) (index := ik) (n := 6) hown' hk' hins hini'
    (g := F0 m pc ls rest) rfl (by rw [hb]; exact d0) (Nat.le_refl _) (Nat.le_refl _)
  generalize hT1 : (T.setVm vm₁).pushCell { cls := cX, slots := kX.instanceTypes.map defaultValue, vm := .none } = T1 at X₁ st1
  have hcat : (Value.ref T.heap.size).category = 1 := rfl
  have hcellA : T1.heap[T.heap.size]? = some (freshCell cX kX) := by rw [← hT1]; exact State.heap_pushCell_size _ _
  have d3' : decode c.code (pc + 3) = .ok (.dup, 1) := by rw [hb]; exact d3
  have d4' : decode c.code (pc + 4) = .ok (.ldc is, 2) := by rw [hb]; exact d4
  have hstr' : vk_R own is text sa s' := vk_R.warm hW0 hstr
  obtain ⟨U, hsteps, hrun, hend, hW, hsame, ce, hce, hO⟩ := X₁.ctorThrowS hexec htr (own := own) (cls := cls) (names := names) (ic := ic) hown' hcls hnames h (fun x hx => nomatch hx) hfX hkX hcellA (by rw [hhp, hT]; exact Nat.le_refl _) (msg := .ref sa) rfl
    (g := { method := m, pc := pc + 6, locals := ls, stack := .ref sa :: .ref T.heap.size :: .ref T.heap.size :: rest, locked := none }) rfl hsize rfl rfl (rest := rest) rfl
    (by rw [hb]; exact d6) (by rw [hb]; exact d9) hout hRframes (by simp only [List.map_cons, List.sum_cons, hcat]; omega) hlocks
  obtain ⟨f1, f2⟩ := vx_frame hsame
  rw [hhp] at f1 f2
  have hWs : s.WarmedH U.vm := State.WarmedH.trans hW0 hW
  have hcl : s.vm.findClass cls = some ce.cls := by
    have h9 := hO.cls
    rw [hvm] at h9
    exact h9
  have hall : s.sameButNew ({ U with vm := s.vm } : State) locs mc ms := by
    subst hA
    obtain ⟨e1, e2⟩ := hsame
    rw [State.setFrames_setFrames] at e1
    have h2 : (T.setVm s.vm).sameButNew ({ U with vm := s.vm } : State) [] (0 + 1) (0 + 6) := ⟨e1, e2⟩
    have h3 := X.same.trans h2
    rw [List.append_nil] at h3
    exact h3.mono hc hs
  refine ⟨U, ?_, .threw T.heap.size, hrun, hend, Or.inr ⟨T.heap.size, rfl, cls, ce, locs, hx U hWs.alike f1 (fun q hq => f2 q hq (fun z hz => nomatch hz)), hce, hO.vm, hcl, hWs, hall, hf⟩⟩
  refine st1 _ ?_
  show Steps p.tables e below (T1.setTop { method := m, pc := pc + 3, locals := ls, stack := .ref T.heap.size :: rest, locked := none }) _
  jvm_step X₁.here [X₁.here.top, hexec, d3', Value.category]
  exact X₁.ldcString hexec (own := own) (text := text) (index := is) (a := sa) hown' hstr'.1 hstr'.2
    (g := { method := m, pc := pc + 4, locals := ls, stack := .ref T.heap.size :: .ref T.heap.size :: rest, locked := none }) rfl d4' _ hsteps
/-- 'throw new E("text")', the text by a wide index -/
theorem vx_throwSW {cc : ByteArray} {pc : Nat} (hexec : p.tables.exec = Jvm.exec) (hb : c.code = cc) (hl : l.stackTraces = false) {own cls text : String} {names : List String} {ik is ic mc ms sa : Nat} {A : Nat → Prop}
    (hown : s.vm.findClass own = some m.cls) (hcls : Bundle.fit cls = true) (hnames : ∀ n ∈ names, Bundle.fit n = true)
    (hk : (Cond.classLink own ik cls).before args s = true) (hini : (Cond.initialized cls).before args s = true) (hstr : vk_R own is text sa s) (hat : ∀ w ∈ vx_atS own ic cls names, w.before args s = true)
    (hgood : ∀ w ∈ Cond.classLink own ik cls :: Cond.initialized cls :: vx_atS own ic cls names, vx_ot w = true)
    (hU : vx_Zq Bundle.tN "UNASSIGNED_STACK" Bundle.steD A s s.heap) (hN : vx_Zq Bundle.tN "SUPPRESSED_SENTINEL" Bundle.listD A s s.heap) (hS : va_S A s.heap H locs) (hsize : ls.size = c.maxLocals)
    (d0 : decode cc pc = .ok (.new ik, 3)) (d3 : decode cc (pc + 3) = .ok (.dup, 1)) (d4 : decode cc (pc + 4) = .ok (.ldc_w is, 3)) (d7 : decode cc (pc + 7) = .ok (.invokespecial ic, 3)) (d10 : decode cc (pc + 10) = .ok (.athrow, 1))
    (hout : ∀ x ∈ c.exceptionTable.toList, covers x (pc + 10) = false)
    (hRframes : names.length + 3 < R.frames) (hRlocals : (rest.map fun v => v.category).sum + (13 * (names.length + 1) + 43) ≤ R.locals) (hRcells : cells + 1 ≤ R.cells) (hRslots : slots + 6 ≤ R.slots) (hlocks : meth.locks = false)
    (hx : ∀ t : State, s.vm.Alike t.vm → H.size ≤ t.heap.size → (∀ q : Nat, q < H.size → t.heap[q]? = H[q]?) → XC cls s t)
    (hf : ∀ z ∈ locs, free z.base) (hc : cells + 1 ≤ mc) (hs : slots + 6 ≤ ms) :
    W p l e R s m args below meth c H locs cells slots (vx_MQ below Qc XC args s mc ms free) (F0 m pc ls rest) := by
  intro T hT X
  have htr : e.platform.stackTraces = false := (show e.platform.stackTraces = l.stackTraces by rw [X.admits.platform]).trans hl
  have Y := vx_rebase X (R' := { frames := R.frames, locals := R.locals, cells := 1, slots := 6 }) (Nat.le_refl _) (Nat.le_refl _) hRcells hRslots
  obtain ⟨s', hA⟩ : ∃ z, z = (T.setVm s.vm).setFrames (.invoking m args :: below) := ⟨_, rfl⟩
  rw [← hA] at Y
  have hvm : s'.vm = s.vm := by rw [hA]; rfl
  have hhp : s'.heap = H := by rw [hA]; exact hT
  have hW0 : s.WarmedH s'.vm := by rw [hvm]; exact State.WarmedH.refl s
  have hat' : ∀ w ∈ vx_atS own ic cls names, w.before args s' = true := fun w hw => vx_ot_at hW0 hvm.symm (hgood w (List.mem_cons_of_mem _ (List.mem_cons_of_mem _ hw))) (hat w hw)
  have hk' : (Cond.classLink own ik cls).before args s' = true := vx_ot_at hW0 hvm.symm (hgood _ List.mem_cons_self) hk
  have hini' : (Cond.initialized cls).before args s' = true := vx_ot_at hW0 hvm.symm (hgood _ (List.mem_cons_of_mem _ List.mem_cons_self)) hini
  have hU' : vx_Zq Bundle.tN "UNASSIGNED_STACK" Bundle.steD A s' s'.heap := by rw [hhp]; exact vx_Zq.moved hW0.alike (hU.kept hS.2.1)
  have hN' : vx_Zq Bundle.tN "SUPPRESSED_SENTINEL" Bundle.listD A s' s'.heap := by rw [hhp]; exact vx_Zq.moved hW0.alike (hN.kept hS.2.1)
  have h : ∀ w ∈ Bundle.ownAtoms own ic cls names, w.before args s' = true := vx_own hat' (vx_isRefq hU'.1) (vx_isRefq hN'.1) hU'.2.word hN'.2.word
  have hown' : s'.vm.findClass own = some m.cls := by rw [hvm]; exact hown
  have hins : (Cond.instantiable cls 6).before args s' = true := h _ (by simp [Bundle.ownAtoms])
  obtain ⟨vm₁, cX, kX, hfX, hkX, -, -, X₁, st1⟩ := Y.newCold hexec (own := own) (C := cls) (index := ik) (n := 6) hown' hk' hins hini'
    (g := F0 m pc ls rest) rfl (by rw [hb]; exact d0) (Nat.le_refl _) (Nat.le_refl _)
  generalize hT1 : (T.setVm vm₁).pushCell { cls := cX, slots := kX.instanceTypes.map defaultValue, vm := .none } = T1 at X₁ st1
  have hcat : (Value.ref T.heap.size).category = 1 := rfl
  have hcellA : T1.heap[T.heap.size]? = some (freshCell cX kX) := by rw [← hT1]; exact State.heap_pushCell_size _ _
  have d3' : decode c.code (pc + 3) = .ok (.dup, 1) := by rw [hb]; exact d3
  have d4' : decode c.code (pc + 4) = .ok (.ldc_w is, 3) := by rw [hb]; exact d4
  have hstr' : vk_R own is text sa s' := vk_R.warm hW0 hstr
  obtain ⟨U, hsteps, hrun, hend, hW, hsame, ce, hce, hO⟩ := X₁.ctorThrowS hexec htr (own := own) (cls := cls) (names := names) (ic := ic) hown' hcls hnames h (fun x hx => nomatch hx) hfX hkX hcellA (by rw [hhp, hT]; exact Nat.le_refl _) (msg := .ref sa) rfl
    (g := { method := m, pc := pc + 7, locals := ls, stack := .ref sa :: .ref T.heap.size :: .ref T.heap.size :: rest, locked := none }) rfl hsize rfl rfl (rest := rest) rfl
    (by rw [hb]; exact d7) (by rw [hb]; exact d10) hout hRframes (by simp only [List.map_cons, List.sum_cons, hcat]; omega) hlocks
  obtain ⟨f1, f2⟩ := vx_frame hsame
  rw [hhp] at f1 f2
  have hWs : s.WarmedH U.vm := State.WarmedH.trans hW0 hW
  have hcl : s.vm.findClass cls = some ce.cls := by
    have h9 := hO.cls
    rw [hvm] at h9
    exact h9
  have hall : s.sameButNew ({ U with vm := s.vm } : State) locs mc ms := by
    subst hA
    obtain ⟨e1, e2⟩ := hsame
    rw [State.setFrames_setFrames] at e1
    have h2 : (T.setVm s.vm).sameButNew ({ U with vm := s.vm } : State) [] (0 + 1) (0 + 6) := ⟨e1, e2⟩
    have h3 := X.same.trans h2
    rw [List.append_nil] at h3
    exact h3.mono hc hs
  refine ⟨U, ?_, .threw T.heap.size, hrun, hend, Or.inr ⟨T.heap.size, rfl, cls, ce, locs, hx U hWs.alike f1 (fun q hq => f2 q hq (fun z hz => nomatch hz)), hce, hO.vm, hcl, hWs, hall, hf⟩⟩
  refine st1 _ ?_
  show Steps p.tables e below (T1.setTop { method := m, pc := pc + 3, locals := ls, stack := .ref T.heap.size :: rest, locked := none }) _
  jvm_step X₁.here [X₁.here.top, hexec, d3', Value.category]
  exact X₁.ldcStringW hexec (own := own) (text := text) (index := is) (a := sa) hown' hstr'.1 hstr'.2
    (g := { method := m, pc := pc + 4, locals := ls, stack := .ref T.heap.size :: .ref T.heap.size :: rest, locked := none }) rfl d4' _ hsteps
end Ends
section Bodies
variable {l : Launch}
theorem vx_ofW {y : MethodName} {ws ws' : List Cond} {rm : Room} {Pc : Array Value → State → Prop} {Qc : Array Value → State → Outcome → State → Prop} {XC : String → State → State → Prop} {mc ms : Nat} {free : Addr → Prop} {cc : ByteArray} {maxL : Nat} {ret : Option FieldType}
    (hy : plainName y.cls = true) (hw : ws = Cond.code y cc maxL ret :: ws')
    (body : ∀ p e s m args below meth c s₁, BodyLoose p l y (headSpec ws rm) cc maxL ret e s m args below meth c s₁ → c.maxLocals = maxL → (∀ x ∈ c.exceptionTable.toList, False) → Pc args s →
      W p l e (headSpec ws rm).room s m args below meth c s.heap [] 0 0 (vx_MQ below Qc XC args s mc ms free) (entryFrame m args maxL)) : vx_Met l y ws rm Pc Qc XC mc ms free := by
  refine MetFree.of_bodyS (code := cc) (maxLocals := maxL) (ret := ret) hy ?_ ?_
  · intro args s m h hn
    obtain ⟨meth, c, h1, h2, h3, h4, h5, h6, -, -⟩ := Cond.code_spec hn (atoms_spec (ws := ws) h _ (by rw [hw]; exact List.mem_cons_self))
    exact ⟨meth, c, h1, h2, h3, h4, h5, h6⟩
  · intro p e s m args below meth c s₁ B hml hP _
    have hh0 : s₁.heap = s.heap := by rw [B.state]; rfl
    have ht : ∀ x ∈ c.exceptionTable.toList, False := by
      obtain ⟨meth9, c9, h1, h2, -, -, -, -, h7, -⟩ := Cond.code_spec B.named (atoms_spec (ws := ws) B.pre _ (by rw [hw]; exact List.mem_cons_self))
      cases Option.some.inj (h1.symm.trans B.method)
      cases Option.some.inj (h2.symm.trans (Stand.of_body B).code)
      intro x hx
      rw [Array.isEmpty_iff.mp h7] at hx
      cases hx
    obtain ⟨t, a1, o, b1, b2, b3⟩ := body p e s m args below meth c s₁ B hml ht hP s₁ hh0 (Stand.of_body B)
    exact ⟨t, o, a1, b1, b2, b3⟩
/-- the table of a body with handlers -/
theorem vx_table {p : Program} {x y : MethodName} {S : Spec} {cc bytes : ByteArray} {maxL maxL' : Nat} {ret ret' : Option FieldType} {e : Env} {s s₁ : State} {m : MethodId} {args : Array Value} {below : List Frame} {meth : Method} {c : Code} {hh : List (Nat × Nat × Nat × Nat)}
    (B : BodyLoose p l y S cc maxL ret e s m args below meth c s₁) (h : (Cond.codeWith y bytes maxL' ret' hh).before args s = true) : c.exceptionTable.toList = tableOf hh := by
  obtain ⟨m9, meth9, c9, hn9, h1, h2, -, -, h6, -⟩ := Cond.codeWith_spec h
  cases Option.some.inj (hn9.symm.trans B.named)
  cases Option.some.inj (h1.symm.trans B.method)
  cases Option.some.inj (h2.symm.trans (Stand.of_body B).code)
  rw [← h6, table_eq]
end Bodies
end VXA
/-! ===== END ===== -/
/-! ===== BEGIN a static call of a method with an exception table ===== -/
section VXS
variable {p : Program} {l : Launch} {e : Env} {R : Room} {s : State} {m : MethodId} {args : Array Value} {below : List Frame} {meth : Method} {c : Code} {T : State} {H : Heap} {locs : List Loc} {cells slots : Nat}
abbrev vx_CSW (R : Room) (s : State) (args : Array Value) (own : String) (index : Nat) (y : MethodName) (bytes : ByteArray) (maxL : Nat) (ret : Option FieldType) (hh : List (Nat × Nat × Nat × Nat)) (ws : List Cond) (rm : Room) (mc ms n : Nat) : Prop :=
  (rm.cells = mc ∧ rm.slots = ms ∧ rm.frames + 1 ≤ R.frames ∧ 8 + (maxL + 11) + rm.locals ≤ R.locals ∧ (∀ w ∈ ws, ∀ (a' : Array Value) (U : State), s.WarmedH U.vm → w.before a' U = true) ∧ Cond.codeWith y bytes maxL ret hh ∈ ws) ∧
  (Cond.codeWith y bytes maxL ret hh).before args s = true ∧ (Cond.initialized y.cls).before args s = true ∧ (y.cls ≠ "java/lang/invoke/MethodHandle" ∧ y.cls ≠ "java/lang/invoke/VarHandle") ∧
  (∀ sig, parseMethodDescriptor y.desc = some sig → n = sig.parameters.length) ∧ (Cond.methodLink own index y).before args s = true ∧ (Cond.static y).before args s = true
theorem vx_cwSW {own : String} {index maxL mc ms : Nat} {y : MethodName} {bytes : ByteArray} {ret : Option FieldType} {hh : List (Nat × Nat × Nat × Nat)} {Ts ws ws' : List Cond} {rm : Room} (n : Nat) (ht : ∀ w ∈ Ts, w.before args s = true) (hT : GoodIn Ts (va_wsS own index y ws)) (hw : ws = Cond.codeWith y bytes maxL ret hh :: ws') (hrc : rm.cells = mc) (hrs : rm.slots = ms)
    (hd : y.cls ≠ "java/lang/invoke/MethodHandle" ∧ y.cls ≠ "java/lang/invoke/VarHandle" ∧ (parseMethodDescriptor y.desc).map (fun d => d.parameters.length) = some n) (hR : rm.frames + 1 ≤ R.frames ∧ 8 + (maxL + 11) + rm.locals ≤ R.locals) :
    vx_CSW R s args own index y bytes maxL ret hh ws rm mc ms n := by
  have ok : ∀ w ∈ va_wsS own index y ws, w.before args s = true := fun w h => ht w (hT w h).1
  have hG : GoodIn Ts ws := fun w h => hT w (by unfold va_wsS; exact List.mem_append_right _ h)
  have hc : Cond.codeWith y bytes maxL ret hh ∈ ws := by rw [hw]; exact List.mem_cons_self
  refine ⟨⟨hrc, hrs, hR.1, hR.2, pay_in ht hG, hc⟩, ht _ (hG _ hc).1, ok _ (by simp [va_wsS]), ⟨hd.1, hd.2.1⟩, fun sig h => ?_, ok _ (by simp [va_wsS]), ok _ (by simp [va_wsS])⟩
  have h2 := hd.2.2
  rw [h] at h2
  exact (Option.some.inj h2).symm
theorem vx_callSW (X : Stand p l e R s m args below meth c T locs cells slots) (hexec : p.tables.exec = Jvm.exec) {own : String} {index : Nat} {y : MethodName} {bytes : ByteArray} {maxL : Nat} {ret : Option FieldType} {hh : List (Nat × Nat × Nat × Nat)}
    (hown : s.vm.findClass own = some m.cls) (hlink : (Cond.methodLink own index y).before args s = true) (hstat : (Cond.static y).before args s = true) (hinit : (Cond.initialized y.cls).before args s = true)
    (hcode : (Cond.codeWith y bytes maxL ret hh).before args s = true) (hy : y.cls ≠ "java/lang/invoke/MethodHandle" ∧ y.cls ≠ "java/lang/invoke/VarHandle")
    {W9 : Nat} {Pre : Pt → Array Value → Prop} {Post : Pt → Array Value → Option Value → Pt → Prop} (hK : Back l R p e below s args y 3 W9 Pre Post)
    {g : JFrame} (hg : g.method = m) (hsize : g.locals.size = c.maxLocals) {argsL rest : List Value} (hlen : ∀ sig, parseMethodDescriptor y.desc = some sig → argsL.length = sig.parameters.length)
    (hstack : g.stack = argsL.reverse ++ rest) (hW : 2 * g.monitorRoom + (rest.map fun v => v.category).sum ≤ W9) (hdg : decode c.code g.pc = .ok (.invokestatic index, 3))
    (hpre : ∀ vm₁, s.WarmedH vm₁ → Pre ⟨T.setVm vm₁, locs, cells, slots⟩ argsL.toArray) :
    ∃ (v : Option Value) (vm₁ : Vm) (B : Pt), s.WarmedH vm₁ ∧ Stand p l e R s m args below meth c B.U B.locs B.cells B.slots ∧ Post ⟨T.setVm vm₁, locs, cells, slots⟩ argsL.toArray v B ∧
      ∀ target, Steps p.tables e below (B.U.setTop { g with pc := g.pc + 3, stack := v.toList ++ rest }) target → Steps p.tables e below (T.setTop g) target := by
  obtain ⟨mk, methM, cM, hnamed, hmethM, -, -, -, -, -, -, hsigM⟩ := Cond.codeWith_spec hcode
  have hstatic : methM.isStatic = true := Cond.static_spec hnamed hmethM hstat
  obtain ⟨kP, hkP, -⟩ := className_of_methodNamed hnamed
  have hinitP : kP.init = .initialized := Cond.initialized_spec (findClass_of_methodNamed hnamed) hkP hinit
  obtain ⟨vm₁, X₁, hstep₁⟩ := X.invokestatic hexec hown hlink hnamed hmethM hstatic hkP hinitP hy (g := g) hg (argsL := argsL) (rest := rest) (hlen _ hsigM) hstack hdg
  obtain ⟨v, B, X', hpost, hsteps⟩ := hK m meth c ⟨T.setVm vm₁, locs, cells, slots⟩ { g with stack := rest } (.invokestatic index) mk argsL.toArray X₁ hg hsize hdg hW (X₁.named hnamed) (hpre vm₁ X₁.warmed)
  exact ⟨v, vm₁, B, X₁.warmed, X', hpost, fun target h => hstep₁ _ fun acts => by rw [doInvoke_state]; exact hsteps.trans h⟩
theorem vx_runSW {y : MethodName} {bytes cc : ByteArray} {maxL nL mc ms n index : Nat} {ret : Option FieldType} {hh : List (Nat × Nat × Nat × Nat)} {ws : List Cond} {rm : Room} {Pc : Array Value → State → Prop} {Qc : Array Value → State → Outcome → State → Prop} {free : Addr → Prop} {Ts : List Cond} {own : String} {As rest : List Value} {g : JFrame}
    (S : CallFix p m c cc nL s args Ts own) (hM : Met l y ws rm Pc Qc mc ms free) (cw : vx_CSW R s args own index y bytes maxL ret hh ws rm mc ms n) (hp : PreS s H Pc As)
    (hg : g.method = m) (hn : As.length = n) (hsize : g.locals.size = nL) (hstack : g.stack = As.reverse ++ rest) (hW : 2 * g.monitorRoom + (rest.map fun v => v.category).sum ≤ 8) (hdg : decode cc g.pc = .ok (.invokestatic index, 3)) (hf : cells + mc ≤ R.cells ∧ slots + ms ≤ R.slots) :
    va_Run p l e R s m args below meth c H locs cells slots mc ms g rest (Qc As.toArray) (free) := by
  obtain ⟨⟨hrc, hrs, hfr, hlo, hws, hcw⟩, hcode, hini, hy, hlen, hl, hstt⟩ := cw
  have hK : Back l R p e below s args y 3 8 (PreOf R mc ms Pc) (PostOf Qc mc ms free) := va_backW (hh := hh) (bytes := bytes) (maxL := maxL) (ret := ret) hM hp.1 hrc hrs hfr hlo hws hcw (fun a' U hW => word_at hW (Or.inl (by first | rfl | simp [Cond.onTables, Cond.keeps, Cond.steady])) hini)
  obtain ⟨hx, hb, hml, ho, -⟩ := S
  intro T hT X
  obtain ⟨v, vm₁, ⟨U', l2, c2, s2⟩, hW₁, X', ⟨g', mk, t, L, e1, e2, hq, h1, hL, h2, h3⟩, st⟩ := vx_callSW X hx (hh := hh) (bytes := bytes) (maxL := maxL) (ret := ret) ho hl hstt hini hcode hy hK hg (hsize.trans hml.symm) (argsL := As) (rest := rest) (fun sig h => hn.trans (hlen sig h)) hstack hW (by rw [hb]; exact hdg)
    (fun vm₁ hW₁ => ⟨hf.1, hf.2, hp.2 (T.setVm vm₁) hT hW₁⟩)
  dsimp only [Pt.U, Pt.locs, Pt.cells, Pt.slots] at X' e1 e2 h1 h2 h3 st
  subst h1; subst h2; subst h3
  exact ⟨v, (T.setVm vm₁).calling g' mk As.toArray, t, U', L, hT, X', hL, e1, e2, hq, st⟩
/-- not caught here, past rows that name other classes: it goes on to the caller -/
theorem vx_outP {p : Program} {l : Launch} {e : Env} {R : Room} {s : State} {m : MethodId} {args : Array Value} {below : List Frame} {meth : Method} {c : Code} {H : Heap} {locs : List Loc} {cells slots : Nat} {free : Addr → Prop} {ls : Array Slot} {rest : List Value} {Qc : Array Value → State → Outcome → State → Prop} {XC : String → State → State → Prop}
    {pc : Nat} {own E : String} {ce : Cell} {q : Addr} {mc ms : Nat} (hown : s.vm.findClass own = some m.cls) (hlocks : meth.locks = false)
    (hpass : ∀ z ∈ c.exceptionTable.toList, covers z pc = false ∨ (z.catchType ≠ 0 ∧ ∃ nm : String, (Cond.classLink own z.catchType nm).before args s = true ∧ va_Nc E nm s)) (hcell : H[q]? = some ce) (hv : ce.vm = .none) (hcl : s.vm.findClass E = some ce.cls)
    (hx : ∀ t : State, t.heap = H → s.vm.Alike t.vm → XC E s t) (hf : ∀ z ∈ locs, free z.base) (hc : cells ≤ mc) (hs : slots ≤ ms) :
    vx_W p l e R s m args below meth c H locs cells slots (vx_MQ below Qc XC args s mc ms free) (F0 m pc ls rest) q := by
  intro T hT X
  have hpl : e.platform.magicAccessors = ({} : Platform).magicAccessors := by rw [X.admits.platform]
  obtain ⟨vm', hW', X', st⟩ := X.outThrough hlocks q (g := F0 m pc ls rest) rfl rfl rfl (cell := ce) (by rw [hT]; exact hcell) (by rw [hv]; rfl)
    (by obtain ⟨k9, h9, -⟩ := Vm.findClass_spec hcl; exact ⟨k9, h9⟩) (fun z hz => by
      rcases hpass z hz with h | ⟨hz0, nm, hl1, hn1⟩
      · exact Or.inl h
      · obtain ⟨c6, hc6, hcl6⟩ := Cond.classLink_spec hown hl1 e.platform hpl
        obtain ⟨a8, b8, h1, h2, h3⟩ := hn1
        cases Option.some.inj (h1.symm.trans hcl)
        cases Option.some.inj (h2.symm.trans hc6)
        exact Or.inr ⟨hz0, _, hcl6, h3⟩)
  obtain ⟨g₀, hfr⟩ := X'.frames_eq
  have hcell9 : ((T.setVm vm').setFrames (.throwing q :: below)).heap[q]? = some ce := by
    show T.heap[q]? = some ce
    rw [hT]; exact hcell
  have hend : Ended ((T.setVm vm').setFrames (.throwing q :: below)) below (.threw q) := State.frames_setFrames _ (State.cur_lt_of_frames hfr)
  refine ⟨(T.setVm vm').setFrames (.throwing q :: below), ?_, .threw q, X'.here.running, hend, Or.inr ⟨q, rfl, E, ce, locs, hx _ hT (X'.ends _).1.alike, hcell9, hv, hcl, (X'.ends _).1, (X'.ends _).2.mono hc hs, hf⟩⟩
  rw [X.pushThrowing_eq]
  exact st
/-- a thing of a world lies in the heap -/
theorem vx_lt {D : va_G} {cl : List vw_C} {ws : va_W} {H1 : Heap} (h : va_P D cl ws H1) {k : Nat} {q : Nat × va_E} (hk : ws[k]? = some q) : q.1 < H1.size := (h k q hk).lt
end VXS
/-! ===== END ===== -/
/-! ===== BEGIN methods with a table of their own: called by a name, returning or throwing ===== -/
section VXH
/-! vx_backW, vx_callVX, vx_callSX, vx_callVW, vx_runVW, vx_runVX, vx_runSX, vx_ofWH follow the same proofs as their sisters above (Free/Laws.lean, Shelf42/LK1.lean); vx_outP calls Shelf42/NT130.lean (outThrough). -/
section
variable {l : Launch} {R : Room} {p : Program} {e : Env} {below : List Frame} {s : State} {sargs : Array Value} {y : MethodName} {len W9 : Nat}
theorem vx_backW {ws : List Cond} {rm : Room} {Pc : Array Value → State → Prop} {Qc : Array Value → State → Outcome → State → Prop} {XC : String → State → State → Prop} {mc ms : Nat} {free : Addr → Prop} {bytes : ByteArray} {maxL : Nat} {ret : Option FieldType} {hh : List (Nat × Nat × Nat × Nat)}
    (hM : vx_Met l y ws rm Pc Qc XC mc ms free) (hblind : FrameBlind Pc) (hrc : rm.cells = mc) (hrs : rm.slots = ms)
    (hframes : rm.frames + 1 ≤ R.frames) (hlocals : W9 + (maxL + 11) + rm.locals ≤ R.locals)
    (hws : ∀ w ∈ ws, ∀ a' U, s.WarmedH U.vm → w.before a' U = true) (hcode : Cond.codeWith y bytes maxL ret hh ∈ ws) (hinit : ∀ a' U, s.WarmedH U.vm → (Cond.initialized y.cls).before a' U = true) :
    vx_Back l R p e below s sargs y len W9 (PreOf R mc ms Pc) (PostOf Qc mc ms free) (vx_Post XC mc ms free) := by
  intro m meth c A g ig mk a X hg hsize hdg hW hn hp
  have h1 : (headSpec ws rm).pre.before a A.U = true := atoms_intro fun w hw => hws w hw _ _ X.warmed
  have h2 : (Cond.codeWith y bytes maxL ret hh).before a A.U = true := hws _ hcode _ _ X.warmed
  have h3 : (Cond.initialized y.cls).before a A.U = true := hinit _ _ X.warmed
  have h4 : A.cells + (headSpec ws rm).room.cells ≤ R.cells := by rw [show (headSpec ws rm).room.cells = mc from hrc]; exact hp.1
  have h5 : A.slots + (headSpec ws rm).room.slots ≤ R.slots := by rw [show (headSpec ws rm).room.slots = ms from hrs]; exact hp.2.1
  have hPc : Pc a (A.U.calling g mk a) := hblind _ _ _ _ hp.2.2
  obtain ⟨U, Ls, c0, s0⟩ := A
  dsimp only [Pt.U, Pt.locs, Pt.cells, Pt.slots] at h1 h2 h3 h4 h5 X hn hPc ⊢
  obtain ⟨m9, methY, cY, hn9, hmY, hcY, -, hlY, -⟩ := Cond.codeWith_spec h2
  cases Option.some.inj (hn9.symm.trans hn)
  obtain ⟨kY, hkY, -⟩ := className_of_methodNamed hn
  have hinitY : kY.init = .initialized := Cond.initialized_spec (findClass_of_methodNamed hn) hkY h3
  have h : At U g.method c below := by rw [hg]; exact X.here
  have hlocals9 : W9 + (maxL + 11) + (headSpec ws rm).room.locals ≤ R.locals := hlocals
  have happ : (headSpec ws rm).appliesLoose y e.platform (U.calling g mk a) = true :=
    Spec.appliesLoose_calling (g := g) h hdg hn hkY hinitY
      (X.room_calling (g := g) (R' := (headSpec ws rm).room) hsize hmY hcY hframes (by rw [hlY]; omega) h4 h5) h1
  obtain ⟨mid, hmid⟩ := h.above
  have hfr : (U.setTop g).frames = (.java g :: mid) ++ below := by rw [State.frames_setTop' g h.top, hmid]; rfl
  obtain ⟨o, s₂, hsteps, -, hend, hq⟩ := Steps.callFree hM p X.admits X.cas X.clock (acts := []) hfr happ hPc trivial
  have hq' : vx_Q Qc XC mc ms free a (U.calling g mk a) o s₂ := hq
  rw [State.frames_setTop' g h.top] at hend
  obtain ⟨g₀, hg0⟩ := Option.isSome_iff_exists.mp h.top
  obtain ⟨r, hr⟩ := State.topJava?_eq_some.mp hg0
  have hr' : (({ U with heap := s₂.heap, slotsUsed := s₂.slotsUsed } : State).setVm s₂.vm).frames = .java g₀ :: r := hr
  rcases hq' with ⟨hqc, L, hfe, hL⟩ | ⟨q, rfl, E, ce, L, hx, hce, hcv, hcl, hW₂, hsm, hL⟩
  · obtain ⟨⟨v, rfl⟩, hW₂, e2, q2, q3, q4, q5, q6⟩ := id hfe
    have e3 : s₂ = ({ (U.calling g mk a).setFrames s₂.frames with heap := s₂.heap, slotsUsed := s₂.slotsUsed } : State).setVm s₂.vm := by
      have : s₂ = ({ s₂ with vm := (U.calling g mk a).vm } : State).setVm s₂.vm := rfl
      rw [e2] at this
      exact this
    obtain ⟨c₂, i₂, len₂, hc₂, hd₂, hf₂⟩ := hend
    have hW' : U.WarmedH s₂.vm := hW₂
    have hcc : c₂ = c := by
      have h1 : s₂.code? g.method = U.code? g.method := by
        rw [State.code?_eq, State.code?_eq, hW'.alike.method?]
      exact Option.some.inj (hc₂.symm.trans (h1.trans h.code))
    subst hcc
    have hlen : len₂ = len := by rw [hdg] at hd₂; cases hd₂; rfl
    subst hlen
    have hs₂ : s₂ = (({ U with heap := s₂.heap, slotsUsed := s₂.slotsUsed } : State).setVm s₂.vm).setTop { g with pc := g.pc + len₂, stack := v.toList ++ g.stack } := by
      refine e3.trans ?_
      rw [hf₂, State.calling_eq h.top, State.setFrames_setFrames, State.setTop_of_frames _ hr', hr]
      rfl
    have hsame : U.sameButNew ({ U with heap := s₂.heap, slotsUsed := s₂.slotsUsed } : State) L mc ms := by
      refine ⟨?_, q2, q3, q4, q5, q6⟩
      obtain ⟨t, ht, -⟩ := State.frames_cons hr
      show ({ U with heap := s₂.heap, slotsUsed := s₂.slotsUsed } : State) = { U.setFrames U.frames with heap := s₂.heap, slotsUsed := s₂.slotsUsed }
      rw [State.setFrames_self ht]
    subst hg
    refine Or.inl ⟨v, ⟨(({ U with heap := s₂.heap, slotsUsed := s₂.slotsUsed } : State).setVm s₂.vm), Ls ++ L, c0 + mc, s0 + ms⟩,
      ⟨X.admits, X.cas, X.clock, X.frames, X.room, X.hears, X.method, X.code, (X.here.setHeapUsed s₂.heap s₂.slotsUsed).setVm hW'.alike, X.tail, State.WarmedH.trans X.warmed hW', X.limits, X.bytes, X.same.trans (hsame.setVm s.vm)⟩,
      ⟨g, mk, s₂, L, rfl, rfl, hqc, rfl, hL, rfl, rfl⟩, ?_⟩
    show Steps p.tables e below _ ((({ U with heap := s₂.heap, slotsUsed := s₂.slotsUsed } : State).setVm s₂.vm).setTop { g with pc := g.pc + len₂, stack := v.toList ++ g.stack })
    rw [← hs₂]
    exact hsteps
  · obtain ⟨e2, q2, q3, q4, q5, q6⟩ := id hsm
    have e3 : s₂ = ({ (U.calling g mk a).setFrames s₂.frames with heap := s₂.heap, slotsUsed := s₂.slotsUsed } : State).setVm s₂.vm := by
      have : s₂ = ({ s₂ with vm := (U.calling g mk a).vm } : State).setVm s₂.vm := rfl
      rw [e2] at this
      exact this
    have hf₂ : s₂.frames = .throwing q :: .java g :: U.frames.tail := hend
    have hW' : U.WarmedH s₂.vm := hW₂
    have hs₂ : s₂ = ((({ U with heap := s₂.heap, slotsUsed := s₂.slotsUsed } : State).setVm s₂.vm).setTop g).pushFrame (.throwing q) := by
      refine e3.trans ?_
      rw [hf₂, State.calling_eq h.top, State.setFrames_setFrames, State.pushFrame, State.frames_setTop _ hr', State.setTop_of_frames _ hr', State.setFrames_setFrames, hr]
      rfl
    have hsame : U.sameButNew ({ U with heap := s₂.heap, slotsUsed := s₂.slotsUsed } : State) L mc ms := by
      refine ⟨?_, q2, q3, q4, q5, q6⟩
      obtain ⟨t, ht, -⟩ := State.frames_cons hr
      show ({ U with heap := s₂.heap, slotsUsed := s₂.slotsUsed } : State) = { U.setFrames U.frames with heap := s₂.heap, slotsUsed := s₂.slotsUsed }
      rw [State.setFrames_self ht]
    subst hg
    refine Or.inr ⟨q, ⟨(({ U with heap := s₂.heap, slotsUsed := s₂.slotsUsed } : State).setVm s₂.vm), Ls ++ L, c0 + mc, s0 + ms⟩,
      ⟨X.admits, X.cas, X.clock, X.frames, X.room, X.hears, X.method, X.code, (X.here.setHeapUsed s₂.heap s₂.slotsUsed).setVm hW'.alike, X.tail, State.WarmedH.trans X.warmed hW', X.limits, X.bytes, X.same.trans (hsame.setVm s.vm)⟩,
      ⟨g, mk, s₂, L, E, ce, rfl, rfl, hx, hce, hcv, hcl, rfl, hL, rfl, rfl⟩, ?_⟩
    show Steps p.tables e below _ (((({ U with heap := s₂.heap, slotsUsed := s₂.slotsUsed } : State).setVm s₂.vm).setTop g).pushFrame (.throwing q))
    rw [← hs₂]
    exact hsteps
end
variable {p : Program} {l : Launch} {e : Env} {R : Room} {s : State} {m : MethodId} {args : Array Value} {below : List Frame} {meth : Method} {c : Code} {T : State} {H : Heap} {locs : List Loc} {cells slots : Nat}
theorem vx_callVX (X : Stand p l e R s m args below meth c T locs cells slots) (hexec : p.tables.exec = Jvm.exec) {own C : String} {index : Nat} {y : MethodName} {bytes : ByteArray} {maxL : Nat} {ret : Option FieldType} {hh : List (Nat × Nat × Nat × Nat)}
    (hown : s.vm.findClass own = some m.cls) (hlink : (Cond.methodLink own index y).before args s = true) (hinst : (Cond.instanceMethod y).before args s = true) (hsel : (Cond.selects C y y).before args s = true)
    (hcode : (Cond.codeWith y bytes maxL ret hh).before args s = true) (hy : y.cls ≠ "java/lang/invoke/MethodHandle" ∧ y.cls ≠ "java/lang/invoke/VarHandle")
    {W9 : Nat} {Pre : Pt → Array Value → Prop} {Post : Pt → Array Value → Option Value → Pt → Prop} {PostX : Pt → Array Value → Addr → Pt → Prop} (hK : vx_Back l R p e below s args y 3 W9 Pre Post PostX)
    {b : Addr} {cellB : Cell} (hcell : T.heap[b]? = some cellB) (hobj : cellB.vm.isStatics = false) (hcls : s.vm.findClass C = some cellB.cls)
    {g : JFrame} (hg : g.method = m) (hsize : g.locals.size = c.maxLocals) {argsL rest : List Value} (hlen : ∀ sig, parseMethodDescriptor y.desc = some sig → argsL.length = sig.parameters.length)
    (hstack : g.stack = argsL.reverse ++ .ref b :: rest) (hW : 2 * g.monitorRoom + (rest.map fun v => v.category).sum ≤ W9) (hdg : decode c.code g.pc = .ok (.invokevirtual index, 3))
    (hpre : ∀ vm₁, s.WarmedH vm₁ → Pre ⟨T.setVm vm₁, locs, cells, slots⟩ (Value.ref b :: argsL).toArray) :
    (∃ (v : Option Value) (vm₁ : Vm) (B : Pt), s.WarmedH vm₁ ∧ Stand p l e R s m args below meth c B.U B.locs B.cells B.slots ∧ Post ⟨T.setVm vm₁, locs, cells, slots⟩ (Value.ref b :: argsL).toArray v B ∧
      ∀ target, Steps p.tables e below (B.U.setTop { g with pc := g.pc + 3, stack := v.toList ++ rest }) target → Steps p.tables e below (T.setTop g) target) ∨
    (∃ (q : Addr) (vm₁ : Vm) (B : Pt), s.WarmedH vm₁ ∧ Stand p l e R s m args below meth c B.U B.locs B.cells B.slots ∧ PostX ⟨T.setVm vm₁, locs, cells, slots⟩ (Value.ref b :: argsL).toArray q B ∧
      Steps p.tables e below (T.setTop g) ((B.U.setTop { g with stack := rest }).pushFrame (.throwing q))) := by
  obtain ⟨mk, methM, hnamed, hmethM, hstM, habM⟩ := Cond.instanceMethod_spec hinst
  obtain ⟨m8, methM', cM, hn8, hmethM', -, -, -, -, -, -, hsigM⟩ := Cond.codeWith_spec hcode
  cases Option.some.inj (hn8.symm.trans hnamed)
  cases hmethM.symm.trans hmethM'
  obtain ⟨c2, r2, m2, q1, q2, q3, q4, kP, hkP, hkPi⟩ := Cond.selects_spec hsel
  cases hcls.symm.trans q1
  cases (State.methodFound?_of_named hnamed hy).symm.trans q2
  cases hnamed.symm.trans q3
  have hselP : selectMethod e.platform s.vm cellB.cls mk = .method mk := by rw [Launch.admits_selectMethod X.admits]; exact q4
  obtain ⟨vm₁, X₁, hstep₁⟩ := X.invokevirtual hexec hown hlink hnamed hmethM hstM hkP hkPi hy (a := b) (cell := cellB) hcell
    (fun z h => by rw [h] at hobj; cases hobj) hselP hmethM habM hkP hkPi (g := g) hg (argsL := argsL) (rest := rest) (hlen _ hsigM) hstack hdg
  rcases hK m meth c ⟨T.setVm vm₁, locs, cells, slots⟩ { g with stack := rest } (.invokevirtual index) mk (Value.ref b :: argsL).toArray X₁ hg hsize hdg hW (X₁.named hnamed) (hpre vm₁ X₁.warmed) with ⟨v, B, X', hpost, hsteps⟩ | ⟨q, B, X', hpost, hsteps⟩
  · exact Or.inl ⟨v, vm₁, B, X₁.warmed, X', hpost, fun target h => hstep₁ _ fun acts => by rw [doInvoke_state]; exact hsteps.trans h⟩
  · exact Or.inr ⟨q, vm₁, B, X₁.warmed, X', hpost, hstep₁ _ fun acts => by rw [doInvoke_state]; exact hsteps⟩
theorem vx_callSX (X : Stand p l e R s m args below meth c T locs cells slots) (hexec : p.tables.exec = Jvm.exec) {own : String} {index : Nat} {y : MethodName} {bytes : ByteArray} {maxL : Nat} {ret : Option FieldType} {hh : List (Nat × Nat × Nat × Nat)}
    (hown : s.vm.findClass own = some m.cls) (hlink : (Cond.methodLink own index y).before args s = true) (hstat : (Cond.static y).before args s = true) (hinit : (Cond.initialized y.cls).before args s = true)
    (hcode : (Cond.codeWith y bytes maxL ret hh).before args s = true) (hy : y.cls ≠ "java/lang/invoke/MethodHandle" ∧ y.cls ≠ "java/lang/invoke/VarHandle")
    {W9 : Nat} {Pre : Pt → Array Value → Prop} {Post : Pt → Array Value → Option Value → Pt → Prop} {PostX : Pt → Array Value → Addr → Pt → Prop} (hK : vx_Back l R p e below s args y 3 W9 Pre Post PostX)
    {g : JFrame} (hg : g.method = m) (hsize : g.locals.size = c.maxLocals) {argsL rest : List Value} (hlen : ∀ sig, parseMethodDescriptor y.desc = some sig → argsL.length = sig.parameters.length)
    (hstack : g.stack = argsL.reverse ++ rest) (hW : 2 * g.monitorRoom + (rest.map fun v => v.category).sum ≤ W9) (hdg : decode c.code g.pc = .ok (.invokestatic index, 3))
    (hpre : ∀ vm₁, s.WarmedH vm₁ → Pre ⟨T.setVm vm₁, locs, cells, slots⟩ argsL.toArray) :
    (∃ (v : Option Value) (vm₁ : Vm) (B : Pt), s.WarmedH vm₁ ∧ Stand p l e R s m args below meth c B.U B.locs B.cells B.slots ∧ Post ⟨T.setVm vm₁, locs, cells, slots⟩ argsL.toArray v B ∧
      ∀ target, Steps p.tables e below (B.U.setTop { g with pc := g.pc + 3, stack := v.toList ++ rest }) target → Steps p.tables e below (T.setTop g) target) ∨
    (∃ (q : Addr) (vm₁ : Vm) (B : Pt), s.WarmedH vm₁ ∧ Stand p l e R s m args below meth c B.U B.locs B.cells B.slots ∧ PostX ⟨T.setVm vm₁, locs, cells, slots⟩ argsL.toArray q B ∧
      Steps p.tables e below (T.setTop g) ((B.U.setTop { g with stack := rest }).pushFrame (.throwing q))) := by
  obtain ⟨mk, methM, cM, hnamed, hmethM, -, -, -, -, -, -, hsigM⟩ := Cond.codeWith_spec hcode
  have hstatic : methM.isStatic = true := Cond.static_spec hnamed hmethM hstat
  obtain ⟨kP, hkP, -⟩ := className_of_methodNamed hnamed
  have hinitP : kP.init = .initialized := Cond.initialized_spec (findClass_of_methodNamed hnamed) hkP hinit
  obtain ⟨vm₁, X₁, hstep₁⟩ := X.invokestatic hexec hown hlink hnamed hmethM hstatic hkP hinitP hy (g := g) hg (argsL := argsL) (rest := rest) (hlen _ hsigM) hstack hdg
  rcases hK m meth c ⟨T.setVm vm₁, locs, cells, slots⟩ { g with stack := rest } (.invokestatic index) mk argsL.toArray X₁ hg hsize hdg hW (X₁.named hnamed) (hpre vm₁ X₁.warmed) with ⟨v, B, X', hpost, hsteps⟩ | ⟨q, B, X', hpost, hsteps⟩
  · exact Or.inl ⟨v, vm₁, B, X₁.warmed, X', hpost, fun target h => hstep₁ _ fun acts => by rw [doInvoke_state]; exact hsteps.trans h⟩
  · exact Or.inr ⟨q, vm₁, B, X₁.warmed, X', hpost, hstep₁ _ fun acts => by rw [doInvoke_state]; exact hsteps⟩
theorem vx_callVW (X : Stand p l e R s m args below meth c T locs cells slots) (hexec : p.tables.exec = Jvm.exec) {own C : String} {index : Nat} {y : MethodName} {bytes : ByteArray} {maxL : Nat} {ret : Option FieldType} {hh : List (Nat × Nat × Nat × Nat)}
    (hown : s.vm.findClass own = some m.cls) (hlink : (Cond.methodLink own index y).before args s = true) (hinst : (Cond.instanceMethod y).before args s = true) (hsel : (Cond.selects C y y).before args s = true)
    (hcode : (Cond.codeWith y bytes maxL ret hh).before args s = true) (hy : y.cls ≠ "java/lang/invoke/MethodHandle" ∧ y.cls ≠ "java/lang/invoke/VarHandle")
    {W9 : Nat} {Pre : Pt → Array Value → Prop} {Post : Pt → Array Value → Option Value → Pt → Prop} (hK : Back l R p e below s args y 3 W9 Pre Post)
    {b : Addr} {cellB : Cell} (hcell : T.heap[b]? = some cellB) (hobj : cellB.vm.isStatics = false) (hcls : s.vm.findClass C = some cellB.cls)
    {g : JFrame} (hg : g.method = m) (hsize : g.locals.size = c.maxLocals) {argsL rest : List Value} (hlen : ∀ sig, parseMethodDescriptor y.desc = some sig → argsL.length = sig.parameters.length)
    (hstack : g.stack = argsL.reverse ++ .ref b :: rest) (hW : 2 * g.monitorRoom + (rest.map fun v => v.category).sum ≤ W9) (hdg : decode c.code g.pc = .ok (.invokevirtual index, 3))
    (hpre : ∀ vm₁, s.WarmedH vm₁ → Pre ⟨T.setVm vm₁, locs, cells, slots⟩ (Value.ref b :: argsL).toArray) :
    ∃ (v : Option Value) (vm₁ : Vm) (B : Pt), s.WarmedH vm₁ ∧ Stand p l e R s m args below meth c B.U B.locs B.cells B.slots ∧ Post ⟨T.setVm vm₁, locs, cells, slots⟩ (Value.ref b :: argsL).toArray v B ∧
      ∀ target, Steps p.tables e below (B.U.setTop { g with pc := g.pc + 3, stack := v.toList ++ rest }) target → Steps p.tables e below (T.setTop g) target := by
  obtain ⟨mk, methM, hnamed, hmethM, hstM, habM⟩ := Cond.instanceMethod_spec hinst
  obtain ⟨m8, methM', cM, hn8, hmethM', -, -, -, -, -, -, hsigM⟩ := Cond.codeWith_spec hcode
  cases Option.some.inj (hn8.symm.trans hnamed)
  cases hmethM.symm.trans hmethM'
  obtain ⟨c2, r2, m2, q1, q2, q3, q4, kP, hkP, hkPi⟩ := Cond.selects_spec hsel
  cases hcls.symm.trans q1
  cases (State.methodFound?_of_named hnamed hy).symm.trans q2
  cases hnamed.symm.trans q3
  have hselP : selectMethod e.platform s.vm cellB.cls mk = .method mk := by rw [Launch.admits_selectMethod X.admits]; exact q4
  obtain ⟨vm₁, X₁, hstep₁⟩ := X.invokevirtual hexec hown hlink hnamed hmethM hstM hkP hkPi hy (a := b) (cell := cellB) hcell
    (fun z h => by rw [h] at hobj; cases hobj) hselP hmethM habM hkP hkPi (g := g) hg (argsL := argsL) (rest := rest) (hlen _ hsigM) hstack hdg
  obtain ⟨v, B, X', hpost, hsteps⟩ := hK m meth c ⟨T.setVm vm₁, locs, cells, slots⟩ { g with stack := rest } (.invokevirtual index) mk (Value.ref b :: argsL).toArray X₁ hg hsize hdg hW (X₁.named hnamed) (hpre vm₁ X₁.warmed)
  exact ⟨v, vm₁, B, X₁.warmed, X', hpost, fun target h => hstep₁ _ fun acts => by rw [doInvoke_state]; exact hsteps.trans h⟩
abbrev vx_CVW (R : Room) (s : State) (args : Array Value) (own C : String) (index : Nat) (y : MethodName) (bytes : ByteArray) (maxL : Nat) (ret : Option FieldType) (hh : List (Nat × Nat × Nat × Nat)) (ws : List Cond) (rm : Room) (mc ms n : Nat) : Prop :=
  (rm.cells = mc ∧ rm.slots = ms ∧ rm.frames + 1 ≤ R.frames ∧ 8 + (maxL + 11) + rm.locals ≤ R.locals ∧ (∀ w ∈ ws, ∀ (a' : Array Value) (U : State), s.WarmedH U.vm → w.before a' U = true) ∧ Cond.codeWith y bytes maxL ret hh ∈ ws) ∧
  (Cond.codeWith y bytes maxL ret hh).before args s = true ∧ (Cond.initialized y.cls).before args s = true ∧ (y.cls ≠ "java/lang/invoke/MethodHandle" ∧ y.cls ≠ "java/lang/invoke/VarHandle") ∧
  (∀ sig, parseMethodDescriptor y.desc = some sig → n = sig.parameters.length) ∧ (Cond.methodLink own index y).before args s = true ∧ (Cond.instanceMethod y).before args s = true ∧ (Cond.selects C y y).before args s = true
theorem vx_cwVW {own C : String} {index maxL mc ms : Nat} {y : MethodName} {bytes : ByteArray} {ret : Option FieldType} {hh : List (Nat × Nat × Nat × Nat)} {Ts ws ws' : List Cond} {rm : Room} (n : Nat) (ht : ∀ w ∈ Ts, w.before args s = true) (hT : GoodIn Ts (wsV own index C y ws)) (hw : ws = Cond.codeWith y bytes maxL ret hh :: ws') (hrc : rm.cells = mc) (hrs : rm.slots = ms)
    (hd : y.cls = C ∧ y.cls ≠ "java/lang/invoke/MethodHandle" ∧ y.cls ≠ "java/lang/invoke/VarHandle" ∧ (parseMethodDescriptor y.desc).map (fun d => d.parameters.length) = some n) (hR : rm.frames + 1 ≤ R.frames ∧ 8 + (maxL + 11) + rm.locals ≤ R.locals) :
    vx_CVW R s args own C index y bytes maxL ret hh ws rm mc ms n := by
  obtain ⟨hC, hd⟩ := hd
  subst hC
  have ok : ∀ w ∈ wsV own index y.cls y ws, w.before args s = true := fun w h => ht w (hT w h).1
  have hG : GoodIn Ts ws := fun w h => hT w (by unfold wsV; exact List.mem_append_right _ h)
  have hc : Cond.codeWith y bytes maxL ret hh ∈ ws := by rw [hw]; exact List.mem_cons_self
  refine ⟨⟨hrc, hrs, hR.1, hR.2, pay_in ht hG, hc⟩, ht _ (hG _ hc).1, ok _ (by simp [wsV]), ⟨hd.1, hd.2.1⟩, fun sig h => ?_, ok _ (by simp [wsV]), ok _ (by simp [wsV]), ok _ (by simp [wsV])⟩
  have h2 := hd.2.2
  rw [h] at h2
  exact (Option.some.inj h2).symm
theorem vx_runVW {y : MethodName} {bytes cc : ByteArray} {maxL nL mc ms n index : Nat} {ret : Option FieldType} {hh : List (Nat × Nat × Nat × Nat)} {ws : List Cond} {rm : Room} {Pc : Array Value → State → Prop} {Qc : Array Value → State → Outcome → State → Prop} {free : Addr → Prop} {Ts : List Cond} {own C : String} {b : Addr} {As rest : List Value} {g : JFrame}
    (S : CallFix p m c cc nL s args Ts own) (hM : Met l y ws rm Pc Qc mc ms free) (cw : vx_CVW R s args own C index y bytes maxL ret hh ws rm mc ms n) (hp : PreV s H C b Pc As)
    (hg : g.method = m) (hn : As.length = n) (hsize : g.locals.size = nL) (hstack : g.stack = As.reverse ++ .ref b :: rest) (hW : 2 * g.monitorRoom + (rest.map fun v => v.category).sum ≤ 8) (hdg : decode cc g.pc = .ok (.invokevirtual index, 3)) (hf : cells + mc ≤ R.cells ∧ slots + ms ≤ R.slots) :
    va_Run p l e R s m args below meth c H locs cells slots mc ms g rest (Qc (Value.ref b :: As).toArray) free := by
  obtain ⟨⟨hrc, hrs, hfr, hlo, hws, hcw⟩, hcode, hini, hy, hlen, hl, hin, hse⟩ := cw
  have hK : Back l R p e below s args y 3 8 (PreOf R mc ms Pc) (PostOf Qc mc ms free) := va_backW (hh := hh) (bytes := bytes) (maxL := maxL) (ret := ret) hM hp.1 hrc hrs hfr hlo hws hcw (fun a' U hW => word_at hW (Or.inl (by first | rfl | simp [Cond.onTables, Cond.keeps, Cond.steady])) hini)
  obtain ⟨hx, hb, hml, ho, -⟩ := S
  obtain ⟨-, ⟨cellB, hcB, hoB, hclB⟩, hPc⟩ := hp
  intro T hT X
  obtain ⟨v, vm₁, ⟨U', l2, c2, s2⟩, hW₁, X', ⟨g', mk, t, L, e1, e2, hq, h1, hL, h2, h3⟩, st⟩ := vx_callVW X hx (C := C) (hh := hh) (bytes := bytes) (maxL := maxL) (ret := ret) ho hl hin hse hcode hy hK (by rw [hT]; exact hcB) hoB hclB hg (hsize.trans hml.symm) (argsL := As) (rest := rest) (fun sig h => hn.trans (hlen sig h)) hstack hW (by rw [hb]; exact hdg)
    (fun vm₁ hW₁ => ⟨hf.1, hf.2, hPc (T.setVm vm₁) hT hW₁⟩)
  dsimp only [Pt.U, Pt.locs, Pt.cells, Pt.slots] at X' e1 e2 h1 h2 h3 st
  subst h1; subst h2; subst h3
  exact ⟨v, (T.setVm vm₁).calling g' mk (Value.ref b :: As).toArray, t, U', L, hT, X', hL, e1, e2, hq, st⟩
section
variable {y : MethodName} {bytes cc : ByteArray} {maxL nL mc ms n index : Nat} {ret : Option FieldType} {ws : List Cond} {rm : Room} {Pc : Array Value → State → Prop} {Qc : Array Value → State → Outcome → State → Prop} {XC : String → State → State → Prop} {free : Addr → Prop} {Ts : List Cond} {own C : String} {b : Addr} {As rest : List Value} {g : JFrame}
theorem vx_runVX {hh : List (Nat × Nat × Nat × Nat)} (S : CallFix p m c cc nL s args Ts own) (hM : vx_Met l y ws rm Pc Qc XC mc ms free) (cw : vx_CVW R s args own C index y bytes maxL ret hh ws rm mc ms n) (hp : PreV s H C b Pc As)
    (hg : g.method = m) (hn : As.length = n) (hsize : g.locals.size = nL) (hstack : g.stack = As.reverse ++ .ref b :: rest) (hW : 2 * g.monitorRoom + (rest.map fun v => v.category).sum ≤ 8) (hdg : decode cc g.pc = .ok (.invokevirtual index, 3)) (hf : cells + mc ≤ R.cells ∧ slots + ms ≤ R.slots) :
    vx_Run p l e R s m args below meth c H locs cells slots mc ms g rest (Qc (Value.ref b :: As).toArray) XC free := by
  obtain ⟨⟨hrc, hrs, hfr, hlo, hws, hcw⟩, hcode, hini, hy, hlen, hl, hin, hse⟩ := cw
  have hK : vx_Back l R p e below s args y 3 8 (PreOf R mc ms Pc) (PostOf Qc mc ms free) (vx_Post XC mc ms free) := vx_backW (hh := hh) (bytes := bytes) (maxL := maxL) (ret := ret) hM hp.1 hrc hrs hfr hlo hws hcw (fun a' U hW => word_at hW (Or.inl (by first | rfl | simp [Cond.onTables, Cond.keeps, Cond.steady])) hini)
  obtain ⟨hx, hb, hml, ho, -⟩ := S
  obtain ⟨-, ⟨cellB, hcB, hoB, hclB⟩, hPc⟩ := hp
  intro T hT X
  rcases vx_callVX X hx (C := C) (hh := hh) (bytes := bytes) (maxL := maxL) (ret := ret) ho hl hin hse hcode hy hK (by rw [hT]; exact hcB) hoB hclB hg (hsize.trans hml.symm) (argsL := As) (rest := rest) (fun sig h => hn.trans (hlen sig h)) hstack hW (by rw [hb]; exact hdg)
    (fun vm₁ hW₁ => ⟨hf.1, hf.2, hPc (T.setVm vm₁) hT hW₁⟩) with ⟨v, vm₁, ⟨U', l2, c2, s2⟩, hW₁, X', ⟨g', mk, t, L, e1, e2, hq, h1, hL, h2, h3⟩, st⟩ | ⟨q, vm₁, ⟨U', l2, c2, s2⟩, hW₁, X', ⟨g', mk, t, L, E, ce, e1, e2, hq, hce, hcv, hcl, h1, hL, h2, h3⟩, st⟩
  · dsimp only [Pt.U, Pt.locs, Pt.cells, Pt.slots] at X' e1 e2 h1 h2 h3 st
    subst h1; subst h2; subst h3
    exact Or.inl ⟨v, (T.setVm vm₁).calling g' mk (Value.ref b :: As).toArray, t, U', L, hT, X', hL, e1, e2, hq, st⟩
  · dsimp only [Pt.U, Pt.locs, Pt.cells, Pt.slots] at X' e1 e2 h1 h2 h3 st hcl
    subst h1; subst h2; subst h3
    exact Or.inr ⟨q, (T.setVm vm₁).calling g' mk (Value.ref b :: As).toArray, t, U', L, E, ce, hT, X', hL, e1, e2, hq, hce, hcv, vx_cls hW₁ hcl, st⟩
theorem vx_runSX {hh : List (Nat × Nat × Nat × Nat)} (S : CallFix p m c cc nL s args Ts own) (hM : vx_Met l y ws rm Pc Qc XC mc ms free) (cw : vx_CSW R s args own index y bytes maxL ret hh ws rm mc ms n) (hp : PreS s H Pc As)
    (hg : g.method = m) (hn : As.length = n) (hsize : g.locals.size = nL) (hstack : g.stack = As.reverse ++ rest) (hW : 2 * g.monitorRoom + (rest.map fun v => v.category).sum ≤ 8) (hdg : decode cc g.pc = .ok (.invokestatic index, 3)) (hf : cells + mc ≤ R.cells ∧ slots + ms ≤ R.slots) :
    vx_Run p l e R s m args below meth c H locs cells slots mc ms g rest (Qc As.toArray) XC free := by
  obtain ⟨⟨hrc, hrs, hfr, hlo, hws, hcw⟩, hcode, hini, hy, hlen, hl, hstt⟩ := cw
  have hK : vx_Back l R p e below s args y 3 8 (PreOf R mc ms Pc) (PostOf Qc mc ms free) (vx_Post XC mc ms free) := vx_backW (hh := hh) (bytes := bytes) (maxL := maxL) (ret := ret) hM hp.1 hrc hrs hfr hlo hws hcw (fun a' U hW => word_at hW (Or.inl (by first | rfl | simp [Cond.onTables, Cond.keeps, Cond.steady])) hini)
  obtain ⟨hx, hb, hml, ho, -⟩ := S
  intro T hT X
  rcases vx_callSX X hx (hh := hh) (bytes := bytes) (maxL := maxL) (ret := ret) ho hl hstt hini hcode hy hK hg (hsize.trans hml.symm) (argsL := As) (rest := rest) (fun sig h => hn.trans (hlen sig h)) hstack hW (by rw [hb]; exact hdg)
    (fun vm₁ hW₁ => ⟨hf.1, hf.2, hp.2 (T.setVm vm₁) hT hW₁⟩) with ⟨v, vm₁, ⟨U', l2, c2, s2⟩, hW₁, X', ⟨g', mk, t, L, e1, e2, hq, h1, hL, h2, h3⟩, st⟩ | ⟨q, vm₁, ⟨U', l2, c2, s2⟩, hW₁, X', ⟨g', mk, t, L, E, ce, e1, e2, hq, hce, hcv, hcl, h1, hL, h2, h3⟩, st⟩
  · dsimp only [Pt.U, Pt.locs, Pt.cells, Pt.slots] at X' e1 e2 h1 h2 h3 st
    subst h1; subst h2; subst h3
    exact Or.inl ⟨v, (T.setVm vm₁).calling g' mk As.toArray, t, U', L, hT, X', hL, e1, e2, hq, st⟩
  · dsimp only [Pt.U, Pt.locs, Pt.cells, Pt.slots] at X' e1 e2 h1 h2 h3 st hcl
    subst h1; subst h2; subst h3
    exact Or.inr ⟨q, (T.setVm vm₁).calling g' mk As.toArray, t, U', L, E, ce, hT, X', hL, e1, e2, hq, hce, hcv, vx_cls hW₁ hcl, st⟩
end
end VXH
theorem vx_ofWH {l : Launch} {y : MethodName} {ws ws' : List Cond} {rm : Room} {Pc : Array Value → State → Prop} {Qc : Array Value → State → Outcome → State → Prop} {XC : String → State → State → Prop} {mc ms : Nat} {free : Addr → Prop} {cc : ByteArray} {maxL : Nat} {ret : Option FieldType} {hh : List (Nat × Nat × Nat × Nat)}
    (hy : plainName y.cls = true) (hw : ws = Cond.codeWith y cc maxL ret hh :: ws')
    (body : ∀ p e s m args below meth c s₁, BodyLoose p l y (headSpec ws rm) cc maxL ret e s m args below meth c s₁ → c.maxLocals = maxL → Pc args s →
      W p l e (headSpec ws rm).room s m args below meth c s.heap [] 0 0 (vx_MQ below Qc XC args s mc ms free) (entryFrame m args maxL)) : vx_Met l y ws rm Pc Qc XC mc ms free := by
  refine MetFree.of_bodyS (code := cc) (maxLocals := maxL) (ret := ret) hy ?_ ?_
  · intro args s m h hn
    obtain ⟨m9, meth, c, hn9, h1, h2, h3, h4, -, h5, h6, -⟩ := Cond.codeWith_spec (atoms_spec (ws := ws) h _ (by rw [hw]; exact List.mem_cons_self))
    cases hn.symm.trans hn9
    exact ⟨meth, c, h1, h2, h3, h4, h5, h6⟩
  · intro p e s m args below meth c s₁ B hml hP _
    have hh0 : s₁.heap = s.heap := by rw [B.state]; rfl
    obtain ⟨t, a1, o, b1, b2, b3⟩ := body p e s m args below meth c s₁ B hml hP s₁ hh0 (Stand.of_body B)
    exact ⟨t, o, a1, b1, b2, b3⟩
/-! ===== END ===== -/
end
section
def RX0 : String := "HutLedger$Grammar"
def TX0 : u_T := fun k => match k with
  | 0 => ("HutLedger$Grammar", "text", "LHutLedger$Text;", true)
  | 1 => ("HutLedger$Grammar", "errorCode", "I", false)
  | 2 => ("HutLedger$Grammar", "errorPosition", "I", false)
  | _ => ("HutLedger$Grammar", "count", "I", false)
def tyX0 : Nat → FieldType := fun k => match k with
  | 0 => .object "HutLedger$Text"
  | 1 => .int
  | 2 => .int
  | _ => .int
theorem nmX0 : ∀ a, a < 4 → ∀ b, b < 4 → a ≠ b → (TX0 a).2.1 ≠ (TX0 b).2.1 := by decide +kernel
theorem tyX0_ok : ∀ k, k < 4 → parseFieldDescriptor (TX0 k).2.2.1 = some (tyX0 k) := by decide +kernel
abbrev cX0_init : ByteArray := prog_2_method_1_code
def yX0_init : MethodName := ⟨RX0, "<init>", "()V"⟩
abbrev cX0_readSetup : ByteArray := prog_2_method_2_code
def yX0_readSetup : MethodName := ⟨RX0, "readSetup", "(LHutLedger$Hut;)Z"⟩
abbrev cX0_begin : ByteArray := prog_2_method_3_code
def yX0_begin : MethodName := ⟨RX0, "begin", "()V"⟩
abbrev cX0_fail : ByteArray := prog_2_method_4_code
def yX0_fail : MethodName := ⟨RX0, "fail", "(I)Z"⟩
abbrev cX0_readLogs : ByteArray := prog_2_method_5_code
def yX0_readLogs : MethodName := ⟨RX0, "readLogs", "(LHutLedger$Hut;)Z"⟩
abbrev cX0_readBunks : ByteArray := prog_2_method_6_code
def yX0_readBunks : MethodName := ⟨RX0, "readBunks", "(LHutLedger$Hut;)Z"⟩
abbrev cX0_readBlankets : ByteArray := prog_2_method_7_code
def yX0_readBlankets : MethodName := ⟨RX0, "readBlankets", "(LHutLedger$Hut;)Z"⟩
abbrev cX0_readForecast : ByteArray := prog_2_method_8_code
def yX0_readForecast : MethodName := ⟨RX0, "readForecast", "(LHutLedger$Hut;)Z"⟩
abbrev cX0_readRow : ByteArray := prog_2_method_9_code
def yX0_readRow : MethodName := ⟨RX0, "readRow", "([III)Z"⟩
abbrev cX0_readHikers : ByteArray := prog_2_method_10_code
def yX0_readHikers : MethodName := ⟨RX0, "readHikers", "(LHutLedger$Hut;)Z"⟩
abbrev cX0_readHiker : ByteArray := prog_2_method_11_code
def yX0_readHiker : MethodName := ⟨RX0, "readHiker", "(LHutLedger$Hiker;)Z"⟩
abbrev cX0_readWord : ByteArray := prog_2_method_12_code
def yX0_readWord : MethodName := ⟨RX0, "readWord", "(Ljava/lang/String;)Z"⟩
abbrev cX0_readSemicolon : ByteArray := prog_2_method_13_code
def yX0_readSemicolon : MethodName := ⟨RX0, "readSemicolon", "()Z"⟩
abbrev cX0_isNumber : ByteArray := prog_2_method_14_code
def yX0_isNumber : MethodName := ⟨RX0, "isNumber", "(II)Z"⟩
def RX1 : String := "HutLedger$Hiker"
def TX1 : u_T := fun k => match k with
  | 0 => ("HutLedger$Hiker", "need", "I", false)
  | 1 => ("HutLedger$Hiker", "snore", "I", false)
  | 2 => ("HutLedger$Hiker", "coins", "I", false)
  | 3 => ("HutLedger$Hiker", "debt", "I", false)
  | 4 => ("HutLedger$Hiker", "bunk", "I", false)
  | 5 => ("HutLedger$Hiker", "blanket", "I", false)
  | 6 => ("HutLedger$Hiker", "cover", "I", false)
  | 7 => ("HutLedger$Hiker", "warmth", "I", false)
  | _ => ("HutLedger$Hiker", "hours", "[I", true)
def tyX1 : Nat → FieldType := fun k => match k with
  | 0 => .int
  | 1 => .int
  | 2 => .int
  | 3 => .int
  | 4 => .int
  | 5 => .int
  | 6 => .int
  | 7 => .int
  | _ => .array .int
theorem nmX1 : ∀ a, a < 9 → ∀ b, b < 9 → a ≠ b → (TX1 a).2.1 ≠ (TX1 b).2.1 := by decide +kernel
theorem tyX1_ok : ∀ k, k < 9 → parseFieldDescriptor (TX1 k).2.2.1 = some (tyX1 k) := by decide +kernel
abbrev cX1_init : ByteArray := prog_3_method_1_code
def yX1_init : MethodName := ⟨RX1, "<init>", "()V"⟩
abbrev cX1_copyFrom : ByteArray := prog_3_method_2_code
def yX1_copyFrom : MethodName := ⟨RX1, "copyFrom", "(LHutLedger$Hiker;)V"⟩
abbrev cX1_isCold : ByteArray := prog_3_method_3_code
def yX1_isCold : MethodName := ⟨RX1, "isCold", "()Z"⟩
abbrev cX1_payOut : ByteArray := prog_3_method_4_code
def yX1_payOut : MethodName := ⟨RX1, "payOut", "(I)I"⟩
abbrev cX1_feeForBlanket : ByteArray := prog_3_method_5_code
def yX1_feeForBlanket : MethodName := ⟨RX1, "feeForBlanket", "()I"⟩
abbrev cX1_ranksBefore : ByteArray := prog_3_method_7_code
def yX1_ranksBefore : MethodName := ⟨RX1, "ranksBefore", "(LHutLedger$Hiker;)Z"⟩
def RX2 : String := "HutLedger$History"
def TX2 : u_T := fun k => match k with
  | 0 => ("HutLedger$History", "before", "[LHutLedger$Hut;", true)
  | 1 => ("HutLedger$History", "next", "I", false)
  | _ => ("HutLedger$History", "size", "I", false)
def tyX2 : Nat → FieldType := fun k => match k with
  | 0 => .array (.object "HutLedger$Hut")
  | 1 => .int
  | _ => .int
theorem nmX2 : ∀ a, a < 3 → ∀ b, b < 3 → a ≠ b → (TX2 a).2.1 ≠ (TX2 b).2.1 := by decide +kernel
theorem tyX2_ok : ∀ k, k < 3 → parseFieldDescriptor (TX2 k).2.2.1 = some (tyX2 k) := by decide +kernel
abbrev cX2_init : ByteArray := prog_4_method_1_code
def yX2_init : MethodName := ⟨RX2, "<init>", "()V"⟩
abbrev cX2_keep : ByteArray := prog_4_method_2_code
def yX2_keep : MethodName := ⟨RX2, "keep", "(LHutLedger$Hut;)V"⟩
abbrev cX2_takeBack : ByteArray := prog_4_method_3_code
def yX2_takeBack : MethodName := ⟨RX2, "takeBack", "(LHutLedger$Hut;)V"⟩
abbrev cX2_forget : ByteArray := prog_4_method_4_code
def yX2_forget : MethodName := ⟨RX2, "forget", "()V"⟩
def RX3 : String := "HutLedger$Hut"
def TX3 : u_T := fun k => match k with
  | 0 => ("HutLedger$Hut", "hour", "I", false)
  | 1 => ("HutLedger$Hut", "logs", "I", false)
  | 2 => ("HutLedger$Hut", "heat", "I", false)
  | 3 => ("HutLedger$Hut", "rate", "I", false)
  | 4 => ("HutLedger$Hut", "paidCoins", "I", false)
  | 5 => ("HutLedger$Hut", "burned", "I", false)
  | 6 => ("HutLedger$Hut", "burnedSinceDawn", "I", false)
  | 7 => ("HutLedger$Hut", "firstCoins", "I", false)
  | 8 => ("HutLedger$Hut", "receivedLogs", "I", false)
  | 9 => ("HutLedger$Hut", "bunkCount", "I", false)
  | 10 => ("HutLedger$Hut", "blanketCount", "I", false)
  | 11 => ("HutLedger$Hut", "forecastCount", "I", false)
  | 12 => ("HutLedger$Hut", "hikerCount", "I", false)
  | 13 => ("HutLedger$Hut", "heights", "[I", true)
  | 14 => ("HutLedger$Hut", "thicknesses", "[I", true)
  | 15 => ("HutLedger$Hut", "forecast", "[I", true)
  | 16 => ("HutLedger$Hut", "sleepers", "[I", true)
  | 17 => ("HutLedger$Hut", "snores", "[I", true)
  | _ => ("HutLedger$Hut", "hikers", "[LHutLedger$Hiker;", true)
def tyX3 : Nat → FieldType := fun k => match k with
  | 0 => .int
  | 1 => .int
  | 2 => .int
  | 3 => .int
  | 4 => .int
  | 5 => .int
  | 6 => .int
  | 7 => .int
  | 8 => .int
  | 9 => .int
  | 10 => .int
  | 11 => .int
  | 12 => .int
  | 13 => .array .int
  | 14 => .array .int
  | 15 => .array .int
  | 16 => .array .int
  | 17 => .array .int
  | _ => .array (.object "HutLedger$Hiker")
theorem nmX3 : ∀ a, a < 19 → ∀ b, b < 19 → a ≠ b → (TX3 a).2.1 ≠ (TX3 b).2.1 := by decide +kernel
theorem tyX3_ok : ∀ k, k < 19 → parseFieldDescriptor (TX3 k).2.2.1 = some (tyX3 k) := by decide +kernel
abbrev cX3_init : ByteArray := prog_5_method_1_code
def yX3_init : MethodName := ⟨RX3, "<init>", "()V"⟩
abbrev cX3_open : ByteArray := prog_5_method_2_code
def yX3_open : MethodName := ⟨RX3, "open", "()V"⟩
abbrev cX3_copyFrom : ByteArray := prog_5_method_3_code
def yX3_copyFrom : MethodName := ⟨RX3, "copyFrom", "(LHutLedger$Hut;)V"⟩
abbrev cX3_hasBunk : ByteArray := prog_5_method_4_code
def yX3_hasBunk : MethodName := ⟨RX3, "hasBunk", "(I)Z"⟩
abbrev cX3_hasBlanket : ByteArray := prog_5_method_5_code
def yX3_hasBlanket : MethodName := ⟨RX3, "hasBlanket", "(I)Z"⟩
abbrev cX3_hasHiker : ByteArray := prog_5_method_6_code
def yX3_hasHiker : MethodName := ⟨RX3, "hasHiker", "(I)Z"⟩
abbrev cX3_temperatureInside : ByteArray := prog_5_method_8_code
def yX3_temperatureInside : MethodName := ⟨RX3, "temperatureInside", "()I"⟩
abbrev cX3_measure : ByteArray := prog_5_method_9_code
def yX3_measure : MethodName := ⟨RX3, "measure", "()V"⟩
abbrev cX3_warmthOfBunk : ByteArray := prog_5_method_10_code
def yX3_warmthOfBunk : MethodName := ⟨RX3, "warmthOfBunk", "(I)I"⟩
abbrev cX3_sleeperIn : ByteArray := prog_5_method_11_code
def yX3_sleeperIn : MethodName := ⟨RX3, "sleeperIn", "(I)I"⟩
abbrev cX3_noiseAt : ByteArray := prog_5_method_12_code
def yX3_noiseAt : MethodName := ⟨RX3, "noiseAt", "(I)I"⟩
abbrev cX3_activityNow : ByteArray := prog_5_method_13_code
def yX3_activityNow : MethodName := ⟨RX3, "activityNow", "(I)I"⟩
abbrev cX3_userOfBlanket : ByteArray := prog_5_method_17_code
def yX3_userOfBlanket : MethodName := ⟨RX3, "userOfBlanket", "(I)I"⟩
abbrev cX3_hikersWithoutBlanket : ByteArray := prog_5_method_27_code
def yX3_hikersWithoutBlanket : MethodName := ⟨RX3, "hikersWithoutBlanket", "()I"⟩
abbrev cX3_coldCount : ByteArray := prog_5_method_28_code
def yX3_coldCount : MethodName := ⟨RX3, "coldCount", "()I"⟩
abbrev cX3_countOf : ByteArray := prog_5_method_29_code
def yX3_countOf : MethodName := ⟨RX3, "countOf", "(I)I"⟩
abbrev cX3_hikerOfRank : ByteArray := prog_5_method_31_code
def yX3_hikerOfRank : MethodName := ⟨RX3, "hikerOfRank", "(I)I"⟩
abbrev cX3_rankOfHiker : ByteArray := prog_5_method_32_code
def yX3_rankOfHiker : MethodName := ⟨RX3, "rankOfHiker", "(I)I"⟩
abbrev cX3_sumOfCoins : ByteArray := prog_5_method_33_code
def yX3_sumOfCoins : MethodName := ⟨RX3, "sumOfCoins", "()I"⟩
abbrev cX3_sumOfDebts : ByteArray := prog_5_method_34_code
def yX3_sumOfDebts : MethodName := ⟨RX3, "sumOfDebts", "()I"⟩
abbrev cX3_sumOfWarmths : ByteArray := prog_5_method_35_code
def yX3_sumOfWarmths : MethodName := ⟨RX3, "sumOfWarmths", "()I"⟩
abbrev cX3_sumOfHours : ByteArray := prog_5_method_36_code
def yX3_sumOfHours : MethodName := ⟨RX3, "sumOfHours", "(I)I"⟩
abbrev cX3_thingsUsedTwice : ByteArray := prog_5_method_37_code
def yX3_thingsUsedTwice : MethodName := ⟨RX3, "thingsUsedTwice", "()I"⟩
abbrev cX3_passTime : ByteArray := prog_5_method_38_code
def yX3_passTime : MethodName := ⟨RX3, "passTime", "(I)I"⟩
abbrev cX3_burnLogs : ByteArray := prog_5_method_40_code
def yX3_burnLogs : MethodName := ⟨RX3, "burnLogs", "()V"⟩
abbrev cX3_noteWhatHappens : ByteArray := prog_5_method_41_code
def yX3_noteWhatHappens : MethodName := ⟨RX3, "noteWhatHappens", "()V"⟩
abbrev cX3_endHour : ByteArray := prog_5_method_42_code
def yX3_endHour : MethodName := ⟨RX3, "endHour", "()V"⟩
abbrev cX3_payForNight : ByteArray := prog_5_method_43_code
def yX3_payForNight : MethodName := ⟨RX3, "payForNight", "()V"⟩
abbrev cX3_payForLogs : ByteArray := prog_5_method_44_code
def yX3_payForLogs : MethodName := ⟨RX3, "payForLogs", "()V"⟩
abbrev cX3_partOfLogs : ByteArray := prog_5_method_45_code
def yX3_partOfLogs : MethodName := ⟨RX3, "partOfLogs", "(I)I"⟩
abbrev cX3_payForBlankets : ByteArray := prog_5_method_46_code
def yX3_payForBlankets : MethodName := ⟨RX3, "payForBlankets", "()V"⟩
abbrev cX3_faultOf : ByteArray := prog_5_method_47_code
def yX3_faultOf : MethodName := ⟨RX3, "faultOf", "(III)I"⟩
abbrev cX3_faultOfTake : ByteArray := prog_5_method_48_code
def yX3_faultOfTake : MethodName := ⟨RX3, "faultOfTake", "(II)I"⟩
abbrev cX3_faultOfReturn : ByteArray := prog_5_method_49_code
def yX3_faultOfReturn : MethodName := ⟨RX3, "faultOfReturn", "(I)I"⟩
abbrev cX3_faultOfSwap : ByteArray := prog_5_method_50_code
def yX3_faultOfSwap : MethodName := ⟨RX3, "faultOfSwap", "(II)I"⟩
abbrev cX3_faultOfLie : ByteArray := prog_5_method_51_code
def yX3_faultOfLie : MethodName := ⟨RX3, "faultOfLie", "(II)I"⟩
abbrev cX3_faultOfRise : ByteArray := prog_5_method_52_code
def yX3_faultOfRise : MethodName := ⟨RX3, "faultOfRise", "(I)I"⟩
abbrev cX3_faultOfFetch : ByteArray := prog_5_method_53_code
def yX3_faultOfFetch : MethodName := ⟨RX3, "faultOfFetch", "(I)I"⟩
abbrev cX3_faultOfPay : ByteArray := prog_5_method_54_code
def yX3_faultOfPay : MethodName := ⟨RX3, "faultOfPay", "(II)I"⟩
abbrev cX3_faultOfPass : ByteArray := prog_5_method_55_code
def yX3_faultOfPass : MethodName := ⟨RX3, "faultOfPass", "(I)I"⟩
abbrev cX3_perform : ByteArray := prog_5_method_56_code
def yX3_perform : MethodName := ⟨RX3, "perform", "(III)I"⟩
abbrev cX3_giveBlanket : ByteArray := prog_5_method_57_code
def yX3_giveBlanket : MethodName := ⟨RX3, "giveBlanket", "(II)I"⟩
abbrev cX3_exchangeBlankets : ByteArray := prog_5_method_58_code
def yX3_exchangeBlankets : MethodName := ⟨RX3, "exchangeBlankets", "(II)V"⟩
abbrev cX3_moveTo : ByteArray := prog_5_method_59_code
def yX3_moveTo : MethodName := ⟨RX3, "moveTo", "(II)I"⟩
abbrev cX3_changeRate : ByteArray := prog_5_method_60_code
def yX3_changeRate : MethodName := ⟨RX3, "changeRate", "(I)I"⟩
abbrev cX3_addLogs : ByteArray := prog_5_method_61_code
def yX3_addLogs : MethodName := ⟨RX3, "addLogs", "(I)I"⟩
abbrev cX3_payBack : ByteArray := prog_5_method_62_code
def yX3_payBack : MethodName := ⟨RX3, "payBack", "(II)I"⟩
def RX4 : String := "HutLedger$Output"
def TX4 : u_T := fun k => match k with
  | 0 => ("HutLedger$Output", "bytes", "[I", true)
  | _ => ("HutLedger$Output", "length", "I", false)
def tyX4 : Nat → FieldType := fun k => match k with
  | 0 => .array .int
  | _ => .int
theorem nmX4 : ∀ a, a < 2 → ∀ b, b < 2 → a ≠ b → (TX4 a).2.1 ≠ (TX4 b).2.1 := by decide +kernel
theorem tyX4_ok : ∀ k, k < 2 → parseFieldDescriptor (TX4 k).2.2.1 = some (tyX4 k) := by decide +kernel
abbrev cX4_init : ByteArray := prog_6_method_1_code
def yX4_init : MethodName := ⟨RX4, "<init>", "()V"⟩
def RX5 : String := "HutLedger$Planner"
def TX5 : u_T := fun k => match k with
  | _ => ("HutLedger$Planner", "trial", "LHutLedger$Hut;", true)
def tyX5 : Nat → FieldType := fun k => match k with
  | _ => .object "HutLedger$Hut"
theorem nmX5 : ∀ a, a < 1 → ∀ b, b < 1 → a ≠ b → (TX5 a).2.1 ≠ (TX5 b).2.1 := by decide +kernel
theorem tyX5_ok : ∀ k, k < 1 → parseFieldDescriptor (TX5 k).2.2.1 = some (tyX5 k) := by decide +kernel
abbrev cX5_init : ByteArray := prog_7_method_1_code
def yX5_init : MethodName := ⟨RX5, "<init>", "()V"⟩
def RX6 : String := "HutLedger$Script"
def TX6 : u_T := fun k => match k with
  | 0 => ("HutLedger$Script", "commands", "[I", true)
  | 1 => ("HutLedger$Script", "firsts", "[I", true)
  | 2 => ("HutLedger$Script", "seconds", "[I", true)
  | _ => ("HutLedger$Script", "count", "I", false)
def tyX6 : Nat → FieldType := fun k => match k with
  | 0 => .array .int
  | 1 => .array .int
  | 2 => .array .int
  | _ => .int
theorem nmX6 : ∀ a, a < 4 → ∀ b, b < 4 → a ≠ b → (TX6 a).2.1 ≠ (TX6 b).2.1 := by decide +kernel
theorem tyX6_ok : ∀ k, k < 4 → parseFieldDescriptor (TX6 k).2.2.1 = some (tyX6 k) := by decide +kernel
abbrev cX6_init : ByteArray := prog_8_method_1_code
def yX6_init : MethodName := ⟨RX6, "<init>", "()V"⟩
def RX7 : String := "HutLedger$Text"
def TX7 : u_T := fun k => match k with
  | 0 => ("HutLedger$Text", "bytes", "[I", true)
  | 1 => ("HutLedger$Text", "length", "I", false)
  | 2 => ("HutLedger$Text", "kind", "I", false)
  | 3 => ("HutLedger$Text", "start", "I", false)
  | _ => ("HutLedger$Text", "end", "I", false)
def tyX7 : Nat → FieldType := fun k => match k with
  | 0 => .array .int
  | 1 => .int
  | 2 => .int
  | 3 => .int
  | _ => .int
theorem nmX7 : ∀ a, a < 5 → ∀ b, b < 5 → a ≠ b → (TX7 a).2.1 ≠ (TX7 b).2.1 := by decide +kernel
theorem tyX7_ok : ∀ k, k < 5 → parseFieldDescriptor (TX7 k).2.2.1 = some (tyX7 k) := by decide +kernel
abbrev cX7_init : ByteArray := prog_9_method_1_code
def yX7_init : MethodName := ⟨RX7, "<init>", "()V"⟩
abbrev cX7_hasRoomFor : ByteArray := prog_9_method_2_code
def yX7_hasRoomFor : MethodName := ⟨RX7, "hasRoomFor", "(I)Z"⟩
abbrev cX7_put : ByteArray := prog_9_method_3_code
def yX7_put : MethodName := ⟨RX7, "put", "(I)V"⟩
abbrev cX7_putAll : ByteArray := prog_9_method_4_code
def yX7_putAll : MethodName := ⟨RX7, "putAll", "(Ljava/lang/String;)V"⟩
abbrev cX7_readFirst : ByteArray := prog_9_method_5_code
def yX7_readFirst : MethodName := ⟨RX7, "readFirst", "()V"⟩
abbrev cX7_readNext : ByteArray := prog_9_method_6_code
def yX7_readNext : MethodName := ⟨RX7, "readNext", "()V"⟩
abbrev cX7_kindOf : ByteArray := prog_9_method_7_code
def yX7_kindOf : MethodName := ⟨RX7, "kindOf", "(I)I"⟩
abbrev cX7_value : ByteArray := prog_9_method_8_code
def yX7_value : MethodName := ⟨RX7, "value", "()I"⟩
abbrev cX7_isWord : ByteArray := prog_9_method_9_code
def yX7_isWord : MethodName := ⟨RX7, "isWord", "(Ljava/lang/String;)Z"⟩
def RX8 : String := "HutLedger"
def TX8 : u_T := fun k => match k with
  | 0 => ("HutLedger", "present", "LHutLedger$Hut;", true)
  | 1 => ("HutLedger", "draft", "LHutLedger$Hut;", true)
  | 2 => ("HutLedger", "planner", "LHutLedger$Planner;", true)
  | 3 => ("HutLedger", "history", "LHutLedger$History;", true)
  | 4 => ("HutLedger", "snapshots", "[LHutLedger$Hut;", true)
  | 5 => ("HutLedger", "isSaved", "[Z", true)
  | 6 => ("HutLedger", "grammar", "LHutLedger$Grammar;", true)
  | 7 => ("HutLedger", "script", "LHutLedger$Script;", true)
  | _ => ("HutLedger", "output", "LHutLedger$Output;", true)
def tyX8 : Nat → FieldType := fun k => match k with
  | 0 => .object "HutLedger$Hut"
  | 1 => .object "HutLedger$Hut"
  | 2 => .object "HutLedger$Planner"
  | 3 => .object "HutLedger$History"
  | 4 => .array (.object "HutLedger$Hut")
  | 5 => .array .boolean
  | 6 => .object "HutLedger$Grammar"
  | 7 => .object "HutLedger$Script"
  | _ => .object "HutLedger$Output"
theorem nmX8 : ∀ a, a < 9 → ∀ b, b < 9 → a ≠ b → (TX8 a).2.1 ≠ (TX8 b).2.1 := by decide +kernel
theorem tyX8_ok : ∀ k, k < 9 → parseFieldDescriptor (TX8 k).2.2.1 = some (tyX8 k) := by decide +kernel
abbrev cX8_init : ByteArray := prog_1_method_1_code
def yX8_init : MethodName := ⟨RX8, "<init>", "()V"⟩
abbrev cX8_newHuts : ByteArray := prog_1_method_2_code
def yX8_newHuts : MethodName := ⟨RX8, "newHuts", "(I)[LHutLedger$Hut;"⟩
abbrev cX8_isWithin : ByteArray := prog_1_method_3_code
def yX8_isWithin : MethodName := ⟨RX8, "isWithin", "(III)Z"⟩
abbrev cX8_appendText : ByteArray := prog_1_method_4_code
def yX8_appendText : MethodName := ⟨RX8, "appendText", "(I)I"⟩
abbrev cX8_truncateText : ByteArray := prog_1_method_5_code
def yX8_truncateText : MethodName := ⟨RX8, "truncateText", "(I)I"⟩
abbrev cX8_loadSetup : ByteArray := prog_1_method_6_code
def yX8_loadSetup : MethodName := ⟨RX8, "loadSetup", "()I"⟩
abbrev cX8_hour : ByteArray := prog_1_method_10_code
def yX8_hour : MethodName := ⟨RX8, "hour", "()I"⟩
abbrev cX8_logs : ByteArray := prog_1_method_12_code
def yX8_logs : MethodName := ⟨RX8, "logs", "()I"⟩
abbrev cX8_temperature : ByteArray := prog_1_method_13_code
def yX8_temperature : MethodName := ⟨RX8, "temperature", "()I"⟩
abbrev cX8_hikerIn : ByteArray := prog_1_method_14_code
def yX8_hikerIn : MethodName := ⟨RX8, "hikerIn", "(I)I"⟩
abbrev cX8_noiseIn : ByteArray := prog_1_method_15_code
def yX8_noiseIn : MethodName := ⟨RX8, "noiseIn", "(I)I"⟩
abbrev cX8_demandBunk : ByteArray := prog_1_method_19_code
def yX8_demandBunk : MethodName := ⟨RX8, "demandBunk", "(I)V"⟩
abbrev cX8_demandHiker : ByteArray := prog_1_method_20_code
def yX8_demandHiker : MethodName := ⟨RX8, "demandHiker", "(I)V"⟩
abbrev cX8_userOf : ByteArray := prog_1_method_21_code
def yX8_userOf : MethodName := ⟨RX8, "userOf", "(I)I"⟩
abbrev cX8_bunkOf : ByteArray := prog_1_method_26_code
def yX8_bunkOf : MethodName := ⟨RX8, "bunkOf", "(I)I"⟩
abbrev cX8_blanketOf : ByteArray := prog_1_method_27_code
def yX8_blanketOf : MethodName := ⟨RX8, "blanketOf", "(I)I"⟩
abbrev cX8_warmth : ByteArray := prog_1_method_28_code
def yX8_warmth : MethodName := ⟨RX8, "warmth", "(I)I"⟩
abbrev cX8_activity : ByteArray := prog_1_method_29_code
def yX8_activity : MethodName := ⟨RX8, "activity", "(I)I"⟩
abbrev cX8_hoursOf : ByteArray := prog_1_method_30_code
def yX8_hoursOf : MethodName := ⟨RX8, "hoursOf", "(II)I"⟩
abbrev cX8_coinsOf : ByteArray := prog_1_method_31_code
def yX8_coinsOf : MethodName := ⟨RX8, "coinsOf", "(I)I"⟩
abbrev cX8_debtOf : ByteArray := prog_1_method_32_code
def yX8_debtOf : MethodName := ⟨RX8, "debtOf", "(I)I"⟩
abbrev cX8_hikerAtRank : ByteArray := prog_1_method_33_code
def yX8_hikerAtRank : MethodName := ⟨RX8, "hikerAtRank", "(I)I"⟩
abbrev cX8_hikersWithout : ByteArray := prog_1_method_35_code
def yX8_hikersWithout : MethodName := ⟨RX8, "hikersWithout", "()I"⟩
abbrev cX8_coldHikers : ByteArray := prog_1_method_36_code
def yX8_coldHikers : MethodName := ⟨RX8, "coldHikers", "()I"⟩
abbrev cX8_hutCoins : ByteArray := prog_1_method_41_code
def yX8_hutCoins : MethodName := ⟨RX8, "hutCoins", "()I"⟩
abbrev cX8_burnedLogs : ByteArray := prog_1_method_42_code
def yX8_burnedLogs : MethodName := ⟨RX8, "burnedLogs", "()I"⟩
abbrev cX8_totalDebt : ByteArray := prog_1_method_43_code
def yX8_totalDebt : MethodName := ⟨RX8, "totalDebt", "()I"⟩
abbrev cX8_auditDifference : ByteArray := prog_1_method_44_code
def yX8_auditDifference : MethodName := ⟨RX8, "auditDifference", "()I"⟩
abbrev cX8_meanWarmth : ByteArray := prog_1_method_45_code
def yX8_meanWarmth : MethodName := ⟨RX8, "meanWarmth", "()D"⟩
abbrev cX8_sleepShare : ByteArray := prog_1_method_46_code
def yX8_sleepShare : MethodName := ⟨RX8, "sleepShare", "()F"⟩
abbrev cX8_takeBlanket : ByteArray := prog_1_method_56_code
def yX8_takeBlanket : MethodName := ⟨RX8, "takeBlanket", "(II)I"⟩
abbrev cX8_returnBlanket : ByteArray := prog_1_method_57_code
def yX8_returnBlanket : MethodName := ⟨RX8, "returnBlanket", "(I)I"⟩
abbrev cX8_swapBlankets : ByteArray := prog_1_method_58_code
def yX8_swapBlankets : MethodName := ⟨RX8, "swapBlankets", "(II)I"⟩
abbrev cX8_lieDown : ByteArray := prog_1_method_59_code
def yX8_lieDown : MethodName := ⟨RX8, "lieDown", "(II)I"⟩
abbrev cX8_getUp : ByteArray := prog_1_method_60_code
def yX8_getUp : MethodName := ⟨RX8, "getUp", "(I)I"⟩
abbrev cX8_setRate : ByteArray := prog_1_method_61_code
def yX8_setRate : MethodName := ⟨RX8, "setRate", "(I)I"⟩
abbrev cX8_fetchLogs : ByteArray := prog_1_method_62_code
def yX8_fetchLogs : MethodName := ⟨RX8, "fetchLogs", "(I)I"⟩
abbrev cX8_payDebt : ByteArray := prog_1_method_63_code
def yX8_payDebt : MethodName := ⟨RX8, "payDebt", "(II)I"⟩
abbrev cX8_passHours : ByteArray := prog_1_method_64_code
def yX8_passHours : MethodName := ⟨RX8, "passHours", "(I)I"⟩
abbrev cX8_act : ByteArray := prog_1_method_65_code
def yX8_act : MethodName := ⟨RX8, "act", "(III)I"⟩
abbrev cX8_refuse : ByteArray := prog_1_method_66_code
def yX8_refuse : MethodName := ⟨RX8, "refuse", "(I)V"⟩
abbrev cX8_undo : ByteArray := prog_1_method_72_code
def yX8_undo : MethodName := ⟨RX8, "undo", "()I"⟩
def RX9 : String := "HutLedgerLaw$Hiker"
def TX9 : u_T := fun k => match k with
  | 0 => ("HutLedgerLaw$Hiker", "number", "I", false)
  | 1 => ("HutLedgerLaw$Hiker", "need", "I", false)
  | 2 => ("HutLedgerLaw$Hiker", "snore", "I", false)
  | 3 => ("HutLedgerLaw$Hiker", "coins", "I", false)
  | 4 => ("HutLedgerLaw$Hiker", "debt", "I", false)
  | 5 => ("HutLedgerLaw$Hiker", "bunk", "I", false)
  | 6 => ("HutLedgerLaw$Hiker", "blanket", "I", false)
  | _ => ("HutLedgerLaw$Hiker", "hours", "[I", true)
def tyX9 : Nat → FieldType := fun k => match k with
  | 0 => .int
  | 1 => .int
  | 2 => .int
  | 3 => .int
  | 4 => .int
  | 5 => .int
  | 6 => .int
  | _ => .array .int
theorem nmX9 : ∀ a, a < 8 → ∀ b, b < 8 → a ≠ b → (TX9 a).2.1 ≠ (TX9 b).2.1 := by decide +kernel
theorem tyX9_ok : ∀ k, k < 8 → parseFieldDescriptor (TX9 k).2.2.1 = some (tyX9 k) := by decide +kernel
abbrev cX9_init : ByteArray := prog_11_method_1_code
def yX9_init : MethodName := ⟨RX9, "<init>", "()V"⟩
def RX10 : String := "HutLedgerModel"
def TX10 : u_T := fun k => match k with
  | _ => ("", "", "", false)
def tyX10 : Nat → FieldType := fun k => match k with
  | _ => .int
theorem nmX10 : ∀ a, a < 0 → ∀ b, b < 0 → a ≠ b → (TX10 a).2.1 ≠ (TX10 b).2.1 := by decide +kernel
theorem tyX10_ok : ∀ k, k < 0 → parseFieldDescriptor (TX10 k).2.2.1 = some (tyX10 k) := by decide +kernel
def RJx145de : String := "java/io/Serializable"
def RJ5 : String := "java/lang/AbstractStringBuilder"
abbrev cJ5_init_d00df : ByteArray := prog_14_method_2_code
def yJ5_init_d00df : MethodName := ⟨RJ5, "<init>", "(I)V"⟩
abbrev cJ5_init_a7421 : ByteArray := prog_14_method_3_code
def yJ5_init_a7421 : MethodName := ⟨RJ5, "<init>", "(Ljava/lang/String;)V"⟩
abbrev cJ5_length_8abf5 : ByteArray := prog_14_method_6_code
def yJ5_length_8abf5 : MethodName := ⟨RJ5, "length", "()I"⟩
abbrev cJ5_ensureCapacityInternal_d00df : ByteArray := prog_14_method_9_code
def yJ5_ensureCapacityInternal_d00df : MethodName := ⟨RJ5, "ensureCapacityInternal", "(I)V"⟩
abbrev cJ5_newCapacity_0f7a4 : ByteArray := prog_14_method_10_code
def yJ5_newCapacity_0f7a4 : MethodName := ⟨RJ5, "newCapacity", "(I)I"⟩
abbrev cJ5_inflate_da8c8 : ByteArray := prog_14_method_11_code
def yJ5_inflate_da8c8 : MethodName := ⟨RJ5, "inflate", "()V"⟩
abbrev cJ5_append_cf1ce : ByteArray := prog_14_method_22_code
def yJ5_append_cf1ce : MethodName := ⟨RJ5, "append", "(Ljava/lang/String;)Ljava/lang/AbstractStringBuilder;"⟩
abbrev cJ5_appendNull_278bc : ByteArray := prog_14_method_26_code
def yJ5_appendNull_278bc : MethodName := ⟨RJ5, "appendNull", "()Ljava/lang/AbstractStringBuilder;"⟩
abbrev cJ5_append_3fe6f : ByteArray := prog_14_method_31_code
def yJ5_append_3fe6f : MethodName := ⟨RJ5, "append", "(C)Ljava/lang/AbstractStringBuilder;"⟩
abbrev cJ5_append_c97b9 : ByteArray := prog_14_method_32_code
def yJ5_append_c97b9 : MethodName := ⟨RJ5, "append", "(I)Ljava/lang/AbstractStringBuilder;"⟩
abbrev cJ5_getValue_6d5f1 : ByteArray := prog_14_method_64_code
def yJ5_getValue_6d5f1 : MethodName := ⟨RJ5, "getValue", "()[B"⟩
abbrev cJ5_isLatin1_aae02 : ByteArray := prog_14_method_68_code
def yJ5_isLatin1_aae02 : MethodName := ⟨RJ5, "isLatin1", "()Z"⟩
abbrev cJ5_inflateIfNeededFor_a7421 : ByteArray := prog_14_method_71_code
def yJ5_inflateIfNeededFor_a7421 : MethodName := ⟨RJ5, "inflateIfNeededFor", "(Ljava/lang/String;)V"⟩
abbrev cJ5_putStringAt_47b60 : ByteArray := prog_14_method_73_code
def yJ5_putStringAt_47b60 : MethodName := ⟨RJ5, "putStringAt", "(ILjava/lang/String;)V"⟩
def RJx2cfe8 : String := "java/lang/Appendable"
def RJx9f9b0 : String := "java/lang/CharSequence"
def RJx8e188 : String := "java/lang/Cloneable"
def RJxb160c : String := "java/lang/Comparable"
def RJ6 : String := "java/lang/Integer"
abbrev cJ6_getChars_ba4f3 : ByteArray := prog_23_method_12_code
def yJ6_getChars_ba4f3 : MethodName := ⟨RJ6, "getChars", "(II[B)I"⟩
abbrev cJ6_stringSize_0f7a4 : ByteArray := prog_23_method_13_code
def yJ6_stringSize_0f7a4 : MethodName := ⟨RJ6, "stringSize", "(I)I"⟩
def RJxab1ab : String := "java/lang/Iterable"
def RJ9 : String := "java/lang/Math"
abbrev cJ9_abs_0f7a4 : ByteArray := prog_25_method_59_code
def yJ9_abs_0f7a4 : MethodName := ⟨RJ9, "abs", "(I)I"⟩
abbrev cJ9_max_7cf53 : ByteArray := prog_25_method_65_code
def yJ9_max_7cf53 : MethodName := ⟨RJ9, "max", "(II)I"⟩
abbrev cJ9_min_7cf53 : ByteArray := prog_25_method_69_code
def yJ9_min_7cf53 : MethodName := ⟨RJ9, "min", "(II)I"⟩
def RJxd2413 : String := "java/lang/Number"
def RJ0 : String := "java/lang/String"
def TJ0 : u_T := fun k => match k with
  | 0 => ("java/lang/String", "value", "[B", true)
  | 1 => ("java/lang/String", "coder", "B", true)
  | 2 => ("java/lang/String", "hash", "I", false)
  | _ => ("java/lang/String", "hashIsZero", "Z", false)
def tyJ0 : Nat → FieldType := fun k => match k with
  | 0 => .array .byte
  | 1 => .byte
  | 2 => .int
  | _ => .boolean
theorem nmJ0 : ∀ a, a < 4 → ∀ b, b < 4 → a ≠ b → (TJ0 a).2.1 ≠ (TJ0 b).2.1 := by decide +kernel
theorem tyJ0_ok : ∀ k, k < 4 → parseFieldDescriptor (TJ0 k).2.2.1 = some (tyJ0 k) := by decide +kernel
abbrev cJ0_init_81219 : ByteArray := prog_28_method_53_code
def yJ0_init_81219 : MethodName := ⟨RJ0, "<init>", "(Ljava/lang/StringBuilder;)V"⟩
abbrev cJ0_length_8abf5 : ByteArray := prog_28_method_54_code
def yJ0_length_8abf5 : MethodName := ⟨RJ0, "length", "()I"⟩
abbrev cJ0_charAt_5068e : ByteArray := prog_28_method_56_code
def yJ0_charAt_5068e : MethodName := ⟨RJ0, "charAt", "(I)C"⟩
abbrev cJ0_getBytes_840e7 : ByteArray := prog_28_method_147_code
def yJ0_getBytes_840e7 : MethodName := ⟨RJ0, "getBytes", "([BIB)V"⟩
abbrev cJ0_init_db425 : ByteArray := prog_28_method_150_code
def yJ0_init_db425 : MethodName := ⟨RJ0, "<init>", "(Ljava/lang/AbstractStringBuilder;Ljava/lang/Void;)V"⟩
abbrev cJ0_coder_7d493 : ByteArray := prog_28_method_152_code
def yJ0_coder_7d493 : MethodName := ⟨RJ0, "coder", "()B"⟩
abbrev cJ0_isLatin1_aae02 : ByteArray := prog_28_method_154_code
def yJ0_isLatin1_aae02 : MethodName := ⟨RJ0, "isLatin1", "()Z"⟩
abbrev cJ0_checkIndex_df160 : ByteArray := prog_28_method_155_code
def yJ0_checkIndex_df160 : MethodName := ⟨RJ0, "checkIndex", "(II)V"⟩
abbrev cJ0_checkBoundsOffCount_cabcc : ByteArray := prog_28_method_157_code
def yJ0_checkBoundsOffCount_cabcc : MethodName := ⟨RJ0, "checkBoundsOffCount", "(III)I"⟩
abbrev cJ0_checkBoundsBeginEnd_23922 : ByteArray := prog_28_method_158_code
def yJ0_checkBoundsBeginEnd_23922 : MethodName := ⟨RJ0, "checkBoundsBeginEnd", "(III)V"⟩
def RJ4 : String := "java/lang/StringBuilder"
def TJ4 : u_T := fun k => match k with
  | 0 => ("java/lang/AbstractStringBuilder", "value", "[B", false)
  | 1 => ("java/lang/AbstractStringBuilder", "coder", "B", false)
  | 2 => ("java/lang/AbstractStringBuilder", "maybeLatin1", "Z", false)
  | _ => ("java/lang/AbstractStringBuilder", "count", "I", false)
def tyJ4 : Nat → FieldType := fun k => match k with
  | 0 => .array .byte
  | 1 => .byte
  | 2 => .boolean
  | _ => .int
theorem nmJ4 : ∀ a, a < 4 → ∀ b, b < 4 → a ≠ b → (TJ4 a).2.1 ≠ (TJ4 b).2.1 := by decide +kernel
theorem tyJ4_ok : ∀ k, k < 4 → parseFieldDescriptor (TJ4 k).2.2.1 = some (tyJ4 k) := by decide +kernel
abbrev cJ4_init_da8c8 : ByteArray := prog_29_method_1_code
def yJ4_init_da8c8 : MethodName := ⟨RJ4, "<init>", "()V"⟩
abbrev cJ4_init_a7421 : ByteArray := prog_29_method_3_code
def yJ4_init_a7421 : MethodName := ⟨RJ4, "<init>", "(Ljava/lang/String;)V"⟩
abbrev cJ4_append_15ec4 : ByteArray := prog_29_method_7_code
def yJ4_append_15ec4 : MethodName := ⟨RJ4, "append", "(Ljava/lang/String;)Ljava/lang/StringBuilder;"⟩
abbrev cJ4_append_cf468 : ByteArray := prog_29_method_14_code
def yJ4_append_cf468 : MethodName := ⟨RJ4, "append", "(C)Ljava/lang/StringBuilder;"⟩
abbrev cJ4_append_bf812 : ByteArray := prog_29_method_15_code
def yJ4_append_bf812 : MethodName := ⟨RJ4, "append", "(I)Ljava/lang/StringBuilder;"⟩
abbrev cJ4_toString_0e30d : ByteArray := prog_29_method_42_code
def yJ4_toString_0e30d : MethodName := ⟨RJ4, "toString", "()Ljava/lang/String;"⟩
abbrev cJ4_append_cf1ce : ByteArray := prog_29_method_80_code
def yJ4_append_cf1ce : MethodName := ⟨RJ4, "append", "(Ljava/lang/String;)Ljava/lang/AbstractStringBuilder;"⟩
abbrev cJ4_length_8abf5 : ByteArray := prog_29_method_93_code
def yJ4_length_8abf5 : MethodName := ⟨RJ4, "length", "()I"⟩
def RJ1 : String := "java/lang/StringLatin1"
abbrev cJ1_charAt_3b067 : ByteArray := prog_30_method_2_code
def yJ1_charAt_3b067 : MethodName := ⟨RJ1, "charAt", "([BI)C"⟩
abbrev cJ1_canEncode_fc78d : ByteArray := prog_30_method_3_code
def yJ1_canEncode_fc78d : MethodName := ⟨RJ1, "canEncode", "(C)Z"⟩
abbrev cJ1_inflate_0e8fd : ByteArray := prog_30_method_50_code
def yJ1_inflate_0e8fd : MethodName := ⟨RJ1, "inflate", "([BI[BII)V"⟩
def RJ2 : String := "java/lang/StringUTF16"
abbrev cJ2_newBytesFor_77867 : ByteArray := prog_31_method_2_code
def yJ2_newBytesFor_77867 : MethodName := ⟨RJ2, "newBytesFor", "(I)[B"⟩
abbrev cJ2_newBytesLength_0f7a4 : ByteArray := prog_31_method_3_code
def yJ2_newBytesLength_0f7a4 : MethodName := ⟨RJ2, "newBytesLength", "(I)I"⟩
abbrev cJ2_putChar_b72d1 : ByteArray := prog_31_method_4_code
def yJ2_putChar_b72d1 : MethodName := ⟨RJ2, "putChar", "([BII)V"⟩
abbrev cJ2_getChar_3b067 : ByteArray := prog_31_method_5_code
def yJ2_getChar_3b067 : MethodName := ⟨RJ2, "getChar", "([BI)C"⟩
abbrev cJ2_length_9d52b : ByteArray := prog_31_method_6_code
def yJ2_length_9d52b : MethodName := ⟨RJ2, "length", "([B)I"⟩
abbrev cJ2_coderFromArrayLen_85cad : ByteArray := prog_31_method_15_code
def yJ2_coderFromArrayLen_85cad : MethodName := ⟨RJ2, "coderFromArrayLen", "([BI)B"⟩
abbrev cJ2_compress_39247 : ByteArray := prog_31_method_17_code
def yJ2_compress_39247 : MethodName := ⟨RJ2, "compress", "([BII)[B"⟩
abbrev cJ2_compress_5af95 : ByteArray := prog_31_method_22_code
def yJ2_compress_5af95 : MethodName := ⟨RJ2, "compress", "([BI[BII)I"⟩
abbrev cJ2_putCharSB_b72d1 : ByteArray := prog_31_method_71_code
def yJ2_putCharSB_b72d1 : MethodName := ⟨RJ2, "putCharSB", "([BII)V"⟩
abbrev cJ2_getChars_46870 : ByteArray := prog_31_method_77_code
def yJ2_getChars_46870 : MethodName := ⟨RJ2, "getChars", "(III[B)I"⟩
abbrev cJ2_putCharsAt_cd4e5 : ByteArray := prog_31_method_81_code
def yJ2_putCharsAt_cd4e5 : MethodName := ⟨RJ2, "putCharsAt", "([BICCCC)I"⟩
abbrev cJ2_charAt_3b067 : ByteArray := prog_31_method_83_code
def yJ2_charAt_3b067 : MethodName := ⟨RJ2, "charAt", "([BI)C"⟩
abbrev cJ2_inflate_0e8fd : ByteArray := prog_31_method_86_code
def yJ2_inflate_0e8fd : MethodName := ⟨RJ2, "inflate", "([BI[BII)V"⟩
abbrev cJ2_getChars_ba4f3 : ByteArray := prog_31_method_89_code
def yJ2_getChars_ba4f3 : MethodName := ⟨RJ2, "getChars", "(II[B)I"⟩
abbrev cJ2_checkIndex_2214a : ByteArray := prog_31_method_91_code
def yJ2_checkIndex_2214a : MethodName := ⟨RJ2, "checkIndex", "(I[B)V"⟩
abbrev cJ2_checkBoundsBeginEnd_d044e : ByteArray := prog_31_method_93_code
def yJ2_checkBoundsBeginEnd_d044e : MethodName := ⟨RJ2, "checkBoundsBeginEnd", "(II[B)V"⟩
abbrev cJ2_checkBoundsOffCount_d044e : ByteArray := prog_31_method_94_code
def yJ2_checkBoundsOffCount_d044e : MethodName := ⟨RJ2, "checkBoundsOffCount", "(II[B)V"⟩
def RJ10 : String := "java/lang/System"
def RJxfd54e : String := "java/lang/constant/Constable"
def RJx3cf43 : String := "java/lang/constant/ConstantDesc"
def RJxa1e45 : String := "java/util/AbstractCollection"
abbrev cJxa1e45_init_da8c8 : ByteArray := prog_36_method_1_code
def yJxa1e45_init_da8c8 : MethodName := ⟨RJxa1e45, "<init>", "()V"⟩
def RJxc12de : String := "java/util/AbstractList"
abbrev cJxc12de_init_da8c8 : ByteArray := prog_37_method_1_code
def yJxc12de_init_da8c8 : MethodName := ⟨RJxc12de, "<init>", "()V"⟩
def RJx4a65c : String := "java/util/ArrayList"
def TJx4a65c : u_T := fun k => match k with
  | 0 => ("java/util/AbstractList", "modCount", "I", false)
  | 1 => ("java/util/ArrayList", "elementData", "[Ljava/lang/Object;", false)
  | _ => ("java/util/ArrayList", "size", "I", false)
def tyJx4a65c : Nat → FieldType := fun k => match k with
  | 0 => .int
  | 1 => .array (.object "java/lang/Object")
  | _ => .int
theorem nmJx4a65c : ∀ a, a < 3 → ∀ b, b < 3 → a ≠ b → (TJx4a65c a).2.1 ≠ (TJx4a65c b).2.1 := by decide +kernel
theorem tyJx4a65c_ok : ∀ k, k < 3 → parseFieldDescriptor (TJx4a65c k).2.2.1 = some (tyJx4a65c k) := by decide +kernel
abbrev cJx4a65c_init_da8c8 : ByteArray := prog_38_method_2_code
def yJx4a65c_init_da8c8 : MethodName := ⟨RJx4a65c, "<init>", "()V"⟩
abbrev cJx4a65c_grow_92f84 : ByteArray := prog_38_method_6_code
def yJx4a65c_grow_92f84 : MethodName := ⟨RJx4a65c, "grow", "(I)[Ljava/lang/Object;"⟩
abbrev cJx4a65c_grow_d5877 : ByteArray := prog_38_method_7_code
def yJx4a65c_grow_d5877 : MethodName := ⟨RJx4a65c, "grow", "()[Ljava/lang/Object;"⟩
abbrev cJx4a65c_size_8abf5 : ByteArray := prog_38_method_8_code
def yJx4a65c_size_8abf5 : MethodName := ⟨RJx4a65c, "size", "()I"⟩
abbrev cJx4a65c_elementData_915e3 : ByteArray := prog_38_method_18_code
def yJx4a65c_elementData_915e3 : MethodName := ⟨RJx4a65c, "elementData", "(I)Ljava/lang/Object;"⟩
abbrev cJx4a65c_get_915e3 : ByteArray := prog_38_method_20_code
def yJx4a65c_get_915e3 : MethodName := ⟨RJx4a65c, "get", "(I)Ljava/lang/Object;"⟩
abbrev cJx4a65c_add_72be8 : ByteArray := prog_38_method_24_code
def yJx4a65c_add_72be8 : MethodName := ⟨RJx4a65c, "add", "(Ljava/lang/Object;[Ljava/lang/Object;I)V"⟩
abbrev cJx4a65c_add_9ea2d : ByteArray := prog_38_method_25_code
def yJx4a65c_add_9ea2d : MethodName := ⟨RJx4a65c, "add", "(Ljava/lang/Object;)Z"⟩
abbrev cJx4a65c_clear_da8c8 : ByteArray := prog_38_method_40_code
def yJx4a65c_clear_da8c8 : MethodName := ⟨RJx4a65c, "clear", "()V"⟩
def RJ7 : String := "java/util/Arrays"
abbrev cJ7_copyOf_1904c : ByteArray := prog_39_method_119_code
def yJ7_copyOf_1904c : MethodName := ⟨RJ7, "copyOf", "([Ljava/lang/Object;I)[Ljava/lang/Object;"⟩
abbrev cJ7_copyOf_6403c : ByteArray := prog_39_method_120_code
def yJ7_copyOf_6403c : MethodName := ⟨RJ7, "copyOf", "([Ljava/lang/Object;ILjava/lang/Class;)[Ljava/lang/Object;"⟩
abbrev cJ7_copyOf_9075b : ByteArray := prog_39_method_121_code
def yJ7_copyOf_9075b : MethodName := ⟨RJ7, "copyOf", "([BI)[B"⟩
abbrev cJ7_checkLength_df160 : ByteArray := prog_39_method_131_code
def yJ7_checkLength_df160 : MethodName := ⟨RJ7, "checkLength", "(II)V"⟩
abbrev cJ7_copyOfRange_39247 : ByteArray := prog_39_method_132_code
def yJ7_copyOfRange_39247 : MethodName := ⟨RJ7, "copyOfRange", "([BII)[B"⟩
abbrev cJ7_copyOfRangeByte_39247 : ByteArray := prog_39_method_133_code
def yJ7_copyOfRangeByte_39247 : MethodName := ⟨RJ7, "copyOfRangeByte", "([BII)[B"⟩
def RJx5ef63 : String := "java/util/Collection"
def RJxbd725 : String := "java/util/List"
def RJ15 : String := "java/util/Objects"
abbrev cJ15_checkIndex_7cf53 : ByteArray := prog_43_method_17_code
def yJ15_checkIndex_7cf53 : MethodName := ⟨RJ15, "checkIndex", "(II)I"⟩
def RJxf0a74 : String := "java/util/RandomAccess"
def RJxa66e6 : String := "java/util/SequencedCollection"
def RJ8 : String := "jdk/internal/util/ArraysSupport"
abbrev cJ8_newLength_cabcc : ByteArray := prog_46_method_27_code
def yJ8_newLength_cabcc : MethodName := ⟨RJ8, "newLength", "(III)I"⟩
abbrev cJ8_hugeLength_7cf53 : ByteArray := prog_46_method_28_code
def yJ8_hugeLength_7cf53 : MethodName := ⟨RJ8, "hugeLength", "(II)I"⟩
def RJ3 : String := "jdk/internal/util/Preconditions"
abbrev cJ3_checkIndex_8e157 : ByteArray := prog_47_method_11_code
def yJ3_checkIndex_8e157 : MethodName := ⟨RJ3, "checkIndex", "(IILjava/util/function/BiFunction;)I"⟩
abbrev cJ3_checkFromToIndex_8c36e : ByteArray := prog_47_method_12_code
def yJ3_checkFromToIndex_8c36e : MethodName := ⟨RJ3, "checkFromToIndex", "(IIILjava/util/function/BiFunction;)I"⟩
abbrev cJ3_checkFromIndexSize_8c36e : ByteArray := prog_47_method_13_code
def yJ3_checkFromIndexSize_8c36e : MethodName := ⟨RJ3, "checkFromIndexSize", "(IIILjava/util/function/BiFunction;)I"⟩
def RL : String := "HutLedgerLaw"
def TL : u_T := fun k => match k with
  | 0 => ("HutLedgerLaw", "x", "LHutLedger;", true)
  | 1 => ("HutLedgerLaw", "ints", "[I", false)
  | 2 => ("HutLedgerLaw", "next", "I", false)
  | 3 => ("HutLedgerLaw", "hikers", "Ljava/util/ArrayList;", true)
  | 4 => ("HutLedgerLaw", "height", "[I", true)
  | 5 => ("HutLedgerLaw", "thick", "[I", true)
  | 6 => ("HutLedgerLaw", "outside", "[I", true)
  | 7 => ("HutLedgerLaw", "bunks", "I", false)
  | 8 => ("HutLedgerLaw", "blankets", "I", false)
  | 9 => ("HutLedgerLaw", "days", "I", false)
  | 10 => ("HutLedgerLaw", "logs", "I", false)
  | 11 => ("HutLedgerLaw", "rate", "I", false)
  | 12 => ("HutLedgerLaw", "heat", "I", false)
  | 13 => ("HutLedgerLaw", "hour", "I", false)
  | 14 => ("HutLedgerLaw", "burned", "I", false)
  | 15 => ("HutLedgerLaw", "since", "I", false)
  | _ => ("HutLedgerLaw", "hut", "I", false)
def tyL : Nat → FieldType := fun k => match k with
  | 0 => .object "HutLedger"
  | 1 => .array .int
  | 2 => .int
  | 3 => .object "java/util/ArrayList"
  | 4 => .array .int
  | 5 => .array .int
  | 6 => .array .int
  | 7 => .int
  | 8 => .int
  | 9 => .int
  | 10 => .int
  | 11 => .int
  | 12 => .int
  | 13 => .int
  | 14 => .int
  | 15 => .int
  | _ => .int
theorem nmL : ∀ a, a < 17 → ∀ b, b < 17 → a ≠ b → (TL a).2.1 ≠ (TL b).2.1 := by decide +kernel
theorem tyL_ok : ∀ k, k < 17 → parseFieldDescriptor (TL k).2.2.1 = some (tyL k) := by decide +kernel
abbrev cL_init : ByteArray := method_1_code
def yL_init : MethodName := ⟨RL, "<init>", "()V"⟩
abbrev cL_at : ByteArray := method_2_code
def yL_at : MethodName := ⟨RL, "at", "([II)I"⟩
abbrev cL_draw : ByteArray := method_3_code
def yL_draw : MethodName := ⟨RL, "draw", "(I)I"⟩
abbrev cL_appendText : ByteArray := method_4_code
def yL_appendText : MethodName := ⟨RL, "appendText", "(LHutLedger;I)I"⟩
abbrev cL_truncateText : ByteArray := method_5_code
def yL_truncateText : MethodName := ⟨RL, "truncateText", "(LHutLedger;I)I"⟩
abbrev cL_hikerIn : ByteArray := method_6_code
def yL_hikerIn : MethodName := ⟨RL, "hikerIn", "(LHutLedger;I)I"⟩
abbrev cL_noiseIn : ByteArray := method_7_code
def yL_noiseIn : MethodName := ⟨RL, "noiseIn", "(LHutLedger;I)I"⟩
abbrev cL_userOf : ByteArray := method_8_code
def yL_userOf : MethodName := ⟨RL, "userOf", "(LHutLedger;I)I"⟩
abbrev cL_bunkOf : ByteArray := method_9_code
def yL_bunkOf : MethodName := ⟨RL, "bunkOf", "(LHutLedger;I)I"⟩
abbrev cL_blanketOf : ByteArray := method_10_code
def yL_blanketOf : MethodName := ⟨RL, "blanketOf", "(LHutLedger;I)I"⟩
abbrev cL_warmth : ByteArray := method_11_code
def yL_warmth : MethodName := ⟨RL, "warmth", "(LHutLedger;I)I"⟩
abbrev cL_activity : ByteArray := method_12_code
def yL_activity : MethodName := ⟨RL, "activity", "(LHutLedger;I)I"⟩
abbrev cL_hoursOf : ByteArray := method_13_code
def yL_hoursOf : MethodName := ⟨RL, "hoursOf", "(LHutLedger;II)I"⟩
abbrev cL_coinsOf : ByteArray := method_14_code
def yL_coinsOf : MethodName := ⟨RL, "coinsOf", "(LHutLedger;I)I"⟩
abbrev cL_debtOf : ByteArray := method_15_code
def yL_debtOf : MethodName := ⟨RL, "debtOf", "(LHutLedger;I)I"⟩
abbrev cL_takeBlanket : ByteArray := method_16_code
def yL_takeBlanket : MethodName := ⟨RL, "takeBlanket", "(LHutLedger;II)I"⟩
abbrev cL_returnBlanket : ByteArray := method_17_code
def yL_returnBlanket : MethodName := ⟨RL, "returnBlanket", "(LHutLedger;I)I"⟩
abbrev cL_swapBlankets : ByteArray := method_18_code
def yL_swapBlankets : MethodName := ⟨RL, "swapBlankets", "(LHutLedger;II)I"⟩
abbrev cL_lieDown : ByteArray := method_19_code
def yL_lieDown : MethodName := ⟨RL, "lieDown", "(LHutLedger;II)I"⟩
abbrev cL_getUp : ByteArray := method_20_code
def yL_getUp : MethodName := ⟨RL, "getUp", "(LHutLedger;I)I"⟩
abbrev cL_setRate : ByteArray := method_21_code
def yL_setRate : MethodName := ⟨RL, "setRate", "(LHutLedger;I)I"⟩
abbrev cL_fetchLogs : ByteArray := method_22_code
def yL_fetchLogs : MethodName := ⟨RL, "fetchLogs", "(LHutLedger;I)I"⟩
abbrev cL_payDebt : ByteArray := method_23_code
def yL_payDebt : MethodName := ⟨RL, "payDebt", "(LHutLedger;II)I"⟩
abbrev cL_passHours : ByteArray := method_24_code
def yL_passHours : MethodName := ⟨RL, "passHours", "(LHutLedger;I)I"⟩
abbrev cL_lays : ByteArray := method_25_code
def yL_lays : MethodName := ⟨RL, "lays", "(Ljava/lang/String;)Z"⟩
abbrev cL_ranked : ByteArray := method_26_code
def yL_ranked : MethodName := ⟨RL, "ranked", "(LHutLedger;I)I"⟩
abbrev cL_back : ByteArray := method_27_code
def yL_back : MethodName := ⟨RL, "back", "(LHutLedger;)I"⟩
abbrev cL_loads : ByteArray := method_28_code
def yL_loads : MethodName := ⟨RL, "loads", "()Z"⟩
abbrev cL_in : ByteArray := method_29_code
def yL_in : MethodName := ⟨RL, "in", "(I)LHutLedgerLaw$Hiker;"⟩
abbrev cL_under : ByteArray := method_30_code
def yL_under : MethodName := ⟨RL, "under", "(I)LHutLedgerLaw$Hiker;"⟩
abbrev cL_warm : ByteArray := method_31_code
def yL_warm : MethodName := ⟨RL, "warm", "(LHutLedgerLaw$Hiker;)I"⟩
abbrev cL_isCold : ByteArray := method_32_code
def yL_isCold : MethodName := ⟨RL, "isCold", "(LHutLedgerLaw$Hiker;)Z"⟩
abbrev cL_loud : ByteArray := method_33_code
def yL_loud : MethodName := ⟨RL, "loud", "(I)I"⟩
abbrev cL_noise : ByteArray := method_34_code
def yL_noise : MethodName := ⟨RL, "noise", "(I)I"⟩
abbrev cL_does : ByteArray := method_35_code
def yL_does : MethodName := ⟨RL, "does", "(LHutLedgerLaw$Hiker;)I"⟩
abbrev cL_pays : ByteArray := method_36_code
def yL_pays : MethodName := ⟨RL, "pays", "(LHutLedgerLaw$Hiker;I)I"⟩
abbrev cL_dawns : ByteArray := method_37_code
def yL_dawns : MethodName := ⟨RL, "dawns", "()V"⟩
abbrev cL_passes : ByteArray := method_38_code
def yL_passes : MethodName := ⟨RL, "passes", "()V"⟩
abbrev cL_same : ByteArray := method_39_code
def yL_same : MethodName := ⟨RL, "same", "()Z"⟩
abbrev cL_act : ByteArray := method_40_code
def yL_act : MethodName := ⟨RL, "act", "()Z"⟩
abbrev cL_holds : ByteArray := method_41_code
def yL_holds : MethodName := ⟨RL, "holds", "([I)Z"⟩
abbrev cL_law : ByteArray := code
def yL_law : MethodName := ⟨RL, "law", "([I)Z"⟩
/-- the classes whose objects the picture holds, in an order of our own -/
abbrev vwCl : List vw_C := [(RX0, TX0, 4), (RX1, TX1, 9), (RX2, TX2, 3), (RX3, TX3, 19), (RX4, TX4, 2), (RX5, TX5, 1), (RX6, TX6, 4), (RX7, TX7, 5), (RX8, TX8, 9), (RX9, TX9, 8), (RL, TL, 17), (RJ4, TJ4, 4), (RJx4a65c, TJx4a65c, 3), (RJ0, TJ0, 4)]
end
section
theorem dX0_init_0 : decode cX0_init 0 = .ok (.aload_n 0, 1) := by decide +kernel
theorem dX0_init_1 : decode cX0_init 1 = .ok (.invokespecial 3, 3) := by decide +kernel
theorem dX0_init_4 : decode cX0_init 4 = .ok (.aload_n 0, 1) := by decide +kernel
theorem dX0_init_5 : decode cX0_init 5 = .ok (.new 9, 3) := by decide +kernel
theorem dX0_init_8 : decode cX0_init 8 = .ok (.dup, 1) := by decide +kernel
theorem dX0_init_9 : decode cX0_init 9 = .ok (.invokespecial 11, 3) := by decide +kernel
theorem dX0_init_12 : decode cX0_init 12 = .ok (.putfield 12, 3) := by decide +kernel
theorem dX0_init_15 : decode cX0_init 15 = .ok (.aload_n 0, 1) := by decide +kernel
theorem dX0_init_16 : decode cX0_init 16 = .ok (.iconst 0, 1) := by decide +kernel
theorem dX0_init_17 : decode cX0_init 17 = .ok (.putfield 18, 3) := by decide +kernel
theorem dX0_init_20 : decode cX0_init 20 = .ok (.aload_n 0, 1) := by decide +kernel
theorem dX0_init_21 : decode cX0_init 21 = .ok (.iconst (-1), 1) := by decide +kernel
theorem dX0_init_22 : decode cX0_init 22 = .ok (.putfield 22, 3) := by decide +kernel
theorem dX0_init_25 : decode cX0_init 25 = .ok (.return_, 1) := by decide +kernel
theorem dX0_readSetup_0 : decode cX0_readSetup 0 = .ok (.aload_n 0, 1) := by decide +kernel
theorem dX0_readSetup_1 : decode cX0_readSetup 1 = .ok (.invokevirtual 25, 3) := by decide +kernel
theorem dX0_readSetup_4 : decode cX0_readSetup 4 = .ok (.aload_n 0, 1) := by decide +kernel
theorem dX0_readSetup_5 : decode cX0_readSetup 5 = .ok (.aload_n 1, 1) := by decide +kernel
theorem dX0_readSetup_6 : decode cX0_readSetup 6 = .ok (.invokevirtual 28, 3) := by decide +kernel
theorem dX0_readSetup_9 : decode cX0_readSetup 9 = .ok (.ifCond .eq 39, 3) := by decide +kernel
theorem dX0_readSetup_12 : decode cX0_readSetup 12 = .ok (.aload_n 0, 1) := by decide +kernel
theorem dX0_readSetup_13 : decode cX0_readSetup 13 = .ok (.aload_n 1, 1) := by decide +kernel
theorem dX0_readSetup_14 : decode cX0_readSetup 14 = .ok (.invokevirtual 32, 3) := by decide +kernel
theorem dX0_readSetup_17 : decode cX0_readSetup 17 = .ok (.ifCond .eq 31, 3) := by decide +kernel
theorem dX0_readSetup_20 : decode cX0_readSetup 20 = .ok (.aload_n 0, 1) := by decide +kernel
theorem dX0_readSetup_21 : decode cX0_readSetup 21 = .ok (.aload_n 1, 1) := by decide +kernel
theorem dX0_readSetup_22 : decode cX0_readSetup 22 = .ok (.invokevirtual 35, 3) := by decide +kernel
theorem dX0_readSetup_25 : decode cX0_readSetup 25 = .ok (.ifCond .eq 23, 3) := by decide +kernel
theorem dX0_readSetup_28 : decode cX0_readSetup 28 = .ok (.aload_n 0, 1) := by decide +kernel
theorem dX0_readSetup_29 : decode cX0_readSetup 29 = .ok (.aload_n 1, 1) := by decide +kernel
theorem dX0_readSetup_30 : decode cX0_readSetup 30 = .ok (.invokevirtual 38, 3) := by decide +kernel
theorem dX0_readSetup_33 : decode cX0_readSetup 33 = .ok (.ifCond .eq 15, 3) := by decide +kernel
theorem dX0_readSetup_36 : decode cX0_readSetup 36 = .ok (.aload_n 0, 1) := by decide +kernel
theorem dX0_readSetup_37 : decode cX0_readSetup 37 = .ok (.aload_n 1, 1) := by decide +kernel
theorem dX0_readSetup_38 : decode cX0_readSetup 38 = .ok (.invokevirtual 41, 3) := by decide +kernel
theorem dX0_readSetup_41 : decode cX0_readSetup 41 = .ok (.ifCond .eq 7, 3) := by decide +kernel
theorem dX0_readSetup_44 : decode cX0_readSetup 44 = .ok (.iconst 1, 1) := by decide +kernel
theorem dX0_readSetup_45 : decode cX0_readSetup 45 = .ok (.goto 4, 3) := by decide +kernel
theorem dX0_readSetup_48 : decode cX0_readSetup 48 = .ok (.iconst 0, 1) := by decide +kernel
theorem dX0_readSetup_49 : decode cX0_readSetup 49 = .ok (.istore_n 2, 1) := by decide +kernel
theorem dX0_readSetup_50 : decode cX0_readSetup 50 = .ok (.iload_n 2, 1) := by decide +kernel
theorem dX0_readSetup_51 : decode cX0_readSetup 51 = .ok (.ifCond .eq 7, 3) := by decide +kernel
theorem dX0_readSetup_54 : decode cX0_readSetup 54 = .ok (.aload_n 1, 1) := by decide +kernel
theorem dX0_readSetup_55 : decode cX0_readSetup 55 = .ok (.invokevirtual 44, 3) := by decide +kernel
theorem dX0_readSetup_58 : decode cX0_readSetup 58 = .ok (.iload_n 2, 1) := by decide +kernel
theorem dX0_readSetup_59 : decode cX0_readSetup 59 = .ok (.ireturn, 1) := by decide +kernel
theorem dX0_begin_0 : decode cX0_begin 0 = .ok (.aload_n 0, 1) := by decide +kernel
theorem dX0_begin_1 : decode cX0_begin 1 = .ok (.iconst 0, 1) := by decide +kernel
theorem dX0_begin_2 : decode cX0_begin 2 = .ok (.putfield 18, 3) := by decide +kernel
theorem dX0_begin_5 : decode cX0_begin 5 = .ok (.aload_n 0, 1) := by decide +kernel
theorem dX0_begin_6 : decode cX0_begin 6 = .ok (.iconst (-1), 1) := by decide +kernel
theorem dX0_begin_7 : decode cX0_begin 7 = .ok (.putfield 22, 3) := by decide +kernel
theorem dX0_begin_10 : decode cX0_begin 10 = .ok (.aload_n 0, 1) := by decide +kernel
theorem dX0_begin_11 : decode cX0_begin 11 = .ok (.getfield 12, 3) := by decide +kernel
theorem dX0_begin_14 : decode cX0_begin 14 = .ok (.invokevirtual 49, 3) := by decide +kernel
theorem dX0_begin_17 : decode cX0_begin 17 = .ok (.return_, 1) := by decide +kernel
theorem dX0_fail_0 : decode cX0_fail 0 = .ok (.aload_n 0, 1) := by decide +kernel
theorem dX0_fail_1 : decode cX0_fail 1 = .ok (.iload_n 1, 1) := by decide +kernel
theorem dX0_fail_2 : decode cX0_fail 2 = .ok (.putfield 18, 3) := by decide +kernel
theorem dX0_fail_5 : decode cX0_fail 5 = .ok (.aload_n 0, 1) := by decide +kernel
theorem dX0_fail_6 : decode cX0_fail 6 = .ok (.aload_n 0, 1) := by decide +kernel
theorem dX0_fail_7 : decode cX0_fail 7 = .ok (.getfield 12, 3) := by decide +kernel
theorem dX0_fail_10 : decode cX0_fail 10 = .ok (.getfield 52, 3) := by decide +kernel
theorem dX0_fail_13 : decode cX0_fail 13 = .ok (.putfield 22, 3) := by decide +kernel
theorem dX0_fail_16 : decode cX0_fail 16 = .ok (.iconst 0, 1) := by decide +kernel
theorem dX0_fail_17 : decode cX0_fail 17 = .ok (.ireturn, 1) := by decide +kernel
theorem dX0_readLogs_0 : decode cX0_readLogs 0 = .ok (.aload_n 0, 1) := by decide +kernel
theorem dX0_readLogs_1 : decode cX0_readLogs 1 = .ok (.ldc 55, 2) := by decide +kernel
theorem dX0_readLogs_3 : decode cX0_readLogs 3 = .ok (.invokevirtual 57, 3) := by decide +kernel
theorem dX0_readLogs_6 : decode cX0_readLogs 6 = .ok (.ifCond .eq 13, 3) := by decide +kernel
theorem dX0_readLogs_9 : decode cX0_readLogs 9 = .ok (.aload_n 0, 1) := by decide +kernel
theorem dX0_readLogs_10 : decode cX0_readLogs 10 = .ok (.iconst 0, 1) := by decide +kernel
theorem dX0_readLogs_11 : decode cX0_readLogs 11 = .ok (.bipush 99, 2) := by decide +kernel
theorem dX0_readLogs_13 : decode cX0_readLogs 13 = .ok (.invokevirtual 61, 3) := by decide +kernel
theorem dX0_readLogs_16 : decode cX0_readLogs 16 = .ok (.ifCond .ne 5, 3) := by decide +kernel
theorem dX0_readLogs_19 : decode cX0_readLogs 19 = .ok (.iconst 0, 1) := by decide +kernel
theorem dX0_readLogs_20 : decode cX0_readLogs 20 = .ok (.ireturn, 1) := by decide +kernel
theorem dX0_readLogs_21 : decode cX0_readLogs 21 = .ok (.aload_n 1, 1) := by decide +kernel
theorem dX0_readLogs_22 : decode cX0_readLogs 22 = .ok (.aload_n 0, 1) := by decide +kernel
theorem dX0_readLogs_23 : decode cX0_readLogs 23 = .ok (.getfield 12, 3) := by decide +kernel
theorem dX0_readLogs_26 : decode cX0_readLogs 26 = .ok (.invokevirtual 65, 3) := by decide +kernel
theorem dX0_readLogs_29 : decode cX0_readLogs 29 = .ok (.putfield 69, 3) := by decide +kernel
theorem dX0_readLogs_32 : decode cX0_readLogs 32 = .ok (.aload_n 0, 1) := by decide +kernel
theorem dX0_readLogs_33 : decode cX0_readLogs 33 = .ok (.getfield 12, 3) := by decide +kernel
theorem dX0_readLogs_36 : decode cX0_readLogs 36 = .ok (.invokevirtual 72, 3) := by decide +kernel
theorem dX0_readLogs_39 : decode cX0_readLogs 39 = .ok (.aload_n 0, 1) := by decide +kernel
theorem dX0_readLogs_40 : decode cX0_readLogs 40 = .ok (.invokevirtual 75, 3) := by decide +kernel
theorem dX0_readLogs_43 : decode cX0_readLogs 43 = .ok (.ireturn, 1) := by decide +kernel
theorem dX0_readBunks_0 : decode cX0_readBunks 0 = .ok (.aload_n 0, 1) := by decide +kernel
theorem dX0_readBunks_1 : decode cX0_readBunks 1 = .ok (.ldc 79, 2) := by decide +kernel
theorem dX0_readBunks_3 : decode cX0_readBunks 3 = .ok (.invokevirtual 57, 3) := by decide +kernel
theorem dX0_readBunks_6 : decode cX0_readBunks 6 = .ok (.ifCond .eq 29, 3) := by decide +kernel
theorem dX0_readBunks_9 : decode cX0_readBunks 9 = .ok (.aload_n 0, 1) := by decide +kernel
theorem dX0_readBunks_10 : decode cX0_readBunks 10 = .ok (.iconst 0, 1) := by decide +kernel
theorem dX0_readBunks_11 : decode cX0_readBunks 11 = .ok (.iconst 5, 1) := by decide +kernel
theorem dX0_readBunks_12 : decode cX0_readBunks 12 = .ok (.invokevirtual 61, 3) := by decide +kernel
theorem dX0_readBunks_15 : decode cX0_readBunks 15 = .ok (.ifCond .eq 20, 3) := by decide +kernel
theorem dX0_readBunks_18 : decode cX0_readBunks 18 = .ok (.aload_n 0, 1) := by decide +kernel
theorem dX0_readBunks_19 : decode cX0_readBunks 19 = .ok (.aload_n 1, 1) := by decide +kernel
theorem dX0_readBunks_20 : decode cX0_readBunks 20 = .ok (.getfield 81, 3) := by decide +kernel
theorem dX0_readBunks_23 : decode cX0_readBunks 23 = .ok (.iconst 0, 1) := by decide +kernel
theorem dX0_readBunks_24 : decode cX0_readBunks 24 = .ok (.iconst 5, 1) := by decide +kernel
theorem dX0_readBunks_25 : decode cX0_readBunks 25 = .ok (.invokevirtual 85, 3) := by decide +kernel
theorem dX0_readBunks_28 : decode cX0_readBunks 28 = .ok (.ifCond .eq 7, 3) := by decide +kernel
theorem dX0_readBunks_31 : decode cX0_readBunks 31 = .ok (.iconst 1, 1) := by decide +kernel
theorem dX0_readBunks_32 : decode cX0_readBunks 32 = .ok (.goto 4, 3) := by decide +kernel
theorem dX0_readBunks_35 : decode cX0_readBunks 35 = .ok (.iconst 0, 1) := by decide +kernel
theorem dX0_readBunks_36 : decode cX0_readBunks 36 = .ok (.istore_n 2, 1) := by decide +kernel
theorem dX0_readBunks_37 : decode cX0_readBunks 37 = .ok (.aload_n 1, 1) := by decide +kernel
theorem dX0_readBunks_38 : decode cX0_readBunks 38 = .ok (.aload_n 0, 1) := by decide +kernel
theorem dX0_readBunks_39 : decode cX0_readBunks 39 = .ok (.getfield 89, 3) := by decide +kernel
theorem dX0_readBunks_42 : decode cX0_readBunks 42 = .ok (.putfield 92, 3) := by decide +kernel
theorem dX0_readBunks_45 : decode cX0_readBunks 45 = .ok (.iload_n 2, 1) := by decide +kernel
theorem dX0_readBunks_46 : decode cX0_readBunks 46 = .ok (.ireturn, 1) := by decide +kernel
theorem dX0_readBlankets_0 : decode cX0_readBlankets 0 = .ok (.aload_n 0, 1) := by decide +kernel
theorem dX0_readBlankets_1 : decode cX0_readBlankets 1 = .ok (.ldc 95, 2) := by decide +kernel
theorem dX0_readBlankets_3 : decode cX0_readBlankets 3 = .ok (.invokevirtual 57, 3) := by decide +kernel
theorem dX0_readBlankets_6 : decode cX0_readBlankets 6 = .ok (.ifCond .eq 21, 3) := by decide +kernel
theorem dX0_readBlankets_9 : decode cX0_readBlankets 9 = .ok (.aload_n 0, 1) := by decide +kernel
theorem dX0_readBlankets_10 : decode cX0_readBlankets 10 = .ok (.aload_n 1, 1) := by decide +kernel
theorem dX0_readBlankets_11 : decode cX0_readBlankets 11 = .ok (.getfield 97, 3) := by decide +kernel
theorem dX0_readBlankets_14 : decode cX0_readBlankets 14 = .ok (.iconst 1, 1) := by decide +kernel
theorem dX0_readBlankets_15 : decode cX0_readBlankets 15 = .ok (.bipush 9, 2) := by decide +kernel
theorem dX0_readBlankets_17 : decode cX0_readBlankets 17 = .ok (.invokevirtual 85, 3) := by decide +kernel
theorem dX0_readBlankets_20 : decode cX0_readBlankets 20 = .ok (.ifCond .eq 7, 3) := by decide +kernel
theorem dX0_readBlankets_23 : decode cX0_readBlankets 23 = .ok (.iconst 1, 1) := by decide +kernel
theorem dX0_readBlankets_24 : decode cX0_readBlankets 24 = .ok (.goto 4, 3) := by decide +kernel
theorem dX0_readBlankets_27 : decode cX0_readBlankets 27 = .ok (.iconst 0, 1) := by decide +kernel
theorem dX0_readBlankets_28 : decode cX0_readBlankets 28 = .ok (.istore_n 2, 1) := by decide +kernel
theorem dX0_readBlankets_29 : decode cX0_readBlankets 29 = .ok (.aload_n 1, 1) := by decide +kernel
theorem dX0_readBlankets_30 : decode cX0_readBlankets 30 = .ok (.aload_n 0, 1) := by decide +kernel
theorem dX0_readBlankets_31 : decode cX0_readBlankets 31 = .ok (.getfield 89, 3) := by decide +kernel
theorem dX0_readBlankets_34 : decode cX0_readBlankets 34 = .ok (.putfield 100, 3) := by decide +kernel
theorem dX0_readBlankets_37 : decode cX0_readBlankets 37 = .ok (.iload_n 2, 1) := by decide +kernel
theorem dX0_readBlankets_38 : decode cX0_readBlankets 38 = .ok (.ireturn, 1) := by decide +kernel
theorem dX0_readForecast_0 : decode cX0_readForecast 0 = .ok (.aload_n 0, 1) := by decide +kernel
theorem dX0_readForecast_1 : decode cX0_readForecast 1 = .ok (.ldc 103, 2) := by decide +kernel
theorem dX0_readForecast_3 : decode cX0_readForecast 3 = .ok (.invokevirtual 57, 3) := by decide +kernel
theorem dX0_readForecast_6 : decode cX0_readForecast 6 = .ok (.ifCond .eq 31, 3) := by decide +kernel
theorem dX0_readForecast_9 : decode cX0_readForecast 9 = .ok (.aload_n 0, 1) := by decide +kernel
theorem dX0_readForecast_10 : decode cX0_readForecast 10 = .ok (.iconst 0, 1) := by decide +kernel
theorem dX0_readForecast_11 : decode cX0_readForecast 11 = .ok (.bipush 20, 2) := by decide +kernel
theorem dX0_readForecast_13 : decode cX0_readForecast 13 = .ok (.invokevirtual 61, 3) := by decide +kernel
theorem dX0_readForecast_16 : decode cX0_readForecast 16 = .ok (.ifCond .eq 21, 3) := by decide +kernel
theorem dX0_readForecast_19 : decode cX0_readForecast 19 = .ok (.aload_n 0, 1) := by decide +kernel
theorem dX0_readForecast_20 : decode cX0_readForecast 20 = .ok (.aload_n 1, 1) := by decide +kernel
theorem dX0_readForecast_21 : decode cX0_readForecast 21 = .ok (.getfield 105, 3) := by decide +kernel
theorem dX0_readForecast_24 : decode cX0_readForecast 24 = .ok (.iconst 0, 1) := by decide +kernel
theorem dX0_readForecast_25 : decode cX0_readForecast 25 = .ok (.bipush 20, 2) := by decide +kernel
theorem dX0_readForecast_27 : decode cX0_readForecast 27 = .ok (.invokevirtual 85, 3) := by decide +kernel
theorem dX0_readForecast_30 : decode cX0_readForecast 30 = .ok (.ifCond .eq 7, 3) := by decide +kernel
theorem dX0_readForecast_33 : decode cX0_readForecast 33 = .ok (.iconst 1, 1) := by decide +kernel
theorem dX0_readForecast_34 : decode cX0_readForecast 34 = .ok (.goto 4, 3) := by decide +kernel
theorem dX0_readForecast_37 : decode cX0_readForecast 37 = .ok (.iconst 0, 1) := by decide +kernel
theorem dX0_readForecast_38 : decode cX0_readForecast 38 = .ok (.istore_n 2, 1) := by decide +kernel
theorem dX0_readForecast_39 : decode cX0_readForecast 39 = .ok (.aload_n 1, 1) := by decide +kernel
theorem dX0_readForecast_40 : decode cX0_readForecast 40 = .ok (.aload_n 0, 1) := by decide +kernel
theorem dX0_readForecast_41 : decode cX0_readForecast 41 = .ok (.getfield 89, 3) := by decide +kernel
theorem dX0_readForecast_44 : decode cX0_readForecast 44 = .ok (.putfield 107, 3) := by decide +kernel
theorem dX0_readForecast_47 : decode cX0_readForecast 47 = .ok (.iload_n 2, 1) := by decide +kernel
theorem dX0_readForecast_48 : decode cX0_readForecast 48 = .ok (.ireturn, 1) := by decide +kernel
theorem dX0_readRow_0 : decode cX0_readRow 0 = .ok (.aload_n 0, 1) := by decide +kernel
theorem dX0_readRow_1 : decode cX0_readRow 1 = .ok (.iconst 0, 1) := by decide +kernel
theorem dX0_readRow_2 : decode cX0_readRow 2 = .ok (.putfield 89, 3) := by decide +kernel
theorem dX0_readRow_5 : decode cX0_readRow 5 = .ok (.iconst 0, 1) := by decide +kernel
theorem dX0_readRow_6 : decode cX0_readRow 6 = .ok (.istore 4, 2) := by decide +kernel
theorem dX0_readRow_8 : decode cX0_readRow 8 = .ok (.iload 4, 2) := by decide +kernel
theorem dX0_readRow_10 : decode cX0_readRow 10 = .ok (.aload_n 1, 1) := by decide +kernel
theorem dX0_readRow_11 : decode cX0_readRow 11 = .ok (.arraylength, 1) := by decide +kernel
theorem dX0_readRow_12 : decode cX0_readRow 12 = .ok (.if_icmp .gt 70, 3) := by decide +kernel
theorem dX0_readRow_15 : decode cX0_readRow 15 = .ok (.aload_n 0, 1) := by decide +kernel
theorem dX0_readRow_16 : decode cX0_readRow 16 = .ok (.getfield 12, 3) := by decide +kernel
theorem dX0_readRow_19 : decode cX0_readRow 19 = .ok (.getfield 110, 3) := by decide +kernel
theorem dX0_readRow_22 : decode cX0_readRow 22 = .ok (.iconst 2, 1) := by decide +kernel
theorem dX0_readRow_23 : decode cX0_readRow 23 = .ok (.if_icmp .ne 59, 3) := by decide +kernel
theorem dX0_readRow_26 : decode cX0_readRow 26 = .ok (.aload_n 0, 1) := by decide +kernel
theorem dX0_readRow_27 : decode cX0_readRow 27 = .ok (.iload_n 2, 1) := by decide +kernel
theorem dX0_readRow_28 : decode cX0_readRow 28 = .ok (.iload_n 3, 1) := by decide +kernel
theorem dX0_readRow_29 : decode cX0_readRow 29 = .ok (.invokevirtual 61, 3) := by decide +kernel
theorem dX0_readRow_32 : decode cX0_readRow 32 = .ok (.ifCond .ne 5, 3) := by decide +kernel
theorem dX0_readRow_35 : decode cX0_readRow 35 = .ok (.iconst 0, 1) := by decide +kernel
theorem dX0_readRow_36 : decode cX0_readRow 36 = .ok (.ireturn, 1) := by decide +kernel
theorem dX0_readRow_37 : decode cX0_readRow 37 = .ok (.iload 4, 2) := by decide +kernel
theorem dX0_readRow_39 : decode cX0_readRow 39 = .ok (.aload_n 1, 1) := by decide +kernel
theorem dX0_readRow_40 : decode cX0_readRow 40 = .ok (.arraylength, 1) := by decide +kernel
theorem dX0_readRow_41 : decode cX0_readRow 41 = .ok (.if_icmp .lt 9, 3) := by decide +kernel
theorem dX0_readRow_44 : decode cX0_readRow 44 = .ok (.aload_n 0, 1) := by decide +kernel
theorem dX0_readRow_45 : decode cX0_readRow 45 = .ok (.iconst 3, 1) := by decide +kernel
theorem dX0_readRow_46 : decode cX0_readRow 46 = .ok (.invokevirtual 113, 3) := by decide +kernel
theorem dX0_readRow_49 : decode cX0_readRow 49 = .ok (.ireturn, 1) := by decide +kernel
theorem dX0_readRow_50 : decode cX0_readRow 50 = .ok (.aload_n 1, 1) := by decide +kernel
theorem dX0_readRow_51 : decode cX0_readRow 51 = .ok (.iload 4, 2) := by decide +kernel
theorem dX0_readRow_53 : decode cX0_readRow 53 = .ok (.aload_n 0, 1) := by decide +kernel
theorem dX0_readRow_54 : decode cX0_readRow 54 = .ok (.getfield 12, 3) := by decide +kernel
theorem dX0_readRow_57 : decode cX0_readRow 57 = .ok (.invokevirtual 65, 3) := by decide +kernel
theorem dX0_readRow_60 : decode cX0_readRow 60 = .ok (.iastore, 1) := by decide +kernel
theorem dX0_readRow_61 : decode cX0_readRow 61 = .ok (.aload_n 0, 1) := by decide +kernel
theorem dX0_readRow_62 : decode cX0_readRow 62 = .ok (.iload 4, 2) := by decide +kernel
theorem dX0_readRow_64 : decode cX0_readRow 64 = .ok (.iconst 1, 1) := by decide +kernel
theorem dX0_readRow_65 : decode cX0_readRow 65 = .ok (.iadd, 1) := by decide +kernel
theorem dX0_readRow_66 : decode cX0_readRow 66 = .ok (.putfield 89, 3) := by decide +kernel
theorem dX0_readRow_69 : decode cX0_readRow 69 = .ok (.aload_n 0, 1) := by decide +kernel
theorem dX0_readRow_70 : decode cX0_readRow 70 = .ok (.getfield 12, 3) := by decide +kernel
theorem dX0_readRow_73 : decode cX0_readRow 73 = .ok (.invokevirtual 72, 3) := by decide +kernel
theorem dX0_readRow_76 : decode cX0_readRow 76 = .ok (.iinc 4 1, 3) := by decide +kernel
theorem dX0_readRow_79 : decode cX0_readRow 79 = .ok (.goto (-71), 3) := by decide +kernel
theorem dX0_readRow_82 : decode cX0_readRow 82 = .ok (.aload_n 0, 1) := by decide +kernel
theorem dX0_readRow_83 : decode cX0_readRow 83 = .ok (.invokevirtual 75, 3) := by decide +kernel
theorem dX0_readRow_86 : decode cX0_readRow 86 = .ok (.ireturn, 1) := by decide +kernel
theorem dX0_readHikers_0 : decode cX0_readHikers 0 = .ok (.iconst 0, 1) := by decide +kernel
theorem dX0_readHikers_1 : decode cX0_readHikers 1 = .ok (.istore_n 2, 1) := by decide +kernel
theorem dX0_readHikers_2 : decode cX0_readHikers 2 = .ok (.iload_n 2, 1) := by decide +kernel
theorem dX0_readHikers_3 : decode cX0_readHikers 3 = .ok (.bipush 10, 2) := by decide +kernel
theorem dX0_readHikers_5 : decode cX0_readHikers 5 = .ok (.if_icmp .gt 82, 3) := by decide +kernel
theorem dX0_readHikers_8 : decode cX0_readHikers 8 = .ok (.iload_n 2, 1) := by decide +kernel
theorem dX0_readHikers_9 : decode cX0_readHikers 9 = .ok (.ifCond .le 20, 3) := by decide +kernel
theorem dX0_readHikers_12 : decode cX0_readHikers 12 = .ok (.aload_n 0, 1) := by decide +kernel
theorem dX0_readHikers_13 : decode cX0_readHikers 13 = .ok (.getfield 12, 3) := by decide +kernel
theorem dX0_readHikers_16 : decode cX0_readHikers 16 = .ok (.getfield 110, 3) := by decide +kernel
theorem dX0_readHikers_19 : decode cX0_readHikers 19 = .ok (.ifCond .ne 10, 3) := by decide +kernel
theorem dX0_readHikers_22 : decode cX0_readHikers 22 = .ok (.aload_n 1, 1) := by decide +kernel
theorem dX0_readHikers_23 : decode cX0_readHikers 23 = .ok (.iload_n 2, 1) := by decide +kernel
theorem dX0_readHikers_24 : decode cX0_readHikers 24 = .ok (.putfield 117, 3) := by decide +kernel
theorem dX0_readHikers_27 : decode cX0_readHikers 27 = .ok (.iconst 1, 1) := by decide +kernel
theorem dX0_readHikers_28 : decode cX0_readHikers 28 = .ok (.ireturn, 1) := by decide +kernel
theorem dX0_readHikers_29 : decode cX0_readHikers 29 = .ok (.aload_n 0, 1) := by decide +kernel
theorem dX0_readHikers_30 : decode cX0_readHikers 30 = .ok (.getfield 12, 3) := by decide +kernel
theorem dX0_readHikers_33 : decode cX0_readHikers 33 = .ok (.ldc 120, 2) := by decide +kernel
theorem dX0_readHikers_35 : decode cX0_readHikers 35 = .ok (.invokevirtual 122, 3) := by decide +kernel
theorem dX0_readHikers_38 : decode cX0_readHikers 38 = .ok (.ifCond .ne 9, 3) := by decide +kernel
theorem dX0_readHikers_41 : decode cX0_readHikers 41 = .ok (.aload_n 0, 1) := by decide +kernel
theorem dX0_readHikers_42 : decode cX0_readHikers 42 = .ok (.iconst 1, 1) := by decide +kernel
theorem dX0_readHikers_43 : decode cX0_readHikers 43 = .ok (.invokevirtual 113, 3) := by decide +kernel
theorem dX0_readHikers_46 : decode cX0_readHikers 46 = .ok (.ireturn, 1) := by decide +kernel
theorem dX0_readHikers_47 : decode cX0_readHikers 47 = .ok (.iload_n 2, 1) := by decide +kernel
theorem dX0_readHikers_48 : decode cX0_readHikers 48 = .ok (.bipush 10, 2) := by decide +kernel
theorem dX0_readHikers_50 : decode cX0_readHikers 50 = .ok (.if_icmp .lt 9, 3) := by decide +kernel
theorem dX0_readHikers_53 : decode cX0_readHikers 53 = .ok (.aload_n 0, 1) := by decide +kernel
theorem dX0_readHikers_54 : decode cX0_readHikers 54 = .ok (.iconst 3, 1) := by decide +kernel
theorem dX0_readHikers_55 : decode cX0_readHikers 55 = .ok (.invokevirtual 113, 3) := by decide +kernel
theorem dX0_readHikers_58 : decode cX0_readHikers 58 = .ok (.ireturn, 1) := by decide +kernel
theorem dX0_readHikers_59 : decode cX0_readHikers 59 = .ok (.aload_n 0, 1) := by decide +kernel
theorem dX0_readHikers_60 : decode cX0_readHikers 60 = .ok (.getfield 12, 3) := by decide +kernel
theorem dX0_readHikers_63 : decode cX0_readHikers 63 = .ok (.invokevirtual 72, 3) := by decide +kernel
theorem dX0_readHikers_66 : decode cX0_readHikers 66 = .ok (.aload_n 0, 1) := by decide +kernel
theorem dX0_readHikers_67 : decode cX0_readHikers 67 = .ok (.aload_n 1, 1) := by decide +kernel
theorem dX0_readHikers_68 : decode cX0_readHikers 68 = .ok (.getfield 125, 3) := by decide +kernel
theorem dX0_readHikers_71 : decode cX0_readHikers 71 = .ok (.iload_n 2, 1) := by decide +kernel
theorem dX0_readHikers_72 : decode cX0_readHikers 72 = .ok (.aaload, 1) := by decide +kernel
theorem dX0_readHikers_73 : decode cX0_readHikers 73 = .ok (.invokevirtual 129, 3) := by decide +kernel
theorem dX0_readHikers_76 : decode cX0_readHikers 76 = .ok (.ifCond .ne 5, 3) := by decide +kernel
theorem dX0_readHikers_79 : decode cX0_readHikers 79 = .ok (.iconst 0, 1) := by decide +kernel
theorem dX0_readHikers_80 : decode cX0_readHikers 80 = .ok (.ireturn, 1) := by decide +kernel
theorem dX0_readHikers_81 : decode cX0_readHikers 81 = .ok (.iinc 2 1, 3) := by decide +kernel
theorem dX0_readHikers_84 : decode cX0_readHikers 84 = .ok (.goto (-82), 3) := by decide +kernel
theorem dX0_readHikers_87 : decode cX0_readHikers 87 = .ok (.iconst 0, 1) := by decide +kernel
theorem dX0_readHikers_88 : decode cX0_readHikers 88 = .ok (.ireturn, 1) := by decide +kernel
theorem dX0_readHiker_0 : decode cX0_readHiker 0 = .ok (.aload_n 0, 1) := by decide +kernel
theorem dX0_readHiker_1 : decode cX0_readHiker 1 = .ok (.iconst 1, 1) := by decide +kernel
theorem dX0_readHiker_2 : decode cX0_readHiker 2 = .ok (.bipush 30, 2) := by decide +kernel
theorem dX0_readHiker_4 : decode cX0_readHiker 4 = .ok (.invokevirtual 61, 3) := by decide +kernel
theorem dX0_readHiker_7 : decode cX0_readHiker 7 = .ok (.ifCond .ne 5, 3) := by decide +kernel
theorem dX0_readHiker_10 : decode cX0_readHiker 10 = .ok (.iconst 0, 1) := by decide +kernel
theorem dX0_readHiker_11 : decode cX0_readHiker 11 = .ok (.ireturn, 1) := by decide +kernel
theorem dX0_readHiker_12 : decode cX0_readHiker 12 = .ok (.aload_n 1, 1) := by decide +kernel
theorem dX0_readHiker_13 : decode cX0_readHiker 13 = .ok (.aload_n 0, 1) := by decide +kernel
theorem dX0_readHiker_14 : decode cX0_readHiker 14 = .ok (.getfield 12, 3) := by decide +kernel
theorem dX0_readHiker_17 : decode cX0_readHiker 17 = .ok (.invokevirtual 65, 3) := by decide +kernel
theorem dX0_readHiker_20 : decode cX0_readHiker 20 = .ok (.putfield 133, 3) := by decide +kernel
theorem dX0_readHiker_23 : decode cX0_readHiker 23 = .ok (.aload_n 0, 1) := by decide +kernel
theorem dX0_readHiker_24 : decode cX0_readHiker 24 = .ok (.getfield 12, 3) := by decide +kernel
theorem dX0_readHiker_27 : decode cX0_readHiker 27 = .ok (.invokevirtual 72, 3) := by decide +kernel
theorem dX0_readHiker_30 : decode cX0_readHiker 30 = .ok (.aload_n 0, 1) := by decide +kernel
theorem dX0_readHiker_31 : decode cX0_readHiker 31 = .ok (.iconst 0, 1) := by decide +kernel
theorem dX0_readHiker_32 : decode cX0_readHiker 32 = .ok (.bipush 9, 2) := by decide +kernel
theorem dX0_readHiker_34 : decode cX0_readHiker 34 = .ok (.invokevirtual 61, 3) := by decide +kernel
theorem dX0_readHiker_37 : decode cX0_readHiker 37 = .ok (.ifCond .ne 5, 3) := by decide +kernel
theorem dX0_readHiker_40 : decode cX0_readHiker 40 = .ok (.iconst 0, 1) := by decide +kernel
theorem dX0_readHiker_41 : decode cX0_readHiker 41 = .ok (.ireturn, 1) := by decide +kernel
theorem dX0_readHiker_42 : decode cX0_readHiker 42 = .ok (.aload_n 1, 1) := by decide +kernel
theorem dX0_readHiker_43 : decode cX0_readHiker 43 = .ok (.aload_n 0, 1) := by decide +kernel
theorem dX0_readHiker_44 : decode cX0_readHiker 44 = .ok (.getfield 12, 3) := by decide +kernel
theorem dX0_readHiker_47 : decode cX0_readHiker 47 = .ok (.invokevirtual 65, 3) := by decide +kernel
theorem dX0_readHiker_50 : decode cX0_readHiker 50 = .ok (.putfield 138, 3) := by decide +kernel
theorem dX0_readHiker_53 : decode cX0_readHiker 53 = .ok (.aload_n 0, 1) := by decide +kernel
theorem dX0_readHiker_54 : decode cX0_readHiker 54 = .ok (.getfield 12, 3) := by decide +kernel
theorem dX0_readHiker_57 : decode cX0_readHiker 57 = .ok (.invokevirtual 72, 3) := by decide +kernel
theorem dX0_readHiker_60 : decode cX0_readHiker 60 = .ok (.aload_n 0, 1) := by decide +kernel
theorem dX0_readHiker_61 : decode cX0_readHiker 61 = .ok (.iconst 0, 1) := by decide +kernel
theorem dX0_readHiker_62 : decode cX0_readHiker 62 = .ok (.bipush 99, 2) := by decide +kernel
theorem dX0_readHiker_64 : decode cX0_readHiker 64 = .ok (.invokevirtual 61, 3) := by decide +kernel
theorem dX0_readHiker_67 : decode cX0_readHiker 67 = .ok (.ifCond .ne 5, 3) := by decide +kernel
theorem dX0_readHiker_70 : decode cX0_readHiker 70 = .ok (.iconst 0, 1) := by decide +kernel
theorem dX0_readHiker_71 : decode cX0_readHiker 71 = .ok (.ireturn, 1) := by decide +kernel
theorem dX0_readHiker_72 : decode cX0_readHiker 72 = .ok (.aload_n 1, 1) := by decide +kernel
theorem dX0_readHiker_73 : decode cX0_readHiker 73 = .ok (.aload_n 0, 1) := by decide +kernel
theorem dX0_readHiker_74 : decode cX0_readHiker 74 = .ok (.getfield 12, 3) := by decide +kernel
theorem dX0_readHiker_77 : decode cX0_readHiker 77 = .ok (.invokevirtual 65, 3) := by decide +kernel
theorem dX0_readHiker_80 : decode cX0_readHiker 80 = .ok (.putfield 141, 3) := by decide +kernel
theorem dX0_readHiker_83 : decode cX0_readHiker 83 = .ok (.aload_n 0, 1) := by decide +kernel
theorem dX0_readHiker_84 : decode cX0_readHiker 84 = .ok (.getfield 12, 3) := by decide +kernel
theorem dX0_readHiker_87 : decode cX0_readHiker 87 = .ok (.invokevirtual 72, 3) := by decide +kernel
theorem dX0_readHiker_90 : decode cX0_readHiker 90 = .ok (.aload_n 0, 1) := by decide +kernel
theorem dX0_readHiker_91 : decode cX0_readHiker 91 = .ok (.invokevirtual 75, 3) := by decide +kernel
theorem dX0_readHiker_94 : decode cX0_readHiker 94 = .ok (.ireturn, 1) := by decide +kernel
theorem dX0_readWord_0 : decode cX0_readWord 0 = .ok (.aload_n 0, 1) := by decide +kernel
theorem dX0_readWord_1 : decode cX0_readWord 1 = .ok (.getfield 12, 3) := by decide +kernel
theorem dX0_readWord_4 : decode cX0_readWord 4 = .ok (.aload_n 1, 1) := by decide +kernel
theorem dX0_readWord_5 : decode cX0_readWord 5 = .ok (.invokevirtual 122, 3) := by decide +kernel
theorem dX0_readWord_8 : decode cX0_readWord 8 = .ok (.ifCond .ne 9, 3) := by decide +kernel
theorem dX0_readWord_11 : decode cX0_readWord 11 = .ok (.aload_n 0, 1) := by decide +kernel
theorem dX0_readWord_12 : decode cX0_readWord 12 = .ok (.iconst 1, 1) := by decide +kernel
theorem dX0_readWord_13 : decode cX0_readWord 13 = .ok (.invokevirtual 113, 3) := by decide +kernel
theorem dX0_readWord_16 : decode cX0_readWord 16 = .ok (.ireturn, 1) := by decide +kernel
theorem dX0_readWord_17 : decode cX0_readWord 17 = .ok (.aload_n 0, 1) := by decide +kernel
theorem dX0_readWord_18 : decode cX0_readWord 18 = .ok (.getfield 12, 3) := by decide +kernel
theorem dX0_readWord_21 : decode cX0_readWord 21 = .ok (.invokevirtual 72, 3) := by decide +kernel
theorem dX0_readWord_24 : decode cX0_readWord 24 = .ok (.iconst 1, 1) := by decide +kernel
theorem dX0_readWord_25 : decode cX0_readWord 25 = .ok (.ireturn, 1) := by decide +kernel
theorem dX0_readSemicolon_0 : decode cX0_readSemicolon 0 = .ok (.aload_n 0, 1) := by decide +kernel
theorem dX0_readSemicolon_1 : decode cX0_readSemicolon 1 = .ok (.getfield 12, 3) := by decide +kernel
theorem dX0_readSemicolon_4 : decode cX0_readSemicolon 4 = .ok (.getfield 110, 3) := by decide +kernel
theorem dX0_readSemicolon_7 : decode cX0_readSemicolon 7 = .ok (.iconst 3, 1) := by decide +kernel
theorem dX0_readSemicolon_8 : decode cX0_readSemicolon 8 = .ok (.if_icmp .eq 9, 3) := by decide +kernel
theorem dX0_readSemicolon_11 : decode cX0_readSemicolon 11 = .ok (.aload_n 0, 1) := by decide +kernel
theorem dX0_readSemicolon_12 : decode cX0_readSemicolon 12 = .ok (.iconst 1, 1) := by decide +kernel
theorem dX0_readSemicolon_13 : decode cX0_readSemicolon 13 = .ok (.invokevirtual 113, 3) := by decide +kernel
theorem dX0_readSemicolon_16 : decode cX0_readSemicolon 16 = .ok (.ireturn, 1) := by decide +kernel
theorem dX0_readSemicolon_17 : decode cX0_readSemicolon 17 = .ok (.aload_n 0, 1) := by decide +kernel
theorem dX0_readSemicolon_18 : decode cX0_readSemicolon 18 = .ok (.getfield 12, 3) := by decide +kernel
theorem dX0_readSemicolon_21 : decode cX0_readSemicolon 21 = .ok (.invokevirtual 72, 3) := by decide +kernel
theorem dX0_readSemicolon_24 : decode cX0_readSemicolon 24 = .ok (.iconst 1, 1) := by decide +kernel
theorem dX0_readSemicolon_25 : decode cX0_readSemicolon 25 = .ok (.ireturn, 1) := by decide +kernel
theorem dX0_isNumber_0 : decode cX0_isNumber 0 = .ok (.aload_n 0, 1) := by decide +kernel
theorem dX0_isNumber_1 : decode cX0_isNumber 1 = .ok (.getfield 12, 3) := by decide +kernel
theorem dX0_isNumber_4 : decode cX0_isNumber 4 = .ok (.getfield 110, 3) := by decide +kernel
theorem dX0_isNumber_7 : decode cX0_isNumber 7 = .ok (.iconst 2, 1) := by decide +kernel
theorem dX0_isNumber_8 : decode cX0_isNumber 8 = .ok (.if_icmp .eq 9, 3) := by decide +kernel
theorem dX0_isNumber_11 : decode cX0_isNumber 11 = .ok (.aload_n 0, 1) := by decide +kernel
theorem dX0_isNumber_12 : decode cX0_isNumber 12 = .ok (.iconst 1, 1) := by decide +kernel
theorem dX0_isNumber_13 : decode cX0_isNumber 13 = .ok (.invokevirtual 113, 3) := by decide +kernel
theorem dX0_isNumber_16 : decode cX0_isNumber 16 = .ok (.ireturn, 1) := by decide +kernel
theorem dX0_isNumber_17 : decode cX0_isNumber 17 = .ok (.aload_n 0, 1) := by decide +kernel
theorem dX0_isNumber_18 : decode cX0_isNumber 18 = .ok (.getfield 12, 3) := by decide +kernel
theorem dX0_isNumber_21 : decode cX0_isNumber 21 = .ok (.invokevirtual 65, 3) := by decide +kernel
theorem dX0_isNumber_24 : decode cX0_isNumber 24 = .ok (.iload_n 1, 1) := by decide +kernel
theorem dX0_isNumber_25 : decode cX0_isNumber 25 = .ok (.iload_n 2, 1) := by decide +kernel
theorem dX0_isNumber_26 : decode cX0_isNumber 26 = .ok (.invokestatic 144, 3) := by decide +kernel
theorem dX0_isNumber_29 : decode cX0_isNumber 29 = .ok (.ifCond .ne 11, 3) := by decide +kernel
theorem dX0_isNumber_32 : decode cX0_isNumber 32 = .ok (.aload_n 0, 1) := by decide +kernel
theorem dX0_isNumber_33 : decode cX0_isNumber 33 = .ok (.iconst 2, 1) := by decide +kernel
theorem dX0_isNumber_34 : decode cX0_isNumber 34 = .ok (.invokevirtual 113, 3) := by decide +kernel
theorem dX0_isNumber_37 : decode cX0_isNumber 37 = .ok (.ifCond .eq 7, 3) := by decide +kernel
theorem dX0_isNumber_40 : decode cX0_isNumber 40 = .ok (.iconst 1, 1) := by decide +kernel
theorem dX0_isNumber_41 : decode cX0_isNumber 41 = .ok (.goto 4, 3) := by decide +kernel
theorem dX0_isNumber_44 : decode cX0_isNumber 44 = .ok (.iconst 0, 1) := by decide +kernel
theorem dX0_isNumber_45 : decode cX0_isNumber 45 = .ok (.ireturn, 1) := by decide +kernel
theorem dX1_init_0 : decode cX1_init 0 = .ok (.aload_n 0, 1) := by decide +kernel
theorem dX1_init_1 : decode cX1_init 1 = .ok (.invokespecial 3, 3) := by decide +kernel
theorem dX1_init_4 : decode cX1_init 4 = .ok (.aload_n 0, 1) := by decide +kernel
theorem dX1_init_5 : decode cX1_init 5 = .ok (.iconst (-1), 1) := by decide +kernel
theorem dX1_init_6 : decode cX1_init 6 = .ok (.putfield 9, 3) := by decide +kernel
theorem dX1_init_9 : decode cX1_init 9 = .ok (.aload_n 0, 1) := by decide +kernel
theorem dX1_init_10 : decode cX1_init 10 = .ok (.iconst (-1), 1) := by decide +kernel
theorem dX1_init_11 : decode cX1_init 11 = .ok (.putfield 15, 3) := by decide +kernel
theorem dX1_init_14 : decode cX1_init 14 = .ok (.aload_n 0, 1) := by decide +kernel
theorem dX1_init_15 : decode cX1_init 15 = .ok (.iconst 4, 1) := by decide +kernel
theorem dX1_init_16 : decode cX1_init 16 = .ok (.newarray .int, 2) := by decide +kernel
theorem dX1_init_18 : decode cX1_init 18 = .ok (.putfield 18, 3) := by decide +kernel
theorem dX1_init_21 : decode cX1_init 21 = .ok (.return_, 1) := by decide +kernel
theorem dX1_copyFrom_0 : decode cX1_copyFrom 0 = .ok (.aload_n 0, 1) := by decide +kernel
theorem dX1_copyFrom_1 : decode cX1_copyFrom 1 = .ok (.aload_n 1, 1) := by decide +kernel
theorem dX1_copyFrom_2 : decode cX1_copyFrom 2 = .ok (.getfield 22, 3) := by decide +kernel
theorem dX1_copyFrom_5 : decode cX1_copyFrom 5 = .ok (.putfield 22, 3) := by decide +kernel
theorem dX1_copyFrom_8 : decode cX1_copyFrom 8 = .ok (.aload_n 0, 1) := by decide +kernel
theorem dX1_copyFrom_9 : decode cX1_copyFrom 9 = .ok (.aload_n 1, 1) := by decide +kernel
theorem dX1_copyFrom_10 : decode cX1_copyFrom 10 = .ok (.getfield 25, 3) := by decide +kernel
theorem dX1_copyFrom_13 : decode cX1_copyFrom 13 = .ok (.putfield 25, 3) := by decide +kernel
theorem dX1_copyFrom_16 : decode cX1_copyFrom 16 = .ok (.aload_n 0, 1) := by decide +kernel
theorem dX1_copyFrom_17 : decode cX1_copyFrom 17 = .ok (.aload_n 1, 1) := by decide +kernel
theorem dX1_copyFrom_18 : decode cX1_copyFrom 18 = .ok (.getfield 28, 3) := by decide +kernel
theorem dX1_copyFrom_21 : decode cX1_copyFrom 21 = .ok (.putfield 28, 3) := by decide +kernel
theorem dX1_copyFrom_24 : decode cX1_copyFrom 24 = .ok (.aload_n 0, 1) := by decide +kernel
theorem dX1_copyFrom_25 : decode cX1_copyFrom 25 = .ok (.aload_n 1, 1) := by decide +kernel
theorem dX1_copyFrom_26 : decode cX1_copyFrom 26 = .ok (.getfield 31, 3) := by decide +kernel
theorem dX1_copyFrom_29 : decode cX1_copyFrom 29 = .ok (.putfield 31, 3) := by decide +kernel
theorem dX1_copyFrom_32 : decode cX1_copyFrom 32 = .ok (.aload_n 0, 1) := by decide +kernel
theorem dX1_copyFrom_33 : decode cX1_copyFrom 33 = .ok (.aload_n 1, 1) := by decide +kernel
theorem dX1_copyFrom_34 : decode cX1_copyFrom 34 = .ok (.getfield 9, 3) := by decide +kernel
theorem dX1_copyFrom_37 : decode cX1_copyFrom 37 = .ok (.putfield 9, 3) := by decide +kernel
theorem dX1_copyFrom_40 : decode cX1_copyFrom 40 = .ok (.aload_n 0, 1) := by decide +kernel
theorem dX1_copyFrom_41 : decode cX1_copyFrom 41 = .ok (.aload_n 1, 1) := by decide +kernel
theorem dX1_copyFrom_42 : decode cX1_copyFrom 42 = .ok (.getfield 15, 3) := by decide +kernel
theorem dX1_copyFrom_45 : decode cX1_copyFrom 45 = .ok (.putfield 15, 3) := by decide +kernel
theorem dX1_copyFrom_48 : decode cX1_copyFrom 48 = .ok (.aload_n 0, 1) := by decide +kernel
theorem dX1_copyFrom_49 : decode cX1_copyFrom 49 = .ok (.aload_n 1, 1) := by decide +kernel
theorem dX1_copyFrom_50 : decode cX1_copyFrom 50 = .ok (.getfield 34, 3) := by decide +kernel
theorem dX1_copyFrom_53 : decode cX1_copyFrom 53 = .ok (.putfield 34, 3) := by decide +kernel
theorem dX1_copyFrom_56 : decode cX1_copyFrom 56 = .ok (.aload_n 0, 1) := by decide +kernel
theorem dX1_copyFrom_57 : decode cX1_copyFrom 57 = .ok (.aload_n 1, 1) := by decide +kernel
theorem dX1_copyFrom_58 : decode cX1_copyFrom 58 = .ok (.getfield 37, 3) := by decide +kernel
theorem dX1_copyFrom_61 : decode cX1_copyFrom 61 = .ok (.putfield 37, 3) := by decide +kernel
theorem dX1_copyFrom_64 : decode cX1_copyFrom 64 = .ok (.aload_n 1, 1) := by decide +kernel
theorem dX1_copyFrom_65 : decode cX1_copyFrom 65 = .ok (.getfield 18, 3) := by decide +kernel
theorem dX1_copyFrom_68 : decode cX1_copyFrom 68 = .ok (.iconst 0, 1) := by decide +kernel
theorem dX1_copyFrom_69 : decode cX1_copyFrom 69 = .ok (.aload_n 0, 1) := by decide +kernel
theorem dX1_copyFrom_70 : decode cX1_copyFrom 70 = .ok (.getfield 18, 3) := by decide +kernel
theorem dX1_copyFrom_73 : decode cX1_copyFrom 73 = .ok (.iconst 0, 1) := by decide +kernel
theorem dX1_copyFrom_74 : decode cX1_copyFrom 74 = .ok (.iconst 4, 1) := by decide +kernel
theorem dX1_copyFrom_75 : decode cX1_copyFrom 75 = .ok (.invokestatic 40, 3) := by decide +kernel
theorem dX1_copyFrom_78 : decode cX1_copyFrom 78 = .ok (.return_, 1) := by decide +kernel
theorem dX1_isCold_0 : decode cX1_isCold 0 = .ok (.aload_n 0, 1) := by decide +kernel
theorem dX1_isCold_1 : decode cX1_isCold 1 = .ok (.getfield 37, 3) := by decide +kernel
theorem dX1_isCold_4 : decode cX1_isCold 4 = .ok (.aload_n 0, 1) := by decide +kernel
theorem dX1_isCold_5 : decode cX1_isCold 5 = .ok (.getfield 22, 3) := by decide +kernel
theorem dX1_isCold_8 : decode cX1_isCold 8 = .ok (.if_icmp .ge 7, 3) := by decide +kernel
theorem dX1_isCold_11 : decode cX1_isCold 11 = .ok (.iconst 1, 1) := by decide +kernel
theorem dX1_isCold_12 : decode cX1_isCold 12 = .ok (.goto 4, 3) := by decide +kernel
theorem dX1_isCold_15 : decode cX1_isCold 15 = .ok (.iconst 0, 1) := by decide +kernel
theorem dX1_isCold_16 : decode cX1_isCold 16 = .ok (.ireturn, 1) := by decide +kernel
theorem dX1_payOut_0 : decode cX1_payOut 0 = .ok (.iload_n 1, 1) := by decide +kernel
theorem dX1_payOut_1 : decode cX1_payOut 1 = .ok (.aload_n 0, 1) := by decide +kernel
theorem dX1_payOut_2 : decode cX1_payOut 2 = .ok (.getfield 28, 3) := by decide +kernel
theorem dX1_payOut_5 : decode cX1_payOut 5 = .ok (.if_icmp .ge 7, 3) := by decide +kernel
theorem dX1_payOut_8 : decode cX1_payOut 8 = .ok (.iload_n 1, 1) := by decide +kernel
theorem dX1_payOut_9 : decode cX1_payOut 9 = .ok (.goto 7, 3) := by decide +kernel
theorem dX1_payOut_12 : decode cX1_payOut 12 = .ok (.aload_n 0, 1) := by decide +kernel
theorem dX1_payOut_13 : decode cX1_payOut 13 = .ok (.getfield 28, 3) := by decide +kernel
theorem dX1_payOut_16 : decode cX1_payOut 16 = .ok (.istore_n 2, 1) := by decide +kernel
theorem dX1_payOut_17 : decode cX1_payOut 17 = .ok (.aload_n 0, 1) := by decide +kernel
theorem dX1_payOut_18 : decode cX1_payOut 18 = .ok (.dup, 1) := by decide +kernel
theorem dX1_payOut_19 : decode cX1_payOut 19 = .ok (.getfield 28, 3) := by decide +kernel
theorem dX1_payOut_22 : decode cX1_payOut 22 = .ok (.iload_n 2, 1) := by decide +kernel
theorem dX1_payOut_23 : decode cX1_payOut 23 = .ok (.isub, 1) := by decide +kernel
theorem dX1_payOut_24 : decode cX1_payOut 24 = .ok (.putfield 28, 3) := by decide +kernel
theorem dX1_payOut_27 : decode cX1_payOut 27 = .ok (.aload_n 0, 1) := by decide +kernel
theorem dX1_payOut_28 : decode cX1_payOut 28 = .ok (.dup, 1) := by decide +kernel
theorem dX1_payOut_29 : decode cX1_payOut 29 = .ok (.getfield 31, 3) := by decide +kernel
theorem dX1_payOut_32 : decode cX1_payOut 32 = .ok (.iload_n 1, 1) := by decide +kernel
theorem dX1_payOut_33 : decode cX1_payOut 33 = .ok (.iload_n 2, 1) := by decide +kernel
theorem dX1_payOut_34 : decode cX1_payOut 34 = .ok (.isub, 1) := by decide +kernel
theorem dX1_payOut_35 : decode cX1_payOut 35 = .ok (.iadd, 1) := by decide +kernel
theorem dX1_payOut_36 : decode cX1_payOut 36 = .ok (.putfield 31, 3) := by decide +kernel
theorem dX1_payOut_39 : decode cX1_payOut 39 = .ok (.iload_n 2, 1) := by decide +kernel
theorem dX1_payOut_40 : decode cX1_payOut 40 = .ok (.ireturn, 1) := by decide +kernel
theorem dX1_feeForBlanket_0 : decode cX1_feeForBlanket 0 = .ok (.aload_n 0, 1) := by decide +kernel
theorem dX1_feeForBlanket_1 : decode cX1_feeForBlanket 1 = .ok (.getfield 34, 3) := by decide +kernel
theorem dX1_feeForBlanket_4 : decode cX1_feeForBlanket 4 = .ok (.iconst 2, 1) := by decide +kernel
theorem dX1_feeForBlanket_5 : decode cX1_feeForBlanket 5 = .ok (.iadd, 1) := by decide +kernel
theorem dX1_feeForBlanket_6 : decode cX1_feeForBlanket 6 = .ok (.iconst 3, 1) := by decide +kernel
theorem dX1_feeForBlanket_7 : decode cX1_feeForBlanket 7 = .ok (.idiv, 1) := by decide +kernel
theorem dX1_feeForBlanket_8 : decode cX1_feeForBlanket 8 = .ok (.ireturn, 1) := by decide +kernel
theorem dX1_ranksBefore_0 : decode cX1_ranksBefore 0 = .ok (.aload_n 0, 1) := by decide +kernel
theorem dX1_ranksBefore_1 : decode cX1_ranksBefore 1 = .ok (.getfield 18, 3) := by decide +kernel
theorem dX1_ranksBefore_4 : decode cX1_ranksBefore 4 = .ok (.iconst 2, 1) := by decide +kernel
theorem dX1_ranksBefore_5 : decode cX1_ranksBefore 5 = .ok (.iaload, 1) := by decide +kernel
theorem dX1_ranksBefore_6 : decode cX1_ranksBefore 6 = .ok (.aload_n 1, 1) := by decide +kernel
theorem dX1_ranksBefore_7 : decode cX1_ranksBefore 7 = .ok (.getfield 18, 3) := by decide +kernel
theorem dX1_ranksBefore_10 : decode cX1_ranksBefore 10 = .ok (.iconst 2, 1) := by decide +kernel
theorem dX1_ranksBefore_11 : decode cX1_ranksBefore 11 = .ok (.iaload, 1) := by decide +kernel
theorem dX1_ranksBefore_12 : decode cX1_ranksBefore 12 = .ok (.if_icmp .eq 24, 3) := by decide +kernel
theorem dX1_ranksBefore_15 : decode cX1_ranksBefore 15 = .ok (.aload_n 0, 1) := by decide +kernel
theorem dX1_ranksBefore_16 : decode cX1_ranksBefore 16 = .ok (.getfield 18, 3) := by decide +kernel
theorem dX1_ranksBefore_19 : decode cX1_ranksBefore 19 = .ok (.iconst 2, 1) := by decide +kernel
theorem dX1_ranksBefore_20 : decode cX1_ranksBefore 20 = .ok (.iaload, 1) := by decide +kernel
theorem dX1_ranksBefore_21 : decode cX1_ranksBefore 21 = .ok (.aload_n 1, 1) := by decide +kernel
theorem dX1_ranksBefore_22 : decode cX1_ranksBefore 22 = .ok (.getfield 18, 3) := by decide +kernel
theorem dX1_ranksBefore_25 : decode cX1_ranksBefore 25 = .ok (.iconst 2, 1) := by decide +kernel
theorem dX1_ranksBefore_26 : decode cX1_ranksBefore 26 = .ok (.iaload, 1) := by decide +kernel
theorem dX1_ranksBefore_27 : decode cX1_ranksBefore 27 = .ok (.if_icmp .le 7, 3) := by decide +kernel
theorem dX1_ranksBefore_30 : decode cX1_ranksBefore 30 = .ok (.iconst 1, 1) := by decide +kernel
theorem dX1_ranksBefore_31 : decode cX1_ranksBefore 31 = .ok (.goto 4, 3) := by decide +kernel
theorem dX1_ranksBefore_34 : decode cX1_ranksBefore 34 = .ok (.iconst 0, 1) := by decide +kernel
theorem dX1_ranksBefore_35 : decode cX1_ranksBefore 35 = .ok (.ireturn, 1) := by decide +kernel
theorem dX1_ranksBefore_36 : decode cX1_ranksBefore 36 = .ok (.aload_n 0, 1) := by decide +kernel
theorem dX1_ranksBefore_37 : decode cX1_ranksBefore 37 = .ok (.getfield 18, 3) := by decide +kernel
theorem dX1_ranksBefore_40 : decode cX1_ranksBefore 40 = .ok (.iconst 0, 1) := by decide +kernel
theorem dX1_ranksBefore_41 : decode cX1_ranksBefore 41 = .ok (.iaload, 1) := by decide +kernel
theorem dX1_ranksBefore_42 : decode cX1_ranksBefore 42 = .ok (.aload_n 1, 1) := by decide +kernel
theorem dX1_ranksBefore_43 : decode cX1_ranksBefore 43 = .ok (.getfield 18, 3) := by decide +kernel
theorem dX1_ranksBefore_46 : decode cX1_ranksBefore 46 = .ok (.iconst 0, 1) := by decide +kernel
theorem dX1_ranksBefore_47 : decode cX1_ranksBefore 47 = .ok (.iaload, 1) := by decide +kernel
theorem dX1_ranksBefore_48 : decode cX1_ranksBefore 48 = .ok (.if_icmp .ge 7, 3) := by decide +kernel
theorem dX1_ranksBefore_51 : decode cX1_ranksBefore 51 = .ok (.iconst 1, 1) := by decide +kernel
theorem dX1_ranksBefore_52 : decode cX1_ranksBefore 52 = .ok (.goto 4, 3) := by decide +kernel
theorem dX1_ranksBefore_55 : decode cX1_ranksBefore 55 = .ok (.iconst 0, 1) := by decide +kernel
theorem dX1_ranksBefore_56 : decode cX1_ranksBefore 56 = .ok (.ireturn, 1) := by decide +kernel
theorem dX2_init_0 : decode cX2_init 0 = .ok (.aload_n 0, 1) := by decide +kernel
theorem dX2_init_1 : decode cX2_init 1 = .ok (.invokespecial 3, 3) := by decide +kernel
theorem dX2_init_4 : decode cX2_init 4 = .ok (.aload_n 0, 1) := by decide +kernel
theorem dX2_init_5 : decode cX2_init 5 = .ok (.bipush 6, 2) := by decide +kernel
theorem dX2_init_7 : decode cX2_init 7 = .ok (.invokestatic 9, 3) := by decide +kernel
theorem dX2_init_10 : decode cX2_init 10 = .ok (.putfield 13, 3) := by decide +kernel
theorem dX2_init_13 : decode cX2_init 13 = .ok (.return_, 1) := by decide +kernel
theorem dX2_keep_0 : decode cX2_keep 0 = .ok (.aload_n 0, 1) := by decide +kernel
theorem dX2_keep_1 : decode cX2_keep 1 = .ok (.getfield 13, 3) := by decide +kernel
theorem dX2_keep_4 : decode cX2_keep 4 = .ok (.aload_n 0, 1) := by decide +kernel
theorem dX2_keep_5 : decode cX2_keep 5 = .ok (.getfield 19, 3) := by decide +kernel
theorem dX2_keep_8 : decode cX2_keep 8 = .ok (.aaload, 1) := by decide +kernel
theorem dX2_keep_9 : decode cX2_keep 9 = .ok (.aload_n 1, 1) := by decide +kernel
theorem dX2_keep_10 : decode cX2_keep 10 = .ok (.invokevirtual 23, 3) := by decide +kernel
theorem dX2_keep_13 : decode cX2_keep 13 = .ok (.aload_n 0, 1) := by decide +kernel
theorem dX2_keep_14 : decode cX2_keep 14 = .ok (.aload_n 0, 1) := by decide +kernel
theorem dX2_keep_15 : decode cX2_keep 15 = .ok (.getfield 19, 3) := by decide +kernel
theorem dX2_keep_18 : decode cX2_keep 18 = .ok (.iconst 1, 1) := by decide +kernel
theorem dX2_keep_19 : decode cX2_keep 19 = .ok (.iadd, 1) := by decide +kernel
theorem dX2_keep_20 : decode cX2_keep 20 = .ok (.bipush 6, 2) := by decide +kernel
theorem dX2_keep_22 : decode cX2_keep 22 = .ok (.irem, 1) := by decide +kernel
theorem dX2_keep_23 : decode cX2_keep 23 = .ok (.putfield 19, 3) := by decide +kernel
theorem dX2_keep_26 : decode cX2_keep 26 = .ok (.aload_n 0, 1) := by decide +kernel
theorem dX2_keep_27 : decode cX2_keep 27 = .ok (.aload_n 0, 1) := by decide +kernel
theorem dX2_keep_28 : decode cX2_keep 28 = .ok (.getfield 29, 3) := by decide +kernel
theorem dX2_keep_31 : decode cX2_keep 31 = .ok (.iconst 1, 1) := by decide +kernel
theorem dX2_keep_32 : decode cX2_keep 32 = .ok (.iadd, 1) := by decide +kernel
theorem dX2_keep_33 : decode cX2_keep 33 = .ok (.bipush 6, 2) := by decide +kernel
theorem dX2_keep_35 : decode cX2_keep 35 = .ok (.invokestatic 32, 3) := by decide +kernel
theorem dX2_keep_38 : decode cX2_keep 38 = .ok (.putfield 29, 3) := by decide +kernel
theorem dX2_keep_41 : decode cX2_keep 41 = .ok (.return_, 1) := by decide +kernel
theorem dX2_takeBack_0 : decode cX2_takeBack 0 = .ok (.aload_n 0, 1) := by decide +kernel
theorem dX2_takeBack_1 : decode cX2_takeBack 1 = .ok (.aload_n 0, 1) := by decide +kernel
theorem dX2_takeBack_2 : decode cX2_takeBack 2 = .ok (.getfield 19, 3) := by decide +kernel
theorem dX2_takeBack_5 : decode cX2_takeBack 5 = .ok (.bipush 6, 2) := by decide +kernel
theorem dX2_takeBack_7 : decode cX2_takeBack 7 = .ok (.iadd, 1) := by decide +kernel
theorem dX2_takeBack_8 : decode cX2_takeBack 8 = .ok (.iconst 1, 1) := by decide +kernel
theorem dX2_takeBack_9 : decode cX2_takeBack 9 = .ok (.isub, 1) := by decide +kernel
theorem dX2_takeBack_10 : decode cX2_takeBack 10 = .ok (.bipush 6, 2) := by decide +kernel
theorem dX2_takeBack_12 : decode cX2_takeBack 12 = .ok (.irem, 1) := by decide +kernel
theorem dX2_takeBack_13 : decode cX2_takeBack 13 = .ok (.putfield 19, 3) := by decide +kernel
theorem dX2_takeBack_16 : decode cX2_takeBack 16 = .ok (.aload_n 0, 1) := by decide +kernel
theorem dX2_takeBack_17 : decode cX2_takeBack 17 = .ok (.dup, 1) := by decide +kernel
theorem dX2_takeBack_18 : decode cX2_takeBack 18 = .ok (.getfield 29, 3) := by decide +kernel
theorem dX2_takeBack_21 : decode cX2_takeBack 21 = .ok (.iconst 1, 1) := by decide +kernel
theorem dX2_takeBack_22 : decode cX2_takeBack 22 = .ok (.isub, 1) := by decide +kernel
theorem dX2_takeBack_23 : decode cX2_takeBack 23 = .ok (.putfield 29, 3) := by decide +kernel
theorem dX2_takeBack_26 : decode cX2_takeBack 26 = .ok (.aload_n 1, 1) := by decide +kernel
theorem dX2_takeBack_27 : decode cX2_takeBack 27 = .ok (.aload_n 0, 1) := by decide +kernel
theorem dX2_takeBack_28 : decode cX2_takeBack 28 = .ok (.getfield 13, 3) := by decide +kernel
theorem dX2_takeBack_31 : decode cX2_takeBack 31 = .ok (.aload_n 0, 1) := by decide +kernel
theorem dX2_takeBack_32 : decode cX2_takeBack 32 = .ok (.getfield 19, 3) := by decide +kernel
theorem dX2_takeBack_35 : decode cX2_takeBack 35 = .ok (.aaload, 1) := by decide +kernel
theorem dX2_takeBack_36 : decode cX2_takeBack 36 = .ok (.invokevirtual 23, 3) := by decide +kernel
theorem dX2_takeBack_39 : decode cX2_takeBack 39 = .ok (.return_, 1) := by decide +kernel
theorem dX2_forget_0 : decode cX2_forget 0 = .ok (.aload_n 0, 1) := by decide +kernel
theorem dX2_forget_1 : decode cX2_forget 1 = .ok (.iconst 0, 1) := by decide +kernel
theorem dX2_forget_2 : decode cX2_forget 2 = .ok (.putfield 29, 3) := by decide +kernel
theorem dX2_forget_5 : decode cX2_forget 5 = .ok (.return_, 1) := by decide +kernel
theorem dX3_init_0 : decode cX3_init 0 = .ok (.aload_n 0, 1) := by decide +kernel
theorem dX3_init_1 : decode cX3_init 1 = .ok (.invokespecial 3, 3) := by decide +kernel
theorem dX3_init_4 : decode cX3_init 4 = .ok (.aload_n 0, 1) := by decide +kernel
theorem dX3_init_5 : decode cX3_init 5 = .ok (.bipush 12, 2) := by decide +kernel
theorem dX3_init_7 : decode cX3_init 7 = .ok (.newarray .int, 2) := by decide +kernel
theorem dX3_init_9 : decode cX3_init 9 = .ok (.putfield 9, 3) := by decide +kernel
theorem dX3_init_12 : decode cX3_init 12 = .ok (.aload_n 0, 1) := by decide +kernel
theorem dX3_init_13 : decode cX3_init 13 = .ok (.bipush 12, 2) := by decide +kernel
theorem dX3_init_15 : decode cX3_init 15 = .ok (.newarray .int, 2) := by decide +kernel
theorem dX3_init_17 : decode cX3_init 17 = .ok (.putfield 15, 3) := by decide +kernel
theorem dX3_init_20 : decode cX3_init 20 = .ok (.aload_n 0, 1) := by decide +kernel
theorem dX3_init_21 : decode cX3_init 21 = .ok (.bipush 12, 2) := by decide +kernel
theorem dX3_init_23 : decode cX3_init 23 = .ok (.newarray .int, 2) := by decide +kernel
theorem dX3_init_25 : decode cX3_init 25 = .ok (.putfield 18, 3) := by decide +kernel
theorem dX3_init_28 : decode cX3_init 28 = .ok (.aload_n 0, 1) := by decide +kernel
theorem dX3_init_29 : decode cX3_init 29 = .ok (.bipush 16, 2) := by decide +kernel
theorem dX3_init_31 : decode cX3_init 31 = .ok (.newarray .int, 2) := by decide +kernel
theorem dX3_init_33 : decode cX3_init 33 = .ok (.putfield 21, 3) := by decide +kernel
theorem dX3_init_36 : decode cX3_init 36 = .ok (.aload_n 0, 1) := by decide +kernel
theorem dX3_init_37 : decode cX3_init 37 = .ok (.bipush 16, 2) := by decide +kernel
theorem dX3_init_39 : decode cX3_init 39 = .ok (.newarray .int, 2) := by decide +kernel
theorem dX3_init_41 : decode cX3_init 41 = .ok (.putfield 24, 3) := by decide +kernel
theorem dX3_init_44 : decode cX3_init 44 = .ok (.aload_n 0, 1) := by decide +kernel
theorem dX3_init_45 : decode cX3_init 45 = .ok (.bipush 10, 2) := by decide +kernel
theorem dX3_init_47 : decode cX3_init 47 = .ok (.anewarray 27, 3) := by decide +kernel
theorem dX3_init_50 : decode cX3_init 50 = .ok (.putfield 29, 3) := by decide +kernel
theorem dX3_init_53 : decode cX3_init 53 = .ok (.iconst 0, 1) := by decide +kernel
theorem dX3_init_54 : decode cX3_init 54 = .ok (.istore_n 1, 1) := by decide +kernel
theorem dX3_init_55 : decode cX3_init 55 = .ok (.iload_n 1, 1) := by decide +kernel
theorem dX3_init_56 : decode cX3_init 56 = .ok (.aload_n 0, 1) := by decide +kernel
theorem dX3_init_57 : decode cX3_init 57 = .ok (.getfield 29, 3) := by decide +kernel
theorem dX3_init_60 : decode cX3_init 60 = .ok (.arraylength, 1) := by decide +kernel
theorem dX3_init_61 : decode cX3_init 61 = .ok (.if_icmp .ge 22, 3) := by decide +kernel
theorem dX3_init_64 : decode cX3_init 64 = .ok (.aload_n 0, 1) := by decide +kernel
theorem dX3_init_65 : decode cX3_init 65 = .ok (.getfield 29, 3) := by decide +kernel
theorem dX3_init_68 : decode cX3_init 68 = .ok (.iload_n 1, 1) := by decide +kernel
theorem dX3_init_69 : decode cX3_init 69 = .ok (.new 27, 3) := by decide +kernel
theorem dX3_init_72 : decode cX3_init 72 = .ok (.dup, 1) := by decide +kernel
theorem dX3_init_73 : decode cX3_init 73 = .ok (.invokespecial 33, 3) := by decide +kernel
theorem dX3_init_76 : decode cX3_init 76 = .ok (.aastore, 1) := by decide +kernel
theorem dX3_init_77 : decode cX3_init 77 = .ok (.iinc 1 1, 3) := by decide +kernel
theorem dX3_init_80 : decode cX3_init 80 = .ok (.goto (-25), 3) := by decide +kernel
theorem dX3_init_83 : decode cX3_init 83 = .ok (.iconst 0, 1) := by decide +kernel
theorem dX3_init_84 : decode cX3_init 84 = .ok (.istore_n 1, 1) := by decide +kernel
theorem dX3_init_85 : decode cX3_init 85 = .ok (.iload_n 1, 1) := by decide +kernel
theorem dX3_init_86 : decode cX3_init 86 = .ok (.aload_n 0, 1) := by decide +kernel
theorem dX3_init_87 : decode cX3_init 87 = .ok (.getfield 21, 3) := by decide +kernel
theorem dX3_init_90 : decode cX3_init 90 = .ok (.arraylength, 1) := by decide +kernel
theorem dX3_init_91 : decode cX3_init 91 = .ok (.if_icmp .ge 16, 3) := by decide +kernel
theorem dX3_init_94 : decode cX3_init 94 = .ok (.aload_n 0, 1) := by decide +kernel
theorem dX3_init_95 : decode cX3_init 95 = .ok (.getfield 21, 3) := by decide +kernel
theorem dX3_init_98 : decode cX3_init 98 = .ok (.iload_n 1, 1) := by decide +kernel
theorem dX3_init_99 : decode cX3_init 99 = .ok (.iconst (-1), 1) := by decide +kernel
theorem dX3_init_100 : decode cX3_init 100 = .ok (.iastore, 1) := by decide +kernel
theorem dX3_init_101 : decode cX3_init 101 = .ok (.iinc 1 1, 3) := by decide +kernel
theorem dX3_init_104 : decode cX3_init 104 = .ok (.goto (-19), 3) := by decide +kernel
theorem dX3_init_107 : decode cX3_init 107 = .ok (.return_, 1) := by decide +kernel
theorem dX3_open_0 : decode cX3_open 0 = .ok (.aload_n 0, 1) := by decide +kernel
theorem dX3_open_1 : decode cX3_open 1 = .ok (.aload_n 0, 1) := by decide +kernel
theorem dX3_open_2 : decode cX3_open 2 = .ok (.getfield 34, 3) := by decide +kernel
theorem dX3_open_5 : decode cX3_open 5 = .ok (.putfield 38, 3) := by decide +kernel
theorem dX3_open_8 : decode cX3_open 8 = .ok (.aload_n 0, 1) := by decide +kernel
theorem dX3_open_9 : decode cX3_open 9 = .ok (.aload_n 0, 1) := by decide +kernel
theorem dX3_open_10 : decode cX3_open 10 = .ok (.invokevirtual 41, 3) := by decide +kernel
theorem dX3_open_13 : decode cX3_open 13 = .ok (.putfield 45, 3) := by decide +kernel
theorem dX3_open_16 : decode cX3_open 16 = .ok (.aload_n 0, 1) := by decide +kernel
theorem dX3_open_17 : decode cX3_open 17 = .ok (.invokevirtual 48, 3) := by decide +kernel
theorem dX3_open_20 : decode cX3_open 20 = .ok (.return_, 1) := by decide +kernel
theorem dX3_copyFrom_0 : decode cX3_copyFrom 0 = .ok (.aload_n 0, 1) := by decide +kernel
theorem dX3_copyFrom_1 : decode cX3_copyFrom 1 = .ok (.aload_n 1, 1) := by decide +kernel
theorem dX3_copyFrom_2 : decode cX3_copyFrom 2 = .ok (.getfield 51, 3) := by decide +kernel
theorem dX3_copyFrom_5 : decode cX3_copyFrom 5 = .ok (.putfield 51, 3) := by decide +kernel
theorem dX3_copyFrom_8 : decode cX3_copyFrom 8 = .ok (.aload_n 0, 1) := by decide +kernel
theorem dX3_copyFrom_9 : decode cX3_copyFrom 9 = .ok (.aload_n 1, 1) := by decide +kernel
theorem dX3_copyFrom_10 : decode cX3_copyFrom 10 = .ok (.getfield 34, 3) := by decide +kernel
theorem dX3_copyFrom_13 : decode cX3_copyFrom 13 = .ok (.putfield 34, 3) := by decide +kernel
theorem dX3_copyFrom_16 : decode cX3_copyFrom 16 = .ok (.aload_n 0, 1) := by decide +kernel
theorem dX3_copyFrom_17 : decode cX3_copyFrom 17 = .ok (.aload_n 1, 1) := by decide +kernel
theorem dX3_copyFrom_18 : decode cX3_copyFrom 18 = .ok (.getfield 54, 3) := by decide +kernel
theorem dX3_copyFrom_21 : decode cX3_copyFrom 21 = .ok (.putfield 54, 3) := by decide +kernel
theorem dX3_copyFrom_24 : decode cX3_copyFrom 24 = .ok (.aload_n 0, 1) := by decide +kernel
theorem dX3_copyFrom_25 : decode cX3_copyFrom 25 = .ok (.aload_n 1, 1) := by decide +kernel
theorem dX3_copyFrom_26 : decode cX3_copyFrom 26 = .ok (.getfield 57, 3) := by decide +kernel
theorem dX3_copyFrom_29 : decode cX3_copyFrom 29 = .ok (.putfield 57, 3) := by decide +kernel
theorem dX3_copyFrom_32 : decode cX3_copyFrom 32 = .ok (.aload_n 0, 1) := by decide +kernel
theorem dX3_copyFrom_33 : decode cX3_copyFrom 33 = .ok (.aload_n 1, 1) := by decide +kernel
theorem dX3_copyFrom_34 : decode cX3_copyFrom 34 = .ok (.getfield 60, 3) := by decide +kernel
theorem dX3_copyFrom_37 : decode cX3_copyFrom 37 = .ok (.putfield 60, 3) := by decide +kernel
theorem dX3_copyFrom_40 : decode cX3_copyFrom 40 = .ok (.aload_n 0, 1) := by decide +kernel
theorem dX3_copyFrom_41 : decode cX3_copyFrom 41 = .ok (.aload_n 1, 1) := by decide +kernel
theorem dX3_copyFrom_42 : decode cX3_copyFrom 42 = .ok (.getfield 63, 3) := by decide +kernel
theorem dX3_copyFrom_45 : decode cX3_copyFrom 45 = .ok (.putfield 63, 3) := by decide +kernel
theorem dX3_copyFrom_48 : decode cX3_copyFrom 48 = .ok (.aload_n 0, 1) := by decide +kernel
theorem dX3_copyFrom_49 : decode cX3_copyFrom 49 = .ok (.aload_n 1, 1) := by decide +kernel
theorem dX3_copyFrom_50 : decode cX3_copyFrom 50 = .ok (.getfield 66, 3) := by decide +kernel
theorem dX3_copyFrom_53 : decode cX3_copyFrom 53 = .ok (.putfield 66, 3) := by decide +kernel
theorem dX3_copyFrom_56 : decode cX3_copyFrom 56 = .ok (.aload_n 0, 1) := by decide +kernel
theorem dX3_copyFrom_57 : decode cX3_copyFrom 57 = .ok (.aload_n 1, 1) := by decide +kernel
theorem dX3_copyFrom_58 : decode cX3_copyFrom 58 = .ok (.getfield 45, 3) := by decide +kernel
theorem dX3_copyFrom_61 : decode cX3_copyFrom 61 = .ok (.putfield 45, 3) := by decide +kernel
theorem dX3_copyFrom_64 : decode cX3_copyFrom 64 = .ok (.aload_n 0, 1) := by decide +kernel
theorem dX3_copyFrom_65 : decode cX3_copyFrom 65 = .ok (.aload_n 1, 1) := by decide +kernel
theorem dX3_copyFrom_66 : decode cX3_copyFrom 66 = .ok (.getfield 38, 3) := by decide +kernel
theorem dX3_copyFrom_69 : decode cX3_copyFrom 69 = .ok (.putfield 38, 3) := by decide +kernel
theorem dX3_copyFrom_72 : decode cX3_copyFrom 72 = .ok (.aload_n 0, 1) := by decide +kernel
theorem dX3_copyFrom_73 : decode cX3_copyFrom 73 = .ok (.aload_n 1, 1) := by decide +kernel
theorem dX3_copyFrom_74 : decode cX3_copyFrom 74 = .ok (.getfield 69, 3) := by decide +kernel
theorem dX3_copyFrom_77 : decode cX3_copyFrom 77 = .ok (.putfield 69, 3) := by decide +kernel
theorem dX3_copyFrom_80 : decode cX3_copyFrom 80 = .ok (.aload_n 0, 1) := by decide +kernel
theorem dX3_copyFrom_81 : decode cX3_copyFrom 81 = .ok (.aload_n 1, 1) := by decide +kernel
theorem dX3_copyFrom_82 : decode cX3_copyFrom 82 = .ok (.getfield 72, 3) := by decide +kernel
theorem dX3_copyFrom_85 : decode cX3_copyFrom 85 = .ok (.putfield 72, 3) := by decide +kernel
theorem dX3_copyFrom_88 : decode cX3_copyFrom 88 = .ok (.aload_n 0, 1) := by decide +kernel
theorem dX3_copyFrom_89 : decode cX3_copyFrom 89 = .ok (.aload_n 1, 1) := by decide +kernel
theorem dX3_copyFrom_90 : decode cX3_copyFrom 90 = .ok (.getfield 75, 3) := by decide +kernel
theorem dX3_copyFrom_93 : decode cX3_copyFrom 93 = .ok (.putfield 75, 3) := by decide +kernel
theorem dX3_copyFrom_96 : decode cX3_copyFrom 96 = .ok (.aload_n 0, 1) := by decide +kernel
theorem dX3_copyFrom_97 : decode cX3_copyFrom 97 = .ok (.aload_n 1, 1) := by decide +kernel
theorem dX3_copyFrom_98 : decode cX3_copyFrom 98 = .ok (.getfield 78, 3) := by decide +kernel
theorem dX3_copyFrom_101 : decode cX3_copyFrom 101 = .ok (.putfield 78, 3) := by decide +kernel
theorem dX3_copyFrom_104 : decode cX3_copyFrom 104 = .ok (.aload_n 1, 1) := by decide +kernel
theorem dX3_copyFrom_105 : decode cX3_copyFrom 105 = .ok (.getfield 9, 3) := by decide +kernel
theorem dX3_copyFrom_108 : decode cX3_copyFrom 108 = .ok (.iconst 0, 1) := by decide +kernel
theorem dX3_copyFrom_109 : decode cX3_copyFrom 109 = .ok (.aload_n 0, 1) := by decide +kernel
theorem dX3_copyFrom_110 : decode cX3_copyFrom 110 = .ok (.getfield 9, 3) := by decide +kernel
theorem dX3_copyFrom_113 : decode cX3_copyFrom 113 = .ok (.iconst 0, 1) := by decide +kernel
theorem dX3_copyFrom_114 : decode cX3_copyFrom 114 = .ok (.bipush 12, 2) := by decide +kernel
theorem dX3_copyFrom_116 : decode cX3_copyFrom 116 = .ok (.invokestatic 81, 3) := by decide +kernel
theorem dX3_copyFrom_119 : decode cX3_copyFrom 119 = .ok (.aload_n 1, 1) := by decide +kernel
theorem dX3_copyFrom_120 : decode cX3_copyFrom 120 = .ok (.getfield 15, 3) := by decide +kernel
theorem dX3_copyFrom_123 : decode cX3_copyFrom 123 = .ok (.iconst 0, 1) := by decide +kernel
theorem dX3_copyFrom_124 : decode cX3_copyFrom 124 = .ok (.aload_n 0, 1) := by decide +kernel
theorem dX3_copyFrom_125 : decode cX3_copyFrom 125 = .ok (.getfield 15, 3) := by decide +kernel
theorem dX3_copyFrom_128 : decode cX3_copyFrom 128 = .ok (.iconst 0, 1) := by decide +kernel
theorem dX3_copyFrom_129 : decode cX3_copyFrom 129 = .ok (.bipush 12, 2) := by decide +kernel
theorem dX3_copyFrom_131 : decode cX3_copyFrom 131 = .ok (.invokestatic 81, 3) := by decide +kernel
theorem dX3_copyFrom_134 : decode cX3_copyFrom 134 = .ok (.aload_n 1, 1) := by decide +kernel
theorem dX3_copyFrom_135 : decode cX3_copyFrom 135 = .ok (.getfield 18, 3) := by decide +kernel
theorem dX3_copyFrom_138 : decode cX3_copyFrom 138 = .ok (.iconst 0, 1) := by decide +kernel
theorem dX3_copyFrom_139 : decode cX3_copyFrom 139 = .ok (.aload_n 0, 1) := by decide +kernel
theorem dX3_copyFrom_140 : decode cX3_copyFrom 140 = .ok (.getfield 18, 3) := by decide +kernel
theorem dX3_copyFrom_143 : decode cX3_copyFrom 143 = .ok (.iconst 0, 1) := by decide +kernel
theorem dX3_copyFrom_144 : decode cX3_copyFrom 144 = .ok (.bipush 12, 2) := by decide +kernel
theorem dX3_copyFrom_146 : decode cX3_copyFrom 146 = .ok (.invokestatic 81, 3) := by decide +kernel
theorem dX3_copyFrom_149 : decode cX3_copyFrom 149 = .ok (.aload_n 1, 1) := by decide +kernel
theorem dX3_copyFrom_150 : decode cX3_copyFrom 150 = .ok (.getfield 21, 3) := by decide +kernel
theorem dX3_copyFrom_153 : decode cX3_copyFrom 153 = .ok (.iconst 0, 1) := by decide +kernel
theorem dX3_copyFrom_154 : decode cX3_copyFrom 154 = .ok (.aload_n 0, 1) := by decide +kernel
theorem dX3_copyFrom_155 : decode cX3_copyFrom 155 = .ok (.getfield 21, 3) := by decide +kernel
theorem dX3_copyFrom_158 : decode cX3_copyFrom 158 = .ok (.iconst 0, 1) := by decide +kernel
theorem dX3_copyFrom_159 : decode cX3_copyFrom 159 = .ok (.bipush 16, 2) := by decide +kernel
theorem dX3_copyFrom_161 : decode cX3_copyFrom 161 = .ok (.invokestatic 81, 3) := by decide +kernel
theorem dX3_copyFrom_164 : decode cX3_copyFrom 164 = .ok (.aload_n 1, 1) := by decide +kernel
theorem dX3_copyFrom_165 : decode cX3_copyFrom 165 = .ok (.getfield 24, 3) := by decide +kernel
theorem dX3_copyFrom_168 : decode cX3_copyFrom 168 = .ok (.iconst 0, 1) := by decide +kernel
theorem dX3_copyFrom_169 : decode cX3_copyFrom 169 = .ok (.aload_n 0, 1) := by decide +kernel
theorem dX3_copyFrom_170 : decode cX3_copyFrom 170 = .ok (.getfield 24, 3) := by decide +kernel
theorem dX3_copyFrom_173 : decode cX3_copyFrom 173 = .ok (.iconst 0, 1) := by decide +kernel
theorem dX3_copyFrom_174 : decode cX3_copyFrom 174 = .ok (.bipush 16, 2) := by decide +kernel
theorem dX3_copyFrom_176 : decode cX3_copyFrom 176 = .ok (.invokestatic 81, 3) := by decide +kernel
theorem dX3_copyFrom_179 : decode cX3_copyFrom 179 = .ok (.iconst 0, 1) := by decide +kernel
theorem dX3_copyFrom_180 : decode cX3_copyFrom 180 = .ok (.istore_n 2, 1) := by decide +kernel
theorem dX3_copyFrom_181 : decode cX3_copyFrom 181 = .ok (.iload_n 2, 1) := by decide +kernel
theorem dX3_copyFrom_182 : decode cX3_copyFrom 182 = .ok (.aload_n 0, 1) := by decide +kernel
theorem dX3_copyFrom_183 : decode cX3_copyFrom 183 = .ok (.getfield 78, 3) := by decide +kernel
theorem dX3_copyFrom_186 : decode cX3_copyFrom 186 = .ok (.if_icmp .ge 24, 3) := by decide +kernel
theorem dX3_copyFrom_189 : decode cX3_copyFrom 189 = .ok (.aload_n 0, 1) := by decide +kernel
theorem dX3_copyFrom_190 : decode cX3_copyFrom 190 = .ok (.getfield 29, 3) := by decide +kernel
theorem dX3_copyFrom_193 : decode cX3_copyFrom 193 = .ok (.iload_n 2, 1) := by decide +kernel
theorem dX3_copyFrom_194 : decode cX3_copyFrom 194 = .ok (.aaload, 1) := by decide +kernel
theorem dX3_copyFrom_195 : decode cX3_copyFrom 195 = .ok (.aload_n 1, 1) := by decide +kernel
theorem dX3_copyFrom_196 : decode cX3_copyFrom 196 = .ok (.getfield 29, 3) := by decide +kernel
theorem dX3_copyFrom_199 : decode cX3_copyFrom 199 = .ok (.iload_n 2, 1) := by decide +kernel
theorem dX3_copyFrom_200 : decode cX3_copyFrom 200 = .ok (.aaload, 1) := by decide +kernel
theorem dX3_copyFrom_201 : decode cX3_copyFrom 201 = .ok (.invokevirtual 87, 3) := by decide +kernel
theorem dX3_copyFrom_204 : decode cX3_copyFrom 204 = .ok (.iinc 2 1, 3) := by decide +kernel
theorem dX3_copyFrom_207 : decode cX3_copyFrom 207 = .ok (.goto (-26), 3) := by decide +kernel
theorem dX3_copyFrom_210 : decode cX3_copyFrom 210 = .ok (.return_, 1) := by decide +kernel
theorem dX3_hasBunk_0 : decode cX3_hasBunk 0 = .ok (.iconst 0, 1) := by decide +kernel
theorem dX3_hasBunk_1 : decode cX3_hasBunk 1 = .ok (.iload_n 1, 1) := by decide +kernel
theorem dX3_hasBunk_2 : decode cX3_hasBunk 2 = .ok (.if_icmp .gt 15, 3) := by decide +kernel
theorem dX3_hasBunk_5 : decode cX3_hasBunk 5 = .ok (.iload_n 1, 1) := by decide +kernel
theorem dX3_hasBunk_6 : decode cX3_hasBunk 6 = .ok (.aload_n 0, 1) := by decide +kernel
theorem dX3_hasBunk_7 : decode cX3_hasBunk 7 = .ok (.getfield 69, 3) := by decide +kernel
theorem dX3_hasBunk_10 : decode cX3_hasBunk 10 = .ok (.if_icmp .ge 7, 3) := by decide +kernel
theorem dX3_hasBunk_13 : decode cX3_hasBunk 13 = .ok (.iconst 1, 1) := by decide +kernel
theorem dX3_hasBunk_14 : decode cX3_hasBunk 14 = .ok (.goto 4, 3) := by decide +kernel
theorem dX3_hasBunk_17 : decode cX3_hasBunk 17 = .ok (.iconst 0, 1) := by decide +kernel
theorem dX3_hasBunk_18 : decode cX3_hasBunk 18 = .ok (.ireturn, 1) := by decide +kernel
theorem dX3_hasBlanket_0 : decode cX3_hasBlanket 0 = .ok (.iconst 0, 1) := by decide +kernel
theorem dX3_hasBlanket_1 : decode cX3_hasBlanket 1 = .ok (.iload_n 1, 1) := by decide +kernel
theorem dX3_hasBlanket_2 : decode cX3_hasBlanket 2 = .ok (.if_icmp .gt 15, 3) := by decide +kernel
theorem dX3_hasBlanket_5 : decode cX3_hasBlanket 5 = .ok (.iload_n 1, 1) := by decide +kernel
theorem dX3_hasBlanket_6 : decode cX3_hasBlanket 6 = .ok (.aload_n 0, 1) := by decide +kernel
theorem dX3_hasBlanket_7 : decode cX3_hasBlanket 7 = .ok (.getfield 72, 3) := by decide +kernel
theorem dX3_hasBlanket_10 : decode cX3_hasBlanket 10 = .ok (.if_icmp .ge 7, 3) := by decide +kernel
theorem dX3_hasBlanket_13 : decode cX3_hasBlanket 13 = .ok (.iconst 1, 1) := by decide +kernel
theorem dX3_hasBlanket_14 : decode cX3_hasBlanket 14 = .ok (.goto 4, 3) := by decide +kernel
theorem dX3_hasBlanket_17 : decode cX3_hasBlanket 17 = .ok (.iconst 0, 1) := by decide +kernel
theorem dX3_hasBlanket_18 : decode cX3_hasBlanket 18 = .ok (.ireturn, 1) := by decide +kernel
theorem dX3_hasHiker_0 : decode cX3_hasHiker 0 = .ok (.iconst 0, 1) := by decide +kernel
theorem dX3_hasHiker_1 : decode cX3_hasHiker 1 = .ok (.iload_n 1, 1) := by decide +kernel
theorem dX3_hasHiker_2 : decode cX3_hasHiker 2 = .ok (.if_icmp .gt 15, 3) := by decide +kernel
theorem dX3_hasHiker_5 : decode cX3_hasHiker 5 = .ok (.iload_n 1, 1) := by decide +kernel
theorem dX3_hasHiker_6 : decode cX3_hasHiker 6 = .ok (.aload_n 0, 1) := by decide +kernel
theorem dX3_hasHiker_7 : decode cX3_hasHiker 7 = .ok (.getfield 78, 3) := by decide +kernel
theorem dX3_hasHiker_10 : decode cX3_hasHiker 10 = .ok (.if_icmp .ge 7, 3) := by decide +kernel
theorem dX3_hasHiker_13 : decode cX3_hasHiker 13 = .ok (.iconst 1, 1) := by decide +kernel
theorem dX3_hasHiker_14 : decode cX3_hasHiker 14 = .ok (.goto 4, 3) := by decide +kernel
theorem dX3_hasHiker_17 : decode cX3_hasHiker 17 = .ok (.iconst 0, 1) := by decide +kernel
theorem dX3_hasHiker_18 : decode cX3_hasHiker 18 = .ok (.ireturn, 1) := by decide +kernel
theorem dX3_temperatureInside_0 : decode cX3_temperatureInside 0 = .ok (.aload_n 0, 1) := by decide +kernel
theorem dX3_temperatureInside_1 : decode cX3_temperatureInside 1 = .ok (.getfield 75, 3) := by decide +kernel
theorem dX3_temperatureInside_4 : decode cX3_temperatureInside 4 = .ok (.iconst 1, 1) := by decide +kernel
theorem dX3_temperatureInside_5 : decode cX3_temperatureInside 5 = .ok (.if_icmp .ge 7, 3) := by decide +kernel
theorem dX3_temperatureInside_8 : decode cX3_temperatureInside 8 = .ok (.iconst 0, 1) := by decide +kernel
theorem dX3_temperatureInside_9 : decode cX3_temperatureInside 9 = .ok (.goto 17, 3) := by decide +kernel
theorem dX3_temperatureInside_12 : decode cX3_temperatureInside 12 = .ok (.aload_n 0, 1) := by decide +kernel
theorem dX3_temperatureInside_13 : decode cX3_temperatureInside 13 = .ok (.getfield 18, 3) := by decide +kernel
theorem dX3_temperatureInside_16 : decode cX3_temperatureInside 16 = .ok (.aload_n 0, 1) := by decide +kernel
theorem dX3_temperatureInside_17 : decode cX3_temperatureInside 17 = .ok (.getfield 51, 3) := by decide +kernel
theorem dX3_temperatureInside_20 : decode cX3_temperatureInside 20 = .ok (.aload_n 0, 1) := by decide +kernel
theorem dX3_temperatureInside_21 : decode cX3_temperatureInside 21 = .ok (.getfield 75, 3) := by decide +kernel
theorem dX3_temperatureInside_24 : decode cX3_temperatureInside 24 = .ok (.irem, 1) := by decide +kernel
theorem dX3_temperatureInside_25 : decode cX3_temperatureInside 25 = .ok (.iaload, 1) := by decide +kernel
theorem dX3_temperatureInside_26 : decode cX3_temperatureInside 26 = .ok (.istore_n 1, 1) := by decide +kernel
theorem dX3_temperatureInside_27 : decode cX3_temperatureInside 27 = .ok (.iload_n 1, 1) := by decide +kernel
theorem dX3_temperatureInside_28 : decode cX3_temperatureInside 28 = .ok (.aload_n 0, 1) := by decide +kernel
theorem dX3_temperatureInside_29 : decode cX3_temperatureInside 29 = .ok (.getfield 54, 3) := by decide +kernel
theorem dX3_temperatureInside_32 : decode cX3_temperatureInside 32 = .ok (.iadd, 1) := by decide +kernel
theorem dX3_temperatureInside_33 : decode cX3_temperatureInside 33 = .ok (.ireturn, 1) := by decide +kernel
theorem dX3_measure_0 : decode cX3_measure 0 = .ok (.aload_n 0, 1) := by decide +kernel
theorem dX3_measure_1 : decode cX3_measure 1 = .ok (.invokevirtual 91, 3) := by decide +kernel
theorem dX3_measure_4 : decode cX3_measure 4 = .ok (.istore_n 1, 1) := by decide +kernel
theorem dX3_measure_5 : decode cX3_measure 5 = .ok (.iconst 0, 1) := by decide +kernel
theorem dX3_measure_6 : decode cX3_measure 6 = .ok (.istore_n 2, 1) := by decide +kernel
theorem dX3_measure_7 : decode cX3_measure 7 = .ok (.iload_n 2, 1) := by decide +kernel
theorem dX3_measure_8 : decode cX3_measure 8 = .ok (.aload_n 0, 1) := by decide +kernel
theorem dX3_measure_9 : decode cX3_measure 9 = .ok (.getfield 24, 3) := by decide +kernel
theorem dX3_measure_12 : decode cX3_measure 12 = .ok (.arraylength, 1) := by decide +kernel
theorem dX3_measure_13 : decode cX3_measure 13 = .ok (.if_icmp .ge 16, 3) := by decide +kernel
theorem dX3_measure_16 : decode cX3_measure 16 = .ok (.aload_n 0, 1) := by decide +kernel
theorem dX3_measure_17 : decode cX3_measure 17 = .ok (.getfield 24, 3) := by decide +kernel
theorem dX3_measure_20 : decode cX3_measure 20 = .ok (.iload_n 2, 1) := by decide +kernel
theorem dX3_measure_21 : decode cX3_measure 21 = .ok (.iconst 0, 1) := by decide +kernel
theorem dX3_measure_22 : decode cX3_measure 22 = .ok (.iastore, 1) := by decide +kernel
theorem dX3_measure_23 : decode cX3_measure 23 = .ok (.iinc 2 1, 3) := by decide +kernel
theorem dX3_measure_26 : decode cX3_measure 26 = .ok (.goto (-19), 3) := by decide +kernel
theorem dX3_measure_29 : decode cX3_measure 29 = .ok (.iconst 0, 1) := by decide +kernel
theorem dX3_measure_30 : decode cX3_measure 30 = .ok (.istore_n 2, 1) := by decide +kernel
theorem dX3_measure_31 : decode cX3_measure 31 = .ok (.iload_n 2, 1) := by decide +kernel
theorem dX3_measure_32 : decode cX3_measure 32 = .ok (.aload_n 0, 1) := by decide +kernel
theorem dX3_measure_33 : decode cX3_measure 33 = .ok (.getfield 78, 3) := by decide +kernel
theorem dX3_measure_36 : decode cX3_measure 36 = .ok (.if_icmp .ge 96, 3) := by decide +kernel
theorem dX3_measure_39 : decode cX3_measure 39 = .ok (.aload_n 0, 1) := by decide +kernel
theorem dX3_measure_40 : decode cX3_measure 40 = .ok (.getfield 29, 3) := by decide +kernel
theorem dX3_measure_43 : decode cX3_measure 43 = .ok (.iload_n 2, 1) := by decide +kernel
theorem dX3_measure_44 : decode cX3_measure 44 = .ok (.aaload, 1) := by decide +kernel
theorem dX3_measure_45 : decode cX3_measure 45 = .ok (.astore_n 3, 1) := by decide +kernel
theorem dX3_measure_46 : decode cX3_measure 46 = .ok (.aload_n 3, 1) := by decide +kernel
theorem dX3_measure_47 : decode cX3_measure 47 = .ok (.aload_n 0, 1) := by decide +kernel
theorem dX3_measure_48 : decode cX3_measure 48 = .ok (.aload_n 3, 1) := by decide +kernel
theorem dX3_measure_49 : decode cX3_measure 49 = .ok (.getfield 94, 3) := by decide +kernel
theorem dX3_measure_52 : decode cX3_measure 52 = .ok (.invokevirtual 97, 3) := by decide +kernel
theorem dX3_measure_55 : decode cX3_measure 55 = .ok (.ifCond .eq 15, 3) := by decide +kernel
theorem dX3_measure_58 : decode cX3_measure 58 = .ok (.aload_n 0, 1) := by decide +kernel
theorem dX3_measure_59 : decode cX3_measure 59 = .ok (.getfield 15, 3) := by decide +kernel
theorem dX3_measure_62 : decode cX3_measure 62 = .ok (.aload_n 3, 1) := by decide +kernel
theorem dX3_measure_63 : decode cX3_measure 63 = .ok (.getfield 94, 3) := by decide +kernel
theorem dX3_measure_66 : decode cX3_measure 66 = .ok (.iaload, 1) := by decide +kernel
theorem dX3_measure_67 : decode cX3_measure 67 = .ok (.goto 4, 3) := by decide +kernel
theorem dX3_measure_70 : decode cX3_measure 70 = .ok (.iconst 0, 1) := by decide +kernel
theorem dX3_measure_71 : decode cX3_measure 71 = .ok (.putfield 101, 3) := by decide +kernel
theorem dX3_measure_74 : decode cX3_measure 74 = .ok (.aload_n 3, 1) := by decide +kernel
theorem dX3_measure_75 : decode cX3_measure 75 = .ok (.iload_n 1, 1) := by decide +kernel
theorem dX3_measure_76 : decode cX3_measure 76 = .ok (.aload_n 3, 1) := by decide +kernel
theorem dX3_measure_77 : decode cX3_measure 77 = .ok (.getfield 101, 3) := by decide +kernel
theorem dX3_measure_80 : decode cX3_measure 80 = .ok (.iadd, 1) := by decide +kernel
theorem dX3_measure_81 : decode cX3_measure 81 = .ok (.aload_n 0, 1) := by decide +kernel
theorem dX3_measure_82 : decode cX3_measure 82 = .ok (.aload_n 3, 1) := by decide +kernel
theorem dX3_measure_83 : decode cX3_measure 83 = .ok (.getfield 104, 3) := by decide +kernel
theorem dX3_measure_86 : decode cX3_measure 86 = .ok (.invokevirtual 107, 3) := by decide +kernel
theorem dX3_measure_89 : decode cX3_measure 89 = .ok (.iadd, 1) := by decide +kernel
theorem dX3_measure_90 : decode cX3_measure 90 = .ok (.putfield 111, 3) := by decide +kernel
theorem dX3_measure_93 : decode cX3_measure 93 = .ok (.aload_n 0, 1) := by decide +kernel
theorem dX3_measure_94 : decode cX3_measure 94 = .ok (.aload_n 3, 1) := by decide +kernel
theorem dX3_measure_95 : decode cX3_measure 95 = .ok (.getfield 104, 3) := by decide +kernel
theorem dX3_measure_98 : decode cX3_measure 98 = .ok (.invokevirtual 114, 3) := by decide +kernel
theorem dX3_measure_101 : decode cX3_measure 101 = .ok (.ifCond .eq 25, 3) := by decide +kernel
theorem dX3_measure_104 : decode cX3_measure 104 = .ok (.aload_n 3, 1) := by decide +kernel
theorem dX3_measure_105 : decode cX3_measure 105 = .ok (.invokevirtual 117, 3) := by decide +kernel
theorem dX3_measure_108 : decode cX3_measure 108 = .ok (.ifCond .ne 18, 3) := by decide +kernel
theorem dX3_measure_111 : decode cX3_measure 111 = .ok (.aload_n 0, 1) := by decide +kernel
theorem dX3_measure_112 : decode cX3_measure 112 = .ok (.getfield 24, 3) := by decide +kernel
theorem dX3_measure_115 : decode cX3_measure 115 = .ok (.aload_n 3, 1) := by decide +kernel
theorem dX3_measure_116 : decode cX3_measure 116 = .ok (.getfield 104, 3) := by decide +kernel
theorem dX3_measure_119 : decode cX3_measure 119 = .ok (.iconst 2, 1) := by decide +kernel
theorem dX3_measure_120 : decode cX3_measure 120 = .ok (.iadd, 1) := by decide +kernel
theorem dX3_measure_121 : decode cX3_measure 121 = .ok (.aload_n 3, 1) := by decide +kernel
theorem dX3_measure_122 : decode cX3_measure 122 = .ok (.getfield 121, 3) := by decide +kernel
theorem dX3_measure_125 : decode cX3_measure 125 = .ok (.iastore, 1) := by decide +kernel
theorem dX3_measure_126 : decode cX3_measure 126 = .ok (.iinc 2 1, 3) := by decide +kernel
theorem dX3_measure_129 : decode cX3_measure 129 = .ok (.goto (-98), 3) := by decide +kernel
theorem dX3_measure_132 : decode cX3_measure 132 = .ok (.return_, 1) := by decide +kernel
theorem dX3_warmthOfBunk_0 : decode cX3_warmthOfBunk 0 = .ok (.aload_n 0, 1) := by decide +kernel
theorem dX3_warmthOfBunk_1 : decode cX3_warmthOfBunk 1 = .ok (.iload_n 1, 1) := by decide +kernel
theorem dX3_warmthOfBunk_2 : decode cX3_warmthOfBunk 2 = .ok (.invokevirtual 114, 3) := by decide +kernel
theorem dX3_warmthOfBunk_5 : decode cX3_warmthOfBunk 5 = .ok (.ifCond .ne 5, 3) := by decide +kernel
theorem dX3_warmthOfBunk_8 : decode cX3_warmthOfBunk 8 = .ok (.iconst 0, 1) := by decide +kernel
theorem dX3_warmthOfBunk_9 : decode cX3_warmthOfBunk 9 = .ok (.ireturn, 1) := by decide +kernel
theorem dX3_warmthOfBunk_10 : decode cX3_warmthOfBunk 10 = .ok (.iload_n 1, 1) := by decide +kernel
theorem dX3_warmthOfBunk_11 : decode cX3_warmthOfBunk 11 = .ok (.iconst 2, 1) := by decide +kernel
theorem dX3_warmthOfBunk_12 : decode cX3_warmthOfBunk 12 = .ok (.iadd, 1) := by decide +kernel
theorem dX3_warmthOfBunk_13 : decode cX3_warmthOfBunk 13 = .ok (.istore_n 2, 1) := by decide +kernel
theorem dX3_warmthOfBunk_14 : decode cX3_warmthOfBunk 14 = .ok (.aload_n 0, 1) := by decide +kernel
theorem dX3_warmthOfBunk_15 : decode cX3_warmthOfBunk 15 = .ok (.getfield 21, 3) := by decide +kernel
theorem dX3_warmthOfBunk_18 : decode cX3_warmthOfBunk 18 = .ok (.iload_n 2, 1) := by decide +kernel
theorem dX3_warmthOfBunk_19 : decode cX3_warmthOfBunk 19 = .ok (.iconst 1, 1) := by decide +kernel
theorem dX3_warmthOfBunk_20 : decode cX3_warmthOfBunk 20 = .ok (.isub, 1) := by decide +kernel
theorem dX3_warmthOfBunk_21 : decode cX3_warmthOfBunk 21 = .ok (.iaload, 1) := by decide +kernel
theorem dX3_warmthOfBunk_22 : decode cX3_warmthOfBunk 22 = .ok (.iconst (-1), 1) := by decide +kernel
theorem dX3_warmthOfBunk_23 : decode cX3_warmthOfBunk 23 = .ok (.if_icmp .ne 7, 3) := by decide +kernel
theorem dX3_warmthOfBunk_26 : decode cX3_warmthOfBunk 26 = .ok (.iconst 0, 1) := by decide +kernel
theorem dX3_warmthOfBunk_27 : decode cX3_warmthOfBunk 27 = .ok (.goto 4, 3) := by decide +kernel
theorem dX3_warmthOfBunk_30 : decode cX3_warmthOfBunk 30 = .ok (.iconst 1, 1) := by decide +kernel
theorem dX3_warmthOfBunk_31 : decode cX3_warmthOfBunk 31 = .ok (.istore_n 3, 1) := by decide +kernel
theorem dX3_warmthOfBunk_32 : decode cX3_warmthOfBunk 32 = .ok (.aload_n 0, 1) := by decide +kernel
theorem dX3_warmthOfBunk_33 : decode cX3_warmthOfBunk 33 = .ok (.getfield 21, 3) := by decide +kernel
theorem dX3_warmthOfBunk_36 : decode cX3_warmthOfBunk 36 = .ok (.iload_n 2, 1) := by decide +kernel
theorem dX3_warmthOfBunk_37 : decode cX3_warmthOfBunk 37 = .ok (.iconst 1, 1) := by decide +kernel
theorem dX3_warmthOfBunk_38 : decode cX3_warmthOfBunk 38 = .ok (.iadd, 1) := by decide +kernel
theorem dX3_warmthOfBunk_39 : decode cX3_warmthOfBunk 39 = .ok (.iaload, 1) := by decide +kernel
theorem dX3_warmthOfBunk_40 : decode cX3_warmthOfBunk 40 = .ok (.iconst (-1), 1) := by decide +kernel
theorem dX3_warmthOfBunk_41 : decode cX3_warmthOfBunk 41 = .ok (.if_icmp .ne 7, 3) := by decide +kernel
theorem dX3_warmthOfBunk_44 : decode cX3_warmthOfBunk 44 = .ok (.iconst 0, 1) := by decide +kernel
theorem dX3_warmthOfBunk_45 : decode cX3_warmthOfBunk 45 = .ok (.goto 4, 3) := by decide +kernel
theorem dX3_warmthOfBunk_48 : decode cX3_warmthOfBunk 48 = .ok (.iconst 1, 1) := by decide +kernel
theorem dX3_warmthOfBunk_49 : decode cX3_warmthOfBunk 49 = .ok (.istore 4, 2) := by decide +kernel
theorem dX3_warmthOfBunk_51 : decode cX3_warmthOfBunk 51 = .ok (.aload_n 0, 1) := by decide +kernel
theorem dX3_warmthOfBunk_52 : decode cX3_warmthOfBunk 52 = .ok (.getfield 9, 3) := by decide +kernel
theorem dX3_warmthOfBunk_55 : decode cX3_warmthOfBunk 55 = .ok (.iload_n 1, 1) := by decide +kernel
theorem dX3_warmthOfBunk_56 : decode cX3_warmthOfBunk 56 = .ok (.iaload, 1) := by decide +kernel
theorem dX3_warmthOfBunk_57 : decode cX3_warmthOfBunk 57 = .ok (.iload_n 3, 1) := by decide +kernel
theorem dX3_warmthOfBunk_58 : decode cX3_warmthOfBunk 58 = .ok (.iadd, 1) := by decide +kernel
theorem dX3_warmthOfBunk_59 : decode cX3_warmthOfBunk 59 = .ok (.iload 4, 2) := by decide +kernel
theorem dX3_warmthOfBunk_61 : decode cX3_warmthOfBunk 61 = .ok (.iadd, 1) := by decide +kernel
theorem dX3_warmthOfBunk_62 : decode cX3_warmthOfBunk 62 = .ok (.ireturn, 1) := by decide +kernel
theorem dX3_sleeperIn_0 : decode cX3_sleeperIn 0 = .ok (.aload_n 0, 1) := by decide +kernel
theorem dX3_sleeperIn_1 : decode cX3_sleeperIn 1 = .ok (.iload_n 1, 1) := by decide +kernel
theorem dX3_sleeperIn_2 : decode cX3_sleeperIn 2 = .ok (.invokevirtual 114, 3) := by decide +kernel
theorem dX3_sleeperIn_5 : decode cX3_sleeperIn 5 = .ok (.ifCond .eq 14, 3) := by decide +kernel
theorem dX3_sleeperIn_8 : decode cX3_sleeperIn 8 = .ok (.aload_n 0, 1) := by decide +kernel
theorem dX3_sleeperIn_9 : decode cX3_sleeperIn 9 = .ok (.getfield 21, 3) := by decide +kernel
theorem dX3_sleeperIn_12 : decode cX3_sleeperIn 12 = .ok (.iload_n 1, 1) := by decide +kernel
theorem dX3_sleeperIn_13 : decode cX3_sleeperIn 13 = .ok (.iconst 2, 1) := by decide +kernel
theorem dX3_sleeperIn_14 : decode cX3_sleeperIn 14 = .ok (.iadd, 1) := by decide +kernel
theorem dX3_sleeperIn_15 : decode cX3_sleeperIn 15 = .ok (.iaload, 1) := by decide +kernel
theorem dX3_sleeperIn_16 : decode cX3_sleeperIn 16 = .ok (.goto 4, 3) := by decide +kernel
theorem dX3_sleeperIn_19 : decode cX3_sleeperIn 19 = .ok (.iconst (-1), 1) := by decide +kernel
theorem dX3_sleeperIn_20 : decode cX3_sleeperIn 20 = .ok (.ireturn, 1) := by decide +kernel
theorem dX3_noiseAt_0 : decode cX3_noiseAt 0 = .ok (.iload_n 1, 1) := by decide +kernel
theorem dX3_noiseAt_1 : decode cX3_noiseAt 1 = .ok (.ifCond .lt 11, 3) := by decide +kernel
theorem dX3_noiseAt_4 : decode cX3_noiseAt 4 = .ok (.iload_n 1, 1) := by decide +kernel
theorem dX3_noiseAt_5 : decode cX3_noiseAt 5 = .ok (.aload_n 0, 1) := by decide +kernel
theorem dX3_noiseAt_6 : decode cX3_noiseAt 6 = .ok (.getfield 69, 3) := by decide +kernel
theorem dX3_noiseAt_9 : decode cX3_noiseAt 9 = .ok (.if_icmp .lt 5, 3) := by decide +kernel
theorem dX3_noiseAt_12 : decode cX3_noiseAt 12 = .ok (.iconst 0, 1) := by decide +kernel
theorem dX3_noiseAt_13 : decode cX3_noiseAt 13 = .ok (.ireturn, 1) := by decide +kernel
theorem dX3_noiseAt_14 : decode cX3_noiseAt 14 = .ok (.iload_n 1, 1) := by decide +kernel
theorem dX3_noiseAt_15 : decode cX3_noiseAt 15 = .ok (.iconst 2, 1) := by decide +kernel
theorem dX3_noiseAt_16 : decode cX3_noiseAt 16 = .ok (.iadd, 1) := by decide +kernel
theorem dX3_noiseAt_17 : decode cX3_noiseAt 17 = .ok (.istore_n 2, 1) := by decide +kernel
theorem dX3_noiseAt_18 : decode cX3_noiseAt 18 = .ok (.aload_n 0, 1) := by decide +kernel
theorem dX3_noiseAt_19 : decode cX3_noiseAt 19 = .ok (.getfield 24, 3) := by decide +kernel
theorem dX3_noiseAt_22 : decode cX3_noiseAt 22 = .ok (.iload_n 2, 1) := by decide +kernel
theorem dX3_noiseAt_23 : decode cX3_noiseAt 23 = .ok (.iconst 1, 1) := by decide +kernel
theorem dX3_noiseAt_24 : decode cX3_noiseAt 24 = .ok (.isub, 1) := by decide +kernel
theorem dX3_noiseAt_25 : decode cX3_noiseAt 25 = .ok (.iaload, 1) := by decide +kernel
theorem dX3_noiseAt_26 : decode cX3_noiseAt 26 = .ok (.aload_n 0, 1) := by decide +kernel
theorem dX3_noiseAt_27 : decode cX3_noiseAt 27 = .ok (.getfield 24, 3) := by decide +kernel
theorem dX3_noiseAt_30 : decode cX3_noiseAt 30 = .ok (.iload_n 2, 1) := by decide +kernel
theorem dX3_noiseAt_31 : decode cX3_noiseAt 31 = .ok (.iconst 1, 1) := by decide +kernel
theorem dX3_noiseAt_32 : decode cX3_noiseAt 32 = .ok (.iadd, 1) := by decide +kernel
theorem dX3_noiseAt_33 : decode cX3_noiseAt 33 = .ok (.iaload, 1) := by decide +kernel
theorem dX3_noiseAt_34 : decode cX3_noiseAt 34 = .ok (.iadd, 1) := by decide +kernel
theorem dX3_noiseAt_35 : decode cX3_noiseAt 35 = .ok (.istore_n 3, 1) := by decide +kernel
theorem dX3_noiseAt_36 : decode cX3_noiseAt 36 = .ok (.aload_n 0, 1) := by decide +kernel
theorem dX3_noiseAt_37 : decode cX3_noiseAt 37 = .ok (.getfield 24, 3) := by decide +kernel
theorem dX3_noiseAt_40 : decode cX3_noiseAt 40 = .ok (.iload_n 2, 1) := by decide +kernel
theorem dX3_noiseAt_41 : decode cX3_noiseAt 41 = .ok (.iconst 2, 1) := by decide +kernel
theorem dX3_noiseAt_42 : decode cX3_noiseAt 42 = .ok (.isub, 1) := by decide +kernel
theorem dX3_noiseAt_43 : decode cX3_noiseAt 43 = .ok (.iaload, 1) := by decide +kernel
theorem dX3_noiseAt_44 : decode cX3_noiseAt 44 = .ok (.aload_n 0, 1) := by decide +kernel
theorem dX3_noiseAt_45 : decode cX3_noiseAt 45 = .ok (.getfield 24, 3) := by decide +kernel
theorem dX3_noiseAt_48 : decode cX3_noiseAt 48 = .ok (.iload_n 2, 1) := by decide +kernel
theorem dX3_noiseAt_49 : decode cX3_noiseAt 49 = .ok (.iconst 2, 1) := by decide +kernel
theorem dX3_noiseAt_50 : decode cX3_noiseAt 50 = .ok (.iadd, 1) := by decide +kernel
theorem dX3_noiseAt_51 : decode cX3_noiseAt 51 = .ok (.iaload, 1) := by decide +kernel
theorem dX3_noiseAt_52 : decode cX3_noiseAt 52 = .ok (.iadd, 1) := by decide +kernel
theorem dX3_noiseAt_53 : decode cX3_noiseAt 53 = .ok (.istore 4, 2) := by decide +kernel
theorem dX3_noiseAt_55 : decode cX3_noiseAt 55 = .ok (.iload_n 3, 1) := by decide +kernel
theorem dX3_noiseAt_56 : decode cX3_noiseAt 56 = .ok (.iload 4, 2) := by decide +kernel
theorem dX3_noiseAt_58 : decode cX3_noiseAt 58 = .ok (.iconst 2, 1) := by decide +kernel
theorem dX3_noiseAt_59 : decode cX3_noiseAt 59 = .ok (.idiv, 1) := by decide +kernel
theorem dX3_noiseAt_60 : decode cX3_noiseAt 60 = .ok (.iadd, 1) := by decide +kernel
theorem dX3_noiseAt_61 : decode cX3_noiseAt 61 = .ok (.ireturn, 1) := by decide +kernel
theorem dX3_activityNow_0 : decode cX3_activityNow 0 = .ok (.aload_n 0, 1) := by decide +kernel
theorem dX3_activityNow_1 : decode cX3_activityNow 1 = .ok (.getfield 29, 3) := by decide +kernel
theorem dX3_activityNow_4 : decode cX3_activityNow 4 = .ok (.iload_n 1, 1) := by decide +kernel
theorem dX3_activityNow_5 : decode cX3_activityNow 5 = .ok (.aaload, 1) := by decide +kernel
theorem dX3_activityNow_6 : decode cX3_activityNow 6 = .ok (.astore_n 2, 1) := by decide +kernel
theorem dX3_activityNow_7 : decode cX3_activityNow 7 = .ok (.aload_n 2, 1) := by decide +kernel
theorem dX3_activityNow_8 : decode cX3_activityNow 8 = .ok (.invokevirtual 117, 3) := by decide +kernel
theorem dX3_activityNow_11 : decode cX3_activityNow 11 = .ok (.ifCond .eq 5, 3) := by decide +kernel
theorem dX3_activityNow_14 : decode cX3_activityNow 14 = .ok (.iconst 0, 1) := by decide +kernel
theorem dX3_activityNow_15 : decode cX3_activityNow 15 = .ok (.ireturn, 1) := by decide +kernel
theorem dX3_activityNow_16 : decode cX3_activityNow 16 = .ok (.aload_n 2, 1) := by decide +kernel
theorem dX3_activityNow_17 : decode cX3_activityNow 17 = .ok (.getfield 104, 3) := by decide +kernel
theorem dX3_activityNow_20 : decode cX3_activityNow 20 = .ok (.iconst (-1), 1) := by decide +kernel
theorem dX3_activityNow_21 : decode cX3_activityNow 21 = .ok (.if_icmp .ne 5, 3) := by decide +kernel
theorem dX3_activityNow_24 : decode cX3_activityNow 24 = .ok (.iconst 3, 1) := by decide +kernel
theorem dX3_activityNow_25 : decode cX3_activityNow 25 = .ok (.ireturn, 1) := by decide +kernel
theorem dX3_activityNow_26 : decode cX3_activityNow 26 = .ok (.aload_n 0, 1) := by decide +kernel
theorem dX3_activityNow_27 : decode cX3_activityNow 27 = .ok (.aload_n 2, 1) := by decide +kernel
theorem dX3_activityNow_28 : decode cX3_activityNow 28 = .ok (.getfield 104, 3) := by decide +kernel
theorem dX3_activityNow_31 : decode cX3_activityNow 31 = .ok (.invokevirtual 124, 3) := by decide +kernel
theorem dX3_activityNow_34 : decode cX3_activityNow 34 = .ok (.bipush 6, 2) := by decide +kernel
theorem dX3_activityNow_36 : decode cX3_activityNow 36 = .ok (.if_icmp .le 7, 3) := by decide +kernel
theorem dX3_activityNow_39 : decode cX3_activityNow 39 = .ok (.iconst 1, 1) := by decide +kernel
theorem dX3_activityNow_40 : decode cX3_activityNow 40 = .ok (.goto 4, 3) := by decide +kernel
theorem dX3_activityNow_43 : decode cX3_activityNow 43 = .ok (.iconst 2, 1) := by decide +kernel
theorem dX3_activityNow_44 : decode cX3_activityNow 44 = .ok (.ireturn, 1) := by decide +kernel
theorem dX3_userOfBlanket_0 : decode cX3_userOfBlanket 0 = .ok (.iconst 0, 1) := by decide +kernel
theorem dX3_userOfBlanket_1 : decode cX3_userOfBlanket 1 = .ok (.istore_n 2, 1) := by decide +kernel
theorem dX3_userOfBlanket_2 : decode cX3_userOfBlanket 2 = .ok (.iload_n 2, 1) := by decide +kernel
theorem dX3_userOfBlanket_3 : decode cX3_userOfBlanket 3 = .ok (.aload_n 0, 1) := by decide +kernel
theorem dX3_userOfBlanket_4 : decode cX3_userOfBlanket 4 = .ok (.getfield 78, 3) := by decide +kernel
theorem dX3_userOfBlanket_7 : decode cX3_userOfBlanket 7 = .ok (.if_icmp .ge 24, 3) := by decide +kernel
theorem dX3_userOfBlanket_10 : decode cX3_userOfBlanket 10 = .ok (.aload_n 0, 1) := by decide +kernel
theorem dX3_userOfBlanket_11 : decode cX3_userOfBlanket 11 = .ok (.getfield 29, 3) := by decide +kernel
theorem dX3_userOfBlanket_14 : decode cX3_userOfBlanket 14 = .ok (.iload_n 2, 1) := by decide +kernel
theorem dX3_userOfBlanket_15 : decode cX3_userOfBlanket 15 = .ok (.aaload, 1) := by decide +kernel
theorem dX3_userOfBlanket_16 : decode cX3_userOfBlanket 16 = .ok (.getfield 94, 3) := by decide +kernel
theorem dX3_userOfBlanket_19 : decode cX3_userOfBlanket 19 = .ok (.iload_n 1, 1) := by decide +kernel
theorem dX3_userOfBlanket_20 : decode cX3_userOfBlanket 20 = .ok (.if_icmp .ne 5, 3) := by decide +kernel
theorem dX3_userOfBlanket_23 : decode cX3_userOfBlanket 23 = .ok (.iload_n 2, 1) := by decide +kernel
theorem dX3_userOfBlanket_24 : decode cX3_userOfBlanket 24 = .ok (.ireturn, 1) := by decide +kernel
theorem dX3_userOfBlanket_25 : decode cX3_userOfBlanket 25 = .ok (.iinc 2 1, 3) := by decide +kernel
theorem dX3_userOfBlanket_28 : decode cX3_userOfBlanket 28 = .ok (.goto (-26), 3) := by decide +kernel
theorem dX3_userOfBlanket_31 : decode cX3_userOfBlanket 31 = .ok (.iconst (-1), 1) := by decide +kernel
theorem dX3_userOfBlanket_32 : decode cX3_userOfBlanket 32 = .ok (.ireturn, 1) := by decide +kernel
theorem dX3_hikersWithoutBlanket_0 : decode cX3_hikersWithoutBlanket 0 = .ok (.iconst 0, 1) := by decide +kernel
theorem dX3_hikersWithoutBlanket_1 : decode cX3_hikersWithoutBlanket 1 = .ok (.istore_n 1, 1) := by decide +kernel
theorem dX3_hikersWithoutBlanket_2 : decode cX3_hikersWithoutBlanket 2 = .ok (.iconst 0, 1) := by decide +kernel
theorem dX3_hikersWithoutBlanket_3 : decode cX3_hikersWithoutBlanket 3 = .ok (.istore_n 2, 1) := by decide +kernel
theorem dX3_hikersWithoutBlanket_4 : decode cX3_hikersWithoutBlanket 4 = .ok (.iload_n 2, 1) := by decide +kernel
theorem dX3_hikersWithoutBlanket_5 : decode cX3_hikersWithoutBlanket 5 = .ok (.aload_n 0, 1) := by decide +kernel
theorem dX3_hikersWithoutBlanket_6 : decode cX3_hikersWithoutBlanket 6 = .ok (.getfield 78, 3) := by decide +kernel
theorem dX3_hikersWithoutBlanket_9 : decode cX3_hikersWithoutBlanket 9 = .ok (.if_icmp .ge 25, 3) := by decide +kernel
theorem dX3_hikersWithoutBlanket_12 : decode cX3_hikersWithoutBlanket 12 = .ok (.aload_n 0, 1) := by decide +kernel
theorem dX3_hikersWithoutBlanket_13 : decode cX3_hikersWithoutBlanket 13 = .ok (.getfield 29, 3) := by decide +kernel
theorem dX3_hikersWithoutBlanket_16 : decode cX3_hikersWithoutBlanket 16 = .ok (.iload_n 2, 1) := by decide +kernel
theorem dX3_hikersWithoutBlanket_17 : decode cX3_hikersWithoutBlanket 17 = .ok (.aaload, 1) := by decide +kernel
theorem dX3_hikersWithoutBlanket_18 : decode cX3_hikersWithoutBlanket 18 = .ok (.getfield 94, 3) := by decide +kernel
theorem dX3_hikersWithoutBlanket_21 : decode cX3_hikersWithoutBlanket 21 = .ok (.iconst (-1), 1) := by decide +kernel
theorem dX3_hikersWithoutBlanket_22 : decode cX3_hikersWithoutBlanket 22 = .ok (.if_icmp .ne 6, 3) := by decide +kernel
theorem dX3_hikersWithoutBlanket_25 : decode cX3_hikersWithoutBlanket 25 = .ok (.iinc 1 1, 3) := by decide +kernel
theorem dX3_hikersWithoutBlanket_28 : decode cX3_hikersWithoutBlanket 28 = .ok (.iinc 2 1, 3) := by decide +kernel
theorem dX3_hikersWithoutBlanket_31 : decode cX3_hikersWithoutBlanket 31 = .ok (.goto (-27), 3) := by decide +kernel
theorem dX3_hikersWithoutBlanket_34 : decode cX3_hikersWithoutBlanket 34 = .ok (.iload_n 1, 1) := by decide +kernel
theorem dX3_hikersWithoutBlanket_35 : decode cX3_hikersWithoutBlanket 35 = .ok (.ireturn, 1) := by decide +kernel
theorem dX3_coldCount_0 : decode cX3_coldCount 0 = .ok (.aload_n 0, 1) := by decide +kernel
theorem dX3_coldCount_1 : decode cX3_coldCount 1 = .ok (.iconst 0, 1) := by decide +kernel
theorem dX3_coldCount_2 : decode cX3_coldCount 2 = .ok (.invokevirtual 172, 3) := by decide +kernel
theorem dX3_coldCount_5 : decode cX3_coldCount 5 = .ok (.ireturn, 1) := by decide +kernel
theorem dX3_countOf_0 : decode cX3_countOf 0 = .ok (.iconst 0, 1) := by decide +kernel
theorem dX3_countOf_1 : decode cX3_countOf 1 = .ok (.istore_n 2, 1) := by decide +kernel
theorem dX3_countOf_2 : decode cX3_countOf 2 = .ok (.iconst 0, 1) := by decide +kernel
theorem dX3_countOf_3 : decode cX3_countOf 3 = .ok (.istore_n 3, 1) := by decide +kernel
theorem dX3_countOf_4 : decode cX3_countOf 4 = .ok (.iload_n 3, 1) := by decide +kernel
theorem dX3_countOf_5 : decode cX3_countOf 5 = .ok (.aload_n 0, 1) := by decide +kernel
theorem dX3_countOf_6 : decode cX3_countOf 6 = .ok (.getfield 78, 3) := by decide +kernel
theorem dX3_countOf_9 : decode cX3_countOf 9 = .ok (.if_icmp .ge 21, 3) := by decide +kernel
theorem dX3_countOf_12 : decode cX3_countOf 12 = .ok (.aload_n 0, 1) := by decide +kernel
theorem dX3_countOf_13 : decode cX3_countOf 13 = .ok (.iload_n 3, 1) := by decide +kernel
theorem dX3_countOf_14 : decode cX3_countOf 14 = .ok (.invokevirtual 175, 3) := by decide +kernel
theorem dX3_countOf_17 : decode cX3_countOf 17 = .ok (.iload_n 1, 1) := by decide +kernel
theorem dX3_countOf_18 : decode cX3_countOf 18 = .ok (.if_icmp .ne 6, 3) := by decide +kernel
theorem dX3_countOf_21 : decode cX3_countOf 21 = .ok (.iinc 2 1, 3) := by decide +kernel
theorem dX3_countOf_24 : decode cX3_countOf 24 = .ok (.iinc 3 1, 3) := by decide +kernel
theorem dX3_countOf_27 : decode cX3_countOf 27 = .ok (.goto (-23), 3) := by decide +kernel
theorem dX3_countOf_30 : decode cX3_countOf 30 = .ok (.iload_n 2, 1) := by decide +kernel
theorem dX3_countOf_31 : decode cX3_countOf 31 = .ok (.ireturn, 1) := by decide +kernel
theorem dX3_hikerOfRank_0 : decode cX3_hikerOfRank 0 = .ok (.iconst 0, 1) := by decide +kernel
theorem dX3_hikerOfRank_1 : decode cX3_hikerOfRank 1 = .ok (.istore_n 2, 1) := by decide +kernel
theorem dX3_hikerOfRank_2 : decode cX3_hikerOfRank 2 = .ok (.iload_n 2, 1) := by decide +kernel
theorem dX3_hikerOfRank_3 : decode cX3_hikerOfRank 3 = .ok (.aload_n 0, 1) := by decide +kernel
theorem dX3_hikerOfRank_4 : decode cX3_hikerOfRank 4 = .ok (.getfield 78, 3) := by decide +kernel
theorem dX3_hikerOfRank_7 : decode cX3_hikerOfRank 7 = .ok (.if_icmp .ge 20, 3) := by decide +kernel
theorem dX3_hikerOfRank_10 : decode cX3_hikerOfRank 10 = .ok (.aload_n 0, 1) := by decide +kernel
theorem dX3_hikerOfRank_11 : decode cX3_hikerOfRank 11 = .ok (.iload_n 2, 1) := by decide +kernel
theorem dX3_hikerOfRank_12 : decode cX3_hikerOfRank 12 = .ok (.invokevirtual 181, 3) := by decide +kernel
theorem dX3_hikerOfRank_15 : decode cX3_hikerOfRank 15 = .ok (.iload_n 1, 1) := by decide +kernel
theorem dX3_hikerOfRank_16 : decode cX3_hikerOfRank 16 = .ok (.if_icmp .ne 5, 3) := by decide +kernel
theorem dX3_hikerOfRank_19 : decode cX3_hikerOfRank 19 = .ok (.iload_n 2, 1) := by decide +kernel
theorem dX3_hikerOfRank_20 : decode cX3_hikerOfRank 20 = .ok (.ireturn, 1) := by decide +kernel
theorem dX3_hikerOfRank_21 : decode cX3_hikerOfRank 21 = .ok (.iinc 2 1, 3) := by decide +kernel
theorem dX3_hikerOfRank_24 : decode cX3_hikerOfRank 24 = .ok (.goto (-22), 3) := by decide +kernel
theorem dX3_hikerOfRank_27 : decode cX3_hikerOfRank 27 = .ok (.iconst (-1), 1) := by decide +kernel
theorem dX3_hikerOfRank_28 : decode cX3_hikerOfRank 28 = .ok (.ireturn, 1) := by decide +kernel
theorem dX3_rankOfHiker_0 : decode cX3_rankOfHiker 0 = .ok (.iconst 0, 1) := by decide +kernel
theorem dX3_rankOfHiker_1 : decode cX3_rankOfHiker 1 = .ok (.istore_n 2, 1) := by decide +kernel
theorem dX3_rankOfHiker_2 : decode cX3_rankOfHiker 2 = .ok (.iconst 0, 1) := by decide +kernel
theorem dX3_rankOfHiker_3 : decode cX3_rankOfHiker 3 = .ok (.istore_n 3, 1) := by decide +kernel
theorem dX3_rankOfHiker_4 : decode cX3_rankOfHiker 4 = .ok (.iload_n 3, 1) := by decide +kernel
theorem dX3_rankOfHiker_5 : decode cX3_rankOfHiker 5 = .ok (.aload_n 0, 1) := by decide +kernel
theorem dX3_rankOfHiker_6 : decode cX3_rankOfHiker 6 = .ok (.getfield 78, 3) := by decide +kernel
theorem dX3_rankOfHiker_9 : decode cX3_rankOfHiker 9 = .ok (.if_icmp .ge 65, 3) := by decide +kernel
theorem dX3_rankOfHiker_12 : decode cX3_rankOfHiker 12 = .ok (.iload_n 3, 1) := by decide +kernel
theorem dX3_rankOfHiker_13 : decode cX3_rankOfHiker 13 = .ok (.iload_n 1, 1) := by decide +kernel
theorem dX3_rankOfHiker_14 : decode cX3_rankOfHiker 14 = .ok (.if_icmp .ge 25, 3) := by decide +kernel
theorem dX3_rankOfHiker_17 : decode cX3_rankOfHiker 17 = .ok (.aload_n 0, 1) := by decide +kernel
theorem dX3_rankOfHiker_18 : decode cX3_rankOfHiker 18 = .ok (.getfield 29, 3) := by decide +kernel
theorem dX3_rankOfHiker_21 : decode cX3_rankOfHiker 21 = .ok (.iload_n 1, 1) := by decide +kernel
theorem dX3_rankOfHiker_22 : decode cX3_rankOfHiker 22 = .ok (.aaload, 1) := by decide +kernel
theorem dX3_rankOfHiker_23 : decode cX3_rankOfHiker 23 = .ok (.aload_n 0, 1) := by decide +kernel
theorem dX3_rankOfHiker_24 : decode cX3_rankOfHiker 24 = .ok (.getfield 29, 3) := by decide +kernel
theorem dX3_rankOfHiker_27 : decode cX3_rankOfHiker 27 = .ok (.iload_n 3, 1) := by decide +kernel
theorem dX3_rankOfHiker_28 : decode cX3_rankOfHiker 28 = .ok (.aaload, 1) := by decide +kernel
theorem dX3_rankOfHiker_29 : decode cX3_rankOfHiker 29 = .ok (.invokevirtual 184, 3) := by decide +kernel
theorem dX3_rankOfHiker_32 : decode cX3_rankOfHiker 32 = .ok (.ifCond .ne 7, 3) := by decide +kernel
theorem dX3_rankOfHiker_35 : decode cX3_rankOfHiker 35 = .ok (.iconst 1, 1) := by decide +kernel
theorem dX3_rankOfHiker_36 : decode cX3_rankOfHiker 36 = .ok (.goto 4, 3) := by decide +kernel
theorem dX3_rankOfHiker_39 : decode cX3_rankOfHiker 39 = .ok (.iconst 0, 1) := by decide +kernel
theorem dX3_rankOfHiker_40 : decode cX3_rankOfHiker 40 = .ok (.istore 4, 2) := by decide +kernel
theorem dX3_rankOfHiker_42 : decode cX3_rankOfHiker 42 = .ok (.iload 4, 2) := by decide +kernel
theorem dX3_rankOfHiker_44 : decode cX3_rankOfHiker 44 = .ok (.ifCond .ne 21, 3) := by decide +kernel
theorem dX3_rankOfHiker_47 : decode cX3_rankOfHiker 47 = .ok (.aload_n 0, 1) := by decide +kernel
theorem dX3_rankOfHiker_48 : decode cX3_rankOfHiker 48 = .ok (.getfield 29, 3) := by decide +kernel
theorem dX3_rankOfHiker_51 : decode cX3_rankOfHiker 51 = .ok (.iload_n 3, 1) := by decide +kernel
theorem dX3_rankOfHiker_52 : decode cX3_rankOfHiker 52 = .ok (.aaload, 1) := by decide +kernel
theorem dX3_rankOfHiker_53 : decode cX3_rankOfHiker 53 = .ok (.aload_n 0, 1) := by decide +kernel
theorem dX3_rankOfHiker_54 : decode cX3_rankOfHiker 54 = .ok (.getfield 29, 3) := by decide +kernel
theorem dX3_rankOfHiker_57 : decode cX3_rankOfHiker 57 = .ok (.iload_n 1, 1) := by decide +kernel
theorem dX3_rankOfHiker_58 : decode cX3_rankOfHiker 58 = .ok (.aaload, 1) := by decide +kernel
theorem dX3_rankOfHiker_59 : decode cX3_rankOfHiker 59 = .ok (.invokevirtual 184, 3) := by decide +kernel
theorem dX3_rankOfHiker_62 : decode cX3_rankOfHiker 62 = .ok (.ifCond .eq 6, 3) := by decide +kernel
theorem dX3_rankOfHiker_65 : decode cX3_rankOfHiker 65 = .ok (.iinc 2 1, 3) := by decide +kernel
theorem dX3_rankOfHiker_68 : decode cX3_rankOfHiker 68 = .ok (.iinc 3 1, 3) := by decide +kernel
theorem dX3_rankOfHiker_71 : decode cX3_rankOfHiker 71 = .ok (.goto (-67), 3) := by decide +kernel
theorem dX3_rankOfHiker_74 : decode cX3_rankOfHiker 74 = .ok (.iload_n 2, 1) := by decide +kernel
theorem dX3_rankOfHiker_75 : decode cX3_rankOfHiker 75 = .ok (.ireturn, 1) := by decide +kernel
theorem dX3_sumOfCoins_0 : decode cX3_sumOfCoins 0 = .ok (.iconst 0, 1) := by decide +kernel
theorem dX3_sumOfCoins_1 : decode cX3_sumOfCoins 1 = .ok (.istore_n 1, 1) := by decide +kernel
theorem dX3_sumOfCoins_2 : decode cX3_sumOfCoins 2 = .ok (.iconst 0, 1) := by decide +kernel
theorem dX3_sumOfCoins_3 : decode cX3_sumOfCoins 3 = .ok (.istore_n 2, 1) := by decide +kernel
theorem dX3_sumOfCoins_4 : decode cX3_sumOfCoins 4 = .ok (.iload_n 2, 1) := by decide +kernel
theorem dX3_sumOfCoins_5 : decode cX3_sumOfCoins 5 = .ok (.aload_n 0, 1) := by decide +kernel
theorem dX3_sumOfCoins_6 : decode cX3_sumOfCoins 6 = .ok (.getfield 78, 3) := by decide +kernel
theorem dX3_sumOfCoins_9 : decode cX3_sumOfCoins 9 = .ok (.if_icmp .ge 21, 3) := by decide +kernel
theorem dX3_sumOfCoins_12 : decode cX3_sumOfCoins 12 = .ok (.iload_n 1, 1) := by decide +kernel
theorem dX3_sumOfCoins_13 : decode cX3_sumOfCoins 13 = .ok (.aload_n 0, 1) := by decide +kernel
theorem dX3_sumOfCoins_14 : decode cX3_sumOfCoins 14 = .ok (.getfield 29, 3) := by decide +kernel
theorem dX3_sumOfCoins_17 : decode cX3_sumOfCoins 17 = .ok (.iload_n 2, 1) := by decide +kernel
theorem dX3_sumOfCoins_18 : decode cX3_sumOfCoins 18 = .ok (.aaload, 1) := by decide +kernel
theorem dX3_sumOfCoins_19 : decode cX3_sumOfCoins 19 = .ok (.getfield 188, 3) := by decide +kernel
theorem dX3_sumOfCoins_22 : decode cX3_sumOfCoins 22 = .ok (.iadd, 1) := by decide +kernel
theorem dX3_sumOfCoins_23 : decode cX3_sumOfCoins 23 = .ok (.istore_n 1, 1) := by decide +kernel
theorem dX3_sumOfCoins_24 : decode cX3_sumOfCoins 24 = .ok (.iinc 2 1, 3) := by decide +kernel
theorem dX3_sumOfCoins_27 : decode cX3_sumOfCoins 27 = .ok (.goto (-23), 3) := by decide +kernel
theorem dX3_sumOfCoins_30 : decode cX3_sumOfCoins 30 = .ok (.iload_n 1, 1) := by decide +kernel
theorem dX3_sumOfCoins_31 : decode cX3_sumOfCoins 31 = .ok (.ireturn, 1) := by decide +kernel
theorem dX3_sumOfDebts_0 : decode cX3_sumOfDebts 0 = .ok (.iconst 0, 1) := by decide +kernel
theorem dX3_sumOfDebts_1 : decode cX3_sumOfDebts 1 = .ok (.istore_n 1, 1) := by decide +kernel
theorem dX3_sumOfDebts_2 : decode cX3_sumOfDebts 2 = .ok (.iconst 0, 1) := by decide +kernel
theorem dX3_sumOfDebts_3 : decode cX3_sumOfDebts 3 = .ok (.istore_n 2, 1) := by decide +kernel
theorem dX3_sumOfDebts_4 : decode cX3_sumOfDebts 4 = .ok (.iload_n 2, 1) := by decide +kernel
theorem dX3_sumOfDebts_5 : decode cX3_sumOfDebts 5 = .ok (.aload_n 0, 1) := by decide +kernel
theorem dX3_sumOfDebts_6 : decode cX3_sumOfDebts 6 = .ok (.getfield 78, 3) := by decide +kernel
theorem dX3_sumOfDebts_9 : decode cX3_sumOfDebts 9 = .ok (.if_icmp .ge 21, 3) := by decide +kernel
theorem dX3_sumOfDebts_12 : decode cX3_sumOfDebts 12 = .ok (.iload_n 1, 1) := by decide +kernel
theorem dX3_sumOfDebts_13 : decode cX3_sumOfDebts 13 = .ok (.aload_n 0, 1) := by decide +kernel
theorem dX3_sumOfDebts_14 : decode cX3_sumOfDebts 14 = .ok (.getfield 29, 3) := by decide +kernel
theorem dX3_sumOfDebts_17 : decode cX3_sumOfDebts 17 = .ok (.iload_n 2, 1) := by decide +kernel
theorem dX3_sumOfDebts_18 : decode cX3_sumOfDebts 18 = .ok (.aaload, 1) := by decide +kernel
theorem dX3_sumOfDebts_19 : decode cX3_sumOfDebts 19 = .ok (.getfield 191, 3) := by decide +kernel
theorem dX3_sumOfDebts_22 : decode cX3_sumOfDebts 22 = .ok (.iadd, 1) := by decide +kernel
theorem dX3_sumOfDebts_23 : decode cX3_sumOfDebts 23 = .ok (.istore_n 1, 1) := by decide +kernel
theorem dX3_sumOfDebts_24 : decode cX3_sumOfDebts 24 = .ok (.iinc 2 1, 3) := by decide +kernel
theorem dX3_sumOfDebts_27 : decode cX3_sumOfDebts 27 = .ok (.goto (-23), 3) := by decide +kernel
theorem dX3_sumOfDebts_30 : decode cX3_sumOfDebts 30 = .ok (.iload_n 1, 1) := by decide +kernel
theorem dX3_sumOfDebts_31 : decode cX3_sumOfDebts 31 = .ok (.ireturn, 1) := by decide +kernel
theorem dX3_sumOfWarmths_0 : decode cX3_sumOfWarmths 0 = .ok (.iconst 0, 1) := by decide +kernel
theorem dX3_sumOfWarmths_1 : decode cX3_sumOfWarmths 1 = .ok (.istore_n 1, 1) := by decide +kernel
theorem dX3_sumOfWarmths_2 : decode cX3_sumOfWarmths 2 = .ok (.iconst 0, 1) := by decide +kernel
theorem dX3_sumOfWarmths_3 : decode cX3_sumOfWarmths 3 = .ok (.istore_n 2, 1) := by decide +kernel
theorem dX3_sumOfWarmths_4 : decode cX3_sumOfWarmths 4 = .ok (.iload_n 2, 1) := by decide +kernel
theorem dX3_sumOfWarmths_5 : decode cX3_sumOfWarmths 5 = .ok (.aload_n 0, 1) := by decide +kernel
theorem dX3_sumOfWarmths_6 : decode cX3_sumOfWarmths 6 = .ok (.getfield 78, 3) := by decide +kernel
theorem dX3_sumOfWarmths_9 : decode cX3_sumOfWarmths 9 = .ok (.if_icmp .ge 21, 3) := by decide +kernel
theorem dX3_sumOfWarmths_12 : decode cX3_sumOfWarmths 12 = .ok (.iload_n 1, 1) := by decide +kernel
theorem dX3_sumOfWarmths_13 : decode cX3_sumOfWarmths 13 = .ok (.aload_n 0, 1) := by decide +kernel
theorem dX3_sumOfWarmths_14 : decode cX3_sumOfWarmths 14 = .ok (.getfield 29, 3) := by decide +kernel
theorem dX3_sumOfWarmths_17 : decode cX3_sumOfWarmths 17 = .ok (.iload_n 2, 1) := by decide +kernel
theorem dX3_sumOfWarmths_18 : decode cX3_sumOfWarmths 18 = .ok (.aaload, 1) := by decide +kernel
theorem dX3_sumOfWarmths_19 : decode cX3_sumOfWarmths 19 = .ok (.getfield 111, 3) := by decide +kernel
theorem dX3_sumOfWarmths_22 : decode cX3_sumOfWarmths 22 = .ok (.iadd, 1) := by decide +kernel
theorem dX3_sumOfWarmths_23 : decode cX3_sumOfWarmths 23 = .ok (.istore_n 1, 1) := by decide +kernel
theorem dX3_sumOfWarmths_24 : decode cX3_sumOfWarmths 24 = .ok (.iinc 2 1, 3) := by decide +kernel
theorem dX3_sumOfWarmths_27 : decode cX3_sumOfWarmths 27 = .ok (.goto (-23), 3) := by decide +kernel
theorem dX3_sumOfWarmths_30 : decode cX3_sumOfWarmths 30 = .ok (.iload_n 1, 1) := by decide +kernel
theorem dX3_sumOfWarmths_31 : decode cX3_sumOfWarmths 31 = .ok (.ireturn, 1) := by decide +kernel
theorem dX3_sumOfHours_0 : decode cX3_sumOfHours 0 = .ok (.iconst 0, 1) := by decide +kernel
theorem dX3_sumOfHours_1 : decode cX3_sumOfHours 1 = .ok (.istore_n 2, 1) := by decide +kernel
theorem dX3_sumOfHours_2 : decode cX3_sumOfHours 2 = .ok (.iconst 0, 1) := by decide +kernel
theorem dX3_sumOfHours_3 : decode cX3_sumOfHours 3 = .ok (.istore_n 3, 1) := by decide +kernel
theorem dX3_sumOfHours_4 : decode cX3_sumOfHours 4 = .ok (.iload_n 3, 1) := by decide +kernel
theorem dX3_sumOfHours_5 : decode cX3_sumOfHours 5 = .ok (.aload_n 0, 1) := by decide +kernel
theorem dX3_sumOfHours_6 : decode cX3_sumOfHours 6 = .ok (.getfield 78, 3) := by decide +kernel
theorem dX3_sumOfHours_9 : decode cX3_sumOfHours 9 = .ok (.if_icmp .ge 23, 3) := by decide +kernel
theorem dX3_sumOfHours_12 : decode cX3_sumOfHours 12 = .ok (.iload_n 2, 1) := by decide +kernel
theorem dX3_sumOfHours_13 : decode cX3_sumOfHours 13 = .ok (.aload_n 0, 1) := by decide +kernel
theorem dX3_sumOfHours_14 : decode cX3_sumOfHours 14 = .ok (.getfield 29, 3) := by decide +kernel
theorem dX3_sumOfHours_17 : decode cX3_sumOfHours 17 = .ok (.iload_n 3, 1) := by decide +kernel
theorem dX3_sumOfHours_18 : decode cX3_sumOfHours 18 = .ok (.aaload, 1) := by decide +kernel
theorem dX3_sumOfHours_19 : decode cX3_sumOfHours 19 = .ok (.getfield 194, 3) := by decide +kernel
theorem dX3_sumOfHours_22 : decode cX3_sumOfHours 22 = .ok (.iload_n 1, 1) := by decide +kernel
theorem dX3_sumOfHours_23 : decode cX3_sumOfHours 23 = .ok (.iaload, 1) := by decide +kernel
theorem dX3_sumOfHours_24 : decode cX3_sumOfHours 24 = .ok (.iadd, 1) := by decide +kernel
theorem dX3_sumOfHours_25 : decode cX3_sumOfHours 25 = .ok (.istore_n 2, 1) := by decide +kernel
theorem dX3_sumOfHours_26 : decode cX3_sumOfHours 26 = .ok (.iinc 3 1, 3) := by decide +kernel
theorem dX3_sumOfHours_29 : decode cX3_sumOfHours 29 = .ok (.goto (-25), 3) := by decide +kernel
theorem dX3_sumOfHours_32 : decode cX3_sumOfHours 32 = .ok (.iload_n 2, 1) := by decide +kernel
theorem dX3_sumOfHours_33 : decode cX3_sumOfHours 33 = .ok (.ireturn, 1) := by decide +kernel
theorem dX3_thingsUsedTwice_0 : decode cX3_thingsUsedTwice 0 = .ok (.iconst 0, 1) := by decide +kernel
theorem dX3_thingsUsedTwice_1 : decode cX3_thingsUsedTwice 1 = .ok (.istore_n 1, 1) := by decide +kernel
theorem dX3_thingsUsedTwice_2 : decode cX3_thingsUsedTwice 2 = .ok (.iconst 0, 1) := by decide +kernel
theorem dX3_thingsUsedTwice_3 : decode cX3_thingsUsedTwice 3 = .ok (.istore_n 2, 1) := by decide +kernel
theorem dX3_thingsUsedTwice_4 : decode cX3_thingsUsedTwice 4 = .ok (.iload_n 2, 1) := by decide +kernel
theorem dX3_thingsUsedTwice_5 : decode cX3_thingsUsedTwice 5 = .ok (.aload_n 0, 1) := by decide +kernel
theorem dX3_thingsUsedTwice_6 : decode cX3_thingsUsedTwice 6 = .ok (.getfield 78, 3) := by decide +kernel
theorem dX3_thingsUsedTwice_9 : decode cX3_thingsUsedTwice 9 = .ok (.if_icmp .ge 111, 3) := by decide +kernel
theorem dX3_thingsUsedTwice_12 : decode cX3_thingsUsedTwice 12 = .ok (.iload_n 2, 1) := by decide +kernel
theorem dX3_thingsUsedTwice_13 : decode cX3_thingsUsedTwice 13 = .ok (.iconst 1, 1) := by decide +kernel
theorem dX3_thingsUsedTwice_14 : decode cX3_thingsUsedTwice 14 = .ok (.iadd, 1) := by decide +kernel
theorem dX3_thingsUsedTwice_15 : decode cX3_thingsUsedTwice 15 = .ok (.istore_n 3, 1) := by decide +kernel
theorem dX3_thingsUsedTwice_16 : decode cX3_thingsUsedTwice 16 = .ok (.iload_n 3, 1) := by decide +kernel
theorem dX3_thingsUsedTwice_17 : decode cX3_thingsUsedTwice 17 = .ok (.aload_n 0, 1) := by decide +kernel
theorem dX3_thingsUsedTwice_18 : decode cX3_thingsUsedTwice 18 = .ok (.getfield 78, 3) := by decide +kernel
theorem dX3_thingsUsedTwice_21 : decode cX3_thingsUsedTwice 21 = .ok (.if_icmp .ge 93, 3) := by decide +kernel
theorem dX3_thingsUsedTwice_24 : decode cX3_thingsUsedTwice 24 = .ok (.iload_n 1, 1) := by decide +kernel
theorem dX3_thingsUsedTwice_25 : decode cX3_thingsUsedTwice 25 = .ok (.aload_n 0, 1) := by decide +kernel
theorem dX3_thingsUsedTwice_26 : decode cX3_thingsUsedTwice 26 = .ok (.getfield 29, 3) := by decide +kernel
theorem dX3_thingsUsedTwice_29 : decode cX3_thingsUsedTwice 29 = .ok (.iload_n 2, 1) := by decide +kernel
theorem dX3_thingsUsedTwice_30 : decode cX3_thingsUsedTwice 30 = .ok (.aaload, 1) := by decide +kernel
theorem dX3_thingsUsedTwice_31 : decode cX3_thingsUsedTwice 31 = .ok (.getfield 104, 3) := by decide +kernel
theorem dX3_thingsUsedTwice_34 : decode cX3_thingsUsedTwice 34 = .ok (.iconst (-1), 1) := by decide +kernel
theorem dX3_thingsUsedTwice_35 : decode cX3_thingsUsedTwice 35 = .ok (.if_icmp .eq 28, 3) := by decide +kernel
theorem dX3_thingsUsedTwice_38 : decode cX3_thingsUsedTwice 38 = .ok (.aload_n 0, 1) := by decide +kernel
theorem dX3_thingsUsedTwice_39 : decode cX3_thingsUsedTwice 39 = .ok (.getfield 29, 3) := by decide +kernel
theorem dX3_thingsUsedTwice_42 : decode cX3_thingsUsedTwice 42 = .ok (.iload_n 2, 1) := by decide +kernel
theorem dX3_thingsUsedTwice_43 : decode cX3_thingsUsedTwice 43 = .ok (.aaload, 1) := by decide +kernel
theorem dX3_thingsUsedTwice_44 : decode cX3_thingsUsedTwice 44 = .ok (.getfield 104, 3) := by decide +kernel
theorem dX3_thingsUsedTwice_47 : decode cX3_thingsUsedTwice 47 = .ok (.aload_n 0, 1) := by decide +kernel
theorem dX3_thingsUsedTwice_48 : decode cX3_thingsUsedTwice 48 = .ok (.getfield 29, 3) := by decide +kernel
theorem dX3_thingsUsedTwice_51 : decode cX3_thingsUsedTwice 51 = .ok (.iload_n 3, 1) := by decide +kernel
theorem dX3_thingsUsedTwice_52 : decode cX3_thingsUsedTwice 52 = .ok (.aaload, 1) := by decide +kernel
theorem dX3_thingsUsedTwice_53 : decode cX3_thingsUsedTwice 53 = .ok (.getfield 104, 3) := by decide +kernel
theorem dX3_thingsUsedTwice_56 : decode cX3_thingsUsedTwice 56 = .ok (.if_icmp .ne 7, 3) := by decide +kernel
theorem dX3_thingsUsedTwice_59 : decode cX3_thingsUsedTwice 59 = .ok (.iconst 1, 1) := by decide +kernel
theorem dX3_thingsUsedTwice_60 : decode cX3_thingsUsedTwice 60 = .ok (.goto 4, 3) := by decide +kernel
theorem dX3_thingsUsedTwice_63 : decode cX3_thingsUsedTwice 63 = .ok (.iconst 0, 1) := by decide +kernel
theorem dX3_thingsUsedTwice_64 : decode cX3_thingsUsedTwice 64 = .ok (.iadd, 1) := by decide +kernel
theorem dX3_thingsUsedTwice_65 : decode cX3_thingsUsedTwice 65 = .ok (.istore_n 1, 1) := by decide +kernel
theorem dX3_thingsUsedTwice_66 : decode cX3_thingsUsedTwice 66 = .ok (.iload_n 1, 1) := by decide +kernel
theorem dX3_thingsUsedTwice_67 : decode cX3_thingsUsedTwice 67 = .ok (.aload_n 0, 1) := by decide +kernel
theorem dX3_thingsUsedTwice_68 : decode cX3_thingsUsedTwice 68 = .ok (.getfield 29, 3) := by decide +kernel
theorem dX3_thingsUsedTwice_71 : decode cX3_thingsUsedTwice 71 = .ok (.iload_n 2, 1) := by decide +kernel
theorem dX3_thingsUsedTwice_72 : decode cX3_thingsUsedTwice 72 = .ok (.aaload, 1) := by decide +kernel
theorem dX3_thingsUsedTwice_73 : decode cX3_thingsUsedTwice 73 = .ok (.getfield 94, 3) := by decide +kernel
theorem dX3_thingsUsedTwice_76 : decode cX3_thingsUsedTwice 76 = .ok (.iconst (-1), 1) := by decide +kernel
theorem dX3_thingsUsedTwice_77 : decode cX3_thingsUsedTwice 77 = .ok (.if_icmp .eq 28, 3) := by decide +kernel
theorem dX3_thingsUsedTwice_80 : decode cX3_thingsUsedTwice 80 = .ok (.aload_n 0, 1) := by decide +kernel
theorem dX3_thingsUsedTwice_81 : decode cX3_thingsUsedTwice 81 = .ok (.getfield 29, 3) := by decide +kernel
theorem dX3_thingsUsedTwice_84 : decode cX3_thingsUsedTwice 84 = .ok (.iload_n 2, 1) := by decide +kernel
theorem dX3_thingsUsedTwice_85 : decode cX3_thingsUsedTwice 85 = .ok (.aaload, 1) := by decide +kernel
theorem dX3_thingsUsedTwice_86 : decode cX3_thingsUsedTwice 86 = .ok (.getfield 94, 3) := by decide +kernel
theorem dX3_thingsUsedTwice_89 : decode cX3_thingsUsedTwice 89 = .ok (.aload_n 0, 1) := by decide +kernel
theorem dX3_thingsUsedTwice_90 : decode cX3_thingsUsedTwice 90 = .ok (.getfield 29, 3) := by decide +kernel
theorem dX3_thingsUsedTwice_93 : decode cX3_thingsUsedTwice 93 = .ok (.iload_n 3, 1) := by decide +kernel
theorem dX3_thingsUsedTwice_94 : decode cX3_thingsUsedTwice 94 = .ok (.aaload, 1) := by decide +kernel
theorem dX3_thingsUsedTwice_95 : decode cX3_thingsUsedTwice 95 = .ok (.getfield 94, 3) := by decide +kernel
theorem dX3_thingsUsedTwice_98 : decode cX3_thingsUsedTwice 98 = .ok (.if_icmp .ne 7, 3) := by decide +kernel
theorem dX3_thingsUsedTwice_101 : decode cX3_thingsUsedTwice 101 = .ok (.iconst 1, 1) := by decide +kernel
theorem dX3_thingsUsedTwice_102 : decode cX3_thingsUsedTwice 102 = .ok (.goto 4, 3) := by decide +kernel
theorem dX3_thingsUsedTwice_105 : decode cX3_thingsUsedTwice 105 = .ok (.iconst 0, 1) := by decide +kernel
theorem dX3_thingsUsedTwice_106 : decode cX3_thingsUsedTwice 106 = .ok (.iadd, 1) := by decide +kernel
theorem dX3_thingsUsedTwice_107 : decode cX3_thingsUsedTwice 107 = .ok (.istore_n 1, 1) := by decide +kernel
theorem dX3_thingsUsedTwice_108 : decode cX3_thingsUsedTwice 108 = .ok (.iinc 3 1, 3) := by decide +kernel
theorem dX3_thingsUsedTwice_111 : decode cX3_thingsUsedTwice 111 = .ok (.goto (-95), 3) := by decide +kernel
theorem dX3_thingsUsedTwice_114 : decode cX3_thingsUsedTwice 114 = .ok (.iinc 2 1, 3) := by decide +kernel
theorem dX3_thingsUsedTwice_117 : decode cX3_thingsUsedTwice 117 = .ok (.goto (-113), 3) := by decide +kernel
theorem dX3_thingsUsedTwice_120 : decode cX3_thingsUsedTwice 120 = .ok (.iload_n 1, 1) := by decide +kernel
theorem dX3_thingsUsedTwice_121 : decode cX3_thingsUsedTwice 121 = .ok (.ireturn, 1) := by decide +kernel
theorem dX3_passTime_0 : decode cX3_passTime 0 = .ok (.aload_n 0, 1) := by decide +kernel
theorem dX3_passTime_1 : decode cX3_passTime 1 = .ok (.getfield 60, 3) := by decide +kernel
theorem dX3_passTime_4 : decode cX3_passTime 4 = .ok (.istore_n 2, 1) := by decide +kernel
theorem dX3_passTime_5 : decode cX3_passTime 5 = .ok (.iconst 0, 1) := by decide +kernel
theorem dX3_passTime_6 : decode cX3_passTime 6 = .ok (.istore_n 3, 1) := by decide +kernel
theorem dX3_passTime_7 : decode cX3_passTime 7 = .ok (.iload_n 3, 1) := by decide +kernel
theorem dX3_passTime_8 : decode cX3_passTime 8 = .ok (.iload_n 1, 1) := by decide +kernel
theorem dX3_passTime_9 : decode cX3_passTime 9 = .ok (.if_icmp .ge 25, 3) := by decide +kernel
theorem dX3_passTime_12 : decode cX3_passTime 12 = .ok (.aload_n 0, 1) := by decide +kernel
theorem dX3_passTime_13 : decode cX3_passTime 13 = .ok (.invokevirtual 197, 3) := by decide +kernel
theorem dX3_passTime_16 : decode cX3_passTime 16 = .ok (.aload_n 0, 1) := by decide +kernel
theorem dX3_passTime_17 : decode cX3_passTime 17 = .ok (.invokevirtual 48, 3) := by decide +kernel
theorem dX3_passTime_20 : decode cX3_passTime 20 = .ok (.aload_n 0, 1) := by decide +kernel
theorem dX3_passTime_21 : decode cX3_passTime 21 = .ok (.invokevirtual 200, 3) := by decide +kernel
theorem dX3_passTime_24 : decode cX3_passTime 24 = .ok (.aload_n 0, 1) := by decide +kernel
theorem dX3_passTime_25 : decode cX3_passTime 25 = .ok (.invokevirtual 203, 3) := by decide +kernel
theorem dX3_passTime_28 : decode cX3_passTime 28 = .ok (.iinc 3 1, 3) := by decide +kernel
theorem dX3_passTime_31 : decode cX3_passTime 31 = .ok (.goto (-24), 3) := by decide +kernel
theorem dX3_passTime_34 : decode cX3_passTime 34 = .ok (.aload_n 0, 1) := by decide +kernel
theorem dX3_passTime_35 : decode cX3_passTime 35 = .ok (.invokevirtual 48, 3) := by decide +kernel
theorem dX3_passTime_38 : decode cX3_passTime 38 = .ok (.aload_n 0, 1) := by decide +kernel
theorem dX3_passTime_39 : decode cX3_passTime 39 = .ok (.getfield 60, 3) := by decide +kernel
theorem dX3_passTime_42 : decode cX3_passTime 42 = .ok (.iload_n 2, 1) := by decide +kernel
theorem dX3_passTime_43 : decode cX3_passTime 43 = .ok (.isub, 1) := by decide +kernel
theorem dX3_passTime_44 : decode cX3_passTime 44 = .ok (.ireturn, 1) := by decide +kernel
theorem dX3_burnLogs_0 : decode cX3_burnLogs 0 = .ok (.aload_n 0, 1) := by decide +kernel
theorem dX3_burnLogs_1 : decode cX3_burnLogs 1 = .ok (.getfield 57, 3) := by decide +kernel
theorem dX3_burnLogs_4 : decode cX3_burnLogs 4 = .ok (.aload_n 0, 1) := by decide +kernel
theorem dX3_burnLogs_5 : decode cX3_burnLogs 5 = .ok (.getfield 34, 3) := by decide +kernel
theorem dX3_burnLogs_8 : decode cX3_burnLogs 8 = .ok (.if_icmp .ge 10, 3) := by decide +kernel
theorem dX3_burnLogs_11 : decode cX3_burnLogs 11 = .ok (.aload_n 0, 1) := by decide +kernel
theorem dX3_burnLogs_12 : decode cX3_burnLogs 12 = .ok (.getfield 57, 3) := by decide +kernel
theorem dX3_burnLogs_15 : decode cX3_burnLogs 15 = .ok (.goto 7, 3) := by decide +kernel
theorem dX3_burnLogs_18 : decode cX3_burnLogs 18 = .ok (.aload_n 0, 1) := by decide +kernel
theorem dX3_burnLogs_19 : decode cX3_burnLogs 19 = .ok (.getfield 34, 3) := by decide +kernel
theorem dX3_burnLogs_22 : decode cX3_burnLogs 22 = .ok (.istore_n 1, 1) := by decide +kernel
theorem dX3_burnLogs_23 : decode cX3_burnLogs 23 = .ok (.aload_n 0, 1) := by decide +kernel
theorem dX3_burnLogs_24 : decode cX3_burnLogs 24 = .ok (.dup, 1) := by decide +kernel
theorem dX3_burnLogs_25 : decode cX3_burnLogs 25 = .ok (.getfield 34, 3) := by decide +kernel
theorem dX3_burnLogs_28 : decode cX3_burnLogs 28 = .ok (.iload_n 1, 1) := by decide +kernel
theorem dX3_burnLogs_29 : decode cX3_burnLogs 29 = .ok (.isub, 1) := by decide +kernel
theorem dX3_burnLogs_30 : decode cX3_burnLogs 30 = .ok (.putfield 34, 3) := by decide +kernel
theorem dX3_burnLogs_33 : decode cX3_burnLogs 33 = .ok (.aload_n 0, 1) := by decide +kernel
theorem dX3_burnLogs_34 : decode cX3_burnLogs 34 = .ok (.dup, 1) := by decide +kernel
theorem dX3_burnLogs_35 : decode cX3_burnLogs 35 = .ok (.getfield 63, 3) := by decide +kernel
theorem dX3_burnLogs_38 : decode cX3_burnLogs 38 = .ok (.iload_n 1, 1) := by decide +kernel
theorem dX3_burnLogs_39 : decode cX3_burnLogs 39 = .ok (.iadd, 1) := by decide +kernel
theorem dX3_burnLogs_40 : decode cX3_burnLogs 40 = .ok (.putfield 63, 3) := by decide +kernel
theorem dX3_burnLogs_43 : decode cX3_burnLogs 43 = .ok (.aload_n 0, 1) := by decide +kernel
theorem dX3_burnLogs_44 : decode cX3_burnLogs 44 = .ok (.dup, 1) := by decide +kernel
theorem dX3_burnLogs_45 : decode cX3_burnLogs 45 = .ok (.getfield 66, 3) := by decide +kernel
theorem dX3_burnLogs_48 : decode cX3_burnLogs 48 = .ok (.iload_n 1, 1) := by decide +kernel
theorem dX3_burnLogs_49 : decode cX3_burnLogs 49 = .ok (.iadd, 1) := by decide +kernel
theorem dX3_burnLogs_50 : decode cX3_burnLogs 50 = .ok (.putfield 66, 3) := by decide +kernel
theorem dX3_burnLogs_53 : decode cX3_burnLogs 53 = .ok (.aload_n 0, 1) := by decide +kernel
theorem dX3_burnLogs_54 : decode cX3_burnLogs 54 = .ok (.aload_n 0, 1) := by decide +kernel
theorem dX3_burnLogs_55 : decode cX3_burnLogs 55 = .ok (.getfield 54, 3) := by decide +kernel
theorem dX3_burnLogs_58 : decode cX3_burnLogs 58 = .ok (.iconst 2, 1) := by decide +kernel
theorem dX3_burnLogs_59 : decode cX3_burnLogs 59 = .ok (.idiv, 1) := by decide +kernel
theorem dX3_burnLogs_60 : decode cX3_burnLogs 60 = .ok (.iconst 4, 1) := by decide +kernel
theorem dX3_burnLogs_61 : decode cX3_burnLogs 61 = .ok (.iload_n 1, 1) := by decide +kernel
theorem dX3_burnLogs_62 : decode cX3_burnLogs 62 = .ok (.imul, 1) := by decide +kernel
theorem dX3_burnLogs_63 : decode cX3_burnLogs 63 = .ok (.iadd, 1) := by decide +kernel
theorem dX3_burnLogs_64 : decode cX3_burnLogs 64 = .ok (.putfield 54, 3) := by decide +kernel
theorem dX3_burnLogs_67 : decode cX3_burnLogs 67 = .ok (.return_, 1) := by decide +kernel
theorem dX3_noteWhatHappens_0 : decode cX3_noteWhatHappens 0 = .ok (.iconst 0, 1) := by decide +kernel
theorem dX3_noteWhatHappens_1 : decode cX3_noteWhatHappens 1 = .ok (.istore_n 1, 1) := by decide +kernel
theorem dX3_noteWhatHappens_2 : decode cX3_noteWhatHappens 2 = .ok (.iload_n 1, 1) := by decide +kernel
theorem dX3_noteWhatHappens_3 : decode cX3_noteWhatHappens 3 = .ok (.aload_n 0, 1) := by decide +kernel
theorem dX3_noteWhatHappens_4 : decode cX3_noteWhatHappens 4 = .ok (.getfield 78, 3) := by decide +kernel
theorem dX3_noteWhatHappens_7 : decode cX3_noteWhatHappens 7 = .ok (.if_icmp .ge 28, 3) := by decide +kernel
theorem dX3_noteWhatHappens_10 : decode cX3_noteWhatHappens 10 = .ok (.aload_n 0, 1) := by decide +kernel
theorem dX3_noteWhatHappens_11 : decode cX3_noteWhatHappens 11 = .ok (.getfield 29, 3) := by decide +kernel
theorem dX3_noteWhatHappens_14 : decode cX3_noteWhatHappens 14 = .ok (.iload_n 1, 1) := by decide +kernel
theorem dX3_noteWhatHappens_15 : decode cX3_noteWhatHappens 15 = .ok (.aaload, 1) := by decide +kernel
theorem dX3_noteWhatHappens_16 : decode cX3_noteWhatHappens 16 = .ok (.getfield 194, 3) := by decide +kernel
theorem dX3_noteWhatHappens_19 : decode cX3_noteWhatHappens 19 = .ok (.aload_n 0, 1) := by decide +kernel
theorem dX3_noteWhatHappens_20 : decode cX3_noteWhatHappens 20 = .ok (.iload_n 1, 1) := by decide +kernel
theorem dX3_noteWhatHappens_21 : decode cX3_noteWhatHappens 21 = .ok (.invokevirtual 175, 3) := by decide +kernel
theorem dX3_noteWhatHappens_24 : decode cX3_noteWhatHappens 24 = .ok (.dup2, 1) := by decide +kernel
theorem dX3_noteWhatHappens_25 : decode cX3_noteWhatHappens 25 = .ok (.iaload, 1) := by decide +kernel
theorem dX3_noteWhatHappens_26 : decode cX3_noteWhatHappens 26 = .ok (.iconst 1, 1) := by decide +kernel
theorem dX3_noteWhatHappens_27 : decode cX3_noteWhatHappens 27 = .ok (.iadd, 1) := by decide +kernel
theorem dX3_noteWhatHappens_28 : decode cX3_noteWhatHappens 28 = .ok (.iastore, 1) := by decide +kernel
theorem dX3_noteWhatHappens_29 : decode cX3_noteWhatHappens 29 = .ok (.iinc 1 1, 3) := by decide +kernel
theorem dX3_noteWhatHappens_32 : decode cX3_noteWhatHappens 32 = .ok (.goto (-30), 3) := by decide +kernel
theorem dX3_noteWhatHappens_35 : decode cX3_noteWhatHappens 35 = .ok (.return_, 1) := by decide +kernel
theorem dX3_endHour_0 : decode cX3_endHour 0 = .ok (.aload_n 0, 1) := by decide +kernel
theorem dX3_endHour_1 : decode cX3_endHour 1 = .ok (.dup, 1) := by decide +kernel
theorem dX3_endHour_2 : decode cX3_endHour 2 = .ok (.getfield 51, 3) := by decide +kernel
theorem dX3_endHour_5 : decode cX3_endHour 5 = .ok (.iconst 1, 1) := by decide +kernel
theorem dX3_endHour_6 : decode cX3_endHour 6 = .ok (.iadd, 1) := by decide +kernel
theorem dX3_endHour_7 : decode cX3_endHour 7 = .ok (.putfield 51, 3) := by decide +kernel
theorem dX3_endHour_10 : decode cX3_endHour 10 = .ok (.aload_n 0, 1) := by decide +kernel
theorem dX3_endHour_11 : decode cX3_endHour 11 = .ok (.getfield 51, 3) := by decide +kernel
theorem dX3_endHour_14 : decode cX3_endHour 14 = .ok (.bipush 8, 2) := by decide +kernel
theorem dX3_endHour_16 : decode cX3_endHour 16 = .ok (.irem, 1) := by decide +kernel
theorem dX3_endHour_17 : decode cX3_endHour 17 = .ok (.ifCond .ne 15, 3) := by decide +kernel
theorem dX3_endHour_20 : decode cX3_endHour 20 = .ok (.aload_n 0, 1) := by decide +kernel
theorem dX3_endHour_21 : decode cX3_endHour 21 = .ok (.invokevirtual 206, 3) := by decide +kernel
theorem dX3_endHour_24 : decode cX3_endHour 24 = .ok (.aload_n 0, 1) := by decide +kernel
theorem dX3_endHour_25 : decode cX3_endHour 25 = .ok (.invokevirtual 209, 3) := by decide +kernel
theorem dX3_endHour_28 : decode cX3_endHour 28 = .ok (.aload_n 0, 1) := by decide +kernel
theorem dX3_endHour_29 : decode cX3_endHour 29 = .ok (.invokevirtual 212, 3) := by decide +kernel
theorem dX3_endHour_32 : decode cX3_endHour 32 = .ok (.return_, 1) := by decide +kernel
theorem dX3_payForNight_0 : decode cX3_payForNight 0 = .ok (.iconst 0, 1) := by decide +kernel
theorem dX3_payForNight_1 : decode cX3_payForNight 1 = .ok (.istore_n 1, 1) := by decide +kernel
theorem dX3_payForNight_2 : decode cX3_payForNight 2 = .ok (.iload_n 1, 1) := by decide +kernel
theorem dX3_payForNight_3 : decode cX3_payForNight 3 = .ok (.aload_n 0, 1) := by decide +kernel
theorem dX3_payForNight_4 : decode cX3_payForNight 4 = .ok (.getfield 78, 3) := by decide +kernel
theorem dX3_payForNight_7 : decode cX3_payForNight 7 = .ok (.if_icmp .ge 28, 3) := by decide +kernel
theorem dX3_payForNight_10 : decode cX3_payForNight 10 = .ok (.aload_n 0, 1) := by decide +kernel
theorem dX3_payForNight_11 : decode cX3_payForNight 11 = .ok (.dup, 1) := by decide +kernel
theorem dX3_payForNight_12 : decode cX3_payForNight 12 = .ok (.getfield 60, 3) := by decide +kernel
theorem dX3_payForNight_15 : decode cX3_payForNight 15 = .ok (.aload_n 0, 1) := by decide +kernel
theorem dX3_payForNight_16 : decode cX3_payForNight 16 = .ok (.getfield 29, 3) := by decide +kernel
theorem dX3_payForNight_19 : decode cX3_payForNight 19 = .ok (.iload_n 1, 1) := by decide +kernel
theorem dX3_payForNight_20 : decode cX3_payForNight 20 = .ok (.aaload, 1) := by decide +kernel
theorem dX3_payForNight_21 : decode cX3_payForNight 21 = .ok (.iconst 3, 1) := by decide +kernel
theorem dX3_payForNight_22 : decode cX3_payForNight 22 = .ok (.invokevirtual 215, 3) := by decide +kernel
theorem dX3_payForNight_25 : decode cX3_payForNight 25 = .ok (.iadd, 1) := by decide +kernel
theorem dX3_payForNight_26 : decode cX3_payForNight 26 = .ok (.putfield 60, 3) := by decide +kernel
theorem dX3_payForNight_29 : decode cX3_payForNight 29 = .ok (.iinc 1 1, 3) := by decide +kernel
theorem dX3_payForNight_32 : decode cX3_payForNight 32 = .ok (.goto (-30), 3) := by decide +kernel
theorem dX3_payForNight_35 : decode cX3_payForNight 35 = .ok (.return_, 1) := by decide +kernel
theorem dX3_payForLogs_0 : decode cX3_payForLogs 0 = .ok (.iconst 0, 1) := by decide +kernel
theorem dX3_payForLogs_1 : decode cX3_payForLogs 1 = .ok (.istore_n 1, 1) := by decide +kernel
theorem dX3_payForLogs_2 : decode cX3_payForLogs 2 = .ok (.iload_n 1, 1) := by decide +kernel
theorem dX3_payForLogs_3 : decode cX3_payForLogs 3 = .ok (.aload_n 0, 1) := by decide +kernel
theorem dX3_payForLogs_4 : decode cX3_payForLogs 4 = .ok (.getfield 78, 3) := by decide +kernel
theorem dX3_payForLogs_7 : decode cX3_payForLogs 7 = .ok (.if_icmp .ge 32, 3) := by decide +kernel
theorem dX3_payForLogs_10 : decode cX3_payForLogs 10 = .ok (.aload_n 0, 1) := by decide +kernel
theorem dX3_payForLogs_11 : decode cX3_payForLogs 11 = .ok (.dup, 1) := by decide +kernel
theorem dX3_payForLogs_12 : decode cX3_payForLogs 12 = .ok (.getfield 60, 3) := by decide +kernel
theorem dX3_payForLogs_15 : decode cX3_payForLogs 15 = .ok (.aload_n 0, 1) := by decide +kernel
theorem dX3_payForLogs_16 : decode cX3_payForLogs 16 = .ok (.getfield 29, 3) := by decide +kernel
theorem dX3_payForLogs_19 : decode cX3_payForLogs 19 = .ok (.iload_n 1, 1) := by decide +kernel
theorem dX3_payForLogs_20 : decode cX3_payForLogs 20 = .ok (.aaload, 1) := by decide +kernel
theorem dX3_payForLogs_21 : decode cX3_payForLogs 21 = .ok (.aload_n 0, 1) := by decide +kernel
theorem dX3_payForLogs_22 : decode cX3_payForLogs 22 = .ok (.iload_n 1, 1) := by decide +kernel
theorem dX3_payForLogs_23 : decode cX3_payForLogs 23 = .ok (.invokevirtual 218, 3) := by decide +kernel
theorem dX3_payForLogs_26 : decode cX3_payForLogs 26 = .ok (.invokevirtual 215, 3) := by decide +kernel
theorem dX3_payForLogs_29 : decode cX3_payForLogs 29 = .ok (.iadd, 1) := by decide +kernel
theorem dX3_payForLogs_30 : decode cX3_payForLogs 30 = .ok (.putfield 60, 3) := by decide +kernel
theorem dX3_payForLogs_33 : decode cX3_payForLogs 33 = .ok (.iinc 1 1, 3) := by decide +kernel
theorem dX3_payForLogs_36 : decode cX3_payForLogs 36 = .ok (.goto (-34), 3) := by decide +kernel
theorem dX3_payForLogs_39 : decode cX3_payForLogs 39 = .ok (.aload_n 0, 1) := by decide +kernel
theorem dX3_payForLogs_40 : decode cX3_payForLogs 40 = .ok (.iconst 0, 1) := by decide +kernel
theorem dX3_payForLogs_41 : decode cX3_payForLogs 41 = .ok (.putfield 66, 3) := by decide +kernel
theorem dX3_payForLogs_44 : decode cX3_payForLogs 44 = .ok (.return_, 1) := by decide +kernel
theorem dX3_partOfLogs_0 : decode cX3_partOfLogs 0 = .ok (.aload_n 0, 1) := by decide +kernel
theorem dX3_partOfLogs_1 : decode cX3_partOfLogs 1 = .ok (.getfield 78, 3) := by decide +kernel
theorem dX3_partOfLogs_4 : decode cX3_partOfLogs 4 = .ok (.iconst 1, 1) := by decide +kernel
theorem dX3_partOfLogs_5 : decode cX3_partOfLogs 5 = .ok (.if_icmp .ge 5, 3) := by decide +kernel
theorem dX3_partOfLogs_8 : decode cX3_partOfLogs 8 = .ok (.iconst 0, 1) := by decide +kernel
theorem dX3_partOfLogs_9 : decode cX3_partOfLogs 9 = .ok (.ireturn, 1) := by decide +kernel
theorem dX3_partOfLogs_10 : decode cX3_partOfLogs 10 = .ok (.iconst 2, 1) := by decide +kernel
theorem dX3_partOfLogs_11 : decode cX3_partOfLogs 11 = .ok (.aload_n 0, 1) := by decide +kernel
theorem dX3_partOfLogs_12 : decode cX3_partOfLogs 12 = .ok (.getfield 66, 3) := by decide +kernel
theorem dX3_partOfLogs_15 : decode cX3_partOfLogs 15 = .ok (.imul, 1) := by decide +kernel
theorem dX3_partOfLogs_16 : decode cX3_partOfLogs 16 = .ok (.istore_n 2, 1) := by decide +kernel
theorem dX3_partOfLogs_17 : decode cX3_partOfLogs 17 = .ok (.iload_n 1, 1) := by decide +kernel
theorem dX3_partOfLogs_18 : decode cX3_partOfLogs 18 = .ok (.iload_n 2, 1) := by decide +kernel
theorem dX3_partOfLogs_19 : decode cX3_partOfLogs 19 = .ok (.aload_n 0, 1) := by decide +kernel
theorem dX3_partOfLogs_20 : decode cX3_partOfLogs 20 = .ok (.getfield 78, 3) := by decide +kernel
theorem dX3_partOfLogs_23 : decode cX3_partOfLogs 23 = .ok (.irem, 1) := by decide +kernel
theorem dX3_partOfLogs_24 : decode cX3_partOfLogs 24 = .ok (.if_icmp .ge 7, 3) := by decide +kernel
theorem dX3_partOfLogs_27 : decode cX3_partOfLogs 27 = .ok (.iconst 1, 1) := by decide +kernel
theorem dX3_partOfLogs_28 : decode cX3_partOfLogs 28 = .ok (.goto 4, 3) := by decide +kernel
theorem dX3_partOfLogs_31 : decode cX3_partOfLogs 31 = .ok (.iconst 0, 1) := by decide +kernel
theorem dX3_partOfLogs_32 : decode cX3_partOfLogs 32 = .ok (.istore_n 3, 1) := by decide +kernel
theorem dX3_partOfLogs_33 : decode cX3_partOfLogs 33 = .ok (.iload_n 2, 1) := by decide +kernel
theorem dX3_partOfLogs_34 : decode cX3_partOfLogs 34 = .ok (.aload_n 0, 1) := by decide +kernel
theorem dX3_partOfLogs_35 : decode cX3_partOfLogs 35 = .ok (.getfield 78, 3) := by decide +kernel
theorem dX3_partOfLogs_38 : decode cX3_partOfLogs 38 = .ok (.idiv, 1) := by decide +kernel
theorem dX3_partOfLogs_39 : decode cX3_partOfLogs 39 = .ok (.iload_n 3, 1) := by decide +kernel
theorem dX3_partOfLogs_40 : decode cX3_partOfLogs 40 = .ok (.iadd, 1) := by decide +kernel
theorem dX3_partOfLogs_41 : decode cX3_partOfLogs 41 = .ok (.ireturn, 1) := by decide +kernel
theorem dX3_payForBlankets_0 : decode cX3_payForBlankets 0 = .ok (.iconst 0, 1) := by decide +kernel
theorem dX3_payForBlankets_1 : decode cX3_payForBlankets 1 = .ok (.istore_n 1, 1) := by decide +kernel
theorem dX3_payForBlankets_2 : decode cX3_payForBlankets 2 = .ok (.iconst 0, 1) := by decide +kernel
theorem dX3_payForBlankets_3 : decode cX3_payForBlankets 3 = .ok (.istore_n 2, 1) := by decide +kernel
theorem dX3_payForBlankets_4 : decode cX3_payForBlankets 4 = .ok (.iload_n 2, 1) := by decide +kernel
theorem dX3_payForBlankets_5 : decode cX3_payForBlankets 5 = .ok (.aload_n 0, 1) := by decide +kernel
theorem dX3_payForBlankets_6 : decode cX3_payForBlankets 6 = .ok (.getfield 78, 3) := by decide +kernel
theorem dX3_payForBlankets_9 : decode cX3_payForBlankets 9 = .ok (.if_icmp .ge 30, 3) := by decide +kernel
theorem dX3_payForBlankets_12 : decode cX3_payForBlankets 12 = .ok (.iload_n 1, 1) := by decide +kernel
theorem dX3_payForBlankets_13 : decode cX3_payForBlankets 13 = .ok (.aload_n 0, 1) := by decide +kernel
theorem dX3_payForBlankets_14 : decode cX3_payForBlankets 14 = .ok (.getfield 29, 3) := by decide +kernel
theorem dX3_payForBlankets_17 : decode cX3_payForBlankets 17 = .ok (.iload_n 2, 1) := by decide +kernel
theorem dX3_payForBlankets_18 : decode cX3_payForBlankets 18 = .ok (.aaload, 1) := by decide +kernel
theorem dX3_payForBlankets_19 : decode cX3_payForBlankets 19 = .ok (.aload_n 0, 1) := by decide +kernel
theorem dX3_payForBlankets_20 : decode cX3_payForBlankets 20 = .ok (.getfield 29, 3) := by decide +kernel
theorem dX3_payForBlankets_23 : decode cX3_payForBlankets 23 = .ok (.iload_n 2, 1) := by decide +kernel
theorem dX3_payForBlankets_24 : decode cX3_payForBlankets 24 = .ok (.aaload, 1) := by decide +kernel
theorem dX3_payForBlankets_25 : decode cX3_payForBlankets 25 = .ok (.invokevirtual 221, 3) := by decide +kernel
theorem dX3_payForBlankets_28 : decode cX3_payForBlankets 28 = .ok (.invokevirtual 215, 3) := by decide +kernel
theorem dX3_payForBlankets_31 : decode cX3_payForBlankets 31 = .ok (.iadd, 1) := by decide +kernel
theorem dX3_payForBlankets_32 : decode cX3_payForBlankets 32 = .ok (.istore_n 1, 1) := by decide +kernel
theorem dX3_payForBlankets_33 : decode cX3_payForBlankets 33 = .ok (.iinc 2 1, 3) := by decide +kernel
theorem dX3_payForBlankets_36 : decode cX3_payForBlankets 36 = .ok (.goto (-32), 3) := by decide +kernel
theorem dX3_payForBlankets_39 : decode cX3_payForBlankets 39 = .ok (.aload_n 0, 1) := by decide +kernel
theorem dX3_payForBlankets_40 : decode cX3_payForBlankets 40 = .ok (.invokevirtual 140, 3) := by decide +kernel
theorem dX3_payForBlankets_43 : decode cX3_payForBlankets 43 = .ok (.istore_n 2, 1) := by decide +kernel
theorem dX3_payForBlankets_44 : decode cX3_payForBlankets 44 = .ok (.iload_n 2, 1) := by decide +kernel
theorem dX3_payForBlankets_45 : decode cX3_payForBlankets 45 = .ok (.iconst 1, 1) := by decide +kernel
theorem dX3_payForBlankets_46 : decode cX3_payForBlankets 46 = .ok (.if_icmp .ge 7, 3) := by decide +kernel
theorem dX3_payForBlankets_49 : decode cX3_payForBlankets 49 = .ok (.iconst 0, 1) := by decide +kernel
theorem dX3_payForBlankets_50 : decode cX3_payForBlankets 50 = .ok (.goto 6, 3) := by decide +kernel
theorem dX3_payForBlankets_53 : decode cX3_payForBlankets 53 = .ok (.iload_n 1, 1) := by decide +kernel
theorem dX3_payForBlankets_54 : decode cX3_payForBlankets 54 = .ok (.iload_n 2, 1) := by decide +kernel
theorem dX3_payForBlankets_55 : decode cX3_payForBlankets 55 = .ok (.idiv, 1) := by decide +kernel
theorem dX3_payForBlankets_56 : decode cX3_payForBlankets 56 = .ok (.istore_n 3, 1) := by decide +kernel
theorem dX3_payForBlankets_57 : decode cX3_payForBlankets 57 = .ok (.iconst 0, 1) := by decide +kernel
theorem dX3_payForBlankets_58 : decode cX3_payForBlankets 58 = .ok (.istore 4, 2) := by decide +kernel
theorem dX3_payForBlankets_60 : decode cX3_payForBlankets 60 = .ok (.iload 4, 2) := by decide +kernel
theorem dX3_payForBlankets_62 : decode cX3_payForBlankets 62 = .ok (.aload_n 0, 1) := by decide +kernel
theorem dX3_payForBlankets_63 : decode cX3_payForBlankets 63 = .ok (.getfield 78, 3) := by decide +kernel
theorem dX3_payForBlankets_66 : decode cX3_payForBlankets 66 = .ok (.if_icmp .ge 39, 3) := by decide +kernel
theorem dX3_payForBlankets_69 : decode cX3_payForBlankets 69 = .ok (.aload_n 0, 1) := by decide +kernel
theorem dX3_payForBlankets_70 : decode cX3_payForBlankets 70 = .ok (.getfield 29, 3) := by decide +kernel
theorem dX3_payForBlankets_73 : decode cX3_payForBlankets 73 = .ok (.iload 4, 2) := by decide +kernel
theorem dX3_payForBlankets_75 : decode cX3_payForBlankets 75 = .ok (.aaload, 1) := by decide +kernel
theorem dX3_payForBlankets_76 : decode cX3_payForBlankets 76 = .ok (.getfield 94, 3) := by decide +kernel
theorem dX3_payForBlankets_79 : decode cX3_payForBlankets 79 = .ok (.iconst (-1), 1) := by decide +kernel
theorem dX3_payForBlankets_80 : decode cX3_payForBlankets 80 = .ok (.if_icmp .ne 19, 3) := by decide +kernel
theorem dX3_payForBlankets_83 : decode cX3_payForBlankets 83 = .ok (.aload_n 0, 1) := by decide +kernel
theorem dX3_payForBlankets_84 : decode cX3_payForBlankets 84 = .ok (.getfield 29, 3) := by decide +kernel
theorem dX3_payForBlankets_87 : decode cX3_payForBlankets 87 = .ok (.iload 4, 2) := by decide +kernel
theorem dX3_payForBlankets_89 : decode cX3_payForBlankets 89 = .ok (.aaload, 1) := by decide +kernel
theorem dX3_payForBlankets_90 : decode cX3_payForBlankets 90 = .ok (.dup, 1) := by decide +kernel
theorem dX3_payForBlankets_91 : decode cX3_payForBlankets 91 = .ok (.getfield 188, 3) := by decide +kernel
theorem dX3_payForBlankets_94 : decode cX3_payForBlankets 94 = .ok (.iload_n 3, 1) := by decide +kernel
theorem dX3_payForBlankets_95 : decode cX3_payForBlankets 95 = .ok (.iadd, 1) := by decide +kernel
theorem dX3_payForBlankets_96 : decode cX3_payForBlankets 96 = .ok (.putfield 188, 3) := by decide +kernel
theorem dX3_payForBlankets_99 : decode cX3_payForBlankets 99 = .ok (.iinc 4 1, 3) := by decide +kernel
theorem dX3_payForBlankets_102 : decode cX3_payForBlankets 102 = .ok (.goto (-42), 3) := by decide +kernel
theorem dX3_payForBlankets_105 : decode cX3_payForBlankets 105 = .ok (.aload_n 0, 1) := by decide +kernel
theorem dX3_payForBlankets_106 : decode cX3_payForBlankets 106 = .ok (.dup, 1) := by decide +kernel
theorem dX3_payForBlankets_107 : decode cX3_payForBlankets 107 = .ok (.getfield 60, 3) := by decide +kernel
theorem dX3_payForBlankets_110 : decode cX3_payForBlankets 110 = .ok (.iload_n 1, 1) := by decide +kernel
theorem dX3_payForBlankets_111 : decode cX3_payForBlankets 111 = .ok (.iload_n 3, 1) := by decide +kernel
theorem dX3_payForBlankets_112 : decode cX3_payForBlankets 112 = .ok (.iload_n 2, 1) := by decide +kernel
theorem dX3_payForBlankets_113 : decode cX3_payForBlankets 113 = .ok (.imul, 1) := by decide +kernel
theorem dX3_payForBlankets_114 : decode cX3_payForBlankets 114 = .ok (.isub, 1) := by decide +kernel
theorem dX3_payForBlankets_115 : decode cX3_payForBlankets 115 = .ok (.iadd, 1) := by decide +kernel
theorem dX3_payForBlankets_116 : decode cX3_payForBlankets 116 = .ok (.putfield 60, 3) := by decide +kernel
theorem dX3_payForBlankets_119 : decode cX3_payForBlankets 119 = .ok (.return_, 1) := by decide +kernel
theorem dX3_faultOf_0 : decode cX3_faultOf 0 = .ok (.iload_n 1, 1) := by decide +kernel
theorem dX3_faultOf_1 : decode cX3_faultOf 1 = .ok (.tableswitch 108 0 7 #[47, 54, 60, 67, 74, 80, 95, 101], 47) := by decide +kernel
theorem dX3_faultOf_48 : decode cX3_faultOf 48 = .ok (.aload_n 0, 1) := by decide +kernel
theorem dX3_faultOf_49 : decode cX3_faultOf 49 = .ok (.iload_n 2, 1) := by decide +kernel
theorem dX3_faultOf_50 : decode cX3_faultOf 50 = .ok (.iload_n 3, 1) := by decide +kernel
theorem dX3_faultOf_51 : decode cX3_faultOf 51 = .ok (.invokevirtual 224, 3) := by decide +kernel
theorem dX3_faultOf_54 : decode cX3_faultOf 54 = .ok (.ireturn, 1) := by decide +kernel
theorem dX3_faultOf_55 : decode cX3_faultOf 55 = .ok (.aload_n 0, 1) := by decide +kernel
theorem dX3_faultOf_56 : decode cX3_faultOf 56 = .ok (.iload_n 2, 1) := by decide +kernel
theorem dX3_faultOf_57 : decode cX3_faultOf 57 = .ok (.invokevirtual 227, 3) := by decide +kernel
theorem dX3_faultOf_60 : decode cX3_faultOf 60 = .ok (.ireturn, 1) := by decide +kernel
theorem dX3_faultOf_61 : decode cX3_faultOf 61 = .ok (.aload_n 0, 1) := by decide +kernel
theorem dX3_faultOf_62 : decode cX3_faultOf 62 = .ok (.iload_n 2, 1) := by decide +kernel
theorem dX3_faultOf_63 : decode cX3_faultOf 63 = .ok (.iload_n 3, 1) := by decide +kernel
theorem dX3_faultOf_64 : decode cX3_faultOf 64 = .ok (.invokevirtual 230, 3) := by decide +kernel
theorem dX3_faultOf_67 : decode cX3_faultOf 67 = .ok (.ireturn, 1) := by decide +kernel
theorem dX3_faultOf_68 : decode cX3_faultOf 68 = .ok (.aload_n 0, 1) := by decide +kernel
theorem dX3_faultOf_69 : decode cX3_faultOf 69 = .ok (.iload_n 2, 1) := by decide +kernel
theorem dX3_faultOf_70 : decode cX3_faultOf 70 = .ok (.iload_n 3, 1) := by decide +kernel
theorem dX3_faultOf_71 : decode cX3_faultOf 71 = .ok (.invokevirtual 233, 3) := by decide +kernel
theorem dX3_faultOf_74 : decode cX3_faultOf 74 = .ok (.ireturn, 1) := by decide +kernel
theorem dX3_faultOf_75 : decode cX3_faultOf 75 = .ok (.aload_n 0, 1) := by decide +kernel
theorem dX3_faultOf_76 : decode cX3_faultOf 76 = .ok (.iload_n 2, 1) := by decide +kernel
theorem dX3_faultOf_77 : decode cX3_faultOf 77 = .ok (.invokevirtual 236, 3) := by decide +kernel
theorem dX3_faultOf_80 : decode cX3_faultOf 80 = .ok (.ireturn, 1) := by decide +kernel
theorem dX3_faultOf_81 : decode cX3_faultOf 81 = .ok (.iload_n 2, 1) := by decide +kernel
theorem dX3_faultOf_82 : decode cX3_faultOf 82 = .ok (.iconst 0, 1) := by decide +kernel
theorem dX3_faultOf_83 : decode cX3_faultOf 83 = .ok (.iconst 3, 1) := by decide +kernel
theorem dX3_faultOf_84 : decode cX3_faultOf 84 = .ok (.invokestatic 164, 3) := by decide +kernel
theorem dX3_faultOf_87 : decode cX3_faultOf 87 = .ok (.ifCond .eq 7, 3) := by decide +kernel
theorem dX3_faultOf_90 : decode cX3_faultOf 90 = .ok (.iconst 0, 1) := by decide +kernel
theorem dX3_faultOf_91 : decode cX3_faultOf 91 = .ok (.goto 4, 3) := by decide +kernel
theorem dX3_faultOf_94 : decode cX3_faultOf 94 = .ok (.iconst 2, 1) := by decide +kernel
theorem dX3_faultOf_95 : decode cX3_faultOf 95 = .ok (.ireturn, 1) := by decide +kernel
theorem dX3_faultOf_96 : decode cX3_faultOf 96 = .ok (.aload_n 0, 1) := by decide +kernel
theorem dX3_faultOf_97 : decode cX3_faultOf 97 = .ok (.iload_n 2, 1) := by decide +kernel
theorem dX3_faultOf_98 : decode cX3_faultOf 98 = .ok (.invokevirtual 239, 3) := by decide +kernel
theorem dX3_faultOf_101 : decode cX3_faultOf 101 = .ok (.ireturn, 1) := by decide +kernel
theorem dX3_faultOf_102 : decode cX3_faultOf 102 = .ok (.aload_n 0, 1) := by decide +kernel
theorem dX3_faultOf_103 : decode cX3_faultOf 103 = .ok (.iload_n 2, 1) := by decide +kernel
theorem dX3_faultOf_104 : decode cX3_faultOf 104 = .ok (.iload_n 3, 1) := by decide +kernel
theorem dX3_faultOf_105 : decode cX3_faultOf 105 = .ok (.invokevirtual 242, 3) := by decide +kernel
theorem dX3_faultOf_108 : decode cX3_faultOf 108 = .ok (.ireturn, 1) := by decide +kernel
theorem dX3_faultOf_109 : decode cX3_faultOf 109 = .ok (.aload_n 0, 1) := by decide +kernel
theorem dX3_faultOf_110 : decode cX3_faultOf 110 = .ok (.iload_n 2, 1) := by decide +kernel
theorem dX3_faultOf_111 : decode cX3_faultOf 111 = .ok (.invokevirtual 245, 3) := by decide +kernel
theorem dX3_faultOf_114 : decode cX3_faultOf 114 = .ok (.ireturn, 1) := by decide +kernel
theorem dX3_faultOfTake_0 : decode cX3_faultOfTake 0 = .ok (.aload_n 0, 1) := by decide +kernel
theorem dX3_faultOfTake_1 : decode cX3_faultOfTake 1 = .ok (.iload_n 1, 1) := by decide +kernel
theorem dX3_faultOfTake_2 : decode cX3_faultOfTake 2 = .ok (.invokevirtual 248, 3) := by decide +kernel
theorem dX3_faultOfTake_5 : decode cX3_faultOfTake 5 = .ok (.ifCond .eq 11, 3) := by decide +kernel
theorem dX3_faultOfTake_8 : decode cX3_faultOfTake 8 = .ok (.aload_n 0, 1) := by decide +kernel
theorem dX3_faultOfTake_9 : decode cX3_faultOfTake 9 = .ok (.iload_n 2, 1) := by decide +kernel
theorem dX3_faultOfTake_10 : decode cX3_faultOfTake 10 = .ok (.invokevirtual 97, 3) := by decide +kernel
theorem dX3_faultOfTake_13 : decode cX3_faultOfTake 13 = .ok (.ifCond .ne 5, 3) := by decide +kernel
theorem dX3_faultOfTake_16 : decode cX3_faultOfTake 16 = .ok (.iconst 1, 1) := by decide +kernel
theorem dX3_faultOfTake_17 : decode cX3_faultOfTake 17 = .ok (.ireturn, 1) := by decide +kernel
theorem dX3_faultOfTake_18 : decode cX3_faultOfTake 18 = .ok (.aload_n 0, 1) := by decide +kernel
theorem dX3_faultOfTake_19 : decode cX3_faultOfTake 19 = .ok (.iload_n 2, 1) := by decide +kernel
theorem dX3_faultOfTake_20 : decode cX3_faultOfTake 20 = .ok (.invokevirtual 143, 3) := by decide +kernel
theorem dX3_faultOfTake_23 : decode cX3_faultOfTake 23 = .ok (.iconst (-1), 1) := by decide +kernel
theorem dX3_faultOfTake_24 : decode cX3_faultOfTake 24 = .ok (.if_icmp .ne 7, 3) := by decide +kernel
theorem dX3_faultOfTake_27 : decode cX3_faultOfTake 27 = .ok (.iconst 0, 1) := by decide +kernel
theorem dX3_faultOfTake_28 : decode cX3_faultOfTake 28 = .ok (.goto 4, 3) := by decide +kernel
theorem dX3_faultOfTake_31 : decode cX3_faultOfTake 31 = .ok (.iconst 3, 1) := by decide +kernel
theorem dX3_faultOfTake_32 : decode cX3_faultOfTake 32 = .ok (.ireturn, 1) := by decide +kernel
theorem dX3_faultOfReturn_0 : decode cX3_faultOfReturn 0 = .ok (.aload_n 0, 1) := by decide +kernel
theorem dX3_faultOfReturn_1 : decode cX3_faultOfReturn 1 = .ok (.iload_n 1, 1) := by decide +kernel
theorem dX3_faultOfReturn_2 : decode cX3_faultOfReturn 2 = .ok (.invokevirtual 248, 3) := by decide +kernel
theorem dX3_faultOfReturn_5 : decode cX3_faultOfReturn 5 = .ok (.ifCond .ne 5, 3) := by decide +kernel
theorem dX3_faultOfReturn_8 : decode cX3_faultOfReturn 8 = .ok (.iconst 1, 1) := by decide +kernel
theorem dX3_faultOfReturn_9 : decode cX3_faultOfReturn 9 = .ok (.ireturn, 1) := by decide +kernel
theorem dX3_faultOfReturn_10 : decode cX3_faultOfReturn 10 = .ok (.aload_n 0, 1) := by decide +kernel
theorem dX3_faultOfReturn_11 : decode cX3_faultOfReturn 11 = .ok (.getfield 29, 3) := by decide +kernel
theorem dX3_faultOfReturn_14 : decode cX3_faultOfReturn 14 = .ok (.iload_n 1, 1) := by decide +kernel
theorem dX3_faultOfReturn_15 : decode cX3_faultOfReturn 15 = .ok (.aaload, 1) := by decide +kernel
theorem dX3_faultOfReturn_16 : decode cX3_faultOfReturn 16 = .ok (.getfield 94, 3) := by decide +kernel
theorem dX3_faultOfReturn_19 : decode cX3_faultOfReturn 19 = .ok (.iconst (-1), 1) := by decide +kernel
theorem dX3_faultOfReturn_20 : decode cX3_faultOfReturn 20 = .ok (.if_icmp .ne 7, 3) := by decide +kernel
theorem dX3_faultOfReturn_23 : decode cX3_faultOfReturn 23 = .ok (.iconst 3, 1) := by decide +kernel
theorem dX3_faultOfReturn_24 : decode cX3_faultOfReturn 24 = .ok (.goto 4, 3) := by decide +kernel
theorem dX3_faultOfReturn_27 : decode cX3_faultOfReturn 27 = .ok (.iconst 0, 1) := by decide +kernel
theorem dX3_faultOfReturn_28 : decode cX3_faultOfReturn 28 = .ok (.ireturn, 1) := by decide +kernel
theorem dX3_faultOfSwap_0 : decode cX3_faultOfSwap 0 = .ok (.aload_n 0, 1) := by decide +kernel
theorem dX3_faultOfSwap_1 : decode cX3_faultOfSwap 1 = .ok (.iload_n 1, 1) := by decide +kernel
theorem dX3_faultOfSwap_2 : decode cX3_faultOfSwap 2 = .ok (.invokevirtual 248, 3) := by decide +kernel
theorem dX3_faultOfSwap_5 : decode cX3_faultOfSwap 5 = .ok (.ifCond .eq 11, 3) := by decide +kernel
theorem dX3_faultOfSwap_8 : decode cX3_faultOfSwap 8 = .ok (.aload_n 0, 1) := by decide +kernel
theorem dX3_faultOfSwap_9 : decode cX3_faultOfSwap 9 = .ok (.iload_n 2, 1) := by decide +kernel
theorem dX3_faultOfSwap_10 : decode cX3_faultOfSwap 10 = .ok (.invokevirtual 248, 3) := by decide +kernel
theorem dX3_faultOfSwap_13 : decode cX3_faultOfSwap 13 = .ok (.ifCond .ne 5, 3) := by decide +kernel
theorem dX3_faultOfSwap_16 : decode cX3_faultOfSwap 16 = .ok (.iconst 1, 1) := by decide +kernel
theorem dX3_faultOfSwap_17 : decode cX3_faultOfSwap 17 = .ok (.ireturn, 1) := by decide +kernel
theorem dX3_faultOfSwap_18 : decode cX3_faultOfSwap 18 = .ok (.aload_n 0, 1) := by decide +kernel
theorem dX3_faultOfSwap_19 : decode cX3_faultOfSwap 19 = .ok (.getfield 29, 3) := by decide +kernel
theorem dX3_faultOfSwap_22 : decode cX3_faultOfSwap 22 = .ok (.iload_n 1, 1) := by decide +kernel
theorem dX3_faultOfSwap_23 : decode cX3_faultOfSwap 23 = .ok (.aaload, 1) := by decide +kernel
theorem dX3_faultOfSwap_24 : decode cX3_faultOfSwap 24 = .ok (.getfield 94, 3) := by decide +kernel
theorem dX3_faultOfSwap_27 : decode cX3_faultOfSwap 27 = .ok (.iconst (-1), 1) := by decide +kernel
theorem dX3_faultOfSwap_28 : decode cX3_faultOfSwap 28 = .ok (.if_icmp .ne 20, 3) := by decide +kernel
theorem dX3_faultOfSwap_31 : decode cX3_faultOfSwap 31 = .ok (.aload_n 0, 1) := by decide +kernel
theorem dX3_faultOfSwap_32 : decode cX3_faultOfSwap 32 = .ok (.getfield 29, 3) := by decide +kernel
theorem dX3_faultOfSwap_35 : decode cX3_faultOfSwap 35 = .ok (.iload_n 2, 1) := by decide +kernel
theorem dX3_faultOfSwap_36 : decode cX3_faultOfSwap 36 = .ok (.aaload, 1) := by decide +kernel
theorem dX3_faultOfSwap_37 : decode cX3_faultOfSwap 37 = .ok (.getfield 94, 3) := by decide +kernel
theorem dX3_faultOfSwap_40 : decode cX3_faultOfSwap 40 = .ok (.iconst (-1), 1) := by decide +kernel
theorem dX3_faultOfSwap_41 : decode cX3_faultOfSwap 41 = .ok (.if_icmp .ne 7, 3) := by decide +kernel
theorem dX3_faultOfSwap_44 : decode cX3_faultOfSwap 44 = .ok (.iconst 1, 1) := by decide +kernel
theorem dX3_faultOfSwap_45 : decode cX3_faultOfSwap 45 = .ok (.goto 4, 3) := by decide +kernel
theorem dX3_faultOfSwap_48 : decode cX3_faultOfSwap 48 = .ok (.iconst 0, 1) := by decide +kernel
theorem dX3_faultOfSwap_49 : decode cX3_faultOfSwap 49 = .ok (.istore_n 3, 1) := by decide +kernel
theorem dX3_faultOfSwap_50 : decode cX3_faultOfSwap 50 = .ok (.iload_n 1, 1) := by decide +kernel
theorem dX3_faultOfSwap_51 : decode cX3_faultOfSwap 51 = .ok (.iload_n 2, 1) := by decide +kernel
theorem dX3_faultOfSwap_52 : decode cX3_faultOfSwap 52 = .ok (.if_icmp .eq 7, 3) := by decide +kernel
theorem dX3_faultOfSwap_55 : decode cX3_faultOfSwap 55 = .ok (.iload_n 3, 1) := by decide +kernel
theorem dX3_faultOfSwap_56 : decode cX3_faultOfSwap 56 = .ok (.ifCond .eq 7, 3) := by decide +kernel
theorem dX3_faultOfSwap_59 : decode cX3_faultOfSwap 59 = .ok (.iconst 3, 1) := by decide +kernel
theorem dX3_faultOfSwap_60 : decode cX3_faultOfSwap 60 = .ok (.goto 4, 3) := by decide +kernel
theorem dX3_faultOfSwap_63 : decode cX3_faultOfSwap 63 = .ok (.iconst 0, 1) := by decide +kernel
theorem dX3_faultOfSwap_64 : decode cX3_faultOfSwap 64 = .ok (.ireturn, 1) := by decide +kernel
theorem dX3_faultOfLie_0 : decode cX3_faultOfLie 0 = .ok (.aload_n 0, 1) := by decide +kernel
theorem dX3_faultOfLie_1 : decode cX3_faultOfLie 1 = .ok (.iload_n 1, 1) := by decide +kernel
theorem dX3_faultOfLie_2 : decode cX3_faultOfLie 2 = .ok (.invokevirtual 248, 3) := by decide +kernel
theorem dX3_faultOfLie_5 : decode cX3_faultOfLie 5 = .ok (.ifCond .eq 11, 3) := by decide +kernel
theorem dX3_faultOfLie_8 : decode cX3_faultOfLie 8 = .ok (.aload_n 0, 1) := by decide +kernel
theorem dX3_faultOfLie_9 : decode cX3_faultOfLie 9 = .ok (.iload_n 2, 1) := by decide +kernel
theorem dX3_faultOfLie_10 : decode cX3_faultOfLie 10 = .ok (.invokevirtual 114, 3) := by decide +kernel
theorem dX3_faultOfLie_13 : decode cX3_faultOfLie 13 = .ok (.ifCond .ne 5, 3) := by decide +kernel
theorem dX3_faultOfLie_16 : decode cX3_faultOfLie 16 = .ok (.iconst 1, 1) := by decide +kernel
theorem dX3_faultOfLie_17 : decode cX3_faultOfLie 17 = .ok (.ireturn, 1) := by decide +kernel
theorem dX3_faultOfLie_18 : decode cX3_faultOfLie 18 = .ok (.aload_n 0, 1) := by decide +kernel
theorem dX3_faultOfLie_19 : decode cX3_faultOfLie 19 = .ok (.iload_n 2, 1) := by decide +kernel
theorem dX3_faultOfLie_20 : decode cX3_faultOfLie 20 = .ok (.invokevirtual 127, 3) := by decide +kernel
theorem dX3_faultOfLie_23 : decode cX3_faultOfLie 23 = .ok (.iconst (-1), 1) := by decide +kernel
theorem dX3_faultOfLie_24 : decode cX3_faultOfLie 24 = .ok (.if_icmp .ne 7, 3) := by decide +kernel
theorem dX3_faultOfLie_27 : decode cX3_faultOfLie 27 = .ok (.iconst 0, 1) := by decide +kernel
theorem dX3_faultOfLie_28 : decode cX3_faultOfLie 28 = .ok (.goto 4, 3) := by decide +kernel
theorem dX3_faultOfLie_31 : decode cX3_faultOfLie 31 = .ok (.iconst 3, 1) := by decide +kernel
theorem dX3_faultOfLie_32 : decode cX3_faultOfLie 32 = .ok (.ireturn, 1) := by decide +kernel
theorem dX3_faultOfRise_0 : decode cX3_faultOfRise 0 = .ok (.aload_n 0, 1) := by decide +kernel
theorem dX3_faultOfRise_1 : decode cX3_faultOfRise 1 = .ok (.iload_n 1, 1) := by decide +kernel
theorem dX3_faultOfRise_2 : decode cX3_faultOfRise 2 = .ok (.invokevirtual 248, 3) := by decide +kernel
theorem dX3_faultOfRise_5 : decode cX3_faultOfRise 5 = .ok (.ifCond .ne 5, 3) := by decide +kernel
theorem dX3_faultOfRise_8 : decode cX3_faultOfRise 8 = .ok (.iconst 1, 1) := by decide +kernel
theorem dX3_faultOfRise_9 : decode cX3_faultOfRise 9 = .ok (.ireturn, 1) := by decide +kernel
theorem dX3_faultOfRise_10 : decode cX3_faultOfRise 10 = .ok (.aload_n 0, 1) := by decide +kernel
theorem dX3_faultOfRise_11 : decode cX3_faultOfRise 11 = .ok (.getfield 29, 3) := by decide +kernel
theorem dX3_faultOfRise_14 : decode cX3_faultOfRise 14 = .ok (.iload_n 1, 1) := by decide +kernel
theorem dX3_faultOfRise_15 : decode cX3_faultOfRise 15 = .ok (.aaload, 1) := by decide +kernel
theorem dX3_faultOfRise_16 : decode cX3_faultOfRise 16 = .ok (.getfield 104, 3) := by decide +kernel
theorem dX3_faultOfRise_19 : decode cX3_faultOfRise 19 = .ok (.iconst (-1), 1) := by decide +kernel
theorem dX3_faultOfRise_20 : decode cX3_faultOfRise 20 = .ok (.if_icmp .ne 7, 3) := by decide +kernel
theorem dX3_faultOfRise_23 : decode cX3_faultOfRise 23 = .ok (.iconst 3, 1) := by decide +kernel
theorem dX3_faultOfRise_24 : decode cX3_faultOfRise 24 = .ok (.goto 4, 3) := by decide +kernel
theorem dX3_faultOfRise_27 : decode cX3_faultOfRise 27 = .ok (.iconst 0, 1) := by decide +kernel
theorem dX3_faultOfRise_28 : decode cX3_faultOfRise 28 = .ok (.ireturn, 1) := by decide +kernel
theorem dX3_faultOfFetch_0 : decode cX3_faultOfFetch 0 = .ok (.iload_n 1, 1) := by decide +kernel
theorem dX3_faultOfFetch_1 : decode cX3_faultOfFetch 1 = .ok (.iconst 1, 1) := by decide +kernel
theorem dX3_faultOfFetch_2 : decode cX3_faultOfFetch 2 = .ok (.bipush 50, 2) := by decide +kernel
theorem dX3_faultOfFetch_4 : decode cX3_faultOfFetch 4 = .ok (.invokestatic 164, 3) := by decide +kernel
theorem dX3_faultOfFetch_7 : decode cX3_faultOfFetch 7 = .ok (.ifCond .ne 5, 3) := by decide +kernel
theorem dX3_faultOfFetch_10 : decode cX3_faultOfFetch 10 = .ok (.iconst 2, 1) := by decide +kernel
theorem dX3_faultOfFetch_11 : decode cX3_faultOfFetch 11 = .ok (.ireturn, 1) := by decide +kernel
theorem dX3_faultOfFetch_12 : decode cX3_faultOfFetch 12 = .ok (.aload_n 0, 1) := by decide +kernel
theorem dX3_faultOfFetch_13 : decode cX3_faultOfFetch 13 = .ok (.getfield 34, 3) := by decide +kernel
theorem dX3_faultOfFetch_16 : decode cX3_faultOfFetch 16 = .ok (.iload_n 1, 1) := by decide +kernel
theorem dX3_faultOfFetch_17 : decode cX3_faultOfFetch 17 = .ok (.iadd, 1) := by decide +kernel
theorem dX3_faultOfFetch_18 : decode cX3_faultOfFetch 18 = .ok (.bipush 99, 2) := by decide +kernel
theorem dX3_faultOfFetch_20 : decode cX3_faultOfFetch 20 = .ok (.if_icmp .le 7, 3) := by decide +kernel
theorem dX3_faultOfFetch_23 : decode cX3_faultOfFetch 23 = .ok (.iconst 3, 1) := by decide +kernel
theorem dX3_faultOfFetch_24 : decode cX3_faultOfFetch 24 = .ok (.goto 4, 3) := by decide +kernel
theorem dX3_faultOfFetch_27 : decode cX3_faultOfFetch 27 = .ok (.iconst 0, 1) := by decide +kernel
theorem dX3_faultOfFetch_28 : decode cX3_faultOfFetch 28 = .ok (.ireturn, 1) := by decide +kernel
theorem dX3_faultOfPay_0 : decode cX3_faultOfPay 0 = .ok (.aload_n 0, 1) := by decide +kernel
theorem dX3_faultOfPay_1 : decode cX3_faultOfPay 1 = .ok (.iload_n 1, 1) := by decide +kernel
theorem dX3_faultOfPay_2 : decode cX3_faultOfPay 2 = .ok (.invokevirtual 248, 3) := by decide +kernel
theorem dX3_faultOfPay_5 : decode cX3_faultOfPay 5 = .ok (.ifCond .ne 5, 3) := by decide +kernel
theorem dX3_faultOfPay_8 : decode cX3_faultOfPay 8 = .ok (.iconst 1, 1) := by decide +kernel
theorem dX3_faultOfPay_9 : decode cX3_faultOfPay 9 = .ok (.ireturn, 1) := by decide +kernel
theorem dX3_faultOfPay_10 : decode cX3_faultOfPay 10 = .ok (.iload_n 2, 1) := by decide +kernel
theorem dX3_faultOfPay_11 : decode cX3_faultOfPay 11 = .ok (.iconst 1, 1) := by decide +kernel
theorem dX3_faultOfPay_12 : decode cX3_faultOfPay 12 = .ok (.bipush 99, 2) := by decide +kernel
theorem dX3_faultOfPay_14 : decode cX3_faultOfPay 14 = .ok (.invokestatic 164, 3) := by decide +kernel
theorem dX3_faultOfPay_17 : decode cX3_faultOfPay 17 = .ok (.ifCond .ne 5, 3) := by decide +kernel
theorem dX3_faultOfPay_20 : decode cX3_faultOfPay 20 = .ok (.iconst 2, 1) := by decide +kernel
theorem dX3_faultOfPay_21 : decode cX3_faultOfPay 21 = .ok (.ireturn, 1) := by decide +kernel
theorem dX3_faultOfPay_22 : decode cX3_faultOfPay 22 = .ok (.aload_n 0, 1) := by decide +kernel
theorem dX3_faultOfPay_23 : decode cX3_faultOfPay 23 = .ok (.getfield 29, 3) := by decide +kernel
theorem dX3_faultOfPay_26 : decode cX3_faultOfPay 26 = .ok (.iload_n 1, 1) := by decide +kernel
theorem dX3_faultOfPay_27 : decode cX3_faultOfPay 27 = .ok (.aaload, 1) := by decide +kernel
theorem dX3_faultOfPay_28 : decode cX3_faultOfPay 28 = .ok (.getfield 188, 3) := by decide +kernel
theorem dX3_faultOfPay_31 : decode cX3_faultOfPay 31 = .ok (.iload_n 2, 1) := by decide +kernel
theorem dX3_faultOfPay_32 : decode cX3_faultOfPay 32 = .ok (.if_icmp .lt 16, 3) := by decide +kernel
theorem dX3_faultOfPay_35 : decode cX3_faultOfPay 35 = .ok (.aload_n 0, 1) := by decide +kernel
theorem dX3_faultOfPay_36 : decode cX3_faultOfPay 36 = .ok (.getfield 29, 3) := by decide +kernel
theorem dX3_faultOfPay_39 : decode cX3_faultOfPay 39 = .ok (.iload_n 1, 1) := by decide +kernel
theorem dX3_faultOfPay_40 : decode cX3_faultOfPay 40 = .ok (.aaload, 1) := by decide +kernel
theorem dX3_faultOfPay_41 : decode cX3_faultOfPay 41 = .ok (.getfield 191, 3) := by decide +kernel
theorem dX3_faultOfPay_44 : decode cX3_faultOfPay 44 = .ok (.iload_n 2, 1) := by decide +kernel
theorem dX3_faultOfPay_45 : decode cX3_faultOfPay 45 = .ok (.if_icmp .ge 7, 3) := by decide +kernel
theorem dX3_faultOfPay_48 : decode cX3_faultOfPay 48 = .ok (.iconst 1, 1) := by decide +kernel
theorem dX3_faultOfPay_49 : decode cX3_faultOfPay 49 = .ok (.goto 4, 3) := by decide +kernel
theorem dX3_faultOfPay_52 : decode cX3_faultOfPay 52 = .ok (.iconst 0, 1) := by decide +kernel
theorem dX3_faultOfPay_53 : decode cX3_faultOfPay 53 = .ok (.istore_n 3, 1) := by decide +kernel
theorem dX3_faultOfPay_54 : decode cX3_faultOfPay 54 = .ok (.iload_n 3, 1) := by decide +kernel
theorem dX3_faultOfPay_55 : decode cX3_faultOfPay 55 = .ok (.ifCond .eq 7, 3) := by decide +kernel
theorem dX3_faultOfPay_58 : decode cX3_faultOfPay 58 = .ok (.iconst 3, 1) := by decide +kernel
theorem dX3_faultOfPay_59 : decode cX3_faultOfPay 59 = .ok (.goto 4, 3) := by decide +kernel
theorem dX3_faultOfPay_62 : decode cX3_faultOfPay 62 = .ok (.iconst 0, 1) := by decide +kernel
theorem dX3_faultOfPay_63 : decode cX3_faultOfPay 63 = .ok (.ireturn, 1) := by decide +kernel
theorem dX3_faultOfPass_0 : decode cX3_faultOfPass 0 = .ok (.iload_n 1, 1) := by decide +kernel
theorem dX3_faultOfPass_1 : decode cX3_faultOfPass 1 = .ok (.iconst 1, 1) := by decide +kernel
theorem dX3_faultOfPass_2 : decode cX3_faultOfPass 2 = .ok (.bipush 48, 2) := by decide +kernel
theorem dX3_faultOfPass_4 : decode cX3_faultOfPass 4 = .ok (.invokestatic 164, 3) := by decide +kernel
theorem dX3_faultOfPass_7 : decode cX3_faultOfPass 7 = .ok (.ifCond .ne 5, 3) := by decide +kernel
theorem dX3_faultOfPass_10 : decode cX3_faultOfPass 10 = .ok (.iconst 2, 1) := by decide +kernel
theorem dX3_faultOfPass_11 : decode cX3_faultOfPass 11 = .ok (.ireturn, 1) := by decide +kernel
theorem dX3_faultOfPass_12 : decode cX3_faultOfPass 12 = .ok (.aload_n 0, 1) := by decide +kernel
theorem dX3_faultOfPass_13 : decode cX3_faultOfPass 13 = .ok (.getfield 51, 3) := by decide +kernel
theorem dX3_faultOfPass_16 : decode cX3_faultOfPass 16 = .ok (.iload_n 1, 1) := by decide +kernel
theorem dX3_faultOfPass_17 : decode cX3_faultOfPass 17 = .ok (.iadd, 1) := by decide +kernel
theorem dX3_faultOfPass_18 : decode cX3_faultOfPass 18 = .ok (.sipush 9999, 3) := by decide +kernel
theorem dX3_faultOfPass_21 : decode cX3_faultOfPass 21 = .ok (.if_icmp .le 7, 3) := by decide +kernel
theorem dX3_faultOfPass_24 : decode cX3_faultOfPass 24 = .ok (.iconst 3, 1) := by decide +kernel
theorem dX3_faultOfPass_25 : decode cX3_faultOfPass 25 = .ok (.goto 4, 3) := by decide +kernel
theorem dX3_faultOfPass_28 : decode cX3_faultOfPass 28 = .ok (.iconst 0, 1) := by decide +kernel
theorem dX3_faultOfPass_29 : decode cX3_faultOfPass 29 = .ok (.ireturn, 1) := by decide +kernel
theorem dX3_perform_0 : decode cX3_perform 0 = .ok (.iload_n 1, 1) := by decide +kernel
theorem dX3_perform_1 : decode cX3_perform 1 = .ok (.tableswitch 121 0 7 #[47, 64, 71, 82, 95, 102, 108, 114], 47) := by decide +kernel
theorem dX3_perform_48 : decode cX3_perform 48 = .ok (.aload_n 0, 1) := by decide +kernel
theorem dX3_perform_49 : decode cX3_perform 49 = .ok (.iload_n 2, 1) := by decide +kernel
theorem dX3_perform_50 : decode cX3_perform 50 = .ok (.iload_n 3, 1) := by decide +kernel
theorem dX3_perform_51 : decode cX3_perform 51 = .ok (.invokevirtual 251, 3) := by decide +kernel
theorem dX3_perform_54 : decode cX3_perform 54 = .ok (.pop, 1) := by decide +kernel
theorem dX3_perform_55 : decode cX3_perform 55 = .ok (.aload_n 0, 1) := by decide +kernel
theorem dX3_perform_56 : decode cX3_perform 56 = .ok (.getfield 29, 3) := by decide +kernel
theorem dX3_perform_59 : decode cX3_perform 59 = .ok (.iload_n 2, 1) := by decide +kernel
theorem dX3_perform_60 : decode cX3_perform 60 = .ok (.aaload, 1) := by decide +kernel
theorem dX3_perform_61 : decode cX3_perform 61 = .ok (.getfield 111, 3) := by decide +kernel
theorem dX3_perform_64 : decode cX3_perform 64 = .ok (.ireturn, 1) := by decide +kernel
theorem dX3_perform_65 : decode cX3_perform 65 = .ok (.aload_n 0, 1) := by decide +kernel
theorem dX3_perform_66 : decode cX3_perform 66 = .ok (.iload_n 2, 1) := by decide +kernel
theorem dX3_perform_67 : decode cX3_perform 67 = .ok (.iconst (-1), 1) := by decide +kernel
theorem dX3_perform_68 : decode cX3_perform 68 = .ok (.invokevirtual 251, 3) := by decide +kernel
theorem dX3_perform_71 : decode cX3_perform 71 = .ok (.ireturn, 1) := by decide +kernel
theorem dX3_perform_72 : decode cX3_perform 72 = .ok (.aload_n 0, 1) := by decide +kernel
theorem dX3_perform_73 : decode cX3_perform 73 = .ok (.iload_n 2, 1) := by decide +kernel
theorem dX3_perform_74 : decode cX3_perform 74 = .ok (.iload_n 3, 1) := by decide +kernel
theorem dX3_perform_75 : decode cX3_perform 75 = .ok (.invokevirtual 254, 3) := by decide +kernel
theorem dX3_perform_78 : decode cX3_perform 78 = .ok (.aload_n 0, 1) := by decide +kernel
theorem dX3_perform_79 : decode cX3_perform 79 = .ok (.invokevirtual 258, 3) := by decide +kernel
theorem dX3_perform_82 : decode cX3_perform 82 = .ok (.ireturn, 1) := by decide +kernel
theorem dX3_perform_83 : decode cX3_perform 83 = .ok (.aload_n 0, 1) := by decide +kernel
theorem dX3_perform_84 : decode cX3_perform 84 = .ok (.iload_n 2, 1) := by decide +kernel
theorem dX3_perform_85 : decode cX3_perform 85 = .ok (.iload_n 3, 1) := by decide +kernel
theorem dX3_perform_86 : decode cX3_perform 86 = .ok (.invokevirtual 261, 3) := by decide +kernel
theorem dX3_perform_89 : decode cX3_perform 89 = .ok (.pop, 1) := by decide +kernel
theorem dX3_perform_90 : decode cX3_perform 90 = .ok (.aload_n 0, 1) := by decide +kernel
theorem dX3_perform_91 : decode cX3_perform 91 = .ok (.iload_n 3, 1) := by decide +kernel
theorem dX3_perform_92 : decode cX3_perform 92 = .ok (.invokevirtual 124, 3) := by decide +kernel
theorem dX3_perform_95 : decode cX3_perform 95 = .ok (.ireturn, 1) := by decide +kernel
theorem dX3_perform_96 : decode cX3_perform 96 = .ok (.aload_n 0, 1) := by decide +kernel
theorem dX3_perform_97 : decode cX3_perform 97 = .ok (.iload_n 2, 1) := by decide +kernel
theorem dX3_perform_98 : decode cX3_perform 98 = .ok (.iconst (-1), 1) := by decide +kernel
theorem dX3_perform_99 : decode cX3_perform 99 = .ok (.invokevirtual 261, 3) := by decide +kernel
theorem dX3_perform_102 : decode cX3_perform 102 = .ok (.ireturn, 1) := by decide +kernel
theorem dX3_perform_103 : decode cX3_perform 103 = .ok (.aload_n 0, 1) := by decide +kernel
theorem dX3_perform_104 : decode cX3_perform 104 = .ok (.iload_n 2, 1) := by decide +kernel
theorem dX3_perform_105 : decode cX3_perform 105 = .ok (.invokevirtual 264, 3) := by decide +kernel
theorem dX3_perform_108 : decode cX3_perform 108 = .ok (.ireturn, 1) := by decide +kernel
theorem dX3_perform_109 : decode cX3_perform 109 = .ok (.aload_n 0, 1) := by decide +kernel
theorem dX3_perform_110 : decode cX3_perform 110 = .ok (.iload_n 2, 1) := by decide +kernel
theorem dX3_perform_111 : decode cX3_perform 111 = .ok (.invokevirtual 267, 3) := by decide +kernel
theorem dX3_perform_114 : decode cX3_perform 114 = .ok (.ireturn, 1) := by decide +kernel
theorem dX3_perform_115 : decode cX3_perform 115 = .ok (.aload_n 0, 1) := by decide +kernel
theorem dX3_perform_116 : decode cX3_perform 116 = .ok (.iload_n 2, 1) := by decide +kernel
theorem dX3_perform_117 : decode cX3_perform 117 = .ok (.iload_n 3, 1) := by decide +kernel
theorem dX3_perform_118 : decode cX3_perform 118 = .ok (.invokevirtual 270, 3) := by decide +kernel
theorem dX3_perform_121 : decode cX3_perform 121 = .ok (.ireturn, 1) := by decide +kernel
theorem dX3_perform_122 : decode cX3_perform 122 = .ok (.aload_n 0, 1) := by decide +kernel
theorem dX3_perform_123 : decode cX3_perform 123 = .ok (.iload_n 2, 1) := by decide +kernel
theorem dX3_perform_124 : decode cX3_perform 124 = .ok (.invokevirtual 273, 3) := by decide +kernel
theorem dX3_perform_127 : decode cX3_perform 127 = .ok (.ireturn, 1) := by decide +kernel
theorem dX3_giveBlanket_0 : decode cX3_giveBlanket 0 = .ok (.aload_n 0, 1) := by decide +kernel
theorem dX3_giveBlanket_1 : decode cX3_giveBlanket 1 = .ok (.getfield 29, 3) := by decide +kernel
theorem dX3_giveBlanket_4 : decode cX3_giveBlanket 4 = .ok (.iload_n 1, 1) := by decide +kernel
theorem dX3_giveBlanket_5 : decode cX3_giveBlanket 5 = .ok (.aaload, 1) := by decide +kernel
theorem dX3_giveBlanket_6 : decode cX3_giveBlanket 6 = .ok (.getfield 94, 3) := by decide +kernel
theorem dX3_giveBlanket_9 : decode cX3_giveBlanket 9 = .ok (.istore_n 3, 1) := by decide +kernel
theorem dX3_giveBlanket_10 : decode cX3_giveBlanket 10 = .ok (.aload_n 0, 1) := by decide +kernel
theorem dX3_giveBlanket_11 : decode cX3_giveBlanket 11 = .ok (.getfield 29, 3) := by decide +kernel
theorem dX3_giveBlanket_14 : decode cX3_giveBlanket 14 = .ok (.iload_n 1, 1) := by decide +kernel
theorem dX3_giveBlanket_15 : decode cX3_giveBlanket 15 = .ok (.aaload, 1) := by decide +kernel
theorem dX3_giveBlanket_16 : decode cX3_giveBlanket 16 = .ok (.iload_n 2, 1) := by decide +kernel
theorem dX3_giveBlanket_17 : decode cX3_giveBlanket 17 = .ok (.putfield 94, 3) := by decide +kernel
theorem dX3_giveBlanket_20 : decode cX3_giveBlanket 20 = .ok (.aload_n 0, 1) := by decide +kernel
theorem dX3_giveBlanket_21 : decode cX3_giveBlanket 21 = .ok (.invokevirtual 48, 3) := by decide +kernel
theorem dX3_giveBlanket_24 : decode cX3_giveBlanket 24 = .ok (.iload_n 3, 1) := by decide +kernel
theorem dX3_giveBlanket_25 : decode cX3_giveBlanket 25 = .ok (.ireturn, 1) := by decide +kernel
theorem dX3_exchangeBlankets_0 : decode cX3_exchangeBlankets 0 = .ok (.aload_n 0, 1) := by decide +kernel
theorem dX3_exchangeBlankets_1 : decode cX3_exchangeBlankets 1 = .ok (.getfield 29, 3) := by decide +kernel
theorem dX3_exchangeBlankets_4 : decode cX3_exchangeBlankets 4 = .ok (.iload_n 1, 1) := by decide +kernel
theorem dX3_exchangeBlankets_5 : decode cX3_exchangeBlankets 5 = .ok (.aaload, 1) := by decide +kernel
theorem dX3_exchangeBlankets_6 : decode cX3_exchangeBlankets 6 = .ok (.getfield 94, 3) := by decide +kernel
theorem dX3_exchangeBlankets_9 : decode cX3_exchangeBlankets 9 = .ok (.istore_n 3, 1) := by decide +kernel
theorem dX3_exchangeBlankets_10 : decode cX3_exchangeBlankets 10 = .ok (.aload_n 0, 1) := by decide +kernel
theorem dX3_exchangeBlankets_11 : decode cX3_exchangeBlankets 11 = .ok (.getfield 29, 3) := by decide +kernel
theorem dX3_exchangeBlankets_14 : decode cX3_exchangeBlankets 14 = .ok (.iload_n 1, 1) := by decide +kernel
theorem dX3_exchangeBlankets_15 : decode cX3_exchangeBlankets 15 = .ok (.aaload, 1) := by decide +kernel
theorem dX3_exchangeBlankets_16 : decode cX3_exchangeBlankets 16 = .ok (.aload_n 0, 1) := by decide +kernel
theorem dX3_exchangeBlankets_17 : decode cX3_exchangeBlankets 17 = .ok (.getfield 29, 3) := by decide +kernel
theorem dX3_exchangeBlankets_20 : decode cX3_exchangeBlankets 20 = .ok (.iload_n 2, 1) := by decide +kernel
theorem dX3_exchangeBlankets_21 : decode cX3_exchangeBlankets 21 = .ok (.aaload, 1) := by decide +kernel
theorem dX3_exchangeBlankets_22 : decode cX3_exchangeBlankets 22 = .ok (.getfield 94, 3) := by decide +kernel
theorem dX3_exchangeBlankets_25 : decode cX3_exchangeBlankets 25 = .ok (.putfield 94, 3) := by decide +kernel
theorem dX3_exchangeBlankets_28 : decode cX3_exchangeBlankets 28 = .ok (.aload_n 0, 1) := by decide +kernel
theorem dX3_exchangeBlankets_29 : decode cX3_exchangeBlankets 29 = .ok (.getfield 29, 3) := by decide +kernel
theorem dX3_exchangeBlankets_32 : decode cX3_exchangeBlankets 32 = .ok (.iload_n 2, 1) := by decide +kernel
theorem dX3_exchangeBlankets_33 : decode cX3_exchangeBlankets 33 = .ok (.aaload, 1) := by decide +kernel
theorem dX3_exchangeBlankets_34 : decode cX3_exchangeBlankets 34 = .ok (.iload_n 3, 1) := by decide +kernel
theorem dX3_exchangeBlankets_35 : decode cX3_exchangeBlankets 35 = .ok (.putfield 94, 3) := by decide +kernel
theorem dX3_exchangeBlankets_38 : decode cX3_exchangeBlankets 38 = .ok (.aload_n 0, 1) := by decide +kernel
theorem dX3_exchangeBlankets_39 : decode cX3_exchangeBlankets 39 = .ok (.invokevirtual 48, 3) := by decide +kernel
theorem dX3_exchangeBlankets_42 : decode cX3_exchangeBlankets 42 = .ok (.return_, 1) := by decide +kernel
theorem dX3_moveTo_0 : decode cX3_moveTo 0 = .ok (.aload_n 0, 1) := by decide +kernel
theorem dX3_moveTo_1 : decode cX3_moveTo 1 = .ok (.getfield 29, 3) := by decide +kernel
theorem dX3_moveTo_4 : decode cX3_moveTo 4 = .ok (.iload_n 1, 1) := by decide +kernel
theorem dX3_moveTo_5 : decode cX3_moveTo 5 = .ok (.aaload, 1) := by decide +kernel
theorem dX3_moveTo_6 : decode cX3_moveTo 6 = .ok (.getfield 104, 3) := by decide +kernel
theorem dX3_moveTo_9 : decode cX3_moveTo 9 = .ok (.istore_n 3, 1) := by decide +kernel
theorem dX3_moveTo_10 : decode cX3_moveTo 10 = .ok (.aload_n 0, 1) := by decide +kernel
theorem dX3_moveTo_11 : decode cX3_moveTo 11 = .ok (.iload_n 3, 1) := by decide +kernel
theorem dX3_moveTo_12 : decode cX3_moveTo 12 = .ok (.invokevirtual 114, 3) := by decide +kernel
theorem dX3_moveTo_15 : decode cX3_moveTo 15 = .ok (.ifCond .eq 12, 3) := by decide +kernel
theorem dX3_moveTo_18 : decode cX3_moveTo 18 = .ok (.aload_n 0, 1) := by decide +kernel
theorem dX3_moveTo_19 : decode cX3_moveTo 19 = .ok (.getfield 21, 3) := by decide +kernel
theorem dX3_moveTo_22 : decode cX3_moveTo 22 = .ok (.iload_n 3, 1) := by decide +kernel
theorem dX3_moveTo_23 : decode cX3_moveTo 23 = .ok (.iconst 2, 1) := by decide +kernel
theorem dX3_moveTo_24 : decode cX3_moveTo 24 = .ok (.iadd, 1) := by decide +kernel
theorem dX3_moveTo_25 : decode cX3_moveTo 25 = .ok (.iconst (-1), 1) := by decide +kernel
theorem dX3_moveTo_26 : decode cX3_moveTo 26 = .ok (.iastore, 1) := by decide +kernel
theorem dX3_moveTo_27 : decode cX3_moveTo 27 = .ok (.aload_n 0, 1) := by decide +kernel
theorem dX3_moveTo_28 : decode cX3_moveTo 28 = .ok (.iload_n 2, 1) := by decide +kernel
theorem dX3_moveTo_29 : decode cX3_moveTo 29 = .ok (.invokevirtual 114, 3) := by decide +kernel
theorem dX3_moveTo_32 : decode cX3_moveTo 32 = .ok (.ifCond .eq 12, 3) := by decide +kernel
theorem dX3_moveTo_35 : decode cX3_moveTo 35 = .ok (.aload_n 0, 1) := by decide +kernel
theorem dX3_moveTo_36 : decode cX3_moveTo 36 = .ok (.getfield 21, 3) := by decide +kernel
theorem dX3_moveTo_39 : decode cX3_moveTo 39 = .ok (.iload_n 2, 1) := by decide +kernel
theorem dX3_moveTo_40 : decode cX3_moveTo 40 = .ok (.iconst 2, 1) := by decide +kernel
theorem dX3_moveTo_41 : decode cX3_moveTo 41 = .ok (.iadd, 1) := by decide +kernel
theorem dX3_moveTo_42 : decode cX3_moveTo 42 = .ok (.iload_n 1, 1) := by decide +kernel
theorem dX3_moveTo_43 : decode cX3_moveTo 43 = .ok (.iastore, 1) := by decide +kernel
theorem dX3_moveTo_44 : decode cX3_moveTo 44 = .ok (.aload_n 0, 1) := by decide +kernel
theorem dX3_moveTo_45 : decode cX3_moveTo 45 = .ok (.getfield 29, 3) := by decide +kernel
theorem dX3_moveTo_48 : decode cX3_moveTo 48 = .ok (.iload_n 1, 1) := by decide +kernel
theorem dX3_moveTo_49 : decode cX3_moveTo 49 = .ok (.aaload, 1) := by decide +kernel
theorem dX3_moveTo_50 : decode cX3_moveTo 50 = .ok (.iload_n 2, 1) := by decide +kernel
theorem dX3_moveTo_51 : decode cX3_moveTo 51 = .ok (.putfield 104, 3) := by decide +kernel
theorem dX3_moveTo_54 : decode cX3_moveTo 54 = .ok (.aload_n 0, 1) := by decide +kernel
theorem dX3_moveTo_55 : decode cX3_moveTo 55 = .ok (.invokevirtual 48, 3) := by decide +kernel
theorem dX3_moveTo_58 : decode cX3_moveTo 58 = .ok (.iload_n 3, 1) := by decide +kernel
theorem dX3_moveTo_59 : decode cX3_moveTo 59 = .ok (.ireturn, 1) := by decide +kernel
theorem dX3_changeRate_0 : decode cX3_changeRate 0 = .ok (.aload_n 0, 1) := by decide +kernel
theorem dX3_changeRate_1 : decode cX3_changeRate 1 = .ok (.getfield 57, 3) := by decide +kernel
theorem dX3_changeRate_4 : decode cX3_changeRate 4 = .ok (.istore_n 2, 1) := by decide +kernel
theorem dX3_changeRate_5 : decode cX3_changeRate 5 = .ok (.aload_n 0, 1) := by decide +kernel
theorem dX3_changeRate_6 : decode cX3_changeRate 6 = .ok (.iload_n 1, 1) := by decide +kernel
theorem dX3_changeRate_7 : decode cX3_changeRate 7 = .ok (.putfield 57, 3) := by decide +kernel
theorem dX3_changeRate_10 : decode cX3_changeRate 10 = .ok (.iload_n 2, 1) := by decide +kernel
theorem dX3_changeRate_11 : decode cX3_changeRate 11 = .ok (.ireturn, 1) := by decide +kernel
theorem dX3_addLogs_0 : decode cX3_addLogs 0 = .ok (.aload_n 0, 1) := by decide +kernel
theorem dX3_addLogs_1 : decode cX3_addLogs 1 = .ok (.dup, 1) := by decide +kernel
theorem dX3_addLogs_2 : decode cX3_addLogs 2 = .ok (.getfield 34, 3) := by decide +kernel
theorem dX3_addLogs_5 : decode cX3_addLogs 5 = .ok (.iload_n 1, 1) := by decide +kernel
theorem dX3_addLogs_6 : decode cX3_addLogs 6 = .ok (.iadd, 1) := by decide +kernel
theorem dX3_addLogs_7 : decode cX3_addLogs 7 = .ok (.putfield 34, 3) := by decide +kernel
theorem dX3_addLogs_10 : decode cX3_addLogs 10 = .ok (.aload_n 0, 1) := by decide +kernel
theorem dX3_addLogs_11 : decode cX3_addLogs 11 = .ok (.dup, 1) := by decide +kernel
theorem dX3_addLogs_12 : decode cX3_addLogs 12 = .ok (.getfield 38, 3) := by decide +kernel
theorem dX3_addLogs_15 : decode cX3_addLogs 15 = .ok (.iload_n 1, 1) := by decide +kernel
theorem dX3_addLogs_16 : decode cX3_addLogs 16 = .ok (.iadd, 1) := by decide +kernel
theorem dX3_addLogs_17 : decode cX3_addLogs 17 = .ok (.putfield 38, 3) := by decide +kernel
theorem dX3_addLogs_20 : decode cX3_addLogs 20 = .ok (.aload_n 0, 1) := by decide +kernel
theorem dX3_addLogs_21 : decode cX3_addLogs 21 = .ok (.getfield 34, 3) := by decide +kernel
theorem dX3_addLogs_24 : decode cX3_addLogs 24 = .ok (.ireturn, 1) := by decide +kernel
theorem dX3_payBack_0 : decode cX3_payBack 0 = .ok (.aload_n 0, 1) := by decide +kernel
theorem dX3_payBack_1 : decode cX3_payBack 1 = .ok (.getfield 29, 3) := by decide +kernel
theorem dX3_payBack_4 : decode cX3_payBack 4 = .ok (.iload_n 1, 1) := by decide +kernel
theorem dX3_payBack_5 : decode cX3_payBack 5 = .ok (.aaload, 1) := by decide +kernel
theorem dX3_payBack_6 : decode cX3_payBack 6 = .ok (.dup, 1) := by decide +kernel
theorem dX3_payBack_7 : decode cX3_payBack 7 = .ok (.getfield 188, 3) := by decide +kernel
theorem dX3_payBack_10 : decode cX3_payBack 10 = .ok (.iload_n 2, 1) := by decide +kernel
theorem dX3_payBack_11 : decode cX3_payBack 11 = .ok (.isub, 1) := by decide +kernel
theorem dX3_payBack_12 : decode cX3_payBack 12 = .ok (.putfield 188, 3) := by decide +kernel
theorem dX3_payBack_15 : decode cX3_payBack 15 = .ok (.aload_n 0, 1) := by decide +kernel
theorem dX3_payBack_16 : decode cX3_payBack 16 = .ok (.getfield 29, 3) := by decide +kernel
theorem dX3_payBack_19 : decode cX3_payBack 19 = .ok (.iload_n 1, 1) := by decide +kernel
theorem dX3_payBack_20 : decode cX3_payBack 20 = .ok (.aaload, 1) := by decide +kernel
theorem dX3_payBack_21 : decode cX3_payBack 21 = .ok (.dup, 1) := by decide +kernel
theorem dX3_payBack_22 : decode cX3_payBack 22 = .ok (.getfield 191, 3) := by decide +kernel
theorem dX3_payBack_25 : decode cX3_payBack 25 = .ok (.iload_n 2, 1) := by decide +kernel
theorem dX3_payBack_26 : decode cX3_payBack 26 = .ok (.isub, 1) := by decide +kernel
theorem dX3_payBack_27 : decode cX3_payBack 27 = .ok (.putfield 191, 3) := by decide +kernel
theorem dX3_payBack_30 : decode cX3_payBack 30 = .ok (.aload_n 0, 1) := by decide +kernel
theorem dX3_payBack_31 : decode cX3_payBack 31 = .ok (.dup, 1) := by decide +kernel
theorem dX3_payBack_32 : decode cX3_payBack 32 = .ok (.getfield 60, 3) := by decide +kernel
theorem dX3_payBack_35 : decode cX3_payBack 35 = .ok (.iload_n 2, 1) := by decide +kernel
theorem dX3_payBack_36 : decode cX3_payBack 36 = .ok (.iadd, 1) := by decide +kernel
theorem dX3_payBack_37 : decode cX3_payBack 37 = .ok (.putfield 60, 3) := by decide +kernel
theorem dX3_payBack_40 : decode cX3_payBack 40 = .ok (.aload_n 0, 1) := by decide +kernel
theorem dX3_payBack_41 : decode cX3_payBack 41 = .ok (.getfield 29, 3) := by decide +kernel
theorem dX3_payBack_44 : decode cX3_payBack 44 = .ok (.iload_n 1, 1) := by decide +kernel
theorem dX3_payBack_45 : decode cX3_payBack 45 = .ok (.aaload, 1) := by decide +kernel
theorem dX3_payBack_46 : decode cX3_payBack 46 = .ok (.getfield 191, 3) := by decide +kernel
theorem dX3_payBack_49 : decode cX3_payBack 49 = .ok (.ireturn, 1) := by decide +kernel
theorem dX4_init_0 : decode cX4_init 0 = .ok (.aload_n 0, 1) := by decide +kernel
theorem dX4_init_1 : decode cX4_init 1 = .ok (.invokespecial 3, 3) := by decide +kernel
theorem dX4_init_4 : decode cX4_init 4 = .ok (.aload_n 0, 1) := by decide +kernel
theorem dX4_init_5 : decode cX4_init 5 = .ok (.sipush 400, 3) := by decide +kernel
theorem dX4_init_8 : decode cX4_init 8 = .ok (.newarray .int, 2) := by decide +kernel
theorem dX4_init_10 : decode cX4_init 10 = .ok (.putfield 9, 3) := by decide +kernel
theorem dX4_init_13 : decode cX4_init 13 = .ok (.return_, 1) := by decide +kernel
theorem dX5_init_0 : decode cX5_init 0 = .ok (.aload_n 0, 1) := by decide +kernel
theorem dX5_init_1 : decode cX5_init 1 = .ok (.invokespecial 3, 3) := by decide +kernel
theorem dX5_init_4 : decode cX5_init 4 = .ok (.aload_n 0, 1) := by decide +kernel
theorem dX5_init_5 : decode cX5_init 5 = .ok (.new 9, 3) := by decide +kernel
theorem dX5_init_8 : decode cX5_init 8 = .ok (.dup, 1) := by decide +kernel
theorem dX5_init_9 : decode cX5_init 9 = .ok (.invokespecial 11, 3) := by decide +kernel
theorem dX5_init_12 : decode cX5_init 12 = .ok (.putfield 12, 3) := by decide +kernel
theorem dX5_init_15 : decode cX5_init 15 = .ok (.return_, 1) := by decide +kernel
theorem dX6_init_0 : decode cX6_init 0 = .ok (.aload_n 0, 1) := by decide +kernel
theorem dX6_init_1 : decode cX6_init 1 = .ok (.invokespecial 3, 3) := by decide +kernel
theorem dX6_init_4 : decode cX6_init 4 = .ok (.aload_n 0, 1) := by decide +kernel
theorem dX6_init_5 : decode cX6_init 5 = .ok (.bipush 30, 2) := by decide +kernel
theorem dX6_init_7 : decode cX6_init 7 = .ok (.newarray .int, 2) := by decide +kernel
theorem dX6_init_9 : decode cX6_init 9 = .ok (.putfield 9, 3) := by decide +kernel
theorem dX6_init_12 : decode cX6_init 12 = .ok (.aload_n 0, 1) := by decide +kernel
theorem dX6_init_13 : decode cX6_init 13 = .ok (.bipush 30, 2) := by decide +kernel
theorem dX6_init_15 : decode cX6_init 15 = .ok (.newarray .int, 2) := by decide +kernel
theorem dX6_init_17 : decode cX6_init 17 = .ok (.putfield 15, 3) := by decide +kernel
theorem dX6_init_20 : decode cX6_init 20 = .ok (.aload_n 0, 1) := by decide +kernel
theorem dX6_init_21 : decode cX6_init 21 = .ok (.bipush 30, 2) := by decide +kernel
theorem dX6_init_23 : decode cX6_init 23 = .ok (.newarray .int, 2) := by decide +kernel
theorem dX6_init_25 : decode cX6_init 25 = .ok (.putfield 18, 3) := by decide +kernel
theorem dX6_init_28 : decode cX6_init 28 = .ok (.return_, 1) := by decide +kernel
theorem dX7_init_0 : decode cX7_init 0 = .ok (.aload_n 0, 1) := by decide +kernel
theorem dX7_init_1 : decode cX7_init 1 = .ok (.invokespecial 3, 3) := by decide +kernel
theorem dX7_init_4 : decode cX7_init 4 = .ok (.aload_n 0, 1) := by decide +kernel
theorem dX7_init_5 : decode cX7_init 5 = .ok (.sipush 500, 3) := by decide +kernel
theorem dX7_init_8 : decode cX7_init 8 = .ok (.newarray .int, 2) := by decide +kernel
theorem dX7_init_10 : decode cX7_init 10 = .ok (.putfield 9, 3) := by decide +kernel
theorem dX7_init_13 : decode cX7_init 13 = .ok (.return_, 1) := by decide +kernel
theorem dX7_hasRoomFor_0 : decode cX7_hasRoomFor 0 = .ok (.aload_n 0, 1) := by decide +kernel
theorem dX7_hasRoomFor_1 : decode cX7_hasRoomFor 1 = .ok (.getfield 15, 3) := by decide +kernel
theorem dX7_hasRoomFor_4 : decode cX7_hasRoomFor 4 = .ok (.iload_n 1, 1) := by decide +kernel
theorem dX7_hasRoomFor_5 : decode cX7_hasRoomFor 5 = .ok (.iadd, 1) := by decide +kernel
theorem dX7_hasRoomFor_6 : decode cX7_hasRoomFor 6 = .ok (.sipush 500, 3) := by decide +kernel
theorem dX7_hasRoomFor_9 : decode cX7_hasRoomFor 9 = .ok (.if_icmp .gt 7, 3) := by decide +kernel
theorem dX7_hasRoomFor_12 : decode cX7_hasRoomFor 12 = .ok (.iconst 1, 1) := by decide +kernel
theorem dX7_hasRoomFor_13 : decode cX7_hasRoomFor 13 = .ok (.goto 4, 3) := by decide +kernel
theorem dX7_hasRoomFor_16 : decode cX7_hasRoomFor 16 = .ok (.iconst 0, 1) := by decide +kernel
theorem dX7_hasRoomFor_17 : decode cX7_hasRoomFor 17 = .ok (.ireturn, 1) := by decide +kernel
theorem dX7_put_0 : decode cX7_put 0 = .ok (.aload_n 0, 1) := by decide +kernel
theorem dX7_put_1 : decode cX7_put 1 = .ok (.iconst 1, 1) := by decide +kernel
theorem dX7_put_2 : decode cX7_put 2 = .ok (.invokevirtual 19, 3) := by decide +kernel
theorem dX7_put_5 : decode cX7_put 5 = .ok (.ifCond .eq 27, 3) := by decide +kernel
theorem dX7_put_8 : decode cX7_put 8 = .ok (.aload_n 0, 1) := by decide +kernel
theorem dX7_put_9 : decode cX7_put 9 = .ok (.getfield 9, 3) := by decide +kernel
theorem dX7_put_12 : decode cX7_put 12 = .ok (.aload_n 0, 1) := by decide +kernel
theorem dX7_put_13 : decode cX7_put 13 = .ok (.getfield 15, 3) := by decide +kernel
theorem dX7_put_16 : decode cX7_put 16 = .ok (.iload_n 1, 1) := by decide +kernel
theorem dX7_put_17 : decode cX7_put 17 = .ok (.sipush 255, 3) := by decide +kernel
theorem dX7_put_20 : decode cX7_put 20 = .ok (.iand, 1) := by decide +kernel
theorem dX7_put_21 : decode cX7_put 21 = .ok (.iastore, 1) := by decide +kernel
theorem dX7_put_22 : decode cX7_put 22 = .ok (.aload_n 0, 1) := by decide +kernel
theorem dX7_put_23 : decode cX7_put 23 = .ok (.dup, 1) := by decide +kernel
theorem dX7_put_24 : decode cX7_put 24 = .ok (.getfield 15, 3) := by decide +kernel
theorem dX7_put_27 : decode cX7_put 27 = .ok (.iconst 1, 1) := by decide +kernel
theorem dX7_put_28 : decode cX7_put 28 = .ok (.iadd, 1) := by decide +kernel
theorem dX7_put_29 : decode cX7_put 29 = .ok (.putfield 15, 3) := by decide +kernel
theorem dX7_put_32 : decode cX7_put 32 = .ok (.return_, 1) := by decide +kernel
theorem dX7_putAll_0 : decode cX7_putAll 0 = .ok (.iconst 0, 1) := by decide +kernel
theorem dX7_putAll_1 : decode cX7_putAll 1 = .ok (.istore_n 2, 1) := by decide +kernel
theorem dX7_putAll_2 : decode cX7_putAll 2 = .ok (.iload_n 2, 1) := by decide +kernel
theorem dX7_putAll_3 : decode cX7_putAll 3 = .ok (.aload_n 1, 1) := by decide +kernel
theorem dX7_putAll_4 : decode cX7_putAll 4 = .ok (.invokevirtual 23, 3) := by decide +kernel
theorem dX7_putAll_7 : decode cX7_putAll 7 = .ok (.if_icmp .ge 18, 3) := by decide +kernel
theorem dX7_putAll_10 : decode cX7_putAll 10 = .ok (.aload_n 0, 1) := by decide +kernel
theorem dX7_putAll_11 : decode cX7_putAll 11 = .ok (.aload_n 1, 1) := by decide +kernel
theorem dX7_putAll_12 : decode cX7_putAll 12 = .ok (.iload_n 2, 1) := by decide +kernel
theorem dX7_putAll_13 : decode cX7_putAll 13 = .ok (.invokevirtual 28, 3) := by decide +kernel
theorem dX7_putAll_16 : decode cX7_putAll 16 = .ok (.invokevirtual 32, 3) := by decide +kernel
theorem dX7_putAll_19 : decode cX7_putAll 19 = .ok (.iinc 2 1, 3) := by decide +kernel
theorem dX7_putAll_22 : decode cX7_putAll 22 = .ok (.goto (-20), 3) := by decide +kernel
theorem dX7_putAll_25 : decode cX7_putAll 25 = .ok (.return_, 1) := by decide +kernel
theorem dX7_readFirst_0 : decode cX7_readFirst 0 = .ok (.aload_n 0, 1) := by decide +kernel
theorem dX7_readFirst_1 : decode cX7_readFirst 1 = .ok (.iconst 0, 1) := by decide +kernel
theorem dX7_readFirst_2 : decode cX7_readFirst 2 = .ok (.putfield 36, 3) := by decide +kernel
theorem dX7_readFirst_5 : decode cX7_readFirst 5 = .ok (.aload_n 0, 1) := by decide +kernel
theorem dX7_readFirst_6 : decode cX7_readFirst 6 = .ok (.invokevirtual 39, 3) := by decide +kernel
theorem dX7_readFirst_9 : decode cX7_readFirst 9 = .ok (.return_, 1) := by decide +kernel
theorem dX7_readNext_0 : decode cX7_readNext 0 = .ok (.aload_n 0, 1) := by decide +kernel
theorem dX7_readNext_1 : decode cX7_readNext 1 = .ok (.aload_n 0, 1) := by decide +kernel
theorem dX7_readNext_2 : decode cX7_readNext 2 = .ok (.getfield 36, 3) := by decide +kernel
theorem dX7_readNext_5 : decode cX7_readNext 5 = .ok (.putfield 42, 3) := by decide +kernel
theorem dX7_readNext_8 : decode cX7_readNext 8 = .ok (.aload_n 0, 1) := by decide +kernel
theorem dX7_readNext_9 : decode cX7_readNext 9 = .ok (.getfield 42, 3) := by decide +kernel
theorem dX7_readNext_12 : decode cX7_readNext 12 = .ok (.aload_n 0, 1) := by decide +kernel
theorem dX7_readNext_13 : decode cX7_readNext 13 = .ok (.getfield 15, 3) := by decide +kernel
theorem dX7_readNext_16 : decode cX7_readNext 16 = .ok (.if_icmp .ge 32, 3) := by decide +kernel
theorem dX7_readNext_19 : decode cX7_readNext 19 = .ok (.aload_n 0, 1) := by decide +kernel
theorem dX7_readNext_20 : decode cX7_readNext 20 = .ok (.getfield 9, 3) := by decide +kernel
theorem dX7_readNext_23 : decode cX7_readNext 23 = .ok (.aload_n 0, 1) := by decide +kernel
theorem dX7_readNext_24 : decode cX7_readNext 24 = .ok (.getfield 42, 3) := by decide +kernel
theorem dX7_readNext_27 : decode cX7_readNext 27 = .ok (.iaload, 1) := by decide +kernel
theorem dX7_readNext_28 : decode cX7_readNext 28 = .ok (.invokestatic 45, 3) := by decide +kernel
theorem dX7_readNext_31 : decode cX7_readNext 31 = .ok (.iconst 4, 1) := by decide +kernel
theorem dX7_readNext_32 : decode cX7_readNext 32 = .ok (.if_icmp .ne 16, 3) := by decide +kernel
theorem dX7_readNext_35 : decode cX7_readNext 35 = .ok (.aload_n 0, 1) := by decide +kernel
theorem dX7_readNext_36 : decode cX7_readNext 36 = .ok (.dup, 1) := by decide +kernel
theorem dX7_readNext_37 : decode cX7_readNext 37 = .ok (.getfield 42, 3) := by decide +kernel
theorem dX7_readNext_40 : decode cX7_readNext 40 = .ok (.iconst 1, 1) := by decide +kernel
theorem dX7_readNext_41 : decode cX7_readNext 41 = .ok (.iadd, 1) := by decide +kernel
theorem dX7_readNext_42 : decode cX7_readNext 42 = .ok (.putfield 42, 3) := by decide +kernel
theorem dX7_readNext_45 : decode cX7_readNext 45 = .ok (.goto (-37), 3) := by decide +kernel
theorem dX7_readNext_48 : decode cX7_readNext 48 = .ok (.aload_n 0, 1) := by decide +kernel
theorem dX7_readNext_49 : decode cX7_readNext 49 = .ok (.aload_n 0, 1) := by decide +kernel
theorem dX7_readNext_50 : decode cX7_readNext 50 = .ok (.getfield 42, 3) := by decide +kernel
theorem dX7_readNext_53 : decode cX7_readNext 53 = .ok (.aload_n 0, 1) := by decide +kernel
theorem dX7_readNext_54 : decode cX7_readNext 54 = .ok (.getfield 15, 3) := by decide +kernel
theorem dX7_readNext_57 : decode cX7_readNext 57 = .ok (.if_icmp .ge 18, 3) := by decide +kernel
theorem dX7_readNext_60 : decode cX7_readNext 60 = .ok (.aload_n 0, 1) := by decide +kernel
theorem dX7_readNext_61 : decode cX7_readNext 61 = .ok (.getfield 9, 3) := by decide +kernel
theorem dX7_readNext_64 : decode cX7_readNext 64 = .ok (.aload_n 0, 1) := by decide +kernel
theorem dX7_readNext_65 : decode cX7_readNext 65 = .ok (.getfield 42, 3) := by decide +kernel
theorem dX7_readNext_68 : decode cX7_readNext 68 = .ok (.iaload, 1) := by decide +kernel
theorem dX7_readNext_69 : decode cX7_readNext 69 = .ok (.invokestatic 45, 3) := by decide +kernel
theorem dX7_readNext_72 : decode cX7_readNext 72 = .ok (.goto 4, 3) := by decide +kernel
theorem dX7_readNext_75 : decode cX7_readNext 75 = .ok (.iconst 0, 1) := by decide +kernel
theorem dX7_readNext_76 : decode cX7_readNext 76 = .ok (.putfield 49, 3) := by decide +kernel
theorem dX7_readNext_79 : decode cX7_readNext 79 = .ok (.aload_n 0, 1) := by decide +kernel
theorem dX7_readNext_80 : decode cX7_readNext 80 = .ok (.aload_n 0, 1) := by decide +kernel
theorem dX7_readNext_81 : decode cX7_readNext 81 = .ok (.getfield 42, 3) := by decide +kernel
theorem dX7_readNext_84 : decode cX7_readNext 84 = .ok (.aload_n 0, 1) := by decide +kernel
theorem dX7_readNext_85 : decode cX7_readNext 85 = .ok (.getfield 15, 3) := by decide +kernel
theorem dX7_readNext_88 : decode cX7_readNext 88 = .ok (.if_icmp .ge 12, 3) := by decide +kernel
theorem dX7_readNext_91 : decode cX7_readNext 91 = .ok (.aload_n 0, 1) := by decide +kernel
theorem dX7_readNext_92 : decode cX7_readNext 92 = .ok (.getfield 42, 3) := by decide +kernel
theorem dX7_readNext_95 : decode cX7_readNext 95 = .ok (.iconst 1, 1) := by decide +kernel
theorem dX7_readNext_96 : decode cX7_readNext 96 = .ok (.iadd, 1) := by decide +kernel
theorem dX7_readNext_97 : decode cX7_readNext 97 = .ok (.goto 7, 3) := by decide +kernel
theorem dX7_readNext_100 : decode cX7_readNext 100 = .ok (.aload_n 0, 1) := by decide +kernel
theorem dX7_readNext_101 : decode cX7_readNext 101 = .ok (.getfield 42, 3) := by decide +kernel
theorem dX7_readNext_104 : decode cX7_readNext 104 = .ok (.putfield 36, 3) := by decide +kernel
theorem dX7_readNext_107 : decode cX7_readNext 107 = .ok (.aload_n 0, 1) := by decide +kernel
theorem dX7_readNext_108 : decode cX7_readNext 108 = .ok (.getfield 49, 3) := by decide +kernel
theorem dX7_readNext_111 : decode cX7_readNext 111 = .ok (.iconst 1, 1) := by decide +kernel
theorem dX7_readNext_112 : decode cX7_readNext 112 = .ok (.if_icmp .eq 11, 3) := by decide +kernel
theorem dX7_readNext_115 : decode cX7_readNext 115 = .ok (.aload_n 0, 1) := by decide +kernel
theorem dX7_readNext_116 : decode cX7_readNext 116 = .ok (.getfield 49, 3) := by decide +kernel
theorem dX7_readNext_119 : decode cX7_readNext 119 = .ok (.iconst 2, 1) := by decide +kernel
theorem dX7_readNext_120 : decode cX7_readNext 120 = .ok (.if_icmp .ne 46, 3) := by decide +kernel
theorem dX7_readNext_123 : decode cX7_readNext 123 = .ok (.aload_n 0, 1) := by decide +kernel
theorem dX7_readNext_124 : decode cX7_readNext 124 = .ok (.getfield 36, 3) := by decide +kernel
theorem dX7_readNext_127 : decode cX7_readNext 127 = .ok (.aload_n 0, 1) := by decide +kernel
theorem dX7_readNext_128 : decode cX7_readNext 128 = .ok (.getfield 15, 3) := by decide +kernel
theorem dX7_readNext_131 : decode cX7_readNext 131 = .ok (.if_icmp .ge 35, 3) := by decide +kernel
theorem dX7_readNext_134 : decode cX7_readNext 134 = .ok (.aload_n 0, 1) := by decide +kernel
theorem dX7_readNext_135 : decode cX7_readNext 135 = .ok (.getfield 9, 3) := by decide +kernel
theorem dX7_readNext_138 : decode cX7_readNext 138 = .ok (.aload_n 0, 1) := by decide +kernel
theorem dX7_readNext_139 : decode cX7_readNext 139 = .ok (.getfield 36, 3) := by decide +kernel
theorem dX7_readNext_142 : decode cX7_readNext 142 = .ok (.iaload, 1) := by decide +kernel
theorem dX7_readNext_143 : decode cX7_readNext 143 = .ok (.invokestatic 45, 3) := by decide +kernel
theorem dX7_readNext_146 : decode cX7_readNext 146 = .ok (.aload_n 0, 1) := by decide +kernel
theorem dX7_readNext_147 : decode cX7_readNext 147 = .ok (.getfield 49, 3) := by decide +kernel
theorem dX7_readNext_150 : decode cX7_readNext 150 = .ok (.if_icmp .ne 16, 3) := by decide +kernel
theorem dX7_readNext_153 : decode cX7_readNext 153 = .ok (.aload_n 0, 1) := by decide +kernel
theorem dX7_readNext_154 : decode cX7_readNext 154 = .ok (.dup, 1) := by decide +kernel
theorem dX7_readNext_155 : decode cX7_readNext 155 = .ok (.getfield 36, 3) := by decide +kernel
theorem dX7_readNext_158 : decode cX7_readNext 158 = .ok (.iconst 1, 1) := by decide +kernel
theorem dX7_readNext_159 : decode cX7_readNext 159 = .ok (.iadd, 1) := by decide +kernel
theorem dX7_readNext_160 : decode cX7_readNext 160 = .ok (.putfield 36, 3) := by decide +kernel
theorem dX7_readNext_163 : decode cX7_readNext 163 = .ok (.goto (-40), 3) := by decide +kernel
theorem dX7_readNext_166 : decode cX7_readNext 166 = .ok (.return_, 1) := by decide +kernel
theorem dX7_kindOf_0 : decode cX7_kindOf 0 = .ok (.bipush 97, 2) := by decide +kernel
theorem dX7_kindOf_2 : decode cX7_kindOf 2 = .ok (.iload_n 0, 1) := by decide +kernel
theorem dX7_kindOf_3 : decode cX7_kindOf 3 = .ok (.if_icmp .gt 11, 3) := by decide +kernel
theorem dX7_kindOf_6 : decode cX7_kindOf 6 = .ok (.iload_n 0, 1) := by decide +kernel
theorem dX7_kindOf_7 : decode cX7_kindOf 7 = .ok (.bipush 122, 2) := by decide +kernel
theorem dX7_kindOf_9 : decode cX7_kindOf 9 = .ok (.if_icmp .gt 5, 3) := by decide +kernel
theorem dX7_kindOf_12 : decode cX7_kindOf 12 = .ok (.iconst 1, 1) := by decide +kernel
theorem dX7_kindOf_13 : decode cX7_kindOf 13 = .ok (.ireturn, 1) := by decide +kernel
theorem dX7_kindOf_14 : decode cX7_kindOf 14 = .ok (.bipush 48, 2) := by decide +kernel
theorem dX7_kindOf_16 : decode cX7_kindOf 16 = .ok (.iload_n 0, 1) := by decide +kernel
theorem dX7_kindOf_17 : decode cX7_kindOf 17 = .ok (.if_icmp .gt 11, 3) := by decide +kernel
theorem dX7_kindOf_20 : decode cX7_kindOf 20 = .ok (.iload_n 0, 1) := by decide +kernel
theorem dX7_kindOf_21 : decode cX7_kindOf 21 = .ok (.bipush 57, 2) := by decide +kernel
theorem dX7_kindOf_23 : decode cX7_kindOf 23 = .ok (.if_icmp .gt 5, 3) := by decide +kernel
theorem dX7_kindOf_26 : decode cX7_kindOf 26 = .ok (.iconst 2, 1) := by decide +kernel
theorem dX7_kindOf_27 : decode cX7_kindOf 27 = .ok (.ireturn, 1) := by decide +kernel
theorem dX7_kindOf_28 : decode cX7_kindOf 28 = .ok (.iload_n 0, 1) := by decide +kernel
theorem dX7_kindOf_29 : decode cX7_kindOf 29 = .ok (.bipush 59, 2) := by decide +kernel
theorem dX7_kindOf_31 : decode cX7_kindOf 31 = .ok (.if_icmp .ne 5, 3) := by decide +kernel
theorem dX7_kindOf_34 : decode cX7_kindOf 34 = .ok (.iconst 3, 1) := by decide +kernel
theorem dX7_kindOf_35 : decode cX7_kindOf 35 = .ok (.ireturn, 1) := by decide +kernel
theorem dX7_kindOf_36 : decode cX7_kindOf 36 = .ok (.iload_n 0, 1) := by decide +kernel
theorem dX7_kindOf_37 : decode cX7_kindOf 37 = .ok (.bipush 32, 2) := by decide +kernel
theorem dX7_kindOf_39 : decode cX7_kindOf 39 = .ok (.if_icmp .eq 9, 3) := by decide +kernel
theorem dX7_kindOf_42 : decode cX7_kindOf 42 = .ok (.iload_n 0, 1) := by decide +kernel
theorem dX7_kindOf_43 : decode cX7_kindOf 43 = .ok (.bipush 10, 2) := by decide +kernel
theorem dX7_kindOf_45 : decode cX7_kindOf 45 = .ok (.if_icmp .ne 7, 3) := by decide +kernel
theorem dX7_kindOf_48 : decode cX7_kindOf 48 = .ok (.iconst 4, 1) := by decide +kernel
theorem dX7_kindOf_49 : decode cX7_kindOf 49 = .ok (.goto 4, 3) := by decide +kernel
theorem dX7_kindOf_52 : decode cX7_kindOf 52 = .ok (.iconst 5, 1) := by decide +kernel
theorem dX7_kindOf_53 : decode cX7_kindOf 53 = .ok (.ireturn, 1) := by decide +kernel
theorem dX7_value_0 : decode cX7_value 0 = .ok (.iconst 0, 1) := by decide +kernel
theorem dX7_value_1 : decode cX7_value 1 = .ok (.istore_n 1, 1) := by decide +kernel
theorem dX7_value_2 : decode cX7_value 2 = .ok (.aload_n 0, 1) := by decide +kernel
theorem dX7_value_3 : decode cX7_value 3 = .ok (.getfield 42, 3) := by decide +kernel
theorem dX7_value_6 : decode cX7_value 6 = .ok (.istore_n 2, 1) := by decide +kernel
theorem dX7_value_7 : decode cX7_value 7 = .ok (.iload_n 2, 1) := by decide +kernel
theorem dX7_value_8 : decode cX7_value 8 = .ok (.aload_n 0, 1) := by decide +kernel
theorem dX7_value_9 : decode cX7_value 9 = .ok (.getfield 36, 3) := by decide +kernel
theorem dX7_value_12 : decode cX7_value 12 = .ok (.if_icmp .ge 30, 3) := by decide +kernel
theorem dX7_value_15 : decode cX7_value 15 = .ok (.bipush 10, 2) := by decide +kernel
theorem dX7_value_17 : decode cX7_value 17 = .ok (.iload_n 1, 1) := by decide +kernel
theorem dX7_value_18 : decode cX7_value 18 = .ok (.imul, 1) := by decide +kernel
theorem dX7_value_19 : decode cX7_value 19 = .ok (.aload_n 0, 1) := by decide +kernel
theorem dX7_value_20 : decode cX7_value 20 = .ok (.getfield 9, 3) := by decide +kernel
theorem dX7_value_23 : decode cX7_value 23 = .ok (.iload_n 2, 1) := by decide +kernel
theorem dX7_value_24 : decode cX7_value 24 = .ok (.iaload, 1) := by decide +kernel
theorem dX7_value_25 : decode cX7_value 25 = .ok (.iadd, 1) := by decide +kernel
theorem dX7_value_26 : decode cX7_value 26 = .ok (.bipush 48, 2) := by decide +kernel
theorem dX7_value_28 : decode cX7_value 28 = .ok (.isub, 1) := by decide +kernel
theorem dX7_value_29 : decode cX7_value 29 = .ok (.sipush 1000, 3) := by decide +kernel
theorem dX7_value_32 : decode cX7_value 32 = .ok (.invokestatic 52, 3) := by decide +kernel
theorem dX7_value_35 : decode cX7_value 35 = .ok (.istore_n 1, 1) := by decide +kernel
theorem dX7_value_36 : decode cX7_value 36 = .ok (.iinc 2 1, 3) := by decide +kernel
theorem dX7_value_39 : decode cX7_value 39 = .ok (.goto (-32), 3) := by decide +kernel
theorem dX7_value_42 : decode cX7_value 42 = .ok (.iload_n 1, 1) := by decide +kernel
theorem dX7_value_43 : decode cX7_value 43 = .ok (.ireturn, 1) := by decide +kernel
theorem dX7_isWord_0 : decode cX7_isWord 0 = .ok (.aload_n 0, 1) := by decide +kernel
theorem dX7_isWord_1 : decode cX7_isWord 1 = .ok (.getfield 49, 3) := by decide +kernel
theorem dX7_isWord_4 : decode cX7_isWord 4 = .ok (.iconst 1, 1) := by decide +kernel
theorem dX7_isWord_5 : decode cX7_isWord 5 = .ok (.if_icmp .ne 19, 3) := by decide +kernel
theorem dX7_isWord_8 : decode cX7_isWord 8 = .ok (.aload_n 0, 1) := by decide +kernel
theorem dX7_isWord_9 : decode cX7_isWord 9 = .ok (.getfield 36, 3) := by decide +kernel
theorem dX7_isWord_12 : decode cX7_isWord 12 = .ok (.aload_n 0, 1) := by decide +kernel
theorem dX7_isWord_13 : decode cX7_isWord 13 = .ok (.getfield 42, 3) := by decide +kernel
theorem dX7_isWord_16 : decode cX7_isWord 16 = .ok (.isub, 1) := by decide +kernel
theorem dX7_isWord_17 : decode cX7_isWord 17 = .ok (.aload_n 1, 1) := by decide +kernel
theorem dX7_isWord_18 : decode cX7_isWord 18 = .ok (.invokevirtual 23, 3) := by decide +kernel
theorem dX7_isWord_21 : decode cX7_isWord 21 = .ok (.if_icmp .eq 5, 3) := by decide +kernel
theorem dX7_isWord_24 : decode cX7_isWord 24 = .ok (.iconst 0, 1) := by decide +kernel
theorem dX7_isWord_25 : decode cX7_isWord 25 = .ok (.ireturn, 1) := by decide +kernel
theorem dX7_isWord_26 : decode cX7_isWord 26 = .ok (.iconst 0, 1) := by decide +kernel
theorem dX7_isWord_27 : decode cX7_isWord 27 = .ok (.istore_n 2, 1) := by decide +kernel
theorem dX7_isWord_28 : decode cX7_isWord 28 = .ok (.iload_n 2, 1) := by decide +kernel
theorem dX7_isWord_29 : decode cX7_isWord 29 = .ok (.aload_n 1, 1) := by decide +kernel
theorem dX7_isWord_30 : decode cX7_isWord 30 = .ok (.invokevirtual 23, 3) := by decide +kernel
theorem dX7_isWord_33 : decode cX7_isWord 33 = .ok (.if_icmp .ge 30, 3) := by decide +kernel
theorem dX7_isWord_36 : decode cX7_isWord 36 = .ok (.aload_n 0, 1) := by decide +kernel
theorem dX7_isWord_37 : decode cX7_isWord 37 = .ok (.getfield 9, 3) := by decide +kernel
theorem dX7_isWord_40 : decode cX7_isWord 40 = .ok (.aload_n 0, 1) := by decide +kernel
theorem dX7_isWord_41 : decode cX7_isWord 41 = .ok (.getfield 42, 3) := by decide +kernel
theorem dX7_isWord_44 : decode cX7_isWord 44 = .ok (.iload_n 2, 1) := by decide +kernel
theorem dX7_isWord_45 : decode cX7_isWord 45 = .ok (.iadd, 1) := by decide +kernel
theorem dX7_isWord_46 : decode cX7_isWord 46 = .ok (.iaload, 1) := by decide +kernel
theorem dX7_isWord_47 : decode cX7_isWord 47 = .ok (.aload_n 1, 1) := by decide +kernel
theorem dX7_isWord_48 : decode cX7_isWord 48 = .ok (.iload_n 2, 1) := by decide +kernel
theorem dX7_isWord_49 : decode cX7_isWord 49 = .ok (.invokevirtual 28, 3) := by decide +kernel
theorem dX7_isWord_52 : decode cX7_isWord 52 = .ok (.if_icmp .eq 5, 3) := by decide +kernel
theorem dX7_isWord_55 : decode cX7_isWord 55 = .ok (.iconst 0, 1) := by decide +kernel
theorem dX7_isWord_56 : decode cX7_isWord 56 = .ok (.ireturn, 1) := by decide +kernel
theorem dX7_isWord_57 : decode cX7_isWord 57 = .ok (.iinc 2 1, 3) := by decide +kernel
theorem dX7_isWord_60 : decode cX7_isWord 60 = .ok (.goto (-32), 3) := by decide +kernel
theorem dX7_isWord_63 : decode cX7_isWord 63 = .ok (.iconst 1, 1) := by decide +kernel
theorem dX7_isWord_64 : decode cX7_isWord 64 = .ok (.ireturn, 1) := by decide +kernel
theorem dX8_init_0 : decode cX8_init 0 = .ok (.aload_n 0, 1) := by decide +kernel
theorem dX8_init_1 : decode cX8_init 1 = .ok (.invokespecial 1, 3) := by decide +kernel
theorem dX8_init_4 : decode cX8_init 4 = .ok (.aload_n 0, 1) := by decide +kernel
theorem dX8_init_5 : decode cX8_init 5 = .ok (.new 7, 3) := by decide +kernel
theorem dX8_init_8 : decode cX8_init 8 = .ok (.dup, 1) := by decide +kernel
theorem dX8_init_9 : decode cX8_init 9 = .ok (.invokespecial 9, 3) := by decide +kernel
theorem dX8_init_12 : decode cX8_init 12 = .ok (.putfield 10, 3) := by decide +kernel
theorem dX8_init_15 : decode cX8_init 15 = .ok (.aload_n 0, 1) := by decide +kernel
theorem dX8_init_16 : decode cX8_init 16 = .ok (.new 7, 3) := by decide +kernel
theorem dX8_init_19 : decode cX8_init 19 = .ok (.dup, 1) := by decide +kernel
theorem dX8_init_20 : decode cX8_init 20 = .ok (.invokespecial 9, 3) := by decide +kernel
theorem dX8_init_23 : decode cX8_init 23 = .ok (.putfield 16, 3) := by decide +kernel
theorem dX8_init_26 : decode cX8_init 26 = .ok (.aload_n 0, 1) := by decide +kernel
theorem dX8_init_27 : decode cX8_init 27 = .ok (.new 19, 3) := by decide +kernel
theorem dX8_init_30 : decode cX8_init 30 = .ok (.dup, 1) := by decide +kernel
theorem dX8_init_31 : decode cX8_init 31 = .ok (.invokespecial 21, 3) := by decide +kernel
theorem dX8_init_34 : decode cX8_init 34 = .ok (.putfield 22, 3) := by decide +kernel
theorem dX8_init_37 : decode cX8_init 37 = .ok (.aload_n 0, 1) := by decide +kernel
theorem dX8_init_38 : decode cX8_init 38 = .ok (.new 26, 3) := by decide +kernel
theorem dX8_init_41 : decode cX8_init 41 = .ok (.dup, 1) := by decide +kernel
theorem dX8_init_42 : decode cX8_init 42 = .ok (.invokespecial 28, 3) := by decide +kernel
theorem dX8_init_45 : decode cX8_init 45 = .ok (.putfield 29, 3) := by decide +kernel
theorem dX8_init_48 : decode cX8_init 48 = .ok (.aload_n 0, 1) := by decide +kernel
theorem dX8_init_49 : decode cX8_init 49 = .ok (.iconst 2, 1) := by decide +kernel
theorem dX8_init_50 : decode cX8_init 50 = .ok (.invokestatic 33, 3) := by decide +kernel
theorem dX8_init_53 : decode cX8_init 53 = .ok (.putfield 37, 3) := by decide +kernel
theorem dX8_init_56 : decode cX8_init 56 = .ok (.aload_n 0, 1) := by decide +kernel
theorem dX8_init_57 : decode cX8_init 57 = .ok (.iconst 2, 1) := by decide +kernel
theorem dX8_init_58 : decode cX8_init 58 = .ok (.newarray .boolean, 2) := by decide +kernel
theorem dX8_init_60 : decode cX8_init 60 = .ok (.putfield 41, 3) := by decide +kernel
theorem dX8_init_63 : decode cX8_init 63 = .ok (.aload_n 0, 1) := by decide +kernel
theorem dX8_init_64 : decode cX8_init 64 = .ok (.new 45, 3) := by decide +kernel
theorem dX8_init_67 : decode cX8_init 67 = .ok (.dup, 1) := by decide +kernel
theorem dX8_init_68 : decode cX8_init 68 = .ok (.invokespecial 47, 3) := by decide +kernel
theorem dX8_init_71 : decode cX8_init 71 = .ok (.putfield 48, 3) := by decide +kernel
theorem dX8_init_74 : decode cX8_init 74 = .ok (.aload_n 0, 1) := by decide +kernel
theorem dX8_init_75 : decode cX8_init 75 = .ok (.new 52, 3) := by decide +kernel
theorem dX8_init_78 : decode cX8_init 78 = .ok (.dup, 1) := by decide +kernel
theorem dX8_init_79 : decode cX8_init 79 = .ok (.invokespecial 54, 3) := by decide +kernel
theorem dX8_init_82 : decode cX8_init 82 = .ok (.putfield 55, 3) := by decide +kernel
theorem dX8_init_85 : decode cX8_init 85 = .ok (.aload_n 0, 1) := by decide +kernel
theorem dX8_init_86 : decode cX8_init 86 = .ok (.new 59, 3) := by decide +kernel
theorem dX8_init_89 : decode cX8_init 89 = .ok (.dup, 1) := by decide +kernel
theorem dX8_init_90 : decode cX8_init 90 = .ok (.invokespecial 61, 3) := by decide +kernel
theorem dX8_init_93 : decode cX8_init 93 = .ok (.putfield 62, 3) := by decide +kernel
theorem dX8_init_96 : decode cX8_init 96 = .ok (.aload_n 0, 1) := by decide +kernel
theorem dX8_init_97 : decode cX8_init 97 = .ok (.getfield 48, 3) := by decide +kernel
theorem dX8_init_100 : decode cX8_init 100 = .ok (.getfield 66, 3) := by decide +kernel
theorem dX8_init_103 : decode cX8_init 103 = .ok (.ldc 70, 2) := by decide +kernel
theorem dX8_init_105 : decode cX8_init 105 = .ok (.invokevirtual 72, 3) := by decide +kernel
theorem dX8_init_108 : decode cX8_init 108 = .ok (.aload_n 0, 1) := by decide +kernel
theorem dX8_init_109 : decode cX8_init 109 = .ok (.getfield 48, 3) := by decide +kernel
theorem dX8_init_112 : decode cX8_init 112 = .ok (.aload_n 0, 1) := by decide +kernel
theorem dX8_init_113 : decode cX8_init 113 = .ok (.getfield 10, 3) := by decide +kernel
theorem dX8_init_116 : decode cX8_init 116 = .ok (.invokevirtual 78, 3) := by decide +kernel
theorem dX8_init_119 : decode cX8_init 119 = .ok (.pop, 1) := by decide +kernel
theorem dX8_init_120 : decode cX8_init 120 = .ok (.aload_n 0, 1) := by decide +kernel
theorem dX8_init_121 : decode cX8_init 121 = .ok (.getfield 48, 3) := by decide +kernel
theorem dX8_init_124 : decode cX8_init 124 = .ok (.getfield 66, 3) := by decide +kernel
theorem dX8_init_127 : decode cX8_init 127 = .ok (.iconst 0, 1) := by decide +kernel
theorem dX8_init_128 : decode cX8_init 128 = .ok (.putfield 82, 3) := by decide +kernel
theorem dX8_init_131 : decode cX8_init 131 = .ok (.return_, 1) := by decide +kernel
theorem dX8_newHuts_0 : decode cX8_newHuts 0 = .ok (.iload_n 0, 1) := by decide +kernel
theorem dX8_newHuts_1 : decode cX8_newHuts 1 = .ok (.ifCond .ge 7, 3) := by decide +kernel
theorem dX8_newHuts_4 : decode cX8_newHuts 4 = .ok (.iconst 0, 1) := by decide +kernel
theorem dX8_newHuts_5 : decode cX8_newHuts 5 = .ok (.goto 4, 3) := by decide +kernel
theorem dX8_newHuts_8 : decode cX8_newHuts 8 = .ok (.iload_n 0, 1) := by decide +kernel
theorem dX8_newHuts_9 : decode cX8_newHuts 9 = .ok (.anewarray 7, 3) := by decide +kernel
theorem dX8_newHuts_12 : decode cX8_newHuts 12 = .ok (.astore_n 1, 1) := by decide +kernel
theorem dX8_newHuts_13 : decode cX8_newHuts 13 = .ok (.iconst 0, 1) := by decide +kernel
theorem dX8_newHuts_14 : decode cX8_newHuts 14 = .ok (.istore_n 2, 1) := by decide +kernel
theorem dX8_newHuts_15 : decode cX8_newHuts 15 = .ok (.iload_n 2, 1) := by decide +kernel
theorem dX8_newHuts_16 : decode cX8_newHuts 16 = .ok (.aload_n 1, 1) := by decide +kernel
theorem dX8_newHuts_17 : decode cX8_newHuts 17 = .ok (.arraylength, 1) := by decide +kernel
theorem dX8_newHuts_18 : decode cX8_newHuts 18 = .ok (.if_icmp .ge 19, 3) := by decide +kernel
theorem dX8_newHuts_21 : decode cX8_newHuts 21 = .ok (.aload_n 1, 1) := by decide +kernel
theorem dX8_newHuts_22 : decode cX8_newHuts 22 = .ok (.iload_n 2, 1) := by decide +kernel
theorem dX8_newHuts_23 : decode cX8_newHuts 23 = .ok (.new 7, 3) := by decide +kernel
theorem dX8_newHuts_26 : decode cX8_newHuts 26 = .ok (.dup, 1) := by decide +kernel
theorem dX8_newHuts_27 : decode cX8_newHuts 27 = .ok (.invokespecial 9, 3) := by decide +kernel
theorem dX8_newHuts_30 : decode cX8_newHuts 30 = .ok (.aastore, 1) := by decide +kernel
theorem dX8_newHuts_31 : decode cX8_newHuts 31 = .ok (.iinc 2 1, 3) := by decide +kernel
theorem dX8_newHuts_34 : decode cX8_newHuts 34 = .ok (.goto (-19), 3) := by decide +kernel
theorem dX8_newHuts_37 : decode cX8_newHuts 37 = .ok (.aload_n 1, 1) := by decide +kernel
theorem dX8_newHuts_38 : decode cX8_newHuts 38 = .ok (.areturn, 1) := by decide +kernel
theorem dX8_isWithin_0 : decode cX8_isWithin 0 = .ok (.iload_n 1, 1) := by decide +kernel
theorem dX8_isWithin_1 : decode cX8_isWithin 1 = .ok (.iload_n 0, 1) := by decide +kernel
theorem dX8_isWithin_2 : decode cX8_isWithin 2 = .ok (.if_icmp .gt 12, 3) := by decide +kernel
theorem dX8_isWithin_5 : decode cX8_isWithin 5 = .ok (.iload_n 0, 1) := by decide +kernel
theorem dX8_isWithin_6 : decode cX8_isWithin 6 = .ok (.iload_n 2, 1) := by decide +kernel
theorem dX8_isWithin_7 : decode cX8_isWithin 7 = .ok (.if_icmp .gt 7, 3) := by decide +kernel
theorem dX8_isWithin_10 : decode cX8_isWithin 10 = .ok (.iconst 1, 1) := by decide +kernel
theorem dX8_isWithin_11 : decode cX8_isWithin 11 = .ok (.goto 4, 3) := by decide +kernel
theorem dX8_isWithin_14 : decode cX8_isWithin 14 = .ok (.iconst 0, 1) := by decide +kernel
theorem dX8_isWithin_15 : decode cX8_isWithin 15 = .ok (.ireturn, 1) := by decide +kernel
theorem dX8_appendText_0 : decode cX8_appendText 0 = .ok (.aload_n 0, 1) := by decide +kernel
theorem dX8_appendText_1 : decode cX8_appendText 1 = .ok (.getfield 48, 3) := by decide +kernel
theorem dX8_appendText_4 : decode cX8_appendText 4 = .ok (.getfield 66, 3) := by decide +kernel
theorem dX8_appendText_7 : decode cX8_appendText 7 = .ok (.iconst 4, 1) := by decide +kernel
theorem dX8_appendText_8 : decode cX8_appendText 8 = .ok (.invokevirtual 86, 3) := by decide +kernel
theorem dX8_appendText_11 : decode cX8_appendText 11 = .ok (.ifCond .ne 13, 3) := by decide +kernel
theorem dX8_appendText_14 : decode cX8_appendText 14 = .ok (.new 90, 3) := by decide +kernel
theorem dX8_appendText_17 : decode cX8_appendText 17 = .ok (.dup, 1) := by decide +kernel
theorem dX8_appendText_18 : decode cX8_appendText 18 = .ok (.ldc 92, 2) := by decide +kernel
theorem dX8_appendText_20 : decode cX8_appendText 20 = .ok (.invokespecial 94, 3) := by decide +kernel
theorem dX8_appendText_23 : decode cX8_appendText 23 = .ok (.athrow, 1) := by decide +kernel
theorem dX8_appendText_24 : decode cX8_appendText 24 = .ok (.aload_n 0, 1) := by decide +kernel
theorem dX8_appendText_25 : decode cX8_appendText 25 = .ok (.getfield 48, 3) := by decide +kernel
theorem dX8_appendText_28 : decode cX8_appendText 28 = .ok (.getfield 66, 3) := by decide +kernel
theorem dX8_appendText_31 : decode cX8_appendText 31 = .ok (.iload_n 1, 1) := by decide +kernel
theorem dX8_appendText_32 : decode cX8_appendText 32 = .ok (.bipush 24, 2) := by decide +kernel
theorem dX8_appendText_34 : decode cX8_appendText 34 = .ok (.iushr, 1) := by decide +kernel
theorem dX8_appendText_35 : decode cX8_appendText 35 = .ok (.invokevirtual 96, 3) := by decide +kernel
theorem dX8_appendText_38 : decode cX8_appendText 38 = .ok (.aload_n 0, 1) := by decide +kernel
theorem dX8_appendText_39 : decode cX8_appendText 39 = .ok (.getfield 48, 3) := by decide +kernel
theorem dX8_appendText_42 : decode cX8_appendText 42 = .ok (.getfield 66, 3) := by decide +kernel
theorem dX8_appendText_45 : decode cX8_appendText 45 = .ok (.iload_n 1, 1) := by decide +kernel
theorem dX8_appendText_46 : decode cX8_appendText 46 = .ok (.bipush 16, 2) := by decide +kernel
theorem dX8_appendText_48 : decode cX8_appendText 48 = .ok (.iushr, 1) := by decide +kernel
theorem dX8_appendText_49 : decode cX8_appendText 49 = .ok (.invokevirtual 96, 3) := by decide +kernel
theorem dX8_appendText_52 : decode cX8_appendText 52 = .ok (.aload_n 0, 1) := by decide +kernel
theorem dX8_appendText_53 : decode cX8_appendText 53 = .ok (.getfield 48, 3) := by decide +kernel
theorem dX8_appendText_56 : decode cX8_appendText 56 = .ok (.getfield 66, 3) := by decide +kernel
theorem dX8_appendText_59 : decode cX8_appendText 59 = .ok (.iload_n 1, 1) := by decide +kernel
theorem dX8_appendText_60 : decode cX8_appendText 60 = .ok (.bipush 8, 2) := by decide +kernel
theorem dX8_appendText_62 : decode cX8_appendText 62 = .ok (.iushr, 1) := by decide +kernel
theorem dX8_appendText_63 : decode cX8_appendText 63 = .ok (.invokevirtual 96, 3) := by decide +kernel
theorem dX8_appendText_66 : decode cX8_appendText 66 = .ok (.aload_n 0, 1) := by decide +kernel
theorem dX8_appendText_67 : decode cX8_appendText 67 = .ok (.getfield 48, 3) := by decide +kernel
theorem dX8_appendText_70 : decode cX8_appendText 70 = .ok (.getfield 66, 3) := by decide +kernel
theorem dX8_appendText_73 : decode cX8_appendText 73 = .ok (.iload_n 1, 1) := by decide +kernel
theorem dX8_appendText_74 : decode cX8_appendText 74 = .ok (.invokevirtual 96, 3) := by decide +kernel
theorem dX8_appendText_77 : decode cX8_appendText 77 = .ok (.aload_n 0, 1) := by decide +kernel
theorem dX8_appendText_78 : decode cX8_appendText 78 = .ok (.getfield 48, 3) := by decide +kernel
theorem dX8_appendText_81 : decode cX8_appendText 81 = .ok (.getfield 66, 3) := by decide +kernel
theorem dX8_appendText_84 : decode cX8_appendText 84 = .ok (.getfield 82, 3) := by decide +kernel
theorem dX8_appendText_87 : decode cX8_appendText 87 = .ok (.ireturn, 1) := by decide +kernel
theorem dX8_truncateText_0 : decode cX8_truncateText 0 = .ok (.iload_n 1, 1) := by decide +kernel
theorem dX8_truncateText_1 : decode cX8_truncateText 1 = .ok (.iconst 0, 1) := by decide +kernel
theorem dX8_truncateText_2 : decode cX8_truncateText 2 = .ok (.aload_n 0, 1) := by decide +kernel
theorem dX8_truncateText_3 : decode cX8_truncateText 3 = .ok (.getfield 48, 3) := by decide +kernel
theorem dX8_truncateText_6 : decode cX8_truncateText 6 = .ok (.getfield 66, 3) := by decide +kernel
theorem dX8_truncateText_9 : decode cX8_truncateText 9 = .ok (.getfield 82, 3) := by decide +kernel
theorem dX8_truncateText_12 : decode cX8_truncateText 12 = .ok (.invokestatic 100, 3) := by decide +kernel
theorem dX8_truncateText_15 : decode cX8_truncateText 15 = .ok (.ifCond .ne 13, 3) := by decide +kernel
theorem dX8_truncateText_18 : decode cX8_truncateText 18 = .ok (.new 104, 3) := by decide +kernel
theorem dX8_truncateText_21 : decode cX8_truncateText 21 = .ok (.dup, 1) := by decide +kernel
theorem dX8_truncateText_22 : decode cX8_truncateText 22 = .ok (.ldc 106, 2) := by decide +kernel
theorem dX8_truncateText_24 : decode cX8_truncateText 24 = .ok (.invokespecial 108, 3) := by decide +kernel
theorem dX8_truncateText_27 : decode cX8_truncateText 27 = .ok (.athrow, 1) := by decide +kernel
theorem dX8_truncateText_28 : decode cX8_truncateText 28 = .ok (.aload_n 0, 1) := by decide +kernel
theorem dX8_truncateText_29 : decode cX8_truncateText 29 = .ok (.getfield 48, 3) := by decide +kernel
theorem dX8_truncateText_32 : decode cX8_truncateText 32 = .ok (.getfield 66, 3) := by decide +kernel
theorem dX8_truncateText_35 : decode cX8_truncateText 35 = .ok (.iload_n 1, 1) := by decide +kernel
theorem dX8_truncateText_36 : decode cX8_truncateText 36 = .ok (.putfield 82, 3) := by decide +kernel
theorem dX8_truncateText_39 : decode cX8_truncateText 39 = .ok (.iload_n 1, 1) := by decide +kernel
theorem dX8_truncateText_40 : decode cX8_truncateText 40 = .ok (.ireturn, 1) := by decide +kernel
theorem dX8_loadSetup_0 : decode cX8_loadSetup 0 = .ok (.aload_n 0, 1) := by decide +kernel
theorem dX8_loadSetup_1 : decode cX8_loadSetup 1 = .ok (.getfield 48, 3) := by decide +kernel
theorem dX8_loadSetup_4 : decode cX8_loadSetup 4 = .ok (.aload_n 0, 1) := by decide +kernel
theorem dX8_loadSetup_5 : decode cX8_loadSetup 5 = .ok (.getfield 16, 3) := by decide +kernel
theorem dX8_loadSetup_8 : decode cX8_loadSetup 8 = .ok (.invokevirtual 78, 3) := by decide +kernel
theorem dX8_loadSetup_11 : decode cX8_loadSetup 11 = .ok (.istore_n 1, 1) := by decide +kernel
theorem dX8_loadSetup_12 : decode cX8_loadSetup 12 = .ok (.aload_n 0, 1) := by decide +kernel
theorem dX8_loadSetup_13 : decode cX8_loadSetup 13 = .ok (.getfield 48, 3) := by decide +kernel
theorem dX8_loadSetup_16 : decode cX8_loadSetup 16 = .ok (.getfield 66, 3) := by decide +kernel
theorem dX8_loadSetup_19 : decode cX8_loadSetup 19 = .ok (.iconst 0, 1) := by decide +kernel
theorem dX8_loadSetup_20 : decode cX8_loadSetup 20 = .ok (.putfield 82, 3) := by decide +kernel
theorem dX8_loadSetup_23 : decode cX8_loadSetup 23 = .ok (.iload_n 1, 1) := by decide +kernel
theorem dX8_loadSetup_24 : decode cX8_loadSetup 24 = .ok (.ifCond .ne 5, 3) := by decide +kernel
theorem dX8_loadSetup_27 : decode cX8_loadSetup 27 = .ok (.iconst (-1), 1) := by decide +kernel
theorem dX8_loadSetup_28 : decode cX8_loadSetup 28 = .ok (.ireturn, 1) := by decide +kernel
theorem dX8_loadSetup_29 : decode cX8_loadSetup 29 = .ok (.aload_n 0, 1) := by decide +kernel
theorem dX8_loadSetup_30 : decode cX8_loadSetup 30 = .ok (.getfield 10, 3) := by decide +kernel
theorem dX8_loadSetup_33 : decode cX8_loadSetup 33 = .ok (.aload_n 0, 1) := by decide +kernel
theorem dX8_loadSetup_34 : decode cX8_loadSetup 34 = .ok (.getfield 16, 3) := by decide +kernel
theorem dX8_loadSetup_37 : decode cX8_loadSetup 37 = .ok (.invokevirtual 109, 3) := by decide +kernel
theorem dX8_loadSetup_40 : decode cX8_loadSetup 40 = .ok (.aload_n 0, 1) := by decide +kernel
theorem dX8_loadSetup_41 : decode cX8_loadSetup 41 = .ok (.getfield 29, 3) := by decide +kernel
theorem dX8_loadSetup_44 : decode cX8_loadSetup 44 = .ok (.invokevirtual 113, 3) := by decide +kernel
theorem dX8_loadSetup_47 : decode cX8_loadSetup 47 = .ok (.aload_n 0, 1) := by decide +kernel
theorem dX8_loadSetup_48 : decode cX8_loadSetup 48 = .ok (.getfield 10, 3) := by decide +kernel
theorem dX8_loadSetup_51 : decode cX8_loadSetup 51 = .ok (.getfield 116, 3) := by decide +kernel
theorem dX8_loadSetup_54 : decode cX8_loadSetup 54 = .ok (.ireturn, 1) := by decide +kernel
theorem dX8_hour_0 : decode cX8_hour 0 = .ok (.aload_n 0, 1) := by decide +kernel
theorem dX8_hour_1 : decode cX8_hour 1 = .ok (.getfield 10, 3) := by decide +kernel
theorem dX8_hour_4 : decode cX8_hour 4 = .ok (.getfield 152, 3) := by decide +kernel
theorem dX8_hour_7 : decode cX8_hour 7 = .ok (.ireturn, 1) := by decide +kernel
theorem dX8_logs_0 : decode cX8_logs 0 = .ok (.aload_n 0, 1) := by decide +kernel
theorem dX8_logs_1 : decode cX8_logs 1 = .ok (.getfield 10, 3) := by decide +kernel
theorem dX8_logs_4 : decode cX8_logs 4 = .ok (.getfield 159, 3) := by decide +kernel
theorem dX8_logs_7 : decode cX8_logs 7 = .ok (.ireturn, 1) := by decide +kernel
theorem dX8_temperature_0 : decode cX8_temperature 0 = .ok (.aload_n 0, 1) := by decide +kernel
theorem dX8_temperature_1 : decode cX8_temperature 1 = .ok (.getfield 10, 3) := by decide +kernel
theorem dX8_temperature_4 : decode cX8_temperature 4 = .ok (.invokevirtual 162, 3) := by decide +kernel
theorem dX8_temperature_7 : decode cX8_temperature 7 = .ok (.ireturn, 1) := by decide +kernel
theorem dX8_hikerIn_0 : decode cX8_hikerIn 0 = .ok (.aload_n 0, 1) := by decide +kernel
theorem dX8_hikerIn_1 : decode cX8_hikerIn 1 = .ok (.iload_n 1, 1) := by decide +kernel
theorem dX8_hikerIn_2 : decode cX8_hikerIn 2 = .ok (.invokevirtual 165, 3) := by decide +kernel
theorem dX8_hikerIn_5 : decode cX8_hikerIn 5 = .ok (.aload_n 0, 1) := by decide +kernel
theorem dX8_hikerIn_6 : decode cX8_hikerIn 6 = .ok (.getfield 10, 3) := by decide +kernel
theorem dX8_hikerIn_9 : decode cX8_hikerIn 9 = .ok (.iload_n 1, 1) := by decide +kernel
theorem dX8_hikerIn_10 : decode cX8_hikerIn 10 = .ok (.invokevirtual 168, 3) := by decide +kernel
theorem dX8_hikerIn_13 : decode cX8_hikerIn 13 = .ok (.ireturn, 1) := by decide +kernel
theorem dX8_noiseIn_0 : decode cX8_noiseIn 0 = .ok (.aload_n 0, 1) := by decide +kernel
theorem dX8_noiseIn_1 : decode cX8_noiseIn 1 = .ok (.iload_n 1, 1) := by decide +kernel
theorem dX8_noiseIn_2 : decode cX8_noiseIn 2 = .ok (.invokevirtual 165, 3) := by decide +kernel
theorem dX8_noiseIn_5 : decode cX8_noiseIn 5 = .ok (.aload_n 0, 1) := by decide +kernel
theorem dX8_noiseIn_6 : decode cX8_noiseIn 6 = .ok (.getfield 10, 3) := by decide +kernel
theorem dX8_noiseIn_9 : decode cX8_noiseIn 9 = .ok (.iload_n 1, 1) := by decide +kernel
theorem dX8_noiseIn_10 : decode cX8_noiseIn 10 = .ok (.invokevirtual 172, 3) := by decide +kernel
theorem dX8_noiseIn_13 : decode cX8_noiseIn 13 = .ok (.ireturn, 1) := by decide +kernel
theorem dX8_demandBunk_0 : decode cX8_demandBunk 0 = .ok (.aload_n 0, 1) := by decide +kernel
theorem dX8_demandBunk_1 : decode cX8_demandBunk 1 = .ok (.getfield 10, 3) := by decide +kernel
theorem dX8_demandBunk_4 : decode cX8_demandBunk 4 = .ok (.iload_n 1, 1) := by decide +kernel
theorem dX8_demandBunk_5 : decode cX8_demandBunk 5 = .ok (.invokevirtual 188, 3) := by decide +kernel
theorem dX8_demandBunk_8 : decode cX8_demandBunk 8 = .ok (.ifCond .ne 13, 3) := by decide +kernel
theorem dX8_demandBunk_11 : decode cX8_demandBunk 11 = .ok (.new 191, 3) := by decide +kernel
theorem dX8_demandBunk_14 : decode cX8_demandBunk 14 = .ok (.dup, 1) := by decide +kernel
theorem dX8_demandBunk_15 : decode cX8_demandBunk 15 = .ok (.ldc 193, 2) := by decide +kernel
theorem dX8_demandBunk_17 : decode cX8_demandBunk 17 = .ok (.invokespecial 195, 3) := by decide +kernel
theorem dX8_demandBunk_20 : decode cX8_demandBunk 20 = .ok (.athrow, 1) := by decide +kernel
theorem dX8_demandBunk_21 : decode cX8_demandBunk 21 = .ok (.return_, 1) := by decide +kernel
theorem dX8_demandHiker_0 : decode cX8_demandHiker 0 = .ok (.aload_n 0, 1) := by decide +kernel
theorem dX8_demandHiker_1 : decode cX8_demandHiker 1 = .ok (.getfield 10, 3) := by decide +kernel
theorem dX8_demandHiker_4 : decode cX8_demandHiker 4 = .ok (.iload_n 1, 1) := by decide +kernel
theorem dX8_demandHiker_5 : decode cX8_demandHiker 5 = .ok (.invokevirtual 196, 3) := by decide +kernel
theorem dX8_demandHiker_8 : decode cX8_demandHiker 8 = .ok (.ifCond .ne 13, 3) := by decide +kernel
theorem dX8_demandHiker_11 : decode cX8_demandHiker 11 = .ok (.new 191, 3) := by decide +kernel
theorem dX8_demandHiker_14 : decode cX8_demandHiker 14 = .ok (.dup, 1) := by decide +kernel
theorem dX8_demandHiker_15 : decode cX8_demandHiker 15 = .ok (.ldc 199, 2) := by decide +kernel
theorem dX8_demandHiker_17 : decode cX8_demandHiker 17 = .ok (.invokespecial 195, 3) := by decide +kernel
theorem dX8_demandHiker_20 : decode cX8_demandHiker 20 = .ok (.athrow, 1) := by decide +kernel
theorem dX8_demandHiker_21 : decode cX8_demandHiker 21 = .ok (.return_, 1) := by decide +kernel
theorem dX8_userOf_0 : decode cX8_userOf 0 = .ok (.aload_n 0, 1) := by decide +kernel
theorem dX8_userOf_1 : decode cX8_userOf 1 = .ok (.getfield 10, 3) := by decide +kernel
theorem dX8_userOf_4 : decode cX8_userOf 4 = .ok (.iload_n 1, 1) := by decide +kernel
theorem dX8_userOf_5 : decode cX8_userOf 5 = .ok (.invokevirtual 201, 3) := by decide +kernel
theorem dX8_userOf_8 : decode cX8_userOf 8 = .ok (.ifCond .ne 13, 3) := by decide +kernel
theorem dX8_userOf_11 : decode cX8_userOf 11 = .ok (.new 191, 3) := by decide +kernel
theorem dX8_userOf_14 : decode cX8_userOf 14 = .ok (.dup, 1) := by decide +kernel
theorem dX8_userOf_15 : decode cX8_userOf 15 = .ok (.ldc 204, 2) := by decide +kernel
theorem dX8_userOf_17 : decode cX8_userOf 17 = .ok (.invokespecial 195, 3) := by decide +kernel
theorem dX8_userOf_20 : decode cX8_userOf 20 = .ok (.athrow, 1) := by decide +kernel
theorem dX8_userOf_21 : decode cX8_userOf 21 = .ok (.aload_n 0, 1) := by decide +kernel
theorem dX8_userOf_22 : decode cX8_userOf 22 = .ok (.getfield 10, 3) := by decide +kernel
theorem dX8_userOf_25 : decode cX8_userOf 25 = .ok (.iload_n 1, 1) := by decide +kernel
theorem dX8_userOf_26 : decode cX8_userOf 26 = .ok (.invokevirtual 206, 3) := by decide +kernel
theorem dX8_userOf_29 : decode cX8_userOf 29 = .ok (.ireturn, 1) := by decide +kernel
theorem dX8_bunkOf_0 : decode cX8_bunkOf 0 = .ok (.aload_n 0, 1) := by decide +kernel
theorem dX8_bunkOf_1 : decode cX8_bunkOf 1 = .ok (.iload_n 1, 1) := by decide +kernel
theorem dX8_bunkOf_2 : decode cX8_bunkOf 2 = .ok (.invokevirtual 181, 3) := by decide +kernel
theorem dX8_bunkOf_5 : decode cX8_bunkOf 5 = .ok (.aload_n 0, 1) := by decide +kernel
theorem dX8_bunkOf_6 : decode cX8_bunkOf 6 = .ok (.getfield 10, 3) := by decide +kernel
theorem dX8_bunkOf_9 : decode cX8_bunkOf 9 = .ok (.getfield 223, 3) := by decide +kernel
theorem dX8_bunkOf_12 : decode cX8_bunkOf 12 = .ok (.iload_n 1, 1) := by decide +kernel
theorem dX8_bunkOf_13 : decode cX8_bunkOf 13 = .ok (.aaload, 1) := by decide +kernel
theorem dX8_bunkOf_14 : decode cX8_bunkOf 14 = .ok (.getfield 227, 3) := by decide +kernel
theorem dX8_bunkOf_17 : decode cX8_bunkOf 17 = .ok (.ireturn, 1) := by decide +kernel
theorem dX8_blanketOf_0 : decode cX8_blanketOf 0 = .ok (.aload_n 0, 1) := by decide +kernel
theorem dX8_blanketOf_1 : decode cX8_blanketOf 1 = .ok (.iload_n 1, 1) := by decide +kernel
theorem dX8_blanketOf_2 : decode cX8_blanketOf 2 = .ok (.invokevirtual 181, 3) := by decide +kernel
theorem dX8_blanketOf_5 : decode cX8_blanketOf 5 = .ok (.aload_n 0, 1) := by decide +kernel
theorem dX8_blanketOf_6 : decode cX8_blanketOf 6 = .ok (.getfield 10, 3) := by decide +kernel
theorem dX8_blanketOf_9 : decode cX8_blanketOf 9 = .ok (.getfield 223, 3) := by decide +kernel
theorem dX8_blanketOf_12 : decode cX8_blanketOf 12 = .ok (.iload_n 1, 1) := by decide +kernel
theorem dX8_blanketOf_13 : decode cX8_blanketOf 13 = .ok (.aaload, 1) := by decide +kernel
theorem dX8_blanketOf_14 : decode cX8_blanketOf 14 = .ok (.getfield 232, 3) := by decide +kernel
theorem dX8_blanketOf_17 : decode cX8_blanketOf 17 = .ok (.ireturn, 1) := by decide +kernel
theorem dX8_warmth_0 : decode cX8_warmth 0 = .ok (.aload_n 0, 1) := by decide +kernel
theorem dX8_warmth_1 : decode cX8_warmth 1 = .ok (.iload_n 1, 1) := by decide +kernel
theorem dX8_warmth_2 : decode cX8_warmth 2 = .ok (.invokevirtual 181, 3) := by decide +kernel
theorem dX8_warmth_5 : decode cX8_warmth 5 = .ok (.aload_n 0, 1) := by decide +kernel
theorem dX8_warmth_6 : decode cX8_warmth 6 = .ok (.getfield 10, 3) := by decide +kernel
theorem dX8_warmth_9 : decode cX8_warmth 9 = .ok (.getfield 223, 3) := by decide +kernel
theorem dX8_warmth_12 : decode cX8_warmth 12 = .ok (.iload_n 1, 1) := by decide +kernel
theorem dX8_warmth_13 : decode cX8_warmth 13 = .ok (.aaload, 1) := by decide +kernel
theorem dX8_warmth_14 : decode cX8_warmth 14 = .ok (.getfield 235, 3) := by decide +kernel
theorem dX8_warmth_17 : decode cX8_warmth 17 = .ok (.ireturn, 1) := by decide +kernel
theorem dX8_activity_0 : decode cX8_activity 0 = .ok (.aload_n 0, 1) := by decide +kernel
theorem dX8_activity_1 : decode cX8_activity 1 = .ok (.iload_n 1, 1) := by decide +kernel
theorem dX8_activity_2 : decode cX8_activity 2 = .ok (.invokevirtual 181, 3) := by decide +kernel
theorem dX8_activity_5 : decode cX8_activity 5 = .ok (.aload_n 0, 1) := by decide +kernel
theorem dX8_activity_6 : decode cX8_activity 6 = .ok (.getfield 10, 3) := by decide +kernel
theorem dX8_activity_9 : decode cX8_activity 9 = .ok (.iload_n 1, 1) := by decide +kernel
theorem dX8_activity_10 : decode cX8_activity 10 = .ok (.invokevirtual 238, 3) := by decide +kernel
theorem dX8_activity_13 : decode cX8_activity 13 = .ok (.ireturn, 1) := by decide +kernel
theorem dX8_hoursOf_0 : decode cX8_hoursOf 0 = .ok (.aload_n 0, 1) := by decide +kernel
theorem dX8_hoursOf_1 : decode cX8_hoursOf 1 = .ok (.iload_n 1, 1) := by decide +kernel
theorem dX8_hoursOf_2 : decode cX8_hoursOf 2 = .ok (.invokevirtual 181, 3) := by decide +kernel
theorem dX8_hoursOf_5 : decode cX8_hoursOf 5 = .ok (.iload_n 2, 1) := by decide +kernel
theorem dX8_hoursOf_6 : decode cX8_hoursOf 6 = .ok (.iconst 0, 1) := by decide +kernel
theorem dX8_hoursOf_7 : decode cX8_hoursOf 7 = .ok (.iconst 3, 1) := by decide +kernel
theorem dX8_hoursOf_8 : decode cX8_hoursOf 8 = .ok (.invokestatic 100, 3) := by decide +kernel
theorem dX8_hoursOf_11 : decode cX8_hoursOf 11 = .ok (.ifCond .ne 13, 3) := by decide +kernel
theorem dX8_hoursOf_14 : decode cX8_hoursOf 14 = .ok (.new 104, 3) := by decide +kernel
theorem dX8_hoursOf_17 : decode cX8_hoursOf 17 = .ok (.dup, 1) := by decide +kernel
theorem dX8_hoursOf_18 : decode cX8_hoursOf 18 = .ok (.ldc 241, 2) := by decide +kernel
theorem dX8_hoursOf_20 : decode cX8_hoursOf 20 = .ok (.invokespecial 108, 3) := by decide +kernel
theorem dX8_hoursOf_23 : decode cX8_hoursOf 23 = .ok (.athrow, 1) := by decide +kernel
theorem dX8_hoursOf_24 : decode cX8_hoursOf 24 = .ok (.aload_n 0, 1) := by decide +kernel
theorem dX8_hoursOf_25 : decode cX8_hoursOf 25 = .ok (.getfield 10, 3) := by decide +kernel
theorem dX8_hoursOf_28 : decode cX8_hoursOf 28 = .ok (.getfield 223, 3) := by decide +kernel
theorem dX8_hoursOf_31 : decode cX8_hoursOf 31 = .ok (.iload_n 1, 1) := by decide +kernel
theorem dX8_hoursOf_32 : decode cX8_hoursOf 32 = .ok (.aaload, 1) := by decide +kernel
theorem dX8_hoursOf_33 : decode cX8_hoursOf 33 = .ok (.getfield 243, 3) := by decide +kernel
theorem dX8_hoursOf_36 : decode cX8_hoursOf 36 = .ok (.iload_n 2, 1) := by decide +kernel
theorem dX8_hoursOf_37 : decode cX8_hoursOf 37 = .ok (.iaload, 1) := by decide +kernel
theorem dX8_hoursOf_38 : decode cX8_hoursOf 38 = .ok (.ireturn, 1) := by decide +kernel
theorem dX8_coinsOf_0 : decode cX8_coinsOf 0 = .ok (.aload_n 0, 1) := by decide +kernel
theorem dX8_coinsOf_1 : decode cX8_coinsOf 1 = .ok (.iload_n 1, 1) := by decide +kernel
theorem dX8_coinsOf_2 : decode cX8_coinsOf 2 = .ok (.invokevirtual 181, 3) := by decide +kernel
theorem dX8_coinsOf_5 : decode cX8_coinsOf 5 = .ok (.aload_n 0, 1) := by decide +kernel
theorem dX8_coinsOf_6 : decode cX8_coinsOf 6 = .ok (.getfield 10, 3) := by decide +kernel
theorem dX8_coinsOf_9 : decode cX8_coinsOf 9 = .ok (.getfield 223, 3) := by decide +kernel
theorem dX8_coinsOf_12 : decode cX8_coinsOf 12 = .ok (.iload_n 1, 1) := by decide +kernel
theorem dX8_coinsOf_13 : decode cX8_coinsOf 13 = .ok (.aaload, 1) := by decide +kernel
theorem dX8_coinsOf_14 : decode cX8_coinsOf 14 = .ok (.getfield 246, 3) := by decide +kernel
theorem dX8_coinsOf_17 : decode cX8_coinsOf 17 = .ok (.ireturn, 1) := by decide +kernel
theorem dX8_debtOf_0 : decode cX8_debtOf 0 = .ok (.aload_n 0, 1) := by decide +kernel
theorem dX8_debtOf_1 : decode cX8_debtOf 1 = .ok (.iload_n 1, 1) := by decide +kernel
theorem dX8_debtOf_2 : decode cX8_debtOf 2 = .ok (.invokevirtual 181, 3) := by decide +kernel
theorem dX8_debtOf_5 : decode cX8_debtOf 5 = .ok (.aload_n 0, 1) := by decide +kernel
theorem dX8_debtOf_6 : decode cX8_debtOf 6 = .ok (.getfield 10, 3) := by decide +kernel
theorem dX8_debtOf_9 : decode cX8_debtOf 9 = .ok (.getfield 223, 3) := by decide +kernel
theorem dX8_debtOf_12 : decode cX8_debtOf 12 = .ok (.iload_n 1, 1) := by decide +kernel
theorem dX8_debtOf_13 : decode cX8_debtOf 13 = .ok (.aaload, 1) := by decide +kernel
theorem dX8_debtOf_14 : decode cX8_debtOf 14 = .ok (.getfield 249, 3) := by decide +kernel
theorem dX8_debtOf_17 : decode cX8_debtOf 17 = .ok (.ireturn, 1) := by decide +kernel
theorem dX8_hikerAtRank_0 : decode cX8_hikerAtRank 0 = .ok (.aload_n 0, 1) := by decide +kernel
theorem dX8_hikerAtRank_1 : decode cX8_hikerAtRank 1 = .ok (.getfield 10, 3) := by decide +kernel
theorem dX8_hikerAtRank_4 : decode cX8_hikerAtRank 4 = .ok (.iload_n 1, 1) := by decide +kernel
theorem dX8_hikerAtRank_5 : decode cX8_hikerAtRank 5 = .ok (.invokevirtual 252, 3) := by decide +kernel
theorem dX8_hikerAtRank_8 : decode cX8_hikerAtRank 8 = .ok (.istore_n 2, 1) := by decide +kernel
theorem dX8_hikerAtRank_9 : decode cX8_hikerAtRank 9 = .ok (.iload_n 2, 1) := by decide +kernel
theorem dX8_hikerAtRank_10 : decode cX8_hikerAtRank 10 = .ok (.iconst (-1), 1) := by decide +kernel
theorem dX8_hikerAtRank_11 : decode cX8_hikerAtRank 11 = .ok (.if_icmp .ne 13, 3) := by decide +kernel
theorem dX8_hikerAtRank_14 : decode cX8_hikerAtRank 14 = .ok (.new 212, 3) := by decide +kernel
theorem dX8_hikerAtRank_17 : decode cX8_hikerAtRank 17 = .ok (.dup, 1) := by decide +kernel
theorem dX8_hikerAtRank_18 : decode cX8_hikerAtRank 18 = .ok (.ldc 214, 2) := by decide +kernel
theorem dX8_hikerAtRank_20 : decode cX8_hikerAtRank 20 = .ok (.invokespecial 216, 3) := by decide +kernel
theorem dX8_hikerAtRank_23 : decode cX8_hikerAtRank 23 = .ok (.athrow, 1) := by decide +kernel
theorem dX8_hikerAtRank_24 : decode cX8_hikerAtRank 24 = .ok (.iload_n 2, 1) := by decide +kernel
theorem dX8_hikerAtRank_25 : decode cX8_hikerAtRank 25 = .ok (.ireturn, 1) := by decide +kernel
theorem dX8_hikersWithout_0 : decode cX8_hikersWithout 0 = .ok (.aload_n 0, 1) := by decide +kernel
theorem dX8_hikersWithout_1 : decode cX8_hikersWithout 1 = .ok (.getfield 10, 3) := by decide +kernel
theorem dX8_hikersWithout_4 : decode cX8_hikersWithout 4 = .ok (.invokevirtual 259, 3) := by decide +kernel
theorem dX8_hikersWithout_7 : decode cX8_hikersWithout 7 = .ok (.ireturn, 1) := by decide +kernel
theorem dX8_coldHikers_0 : decode cX8_coldHikers 0 = .ok (.aload_n 0, 1) := by decide +kernel
theorem dX8_coldHikers_1 : decode cX8_coldHikers 1 = .ok (.getfield 10, 3) := by decide +kernel
theorem dX8_coldHikers_4 : decode cX8_coldHikers 4 = .ok (.invokevirtual 262, 3) := by decide +kernel
theorem dX8_coldHikers_7 : decode cX8_coldHikers 7 = .ok (.ireturn, 1) := by decide +kernel
theorem dX8_hutCoins_0 : decode cX8_hutCoins 0 = .ok (.aload_n 0, 1) := by decide +kernel
theorem dX8_hutCoins_1 : decode cX8_hutCoins 1 = .ok (.getfield 10, 3) := by decide +kernel
theorem dX8_hutCoins_4 : decode cX8_hutCoins 4 = .ok (.getfield 277, 3) := by decide +kernel
theorem dX8_hutCoins_7 : decode cX8_hutCoins 7 = .ok (.ireturn, 1) := by decide +kernel
theorem dX8_burnedLogs_0 : decode cX8_burnedLogs 0 = .ok (.aload_n 0, 1) := by decide +kernel
theorem dX8_burnedLogs_1 : decode cX8_burnedLogs 1 = .ok (.getfield 10, 3) := by decide +kernel
theorem dX8_burnedLogs_4 : decode cX8_burnedLogs 4 = .ok (.getfield 280, 3) := by decide +kernel
theorem dX8_burnedLogs_7 : decode cX8_burnedLogs 7 = .ok (.ireturn, 1) := by decide +kernel
theorem dX8_totalDebt_0 : decode cX8_totalDebt 0 = .ok (.aload_n 0, 1) := by decide +kernel
theorem dX8_totalDebt_1 : decode cX8_totalDebt 1 = .ok (.getfield 10, 3) := by decide +kernel
theorem dX8_totalDebt_4 : decode cX8_totalDebt 4 = .ok (.invokevirtual 283, 3) := by decide +kernel
theorem dX8_totalDebt_7 : decode cX8_totalDebt 7 = .ok (.ireturn, 1) := by decide +kernel
theorem dX8_auditDifference_0 : decode cX8_auditDifference 0 = .ok (.aload_n 0, 1) := by decide +kernel
theorem dX8_auditDifference_1 : decode cX8_auditDifference 1 = .ok (.getfield 10, 3) := by decide +kernel
theorem dX8_auditDifference_4 : decode cX8_auditDifference 4 = .ok (.getfield 286, 3) := by decide +kernel
theorem dX8_auditDifference_7 : decode cX8_auditDifference 7 = .ok (.aload_n 0, 1) := by decide +kernel
theorem dX8_auditDifference_8 : decode cX8_auditDifference 8 = .ok (.getfield 10, 3) := by decide +kernel
theorem dX8_auditDifference_11 : decode cX8_auditDifference 11 = .ok (.getfield 277, 3) := by decide +kernel
theorem dX8_auditDifference_14 : decode cX8_auditDifference 14 = .ok (.isub, 1) := by decide +kernel
theorem dX8_auditDifference_15 : decode cX8_auditDifference 15 = .ok (.aload_n 0, 1) := by decide +kernel
theorem dX8_auditDifference_16 : decode cX8_auditDifference 16 = .ok (.getfield 10, 3) := by decide +kernel
theorem dX8_auditDifference_19 : decode cX8_auditDifference 19 = .ok (.invokevirtual 289, 3) := by decide +kernel
theorem dX8_auditDifference_22 : decode cX8_auditDifference 22 = .ok (.isub, 1) := by decide +kernel
theorem dX8_auditDifference_23 : decode cX8_auditDifference 23 = .ok (.invokestatic 292, 3) := by decide +kernel
theorem dX8_auditDifference_26 : decode cX8_auditDifference 26 = .ok (.aload_n 0, 1) := by decide +kernel
theorem dX8_auditDifference_27 : decode cX8_auditDifference 27 = .ok (.getfield 10, 3) := by decide +kernel
theorem dX8_auditDifference_30 : decode cX8_auditDifference 30 = .ok (.getfield 297, 3) := by decide +kernel
theorem dX8_auditDifference_33 : decode cX8_auditDifference 33 = .ok (.aload_n 0, 1) := by decide +kernel
theorem dX8_auditDifference_34 : decode cX8_auditDifference 34 = .ok (.getfield 10, 3) := by decide +kernel
theorem dX8_auditDifference_37 : decode cX8_auditDifference 37 = .ok (.getfield 159, 3) := by decide +kernel
theorem dX8_auditDifference_40 : decode cX8_auditDifference 40 = .ok (.isub, 1) := by decide +kernel
theorem dX8_auditDifference_41 : decode cX8_auditDifference 41 = .ok (.aload_n 0, 1) := by decide +kernel
theorem dX8_auditDifference_42 : decode cX8_auditDifference 42 = .ok (.getfield 10, 3) := by decide +kernel
theorem dX8_auditDifference_45 : decode cX8_auditDifference 45 = .ok (.getfield 280, 3) := by decide +kernel
theorem dX8_auditDifference_48 : decode cX8_auditDifference 48 = .ok (.isub, 1) := by decide +kernel
theorem dX8_auditDifference_49 : decode cX8_auditDifference 49 = .ok (.invokestatic 292, 3) := by decide +kernel
theorem dX8_auditDifference_52 : decode cX8_auditDifference 52 = .ok (.iadd, 1) := by decide +kernel
theorem dX8_auditDifference_53 : decode cX8_auditDifference 53 = .ok (.aload_n 0, 1) := by decide +kernel
theorem dX8_auditDifference_54 : decode cX8_auditDifference 54 = .ok (.getfield 10, 3) := by decide +kernel
theorem dX8_auditDifference_57 : decode cX8_auditDifference 57 = .ok (.invokevirtual 300, 3) := by decide +kernel
theorem dX8_auditDifference_60 : decode cX8_auditDifference 60 = .ok (.iadd, 1) := by decide +kernel
theorem dX8_auditDifference_61 : decode cX8_auditDifference 61 = .ok (.ireturn, 1) := by decide +kernel
theorem dX8_meanWarmth_0 : decode cX8_meanWarmth 0 = .ok (.aload_n 0, 1) := by decide +kernel
theorem dX8_meanWarmth_1 : decode cX8_meanWarmth 1 = .ok (.getfield 10, 3) := by decide +kernel
theorem dX8_meanWarmth_4 : decode cX8_meanWarmth 4 = .ok (.getfield 116, 3) := by decide +kernel
theorem dX8_meanWarmth_7 : decode cX8_meanWarmth 7 = .ok (.istore_n 1, 1) := by decide +kernel
theorem dX8_meanWarmth_8 : decode cX8_meanWarmth 8 = .ok (.iload_n 1, 1) := by decide +kernel
theorem dX8_meanWarmth_9 : decode cX8_meanWarmth 9 = .ok (.iconst 1, 1) := by decide +kernel
theorem dX8_meanWarmth_10 : decode cX8_meanWarmth 10 = .ok (.if_icmp .ge 7, 3) := by decide +kernel
theorem dX8_meanWarmth_13 : decode cX8_meanWarmth 13 = .ok (.dconst 0, 1) := by decide +kernel
theorem dX8_meanWarmth_14 : decode cX8_meanWarmth 14 = .ok (.goto 14, 3) := by decide +kernel
theorem dX8_meanWarmth_17 : decode cX8_meanWarmth 17 = .ok (.aload_n 0, 1) := by decide +kernel
theorem dX8_meanWarmth_18 : decode cX8_meanWarmth 18 = .ok (.getfield 10, 3) := by decide +kernel
theorem dX8_meanWarmth_21 : decode cX8_meanWarmth 21 = .ok (.invokevirtual 303, 3) := by decide +kernel
theorem dX8_meanWarmth_24 : decode cX8_meanWarmth 24 = .ok (.i2d, 1) := by decide +kernel
theorem dX8_meanWarmth_25 : decode cX8_meanWarmth 25 = .ok (.iload_n 1, 1) := by decide +kernel
theorem dX8_meanWarmth_26 : decode cX8_meanWarmth 26 = .ok (.i2d, 1) := by decide +kernel
theorem dX8_meanWarmth_27 : decode cX8_meanWarmth 27 = .ok (.ddiv, 1) := by decide +kernel
theorem dX8_meanWarmth_28 : decode cX8_meanWarmth 28 = .ok (.dreturn, 1) := by decide +kernel
theorem dX8_sleepShare_0 : decode cX8_sleepShare 0 = .ok (.aload_n 0, 1) := by decide +kernel
theorem dX8_sleepShare_1 : decode cX8_sleepShare 1 = .ok (.getfield 10, 3) := by decide +kernel
theorem dX8_sleepShare_4 : decode cX8_sleepShare 4 = .ok (.getfield 152, 3) := by decide +kernel
theorem dX8_sleepShare_7 : decode cX8_sleepShare 7 = .ok (.aload_n 0, 1) := by decide +kernel
theorem dX8_sleepShare_8 : decode cX8_sleepShare 8 = .ok (.getfield 10, 3) := by decide +kernel
theorem dX8_sleepShare_11 : decode cX8_sleepShare 11 = .ok (.getfield 116, 3) := by decide +kernel
theorem dX8_sleepShare_14 : decode cX8_sleepShare 14 = .ok (.imul, 1) := by decide +kernel
theorem dX8_sleepShare_15 : decode cX8_sleepShare 15 = .ok (.istore_n 1, 1) := by decide +kernel
theorem dX8_sleepShare_16 : decode cX8_sleepShare 16 = .ok (.iload_n 1, 1) := by decide +kernel
theorem dX8_sleepShare_17 : decode cX8_sleepShare 17 = .ok (.iconst 1, 1) := by decide +kernel
theorem dX8_sleepShare_18 : decode cX8_sleepShare 18 = .ok (.if_icmp .ge 7, 3) := by decide +kernel
theorem dX8_sleepShare_21 : decode cX8_sleepShare 21 = .ok (.fconst 0, 1) := by decide +kernel
theorem dX8_sleepShare_22 : decode cX8_sleepShare 22 = .ok (.goto 15, 3) := by decide +kernel
theorem dX8_sleepShare_25 : decode cX8_sleepShare 25 = .ok (.aload_n 0, 1) := by decide +kernel
theorem dX8_sleepShare_26 : decode cX8_sleepShare 26 = .ok (.getfield 10, 3) := by decide +kernel
theorem dX8_sleepShare_29 : decode cX8_sleepShare 29 = .ok (.iconst 2, 1) := by decide +kernel
theorem dX8_sleepShare_30 : decode cX8_sleepShare 30 = .ok (.invokevirtual 306, 3) := by decide +kernel
theorem dX8_sleepShare_33 : decode cX8_sleepShare 33 = .ok (.i2f, 1) := by decide +kernel
theorem dX8_sleepShare_34 : decode cX8_sleepShare 34 = .ok (.iload_n 1, 1) := by decide +kernel
theorem dX8_sleepShare_35 : decode cX8_sleepShare 35 = .ok (.i2f, 1) := by decide +kernel
theorem dX8_sleepShare_36 : decode cX8_sleepShare 36 = .ok (.fdiv, 1) := by decide +kernel
theorem dX8_sleepShare_37 : decode cX8_sleepShare 37 = .ok (.freturn, 1) := by decide +kernel
theorem dX8_takeBlanket_0 : decode cX8_takeBlanket 0 = .ok (.aload_n 0, 1) := by decide +kernel
theorem dX8_takeBlanket_1 : decode cX8_takeBlanket 1 = .ok (.iconst 0, 1) := by decide +kernel
theorem dX8_takeBlanket_2 : decode cX8_takeBlanket 2 = .ok (.iload_n 1, 1) := by decide +kernel
theorem dX8_takeBlanket_3 : decode cX8_takeBlanket 3 = .ok (.iload_n 2, 1) := by decide +kernel
theorem dX8_takeBlanket_4 : decode cX8_takeBlanket 4 = .ok (.invokevirtual 339, 3) := by decide +kernel
theorem dX8_takeBlanket_7 : decode cX8_takeBlanket 7 = .ok (.ireturn, 1) := by decide +kernel
theorem dX8_returnBlanket_0 : decode cX8_returnBlanket 0 = .ok (.aload_n 0, 1) := by decide +kernel
theorem dX8_returnBlanket_1 : decode cX8_returnBlanket 1 = .ok (.iconst 1, 1) := by decide +kernel
theorem dX8_returnBlanket_2 : decode cX8_returnBlanket 2 = .ok (.iload_n 1, 1) := by decide +kernel
theorem dX8_returnBlanket_3 : decode cX8_returnBlanket 3 = .ok (.iconst 0, 1) := by decide +kernel
theorem dX8_returnBlanket_4 : decode cX8_returnBlanket 4 = .ok (.invokevirtual 339, 3) := by decide +kernel
theorem dX8_returnBlanket_7 : decode cX8_returnBlanket 7 = .ok (.ireturn, 1) := by decide +kernel
theorem dX8_swapBlankets_0 : decode cX8_swapBlankets 0 = .ok (.aload_n 0, 1) := by decide +kernel
theorem dX8_swapBlankets_1 : decode cX8_swapBlankets 1 = .ok (.iconst 2, 1) := by decide +kernel
theorem dX8_swapBlankets_2 : decode cX8_swapBlankets 2 = .ok (.iload_n 1, 1) := by decide +kernel
theorem dX8_swapBlankets_3 : decode cX8_swapBlankets 3 = .ok (.iload_n 2, 1) := by decide +kernel
theorem dX8_swapBlankets_4 : decode cX8_swapBlankets 4 = .ok (.invokevirtual 339, 3) := by decide +kernel
theorem dX8_swapBlankets_7 : decode cX8_swapBlankets 7 = .ok (.ireturn, 1) := by decide +kernel
theorem dX8_lieDown_0 : decode cX8_lieDown 0 = .ok (.aload_n 0, 1) := by decide +kernel
theorem dX8_lieDown_1 : decode cX8_lieDown 1 = .ok (.iconst 3, 1) := by decide +kernel
theorem dX8_lieDown_2 : decode cX8_lieDown 2 = .ok (.iload_n 1, 1) := by decide +kernel
theorem dX8_lieDown_3 : decode cX8_lieDown 3 = .ok (.iload_n 2, 1) := by decide +kernel
theorem dX8_lieDown_4 : decode cX8_lieDown 4 = .ok (.invokevirtual 339, 3) := by decide +kernel
theorem dX8_lieDown_7 : decode cX8_lieDown 7 = .ok (.ireturn, 1) := by decide +kernel
theorem dX8_getUp_0 : decode cX8_getUp 0 = .ok (.aload_n 0, 1) := by decide +kernel
theorem dX8_getUp_1 : decode cX8_getUp 1 = .ok (.iconst 4, 1) := by decide +kernel
theorem dX8_getUp_2 : decode cX8_getUp 2 = .ok (.iload_n 1, 1) := by decide +kernel
theorem dX8_getUp_3 : decode cX8_getUp 3 = .ok (.iconst 0, 1) := by decide +kernel
theorem dX8_getUp_4 : decode cX8_getUp 4 = .ok (.invokevirtual 339, 3) := by decide +kernel
theorem dX8_getUp_7 : decode cX8_getUp 7 = .ok (.ireturn, 1) := by decide +kernel
theorem dX8_setRate_0 : decode cX8_setRate 0 = .ok (.aload_n 0, 1) := by decide +kernel
theorem dX8_setRate_1 : decode cX8_setRate 1 = .ok (.iconst 5, 1) := by decide +kernel
theorem dX8_setRate_2 : decode cX8_setRate 2 = .ok (.iload_n 1, 1) := by decide +kernel
theorem dX8_setRate_3 : decode cX8_setRate 3 = .ok (.iconst 0, 1) := by decide +kernel
theorem dX8_setRate_4 : decode cX8_setRate 4 = .ok (.invokevirtual 339, 3) := by decide +kernel
theorem dX8_setRate_7 : decode cX8_setRate 7 = .ok (.ireturn, 1) := by decide +kernel
theorem dX8_fetchLogs_0 : decode cX8_fetchLogs 0 = .ok (.aload_n 0, 1) := by decide +kernel
theorem dX8_fetchLogs_1 : decode cX8_fetchLogs 1 = .ok (.bipush 6, 2) := by decide +kernel
theorem dX8_fetchLogs_3 : decode cX8_fetchLogs 3 = .ok (.iload_n 1, 1) := by decide +kernel
theorem dX8_fetchLogs_4 : decode cX8_fetchLogs 4 = .ok (.iconst 0, 1) := by decide +kernel
theorem dX8_fetchLogs_5 : decode cX8_fetchLogs 5 = .ok (.invokevirtual 339, 3) := by decide +kernel
theorem dX8_fetchLogs_8 : decode cX8_fetchLogs 8 = .ok (.ireturn, 1) := by decide +kernel
theorem dX8_payDebt_0 : decode cX8_payDebt 0 = .ok (.aload_n 0, 1) := by decide +kernel
theorem dX8_payDebt_1 : decode cX8_payDebt 1 = .ok (.bipush 7, 2) := by decide +kernel
theorem dX8_payDebt_3 : decode cX8_payDebt 3 = .ok (.iload_n 1, 1) := by decide +kernel
theorem dX8_payDebt_4 : decode cX8_payDebt 4 = .ok (.iload_n 2, 1) := by decide +kernel
theorem dX8_payDebt_5 : decode cX8_payDebt 5 = .ok (.invokevirtual 339, 3) := by decide +kernel
theorem dX8_payDebt_8 : decode cX8_payDebt 8 = .ok (.ireturn, 1) := by decide +kernel
theorem dX8_passHours_0 : decode cX8_passHours 0 = .ok (.aload_n 0, 1) := by decide +kernel
theorem dX8_passHours_1 : decode cX8_passHours 1 = .ok (.bipush 8, 2) := by decide +kernel
theorem dX8_passHours_3 : decode cX8_passHours 3 = .ok (.iload_n 1, 1) := by decide +kernel
theorem dX8_passHours_4 : decode cX8_passHours 4 = .ok (.iconst 0, 1) := by decide +kernel
theorem dX8_passHours_5 : decode cX8_passHours 5 = .ok (.invokevirtual 339, 3) := by decide +kernel
theorem dX8_passHours_8 : decode cX8_passHours 8 = .ok (.ireturn, 1) := by decide +kernel
theorem dX8_act_0 : decode cX8_act 0 = .ok (.aload_n 0, 1) := by decide +kernel
theorem dX8_act_1 : decode cX8_act 1 = .ok (.getfield 10, 3) := by decide +kernel
theorem dX8_act_4 : decode cX8_act 4 = .ok (.iload_n 1, 1) := by decide +kernel
theorem dX8_act_5 : decode cX8_act 5 = .ok (.iload_n 2, 1) := by decide +kernel
theorem dX8_act_6 : decode cX8_act 6 = .ok (.iload_n 3, 1) := by decide +kernel
theorem dX8_act_7 : decode cX8_act 7 = .ok (.invokevirtual 136, 3) := by decide +kernel
theorem dX8_act_10 : decode cX8_act 10 = .ok (.invokestatic 342, 3) := by decide +kernel
theorem dX8_act_13 : decode cX8_act 13 = .ok (.aload_n 0, 1) := by decide +kernel
theorem dX8_act_14 : decode cX8_act 14 = .ok (.getfield 29, 3) := by decide +kernel
theorem dX8_act_17 : decode cX8_act 17 = .ok (.aload_n 0, 1) := by decide +kernel
theorem dX8_act_18 : decode cX8_act 18 = .ok (.getfield 10, 3) := by decide +kernel
theorem dX8_act_21 : decode cX8_act 21 = .ok (.invokevirtual 140, 3) := by decide +kernel
theorem dX8_act_24 : decode cX8_act 24 = .ok (.aload_n 0, 1) := by decide +kernel
theorem dX8_act_25 : decode cX8_act 25 = .ok (.getfield 10, 3) := by decide +kernel
theorem dX8_act_28 : decode cX8_act 28 = .ok (.iload_n 1, 1) := by decide +kernel
theorem dX8_act_29 : decode cX8_act 29 = .ok (.iload_n 2, 1) := by decide +kernel
theorem dX8_act_30 : decode cX8_act 30 = .ok (.iload_n 3, 1) := by decide +kernel
theorem dX8_act_31 : decode cX8_act 31 = .ok (.invokevirtual 143, 3) := by decide +kernel
theorem dX8_act_34 : decode cX8_act 34 = .ok (.ireturn, 1) := by decide +kernel
theorem dX8_refuse_0 : decode cX8_refuse 0 = .ok (.iload_n 0, 1) := by decide +kernel
theorem dX8_refuse_1 : decode cX8_refuse 1 = .ok (.iconst 1, 1) := by decide +kernel
theorem dX8_refuse_2 : decode cX8_refuse 2 = .ok (.if_icmp .ne 14, 3) := by decide +kernel
theorem dX8_refuse_5 : decode cX8_refuse 5 = .ok (.new 191, 3) := by decide +kernel
theorem dX8_refuse_8 : decode cX8_refuse 8 = .ok (.dup, 1) := by decide +kernel
theorem dX8_refuse_9 : decode cX8_refuse 9 = .ok (.ldc_w 345, 3) := by decide +kernel
theorem dX8_refuse_12 : decode cX8_refuse 12 = .ok (.invokespecial 195, 3) := by decide +kernel
theorem dX8_refuse_15 : decode cX8_refuse 15 = .ok (.athrow, 1) := by decide +kernel
theorem dX8_refuse_16 : decode cX8_refuse 16 = .ok (.iload_n 0, 1) := by decide +kernel
theorem dX8_refuse_17 : decode cX8_refuse 17 = .ok (.iconst 2, 1) := by decide +kernel
theorem dX8_refuse_18 : decode cX8_refuse 18 = .ok (.if_icmp .ne 14, 3) := by decide +kernel
theorem dX8_refuse_21 : decode cX8_refuse 21 = .ok (.new 104, 3) := by decide +kernel
theorem dX8_refuse_24 : decode cX8_refuse 24 = .ok (.dup, 1) := by decide +kernel
theorem dX8_refuse_25 : decode cX8_refuse 25 = .ok (.ldc_w 347, 3) := by decide +kernel
theorem dX8_refuse_28 : decode cX8_refuse 28 = .ok (.invokespecial 108, 3) := by decide +kernel
theorem dX8_refuse_31 : decode cX8_refuse 31 = .ok (.athrow, 1) := by decide +kernel
theorem dX8_refuse_32 : decode cX8_refuse 32 = .ok (.iload_n 0, 1) := by decide +kernel
theorem dX8_refuse_33 : decode cX8_refuse 33 = .ok (.iconst 3, 1) := by decide +kernel
theorem dX8_refuse_34 : decode cX8_refuse 34 = .ok (.if_icmp .ne 14, 3) := by decide +kernel
theorem dX8_refuse_37 : decode cX8_refuse 37 = .ok (.new 90, 3) := by decide +kernel
theorem dX8_refuse_40 : decode cX8_refuse 40 = .ok (.dup, 1) := by decide +kernel
theorem dX8_refuse_41 : decode cX8_refuse 41 = .ok (.ldc_w 349, 3) := by decide +kernel
theorem dX8_refuse_44 : decode cX8_refuse 44 = .ok (.invokespecial 94, 3) := by decide +kernel
theorem dX8_refuse_47 : decode cX8_refuse 47 = .ok (.athrow, 1) := by decide +kernel
theorem dX8_refuse_48 : decode cX8_refuse 48 = .ok (.return_, 1) := by decide +kernel
theorem dX8_undo_0 : decode cX8_undo 0 = .ok (.aload_n 0, 1) := by decide +kernel
theorem dX8_undo_1 : decode cX8_undo 1 = .ok (.getfield 29, 3) := by decide +kernel
theorem dX8_undo_4 : decode cX8_undo 4 = .ok (.getfield 375, 3) := by decide +kernel
theorem dX8_undo_7 : decode cX8_undo 7 = .ok (.iconst 1, 1) := by decide +kernel
theorem dX8_undo_8 : decode cX8_undo 8 = .ok (.if_icmp .ge 14, 3) := by decide +kernel
theorem dX8_undo_11 : decode cX8_undo 11 = .ok (.new 90, 3) := by decide +kernel
theorem dX8_undo_14 : decode cX8_undo 14 = .ok (.dup, 1) := by decide +kernel
theorem dX8_undo_15 : decode cX8_undo 15 = .ok (.ldc_w 378, 3) := by decide +kernel
theorem dX8_undo_18 : decode cX8_undo 18 = .ok (.invokespecial 94, 3) := by decide +kernel
theorem dX8_undo_21 : decode cX8_undo 21 = .ok (.athrow, 1) := by decide +kernel
theorem dX8_undo_22 : decode cX8_undo 22 = .ok (.aload_n 0, 1) := by decide +kernel
theorem dX8_undo_23 : decode cX8_undo 23 = .ok (.getfield 29, 3) := by decide +kernel
theorem dX8_undo_26 : decode cX8_undo 26 = .ok (.aload_n 0, 1) := by decide +kernel
theorem dX8_undo_27 : decode cX8_undo 27 = .ok (.getfield 10, 3) := by decide +kernel
theorem dX8_undo_30 : decode cX8_undo 30 = .ok (.invokevirtual 380, 3) := by decide +kernel
theorem dX8_undo_33 : decode cX8_undo 33 = .ok (.aload_n 0, 1) := by decide +kernel
theorem dX8_undo_34 : decode cX8_undo 34 = .ok (.getfield 29, 3) := by decide +kernel
theorem dX8_undo_37 : decode cX8_undo 37 = .ok (.getfield 375, 3) := by decide +kernel
theorem dX8_undo_40 : decode cX8_undo 40 = .ok (.ireturn, 1) := by decide +kernel
theorem dX9_init_0 : decode cX9_init 0 = .ok (.aload_n 0, 1) := by decide +kernel
theorem dX9_init_1 : decode cX9_init 1 = .ok (.invokespecial 1, 3) := by decide +kernel
theorem dX9_init_4 : decode cX9_init 4 = .ok (.aload_n 0, 1) := by decide +kernel
theorem dX9_init_5 : decode cX9_init 5 = .ok (.iconst (-1), 1) := by decide +kernel
theorem dX9_init_6 : decode cX9_init 6 = .ok (.putfield 7, 3) := by decide +kernel
theorem dX9_init_9 : decode cX9_init 9 = .ok (.aload_n 0, 1) := by decide +kernel
theorem dX9_init_10 : decode cX9_init 10 = .ok (.iconst (-1), 1) := by decide +kernel
theorem dX9_init_11 : decode cX9_init 11 = .ok (.putfield 13, 3) := by decide +kernel
theorem dX9_init_14 : decode cX9_init 14 = .ok (.aload_n 0, 1) := by decide +kernel
theorem dX9_init_15 : decode cX9_init 15 = .ok (.iconst 4, 1) := by decide +kernel
theorem dX9_init_16 : decode cX9_init 16 = .ok (.newarray .int, 2) := by decide +kernel
theorem dX9_init_18 : decode cX9_init 18 = .ok (.putfield 16, 3) := by decide +kernel
theorem dX9_init_21 : decode cX9_init 21 = .ok (.return_, 1) := by decide +kernel
end
section
theorem dJ5_init_d00df_0 : decode cJ5_init_d00df 0 = .ok (.aload_n 0, 1) := by decide +kernel
theorem dJ5_init_d00df_1 : decode cJ5_init_d00df 1 = .ok (.invokespecial 3, 3) := by decide +kernel
theorem dJ5_init_d00df_4 : decode cJ5_init_d00df 4 = .ok (.getstatic 18, 3) := by decide +kernel
theorem dJ5_init_d00df_7 : decode cJ5_init_d00df 7 = .ok (.ifCond .eq 18, 3) := by decide +kernel
theorem dJ5_init_d00df_10 : decode cJ5_init_d00df 10 = .ok (.aload_n 0, 1) := by decide +kernel
theorem dJ5_init_d00df_11 : decode cJ5_init_d00df 11 = .ok (.iload_n 1, 1) := by decide +kernel
theorem dJ5_init_d00df_12 : decode cJ5_init_d00df 12 = .ok (.newarray .byte, 2) := by decide +kernel
theorem dJ5_init_d00df_14 : decode cJ5_init_d00df 14 = .ok (.putfield 15, 3) := by decide +kernel
theorem dJ5_init_d00df_17 : decode cJ5_init_d00df 17 = .ok (.aload_n 0, 1) := by decide +kernel
theorem dJ5_init_d00df_18 : decode cJ5_init_d00df 18 = .ok (.iconst 0, 1) := by decide +kernel
theorem dJ5_init_d00df_19 : decode cJ5_init_d00df 19 = .ok (.putfield 22, 3) := by decide +kernel
theorem dJ5_init_d00df_22 : decode cJ5_init_d00df 22 = .ok (.goto 16, 3) := by decide +kernel
theorem dJ5_init_d00df_25 : decode cJ5_init_d00df 25 = .ok (.aload_n 0, 1) := by decide +kernel
theorem dJ5_init_d00df_26 : decode cJ5_init_d00df 26 = .ok (.iload_n 1, 1) := by decide +kernel
theorem dJ5_init_d00df_27 : decode cJ5_init_d00df 27 = .ok (.invokestatic 26, 3) := by decide +kernel
theorem dJ5_init_d00df_30 : decode cJ5_init_d00df 30 = .ok (.putfield 15, 3) := by decide +kernel
theorem dJ5_init_d00df_33 : decode cJ5_init_d00df 33 = .ok (.aload_n 0, 1) := by decide +kernel
theorem dJ5_init_d00df_34 : decode cJ5_init_d00df 34 = .ok (.iconst 1, 1) := by decide +kernel
theorem dJ5_init_d00df_35 : decode cJ5_init_d00df 35 = .ok (.putfield 22, 3) := by decide +kernel
theorem dJ5_init_d00df_38 : decode cJ5_init_d00df 38 = .ok (.return_, 1) := by decide +kernel
theorem dJ5_init_a7421_0 : decode cJ5_init_a7421 0 = .ok (.aload_n 0, 1) := by decide +kernel
theorem dJ5_init_a7421_1 : decode cJ5_init_a7421 1 = .ok (.invokespecial 3, 3) := by decide +kernel
theorem dJ5_init_a7421_4 : decode cJ5_init_a7421 4 = .ok (.aload_n 1, 1) := by decide +kernel
theorem dJ5_init_a7421_5 : decode cJ5_init_a7421 5 = .ok (.invokevirtual 32, 3) := by decide +kernel
theorem dJ5_init_a7421_8 : decode cJ5_init_a7421 8 = .ok (.istore_n 2, 1) := by decide +kernel
theorem dJ5_init_a7421_9 : decode cJ5_init_a7421 9 = .ok (.iload_n 2, 1) := by decide +kernel
theorem dJ5_init_a7421_10 : decode cJ5_init_a7421 10 = .ok (.ldc 38, 2) := by decide +kernel
theorem dJ5_init_a7421_12 : decode cJ5_init_a7421 12 = .ok (.if_icmp .ge 10, 3) := by decide +kernel
theorem dJ5_init_a7421_15 : decode cJ5_init_a7421 15 = .ok (.iload_n 2, 1) := by decide +kernel
theorem dJ5_init_a7421_16 : decode cJ5_init_a7421 16 = .ok (.bipush 16, 2) := by decide +kernel
theorem dJ5_init_a7421_18 : decode cJ5_init_a7421 18 = .ok (.iadd, 1) := by decide +kernel
theorem dJ5_init_a7421_19 : decode cJ5_init_a7421 19 = .ok (.goto 5, 3) := by decide +kernel
theorem dJ5_init_a7421_22 : decode cJ5_init_a7421 22 = .ok (.ldc 39, 2) := by decide +kernel
theorem dJ5_init_a7421_24 : decode cJ5_init_a7421 24 = .ok (.istore_n 3, 1) := by decide +kernel
theorem dJ5_init_a7421_25 : decode cJ5_init_a7421 25 = .ok (.aload_n 1, 1) := by decide +kernel
theorem dJ5_init_a7421_26 : decode cJ5_init_a7421 26 = .ok (.invokevirtual 40, 3) := by decide +kernel
theorem dJ5_init_a7421_29 : decode cJ5_init_a7421 29 = .ok (.istore 4, 2) := by decide +kernel
theorem dJ5_init_a7421_31 : decode cJ5_init_a7421 31 = .ok (.aload_n 0, 1) := by decide +kernel
theorem dJ5_init_a7421_32 : decode cJ5_init_a7421 32 = .ok (.iload 4, 2) := by decide +kernel
theorem dJ5_init_a7421_34 : decode cJ5_init_a7421 34 = .ok (.putfield 22, 3) := by decide +kernel
theorem dJ5_init_a7421_37 : decode cJ5_init_a7421 37 = .ok (.aload_n 0, 1) := by decide +kernel
theorem dJ5_init_a7421_38 : decode cJ5_init_a7421 38 = .ok (.iload 4, 2) := by decide +kernel
theorem dJ5_init_a7421_40 : decode cJ5_init_a7421 40 = .ok (.ifCond .ne 9, 3) := by decide +kernel
theorem dJ5_init_a7421_43 : decode cJ5_init_a7421 43 = .ok (.iload_n 3, 1) := by decide +kernel
theorem dJ5_init_a7421_44 : decode cJ5_init_a7421 44 = .ok (.newarray .byte, 2) := by decide +kernel
theorem dJ5_init_a7421_46 : decode cJ5_init_a7421 46 = .ok (.goto 7, 3) := by decide +kernel
theorem dJ5_init_a7421_49 : decode cJ5_init_a7421 49 = .ok (.iload_n 3, 1) := by decide +kernel
theorem dJ5_init_a7421_50 : decode cJ5_init_a7421 50 = .ok (.invokestatic 26, 3) := by decide +kernel
theorem dJ5_init_a7421_53 : decode cJ5_init_a7421 53 = .ok (.putfield 15, 3) := by decide +kernel
theorem dJ5_init_a7421_56 : decode cJ5_init_a7421 56 = .ok (.aload_n 0, 1) := by decide +kernel
theorem dJ5_init_a7421_57 : decode cJ5_init_a7421 57 = .ok (.aload_n 1, 1) := by decide +kernel
theorem dJ5_init_a7421_58 : decode cJ5_init_a7421 58 = .ok (.invokevirtual 43, 3) := by decide +kernel
theorem dJ5_init_a7421_61 : decode cJ5_init_a7421 61 = .ok (.pop, 1) := by decide +kernel
theorem dJ5_init_a7421_62 : decode cJ5_init_a7421 62 = .ok (.return_, 1) := by decide +kernel
theorem dJ5_length_8abf5_0 : decode cJ5_length_8abf5 0 = .ok (.aload_n 0, 1) := by decide +kernel
theorem dJ5_length_8abf5_1 : decode cJ5_length_8abf5 1 = .ok (.getfield 79, 3) := by decide +kernel
theorem dJ5_length_8abf5_4 : decode cJ5_length_8abf5 4 = .ok (.ireturn, 1) := by decide +kernel
theorem dJ5_ensureCapacityInternal_d00df_0 : decode cJ5_ensureCapacityInternal_d00df 0 = .ok (.aload_n 0, 1) := by decide +kernel
theorem dJ5_ensureCapacityInternal_d00df_1 : decode cJ5_ensureCapacityInternal_d00df 1 = .ok (.getfield 15, 3) := by decide +kernel
theorem dJ5_ensureCapacityInternal_d00df_4 : decode cJ5_ensureCapacityInternal_d00df 4 = .ok (.arraylength, 1) := by decide +kernel
theorem dJ5_ensureCapacityInternal_d00df_5 : decode cJ5_ensureCapacityInternal_d00df 5 = .ok (.aload_n 0, 1) := by decide +kernel
theorem dJ5_ensureCapacityInternal_d00df_6 : decode cJ5_ensureCapacityInternal_d00df 6 = .ok (.getfield 22, 3) := by decide +kernel
theorem dJ5_ensureCapacityInternal_d00df_9 : decode cJ5_ensureCapacityInternal_d00df 9 = .ok (.ishr, 1) := by decide +kernel
theorem dJ5_ensureCapacityInternal_d00df_10 : decode cJ5_ensureCapacityInternal_d00df 10 = .ok (.istore_n 2, 1) := by decide +kernel
theorem dJ5_ensureCapacityInternal_d00df_11 : decode cJ5_ensureCapacityInternal_d00df 11 = .ok (.iload_n 1, 1) := by decide +kernel
theorem dJ5_ensureCapacityInternal_d00df_12 : decode cJ5_ensureCapacityInternal_d00df 12 = .ok (.iload_n 2, 1) := by decide +kernel
theorem dJ5_ensureCapacityInternal_d00df_13 : decode cJ5_ensureCapacityInternal_d00df 13 = .ok (.isub, 1) := by decide +kernel
theorem dJ5_ensureCapacityInternal_d00df_14 : decode cJ5_ensureCapacityInternal_d00df 14 = .ok (.ifCond .le 24, 3) := by decide +kernel
theorem dJ5_ensureCapacityInternal_d00df_17 : decode cJ5_ensureCapacityInternal_d00df 17 = .ok (.aload_n 0, 1) := by decide +kernel
theorem dJ5_ensureCapacityInternal_d00df_18 : decode cJ5_ensureCapacityInternal_d00df 18 = .ok (.aload_n 0, 1) := by decide +kernel
theorem dJ5_ensureCapacityInternal_d00df_19 : decode cJ5_ensureCapacityInternal_d00df 19 = .ok (.getfield 15, 3) := by decide +kernel
theorem dJ5_ensureCapacityInternal_d00df_22 : decode cJ5_ensureCapacityInternal_d00df 22 = .ok (.aload_n 0, 1) := by decide +kernel
theorem dJ5_ensureCapacityInternal_d00df_23 : decode cJ5_ensureCapacityInternal_d00df 23 = .ok (.iload_n 1, 1) := by decide +kernel
theorem dJ5_ensureCapacityInternal_d00df_24 : decode cJ5_ensureCapacityInternal_d00df 24 = .ok (.invokevirtual 104, 3) := by decide +kernel
theorem dJ5_ensureCapacityInternal_d00df_27 : decode cJ5_ensureCapacityInternal_d00df 27 = .ok (.aload_n 0, 1) := by decide +kernel
theorem dJ5_ensureCapacityInternal_d00df_28 : decode cJ5_ensureCapacityInternal_d00df 28 = .ok (.getfield 22, 3) := by decide +kernel
theorem dJ5_ensureCapacityInternal_d00df_31 : decode cJ5_ensureCapacityInternal_d00df 31 = .ok (.ishl, 1) := by decide +kernel
theorem dJ5_ensureCapacityInternal_d00df_32 : decode cJ5_ensureCapacityInternal_d00df 32 = .ok (.invokestatic 108, 3) := by decide +kernel
theorem dJ5_ensureCapacityInternal_d00df_35 : decode cJ5_ensureCapacityInternal_d00df 35 = .ok (.putfield 15, 3) := by decide +kernel
theorem dJ5_ensureCapacityInternal_d00df_38 : decode cJ5_ensureCapacityInternal_d00df 38 = .ok (.return_, 1) := by decide +kernel
theorem dJ5_newCapacity_0f7a4_0 : decode cJ5_newCapacity_0f7a4 0 = .ok (.aload_n 0, 1) := by decide +kernel
theorem dJ5_newCapacity_0f7a4_1 : decode cJ5_newCapacity_0f7a4 1 = .ok (.getfield 15, 3) := by decide +kernel
theorem dJ5_newCapacity_0f7a4_4 : decode cJ5_newCapacity_0f7a4 4 = .ok (.arraylength, 1) := by decide +kernel
theorem dJ5_newCapacity_0f7a4_5 : decode cJ5_newCapacity_0f7a4 5 = .ok (.istore_n 2, 1) := by decide +kernel
theorem dJ5_newCapacity_0f7a4_6 : decode cJ5_newCapacity_0f7a4 6 = .ok (.iload_n 1, 1) := by decide +kernel
theorem dJ5_newCapacity_0f7a4_7 : decode cJ5_newCapacity_0f7a4 7 = .ok (.aload_n 0, 1) := by decide +kernel
theorem dJ5_newCapacity_0f7a4_8 : decode cJ5_newCapacity_0f7a4 8 = .ok (.getfield 22, 3) := by decide +kernel
theorem dJ5_newCapacity_0f7a4_11 : decode cJ5_newCapacity_0f7a4 11 = .ok (.ishl, 1) := by decide +kernel
theorem dJ5_newCapacity_0f7a4_12 : decode cJ5_newCapacity_0f7a4 12 = .ok (.istore_n 3, 1) := by decide +kernel
theorem dJ5_newCapacity_0f7a4_13 : decode cJ5_newCapacity_0f7a4 13 = .ok (.iload_n 3, 1) := by decide +kernel
theorem dJ5_newCapacity_0f7a4_14 : decode cJ5_newCapacity_0f7a4 14 = .ok (.iload_n 2, 1) := by decide +kernel
theorem dJ5_newCapacity_0f7a4_15 : decode cJ5_newCapacity_0f7a4 15 = .ok (.isub, 1) := by decide +kernel
theorem dJ5_newCapacity_0f7a4_16 : decode cJ5_newCapacity_0f7a4 16 = .ok (.istore 4, 2) := by decide +kernel
theorem dJ5_newCapacity_0f7a4_18 : decode cJ5_newCapacity_0f7a4 18 = .ok (.iload_n 2, 1) := by decide +kernel
theorem dJ5_newCapacity_0f7a4_19 : decode cJ5_newCapacity_0f7a4 19 = .ok (.iload 4, 2) := by decide +kernel
theorem dJ5_newCapacity_0f7a4_21 : decode cJ5_newCapacity_0f7a4 21 = .ok (.iload_n 2, 1) := by decide +kernel
theorem dJ5_newCapacity_0f7a4_22 : decode cJ5_newCapacity_0f7a4 22 = .ok (.iconst 2, 1) := by decide +kernel
theorem dJ5_newCapacity_0f7a4_23 : decode cJ5_newCapacity_0f7a4 23 = .ok (.aload_n 0, 1) := by decide +kernel
theorem dJ5_newCapacity_0f7a4_24 : decode cJ5_newCapacity_0f7a4 24 = .ok (.getfield 22, 3) := by decide +kernel
theorem dJ5_newCapacity_0f7a4_27 : decode cJ5_newCapacity_0f7a4 27 = .ok (.ishl, 1) := by decide +kernel
theorem dJ5_newCapacity_0f7a4_28 : decode cJ5_newCapacity_0f7a4 28 = .ok (.iadd, 1) := by decide +kernel
theorem dJ5_newCapacity_0f7a4_29 : decode cJ5_newCapacity_0f7a4 29 = .ok (.invokestatic 114, 3) := by decide +kernel
theorem dJ5_newCapacity_0f7a4_32 : decode cJ5_newCapacity_0f7a4 32 = .ok (.istore 5, 2) := by decide +kernel
theorem dJ5_newCapacity_0f7a4_34 : decode cJ5_newCapacity_0f7a4 34 = .ok (.iload 5, 2) := by decide +kernel
theorem dJ5_newCapacity_0f7a4_36 : decode cJ5_newCapacity_0f7a4 36 = .ok (.ldc 39, 2) := by decide +kernel
theorem dJ5_newCapacity_0f7a4_38 : decode cJ5_newCapacity_0f7a4 38 = .ok (.if_icmp .ne 13, 3) := by decide +kernel
theorem dJ5_newCapacity_0f7a4_41 : decode cJ5_newCapacity_0f7a4 41 = .ok (.new 120, 3) := by decide +kernel
theorem dJ5_newCapacity_0f7a4_44 : decode cJ5_newCapacity_0f7a4 44 = .ok (.dup, 1) := by decide +kernel
theorem dJ5_newCapacity_0f7a4_45 : decode cJ5_newCapacity_0f7a4 45 = .ok (.ldc 122, 2) := by decide +kernel
theorem dJ5_newCapacity_0f7a4_47 : decode cJ5_newCapacity_0f7a4 47 = .ok (.invokespecial 124, 3) := by decide +kernel
theorem dJ5_newCapacity_0f7a4_50 : decode cJ5_newCapacity_0f7a4 50 = .ok (.athrow, 1) := by decide +kernel
theorem dJ5_newCapacity_0f7a4_51 : decode cJ5_newCapacity_0f7a4 51 = .ok (.iload 5, 2) := by decide +kernel
theorem dJ5_newCapacity_0f7a4_53 : decode cJ5_newCapacity_0f7a4 53 = .ok (.aload_n 0, 1) := by decide +kernel
theorem dJ5_newCapacity_0f7a4_54 : decode cJ5_newCapacity_0f7a4 54 = .ok (.getfield 22, 3) := by decide +kernel
theorem dJ5_newCapacity_0f7a4_57 : decode cJ5_newCapacity_0f7a4 57 = .ok (.ishr, 1) := by decide +kernel
theorem dJ5_newCapacity_0f7a4_58 : decode cJ5_newCapacity_0f7a4 58 = .ok (.ireturn, 1) := by decide +kernel
theorem dJ5_inflate_da8c8_0 : decode cJ5_inflate_da8c8 0 = .ok (.aload_n 0, 1) := by decide +kernel
theorem dJ5_inflate_da8c8_1 : decode cJ5_inflate_da8c8 1 = .ok (.invokevirtual 83, 3) := by decide +kernel
theorem dJ5_inflate_da8c8_4 : decode cJ5_inflate_da8c8 4 = .ok (.ifCond .ne 4, 3) := by decide +kernel
theorem dJ5_inflate_da8c8_7 : decode cJ5_inflate_da8c8 7 = .ok (.return_, 1) := by decide +kernel
theorem dJ5_inflate_da8c8_8 : decode cJ5_inflate_da8c8 8 = .ok (.aload_n 0, 1) := by decide +kernel
theorem dJ5_inflate_da8c8_9 : decode cJ5_inflate_da8c8 9 = .ok (.getfield 15, 3) := by decide +kernel
theorem dJ5_inflate_da8c8_12 : decode cJ5_inflate_da8c8 12 = .ok (.arraylength, 1) := by decide +kernel
theorem dJ5_inflate_da8c8_13 : decode cJ5_inflate_da8c8 13 = .ok (.invokestatic 26, 3) := by decide +kernel
theorem dJ5_inflate_da8c8_16 : decode cJ5_inflate_da8c8 16 = .ok (.astore_n 1, 1) := by decide +kernel
theorem dJ5_inflate_da8c8_17 : decode cJ5_inflate_da8c8 17 = .ok (.aload_n 0, 1) := by decide +kernel
theorem dJ5_inflate_da8c8_18 : decode cJ5_inflate_da8c8 18 = .ok (.getfield 15, 3) := by decide +kernel
theorem dJ5_inflate_da8c8_21 : decode cJ5_inflate_da8c8 21 = .ok (.iconst 0, 1) := by decide +kernel
theorem dJ5_inflate_da8c8_22 : decode cJ5_inflate_da8c8 22 = .ok (.aload_n 1, 1) := by decide +kernel
theorem dJ5_inflate_da8c8_23 : decode cJ5_inflate_da8c8 23 = .ok (.iconst 0, 1) := by decide +kernel
theorem dJ5_inflate_da8c8_24 : decode cJ5_inflate_da8c8 24 = .ok (.aload_n 0, 1) := by decide +kernel
theorem dJ5_inflate_da8c8_25 : decode cJ5_inflate_da8c8 25 = .ok (.getfield 79, 3) := by decide +kernel
theorem dJ5_inflate_da8c8_28 : decode cJ5_inflate_da8c8 28 = .ok (.invokestatic 125, 3) := by decide +kernel
theorem dJ5_inflate_da8c8_31 : decode cJ5_inflate_da8c8 31 = .ok (.aload_n 0, 1) := by decide +kernel
theorem dJ5_inflate_da8c8_32 : decode cJ5_inflate_da8c8 32 = .ok (.aload_n 1, 1) := by decide +kernel
theorem dJ5_inflate_da8c8_33 : decode cJ5_inflate_da8c8 33 = .ok (.putfield 15, 3) := by decide +kernel
theorem dJ5_inflate_da8c8_36 : decode cJ5_inflate_da8c8 36 = .ok (.aload_n 0, 1) := by decide +kernel
theorem dJ5_inflate_da8c8_37 : decode cJ5_inflate_da8c8 37 = .ok (.iconst 1, 1) := by decide +kernel
theorem dJ5_inflate_da8c8_38 : decode cJ5_inflate_da8c8 38 = .ok (.putfield 22, 3) := by decide +kernel
theorem dJ5_inflate_da8c8_41 : decode cJ5_inflate_da8c8 41 = .ok (.return_, 1) := by decide +kernel
theorem dJ5_append_cf1ce_0 : decode cJ5_append_cf1ce 0 = .ok (.aload_n 1, 1) := by decide +kernel
theorem dJ5_append_cf1ce_1 : decode cJ5_append_cf1ce 1 = .ok (.ifnonnull 8, 3) := by decide +kernel
theorem dJ5_append_cf1ce_4 : decode cJ5_append_cf1ce 4 = .ok (.aload_n 0, 1) := by decide +kernel
theorem dJ5_append_cf1ce_5 : decode cJ5_append_cf1ce 5 = .ok (.invokevirtual 204, 3) := by decide +kernel
theorem dJ5_append_cf1ce_8 : decode cJ5_append_cf1ce 8 = .ok (.areturn, 1) := by decide +kernel
theorem dJ5_append_cf1ce_9 : decode cJ5_append_cf1ce 9 = .ok (.aload_n 1, 1) := by decide +kernel
theorem dJ5_append_cf1ce_10 : decode cJ5_append_cf1ce 10 = .ok (.invokevirtual 32, 3) := by decide +kernel
theorem dJ5_append_cf1ce_13 : decode cJ5_append_cf1ce 13 = .ok (.istore_n 2, 1) := by decide +kernel
theorem dJ5_append_cf1ce_14 : decode cJ5_append_cf1ce 14 = .ok (.aload_n 0, 1) := by decide +kernel
theorem dJ5_append_cf1ce_15 : decode cJ5_append_cf1ce 15 = .ok (.aload_n 0, 1) := by decide +kernel
theorem dJ5_append_cf1ce_16 : decode cJ5_append_cf1ce 16 = .ok (.getfield 79, 3) := by decide +kernel
theorem dJ5_append_cf1ce_19 : decode cJ5_append_cf1ce 19 = .ok (.iload_n 2, 1) := by decide +kernel
theorem dJ5_append_cf1ce_20 : decode cJ5_append_cf1ce 20 = .ok (.iadd, 1) := by decide +kernel
theorem dJ5_append_cf1ce_21 : decode cJ5_append_cf1ce 21 = .ok (.invokevirtual 100, 3) := by decide +kernel
theorem dJ5_append_cf1ce_24 : decode cJ5_append_cf1ce 24 = .ok (.aload_n 0, 1) := by decide +kernel
theorem dJ5_append_cf1ce_25 : decode cJ5_append_cf1ce 25 = .ok (.aload_n 0, 1) := by decide +kernel
theorem dJ5_append_cf1ce_26 : decode cJ5_append_cf1ce 26 = .ok (.getfield 79, 3) := by decide +kernel
theorem dJ5_append_cf1ce_29 : decode cJ5_append_cf1ce 29 = .ok (.aload_n 1, 1) := by decide +kernel
theorem dJ5_append_cf1ce_30 : decode cJ5_append_cf1ce 30 = .ok (.invokevirtual 208, 3) := by decide +kernel
theorem dJ5_append_cf1ce_33 : decode cJ5_append_cf1ce 33 = .ok (.aload_n 0, 1) := by decide +kernel
theorem dJ5_append_cf1ce_34 : decode cJ5_append_cf1ce 34 = .ok (.dup, 1) := by decide +kernel
theorem dJ5_append_cf1ce_35 : decode cJ5_append_cf1ce 35 = .ok (.getfield 79, 3) := by decide +kernel
theorem dJ5_append_cf1ce_38 : decode cJ5_append_cf1ce 38 = .ok (.iload_n 2, 1) := by decide +kernel
theorem dJ5_append_cf1ce_39 : decode cJ5_append_cf1ce 39 = .ok (.iadd, 1) := by decide +kernel
theorem dJ5_append_cf1ce_40 : decode cJ5_append_cf1ce 40 = .ok (.putfield 79, 3) := by decide +kernel
theorem dJ5_append_cf1ce_43 : decode cJ5_append_cf1ce 43 = .ok (.aload_n 0, 1) := by decide +kernel
theorem dJ5_append_cf1ce_44 : decode cJ5_append_cf1ce 44 = .ok (.areturn, 1) := by decide +kernel
theorem dJ5_appendNull_278bc_0 : decode cJ5_appendNull_278bc 0 = .ok (.aload_n 0, 1) := by decide +kernel
theorem dJ5_appendNull_278bc_1 : decode cJ5_appendNull_278bc 1 = .ok (.aload_n 0, 1) := by decide +kernel
theorem dJ5_appendNull_278bc_2 : decode cJ5_appendNull_278bc 2 = .ok (.getfield 79, 3) := by decide +kernel
theorem dJ5_appendNull_278bc_5 : decode cJ5_appendNull_278bc 5 = .ok (.iconst 4, 1) := by decide +kernel
theorem dJ5_appendNull_278bc_6 : decode cJ5_appendNull_278bc 6 = .ok (.iadd, 1) := by decide +kernel
theorem dJ5_appendNull_278bc_7 : decode cJ5_appendNull_278bc 7 = .ok (.invokevirtual 100, 3) := by decide +kernel
theorem dJ5_appendNull_278bc_10 : decode cJ5_appendNull_278bc 10 = .ok (.aload_n 0, 1) := by decide +kernel
theorem dJ5_appendNull_278bc_11 : decode cJ5_appendNull_278bc 11 = .ok (.getfield 79, 3) := by decide +kernel
theorem dJ5_appendNull_278bc_14 : decode cJ5_appendNull_278bc 14 = .ok (.istore_n 1, 1) := by decide +kernel
theorem dJ5_appendNull_278bc_15 : decode cJ5_appendNull_278bc 15 = .ok (.aload_n 0, 1) := by decide +kernel
theorem dJ5_appendNull_278bc_16 : decode cJ5_appendNull_278bc 16 = .ok (.getfield 15, 3) := by decide +kernel
theorem dJ5_appendNull_278bc_19 : decode cJ5_appendNull_278bc 19 = .ok (.astore_n 2, 1) := by decide +kernel
theorem dJ5_appendNull_278bc_20 : decode cJ5_appendNull_278bc 20 = .ok (.aload_n 0, 1) := by decide +kernel
theorem dJ5_appendNull_278bc_21 : decode cJ5_appendNull_278bc 21 = .ok (.invokevirtual 83, 3) := by decide +kernel
theorem dJ5_appendNull_278bc_24 : decode cJ5_appendNull_278bc 24 = .ok (.ifCond .eq 38, 3) := by decide +kernel
theorem dJ5_appendNull_278bc_27 : decode cJ5_appendNull_278bc 27 = .ok (.aload_n 2, 1) := by decide +kernel
theorem dJ5_appendNull_278bc_28 : decode cJ5_appendNull_278bc 28 = .ok (.iload_n 1, 1) := by decide +kernel
theorem dJ5_appendNull_278bc_29 : decode cJ5_appendNull_278bc 29 = .ok (.iinc 1 1, 3) := by decide +kernel
theorem dJ5_appendNull_278bc_32 : decode cJ5_appendNull_278bc 32 = .ok (.bipush 110, 2) := by decide +kernel
theorem dJ5_appendNull_278bc_34 : decode cJ5_appendNull_278bc 34 = .ok (.bastore, 1) := by decide +kernel
theorem dJ5_appendNull_278bc_35 : decode cJ5_appendNull_278bc 35 = .ok (.aload_n 2, 1) := by decide +kernel
theorem dJ5_appendNull_278bc_36 : decode cJ5_appendNull_278bc 36 = .ok (.iload_n 1, 1) := by decide +kernel
theorem dJ5_appendNull_278bc_37 : decode cJ5_appendNull_278bc 37 = .ok (.iinc 1 1, 3) := by decide +kernel
theorem dJ5_appendNull_278bc_40 : decode cJ5_appendNull_278bc 40 = .ok (.bipush 117, 2) := by decide +kernel
theorem dJ5_appendNull_278bc_42 : decode cJ5_appendNull_278bc 42 = .ok (.bastore, 1) := by decide +kernel
theorem dJ5_appendNull_278bc_43 : decode cJ5_appendNull_278bc 43 = .ok (.aload_n 2, 1) := by decide +kernel
theorem dJ5_appendNull_278bc_44 : decode cJ5_appendNull_278bc 44 = .ok (.iload_n 1, 1) := by decide +kernel
theorem dJ5_appendNull_278bc_45 : decode cJ5_appendNull_278bc 45 = .ok (.iinc 1 1, 3) := by decide +kernel
theorem dJ5_appendNull_278bc_48 : decode cJ5_appendNull_278bc 48 = .ok (.bipush 108, 2) := by decide +kernel
theorem dJ5_appendNull_278bc_50 : decode cJ5_appendNull_278bc 50 = .ok (.bastore, 1) := by decide +kernel
theorem dJ5_appendNull_278bc_51 : decode cJ5_appendNull_278bc 51 = .ok (.aload_n 2, 1) := by decide +kernel
theorem dJ5_appendNull_278bc_52 : decode cJ5_appendNull_278bc 52 = .ok (.iload_n 1, 1) := by decide +kernel
theorem dJ5_appendNull_278bc_53 : decode cJ5_appendNull_278bc 53 = .ok (.iinc 1 1, 3) := by decide +kernel
theorem dJ5_appendNull_278bc_56 : decode cJ5_appendNull_278bc 56 = .ok (.bipush 108, 2) := by decide +kernel
theorem dJ5_appendNull_278bc_58 : decode cJ5_appendNull_278bc 58 = .ok (.bastore, 1) := by decide +kernel
theorem dJ5_appendNull_278bc_59 : decode cJ5_appendNull_278bc 59 = .ok (.goto 17, 3) := by decide +kernel
theorem dJ5_appendNull_278bc_62 : decode cJ5_appendNull_278bc 62 = .ok (.aload_n 2, 1) := by decide +kernel
theorem dJ5_appendNull_278bc_63 : decode cJ5_appendNull_278bc 63 = .ok (.iload_n 1, 1) := by decide +kernel
theorem dJ5_appendNull_278bc_64 : decode cJ5_appendNull_278bc 64 = .ok (.bipush 110, 2) := by decide +kernel
theorem dJ5_appendNull_278bc_66 : decode cJ5_appendNull_278bc 66 = .ok (.bipush 117, 2) := by decide +kernel
theorem dJ5_appendNull_278bc_68 : decode cJ5_appendNull_278bc 68 = .ok (.bipush 108, 2) := by decide +kernel
theorem dJ5_appendNull_278bc_70 : decode cJ5_appendNull_278bc 70 = .ok (.bipush 108, 2) := by decide +kernel
theorem dJ5_appendNull_278bc_72 : decode cJ5_appendNull_278bc 72 = .ok (.invokestatic 226, 3) := by decide +kernel
theorem dJ5_appendNull_278bc_75 : decode cJ5_appendNull_278bc 75 = .ok (.istore_n 1, 1) := by decide +kernel
theorem dJ5_appendNull_278bc_76 : decode cJ5_appendNull_278bc 76 = .ok (.aload_n 0, 1) := by decide +kernel
theorem dJ5_appendNull_278bc_77 : decode cJ5_appendNull_278bc 77 = .ok (.iload_n 1, 1) := by decide +kernel
theorem dJ5_appendNull_278bc_78 : decode cJ5_appendNull_278bc 78 = .ok (.putfield 79, 3) := by decide +kernel
theorem dJ5_appendNull_278bc_81 : decode cJ5_appendNull_278bc 81 = .ok (.aload_n 0, 1) := by decide +kernel
theorem dJ5_appendNull_278bc_82 : decode cJ5_appendNull_278bc 82 = .ok (.areturn, 1) := by decide +kernel
theorem dJ5_append_3fe6f_0 : decode cJ5_append_3fe6f 0 = .ok (.aload_n 0, 1) := by decide +kernel
theorem dJ5_append_3fe6f_1 : decode cJ5_append_3fe6f 1 = .ok (.aload_n 0, 1) := by decide +kernel
theorem dJ5_append_3fe6f_2 : decode cJ5_append_3fe6f 2 = .ok (.getfield 79, 3) := by decide +kernel
theorem dJ5_append_3fe6f_5 : decode cJ5_append_3fe6f 5 = .ok (.iconst 1, 1) := by decide +kernel
theorem dJ5_append_3fe6f_6 : decode cJ5_append_3fe6f 6 = .ok (.iadd, 1) := by decide +kernel
theorem dJ5_append_3fe6f_7 : decode cJ5_append_3fe6f 7 = .ok (.invokevirtual 100, 3) := by decide +kernel
theorem dJ5_append_3fe6f_10 : decode cJ5_append_3fe6f 10 = .ok (.aload_n 0, 1) := by decide +kernel
theorem dJ5_append_3fe6f_11 : decode cJ5_append_3fe6f 11 = .ok (.invokevirtual 83, 3) := by decide +kernel
theorem dJ5_append_3fe6f_14 : decode cJ5_append_3fe6f 14 = .ok (.ifCond .eq 31, 3) := by decide +kernel
theorem dJ5_append_3fe6f_17 : decode cJ5_append_3fe6f 17 = .ok (.iload_n 1, 1) := by decide +kernel
theorem dJ5_append_3fe6f_18 : decode cJ5_append_3fe6f 18 = .ok (.invokestatic 191, 3) := by decide +kernel
theorem dJ5_append_3fe6f_21 : decode cJ5_append_3fe6f 21 = .ok (.ifCond .eq 24, 3) := by decide +kernel
theorem dJ5_append_3fe6f_24 : decode cJ5_append_3fe6f 24 = .ok (.aload_n 0, 1) := by decide +kernel
theorem dJ5_append_3fe6f_25 : decode cJ5_append_3fe6f 25 = .ok (.getfield 15, 3) := by decide +kernel
theorem dJ5_append_3fe6f_28 : decode cJ5_append_3fe6f 28 = .ok (.aload_n 0, 1) := by decide +kernel
theorem dJ5_append_3fe6f_29 : decode cJ5_append_3fe6f 29 = .ok (.dup, 1) := by decide +kernel
theorem dJ5_append_3fe6f_30 : decode cJ5_append_3fe6f 30 = .ok (.getfield 79, 3) := by decide +kernel
theorem dJ5_append_3fe6f_33 : decode cJ5_append_3fe6f 33 = .ok (.dup_x1, 1) := by decide +kernel
theorem dJ5_append_3fe6f_34 : decode cJ5_append_3fe6f 34 = .ok (.iconst 1, 1) := by decide +kernel
theorem dJ5_append_3fe6f_35 : decode cJ5_append_3fe6f 35 = .ok (.iadd, 1) := by decide +kernel
theorem dJ5_append_3fe6f_36 : decode cJ5_append_3fe6f 36 = .ok (.putfield 79, 3) := by decide +kernel
theorem dJ5_append_3fe6f_39 : decode cJ5_append_3fe6f 39 = .ok (.iload_n 1, 1) := by decide +kernel
theorem dJ5_append_3fe6f_40 : decode cJ5_append_3fe6f 40 = .ok (.i2b, 1) := by decide +kernel
theorem dJ5_append_3fe6f_41 : decode cJ5_append_3fe6f 41 = .ok (.bastore, 1) := by decide +kernel
theorem dJ5_append_3fe6f_42 : decode cJ5_append_3fe6f 42 = .ok (.goto 33, 3) := by decide +kernel
theorem dJ5_append_3fe6f_45 : decode cJ5_append_3fe6f 45 = .ok (.aload_n 0, 1) := by decide +kernel
theorem dJ5_append_3fe6f_46 : decode cJ5_append_3fe6f 46 = .ok (.invokevirtual 83, 3) := by decide +kernel
theorem dJ5_append_3fe6f_49 : decode cJ5_append_3fe6f 49 = .ok (.ifCond .eq 7, 3) := by decide +kernel
theorem dJ5_append_3fe6f_52 : decode cJ5_append_3fe6f 52 = .ok (.aload_n 0, 1) := by decide +kernel
theorem dJ5_append_3fe6f_53 : decode cJ5_append_3fe6f 53 = .ok (.invokevirtual 195, 3) := by decide +kernel
theorem dJ5_append_3fe6f_56 : decode cJ5_append_3fe6f 56 = .ok (.aload_n 0, 1) := by decide +kernel
theorem dJ5_append_3fe6f_57 : decode cJ5_append_3fe6f 57 = .ok (.getfield 15, 3) := by decide +kernel
theorem dJ5_append_3fe6f_60 : decode cJ5_append_3fe6f 60 = .ok (.aload_n 0, 1) := by decide +kernel
theorem dJ5_append_3fe6f_61 : decode cJ5_append_3fe6f 61 = .ok (.dup, 1) := by decide +kernel
theorem dJ5_append_3fe6f_62 : decode cJ5_append_3fe6f 62 = .ok (.getfield 79, 3) := by decide +kernel
theorem dJ5_append_3fe6f_65 : decode cJ5_append_3fe6f 65 = .ok (.dup_x1, 1) := by decide +kernel
theorem dJ5_append_3fe6f_66 : decode cJ5_append_3fe6f 66 = .ok (.iconst 1, 1) := by decide +kernel
theorem dJ5_append_3fe6f_67 : decode cJ5_append_3fe6f 67 = .ok (.iadd, 1) := by decide +kernel
theorem dJ5_append_3fe6f_68 : decode cJ5_append_3fe6f 68 = .ok (.putfield 79, 3) := by decide +kernel
theorem dJ5_append_3fe6f_71 : decode cJ5_append_3fe6f 71 = .ok (.iload_n 1, 1) := by decide +kernel
theorem dJ5_append_3fe6f_72 : decode cJ5_append_3fe6f 72 = .ok (.invokestatic 197, 3) := by decide +kernel
theorem dJ5_append_3fe6f_75 : decode cJ5_append_3fe6f 75 = .ok (.aload_n 0, 1) := by decide +kernel
theorem dJ5_append_3fe6f_76 : decode cJ5_append_3fe6f 76 = .ok (.areturn, 1) := by decide +kernel
theorem dJ5_append_c97b9_0 : decode cJ5_append_c97b9 0 = .ok (.aload_n 0, 1) := by decide +kernel
theorem dJ5_append_c97b9_1 : decode cJ5_append_c97b9 1 = .ok (.getfield 79, 3) := by decide +kernel
theorem dJ5_append_c97b9_4 : decode cJ5_append_c97b9 4 = .ok (.istore_n 2, 1) := by decide +kernel
theorem dJ5_append_c97b9_5 : decode cJ5_append_c97b9 5 = .ok (.iload_n 2, 1) := by decide +kernel
theorem dJ5_append_c97b9_6 : decode cJ5_append_c97b9 6 = .ok (.iload_n 1, 1) := by decide +kernel
theorem dJ5_append_c97b9_7 : decode cJ5_append_c97b9 7 = .ok (.invokestatic 245, 3) := by decide +kernel
theorem dJ5_append_c97b9_10 : decode cJ5_append_c97b9 10 = .ok (.iadd, 1) := by decide +kernel
theorem dJ5_append_c97b9_11 : decode cJ5_append_c97b9 11 = .ok (.istore_n 3, 1) := by decide +kernel
theorem dJ5_append_c97b9_12 : decode cJ5_append_c97b9 12 = .ok (.aload_n 0, 1) := by decide +kernel
theorem dJ5_append_c97b9_13 : decode cJ5_append_c97b9 13 = .ok (.iload_n 3, 1) := by decide +kernel
theorem dJ5_append_c97b9_14 : decode cJ5_append_c97b9 14 = .ok (.invokevirtual 100, 3) := by decide +kernel
theorem dJ5_append_c97b9_17 : decode cJ5_append_c97b9 17 = .ok (.aload_n 0, 1) := by decide +kernel
theorem dJ5_append_c97b9_18 : decode cJ5_append_c97b9 18 = .ok (.invokevirtual 83, 3) := by decide +kernel
theorem dJ5_append_c97b9_21 : decode cJ5_append_c97b9 21 = .ok (.ifCond .eq 16, 3) := by decide +kernel
theorem dJ5_append_c97b9_24 : decode cJ5_append_c97b9 24 = .ok (.iload_n 1, 1) := by decide +kernel
theorem dJ5_append_c97b9_25 : decode cJ5_append_c97b9 25 = .ok (.iload_n 3, 1) := by decide +kernel
theorem dJ5_append_c97b9_26 : decode cJ5_append_c97b9 26 = .ok (.aload_n 0, 1) := by decide +kernel
theorem dJ5_append_c97b9_27 : decode cJ5_append_c97b9 27 = .ok (.getfield 15, 3) := by decide +kernel
theorem dJ5_append_c97b9_30 : decode cJ5_append_c97b9 30 = .ok (.invokestatic 248, 3) := by decide +kernel
theorem dJ5_append_c97b9_33 : decode cJ5_append_c97b9 33 = .ok (.pop, 1) := by decide +kernel
theorem dJ5_append_c97b9_34 : decode cJ5_append_c97b9 34 = .ok (.goto 14, 3) := by decide +kernel
theorem dJ5_append_c97b9_37 : decode cJ5_append_c97b9 37 = .ok (.iload_n 1, 1) := by decide +kernel
theorem dJ5_append_c97b9_38 : decode cJ5_append_c97b9 38 = .ok (.iload_n 2, 1) := by decide +kernel
theorem dJ5_append_c97b9_39 : decode cJ5_append_c97b9 39 = .ok (.iload_n 3, 1) := by decide +kernel
theorem dJ5_append_c97b9_40 : decode cJ5_append_c97b9 40 = .ok (.aload_n 0, 1) := by decide +kernel
theorem dJ5_append_c97b9_41 : decode cJ5_append_c97b9 41 = .ok (.getfield 15, 3) := by decide +kernel
theorem dJ5_append_c97b9_44 : decode cJ5_append_c97b9 44 = .ok (.invokestatic 251, 3) := by decide +kernel
theorem dJ5_append_c97b9_47 : decode cJ5_append_c97b9 47 = .ok (.pop, 1) := by decide +kernel
theorem dJ5_append_c97b9_48 : decode cJ5_append_c97b9 48 = .ok (.aload_n 0, 1) := by decide +kernel
theorem dJ5_append_c97b9_49 : decode cJ5_append_c97b9 49 = .ok (.iload_n 3, 1) := by decide +kernel
theorem dJ5_append_c97b9_50 : decode cJ5_append_c97b9 50 = .ok (.putfield 79, 3) := by decide +kernel
theorem dJ5_append_c97b9_53 : decode cJ5_append_c97b9 53 = .ok (.aload_n 0, 1) := by decide +kernel
theorem dJ5_append_c97b9_54 : decode cJ5_append_c97b9 54 = .ok (.areturn, 1) := by decide +kernel
theorem dJ5_getValue_6d5f1_0 : decode cJ5_getValue_6d5f1 0 = .ok (.aload_n 0, 1) := by decide +kernel
theorem dJ5_getValue_6d5f1_1 : decode cJ5_getValue_6d5f1 1 = .ok (.getfield 15, 3) := by decide +kernel
theorem dJ5_getValue_6d5f1_4 : decode cJ5_getValue_6d5f1 4 = .ok (.areturn, 1) := by decide +kernel
theorem dJ5_isLatin1_aae02_0 : decode cJ5_isLatin1_aae02 0 = .ok (.getstatic 18, 3) := by decide +kernel
theorem dJ5_isLatin1_aae02_3 : decode cJ5_isLatin1_aae02 3 = .ok (.ifCond .eq 14, 3) := by decide +kernel
theorem dJ5_isLatin1_aae02_6 : decode cJ5_isLatin1_aae02 6 = .ok (.aload_n 0, 1) := by decide +kernel
theorem dJ5_isLatin1_aae02_7 : decode cJ5_isLatin1_aae02 7 = .ok (.getfield 22, 3) := by decide +kernel
theorem dJ5_isLatin1_aae02_10 : decode cJ5_isLatin1_aae02 10 = .ok (.ifCond .ne 7, 3) := by decide +kernel
theorem dJ5_isLatin1_aae02_13 : decode cJ5_isLatin1_aae02 13 = .ok (.iconst 1, 1) := by decide +kernel
theorem dJ5_isLatin1_aae02_14 : decode cJ5_isLatin1_aae02 14 = .ok (.goto 4, 3) := by decide +kernel
theorem dJ5_isLatin1_aae02_17 : decode cJ5_isLatin1_aae02 17 = .ok (.iconst 0, 1) := by decide +kernel
theorem dJ5_isLatin1_aae02_18 : decode cJ5_isLatin1_aae02 18 = .ok (.ireturn, 1) := by decide +kernel
theorem dJ5_inflateIfNeededFor_a7421_0 : decode cJ5_inflateIfNeededFor_a7421 0 = .ok (.getstatic 18, 3) := by decide +kernel
theorem dJ5_inflateIfNeededFor_a7421_3 : decode cJ5_inflateIfNeededFor_a7421 3 = .ok (.ifCond .eq 18, 3) := by decide +kernel
theorem dJ5_inflateIfNeededFor_a7421_6 : decode cJ5_inflateIfNeededFor_a7421 6 = .ok (.aload_n 0, 1) := by decide +kernel
theorem dJ5_inflateIfNeededFor_a7421_7 : decode cJ5_inflateIfNeededFor_a7421 7 = .ok (.getfield 22, 3) := by decide +kernel
theorem dJ5_inflateIfNeededFor_a7421_10 : decode cJ5_inflateIfNeededFor_a7421 10 = .ok (.aload_n 1, 1) := by decide +kernel
theorem dJ5_inflateIfNeededFor_a7421_11 : decode cJ5_inflateIfNeededFor_a7421 11 = .ok (.invokevirtual 40, 3) := by decide +kernel
theorem dJ5_inflateIfNeededFor_a7421_14 : decode cJ5_inflateIfNeededFor_a7421 14 = .ok (.if_icmp .eq 7, 3) := by decide +kernel
theorem dJ5_inflateIfNeededFor_a7421_17 : decode cJ5_inflateIfNeededFor_a7421 17 = .ok (.aload_n 0, 1) := by decide +kernel
theorem dJ5_inflateIfNeededFor_a7421_18 : decode cJ5_inflateIfNeededFor_a7421 18 = .ok (.invokevirtual 195, 3) := by decide +kernel
theorem dJ5_inflateIfNeededFor_a7421_21 : decode cJ5_inflateIfNeededFor_a7421 21 = .ok (.return_, 1) := by decide +kernel
theorem dJ5_putStringAt_47b60_0 : decode cJ5_putStringAt_47b60 0 = .ok (.aload_n 0, 1) := by decide +kernel
theorem dJ5_putStringAt_47b60_1 : decode cJ5_putStringAt_47b60 1 = .ok (.aload_n 2, 1) := by decide +kernel
theorem dJ5_putStringAt_47b60_2 : decode cJ5_putStringAt_47b60 2 = .ok (.invokevirtual 397, 3) := by decide +kernel
theorem dJ5_putStringAt_47b60_5 : decode cJ5_putStringAt_47b60 5 = .ok (.aload_n 2, 1) := by decide +kernel
theorem dJ5_putStringAt_47b60_6 : decode cJ5_putStringAt_47b60 6 = .ok (.aload_n 0, 1) := by decide +kernel
theorem dJ5_putStringAt_47b60_7 : decode cJ5_putStringAt_47b60 7 = .ok (.getfield 15, 3) := by decide +kernel
theorem dJ5_putStringAt_47b60_10 : decode cJ5_putStringAt_47b60 10 = .ok (.iload_n 1, 1) := by decide +kernel
theorem dJ5_putStringAt_47b60_11 : decode cJ5_putStringAt_47b60 11 = .ok (.aload_n 0, 1) := by decide +kernel
theorem dJ5_putStringAt_47b60_12 : decode cJ5_putStringAt_47b60 12 = .ok (.getfield 22, 3) := by decide +kernel
theorem dJ5_putStringAt_47b60_15 : decode cJ5_putStringAt_47b60 15 = .ok (.invokevirtual 399, 3) := by decide +kernel
theorem dJ5_putStringAt_47b60_18 : decode cJ5_putStringAt_47b60 18 = .ok (.return_, 1) := by decide +kernel
theorem dJ6_getChars_ba4f3_0 : decode cJ6_getChars_ba4f3 0 = .ok (.iload_n 1, 1) := by decide +kernel
theorem dJ6_getChars_ba4f3_1 : decode cJ6_getChars_ba4f3 1 = .ok (.istore 5, 2) := by decide +kernel
theorem dJ6_getChars_ba4f3_3 : decode cJ6_getChars_ba4f3 3 = .ok (.iload_n 0, 1) := by decide +kernel
theorem dJ6_getChars_ba4f3_4 : decode cJ6_getChars_ba4f3 4 = .ok (.ifCond .ge 7, 3) := by decide +kernel
theorem dJ6_getChars_ba4f3_7 : decode cJ6_getChars_ba4f3 7 = .ok (.iconst 1, 1) := by decide +kernel
theorem dJ6_getChars_ba4f3_8 : decode cJ6_getChars_ba4f3 8 = .ok (.goto 4, 3) := by decide +kernel
theorem dJ6_getChars_ba4f3_11 : decode cJ6_getChars_ba4f3 11 = .ok (.iconst 0, 1) := by decide +kernel
theorem dJ6_getChars_ba4f3_12 : decode cJ6_getChars_ba4f3 12 = .ok (.istore 6, 2) := by decide +kernel
theorem dJ6_getChars_ba4f3_14 : decode cJ6_getChars_ba4f3 14 = .ok (.iload 6, 2) := by decide +kernel
theorem dJ6_getChars_ba4f3_16 : decode cJ6_getChars_ba4f3 16 = .ok (.ifCond .ne 6, 3) := by decide +kernel
theorem dJ6_getChars_ba4f3_19 : decode cJ6_getChars_ba4f3 19 = .ok (.iload_n 0, 1) := by decide +kernel
theorem dJ6_getChars_ba4f3_20 : decode cJ6_getChars_ba4f3 20 = .ok (.ineg, 1) := by decide +kernel
theorem dJ6_getChars_ba4f3_21 : decode cJ6_getChars_ba4f3 21 = .ok (.istore_n 0, 1) := by decide +kernel
theorem dJ6_getChars_ba4f3_22 : decode cJ6_getChars_ba4f3 22 = .ok (.iload_n 0, 1) := by decide +kernel
theorem dJ6_getChars_ba4f3_23 : decode cJ6_getChars_ba4f3 23 = .ok (.bipush (-100), 2) := by decide +kernel
theorem dJ6_getChars_ba4f3_25 : decode cJ6_getChars_ba4f3 25 = .ok (.if_icmp .gt 47, 3) := by decide +kernel
theorem dJ6_getChars_ba4f3_28 : decode cJ6_getChars_ba4f3 28 = .ok (.iload_n 0, 1) := by decide +kernel
theorem dJ6_getChars_ba4f3_29 : decode cJ6_getChars_ba4f3 29 = .ok (.bipush 100, 2) := by decide +kernel
theorem dJ6_getChars_ba4f3_31 : decode cJ6_getChars_ba4f3 31 = .ok (.idiv, 1) := by decide +kernel
theorem dJ6_getChars_ba4f3_32 : decode cJ6_getChars_ba4f3 32 = .ok (.istore_n 3, 1) := by decide +kernel
theorem dJ6_getChars_ba4f3_33 : decode cJ6_getChars_ba4f3 33 = .ok (.iload_n 3, 1) := by decide +kernel
theorem dJ6_getChars_ba4f3_34 : decode cJ6_getChars_ba4f3 34 = .ok (.bipush 100, 2) := by decide +kernel
theorem dJ6_getChars_ba4f3_36 : decode cJ6_getChars_ba4f3 36 = .ok (.imul, 1) := by decide +kernel
theorem dJ6_getChars_ba4f3_37 : decode cJ6_getChars_ba4f3 37 = .ok (.iload_n 0, 1) := by decide +kernel
theorem dJ6_getChars_ba4f3_38 : decode cJ6_getChars_ba4f3 38 = .ok (.isub, 1) := by decide +kernel
theorem dJ6_getChars_ba4f3_39 : decode cJ6_getChars_ba4f3 39 = .ok (.istore 4, 2) := by decide +kernel
theorem dJ6_getChars_ba4f3_41 : decode cJ6_getChars_ba4f3 41 = .ok (.iload_n 3, 1) := by decide +kernel
theorem dJ6_getChars_ba4f3_42 : decode cJ6_getChars_ba4f3 42 = .ok (.istore_n 0, 1) := by decide +kernel
theorem dJ6_getChars_ba4f3_43 : decode cJ6_getChars_ba4f3 43 = .ok (.aload_n 2, 1) := by decide +kernel
theorem dJ6_getChars_ba4f3_44 : decode cJ6_getChars_ba4f3 44 = .ok (.iinc 5 (-1), 3) := by decide +kernel
theorem dJ6_getChars_ba4f3_47 : decode cJ6_getChars_ba4f3 47 = .ok (.iload 5, 2) := by decide +kernel
theorem dJ6_getChars_ba4f3_49 : decode cJ6_getChars_ba4f3 49 = .ok (.getstatic 83, 3) := by decide +kernel
theorem dJ6_getChars_ba4f3_52 : decode cJ6_getChars_ba4f3 52 = .ok (.iload 4, 2) := by decide +kernel
theorem dJ6_getChars_ba4f3_54 : decode cJ6_getChars_ba4f3 54 = .ok (.baload, 1) := by decide +kernel
theorem dJ6_getChars_ba4f3_55 : decode cJ6_getChars_ba4f3 55 = .ok (.bastore, 1) := by decide +kernel
theorem dJ6_getChars_ba4f3_56 : decode cJ6_getChars_ba4f3 56 = .ok (.aload_n 2, 1) := by decide +kernel
theorem dJ6_getChars_ba4f3_57 : decode cJ6_getChars_ba4f3 57 = .ok (.iinc 5 (-1), 3) := by decide +kernel
theorem dJ6_getChars_ba4f3_60 : decode cJ6_getChars_ba4f3 60 = .ok (.iload 5, 2) := by decide +kernel
theorem dJ6_getChars_ba4f3_62 : decode cJ6_getChars_ba4f3 62 = .ok (.getstatic 87, 3) := by decide +kernel
theorem dJ6_getChars_ba4f3_65 : decode cJ6_getChars_ba4f3 65 = .ok (.iload 4, 2) := by decide +kernel
theorem dJ6_getChars_ba4f3_67 : decode cJ6_getChars_ba4f3 67 = .ok (.baload, 1) := by decide +kernel
theorem dJ6_getChars_ba4f3_68 : decode cJ6_getChars_ba4f3 68 = .ok (.bastore, 1) := by decide +kernel
theorem dJ6_getChars_ba4f3_69 : decode cJ6_getChars_ba4f3 69 = .ok (.goto (-47), 3) := by decide +kernel
theorem dJ6_getChars_ba4f3_72 : decode cJ6_getChars_ba4f3 72 = .ok (.aload_n 2, 1) := by decide +kernel
theorem dJ6_getChars_ba4f3_73 : decode cJ6_getChars_ba4f3 73 = .ok (.iinc 5 (-1), 3) := by decide +kernel
theorem dJ6_getChars_ba4f3_76 : decode cJ6_getChars_ba4f3 76 = .ok (.iload 5, 2) := by decide +kernel
theorem dJ6_getChars_ba4f3_78 : decode cJ6_getChars_ba4f3 78 = .ok (.getstatic 83, 3) := by decide +kernel
theorem dJ6_getChars_ba4f3_81 : decode cJ6_getChars_ba4f3 81 = .ok (.iload_n 0, 1) := by decide +kernel
theorem dJ6_getChars_ba4f3_82 : decode cJ6_getChars_ba4f3 82 = .ok (.ineg, 1) := by decide +kernel
theorem dJ6_getChars_ba4f3_83 : decode cJ6_getChars_ba4f3 83 = .ok (.baload, 1) := by decide +kernel
theorem dJ6_getChars_ba4f3_84 : decode cJ6_getChars_ba4f3 84 = .ok (.bastore, 1) := by decide +kernel
theorem dJ6_getChars_ba4f3_85 : decode cJ6_getChars_ba4f3 85 = .ok (.iload_n 0, 1) := by decide +kernel
theorem dJ6_getChars_ba4f3_86 : decode cJ6_getChars_ba4f3 86 = .ok (.bipush (-9), 2) := by decide +kernel
theorem dJ6_getChars_ba4f3_88 : decode cJ6_getChars_ba4f3 88 = .ok (.if_icmp .ge 16, 3) := by decide +kernel
theorem dJ6_getChars_ba4f3_91 : decode cJ6_getChars_ba4f3 91 = .ok (.aload_n 2, 1) := by decide +kernel
theorem dJ6_getChars_ba4f3_92 : decode cJ6_getChars_ba4f3 92 = .ok (.iinc 5 (-1), 3) := by decide +kernel
theorem dJ6_getChars_ba4f3_95 : decode cJ6_getChars_ba4f3 95 = .ok (.iload 5, 2) := by decide +kernel
theorem dJ6_getChars_ba4f3_97 : decode cJ6_getChars_ba4f3 97 = .ok (.getstatic 87, 3) := by decide +kernel
theorem dJ6_getChars_ba4f3_100 : decode cJ6_getChars_ba4f3 100 = .ok (.iload_n 0, 1) := by decide +kernel
theorem dJ6_getChars_ba4f3_101 : decode cJ6_getChars_ba4f3 101 = .ok (.ineg, 1) := by decide +kernel
theorem dJ6_getChars_ba4f3_102 : decode cJ6_getChars_ba4f3 102 = .ok (.baload, 1) := by decide +kernel
theorem dJ6_getChars_ba4f3_103 : decode cJ6_getChars_ba4f3 103 = .ok (.bastore, 1) := by decide +kernel
theorem dJ6_getChars_ba4f3_104 : decode cJ6_getChars_ba4f3 104 = .ok (.iload 6, 2) := by decide +kernel
theorem dJ6_getChars_ba4f3_106 : decode cJ6_getChars_ba4f3 106 = .ok (.ifCond .eq 12, 3) := by decide +kernel
theorem dJ6_getChars_ba4f3_109 : decode cJ6_getChars_ba4f3 109 = .ok (.aload_n 2, 1) := by decide +kernel
theorem dJ6_getChars_ba4f3_110 : decode cJ6_getChars_ba4f3 110 = .ok (.iinc 5 (-1), 3) := by decide +kernel
theorem dJ6_getChars_ba4f3_113 : decode cJ6_getChars_ba4f3 113 = .ok (.iload 5, 2) := by decide +kernel
theorem dJ6_getChars_ba4f3_115 : decode cJ6_getChars_ba4f3 115 = .ok (.bipush 45, 2) := by decide +kernel
theorem dJ6_getChars_ba4f3_117 : decode cJ6_getChars_ba4f3 117 = .ok (.bastore, 1) := by decide +kernel
theorem dJ6_getChars_ba4f3_118 : decode cJ6_getChars_ba4f3 118 = .ok (.iload 5, 2) := by decide +kernel
theorem dJ6_getChars_ba4f3_120 : decode cJ6_getChars_ba4f3 120 = .ok (.ireturn, 1) := by decide +kernel
theorem dJ6_stringSize_0f7a4_0 : decode cJ6_stringSize_0f7a4 0 = .ok (.iconst 1, 1) := by decide +kernel
theorem dJ6_stringSize_0f7a4_1 : decode cJ6_stringSize_0f7a4 1 = .ok (.istore_n 1, 1) := by decide +kernel
theorem dJ6_stringSize_0f7a4_2 : decode cJ6_stringSize_0f7a4 2 = .ok (.iload_n 0, 1) := by decide +kernel
theorem dJ6_stringSize_0f7a4_3 : decode cJ6_stringSize_0f7a4 3 = .ok (.ifCond .lt 8, 3) := by decide +kernel
theorem dJ6_stringSize_0f7a4_6 : decode cJ6_stringSize_0f7a4 6 = .ok (.iconst 0, 1) := by decide +kernel
theorem dJ6_stringSize_0f7a4_7 : decode cJ6_stringSize_0f7a4 7 = .ok (.istore_n 1, 1) := by decide +kernel
theorem dJ6_stringSize_0f7a4_8 : decode cJ6_stringSize_0f7a4 8 = .ok (.iload_n 0, 1) := by decide +kernel
theorem dJ6_stringSize_0f7a4_9 : decode cJ6_stringSize_0f7a4 9 = .ok (.ineg, 1) := by decide +kernel
theorem dJ6_stringSize_0f7a4_10 : decode cJ6_stringSize_0f7a4 10 = .ok (.istore_n 0, 1) := by decide +kernel
theorem dJ6_stringSize_0f7a4_11 : decode cJ6_stringSize_0f7a4 11 = .ok (.bipush (-10), 2) := by decide +kernel
theorem dJ6_stringSize_0f7a4_13 : decode cJ6_stringSize_0f7a4 13 = .ok (.istore_n 2, 1) := by decide +kernel
theorem dJ6_stringSize_0f7a4_14 : decode cJ6_stringSize_0f7a4 14 = .ok (.iconst 1, 1) := by decide +kernel
theorem dJ6_stringSize_0f7a4_15 : decode cJ6_stringSize_0f7a4 15 = .ok (.istore_n 3, 1) := by decide +kernel
theorem dJ6_stringSize_0f7a4_16 : decode cJ6_stringSize_0f7a4 16 = .ok (.iload_n 3, 1) := by decide +kernel
theorem dJ6_stringSize_0f7a4_17 : decode cJ6_stringSize_0f7a4 17 = .ok (.bipush 10, 2) := by decide +kernel
theorem dJ6_stringSize_0f7a4_19 : decode cJ6_stringSize_0f7a4 19 = .ok (.if_icmp .ge 23, 3) := by decide +kernel
theorem dJ6_stringSize_0f7a4_22 : decode cJ6_stringSize_0f7a4 22 = .ok (.iload_n 0, 1) := by decide +kernel
theorem dJ6_stringSize_0f7a4_23 : decode cJ6_stringSize_0f7a4 23 = .ok (.iload_n 2, 1) := by decide +kernel
theorem dJ6_stringSize_0f7a4_24 : decode cJ6_stringSize_0f7a4 24 = .ok (.if_icmp .le 7, 3) := by decide +kernel
theorem dJ6_stringSize_0f7a4_27 : decode cJ6_stringSize_0f7a4 27 = .ok (.iload_n 3, 1) := by decide +kernel
theorem dJ6_stringSize_0f7a4_28 : decode cJ6_stringSize_0f7a4 28 = .ok (.iload_n 1, 1) := by decide +kernel
theorem dJ6_stringSize_0f7a4_29 : decode cJ6_stringSize_0f7a4 29 = .ok (.iadd, 1) := by decide +kernel
theorem dJ6_stringSize_0f7a4_30 : decode cJ6_stringSize_0f7a4 30 = .ok (.ireturn, 1) := by decide +kernel
theorem dJ6_stringSize_0f7a4_31 : decode cJ6_stringSize_0f7a4 31 = .ok (.bipush 10, 2) := by decide +kernel
theorem dJ6_stringSize_0f7a4_33 : decode cJ6_stringSize_0f7a4 33 = .ok (.iload_n 2, 1) := by decide +kernel
theorem dJ6_stringSize_0f7a4_34 : decode cJ6_stringSize_0f7a4 34 = .ok (.imul, 1) := by decide +kernel
theorem dJ6_stringSize_0f7a4_35 : decode cJ6_stringSize_0f7a4 35 = .ok (.istore_n 2, 1) := by decide +kernel
theorem dJ6_stringSize_0f7a4_36 : decode cJ6_stringSize_0f7a4 36 = .ok (.iinc 3 1, 3) := by decide +kernel
theorem dJ6_stringSize_0f7a4_39 : decode cJ6_stringSize_0f7a4 39 = .ok (.goto (-23), 3) := by decide +kernel
theorem dJ6_stringSize_0f7a4_42 : decode cJ6_stringSize_0f7a4 42 = .ok (.bipush 10, 2) := by decide +kernel
theorem dJ6_stringSize_0f7a4_44 : decode cJ6_stringSize_0f7a4 44 = .ok (.iload_n 1, 1) := by decide +kernel
theorem dJ6_stringSize_0f7a4_45 : decode cJ6_stringSize_0f7a4 45 = .ok (.iadd, 1) := by decide +kernel
theorem dJ6_stringSize_0f7a4_46 : decode cJ6_stringSize_0f7a4 46 = .ok (.ireturn, 1) := by decide +kernel
theorem dJ9_abs_0f7a4_0 : decode cJ9_abs_0f7a4 0 = .ok (.iload_n 0, 1) := by decide +kernel
theorem dJ9_abs_0f7a4_1 : decode cJ9_abs_0f7a4 1 = .ok (.ifCond .ge 8, 3) := by decide +kernel
theorem dJ9_abs_0f7a4_4 : decode cJ9_abs_0f7a4 4 = .ok (.iload_n 0, 1) := by decide +kernel
theorem dJ9_abs_0f7a4_5 : decode cJ9_abs_0f7a4 5 = .ok (.ineg, 1) := by decide +kernel
theorem dJ9_abs_0f7a4_6 : decode cJ9_abs_0f7a4 6 = .ok (.goto 4, 3) := by decide +kernel
theorem dJ9_abs_0f7a4_9 : decode cJ9_abs_0f7a4 9 = .ok (.iload_n 0, 1) := by decide +kernel
theorem dJ9_abs_0f7a4_10 : decode cJ9_abs_0f7a4 10 = .ok (.ireturn, 1) := by decide +kernel
theorem dJ9_max_7cf53_0 : decode cJ9_max_7cf53 0 = .ok (.iload_n 0, 1) := by decide +kernel
theorem dJ9_max_7cf53_1 : decode cJ9_max_7cf53 1 = .ok (.iload_n 1, 1) := by decide +kernel
theorem dJ9_max_7cf53_2 : decode cJ9_max_7cf53 2 = .ok (.if_icmp .lt 7, 3) := by decide +kernel
theorem dJ9_max_7cf53_5 : decode cJ9_max_7cf53 5 = .ok (.iload_n 0, 1) := by decide +kernel
theorem dJ9_max_7cf53_6 : decode cJ9_max_7cf53 6 = .ok (.goto 4, 3) := by decide +kernel
theorem dJ9_max_7cf53_9 : decode cJ9_max_7cf53 9 = .ok (.iload_n 1, 1) := by decide +kernel
theorem dJ9_max_7cf53_10 : decode cJ9_max_7cf53 10 = .ok (.ireturn, 1) := by decide +kernel
theorem dJ9_min_7cf53_0 : decode cJ9_min_7cf53 0 = .ok (.iload_n 0, 1) := by decide +kernel
theorem dJ9_min_7cf53_1 : decode cJ9_min_7cf53 1 = .ok (.iload_n 1, 1) := by decide +kernel
theorem dJ9_min_7cf53_2 : decode cJ9_min_7cf53 2 = .ok (.if_icmp .gt 7, 3) := by decide +kernel
theorem dJ9_min_7cf53_5 : decode cJ9_min_7cf53 5 = .ok (.iload_n 0, 1) := by decide +kernel
theorem dJ9_min_7cf53_6 : decode cJ9_min_7cf53 6 = .ok (.goto 4, 3) := by decide +kernel
theorem dJ9_min_7cf53_9 : decode cJ9_min_7cf53 9 = .ok (.iload_n 1, 1) := by decide +kernel
theorem dJ9_min_7cf53_10 : decode cJ9_min_7cf53 10 = .ok (.ireturn, 1) := by decide +kernel
theorem dJ0_init_81219_0 : decode cJ0_init_81219 0 = .ok (.aload_n 0, 1) := by decide +kernel
theorem dJ0_init_81219_1 : decode cJ0_init_81219 1 = .ok (.aload_n 1, 1) := by decide +kernel
theorem dJ0_init_81219_2 : decode cJ0_init_81219 2 = .ok (.aconst_null, 1) := by decide +kernel
theorem dJ0_init_81219_3 : decode cJ0_init_81219 3 = .ok (.invokespecial 489, 3) := by decide +kernel
theorem dJ0_init_81219_6 : decode cJ0_init_81219 6 = .ok (.return_, 1) := by decide +kernel
theorem dJ0_length_8abf5_0 : decode cJ0_length_8abf5 0 = .ok (.aload_n 0, 1) := by decide +kernel
theorem dJ0_length_8abf5_1 : decode cJ0_length_8abf5 1 = .ok (.getfield 9, 3) := by decide +kernel
theorem dJ0_length_8abf5_4 : decode cJ0_length_8abf5 4 = .ok (.arraylength, 1) := by decide +kernel
theorem dJ0_length_8abf5_5 : decode cJ0_length_8abf5 5 = .ok (.aload_n 0, 1) := by decide +kernel
theorem dJ0_length_8abf5_6 : decode cJ0_length_8abf5 6 = .ok (.invokevirtual 335, 3) := by decide +kernel
theorem dJ0_length_8abf5_9 : decode cJ0_length_8abf5 9 = .ok (.ishr, 1) := by decide +kernel
theorem dJ0_length_8abf5_10 : decode cJ0_length_8abf5 10 = .ok (.ireturn, 1) := by decide +kernel
theorem dJ0_charAt_5068e_0 : decode cJ0_charAt_5068e 0 = .ok (.aload_n 0, 1) := by decide +kernel
theorem dJ0_charAt_5068e_1 : decode cJ0_charAt_5068e 1 = .ok (.invokevirtual 492, 3) := by decide +kernel
theorem dJ0_charAt_5068e_4 : decode cJ0_charAt_5068e 4 = .ok (.ifCond .eq 12, 3) := by decide +kernel
theorem dJ0_charAt_5068e_7 : decode cJ0_charAt_5068e 7 = .ok (.aload_n 0, 1) := by decide +kernel
theorem dJ0_charAt_5068e_8 : decode cJ0_charAt_5068e 8 = .ok (.getfield 9, 3) := by decide +kernel
theorem dJ0_charAt_5068e_11 : decode cJ0_charAt_5068e 11 = .ok (.iload_n 1, 1) := by decide +kernel
theorem dJ0_charAt_5068e_12 : decode cJ0_charAt_5068e 12 = .ok (.invokestatic 495, 3) := by decide +kernel
theorem dJ0_charAt_5068e_15 : decode cJ0_charAt_5068e 15 = .ok (.ireturn, 1) := by decide +kernel
theorem dJ0_charAt_5068e_16 : decode cJ0_charAt_5068e 16 = .ok (.aload_n 0, 1) := by decide +kernel
theorem dJ0_charAt_5068e_17 : decode cJ0_charAt_5068e 17 = .ok (.getfield 9, 3) := by decide +kernel
theorem dJ0_charAt_5068e_20 : decode cJ0_charAt_5068e 20 = .ok (.iload_n 1, 1) := by decide +kernel
theorem dJ0_charAt_5068e_21 : decode cJ0_charAt_5068e 21 = .ok (.invokestatic 498, 3) := by decide +kernel
theorem dJ0_charAt_5068e_24 : decode cJ0_charAt_5068e 24 = .ok (.ireturn, 1) := by decide +kernel
theorem dJ0_getBytes_840e7_0 : decode cJ0_getBytes_840e7 0 = .ok (.aload_n 0, 1) := by decide +kernel
theorem dJ0_getBytes_840e7_1 : decode cJ0_getBytes_840e7 1 = .ok (.invokevirtual 335, 3) := by decide +kernel
theorem dJ0_getBytes_840e7_4 : decode cJ0_getBytes_840e7 4 = .ok (.iload_n 3, 1) := by decide +kernel
theorem dJ0_getBytes_840e7_5 : decode cJ0_getBytes_840e7 5 = .ok (.if_icmp .ne 23, 3) := by decide +kernel
theorem dJ0_getBytes_840e7_8 : decode cJ0_getBytes_840e7 8 = .ok (.aload_n 0, 1) := by decide +kernel
theorem dJ0_getBytes_840e7_9 : decode cJ0_getBytes_840e7 9 = .ok (.getfield 9, 3) := by decide +kernel
theorem dJ0_getBytes_840e7_12 : decode cJ0_getBytes_840e7 12 = .ok (.iconst 0, 1) := by decide +kernel
theorem dJ0_getBytes_840e7_13 : decode cJ0_getBytes_840e7 13 = .ok (.aload_n 1, 1) := by decide +kernel
theorem dJ0_getBytes_840e7_14 : decode cJ0_getBytes_840e7 14 = .ok (.iload_n 2, 1) := by decide +kernel
theorem dJ0_getBytes_840e7_15 : decode cJ0_getBytes_840e7 15 = .ok (.iload_n 3, 1) := by decide +kernel
theorem dJ0_getBytes_840e7_16 : decode cJ0_getBytes_840e7 16 = .ok (.ishl, 1) := by decide +kernel
theorem dJ0_getBytes_840e7_17 : decode cJ0_getBytes_840e7 17 = .ok (.aload_n 0, 1) := by decide +kernel
theorem dJ0_getBytes_840e7_18 : decode cJ0_getBytes_840e7 18 = .ok (.getfield 9, 3) := by decide +kernel
theorem dJ0_getBytes_840e7_21 : decode cJ0_getBytes_840e7 21 = .ok (.arraylength, 1) := by decide +kernel
theorem dJ0_getBytes_840e7_22 : decode cJ0_getBytes_840e7 22 = .ok (.invokestatic 212, 3) := by decide +kernel
theorem dJ0_getBytes_840e7_25 : decode cJ0_getBytes_840e7 25 = .ok (.goto 18, 3) := by decide +kernel
theorem dJ0_getBytes_840e7_28 : decode cJ0_getBytes_840e7 28 = .ok (.aload_n 0, 1) := by decide +kernel
theorem dJ0_getBytes_840e7_29 : decode cJ0_getBytes_840e7 29 = .ok (.getfield 9, 3) := by decide +kernel
theorem dJ0_getBytes_840e7_32 : decode cJ0_getBytes_840e7 32 = .ok (.iconst 0, 1) := by decide +kernel
theorem dJ0_getBytes_840e7_33 : decode cJ0_getBytes_840e7 33 = .ok (.aload_n 1, 1) := by decide +kernel
theorem dJ0_getBytes_840e7_34 : decode cJ0_getBytes_840e7 34 = .ok (.iload_n 2, 1) := by decide +kernel
theorem dJ0_getBytes_840e7_35 : decode cJ0_getBytes_840e7 35 = .ok (.aload_n 0, 1) := by decide +kernel
theorem dJ0_getBytes_840e7_36 : decode cJ0_getBytes_840e7 36 = .ok (.getfield 9, 3) := by decide +kernel
theorem dJ0_getBytes_840e7_39 : decode cJ0_getBytes_840e7 39 = .ok (.arraylength, 1) := by decide +kernel
theorem dJ0_getBytes_840e7_40 : decode cJ0_getBytes_840e7 40 = .ok (.invokestatic 106, 3) := by decide +kernel
theorem dJ0_getBytes_840e7_43 : decode cJ0_getBytes_840e7 43 = .ok (.return_, 1) := by decide +kernel
theorem dJ0_init_db425_0 : decode cJ0_init_db425 0 = .ok (.aload_n 0, 1) := by decide +kernel
theorem dJ0_init_db425_1 : decode cJ0_init_db425 1 = .ok (.invokespecial 1, 3) := by decide +kernel
theorem dJ0_init_db425_4 : decode cJ0_init_db425 4 = .ok (.aload_n 1, 1) := by decide +kernel
theorem dJ0_init_db425_5 : decode cJ0_init_db425 5 = .ok (.invokevirtual 552, 3) := by decide +kernel
theorem dJ0_init_db425_8 : decode cJ0_init_db425 8 = .ok (.astore_n 3, 1) := by decide +kernel
theorem dJ0_init_db425_9 : decode cJ0_init_db425 9 = .ok (.aload_n 1, 1) := by decide +kernel
theorem dJ0_init_db425_10 : decode cJ0_init_db425 10 = .ok (.invokevirtual 549, 3) := by decide +kernel
theorem dJ0_init_db425_13 : decode cJ0_init_db425 13 = .ok (.istore 4, 2) := by decide +kernel
theorem dJ0_init_db425_15 : decode cJ0_init_db425 15 = .ok (.aload_n 1, 1) := by decide +kernel
theorem dJ0_init_db425_16 : decode cJ0_init_db425 16 = .ok (.invokevirtual 1047, 3) := by decide +kernel
theorem dJ0_init_db425_19 : decode cJ0_init_db425 19 = .ok (.ifCond .eq 22, 3) := by decide +kernel
theorem dJ0_init_db425_22 : decode cJ0_init_db425 22 = .ok (.aload_n 0, 1) := by decide +kernel
theorem dJ0_init_db425_23 : decode cJ0_init_db425 23 = .ok (.iconst 0, 1) := by decide +kernel
theorem dJ0_init_db425_24 : decode cJ0_init_db425 24 = .ok (.putfield 15, 3) := by decide +kernel
theorem dJ0_init_db425_27 : decode cJ0_init_db425 27 = .ok (.aload_n 0, 1) := by decide +kernel
theorem dJ0_init_db425_28 : decode cJ0_init_db425 28 = .ok (.aload_n 3, 1) := by decide +kernel
theorem dJ0_init_db425_29 : decode cJ0_init_db425 29 = .ok (.iconst 0, 1) := by decide +kernel
theorem dJ0_init_db425_30 : decode cJ0_init_db425 30 = .ok (.iload 4, 2) := by decide +kernel
theorem dJ0_init_db425_32 : decode cJ0_init_db425 32 = .ok (.invokestatic 54, 3) := by decide +kernel
theorem dJ0_init_db425_35 : decode cJ0_init_db425 35 = .ok (.putfield 9, 3) := by decide +kernel
theorem dJ0_init_db425_38 : decode cJ0_init_db425 38 = .ok (.goto 59, 3) := by decide +kernel
theorem dJ0_init_db425_41 : decode cJ0_init_db425 41 = .ok (.getstatic 38, 3) := by decide +kernel
theorem dJ0_init_db425_44 : decode cJ0_init_db425 44 = .ok (.ifCond .eq 35, 3) := by decide +kernel
theorem dJ0_init_db425_47 : decode cJ0_init_db425 47 = .ok (.aload_n 1, 1) := by decide +kernel
theorem dJ0_init_db425_48 : decode cJ0_init_db425 48 = .ok (.getfield 1048, 3) := by decide +kernel
theorem dJ0_init_db425_51 : decode cJ0_init_db425 51 = .ok (.ifCond .eq 28, 3) := by decide +kernel
theorem dJ0_init_db425_54 : decode cJ0_init_db425 54 = .ok (.aload_n 0, 1) := by decide +kernel
theorem dJ0_init_db425_55 : decode cJ0_init_db425 55 = .ok (.aload_n 3, 1) := by decide +kernel
theorem dJ0_init_db425_56 : decode cJ0_init_db425 56 = .ok (.iconst 0, 1) := by decide +kernel
theorem dJ0_init_db425_57 : decode cJ0_init_db425 57 = .ok (.iload 4, 2) := by decide +kernel
theorem dJ0_init_db425_59 : decode cJ0_init_db425 59 = .ok (.invokestatic 1051, 3) := by decide +kernel
theorem dJ0_init_db425_62 : decode cJ0_init_db425 62 = .ok (.putfield 9, 3) := by decide +kernel
theorem dJ0_init_db425_65 : decode cJ0_init_db425 65 = .ok (.aload_n 0, 1) := by decide +kernel
theorem dJ0_init_db425_66 : decode cJ0_init_db425 66 = .ok (.aload_n 0, 1) := by decide +kernel
theorem dJ0_init_db425_67 : decode cJ0_init_db425 67 = .ok (.getfield 9, 3) := by decide +kernel
theorem dJ0_init_db425_70 : decode cJ0_init_db425 70 = .ok (.iload 4, 2) := by decide +kernel
theorem dJ0_init_db425_72 : decode cJ0_init_db425 72 = .ok (.invokestatic 47, 3) := by decide +kernel
theorem dJ0_init_db425_75 : decode cJ0_init_db425 75 = .ok (.putfield 15, 3) := by decide +kernel
theorem dJ0_init_db425_78 : decode cJ0_init_db425 78 = .ok (.return_, 1) := by decide +kernel
theorem dJ0_init_db425_79 : decode cJ0_init_db425 79 = .ok (.aload_n 0, 1) := by decide +kernel
theorem dJ0_init_db425_80 : decode cJ0_init_db425 80 = .ok (.iconst 1, 1) := by decide +kernel
theorem dJ0_init_db425_81 : decode cJ0_init_db425 81 = .ok (.putfield 15, 3) := by decide +kernel
theorem dJ0_init_db425_84 : decode cJ0_init_db425 84 = .ok (.aload_n 0, 1) := by decide +kernel
theorem dJ0_init_db425_85 : decode cJ0_init_db425 85 = .ok (.aload_n 3, 1) := by decide +kernel
theorem dJ0_init_db425_86 : decode cJ0_init_db425 86 = .ok (.iconst 0, 1) := by decide +kernel
theorem dJ0_init_db425_87 : decode cJ0_init_db425 87 = .ok (.iload 4, 2) := by decide +kernel
theorem dJ0_init_db425_89 : decode cJ0_init_db425 89 = .ok (.iconst 1, 1) := by decide +kernel
theorem dJ0_init_db425_90 : decode cJ0_init_db425 90 = .ok (.ishl, 1) := by decide +kernel
theorem dJ0_init_db425_91 : decode cJ0_init_db425 91 = .ok (.invokestatic 54, 3) := by decide +kernel
theorem dJ0_init_db425_94 : decode cJ0_init_db425 94 = .ok (.putfield 9, 3) := by decide +kernel
theorem dJ0_init_db425_97 : decode cJ0_init_db425 97 = .ok (.return_, 1) := by decide +kernel
theorem dJ0_coder_7d493_0 : decode cJ0_coder_7d493 0 = .ok (.getstatic 38, 3) := by decide +kernel
theorem dJ0_coder_7d493_3 : decode cJ0_coder_7d493 3 = .ok (.ifCond .eq 10, 3) := by decide +kernel
theorem dJ0_coder_7d493_6 : decode cJ0_coder_7d493 6 = .ok (.aload_n 0, 1) := by decide +kernel
theorem dJ0_coder_7d493_7 : decode cJ0_coder_7d493 7 = .ok (.getfield 15, 3) := by decide +kernel
theorem dJ0_coder_7d493_10 : decode cJ0_coder_7d493 10 = .ok (.goto 4, 3) := by decide +kernel
theorem dJ0_coder_7d493_13 : decode cJ0_coder_7d493 13 = .ok (.iconst 1, 1) := by decide +kernel
theorem dJ0_coder_7d493_14 : decode cJ0_coder_7d493 14 = .ok (.ireturn, 1) := by decide +kernel
theorem dJ0_isLatin1_aae02_0 : decode cJ0_isLatin1_aae02 0 = .ok (.getstatic 38, 3) := by decide +kernel
theorem dJ0_isLatin1_aae02_3 : decode cJ0_isLatin1_aae02 3 = .ok (.ifCond .eq 14, 3) := by decide +kernel
theorem dJ0_isLatin1_aae02_6 : decode cJ0_isLatin1_aae02 6 = .ok (.aload_n 0, 1) := by decide +kernel
theorem dJ0_isLatin1_aae02_7 : decode cJ0_isLatin1_aae02 7 = .ok (.getfield 15, 3) := by decide +kernel
theorem dJ0_isLatin1_aae02_10 : decode cJ0_isLatin1_aae02 10 = .ok (.ifCond .ne 7, 3) := by decide +kernel
theorem dJ0_isLatin1_aae02_13 : decode cJ0_isLatin1_aae02 13 = .ok (.iconst 1, 1) := by decide +kernel
theorem dJ0_isLatin1_aae02_14 : decode cJ0_isLatin1_aae02 14 = .ok (.goto 4, 3) := by decide +kernel
theorem dJ0_isLatin1_aae02_17 : decode cJ0_isLatin1_aae02 17 = .ok (.iconst 0, 1) := by decide +kernel
theorem dJ0_isLatin1_aae02_18 : decode cJ0_isLatin1_aae02 18 = .ok (.ireturn, 1) := by decide +kernel
theorem dJ0_checkIndex_df160_0 : decode cJ0_checkIndex_df160 0 = .ok (.iload_n 0, 1) := by decide +kernel
theorem dJ0_checkIndex_df160_1 : decode cJ0_checkIndex_df160 1 = .ok (.iload_n 1, 1) := by decide +kernel
theorem dJ0_checkIndex_df160_2 : decode cJ0_checkIndex_df160 2 = .ok (.getstatic 1053, 3) := by decide +kernel
theorem dJ0_checkIndex_df160_5 : decode cJ0_checkIndex_df160 5 = .ok (.invokestatic 1059, 3) := by decide +kernel
theorem dJ0_checkIndex_df160_8 : decode cJ0_checkIndex_df160 8 = .ok (.pop, 1) := by decide +kernel
theorem dJ0_checkIndex_df160_9 : decode cJ0_checkIndex_df160 9 = .ok (.return_, 1) := by decide +kernel
theorem dJ0_checkBoundsOffCount_cabcc_0 : decode cJ0_checkBoundsOffCount_cabcc 0 = .ok (.iload_n 0, 1) := by decide +kernel
theorem dJ0_checkBoundsOffCount_cabcc_1 : decode cJ0_checkBoundsOffCount_cabcc 1 = .ok (.iload_n 1, 1) := by decide +kernel
theorem dJ0_checkBoundsOffCount_cabcc_2 : decode cJ0_checkBoundsOffCount_cabcc 2 = .ok (.iload_n 2, 1) := by decide +kernel
theorem dJ0_checkBoundsOffCount_cabcc_3 : decode cJ0_checkBoundsOffCount_cabcc 3 = .ok (.getstatic 1053, 3) := by decide +kernel
theorem dJ0_checkBoundsOffCount_cabcc_6 : decode cJ0_checkBoundsOffCount_cabcc 6 = .ok (.invokestatic 1065, 3) := by decide +kernel
theorem dJ0_checkBoundsOffCount_cabcc_9 : decode cJ0_checkBoundsOffCount_cabcc 9 = .ok (.ireturn, 1) := by decide +kernel
theorem dJ0_checkBoundsBeginEnd_23922_0 : decode cJ0_checkBoundsBeginEnd_23922 0 = .ok (.iload_n 0, 1) := by decide +kernel
theorem dJ0_checkBoundsBeginEnd_23922_1 : decode cJ0_checkBoundsBeginEnd_23922 1 = .ok (.iload_n 1, 1) := by decide +kernel
theorem dJ0_checkBoundsBeginEnd_23922_2 : decode cJ0_checkBoundsBeginEnd_23922 2 = .ok (.iload_n 2, 1) := by decide +kernel
theorem dJ0_checkBoundsBeginEnd_23922_3 : decode cJ0_checkBoundsBeginEnd_23922 3 = .ok (.getstatic 1053, 3) := by decide +kernel
theorem dJ0_checkBoundsBeginEnd_23922_6 : decode cJ0_checkBoundsBeginEnd_23922 6 = .ok (.invokestatic 1062, 3) := by decide +kernel
theorem dJ0_checkBoundsBeginEnd_23922_9 : decode cJ0_checkBoundsBeginEnd_23922 9 = .ok (.pop, 1) := by decide +kernel
theorem dJ0_checkBoundsBeginEnd_23922_10 : decode cJ0_checkBoundsBeginEnd_23922 10 = .ok (.return_, 1) := by decide +kernel
theorem dJ4_init_da8c8_0 : decode cJ4_init_da8c8 0 = .ok (.aload_n 0, 1) := by decide +kernel
theorem dJ4_init_da8c8_1 : decode cJ4_init_da8c8 1 = .ok (.bipush 16, 2) := by decide +kernel
theorem dJ4_init_da8c8_3 : decode cJ4_init_da8c8 3 = .ok (.invokespecial 1, 3) := by decide +kernel
theorem dJ4_init_da8c8_6 : decode cJ4_init_da8c8 6 = .ok (.return_, 1) := by decide +kernel
theorem dJ4_init_a7421_0 : decode cJ4_init_a7421 0 = .ok (.aload_n 0, 1) := by decide +kernel
theorem dJ4_init_a7421_1 : decode cJ4_init_a7421 1 = .ok (.aload_n 1, 1) := by decide +kernel
theorem dJ4_init_a7421_2 : decode cJ4_init_a7421 2 = .ok (.invokespecial 7, 3) := by decide +kernel
theorem dJ4_init_a7421_5 : decode cJ4_init_a7421 5 = .ok (.return_, 1) := by decide +kernel
theorem dJ4_append_15ec4_0 : decode cJ4_append_15ec4 0 = .ok (.aload_n 0, 1) := by decide +kernel
theorem dJ4_append_15ec4_1 : decode cJ4_append_15ec4 1 = .ok (.aload_n 1, 1) := by decide +kernel
theorem dJ4_append_15ec4_2 : decode cJ4_append_15ec4 2 = .ok (.invokespecial 29, 3) := by decide +kernel
theorem dJ4_append_15ec4_5 : decode cJ4_append_15ec4 5 = .ok (.pop, 1) := by decide +kernel
theorem dJ4_append_15ec4_6 : decode cJ4_append_15ec4 6 = .ok (.aload_n 0, 1) := by decide +kernel
theorem dJ4_append_15ec4_7 : decode cJ4_append_15ec4 7 = .ok (.areturn, 1) := by decide +kernel
theorem dJ4_append_cf468_0 : decode cJ4_append_cf468 0 = .ok (.aload_n 0, 1) := by decide +kernel
theorem dJ4_append_cf468_1 : decode cJ4_append_cf468 1 = .ok (.iload_n 1, 1) := by decide +kernel
theorem dJ4_append_cf468_2 : decode cJ4_append_cf468 2 = .ok (.invokespecial 50, 3) := by decide +kernel
theorem dJ4_append_cf468_5 : decode cJ4_append_cf468 5 = .ok (.pop, 1) := by decide +kernel
theorem dJ4_append_cf468_6 : decode cJ4_append_cf468 6 = .ok (.aload_n 0, 1) := by decide +kernel
theorem dJ4_append_cf468_7 : decode cJ4_append_cf468 7 = .ok (.areturn, 1) := by decide +kernel
theorem dJ4_append_bf812_0 : decode cJ4_append_bf812 0 = .ok (.aload_n 0, 1) := by decide +kernel
theorem dJ4_append_bf812_1 : decode cJ4_append_bf812 1 = .ok (.iload_n 1, 1) := by decide +kernel
theorem dJ4_append_bf812_2 : decode cJ4_append_bf812 2 = .ok (.invokespecial 53, 3) := by decide +kernel
theorem dJ4_append_bf812_5 : decode cJ4_append_bf812 5 = .ok (.pop, 1) := by decide +kernel
theorem dJ4_append_bf812_6 : decode cJ4_append_bf812 6 = .ok (.aload_n 0, 1) := by decide +kernel
theorem dJ4_append_bf812_7 : decode cJ4_append_bf812 7 = .ok (.areturn, 1) := by decide +kernel
theorem dJ4_toString_0e30d_0 : decode cJ4_toString_0e30d 0 = .ok (.new 18, 3) := by decide +kernel
theorem dJ4_toString_0e30d_3 : decode cJ4_toString_0e30d 3 = .ok (.dup, 1) := by decide +kernel
theorem dJ4_toString_0e30d_4 : decode cJ4_toString_0e30d 4 = .ok (.aload_n 0, 1) := by decide +kernel
theorem dJ4_toString_0e30d_5 : decode cJ4_toString_0e30d 5 = .ok (.invokespecial 137, 3) := by decide +kernel
theorem dJ4_toString_0e30d_8 : decode cJ4_toString_0e30d 8 = .ok (.areturn, 1) := by decide +kernel
theorem dJ4_append_cf1ce_0 : decode cJ4_append_cf1ce 0 = .ok (.aload_n 0, 1) := by decide +kernel
theorem dJ4_append_cf1ce_1 : decode cJ4_append_cf1ce 1 = .ok (.aload_n 1, 1) := by decide +kernel
theorem dJ4_append_cf1ce_2 : decode cJ4_append_cf1ce 2 = .ok (.invokevirtual 23, 3) := by decide +kernel
theorem dJ4_append_cf1ce_5 : decode cJ4_append_cf1ce 5 = .ok (.areturn, 1) := by decide +kernel
theorem dJ4_length_8abf5_0 : decode cJ4_length_8abf5 0 = .ok (.aload_n 0, 1) := by decide +kernel
theorem dJ4_length_8abf5_1 : decode cJ4_length_8abf5 1 = .ok (.invokespecial 343, 3) := by decide +kernel
theorem dJ4_length_8abf5_4 : decode cJ4_length_8abf5 4 = .ok (.ireturn, 1) := by decide +kernel
theorem dJ1_charAt_3b067_0 : decode cJ1_charAt_3b067 0 = .ok (.iload_n 1, 1) := by decide +kernel
theorem dJ1_charAt_3b067_1 : decode cJ1_charAt_3b067 1 = .ok (.aload_n 0, 1) := by decide +kernel
theorem dJ1_charAt_3b067_2 : decode cJ1_charAt_3b067 2 = .ok (.arraylength, 1) := by decide +kernel
theorem dJ1_charAt_3b067_3 : decode cJ1_charAt_3b067 3 = .ok (.invokestatic 9, 3) := by decide +kernel
theorem dJ1_charAt_3b067_6 : decode cJ1_charAt_3b067 6 = .ok (.aload_n 0, 1) := by decide +kernel
theorem dJ1_charAt_3b067_7 : decode cJ1_charAt_3b067 7 = .ok (.iload_n 1, 1) := by decide +kernel
theorem dJ1_charAt_3b067_8 : decode cJ1_charAt_3b067 8 = .ok (.baload, 1) := by decide +kernel
theorem dJ1_charAt_3b067_9 : decode cJ1_charAt_3b067 9 = .ok (.sipush 255, 3) := by decide +kernel
theorem dJ1_charAt_3b067_12 : decode cJ1_charAt_3b067 12 = .ok (.iand, 1) := by decide +kernel
theorem dJ1_charAt_3b067_13 : decode cJ1_charAt_3b067 13 = .ok (.i2c, 1) := by decide +kernel
theorem dJ1_charAt_3b067_14 : decode cJ1_charAt_3b067 14 = .ok (.ireturn, 1) := by decide +kernel
theorem dJ1_canEncode_fc78d_0 : decode cJ1_canEncode_fc78d 0 = .ok (.iload_n 0, 1) := by decide +kernel
theorem dJ1_canEncode_fc78d_1 : decode cJ1_canEncode_fc78d 1 = .ok (.sipush 255, 3) := by decide +kernel
theorem dJ1_canEncode_fc78d_4 : decode cJ1_canEncode_fc78d 4 = .ok (.if_icmp .gt 7, 3) := by decide +kernel
theorem dJ1_canEncode_fc78d_7 : decode cJ1_canEncode_fc78d 7 = .ok (.iconst 1, 1) := by decide +kernel
theorem dJ1_canEncode_fc78d_8 : decode cJ1_canEncode_fc78d 8 = .ok (.goto 4, 3) := by decide +kernel
theorem dJ1_canEncode_fc78d_11 : decode cJ1_canEncode_fc78d 11 = .ok (.iconst 0, 1) := by decide +kernel
theorem dJ1_canEncode_fc78d_12 : decode cJ1_canEncode_fc78d 12 = .ok (.ireturn, 1) := by decide +kernel
theorem dJ1_inflate_0e8fd_0 : decode cJ1_inflate_0e8fd 0 = .ok (.aload_n 0, 1) := by decide +kernel
theorem dJ1_inflate_0e8fd_1 : decode cJ1_inflate_0e8fd 1 = .ok (.iload_n 1, 1) := by decide +kernel
theorem dJ1_inflate_0e8fd_2 : decode cJ1_inflate_0e8fd 2 = .ok (.aload_n 2, 1) := by decide +kernel
theorem dJ1_inflate_0e8fd_3 : decode cJ1_inflate_0e8fd 3 = .ok (.iload_n 3, 1) := by decide +kernel
theorem dJ1_inflate_0e8fd_4 : decode cJ1_inflate_0e8fd 4 = .ok (.iload 4, 2) := by decide +kernel
theorem dJ1_inflate_0e8fd_6 : decode cJ1_inflate_0e8fd 6 = .ok (.invokestatic 240, 3) := by decide +kernel
theorem dJ1_inflate_0e8fd_9 : decode cJ1_inflate_0e8fd 9 = .ok (.return_, 1) := by decide +kernel
theorem dJ2_newBytesFor_77867_0 : decode cJ2_newBytesFor_77867 0 = .ok (.iload_n 0, 1) := by decide +kernel
theorem dJ2_newBytesFor_77867_1 : decode cJ2_newBytesFor_77867 1 = .ok (.invokestatic 11, 3) := by decide +kernel
theorem dJ2_newBytesFor_77867_4 : decode cJ2_newBytesFor_77867 4 = .ok (.newarray .byte, 2) := by decide +kernel
theorem dJ2_newBytesFor_77867_6 : decode cJ2_newBytesFor_77867 6 = .ok (.areturn, 1) := by decide +kernel
theorem dJ2_newBytesLength_0f7a4_0 : decode cJ2_newBytesLength_0f7a4 0 = .ok (.iload_n 0, 1) := by decide +kernel
theorem dJ2_newBytesLength_0f7a4_1 : decode cJ2_newBytesLength_0f7a4 1 = .ok (.ifCond .ge 11, 3) := by decide +kernel
theorem dJ2_newBytesLength_0f7a4_4 : decode cJ2_newBytesLength_0f7a4 4 = .ok (.new 17, 3) := by decide +kernel
theorem dJ2_newBytesLength_0f7a4_7 : decode cJ2_newBytesLength_0f7a4 7 = .ok (.dup, 1) := by decide +kernel
theorem dJ2_newBytesLength_0f7a4_8 : decode cJ2_newBytesLength_0f7a4 8 = .ok (.invokespecial 19, 3) := by decide +kernel
theorem dJ2_newBytesLength_0f7a4_11 : decode cJ2_newBytesLength_0f7a4 11 = .ok (.athrow, 1) := by decide +kernel
theorem dJ2_newBytesLength_0f7a4_12 : decode cJ2_newBytesLength_0f7a4 12 = .ok (.iload_n 0, 1) := by decide +kernel
theorem dJ2_newBytesLength_0f7a4_13 : decode cJ2_newBytesLength_0f7a4 13 = .ok (.ldc 20, 2) := by decide +kernel
theorem dJ2_newBytesLength_0f7a4_15 : decode cJ2_newBytesLength_0f7a4 15 = .ok (.if_icmp .lt 40, 3) := by decide +kernel
theorem dJ2_newBytesLength_0f7a4_18 : decode cJ2_newBytesLength_0f7a4 18 = .ok (.new 21, 3) := by decide +kernel
theorem dJ2_newBytesLength_0f7a4_21 : decode cJ2_newBytesLength_0f7a4 21 = .ok (.dup, 1) := by decide +kernel
theorem dJ2_newBytesLength_0f7a4_22 : decode cJ2_newBytesLength_0f7a4 22 = .ok (.new 23, 3) := by decide +kernel
theorem dJ2_newBytesLength_0f7a4_25 : decode cJ2_newBytesLength_0f7a4 25 = .ok (.dup, 1) := by decide +kernel
theorem dJ2_newBytesLength_0f7a4_26 : decode cJ2_newBytesLength_0f7a4 26 = .ok (.invokespecial 25, 3) := by decide +kernel
theorem dJ2_newBytesLength_0f7a4_29 : decode cJ2_newBytesLength_0f7a4 29 = .ok (.ldc 26, 2) := by decide +kernel
theorem dJ2_newBytesLength_0f7a4_31 : decode cJ2_newBytesLength_0f7a4 31 = .ok (.invokevirtual 28, 3) := by decide +kernel
theorem dJ2_newBytesLength_0f7a4_34 : decode cJ2_newBytesLength_0f7a4 34 = .ok (.iload_n 0, 1) := by decide +kernel
theorem dJ2_newBytesLength_0f7a4_35 : decode cJ2_newBytesLength_0f7a4 35 = .ok (.invokevirtual 32, 3) := by decide +kernel
theorem dJ2_newBytesLength_0f7a4_38 : decode cJ2_newBytesLength_0f7a4 38 = .ok (.ldc 35, 2) := by decide +kernel
theorem dJ2_newBytesLength_0f7a4_40 : decode cJ2_newBytesLength_0f7a4 40 = .ok (.invokevirtual 28, 3) := by decide +kernel
theorem dJ2_newBytesLength_0f7a4_43 : decode cJ2_newBytesLength_0f7a4 43 = .ok (.ldc 20, 2) := by decide +kernel
theorem dJ2_newBytesLength_0f7a4_45 : decode cJ2_newBytesLength_0f7a4 45 = .ok (.invokevirtual 32, 3) := by decide +kernel
theorem dJ2_newBytesLength_0f7a4_48 : decode cJ2_newBytesLength_0f7a4 48 = .ok (.invokevirtual 37, 3) := by decide +kernel
theorem dJ2_newBytesLength_0f7a4_51 : decode cJ2_newBytesLength_0f7a4 51 = .ok (.invokespecial 41, 3) := by decide +kernel
theorem dJ2_newBytesLength_0f7a4_54 : decode cJ2_newBytesLength_0f7a4 54 = .ok (.athrow, 1) := by decide +kernel
theorem dJ2_newBytesLength_0f7a4_55 : decode cJ2_newBytesLength_0f7a4 55 = .ok (.iload_n 0, 1) := by decide +kernel
theorem dJ2_newBytesLength_0f7a4_56 : decode cJ2_newBytesLength_0f7a4 56 = .ok (.iconst 1, 1) := by decide +kernel
theorem dJ2_newBytesLength_0f7a4_57 : decode cJ2_newBytesLength_0f7a4 57 = .ok (.ishl, 1) := by decide +kernel
theorem dJ2_newBytesLength_0f7a4_58 : decode cJ2_newBytesLength_0f7a4 58 = .ok (.ireturn, 1) := by decide +kernel
theorem dJ2_putChar_b72d1_0 : decode cJ2_putChar_b72d1 0 = .ok (.getstatic 44, 3) := by decide +kernel
theorem dJ2_putChar_b72d1_3 : decode cJ2_putChar_b72d1 3 = .ok (.ifCond .ne 25, 3) := by decide +kernel
theorem dJ2_putChar_b72d1_6 : decode cJ2_putChar_b72d1 6 = .ok (.iload_n 1, 1) := by decide +kernel
theorem dJ2_putChar_b72d1_7 : decode cJ2_putChar_b72d1 7 = .ok (.ifCond .lt 11, 3) := by decide +kernel
theorem dJ2_putChar_b72d1_10 : decode cJ2_putChar_b72d1 10 = .ok (.iload_n 1, 1) := by decide +kernel
theorem dJ2_putChar_b72d1_11 : decode cJ2_putChar_b72d1 11 = .ok (.aload_n 0, 1) := by decide +kernel
theorem dJ2_putChar_b72d1_12 : decode cJ2_putChar_b72d1 12 = .ok (.invokestatic 48, 3) := by decide +kernel
theorem dJ2_putChar_b72d1_15 : decode cJ2_putChar_b72d1 15 = .ok (.if_icmp .lt 13, 3) := by decide +kernel
theorem dJ2_putChar_b72d1_18 : decode cJ2_putChar_b72d1 18 = .ok (.new 52, 3) := by decide +kernel
theorem dJ2_putChar_b72d1_21 : decode cJ2_putChar_b72d1 21 = .ok (.dup, 1) := by decide +kernel
theorem dJ2_putChar_b72d1_22 : decode cJ2_putChar_b72d1 22 = .ok (.ldc 54, 2) := by decide +kernel
theorem dJ2_putChar_b72d1_24 : decode cJ2_putChar_b72d1 24 = .ok (.invokespecial 56, 3) := by decide +kernel
theorem dJ2_putChar_b72d1_27 : decode cJ2_putChar_b72d1 27 = .ok (.athrow, 1) := by decide +kernel
theorem dJ2_putChar_b72d1_28 : decode cJ2_putChar_b72d1 28 = .ok (.iload_n 1, 1) := by decide +kernel
theorem dJ2_putChar_b72d1_29 : decode cJ2_putChar_b72d1 29 = .ok (.iconst 1, 1) := by decide +kernel
theorem dJ2_putChar_b72d1_30 : decode cJ2_putChar_b72d1 30 = .ok (.ishl, 1) := by decide +kernel
theorem dJ2_putChar_b72d1_31 : decode cJ2_putChar_b72d1 31 = .ok (.istore_n 1, 1) := by decide +kernel
theorem dJ2_putChar_b72d1_32 : decode cJ2_putChar_b72d1 32 = .ok (.aload_n 0, 1) := by decide +kernel
theorem dJ2_putChar_b72d1_33 : decode cJ2_putChar_b72d1 33 = .ok (.iload_n 1, 1) := by decide +kernel
theorem dJ2_putChar_b72d1_34 : decode cJ2_putChar_b72d1 34 = .ok (.iinc 1 1, 3) := by decide +kernel
theorem dJ2_putChar_b72d1_37 : decode cJ2_putChar_b72d1 37 = .ok (.iload_n 2, 1) := by decide +kernel
theorem dJ2_putChar_b72d1_38 : decode cJ2_putChar_b72d1 38 = .ok (.getstatic 59, 3) := by decide +kernel
theorem dJ2_putChar_b72d1_41 : decode cJ2_putChar_b72d1 41 = .ok (.ishr, 1) := by decide +kernel
theorem dJ2_putChar_b72d1_42 : decode cJ2_putChar_b72d1 42 = .ok (.i2b, 1) := by decide +kernel
theorem dJ2_putChar_b72d1_43 : decode cJ2_putChar_b72d1 43 = .ok (.bastore, 1) := by decide +kernel
theorem dJ2_putChar_b72d1_44 : decode cJ2_putChar_b72d1 44 = .ok (.aload_n 0, 1) := by decide +kernel
theorem dJ2_putChar_b72d1_45 : decode cJ2_putChar_b72d1 45 = .ok (.iload_n 1, 1) := by decide +kernel
theorem dJ2_putChar_b72d1_46 : decode cJ2_putChar_b72d1 46 = .ok (.iload_n 2, 1) := by decide +kernel
theorem dJ2_putChar_b72d1_47 : decode cJ2_putChar_b72d1 47 = .ok (.getstatic 63, 3) := by decide +kernel
theorem dJ2_putChar_b72d1_50 : decode cJ2_putChar_b72d1 50 = .ok (.ishr, 1) := by decide +kernel
theorem dJ2_putChar_b72d1_51 : decode cJ2_putChar_b72d1 51 = .ok (.i2b, 1) := by decide +kernel
theorem dJ2_putChar_b72d1_52 : decode cJ2_putChar_b72d1 52 = .ok (.bastore, 1) := by decide +kernel
theorem dJ2_putChar_b72d1_53 : decode cJ2_putChar_b72d1 53 = .ok (.return_, 1) := by decide +kernel
theorem dJ2_getChar_3b067_0 : decode cJ2_getChar_3b067 0 = .ok (.getstatic 44, 3) := by decide +kernel
theorem dJ2_getChar_3b067_3 : decode cJ2_getChar_3b067 3 = .ok (.ifCond .ne 25, 3) := by decide +kernel
theorem dJ2_getChar_3b067_6 : decode cJ2_getChar_3b067 6 = .ok (.iload_n 1, 1) := by decide +kernel
theorem dJ2_getChar_3b067_7 : decode cJ2_getChar_3b067 7 = .ok (.ifCond .lt 11, 3) := by decide +kernel
theorem dJ2_getChar_3b067_10 : decode cJ2_getChar_3b067 10 = .ok (.iload_n 1, 1) := by decide +kernel
theorem dJ2_getChar_3b067_11 : decode cJ2_getChar_3b067 11 = .ok (.aload_n 0, 1) := by decide +kernel
theorem dJ2_getChar_3b067_12 : decode cJ2_getChar_3b067 12 = .ok (.invokestatic 48, 3) := by decide +kernel
theorem dJ2_getChar_3b067_15 : decode cJ2_getChar_3b067 15 = .ok (.if_icmp .lt 13, 3) := by decide +kernel
theorem dJ2_getChar_3b067_18 : decode cJ2_getChar_3b067 18 = .ok (.new 52, 3) := by decide +kernel
theorem dJ2_getChar_3b067_21 : decode cJ2_getChar_3b067 21 = .ok (.dup, 1) := by decide +kernel
theorem dJ2_getChar_3b067_22 : decode cJ2_getChar_3b067 22 = .ok (.ldc 54, 2) := by decide +kernel
theorem dJ2_getChar_3b067_24 : decode cJ2_getChar_3b067 24 = .ok (.invokespecial 56, 3) := by decide +kernel
theorem dJ2_getChar_3b067_27 : decode cJ2_getChar_3b067 27 = .ok (.athrow, 1) := by decide +kernel
theorem dJ2_getChar_3b067_28 : decode cJ2_getChar_3b067 28 = .ok (.iload_n 1, 1) := by decide +kernel
theorem dJ2_getChar_3b067_29 : decode cJ2_getChar_3b067 29 = .ok (.iconst 1, 1) := by decide +kernel
theorem dJ2_getChar_3b067_30 : decode cJ2_getChar_3b067 30 = .ok (.ishl, 1) := by decide +kernel
theorem dJ2_getChar_3b067_31 : decode cJ2_getChar_3b067 31 = .ok (.istore_n 1, 1) := by decide +kernel
theorem dJ2_getChar_3b067_32 : decode cJ2_getChar_3b067 32 = .ok (.aload_n 0, 1) := by decide +kernel
theorem dJ2_getChar_3b067_33 : decode cJ2_getChar_3b067 33 = .ok (.iload_n 1, 1) := by decide +kernel
theorem dJ2_getChar_3b067_34 : decode cJ2_getChar_3b067 34 = .ok (.iinc 1 1, 3) := by decide +kernel
theorem dJ2_getChar_3b067_37 : decode cJ2_getChar_3b067 37 = .ok (.baload, 1) := by decide +kernel
theorem dJ2_getChar_3b067_38 : decode cJ2_getChar_3b067 38 = .ok (.sipush 255, 3) := by decide +kernel
theorem dJ2_getChar_3b067_41 : decode cJ2_getChar_3b067 41 = .ok (.iand, 1) := by decide +kernel
theorem dJ2_getChar_3b067_42 : decode cJ2_getChar_3b067 42 = .ok (.getstatic 59, 3) := by decide +kernel
theorem dJ2_getChar_3b067_45 : decode cJ2_getChar_3b067 45 = .ok (.ishl, 1) := by decide +kernel
theorem dJ2_getChar_3b067_46 : decode cJ2_getChar_3b067 46 = .ok (.aload_n 0, 1) := by decide +kernel
theorem dJ2_getChar_3b067_47 : decode cJ2_getChar_3b067 47 = .ok (.iload_n 1, 1) := by decide +kernel
theorem dJ2_getChar_3b067_48 : decode cJ2_getChar_3b067 48 = .ok (.baload, 1) := by decide +kernel
theorem dJ2_getChar_3b067_49 : decode cJ2_getChar_3b067 49 = .ok (.sipush 255, 3) := by decide +kernel
theorem dJ2_getChar_3b067_52 : decode cJ2_getChar_3b067 52 = .ok (.iand, 1) := by decide +kernel
theorem dJ2_getChar_3b067_53 : decode cJ2_getChar_3b067 53 = .ok (.getstatic 63, 3) := by decide +kernel
theorem dJ2_getChar_3b067_56 : decode cJ2_getChar_3b067 56 = .ok (.ishl, 1) := by decide +kernel
theorem dJ2_getChar_3b067_57 : decode cJ2_getChar_3b067 57 = .ok (.ior, 1) := by decide +kernel
theorem dJ2_getChar_3b067_58 : decode cJ2_getChar_3b067 58 = .ok (.i2c, 1) := by decide +kernel
theorem dJ2_getChar_3b067_59 : decode cJ2_getChar_3b067 59 = .ok (.ireturn, 1) := by decide +kernel
theorem dJ2_length_9d52b_0 : decode cJ2_length_9d52b 0 = .ok (.aload_n 0, 1) := by decide +kernel
theorem dJ2_length_9d52b_1 : decode cJ2_length_9d52b 1 = .ok (.arraylength, 1) := by decide +kernel
theorem dJ2_length_9d52b_2 : decode cJ2_length_9d52b 2 = .ok (.iconst 1, 1) := by decide +kernel
theorem dJ2_length_9d52b_3 : decode cJ2_length_9d52b 3 = .ok (.ishr, 1) := by decide +kernel
theorem dJ2_length_9d52b_4 : decode cJ2_length_9d52b 4 = .ok (.ireturn, 1) := by decide +kernel
theorem dJ2_coderFromArrayLen_85cad_0 : decode cJ2_coderFromArrayLen_85cad 0 = .ok (.iload_n 1, 1) := by decide +kernel
theorem dJ2_coderFromArrayLen_85cad_1 : decode cJ2_coderFromArrayLen_85cad 1 = .ok (.aload_n 0, 1) := by decide +kernel
theorem dJ2_coderFromArrayLen_85cad_2 : decode cJ2_coderFromArrayLen_85cad 2 = .ok (.arraylength, 1) := by decide +kernel
theorem dJ2_coderFromArrayLen_85cad_3 : decode cJ2_coderFromArrayLen_85cad 3 = .ok (.isub, 1) := by decide +kernel
theorem dJ2_coderFromArrayLen_85cad_4 : decode cJ2_coderFromArrayLen_85cad 4 = .ok (.bipush 31, 2) := by decide +kernel
theorem dJ2_coderFromArrayLen_85cad_6 : decode cJ2_coderFromArrayLen_85cad 6 = .ok (.iushr, 1) := by decide +kernel
theorem dJ2_coderFromArrayLen_85cad_7 : decode cJ2_coderFromArrayLen_85cad 7 = .ok (.i2b, 1) := by decide +kernel
theorem dJ2_coderFromArrayLen_85cad_8 : decode cJ2_coderFromArrayLen_85cad 8 = .ok (.ireturn, 1) := by decide +kernel
theorem dJ2_compress_39247_0 : decode cJ2_compress_39247 0 = .ok (.iload_n 2, 1) := by decide +kernel
theorem dJ2_compress_39247_1 : decode cJ2_compress_39247 1 = .ok (.newarray .byte, 2) := by decide +kernel
theorem dJ2_compress_39247_3 : decode cJ2_compress_39247 3 = .ok (.astore_n 3, 1) := by decide +kernel
theorem dJ2_compress_39247_4 : decode cJ2_compress_39247 4 = .ok (.aload_n 0, 1) := by decide +kernel
theorem dJ2_compress_39247_5 : decode cJ2_compress_39247 5 = .ok (.iload_n 1, 1) := by decide +kernel
theorem dJ2_compress_39247_6 : decode cJ2_compress_39247 6 = .ok (.aload_n 3, 1) := by decide +kernel
theorem dJ2_compress_39247_7 : decode cJ2_compress_39247 7 = .ok (.iconst 0, 1) := by decide +kernel
theorem dJ2_compress_39247_8 : decode cJ2_compress_39247 8 = .ok (.iload_n 2, 1) := by decide +kernel
theorem dJ2_compress_39247_9 : decode cJ2_compress_39247 9 = .ok (.invokestatic 123, 3) := by decide +kernel
theorem dJ2_compress_39247_12 : decode cJ2_compress_39247 12 = .ok (.istore 4, 2) := by decide +kernel
theorem dJ2_compress_39247_14 : decode cJ2_compress_39247 14 = .ok (.iload 4, 2) := by decide +kernel
theorem dJ2_compress_39247_16 : decode cJ2_compress_39247 16 = .ok (.iload_n 2, 1) := by decide +kernel
theorem dJ2_compress_39247_17 : decode cJ2_compress_39247 17 = .ok (.if_icmp .eq 47, 3) := by decide +kernel
theorem dJ2_compress_39247_20 : decode cJ2_compress_39247 20 = .ok (.aload_n 0, 1) := by decide +kernel
theorem dJ2_compress_39247_21 : decode cJ2_compress_39247 21 = .ok (.iload_n 1, 1) := by decide +kernel
theorem dJ2_compress_39247_22 : decode cJ2_compress_39247 22 = .ok (.iconst 1, 1) := by decide +kernel
theorem dJ2_compress_39247_23 : decode cJ2_compress_39247 23 = .ok (.ishl, 1) := by decide +kernel
theorem dJ2_compress_39247_24 : decode cJ2_compress_39247 24 = .ok (.iload_n 1, 1) := by decide +kernel
theorem dJ2_compress_39247_25 : decode cJ2_compress_39247 25 = .ok (.iload_n 2, 1) := by decide +kernel
theorem dJ2_compress_39247_26 : decode cJ2_compress_39247 26 = .ok (.iadd, 1) := by decide +kernel
theorem dJ2_compress_39247_27 : decode cJ2_compress_39247 27 = .ok (.invokestatic 11, 3) := by decide +kernel
theorem dJ2_compress_39247_30 : decode cJ2_compress_39247 30 = .ok (.invokestatic 126, 3) := by decide +kernel
theorem dJ2_compress_39247_33 : decode cJ2_compress_39247 33 = .ok (.astore 5, 2) := by decide +kernel
theorem dJ2_compress_39247_35 : decode cJ2_compress_39247 35 = .ok (.aload 5, 2) := by decide +kernel
theorem dJ2_compress_39247_37 : decode cJ2_compress_39247 37 = .ok (.iload 4, 2) := by decide +kernel
theorem dJ2_compress_39247_39 : decode cJ2_compress_39247 39 = .ok (.invokestatic 71, 3) := by decide +kernel
theorem dJ2_compress_39247_42 : decode cJ2_compress_39247 42 = .ok (.sipush 255, 3) := by decide +kernel
theorem dJ2_compress_39247_45 : decode cJ2_compress_39247 45 = .ok (.if_icmp .gt 16, 3) := by decide +kernel
theorem dJ2_compress_39247_48 : decode cJ2_compress_39247 48 = .ok (.aload 5, 2) := by decide +kernel
theorem dJ2_compress_39247_50 : decode cJ2_compress_39247 50 = .ok (.iconst 0, 1) := by decide +kernel
theorem dJ2_compress_39247_51 : decode cJ2_compress_39247 51 = .ok (.aload_n 3, 1) := by decide +kernel
theorem dJ2_compress_39247_52 : decode cJ2_compress_39247 52 = .ok (.iconst 0, 1) := by decide +kernel
theorem dJ2_compress_39247_53 : decode cJ2_compress_39247 53 = .ok (.iload_n 2, 1) := by decide +kernel
theorem dJ2_compress_39247_54 : decode cJ2_compress_39247 54 = .ok (.invokestatic 123, 3) := by decide +kernel
theorem dJ2_compress_39247_57 : decode cJ2_compress_39247 57 = .ok (.iload_n 2, 1) := by decide +kernel
theorem dJ2_compress_39247_58 : decode cJ2_compress_39247 58 = .ok (.if_icmp .eq 6, 3) := by decide +kernel
theorem dJ2_compress_39247_61 : decode cJ2_compress_39247 61 = .ok (.aload 5, 2) := by decide +kernel
theorem dJ2_compress_39247_63 : decode cJ2_compress_39247 63 = .ok (.areturn, 1) := by decide +kernel
theorem dJ2_compress_39247_64 : decode cJ2_compress_39247 64 = .ok (.aload_n 3, 1) := by decide +kernel
theorem dJ2_compress_39247_65 : decode cJ2_compress_39247 65 = .ok (.areturn, 1) := by decide +kernel
theorem dJ2_compress_5af95_0 : decode cJ2_compress_5af95 0 = .ok (.iload_n 1, 1) := by decide +kernel
theorem dJ2_compress_5af95_1 : decode cJ2_compress_5af95 1 = .ok (.iload 4, 2) := by decide +kernel
theorem dJ2_compress_5af95_3 : decode cJ2_compress_5af95 3 = .ok (.aload_n 0, 1) := by decide +kernel
theorem dJ2_compress_5af95_4 : decode cJ2_compress_5af95 4 = .ok (.invokestatic 173, 3) := by decide +kernel
theorem dJ2_compress_5af95_7 : decode cJ2_compress_5af95 7 = .ok (.iconst 0, 1) := by decide +kernel
theorem dJ2_compress_5af95_8 : decode cJ2_compress_5af95 8 = .ok (.istore 5, 2) := by decide +kernel
theorem dJ2_compress_5af95_10 : decode cJ2_compress_5af95 10 = .ok (.iload 5, 2) := by decide +kernel
theorem dJ2_compress_5af95_12 : decode cJ2_compress_5af95 12 = .ok (.iload 4, 2) := by decide +kernel
theorem dJ2_compress_5af95_14 : decode cJ2_compress_5af95 14 = .ok (.if_icmp .ge 39, 3) := by decide +kernel
theorem dJ2_compress_5af95_17 : decode cJ2_compress_5af95 17 = .ok (.aload_n 0, 1) := by decide +kernel
theorem dJ2_compress_5af95_18 : decode cJ2_compress_5af95 18 = .ok (.iload_n 1, 1) := by decide +kernel
theorem dJ2_compress_5af95_19 : decode cJ2_compress_5af95 19 = .ok (.invokestatic 71, 3) := by decide +kernel
theorem dJ2_compress_5af95_22 : decode cJ2_compress_5af95 22 = .ok (.istore 6, 2) := by decide +kernel
theorem dJ2_compress_5af95_24 : decode cJ2_compress_5af95 24 = .ok (.iload 6, 2) := by decide +kernel
theorem dJ2_compress_5af95_26 : decode cJ2_compress_5af95 26 = .ok (.sipush 255, 3) := by decide +kernel
theorem dJ2_compress_5af95_29 : decode cJ2_compress_5af95 29 = .ok (.if_icmp .le 6, 3) := by decide +kernel
theorem dJ2_compress_5af95_32 : decode cJ2_compress_5af95 32 = .ok (.iload 5, 2) := by decide +kernel
theorem dJ2_compress_5af95_34 : decode cJ2_compress_5af95 34 = .ok (.ireturn, 1) := by decide +kernel
theorem dJ2_compress_5af95_35 : decode cJ2_compress_5af95 35 = .ok (.aload_n 2, 1) := by decide +kernel
theorem dJ2_compress_5af95_36 : decode cJ2_compress_5af95 36 = .ok (.iload_n 3, 1) := by decide +kernel
theorem dJ2_compress_5af95_37 : decode cJ2_compress_5af95 37 = .ok (.iload 6, 2) := by decide +kernel
theorem dJ2_compress_5af95_39 : decode cJ2_compress_5af95 39 = .ok (.i2b, 1) := by decide +kernel
theorem dJ2_compress_5af95_40 : decode cJ2_compress_5af95 40 = .ok (.bastore, 1) := by decide +kernel
theorem dJ2_compress_5af95_41 : decode cJ2_compress_5af95 41 = .ok (.iinc 1 1, 3) := by decide +kernel
theorem dJ2_compress_5af95_44 : decode cJ2_compress_5af95 44 = .ok (.iinc 3 1, 3) := by decide +kernel
theorem dJ2_compress_5af95_47 : decode cJ2_compress_5af95 47 = .ok (.iinc 5 1, 3) := by decide +kernel
theorem dJ2_compress_5af95_50 : decode cJ2_compress_5af95 50 = .ok (.goto (-40), 3) := by decide +kernel
theorem dJ2_compress_5af95_53 : decode cJ2_compress_5af95 53 = .ok (.iload 4, 2) := by decide +kernel
theorem dJ2_compress_5af95_55 : decode cJ2_compress_5af95 55 = .ok (.ireturn, 1) := by decide +kernel
theorem dJ2_putCharSB_b72d1_0 : decode cJ2_putCharSB_b72d1 0 = .ok (.iload_n 1, 1) := by decide +kernel
theorem dJ2_putCharSB_b72d1_1 : decode cJ2_putCharSB_b72d1 1 = .ok (.aload_n 0, 1) := by decide +kernel
theorem dJ2_putCharSB_b72d1_2 : decode cJ2_putCharSB_b72d1 2 = .ok (.invokestatic 67, 3) := by decide +kernel
theorem dJ2_putCharSB_b72d1_5 : decode cJ2_putCharSB_b72d1 5 = .ok (.aload_n 0, 1) := by decide +kernel
theorem dJ2_putCharSB_b72d1_6 : decode cJ2_putCharSB_b72d1 6 = .ok (.iload_n 1, 1) := by decide +kernel
theorem dJ2_putCharSB_b72d1_7 : decode cJ2_putCharSB_b72d1 7 = .ok (.iload_n 2, 1) := by decide +kernel
theorem dJ2_putCharSB_b72d1_8 : decode cJ2_putCharSB_b72d1 8 = .ok (.invokestatic 111, 3) := by decide +kernel
theorem dJ2_putCharSB_b72d1_11 : decode cJ2_putCharSB_b72d1 11 = .ok (.return_, 1) := by decide +kernel
theorem dJ2_getChars_46870_0 : decode cJ2_getChars_46870 0 = .ok (.iload_n 1, 1) := by decide +kernel
theorem dJ2_getChars_46870_1 : decode cJ2_getChars_46870 1 = .ok (.iload_n 2, 1) := by decide +kernel
theorem dJ2_getChars_46870_2 : decode cJ2_getChars_46870 2 = .ok (.aload_n 3, 1) := by decide +kernel
theorem dJ2_getChars_46870_3 : decode cJ2_getChars_46870 3 = .ok (.invokestatic 96, 3) := by decide +kernel
theorem dJ2_getChars_46870_6 : decode cJ2_getChars_46870 6 = .ok (.iload_n 0, 1) := by decide +kernel
theorem dJ2_getChars_46870_7 : decode cJ2_getChars_46870 7 = .ok (.iload_n 2, 1) := by decide +kernel
theorem dJ2_getChars_46870_8 : decode cJ2_getChars_46870 8 = .ok (.aload_n 3, 1) := by decide +kernel
theorem dJ2_getChars_46870_9 : decode cJ2_getChars_46870 9 = .ok (.invokestatic 393, 3) := by decide +kernel
theorem dJ2_getChars_46870_12 : decode cJ2_getChars_46870 12 = .ok (.istore 4, 2) := by decide +kernel
theorem dJ2_getChars_46870_14 : decode cJ2_getChars_46870 14 = .ok (.getstatic 44, 3) := by decide +kernel
theorem dJ2_getChars_46870_17 : decode cJ2_getChars_46870 17 = .ok (.ifCond .ne 17, 3) := by decide +kernel
theorem dJ2_getChars_46870_20 : decode cJ2_getChars_46870 20 = .ok (.iload_n 1, 1) := by decide +kernel
theorem dJ2_getChars_46870_21 : decode cJ2_getChars_46870 21 = .ok (.iload 4, 2) := by decide +kernel
theorem dJ2_getChars_46870_23 : decode cJ2_getChars_46870 23 = .ok (.if_icmp .eq 11, 3) := by decide +kernel
theorem dJ2_getChars_46870_26 : decode cJ2_getChars_46870 26 = .ok (.new 52, 3) := by decide +kernel
theorem dJ2_getChars_46870_29 : decode cJ2_getChars_46870 29 = .ok (.dup, 1) := by decide +kernel
theorem dJ2_getChars_46870_30 : decode cJ2_getChars_46870 30 = .ok (.invokespecial 66, 3) := by decide +kernel
theorem dJ2_getChars_46870_33 : decode cJ2_getChars_46870 33 = .ok (.athrow, 1) := by decide +kernel
theorem dJ2_getChars_46870_34 : decode cJ2_getChars_46870 34 = .ok (.iload 4, 2) := by decide +kernel
theorem dJ2_getChars_46870_36 : decode cJ2_getChars_46870 36 = .ok (.ireturn, 1) := by decide +kernel
theorem dJ2_putCharsAt_cd4e5_0 : decode cJ2_putCharsAt_cd4e5 0 = .ok (.iload_n 1, 1) := by decide +kernel
theorem dJ2_putCharsAt_cd4e5_1 : decode cJ2_putCharsAt_cd4e5 1 = .ok (.iconst 4, 1) := by decide +kernel
theorem dJ2_putCharsAt_cd4e5_2 : decode cJ2_putCharsAt_cd4e5 2 = .ok (.iadd, 1) := by decide +kernel
theorem dJ2_putCharsAt_cd4e5_3 : decode cJ2_putCharsAt_cd4e5 3 = .ok (.istore 6, 2) := by decide +kernel
theorem dJ2_putCharsAt_cd4e5_5 : decode cJ2_putCharsAt_cd4e5 5 = .ok (.iload_n 1, 1) := by decide +kernel
theorem dJ2_putCharsAt_cd4e5_6 : decode cJ2_putCharsAt_cd4e5 6 = .ok (.iload 6, 2) := by decide +kernel
theorem dJ2_putCharsAt_cd4e5_8 : decode cJ2_putCharsAt_cd4e5 8 = .ok (.aload_n 0, 1) := by decide +kernel
theorem dJ2_putCharsAt_cd4e5_9 : decode cJ2_putCharsAt_cd4e5 9 = .ok (.invokestatic 96, 3) := by decide +kernel
theorem dJ2_putCharsAt_cd4e5_12 : decode cJ2_putCharsAt_cd4e5 12 = .ok (.aload_n 0, 1) := by decide +kernel
theorem dJ2_putCharsAt_cd4e5_13 : decode cJ2_putCharsAt_cd4e5 13 = .ok (.iload_n 1, 1) := by decide +kernel
theorem dJ2_putCharsAt_cd4e5_14 : decode cJ2_putCharsAt_cd4e5 14 = .ok (.iinc 1 1, 3) := by decide +kernel
theorem dJ2_putCharsAt_cd4e5_17 : decode cJ2_putCharsAt_cd4e5 17 = .ok (.iload_n 2, 1) := by decide +kernel
theorem dJ2_putCharsAt_cd4e5_18 : decode cJ2_putCharsAt_cd4e5 18 = .ok (.invokestatic 111, 3) := by decide +kernel
theorem dJ2_putCharsAt_cd4e5_21 : decode cJ2_putCharsAt_cd4e5 21 = .ok (.aload_n 0, 1) := by decide +kernel
theorem dJ2_putCharsAt_cd4e5_22 : decode cJ2_putCharsAt_cd4e5 22 = .ok (.iload_n 1, 1) := by decide +kernel
theorem dJ2_putCharsAt_cd4e5_23 : decode cJ2_putCharsAt_cd4e5 23 = .ok (.iinc 1 1, 3) := by decide +kernel
theorem dJ2_putCharsAt_cd4e5_26 : decode cJ2_putCharsAt_cd4e5 26 = .ok (.iload_n 3, 1) := by decide +kernel
theorem dJ2_putCharsAt_cd4e5_27 : decode cJ2_putCharsAt_cd4e5 27 = .ok (.invokestatic 111, 3) := by decide +kernel
theorem dJ2_putCharsAt_cd4e5_30 : decode cJ2_putCharsAt_cd4e5 30 = .ok (.aload_n 0, 1) := by decide +kernel
theorem dJ2_putCharsAt_cd4e5_31 : decode cJ2_putCharsAt_cd4e5 31 = .ok (.iload_n 1, 1) := by decide +kernel
theorem dJ2_putCharsAt_cd4e5_32 : decode cJ2_putCharsAt_cd4e5 32 = .ok (.iinc 1 1, 3) := by decide +kernel
theorem dJ2_putCharsAt_cd4e5_35 : decode cJ2_putCharsAt_cd4e5 35 = .ok (.iload 4, 2) := by decide +kernel
theorem dJ2_putCharsAt_cd4e5_37 : decode cJ2_putCharsAt_cd4e5 37 = .ok (.invokestatic 111, 3) := by decide +kernel
theorem dJ2_putCharsAt_cd4e5_40 : decode cJ2_putCharsAt_cd4e5 40 = .ok (.aload_n 0, 1) := by decide +kernel
theorem dJ2_putCharsAt_cd4e5_41 : decode cJ2_putCharsAt_cd4e5 41 = .ok (.iload_n 1, 1) := by decide +kernel
theorem dJ2_putCharsAt_cd4e5_42 : decode cJ2_putCharsAt_cd4e5 42 = .ok (.iinc 1 1, 3) := by decide +kernel
theorem dJ2_putCharsAt_cd4e5_45 : decode cJ2_putCharsAt_cd4e5 45 = .ok (.iload 5, 2) := by decide +kernel
theorem dJ2_putCharsAt_cd4e5_47 : decode cJ2_putCharsAt_cd4e5 47 = .ok (.invokestatic 111, 3) := by decide +kernel
theorem dJ2_putCharsAt_cd4e5_50 : decode cJ2_putCharsAt_cd4e5 50 = .ok (.getstatic 44, 3) := by decide +kernel
theorem dJ2_putCharsAt_cd4e5_53 : decode cJ2_putCharsAt_cd4e5 53 = .ok (.ifCond .ne 17, 3) := by decide +kernel
theorem dJ2_putCharsAt_cd4e5_56 : decode cJ2_putCharsAt_cd4e5 56 = .ok (.iload_n 1, 1) := by decide +kernel
theorem dJ2_putCharsAt_cd4e5_57 : decode cJ2_putCharsAt_cd4e5 57 = .ok (.iload 6, 2) := by decide +kernel
theorem dJ2_putCharsAt_cd4e5_59 : decode cJ2_putCharsAt_cd4e5 59 = .ok (.if_icmp .eq 11, 3) := by decide +kernel
theorem dJ2_putCharsAt_cd4e5_62 : decode cJ2_putCharsAt_cd4e5 62 = .ok (.new 52, 3) := by decide +kernel
theorem dJ2_putCharsAt_cd4e5_65 : decode cJ2_putCharsAt_cd4e5 65 = .ok (.dup, 1) := by decide +kernel
theorem dJ2_putCharsAt_cd4e5_66 : decode cJ2_putCharsAt_cd4e5 66 = .ok (.invokespecial 66, 3) := by decide +kernel
theorem dJ2_putCharsAt_cd4e5_69 : decode cJ2_putCharsAt_cd4e5 69 = .ok (.athrow, 1) := by decide +kernel
theorem dJ2_putCharsAt_cd4e5_70 : decode cJ2_putCharsAt_cd4e5 70 = .ok (.iload 6, 2) := by decide +kernel
theorem dJ2_putCharsAt_cd4e5_72 : decode cJ2_putCharsAt_cd4e5 72 = .ok (.ireturn, 1) := by decide +kernel
theorem dJ2_charAt_3b067_0 : decode cJ2_charAt_3b067 0 = .ok (.iload_n 1, 1) := by decide +kernel
theorem dJ2_charAt_3b067_1 : decode cJ2_charAt_3b067 1 = .ok (.aload_n 0, 1) := by decide +kernel
theorem dJ2_charAt_3b067_2 : decode cJ2_charAt_3b067 2 = .ok (.invokestatic 67, 3) := by decide +kernel
theorem dJ2_charAt_3b067_5 : decode cJ2_charAt_3b067 5 = .ok (.aload_n 0, 1) := by decide +kernel
theorem dJ2_charAt_3b067_6 : decode cJ2_charAt_3b067 6 = .ok (.iload_n 1, 1) := by decide +kernel
theorem dJ2_charAt_3b067_7 : decode cJ2_charAt_3b067 7 = .ok (.invokestatic 71, 3) := by decide +kernel
theorem dJ2_charAt_3b067_10 : decode cJ2_charAt_3b067 10 = .ok (.ireturn, 1) := by decide +kernel
theorem dJ2_inflate_0e8fd_0 : decode cJ2_inflate_0e8fd 0 = .ok (.iload_n 3, 1) := by decide +kernel
theorem dJ2_inflate_0e8fd_1 : decode cJ2_inflate_0e8fd 1 = .ok (.iload 4, 2) := by decide +kernel
theorem dJ2_inflate_0e8fd_3 : decode cJ2_inflate_0e8fd 3 = .ok (.aload_n 2, 1) := by decide +kernel
theorem dJ2_inflate_0e8fd_4 : decode cJ2_inflate_0e8fd 4 = .ok (.invokestatic 173, 3) := by decide +kernel
theorem dJ2_inflate_0e8fd_7 : decode cJ2_inflate_0e8fd 7 = .ok (.iconst 0, 1) := by decide +kernel
theorem dJ2_inflate_0e8fd_8 : decode cJ2_inflate_0e8fd 8 = .ok (.istore 5, 2) := by decide +kernel
theorem dJ2_inflate_0e8fd_10 : decode cJ2_inflate_0e8fd 10 = .ok (.iload 5, 2) := by decide +kernel
theorem dJ2_inflate_0e8fd_12 : decode cJ2_inflate_0e8fd 12 = .ok (.iload 4, 2) := by decide +kernel
theorem dJ2_inflate_0e8fd_14 : decode cJ2_inflate_0e8fd 14 = .ok (.if_icmp .ge 27, 3) := by decide +kernel
theorem dJ2_inflate_0e8fd_17 : decode cJ2_inflate_0e8fd 17 = .ok (.aload_n 2, 1) := by decide +kernel
theorem dJ2_inflate_0e8fd_18 : decode cJ2_inflate_0e8fd 18 = .ok (.iload_n 3, 1) := by decide +kernel
theorem dJ2_inflate_0e8fd_19 : decode cJ2_inflate_0e8fd 19 = .ok (.iinc 3 1, 3) := by decide +kernel
theorem dJ2_inflate_0e8fd_22 : decode cJ2_inflate_0e8fd 22 = .ok (.aload_n 0, 1) := by decide +kernel
theorem dJ2_inflate_0e8fd_23 : decode cJ2_inflate_0e8fd 23 = .ok (.iload_n 1, 1) := by decide +kernel
theorem dJ2_inflate_0e8fd_24 : decode cJ2_inflate_0e8fd 24 = .ok (.iinc 1 1, 3) := by decide +kernel
theorem dJ2_inflate_0e8fd_27 : decode cJ2_inflate_0e8fd 27 = .ok (.baload, 1) := by decide +kernel
theorem dJ2_inflate_0e8fd_28 : decode cJ2_inflate_0e8fd 28 = .ok (.sipush 255, 3) := by decide +kernel
theorem dJ2_inflate_0e8fd_31 : decode cJ2_inflate_0e8fd 31 = .ok (.iand, 1) := by decide +kernel
theorem dJ2_inflate_0e8fd_32 : decode cJ2_inflate_0e8fd 32 = .ok (.invokestatic 111, 3) := by decide +kernel
theorem dJ2_inflate_0e8fd_35 : decode cJ2_inflate_0e8fd 35 = .ok (.iinc 5 1, 3) := by decide +kernel
theorem dJ2_inflate_0e8fd_38 : decode cJ2_inflate_0e8fd 38 = .ok (.goto (-28), 3) := by decide +kernel
theorem dJ2_inflate_0e8fd_41 : decode cJ2_inflate_0e8fd 41 = .ok (.return_, 1) := by decide +kernel
theorem dJ2_getChars_ba4f3_0 : decode cJ2_getChars_ba4f3 0 = .ok (.iload_n 1, 1) := by decide +kernel
theorem dJ2_getChars_ba4f3_1 : decode cJ2_getChars_ba4f3 1 = .ok (.istore 5, 2) := by decide +kernel
theorem dJ2_getChars_ba4f3_3 : decode cJ2_getChars_ba4f3 3 = .ok (.iload_n 0, 1) := by decide +kernel
theorem dJ2_getChars_ba4f3_4 : decode cJ2_getChars_ba4f3 4 = .ok (.ifCond .ge 7, 3) := by decide +kernel
theorem dJ2_getChars_ba4f3_7 : decode cJ2_getChars_ba4f3 7 = .ok (.iconst 1, 1) := by decide +kernel
theorem dJ2_getChars_ba4f3_8 : decode cJ2_getChars_ba4f3 8 = .ok (.goto 4, 3) := by decide +kernel
theorem dJ2_getChars_ba4f3_11 : decode cJ2_getChars_ba4f3 11 = .ok (.iconst 0, 1) := by decide +kernel
theorem dJ2_getChars_ba4f3_12 : decode cJ2_getChars_ba4f3 12 = .ok (.istore 6, 2) := by decide +kernel
theorem dJ2_getChars_ba4f3_14 : decode cJ2_getChars_ba4f3 14 = .ok (.iload 6, 2) := by decide +kernel
theorem dJ2_getChars_ba4f3_16 : decode cJ2_getChars_ba4f3 16 = .ok (.ifCond .ne 6, 3) := by decide +kernel
theorem dJ2_getChars_ba4f3_19 : decode cJ2_getChars_ba4f3 19 = .ok (.iload_n 0, 1) := by decide +kernel
theorem dJ2_getChars_ba4f3_20 : decode cJ2_getChars_ba4f3 20 = .ok (.ineg, 1) := by decide +kernel
theorem dJ2_getChars_ba4f3_21 : decode cJ2_getChars_ba4f3 21 = .ok (.istore_n 0, 1) := by decide +kernel
theorem dJ2_getChars_ba4f3_22 : decode cJ2_getChars_ba4f3 22 = .ok (.iload_n 0, 1) := by decide +kernel
theorem dJ2_getChars_ba4f3_23 : decode cJ2_getChars_ba4f3 23 = .ok (.bipush (-100), 2) := by decide +kernel
theorem dJ2_getChars_ba4f3_25 : decode cJ2_getChars_ba4f3 25 = .ok (.if_icmp .gt 51, 3) := by decide +kernel
theorem dJ2_getChars_ba4f3_28 : decode cJ2_getChars_ba4f3 28 = .ok (.iload_n 0, 1) := by decide +kernel
theorem dJ2_getChars_ba4f3_29 : decode cJ2_getChars_ba4f3 29 = .ok (.bipush 100, 2) := by decide +kernel
theorem dJ2_getChars_ba4f3_31 : decode cJ2_getChars_ba4f3 31 = .ok (.idiv, 1) := by decide +kernel
theorem dJ2_getChars_ba4f3_32 : decode cJ2_getChars_ba4f3 32 = .ok (.istore_n 3, 1) := by decide +kernel
theorem dJ2_getChars_ba4f3_33 : decode cJ2_getChars_ba4f3 33 = .ok (.iload_n 3, 1) := by decide +kernel
theorem dJ2_getChars_ba4f3_34 : decode cJ2_getChars_ba4f3 34 = .ok (.bipush 100, 2) := by decide +kernel
theorem dJ2_getChars_ba4f3_36 : decode cJ2_getChars_ba4f3 36 = .ok (.imul, 1) := by decide +kernel
theorem dJ2_getChars_ba4f3_37 : decode cJ2_getChars_ba4f3 37 = .ok (.iload_n 0, 1) := by decide +kernel
theorem dJ2_getChars_ba4f3_38 : decode cJ2_getChars_ba4f3 38 = .ok (.isub, 1) := by decide +kernel
theorem dJ2_getChars_ba4f3_39 : decode cJ2_getChars_ba4f3 39 = .ok (.istore 4, 2) := by decide +kernel
theorem dJ2_getChars_ba4f3_41 : decode cJ2_getChars_ba4f3 41 = .ok (.iload_n 3, 1) := by decide +kernel
theorem dJ2_getChars_ba4f3_42 : decode cJ2_getChars_ba4f3 42 = .ok (.istore_n 0, 1) := by decide +kernel
theorem dJ2_getChars_ba4f3_43 : decode cJ2_getChars_ba4f3 43 = .ok (.aload_n 2, 1) := by decide +kernel
theorem dJ2_getChars_ba4f3_44 : decode cJ2_getChars_ba4f3 44 = .ok (.iinc 5 (-1), 3) := by decide +kernel
theorem dJ2_getChars_ba4f3_47 : decode cJ2_getChars_ba4f3 47 = .ok (.iload 5, 2) := by decide +kernel
theorem dJ2_getChars_ba4f3_49 : decode cJ2_getChars_ba4f3 49 = .ok (.getstatic 403, 3) := by decide +kernel
theorem dJ2_getChars_ba4f3_52 : decode cJ2_getChars_ba4f3 52 = .ok (.iload 4, 2) := by decide +kernel
theorem dJ2_getChars_ba4f3_54 : decode cJ2_getChars_ba4f3 54 = .ok (.baload, 1) := by decide +kernel
theorem dJ2_getChars_ba4f3_55 : decode cJ2_getChars_ba4f3 55 = .ok (.invokestatic 111, 3) := by decide +kernel
theorem dJ2_getChars_ba4f3_58 : decode cJ2_getChars_ba4f3 58 = .ok (.aload_n 2, 1) := by decide +kernel
theorem dJ2_getChars_ba4f3_59 : decode cJ2_getChars_ba4f3 59 = .ok (.iinc 5 (-1), 3) := by decide +kernel
theorem dJ2_getChars_ba4f3_62 : decode cJ2_getChars_ba4f3 62 = .ok (.iload 5, 2) := by decide +kernel
theorem dJ2_getChars_ba4f3_64 : decode cJ2_getChars_ba4f3 64 = .ok (.getstatic 407, 3) := by decide +kernel
theorem dJ2_getChars_ba4f3_67 : decode cJ2_getChars_ba4f3 67 = .ok (.iload 4, 2) := by decide +kernel
theorem dJ2_getChars_ba4f3_69 : decode cJ2_getChars_ba4f3 69 = .ok (.baload, 1) := by decide +kernel
theorem dJ2_getChars_ba4f3_70 : decode cJ2_getChars_ba4f3 70 = .ok (.invokestatic 111, 3) := by decide +kernel
theorem dJ2_getChars_ba4f3_73 : decode cJ2_getChars_ba4f3 73 = .ok (.goto (-51), 3) := by decide +kernel
theorem dJ2_getChars_ba4f3_76 : decode cJ2_getChars_ba4f3 76 = .ok (.aload_n 2, 1) := by decide +kernel
theorem dJ2_getChars_ba4f3_77 : decode cJ2_getChars_ba4f3 77 = .ok (.iinc 5 (-1), 3) := by decide +kernel
theorem dJ2_getChars_ba4f3_80 : decode cJ2_getChars_ba4f3 80 = .ok (.iload 5, 2) := by decide +kernel
theorem dJ2_getChars_ba4f3_82 : decode cJ2_getChars_ba4f3 82 = .ok (.getstatic 403, 3) := by decide +kernel
theorem dJ2_getChars_ba4f3_85 : decode cJ2_getChars_ba4f3 85 = .ok (.iload_n 0, 1) := by decide +kernel
theorem dJ2_getChars_ba4f3_86 : decode cJ2_getChars_ba4f3 86 = .ok (.ineg, 1) := by decide +kernel
theorem dJ2_getChars_ba4f3_87 : decode cJ2_getChars_ba4f3 87 = .ok (.baload, 1) := by decide +kernel
theorem dJ2_getChars_ba4f3_88 : decode cJ2_getChars_ba4f3 88 = .ok (.invokestatic 111, 3) := by decide +kernel
theorem dJ2_getChars_ba4f3_91 : decode cJ2_getChars_ba4f3 91 = .ok (.iload_n 0, 1) := by decide +kernel
theorem dJ2_getChars_ba4f3_92 : decode cJ2_getChars_ba4f3 92 = .ok (.bipush (-9), 2) := by decide +kernel
theorem dJ2_getChars_ba4f3_94 : decode cJ2_getChars_ba4f3 94 = .ok (.if_icmp .ge 18, 3) := by decide +kernel
theorem dJ2_getChars_ba4f3_97 : decode cJ2_getChars_ba4f3 97 = .ok (.aload_n 2, 1) := by decide +kernel
theorem dJ2_getChars_ba4f3_98 : decode cJ2_getChars_ba4f3 98 = .ok (.iinc 5 (-1), 3) := by decide +kernel
theorem dJ2_getChars_ba4f3_101 : decode cJ2_getChars_ba4f3 101 = .ok (.iload 5, 2) := by decide +kernel
theorem dJ2_getChars_ba4f3_103 : decode cJ2_getChars_ba4f3 103 = .ok (.getstatic 407, 3) := by decide +kernel
theorem dJ2_getChars_ba4f3_106 : decode cJ2_getChars_ba4f3 106 = .ok (.iload_n 0, 1) := by decide +kernel
theorem dJ2_getChars_ba4f3_107 : decode cJ2_getChars_ba4f3 107 = .ok (.ineg, 1) := by decide +kernel
theorem dJ2_getChars_ba4f3_108 : decode cJ2_getChars_ba4f3 108 = .ok (.baload, 1) := by decide +kernel
theorem dJ2_getChars_ba4f3_109 : decode cJ2_getChars_ba4f3 109 = .ok (.invokestatic 111, 3) := by decide +kernel
theorem dJ2_getChars_ba4f3_112 : decode cJ2_getChars_ba4f3 112 = .ok (.iload 6, 2) := by decide +kernel
theorem dJ2_getChars_ba4f3_114 : decode cJ2_getChars_ba4f3 114 = .ok (.ifCond .eq 14, 3) := by decide +kernel
theorem dJ2_getChars_ba4f3_117 : decode cJ2_getChars_ba4f3 117 = .ok (.aload_n 2, 1) := by decide +kernel
theorem dJ2_getChars_ba4f3_118 : decode cJ2_getChars_ba4f3 118 = .ok (.iinc 5 (-1), 3) := by decide +kernel
theorem dJ2_getChars_ba4f3_121 : decode cJ2_getChars_ba4f3 121 = .ok (.iload 5, 2) := by decide +kernel
theorem dJ2_getChars_ba4f3_123 : decode cJ2_getChars_ba4f3 123 = .ok (.bipush 45, 2) := by decide +kernel
theorem dJ2_getChars_ba4f3_125 : decode cJ2_getChars_ba4f3 125 = .ok (.invokestatic 111, 3) := by decide +kernel
theorem dJ2_getChars_ba4f3_128 : decode cJ2_getChars_ba4f3 128 = .ok (.iload 5, 2) := by decide +kernel
theorem dJ2_getChars_ba4f3_130 : decode cJ2_getChars_ba4f3 130 = .ok (.ireturn, 1) := by decide +kernel
theorem dJ2_checkIndex_2214a_0 : decode cJ2_checkIndex_2214a 0 = .ok (.iload_n 0, 1) := by decide +kernel
theorem dJ2_checkIndex_2214a_1 : decode cJ2_checkIndex_2214a 1 = .ok (.aload_n 1, 1) := by decide +kernel
theorem dJ2_checkIndex_2214a_2 : decode cJ2_checkIndex_2214a 2 = .ok (.invokestatic 48, 3) := by decide +kernel
theorem dJ2_checkIndex_2214a_5 : decode cJ2_checkIndex_2214a 5 = .ok (.invokestatic 414, 3) := by decide +kernel
theorem dJ2_checkIndex_2214a_8 : decode cJ2_checkIndex_2214a 8 = .ok (.return_, 1) := by decide +kernel
theorem dJ2_checkBoundsBeginEnd_d044e_0 : decode cJ2_checkBoundsBeginEnd_d044e 0 = .ok (.iload_n 0, 1) := by decide +kernel
theorem dJ2_checkBoundsBeginEnd_d044e_1 : decode cJ2_checkBoundsBeginEnd_d044e 1 = .ok (.iload_n 1, 1) := by decide +kernel
theorem dJ2_checkBoundsBeginEnd_d044e_2 : decode cJ2_checkBoundsBeginEnd_d044e 2 = .ok (.aload_n 2, 1) := by decide +kernel
theorem dJ2_checkBoundsBeginEnd_d044e_3 : decode cJ2_checkBoundsBeginEnd_d044e 3 = .ok (.invokestatic 48, 3) := by decide +kernel
theorem dJ2_checkBoundsBeginEnd_d044e_6 : decode cJ2_checkBoundsBeginEnd_d044e 6 = .ok (.invokestatic 241, 3) := by decide +kernel
theorem dJ2_checkBoundsBeginEnd_d044e_9 : decode cJ2_checkBoundsBeginEnd_d044e 9 = .ok (.return_, 1) := by decide +kernel
theorem dJ2_checkBoundsOffCount_d044e_0 : decode cJ2_checkBoundsOffCount_d044e 0 = .ok (.iload_n 0, 1) := by decide +kernel
theorem dJ2_checkBoundsOffCount_d044e_1 : decode cJ2_checkBoundsOffCount_d044e 1 = .ok (.iload_n 1, 1) := by decide +kernel
theorem dJ2_checkBoundsOffCount_d044e_2 : decode cJ2_checkBoundsOffCount_d044e 2 = .ok (.aload_n 2, 1) := by decide +kernel
theorem dJ2_checkBoundsOffCount_d044e_3 : decode cJ2_checkBoundsOffCount_d044e 3 = .ok (.invokestatic 48, 3) := by decide +kernel
theorem dJ2_checkBoundsOffCount_d044e_6 : decode cJ2_checkBoundsOffCount_d044e 6 = .ok (.invokestatic 419, 3) := by decide +kernel
theorem dJ2_checkBoundsOffCount_d044e_9 : decode cJ2_checkBoundsOffCount_d044e 9 = .ok (.pop, 1) := by decide +kernel
theorem dJ2_checkBoundsOffCount_d044e_10 : decode cJ2_checkBoundsOffCount_d044e 10 = .ok (.return_, 1) := by decide +kernel
theorem dJxa1e45_init_da8c8_0 : decode cJxa1e45_init_da8c8 0 = .ok (.aload_n 0, 1) := by decide +kernel
theorem dJxa1e45_init_da8c8_1 : decode cJxa1e45_init_da8c8 1 = .ok (.invokespecial 1, 3) := by decide +kernel
theorem dJxa1e45_init_da8c8_4 : decode cJxa1e45_init_da8c8 4 = .ok (.return_, 1) := by decide +kernel
theorem dJxc12de_init_da8c8_0 : decode cJxc12de_init_da8c8 0 = .ok (.aload_n 0, 1) := by decide +kernel
theorem dJxc12de_init_da8c8_1 : decode cJxc12de_init_da8c8 1 = .ok (.invokespecial 1, 3) := by decide +kernel
theorem dJxc12de_init_da8c8_4 : decode cJxc12de_init_da8c8 4 = .ok (.aload_n 0, 1) := by decide +kernel
theorem dJxc12de_init_da8c8_5 : decode cJxc12de_init_da8c8 5 = .ok (.iconst 0, 1) := by decide +kernel
theorem dJxc12de_init_da8c8_6 : decode cJxc12de_init_da8c8 6 = .ok (.putfield 7, 3) := by decide +kernel
theorem dJxc12de_init_da8c8_9 : decode cJxc12de_init_da8c8 9 = .ok (.return_, 1) := by decide +kernel
theorem dJx4a65c_init_da8c8_0 : decode cJx4a65c_init_da8c8 0 = .ok (.aload_n 0, 1) := by decide +kernel
theorem dJx4a65c_init_da8c8_1 : decode cJx4a65c_init_da8c8 1 = .ok (.invokespecial 1, 3) := by decide +kernel
theorem dJx4a65c_init_da8c8_4 : decode cJx4a65c_init_da8c8 4 = .ok (.aload_n 0, 1) := by decide +kernel
theorem dJx4a65c_init_da8c8_5 : decode cJx4a65c_init_da8c8 5 = .ok (.getstatic 39, 3) := by decide +kernel
theorem dJx4a65c_init_da8c8_8 : decode cJx4a65c_init_da8c8 8 = .ok (.putfield 9, 3) := by decide +kernel
theorem dJx4a65c_init_da8c8_11 : decode cJx4a65c_init_da8c8 11 = .ok (.return_, 1) := by decide +kernel
theorem dJx4a65c_grow_92f84_0 : decode cJx4a65c_grow_92f84 0 = .ok (.aload_n 0, 1) := by decide +kernel
theorem dJx4a65c_grow_92f84_1 : decode cJx4a65c_grow_92f84 1 = .ok (.getfield 9, 3) := by decide +kernel
theorem dJx4a65c_grow_92f84_4 : decode cJx4a65c_grow_92f84 4 = .ok (.arraylength, 1) := by decide +kernel
theorem dJx4a65c_grow_92f84_5 : decode cJx4a65c_grow_92f84 5 = .ok (.istore_n 2, 1) := by decide +kernel
theorem dJx4a65c_grow_92f84_6 : decode cJx4a65c_grow_92f84 6 = .ok (.iload_n 2, 1) := by decide +kernel
theorem dJx4a65c_grow_92f84_7 : decode cJx4a65c_grow_92f84 7 = .ok (.ifCond .gt 13, 3) := by decide +kernel
theorem dJx4a65c_grow_92f84_10 : decode cJx4a65c_grow_92f84 10 = .ok (.aload_n 0, 1) := by decide +kernel
theorem dJx4a65c_grow_92f84_11 : decode cJx4a65c_grow_92f84 11 = .ok (.getfield 9, 3) := by decide +kernel
theorem dJx4a65c_grow_92f84_14 : decode cJx4a65c_grow_92f84 14 = .ok (.getstatic 39, 3) := by decide +kernel
theorem dJx4a65c_grow_92f84_17 : decode cJx4a65c_grow_92f84 17 = .ok (.if_acmp .eq 28, 3) := by decide +kernel
theorem dJx4a65c_grow_92f84_20 : decode cJx4a65c_grow_92f84 20 = .ok (.iload_n 2, 1) := by decide +kernel
theorem dJx4a65c_grow_92f84_21 : decode cJx4a65c_grow_92f84 21 = .ok (.iload_n 1, 1) := by decide +kernel
theorem dJx4a65c_grow_92f84_22 : decode cJx4a65c_grow_92f84 22 = .ok (.iload_n 2, 1) := by decide +kernel
theorem dJx4a65c_grow_92f84_23 : decode cJx4a65c_grow_92f84 23 = .ok (.isub, 1) := by decide +kernel
theorem dJx4a65c_grow_92f84_24 : decode cJx4a65c_grow_92f84 24 = .ok (.iload_n 2, 1) := by decide +kernel
theorem dJx4a65c_grow_92f84_25 : decode cJx4a65c_grow_92f84 25 = .ok (.iconst 1, 1) := by decide +kernel
theorem dJx4a65c_grow_92f84_26 : decode cJx4a65c_grow_92f84 26 = .ok (.ishr, 1) := by decide +kernel
theorem dJx4a65c_grow_92f84_27 : decode cJx4a65c_grow_92f84 27 = .ok (.invokestatic 73, 3) := by decide +kernel
theorem dJx4a65c_grow_92f84_30 : decode cJx4a65c_grow_92f84 30 = .ok (.istore_n 3, 1) := by decide +kernel
theorem dJx4a65c_grow_92f84_31 : decode cJx4a65c_grow_92f84 31 = .ok (.aload_n 0, 1) := by decide +kernel
theorem dJx4a65c_grow_92f84_32 : decode cJx4a65c_grow_92f84 32 = .ok (.aload_n 0, 1) := by decide +kernel
theorem dJx4a65c_grow_92f84_33 : decode cJx4a65c_grow_92f84 33 = .ok (.getfield 9, 3) := by decide +kernel
theorem dJx4a65c_grow_92f84_36 : decode cJx4a65c_grow_92f84 36 = .ok (.iload_n 3, 1) := by decide +kernel
theorem dJx4a65c_grow_92f84_37 : decode cJx4a65c_grow_92f84 37 = .ok (.invokestatic 66, 3) := by decide +kernel
theorem dJx4a65c_grow_92f84_40 : decode cJx4a65c_grow_92f84 40 = .ok (.dup_x1, 1) := by decide +kernel
theorem dJx4a65c_grow_92f84_41 : decode cJx4a65c_grow_92f84 41 = .ok (.putfield 9, 3) := by decide +kernel
theorem dJx4a65c_grow_92f84_44 : decode cJx4a65c_grow_92f84 44 = .ok (.areturn, 1) := by decide +kernel
theorem dJx4a65c_grow_92f84_45 : decode cJx4a65c_grow_92f84 45 = .ok (.aload_n 0, 1) := by decide +kernel
theorem dJx4a65c_grow_92f84_46 : decode cJx4a65c_grow_92f84 46 = .ok (.bipush 10, 2) := by decide +kernel
theorem dJx4a65c_grow_92f84_48 : decode cJx4a65c_grow_92f84 48 = .ok (.iload_n 1, 1) := by decide +kernel
theorem dJx4a65c_grow_92f84_49 : decode cJx4a65c_grow_92f84 49 = .ok (.invokestatic 79, 3) := by decide +kernel
theorem dJx4a65c_grow_92f84_52 : decode cJx4a65c_grow_92f84 52 = .ok (.anewarray 7, 3) := by decide +kernel
theorem dJx4a65c_grow_92f84_55 : decode cJx4a65c_grow_92f84 55 = .ok (.dup_x1, 1) := by decide +kernel
theorem dJx4a65c_grow_92f84_56 : decode cJx4a65c_grow_92f84 56 = .ok (.putfield 9, 3) := by decide +kernel
theorem dJx4a65c_grow_92f84_59 : decode cJx4a65c_grow_92f84 59 = .ok (.areturn, 1) := by decide +kernel
theorem dJx4a65c_grow_d5877_0 : decode cJx4a65c_grow_d5877 0 = .ok (.aload_n 0, 1) := by decide +kernel
theorem dJx4a65c_grow_d5877_1 : decode cJx4a65c_grow_d5877 1 = .ok (.aload_n 0, 1) := by decide +kernel
theorem dJx4a65c_grow_d5877_2 : decode cJx4a65c_grow_d5877 2 = .ok (.getfield 48, 3) := by decide +kernel
theorem dJx4a65c_grow_d5877_5 : decode cJx4a65c_grow_d5877 5 = .ok (.iconst 1, 1) := by decide +kernel
theorem dJx4a65c_grow_d5877_6 : decode cJx4a65c_grow_d5877 6 = .ok (.iadd, 1) := by decide +kernel
theorem dJx4a65c_grow_d5877_7 : decode cJx4a65c_grow_d5877 7 = .ok (.invokevirtual 69, 3) := by decide +kernel
theorem dJx4a65c_grow_d5877_10 : decode cJx4a65c_grow_d5877 10 = .ok (.areturn, 1) := by decide +kernel
theorem dJx4a65c_size_8abf5_0 : decode cJx4a65c_size_8abf5 0 = .ok (.aload_n 0, 1) := by decide +kernel
theorem dJx4a65c_size_8abf5_1 : decode cJx4a65c_size_8abf5 1 = .ok (.getfield 48, 3) := by decide +kernel
theorem dJx4a65c_size_8abf5_4 : decode cJx4a65c_size_8abf5 4 = .ok (.ireturn, 1) := by decide +kernel
theorem dJx4a65c_elementData_915e3_0 : decode cJx4a65c_elementData_915e3 0 = .ok (.aload_n 0, 1) := by decide +kernel
theorem dJx4a65c_elementData_915e3_1 : decode cJx4a65c_elementData_915e3 1 = .ok (.getfield 9, 3) := by decide +kernel
theorem dJx4a65c_elementData_915e3_4 : decode cJx4a65c_elementData_915e3 4 = .ok (.iload_n 1, 1) := by decide +kernel
theorem dJx4a65c_elementData_915e3_5 : decode cJx4a65c_elementData_915e3 5 = .ok (.aaload, 1) := by decide +kernel
theorem dJx4a65c_elementData_915e3_6 : decode cJx4a65c_elementData_915e3 6 = .ok (.areturn, 1) := by decide +kernel
theorem dJx4a65c_get_915e3_0 : decode cJx4a65c_get_915e3 0 = .ok (.iload_n 1, 1) := by decide +kernel
theorem dJx4a65c_get_915e3_1 : decode cJx4a65c_get_915e3 1 = .ok (.aload_n 0, 1) := by decide +kernel
theorem dJx4a65c_get_915e3_2 : decode cJx4a65c_get_915e3 2 = .ok (.getfield 48, 3) := by decide +kernel
theorem dJx4a65c_get_915e3_5 : decode cJx4a65c_get_915e3 5 = .ok (.invokestatic 118, 3) := by decide +kernel
theorem dJx4a65c_get_915e3_8 : decode cJx4a65c_get_915e3 8 = .ok (.pop, 1) := by decide +kernel
theorem dJx4a65c_get_915e3_9 : decode cJx4a65c_get_915e3 9 = .ok (.aload_n 0, 1) := by decide +kernel
theorem dJx4a65c_get_915e3_10 : decode cJx4a65c_get_915e3 10 = .ok (.iload_n 1, 1) := by decide +kernel
theorem dJx4a65c_get_915e3_11 : decode cJx4a65c_get_915e3 11 = .ok (.invokevirtual 123, 3) := by decide +kernel
theorem dJx4a65c_get_915e3_14 : decode cJx4a65c_get_915e3 14 = .ok (.areturn, 1) := by decide +kernel
theorem dJx4a65c_add_72be8_0 : decode cJx4a65c_add_72be8 0 = .ok (.iload_n 3, 1) := by decide +kernel
theorem dJx4a65c_add_72be8_1 : decode cJx4a65c_add_72be8 1 = .ok (.aload_n 2, 1) := by decide +kernel
theorem dJx4a65c_add_72be8_2 : decode cJx4a65c_add_72be8 2 = .ok (.arraylength, 1) := by decide +kernel
theorem dJx4a65c_add_72be8_3 : decode cJx4a65c_add_72be8 3 = .ok (.if_icmp .ne 8, 3) := by decide +kernel
theorem dJx4a65c_add_72be8_6 : decode cJx4a65c_add_72be8 6 = .ok (.aload_n 0, 1) := by decide +kernel
theorem dJx4a65c_add_72be8_7 : decode cJx4a65c_add_72be8 7 = .ok (.invokevirtual 129, 3) := by decide +kernel
theorem dJx4a65c_add_72be8_10 : decode cJx4a65c_add_72be8 10 = .ok (.astore_n 2, 1) := by decide +kernel
theorem dJx4a65c_add_72be8_11 : decode cJx4a65c_add_72be8 11 = .ok (.aload_n 2, 1) := by decide +kernel
theorem dJx4a65c_add_72be8_12 : decode cJx4a65c_add_72be8 12 = .ok (.iload_n 3, 1) := by decide +kernel
theorem dJx4a65c_add_72be8_13 : decode cJx4a65c_add_72be8 13 = .ok (.aload_n 1, 1) := by decide +kernel
theorem dJx4a65c_add_72be8_14 : decode cJx4a65c_add_72be8 14 = .ok (.aastore, 1) := by decide +kernel
theorem dJx4a65c_add_72be8_15 : decode cJx4a65c_add_72be8 15 = .ok (.aload_n 0, 1) := by decide +kernel
theorem dJx4a65c_add_72be8_16 : decode cJx4a65c_add_72be8 16 = .ok (.iload_n 3, 1) := by decide +kernel
theorem dJx4a65c_add_72be8_17 : decode cJx4a65c_add_72be8 17 = .ok (.iconst 1, 1) := by decide +kernel
theorem dJx4a65c_add_72be8_18 : decode cJx4a65c_add_72be8 18 = .ok (.iadd, 1) := by decide +kernel
theorem dJx4a65c_add_72be8_19 : decode cJx4a65c_add_72be8 19 = .ok (.putfield 48, 3) := by decide +kernel
theorem dJx4a65c_add_72be8_22 : decode cJx4a65c_add_72be8 22 = .ok (.return_, 1) := by decide +kernel
theorem dJx4a65c_add_9ea2d_0 : decode cJx4a65c_add_9ea2d 0 = .ok (.aload_n 0, 1) := by decide +kernel
theorem dJx4a65c_add_9ea2d_1 : decode cJx4a65c_add_9ea2d 1 = .ok (.dup, 1) := by decide +kernel
theorem dJx4a65c_add_9ea2d_2 : decode cJx4a65c_add_9ea2d 2 = .ok (.getfield 63, 3) := by decide +kernel
theorem dJx4a65c_add_9ea2d_5 : decode cJx4a65c_add_9ea2d 5 = .ok (.iconst 1, 1) := by decide +kernel
theorem dJx4a65c_add_9ea2d_6 : decode cJx4a65c_add_9ea2d 6 = .ok (.iadd, 1) := by decide +kernel
theorem dJx4a65c_add_9ea2d_7 : decode cJx4a65c_add_9ea2d 7 = .ok (.putfield 63, 3) := by decide +kernel
theorem dJx4a65c_add_9ea2d_10 : decode cJx4a65c_add_9ea2d 10 = .ok (.aload_n 0, 1) := by decide +kernel
theorem dJx4a65c_add_9ea2d_11 : decode cJx4a65c_add_9ea2d 11 = .ok (.aload_n 1, 1) := by decide +kernel
theorem dJx4a65c_add_9ea2d_12 : decode cJx4a65c_add_9ea2d 12 = .ok (.aload_n 0, 1) := by decide +kernel
theorem dJx4a65c_add_9ea2d_13 : decode cJx4a65c_add_9ea2d 13 = .ok (.getfield 9, 3) := by decide +kernel
theorem dJx4a65c_add_9ea2d_16 : decode cJx4a65c_add_9ea2d 16 = .ok (.aload_n 0, 1) := by decide +kernel
theorem dJx4a65c_add_9ea2d_17 : decode cJx4a65c_add_9ea2d 17 = .ok (.getfield 48, 3) := by decide +kernel
theorem dJx4a65c_add_9ea2d_20 : decode cJx4a65c_add_9ea2d 20 = .ok (.invokevirtual 131, 3) := by decide +kernel
theorem dJx4a65c_add_9ea2d_23 : decode cJx4a65c_add_9ea2d 23 = .ok (.iconst 1, 1) := by decide +kernel
theorem dJx4a65c_add_9ea2d_24 : decode cJx4a65c_add_9ea2d 24 = .ok (.ireturn, 1) := by decide +kernel
theorem dJx4a65c_clear_da8c8_0 : decode cJx4a65c_clear_da8c8 0 = .ok (.aload_n 0, 1) := by decide +kernel
theorem dJx4a65c_clear_da8c8_1 : decode cJx4a65c_clear_da8c8 1 = .ok (.dup, 1) := by decide +kernel
theorem dJx4a65c_clear_da8c8_2 : decode cJx4a65c_clear_da8c8 2 = .ok (.getfield 63, 3) := by decide +kernel
theorem dJx4a65c_clear_da8c8_5 : decode cJx4a65c_clear_da8c8 5 = .ok (.iconst 1, 1) := by decide +kernel
theorem dJx4a65c_clear_da8c8_6 : decode cJx4a65c_clear_da8c8 6 = .ok (.iadd, 1) := by decide +kernel
theorem dJx4a65c_clear_da8c8_7 : decode cJx4a65c_clear_da8c8 7 = .ok (.putfield 63, 3) := by decide +kernel
theorem dJx4a65c_clear_da8c8_10 : decode cJx4a65c_clear_da8c8 10 = .ok (.aload_n 0, 1) := by decide +kernel
theorem dJx4a65c_clear_da8c8_11 : decode cJx4a65c_clear_da8c8 11 = .ok (.getfield 9, 3) := by decide +kernel
theorem dJx4a65c_clear_da8c8_14 : decode cJx4a65c_clear_da8c8 14 = .ok (.astore_n 1, 1) := by decide +kernel
theorem dJx4a65c_clear_da8c8_15 : decode cJx4a65c_clear_da8c8 15 = .ok (.aload_n 0, 1) := by decide +kernel
theorem dJx4a65c_clear_da8c8_16 : decode cJx4a65c_clear_da8c8 16 = .ok (.getfield 48, 3) := by decide +kernel
theorem dJx4a65c_clear_da8c8_19 : decode cJx4a65c_clear_da8c8 19 = .ok (.istore_n 2, 1) := by decide +kernel
theorem dJx4a65c_clear_da8c8_20 : decode cJx4a65c_clear_da8c8 20 = .ok (.aload_n 0, 1) := by decide +kernel
theorem dJx4a65c_clear_da8c8_21 : decode cJx4a65c_clear_da8c8 21 = .ok (.iconst 0, 1) := by decide +kernel
theorem dJx4a65c_clear_da8c8_22 : decode cJx4a65c_clear_da8c8 22 = .ok (.dup_x1, 1) := by decide +kernel
theorem dJx4a65c_clear_da8c8_23 : decode cJx4a65c_clear_da8c8 23 = .ok (.putfield 48, 3) := by decide +kernel
theorem dJx4a65c_clear_da8c8_26 : decode cJx4a65c_clear_da8c8 26 = .ok (.istore_n 3, 1) := by decide +kernel
theorem dJx4a65c_clear_da8c8_27 : decode cJx4a65c_clear_da8c8 27 = .ok (.iload_n 3, 1) := by decide +kernel
theorem dJx4a65c_clear_da8c8_28 : decode cJx4a65c_clear_da8c8 28 = .ok (.iload_n 2, 1) := by decide +kernel
theorem dJx4a65c_clear_da8c8_29 : decode cJx4a65c_clear_da8c8 29 = .ok (.if_icmp .ge 13, 3) := by decide +kernel
theorem dJx4a65c_clear_da8c8_32 : decode cJx4a65c_clear_da8c8 32 = .ok (.aload_n 1, 1) := by decide +kernel
theorem dJx4a65c_clear_da8c8_33 : decode cJx4a65c_clear_da8c8 33 = .ok (.iload_n 3, 1) := by decide +kernel
theorem dJx4a65c_clear_da8c8_34 : decode cJx4a65c_clear_da8c8 34 = .ok (.aconst_null, 1) := by decide +kernel
theorem dJx4a65c_clear_da8c8_35 : decode cJx4a65c_clear_da8c8 35 = .ok (.aastore, 1) := by decide +kernel
theorem dJx4a65c_clear_da8c8_36 : decode cJx4a65c_clear_da8c8 36 = .ok (.iinc 3 1, 3) := by decide +kernel
theorem dJx4a65c_clear_da8c8_39 : decode cJx4a65c_clear_da8c8 39 = .ok (.goto (-12), 3) := by decide +kernel
theorem dJx4a65c_clear_da8c8_42 : decode cJx4a65c_clear_da8c8 42 = .ok (.return_, 1) := by decide +kernel
theorem dJ7_copyOf_1904c_0 : decode cJ7_copyOf_1904c 0 = .ok (.aload_n 0, 1) := by decide +kernel
theorem dJ7_copyOf_1904c_1 : decode cJ7_copyOf_1904c 1 = .ok (.iload_n 1, 1) := by decide +kernel
theorem dJ7_copyOf_1904c_2 : decode cJ7_copyOf_1904c 2 = .ok (.aload_n 0, 1) := by decide +kernel
theorem dJ7_copyOf_1904c_3 : decode cJ7_copyOf_1904c 3 = .ok (.invokevirtual 86, 3) := by decide +kernel
theorem dJ7_copyOf_1904c_6 : decode cJ7_copyOf_1904c 6 = .ok (.invokestatic 300, 3) := by decide +kernel
theorem dJ7_copyOf_1904c_9 : decode cJ7_copyOf_1904c 9 = .ok (.areturn, 1) := by decide +kernel
theorem dJ7_copyOf_6403c_0 : decode cJ7_copyOf_6403c 0 = .ok (.aload_n 2, 1) := by decide +kernel
theorem dJ7_copyOf_6403c_1 : decode cJ7_copyOf_6403c 1 = .ok (.ldc 110, 2) := by decide +kernel
theorem dJ7_copyOf_6403c_3 : decode cJ7_copyOf_6403c 3 = .ok (.if_acmp .ne 10, 3) := by decide +kernel
theorem dJ7_copyOf_6403c_6 : decode cJ7_copyOf_6403c 6 = .ok (.iload_n 1, 1) := by decide +kernel
theorem dJ7_copyOf_6403c_7 : decode cJ7_copyOf_6403c 7 = .ok (.anewarray 2, 3) := by decide +kernel
theorem dJ7_copyOf_6403c_10 : decode cJ7_copyOf_6403c 10 = .ok (.goto 14, 3) := by decide +kernel
theorem dJ7_copyOf_6403c_13 : decode cJ7_copyOf_6403c 13 = .ok (.aload_n 2, 1) := by decide +kernel
theorem dJ7_copyOf_6403c_14 : decode cJ7_copyOf_6403c 14 = .ok (.invokevirtual 90, 3) := by decide +kernel
theorem dJ7_copyOf_6403c_17 : decode cJ7_copyOf_6403c 17 = .ok (.iload_n 1, 1) := by decide +kernel
theorem dJ7_copyOf_6403c_18 : decode cJ7_copyOf_6403c 18 = .ok (.invokestatic 95, 3) := by decide +kernel
theorem dJ7_copyOf_6403c_21 : decode cJ7_copyOf_6403c 21 = .ok (.checkcast 110, 3) := by decide +kernel
theorem dJ7_copyOf_6403c_24 : decode cJ7_copyOf_6403c 24 = .ok (.astore_n 3, 1) := by decide +kernel
theorem dJ7_copyOf_6403c_25 : decode cJ7_copyOf_6403c 25 = .ok (.aload_n 0, 1) := by decide +kernel
theorem dJ7_copyOf_6403c_26 : decode cJ7_copyOf_6403c 26 = .ok (.iconst 0, 1) := by decide +kernel
theorem dJ7_copyOf_6403c_27 : decode cJ7_copyOf_6403c 27 = .ok (.aload_n 3, 1) := by decide +kernel
theorem dJ7_copyOf_6403c_28 : decode cJ7_copyOf_6403c 28 = .ok (.iconst 0, 1) := by decide +kernel
theorem dJ7_copyOf_6403c_29 : decode cJ7_copyOf_6403c 29 = .ok (.aload_n 0, 1) := by decide +kernel
theorem dJ7_copyOf_6403c_30 : decode cJ7_copyOf_6403c 30 = .ok (.arraylength, 1) := by decide +kernel
theorem dJ7_copyOf_6403c_31 : decode cJ7_copyOf_6403c 31 = .ok (.iload_n 1, 1) := by decide +kernel
theorem dJ7_copyOf_6403c_32 : decode cJ7_copyOf_6403c 32 = .ok (.invokestatic 304, 3) := by decide +kernel
theorem dJ7_copyOf_6403c_35 : decode cJ7_copyOf_6403c 35 = .ok (.invokestatic 150, 3) := by decide +kernel
theorem dJ7_copyOf_6403c_38 : decode cJ7_copyOf_6403c 38 = .ok (.aload_n 3, 1) := by decide +kernel
theorem dJ7_copyOf_6403c_39 : decode cJ7_copyOf_6403c 39 = .ok (.areturn, 1) := by decide +kernel
theorem dJ7_copyOf_9075b_0 : decode cJ7_copyOf_9075b 0 = .ok (.iload_n 1, 1) := by decide +kernel
theorem dJ7_copyOf_9075b_1 : decode cJ7_copyOf_9075b 1 = .ok (.aload_n 0, 1) := by decide +kernel
theorem dJ7_copyOf_9075b_2 : decode cJ7_copyOf_9075b 2 = .ok (.arraylength, 1) := by decide +kernel
theorem dJ7_copyOf_9075b_3 : decode cJ7_copyOf_9075b 3 = .ok (.if_icmp .ne 11, 3) := by decide +kernel
theorem dJ7_copyOf_9075b_6 : decode cJ7_copyOf_9075b 6 = .ok (.aload_n 0, 1) := by decide +kernel
theorem dJ7_copyOf_9075b_7 : decode cJ7_copyOf_9075b 7 = .ok (.invokevirtual 310, 3) := by decide +kernel
theorem dJ7_copyOf_9075b_10 : decode cJ7_copyOf_9075b 10 = .ok (.checkcast 311, 3) := by decide +kernel
theorem dJ7_copyOf_9075b_13 : decode cJ7_copyOf_9075b 13 = .ok (.areturn, 1) := by decide +kernel
theorem dJ7_copyOf_9075b_14 : decode cJ7_copyOf_9075b 14 = .ok (.iload_n 1, 1) := by decide +kernel
theorem dJ7_copyOf_9075b_15 : decode cJ7_copyOf_9075b 15 = .ok (.newarray .byte, 2) := by decide +kernel
theorem dJ7_copyOf_9075b_17 : decode cJ7_copyOf_9075b 17 = .ok (.astore_n 2, 1) := by decide +kernel
theorem dJ7_copyOf_9075b_18 : decode cJ7_copyOf_9075b 18 = .ok (.aload_n 0, 1) := by decide +kernel
theorem dJ7_copyOf_9075b_19 : decode cJ7_copyOf_9075b 19 = .ok (.iconst 0, 1) := by decide +kernel
theorem dJ7_copyOf_9075b_20 : decode cJ7_copyOf_9075b 20 = .ok (.aload_n 2, 1) := by decide +kernel
theorem dJ7_copyOf_9075b_21 : decode cJ7_copyOf_9075b 21 = .ok (.iconst 0, 1) := by decide +kernel
theorem dJ7_copyOf_9075b_22 : decode cJ7_copyOf_9075b 22 = .ok (.aload_n 0, 1) := by decide +kernel
theorem dJ7_copyOf_9075b_23 : decode cJ7_copyOf_9075b 23 = .ok (.arraylength, 1) := by decide +kernel
theorem dJ7_copyOf_9075b_24 : decode cJ7_copyOf_9075b 24 = .ok (.iload_n 1, 1) := by decide +kernel
theorem dJ7_copyOf_9075b_25 : decode cJ7_copyOf_9075b 25 = .ok (.invokestatic 304, 3) := by decide +kernel
theorem dJ7_copyOf_9075b_28 : decode cJ7_copyOf_9075b 28 = .ok (.invokestatic 150, 3) := by decide +kernel
theorem dJ7_copyOf_9075b_31 : decode cJ7_copyOf_9075b 31 = .ok (.aload_n 2, 1) := by decide +kernel
theorem dJ7_copyOf_9075b_32 : decode cJ7_copyOf_9075b 32 = .ok (.areturn, 1) := by decide +kernel
theorem dJ7_checkLength_df160_0 : decode cJ7_checkLength_df160 0 = .ok (.iload_n 1, 1) := by decide +kernel
theorem dJ7_checkLength_df160_1 : decode cJ7_checkLength_df160 1 = .ok (.iload_n 0, 1) := by decide +kernel
theorem dJ7_checkLength_df160_2 : decode cJ7_checkLength_df160 2 = .ok (.if_icmp .ge 35, 3) := by decide +kernel
theorem dJ7_checkLength_df160_5 : decode cJ7_checkLength_df160 5 = .ok (.new 43, 3) := by decide +kernel
theorem dJ7_checkLength_df160_8 : decode cJ7_checkLength_df160 8 = .ok (.dup, 1) := by decide +kernel
theorem dJ7_checkLength_df160_9 : decode cJ7_checkLength_df160 9 = .ok (.new 45, 3) := by decide +kernel
theorem dJ7_checkLength_df160_12 : decode cJ7_checkLength_df160 12 = .ok (.dup, 1) := by decide +kernel
theorem dJ7_checkLength_df160_13 : decode cJ7_checkLength_df160 13 = .ok (.invokespecial 47, 3) := by decide +kernel
theorem dJ7_checkLength_df160_16 : decode cJ7_checkLength_df160 16 = .ok (.iload_n 0, 1) := by decide +kernel
theorem dJ7_checkLength_df160_17 : decode cJ7_checkLength_df160 17 = .ok (.invokevirtual 54, 3) := by decide +kernel
theorem dJ7_checkLength_df160_20 : decode cJ7_checkLength_df160 20 = .ok (.ldc_w 337, 3) := by decide +kernel
theorem dJ7_checkLength_df160_23 : decode cJ7_checkLength_df160 23 = .ok (.invokevirtual 50, 3) := by decide +kernel
theorem dJ7_checkLength_df160_26 : decode cJ7_checkLength_df160 26 = .ok (.iload_n 1, 1) := by decide +kernel
theorem dJ7_checkLength_df160_27 : decode cJ7_checkLength_df160 27 = .ok (.invokevirtual 54, 3) := by decide +kernel
theorem dJ7_checkLength_df160_30 : decode cJ7_checkLength_df160 30 = .ok (.invokevirtual 61, 3) := by decide +kernel
theorem dJ7_checkLength_df160_33 : decode cJ7_checkLength_df160 33 = .ok (.invokespecial 65, 3) := by decide +kernel
theorem dJ7_checkLength_df160_36 : decode cJ7_checkLength_df160 36 = .ok (.athrow, 1) := by decide +kernel
theorem dJ7_checkLength_df160_37 : decode cJ7_checkLength_df160 37 = .ok (.return_, 1) := by decide +kernel
theorem dJ7_copyOfRange_39247_0 : decode cJ7_copyOfRange_39247 0 = .ok (.iload_n 1, 1) := by decide +kernel
theorem dJ7_copyOfRange_39247_1 : decode cJ7_copyOfRange_39247 1 = .ok (.ifCond .ne 9, 3) := by decide +kernel
theorem dJ7_copyOfRange_39247_4 : decode cJ7_copyOfRange_39247 4 = .ok (.iload_n 2, 1) := by decide +kernel
theorem dJ7_copyOfRange_39247_5 : decode cJ7_copyOfRange_39247 5 = .ok (.aload_n 0, 1) := by decide +kernel
theorem dJ7_copyOfRange_39247_6 : decode cJ7_copyOfRange_39247 6 = .ok (.arraylength, 1) := by decide +kernel
theorem dJ7_copyOfRange_39247_7 : decode cJ7_copyOfRange_39247 7 = .ok (.if_icmp .eq 10, 3) := by decide +kernel
theorem dJ7_copyOfRange_39247_10 : decode cJ7_copyOfRange_39247 10 = .ok (.aload_n 0, 1) := by decide +kernel
theorem dJ7_copyOfRange_39247_11 : decode cJ7_copyOfRange_39247 11 = .ok (.iload_n 1, 1) := by decide +kernel
theorem dJ7_copyOfRange_39247_12 : decode cJ7_copyOfRange_39247 12 = .ok (.iload_n 2, 1) := by decide +kernel
theorem dJ7_copyOfRange_39247_13 : decode cJ7_copyOfRange_39247 13 = .ok (.invokestatic 339, 3) := by decide +kernel
theorem dJ7_copyOfRange_39247_16 : decode cJ7_copyOfRange_39247 16 = .ok (.areturn, 1) := by decide +kernel
theorem dJ7_copyOfRange_39247_17 : decode cJ7_copyOfRange_39247 17 = .ok (.aload_n 0, 1) := by decide +kernel
theorem dJ7_copyOfRange_39247_18 : decode cJ7_copyOfRange_39247 18 = .ok (.invokevirtual 310, 3) := by decide +kernel
theorem dJ7_copyOfRange_39247_21 : decode cJ7_copyOfRange_39247 21 = .ok (.checkcast 311, 3) := by decide +kernel
theorem dJ7_copyOfRange_39247_24 : decode cJ7_copyOfRange_39247 24 = .ok (.areturn, 1) := by decide +kernel
theorem dJ7_copyOfRangeByte_39247_0 : decode cJ7_copyOfRangeByte_39247 0 = .ok (.iload_n 1, 1) := by decide +kernel
theorem dJ7_copyOfRangeByte_39247_1 : decode cJ7_copyOfRangeByte_39247 1 = .ok (.iload_n 2, 1) := by decide +kernel
theorem dJ7_copyOfRangeByte_39247_2 : decode cJ7_copyOfRangeByte_39247 2 = .ok (.invokestatic 343, 3) := by decide +kernel
theorem dJ7_copyOfRangeByte_39247_5 : decode cJ7_copyOfRangeByte_39247 5 = .ok (.iload_n 2, 1) := by decide +kernel
theorem dJ7_copyOfRangeByte_39247_6 : decode cJ7_copyOfRangeByte_39247 6 = .ok (.iload_n 1, 1) := by decide +kernel
theorem dJ7_copyOfRangeByte_39247_7 : decode cJ7_copyOfRangeByte_39247 7 = .ok (.isub, 1) := by decide +kernel
theorem dJ7_copyOfRangeByte_39247_8 : decode cJ7_copyOfRangeByte_39247 8 = .ok (.istore_n 3, 1) := by decide +kernel
theorem dJ7_copyOfRangeByte_39247_9 : decode cJ7_copyOfRangeByte_39247 9 = .ok (.iload_n 3, 1) := by decide +kernel
theorem dJ7_copyOfRangeByte_39247_10 : decode cJ7_copyOfRangeByte_39247 10 = .ok (.newarray .byte, 2) := by decide +kernel
theorem dJ7_copyOfRangeByte_39247_12 : decode cJ7_copyOfRangeByte_39247 12 = .ok (.astore 4, 2) := by decide +kernel
theorem dJ7_copyOfRangeByte_39247_14 : decode cJ7_copyOfRangeByte_39247 14 = .ok (.aload_n 0, 1) := by decide +kernel
theorem dJ7_copyOfRangeByte_39247_15 : decode cJ7_copyOfRangeByte_39247 15 = .ok (.iload_n 1, 1) := by decide +kernel
theorem dJ7_copyOfRangeByte_39247_16 : decode cJ7_copyOfRangeByte_39247 16 = .ok (.aload 4, 2) := by decide +kernel
theorem dJ7_copyOfRangeByte_39247_18 : decode cJ7_copyOfRangeByte_39247 18 = .ok (.iconst 0, 1) := by decide +kernel
theorem dJ7_copyOfRangeByte_39247_19 : decode cJ7_copyOfRangeByte_39247 19 = .ok (.aload_n 0, 1) := by decide +kernel
theorem dJ7_copyOfRangeByte_39247_20 : decode cJ7_copyOfRangeByte_39247 20 = .ok (.arraylength, 1) := by decide +kernel
theorem dJ7_copyOfRangeByte_39247_21 : decode cJ7_copyOfRangeByte_39247 21 = .ok (.iload_n 1, 1) := by decide +kernel
theorem dJ7_copyOfRangeByte_39247_22 : decode cJ7_copyOfRangeByte_39247 22 = .ok (.isub, 1) := by decide +kernel
theorem dJ7_copyOfRangeByte_39247_23 : decode cJ7_copyOfRangeByte_39247 23 = .ok (.iload_n 3, 1) := by decide +kernel
theorem dJ7_copyOfRangeByte_39247_24 : decode cJ7_copyOfRangeByte_39247 24 = .ok (.invokestatic 304, 3) := by decide +kernel
theorem dJ7_copyOfRangeByte_39247_27 : decode cJ7_copyOfRangeByte_39247 27 = .ok (.invokestatic 150, 3) := by decide +kernel
theorem dJ7_copyOfRangeByte_39247_30 : decode cJ7_copyOfRangeByte_39247 30 = .ok (.aload 4, 2) := by decide +kernel
theorem dJ7_copyOfRangeByte_39247_32 : decode cJ7_copyOfRangeByte_39247 32 = .ok (.areturn, 1) := by decide +kernel
theorem dJ15_checkIndex_7cf53_0 : decode cJ15_checkIndex_7cf53 0 = .ok (.iload_n 0, 1) := by decide +kernel
theorem dJ15_checkIndex_7cf53_1 : decode cJ15_checkIndex_7cf53 1 = .ok (.iload_n 1, 1) := by decide +kernel
theorem dJ15_checkIndex_7cf53_2 : decode cJ15_checkIndex_7cf53 2 = .ok (.aconst_null, 1) := by decide +kernel
theorem dJ15_checkIndex_7cf53_3 : decode cJ15_checkIndex_7cf53 3 = .ok (.invokestatic 105, 3) := by decide +kernel
theorem dJ15_checkIndex_7cf53_6 : decode cJ15_checkIndex_7cf53 6 = .ok (.ireturn, 1) := by decide +kernel
theorem dJ8_newLength_cabcc_0 : decode cJ8_newLength_cabcc 0 = .ok (.iload_n 0, 1) := by decide +kernel
theorem dJ8_newLength_cabcc_1 : decode cJ8_newLength_cabcc 1 = .ok (.iload_n 1, 1) := by decide +kernel
theorem dJ8_newLength_cabcc_2 : decode cJ8_newLength_cabcc 2 = .ok (.iload_n 2, 1) := by decide +kernel
theorem dJ8_newLength_cabcc_3 : decode cJ8_newLength_cabcc 3 = .ok (.invokestatic 194, 3) := by decide +kernel
theorem dJ8_newLength_cabcc_6 : decode cJ8_newLength_cabcc 6 = .ok (.iadd, 1) := by decide +kernel
theorem dJ8_newLength_cabcc_7 : decode cJ8_newLength_cabcc 7 = .ok (.istore_n 3, 1) := by decide +kernel
theorem dJ8_newLength_cabcc_8 : decode cJ8_newLength_cabcc 8 = .ok (.iconst 0, 1) := by decide +kernel
theorem dJ8_newLength_cabcc_9 : decode cJ8_newLength_cabcc 9 = .ok (.iload_n 3, 1) := by decide +kernel
theorem dJ8_newLength_cabcc_10 : decode cJ8_newLength_cabcc 10 = .ok (.if_icmp .ge 11, 3) := by decide +kernel
theorem dJ8_newLength_cabcc_13 : decode cJ8_newLength_cabcc 13 = .ok (.iload_n 3, 1) := by decide +kernel
theorem dJ8_newLength_cabcc_14 : decode cJ8_newLength_cabcc 14 = .ok (.ldc 200, 2) := by decide +kernel
theorem dJ8_newLength_cabcc_16 : decode cJ8_newLength_cabcc 16 = .ok (.if_icmp .gt 5, 3) := by decide +kernel
theorem dJ8_newLength_cabcc_19 : decode cJ8_newLength_cabcc 19 = .ok (.iload_n 3, 1) := by decide +kernel
theorem dJ8_newLength_cabcc_20 : decode cJ8_newLength_cabcc 20 = .ok (.ireturn, 1) := by decide +kernel
theorem dJ8_newLength_cabcc_21 : decode cJ8_newLength_cabcc 21 = .ok (.iload_n 0, 1) := by decide +kernel
theorem dJ8_newLength_cabcc_22 : decode cJ8_newLength_cabcc 22 = .ok (.iload_n 1, 1) := by decide +kernel
theorem dJ8_newLength_cabcc_23 : decode cJ8_newLength_cabcc 23 = .ok (.invokestatic 201, 3) := by decide +kernel
theorem dJ8_newLength_cabcc_26 : decode cJ8_newLength_cabcc 26 = .ok (.ireturn, 1) := by decide +kernel
theorem dJ8_hugeLength_7cf53_0 : decode cJ8_hugeLength_7cf53 0 = .ok (.iload_n 0, 1) := by decide +kernel
theorem dJ8_hugeLength_7cf53_1 : decode cJ8_hugeLength_7cf53 1 = .ok (.iload_n 1, 1) := by decide +kernel
theorem dJ8_hugeLength_7cf53_2 : decode cJ8_hugeLength_7cf53 2 = .ok (.iadd, 1) := by decide +kernel
theorem dJ8_hugeLength_7cf53_3 : decode cJ8_hugeLength_7cf53 3 = .ok (.istore_n 2, 1) := by decide +kernel
theorem dJ8_hugeLength_7cf53_4 : decode cJ8_hugeLength_7cf53 4 = .ok (.iload_n 2, 1) := by decide +kernel
theorem dJ8_hugeLength_7cf53_5 : decode cJ8_hugeLength_7cf53 5 = .ok (.ifCond .ge 44, 3) := by decide +kernel
theorem dJ8_hugeLength_7cf53_8 : decode cJ8_hugeLength_7cf53 8 = .ok (.new 204, 3) := by decide +kernel
theorem dJ8_hugeLength_7cf53_11 : decode cJ8_hugeLength_7cf53 11 = .ok (.dup, 1) := by decide +kernel
theorem dJ8_hugeLength_7cf53_12 : decode cJ8_hugeLength_7cf53 12 = .ok (.new 89, 3) := by decide +kernel
theorem dJ8_hugeLength_7cf53_15 : decode cJ8_hugeLength_7cf53 15 = .ok (.dup, 1) := by decide +kernel
theorem dJ8_hugeLength_7cf53_16 : decode cJ8_hugeLength_7cf53 16 = .ok (.invokespecial 91, 3) := by decide +kernel
theorem dJ8_hugeLength_7cf53_19 : decode cJ8_hugeLength_7cf53 19 = .ok (.ldc 206, 2) := by decide +kernel
theorem dJ8_hugeLength_7cf53_21 : decode cJ8_hugeLength_7cf53 21 = .ok (.invokevirtual 94, 3) := by decide +kernel
theorem dJ8_hugeLength_7cf53_24 : decode cJ8_hugeLength_7cf53 24 = .ok (.iload_n 0, 1) := by decide +kernel
theorem dJ8_hugeLength_7cf53_25 : decode cJ8_hugeLength_7cf53 25 = .ok (.invokevirtual 98, 3) := by decide +kernel
theorem dJ8_hugeLength_7cf53_28 : decode cJ8_hugeLength_7cf53 28 = .ok (.ldc 208, 2) := by decide +kernel
theorem dJ8_hugeLength_7cf53_30 : decode cJ8_hugeLength_7cf53 30 = .ok (.invokevirtual 94, 3) := by decide +kernel
theorem dJ8_hugeLength_7cf53_33 : decode cJ8_hugeLength_7cf53 33 = .ok (.iload_n 1, 1) := by decide +kernel
theorem dJ8_hugeLength_7cf53_34 : decode cJ8_hugeLength_7cf53 34 = .ok (.invokevirtual 98, 3) := by decide +kernel
theorem dJ8_hugeLength_7cf53_37 : decode cJ8_hugeLength_7cf53 37 = .ok (.ldc 210, 2) := by decide +kernel
theorem dJ8_hugeLength_7cf53_39 : decode cJ8_hugeLength_7cf53 39 = .ok (.invokevirtual 94, 3) := by decide +kernel
theorem dJ8_hugeLength_7cf53_42 : decode cJ8_hugeLength_7cf53 42 = .ok (.invokevirtual 101, 3) := by decide +kernel
theorem dJ8_hugeLength_7cf53_45 : decode cJ8_hugeLength_7cf53 45 = .ok (.invokespecial 212, 3) := by decide +kernel
theorem dJ8_hugeLength_7cf53_48 : decode cJ8_hugeLength_7cf53 48 = .ok (.athrow, 1) := by decide +kernel
theorem dJ8_hugeLength_7cf53_49 : decode cJ8_hugeLength_7cf53 49 = .ok (.iload_n 2, 1) := by decide +kernel
theorem dJ8_hugeLength_7cf53_50 : decode cJ8_hugeLength_7cf53 50 = .ok (.ldc 200, 2) := by decide +kernel
theorem dJ8_hugeLength_7cf53_52 : decode cJ8_hugeLength_7cf53 52 = .ok (.if_icmp .gt 6, 3) := by decide +kernel
theorem dJ8_hugeLength_7cf53_55 : decode cJ8_hugeLength_7cf53 55 = .ok (.ldc 200, 2) := by decide +kernel
theorem dJ8_hugeLength_7cf53_57 : decode cJ8_hugeLength_7cf53 57 = .ok (.ireturn, 1) := by decide +kernel
theorem dJ8_hugeLength_7cf53_58 : decode cJ8_hugeLength_7cf53 58 = .ok (.iload_n 2, 1) := by decide +kernel
theorem dJ8_hugeLength_7cf53_59 : decode cJ8_hugeLength_7cf53 59 = .ok (.ireturn, 1) := by decide +kernel
theorem dJ3_checkIndex_8e157_0 : decode cJ3_checkIndex_8e157 0 = .ok (.iload_n 0, 1) := by decide +kernel
theorem dJ3_checkIndex_8e157_1 : decode cJ3_checkIndex_8e157 1 = .ok (.ifCond .lt 8, 3) := by decide +kernel
theorem dJ3_checkIndex_8e157_4 : decode cJ3_checkIndex_8e157 4 = .ok (.iload_n 0, 1) := by decide +kernel
theorem dJ3_checkIndex_8e157_5 : decode cJ3_checkIndex_8e157 5 = .ok (.iload_n 1, 1) := by decide +kernel
theorem dJ3_checkIndex_8e157_6 : decode cJ3_checkIndex_8e157 6 = .ok (.if_icmp .lt 10, 3) := by decide +kernel
theorem dJ3_checkIndex_8e157_9 : decode cJ3_checkIndex_8e157 9 = .ok (.aload_n 2, 1) := by decide +kernel
theorem dJ3_checkIndex_8e157_10 : decode cJ3_checkIndex_8e157 10 = .ok (.iload_n 0, 1) := by decide +kernel
theorem dJ3_checkIndex_8e157_11 : decode cJ3_checkIndex_8e157 11 = .ok (.iload_n 1, 1) := by decide +kernel
theorem dJ3_checkIndex_8e157_12 : decode cJ3_checkIndex_8e157 12 = .ok (.invokestatic 95, 3) := by decide +kernel
theorem dJ3_checkIndex_8e157_15 : decode cJ3_checkIndex_8e157 15 = .ok (.athrow, 1) := by decide +kernel
theorem dJ3_checkIndex_8e157_16 : decode cJ3_checkIndex_8e157 16 = .ok (.iload_n 0, 1) := by decide +kernel
theorem dJ3_checkIndex_8e157_17 : decode cJ3_checkIndex_8e157 17 = .ok (.ireturn, 1) := by decide +kernel
theorem dJ3_checkFromToIndex_8c36e_0 : decode cJ3_checkFromToIndex_8c36e 0 = .ok (.iload_n 0, 1) := by decide +kernel
theorem dJ3_checkFromToIndex_8c36e_1 : decode cJ3_checkFromToIndex_8c36e 1 = .ok (.ifCond .lt 13, 3) := by decide +kernel
theorem dJ3_checkFromToIndex_8c36e_4 : decode cJ3_checkFromToIndex_8c36e 4 = .ok (.iload_n 0, 1) := by decide +kernel
theorem dJ3_checkFromToIndex_8c36e_5 : decode cJ3_checkFromToIndex_8c36e 5 = .ok (.iload_n 1, 1) := by decide +kernel
theorem dJ3_checkFromToIndex_8c36e_6 : decode cJ3_checkFromToIndex_8c36e 6 = .ok (.if_icmp .gt 8, 3) := by decide +kernel
theorem dJ3_checkFromToIndex_8c36e_9 : decode cJ3_checkFromToIndex_8c36e 9 = .ok (.iload_n 1, 1) := by decide +kernel
theorem dJ3_checkFromToIndex_8c36e_10 : decode cJ3_checkFromToIndex_8c36e 10 = .ok (.iload_n 2, 1) := by decide +kernel
theorem dJ3_checkFromToIndex_8c36e_11 : decode cJ3_checkFromToIndex_8c36e 11 = .ok (.if_icmp .le 11, 3) := by decide +kernel
theorem dJ3_checkFromToIndex_8c36e_14 : decode cJ3_checkFromToIndex_8c36e 14 = .ok (.aload_n 3, 1) := by decide +kernel
theorem dJ3_checkFromToIndex_8c36e_15 : decode cJ3_checkFromToIndex_8c36e 15 = .ok (.iload_n 0, 1) := by decide +kernel
theorem dJ3_checkFromToIndex_8c36e_16 : decode cJ3_checkFromToIndex_8c36e 16 = .ok (.iload_n 1, 1) := by decide +kernel
theorem dJ3_checkFromToIndex_8c36e_17 : decode cJ3_checkFromToIndex_8c36e 17 = .ok (.iload_n 2, 1) := by decide +kernel
theorem dJ3_checkFromToIndex_8c36e_18 : decode cJ3_checkFromToIndex_8c36e 18 = .ok (.invokestatic 99, 3) := by decide +kernel
theorem dJ3_checkFromToIndex_8c36e_21 : decode cJ3_checkFromToIndex_8c36e 21 = .ok (.athrow, 1) := by decide +kernel
theorem dJ3_checkFromToIndex_8c36e_22 : decode cJ3_checkFromToIndex_8c36e 22 = .ok (.iload_n 0, 1) := by decide +kernel
theorem dJ3_checkFromToIndex_8c36e_23 : decode cJ3_checkFromToIndex_8c36e 23 = .ok (.ireturn, 1) := by decide +kernel
theorem dJ3_checkFromIndexSize_8c36e_0 : decode cJ3_checkFromIndexSize_8c36e 0 = .ok (.iload_n 2, 1) := by decide +kernel
theorem dJ3_checkFromIndexSize_8c36e_1 : decode cJ3_checkFromIndexSize_8c36e 1 = .ok (.iload_n 0, 1) := by decide +kernel
theorem dJ3_checkFromIndexSize_8c36e_2 : decode cJ3_checkFromIndexSize_8c36e 2 = .ok (.ior, 1) := by decide +kernel
theorem dJ3_checkFromIndexSize_8c36e_3 : decode cJ3_checkFromIndexSize_8c36e 3 = .ok (.iload_n 1, 1) := by decide +kernel
theorem dJ3_checkFromIndexSize_8c36e_4 : decode cJ3_checkFromIndexSize_8c36e 4 = .ok (.ior, 1) := by decide +kernel
theorem dJ3_checkFromIndexSize_8c36e_5 : decode cJ3_checkFromIndexSize_8c36e 5 = .ok (.ifCond .lt 10, 3) := by decide +kernel
theorem dJ3_checkFromIndexSize_8c36e_8 : decode cJ3_checkFromIndexSize_8c36e 8 = .ok (.iload_n 1, 1) := by decide +kernel
theorem dJ3_checkFromIndexSize_8c36e_9 : decode cJ3_checkFromIndexSize_8c36e 9 = .ok (.iload_n 2, 1) := by decide +kernel
theorem dJ3_checkFromIndexSize_8c36e_10 : decode cJ3_checkFromIndexSize_8c36e 10 = .ok (.iload_n 0, 1) := by decide +kernel
theorem dJ3_checkFromIndexSize_8c36e_11 : decode cJ3_checkFromIndexSize_8c36e 11 = .ok (.isub, 1) := by decide +kernel
theorem dJ3_checkFromIndexSize_8c36e_12 : decode cJ3_checkFromIndexSize_8c36e 12 = .ok (.if_icmp .le 11, 3) := by decide +kernel
theorem dJ3_checkFromIndexSize_8c36e_15 : decode cJ3_checkFromIndexSize_8c36e 15 = .ok (.aload_n 3, 1) := by decide +kernel
theorem dJ3_checkFromIndexSize_8c36e_16 : decode cJ3_checkFromIndexSize_8c36e 16 = .ok (.iload_n 0, 1) := by decide +kernel
theorem dJ3_checkFromIndexSize_8c36e_17 : decode cJ3_checkFromIndexSize_8c36e 17 = .ok (.iload_n 1, 1) := by decide +kernel
theorem dJ3_checkFromIndexSize_8c36e_18 : decode cJ3_checkFromIndexSize_8c36e 18 = .ok (.iload_n 2, 1) := by decide +kernel
theorem dJ3_checkFromIndexSize_8c36e_19 : decode cJ3_checkFromIndexSize_8c36e 19 = .ok (.invokestatic 103, 3) := by decide +kernel
theorem dJ3_checkFromIndexSize_8c36e_22 : decode cJ3_checkFromIndexSize_8c36e 22 = .ok (.athrow, 1) := by decide +kernel
theorem dJ3_checkFromIndexSize_8c36e_23 : decode cJ3_checkFromIndexSize_8c36e 23 = .ok (.iload_n 0, 1) := by decide +kernel
theorem dJ3_checkFromIndexSize_8c36e_24 : decode cJ3_checkFromIndexSize_8c36e 24 = .ok (.ireturn, 1) := by decide +kernel
end
section
/-! THE WORDS: those of the tables that stay under warming; each one that is used, by its place. -/
def selU : List Cond := [.selects RJ4 yJ5_ensureCapacityInternal_d00df yJ5_ensureCapacityInternal_d00df, .selects RJ4 yJ5_newCapacity_0f7a4 yJ5_newCapacity_0f7a4, .selects RJ4 yJ5_putStringAt_47b60 yJ5_putStringAt_47b60, .selects RJ4 yJ5_inflateIfNeededFor_a7421 yJ5_inflateIfNeededFor_a7421]
def lw_tbx : List Cond := selU ++ lw_tbl
def TBL : List Cond := lw_tbx.filter goodWord
theorem su_J5_ensureCapacityInternal_d00df : Cond.selects RJ4 yJ5_ensureCapacityInternal_d00df yJ5_ensureCapacityInternal_d00df ∈ TBL := List.mem_filter.mpr ⟨List.mem_append_left _ (List.mem_of_getElem? (i := 0) rfl), rfl⟩
theorem su_J5_newCapacity_0f7a4 : Cond.selects RJ4 yJ5_newCapacity_0f7a4 yJ5_newCapacity_0f7a4 ∈ TBL := List.mem_filter.mpr ⟨List.mem_append_left _ (List.mem_of_getElem? (i := 1) rfl), rfl⟩
theorem su_J5_putStringAt_47b60 : Cond.selects RJ4 yJ5_putStringAt_47b60 yJ5_putStringAt_47b60 ∈ TBL := List.mem_filter.mpr ⟨List.mem_append_left _ (List.mem_of_getElem? (i := 2) rfl), rfl⟩
theorem su_J5_inflateIfNeededFor_a7421 : Cond.selects RJ4 yJ5_inflateIfNeededFor_a7421 yJ5_inflateIfNeededFor_a7421 ∈ TBL := List.mem_filter.mpr ⟨List.mem_append_left _ (List.mem_of_getElem? (i := 3) rfl), rfl⟩
theorem tb1 {w : Cond} {i : Nat} (h : tables_1_1[i]? = some w) (hg : goodWord w = true) : w ∈ TBL := List.mem_filter.mpr ⟨List.mem_append_right _ (List.mem_append_right _ (List.mem_append_left _ (List.mem_of_getElem? h))), hg⟩
theorem tb2 {w : Cond} {i : Nat} (h : tables_1_2[i]? = some w) (hg : goodWord w = true) : w ∈ TBL := List.mem_filter.mpr ⟨List.mem_append_right _ (List.mem_append_right _ (List.mem_append_right _ (List.mem_append_left _ (List.mem_of_getElem? h)))), hg⟩
theorem tb3 {w : Cond} {i : Nat} (h : tables_1_3[i]? = some w) (hg : goodWord w = true) : w ∈ TBL := List.mem_filter.mpr ⟨List.mem_append_right _ (List.mem_append_right _ (List.mem_append_right _ (List.mem_append_right _ (List.mem_append_left _ (List.mem_of_getElem? h))))), hg⟩
theorem tb4 {w : Cond} {i : Nat} (h : tables_1_4[i]? = some w) (hg : goodWord w = true) : w ∈ TBL := List.mem_filter.mpr ⟨List.mem_append_right _ (List.mem_append_right _ (List.mem_append_right _ (List.mem_append_right _ (List.mem_append_right _ (List.mem_append_left _ (List.mem_of_getElem? h)))))), hg⟩
theorem tb5 {w : Cond} {i : Nat} (h : tables_1_5[i]? = some w) (hg : goodWord w = true) : w ∈ TBL := List.mem_filter.mpr ⟨List.mem_append_right _ (List.mem_append_right _ (List.mem_append_right _ (List.mem_append_right _ (List.mem_append_right _ (List.mem_append_right _ (List.mem_append_left _ (List.mem_of_getElem? h))))))), hg⟩
theorem tb6 {w : Cond} {i : Nat} (h : tables_1_6[i]? = some w) (hg : goodWord w = true) : w ∈ TBL := List.mem_filter.mpr ⟨List.mem_append_right _ (List.mem_append_right _ (List.mem_append_right _ (List.mem_append_right _ (List.mem_append_right _ (List.mem_append_right _ (List.mem_append_right _ (List.mem_append_left _ (List.mem_of_getElem? h)))))))), hg⟩
theorem tb7 {w : Cond} {i : Nat} (h : tables_1_7[i]? = some w) (hg : goodWord w = true) : w ∈ TBL := List.mem_filter.mpr ⟨List.mem_append_right _ (List.mem_append_right _ (List.mem_append_right _ (List.mem_append_right _ (List.mem_append_right _ (List.mem_append_right _ (List.mem_append_right _ (List.mem_append_right _ (List.mem_of_getElem? h)))))))), hg⟩
theorem tp1 {y : MethodName} {n i : Nat} (h : lw_privs_1[i]? = some (y, n)) : Cond.selects y.cls y y ∈ TBL := List.mem_filter.mpr ⟨List.mem_append_right _ (List.mem_append_left _ (List.mem_map.mpr ⟨(y, n), List.mem_append_left _ (List.mem_of_getElem? h), rfl⟩)), rfl⟩
theorem tp2 {y : MethodName} {n i : Nat} (h : lw_privs_2[i]? = some (y, n)) : Cond.selects y.cls y y ∈ TBL := List.mem_filter.mpr ⟨List.mem_append_right _ (List.mem_append_left _ (List.mem_map.mpr ⟨(y, n), List.mem_append_right _ (List.mem_append_left _ (List.mem_of_getElem? h)), rfl⟩)), rfl⟩
theorem tp3 {y : MethodName} {n i : Nat} (h : lw_privs_3[i]? = some (y, n)) : Cond.selects y.cls y y ∈ TBL := List.mem_filter.mpr ⟨List.mem_append_right _ (List.mem_append_left _ (List.mem_map.mpr ⟨(y, n), List.mem_append_right _ (List.mem_append_right _ (List.mem_append_left _ (List.mem_of_getElem? h))), rfl⟩)), rfl⟩
theorem tp4 {y : MethodName} {n i : Nat} (h : lw_privs_4[i]? = some (y, n)) : Cond.selects y.cls y y ∈ TBL := List.mem_filter.mpr ⟨List.mem_append_right _ (List.mem_append_left _ (List.mem_map.mpr ⟨(y, n), List.mem_append_right _ (List.mem_append_right _ (List.mem_append_right _ (List.mem_of_getElem? h))), rfl⟩)), rfl⟩
theorem in_X0 : ∀ w ∈ u_ws RX0 TX0 4, w ∈ TBL := by
  intro w hw
  obtain ⟨k, hk, rfl⟩ := List.mem_map.mp hw
  have hk := List.mem_range.mp hk
  match k, hk with
  | 0, _ => exact tb2 (i := 13) rfl rfl
  | 1, _ => exact tb2 (i := 15) rfl rfl
  | 2, _ => exact tb2 (i := 17) rfl rfl
  | 3, _ => exact tb2 (i := 19) rfl rfl
  | k + 4, h => exact absurd h (by omega)
theorem in_X1 : ∀ w ∈ u_ws RX1 TX1 9, w ∈ TBL := by
  intro w hw
  obtain ⟨k, hk, rfl⟩ := List.mem_map.mp hw
  have hk := List.mem_range.mp hk
  match k, hk with
  | 0, _ => exact tb1 (i := 87) rfl rfl
  | 1, _ => exact tb1 (i := 89) rfl rfl
  | 2, _ => exact tb1 (i := 91) rfl rfl
  | 3, _ => exact tb1 (i := 93) rfl rfl
  | 4, _ => exact tb1 (i := 95) rfl rfl
  | 5, _ => exact tb1 (i := 97) rfl rfl
  | 6, _ => exact tb1 (i := 99) rfl rfl
  | 7, _ => exact tb1 (i := 101) rfl rfl
  | 8, _ => exact tb1 (i := 103) rfl rfl
  | k + 9, h => exact absurd h (by omega)
theorem in_X2 : ∀ w ∈ u_ws RX2 TX2 3, w ∈ TBL := by
  intro w hw
  obtain ⟨k, hk, rfl⟩ := List.mem_map.mp hw
  have hk := List.mem_range.mp hk
  match k, hk with
  | 0, _ => exact tb1 (i := 208) rfl rfl
  | 1, _ => exact tb1 (i := 210) rfl rfl
  | 2, _ => exact tb1 (i := 212) rfl rfl
  | k + 3, h => exact absurd h (by omega)
theorem in_X3 : ∀ w ∈ u_ws RX3 TX3 19, w ∈ TBL := by
  intro w hw
  obtain ⟨k, hk, rfl⟩ := List.mem_map.mp hw
  have hk := List.mem_range.mp hk
  match k, hk with
  | 0, _ => exact tb1 (i := 143) rfl rfl
  | 1, _ => exact tb1 (i := 145) rfl rfl
  | 2, _ => exact tb1 (i := 147) rfl rfl
  | 3, _ => exact tb1 (i := 149) rfl rfl
  | 4, _ => exact tb1 (i := 151) rfl rfl
  | 5, _ => exact tb1 (i := 153) rfl rfl
  | 6, _ => exact tb1 (i := 155) rfl rfl
  | 7, _ => exact tb1 (i := 157) rfl rfl
  | 8, _ => exact tb1 (i := 159) rfl rfl
  | 9, _ => exact tb1 (i := 161) rfl rfl
  | 10, _ => exact tb1 (i := 163) rfl rfl
  | 11, _ => exact tb1 (i := 165) rfl rfl
  | 12, _ => exact tb1 (i := 167) rfl rfl
  | 13, _ => exact tb1 (i := 169) rfl rfl
  | 14, _ => exact tb1 (i := 171) rfl rfl
  | 15, _ => exact tb1 (i := 173) rfl rfl
  | 16, _ => exact tb1 (i := 175) rfl rfl
  | 17, _ => exact tb1 (i := 177) rfl rfl
  | 18, _ => exact tb1 (i := 179) rfl rfl
  | k + 19, h => exact absurd h (by omega)
theorem in_X4 : ∀ w ∈ u_ws RX4 TX4 2, w ∈ TBL := by
  intro w hw
  obtain ⟨k, hk, rfl⟩ := List.mem_map.mp hw
  have hk := List.mem_range.mp hk
  match k, hk with
  | 0, _ => exact tb2 (i := 47) rfl rfl
  | 1, _ => exact tb2 (i := 49) rfl rfl
  | k + 2, h => exact absurd h (by omega)
theorem in_X5 : ∀ w ∈ u_ws RX5 TX5 1, w ∈ TBL := by
  intro w hw
  obtain ⟨k, hk, rfl⟩ := List.mem_map.mp hw
  have hk := List.mem_range.mp hk
  match k, hk with
  | 0, _ => exact tb1 (i := 191) rfl rfl
  | k + 1, h => exact absurd h (by omega)
theorem in_X6 : ∀ w ∈ u_ws RX6 TX6 4, w ∈ TBL := by
  intro w hw
  obtain ⟨k, hk, rfl⟩ := List.mem_map.mp hw
  have hk := List.mem_range.mp hk
  match k, hk with
  | 0, _ => exact tb2 (i := 31) rfl rfl
  | 1, _ => exact tb2 (i := 33) rfl rfl
  | 2, _ => exact tb2 (i := 35) rfl rfl
  | 3, _ => exact tb2 (i := 37) rfl rfl
  | k + 4, h => exact absurd h (by omega)
theorem in_X7 : ∀ w ∈ u_ws RX7 TX7 5, w ∈ TBL := by
  intro w hw
  obtain ⟨k, hk, rfl⟩ := List.mem_map.mp hw
  have hk := List.mem_range.mp hk
  match k, hk with
  | 0, _ => exact tb1 (i := 236) rfl rfl
  | 1, _ => exact tb1 (i := 238) rfl rfl
  | 2, _ => exact tb2 (i := 0) rfl rfl
  | 3, _ => exact tb2 (i := 2) rfl rfl
  | 4, _ => exact tb2 (i := 4) rfl rfl
  | k + 5, h => exact absurd h (by omega)
theorem in_X8 : ∀ w ∈ u_ws RX8 TX8 9, w ∈ TBL := by
  intro w hw
  obtain ⟨k, hk, rfl⟩ := List.mem_map.mp hw
  have hk := List.mem_range.mp hk
  match k, hk with
  | 0, _ => exact tb2 (i := 237) rfl rfl
  | 1, _ => exact tb2 (i := 239) rfl rfl
  | 2, _ => exact tb3 (i := 1) rfl rfl
  | 3, _ => exact tb3 (i := 3) rfl rfl
  | 4, _ => exact tb3 (i := 5) rfl rfl
  | 5, _ => exact tb3 (i := 7) rfl rfl
  | 6, _ => exact tb3 (i := 9) rfl rfl
  | 7, _ => exact tb3 (i := 11) rfl rfl
  | 8, _ => exact tb3 (i := 13) rfl rfl
  | k + 9, h => exact absurd h (by omega)
theorem in_X9 : ∀ w ∈ u_ws RX9 TX9 8, w ∈ TBL := by
  intro w hw
  obtain ⟨k, hk, rfl⟩ := List.mem_map.mp hw
  have hk := List.mem_range.mp hk
  match k, hk with
  | 0, _ => exact tb4 (i := 75) rfl rfl
  | 1, _ => exact tb4 (i := 77) rfl rfl
  | 2, _ => exact tb4 (i := 79) rfl rfl
  | 3, _ => exact tb4 (i := 81) rfl rfl
  | 4, _ => exact tb4 (i := 83) rfl rfl
  | 5, _ => exact tb4 (i := 85) rfl rfl
  | 6, _ => exact tb4 (i := 87) rfl rfl
  | 7, _ => exact tb4 (i := 89) rfl rfl
  | k + 8, h => exact absurd h (by omega)
theorem in_L : ∀ w ∈ u_ws RL TL 17, w ∈ TBL := by
  intro w hw
  obtain ⟨k, hk, rfl⟩ := List.mem_map.mp hw
  have hk := List.mem_range.mp hk
  match k, hk with
  | 0, _ => exact tb3 (i := 60) rfl rfl
  | 1, _ => exact tb3 (i := 62) rfl rfl
  | 2, _ => exact tb3 (i := 64) rfl rfl
  | 3, _ => exact tb3 (i := 66) rfl rfl
  | 4, _ => exact tb3 (i := 68) rfl rfl
  | 5, _ => exact tb3 (i := 70) rfl rfl
  | 6, _ => exact tb3 (i := 72) rfl rfl
  | 7, _ => exact tb3 (i := 74) rfl rfl
  | 8, _ => exact tb3 (i := 76) rfl rfl
  | 9, _ => exact tb3 (i := 78) rfl rfl
  | 10, _ => exact tb3 (i := 80) rfl rfl
  | 11, _ => exact tb3 (i := 82) rfl rfl
  | 12, _ => exact tb3 (i := 84) rfl rfl
  | 13, _ => exact tb3 (i := 86) rfl rfl
  | 14, _ => exact tb3 (i := 88) rfl rfl
  | 15, _ => exact tb3 (i := 90) rfl rfl
  | 16, _ => exact tb3 (i := 92) rfl rfl
  | k + 17, h => exact absurd h (by omega)
theorem in_J4 : ∀ w ∈ u_ws RJ4 TJ4 4, w ∈ TBL := by
  intro w hw
  obtain ⟨k, hk, rfl⟩ := List.mem_map.mp hw
  have hk := List.mem_range.mp hk
  match k, hk with
  | 0, _ => exact tb4 (i := 8) rfl rfl
  | 1, _ => exact tb4 (i := 10) rfl rfl
  | 2, _ => exact tb4 (i := 12) rfl rfl
  | 3, _ => exact tb4 (i := 14) rfl rfl
  | k + 4, h => exact absurd h (by omega)
theorem in_Jx4a65c : ∀ w ∈ u_ws RJx4a65c TJx4a65c 3, w ∈ TBL := by
  intro w hw
  obtain ⟨k, hk, rfl⟩ := List.mem_map.mp hw
  have hk := List.mem_range.mp hk
  match k, hk with
  | 0, _ => exact tb3 (i := 40) rfl rfl
  | 1, _ => exact tb3 (i := 36) rfl rfl
  | 2, _ => exact tb3 (i := 38) rfl rfl
  | k + 3, h => exact absurd h (by omega)
theorem in_J0 : ∀ w ∈ u_ws RJ0 TJ0 4, w ∈ TBL := by
  intro w hw
  obtain ⟨k, hk, rfl⟩ := List.mem_map.mp hw
  have hk := List.mem_range.mp hk
  match k, hk with
  | 0, _ => exact tb5 (i := 33) rfl rfl
  | 1, _ => exact tb5 (i := 35) rfl rfl
  | 2, _ => exact tb5 (i := 37) rfl rfl
  | 3, _ => exact tb5 (i := 39) rfl rfl
  | k + 4, h => exact absurd h (by omega)
/-- what the tables say of a class' fields -/
def FLc (ci : Nat) : Prop := ∀ (C : String) (T : u_T) (N : Nat), vwCl[ci]? = some (C, T, N) → (∀ w ∈ u_ws C T N, w ∈ TBL) ∧ (∃ ty : Nat → FieldType, ∀ k, k < N → parseFieldDescriptor (T k).2.2.1 = some (ty k)) ∧ (∀ a, a < N → ∀ b, b < N → a ≠ b → (T a).2.1 ≠ (T b).2.1)
theorem flc0 : FLc 0 := by
  intro C T N h
  cases h
  exact ⟨in_X0, ⟨tyX0, tyX0_ok⟩, nmX0⟩
theorem flc1 : FLc 1 := by
  intro C T N h
  cases h
  exact ⟨in_X1, ⟨tyX1, tyX1_ok⟩, nmX1⟩
theorem flc2 : FLc 2 := by
  intro C T N h
  cases h
  exact ⟨in_X2, ⟨tyX2, tyX2_ok⟩, nmX2⟩
theorem flc3 : FLc 3 := by
  intro C T N h
  cases h
  exact ⟨in_X3, ⟨tyX3, tyX3_ok⟩, nmX3⟩
theorem flc4 : FLc 4 := by
  intro C T N h
  cases h
  exact ⟨in_X4, ⟨tyX4, tyX4_ok⟩, nmX4⟩
theorem flc5 : FLc 5 := by
  intro C T N h
  cases h
  exact ⟨in_X5, ⟨tyX5, tyX5_ok⟩, nmX5⟩
theorem flc6 : FLc 6 := by
  intro C T N h
  cases h
  exact ⟨in_X6, ⟨tyX6, tyX6_ok⟩, nmX6⟩
theorem flc7 : FLc 7 := by
  intro C T N h
  cases h
  exact ⟨in_X7, ⟨tyX7, tyX7_ok⟩, nmX7⟩
theorem flc8 : FLc 8 := by
  intro C T N h
  cases h
  exact ⟨in_X8, ⟨tyX8, tyX8_ok⟩, nmX8⟩
theorem flc9 : FLc 9 := by
  intro C T N h
  cases h
  exact ⟨in_X9, ⟨tyX9, tyX9_ok⟩, nmX9⟩
theorem flc10 : FLc 10 := by
  intro C T N h
  cases h
  exact ⟨in_L, ⟨tyL, tyL_ok⟩, nmL⟩
theorem flc11 : FLc 11 := by
  intro C T N h
  cases h
  exact ⟨in_J4, ⟨tyJ4, tyJ4_ok⟩, nmJ4⟩
theorem flc12 : FLc 12 := by
  intro C T N h
  cases h
  exact ⟨in_Jx4a65c, ⟨tyJx4a65c, tyJx4a65c_ok⟩, nmJx4a65c⟩
theorem flc13 : FLc 13 := by
  intro C T N h
  cases h
  exact ⟨in_J0, ⟨tyJ0, tyJ0_ok⟩, nmJ0⟩
def FL (own : String) (idx ci k : Nat) (fin : Bool) (ty : FieldType) : Prop := FLc ci ∧ ∃ (C : String) (T : u_T) (N : Nat), vwCl[ci]? = some (C, T, N) ∧ k < N ∧ (∃ ref : String, Cond.fieldLink own idx ref (T k).2.1 (T k).2.2.1 ∈ TBL ∧ (ref = (T k).1 ∨ Cond.sameField ref (T k).1 (T k).2.1 (T k).2.2.1 ∈ TBL)) ∧ (T k).2.2.2 = fin ∧ parseFieldDescriptor (T k).2.2.1 = some ty
theorem f_X8_10 : FL RX8 10 8 0 true (.object "HutLedger$Hut") := ⟨flc8, RX8, TX8, 9, rfl, by decide, ⟨"HutLedger", tb2 (i := 228) rfl rfl, Or.inl rfl⟩, rfl, (tyX8_ok 0 (by decide)).trans rfl⟩
theorem f_X8_16 : FL RX8 16 8 1 true (.object "HutLedger$Hut") := ⟨flc8, RX8, TX8, 9, rfl, by decide, ⟨"HutLedger", tb2 (i := 229) rfl rfl, Or.inl rfl⟩, rfl, (tyX8_ok 1 (by decide)).trans rfl⟩
theorem f_X8_22 : FL RX8 22 8 2 true (.object "HutLedger$Planner") := ⟨flc8, RX8, TX8, 9, rfl, by decide, ⟨"HutLedger", tb2 (i := 230) rfl rfl, Or.inl rfl⟩, rfl, (tyX8_ok 2 (by decide)).trans rfl⟩
theorem f_X8_29 : FL RX8 29 8 3 true (.object "HutLedger$History") := ⟨flc8, RX8, TX8, 9, rfl, by decide, ⟨"HutLedger", tb2 (i := 231) rfl rfl, Or.inl rfl⟩, rfl, (tyX8_ok 3 (by decide)).trans rfl⟩
theorem f_X8_37 : FL RX8 37 8 4 true (.array (.object "HutLedger$Hut")) := ⟨flc8, RX8, TX8, 9, rfl, by decide, ⟨"HutLedger", tb2 (i := 232) rfl rfl, Or.inl rfl⟩, rfl, (tyX8_ok 4 (by decide)).trans rfl⟩
theorem f_X8_41 : FL RX8 41 8 5 true (.array .boolean) := ⟨flc8, RX8, TX8, 9, rfl, by decide, ⟨"HutLedger", tb2 (i := 233) rfl rfl, Or.inl rfl⟩, rfl, (tyX8_ok 5 (by decide)).trans rfl⟩
theorem f_X8_48 : FL RX8 48 8 6 true (.object "HutLedger$Grammar") := ⟨flc8, RX8, TX8, 9, rfl, by decide, ⟨"HutLedger", tb2 (i := 234) rfl rfl, Or.inl rfl⟩, rfl, (tyX8_ok 6 (by decide)).trans rfl⟩
theorem f_X8_55 : FL RX8 55 8 7 true (.object "HutLedger$Script") := ⟨flc8, RX8, TX8, 9, rfl, by decide, ⟨"HutLedger", tb2 (i := 235) rfl rfl, Or.inl rfl⟩, rfl, (tyX8_ok 7 (by decide)).trans rfl⟩
theorem f_X8_62 : FL RX8 62 8 8 true (.object "HutLedger$Output") := ⟨flc8, RX8, TX8, 9, rfl, by decide, ⟨"HutLedger", tb2 (i := 236) rfl rfl, Or.inl rfl⟩, rfl, (tyX8_ok 8 (by decide)).trans rfl⟩
theorem f_X8_66 : FL RX8 66 0 0 true (.object "HutLedger$Text") := ⟨flc0, RX0, TX0, 4, rfl, by decide, ⟨"HutLedger$Grammar", tb2 (i := 9) rfl rfl, Or.inl rfl⟩, rfl, (tyX0_ok 0 (by decide)).trans rfl⟩
theorem f_X8_82 : FL RX8 82 7 1 false .int := ⟨flc7, RX7, TX7, 5, rfl, by decide, ⟨"HutLedger$Text", tb1 (i := 229) rfl rfl, Or.inl rfl⟩, rfl, (tyX7_ok 1 (by decide)).trans rfl⟩
theorem f_X8_116 : FL RX8 116 3 12 false .int := ⟨flc3, RX3, TX3, 19, rfl, by decide, ⟨"HutLedger$Hut", tb1 (i := 130) rfl rfl, Or.inl rfl⟩, rfl, (tyX3_ok 12 (by decide)).trans rfl⟩
theorem f_X8_152 : FL RX8 152 3 0 false .int := ⟨flc3, RX3, TX3, 19, rfl, by decide, ⟨"HutLedger$Hut", tb1 (i := 108) rfl rfl, Or.inl rfl⟩, rfl, (tyX3_ok 0 (by decide)).trans rfl⟩
theorem f_X8_159 : FL RX8 159 3 1 false .int := ⟨flc3, RX3, TX3, 19, rfl, by decide, ⟨"HutLedger$Hut", tb1 (i := 111) rfl rfl, Or.inl rfl⟩, rfl, (tyX3_ok 1 (by decide)).trans rfl⟩
theorem f_X8_223 : FL RX8 223 3 18 true (.array (.object "HutLedger$Hiker")) := ⟨flc3, RX3, TX3, 19, rfl, by decide, ⟨"HutLedger$Hut", tb1 (i := 142) rfl rfl, Or.inl rfl⟩, rfl, (tyX3_ok 18 (by decide)).trans rfl⟩
theorem f_X8_227 : FL RX8 227 1 4 false .int := ⟨flc1, RX1, TX1, 9, rfl, by decide, ⟨"HutLedger$Hiker", tb1 (i := 75) rfl rfl, Or.inl rfl⟩, rfl, (tyX1_ok 4 (by decide)).trans rfl⟩
theorem f_X8_232 : FL RX8 232 1 5 false .int := ⟨flc1, RX1, TX1, 9, rfl, by decide, ⟨"HutLedger$Hiker", tb1 (i := 78) rfl rfl, Or.inl rfl⟩, rfl, (tyX1_ok 5 (by decide)).trans rfl⟩
theorem f_X8_235 : FL RX8 235 1 7 false .int := ⟨flc1, RX1, TX1, 9, rfl, by decide, ⟨"HutLedger$Hiker", tb1 (i := 83) rfl rfl, Or.inl rfl⟩, rfl, (tyX1_ok 7 (by decide)).trans rfl⟩
theorem f_X8_243 : FL RX8 243 1 8 true (.array .int) := ⟨flc1, RX1, TX1, 9, rfl, by decide, ⟨"HutLedger$Hiker", tb1 (i := 85) rfl rfl, Or.inl rfl⟩, rfl, (tyX1_ok 8 (by decide)).trans rfl⟩
theorem f_X8_246 : FL RX8 246 1 2 false .int := ⟨flc1, RX1, TX1, 9, rfl, by decide, ⟨"HutLedger$Hiker", tb1 (i := 68) rfl rfl, Or.inl rfl⟩, rfl, (tyX1_ok 2 (by decide)).trans rfl⟩
theorem f_X8_249 : FL RX8 249 1 3 false .int := ⟨flc1, RX1, TX1, 9, rfl, by decide, ⟨"HutLedger$Hiker", tb1 (i := 71) rfl rfl, Or.inl rfl⟩, rfl, (tyX1_ok 3 (by decide)).trans rfl⟩
theorem f_X8_277 : FL RX8 277 3 4 false .int := ⟨flc3, RX3, TX3, 19, rfl, by decide, ⟨"HutLedger$Hut", tb1 (i := 115) rfl rfl, Or.inl rfl⟩, rfl, (tyX3_ok 4 (by decide)).trans rfl⟩
theorem f_X8_280 : FL RX8 280 3 5 false .int := ⟨flc3, RX3, TX3, 19, rfl, by decide, ⟨"HutLedger$Hut", tb1 (i := 117) rfl rfl, Or.inl rfl⟩, rfl, (tyX3_ok 5 (by decide)).trans rfl⟩
theorem f_X8_286 : FL RX8 286 3 7 false .int := ⟨flc3, RX3, TX3, 19, rfl, by decide, ⟨"HutLedger$Hut", tb1 (i := 120) rfl rfl, Or.inl rfl⟩, rfl, (tyX3_ok 7 (by decide)).trans rfl⟩
theorem f_X8_297 : FL RX8 297 3 8 false .int := ⟨flc3, RX3, TX3, 19, rfl, by decide, ⟨"HutLedger$Hut", tb1 (i := 122) rfl rfl, Or.inl rfl⟩, rfl, (tyX3_ok 8 (by decide)).trans rfl⟩
theorem f_X8_375 : FL RX8 375 2 2 false .int := ⟨flc2, RX2, TX2, 3, rfl, by decide, ⟨"HutLedger$History", tb1 (i := 207) rfl rfl, Or.inl rfl⟩, rfl, (tyX2_ok 2 (by decide)).trans rfl⟩
theorem f_X0_12 : FL RX0 12 0 0 true (.object "HutLedger$Text") := ⟨flc0, RX0, TX0, 4, rfl, by decide, ⟨"HutLedger$Grammar", tb2 (i := 8) rfl rfl, Or.inl rfl⟩, rfl, (tyX0_ok 0 (by decide)).trans rfl⟩
theorem f_X0_18 : FL RX0 18 0 1 false .int := ⟨flc0, RX0, TX0, 4, rfl, by decide, ⟨"HutLedger$Grammar", tb2 (i := 10) rfl rfl, Or.inl rfl⟩, rfl, (tyX0_ok 1 (by decide)).trans rfl⟩
theorem f_X0_22 : FL RX0 22 0 2 false .int := ⟨flc0, RX0, TX0, 4, rfl, by decide, ⟨"HutLedger$Grammar", tb2 (i := 11) rfl rfl, Or.inl rfl⟩, rfl, (tyX0_ok 2 (by decide)).trans rfl⟩
theorem f_X0_52 : FL RX0 52 7 3 false .int := ⟨flc7, RX7, TX7, 5, rfl, by decide, ⟨"HutLedger$Text", tb1 (i := 233) rfl rfl, Or.inl rfl⟩, rfl, (tyX7_ok 3 (by decide)).trans rfl⟩
theorem f_X0_69 : FL RX0 69 3 1 false .int := ⟨flc3, RX3, TX3, 19, rfl, by decide, ⟨"HutLedger$Hut", tb1 (i := 110) rfl rfl, Or.inl rfl⟩, rfl, (tyX3_ok 1 (by decide)).trans rfl⟩
theorem f_X0_81 : FL RX0 81 3 13 true (.array .int) := ⟨flc3, RX3, TX3, 19, rfl, by decide, ⟨"HutLedger$Hut", tb1 (i := 133) rfl rfl, Or.inl rfl⟩, rfl, (tyX3_ok 13 (by decide)).trans rfl⟩
theorem f_X0_89 : FL RX0 89 0 3 false .int := ⟨flc0, RX0, TX0, 4, rfl, by decide, ⟨"HutLedger$Grammar", tb2 (i := 12) rfl rfl, Or.inl rfl⟩, rfl, (tyX0_ok 3 (by decide)).trans rfl⟩
theorem f_X0_92 : FL RX0 92 3 9 false .int := ⟨flc3, RX3, TX3, 19, rfl, by decide, ⟨"HutLedger$Hut", tb1 (i := 124) rfl rfl, Or.inl rfl⟩, rfl, (tyX3_ok 9 (by decide)).trans rfl⟩
theorem f_X0_97 : FL RX0 97 3 14 true (.array .int) := ⟨flc3, RX3, TX3, 19, rfl, by decide, ⟨"HutLedger$Hut", tb1 (i := 135) rfl rfl, Or.inl rfl⟩, rfl, (tyX3_ok 14 (by decide)).trans rfl⟩
theorem f_X0_100 : FL RX0 100 3 10 false .int := ⟨flc3, RX3, TX3, 19, rfl, by decide, ⟨"HutLedger$Hut", tb1 (i := 126) rfl rfl, Or.inl rfl⟩, rfl, (tyX3_ok 10 (by decide)).trans rfl⟩
theorem f_X0_105 : FL RX0 105 3 15 true (.array .int) := ⟨flc3, RX3, TX3, 19, rfl, by decide, ⟨"HutLedger$Hut", tb1 (i := 137) rfl rfl, Or.inl rfl⟩, rfl, (tyX3_ok 15 (by decide)).trans rfl⟩
theorem f_X0_107 : FL RX0 107 3 11 false .int := ⟨flc3, RX3, TX3, 19, rfl, by decide, ⟨"HutLedger$Hut", tb1 (i := 128) rfl rfl, Or.inl rfl⟩, rfl, (tyX3_ok 11 (by decide)).trans rfl⟩
theorem f_X0_110 : FL RX0 110 7 2 false .int := ⟨flc7, RX7, TX7, 5, rfl, by decide, ⟨"HutLedger$Text", tb1 (i := 232) rfl rfl, Or.inl rfl⟩, rfl, (tyX7_ok 2 (by decide)).trans rfl⟩
theorem f_X0_117 : FL RX0 117 3 12 false .int := ⟨flc3, RX3, TX3, 19, rfl, by decide, ⟨"HutLedger$Hut", tb1 (i := 131) rfl rfl, Or.inl rfl⟩, rfl, (tyX3_ok 12 (by decide)).trans rfl⟩
theorem f_X0_125 : FL RX0 125 3 18 true (.array (.object "HutLedger$Hiker")) := ⟨flc3, RX3, TX3, 19, rfl, by decide, ⟨"HutLedger$Hut", tb1 (i := 141) rfl rfl, Or.inl rfl⟩, rfl, (tyX3_ok 18 (by decide)).trans rfl⟩
theorem f_X0_133 : FL RX0 133 1 0 false .int := ⟨flc1, RX1, TX1, 9, rfl, by decide, ⟨"HutLedger$Hiker", tb1 (i := 62) rfl rfl, Or.inl rfl⟩, rfl, (tyX1_ok 0 (by decide)).trans rfl⟩
theorem f_X0_138 : FL RX0 138 1 1 false .int := ⟨flc1, RX1, TX1, 9, rfl, by decide, ⟨"HutLedger$Hiker", tb1 (i := 65) rfl rfl, Or.inl rfl⟩, rfl, (tyX1_ok 1 (by decide)).trans rfl⟩
theorem f_X0_141 : FL RX0 141 1 2 false .int := ⟨flc1, RX1, TX1, 9, rfl, by decide, ⟨"HutLedger$Hiker", tb1 (i := 67) rfl rfl, Or.inl rfl⟩, rfl, (tyX1_ok 2 (by decide)).trans rfl⟩
theorem f_X1_9 : FL RX1 9 1 4 false .int := ⟨flc1, RX1, TX1, 9, rfl, by decide, ⟨"HutLedger$Hiker", tb1 (i := 73) rfl rfl, Or.inl rfl⟩, rfl, (tyX1_ok 4 (by decide)).trans rfl⟩
theorem f_X1_15 : FL RX1 15 1 5 false .int := ⟨flc1, RX1, TX1, 9, rfl, by decide, ⟨"HutLedger$Hiker", tb1 (i := 76) rfl rfl, Or.inl rfl⟩, rfl, (tyX1_ok 5 (by decide)).trans rfl⟩
theorem f_X1_18 : FL RX1 18 1 8 true (.array .int) := ⟨flc1, RX1, TX1, 9, rfl, by decide, ⟨"HutLedger$Hiker", tb1 (i := 84) rfl rfl, Or.inl rfl⟩, rfl, (tyX1_ok 8 (by decide)).trans rfl⟩
theorem f_X1_22 : FL RX1 22 1 0 false .int := ⟨flc1, RX1, TX1, 9, rfl, by decide, ⟨"HutLedger$Hiker", tb1 (i := 61) rfl rfl, Or.inl rfl⟩, rfl, (tyX1_ok 0 (by decide)).trans rfl⟩
theorem f_X1_25 : FL RX1 25 1 1 false .int := ⟨flc1, RX1, TX1, 9, rfl, by decide, ⟨"HutLedger$Hiker", tb1 (i := 63) rfl rfl, Or.inl rfl⟩, rfl, (tyX1_ok 1 (by decide)).trans rfl⟩
theorem f_X1_28 : FL RX1 28 1 2 false .int := ⟨flc1, RX1, TX1, 9, rfl, by decide, ⟨"HutLedger$Hiker", tb1 (i := 66) rfl rfl, Or.inl rfl⟩, rfl, (tyX1_ok 2 (by decide)).trans rfl⟩
theorem f_X1_31 : FL RX1 31 1 3 false .int := ⟨flc1, RX1, TX1, 9, rfl, by decide, ⟨"HutLedger$Hiker", tb1 (i := 70) rfl rfl, Or.inl rfl⟩, rfl, (tyX1_ok 3 (by decide)).trans rfl⟩
theorem f_X1_34 : FL RX1 34 1 6 false .int := ⟨flc1, RX1, TX1, 9, rfl, by decide, ⟨"HutLedger$Hiker", tb1 (i := 79) rfl rfl, Or.inl rfl⟩, rfl, (tyX1_ok 6 (by decide)).trans rfl⟩
theorem f_X1_37 : FL RX1 37 1 7 false .int := ⟨flc1, RX1, TX1, 9, rfl, by decide, ⟨"HutLedger$Hiker", tb1 (i := 81) rfl rfl, Or.inl rfl⟩, rfl, (tyX1_ok 7 (by decide)).trans rfl⟩
theorem f_X2_13 : FL RX2 13 2 0 true (.array (.object "HutLedger$Hut")) := ⟨flc2, RX2, TX2, 3, rfl, by decide, ⟨"HutLedger$History", tb1 (i := 204) rfl rfl, Or.inl rfl⟩, rfl, (tyX2_ok 0 (by decide)).trans rfl⟩
theorem f_X2_19 : FL RX2 19 2 1 false .int := ⟨flc2, RX2, TX2, 3, rfl, by decide, ⟨"HutLedger$History", tb1 (i := 205) rfl rfl, Or.inl rfl⟩, rfl, (tyX2_ok 1 (by decide)).trans rfl⟩
theorem f_X2_29 : FL RX2 29 2 2 false .int := ⟨flc2, RX2, TX2, 3, rfl, by decide, ⟨"HutLedger$History", tb1 (i := 206) rfl rfl, Or.inl rfl⟩, rfl, (tyX2_ok 2 (by decide)).trans rfl⟩
theorem f_X3_9 : FL RX3 9 3 13 true (.array .int) := ⟨flc3, RX3, TX3, 19, rfl, by decide, ⟨"HutLedger$Hut", tb1 (i := 132) rfl rfl, Or.inl rfl⟩, rfl, (tyX3_ok 13 (by decide)).trans rfl⟩
theorem f_X3_15 : FL RX3 15 3 14 true (.array .int) := ⟨flc3, RX3, TX3, 19, rfl, by decide, ⟨"HutLedger$Hut", tb1 (i := 134) rfl rfl, Or.inl rfl⟩, rfl, (tyX3_ok 14 (by decide)).trans rfl⟩
theorem f_X3_18 : FL RX3 18 3 15 true (.array .int) := ⟨flc3, RX3, TX3, 19, rfl, by decide, ⟨"HutLedger$Hut", tb1 (i := 136) rfl rfl, Or.inl rfl⟩, rfl, (tyX3_ok 15 (by decide)).trans rfl⟩
theorem f_X3_21 : FL RX3 21 3 16 true (.array .int) := ⟨flc3, RX3, TX3, 19, rfl, by decide, ⟨"HutLedger$Hut", tb1 (i := 138) rfl rfl, Or.inl rfl⟩, rfl, (tyX3_ok 16 (by decide)).trans rfl⟩
theorem f_X3_24 : FL RX3 24 3 17 true (.array .int) := ⟨flc3, RX3, TX3, 19, rfl, by decide, ⟨"HutLedger$Hut", tb1 (i := 139) rfl rfl, Or.inl rfl⟩, rfl, (tyX3_ok 17 (by decide)).trans rfl⟩
theorem f_X3_29 : FL RX3 29 3 18 true (.array (.object "HutLedger$Hiker")) := ⟨flc3, RX3, TX3, 19, rfl, by decide, ⟨"HutLedger$Hut", tb1 (i := 140) rfl rfl, Or.inl rfl⟩, rfl, (tyX3_ok 18 (by decide)).trans rfl⟩
theorem f_X3_34 : FL RX3 34 3 1 false .int := ⟨flc3, RX3, TX3, 19, rfl, by decide, ⟨"HutLedger$Hut", tb1 (i := 109) rfl rfl, Or.inl rfl⟩, rfl, (tyX3_ok 1 (by decide)).trans rfl⟩
theorem f_X3_38 : FL RX3 38 3 8 false .int := ⟨flc3, RX3, TX3, 19, rfl, by decide, ⟨"HutLedger$Hut", tb1 (i := 121) rfl rfl, Or.inl rfl⟩, rfl, (tyX3_ok 8 (by decide)).trans rfl⟩
theorem f_X3_45 : FL RX3 45 3 7 false .int := ⟨flc3, RX3, TX3, 19, rfl, by decide, ⟨"HutLedger$Hut", tb1 (i := 119) rfl rfl, Or.inl rfl⟩, rfl, (tyX3_ok 7 (by decide)).trans rfl⟩
theorem f_X3_51 : FL RX3 51 3 0 false .int := ⟨flc3, RX3, TX3, 19, rfl, by decide, ⟨"HutLedger$Hut", tb1 (i := 107) rfl rfl, Or.inl rfl⟩, rfl, (tyX3_ok 0 (by decide)).trans rfl⟩
theorem f_X3_54 : FL RX3 54 3 2 false .int := ⟨flc3, RX3, TX3, 19, rfl, by decide, ⟨"HutLedger$Hut", tb1 (i := 112) rfl rfl, Or.inl rfl⟩, rfl, (tyX3_ok 2 (by decide)).trans rfl⟩
theorem f_X3_57 : FL RX3 57 3 3 false .int := ⟨flc3, RX3, TX3, 19, rfl, by decide, ⟨"HutLedger$Hut", tb1 (i := 113) rfl rfl, Or.inl rfl⟩, rfl, (tyX3_ok 3 (by decide)).trans rfl⟩
theorem f_X3_60 : FL RX3 60 3 4 false .int := ⟨flc3, RX3, TX3, 19, rfl, by decide, ⟨"HutLedger$Hut", tb1 (i := 114) rfl rfl, Or.inl rfl⟩, rfl, (tyX3_ok 4 (by decide)).trans rfl⟩
theorem f_X3_63 : FL RX3 63 3 5 false .int := ⟨flc3, RX3, TX3, 19, rfl, by decide, ⟨"HutLedger$Hut", tb1 (i := 116) rfl rfl, Or.inl rfl⟩, rfl, (tyX3_ok 5 (by decide)).trans rfl⟩
theorem f_X3_66 : FL RX3 66 3 6 false .int := ⟨flc3, RX3, TX3, 19, rfl, by decide, ⟨"HutLedger$Hut", tb1 (i := 118) rfl rfl, Or.inl rfl⟩, rfl, (tyX3_ok 6 (by decide)).trans rfl⟩
theorem f_X3_69 : FL RX3 69 3 9 false .int := ⟨flc3, RX3, TX3, 19, rfl, by decide, ⟨"HutLedger$Hut", tb1 (i := 123) rfl rfl, Or.inl rfl⟩, rfl, (tyX3_ok 9 (by decide)).trans rfl⟩
theorem f_X3_72 : FL RX3 72 3 10 false .int := ⟨flc3, RX3, TX3, 19, rfl, by decide, ⟨"HutLedger$Hut", tb1 (i := 125) rfl rfl, Or.inl rfl⟩, rfl, (tyX3_ok 10 (by decide)).trans rfl⟩
theorem f_X3_75 : FL RX3 75 3 11 false .int := ⟨flc3, RX3, TX3, 19, rfl, by decide, ⟨"HutLedger$Hut", tb1 (i := 127) rfl rfl, Or.inl rfl⟩, rfl, (tyX3_ok 11 (by decide)).trans rfl⟩
theorem f_X3_78 : FL RX3 78 3 12 false .int := ⟨flc3, RX3, TX3, 19, rfl, by decide, ⟨"HutLedger$Hut", tb1 (i := 129) rfl rfl, Or.inl rfl⟩, rfl, (tyX3_ok 12 (by decide)).trans rfl⟩
theorem f_X3_94 : FL RX3 94 1 5 false .int := ⟨flc1, RX1, TX1, 9, rfl, by decide, ⟨"HutLedger$Hiker", tb1 (i := 77) rfl rfl, Or.inl rfl⟩, rfl, (tyX1_ok 5 (by decide)).trans rfl⟩
theorem f_X3_101 : FL RX3 101 1 6 false .int := ⟨flc1, RX1, TX1, 9, rfl, by decide, ⟨"HutLedger$Hiker", tb1 (i := 80) rfl rfl, Or.inl rfl⟩, rfl, (tyX1_ok 6 (by decide)).trans rfl⟩
theorem f_X3_104 : FL RX3 104 1 4 false .int := ⟨flc1, RX1, TX1, 9, rfl, by decide, ⟨"HutLedger$Hiker", tb1 (i := 74) rfl rfl, Or.inl rfl⟩, rfl, (tyX1_ok 4 (by decide)).trans rfl⟩
theorem f_X3_111 : FL RX3 111 1 7 false .int := ⟨flc1, RX1, TX1, 9, rfl, by decide, ⟨"HutLedger$Hiker", tb1 (i := 82) rfl rfl, Or.inl rfl⟩, rfl, (tyX1_ok 7 (by decide)).trans rfl⟩
theorem f_X3_121 : FL RX3 121 1 1 false .int := ⟨flc1, RX1, TX1, 9, rfl, by decide, ⟨"HutLedger$Hiker", tb1 (i := 64) rfl rfl, Or.inl rfl⟩, rfl, (tyX1_ok 1 (by decide)).trans rfl⟩
theorem f_X3_188 : FL RX3 188 1 2 false .int := ⟨flc1, RX1, TX1, 9, rfl, by decide, ⟨"HutLedger$Hiker", tb1 (i := 69) rfl rfl, Or.inl rfl⟩, rfl, (tyX1_ok 2 (by decide)).trans rfl⟩
theorem f_X3_191 : FL RX3 191 1 3 false .int := ⟨flc1, RX1, TX1, 9, rfl, by decide, ⟨"HutLedger$Hiker", tb1 (i := 72) rfl rfl, Or.inl rfl⟩, rfl, (tyX1_ok 3 (by decide)).trans rfl⟩
theorem f_X3_194 : FL RX3 194 1 8 true (.array .int) := ⟨flc1, RX1, TX1, 9, rfl, by decide, ⟨"HutLedger$Hiker", tb1 (i := 86) rfl rfl, Or.inl rfl⟩, rfl, (tyX1_ok 8 (by decide)).trans rfl⟩
theorem f_X4_9 : FL RX4 9 4 0 true (.array .int) := ⟨flc4, RX4, TX4, 2, rfl, by decide, ⟨"HutLedger$Output", tb2 (i := 46) rfl rfl, Or.inl rfl⟩, rfl, (tyX4_ok 0 (by decide)).trans rfl⟩
theorem f_X5_12 : FL RX5 12 5 0 true (.object "HutLedger$Hut") := ⟨flc5, RX5, TX5, 1, rfl, by decide, ⟨"HutLedger$Planner", tb1 (i := 190) rfl rfl, Or.inl rfl⟩, rfl, (tyX5_ok 0 (by decide)).trans rfl⟩
theorem f_X6_9 : FL RX6 9 6 0 true (.array .int) := ⟨flc6, RX6, TX6, 4, rfl, by decide, ⟨"HutLedger$Script", tb2 (i := 28) rfl rfl, Or.inl rfl⟩, rfl, (tyX6_ok 0 (by decide)).trans rfl⟩
theorem f_X6_15 : FL RX6 15 6 1 true (.array .int) := ⟨flc6, RX6, TX6, 4, rfl, by decide, ⟨"HutLedger$Script", tb2 (i := 29) rfl rfl, Or.inl rfl⟩, rfl, (tyX6_ok 1 (by decide)).trans rfl⟩
theorem f_X6_18 : FL RX6 18 6 2 true (.array .int) := ⟨flc6, RX6, TX6, 4, rfl, by decide, ⟨"HutLedger$Script", tb2 (i := 30) rfl rfl, Or.inl rfl⟩, rfl, (tyX6_ok 2 (by decide)).trans rfl⟩
theorem f_X7_9 : FL RX7 9 7 0 true (.array .int) := ⟨flc7, RX7, TX7, 5, rfl, by decide, ⟨"HutLedger$Text", tb1 (i := 228) rfl rfl, Or.inl rfl⟩, rfl, (tyX7_ok 0 (by decide)).trans rfl⟩
theorem f_X7_15 : FL RX7 15 7 1 false .int := ⟨flc7, RX7, TX7, 5, rfl, by decide, ⟨"HutLedger$Text", tb1 (i := 230) rfl rfl, Or.inl rfl⟩, rfl, (tyX7_ok 1 (by decide)).trans rfl⟩
theorem f_X7_36 : FL RX7 36 7 4 false .int := ⟨flc7, RX7, TX7, 5, rfl, by decide, ⟨"HutLedger$Text", tb1 (i := 235) rfl rfl, Or.inl rfl⟩, rfl, (tyX7_ok 4 (by decide)).trans rfl⟩
theorem f_X7_42 : FL RX7 42 7 3 false .int := ⟨flc7, RX7, TX7, 5, rfl, by decide, ⟨"HutLedger$Text", tb1 (i := 234) rfl rfl, Or.inl rfl⟩, rfl, (tyX7_ok 3 (by decide)).trans rfl⟩
theorem f_X7_49 : FL RX7 49 7 2 false .int := ⟨flc7, RX7, TX7, 5, rfl, by decide, ⟨"HutLedger$Text", tb1 (i := 231) rfl rfl, Or.inl rfl⟩, rfl, (tyX7_ok 2 (by decide)).trans rfl⟩
theorem f_L_10 : FL RL 10 10 0 true (.object "HutLedger") := ⟨flc10, RL, TL, 17, rfl, by decide, ⟨"HutLedgerLaw", tb3 (i := 43) rfl rfl, Or.inl rfl⟩, rfl, (tyL_ok 0 (by decide)).trans rfl⟩
theorem f_L_19 : FL RL 19 10 3 true (.object "java/util/ArrayList") := ⟨flc10, RL, TL, 17, rfl, by decide, ⟨"HutLedgerLaw", tb3 (i := 46) rfl rfl, Or.inl rfl⟩, rfl, (tyL_ok 3 (by decide)).trans rfl⟩
theorem f_L_23 : FL RL 23 10 4 true (.array .int) := ⟨flc10, RL, TL, 17, rfl, by decide, ⟨"HutLedgerLaw", tb3 (i := 47) rfl rfl, Or.inl rfl⟩, rfl, (tyL_ok 4 (by decide)).trans rfl⟩
theorem f_L_27 : FL RL 27 10 5 true (.array .int) := ⟨flc10, RL, TL, 17, rfl, by decide, ⟨"HutLedgerLaw", tb3 (i := 48) rfl rfl, Or.inl rfl⟩, rfl, (tyL_ok 5 (by decide)).trans rfl⟩
theorem f_L_30 : FL RL 30 10 6 true (.array .int) := ⟨flc10, RL, TL, 17, rfl, by decide, ⟨"HutLedgerLaw", tb3 (i := 49) rfl rfl, Or.inl rfl⟩, rfl, (tyL_ok 6 (by decide)).trans rfl⟩
theorem f_L_35 : FL RL 35 10 1 false (.array .int) := ⟨flc10, RL, TL, 17, rfl, by decide, ⟨"HutLedgerLaw", tb3 (i := 44) rfl rfl, Or.inl rfl⟩, rfl, (tyL_ok 1 (by decide)).trans rfl⟩
theorem f_L_38 : FL RL 38 10 2 false .int := ⟨flc10, RL, TL, 17, rfl, by decide, ⟨"HutLedgerLaw", tb3 (i := 45) rfl rfl, Or.inl rfl⟩, rfl, (tyL_ok 2 (by decide)).trans rfl⟩
theorem f_L_151 : FL RL 151 10 16 false .int := ⟨flc10, RL, TL, 17, rfl, by decide, ⟨"HutLedgerLaw", tb3 (i := 59) rfl rfl, Or.inl rfl⟩, rfl, (tyL_ok 16 (by decide)).trans rfl⟩
theorem f_L_154 : FL RL 154 10 15 false .int := ⟨flc10, RL, TL, 17, rfl, by decide, ⟨"HutLedgerLaw", tb3 (i := 58) rfl rfl, Or.inl rfl⟩, rfl, (tyL_ok 15 (by decide)).trans rfl⟩
theorem f_L_157 : FL RL 157 10 14 false .int := ⟨flc10, RL, TL, 17, rfl, by decide, ⟨"HutLedgerLaw", tb3 (i := 57) rfl rfl, Or.inl rfl⟩, rfl, (tyL_ok 14 (by decide)).trans rfl⟩
theorem f_L_160 : FL RL 160 10 13 false .int := ⟨flc10, RL, TL, 17, rfl, by decide, ⟨"HutLedgerLaw", tb3 (i := 56) rfl rfl, Or.inl rfl⟩, rfl, (tyL_ok 13 (by decide)).trans rfl⟩
theorem f_L_163 : FL RL 163 10 12 false .int := ⟨flc10, RL, TL, 17, rfl, by decide, ⟨"HutLedgerLaw", tb3 (i := 55) rfl rfl, Or.inl rfl⟩, rfl, (tyL_ok 12 (by decide)).trans rfl⟩
theorem f_L_166 : FL RL 166 10 11 false .int := ⟨flc10, RL, TL, 17, rfl, by decide, ⟨"HutLedgerLaw", tb3 (i := 54) rfl rfl, Or.inl rfl⟩, rfl, (tyL_ok 11 (by decide)).trans rfl⟩
theorem f_L_172 : FL RL 172 10 10 false .int := ⟨flc10, RL, TL, 17, rfl, by decide, ⟨"HutLedgerLaw", tb3 (i := 53) rfl rfl, Or.inl rfl⟩, rfl, (tyL_ok 10 (by decide)).trans rfl⟩
theorem f_L_175 : FL RL 175 10 7 false .int := ⟨flc10, RL, TL, 17, rfl, by decide, ⟨"HutLedgerLaw", tb3 (i := 50) rfl rfl, Or.inl rfl⟩, rfl, (tyL_ok 7 (by decide)).trans rfl⟩
theorem f_L_178 : FL RL 178 10 8 false .int := ⟨flc10, RL, TL, 17, rfl, by decide, ⟨"HutLedgerLaw", tb3 (i := 51) rfl rfl, Or.inl rfl⟩, rfl, (tyL_ok 8 (by decide)).trans rfl⟩
theorem f_L_181 : FL RL 181 10 9 false .int := ⟨flc10, RL, TL, 17, rfl, by decide, ⟨"HutLedgerLaw", tb3 (i := 52) rfl rfl, Or.inl rfl⟩, rfl, (tyL_ok 9 (by decide)).trans rfl⟩
theorem f_X9_7 : FL RX9 7 9 5 false .int := ⟨flc9, RX9, TX9, 8, rfl, by decide, ⟨"HutLedgerLaw$Hiker", tb4 (i := 69) rfl rfl, Or.inl rfl⟩, rfl, (tyX9_ok 5 (by decide)).trans rfl⟩
theorem f_X9_13 : FL RX9 13 9 6 false .int := ⟨flc9, RX9, TX9, 8, rfl, by decide, ⟨"HutLedgerLaw$Hiker", tb4 (i := 71) rfl rfl, Or.inl rfl⟩, rfl, (tyX9_ok 6 (by decide)).trans rfl⟩
theorem f_X9_16 : FL RX9 16 9 7 true (.array .int) := ⟨flc9, RX9, TX9, 8, rfl, by decide, ⟨"HutLedgerLaw$Hiker", tb4 (i := 73) rfl rfl, Or.inl rfl⟩, rfl, (tyX9_ok 7 (by decide)).trans rfl⟩
theorem f_J5_15 : FL RJ5 15 11 0 false (.array .byte) := ⟨flc11, RJ4, TJ4, 4, rfl, by decide, ⟨"java/lang/AbstractStringBuilder", tb4 (i := 4) rfl rfl, Or.inl rfl⟩, rfl, (tyJ4_ok 0 (by decide)).trans rfl⟩
theorem f_J5_22 : FL RJ5 22 11 1 false .byte := ⟨flc11, RJ4, TJ4, 4, rfl, by decide, ⟨"java/lang/AbstractStringBuilder", tb4 (i := 5) rfl rfl, Or.inl rfl⟩, rfl, (tyJ4_ok 1 (by decide)).trans rfl⟩
theorem f_J5_79 : FL RJ5 79 11 3 false .int := ⟨flc11, RJ4, TJ4, 4, rfl, by decide, ⟨"java/lang/AbstractStringBuilder", tb4 (i := 7) rfl rfl, Or.inl rfl⟩, rfl, (tyJ4_ok 3 (by decide)).trans rfl⟩
theorem f_J0_9 : FL RJ0 9 13 0 true (.array .byte) := ⟨flc13, RJ0, TJ0, 4, rfl, by decide, ⟨"java/lang/String", tb5 (i := 31) rfl rfl, Or.inl rfl⟩, rfl, (tyJ0_ok 0 (by decide)).trans rfl⟩
theorem f_J0_15 : FL RJ0 15 13 1 true .byte := ⟨flc13, RJ0, TJ0, 4, rfl, by decide, ⟨"java/lang/String", tb5 (i := 32) rfl rfl, Or.inl rfl⟩, rfl, (tyJ0_ok 1 (by decide)).trans rfl⟩
theorem f_J0_1048 : FL RJ0 1048 11 2 false .boolean := ⟨flc11, RJ4, TJ4, 4, rfl, by decide, ⟨"java/lang/AbstractStringBuilder", tb4 (i := 6) rfl rfl, Or.inl rfl⟩, rfl, (tyJ4_ok 2 (by decide)).trans rfl⟩
theorem f_Jxc12de_7 : FL RJxc12de 7 12 0 false .int := ⟨flc12, RJx4a65c, TJx4a65c, 3, rfl, by decide, ⟨"java/util/AbstractList", tb3 (i := 33) rfl rfl, Or.inl rfl⟩, rfl, (tyJx4a65c_ok 0 (by decide)).trans rfl⟩
theorem f_Jx4a65c_9 : FL RJx4a65c 9 12 1 false (.array (.object "java/lang/Object")) := ⟨flc12, RJx4a65c, TJx4a65c, 3, rfl, by decide, ⟨"java/util/ArrayList", tb3 (i := 31) rfl rfl, Or.inl rfl⟩, rfl, (tyJx4a65c_ok 1 (by decide)).trans rfl⟩
theorem f_Jx4a65c_48 : FL RJx4a65c 48 12 2 false .int := ⟨flc12, RJx4a65c, TJx4a65c, 3, rfl, by decide, ⟨"java/util/ArrayList", tb3 (i := 32) rfl rfl, Or.inl rfl⟩, rfl, (tyJx4a65c_ok 2 (by decide)).trans rfl⟩
theorem f_Jx4a65c_63 : FL RJx4a65c 63 12 0 false .int := ⟨flc12, RJx4a65c, TJx4a65c, 3, rfl, by decide, ⟨"java/util/ArrayList", tb3 (i := 34) rfl rfl, Or.inr (tb3 (i := 35) rfl rfl)⟩, rfl, (tyJx4a65c_ok 0 (by decide)).trans rfl⟩
def YL (kind : Nat) (y : MethodName) (bytes : ByteArray) (maxL : Nat) (ret : Option FieldType) (n : Nat) : Prop := Jvm.plainName y.cls = true ∧ Cond.code y bytes maxL ret ∈ TBL ∧ Cond.initialized y.cls ∈ TBL ∧ (y.cls ≠ "java/lang/invoke/MethodHandle" ∧ y.cls ≠ "java/lang/invoke/VarHandle" ∧ (parseMethodDescriptor y.desc).map (fun d => d.parameters.length) = some n) ∧ (kind = 0 → Cond.instanceMethod y ∈ TBL ∧ Cond.selects y.cls y y ∈ TBL) ∧ (kind = 1 → Cond.static y ∈ TBL) ∧ (kind = 2 → Cond.instanceMethod y ∈ TBL ∧ y.name = "<init>")
theorem y_J0_charAt_5068e : YL 0 yJ0_charAt_5068e cJ0_charAt_5068e 2 (some .char) 1 := ⟨by decide +kernel, tb2 (i := 70) rfl rfl, tb1 (i := 10) rfl rfl, by decide +kernel, fun _ => ⟨tb2 (i := 68) rfl rfl, tb2 (i := 69) rfl rfl⟩, (fun h => by cases h), (fun h => by cases h)⟩
theorem y_J0_checkBoundsBeginEnd_23922 : YL 1 yJ0_checkBoundsBeginEnd_23922 cJ0_checkBoundsBeginEnd_23922 3 none 3 := ⟨by decide +kernel, tb3 (i := 204) rfl rfl, tb1 (i := 10) rfl rfl, by decide +kernel, (fun h => by cases h), fun _ => tb3 (i := 203) rfl rfl, (fun h => by cases h)⟩
theorem y_J0_checkBoundsOffCount_cabcc : YL 1 yJ0_checkBoundsOffCount_cabcc cJ0_checkBoundsOffCount_cabcc 3 (some .int) 3 := ⟨by decide +kernel, tb3 (i := 234) rfl rfl, tb1 (i := 10) rfl rfl, by decide +kernel, (fun h => by cases h), fun _ => tb3 (i := 233) rfl rfl, (fun h => by cases h)⟩
theorem y_J0_checkIndex_df160 : YL 1 yJ0_checkIndex_df160 cJ0_checkIndex_df160 2 none 2 := ⟨by decide +kernel, tb2 (i := 80) rfl rfl, tb1 (i := 10) rfl rfl, by decide +kernel, (fun h => by cases h), fun _ => tb2 (i := 79) rfl rfl, (fun h => by cases h)⟩
theorem y_J0_coder_7d493 : YL 0 yJ0_coder_7d493 cJ0_coder_7d493 1 (some .byte) 0 := ⟨by decide +kernel, tb2 (i := 64) rfl rfl, tb1 (i := 10) rfl rfl, by decide +kernel, fun _ => ⟨tb2 (i := 62) rfl rfl, tb2 (i := 63) rfl rfl⟩, (fun h => by cases h), (fun h => by cases h)⟩
theorem y_J0_getBytes_840e7 : YL 0 yJ0_getBytes_840e7 cJ0_getBytes_840e7 4 none 3 := ⟨by decide +kernel, tb4 (i := 1) rfl rfl, tb1 (i := 10) rfl rfl, by decide +kernel, fun _ => ⟨tb3 (i := 239) rfl rfl, tb4 (i := 0) rfl rfl⟩, (fun h => by cases h), (fun h => by cases h)⟩
theorem y_J0_init_81219 : YL 2 yJ0_init_81219 cJ0_init_81219 2 none 1 := ⟨by decide +kernel, tb4 (i := 155) rfl rfl, tb1 (i := 10) rfl rfl, by decide +kernel, (fun h => by cases h), (fun h => by cases h), fun _ => ⟨tb4 (i := 154) rfl rfl, rfl⟩⟩
theorem y_J0_init_db425 : YL 2 yJ0_init_db425 cJ0_init_db425 5 none 2 := ⟨by decide +kernel, tb4 (i := 158) rfl rfl, tb1 (i := 10) rfl rfl, by decide +kernel, (fun h => by cases h), (fun h => by cases h), fun _ => ⟨tb4 (i := 157) rfl rfl, rfl⟩⟩
theorem y_J0_isLatin1_aae02 : YL 0 yJ0_isLatin1_aae02 cJ0_isLatin1_aae02 1 (some .boolean) 0 := ⟨by decide +kernel, tb2 (i := 74) rfl rfl, tb1 (i := 10) rfl rfl, by decide +kernel, fun _ => ⟨tb2 (i := 72) rfl rfl, tb2 (i := 73) rfl rfl⟩, (fun h => by cases h), (fun h => by cases h)⟩
theorem y_J0_length_8abf5 : YL 0 yJ0_length_8abf5 cJ0_length_8abf5 1 (some .int) 0 := ⟨by decide +kernel, tb2 (i := 60) rfl rfl, tb1 (i := 10) rfl rfl, by decide +kernel, fun _ => ⟨tb2 (i := 58) rfl rfl, tb2 (i := 59) rfl rfl⟩, (fun h => by cases h), (fun h => by cases h)⟩
theorem y_J15_checkIndex_7cf53 : YL 1 yJ15_checkIndex_7cf53 cJ15_checkIndex_7cf53 2 (some .int) 2 := ⟨by decide +kernel, tb5 (i := 127) rfl rfl, tb1 (i := 31) rfl rfl, by decide +kernel, (fun h => by cases h), fun _ => tb5 (i := 126) rfl rfl, (fun h => by cases h)⟩
theorem y_J1_canEncode_fc78d : YL 1 yJ1_canEncode_fc78d cJ1_canEncode_fc78d 1 (some .boolean) 1 := ⟨by decide +kernel, tb4 (i := 52) rfl rfl, tb1 (i := 11) rfl rfl, by decide +kernel, (fun h => by cases h), fun _ => tb4 (i := 51) rfl rfl, (fun h => by cases h)⟩
theorem y_J1_charAt_3b067 : YL 1 yJ1_charAt_3b067 cJ1_charAt_3b067 2 (some .char) 2 := ⟨by decide +kernel, tb2 (i := 77) rfl rfl, tb1 (i := 11) rfl rfl, by decide +kernel, (fun h => by cases h), fun _ => tb2 (i := 76) rfl rfl, (fun h => by cases h)⟩
theorem y_J1_inflate_0e8fd : YL 1 yJ1_inflate_0e8fd cJ1_inflate_0e8fd 5 none 5 := ⟨by decide +kernel, tb3 (i := 225) rfl rfl, tb1 (i := 11) rfl rfl, by decide +kernel, (fun h => by cases h), fun _ => tb3 (i := 224) rfl rfl, (fun h => by cases h)⟩
theorem y_J2_charAt_3b067 : YL 1 yJ2_charAt_3b067 cJ2_charAt_3b067 2 (some .char) 2 := ⟨by decide +kernel, tb2 (i := 88) rfl rfl, tb1 (i := 13) rfl rfl, by decide +kernel, (fun h => by cases h), fun _ => tb2 (i := 87) rfl rfl, (fun h => by cases h)⟩
theorem y_J2_checkBoundsBeginEnd_d044e : YL 1 yJ2_checkBoundsBeginEnd_d044e cJ2_checkBoundsBeginEnd_d044e 3 none 3 := ⟨by decide +kernel, tb3 (i := 201) rfl rfl, tb1 (i := 13) rfl rfl, by decide +kernel, (fun h => by cases h), fun _ => tb3 (i := 200) rfl rfl, (fun h => by cases h)⟩
theorem y_J2_checkBoundsOffCount_d044e : YL 1 yJ2_checkBoundsOffCount_d044e cJ2_checkBoundsOffCount_d044e 3 none 3 := ⟨by decide +kernel, tb3 (i := 231) rfl rfl, tb1 (i := 13) rfl rfl, by decide +kernel, (fun h => by cases h), fun _ => tb3 (i := 230) rfl rfl, (fun h => by cases h)⟩
theorem y_J2_checkIndex_2214a : YL 1 yJ2_checkIndex_2214a cJ2_checkIndex_2214a 2 none 2 := ⟨by decide +kernel, tb2 (i := 91) rfl rfl, tb1 (i := 13) rfl rfl, by decide +kernel, (fun h => by cases h), fun _ => tb2 (i := 90) rfl rfl, (fun h => by cases h)⟩
theorem y_J2_coderFromArrayLen_85cad : YL 1 yJ2_coderFromArrayLen_85cad cJ2_coderFromArrayLen_85cad 2 (some .byte) 2 := ⟨by decide +kernel, tb5 (i := 30) rfl rfl, tb1 (i := 13) rfl rfl, by decide +kernel, (fun h => by cases h), fun _ => tb5 (i := 29) rfl rfl, (fun h => by cases h)⟩
theorem y_J2_compress_39247 : YL 1 yJ2_compress_39247 cJ2_compress_39247 6 (some (.array .byte)) 3 := ⟨by decide +kernel, tb5 (i := 23) rfl rfl, tb1 (i := 13) rfl rfl, by decide +kernel, (fun h => by cases h), fun _ => tb5 (i := 22) rfl rfl, (fun h => by cases h)⟩
theorem y_J2_compress_5af95 : YL 1 yJ2_compress_5af95 cJ2_compress_5af95 7 (some .int) 5 := ⟨by decide +kernel, tb5 (i := 26) rfl rfl, tb1 (i := 13) rfl rfl, by decide +kernel, (fun h => by cases h), fun _ => tb5 (i := 25) rfl rfl, (fun h => by cases h)⟩
theorem y_J2_getChar_3b067 : YL 1 yJ2_getChar_3b067 cJ2_getChar_3b067 2 (some .char) 2 := ⟨by decide +kernel, tb2 (i := 98) rfl rfl, tb1 (i := 13) rfl rfl, by decide +kernel, (fun h => by cases h), fun _ => tb2 (i := 97) rfl rfl, (fun h => by cases h)⟩
theorem y_J2_getChars_46870 : YL 1 yJ2_getChars_46870 cJ2_getChars_46870 5 (some .int) 4 := ⟨by decide +kernel, tb4 (i := 35) rfl rfl, tb1 (i := 13) rfl rfl, by decide +kernel, (fun h => by cases h), fun _ => tb4 (i := 34) rfl rfl, (fun h => by cases h)⟩
theorem y_J2_getChars_ba4f3 : YL 1 yJ2_getChars_ba4f3 cJ2_getChars_ba4f3 7 (some .int) 3 := ⟨by decide +kernel, tb4 (i := 38) rfl rfl, tb1 (i := 13) rfl rfl, by decide +kernel, (fun h => by cases h), fun _ => tb4 (i := 37) rfl rfl, (fun h => by cases h)⟩
theorem y_J2_inflate_0e8fd : YL 1 yJ2_inflate_0e8fd cJ2_inflate_0e8fd 6 none 5 := ⟨by decide +kernel, tb3 (i := 228) rfl rfl, tb1 (i := 13) rfl rfl, by decide +kernel, (fun h => by cases h), fun _ => tb3 (i := 227) rfl rfl, (fun h => by cases h)⟩
theorem y_J2_length_9d52b : YL 1 yJ2_length_9d52b cJ2_length_9d52b 1 (some .int) 1 := ⟨by decide +kernel, tb2 (i := 94) rfl rfl, tb1 (i := 13) rfl rfl, by decide +kernel, (fun h => by cases h), fun _ => tb2 (i := 93) rfl rfl, (fun h => by cases h)⟩
theorem y_J2_newBytesFor_77867 : YL 1 yJ2_newBytesFor_77867 cJ2_newBytesFor_77867 1 (some (.array .byte)) 1 := ⟨by decide +kernel, tb3 (i := 138) rfl rfl, tb1 (i := 13) rfl rfl, by decide +kernel, (fun h => by cases h), fun _ => tb3 (i := 137) rfl rfl, (fun h => by cases h)⟩
theorem y_J2_newBytesLength_0f7a4 : YL 1 yJ2_newBytesLength_0f7a4 cJ2_newBytesLength_0f7a4 1 (some .int) 1 := ⟨by decide +kernel, tb3 (i := 141) rfl rfl, tb1 (i := 13) rfl rfl, by decide +kernel, (fun h => by cases h), fun _ => tb3 (i := 140) rfl rfl, (fun h => by cases h)⟩
theorem y_J2_putCharSB_b72d1 : YL 1 yJ2_putCharSB_b72d1 cJ2_putCharSB_b72d1 3 none 3 := ⟨by decide +kernel, tb4 (i := 55) rfl rfl, tb1 (i := 13) rfl rfl, by decide +kernel, (fun h => by cases h), fun _ => tb4 (i := 54) rfl rfl, (fun h => by cases h)⟩
theorem y_J2_putChar_b72d1 : YL 1 yJ2_putChar_b72d1 cJ2_putChar_b72d1 3 none 3 := ⟨by decide +kernel, tb3 (i := 210) rfl rfl, tb1 (i := 13) rfl rfl, by decide +kernel, (fun h => by cases h), fun _ => tb3 (i := 209) rfl rfl, (fun h => by cases h)⟩
theorem y_J2_putCharsAt_cd4e5 : YL 1 yJ2_putCharsAt_cd4e5 cJ2_putCharsAt_cd4e5 7 (some .int) 6 := ⟨by decide +kernel, tb3 (i := 198) rfl rfl, tb1 (i := 13) rfl rfl, by decide +kernel, (fun h => by cases h), fun _ => tb3 (i := 197) rfl rfl, (fun h => by cases h)⟩
theorem y_J3_checkFromIndexSize_8c36e : YL 1 yJ3_checkFromIndexSize_8c36e cJ3_checkFromIndexSize_8c36e 4 (some .int) 4 := ⟨by decide +kernel, tb3 (i := 237) rfl rfl, tb1 (i := 12) rfl rfl, by decide +kernel, (fun h => by cases h), fun _ => tb3 (i := 236) rfl rfl, (fun h => by cases h)⟩
theorem y_J3_checkFromToIndex_8c36e : YL 1 yJ3_checkFromToIndex_8c36e cJ3_checkFromToIndex_8c36e 4 (some .int) 4 := ⟨by decide +kernel, tb3 (i := 207) rfl rfl, tb1 (i := 12) rfl rfl, by decide +kernel, (fun h => by cases h), fun _ => tb3 (i := 206) rfl rfl, (fun h => by cases h)⟩
theorem y_J3_checkIndex_8e157 : YL 1 yJ3_checkIndex_8e157 cJ3_checkIndex_8e157 3 (some .int) 3 := ⟨by decide +kernel, tb2 (i := 85) rfl rfl, tb1 (i := 12) rfl rfl, by decide +kernel, (fun h => by cases h), fun _ => tb2 (i := 84) rfl rfl, (fun h => by cases h)⟩
theorem y_J4_append_15ec4 : YL 0 yJ4_append_15ec4 cJ4_append_15ec4 2 (some (.object "java/lang/StringBuilder")) 1 := ⟨by decide +kernel, tb3 (i := 152) rfl rfl, tb1 (i := 19) rfl rfl, by decide +kernel, fun _ => ⟨tb3 (i := 150) rfl rfl, tb3 (i := 151) rfl rfl⟩, (fun h => by cases h), (fun h => by cases h)⟩
theorem y_J4_append_bf812 : YL 0 yJ4_append_bf812 cJ4_append_bf812 2 (some (.object "java/lang/StringBuilder")) 1 := ⟨by decide +kernel, tb4 (i := 19) rfl rfl, tb1 (i := 19) rfl rfl, by decide +kernel, fun _ => ⟨tb4 (i := 17) rfl rfl, tb4 (i := 18) rfl rfl⟩, (fun h => by cases h), (fun h => by cases h)⟩
theorem y_J4_append_cf468 : YL 0 yJ4_append_cf468 cJ4_append_cf468 2 (some (.object "java/lang/StringBuilder")) 1 := ⟨by decide +kernel, tb4 (i := 46) rfl rfl, tb1 (i := 19) rfl rfl, by decide +kernel, fun _ => ⟨tb4 (i := 44) rfl rfl, tb4 (i := 45) rfl rfl⟩, (fun h => by cases h), (fun h => by cases h)⟩
theorem y_J4_init_a7421 : YL 2 yJ4_init_a7421 cJ4_init_a7421 2 none 1 := ⟨by decide +kernel, tb3 (i := 127) rfl rfl, tb1 (i := 19) rfl rfl, by decide +kernel, (fun h => by cases h), (fun h => by cases h), fun _ => ⟨tb3 (i := 126) rfl rfl, rfl⟩⟩
theorem y_J4_init_da8c8 : YL 2 yJ4_init_da8c8 cJ4_init_da8c8 1 none 0 := ⟨by decide +kernel, tb4 (i := 228) rfl rfl, tb1 (i := 19) rfl rfl, by decide +kernel, (fun h => by cases h), (fun h => by cases h), fun _ => ⟨tb4 (i := 227) rfl rfl, rfl⟩⟩
theorem y_J4_toString_0e30d : YL 0 yJ4_toString_0e30d cJ4_toString_0e30d 1 (some (.object "java/lang/String")) 0 := ⟨by decide +kernel, tb4 (i := 150) rfl rfl, tb1 (i := 19) rfl rfl, by decide +kernel, fun _ => ⟨tb4 (i := 148) rfl rfl, tb4 (i := 149) rfl rfl⟩, (fun h => by cases h), (fun h => by cases h)⟩
theorem y_J5_init_a7421 : YL 2 yJ5_init_a7421 cJ5_init_a7421 5 none 1 := ⟨by decide +kernel, tb3 (i := 130) rfl rfl, tb1 (i := 18) rfl rfl, by decide +kernel, (fun h => by cases h), (fun h => by cases h), fun _ => ⟨tb3 (i := 129) rfl rfl, rfl⟩⟩
theorem y_J5_init_d00df : YL 2 yJ5_init_d00df cJ5_init_d00df 2 none 1 := ⟨by decide +kernel, tb4 (i := 231) rfl rfl, tb1 (i := 18) rfl rfl, by decide +kernel, (fun h => by cases h), (fun h => by cases h), fun _ => ⟨tb4 (i := 230) rfl rfl, rfl⟩⟩
theorem y_J6_getChars_ba4f3 : YL 1 yJ6_getChars_ba4f3 cJ6_getChars_ba4f3 7 (some .int) 3 := ⟨by decide +kernel, tb4 (i := 28) rfl rfl, tb1 (i := 24) rfl rfl, by decide +kernel, (fun h => by cases h), fun _ => tb4 (i := 27) rfl rfl, (fun h => by cases h)⟩
theorem y_J6_stringSize_0f7a4 : YL 1 yJ6_stringSize_0f7a4 cJ6_stringSize_0f7a4 4 (some .int) 1 := ⟨by decide +kernel, tb4 (i := 25) rfl rfl, tb1 (i := 24) rfl rfl, by decide +kernel, (fun h => by cases h), fun _ => tb4 (i := 24) rfl rfl, (fun h => by cases h)⟩
theorem y_J7_checkLength_df160 : YL 1 yJ7_checkLength_df160 cJ7_checkLength_df160 2 none 2 := ⟨by decide +kernel, tb4 (i := 182) rfl rfl, tb1 (i := 21) rfl rfl, by decide +kernel, (fun h => by cases h), fun _ => tb4 (i := 181) rfl rfl, (fun h => by cases h)⟩
theorem y_J7_copyOfRangeByte_39247 : YL 1 yJ7_copyOfRangeByte_39247 cJ7_copyOfRangeByte_39247 5 (some (.array .byte)) 3 := ⟨by decide +kernel, tb4 (i := 179) rfl rfl, tb1 (i := 21) rfl rfl, by decide +kernel, (fun h => by cases h), fun _ => tb4 (i := 178) rfl rfl, (fun h => by cases h)⟩
theorem y_J7_copyOfRange_39247 : YL 1 yJ7_copyOfRange_39247 cJ7_copyOfRange_39247 3 (some (.array .byte)) 3 := ⟨by decide +kernel, tb4 (i := 176) rfl rfl, tb1 (i := 21) rfl rfl, by decide +kernel, (fun h => by cases h), fun _ => tb4 (i := 175) rfl rfl, (fun h => by cases h)⟩
theorem y_J7_copyOf_1904c : YL 1 yJ7_copyOf_1904c cJ7_copyOf_1904c 2 (some (.array (.object "java/lang/Object"))) 2 := ⟨by decide +kernel, tb4 (i := 115) rfl rfl, tb1 (i := 21) rfl rfl, by decide +kernel, (fun h => by cases h), fun _ => tb4 (i := 114) rfl rfl, (fun h => by cases h)⟩
theorem y_J7_copyOf_6403c : YL 1 yJ7_copyOf_6403c cJ7_copyOf_6403c 4 (some (.array (.object "java/lang/Object"))) 3 := ⟨by decide +kernel, tb4 (i := 140) rfl rfl, tb1 (i := 21) rfl rfl, by decide +kernel, (fun h => by cases h), fun _ => tb4 (i := 139) rfl rfl, (fun h => by cases h)⟩
theorem y_J7_copyOf_9075b : YL 1 yJ7_copyOf_9075b cJ7_copyOf_9075b 3 (some (.array .byte)) 2 := ⟨by decide +kernel, tb3 (i := 178) rfl rfl, tb1 (i := 21) rfl rfl, by decide +kernel, (fun h => by cases h), fun _ => tb3 (i := 177) rfl rfl, (fun h => by cases h)⟩
theorem y_J8_hugeLength_7cf53 : YL 1 yJ8_hugeLength_7cf53 cJ8_hugeLength_7cf53 3 (some .int) 2 := ⟨by decide +kernel, tb3 (i := 175) rfl rfl, tb1 (i := 20) rfl rfl, by decide +kernel, (fun h => by cases h), fun _ => tb3 (i := 174) rfl rfl, (fun h => by cases h)⟩
theorem y_J8_newLength_cabcc : YL 1 yJ8_newLength_cabcc cJ8_newLength_cabcc 4 (some .int) 3 := ⟨by decide +kernel, tb3 (i := 170) rfl rfl, tb1 (i := 20) rfl rfl, by decide +kernel, (fun h => by cases h), fun _ => tb3 (i := 169) rfl rfl, (fun h => by cases h)⟩
theorem y_Jx4a65c_add_72be8 : YL 0 yJx4a65c_add_72be8 cJx4a65c_add_72be8 4 none 3 := ⟨by decide +kernel, tb4 (i := 103) rfl rfl, tb1 (i := 17) rfl rfl, by decide +kernel, fun _ => ⟨tb4 (i := 102) rfl rfl, tp2 (i := 0) rfl⟩, (fun h => by cases h), (fun h => by cases h)⟩
theorem y_Jx4a65c_add_9ea2d : YL 0 yJx4a65c_add_9ea2d cJx4a65c_add_9ea2d 2 (some .boolean) 1 := ⟨by decide +kernel, tb4 (i := 99) rfl rfl, tb1 (i := 17) rfl rfl, by decide +kernel, fun _ => ⟨tb4 (i := 97) rfl rfl, tb4 (i := 98) rfl rfl⟩, (fun h => by cases h), (fun h => by cases h)⟩
theorem y_Jx4a65c_clear_da8c8 : YL 0 yJx4a65c_clear_da8c8 cJx4a65c_clear_da8c8 4 none 0 := ⟨by decide +kernel, tb3 (i := 106) rfl rfl, tb1 (i := 17) rfl rfl, by decide +kernel, fun _ => ⟨tb3 (i := 104) rfl rfl, tb3 (i := 105) rfl rfl⟩, (fun h => by cases h), (fun h => by cases h)⟩
theorem y_Jx4a65c_elementData_915e3 : YL 0 yJx4a65c_elementData_915e3 cJx4a65c_elementData_915e3 2 (some (.object "java/lang/Object")) 1 := ⟨by decide +kernel, tb5 (i := 132) rfl rfl, tb1 (i := 17) rfl rfl, by decide +kernel, fun _ => ⟨tb5 (i := 130) rfl rfl, tb5 (i := 131) rfl rfl⟩, (fun h => by cases h), (fun h => by cases h)⟩
theorem y_Jx4a65c_get_915e3 : YL 0 yJx4a65c_get_915e3 cJx4a65c_get_915e3 2 (some (.object "java/lang/Object")) 1 := ⟨by decide +kernel, tb5 (i := 124) rfl rfl, tb1 (i := 17) rfl rfl, by decide +kernel, fun _ => ⟨tb5 (i := 122) rfl rfl, tb5 (i := 123) rfl rfl⟩, (fun h => by cases h), (fun h => by cases h)⟩
theorem y_Jx4a65c_grow_92f84 : YL 0 yJx4a65c_grow_92f84 cJx4a65c_grow_92f84 4 (some (.array (.object "java/lang/Object"))) 1 := ⟨by decide +kernel, tb4 (i := 111) rfl rfl, tb1 (i := 17) rfl rfl, by decide +kernel, fun _ => ⟨tb4 (i := 110) rfl rfl, tp2 (i := 2) rfl⟩, (fun h => by cases h), (fun h => by cases h)⟩
theorem y_Jx4a65c_grow_d5877 : YL 0 yJx4a65c_grow_d5877 cJx4a65c_grow_d5877 1 (some (.array (.object "java/lang/Object"))) 0 := ⟨by decide +kernel, tb4 (i := 107) rfl rfl, tb1 (i := 17) rfl rfl, by decide +kernel, fun _ => ⟨tb4 (i := 106) rfl rfl, tp2 (i := 1) rfl⟩, (fun h => by cases h), (fun h => by cases h)⟩
theorem y_Jx4a65c_init_da8c8 : YL 2 yJx4a65c_init_da8c8 cJx4a65c_init_da8c8 1 none 0 := ⟨by decide +kernel, tb3 (i := 21) rfl rfl, tb1 (i := 17) rfl rfl, by decide +kernel, (fun h => by cases h), (fun h => by cases h), fun _ => ⟨tb3 (i := 20) rfl rfl, rfl⟩⟩
theorem y_Jx4a65c_size_8abf5 : YL 0 yJx4a65c_size_8abf5 cJx4a65c_size_8abf5 1 (some .int) 0 := ⟨by decide +kernel, tb4 (i := 95) rfl rfl, tb1 (i := 17) rfl rfl, by decide +kernel, fun _ => ⟨tb4 (i := 93) rfl rfl, tb4 (i := 94) rfl rfl⟩, (fun h => by cases h), (fun h => by cases h)⟩
theorem y_Jxa1e45_init_da8c8 : YL 2 yJxa1e45_init_da8c8 cJxa1e45_init_da8c8 1 none 0 := ⟨by decide +kernel, tb3 (i := 27) rfl rfl, tb1 (i := 15) rfl rfl, by decide +kernel, (fun h => by cases h), (fun h => by cases h), fun _ => ⟨tb3 (i := 26) rfl rfl, rfl⟩⟩
theorem y_Jxc12de_init_da8c8 : YL 2 yJxc12de_init_da8c8 cJxc12de_init_da8c8 1 none 0 := ⟨by decide +kernel, tb3 (i := 24) rfl rfl, tb1 (i := 16) rfl rfl, by decide +kernel, (fun h => by cases h), (fun h => by cases h), fun _ => ⟨tb3 (i := 23) rfl rfl, rfl⟩⟩
theorem y_L_act : YL 0 yL_act cL_act 9 (some .boolean) 0 := ⟨by decide +kernel, tb6 (i := 159) rfl rfl, tb1 (i := 0) rfl rfl, by decide +kernel, fun _ => ⟨tb6 (i := 158) rfl rfl, tp3 (i := 0) rfl⟩, (fun h => by cases h), (fun h => by cases h)⟩
theorem y_L_at : YL 1 yL_at cL_at 3 (some .int) 2 := ⟨by decide +kernel, tb3 (i := 116) rfl rfl, tb1 (i := 0) rfl rfl, by decide +kernel, (fun h => by cases h), fun _ => tb3 (i := 115) rfl rfl, (fun h => by cases h)⟩
theorem y_L_dawns : YL 0 yL_dawns cL_dawns 7 none 0 := ⟨by decide +kernel, tb7 (i := 115) rfl rfl, tb1 (i := 0) rfl rfl, by decide +kernel, fun _ => ⟨tb7 (i := 114) rfl rfl, tp4 (i := 6) rfl⟩, (fun h => by cases h), (fun h => by cases h)⟩
theorem y_L_does : YL 0 yL_does cL_does 2 (some .int) 1 := ⟨by decide +kernel, tb5 (i := 213) rfl rfl, tb1 (i := 0) rfl rfl, by decide +kernel, fun _ => ⟨tb5 (i := 212) rfl rfl, tp2 (i := 9) rfl⟩, (fun h => by cases h), (fun h => by cases h)⟩
theorem y_L_draw : YL 0 yL_draw cL_draw 3 (some .int) 1 := ⟨by decide +kernel, tb3 (i := 110) rfl rfl, tb1 (i := 0) rfl rfl, by decide +kernel, fun _ => ⟨tb3 (i := 109) rfl rfl, tp1 (i := 15) rfl⟩, (fun h => by cases h), (fun h => by cases h)⟩
theorem y_L_holds : YL 0 yL_holds cL_holds 4 (some .boolean) 1 := ⟨by decide +kernel, tb3 (i := 98) rfl rfl, tb1 (i := 0) rfl rfl, by decide +kernel, fun _ => ⟨tb3 (i := 97) rfl rfl, tp1 (i := 13) rfl⟩, (fun h => by cases h), (fun h => by cases h)⟩
theorem y_L_in : YL 0 yL_in cL_in 3 (some (.object "HutLedgerLaw$Hiker")) 1 := ⟨by decide +kernel, tb5 (i := 194) rfl rfl, tb1 (i := 0) rfl rfl, by decide +kernel, fun _ => ⟨tb5 (i := 193) rfl rfl, tp2 (i := 8) rfl⟩, (fun h => by cases h), (fun h => by cases h)⟩
theorem y_L_init : YL 2 yL_init cL_init 1 none 0 := ⟨by decide +kernel, tb1 (i := 38) rfl rfl, tb1 (i := 0) rfl rfl, by decide +kernel, (fun h => by cases h), (fun h => by cases h), fun _ => ⟨tb1 (i := 37) rfl rfl, rfl⟩⟩
theorem y_L_isCold : YL 0 yL_isCold cL_isCold 2 (some .boolean) 1 := ⟨by decide +kernel, tb5 (i := 217) rfl rfl, tb1 (i := 0) rfl rfl, by decide +kernel, fun _ => ⟨tb5 (i := 216) rfl rfl, tp2 (i := 10) rfl⟩, (fun h => by cases h), (fun h => by cases h)⟩
theorem y_L_lays : YL 0 yL_lays cL_lays 5 (some .boolean) 1 := ⟨by decide +kernel, tb5 (i := 45) rfl rfl, tb1 (i := 0) rfl rfl, by decide +kernel, fun _ => ⟨tb5 (i := 44) rfl rfl, tp2 (i := 4) rfl⟩, (fun h => by cases h), (fun h => by cases h)⟩
theorem y_L_loads : YL 0 yL_loads cL_loads 4 (some .boolean) 0 := ⟨by decide +kernel, tb3 (i := 102) rfl rfl, tb1 (i := 0) rfl rfl, by decide +kernel, fun _ => ⟨tb3 (i := 101) rfl rfl, tp1 (i := 14) rfl⟩, (fun h => by cases h), (fun h => by cases h)⟩
theorem y_L_loud : YL 0 yL_loud cL_loud 3 (some .int) 1 := ⟨by decide +kernel, tb5 (i := 225) rfl rfl, tb1 (i := 0) rfl rfl, by decide +kernel, fun _ => ⟨tb5 (i := 224) rfl rfl, tp2 (i := 12) rfl⟩, (fun h => by cases h), (fun h => by cases h)⟩
theorem y_L_noise : YL 0 yL_noise cL_noise 3 (some .int) 1 := ⟨by decide +kernel, tb5 (i := 221) rfl rfl, tb1 (i := 0) rfl rfl, by decide +kernel, fun _ => ⟨tb5 (i := 220) rfl rfl, tp2 (i := 11) rfl⟩, (fun h => by cases h), (fun h => by cases h)⟩
theorem y_L_passes : YL 0 yL_passes cL_passes 3 none 0 := ⟨by decide +kernel, tb7 (i := 111) rfl rfl, tb1 (i := 0) rfl rfl, by decide +kernel, fun _ => ⟨tb7 (i := 110) rfl rfl, tp4 (i := 5) rfl⟩, (fun h => by cases h), (fun h => by cases h)⟩
theorem y_L_pays : YL 0 yL_pays cL_pays 4 (some .int) 2 := ⟨by decide +kernel, tb7 (i := 119) rfl rfl, tb1 (i := 0) rfl rfl, by decide +kernel, fun _ => ⟨tb7 (i := 118) rfl rfl, tp4 (i := 7) rfl⟩, (fun h => by cases h), (fun h => by cases h)⟩
theorem y_L_same : YL 0 yL_same cL_same 10 (some .boolean) 0 := ⟨by decide +kernel, tb5 (i := 120) rfl rfl, tb1 (i := 0) rfl rfl, by decide +kernel, fun _ => ⟨tb5 (i := 119) rfl rfl, tp2 (i := 5) rfl⟩, (fun h => by cases h), (fun h => by cases h)⟩
theorem y_L_under : YL 0 yL_under cL_under 3 (some (.object "HutLedgerLaw$Hiker")) 1 := ⟨by decide +kernel, tb6 (i := 41) rfl rfl, tb1 (i := 0) rfl rfl, by decide +kernel, fun _ => ⟨tb6 (i := 40) rfl rfl, tp2 (i := 14) rfl⟩, (fun h => by cases h), (fun h => by cases h)⟩
theorem y_L_warm : YL 0 yL_warm cL_warm 3 (some .int) 1 := ⟨by decide +kernel, tb5 (i := 190) rfl rfl, tb1 (i := 0) rfl rfl, by decide +kernel, fun _ => ⟨tb5 (i := 189) rfl rfl, tp2 (i := 7) rfl⟩, (fun h => by cases h), (fun h => by cases h)⟩
theorem y_X0_begin : YL 0 yX0_begin cX0_begin 1 none 0 := ⟨by decide +kernel, tb2 (i := 120) rfl rfl, tb1 (i := 6) rfl rfl, by decide +kernel, fun _ => ⟨tb2 (i := 119) rfl rfl, tp1 (i := 0) rfl⟩, (fun h => by cases h), (fun h => by cases h)⟩
theorem y_X0_fail : YL 0 yX0_fail cX0_fail 2 (some .boolean) 1 := ⟨by decide +kernel, tb2 (i := 148) rfl rfl, tb1 (i := 6) rfl rfl, by decide +kernel, fun _ => ⟨tb2 (i := 147) rfl rfl, tp1 (i := 3) rfl⟩, (fun h => by cases h), (fun h => by cases h)⟩
theorem y_X0_init : YL 2 yX0_init cX0_init 1 none 0 := ⟨by decide +kernel, tb1 (i := 220) rfl rfl, tb1 (i := 6) rfl rfl, by decide +kernel, (fun h => by cases h), (fun h => by cases h), fun _ => ⟨tb1 (i := 219) rfl rfl, rfl⟩⟩
theorem y_X0_isNumber : YL 0 yX0_isNumber cX0_isNumber 3 (some .boolean) 2 := ⟨by decide +kernel, tb2 (i := 153) rfl rfl, tb1 (i := 6) rfl rfl, by decide +kernel, fun _ => ⟨tb2 (i := 152) rfl rfl, tp1 (i := 4) rfl⟩, (fun h => by cases h), (fun h => by cases h)⟩
theorem y_X0_readBlankets : YL 0 yX0_readBlankets cX0_readBlankets 3 (some .boolean) 1 := ⟨by decide +kernel, tb2 (i := 180) rfl rfl, tb1 (i := 6) rfl rfl, by decide +kernel, fun _ => ⟨tb2 (i := 179) rfl rfl, tp1 (i := 8) rfl⟩, (fun h => by cases h), (fun h => by cases h)⟩
theorem y_X0_readBunks : YL 0 yX0_readBunks cX0_readBunks 3 (some .boolean) 1 := ⟨by decide +kernel, tb2 (i := 171) rfl rfl, tb1 (i := 6) rfl rfl, by decide +kernel, fun _ => ⟨tb2 (i := 170) rfl rfl, tp1 (i := 6) rfl⟩, (fun h => by cases h), (fun h => by cases h)⟩
theorem y_X0_readForecast : YL 0 yX0_readForecast cX0_readForecast 3 (some .boolean) 1 := ⟨by decide +kernel, tb2 (i := 185) rfl rfl, tb1 (i := 6) rfl rfl, by decide +kernel, fun _ => ⟨tb2 (i := 184) rfl rfl, tp1 (i := 9) rfl⟩, (fun h => by cases h), (fun h => by cases h)⟩
theorem y_X0_readHiker : YL 0 yX0_readHiker cX0_readHiker 2 (some .boolean) 1 := ⟨by decide +kernel, tb2 (i := 195) rfl rfl, tb1 (i := 6) rfl rfl, by decide +kernel, fun _ => ⟨tb2 (i := 194) rfl rfl, tp1 (i := 11) rfl⟩, (fun h => by cases h), (fun h => by cases h)⟩
theorem y_X0_readHikers : YL 0 yX0_readHikers cX0_readHikers 3 (some .boolean) 1 := ⟨by decide +kernel, tb2 (i := 190) rfl rfl, tb1 (i := 6) rfl rfl, by decide +kernel, fun _ => ⟨tb2 (i := 189) rfl rfl, tp1 (i := 10) rfl⟩, (fun h => by cases h), (fun h => by cases h)⟩
theorem y_X0_readLogs : YL 0 yX0_readLogs cX0_readLogs 2 (some .boolean) 1 := ⟨by decide +kernel, tb2 (i := 135) rfl rfl, tb1 (i := 6) rfl rfl, by decide +kernel, fun _ => ⟨tb2 (i := 134) rfl rfl, tp1 (i := 1) rfl⟩, (fun h => by cases h), (fun h => by cases h)⟩
theorem y_X0_readRow : YL 0 yX0_readRow cX0_readRow 5 (some .boolean) 3 := ⟨by decide +kernel, tb2 (i := 176) rfl rfl, tb1 (i := 6) rfl rfl, by decide +kernel, fun _ => ⟨tb2 (i := 175) rfl rfl, tp1 (i := 7) rfl⟩, (fun h => by cases h), (fun h => by cases h)⟩
theorem y_X0_readSemicolon : YL 0 yX0_readSemicolon cX0_readSemicolon 1 (some .boolean) 0 := ⟨by decide +kernel, tb2 (i := 167) rfl rfl, tb1 (i := 6) rfl rfl, by decide +kernel, fun _ => ⟨tb2 (i := 166) rfl rfl, tp1 (i := 5) rfl⟩, (fun h => by cases h), (fun h => by cases h)⟩
theorem y_X0_readSetup : YL 0 yX0_readSetup cX0_readSetup 3 (some .boolean) 1 := ⟨by decide +kernel, tb2 (i := 116) rfl rfl, tb1 (i := 6) rfl rfl, by decide +kernel, fun _ => ⟨tb2 (i := 114) rfl rfl, tb2 (i := 115) rfl rfl⟩, (fun h => by cases h), (fun h => by cases h)⟩
theorem y_X0_readWord : YL 0 yX0_readWord cX0_readWord 2 (some .boolean) 1 := ⟨by decide +kernel, tb2 (i := 140) rfl rfl, tb1 (i := 6) rfl rfl, by decide +kernel, fun _ => ⟨tb2 (i := 139) rfl rfl, tp1 (i := 2) rfl⟩, (fun h => by cases h), (fun h => by cases h)⟩
theorem y_X1_copyFrom : YL 0 yX1_copyFrom cX1_copyFrom 2 none 1 := ⟨by decide +kernel, tb5 (i := 98) rfl rfl, tb1 (i := 3) rfl rfl, by decide +kernel, fun _ => ⟨tb5 (i := 96) rfl rfl, tb5 (i := 97) rfl rfl⟩, (fun h => by cases h), (fun h => by cases h)⟩
theorem y_X1_feeForBlanket : YL 0 yX1_feeForBlanket cX1_feeForBlanket 1 (some .int) 0 := ⟨by decide +kernel, tb7 (i := 50) rfl rfl, tb1 (i := 3) rfl rfl, by decide +kernel, fun _ => ⟨tb7 (i := 48) rfl rfl, tb7 (i := 49) rfl rfl⟩, (fun h => by cases h), (fun h => by cases h)⟩
theorem y_X1_init : YL 2 yX1_init cX1_init 1 none 0 := ⟨by decide +kernel, tb1 (i := 59) rfl rfl, tb1 (i := 3) rfl rfl, by decide +kernel, (fun h => by cases h), (fun h => by cases h), fun _ => ⟨tb1 (i := 58) rfl rfl, rfl⟩⟩
theorem y_X1_isCold : YL 0 yX1_isCold cX1_isCold 1 (some .boolean) 0 := ⟨by decide +kernel, tb2 (i := 227) rfl rfl, tb1 (i := 3) rfl rfl, by decide +kernel, fun _ => ⟨tb2 (i := 225) rfl rfl, tb2 (i := 226) rfl rfl⟩, (fun h => by cases h), (fun h => by cases h)⟩
theorem y_X1_payOut : YL 0 yX1_payOut cX1_payOut 3 (some .int) 1 := ⟨by decide +kernel, tb7 (i := 34) rfl rfl, tb1 (i := 3) rfl rfl, by decide +kernel, fun _ => ⟨tb7 (i := 32) rfl rfl, tb7 (i := 33) rfl rfl⟩, (fun h => by cases h), (fun h => by cases h)⟩
theorem y_X1_ranksBefore : YL 0 yX1_ranksBefore cX1_ranksBefore 2 (some .boolean) 1 := ⟨by decide +kernel, tb6 (i := 61) rfl rfl, tb1 (i := 3) rfl rfl, by decide +kernel, fun _ => ⟨tb6 (i := 59) rfl rfl, tb6 (i := 60) rfl rfl⟩, (fun h => by cases h), (fun h => by cases h)⟩
theorem y_X2_forget : YL 0 yX2_forget cX2_forget 1 none 0 := ⟨by decide +kernel, tb5 (i := 103) rfl rfl, tb1 (i := 5) rfl rfl, by decide +kernel, fun _ => ⟨tb5 (i := 101) rfl rfl, tb5 (i := 102) rfl rfl⟩, (fun h => by cases h), (fun h => by cases h)⟩
theorem y_X2_init : YL 2 yX2_init cX2_init 1 none 0 := ⟨by decide +kernel, tb1 (i := 198) rfl rfl, tb1 (i := 5) rfl rfl, by decide +kernel, (fun h => by cases h), (fun h => by cases h), fun _ => ⟨tb1 (i := 197) rfl rfl, rfl⟩⟩
theorem y_X2_keep : YL 0 yX2_keep cX2_keep 2 none 1 := ⟨by decide +kernel, tb6 (i := 220) rfl rfl, tb1 (i := 5) rfl rfl, by decide +kernel, fun _ => ⟨tb6 (i := 218) rfl rfl, tb6 (i := 219) rfl rfl⟩, (fun h => by cases h), (fun h => by cases h)⟩
theorem y_X2_takeBack : YL 0 yX2_takeBack cX2_takeBack 2 none 1 := ⟨by decide +kernel, tb5 (i := 115) rfl rfl, tb1 (i := 5) rfl rfl, by decide +kernel, fun _ => ⟨tb5 (i := 113) rfl rfl, tb5 (i := 114) rfl rfl⟩, (fun h => by cases h), (fun h => by cases h)⟩
theorem y_X3_activityNow : YL 0 yX3_activityNow cX3_activityNow 3 (some .int) 1 := ⟨by decide +kernel, tb5 (i := 205) rfl rfl, tb1 (i := 2) rfl rfl, by decide +kernel, fun _ => ⟨tb5 (i := 203) rfl rfl, tb5 (i := 204) rfl rfl⟩, (fun h => by cases h), (fun h => by cases h)⟩
theorem y_X3_addLogs : YL 0 yX3_addLogs cX3_addLogs 2 (some .int) 1 := ⟨by decide +kernel, tb7 (i := 6) rfl rfl, tb1 (i := 2) rfl rfl, by decide +kernel, fun _ => ⟨tb7 (i := 5) rfl rfl, tp3 (i := 13) rfl⟩, (fun h => by cases h), (fun h => by cases h)⟩
theorem y_X3_burnLogs : YL 0 yX3_burnLogs cX3_burnLogs 2 none 0 := ⟨by decide +kernel, tb7 (i := 18) rfl rfl, tb1 (i := 2) rfl rfl, by decide +kernel, fun _ => ⟨tb7 (i := 17) rfl rfl, tp3 (i := 15) rfl⟩, (fun h => by cases h), (fun h => by cases h)⟩
theorem y_X3_changeRate : YL 0 yX3_changeRate cX3_changeRate 3 (some .int) 1 := ⟨by decide +kernel, tb7 (i := 2) rfl rfl, tb1 (i := 2) rfl rfl, by decide +kernel, fun _ => ⟨tb7 (i := 1) rfl rfl, tp3 (i := 12) rfl⟩, (fun h => by cases h), (fun h => by cases h)⟩
theorem y_X3_coldCount : YL 0 yX3_coldCount cX3_coldCount 1 (some .int) 0 := ⟨by decide +kernel, tb6 (i := 114) rfl rfl, tb1 (i := 2) rfl rfl, by decide +kernel, fun _ => ⟨tb6 (i := 112) rfl rfl, tb6 (i := 113) rfl rfl⟩, (fun h => by cases h), (fun h => by cases h)⟩
theorem y_X3_copyFrom : YL 0 yX3_copyFrom cX3_copyFrom 3 none 1 := ⟨by decide +kernel, tb5 (i := 93) rfl rfl, tb1 (i := 2) rfl rfl, by decide +kernel, fun _ => ⟨tb5 (i := 91) rfl rfl, tb5 (i := 92) rfl rfl⟩, (fun h => by cases h), (fun h => by cases h)⟩
theorem y_X3_countOf : YL 0 yX3_countOf cX3_countOf 4 (some .int) 1 := ⟨by decide +kernel, tb6 (i := 118) rfl rfl, tb1 (i := 2) rfl rfl, by decide +kernel, fun _ => ⟨tb6 (i := 116) rfl rfl, tb6 (i := 117) rfl rfl⟩, (fun h => by cases h), (fun h => by cases h)⟩
theorem y_X3_endHour : YL 0 yX3_endHour cX3_endHour 1 none 0 := ⟨by decide +kernel, tb7 (i := 26) rfl rfl, tb1 (i := 2) rfl rfl, by decide +kernel, fun _ => ⟨tb7 (i := 25) rfl rfl, tp4 (i := 1) rfl⟩, (fun h => by cases h), (fun h => by cases h)⟩
theorem y_X3_exchangeBlankets : YL 0 yX3_exchangeBlankets cX3_exchangeBlankets 4 none 2 := ⟨by decide +kernel, tb6 (i := 233) rfl rfl, tb1 (i := 2) rfl rfl, by decide +kernel, fun _ => ⟨tb6 (i := 232) rfl rfl, tp3 (i := 11) rfl⟩, (fun h => by cases h), (fun h => by cases h)⟩
theorem y_X3_faultOf : YL 0 yX3_faultOf cX3_faultOf 4 (some .int) 3 := ⟨by decide +kernel, tb6 (i := 174) rfl rfl, tb1 (i := 2) rfl rfl, by decide +kernel, fun _ => ⟨tb6 (i := 172) rfl rfl, tb6 (i := 173) rfl rfl⟩, (fun h => by cases h), (fun h => by cases h)⟩
theorem y_X3_faultOfFetch : YL 0 yX3_faultOfFetch cX3_faultOfFetch 2 (some .int) 1 := ⟨by decide +kernel, tb6 (i := 202) rfl rfl, tb1 (i := 2) rfl rfl, by decide +kernel, fun _ => ⟨tb6 (i := 201) rfl rfl, tp3 (i := 7) rfl⟩, (fun h => by cases h), (fun h => by cases h)⟩
theorem y_X3_faultOfLie : YL 0 yX3_faultOfLie cX3_faultOfLie 3 (some .int) 2 := ⟨by decide +kernel, tb6 (i := 192) rfl rfl, tb1 (i := 2) rfl rfl, by decide +kernel, fun _ => ⟨tb6 (i := 191) rfl rfl, tp3 (i := 5) rfl⟩, (fun h => by cases h), (fun h => by cases h)⟩
theorem y_X3_faultOfPass : YL 0 yX3_faultOfPass cX3_faultOfPass 2 (some .int) 1 := ⟨by decide +kernel, tb6 (i := 210) rfl rfl, tb1 (i := 2) rfl rfl, by decide +kernel, fun _ => ⟨tb6 (i := 209) rfl rfl, tp3 (i := 9) rfl⟩, (fun h => by cases h), (fun h => by cases h)⟩
theorem y_X3_faultOfPay : YL 0 yX3_faultOfPay cX3_faultOfPay 4 (some .int) 2 := ⟨by decide +kernel, tb6 (i := 206) rfl rfl, tb1 (i := 2) rfl rfl, by decide +kernel, fun _ => ⟨tb6 (i := 205) rfl rfl, tp3 (i := 8) rfl⟩, (fun h => by cases h), (fun h => by cases h)⟩
theorem y_X3_faultOfReturn : YL 0 yX3_faultOfReturn cX3_faultOfReturn 2 (some .int) 1 := ⟨by decide +kernel, tb6 (i := 184) rfl rfl, tb1 (i := 2) rfl rfl, by decide +kernel, fun _ => ⟨tb6 (i := 183) rfl rfl, tp3 (i := 3) rfl⟩, (fun h => by cases h), (fun h => by cases h)⟩
theorem y_X3_faultOfRise : YL 0 yX3_faultOfRise cX3_faultOfRise 2 (some .int) 1 := ⟨by decide +kernel, tb6 (i := 197) rfl rfl, tb1 (i := 2) rfl rfl, by decide +kernel, fun _ => ⟨tb6 (i := 196) rfl rfl, tp3 (i := 6) rfl⟩, (fun h => by cases h), (fun h => by cases h)⟩
theorem y_X3_faultOfSwap : YL 0 yX3_faultOfSwap cX3_faultOfSwap 4 (some .int) 2 := ⟨by decide +kernel, tb6 (i := 188) rfl rfl, tb1 (i := 2) rfl rfl, by decide +kernel, fun _ => ⟨tb6 (i := 187) rfl rfl, tp3 (i := 4) rfl⟩, (fun h => by cases h), (fun h => by cases h)⟩
theorem y_X3_faultOfTake : YL 0 yX3_faultOfTake cX3_faultOfTake 3 (some .int) 2 := ⟨by decide +kernel, tb6 (i := 178) rfl rfl, tb1 (i := 2) rfl rfl, by decide +kernel, fun _ => ⟨tb6 (i := 177) rfl rfl, tp3 (i := 2) rfl⟩, (fun h => by cases h), (fun h => by cases h)⟩
theorem y_X3_giveBlanket : YL 0 yX3_giveBlanket cX3_giveBlanket 4 (some .int) 2 := ⟨by decide +kernel, tb6 (i := 229) rfl rfl, tb1 (i := 2) rfl rfl, by decide +kernel, fun _ => ⟨tb6 (i := 228) rfl rfl, tp3 (i := 10) rfl⟩, (fun h => by cases h), (fun h => by cases h)⟩
theorem y_X3_hasBlanket : YL 0 yX3_hasBlanket cX3_hasBlanket 2 (some .boolean) 1 := ⟨by decide +kernel, tb2 (i := 215) rfl rfl, tb1 (i := 2) rfl rfl, by decide +kernel, fun _ => ⟨tb2 (i := 213) rfl rfl, tb2 (i := 214) rfl rfl⟩, (fun h => by cases h), (fun h => by cases h)⟩
theorem y_X3_hasBunk : YL 0 yX3_hasBunk cX3_hasBunk 2 (some .boolean) 1 := ⟨by decide +kernel, tb2 (i := 223) rfl rfl, tb1 (i := 2) rfl rfl, by decide +kernel, fun _ => ⟨tb2 (i := 221) rfl rfl, tb2 (i := 222) rfl rfl⟩, (fun h => by cases h), (fun h => by cases h)⟩
theorem y_X3_hasHiker : YL 0 yX3_hasHiker cX3_hasHiker 2 (some .boolean) 1 := ⟨by decide +kernel, tb5 (i := 148) rfl rfl, tb1 (i := 2) rfl rfl, by decide +kernel, fun _ => ⟨tb5 (i := 146) rfl rfl, tb5 (i := 147) rfl rfl⟩, (fun h => by cases h), (fun h => by cases h)⟩
theorem y_X3_hikerOfRank : YL 0 yX3_hikerOfRank cX3_hikerOfRank 3 (some .int) 1 := ⟨by decide +kernel, tb6 (i := 53) rfl rfl, tb1 (i := 2) rfl rfl, by decide +kernel, fun _ => ⟨tb6 (i := 51) rfl rfl, tb6 (i := 52) rfl rfl⟩, (fun h => by cases h), (fun h => by cases h)⟩
theorem y_X3_hikersWithoutBlanket : YL 0 yX3_hikersWithoutBlanket cX3_hikersWithoutBlanket 3 (some .int) 0 := ⟨by decide +kernel, tb6 (i := 127) rfl rfl, tb1 (i := 2) rfl rfl, by decide +kernel, fun _ => ⟨tb6 (i := 125) rfl rfl, tb6 (i := 126) rfl rfl⟩, (fun h => by cases h), (fun h => by cases h)⟩
theorem y_X3_init : YL 2 yX3_init cX3_init 2 none 0 := ⟨by decide +kernel, tb1 (i := 52) rfl rfl, tb1 (i := 2) rfl rfl, by decide +kernel, (fun h => by cases h), (fun h => by cases h), fun _ => ⟨tb1 (i := 51) rfl rfl, rfl⟩⟩
theorem y_X3_measure : YL 0 yX3_measure cX3_measure 4 none 0 := ⟨by decide +kernel, tb2 (i := 207) rfl rfl, tb1 (i := 2) rfl rfl, by decide +kernel, fun _ => ⟨tb2 (i := 205) rfl rfl, tb2 (i := 206) rfl rfl⟩, (fun h => by cases h), (fun h => by cases h)⟩
theorem y_X3_moveTo : YL 0 yX3_moveTo cX3_moveTo 4 (some .int) 2 := ⟨by decide +kernel, tb6 (i := 238) rfl rfl, tb1 (i := 2) rfl rfl, by decide +kernel, fun _ => ⟨tb6 (i := 236) rfl rfl, tb6 (i := 237) rfl rfl⟩, (fun h => by cases h), (fun h => by cases h)⟩
theorem y_X3_noiseAt : YL 0 yX3_noiseAt cX3_noiseAt 5 (some .int) 1 := ⟨by decide +kernel, tb5 (i := 209) rfl rfl, tb1 (i := 2) rfl rfl, by decide +kernel, fun _ => ⟨tb5 (i := 207) rfl rfl, tb5 (i := 208) rfl rfl⟩, (fun h => by cases h), (fun h => by cases h)⟩
theorem y_X3_noteWhatHappens : YL 0 yX3_noteWhatHappens cX3_noteWhatHappens 2 none 0 := ⟨by decide +kernel, tb7 (i := 22) rfl rfl, tb1 (i := 2) rfl rfl, by decide +kernel, fun _ => ⟨tb7 (i := 21) rfl rfl, tp4 (i := 0) rfl⟩, (fun h => by cases h), (fun h => by cases h)⟩
theorem y_X3_open : YL 0 yX3_open cX3_open 1 none 0 := ⟨by decide +kernel, tb2 (i := 199) rfl rfl, tb1 (i := 2) rfl rfl, by decide +kernel, fun _ => ⟨tb2 (i := 197) rfl rfl, tb2 (i := 198) rfl rfl⟩, (fun h => by cases h), (fun h => by cases h)⟩
theorem y_X3_partOfLogs : YL 0 yX3_partOfLogs cX3_partOfLogs 4 (some .int) 1 := ⟨by decide +kernel, tb7 (i := 42) rfl rfl, tb1 (i := 2) rfl rfl, by decide +kernel, fun _ => ⟨tb7 (i := 40) rfl rfl, tb7 (i := 41) rfl rfl⟩, (fun h => by cases h), (fun h => by cases h)⟩
theorem y_X3_passTime : YL 0 yX3_passTime cX3_passTime 4 (some .int) 1 := ⟨by decide +kernel, tb7 (i := 14) rfl rfl, tb1 (i := 2) rfl rfl, by decide +kernel, fun _ => ⟨tb7 (i := 12) rfl rfl, tb7 (i := 13) rfl rfl⟩, (fun h => by cases h), (fun h => by cases h)⟩
theorem y_X3_payBack : YL 0 yX3_payBack cX3_payBack 3 (some .int) 2 := ⟨by decide +kernel, tb7 (i := 10) rfl rfl, tb1 (i := 2) rfl rfl, by decide +kernel, fun _ => ⟨tb7 (i := 9) rfl rfl, tp3 (i := 14) rfl⟩, (fun h => by cases h), (fun h => by cases h)⟩
theorem y_X3_payForBlankets : YL 0 yX3_payForBlankets cX3_payForBlankets 5 none 0 := ⟨by decide +kernel, tb7 (i := 46) rfl rfl, tb1 (i := 2) rfl rfl, by decide +kernel, fun _ => ⟨tb7 (i := 45) rfl rfl, tp4 (i := 4) rfl⟩, (fun h => by cases h), (fun h => by cases h)⟩
theorem y_X3_payForLogs : YL 0 yX3_payForLogs cX3_payForLogs 2 none 0 := ⟨by decide +kernel, tb7 (i := 38) rfl rfl, tb1 (i := 2) rfl rfl, by decide +kernel, fun _ => ⟨tb7 (i := 37) rfl rfl, tp4 (i := 3) rfl⟩, (fun h => by cases h), (fun h => by cases h)⟩
theorem y_X3_payForNight : YL 0 yX3_payForNight cX3_payForNight 2 none 0 := ⟨by decide +kernel, tb7 (i := 30) rfl rfl, tb1 (i := 2) rfl rfl, by decide +kernel, fun _ => ⟨tb7 (i := 29) rfl rfl, tp4 (i := 2) rfl⟩, (fun h => by cases h), (fun h => by cases h)⟩
theorem y_X3_perform : YL 0 yX3_perform cX3_perform 4 (some .int) 3 := ⟨by decide +kernel, tb6 (i := 225) rfl rfl, tb1 (i := 2) rfl rfl, by decide +kernel, fun _ => ⟨tb6 (i := 223) rfl rfl, tb6 (i := 224) rfl rfl⟩, (fun h => by cases h), (fun h => by cases h)⟩
theorem y_X3_rankOfHiker : YL 0 yX3_rankOfHiker cX3_rankOfHiker 5 (some .int) 1 := ⟨by decide +kernel, tb6 (i := 57) rfl rfl, tb1 (i := 2) rfl rfl, by decide +kernel, fun _ => ⟨tb6 (i := 56) rfl rfl, tp2 (i := 15) rfl⟩, (fun h => by cases h), (fun h => by cases h)⟩
theorem y_X3_sleeperIn : YL 0 yX3_sleeperIn cX3_sleeperIn 2 (some .int) 1 := ⟨by decide +kernel, tb6 (i := 16) rfl rfl, tb1 (i := 2) rfl rfl, by decide +kernel, fun _ => ⟨tb6 (i := 14) rfl rfl, tb6 (i := 15) rfl rfl⟩, (fun h => by cases h), (fun h => by cases h)⟩
theorem y_X3_sumOfCoins : YL 0 yX3_sumOfCoins cX3_sumOfCoins 3 (some .int) 0 := ⟨by decide +kernel, tb2 (i := 203) rfl rfl, tb1 (i := 2) rfl rfl, by decide +kernel, fun _ => ⟨tb2 (i := 201) rfl rfl, tb2 (i := 202) rfl rfl⟩, (fun h => by cases h), (fun h => by cases h)⟩
theorem y_X3_sumOfDebts : YL 0 yX3_sumOfDebts cX3_sumOfDebts 3 (some .int) 0 := ⟨by decide +kernel, tb6 (i := 106) rfl rfl, tb1 (i := 2) rfl rfl, by decide +kernel, fun _ => ⟨tb6 (i := 104) rfl rfl, tb6 (i := 105) rfl rfl⟩, (fun h => by cases h), (fun h => by cases h)⟩
theorem y_X3_sumOfHours : YL 0 yX3_sumOfHours cX3_sumOfHours 4 (some .int) 1 := ⟨by decide +kernel, tb6 (i := 143) rfl rfl, tb1 (i := 2) rfl rfl, by decide +kernel, fun _ => ⟨tb6 (i := 141) rfl rfl, tb6 (i := 142) rfl rfl⟩, (fun h => by cases h), (fun h => by cases h)⟩
theorem y_X3_sumOfWarmths : YL 0 yX3_sumOfWarmths cX3_sumOfWarmths 3 (some .int) 0 := ⟨by decide +kernel, tb6 (i := 135) rfl rfl, tb1 (i := 2) rfl rfl, by decide +kernel, fun _ => ⟨tb6 (i := 133) rfl rfl, tb6 (i := 134) rfl rfl⟩, (fun h => by cases h), (fun h => by cases h)⟩
theorem y_X3_temperatureInside : YL 0 yX3_temperatureInside cX3_temperatureInside 2 (some .int) 0 := ⟨by decide +kernel, tb2 (i := 211) rfl rfl, tb1 (i := 2) rfl rfl, by decide +kernel, fun _ => ⟨tb2 (i := 209) rfl rfl, tb2 (i := 210) rfl rfl⟩, (fun h => by cases h), (fun h => by cases h)⟩
theorem y_X3_thingsUsedTwice : YL 0 yX3_thingsUsedTwice cX3_thingsUsedTwice 4 (some .int) 0 := ⟨by decide +kernel, tb6 (i := 155) rfl rfl, tb1 (i := 2) rfl rfl, by decide +kernel, fun _ => ⟨tb6 (i := 153) rfl rfl, tb6 (i := 154) rfl rfl⟩, (fun h => by cases h), (fun h => by cases h)⟩
theorem y_X3_userOfBlanket : YL 0 yX3_userOfBlanket cX3_userOfBlanket 3 (some .int) 1 := ⟨by decide +kernel, tb6 (i := 37) rfl rfl, tb1 (i := 2) rfl rfl, by decide +kernel, fun _ => ⟨tb6 (i := 35) rfl rfl, tb6 (i := 36) rfl rfl⟩, (fun h => by cases h), (fun h => by cases h)⟩
theorem y_X3_warmthOfBunk : YL 0 yX3_warmthOfBunk cX3_warmthOfBunk 5 (some .int) 1 := ⟨by decide +kernel, tb2 (i := 219) rfl rfl, tb1 (i := 2) rfl rfl, by decide +kernel, fun _ => ⟨tb2 (i := 218) rfl rfl, tp1 (i := 12) rfl⟩, (fun h => by cases h), (fun h => by cases h)⟩
theorem y_X4_init : YL 2 yX4_init cX4_init 1 none 0 := ⟨by decide +kernel, tb2 (i := 44) rfl rfl, tb1 (i := 9) rfl rfl, by decide +kernel, (fun h => by cases h), (fun h => by cases h), fun _ => ⟨tb2 (i := 43) rfl rfl, rfl⟩⟩
theorem y_X5_init : YL 2 yX5_init cX5_init 1 none 0 := ⟨by decide +kernel, tb1 (i := 186) rfl rfl, tb1 (i := 4) rfl rfl, by decide +kernel, (fun h => by cases h), (fun h => by cases h), fun _ => ⟨tb1 (i := 185) rfl rfl, rfl⟩⟩
theorem y_X6_init : YL 2 yX6_init cX6_init 1 none 0 := ⟨by decide +kernel, tb2 (i := 26) rfl rfl, tb1 (i := 8) rfl rfl, by decide +kernel, (fun h => by cases h), (fun h => by cases h), fun _ => ⟨tb2 (i := 25) rfl rfl, rfl⟩⟩
theorem y_X7_hasRoomFor : YL 0 yX7_hasRoomFor cX7_hasRoomFor 2 (some .boolean) 1 := ⟨by decide +kernel, tb2 (i := 112) rfl rfl, tb1 (i := 7) rfl rfl, by decide +kernel, fun _ => ⟨tb2 (i := 110) rfl rfl, tb2 (i := 111) rfl rfl⟩, (fun h => by cases h), (fun h => by cases h)⟩
theorem y_X7_init : YL 2 yX7_init cX7_init 1 none 0 := ⟨by decide +kernel, tb1 (i := 226) rfl rfl, tb1 (i := 7) rfl rfl, by decide +kernel, (fun h => by cases h), (fun h => by cases h), fun _ => ⟨tb1 (i := 225) rfl rfl, rfl⟩⟩
theorem y_X7_isWord : YL 0 yX7_isWord cX7_isWord 3 (some .boolean) 1 := ⟨by decide +kernel, tb2 (i := 144) rfl rfl, tb1 (i := 7) rfl rfl, by decide +kernel, fun _ => ⟨tb2 (i := 142) rfl rfl, tb2 (i := 143) rfl rfl⟩, (fun h => by cases h), (fun h => by cases h)⟩
theorem y_X7_kindOf : YL 1 yX7_kindOf cX7_kindOf 1 (some .int) 1 := ⟨by decide +kernel, tb2 (i := 131) rfl rfl, tb1 (i := 7) rfl rfl, by decide +kernel, (fun h => by cases h), fun _ => tb2 (i := 130) rfl rfl, (fun h => by cases h)⟩
theorem y_X7_put : YL 0 yX7_put cX7_put 2 none 1 := ⟨by decide +kernel, tb2 (i := 108) rfl rfl, tb1 (i := 7) rfl rfl, by decide +kernel, fun _ => ⟨tb2 (i := 106) rfl rfl, tb2 (i := 107) rfl rfl⟩, (fun h => by cases h), (fun h => by cases h)⟩
theorem y_X7_putAll : YL 0 yX7_putAll cX7_putAll 3 none 1 := ⟨by decide +kernel, tb2 (i := 56) rfl rfl, tb1 (i := 7) rfl rfl, by decide +kernel, fun _ => ⟨tb2 (i := 54) rfl rfl, tb2 (i := 55) rfl rfl⟩, (fun h => by cases h), (fun h => by cases h)⟩
theorem y_X7_readFirst : YL 0 yX7_readFirst cX7_readFirst 1 none 0 := ⟨by decide +kernel, tb2 (i := 124) rfl rfl, tb1 (i := 7) rfl rfl, by decide +kernel, fun _ => ⟨tb2 (i := 122) rfl rfl, tb2 (i := 123) rfl rfl⟩, (fun h => by cases h), (fun h => by cases h)⟩
theorem y_X7_readNext : YL 0 yX7_readNext cX7_readNext 1 none 0 := ⟨by decide +kernel, tb2 (i := 128) rfl rfl, tb1 (i := 7) rfl rfl, by decide +kernel, fun _ => ⟨tb2 (i := 126) rfl rfl, tb2 (i := 127) rfl rfl⟩, (fun h => by cases h), (fun h => by cases h)⟩
theorem y_X7_value : YL 0 yX7_value cX7_value 3 (some .int) 0 := ⟨by decide +kernel, tb2 (i := 157) rfl rfl, tb1 (i := 7) rfl rfl, by decide +kernel, fun _ => ⟨tb2 (i := 155) rfl rfl, tb2 (i := 156) rfl rfl⟩, (fun h => by cases h), (fun h => by cases h)⟩
theorem y_X8_act : YL 0 yX8_act cX8_act 4 (some .int) 3 := ⟨by decide +kernel, tb6 (i := 170) rfl rfl, tb1 (i := 1) rfl rfl, by decide +kernel, fun _ => ⟨tb6 (i := 169) rfl rfl, tp3 (i := 1) rfl⟩, (fun h => by cases h), (fun h => by cases h)⟩
theorem y_X8_activity : YL 0 yX8_activity cX8_activity 2 (some .int) 1 := ⟨by decide +kernel, tb5 (i := 201) rfl rfl, tb1 (i := 1) rfl rfl, by decide +kernel, fun _ => ⟨tb5 (i := 199) rfl rfl, tb5 (i := 200) rfl rfl⟩, (fun h => by cases h), (fun h => by cases h)⟩
theorem y_X8_appendText : YL 0 yX8_appendText cX8_appendText 2 (some .int) 1 := ⟨by decide +kernel, tb5 (i := 67) rfl rfl, tb1 (i := 1) rfl rfl, by decide +kernel, fun _ => ⟨tb5 (i := 65) rfl rfl, tb5 (i := 66) rfl rfl⟩, (fun h => by cases h), (fun h => by cases h)⟩
theorem y_X8_auditDifference : YL 0 yX8_auditDifference cX8_auditDifference 1 (some .int) 0 := ⟨by decide +kernel, tb6 (i := 147) rfl rfl, tb1 (i := 1) rfl rfl, by decide +kernel, fun _ => ⟨tb6 (i := 145) rfl rfl, tb6 (i := 146) rfl rfl⟩, (fun h => by cases h), (fun h => by cases h)⟩
theorem y_X8_blanketOf : YL 0 yX8_blanketOf cX8_blanketOf 2 (some .int) 1 := ⟨by decide +kernel, tb5 (i := 179) rfl rfl, tb1 (i := 1) rfl rfl, by decide +kernel, fun _ => ⟨tb5 (i := 177) rfl rfl, tb5 (i := 178) rfl rfl⟩, (fun h => by cases h), (fun h => by cases h)⟩
theorem y_X8_bunkOf : YL 0 yX8_bunkOf cX8_bunkOf 2 (some .int) 1 := ⟨by decide +kernel, tb5 (i := 172) rfl rfl, tb1 (i := 1) rfl rfl, by decide +kernel, fun _ => ⟨tb5 (i := 170) rfl rfl, tb5 (i := 171) rfl rfl⟩, (fun h => by cases h), (fun h => by cases h)⟩
theorem y_X8_burnedLogs : YL 0 yX8_burnedLogs cX8_burnedLogs 1 (some .int) 0 := ⟨by decide +kernel, tb6 (i := 98) rfl rfl, tb1 (i := 1) rfl rfl, by decide +kernel, fun _ => ⟨tb6 (i := 96) rfl rfl, tb6 (i := 97) rfl rfl⟩, (fun h => by cases h), (fun h => by cases h)⟩
theorem y_X8_coinsOf : YL 0 yX8_coinsOf cX8_coinsOf 2 (some .int) 1 := ⟨by decide +kernel, tb5 (i := 232) rfl rfl, tb1 (i := 1) rfl rfl, by decide +kernel, fun _ => ⟨tb5 (i := 230) rfl rfl, tb5 (i := 231) rfl rfl⟩, (fun h => by cases h), (fun h => by cases h)⟩
theorem y_X8_coldHikers : YL 0 yX8_coldHikers cX8_coldHikers 1 (some .int) 0 := ⟨by decide +kernel, tb6 (i := 110) rfl rfl, tb1 (i := 1) rfl rfl, by decide +kernel, fun _ => ⟨tb6 (i := 108) rfl rfl, tb6 (i := 109) rfl rfl⟩, (fun h => by cases h), (fun h => by cases h)⟩
theorem y_X8_debtOf : YL 0 yX8_debtOf cX8_debtOf 2 (some .int) 1 := ⟨by decide +kernel, tb5 (i := 239) rfl rfl, tb1 (i := 1) rfl rfl, by decide +kernel, fun _ => ⟨tb5 (i := 237) rfl rfl, tb5 (i := 238) rfl rfl⟩, (fun h => by cases h), (fun h => by cases h)⟩
theorem y_X8_demandBunk : YL 0 yX8_demandBunk cX8_demandBunk 2 none 1 := ⟨by decide +kernel, tb6 (i := 10) rfl rfl, tb1 (i := 1) rfl rfl, by decide +kernel, fun _ => ⟨tb6 (i := 9) rfl rfl, tp2 (i := 13) rfl⟩, (fun h => by cases h), (fun h => by cases h)⟩
theorem y_X8_demandHiker : YL 0 yX8_demandHiker cX8_demandHiker 2 none 1 := ⟨by decide +kernel, tb5 (i := 144) rfl rfl, tb1 (i := 1) rfl rfl, by decide +kernel, fun _ => ⟨tb5 (i := 143) rfl rfl, tp2 (i := 6) rfl⟩, (fun h => by cases h), (fun h => by cases h)⟩
theorem y_X8_fetchLogs : YL 0 yX8_fetchLogs cX8_fetchLogs 2 (some .int) 1 := ⟨by decide +kernel, tb7 (i := 93) rfl rfl, tb1 (i := 1) rfl rfl, by decide +kernel, fun _ => ⟨tb7 (i := 91) rfl rfl, tb7 (i := 92) rfl rfl⟩, (fun h => by cases h), (fun h => by cases h)⟩
theorem y_X8_getUp : YL 0 yX8_getUp cX8_getUp 2 (some .int) 1 := ⟨by decide +kernel, tb7 (i := 79) rfl rfl, tb1 (i := 1) rfl rfl, by decide +kernel, fun _ => ⟨tb7 (i := 77) rfl rfl, tb7 (i := 78) rfl rfl⟩, (fun h => by cases h), (fun h => by cases h)⟩
theorem y_X8_hikerAtRank : YL 0 yX8_hikerAtRank cX8_hikerAtRank 3 (some .int) 1 := ⟨by decide +kernel, tb6 (i := 49) rfl rfl, tb1 (i := 1) rfl rfl, by decide +kernel, fun _ => ⟨tb6 (i := 47) rfl rfl, tb6 (i := 48) rfl rfl⟩, (fun h => by cases h), (fun h => by cases h)⟩
theorem y_X8_hikerIn : YL 0 yX8_hikerIn cX8_hikerIn 2 (some .int) 1 := ⟨by decide +kernel, tb6 (i := 6) rfl rfl, tb1 (i := 1) rfl rfl, by decide +kernel, fun _ => ⟨tb6 (i := 4) rfl rfl, tb6 (i := 5) rfl rfl⟩, (fun h => by cases h), (fun h => by cases h)⟩
theorem y_X8_hikersWithout : YL 0 yX8_hikersWithout cX8_hikersWithout 1 (some .int) 0 := ⟨by decide +kernel, tb6 (i := 123) rfl rfl, tb1 (i := 1) rfl rfl, by decide +kernel, fun _ => ⟨tb6 (i := 121) rfl rfl, tb6 (i := 122) rfl rfl⟩, (fun h => by cases h), (fun h => by cases h)⟩
theorem y_X8_hour : YL 0 yX8_hour cX8_hour 1 (some .int) 0 := ⟨by decide +kernel, tb6 (i := 81) rfl rfl, tb1 (i := 1) rfl rfl, by decide +kernel, fun _ => ⟨tb6 (i := 79) rfl rfl, tb6 (i := 80) rfl rfl⟩, (fun h => by cases h), (fun h => by cases h)⟩
theorem y_X8_hoursOf : YL 0 yX8_hoursOf cX8_hoursOf 3 (some .int) 2 := ⟨by decide +kernel, tb5 (i := 140) rfl rfl, tb1 (i := 1) rfl rfl, by decide +kernel, fun _ => ⟨tb5 (i := 138) rfl rfl, tb5 (i := 139) rfl rfl⟩, (fun h => by cases h), (fun h => by cases h)⟩
theorem y_X8_hutCoins : YL 0 yX8_hutCoins cX8_hutCoins 1 (some .int) 0 := ⟨by decide +kernel, tb6 (i := 94) rfl rfl, tb1 (i := 1) rfl rfl, by decide +kernel, fun _ => ⟨tb6 (i := 92) rfl rfl, tb6 (i := 93) rfl rfl⟩, (fun h => by cases h), (fun h => by cases h)⟩
theorem y_X8_init : YL 2 yX8_init cX8_init 1 none 0 := ⟨by decide +kernel, tb1 (i := 46) rfl rfl, tb1 (i := 1) rfl rfl, by decide +kernel, (fun h => by cases h), (fun h => by cases h), fun _ => ⟨tb1 (i := 45) rfl rfl, rfl⟩⟩
theorem y_X8_isWithin : YL 1 yX8_isWithin cX8_isWithin 3 (some .boolean) 3 := ⟨by decide +kernel, tb2 (i := 163) rfl rfl, tb1 (i := 1) rfl rfl, by decide +kernel, (fun h => by cases h), fun _ => tb2 (i := 162) rfl rfl, (fun h => by cases h)⟩
theorem y_X8_lieDown : YL 0 yX8_lieDown cX8_lieDown 3 (some .int) 2 := ⟨by decide +kernel, tb7 (i := 72) rfl rfl, tb1 (i := 1) rfl rfl, by decide +kernel, fun _ => ⟨tb7 (i := 70) rfl rfl, tb7 (i := 71) rfl rfl⟩, (fun h => by cases h), (fun h => by cases h)⟩
theorem y_X8_loadSetup : YL 0 yX8_loadSetup cX8_loadSetup 2 (some .int) 0 := ⟨by decide +kernel, tb5 (i := 89) rfl rfl, tb1 (i := 1) rfl rfl, by decide +kernel, fun _ => ⟨tb5 (i := 87) rfl rfl, tb5 (i := 88) rfl rfl⟩, (fun h => by cases h), (fun h => by cases h)⟩
theorem y_X8_logs : YL 0 yX8_logs cX8_logs 1 (some .int) 0 := ⟨by decide +kernel, tb6 (i := 85) rfl rfl, tb1 (i := 1) rfl rfl, by decide +kernel, fun _ => ⟨tb6 (i := 83) rfl rfl, tb6 (i := 84) rfl rfl⟩, (fun h => by cases h), (fun h => by cases h)⟩
theorem y_X8_meanWarmth : YL 0 yX8_meanWarmth cX8_meanWarmth 2 (some .double) 0 := ⟨by decide +kernel, tb6 (i := 131) rfl rfl, tb1 (i := 1) rfl rfl, by decide +kernel, fun _ => ⟨tb6 (i := 129) rfl rfl, tb6 (i := 130) rfl rfl⟩, (fun h => by cases h), (fun h => by cases h)⟩
theorem y_X8_newHuts : YL 1 yX8_newHuts cX8_newHuts 3 (some (.array (.object "HutLedger$Hut"))) 1 := ⟨by decide +kernel, tb1 (i := 202) rfl rfl, tb1 (i := 1) rfl rfl, by decide +kernel, (fun h => by cases h), fun _ => tb1 (i := 201) rfl rfl, (fun h => by cases h)⟩
theorem y_X8_noiseIn : YL 0 yX8_noiseIn cX8_noiseIn 2 (some .int) 1 := ⟨by decide +kernel, tb6 (i := 23) rfl rfl, tb1 (i := 1) rfl rfl, by decide +kernel, fun _ => ⟨tb6 (i := 21) rfl rfl, tb6 (i := 22) rfl rfl⟩, (fun h => by cases h), (fun h => by cases h)⟩
theorem y_X8_passHours : YL 0 yX8_passHours cX8_passHours 2 (some .int) 1 := ⟨by decide +kernel, tb7 (i := 107) rfl rfl, tb1 (i := 1) rfl rfl, by decide +kernel, fun _ => ⟨tb7 (i := 105) rfl rfl, tb7 (i := 106) rfl rfl⟩, (fun h => by cases h), (fun h => by cases h)⟩
theorem y_X8_payDebt : YL 0 yX8_payDebt cX8_payDebt 3 (some .int) 2 := ⟨by decide +kernel, tb7 (i := 100) rfl rfl, tb1 (i := 1) rfl rfl, by decide +kernel, fun _ => ⟨tb7 (i := 98) rfl rfl, tb7 (i := 99) rfl rfl⟩, (fun h => by cases h), (fun h => by cases h)⟩
theorem y_X8_refuse : YL 1 yX8_refuse cX8_refuse 1 none 1 := ⟨by decide +kernel, tb6 (i := 213) rfl rfl, tb1 (i := 1) rfl rfl, by decide +kernel, (fun h => by cases h), fun _ => tb6 (i := 212) rfl rfl, (fun h => by cases h)⟩
theorem y_X8_returnBlanket : YL 0 yX8_returnBlanket cX8_returnBlanket 2 (some .int) 1 := ⟨by decide +kernel, tb7 (i := 58) rfl rfl, tb1 (i := 1) rfl rfl, by decide +kernel, fun _ => ⟨tb7 (i := 56) rfl rfl, tb7 (i := 57) rfl rfl⟩, (fun h => by cases h), (fun h => by cases h)⟩
theorem y_X8_setRate : YL 0 yX8_setRate cX8_setRate 2 (some .int) 1 := ⟨by decide +kernel, tb7 (i := 86) rfl rfl, tb1 (i := 1) rfl rfl, by decide +kernel, fun _ => ⟨tb7 (i := 84) rfl rfl, tb7 (i := 85) rfl rfl⟩, (fun h => by cases h), (fun h => by cases h)⟩
theorem y_X8_sleepShare : YL 0 yX8_sleepShare cX8_sleepShare 2 (some .float) 0 := ⟨by decide +kernel, tb6 (i := 139) rfl rfl, tb1 (i := 1) rfl rfl, by decide +kernel, fun _ => ⟨tb6 (i := 137) rfl rfl, tb6 (i := 138) rfl rfl⟩, (fun h => by cases h), (fun h => by cases h)⟩
theorem y_X8_swapBlankets : YL 0 yX8_swapBlankets cX8_swapBlankets 3 (some .int) 2 := ⟨by decide +kernel, tb7 (i := 65) rfl rfl, tb1 (i := 1) rfl rfl, by decide +kernel, fun _ => ⟨tb7 (i := 63) rfl rfl, tb7 (i := 64) rfl rfl⟩, (fun h => by cases h), (fun h => by cases h)⟩
theorem y_X8_takeBlanket : YL 0 yX8_takeBlanket cX8_takeBlanket 3 (some .int) 2 := ⟨by decide +kernel, tb6 (i := 166) rfl rfl, tb1 (i := 1) rfl rfl, by decide +kernel, fun _ => ⟨tb6 (i := 164) rfl rfl, tb6 (i := 165) rfl rfl⟩, (fun h => by cases h), (fun h => by cases h)⟩
theorem y_X8_temperature : YL 0 yX8_temperature cX8_temperature 1 (some .int) 0 := ⟨by decide +kernel, tb6 (i := 89) rfl rfl, tb1 (i := 1) rfl rfl, by decide +kernel, fun _ => ⟨tb6 (i := 87) rfl rfl, tb6 (i := 88) rfl rfl⟩, (fun h => by cases h), (fun h => by cases h)⟩
theorem y_X8_totalDebt : YL 0 yX8_totalDebt cX8_totalDebt 1 (some .int) 0 := ⟨by decide +kernel, tb6 (i := 102) rfl rfl, tb1 (i := 1) rfl rfl, by decide +kernel, fun _ => ⟨tb6 (i := 100) rfl rfl, tb6 (i := 101) rfl rfl⟩, (fun h => by cases h), (fun h => by cases h)⟩
theorem y_X8_truncateText : YL 0 yX8_truncateText cX8_truncateText 2 (some .int) 1 := ⟨by decide +kernel, tb5 (i := 53) rfl rfl, tb1 (i := 1) rfl rfl, by decide +kernel, fun _ => ⟨tb5 (i := 51) rfl rfl, tb5 (i := 52) rfl rfl⟩, (fun h => by cases h), (fun h => by cases h)⟩
theorem y_X8_undo : YL 0 yX8_undo cX8_undo 1 (some .int) 0 := ⟨by decide +kernel, tb5 (i := 110) rfl rfl, tb1 (i := 1) rfl rfl, by decide +kernel, fun _ => ⟨tb5 (i := 108) rfl rfl, tb5 (i := 109) rfl rfl⟩, (fun h => by cases h), (fun h => by cases h)⟩
theorem y_X8_userOf : YL 0 yX8_userOf cX8_userOf 2 (some .int) 1 := ⟨by decide +kernel, tb6 (i := 31) rfl rfl, tb1 (i := 1) rfl rfl, by decide +kernel, fun _ => ⟨tb6 (i := 29) rfl rfl, tb6 (i := 30) rfl rfl⟩, (fun h => by cases h), (fun h => by cases h)⟩
theorem y_X8_warmth : YL 0 yX8_warmth cX8_warmth 2 (some .int) 1 := ⟨by decide +kernel, tb5 (i := 186) rfl rfl, tb1 (i := 1) rfl rfl, by decide +kernel, fun _ => ⟨tb5 (i := 184) rfl rfl, tb5 (i := 185) rfl rfl⟩, (fun h => by cases h), (fun h => by cases h)⟩
theorem y_X9_init : YL 2 yX9_init cX9_init 1 none 0 := ⟨by decide +kernel, tb4 (i := 62) rfl rfl, tb1 (i := 25) rfl rfl, by decide +kernel, (fun h => by cases h), (fun h => by cases h), fun _ => ⟨tb4 (i := 61) rfl rfl, rfl⟩⟩
def YU (C : String) (y : MethodName) (bytes : ByteArray) (maxL : Nat) (ret : Option FieldType) (n : Nat) : Prop := Jvm.plainName y.cls = true ∧ Cond.code y bytes maxL ret ∈ TBL ∧ Cond.initialized y.cls ∈ TBL ∧ (y.cls ≠ "java/lang/invoke/MethodHandle" ∧ y.cls ≠ "java/lang/invoke/VarHandle" ∧ (parseMethodDescriptor y.desc).map (fun d => d.parameters.length) = some n) ∧ Cond.sameMethod y.cls y.cls y.name y.desc ∈ TBL ∧ Cond.selects C y y ∈ TBL ∧ Cond.instanceMethod y ∈ TBL
theorem yu_J5_ensureCapacityInternal_d00df : YU RJ4 yJ5_ensureCapacityInternal_d00df cJ5_ensureCapacityInternal_d00df 3 none 1 := ⟨by decide +kernel, tb3 (i := 163) rfl rfl, tb1 (i := 18) rfl rfl, by decide +kernel, tb7 (i := 122) rfl rfl, su_J5_ensureCapacityInternal_d00df, tb3 (i := 162) rfl rfl⟩
theorem yu_J5_getValue_6d5f1 : YU RJ4 yJ5_getValue_6d5f1 cJ5_getValue_6d5f1 1 (some (.array .byte)) 0 := ⟨by decide +kernel, tb4 (i := 164) rfl rfl, tb1 (i := 18) rfl rfl, by decide +kernel, tb4 (i := 162) rfl rfl, tb4 (i := 163) rfl rfl, tb4 (i := 161) rfl rfl⟩
theorem yu_J5_inflateIfNeededFor_a7421 : YU RJ4 yJ5_inflateIfNeededFor_a7421 cJ5_inflateIfNeededFor_a7421 2 none 1 := ⟨by decide +kernel, tb3 (i := 218) rfl rfl, tb1 (i := 18) rfl rfl, by decide +kernel, tb7 (i := 125) rfl rfl, su_J5_inflateIfNeededFor_a7421, tb3 (i := 217) rfl rfl⟩
theorem yu_J5_isLatin1_aae02 : YU RJ4 yJ5_isLatin1_aae02 cJ5_isLatin1_aae02 1 (some .boolean) 0 := ⟨by decide +kernel, tb3 (i := 194) rfl rfl, tb1 (i := 18) rfl rfl, by decide +kernel, tb3 (i := 192) rfl rfl, tb3 (i := 193) rfl rfl, tb3 (i := 191) rfl rfl⟩
theorem yu_J5_newCapacity_0f7a4 : YU RJ4 yJ5_newCapacity_0f7a4 cJ5_newCapacity_0f7a4 6 (some .int) 1 := ⟨by decide +kernel, tb3 (i := 167) rfl rfl, tb1 (i := 18) rfl rfl, by decide +kernel, tb7 (i := 123) rfl rfl, su_J5_newCapacity_0f7a4, tb3 (i := 166) rfl rfl⟩
theorem yu_J5_putStringAt_47b60 : YU RJ4 yJ5_putStringAt_47b60 cJ5_putStringAt_47b60 3 none 2 := ⟨by decide +kernel, tb3 (i := 214) rfl rfl, tb1 (i := 18) rfl rfl, by decide +kernel, tb7 (i := 124) rfl rfl, su_J5_putStringAt_47b60, tb3 (i := 213) rfl rfl⟩
def YS (own : String) (y : MethodName) (bytes : ByteArray) (maxL : Nat) (ret : Option FieldType) (n : Nat) : Prop := Jvm.plainName y.cls = true ∧ Cond.code y bytes maxL ret ∈ TBL ∧ Cond.initialized y.cls ∈ TBL ∧ (y.name ≠ "<init>" ∧ (parseMethodDescriptor y.desc).map (fun d => d.parameters.length) = some n) ∧ Cond.sameMethod y.cls y.cls y.name y.desc ∈ TBL ∧ Cond.superclass own y.cls ∈ TBL ∧ Cond.instanceMethod y ∈ TBL
theorem ys_J5_append_3fe6f : YS RJ4 yJ5_append_3fe6f cJ5_append_3fe6f 2 (some (.object "java/lang/AbstractStringBuilder")) 1 := ⟨by decide +kernel, tb4 (i := 49) rfl rfl, tb1 (i := 18) rfl rfl, by decide +kernel, tb7 (i := 128) rfl rfl, tb3 (i := 154) rfl rfl, tb4 (i := 48) rfl rfl⟩
theorem ys_J5_append_c97b9 : YS RJ4 yJ5_append_c97b9 cJ5_append_c97b9 4 (some (.object "java/lang/AbstractStringBuilder")) 1 := ⟨by decide +kernel, tb4 (i := 22) rfl rfl, tb1 (i := 18) rfl rfl, by decide +kernel, tb7 (i := 127) rfl rfl, tb3 (i := 154) rfl rfl, tb4 (i := 21) rfl rfl⟩
theorem ys_J5_append_cf1ce : YS RJ4 yJ5_append_cf1ce cJ5_append_cf1ce 3 (some (.object "java/lang/AbstractStringBuilder")) 1 := ⟨by decide +kernel, tb3 (i := 155) rfl rfl, tb1 (i := 18) rfl rfl, by decide +kernel, tb3 (i := 145) rfl rfl, tb3 (i := 154) rfl rfl, tb3 (i := 144) rfl rfl⟩
theorem yo_append : (Jvm.plainName yJ4_append_cf1ce.cls = true ∧ Cond.code yJ4_append_cf1ce cJ4_append_cf1ce 2 (some (.object "java/lang/AbstractStringBuilder")) ∈ TBL ∧ Cond.initialized yJ4_append_cf1ce.cls ∈ TBL ∧ Cond.code yJ5_append_cf1ce cJ5_append_cf1ce 3 (some (.object "java/lang/AbstractStringBuilder")) ∈ TBL) ∧ Cond.sameMethod yJ5_append_cf1ce.cls yJ5_append_cf1ce.cls yJ5_append_cf1ce.name yJ5_append_cf1ce.desc ∈ TBL ∧ Cond.instanceMethod yJ5_append_cf1ce ∈ TBL ∧ Cond.selects RJ4 yJ5_append_cf1ce yJ4_append_cf1ce ∈ TBL ∧ Cond.instanceMethod yJ4_append_cf1ce ∈ TBL := ⟨⟨by decide +kernel, tb3 (i := 148) rfl rfl, tb1 (i := 19) rfl rfl, tb3 (i := 155) rfl rfl⟩, tb3 (i := 145) rfl rfl, tb3 (i := 144) rfl rfl, tb3 (i := 146) rfl rfl, tb3 (i := 147) rfl rfl⟩
theorem z_clone : Cond.native ⟨"java/lang/Object", "clone", "()Ljava/lang/Object;"⟩ ∈ TBL ∧ Cond.instanceMethod ⟨"java/lang/Object", "clone", "()Ljava/lang/Object;"⟩ ∈ TBL ∧ Cond.sameMethod "[B" "java/lang/Object" "clone" "()Ljava/lang/Object;" ∈ TBL ∧ Cond.selects "[B" ⟨"[B", "clone", "()Ljava/lang/Object;"⟩ ⟨"java/lang/Object", "clone", "()Ljava/lang/Object;"⟩ ∈ TBL := ⟨tb3 (i := 181) rfl rfl, tb3 (i := 182) rfl rfl, tb3 (i := 180) rfl rfl, tb3 (i := 183) rfl rfl⟩
theorem m_J7_310l : Cond.methodLink RJ7 310 ⟨"[B", "clone", "()Ljava/lang/Object;"⟩ ∈ TBL := tb3 (i := 179) rfl rfl
theorem k_Jx4a65c_7 : Cond.classLink RJx4a65c 7 "java/lang/Object" ∈ TBL := tb4 (i := 145) rfl rfl
theorem k_J7_2 : Cond.classLink RJ7 2 "java/lang/Object" ∈ TBL := tb4 (i := 143) rfl rfl
theorem k_J7_311 : Cond.classLink RJ7 311 "[B" ∈ TBL := tb3 (i := 185) rfl rfl
theorem g_J5_18 : Cond.fieldLink RJ5 18 "java/lang/String" "COMPACT_STRINGS" "Z" ∈ TBL := tb3 (i := 195) rfl rfl
theorem g_J6_83 : Cond.fieldLink RJ6 83 "java/lang/Integer" "DigitOnes" "[B" ∈ TBL := tb4 (i := 29) rfl rfl
theorem g_J6_87 : Cond.fieldLink RJ6 87 "java/lang/Integer" "DigitTens" "[B" ∈ TBL := tb4 (i := 31) rfl rfl
theorem g_J0_38 : Cond.fieldLink RJ0 38 "java/lang/String" "COMPACT_STRINGS" "Z" ∈ TBL := tb2 (i := 65) rfl rfl
theorem g_J0_1053 : Cond.fieldLink RJ0 1053 "jdk/internal/util/Preconditions" "SIOOBE_FORMATTER" "Ljava/util/function/BiFunction;" ∈ TBL := tb2 (i := 81) rfl rfl
theorem g_Jx4a65c_39 : Cond.fieldLink RJx4a65c 39 "java/util/ArrayList" "DEFAULTCAPACITY_EMPTY_ELEMENTDATA" "[Ljava/lang/Object;" ∈ TBL := tb3 (i := 29) rfl rfl
theorem m_X8_1 : Cond.methodLink RX8 1 Lib.objectInit ∈ TBL := tb1 (i := 47) rfl rfl
theorem m_X8_9 : Cond.methodLink RX8 9 yX3_init ∈ TBL := tb1 (i := 50) rfl rfl
theorem m_X8_33 : Cond.methodLink RX8 33 yX8_newHuts ∈ TBL := tb1 (i := 215) rfl rfl
theorem m_X8_72 : Cond.methodLink RX8 72 yX7_putAll ∈ TBL := tb2 (i := 53) rfl rfl
theorem m_X8_78 : Cond.methodLink RX8 78 yX0_readSetup ∈ TBL := tb2 (i := 113) rfl rfl
theorem m_X8_86 : Cond.methodLink RX8 86 yX7_hasRoomFor ∈ TBL := tb5 (i := 68) rfl rfl
theorem m_X8_96 : Cond.methodLink RX8 96 yX7_put ∈ TBL := tb5 (i := 85) rfl rfl
theorem m_X8_100 : Cond.methodLink RX8 100 yX8_isWithin ∈ TBL := tb5 (i := 54) rfl rfl
theorem m_X8_109 : Cond.methodLink RX8 109 yX3_copyFrom ∈ TBL := tb5 (i := 90) rfl rfl
theorem m_X8_113 : Cond.methodLink RX8 113 yX2_forget ∈ TBL := tb5 (i := 100) rfl rfl
theorem m_X8_136 : Cond.methodLink RX8 136 yX3_faultOf ∈ TBL := tb6 (i := 171) rfl rfl
theorem m_X8_140 : Cond.methodLink RX8 140 yX2_keep ∈ TBL := tb6 (i := 217) rfl rfl
theorem m_X8_143 : Cond.methodLink RX8 143 yX3_perform ∈ TBL := tb6 (i := 222) rfl rfl
theorem m_X8_162 : Cond.methodLink RX8 162 yX3_temperatureInside ∈ TBL := tb6 (i := 90) rfl rfl
theorem m_X8_165 : Cond.methodLink RX8 165 yX8_demandBunk ∈ TBL := tb6 (i := 7) rfl rfl
theorem m_X8_168 : Cond.methodLink RX8 168 yX3_sleeperIn ∈ TBL := tb6 (i := 13) rfl rfl
theorem m_X8_172 : Cond.methodLink RX8 172 yX3_noiseAt ∈ TBL := tb6 (i := 24) rfl rfl
theorem m_X8_181 : Cond.methodLink RX8 181 yX8_demandHiker ∈ TBL := tb5 (i := 141) rfl rfl
theorem m_X8_188 : Cond.methodLink RX8 188 yX3_hasBunk ∈ TBL := tb6 (i := 11) rfl rfl
theorem m_X8_196 : Cond.methodLink RX8 196 yX3_hasHiker ∈ TBL := tb5 (i := 145) rfl rfl
theorem m_X8_201 : Cond.methodLink RX8 201 yX3_hasBlanket ∈ TBL := tb6 (i := 32) rfl rfl
theorem m_X8_206 : Cond.methodLink RX8 206 yX3_userOfBlanket ∈ TBL := tb6 (i := 34) rfl rfl
theorem m_X8_238 : Cond.methodLink RX8 238 yX3_activityNow ∈ TBL := tb5 (i := 202) rfl rfl
theorem m_X8_252 : Cond.methodLink RX8 252 yX3_hikerOfRank ∈ TBL := tb6 (i := 50) rfl rfl
theorem m_X8_259 : Cond.methodLink RX8 259 yX3_hikersWithoutBlanket ∈ TBL := tb6 (i := 124) rfl rfl
theorem m_X8_262 : Cond.methodLink RX8 262 yX3_coldCount ∈ TBL := tb6 (i := 111) rfl rfl
theorem m_X8_283 : Cond.methodLink RX8 283 yX3_sumOfDebts ∈ TBL := tb6 (i := 103) rfl rfl
theorem m_X8_289 : Cond.methodLink RX8 289 yX3_sumOfCoins ∈ TBL := tb6 (i := 148) rfl rfl
theorem m_X8_292 : Cond.methodLink RX8 292 yJ9_abs_0f7a4 ∈ TBL := tb6 (i := 149) rfl rfl
theorem m_X8_300 : Cond.methodLink RX8 300 yX3_thingsUsedTwice ∈ TBL := tb6 (i := 152) rfl rfl
theorem m_X8_303 : Cond.methodLink RX8 303 yX3_sumOfWarmths ∈ TBL := tb6 (i := 132) rfl rfl
theorem m_X8_306 : Cond.methodLink RX8 306 yX3_sumOfHours ∈ TBL := tb6 (i := 140) rfl rfl
theorem m_X8_339 : Cond.methodLink RX8 339 yX8_act ∈ TBL := tb6 (i := 167) rfl rfl
theorem m_X8_342 : Cond.methodLink RX8 342 yX8_refuse ∈ TBL := tb6 (i := 211) rfl rfl
theorem m_X8_380 : Cond.methodLink RX8 380 yX2_takeBack ∈ TBL := tb5 (i := 112) rfl rfl
theorem m_X0_3 : Cond.methodLink RX0 3 Lib.objectInit ∈ TBL := tb1 (i := 221) rfl rfl
theorem m_X0_25 : Cond.methodLink RX0 25 yX0_begin ∈ TBL := tb2 (i := 117) rfl rfl
theorem m_X0_28 : Cond.methodLink RX0 28 yX0_readLogs ∈ TBL := tb2 (i := 132) rfl rfl
theorem m_X0_32 : Cond.methodLink RX0 32 yX0_readBunks ∈ TBL := tb2 (i := 168) rfl rfl
theorem m_X0_35 : Cond.methodLink RX0 35 yX0_readBlankets ∈ TBL := tb2 (i := 177) rfl rfl
theorem m_X0_38 : Cond.methodLink RX0 38 yX0_readForecast ∈ TBL := tb2 (i := 182) rfl rfl
theorem m_X0_41 : Cond.methodLink RX0 41 yX0_readHikers ∈ TBL := tb2 (i := 187) rfl rfl
theorem m_X0_44 : Cond.methodLink RX0 44 yX3_open ∈ TBL := tb2 (i := 196) rfl rfl
theorem m_X0_49 : Cond.methodLink RX0 49 yX7_readFirst ∈ TBL := tb2 (i := 121) rfl rfl
theorem m_X0_57 : Cond.methodLink RX0 57 yX0_readWord ∈ TBL := tb2 (i := 137) rfl rfl
theorem m_X0_61 : Cond.methodLink RX0 61 yX0_isNumber ∈ TBL := tb2 (i := 150) rfl rfl
theorem m_X0_65 : Cond.methodLink RX0 65 yX7_value ∈ TBL := tb2 (i := 154) rfl rfl
theorem m_X0_72 : Cond.methodLink RX0 72 yX7_readNext ∈ TBL := tb2 (i := 149) rfl rfl
theorem m_X0_75 : Cond.methodLink RX0 75 yX0_readSemicolon ∈ TBL := tb2 (i := 164) rfl rfl
theorem m_X0_85 : Cond.methodLink RX0 85 yX0_readRow ∈ TBL := tb2 (i := 173) rfl rfl
theorem m_X0_113 : Cond.methodLink RX0 113 yX0_fail ∈ TBL := tb2 (i := 145) rfl rfl
theorem m_X0_122 : Cond.methodLink RX0 122 yX7_isWord ∈ TBL := tb2 (i := 141) rfl rfl
theorem m_X0_129 : Cond.methodLink RX0 129 yX0_readHiker ∈ TBL := tb2 (i := 192) rfl rfl
theorem m_X1_3 : Cond.methodLink RX1 3 Lib.objectInit ∈ TBL := tb1 (i := 60) rfl rfl
theorem m_X2_3 : Cond.methodLink RX2 3 Lib.objectInit ∈ TBL := tb1 (i := 199) rfl rfl
theorem m_X2_23 : Cond.methodLink RX2 23 yX3_copyFrom ∈ TBL := tb5 (i := 116) rfl rfl
theorem m_X2_32 : Cond.methodLink RX2 32 yJ9_min_7cf53 ∈ TBL := tb6 (i := 221) rfl rfl
theorem m_X3_3 : Cond.methodLink RX3 3 Lib.objectInit ∈ TBL := tb1 (i := 53) rfl rfl
theorem m_X3_41 : Cond.methodLink RX3 41 yX3_sumOfCoins ∈ TBL := tb2 (i := 200) rfl rfl
theorem m_X3_48 : Cond.methodLink RX3 48 yX3_measure ∈ TBL := tb2 (i := 204) rfl rfl
theorem m_X3_87 : Cond.methodLink RX3 87 yX1_copyFrom ∈ TBL := tb5 (i := 95) rfl rfl
theorem m_X3_91 : Cond.methodLink RX3 91 yX3_temperatureInside ∈ TBL := tb2 (i := 208) rfl rfl
theorem m_X3_97 : Cond.methodLink RX3 97 yX3_hasBlanket ∈ TBL := tb2 (i := 212) rfl rfl
theorem m_X3_107 : Cond.methodLink RX3 107 yX3_warmthOfBunk ∈ TBL := tb2 (i := 216) rfl rfl
theorem m_X3_114 : Cond.methodLink RX3 114 yX3_hasBunk ∈ TBL := tb2 (i := 220) rfl rfl
theorem m_X3_117 : Cond.methodLink RX3 117 yX1_isCold ∈ TBL := tb2 (i := 224) rfl rfl
theorem m_X3_124 : Cond.methodLink RX3 124 yX3_noiseAt ∈ TBL := tb5 (i := 206) rfl rfl
theorem m_X3_127 : Cond.methodLink RX3 127 yX3_sleeperIn ∈ TBL := tb6 (i := 193) rfl rfl
theorem m_X3_140 : Cond.methodLink RX3 140 yX3_hikersWithoutBlanket ∈ TBL := tb7 (i := 51) rfl rfl
theorem m_X3_143 : Cond.methodLink RX3 143 yX3_userOfBlanket ∈ TBL := tb6 (i := 180) rfl rfl
theorem m_X3_172 : Cond.methodLink RX3 172 yX3_countOf ∈ TBL := tb6 (i := 115) rfl rfl
theorem m_X3_175 : Cond.methodLink RX3 175 yX3_activityNow ∈ TBL := tb6 (i := 119) rfl rfl
theorem m_X3_181 : Cond.methodLink RX3 181 yX3_rankOfHiker ∈ TBL := tb6 (i := 54) rfl rfl
theorem m_X3_184 : Cond.methodLink RX3 184 yX1_ranksBefore ∈ TBL := tb6 (i := 58) rfl rfl
theorem m_X3_197 : Cond.methodLink RX3 197 yX3_burnLogs ∈ TBL := tb7 (i := 15) rfl rfl
theorem m_X3_200 : Cond.methodLink RX3 200 yX3_noteWhatHappens ∈ TBL := tb7 (i := 19) rfl rfl
theorem m_X3_203 : Cond.methodLink RX3 203 yX3_endHour ∈ TBL := tb7 (i := 23) rfl rfl
theorem m_X3_206 : Cond.methodLink RX3 206 yX3_payForNight ∈ TBL := tb7 (i := 27) rfl rfl
theorem m_X3_209 : Cond.methodLink RX3 209 yX3_payForLogs ∈ TBL := tb7 (i := 35) rfl rfl
theorem m_X3_212 : Cond.methodLink RX3 212 yX3_payForBlankets ∈ TBL := tb7 (i := 43) rfl rfl
theorem m_X3_215 : Cond.methodLink RX3 215 yX1_payOut ∈ TBL := tb7 (i := 31) rfl rfl
theorem m_X3_218 : Cond.methodLink RX3 218 yX3_partOfLogs ∈ TBL := tb7 (i := 39) rfl rfl
theorem m_X3_221 : Cond.methodLink RX3 221 yX1_feeForBlanket ∈ TBL := tb7 (i := 47) rfl rfl
theorem m_X3_224 : Cond.methodLink RX3 224 yX3_faultOfTake ∈ TBL := tb6 (i := 175) rfl rfl
theorem m_X3_227 : Cond.methodLink RX3 227 yX3_faultOfReturn ∈ TBL := tb6 (i := 181) rfl rfl
theorem m_X3_230 : Cond.methodLink RX3 230 yX3_faultOfSwap ∈ TBL := tb6 (i := 185) rfl rfl
theorem m_X3_233 : Cond.methodLink RX3 233 yX3_faultOfLie ∈ TBL := tb6 (i := 189) rfl rfl
theorem m_X3_236 : Cond.methodLink RX3 236 yX3_faultOfRise ∈ TBL := tb6 (i := 194) rfl rfl
theorem m_X3_239 : Cond.methodLink RX3 239 yX3_faultOfFetch ∈ TBL := tb6 (i := 199) rfl rfl
theorem m_X3_242 : Cond.methodLink RX3 242 yX3_faultOfPay ∈ TBL := tb6 (i := 203) rfl rfl
theorem m_X3_245 : Cond.methodLink RX3 245 yX3_faultOfPass ∈ TBL := tb6 (i := 207) rfl rfl
theorem m_X3_248 : Cond.methodLink RX3 248 yX3_hasHiker ∈ TBL := tb6 (i := 179) rfl rfl
theorem m_X3_251 : Cond.methodLink RX3 251 yX3_giveBlanket ∈ TBL := tb6 (i := 226) rfl rfl
theorem m_X3_254 : Cond.methodLink RX3 254 yX3_exchangeBlankets ∈ TBL := tb6 (i := 230) rfl rfl
theorem m_X3_258 : Cond.methodLink RX3 258 yX3_coldCount ∈ TBL := tb6 (i := 234) rfl rfl
theorem m_X3_261 : Cond.methodLink RX3 261 yX3_moveTo ∈ TBL := tb6 (i := 235) rfl rfl
theorem m_X3_264 : Cond.methodLink RX3 264 yX3_changeRate ∈ TBL := tb6 (i := 239) rfl rfl
theorem m_X3_267 : Cond.methodLink RX3 267 yX3_addLogs ∈ TBL := tb7 (i := 3) rfl rfl
theorem m_X3_270 : Cond.methodLink RX3 270 yX3_payBack ∈ TBL := tb7 (i := 7) rfl rfl
theorem m_X3_273 : Cond.methodLink RX3 273 yX3_passTime ∈ TBL := tb7 (i := 11) rfl rfl
theorem m_X4_3 : Cond.methodLink RX4 3 Lib.objectInit ∈ TBL := tb2 (i := 45) rfl rfl
theorem m_X5_3 : Cond.methodLink RX5 3 Lib.objectInit ∈ TBL := tb1 (i := 187) rfl rfl
theorem m_X5_11 : Cond.methodLink RX5 11 yX3_init ∈ TBL := tb1 (i := 189) rfl rfl
theorem m_X6_3 : Cond.methodLink RX6 3 Lib.objectInit ∈ TBL := tb2 (i := 27) rfl rfl
theorem m_X7_3 : Cond.methodLink RX7 3 Lib.objectInit ∈ TBL := tb1 (i := 227) rfl rfl
theorem m_X7_19 : Cond.methodLink RX7 19 yX7_hasRoomFor ∈ TBL := tb2 (i := 109) rfl rfl
theorem m_X7_23 : Cond.methodLink RX7 23 yJ0_length_8abf5 ∈ TBL := tb2 (i := 57) rfl rfl
theorem m_X7_28 : Cond.methodLink RX7 28 yJ0_charAt_5068e ∈ TBL := tb2 (i := 67) rfl rfl
theorem m_X7_32 : Cond.methodLink RX7 32 yX7_put ∈ TBL := tb2 (i := 105) rfl rfl
theorem m_X7_39 : Cond.methodLink RX7 39 yX7_readNext ∈ TBL := tb2 (i := 125) rfl rfl
theorem m_X7_45 : Cond.methodLink RX7 45 yX7_kindOf ∈ TBL := tb2 (i := 129) rfl rfl
theorem m_X7_52 : Cond.methodLink RX7 52 yJ9_min_7cf53 ∈ TBL := tb2 (i := 158) rfl rfl
theorem m_L_1 : Cond.methodLink RL 1 Lib.objectInit ∈ TBL := tb1 (i := 39) rfl rfl
theorem m_L_9 : Cond.methodLink RL 9 yX8_init ∈ TBL := tb1 (i := 44) rfl rfl
theorem m_L_18 : Cond.methodLink RL 18 yJx4a65c_init_da8c8 ∈ TBL := tb3 (i := 19) rfl rfl
theorem m_L_42 : Cond.methodLink RL 42 yJ9_max_7cf53 ∈ TBL := tb3 (i := 111) rfl rfl
theorem m_L_48 : Cond.methodLink RL 48 yL_at ∈ TBL := tb3 (i := 114) rfl rfl
theorem m_L_55 : Cond.methodLink RL 55 yX8_appendText ∈ TBL := tb5 (i := 64) rfl rfl
theorem m_L_61 : Cond.methodLink RL 61 yX8_truncateText ∈ TBL := tb5 (i := 50) rfl rfl
theorem m_L_66 : Cond.methodLink RL 66 yX8_hikerIn ∈ TBL := tb6 (i := 3) rfl rfl
theorem m_L_71 : Cond.methodLink RL 71 yX8_noiseIn ∈ TBL := tb6 (i := 20) rfl rfl
theorem m_L_74 : Cond.methodLink RL 74 yX8_userOf ∈ TBL := tb6 (i := 28) rfl rfl
theorem m_L_77 : Cond.methodLink RL 77 yX8_bunkOf ∈ TBL := tb5 (i := 169) rfl rfl
theorem m_L_80 : Cond.methodLink RL 80 yX8_blanketOf ∈ TBL := tb5 (i := 176) rfl rfl
theorem m_L_83 : Cond.methodLink RL 83 yX8_warmth ∈ TBL := tb5 (i := 183) rfl rfl
theorem m_L_86 : Cond.methodLink RL 86 yX8_activity ∈ TBL := tb5 (i := 198) rfl rfl
theorem m_L_89 : Cond.methodLink RL 89 yX8_hoursOf ∈ TBL := tb5 (i := 137) rfl rfl
theorem m_L_92 : Cond.methodLink RL 92 yX8_coinsOf ∈ TBL := tb5 (i := 229) rfl rfl
theorem m_L_95 : Cond.methodLink RL 95 yX8_debtOf ∈ TBL := tb5 (i := 236) rfl rfl
theorem m_L_98 : Cond.methodLink RL 98 yX8_takeBlanket ∈ TBL := tb6 (i := 163) rfl rfl
theorem m_L_101 : Cond.methodLink RL 101 yX8_returnBlanket ∈ TBL := tb7 (i := 55) rfl rfl
theorem m_L_104 : Cond.methodLink RL 104 yX8_swapBlankets ∈ TBL := tb7 (i := 62) rfl rfl
theorem m_L_107 : Cond.methodLink RL 107 yX8_lieDown ∈ TBL := tb7 (i := 69) rfl rfl
theorem m_L_110 : Cond.methodLink RL 110 yX8_getUp ∈ TBL := tb7 (i := 76) rfl rfl
theorem m_L_113 : Cond.methodLink RL 113 yX8_setRate ∈ TBL := tb7 (i := 83) rfl rfl
theorem m_L_116 : Cond.methodLink RL 116 yX8_fetchLogs ∈ TBL := tb7 (i := 90) rfl rfl
theorem m_L_119 : Cond.methodLink RL 119 yX8_payDebt ∈ TBL := tb7 (i := 97) rfl rfl
theorem m_L_122 : Cond.methodLink RL 122 yX8_passHours ∈ TBL := tb7 (i := 104) rfl rfl
theorem m_L_125 : Cond.methodLink RL 125 yL_truncateText ∈ TBL := tb5 (i := 46) rfl rfl
theorem m_L_128 : Cond.methodLink RL 128 yJ0_length_8abf5 ∈ TBL := tb5 (i := 58) rfl rfl
theorem m_L_134 : Cond.methodLink RL 134 yJ0_charAt_5068e ∈ TBL := tb5 (i := 59) rfl rfl
theorem m_L_138 : Cond.methodLink RL 138 yL_appendText ∈ TBL := tb5 (i := 60) rfl rfl
theorem m_L_140 : Cond.methodLink RL 140 yX8_hikerAtRank ∈ TBL := tb6 (i := 46) rfl rfl
theorem m_L_145 : Cond.methodLink RL 145 yX8_undo ∈ TBL := tb5 (i := 107) rfl rfl
theorem m_L_148 : Cond.methodLink RL 148 yJx4a65c_clear_da8c8 ∈ TBL := tb3 (i := 103) rfl rfl
theorem m_L_169 : Cond.methodLink RL 169 yL_draw ∈ TBL := tb3 (i := 107) rfl rfl
theorem m_L_188 : Cond.methodLink RL 188 yJ4_init_a7421 ∈ TBL := tb3 (i := 125) rfl rfl
theorem m_L_191 : Cond.methodLink RL 191 yJ4_append_bf812 ∈ TBL := tb4 (i := 16) rfl rfl
theorem m_L_197 : Cond.methodLink RL 197 yJ4_append_15ec4 ∈ TBL := tb4 (i := 42) rfl rfl
theorem m_L_200 : Cond.methodLink RL 200 yJ4_append_cf468 ∈ TBL := tb4 (i := 43) rfl rfl
theorem m_L_210 : Cond.methodLink RL 210 yJx4a65c_size_8abf5 ∈ TBL := tb4 (i := 92) rfl rfl
theorem m_L_225 : Cond.methodLink RL 225 yJx4a65c_add_9ea2d ∈ TBL := tb4 (i := 96) rfl rfl
theorem m_L_231 : Cond.methodLink RL 231 yJ4_toString_0e30d ∈ TBL := tb4 (i := 147) rfl rfl
theorem m_L_235 : Cond.methodLink RL 235 yL_lays ∈ TBL := tb5 (i := 42) rfl rfl
theorem m_L_239 : Cond.methodLink RL 239 yX8_loadSetup ∈ TBL := tb5 (i := 86) rfl rfl
theorem m_L_242 : Cond.methodLink RL 242 yL_back ∈ TBL := tb5 (i := 104) rfl rfl
theorem m_L_246 : Cond.methodLink RL 246 yJx4a65c_get_915e3 ∈ TBL := tb5 (i := 121) rfl rfl
theorem m_L_256 : Cond.methodLink RL 256 yL_in ∈ TBL := tb5 (i := 191) rfl rfl
theorem m_L_260 : Cond.methodLink RL 260 yL_warm ∈ TBL := tb5 (i := 187) rfl rfl
theorem m_L_264 : Cond.methodLink RL 264 yL_isCold ∈ TBL := tb5 (i := 214) rfl rfl
theorem m_L_268 : Cond.methodLink RL 268 yL_loud ∈ TBL := tb5 (i := 222) rfl rfl
theorem m_L_271 : Cond.methodLink RL 271 yL_noise ∈ TBL := tb5 (i := 218) rfl rfl
theorem m_L_274 : Cond.methodLink RL 274 yJ9_min_7cf53 ∈ TBL := tb7 (i := 120) rfl rfl
theorem m_L_280 : Cond.methodLink RL 280 yL_pays ∈ TBL := tb7 (i := 116) rfl rfl
theorem m_L_287 : Cond.methodLink RL 287 yL_does ∈ TBL := tb5 (i := 210) rfl rfl
theorem m_L_290 : Cond.methodLink RL 290 yL_dawns ∈ TBL := tb7 (i := 112) rfl rfl
theorem m_L_293 : Cond.methodLink RL 293 yL_hoursOf ∈ TBL := tb5 (i := 133) rfl rfl
theorem m_L_296 : Cond.methodLink RL 296 yL_bunkOf ∈ TBL := tb5 (i := 166) rfl rfl
theorem m_L_298 : Cond.methodLink RL 298 yL_blanketOf ∈ TBL := tb5 (i := 173) rfl rfl
theorem m_L_300 : Cond.methodLink RL 300 yL_warmth ∈ TBL := tb5 (i := 180) rfl rfl
theorem m_L_302 : Cond.methodLink RL 302 yL_activity ∈ TBL := tb5 (i := 195) rfl rfl
theorem m_L_304 : Cond.methodLink RL 304 yL_coinsOf ∈ TBL := tb5 (i := 226) rfl rfl
theorem m_L_306 : Cond.methodLink RL 306 yL_debtOf ∈ TBL := tb5 (i := 233) rfl rfl
theorem m_L_308 : Cond.methodLink RL 308 yL_hikerIn ∈ TBL := tb6 (i := 0) rfl rfl
theorem m_L_310 : Cond.methodLink RL 310 yL_noiseIn ∈ TBL := tb6 (i := 17) rfl rfl
theorem m_L_312 : Cond.methodLink RL 312 yL_userOf ∈ TBL := tb6 (i := 25) rfl rfl
theorem m_L_314 : Cond.methodLink RL 314 yL_under ∈ TBL := tb6 (i := 38) rfl rfl
theorem m_L_317 : Cond.methodLink RL 317 yL_ranked ∈ TBL := tb6 (i := 42) rfl rfl
theorem m_L_320 : Cond.methodLink RL 320 yX8_hour ∈ TBL := tb6 (i := 78) rfl rfl
theorem m_L_322 : Cond.methodLink RL 322 yX8_logs ∈ TBL := tb6 (i := 82) rfl rfl
theorem m_L_324 : Cond.methodLink RL 324 yX8_temperature ∈ TBL := tb6 (i := 86) rfl rfl
theorem m_L_327 : Cond.methodLink RL 327 yX8_hutCoins ∈ TBL := tb6 (i := 91) rfl rfl
theorem m_L_330 : Cond.methodLink RL 330 yX8_burnedLogs ∈ TBL := tb6 (i := 95) rfl rfl
theorem m_L_333 : Cond.methodLink RL 333 yX8_totalDebt ∈ TBL := tb6 (i := 99) rfl rfl
theorem m_L_336 : Cond.methodLink RL 336 yX8_coldHikers ∈ TBL := tb6 (i := 107) rfl rfl
theorem m_L_339 : Cond.methodLink RL 339 yX8_hikersWithout ∈ TBL := tb6 (i := 120) rfl rfl
theorem m_L_342 : Cond.methodLink RL 342 yX8_meanWarmth ∈ TBL := tb6 (i := 128) rfl rfl
theorem m_L_346 : Cond.methodLink RL 346 yX8_sleepShare ∈ TBL := tb6 (i := 136) rfl rfl
theorem m_L_350 : Cond.methodLink RL 350 yX8_auditDifference ∈ TBL := tb6 (i := 144) rfl rfl
theorem m_L_353 : Cond.methodLink RL 353 yL_takeBlanket ∈ TBL := tb6 (i := 160) rfl rfl
theorem m_L_355 : Cond.methodLink RL 355 yL_returnBlanket ∈ TBL := tb7 (i := 52) rfl rfl
theorem m_L_357 : Cond.methodLink RL 357 yL_swapBlankets ∈ TBL := tb7 (i := 59) rfl rfl
theorem m_L_359 : Cond.methodLink RL 359 yL_lieDown ∈ TBL := tb7 (i := 66) rfl rfl
theorem m_L_361 : Cond.methodLink RL 361 yL_getUp ∈ TBL := tb7 (i := 73) rfl rfl
theorem m_L_363 : Cond.methodLink RL 363 yL_setRate ∈ TBL := tb7 (i := 80) rfl rfl
theorem m_L_365 : Cond.methodLink RL 365 yL_fetchLogs ∈ TBL := tb7 (i := 87) rfl rfl
theorem m_L_367 : Cond.methodLink RL 367 yL_payDebt ∈ TBL := tb7 (i := 94) rfl rfl
theorem m_L_369 : Cond.methodLink RL 369 yL_passHours ∈ TBL := tb7 (i := 101) rfl rfl
theorem m_L_371 : Cond.methodLink RL 371 yL_passes ∈ TBL := tb7 (i := 108) rfl rfl
theorem m_L_374 : Cond.methodLink RL 374 yL_loads ∈ TBL := tb3 (i := 99) rfl rfl
theorem m_L_378 : Cond.methodLink RL 378 yL_same ∈ TBL := tb5 (i := 117) rfl rfl
theorem m_L_381 : Cond.methodLink RL 381 yL_act ∈ TBL := tb6 (i := 156) rfl rfl
theorem m_L_384 : Cond.methodLink RL 384 yL_init ∈ TBL := tb1 (i := 36) rfl rfl
theorem m_L_385 : Cond.methodLink RL 385 yL_holds ∈ TBL := tb3 (i := 95) rfl rfl
theorem m_X9_1 : Cond.methodLink RX9 1 Lib.objectInit ∈ TBL := tb4 (i := 63) rfl rfl
theorem m_J5_3 : Cond.methodLink RJ5 3 Lib.objectInit ∈ TBL := tb3 (i := 131) rfl rfl
theorem m_J5_26 : Cond.methodLink RJ5 26 yJ2_newBytesFor_77867 ∈ TBL := tb3 (i := 136) rfl rfl
theorem m_J5_32 : Cond.methodLink RJ5 32 yJ0_length_8abf5 ∈ TBL := tb3 (i := 132) rfl rfl
theorem m_J5_40 : Cond.methodLink RJ5 40 yJ0_coder_7d493 ∈ TBL := tb3 (i := 135) rfl rfl
theorem m_J5_43 : Cond.methodLink RJ5 43 yJ5_append_cf1ce ∈ TBL := tb3 (i := 143) rfl rfl
theorem m_J5_83 : Cond.methodLink RJ5 83 yJ5_isLatin1_aae02 ∈ TBL := tb3 (i := 190) rfl rfl
theorem m_J5_100 : Cond.methodLink RJ5 100 yJ5_ensureCapacityInternal_d00df ∈ TBL := tb3 (i := 160) rfl rfl
theorem m_J5_104 : Cond.methodLink RJ5 104 yJ5_newCapacity_0f7a4 ∈ TBL := tb3 (i := 164) rfl rfl
theorem m_J5_108 : Cond.methodLink RJ5 108 yJ7_copyOf_9075b ∈ TBL := tb3 (i := 176) rfl rfl
theorem m_J5_114 : Cond.methodLink RJ5 114 yJ8_newLength_cabcc ∈ TBL := tb3 (i := 168) rfl rfl
theorem m_J5_125 : Cond.methodLink RJ5 125 yJ1_inflate_0e8fd ∈ TBL := tb3 (i := 223) rfl rfl
theorem m_J5_191 : Cond.methodLink RJ5 191 yJ1_canEncode_fc78d ∈ TBL := tb4 (i := 50) rfl rfl
theorem m_J5_195 : Cond.methodLink RJ5 195 yJ5_inflate_da8c8 ∈ TBL := tb3 (i := 219) rfl rfl
theorem m_J5_197 : Cond.methodLink RJ5 197 yJ2_putCharSB_b72d1 ∈ TBL := tb4 (i := 53) rfl rfl
theorem m_J5_204 : Cond.methodLink RJ5 204 yJ5_appendNull_278bc ∈ TBL := tb3 (i := 156) rfl rfl
theorem m_J5_208 : Cond.methodLink RJ5 208 yJ5_putStringAt_47b60 ∈ TBL := tb3 (i := 211) rfl rfl
theorem m_J5_226 : Cond.methodLink RJ5 226 yJ2_putCharsAt_cd4e5 ∈ TBL := tb3 (i := 196) rfl rfl
theorem m_J5_245 : Cond.methodLink RJ5 245 yJ6_stringSize_0f7a4 ∈ TBL := tb4 (i := 23) rfl rfl
theorem m_J5_248 : Cond.methodLink RJ5 248 yJ6_getChars_ba4f3 ∈ TBL := tb4 (i := 26) rfl rfl
theorem m_J5_251 : Cond.methodLink RJ5 251 yJ2_getChars_46870 ∈ TBL := tb4 (i := 33) rfl rfl
theorem m_J5_397 : Cond.methodLink RJ5 397 yJ5_inflateIfNeededFor_a7421 ∈ TBL := tb3 (i := 215) rfl rfl
theorem m_J5_399 : Cond.methodLink RJ5 399 yJ0_getBytes_840e7 ∈ TBL := tb3 (i := 238) rfl rfl
theorem m_J0_1 : Cond.methodLink RJ0 1 Lib.objectInit ∈ TBL := tb4 (i := 159) rfl rfl
theorem m_J0_47 : Cond.methodLink RJ0 47 yJ2_coderFromArrayLen_85cad ∈ TBL := tb5 (i := 28) rfl rfl
theorem m_J0_54 : Cond.methodLink RJ0 54 yJ7_copyOfRange_39247 ∈ TBL := tb4 (i := 174) rfl rfl
theorem m_J0_106 : Cond.methodLink RJ0 106 yJ1_inflate_0e8fd ∈ TBL := tb4 (i := 3) rfl rfl
theorem m_J0_335 : Cond.methodLink RJ0 335 yJ0_coder_7d493 ∈ TBL := tb2 (i := 61) rfl rfl
theorem m_J0_489 : Cond.methodLink RJ0 489 yJ0_init_db425 ∈ TBL := tb4 (i := 156) rfl rfl
theorem m_J0_492 : Cond.methodLink RJ0 492 yJ0_isLatin1_aae02 ∈ TBL := tb2 (i := 71) rfl rfl
theorem m_J0_495 : Cond.methodLink RJ0 495 yJ1_charAt_3b067 ∈ TBL := tb2 (i := 75) rfl rfl
theorem m_J0_498 : Cond.methodLink RJ0 498 yJ2_charAt_3b067 ∈ TBL := tb2 (i := 86) rfl rfl
theorem m_J0_549 : Cond.methodLink RJ0 549 yJ5_length_8abf5 ∈ TBL := tb4 (i := 165) rfl rfl
theorem m_J0_552 : Cond.methodLink RJ0 552 yJ5_getValue_6d5f1 ∈ TBL := tb4 (i := 160) rfl rfl
theorem m_J0_1047 : Cond.methodLink RJ0 1047 yJ5_isLatin1_aae02 ∈ TBL := tb4 (i := 173) rfl rfl
theorem m_J0_1051 : Cond.methodLink RJ0 1051 yJ2_compress_39247 ∈ TBL := tb5 (i := 21) rfl rfl
theorem m_J0_1059 : Cond.methodLink RJ0 1059 yJ3_checkIndex_8e157 ∈ TBL := tb2 (i := 83) rfl rfl
theorem m_J0_1062 : Cond.methodLink RJ0 1062 yJ3_checkFromToIndex_8c36e ∈ TBL := tb3 (i := 205) rfl rfl
theorem m_J0_1065 : Cond.methodLink RJ0 1065 yJ3_checkFromIndexSize_8c36e ∈ TBL := tb3 (i := 235) rfl rfl
theorem m_J4_1 : Cond.methodLink RJ4 1 yJ5_init_d00df ∈ TBL := tb4 (i := 229) rfl rfl
theorem m_J4_7 : Cond.methodLink RJ4 7 yJ5_init_a7421 ∈ TBL := tb3 (i := 128) rfl rfl
theorem m_J4_23 : Cond.methodLink RJ4 23 yJ4_append_15ec4 ∈ TBL := tb3 (i := 149) rfl rfl
theorem m_J4_29 : Cond.methodLink RJ4 29 yJ5_append_cf1ce ∈ TBL := tb3 (i := 153) rfl rfl
theorem m_J4_50 : Cond.methodLink RJ4 50 yJ5_append_3fe6f ∈ TBL := tb4 (i := 47) rfl rfl
theorem m_J4_53 : Cond.methodLink RJ4 53 yJ5_append_c97b9 ∈ TBL := tb4 (i := 20) rfl rfl
theorem m_J4_137 : Cond.methodLink RJ4 137 yJ0_init_81219 ∈ TBL := tb4 (i := 153) rfl rfl
theorem m_J4_343 : Cond.methodLink RJ4 343 yJ5_length_8abf5 ∈ TBL := tb4 (i := 171) rfl rfl
theorem m_J1_9 : Cond.methodLink RJ1 9 yJ0_checkIndex_df160 ∈ TBL := tb2 (i := 78) rfl rfl
theorem m_J1_240 : Cond.methodLink RJ1 240 yJ2_inflate_0e8fd ∈ TBL := tb3 (i := 226) rfl rfl
theorem m_J2_11 : Cond.methodLink RJ2 11 yJ2_newBytesLength_0f7a4 ∈ TBL := tb3 (i := 139) rfl rfl
theorem m_J2_48 : Cond.methodLink RJ2 48 yJ2_length_9d52b ∈ TBL := tb2 (i := 92) rfl rfl
theorem m_J2_67 : Cond.methodLink RJ2 67 yJ2_checkIndex_2214a ∈ TBL := tb2 (i := 89) rfl rfl
theorem m_J2_71 : Cond.methodLink RJ2 71 yJ2_getChar_3b067 ∈ TBL := tb2 (i := 96) rfl rfl
theorem m_J2_96 : Cond.methodLink RJ2 96 yJ2_checkBoundsBeginEnd_d044e ∈ TBL := tb3 (i := 199) rfl rfl
theorem m_J2_111 : Cond.methodLink RJ2 111 yJ2_putChar_b72d1 ∈ TBL := tb3 (i := 208) rfl rfl
theorem m_J2_123 : Cond.methodLink RJ2 123 yJ2_compress_5af95 ∈ TBL := tb5 (i := 24) rfl rfl
theorem m_J2_126 : Cond.methodLink RJ2 126 yJ7_copyOfRange_39247 ∈ TBL := tb5 (i := 27) rfl rfl
theorem m_J2_173 : Cond.methodLink RJ2 173 yJ2_checkBoundsOffCount_d044e ∈ TBL := tb3 (i := 229) rfl rfl
theorem m_J2_241 : Cond.methodLink RJ2 241 yJ0_checkBoundsBeginEnd_23922 ∈ TBL := tb3 (i := 202) rfl rfl
theorem m_J2_393 : Cond.methodLink RJ2 393 yJ2_getChars_ba4f3 ∈ TBL := tb4 (i := 36) rfl rfl
theorem m_J2_414 : Cond.methodLink RJ2 414 yJ0_checkIndex_df160 ∈ TBL := tb2 (i := 95) rfl rfl
theorem m_J2_419 : Cond.methodLink RJ2 419 yJ0_checkBoundsOffCount_cabcc ∈ TBL := tb3 (i := 232) rfl rfl
theorem m_Jxa1e45_1 : Cond.methodLink RJxa1e45 1 Lib.objectInit ∈ TBL := tb3 (i := 28) rfl rfl
theorem m_Jxc12de_1 : Cond.methodLink RJxc12de 1 yJxa1e45_init_da8c8 ∈ TBL := tb3 (i := 25) rfl rfl
theorem m_Jx4a65c_1 : Cond.methodLink RJx4a65c 1 yJxc12de_init_da8c8 ∈ TBL := tb3 (i := 22) rfl rfl
theorem m_Jx4a65c_66 : Cond.methodLink RJx4a65c 66 yJ7_copyOf_1904c ∈ TBL := tb4 (i := 113) rfl rfl
theorem m_Jx4a65c_69 : Cond.methodLink RJx4a65c 69 yJx4a65c_grow_92f84 ∈ TBL := tb4 (i := 108) rfl rfl
theorem m_Jx4a65c_73 : Cond.methodLink RJx4a65c 73 yJ8_newLength_cabcc ∈ TBL := tb4 (i := 112) rfl rfl
theorem m_Jx4a65c_79 : Cond.methodLink RJx4a65c 79 yJ9_max_7cf53 ∈ TBL := tb4 (i := 144) rfl rfl
theorem m_Jx4a65c_118 : Cond.methodLink RJx4a65c 118 yJ15_checkIndex_7cf53 ∈ TBL := tb5 (i := 125) rfl rfl
theorem m_Jx4a65c_123 : Cond.methodLink RJx4a65c 123 yJx4a65c_elementData_915e3 ∈ TBL := tb5 (i := 129) rfl rfl
theorem m_Jx4a65c_129 : Cond.methodLink RJx4a65c 129 yJx4a65c_grow_d5877 ∈ TBL := tb4 (i := 104) rfl rfl
theorem m_Jx4a65c_131 : Cond.methodLink RJx4a65c 131 yJx4a65c_add_72be8 ∈ TBL := tb4 (i := 100) rfl rfl
theorem m_J7_47 : Cond.methodLink RJ7 47 yJ4_init_da8c8 ∈ TBL := tb4 (i := 226) rfl rfl
theorem m_J7_50 : Cond.methodLink RJ7 50 yJ4_append_15ec4 ∈ TBL := tb4 (i := 234) rfl rfl
theorem m_J7_54 : Cond.methodLink RJ7 54 yJ4_append_bf812 ∈ TBL := tb4 (i := 232) rfl rfl
theorem m_J7_61 : Cond.methodLink RJ7 61 yJ4_toString_0e30d ∈ TBL := tb4 (i := 235) rfl rfl
theorem m_J7_300 : Cond.methodLink RJ7 300 yJ7_copyOf_6403c ∈ TBL := tb4 (i := 138) rfl rfl
theorem m_J7_304 : Cond.methodLink RJ7 304 yJ9_min_7cf53 ∈ TBL := tb3 (i := 186) rfl rfl
theorem m_J7_339 : Cond.methodLink RJ7 339 yJ7_copyOfRangeByte_39247 ∈ TBL := tb4 (i := 177) rfl rfl
theorem m_J7_343 : Cond.methodLink RJ7 343 yJ7_checkLength_df160 ∈ TBL := tb4 (i := 180) rfl rfl
theorem m_J15_105 : Cond.methodLink RJ15 105 yJ3_checkIndex_8e157 ∈ TBL := tb5 (i := 128) rfl rfl
theorem m_J8_194 : Cond.methodLink RJ8 194 yJ9_max_7cf53 ∈ TBL := tb3 (i := 171) rfl rfl
theorem m_J8_201 : Cond.methodLink RJ8 201 yJ8_hugeLength_7cf53 ∈ TBL := tb3 (i := 173) rfl rfl
theorem k_X8_7 : Cond.classLink RX8 7 RX3 ∈ TBL := tb1 (i := 48) rfl rfl
theorem k_X8_19 : Cond.classLink RX8 19 RX5 ∈ TBL := tb1 (i := 182) rfl rfl
theorem k_X8_26 : Cond.classLink RX8 26 RX2 ∈ TBL := tb1 (i := 194) rfl rfl
theorem k_X8_45 : Cond.classLink RX8 45 RX0 ∈ TBL := tb1 (i := 216) rfl rfl
theorem k_X8_52 : Cond.classLink RX8 52 RX6 ∈ TBL := tb2 (i := 22) rfl rfl
theorem k_X8_59 : Cond.classLink RX8 59 RX4 ∈ TBL := tb2 (i := 40) rfl rfl
theorem k_X0_9 : Cond.classLink RX0 9 RX7 ∈ TBL := tb1 (i := 222) rfl rfl
theorem k_X3_27 : Cond.classLink RX3 27 RX1 ∈ TBL := tb1 (i := 54) rfl rfl
theorem k_X5_9 : Cond.classLink RX5 9 RX3 ∈ TBL := tb1 (i := 188) rfl rfl
theorem k_L_7 : Cond.classLink RL 7 RX8 ∈ TBL := tb1 (i := 42) rfl rfl
theorem k_L_11 : Cond.classLink RL 11 RL ∈ TBL := tb1 (i := 34) rfl rfl
theorem k_L_16 : Cond.classLink RL 16 RJx4a65c ∈ TBL := tb3 (i := 17) rfl rfl
theorem k_L_184 : Cond.classLink RL 184 RJ4 ∈ TBL := tb3 (i := 122) rfl rfl
theorem k_L_207 : Cond.classLink RL 207 RX9 ∈ TBL := tb4 (i := 58) rfl rfl
theorem k_J4_18 : Cond.classLink RJ4 18 RJ0 ∈ TBL := tb4 (i := 151) rfl rfl
theorem k_J7_45 : Cond.classLink RJ7 45 RJ4 ∈ TBL := tb4 (i := 225) rfl rfl
theorem n_X8 : Cond.instantiable RX8 9 ∈ TBL ∧ Cond.initialized RX8 ∈ TBL := ⟨tb1 (i := 43) rfl rfl, tb1 (i := 1) rfl rfl⟩
theorem n_X0 : Cond.instantiable RX0 4 ∈ TBL ∧ Cond.initialized RX0 ∈ TBL := ⟨tb1 (i := 217) rfl rfl, tb1 (i := 6) rfl rfl⟩
theorem n_X1 : Cond.instantiable RX1 9 ∈ TBL ∧ Cond.initialized RX1 ∈ TBL := ⟨tb1 (i := 56) rfl rfl, tb1 (i := 3) rfl rfl⟩
theorem n_X2 : Cond.instantiable RX2 3 ∈ TBL ∧ Cond.initialized RX2 ∈ TBL := ⟨tb1 (i := 195) rfl rfl, tb1 (i := 5) rfl rfl⟩
theorem n_X3 : Cond.instantiable RX3 19 ∈ TBL ∧ Cond.initialized RX3 ∈ TBL := ⟨tb1 (i := 49) rfl rfl, tb1 (i := 2) rfl rfl⟩
theorem n_X4 : Cond.instantiable RX4 2 ∈ TBL ∧ Cond.initialized RX4 ∈ TBL := ⟨tb2 (i := 41) rfl rfl, tb1 (i := 9) rfl rfl⟩
theorem n_X5 : Cond.instantiable RX5 1 ∈ TBL ∧ Cond.initialized RX5 ∈ TBL := ⟨tb1 (i := 183) rfl rfl, tb1 (i := 4) rfl rfl⟩
theorem n_X6 : Cond.instantiable RX6 4 ∈ TBL ∧ Cond.initialized RX6 ∈ TBL := ⟨tb2 (i := 23) rfl rfl, tb1 (i := 8) rfl rfl⟩
theorem n_X7 : Cond.instantiable RX7 5 ∈ TBL ∧ Cond.initialized RX7 ∈ TBL := ⟨tb1 (i := 223) rfl rfl, tb1 (i := 7) rfl rfl⟩
theorem n_L : Cond.instantiable RL 17 ∈ TBL ∧ Cond.initialized RL ∈ TBL := ⟨tb1 (i := 35) rfl rfl, tb1 (i := 0) rfl rfl⟩
theorem n_X9 : Cond.instantiable RX9 8 ∈ TBL ∧ Cond.initialized RX9 ∈ TBL := ⟨tb4 (i := 59) rfl rfl, tb1 (i := 25) rfl rfl⟩
theorem n_J0 : Cond.instantiable RJ0 4 ∈ TBL ∧ Cond.initialized RJ0 ∈ TBL := ⟨tb4 (i := 152) rfl rfl, tb1 (i := 10) rfl rfl⟩
theorem n_J4 : Cond.instantiable RJ4 4 ∈ TBL ∧ Cond.initialized RJ4 ∈ TBL := ⟨tb3 (i := 123) rfl rfl, tb1 (i := 19) rfl rfl⟩
theorem n_Jx4a65c : Cond.instantiable RJx4a65c 3 ∈ TBL ∧ Cond.initialized RJx4a65c ∈ TBL := ⟨tb3 (i := 18) rfl rfl, tb1 (i := 17) rfl rfl⟩
theorem q_L_33 : Cond.constant RL 33 (-1640531535) ∈ TBL := tb3 (i := 117) rfl rfl
theorem q_L_34 : Cond.constant RL 34 (-2048144789) ∈ TBL := tb3 (i := 118) rfl rfl
theorem q_L_52 : Cond.constant RL 52 (668265263) ∈ TBL := tb3 (i := 119) rfl rfl
theorem q_L_53 : Cond.constant RL 53 (739982445) ∈ TBL := tb3 (i := 120) rfl rfl
theorem q_L_54 : Cond.constant RL 54 (2147483647) ∈ TBL := tb3 (i := 121) rfl rfl
theorem q_J5_38 : Cond.constant RJ5 38 (2147483631) ∈ TBL := tb3 (i := 133) rfl rfl
theorem q_J5_39 : Cond.constant RJ5 39 (2147483647) ∈ TBL := tb3 (i := 134) rfl rfl
theorem q_J2_20 : Cond.constant RJ2 20 (1073741823) ∈ TBL := tb3 (i := 142) rfl rfl
theorem q_J8_200 : Cond.constant RJ8 200 (2147483639) ∈ TBL := tb3 (i := 172) rfl rfl
theorem a_int : Cond.arrayClass .int ∈ TBL := tb1 (i := 106) rfl rfl
theorem a_byte : Cond.arrayClass .byte ∈ TBL := tb3 (i := 16) rfl rfl
theorem a_boolean : Cond.arrayClass .boolean ∈ TBL := tb2 (i := 7) rfl rfl
theorem o_init : Cond.instanceMethod Lib.objectInit ∈ TBL ∧ Cond.code Lib.objectInit ⟨#[0xb1]⟩ 1 none ∈ TBL := ⟨tb1 (i := 40) rfl rfl, tb1 (i := 41) rfl rfl⟩
theorem z_min : Cond.static Lib.Math.min.name ∈ TBL ∧ Cond.initialized "java/lang/Math" ∈ TBL ∧ Cond.code Lib.Math.min.name Lib.Math.min.code 2 (some .int) ∈ TBL := ⟨tb2 (i := 159) rfl rfl, tb1 (i := 14) rfl rfl, tb2 (i := 160) rfl rfl⟩
theorem z_max : Cond.static Lib.Math.max.name ∈ TBL ∧ Cond.initialized "java/lang/Math" ∈ TBL ∧ Cond.code Lib.Math.max.name Lib.Math.max.code 2 (some .int) ∈ TBL := ⟨tb3 (i := 112) rfl rfl, tb1 (i := 14) rfl rfl, tb3 (i := 113) rfl rfl⟩
theorem z_abs : Cond.static Lib.Math.abs.name ∈ TBL ∧ Cond.initialized "java/lang/Math" ∈ TBL ∧ Cond.code Lib.Math.abs.name Lib.Math.abs.code 1 (some .int) ∈ TBL := ⟨tb6 (i := 150) rfl rfl, tb1 (i := 14) rfl rfl, tb6 (i := 151) rfl rfl⟩
theorem z_copy : Cond.native arraycopyName ∈ TBL ∧ Cond.static arraycopyName ∈ TBL ∧ Cond.initialized "java/lang/System" ∈ TBL := ⟨tb3 (i := 189) rfl rfl, tb3 (i := 188) rfl rfl, tb1 (i := 22) rfl rfl⟩
theorem m_J7_150c : Cond.methodLink RJ7 150 arraycopyName ∈ TBL := tb3 (i := 187) rfl rfl
theorem m_J0_212c : Cond.methodLink RJ0 212 arraycopyName ∈ TBL := tb4 (i := 2) rfl rfl
theorem m_X3_81c : Cond.methodLink RX3 81 arraycopyName ∈ TBL := tb5 (i := 94) rfl rfl
theorem m_X1_40c : Cond.methodLink RX1 40 arraycopyName ∈ TBL := tb5 (i := 99) rfl rfl
theorem m_X8_292m : Cond.methodLink RX8 292 Lib.Math.abs.name ∈ TBL := tb6 (i := 149) rfl rfl
theorem m_X2_32m : Cond.methodLink RX2 32 Lib.Math.min.name ∈ TBL := tb6 (i := 221) rfl rfl
theorem m_X7_52m : Cond.methodLink RX7 52 Lib.Math.min.name ∈ TBL := tb2 (i := 158) rfl rfl
theorem m_L_42m : Cond.methodLink RL 42 Lib.Math.max.name ∈ TBL := tb3 (i := 111) rfl rfl
theorem m_L_274m : Cond.methodLink RL 274 Lib.Math.min.name ∈ TBL := tb7 (i := 120) rfl rfl
theorem m_Jx4a65c_79m : Cond.methodLink RJx4a65c 79 Lib.Math.max.name ∈ TBL := tb4 (i := 144) rfl rfl
theorem m_J7_304m : Cond.methodLink RJ7 304 Lib.Math.min.name ∈ TBL := tb3 (i := 186) rfl rfl
theorem m_J8_194m : Cond.methodLink RJ8 194 Lib.Math.max.name ∈ TBL := tb3 (i := 171) rfl rfl
def nST : Nat := 11
def bytST : Nat → List Int32 := fun k => match k with
  | 0 => [104, 117, 116, 32, 50, 48, 59, 32, 98, 117, 110, 107, 115, 32, 48, 32, 49, 32, 51, 32, 49, 32, 48, 59, 32, 98, 108, 97, 110, 107, 101, 116, 115, 32, 51, 32, 53, 32, 50, 59, 32, 102, 111, 114, 101, 99, 97, 115, 116, 32, 54, 32, 51, 32, 49, 32, 52, 59, 32, 104, 105, 107, 101, 114, 32, 49, 48, 32, 56, 32, 49, 50, 59, 32, 104, 105, 107, 101, 114, 32, 55, 32, 50, 32, 53, 59, 32, 104, 105, 107, 101, 114, 32, 49, 50, 32, 48, 32, 51, 48, 59, 32, 104, 105, 107, 101, 114, 32, 57, 32, 53, 32, 49, 59]
  | 1 => [104, 117, 116]
  | 2 => [98, 117, 110, 107, 115]
  | 3 => [98, 108, 97, 110, 107, 101, 116, 115]
  | 4 => [102, 111, 114, 101, 99, 97, 115, 116]
  | 5 => [104, 105, 107, 101, 114]
  | 6 => [104, 117, 116, 32]
  | 7 => [59, 98, 117, 110, 107, 115]
  | 8 => [59, 98, 108, 97, 110, 107, 101, 116, 115]
  | 9 => [59, 102, 111, 114, 101, 99, 97, 115, 116]
  | 10 => [104, 105, 107, 101, 114, 32]
  | _ => []
def strTab : List (String × Nat × String × Nat) := [("HutLedger", 70, "hut 20; bunks 0 1 3 1 0; blankets 3 5 2; forecast 6 3 1 4; hiker 10 8 12; hiker 7 2 5; hiker 12 0 30; hiker 9 5 1;", 0), ("HutLedger", 92, "the text buffer would exceed 500 bytes", 22), ("HutLedger", 106, "no such length", 18), ("HutLedger", 193, "no such bunk", 15), ("HutLedger", 199, "no such hiker", 16), ("HutLedger", 204, "no such blanket", 14), ("HutLedger", 214, "no such rank", 19), ("HutLedger", 241, "no such activity", 13), ("HutLedger", 345, "no such hiker, blanket or bunk", 17), ("HutLedger", 347, "argument out of range", 12), ("HutLedger", 349, "the hut does not allow this now", 21), ("HutLedger", 378, "nothing to undo", 20), ("HutLedger$Grammar", 55, "hut", 1), ("HutLedger$Grammar", 79, "bunks", 2), ("HutLedger$Grammar", 95, "blankets", 3), ("HutLedger$Grammar", 103, "forecast", 4), ("HutLedger$Grammar", 120, "hiker", 5), ("HutLedgerLaw", 186, "hut ", 6), ("HutLedgerLaw", 195, ";bunks", 7), ("HutLedgerLaw", 203, ";blankets", 8), ("HutLedgerLaw", 205, ";forecast", 9), ("HutLedgerLaw", 229, "hiker ", 10)]
def nestTab : List (String × Nat × MethodName) := [(RX8, 21, yX5_init), (RX8, 28, yX2_init), (RX8, 47, yX0_init), (RX8, 54, yX6_init), (RX8, 61, yX4_init), (RX0, 11, yX7_init), (RX0, 144, yX8_isWithin), (RX2, 9, yX8_newHuts), (RX3, 33, yX1_init), (RX3, 164, yX8_isWithin)]
def nestT2 : List (String × Nat × MethodName) := [(RL, 209, yX9_init)]
def fnestT : List (String × Nat × String × String × String) := [(RL, 213, "HutLedgerLaw$Hiker", "number", "I"), (RL, 216, "HutLedgerLaw$Hiker", "need", "I"), (RL, 219, "HutLedgerLaw$Hiker", "snore", "I"), (RL, 222, "HutLedgerLaw$Hiker", "coins", "I"), (RL, 250, "HutLedgerLaw$Hiker", "bunk", "I"), (RL, 253, "HutLedgerLaw$Hiker", "blanket", "I"), (RL, 277, "HutLedgerLaw$Hiker", "debt", "I"), (RL, 284, "HutLedgerLaw$Hiker", "hours", "[I")]
end
section
/-! THE CORE: the heap as a function of addresses; one judgement WW over it; a row an instruction. -/
abbrev hE : Type := (Nat × (Nat → Value)) ⊕ (Nat × Nat × ((Nat → Int32) ⊕ (Nat → Int64) ⊕ (Nat → Option Nat)))
abbrev AH : Type := (Nat → Option hE) × Option Nat
abbrev GG : Type := (va_G × (Nat → ClassId)) × Nat × (Nat → Nat) × (Nat → Nat) × Nat × (Nat → Int32)
def kT : Nat → FieldType := fun k => match k with
  | 0 => .int
  | 1 => .byte
  | 2 => .boolean
  | 3 => .int
  | 4 => .object RX1
  | 5 => .object RX3
  | _ => .object "java/lang/Object"
abbrev tysG (G : GG) : List (ClassId × FieldType) := [(G.1.2 0, kT 0), (G.1.2 1, kT 1), (G.1.2 2, kT 2), (G.1.2 3, kT 3), (G.1.2 4, kT 4), (G.1.2 5, kT 5), (G.1.2 6, kT 6)]
theorem tysG_at (G : GG) {k : Nat} (h : k < 7) : (tysG G)[k]? = some (G.1.2 k, kT k) := by
  match k, h with
  | 0, _ => rfl
  | 1, _ => rfl
  | 2, _ => rfl
  | 3, _ => rfl
  | 4, _ => rfl
  | 5, _ => rfl
  | 6, _ => rfl
abbrev gA (G : GG) : Nat → Prop := fun q => G.2.1 ≤ q
def hA (G : GG) (a : Nat) (e : hE) (H : Heap) : Prop := match e with
  | .inl o => ∃ r : vw_C, vwCl[o.1]? = some r ∧ t_OB a (G.1.1.1 o.1) r.2.2 (G.1.1.2 o.1) H o.2
  | .inr (k, n, .inl f) => H[a]? = some (arrV (G.1.2 k) n (fun j => .int (f j)))
  | .inr (k, n, .inr (.inl f)) => H[a]? = some (arrV (G.1.2 k) n (fun j => .long (f j)))
  | .inr (k, n, .inr (.inr f)) => H[a]? = some (arrV (G.1.2 k) n (fun j => va_rf (f j)))
theorem hA.kept {G : GG} {a : Nat} {e : hE} {H H1 : Heap} (h : hA G a e H) (hq : H1[a]? = H[a]?) : hA G a e H1 := by
  match e, h with
  | .inl o, ⟨r, h1, h2⟩ => exact ⟨r, h1, h2.kept hq⟩
  | .inr (k, n, .inl f), h => exact hq.trans h
  | .inr (k, n, .inr (.inl f)), h => exact hq.trans h
  | .inr (k, n, .inr (.inr f)), h => exact hq.trans h
theorem hA.lt {G : GG} {a : Nat} {e : hE} {H : Heap} (h : hA G a e H) : a < H.size := by
  match e, h with
  | .inl o, h =>
    obtain ⟨r, h1, c9, h2, -⟩ := h
    exact (Array.getElem?_eq_some_iff.mp h2).1
  | .inr (k, n, .inl f), h => exact (Array.getElem?_eq_some_iff.mp h).1
  | .inr (k, n, .inr (.inl f)), h => exact (Array.getElem?_eq_some_iff.mp h).1
  | .inr (k, n, .inr (.inr f)), h => exact (Array.getElem?_eq_some_iff.mp h).1
/-- the heap holds the picture -/
def Pic (G : GG) (g : AH) (H : Heap) : Prop := (∀ (a : Nat) (e : hE), g.1 a = some e → hA G a e H ∧ G.2.1 ≤ a) ∧ ∀ n : Nat, g.2 = some n → H.size = n
def hset (g : AH) (a : Nat) (e : hE) : AH := (fun q => if q = a then some e else g.1 q, g.2)
def hnew (g : AH) (n : Nat) (e : hE) : AH := (fun q => if q = n then some e else g.1 q, some (n + 1))
def hcut (g : AH) : AH := (g.1, none)
theorem Pic.set {G : GG} {g : AH} {H H1 : Heap} {a : Nat} {e : hE} (h : Pic G g H) (hB : G.2.1 ≤ a) (he : hA G a e H1) (hz : H1.size = H.size) (ho : ∀ q : Nat, q ≠ a → H1[q]? = H[q]?) : Pic G (hset g a e) H1 := by
  refine ⟨fun b e' hb => ?_, fun n hn => hz.trans (h.2 n hn)⟩
  show hA G b e' H1 ∧ _
  by_cases hq : b = a
  · subst hq
    have h1 : (if b = b then some e else g.1 b) = some e' := hb
    rw [if_pos rfl] at h1
    cases h1
    exact ⟨he, hB⟩
  · have h1 : (if b = a then some e else g.1 b) = some e' := hb
    rw [if_neg hq] at h1
    exact ⟨(h.1 b e' h1).1.kept (ho b hq), (h.1 b e' h1).2⟩
theorem Pic.push {G : GG} {g : AH} {H H1 : Heap} {e : hE} {n : Nat} (h : Pic G g H) (hn : g.2 = some n) (hB : G.2.1 ≤ H.size) (he : hA G H.size e H1) (hz : H1.size = H.size + 1) (ho : ∀ q : Nat, q < H.size → H1[q]? = H[q]?) : n = H.size ∧ Pic G (hnew g n e) H1 := by
  have e0 : H.size = n := h.2 n hn
  subst e0
  refine ⟨rfl, fun b e' hb => ?_, fun k hk => ?_⟩
  · by_cases hq : b = H.size
    · subst hq
      have h1 : (if H.size = H.size then some e else g.1 H.size) = some e' := hb
      rw [if_pos rfl] at h1
      cases h1
      exact ⟨he, hB⟩
    · have h1 : (if b = H.size then some e else g.1 b) = some e' := hb
      rw [if_neg hq] at h1
      exact ⟨(h.1 b e' h1).1.kept (ho b (h.1 b e' h1).1.lt), (h.1 b e' h1).2⟩
  · cases hk
    exact hz
theorem Pic.cut {G : GG} {g : AH} {H H1 : Heap} (h : Pic G g H) (ho : ∀ q : Nat, q < H.size → H1[q]? = H[q]?) : Pic G (hcut g) H1 :=
  ⟨fun b e hb => ⟨(h.1 b e hb).1.kept (ho b (h.1 b e hb).1.lt), (h.1 b e hb).2⟩, fun n hn => by cases hn⟩
/-! what the programs' functions are made of -/
def gb {α β : Type} (o : Option α) (f : α → Option β) : Option β := match o with
  | none => none
  | some a => f a
def cb {α β : Type} (o : Option (α × AH)) (f : α → AH → Option β) : Option β := match o with
  | none => none
  | some a => f a.1 a.2
theorem gb_some {α β : Type} {o : Option α} {f : α → Option β} {r : β} (h : gb o f = some r) : ∃ a, o = some a ∧ f a = some r := by
  cases o with
  | none => cases h
  | some a => exact ⟨a, rfl, h⟩
theorem cb_some {α β : Type} {o : Option (α × AH)} {f : α → AH → Option β} {r : β} (h : cb o f = some r) : ∃ (a : α) (g : AH), o = some (a, g) ∧ f a g = some r := by
  match o, h with
  | some (a, g), h => exact ⟨a, g, rfl, h⟩
def isO (ci : Nat) (g : AH) (a : Nat) : Option Unit := match g.1 a with
  | some (.inl o) => if o.1 = ci then some () else none
  | _ => none
def getI (ci : Nat) (g : AH) (a k : Nat) : Option Int32 := match g.1 a with
  | some (.inl o) => if o.1 = ci then (match o.2 k with
    | .int x => some x
    | _ => none) else none
  | _ => none
def getR (ci : Nat) (g : AH) (a k : Nat) : Option Nat := match g.1 a with
  | some (.inl o) => if o.1 = ci then (match o.2 k with
    | .ref x => some x
    | _ => none) else none
  | _ => none
def putV (ci : Nat) (g : AH) (a k : Nat) (v : Value) : Option AH := match g.1 a with
  | some (.inl o) => if o.1 = ci then some (hset g a (.inl (ci, updV o.2 k v))) else none
  | _ => none
abbrev outI (i : Int32) (n : Nat) : Prop := i < 0 ∨ n ≤ i.toNatClampNeg
def aldI (t : Nat) (g : AH) (a : Nat) (i : Int32) : Option Int32 := match g.1 a with
  | some (.inr (k, n, .inl f)) => if k = t then (if outI i n then none else some (f i.toNatClampNeg)) else none
  | _ => none
def astI (t : Nat) (g : AH) (a : Nat) (i x : Int32) : Option AH := match g.1 a with
  | some (.inr (k, n, .inl f)) => if k = t then (if outI i n then none else some (hset g a (.inr (t, n, .inl (upd f i.toNatClampNeg x))))) else none
  | _ => none
def aldL (g : AH) (a : Nat) (i : Int32) : Option Int64 := match g.1 a with
  | some (.inr (k, n, .inr (.inl f))) => if k = 3 then (if outI i n then none else some (f i.toNatClampNeg)) else none
  | _ => none
def astL (g : AH) (a : Nat) (i : Int32) (x : Int64) : Option AH := match g.1 a with
  | some (.inr (k, n, .inr (.inl f))) => if k = 3 then (if outI i n then none else some (hset g a (.inr (3, n, .inr (.inl (vp_updL f i.toNatClampNeg x)))))) else none
  | _ => none
def aldR (t : Nat) (g : AH) (a : Nat) (i : Int32) : Option Nat := match g.1 a with
  | some (.inr (k, n, .inr (.inr f))) => if k = t then (if outI i n then none else f i.toNatClampNeg) else none
  | _ => none
def astR (t ci : Nat) (g : AH) (a : Nat) (i : Int32) (x : Nat) : Option AH := match g.1 a with
  | some (.inr (k, n, .inr (.inr f))) => if k = t then (if outI i n then none else gb (isO ci g x) fun _ => some (hset g a (.inr (t, n, .inr (.inr (va_up f i.toNatClampNeg (some x))))))) else none
  | _ => none
def alen (t : Nat) (g : AH) (a : Nat) : Option Int32 := match g.1 a with
  | some (.inr (k, n, _)) => if k = t then some (Int32.ofNat n) else none
  | _ => none
/-- System.arraycopy between two rows of ints -/
def acpy (g : AH) (a : Nat) (i : Int32) (b : Nat) (j n : Int32) : Option AH := match g.1 a, g.1 b with
  | some (.inr (k, n0, .inl f)), some (.inr (k1, n1, .inl f1)) => if k = 0 ∧ k1 = 0 ∧ ¬ i < 0 ∧ ¬ j < 0 ∧ ¬ n < 0 ∧ i.toNatClampNeg + n.toNatClampNeg ≤ n0 ∧ j.toNatClampNeg + n.toNatClampNeg ≤ n1 then some (hset g b (.inr (0, n1, .inl (va_cpy f f1 i.toNatClampNeg j.toNatClampNeg n.toNatClampNeg)))) else none
  | _, _ => none
/-- what a new object's fields hold, by its class -/
def dfl (ty : FieldType) : Value := defaultValue ty
def newO (ci : Nat) (ty : Nat → FieldType) (g : AH) : Option (Nat × AH) := match g.2 with
  | some n => some (n, hnew g n (.inl (ci, fun k => defaultValue (ty k))))
  | none => none
/-- a new array of kind t -/
def newA (t : Nat) (c : (Nat → Int32) ⊕ (Nat → Int64) ⊕ (Nat → Option Nat)) (g : AH) (n : Int32) : Option (Nat × AH) := match g.2 with
  | some q => if n < 0 ∨ 65536 < n.toNatClampNeg then none else some (q, hnew g q (.inr (t, n.toNatClampNeg, c)))
  | none => none
def loopX {σ τ : Type} (body : σ → AH → Option ((σ ⊕ τ) × AH)) : Nat → σ → AH → Option (τ × AH)
  | 0, _, _ => none
  | n + 1, s, g => match body s g with
    | none => none
    | some (.inl s1, g1) => loopX body n s1 g1
    | some (.inr t, g1) => some (t, g1)
theorem loop_cps {σ τ : Type} {body : σ → AH → Option ((σ ⊕ τ) × AH)} {K : τ → AH → Prop} (P : Nat → σ → AH → Prop)
    (hb : ∀ (n : Nat) (s : σ) (g : AH) (st : σ ⊕ τ) (g1 : AH), body s g = some (st, g1) → (∀ s1, st = .inl s1 → P n s1 g1) → (∀ t, st = .inr t → K t g1) → P (n + 1) s g) :
    ∀ (n : Nat) (s : σ) (g : AH) (t : τ) (g1 : AH), loopX body n s g = some (t, g1) → K t g1 → P n s g := by
  intro n
  induction n with
  | zero => intro s g t g1 h; cases h
  | succ n ih =>
    intro s g t g1 h hK
    rw [loopX] at h
    cases hbd : body s g with
    | none => rw [hbd] at h; cases h
    | some q =>
      obtain ⟨st, g2⟩ := q
      rw [hbd] at h
      cases st with
      | inl s1 =>
        refine hb n s g (.inl s1) g2 hbd (fun s2 e => ?_) (fun t2 e => by cases e)
        cases e
        exact ih s1 g2 t g1 h hK
      | inr t1 =>
        have h2 : (t1, g2) = (t, g1) := Option.some.inj h
        cases h2
        exact hb n s g (.inr _) _ hbd (fun s2 e => by cases e) (fun t2 e => by cases e; exact hK)
/-! the machine's side -/
abbrev MC : Type := Program × Launch × Env × Room × State × MethodId × Array Value × List Frame × Method × Code
abbrev mS (M : MC) : State := M.2.2.2.2.1
abbrev mI (M : MC) : MethodId := M.2.2.2.2.2.1
abbrev mA (M : MC) : Array Value := M.2.2.2.2.2.2.1
abbrev mB (M : MC) : List Frame := M.2.2.2.2.2.2.2.1
abbrev mM (M : MC) : Method := M.2.2.2.2.2.2.2.2.1
abbrev mC (M : MC) : Code := M.2.2.2.2.2.2.2.2.2
def WW (M : MC) (G : GG) (nL : Nat) (Q : State → Prop) (kc ks : Nat) (g : AH) (pc : Nat) (L : List (Nat × Value)) (st : List Value) : Prop :=
  kc ≤ M.2.2.2.1.cells → ks ≤ M.2.2.2.1.slots → ∀ (H : Heap) (locs : List Loc) (ls : Array Slot), Pic G g H → va_S (gA G) (mS M).heap H locs → lv_has ls nL L →
    W M.1 M.2.1 M.2.2.1 M.2.2.2.1 (mS M) (mI M) (mA M) (mB M) (mM M) (mC M) H locs kc ks Q (F0 (mI M) pc ls st)
end
section
/-! what does not change while the law runs -/
def excTab : List String := ["java/lang/IllegalStateException", "java/lang/IllegalArgumentException", "java/lang/IndexOutOfBoundsException", "java/util/NoSuchElementException"]
def extraW : List Cond := [.castable "java/lang/IllegalStateException" "java/lang/IllegalStateException", .castable "java/lang/IllegalArgumentException" "java/lang/IllegalArgumentException", .castable "java/lang/IndexOutOfBoundsException" "java/lang/IndexOutOfBoundsException", .castable "java/util/NoSuchElementException" "java/util/NoSuchElementException", .declares (Bundle.initS "java/lang/RuntimeException"), .declares (Bundle.initS "java/lang/Exception"), .declares (Bundle.initS Bundle.tN)]
theorem extra_on : ∀ w ∈ extraW, w.onTables = true ∧ w.keepsFace = true := by decide
theorem face_warm {w : Cond} {s U : State} (hw : w.onTables = true ∧ w.keepsFace = true) (hW : s.WarmedH U.vm) (h : w.before #[] s = true) : w.before #[] U = true :=
  va_tabs hw.1 (rfl : (s.setVm U.vm).vm = U.vm) (Cond.before_shiftedFace (State.Shifted.of_warmed hW) w hw.2 h)
theorem nc_warm {a b : String} {s U : State} (hv : s.vm.Alike U.vm) (h : va_Nc a b s) : va_Nc a b U := by
  obtain ⟨c, t, h1, h2, h3⟩ := h
  exact ⟨c, t, by rw [hv.findClass]; exact h1, by rw [hv.findClass]; exact h2, by rw [hv.assignable]; exact h3⟩
/-- what the law and the library's classes stand on besides -/
def bytD : Nat → List Int32 := fun k => match k with
  | 0 => (List.range 100).map (fun i => Int32.ofNat (48 + i % 10))
  | _ => (List.range 100).map (fun i => Int32.ofNat (48 + i / 10))
def SX (G : GG) (U : State) (H : Heap) : Prop :=
  (va_AO "java/lang/Object" U ∧ va_Nw (.castable RX9 "java/lang/Object") U ∧ va_Nw (.castable "[B" "java/lang/Cloneable") U)
  ∧ (∀ q ∈ fnestT, va_Nw (.fieldLinkNest q.1 q.2.1 q.2.2.1 q.2.2.2.1 q.2.2.2.2 "HutLedgerLaw") U)
  ∧ (∀ q ∈ nestT2, va_Nw (.methodLinkNest q.1 q.2.1 q.2.2 "HutLedgerLaw") U)
  ∧ (va_Z "java/util/ArrayList" "DEFAULTCAPACITY_EMPTY_ELEMENTDATA" "[Ljava/lang/Object;" (.ref (G.2.2.1 100)) (gA G) U H ∧ va_T (.object "java/lang/Object") (G.2.2.1 100) 0 (fun _ => .null) (gA G) U H)
  ∧ (va_Z "java/lang/Integer" "DigitOnes" "[B" (.ref (G.2.2.2.1 100)) (gA G) U H ∧ va_T .byte (G.2.2.2.1 100) 100 (fun j => .int ((bytD 0).getD j 0)) (gA G) U H)
  ∧ (va_Z "java/lang/Integer" "DigitTens" "[B" (.ref (G.2.2.2.1 101)) (gA G) U H ∧ va_T .byte (G.2.2.2.1 101) 100 (fun j => .int ((bytD 1).getD j 0)) (gA G) U H)
  ∧ (va_X (G.2.2.1 101) G.2.2.2.2.1 G.2.2.2.2.2 U H ∧ G.2.2.1 101 < H.size ∧ ¬ gA G (G.2.2.1 101))
theorem SX.warm {G : GG} {s U : State} {H H1 : Heap} (h : SX G s H) (hW : s.WarmedH U.vm) (ho : ∀ q : Nat, q < H.size → ¬ gA G q → H1[q]? = H[q]?) : SX G U H1 := by
  obtain ⟨h1, h2, h3, h4, h5, h6, h7⟩ := h
  have hv := hW.alike
  refine ⟨⟨h1.1.moved hv, va_Nw.warmC hW h1.2.1, va_Nw.warmC hW h1.2.2⟩, fun q hq => va_Nw.warmF hW (h2 q hq), fun q hq => va_Nw.warmM hW (h3 q hq), ⟨(h4.1.moved hv).kept ho, (h4.2.moved hv).kept ho⟩, ⟨(h5.1.moved hv).kept ho, (h5.2.moved hv).kept ho⟩, ⟨(h6.1.moved hv).kept ho, (h6.2.moved hv).kept ho⟩, ?_, ?_, h7.2.2⟩
  · exact (h7.1.moved hv).kept (ho _ h7.2.1 h7.2.2)
  · obtain ⟨scr, q1, -⟩ := (h7.1.moved hv).kept (ho _ h7.2.1 h7.2.2)
    exact (Array.getElem?_eq_some_iff.mp q1).1
theorem SX.same {G : GG} {u U : State} {H : Heap} (h : SX G u H) (hv : u.vm = U.vm) : SX G U H := by
  have e : u.vm.Alike U.vm := hv ▸ Vm.Alike.refl u.vm
  obtain ⟨h1, h2, h3, h4, h5, h6, h7⟩ := h
  exact ⟨⟨h1.1.moved e, va_Nw.same rfl hv h1.2.1, va_Nw.same rfl hv h1.2.2⟩, fun q hq => va_Nw.same rfl hv (h2 q hq), fun q hq => va_Nw.same rfl hv (h3 q hq), ⟨h4.1.moved e, h4.2.moved e⟩, ⟨h5.1.moved e, h5.2.moved e⟩, ⟨h6.1.moved e, h6.2.moved e⟩, h7.1.moved e, h7.2⟩
def SC (G : GG) (U : State) (H : Heap) : Prop :=
  (∀ i : Nat, i < nST → va_O "java/lang/String" (G.2.2.1 i) (gA G) U H ∧ va_OF "java/lang/String" "coder" "B" (.int 0) (G.2.2.1 i) (gA G) U H ∧ va_OF "java/lang/String" "value" "[B" (.ref (G.2.2.2.1 i)) (G.2.2.1 i) (gA G) U H ∧ va_T .byte (G.2.2.2.1 i) (bytST i).length (fun j => .int ((bytST i).getD j 0)) (gA G) U H)
  ∧ (∀ q ∈ strTab, vk_R q.1 q.2.1 q.2.2.1 (G.2.2.1 q.2.2.2) U)
  ∧ (∀ q ∈ nestTab, va_Nw (.methodLinkNest q.1 q.2.1 q.2.2 "HutLedger") U)
  ∧ (va_AO RX1 U ∧ va_AO RX3 U ∧ SX G U H)
  ∧ (vx_Zq Bundle.tN "UNASSIGNED_STACK" Bundle.steD (gA G) U H ∧ vx_Zq Bundle.tN "SUPPRESSED_SENTINEL" Bundle.listD (gA G) U H)
  ∧ (va_Z "java/lang/String" "COMPACT_STRINGS" "Z" (.int 1) (gA G) U H ∧ va_Zq "jdk/internal/util/Preconditions" "SIOOBE_FORMATTER" "Ljava/util/function/BiFunction;" (gA G) U H)
  ∧ ((∀ w ∈ extraW, w.before #[] U = true) ∧ ∀ q ∈ excTab, ∀ r ∈ excTab, q ≠ r → va_Nc q r U)
theorem SC.warm {G : GG} {s U : State} {H H1 : Heap} (h : SC G s H) (hW : s.WarmedH U.vm) (ho : ∀ q : Nat, q < H.size → ¬ gA G q → H1[q]? = H[q]?) : SC G U H1 := by
  obtain ⟨h1, h2, h3, h4, h5, h6, h7⟩ := h
  have hv := hW.alike
  exact ⟨fun i hi => ⟨((h1 i hi).1.moved hv).kept ho, ((h1 i hi).2.1.moved hv).kept ho, ((h1 i hi).2.2.1.moved hv).kept ho, ((h1 i hi).2.2.2.moved hv).kept ho⟩,
    fun q hq => (h2 q hq).warm hW, fun q hq => va_Nw.warmM hW (h3 q hq), ⟨h4.1.moved hv, h4.2.1.moved hv, h4.2.2.warm hW ho⟩, ⟨(h5.1.moved hv).kept ho, (h5.2.moved hv).kept ho⟩, ⟨(h6.1.moved hv).kept ho, (h6.2.moved hv).kept ho⟩, ⟨fun w hw => face_warm (extra_on w hw) hW (h7.1 w hw), fun q hq r hr e => nc_warm hv (h7.2 q hq r hr e)⟩⟩
theorem SC.same {G : GG} {u U : State} {H : Heap} (h : SC G u H) (hv : u.vm = U.vm) : SC G U H := by
  have e : u.vm.Alike U.vm := hv ▸ Vm.Alike.refl u.vm
  obtain ⟨h1, h2, h3, h4, h5, h6, h7⟩ := h
  exact ⟨fun i hi => ⟨(h1 i hi).1.moved e, (h1 i hi).2.1.moved e, (h1 i hi).2.2.1.moved e, (h1 i hi).2.2.2.moved e⟩,
    fun q hq => (h2 q hq).same hv.symm, fun q hq => va_Nw.same rfl hv (h3 q hq), ⟨h4.1.moved e, h4.2.1.moved e, h4.2.2.same hv⟩, ⟨h5.1.moved e, h5.2.moved e⟩, ⟨h6.1.moved e, h6.2.moved e⟩, ⟨fun w hw => va_tabs (extra_on w hw).1 hv (h7.1 w hw), fun q hq r hr e9 => nc_warm e (h7.2 q hq r hr e9)⟩⟩
/-- a method's body: its code, the words, the tables, its room -/
def CX (M : MC) (G : GG) (cc : ByteArray) (nL : Nat) (own : String) (rm : Room) : Prop :=
  CallFix M.1 (mI M) (mC M) cc nL (mS M) (mA M) TBL own ∧ va_K G.1.1 vwCl (tysG G) (mS M) ∧ G.2.1 ≤ (mS M).heap.size ∧ (mM M).locks = false ∧ SC G (mS M) (mS M).heap ∧ M.2.2.2.1 = rm
section Rows
variable {M : MC} {G : GG} {cc : ByteArray} {nL : Nat} {own : String} {rm : Room} {Q : State → Prop} {kc ks : Nat} {g : AH} {pc : Nat} {L : List (Nat × Value)} {st : List Value}
theorem CX.w (X : CX M G cc nL own rm) {w : Cond} (h : w ∈ TBL) : w.before (mA M) (mS M) = true := X.1.2.2.2.2 w h
theorem CX.sx (X : CX M G cc nL own rm) : SX G (mS M) (mS M).heap := X.2.2.2.2.1.2.2.2.1.2.2
theorem sf_of {s : State} {args : Array Value} {R0 O n d : String} (w : (Cond.sameField R0 O n d).before args s = true) {x : ClassId × Class × Nat × Field} (hx : s.fieldFound? O n d = some x) : s.fieldFound? R0 n d = some x := by
  cases hr : s.fieldFound? R0 n d with
  | none => simp [Cond.before, Cond.holds, Cond.value, hr] at w
  | some y =>
    obtain ⟨c1, k1, i1, f1⟩ := y
    rw [Cond.sameField_spec hr w] at hx
    exact hx
theorem CX.ff (X : CX M G cc nL own rm) {R0 O n d : String} (h : R0 = O ∨ Cond.sameField R0 O n d ∈ TBL) {x : ClassId × Class × Nat × Field} (hx : (mS M).fieldFound? O n d = some x) : (mS M).fieldFound? R0 n d = some x := by
  rcases h with rfl | h
  · exact hx
  · exact sf_of (X.w h) hx
theorem lk {ls : Array Slot} {L : List (Nat × Value)} {i : Nat} {v : Value} (h : lv_has ls nL L) (hk : L.lookup i = some v) : ls[i]? = some (.val v) := by
  refine h.2.2 (i, v) ?_
  clear h
  induction L with
  | nil => cases hk
  | cons q L ih =>
    obtain ⟨j, w⟩ := q
    rw [List.lookup_cons] at hk
    by_cases hij : i = j
    · subst hij
      simp at hk
      subst hk
      exact List.mem_cons_self
    · have : (i == j) = false := by simp [hij]
      rw [this] at hk
      exact List.mem_cons_of_mem _ (ih hk)
theorem r_iconst (X : CX M G cc nL own rm) {n : Int} {v : Int32} (d : decode cc pc = .ok (.iconst n, 1)) (hv : Int32.ofInt n = v) (k : WW M G nL Q kc ks g (pc + 1) L (.int v :: st)) : WW M G nL Q kc ks g pc L st := fun hk1 hk2 H locs ls hP hS hl => lv_iconst X.1.1 X.1.2.1 d hv (k hk1 hk2 H locs ls hP hS hl)
theorem r_bipush (X : CX M G cc nL own rm) {n : Int} {v : Int32} (d : decode cc pc = .ok (.bipush n, 2)) (hv : (Int8.ofInt n).toInt32 = v) (k : WW M G nL Q kc ks g (pc + 2) L (.int v :: st)) : WW M G nL Q kc ks g pc L st := fun hk1 hk2 H locs ls hP hS hl => lv_bipush X.1.1 X.1.2.1 d hv (k hk1 hk2 H locs ls hP hS hl)
theorem r_sipush (X : CX M G cc nL own rm) {n : Int} {v : Int32} (d : decode cc pc = .ok (.sipush n, 3)) (hv : (Int16.ofInt n).toInt32 = v) (k : WW M G nL Q kc ks g (pc + 3) L (.int v :: st)) : WW M G nL Q kc ks g pc L st := fun hk1 hk2 H locs ls hP hS hl => lv_sipush X.1.1 X.1.2.1 d hv (k hk1 hk2 H locs ls hP hS hl)
theorem r_ldcI (X : CX M G cc nL own rm) {i : Nat} {v : Int32} (d : decode cc pc = .ok (.ldc i, 2)) (hw : Cond.constant own i v ∈ TBL) (k : WW M G nL Q kc ks g (pc + 2) L (.int v :: st)) : WW M G nL Q kc ks g pc L st := fun hk1 hk2 H locs ls hP hS hl => lv_ldc X.1.1 X.1.2.1 X.1.2.2.2.1 (X.w hw) d (k hk1 hk2 H locs ls hP hS hl)
theorem r_ldcS (X : CX M G cc nL own rm) {i j : Nat} {tx : String} (d : decode cc pc = .ok (.ldc i, 2)) (hw : (own, i, tx, j) ∈ strTab) (k : WW M G nL Q kc ks g (pc + 2) L (.ref (G.2.2.1 j) :: st)) : WW M G nL Q kc ks g pc L st := fun hk1 hk2 H locs ls hP hS hl => va_ldcS X.1.1 X.1.2.1 X.1.2.2.2.1 (X.2.2.2.2.1.2.1 _ hw) d (k hk1 hk2 H locs ls hP hS hl)
theorem r_iload (X : CX M G cc nL own rm) {i : Nat} {x : Int32} (d : decode cc pc = .ok (.iload i, 2)) (h : L.lookup i = some (.int x)) (k : WW M G nL Q kc ks g (pc + 2) L (.int x :: st)) : WW M G nL Q kc ks g pc L st := fun hk1 hk2 H locs ls hP hS hl => lv_iload X.1.1 X.1.2.1 d (lk hl h) (k hk1 hk2 H locs ls hP hS hl)
theorem r_iload_n (X : CX M G cc nL own rm) {j : Fin 4} (i : Nat) {x : Int32} (d : decode cc pc = .ok (.iload_n j, 1)) (hi : (j : Nat) = i) (h : L.lookup i = some (.int x)) (k : WW M G nL Q kc ks g (pc + 1) L (.int x :: st)) : WW M G nL Q kc ks g pc L st := fun hk1 hk2 H locs ls hP hS hl => lv_iload_n X.1.1 X.1.2.1 d hi (lk hl h) (k hk1 hk2 H locs ls hP hS hl)
theorem r_aload (X : CX M G cc nL own rm) {i : Nat} {x : Nat} (d : decode cc pc = .ok (.aload i, 2)) (h : L.lookup i = some (.ref x)) (k : WW M G nL Q kc ks g (pc + 2) L (.ref x :: st)) : WW M G nL Q kc ks g pc L st := fun hk1 hk2 H locs ls hP hS hl => lv_aload X.1.1 X.1.2.1 d (lk hl h) (k hk1 hk2 H locs ls hP hS hl)
theorem r_aload_n (X : CX M G cc nL own rm) {j : Fin 4} (i : Nat) {x : Nat} (d : decode cc pc = .ok (.aload_n j, 1)) (hi : (j : Nat) = i) (h : L.lookup i = some (.ref x)) (k : WW M G nL Q kc ks g (pc + 1) L (.ref x :: st)) : WW M G nL Q kc ks g pc L st := fun hk1 hk2 H locs ls hP hS hl => lv_aload_n X.1.1 X.1.2.1 d hi (lk hl h) (k hk1 hk2 H locs ls hP hS hl)
theorem r_dload (X : CX M G cc nL own rm) {i : Nat} {x : UInt64} (d : decode cc pc = .ok (.dload i, 2)) (h : L.lookup i = some (.double x)) (k : WW M G nL Q kc ks g (pc + 2) L (.double x :: st)) : WW M G nL Q kc ks g pc L st := fun hk1 hk2 H locs ls hP hS hl => lv_dload X.1.1 X.1.2.1 d (lk hl h) (k hk1 hk2 H locs ls hP hS hl)
abbrev lset1 (L : List (Nat × Value)) (i : Nat) (v : Value) : List (Nat × Value) := (i, v) :: L.filter (fun q => !(q.1 == i) && !(q.1 + 1 == i && q.2.category == 2))
abbrev lset2 (L : List (Nat × Value)) (i : Nat) (v : Value) : List (Nat × Value) := (i, v) :: L.filter (fun q => !(q.1 == i) && (!(q.1 == i + 1) && !(q.1 + 1 == i && q.2.category == 2)))
theorem r_istore (X : CX M G cc nL own rm) {i : Nat} {x : Int32} {L1 : List (Nat × Value)} (d : decode cc pc = .ok (.istore i, 2)) (hn : i < nL) (hl1 : lset1 L i (.int x) = L1) (k : WW M G nL Q kc ks g (pc + 2) L1 st) : WW M G nL Q kc ks g pc L (.int x :: st) := fun hk1 hk2 H locs ls hP hS hl => lv_istore X.1.1 X.1.2.1 d hl hn hl1 (fun ls' hl' => k hk1 hk2 H locs ls' hP hS hl')
theorem r_istore_n (X : CX M G cc nL own rm) {j : Fin 4} (i : Nat) {x : Int32} {L1 : List (Nat × Value)} (d : decode cc pc = .ok (.istore_n j, 1)) (hi : (j : Nat) = i) (hn : i < nL) (hl1 : lset1 L i (.int x) = L1) (k : WW M G nL Q kc ks g (pc + 1) L1 st) : WW M G nL Q kc ks g pc L (.int x :: st) := fun hk1 hk2 H locs ls hP hS hl => lv_istore_n X.1.1 X.1.2.1 d hi hl hn hl1 (fun ls' hl' => k hk1 hk2 H locs ls' hP hS hl')
theorem r_astore (X : CX M G cc nL own rm) {i : Nat} {x : Nat} {L1 : List (Nat × Value)} (d : decode cc pc = .ok (.astore i, 2)) (hn : i < nL) (hl1 : lset1 L i (.ref x) = L1) (k : WW M G nL Q kc ks g (pc + 2) L1 st) : WW M G nL Q kc ks g pc L (.ref x :: st) := fun hk1 hk2 H locs ls hP hS hl => lv_astore X.1.1 X.1.2.1 d hl hn hl1 (fun ls' hl' => k hk1 hk2 H locs ls' hP hS hl')
theorem r_astore_n (X : CX M G cc nL own rm) {j : Fin 4} (i : Nat) {x : Nat} {L1 : List (Nat × Value)} (d : decode cc pc = .ok (.astore_n j, 1)) (hi : (j : Nat) = i) (hn : i < nL) (hl1 : lset1 L i (.ref x) = L1) (k : WW M G nL Q kc ks g (pc + 1) L1 st) : WW M G nL Q kc ks g pc L (.ref x :: st) := fun hk1 hk2 H locs ls hP hS hl => lv_astore_n X.1.1 X.1.2.1 d hi hl hn hl1 (fun ls' hl' => k hk1 hk2 H locs ls' hP hS hl')
theorem r_dstore (X : CX M G cc nL own rm) {i : Nat} {x : UInt64} {L1 : List (Nat × Value)} (d : decode cc pc = .ok (.dstore i, 2)) (hn : i + 1 < nL) (hl1 : lset2 L i (.double x) = L1) (k : WW M G nL Q kc ks g (pc + 2) L1 st) : WW M G nL Q kc ks g pc L (.double x :: st) := fun hk1 hk2 H locs ls hP hS hl => lv_dstore X.1.1 X.1.2.1 d hl hn hl1 (fun ls' hl' => k hk1 hk2 H locs ls' hP hS hl')
theorem lk_at {L : List (Nat × Value)} {i : Nat} {v : Value} (hk : L.lookup i = some v) : ∃ k : Nat, L[k]? = some (i, v) := by
  induction L with
  | nil => cases hk
  | cons q L ih =>
    obtain ⟨j, w⟩ := q
    rw [List.lookup_cons] at hk
    by_cases hij : i = j
    · subst hij
      simp at hk
      subst hk
      exact ⟨0, rfl⟩
    · have : (i == j) = false := by simp [hij]
      rw [this] at hk
      obtain ⟨k, hk⟩ := ih hk
      exact ⟨k + 1, hk⟩
theorem r_iinc (X : CX M G cc nL own rm) {i : Nat} {n : Int} {x v : Int32} {L1 : List (Nat × Value)} (d : decode cc pc = .ok (.iinc i n, 3)) (h : L.lookup i = some (.int x)) (hv : x + Int32.ofInt n = v) (hn : i < nL) (hl1 : lset1 L i (.int v) = L1) (k : WW M G nL Q kc ks g (pc + 3) L1 st) : WW M G nL Q kc ks g pc L st := fun hk1 hk2 H locs ls hP hS hl => by
  obtain ⟨q, hq⟩ := lk_at h
  exact lv_iinc X.1.1 X.1.2.1 d hl hq hv hn hl1 (fun ls' hl' => k hk1 hk2 H locs ls' hP hS hl')
/-- fewer locals -/
theorem r_sub {L1 : List (Nat × Value)} (h : ∀ q ∈ L1, q ∈ L) (k : WW M G nL Q kc ks g pc L1 st) : WW M G nL Q kc ks g pc L st := fun hk1 hk2 H locs ls hP hS hl => k hk1 hk2 H locs ls hP hS ⟨hl.1, hl.2.1, fun q hq => hl.2.2 q (h q hq)⟩
theorem r_widen (X : CX M G cc nL own rm) {kc' ks' : Nat} (h1 : kc ≤ kc' ∧ kc' ≤ rm.cells) (h2 : ks ≤ ks' ∧ ks' ≤ rm.slots) (k : WW M G nL Q kc' ks' g pc L st) : WW M G nL Q kc ks g pc L st := fun hk1 hk2 H locs ls hP hS hl => W.widen h1.1 h2.1 (k (by rw [X.2.2.2.2.2]; exact h1.2) (by rw [X.2.2.2.2.2]; exact h2.2) H locs ls hP hS hl)
abbrev lpick (l : List (Nat × Value)) (ks : List Nat) : List (Nat × Value) := lv_pick l ks
theorem r_pick {L1 : List (Nat × Value)} {is : List Nat} (h : lpick L is = L1) (k : WW M G nL Q kc ks g pc L1 st) : WW M G nL Q kc ks g pc L st := fun hk1 hk2 H locs ls hP hS hl => k hk1 hk2 H locs ls hP hS (lv_sub hl is h)
theorem r_iadd (X : CX M G cc nL own rm) {x y : Int32} (d : decode cc pc = .ok (.iadd, 1)) (k : WW M G nL Q kc ks g (pc + 1) L (.int (x + y) :: st)) : WW M G nL Q kc ks g pc L (.int y :: .int x :: st) := fun hk1 hk2 H locs ls hP hS hl => lv_iadd X.1.1 X.1.2.1 d (k hk1 hk2 H locs ls hP hS hl)
theorem r_isub (X : CX M G cc nL own rm) {x y : Int32} (d : decode cc pc = .ok (.isub, 1)) (k : WW M G nL Q kc ks g (pc + 1) L (.int (x - y) :: st)) : WW M G nL Q kc ks g pc L (.int y :: .int x :: st) := fun hk1 hk2 H locs ls hP hS hl => lv_isub X.1.1 X.1.2.1 d (k hk1 hk2 H locs ls hP hS hl)
theorem r_imul (X : CX M G cc nL own rm) {x y : Int32} (d : decode cc pc = .ok (.imul, 1)) (k : WW M G nL Q kc ks g (pc + 1) L (.int (x * y) :: st)) : WW M G nL Q kc ks g pc L (.int y :: .int x :: st) := fun hk1 hk2 H locs ls hP hS hl => lv_imul X.1.1 X.1.2.1 d (k hk1 hk2 H locs ls hP hS hl)
theorem r_idiv (X : CX M G cc nL own rm) {x y : Int32} (d : decode cc pc = .ok (.idiv, 1)) (h : ¬ y = 0) (k : WW M G nL Q kc ks g (pc + 1) L (.int (x / y) :: st)) : WW M G nL Q kc ks g pc L (.int y :: .int x :: st) := fun hk1 hk2 H locs ls hP hS hl => lv_idiv X.1.1 X.1.2.1 d h (k hk1 hk2 H locs ls hP hS hl)
theorem r_irem (X : CX M G cc nL own rm) {x y : Int32} (d : decode cc pc = .ok (.irem, 1)) (h : ¬ y = 0) (k : WW M G nL Q kc ks g (pc + 1) L (.int (x - x / y * y) :: st)) : WW M G nL Q kc ks g pc L (.int y :: .int x :: st) := fun hk1 hk2 H locs ls hP hS hl => lv_irem X.1.1 X.1.2.1 d h (k hk1 hk2 H locs ls hP hS hl)
theorem r_ineg (X : CX M G cc nL own rm) {x : Int32} (d : decode cc pc = .ok (.ineg, 1)) (k : WW M G nL Q kc ks g (pc + 1) L (.int (-x) :: st)) : WW M G nL Q kc ks g pc L (.int x :: st) := fun hk1 hk2 H locs ls hP hS hl => lv_ineg X.1.1 X.1.2.1 d (k hk1 hk2 H locs ls hP hS hl)
theorem r_iand (X : CX M G cc nL own rm) {x y : Int32} (d : decode cc pc = .ok (.iand, 1)) (k : WW M G nL Q kc ks g (pc + 1) L (.int (x &&& y) :: st)) : WW M G nL Q kc ks g pc L (.int y :: .int x :: st) := fun hk1 hk2 H locs ls hP hS hl => lv_iand X.1.1 X.1.2.1 d (k hk1 hk2 H locs ls hP hS hl)
theorem r_ishr (X : CX M G cc nL own rm) {x y : Int32} (d : decode cc pc = .ok (.ishr, 1)) (k : WW M G nL Q kc ks g (pc + 1) L (.int (x >>> (y &&& 31)) :: st)) : WW M G nL Q kc ks g pc L (.int y :: .int x :: st) := fun hk1 hk2 H locs ls hP hS hl => lv_ishr X.1.1 X.1.2.1 d (k hk1 hk2 H locs ls hP hS hl)
abbrev ushr (x y : Int32) : Int32 := (x.toUInt32 >>> (y.toUInt32 &&& Int32.toUInt32 31)).toInt32
theorem r_iushr (X : CX M G cc nL own rm) {x y : Int32} (d : decode cc pc = .ok (.iushr, 1)) (k : WW M G nL Q kc ks g (pc + 1) L (.int (ushr x y) :: st)) : WW M G nL Q kc ks g pc L (.int y :: .int x :: st) := fun hk1 hk2 H locs ls hP hS hl => lv_iushr X.1.1 X.1.2.1 d rfl (k hk1 hk2 H locs ls hP hS hl)
theorem r_i2b (X : CX M G cc nL own rm) {x : Int32} (d : decode cc pc = .ok (.i2b, 1)) (k : WW M G nL Q kc ks g (pc + 1) L (.int (x.toInt8.toInt32) :: st)) : WW M G nL Q kc ks g pc L (.int x :: st) := fun hk1 hk2 H locs ls hP hS hl => lv_i2b X.1.1 X.1.2.1 d rfl (k hk1 hk2 H locs ls hP hS hl)
theorem r_i2l (X : CX M G cc nL own rm) {x : Int32} (d : decode cc pc = .ok (.i2l, 1)) (k : WW M G nL Q kc ks g (pc + 1) L (.long (x.toInt64) :: st)) : WW M G nL Q kc ks g pc L (.int x :: st) := fun hk1 hk2 H locs ls hP hS hl => lv_i2l X.1.1 X.1.2.1 d rfl (k hk1 hk2 H locs ls hP hS hl)
theorem r_i2f (X : CX M G cc nL own rm) {x : Int32} (d : decode cc pc = .ok (.i2f, 1)) (k : WW M G nL Q kc ks g (pc + 1) L (.float (FP.i2f x) :: st)) : WW M G nL Q kc ks g pc L (.int x :: st) := fun hk1 hk2 H locs ls hP hS hl => lv_i2f X.1.1 X.1.2.1 d (k hk1 hk2 H locs ls hP hS hl)
theorem r_i2d (X : CX M G cc nL own rm) {x : Int32} (d : decode cc pc = .ok (.i2d, 1)) (k : WW M G nL Q kc ks g (pc + 1) L (.double (FP.i2d x) :: st)) : WW M G nL Q kc ks g pc L (.int x :: st) := fun hk1 hk2 H locs ls hP hS hl => lv_i2d X.1.1 X.1.2.1 d (k hk1 hk2 H locs ls hP hS hl)
theorem r_fdiv (X : CX M G cc nL own rm) {x y : UInt32} (d : decode cc pc = .ok (.fdiv, 1)) (h : vf_n32 (FP.fdiv x y)) (k : WW M G nL Q kc ks g (pc + 1) L (.float (FP.fdiv x y) :: st)) : WW M G nL Q kc ks g pc L (.float y :: .float x :: st) := fun hk1 hk2 H locs ls hP hS hl => lv_fdiv X.1.1 X.1.2.1 d h (k hk1 hk2 H locs ls hP hS hl)
theorem r_ddiv (X : CX M G cc nL own rm) {x y : UInt64} (d : decode cc pc = .ok (.ddiv, 1)) (h : vf_n64 (FP.ddiv x y)) (k : WW M G nL Q kc ks g (pc + 1) L (.double (FP.ddiv x y) :: st)) : WW M G nL Q kc ks g pc L (.double y :: .double x :: st) := fun hk1 hk2 H locs ls hP hS hl => lv_ddiv X.1.1 X.1.2.1 d h (k hk1 hk2 H locs ls hP hS hl)
theorem r_f2d (X : CX M G cc nL own rm) {x : UInt32} (d : decode cc pc = .ok (.f2d, 1)) (h : vf_n64 (FP.f2d x)) (k : WW M G nL Q kc ks g (pc + 1) L (.double (FP.f2d x) :: st)) : WW M G nL Q kc ks g pc L (.float x :: st) := fun hk1 hk2 H locs ls hP hS hl => lv_f2d X.1.1 X.1.2.1 d h (k hk1 hk2 H locs ls hP hS hl)
theorem r_dcmp (X : CX M G cc nL own rm) {x y : UInt64} {op : CmpOp} (d : decode cc pc = .ok (.dcmp op, 1)) (k : WW M G nL Q kc ks g (pc + 1) L (.int (Op.cmpValue (FP.dcmp x y) op) :: st)) : WW M G nL Q kc ks g pc L (.double y :: .double x :: st) := fun hk1 hk2 H locs ls hP hS hl => lv_dcmp X.1.1 X.1.2.1 d (k hk1 hk2 H locs ls hP hS hl)
theorem r_lcmp (X : CX M G cc nL own rm) {x y : Int64} (d : decode cc pc = .ok (.lcmp, 1)) (k : WW M G nL Q kc ks g (pc + 1) L (.int (lg_cmp x y) :: st)) : WW M G nL Q kc ks g pc L (.long y :: .long x :: st) := fun hk1 hk2 H locs ls hP hS hl => W.lcmp X.1.1 X.1.2.1 d (k hk1 hk2 H locs ls hP hS hl)
theorem r_fconst0 (X : CX M G cc nL own rm) (d : decode cc pc = .ok (.fconst 0, 1)) (k : WW M G nL Q kc ks g (pc + 1) L (.float FP.fconst0 :: st)) : WW M G nL Q kc ks g pc L st := fun hk1 hk2 H locs ls hP hS hl => lv_fconst0 X.1.1 X.1.2.1 d (k hk1 hk2 H locs ls hP hS hl)
theorem r_dconst0 (X : CX M G cc nL own rm) (d : decode cc pc = .ok (.dconst 0, 1)) (k : WW M G nL Q kc ks g (pc + 1) L (.double FP.dconst0 :: st)) : WW M G nL Q kc ks g pc L st := fun hk1 hk2 H locs ls hP hS hl => lv_dconst0 X.1.1 X.1.2.1 d (k hk1 hk2 H locs ls hP hS hl)
theorem r_dup (X : CX M G cc nL own rm) {v : Value} (d : decode cc pc = .ok (.dup, 1)) (h : v.category = 1) (k : WW M G nL Q kc ks g (pc + 1) L (v :: v :: st)) : WW M G nL Q kc ks g pc L (v :: st) := fun hk1 hk2 H locs ls hP hS hl => lv_dup X.1.1 X.1.2.1 d h (k hk1 hk2 H locs ls hP hS hl)
theorem r_dup2 (X : CX M G cc nL own rm) {v w : Value} (d : decode cc pc = .ok (.dup2, 1)) (h : v.category = 1) (h2 : w.category = 1) (k : WW M G nL Q kc ks g (pc + 1) L (v :: w :: v :: w :: st)) : WW M G nL Q kc ks g pc L (v :: w :: st) := fun hk1 hk2 H locs ls hP hS hl => lv_dup2_11 X.1.1 X.1.2.1 d h h2 (k hk1 hk2 H locs ls hP hS hl)
theorem r_pop (X : CX M G cc nL own rm) {v : Value} (d : decode cc pc = .ok (.pop, 1)) (h : v.category = 1) (k : WW M G nL Q kc ks g (pc + 1) L st) : WW M G nL Q kc ks g pc L (v :: st) := fun hk1 hk2 H locs ls hP hS hl => lv_pop X.1.1 X.1.2.1 d h (k hk1 hk2 H locs ls hP hS hl)
theorem r_goto (X : CX M G cc nL own rm) {off : Int} (tgt : Nat) (d : decode cc pc = .ok (.goto off, 3)) (ht : (pc : Int) + off = (tgt : Int)) (k : WW M G nL Q kc ks g tgt L st) : WW M G nL Q kc ks g pc L st := fun hk1 hk2 H locs ls hP hS hl => lv_goto X.1.1 X.1.2.1 d ht (k hk1 hk2 H locs ls hP hS hl)
theorem r_if_eq (X : CX M G cc nL own rm) {x : Int32} {off : Int} (tgt : Nat) (d : decode cc pc = .ok (.ifCond .eq off, 3)) (ht : (pc : Int) + off = (tgt : Int)) (kt : x = 0 → WW M G nL Q kc ks g tgt L st) (kf : ¬ x = 0 → WW M G nL Q kc ks g (pc + 3) L st) : WW M G nL Q kc ks g pc L (.int x :: st) := fun hk1 hk2 H locs ls hP hS hl => lv_if_eq X.1.1 X.1.2.1 d ht (fun c => kt c hk1 hk2 H locs ls hP hS hl) (fun c => kf c hk1 hk2 H locs ls hP hS hl)
theorem r_if_ne (X : CX M G cc nL own rm) {x : Int32} {off : Int} (tgt : Nat) (d : decode cc pc = .ok (.ifCond .ne off, 3)) (ht : (pc : Int) + off = (tgt : Int)) (kt : ¬ x = 0 → WW M G nL Q kc ks g tgt L st) (kf : x = 0 → WW M G nL Q kc ks g (pc + 3) L st) : WW M G nL Q kc ks g pc L (.int x :: st) := fun hk1 hk2 H locs ls hP hS hl => lv_if_ne X.1.1 X.1.2.1 d ht (fun c => kt (by exact c) hk1 hk2 H locs ls hP hS hl) (fun c => kf (by first | exact c | exact Decidable.not_not.mp c) hk1 hk2 H locs ls hP hS hl)
theorem r_if_lt (X : CX M G cc nL own rm) {x : Int32} {off : Int} (tgt : Nat) (d : decode cc pc = .ok (.ifCond .lt off, 3)) (ht : (pc : Int) + off = (tgt : Int)) (kt : x < 0 → WW M G nL Q kc ks g tgt L st) (kf : ¬ x < 0 → WW M G nL Q kc ks g (pc + 3) L st) : WW M G nL Q kc ks g pc L (.int x :: st) := fun hk1 hk2 H locs ls hP hS hl => lv_if_lt X.1.1 X.1.2.1 d ht (fun c => kt c hk1 hk2 H locs ls hP hS hl) (fun c => kf c hk1 hk2 H locs ls hP hS hl)
theorem r_if_ge (X : CX M G cc nL own rm) {x : Int32} {off : Int} (tgt : Nat) (d : decode cc pc = .ok (.ifCond .ge off, 3)) (ht : (pc : Int) + off = (tgt : Int)) (kt : 0 ≤ x → WW M G nL Q kc ks g tgt L st) (kf : ¬ 0 ≤ x → WW M G nL Q kc ks g (pc + 3) L st) : WW M G nL Q kc ks g pc L (.int x :: st) := fun hk1 hk2 H locs ls hP hS hl => lv_if_ge X.1.1 X.1.2.1 d ht (fun c => kt c hk1 hk2 H locs ls hP hS hl) (fun c => kf c hk1 hk2 H locs ls hP hS hl)
theorem r_if_gt (X : CX M G cc nL own rm) {x : Int32} {off : Int} (tgt : Nat) (d : decode cc pc = .ok (.ifCond .gt off, 3)) (ht : (pc : Int) + off = (tgt : Int)) (kt : 0 < x → WW M G nL Q kc ks g tgt L st) (kf : ¬ 0 < x → WW M G nL Q kc ks g (pc + 3) L st) : WW M G nL Q kc ks g pc L (.int x :: st) := fun hk1 hk2 H locs ls hP hS hl => lv_if_gt X.1.1 X.1.2.1 d ht (fun c => kt c hk1 hk2 H locs ls hP hS hl) (fun c => kf c hk1 hk2 H locs ls hP hS hl)
theorem r_if_le (X : CX M G cc nL own rm) {x : Int32} {off : Int} (tgt : Nat) (d : decode cc pc = .ok (.ifCond .le off, 3)) (ht : (pc : Int) + off = (tgt : Int)) (kt : x ≤ 0 → WW M G nL Q kc ks g tgt L st) (kf : ¬ x ≤ 0 → WW M G nL Q kc ks g (pc + 3) L st) : WW M G nL Q kc ks g pc L (.int x :: st) := fun hk1 hk2 H locs ls hP hS hl => lv_if_le X.1.1 X.1.2.1 d ht (fun c => kt c hk1 hk2 H locs ls hP hS hl) (fun c => kf c hk1 hk2 H locs ls hP hS hl)
theorem r_icmp_eq (X : CX M G cc nL own rm) {x y : Int32} {off : Int} (tgt : Nat) (d : decode cc pc = .ok (.if_icmp .eq off, 3)) (ht : (pc : Int) + off = (tgt : Int)) (kt : x = y → WW M G nL Q kc ks g tgt L st) (kf : ¬ x = y → WW M G nL Q kc ks g (pc + 3) L st) : WW M G nL Q kc ks g pc L (.int y :: .int x :: st) := fun hk1 hk2 H locs ls hP hS hl => lv_icmp_eq X.1.1 X.1.2.1 d ht (fun c => kt c hk1 hk2 H locs ls hP hS hl) (fun c => kf c hk1 hk2 H locs ls hP hS hl)
theorem r_icmp_ne (X : CX M G cc nL own rm) {x y : Int32} {off : Int} (tgt : Nat) (d : decode cc pc = .ok (.if_icmp .ne off, 3)) (ht : (pc : Int) + off = (tgt : Int)) (kt : ¬ x = y → WW M G nL Q kc ks g tgt L st) (kf : x = y → WW M G nL Q kc ks g (pc + 3) L st) : WW M G nL Q kc ks g pc L (.int y :: .int x :: st) := fun hk1 hk2 H locs ls hP hS hl => lv_icmp_ne X.1.1 X.1.2.1 d ht (fun c => kt c hk1 hk2 H locs ls hP hS hl) (fun c => kf (by first | exact c | exact Decidable.not_not.mp c) hk1 hk2 H locs ls hP hS hl)
theorem r_icmp_lt (X : CX M G cc nL own rm) {x y : Int32} {off : Int} (tgt : Nat) (d : decode cc pc = .ok (.if_icmp .lt off, 3)) (ht : (pc : Int) + off = (tgt : Int)) (kt : x < y → WW M G nL Q kc ks g tgt L st) (kf : ¬ x < y → WW M G nL Q kc ks g (pc + 3) L st) : WW M G nL Q kc ks g pc L (.int y :: .int x :: st) := fun hk1 hk2 H locs ls hP hS hl => lv_icmp_lt X.1.1 X.1.2.1 d ht (fun c => kt c hk1 hk2 H locs ls hP hS hl) (fun c => kf c hk1 hk2 H locs ls hP hS hl)
theorem r_icmp_ge (X : CX M G cc nL own rm) {x y : Int32} {off : Int} (tgt : Nat) (d : decode cc pc = .ok (.if_icmp .ge off, 3)) (ht : (pc : Int) + off = (tgt : Int)) (kt : y ≤ x → WW M G nL Q kc ks g tgt L st) (kf : ¬ y ≤ x → WW M G nL Q kc ks g (pc + 3) L st) : WW M G nL Q kc ks g pc L (.int y :: .int x :: st) := fun hk1 hk2 H locs ls hP hS hl => lv_icmp_ge X.1.1 X.1.2.1 d ht (fun c => kt c hk1 hk2 H locs ls hP hS hl) (fun c => kf c hk1 hk2 H locs ls hP hS hl)
theorem r_icmp_gt (X : CX M G cc nL own rm) {x y : Int32} {off : Int} (tgt : Nat) (d : decode cc pc = .ok (.if_icmp .gt off, 3)) (ht : (pc : Int) + off = (tgt : Int)) (kt : y < x → WW M G nL Q kc ks g tgt L st) (kf : ¬ y < x → WW M G nL Q kc ks g (pc + 3) L st) : WW M G nL Q kc ks g pc L (.int y :: .int x :: st) := fun hk1 hk2 H locs ls hP hS hl => lv_icmp_gt X.1.1 X.1.2.1 d ht (fun c => kt c hk1 hk2 H locs ls hP hS hl) (fun c => kf c hk1 hk2 H locs ls hP hS hl)
theorem r_icmp_le (X : CX M G cc nL own rm) {x y : Int32} {off : Int} (tgt : Nat) (d : decode cc pc = .ok (.if_icmp .le off, 3)) (ht : (pc : Int) + off = (tgt : Int)) (kt : x ≤ y → WW M G nL Q kc ks g tgt L st) (kf : ¬ x ≤ y → WW M G nL Q kc ks g (pc + 3) L st) : WW M G nL Q kc ks g pc L (.int y :: .int x :: st) := fun hk1 hk2 H locs ls hP hS hl => lv_icmp_le X.1.1 X.1.2.1 d ht (fun c => kt c hk1 hk2 H locs ls hP hS hl) (fun c => kf c hk1 hk2 H locs ls hP hS hl)
theorem r_ior (X : CX M G cc nL own rm) {x y : Int32} (d : decode cc pc = .ok (.ior, 1)) (k : WW M G nL Q kc ks g (pc + 1) L (.int (x ||| y) :: st)) : WW M G nL Q kc ks g pc L (.int y :: .int x :: st) := fun hk1 hk2 H locs ls hP hS hl => lv_ior X.1.1 X.1.2.1 d (k hk1 hk2 H locs ls hP hS hl)
theorem r_ixor (X : CX M G cc nL own rm) {x y : Int32} (d : decode cc pc = .ok (.ixor, 1)) (k : WW M G nL Q kc ks g (pc + 1) L (.int (x ^^^ y) :: st)) : WW M G nL Q kc ks g pc L (.int y :: .int x :: st) := fun hk1 hk2 H locs ls hP hS hl => lv_ixor X.1.1 X.1.2.1 d (k hk1 hk2 H locs ls hP hS hl)
theorem r_ishl (X : CX M G cc nL own rm) {x y : Int32} (d : decode cc pc = .ok (.ishl, 1)) (k : WW M G nL Q kc ks g (pc + 1) L (.int (x <<< (y &&& 31)) :: st)) : WW M G nL Q kc ks g pc L (.int y :: .int x :: st) := fun hk1 hk2 H locs ls hP hS hl => lv_ishl X.1.1 X.1.2.1 d (k hk1 hk2 H locs ls hP hS hl)
theorem r_fcmp (X : CX M G cc nL own rm) {x y : UInt32} {op : CmpOp} (d : decode cc pc = .ok (.fcmp op, 1)) (k : WW M G nL Q kc ks g (pc + 1) L (.int (Op.cmpValue (FP.fcmp x y) op) :: st)) : WW M G nL Q kc ks g pc L (.float y :: .float x :: st) := fun hk1 hk2 H locs ls hP hS hl => lv_fcmp X.1.1 X.1.2.1 d (k hk1 hk2 H locs ls hP hS hl)
theorem r_dup_x1 (X : CX M G cc nL own rm) {v w : Value} (d : decode cc pc = .ok (.dup_x1, 1)) (h : v.category = 1) (h2 : w.category = 1) (k : WW M G nL Q kc ks g (pc + 1) L (v :: w :: v :: st)) : WW M G nL Q kc ks g pc L (v :: w :: st) := fun hk1 hk2 H locs ls hP hS hl => lv_dup_x1 X.1.1 X.1.2.1 d h h2 (k hk1 hk2 H locs ls hP hS hl)
theorem r_dup_x2 (X : CX M G cc nL own rm) {v w z : Value} (d : decode cc pc = .ok (.dup_x2, 1)) (h : v.category = 1) (h2 : w.category = 1) (h3 : z.category = 1) (k : WW M G nL Q kc ks g (pc + 1) L (v :: w :: z :: v :: st)) : WW M G nL Q kc ks g pc L (v :: w :: z :: st) := fun hk1 hk2 H locs ls hP hS hl => lv_dup_x2 X.1.1 X.1.2.1 d h h2 h3 (k hk1 hk2 H locs ls hP hS hl)
theorem r_null (X : CX M G cc nL own rm) (d : decode cc pc = .ok (.aconst_null, 1)) (k : WW M G nL Q kc ks g (pc + 1) L (va_rf none :: st)) : WW M G nL Q kc ks g pc L st := fun hk1 hk2 H locs ls hP hS hl => lv_null X.1.1 X.1.2.1 d (k hk1 hk2 H locs ls hP hS hl)
theorem r_ifnull0 (X : CX M G cc nL own rm) {off : Int} (tgt : Nat) (d : decode cc pc = .ok (.ifnull off, 3)) (ht : (pc : Int) + off = (tgt : Int)) (k : WW M G nL Q kc ks g tgt L st) : WW M G nL Q kc ks g pc L (va_rf none :: st) := fun hk1 hk2 H locs ls hP hS hl => lv_ifnullN X.1.1 X.1.2.1 d ht (k hk1 hk2 H locs ls hP hS hl)
theorem r_ifnull1 (X : CX M G cc nL own rm) {off : Int} {x : Nat} (d : decode cc pc = .ok (.ifnull off, 3)) (k : WW M G nL Q kc ks g (pc + 3) L st) : WW M G nL Q kc ks g pc L (.ref x :: st) := fun hk1 hk2 H locs ls hP hS hl => lv_ifnull X.1.1 X.1.2.1 d (k hk1 hk2 H locs ls hP hS hl)
theorem r_ifnonnull0 (X : CX M G cc nL own rm) {off : Int} (d : decode cc pc = .ok (.ifnonnull off, 3)) (k : WW M G nL Q kc ks g (pc + 3) L st) : WW M G nL Q kc ks g pc L (va_rf none :: st) := fun hk1 hk2 H locs ls hP hS hl => lv_ifnonnullN X.1.1 X.1.2.1 d (k hk1 hk2 H locs ls hP hS hl)
theorem r_ifnonnull1 (X : CX M G cc nL own rm) {off : Int} {x : Nat} (tgt : Nat) (d : decode cc pc = .ok (.ifnonnull off, 3)) (ht : (pc : Int) + off = (tgt : Int)) (k : WW M G nL Q kc ks g tgt L st) : WW M G nL Q kc ks g pc L (.ref x :: st) := fun hk1 hk2 H locs ls hP hS hl => lv_ifnonnull X.1.1 X.1.2.1 d ht (k hk1 hk2 H locs ls hP hS hl)
theorem r_acmp_eq (X : CX M G cc nL own rm) {x y : Nat} {off : Int} (tgt : Nat) (d : decode cc pc = .ok (.if_acmp .eq off, 3)) (ht : (pc : Int) + off = (tgt : Int)) (kt : x = y → WW M G nL Q kc ks g tgt L st) (kf : ¬ x = y → WW M G nL Q kc ks g (pc + 3) L st) : WW M G nL Q kc ks g pc L (.ref y :: .ref x :: st) := fun hk1 hk2 H locs ls hP hS hl => lv_acmp_eq (rx := some x) (ry := some y) X.1.1 X.1.2.1 d ht (fun c => kt (Option.some.inj c) hk1 hk2 H locs ls hP hS hl) (fun c => kf (fun e => c (by rw [e])) hk1 hk2 H locs ls hP hS hl)
theorem r_acmp_ne (X : CX M G cc nL own rm) {x y : Nat} {off : Int} (tgt : Nat) (d : decode cc pc = .ok (.if_acmp .ne off, 3)) (ht : (pc : Int) + off = (tgt : Int)) (kt : ¬ x = y → WW M G nL Q kc ks g tgt L st) (kf : x = y → WW M G nL Q kc ks g (pc + 3) L st) : WW M G nL Q kc ks g pc L (.ref y :: .ref x :: st) := fun hk1 hk2 H locs ls hP hS hl => lv_acmp_ne (rx := some x) (ry := some y) X.1.1 X.1.2.1 d ht (fun c => kt (fun e => c (by rw [e])) hk1 hk2 H locs ls hP hS hl) (fun c => kf (Option.some.inj c) hk1 hk2 H locs ls hP hS hl)
end Rows
end
section
/-! rows that read and write the heap -/
section RowsH
variable {M : MC} {G : GG} {cc : ByteArray} {nL : Nat} {own : String} {rm : Room} {Q : State → Prop} {kc ks : Nat} {g : AH} {pc : Nat} {L : List (Nat × Value)} {st : List Value}
theorem isO_spec {ci : Nat} {g : AH} {a : Nat} (h : isO ci g a = some ()) : ∃ V : Nat → Value, g.1 a = some (.inl (ci, V)) := by
  unfold isO at h
  split at h
  · rename_i o ho
    by_cases hc : o.1 = ci
    · exact ⟨o.2, by rw [ho, ← hc]⟩
    · rw [if_neg hc] at h; cases h
  · cases h
theorem getI_spec {ci : Nat} {g : AH} {a k : Nat} {x : Int32} (h : getI ci g a k = some x) : ∃ V : Nat → Value, g.1 a = some (.inl (ci, V)) ∧ V k = .int x := by
  unfold getI at h
  split at h
  · rename_i o ho
    by_cases hc : o.1 = ci
    · rw [if_pos hc] at h
      split at h
      · rename_i y hy
        cases h
        exact ⟨o.2, by rw [ho, ← hc], hy⟩
      · cases h
    · rw [if_neg hc] at h; cases h
  · cases h
theorem getR_spec {ci : Nat} {g : AH} {a k : Nat} {x : Nat} (h : getR ci g a k = some x) : ∃ V : Nat → Value, g.1 a = some (.inl (ci, V)) ∧ V k = .ref x := by
  unfold getR at h
  split at h
  · rename_i o ho
    by_cases hc : o.1 = ci
    · rw [if_pos hc] at h
      split at h
      · rename_i y hy
        cases h
        exact ⟨o.2, by rw [ho, ← hc], hy⟩
      · cases h
    · rw [if_neg hc] at h; cases h
  · cases h
theorem putV_spec {ci : Nat} {g g1 : AH} {a k : Nat} {v : Value} (h : putV ci g a k v = some g1) : ∃ V : Nat → Value, g.1 a = some (.inl (ci, V)) ∧ g1 = hset g a (.inl (ci, updV V k v)) := by
  unfold putV at h
  split at h
  · rename_i o ho
    by_cases hc : o.1 = ci
    · rw [if_pos hc] at h
      cases h
      exact ⟨o.2, by rw [ho, ← hc], rfl⟩
    · rw [if_neg hc] at h; cases h
  · cases h
theorem get_V (X : CX M G cc nL own rm) {i ci k : Nat} {fin : Bool} {ty : FieldType} (d : decode cc pc = .ok (.getfield i, 3)) (f : FL own i ci k fin ty) {a : Nat} {V : Nat → Value} (ha : g.1 a = some (.inl (ci, V))) (kk : WW M G nL Q kc ks g (pc + 3) L (V k :: st)) : WW M G nL Q kc ks g pc L (.ref a :: st) := by
  intro hk1 hk2 H locs ls hP hS hl
  obtain ⟨hF, C, T, N, hc, hk, ⟨ref, hw, hsm⟩, -, -⟩ := f
  obtain ⟨hin, -, -⟩ := hF C T N hc
  obtain ⟨⟨r, h1, cell, q1, q2, q3, q4⟩, -⟩ := hP.1 a _ ha
  have hr : r = (C, T, N) := Option.some.inj (h1.symm.trans hc)
  subst hr
  obtain ⟨hSl, hfc, kC, hkC, hkind⟩ := X.2.1.1 ci _ hc
  obtain ⟨cf, kf, fi, f9, hi, hsl⟩ := hSl k hk
  refine W.getf X.1.1 X.1.2.1 X.1.2.2.2.1 (X.w hw) (X.ff hsm hi) (u_facts hfc hkC (u_lays X.1.2.2.2.2 hin hk) hi).1 q1 (by rw [q3]; exact fun h => by cases h) (v := V k) ?_ rfl rfl d (kk hk1 hk2 H locs ls hP hS hl)
  rw [hsl]
  exact q4 k hk
theorem r_getI (X : CX M G cc nL own rm) {i ci k : Nat} {fin : Bool} {ty : FieldType} {a : Nat} {x : Int32} (d : decode cc pc = .ok (.getfield i, 3)) (f : FL own i ci k fin ty) (h : getI ci g a k = some x) (kk : WW M G nL Q kc ks g (pc + 3) L (.int x :: st)) : WW M G nL Q kc ks g pc L (.ref a :: st) := by
  obtain ⟨V, ha, hv⟩ := getI_spec h
  exact get_V X d f ha (by rw [hv]; exact kk)
theorem r_getR (X : CX M G cc nL own rm) {i ci k : Nat} {fin : Bool} {ty : FieldType} {a : Nat} {x : Nat} (d : decode cc pc = .ok (.getfield i, 3)) (f : FL own i ci k fin ty) (h : getR ci g a k = some x) (kk : WW M G nL Q kc ks g (pc + 3) L (.ref x :: st)) : WW M G nL Q kc ks g pc L (.ref a :: st) := by
  obtain ⟨V, ha, hv⟩ := getR_spec h
  exact get_V X d f ha (by rw [hv]; exact kk)
theorem r_put (X : CX M G cc nL own rm) {i ci k : Nat} {ty : FieldType} {a : Nat} {v : Value} {g1 : AH} (d : decode cc pc = .ok (.putfield i, 3)) (f : FL own i ci k false ty) (hn : narrow ty v = v) (hfit : fits ty v = true) (h : putV ci g a k v = some g1) (kk : WW M G nL Q kc ks g1 (pc + 3) L st) : WW M G nL Q kc ks g pc L (v :: .ref a :: st) := by
  obtain ⟨V, ha, rfl⟩ := putV_spec h
  intro hk1 hk2 H locs ls hP hS hl
  obtain ⟨hF, C, T, N, hc, hk, ⟨ref, hw, hsm⟩, hfin, hd⟩ := f
  obtain ⟨hin, ⟨ty0, hty⟩, hnm⟩ := hF C T N hc
  have hap := va_apart (own := own) X.1.2.2.2.2 hin ty0 hty hnm X.2.1 hc
  obtain ⟨⟨r, h1, cell, q1, q2, q3, q4⟩, hBa⟩ := hP.1 a _ ha
  have hr : r = (C, T, N) := Option.some.inj (h1.symm.trans hc)
  subst hr
  obtain ⟨hSl, hfc, kC, hkC, hkind⟩ := X.2.1.1 ci _ hc
  obtain ⟨cf, kf, fi, f9, hi, hsl⟩ := hSl k hk
  have hlay := X.w (hin _ (u_in_lay hk))
  unfold u_lay at hlay
  rw [if_neg (by rw [hfin]; decide)] at hlay
  have hst := (u_facts hfc hkC (u_lays X.1.2.2.2.2 hin hk) hi).1
  have h6 := u_store hfc hkC hkind hlay hi hd hn hfit
  refine W.putK X.1.1 X.1.2.1 (f := f9) ⟨X.1.2.2.2.1, X.w hw, ⟨_, _, _, X.ff hsm hi⟩, hst⟩ (by rw [q2]; exact h6) q1 q3 (by rw [hsl]; exact k2_hasslot (q4 k hk)) rfl rfl d fun H' e1 e2 e3 => ?_
  rw [hsl] at e1 ⊢
  exact kk hk1 hk2 H' _ ls (hP.set hBa ⟨_, hc, ⟨_, e1, q2, q3, t_set q4 hap hk v⟩⟩ e2 e3) (hS.put e2 e3 hBa) hl
theorem r_putF (X : CX M G cc nL own rm) {i ci k : Nat} {ty : FieldType} {a : Nat} {v : Value} {g1 : AH} (d : decode cc pc = .ok (.putfield i, 3)) (f : FL own i ci k true ty) (hname : (mM M).name = "<init>") (hdecl : ∀ (C : String) (T : u_T) (N : Nat), vwCl[ci]? = some (C, T, N) → (T k).1 = own) (hn : narrow ty v = v) (hfit : fits ty v = true) (h : putV ci g a k v = some g1) (kk : WW M G nL Q kc ks g1 (pc + 3) L st) : WW M G nL Q kc ks g pc L (v :: .ref a :: st) := by
  obtain ⟨V, ha, rfl⟩ := putV_spec h
  intro hk1 hk2 H locs ls hP hS hl
  obtain ⟨hF, C, T, N, hc, hk, ⟨ref, hw, hsm⟩, hfin, hd⟩ := f
  obtain ⟨hin, ⟨ty0, hty⟩, hnm⟩ := hF C T N hc
  have hap := va_apart (own := own) X.1.2.2.2.2 hin ty0 hty hnm X.2.1 hc
  obtain ⟨⟨r, h1, cell, q1, q2, q3, q4⟩, hBa⟩ := hP.1 a _ ha
  have hr : r = (C, T, N) := Option.some.inj (h1.symm.trans hc)
  subst hr
  obtain ⟨hSl, hfc, kC, hkC, hkind⟩ := X.2.1.1 ci _ hc
  obtain ⟨cf, kf, fi, f9, hi, hsl⟩ := hSl k hk
  have hlay := X.w (hin _ (u_in_lay hk))
  unfold u_lay at hlay
  rw [if_pos hfin] at hlay
  have hst := (u_facts hfc hkC (u_lays X.1.2.2.2.2 hin hk) hi).1
  have hcf : (mI M).cls = cf := by
    obtain ⟨_, _, c', _, _, _, -, -, hf', -, -, -, hown2, -⟩ := Cond.laysFinal_spec hlay
    have e1 : c' = cf := by have := hi.symm.trans hf'; simp at this; exact this.1.symm
    rw [hdecl C T N hc] at hown2
    rw [← e1]; exact Option.some.inj (X.1.2.2.2.1.symm.trans hown2)
  have h6 := u_fits hfc hkC hkind (Or.inr hlay) hi hd hn hfit
  refine W.putFinK X.1.1 X.1.2.1 X.1.2.2.2.1 (X.w hw) (X.ff hsm hi) hst hcf hname (by rw [q2]; exact h6) q1 q3 (by rw [hsl]; exact k2_hasslot (q4 k hk)) rfl rfl d fun H' e1 e2 e3 => ?_
  rw [hsl] at e1 ⊢
  exact kk hk1 hk2 H' _ ls (hP.set hBa ⟨_, hc, ⟨_, e1, q2, q3, t_set q4 hap hk v⟩⟩ e2 e3) (hS.put e2 e3 hBa) hl
theorem aldI_spec {t : Nat} {g : AH} {a : Nat} {i x : Int32} (h : aldI t g a i = some x) : ∃ (n : Nat) (f : Nat → Int32), g.1 a = some (.inr (t, n, .inl f)) ∧ ¬ outI i n ∧ x = f i.toNatClampNeg := by
  unfold aldI at h
  split at h
  · rename_i k n f hk
    by_cases h1 : k = t
    · subst h1
      rw [if_pos rfl] at h
      by_cases h2 : outI i n
      · rw [if_pos h2] at h; cases h
      · rw [if_neg h2] at h
        exact ⟨n, f, hk, h2, (Option.some.inj h).symm⟩
    · rw [if_neg h1] at h; cases h
  · cases h
theorem astI_spec {t : Nat} {g g1 : AH} {a : Nat} {i x : Int32} (h : astI t g a i x = some g1) : ∃ (n : Nat) (f : Nat → Int32), g.1 a = some (.inr (t, n, .inl f)) ∧ ¬ outI i n ∧ g1 = hset g a (.inr (t, n, .inl (upd f i.toNatClampNeg x))) := by
  unfold astI at h
  split at h
  · rename_i k n f hk
    by_cases h1 : k = t
    · subst h1
      rw [if_pos rfl] at h
      by_cases h2 : outI i n
      · rw [if_pos h2] at h; cases h
      · rw [if_neg h2] at h
        exact ⟨n, f, hk, h2, (Option.some.inj h).symm⟩
    · rw [if_neg h1] at h; cases h
  · cases h
theorem aldL_spec {g : AH} {a : Nat} {i : Int32} {x : Int64} (h : aldL g a i = some x) : ∃ (n : Nat) (f : Nat → Int64), g.1 a = some (.inr (3, n, .inr (.inl f))) ∧ ¬ outI i n ∧ x = f i.toNatClampNeg := by
  unfold aldL at h
  split at h
  · rename_i k n f hk
    by_cases h1 : k = 3
    · subst h1
      rw [if_pos rfl] at h
      by_cases h2 : outI i n
      · rw [if_pos h2] at h; cases h
      · rw [if_neg h2] at h
        exact ⟨n, f, hk, h2, (Option.some.inj h).symm⟩
    · rw [if_neg h1] at h; cases h
  · cases h
theorem astL_spec {g g1 : AH} {a : Nat} {i : Int32} {x : Int64} (h : astL g a i x = some g1) : ∃ (n : Nat) (f : Nat → Int64), g.1 a = some (.inr (3, n, .inr (.inl f))) ∧ ¬ outI i n ∧ g1 = hset g a (.inr (3, n, .inr (.inl (vp_updL f i.toNatClampNeg x)))) := by
  unfold astL at h
  split at h
  · rename_i k n f hk
    by_cases h1 : k = 3
    · subst h1
      rw [if_pos rfl] at h
      by_cases h2 : outI i n
      · rw [if_pos h2] at h; cases h
      · rw [if_neg h2] at h
        exact ⟨n, f, hk, h2, (Option.some.inj h).symm⟩
    · rw [if_neg h1] at h; cases h
  · cases h
theorem aldR_spec {t : Nat} {g : AH} {a : Nat} {i : Int32} {x : Nat} (h : aldR t g a i = some x) : ∃ (n : Nat) (f : Nat → Option Nat), g.1 a = some (.inr (t, n, .inr (.inr f))) ∧ ¬ outI i n ∧ f i.toNatClampNeg = some x := by
  unfold aldR at h
  split at h
  · rename_i k n f hk
    by_cases h1 : k = t
    · subst h1
      rw [if_pos rfl] at h
      by_cases h2 : outI i n
      · rw [if_pos h2] at h; cases h
      · rw [if_neg h2] at h
        exact ⟨n, f, hk, h2, h⟩
    · rw [if_neg h1] at h; cases h
  · cases h
theorem astR_spec {t ci : Nat} {g g1 : AH} {a : Nat} {i : Int32} {x : Nat} (h : astR t ci g a i x = some g1) : ∃ (n : Nat) (f : Nat → Option Nat), g.1 a = some (.inr (t, n, .inr (.inr f))) ∧ ¬ outI i n ∧ isO ci g x = some () ∧ g1 = hset g a (.inr (t, n, .inr (.inr (va_up f i.toNatClampNeg (some x))))) := by
  unfold astR at h
  split at h
  · rename_i k n f hk
    by_cases h1 : k = t
    · subst h1
      rw [if_pos rfl] at h
      by_cases h2 : outI i n
      · rw [if_pos h2] at h; cases h
      · rw [if_neg h2] at h
        obtain ⟨u, hu, h3⟩ := gb_some h
        exact ⟨n, f, hk, h2, hu, (Option.some.inj h3).symm⟩
    · rw [if_neg h1] at h; cases h
  · cases h
theorem alen_spec {t : Nat} {g : AH} {a : Nat} {x : Int32} (h : alen t g a = some x) : ∃ (n : Nat) (f : (Nat → Int32) ⊕ (Nat → Int64) ⊕ (Nat → Option Nat)), g.1 a = some (.inr (t, n, f)) ∧ x = Int32.ofNat n := by
  unfold alen at h
  split at h
  · rename_i k n f hk
    by_cases h1 : k = t
    · subst h1
      rw [if_pos rfl] at h
      exact ⟨n, f, hk, (Option.some.inj h).symm⟩
    · rw [if_neg h1] at h; cases h
  · cases h
theorem CX.arr (X : CX M G cc nL own rm) {t : Nat} (ht : t < 7) : ArrOfT (mS M) (G.1.2 t) (kT t) ∧ va_RA (mS M) (G.1.2 t) (kT t) := X.2.1.2 t _ (tysG_at G ht)
theorem in_size {i : Int32} {n : Nat} {c : ClassId} {f : Nat → Value} (h : ¬ outI i n) : ¬ (i < 0 ∨ (arrV c n f).slots.size ≤ i.toNatClampNeg) := by rw [arrV_size]; exact h
theorem in_lt {i : Int32} {n : Nat} (h : ¬ outI i n) : i.toNatClampNeg < n := Nat.not_le.mp fun q => h (Or.inr q)
theorem r_iald (X : CX M G cc nL own rm) {a : Nat} {i x : Int32} (d : decode cc pc = .ok (.iaload, 1)) (h : aldI 0 g a i = some x) (kk : WW M G nL Q kc ks g (pc + 1) L (.int x :: st)) : WW M G nL Q kc ks g pc L (.int i :: .ref a :: st) := by
  obtain ⟨n, f, ha, hin, rfl⟩ := aldI_spec h
  intro hk1 hk2 H locs ls hP hS hl
  exact W.iald (v := .int (f i.toNatClampNeg)) X.1.1 X.1.2.1 (hP.1 a _ ha).1 ((X.arr (t := 0) (by decide)).1 n _) (fun q => by cases q) (in_size hin) (arrV_read _ _ (in_lt hin)) rfl rfl d (kk hk1 hk2 H locs ls hP hS hl)
theorem r_bald (X : CX M G cc nL own rm) {a : Nat} {i x : Int32} (d : decode cc pc = .ok (.baload, 1)) (h : aldI 1 g a i = some x) (kk : WW M G nL Q kc ks g (pc + 1) L (.int x :: st)) : WW M G nL Q kc ks g pc L (.int i :: .ref a :: st) := by
  obtain ⟨n, f, ha, hin, rfl⟩ := aldI_spec h
  intro hk1 hk2 H locs ls hP hS hl
  exact W.bald (v := .int (f i.toNatClampNeg)) X.1.1 X.1.2.1 (hP.1 a _ ha).1 ((X.arr (t := 1) (by decide)).1 n _) (fun q => by cases q) (in_size hin) (arrV_read _ _ (in_lt hin)) rfl rfl d (kk hk1 hk2 H locs ls hP hS hl)
theorem r_zald (X : CX M G cc nL own rm) {a : Nat} {i x : Int32} (d : decode cc pc = .ok (.baload, 1)) (h : aldI 2 g a i = some x) (kk : WW M G nL Q kc ks g (pc + 1) L (.int x :: st)) : WW M G nL Q kc ks g pc L (.int i :: .ref a :: st) := by
  obtain ⟨n, f, ha, hin, rfl⟩ := aldI_spec h
  intro hk1 hk2 H locs ls hP hS hl
  exact W.zald (v := .int (f i.toNatClampNeg)) X.1.1 X.1.2.1 (hP.1 a _ ha).1 ((X.arr (t := 2) (by decide)).1 n _) (fun q => by cases q) (in_size hin) (arrV_read _ _ (in_lt hin)) rfl rfl d (kk hk1 hk2 H locs ls hP hS hl)
theorem r_aald (X : CX M G cc nL own rm) (t : Nat) {C : String} (ht : t < 7) (hC : kT t = .object C) {a : Nat} {i : Int32} {x : Nat} (d : decode cc pc = .ok (.aaload, 1)) (h : aldR t g a i = some x) (kk : WW M G nL Q kc ks g (pc + 1) L (.ref x :: st)) : WW M G nL Q kc ks g pc L (.int i :: .ref a :: st) := by
  obtain ⟨n, f, ha, hin, hx⟩ := aldR_spec h
  intro hk1 hk2 H locs ls hP hS hl
  have hr : (arrV (G.1.2 t) n (fun j => va_rf (f j))).slots[i.toNatClampNeg]? = some (.ref x) := by rw [arrV_read _ _ (in_lt hin), hx]; rfl
  exact W.aald (v := .ref x) (ty := .object C) X.1.1 X.1.2.1 (hP.1 a _ ha).1 (by rw [← hC]; exact (X.arr ht).1 n _) rfl (fun q => by cases q) (in_size hin) hr rfl rfl d (kk hk1 hk2 H locs ls hP hS hl)
theorem upd_V {f : Nat → Int32} {k : Nat} {x : Int32} : updV (fun j => Value.int (f j)) k (.int x) = fun j => Value.int (upd f k x j) := by
  funext q
  by_cases hq : q = k
  · subst hq; simp [updV, upd]
  · simp [updV, upd, hq]
theorem upd_VL {f : Nat → Int64} {k : Nat} {x : Int64} : updV (fun j => Value.long (f j)) k (.long x) = fun j => Value.long (vp_updL f k x j) := by
  funext q
  by_cases hq : q = k
  · subst hq; simp [updV, vp_updL]
  · simp [updV, vp_updL, hq]
theorem upd_VR {f : Nat → Option Nat} {k : Nat} {x : Nat} : updV (fun j => va_rf (f j)) k (.ref x) = fun j => va_rf (va_up f k (some x) j) := by
  funext q
  by_cases hq : q = k
  · subst hq; simp [updV, va_up, va_rf]
  · simp [updV, va_up, hq]
theorem r_iast (X : CX M G cc nL own rm) {a : Nat} {i x : Int32} {g1 : AH} (d : decode cc pc = .ok (.iastore, 1)) (h : astI 0 g a i x = some g1) (kk : WW M G nL Q kc ks g1 (pc + 1) L st) : WW M G nL Q kc ks g pc L (.int x :: .int i :: .ref a :: st) := by
  obtain ⟨n, f, ha, hin, rfl⟩ := astI_spec h
  intro hk1 hk2 H locs ls hP hS hl
  have hBa := (hP.1 a _ ha).2
  refine W.iast X.1.1 X.1.2.1 (hP.1 a _ ha).1 ((X.arr (t := 0) (by decide)).1 n _) (fun q => by cases q) (in_size hin) rfl rfl d fun H1 e z oq => ?_
  refine kk hk1 hk2 H1 _ ls (hP.set hBa ?_ z oq) (hS.put z oq hBa) hl
  show H1[a]? = some (arrV _ _ _)
  rw [e, arrV_store, upd_V]
theorem nar_byte (x : Int32) : narrow .byte (.int x) = .int (x.toInt8.toInt32) := rfl
theorem r_bast (X : CX M G cc nL own rm) {a : Nat} {i x : Int32} {g1 : AH} (d : decode cc pc = .ok (.bastore, 1)) (h : astI 1 g a i (x.toInt8.toInt32) = some g1) (kk : WW M G nL Q kc ks g1 (pc + 1) L st) : WW M G nL Q kc ks g pc L (.int x :: .int i :: .ref a :: st) := by
  obtain ⟨n, f, ha, hin, rfl⟩ := astI_spec h
  intro hk1 hk2 H locs ls hP hS hl
  have hBa := (hP.1 a _ ha).2
  refine W.bast X.1.1 X.1.2.1 (hP.1 a _ ha).1 ((X.arr (t := 1) (by decide)).1 n _) (fun q => by cases q) (in_size hin) rfl rfl d fun H1 e z oq => ?_
  refine kk hk1 hk2 H1 _ ls (hP.set hBa ?_ z oq) (hS.put z oq hBa) hl
  show H1[a]? = some (arrV _ _ _)
  rw [e, arrV_store]
  rw [show narrow .byte (.int x) = Value.int (x.toInt8.toInt32) from rfl, upd_V]
theorem r_zast (X : CX M G cc nL own rm) {a : Nat} {i x y : Int32} {g1 : AH} (d : decode cc pc = .ok (.bastore, 1)) (hn : narrow .boolean (.int x) = .int y) (h : astI 2 g a i y = some g1) (kk : WW M G nL Q kc ks g1 (pc + 1) L st) : WW M G nL Q kc ks g pc L (.int x :: .int i :: .ref a :: st) := by
  obtain ⟨n, f, ha, hin, rfl⟩ := astI_spec h
  intro hk1 hk2 H locs ls hP hS hl
  have hBa := (hP.1 a _ ha).2
  refine W.zast X.1.1 X.1.2.1 (hP.1 a _ ha).1 ((X.arr (t := 2) (by decide)).1 n _) (fun q => by cases q) (in_size hin) rfl rfl d fun H1 e z oq => ?_
  refine kk hk1 hk2 H1 _ ls (hP.set hBa ?_ z oq) (hS.put z oq hBa) hl
  show H1[a]? = some (arrV _ _ _)
  rw [e, arrV_store]
  rw [hn, upd_V]
theorem r_aast (X : CX M G cc nL own rm) (t ci : Nat) {r : vw_C} (ht : t < 7) (hc : vwCl[ci]? = some r) (hC : kT t = .object r.1) {a : Nat} {i : Int32} {x : Nat} {g1 : AH} (d : decode cc pc = .ok (.aastore, 1)) (h : astR t ci g a i x = some g1) (kk : WW M G nL Q kc ks g1 (pc + 1) L st) : WW M G nL Q kc ks g pc L (.ref x :: .int i :: .ref a :: st) := by
  obtain ⟨n, f, ha, hin, hx, rfl⟩ := astR_spec h
  obtain ⟨V, hV⟩ := isO_spec hx
  intro hk1 hk2 H locs ls hP hS hl
  have hBa := (hP.1 a _ ha).2
  have h0 : ¬ i < 0 := fun q => hin (Or.inl q)
  obtain ⟨⟨r', hr', cellV, g1, g2, g3, -⟩, -⟩ := hP.1 x _ hV
  have hcls := (X.2.1.1 ci r hc).2
  have hRA := (X.arr ht).2
  rw [hC] at hRA
  obtain ⟨kA, comp, k1, k2, k3, -⟩ := hRA
  have hcomp : comp = G.1.1.1 ci := Option.some.inj (k3.symm.trans hcls.1)
  subst hcomp
  obtain ⟨kC, hkC, -⟩ := hcls.2
  refine W.aast X.1.1 X.1.2.1 (hP.1 a _ ha).1 (fun q h => by cases h) (fun h => by cases h) k1 k2 rfl hkC ⟨h0, by show _ < (arrV _ _ _).slots.size; rw [arrV_size]; exact in_lt hin⟩ g1 (fun q h => by rw [g3] at h; cases h) (by rw [g2]; exact hkC) (by rw [g2]; exact va_assign hcls) rfl rfl d fun H1 e z oq => ?_
  refine kk hk1 hk2 H1 _ ls (hP.set hBa ?_ z oq) (hS.put z oq hBa) hl
  show H1[a]? = some (arrV _ _ _)
  rw [e, arrV_store, upd_VR]
theorem r_alen (X : CX M G cc nL own rm) (t : Nat) (ht : t < 7) {a : Nat} {x : Int32} (d : decode cc pc = .ok (.arraylength, 1)) (h : alen t g a = some x) (kk : WW M G nL Q kc ks g (pc + 1) L (.int x :: st)) : WW M G nL Q kc ks g pc L (.ref a :: st) := by
  obtain ⟨n, f, ha, rfl⟩ := alen_spec h
  intro hk1 hk2 H locs ls hP hS hl
  obtain f | f | f := f
  · exact W.alen X.1.1 X.1.2.1 (hP.1 a _ ha).1 ((X.arr ht).1 n _) (by rw [arrV_size]) rfl rfl d (kk hk1 hk2 H locs ls hP hS hl)
  · exact W.alen X.1.1 X.1.2.1 (hP.1 a _ ha).1 ((X.arr ht).1 n _) (by rw [arrV_size]) rfl rfl d (kk hk1 hk2 H locs ls hP hS hl)
  · exact W.alen X.1.1 X.1.2.1 (hP.1 a _ ha).1 ((X.arr ht).1 n _) (by rw [arrV_size]) rfl rfl d (kk hk1 hk2 H locs ls hP hS hl)
theorem r_new (X : CX M G cc nL own rm) {i ci N : Nat} {C : String} {T : u_T} {ty : Nat → FieldType} {a : Nat} {g1 : AH} (d : decode cc pc = .ok (.new i, 3)) (hc : vwCl[ci]? = some (C, T, N)) (hty : ∀ k, k < N → parseFieldDescriptor (T k).2.2.1 = some (ty k)) (hF : FLc ci) (hcl : Cond.classLink own i C ∈ TBL) (hin : Cond.instantiable C N ∈ TBL ∧ Cond.initialized C ∈ TBL) (hR : kc + 1 ≤ rm.cells ∧ ks + N ≤ rm.slots) (h : newO ci ty g = some (a, g1))
    (kk : WW M G nL Q (kc + 1) (ks + N) g1 (pc + 3) L (.ref a :: st)) : WW M G nL Q kc ks g pc L st := by
  intro hk1 hk2 H locs ls hP hS hl
  unfold newO at h
  cases hz : g.2 with
  | none => rw [hz] at h; cases h
  | some n =>
    rw [hz] at h
    cases h
    obtain ⟨hinw, -, -⟩ := hF C T N hc
    have hKn := X.2.1.1 ci _ hc
    have hB : G.2.1 ≤ H.size := Nat.le_trans X.2.2.1 hS.1
    refine W.newcK X.1.1 X.1.2.1 X.1.2.2.2.1 (X.w hcl) (X.w hin.1) (X.w hin.2) rfl d (by rw [X.2.2.2.2.2]; exact hR.1) (by rw [X.2.2.2.2.2]; exact hR.2) hKn.2.1 rfl fun H1 kC hkC e1 z1 o1 => ?_
    obtain ⟨en, hP1⟩ := hP.push (e := .inl (ci, fun k => defaultValue (ty k))) hz hB ⟨_, hc, u_born ty X.1.2.2.2.2 hinw hKn hkC e1 hty⟩ z1 o1
    subst en
    exact kk (by rw [X.2.2.2.2.2]; exact hR.1) (by rw [X.2.2.2.2.2]; exact hR.2) H1 locs ls hP1 ⟨Nat.le_trans hS.1 (by omega), fun x h1 h2 => (o1 x (Nat.lt_of_lt_of_le h1 hS.1)).trans (hS.2.1 x h1 h2), hS.2.2⟩ hl
theorem newA_spec {t : Nat} {c : (Nat → Int32) ⊕ (Nat → Int64) ⊕ (Nat → Option Nat)} {g g1 : AH} {n : Int32} {a : Nat} (h : newA t c g n = some (a, g1)) : g.2 = some a ∧ ¬ n < 0 ∧ n.toNatClampNeg ≤ 65536 ∧ g1 = hnew g a (.inr (t, n.toNatClampNeg, c)) := by
  unfold newA at h
  cases hz : g.2 with
  | none => rw [hz] at h; cases h
  | some q =>
    rw [hz] at h
    dsimp only at h
    by_cases h1 : n < 0 ∨ 65536 < n.toNatClampNeg
    · rw [if_pos h1] at h; cases h
    · rw [if_neg h1] at h
      cases h
      exact ⟨rfl, fun q => h1 (Or.inl q), Nat.not_lt.mp fun q => h1 (Or.inr q), rfl⟩
theorem r_newarr (X : CX M G cc nL own rm) {atype : ArrayType} (t : Nat) {c : (Nat → Int32) ⊕ (Nat → Int64) ⊕ (Nat → Option Nat)} {n : Int32} {a : Nat} {g1 : AH} (N : Nat) (d : decode cc pc = .ok (.newarray atype, 2)) (ht : t < 4) (hty : newarray.typeOf atype = kT t) (hw : Cond.arrayClass (newarray.typeOf atype) ∈ TBL) (hca : ∀ (cA : ClassId) (N : Nat), hA G a (.inr (t, N, c)) = fun H => H[a]? = some (arrV (G.1.2 t) N (fun _ => defaultValue (kT t)))) (hb : componentBytes (newarray.typeOf atype) ≤ 8) (hn : n.toNatClampNeg ≤ N) (hR : kc + 1 ≤ rm.cells ∧ ks + N ≤ rm.slots) (h : newA t c g n = some (a, g1))
    (kk : WW M G nL Q (kc + 1) (ks + N) g1 (pc + 2) L (.ref a :: st)) : WW M G nL Q kc ks g pc L (.int n :: st) := by
  obtain ⟨hz, h0, h1, rfl⟩ := newA_spec h
  intro hk1 hk2 H locs ls hP hS hl
  have hB : G.2.1 ≤ H.size := Nat.le_trans X.2.2.1 hS.1
  have en : H.size = a := hP.2 a hz
  subst en
  refine va_newaK X.1.1 X.1.2.1 (X.w hw) rfl d rfl h0 rfl (Nat.le_trans (Nat.mul_le_mul h1 hb) (by decide)) (by rw [X.2.2.2.2.2]; exact hR.1) (by rw [X.2.2.2.2.2]; exact Nat.le_trans (Nat.add_le_add_left hn ks) hR.2) rfl fun H1 cA e1 z1 o1 hAr hNm => ?_
  have hcA : cA = G.1.2 t := by
    have h2 := (X.arr (t := t) (by omega)).2
    rw [← hty] at h2
    have h3 : (mS M).vm.findClass ("[" ++ (newarray.typeOf atype).toString) = some (G.1.2 t) := by
      cases atype <;> exact h2
    exact Option.some.inj (hNm.symm.trans h3)
  subst hcA
  obtain ⟨-, hP1⟩ := hP.push hz hB (e := .inr (t, n.toNatClampNeg, c)) (by rw [hca (G.1.2 t) n.toNatClampNeg, ← hty]; exact e1) z1 o1
  exact W.widen (Nat.le_refl _) (Nat.add_le_add_left hn ks) (kk (by rw [X.2.2.2.2.2]; exact hR.1) (by rw [X.2.2.2.2.2]; exact hR.2) H1 locs ls hP1 ⟨Nat.le_trans hS.1 (by omega), fun x h1 h2 => (o1 x (Nat.lt_of_lt_of_le h1 hS.1)).trans (hS.2.1 x h1 h2), hS.2.2⟩ hl)
theorem r_anew (X : CX M G cc nL own rm) {i : Nat} (t : Nat) {C : String} {n : Int32} {a : Nat} {g1 : AH} (N : Nat) (d : decode cc pc = .ok (.anewarray i, 3)) (ht : t < 7) (hC : kT t = .object C) (hcl : Cond.classLink own i C ∈ TBL) (hover : va_AO C (mS M)) (hn : n.toNatClampNeg ≤ N) (hR : kc + 1 ≤ rm.cells ∧ ks + N ≤ rm.slots) (h : newA t (.inr (.inr (fun _ => none))) g n = some (a, g1))
    (kk : WW M G nL Q (kc + 1) (ks + N) g1 (pc + 3) L (.ref a :: st)) : WW M G nL Q kc ks g pc L (.int n :: st) := by
  obtain ⟨hz, h0, h1, rfl⟩ := newA_spec h
  intro hk1 hk2 H locs ls hP hS hl
  have hB : G.2.1 ≤ H.size := Nat.le_trans X.2.2.1 hS.1
  have en : H.size = a := hP.2 a hz
  subst en
  refine W.anew X.1.1 X.1.2.1 X.1.2.2.2.1 (X.w hcl) (va_AO.use hover) rfl d rfl h0 (Nat.le_trans (Nat.mul_le_mul_right 4 h1) (by decide)) (by rw [X.2.2.2.2.2]; exact hR.1) (by rw [X.2.2.2.2.2]; exact Nat.le_trans (Nat.add_le_add_left hn ks) hR.2) fun cA kA comp f1 f2 f3 f4 => ?_
  have hRA := (X.arr ht).2
  rw [hC] at hRA
  obtain ⟨kA', comp', k1, k2, k3, k4⟩ := hRA
  have hcA : cA = G.1.2 t := Option.some.inj (f1.symm.trans k4)
  subst hcA
  generalize hH1 : H.push ({ cls := G.1.2 t, slots := Array.replicate n.toNatClampNeg .null, vm := .none } : Cell) = H1
  have z1 : H1.size = H.size + 1 := by rw [← hH1, Array.size_push]
  have e1 : H1[H.size]? = some (arrV (G.1.2 t) n.toNatClampNeg (fun _ => .null)) := by rw [← hH1, Array.getElem?_push_size, ← arrV_new]
  have o1 : ∀ q : Nat, q < H.size → H1[q]? = H[q]? := fun q hq => by rw [← hH1, Array.getElem?_push, if_neg (Nat.ne_of_lt hq)]
  obtain ⟨-, hP1⟩ := hP.push hz hB (e := .inr (t, n.toNatClampNeg, .inr (.inr (fun _ => none)))) e1 z1 o1
  exact W.widen (Nat.le_refl _) (Nat.add_le_add_left hn ks) (kk (by rw [X.2.2.2.2.2]; exact hR.1) (by rw [X.2.2.2.2.2]; exact hR.2) H1 locs ls hP1 ⟨Nat.le_trans hS.1 (by omega), fun x h1 h2 => (o1 x (Nat.lt_of_lt_of_le h1 hS.1)).trans (hS.2.1 x h1 h2), hS.2.2⟩ hl)
theorem r_objInit (X : CX M G cc nL own rm) {i a : Nat} (d : decode cc pc = .ok (.invokespecial i, 3)) (hm : Cond.methodLink own i Lib.objectInit ∈ TBL) (hR1 : 1 ≤ rm.frames) (hR2 : (st.map fun v => v.category).sum + 12 ≤ rm.locals) (kk : WW M G nL Q kc ks g (pc + 3) L st) : WW M G nL Q kc ks g pc L (.ref a :: st) := by
  intro hk1 hk2 H locs ls hP hS hl
  refine W.objInit X.1.1 X.1.2.1 X.1.2.2.2.1 (X.w hm) (X.w o_init.1) (X.w o_init.2) rfl (by rw [X.1.2.2.1]; exact hl.1) rfl d (by rw [X.2.2.2.2.2]; exact hR1) (by rw [X.2.2.2.2.2]; show 2 * 0 + _ + 12 ≤ _; omega) ?_
  exact W.eq (g2 := F0 (mI M) (pc + 3) ls st) rfl (kk hk1 hk2 H locs ls hP hS hl)
theorem r_min (X : CX M G cc nL own rm) {i : Nat} {x y : Int32} (d : decode cc pc = .ok (.invokestatic i, 3)) (hm : Cond.methodLink own i Lib.Math.min.name ∈ TBL) (hR1 : 1 ≤ rm.frames) (hR2 : (st.map fun v => v.category).sum + 13 ≤ rm.locals) (kk : WW M G nL Q kc ks g (pc + 3) L (.int (if y < x then y else x) :: st)) : WW M G nL Q kc ks g pc L (.int y :: .int x :: st) := fun hk1 hk2 H locs ls hP hS hl =>
  va_mmin X.1.1 X.1.2.1 (X.1.2.2.1.trans hl.1.symm) X.1.2.2.2.1 (X.w hm) (X.w z_min.1) (X.w z_min.2.1) (X.w z_min.2.2) (by rw [X.2.2.2.2.2]; exact hR1) (by rw [X.2.2.2.2.2]; exact hR2) hk1 hk2 d (kk hk1 hk2 H locs ls hP hS hl)
theorem r_max (X : CX M G cc nL own rm) {i : Nat} {x y : Int32} (d : decode cc pc = .ok (.invokestatic i, 3)) (hm : Cond.methodLink own i Lib.Math.max.name ∈ TBL) (hR1 : 1 ≤ rm.frames) (hR2 : (st.map fun v => v.category).sum + 13 ≤ rm.locals) (kk : WW M G nL Q kc ks g (pc + 3) L (.int (if x < y then y else x) :: st)) : WW M G nL Q kc ks g pc L (.int y :: .int x :: st) := fun hk1 hk2 H locs ls hP hS hl =>
  va_mmax X.1.1 X.1.2.1 (X.1.2.2.1.trans hl.1.symm) X.1.2.2.2.1 (X.w hm) (X.w z_max.1) (X.w z_max.2.1) (X.w z_max.2.2) (by rw [X.2.2.2.2.2]; exact hR1) (by rw [X.2.2.2.2.2]; exact hR2) hk1 hk2 d (kk hk1 hk2 H locs ls hP hS hl)
theorem r_abs (X : CX M G cc nL own rm) {i : Nat} {x : Int32} (d : decode cc pc = .ok (.invokestatic i, 3)) (hm : Cond.methodLink own i Lib.Math.abs.name ∈ TBL) (hR1 : 1 ≤ rm.frames) (hR2 : (st.map fun v => v.category).sum + 13 ≤ rm.locals) (kk : WW M G nL Q kc ks g (pc + 3) L (.int (if 0 ≤ x then x else 0 - x) :: st)) : WW M G nL Q kc ks g pc L (.int x :: st) := fun hk1 hk2 H locs ls hP hS hl =>
  va_mabs X.1.1 X.1.2.1 (X.1.2.2.1.trans hl.1.symm) X.1.2.2.2.1 (X.w hm) (X.w z_abs.1) (X.w z_abs.2.1) (X.w z_abs.2.2) (by rw [X.2.2.2.2.2]; exact hR1) (by rw [X.2.2.2.2.2]; exact hR2) hk1 hk2 d (kk hk1 hk2 H locs ls hP hS hl)
end RowsH
end
section
/-! calls, returns, throws -/
def cw (y : MethodName) (bytes : ByteArray) (maxL : Nat) (ret : Option FieldType) : List Cond := Cond.code y bytes maxL ret :: TBL
def PcG (G : GG) (g : AH) (av : List Value) : Array Value → State → Prop := va_Pc av (fun U => Pic G g U.heap ∧ va_K G.1.1 vwCl (tysG G) U ∧ SC G U U.heap ∧ G.2.1 ≤ U.heap.size)
def QcG (G : GG) (r : Option Value) (g1 : AH) : Array Value → State → Outcome → State → Prop := fun _ st oc t => (oc = .returned r ∧ Pic G g1 t.heap) ∧ va_F (gA G) st t
def QcX (G : GG) (o : Option Value ⊕ String) (g1 : AH) : Array Value → State → Outcome → State → Prop := match o with
  | .inl r => QcG G r g1
  | .inr _ => fun _ _ _ _ => False
def XcX (G : GG) (o : Option Value ⊕ String) (g1 : AH) : String → State → State → Prop := match o with
  | .inl _ => fun _ _ _ => False
  | .inr E9 => fun E st t => E = E9 ∧ Pic G g1 t.heap ∧ va_F (gA G) st t
/-- a method's contract: from the picture g, with these arguments, it returns r and leaves the picture g1 -/
def Ct (l : Launch) (G : GG) (y : MethodName) (bytes : ByteArray) (maxL : Nat) (ret : Option FieldType) (rm : Room) (av : List Value) (g : AH) (r : Option Value) (g1 : AH) : Prop :=
  Met l y (cw y bytes maxL ret) rm (PcG G g av) (QcG G r g1) rm.cells rm.slots (gA G)
/-- .. or throws -/
def CtX (l : Launch) (G : GG) (y : MethodName) (bytes : ByteArray) (maxL : Nat) (ret : Option FieldType) (rm : Room) (av : List Value) (g : AH) (o : Option Value ⊕ String) (g1 : AH) : Prop :=
  vx_Met l y (cw y bytes maxL ret) rm (PcG G g av) (QcX G o g1) (XcX G o g1) rm.cells rm.slots (gA G)
def RQ (M : MC) (G : GG) (r : Option Value) (g1 : AH) (mc ms : Nat) : State → Prop := MQ (mB M) (QcG G r g1) (mA M) (mS M) mc ms (gA G)
def RX (M : MC) (G : GG) (o : Option Value ⊕ String) (g1 : AH) (mc ms : Nat) : State → Prop := vx_MQ (mB M) (QcX G o g1) (XcX G o g1) (mA M) (mS M) mc ms (gA G)
theorem PcG.blind {G : GG} {g : AH} {av : List Value} : FrameBlind (PcG G g av) := fun a U gg mk h =>
  ⟨h.1, h.2.1, va_K.moved (u := U) (U := U.calling gg mk a) (Vm.Alike.refl U.vm) h.2.2.1, SC.same h.2.2.2.1 rfl, h.2.2.2.2⟩
section RowsC
variable {M : MC} {G : GG} {cc : ByteArray} {nL : Nat} {own : String} {rm : Room} {Q : State → Prop} {kc ks : Nat} {g : AH} {pc : Nat} {L : List (Nat × Value)} {st : List Value}
theorem acpy_spec {g g1 : AH} {a b : Nat} {i j n : Int32} (h : acpy g a i b j n = some g1) : ∃ (n0 n1 : Nat) (f f1 : Nat → Int32), g.1 a = some (.inr (0, n0, .inl f)) ∧ g.1 b = some (.inr (0, n1, .inl f1)) ∧ ¬ i < 0 ∧ ¬ j < 0 ∧ ¬ n < 0 ∧ i.toNatClampNeg + n.toNatClampNeg ≤ n0 ∧ j.toNatClampNeg + n.toNatClampNeg ≤ n1 ∧ g1 = hset g b (.inr (0, n1, .inl (va_cpy f f1 i.toNatClampNeg j.toNatClampNeg n.toNatClampNeg))) := by
  unfold acpy at h
  split at h
  · rename_i k n0 f k1 n1 f1 h1 h2
    split at h
    · rename_i hc
      obtain ⟨rfl, rfl, c1, c2, c3, c4, c5⟩ := hc
      exact ⟨n0, n1, f, f1, h1, h2, c1, c2, c3, c4, c5, (Option.some.inj h).symm⟩
    · cases h
  · cases h
theorem r_copy (X : CX M G cc nL own rm) {i a b : Nat} {sp dp n : Int32} {g1 : AH} (d : decode cc pc = .ok (.invokestatic i, 3)) (hm : Cond.methodLink own i arraycopyName ∈ TBL) (hR1 : 1 ≤ rm.frames) (hR2 : (st.map fun v => v.category).sum + (nativeFrameWords "java/lang/System" "arraycopy" 5 + 11) ≤ rm.locals) (h : acpy g a sp b dp n = some g1)
    (kk : WW M G nL Q kc ks g1 (pc + 3) L st) : WW M G nL Q kc ks g pc L (.int n :: .int dp :: .ref b :: .int sp :: .ref a :: st) := by
  obtain ⟨n0, n1, f, f1, ha, hb, h1, h2, h3, h4, h5, rfl⟩ := acpy_spec h
  have nn : ∀ z : Int32, ¬ z < 0 → z.toInt = (z.toNatClampNeg : Int) := by
    intro z hz
    have hz0 : (0 : Int) ≤ z.toInt := by
      have := Int32.not_lt.mp hz
      simpa using Int32.le_iff_toInt_le.mp this
    show z.toInt = ((z.toInt.toNat : Nat) : Int)
    omega
  intro hk1 hk2 H locs ls hP hS hl T hT X9
  have hc0 : H[a]? = some (vp_cell (G.1.2 0) (n0, .inl f)) := (hP.1 a _ ha).1
  have hc1 : H[b]? = some (vp_cell (G.1.2 0) (n1, .inl f1)) := (hP.1 b _ hb).1
  have hBb := (hP.1 b _ hb).2
  have hq1 := hk1
  have hq2 := hk2
  obtain ⟨-, k0, hk0, cm0, hkk0⟩ := (X.arr (t := 0) (by decide)).1 n0 (fun j => .int (f j))
  obtain ⟨-, k1, hk1, cm1, hkk1⟩ := (X.arr (t := 0) (by decide)).1 n1 (fun j => .int (f1 j))
  obtain ⟨vm', X', step⟩ := X9.arraycopy X.1.1 X.1.2.2.2.1 (X.w hm) (X.w z_copy.1) (X.w z_copy.2.1) (X.w z_copy.2.2) (src := a) (dst := b) (cs := vp_cell (G.1.2 0) (n0, .inl f)) (cd := vp_cell (G.1.2 0) (n1, .inl f1)) (srcPos := sp) (destPos := dp) (n := n) (by rw [hT]; exact hc0) (by rw [hT]; exact hc1)
    (fun _ h => by cases h) (fun _ h => by cases h) (fun h => by cases h) (fun h => by cases h) hk0 hk1 hkk0 hkk1 (by rfl) h1 h2 h3
    (by rw [nn sp h1, nn n h3]; show ¬ _ > ((arrV (G.1.2 0) n0 (fun j => .int (f j))).slots.size : Int); rw [arrV_size]; omega)
    (by rw [nn dp h2, nn n h3]; show ¬ _ > ((arrV (G.1.2 0) n1 (fun j => .int (f1 j))).slots.size : Int); rw [arrV_size]; omega)
    (fun vm₁ _ i hi => by
      have e : (vp_cell (G.1.2 0) (n0, .inl f)).slots.getD (sp.toNatClampNeg + i) .null = .int (f (sp.toNatClampNeg + i)) := by
        show (arrV (G.1.2 0) n0 (fun j => .int (f j))).slots.getD _ _ = _
        rw [Array.getD_eq_getD_getElem?, arrV_read _ _ (by omega)]
        rfl
      refine ⟨?_, ?_⟩
      · rw [e]
        rfl
      · rw [e]
        exact trivial)
    (g := F0 (mI M) pc ls (.int n :: .int dp :: .ref b :: .int sp :: .ref a :: st)) rfl (by show ls.size = _; rw [hl.1, X.1.2.2.1]) (rest := st) rfl (by rw [X.1.2.1]; exact d) (by rw [X.2.2.2.2.2]; exact hR1) (by rw [X.2.2.2.2.2]; show 2 * 0 + _ + _ ≤ _; omega)
  have e1 : copied (vp_cell (G.1.2 0) (n0, .inl f)) (vp_cell (G.1.2 0) (n1, .inl f1)) sp dp n = vp_cell (G.1.2 0) (n1, .inl (va_cpy f f1 sp.toNatClampNeg dp.toNatClampNeg n.toNatClampNeg)) := va_copied (fun z => .int z) (G.1.2 0) (G.1.2 0) f f1 h4
  rw [e1] at X' step
  have hlb : b < H.size := (Array.getElem?_eq_some_iff.mp hc1).1
  have hheap : ((T.setVm vm').setCell b (vp_cell (G.1.2 0) (n1, .inl (va_cpy f f1 sp.toNatClampNeg dp.toNatClampNeg n.toNatClampNeg)))).heap = H.setIfInBounds b (vp_cell (G.1.2 0) (n1, .inl (va_cpy f f1 sp.toNatClampNeg dp.toNatClampNeg n.toNatClampNeg))) := by rw [← hT]; rfl
  have oq : ∀ q : Nat, q ≠ b → (H.setIfInBounds b (vp_cell (G.1.2 0) (n1, .inl (va_cpy f f1 sp.toNatClampNeg dp.toNatClampNeg n.toNatClampNeg))))[q]? = H[q]? := fun q hq => by simp [Array.getElem?_setIfInBounds, Ne.symm hq]
  obtain ⟨t, a1, b1⟩ := kk hq1 hq2 _ _ ls (hP.set hBb (show (H.setIfInBounds b _)[b]? = some _ by simp [Array.getElem?_setIfInBounds, hlb]; rfl) (by simp) oq) ⟨by simp; exact hS.1, fun q g1 g2 => by
      rw [oq q (fun e => g2 (by rw [e]; exact hBb))]
      exact hS.2.1 q g1 g2, fun q hq => by
      rcases List.mem_append.mp hq with h | h
      · exact hS.2.2 q h
      · obtain ⟨z, -, hz⟩ := List.mem_map.mp h
        rw [← hz]
        exact hBb⟩ hl _ hheap X'
  exact ⟨t, step t a1, b1⟩
theorem good_TBL {w : Cond} (h : w ∈ TBL) : (w.onTables && w.keeps) = true ∨ ∃ ty, w = .arrayClass ty := good_of_word (List.mem_filter.mp h).2
theorem CX.ws (X : CX M G cc nL own rm) {y : MethodName} {bytes : ByteArray} {maxL : Nat} {ret : Option FieldType} (hc : Cond.code y bytes maxL ret ∈ TBL) : ∀ w ∈ cw y bytes maxL ret, ∀ (a' : Array Value) (U : State), (mS M).WarmedH U.vm → w.before a' U = true := by
  intro w hw a' U hW
  have hT : w ∈ TBL := by
    rcases List.mem_cons.mp hw with h | h
    · rw [h]; exact hc
    · exact h
  exact word_at hW (good_TBL hT) (X.w hT)
theorem desc_n {y : MethodName} {n : Nat} (h : (parseMethodDescriptor y.desc).map (fun d => d.parameters.length) = some n) : ∀ sig, parseMethodDescriptor y.desc = some sig → n = sig.parameters.length := by
  intro sig hs
  rw [hs] at h
  exact (Option.some.inj h).symm
theorem CX.callB (X : CX M G cc nL own rm) {kind i n : Nat} {y : MethodName} {bytes : ByteArray} {maxL : Nat} {ret : Option FieldType} {rmc : Room} (yl : YL kind y bytes maxL ret n) (hm : Cond.methodLink own i y ∈ TBL) (hR : rmc.frames + 1 ≤ rm.frames ∧ 8 + (maxL + 11) + rmc.locals ≤ rm.locals) :
    CallB M.2.2.2.1 (mS M) (mA M) own i y bytes maxL ret (cw y bytes maxL ret) rmc rmc.cells rmc.slots n :=
  ⟨rfl, rfl, by rw [X.2.2.2.2.2]; exact hR.1, by rw [X.2.2.2.2.2]; exact hR.2, X.ws yl.2.1, List.mem_cons_self, X.w yl.2.1, X.w yl.2.2.1, ⟨yl.2.2.2.1.1, yl.2.2.2.1.2.1⟩, desc_n yl.2.2.2.1.2.2, X.w hm⟩
theorem CX.callN (X : CX M G cc nL own rm) {kind i n : Nat} {y : MethodName} {bytes : ByteArray} {maxL : Nat} {ret : Option FieldType} {rmc : Room} (yl : YL kind y bytes maxL ret n) (hm : (own, i, y) ∈ nestTab) (hR : rmc.frames + 1 ≤ rm.frames ∧ 8 + (maxL + 11) + rmc.locals ≤ rm.locals) :
    va_CN M.2.2.2.1 (mS M) (mA M) own i y "HutLedger" bytes maxL ret (cw y bytes maxL ret) rmc rmc.cells rmc.slots n :=
  ⟨⟨rfl, rfl, by rw [X.2.2.2.2.2]; exact hR.1, by rw [X.2.2.2.2.2]; exact hR.2, X.ws yl.2.1, List.mem_cons_self⟩, X.w yl.2.1, X.w yl.2.2.1, ⟨yl.2.2.2.1.1, yl.2.2.2.1.2.1⟩, desc_n yl.2.2.2.1.2.2, va_Nw.use rfl (X.2.2.2.2.1.2.2.1 _ hm)⟩
theorem CX.pre (X : CX M G cc nL own rm) {H : Heap} {locs : List Loc} (hP : Pic G g H) (hS : va_S (gA G) (mS M).heap H locs) {av : List Value} : ∀ U : State, U.heap = H → (mS M).WarmedH U.vm → PcG G g av av.toArray U := by
  intro U hU hW
  subst hU
  exact ⟨rfl, hP, va_K.moved hW.alike X.2.1, X.2.2.2.2.1.warm hW (fun q h1 h2 => hS.2.1 q h1 h2), Nat.le_trans X.2.2.1 hS.1⟩
theorem CX.recv (X : CX M G cc nL own rm) {H : Heap} (hP : Pic G g H) {ci b : Nat} {r : vw_C} (hc : vwCl[ci]? = some r) (hb : isO ci g b = some ()) : ∃ cell : Cell, H[b]? = some cell ∧ cell.vm.isStatics = false ∧ (mS M).vm.findClass r.1 = some cell.cls := by
  obtain ⟨V, hV⟩ := isO_spec hb
  obtain ⟨⟨q', h1, cell, g1, g2, g3, -⟩, -⟩ := hP.1 b _ hV
  exact ⟨cell, g1, by rw [g3]; rfl, by rw [g2]; exact (X.2.1.1 ci r hc).2.1⟩
theorem r_run (X : CX M G cc nL own rm) {mc ms : Nat} (hR9 : kc + mc ≤ rm.cells ∧ ks + ms ≤ rm.slots) {r : Option Value} {g1 : AH} {a : Array Value} {st0 : List Value}
    (hrun : ∀ (H : Heap) (locs : List Loc) (ls : Array Slot), Pic G g H → va_S (gA G) (mS M).heap H locs → lv_has ls nL L → va_Run M.1 M.2.1 M.2.2.1 M.2.2.2.1 (mS M) (mI M) (mA M) (mB M) (mM M) (mC M) H locs kc ks mc ms (F0 (mI M) pc ls st0) st (QcG G r g1 a) (gA G))
    (kk : WW M G nL Q (kc + mc) (ks + ms) g1 (pc + 3) L (r.toList ++ st)) : WW M G nL Q kc ks g pc L st0 := by
  intro hk1 hk2 H locs ls hP hS hl T hT X9
  obtain ⟨v, st₀, t, T', Lc, h0, X', hL, e1, e2, ⟨⟨hv, hp⟩, hz, hk⟩, stp⟩ := hrun H locs ls hP hS hl T hT X9
  cases hv
  rw [h0] at hz hk
  obtain ⟨t2, a1, b1⟩ := kk (by rw [X.2.2.2.2.2]; exact hR9.1) (by rw [X.2.2.2.2.2]; exact hR9.2) T'.heap (locs ++ Lc) ls (by rw [e1]; exact hp)
    ⟨Nat.le_trans hS.1 (by rw [e1]; exact hz), fun q h1 h2 => by rw [e1, hk q (Nat.lt_of_lt_of_le h1 hS.1) h2]; exact hS.2.1 q h1 h2, fun q hq => by
      rcases List.mem_append.mp hq with h | h
      · exact hS.2.2 q h
      · exact hL q h⟩ hl T' rfl X'
  exact ⟨t2, stp t2 a1, b1⟩
theorem r_callV (X : CX M G cc nL own rm) {l : Launch} (hl0 : M.2.1 = l) {i n ci b : Nat} {y : MethodName} {bytes : ByteArray} {maxL : Nat} {ret : Option FieldType} {rmc : Room} {As : List Value} {r : Option Value} {g1 : AH} {st0 : List Value} {rc : vw_C} (d : decode cc pc = .ok (.invokevirtual i, 3)) (yl : YL 0 y bytes maxL ret n) (hm : Cond.methodLink own i y ∈ TBL) (hc : vwCl[ci]? = some rc) (hy : y.cls = rc.1) (hb : isO ci g b = some ())
    (ct : Ct l G y bytes maxL ret rmc (.ref b :: As) g r g1) (hst : st0 = As.reverse ++ .ref b :: st) (hn : As.length = n) (hcat : (st.map fun v => v.category).sum ≤ 8) (hR : (rmc.frames + 1 ≤ rm.frames ∧ 8 + (maxL + 11) + rmc.locals ≤ rm.locals) ∧ kc + rmc.cells ≤ rm.cells ∧ ks + rmc.slots ≤ rm.slots)
    (kk : WW M G nL Q (kc + rmc.cells) (ks + rmc.slots) g1 (pc + 3) L (r.toList ++ st)) : WW M G nL Q kc ks g pc L st0 := by
  subst hl0
  refine r_run X hR.2 (a := (Value.ref b :: As).toArray) (fun H locs ls hP hS hl => ?_) kk
  have h5 := yl.2.2.2.2.1 rfl
  exact va_runV (C := y.cls) X.1 ct ⟨X.callB yl hm hR.1, X.w h5.1, X.w h5.2⟩ ⟨PcG.blind, by rw [hy]; exact X.recv hP hc hb, X.pre hP hS⟩ rfl hn hl.1 hst (by show 2 * 0 + _ ≤ 8; omega) d (by rw [X.2.2.2.2.2]; exact hR.2)
theorem r_callVN (X : CX M G cc nL own rm) {l : Launch} (hl0 : M.2.1 = l) {i n ci b : Nat} {y : MethodName} {bytes : ByteArray} {maxL : Nat} {ret : Option FieldType} {rmc : Room} {As : List Value} {r : Option Value} {g1 : AH} {st0 : List Value} {rc : vw_C} (d : decode cc pc = .ok (.invokevirtual i, 3)) (yl : YL 0 y bytes maxL ret n) (hm : (own, i, y) ∈ nestTab) (hc : vwCl[ci]? = some rc) (hy : y.cls = rc.1) (hb : isO ci g b = some ())
    (ct : Ct l G y bytes maxL ret rmc (.ref b :: As) g r g1) (hst : st0 = As.reverse ++ .ref b :: st) (hn : As.length = n) (hcat : (st.map fun v => v.category).sum ≤ 8) (hR : (rmc.frames + 1 ≤ rm.frames ∧ 8 + (maxL + 11) + rmc.locals ≤ rm.locals) ∧ kc + rmc.cells ≤ rm.cells ∧ ks + rmc.slots ≤ rm.slots)
    (kk : WW M G nL Q (kc + rmc.cells) (ks + rmc.slots) g1 (pc + 3) L (r.toList ++ st)) : WW M G nL Q kc ks g pc L st0 := by
  subst hl0
  refine r_run X hR.2 (a := (Value.ref b :: As).toArray) (fun H locs ls hP hS hl => ?_) kk
  have h5 := yl.2.2.2.2.1 rfl
  exact va_runVN (C := y.cls) X.1 ct ⟨X.callN yl hm hR.1, X.w h5.1, X.w h5.2⟩ ⟨PcG.blind, by rw [hy]; exact X.recv hP hc hb, X.pre hP hS⟩ rfl hn hl.1 hst (by show 2 * 0 + _ ≤ 8; omega) d (by rw [X.2.2.2.2.2]; exact hR.2)
theorem r_callS (X : CX M G cc nL own rm) {l : Launch} (hl0 : M.2.1 = l) {i n : Nat} {y : MethodName} {bytes : ByteArray} {maxL : Nat} {ret : Option FieldType} {rmc : Room} {As : List Value} {r : Option Value} {g1 : AH} {st0 : List Value} (d : decode cc pc = .ok (.invokestatic i, 3)) (yl : YL 1 y bytes maxL ret n) (hm : Cond.methodLink own i y ∈ TBL)
    (ct : Ct l G y bytes maxL ret rmc As g r g1) (hst : st0 = As.reverse ++ st) (hn : As.length = n) (hcat : (st.map fun v => v.category).sum ≤ 8) (hR : (rmc.frames + 1 ≤ rm.frames ∧ 8 + (maxL + 11) + rmc.locals ≤ rm.locals) ∧ kc + rmc.cells ≤ rm.cells ∧ ks + rmc.slots ≤ rm.slots)
    (kk : WW M G nL Q (kc + rmc.cells) (ks + rmc.slots) g1 (pc + 3) L (r.toList ++ st)) : WW M G nL Q kc ks g pc L st0 := by
  subst hl0
  refine r_run X hR.2 (a := As.toArray) (fun H locs ls hP hS hl => ?_) kk
  exact va_runS X.1 ct ⟨X.callB yl hm hR.1, X.w (yl.2.2.2.2.2.1 rfl)⟩ ⟨PcG.blind, X.pre hP hS⟩ rfl hn hl.1 hst (by show 2 * 0 + _ ≤ 8; omega) d (by rw [X.2.2.2.2.2]; exact hR.2)
theorem r_callSN (X : CX M G cc nL own rm) {l : Launch} (hl0 : M.2.1 = l) {i n : Nat} {y : MethodName} {bytes : ByteArray} {maxL : Nat} {ret : Option FieldType} {rmc : Room} {As : List Value} {r : Option Value} {g1 : AH} {st0 : List Value} (d : decode cc pc = .ok (.invokestatic i, 3)) (yl : YL 1 y bytes maxL ret n) (hm : (own, i, y) ∈ nestTab)
    (ct : Ct l G y bytes maxL ret rmc As g r g1) (hst : st0 = As.reverse ++ st) (hn : As.length = n) (hcat : (st.map fun v => v.category).sum ≤ 8) (hR : (rmc.frames + 1 ≤ rm.frames ∧ 8 + (maxL + 11) + rmc.locals ≤ rm.locals) ∧ kc + rmc.cells ≤ rm.cells ∧ ks + rmc.slots ≤ rm.slots)
    (kk : WW M G nL Q (kc + rmc.cells) (ks + rmc.slots) g1 (pc + 3) L (r.toList ++ st)) : WW M G nL Q kc ks g pc L st0 := by
  subst hl0
  refine r_run X hR.2 (a := As.toArray) (fun H locs ls hP hS hl => ?_) kk
  exact va_runSN X.1 ct ⟨X.callN yl hm hR.1, X.w (yl.2.2.2.2.2.1 rfl), trivial⟩ ⟨PcG.blind, X.pre hP hS⟩ rfl hn hl.1 hst (by show 2 * 0 + _ ≤ 8; omega) d (by rw [X.2.2.2.2.2]; exact hR.2)
theorem r_callI (X : CX M G cc nL own rm) {l : Launch} (hl0 : M.2.1 = l) {i n b : Nat} {y : MethodName} {bytes : ByteArray} {maxL : Nat} {rmc : Room} {As : List Value} {r : Option Value} {g1 : AH} {st0 : List Value} (d : decode cc pc = .ok (.invokespecial i, 3)) (yl : YL 2 y bytes maxL none n) (hm : Cond.methodLink own i y ∈ TBL)
    (ct : Ct l G y bytes maxL none rmc (.ref b :: As) g r g1) (hst : st0 = As.reverse ++ .ref b :: st) (hn : As.length = n) (hcat : (st.map fun v => v.category).sum ≤ 8) (hR : (rmc.frames + 1 ≤ rm.frames ∧ 8 + (maxL + 11) + rmc.locals ≤ rm.locals) ∧ kc + rmc.cells ≤ rm.cells ∧ ks + rmc.slots ≤ rm.slots)
    (kk : WW M G nL Q (kc + rmc.cells) (ks + rmc.slots) g1 (pc + 3) L (r.toList ++ st)) : WW M G nL Q kc ks g pc L st0 := by
  subst hl0
  refine r_run X hR.2 (a := (Value.ref b :: As).toArray) (fun H locs ls hP hS hl => ?_) kk
  have h5 := yl.2.2.2.2.2.2 rfl
  exact va_runI X.1 ct ⟨X.callB yl hm hR.1, h5.2, X.w h5.1⟩ ⟨PcG.blind, X.pre hP hS⟩ rfl hn hl.1 hst (by show 2 * 0 + _ ≤ 8; omega) d (by rw [X.2.2.2.2.2]; exact hR.2)
theorem r_callIN (X : CX M G cc nL own rm) {l : Launch} (hl0 : M.2.1 = l) {i n b : Nat} {y : MethodName} {bytes : ByteArray} {maxL : Nat} {rmc : Room} {As : List Value} {r : Option Value} {g1 : AH} {st0 : List Value} (d : decode cc pc = .ok (.invokespecial i, 3)) (yl : YL 2 y bytes maxL none n) (hm : (own, i, y) ∈ nestTab)
    (ct : Ct l G y bytes maxL none rmc (.ref b :: As) g r g1) (hst : st0 = As.reverse ++ .ref b :: st) (hn : As.length = n) (hcat : (st.map fun v => v.category).sum ≤ 8) (hR : (rmc.frames + 1 ≤ rm.frames ∧ 8 + (maxL + 11) + rmc.locals ≤ rm.locals) ∧ kc + rmc.cells ≤ rm.cells ∧ ks + rmc.slots ≤ rm.slots)
    (kk : WW M G nL Q (kc + rmc.cells) (ks + rmc.slots) g1 (pc + 3) L (r.toList ++ st)) : WW M G nL Q kc ks g pc L st0 := by
  subst hl0
  refine r_run X hR.2 (a := (Value.ref b :: As).toArray) (fun H locs ls hP hS hl => ?_) kk
  have h5 := yl.2.2.2.2.2.2 rfl
  exact va_runIN X.1 ct ⟨X.callN yl hm hR.1, h5.2, X.w h5.1⟩ ⟨PcG.blind, X.pre hP hS⟩ rfl hn hl.1 hst (by show 2 * 0 + _ ≤ 8; omega) d (by rw [X.2.2.2.2.2]; exact hR.2)
theorem r_callV0 (X : CX M G cc nL own rm) {l : Launch} (hl0 : M.2.1 = l) {i n ci b : Nat} {y : MethodName} {bytes : ByteArray} {maxL : Nat} {ret : Option FieldType} {fr lo : Nat} {As : List Value} {r : Option Value} {g1 : AH} {st0 : List Value} {rc : vw_C} (d : decode cc pc = .ok (.invokevirtual i, 3)) (yl : YL 0 y bytes maxL ret n) (hm : Cond.methodLink own i y ∈ TBL) (hc : vwCl[ci]? = some rc) (hy : y.cls = rc.1) (hb : isO ci g b = some ())
    (ct : Ct l G y bytes maxL ret ⟨fr, 0, 0, lo⟩ (.ref b :: As) g r g1) (hst : st0 = As.reverse ++ .ref b :: st) (hn : As.length = n) (hcat : (st.map fun v => v.category).sum ≤ 8) (hR : fr + 1 ≤ rm.frames ∧ 8 + (maxL + 11) + lo ≤ rm.locals)
    (kk : WW M G nL Q kc ks g1 (pc + 3) L (r.toList ++ st)) : WW M G nL Q kc ks g pc L st0 := fun hk1 hk2 =>
  r_callV (rmc := ⟨fr, 0, 0, lo⟩) X hl0 d yl hm hc hy hb ct hst hn hcat ⟨hR, by rw [← X.2.2.2.2.2]; exact hk1, by rw [← X.2.2.2.2.2]; exact hk2⟩ kk hk1 hk2
theorem r_callVN0 (X : CX M G cc nL own rm) {l : Launch} (hl0 : M.2.1 = l) {i n ci b : Nat} {y : MethodName} {bytes : ByteArray} {maxL : Nat} {ret : Option FieldType} {fr lo : Nat} {As : List Value} {r : Option Value} {g1 : AH} {st0 : List Value} {rc : vw_C} (d : decode cc pc = .ok (.invokevirtual i, 3)) (yl : YL 0 y bytes maxL ret n) (hm : (own, i, y) ∈ nestTab) (hc : vwCl[ci]? = some rc) (hy : y.cls = rc.1) (hb : isO ci g b = some ())
    (ct : Ct l G y bytes maxL ret ⟨fr, 0, 0, lo⟩ (.ref b :: As) g r g1) (hst : st0 = As.reverse ++ .ref b :: st) (hn : As.length = n) (hcat : (st.map fun v => v.category).sum ≤ 8) (hR : fr + 1 ≤ rm.frames ∧ 8 + (maxL + 11) + lo ≤ rm.locals)
    (kk : WW M G nL Q kc ks g1 (pc + 3) L (r.toList ++ st)) : WW M G nL Q kc ks g pc L st0 := fun hk1 hk2 =>
  r_callVN (rmc := ⟨fr, 0, 0, lo⟩) X hl0 d yl hm hc hy hb ct hst hn hcat ⟨hR, by rw [← X.2.2.2.2.2]; exact hk1, by rw [← X.2.2.2.2.2]; exact hk2⟩ kk hk1 hk2
theorem r_callS0 (X : CX M G cc nL own rm) {l : Launch} (hl0 : M.2.1 = l) {i n : Nat} {y : MethodName} {bytes : ByteArray} {maxL : Nat} {ret : Option FieldType} {fr lo : Nat} {As : List Value} {r : Option Value} {g1 : AH} {st0 : List Value} (d : decode cc pc = .ok (.invokestatic i, 3)) (yl : YL 1 y bytes maxL ret n) (hm : Cond.methodLink own i y ∈ TBL)
    (ct : Ct l G y bytes maxL ret ⟨fr, 0, 0, lo⟩ As g r g1) (hst : st0 = As.reverse ++ st) (hn : As.length = n) (hcat : (st.map fun v => v.category).sum ≤ 8) (hR : fr + 1 ≤ rm.frames ∧ 8 + (maxL + 11) + lo ≤ rm.locals)
    (kk : WW M G nL Q kc ks g1 (pc + 3) L (r.toList ++ st)) : WW M G nL Q kc ks g pc L st0 := fun hk1 hk2 =>
  r_callS (rmc := ⟨fr, 0, 0, lo⟩) X hl0 d yl hm ct hst hn hcat ⟨hR, by rw [← X.2.2.2.2.2]; exact hk1, by rw [← X.2.2.2.2.2]; exact hk2⟩ kk hk1 hk2
theorem r_callSN0 (X : CX M G cc nL own rm) {l : Launch} (hl0 : M.2.1 = l) {i n : Nat} {y : MethodName} {bytes : ByteArray} {maxL : Nat} {ret : Option FieldType} {fr lo : Nat} {As : List Value} {r : Option Value} {g1 : AH} {st0 : List Value} (d : decode cc pc = .ok (.invokestatic i, 3)) (yl : YL 1 y bytes maxL ret n) (hm : (own, i, y) ∈ nestTab)
    (ct : Ct l G y bytes maxL ret ⟨fr, 0, 0, lo⟩ As g r g1) (hst : st0 = As.reverse ++ st) (hn : As.length = n) (hcat : (st.map fun v => v.category).sum ≤ 8) (hR : fr + 1 ≤ rm.frames ∧ 8 + (maxL + 11) + lo ≤ rm.locals)
    (kk : WW M G nL Q kc ks g1 (pc + 3) L (r.toList ++ st)) : WW M G nL Q kc ks g pc L st0 := fun hk1 hk2 =>
  r_callSN (rmc := ⟨fr, 0, 0, lo⟩) X hl0 d yl hm ct hst hn hcat ⟨hR, by rw [← X.2.2.2.2.2]; exact hk1, by rw [← X.2.2.2.2.2]; exact hk2⟩ kk hk1 hk2
theorem r_callI0 (X : CX M G cc nL own rm) {l : Launch} (hl0 : M.2.1 = l) {i n b : Nat} {y : MethodName} {bytes : ByteArray} {maxL : Nat} {fr lo : Nat} {As : List Value} {r : Option Value} {g1 : AH} {st0 : List Value} (d : decode cc pc = .ok (.invokespecial i, 3)) (yl : YL 2 y bytes maxL none n) (hm : Cond.methodLink own i y ∈ TBL)
    (ct : Ct l G y bytes maxL none ⟨fr, 0, 0, lo⟩ (.ref b :: As) g r g1) (hst : st0 = As.reverse ++ .ref b :: st) (hn : As.length = n) (hcat : (st.map fun v => v.category).sum ≤ 8) (hR : fr + 1 ≤ rm.frames ∧ 8 + (maxL + 11) + lo ≤ rm.locals)
    (kk : WW M G nL Q kc ks g1 (pc + 3) L (r.toList ++ st)) : WW M G nL Q kc ks g pc L st0 := fun hk1 hk2 =>
  r_callI (rmc := ⟨fr, 0, 0, lo⟩) X hl0 d yl hm ct hst hn hcat ⟨hR, by rw [← X.2.2.2.2.2]; exact hk1, by rw [← X.2.2.2.2.2]; exact hk2⟩ kk hk1 hk2
theorem r_callIN0 (X : CX M G cc nL own rm) {l : Launch} (hl0 : M.2.1 = l) {i n b : Nat} {y : MethodName} {bytes : ByteArray} {maxL : Nat} {fr lo : Nat} {As : List Value} {r : Option Value} {g1 : AH} {st0 : List Value} (d : decode cc pc = .ok (.invokespecial i, 3)) (yl : YL 2 y bytes maxL none n) (hm : (own, i, y) ∈ nestTab)
    (ct : Ct l G y bytes maxL none ⟨fr, 0, 0, lo⟩ (.ref b :: As) g r g1) (hst : st0 = As.reverse ++ .ref b :: st) (hn : As.length = n) (hcat : (st.map fun v => v.category).sum ≤ 8) (hR : fr + 1 ≤ rm.frames ∧ 8 + (maxL + 11) + lo ≤ rm.locals)
    (kk : WW M G nL Q kc ks g1 (pc + 3) L (r.toList ++ st)) : WW M G nL Q kc ks g pc L st0 := fun hk1 hk2 =>
  r_callIN (rmc := ⟨fr, 0, 0, lo⟩) X hl0 d yl hm ct hst hn hcat ⟨hR, by rw [← X.2.2.2.2.2]; exact hk1, by rw [← X.2.2.2.2.2]; exact hk2⟩ kk hk1 hk2
/-! returns -/
theorem r_iret (X : CX M G cc nL own rm) {v : Int32} {mc ms : Nat} (hr : (mM M).sig.returnType = some .int) (d : decode cc pc = .ok (.ireturn, 1)) (hc : kc ≤ mc) (hs : ks ≤ ms) : WW M G nL (RQ M G (some (.int v)) g mc ms) kc ks g pc L [.int v] := fun hk1 hk2 H locs ls hP hS hl =>
  W.widen hc hs (W.iret X.1.1 X.1.2.1 hr (fun t ht hW => ⟨⟨rfl, by rw [ht]; exact hP⟩, hS.F ht⟩) hS.2.2 d X.2.2.2.1)
abbrev bz (v : Int32) : Prop := v = 0 ∨ v = 1
theorem bz_nar {v : Int32} (h : bz v) : narrow .boolean (.int v) = .int v := by
  rcases h with rfl | rfl <;> rfl
theorem r_zret (X : CX M G cc nL own rm) {v : Int32} {mc ms : Nat} (hr : (mM M).sig.returnType = some .boolean) (hb : bz v) (d : decode cc pc = .ok (.ireturn, 1)) (hc : kc ≤ mc) (hs : ks ≤ ms) : WW M G nL (RQ M G (some (.int v)) g mc ms) kc ks g pc L [.int v] := fun hk1 hk2 H locs ls hP hS hl =>
  W.widen hc hs (W.zret X.1.1 X.1.2.1 hr (bz_nar hb) (fun t ht hW => ⟨⟨rfl, by rw [ht]; exact hP⟩, hS.F ht⟩) hS.2.2 d X.2.2.2.1)
theorem r_vret (X : CX M G cc nL own rm) {mc ms : Nat} (hr : (mM M).sig.returnType = none) (d : decode cc pc = .ok (.return_, 1)) (hc : kc ≤ mc) (hs : ks ≤ ms) : WW M G nL (RQ M G none g mc ms) kc ks g pc L [] := fun hk1 hk2 H locs ls hP hS hl =>
  W.widen hc hs (W.vret X.1.1 X.1.2.1 hr (fun t ht hW => ⟨⟨rfl, by rw [ht]; exact hP⟩, hS.F ht⟩) hS.2.2 d X.2.2.2.1)
theorem r_aret (X : CX M G cc nL own rm) {a mc ms : Nat} {rt : FieldType} (hr : (mM M).sig.returnType = some rt) (hrt : (∃ n, rt = .object n) ∨ ∃ t, rt = .array t) (d : decode cc pc = .ok (.areturn, 1)) (hc : kc ≤ mc) (hs : ks ≤ ms) : WW M G nL (RQ M G (some (.ref a)) g mc ms) kc ks g pc L [.ref a] := fun hk1 hk2 H locs ls hP hS hl =>
  W.widen hc hs (W.aret X.1.1 X.1.2.1 hr hrt (Or.inr ⟨a, rfl⟩) (fun t ht hW => ⟨⟨rfl, by rw [ht]; exact hP⟩, hS.F ht⟩) hS.2.2 d X.2.2.2.1)
theorem r_fret (X : CX M G cc nL own rm) {v : UInt32} {mc ms : Nat} (hr : (mM M).sig.returnType = some .float) (d : decode cc pc = .ok (.freturn, 1)) (hc : kc ≤ mc) (hs : ks ≤ ms) : WW M G nL (RQ M G (some (.float v)) g mc ms) kc ks g pc L [.float v] := fun hk1 hk2 H locs ls hP hS hl =>
  W.widen hc hs (W.fret X.1.1 X.1.2.1 hr (fun t ht hW => ⟨⟨rfl, by rw [ht]; exact hP⟩, hS.F ht⟩) hS.2.2 d X.2.2.2.1)
theorem r_dret (X : CX M G cc nL own rm) {v : UInt64} {mc ms : Nat} (hr : (mM M).sig.returnType = some .double) (d : decode cc pc = .ok (.dreturn, 1)) (hc : kc ≤ mc) (hs : ks ≤ ms) : WW M G nL (RQ M G (some (.double v)) g mc ms) kc ks g pc L [.double v] := fun hk1 hk2 H locs ls hP hS hl =>
  W.widen hc hs (W.dret X.1.1 X.1.2.1 hr (fun t ht hW => ⟨⟨rfl, by rw [ht]; exact hP⟩, hS.F ht⟩) hS.2.2 d X.2.2.2.1)
/-- a return of a method that may throw -/
theorem r_ret {r : Option Value} {g1 : AH} {mc ms : Nat} (k : WW M G nL (RQ M G r g1 mc ms) kc ks g pc L st) : WW M G nL (RX M G (.inl r) g1 mc ms) kc ks g pc L st := fun hk1 hk2 H locs ls hP hS hl => vx_ret (k hk1 hk2 H locs ls hP hS hl)
end RowsC
/-! from a body to its contract -/
theorem ct_of {l : Launch} {G : GG} {kind n : Nat} {y : MethodName} {bytes : ByteArray} {maxL : Nat} {ret : Option FieldType} {rm : Room} {av : List Value} {g g1 : AH} {r : Option Value} {L0 : List (Nat × Value)} (yl : YL kind y bytes maxL ret n) (hL : lv_args 0 av = L0) (hlen : (lg_sl av).length ≤ maxL)
    (body : ∀ M : MC, M.2.1 = l → CX M G bytes maxL y.cls rm → (mM M).sig.returnType = ret → (mM M).name = y.name → WW M G maxL (RQ M G r g1 rm.cells rm.slots) 0 0 g 0 L0 []) : Ct l G y bytes maxL ret rm av g r g1 := by
  refine Met.ofW (cc := bytes) (maxL := maxL) (ret := ret) yl.1 rfl ?_
  intro p e s m args below meth c s₁ B hml hv
  obtain ⟨rfl, hP, hK, hSC, hB⟩ := hv
  have hts := atoms_spec (ws := cw y bytes maxL ret) B.pre
  rw [lg_entry_eq]
  have hl := lv_entry av (n := maxL) hlen
  rw [hL] at hl
  exact body (p, l, e, rm, s, m, av.toArray, below, meth, c) rfl ⟨⟨B.exec, B.bytes, hml, findClass_of_methodNamed B.named, fun w hw => hts w (List.mem_cons_of_mem _ hw)⟩, hK, hB, B.notSynchronized, hSC, rfl⟩ B.returns (name_of_methodNamed B.named B.method).1 (Nat.zero_le _) (Nat.zero_le _) s.heap [] _ hP va_S.rf hl
end
section
/-! switches, throws, texts -/
section RowsX
variable {M : MC} {G : GG} {cc : ByteArray} {nL : Nat} {own : String} {rm : Room} {Q : State → Prop} {kc ks : Nat} {g : AH} {pc : Nat} {L : List (Nat × Value)} {st : List Value}
theorem r_tswI (X : CX M G cc nL own rm) {dflt lo hi : Int} {offs : Array Int} {len : Nat} {x : Int32} {off : Int} (v : Int32) (tgt : Nat) (d : decode cc pc = .ok (.tableswitch dflt lo hi offs, len)) (hx : x = v) (h1 : ¬ v.toInt < lo) (h2 : ¬ hi < v.toInt) (ho : offs[(v.toInt - lo).toNat]? = some off) (ht : (pc : Int) + off = (tgt : Int)) (k : WW M G nL Q kc ks g tgt L st) : WW M G nL Q kc ks g pc L (.int x :: st) := by
  subst hx
  exact fun hk1 hk2 H locs ls hP hS hl => lv_tableIn X.1.1 X.1.2.1 d h1 h2 ho ht (k hk1 hk2 H locs ls hP hS hl)
theorem r_tswD (X : CX M G cc nL own rm) {dflt lo hi : Int} {offs : Array Int} {len : Nat} {x : Int32} (tgt : Nat) (d : decode cc pc = .ok (.tableswitch dflt lo hi offs, len)) (h : x.toInt < lo ∨ hi < x.toInt) (ht : (pc : Int) + dflt = (tgt : Int)) (k : WW M G nL Q kc ks g tgt L st) : WW M G nL Q kc ks g pc L (.int x :: st) :=
  fun hk1 hk2 H locs ls hP hS hl => lv_tableOut X.1.1 X.1.2.1 d h ht (k hk1 hk2 H locs ls hP hS hl)
theorem tsw_out {x : Int32} {lo hi : Int} (h : ∀ k : Int, lo ≤ k → k ≤ hi → ¬ x = Int32.ofInt k) : x.toInt < lo ∨ hi < x.toInt := by
  rcases Int.lt_or_le x.toInt lo with h1 | h1
  · exact Or.inl h1
  · rcases Int.lt_or_le hi x.toInt with h2 | h2
    · exact Or.inr h2
    · exact absurd (Int32.ofInt_toInt x).symm (h x.toInt h1 h2)
/-- the words of one place that throws -/
def TH (own : String) (ic : Nat) (E9 : String) : Prop := Bundle.fit E9 = true ∧ (∀ w ∈ vx_atS own ic E9 ["java/lang/RuntimeException", "java/lang/Exception"], w ∈ TBL ∨ w ∈ extraW) ∧ Cond.initialized E9 ∈ TBL
theorem th_names : ∀ n ∈ ["java/lang/RuntimeException", "java/lang/Exception"], Bundle.fit n = true := by decide +kernel
theorem CX.th {M : MC} {G : GG} {cc : ByteArray} {nL : Nat} {own : String} {rm : Room} (X : CX M G cc nL own rm) {w : Cond} (h : w ∈ TBL ∨ w ∈ extraW) : w.before (mA M) (mS M) = true := by
  rcases h with h | h
  · exact X.w h
  · exact va_tabs (extra_on w h).1 rfl (X.2.2.2.2.1.2.2.2.2.2.2.1 w h)
theorem th_ot {w : Cond} (h : w ∈ TBL ∨ w ∈ extraW) : vx_ot w = true := by
  rcases h with h | h
  · unfold vx_ot
    rw [(List.mem_filter.mp h).2, Bool.or_true]
  · unfold vx_ot
    rw [(extra_on w h).1, Bool.true_or]
theorem vx_ot_TBL {w : Cond} (h : w ∈ TBL) : vx_ot w = true := by
  unfold vx_ot
  rw [(List.mem_filter.mp h).2, Bool.or_true]
theorem r_throw (X : CX M G cc nL own rm) {l : Launch} (hl0 : M.2.1 = l) (hst : l.stackTraces = false) (hnt : ∀ x ∈ (mC M).exceptionTable.toList, False) {ik is ic j : Nat} {E9 tx : String} {mc ms : Nat} (th : TH own ic E9) (hk : Cond.classLink own ik E9 ∈ TBL) (hw : (own, is, tx, j) ∈ strTab)
    (d0 : decode cc pc = .ok (.new ik, 3)) (d3 : decode cc (pc + 3) = .ok (.dup, 1)) (d4 : decode cc (pc + 4) = .ok (.ldc is, 2)) (d6 : decode cc (pc + 6) = .ok (.invokespecial ic, 3)) (d9 : decode cc (pc + 9) = .ok (.athrow, 1))
    (hR : 5 < rm.frames ∧ (st.map fun v => v.category).sum + 82 ≤ rm.locals) (hc : kc + 1 ≤ mc ∧ mc ≤ rm.cells) (hs : ks + 6 ≤ ms ∧ ms ≤ rm.slots) : WW M G nL (RX M G (.inr E9) (hcut g) mc ms) kc ks g pc L st := by
  subst hl0
  intro hk1 hk2 H locs ls hP hS hl
  have hRR := X.2.2.2.2.2
  exact vx_throwS X.1.1 X.1.2.1 hst X.1.2.2.2.1 th.1 th_names (X.w hk) (X.w th.2.2) (X.2.2.2.2.1.2.1 _ hw) (fun w h => X.th (th.2.1 w h)) (fun w h => th_ot (by
      rcases List.mem_cons.mp h with h | h
      · rw [h]; exact Or.inl hk
      · rcases List.mem_cons.mp h with h | h
        · rw [h]; exact Or.inl th.2.2
        · exact th.2.1 w h)) X.2.2.2.2.1.2.2.2.2.1.1 X.2.2.2.2.1.2.2.2.2.1.2 hS (by rw [hl.1, X.1.2.2.1]) d0 d3 d4 d6 d9 (fun x hx => (hnt x hx).elim)
    (by rw [hRR]; exact hR.1) (by rw [hRR]; exact hR.2) (by rw [hRR]; omega) (by rw [hRR]; omega) X.2.2.2.1
    (fun t hv hz ho => ⟨rfl, hP.cut ho, Nat.le_trans hS.1 hz, fun q h1 h2 => (ho q (Nat.lt_of_lt_of_le h1 hS.1)).trans (hS.2.1 q h1 h2)⟩) hS.2.2 hc.1 hs.1
theorem r_throwW (X : CX M G cc nL own rm) {l : Launch} (hl0 : M.2.1 = l) (hst : l.stackTraces = false) (hnt : ∀ x ∈ (mC M).exceptionTable.toList, False) {ik is ic j : Nat} {E9 tx : String} {mc ms : Nat} (th : TH own ic E9) (hk : Cond.classLink own ik E9 ∈ TBL) (hw : (own, is, tx, j) ∈ strTab)
    (d0 : decode cc pc = .ok (.new ik, 3)) (d3 : decode cc (pc + 3) = .ok (.dup, 1)) (d4 : decode cc (pc + 4) = .ok (.ldc_w is, 3)) (d6 : decode cc (pc + 7) = .ok (.invokespecial ic, 3)) (d9 : decode cc (pc + 10) = .ok (.athrow, 1))
    (hR : 5 < rm.frames ∧ (st.map fun v => v.category).sum + 82 ≤ rm.locals) (hc : kc + 1 ≤ mc ∧ mc ≤ rm.cells) (hs : ks + 6 ≤ ms ∧ ms ≤ rm.slots) : WW M G nL (RX M G (.inr E9) (hcut g) mc ms) kc ks g pc L st := by
  subst hl0
  intro hk1 hk2 H locs ls hP hS hl
  have hRR := X.2.2.2.2.2
  exact vx_throwSW X.1.1 X.1.2.1 hst X.1.2.2.2.1 th.1 th_names (X.w hk) (X.w th.2.2) (X.2.2.2.2.1.2.1 _ hw) (fun w h => X.th (th.2.1 w h)) (fun w h => th_ot (by
      rcases List.mem_cons.mp h with h | h
      · rw [h]; exact Or.inl hk
      · rcases List.mem_cons.mp h with h | h
        · rw [h]; exact Or.inl th.2.2
        · exact th.2.1 w h)) X.2.2.2.2.1.2.2.2.2.1.1 X.2.2.2.2.1.2.2.2.2.1.2 hS (by rw [hl.1, X.1.2.2.1]) d0 d3 d4 d6 d9 (fun x hx => (hnt x hx).elim)
    (by rw [hRR]; exact hR.1) (by rw [hRR]; exact hR.2) (by rw [hRR]; omega) (by rw [hRR]; omega) X.2.2.2.1
    (fun t hv hz ho => ⟨rfl, hP.cut ho, Nat.le_trans hS.1 hz, fun q h1 h2 => (ho q (Nat.lt_of_lt_of_le h1 hS.1)).trans (hS.2.1 q h1 h2)⟩) hS.2.2 hc.1 hs.1
abbrev ovI (o : Int32 ⊕ String) : Option Value ⊕ String := Sum.map (fun v => some (.int v)) id o
abbrev ovU (o : Unit ⊕ String) : Option Value ⊕ String := Sum.map (fun _ => none) id o
theorem r_runX (X : CX M G cc nL own rm) {mc ms : Nat} (hR9 : kc + mc ≤ rm.cells ∧ ks + ms ≤ rm.slots) {r : Option Value} {g1 : AH} {a : Array Value} {st0 : List Value}
    (hrun : ∀ (H : Heap) (locs : List Loc) (ls : Array Slot), Pic G g H → va_S (gA G) (mS M).heap H locs → lv_has ls nL L → vx_Run M.1 M.2.1 M.2.2.1 M.2.2.2.1 (mS M) (mI M) (mA M) (mB M) (mM M) (mC M) H locs kc ks mc ms (F0 (mI M) pc ls st0) st (QcX G (.inl r) g1 a) (XcX G (.inl r) g1) (gA G))
    (kk : WW M G nL Q (kc + mc) (ks + ms) g1 (pc + 3) L (r.toList ++ st)) : WW M G nL Q kc ks g pc L st0 := by
  intro hk1 hk2 H locs ls hP hS hl T hT X9
  rcases hrun H locs ls hP hS hl T hT X9 with ⟨v, st₀, t, T', Lc, h0, X', hL, e1, e2, ⟨⟨hv, hp⟩, hz, hk⟩, stp⟩ | ⟨q, st₀, t, T', Lc, E, ce, h0, X', hL, e1, e2, hF, -⟩
  · cases hv
    rw [h0] at hz hk
    obtain ⟨t2, a1, b1⟩ := kk (by rw [X.2.2.2.2.2]; exact hR9.1) (by rw [X.2.2.2.2.2]; exact hR9.2) T'.heap (locs ++ Lc) ls (by rw [e1]; exact hp)
      ⟨Nat.le_trans hS.1 (by rw [e1]; exact hz), fun q h1 h2 => by rw [e1, hk q (Nat.lt_of_lt_of_le h1 hS.1) h2]; exact hS.2.1 q h1 h2, fun q hq => by
        rcases List.mem_append.mp hq with h | h
        · exact hS.2.2 q h
        · exact hL q h⟩ hl T' rfl X'
    exact ⟨t2, stp t2 a1, b1⟩
  · exact hF.elim
/-- a callee has thrown; it isn't caught here -/
theorem r_runT (X : CX M G cc nL own rm) (hnt : ∀ x ∈ (mC M).exceptionTable.toList, False) {mc ms mc9 ms9 : Nat} (hc9 : kc + mc ≤ mc9) (hs9 : ks + ms ≤ ms9) {E9 : String} {g1 : AH} {a : Array Value} {st0 : List Value}
    (hrun : ∀ (H : Heap) (locs : List Loc) (ls : Array Slot), Pic G g H → va_S (gA G) (mS M).heap H locs → lv_has ls nL L → vx_Run M.1 M.2.1 M.2.2.1 M.2.2.2.1 (mS M) (mI M) (mA M) (mB M) (mM M) (mC M) H locs kc ks mc ms (F0 (mI M) pc ls st0) st (QcX G (.inr E9) g1 a) (XcX G (.inr E9) g1) (gA G)) :
    WW M G nL (RX M G (.inr E9) g1 mc9 ms9) kc ks g pc L st0 := by
  intro hk1 hk2 H locs ls hP hS hl T hT X9
  rcases hrun H locs ls hP hS hl T hT X9 with ⟨v, st₀, t, T', Lc, h0, X', hL, e1, e2, hF, -⟩ | ⟨q, st₀, t, T', Lc, E, ce, h0, X', hL, e1, e2, ⟨rfl, hp, hz, hk⟩, hce, hcv, hcl, stp⟩
  · exact hF.elim
  · rw [h0] at hz hk
    have hS' : va_S (gA G) (mS M).heap T'.heap (locs ++ Lc) := ⟨Nat.le_trans hS.1 (by rw [e1]; exact hz), fun q h1 h2 => by rw [e1, hk q (Nat.lt_of_lt_of_le h1 hS.1) h2]; exact hS.2.1 q h1 h2, fun q hq => by
        rcases List.mem_append.mp hq with h | h
        · exact hS.2.2 q h
        · exact hL q h⟩
    obtain ⟨t2, a1, b1⟩ := vx_out (H := T'.heap) (pc := pc) (ls := ls) (rest := st) (E := E) (ce := ce) (Qc := QcX G (.inr E) g1) (XC := XcX G (.inr E) g1) (free := gA G) (fun x hx => (hnt x hx).elim) X.2.2.2.1 (by rw [e1]; exact hce) hcv hcl
      (fun t9 ht9 _ => ⟨rfl, by rw [ht9, e1]; exact hp, hS'.F ht9⟩) hS'.2.2 hc9 hs9 T' rfl X'
    exact ⟨t2, stp.trans a1, b1⟩
theorem r_callVX (X : CX M G cc nL own rm) {l : Launch} (hl0 : M.2.1 = l) {i n ci b : Nat} {y : MethodName} {bytes : ByteArray} {maxL : Nat} {ret : Option FieldType} {rmc : Room} {As : List Value} {r : Option Value} {g1 : AH} {st0 : List Value} {rc : vw_C} (d : decode cc pc = .ok (.invokevirtual i, 3)) (yl : YL 0 y bytes maxL ret n) (hm : Cond.methodLink own i y ∈ TBL) (hc : vwCl[ci]? = some rc) (hy : y.cls = rc.1) (hb : isO ci g b = some ())
    (ct : CtX l G y bytes maxL ret rmc (.ref b :: As) g (.inl r) g1) (hst : st0 = As.reverse ++ .ref b :: st) (hn : As.length = n) (hcat : (st.map fun v => v.category).sum ≤ 8) (hR : (rmc.frames + 1 ≤ rm.frames ∧ 8 + (maxL + 11) + rmc.locals ≤ rm.locals) ∧ kc + rmc.cells ≤ rm.cells ∧ ks + rmc.slots ≤ rm.slots)
    (kk : WW M G nL Q (kc + rmc.cells) (ks + rmc.slots) g1 (pc + 3) L (r.toList ++ st)) : WW M G nL Q kc ks g pc L st0 := by
  subst hl0
  refine r_runX X hR.2 (a := (Value.ref b :: As).toArray) (fun H locs ls hP hS hl => ?_) kk
  have h5 := yl.2.2.2.2.1 rfl
  exact vx_runV (C := y.cls) X.1 ct ⟨X.callB yl hm hR.1, X.w h5.1, X.w h5.2⟩ ⟨PcG.blind, by rw [hy]; exact X.recv hP hc hb, X.pre hP hS⟩ rfl hn hl.1 hst (by show 2 * 0 + _ ≤ 8; omega) d (by rw [X.2.2.2.2.2]; exact hR.2)
theorem r_thrV (X : CX M G cc nL own rm) {l : Launch} (hl0 : M.2.1 = l) (hnt : ∀ x ∈ (mC M).exceptionTable.toList, False) {i n ci b : Nat} {y : MethodName} {bytes : ByteArray} {maxL : Nat} {ret : Option FieldType} {rmc : Room} {As : List Value} {E9 : String} {g1 : AH} {st0 : List Value} {rc : vw_C} {mc ms : Nat} (d : decode cc pc = .ok (.invokevirtual i, 3)) (yl : YL 0 y bytes maxL ret n) (hm : Cond.methodLink own i y ∈ TBL) (hc : vwCl[ci]? = some rc) (hy : y.cls = rc.1) (hb : isO ci g b = some ())
    (ct : CtX l G y bytes maxL ret rmc (.ref b :: As) g (.inr E9) g1) (hst : st0 = As.reverse ++ .ref b :: st) (hn : As.length = n) (hcat : (st.map fun v => v.category).sum ≤ 8) (hR : rmc.frames + 1 ≤ rm.frames ∧ 8 + (maxL + 11) + rmc.locals ≤ rm.locals) (hc9 : kc + rmc.cells ≤ mc ∧ mc ≤ rm.cells) (hs9 : ks + rmc.slots ≤ ms ∧ ms ≤ rm.slots) : WW M G nL (RX M G (.inr E9) g1 mc ms) kc ks g pc L st0 := by
  subst hl0
  refine r_runT X hnt hc9.1 hs9.1 (a := (Value.ref b :: As).toArray) (st := st) (fun H locs ls hP hS hl => ?_)
  have h5 := yl.2.2.2.2.1 rfl
  exact vx_runV (C := y.cls) X.1 ct ⟨X.callB yl hm hR, X.w h5.1, X.w h5.2⟩ ⟨PcG.blind, by rw [hy]; exact X.recv hP hc hb, X.pre hP hS⟩ rfl hn hl.1 hst (by show 2 * 0 + _ ≤ 8; omega) d (by rw [X.2.2.2.2.2]; omega)
theorem r_callSX (X : CX M G cc nL own rm) {l : Launch} (hl0 : M.2.1 = l) {i n : Nat} {y : MethodName} {bytes : ByteArray} {maxL : Nat} {ret : Option FieldType} {rmc : Room} {As : List Value} {r : Option Value} {g1 : AH} {st0 : List Value} (d : decode cc pc = .ok (.invokestatic i, 3)) (yl : YL 1 y bytes maxL ret n) (hm : Cond.methodLink own i y ∈ TBL)
    (ct : CtX l G y bytes maxL ret rmc As g (.inl r) g1) (hst : st0 = As.reverse ++ st) (hn : As.length = n) (hcat : (st.map fun v => v.category).sum ≤ 8) (hR : (rmc.frames + 1 ≤ rm.frames ∧ 8 + (maxL + 11) + rmc.locals ≤ rm.locals) ∧ kc + rmc.cells ≤ rm.cells ∧ ks + rmc.slots ≤ rm.slots)
    (kk : WW M G nL Q (kc + rmc.cells) (ks + rmc.slots) g1 (pc + 3) L (r.toList ++ st)) : WW M G nL Q kc ks g pc L st0 := by
  subst hl0
  refine r_runX X hR.2 (a := As.toArray) (fun H locs ls hP hS hl => ?_) kk
  exact vx_runS X.1 ct ⟨X.callB yl hm hR.1, X.w (yl.2.2.2.2.2.1 rfl)⟩ ⟨PcG.blind, X.pre hP hS⟩ rfl hn hl.1 hst (by show 2 * 0 + _ ≤ 8; omega) d (by rw [X.2.2.2.2.2]; exact hR.2)
theorem r_thrS (X : CX M G cc nL own rm) {l : Launch} (hl0 : M.2.1 = l) (hnt : ∀ x ∈ (mC M).exceptionTable.toList, False) {i n : Nat} {y : MethodName} {bytes : ByteArray} {maxL : Nat} {ret : Option FieldType} {rmc : Room} {As : List Value} {E9 : String} {g1 : AH} {st0 : List Value} {mc ms : Nat} (d : decode cc pc = .ok (.invokestatic i, 3)) (yl : YL 1 y bytes maxL ret n) (hm : Cond.methodLink own i y ∈ TBL)
    (ct : CtX l G y bytes maxL ret rmc As g (.inr E9) g1) (hst : st0 = As.reverse ++ st) (hn : As.length = n) (hcat : (st.map fun v => v.category).sum ≤ 8) (hR : rmc.frames + 1 ≤ rm.frames ∧ 8 + (maxL + 11) + rmc.locals ≤ rm.locals) (hc9 : kc + rmc.cells ≤ mc ∧ mc ≤ rm.cells) (hs9 : ks + rmc.slots ≤ ms ∧ ms ≤ rm.slots) : WW M G nL (RX M G (.inr E9) g1 mc ms) kc ks g pc L st0 := by
  subst hl0
  refine r_runT X hnt hc9.1 hs9.1 (a := As.toArray) (st := st) (fun H locs ls hP hS hl => ?_)
  exact vx_runS X.1 ct ⟨X.callB yl hm hR, X.w (yl.2.2.2.2.2.1 rfl)⟩ ⟨PcG.blind, X.pre hP hS⟩ rfl hn hl.1 hst (by show 2 * 0 + _ ≤ 8; omega) d (by rw [X.2.2.2.2.2]; omega)
end RowsX
theorem ctX_of {l : Launch} {G : GG} {kind n : Nat} {y : MethodName} {bytes : ByteArray} {maxL : Nat} {ret : Option FieldType} {rm : Room} {av : List Value} {g g1 : AH} {o : Option Value ⊕ String} {L0 : List (Nat × Value)} (yl : YL kind y bytes maxL ret n) (hL : lv_args 0 av = L0) (hlen : (lg_sl av).length ≤ maxL)
    (body : ∀ M : MC, M.2.1 = l → CX M G bytes maxL y.cls rm → (mM M).sig.returnType = ret → (mM M).name = y.name → (∀ x ∈ (mC M).exceptionTable.toList, False) → WW M G maxL (RX M G o g1 rm.cells rm.slots) 0 0 g 0 L0 []) : CtX l G y bytes maxL ret rm av g o g1 := by
  refine vx_ofW (cc := bytes) (maxL := maxL) (ret := ret) yl.1 rfl ?_
  intro p e s m args below meth c s₁ B hml hnt hv
  obtain ⟨rfl, hP, hK, hSC, hB⟩ := hv
  have hts := atoms_spec (ws := cw y bytes maxL ret) B.pre
  rw [lg_entry_eq]
  have hl := lv_entry av (n := maxL) hlen
  rw [hL] at hl
  exact body (p, l, e, rm, s, m, av.toArray, below, meth, c) rfl ⟨⟨B.exec, B.bytes, hml, findClass_of_methodNamed B.named, fun w hw => hts w (List.mem_cons_of_mem _ hw)⟩, hK, hB, B.notSynchronized, hSC, rfl⟩ B.returns (name_of_methodNamed B.named B.method).1 hnt (Nat.zero_le _) (Nat.zero_le _) s.heap [] _ hP va_S.rf hl
end
section
section VZ9
variable {p : Program} {l : Launch} {e : Env} {R : Room} {s : State} {m : MethodId} {args : Array Value} {below : List Frame} {meth : Method} {c : Code} {H : Heap} {locs : List Loc} {cells slots : Nat}
theorem vz_back9 {T S : State} {R' : Room} {k n : Nat} (X : Stand p l e R s m args below meth c T locs cells slots) (Y : Stand p l e R' ((T.setVm s.vm).setFrames (.invoking m args :: below)) m args below meth c T [] 0 0) (Z : Stand p l e R' ((T.setVm s.vm).setFrames (.invoking m args :: below)) m args below meth c S [] k n) :
    Stand p l e R s m args below meth c S locs (cells + k) (slots + n) := by
  have hW0 : s.WarmedH ((T.setVm s.vm).setFrames (.invoking m args :: below)).vm := State.WarmedH.refl s
  refine { admits := X.admits, cas := X.cas, clock := X.clock, frames := X.frames, room := X.room, hears := X.hears, method := X.method, code := X.code, here := Z.here, tail := Z.tail, warmed := State.WarmedH.trans hW0 Z.warmed, limits := Z.limits.trans (Y.limits.symm.trans X.limits), bytes := Z.bytes.trans (Y.bytes.symm.trans X.bytes), same := ?_ }
  obtain ⟨e1, e2⟩ := Z.same
  rw [State.setFrames_setFrames] at e1
  have h2 : (T.setVm s.vm).sameButNew (S.setVm s.vm) [] k n := ⟨e1, e2⟩
  have h3 := X.same.trans h2
  rw [List.append_nil] at h3
  exact h3
end VZ9
/-! NoSuchElementException: its constructor's own pool differs; vz_ctorMadeS and vz_makeS are the given rows vx_ctorMadeS and vx_makeS turned to it -/
def vz_atS (own : String) (ic : Nat) (X : String) (ix : Nat) (rx : ByteArray) (names : List String) : List Cond := (Bundle.ownAtomsX own ic X ix rx names).filter vx_no
section VZK
variable {p : Program} {l : Launch} {e : Env} {R : Room} {s : State} {m₀ : MethodId} {args : Array Value} {below : List Frame} {meth : Method} {c : Code} {W : State} {locs : List Loc} {cells slots : Nat}
set_option maxHeartbeats 4000000 in
theorem vz_ctorMadeS (X : Stand p l e R s m₀ args below meth c W locs cells slots) (hexec : p.tables.exec = Jvm.exec) (htr : e.platform.stackTraces = false) {own cls : String} {names : List String} {ic ix : Nat} {rx : ByteArray} (x0 : decode rx 0 = .ok (.aload_n 0, 1)) (x1 : decode rx 1 = .ok (.aload_n 1, 1)) (x2 : decode rx 2 = .ok (.invokespecial ix, 3)) (x5 : decode rx 5 = .ok (.return_, 1))
    (hown : s.vm.findClass own = some m₀.cls) (hcls : Bundle.fit cls = true) (hnames : ∀ n ∈ names, Bundle.fit n = true)
    (h : ∀ a ∈ Bundle.ownAtomsX own ic cls ix rx names, a.before args s = true)
    (hlocs : ∀ x ∈ locs, ∀ cell, s.heap[x.base]? = some cell → cell.vm.isStatics = false)
    {a : Addr} {cX : ClassId} {kX : Class} (hfoundX : s.vm.findClass cls = some cX) (hkX : s.vm.classes[cX]? = some kX) (hcell : W.heap[a]? = some (freshCell cX kX)) (hnew : s.heap.size ≤ a)
    {msg : Value} (hmsg : msg.isRef = true)
    {g : JFrame} (hg : g.method = m₀) (hsize : g.locals.size = c.maxLocals) {rest : List Value} (hstack : g.stack = msg :: .ref a :: .ref a :: rest)
    (hd6 : decode c.code g.pc = .ok (.invokespecial ic, 3))
    (hRframes : names.length + 3 < R.frames) (hRlocals : 2 * g.monitorRoom + ((Value.ref a :: rest).map fun v => v.category).sum + (13 * (names.length + 1) + 42) ≤ R.locals) :
    ∃ (V : State) (ce : Cell) (L : List Loc), Stand p l e R s m₀ args below meth c (V.setCell a ce) (locs ++ L) cells slots ∧ (∀ y ∈ L, y.base = a) ∧ a < V.heap.size ∧ ce.cls = cX ∧ ce.vm = .none ∧
      ∀ target, Steps p.tables e below ((V.setCell a ce).setTop { g with stack := .ref a :: rest, pc := g.pc + 3 }) target → Steps p.tables e below (W.setTop g) target := by
  have howns : e.platform.frameOwnsMonitors = true := by rw [X.admits.platform]
  have hfin : e.platform.finalization = false := by rw [X.admits.platform]
  have hpl : e.platform.magicAccessors = ({} : Platform).magicAccessors := by rw [X.admits.platform]
  have a' : ∀ x, x ∈ Bundle.ownAtomsX own ic cls ix rx names → x.holds args s none s [] = true := fun x hx => h x hx
  obtain ⟨T, Z0, L, -, Y⟩ := ThrowableC.of_atoms (args := args) howns hfin hpl (fun x hx => h x (by simp [Bundle.ownAtomsX, hx]))
  obtain ⟨Z, M, LZ, LM, hnZ⟩ := Init0T.ofS_atoms (args := args) hpl L Y (fun x hx => h x (by simp [Bundle.ownAtomsX, hx]))
  obtain ⟨P1, Ps, hlen, L1, hL, hP1m, hlink1, hlink⟩ := Bundle.chainSX (args := args) hpl hnZ x0 x1 x2 x5 names cls hcls hnames (fun x hx => h x (by simp [Bundle.ownAtomsX, hx]))
  have hfound : s.vm.findClass cls = some P1.m.cls := findClass_of_methodNamed hP1m
  cases Option.some.inj (hfoundX.symm.trans hfound)
  obtain ⟨c1, kX', hc1, hk, hord, -, -, hn6⟩ := Cond.instantiable_spec (a' (.instantiable cls 6) (by simp [Bundle.ownAtomsX]))
  cases Option.some.inj (hc1.symm.trans hfound)
  cases Option.some.inj (hkX.symm.trans hk)
  have hsel0 : selectMethod e.platform s.vm P1.m.cls T.fill0 = .method T.fill0 := by
    obtain ⟨c2, r2, m2, q1, q2, q3, q4, -⟩ := Cond.selects_spec (a' (.selects cls Bundle.tFill0 Bundle.tFill0) (by simp [Bundle.ownAtomsX]))
    cases Option.some.inj (q1.symm.trans hfound)
    cases Option.some.inj (q2.symm.trans (State.methodFound?_of_named Y.fill0 (by decide)))
    cases Option.some.inj (q3.symm.trans Y.fill0)
    rw [Launch.admits_selectMethod X.admits]; exact q4
  have hselF : selectMethod e.platform s.vm P1.m.cls T.fill = .method T.fill := by
    obtain ⟨c2, r2, m2, q1, q2, q3, q4, -⟩ := Cond.selects_spec (a' (.selects cls Bundle.tFill Bundle.tFill) (by simp [Bundle.ownAtomsX]))
    cases Option.some.inj (q1.symm.trans hfound)
    cases Option.some.inj (q2.symm.trans (State.methodFound?_of_named Y.fill (by decide)))
    cases Option.some.inj (q3.symm.trans Y.fill)
    rw [Launch.admits_selectMethod X.admits]; exact q4
  obtain ⟨cellS0, hcS0, hiss⟩ := Y.statics
  obtain ⟨u0, hu0⟩ := Cond.staticRefV Y.unassigned L.unassignedStatic L.statics hcS0 hiss (a' (.isRef (.static Bundle.tN "UNASSIGNED_STACK" Bundle.steD)) (by simp [Bundle.ownAtomsX]))
  obtain ⟨sen, hsen⟩ := Cond.staticRefV Y.sentinel L.sentinelStatic L.statics hcS0 hiss (a' (.isRef (.static Bundle.tN "SUPPRESSED_SENTINEL" Bundle.listD)) (by simp [Bundle.ownAtomsX]))
  obtain ⟨ci198, i198, fB, hk198, hg198, ha198, hsB, -, hnB, htB, hffB⟩ := Cond.ownField (t := .object "java/lang/Object") Y.found L.cls (by decide +kernel) (a' (.fieldLink Bundle.tN 198 Bundle.tN "backtrace" "Ljava/lang/Object;") (by simp [Bundle.ownAtomsX])) (a' (.lays Bundle.tN Bundle.tN "backtrace" "Ljava/lang/Object;") (by simp [Bundle.ownAtomsX])) e.platform hpl
  obtain ⟨cellS, hcS', heS, -, hkeep⟩ := X.same.2.2.2.2.2 T.aS cellS0 hcS0
  have hcellS : W.heap[T.aS]? = some cellS := hcS'
  have hout' : ∀ i, (⟨T.aS, i⟩ : Loc) ∉ locs := fun i hmem => by
    have := hlocs _ hmem cellS0 hcS0
    rw [hiss] at this; cases this
  have hknownS : cellS.vm ≠ .unknown := by
    rw [heS]; intro hu
    rw [show cellS0.vm = .unknown from hu] at hiss
    cases hiss
  have hneS : T.aS ≠ a := Nat.ne_of_lt (Nat.lt_of_lt_of_le (Array.getElem?_eq_some_iff.mp hcS0).1 hnew)
  obtain ⟨iM, hffM⟩ := Y.msg
  obtain ⟨tyC, dC, hdC, hdnC⟩ := Cond.laysAt hfound hk Y.cause (a' (.lays cls Bundle.tN "cause" "Ljava/lang/Throwable;") (by simp [Bundle.ownAtomsX]))
  obtain ⟨tyS, dS, hdS, hdnS⟩ := Cond.laysAt hfound hk Y.stack (a' (.lays cls Bundle.tN "stackTrace" Bundle.steD) (by simp [Bundle.ownAtomsX]))
  obtain ⟨tyP, dP, hdP, hdnP⟩ := Cond.laysAt hfound hk Y.supp (a' (.lays cls Bundle.tN "suppressedExceptions" Bundle.listD) (by simp [Bundle.ownAtomsX]))
  obtain ⟨tyM, dM, hdM, hdnM⟩ := Cond.laysAt hfound hk hffM (a' (.lays cls Bundle.tN "detailMessage" "Ljava/lang/String;") (by simp [Bundle.ownAtomsX]))
  obtain ⟨tyB, dB, hdB, hdnB⟩ := Cond.laysAt hfound hk hffB (a' (.lays cls Bundle.tN "backtrace" "Ljava/lang/Object;") (by simp [Bundle.ownAtomsX]))
  have bC := Cond.laysApart hdB hdC hdnB hdnC (by rw [hnB, Y.causeName]; decide)
  have bS := Cond.laysApart hdB hdS hdnB hdnS (by rw [hnB, Y.stackName]; decide)
  have bP := Cond.laysApart hdB hdP hdnB hdnP (by rw [hnB, Y.suppName]; decide)
  have hskip : SkipFacts T e.platform s (fun u => u) u0 ((preparedCellV T.toThrowableT (freshCell P1.m.cls kX) a u0 sen).withEntry W.cur) :=
    ⟨{ ci198 := ci198, i198 := i198, fBack := fB }, ⟨hk198, hg198, ha198, hsB⟩, by
      have := fresh_default (c := P1.m.cls) tyB
      rw [htB] at this
      simpa [preparedCellV, Cell.setSlot, Cell.withEntry, Array.getElem?_setIfInBounds, bC, bS, bP, bC.symm, bS.symm, bP.symm, defaultValue] using this, fun _ _ => rfl⟩
  obtain ⟨tm, methC, cdC, kC, vm₁, hnC, -, -, -, -, -, -, -, hW₁, st1⟩ := Steps.initColdS (tb := p.tables) (e := e) (below := below) (s := s) (U := W) X.here hexec X.warmed hpl hown (t := Bundle.initS cls) rfl rfl (Bundle.fit_spec hcls).2
    (a' (.methodLink own ic (Bundle.initS cls)) (by simp [Bundle.ownAtomsX])) (h (.instanceMethod (Bundle.initS cls)) (by cases names <;> simp [Bundle.ownAtomsX, Bundle.chainSAtomsX, Bundle.passSAtoms])) (bytes := rx) (maxL := 2) (h (.code (Bundle.initS cls) rx 2 none) (by cases names <;> simp [Bundle.ownAtomsX, Bundle.chainSAtomsX, Bundle.passSAtoms]))
    (f := g) hg (a := a) (msg := msg) (rest := .ref a :: rest) hstack hd6
  cases Option.some.inj (hnC.symm.trans hP1m)
  have X₁ := X.noted hW₁
  obtain ⟨vm₂, X₂, st2⟩ := X₁.ctorMessageOffV hexec (g := { g with stack := .ref a :: rest }) hg hsize T L Z LZ M LM (P1 :: Ps)
    (fun P hP => by rcases List.mem_cons.mp hP with rfl | hP; exact L1; exact hL P hP) ⟨hlink1, hlink⟩ (u0 := u0) (sen := sen) (self := a) hmsg (cell := freshCell P1.m.cls kX) (cellS := cellS)
    hcell (fun _ => by simp) (by simp) rfl rfl hsel0 hselF hcellS hneS hknownS (by rw [hkeep _ (hout' _)]; exact hu0) (by rw [hkeep _ (hout' _)]; exact hsen)
    (Takes.of_laid hk hord tyC (by rw [Y.causeType]; rfl)) (Takes.of_laid hk hord tyS (by rw [Y.stackType]; exact fits_refV_array _ u0)) (Takes.of_laid hk hord tyP (by rw [Y.suppType]; exact fits_refV_object _ sen))
    (Takes.of_laid hk hord tyM (by rw [Y.msgType]; exact fits_refV_object _ ⟨msg, hmsg⟩)) Y.objLocals hskip htr [] hd6
    (by simp only [List.length_cons, hlen]; omega) (by simp only [List.length_cons, hlen]; exact hRlocals)
  have hlt : a < ((W.setVm vm₁).setVm vm₂).heap.size := (Array.getElem?_eq_some_iff.mp hcell).1
  refine ⟨(W.setVm vm₁).setVm vm₂, _, _, X₂, fun y hy => ?_, hlt, rfl, rfl, fun target hwalk => st1 _ (fun acts => ?_)⟩
  · simp only [List.mem_cons, List.not_mem_nil, or_false] at hy
    rcases hy with rfl | rfl | rfl | rfl | rfl <;> rfl
  · rw [doInvoke_state]
    exact st2 _ hwalk
end VZK
section VZM
variable {p : Program} {l : Launch} {e : Env} {R : Room} {s : State} {m : MethodId} {args : Array Value} {below : List Frame} {meth : Method} {c : Code} {H : Heap} {locs : List Loc} {cells slots : Nat} {Q : State → Prop}
variable {ls : Array Slot} {rest : List Value} {D : va_G} {cl : List vw_C} {tys : List (ClassId × FieldType)} {ws : va_W}
set_option maxHeartbeats 4000000 in
theorem vz_makeS {cc : ByteArray} {pc : Nat} (hexec : p.tables.exec = Jvm.exec) (hb : c.code = cc) (hl : l.stackTraces = false) {own cls text : String} {names : List String} {ik is ic sa ix : Nat} {rx : ByteArray} {A : Nat → Prop} (x0 : decode rx 0 = .ok (.aload_n 0, 1)) (x1 : decode rx 1 = .ok (.aload_n 1, 1)) (x2 : decode rx 2 = .ok (.invokespecial ix, 3)) (x5 : decode rx 5 = .ok (.return_, 1))
    (hown : s.vm.findClass own = some m.cls) (hcls : Bundle.fit cls = true) (hnames : ∀ n ∈ names, Bundle.fit n = true)
    (hk : (Cond.classLink own ik cls).before args s = true) (hini : (Cond.initialized cls).before args s = true) (hstr : vk_R own is text sa s) (hat : ∀ w ∈ vz_atS own ic cls ix rx names, w.before args s = true)
    (hgood : ∀ w ∈ Cond.classLink own ik cls :: Cond.initialized cls :: vz_atS own ic cls ix rx names, vx_ot w = true)
    (hU : vx_Zq Bundle.tN "UNASSIGNED_STACK" Bundle.steD A s s.heap) (hN : vx_Zq Bundle.tN "SUPPRESSED_SENTINEL" Bundle.listD A s s.heap) (hS : va_S A s.heap H locs) (hsize : ls.size = c.maxLocals)
    (d0 : decode cc pc = .ok (.new ik, 3)) (d3 : decode cc (pc + 3) = .ok (.dup, 1)) (d4 : decode cc (pc + 4) = .ok (.ldc is, 2)) (d6 : decode cc (pc + 6) = .ok (.invokespecial ic, 3))
    (hRframes : names.length + 3 < R.frames) (hRlocals : (rest.map fun v => v.category).sum + (13 * (names.length + 1) + 43) ≤ R.locals) (hRcells : cells + 1 ≤ R.cells) (hRslots : slots + 6 ≤ R.slots)
    (kk : ∀ (q : Nat) (H1 : Heap) (ce : Cell), H1[q]? = some ce → ce.vm = .none → s.vm.findClass cls = some ce.cls → H.size ≤ H1.size → (∀ b : Nat, b < H.size → H1[b]? = H[b]?) → W p l e R s m args below meth c H1 locs (cells + 1) (slots + 6) Q (F0 m (pc + 9) ls (.ref q :: rest))) :
    W p l e R s m args below meth c H locs cells slots Q (F0 m pc ls rest) := by
  intro T hT X
  subst hT
  have htr : e.platform.stackTraces = false := (show e.platform.stackTraces = l.stackTraces by rw [X.admits.platform]).trans hl
  have Y := vx_rebase X (R' := { frames := R.frames, locals := R.locals, cells := 1, slots := 6 }) (Nat.le_refl _) (Nat.le_refl _) hRcells hRslots
  obtain ⟨s', hA'⟩ : ∃ z, z = (T.setVm s.vm).setFrames (.invoking m args :: below) := ⟨_, rfl⟩
  rw [← hA'] at Y
  have hvm : s'.vm = s.vm := by rw [hA']; rfl
  have hhp : s'.heap = T.heap := by rw [hA']; rfl
  have hW0 : s.WarmedH s'.vm := by rw [hvm]; exact State.WarmedH.refl s
  have hat' : ∀ w ∈ vz_atS own ic cls ix rx names, w.before args s' = true := fun w hw => vx_ot_at hW0 hvm.symm (hgood w (List.mem_cons_of_mem _ (List.mem_cons_of_mem _ hw))) (hat w hw)
  have hk' : (Cond.classLink own ik cls).before args s' = true := vx_ot_at hW0 hvm.symm (hgood _ List.mem_cons_self) hk
  have hini' : (Cond.initialized cls).before args s' = true := vx_ot_at hW0 hvm.symm (hgood _ (List.mem_cons_of_mem _ List.mem_cons_self)) hini
  have hU' : vx_Zq Bundle.tN "UNASSIGNED_STACK" Bundle.steD A s' s'.heap := by rw [hhp]; exact vx_Zq.moved hW0.alike (hU.kept hS.2.1)
  have hN' : vx_Zq Bundle.tN "SUPPRESSED_SENTINEL" Bundle.listD A s' s'.heap := by rw [hhp]; exact vx_Zq.moved hW0.alike (hN.kept hS.2.1)
  have h : ∀ w ∈ Bundle.ownAtomsX own ic cls ix rx names, w.before args s' = true := vx_own hat' (vx_isRefq hU'.1) (vx_isRefq hN'.1) hU'.2.word hN'.2.word
  have hown' : s'.vm.findClass own = some m.cls := by rw [hvm]; exact hown
  have hins : (Cond.instantiable cls 6).before args s' = true := h _ (by simp [Bundle.ownAtomsX])
  obtain ⟨vm₁, cX, kX, hfX, hkX, -, -, X₁, st1⟩ := Y.newCold hexec (own := own) (C := cls) (index := ik) (n := 6) hown' hk' hins hini'
    (g := F0 m pc ls rest) rfl (by rw [hb]; exact d0) (Nat.le_refl _) (Nat.le_refl _)
  generalize hT1 : (T.setVm vm₁).pushCell { cls := cX, slots := kX.instanceTypes.map defaultValue, vm := .none } = T1 at X₁ st1
  have hcat : (Value.ref T.heap.size).category = 1 := rfl
  have hcellA : T1.heap[T.heap.size]? = some (freshCell cX kX) := by rw [← hT1]; exact State.heap_pushCell_size _ _
  have d3' : decode c.code (pc + 3) = .ok (.dup, 1) := by rw [hb]; exact d3
  have d4' : decode c.code (pc + 4) = .ok (.ldc is, 2) := by rw [hb]; exact d4
  have hstr' : vk_R own is text sa s' := vk_R.warm hW0 hstr
  obtain ⟨V, ce, L, Z, hL, hlt, hcl9, hvm9, st⟩ := vz_ctorMadeS X₁ hexec htr x0 x1 x2 x5 (own := own) (cls := cls) (names := names) (ic := ic) hown' hcls hnames h (fun x hx => nomatch hx) hfX hkX hcellA (by rw [hhp]; exact Nat.le_refl _) (msg := .ref sa) rfl
    (g := { method := m, pc := pc + 6, locals := ls, stack := .ref sa :: .ref T.heap.size :: .ref T.heap.size :: rest, locked := none }) rfl hsize (rest := rest) rfl
    (by rw [hb]; exact d6) hRframes (by simp only [List.map_cons, List.sum_cons, hcat]; omega)
  have Z0 := Stand.forget (locs := []) Z (fun y hy => by rw [hL y hy, hhp]; exact Nat.le_refl _)
  obtain ⟨f1, f2⟩ := vx_frame Z0.same
  rw [hhp] at f1 f2
  have hcid : s.vm.findClass cls = some ce.cls := by
    rw [hcl9]
    rw [hvm] at hfX
    exact hfX
  have hh : (V.setCell T.heap.size ce).heap[T.heap.size]? = some ce := heapAt_setCell_self (s := V) ce hlt
  subst hA'
  have X5 := vz_back9 X Y Z0
  have X6 : Stand p l e R s m args below meth c (V.setCell T.heap.size ce) locs (cells + 1) (slots + 6) := { X5 with same := X5.same.mono (by omega) (by omega) }
  obtain ⟨t, a1, b1⟩ := kk T.heap.size (V.setCell T.heap.size ce).heap ce hh hvm9 hcid f1 (fun b hb => f2 b hb (fun z hz => nomatch hz)) _ rfl X6
  refine ⟨t, st1 _ ?_, b1⟩
  show Steps p.tables e below (T1.setTop { method := m, pc := pc + 3, locals := ls, stack := .ref T.heap.size :: rest, locked := none }) _
  jvm_step X₁.here [X₁.here.top, hexec, d3', Value.category]
  exact X₁.ldcString hexec (own := own) (text := text) (index := is) (a := sa) hown' hstr'.1 hstr'.2
    (g := { method := m, pc := pc + 4, locals := ls, stack := .ref T.heap.size :: .ref T.heap.size :: rest, locked := none }) rfl d4' _ (st _ a1)
end VZM
section RowsN
variable {p : Program} {l : Launch} {e : Env} {R : Room} {s : State} {m : MethodId} {args : Array Value} {below : List Frame} {meth : Method} {c : Code} {H : Heap} {locs : List Loc} {cells slots : Nat} {Q : State → Prop} {ls : Array Slot} {rest : List Value}
theorem vz_athrow {cc : ByteArray} {pc : Nat} (hexec : p.tables.exec = Jvm.exec) (hb : c.code = cc) {q : Addr} (hdg : decode cc pc = .ok (.athrow, 1)) (k : vx_W p l e R s m args below meth c H locs cells slots Q (F0 m pc ls rest) q) : W p l e R s m args below meth c H locs cells slots Q (F0 m pc ls (.ref q :: rest)) := by
  intro T hT X
  obtain ⟨t, st, hq⟩ := k T hT X
  refine ⟨t, ?_, hq⟩
  have hdg' : decode c.code pc = .ok (.athrow, 1) := by rw [hb]; exact hdg
  jvm_step X.here [X.here.top, hexec, hdg', athrow.wp_sem]
  exact st
end RowsN
section RowsN2
variable {M : MC} {G : GG} {cc : ByteArray} {nL : Nat} {own : String} {rm : Room} {Q : State → Prop} {kc ks : Nat} {g : AH} {pc : Nat} {L : List (Nat × Value)} {st : List Value}
def THN (own : String) (ic : Nat) (E9 : String) (ix : Nat) (rx : ByteArray) : Prop := Bundle.fit E9 = true ∧ (∀ w ∈ vz_atS own ic E9 ix rx ["java/lang/RuntimeException", "java/lang/Exception"], w ∈ TBL ∨ w ∈ extraW) ∧ Cond.initialized E9 ∈ TBL ∧ decode rx 0 = .ok (.aload_n 0, 1) ∧ decode rx 1 = .ok (.aload_n 1, 1) ∧ decode rx 2 = .ok (.invokespecial ix, 3) ∧ decode rx 5 = .ok (.return_, 1)
theorem r_throwN (X : CX M G cc nL own rm) {l : Launch} (hl0 : M.2.1 = l) (hst : l.stackTraces = false) (hnt : ∀ x ∈ (mC M).exceptionTable.toList, False) {ik is ic j ix : Nat} {rx : ByteArray} {E9 tx : String} {mc ms : Nat} (th : THN own ic E9 ix rx) (hk : Cond.classLink own ik E9 ∈ TBL) (hw : (own, is, tx, j) ∈ strTab)
    (d0 : decode cc pc = .ok (.new ik, 3)) (d3 : decode cc (pc + 3) = .ok (.dup, 1)) (d4 : decode cc (pc + 4) = .ok (.ldc is, 2)) (d6 : decode cc (pc + 6) = .ok (.invokespecial ic, 3)) (d9 : decode cc (pc + 9) = .ok (.athrow, 1))
    (hR : 5 < rm.frames ∧ (st.map fun v => v.category).sum + 82 ≤ rm.locals) (hc : kc + 1 ≤ mc ∧ mc ≤ rm.cells) (hs : ks + 6 ≤ ms ∧ ms ≤ rm.slots) : WW M G nL (RX M G (.inr E9) (hcut g) mc ms) kc ks g pc L st := by
  subst hl0
  intro hk1 hk2 H locs ls hP hS hl
  have hRR := X.2.2.2.2.2
  obtain ⟨th1, th2, th3, x0, x1, x2, x5⟩ := th
  refine vz_makeS X.1.1 X.1.2.1 hst x0 x1 x2 x5 X.1.2.2.2.1 th1 th_names (X.w hk) (X.w th3) (X.2.2.2.2.1.2.1 _ hw) (fun w h => X.th (th2 w h)) (fun w h => th_ot (by
      rcases List.mem_cons.mp h with h | h
      · rw [h]; exact Or.inl hk
      · rcases List.mem_cons.mp h with h | h
        · rw [h]; exact Or.inl th3
        · exact th2 w h)) X.2.2.2.2.1.2.2.2.2.1.1 X.2.2.2.2.1.2.2.2.2.1.2 hS (by rw [hl.1, X.1.2.2.1]) d0 d3 d4 d6
    (by rw [hRR]; exact hR.1) (by rw [hRR]; exact hR.2) (by rw [hRR]; omega) (by rw [hRR]; omega) (fun q H1 ce h1 h2 h3 hz ho => ?_)
  have hS1 : va_S (gA G) (mS M).heap H1 locs := ⟨Nat.le_trans hS.1 hz, fun b b1 b2 => (ho b (Nat.lt_of_lt_of_le b1 hS.1)).trans (hS.2.1 b b1 b2), hS.2.2⟩
  exact vz_athrow X.1.1 X.1.2.1 d9 (vx_out (fun x hx => (hnt x hx).elim) X.2.2.2.1 h1 h2 h3 (fun t ht _ => ⟨rfl, by rw [ht]; exact hP.cut ho, hS1.F ht⟩) hS1.2.2 hc.1 hs.1)
end RowsN2
end
section
def xW (w : Cond) : Bool := decide (w ∈ extraW)
theorem th_of {L : List Cond} (h1 : ∀ w ∈ L, w ∈ lw_tbl) (h2 : L.all (fun w => goodWord w || xW w) = true) : ∀ w ∈ L, w ∈ TBL ∨ w ∈ extraW := fun w h => by
  have h3 := List.all_eq_true.mp h2 w h
  rw [Bool.or_eq_true] at h3
  rcases h3 with h3 | h3
  · exact Or.inl (List.mem_filter.mpr ⟨List.mem_append_right _ (h1 w h), h3⟩)
  · exact Or.inr (of_decide_eq_true h3)
theorem th_X8_94 : TH RX8 94 "java/lang/IllegalStateException" := ⟨by decide +kernel, th_of (by decide +kernel) (by decide +kernel), tb1 (i := 30) rfl rfl⟩
theorem th_X8_108 : TH RX8 108 "java/lang/IllegalArgumentException" := ⟨by decide +kernel, th_of (by decide +kernel) (by decide +kernel), tb1 (i := 29) rfl rfl⟩
theorem th_X8_195 : TH RX8 195 "java/lang/IndexOutOfBoundsException" := ⟨by decide +kernel, th_of (by decide +kernel) (by decide +kernel), tb1 (i := 32) rfl rfl⟩
theorem th_X8_216 : THN RX8 216 "java/util/NoSuchElementException" 13 prog_42_method_4_code := ⟨by decide +kernel, th_of (by decide +kernel) (by decide +kernel), tb1 (i := 33) rfl rfl, by decide +kernel, by decide +kernel, by decide +kernel, by decide +kernel⟩
theorem k_X8_90 : Cond.classLink RX8 90 "java/lang/IllegalStateException" ∈ TBL := tb5 (i := 69) rfl rfl
theorem k_X8_104 : Cond.classLink RX8 104 "java/lang/IllegalArgumentException" ∈ TBL := tb5 (i := 55) rfl rfl
theorem k_X8_191 : Cond.classLink RX8 191 "java/lang/IndexOutOfBoundsException" ∈ TBL := tb5 (i := 149) rfl rfl
theorem k_X8_212 : Cond.classLink RX8 212 "java/util/NoSuchElementException" ∈ TBL := tb6 (i := 62) rfl rfl
theorem k_L_59 : Cond.classLink RL 59 "java/lang/IllegalStateException" ∈ TBL := tb5 (i := 63) rfl rfl
theorem k_L_64 : Cond.classLink RL 64 "java/lang/IllegalArgumentException" ∈ TBL := tb5 (i := 49) rfl rfl
theorem k_L_69 : Cond.classLink RL 69 "java/lang/IndexOutOfBoundsException" ∈ TBL := tb5 (i := 136) rfl rfl
theorem k_L_143 : Cond.classLink RL 143 "java/util/NoSuchElementException" ∈ TBL := tb6 (i := 45) rfl rfl
end
section
abbrev n32 (r : UInt32) : Prop := r &&& 0x7fffffff ≤ 0x7f800000
abbrev n64 (r : UInt64) : Prop := r &&& 0x7fffffffffffffff ≤ 0x7ff0000000000000
/-! String constants: length() and charAt() -/
theorem j_38 : Cond.fieldLink RJ0 38 "java/lang/String" "COMPACT_STRINGS" "Z" ∈ TBL := tb2 (i := 65) rfl rfl
theorem j_1053 : Cond.fieldLink RJ0 1053 "jdk/internal/util/Preconditions" "SIOOBE_FORMATTER" "Ljava/util/function/BiFunction;" ∈ TBL := tb2 (i := 81) rfl rfl
theorem j_9 : Cond.fieldLink RJ0 9 "java/lang/String" "value" "[B" ∈ TBL := tb5 (i := 31) rfl rfl
theorem j_15 : Cond.fieldLink RJ0 15 "java/lang/String" "coder" "B" ∈ TBL := tb5 (i := 32) rfl rfl
def strLen (k : Nat) : Option Int32 := if k < nST then some (Int32.ofNat (bytST k).length) else none
def strAt (k : Nat) (q : Int32) : Option Int32 := if k < nST then (if outI q (bytST k).length then none else some ((bytST k).getD q.toNatClampNeg 0)) else none
theorem bytST_ok : ∀ k : Nat, k < nST → (bytST k).length < 2 ^ 31 ∧ ∀ b ∈ bytST k, ((b &&& 255).toUInt32 % 65536).toInt32 = b ∧ narrow .char (.int b) = .int b := by decide +kernel
section Str
variable {M : MC} {G : GG} {cc : ByteArray} {nL : Nat} {own : String} {rm : Room} {Q : State → Prop} {kc ks : Nat} {g : AH} {pc : Nat} {L : List (Nat × Value)} {st : List Value}
theorem CX.str (X : CX M G cc nL own rm) {k : Nat} (hk : k < nST) : va_O "java/lang/String" (G.2.2.1 k) (gA G) (mS M) (mS M).heap ∧ va_OF "java/lang/String" "coder" "B" (.int 0) (G.2.2.1 k) (gA G) (mS M) (mS M).heap ∧ va_OF "java/lang/String" "value" "[B" (.ref (G.2.2.2.1 k)) (G.2.2.1 k) (gA G) (mS M) (mS M).heap ∧ va_T .byte (G.2.2.2.1 k) (bytST k).length (fun j => .int ((bytST k).getD j 0)) (gA G) (mS M) (mS M).heap := X.2.2.2.2.1.1 k hk
theorem r_sgetf (X : CX M G cc nL own rm) {i q : Nat} {n d : String} {v : Value} (dd : decode cc pc = .ok (.getfield i, 3)) (hw : Cond.fieldLink own i "java/lang/String" n d ∈ TBL) (hE : va_OF "java/lang/String" n d v q (gA G) (mS M) (mS M).heap) (kk : WW M G nL Q kc ks g (pc + 3) L (v :: st)) : WW M G nL Q kc ks g pc L (.ref q :: st) :=
  fun hk1 hk2 H locs ls hP hS hl => vk_getf X.1.1 X.1.2.1 hE hS X.1.2.2.2.1 (X.w hw) (fun _ h => h) dd (kk hk1 hk2 H locs ls hP hS hl)
theorem r_gets (X : CX M G cc nL own rm) {i : Nat} {C n d : String} {v : Value} (dd : decode cc pc = .ok (.getstatic i, 3)) (hw : Cond.fieldLink own i C n d ∈ TBL) (hZ : va_Z C n d v (gA G) (mS M) (mS M).heap) (kk : WW M G nL Q kc ks g (pc + 3) L (v :: st)) : WW M G nL Q kc ks g pc L st :=
  fun hk1 hk2 H locs ls hP hS hl => va_gets X.1.1 X.1.2.1 hZ hS X.1.2.2.2.1 (X.w hw) (fun _ h => h) dd (kk hk1 hk2 H locs ls hP hS hl)
theorem r_tlen (X : CX M G cc nL own rm) {t N : Nat} {f : Nat → Value} (dd : decode cc pc = .ok (.arraylength, 1)) (hT : va_T .byte t N f (gA G) (mS M) (mS M).heap) (kk : WW M G nL Q kc ks g (pc + 1) L (.int (Int32.ofNat N) :: st)) : WW M G nL Q kc ks g pc L (.ref t :: st) :=
  fun hk1 hk2 H locs ls hP hS hl => va_tlen X.1.1 X.1.2.1 hT hS rfl dd (kk hk1 hk2 H locs ls hP hS hl)
theorem r_tb (X : CX M G cc nL own rm) {t N : Nat} {f : Nat → Value} {q : Int32} {v : Value} (dd : decode cc pc = .ok (.baload, 1)) (hT : va_T .byte t N f (gA G) (mS M) (mS M).heap) (hin : ¬ outI q N) (hv : f q.toNatClampNeg = v) (kk : WW M G nL Q kc ks g (pc + 1) L (v :: st)) : WW M G nL Q kc ks g pc L (.int q :: .ref t :: st) :=
  fun hk1 hk2 H locs ls hP hS hl => va_tb X.1.1 X.1.2.1 hT hS hin hv dd (kk hk1 hk2 H locs ls hP hS hl)
theorem r_i2c (X : CX M G cc nL own rm) {x v : Int32} (d : decode cc pc = .ok (.i2c, 1)) (hv : (x.toUInt32 % 65536).toInt32 = v) (k : WW M G nL Q kc ks g (pc + 1) L (.int v :: st)) : WW M G nL Q kc ks g pc L (.int x :: st) := fun hk1 hk2 H locs ls hP hS hl => lv_i2c X.1.1 X.1.2.1 d hv (k hk1 hk2 H locs ls hP hS hl)
theorem r_nret (X : CX M G cc nL own rm) {v : Int32} {ty : FieldType} {mc ms : Nat} (hr : (mM M).sig.returnType = some ty) (hn : narrow ty (.int v) = .int v) (d : decode cc pc = .ok (.ireturn, 1)) (hc : kc ≤ mc) (hs : ks ≤ ms) : WW M G nL (RQ M G (some (.int v)) g mc ms) kc ks g pc L [.int v] := fun hk1 hk2 H locs ls hP hS hl =>
  W.widen hc hs (W.zret X.1.1 X.1.2.1 hr hn (fun t ht hW => ⟨⟨rfl, by rw [ht]; exact hP⟩, hS.F ht⟩) hS.2.2 d X.2.2.2.1)
/-- a call on a String constant -/
theorem r_callVs (X : CX M G cc nL own rm) {l : Launch} (hl0 : M.2.1 = l) {i n k : Nat} {y : MethodName} {bytes : ByteArray} {maxL : Nat} {ret : Option FieldType} {fr lo : Nat} {As : List Value} {r : Option Value} {st0 : List Value} (d : decode cc pc = .ok (.invokevirtual i, 3)) (yl : YL 0 y bytes maxL ret n) (hm : Cond.methodLink own i y ∈ TBL) (hk : k < nST) (hy : y.cls = "java/lang/String")
    (ct : Ct l G y bytes maxL ret ⟨fr, 0, 0, lo⟩ (.ref (G.2.2.1 k) :: As) g r g) (hst : st0 = As.reverse ++ .ref (G.2.2.1 k) :: st) (hn : As.length = n) (hcat : (st.map fun v => v.category).sum ≤ 8) (hR : fr + 1 ≤ rm.frames ∧ 8 + (maxL + 11) + lo ≤ rm.locals)
    (kk : WW M G nL Q kc ks g (pc + 3) L (r.toList ++ st)) : WW M G nL Q kc ks g pc L st0 := fun hk1 hk2 => by
  subst hl0
  have hR2 : kc + 0 ≤ rm.cells ∧ ks + 0 ≤ rm.slots := ⟨by rw [← X.2.2.2.2.2]; exact hk1, by rw [← X.2.2.2.2.2]; exact hk2⟩
  refine r_run X (mc := 0) (ms := 0) hR2 (a := (Value.ref (G.2.2.1 k) :: As).toArray) (fun H locs ls hP hS hl => ?_) kk hk1 hk2
  have h5 := yl.2.2.2.2.1 rfl
  obtain ⟨cell, h1, h2, h3, -⟩ := (X.str hk).1.kept hS.2.1
  exact va_runV (C := y.cls) X.1 ct ⟨X.callB yl hm hR, X.w h5.1, X.w h5.2⟩ ⟨PcG.blind, by rw [hy]; exact ⟨cell, h1, h2, h3⟩, X.pre hP hS⟩ rfl hn hl.1 hst (by show 2 * 0 + _ ≤ 8; omega) d (by rw [X.2.2.2.2.2]; exact hR2)
end Str
theorem t_coder {l : Launch} {G : GG} {k : Nat} {g : AH} (hk : k < nST) : Ct l G yJ0_coder_7d493 cJ0_coder_7d493 1 (some .byte) ⟨1, 0, 0, 60⟩ [.ref (G.2.2.1 k)] g (some (.int 0)) g :=
  ct_of (L0 := [(0, .ref (G.2.2.1 k))]) y_J0_coder_7d493 rfl (Nat.le_of_ble_eq_true rfl) fun M hl0 X hr hnm => by
  refine r_gets X dJ0_coder_7d493_0 j_38 X.2.2.2.2.1.2.2.2.2.2.1.1 ?_
  refine r_if_eq X 13 dJ0_coder_7d493_3 (by decide) (fun c1 => absurd c1 (by decide)) (fun _ => ?_)
  refine r_aload_n X 0 dJ0_coder_7d493_6 rfl rfl ?_
  refine r_sgetf X dJ0_coder_7d493_7 j_15 (X.str hk).2.1 ?_
  refine r_goto X 14 dJ0_coder_7d493_10 (by decide) ?_
  exact r_nret X hr rfl dJ0_coder_7d493_14 (by decide) (by decide)
theorem t_isLatin1 {l : Launch} {G : GG} {k : Nat} {g : AH} (hk : k < nST) : Ct l G yJ0_isLatin1_aae02 cJ0_isLatin1_aae02 1 (some .boolean) ⟨1, 0, 0, 60⟩ [.ref (G.2.2.1 k)] g (some (.int 1)) g :=
  ct_of (L0 := [(0, .ref (G.2.2.1 k))]) y_J0_isLatin1_aae02 rfl (Nat.le_of_ble_eq_true rfl) fun M hl0 X hr hnm => by
  refine r_gets X dJ0_isLatin1_aae02_0 j_38 X.2.2.2.2.1.2.2.2.2.2.1.1 ?_
  refine r_if_eq X 17 dJ0_isLatin1_aae02_3 (by decide) (fun c1 => absurd c1 (by decide)) (fun _ => ?_)
  refine r_aload_n X 0 dJ0_isLatin1_aae02_6 rfl rfl ?_
  refine r_sgetf X dJ0_isLatin1_aae02_7 j_15 (X.str hk).2.1 ?_
  refine r_if_ne X 17 dJ0_isLatin1_aae02_10 (by decide) (fun c1 => absurd rfl c1) (fun _ => ?_)
  refine r_iconst X (v := 1) dJ0_isLatin1_aae02_13 (by decide) ?_
  refine r_goto X 18 dJ0_isLatin1_aae02_14 (by decide) ?_
  exact r_nret X hr rfl dJ0_isLatin1_aae02_18 (by decide) (by decide)
theorem t_strLength {l : Launch} {G : GG} {k : Nat} {g : AH} (hk : k < nST) : Ct l G yJ0_length_8abf5 cJ0_length_8abf5 1 (some .int) ⟨2, 0, 0, 90⟩ [.ref (G.2.2.1 k)] g (some (.int (Int32.ofNat (bytST k).length))) g :=
  ct_of (L0 := [(0, .ref (G.2.2.1 k))]) y_J0_length_8abf5 rfl (Nat.le_of_ble_eq_true rfl) fun M hl0 X hr hnm => by
  refine r_aload_n X 0 dJ0_length_8abf5_0 rfl rfl ?_
  refine r_sgetf X dJ0_length_8abf5_1 j_9 (X.str hk).2.2.1 ?_
  refine r_tlen X dJ0_length_8abf5_4 (X.str hk).2.2.2 ?_
  refine r_aload_n X 0 dJ0_length_8abf5_5 rfl rfl ?_
  refine r_callVs X hl0 dJ0_length_8abf5_6 y_J0_coder_7d493 m_J0_335 hk rfl (t_coder hk) rfl rfl (Nat.le_of_ble_eq_true rfl) (by decide) ?_
  refine r_ishr X dJ0_length_8abf5_9 ?_
  rw [sb_shr0]
  exact r_iret X hr dJ0_length_8abf5_10 (by decide) (by decide)
theorem t_preCheck {l : Launch} {G : GG} {q n : Int32} {v : Value} {g : AH} (hv : v.category = 1) (h0 : ¬ q < 0) (h1 : q < n) : Ct l G yJ3_checkIndex_8e157 cJ3_checkIndex_8e157 3 (some .int) ⟨1, 0, 0, 60⟩ [.int q, .int n, v] g (some (.int q)) g :=
  ct_of (L0 := [(0, .int q), (1, .int n), (2, v)]) y_J3_checkIndex_8e157 (by simp [lv_args, hv, Value.category]) (by
    have c1 : (Value.int q).category = 1 := rfl
    have c2 : (Value.int n).category = 1 := rfl
    simp [lg_sl, hv, c1, c2]) fun M hl0 X hr hnm => by
  refine r_iload_n X 0 dJ3_checkIndex_8e157_0 rfl rfl ?_
  refine r_if_lt X 9 dJ3_checkIndex_8e157_1 (by decide) (fun c1 => absurd c1 h0) (fun _ => ?_)
  refine r_iload_n X 0 dJ3_checkIndex_8e157_4 rfl rfl ?_
  refine r_iload_n X 1 dJ3_checkIndex_8e157_5 rfl rfl ?_
  refine r_icmp_lt X 16 dJ3_checkIndex_8e157_6 (by decide) (fun _ => ?_) (fun c1 => absurd h1 c1)
  refine r_iload_n X 0 dJ3_checkIndex_8e157_16 rfl rfl ?_
  exact r_iret X hr dJ3_checkIndex_8e157_17 (by decide) (by decide)
theorem t_strCheck {l : Launch} {G : GG} {q n : Int32} {g : AH} (h0 : ¬ q < 0) (h1 : q < n) : Ct l G yJ0_checkIndex_df160 cJ0_checkIndex_df160 2 none ⟨2, 0, 0, 90⟩ [.int q, .int n] g none g :=
  ct_of (L0 := [(0, .int q), (1, .int n)]) y_J0_checkIndex_df160 rfl (Nat.le_of_ble_eq_true rfl) fun M hl0 X hr hnm => by
  have go : ∀ v : Value, v.category = 1 → va_Z "jdk/internal/util/Preconditions" "SIOOBE_FORMATTER" "Ljava/util/function/BiFunction;" v (gA G) (mS M) (mS M).heap → WW M G 2 (RQ M G none g 0 0) 0 0 g 0 [(0, .int q), (1, .int n)] [] := by
    intro v hv hZ
    refine r_iload_n X 0 dJ0_checkIndex_df160_0 rfl rfl ?_
    refine r_iload_n X 1 dJ0_checkIndex_df160_1 rfl rfl ?_
    refine r_gets X dJ0_checkIndex_df160_2 j_1053 hZ ?_
    refine r_callS0 X hl0 dJ0_checkIndex_df160_5 y_J3_checkIndex_8e157 m_J0_1059 (t_preCheck hv h0 h1) rfl rfl (Nat.le_of_ble_eq_true rfl) (by decide) ?_
    refine r_pop X dJ0_checkIndex_df160_8 rfl ?_
    exact r_vret X hr dJ0_checkIndex_df160_9 (by decide) (by decide)
  rcases X.2.2.2.2.1.2.2.2.2.2.1.2 with hZ | ⟨t, hZ⟩
  · exact go _ rfl hZ
  · exact go _ rfl hZ
theorem t_latAt {l : Launch} {G : GG} {k : Nat} {q v : Int32} {g : AH} (hk : k < nST) (hq : ¬ outI q (bytST k).length) (hv : v = (bytST k).getD q.toNatClampNeg 0) : Ct l G yJ1_charAt_3b067 cJ1_charAt_3b067 2 (some .char) ⟨3, 0, 0, 120⟩ [.ref (G.2.2.2.1 k), .int q] g (some (.int v)) g :=
  ct_of (L0 := [(0, .ref (G.2.2.2.1 k)), (1, .int q)]) y_J1_charAt_3b067 rfl (Nat.le_of_ble_eq_true rfl) fun M hl0 X hr hnm => by
  obtain ⟨hL, hb⟩ := bytST_ok k hk
  have hlt := in_lt hq
  have hmem : v ∈ bytST k := by
    have eq9 : (bytST k).getD q.toNatClampNeg 0 = (bytST k)[q.toNatClampNeg] := by simp [List.getD, List.getElem?_eq_getElem hlt]
    rw [hv, eq9]
    exact List.getElem_mem hlt
  have h0 : ¬ q < 0 := fun h => hq (Or.inl h)
  have h1 : q < Int32.ofNat (bytST k).length := by
    obtain ⟨j, hj, rfl⟩ := nI_of h0
    exact nI_lt (by rw [nI_clamp hj] at hlt; exact hlt) hL
  refine r_iload_n X 1 dJ1_charAt_3b067_0 rfl rfl ?_
  refine r_aload_n X 0 dJ1_charAt_3b067_1 rfl rfl ?_
  refine r_tlen X dJ1_charAt_3b067_2 (X.str hk).2.2.2 ?_
  refine r_callS0 X hl0 dJ1_charAt_3b067_3 y_J0_checkIndex_df160 m_J1_9 (t_strCheck h0 h1) rfl rfl (Nat.le_of_ble_eq_true rfl) (by decide) ?_
  refine r_aload_n X 0 dJ1_charAt_3b067_6 rfl rfl ?_
  refine r_iload_n X 1 dJ1_charAt_3b067_7 rfl rfl ?_
  refine r_tb X (v := .int v) dJ1_charAt_3b067_8 (X.str hk).2.2.2 hq (by rw [hv]) ?_
  refine r_sipush X (v := 255) dJ1_charAt_3b067_9 (by decide) ?_
  refine r_iand X dJ1_charAt_3b067_12 ?_
  refine r_i2c X (v := v) dJ1_charAt_3b067_13 (hb v hmem).1 ?_
  exact r_nret X hr (hb v hmem).2 dJ1_charAt_3b067_14 (by decide) (by decide)
theorem t_charAt {l : Launch} {G : GG} {k : Nat} {q v : Int32} {g : AH} (hk : k < nST) (hq : ¬ outI q (bytST k).length) (hv : v = (bytST k).getD q.toNatClampNeg 0) : Ct l G yJ0_charAt_5068e cJ0_charAt_5068e 2 (some .char) ⟨4, 0, 0, 160⟩ [.ref (G.2.2.1 k), .int q] g (some (.int v)) g :=
  ct_of (L0 := [(0, .ref (G.2.2.1 k)), (1, .int q)]) y_J0_charAt_5068e rfl (Nat.le_of_ble_eq_true rfl) fun M hl0 X hr hnm => by
  obtain ⟨hL, hb⟩ := bytST_ok k hk
  have hlt := in_lt hq
  have hmem : v ∈ bytST k := by
    have eq9 : (bytST k).getD q.toNatClampNeg 0 = (bytST k)[q.toNatClampNeg] := by simp [List.getD, List.getElem?_eq_getElem hlt]
    rw [hv, eq9]
    exact List.getElem_mem hlt
  refine r_aload_n X 0 dJ0_charAt_5068e_0 rfl rfl ?_
  refine r_callVs X hl0 dJ0_charAt_5068e_1 y_J0_isLatin1_aae02 m_J0_492 hk rfl (t_isLatin1 hk) rfl rfl (Nat.le_of_ble_eq_true rfl) (by decide) ?_
  refine r_if_eq X 16 dJ0_charAt_5068e_4 (by decide) (fun c1 => absurd c1 (by decide)) (fun _ => ?_)
  refine r_aload_n X 0 dJ0_charAt_5068e_7 rfl rfl ?_
  refine r_sgetf X dJ0_charAt_5068e_8 j_9 (X.str hk).2.2.1 ?_
  refine r_iload_n X 1 dJ0_charAt_5068e_11 rfl rfl ?_
  refine r_callS0 X hl0 dJ0_charAt_5068e_12 y_J1_charAt_3b067 m_J0_495 (t_latAt hk hq hv) rfl rfl (Nat.le_of_ble_eq_true rfl) (by decide) ?_
  exact r_nret X hr (hb v hmem).2 dJ0_charAt_5068e_15 (by decide) (by decide)
section StrRows
variable {M : MC} {G : GG} {cc : ByteArray} {nL : Nat} {own : String} {rm : Room} {Q : State → Prop} {kc ks : Nat} {g : AH} {pc : Nat} {L : List (Nat × Value)} {st : List Value}
theorem r_strLen (X : CX M G cc nL own rm) {l : Launch} (hl0 : M.2.1 = l) {i k : Nat} {x : Int32} (d : decode cc pc = .ok (.invokevirtual i, 3)) (hm : Cond.methodLink own i yJ0_length_8abf5 ∈ TBL) (e : strLen k = some x) (hcat : (st.map fun v => v.category).sum ≤ 8) (hR : 2 + 1 ≤ rm.frames ∧ 8 + (1 + 11) + 90 ≤ rm.locals) (kk : WW M G nL Q kc ks g (pc + 3) L (.int x :: st)) : WW M G nL Q kc ks g pc L (.ref (G.2.2.1 k) :: st) := by
  unfold strLen at e
  by_cases hk : k < nST
  · rw [if_pos hk] at e
    cases e
    exact r_callVs X hl0 d y_J0_length_8abf5 hm hk rfl (t_strLength hk) rfl rfl hcat hR kk
  · rw [if_neg hk] at e
    cases e
theorem r_strAt (X : CX M G cc nL own rm) {l : Launch} (hl0 : M.2.1 = l) {i k : Nat} {q x : Int32} (d : decode cc pc = .ok (.invokevirtual i, 3)) (hm : Cond.methodLink own i yJ0_charAt_5068e ∈ TBL) (e : strAt k q = some x) (hcat : (st.map fun v => v.category).sum ≤ 8) (hR : 4 + 1 ≤ rm.frames ∧ 8 + (2 + 11) + 160 ≤ rm.locals) (kk : WW M G nL Q kc ks g (pc + 3) L (.int x :: st)) : WW M G nL Q kc ks g pc L (.int q :: .ref (G.2.2.1 k) :: st) := by
  unfold strAt at e
  by_cases hk : k < nST
  · rw [if_pos hk] at e
    by_cases hq : outI q (bytST k).length
    · rw [if_pos hq] at e
      cases e
    · rw [if_neg hq] at e
      cases e
      exact r_callVs X hl0 d y_J0_charAt_5068e hm hk rfl (t_charAt hk hq rfl) rfl rfl hcat hR kk
  · rw [if_neg hk] at e
    cases e
end StrRows
theorem r_ldcSw {M : MC} {G : GG} {cc : ByteArray} {nL : Nat} {own : String} {rm : Room} {Q : State → Prop} {kc ks : Nat} {g : AH} {pc : Nat} {L : List (Nat × Value)} {st : List Value} (X : CX M G cc nL own rm) {i j : Nat} {tx : String} (d : decode cc pc = .ok (.ldc_w i, 3)) (hw : (own, i, tx, j) ∈ strTab) (k : WW M G nL Q kc ks g (pc + 3) L (.ref (G.2.2.1 j) :: st)) : WW M G nL Q kc ks g pc L st := fun hk1 hk2 H locs ls hP hS hl T hT X9 => by
  obtain ⟨t, a1, b1⟩ := k hk1 hk2 H locs ls hP hS hl T hT X9
  have hZ := X.2.2.2.2.1.2.1 _ hw
  exact ⟨t, X9.ldcStringW X.1.1 X.1.2.2.2.1 (text := tx) (a := G.2.2.1 j) hZ.1 hZ.2 (g := F0 (mI M) pc ls st) rfl (by rw [X.1.2.1]; exact d) t a1, b1⟩
end
section
/-! rows that the law and the library's classes want: a nest mate's fields, inherited methods, super calls, rows of bytes, the empty row, the script -/
section RowsY
variable {M : MC} {G : GG} {cc : ByteArray} {nL : Nat} {own : String} {rm : Room} {Q : State → Prop} {kc ks : Nat} {g : AH} {pc : Nat} {L : List (Nat × Value)} {st : List Value}

theorem get_VN (X : CX M G cc nL RL rm) {i k : Nat} (d : decode cc pc = .ok (.getfield i, 3)) (f : (RL, i, RX9, (TX9 k).2.1, (TX9 k).2.2.1) ∈ fnestT) (hd1 : (TX9 k).1 = RX9) (hk : k < 8) {a : Nat} {V : Nat → Value} (ha : g.1 a = some (.inl (9, V))) (kk : WW M G nL Q kc ks g (pc + 3) L (V k :: st)) : WW M G nL Q kc ks g pc L (.ref a :: st) := by
  intro hk1 hk2 H locs ls hP hS hl
  obtain ⟨⟨r, h1, cell, q1, q2, q3, q4⟩, -⟩ := hP.1 a _ ha
  have hr : r = (RX9, TX9, 8) := Option.some.inj (h1.symm.trans rfl)
  subst hr
  obtain ⟨hSl, hfc, kC, hkC, hkind⟩ := X.2.1.1 9 _ rfl
  obtain ⟨cf, kf, fi, f9, hi, hsl⟩ := hSl k hk
  have hi2 : (mS M).fieldFound? RX9 (TX9 k).2.1 (TX9 k).2.2.1 = some (cf, kf, fi, f9) := by rw [← hd1]; exact hi
  refine va_Wgetf X.1.1 X.1.2.1 X.1.2.2.2.1 (va_Nw.use rfl (X.sx.2.1 _ f)) hi2 (u_facts hfc hkC (u_lays X.1.2.2.2.2 in_X9 hk) hi).1 q1 (by rw [q3]; exact fun h => by cases h) (v := V k) ?_ rfl rfl d (kk hk1 hk2 H locs ls hP hS hl)
  rw [hsl]
  exact q4 k hk
theorem r_getIN (X : CX M G cc nL RL rm) {i k a : Nat} {x : Int32} (d : decode cc pc = .ok (.getfield i, 3)) (f : (RL, i, RX9, (TX9 k).2.1, (TX9 k).2.2.1) ∈ fnestT) (hd1 : (TX9 k).1 = RX9) (hk : k < 8) (h : getI 9 g a k = some x) (kk : WW M G nL Q kc ks g (pc + 3) L (.int x :: st)) : WW M G nL Q kc ks g pc L (.ref a :: st) := by
  obtain ⟨V, ha, hv⟩ := getI_spec h
  exact get_VN X d f hd1 hk ha (by rw [hv]; exact kk)
theorem r_getRN (X : CX M G cc nL RL rm) {i k a : Nat} {x : Nat} (d : decode cc pc = .ok (.getfield i, 3)) (f : (RL, i, RX9, (TX9 k).2.1, (TX9 k).2.2.1) ∈ fnestT) (hd1 : (TX9 k).1 = RX9) (hk : k < 8) (h : getR 9 g a k = some x) (kk : WW M G nL Q kc ks g (pc + 3) L (.ref x :: st)) : WW M G nL Q kc ks g pc L (.ref a :: st) := by
  obtain ⟨V, ha, hv⟩ := getR_spec h
  exact get_VN X d f hd1 hk ha (by rw [hv]; exact kk)
theorem r_putN (X : CX M G cc nL RL rm) {i k a : Nat} {v : Value} {g1 : AH} (d : decode cc pc = .ok (.putfield i, 3)) (f : (RL, i, RX9, (TX9 k).2.1, (TX9 k).2.2.1) ∈ fnestT) (hd1 : (TX9 k).1 = RX9) (hk : k < 8) (hfin : (TX9 k).2.2.2 = false) (hn : narrow (tyX9 k) v = v) (hfit : fits (tyX9 k) v = true) (h : putV 9 g a k v = some g1) (kk : WW M G nL Q kc ks g1 (pc + 3) L st) : WW M G nL Q kc ks g pc L (v :: .ref a :: st) := by
  obtain ⟨V, ha, rfl⟩ := putV_spec h
  intro hk1 hk2 H locs ls hP hS hl
  have hap := va_apart (own := RL) X.1.2.2.2.2 in_X9 tyX9 tyX9_ok nmX9 X.2.1 (show vwCl[9]? = some (RX9, TX9, 8) from rfl)
  obtain ⟨⟨r, h1, cell, q1, q2, q3, q4⟩, hBa⟩ := hP.1 a _ ha
  have hr : r = (RX9, TX9, 8) := Option.some.inj (h1.symm.trans rfl)
  subst hr
  obtain ⟨hSl, hfc, kC, hkC, hkind⟩ := X.2.1.1 9 _ rfl
  obtain ⟨cf, kf, fi, f9, hi, hsl⟩ := hSl k hk
  have hi2 : (mS M).fieldFound? RX9 (TX9 k).2.1 (TX9 k).2.2.1 = some (cf, kf, fi, f9) := by rw [← hd1]; exact hi
  have hlay := X.w (in_X9 _ (u_in_lay hk))
  unfold u_lay at hlay
  rw [if_neg (by rw [hfin]; decide)] at hlay
  have hst := (u_facts hfc hkC (u_lays X.1.2.2.2.2 in_X9 hk) hi).1
  have h6 := u_store hfc hkC hkind hlay hi (tyX9_ok k hk) hn hfit
  refine va_WputK X.1.1 X.1.2.1 (f := f9) X.1.2.2.2.1 (va_Nw.use rfl (X.sx.2.1 _ f)) hi2 hst (by rw [q2]; exact h6) q1 q3 (by rw [hsl]; exact k2_hasslot (q4 k hk)) rfl rfl d fun H' e1 e2 e3 => ?_
  rw [hsl] at e1 ⊢
  exact kk hk1 hk2 H' _ ls (hP.set hBa ⟨_, rfl, ⟨_, e1, q2, q3, t_set q4 hap hk v⟩⟩ e2 e3) (hS.put e2 e3 hBa) hl
theorem CX.callU (X : CX M G cc nL own rm) {C : String} {i n : Nat} {y : MethodName} {bytes : ByteArray} {maxL : Nat} {ret : Option FieldType} {rmc : Room} (yu : YU C y bytes maxL ret n) (hm : Cond.methodLink own i y ∈ TBL) (hR : rmc.frames + 1 ≤ rm.frames ∧ 8 + (maxL + 11) + rmc.locals ≤ rm.locals) :
    va_CU M.2.2.2.1 (mS M) (mA M) own C y.cls i y y bytes maxL ret (cw y bytes maxL ret) rmc rmc.cells rmc.slots n :=
  ⟨⟨rfl, rfl, by rw [X.2.2.2.2.2]; exact hR.1, by rw [X.2.2.2.2.2]; exact hR.2, X.ws yu.2.1, List.mem_cons_self⟩, X.w yu.2.1, X.w yu.2.2.1, ⟨yu.2.2.2.1.1, yu.2.2.2.1.2.1⟩, desc_n yu.2.2.2.1.2.2, X.w hm, X.w yu.2.2.2.2.1, va_Decl.of (X.w yu.2.2.2.2.2.2) (X.w yu.2.1), X.w yu.2.2.2.2.2.1, X.w yu.2.2.2.2.2.2⟩
theorem r_callU (X : CX M G cc nL own rm) {l : Launch} (hl0 : M.2.1 = l) {i n ci b : Nat} {y : MethodName} {bytes : ByteArray} {maxL : Nat} {ret : Option FieldType} {rmc : Room} {As : List Value} {r : Option Value} {g1 : AH} {st0 : List Value} {rc : vw_C} (d : decode cc pc = .ok (.invokevirtual i, 3)) (yu : YU rc.1 y bytes maxL ret n) (hm : Cond.methodLink own i y ∈ TBL) (hc : vwCl[ci]? = some rc) (hb : isO ci g b = some ())
    (ct : Ct l G y bytes maxL ret rmc (.ref b :: As) g r g1) (hst : st0 = As.reverse ++ .ref b :: st) (hn : As.length = n) (hcat : (st.map fun v => v.category).sum ≤ 8) (hR : (rmc.frames + 1 ≤ rm.frames ∧ 8 + (maxL + 11) + rmc.locals ≤ rm.locals) ∧ kc + rmc.cells ≤ rm.cells ∧ ks + rmc.slots ≤ rm.slots)
    (kk : WW M G nL Q (kc + rmc.cells) (ks + rmc.slots) g1 (pc + 3) L (r.toList ++ st)) : WW M G nL Q kc ks g pc L st0 := by
  subst hl0
  refine r_run X hR.2 (a := (Value.ref b :: As).toArray) (fun H locs ls hP hS hl => ?_) kk
  exact va_runU X.1 ct (X.callU yu hm hR.1) ⟨PcG.blind, X.recv hP hc hb, X.pre hP hS⟩ rfl hn hl.1 hst (by show 2 * 0 + _ ≤ 8; omega) d (by rw [X.2.2.2.2.2]; exact hR.2)
theorem r_callO (X : CX M G cc nL own rm) {l : Launch} (hl0 : M.2.1 = l) {i b : Nat} {maxL : Nat} {rmc : Room} {As : List Value} {r : Option Value} {g1 : AH} {st0 : List Value} (d : decode cc pc = .ok (.invokevirtual i, 3)) (hmL : maxL = 2) (hm : Cond.methodLink own i yJ5_append_cf1ce ∈ TBL) (hb : isO 11 g b = some ())
    (ct : Ct l G yJ4_append_cf1ce cJ4_append_cf1ce 2 (some (.object "java/lang/AbstractStringBuilder")) rmc (.ref b :: As) g r g1) (hst : st0 = As.reverse ++ .ref b :: st) (hn : As.length = 1) (hcat : (st.map fun v => v.category).sum ≤ 8) (hR : (rmc.frames + 1 ≤ rm.frames ∧ 8 + (maxL + 11) + rmc.locals ≤ rm.locals) ∧ kc + rmc.cells ≤ rm.cells ∧ ks + rmc.slots ≤ rm.slots)
    (kk : WW M G nL Q (kc + rmc.cells) (ks + rmc.slots) g1 (pc + 3) L (r.toList ++ st)) : WW M G nL Q kc ks g pc L st0 := by
  subst hl0
  subst hmL
  refine r_run X hR.2 (a := (Value.ref b :: As).toArray) (fun H locs ls hP hS hl => ?_) kk
  have yo := yo_append
  have hcu : va_CU M.2.2.2.1 (mS M) (mA M) own RJ4 yJ5_append_cf1ce.cls i yJ5_append_cf1ce yJ4_append_cf1ce cJ4_append_cf1ce 2 (some (.object "java/lang/AbstractStringBuilder")) (cw yJ4_append_cf1ce cJ4_append_cf1ce 2 (some (.object "java/lang/AbstractStringBuilder"))) rmc rmc.cells rmc.slots 1 :=
    ⟨⟨rfl, rfl, by rw [X.2.2.2.2.2]; exact hR.1.1, by rw [X.2.2.2.2.2]; exact hR.1.2, X.ws yo.1.2.1, List.mem_cons_self⟩, X.w yo.1.2.1, X.w yo.1.2.2.1, ⟨by decide +kernel, by decide +kernel⟩, desc_n (by decide +kernel), X.w hm, X.w yo.2.1, va_Decl.of (X.w yo.2.2.1) (X.w yo.1.2.2.2), X.w yo.2.2.2.1, X.w yo.2.2.2.2⟩
  exact va_runU X.1 ct hcu ⟨PcG.blind, X.recv hP (show vwCl[11]? = some (RJ4, TJ4, 4) from rfl) hb, X.pre hP hS⟩ rfl hn hl.1 hst (by show 2 * 0 + _ ≤ 8; omega) d (by rw [X.2.2.2.2.2]; exact hR.2)
theorem r_callSU (X : CX M G cc nL RJ4 rm) {l : Launch} (hl0 : M.2.1 = l) {i n b : Nat} {y : MethodName} {bytes : ByteArray} {maxL : Nat} {ret : Option FieldType} {rmc : Room} {As : List Value} {r : Option Value} {g1 : AH} {st0 : List Value} (d : decode cc pc = .ok (.invokespecial i, 3)) (ys : YS RJ4 y bytes maxL ret n) (hm : Cond.methodLink RJ4 i y ∈ TBL) (hb : isO 11 g b = some ())
    (ct : Ct l G y bytes maxL ret rmc (.ref b :: As) g r g1) (hst : st0 = As.reverse ++ .ref b :: st) (hn : As.length = n) (hcat : (st.map fun v => v.category).sum ≤ 8) (hR : (rmc.frames + 1 ≤ rm.frames ∧ 8 + (maxL + 11) + rmc.locals ≤ rm.locals) ∧ kc + rmc.cells ≤ rm.cells ∧ ks + rmc.slots ≤ rm.slots)
    (kk : WW M G nL Q (kc + rmc.cells) (ks + rmc.slots) g1 (pc + 3) L (r.toList ++ st)) : WW M G nL Q kc ks g pc L st0 := by
  subst hl0
  refine r_run X hR.2 (a := (Value.ref b :: As).toArray) (fun H locs ls hP hS hl => ?_) kk
  have hcs : va_CS M.2.2.2.1 (mS M) (mA M) RJ4 i y bytes maxL ret (cw y bytes maxL ret) rmc rmc.cells rmc.slots n :=
    ⟨⟨rfl, rfl, by rw [X.2.2.2.2.2]; exact hR.1.1, by rw [X.2.2.2.2.2]; exact hR.1.2, X.ws ys.2.1, List.mem_cons_self⟩, X.w hm, X.w ys.2.2.2.2.1, X.w ys.2.2.2.2.2.1, X.w ys.2.2.2.2.2.2, X.w ys.2.2.1, X.w ys.2.1, ys.2.2.2.1.1, desc_n ys.2.2.2.1.2⟩
  exact va_runSU (C := RJ4) (X.2.1.1 11 _ rfl).2 X.1 ct hcs ⟨PcG.blind, X.recv hP (show vwCl[11]? = some (RJ4, TJ4, 4) from rfl) hb, X.pre hP hS⟩ rfl hn hl.1 hst (by show 2 * 0 + _ ≤ 8; omega) d (by rw [X.2.2.2.2.2]; exact hR.2)
theorem CX.callN2 (X : CX M G cc nL own rm) {kind i n : Nat} {y : MethodName} {bytes : ByteArray} {maxL : Nat} {ret : Option FieldType} {rmc : Room} (yl : YL kind y bytes maxL ret n) (hm : (own, i, y) ∈ nestT2) (hR : rmc.frames + 1 ≤ rm.frames ∧ 8 + (maxL + 11) + rmc.locals ≤ rm.locals) :
    va_CN M.2.2.2.1 (mS M) (mA M) own i y "HutLedgerLaw" bytes maxL ret (cw y bytes maxL ret) rmc rmc.cells rmc.slots n :=
  ⟨⟨rfl, rfl, by rw [X.2.2.2.2.2]; exact hR.1, by rw [X.2.2.2.2.2]; exact hR.2, X.ws yl.2.1, List.mem_cons_self⟩, X.w yl.2.1, X.w yl.2.2.1, ⟨yl.2.2.2.1.1, yl.2.2.2.1.2.1⟩, desc_n yl.2.2.2.1.2.2, va_Nw.use rfl (X.sx.2.2.1 _ hm)⟩
theorem r_callIN2 (X : CX M G cc nL own rm) {l : Launch} (hl0 : M.2.1 = l) {i n b : Nat} {y : MethodName} {bytes : ByteArray} {maxL : Nat} {rmc : Room} {As : List Value} {r : Option Value} {g1 : AH} {st0 : List Value} (d : decode cc pc = .ok (.invokespecial i, 3)) (yl : YL 2 y bytes maxL none n) (hm : (own, i, y) ∈ nestT2)
    (ct : Ct l G y bytes maxL none rmc (.ref b :: As) g r g1) (hst : st0 = As.reverse ++ .ref b :: st) (hn : As.length = n) (hcat : (st.map fun v => v.category).sum ≤ 8) (hR : (rmc.frames + 1 ≤ rm.frames ∧ 8 + (maxL + 11) + rmc.locals ≤ rm.locals) ∧ kc + rmc.cells ≤ rm.cells ∧ ks + rmc.slots ≤ rm.slots)
    (kk : WW M G nL Q (kc + rmc.cells) (ks + rmc.slots) g1 (pc + 3) L (r.toList ++ st)) : WW M G nL Q kc ks g pc L st0 := by
  subst hl0
  refine r_run X hR.2 (a := (Value.ref b :: As).toArray) (fun H locs ls hP hS hl => ?_) kk
  have h5 := yl.2.2.2.2.2.2 rfl
  exact va_runIN X.1 ct ⟨X.callN2 yl hm hR.1, h5.2, X.w h5.1⟩ ⟨PcG.blind, X.pre hP hS⟩ rfl hn hl.1 hst (by show 2 * 0 + _ ≤ 8; omega) d (by rw [X.2.2.2.2.2]; exact hR.2)
/-! a cast to the object's own class -/
theorem r_cast (X : CX M G cc nL own rm) {i ci a : Nat} {rc : vw_C} (d : decode cc pc = .ok (.checkcast i, 3)) (hc : vwCl[ci]? = some rc) (hk : Cond.classLink own i rc.1 ∈ TBL) (h : isO ci g a = some ()) (k : WW M G nL Q kc ks g (pc + 3) L (.ref a :: st)) : WW M G nL Q kc ks g pc L (.ref a :: st) := fun hk1 hk2 H locs ls hP hS hl =>
  va_castS X.1.1 X.1.2.1 X.1.2.2.2.1 (X.w hk) (X.2.1.1 ci _ hc).2 (X.recv hP hc h) d (k hk1 hk2 H locs ls hP hS hl)
/-! rows of bytes -/
def fitB (f : Nat → Int32) (i n : Nat) : Prop := ∀ q : Nat, q < n → fits .byte (.int (f (i + q))) = true
theorem fitB_dec (f : Nat → Int32) (i n : Nat) : fitB f i n ∨ ¬ fitB f i n := Classical.em _
def fitBb (f : Nat → Int32) (i n : Nat) : Bool := (List.range n).all (fun q => fits .byte (.int (f (i + q))))
theorem fitBb_of {f : Nat → Int32} {i n : Nat} : fitBb f i n = true ↔ fitB f i n := by
  unfold fitBb fitB
  rw [List.all_eq_true]
  constructor
  · intro h q hq
    exact h q (List.mem_range.mpr hq)
  · intro h q hq
    exact h q (List.mem_range.mp hq)
def isB (g : AH) (a : Nat) : Option Unit := match g.1 a with
  | some (.inr (1, _, .inl _)) => some ()
  | _ => none
def acpyB (g : AH) (a : Nat) (i : Int32) (b : Nat) (j n : Int32) : Option AH := match g.1 a, g.1 b with
  | some (.inr (k, n0, .inl f)), some (.inr (k1, n1, .inl f1)) => if k = 1 ∧ k1 = 1 ∧ ¬ i < 0 ∧ ¬ j < 0 ∧ ¬ n < 0 ∧ i.toNatClampNeg + n.toNatClampNeg ≤ n0 ∧ j.toNatClampNeg + n.toNatClampNeg ≤ n1 ∧ fitBb f i.toNatClampNeg n.toNatClampNeg = true then some (hset g b (.inr (1, n1, .inl (va_cpy f f1 i.toNatClampNeg j.toNatClampNeg n.toNatClampNeg)))) else none
  | _, _ => none
/-- from the bytes of the String constant k -/
def acpyC (g : AH) (k : Nat) (i : Int32) (b : Nat) (j n : Int32) : Option AH := match g.1 b with
  | some (.inr (k1, n1, .inl f1)) => if k < nST ∧ k1 = 1 ∧ ¬ i < 0 ∧ ¬ j < 0 ∧ ¬ n < 0 ∧ i.toNatClampNeg + n.toNatClampNeg ≤ (bytST k).length ∧ j.toNatClampNeg + n.toNatClampNeg ≤ n1 then some (hset g b (.inr (1, n1, .inl (va_cpy (fun q => (bytST k).getD q 0) f1 i.toNatClampNeg j.toNatClampNeg n.toNatClampNeg)))) else none
  | _ => none
def clonB (g : AH) (a : Nat) : Option (Nat × AH) := match g.2, g.1 a with
  | some q, some (.inr (k, n, .inl f)) => if k = 1 ∧ n ≤ 400 ∧ fitBb f 0 n = true then some (q, hnew g q (.inr (1, n, .inl f))) else none
  | _, _ => none
theorem acpyB_spec {g g1 : AH} {a b : Nat} {i j n : Int32} (h : acpyB g a i b j n = some g1) : ∃ (n0 n1 : Nat) (f f1 : Nat → Int32), g.1 a = some (.inr (1, n0, .inl f)) ∧ g.1 b = some (.inr (1, n1, .inl f1)) ∧ ¬ i < 0 ∧ ¬ j < 0 ∧ ¬ n < 0 ∧ i.toNatClampNeg + n.toNatClampNeg ≤ n0 ∧ j.toNatClampNeg + n.toNatClampNeg ≤ n1 ∧ fitB f i.toNatClampNeg n.toNatClampNeg ∧ g1 = hset g b (.inr (1, n1, .inl (va_cpy f f1 i.toNatClampNeg j.toNatClampNeg n.toNatClampNeg))) := by
  unfold acpyB at h
  split at h
  · rename_i k n0 f k1 n1 f1 h1 h2
    split at h
    · rename_i hc
      obtain ⟨rfl, rfl, c1, c2, c3, c4, c5, c6⟩ := hc
      exact ⟨n0, n1, f, f1, h1, h2, c1, c2, c3, c4, c5, fitBb_of.mp c6, (Option.some.inj h).symm⟩
    · cases h
  · cases h
theorem acpyC_spec {g g1 : AH} {k b : Nat} {i j n : Int32} (h : acpyC g k i b j n = some g1) : ∃ (n1 : Nat) (f1 : Nat → Int32), k < nST ∧ g.1 b = some (.inr (1, n1, .inl f1)) ∧ ¬ i < 0 ∧ ¬ j < 0 ∧ ¬ n < 0 ∧ i.toNatClampNeg + n.toNatClampNeg ≤ (bytST k).length ∧ j.toNatClampNeg + n.toNatClampNeg ≤ n1 ∧ g1 = hset g b (.inr (1, n1, .inl (va_cpy (fun q => (bytST k).getD q 0) f1 i.toNatClampNeg j.toNatClampNeg n.toNatClampNeg))) := by
  unfold acpyC at h
  split at h
  · rename_i k1 n1 f1 h2
    split at h
    · rename_i hc
      obtain ⟨c0, rfl, c1, c2, c3, c4, c5⟩ := hc
      exact ⟨n1, f1, c0, h2, c1, c2, c3, c4, c5, (Option.some.inj h).symm⟩
    · cases h
  · cases h
theorem clonB_spec {g g1 : AH} {a q : Nat} (h : clonB g a = some (q, g1)) : ∃ (n : Nat) (f : Nat → Int32), g.2 = some q ∧ g.1 a = some (.inr (1, n, .inl f)) ∧ n ≤ 400 ∧ fitB f 0 n ∧ g1 = hnew g q (.inr (1, n, .inl f)) := by
  unfold clonB at h
  split at h
  · rename_i q9 k n f h1 h2
    split at h
    · rename_i hc
      obtain ⟨rfl, c1, c2⟩ := hc
      cases h
      exact ⟨n, f, h1, h2, c1, fitBb_of.mp c2, rfl⟩
    · cases h
  · cases h
theorem toN_of {z : Int32} (hz : ¬ z < 0) : z.toInt = (z.toNatClampNeg : Int) := by
  have hz0 : (0 : Int) ≤ z.toInt := by
    have := Int32.not_lt.mp hz
    simpa using Int32.le_iff_toInt_le.mp this
  show z.toInt = ((z.toInt.toNat : Nat) : Int)
  omega
theorem r_copyB (X : CX M G cc nL own rm) {i b : Nat} {a : Nat} {sp dp n : Int32} {g1 : AH} (d : decode cc pc = .ok (.invokestatic i, 3)) (hm : Cond.methodLink own i arraycopyName ∈ TBL) (hR1 : 1 ≤ rm.frames) (hR2 : (st.map fun v => v.category).sum + (nativeFrameWords "java/lang/System" "arraycopy" 5 + 11) ≤ rm.locals) (h : acpyB g a sp b dp n = some g1)
    (kk : WW M G nL Q kc ks g1 (pc + 3) L st) : WW M G nL Q kc ks g pc L (.int n :: .int dp :: .ref b :: .int sp :: .ref a :: st) := by
  obtain ⟨n0, n1, f, f1, ha, hb, h1, h2, h3, h4, h5, h6, rfl⟩ := acpyB_spec h
  intro hk1 hk2 H locs ls hP hS hl T hT X9
  have hc0 : H[a]? = some (arrV (G.1.2 1) n0 (fun j => .int (f j))) := (hP.1 a _ ha).1
  obtain ⟨-, k0, hk0, cm0, hkk0⟩ := (X.arr (t := 1) (by decide)).1 n0 (fun j => .int (f j))
  have hc1 : H[b]? = some (arrV (G.1.2 1) n1 (fun j => .int (f1 j))) := (hP.1 b _ hb).1
  have hBb := (hP.1 b _ hb).2
  have hq1 := hk1
  have hq2 := hk2
  obtain ⟨-, k1, hk1, cm1, hkk1⟩ := (X.arr (t := 1) (by decide)).1 n1 (fun j => .int (f1 j))
  obtain ⟨vm', X', step⟩ := X9.arraycopy X.1.1 X.1.2.2.2.1 (X.w hm) (X.w z_copy.1) (X.w z_copy.2.1) (X.w z_copy.2.2) (src := a) (dst := b) (cs := arrV (G.1.2 1) n0 (fun j => .int (f j))) (cd := arrV (G.1.2 1) n1 (fun j => .int (f1 j))) (srcPos := sp) (destPos := dp) (n := n) (by rw [hT]; exact hc0) (by rw [hT]; exact hc1)
    (fun _ h => by cases h) (fun _ h => by cases h) (fun h => by cases h) (fun h => by cases h) hk0 hk1 hkk0 hkk1 (by simp [refKind, kT]) h1 h2 h3
    (by rw [toN_of h1, toN_of h3]; rw [arrV_size]; omega)
    (by rw [toN_of h2, toN_of h3, arrV_size]; omega)
    (fun vm₁ _ i hi => by
      have e : (arrV (G.1.2 1) n0 (fun j => .int (f j))).slots.getD (sp.toNatClampNeg + i) .null = .int (f (sp.toNatClampNeg + i)) := by
        rw [Array.getD_eq_getD_getElem?, arrV_read _ _ (by omega)]
        rfl
      refine ⟨?_, ?_⟩
      · rw [e]
        exact h6 i hi
      · rw [e]
        exact trivial)
    (g := F0 (mI M) pc ls (.int n :: .int dp :: .ref b :: .int sp :: .ref a :: st)) rfl (by show ls.size = _; rw [hl.1, X.1.2.2.1]) (rest := st) rfl (by rw [X.1.2.1]; exact d) (by rw [X.2.2.2.2.2]; exact hR1) (by rw [X.2.2.2.2.2]; show 2 * 0 + _ + _ ≤ _; omega)
  have e1 : copied (arrV (G.1.2 1) n0 (fun j => .int (f j))) (arrV (G.1.2 1) n1 (fun j => .int (f1 j))) sp dp n = arrV (G.1.2 1) n1 (fun j => .int (va_cpy f f1 sp.toNatClampNeg dp.toNatClampNeg n.toNatClampNeg j)) := va_copied (fun z => .int z) (G.1.2 1) (G.1.2 1) f f1 h4
  rw [e1] at X' step
  have hlb : b < H.size := (Array.getElem?_eq_some_iff.mp hc1).1
  generalize hcell : arrV (G.1.2 1) n1 (fun j => .int (va_cpy f f1 sp.toNatClampNeg dp.toNatClampNeg n.toNatClampNeg j)) = cell at X' step
  have hheap : ((T.setVm vm').setCell b cell).heap = H.setIfInBounds b cell := by rw [← hT]; rfl
  have oq : ∀ q : Nat, q ≠ b → (H.setIfInBounds b cell)[q]? = H[q]? := fun q hq => by simp [Array.getElem?_setIfInBounds, Ne.symm hq]
  obtain ⟨t, a1, b1⟩ := kk hq1 hq2 _ _ ls (hP.set hBb (show (H.setIfInBounds b cell)[b]? = some _ by simp [Array.getElem?_setIfInBounds, hlb]; exact hcell.symm) (by simp) oq) ⟨by simp; exact hS.1, fun q g1 g2 => by
      rw [oq q (fun e => g2 (by rw [e]; exact hBb))]
      exact hS.2.1 q g1 g2, fun q hq => by
      rcases List.mem_append.mp hq with h | h
      · exact hS.2.2 q h
      · obtain ⟨z, -, hz⟩ := List.mem_map.mp h
        rw [← hz]
        exact hBb⟩ hl _ hheap X'
  exact ⟨t, step t a1, b1⟩
theorem bytST_fit : ∀ k : Nat, k < nST → ∀ q : Nat, q < (bytST k).length → fits .byte (.int ((bytST k).getD q 0)) = true := by decide +kernel
theorem r_copyC (X : CX M G cc nL own rm) {i b : Nat} {k : Nat} {sp dp n : Int32} {g1 : AH} (d : decode cc pc = .ok (.invokestatic i, 3)) (hm : Cond.methodLink own i arraycopyName ∈ TBL) (hR1 : 1 ≤ rm.frames) (hR2 : (st.map fun v => v.category).sum + (nativeFrameWords "java/lang/System" "arraycopy" 5 + 11) ≤ rm.locals) (h : acpyC g k sp b dp n = some g1)
    (kk : WW M G nL Q kc ks g1 (pc + 3) L st) : WW M G nL Q kc ks g pc L (.int n :: .int dp :: .ref b :: .int sp :: .ref (G.2.2.2.1 k) :: st) := by
  obtain ⟨n1, f1, h0, hb, h1, h2, h3, h4, h5, rfl⟩ := acpyC_spec h
  intro hk1 hk2 H locs ls hP hS hl T hT X9
  obtain ⟨cs0, s1, ⟨s6, k0, hk0, cm0, hkk0⟩, s3, s4, -, s5, s7⟩ := (X.str h0).2.2.2.kept hS.2.1
  have hc0 : H[G.2.2.2.1 k]? = some cs0 := s1
  have hc1 : H[b]? = some (arrV (G.1.2 1) n1 (fun j => .int (f1 j))) := (hP.1 b _ hb).1
  have hBb := (hP.1 b _ hb).2
  have hq1 := hk1
  have hq2 := hk2
  obtain ⟨-, k1, hk1, cm1, hkk1⟩ := (X.arr (t := 1) (by decide)).1 n1 (fun j => .int (f1 j))
  obtain ⟨vm', X', step⟩ := X9.arraycopy X.1.1 X.1.2.2.2.1 (X.w hm) (X.w z_copy.1) (X.w z_copy.2.1) (X.w z_copy.2.2) (src := (G.2.2.2.1 k)) (dst := b) (cs := cs0) (cd := arrV (G.1.2 1) n1 (fun j => .int (f1 j))) (srcPos := sp) (destPos := dp) (n := n) (by rw [hT]; exact hc0) (by rw [hT]; exact hc1)
    s6 (fun _ h => by cases h) s3 (fun h => by cases h) hk0 hk1 hkk0 hkk1 (by simp [refKind, kT]) h1 h2 h3
    (by rw [toN_of h1, toN_of h3]; omega)
    (by rw [toN_of h2, toN_of h3, arrV_size]; omega)
    (fun vm₁ _ i hi => by
      have e : (cs0).slots.getD (sp.toNatClampNeg + i) .null = .int ((fun q => (bytST k).getD q 0) (sp.toNatClampNeg + i)) := by
        rw [Array.getD_eq_getD_getElem?, s5 _ (by omega)]
        rfl
      refine ⟨?_, ?_⟩
      · rw [e]
        exact bytST_fit k h0 (sp.toNatClampNeg + i) (by omega)
      · rw [e]
        exact trivial)
    (g := F0 (mI M) pc ls (.int n :: .int dp :: .ref b :: .int sp :: .ref (G.2.2.2.1 k) :: st)) rfl (by show ls.size = _; rw [hl.1, X.1.2.2.1]) (rest := st) rfl (by rw [X.1.2.1]; exact d) (by rw [X.2.2.2.2.2]; exact hR1) (by rw [X.2.2.2.2.2]; show 2 * 0 + _ + _ ≤ _; omega)
  have e1 : copied (cs0) (arrV (G.1.2 1) n1 (fun j => .int (f1 j))) sp dp n = arrV (G.1.2 1) n1 (fun j => .int (va_cpy (fun q => (bytST k).getD q 0) f1 sp.toNatClampNeg dp.toNatClampNeg n.toNatClampNeg j)) := va_copiedX (fun z => .int z) cs0 (G.1.2 1) (fun q => (bytST k).getD q 0) f1 s5 h4
  rw [e1] at X' step
  have hlb : b < H.size := (Array.getElem?_eq_some_iff.mp hc1).1
  generalize hcell : arrV (G.1.2 1) n1 (fun j => .int (va_cpy (fun q => (bytST k).getD q 0) f1 sp.toNatClampNeg dp.toNatClampNeg n.toNatClampNeg j)) = cell at X' step
  have hheap : ((T.setVm vm').setCell b cell).heap = H.setIfInBounds b cell := by rw [← hT]; rfl
  have oq : ∀ q : Nat, q ≠ b → (H.setIfInBounds b cell)[q]? = H[q]? := fun q hq => by simp [Array.getElem?_setIfInBounds, Ne.symm hq]
  obtain ⟨t, a1, b1⟩ := kk hq1 hq2 _ _ ls (hP.set hBb (show (H.setIfInBounds b cell)[b]? = some _ by simp [Array.getElem?_setIfInBounds, hlb]; exact hcell.symm) (by simp) oq) ⟨by simp; exact hS.1, fun q g1 g2 => by
      rw [oq q (fun e => g2 (by rw [e]; exact hBb))]
      exact hS.2.1 q g1 g2, fun q hq => by
      rcases List.mem_append.mp hq with h | h
      · exact hS.2.2 q h
      · obtain ⟨z, -, hz⟩ := List.mem_map.mp h
        rw [← hz]
        exact hBb⟩ hl _ hheap X'
  exact ⟨t, step t a1, b1⟩
theorem CX.byteName (X : CX M G cc nL own rm) : (mS M).vm.findClass "[B" = some (G.1.2 1) := (X.arr (t := 1) (by decide)).2
theorem r_castB (X : CX M G cc nL own rm) {i a : Nat} (d : decode cc pc = .ok (.checkcast i, 3)) (hk : Cond.classLink own i "[B" ∈ TBL) (h : isB g a = some ()) (k : WW M G nL Q kc ks g (pc + 3) L (.ref a :: st)) : WW M G nL Q kc ks g pc L (.ref a :: st) := by
  have h9 : ∃ (n : Nat) (f : Nat → Int32), g.1 a = some (.inr (1, n, .inl f)) := by
    unfold isB at h
    split at h
    · rename_i n f e
      exact ⟨n, f, e⟩
    · cases h
  obtain ⟨n, f, ha⟩ := h9
  intro hk1 hk2 H locs ls hP hS hl T hT X9
  have hc1 : H[a]? = some (arrV (G.1.2 1) n (fun j => .int (f j))) := (hP.1 a _ ha).1
  obtain ⟨vm', X', stp⟩ := X9.checkcastYes X.1.1 X.1.2.2.2.1 (X.w hk) (by rw [hT]; exact hc1) (by rfl) X.byteName (va_asg _ _) (g := F0 (mI M) pc ls (.ref a :: st)) rfl rfl (by rw [X.1.2.1]; exact d)
  obtain ⟨t, a1, b1⟩ := k hk1 hk2 H locs ls hP hS hl (T.setVm vm') hT X'
  exact ⟨t, stp t a1, b1⟩
theorem r_clone (X : CX M G cc nL own rm) {i a q : Nat} {g1 : AH} (d : decode cc pc = .ok (.invokevirtual i, 3)) (hm : Cond.methodLink own i ⟨"[B", "clone", "()Ljava/lang/Object;"⟩ ∈ TBL) (hR1 : 1 ≤ rm.frames) (hR2 : (st.map fun v => v.category).sum + 14 ≤ rm.locals) (hR : kc + 1 ≤ rm.cells ∧ ks + 400 ≤ rm.slots) (h : clonB g a = some (q, g1))
    (kk : WW M G nL Q (kc + 1) (ks + 400) g1 (pc + 3) L (.ref q :: st)) : WW M G nL Q kc ks g pc L (.ref a :: st) := by
  obtain ⟨n, f, hz, ha, hn, hf, rfl⟩ := clonB_spec h
  intro hk1 hk2 H locs ls hP hS hl
  have hB : G.2.1 ≤ H.size := Nat.le_trans X.2.2.1 hS.1
  have en : H.size = q := hP.2 q hz
  subst en
  have hc1 : H[a]? = some (arrV (G.1.2 1) n (fun j => .int (f j))) := (hP.1 a _ ha).1
  obtain ⟨c0, t0', f1, f2, f3⟩ := Cond.castable_spec (va_Nw.use (A := (mA M)) rfl X.sx.1.2.2)
  cases X.byteName.symm.trans f1
  intro T hT X9
  have hcellT : T.heap[a]? = some (arrV (G.1.2 1) n (fun j => .int (f j))) := by rw [hT]; exact hc1
  obtain ⟨-, kA, hkA, comp, hkind⟩ := State.isArrayOf_alike X9.warmed.alike ((X.arr (t := 1) (by decide)).1 0 (fun _ => .null))
  obtain ⟨-, kS, hkS, compS, hkindS⟩ := (X.arr (t := 1) (by decide)).1 0 (fun _ => .null)
  obtain ⟨vm', X', stp⟩ := X9.cloneArray X.1.1 X.1.2.2.2.1 (X.w hm) (X.w z_clone.2.2.1) (X.w z_clone.1) (X.w z_clone.2.1) (X.w z_clone.2.2.2) (a := a) (cell := arrV (G.1.2 1) n (fun j => .int (f j))) hcellT (fun k h => by cases h) (fun h => by cases h) X.byteName f2 f3
    (fun i v hv => by
      have hk' : T.vm.classes[G.1.2 1]? = some kA := hkA
      have hv2 : fits .byte v = true := by
        have hi : i < n := by
          have := (Array.getElem?_eq_some_iff.mp hv).1
          rw [arrV_size] at this
          exact this
        rw [arrV_read _ _ hi] at hv
        cases hv
        have := hf i hi
        rw [Nat.zero_add] at this
        exact this
      simpa [State.fitsSlot, State.slotType?, arrV, hk', hkind, kT] using hv2)
    (g := F0 (mI M) pc ls (.ref a :: st)) rfl (by show ls.size = _; rw [hl.1, X.1.2.2.1]) rfl (by rw [X.1.2.1]; exact d) (by rw [X.2.2.2.2.2]; exact hR1) (by rw [X.2.2.2.2.2]; show 2 * 0 + _ + 14 ≤ _; omega) (by rw [X.2.2.2.2.2]; exact hR.1) (by rw [X.2.2.2.2.2, arrV_size]; omega) (hloader := Vm.clonesLoader_of_array hkS hkindS)
  rw [arrV_size] at X'
  generalize hH1 : H.push (arrV (G.1.2 1) n (fun j => .int (f j))) = H1
  have z1 : H1.size = H.size + 1 := by rw [← hH1, Array.size_push]
  have e1 : H1[H.size]? = some (arrV (G.1.2 1) n (fun j => .int (f j))) := by rw [← hH1, Array.getElem?_push_size]
  have o1 : ∀ q : Nat, q < H.size → H1[q]? = H[q]? := fun q hq => by rw [← hH1, Array.getElem?_push, if_neg (Nat.ne_of_lt hq)]
  obtain ⟨-, hP1⟩ := hP.push hz hB (e := .inr (1, n, .inl f)) e1 z1 o1
  obtain ⟨t, b1, b2⟩ := (W.widen (Nat.le_refl _) (Nat.add_le_add_left hn ks) (kk (by rw [X.2.2.2.2.2]; exact hR.1) (by rw [X.2.2.2.2.2]; exact hR.2) H1 locs ls hP1 ⟨Nat.le_trans hS.1 (by omega), fun x h1 h2 => (o1 x (Nat.lt_of_lt_of_le h1 hS.1)).trans (hS.2.1 x h1 h2), hS.2.2⟩ hl)) ((T.setVm vm').pushCell (arrV (G.1.2 1) n (fun j => .int (f j)))) (by rw [← hH1, ← hT]; rfl) X'
  refine ⟨t, stp t ?_, b2⟩
  rw [hT]
  exact b1
/-! rows of objects of any class -/
def astN (t : Nat) (g : AH) (a : Nat) (i : Int32) : Option AH := match g.1 a with
  | some (.inr (k, n, .inr (.inr f))) => if k = t then (if outI i n then none else some (hset g a (.inr (t, n, .inr (.inr (va_up f i.toNatClampNeg none)))))) else none
  | _ => none
theorem astN_spec {t : Nat} {g g1 : AH} {a : Nat} {i : Int32} (h : astN t g a i = some g1) : ∃ (n : Nat) (f : Nat → Option Nat), g.1 a = some (.inr (t, n, .inr (.inr f))) ∧ ¬ outI i n ∧ g1 = hset g a (.inr (t, n, .inr (.inr (va_up f i.toNatClampNeg none)))) := by
  unfold astN at h
  split at h
  · rename_i k n f hk
    by_cases h1 : k = t
    · subst h1
      rw [if_pos rfl] at h
      by_cases h2 : outI i n
      · rw [if_pos h2] at h; cases h
      · rw [if_neg h2] at h
        exact ⟨n, f, hk, h2, (Option.some.inj h).symm⟩
    · rw [if_neg h1] at h; cases h
  · cases h
theorem upd_V0 {f : Nat → Option Nat} {k : Nat} : updV (fun j => va_rf (f j)) k .null = fun j => va_rf (va_up f k none j) := by
  funext q
  by_cases hq : q = k
  · subst hq; simp [updV, va_up, va_rf]
  · simp [updV, va_up, hq]
theorem r_aastN (X : CX M G cc nL own rm) {a : Nat} {i : Int32} {g1 : AH} (d : decode cc pc = .ok (.aastore, 1)) (h : astN 6 g a i = some g1) (kk : WW M G nL Q kc ks g1 (pc + 1) L st) : WW M G nL Q kc ks g pc L (va_rf none :: .int i :: .ref a :: st) := by
  obtain ⟨n, f, ha, hin, rfl⟩ := astN_spec h
  intro hk1 hk2 H locs ls hP hS hl
  have hBa := (hP.1 a _ ha).2
  refine va_WaastN (C := "java/lang/Object") X.1.1 X.1.2.1 (hP.1 a _ ha).1 ((X.arr (t := 6) (by decide)).1 n _) (fun h => by cases h) (in_size hin) rfl rfl d fun H1 e z oq => ?_
  refine kk hk1 hk2 H1 _ ls (hP.set hBa ?_ z oq) (hS.put z oq hBa) hl
  show H1[a]? = some (arrV _ _ _)
  rw [e, arrV_store, upd_V0]
theorem r_aastO (X : CX M G cc nL own rm) {a : Nat} {i : Int32} {x : Nat} {g1 : AH} (d : decode cc pc = .ok (.aastore, 1)) (h : astR 6 9 g a i x = some g1) (kk : WW M G nL Q kc ks g1 (pc + 1) L st) : WW M G nL Q kc ks g pc L (.ref x :: .int i :: .ref a :: st) := by
  obtain ⟨n, f, ha, hin, hx, rfl⟩ := astR_spec h
  obtain ⟨V, hV⟩ := isO_spec hx
  intro hk1 hk2 H locs ls hP hS hl
  have hBa := (hP.1 a _ ha).2
  have h0 : ¬ i < 0 := fun q => hin (Or.inl q)
  obtain ⟨⟨r', hr', cellV, g1, g2, g3, -⟩, -⟩ := hP.1 x _ hV
  have hcls := (X.2.1.1 9 (RX9, TX9, 8) rfl).2
  obtain ⟨kA, comp, k1, k2, k3, -⟩ := (X.arr (t := 6) (by decide)).2
  obtain ⟨kE, hkE, -⟩ := Vm.findClass_spec k3
  obtain ⟨c0, t1, f1, f2, f3⟩ := Cond.castable_spec (va_Nw.use (A := (mA M)) rfl X.sx.1.2.1)
  cases hcls.1.symm.trans f1
  cases k3.symm.trans f2
  obtain ⟨kC, hkC, -⟩ := hcls.2
  refine W.aast X.1.1 X.1.2.1 (hP.1 a _ ha).1 (fun q h => by cases h) (fun h => by cases h) k1 k2 rfl hkE ⟨h0, by show _ < (arrV _ _ _).slots.size; rw [arrV_size]; exact in_lt hin⟩ g1 (fun q h => by rw [g3] at h; cases h) (by rw [g2]; exact hkC) (by rw [g2]; exact f3) rfl rfl d fun H1 e z oq => ?_
  refine kk hk1 hk2 H1 _ ls (hP.set hBa ?_ z oq) (hS.put z oq hBa) hl
  show H1[a]? = some (arrV _ _ _)
  rw [e, arrV_store, upd_VR]
/-! what the functions are told of the start: the empty row's place, the script's, the script -/
abbrev KK : Type := Nat × Nat × Nat × (Nat → Int32)
abbrev GK (G : GG) : KK := (G.2.2.1 100, G.2.2.1 101, G.2.2.2.2.1, G.2.2.2.2.2)
def alenQ (z : Nat) (g : AH) (a : Nat) : Option Int32 := if a = z then some 0 else alen 6 g a
def slenS (k9 : KK) (a : Nat) : Option Int32 := if a = k9.2.1 then some (Int32.ofNat k9.2.2.1) else none
def saldS (k9 : KK) (a : Nat) (i : Int32) : Option Int32 := if a = k9.2.1 then (if outI i k9.2.2.1 then none else some (k9.2.2.2 i.toNatClampNeg)) else none
theorem r_alenQ (X : CX M G cc nL own rm) {a : Nat} {x : Int32} (d : decode cc pc = .ok (.arraylength, 1)) (h : alenQ (GK G).1 g a = some x) (kk : WW M G nL Q kc ks g (pc + 1) L (.int x :: st)) : WW M G nL Q kc ks g pc L (.ref a :: st) := by
  unfold alenQ at h
  by_cases hz : a = (GK G).1
  · rw [if_pos hz] at h
    cases h
    subst hz
    exact fun hk1 hk2 H locs ls hP hS hl => va_tlen X.1.1 X.1.2.1 X.sx.2.2.2.1.2 hS rfl d (kk hk1 hk2 H locs ls hP hS hl)
  · rw [if_neg hz] at h
    exact r_alen X 6 (by decide) d h kk
theorem r_slenS (X : CX M G cc nL own rm) {a : Nat} {x : Int32} (d : decode cc pc = .ok (.arraylength, 1)) (h : slenS (GK G) a = some x) (kk : WW M G nL Q kc ks g (pc + 1) L (.int x :: st)) : WW M G nL Q kc ks g pc L (.ref a :: st) := by
  unfold slenS at h
  by_cases hz : a = (GK G).2.1
  · rw [if_pos hz] at h
    cases h
    subst hz
    obtain ⟨h1, h2, h3⟩ := X.sx.2.2.2.2.2.2
    exact fun hk1 hk2 H locs ls hP hS hl => va_slen X.1.1 X.1.2.1 h1 h2 h3 hS d (kk hk1 hk2 H locs ls hP hS hl)
  · rw [if_neg hz] at h; cases h
theorem r_saldS (X : CX M G cc nL own rm) {a : Nat} {i x : Int32} (d : decode cc pc = .ok (.iaload, 1)) (h : saldS (GK G) a i = some x) (kk : WW M G nL Q kc ks g (pc + 1) L (.int x :: st)) : WW M G nL Q kc ks g pc L (.int i :: .ref a :: st) := by
  unfold saldS at h
  by_cases hz : a = (GK G).2.1
  · rw [if_pos hz] at h
    by_cases h9 : outI i (GK G).2.2.1
    · rw [if_pos h9] at h; cases h
    · rw [if_neg h9] at h
      cases h
      subst hz
      obtain ⟨h1, h2, h3⟩ := X.sx.2.2.2.2.2.2
      exact fun hk1 hk2 H locs ls hP hS hl => va_sld X.1.1 X.1.2.1 h1 h2 h3 hS h9 d (kk hk1 hk2 H locs ls hP hS hl)
  · rw [if_neg hz] at h; cases h
/-! the library's digits -/
def digB (k : Nat) (i : Int32) : Option Int32 := if outI i 100 then none else some ((bytD k).getD i.toNatClampNeg 0)
theorem r_digB (X : CX M G cc nL own rm) {k : Nat} {i x : Int32} (hk : k = 0 ∨ k = 1) (d : decode cc pc = .ok (.baload, 1)) (h : digB k i = some x) (kk : WW M G nL Q kc ks g (pc + 1) L (.int x :: st)) : WW M G nL Q kc ks g pc L (.int i :: .ref (G.2.2.2.1 (100 + k)) :: st) := by
  unfold digB at h
  by_cases h9 : outI i 100
  · rw [if_pos h9] at h; cases h
  · rw [if_neg h9] at h
    cases h
    rcases hk with rfl | rfl
    · exact fun hk1 hk2 H locs ls hP hS hl => va_tb X.1.1 X.1.2.1 X.sx.2.2.2.2.1.2 hS h9 rfl d (kk hk1 hk2 H locs ls hP hS hl)
    · exact fun hk1 hk2 H locs ls hP hS hl => va_tb X.1.1 X.1.2.1 X.sx.2.2.2.2.2.1.2 hS h9 rfl d (kk hk1 hk2 H locs ls hP hS hl)
theorem r_gets0 (X : CX M G cc nL own rm) {i : Nat} {C n d : String} {v : Value} (dd : decode cc pc = .ok (.getstatic i, 3)) (hw : Cond.fieldLink own i C n d ∈ TBL) (hZ : va_Z C n d v (gA G) (mS M) (mS M).heap) (kk : WW M G nL Q kc ks g (pc + 3) L (v :: st)) : WW M G nL Q kc ks g pc L st :=
  fun hk1 hk2 H locs ls hP hS hl => va_gets X.1.1 X.1.2.1 hZ hS X.1.2.2.2.1 (X.w hw) (fun _ h => h) dd (kk hk1 hk2 H locs ls hP hS hl)
/-! a result that may be null -/
theorem r_qret (X : CX M G cc nL own rm) {o : Option Nat} {mc ms : Nat} {rt : FieldType} (hr : (mM M).sig.returnType = some rt) (hrt : (∃ n, rt = .object n) ∨ ∃ t, rt = .array t) (d : decode cc pc = .ok (.areturn, 1)) (hc : kc ≤ mc) (hs : ks ≤ ms) : WW M G nL (RQ M G (some (va_rf o)) g mc ms) kc ks g pc L [va_rf o] := fun hk1 hk2 H locs ls hP hS hl =>
  W.widen hc hs (W.aret X.1.1 X.1.2.1 hr hrt (by cases o with
    | none => exact Or.inl rfl
    | some a => exact Or.inr ⟨a, rfl⟩) (fun t ht hW => ⟨⟨rfl, by rw [ht]; exact hP⟩, hS.F ht⟩) hS.2.2 d X.2.2.2.1)
def nb {α β : Type} (o : Option α) (z : Option β) (f : α → Option β) : Option β := match o with
  | none => z
  | some a => f a
theorem nb_none {α β : Type} {z : Option β} {f : α → Option β} : nb none z f = z := rfl
theorem nb_some {α β : Type} {a : α} {z : Option β} {f : α → Option β} : nb (some a) z f = f a := rfl
/-! the heap's size is what it is -/
theorem r_size (X : CX M G cc nL own rm) {f : Nat → Option hE} {o : Option Nat} (k : ∀ n : Nat, (∀ (a : Nat) (e : hE), f a = some e → a < n) → WW M G nL Q kc ks (f, some n) pc L st) : WW M G nL Q kc ks (f, o) pc L st := fun hk1 hk2 H locs ls hP hS hl =>
  k H.size (fun a e ha => (hP.1 a e ha).1.lt) hk1 hk2 H locs ls ⟨hP.1, fun n hn => (by cases hn; rfl)⟩ hS hl
theorem r_weak (X : CX M G cc nL own rm) {g2 : AH} (h : ∀ (a : Nat) (e : hE), g2.1 a = some e → g.1 a = some e) (h2 : g2.2 = none) (k : WW M G nL Q kc ks g2 pc L st) : WW M G nL Q kc ks g pc L st := fun hk1 hk2 H locs ls hP hS hl =>
  k hk1 hk2 H locs ls ⟨fun a e ha => hP.1 a e (h a e ha), fun n hn => (by rw [h2] at hn; cases hn)⟩ hS hl
end RowsY
end
section
/-! the library's checks, calls on String constants that write -/
def chkI (q n : Int32) : Option Unit := if q < 0 then none else if q < n then some () else none
theorem chkI_spec {q n : Int32} (h : chkI q n = some ()) : ¬ q < 0 ∧ q < n := by
  unfold chkI at h
  by_cases h1 : q < 0
  · rw [if_pos h1] at h; cases h
  · rw [if_neg h1] at h
    by_cases h2 : q < n
    · exact ⟨h1, h2⟩
    · rw [if_neg h2] at h; cases h
theorem t_objCheck {l : Launch} {G : GG} {q n : Int32} {g : AH} (h0 : ¬ q < 0) (h1 : q < n) : Ct l G yJ15_checkIndex_7cf53 cJ15_checkIndex_7cf53 2 (some .int) ⟨2, 0, 0, 90⟩ [.int q, .int n] g (some (.int q)) g :=
  ct_of (L0 := [(0, .int q), (1, .int n)]) y_J15_checkIndex_7cf53 rfl (Nat.le_of_ble_eq_true rfl) fun M hl0 X hr hnm => by
  refine r_iload_n X 0 dJ15_checkIndex_7cf53_0 rfl rfl ?_
  refine r_iload_n X 1 dJ15_checkIndex_7cf53_1 rfl rfl ?_
  refine r_null X dJ15_checkIndex_7cf53_2 ?_
  refine r_callS0 X hl0 dJ15_checkIndex_7cf53_3 y_J3_checkIndex_8e157 m_J15_105 (t_preCheck (v := va_rf none) rfl h0 h1) rfl rfl (Nat.le_of_ble_eq_true rfl) (by decide) ?_
  exact r_iret X hr dJ15_checkIndex_7cf53_6 (by decide) (by decide)
def narI (ty : FieldType) (x : Int32) : Int32 := match narrow ty (.int x) with
  | .int y => y
  | _ => 0
theorem nar_of {ty : FieldType} {x : Int32} (h : ty = .byte ∨ ty = .char) (e : narI ty x = x) : narrow ty (.int x) = .int x := by
  unfold narI at e
  rcases h with rfl | rfl
  · have e2 : narrow .byte (.int x) = .int (x.toInt8.toInt32) := rfl
    rw [e2] at e ⊢
    rw [show x.toInt8.toInt32 = x from e]
  · have e2 : ∃ y, narrow .char (.int x) = .int y := ⟨_, rfl⟩
    obtain ⟨y, hy⟩ := e2
    rw [hy] at e ⊢
    rw [show y = x from e]
section RowsZ
variable {M : MC} {G : GG} {cc : ByteArray} {nL : Nat} {own : String} {rm : Room} {Q : State → Prop} {kc ks : Nat} {g : AH} {pc : Nat} {L : List (Nat × Value)} {st : List Value}

theorem r_chkS (X : CX M G cc nL own rm) {l : Launch} (hl0 : M.2.1 = l) {i : Nat} {q n : Int32} (d : decode cc pc = .ok (.invokestatic i, 3)) (hm : Cond.methodLink own i yJ0_checkIndex_df160 ∈ TBL) (e : chkI q n = some ()) (hcat : (st.map fun v => v.category).sum ≤ 8) (hR : 2 + 1 ≤ rm.frames ∧ 8 + (2 + 11) + 90 ≤ rm.locals) (kk : WW M G nL Q kc ks g (pc + 3) L st) : WW M G nL Q kc ks g pc L (.int n :: .int q :: st) := by
  obtain ⟨h0, h1⟩ := chkI_spec e
  exact r_callS0 X hl0 d y_J0_checkIndex_df160 hm (t_strCheck h0 h1) rfl rfl hcat hR kk
theorem r_chkO (X : CX M G cc nL own rm) {l : Launch} (hl0 : M.2.1 = l) {i : Nat} {q n : Int32} (d : decode cc pc = .ok (.invokestatic i, 3)) (hm : Cond.methodLink own i yJ15_checkIndex_7cf53 ∈ TBL) (e : chkI q n = some ()) (hcat : (st.map fun v => v.category).sum ≤ 8) (hR : 2 + 1 ≤ rm.frames ∧ 8 + (2 + 11) + 90 ≤ rm.locals) (kk : WW M G nL Q kc ks g (pc + 3) L (.int q :: st)) : WW M G nL Q kc ks g pc L (.int n :: .int q :: st) := by
  obtain ⟨h0, h1⟩ := chkI_spec e
  exact r_callS0 X hl0 d y_J15_checkIndex_7cf53 hm (t_objCheck h0 h1) rfl rfl hcat hR kk
theorem r_callVsg (X : CX M G cc nL own rm) {l : Launch} (hl0 : M.2.1 = l) {i n k : Nat} {y : MethodName} {bytes : ByteArray} {maxL : Nat} {ret : Option FieldType} {fr lo : Nat} {As : List Value} {r : Option Value} {g1 : AH} {st0 : List Value} (d : decode cc pc = .ok (.invokevirtual i, 3)) (yl : YL 0 y bytes maxL ret n) (hm : Cond.methodLink own i y ∈ TBL) (hk : k < nST) (hy : y.cls = "java/lang/String")
    (ct : Ct l G y bytes maxL ret ⟨fr, 0, 0, lo⟩ (.ref (G.2.2.1 k) :: As) g r g1) (hst : st0 = As.reverse ++ .ref (G.2.2.1 k) :: st) (hn : As.length = n) (hcat : (st.map fun v => v.category).sum ≤ 8) (hR : fr + 1 ≤ rm.frames ∧ 8 + (maxL + 11) + lo ≤ rm.locals)
    (kk : WW M G nL Q kc ks g1 (pc + 3) L (r.toList ++ st)) : WW M G nL Q kc ks g pc L st0 := fun hk1 hk2 => by
  subst hl0
  have hR2 : kc + 0 ≤ rm.cells ∧ ks + 0 ≤ rm.slots := ⟨by rw [← X.2.2.2.2.2]; exact hk1, by rw [← X.2.2.2.2.2]; exact hk2⟩
  refine r_run X (mc := 0) (ms := 0) hR2 (a := (Value.ref (G.2.2.1 k) :: As).toArray) (fun H locs ls hP hS hl => ?_) kk hk1 hk2
  have h5 := yl.2.2.2.2.1 rfl
  obtain ⟨cell, h1, h2, h3, -⟩ := (X.str hk).1.kept hS.2.1
  exact va_runV (C := y.cls) X.1 ct ⟨X.callB yl hm hR, X.w h5.1, X.w h5.2⟩ ⟨PcG.blind, by rw [hy]; exact ⟨cell, h1, h2, h3⟩, X.pre hP hS⟩ rfl hn hl.1 hst (by show 2 * 0 + _ ≤ 8; omega) d (by rw [X.2.2.2.2.2]; exact hR2)
end RowsZ
end
