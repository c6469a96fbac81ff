-- ===== PART A: goes FIRST, ahead of the names: the tables' words, and 'selects' of the private methods out of them =====
/-- a private method of a class that the tables say can be made, by its rows of tables_1 -/
def lw_okq (q : MethodName × Nat) : Prop := (q.1.cls ≠ "java/lang/invoke/MethodHandle" ∧ q.1.cls ≠ "java/lang/invoke/VarHandle") ∧ Cond.instantiable q.1.cls q.2 ∈ tables_1 ∧ Cond.privateMethod q.1 ∈ tables_1 ∧ Cond.instanceMethod q.1 ∈ tables_1
theorem lw_p0 : lw_okq (⟨"ClosesAfterSeventh$HouseReader", "takes", "(C)Z"⟩, 8) := ⟨⟨by decide +kernel, by decide +kernel⟩, List.mem_of_getElem? (i := 169) (by decide +kernel), List.mem_of_getElem? (i := 616) (by decide +kernel), List.mem_of_getElem? (i := 617) (by decide +kernel)⟩
theorem lw_p1 : lw_okq (⟨"ClosesAfterSeventh$HouseReader", "stands", "(C)Z"⟩, 8) := ⟨⟨by decide +kernel, by decide +kernel⟩, List.mem_of_getElem? (i := 169) (by decide +kernel), List.mem_of_getElem? (i := 620) (by decide +kernel), List.mem_of_getElem? (i := 621) (by decide +kernel)⟩
theorem lw_p2 : lw_okq (⟨"ClosesAfterSeventh$HouseReader", "readLine", "()Z"⟩, 8) := ⟨⟨by decide +kernel, by decide +kernel⟩, List.mem_of_getElem? (i := 169) (by decide +kernel), List.mem_of_getElem? (i := 624) (by decide +kernel), List.mem_of_getElem? (i := 625) (by decide +kernel)⟩
theorem lw_p3 : lw_okq (⟨"ClosesAfterSeventh$HouseReader", "readDoor", "(I)Z"⟩, 8) := ⟨⟨by decide +kernel, by decide +kernel⟩, List.mem_of_getElem? (i := 169) (by decide +kernel), List.mem_of_getElem? (i := 628) (by decide +kernel), List.mem_of_getElem? (i := 629) (by decide +kernel)⟩
theorem lw_p4 : lw_okq (⟨"ClosesAfterSeventh$HouseReader", "readNumber", "(I)Z"⟩, 8) := ⟨⟨by decide +kernel, by decide +kernel⟩, List.mem_of_getElem? (i := 169) (by decide +kernel), List.mem_of_getElem? (i := 632) (by decide +kernel), List.mem_of_getElem? (i := 633) (by decide +kernel)⟩
theorem lw_p5 : lw_okq (⟨"ClosesAfterSeventh$HouseReader", "readPerson", "(I)Z"⟩, 8) := ⟨⟨by decide +kernel, by decide +kernel⟩, List.mem_of_getElem? (i := 169) (by decide +kernel), List.mem_of_getElem? (i := 639) (by decide +kernel), List.mem_of_getElem? (i := 640) (by decide +kernel)⟩
theorem lw_p6 : lw_okq (⟨"ClosesAfterSeventh$Price", "readThing", "(C)Z"⟩, 15) := ⟨⟨by decide +kernel, by decide +kernel⟩, List.mem_of_getElem? (i := 200) (by decide +kernel), List.mem_of_getElem? (i := 660) (by decide +kernel), List.mem_of_getElem? (i := 661) (by decide +kernel)⟩
theorem lw_p7 : lw_okq (⟨"ClosesAfterSeventh$Price", "readNumber", "()I"⟩, 15) := ⟨⟨by decide +kernel, by decide +kernel⟩, List.mem_of_getElem? (i := 200) (by decide +kernel), List.mem_of_getElem? (i := 665) (by decide +kernel), List.mem_of_getElem? (i := 666) (by decide +kernel)⟩
theorem lw_p8 : lw_okq (⟨"ClosesAfterSeventh$Price", "emit", "(I)V"⟩, 15) := ⟨⟨by decide +kernel, by decide +kernel⟩, List.mem_of_getElem? (i := 200) (by decide +kernel), List.mem_of_getElem? (i := 669) (by decide +kernel), List.mem_of_getElem? (i := 670) (by decide +kernel)⟩
theorem lw_p9 : lw_okq (⟨"ClosesAfterSeventh$Price", "hold", "(I)V"⟩, 15) := ⟨⟨by decide +kernel, by decide +kernel⟩, List.mem_of_getElem? (i := 200) (by decide +kernel), List.mem_of_getElem? (i := 758) (by decide +kernel), List.mem_of_getElem? (i := 759) (by decide +kernel)⟩
theorem lw_p10 : lw_okq (⟨"ClosesAfterSeventh$Price", "readJoint", "(C)Z"⟩, 15) := ⟨⟨by decide +kernel, by decide +kernel⟩, List.mem_of_getElem? (i := 200) (by decide +kernel), List.mem_of_getElem? (i := 762) (by decide +kernel), List.mem_of_getElem? (i := 763) (by decide +kernel)⟩
theorem lw_p11 : lw_okq (⟨"ClosesAfterSeventh$Price", "release", "(I)V"⟩, 15) := ⟨⟨by decide +kernel, by decide +kernel⟩, List.mem_of_getElem? (i := 200) (by decide +kernel), List.mem_of_getElem? (i := 766) (by decide +kernel), List.mem_of_getElem? (i := 767) (by decide +kernel)⟩
theorem lw_p12 : lw_okq (⟨"ClosesAfterSeventh$Price", "adopt", "()V"⟩, 15) := ⟨⟨by decide +kernel, by decide +kernel⟩, List.mem_of_getElem? (i := 200) (by decide +kernel), List.mem_of_getElem? (i := 773) (by decide +kernel), List.mem_of_getElem? (i := 774) (by decide +kernel)⟩
theorem lw_p13 : lw_okq (⟨"ClosesAfterSeventh$Walks", "spend", "(II)V"⟩, 9) := ⟨⟨by decide +kernel, by decide +kernel⟩, List.mem_of_getElem? (i := 326) (by decide +kernel), List.mem_of_getElem? (i := 824) (by decide +kernel), List.mem_of_getElem? (i := 825) (by decide +kernel)⟩
theorem lw_p14 : lw_okq (⟨"ClosesAfterSeventh$Routes", "setSteps", "()V"⟩, 5) := ⟨⟨by decide +kernel, by decide +kernel⟩, List.mem_of_getElem? (i := 253) (by decide +kernel), List.mem_of_getElem? (i := 855) (by decide +kernel), List.mem_of_getElem? (i := 856) (by decide +kernel)⟩
theorem lw_p15 : lw_okq (⟨"ClosesAfterSeventh$Routes", "trace", "(II)I"⟩, 5) := ⟨⟨by decide +kernel, by decide +kernel⟩, List.mem_of_getElem? (i := 253) (by decide +kernel), List.mem_of_getElem? (i := 859) (by decide +kernel), List.mem_of_getElem? (i := 860) (by decide +kernel)⟩
def lw_privs_1 : List (MethodName × Nat) := [(⟨"ClosesAfterSeventh$HouseReader", "takes", "(C)Z"⟩, 8), (⟨"ClosesAfterSeventh$HouseReader", "stands", "(C)Z"⟩, 8), (⟨"ClosesAfterSeventh$HouseReader", "readLine", "()Z"⟩, 8), (⟨"ClosesAfterSeventh$HouseReader", "readDoor", "(I)Z"⟩, 8), (⟨"ClosesAfterSeventh$HouseReader", "readNumber", "(I)Z"⟩, 8), (⟨"ClosesAfterSeventh$HouseReader", "readPerson", "(I)Z"⟩, 8), (⟨"ClosesAfterSeventh$Price", "readThing", "(C)Z"⟩, 15), (⟨"ClosesAfterSeventh$Price", "readNumber", "()I"⟩, 15), (⟨"ClosesAfterSeventh$Price", "emit", "(I)V"⟩, 15), (⟨"ClosesAfterSeventh$Price", "hold", "(I)V"⟩, 15), (⟨"ClosesAfterSeventh$Price", "readJoint", "(C)Z"⟩, 15), (⟨"ClosesAfterSeventh$Price", "release", "(I)V"⟩, 15), (⟨"ClosesAfterSeventh$Price", "adopt", "()V"⟩, 15), (⟨"ClosesAfterSeventh$Walks", "spend", "(II)V"⟩, 9), (⟨"ClosesAfterSeventh$Routes", "setSteps", "()V"⟩, 5), (⟨"ClosesAfterSeventh$Routes", "trace", "(II)I"⟩, 5)]
theorem lw_r1 : ∀ q ∈ lw_privs_1, lw_okq q := List.forall_mem_cons.mpr ⟨lw_p0, List.forall_mem_cons.mpr ⟨lw_p1, List.forall_mem_cons.mpr ⟨lw_p2, List.forall_mem_cons.mpr ⟨lw_p3, List.forall_mem_cons.mpr ⟨lw_p4, List.forall_mem_cons.mpr ⟨lw_p5, List.forall_mem_cons.mpr ⟨lw_p6, List.forall_mem_cons.mpr ⟨lw_p7, List.forall_mem_cons.mpr ⟨lw_p8, List.forall_mem_cons.mpr ⟨lw_p9, List.forall_mem_cons.mpr ⟨lw_p10, List.forall_mem_cons.mpr ⟨lw_p11, List.forall_mem_cons.mpr ⟨lw_p12, List.forall_mem_cons.mpr ⟨lw_p13, List.forall_mem_cons.mpr ⟨lw_p14, List.forall_mem_cons.mpr ⟨lw_p15, fun _ h => absurd h List.not_mem_nil⟩⟩⟩⟩⟩⟩⟩⟩⟩⟩⟩⟩⟩⟩⟩⟩
theorem lw_p16 : lw_okq (⟨"ClosesAfterSeventh", "tellRoute", "(I)I"⟩, 20) := ⟨⟨by decide +kernel, by decide +kernel⟩, List.mem_of_getElem? (i := 28) (by decide +kernel), List.mem_of_getElem? (i := 863) (by decide +kernel), List.mem_of_getElem? (i := 864) (by decide +kernel)⟩
theorem lw_p17 : lw_okq (⟨"ClosesAfterSeventh", "tell", "(J)V"⟩, 20) := ⟨⟨by decide +kernel, by decide +kernel⟩, List.mem_of_getElem? (i := 28) (by decide +kernel), List.mem_of_getElem? (i := 867) (by decide +kernel), List.mem_of_getElem? (i := 868) (by decide +kernel)⟩
theorem lw_p18 : lw_okq (⟨"ClosesAfterSeventh$Walks", "setCosts", "(II)V"⟩, 9) := ⟨⟨by decide +kernel, by decide +kernel⟩, List.mem_of_getElem? (i := 326) (by decide +kernel), List.mem_of_getElem? (i := 910) (by decide +kernel), List.mem_of_getElem? (i := 911) (by decide +kernel)⟩
theorem lw_p19 : lw_okq (⟨"ClosesAfterSeventh$Walks", "crosses", "(III)Z"⟩, 9) := ⟨⟨by decide +kernel, by decide +kernel⟩, List.mem_of_getElem? (i := 326) (by decide +kernel), List.mem_of_getElem? (i := 957) (by decide +kernel), List.mem_of_getElem? (i := 958) (by decide +kernel)⟩
theorem lw_p20 : lw_okq (⟨"ClosesAfterSeventh$Flow", "search", "(II)I"⟩, 11) := ⟨⟨by decide +kernel, by decide +kernel⟩, List.mem_of_getElem? (i := 284) (by decide +kernel), List.mem_of_getElem? (i := 986) (by decide +kernel), List.mem_of_getElem? (i := 987) (by decide +kernel)⟩
theorem lw_p21 : lw_okq (⟨"ClosesAfterSeventh$Flow", "free", "(II)I"⟩, 11) := ⟨⟨by decide +kernel, by decide +kernel⟩, List.mem_of_getElem? (i := 284) (by decide +kernel), List.mem_of_getElem? (i := 991) (by decide +kernel), List.mem_of_getElem? (i := 992) (by decide +kernel)⟩
theorem lw_p22 : lw_okq (⟨"ClosesAfterSeventh$Flow", "narrowest", "(II)I"⟩, 11) := ⟨⟨by decide +kernel, by decide +kernel⟩, List.mem_of_getElem? (i := 284) (by decide +kernel), List.mem_of_getElem? (i := 995) (by decide +kernel), List.mem_of_getElem? (i := 996) (by decide +kernel)⟩
theorem lw_p23 : lw_okq (⟨"ClosesAfterSeventh$Flow", "push", "(III)V"⟩, 11) := ⟨⟨by decide +kernel, by decide +kernel⟩, List.mem_of_getElem? (i := 284) (by decide +kernel), List.mem_of_getElem? (i := 1000) (by decide +kernel), List.mem_of_getElem? (i := 1001) (by decide +kernel)⟩
theorem lw_p24 : lw_okq (⟨"ClosesAfterSeventh$Flow", "comingTo", "(I)I"⟩, 11) := ⟨⟨by decide +kernel, by decide +kernel⟩, List.mem_of_getElem? (i := 284) (by decide +kernel), List.mem_of_getElem? (i := 1026) (by decide +kernel), List.mem_of_getElem? (i := 1027) (by decide +kernel)⟩
theorem lw_p25 : lw_okq (⟨"ClosesAfterSeventh$Flow", "addGains", "(II)V"⟩, 11) := ⟨⟨by decide +kernel, by decide +kernel⟩, List.mem_of_getElem? (i := 284) (by decide +kernel), List.mem_of_getElem? (i := 1030) (by decide +kernel), List.mem_of_getElem? (i := 1031) (by decide +kernel)⟩
theorem lw_p26 : lw_okq (⟨"ClosesAfterSeventh", "tellRescued", "(I)I"⟩, 20) := ⟨⟨by decide +kernel, by decide +kernel⟩, List.mem_of_getElem? (i := 28) (by decide +kernel), List.mem_of_getElem? (i := 1051) (by decide +kernel), List.mem_of_getElem? (i := 1052) (by decide +kernel)⟩
theorem lw_p27 : lw_okq (⟨"ClosesAfterSeventh$Walks", "canCome", "(I)I"⟩, 9) := ⟨⟨by decide +kernel, by decide +kernel⟩, List.mem_of_getElem? (i := 326) (by decide +kernel), List.mem_of_getElem? (i := 1077) (by decide +kernel), List.mem_of_getElem? (i := 1078) (by decide +kernel)⟩
theorem lw_p28 : lw_okq (⟨"ClosesAfterSeventh$Walks", "canComeBehind", "(II)I"⟩, 9) := ⟨⟨by decide +kernel, by decide +kernel⟩, List.mem_of_getElem? (i := 326) (by decide +kernel), List.mem_of_getElem? (i := 1084) (by decide +kernel), List.mem_of_getElem? (i := 1085) (by decide +kernel)⟩
theorem lw_p29 : lw_okq (⟨"ClosesAfterSeventh", "tellDay", "()I"⟩, 20) := ⟨⟨by decide +kernel, by decide +kernel⟩, List.mem_of_getElem? (i := 28) (by decide +kernel), List.mem_of_getElem? (i := 1102) (by decide +kernel), List.mem_of_getElem? (i := 1103) (by decide +kernel)⟩
theorem lw_p30 : lw_okq (⟨"ClosesAfterSeventh$Orders", "begin", "(I)V"⟩, 15) := ⟨⟨by decide +kernel, by decide +kernel⟩, List.mem_of_getElem? (i := 365) (by decide +kernel), List.mem_of_getElem? (i := 1135) (by decide +kernel), List.mem_of_getElem? (i := 1136) (by decide +kernel)⟩
theorem lw_p31 : lw_okq (⟨"ClosesAfterSeventh$Orders", "goOn", "(II)V"⟩, 15) := ⟨⟨by decide +kernel, by decide +kernel⟩, List.mem_of_getElem? (i := 365) (by decide +kernel), List.mem_of_getElem? (i := 1145) (by decide +kernel), List.mem_of_getElem? (i := 1146) (by decide +kernel)⟩
def lw_privs_2 : List (MethodName × Nat) := [(⟨"ClosesAfterSeventh", "tellRoute", "(I)I"⟩, 20), (⟨"ClosesAfterSeventh", "tell", "(J)V"⟩, 20), (⟨"ClosesAfterSeventh$Walks", "setCosts", "(II)V"⟩, 9), (⟨"ClosesAfterSeventh$Walks", "crosses", "(III)Z"⟩, 9), (⟨"ClosesAfterSeventh$Flow", "search", "(II)I"⟩, 11), (⟨"ClosesAfterSeventh$Flow", "free", "(II)I"⟩, 11), (⟨"ClosesAfterSeventh$Flow", "narrowest", "(II)I"⟩, 11), (⟨"ClosesAfterSeventh$Flow", "push", "(III)V"⟩, 11), (⟨"ClosesAfterSeventh$Flow", "comingTo", "(I)I"⟩, 11), (⟨"ClosesAfterSeventh$Flow", "addGains", "(II)V"⟩, 11), (⟨"ClosesAfterSeventh", "tellRescued", "(I)I"⟩, 20), (⟨"ClosesAfterSeventh$Walks", "canCome", "(I)I"⟩, 9), (⟨"ClosesAfterSeventh$Walks", "canComeBehind", "(II)I"⟩, 9), (⟨"ClosesAfterSeventh", "tellDay", "()I"⟩, 20), (⟨"ClosesAfterSeventh$Orders", "begin", "(I)V"⟩, 15), (⟨"ClosesAfterSeventh$Orders", "goOn", "(II)V"⟩, 15)]
theorem lw_r2 : ∀ q ∈ lw_privs_2, lw_okq q := List.forall_mem_cons.mpr ⟨lw_p16, List.forall_mem_cons.mpr ⟨lw_p17, List.forall_mem_cons.mpr ⟨lw_p18, List.forall_mem_cons.mpr ⟨lw_p19, List.forall_mem_cons.mpr ⟨lw_p20, List.forall_mem_cons.mpr ⟨lw_p21, List.forall_mem_cons.mpr ⟨lw_p22, List.forall_mem_cons.mpr ⟨lw_p23, List.forall_mem_cons.mpr ⟨lw_p24, List.forall_mem_cons.mpr ⟨lw_p25, List.forall_mem_cons.mpr ⟨lw_p26, List.forall_mem_cons.mpr ⟨lw_p27, List.forall_mem_cons.mpr ⟨lw_p28, List.forall_mem_cons.mpr ⟨lw_p29, List.forall_mem_cons.mpr ⟨lw_p30, List.forall_mem_cons.mpr ⟨lw_p31, fun _ h => absurd h List.not_mem_nil⟩⟩⟩⟩⟩⟩⟩⟩⟩⟩⟩⟩⟩⟩⟩⟩
theorem lw_p32 : lw_okq (⟨"ClosesAfterSeventh$Orders", "adopt", "()V"⟩, 15) := ⟨⟨by decide +kernel, by decide +kernel⟩, List.mem_of_getElem? (i := 365) (by decide +kernel), List.mem_of_getElem? (i := 1149) (by decide +kernel), List.mem_of_getElem? (i := 1150) (by decide +kernel)⟩
theorem lw_p33 : lw_okq (⟨"ClosesAfterSeventh$Orders", "canBeBetter", "()Z"⟩, 15) := ⟨⟨by decide +kernel, by decide +kernel⟩, List.mem_of_getElem? (i := 365) (by decide +kernel), List.mem_of_getElem? (i := 1157) (by decide +kernel), List.mem_of_getElem? (i := 1158) (by decide +kernel)⟩
theorem lw_p34 : lw_okq (⟨"ClosesAfterSeventh$Tours", "farFrom", "(II)I"⟩, 6) := ⟨⟨by decide +kernel, by decide +kernel⟩, List.mem_of_getElem? (i := 453) (by decide +kernel), List.mem_of_getElem? (i := 1182) (by decide +kernel), List.mem_of_getElem? (i := 1183) (by decide +kernel)⟩
theorem lw_p35 : lw_okq (⟨"ClosesAfterSeventh$Tours", "nextOf", "(II)I"⟩, 6) := ⟨⟨by decide +kernel, by decide +kernel⟩, List.mem_of_getElem? (i := 453) (by decide +kernel), List.mem_of_getElem? (i := 1196) (by decide +kernel), List.mem_of_getElem? (i := 1197) (by decide +kernel)⟩
theorem lw_p36 : lw_okq (⟨"ClosesAfterSeventh$Pairs", "goOn", "(III)V"⟩, 14) := ⟨⟨by decide +kernel, by decide +kernel⟩, List.mem_of_getElem? (i := 482) (by decide +kernel), List.mem_of_getElem? (i := 1215) (by decide +kernel), List.mem_of_getElem? (i := 1216) (by decide +kernel)⟩
theorem lw_p37 : lw_okq (⟨"ClosesAfterSeventh$Pairs", "tryOther", "(I)V"⟩, 14) := ⟨⟨by decide +kernel, by decide +kernel⟩, List.mem_of_getElem? (i := 482) (by decide +kernel), List.mem_of_getElem? (i := 1219) (by decide +kernel), List.mem_of_getElem? (i := 1220) (by decide +kernel)⟩
theorem lw_p38 : lw_okq (⟨"java/lang/Throwable", "fillInStackTrace", "(I)Ljava/lang/Throwable;"⟩, 6) := ⟨⟨by decide +kernel, by decide +kernel⟩, List.mem_of_getElem? (i := 1326) (by decide +kernel), List.mem_of_getElem? (i := 1324) (by decide +kernel), List.mem_of_getElem? (i := 1325) (by decide +kernel)⟩
theorem lw_p39 : lw_okq (⟨"ClosesAfterSeventhModel", "begin", "([BII)V"⟩, 71) := ⟨⟨by decide +kernel, by decide +kernel⟩, List.mem_of_getElem? (i := 1372) (by decide +kernel), List.mem_of_getElem? (i := 1611) (by decide +kernel), List.mem_of_getElem? (i := 1612) (by decide +kernel)⟩
theorem lw_p40 : lw_okq (⟨"ClosesAfterSeventhModel", "fine", "()Z"⟩, 71) := ⟨⟨by decide +kernel, by decide +kernel⟩, List.mem_of_getElem? (i := 1372) (by decide +kernel), List.mem_of_getElem? (i := 1615) (by decide +kernel), List.mem_of_getElem? (i := 1616) (by decide +kernel)⟩
theorem lw_p41 : lw_okq (⟨"ClosesAfterSeventhModel", "here", "()I"⟩, 71) := ⟨⟨by decide +kernel, by decide +kernel⟩, List.mem_of_getElem? (i := 1372) (by decide +kernel), List.mem_of_getElem? (i := 1619) (by decide +kernel), List.mem_of_getElem? (i := 1620) (by decide +kernel)⟩
theorem lw_p42 : lw_okq (⟨"ClosesAfterSeventhModel", "readDoor", "()V"⟩, 71) := ⟨⟨by decide +kernel, by decide +kernel⟩, List.mem_of_getElem? (i := 1372) (by decide +kernel), List.mem_of_getElem? (i := 1623) (by decide +kernel), List.mem_of_getElem? (i := 1624) (by decide +kernel)⟩
theorem lw_p43 : lw_okq (⟨"ClosesAfterSeventhModel", "number", "(II)I"⟩, 71) := ⟨⟨by decide +kernel, by decide +kernel⟩, List.mem_of_getElem? (i := 1372) (by decide +kernel), List.mem_of_getElem? (i := 1627) (by decide +kernel), List.mem_of_getElem? (i := 1628) (by decide +kernel)⟩
theorem lw_p44 : lw_okq (⟨"ClosesAfterSeventhModel", "fault", "(I)V"⟩, 71) := ⟨⟨by decide +kernel, by decide +kernel⟩, List.mem_of_getElem? (i := 1372) (by decide +kernel), List.mem_of_getElem? (i := 1631) (by decide +kernel), List.mem_of_getElem? (i := 1632) (by decide +kernel)⟩
theorem lw_p45 : lw_okq (⟨"ClosesAfterSeventhModel", "passes", "(C)Z"⟩, 71) := ⟨⟨by decide +kernel, by decide +kernel⟩, List.mem_of_getElem? (i := 1372) (by decide +kernel), List.mem_of_getElem? (i := 1635) (by decide +kernel), List.mem_of_getElem? (i := 1636) (by decide +kernel)⟩
theorem lw_p46 : lw_okq (⟨"ClosesAfterSeventhModel", "need", "(C)V"⟩, 71) := ⟨⟨by decide +kernel, by decide +kernel⟩, List.mem_of_getElem? (i := 1372) (by decide +kernel), List.mem_of_getElem? (i := 1639) (by decide +kernel), List.mem_of_getElem? (i := 1640) (by decide +kernel)⟩
theorem lw_p47 : lw_okq (⟨"ClosesAfterSeventhModel", "readOne", "(Z)V"⟩, 71) := ⟨⟨by decide +kernel, by decide +kernel⟩, List.mem_of_getElem? (i := 1372) (by decide +kernel), List.mem_of_getElem? (i := 1643) (by decide +kernel), List.mem_of_getElem? (i := 1644) (by decide +kernel)⟩
def lw_privs_3 : List (MethodName × Nat) := [(⟨"ClosesAfterSeventh$Orders", "adopt", "()V"⟩, 15), (⟨"ClosesAfterSeventh$Orders", "canBeBetter", "()Z"⟩, 15), (⟨"ClosesAfterSeventh$Tours", "farFrom", "(II)I"⟩, 6), (⟨"ClosesAfterSeventh$Tours", "nextOf", "(II)I"⟩, 6), (⟨"ClosesAfterSeventh$Pairs", "goOn", "(III)V"⟩, 14), (⟨"ClosesAfterSeventh$Pairs", "tryOther", "(I)V"⟩, 14), (⟨"java/lang/Throwable", "fillInStackTrace", "(I)Ljava/lang/Throwable;"⟩, 6), (⟨"ClosesAfterSeventhModel", "begin", "([BII)V"⟩, 71), (⟨"ClosesAfterSeventhModel", "fine", "()Z"⟩, 71), (⟨"ClosesAfterSeventhModel", "here", "()I"⟩, 71), (⟨"ClosesAfterSeventhModel", "readDoor", "()V"⟩, 71), (⟨"ClosesAfterSeventhModel", "number", "(II)I"⟩, 71), (⟨"ClosesAfterSeventhModel", "fault", "(I)V"⟩, 71), (⟨"ClosesAfterSeventhModel", "passes", "(C)Z"⟩, 71), (⟨"ClosesAfterSeventhModel", "need", "(C)V"⟩, 71), (⟨"ClosesAfterSeventhModel", "readOne", "(Z)V"⟩, 71)]
theorem lw_r3 : ∀ q ∈ lw_privs_3, lw_okq q := List.forall_mem_cons.mpr ⟨lw_p32, List.forall_mem_cons.mpr ⟨lw_p33, List.forall_mem_cons.mpr ⟨lw_p34, List.forall_mem_cons.mpr ⟨lw_p35, List.forall_mem_cons.mpr ⟨lw_p36, List.forall_mem_cons.mpr ⟨lw_p37, List.forall_mem_cons.mpr ⟨lw_p38, List.forall_mem_cons.mpr ⟨lw_p39, List.forall_mem_cons.mpr ⟨lw_p40, List.forall_mem_cons.mpr ⟨lw_p41, List.forall_mem_cons.mpr ⟨lw_p42, List.forall_mem_cons.mpr ⟨lw_p43, List.forall_mem_cons.mpr ⟨lw_p44, List.forall_mem_cons.mpr ⟨lw_p45, List.forall_mem_cons.mpr ⟨lw_p46, List.forall_mem_cons.mpr ⟨lw_p47, fun _ h => absurd h List.not_mem_nil⟩⟩⟩⟩⟩⟩⟩⟩⟩⟩⟩⟩⟩⟩⟩⟩
theorem lw_p48 : lw_okq (⟨"ClosesAfterSeventhModel", "arrive", "(I)V"⟩, 71) := ⟨⟨by decide +kernel, by decide +kernel⟩, List.mem_of_getElem? (i := 1372) (by decide +kernel), List.mem_of_getElem? (i := 1647) (by decide +kernel), List.mem_of_getElem? (i := 1648) (by decide +kernel)⟩
theorem lw_p49 : lw_okq (⟨"ClosesAfterSeventhModel", "held", "(I)I"⟩, 71) := ⟨⟨by decide +kernel, by decide +kernel⟩, List.mem_of_getElem? (i := 1372) (by decide +kernel), List.mem_of_getElem? (i := 1655) (by decide +kernel), List.mem_of_getElem? (i := 1656) (by decide +kernel)⟩
theorem lw_p50 : lw_okq (⟨"ClosesAfterSeventhModel", "sum", "(I)I"⟩, 71) := ⟨⟨by decide +kernel, by decide +kernel⟩, List.mem_of_getElem? (i := 1372) (by decide +kernel), List.mem_of_getElem? (i := 1659) (by decide +kernel), List.mem_of_getElem? (i := 1660) (by decide +kernel)⟩
theorem lw_p51 : lw_okq (⟨"ClosesAfterSeventhModel", "product", "(I)I"⟩, 71) := ⟨⟨by decide +kernel, by decide +kernel⟩, List.mem_of_getElem? (i := 1372) (by decide +kernel), List.mem_of_getElem? (i := 1663) (by decide +kernel), List.mem_of_getElem? (i := 1664) (by decide +kernel)⟩
theorem lw_p52 : lw_okq (⟨"ClosesAfterSeventhModel", "thing", "(I)I"⟩, 71) := ⟨⟨by decide +kernel, by decide +kernel⟩, List.mem_of_getElem? (i := 1372) (by decide +kernel), List.mem_of_getElem? (i := 1667) (by decide +kernel), List.mem_of_getElem? (i := 1668) (by decide +kernel)⟩
theorem lw_p53 : lw_okq (⟨"ClosesAfterSeventhModel", "isDoor", "(I)Z"⟩, 71) := ⟨⟨by decide +kernel, by decide +kernel⟩, List.mem_of_getElem? (i := 1372) (by decide +kernel), List.mem_of_getElem? (i := 1678) (by decide +kernel), List.mem_of_getElem? (i := 1679) (by decide +kernel)⟩
theorem lw_p54 : lw_okq (⟨"ClosesAfterSeventhModel", "lost", "()I"⟩, 71) := ⟨⟨by decide +kernel, by decide +kernel⟩, List.mem_of_getElem? (i := 1372) (by decide +kernel), List.mem_of_getElem? (i := 1682) (by decide +kernel), List.mem_of_getElem? (i := 1683) (by decide +kernel)⟩
theorem lw_p55 : lw_okq (⟨"ClosesAfterSeventhModel", "isOne", "(I)Z"⟩, 71) := ⟨⟨by decide +kernel, by decide +kernel⟩, List.mem_of_getElem? (i := 1372) (by decide +kernel), List.mem_of_getElem? (i := 1690) (by decide +kernel), List.mem_of_getElem? (i := 1691) (by decide +kernel)⟩
theorem lw_p56 : lw_okq (⟨"ClosesAfterSeventhModel", "nextOf", "(I)I"⟩, 71) := ⟨⟨by decide +kernel, by decide +kernel⟩, List.mem_of_getElem? (i := 1372) (by decide +kernel), List.mem_of_getElem? (i := 1694) (by decide +kernel), List.mem_of_getElem? (i := 1695) (by decide +kernel)⟩
theorem lw_p57 : lw_okq (⟨"ClosesAfterSeventhModel", "beyond", "(II)I"⟩, 71) := ⟨⟨by decide +kernel, by decide +kernel⟩, List.mem_of_getElem? (i := 1372) (by decide +kernel), List.mem_of_getElem? (i := 1716) (by decide +kernel), List.mem_of_getElem? (i := 1717) (by decide +kernel)⟩
theorem lw_p58 : lw_okq (⟨"ClosesAfterSeventhModel", "go", "(II)V"⟩, 71) := ⟨⟨by decide +kernel, by decide +kernel⟩, List.mem_of_getElem? (i := 1372) (by decide +kernel), List.mem_of_getElem? (i := 1720) (by decide +kernel), List.mem_of_getElem? (i := 1721) (by decide +kernel)⟩
theorem lw_p59 : lw_okq (⟨"ClosesAfterSeventhModel", "findOpenWay", "(II)Z"⟩, 71) := ⟨⟨by decide +kernel, by decide +kernel⟩, List.mem_of_getElem? (i := 1372) (by decide +kernel), List.mem_of_getElem? (i := 1731) (by decide +kernel), List.mem_of_getElem? (i := 1732) (by decide +kernel)⟩
theorem lw_p60 : lw_okq (⟨"ClosesAfterSeventhModel", "findWay", "(II)Z"⟩, 71) := ⟨⟨by decide +kernel, by decide +kernel⟩, List.mem_of_getElem? (i := 1372) (by decide +kernel), List.mem_of_getElem? (i := 1736) (by decide +kernel), List.mem_of_getElem? (i := 1737) (by decide +kernel)⟩
theorem lw_p61 : lw_okq (⟨"ClosesAfterSeventhModel", "tellWay", "()V"⟩, 71) := ⟨⟨by decide +kernel, by decide +kernel⟩, List.mem_of_getElem? (i := 1372) (by decide +kernel), List.mem_of_getElem? (i := 1748) (by decide +kernel), List.mem_of_getElem? (i := 1749) (by decide +kernel)⟩
theorem lw_p62 : lw_okq (⟨"ClosesAfterSeventhModel", "tell", "(J)V"⟩, 71) := ⟨⟨by decide +kernel, by decide +kernel⟩, List.mem_of_getElem? (i := 1372) (by decide +kernel), List.mem_of_getElem? (i := 1752) (by decide +kernel), List.mem_of_getElem? (i := 1753) (by decide +kernel)⟩
theorem lw_p63 : lw_okq (⟨"ClosesAfterSeventhModel", "findPlanned", "(III)Z"⟩, 71) := ⟨⟨by decide +kernel, by decide +kernel⟩, List.mem_of_getElem? (i := 1372) (by decide +kernel), List.mem_of_getElem? (i := 1764) (by decide +kernel), List.mem_of_getElem? (i := 1765) (by decide +kernel)⟩
def lw_privs_4 : List (MethodName × Nat) := [(⟨"ClosesAfterSeventhModel", "arrive", "(I)V"⟩, 71), (⟨"ClosesAfterSeventhModel", "held", "(I)I"⟩, 71), (⟨"ClosesAfterSeventhModel", "sum", "(I)I"⟩, 71), (⟨"ClosesAfterSeventhModel", "product", "(I)I"⟩, 71), (⟨"ClosesAfterSeventhModel", "thing", "(I)I"⟩, 71), (⟨"ClosesAfterSeventhModel", "isDoor", "(I)Z"⟩, 71), (⟨"ClosesAfterSeventhModel", "lost", "()I"⟩, 71), (⟨"ClosesAfterSeventhModel", "isOne", "(I)Z"⟩, 71), (⟨"ClosesAfterSeventhModel", "nextOf", "(I)I"⟩, 71), (⟨"ClosesAfterSeventhModel", "beyond", "(II)I"⟩, 71), (⟨"ClosesAfterSeventhModel", "go", "(II)V"⟩, 71), (⟨"ClosesAfterSeventhModel", "findOpenWay", "(II)Z"⟩, 71), (⟨"ClosesAfterSeventhModel", "findWay", "(II)Z"⟩, 71), (⟨"ClosesAfterSeventhModel", "tellWay", "()V"⟩, 71), (⟨"ClosesAfterSeventhModel", "tell", "(J)V"⟩, 71), (⟨"ClosesAfterSeventhModel", "findPlanned", "(III)Z"⟩, 71)]
theorem lw_r4 : ∀ q ∈ lw_privs_4, lw_okq q := List.forall_mem_cons.mpr ⟨lw_p48, List.forall_mem_cons.mpr ⟨lw_p49, List.forall_mem_cons.mpr ⟨lw_p50, List.forall_mem_cons.mpr ⟨lw_p51, List.forall_mem_cons.mpr ⟨lw_p52, List.forall_mem_cons.mpr ⟨lw_p53, List.forall_mem_cons.mpr ⟨lw_p54, List.forall_mem_cons.mpr ⟨lw_p55, List.forall_mem_cons.mpr ⟨lw_p56, List.forall_mem_cons.mpr ⟨lw_p57, List.forall_mem_cons.mpr ⟨lw_p58, List.forall_mem_cons.mpr ⟨lw_p59, List.forall_mem_cons.mpr ⟨lw_p60, List.forall_mem_cons.mpr ⟨lw_p61, List.forall_mem_cons.mpr ⟨lw_p62, List.forall_mem_cons.mpr ⟨lw_p63, fun _ h => absurd h List.not_mem_nil⟩⟩⟩⟩⟩⟩⟩⟩⟩⟩⟩⟩⟩⟩⟩⟩
theorem lw_p64 : lw_okq (⟨"ClosesAfterSeventhModel", "findTheirWays", "()V"⟩, 71) := ⟨⟨by decide +kernel, by decide +kernel⟩, List.mem_of_getElem? (i := 1372) (by decide +kernel), List.mem_of_getElem? (i := 1768) (by decide +kernel), List.mem_of_getElem? (i := 1769) (by decide +kernel)⟩
theorem lw_p65 : lw_okq (⟨"ClosesAfterSeventhModel", "priceOf", "(II)I"⟩, 71) := ⟨⟨by decide +kernel, by decide +kernel⟩, List.mem_of_getElem? (i := 1372) (by decide +kernel), List.mem_of_getElem? (i := 1773) (by decide +kernel), List.mem_of_getElem? (i := 1774) (by decide +kernel)⟩
theorem lw_p66 : lw_okq (⟨"ClosesAfterSeventhModel", "manyWith", "(IIII)I"⟩, 71) := ⟨⟨by decide +kernel, by decide +kernel⟩, List.mem_of_getElem? (i := 1372) (by decide +kernel), List.mem_of_getElem? (i := 1788) (by decide +kernel), List.mem_of_getElem? (i := 1789) (by decide +kernel)⟩
theorem lw_p67 : lw_okq (⟨"ClosesAfterSeventhModel", "clearFlow", "()V"⟩, 71) := ⟨⟨by decide +kernel, by decide +kernel⟩, List.mem_of_getElem? (i := 1372) (by decide +kernel), List.mem_of_getElem? (i := 1792) (by decide +kernel), List.mem_of_getElem? (i := 1793) (by decide +kernel)⟩
theorem lw_p68 : lw_okq (⟨"ClosesAfterSeventhModel", "layDoor", "(II)V"⟩, 71) := ⟨⟨by decide +kernel, by decide +kernel⟩, List.mem_of_getElem? (i := 1372) (by decide +kernel), List.mem_of_getElem? (i := 1796) (by decide +kernel), List.mem_of_getElem? (i := 1797) (by decide +kernel)⟩
theorem lw_p69 : lw_okq (⟨"ClosesAfterSeventhModel", "flow", "(II)I"⟩, 71) := ⟨⟨by decide +kernel, by decide +kernel⟩, List.mem_of_getElem? (i := 1372) (by decide +kernel), List.mem_of_getElem? (i := 1800) (by decide +kernel), List.mem_of_getElem? (i := 1801) (by decide +kernel)⟩
theorem lw_p70 : lw_okq (⟨"ClosesAfterSeventhModel", "findMore", "(II)Z"⟩, 71) := ⟨⟨by decide +kernel, by decide +kernel⟩, List.mem_of_getElem? (i := 1372) (by decide +kernel), List.mem_of_getElem? (i := 1804) (by decide +kernel), List.mem_of_getElem? (i := 1805) (by decide +kernel)⟩
theorem lw_p71 : lw_okq (⟨"ClosesAfterSeventhModel", "sumOfPairs", "(II)I"⟩, 71) := ⟨⟨by decide +kernel, by decide +kernel⟩, List.mem_of_getElem? (i := 1372) (by decide +kernel), List.mem_of_getElem? (i := 1820) (by decide +kernel), List.mem_of_getElem? (i := 1821) (by decide +kernel)⟩
theorem lw_p72 : lw_okq (⟨"ClosesAfterSeventhModel", "toRooms", "(I)I"⟩, 71) := ⟨⟨by decide +kernel, by decide +kernel⟩, List.mem_of_getElem? (i := 1372) (by decide +kernel), List.mem_of_getElem? (i := 1836) (by decide +kernel), List.mem_of_getElem? (i := 1837) (by decide +kernel)⟩
theorem lw_p73 : lw_okq (⟨"ClosesAfterSeventhModel", "flowOf", "(II)I"⟩, 71) := ⟨⟨by decide +kernel, by decide +kernel⟩, List.mem_of_getElem? (i := 1372) (by decide +kernel), List.mem_of_getElem? (i := 1840) (by decide +kernel), List.mem_of_getElem? (i := 1841) (by decide +kernel)⟩
theorem lw_p74 : lw_okq (⟨"ClosesAfterSeventhModel", "putBy", "()V"⟩, 71) := ⟨⟨by decide +kernel, by decide +kernel⟩, List.mem_of_getElem? (i := 1372) (by decide +kernel), List.mem_of_getElem? (i := 1852) (by decide +kernel), List.mem_of_getElem? (i := 1853) (by decide +kernel)⟩
theorem lw_p75 : lw_okq (⟨"ClosesAfterSeventhModel", "putIn", "(I)V"⟩, 71) := ⟨⟨by decide +kernel, by decide +kernel⟩, List.mem_of_getElem? (i := 1372) (by decide +kernel), List.mem_of_getElem? (i := 1856) (by decide +kernel), List.mem_of_getElem? (i := 1857) (by decide +kernel)⟩
theorem lw_p76 : lw_okq (⟨"ClosesAfterSeventhModel", "whoCan", "(I)I"⟩, 71) := ⟨⟨by decide +kernel, by decide +kernel⟩, List.mem_of_getElem? (i := 1372) (by decide +kernel), List.mem_of_getElem? (i := 1860) (by decide +kernel), List.mem_of_getElem? (i := 1861) (by decide +kernel)⟩
theorem lw_p77 : lw_okq (⟨"ClosesAfterSeventhModel", "bringBack", "()V"⟩, 71) := ⟨⟨by decide +kernel, by decide +kernel⟩, List.mem_of_getElem? (i := 1372) (by decide +kernel), List.mem_of_getElem? (i := 1864) (by decide +kernel), List.mem_of_getElem? (i := 1865) (by decide +kernel)⟩
theorem lw_p78 : lw_okq (⟨"ClosesAfterSeventhModel", "takeOut", "(III)V"⟩, 71) := ⟨⟨by decide +kernel, by decide +kernel⟩, List.mem_of_getElem? (i := 1372) (by decide +kernel), List.mem_of_getElem? (i := 1868) (by decide +kernel), List.mem_of_getElem? (i := 1869) (by decide +kernel)⟩
theorem lw_p79 : lw_okq (⟨"ClosesAfterSeventhModel", "spend", "(I)I"⟩, 71) := ⟨⟨by decide +kernel, by decide +kernel⟩, List.mem_of_getElem? (i := 1372) (by decide +kernel), List.mem_of_getElem? (i := 1876) (by decide +kernel), List.mem_of_getElem? (i := 1877) (by decide +kernel)⟩
def lw_privs_5 : List (MethodName × Nat) := [(⟨"ClosesAfterSeventhModel", "findTheirWays", "()V"⟩, 71), (⟨"ClosesAfterSeventhModel", "priceOf", "(II)I"⟩, 71), (⟨"ClosesAfterSeventhModel", "manyWith", "(IIII)I"⟩, 71), (⟨"ClosesAfterSeventhModel", "clearFlow", "()V"⟩, 71), (⟨"ClosesAfterSeventhModel", "layDoor", "(II)V"⟩, 71), (⟨"ClosesAfterSeventhModel", "flow", "(II)I"⟩, 71), (⟨"ClosesAfterSeventhModel", "findMore", "(II)Z"⟩, 71), (⟨"ClosesAfterSeventhModel", "sumOfPairs", "(II)I"⟩, 71), (⟨"ClosesAfterSeventhModel", "toRooms", "(I)I"⟩, 71), (⟨"ClosesAfterSeventhModel", "flowOf", "(II)I"⟩, 71), (⟨"ClosesAfterSeventhModel", "putBy", "()V"⟩, 71), (⟨"ClosesAfterSeventhModel", "putIn", "(I)V"⟩, 71), (⟨"ClosesAfterSeventhModel", "whoCan", "(I)I"⟩, 71), (⟨"ClosesAfterSeventhModel", "bringBack", "()V"⟩, 71), (⟨"ClosesAfterSeventhModel", "takeOut", "(III)V"⟩, 71), (⟨"ClosesAfterSeventhModel", "spend", "(I)I"⟩, 71)]
theorem lw_r5 : ∀ q ∈ lw_privs_5, lw_okq q := List.forall_mem_cons.mpr ⟨lw_p64, List.forall_mem_cons.mpr ⟨lw_p65, List.forall_mem_cons.mpr ⟨lw_p66, List.forall_mem_cons.mpr ⟨lw_p67, List.forall_mem_cons.mpr ⟨lw_p68, List.forall_mem_cons.mpr ⟨lw_p69, List.forall_mem_cons.mpr ⟨lw_p70, List.forall_mem_cons.mpr ⟨lw_p71, List.forall_mem_cons.mpr ⟨lw_p72, List.forall_mem_cons.mpr ⟨lw_p73, List.forall_mem_cons.mpr ⟨lw_p74, List.forall_mem_cons.mpr ⟨lw_p75, List.forall_mem_cons.mpr ⟨lw_p76, List.forall_mem_cons.mpr ⟨lw_p77, List.forall_mem_cons.mpr ⟨lw_p78, List.forall_mem_cons.mpr ⟨lw_p79, fun _ h => absurd h List.not_mem_nil⟩⟩⟩⟩⟩⟩⟩⟩⟩⟩⟩⟩⟩⟩⟩⟩
theorem lw_p80 : lw_okq (⟨"ClosesAfterSeventhModel", "goAll", "(II)V"⟩, 71) := ⟨⟨by decide +kernel, by decide +kernel⟩, List.mem_of_getElem? (i := 1372) (by decide +kernel), List.mem_of_getElem? (i := 1888) (by decide +kernel), List.mem_of_getElem? (i := 1889) (by decide +kernel)⟩
theorem lw_p81 : lw_okq (⟨"ClosesAfterSeventhModel", "beginDay", "()V"⟩, 71) := ⟨⟨by decide +kernel, by decide +kernel⟩, List.mem_of_getElem? (i := 1372) (by decide +kernel), List.mem_of_getElem? (i := 1892) (by decide +kernel), List.mem_of_getElem? (i := 1893) (by decide +kernel)⟩
theorem lw_p82 : lw_okq (⟨"ClosesAfterSeventhModel", "dayOf", "(II)V"⟩, 71) := ⟨⟨by decide +kernel, by decide +kernel⟩, List.mem_of_getElem? (i := 1372) (by decide +kernel), List.mem_of_getElem? (i := 1896) (by decide +kernel), List.mem_of_getElem? (i := 1897) (by decide +kernel)⟩
theorem lw_p83 : lw_okq (⟨"ClosesAfterSeventhModel", "endDay", "()V"⟩, 71) := ⟨⟨by decide +kernel, by decide +kernel⟩, List.mem_of_getElem? (i := 1372) (by decide +kernel), List.mem_of_getElem? (i := 1900) (by decide +kernel), List.mem_of_getElem? (i := 1901) (by decide +kernel)⟩
theorem lw_p84 : lw_okq (⟨"ClosesAfterSeventhModel", "toldDay", "()I"⟩, 71) := ⟨⟨by decide +kernel, by decide +kernel⟩, List.mem_of_getElem? (i := 1372) (by decide +kernel), List.mem_of_getElem? (i := 1904) (by decide +kernel), List.mem_of_getElem? (i := 1905) (by decide +kernel)⟩
theorem lw_p85 : lw_okq (⟨"ClosesAfterSeventhModel", "toGo", "()I"⟩, 71) := ⟨⟨by decide +kernel, by decide +kernel⟩, List.mem_of_getElem? (i := 1372) (by decide +kernel), List.mem_of_getElem? (i := 1920) (by decide +kernel), List.mem_of_getElem? (i := 1921) (by decide +kernel)⟩
theorem lw_p86 : lw_okq (⟨"ClosesAfterSeventhModel", "orderFrom", "(III)V"⟩, 71) := ⟨⟨by decide +kernel, by decide +kernel⟩, List.mem_of_getElem? (i := 1372) (by decide +kernel), List.mem_of_getElem? (i := 1924) (by decide +kernel), List.mem_of_getElem? (i := 1925) (by decide +kernel)⟩
theorem lw_p87 : lw_okq (⟨"ClosesAfterSeventhModel", "tourFrom", "(IIII)V"⟩, 71) := ⟨⟨by decide +kernel, by decide +kernel⟩, List.mem_of_getElem? (i := 1372) (by decide +kernel), List.mem_of_getElem? (i := 1939) (by decide +kernel), List.mem_of_getElem? (i := 1940) (by decide +kernel)⟩
theorem lw_p88 : lw_okq (⟨"ClosesAfterSeventhModel", "twoFrom", "(ZIII)V"⟩, 71) := ⟨⟨by decide +kernel, by decide +kernel⟩, List.mem_of_getElem? (i := 1372) (by decide +kernel), List.mem_of_getElem? (i := 1951) (by decide +kernel), List.mem_of_getElem? (i := 1952) (by decide +kernel)⟩
def lw_privs_6 : List (MethodName × Nat) := [(⟨"ClosesAfterSeventhModel", "goAll", "(II)V"⟩, 71), (⟨"ClosesAfterSeventhModel", "beginDay", "()V"⟩, 71), (⟨"ClosesAfterSeventhModel", "dayOf", "(II)V"⟩, 71), (⟨"ClosesAfterSeventhModel", "endDay", "()V"⟩, 71), (⟨"ClosesAfterSeventhModel", "toldDay", "()I"⟩, 71), (⟨"ClosesAfterSeventhModel", "toGo", "()I"⟩, 71), (⟨"ClosesAfterSeventhModel", "orderFrom", "(III)V"⟩, 71), (⟨"ClosesAfterSeventhModel", "tourFrom", "(IIII)V"⟩, 71), (⟨"ClosesAfterSeventhModel", "twoFrom", "(ZIII)V"⟩, 71)]
theorem lw_r6 : ∀ q ∈ lw_privs_6, lw_okq q := List.forall_mem_cons.mpr ⟨lw_p80, List.forall_mem_cons.mpr ⟨lw_p81, List.forall_mem_cons.mpr ⟨lw_p82, List.forall_mem_cons.mpr ⟨lw_p83, List.forall_mem_cons.mpr ⟨lw_p84, List.forall_mem_cons.mpr ⟨lw_p85, List.forall_mem_cons.mpr ⟨lw_p86, List.forall_mem_cons.mpr ⟨lw_p87, List.forall_mem_cons.mpr ⟨lw_p88, fun _ h => absurd h List.not_mem_nil⟩⟩⟩⟩⟩⟩⟩⟩⟩
def lw_privs : List (MethodName × Nat) := lw_privs_1 ++ (lw_privs_2 ++ (lw_privs_3 ++ (lw_privs_4 ++ (lw_privs_5 ++ (lw_privs_6)))))
def lw_tbl : List Cond := k2_sels lw_privs ++ tables_1
theorem lw_privs_ok : ∀ q ∈ lw_privs, lw_okq q := by
  show ∀ q ∈ lw_privs_1 ++ (lw_privs_2 ++ (lw_privs_3 ++ (lw_privs_4 ++ (lw_privs_5 ++ (lw_privs_6))))), lw_okq q
  exact List.forall_mem_append.mpr ⟨lw_r1, List.forall_mem_append.mpr ⟨lw_r2, List.forall_mem_append.mpr ⟨lw_r3, List.forall_mem_append.mpr ⟨lw_r4, List.forall_mem_append.mpr ⟨lw_r5, lw_r6⟩⟩⟩⟩⟩
/-! ===== BEGIN printed: names, fields, word lists, decode rows ===== -/
def RX0 : String := "ClosesAfterSeventh$Doors"
def TX0 : u_T := fun k => match k with
  | 0 => ("ClosesAfterSeventh$Doors", "a", "[I", true)
  | 1 => ("ClosesAfterSeventh$Doors", "b", "[I", true)
  | 2 => ("ClosesAfterSeventh$Doors", "oneWay", "[Z", true)
  | 3 => ("ClosesAfterSeventh$Doors", "lets", "[I", true)
  | 4 => ("ClosesAfterSeventh$Doors", "noon", "[I", true)
  | 5 => ("ClosesAfterSeventh$Doors", "left", "[I", true)
  | 6 => ("ClosesAfterSeventh$Doors", "size", "I", false)
  | _ => ("ClosesAfterSeventh$Doors", "hour", "I", false)
def tyX0 : Nat → FieldType := fun k => match k with
  | 0 => .array .int
  | 1 => .array .int
  | 2 => .array .boolean
  | 3 => .array .int
  | 4 => .array .int
  | 5 => .array .int
  | 6 => .int
  | _ => .int
abbrev wsX00 : List Cond := u_ws RX0 TX0 8
theorem nmX0 : ∀ a, a < 8 → ∀ b, b < 8 → a ≠ b → (TX0 a).2.1 ≠ (TX0 b).2.1 := by decide +kernel
theorem tyX0_ok : ∀ k, k < 8 → parseFieldDescriptor (TX0 k).2.2.1 = some (tyX0 k) := by decide +kernel
abbrev cX0_init : ByteArray := prog_2_method_1_code
def yX0_init : MethodName := ⟨RX0, "<init>", "()V"⟩
abbrev cX0_has : ByteArray := prog_2_method_2_code
def yX0_has : MethodName := ⟨RX0, "has", "(I)Z"⟩
abbrev cX0_beyond : ByteArray := prog_2_method_3_code
def yX0_beyond : MethodName := ⟨RX0, "beyond", "(II)I"⟩
abbrev cX0_goOn : ByteArray := prog_2_method_4_code
def yX0_goOn : MethodName := ⟨RX0, "goOn", "(I)V"⟩
abbrev cX0_someHasLeft : ByteArray := prog_2_method_5_code
def yX0_someHasLeft : MethodName := ⟨RX0, "someHasLeft", "(I)Z"⟩
abbrev cX0_openBits : ByteArray := prog_2_method_6_code
def yX0_openBits : MethodName := ⟨RX0, "openBits", "()I"⟩
abbrev cX0_sumLeft : ByteArray := prog_2_method_7_code
def yX0_sumLeft : MethodName := ⟨RX0, "sumLeft", "()I"⟩
def RX1 : String := "ClosesAfterSeventh$Flow"
def TX1 : u_T := fun k => match k with
  | 0 => ("ClosesAfterSeventh$Flow", "a", "[I", true)
  | 1 => ("ClosesAfterSeventh$Flow", "b", "[I", true)
  | 2 => ("ClosesAfterSeventh$Flow", "oneWay", "[Z", true)
  | 3 => ("ClosesAfterSeventh$Flow", "lets", "[I", true)
  | 4 => ("ClosesAfterSeventh$Flow", "net", "[I", true)
  | 5 => ("ClosesAfterSeventh$Flow", "gain", "[I", true)
  | 6 => ("ClosesAfterSeventh$Flow", "loaded", "I", false)
  | 7 => ("ClosesAfterSeventh$Flow", "size", "I", false)
  | 8 => ("ClosesAfterSeventh$Flow", "via", "[I", true)
  | 9 => ("ClosesAfterSeventh$Flow", "queue", "[I", true)
  | _ => ("ClosesAfterSeventh$Flow", "reached", "I", false)
def tyX1 : Nat → FieldType := fun k => match k with
  | 0 => .array .int
  | 1 => .array .int
  | 2 => .array .boolean
  | 3 => .array .int
  | 4 => .array .int
  | 5 => .array .int
  | 6 => .int
  | 7 => .int
  | 8 => .array .int
  | 9 => .array .int
  | _ => .int
abbrev wsX10 : List Cond := u_ws RX1 TX1 11
theorem nmX1 : ∀ a, a < 11 → ∀ b, b < 11 → a ≠ b → (TX1 a).2.1 ≠ (TX1 b).2.1 := by decide +kernel
theorem tyX1_ok : ∀ k, k < 11 → parseFieldDescriptor (TX1 k).2.2.1 = some (tyX1 k) := by decide +kernel
abbrev cX1_init : ByteArray := prog_3_method_1_code
def yX1_init : MethodName := ⟨RX1, "<init>", "()V"⟩
abbrev cX1_load : ByteArray := prog_3_method_2_code
def yX1_load : MethodName := ⟨RX1, "load", "(LClosesAfterSeventh$Doors;)V"⟩
abbrev cX1_lay : ByteArray := prog_3_method_3_code
def yX1_lay : MethodName := ⟨RX1, "lay", "(III)V"⟩
abbrev cX1_greatest : ByteArray := prog_3_method_4_code
def yX1_greatest : MethodName := ⟨RX1, "greatest", "(II)I"⟩
abbrev cX1_sendOne : ByteArray := prog_3_method_5_code
def yX1_sendOne : MethodName := ⟨RX1, "sendOne", "(II)Z"⟩
abbrev cX1_sumOfPairs : ByteArray := prog_3_method_6_code
def yX1_sumOfPairs : MethodName := ⟨RX1, "sumOfPairs", "(I)I"⟩
abbrev cX1_addGains : ByteArray := prog_3_method_7_code
def yX1_addGains : MethodName := ⟨RX1, "addGains", "(II)V"⟩
abbrev cX1_doorsOutOfReached : ByteArray := prog_3_method_8_code
def yX1_doorsOutOfReached : MethodName := ⟨RX1, "doorsOutOfReached", "()I"⟩
abbrev cX1_free : ByteArray := prog_3_method_9_code
def yX1_free : MethodName := ⟨RX1, "free", "(II)I"⟩
abbrev cX1_search : ByteArray := prog_3_method_10_code
def yX1_search : MethodName := ⟨RX1, "search", "(II)I"⟩
abbrev cX1_narrowest : ByteArray := prog_3_method_11_code
def yX1_narrowest : MethodName := ⟨RX1, "narrowest", "(II)I"⟩
abbrev cX1_push : ByteArray := prog_3_method_12_code
def yX1_push : MethodName := ⟨RX1, "push", "(III)V"⟩
abbrev cX1_comingTo : ByteArray := prog_3_method_13_code
def yX1_comingTo : MethodName := ⟨RX1, "comingTo", "(I)I"⟩
def RX2 : String := "ClosesAfterSeventh$HouseReader"
def TX2 : u_T := fun k => match k with
  | 0 => ("ClosesAfterSeventh$HouseReader", "signs", "[C", true)
  | 1 => ("ClosesAfterSeventh$HouseReader", "doors", "LClosesAfterSeventh$Doors;", true)
  | 2 => ("ClosesAfterSeventh$HouseReader", "people", "LClosesAfterSeventh$People;", true)
  | 3 => ("ClosesAfterSeventh$HouseReader", "limit", "I", false)
  | 4 => ("ClosesAfterSeventh$HouseReader", "at", "I", false)
  | 5 => ("ClosesAfterSeventh$HouseReader", "number", "I", false)
  | 6 => ("ClosesAfterSeventh$HouseReader", "doorsRead", "I", false)
  | _ => ("ClosesAfterSeventh$HouseReader", "peopleRead", "I", false)
def tyX2 : Nat → FieldType := fun k => match k with
  | 0 => .array .char
  | 1 => .object "ClosesAfterSeventh$Doors"
  | 2 => .object "ClosesAfterSeventh$People"
  | 3 => .int
  | 4 => .int
  | 5 => .int
  | 6 => .int
  | _ => .int
abbrev wsX20 : List Cond := u_ws RX2 TX2 8
theorem nmX2 : ∀ a, a < 8 → ∀ b, b < 8 → a ≠ b → (TX2 a).2.1 ≠ (TX2 b).2.1 := by decide +kernel
theorem tyX2_ok : ∀ k, k < 8 → parseFieldDescriptor (TX2 k).2.2.1 = some (tyX2 k) := by decide +kernel
abbrev cX2_init : ByteArray := prog_4_method_1_code
def yX2_init : MethodName := ⟨RX2, "<init>", "([CLClosesAfterSeventh$Doors;LClosesAfterSeventh$People;)V"⟩
abbrev cX2_read : ByteArray := prog_4_method_2_code
def yX2_read : MethodName := ⟨RX2, "read", "(I)I"⟩
abbrev cX2_readLine : ByteArray := prog_4_method_3_code
def yX2_readLine : MethodName := ⟨RX2, "readLine", "()Z"⟩
abbrev cX2_readDoor : ByteArray := prog_4_method_4_code
def yX2_readDoor : MethodName := ⟨RX2, "readDoor", "(I)Z"⟩
abbrev cX2_readPerson : ByteArray := prog_4_method_5_code
def yX2_readPerson : MethodName := ⟨RX2, "readPerson", "(I)Z"⟩
abbrev cX2_readNumber : ByteArray := prog_4_method_6_code
def yX2_readNumber : MethodName := ⟨RX2, "readNumber", "(I)Z"⟩
abbrev cX2_stands : ByteArray := prog_4_method_7_code
def yX2_stands : MethodName := ⟨RX2, "stands", "(C)Z"⟩
abbrev cX2_takes : ByteArray := prog_4_method_8_code
def yX2_takes : MethodName := ⟨RX2, "takes", "(C)Z"⟩
def RX3 : String := "ClosesAfterSeventh$Kept"
def TX3 : u_T := fun k => match k with
  | 0 => ("ClosesAfterSeventh$Kept", "left", "[I", true)
  | 1 => ("ClosesAfterSeventh$Kept", "where", "[I", true)
  | 2 => ("ClosesAfterSeventh$Kept", "reached", "[Z", true)
  | 3 => ("ClosesAfterSeventh$Kept", "done", "[Z", true)
  | 4 => ("ClosesAfterSeventh$Kept", "doorsKept", "I", false)
  | 5 => ("ClosesAfterSeventh$Kept", "peopleKept", "I", false)
  | 6 => ("ClosesAfterSeventh$Kept", "hour", "I", false)
  | _ => ("ClosesAfterSeventh$Kept", "filled", "Z", false)
def tyX3 : Nat → FieldType := fun k => match k with
  | 0 => .array .int
  | 1 => .array .int
  | 2 => .array .boolean
  | 3 => .array .boolean
  | 4 => .int
  | 5 => .int
  | 6 => .int
  | _ => .boolean
abbrev wsX30 : List Cond := u_ws RX3 TX3 8
theorem nmX3 : ∀ a, a < 8 → ∀ b, b < 8 → a ≠ b → (TX3 a).2.1 ≠ (TX3 b).2.1 := by decide +kernel
theorem tyX3_ok : ∀ k, k < 8 → parseFieldDescriptor (TX3 k).2.2.1 = some (tyX3 k) := by decide +kernel
abbrev cX3_init : ByteArray := prog_5_method_1_code
def yX3_init : MethodName := ⟨RX3, "<init>", "()V"⟩
abbrev cX3_take : ByteArray := prog_5_method_2_code
def yX3_take : MethodName := ⟨RX3, "take", "(LClosesAfterSeventh$Doors;LClosesAfterSeventh$People;)V"⟩
abbrev cX3_giveBack : ByteArray := prog_5_method_3_code
def yX3_giveBack : MethodName := ⟨RX3, "giveBack", "(LClosesAfterSeventh$Doors;LClosesAfterSeventh$People;)V"⟩
def RX4 : String := "ClosesAfterSeventh$Orders"
def TX4 : u_T := fun k => match k with
  | 0 => ("ClosesAfterSeventh$Orders", "doors", "LClosesAfterSeventh$Doors;", true)
  | 1 => ("ClosesAfterSeventh$Orders", "people", "LClosesAfterSeventh$People;", true)
  | 2 => ("ClosesAfterSeventh$Orders", "walks", "LClosesAfterSeventh$Walks;", true)
  | 3 => ("ClosesAfterSeventh$Orders", "levels", "[LClosesAfterSeventh$Kept;", true)
  | 4 => ("ClosesAfterSeventh$Orders", "goers", "[I", true)
  | 5 => ("ClosesAfterSeventh$Orders", "tried", "[I", true)
  | 6 => ("ClosesAfterSeventh$Orders", "best", "[I", true)
  | 7 => ("ClosesAfterSeventh$Orders", "size", "I", false)
  | 8 => ("ClosesAfterSeventh$Orders", "bestWorth", "I", false)
  | 9 => ("ClosesAfterSeventh$Orders", "bestPassed", "I", false)
  | 10 => ("ClosesAfterSeventh$Orders", "plan", "I", false)
  | 11 => ("ClosesAfterSeventh$Orders", "hope", "I", false)
  | 12 => ("ClosesAfterSeventh$Orders", "passed", "I", false)
  | 13 => ("ClosesAfterSeventh$Orders", "must", "[I", true)
  | _ => ("ClosesAfterSeventh$Orders", "mustAll", "I", false)
def tyX4 : Nat → FieldType := fun k => match k with
  | 0 => .object "ClosesAfterSeventh$Doors"
  | 1 => .object "ClosesAfterSeventh$People"
  | 2 => .object "ClosesAfterSeventh$Walks"
  | 3 => .array (.object "ClosesAfterSeventh$Kept")
  | 4 => .array .int
  | 5 => .array .int
  | 6 => .array .int
  | 7 => .int
  | 8 => .int
  | 9 => .int
  | 10 => .int
  | 11 => .int
  | 12 => .int
  | 13 => .array .int
  | _ => .int
abbrev wsX40 : List Cond := u_ws RX4 TX4 15
theorem nmX4 : ∀ a, a < 15 → ∀ b, b < 15 → a ≠ b → (TX4 a).2.1 ≠ (TX4 b).2.1 := by decide +kernel
theorem tyX4_ok : ∀ k, k < 15 → parseFieldDescriptor (TX4 k).2.2.1 = some (tyX4 k) := by decide +kernel
abbrev cX4_init : ByteArray := prog_6_method_1_code
def yX4_init : MethodName := ⟨RX4, "<init>", "(LClosesAfterSeventh$Doors;LClosesAfterSeventh$People;LClosesAfterSeventh$Walks;)V"⟩
abbrev cX4_search : ByteArray := prog_6_method_2_code
def yX4_search : MethodName := ⟨RX4, "search", "(I)V"⟩
abbrev cX4_begin : ByteArray := prog_6_method_3_code
def yX4_begin : MethodName := ⟨RX4, "begin", "(I)V"⟩
abbrev cX4_goOn : ByteArray := prog_6_method_4_code
def yX4_goOn : MethodName := ⟨RX4, "goOn", "(II)V"⟩
abbrev cX4_canBeBetter : ByteArray := prog_6_method_5_code
def yX4_canBeBetter : MethodName := ⟨RX4, "canBeBetter", "()Z"⟩
abbrev cX4_adopt : ByteArray := prog_6_method_6_code
def yX4_adopt : MethodName := ⟨RX4, "adopt", "()V"⟩
def RX5 : String := "ClosesAfterSeventh$Pairs"
def TX5 : u_T := fun k => match k with
  | 0 => ("ClosesAfterSeventh$Pairs", "doors", "LClosesAfterSeventh$Doors;", true)
  | 1 => ("ClosesAfterSeventh$Pairs", "routes", "LClosesAfterSeventh$Routes;", true)
  | 2 => ("ClosesAfterSeventh$Pairs", "toGoal", "[I", true)
  | 3 => ("ClosesAfterSeventh$Pairs", "tried", "[I", true)
  | 4 => ("ClosesAfterSeventh$Pairs", "first", "[I", true)
  | 5 => ("ClosesAfterSeventh$Pairs", "firstSize", "I", false)
  | 6 => ("ClosesAfterSeventh$Pairs", "second", "[I", true)
  | 7 => ("ClosesAfterSeventh$Pairs", "secondSize", "I", false)
  | 8 => ("ClosesAfterSeventh$Pairs", "fewest", "I", false)
  | 9 => ("ClosesAfterSeventh$Pairs", "goal", "I", false)
  | 10 => ("ClosesAfterSeventh$Pairs", "otherFrom", "I", false)
  | 11 => ("ClosesAfterSeventh$Pairs", "otherGoal", "I", false)
  | 12 => ("ClosesAfterSeventh$Pairs", "otherLeast", "I", false)
  | _ => ("ClosesAfterSeventh$Pairs", "bothCount", "Z", false)
def tyX5 : Nat → FieldType := fun k => match k with
  | 0 => .object "ClosesAfterSeventh$Doors"
  | 1 => .object "ClosesAfterSeventh$Routes"
  | 2 => .array .int
  | 3 => .array .int
  | 4 => .array .int
  | 5 => .int
  | 6 => .array .int
  | 7 => .int
  | 8 => .int
  | 9 => .int
  | 10 => .int
  | 11 => .int
  | 12 => .int
  | _ => .boolean
abbrev wsX50 : List Cond := u_ws RX5 TX5 14
theorem nmX5 : ∀ a, a < 14 → ∀ b, b < 14 → a ≠ b → (TX5 a).2.1 ≠ (TX5 b).2.1 := by decide +kernel
theorem tyX5_ok : ∀ k, k < 14 → parseFieldDescriptor (TX5 k).2.2.1 = some (tyX5 k) := by decide +kernel
abbrev cX5_init : ByteArray := prog_7_method_1_code
def yX5_init : MethodName := ⟨RX5, "<init>", "(LClosesAfterSeventh$Doors;LClosesAfterSeventh$Routes;)V"⟩
abbrev cX5_search : ByteArray := prog_7_method_2_code
def yX5_search : MethodName := ⟨RX5, "search", "(IIIIZ)I"⟩
abbrev cX5_goOn : ByteArray := prog_7_method_3_code
def yX5_goOn : MethodName := ⟨RX5, "goOn", "(III)V"⟩
abbrev cX5_tryOther : ByteArray := prog_7_method_4_code
def yX5_tryOther : MethodName := ⟨RX5, "tryOther", "(I)V"⟩
def RX6 : String := "ClosesAfterSeventh$People"
def TX6 : u_T := fun k => match k with
  | 0 => ("ClosesAfterSeventh$People", "where", "[I", true)
  | 1 => ("ClosesAfterSeventh$People", "first", "[I", true)
  | 2 => ("ClosesAfterSeventh$People", "stranger", "[Z", true)
  | 3 => ("ClosesAfterSeventh$People", "worth", "[I", true)
  | 4 => ("ClosesAfterSeventh$People", "errand", "[I", true)
  | 5 => ("ClosesAfterSeventh$People", "back", "[Z", true)
  | 6 => ("ClosesAfterSeventh$People", "reached", "[Z", true)
  | 7 => ("ClosesAfterSeventh$People", "done", "[Z", true)
  | _ => ("ClosesAfterSeventh$People", "size", "I", false)
def tyX6 : Nat → FieldType := fun k => match k with
  | 0 => .array .int
  | 1 => .array .int
  | 2 => .array .boolean
  | 3 => .array .int
  | 4 => .array .int
  | 5 => .array .boolean
  | 6 => .array .boolean
  | 7 => .array .boolean
  | _ => .int
abbrev wsX60 : List Cond := u_ws RX6 TX6 9
theorem nmX6 : ∀ a, a < 9 → ∀ b, b < 9 → a ≠ b → (TX6 a).2.1 ≠ (TX6 b).2.1 := by decide +kernel
theorem tyX6_ok : ∀ k, k < 9 → parseFieldDescriptor (TX6 k).2.2.1 = some (tyX6 k) := by decide +kernel
abbrev cX6_init : ByteArray := prog_8_method_1_code
def yX6_init : MethodName := ⟨RX6, "<init>", "()V"⟩
abbrev cX6_has : ByteArray := prog_8_method_2_code
def yX6_has : MethodName := ⟨RX6, "has", "(I)Z"⟩
abbrev cX6_isBusy : ByteArray := prog_8_method_3_code
def yX6_isBusy : MethodName := ⟨RX6, "isBusy", "(I)Z"⟩
abbrev cX6_goal : ByteArray := prog_8_method_4_code
def yX6_goal : MethodName := ⟨RX6, "goal", "(I)I"⟩
abbrev cX6_begin : ByteArray := prog_8_method_5_code
def yX6_begin : MethodName := ⟨RX6, "begin", "(II)V"⟩
abbrev cX6_come : ByteArray := prog_8_method_6_code
def yX6_come : MethodName := ⟨RX6, "come", "(II)V"⟩
abbrev cX6_worthDone : ByteArray := prog_8_method_7_code
def yX6_worthDone : MethodName := ⟨RX6, "worthDone", "()I"⟩
abbrev cX6_doneBits : ByteArray := prog_8_method_8_code
def yX6_doneBits : MethodName := ⟨RX6, "doneBits", "()I"⟩
abbrev cX6_busyBits : ByteArray := prog_8_method_9_code
def yX6_busyBits : MethodName := ⟨RX6, "busyBits", "()I"⟩
def RX7 : String := "ClosesAfterSeventh$Price"
def TX7 : u_T := fun k => match k with
  | 0 => ("ClosesAfterSeventh$Price", "signs", "[C", true)
  | 1 => ("ClosesAfterSeventh$Price", "code", "[I", true)
  | 2 => ("ClosesAfterSeventh$Price", "size", "I", false)
  | 3 => ("ClosesAfterSeventh$Price", "asksCrowd", "Z", false)
  | 4 => ("ClosesAfterSeventh$Price", "draft", "[I", true)
  | 5 => ("ClosesAfterSeventh$Price", "drafted", "I", false)
  | 6 => ("ClosesAfterSeventh$Price", "waiting", "[I", true)
  | 7 => ("ClosesAfterSeventh$Price", "waits", "I", false)
  | 8 => ("ClosesAfterSeventh$Price", "compared", "[Z", true)
  | 9 => ("ClosesAfterSeventh$Price", "depth", "I", false)
  | 10 => ("ClosesAfterSeventh$Price", "limit", "I", false)
  | 11 => ("ClosesAfterSeventh$Price", "at", "I", false)
  | 12 => ("ClosesAfterSeventh$Price", "wantsThing", "Z", false)
  | 13 => ("ClosesAfterSeventh$Price", "stack", "[I", true)
  | _ => ("ClosesAfterSeventh$Price", "known", "[I", true)
def tyX7 : Nat → FieldType := fun k => match k with
  | 0 => .array .char
  | 1 => .array .int
  | 2 => .int
  | 3 => .boolean
  | 4 => .array .int
  | 5 => .int
  | 6 => .array .int
  | 7 => .int
  | 8 => .array .boolean
  | 9 => .int
  | 10 => .int
  | 11 => .int
  | 12 => .boolean
  | 13 => .array .int
  | _ => .array .int
abbrev wsX70 : List Cond := u_ws RX7 TX7 15
theorem nmX7 : ∀ a, a < 15 → ∀ b, b < 15 → a ≠ b → (TX7 a).2.1 ≠ (TX7 b).2.1 := by decide +kernel
theorem tyX7_ok : ∀ k, k < 15 → parseFieldDescriptor (TX7 k).2.2.1 = some (tyX7 k) := by decide +kernel
abbrev cX7_init : ByteArray := prog_9_method_1_code
def yX7_init : MethodName := ⟨RX7, "<init>", "([C)V"⟩
abbrev cX7_read : ByteArray := prog_9_method_2_code
def yX7_read : MethodName := ⟨RX7, "read", "(I)I"⟩
abbrev cX7_adopt : ByteArray := prog_9_method_3_code
def yX7_adopt : MethodName := ⟨RX7, "adopt", "()V"⟩
abbrev cX7_readThing : ByteArray := prog_9_method_4_code
def yX7_readThing : MethodName := ⟨RX7, "readThing", "(C)Z"⟩
abbrev cX7_readNumber : ByteArray := prog_9_method_5_code
def yX7_readNumber : MethodName := ⟨RX7, "readNumber", "()I"⟩
abbrev cX7_readJoint : ByteArray := prog_9_method_6_code
def yX7_readJoint : MethodName := ⟨RX7, "readJoint", "(C)Z"⟩
abbrev cX7_rankOf : ByteArray := prog_9_method_7_code
def yX7_rankOf : MethodName := ⟨RX7, "rankOf", "(I)I"⟩
abbrev cX7_hold : ByteArray := prog_9_method_8_code
def yX7_hold : MethodName := ⟨RX7, "hold", "(I)V"⟩
abbrev cX7_release : ByteArray := prog_9_method_9_code
def yX7_release : MethodName := ⟨RX7, "release", "(I)V"⟩
abbrev cX7_emit : ByteArray := prog_9_method_10_code
def yX7_emit : MethodName := ⟨RX7, "emit", "(I)V"⟩
abbrev cX7_setDoor : ByteArray := prog_9_method_11_code
def yX7_setDoor : MethodName := ⟨RX7, "setDoor", "(IIZI)V"⟩
abbrev cX7_setGoer : ByteArray := prog_9_method_12_code
def yX7_setGoer : MethodName := ⟨RX7, "setGoer", "(II)V"⟩
abbrev cX7_workOut : ByteArray := prog_9_method_13_code
def yX7_workOut : MethodName := ⟨RX7, "workOut", "()I"⟩
abbrev cX7_joined : ByteArray := prog_9_method_14_code
def yX7_joined : MethodName := ⟨RX7, "joined", "(III)I"⟩
def RX8 : String := "ClosesAfterSeventh$Routes"
def TX8 : u_T := fun k => match k with
  | 0 => ("ClosesAfterSeventh$Routes", "doors", "LClosesAfterSeventh$Doors;", true)
  | 1 => ("ClosesAfterSeventh$Routes", "cost", "[I", true)
  | 2 => ("ClosesAfterSeventh$Routes", "dist", "[I", true)
  | 3 => ("ClosesAfterSeventh$Routes", "step", "[I", true)
  | _ => ("ClosesAfterSeventh$Routes", "found", "[I", true)
def tyX8 : Nat → FieldType := fun k => match k with
  | 0 => .object "ClosesAfterSeventh$Doors"
  | 1 => .array .int
  | 2 => .array .int
  | 3 => .array .int
  | _ => .array .int
abbrev wsX80 : List Cond := u_ws RX8 TX8 5
theorem nmX8 : ∀ a, a < 5 → ∀ b, b < 5 → a ≠ b → (TX8 a).2.1 ≠ (TX8 b).2.1 := by decide +kernel
theorem tyX8_ok : ∀ k, k < 5 → parseFieldDescriptor (TX8 k).2.2.1 = some (tyX8 k) := by decide +kernel
abbrev cX8_init : ByteArray := prog_10_method_1_code
def yX8_init : MethodName := ⟨RX8, "<init>", "(LClosesAfterSeventh$Doors;)V"⟩
abbrev cX8_useAbove : ByteArray := prog_10_method_2_code
def yX8_useAbove : MethodName := ⟨RX8, "useAbove", "(I)V"⟩
abbrev cX8_useNone : ByteArray := prog_10_method_3_code
def yX8_useNone : MethodName := ⟨RX8, "useNone", "()V"⟩
abbrev cX8_find : ByteArray := prog_10_method_4_code
def yX8_find : MethodName := ⟨RX8, "find", "(II)I"⟩
abbrev cX8_measure : ByteArray := prog_10_method_5_code
def yX8_measure : MethodName := ⟨RX8, "measure", "(I)V"⟩
abbrev cX8_setSteps : ByteArray := prog_10_method_6_code
def yX8_setSteps : MethodName := ⟨RX8, "setSteps", "()V"⟩
abbrev cX8_trace : ByteArray := prog_10_method_7_code
def yX8_trace : MethodName := ⟨RX8, "trace", "(II)I"⟩
abbrev cX8_reach : ByteArray := prog_10_method_8_code
def yX8_reach : MethodName := ⟨RX8, "reach", "(I)I"⟩
def RX9 : String := "ClosesAfterSeventh$Tours"
def TX9 : u_T := fun k => match k with
  | 0 => ("ClosesAfterSeventh$Tours", "routes", "LClosesAfterSeventh$Routes;", true)
  | 1 => ("ClosesAfterSeventh$Tours", "rooms", "[I", true)
  | 2 => ("ClosesAfterSeventh$Tours", "far", "[[I", true)
  | 3 => ("ClosesAfterSeventh$Tours", "rest", "[[I", true)
  | 4 => ("ClosesAfterSeventh$Tours", "arranged", "[I", true)
  | _ => ("ClosesAfterSeventh$Tours", "size", "I", false)
def tyX9 : Nat → FieldType := fun k => match k with
  | 0 => .object "ClosesAfterSeventh$Routes"
  | 1 => .array .int
  | 2 => .array (.array .int)
  | 3 => .array (.array .int)
  | 4 => .array .int
  | _ => .int
abbrev wsX90 : List Cond := u_ws RX9 TX9 6
theorem nmX9 : ∀ a, a < 6 → ∀ b, b < 6 → a ≠ b → (TX9 a).2.1 ≠ (TX9 b).2.1 := by decide +kernel
theorem tyX9_ok : ∀ k, k < 6 → parseFieldDescriptor (TX9 k).2.2.1 = some (tyX9 k) := by decide +kernel
abbrev cX9_init : ByteArray := prog_11_method_1_code
def yX9_init : MethodName := ⟨RX9, "<init>", "(LClosesAfterSeventh$Routes;)V"⟩
abbrev cX9_areFew : ByteArray := prog_11_method_2_code
def yX9_areFew : MethodName := ⟨RX9, "areFew", "(I)Z"⟩
abbrev cX9_prepare : ByteArray := prog_11_method_3_code
def yX9_prepare : MethodName := ⟨RX9, "prepare", "(I)V"⟩
abbrev cX9_farFrom : ByteArray := prog_11_method_4_code
def yX9_farFrom : MethodName := ⟨RX9, "farFrom", "(II)I"⟩
abbrev cX9_fewestFrom : ByteArray := prog_11_method_5_code
def yX9_fewestFrom : MethodName := ⟨RX9, "fewestFrom", "(I)I"⟩
abbrev cX9_arrange : ByteArray := prog_11_method_6_code
def yX9_arrange : MethodName := ⟨RX9, "arrange", "(I)V"⟩
abbrev cX9_nextOf : ByteArray := prog_11_method_7_code
def yX9_nextOf : MethodName := ⟨RX9, "nextOf", "(II)I"⟩
def RX10 : String := "ClosesAfterSeventh$Walks"
def TX10 : u_T := fun k => match k with
  | 0 => ("ClosesAfterSeventh$Walks", "doors", "LClosesAfterSeventh$Doors;", true)
  | 1 => ("ClosesAfterSeventh$Walks", "people", "LClosesAfterSeventh$People;", true)
  | 2 => ("ClosesAfterSeventh$Walks", "routes", "LClosesAfterSeventh$Routes;", true)
  | 3 => ("ClosesAfterSeventh$Walks", "price", "LClosesAfterSeventh$Price;", true)
  | 4 => ("ClosesAfterSeventh$Walks", "onWay", "[I", true)
  | 5 => ("ClosesAfterSeventh$Walks", "strangersOnWay", "[I", true)
  | 6 => ("ClosesAfterSeventh$Walks", "keepBack", "I", false)
  | 7 => ("ClosesAfterSeventh$Walks", "passed", "I", false)
  | _ => ("ClosesAfterSeventh$Walks", "stranded", "Z", false)
def tyX10 : Nat → FieldType := fun k => match k with
  | 0 => .object "ClosesAfterSeventh$Doors"
  | 1 => .object "ClosesAfterSeventh$People"
  | 2 => .object "ClosesAfterSeventh$Routes"
  | 3 => .object "ClosesAfterSeventh$Price"
  | 4 => .array .int
  | 5 => .array .int
  | 6 => .int
  | 7 => .int
  | _ => .boolean
abbrev wsX100 : List Cond := u_ws RX10 TX10 9
theorem nmX10 : ∀ a, a < 9 → ∀ b, b < 9 → a ≠ b → (TX10 a).2.1 ≠ (TX10 b).2.1 := by decide +kernel
theorem tyX10_ok : ∀ k, k < 9 → parseFieldDescriptor (TX10 k).2.2.1 = some (tyX10 k) := by decide +kernel
abbrev cX10_init : ByteArray := prog_12_method_1_code
def yX10_init : MethodName := ⟨RX10, "<init>", "(LClosesAfterSeventh$Doors;LClosesAfterSeventh$People;LClosesAfterSeventh$Routes;LClosesAfterSeventh$Price;)V"⟩
abbrev cX10_goThrough : ByteArray := prog_12_method_2_code
def yX10_goThrough : MethodName := ⟨RX10, "goThrough", "(II)V"⟩
abbrev cX10_spend : ByteArray := prog_12_method_3_code
def yX10_spend : MethodName := ⟨RX10, "spend", "(II)V"⟩
abbrev cX10_run : ByteArray := prog_12_method_4_code
def yX10_run : MethodName := ⟨RX10, "run", "(II)V"⟩
abbrev cX10_trip : ByteArray := prog_12_method_5_code
def yX10_trip : MethodName := ⟨RX10, "trip", "(II)I"⟩
abbrev cX10_leg : ByteArray := prog_12_method_6_code
def yX10_leg : MethodName := ⟨RX10, "leg", "(II)I"⟩
abbrev cX10_fewestDoors : ByteArray := prog_12_method_7_code
def yX10_fewestDoors : MethodName := ⟨RX10, "fewestDoors", "(I)I"⟩
abbrev cX10_setCosts : ByteArray := prog_12_method_8_code
def yX10_setCosts : MethodName := ⟨RX10, "setCosts", "(II)V"⟩
abbrev cX10_setPrice : ByteArray := prog_12_method_9_code
def yX10_setPrice : MethodName := ⟨RX10, "setPrice", "(II)V"⟩
abbrev cX10_countWays : ByteArray := prog_12_method_10_code
def yX10_countWays : MethodName := ⟨RX10, "countWays", "(I)V"⟩
abbrev cX10_toAndFro : ByteArray := prog_12_method_11_code
def yX10_toAndFro : MethodName := ⟨RX10, "toAndFro", "(II)I"⟩
abbrev cX10_crosses : ByteArray := prog_12_method_12_code
def yX10_crosses : MethodName := ⟨RX10, "crosses", "(III)Z"⟩
abbrev cX10_shutOut : ByteArray := prog_12_method_13_code
def yX10_shutOut : MethodName := ⟨RX10, "shutOut", "(I)I"⟩
abbrev cX10_canComeBehind : ByteArray := prog_12_method_14_code
def yX10_canComeBehind : MethodName := ⟨RX10, "canComeBehind", "(II)I"⟩
abbrev cX10_canCome : ByteArray := prog_12_method_15_code
def yX10_canCome : MethodName := ⟨RX10, "canCome", "(I)I"⟩
def RX11 : String := "ClosesAfterSeventh"
def TX11 : u_T := fun k => match k with
  | 0 => ("ClosesAfterSeventh", "text", "[C", true)
  | 1 => ("ClosesAfterSeventh", "textSize", "I", false)
  | 2 => ("ClosesAfterSeventh", "row", "[J", true)
  | 3 => ("ClosesAfterSeventh", "rowSize", "I", false)
  | 4 => ("ClosesAfterSeventh", "sayingMaid", "[I", true)
  | 5 => ("ClosesAfterSeventh", "sayingDoor", "[I", true)
  | 6 => ("ClosesAfterSeventh", "sayingNumber", "[I", true)
  | 7 => ("ClosesAfterSeventh", "sayings", "I", false)
  | 8 => ("ClosesAfterSeventh", "hopes", "[J", true)
  | 9 => ("ClosesAfterSeventh", "kept", "[LClosesAfterSeventh$Kept;", true)
  | 10 => ("ClosesAfterSeventh", "doors", "LClosesAfterSeventh$Doors;", true)
  | 11 => ("ClosesAfterSeventh", "people", "LClosesAfterSeventh$People;", true)
  | 12 => ("ClosesAfterSeventh", "reader", "LClosesAfterSeventh$HouseReader;", true)
  | 13 => ("ClosesAfterSeventh", "price", "LClosesAfterSeventh$Price;", true)
  | 14 => ("ClosesAfterSeventh", "routes", "LClosesAfterSeventh$Routes;", true)
  | 15 => ("ClosesAfterSeventh", "flow", "LClosesAfterSeventh$Flow;", true)
  | 16 => ("ClosesAfterSeventh", "walks", "LClosesAfterSeventh$Walks;", true)
  | 17 => ("ClosesAfterSeventh", "orders", "LClosesAfterSeventh$Orders;", true)
  | 18 => ("ClosesAfterSeventh", "tours", "LClosesAfterSeventh$Tours;", true)
  | _ => ("ClosesAfterSeventh", "pairs", "LClosesAfterSeventh$Pairs;", true)
def tyX11 : Nat → FieldType := fun k => match k with
  | 0 => .array .char
  | 1 => .int
  | 2 => .array .long
  | 3 => .int
  | 4 => .array .int
  | 5 => .array .int
  | 6 => .array .int
  | 7 => .int
  | 8 => .array .long
  | 9 => .array (.object "ClosesAfterSeventh$Kept")
  | 10 => .object "ClosesAfterSeventh$Doors"
  | 11 => .object "ClosesAfterSeventh$People"
  | 12 => .object "ClosesAfterSeventh$HouseReader"
  | 13 => .object "ClosesAfterSeventh$Price"
  | 14 => .object "ClosesAfterSeventh$Routes"
  | 15 => .object "ClosesAfterSeventh$Flow"
  | 16 => .object "ClosesAfterSeventh$Walks"
  | 17 => .object "ClosesAfterSeventh$Orders"
  | 18 => .object "ClosesAfterSeventh$Tours"
  | _ => .object "ClosesAfterSeventh$Pairs"
abbrev wsX110 : List Cond := u_ws RX11 TX11 20
theorem nmX11 : ∀ a, a < 20 → ∀ b, b < 20 → a ≠ b → (TX11 a).2.1 ≠ (TX11 b).2.1 := by decide +kernel
theorem tyX11_ok : ∀ k, k < 20 → parseFieldDescriptor (TX11 k).2.2.1 = some (tyX11 k) := by decide +kernel
abbrev cX11_init : ByteArray := prog_1_method_1_code
def yX11_init : MethodName := ⟨RX11, "<init>", "()V"⟩
abbrev cX11_sign : ByteArray := prog_1_method_2_code
def yX11_sign : MethodName := ⟨RX11, "sign", "(I)I"⟩
abbrev cX11_end : ByteArray := prog_1_method_3_code
def yX11_end : MethodName := ⟨RX11, "end", "(I)Z"⟩
abbrev cX11_house : ByteArray := prog_1_method_4_code
def yX11_house : MethodName := ⟨RX11, "house", "()I"⟩
abbrev cX11_price : ByteArray := prog_1_method_5_code
def yX11_price : MethodName := ⟨RX11, "price", "()I"⟩
abbrev cX11_door : ByteArray := prog_1_method_6_code
def yX11_door : MethodName := ⟨RX11, "door", "(II)I"⟩
abbrev cX11_of : ByteArray := prog_1_method_7_code
def yX11_of : MethodName := ⟨RX11, "of", "(II)I"⟩
abbrev cX11_sheet : ByteArray := prog_1_method_8_code
def yX11_sheet : MethodName := ⟨RX11, "sheet", "(IIII)I"⟩
abbrev cX11_keeps : ByteArray := prog_1_method_9_code
def yX11_keeps : MethodName := ⟨RX11, "keeps", "(I)I"⟩
abbrev cX11_hours : ByteArray := prog_1_method_10_code
def yX11_hours : MethodName := ⟨RX11, "hours", "(I)I"⟩
abbrev cX11_pass : ByteArray := prog_1_method_11_code
def yX11_pass : MethodName := ⟨RX11, "pass", "(II)I"⟩
abbrev cX11_way : ByteArray := prog_1_method_12_code
def yX11_way : MethodName := ⟨RX11, "way", "(II)I"⟩
abbrev cX11_may : ByteArray := prog_1_method_13_code
def yX11_may : MethodName := ⟨RX11, "may", "(I)I"⟩
abbrev cX11_goes : ByteArray := prog_1_method_14_code
def yX11_goes : MethodName := ⟨RX11, "goes", "(II)I"⟩
abbrev cX11_priced : ByteArray := prog_1_method_15_code
def yX11_priced : MethodName := ⟨RX11, "priced", "(II)I"⟩
abbrev cX11_fro : ByteArray := prog_1_method_16_code
def yX11_fro : MethodName := ⟨RX11, "fro", "(II)I"⟩
abbrev cX11_crowd : ByteArray := prog_1_method_17_code
def yX11_crowd : MethodName := ⟨RX11, "crowd", "()I"⟩
abbrev cX11_many : ByteArray := prog_1_method_18_code
def yX11_many : MethodName := ⟨RX11, "many", "(II)I"⟩
abbrev cX11_bars : ByteArray := prog_1_method_19_code
def yX11_bars : MethodName := ⟨RX11, "bars", "(II)I"⟩
abbrev cX11_counts : ByteArray := prog_1_method_20_code
def yX11_counts : MethodName := ⟨RX11, "counts", "(III)I"⟩
abbrev cX11_more : ByteArray := prog_1_method_21_code
def yX11_more : MethodName := ⟨RX11, "more", "(I)I"⟩
abbrev cX11_build : ByteArray := prog_1_method_22_code
def yX11_build : MethodName := ⟨RX11, "build", "(IIII)I"⟩
abbrev cX11_never : ByteArray := prog_1_method_23_code
def yX11_never : MethodName := ⟨RX11, "never", "(III)I"⟩
abbrev cX11_home : ByteArray := prog_1_method_24_code
def yX11_home : MethodName := ⟨RX11, "home", "(I)I"⟩
abbrev cX11_fire : ByteArray := prog_1_method_25_code
def yX11_fire : MethodName := ⟨RX11, "fire", "(I)I"⟩
abbrev cX11_late : ByteArray := prog_1_method_26_code
def yX11_late : MethodName := ⟨RX11, "late", "(I)I"⟩
abbrev cX11_day : ByteArray := prog_1_method_27_code
def yX11_day : MethodName := ⟨RX11, "day", "(I)I"⟩
abbrev cX11_would : ByteArray := prog_1_method_28_code
def yX11_would : MethodName := ⟨RX11, "would", "(I)I"⟩
abbrev cX11_plan : ByteArray := prog_1_method_29_code
def yX11_plan : MethodName := ⟨RX11, "plan", "()I"⟩
abbrev cX11_order : ByteArray := prog_1_method_30_code
def yX11_order : MethodName := ⟨RX11, "order", "(I)I"⟩
abbrev cX11_leave : ByteArray := prog_1_method_31_code
def yX11_leave : MethodName := ⟨RX11, "leave", "(I)I"⟩
abbrev cX11_tour : ByteArray := prog_1_method_32_code
def yX11_tour : MethodName := ⟨RX11, "tour", "(II)I"⟩
abbrev cX11_send : ByteArray := prog_1_method_33_code
def yX11_send : MethodName := ⟨RX11, "send", "(I)I"⟩
abbrev cX11_two : ByteArray := prog_1_method_34_code
def yX11_two : MethodName := ⟨RX11, "two", "(IIII)I"⟩
abbrev cX11_keep : ByteArray := prog_1_method_35_code
def yX11_keep : MethodName := ⟨RX11, "keep", "(IIIIII)I"⟩
abbrev cX11_sure : ByteArray := prog_1_method_36_code
def yX11_sure : MethodName := ⟨RX11, "sure", "(II)I"⟩
abbrev cX11_says : ByteArray := prog_1_method_37_code
def yX11_says : MethodName := ⟨RX11, "says", "(III)I"⟩
abbrev cX11_trust : ByteArray := prog_1_method_38_code
def yX11_trust : MethodName := ⟨RX11, "trust", "(I)I"⟩
abbrev cX11_safe : ByteArray := prog_1_method_39_code
def yX11_safe : MethodName := ⟨RX11, "safe", "(IIII)I"⟩
abbrev cX11_put : ByteArray := prog_1_method_40_code
def yX11_put : MethodName := ⟨RX11, "put", "(I)Z"⟩
abbrev cX11_again : ByteArray := prog_1_method_41_code
def yX11_again : MethodName := ⟨RX11, "again", "(I)Z"⟩
abbrev cX11_count : ByteArray := prog_1_method_42_code
def yX11_count : MethodName := ⟨RX11, "count", "(I)I"⟩
abbrev cX11_row : ByteArray := prog_1_method_43_code
def yX11_row : MethodName := ⟨RX11, "row", "(I)J"⟩
abbrev cX11_tell : ByteArray := prog_1_method_44_code
def yX11_tell : MethodName := ⟨RX11, "tell", "(J)V"⟩
abbrev cX11_tellRoute : ByteArray := prog_1_method_45_code
def yX11_tellRoute : MethodName := ⟨RX11, "tellRoute", "(I)I"⟩
abbrev cX11_tellRescued : ByteArray := prog_1_method_46_code
def yX11_tellRescued : MethodName := ⟨RX11, "tellRescued", "(I)I"⟩
abbrev cX11_tellDay : ByteArray := prog_1_method_47_code
def yX11_tellDay : MethodName := ⟨RX11, "tellDay", "()I"⟩
abbrev cX11_sheetEntry : ByteArray := prog_1_method_48_code
def yX11_sheetEntry : MethodName := ⟨RX11, "sheetEntry", "(II)I"⟩
abbrev cX11_isRoom : ByteArray := prog_1_method_49_code
def yX11_isRoom : MethodName := ⟨RX11, "isRoom", "(I)Z"⟩
abbrev cX11_areUnlikeRooms : ByteArray := prog_1_method_50_code
def yX11_areUnlikeRooms : MethodName := ⟨RX11, "areUnlikeRooms", "(II)Z"⟩
abbrev cX11_isPlan : ByteArray := prog_1_method_51_code
def yX11_isPlan : MethodName := ⟨RX11, "isPlan", "(I)Z"⟩
abbrev cX11_hasBit : ByteArray := prog_1_method_52_code
def yX11_hasBit : MethodName := ⟨RX11, "hasBit", "(II)Z"⟩
abbrev cX11_asNumber : ByteArray := prog_1_method_53_code
def yX11_asNumber : MethodName := ⟨RX11, "asNumber", "(Z)I"⟩
abbrev cX11_isDigit : ByteArray := prog_1_method_54_code
def yX11_isDigit : MethodName := ⟨RX11, "isDigit", "(C)Z"⟩
def RX12 : String := "ClosesAfterSeventhModel"
def TX12 : u_T := fun k => match k with
  | 0 => ("ClosesAfterSeventhModel", "doors", "I", false)
  | 1 => ("ClosesAfterSeventhModel", "doorA", "[I", true)
  | 2 => ("ClosesAfterSeventhModel", "doorB", "[I", true)
  | 3 => ("ClosesAfterSeventhModel", "isOneWay", "[Z", true)
  | 4 => ("ClosesAfterSeventhModel", "lets", "[I", true)
  | 5 => ("ClosesAfterSeventhModel", "left", "[I", true)
  | 6 => ("ClosesAfterSeventhModel", "atNoon", "[I", true)
  | 7 => ("ClosesAfterSeventhModel", "people", "I", false)
  | 8 => ("ClosesAfterSeventhModel", "where", "[I", true)
  | 9 => ("ClosesAfterSeventhModel", "home", "[I", true)
  | 10 => ("ClosesAfterSeventhModel", "isStranger", "[Z", true)
  | 11 => ("ClosesAfterSeventhModel", "worth", "[I", true)
  | 12 => ("ClosesAfterSeventhModel", "errand", "[I", true)
  | 13 => ("ClosesAfterSeventhModel", "comesBack", "[Z", true)
  | 14 => ("ClosesAfterSeventhModel", "wasThere", "[Z", true)
  | 15 => ("ClosesAfterSeventhModel", "isDone", "[Z", true)
  | 16 => ("ClosesAfterSeventhModel", "hour", "I", false)
  | 17 => ("ClosesAfterSeventhModel", "keep", "I", false)
  | 18 => ("ClosesAfterSeventhModel", "text", "[B", true)
  | 19 => ("ClosesAfterSeventhModel", "typed", "I", false)
  | 20 => ("ClosesAfterSeventhModel", "row", "[J", true)
  | 21 => ("ClosesAfterSeventhModel", "rowMany", "I", false)
  | 22 => ("ClosesAfterSeventhModel", "thrown", "I", false)
  | 23 => ("ClosesAfterSeventhModel", "read", "[B", false)
  | 24 => ("ClosesAfterSeventhModel", "size", "I", false)
  | 25 => ("ClosesAfterSeventhModel", "top", "I", false)
  | 26 => ("ClosesAfterSeventhModel", "at", "I", false)
  | 27 => ("ClosesAfterSeventhModel", "wrong", "I", false)
  | 28 => ("ClosesAfterSeventhModel", "price", "[B", true)
  | 29 => ("ClosesAfterSeventhModel", "priceSize", "I", false)
  | 30 => ("ClosesAfterSeventhModel", "askedDoor", "I", false)
  | 31 => ("ClosesAfterSeventhModel", "askedOne", "I", false)
  | 32 => ("ClosesAfterSeventhModel", "onTheirWay", "[I", true)
  | 33 => ("ClosesAfterSeventhModel", "isOnWay", "[I", true)
  | 34 => ("ClosesAfterSeventhModel", "cost", "[I", true)
  | 35 => ("ClosesAfterSeventhModel", "far", "[J", true)
  | 36 => ("ClosesAfterSeventhModel", "way", "[I", true)
  | 37 => ("ClosesAfterSeventhModel", "wayMany", "I", false)
  | 38 => ("ClosesAfterSeventhModel", "can", "[I", true)
  | 39 => ("ClosesAfterSeventhModel", "cameFrom", "[I", true)
  | 40 => ("ClosesAfterSeventhModel", "queue", "[I", true)
  | 41 => ("ClosesAfterSeventhModel", "put", "[I", true)
  | 42 => ("ClosesAfterSeventhModel", "dayDone", "I", false)
  | 43 => ("ClosesAfterSeventhModel", "dayWorth", "I", false)
  | 44 => ("ClosesAfterSeventhModel", "dayDoors", "I", false)
  | 45 => ("ClosesAfterSeventhModel", "dayCant", "I", false)
  | 46 => ("ClosesAfterSeventhModel", "line", "[I", true)
  | 47 => ("ClosesAfterSeventhModel", "bestLine", "[I", true)
  | 48 => ("ClosesAfterSeventhModel", "bestWorth", "I", false)
  | 49 => ("ClosesAfterSeventhModel", "bestDoors", "I", false)
  | 50 => ("ClosesAfterSeventhModel", "tour", "[I", true)
  | 51 => ("ClosesAfterSeventhModel", "bestTour", "[I", true)
  | 52 => ("ClosesAfterSeventhModel", "tourDoors", "I", false)
  | 53 => ("ClosesAfterSeventhModel", "firstWay", "[I", true)
  | 54 => ("ClosesAfterSeventhModel", "secondWay", "[I", true)
  | 55 => ("ClosesAfterSeventhModel", "bestTwo", "[I", true)
  | 56 => ("ClosesAfterSeventhModel", "wasLeft", "[I", true)
  | 57 => ("ClosesAfterSeventhModel", "firstMany", "I", false)
  | 58 => ("ClosesAfterSeventhModel", "twoDoors", "I", false)
  | 59 => ("ClosesAfterSeventhModel", "two0", "I", false)
  | 60 => ("ClosesAfterSeventhModel", "two1", "I", false)
  | 61 => ("ClosesAfterSeventhModel", "room0", "I", false)
  | 62 => ("ClosesAfterSeventhModel", "room1", "I", false)
  | 63 => ("ClosesAfterSeventhModel", "hope", "[J", true)
  | 64 => ("ClosesAfterSeventhModel", "sayings", "I", false)
  | 65 => ("ClosesAfterSeventhModel", "saysWho", "[I", true)
  | 66 => ("ClosesAfterSeventhModel", "saysDoor", "[I", true)
  | 67 => ("ClosesAfterSeventhModel", "saysNumber", "[I", true)
  | 68 => ("ClosesAfterSeventhModel", "isKept", "[Z", true)
  | 69 => ("ClosesAfterSeventhModel", "keptDoors", "[I", true)
  | _ => ("ClosesAfterSeventhModel", "keptPeople", "[I", true)
def tyX12 : Nat → FieldType := fun k => match k with
  | 0 => .int
  | 1 => .array .int
  | 2 => .array .int
  | 3 => .array .boolean
  | 4 => .array .int
  | 5 => .array .int
  | 6 => .array .int
  | 7 => .int
  | 8 => .array .int
  | 9 => .array .int
  | 10 => .array .boolean
  | 11 => .array .int
  | 12 => .array .int
  | 13 => .array .boolean
  | 14 => .array .boolean
  | 15 => .array .boolean
  | 16 => .int
  | 17 => .int
  | 18 => .array .byte
  | 19 => .int
  | 20 => .array .long
  | 21 => .int
  | 22 => .int
  | 23 => .array .byte
  | 24 => .int
  | 25 => .int
  | 26 => .int
  | 27 => .int
  | 28 => .array .byte
  | 29 => .int
  | 30 => .int
  | 31 => .int
  | 32 => .array .int
  | 33 => .array .int
  | 34 => .array .int
  | 35 => .array .long
  | 36 => .array .int
  | 37 => .int
  | 38 => .array .int
  | 39 => .array .int
  | 40 => .array .int
  | 41 => .array .int
  | 42 => .int
  | 43 => .int
  | 44 => .int
  | 45 => .int
  | 46 => .array .int
  | 47 => .array .int
  | 48 => .int
  | 49 => .int
  | 50 => .array .int
  | 51 => .array .int
  | 52 => .int
  | 53 => .array .int
  | 54 => .array .int
  | 55 => .array .int
  | 56 => .array .int
  | 57 => .int
  | 58 => .int
  | 59 => .int
  | 60 => .int
  | 61 => .int
  | 62 => .int
  | 63 => .array .long
  | 64 => .int
  | 65 => .array .int
  | 66 => .array .int
  | 67 => .array .int
  | 68 => .array .boolean
  | 69 => .array .int
  | _ => .array .int
abbrev wsX120 : List Cond := u_ws RX12 TX12 71
theorem nmX12 : ∀ a, a < 71 → ∀ b, b < 71 → a ≠ b → (TX12 a).2.1 ≠ (TX12 b).2.1 := by decide +kernel
theorem tyX12_ok : ∀ k, k < 71 → parseFieldDescriptor (TX12 k).2.2.1 = some (tyX12 k) := by decide +kernel
abbrev cX12_init : ByteArray := prog_14_method_1_code
def yX12_init : MethodName := ⟨RX12, "<init>", "()V"⟩
abbrev cX12_thrown : ByteArray := prog_14_method_2_code
def yX12_thrown : MethodName := ⟨RX12, "thrown", "()I"⟩
abbrev cX12_in : ByteArray := prog_14_method_3_code
def yX12_in : MethodName := ⟨RX12, "in", "(III)Z"⟩
abbrev cX12_has : ByteArray := prog_14_method_4_code
def yX12_has : MethodName := ⟨RX12, "has", "(II)Z"⟩
abbrev cX12_lost : ByteArray := prog_14_method_5_code
def yX12_lost : MethodName := ⟨RX12, "lost", "()I"⟩
abbrev cX12_tell : ByteArray := prog_14_method_6_code
def yX12_tell : MethodName := ⟨RX12, "tell", "(J)V"⟩
abbrev cX12_isRoom : ByteArray := prog_14_method_7_code
def yX12_isRoom : MethodName := ⟨RX12, "isRoom", "(I)Z"⟩
abbrev cX12_isDoor : ByteArray := prog_14_method_8_code
def yX12_isDoor : MethodName := ⟨RX12, "isDoor", "(I)Z"⟩
abbrev cX12_isOne : ByteArray := prog_14_method_9_code
def yX12_isOne : MethodName := ⟨RX12, "isOne", "(I)Z"⟩
abbrev cX12_sign : ByteArray := prog_14_method_10_code
def yX12_sign : MethodName := ⟨RX12, "sign", "(I)I"⟩
abbrev cX12_end : ByteArray := prog_14_method_11_code
def yX12_end : MethodName := ⟨RX12, "end", "(I)Z"⟩
abbrev cX12_begin : ByteArray := prog_14_method_12_code
def yX12_begin : MethodName := ⟨RX12, "begin", "([BII)V"⟩
abbrev cX12_here : ByteArray := prog_14_method_13_code
def yX12_here : MethodName := ⟨RX12, "here", "()I"⟩
abbrev cX12_fine : ByteArray := prog_14_method_14_code
def yX12_fine : MethodName := ⟨RX12, "fine", "()Z"⟩
abbrev cX12_fault : ByteArray := prog_14_method_15_code
def yX12_fault : MethodName := ⟨RX12, "fault", "(I)V"⟩
abbrev cX12_passes : ByteArray := prog_14_method_16_code
def yX12_passes : MethodName := ⟨RX12, "passes", "(C)Z"⟩
abbrev cX12_need : ByteArray := prog_14_method_17_code
def yX12_need : MethodName := ⟨RX12, "need", "(C)V"⟩
abbrev cX12_number : ByteArray := prog_14_method_18_code
def yX12_number : MethodName := ⟨RX12, "number", "(II)I"⟩
abbrev cX12_house : ByteArray := prog_14_method_19_code
def yX12_house : MethodName := ⟨RX12, "house", "()I"⟩
abbrev cX12_readDoor : ByteArray := prog_14_method_20_code
def yX12_readDoor : MethodName := ⟨RX12, "readDoor", "()V"⟩
abbrev cX12_readOne : ByteArray := prog_14_method_21_code
def yX12_readOne : MethodName := ⟨RX12, "readOne", "(Z)V"⟩
abbrev cX12_arrive : ByteArray := prog_14_method_22_code
def yX12_arrive : MethodName := ⟨RX12, "arrive", "(I)V"⟩
abbrev cX12_nextOf : ByteArray := prog_14_method_23_code
def yX12_nextOf : MethodName := ⟨RX12, "nextOf", "(I)I"⟩
abbrev cX12_held : ByteArray := prog_14_method_24_code
def yX12_held : MethodName := ⟨RX12, "held", "(I)I"⟩
abbrev cX12_sum : ByteArray := prog_14_method_25_code
def yX12_sum : MethodName := ⟨RX12, "sum", "(I)I"⟩
abbrev cX12_product : ByteArray := prog_14_method_26_code
def yX12_product : MethodName := ⟨RX12, "product", "(I)I"⟩
abbrev cX12_thing : ByteArray := prog_14_method_27_code
def yX12_thing : MethodName := ⟨RX12, "thing", "(I)I"⟩
abbrev cX12_price : ByteArray := prog_14_method_28_code
def yX12_price : MethodName := ⟨RX12, "price", "()I"⟩
abbrev cX12_findTheirWays : ByteArray := prog_14_method_29_code
def yX12_findTheirWays : MethodName := ⟨RX12, "findTheirWays", "()V"⟩
abbrev cX12_priceOf : ByteArray := prog_14_method_30_code
def yX12_priceOf : MethodName := ⟨RX12, "priceOf", "(II)I"⟩
abbrev cX12_beyond : ByteArray := prog_14_method_31_code
def yX12_beyond : MethodName := ⟨RX12, "beyond", "(II)I"⟩
abbrev cX12_step : ByteArray := prog_14_method_32_code
def yX12_step : MethodName := ⟨RX12, "step", "(I)J"⟩
abbrev cX12_findWay : ByteArray := prog_14_method_33_code
def yX12_findWay : MethodName := ⟨RX12, "findWay", "(II)Z"⟩
abbrev cX12_findOpenWay : ByteArray := prog_14_method_34_code
def yX12_findOpenWay : MethodName := ⟨RX12, "findOpenWay", "(II)Z"⟩
abbrev cX12_tellWay : ByteArray := prog_14_method_35_code
def yX12_tellWay : MethodName := ⟨RX12, "tellWay", "()V"⟩
abbrev cX12_findPlanned : ByteArray := prog_14_method_36_code
def yX12_findPlanned : MethodName := ⟨RX12, "findPlanned", "(III)Z"⟩
abbrev cX12_door : ByteArray := prog_14_method_37_code
def yX12_door : MethodName := ⟨RX12, "door", "(II)I"⟩
abbrev cX12_of : ByteArray := prog_14_method_38_code
def yX12_of : MethodName := ⟨RX12, "of", "(II)I"⟩
abbrev cX12_sheet : ByteArray := prog_14_method_39_code
def yX12_sheet : MethodName := ⟨RX12, "sheet", "(IIII)I"⟩
abbrev cX12_keeps : ByteArray := prog_14_method_40_code
def yX12_keeps : MethodName := ⟨RX12, "keeps", "(I)I"⟩
abbrev cX12_hours : ByteArray := prog_14_method_41_code
def yX12_hours : MethodName := ⟨RX12, "hours", "(I)I"⟩
abbrev cX12_go : ByteArray := prog_14_method_42_code
def yX12_go : MethodName := ⟨RX12, "go", "(II)V"⟩
abbrev cX12_pass : ByteArray := prog_14_method_43_code
def yX12_pass : MethodName := ⟨RX12, "pass", "(II)I"⟩
abbrev cX12_way : ByteArray := prog_14_method_44_code
def yX12_way : MethodName := ⟨RX12, "way", "(II)I"⟩
abbrev cX12_may : ByteArray := prog_14_method_45_code
def yX12_may : MethodName := ⟨RX12, "may", "(I)I"⟩
abbrev cX12_goes : ByteArray := prog_14_method_46_code
def yX12_goes : MethodName := ⟨RX12, "goes", "(II)I"⟩
abbrev cX12_priced : ByteArray := prog_14_method_47_code
def yX12_priced : MethodName := ⟨RX12, "priced", "(II)I"⟩
abbrev cX12_clearFlow : ByteArray := prog_14_method_48_code
def yX12_clearFlow : MethodName := ⟨RX12, "clearFlow", "()V"⟩
abbrev cX12_layDoor : ByteArray := prog_14_method_49_code
def yX12_layDoor : MethodName := ⟨RX12, "layDoor", "(II)V"⟩
abbrev cX12_findMore : ByteArray := prog_14_method_50_code
def yX12_findMore : MethodName := ⟨RX12, "findMore", "(II)Z"⟩
abbrev cX12_flow : ByteArray := prog_14_method_51_code
def yX12_flow : MethodName := ⟨RX12, "flow", "(II)I"⟩
abbrev cX12_manyWith : ByteArray := prog_14_method_52_code
def yX12_manyWith : MethodName := ⟨RX12, "manyWith", "(IIII)I"⟩
abbrev cX12_areEnds : ByteArray := prog_14_method_53_code
def yX12_areEnds : MethodName := ⟨RX12, "areEnds", "(II)Z"⟩
abbrev cX12_many : ByteArray := prog_14_method_54_code
def yX12_many : MethodName := ⟨RX12, "many", "(II)I"⟩
abbrev cX12_bars : ByteArray := prog_14_method_55_code
def yX12_bars : MethodName := ⟨RX12, "bars", "(II)I"⟩
abbrev cX12_counts : ByteArray := prog_14_method_56_code
def yX12_counts : MethodName := ⟨RX12, "counts", "(III)I"⟩
abbrev cX12_sumOfPairs : ByteArray := prog_14_method_57_code
def yX12_sumOfPairs : MethodName := ⟨RX12, "sumOfPairs", "(II)I"⟩
abbrev cX12_more : ByteArray := prog_14_method_58_code
def yX12_more : MethodName := ⟨RX12, "more", "(I)I"⟩
abbrev cX12_build : ByteArray := prog_14_method_59_code
def yX12_build : MethodName := ⟨RX12, "build", "(IIII)I"⟩
abbrev cX12_never : ByteArray := prog_14_method_60_code
def yX12_never : MethodName := ⟨RX12, "never", "(III)I"⟩
abbrev cX12_flowOf : ByteArray := prog_14_method_61_code
def yX12_flowOf : MethodName := ⟨RX12, "flowOf", "(II)I"⟩
abbrev cX12_toRooms : ByteArray := prog_14_method_62_code
def yX12_toRooms : MethodName := ⟨RX12, "toRooms", "(I)I"⟩
abbrev cX12_home : ByteArray := prog_14_method_63_code
def yX12_home : MethodName := ⟨RX12, "home", "(I)I"⟩
abbrev cX12_fire : ByteArray := prog_14_method_64_code
def yX12_fire : MethodName := ⟨RX12, "fire", "(I)I"⟩
abbrev cX12_late : ByteArray := prog_14_method_65_code
def yX12_late : MethodName := ⟨RX12, "late", "(I)I"⟩
abbrev cX12_whoCan : ByteArray := prog_14_method_66_code
def yX12_whoCan : MethodName := ⟨RX12, "whoCan", "(I)I"⟩
abbrev cX12_putIn : ByteArray := prog_14_method_67_code
def yX12_putIn : MethodName := ⟨RX12, "putIn", "(I)V"⟩
abbrev cX12_takeOut : ByteArray := prog_14_method_68_code
def yX12_takeOut : MethodName := ⟨RX12, "takeOut", "(III)V"⟩
abbrev cX12_putBy : ByteArray := prog_14_method_69_code
def yX12_putBy : MethodName := ⟨RX12, "putBy", "()V"⟩
abbrev cX12_bringBack : ByteArray := prog_14_method_70_code
def yX12_bringBack : MethodName := ⟨RX12, "bringBack", "()V"⟩
abbrev cX12_fro : ByteArray := prog_14_method_71_code
def yX12_fro : MethodName := ⟨RX12, "fro", "(II)I"⟩
abbrev cX12_spend : ByteArray := prog_14_method_72_code
def yX12_spend : MethodName := ⟨RX12, "spend", "(I)I"⟩
abbrev cX12_crowd : ByteArray := prog_14_method_73_code
def yX12_crowd : MethodName := ⟨RX12, "crowd", "()I"⟩
abbrev cX12_beginDay : ByteArray := prog_14_method_74_code
def yX12_beginDay : MethodName := ⟨RX12, "beginDay", "()V"⟩
abbrev cX12_dayOf : ByteArray := prog_14_method_75_code
def yX12_dayOf : MethodName := ⟨RX12, "dayOf", "(II)V"⟩
abbrev cX12_endDay : ByteArray := prog_14_method_76_code
def yX12_endDay : MethodName := ⟨RX12, "endDay", "()V"⟩
abbrev cX12_goAll : ByteArray := prog_14_method_77_code
def yX12_goAll : MethodName := ⟨RX12, "goAll", "(II)V"⟩
abbrev cX12_toldDay : ByteArray := prog_14_method_78_code
def yX12_toldDay : MethodName := ⟨RX12, "toldDay", "()I"⟩
abbrev cX12_day : ByteArray := prog_14_method_79_code
def yX12_day : MethodName := ⟨RX12, "day", "(I)I"⟩
abbrev cX12_would : ByteArray := prog_14_method_80_code
def yX12_would : MethodName := ⟨RX12, "would", "(I)I"⟩
abbrev cX12_plan : ByteArray := prog_14_method_81_code
def yX12_plan : MethodName := ⟨RX12, "plan", "()I"⟩
abbrev cX12_toGo : ByteArray := prog_14_method_82_code
def yX12_toGo : MethodName := ⟨RX12, "toGo", "()I"⟩
abbrev cX12_orderFrom : ByteArray := prog_14_method_83_code
def yX12_orderFrom : MethodName := ⟨RX12, "orderFrom", "(III)V"⟩
abbrev cX12_order : ByteArray := prog_14_method_84_code
def yX12_order : MethodName := ⟨RX12, "order", "(I)I"⟩
abbrev cX12_leave : ByteArray := prog_14_method_85_code
def yX12_leave : MethodName := ⟨RX12, "leave", "(I)I"⟩
abbrev cX12_tourFrom : ByteArray := prog_14_method_86_code
def yX12_tourFrom : MethodName := ⟨RX12, "tourFrom", "(IIII)V"⟩
abbrev cX12_areSix : ByteArray := prog_14_method_87_code
def yX12_areSix : MethodName := ⟨RX12, "areSix", "(I)Z"⟩
abbrev cX12_tour : ByteArray := prog_14_method_88_code
def yX12_tour : MethodName := ⟨RX12, "tour", "(II)I"⟩
abbrev cX12_send : ByteArray := prog_14_method_89_code
def yX12_send : MethodName := ⟨RX12, "send", "(I)I"⟩
abbrev cX12_twoFrom : ByteArray := prog_14_method_90_code
def yX12_twoFrom : MethodName := ⟨RX12, "twoFrom", "(ZIII)V"⟩
abbrev cX12_two : ByteArray := prog_14_method_91_code
def yX12_two : MethodName := ⟨RX12, "two", "(IIII)I"⟩
abbrev cX12_keep : ByteArray := prog_14_method_92_code
def yX12_keep : MethodName := ⟨RX12, "keep", "(IIIIII)I"⟩
abbrev cX12_sure : ByteArray := prog_14_method_93_code
def yX12_sure : MethodName := ⟨RX12, "sure", "(II)I"⟩
abbrev cX12_says : ByteArray := prog_14_method_94_code
def yX12_says : MethodName := ⟨RX12, "says", "(III)I"⟩
abbrev cX12_trust : ByteArray := prog_14_method_95_code
def yX12_trust : MethodName := ⟨RX12, "trust", "(I)I"⟩
abbrev cX12_safe : ByteArray := prog_14_method_96_code
def yX12_safe : MethodName := ⟨RX12, "safe", "(IIII)I"⟩
abbrev cX12_put : ByteArray := prog_14_method_97_code
def yX12_put : MethodName := ⟨RX12, "put", "(I)Z"⟩
abbrev cX12_again : ByteArray := prog_14_method_98_code
def yX12_again : MethodName := ⟨RX12, "again", "(I)Z"⟩
abbrev cX12_count : ByteArray := prog_14_method_99_code
def yX12_count : MethodName := ⟨RX12, "count", "(I)I"⟩
abbrev cX12_row : ByteArray := prog_14_method_100_code
def yX12_row : MethodName := ⟨RX12, "row", "(I)J"⟩
def RJx145de : String := "java/io/Serializable"
def TJx145de : u_T := fun k => match k with
  | _ => ("", "", "", false)
def tyJx145de : Nat → FieldType := fun k => match k with
  | _ => .int
abbrev wsJx145de0 : List Cond := u_ws RJx145de TJx145de 0
theorem nmJx145de : ∀ a, a < 0 → ∀ b, b < 0 → a ≠ b → (TJx145de a).2.1 ≠ (TJx145de b).2.1 := by decide +kernel
theorem tyJx145de_ok : ∀ k, k < 0 → parseFieldDescriptor (TJx145de k).2.2.1 = some (tyJx145de k) := by decide +kernel
def RJx9f9b0 : String := "java/lang/CharSequence"
def TJx9f9b0 : u_T := fun k => match k with
  | _ => ("", "", "", false)
def tyJx9f9b0 : Nat → FieldType := fun k => match k with
  | _ => .int
abbrev wsJx9f9b00 : List Cond := u_ws RJx9f9b0 TJx9f9b0 0
theorem nmJx9f9b0 : ∀ a, a < 0 → ∀ b, b < 0 → a ≠ b → (TJx9f9b0 a).2.1 ≠ (TJx9f9b0 b).2.1 := by decide +kernel
theorem tyJx9f9b0_ok : ∀ k, k < 0 → parseFieldDescriptor (TJx9f9b0 k).2.2.1 = some (tyJx9f9b0 k) := by decide +kernel
def RJ11 : String := "java/lang/Character"
def TJ11 : u_T := fun k => match k with
  | _ => ("", "", "", false)
def tyJ11 : Nat → FieldType := fun k => match k with
  | _ => .int
abbrev wsJ110 : List Cond := u_ws RJ11 TJ11 0
theorem nmJ11 : ∀ a, a < 0 → ∀ b, b < 0 → a ≠ b → (TJ11 a).2.1 ≠ (TJ11 b).2.1 := by decide +kernel
theorem tyJ11_ok : ∀ k, k < 0 → parseFieldDescriptor (TJ11 k).2.2.1 = some (tyJ11 k) := by decide +kernel
abbrev cJ11_isValidCodePoint_9a6ad : ByteArray := prog_17_method_11_code
def yJ11_isValidCodePoint_9a6ad : MethodName := ⟨RJ11, "isValidCodePoint", "(I)Z"⟩
abbrev cJ11_highSurrogate_5068e : ByteArray := prog_17_method_28_code
def yJ11_highSurrogate_5068e : MethodName := ⟨RJ11, "highSurrogate", "(I)C"⟩
abbrev cJ11_lowSurrogate_5068e : ByteArray := prog_17_method_29_code
def yJ11_lowSurrogate_5068e : MethodName := ⟨RJ11, "lowSurrogate", "(I)C"⟩
def RJxb160c : String := "java/lang/Comparable"
def TJxb160c : u_T := fun k => match k with
  | _ => ("", "", "", false)
def tyJxb160c : Nat → FieldType := fun k => match k with
  | _ => .int
abbrev wsJxb160c0 : List Cond := u_ws RJxb160c TJxb160c 0
theorem nmJxb160c : ∀ a, a < 0 → ∀ b, b < 0 → a ≠ b → (TJxb160c a).2.1 ≠ (TJxb160c b).2.1 := by decide +kernel
theorem tyJxb160c_ok : ∀ k, k < 0 → parseFieldDescriptor (TJxb160c k).2.2.1 = some (tyJxb160c k) := by decide +kernel
def RJ6 : String := "java/lang/Integer"
def TJ6 : u_T := fun k => match k with
  | _ => ("", "", "", false)
def tyJ6 : Nat → FieldType := fun k => match k with
  | _ => .int
abbrev wsJ60 : List Cond := u_ws RJ6 TJ6 0
theorem nmJ6 : ∀ a, a < 0 → ∀ b, b < 0 → a ≠ b → (TJ6 a).2.1 ≠ (TJ6 b).2.1 := by decide +kernel
theorem tyJ6_ok : ∀ k, k < 0 → parseFieldDescriptor (TJ6 k).2.2.1 = some (tyJ6 k) := by decide +kernel
abbrev cJ6_bitCount_0f7a4 : ByteArray := prog_20_method_49_code
def yJ6_bitCount_0f7a4 : MethodName := ⟨RJ6, "bitCount", "(I)I"⟩
def RJ9 : String := "java/lang/Math"
def TJ9 : u_T := fun k => match k with
  | _ => ("", "", "", false)
def tyJ9 : Nat → FieldType := fun k => match k with
  | _ => .int
abbrev wsJ90 : List Cond := u_ws RJ9 TJ9 0
theorem nmJ9 : ∀ a, a < 0 → ∀ b, b < 0 → a ≠ b → (TJ9 a).2.1 ≠ (TJ9 b).2.1 := by decide +kernel
theorem tyJ9_ok : ∀ k, k < 0 → parseFieldDescriptor (TJ9 k).2.2.1 = some (tyJ9 k) := by decide +kernel
abbrev cJ9_abs_0f7a4 : ByteArray := prog_21_method_59_code
def yJ9_abs_0f7a4 : MethodName := ⟨RJ9, "abs", "(I)I"⟩
abbrev cJ9_max_7cf53 : ByteArray := prog_21_method_65_code
def yJ9_max_7cf53 : MethodName := ⟨RJ9, "max", "(II)I"⟩
abbrev cJ9_max_f86c9 : ByteArray := prog_21_method_66_code
def yJ9_max_f86c9 : MethodName := ⟨RJ9, "max", "(JJ)J"⟩
abbrev cJ9_min_7cf53 : ByteArray := prog_21_method_69_code
def yJ9_min_7cf53 : MethodName := ⟨RJ9, "min", "(II)I"⟩
abbrev cJ9_min_f86c9 : ByteArray := prog_21_method_70_code
def yJ9_min_f86c9 : MethodName := ⟨RJ9, "min", "(JJ)J"⟩
def RJ0 : String := "java/lang/String"
def TJ0 : u_T := fun k => match k with
  | _ => ("", "", "", false)
def tyJ0 : Nat → FieldType := fun k => match k with
  | _ => .int
abbrev wsJ00 : List Cond := u_ws RJ0 TJ0 0
theorem nmJ0 : ∀ a, a < 0 → ∀ b, b < 0 → a ≠ b → (TJ0 a).2.1 ≠ (TJ0 b).2.1 := by decide +kernel
theorem tyJ0_ok : ∀ k, k < 0 → parseFieldDescriptor (TJ0 k).2.2.1 = some (tyJ0 k) := by decide +kernel
abbrev cJ0_length_8abf5 : ByteArray := prog_23_method_54_code
def yJ0_length_8abf5 : MethodName := ⟨RJ0, "length", "()I"⟩
abbrev cJ0_indexOf_0f7a4 : ByteArray := prog_23_method_79_code
def yJ0_indexOf_0f7a4 : MethodName := ⟨RJ0, "indexOf", "(I)I"⟩
abbrev cJ0_indexOf_7cf53 : ByteArray := prog_23_method_80_code
def yJ0_indexOf_7cf53 : MethodName := ⟨RJ0, "indexOf", "(II)I"⟩
abbrev cJ0_coder_7d493 : ByteArray := prog_23_method_152_code
def yJ0_coder_7d493 : MethodName := ⟨RJ0, "coder", "()B"⟩
abbrev cJ0_isLatin1_aae02 : ByteArray := prog_23_method_154_code
def yJ0_isLatin1_aae02 : MethodName := ⟨RJ0, "isLatin1", "()Z"⟩
abbrev cJ0_checkBoundsBeginEnd_23922 : ByteArray := prog_23_method_158_code
def yJ0_checkBoundsBeginEnd_23922 : MethodName := ⟨RJ0, "checkBoundsBeginEnd", "(III)V"⟩
def RJ1 : String := "java/lang/StringLatin1"
def TJ1 : u_T := fun k => match k with
  | _ => ("", "", "", false)
def tyJ1 : Nat → FieldType := fun k => match k with
  | _ => .int
abbrev wsJ10 : List Cond := u_ws RJ1 TJ1 0
theorem nmJ1 : ∀ a, a < 0 → ∀ b, b < 0 → a ≠ b → (TJ1 a).2.1 ≠ (TJ1 b).2.1 := by decide +kernel
theorem tyJ1_ok : ∀ k, k < 0 → parseFieldDescriptor (TJ1 k).2.2.1 = some (tyJ1 k) := by decide +kernel
abbrev cJ1_canEncode_9a6ad : ByteArray := prog_24_method_4_code
def yJ1_canEncode_9a6ad : MethodName := ⟨RJ1, "canEncode", "(I)Z"⟩
abbrev cJ1_indexOf_4cfef : ByteArray := prog_24_method_22_code
def yJ1_indexOf_4cfef : MethodName := ⟨RJ1, "indexOf", "([BIII)I"⟩
abbrev cJ1_indexOfChar_4cfef : ByteArray := prog_24_method_23_code
def yJ1_indexOfChar_4cfef : MethodName := ⟨RJ1, "indexOfChar", "([BIII)I"⟩
def RJ2 : String := "java/lang/StringUTF16"
def TJ2 : u_T := fun k => match k with
  | _ => ("", "", "", false)
def tyJ2 : Nat → FieldType := fun k => match k with
  | _ => .int
abbrev wsJ20 : List Cond := u_ws RJ2 TJ2 0
theorem nmJ2 : ∀ a, a < 0 → ∀ b, b < 0 → a ≠ b → (TJ2 a).2.1 ≠ (TJ2 b).2.1 := by decide +kernel
theorem tyJ2_ok : ∀ k, k < 0 → parseFieldDescriptor (TJ2 k).2.2.1 = some (tyJ2 k) := by decide +kernel
abbrev cJ2_getChar_3b067 : ByteArray := prog_25_method_5_code
def yJ2_getChar_3b067 : MethodName := ⟨RJ2, "getChar", "([BI)C"⟩
abbrev cJ2_length_9d52b : ByteArray := prog_25_method_6_code
def yJ2_length_9d52b : MethodName := ⟨RJ2, "length", "([B)I"⟩
abbrev cJ2_indexOf_4cfef : ByteArray := prog_25_method_40_code
def yJ2_indexOf_4cfef : MethodName := ⟨RJ2, "indexOf", "([BIII)I"⟩
abbrev cJ2_indexOfChar_4cfef : ByteArray := prog_25_method_47_code
def yJ2_indexOfChar_4cfef : MethodName := ⟨RJ2, "indexOfChar", "([BIII)I"⟩
abbrev cJ2_indexOfCharUnsafe_4cfef : ByteArray := prog_25_method_48_code
def yJ2_indexOfCharUnsafe_4cfef : MethodName := ⟨RJ2, "indexOfCharUnsafe", "([BIII)I"⟩
abbrev cJ2_indexOfSupplementary_4cfef : ByteArray := prog_25_method_49_code
def yJ2_indexOfSupplementary_4cfef : MethodName := ⟨RJ2, "indexOfSupplementary", "([BIII)I"⟩
abbrev cJ2_checkBoundsBeginEnd_d044e : ByteArray := prog_25_method_93_code
def yJ2_checkBoundsBeginEnd_d044e : MethodName := ⟨RJ2, "checkBoundsBeginEnd", "(II[B)V"⟩
def RJ10 : String := "java/lang/System"
def TJ10 : u_T := fun k => match k with
  | _ => ("", "", "", false)
def tyJ10 : Nat → FieldType := fun k => match k with
  | _ => .int
abbrev wsJ100 : List Cond := u_ws RJ10 TJ10 0
theorem nmJ10 : ∀ a, a < 0 → ∀ b, b < 0 → a ≠ b → (TJ10 a).2.1 ≠ (TJ10 b).2.1 := by decide +kernel
theorem tyJ10_ok : ∀ k, k < 0 → parseFieldDescriptor (TJ10 k).2.2.1 = some (tyJ10 k) := by decide +kernel
def RJxfd54e : String := "java/lang/constant/Constable"
def TJxfd54e : u_T := fun k => match k with
  | _ => ("", "", "", false)
def tyJxfd54e : Nat → FieldType := fun k => match k with
  | _ => .int
abbrev wsJxfd54e0 : List Cond := u_ws RJxfd54e TJxfd54e 0
theorem nmJxfd54e : ∀ a, a < 0 → ∀ b, b < 0 → a ≠ b → (TJxfd54e a).2.1 ≠ (TJxfd54e b).2.1 := by decide +kernel
theorem tyJxfd54e_ok : ∀ k, k < 0 → parseFieldDescriptor (TJxfd54e k).2.2.1 = some (tyJxfd54e k) := by decide +kernel
def RJx3cf43 : String := "java/lang/constant/ConstantDesc"
def TJx3cf43 : u_T := fun k => match k with
  | _ => ("", "", "", false)
def tyJx3cf43 : Nat → FieldType := fun k => match k with
  | _ => .int
abbrev wsJx3cf430 : List Cond := u_ws RJx3cf43 TJx3cf43 0
theorem nmJx3cf43 : ∀ a, a < 0 → ∀ b, b < 0 → a ≠ b → (TJx3cf43 a).2.1 ≠ (TJx3cf43 b).2.1 := by decide +kernel
theorem tyJx3cf43_ok : ∀ k, k < 0 → parseFieldDescriptor (TJx3cf43 k).2.2.1 = some (tyJx3cf43 k) := by decide +kernel
def RJ7 : String := "java/util/Arrays"
def TJ7 : u_T := fun k => match k with
  | _ => ("", "", "", false)
def tyJ7 : Nat → FieldType := fun k => match k with
  | _ => .int
abbrev wsJ70 : List Cond := u_ws RJ7 TJ7 0
theorem nmJ7 : ∀ a, a < 0 → ∀ b, b < 0 → a ≠ b → (TJ7 a).2.1 ≠ (TJ7 b).2.1 := by decide +kernel
theorem tyJ7_ok : ∀ k, k < 0 → parseFieldDescriptor (TJ7 k).2.2.1 = some (tyJ7 k) := by decide +kernel
abbrev cJ7_fill_d0a16 : ByteArray := prog_30_method_101_code
def yJ7_fill_d0a16 : MethodName := ⟨RJ7, "fill", "([JJ)V"⟩
abbrev cJ7_fill_53178 : ByteArray := prog_30_method_103_code
def yJ7_fill_53178 : MethodName := ⟨RJ7, "fill", "([II)V"⟩
def RJ3 : String := "jdk/internal/util/Preconditions"
def TJ3 : u_T := fun k => match k with
  | _ => ("", "", "", false)
def tyJ3 : Nat → FieldType := fun k => match k with
  | _ => .int
abbrev wsJ30 : List Cond := u_ws RJ3 TJ3 0
theorem nmJ3 : ∀ a, a < 0 → ∀ b, b < 0 → a ≠ b → (TJ3 a).2.1 ≠ (TJ3 b).2.1 := by decide +kernel
theorem tyJ3_ok : ∀ k, k < 0 → parseFieldDescriptor (TJ3 k).2.2.1 = some (tyJ3 k) := by decide +kernel
abbrev cJ3_checkFromToIndex_8c36e : ByteArray := prog_32_method_12_code
def yJ3_checkFromToIndex_8c36e : MethodName := ⟨RJ3, "checkFromToIndex", "(IIILjava/util/function/BiFunction;)I"⟩
def RL : String := "ClosesAfterSeventhLaw"
abbrev cL_door : ByteArray := method_3_code
def yL_door : MethodName := ⟨RL, "door", "(LClosesAfterSeventh;II[J)I"⟩
abbrev cL_of : ByteArray := method_4_code
def yL_of : MethodName := ⟨RL, "of", "(LClosesAfterSeventh;II[J)I"⟩
abbrev cL_row : ByteArray := method_5_code
def yL_row : MethodName := ⟨RL, "row", "(LClosesAfterSeventh;I[J)I"⟩
abbrev cL_law : ByteArray := code
def yL_law : MethodName := ⟨RL, "law", "([I)Z"⟩
abbrev vwCl : List vw_C := [(RX0, TX0, 8), (RX1, TX1, 11), (RX2, TX2, 8), (RX3, TX3, 8), (RX4, TX4, 15), (RX5, TX5, 14), (RX6, TX6, 9), (RX7, TX7, 15), (RX8, TX8, 5), (RX9, TX9, 6), (RX10, TX10, 9), (RX11, TX11, 20), (RX12, TX12, 71)]
