section
-- ===== PART A: goes FIRST, ahead of the names: the tables' words, and 'selects' of the private methods out of them =====
/-- a private method of a class that the tables say can be made, by its rows of tables_1 -/
def lw_okq (q : MethodName × Nat) : Prop := (q.1.cls ≠ "java/lang/invoke/MethodHandle" ∧ q.1.cls ≠ "java/lang/invoke/VarHandle") ∧ Cond.instantiable q.1.cls q.2 ∈ tables_1 ∧ Cond.privateMethod q.1 ∈ tables_1 ∧ Cond.instanceMethod q.1 ∈ tables_1
theorem lw_p0 : lw_okq (⟨"java/lang/Throwable", "fillInStackTrace", "(I)Ljava/lang/Throwable;"⟩, 6) := ⟨⟨by decide +kernel, by decide +kernel⟩, List.mem_of_getElem? (i := 446) (by decide +kernel), List.mem_of_getElem? (i := 444) (by decide +kernel), List.mem_of_getElem? (i := 445) (by decide +kernel)⟩
theorem lw_p1 : lw_okq (⟨"BannerParade", "needLoaded", "()V"⟩, 8) := ⟨⟨by decide +kernel, by decide +kernel⟩, List.mem_of_getElem? (i := 28) (by decide +kernel), List.mem_of_getElem? (i := 684) (by decide +kernel), List.mem_of_getElem? (i := 685) (by decide +kernel)⟩
theorem lw_p2 : lw_okq (⟨"BannerParade", "standsWithReadWord", "()I"⟩, 8) := ⟨⟨by decide +kernel, by decide +kernel⟩, List.mem_of_getElem? (i := 28) (by decide +kernel), List.mem_of_getElem? (i := 715) (by decide +kernel), List.mem_of_getElem? (i := 716) (by decide +kernel)⟩
theorem lw_p3 : lw_okq (⟨"BannerParade", "standsThatSeeAny", "()I"⟩, 8) := ⟨⟨by decide +kernel, by decide +kernel⟩, List.mem_of_getElem? (i := 28) (by decide +kernel), List.mem_of_getElem? (i := 750) (by decide +kernel), List.mem_of_getElem? (i := 751) (by decide +kernel)⟩
theorem lw_p4 : lw_okq (⟨"BannerParade", "bearersSeenFrom", "(I)I"⟩, 8) := ⟨⟨by decide +kernel, by decide +kernel⟩, List.mem_of_getElem? (i := 28) (by decide +kernel), List.mem_of_getElem? (i := 754) (by decide +kernel), List.mem_of_getElem? (i := 755) (by decide +kernel)⟩
theorem lw_p5 : lw_okq (⟨"BannerParade", "needBearer", "(I)V"⟩, 8) := ⟨⟨by decide +kernel, by decide +kernel⟩, List.mem_of_getElem? (i := 28) (by decide +kernel), List.mem_of_getElem? (i := 779) (by decide +kernel), List.mem_of_getElem? (i := 780) (by decide +kernel)⟩
theorem lw_p6 : lw_okq (⟨"BannerParade", "standsThatSee", "(I)I"⟩, 8) := ⟨⟨by decide +kernel, by decide +kernel⟩, List.mem_of_getElem? (i := 28) (by decide +kernel), List.mem_of_getElem? (i := 789) (by decide +kernel), List.mem_of_getElem? (i := 790) (by decide +kernel)⟩
theorem lw_p7 : lw_okq (⟨"BannerParade", "needStand", "(I)V"⟩, 8) := ⟨⟨by decide +kernel, by decide +kernel⟩, List.mem_of_getElem? (i := 28) (by decide +kernel), List.mem_of_getElem? (i := 808) (by decide +kernel), List.mem_of_getElem? (i := 809) (by decide +kernel)⟩
theorem lw_p8 : lw_okq (⟨"BannerParade", "readNow", "(I)LBannerParade$Reading;"⟩, 8) := ⟨⟨by decide +kernel, by decide +kernel⟩, List.mem_of_getElem? (i := 28) (by decide +kernel), List.mem_of_getElem? (i := 812) (by decide +kernel), List.mem_of_getElem? (i := 813) (by decide +kernel)⟩
theorem lw_p9 : lw_okq (⟨"BannerParade", "readLater", "(I)LBannerParade$Reading;"⟩, 8) := ⟨⟨by decide +kernel, by decide +kernel⟩, List.mem_of_getElem? (i := 28) (by decide +kernel), List.mem_of_getElem? (i := 1102) (by decide +kernel), List.mem_of_getElem? (i := 1103) (by decide +kernel)⟩
theorem lw_p10 : lw_okq (⟨"BannerParade", "foresee", "(I)V"⟩, 8) := ⟨⟨by decide +kernel, by decide +kernel⟩, List.mem_of_getElem? (i := 28) (by decide +kernel), List.mem_of_getElem? (i := 1180) (by decide +kernel), List.mem_of_getElem? (i := 1181) (by decide +kernel)⟩
theorem lw_p11 : lw_okq (⟨"BannerParade", "ticksToDrop", "(I)I"⟩, 8) := ⟨⟨by decide +kernel, by decide +kernel⟩, List.mem_of_getElem? (i := 28) (by decide +kernel), List.mem_of_getElem? (i := 1212) (by decide +kernel), List.mem_of_getElem? (i := 1213) (by decide +kernel)⟩
theorem lw_p12 : lw_okq (⟨"BannerParade", "readWords", "()V"⟩, 8) := ⟨⟨by decide +kernel, by decide +kernel⟩, List.mem_of_getElem? (i := 28) (by decide +kernel), List.mem_of_getElem? (i := 1305) (by decide +kernel), List.mem_of_getElem? (i := 1306) (by decide +kernel)⟩
theorem lw_p13 : lw_okq (⟨"BannerParadeModel", "four", "(I)V"⟩, 22) := ⟨⟨by decide +kernel, by decide +kernel⟩, List.mem_of_getElem? (i := 1410) (by decide +kernel), List.mem_of_getElem? (i := 1491) (by decide +kernel), List.mem_of_getElem? (i := 1492) (by decide +kernel)⟩
theorem lw_p14 : lw_okq (⟨"BannerParadeModel", "may", "(ZZZ)Z"⟩, 22) := ⟨⟨by decide +kernel, by decide +kernel⟩, List.mem_of_getElem? (i := 1410) (by decide +kernel), List.mem_of_getElem? (i := 1514) (by decide +kernel), List.mem_of_getElem? (i := 1515) (by decide +kernel)⟩
theorem lw_p15 : lw_okq (⟨"BannerParadeModel", "reads", "()V"⟩, 22) := ⟨⟨by decide +kernel, by decide +kernel⟩, List.mem_of_getElem? (i := 1410) (by decide +kernel), List.mem_of_getElem? (i := 1521) (by decide +kernel), List.mem_of_getElem? (i := 1522) (by decide +kernel)⟩
def lw_privs_1 : List (MethodName × Nat) := [(⟨"java/lang/Throwable", "fillInStackTrace", "(I)Ljava/lang/Throwable;"⟩, 6), (⟨"BannerParade", "needLoaded", "()V"⟩, 8), (⟨"BannerParade", "standsWithReadWord", "()I"⟩, 8), (⟨"BannerParade", "standsThatSeeAny", "()I"⟩, 8), (⟨"BannerParade", "bearersSeenFrom", "(I)I"⟩, 8), (⟨"BannerParade", "needBearer", "(I)V"⟩, 8), (⟨"BannerParade", "standsThatSee", "(I)I"⟩, 8), (⟨"BannerParade", "needStand", "(I)V"⟩, 8), (⟨"BannerParade", "readNow", "(I)LBannerParade$Reading;"⟩, 8), (⟨"BannerParade", "readLater", "(I)LBannerParade$Reading;"⟩, 8), (⟨"BannerParade", "foresee", "(I)V"⟩, 8), (⟨"BannerParade", "ticksToDrop", "(I)I"⟩, 8), (⟨"BannerParade", "readWords", "()V"⟩, 8), (⟨"BannerParadeModel", "four", "(I)V"⟩, 22), (⟨"BannerParadeModel", "may", "(ZZZ)Z"⟩, 22), (⟨"BannerParadeModel", "reads", "()V"⟩, 22)]
theorem lw_r1 : ∀ q ∈ lw_privs_1, lw_okq q := List.forall_mem_cons.mpr ⟨lw_p0, List.forall_mem_cons.mpr ⟨lw_p1, List.forall_mem_cons.mpr ⟨lw_p2, List.forall_mem_cons.mpr ⟨lw_p3, List.forall_mem_cons.mpr ⟨lw_p4, List.forall_mem_cons.mpr ⟨lw_p5, List.forall_mem_cons.mpr ⟨lw_p6, List.forall_mem_cons.mpr ⟨lw_p7, List.forall_mem_cons.mpr ⟨lw_p8, List.forall_mem_cons.mpr ⟨lw_p9, List.forall_mem_cons.mpr ⟨lw_p10, List.forall_mem_cons.mpr ⟨lw_p11, List.forall_mem_cons.mpr ⟨lw_p12, List.forall_mem_cons.mpr ⟨lw_p13, List.forall_mem_cons.mpr ⟨lw_p14, List.forall_mem_cons.mpr ⟨lw_p15, fun _ h => absurd h List.not_mem_nil⟩⟩⟩⟩⟩⟩⟩⟩⟩⟩⟩⟩⟩⟩⟩⟩
theorem lw_p16 : lw_okq (⟨"BannerParadeModel", "next", "()V"⟩, 22) := ⟨⟨by decide +kernel, by decide +kernel⟩, List.mem_of_getElem? (i := 1410) (by decide +kernel), List.mem_of_getElem? (i := 1525) (by decide +kernel), List.mem_of_getElem? (i := 1526) (by decide +kernel)⟩
theorem lw_p17 : lw_okq (⟨"BannerParadeModel", "isLetter", "(I)Z"⟩, 22) := ⟨⟨by decide +kernel, by decide +kernel⟩, List.mem_of_getElem? (i := 1410) (by decide +kernel), List.mem_of_getElem? (i := 1529) (by decide +kernel), List.mem_of_getElem? (i := 1530) (by decide +kernel)⟩
theorem lw_p18 : lw_okq (⟨"BannerParadeModel", "isDigit", "(I)Z"⟩, 22) := ⟨⟨by decide +kernel, by decide +kernel⟩, List.mem_of_getElem? (i := 1410) (by decide +kernel), List.mem_of_getElem? (i := 1533) (by decide +kernel), List.mem_of_getElem? (i := 1534) (by decide +kernel)⟩
theorem lw_p19 : lw_okq (⟨"BannerParadeModel", "takes", "(Ljava/lang/String;)V"⟩, 22) := ⟨⟨by decide +kernel, by decide +kernel⟩, List.mem_of_getElem? (i := 1410) (by decide +kernel), List.mem_of_getElem? (i := 1538) (by decide +kernel), List.mem_of_getElem? (i := 1539) (by decide +kernel)⟩
theorem lw_p20 : lw_okq (⟨"BannerParadeModel", "isWord", "(Ljava/lang/String;)Z"⟩, 22) := ⟨⟨by decide +kernel, by decide +kernel⟩, List.mem_of_getElem? (i := 1410) (by decide +kernel), List.mem_of_getElem? (i := 1542) (by decide +kernel), List.mem_of_getElem? (i := 1543) (by decide +kernel)⟩
theorem lw_p21 : lw_okq (⟨"BannerParadeModel", "is", "(I)Z"⟩, 22) := ⟨⟨by decide +kernel, by decide +kernel⟩, List.mem_of_getElem? (i := 1410) (by decide +kernel), List.mem_of_getElem? (i := 1546) (by decide +kernel), List.mem_of_getElem? (i := 1547) (by decide +kernel)⟩
theorem lw_p22 : lw_okq (⟨"BannerParadeModel", "faults", "(I)V"⟩, 22) := ⟨⟨by decide +kernel, by decide +kernel⟩, List.mem_of_getElem? (i := 1410) (by decide +kernel), List.mem_of_getElem? (i := 1552) (by decide +kernel), List.mem_of_getElem? (i := 1553) (by decide +kernel)⟩
theorem lw_p23 : lw_okq (⟨"BannerParadeModel", "number", "(II)I"⟩, 22) := ⟨⟨by decide +kernel, by decide +kernel⟩, List.mem_of_getElem? (i := 1410) (by decide +kernel), List.mem_of_getElem? (i := 1562) (by decide +kernel), List.mem_of_getElem? (i := 1563) (by decide +kernel)⟩
theorem lw_p24 : lw_okq (⟨"BannerParadeModel", "readsBearer", "()V"⟩, 22) := ⟨⟨by decide +kernel, by decide +kernel⟩, List.mem_of_getElem? (i := 1410) (by decide +kernel), List.mem_of_getElem? (i := 1567) (by decide +kernel), List.mem_of_getElem? (i := 1568) (by decide +kernel)⟩
theorem lw_p25 : lw_okq (⟨"BannerParadeModel", "begins", "(II)Z"⟩, 22) := ⟨⟨by decide +kernel, by decide +kernel⟩, List.mem_of_getElem? (i := 1410) (by decide +kernel), List.mem_of_getElem? (i := 1571) (by decide +kernel), List.mem_of_getElem? (i := 1572) (by decide +kernel)⟩
theorem lw_p26 : lw_okq (⟨"BannerParadeModel", "letterHere", "()I"⟩, 22) := ⟨⟨by decide +kernel, by decide +kernel⟩, List.mem_of_getElem? (i := 1410) (by decide +kernel), List.mem_of_getElem? (i := 1575) (by decide +kernel), List.mem_of_getElem? (i := 1576) (by decide +kernel)⟩
theorem lw_p27 : lw_okq (⟨"BannerParadeModel", "put", "(III)V"⟩, 22) := ⟨⟨by decide +kernel, by decide +kernel⟩, List.mem_of_getElem? (i := 1410) (by decide +kernel), List.mem_of_getElem? (i := 1579) (by decide +kernel), List.mem_of_getElem? (i := 1580) (by decide +kernel)⟩
theorem lw_p28 : lw_okq (⟨"BannerParadeModel", "readsStand", "()V"⟩, 22) := ⟨⟨by decide +kernel, by decide +kernel⟩, List.mem_of_getElem? (i := 1410) (by decide +kernel), List.mem_of_getElem? (i := 1584) (by decide +kernel), List.mem_of_getElem? (i := 1585) (by decide +kernel)⟩
theorem lw_p29 : lw_okq (⟨"BannerParadeModel", "putStand", "(III)V"⟩, 22) := ⟨⟨by decide +kernel, by decide +kernel⟩, List.mem_of_getElem? (i := 1410) (by decide +kernel), List.mem_of_getElem? (i := 1590) (by decide +kernel), List.mem_of_getElem? (i := 1591) (by decide +kernel)⟩
theorem lw_p30 : lw_okq (⟨"BannerParadeModel", "readsPlan", "()V"⟩, 22) := ⟨⟨by decide +kernel, by decide +kernel⟩, List.mem_of_getElem? (i := 1410) (by decide +kernel), List.mem_of_getElem? (i := 1595) (by decide +kernel), List.mem_of_getElem? (i := 1596) (by decide +kernel)⟩
theorem lw_p31 : lw_okq (⟨"BannerParadeModel", "laysPlan", "(II)V"⟩, 22) := ⟨⟨by decide +kernel, by decide +kernel⟩, List.mem_of_getElem? (i := 1410) (by decide +kernel), List.mem_of_getElem? (i := 1599) (by decide +kernel), List.mem_of_getElem? (i := 1600) (by decide +kernel)⟩
def lw_privs_2 : List (MethodName × Nat) := [(⟨"BannerParadeModel", "next", "()V"⟩, 22), (⟨"BannerParadeModel", "isLetter", "(I)Z"⟩, 22), (⟨"BannerParadeModel", "isDigit", "(I)Z"⟩, 22), (⟨"BannerParadeModel", "takes", "(Ljava/lang/String;)V"⟩, 22), (⟨"BannerParadeModel", "isWord", "(Ljava/lang/String;)Z"⟩, 22), (⟨"BannerParadeModel", "is", "(I)Z"⟩, 22), (⟨"BannerParadeModel", "faults", "(I)V"⟩, 22), (⟨"BannerParadeModel", "number", "(II)I"⟩, 22), (⟨"BannerParadeModel", "readsBearer", "()V"⟩, 22), (⟨"BannerParadeModel", "begins", "(II)Z"⟩, 22), (⟨"BannerParadeModel", "letterHere", "()I"⟩, 22), (⟨"BannerParadeModel", "put", "(III)V"⟩, 22), (⟨"BannerParadeModel", "readsStand", "()V"⟩, 22), (⟨"BannerParadeModel", "putStand", "(III)V"⟩, 22), (⟨"BannerParadeModel", "readsPlan", "()V"⟩, 22), (⟨"BannerParadeModel", "laysPlan", "(II)V"⟩, 22)]
theorem lw_r2 : ∀ q ∈ lw_privs_2, lw_okq q := List.forall_mem_cons.mpr ⟨lw_p16, List.forall_mem_cons.mpr ⟨lw_p17, List.forall_mem_cons.mpr ⟨lw_p18, List.forall_mem_cons.mpr ⟨lw_p19, List.forall_mem_cons.mpr ⟨lw_p20, List.forall_mem_cons.mpr ⟨lw_p21, List.forall_mem_cons.mpr ⟨lw_p22, List.forall_mem_cons.mpr ⟨lw_p23, List.forall_mem_cons.mpr ⟨lw_p24, List.forall_mem_cons.mpr ⟨lw_p25, List.forall_mem_cons.mpr ⟨lw_p26, List.forall_mem_cons.mpr ⟨lw_p27, List.forall_mem_cons.mpr ⟨lw_p28, List.forall_mem_cons.mpr ⟨lw_p29, List.forall_mem_cons.mpr ⟨lw_p30, List.forall_mem_cons.mpr ⟨lw_p31, fun _ h => absurd h List.not_mem_nil⟩⟩⟩⟩⟩⟩⟩⟩⟩⟩⟩⟩⟩⟩⟩⟩
theorem lw_p32 : lw_okq (⟨"BannerParadeModel", "mayTwo", "(ZZ)Z"⟩, 22) := ⟨⟨by decide +kernel, by decide +kernel⟩, List.mem_of_getElem? (i := 1410) (by decide +kernel), List.mem_of_getElem? (i := 1607) (by decide +kernel), List.mem_of_getElem? (i := 1608) (by decide +kernel)⟩
theorem lw_p33 : lw_okq (⟨"BannerParadeModel", "carried", "()I"⟩, 22) := ⟨⟨by decide +kernel, by decide +kernel⟩, List.mem_of_getElem? (i := 1410) (by decide +kernel), List.mem_of_getElem? (i := 1611) (by decide +kernel), List.mem_of_getElem? (i := 1612) (by decide +kernel)⟩
theorem lw_p34 : lw_okq (⟨"BannerParadeModel", "of", "(II)I"⟩, 22) := ⟨⟨by decide +kernel, by decide +kernel⟩, List.mem_of_getElem? (i := 1410) (by decide +kernel), List.mem_of_getElem? (i := 1615) (by decide +kernel), List.mem_of_getElem? (i := 1616) (by decide +kernel)⟩
theorem lw_p35 : lw_okq (⟨"BannerParadeModel", "readMany", "()I"⟩, 22) := ⟨⟨by decide +kernel, by decide +kernel⟩, List.mem_of_getElem? (i := 1410) (by decide +kernel), List.mem_of_getElem? (i := 1619) (by decide +kernel), List.mem_of_getElem? (i := 1620) (by decide +kernel)⟩
theorem lw_p36 : lw_okq (⟨"BannerParadeModel", "ofStand", "(II)I"⟩, 22) := ⟨⟨by decide +kernel, by decide +kernel⟩, List.mem_of_getElem? (i := 1410) (by decide +kernel), List.mem_of_getElem? (i := 1623) (by decide +kernel), List.mem_of_getElem? (i := 1624) (by decide +kernel)⟩
theorem lw_p37 : lw_okq (⟨"BannerParadeModel", "coming", "()I"⟩, 22) := ⟨⟨by decide +kernel, by decide +kernel⟩, List.mem_of_getElem? (i := 1410) (by decide +kernel), List.mem_of_getElem? (i := 1627) (by decide +kernel), List.mem_of_getElem? (i := 1628) (by decide +kernel)⟩
theorem lw_p38 : lw_okq (⟨"BannerParadeModel", "ofPlan", "(II)I"⟩, 22) := ⟨⟨by decide +kernel, by decide +kernel⟩, List.mem_of_getElem? (i := 1410) (by decide +kernel), List.mem_of_getElem? (i := 1631) (by decide +kernel), List.mem_of_getElem? (i := 1632) (by decide +kernel)⟩
theorem lw_p39 : lw_okq (⟨"BannerParadeModel", "withoutStrength", "()I"⟩, 22) := ⟨⟨by decide +kernel, by decide +kernel⟩, List.mem_of_getElem? (i := 1410) (by decide +kernel), List.mem_of_getElem? (i := 1635) (by decide +kernel), List.mem_of_getElem? (i := 1636) (by decide +kernel)⟩
theorem lw_p40 : lw_okq (⟨"BannerParadeModel", "withOwn", "()I"⟩, 22) := ⟨⟨by decide +kernel, by decide +kernel⟩, List.mem_of_getElem? (i := 1410) (by decide +kernel), List.mem_of_getElem? (i := 1639) (by decide +kernel), List.mem_of_getElem? (i := 1640) (by decide +kernel)⟩
theorem lw_p41 : lw_okq (⟨"BannerParadeModel", "close", "()I"⟩, 22) := ⟨⟨by decide +kernel, by decide +kernel⟩, List.mem_of_getElem? (i := 1410) (by decide +kernel), List.mem_of_getElem? (i := 1643) (by decide +kernel), List.mem_of_getElem? (i := 1644) (by decide +kernel)⟩
theorem lw_p42 : lw_okq (⟨"BannerParadeModel", "distance", "(I)I"⟩, 22) := ⟨⟨by decide +kernel, by decide +kernel⟩, List.mem_of_getElem? (i := 1410) (by decide +kernel), List.mem_of_getElem? (i := 1647) (by decide +kernel), List.mem_of_getElem? (i := 1648) (by decide +kernel)⟩
theorem lw_p43 : lw_okq (⟨"BannerParadeModel", "strides", "()I"⟩, 22) := ⟨⟨by decide +kernel, by decide +kernel⟩, List.mem_of_getElem? (i := 1410) (by decide +kernel), List.mem_of_getElem? (i := 1651) (by decide +kernel), List.mem_of_getElem? (i := 1652) (by decide +kernel)⟩
theorem lw_p44 : lw_okq (⟨"BannerParadeModel", "stride", "(I)I"⟩, 22) := ⟨⟨by decide +kernel, by decide +kernel⟩, List.mem_of_getElem? (i := 1410) (by decide +kernel), List.mem_of_getElem? (i := 1655) (by decide +kernel), List.mem_of_getElem? (i := 1656) (by decide +kernel)⟩
theorem lw_p45 : lw_okq (⟨"BannerParadeModel", "seeing", "()I"⟩, 22) := ⟨⟨by decide +kernel, by decide +kernel⟩, List.mem_of_getElem? (i := 1410) (by decide +kernel), List.mem_of_getElem? (i := 1660) (by decide +kernel), List.mem_of_getElem? (i := 1661) (by decide +kernel)⟩
theorem lw_p46 : lw_okq (⟨"BannerParadeModel", "seenSet", "(I)I"⟩, 22) := ⟨⟨by decide +kernel, by decide +kernel⟩, List.mem_of_getElem? (i := 1410) (by decide +kernel), List.mem_of_getElem? (i := 1664) (by decide +kernel), List.mem_of_getElem? (i := 1665) (by decide +kernel)⟩
theorem lw_p47 : lw_okq (⟨"BannerParadeModel", "sees", "(II)Z"⟩, 22) := ⟨⟨by decide +kernel, by decide +kernel⟩, List.mem_of_getElem? (i := 1410) (by decide +kernel), List.mem_of_getElem? (i := 1668) (by decide +kernel), List.mem_of_getElem? (i := 1669) (by decide +kernel)⟩
def lw_privs_3 : List (MethodName × Nat) := [(⟨"BannerParadeModel", "mayTwo", "(ZZ)Z"⟩, 22), (⟨"BannerParadeModel", "carried", "()I"⟩, 22), (⟨"BannerParadeModel", "of", "(II)I"⟩, 22), (⟨"BannerParadeModel", "readMany", "()I"⟩, 22), (⟨"BannerParadeModel", "ofStand", "(II)I"⟩, 22), (⟨"BannerParadeModel", "coming", "()I"⟩, 22), (⟨"BannerParadeModel", "ofPlan", "(II)I"⟩, 22), (⟨"BannerParadeModel", "withoutStrength", "()I"⟩, 22), (⟨"BannerParadeModel", "withOwn", "()I"⟩, 22), (⟨"BannerParadeModel", "close", "()I"⟩, 22), (⟨"BannerParadeModel", "distance", "(I)I"⟩, 22), (⟨"BannerParadeModel", "strides", "()I"⟩, 22), (⟨"BannerParadeModel", "stride", "(I)I"⟩, 22), (⟨"BannerParadeModel", "seeing", "()I"⟩, 22), (⟨"BannerParadeModel", "seenSet", "(I)I"⟩, 22), (⟨"BannerParadeModel", "sees", "(II)Z"⟩, 22)]
theorem lw_r3 : ∀ q ∈ lw_privs_3, lw_okq q := List.forall_mem_cons.mpr ⟨lw_p32, List.forall_mem_cons.mpr ⟨lw_p33, List.forall_mem_cons.mpr ⟨lw_p34, List.forall_mem_cons.mpr ⟨lw_p35, List.forall_mem_cons.mpr ⟨lw_p36, List.forall_mem_cons.mpr ⟨lw_p37, List.forall_mem_cons.mpr ⟨lw_p38, List.forall_mem_cons.mpr ⟨lw_p39, List.forall_mem_cons.mpr ⟨lw_p40, List.forall_mem_cons.mpr ⟨lw_p41, List.forall_mem_cons.mpr ⟨lw_p42, List.forall_mem_cons.mpr ⟨lw_p43, List.forall_mem_cons.mpr ⟨lw_p44, List.forall_mem_cons.mpr ⟨lw_p45, List.forall_mem_cons.mpr ⟨lw_p46, List.forall_mem_cons.mpr ⟨lw_p47, fun _ h => absurd h List.not_mem_nil⟩⟩⟩⟩⟩⟩⟩⟩⟩⟩⟩⟩⟩⟩⟩⟩
theorem lw_p48 : lw_okq (⟨"BannerParadeModel", "mayWith", "(IZ)Z"⟩, 22) := ⟨⟨by decide +kernel, by decide +kernel⟩, List.mem_of_getElem? (i := 1410) (by decide +kernel), List.mem_of_getElem? (i := 1681) (by decide +kernel), List.mem_of_getElem? (i := 1682) (by decide +kernel)⟩
theorem lw_p49 : lw_okq (⟨"BannerParadeModel", "isBearer", "(I)Z"⟩, 22) := ⟨⟨by decide +kernel, by decide +kernel⟩, List.mem_of_getElem? (i := 1410) (by decide +kernel), List.mem_of_getElem? (i := 1685) (by decide +kernel), List.mem_of_getElem? (i := 1686) (by decide +kernel)⟩
theorem lw_p50 : lw_okq (⟨"BannerParadeModel", "seersOf", "(I)I"⟩, 22) := ⟨⟨by decide +kernel, by decide +kernel⟩, List.mem_of_getElem? (i := 1410) (by decide +kernel), List.mem_of_getElem? (i := 1689) (by decide +kernel), List.mem_of_getElem? (i := 1690) (by decide +kernel)⟩
theorem lw_p51 : lw_okq (⟨"BannerParadeModel", "weaker", "(I)I"⟩, 22) := ⟨⟨by decide +kernel, by decide +kernel⟩, List.mem_of_getElem? (i := 1410) (by decide +kernel), List.mem_of_getElem? (i := 1693) (by decide +kernel), List.mem_of_getElem? (i := 1694) (by decide +kernel)⟩
theorem lw_p52 : lw_okq (⟨"BannerParadeModel", "lyingIn", "(II)I"⟩, 22) := ⟨⟨by decide +kernel, by decide +kernel⟩, List.mem_of_getElem? (i := 1410) (by decide +kernel), List.mem_of_getElem? (i := 1697) (by decide +kernel), List.mem_of_getElem? (i := 1698) (by decide +kernel)⟩
theorem lw_p53 : lw_okq (⟨"BannerParadeModel", "ofLying", "(II)I"⟩, 22) := ⟨⟨by decide +kernel, by decide +kernel⟩, List.mem_of_getElem? (i := 1410) (by decide +kernel), List.mem_of_getElem? (i := 1701) (by decide +kernel), List.mem_of_getElem? (i := 1702) (by decide +kernel)⟩
theorem lw_p54 : lw_okq (⟨"BannerParadeModel", "isStand", "(I)Z"⟩, 22) := ⟨⟨by decide +kernel, by decide +kernel⟩, List.mem_of_getElem? (i := 1410) (by decide +kernel), List.mem_of_getElem? (i := 1709) (by decide +kernel), List.mem_of_getElem? (i := 1710) (by decide +kernel)⟩
theorem lw_p55 : lw_okq (⟨"BannerParadeModel", "textLength", "(I)I"⟩, 22) := ⟨⟨by decide +kernel, by decide +kernel⟩, List.mem_of_getElem? (i := 1410) (by decide +kernel), List.mem_of_getElem? (i := 1716) (by decide +kernel), List.mem_of_getElem? (i := 1717) (by decide +kernel)⟩
theorem lw_p56 : lw_okq (⟨"BannerParadeModel", "laysText", "(I)V"⟩, 22) := ⟨⟨by decide +kernel, by decide +kernel⟩, List.mem_of_getElem? (i := 1410) (by decide +kernel), List.mem_of_getElem? (i := 1720) (by decide +kernel), List.mem_of_getElem? (i := 1721) (by decide +kernel)⟩
theorem lw_p57 : lw_okq (⟨"BannerParadeModel", "laysByte", "(I)V"⟩, 22) := ⟨⟨by decide +kernel, by decide +kernel⟩, List.mem_of_getElem? (i := 1410) (by decide +kernel), List.mem_of_getElem? (i := 1724) (by decide +kernel), List.mem_of_getElem? (i := 1725) (by decide +kernel)⟩
theorem lw_p58 : lw_okq (⟨"BannerParadeModel", "nearest", "(I)I"⟩, 22) := ⟨⟨by decide +kernel, by decide +kernel⟩, List.mem_of_getElem? (i := 1410) (by decide +kernel), List.mem_of_getElem? (i := 1728) (by decide +kernel), List.mem_of_getElem? (i := 1729) (by decide +kernel)⟩
theorem lw_p59 : lw_okq (⟨"BannerParadeModel", "beyond", "(I)I"⟩, 22) := ⟨⟨by decide +kernel, by decide +kernel⟩, List.mem_of_getElem? (i := 1410) (by decide +kernel), List.mem_of_getElem? (i := 1733) (by decide +kernel), List.mem_of_getElem? (i := 1734) (by decide +kernel)⟩
theorem lw_p60 : lw_okq (⟨"BannerParadeModel", "ahead", "(I)I"⟩, 22) := ⟨⟨by decide +kernel, by decide +kernel⟩, List.mem_of_getElem? (i := 1410) (by decide +kernel), List.mem_of_getElem? (i := 1737) (by decide +kernel), List.mem_of_getElem? (i := 1738) (by decide +kernel)⟩
theorem lw_p61 : lw_okq (⟨"BannerParadeModel", "mayStand", "(I)Z"⟩, 22) := ⟨⟨by decide +kernel, by decide +kernel⟩, List.mem_of_getElem? (i := 1410) (by decide +kernel), List.mem_of_getElem? (i := 1753) (by decide +kernel), List.mem_of_getElem? (i := 1754) (by decide +kernel)⟩
theorem lw_p62 : lw_okq (⟨"BannerParadeModel", "matching", "(I)I"⟩, 22) := ⟨⟨by decide +kernel, by decide +kernel⟩, List.mem_of_getElem? (i := 1410) (by decide +kernel), List.mem_of_getElem? (i := 1769) (by decide +kernel), List.mem_of_getElem? (i := 1770) (by decide +kernel)⟩
theorem lw_p63 : lw_okq (⟨"BannerParadeModel", "readsWord", "(I)Z"⟩, 22) := ⟨⟨by decide +kernel, by decide +kernel⟩, List.mem_of_getElem? (i := 1410) (by decide +kernel), List.mem_of_getElem? (i := 1777) (by decide +kernel), List.mem_of_getElem? (i := 1778) (by decide +kernel)⟩
def lw_privs_4 : List (MethodName × Nat) := [(⟨"BannerParadeModel", "mayWith", "(IZ)Z"⟩, 22), (⟨"BannerParadeModel", "isBearer", "(I)Z"⟩, 22), (⟨"BannerParadeModel", "seersOf", "(I)I"⟩, 22), (⟨"BannerParadeModel", "weaker", "(I)I"⟩, 22), (⟨"BannerParadeModel", "lyingIn", "(II)I"⟩, 22), (⟨"BannerParadeModel", "ofLying", "(II)I"⟩, 22), (⟨"BannerParadeModel", "isStand", "(I)Z"⟩, 22), (⟨"BannerParadeModel", "textLength", "(I)I"⟩, 22), (⟨"BannerParadeModel", "laysText", "(I)V"⟩, 22), (⟨"BannerParadeModel", "laysByte", "(I)V"⟩, 22), (⟨"BannerParadeModel", "nearest", "(I)I"⟩, 22), (⟨"BannerParadeModel", "beyond", "(I)I"⟩, 22), (⟨"BannerParadeModel", "ahead", "(I)I"⟩, 22), (⟨"BannerParadeModel", "mayStand", "(I)Z"⟩, 22), (⟨"BannerParadeModel", "matching", "(I)I"⟩, 22), (⟨"BannerParadeModel", "readsWord", "(I)Z"⟩, 22)]
theorem lw_r4 : ∀ q ∈ lw_privs_4, lw_okq q := List.forall_mem_cons.mpr ⟨lw_p48, List.forall_mem_cons.mpr ⟨lw_p49, List.forall_mem_cons.mpr ⟨lw_p50, List.forall_mem_cons.mpr ⟨lw_p51, List.forall_mem_cons.mpr ⟨lw_p52, List.forall_mem_cons.mpr ⟨lw_p53, List.forall_mem_cons.mpr ⟨lw_p54, List.forall_mem_cons.mpr ⟨lw_p55, List.forall_mem_cons.mpr ⟨lw_p56, List.forall_mem_cons.mpr ⟨lw_p57, List.forall_mem_cons.mpr ⟨lw_p58, List.forall_mem_cons.mpr ⟨lw_p59, List.forall_mem_cons.mpr ⟨lw_p60, List.forall_mem_cons.mpr ⟨lw_p61, List.forall_mem_cons.mpr ⟨lw_p62, List.forall_mem_cons.mpr ⟨lw_p63, fun _ h => absurd h List.not_mem_nil⟩⟩⟩⟩⟩⟩⟩⟩⟩⟩⟩⟩⟩⟩⟩⟩
theorem lw_p64 : lw_okq (⟨"BannerParadeModel", "seenOne", "(II)I"⟩, 22) := ⟨⟨by decide +kernel, by decide +kernel⟩, List.mem_of_getElem? (i := 1410) (by decide +kernel), List.mem_of_getElem? (i := 1785) (by decide +kernel), List.mem_of_getElem? (i := 1786) (by decide +kernel)⟩
theorem lw_p65 : lw_okq (⟨"BannerParadeModel", "mayLetter", "(I)Z"⟩, 22) := ⟨⟨by decide +kernel, by decide +kernel⟩, List.mem_of_getElem? (i := 1410) (by decide +kernel), List.mem_of_getElem? (i := 1801) (by decide +kernel), List.mem_of_getElem? (i := 1802) (by decide +kernel)⟩
theorem lw_p66 : lw_okq (⟨"BannerParadeModel", "mayAsk", "()Z"⟩, 22) := ⟨⟨by decide +kernel, by decide +kernel⟩, List.mem_of_getElem? (i := 1410) (by decide +kernel), List.mem_of_getElem? (i := 1817) (by decide +kernel), List.mem_of_getElem? (i := 1818) (by decide +kernel)⟩
theorem lw_p67 : lw_okq (⟨"BannerParadeModel", "maySwap", "(I)Z"⟩, 22) := ⟨⟨by decide +kernel, by decide +kernel⟩, List.mem_of_getElem? (i := 1410) (by decide +kernel), List.mem_of_getElem? (i := 1821) (by decide +kernel), List.mem_of_getElem? (i := 1822) (by decide +kernel)⟩
theorem lw_p68 : lw_okq (⟨"BannerParadeModel", "shareOf", "(I)F"⟩, 22) := ⟨⟨by decide +kernel, by decide +kernel⟩, List.mem_of_getElem? (i := 1410) (by decide +kernel), List.mem_of_getElem? (i := 1837) (by decide +kernel), List.mem_of_getElem? (i := 1838) (by decide +kernel)⟩
theorem lw_p69 : lw_okq (⟨"BannerParadeModel", "readSet", "()I"⟩, 22) := ⟨⟨by decide +kernel, by decide +kernel⟩, List.mem_of_getElem? (i := 1410) (by decide +kernel), List.mem_of_getElem? (i := 1868) (by decide +kernel), List.mem_of_getElem? (i := 1869) (by decide +kernel)⟩
theorem lw_p70 : lw_okq (⟨"BannerParadeModel", "meanNow", "()D"⟩, 22) := ⟨⟨by decide +kernel, by decide +kernel⟩, List.mem_of_getElem? (i := 1410) (by decide +kernel), List.mem_of_getElem? (i := 1888) (by decide +kernel), List.mem_of_getElem? (i := 1889) (by decide +kernel)⟩
theorem lw_p71 : lw_okq (⟨"BannerParadeModel", "thinks", "()V"⟩, 22) := ⟨⟨by decide +kernel, by decide +kernel⟩, List.mem_of_getElem? (i := 1410) (by decide +kernel), List.mem_of_getElem? (i := 1910) (by decide +kernel), List.mem_of_getElem? (i := 1911) (by decide +kernel)⟩
theorem lw_p72 : lw_okq (⟨"BannerParadeModel", "back", "(I)I"⟩, 22) := ⟨⟨by decide +kernel, by decide +kernel⟩, List.mem_of_getElem? (i := 1410) (by decide +kernel), List.mem_of_getElem? (i := 1914) (by decide +kernel), List.mem_of_getElem? (i := 1915) (by decide +kernel)⟩
theorem lw_p73 : lw_okq (⟨"BannerParadeModel", "ticks", "()V"⟩, 22) := ⟨⟨by decide +kernel, by decide +kernel⟩, List.mem_of_getElem? (i := 1410) (by decide +kernel), List.mem_of_getElem? (i := 1918) (by decide +kernel), List.mem_of_getElem? (i := 1919) (by decide +kernel)⟩
theorem lw_p74 : lw_okq (⟨"BannerParadeModel", "plans", "()V"⟩, 22) := ⟨⟨by decide +kernel, by decide +kernel⟩, List.mem_of_getElem? (i := 1410) (by decide +kernel), List.mem_of_getElem? (i := 1922) (by decide +kernel), List.mem_of_getElem? (i := 1923) (by decide +kernel)⟩
theorem lw_p75 : lw_okq (⟨"BannerParadeModel", "swaps", "(I)V"⟩, 22) := ⟨⟨by decide +kernel, by decide +kernel⟩, List.mem_of_getElem? (i := 1410) (by decide +kernel), List.mem_of_getElem? (i := 1926) (by decide +kernel), List.mem_of_getElem? (i := 1927) (by decide +kernel)⟩
theorem lw_p76 : lw_okq (⟨"BannerParadeModel", "exchanges", "(I)V"⟩, 22) := ⟨⟨by decide +kernel, by decide +kernel⟩, List.mem_of_getElem? (i := 1410) (by decide +kernel), List.mem_of_getElem? (i := 1930) (by decide +kernel), List.mem_of_getElem? (i := 1931) (by decide +kernel)⟩
theorem lw_p77 : lw_okq (⟨"BannerParadeModel", "strengthens", "(II)V"⟩, 22) := ⟨⟨by decide +kernel, by decide +kernel⟩, List.mem_of_getElem? (i := 1410) (by decide +kernel), List.mem_of_getElem? (i := 1934) (by decide +kernel), List.mem_of_getElem? (i := 1935) (by decide +kernel)⟩
theorem lw_p78 : lw_okq (⟨"BannerParadeModel", "moves", "(I)V"⟩, 22) := ⟨⟨by decide +kernel, by decide +kernel⟩, List.mem_of_getElem? (i := 1410) (by decide +kernel), List.mem_of_getElem? (i := 1938) (by decide +kernel), List.mem_of_getElem? (i := 1939) (by decide +kernel)⟩
theorem lw_p79 : lw_okq (⟨"BannerParadeModel", "drops", "(I)V"⟩, 22) := ⟨⟨by decide +kernel, by decide +kernel⟩, List.mem_of_getElem? (i := 1410) (by decide +kernel), List.mem_of_getElem? (i := 1942) (by decide +kernel), List.mem_of_getElem? (i := 1943) (by decide +kernel)⟩
def lw_privs_5 : List (MethodName × Nat) := [(⟨"BannerParadeModel", "seenOne", "(II)I"⟩, 22), (⟨"BannerParadeModel", "mayLetter", "(I)Z"⟩, 22), (⟨"BannerParadeModel", "mayAsk", "()Z"⟩, 22), (⟨"BannerParadeModel", "maySwap", "(I)Z"⟩, 22), (⟨"BannerParadeModel", "shareOf", "(I)F"⟩, 22), (⟨"BannerParadeModel", "readSet", "()I"⟩, 22), (⟨"BannerParadeModel", "meanNow", "()D"⟩, 22), (⟨"BannerParadeModel", "thinks", "()V"⟩, 22), (⟨"BannerParadeModel", "back", "(I)I"⟩, 22), (⟨"BannerParadeModel", "ticks", "()V"⟩, 22), (⟨"BannerParadeModel", "plans", "()V"⟩, 22), (⟨"BannerParadeModel", "swaps", "(I)V"⟩, 22), (⟨"BannerParadeModel", "exchanges", "(I)V"⟩, 22), (⟨"BannerParadeModel", "strengthens", "(II)V"⟩, 22), (⟨"BannerParadeModel", "moves", "(I)V"⟩, 22), (⟨"BannerParadeModel", "drops", "(I)V"⟩, 22)]
theorem lw_r5 : ∀ q ∈ lw_privs_5, lw_okq q := List.forall_mem_cons.mpr ⟨lw_p64, List.forall_mem_cons.mpr ⟨lw_p65, List.forall_mem_cons.mpr ⟨lw_p66, List.forall_mem_cons.mpr ⟨lw_p67, List.forall_mem_cons.mpr ⟨lw_p68, List.forall_mem_cons.mpr ⟨lw_p69, List.forall_mem_cons.mpr ⟨lw_p70, List.forall_mem_cons.mpr ⟨lw_p71, List.forall_mem_cons.mpr ⟨lw_p72, List.forall_mem_cons.mpr ⟨lw_p73, List.forall_mem_cons.mpr ⟨lw_p74, List.forall_mem_cons.mpr ⟨lw_p75, List.forall_mem_cons.mpr ⟨lw_p76, List.forall_mem_cons.mpr ⟨lw_p77, List.forall_mem_cons.mpr ⟨lw_p78, List.forall_mem_cons.mpr ⟨lw_p79, fun _ h => absurd h List.not_mem_nil⟩⟩⟩⟩⟩⟩⟩⟩⟩⟩⟩⟩⟩⟩⟩⟩
theorem lw_p80 : lw_okq (⟨"BannerParadeModel", "lifts", "(I)V"⟩, 22) := ⟨⟨by decide +kernel, by decide +kernel⟩, List.mem_of_getElem? (i := 1410) (by decide +kernel), List.mem_of_getElem? (i := 1946) (by decide +kernel), List.mem_of_getElem? (i := 1947) (by decide +kernel)⟩
theorem lw_p81 : lw_okq (⟨"BannerParadeModel", "picks", "(II)V"⟩, 22) := ⟨⟨by decide +kernel, by decide +kernel⟩, List.mem_of_getElem? (i := 1410) (by decide +kernel), List.mem_of_getElem? (i := 1950) (by decide +kernel), List.mem_of_getElem? (i := 1951) (by decide +kernel)⟩
theorem lw_p82 : lw_okq (⟨"BannerParadeModel", "havePassed", "(I)Z"⟩, 22) := ⟨⟨by decide +kernel, by decide +kernel⟩, List.mem_of_getElem? (i := 1410) (by decide +kernel), List.mem_of_getElem? (i := 1958) (by decide +kernel), List.mem_of_getElem? (i := 1959) (by decide +kernel)⟩
theorem lw_p83 : lw_okq (⟨"BannerParadeModel", "partIn", "(III)I"⟩, 22) := ⟨⟨by decide +kernel, by decide +kernel⟩, List.mem_of_getElem? (i := 1410) (by decide +kernel), List.mem_of_getElem? (i := 1966) (by decide +kernel), List.mem_of_getElem? (i := 1967) (by decide +kernel)⟩
theorem lw_p84 : lw_okq (⟨"BannerParadeModel", "passes", "(I)V"⟩, 22) := ⟨⟨by decide +kernel, by decide +kernel⟩, List.mem_of_getElem? (i := 1410) (by decide +kernel), List.mem_of_getElem? (i := 1973) (by decide +kernel), List.mem_of_getElem? (i := 1974) (by decide +kernel)⟩
theorem lw_p85 : lw_okq (⟨"BannerParadeModel", "mayStandIn", "(II)Z"⟩, 22) := ⟨⟨by decide +kernel, by decide +kernel⟩, List.mem_of_getElem? (i := 1410) (by decide +kernel), List.mem_of_getElem? (i := 1997) (by decide +kernel), List.mem_of_getElem? (i := 1998) (by decide +kernel)⟩
theorem lw_p86 : lw_okq (⟨"BannerParadeModel", "backFloat", "(F)F"⟩, 22) := ⟨⟨by decide +kernel, by decide +kernel⟩, List.mem_of_getElem? (i := 1410) (by decide +kernel), List.mem_of_getElem? (i := 2001) (by decide +kernel), List.mem_of_getElem? (i := 2002) (by decide +kernel)⟩
theorem lw_p87 : lw_okq (⟨"BannerParadeModel", "mayBearer", "(I)Z"⟩, 22) := ⟨⟨by decide +kernel, by decide +kernel⟩, List.mem_of_getElem? (i := 1410) (by decide +kernel), List.mem_of_getElem? (i := 2023) (by decide +kernel), List.mem_of_getElem? (i := 2024) (by decide +kernel)⟩
theorem lw_p88 : lw_okq (⟨"BannerParadeModel", "writesByte", "(I)V"⟩, 22) := ⟨⟨by decide +kernel, by decide +kernel⟩, List.mem_of_getElem? (i := 1410) (by decide +kernel), List.mem_of_getElem? (i := 2035) (by decide +kernel), List.mem_of_getElem? (i := 2036) (by decide +kernel)⟩
theorem lw_p89 : lw_okq (⟨"BannerParadeModel", "writesNumber", "(I)V"⟩, 22) := ⟨⟨by decide +kernel, by decide +kernel⟩, List.mem_of_getElem? (i := 1410) (by decide +kernel), List.mem_of_getElem? (i := 2047) (by decide +kernel), List.mem_of_getElem? (i := 2048) (by decide +kernel)⟩
theorem lw_p90 : lw_okq (⟨"BannerParadeModel", "remembers", "()V"⟩, 22) := ⟨⟨by decide +kernel, by decide +kernel⟩, List.mem_of_getElem? (i := 1410) (by decide +kernel), List.mem_of_getElem? (i := 2059) (by decide +kernel), List.mem_of_getElem? (i := 2060) (by decide +kernel)⟩
def lw_privs_6 : List (MethodName × Nat) := [(⟨"BannerParadeModel", "lifts", "(I)V"⟩, 22), (⟨"BannerParadeModel", "picks", "(II)V"⟩, 22), (⟨"BannerParadeModel", "havePassed", "(I)Z"⟩, 22), (⟨"BannerParadeModel", "partIn", "(III)I"⟩, 22), (⟨"BannerParadeModel", "passes", "(I)V"⟩, 22), (⟨"BannerParadeModel", "mayStandIn", "(II)Z"⟩, 22), (⟨"BannerParadeModel", "backFloat", "(F)F"⟩, 22), (⟨"BannerParadeModel", "mayBearer", "(I)Z"⟩, 22), (⟨"BannerParadeModel", "writesByte", "(I)V"⟩, 22), (⟨"BannerParadeModel", "writesNumber", "(I)V"⟩, 22), (⟨"BannerParadeModel", "remembers", "()V"⟩, 22)]
theorem lw_r6 : ∀ q ∈ lw_privs_6, lw_okq q := List.forall_mem_cons.mpr ⟨lw_p80, List.forall_mem_cons.mpr ⟨lw_p81, List.forall_mem_cons.mpr ⟨lw_p82, List.forall_mem_cons.mpr ⟨lw_p83, List.forall_mem_cons.mpr ⟨lw_p84, List.forall_mem_cons.mpr ⟨lw_p85, List.forall_mem_cons.mpr ⟨lw_p86, List.forall_mem_cons.mpr ⟨lw_p87, List.forall_mem_cons.mpr ⟨lw_p88, List.forall_mem_cons.mpr ⟨lw_p89, List.forall_mem_cons.mpr ⟨lw_p90, fun _ h => absurd h List.not_mem_nil⟩⟩⟩⟩⟩⟩⟩⟩⟩⟩⟩
def lw_privs : List (MethodName × Nat) := lw_privs_1 ++ (lw_privs_2 ++ (lw_privs_3 ++ (lw_privs_4 ++ (lw_privs_5 ++ (lw_privs_6)))))
def lw_tbl : List Cond := k2_sels lw_privs ++ tables_1
theorem lw_privs_ok : ∀ q ∈ lw_privs, lw_okq q := by
  show ∀ q ∈ lw_privs_1 ++ (lw_privs_2 ++ (lw_privs_3 ++ (lw_privs_4 ++ (lw_privs_5 ++ (lw_privs_6))))), lw_okq q
  exact List.forall_mem_append.mpr ⟨lw_r1, List.forall_mem_append.mpr ⟨lw_r2, List.forall_mem_append.mpr ⟨lw_r3, List.forall_mem_append.mpr ⟨lw_r4, List.forall_mem_append.mpr ⟨lw_r5, lw_r6⟩⟩⟩⟩⟩
/-- the streams that the claim lets the run draw from -/
abbrev lw_cs : List Choice := [Jvm.Choice.named "NaN.bits"]
theorem lw_bits : nanBits ∈ lw_cs := by first | decide | exact List.mem_cons_self | simp [lw_cs, nanBits]
-- ===== end of PART A; then your names; then what follows =====
end
section
/-! X: the code of the class, of the reference, of the law and of the JDK's methods that they call, as a table of blocks (written by program, wip/whole/gen.py). An instruction is an Instr whose operands are read as: a label for a jump, a field's own number (32 * class + slot) for a field, a method's number for a call. -/
abbrev XB : Type := List Nat × List Instr
/-- a method: how many arguments (the receiver is one), how many locals, the receiver's kind (99: none is asked), what it returns, its handlers (exception, label, the local that takes it), its blocks -/
abbrev XT : Type := Nat × Nat × Nat × Nat × List (Nat × Nat × Nat) × List XB
/-- BannerParade$Bytes.<init>()V -/
def xM0 : XT := (1, 1, 0, 0, [], [([0], [.aload 0, .monitorexit, .aload 0, .iconst 0, .putfield 0, .aload 0, .iconst 128, .newarray .int, .putfield 1, .return_])])
/-- BannerParade$Bytes.addByte(I)V -/
def xM1 : XT := (2, 2, 0, 0, [], [([0, 1], [.aload 0, .getfield 0, .aload 0, .getfield 1, .arraylength, .if_icmp .ge 2, .goto_w 1]), ([0, 1], [.aload 0, .getfield 1, .aload 0, .getfield 0, .iload 1, .iastore, .aload 0, .dup, .getfield 0, .iconst 1, .iadd, .putfield 0, .goto_w 2]), ([], [.return_])])
/-- BannerParade$Bytes.addNumber(I)V -/
def xM2 : XT := (2, 6, 0, 0, [], [([0, 1], [.iload 1, .ifCond .ge 2, .goto_w 1]), ([0, 1], [.aload 0, .iconst 45, .invokevirtual 1, .goto_w 2]), ([0, 1], [.iload 1, .invokestatic 384, .istore 2, .iconst 1, .istore 3, .iload 2, .iconst 10, .idiv, .istore 4, .goto_w 3]), ([0, 2, 3, 4], [.iload 4, .ifCond .le 6, .goto_w 4]), ([0, 2, 3, 4], [.iload 3, .iconst 10, .if_icmp .ge 6, .goto_w 5]), ([0, 2, 3, 4], [.iinc 3 1, .iload 4, .iconst 10, .idiv, .istore 4, .goto 3]), ([0, 2, 3], [.aload 0, .getfield 0, .iload 3, .iadd, .istore 4, .iload 4, .aload 0, .getfield 1, .arraylength, .if_icmp .le 8, .goto_w 7]), ([], [.return_]), ([0, 2, 4], [.iload 4, .iconst 1, .isub, .istore 5, .goto_w 9]), ([0, 2, 4, 5], [.iload 5, .aload 0, .getfield 0, .if_icmp .lt 11, .goto_w 10]), ([0, 2, 4, 5], [.aload 0, .getfield 1, .iload 5, .iconst 48, .iload 2, .iconst 10, .irem, .iadd, .iastore, .iload 2, .iconst 10, .idiv, .istore 2, .iinc 5 (-1), .goto 9]), ([0, 4], [.aload 0, .iload 4, .putfield 0, .return_])])
/-- BannerParade$Ground.<init>()V -/
def xM3 : XT := (1, 1, 1, 0, [], [([0], [.aload 0, .monitorexit, .aload 0, .iconst 0, .putfield 32, .aload 0, .iconst 12, .newarray .int, .putfield 33, .aload 0, .iconst 12, .newarray .int, .putfield 34, .aload 0, .iconst 12, .newarray .int, .putfield 35, .return_])])
/-- BannerParade$Ground.copyFrom(LBannerParade$Ground;)V -/
def xM4 : XT := (2, 2, 1, 0, [], [([0, 1], [.aload 0, .aload 1, .getfield 32, .putfield 32, .aload 1, .getfield 33, .aload 0, .getfield 33, .invokestatic 172, .aload 1, .getfield 34, .aload 0, .getfield 34, .invokestatic 172, .aload 1, .getfield 35, .aload 0, .getfield 35, .invokestatic 172, .return_])])
/-- BannerParade$Ground.lay(III)V -/
def xM5 : XT := (4, 4, 1, 0, [], [([0, 1, 2, 3], [.aload 0, .getfield 32, .iconst 12, .if_icmp .lt 2, .goto_w 1]), ([], [.return_]), ([0, 1, 2, 3], [.aload 0, .getfield 33, .aload 0, .getfield 32, .iload 1, .iastore, .aload 0, .getfield 34, .aload 0, .getfield 32, .iload 2, .iastore, .aload 0, .getfield 35, .aload 0, .getfield 32, .iload 3, .iastore, .aload 0, .dup, .getfield 32, .iconst 1, .iadd, .putfield 32, .return_])])
/-- BannerParade$Ground.removeAt(I)V -/
def xM6 : XT := (2, 3, 1, 0, [], [([0, 1], [.iload 1, .ifCond .lt 2, .goto_w 1]), ([0, 1], [.iload 1, .aload 0, .getfield 32, .if_icmp .lt 3, .goto_w 2]), ([], [.return_]), ([0, 1], [.iload 1, .istore 2, .goto_w 4]), ([0, 2], [.iload 2, .iconst 1, .iadd, .aload 0, .getfield 32, .if_icmp .ge 6, .goto_w 5]), ([0, 2], [.aload 0, .getfield 33, .iload 2, .aload 0, .getfield 33, .iload 2, .iconst 1, .iadd, .iaload, .iastore, .aload 0, .getfield 34, .iload 2, .aload 0, .getfield 34, .iload 2, .iconst 1, .iadd, .iaload, .iastore, .aload 0, .getfield 35, .iload 2, .aload 0, .getfield 35, .iload 2, .iconst 1, .iadd, .iaload, .iastore, .iinc 2 1, .goto 4]), ([0], [.aload 0, .dup, .getfield 32, .iconst 1, .isub, .putfield 32, .return_])])
/-- BannerParade$Ground.between(II)I -/
def xM7 : XT := (3, 5, 1, 1, [], [([0, 1, 2], [.iconst 0, .istore 3, .iconst 0, .istore 4, .goto_w 1]), ([0, 1, 2, 3, 4], [.iload 4, .aload 0, .getfield 32, .if_icmp .ge 6, .goto_w 2]), ([0, 1, 2, 3, 4], [.aload 0, .getfield 34, .iload 4, .iaload, .iload 1, .if_icmp .lt 5, .goto_w 3]), ([0, 1, 2, 3, 4], [.aload 0, .getfield 34, .iload 4, .iaload, .iload 2, .if_icmp .gt 5, .goto_w 4]), ([0, 1, 2, 3, 4], [.iinc 3 1, .goto_w 5]), ([0, 1, 2, 3, 4], [.iinc 4 1, .goto 1]), ([3], [.iload 3, .ireturn])])
/-- BannerParade$Ground.bestBetween(II)I -/
def xM8 : XT := (3, 6, 1, 1, [], [([0, 1, 2], [.iconst (-1), .istore 3, .iconst 0, .istore 4, .goto_w 1]), ([0, 1, 2, 3, 4], [.iload 4, .aload 0, .getfield 32, .if_icmp .ge 11, .goto_w 2]), ([0, 1, 2, 3, 4], [.aload 0, .getfield 34, .iload 4, .iaload, .iload 1, .if_icmp .lt 5, .goto_w 3]), ([0, 1, 2, 3, 4], [.aload 0, .getfield 34, .iload 4, .iaload, .iload 2, .if_icmp .gt 5, .goto_w 4]), ([0, 1, 2, 3, 4], [.iconst 1, .goto 6]), ([0, 1, 2, 3, 4], [.iconst 0, .goto_w 6]), ([0, 1, 2, 3, 4], [.istore 5, .iload 5, .ifCond .eq 10, .goto_w 7]), ([0, 1, 2, 3, 4], [.iload 3, .iconst (-1), .if_icmp .eq 9, .goto_w 8]), ([0, 1, 2, 3, 4], [.aload 0, .getfield 34, .iload 4, .iaload, .aload 0, .getfield 34, .iload 3, .iaload, .if_icmp .le 10, .goto_w 9]), ([0, 1, 2, 4], [.iload 4, .istore 3, .goto_w 10]), ([0, 1, 2, 3, 4], [.iinc 4 1, .goto 1]), ([3], [.iload 3, .ireturn])])
/-- BannerParade$Ground.withLetter(I)I -/
def xM9 : XT := (2, 4, 1, 1, [], [([0, 1], [.iconst 0, .istore 2, .iconst 0, .istore 3, .goto_w 1]), ([0, 1, 2, 3], [.iload 3, .aload 0, .getfield 32, .if_icmp .ge 5, .goto_w 2]), ([0, 1, 2, 3], [.aload 0, .getfield 33, .iload 3, .iaload, .iload 1, .if_icmp .ne 4, .goto_w 3]), ([0, 1, 2, 3], [.iinc 2 1, .goto_w 4]), ([0, 1, 2, 3], [.iinc 3 1, .goto 1]), ([2], [.iload 2, .ireturn])])
/-- BannerParade$Memory.<init>()V -/
def xM10 : XT := (1, 2, 2, 0, [], [([0], [.aload 0, .monitorexit, .aload 0, .iconst 0, .putfield 64, .aload 0, .iconst 0, .putfield 65, .aload 0, .iconst 8, .anewarray 8, .putfield 66, .aload 0, .iconst 2, .anewarray 8, .putfield 67, .aload 0, .iconst 2, .newarray .boolean, .putfield 68, .iconst 0, .istore 1, .goto_w 1]), ([0, 1], [.iload 1, .aload 0, .getfield 66, .arraylength, .if_icmp .ge 3, .goto_w 2]), ([0, 1], [.aload 0, .getfield 66, .iload 1, .new 8, .dup, .invokespecial 67, .aastore, .iinc 1 1, .goto 1]), ([0], [.iconst 0, .istore 1, .goto_w 4]), ([0, 1], [.iload 1, .aload 0, .getfield 67, .arraylength, .if_icmp .ge 6, .goto_w 5]), ([0, 1], [.aload 0, .getfield 67, .iload 1, .new 8, .dup, .invokespecial 67, .aastore, .iinc 1 1, .goto 4]), ([], [.return_])])
/-- BannerParade$Memory.forgetChanges()V -/
def xM11 : XT := (1, 1, 2, 0, [], [([0], [.aload 0, .iconst 0, .putfield 64, .aload 0, .iconst 0, .putfield 65, .return_])])
/-- BannerParade$Memory.forgetSlots()V -/
def xM12 : XT := (1, 2, 2, 0, [], [([0], [.iconst 0, .istore 1, .goto_w 1]), ([0, 1], [.iload 1, .aload 0, .getfield 68, .arraylength, .if_icmp .ge 3, .goto_w 2]), ([0, 1], [.aload 0, .getfield 68, .iload 1, .iconst 0, .bastore, .iinc 1 1, .goto 1]), ([], [.return_])])
/-- BannerParade$Memory.remember(LBannerParade$State;)V -/
def xM13 : XT := (2, 2, 2, 0, [], [([0, 1], [.aload 1, .aload 0, .getfield 66, .aload 0, .getfield 64, .aload 0, .getfield 65, .iadd, .iconst 8, .irem, .aaload, .invokestatic 17, .aload 0, .getfield 65, .iconst 8, .if_icmp .ge 2, .goto_w 1]), ([0], [.aload 0, .dup, .getfield 65, .iconst 1, .iadd, .putfield 65, .goto 3]), ([0], [.aload 0, .aload 0, .getfield 64, .iconst 1, .iadd, .iconst 8, .irem, .putfield 64, .goto_w 3]), ([], [.return_])])
/-- BannerParade$Memory.takeBack(LBannerParade$State;)V -/
def xM14 : XT := (2, 2, 2, 0, [], [([0, 1], [.aload 0, .getfield 65, .ifCond .le 2, .goto_w 1]), ([0, 1], [.aload 0, .dup, .getfield 65, .iconst 1, .isub, .putfield 65, .aload 0, .getfield 66, .aload 0, .getfield 64, .aload 0, .getfield 65, .iadd, .iconst 8, .irem, .aaload, .aload 1, .invokestatic 17, .goto_w 2]), ([], [.return_])])
/-- BannerParade$Memory.fillSlot(ILBannerParade$State;)V -/
def xM15 : XT := (3, 3, 2, 0, [], [([0, 1, 2], [.aload 2, .aload 0, .getfield 67, .iload 1, .aaload, .invokestatic 17, .aload 0, .getfield 68, .iload 1, .iconst 1, .bastore, .return_])])
/-- BannerParade$Memory.readSlot(ILBannerParade$State;)V -/
def xM16 : XT := (3, 3, 2, 0, [], [([0, 1, 2], [.aload 0, .getfield 67, .iload 1, .aaload, .aload 2, .invokestatic 17, .return_])])
/-- BannerParade$Memory.copyState(LBannerParade$State;LBannerParade$State;)V -/
def xM17 : XT := (2, 2, 99, 0, [], [([0, 1], [.aload 0, .ifnull 3, .goto_w 1]), ([0, 1], [.aload 1, .ifnull 3, .goto_w 2]), ([0, 1], [.aload 1, .aload 0, .invokevirtual 68, .goto_w 3]), ([], [.return_])])
/-- BannerParade$Parser.<init>()V -/
def xM18 : XT := (1, 1, 3, 0, [], [([0], [.aload 0, .monitorexit, .aload 0, .new 9, .dup, .invokespecial 80, .putfield 96, .aload 0, .new 8, .dup, .invokespecial 67, .putfield 97, .aload 0, .new 6, .dup, .invokespecial 41, .putfield 98, .aload 0, .iconst 0, .putfield 99, .aload 0, .iconst (-1), .putfield 100, .return_])])
/-- BannerParade$Parser.parseText(I)Z -/
def xM19 : XT := (2, 3, 3, 2, [], [([0, 1], [.aload 0, .iconst 0, .putfield 99, .aload 0, .iconst (-1), .putfield 100, .aload 0, .getfield 97, .invokevirtual 69, .aload 0, .getfield 98, .iconst 0, .putfield 192, .aload 0, .getfield 96, .iload 1, .invokevirtual 83, .aload 0, .invokevirtual 21, .ifCond .ne 2, .goto_w 1]), ([], [.iconst 0, .ireturn]), ([0], [.aload 0, .getfield 96, .invokevirtual 84, .iconst 0, .istore 2, .goto_w 3]), ([0, 2], [.iload 2, .iconst 700, .if_icmp .ge 8, .goto_w 4]), ([0, 2], [.aload 0, .getfield 96, .getfield 293, .iconst 3, .if_icmp .ne 8, .goto_w 5]), ([0, 2], [.aload 0, .invokevirtual 22, .ifCond .ne 7, .goto_w 6]), ([], [.iconst 0, .ireturn]), ([0, 2], [.aload 0, .getfield 96, .invokevirtual 84, .iinc 2 1, .goto 3]), ([0], [.aload 0, .getfield 96, .getfield 293, .ifCond .eq 10, .goto_w 9]), ([0], [.aload 0, .iconst 1, .invokevirtual 20, .ifCond .eq 11, .goto_w 10]), ([], [.iconst 1, .goto 12]), ([], [.iconst 0, .goto_w 12]), ([], [.ireturn])])
/-- BannerParade$Parser.refuse(I)Z -/
def xM20 : XT := (2, 2, 3, 2, [], [([0, 1], [.aload 0, .iload 1, .putfield 99, .aload 0, .aload 0, .getfield 96, .getfield 291, .putfield 100, .iconst 0, .ireturn])])
/-- BannerParade$Parser.parseHead()Z -/
def xM21 : XT := (1, 2, 3, 2, [], [([0], [.aload 0, .getfield 96, .invokevirtual 84, .aload 0, .getfield 96, .ldc 1, .invokevirtual 89, .ifCond .ne 2, .goto_w 1]), ([0], [.aload 0, .iconst 1, .invokevirtual 20, .ireturn]), ([0], [.iconst 0, .istore 1, .goto_w 3]), ([0, 1], [.iload 1, .iconst 6, .if_icmp .ge 7, .goto_w 4]), ([0, 1], [.aload 0, .getstatic 0, .iload 1, .iaload, .getstatic 1, .iload 1, .iaload, .invokevirtual 26, .ifCond .ne 6, .goto_w 5]), ([], [.iconst 0, .ireturn]), ([0, 1], [.aload 0, .getfield 97, .getfield 260, .iload 1, .aload 0, .getfield 96, .getfield 294, .iastore, .iinc 1 1, .goto 3]), ([], [.iconst 1, .ireturn])])
/-- BannerParade$Parser.parseLine()Z -/
def xM22 : XT := (1, 1, 3, 2, [], [([0], [.aload 0, .getfield 96, .invokevirtual 84, .aload 0, .getfield 96, .ldc 2, .invokevirtual 89, .ifCond .eq 5, .goto_w 1]), ([0], [.aload 0, .getfield 97, .getfield 262, .getfield 224, .iconst 12, .if_icmp .ge 3, .goto_w 2]), ([0], [.aload 0, .invokevirtual 23, .goto 4]), ([0], [.aload 0, .iconst 4, .invokevirtual 20, .goto_w 4]), ([], [.ireturn]), ([0], [.aload 0, .getfield 96, .ldc 3, .invokevirtual 89, .ifCond .eq 10, .goto_w 6]), ([0], [.aload 0, .getfield 98, .getfield 192, .iconst 6, .if_icmp .ge 8, .goto_w 7]), ([0], [.aload 0, .invokevirtual 24, .goto 9]), ([0], [.aload 0, .iconst 4, .invokevirtual 20, .goto_w 9]), ([], [.ireturn]), ([0], [.aload 0, .getfield 96, .ldc 6, .invokevirtual 89, .ifCond .eq 15, .goto_w 11]), ([0], [.aload 0, .getfield 97, .getfield 264, .getfield 128, .iconst 12, .if_icmp .ge 13, .goto_w 12]), ([0], [.aload 0, .invokevirtual 25, .goto 14]), ([0], [.aload 0, .iconst 4, .invokevirtual 20, .goto_w 14]), ([], [.ireturn]), ([0], [.aload 0, .iconst 1, .invokevirtual 20, .ireturn])])
/-- BannerParade$Parser.parseBearer()Z -/
def xM23 : XT := (1, 3, 3, 2, [], [([0], [.aload 0, .getfield 96, .invokevirtual 84, .aload 0, .getfield 96, .invokevirtual 87, .iconst 1, .if_icmp .eq 2, .goto_w 1]), ([0], [.aload 0, .iconst 1, .invokevirtual 20, .ireturn]), ([0], [.aload 0, .getfield 96, .iconst 0, .invokevirtual 88, .iconst 96, .isub, .istore 1, .aload 0, .iconst 1, .iconst 200, .invokevirtual 26, .ifCond .ne 4, .goto_w 3]), ([], [.iconst 0, .ireturn]), ([0, 1], [.aload 0, .getfield 96, .getfield 294, .istore 2, .aload 0, .iconst 0, .iconst 20, .invokevirtual 26, .ifCond .ne 6, .goto_w 5]), ([], [.iconst 0, .ireturn]), ([0, 1, 2], [.aload 0, .getfield 97, .getfield 262, .iload 1, .iload 2, .aload 0, .getfield 96, .getfield 294, .aload 0, .getfield 97, .getfield 260, .iconst 0, .iaload, .invokevirtual 49, .iconst 1, .ireturn])])
/-- BannerParade$Parser.parseStand()Z -/
def xM24 : XT := (1, 4, 3, 2, [], [([0], [.aload 0, .getfield 96, .invokevirtual 84, .aload 0, .getfield 96, .ldc 4, .invokevirtual 89, .istore 1, .iload 1, .ifCond .ne 3, .goto_w 1]), ([0, 1], [.aload 0, .getfield 96, .ldc 5, .invokevirtual 89, .ifCond .ne 3, .goto_w 2]), ([0], [.aload 0, .iconst 1, .invokevirtual 20, .ireturn]), ([0, 1], [.aload 0, .iconst 0, .iconst 9999, .invokevirtual 26, .ifCond .ne 5, .goto_w 4]), ([], [.iconst 0, .ireturn]), ([0, 1], [.aload 0, .getfield 96, .getfield 294, .istore 2, .aload 0, .getfield 96, .invokevirtual 84, .aload 0, .getfield 96, .getfield 293, .iconst 1, .if_icmp .eq 7, .goto_w 6]), ([0], [.aload 0, .iconst 1, .invokevirtual 20, .ireturn]), ([0, 1, 2], [.aload 0, .getfield 98, .iload 1, .ifCond .eq 9, .goto_w 8]), ([0, 2], [.iconst 1, .goto 10]), ([0, 2], [.iconst 0, .goto_w 10]), ([0, 2], [.iload 2, .invokevirtual 43, .iconst 0, .istore 3, .goto_w 11]), ([0, 3], [.iload 3, .aload 0, .getfield 96, .invokevirtual 87, .if_icmp .ge 13, .goto_w 12]), ([0, 3], [.aload 0, .getfield 98, .aload 0, .getfield 96, .iload 3, .invokevirtual 88, .invokevirtual 44, .iinc 3 1, .goto 11]), ([], [.iconst 1, .ireturn])])
/-- BannerParade$Parser.parsePlan()Z -/
def xM25 : XT := (1, 2, 3, 2, [], [([0], [.aload 0, .iconst 1, .iconst 5000, .invokevirtual 26, .ifCond .ne 2, .goto_w 1]), ([], [.iconst 0, .ireturn]), ([0], [.aload 0, .getfield 96, .getfield 294, .istore 1, .aload 0, .iconst 0, .aload 0, .getfield 97, .getfield 262, .getfield 224, .iconst 2, .isub, .invokevirtual 26, .ifCond .ne 4, .goto_w 3]), ([], [.iconst 0, .ireturn]), ([0, 1], [.aload 0, .getfield 97, .getfield 264, .iload 1, .aload 0, .getfield 96, .getfield 294, .invokevirtual 29, .iconst 1, .ireturn])])
/-- BannerParade$Parser.parseNumber(II)Z -/
def xM26 : XT := (3, 3, 3, 2, [], [([0, 1, 2], [.aload 0, .getfield 96, .invokevirtual 84, .aload 0, .getfield 96, .getfield 293, .iconst 2, .if_icmp .eq 2, .goto_w 1]), ([0], [.aload 0, .iconst 1, .invokevirtual 20, .ireturn]), ([0, 1, 2], [.aload 0, .getfield 96, .getfield 294, .iload 1, .if_icmp .lt 4, .goto_w 3]), ([0, 2], [.aload 0, .getfield 96, .getfield 294, .iload 2, .if_icmp .le 5, .goto_w 4]), ([0], [.aload 0, .iconst 2, .invokevirtual 20, .ireturn]), ([], [.iconst 1, .ireturn])])
/-- BannerParade$Plans.<init>()V -/
def xM27 : XT := (1, 1, 4, 0, [], [([0], [.aload 0, .monitorexit, .aload 0, .iconst 0, .putfield 128, .aload 0, .iconst 12, .newarray .int, .putfield 129, .aload 0, .iconst 12, .newarray .int, .putfield 130, .aload 0, .iconst 12, .newarray .int, .putfield 131, .return_])])
/-- BannerParade$Plans.copyFrom(LBannerParade$Plans;)V -/
def xM28 : XT := (2, 2, 4, 0, [], [([0, 1], [.aload 0, .aload 1, .getfield 128, .putfield 128, .aload 1, .getfield 129, .aload 0, .getfield 129, .invokestatic 172, .aload 1, .getfield 130, .aload 0, .getfield 130, .invokestatic 172, .aload 1, .getfield 131, .aload 0, .getfield 131, .invokestatic 172, .return_])])
/-- BannerParade$Plans.add(II)V -/
def xM29 : XT := (3, 3, 4, 0, [], [([0, 1, 2], [.aload 0, .getfield 128, .iconst 12, .if_icmp .lt 2, .goto_w 1]), ([], [.return_]), ([0, 1, 2], [.aload 0, .getfield 129, .aload 0, .getfield 128, .iload 1, .iastore, .aload 0, .getfield 130, .aload 0, .getfield 128, .iload 2, .iastore, .aload 0, .getfield 131, .aload 0, .getfield 128, .iconst 0, .iastore, .aload 0, .dup, .getfield 128, .iconst 1, .iadd, .putfield 128, .return_])])
/-- BannerParade$Plans.withOutcome(I)I -/
def xM30 : XT := (2, 4, 4, 1, [], [([0, 1], [.iconst 0, .istore 2, .iconst 0, .istore 3, .goto_w 1]), ([0, 1, 2, 3], [.iload 3, .aload 0, .getfield 128, .if_icmp .ge 5, .goto_w 2]), ([0, 1, 2, 3], [.aload 0, .getfield 131, .iload 3, .iaload, .iload 1, .if_icmp .ne 4, .goto_w 3]), ([0, 1, 2, 3], [.iinc 2 1, .goto_w 4]), ([0, 1, 2, 3], [.iinc 3 1, .goto 1]), ([2], [.iload 2, .ireturn])])
/-- BannerParade$Plans.soonest()I -/
def xM31 : XT := (1, 3, 4, 1, [], [([0], [.iconst (-1), .istore 1, .iconst 0, .istore 2, .goto_w 1]), ([0, 1, 2], [.iload 2, .aload 0, .getfield 128, .if_icmp .ge 7, .goto_w 2]), ([0, 1, 2], [.aload 0, .getfield 131, .iload 2, .iaload, .ifCond .ne 6, .goto_w 3]), ([0, 1, 2], [.iload 1, .iconst (-1), .if_icmp .eq 5, .goto_w 4]), ([0, 1, 2], [.aload 0, .getfield 129, .iload 2, .iaload, .aload 0, .getfield 129, .iload 1, .iaload, .if_icmp .ge 6, .goto_w 5]), ([0, 2], [.iload 2, .istore 1, .goto_w 6]), ([0, 1, 2], [.iinc 2 1, .goto 1]), ([1], [.iload 1, .ireturn])])
/-- BannerParade$Reading.<init>()V -/
def xM32 : XT := (1, 1, 5, 0, [], [([0], [.aload 0, .monitorexit, .aload 0, .iconst 0, .putfield 160, .aload 0, .iconst 0, .putfield 161, .aload 0, .iconst 24, .newarray .int, .putfield 162, .aload 0, .iconst 12, .newarray .int, .putfield 163, .return_])])
/-- BannerParade$Reading.read(LBannerParade$State;LBannerParade$Route;I)V -/
def xM33 : XT := (4, 7, 5, 0, [], [([0, 1, 2, 3], [.aload 0, .iconst 0, .putfield 160, .aload 0, .iconst 0, .putfield 161, .aload 1, .getfield 262, .astore 4, .iconst 0, .istore 5, .goto_w 1]), ([0, 1, 2, 3, 4, 5], [.iload 5, .aload 4, .getfield 224, .if_icmp .ge 8, .goto_w 2]), ([0, 1, 2, 3, 4, 5], [.aload 2, .getfield 193, .iload 3, .iaload, .iconst 1, .if_icmp .ne 4, .goto_w 3]), ([0, 1, 2, 3, 4, 5], [.aload 4, .getfield 224, .iconst 1, .isub, .iload 5, .isub, .goto 5]), ([0, 1, 2, 3, 4, 5], [.iload 5, .goto_w 5]), ([0, 1, 2, 3, 4, 5], [.istore 6, .aload 1, .iload 6, .aload 2, .getfield 194, .iload 3, .iaload, .invokevirtual 79, .ifCond .eq 7, .goto_w 6]), ([0, 1, 2, 3, 4, 5, 6], [.aload 0, .aload 4, .iload 6, .aload 1, .getfield 260, .iconst 2, .iaload, .invokevirtual 34, .goto_w 7]), ([0, 1, 2, 3, 4, 5], [.iinc 5 1, .goto 1]), ([], [.return_])])
/-- BannerParade$Reading.addLetter(LBannerParade$Row;II)V -/
def xM34 : XT := (4, 4, 5, 0, [], [([0, 1, 2, 3], [.aload 0, .getfield 161, .aload 0, .getfield 163, .arraylength, .if_icmp .ge 2, .goto_w 1]), ([0, 1, 2, 3], [.aload 0, .getfield 160, .iconst 1, .iadd, .aload 0, .getfield 162, .arraylength, .if_icmp .lt 3, .goto_w 2]), ([], [.return_]), ([0, 1, 2, 3], [.aload 0, .getfield 161, .ifCond .le 6, .goto_w 4]), ([0, 1, 2, 3], [.aload 1, .getfield 230, .iload 2, .iaload, .aload 1, .getfield 230, .aload 0, .getfield 163, .aload 0, .getfield 161, .iconst 1, .isub, .iaload, .iaload, .isub, .invokestatic 384, .iload 3, .if_icmp .le 6, .goto_w 5]), ([0, 1, 2], [.aload 0, .getfield 162, .aload 0, .getfield 160, .iconst 32, .iastore, .aload 0, .dup, .getfield 160, .iconst 1, .iadd, .putfield 160, .goto_w 6]), ([0, 1, 2], [.aload 0, .getfield 162, .aload 0, .getfield 160, .iconst 96, .aload 1, .getfield 229, .iload 2, .iaload, .iadd, .iastore, .aload 0, .dup, .getfield 160, .iconst 1, .iadd, .putfield 160, .aload 0, .getfield 163, .aload 0, .getfield 161, .iload 2, .iastore, .aload 0, .dup, .getfield 161, .iconst 1, .iadd, .putfield 161, .return_])])
/-- BannerParade$Reading.byteAt(I)I -/
def xM35 : XT := (2, 2, 5, 1, [], [([0, 1], [.iload 1, .ifCond .lt 3, .goto_w 1]), ([0, 1], [.iload 1, .aload 0, .getfield 160, .if_icmp .ge 3, .goto_w 2]), ([0, 1], [.aload 0, .getfield 162, .iload 1, .iaload, .goto 4]), ([], [.iconst (-1), .goto_w 4]), ([], [.ireturn])])
/-- BannerParade$Reading.bearerOfLetter(I)I -/
def xM36 : XT := (2, 2, 5, 1, [], [([0, 1], [.iload 1, .ifCond .lt 3, .goto_w 1]), ([0, 1], [.iload 1, .aload 0, .getfield 161, .if_icmp .ge 3, .goto_w 2]), ([0, 1], [.aload 0, .getfield 163, .iload 1, .iaload, .goto 4]), ([], [.iconst (-1), .goto_w 4]), ([], [.ireturn])])
/-- BannerParade$Reading.alike(LBannerParade$Route;I)I -/
def xM37 : XT := (3, 5, 5, 1, [], [([0, 1, 2], [.iconst 0, .istore 3, .iconst 0, .istore 4, .goto_w 1]), ([0, 1, 2, 3, 4], [.iload 4, .aload 0, .getfield 160, .if_icmp .ge 6, .goto_w 2]), ([0, 1, 2, 3, 4], [.iload 4, .aload 1, .getfield 195, .iload 2, .iaload, .if_icmp .ge 6, .goto_w 3]), ([0, 1, 2, 3, 4], [.aload 0, .getfield 162, .iload 4, .iaload, .aload 1, .iload 2, .iload 4, .invokevirtual 45, .if_icmp .ne 5, .goto_w 4]), ([0, 1, 2, 3, 4], [.iinc 3 1, .goto_w 5]), ([0, 1, 2, 3, 4], [.iinc 4 1, .goto 1]), ([3], [.iload 3, .ireturn])])
/-- BannerParade$Reading.alikeAtStart(LBannerParade$Route;I)I -/
def xM38 : XT := (3, 5, 5, 1, [], [([0, 1, 2], [.aload 0, .getfield 160, .aload 1, .getfield 195, .iload 2, .iaload, .invokestatic 386, .istore 3, .iconst 0, .istore 4, .goto_w 1]), ([0, 1, 2, 3, 4], [.iload 4, .iload 3, .if_icmp .ge 5, .goto_w 2]), ([0, 1, 2, 3, 4], [.aload 0, .getfield 162, .iload 4, .iaload, .aload 1, .iload 2, .iload 4, .invokevirtual 45, .if_icmp .eq 4, .goto_w 3]), ([4], [.iload 4, .ireturn]), ([0, 1, 2, 3, 4], [.iinc 4 1, .goto 1]), ([3], [.iload 3, .ireturn])])
/-- BannerParade$Reading.isWord(LBannerParade$Route;I)Z -/
def xM39 : XT := (3, 3, 5, 2, [], [([0, 1, 2], [.aload 0, .getfield 160, .aload 1, .getfield 195, .iload 2, .iaload, .if_icmp .ne 3, .goto_w 1]), ([0, 1, 2], [.aload 0, .aload 1, .iload 2, .invokevirtual 37, .aload 0, .getfield 160, .if_icmp .ne 3, .goto_w 2]), ([], [.iconst 1, .goto 4]), ([], [.iconst 0, .goto_w 4]), ([], [.ireturn])])
/-- BannerParade$Reading.shareOfWord(LBannerParade$Route;I)F -/
def xM40 : XT := (3, 4, 5, 6, [], [([0, 1, 2], [.aload 0, .getfield 160, .aload 1, .getfield 195, .iload 2, .iaload, .invokestatic 385, .istore 3, .iload 3, .ifCond .le 2, .goto_w 1]), ([0, 1, 2, 3], [.aload 0, .aload 1, .iload 2, .invokevirtual 37, .i2f, .iload 3, .i2f, .fdiv, .goto 3]), ([], [.fconst 0, .goto_w 3]), ([], [.freturn])])
/-- BannerParade$Route.<init>()V -/
def xM41 : XT := (1, 1, 6, 0, [], [([0], [.aload 0, .monitorexit, .aload 0, .iconst 0, .putfield 192, .aload 0, .iconst 6, .newarray .int, .putfield 193, .aload 0, .iconst 6, .newarray .int, .putfield 194, .aload 0, .iconst 6, .newarray .int, .putfield 195, .aload 0, .iconst 48, .newarray .int, .putfield 196, .return_])])
/-- BannerParade$Route.copyFrom(LBannerParade$Route;)V -/
def xM42 : XT := (2, 2, 6, 0, [], [([0, 1], [.aload 0, .aload 1, .getfield 192, .putfield 192, .aload 1, .getfield 193, .aload 0, .getfield 193, .invokestatic 172, .aload 1, .getfield 194, .aload 0, .getfield 194, .invokestatic 172, .aload 1, .getfield 195, .aload 0, .getfield 195, .invokestatic 172, .aload 1, .getfield 196, .aload 0, .getfield 196, .invokestatic 172, .return_])])
/-- BannerParade$Route.add(II)V -/
def xM43 : XT := (3, 3, 6, 0, [], [([0, 1, 2], [.aload 0, .getfield 192, .iconst 6, .if_icmp .lt 2, .goto_w 1]), ([], [.return_]), ([0, 1, 2], [.aload 0, .getfield 193, .aload 0, .getfield 192, .iload 1, .iastore, .aload 0, .getfield 194, .aload 0, .getfield 192, .iload 2, .iastore, .aload 0, .getfield 195, .aload 0, .getfield 192, .iconst 0, .iastore, .aload 0, .dup, .getfield 192, .iconst 1, .iadd, .putfield 192, .return_])])
/-- BannerParade$Route.lengthenLastWord(I)V -/
def xM44 : XT := (2, 3, 6, 0, [], [([0, 1], [.aload 0, .getfield 192, .iconst 1, .isub, .istore 2, .iload 2, .ifCond .lt 2, .goto_w 1]), ([0, 1, 2], [.aload 0, .getfield 195, .iload 2, .iaload, .iconst 8, .if_icmp .lt 3, .goto_w 2]), ([], [.return_]), ([0, 1, 2], [.aload 0, .getfield 196, .iload 2, .iconst 8, .imul, .aload 0, .getfield 195, .iload 2, .iaload, .iadd, .iload 1, .iastore, .aload 0, .getfield 195, .iload 2, .dup2, .iaload, .iconst 1, .iadd, .iastore, .return_])])
/-- BannerParade$Route.byteOfWord(II)I -/
def xM45 : XT := (3, 3, 6, 1, [], [([0, 1, 2], [.iload 2, .ifCond .lt 3, .goto_w 1]), ([0, 1, 2], [.iload 2, .aload 0, .getfield 195, .iload 1, .iaload, .if_icmp .ge 3, .goto_w 2]), ([0, 1, 2], [.aload 0, .getfield 196, .iload 1, .iconst 8, .imul, .iload 2, .iadd, .iaload, .goto 4]), ([], [.iconst (-1), .goto_w 4]), ([], [.ireturn])])
/-- BannerParade$Route.lettersInWord(II)I -/
def xM46 : XT := (3, 5, 6, 1, [], [([0, 1, 2], [.iconst 0, .istore 3, .iconst 0, .istore 4, .goto_w 1]), ([0, 1, 2, 3, 4], [.iload 4, .aload 0, .getfield 195, .iload 1, .iaload, .if_icmp .ge 5, .goto_w 2]), ([0, 1, 2, 3, 4], [.aload 0, .iload 1, .iload 4, .invokevirtual 45, .iconst 96, .iload 2, .iadd, .if_icmp .ne 4, .goto_w 3]), ([0, 1, 2, 3, 4], [.iinc 3 1, .goto_w 4]), ([0, 1, 2, 3, 4], [.iinc 4 1, .goto 1]), ([3], [.iload 3, .ireturn])])
/-- BannerParade$Row.<init>()V -/
def xM47 : XT := (1, 1, 7, 0, [], [([0], [.aload 0, .monitorexit, .aload 0, .iconst 0, .putfield 224, .aload 0, .iconst 12, .newarray .int, .putfield 225, .aload 0, .iconst 12, .newarray .int, .putfield 226, .aload 0, .iconst 12, .newarray .int, .putfield 227, .aload 0, .iconst 12, .newarray .int, .putfield 228, .aload 0, .iconst 12, .newarray .int, .putfield 229, .aload 0, .iconst 12, .newarray .int, .putfield 230, .aload 0, .iconst 12, .newarray .int, .putfield 231, .aload 0, .iconst 12, .newarray .int, .putfield 232, .return_])])
/-- BannerParade$Row.copyFrom(LBannerParade$Row;)V -/
def xM48 : XT := (2, 2, 7, 0, [], [([0, 1], [.aload 0, .aload 1, .getfield 224, .putfield 224, .aload 1, .getfield 225, .aload 0, .getfield 225, .invokestatic 172, .aload 1, .getfield 226, .aload 0, .getfield 226, .invokestatic 172, .aload 1, .getfield 227, .aload 0, .getfield 227, .invokestatic 172, .aload 1, .getfield 228, .aload 0, .getfield 228, .invokestatic 172, .aload 1, .getfield 229, .aload 0, .getfield 229, .invokestatic 172, .aload 1, .getfield 230, .aload 0, .getfield 230, .invokestatic 172, .aload 1, .getfield 232, .aload 0, .getfield 232, .invokestatic 172, .return_])])
/-- BannerParade$Row.join(IIII)V -/
def xM49 : XT := (5, 5, 7, 0, [], [([0, 1, 2, 3, 4], [.aload 0, .getfield 224, .iconst 12, .if_icmp .lt 2, .goto_w 1]), ([], [.return_]), ([0, 1, 2, 3, 4], [.aload 0, .getfield 225, .aload 0, .getfield 224, .iload 1, .iastore, .aload 0, .getfield 226, .aload 0, .getfield 224, .iload 2, .iastore, .aload 0, .getfield 227, .aload 0, .getfield 224, .iload 3, .iastore, .aload 0, .getfield 228, .aload 0, .getfield 224, .iconst 100, .iastore, .aload 0, .getfield 229, .aload 0, .getfield 224, .iload 1, .iastore, .aload 0, .getfield 230, .aload 0, .getfield 224, .iload 4, .ineg, .aload 0, .getfield 224, .imul, .iastore, .aload 0, .getfield 231, .aload 0, .getfield 224, .aload 0, .getfield 230, .aload 0, .getfield 224, .iaload, .iastore, .aload 0, .getfield 232, .aload 0, .getfield 224, .iconst 0, .iastore, .aload 0, .dup, .getfield 224, .iconst 1, .iadd, .putfield 224, .return_])])
/-- BannerParade$Row.strideOf(I)I -/
def xM50 : XT := (2, 2, 7, 1, [], [([0, 1], [.aload 0, .getfield 226, .iload 1, .iaload, .i2f, .aload 0, .getfield 228, .iload 1, .iaload, .i2f, .fmul, .ldc_w 1120403456, .fdiv, .f2i, .ireturn])])
/-- BannerParade$Row.distanceAhead(I)I -/
def xM51 : XT := (2, 2, 7, 1, [], [([0, 1], [.iload 1, .ifCond .le 2, .goto_w 1]), ([0, 1], [.aload 0, .getfield 230, .iload 1, .iconst 1, .isub, .iaload, .aload 0, .getfield 230, .iload 1, .iaload, .isub, .goto 3]), ([], [.iconst (-1), .goto_w 3]), ([], [.ireturn])])
/-- BannerParade$Row.addStrength(II)V -/
def xM52 : XT := (3, 3, 7, 0, [], [([0, 1, 2], [.aload 0, .getfield 228, .iload 1, .iconst 0, .iconst 100, .aload 0, .getfield 228, .iload 1, .iaload, .iload 2, .iadd, .invokestatic 386, .invokestatic 385, .iastore, .return_])])
/-- BannerParade$Row.exchangeBanners(I)V -/
def xM53 : XT := (2, 3, 7, 0, [], [([0, 1], [.iload 1, .ifCond .lt 2, .goto_w 1]), ([0, 1], [.iload 1, .iconst 1, .iadd, .aload 0, .getfield 224, .if_icmp .lt 3, .goto_w 2]), ([], [.return_]), ([0, 1], [.aload 0, .getfield 229, .iload 1, .iaload, .istore 2, .aload 0, .getfield 229, .iload 1, .aload 0, .getfield 229, .iload 1, .iconst 1, .iadd, .iaload, .iastore, .aload 0, .getfield 229, .iload 1, .iconst 1, .iadd, .iload 2, .iastore, .return_])])
/-- BannerParade$Row.march(II)V -/
def xM54 : XT := (3, 5, 7, 0, [], [([0, 1, 2], [.iconst 0, .istore 3, .goto_w 1]), ([0, 1, 2, 3], [.iload 3, .aload 0, .getfield 224, .if_icmp .ge 8, .goto_w 2]), ([0, 1, 2, 3], [.aload 0, .getfield 230, .iload 3, .iaload, .aload 0, .iload 3, .invokevirtual 50, .iadd, .istore 4, .iload 3, .ifCond .le 4, .goto_w 3]), ([0, 1, 2, 3, 4], [.iload 4, .aload 0, .getfield 230, .iload 3, .iconst 1, .isub, .iaload, .iload 1, .isub, .invokestatic 386, .istore 4, .goto_w 4]), ([0, 1, 2, 3, 4], [.aload 0, .getfield 231, .iload 3, .aload 0, .getfield 230, .iload 3, .iaload, .iastore, .iload 4, .aload 0, .getfield 230, .iload 3, .iaload, .if_icmp .le 6, .goto_w 5]), ([0, 1, 2, 3, 4], [.aload 0, .getfield 230, .iload 3, .iload 4, .iastore, .aload 0, .getfield 232, .iload 3, .dup2, .iaload, .iconst 1, .iadd, .iastore, .aload 0, .iload 3, .aload 0, .getfield 227, .iload 3, .iaload, .ineg, .invokevirtual 52, .goto 7]), ([0, 1, 2, 3], [.aload 0, .iload 3, .iload 2, .invokevirtual 52, .goto_w 7]), ([0, 1, 2, 3], [.iinc 3 1, .goto 1]), ([], [.return_])])
/-- BannerParade$Row.carriers()I -/
def xM55 : XT := (1, 3, 7, 1, [], [([0], [.iconst 0, .istore 1, .iconst 0, .istore 2, .goto_w 1]), ([0, 1, 2], [.iload 2, .aload 0, .getfield 224, .if_icmp .ge 5, .goto_w 2]), ([0, 1, 2], [.aload 0, .getfield 229, .iload 2, .iaload, .ifCond .eq 4, .goto_w 3]), ([0, 1, 2], [.iinc 1 1, .goto_w 4]), ([0, 1, 2], [.iinc 2 1, .goto 1]), ([1], [.iload 1, .ireturn])])
/-- BannerParade$Row.carriersOf(I)I -/
def xM56 : XT := (2, 4, 7, 1, [], [([0, 1], [.iconst 0, .istore 2, .iconst 0, .istore 3, .goto_w 1]), ([0, 1, 2, 3], [.iload 3, .aload 0, .getfield 224, .if_icmp .ge 5, .goto_w 2]), ([0, 1, 2, 3], [.aload 0, .getfield 229, .iload 3, .iaload, .iload 1, .if_icmp .ne 4, .goto_w 3]), ([0, 1, 2, 3], [.iinc 2 1, .goto_w 4]), ([0, 1, 2, 3], [.iinc 3 1, .goto 1]), ([2], [.iload 2, .ireturn])])
/-- BannerParade$Row.carriersOfOwnLetter()I -/
def xM57 : XT := (1, 3, 7, 1, [], [([0], [.iconst 0, .istore 1, .iconst 0, .istore 2, .goto_w 1]), ([0, 1, 2], [.iload 2, .aload 0, .getfield 224, .if_icmp .ge 5, .goto_w 2]), ([0, 1, 2], [.aload 0, .getfield 229, .iload 2, .iaload, .aload 0, .getfield 225, .iload 2, .iaload, .if_icmp .ne 4, .goto_w 3]), ([0, 1, 2], [.iinc 1 1, .goto_w 4]), ([0, 1, 2], [.iinc 2 1, .goto 1]), ([1], [.iload 1, .ireturn])])
/-- BannerParade$Row.withinSpace(I)I -/
def xM58 : XT := (2, 4, 7, 1, [], [([0, 1], [.iconst 0, .istore 2, .iconst 1, .istore 3, .goto_w 1]), ([0, 1, 2, 3], [.iload 3, .aload 0, .getfield 224, .if_icmp .ge 5, .goto_w 2]), ([0, 1, 2, 3], [.aload 0, .iload 3, .invokevirtual 51, .iload 1, .if_icmp .gt 4, .goto_w 3]), ([0, 1, 2, 3], [.iinc 2 1, .goto_w 4]), ([0, 1, 2, 3], [.iinc 3 1, .goto 1]), ([2], [.iload 2, .ireturn])])
/-- BannerParade$Row.strideSum()I -/
def xM59 : XT := (1, 3, 7, 1, [], [([0], [.iconst 0, .istore 1, .iconst 0, .istore 2, .goto_w 1]), ([0, 1, 2], [.iload 2, .aload 0, .getfield 224, .if_icmp .ge 3, .goto_w 2]), ([0, 1, 2], [.iload 1, .aload 0, .iload 2, .invokevirtual 50, .iadd, .istore 1, .iinc 2 1, .goto 1]), ([1], [.iload 1, .ireturn])])
/-- BannerParade$Row.strengthSum()I -/
def xM60 : XT := (1, 3, 7, 1, [], [([0], [.iconst 0, .istore 1, .iconst 0, .istore 2, .goto_w 1]), ([0, 1, 2], [.iload 2, .aload 0, .getfield 224, .if_icmp .ge 3, .goto_w 2]), ([0, 1, 2], [.iload 1, .aload 0, .getfield 228, .iload 2, .iaload, .iadd, .istore 1, .iinc 2 1, .goto 1]), ([1], [.iload 1, .ireturn])])
/-- BannerParade$Row.meanOfStrength()D -/
def xM61 : XT := (1, 1, 7, 7, [], [([0], [.aload 0, .getfield 224, .ifCond .le 2, .goto_w 1]), ([0], [.aload 0, .invokevirtual 60, .i2d, .aload 0, .getfield 224, .i2d, .ddiv, .goto 3]), ([], [.dconst 0, .goto_w 3]), ([], [.dreturn])])
/-- BannerParade$Row.upToStrength(I)I -/
def xM62 : XT := (2, 4, 7, 1, [], [([0, 1], [.iconst 0, .istore 2, .iconst 0, .istore 3, .goto_w 1]), ([0, 1, 2, 3], [.iload 3, .aload 0, .getfield 224, .if_icmp .ge 5, .goto_w 2]), ([0, 1, 2, 3], [.aload 0, .getfield 228, .iload 3, .iaload, .iload 1, .if_icmp .gt 4, .goto_w 3]), ([0, 1, 2, 3], [.iload 2, .iconst 1, .iload 3, .ishl, .ior, .istore 2, .goto_w 4]), ([0, 1, 2, 3], [.iinc 3 1, .goto 1]), ([2], [.iload 2, .ireturn])])
/-- BannerParade$Row.belowStrength(I)I -/
def xM63 : XT := (2, 4, 7, 1, [], [([0, 1], [.iconst 0, .istore 2, .iconst 0, .istore 3, .goto_w 1]), ([0, 1, 2, 3], [.iload 3, .aload 0, .getfield 224, .if_icmp .ge 5, .goto_w 2]), ([0, 1, 2, 3], [.aload 0, .getfield 228, .iload 3, .iaload, .iload 1, .if_icmp .ge 4, .goto_w 3]), ([0, 1, 2, 3], [.iinc 2 1, .goto_w 4]), ([0, 1, 2, 3], [.iinc 3 1, .goto 1]), ([2], [.iload 2, .ireturn])])
/-- BannerParade$Row.beyond(I)I -/
def xM64 : XT := (2, 4, 7, 1, [], [([0, 1], [.iconst 0, .istore 2, .iconst 0, .istore 3, .goto_w 1]), ([0, 1, 2, 3], [.iload 3, .aload 0, .getfield 224, .if_icmp .ge 5, .goto_w 2]), ([0, 1, 2, 3], [.aload 0, .getfield 230, .iload 3, .iaload, .iload 1, .if_icmp .le 4, .goto_w 3]), ([0, 1, 2, 3], [.iinc 2 1, .goto_w 4]), ([0, 1, 2, 3], [.iinc 3 1, .goto 1]), ([2], [.iload 2, .ireturn])])
/-- BannerParade$Row.shortOf(I)I -/
def xM65 : XT := (2, 4, 7, 1, [], [([0, 1], [.iconst 0, .istore 2, .iconst 0, .istore 3, .goto_w 1]), ([0, 1, 2, 3], [.iload 3, .aload 0, .getfield 224, .if_icmp .ge 5, .goto_w 2]), ([0, 1, 2, 3], [.aload 0, .getfield 230, .iload 3, .iaload, .iload 1, .if_icmp .ge 4, .goto_w 3]), ([0, 1, 2, 3], [.iinc 2 1, .goto_w 4]), ([0, 1, 2, 3], [.iinc 3 1, .goto 1]), ([2], [.iload 2, .ireturn])])
/-- BannerParade$Row.leastDifference(I)I -/
def xM66 : XT := (2, 5, 7, 1, [], [([0, 1], [.iconst (-1), .istore 2, .iconst 0, .istore 3, .goto_w 1]), ([0, 1, 2, 3], [.iload 3, .aload 0, .getfield 224, .if_icmp .ge 6, .goto_w 2]), ([0, 1, 2, 3], [.aload 0, .getfield 230, .iload 3, .iaload, .iload 1, .isub, .invokestatic 384, .istore 4, .iload 2, .iconst (-1), .if_icmp .eq 4, .goto_w 3]), ([0, 1, 2, 3, 4], [.iload 4, .iload 2, .if_icmp .ge 5, .goto_w 4]), ([0, 1, 3, 4], [.iload 4, .istore 2, .goto_w 5]), ([0, 1, 2, 3], [.iinc 3 1, .goto 1]), ([2], [.iload 2, .ireturn])])
/-- BannerParade$State.<init>()V -/
def xM67 : XT := (1, 1, 8, 0, [], [([0], [.aload 0, .monitorexit, .aload 0, .iconst 0, .putfield 256, .aload 0, .iconst 0, .putfield 257, .aload 0, .iconst 0, .putfield 258, .aload 0, .iconst 0, .putfield 259, .aload 0, .iconst 6, .newarray .int, .putfield 260, .aload 0, .iconst 6, .newarray .int, .putfield 261, .aload 0, .new 7, .dup, .invokespecial 47, .putfield 262, .aload 0, .new 1, .dup, .invokespecial 3, .putfield 263, .aload 0, .new 4, .dup, .invokespecial 27, .putfield 264, .return_])])
/-- BannerParade$State.copyFrom(LBannerParade$State;)V -/
def xM68 : XT := (2, 2, 8, 0, [], [([0, 1], [.aload 0, .aload 1, .getfield 256, .putfield 256, .aload 0, .aload 1, .getfield 257, .putfield 257, .aload 0, .aload 1, .getfield 258, .putfield 258, .aload 0, .aload 1, .getfield 259, .putfield 259, .aload 1, .getfield 260, .aload 0, .getfield 260, .invokestatic 172, .aload 1, .getfield 261, .aload 0, .getfield 261, .invokestatic 172, .aload 0, .getfield 262, .aload 1, .getfield 262, .invokevirtual 48, .aload 0, .getfield 263, .aload 1, .getfield 263, .invokevirtual 4, .aload 0, .getfield 264, .aload 1, .getfield 264, .invokevirtual 28, .return_])])
/-- BannerParade$State.clear()V -/
def xM69 : XT := (1, 2, 8, 0, [], [([0], [.aload 0, .iconst 0, .putfield 256, .aload 0, .iconst 0, .putfield 257, .aload 0, .iconst 0, .putfield 258, .aload 0, .iconst 0, .putfield 259, .aload 0, .getfield 262, .iconst 0, .putfield 224, .aload 0, .getfield 263, .iconst 0, .putfield 32, .aload 0, .getfield 264, .iconst 0, .putfield 128, .iconst 0, .istore 1, .goto_w 1]), ([0, 1], [.iload 1, .aload 0, .getfield 261, .arraylength, .if_icmp .ge 3, .goto_w 2]), ([0, 1], [.aload 0, .getfield 261, .iload 1, .iconst (-1), .iastore, .iinc 1 1, .goto 1]), ([], [.return_])])
/-- BannerParade$State.passTick()V -/
def xM70 : XT := (1, 1, 8, 0, [], [([0], [.aload 0, .dup, .getfield 256, .iconst 1, .iadd, .putfield 256, .aload 0, .invokevirtual 71, .aload 0, .getfield 262, .aload 0, .getfield 260, .iconst 0, .iaload, .aload 0, .getfield 260, .iconst 3, .iaload, .invokevirtual 54, .aload 0, .invokevirtual 72, .aload 0, .invokevirtual 73, .return_])])
/-- BannerParade$State.doPlans()V -/
def xM71 : XT := (1, 3, 8, 0, [], [([0], [.iconst 0, .istore 1, .goto_w 1]), ([0, 1], [.iload 1, .aload 0, .getfield 264, .getfield 128, .if_icmp .ge 9, .goto_w 2]), ([0, 1], [.aload 0, .getfield 264, .getfield 129, .iload 1, .iaload, .aload 0, .getfield 256, .if_icmp .ne 8, .goto_w 3]), ([0, 1], [.aload 0, .aload 0, .getfield 264, .getfield 130, .iload 1, .iaload, .invokevirtual 74, .istore 2, .aload 0, .getfield 264, .getfield 131, .iload 1, .iload 2, .ifCond .eq 5, .goto_w 4]), ([0, 1, 2], [.iconst 1, .goto 6]), ([0, 1, 2], [.iconst 2, .goto_w 6]), ([0, 1, 2], [.iastore, .iload 2, .ifCond .eq 8, .goto_w 7]), ([0, 1], [.aload 0, .aload 0, .getfield 264, .getfield 130, .iload 1, .iaload, .invokevirtual 75, .goto_w 8]), ([0, 1], [.iinc 1 1, .goto 1]), ([], [.return_])])
/-- BannerParade$State.dropOfTheWeak()V -/
def xM72 : XT := (1, 2, 8, 0, [], [([0], [.iconst 0, .istore 1, .goto_w 1]), ([0, 1], [.iload 1, .aload 0, .getfield 262, .getfield 224, .if_icmp .ge 6, .goto_w 2]), ([0, 1], [.aload 0, .getfield 262, .getfield 229, .iload 1, .iaload, .ifCond .eq 5, .goto_w 3]), ([0, 1], [.aload 0, .getfield 262, .getfield 228, .iload 1, .iaload, .ifCond .ne 5, .goto_w 4]), ([0, 1], [.aload 0, .iload 1, .invokevirtual 76, .goto_w 5]), ([0, 1], [.iinc 1 1, .goto 1]), ([], [.return_])])
/-- BannerParade$State.liftOnTheWay()V -/
def xM73 : XT := (1, 2, 8, 0, [], [([0], [.iconst 0, .istore 1, .goto_w 1]), ([0, 1], [.iload 1, .aload 0, .getfield 262, .getfield 224, .if_icmp .ge 6, .goto_w 2]), ([0, 1], [.aload 0, .getfield 263, .getfield 32, .ifCond .le 5, .goto_w 3]), ([0, 1], [.aload 0, .iload 1, .invokevirtual 77, .ifCond .eq 5, .goto_w 4]), ([0, 1], [.aload 0, .iload 1, .aload 0, .getfield 263, .aload 0, .getfield 262, .getfield 231, .iload 1, .iaload, .aload 0, .getfield 262, .getfield 230, .iload 1, .iaload, .invokevirtual 8, .invokevirtual 78, .goto_w 5]), ([0, 1], [.iinc 1 1, .goto 1]), ([], [.return_])])
/-- BannerParade$State.maySwap(I)Z -/
def xM74 : XT := (2, 2, 8, 2, [], [([0, 1], [.iload 1, .ifCond .lt 6, .goto_w 1]), ([0, 1], [.iload 1, .iconst 1, .iadd, .aload 0, .getfield 262, .getfield 224, .if_icmp .ge 6, .goto_w 2]), ([0, 1], [.aload 0, .getfield 262, .iload 1, .iconst 1, .iadd, .invokevirtual 51, .aload 0, .getfield 260, .iconst 5, .iaload, .if_icmp .gt 6, .goto_w 3]), ([0, 1], [.aload 0, .getfield 262, .getfield 228, .iload 1, .iaload, .iconst 1, .if_icmp .lt 6, .goto_w 4]), ([0, 1], [.aload 0, .getfield 262, .getfield 228, .iload 1, .iconst 1, .iadd, .iaload, .iconst 1, .if_icmp .lt 6, .goto_w 5]), ([], [.iconst 1, .goto 7]), ([], [.iconst 0, .goto_w 7]), ([], [.ireturn])])
/-- BannerParade$State.swapBanners(I)V -/
def xM75 : XT := (2, 2, 8, 0, [], [([0, 1], [.aload 0, .getfield 262, .iload 1, .invokevirtual 53, .aload 0, .getfield 262, .iload 1, .iconst (-2), .invokevirtual 52, .aload 0, .getfield 262, .iload 1, .iconst 1, .iadd, .iconst (-2), .invokevirtual 52, .aload 0, .dup, .getfield 257, .iconst 1, .iadd, .putfield 257, .return_])])
/-- BannerParade$State.dropBanner(I)V -/
def xM76 : XT := (2, 2, 8, 0, [], [([0, 1], [.aload 0, .getfield 263, .aload 0, .getfield 262, .getfield 229, .iload 1, .iaload, .aload 0, .getfield 262, .getfield 230, .iload 1, .iaload, .aload 0, .getfield 256, .invokevirtual 5, .aload 0, .getfield 262, .getfield 229, .iload 1, .iconst 0, .iastore, .aload 0, .dup, .getfield 258, .iconst 1, .iadd, .putfield 258, .return_])])
/-- BannerParade$State.mayLift(I)Z -/
def xM77 : XT := (2, 2, 8, 2, [], [([0, 1], [.aload 0, .getfield 262, .getfield 229, .iload 1, .iaload, .ifCond .ne 3, .goto_w 1]), ([0, 1], [.aload 0, .getfield 262, .getfield 228, .iload 1, .iaload, .aload 0, .getfield 260, .iconst 4, .iaload, .if_icmp .lt 3, .goto_w 2]), ([], [.iconst 1, .goto 4]), ([], [.iconst 0, .goto_w 4]), ([], [.ireturn])])
/-- BannerParade$State.liftBanner(II)V -/
def xM78 : XT := (3, 3, 8, 0, [], [([0, 1, 2], [.iload 2, .ifCond .lt 2, .goto_w 1]), ([0, 1, 2], [.iload 2, .aload 0, .getfield 263, .getfield 32, .if_icmp .lt 3, .goto_w 2]), ([], [.return_]), ([0, 1, 2], [.aload 0, .getfield 262, .getfield 229, .iload 1, .aload 0, .getfield 263, .getfield 33, .iload 2, .iaload, .iastore, .aload 0, .getfield 263, .iload 2, .invokevirtual 6, .aload 0, .dup, .getfield 259, .iconst 1, .iadd, .putfield 259, .return_])])
/-- BannerParade$State.isInSight(II)Z -/
def xM79 : XT := (3, 3, 8, 2, [], [([0, 1, 2], [.aload 0, .getfield 262, .getfield 229, .iload 1, .iaload, .ifCond .eq 3, .goto_w 1]), ([0, 1, 2], [.aload 0, .getfield 262, .getfield 230, .iload 1, .iaload, .iload 2, .isub, .invokestatic 384, .aload 0, .getfield 260, .iconst 1, .iaload, .if_icmp .gt 3, .goto_w 2]), ([], [.iconst 1, .goto 4]), ([], [.iconst 0, .goto_w 4]), ([], [.ireturn])])
/-- BannerParade$Tokens.<init>()V -/
def xM80 : XT := (1, 1, 9, 0, [], [([0], [.aload 0, .monitorexit, .aload 0, .iconst 700, .newarray .int, .putfield 288, .aload 0, .iconst 0, .putfield 289, .aload 0, .iconst 0, .putfield 290, .aload 0, .iconst 0, .putfield 291, .aload 0, .iconst 0, .putfield 292, .aload 0, .iconst 0, .putfield 293, .aload 0, .iconst 0, .putfield 294, .return_])])
/-- BannerParade$Tokens.putTwenty(IIIII)I -/
def xM81 : XT := (6, 6, 9, 1, [], [([0, 1, 2, 3, 4, 5], [.aload 0, .getfield 289, .iconst 20, .iadd, .iconst 700, .if_icmp .le 2, .goto_w 1]), ([], [.iconst (-1), .ireturn]), ([0, 1, 2, 3, 4, 5], [.aload 0, .iload 1, .invokevirtual 82, .aload 0, .iload 2, .invokevirtual 82, .aload 0, .iload 3, .invokevirtual 82, .aload 0, .iload 4, .invokevirtual 82, .aload 0, .iload 5, .invokevirtual 82, .aload 0, .getfield 289, .ireturn])])
/-- BannerParade$Tokens.putFour(I)V -/
def xM82 : XT := (2, 3, 9, 0, [], [([0, 1], [.iconst 24, .istore 2, .goto_w 1]), ([0, 1, 2], [.iload 2, .ifCond .lt 4, .goto_w 2]), ([0, 1, 2], [.aload 0, .getfield 289, .aload 0, .getfield 288, .arraylength, .if_icmp .ge 4, .goto_w 3]), ([0, 1, 2], [.aload 0, .getfield 288, .aload 0, .getfield 289, .iload 1, .iload 2, .iushr, .iconst 255, .iand, .iastore, .aload 0, .dup, .getfield 289, .iconst 1, .iadd, .putfield 289, .iinc 2 (-8), .goto 1]), ([], [.return_])])
/-- BannerParade$Tokens.begin(I)V -/
def xM83 : XT := (2, 2, 9, 0, [], [([0, 1], [.aload 0, .iconst 0, .iload 1, .aload 0, .getfield 288, .arraylength, .invokestatic 386, .invokestatic 385, .putfield 290, .aload 0, .iconst 0, .putfield 292, .return_])])
/-- BannerParade$Tokens.readToken()V -/
def xM84 : XT := (1, 1, 9, 0, [], [([0], [.aload 0, .getfield 292, .aload 0, .getfield 290, .if_icmp .ge 3, .goto_w 1]), ([0], [.aload 0, .getfield 288, .aload 0, .getfield 292, .iaload, .iconst 32, .if_icmp .ne 3, .goto_w 2]), ([0], [.aload 0, .dup, .getfield 292, .iconst 1, .iadd, .putfield 292, .goto 0]), ([0], [.aload 0, .aload 0, .getfield 292, .putfield 291, .aload 0, .getfield 291, .aload 0, .getfield 290, .if_icmp .lt 5, .goto_w 4]), ([0], [.aload 0, .iconst 0, .putfield 293, .goto 15]), ([0], [.aload 0, .getfield 288, .aload 0, .getfield 291, .iaload, .iconst 97, .if_icmp .lt 8, .goto_w 6]), ([0], [.aload 0, .getfield 288, .aload 0, .getfield 291, .iaload, .iconst 122, .if_icmp .gt 8, .goto_w 7]), ([0], [.aload 0, .invokevirtual 85, .goto 15]), ([0], [.aload 0, .getfield 288, .aload 0, .getfield 291, .iaload, .iconst 48, .if_icmp .lt 11, .goto_w 9]), ([0], [.aload 0, .getfield 288, .aload 0, .getfield 291, .iaload, .iconst 57, .if_icmp .gt 11, .goto_w 10]), ([0], [.aload 0, .invokevirtual 86, .goto 15]), ([0], [.aload 0, .aload 0, .getfield 288, .aload 0, .getfield 291, .iaload, .iconst 59, .if_icmp .ne 13, .goto_w 12]), ([0], [.iconst 3, .goto 14]), ([0], [.iconst 4, .goto_w 14]), ([0], [.putfield 293, .aload 0, .dup, .getfield 292, .iconst 1, .iadd, .putfield 292, .goto_w 15]), ([], [.return_])])
/-- BannerParade$Tokens.readWord()V -/
def xM85 : XT := (1, 1, 9, 0, [], [([0], [.aload 0, .getfield 292, .aload 0, .getfield 290, .if_icmp .ge 4, .goto_w 1]), ([0], [.aload 0, .getfield 288, .aload 0, .getfield 292, .iaload, .iconst 97, .if_icmp .lt 4, .goto_w 2]), ([0], [.aload 0, .getfield 288, .aload 0, .getfield 292, .iaload, .iconst 122, .if_icmp .gt 4, .goto_w 3]), ([0], [.aload 0, .dup, .getfield 292, .iconst 1, .iadd, .putfield 292, .goto 0]), ([0], [.aload 0, .aload 0, .getfield 292, .aload 0, .getfield 291, .isub, .iconst 8, .if_icmp .gt 6, .goto_w 5]), ([], [.iconst 1, .goto 7]), ([], [.iconst 4, .goto_w 7]), ([], [.putfield 293, .return_])])
/-- BannerParade$Tokens.readDigits()V -/
def xM86 : XT := (1, 1, 9, 0, [], [([0], [.aload 0, .iconst 0, .putfield 294, .goto_w 1]), ([0], [.aload 0, .getfield 292, .aload 0, .getfield 290, .if_icmp .ge 5, .goto_w 2]), ([0], [.aload 0, .getfield 288, .aload 0, .getfield 292, .iaload, .iconst 48, .if_icmp .lt 5, .goto_w 3]), ([0], [.aload 0, .getfield 288, .aload 0, .getfield 292, .iaload, .iconst 57, .if_icmp .gt 5, .goto_w 4]), ([0], [.aload 0, .aload 0, .getfield 294, .iconst 10, .imul, .aload 0, .getfield 288, .aload 0, .getfield 292, .iaload, .iadd, .iconst 48, .isub, .putfield 294, .aload 0, .dup, .getfield 292, .iconst 1, .iadd, .putfield 292, .goto 1]), ([0], [.aload 0, .aload 0, .getfield 292, .aload 0, .getfield 291, .isub, .iconst 4, .if_icmp .gt 7, .goto_w 6]), ([], [.iconst 2, .goto 8]), ([], [.iconst 4, .goto_w 8]), ([], [.putfield 293, .return_])])
/-- BannerParade$Tokens.wordLength()I -/
def xM87 : XT := (1, 1, 9, 1, [], [([0], [.aload 0, .getfield 293, .iconst 1, .if_icmp .ne 2, .goto_w 1]), ([0], [.aload 0, .getfield 292, .aload 0, .getfield 291, .isub, .goto 3]), ([], [.iconst 0, .goto_w 3]), ([], [.ireturn])])
/-- BannerParade$Tokens.byteOfToken(I)I -/
def xM88 : XT := (2, 3, 9, 1, [], [([0, 1], [.aload 0, .getfield 291, .iload 1, .iadd, .istore 2, .iload 1, .ifCond .lt 5, .goto_w 1]), ([0, 2], [.iload 2, .ifCond .lt 5, .goto_w 2]), ([0, 2], [.iload 2, .aload 0, .getfield 292, .if_icmp .ge 5, .goto_w 3]), ([0, 2], [.iload 2, .aload 0, .getfield 288, .arraylength, .if_icmp .ge 5, .goto_w 4]), ([0, 2], [.aload 0, .getfield 288, .iload 2, .iaload, .goto 6]), ([], [.iconst (-1), .goto_w 6]), ([], [.ireturn])])
/-- BannerParade$Tokens.isWord(Ljava/lang/String;)Z -/
def xM89 : XT := (2, 3, 9, 2, [], [([0, 1], [.aload 0, .invokevirtual 87, .aload 1, .invokevirtual 391, .if_icmp .eq 2, .goto_w 1]), ([], [.iconst 0, .ireturn]), ([0, 1], [.iconst 0, .istore 2, .goto_w 3]), ([0, 1, 2], [.iload 2, .aload 1, .invokevirtual 391, .if_icmp .ge 7, .goto_w 4]), ([0, 1, 2], [.aload 0, .iload 2, .invokevirtual 88, .aload 1, .iload 2, .invokevirtual 392, .if_icmp .eq 6, .goto_w 5]), ([], [.iconst 0, .ireturn]), ([0, 1, 2], [.iinc 2 1, .goto 3]), ([], [.iconst 1, .ireturn])])
/-- BannerParade.<init>()V -/
def xM90 : XT := (1, 1, 10, 0, [], [([0], [.aload 0, .monitorexit, .aload 0, .new 3, .dup, .invokespecial 18, .putfield 320, .aload 0, .new 8, .dup, .invokespecial 67, .putfield 321, .aload 0, .new 8, .dup, .invokespecial 67, .putfield 322, .aload 0, .new 6, .dup, .invokespecial 41, .putfield 323, .aload 0, .new 2, .dup, .invokespecial 10, .putfield 324, .aload 0, .new 5, .dup, .invokespecial 32, .putfield 325, .aload 0, .new 0, .dup, .invokespecial 0, .putfield 326, .aload 0, .iconst 0, .putfield 327, .return_])])
/-- BannerParade.append(IIIII)I -/
def xM91 : XT := (6, 6, 10, 1, [], [([0, 1, 2, 3, 4, 5], [.aload 0, .getfield 320, .getfield 96, .iload 1, .iload 2, .iload 3, .iload 4, .iload 5, .invokevirtual 81, .ireturn])])
/-- BannerParade.load(I)I -/
def xM92 : XT := (2, 3, 10, 1, [], [([0, 1], [.iload 1, .ifCond .lt 2, .goto_w 1]), ([0, 1], [.iload 1, .aload 0, .getfield 320, .getfield 96, .getfield 289, .if_icmp .le 3, .goto_w 2]), ([], [.checkcast 2]), ([0, 1], [.aload 0, .getfield 320, .iload 1, .invokevirtual 19, .istore 2, .aload 0, .getfield 320, .getfield 96, .iconst 0, .putfield 289, .iload 2, .invokestatic 160, .aload 0, .getfield 321, .aload 0, .getfield 320, .getfield 97, .invokevirtual 68, .aload 0, .getfield 323, .aload 0, .getfield 320, .getfield 98, .invokevirtual 42, .aload 0, .getfield 324, .invokevirtual 11, .aload 0, .getfield 324, .invokevirtual 12, .aload 0, .iconst 1, .putfield 327, .aload 0, .getfield 321, .getfield 262, .getfield 224, .ireturn])])
/-- BannerParade.parseError()I -/
def xM93 : XT := (1, 1, 10, 1, [], [([0], [.aload 0, .getfield 320, .getfield 99, .ireturn])])
/-- BannerParade.errorPosition()I -/
def xM94 : XT := (1, 1, 10, 1, [], [([0], [.aload 0, .getfield 320, .getfield 100, .ireturn])])
/-- BannerParade.buffered()I -/
def xM95 : XT := (1, 1, 10, 1, [], [([0], [.aload 0, .getfield 320, .getfield 96, .getfield 289, .ireturn])])
/-- BannerParade.count(I)I -/
def xM96 : XT := (2, 2, 10, 1, [], [([0, 1], [.aload 0, .invokevirtual 155, .iload 1, .iconst 0, .iconst 16, .invokestatic 159, .iload 1, .tableswitch 17 0 15 #[1, 2, 3, 4, 5, 6, 7, 8, 9, 10, 11, 12, 13, 14, 15, 16]]), ([0], [.aload 0, .getfield 321, .getfield 262, .getfield 224, .ireturn]), ([0], [.aload 0, .getfield 323, .getfield 192, .ireturn]), ([0], [.aload 0, .getfield 321, .getfield 264, .getfield 128, .ireturn]), ([0], [.aload 0, .getfield 321, .getfield 256, .ireturn]), ([0], [.aload 0, .getfield 321, .getfield 262, .invokevirtual 55, .ireturn]), ([0], [.aload 0, .getfield 321, .getfield 263, .getfield 32, .ireturn]), ([0], [.aload 0, .getfield 321, .getfield 257, .ireturn]), ([0], [.aload 0, .getfield 321, .getfield 264, .iconst 2, .invokevirtual 30, .ireturn]), ([0], [.aload 0, .getfield 321, .getfield 258, .ireturn]), ([0], [.aload 0, .getfield 321, .getfield 259, .ireturn]), ([0], [.aload 0, .invokevirtual 166, .invokestatic 383, .ireturn]), ([0], [.aload 0, .getfield 321, .getfield 264, .iconst 0, .invokevirtual 30, .ireturn]), ([0], [.aload 0, .getfield 321, .getfield 262, .iconst 0, .invokevirtual 62, .invokestatic 383, .ireturn]), ([0], [.aload 0, .getfield 321, .getfield 262, .invokevirtual 57, .ireturn]), ([0], [.aload 0, .getfield 321, .getfield 262, .aload 0, .getfield 321, .getfield 260, .iconst 0, .iaload, .invokevirtual 58, .ireturn]), ([0], [.aload 0, .getfield 321, .getfield 262, .invokevirtual 59, .ireturn]), ([0], [.aload 0, .invokevirtual 167, .ireturn])])
/-- BannerParade.setting(I)I -/
def xM97 : XT := (2, 2, 10, 1, [], [([0, 1], [.aload 0, .invokevirtual 155, .iload 1, .iconst 0, .iconst 5, .invokestatic 159, .aload 0, .getfield 321, .getfield 260, .iload 1, .iaload, .ireturn])])
/-- BannerParade.bearer(II)I -/
def xM98 : XT := (3, 4, 10, 1, [], [([0, 1, 2], [.aload 0, .invokevirtual 155, .aload 0, .iload 1, .invokevirtual 156, .iload 2, .iconst 0, .iconst 12, .invokestatic 159, .aload 0, .getfield 321, .getfield 262, .astore 3, .iload 2, .tableswitch 13 0 11 #[1, 2, 3, 4, 5, 6, 7, 8, 9, 10, 11, 12]]), ([1, 3], [.aload 3, .getfield 229, .iload 1, .iaload, .ireturn]), ([1, 3], [.aload 3, .getfield 230, .iload 1, .iaload, .ireturn]), ([1, 3], [.aload 3, .getfield 226, .iload 1, .iaload, .ireturn]), ([1, 3], [.aload 3, .getfield 227, .iload 1, .iaload, .ireturn]), ([1, 3], [.aload 3, .getfield 228, .iload 1, .iaload, .ireturn]), ([1, 3], [.aload 3, .iload 1, .invokevirtual 50, .ireturn]), ([1, 3], [.aload 3, .iload 1, .invokevirtual 51, .ireturn]), ([1, 3], [.aload 3, .getfield 232, .iload 1, .iaload, .ireturn]), ([1, 3], [.aload 3, .getfield 225, .iload 1, .iaload, .ireturn]), ([0, 1], [.aload 0, .iload 1, .invokevirtual 168, .ireturn]), ([1, 3], [.aload 3, .getfield 230, .iconst 0, .iaload, .aload 3, .getfield 230, .iload 1, .iaload, .isub, .ireturn]), ([1, 3], [.aload 3, .aload 3, .getfield 228, .iload 1, .iaload, .invokevirtual 63, .ireturn]), ([0, 1, 3], [.aload 0, .getfield 321, .getfield 263, .aload 3, .getfield 230, .iload 1, .iaload, .aload 3, .getfield 230, .iload 1, .iaload, .invokevirtual 7, .ifCond .le 15, .goto_w 14]), ([], [.iconst 1, .goto 16]), ([], [.iconst 0, .goto_w 16]), ([], [.ireturn])])
/-- BannerParade.stand(II)I -/
def xM99 : XT := (3, 4, 10, 1, [], [([0, 1, 2], [.aload 0, .invokevirtual 155, .aload 0, .iload 1, .invokevirtual 157, .iload 2, .iconst 0, .iconst 8, .invokestatic 159, .aload 0, .getfield 321, .getfield 260, .iconst 1, .iaload, .istore 3, .iload 2, .tableswitch 9 0 7 #[1, 2, 3, 4, 5, 6, 7, 8]]), ([0, 1], [.aload 0, .getfield 323, .getfield 193, .iload 1, .iaload, .ireturn]), ([0, 1], [.aload 0, .getfield 323, .getfield 194, .iload 1, .iaload, .ireturn]), ([0, 1], [.aload 0, .getfield 323, .getfield 195, .iload 1, .iaload, .ireturn]), ([0, 1], [.aload 0, .getfield 321, .getfield 261, .iload 1, .iaload, .ireturn]), ([0, 1], [.aload 0, .iload 1, .invokevirtual 169, .invokestatic 383, .ireturn]), ([0, 1], [.aload 0, .iload 1, .invokevirtual 161, .getfield 160, .ireturn]), ([0, 1], [.aload 0, .getfield 321, .getfield 262, .aload 0, .getfield 323, .getfield 194, .iload 1, .iaload, .invokevirtual 66, .ireturn]), ([0, 1, 3], [.aload 0, .getfield 321, .getfield 262, .aload 0, .getfield 323, .getfield 194, .iload 1, .iaload, .iload 3, .iadd, .invokevirtual 64, .ireturn]), ([0, 1, 3], [.aload 0, .getfield 321, .getfield 262, .aload 0, .getfield 323, .getfield 194, .iload 1, .iaload, .iload 3, .isub, .invokevirtual 65, .ireturn])])
/-- BannerParade.plan(II)I -/
def xM100 : XT := (3, 4, 10, 1, [], [([0, 1, 2], [.aload 0, .invokevirtual 155, .aload 0, .getfield 321, .getfield 264, .astore 3, .iload 1, .aload 3, .getfield 128, .invokestatic 158, .iload 2, .iconst 0, .iconst 3, .invokestatic 159, .iload 2, .tableswitch 4 0 2 #[1, 2, 3]]), ([1, 3], [.aload 3, .getfield 129, .iload 1, .iaload, .ireturn]), ([1, 3], [.aload 3, .getfield 130, .iload 1, .iaload, .ireturn]), ([1, 3], [.aload 3, .getfield 131, .iload 1, .iaload, .ireturn]), ([0, 1, 3], [.aload 3, .getfield 131, .iload 1, .iaload, .ifCond .ne 6, .goto_w 5]), ([0, 1, 3], [.aload 3, .getfield 129, .iload 1, .iaload, .aload 0, .getfield 321, .getfield 256, .isub, .goto 7]), ([], [.iconst (-1), .goto_w 7]), ([], [.ireturn])])
/-- BannerParade.lying(II)I -/
def xM101 : XT := (3, 4, 10, 1, [], [([0, 1, 2], [.aload 0, .invokevirtual 155, .aload 0, .getfield 321, .getfield 263, .astore 3, .iload 1, .aload 3, .getfield 32, .invokestatic 158, .iload 2, .iconst 0, .iconst 2, .invokestatic 159, .iload 2, .lookupswitch 3 #[(0, 1), (1, 2)]]), ([1, 3], [.aload 3, .getfield 33, .iload 1, .iaload, .ireturn]), ([1, 3], [.aload 3, .getfield 34, .iload 1, .iaload, .ireturn]), ([1, 3], [.aload 3, .getfield 35, .iload 1, .iaload, .ireturn])])
/-- BannerParade.wordByte(II)I -/
def xM102 : XT := (3, 3, 10, 1, [], [([0, 1, 2], [.aload 0, .invokevirtual 155, .aload 0, .iload 1, .invokevirtual 157, .aload 0, .getfield 323, .iload 1, .iload 2, .invokevirtual 45, .ireturn])])
/-- BannerParade.readByte(II)I -/
def xM103 : XT := (3, 3, 10, 1, [], [([0, 1, 2], [.aload 0, .invokevirtual 155, .aload 0, .iload 1, .invokevirtual 157, .aload 0, .iload 1, .invokevirtual 161, .iload 2, .invokevirtual 35, .ireturn])])
/-- BannerParade.seen(I)I -/
def xM104 : XT := (2, 2, 10, 1, [], [([0, 1], [.aload 0, .invokevirtual 155, .aload 0, .iload 1, .invokevirtual 157, .aload 0, .iload 1, .invokevirtual 169, .ireturn])])
/-- BannerParade.matches(I)I -/
def xM105 : XT := (2, 2, 10, 1, [], [([0, 1], [.aload 0, .invokevirtual 155, .aload 0, .iload 1, .invokevirtual 157, .aload 0, .iload 1, .invokevirtual 161, .aload 0, .getfield 323, .iload 1, .invokevirtual 37, .ireturn])])
/-- BannerParade.isRead(I)Z -/
def xM106 : XT := (2, 2, 10, 2, [], [([0, 1], [.aload 0, .invokevirtual 155, .aload 0, .iload 1, .invokevirtual 157, .aload 0, .iload 1, .invokevirtual 161, .aload 0, .getfield 323, .iload 1, .invokevirtual 39, .ireturn])])
/-- BannerParade.share(I)F -/
def xM107 : XT := (2, 2, 10, 6, [], [([0, 1], [.aload 0, .invokevirtual 155, .aload 0, .iload 1, .invokevirtual 157, .aload 0, .iload 1, .invokevirtual 161, .aload 0, .getfield 323, .iload 1, .invokevirtual 40, .freturn])])
/-- BannerParade.shareBits(I)I -/
def xM108 : XT := (2, 2, 10, 1, [], [([0, 1], [.aload 0, .invokevirtual 155, .aload 0, .iload 1, .invokevirtual 157, .aload 0, .iload 1, .invokevirtual 161, .aload 0, .getfield 323, .iload 1, .invokevirtual 40, .invokestatic 170, .ireturn])])
/-- BannerParade.missing(I)I -/
def xM109 : XT := (2, 4, 10, 1, [], [([0, 1], [.aload 0, .invokevirtual 155, .aload 0, .iload 1, .invokevirtual 157, .iconst 0, .istore 2, .iconst 1, .istore 3, .goto_w 1]), ([0, 1, 2, 3], [.iload 3, .iconst 26, .if_icmp .gt 3, .goto_w 2]), ([0, 1, 2, 3], [.iload 2, .iconst 0, .aload 0, .getfield 323, .iload 1, .iload 3, .invokevirtual 46, .aload 0, .getfield 321, .getfield 262, .iload 3, .invokevirtual 56, .isub, .invokestatic 385, .iadd, .istore 2, .iinc 3 1, .goto 1]), ([2], [.iload 2, .ireturn])])
/-- BannerParade.seenAt(II)I -/
def xM110 : XT := (3, 3, 10, 1, [], [([0, 1, 2], [.aload 0, .invokevirtual 155, .aload 0, .iload 1, .invokevirtual 157, .aload 0, .iload 1, .invokevirtual 161, .iload 2, .invokevirtual 36, .ireturn])])
/-- BannerParade.blanks(I)I -/
def xM111 : XT := (2, 3, 10, 1, [], [([0, 1], [.aload 0, .invokevirtual 155, .aload 0, .iload 1, .invokevirtual 157, .aload 0, .iload 1, .invokevirtual 161, .astore 2, .aload 2, .getfield 160, .aload 2, .getfield 161, .isub, .ireturn])])
/-- BannerParade.prefix(I)I -/
def xM112 : XT := (2, 2, 10, 1, [], [([0, 1], [.aload 0, .invokevirtual 155, .aload 0, .iload 1, .invokevirtual 157, .aload 0, .iload 1, .invokevirtual 161, .aload 0, .getfield 323, .iload 1, .invokevirtual 38, .ireturn])])
/-- BannerParade.holder(I)I -/
def xM113 : XT := (2, 3, 10, 1, [], [([0, 1], [.aload 0, .invokevirtual 155, .iload 1, .iconst 1, .iconst 26, .invokestatic 159, .iconst 0, .istore 2, .goto_w 1]), ([0, 1, 2], [.iload 2, .aload 0, .getfield 321, .getfield 262, .getfield 224, .if_icmp .ge 5, .goto_w 2]), ([0, 1, 2], [.aload 0, .getfield 321, .getfield 262, .getfield 229, .iload 2, .iaload, .iload 1, .if_icmp .ne 4, .goto_w 3]), ([2], [.iload 2, .ireturn]), ([0, 1, 2], [.iinc 2 1, .goto 1]), ([], [.iconst (-1), .ireturn])])
/-- BannerParade.copies(I)I -/
def xM114 : XT := (2, 2, 10, 1, [], [([0, 1], [.aload 0, .invokevirtual 155, .iload 1, .iconst 1, .iconst 26, .invokestatic 159, .aload 0, .getfield 321, .getfield 262, .iload 1, .invokevirtual 56, .aload 0, .getfield 321, .getfield 263, .iload 1, .invokevirtual 9, .iadd, .ireturn])])
/-- BannerParade.tired(I)I -/
def xM115 : XT := (2, 2, 10, 1, [], [([0, 1], [.aload 0, .invokevirtual 155, .iload 1, .iconst 0, .iconst 100, .invokestatic 159, .aload 0, .getfield 321, .getfield 262, .iload 1, .invokevirtual 62, .ireturn])])
/-- BannerParade.swappers()I -/
def xM116 : XT := (1, 3, 10, 1, [], [([0], [.aload 0, .invokevirtual 155, .iconst 0, .istore 1, .iconst 0, .istore 2, .goto_w 1]), ([0, 1, 2], [.iload 2, .aload 0, .getfield 321, .getfield 262, .getfield 224, .if_icmp .ge 5, .goto_w 2]), ([0, 1, 2], [.aload 0, .getfield 321, .iload 2, .invokevirtual 74, .ifCond .eq 4, .goto_w 3]), ([0, 1, 2], [.iload 1, .iconst 1, .iload 2, .ishl, .ior, .istore 1, .goto_w 4]), ([0, 1, 2], [.iinc 2 1, .goto 1]), ([1], [.iload 1, .ireturn])])
/-- BannerParade.nextPlan()I -/
def xM117 : XT := (1, 1, 10, 1, [], [([0], [.aload 0, .invokevirtual 155, .aload 0, .getfield 321, .getfield 264, .invokevirtual 31, .ireturn])])
/-- BannerParade.lyingFrom(II)I -/
def xM118 : XT := (3, 3, 10, 1, [], [([0, 1, 2], [.aload 0, .invokevirtual 155, .aload 0, .getfield 321, .getfield 263, .iload 1, .iload 2, .invokevirtual 7, .ireturn])])
/-- BannerParade.bestStand()I -/
def xM119 : XT := (1, 5, 10, 1, [], [([0], [.aload 0, .invokevirtual 155, .iconst (-1), .istore 1, .ldc_w 3212836864, .fstore 2, .iconst 0, .istore 3, .goto_w 1]), ([0, 1, 2, 3], [.iload 3, .aload 0, .getfield 323, .getfield 192, .if_icmp .ge 5, .goto_w 2]), ([0, 1, 2, 3], [.aload 0, .iload 3, .invokevirtual 161, .aload 0, .getfield 323, .iload 3, .invokevirtual 40, .fstore 4, .fload 4, .fload 2, .fcmp .l, .ifCond .le 4, .goto_w 3]), ([0, 3, 4], [.iload 3, .istore 1, .fload 4, .fstore 2, .goto_w 4]), ([0, 1, 2, 3], [.iinc 3 1, .goto 1]), ([1], [.iload 1, .ireturn])])
/-- BannerParade.readStands()I -/
def xM120 : XT := (1, 1, 10, 1, [], [([0], [.aload 0, .invokevirtual 155, .aload 0, .invokevirtual 166, .ireturn])])
/-- BannerParade.weakest()I -/
def xM121 : XT := (1, 3, 10, 1, [], [([0], [.aload 0, .invokevirtual 155, .iconst (-1), .istore 1, .iconst 0, .istore 2, .goto_w 1]), ([0, 1, 2], [.iload 2, .aload 0, .getfield 321, .getfield 262, .getfield 224, .if_icmp .ge 6, .goto_w 2]), ([0, 1, 2], [.iload 1, .iconst (-1), .if_icmp .eq 4, .goto_w 3]), ([0, 1, 2], [.aload 0, .getfield 321, .getfield 262, .getfield 228, .iload 2, .iaload, .aload 0, .getfield 321, .getfield 262, .getfield 228, .iload 1, .iaload, .if_icmp .ge 5, .goto_w 4]), ([0, 2], [.iload 2, .istore 1, .goto_w 5]), ([0, 1, 2], [.iinc 2 1, .goto 1]), ([1], [.iload 1, .ireturn])])
/-- BannerParade.widest()I -/
def xM122 : XT := (1, 3, 10, 1, [], [([0], [.aload 0, .invokevirtual 155, .iconst (-1), .istore 1, .iconst 1, .istore 2, .goto_w 1]), ([0, 1, 2], [.iload 2, .aload 0, .getfield 321, .getfield 262, .getfield 224, .if_icmp .ge 6, .goto_w 2]), ([0, 1, 2], [.iload 1, .iconst (-1), .if_icmp .eq 4, .goto_w 3]), ([0, 1, 2], [.aload 0, .getfield 321, .getfield 262, .iload 2, .invokevirtual 51, .aload 0, .getfield 321, .getfield 262, .iload 1, .invokevirtual 51, .if_icmp .le 5, .goto_w 4]), ([0, 2], [.iload 2, .istore 1, .goto_w 5]), ([0, 1, 2], [.iinc 2 1, .goto 1]), ([1], [.iload 1, .ireturn])])
/-- BannerParade.stretch()I -/
def xM123 : XT := (1, 2, 10, 1, [], [([0], [.aload 0, .invokevirtual 155, .aload 0, .getfield 321, .getfield 262, .astore 1, .aload 1, .getfield 224, .iconst 2, .if_icmp .ge 2, .goto_w 1]), ([], [.iconst 0, .goto 3]), ([1], [.aload 1, .getfield 230, .iconst 0, .iaload, .aload 1, .getfield 230, .aload 1, .getfield 224, .iconst 1, .isub, .iaload, .isub, .goto_w 3]), ([], [.ireturn])])
/-- BannerParade.meanStrength()D -/
def xM124 : XT := (1, 1, 10, 7, [], [([0], [.aload 0, .invokevirtual 155, .aload 0, .getfield 321, .getfield 262, .invokevirtual 61, .dreturn])])
/-- BannerParade.strengthBits()J -/
def xM125 : XT := (1, 1, 10, 5, [], [([0], [.aload 0, .invokevirtual 155, .aload 0, .getfield 321, .getfield 262, .invokevirtual 61, .invokestatic 171, .lreturn])])
/-- BannerParade.readsIn(I)I -/
def xM126 : XT := (2, 3, 10, 1, [], [([0, 1], [.aload 0, .invokevirtual 155, .aload 0, .iload 1, .invokevirtual 157, .aload 0, .getfield 322, .aload 0, .getfield 321, .invokevirtual 68, .iconst 0, .istore 2, .goto_w 1]), ([0, 1, 2], [.iload 2, .iconst 300, .if_icmp .ge 5, .goto_w 2]), ([0, 1, 2], [.aload 0, .iload 1, .invokevirtual 162, .aload 0, .getfield 323, .iload 1, .invokevirtual 39, .ifCond .eq 4, .goto_w 3]), ([2], [.iload 2, .ireturn]), ([0, 1, 2], [.aload 0, .getfield 322, .invokevirtual 70, .iinc 2 1, .goto 1]), ([0, 1], [.aload 0, .iload 1, .invokevirtual 162, .aload 0, .getfield 323, .iload 1, .invokevirtual 39, .ifCond .eq 7, .goto_w 6]), ([], [.iconst 300, .goto 8]), ([], [.iconst (-1), .goto_w 8]), ([], [.ireturn])])
/-- BannerParade.passedIn(I)I -/
def xM127 : XT := (2, 4, 10, 1, [], [([0, 1], [.aload 0, .invokevirtual 155, .aload 0, .iload 1, .invokevirtual 157, .aload 0, .getfield 323, .getfield 194, .iload 1, .iaload, .aload 0, .getfield 321, .getfield 260, .iconst 1, .iaload, .iadd, .istore 2, .aload 0, .getfield 322, .aload 0, .getfield 321, .invokevirtual 68, .iconst 0, .istore 3, .goto_w 1]), ([0, 2, 3], [.iload 3, .iconst 300, .if_icmp .ge 5, .goto_w 2]), ([0, 2, 3], [.aload 0, .getfield 322, .getfield 262, .iload 2, .invokevirtual 64, .aload 0, .getfield 322, .getfield 262, .getfield 224, .if_icmp .ne 4, .goto_w 3]), ([3], [.iload 3, .ireturn]), ([0, 2, 3], [.aload 0, .getfield 322, .invokevirtual 70, .iinc 3 1, .goto 1]), ([0, 2], [.aload 0, .getfield 322, .getfield 262, .iload 2, .invokevirtual 64, .aload 0, .getfield 322, .getfield 262, .getfield 224, .if_icmp .ne 7, .goto_w 6]), ([], [.iconst 300, .goto 8]), ([], [.iconst (-1), .goto_w 8]), ([], [.ireturn])])
/-- BannerParade.placeIn(II)I -/
def xM128 : XT := (3, 3, 10, 1, [], [([0, 1, 2], [.aload 0, .invokevirtual 155, .aload 0, .iload 1, .invokevirtual 156, .iload 2, .iconst 0, .iconst 300, .invokestatic 159, .aload 0, .iload 2, .invokevirtual 163, .aload 0, .getfield 322, .getfield 262, .getfield 230, .iload 1, .iaload, .ireturn])])
/-- BannerParade.strengthIn(II)I -/
def xM129 : XT := (3, 3, 10, 1, [], [([0, 1, 2], [.aload 0, .invokevirtual 155, .aload 0, .iload 1, .invokevirtual 156, .iload 2, .iconst 0, .iconst 300, .invokestatic 159, .aload 0, .iload 2, .invokevirtual 163, .aload 0, .getfield 322, .getfield 262, .getfield 228, .iload 1, .iaload, .ireturn])])
/-- BannerParade.bannerIn(II)I -/
def xM130 : XT := (3, 3, 10, 1, [], [([0, 1, 2], [.aload 0, .invokevirtual 155, .aload 0, .iload 1, .invokevirtual 156, .iload 2, .iconst 0, .iconst 300, .invokestatic 159, .aload 0, .iload 2, .invokevirtual 163, .aload 0, .getfield 322, .getfield 262, .getfield 229, .iload 1, .iaload, .ireturn])])
/-- BannerParade.dropsIn(I)I -/
def xM131 : XT := (2, 2, 10, 1, [], [([0, 1], [.aload 0, .invokevirtual 155, .iload 1, .iconst 0, .iconst 300, .invokestatic 159, .aload 0, .iload 1, .invokevirtual 163, .aload 0, .getfield 322, .getfield 258, .aload 0, .getfield 321, .getfield 258, .isub, .ireturn])])
/-- BannerParade.firstDrop()I -/
def xM132 : XT := (1, 1, 10, 1, [], [([0], [.aload 0, .invokevirtual 155, .aload 0, .getfield 322, .aload 0, .getfield 321, .invokevirtual 68, .aload 0, .iconst 300, .invokevirtual 164, .ireturn])])
/-- BannerParade.shareIn(II)F -/
def xM133 : XT := (3, 3, 10, 6, [], [([0, 1, 2], [.aload 0, .invokevirtual 155, .aload 0, .iload 1, .invokevirtual 157, .iload 2, .iconst 0, .iconst 300, .invokestatic 159, .aload 0, .iload 2, .invokevirtual 163, .aload 0, .iload 1, .invokevirtual 162, .aload 0, .getfield 323, .iload 1, .invokevirtual 40, .freturn])])
/-- BannerParade.bestShare(II)F -/
def xM134 : XT := (3, 6, 10, 6, [], [([0, 1, 2], [.aload 0, .invokevirtual 155, .aload 0, .iload 1, .invokevirtual 157, .iload 2, .iconst 0, .iconst 300, .invokestatic 159, .aload 0, .getfield 322, .aload 0, .getfield 321, .invokevirtual 68, .aload 0, .iload 1, .invokevirtual 162, .aload 0, .getfield 323, .iload 1, .invokevirtual 40, .fstore 3, .iconst 0, .istore 4, .goto_w 1]), ([0, 1, 2, 3, 4], [.iload 4, .iload 2, .if_icmp .ge 6, .goto_w 2]), ([0, 1, 2, 3, 4], [.aload 0, .getfield 322, .invokevirtual 70, .aload 0, .iload 1, .invokevirtual 162, .aload 0, .getfield 323, .iload 1, .invokevirtual 40, .fstore 5, .fload 5, .fload 3, .fcmp .l, .ifCond .le 4, .goto_w 3]), ([0, 1, 2, 4, 5], [.fload 5, .goto 5]), ([0, 1, 2, 3, 4], [.fload 3, .goto_w 5]), ([0, 1, 2, 4], [.fstore 3, .iinc 4 1, .goto 1]), ([3], [.fload 3, .freturn])])
/-- BannerParade.bestSwap(I)I -/
def xM135 : XT := (2, 6, 10, 1, [], [([0, 1], [.aload 0, .invokevirtual 155, .aload 0, .iload 1, .invokevirtual 157, .iconst (-1), .istore 2, .aload 0, .iload 1, .invokevirtual 161, .aload 0, .getfield 323, .iload 1, .invokevirtual 40, .fstore 3, .aload 0, .getfield 322, .aload 0, .getfield 321, .invokevirtual 68, .iconst 0, .istore 4, .goto_w 1]), ([0, 1, 2, 3, 4], [.iload 4, .iconst 1, .iadd, .aload 0, .getfield 322, .getfield 262, .getfield 224, .if_icmp .ge 5, .goto_w 2]), ([0, 1, 2, 3, 4], [.aload 0, .getfield 322, .getfield 262, .iload 4, .invokevirtual 53, .aload 0, .iload 1, .invokevirtual 162, .aload 0, .getfield 323, .iload 1, .invokevirtual 40, .fstore 5, .aload 0, .getfield 322, .getfield 262, .iload 4, .invokevirtual 53, .fload 5, .fload 3, .fcmp .l, .ifCond .le 4, .goto_w 3]), ([0, 1, 4, 5], [.iload 4, .istore 2, .fload 5, .fstore 3, .goto_w 4]), ([0, 1, 2, 3, 4], [.iinc 4 1, .goto 1]), ([2], [.iload 2, .ireturn])])
/-- BannerParade.closedIn(I)I -/
def xM136 : XT := (2, 4, 10, 1, [], [([0, 1], [.aload 0, .invokevirtual 155, .aload 0, .iload 1, .invokevirtual 156, .iload 1, .ifCond .ne 2, .goto_w 1]), ([], [.iconst (-1), .ireturn]), ([0, 1], [.aload 0, .getfield 321, .getfield 260, .iconst 0, .iaload, .istore 2, .aload 0, .getfield 322, .aload 0, .getfield 321, .invokevirtual 68, .iconst 0, .istore 3, .goto_w 3]), ([0, 1, 2, 3], [.iload 3, .iconst 300, .if_icmp .ge 7, .goto_w 4]), ([0, 1, 2, 3], [.aload 0, .getfield 322, .getfield 262, .iload 1, .invokevirtual 51, .iload 2, .if_icmp .ne 6, .goto_w 5]), ([3], [.iload 3, .ireturn]), ([0, 1, 2, 3], [.aload 0, .getfield 322, .invokevirtual 70, .iinc 3 1, .goto 3]), ([0, 1, 2], [.aload 0, .getfield 322, .getfield 262, .iload 1, .invokevirtual 51, .iload 2, .if_icmp .ne 9, .goto_w 8]), ([], [.iconst 300, .goto 10]), ([], [.iconst (-1), .goto_w 10]), ([], [.ireturn])])
/-- BannerParade.leastRest()I -/
def xM137 : XT := (1, 2, 10, 1, [], [([0], [.aload 0, .invokevirtual 155, .iconst 0, .istore 1, .goto_w 1]), ([0, 1], [.iload 1, .iconst 50, .if_icmp .gt 5, .goto_w 2]), ([0, 1], [.aload 0, .getfield 322, .aload 0, .getfield 321, .invokevirtual 68, .aload 0, .getfield 322, .getfield 260, .iconst 3, .iload 1, .iastore, .aload 0, .iconst 100, .invokevirtual 164, .iconst (-1), .if_icmp .ne 4, .goto_w 3]), ([1], [.iload 1, .ireturn]), ([0, 1], [.iinc 1 1, .goto 1]), ([], [.iconst (-1), .ireturn])])
/-- BannerParade.writeStand(I)I -/
def xM138 : XT := (2, 4, 10, 1, [], [([0, 1], [.aload 0, .invokevirtual 155, .aload 0, .iload 1, .invokevirtual 157, .aload 0, .iload 1, .invokevirtual 161, .astore 2, .aload 0, .getfield 326, .iconst 0, .putfield 0, .iconst 0, .istore 3, .goto_w 1]), ([0, 2, 3], [.iload 3, .aload 2, .getfield 160, .if_icmp .ge 3, .goto_w 2]), ([0, 2, 3], [.aload 0, .getfield 326, .aload 2, .iload 3, .invokevirtual 35, .invokevirtual 1, .iinc 3 1, .goto 1]), ([0], [.aload 0, .getfield 326, .getfield 0, .ireturn])])
/-- BannerParade.writeRow()I -/
def xM139 : XT := (1, 3, 10, 1, [], [([0], [.aload 0, .invokevirtual 155, .aload 0, .getfield 326, .iconst 0, .putfield 0, .iconst 0, .istore 1, .goto_w 1]), ([0, 1], [.iload 1, .aload 0, .getfield 321, .getfield 262, .getfield 224, .if_icmp .ge 6, .goto_w 2]), ([0, 1], [.aload 0, .getfield 321, .getfield 262, .getfield 229, .iload 1, .iaload, .istore 2, .aload 0, .getfield 326, .iload 2, .ifCond .ne 4, .goto_w 3]), ([0, 1], [.iconst 45, .goto 5]), ([0, 1, 2], [.iconst 96, .iload 2, .iadd, .goto_w 5]), ([0, 1], [.invokevirtual 1, .iinc 1 1, .goto 1]), ([0], [.aload 0, .getfield 326, .getfield 0, .ireturn])])
/-- BannerParade.writePlaces()I -/
def xM140 : XT := (1, 2, 10, 1, [], [([0], [.aload 0, .invokevirtual 155, .aload 0, .getfield 326, .iconst 0, .putfield 0, .iconst 0, .istore 1, .goto_w 1]), ([0, 1], [.iload 1, .aload 0, .getfield 321, .getfield 262, .getfield 224, .if_icmp .ge 5, .goto_w 2]), ([0, 1], [.iload 1, .ifCond .le 4, .goto_w 3]), ([0, 1], [.aload 0, .getfield 326, .iconst 44, .invokevirtual 1, .goto_w 4]), ([0, 1], [.aload 0, .getfield 326, .aload 0, .getfield 321, .getfield 262, .getfield 230, .iload 1, .iaload, .invokevirtual 2, .iinc 1 1, .goto 1]), ([0], [.aload 0, .getfield 326, .getfield 0, .ireturn])])
/-- BannerParade.textByte(I)I -/
def xM141 : XT := (2, 2, 10, 1, [], [([0, 1], [.iload 1, .aload 0, .getfield 326, .getfield 0, .invokestatic 158, .aload 0, .getfield 326, .getfield 1, .iload 1, .iaload, .ireturn])])
/-- BannerParade.tick(I)I -/
def xM142 : XT := (2, 4, 10, 1, [], [([0, 1], [.aload 0, .invokevirtual 155, .iload 1, .iconst 1, .iconst 100, .invokestatic 159, .aload 0, .getfield 321, .getfield 256, .iload 1, .iadd, .iconst 5000, .if_icmp .gt 2, .goto_w 1]), ([0, 1], [.iconst 1, .goto 3]), ([0, 1], [.iconst 0, .goto_w 3]), ([0, 1], [.invokestatic 160, .aload 0, .getfield 324, .aload 0, .getfield 321, .invokevirtual 13, .aload 0, .invokevirtual 166, .invokestatic 383, .istore 2, .iconst 0, .istore 3, .goto_w 4]), ([0, 1, 2, 3], [.iload 3, .iload 1, .if_icmp .ge 6, .goto_w 5]), ([0, 1, 2, 3], [.aload 0, .getfield 321, .invokevirtual 70, .aload 0, .invokevirtual 165, .iinc 3 1, .goto 4]), ([0, 2], [.aload 0, .invokevirtual 166, .invokestatic 383, .iload 2, .isub, .ireturn])])
/-- BannerParade.swap(I)I -/
def xM143 : XT := (2, 2, 10, 1, [], [([0, 1], [.aload 0, .invokevirtual 155, .aload 0, .iload 1, .invokevirtual 156, .aload 0, .getfield 321, .iload 1, .invokevirtual 74, .invokestatic 160, .aload 0, .getfield 324, .aload 0, .getfield 321, .invokevirtual 13, .aload 0, .getfield 321, .iload 1, .invokevirtual 75, .aload 0, .getfield 321, .getfield 262, .getfield 229, .iload 1, .iaload, .ireturn])])
/-- BannerParade.drop(I)I -/
def xM144 : XT := (2, 2, 10, 1, [], [([0, 1], [.aload 0, .invokevirtual 155, .aload 0, .iload 1, .invokevirtual 156, .aload 0, .getfield 321, .getfield 262, .getfield 229, .iload 1, .iaload, .ifCond .eq 2, .goto_w 1]), ([0, 1], [.iconst 1, .goto 3]), ([0, 1], [.iconst 0, .goto_w 3]), ([0, 1], [.invokestatic 160, .aload 0, .getfield 324, .aload 0, .getfield 321, .invokevirtual 13, .aload 0, .getfield 321, .iload 1, .invokevirtual 76, .aload 0, .getfield 321, .getfield 263, .getfield 32, .ireturn])])
/-- BannerParade.pick(I)I -/
def xM145 : XT := (2, 3, 10, 1, [], [([0, 1], [.aload 0, .invokevirtual 155, .aload 0, .iload 1, .invokevirtual 156, .aload 0, .getfield 321, .getfield 263, .aload 0, .getfield 321, .getfield 262, .getfield 230, .iload 1, .iaload, .aload 0, .getfield 321, .getfield 262, .getfield 230, .iload 1, .iaload, .invokevirtual 8, .istore 2, .aload 0, .getfield 321, .iload 1, .invokevirtual 77, .ifCond .eq 3, .goto_w 1]), ([0, 1, 2], [.iload 2, .iconst (-1), .if_icmp .eq 3, .goto_w 2]), ([0, 1, 2], [.iconst 1, .goto 4]), ([0, 1, 2], [.iconst 0, .goto_w 4]), ([0, 1, 2], [.invokestatic 160, .aload 0, .getfield 324, .aload 0, .getfield 321, .invokevirtual 13, .aload 0, .getfield 321, .iload 1, .iload 2, .invokevirtual 78, .aload 0, .getfield 321, .getfield 262, .getfield 229, .iload 1, .iaload, .ireturn])])
/-- BannerParade.strengthen(II)I -/
def xM146 : XT := (3, 3, 10, 1, [], [([0, 1, 2], [.aload 0, .invokevirtual 155, .aload 0, .iload 1, .invokevirtual 156, .iload 2, .iconst (-100), .iconst 100, .invokestatic 159, .aload 0, .getfield 324, .aload 0, .getfield 321, .invokevirtual 13, .aload 0, .getfield 321, .getfield 262, .iload 1, .iload 2, .invokevirtual 52, .aload 0, .getfield 321, .getfield 262, .getfield 228, .iload 1, .iaload, .ireturn])])
/-- BannerParade.rest(I)I -/
def xM147 : XT := (2, 3, 10, 1, [], [([0, 1], [.aload 0, .invokevirtual 155, .iload 1, .iconst 1, .iconst 100, .invokestatic 159, .aload 0, .getfield 324, .aload 0, .getfield 321, .invokevirtual 13, .iconst 0, .istore 2, .goto_w 1]), ([0, 1, 2], [.iload 2, .aload 0, .getfield 321, .getfield 262, .getfield 224, .if_icmp .ge 3, .goto_w 2]), ([0, 1, 2], [.aload 0, .getfield 321, .getfield 262, .iload 2, .iload 1, .invokevirtual 52, .iinc 2 1, .goto 1]), ([0], [.aload 0, .getfield 321, .getfield 262, .invokevirtual 60, .ireturn])])
/-- BannerParade.setStep(II)I -/
def xM148 : XT := (3, 4, 10, 1, [], [([0, 1, 2], [.aload 0, .invokevirtual 155, .aload 0, .iload 1, .invokevirtual 156, .iload 2, .iconst 1, .iconst 200, .invokestatic 159, .aload 0, .getfield 324, .aload 0, .getfield 321, .invokevirtual 13, .aload 0, .getfield 321, .getfield 262, .getfield 226, .iload 1, .iaload, .istore 3, .aload 0, .getfield 321, .getfield 262, .getfield 226, .iload 1, .iload 2, .iastore, .iload 3, .ireturn])])
/-- BannerParade.addPlan(II)I -/
def xM149 : XT := (3, 3, 10, 1, [], [([0, 1, 2], [.aload 0, .invokevirtual 155, .aload 0, .iload 2, .invokevirtual 156, .iload 1, .aload 0, .getfield 321, .getfield 256, .iconst 1, .iadd, .iconst 5000, .invokestatic 159, .iload 2, .iconst 1, .iadd, .aload 0, .getfield 321, .getfield 262, .getfield 224, .if_icmp .ge 3, .goto_w 1]), ([0, 1, 2], [.aload 0, .getfield 321, .getfield 264, .getfield 128, .iconst 12, .if_icmp .ge 3, .goto_w 2]), ([0, 1, 2], [.iconst 1, .goto 4]), ([0, 1, 2], [.iconst 0, .goto_w 4]), ([0, 1, 2], [.invokestatic 160, .aload 0, .getfield 324, .aload 0, .getfield 321, .invokevirtual 13, .aload 0, .getfield 321, .getfield 264, .iload 1, .iload 2, .invokevirtual 29, .aload 0, .getfield 321, .getfield 264, .getfield 128, .iconst 1, .isub, .ireturn])])
/-- BannerParade.set(II)I -/
def xM150 : XT := (3, 4, 10, 1, [], [([0, 1, 2], [.aload 0, .invokevirtual 155, .iload 1, .iconst 0, .iconst 5, .invokestatic 159, .iload 2, .getstatic 0, .iload 1, .iaload, .getstatic 1, .iload 1, .iaload, .invokestatic 159, .aload 0, .getfield 324, .aload 0, .getfield 321, .invokevirtual 13, .aload 0, .getfield 321, .getfield 260, .iload 1, .iaload, .istore 3, .aload 0, .getfield 321, .getfield 260, .iload 1, .iload 2, .iastore, .iload 3, .ireturn])])
/-- BannerParade.undo()I -/
def xM151 : XT := (1, 1, 10, 1, [], [([0], [.aload 0, .getfield 324, .getfield 65, .ifCond .ne 2, .goto_w 1]), ([], [.checkcast 0]), ([0], [.aload 0, .getfield 324, .aload 0, .getfield 321, .invokevirtual 14, .aload 0, .getfield 324, .getfield 65, .ireturn])])
/-- BannerParade.undoable()I -/
def xM152 : XT := (1, 1, 10, 1, [], [([0], [.aload 0, .getfield 324, .getfield 65, .ireturn])])
/-- BannerParade.save(I)I -/
def xM153 : XT := (2, 2, 10, 1, [], [([0, 1], [.aload 0, .invokevirtual 155, .iload 1, .iconst 2, .invokestatic 158, .aload 0, .getfield 324, .iload 1, .aload 0, .getfield 321, .invokevirtual 15, .aload 0, .getfield 321, .getfield 256, .ireturn])])
/-- BannerParade.restore(I)I -/
def xM154 : XT := (2, 2, 10, 1, [], [([0, 1], [.iload 1, .iconst 2, .invokestatic 158, .aload 0, .getfield 324, .getfield 68, .iload 1, .baload, .ifCond .ne 2, .goto_w 1]), ([], [.checkcast 0]), ([0, 1], [.aload 0, .getfield 324, .iload 1, .aload 0, .getfield 321, .invokevirtual 16, .aload 0, .getfield 324, .invokevirtual 11, .aload 0, .getfield 321, .getfield 256, .ireturn])])
/-- BannerParade.needLoaded()V -/
def xM155 : XT := (1, 1, 10, 0, [], [([0], [.aload 0, .getfield 327, .ifCond .ne 2, .goto_w 1]), ([], [.checkcast 0]), ([], [.return_])])
/-- BannerParade.needBearer(I)V -/
def xM156 : XT := (2, 2, 10, 0, [], [([0, 1], [.iload 1, .aload 0, .getfield 321, .getfield 262, .getfield 224, .invokestatic 158, .return_])])
/-- BannerParade.needStand(I)V -/
def xM157 : XT := (2, 2, 10, 0, [], [([0, 1], [.iload 1, .aload 0, .getfield 323, .getfield 192, .invokestatic 158, .return_])])
/-- BannerParade.needIndex(II)V -/
def xM158 : XT := (2, 2, 99, 0, [], [([0, 1], [.iload 0, .ifCond .lt 2, .goto_w 1]), ([0, 1], [.iload 0, .iload 1, .if_icmp .lt 3, .goto_w 2]), ([], [.checkcast 2]), ([], [.return_])])
/-- BannerParade.needRange(III)V -/
def xM159 : XT := (3, 3, 99, 0, [], [([0, 1, 2], [.iload 0, .iload 1, .if_icmp .lt 3, .goto_w 1]), ([0, 2], [.iload 0, .iload 2, .if_icmp .gt 3, .goto_w 2]), ([], [.iconst 1, .goto 4]), ([], [.iconst 0, .goto_w 4]), ([], [.invokestatic 160, .return_])])
/-- BannerParade.needArgument(Z)V -/
def xM160 : XT := (1, 1, 99, 0, [], [([0], [.iload 0, .ifCond .ne 2, .goto_w 1]), ([], [.checkcast 1]), ([], [.return_])])
/-- BannerParade.readNow(I)LBannerParade$Reading; -/
def xM161 : XT := (2, 2, 10, 8, [], [([0, 1], [.aload 0, .getfield 325, .aload 0, .getfield 321, .aload 0, .getfield 323, .iload 1, .invokevirtual 33, .aload 0, .getfield 325, .areturn])])
/-- BannerParade.readLater(I)LBannerParade$Reading; -/
def xM162 : XT := (2, 2, 10, 8, [], [([0, 1], [.aload 0, .getfield 325, .aload 0, .getfield 322, .aload 0, .getfield 323, .iload 1, .invokevirtual 33, .aload 0, .getfield 325, .areturn])])
/-- BannerParade.foresee(I)V -/
def xM163 : XT := (2, 3, 10, 0, [], [([0, 1], [.aload 0, .getfield 322, .aload 0, .getfield 321, .invokevirtual 68, .iconst 0, .istore 2, .goto_w 1]), ([0, 1, 2], [.iload 2, .iload 1, .if_icmp .ge 3, .goto_w 2]), ([0, 1, 2], [.aload 0, .getfield 322, .invokevirtual 70, .iinc 2 1, .goto 1]), ([], [.return_])])
/-- BannerParade.ticksToDrop(I)I -/
def xM164 : XT := (2, 3, 10, 1, [], [([0, 1], [.iconst 1, .istore 2, .goto_w 1]), ([0, 1, 2], [.iload 2, .iload 1, .if_icmp .gt 5, .goto_w 2]), ([0, 1, 2], [.aload 0, .getfield 322, .invokevirtual 70, .aload 0, .getfield 322, .getfield 258, .aload 0, .getfield 321, .getfield 258, .if_icmp .le 4, .goto_w 3]), ([2], [.iload 2, .ireturn]), ([0, 1, 2], [.iinc 2 1, .goto 1]), ([], [.iconst (-1), .ireturn])])
/-- BannerParade.readWords()V -/
def xM165 : XT := (1, 2, 10, 0, [], [([0], [.iconst 0, .istore 1, .goto_w 1]), ([0, 1], [.iload 1, .aload 0, .getfield 323, .getfield 192, .if_icmp .ge 6, .goto_w 2]), ([0, 1], [.aload 0, .getfield 321, .getfield 261, .iload 1, .iaload, .iconst (-1), .if_icmp .ne 5, .goto_w 3]), ([0, 1], [.aload 0, .iload 1, .invokevirtual 161, .aload 0, .getfield 323, .iload 1, .invokevirtual 39, .ifCond .eq 5, .goto_w 4]), ([0, 1], [.aload 0, .getfield 321, .getfield 261, .iload 1, .aload 0, .getfield 321, .getfield 256, .iastore, .goto_w 5]), ([0, 1], [.iinc 1 1, .goto 1]), ([], [.return_])])
/-- BannerParade.standsWithReadWord()I -/
def xM166 : XT := (1, 3, 10, 1, [], [([0], [.iconst 0, .istore 1, .iconst 0, .istore 2, .goto_w 1]), ([0, 1, 2], [.iload 2, .aload 0, .getfield 323, .getfield 192, .if_icmp .ge 5, .goto_w 2]), ([0, 1, 2], [.aload 0, .getfield 321, .getfield 261, .iload 2, .iaload, .iconst (-1), .if_icmp .eq 4, .goto_w 3]), ([0, 1, 2], [.iload 1, .iconst 1, .iload 2, .ishl, .ior, .istore 1, .goto_w 4]), ([0, 1, 2], [.iinc 2 1, .goto 1]), ([1], [.iload 1, .ireturn])])
/-- BannerParade.standsThatSeeAny()I -/
def xM167 : XT := (1, 3, 10, 1, [], [([0], [.iconst 0, .istore 1, .iconst 0, .istore 2, .goto_w 1]), ([0, 1, 2], [.iload 2, .aload 0, .getfield 323, .getfield 192, .if_icmp .ge 5, .goto_w 2]), ([0, 1, 2], [.aload 0, .iload 2, .invokevirtual 169, .ifCond .eq 4, .goto_w 3]), ([0, 1, 2], [.iinc 1 1, .goto_w 4]), ([0, 1, 2], [.iinc 2 1, .goto 1]), ([1], [.iload 1, .ireturn])])
/-- BannerParade.standsThatSee(I)I -/
def xM168 : XT := (2, 4, 10, 1, [], [([0, 1], [.iconst 0, .istore 2, .iconst 0, .istore 3, .goto_w 1]), ([0, 1, 2, 3], [.iload 3, .aload 0, .getfield 323, .getfield 192, .if_icmp .ge 5, .goto_w 2]), ([0, 1, 2, 3], [.aload 0, .getfield 321, .iload 1, .aload 0, .getfield 323, .getfield 194, .iload 3, .iaload, .invokevirtual 79, .ifCond .eq 4, .goto_w 3]), ([0, 1, 2, 3], [.iinc 2 1, .goto_w 4]), ([0, 1, 2, 3], [.iinc 3 1, .goto 1]), ([2], [.iload 2, .ireturn])])
/-- BannerParade.bearersSeenFrom(I)I -/
def xM169 : XT := (2, 4, 10, 1, [], [([0, 1], [.iconst 0, .istore 2, .iconst 0, .istore 3, .goto_w 1]), ([0, 1, 2, 3], [.iload 3, .aload 0, .getfield 321, .getfield 262, .getfield 224, .if_icmp .ge 5, .goto_w 2]), ([0, 1, 2, 3], [.aload 0, .getfield 321, .iload 3, .aload 0, .getfield 323, .getfield 194, .iload 1, .iaload, .invokevirtual 79, .ifCond .eq 4, .goto_w 3]), ([0, 1, 2, 3], [.iload 2, .iconst 1, .iload 3, .ishl, .ior, .istore 2, .goto_w 4]), ([0, 1, 2, 3], [.iinc 3 1, .goto 1]), ([2], [.iload 2, .ireturn])])
/-- BannerParade.floatBits(F)I -/
def xM170 : XT := (1, 4, 99, 1, [], [([0], [.fload 0, .fconst 0, .fcmp .g, .ifCond .gt 2, .goto_w 1]), ([], [.iconst 0, .ireturn]), ([0], [.iconst 127, .istore 1, .fload 0, .fstore 2, .iconst 0, .istore 3, .goto_w 3]), ([1, 2, 3], [.iload 3, .iconst 60, .if_icmp .ge 6, .goto_w 4]), ([1, 2, 3], [.fload 2, .fconst 1, .fcmp .g, .ifCond .ge 6, .goto_w 5]), ([1, 2, 3], [.fload 2, .fconst 2, .fmul, .fstore 2, .iinc 1 (-1), .iinc 3 1, .goto 3]), ([1, 2], [.iload 1, .iconst 23, .ishl, .fload 2, .fconst 1, .fsub, .ldc_w 1258291200, .fmul, .f2i, .iadd, .ireturn])])
/-- BannerParade.doubleBits(D)J -/
def xM171 : XT := (1, 7, 99, 5, [], [([0], [.dload 0, .dconst 0, .dcmp .g, .ifCond .gt 2, .goto_w 1]), ([], [.lconst 0, .lreturn]), ([0], [.jsr 1023, .lstore 2, .dload 0, .dstore 4, .iconst 0, .istore 6, .goto_w 3]), ([2, 4, 6], [.iload 6, .iconst 60, .if_icmp .ge 6, .goto_w 4]), ([2, 4, 6], [.dload 4, .dconst 1, .dcmp .g, .ifCond .ge 6, .goto_w 5]), ([2, 4, 6], [.dload 4, .ldc2_w 4611686018427387904, .dmul, .dstore 4, .lload 2, .lconst 1, .lsub, .lstore 2, .iinc 6 1, .goto 3]), ([2, 4], [.iconst 0, .istore 6, .goto_w 7]), ([2, 4, 6], [.iload 6, .iconst 60, .if_icmp .ge 10, .goto_w 8]), ([2, 4, 6], [.dload 4, .ldc2_w 4611686018427387904, .dcmp .l, .ifCond .lt 10, .goto_w 9]), ([2, 4, 6], [.dload 4, .ldc2_w 4611686018427387904, .ddiv, .dstore 4, .lload 2, .lconst 1, .ladd, .lstore 2, .iinc 6 1, .goto 7]), ([2, 4], [.lload 2, .iconst 52, .lshl, .dload 4, .dconst 1, .dsub, .ldc2_w 4841369599423283200, .dmul, .d2l, .ladd, .lreturn])])
/-- BannerParade.copyNumbers([I[I)V -/
def xM172 : XT := (2, 3, 99, 0, [], [([0, 1], [.iconst 0, .istore 2, .goto_w 1]), ([0, 1, 2], [.iload 2, .aload 1, .arraylength, .if_icmp .ge 4, .goto_w 2]), ([0, 1, 2], [.iload 2, .aload 0, .arraylength, .if_icmp .ge 4, .goto_w 3]), ([0, 1, 2], [.aload 1, .iload 2, .aload 0, .iload 2, .iaload, .iastore, .iinc 2 1, .goto 1]), ([], [.return_])])
/-- BannerParadeModel.<init>()V -/
def xM173 : XT := (1, 1, 11, 0, [], [([0], [.aload 0, .monitorexit, .aload 0, .iconst 243, .newarray .int, .putfield 353, .aload 0, .iconst 243, .newarray .int, .putfield 354, .aload 0, .iconst 1944, .newarray .int, .putfield 355, .aload 0, .iconst 486, .newarray .int, .putfield 356, .aload 0, .iconst 2, .newarray .boolean, .putfield 357, .aload 0, .iconst 700, .newarray .byte, .putfield 360, .aload 0, .iconst (-1), .putfield 363, .aload 0, .iconst 24, .newarray .int, .putfield 369, .aload 0, .iconst 12, .newarray .int, .putfield 371, .aload 0, .iconst 120, .newarray .byte, .putfield 372, .return_])])
/-- BannerParadeModel.thrown()I -/
def xM174 : XT := (1, 1, 11, 1, [], [([0], [.aload 0, .getfield 352, .ireturn])])
/-- BannerParadeModel.in(III)Z -/
def xM175 : XT := (3, 3, 99, 2, [], [([0, 1, 2], [.iload 0, .iload 1, .if_icmp .lt 3, .goto_w 1]), ([0, 2], [.iload 0, .iload 2, .if_icmp .gt 3, .goto_w 2]), ([], [.iconst 1, .goto 4]), ([], [.iconst 0, .goto_w 4]), ([], [.ireturn])])
/-- BannerParadeModel.may(ZZZ)Z -/
def xM176 : XT := (4, 4, 11, 2, [], [([0, 1, 2, 3], [.aload 0, .iload 1, .ifCond .ne 2, .goto_w 1]), ([0], [.iconst 1, .goto 7]), ([0, 2, 3], [.iload 2, .ifCond .ne 4, .goto_w 3]), ([0], [.iconst 2, .goto 7]), ([0, 3], [.iload 3, .ifCond .eq 6, .goto_w 5]), ([0], [.iconst 0, .goto 7]), ([0], [.iconst 3, .goto_w 7]), ([0], [.putfield 352, .aload 0, .getfield 352, .ifCond .ne 9, .goto_w 8]), ([], [.iconst 1, .goto 10]), ([], [.iconst 0, .goto_w 10]), ([], [.ireturn])])
/-- BannerParadeModel.mayTwo(ZZ)Z -/
def xM177 : XT := (3, 3, 11, 2, [], [([0, 1, 2], [.aload 0, .iload 1, .iload 2, .iconst 1, .invokevirtual 176, .ireturn])])
/-- BannerParadeModel.lays([II[II)V -/
def xM178 : XT := (4, 5, 99, 0, [], [([0, 1, 2, 3], [.iconst 0, .istore 4, .goto_w 1]), ([0, 1, 2, 3, 4], [.iload 4, .iconst 243, .if_icmp .ge 3, .goto_w 2]), ([0, 1, 2, 3, 4], [.aload 2, .iload 3, .iload 4, .iadd, .aload 0, .iload 1, .iload 4, .iadd, .iaload, .iastore, .iinc 4 1, .goto 1]), ([], [.return_])])
/-- BannerParadeModel.append(IIIII)I -/
def xM179 : XT := (6, 6, 11, 1, [], [([0, 1, 2, 3, 4, 5], [.aload 0, .iconst 0, .putfield 352, .aload 0, .getfield 361, .iconst 680, .if_icmp .le 2, .goto_w 1]), ([], [.iconst (-1), .ireturn]), ([0, 1, 2, 3, 4, 5], [.aload 0, .iload 1, .invokevirtual 180, .aload 0, .iload 2, .invokevirtual 180, .aload 0, .iload 3, .invokevirtual 180, .aload 0, .iload 4, .invokevirtual 180, .aload 0, .iload 5, .invokevirtual 180, .aload 0, .getfield 361, .ireturn])])
/-- BannerParadeModel.four(I)V -/
def xM180 : XT := (2, 3, 11, 0, [], [([0, 1], [.iconst 3, .istore 2, .goto_w 1]), ([0, 1, 2], [.iload 2, .ifCond .lt 3, .goto_w 2]), ([0, 1, 2], [.aload 0, .getfield 360, .aload 0, .getfield 361, .iload 1, .iconst 8, .iload 2, .imul, .ishr, .i2b, .bastore, .aload 0, .dup, .getfield 361, .iconst 1, .iadd, .putfield 361, .iinc 2 (-1), .goto 1]), ([], [.return_])])
/-- BannerParadeModel.parseError()I -/
def xM181 : XT := (1, 1, 11, 1, [], [([0], [.aload 0, .iconst 0, .putfield 352, .aload 0, .getfield 362, .ireturn])])
/-- BannerParadeModel.errorPosition()I -/
def xM182 : XT := (1, 1, 11, 1, [], [([0], [.aload 0, .iconst 0, .putfield 352, .aload 0, .getfield 363, .ireturn])])
/-- BannerParadeModel.buffered()I -/
def xM183 : XT := (1, 1, 11, 1, [], [([0], [.aload 0, .iconst 0, .putfield 352, .aload 0, .getfield 361, .ireturn])])
/-- BannerParadeModel.isLetter(I)Z -/
def xM184 : XT := (2, 2, 11, 2, [], [([0, 1], [.iload 1, .aload 0, .getfield 364, .if_icmp .ge 3, .goto_w 1]), ([0, 1], [.aload 0, .getfield 360, .iload 1, .baload, .iconst 97, .iconst 122, .invokestatic 175, .ifCond .eq 3, .goto_w 2]), ([], [.iconst 1, .goto 4]), ([], [.iconst 0, .goto_w 4]), ([], [.ireturn])])
/-- BannerParadeModel.isDigit(I)Z -/
def xM185 : XT := (2, 2, 11, 2, [], [([0, 1], [.iload 1, .aload 0, .getfield 364, .if_icmp .ge 3, .goto_w 1]), ([0, 1], [.aload 0, .getfield 360, .iload 1, .baload, .iconst 48, .iconst 57, .invokestatic 175, .ifCond .eq 3, .goto_w 2]), ([], [.iconst 1, .goto 4]), ([], [.iconst 0, .goto_w 4]), ([], [.ireturn])])
/-- BannerParadeModel.next()V -/
def xM186 : XT := (1, 1, 11, 0, [], [([0], [.aload 0, .getfield 362, .ifCond .le 2, .goto_w 1]), ([], [.return_]), ([0], [.aload 0, .getfield 365, .aload 0, .getfield 364, .if_icmp .ge 5, .goto_w 3]), ([0], [.aload 0, .getfield 360, .aload 0, .getfield 365, .baload, .iconst 32, .if_icmp .ne 5, .goto_w 4]), ([0], [.aload 0, .dup, .getfield 365, .iconst 1, .iadd, .putfield 365, .goto 2]), ([0], [.aload 0, .aload 0, .getfield 365, .putfield 366, .aload 0, .aload 0, .getfield 365, .aload 0, .getfield 364, .if_icmp .ne 7, .goto_w 6]), ([0], [.iconst 1, .goto 8]), ([0], [.iconst 0, .goto_w 8]), ([0], [.putfield 367, .aload 0, .getfield 367, .iconst 1, .if_icmp .ne 10, .goto_w 9]), ([], [.return_]), ([0], [.aload 0, .aload 0, .getfield 365, .invokevirtual 184, .ifCond .eq 17, .goto_w 11]), ([0], [.aload 0, .aload 0, .getfield 365, .invokevirtual 184, .ifCond .eq 13, .goto_w 12]), ([0], [.aload 0, .dup, .getfield 365, .iconst 1, .iadd, .putfield 365, .goto 11]), ([0], [.aload 0, .aload 0, .getfield 365, .aload 0, .getfield 366, .isub, .iconst 8, .if_icmp .gt 15, .goto_w 14]), ([], [.iconst 2, .goto 16]), ([], [.iconst 0, .goto_w 16]), ([], [.putfield 367, .return_]), ([0], [.aload 0, .aload 0, .getfield 365, .invokevirtual 185, .ifCond .eq 27, .goto_w 18]), ([0], [.aload 0, .iconst 0, .putfield 368, .goto_w 19]), ([0], [.aload 0, .aload 0, .getfield 365, .invokevirtual 185, .ifCond .eq 23, .goto_w 20]), ([0], [.aload 0, .getfield 365, .aload 0, .getfield 366, .isub, .iconst 4, .if_icmp .ge 22, .goto_w 21]), ([0], [.aload 0, .iconst 10, .aload 0, .getfield 368, .imul, .aload 0, .getfield 360, .aload 0, .getfield 365, .baload, .iadd, .iconst 48, .isub, .putfield 368, .goto_w 22]), ([0], [.aload 0, .dup, .getfield 365, .iconst 1, .iadd, .putfield 365, .goto 19]), ([0], [.aload 0, .aload 0, .getfield 365, .aload 0, .getfield 366, .isub, .iconst 4, .if_icmp .gt 25, .goto_w 24]), ([], [.iconst 3, .goto 26]), ([], [.iconst 0, .goto_w 26]), ([], [.putfield 367, .return_]), ([0], [.aload 0, .getfield 360, .aload 0, .getfield 365, .baload, .iconst 59, .if_icmp .ne 29, .goto_w 28]), ([0], [.aload 0, .iconst 4, .putfield 367, .goto_w 29]), ([0], [.aload 0, .dup, .getfield 365, .iconst 1, .iadd, .putfield 365, .return_])])
/-- BannerParadeModel.faults(I)V -/
def xM187 : XT := (2, 2, 11, 0, [], [([0, 1], [.aload 0, .getfield 362, .ifCond .le 2, .goto_w 1]), ([], [.return_]), ([0, 1], [.aload 0, .iload 1, .putfield 362, .aload 0, .aload 0, .getfield 366, .putfield 363, .return_])])
/-- BannerParadeModel.is(I)Z -/
def xM188 : XT := (2, 2, 11, 2, [], [([0, 1], [.aload 0, .getfield 362, .ifCond .ne 3, .goto_w 1]), ([0, 1], [.aload 0, .getfield 367, .iload 1, .if_icmp .ne 3, .goto_w 2]), ([], [.iconst 1, .goto 4]), ([], [.iconst 0, .goto_w 4]), ([], [.ireturn])])
/-- BannerParadeModel.isWord(Ljava/lang/String;)Z -/
def xM189 : XT := (2, 3, 11, 2, [], [([0, 1], [.aload 0, .iconst 2, .invokevirtual 188, .ifCond .eq 2, .goto_w 1]), ([0, 1], [.aload 0, .getfield 365, .aload 0, .getfield 366, .isub, .aload 1, .invokevirtual 391, .if_icmp .eq 3, .goto_w 2]), ([], [.iconst 0, .ireturn]), ([0, 1], [.iconst 0, .istore 2, .goto_w 4]), ([0, 1, 2], [.iload 2, .aload 1, .invokevirtual 391, .if_icmp .ge 8, .goto_w 5]), ([0, 1, 2], [.aload 0, .getfield 360, .aload 0, .getfield 366, .iload 2, .iadd, .baload, .aload 1, .iload 2, .invokevirtual 392, .if_icmp .eq 7, .goto_w 6]), ([], [.iconst 0, .ireturn]), ([0, 1, 2], [.iinc 2 1, .goto 4]), ([], [.iconst 1, .ireturn])])
/-- BannerParadeModel.takes(Ljava/lang/String;)V -/
def xM190 : XT := (2, 2, 11, 0, [], [([0, 1], [.aload 0, .aload 1, .invokevirtual 189, .ifCond .ne 2, .goto_w 1]), ([0], [.aload 0, .iconst 1, .invokevirtual 187, .goto_w 2]), ([0], [.aload 0, .invokevirtual 186, .return_])])
/-- BannerParadeModel.number(II)I -/
def xM191 : XT := (3, 4, 11, 1, [], [([0, 1, 2], [.aload 0, .iconst 3, .invokevirtual 188, .ifCond .ne 2, .goto_w 1]), ([0, 1], [.aload 0, .iconst 1, .invokevirtual 187, .goto 4]), ([0, 1, 2], [.aload 0, .getfield 368, .iload 1, .iload 2, .invokestatic 175, .ifCond .ne 4, .goto_w 3]), ([0, 1], [.aload 0, .iconst 2, .invokevirtual 187, .goto_w 4]), ([0, 1], [.aload 0, .getfield 368, .istore 3, .aload 0, .invokevirtual 186, .aload 0, .getfield 362, .ifCond .le 6, .goto_w 5]), ([1], [.iload 1, .goto 7]), ([3], [.iload 3, .goto_w 7]), ([], [.ireturn])])
/-- BannerParadeModel.lowOf(I)I -/
def xM192 : XT := (1, 1, 99, 1, [], [([0], [.iload 0, .ifCond .eq 3, .goto_w 1]), ([0], [.iload 0, .iconst 2, .if_icmp .eq 3, .goto_w 2]), ([0], [.iload 0, .iconst 4, .if_icmp .ne 4, .goto_w 3]), ([], [.iconst 1, .goto 5]), ([], [.iconst 0, .goto_w 5]), ([], [.ireturn])])
/-- BannerParadeModel.highOf(I)I -/
def xM193 : XT := (1, 1, 99, 1, [], [([0], [.iload 0, .tableswitch 4 0 4 #[1, 4, 4, 2, 3]]), ([], [.iconst 999, .ireturn]), ([], [.iconst 50, .ireturn]), ([], [.iconst 100, .ireturn]), ([], [.iconst 9999, .ireturn])])
/-- BannerParadeModel.begins(II)Z -/
def xM194 : XT := (3, 3, 11, 2, [], [([0, 1, 2], [.aload 0, .getfield 353, .iload 1, .iaload, .iload 2, .if_icmp .ne 2, .goto_w 1]), ([0], [.aload 0, .iconst 4, .invokevirtual 187, .goto_w 2]), ([0], [.aload 0, .invokevirtual 186, .aload 0, .getfield 362, .ifCond .ne 4, .goto_w 3]), ([], [.iconst 1, .goto 5]), ([], [.iconst 0, .goto_w 5]), ([], [.ireturn])])
/-- BannerParadeModel.letterHere()I -/
def xM195 : XT := (1, 2, 11, 1, [], [([0], [.aload 0, .iconst 2, .invokevirtual 188, .ifCond .eq 2, .goto_w 1]), ([0], [.aload 0, .getfield 365, .aload 0, .getfield 366, .isub, .iconst 1, .if_icmp .eq 3, .goto_w 2]), ([0], [.aload 0, .iconst 1, .invokevirtual 187, .goto_w 3]), ([0], [.aload 0, .getfield 362, .ifCond .le 5, .goto_w 4]), ([0], [.iconst 1, .goto 6]), ([0], [.aload 0, .getfield 360, .aload 0, .getfield 366, .baload, .iconst 97, .isub, .iconst 1, .iadd, .goto_w 6]), ([0], [.istore 1, .aload 0, .invokevirtual 186, .iload 1, .ireturn])])
/-- BannerParadeModel.readsBearer()V -/
def xM196 : XT := (1, 3, 11, 0, [], [([0], [.aload 0, .iconst 6, .iconst 12, .invokevirtual 194, .ifCond .ne 2, .goto_w 1]), ([], [.return_]), ([0], [.aload 0, .getfield 353, .iconst 6, .iaload, .istore 1, .aload 0, .invokevirtual 195, .istore 2, .aload 0, .iload 1, .iconst 6, .iload 2, .invokevirtual 203, .aload 0, .iload 1, .iconst 0, .iload 2, .invokevirtual 203, .aload 0, .iload 1, .iconst 2, .aload 0, .iconst 1, .iconst 200, .invokevirtual 191, .invokevirtual 203, .aload 0, .iload 1, .iconst 3, .aload 0, .iconst 0, .iconst 20, .invokevirtual 191, .invokevirtual 203, .aload 0, .iload 1, .iconst 4, .iconst 100, .invokevirtual 203, .aload 0, .iload 1, .iconst 1, .aload 0, .getfield 353, .iconst 0, .iaload, .ineg, .iload 1, .imul, .invokevirtual 203, .aload 0, .getfield 353, .iconst 6, .dup2, .iaload, .iconst 1, .iadd, .iastore, .return_])])
/-- BannerParadeModel.readsStand()V -/
def xM197 : XT := (1, 4, 11, 0, [], [([0], [.aload 0, .iconst 7, .iconst 6, .invokevirtual 194, .ifCond .ne 2, .goto_w 1]), ([], [.return_]), ([0], [.aload 0, .getfield 353, .iconst 7, .iaload, .istore 1, .aload 0, .ldc 15, .invokevirtual 189, .istore 2, .iload 2, .ifCond .ne 5, .goto_w 3]), ([0, 1, 2], [.aload 0, .ldc 16, .invokevirtual 189, .ifCond .ne 5, .goto_w 4]), ([0, 1, 2], [.aload 0, .iconst 1, .invokevirtual 187, .goto_w 5]), ([0, 1, 2], [.aload 0, .invokevirtual 186, .aload 0, .iload 1, .iconst 0, .iload 2, .ifCond .eq 7, .goto_w 6]), ([0, 1], [.iconst 1, .goto 8]), ([0, 1], [.iconst 0, .goto_w 8]), ([0, 1], [.invokevirtual 205, .aload 0, .iload 1, .iconst 1, .aload 0, .iconst 0, .iconst 9999, .invokevirtual 191, .invokevirtual 205, .aload 0, .iload 1, .iconst 3, .iconst (-1), .invokevirtual 205, .aload 0, .iconst 2, .invokevirtual 188, .ifCond .ne 10, .goto_w 9]), ([0, 1], [.aload 0, .iconst 1, .invokevirtual 187, .goto_w 10]), ([0, 1], [.aload 0, .getfield 362, .ifCond .le 12, .goto_w 11]), ([], [.return_]), ([0, 1], [.aload 0, .iload 1, .iconst 2, .aload 0, .getfield 365, .aload 0, .getfield 366, .isub, .invokevirtual 205, .aload 0, .getfield 366, .istore 3, .goto_w 13]), ([0, 1, 3], [.iload 3, .aload 0, .getfield 365, .if_icmp .ge 15, .goto_w 14]), ([0, 1, 3], [.aload 0, .iload 1, .iconst 4, .iload 3, .iadd, .aload 0, .getfield 366, .isub, .aload 0, .getfield 360, .iload 3, .baload, .invokevirtual 205, .iinc 3 1, .goto 13]), ([0], [.aload 0, .invokevirtual 186, .aload 0, .getfield 353, .iconst 7, .dup2, .iaload, .iconst 1, .iadd, .iastore, .return_])])
/-- BannerParadeModel.readsPlan()V -/
def xM198 : XT := (1, 3, 11, 0, [], [([0], [.aload 0, .iconst 8, .iconst 12, .invokevirtual 194, .ifCond .ne 2, .goto_w 1]), ([], [.return_]), ([0], [.aload 0, .iconst 1, .iconst 5000, .invokevirtual 191, .istore 1, .aload 0, .iconst 0, .aload 0, .getfield 353, .iconst 6, .iaload, .iconst 2, .isub, .invokevirtual 191, .istore 2, .aload 0, .iload 1, .iload 2, .invokevirtual 199, .return_])])
/-- BannerParadeModel.laysPlan(II)V -/
def xM199 : XT := (3, 4, 11, 0, [], [([0, 1, 2], [.iconst 171, .iconst 3, .aload 0, .getfield 353, .iconst 8, .iaload, .imul, .iadd, .istore 3, .aload 0, .getfield 353, .iload 3, .iload 1, .iastore, .aload 0, .getfield 353, .iload 3, .iconst 1, .iadd, .iload 2, .iastore, .aload 0, .getfield 353, .iload 3, .iconst 2, .iadd, .iconst 0, .iastore, .aload 0, .getfield 353, .iconst 8, .dup2, .iaload, .iconst 1, .iadd, .iastore, .return_])])
/-- BannerParadeModel.reads()V -/
def xM200 : XT := (1, 2, 11, 0, [], [([0], [.aload 0, .invokevirtual 186, .aload 0, .ldc 12, .invokevirtual 190, .iconst 0, .istore 1, .goto_w 1]), ([0, 1], [.iload 1, .iconst 6, .if_icmp .ge 3, .goto_w 2]), ([0, 1], [.aload 0, .getfield 353, .iload 1, .aload 0, .iload 1, .invokestatic 192, .iload 1, .invokestatic 193, .invokevirtual 191, .iastore, .iinc 1 1, .goto 1]), ([0], [.aload 0, .iconst 4, .invokevirtual 188, .ifCond .eq 11, .goto_w 4]), ([0], [.aload 0, .invokevirtual 186, .aload 0, .ldc 13, .invokevirtual 189, .ifCond .eq 6, .goto_w 5]), ([0], [.aload 0, .invokevirtual 196, .goto 3]), ([0], [.aload 0, .ldc 14, .invokevirtual 189, .ifCond .eq 8, .goto_w 7]), ([0], [.aload 0, .invokevirtual 197, .goto 3]), ([0], [.aload 0, .ldc 17, .invokevirtual 189, .ifCond .eq 10, .goto_w 9]), ([0], [.aload 0, .invokevirtual 198, .goto 3]), ([0], [.aload 0, .iconst 1, .invokevirtual 187, .goto 3]), ([0], [.aload 0, .iconst 1, .invokevirtual 188, .ifCond .ne 13, .goto_w 12]), ([0], [.aload 0, .iconst 1, .invokevirtual 187, .goto_w 13]), ([], [.return_])])
/-- BannerParadeModel.load(I)I -/
def xM201 : XT := (2, 3, 11, 1, [], [([0, 1], [.aload 0, .iload 1, .iconst 0, .aload 0, .getfield 361, .invokestatic 175, .iconst 1, .iconst 1, .invokevirtual 176, .ifCond .ne 2, .goto_w 1]), ([], [.iconst 0, .ireturn]), ([0, 1], [.aload 0, .iload 1, .putfield 364, .aload 0, .iconst 0, .putfield 365, .aload 0, .iconst 0, .putfield 361, .aload 0, .iconst 0, .putfield 362, .aload 0, .iconst (-1), .putfield 363, .aload 0, .getfield 353, .iconst 0, .aload 0, .getfield 354, .iconst 0, .invokestatic 178, .iconst 0, .istore 2, .goto_w 3]), ([0, 2], [.iload 2, .iconst 243, .if_icmp .ge 5, .goto_w 4]), ([0, 2], [.aload 0, .getfield 353, .iload 2, .iconst 0, .iastore, .iinc 2 1, .goto 3]), ([0], [.aload 0, .invokevirtual 200, .aload 0, .getfield 362, .ifCond .le 7, .goto_w 6]), ([0], [.aload 0, .getfield 354, .iconst 0, .aload 0, .getfield 353, .iconst 0, .invokestatic 178, .aload 0, .iconst 2, .putfield 352, .iconst 0, .ireturn]), ([0], [.aload 0, .iconst 1, .putfield 358, .aload 0, .iconst 0, .putfield 359, .aload 0, .getfield 357, .iconst 0, .iconst 0, .bastore, .aload 0, .getfield 357, .iconst 1, .iconst 0, .bastore, .aload 0, .getfield 353, .iconst 6, .iaload, .ireturn])])
/-- BannerParadeModel.of(II)I -/
def xM202 : XT := (3, 3, 11, 1, [], [([0, 1, 2], [.aload 0, .getfield 353, .iconst 15, .iconst 7, .iload 1, .imul, .iadd, .iload 2, .iadd, .iaload, .ireturn])])
/-- BannerParadeModel.put(III)V -/
def xM203 : XT := (4, 4, 11, 0, [], [([0, 1, 2, 3], [.aload 0, .getfield 353, .iconst 15, .iconst 7, .iload 1, .imul, .iadd, .iload 2, .iadd, .iload 3, .iastore, .return_])])
/-- BannerParadeModel.ofStand(II)I -/
def xM204 : XT := (3, 3, 11, 1, [], [([0, 1, 2], [.aload 0, .getfield 353, .iconst 99, .iconst 12, .iload 1, .imul, .iadd, .iload 2, .iadd, .iaload, .ireturn])])
/-- BannerParadeModel.putStand(III)V -/
def xM205 : XT := (4, 4, 11, 0, [], [([0, 1, 2, 3], [.aload 0, .getfield 353, .iconst 99, .iconst 12, .iload 1, .imul, .iadd, .iload 2, .iadd, .iload 3, .iastore, .return_])])
/-- BannerParadeModel.ofPlan(II)I -/
def xM206 : XT := (3, 3, 11, 1, [], [([0, 1, 2], [.aload 0, .getfield 353, .iconst 171, .iconst 3, .iload 1, .imul, .iadd, .iload 2, .iadd, .iaload, .ireturn])])
/-- BannerParadeModel.ofLying(II)I -/
def xM207 : XT := (3, 3, 11, 1, [], [([0, 1, 2], [.aload 0, .getfield 353, .iconst 207, .iconst 3, .iload 1, .imul, .iadd, .iload 2, .iadd, .iaload, .ireturn])])
/-- BannerParadeModel.isBearer(I)Z -/
def xM208 : XT := (2, 2, 11, 2, [], [([0, 1], [.iload 1, .iconst 0, .aload 0, .getfield 353, .iconst 6, .iaload, .iconst 1, .isub, .invokestatic 175, .ireturn])])
/-- BannerParadeModel.isStand(I)Z -/
def xM209 : XT := (2, 2, 11, 2, [], [([0, 1], [.iload 1, .iconst 0, .aload 0, .getfield 353, .iconst 7, .iaload, .iconst 1, .isub, .invokestatic 175, .ireturn])])
/-- BannerParadeModel.stride(I)I -/
def xM210 : XT := (2, 2, 11, 1, [], [([0, 1], [.aload 0, .iload 1, .iconst 2, .invokevirtual 202, .i2f, .aload 0, .iload 1, .iconst 4, .invokevirtual 202, .i2f, .fmul, .ldc_w 1120403456, .fdiv, .f2i, .ireturn])])
/-- BannerParadeModel.distance(I)I -/
def xM211 : XT := (2, 2, 11, 1, [], [([0, 1], [.aload 0, .iload 1, .iconst 1, .isub, .iconst 1, .invokevirtual 202, .aload 0, .iload 1, .iconst 1, .invokevirtual 202, .isub, .ireturn])])
/-- BannerParadeModel.strengthens(II)V -/
def xM212 : XT := (3, 3, 11, 0, [], [([0, 1, 2], [.aload 0, .iload 1, .iconst 4, .iconst 0, .iconst 100, .aload 0, .iload 1, .iconst 4, .invokevirtual 202, .iload 2, .iadd, .invokestatic 386, .invokestatic 385, .invokevirtual 203, .return_])])
/-- BannerParadeModel.drops(I)V -/
def xM213 : XT := (2, 3, 11, 0, [], [([0, 1], [.iconst 207, .iconst 3, .aload 0, .getfield 353, .iconst 10, .iaload, .imul, .iadd, .istore 2, .aload 0, .getfield 353, .iload 2, .aload 0, .iload 1, .iconst 0, .invokevirtual 202, .iastore, .aload 0, .getfield 353, .iload 2, .iconst 1, .iadd, .aload 0, .iload 1, .iconst 1, .invokevirtual 202, .iastore, .aload 0, .getfield 353, .iload 2, .iconst 2, .iadd, .aload 0, .getfield 353, .iconst 9, .iaload, .iastore, .aload 0, .getfield 353, .iconst 10, .dup2, .iaload, .iconst 1, .iadd, .iastore, .aload 0, .getfield 353, .iconst 13, .dup2, .iaload, .iconst 1, .iadd, .iastore, .aload 0, .iload 1, .iconst 0, .iconst 0, .invokevirtual 203, .return_])])
/-- BannerParadeModel.picks(II)V -/
def xM214 : XT := (3, 4, 11, 0, [], [([0, 1, 2], [.aload 0, .iload 1, .iconst 0, .aload 0, .iload 2, .iconst 0, .invokevirtual 207, .invokevirtual 203, .aload 0, .getfield 353, .iconst 10, .dup2, .iaload, .iconst 1, .isub, .iastore, .iconst 207, .iconst 3, .iload 2, .imul, .iadd, .istore 3, .goto_w 1]), ([0, 3], [.iload 3, .iconst 207, .iconst 3, .aload 0, .getfield 353, .iconst 10, .iaload, .imul, .iadd, .if_icmp .ge 3, .goto_w 2]), ([0, 3], [.aload 0, .getfield 353, .iload 3, .aload 0, .getfield 353, .iload 3, .iconst 3, .iadd, .iaload, .iastore, .iinc 3 1, .goto 1]), ([0], [.aload 0, .getfield 353, .iconst 14, .dup2, .iaload, .iconst 1, .iadd, .iastore, .return_])])
/-- BannerParadeModel.lyingIn(II)I -/
def xM215 : XT := (3, 5, 11, 1, [], [([0, 1, 2], [.iconst (-1), .istore 3, .iconst 0, .istore 4, .goto_w 1]), ([0, 1, 2, 3, 4], [.iload 4, .aload 0, .getfield 353, .iconst 10, .iaload, .if_icmp .ge 7, .goto_w 2]), ([0, 1, 2, 3, 4], [.aload 0, .iload 4, .iconst 1, .invokevirtual 207, .iload 1, .iload 2, .invokestatic 175, .ifCond .eq 6, .goto_w 3]), ([0, 1, 2, 3, 4], [.iload 3, .iconst (-1), .if_icmp .eq 5, .goto_w 4]), ([0, 1, 2, 3, 4], [.aload 0, .iload 4, .iconst 1, .invokevirtual 207, .aload 0, .iload 3, .iconst 1, .invokevirtual 207, .if_icmp .le 6, .goto_w 5]), ([0, 1, 2, 4], [.iload 4, .istore 3, .goto_w 6]), ([0, 1, 2, 3, 4], [.iinc 4 1, .goto 1]), ([3], [.iload 3, .ireturn])])
/-- BannerParadeModel.maySwap(I)Z -/
def xM216 : XT := (2, 3, 11, 2, [], [([0, 1], [.aload 0, .iload 1, .invokevirtual 208, .ifCond .eq 3, .goto_w 1]), ([0, 1], [.aload 0, .iload 1, .iconst 1, .iadd, .invokevirtual 208, .ifCond .eq 3, .goto_w 2]), ([0, 1], [.iconst 1, .goto 4]), ([0, 1], [.iconst 0, .goto_w 4]), ([0, 1], [.istore 2, .iload 2, .ifCond .eq 9, .goto_w 5]), ([0, 1], [.aload 0, .iload 1, .iconst 1, .iadd, .invokevirtual 211, .aload 0, .getfield 353, .iconst 5, .iaload, .if_icmp .gt 9, .goto_w 6]), ([0, 1], [.aload 0, .iload 1, .iconst 4, .invokevirtual 202, .ifCond .le 9, .goto_w 7]), ([0, 1], [.aload 0, .iload 1, .iconst 1, .iadd, .iconst 4, .invokevirtual 202, .ifCond .le 9, .goto_w 8]), ([], [.iconst 1, .goto 10]), ([], [.iconst 0, .goto_w 10]), ([], [.ireturn])])
/-- BannerParadeModel.exchanges(I)V -/
def xM217 : XT := (2, 3, 11, 0, [], [([0, 1], [.aload 0, .iload 1, .iconst 0, .invokevirtual 202, .istore 2, .aload 0, .iload 1, .iconst 0, .aload 0, .iload 1, .iconst 1, .iadd, .iconst 0, .invokevirtual 202, .invokevirtual 203, .aload 0, .iload 1, .iconst 1, .iadd, .iconst 0, .iload 2, .invokevirtual 203, .return_])])
/-- BannerParadeModel.swaps(I)V -/
def xM218 : XT := (2, 2, 11, 0, [], [([0, 1], [.aload 0, .iload 1, .invokevirtual 217, .aload 0, .iload 1, .iconst (-2), .invokevirtual 212, .aload 0, .iload 1, .iconst 1, .iadd, .iconst (-2), .invokevirtual 212, .aload 0, .getfield 353, .iconst 11, .dup2, .iaload, .iconst 1, .iadd, .iastore, .return_])])
/-- BannerParadeModel.sees(II)Z -/
def xM219 : XT := (3, 3, 11, 2, [], [([0, 1, 2], [.aload 0, .iload 2, .iconst 0, .invokevirtual 202, .ifCond .le 3, .goto_w 1]), ([0, 1, 2], [.aload 0, .iload 2, .iconst 1, .invokevirtual 202, .aload 0, .iload 1, .iconst 1, .invokevirtual 204, .isub, .invokestatic 384, .aload 0, .getfield 353, .iconst 1, .iaload, .if_icmp .gt 3, .goto_w 2]), ([], [.iconst 1, .goto 4]), ([], [.iconst 0, .goto_w 4]), ([], [.ireturn])])
/-- BannerParadeModel.laysText(I)V -/
def xM220 : XT := (2, 6, 11, 0, [], [([0, 1], [.aload 0, .iconst 0, .putfield 370, .aload 0, .getfield 353, .iconst 6, .iaload, .istore 2, .iconst (-1), .istore 3, .iconst 0, .istore 4, .goto_w 1]), ([0, 1, 2, 3, 4], [.iload 4, .iload 2, .if_icmp .ge 12, .goto_w 2]), ([0, 1, 2, 3, 4], [.aload 0, .iload 1, .iconst 0, .invokevirtual 204, .ifCond .ne 4, .goto_w 3]), ([0, 1, 2, 3, 4], [.iload 4, .goto 5]), ([0, 1, 2, 3, 4], [.iload 2, .iconst 1, .isub, .iload 4, .isub, .goto_w 5]), ([0, 1, 2, 3, 4], [.istore 5, .aload 0, .iload 1, .iload 5, .invokevirtual 219, .ifCond .ne 7, .goto_w 6]), ([0, 1, 2, 3, 4], [.goto 11]), ([0, 1, 2, 3, 4, 5], [.iload 3, .iconst (-1), .if_icmp .eq 10, .goto_w 8]), ([0, 1, 2, 3, 4, 5], [.aload 0, .iload 3, .iconst 1, .invokevirtual 202, .aload 0, .iload 5, .iconst 1, .invokevirtual 202, .isub, .invokestatic 384, .aload 0, .getfield 353, .iconst 2, .iaload, .if_icmp .le 10, .goto_w 9]), ([0, 1, 2, 4, 5], [.aload 0, .iconst 32, .invokevirtual 221, .goto_w 10]), ([0, 1, 2, 4, 5], [.aload 0, .iconst 96, .aload 0, .iload 5, .iconst 0, .invokevirtual 202, .iadd, .invokevirtual 221, .iload 5, .istore 3, .goto_w 11]), ([0, 1, 2, 3, 4], [.iinc 4 1, .goto 1]), ([], [.return_])])
/-- BannerParadeModel.laysByte(I)V -/
def xM221 : XT := (2, 2, 11, 0, [], [([0, 1], [.aload 0, .getfield 369, .aload 0, .getfield 370, .iload 1, .iastore, .aload 0, .dup, .getfield 370, .iconst 1, .iadd, .putfield 370, .return_])])
/-- BannerParadeModel.matching(I)I -/
def xM222 : XT := (2, 4, 11, 1, [], [([0, 1], [.aload 0, .iload 1, .invokevirtual 220, .iconst 0, .istore 2, .iconst 0, .istore 3, .goto_w 1]), ([0, 1, 2, 3], [.iload 3, .aload 0, .getfield 370, .if_icmp .ge 7, .goto_w 2]), ([0, 1, 2, 3], [.iload 3, .aload 0, .iload 1, .iconst 2, .invokevirtual 204, .if_icmp .ge 7, .goto_w 3]), ([0, 1, 2, 3], [.iload 2, .aload 0, .getfield 369, .iload 3, .iaload, .aload 0, .iload 1, .iconst 4, .iload 3, .iadd, .invokevirtual 204, .if_icmp .ne 5, .goto_w 4]), ([0, 1, 3], [.iconst 1, .goto 6]), ([0, 1, 3], [.iconst 0, .goto_w 6]), ([0, 1, 3], [.iadd, .istore 2, .iinc 3 1, .goto 1]), ([2], [.iload 2, .ireturn])])
/-- BannerParadeModel.readsWord(I)Z -/
def xM223 : XT := (2, 2, 11, 2, [], [([0, 1], [.aload 0, .iload 1, .invokevirtual 222, .aload 0, .iload 1, .iconst 2, .invokevirtual 204, .if_icmp .ne 3, .goto_w 1]), ([0, 1], [.aload 0, .getfield 370, .aload 0, .iload 1, .iconst 2, .invokevirtual 204, .if_icmp .ne 3, .goto_w 2]), ([], [.iconst 1, .goto 4]), ([], [.iconst 0, .goto_w 4]), ([], [.ireturn])])
/-- BannerParadeModel.shareOf(I)F -/
def xM224 : XT := (2, 3, 11, 6, [], [([0, 1], [.aload 0, .iload 1, .invokevirtual 222, .istore 2, .iload 2, .i2f, .aload 0, .getfield 370, .aload 0, .iload 1, .iconst 2, .invokevirtual 204, .invokestatic 385, .i2f, .fdiv, .freturn])])
/-- BannerParadeModel.plans()V -/
def xM225 : XT := (1, 3, 11, 0, [], [([0], [.iconst 0, .istore 1, .goto_w 1]), ([0, 1], [.iload 1, .aload 0, .getfield 353, .iconst 8, .iaload, .if_icmp .ge 13, .goto_w 2]), ([0, 1], [.aload 0, .iload 1, .iconst 0, .invokevirtual 206, .aload 0, .getfield 353, .iconst 9, .iaload, .if_icmp .ne 12, .goto_w 3]), ([0, 1], [.aload 0, .iload 1, .iconst 2, .invokevirtual 206, .ifCond .eq 5, .goto_w 4]), ([0, 1], [.goto 12]), ([0, 1], [.aload 0, .aload 0, .iload 1, .iconst 1, .invokevirtual 206, .invokevirtual 216, .istore 2, .iload 2, .ifCond .eq 7, .goto_w 6]), ([0, 1, 2], [.aload 0, .aload 0, .iload 1, .iconst 1, .invokevirtual 206, .invokevirtual 218, .goto 8]), ([0, 1, 2], [.aload 0, .getfield 353, .iconst 12, .dup2, .iaload, .iconst 1, .iadd, .iastore, .goto_w 8]), ([0, 1, 2], [.aload 0, .getfield 353, .iconst 171, .iconst 3, .iload 1, .imul, .iadd, .iconst 2, .iadd, .iload 2, .ifCond .eq 10, .goto_w 9]), ([0, 1], [.iconst 1, .goto 11]), ([0, 1], [.iconst 2, .goto_w 11]), ([0, 1], [.iastore, .goto_w 12]), ([0, 1], [.iinc 1 1, .goto 1]), ([], [.return_])])
/-- BannerParadeModel.moves(I)V -/
def xM226 : XT := (2, 5, 11, 0, [], [([0, 1], [.aload 0, .iload 1, .iconst 1, .invokevirtual 202, .istore 2, .aload 0, .getfield 371, .iload 1, .iload 2, .iastore, .iload 2, .aload 0, .iload 1, .invokevirtual 210, .iadd, .istore 3, .iload 1, .ifCond .le 2, .goto_w 1]), ([0, 1, 2, 3], [.iload 3, .aload 0, .iload 1, .iconst 1, .isub, .iconst 1, .invokevirtual 202, .aload 0, .getfield 353, .iconst 0, .iaload, .isub, .invokestatic 386, .istore 3, .goto_w 2]), ([0, 1, 2, 3], [.iload 3, .iload 2, .if_icmp .le 4, .goto_w 3]), ([0, 1, 3], [.iconst 1, .goto 5]), ([0, 1, 3], [.iconst 0, .goto_w 5]), ([0, 1, 3], [.istore 4, .iload 4, .ifCond .eq 7, .goto_w 6]), ([0, 1, 3, 4], [.aload 0, .iload 1, .iconst 1, .iload 3, .invokevirtual 203, .goto_w 7]), ([0, 1, 4], [.aload 0, .iload 1, .iload 4, .ifCond .eq 9, .goto_w 8]), ([0, 1, 4], [.aload 0, .iload 1, .iconst 3, .invokevirtual 202, .ineg, .goto 10]), ([0, 1, 4], [.aload 0, .getfield 353, .iconst 3, .iaload, .goto_w 10]), ([0, 1, 4], [.invokevirtual 212, .aload 0, .iload 1, .iconst 5, .aload 0, .iload 1, .iconst 5, .invokevirtual 202, .iload 4, .ifCond .eq 12, .goto_w 11]), ([], [.iconst 1, .goto 13]), ([], [.iconst 0, .goto_w 13]), ([], [.iadd, .invokevirtual 203, .return_])])
/-- BannerParadeModel.lifts(I)V -/
def xM227 : XT := (2, 3, 11, 0, [], [([0, 1], [.aload 0, .iload 1, .iconst 0, .invokevirtual 202, .ifCond .gt 2, .goto_w 1]), ([0, 1], [.aload 0, .iload 1, .iconst 4, .invokevirtual 202, .aload 0, .getfield 353, .iconst 4, .iaload, .if_icmp .ge 3, .goto_w 2]), ([], [.return_]), ([0, 1], [.aload 0, .aload 0, .getfield 371, .iload 1, .iaload, .aload 0, .iload 1, .iconst 1, .invokevirtual 202, .invokevirtual 215, .istore 2, .iload 2, .iconst (-1), .if_icmp .eq 5, .goto_w 4]), ([0, 1, 2], [.aload 0, .iload 1, .iload 2, .invokevirtual 214, .goto_w 5]), ([], [.return_])])
/-- BannerParadeModel.ticks()V -/
def xM228 : XT := (1, 2, 11, 0, [], [([0], [.aload 0, .getfield 353, .iconst 9, .dup2, .iaload, .iconst 1, .iadd, .iastore, .aload 0, .invokevirtual 225, .iconst 0, .istore 1, .goto_w 1]), ([0, 1], [.iload 1, .aload 0, .getfield 353, .iconst 6, .iaload, .if_icmp .ge 3, .goto_w 2]), ([0, 1], [.aload 0, .iload 1, .invokevirtual 226, .iinc 1 1, .goto 1]), ([0], [.iconst 0, .istore 1, .goto_w 4]), ([0, 1], [.iload 1, .aload 0, .getfield 353, .iconst 6, .iaload, .if_icmp .ge 9, .goto_w 5]), ([0, 1], [.aload 0, .iload 1, .iconst 0, .invokevirtual 202, .ifCond .le 8, .goto_w 6]), ([0, 1], [.aload 0, .iload 1, .iconst 4, .invokevirtual 202, .ifCond .ne 8, .goto_w 7]), ([0, 1], [.aload 0, .iload 1, .invokevirtual 213, .goto_w 8]), ([0, 1], [.iinc 1 1, .goto 4]), ([0], [.iconst 0, .istore 1, .goto_w 10]), ([0, 1], [.iload 1, .aload 0, .getfield 353, .iconst 6, .iaload, .if_icmp .ge 12, .goto_w 11]), ([0, 1], [.aload 0, .iload 1, .invokevirtual 227, .iinc 1 1, .goto 10]), ([0], [.iconst 0, .istore 1, .goto_w 13]), ([0, 1], [.iload 1, .aload 0, .getfield 353, .iconst 7, .iaload, .if_icmp .ge 18, .goto_w 14]), ([0, 1], [.aload 0, .iload 1, .iconst 3, .invokevirtual 204, .iconst (-1), .if_icmp .ne 17, .goto_w 15]), ([0, 1], [.aload 0, .iload 1, .invokevirtual 223, .ifCond .eq 17, .goto_w 16]), ([0, 1], [.aload 0, .iload 1, .iconst 3, .aload 0, .getfield 353, .iconst 9, .iaload, .invokevirtual 205, .goto_w 17]), ([0, 1], [.iinc 1 1, .goto 13]), ([], [.return_])])
/-- BannerParadeModel.passes(I)V -/
def xM229 : XT := (2, 3, 11, 0, [], [([0, 1], [.iconst 0, .istore 2, .goto_w 1]), ([0, 1, 2], [.iload 2, .iload 1, .if_icmp .ge 3, .goto_w 2]), ([0, 1, 2], [.aload 0, .invokevirtual 228, .iinc 2 1, .goto 1]), ([], [.return_])])
/-- BannerParadeModel.carried()I -/
def xM230 : XT := (1, 3, 11, 1, [], [([0], [.iconst 0, .istore 1, .iconst 0, .istore 2, .goto_w 1]), ([0, 1, 2], [.iload 2, .aload 0, .getfield 353, .iconst 6, .iaload, .if_icmp .ge 6, .goto_w 2]), ([0, 1, 2], [.iload 1, .aload 0, .iload 2, .iconst 0, .invokevirtual 202, .ifCond .le 4, .goto_w 3]), ([0, 2], [.iconst 1, .goto 5]), ([0, 2], [.iconst 0, .goto_w 5]), ([0, 2], [.iadd, .istore 1, .iinc 2 1, .goto 1]), ([1], [.iload 1, .ireturn])])
/-- BannerParadeModel.readSet()I -/
def xM231 : XT := (1, 3, 11, 1, [], [([0], [.iconst 0, .istore 1, .iconst 0, .istore 2, .goto_w 1]), ([0, 1, 2], [.iload 2, .aload 0, .getfield 353, .iconst 7, .iaload, .if_icmp .ge 6, .goto_w 2]), ([0, 1, 2], [.iload 1, .aload 0, .iload 2, .iconst 3, .invokevirtual 204, .iconst (-1), .if_icmp .eq 4, .goto_w 3]), ([0, 2], [.iconst 1, .iload 2, .ishl, .goto 5]), ([0, 2], [.iconst 0, .goto_w 5]), ([0, 2], [.ior, .istore 1, .iinc 2 1, .goto 1]), ([1], [.iload 1, .ireturn])])
/-- BannerParadeModel.readMany()I -/
def xM232 : XT := (1, 3, 11, 1, [], [([0], [.iconst 0, .istore 1, .iconst 0, .istore 2, .goto_w 1]), ([0, 1, 2], [.iload 2, .aload 0, .getfield 353, .iconst 7, .iaload, .if_icmp .ge 6, .goto_w 2]), ([0, 1, 2], [.iload 1, .aload 0, .iload 2, .iconst 3, .invokevirtual 204, .iconst (-1), .if_icmp .eq 4, .goto_w 3]), ([0, 2], [.iconst 1, .goto 5]), ([0, 2], [.iconst 0, .goto_w 5]), ([0, 2], [.iadd, .istore 1, .iinc 2 1, .goto 1]), ([1], [.iload 1, .ireturn])])
/-- BannerParadeModel.coming()I -/
def xM233 : XT := (1, 3, 11, 1, [], [([0], [.iconst 0, .istore 1, .iconst 0, .istore 2, .goto_w 1]), ([0, 1, 2], [.iload 2, .aload 0, .getfield 353, .iconst 8, .iaload, .if_icmp .ge 6, .goto_w 2]), ([0, 1, 2], [.iload 1, .aload 0, .iload 2, .iconst 2, .invokevirtual 206, .ifCond .ne 4, .goto_w 3]), ([0, 2], [.iconst 1, .goto 5]), ([0, 2], [.iconst 0, .goto_w 5]), ([0, 2], [.iadd, .istore 1, .iinc 2 1, .goto 1]), ([1], [.iload 1, .ireturn])])
/-- BannerParadeModel.withoutStrength()I -/
def xM234 : XT := (1, 3, 11, 1, [], [([0], [.iconst 0, .istore 1, .iconst 0, .istore 2, .goto_w 1]), ([0, 1, 2], [.iload 2, .aload 0, .getfield 353, .iconst 6, .iaload, .if_icmp .ge 6, .goto_w 2]), ([0, 1, 2], [.iload 1, .aload 0, .iload 2, .iconst 4, .invokevirtual 202, .ifCond .ne 4, .goto_w 3]), ([0, 2], [.iconst 1, .goto 5]), ([0, 2], [.iconst 0, .goto_w 5]), ([0, 2], [.iadd, .istore 1, .iinc 2 1, .goto 1]), ([1], [.iload 1, .ireturn])])
/-- BannerParadeModel.withOwn()I -/
def xM235 : XT := (1, 3, 11, 1, [], [([0], [.iconst 0, .istore 1, .iconst 0, .istore 2, .goto_w 1]), ([0, 1, 2], [.iload 2, .aload 0, .getfield 353, .iconst 6, .iaload, .if_icmp .ge 6, .goto_w 2]), ([0, 1, 2], [.iload 1, .aload 0, .iload 2, .iconst 0, .invokevirtual 202, .aload 0, .iload 2, .iconst 6, .invokevirtual 202, .if_icmp .ne 4, .goto_w 3]), ([0, 2], [.iconst 1, .goto 5]), ([0, 2], [.iconst 0, .goto_w 5]), ([0, 2], [.iadd, .istore 1, .iinc 2 1, .goto 1]), ([1], [.iload 1, .ireturn])])
/-- BannerParadeModel.close()I -/
def xM236 : XT := (1, 3, 11, 1, [], [([0], [.iconst 0, .istore 1, .iconst 1, .istore 2, .goto_w 1]), ([0, 1, 2], [.iload 2, .aload 0, .getfield 353, .iconst 6, .iaload, .if_icmp .ge 6, .goto_w 2]), ([0, 1, 2], [.iload 1, .aload 0, .iload 2, .invokevirtual 211, .aload 0, .getfield 353, .iconst 0, .iaload, .if_icmp .gt 4, .goto_w 3]), ([0, 2], [.iconst 1, .goto 5]), ([0, 2], [.iconst 0, .goto_w 5]), ([0, 2], [.iadd, .istore 1, .iinc 2 1, .goto 1]), ([1], [.iload 1, .ireturn])])
/-- BannerParadeModel.strides()I -/
def xM237 : XT := (1, 3, 11, 1, [], [([0], [.iconst 0, .istore 1, .iconst 0, .istore 2, .goto_w 1]), ([0, 1, 2], [.iload 2, .aload 0, .getfield 353, .iconst 6, .iaload, .if_icmp .ge 3, .goto_w 2]), ([0, 1, 2], [.iload 1, .aload 0, .iload 2, .invokevirtual 210, .iadd, .istore 1, .iinc 2 1, .goto 1]), ([1], [.iload 1, .ireturn])])
/-- BannerParadeModel.seeing()I -/
def xM238 : XT := (1, 3, 11, 1, [], [([0], [.iconst 0, .istore 1, .iconst 0, .istore 2, .goto_w 1]), ([0, 1, 2], [.iload 2, .aload 0, .getfield 353, .iconst 7, .iaload, .if_icmp .ge 6, .goto_w 2]), ([0, 1, 2], [.iload 1, .aload 0, .iload 2, .invokevirtual 247, .ifCond .eq 4, .goto_w 3]), ([0, 2], [.iconst 1, .goto 5]), ([0, 2], [.iconst 0, .goto_w 5]), ([0, 2], [.iadd, .istore 1, .iinc 2 1, .goto 1]), ([1], [.iload 1, .ireturn])])
/-- BannerParadeModel.count(I)I -/
def xM239 : XT := (2, 2, 11, 1, [], [([0, 1], [.aload 0, .aload 0, .getfield 358, .iload 1, .iconst 0, .iconst 16, .invokestatic 175, .invokevirtual 177, .ifCond .ne 2, .goto_w 1]), ([], [.iconst 0, .ireturn]), ([0, 1], [.iload 1, .tableswitch 19 0 15 #[3, 4, 5, 6, 7, 8, 9, 10, 11, 12, 13, 14, 15, 16, 17, 18]]), ([0], [.aload 0, .getfield 353, .iconst 6, .iaload, .ireturn]), ([0], [.aload 0, .getfield 353, .iconst 7, .iaload, .ireturn]), ([0], [.aload 0, .getfield 353, .iconst 8, .iaload, .ireturn]), ([0], [.aload 0, .getfield 353, .iconst 9, .iaload, .ireturn]), ([0], [.aload 0, .invokevirtual 230, .ireturn]), ([0], [.aload 0, .getfield 353, .iconst 10, .iaload, .ireturn]), ([0], [.aload 0, .getfield 353, .iconst 11, .iaload, .ireturn]), ([0], [.aload 0, .getfield 353, .iconst 12, .iaload, .ireturn]), ([0], [.aload 0, .getfield 353, .iconst 13, .iaload, .ireturn]), ([0], [.aload 0, .getfield 353, .iconst 14, .iaload, .ireturn]), ([0], [.aload 0, .invokevirtual 232, .ireturn]), ([0], [.aload 0, .invokevirtual 233, .ireturn]), ([0], [.aload 0, .invokevirtual 234, .ireturn]), ([0], [.aload 0, .invokevirtual 235, .ireturn]), ([0], [.aload 0, .invokevirtual 236, .ireturn]), ([0], [.aload 0, .invokevirtual 237, .ireturn]), ([0], [.aload 0, .invokevirtual 238, .ireturn])])
/-- BannerParadeModel.setting(I)I -/
def xM240 : XT := (2, 2, 11, 1, [], [([0, 1], [.aload 0, .aload 0, .getfield 358, .iload 1, .iconst 0, .iconst 5, .invokestatic 175, .invokevirtual 177, .ifCond .eq 2, .goto_w 1]), ([0, 1], [.aload 0, .getfield 353, .iload 1, .iaload, .goto 3]), ([], [.iconst 0, .goto_w 3]), ([], [.ireturn])])
/-- BannerParadeModel.mayBearer(I)Z -/
def xM241 : XT := (2, 2, 11, 2, [], [([0, 1], [.aload 0, .aload 0, .getfield 358, .aload 0, .iload 1, .invokevirtual 208, .invokevirtual 177, .ireturn])])
/-- BannerParadeModel.mayStand(I)Z -/
def xM242 : XT := (2, 2, 11, 2, [], [([0, 1], [.aload 0, .aload 0, .getfield 358, .aload 0, .iload 1, .invokevirtual 209, .invokevirtual 177, .ireturn])])
/-- BannerParadeModel.mayWith(IZ)Z -/
def xM243 : XT := (3, 3, 11, 2, [], [([0, 1, 2], [.aload 0, .aload 0, .getfield 358, .aload 0, .iload 1, .invokevirtual 208, .iload 2, .invokevirtual 176, .ireturn])])
/-- BannerParadeModel.seersOf(I)I -/
def xM244 : XT := (2, 4, 11, 1, [], [([0, 1], [.iconst 0, .istore 2, .iconst 0, .istore 3, .goto_w 1]), ([0, 1, 2, 3], [.iload 3, .aload 0, .getfield 353, .iconst 7, .iaload, .if_icmp .ge 6, .goto_w 2]), ([0, 1, 2, 3], [.iload 2, .aload 0, .iload 3, .iload 1, .invokevirtual 219, .ifCond .eq 4, .goto_w 3]), ([0, 1, 3], [.iconst 1, .goto 5]), ([0, 1, 3], [.iconst 0, .goto_w 5]), ([0, 1, 3], [.iadd, .istore 2, .iinc 3 1, .goto 1]), ([2], [.iload 2, .ireturn])])
/-- BannerParadeModel.weaker(I)I -/
def xM245 : XT := (2, 4, 11, 1, [], [([0, 1], [.iconst 0, .istore 2, .iconst 0, .istore 3, .goto_w 1]), ([0, 1, 2, 3], [.iload 3, .aload 0, .getfield 353, .iconst 6, .iaload, .if_icmp .ge 6, .goto_w 2]), ([0, 1, 2, 3], [.iload 2, .aload 0, .iload 3, .iconst 4, .invokevirtual 202, .aload 0, .iload 1, .iconst 4, .invokevirtual 202, .if_icmp .ge 4, .goto_w 3]), ([0, 1, 3], [.iconst 1, .goto 5]), ([0, 1, 3], [.iconst 0, .goto_w 5]), ([0, 1, 3], [.iadd, .istore 2, .iinc 3 1, .goto 1]), ([2], [.iload 2, .ireturn])])
/-- BannerParadeModel.bearer(II)I -/
def xM246 : XT := (3, 3, 11, 1, [], [([0, 1, 2], [.aload 0, .iload 1, .iload 2, .iconst 0, .iconst 12, .invokestatic 175, .invokevirtual 243, .ifCond .ne 2, .goto_w 1]), ([], [.iconst 0, .ireturn]), ([0, 1, 2], [.iload 2, .tableswitch 17 5 12 #[3, 4, 8, 9, 10, 11, 12, 13]]), ([0, 1], [.aload 0, .iload 1, .invokevirtual 210, .ireturn]), ([0, 1], [.iload 1, .ifCond .ne 6, .goto_w 5]), ([], [.iconst (-1), .goto 7]), ([0, 1], [.aload 0, .iload 1, .invokevirtual 211, .goto_w 7]), ([], [.ireturn]), ([0, 1], [.aload 0, .iload 1, .iconst 5, .invokevirtual 202, .ireturn]), ([0, 1], [.aload 0, .iload 1, .iconst 6, .invokevirtual 202, .ireturn]), ([0, 1], [.aload 0, .iload 1, .invokevirtual 244, .ireturn]), ([0, 1], [.aload 0, .iconst 0, .iconst 1, .invokevirtual 202, .aload 0, .iload 1, .iconst 1, .invokevirtual 202, .isub, .ireturn]), ([0, 1], [.aload 0, .iload 1, .invokevirtual 245, .ireturn]), ([0, 1], [.aload 0, .aload 0, .iload 1, .iconst 1, .invokevirtual 202, .aload 0, .iload 1, .iconst 1, .invokevirtual 202, .invokevirtual 215, .iconst (-1), .if_icmp .ne 15, .goto_w 14]), ([], [.iconst 0, .goto 16]), ([], [.iconst 1, .goto_w 16]), ([], [.ireturn]), ([0, 1, 2], [.aload 0, .iload 1, .iload 2, .invokevirtual 202, .ireturn])])
/-- BannerParadeModel.seenSet(I)I -/
def xM247 : XT := (2, 4, 11, 1, [], [([0, 1], [.iconst 0, .istore 2, .iconst 0, .istore 3, .goto_w 1]), ([0, 1, 2, 3], [.iload 3, .aload 0, .getfield 353, .iconst 6, .iaload, .if_icmp .ge 6, .goto_w 2]), ([0, 1, 2, 3], [.iload 2, .aload 0, .iload 1, .iload 3, .invokevirtual 219, .ifCond .eq 4, .goto_w 3]), ([0, 1, 3], [.iconst 1, .iload 3, .ishl, .goto 5]), ([0, 1, 3], [.iconst 0, .goto_w 5]), ([0, 1, 3], [.ior, .istore 2, .iinc 3 1, .goto 1]), ([2], [.iload 2, .ireturn])])
/-- BannerParadeModel.bits(I)I -/
def xM248 : XT := (1, 3, 99, 1, [], [([0], [.iconst 0, .istore 1, .iconst 0, .istore 2, .goto_w 1]), ([0, 1, 2], [.iload 2, .iconst 12, .if_icmp .ge 3, .goto_w 2]), ([0, 1, 2], [.iload 1, .iload 0, .iload 2, .ishr, .iconst 1, .iand, .iadd, .istore 1, .iinc 2 1, .goto 1]), ([1], [.iload 1, .ireturn])])
/-- BannerParadeModel.textLength(I)I -/
def xM249 : XT := (2, 2, 11, 1, [], [([0, 1], [.aload 0, .iload 1, .invokevirtual 220, .aload 0, .getfield 370, .ireturn])])
/-- BannerParadeModel.nearest(I)I -/
def xM250 : XT := (2, 5, 11, 1, [], [([0, 1], [.iconst (-1), .istore 2, .iconst 0, .istore 3, .goto_w 1]), ([0, 1, 2, 3], [.iload 3, .aload 0, .getfield 353, .iconst 6, .iaload, .if_icmp .ge 6, .goto_w 2]), ([0, 1, 2, 3], [.aload 0, .iload 3, .iconst 1, .invokevirtual 202, .aload 0, .iload 1, .iconst 1, .invokevirtual 204, .isub, .invokestatic 384, .istore 4, .iload 2, .iconst (-1), .if_icmp .ne 4, .goto_w 3]), ([0, 1, 3, 4], [.iload 4, .goto 5]), ([0, 1, 2, 3, 4], [.iload 2, .iload 4, .invokestatic 386, .goto_w 5]), ([0, 1, 3], [.istore 2, .iinc 3 1, .goto 1]), ([2], [.iload 2, .ireturn])])
/-- BannerParadeModel.beyond(I)I -/
def xM251 : XT := (2, 4, 11, 1, [], [([0, 1], [.iconst 0, .istore 2, .iconst 0, .istore 3, .goto_w 1]), ([0, 1, 2, 3], [.iload 3, .aload 0, .getfield 353, .iconst 6, .iaload, .if_icmp .ge 6, .goto_w 2]), ([0, 1, 2, 3], [.iload 2, .aload 0, .iload 3, .iconst 1, .invokevirtual 202, .aload 0, .iload 1, .iconst 1, .invokevirtual 204, .aload 0, .getfield 353, .iconst 1, .iaload, .iadd, .if_icmp .le 4, .goto_w 3]), ([0, 1, 3], [.iconst 1, .goto 5]), ([0, 1, 3], [.iconst 0, .goto_w 5]), ([0, 1, 3], [.iadd, .istore 2, .iinc 3 1, .goto 1]), ([2], [.iload 2, .ireturn])])
/-- BannerParadeModel.ahead(I)I -/
def xM252 : XT := (2, 4, 11, 1, [], [([0, 1], [.iconst 0, .istore 2, .iconst 0, .istore 3, .goto_w 1]), ([0, 1, 2, 3], [.iload 3, .aload 0, .getfield 353, .iconst 6, .iaload, .if_icmp .ge 6, .goto_w 2]), ([0, 1, 2, 3], [.iload 2, .aload 0, .iload 3, .iconst 1, .invokevirtual 202, .aload 0, .iload 1, .iconst 1, .invokevirtual 204, .aload 0, .getfield 353, .iconst 1, .iaload, .isub, .if_icmp .ge 4, .goto_w 3]), ([0, 1, 3], [.iconst 1, .goto 5]), ([0, 1, 3], [.iconst 0, .goto_w 5]), ([0, 1, 3], [.iadd, .istore 2, .iinc 3 1, .goto 1]), ([2], [.iload 2, .ireturn])])
/-- BannerParadeModel.stand(II)I -/
def xM253 : XT := (3, 3, 11, 1, [], [([0, 1, 2], [.aload 0, .aload 0, .getfield 358, .aload 0, .iload 1, .invokevirtual 209, .iload 2, .iconst 0, .iconst 8, .invokestatic 175, .invokevirtual 176, .ifCond .ne 2, .goto_w 1]), ([], [.iconst 0, .ireturn]), ([0, 1, 2], [.iload 2, .tableswitch 8 4 8 #[3, 4, 5, 6, 7]]), ([0, 1], [.aload 0, .iload 1, .invokevirtual 247, .invokestatic 248, .ireturn]), ([0, 1], [.aload 0, .iload 1, .invokevirtual 249, .ireturn]), ([0, 1], [.aload 0, .iload 1, .invokevirtual 250, .ireturn]), ([0, 1], [.aload 0, .iload 1, .invokevirtual 251, .ireturn]), ([0, 1], [.aload 0, .iload 1, .invokevirtual 252, .ireturn]), ([0, 1, 2], [.aload 0, .iload 1, .iload 2, .invokevirtual 204, .ireturn])])
/-- BannerParadeModel.plan(II)I -/
def xM254 : XT := (3, 3, 11, 1, [], [([0, 1, 2], [.aload 0, .aload 0, .getfield 358, .iload 1, .iconst 0, .aload 0, .getfield 353, .iconst 8, .iaload, .iconst 1, .isub, .invokestatic 175, .iload 2, .iconst 0, .iconst 3, .invokestatic 175, .invokevirtual 176, .ifCond .ne 2, .goto_w 1]), ([], [.iconst 0, .ireturn]), ([0, 1, 2], [.iload 2, .iconst 3, .if_icmp .ge 4, .goto_w 3]), ([0, 1, 2], [.aload 0, .iload 1, .iload 2, .invokevirtual 206, .ireturn]), ([0, 1], [.aload 0, .iload 1, .iconst 2, .invokevirtual 206, .ifCond .ne 6, .goto_w 5]), ([0, 1], [.aload 0, .iload 1, .iconst 0, .invokevirtual 206, .aload 0, .getfield 353, .iconst 9, .iaload, .isub, .goto 7]), ([], [.iconst (-1), .goto_w 7]), ([], [.ireturn])])
/-- BannerParadeModel.lying(II)I -/
def xM255 : XT := (3, 3, 11, 1, [], [([0, 1, 2], [.aload 0, .aload 0, .getfield 358, .iload 1, .iconst 0, .aload 0, .getfield 353, .iconst 10, .iaload, .iconst 1, .isub, .invokestatic 175, .iload 2, .iconst 0, .iconst 2, .invokestatic 175, .invokevirtual 176, .ifCond .eq 2, .goto_w 1]), ([0, 1, 2], [.aload 0, .iload 1, .iload 2, .invokevirtual 207, .goto 3]), ([], [.iconst 0, .goto_w 3]), ([], [.ireturn])])
/-- BannerParadeModel.wordByte(II)I -/
def xM256 : XT := (3, 3, 11, 1, [], [([0, 1, 2], [.aload 0, .iload 1, .invokevirtual 242, .ifCond .ne 2, .goto_w 1]), ([], [.iconst 0, .ireturn]), ([0, 1, 2], [.iload 2, .iconst 0, .aload 0, .iload 1, .iconst 2, .invokevirtual 204, .iconst 1, .isub, .invokestatic 175, .ifCond .eq 4, .goto_w 3]), ([0, 1, 2], [.aload 0, .iload 1, .iconst 4, .iload 2, .iadd, .invokevirtual 204, .goto 5]), ([], [.iconst (-1), .goto_w 5]), ([], [.ireturn])])
/-- BannerParadeModel.readByte(II)I -/
def xM257 : XT := (3, 3, 11, 1, [], [([0, 1, 2], [.aload 0, .iload 1, .invokevirtual 242, .ifCond .ne 2, .goto_w 1]), ([], [.iconst 0, .ireturn]), ([0, 1, 2], [.aload 0, .iload 1, .invokevirtual 220, .iload 2, .iconst 0, .aload 0, .getfield 370, .iconst 1, .isub, .invokestatic 175, .ifCond .eq 4, .goto_w 3]), ([0, 2], [.aload 0, .getfield 369, .iload 2, .iaload, .goto 5]), ([], [.iconst (-1), .goto_w 5]), ([], [.ireturn])])
/-- BannerParadeModel.seen(I)I -/
def xM258 : XT := (2, 2, 11, 1, [], [([0, 1], [.aload 0, .iload 1, .invokevirtual 242, .ifCond .eq 2, .goto_w 1]), ([0, 1], [.aload 0, .iload 1, .invokevirtual 247, .goto 3]), ([], [.iconst 0, .goto_w 3]), ([], [.ireturn])])
/-- BannerParadeModel.matches(I)I -/
def xM259 : XT := (2, 2, 11, 1, [], [([0, 1], [.aload 0, .iload 1, .invokevirtual 242, .ifCond .eq 2, .goto_w 1]), ([0, 1], [.aload 0, .iload 1, .invokevirtual 222, .goto 3]), ([], [.iconst 0, .goto_w 3]), ([], [.ireturn])])
/-- BannerParadeModel.isRead(I)Z -/
def xM260 : XT := (2, 2, 11, 2, [], [([0, 1], [.aload 0, .iload 1, .invokevirtual 242, .ifCond .eq 3, .goto_w 1]), ([0, 1], [.aload 0, .iload 1, .invokevirtual 223, .ifCond .eq 3, .goto_w 2]), ([], [.iconst 1, .goto 4]), ([], [.iconst 0, .goto_w 4]), ([], [.ireturn])])
/-- BannerParadeModel.seenOne(II)I -/
def xM261 : XT := (3, 6, 11, 1, [], [([0, 1, 2], [.iload 2, .istore 3, .iconst 0, .istore 4, .goto_w 1]), ([0, 1, 3, 4], [.iload 4, .aload 0, .getfield 353, .iconst 6, .iaload, .if_icmp .ge 11, .goto_w 2]), ([0, 1, 3, 4], [.aload 0, .iload 1, .iconst 0, .invokevirtual 204, .ifCond .ne 4, .goto_w 3]), ([0, 1, 3, 4], [.iload 4, .goto 5]), ([0, 1, 3, 4], [.aload 0, .getfield 353, .iconst 6, .iaload, .iconst 1, .isub, .iload 4, .isub, .goto_w 5]), ([0, 1, 3, 4], [.istore 5, .aload 0, .iload 1, .iload 5, .invokevirtual 219, .ifCond .ne 7, .goto_w 6]), ([0, 1, 3, 4], [.goto 10]), ([0, 1, 3, 4, 5], [.iload 3, .ifCond .ne 9, .goto_w 8]), ([5], [.iload 5, .ireturn]), ([0, 1, 3, 4], [.iinc 3 (-1), .goto_w 10]), ([0, 1, 3, 4], [.iinc 4 1, .goto 1]), ([], [.iconst (-1), .ireturn])])
/-- BannerParadeModel.seenAt(II)I -/
def xM262 : XT := (3, 3, 11, 1, [], [([0, 1, 2], [.aload 0, .iload 1, .invokevirtual 242, .ifCond .ne 2, .goto_w 1]), ([], [.iconst 0, .ireturn]), ([0, 1, 2], [.iload 2, .ifCond .ge 4, .goto_w 3]), ([], [.iconst (-1), .goto 5]), ([0, 1, 2], [.aload 0, .iload 1, .iload 2, .invokevirtual 261, .goto_w 5]), ([], [.ireturn])])
/-- BannerParadeModel.blanks(I)I -/
def xM263 : XT := (2, 4, 11, 1, [], [([0, 1], [.aload 0, .iload 1, .invokevirtual 242, .ifCond .ne 2, .goto_w 1]), ([], [.iconst 0, .ireturn]), ([0, 1], [.aload 0, .iload 1, .invokevirtual 220, .iconst 0, .istore 2, .iconst 0, .istore 3, .goto_w 3]), ([0, 2, 3], [.iload 3, .aload 0, .getfield 370, .if_icmp .ge 8, .goto_w 4]), ([0, 2, 3], [.iload 2, .aload 0, .getfield 369, .iload 3, .iaload, .iconst 32, .if_icmp .ne 6, .goto_w 5]), ([0, 3], [.iconst 1, .goto 7]), ([0, 3], [.iconst 0, .goto_w 7]), ([0, 3], [.iadd, .istore 2, .iinc 3 1, .goto 3]), ([2], [.iload 2, .ireturn])])
/-- BannerParadeModel.prefix(I)I -/
def xM264 : XT := (2, 3, 11, 1, [], [([0, 1], [.aload 0, .iload 1, .invokevirtual 242, .ifCond .ne 2, .goto_w 1]), ([], [.iconst 0, .ireturn]), ([0, 1], [.aload 0, .iload 1, .invokevirtual 220, .iconst 0, .istore 2, .goto_w 3]), ([0, 1, 2], [.iload 2, .aload 0, .getfield 370, .if_icmp .ge 7, .goto_w 4]), ([0, 1, 2], [.iload 2, .aload 0, .iload 1, .iconst 2, .invokevirtual 204, .if_icmp .ge 7, .goto_w 5]), ([0, 1, 2], [.aload 0, .getfield 369, .iload 2, .iaload, .aload 0, .iload 1, .iconst 4, .iload 2, .iadd, .invokevirtual 204, .if_icmp .ne 7, .goto_w 6]), ([0, 1, 2], [.iinc 2 1, .goto 3]), ([2], [.iload 2, .ireturn])])
/-- BannerParadeModel.mayLetter(I)Z -/
def xM265 : XT := (2, 2, 11, 2, [], [([0, 1], [.aload 0, .aload 0, .getfield 358, .iload 1, .iconst 1, .iconst 26, .invokestatic 175, .invokevirtual 177, .ireturn])])
/-- BannerParadeModel.holder(I)I -/
def xM266 : XT := (2, 3, 11, 1, [], [([0, 1], [.aload 0, .iload 1, .invokevirtual 265, .ifCond .ne 2, .goto_w 1]), ([], [.iconst 0, .ireturn]), ([0, 1], [.iconst 0, .istore 2, .goto_w 3]), ([0, 1, 2], [.iload 2, .aload 0, .getfield 353, .iconst 6, .iaload, .if_icmp .ge 7, .goto_w 4]), ([0, 1, 2], [.aload 0, .iload 2, .iconst 0, .invokevirtual 202, .iload 1, .if_icmp .ne 6, .goto_w 5]), ([2], [.iload 2, .ireturn]), ([0, 1, 2], [.iinc 2 1, .goto 3]), ([], [.iconst (-1), .ireturn])])
/-- BannerParadeModel.copies(I)I -/
def xM267 : XT := (2, 4, 11, 1, [], [([0, 1], [.aload 0, .iload 1, .invokevirtual 265, .ifCond .ne 2, .goto_w 1]), ([], [.iconst 0, .ireturn]), ([0, 1], [.iconst 0, .istore 2, .iconst 0, .istore 3, .goto_w 3]), ([0, 1, 2, 3], [.iload 3, .aload 0, .getfield 353, .iconst 6, .iaload, .if_icmp .ge 8, .goto_w 4]), ([0, 1, 2, 3], [.iload 2, .aload 0, .iload 3, .iconst 0, .invokevirtual 202, .iload 1, .if_icmp .ne 6, .goto_w 5]), ([0, 1, 3], [.iconst 1, .goto 7]), ([0, 1, 3], [.iconst 0, .goto_w 7]), ([0, 1, 3], [.iadd, .istore 2, .iinc 3 1, .goto 3]), ([0, 1, 2], [.iconst 0, .istore 3, .goto_w 9]), ([0, 1, 2, 3], [.iload 3, .aload 0, .getfield 353, .iconst 10, .iaload, .if_icmp .ge 14, .goto_w 10]), ([0, 1, 2, 3], [.iload 2, .aload 0, .iload 3, .iconst 0, .invokevirtual 207, .iload 1, .if_icmp .ne 12, .goto_w 11]), ([0, 1, 3], [.iconst 1, .goto 13]), ([0, 1, 3], [.iconst 0, .goto_w 13]), ([0, 1, 3], [.iadd, .istore 2, .iinc 3 1, .goto 9]), ([2], [.iload 2, .ireturn])])
/-- BannerParadeModel.tired(I)I -/
def xM268 : XT := (2, 4, 11, 1, [], [([0, 1], [.aload 0, .aload 0, .getfield 358, .iload 1, .iconst 0, .iconst 100, .invokestatic 175, .invokevirtual 177, .ifCond .ne 2, .goto_w 1]), ([], [.iconst 0, .ireturn]), ([0, 1], [.iconst 0, .istore 2, .iconst 0, .istore 3, .goto_w 3]), ([0, 1, 2, 3], [.iload 3, .aload 0, .getfield 353, .iconst 6, .iaload, .if_icmp .ge 8, .goto_w 4]), ([0, 1, 2, 3], [.iload 2, .aload 0, .iload 3, .iconst 4, .invokevirtual 202, .iload 1, .if_icmp .gt 6, .goto_w 5]), ([0, 1, 3], [.iconst 1, .iload 3, .ishl, .goto 7]), ([0, 1, 3], [.iconst 0, .goto_w 7]), ([0, 1, 3], [.ior, .istore 2, .iinc 3 1, .goto 3]), ([2], [.iload 2, .ireturn])])
/-- BannerParadeModel.swappers()I -/
def xM269 : XT := (1, 3, 11, 1, [], [([0], [.aload 0, .invokevirtual 275, .ifCond .ne 2, .goto_w 1]), ([], [.iconst 0, .ireturn]), ([0], [.iconst 0, .istore 1, .iconst 0, .istore 2, .goto_w 3]), ([0, 1, 2], [.iload 2, .aload 0, .getfield 353, .iconst 6, .iaload, .if_icmp .ge 8, .goto_w 4]), ([0, 1, 2], [.iload 1, .aload 0, .iload 2, .invokevirtual 216, .ifCond .eq 6, .goto_w 5]), ([0, 2], [.iconst 1, .iload 2, .ishl, .goto 7]), ([0, 2], [.iconst 0, .goto_w 7]), ([0, 2], [.ior, .istore 1, .iinc 2 1, .goto 3]), ([1], [.iload 1, .ireturn])])
/-- BannerParadeModel.nextPlan()I -/
def xM270 : XT := (1, 3, 11, 1, [], [([0], [.aload 0, .invokevirtual 275, .ifCond .ne 2, .goto_w 1]), ([], [.iconst 0, .ireturn]), ([0], [.iconst (-1), .istore 1, .iconst 0, .istore 2, .goto_w 3]), ([0, 1, 2], [.iload 2, .aload 0, .getfield 353, .iconst 8, .iaload, .if_icmp .ge 9, .goto_w 4]), ([0, 1, 2], [.aload 0, .iload 2, .iconst 2, .invokevirtual 206, .ifCond .ne 8, .goto_w 5]), ([0, 1, 2], [.iload 1, .iconst (-1), .if_icmp .eq 7, .goto_w 6]), ([0, 1, 2], [.aload 0, .iload 2, .iconst 0, .invokevirtual 206, .aload 0, .iload 1, .iconst 0, .invokevirtual 206, .if_icmp .ge 8, .goto_w 7]), ([0, 2], [.iload 2, .istore 1, .goto_w 8]), ([0, 1, 2], [.iinc 2 1, .goto 3]), ([1], [.iload 1, .ireturn])])
/-- BannerParadeModel.lyingFrom(II)I -/
def xM271 : XT := (3, 5, 11, 1, [], [([0, 1, 2], [.aload 0, .invokevirtual 275, .ifCond .ne 2, .goto_w 1]), ([], [.iconst 0, .ireturn]), ([0, 1, 2], [.iconst 0, .istore 3, .iconst 0, .istore 4, .goto_w 3]), ([0, 1, 2, 3, 4], [.iload 4, .aload 0, .getfield 353, .iconst 10, .iaload, .if_icmp .ge 8, .goto_w 4]), ([0, 1, 2, 3, 4], [.iload 3, .aload 0, .iload 4, .iconst 1, .invokevirtual 207, .iload 1, .iload 2, .invokestatic 175, .ifCond .eq 6, .goto_w 5]), ([0, 1, 2, 4], [.iconst 1, .goto 7]), ([0, 1, 2, 4], [.iconst 0, .goto_w 7]), ([0, 1, 2, 4], [.iadd, .istore 3, .iinc 4 1, .goto 3]), ([3], [.iload 3, .ireturn])])
/-- BannerParadeModel.share(I)F -/
def xM272 : XT := (2, 2, 11, 6, [], [([0, 1], [.aload 0, .iload 1, .invokevirtual 242, .ifCond .eq 2, .goto_w 1]), ([0, 1], [.aload 0, .iload 1, .invokevirtual 224, .goto 3]), ([], [.fconst 0, .goto_w 3]), ([], [.freturn])])
/-- BannerParadeModel.shareBits(I)I -/
def xM273 : XT := (2, 2, 11, 1, [], [([0, 1], [.aload 0, .iload 1, .invokevirtual 242, .ifCond .eq 2, .goto_w 1]), ([0, 1], [.aload 0, .iload 1, .invokevirtual 224, .invokestatic 388, .goto 3]), ([], [.iconst 0, .goto_w 3]), ([], [.ireturn])])
/-- BannerParadeModel.missing(I)I -/
def xM274 : XT := (2, 6, 11, 1, [], [([0, 1], [.aload 0, .iload 1, .invokevirtual 242, .ifCond .ne 2, .goto_w 1]), ([], [.iconst 0, .ireturn]), ([0, 1], [.iconst 0, .istore 2, .iconst 1, .istore 3, .goto_w 3]), ([0, 1, 2, 3], [.iload 3, .iconst 26, .if_icmp .gt 17, .goto_w 4]), ([0, 1, 2, 3], [.iconst 0, .istore 4, .iconst 0, .istore 5, .goto_w 5]), ([0, 1, 2, 3, 4, 5], [.iload 5, .aload 0, .iload 1, .iconst 2, .invokevirtual 204, .if_icmp .ge 10, .goto_w 6]), ([0, 1, 2, 3, 4, 5], [.iload 4, .aload 0, .iload 1, .iconst 4, .iload 5, .iadd, .invokevirtual 204, .iconst 96, .iload 3, .iadd, .if_icmp .ne 8, .goto_w 7]), ([0, 1, 2, 3, 5], [.iconst 1, .goto 9]), ([0, 1, 2, 3, 5], [.iconst 0, .goto_w 9]), ([0, 1, 2, 3, 5], [.iadd, .istore 4, .iinc 5 1, .goto 5]), ([0, 1, 2, 3, 4], [.iconst 0, .istore 5, .goto_w 11]), ([0, 1, 2, 3, 4, 5], [.iload 5, .aload 0, .getfield 353, .iconst 6, .iaload, .if_icmp .ge 16, .goto_w 12]), ([0, 1, 2, 3, 4, 5], [.iload 4, .aload 0, .iload 5, .iconst 0, .invokevirtual 202, .iload 3, .if_icmp .ne 14, .goto_w 13]), ([0, 1, 2, 3, 5], [.iconst 1, .goto 15]), ([0, 1, 2, 3, 5], [.iconst 0, .goto_w 15]), ([0, 1, 2, 3, 5], [.isub, .istore 4, .iinc 5 1, .goto 11]), ([0, 1, 2, 3, 4], [.iload 2, .iconst 0, .iload 4, .invokestatic 385, .iadd, .istore 2, .iinc 3 1, .goto 3]), ([2], [.iload 2, .ireturn])])
/-- BannerParadeModel.mayAsk()Z -/
def xM275 : XT := (1, 1, 11, 2, [], [([0], [.aload 0, .aload 0, .getfield 358, .iconst 1, .iconst 1, .invokevirtual 176, .ireturn])])
/-- BannerParadeModel.bestStand()I -/
def xM276 : XT := (1, 3, 11, 1, [], [([0], [.aload 0, .invokevirtual 275, .ifCond .ne 2, .goto_w 1]), ([], [.iconst 0, .ireturn]), ([0], [.iconst (-1), .istore 1, .iconst 0, .istore 2, .goto_w 3]), ([0, 1, 2], [.iload 2, .aload 0, .getfield 353, .iconst 7, .iaload, .if_icmp .ge 8, .goto_w 4]), ([0, 1, 2], [.iload 1, .iconst (-1), .if_icmp .eq 6, .goto_w 5]), ([0, 1, 2], [.aload 0, .iload 2, .invokevirtual 224, .aload 0, .iload 1, .invokevirtual 224, .fcmp .l, .ifCond .le 7, .goto_w 6]), ([0, 2], [.iload 2, .istore 1, .goto_w 7]), ([0, 1, 2], [.iinc 2 1, .goto 3]), ([1], [.iload 1, .ireturn])])
/-- BannerParadeModel.readStands()I -/
def xM277 : XT := (1, 1, 11, 1, [], [([0], [.aload 0, .invokevirtual 275, .ifCond .eq 2, .goto_w 1]), ([0], [.aload 0, .invokevirtual 231, .goto 3]), ([], [.iconst 0, .goto_w 3]), ([], [.ireturn])])
/-- BannerParadeModel.weakest()I -/
def xM278 : XT := (1, 3, 11, 1, [], [([0], [.aload 0, .invokevirtual 275, .ifCond .ne 2, .goto_w 1]), ([], [.iconst 0, .ireturn]), ([0], [.iconst (-1), .istore 1, .iconst 0, .istore 2, .goto_w 3]), ([0, 1, 2], [.iload 2, .aload 0, .getfield 353, .iconst 6, .iaload, .if_icmp .ge 8, .goto_w 4]), ([0, 1, 2], [.iload 1, .iconst (-1), .if_icmp .eq 6, .goto_w 5]), ([0, 1, 2], [.aload 0, .iload 2, .iconst 4, .invokevirtual 202, .aload 0, .iload 1, .iconst 4, .invokevirtual 202, .if_icmp .ge 7, .goto_w 6]), ([0, 2], [.iload 2, .istore 1, .goto_w 7]), ([0, 1, 2], [.iinc 2 1, .goto 3]), ([1], [.iload 1, .ireturn])])
/-- BannerParadeModel.widest()I -/
def xM279 : XT := (1, 3, 11, 1, [], [([0], [.aload 0, .invokevirtual 275, .ifCond .ne 2, .goto_w 1]), ([], [.iconst 0, .ireturn]), ([0], [.iconst (-1), .istore 1, .iconst 1, .istore 2, .goto_w 3]), ([0, 1, 2], [.iload 2, .aload 0, .getfield 353, .iconst 6, .iaload, .if_icmp .ge 8, .goto_w 4]), ([0, 1, 2], [.iload 1, .iconst (-1), .if_icmp .eq 6, .goto_w 5]), ([0, 1, 2], [.aload 0, .iload 2, .invokevirtual 211, .aload 0, .iload 1, .invokevirtual 211, .if_icmp .le 7, .goto_w 6]), ([0, 2], [.iload 2, .istore 1, .goto_w 7]), ([0, 1, 2], [.iinc 2 1, .goto 3]), ([1], [.iload 1, .ireturn])])
/-- BannerParadeModel.stretch()I -/
def xM280 : XT := (1, 1, 11, 1, [], [([0], [.aload 0, .invokevirtual 275, .ifCond .eq 2, .goto_w 1]), ([0], [.aload 0, .getfield 353, .iconst 6, .iaload, .iconst 2, .if_icmp .ge 3, .goto_w 2]), ([], [.iconst 0, .ireturn]), ([0], [.aload 0, .iconst 0, .iconst 1, .invokevirtual 202, .aload 0, .aload 0, .getfield 353, .iconst 6, .iaload, .iconst 1, .isub, .iconst 1, .invokevirtual 202, .isub, .ireturn])])
/-- BannerParadeModel.meanNow()D -/
def xM281 : XT := (1, 3, 11, 7, [], [([0], [.iconst 0, .istore 1, .iconst 0, .istore 2, .goto_w 1]), ([0, 1, 2], [.iload 2, .aload 0, .getfield 353, .iconst 6, .iaload, .if_icmp .ge 3, .goto_w 2]), ([0, 1, 2], [.iload 1, .aload 0, .iload 2, .iconst 4, .invokevirtual 202, .iadd, .istore 1, .iinc 2 1, .goto 1]), ([0, 1], [.aload 0, .getfield 353, .iconst 6, .iaload, .ifCond .ne 5, .goto_w 4]), ([], [.dconst 0, .goto 6]), ([0, 1], [.iload 1, .i2d, .aload 0, .getfield 353, .iconst 6, .iaload, .i2d, .ddiv, .goto_w 6]), ([], [.dreturn])])
/-- BannerParadeModel.meanStrength()D -/
def xM282 : XT := (1, 1, 11, 7, [], [([0], [.aload 0, .invokevirtual 275, .ifCond .eq 2, .goto_w 1]), ([0], [.aload 0, .invokevirtual 281, .goto 3]), ([], [.dconst 0, .goto_w 3]), ([], [.dreturn])])
/-- BannerParadeModel.strengthBits()J -/
def xM283 : XT := (1, 1, 11, 5, [], [([0], [.aload 0, .invokevirtual 275, .ifCond .eq 2, .goto_w 1]), ([0], [.aload 0, .invokevirtual 281, .invokestatic 390, .goto 3]), ([], [.lconst 0, .goto_w 3]), ([], [.lreturn])])
/-- BannerParadeModel.thinks()V -/
def xM284 : XT := (1, 1, 11, 0, [], [([0], [.aload 0, .getfield 353, .iconst 0, .aload 0, .getfield 354, .iconst 0, .invokestatic 178, .return_])])
/-- BannerParadeModel.back(I)I -/
def xM285 : XT := (2, 2, 11, 1, [], [([0, 1], [.aload 0, .getfield 354, .iconst 0, .aload 0, .getfield 353, .iconst 0, .invokestatic 178, .iload 1, .ireturn])])
/-- BannerParadeModel.backFloat(F)F -/
def xM286 : XT := (2, 2, 11, 6, [], [([0, 1], [.aload 0, .getfield 354, .iconst 0, .aload 0, .getfield 353, .iconst 0, .invokestatic 178, .fload 1, .freturn])])
/-- BannerParadeModel.readsIn(I)I -/
def xM287 : XT := (2, 3, 11, 1, [], [([0, 1], [.aload 0, .iload 1, .invokevirtual 242, .ifCond .ne 2, .goto_w 1]), ([], [.iconst 0, .ireturn]), ([0, 1], [.aload 0, .invokevirtual 284, .iconst 0, .istore 2, .goto_w 3]), ([0, 1, 2], [.iload 2, .iconst 300, .if_icmp .gt 7, .goto_w 4]), ([0, 1, 2], [.aload 0, .iload 1, .invokevirtual 223, .ifCond .eq 6, .goto_w 5]), ([0, 2], [.aload 0, .iload 2, .invokevirtual 285, .ireturn]), ([0, 1, 2], [.aload 0, .invokevirtual 228, .iinc 2 1, .goto 3]), ([0], [.aload 0, .iconst (-1), .invokevirtual 285, .ireturn])])
/-- BannerParadeModel.havePassed(I)Z -/
def xM288 : XT := (2, 4, 11, 2, [], [([0, 1], [.iconst 1, .istore 2, .iconst 0, .istore 3, .goto_w 1]), ([0, 1, 2, 3], [.iload 3, .aload 0, .getfield 353, .iconst 6, .iaload, .if_icmp .ge 6, .goto_w 2]), ([0, 1, 2, 3], [.iload 2, .aload 0, .iload 3, .iconst 1, .invokevirtual 202, .aload 0, .iload 1, .iconst 1, .invokevirtual 204, .aload 0, .getfield 353, .iconst 1, .iaload, .iadd, .if_icmp .le 4, .goto_w 3]), ([0, 1, 3], [.iconst 1, .goto 5]), ([0, 1, 3], [.iconst 0, .goto_w 5]), ([0, 1, 3], [.iand, .istore 2, .iinc 3 1, .goto 1]), ([2], [.iload 2, .ireturn])])
/-- BannerParadeModel.passedIn(I)I -/
def xM289 : XT := (2, 3, 11, 1, [], [([0, 1], [.aload 0, .iload 1, .invokevirtual 242, .ifCond .ne 2, .goto_w 1]), ([], [.iconst 0, .ireturn]), ([0, 1], [.aload 0, .invokevirtual 284, .iconst 0, .istore 2, .goto_w 3]), ([0, 1, 2], [.iload 2, .iconst 300, .if_icmp .gt 7, .goto_w 4]), ([0, 1, 2], [.aload 0, .iload 1, .invokevirtual 288, .ifCond .eq 6, .goto_w 5]), ([0, 2], [.aload 0, .iload 2, .invokevirtual 285, .ireturn]), ([0, 1, 2], [.aload 0, .invokevirtual 228, .iinc 2 1, .goto 3]), ([0], [.aload 0, .iconst (-1), .invokevirtual 285, .ireturn])])
/-- BannerParadeModel.isFar(I)Z -/
def xM290 : XT := (1, 1, 99, 2, [], [([0], [.iload 0, .iconst 0, .iconst 300, .invokestatic 175, .ireturn])])
/-- BannerParadeModel.partIn(III)I -/
def xM291 : XT := (4, 4, 11, 1, [], [([0, 1, 2, 3], [.aload 0, .iload 1, .iload 2, .invokestatic 290, .invokevirtual 243, .ifCond .ne 2, .goto_w 1]), ([], [.iconst 0, .ireturn]), ([0, 1, 2, 3], [.aload 0, .invokevirtual 284, .aload 0, .iload 2, .invokevirtual 229, .aload 0, .aload 0, .iload 1, .iload 3, .invokevirtual 202, .invokevirtual 285, .ireturn])])
/-- BannerParadeModel.placeIn(II)I -/
def xM292 : XT := (3, 3, 11, 1, [], [([0, 1, 2], [.aload 0, .iload 1, .iload 2, .iconst 1, .invokevirtual 291, .ireturn])])
/-- BannerParadeModel.strengthIn(II)I -/
def xM293 : XT := (3, 3, 11, 1, [], [([0, 1, 2], [.aload 0, .iload 1, .iload 2, .iconst 4, .invokevirtual 291, .ireturn])])
/-- BannerParadeModel.bannerIn(II)I -/
def xM294 : XT := (3, 3, 11, 1, [], [([0, 1, 2], [.aload 0, .iload 1, .iload 2, .iconst 0, .invokevirtual 291, .ireturn])])
/-- BannerParadeModel.dropsIn(I)I -/
def xM295 : XT := (2, 2, 11, 1, [], [([0, 1], [.aload 0, .aload 0, .getfield 358, .iload 1, .invokestatic 290, .invokevirtual 177, .ifCond .ne 2, .goto_w 1]), ([], [.iconst 0, .ireturn]), ([0, 1], [.aload 0, .invokevirtual 284, .aload 0, .iload 1, .invokevirtual 229, .aload 0, .aload 0, .getfield 353, .iconst 13, .iaload, .aload 0, .getfield 354, .iconst 13, .iaload, .isub, .invokevirtual 285, .ireturn])])
/-- BannerParadeModel.firstDrop()I -/
def xM296 : XT := (1, 2, 11, 1, [], [([0], [.aload 0, .invokevirtual 275, .ifCond .ne 2, .goto_w 1]), ([], [.iconst 0, .ireturn]), ([0], [.aload 0, .invokevirtual 284, .iconst 1, .istore 1, .goto_w 3]), ([0, 1], [.iload 1, .iconst 300, .if_icmp .gt 7, .goto_w 4]), ([0, 1], [.aload 0, .invokevirtual 228, .aload 0, .getfield 353, .iconst 13, .iaload, .aload 0, .getfield 354, .iconst 13, .iaload, .if_icmp .le 6, .goto_w 5]), ([0, 1], [.aload 0, .iload 1, .invokevirtual 285, .ireturn]), ([0, 1], [.iinc 1 1, .goto 3]), ([0], [.aload 0, .iconst (-1), .invokevirtual 285, .ireturn])])
/-- BannerParadeModel.mayStandIn(II)Z -/
def xM297 : XT := (3, 3, 11, 2, [], [([0, 1, 2], [.aload 0, .aload 0, .getfield 358, .aload 0, .iload 1, .invokevirtual 209, .iload 2, .invokestatic 290, .invokevirtual 176, .ireturn])])
/-- BannerParadeModel.shareIn(II)F -/
def xM298 : XT := (3, 3, 11, 6, [], [([0, 1, 2], [.aload 0, .iload 1, .iload 2, .invokevirtual 297, .ifCond .ne 2, .goto_w 1]), ([], [.fconst 0, .freturn]), ([0, 1, 2], [.aload 0, .invokevirtual 284, .aload 0, .iload 2, .invokevirtual 229, .aload 0, .aload 0, .iload 1, .invokevirtual 224, .invokevirtual 286, .freturn])])
/-- BannerParadeModel.bestShare(II)F -/
def xM299 : XT := (3, 5, 11, 6, [], [([0, 1, 2], [.aload 0, .iload 1, .iload 2, .invokevirtual 297, .ifCond .ne 2, .goto_w 1]), ([], [.fconst 0, .freturn]), ([0, 1, 2], [.aload 0, .invokevirtual 284, .aload 0, .iload 1, .invokevirtual 224, .fstore 3, .iconst 0, .istore 4, .goto_w 3]), ([0, 1, 2, 3, 4], [.iload 4, .iload 2, .if_icmp .ge 5, .goto_w 4]), ([0, 1, 2, 3, 4], [.aload 0, .invokevirtual 228, .fload 3, .aload 0, .iload 1, .invokevirtual 224, .frem, .fstore 3, .iinc 4 1, .goto 3]), ([0, 3], [.aload 0, .fload 3, .invokevirtual 286, .freturn])])
/-- BannerParadeModel.bestSwap(I)I -/
def xM300 : XT := (2, 6, 11, 1, [], [([0, 1], [.aload 0, .iload 1, .invokevirtual 242, .ifCond .ne 2, .goto_w 1]), ([], [.iconst 0, .ireturn]), ([0, 1], [.aload 0, .iload 1, .invokevirtual 224, .fstore 2, .iconst (-1), .istore 3, .iconst 0, .istore 4, .goto_w 3]), ([0, 1, 2, 3, 4], [.iload 4, .iconst 1, .iadd, .aload 0, .getfield 353, .iconst 6, .iaload, .if_icmp .ge 8, .goto_w 4]), ([0, 1, 2, 3, 4], [.aload 0, .iload 4, .invokevirtual 217, .aload 0, .iload 1, .invokevirtual 224, .fstore 5, .aload 0, .iload 4, .invokevirtual 217, .fload 5, .fload 2, .fcmp .g, .ifCond .gt 6, .goto_w 5]), ([0, 1, 2, 3, 4], [.goto 7]), ([0, 1, 4, 5], [.iload 4, .istore 3, .fload 5, .fstore 2, .goto_w 7]), ([0, 1, 2, 3, 4], [.iinc 4 1, .goto 3]), ([3], [.iload 3, .ireturn])])
/-- BannerParadeModel.closedIn(I)I -/
def xM301 : XT := (2, 3, 11, 1, [], [([0, 1], [.aload 0, .iload 1, .invokevirtual 241, .ifCond .eq 2, .goto_w 1]), ([0, 1], [.iload 1, .ifCond .ne 6, .goto_w 2]), ([0], [.aload 0, .getfield 352, .ifCond .le 4, .goto_w 3]), ([], [.iconst 0, .goto 5]), ([], [.iconst (-1), .goto_w 5]), ([], [.ireturn]), ([0, 1], [.aload 0, .invokevirtual 284, .iconst 0, .istore 2, .goto_w 7]), ([0, 1, 2], [.iload 2, .iconst 300, .if_icmp .gt 11, .goto_w 8]), ([0, 1, 2], [.aload 0, .iload 1, .invokevirtual 211, .aload 0, .getfield 353, .iconst 0, .iaload, .if_icmp .ne 10, .goto_w 9]), ([0, 2], [.aload 0, .iload 2, .invokevirtual 285, .ireturn]), ([0, 1, 2], [.aload 0, .invokevirtual 228, .iinc 2 1, .goto 7]), ([0], [.aload 0, .iconst (-1), .invokevirtual 285, .ireturn])])
/-- BannerParadeModel.leastRest()I -/
def xM302 : XT := (1, 4, 11, 1, [], [([0], [.aload 0, .invokevirtual 275, .ifCond .ne 2, .goto_w 1]), ([], [.iconst 0, .ireturn]), ([0], [.aload 0, .invokevirtual 284, .iconst 0, .istore 1, .goto_w 3]), ([0, 1], [.iload 1, .iconst 50, .if_icmp .gt 10, .goto_w 4]), ([0, 1], [.aload 0, .getfield 353, .iconst 3, .iload 1, .iastore, .aload 0, .iconst 100, .invokevirtual 229, .aload 0, .getfield 353, .iconst 13, .iaload, .aload 0, .getfield 354, .iconst 13, .iaload, .if_icmp .ne 6, .goto_w 5]), ([0, 1], [.iconst 1, .goto 7]), ([0, 1], [.iconst 0, .goto_w 7]), ([0, 1], [.istore 2, .aload 0, .iconst 0, .invokevirtual 285, .istore 3, .iload 2, .ifCond .eq 9, .goto_w 8]), ([1], [.iload 1, .ireturn]), ([0, 1], [.iinc 1 1, .goto 3]), ([], [.iconst (-1), .ireturn])])
/-- BannerParadeModel.writesByte(I)V -/
def xM303 : XT := (2, 2, 11, 0, [], [([0, 1], [.aload 0, .getfield 372, .aload 0, .getfield 373, .iload 1, .i2b, .bastore, .aload 0, .dup, .getfield 373, .iconst 1, .iadd, .putfield 373, .return_])])
/-- BannerParadeModel.writesNumber(I)V -/
def xM304 : XT := (2, 2, 11, 0, [], [([0, 1], [.iload 1, .iconst 9, .if_icmp .le 2, .goto_w 1]), ([0, 1], [.aload 0, .iload 1, .iconst 10, .idiv, .invokevirtual 304, .goto_w 2]), ([0, 1], [.aload 0, .iconst 48, .iload 1, .iconst 10, .irem, .iadd, .invokevirtual 303, .return_])])
/-- BannerParadeModel.writeStand(I)I -/
def xM305 : XT := (2, 3, 11, 1, [], [([0, 1], [.aload 0, .iload 1, .invokevirtual 242, .ifCond .ne 2, .goto_w 1]), ([], [.iconst 0, .ireturn]), ([0, 1], [.aload 0, .iload 1, .invokevirtual 220, .aload 0, .iconst 0, .putfield 373, .iconst 0, .istore 2, .goto_w 3]), ([0, 2], [.iload 2, .aload 0, .getfield 370, .if_icmp .ge 5, .goto_w 4]), ([0, 2], [.aload 0, .aload 0, .getfield 369, .iload 2, .iaload, .invokevirtual 303, .iinc 2 1, .goto 3]), ([0], [.aload 0, .getfield 373, .ireturn])])
/-- BannerParadeModel.writeRow()I -/
def xM306 : XT := (1, 2, 11, 1, [], [([0], [.aload 0, .invokevirtual 275, .ifCond .ne 2, .goto_w 1]), ([], [.iconst 0, .ireturn]), ([0], [.aload 0, .iconst 0, .putfield 373, .iconst 0, .istore 1, .goto_w 3]), ([0, 1], [.iload 1, .aload 0, .getfield 353, .iconst 6, .iaload, .if_icmp .ge 8, .goto_w 4]), ([0, 1], [.aload 0, .aload 0, .iload 1, .iconst 0, .invokevirtual 202, .ifCond .le 6, .goto_w 5]), ([0, 1], [.iconst 96, .aload 0, .iload 1, .iconst 0, .invokevirtual 202, .iadd, .goto 7]), ([0, 1], [.iconst 45, .goto_w 7]), ([0, 1], [.invokevirtual 303, .iinc 1 1, .goto 3]), ([0], [.aload 0, .getfield 373, .ireturn])])
/-- BannerParadeModel.writePlaces()I -/
def xM307 : XT := (1, 2, 11, 1, [], [([0], [.aload 0, .invokevirtual 275, .ifCond .ne 2, .goto_w 1]), ([], [.iconst 0, .ireturn]), ([0], [.aload 0, .iconst 0, .putfield 373, .iconst 0, .istore 1, .goto_w 3]), ([0, 1], [.iload 1, .aload 0, .getfield 353, .iconst 6, .iaload, .if_icmp .ge 9, .goto_w 4]), ([0, 1], [.iload 1, .ifCond .le 6, .goto_w 5]), ([0, 1], [.aload 0, .iconst 44, .invokevirtual 303, .goto_w 6]), ([0, 1], [.aload 0, .iload 1, .iconst 1, .invokevirtual 202, .ifCond .ge 8, .goto_w 7]), ([0, 1], [.aload 0, .iconst 45, .invokevirtual 303, .goto_w 8]), ([0, 1], [.aload 0, .aload 0, .iload 1, .iconst 1, .invokevirtual 202, .invokestatic 384, .invokevirtual 304, .iinc 1 1, .goto 3]), ([0], [.aload 0, .getfield 373, .ireturn])])
/-- BannerParadeModel.textByte(I)I -/
def xM308 : XT := (2, 2, 11, 1, [], [([0, 1], [.aload 0, .iload 1, .iconst 0, .aload 0, .getfield 373, .iconst 1, .isub, .invokestatic 175, .iconst 1, .iconst 1, .invokevirtual 176, .ifCond .eq 2, .goto_w 1]), ([0, 1], [.aload 0, .getfield 372, .iload 1, .baload, .goto 3]), ([], [.iconst 0, .goto_w 3]), ([], [.ireturn])])
/-- BannerParadeModel.remembers()V -/
def xM309 : XT := (1, 2, 11, 0, [], [([0], [.aload 0, .getfield 359, .iconst 8, .if_icmp .ne 5, .goto_w 1]), ([0], [.iconst 0, .istore 1, .goto_w 2]), ([0, 1], [.iload 1, .iconst 1701, .if_icmp .ge 4, .goto_w 3]), ([0, 1], [.aload 0, .getfield 355, .iload 1, .aload 0, .getfield 355, .iload 1, .iconst 243, .iadd, .iaload, .iastore, .iinc 1 1, .goto 2]), ([0], [.aload 0, .dup, .getfield 359, .iconst 1, .isub, .putfield 359, .goto_w 5]), ([0], [.aload 0, .getfield 353, .iconst 0, .aload 0, .getfield 355, .aload 0, .getfield 359, .iconst 243, .imul, .invokestatic 178, .aload 0, .dup, .getfield 359, .iconst 1, .iadd, .putfield 359, .return_])])
/-- BannerParadeModel.tick(I)I -/
def xM310 : XT := (2, 3, 11, 1, [], [([0, 1], [.aload 0, .aload 0, .getfield 358, .iload 1, .iconst 1, .iconst 100, .invokestatic 175, .ifCond .eq 3, .goto_w 1]), ([0, 1], [.aload 0, .getfield 353, .iconst 9, .iaload, .iload 1, .iadd, .iconst 5000, .if_icmp .gt 3, .goto_w 2]), ([0, 1], [.iconst 1, .goto 4]), ([0, 1], [.iconst 0, .goto_w 4]), ([0, 1], [.invokevirtual 177, .ifCond .ne 6, .goto_w 5]), ([], [.iconst 0, .ireturn]), ([0, 1], [.aload 0, .invokevirtual 309, .aload 0, .invokevirtual 232, .istore 2, .aload 0, .iload 1, .invokevirtual 229, .aload 0, .invokevirtual 232, .iload 2, .isub, .ireturn])])
/-- BannerParadeModel.swap(I)I -/
def xM311 : XT := (2, 3, 11, 1, [], [([0, 1], [.aload 0, .getfield 358, .ifCond .eq 3, .goto_w 1]), ([0, 1], [.aload 0, .iload 1, .invokevirtual 208, .ifCond .eq 3, .goto_w 2]), ([0, 1], [.iconst 1, .goto 4]), ([0, 1], [.iconst 0, .goto_w 4]), ([0, 1], [.istore 2, .aload 0, .aload 0, .getfield 358, .iload 2, .iload 2, .ifCond .eq 7, .goto_w 5]), ([0, 1], [.aload 0, .iload 1, .invokevirtual 216, .ifCond .eq 7, .goto_w 6]), ([0, 1], [.iconst 1, .goto 8]), ([0, 1], [.iconst 0, .goto_w 8]), ([0, 1], [.invokevirtual 176, .ifCond .ne 10, .goto_w 9]), ([], [.iconst 0, .ireturn]), ([0, 1], [.aload 0, .invokevirtual 309, .aload 0, .iload 1, .invokevirtual 218, .aload 0, .iload 1, .iconst 0, .invokevirtual 202, .ireturn])])
/-- BannerParadeModel.drop(I)I -/
def xM312 : XT := (2, 3, 11, 1, [], [([0, 1], [.aload 0, .getfield 358, .ifCond .eq 3, .goto_w 1]), ([0, 1], [.aload 0, .iload 1, .invokevirtual 208, .ifCond .eq 3, .goto_w 2]), ([0, 1], [.iconst 1, .goto 4]), ([0, 1], [.iconst 0, .goto_w 4]), ([0, 1], [.istore 2, .aload 0, .aload 0, .getfield 358, .iload 2, .iload 2, .ifCond .eq 7, .goto_w 5]), ([0, 1], [.aload 0, .iload 1, .iconst 0, .invokevirtual 202, .ifCond .le 7, .goto_w 6]), ([0, 1], [.iconst 1, .goto 8]), ([0, 1], [.iconst 0, .goto_w 8]), ([0, 1], [.invokevirtual 176, .ifCond .ne 10, .goto_w 9]), ([], [.iconst 0, .ireturn]), ([0, 1], [.aload 0, .invokevirtual 309, .aload 0, .iload 1, .invokevirtual 213, .aload 0, .getfield 353, .iconst 10, .iaload, .ireturn])])
/-- BannerParadeModel.pick(I)I -/
def xM313 : XT := (2, 4, 11, 1, [], [([0, 1], [.aload 0, .getfield 358, .ifCond .eq 3, .goto_w 1]), ([0, 1], [.aload 0, .iload 1, .invokevirtual 208, .ifCond .eq 3, .goto_w 2]), ([0, 1], [.iconst 1, .goto 4]), ([0, 1], [.iconst 0, .goto_w 4]), ([0, 1], [.istore 2, .iload 2, .ifCond .eq 6, .goto_w 5]), ([0, 1, 2], [.aload 0, .aload 0, .iload 1, .iconst 1, .invokevirtual 202, .aload 0, .iload 1, .iconst 1, .invokevirtual 202, .invokevirtual 215, .goto 7]), ([0, 1, 2], [.iconst (-1), .goto_w 7]), ([0, 1, 2], [.istore 3, .aload 0, .aload 0, .getfield 358, .iload 2, .iload 2, .ifCond .eq 12, .goto_w 8]), ([0, 1, 3], [.aload 0, .iload 1, .iconst 0, .invokevirtual 202, .ifCond .ne 12, .goto_w 9]), ([0, 1, 3], [.aload 0, .iload 1, .iconst 4, .invokevirtual 202, .aload 0, .getfield 353, .iconst 4, .iaload, .if_icmp .lt 12, .goto_w 10]), ([0, 1, 3], [.iload 3, .iconst (-1), .if_icmp .eq 12, .goto_w 11]), ([0, 1, 3], [.iconst 1, .goto 13]), ([0, 1, 3], [.iconst 0, .goto_w 13]), ([0, 1, 3], [.invokevirtual 176, .ifCond .ne 15, .goto_w 14]), ([], [.iconst 0, .ireturn]), ([0, 1, 3], [.aload 0, .invokevirtual 309, .aload 0, .iload 1, .iload 3, .invokevirtual 214, .aload 0, .iload 1, .iconst 0, .invokevirtual 202, .ireturn])])
/-- BannerParadeModel.strengthen(II)I -/
def xM314 : XT := (3, 3, 11, 1, [], [([0, 1, 2], [.aload 0, .iload 1, .iload 2, .iconst (-100), .iconst 100, .invokestatic 175, .invokevirtual 243, .ifCond .ne 2, .goto_w 1]), ([], [.iconst 0, .ireturn]), ([0, 1, 2], [.aload 0, .invokevirtual 309, .aload 0, .iload 1, .iload 2, .invokevirtual 212, .aload 0, .iload 1, .iconst 4, .invokevirtual 202, .ireturn])])
/-- BannerParadeModel.rest(I)I -/
def xM315 : XT := (2, 4, 11, 1, [], [([0, 1], [.aload 0, .aload 0, .getfield 358, .iload 1, .iconst 1, .iconst 100, .invokestatic 175, .invokevirtual 177, .ifCond .ne 2, .goto_w 1]), ([], [.iconst 0, .ireturn]), ([0, 1], [.aload 0, .invokevirtual 309, .iconst 0, .istore 2, .iconst 0, .istore 3, .goto_w 3]), ([0, 1, 2, 3], [.iload 3, .aload 0, .getfield 353, .iconst 6, .iaload, .if_icmp .ge 5, .goto_w 4]), ([0, 1, 2, 3], [.aload 0, .iload 3, .iload 1, .invokevirtual 212, .iload 2, .aload 0, .iload 3, .iconst 4, .invokevirtual 202, .iadd, .istore 2, .iinc 3 1, .goto 3]), ([2], [.iload 2, .ireturn])])
/-- BannerParadeModel.setStep(II)I -/
def xM316 : XT := (3, 4, 11, 1, [], [([0, 1, 2], [.aload 0, .iload 1, .iload 2, .iconst 1, .iconst 200, .invokestatic 175, .invokevirtual 243, .ifCond .ne 2, .goto_w 1]), ([], [.iconst 0, .ireturn]), ([0, 1, 2], [.aload 0, .invokevirtual 309, .aload 0, .iload 1, .iconst 2, .invokevirtual 202, .istore 3, .aload 0, .iload 1, .iconst 2, .iload 2, .invokevirtual 203, .iload 3, .ireturn])])
/-- BannerParadeModel.addPlan(II)I -/
def xM317 : XT := (3, 3, 11, 1, [], [([0, 1, 2], [.aload 0, .iload 2, .iload 1, .aload 0, .getfield 353, .iconst 9, .iaload, .if_icmp .le 5, .goto_w 1]), ([0, 1, 2], [.iload 1, .iconst 5000, .if_icmp .gt 5, .goto_w 2]), ([0, 1, 2], [.iload 2, .aload 0, .getfield 353, .iconst 6, .iaload, .iconst 1, .isub, .if_icmp .ge 5, .goto_w 3]), ([0, 1, 2], [.aload 0, .getfield 353, .iconst 8, .iaload, .iconst 12, .if_icmp .ge 5, .goto_w 4]), ([0, 1, 2], [.iconst 1, .goto 6]), ([0, 1, 2], [.iconst 0, .goto_w 6]), ([0, 1, 2], [.invokevirtual 243, .ifCond .ne 8, .goto_w 7]), ([], [.iconst 0, .ireturn]), ([0, 1, 2], [.aload 0, .invokevirtual 309, .aload 0, .iload 1, .iload 2, .invokevirtual 199, .aload 0, .getfield 353, .iconst 8, .iaload, .iconst 1, .isub, .ireturn])])
/-- BannerParadeModel.set(II)I -/
def xM318 : XT := (3, 4, 11, 1, [], [([0, 1, 2], [.aload 0, .aload 0, .getfield 358, .iload 1, .iconst 0, .iconst 5, .invokestatic 175, .ifCond .eq 3, .goto_w 1]), ([0, 1, 2], [.iload 2, .iload 1, .invokestatic 192, .iload 1, .invokestatic 193, .invokestatic 175, .ifCond .eq 3, .goto_w 2]), ([0, 1, 2], [.iconst 1, .goto 4]), ([0, 1, 2], [.iconst 0, .goto_w 4]), ([0, 1, 2], [.invokevirtual 177, .ifCond .ne 6, .goto_w 5]), ([], [.iconst 0, .ireturn]), ([0, 1, 2], [.aload 0, .invokevirtual 309, .aload 0, .getfield 353, .iload 1, .iaload, .istore 3, .aload 0, .getfield 353, .iload 1, .iload 2, .iastore, .iload 3, .ireturn])])
/-- BannerParadeModel.undo()I -/
def xM319 : XT := (1, 1, 11, 1, [], [([0], [.aload 0, .aload 0, .getfield 359, .ifCond .le 2, .goto_w 1]), ([0], [.iconst 1, .goto 3]), ([0], [.iconst 0, .goto_w 3]), ([0], [.iconst 1, .iconst 1, .invokevirtual 176, .ifCond .ne 5, .goto_w 4]), ([], [.iconst 0, .ireturn]), ([0], [.aload 0, .dup, .getfield 359, .iconst 1, .isub, .putfield 359, .aload 0, .getfield 355, .aload 0, .getfield 359, .iconst 243, .imul, .aload 0, .getfield 353, .iconst 0, .invokestatic 178, .aload 0, .getfield 359, .ireturn])])
/-- BannerParadeModel.undoable()I -/
def xM320 : XT := (1, 1, 11, 1, [], [([0], [.aload 0, .iconst 0, .putfield 352, .aload 0, .getfield 359, .ireturn])])
/-- BannerParadeModel.save(I)I -/
def xM321 : XT := (2, 2, 11, 1, [], [([0, 1], [.aload 0, .aload 0, .getfield 358, .iload 1, .iconst 0, .iconst 1, .invokestatic 175, .invokevirtual 177, .ifCond .ne 2, .goto_w 1]), ([], [.iconst 0, .ireturn]), ([0, 1], [.aload 0, .getfield 353, .iconst 0, .aload 0, .getfield 356, .iload 1, .iconst 243, .imul, .invokestatic 178, .aload 0, .getfield 357, .iload 1, .iconst 1, .bastore, .aload 0, .getfield 353, .iconst 9, .iaload, .ireturn])])
/-- BannerParadeModel.restore(I)I -/
def xM322 : XT := (2, 3, 11, 1, [], [([0, 1], [.iload 1, .iconst 0, .iconst 1, .invokestatic 175, .istore 2, .aload 0, .iload 2, .iload 2, .ifCond .eq 3, .goto_w 1]), ([0, 1], [.aload 0, .getfield 357, .iload 1, .baload, .ifCond .eq 3, .goto_w 2]), ([0, 1], [.iconst 1, .goto 4]), ([0, 1], [.iconst 0, .goto_w 4]), ([0, 1], [.invokevirtual 177, .ifCond .ne 6, .goto_w 5]), ([], [.iconst 0, .ireturn]), ([0, 1], [.aload 0, .getfield 356, .iload 1, .iconst 243, .imul, .aload 0, .getfield 353, .iconst 0, .invokestatic 178, .aload 0, .iconst 0, .putfield 359, .aload 0, .getfield 353, .iconst 9, .iaload, .ireturn])])
/-- BannerParadeLaw.load(LBannerParade;I[J)I -/
def xM323 : XT := (3, 4, 99, 1, [(2, 1, 3), (1, 2, 3)], [([0, 1, 2], [.aload 2, .iconst 0, .aload 0, .iload 1, .invokevirtual 92, .i2l, .lastore, .goto 3]), ([], [.iconst 1, .ireturn]), ([], [.iconst 2, .ireturn]), ([], [.iconst 0, .ireturn])])
/-- BannerParadeLaw.count(LBannerParade;I[J)I -/
def xM324 : XT := (3, 4, 99, 1, [(0, 1, 3), (1, 2, 3)], [([0, 1, 2], [.aload 2, .iconst 0, .aload 0, .iload 1, .invokevirtual 96, .i2l, .lastore, .goto 3]), ([], [.iconst 1, .ireturn]), ([], [.iconst 2, .ireturn]), ([], [.iconst 0, .ireturn])])
/-- BannerParadeLaw.setting(LBannerParade;I[J)I -/
def xM325 : XT := (3, 4, 99, 1, [(0, 1, 3), (1, 2, 3)], [([0, 1, 2], [.aload 2, .iconst 0, .aload 0, .iload 1, .invokevirtual 97, .i2l, .lastore, .goto 3]), ([], [.iconst 1, .ireturn]), ([], [.iconst 2, .ireturn]), ([], [.iconst 0, .ireturn])])
/-- BannerParadeLaw.bearer(LBannerParade;II[J)I -/
def xM326 : XT := (4, 5, 99, 1, [(0, 1, 4), (2, 2, 4), (1, 3, 4)], [([0, 1, 2, 3], [.aload 3, .iconst 0, .aload 0, .iload 1, .iload 2, .invokevirtual 98, .i2l, .lastore, .goto 4]), ([], [.iconst 1, .ireturn]), ([], [.iconst 2, .ireturn]), ([], [.iconst 3, .ireturn]), ([], [.iconst 0, .ireturn])])
/-- BannerParadeLaw.stand(LBannerParade;II[J)I -/
def xM327 : XT := (4, 5, 99, 1, [(0, 1, 4), (2, 2, 4), (1, 3, 4)], [([0, 1, 2, 3], [.aload 3, .iconst 0, .aload 0, .iload 1, .iload 2, .invokevirtual 99, .i2l, .lastore, .goto 4]), ([], [.iconst 1, .ireturn]), ([], [.iconst 2, .ireturn]), ([], [.iconst 3, .ireturn]), ([], [.iconst 0, .ireturn])])
/-- BannerParadeLaw.plan(LBannerParade;II[J)I -/
def xM328 : XT := (4, 5, 99, 1, [(0, 1, 4), (2, 2, 4), (1, 3, 4)], [([0, 1, 2, 3], [.aload 3, .iconst 0, .aload 0, .iload 1, .iload 2, .invokevirtual 100, .i2l, .lastore, .goto 4]), ([], [.iconst 1, .ireturn]), ([], [.iconst 2, .ireturn]), ([], [.iconst 3, .ireturn]), ([], [.iconst 0, .ireturn])])
/-- BannerParadeLaw.lying(LBannerParade;II[J)I -/
def xM329 : XT := (4, 5, 99, 1, [(0, 1, 4), (2, 2, 4), (1, 3, 4)], [([0, 1, 2, 3], [.aload 3, .iconst 0, .aload 0, .iload 1, .iload 2, .invokevirtual 101, .i2l, .lastore, .goto 4]), ([], [.iconst 1, .ireturn]), ([], [.iconst 2, .ireturn]), ([], [.iconst 3, .ireturn]), ([], [.iconst 0, .ireturn])])
/-- BannerParadeLaw.wordByte(LBannerParade;II[J)I -/
def xM330 : XT := (4, 5, 99, 1, [(0, 1, 4), (2, 2, 4)], [([0, 1, 2, 3], [.aload 3, .iconst 0, .aload 0, .iload 1, .iload 2, .invokevirtual 102, .i2l, .lastore, .goto 3]), ([], [.iconst 1, .ireturn]), ([], [.iconst 2, .ireturn]), ([], [.iconst 0, .ireturn])])
/-- BannerParadeLaw.readByte(LBannerParade;II[J)I -/
def xM331 : XT := (4, 5, 99, 1, [(0, 1, 4), (2, 2, 4)], [([0, 1, 2, 3], [.aload 3, .iconst 0, .aload 0, .iload 1, .iload 2, .invokevirtual 103, .i2l, .lastore, .goto 3]), ([], [.iconst 1, .ireturn]), ([], [.iconst 2, .ireturn]), ([], [.iconst 0, .ireturn])])
/-- BannerParadeLaw.seen(LBannerParade;I[J)I -/
def xM332 : XT := (3, 4, 99, 1, [(0, 1, 3), (2, 2, 3)], [([0, 1, 2], [.aload 2, .iconst 0, .aload 0, .iload 1, .invokevirtual 104, .i2l, .lastore, .goto 3]), ([], [.iconst 1, .ireturn]), ([], [.iconst 2, .ireturn]), ([], [.iconst 0, .ireturn])])
/-- BannerParadeLaw.matches(LBannerParade;I[J)I -/
def xM333 : XT := (3, 4, 99, 1, [(0, 1, 3), (2, 2, 3)], [([0, 1, 2], [.aload 2, .iconst 0, .aload 0, .iload 1, .invokevirtual 105, .i2l, .lastore, .goto 3]), ([], [.iconst 1, .ireturn]), ([], [.iconst 2, .ireturn]), ([], [.iconst 0, .ireturn])])
/-- BannerParadeLaw.isRead(LBannerParade;I[J)I -/
def xM334 : XT := (3, 4, 99, 1, [(0, 4, 3), (2, 5, 3)], [([0, 1, 2], [.aload 2, .iconst 0, .aload 0, .iload 1, .invokevirtual 106, .ifCond .eq 2, .goto_w 1]), ([], [.lconst 1, .goto 3]), ([], [.lconst 0, .goto_w 3]), ([], [.lastore, .goto 6]), ([], [.iconst 1, .ireturn]), ([], [.iconst 2, .ireturn]), ([], [.iconst 0, .ireturn])])
/-- BannerParadeLaw.share(LBannerParade;I[D)I -/
def xM335 : XT := (3, 4, 99, 1, [(0, 1, 3), (2, 2, 3)], [([0, 1, 2], [.aload 2, .iconst 0, .aload 0, .iload 1, .invokevirtual 107, .f2d, .dastore, .goto 3]), ([], [.iconst 1, .ireturn]), ([], [.iconst 2, .ireturn]), ([], [.iconst 0, .ireturn])])
/-- BannerParadeLaw.shareBits(LBannerParade;I[J)I -/
def xM336 : XT := (3, 4, 99, 1, [(0, 1, 3), (2, 2, 3)], [([0, 1, 2], [.aload 2, .iconst 0, .aload 0, .iload 1, .invokevirtual 108, .i2l, .lastore, .goto 3]), ([], [.iconst 1, .ireturn]), ([], [.iconst 2, .ireturn]), ([], [.iconst 0, .ireturn])])
/-- BannerParadeLaw.missing(LBannerParade;I[J)I -/
def xM337 : XT := (3, 4, 99, 1, [(0, 1, 3), (2, 2, 3)], [([0, 1, 2], [.aload 2, .iconst 0, .aload 0, .iload 1, .invokevirtual 109, .i2l, .lastore, .goto 3]), ([], [.iconst 1, .ireturn]), ([], [.iconst 2, .ireturn]), ([], [.iconst 0, .ireturn])])
/-- BannerParadeLaw.seenAt(LBannerParade;II[J)I -/
def xM338 : XT := (4, 5, 99, 1, [(0, 1, 4), (2, 2, 4)], [([0, 1, 2, 3], [.aload 3, .iconst 0, .aload 0, .iload 1, .iload 2, .invokevirtual 110, .i2l, .lastore, .goto 3]), ([], [.iconst 1, .ireturn]), ([], [.iconst 2, .ireturn]), ([], [.iconst 0, .ireturn])])
/-- BannerParadeLaw.blanks(LBannerParade;I[J)I -/
def xM339 : XT := (3, 4, 99, 1, [(0, 1, 3), (2, 2, 3)], [([0, 1, 2], [.aload 2, .iconst 0, .aload 0, .iload 1, .invokevirtual 111, .i2l, .lastore, .goto 3]), ([], [.iconst 1, .ireturn]), ([], [.iconst 2, .ireturn]), ([], [.iconst 0, .ireturn])])
/-- BannerParadeLaw.prefix(LBannerParade;I[J)I -/
def xM340 : XT := (3, 4, 99, 1, [(0, 1, 3), (2, 2, 3)], [([0, 1, 2], [.aload 2, .iconst 0, .aload 0, .iload 1, .invokevirtual 112, .i2l, .lastore, .goto 3]), ([], [.iconst 1, .ireturn]), ([], [.iconst 2, .ireturn]), ([], [.iconst 0, .ireturn])])
/-- BannerParadeLaw.holder(LBannerParade;I[J)I -/
def xM341 : XT := (3, 4, 99, 1, [(0, 1, 3), (1, 2, 3)], [([0, 1, 2], [.aload 2, .iconst 0, .aload 0, .iload 1, .invokevirtual 113, .i2l, .lastore, .goto 3]), ([], [.iconst 1, .ireturn]), ([], [.iconst 2, .ireturn]), ([], [.iconst 0, .ireturn])])
/-- BannerParadeLaw.copies(LBannerParade;I[J)I -/
def xM342 : XT := (3, 4, 99, 1, [(0, 1, 3), (1, 2, 3)], [([0, 1, 2], [.aload 2, .iconst 0, .aload 0, .iload 1, .invokevirtual 114, .i2l, .lastore, .goto 3]), ([], [.iconst 1, .ireturn]), ([], [.iconst 2, .ireturn]), ([], [.iconst 0, .ireturn])])
/-- BannerParadeLaw.tired(LBannerParade;I[J)I -/
def xM343 : XT := (3, 4, 99, 1, [(0, 1, 3), (1, 2, 3)], [([0, 1, 2], [.aload 2, .iconst 0, .aload 0, .iload 1, .invokevirtual 115, .i2l, .lastore, .goto 3]), ([], [.iconst 1, .ireturn]), ([], [.iconst 2, .ireturn]), ([], [.iconst 0, .ireturn])])
/-- BannerParadeLaw.swappers(LBannerParade;[J)I -/
def xM344 : XT := (2, 3, 99, 1, [(0, 1, 2)], [([0, 1], [.aload 1, .iconst 0, .aload 0, .invokevirtual 116, .i2l, .lastore, .goto 2]), ([], [.iconst 1, .ireturn]), ([], [.iconst 0, .ireturn])])
/-- BannerParadeLaw.nextPlan(LBannerParade;[J)I -/
def xM345 : XT := (2, 3, 99, 1, [(0, 1, 2)], [([0, 1], [.aload 1, .iconst 0, .aload 0, .invokevirtual 117, .i2l, .lastore, .goto 2]), ([], [.iconst 1, .ireturn]), ([], [.iconst 0, .ireturn])])
/-- BannerParadeLaw.lyingFrom(LBannerParade;II[J)I -/
def xM346 : XT := (4, 5, 99, 1, [(0, 1, 4)], [([0, 1, 2, 3], [.aload 3, .iconst 0, .aload 0, .iload 1, .iload 2, .invokevirtual 118, .i2l, .lastore, .goto 2]), ([], [.iconst 1, .ireturn]), ([], [.iconst 0, .ireturn])])
/-- BannerParadeLaw.bestStand(LBannerParade;[J)I -/
def xM347 : XT := (2, 3, 99, 1, [(0, 1, 2)], [([0, 1], [.aload 1, .iconst 0, .aload 0, .invokevirtual 119, .i2l, .lastore, .goto 2]), ([], [.iconst 1, .ireturn]), ([], [.iconst 0, .ireturn])])
/-- BannerParadeLaw.readStands(LBannerParade;[J)I -/
def xM348 : XT := (2, 3, 99, 1, [(0, 1, 2)], [([0, 1], [.aload 1, .iconst 0, .aload 0, .invokevirtual 120, .i2l, .lastore, .goto 2]), ([], [.iconst 1, .ireturn]), ([], [.iconst 0, .ireturn])])
/-- BannerParadeLaw.weakest(LBannerParade;[J)I -/
def xM349 : XT := (2, 3, 99, 1, [(0, 1, 2)], [([0, 1], [.aload 1, .iconst 0, .aload 0, .invokevirtual 121, .i2l, .lastore, .goto 2]), ([], [.iconst 1, .ireturn]), ([], [.iconst 0, .ireturn])])
/-- BannerParadeLaw.widest(LBannerParade;[J)I -/
def xM350 : XT := (2, 3, 99, 1, [(0, 1, 2)], [([0, 1], [.aload 1, .iconst 0, .aload 0, .invokevirtual 122, .i2l, .lastore, .goto 2]), ([], [.iconst 1, .ireturn]), ([], [.iconst 0, .ireturn])])
/-- BannerParadeLaw.stretch(LBannerParade;[J)I -/
def xM351 : XT := (2, 3, 99, 1, [(0, 1, 2)], [([0, 1], [.aload 1, .iconst 0, .aload 0, .invokevirtual 123, .i2l, .lastore, .goto 2]), ([], [.iconst 1, .ireturn]), ([], [.iconst 0, .ireturn])])
/-- BannerParadeLaw.meanStrength(LBannerParade;[D)I -/
def xM352 : XT := (2, 3, 99, 1, [(0, 1, 2)], [([0, 1], [.aload 1, .iconst 0, .aload 0, .invokevirtual 124, .dastore, .goto 2]), ([], [.iconst 1, .ireturn]), ([], [.iconst 0, .ireturn])])
/-- BannerParadeLaw.strengthBits(LBannerParade;[J)I -/
def xM353 : XT := (2, 3, 99, 1, [(0, 1, 2)], [([0, 1], [.aload 1, .iconst 0, .aload 0, .invokevirtual 125, .lastore, .goto 2]), ([], [.iconst 1, .ireturn]), ([], [.iconst 0, .ireturn])])
/-- BannerParadeLaw.readsIn(LBannerParade;I[J)I -/
def xM354 : XT := (3, 4, 99, 1, [(0, 1, 3), (2, 2, 3)], [([0, 1, 2], [.aload 2, .iconst 0, .aload 0, .iload 1, .invokevirtual 126, .i2l, .lastore, .goto 3]), ([], [.iconst 1, .ireturn]), ([], [.iconst 2, .ireturn]), ([], [.iconst 0, .ireturn])])
/-- BannerParadeLaw.passedIn(LBannerParade;I[J)I -/
def xM355 : XT := (3, 4, 99, 1, [(0, 1, 3), (2, 2, 3)], [([0, 1, 2], [.aload 2, .iconst 0, .aload 0, .iload 1, .invokevirtual 127, .i2l, .lastore, .goto 3]), ([], [.iconst 1, .ireturn]), ([], [.iconst 2, .ireturn]), ([], [.iconst 0, .ireturn])])
/-- BannerParadeLaw.placeIn(LBannerParade;II[J)I -/
def xM356 : XT := (4, 5, 99, 1, [(0, 1, 4), (2, 2, 4), (1, 3, 4)], [([0, 1, 2, 3], [.aload 3, .iconst 0, .aload 0, .iload 1, .iload 2, .invokevirtual 128, .i2l, .lastore, .goto 4]), ([], [.iconst 1, .ireturn]), ([], [.iconst 2, .ireturn]), ([], [.iconst 3, .ireturn]), ([], [.iconst 0, .ireturn])])
/-- BannerParadeLaw.strengthIn(LBannerParade;II[J)I -/
def xM357 : XT := (4, 5, 99, 1, [(0, 1, 4), (2, 2, 4), (1, 3, 4)], [([0, 1, 2, 3], [.aload 3, .iconst 0, .aload 0, .iload 1, .iload 2, .invokevirtual 129, .i2l, .lastore, .goto 4]), ([], [.iconst 1, .ireturn]), ([], [.iconst 2, .ireturn]), ([], [.iconst 3, .ireturn]), ([], [.iconst 0, .ireturn])])
/-- BannerParadeLaw.bannerIn(LBannerParade;II[J)I -/
def xM358 : XT := (4, 5, 99, 1, [(0, 1, 4), (2, 2, 4), (1, 3, 4)], [([0, 1, 2, 3], [.aload 3, .iconst 0, .aload 0, .iload 1, .iload 2, .invokevirtual 130, .i2l, .lastore, .goto 4]), ([], [.iconst 1, .ireturn]), ([], [.iconst 2, .ireturn]), ([], [.iconst 3, .ireturn]), ([], [.iconst 0, .ireturn])])
/-- BannerParadeLaw.dropsIn(LBannerParade;I[J)I -/
def xM359 : XT := (3, 4, 99, 1, [(0, 1, 3), (1, 2, 3)], [([0, 1, 2], [.aload 2, .iconst 0, .aload 0, .iload 1, .invokevirtual 131, .i2l, .lastore, .goto 3]), ([], [.iconst 1, .ireturn]), ([], [.iconst 2, .ireturn]), ([], [.iconst 0, .ireturn])])
/-- BannerParadeLaw.firstDrop(LBannerParade;[J)I -/
def xM360 : XT := (2, 3, 99, 1, [(0, 1, 2)], [([0, 1], [.aload 1, .iconst 0, .aload 0, .invokevirtual 132, .i2l, .lastore, .goto 2]), ([], [.iconst 1, .ireturn]), ([], [.iconst 0, .ireturn])])
/-- BannerParadeLaw.shareIn(LBannerParade;II[D)I -/
def xM361 : XT := (4, 5, 99, 1, [(0, 1, 4), (2, 2, 4), (1, 3, 4)], [([0, 1, 2, 3], [.aload 3, .iconst 0, .aload 0, .iload 1, .iload 2, .invokevirtual 133, .f2d, .dastore, .goto 4]), ([], [.iconst 1, .ireturn]), ([], [.iconst 2, .ireturn]), ([], [.iconst 3, .ireturn]), ([], [.iconst 0, .ireturn])])
/-- BannerParadeLaw.bestShare(LBannerParade;II[D)I -/
def xM362 : XT := (4, 5, 99, 1, [(0, 1, 4), (2, 2, 4), (1, 3, 4)], [([0, 1, 2, 3], [.aload 3, .iconst 0, .aload 0, .iload 1, .iload 2, .invokevirtual 134, .f2d, .dastore, .goto 4]), ([], [.iconst 1, .ireturn]), ([], [.iconst 2, .ireturn]), ([], [.iconst 3, .ireturn]), ([], [.iconst 0, .ireturn])])
/-- BannerParadeLaw.bestSwap(LBannerParade;I[J)I -/
def xM363 : XT := (3, 4, 99, 1, [(0, 1, 3), (2, 2, 3)], [([0, 1, 2], [.aload 2, .iconst 0, .aload 0, .iload 1, .invokevirtual 135, .i2l, .lastore, .goto 3]), ([], [.iconst 1, .ireturn]), ([], [.iconst 2, .ireturn]), ([], [.iconst 0, .ireturn])])
/-- BannerParadeLaw.closedIn(LBannerParade;I[J)I -/
def xM364 : XT := (3, 4, 99, 1, [(0, 1, 3), (2, 2, 3)], [([0, 1, 2], [.aload 2, .iconst 0, .aload 0, .iload 1, .invokevirtual 136, .i2l, .lastore, .goto 3]), ([], [.iconst 1, .ireturn]), ([], [.iconst 2, .ireturn]), ([], [.iconst 0, .ireturn])])
/-- BannerParadeLaw.leastRest(LBannerParade;[J)I -/
def xM365 : XT := (2, 3, 99, 1, [(0, 1, 2)], [([0, 1], [.aload 1, .iconst 0, .aload 0, .invokevirtual 137, .i2l, .lastore, .goto 2]), ([], [.iconst 1, .ireturn]), ([], [.iconst 0, .ireturn])])
/-- BannerParadeLaw.writeStand(LBannerParade;I[J)I -/
def xM366 : XT := (3, 4, 99, 1, [(0, 1, 3), (2, 2, 3)], [([0, 1, 2], [.aload 2, .iconst 0, .aload 0, .iload 1, .invokevirtual 138, .i2l, .lastore, .goto 3]), ([], [.iconst 1, .ireturn]), ([], [.iconst 2, .ireturn]), ([], [.iconst 0, .ireturn])])
/-- BannerParadeLaw.writeRow(LBannerParade;[J)I -/
def xM367 : XT := (2, 3, 99, 1, [(0, 1, 2)], [([0, 1], [.aload 1, .iconst 0, .aload 0, .invokevirtual 139, .i2l, .lastore, .goto 2]), ([], [.iconst 1, .ireturn]), ([], [.iconst 0, .ireturn])])
/-- BannerParadeLaw.writePlaces(LBannerParade;[J)I -/
def xM368 : XT := (2, 3, 99, 1, [(0, 1, 2)], [([0, 1], [.aload 1, .iconst 0, .aload 0, .invokevirtual 140, .i2l, .lastore, .goto 2]), ([], [.iconst 1, .ireturn]), ([], [.iconst 0, .ireturn])])
/-- BannerParadeLaw.textByte(LBannerParade;I[J)I -/
def xM369 : XT := (3, 4, 99, 1, [(2, 1, 3)], [([0, 1, 2], [.aload 2, .iconst 0, .aload 0, .iload 1, .invokevirtual 141, .i2l, .lastore, .goto 2]), ([], [.iconst 1, .ireturn]), ([], [.iconst 0, .ireturn])])
/-- BannerParadeLaw.tick(LBannerParade;I[J)I -/
def xM370 : XT := (3, 4, 99, 1, [(0, 1, 3), (1, 2, 3)], [([0, 1, 2], [.aload 2, .iconst 0, .aload 0, .iload 1, .invokevirtual 142, .i2l, .lastore, .goto 3]), ([], [.iconst 1, .ireturn]), ([], [.iconst 2, .ireturn]), ([], [.iconst 0, .ireturn])])
/-- BannerParadeLaw.swap(LBannerParade;I[J)I -/
def xM371 : XT := (3, 4, 99, 1, [(0, 1, 3), (2, 2, 3), (1, 3, 3)], [([0, 1, 2], [.aload 2, .iconst 0, .aload 0, .iload 1, .invokevirtual 143, .i2l, .lastore, .goto 4]), ([], [.iconst 1, .ireturn]), ([], [.iconst 2, .ireturn]), ([], [.iconst 3, .ireturn]), ([], [.iconst 0, .ireturn])])
/-- BannerParadeLaw.drop(LBannerParade;I[J)I -/
def xM372 : XT := (3, 4, 99, 1, [(0, 1, 3), (2, 2, 3), (1, 3, 3)], [([0, 1, 2], [.aload 2, .iconst 0, .aload 0, .iload 1, .invokevirtual 144, .i2l, .lastore, .goto 4]), ([], [.iconst 1, .ireturn]), ([], [.iconst 2, .ireturn]), ([], [.iconst 3, .ireturn]), ([], [.iconst 0, .ireturn])])
/-- BannerParadeLaw.pick(LBannerParade;I[J)I -/
def xM373 : XT := (3, 4, 99, 1, [(0, 1, 3), (2, 2, 3), (1, 3, 3)], [([0, 1, 2], [.aload 2, .iconst 0, .aload 0, .iload 1, .invokevirtual 145, .i2l, .lastore, .goto 4]), ([], [.iconst 1, .ireturn]), ([], [.iconst 2, .ireturn]), ([], [.iconst 3, .ireturn]), ([], [.iconst 0, .ireturn])])
/-- BannerParadeLaw.strengthen(LBannerParade;II[J)I -/
def xM374 : XT := (4, 5, 99, 1, [(0, 1, 4), (2, 2, 4), (1, 3, 4)], [([0, 1, 2, 3], [.aload 3, .iconst 0, .aload 0, .iload 1, .iload 2, .invokevirtual 146, .i2l, .lastore, .goto 4]), ([], [.iconst 1, .ireturn]), ([], [.iconst 2, .ireturn]), ([], [.iconst 3, .ireturn]), ([], [.iconst 0, .ireturn])])
/-- BannerParadeLaw.rest(LBannerParade;I[J)I -/
def xM375 : XT := (3, 4, 99, 1, [(0, 1, 3), (1, 2, 3)], [([0, 1, 2], [.aload 2, .iconst 0, .aload 0, .iload 1, .invokevirtual 147, .i2l, .lastore, .goto 3]), ([], [.iconst 1, .ireturn]), ([], [.iconst 2, .ireturn]), ([], [.iconst 0, .ireturn])])
/-- BannerParadeLaw.setStep(LBannerParade;II[J)I -/
def xM376 : XT := (4, 5, 99, 1, [(0, 1, 4), (2, 2, 4), (1, 3, 4)], [([0, 1, 2, 3], [.aload 3, .iconst 0, .aload 0, .iload 1, .iload 2, .invokevirtual 148, .i2l, .lastore, .goto 4]), ([], [.iconst 1, .ireturn]), ([], [.iconst 2, .ireturn]), ([], [.iconst 3, .ireturn]), ([], [.iconst 0, .ireturn])])
/-- BannerParadeLaw.addPlan(LBannerParade;II[J)I -/
def xM377 : XT := (4, 5, 99, 1, [(0, 1, 4), (2, 2, 4), (1, 3, 4)], [([0, 1, 2, 3], [.aload 3, .iconst 0, .aload 0, .iload 1, .iload 2, .invokevirtual 149, .i2l, .lastore, .goto 4]), ([], [.iconst 1, .ireturn]), ([], [.iconst 2, .ireturn]), ([], [.iconst 3, .ireturn]), ([], [.iconst 0, .ireturn])])
/-- BannerParadeLaw.set(LBannerParade;II[J)I -/
def xM378 : XT := (4, 5, 99, 1, [(0, 1, 4), (1, 2, 4)], [([0, 1, 2, 3], [.aload 3, .iconst 0, .aload 0, .iload 1, .iload 2, .invokevirtual 150, .i2l, .lastore, .goto 3]), ([], [.iconst 1, .ireturn]), ([], [.iconst 2, .ireturn]), ([], [.iconst 0, .ireturn])])
/-- BannerParadeLaw.undo(LBannerParade;[J)I -/
def xM379 : XT := (2, 3, 99, 1, [(0, 1, 2)], [([0, 1], [.aload 1, .iconst 0, .aload 0, .invokevirtual 151, .i2l, .lastore, .goto 2]), ([], [.iconst 1, .ireturn]), ([], [.iconst 0, .ireturn])])
/-- BannerParadeLaw.save(LBannerParade;I[J)I -/
def xM380 : XT := (3, 4, 99, 1, [(0, 1, 3), (2, 2, 3)], [([0, 1, 2], [.aload 2, .iconst 0, .aload 0, .iload 1, .invokevirtual 153, .i2l, .lastore, .goto 3]), ([], [.iconst 1, .ireturn]), ([], [.iconst 2, .ireturn]), ([], [.iconst 0, .ireturn])])
/-- BannerParadeLaw.restore(LBannerParade;I[J)I -/
def xM381 : XT := (3, 4, 99, 1, [(2, 1, 3), (0, 2, 3)], [([0, 1, 2], [.aload 2, .iconst 0, .aload 0, .iload 1, .invokevirtual 154, .i2l, .lastore, .goto 3]), ([], [.iconst 1, .ireturn]), ([], [.iconst 2, .ireturn]), ([], [.iconst 0, .ireturn])])
/-- BannerParadeLaw.law([I)Z -/
def xM382 : XT := (1, 9, 99, 2, [], [([0], [.new 10, .dup, .invokespecial 90, .astore 1, .new 11, .dup, .invokespecial 173, .astore 2, .iconst 1, .newarray .long, .astore 3, .iconst 1, .newarray .double, .astore 4, .iconst 0, .istore 5, .goto_w 1]), ([0, 1, 2, 3, 4, 5], [.iload 5, .aload 0, .arraylength, .iconst 6, .isub, .if_icmp .gt 379, .goto_w 2]), ([0, 1, 2, 3, 4, 5], [.aload 0, .iload 5, .iaload, .iconst 63, .iand, .tableswitch 378 0 63 #[3, 5, 11, 13, 15, 17, 23, 29, 35, 41, 47, 53, 59, 65, 71, 77, 86, 94, 100, 106, 112, 118, 124, 130, 136, 142, 148, 154, 160, 166, 172, 178, 184, 190, 198, 204, 210, 216, 222, 228, 234, 240, 246, 254, 262, 268, 274, 280, 286, 292, 298, 304, 310, 316, 322, 328, 334, 340, 346, 352, 358, 364, 366, 372]]), ([0, 1, 2, 3, 4, 5], [.aload 1, .aload 0, .iload 5, .iconst 1, .iadd, .iaload, .aload 0, .iload 5, .iconst 2, .iadd, .iaload, .aload 0, .iload 5, .iconst 3, .iadd, .iaload, .aload 0, .iload 5, .iconst 4, .iadd, .iaload, .aload 0, .iload 5, .iconst 5, .iadd, .iaload, .invokevirtual 91, .aload 2, .aload 0, .iload 5, .iconst 1, .iadd, .iaload, .aload 0, .iload 5, .iconst 2, .iadd, .iaload, .aload 0, .iload 5, .iconst 3, .iadd, .iaload, .aload 0, .iload 5, .iconst 4, .iadd, .iaload, .aload 0, .iload 5, .iconst 5, .iadd, .iaload, .invokevirtual 179, .if_icmp .eq 378, .goto_w 4]), ([], [.iconst 0, .ireturn]), ([0, 1, 2, 3, 4, 5], [.aload 1, .aload 0, .iload 5, .iconst 1, .iadd, .iaload, .aload 3, .invokestatic 323, .istore 6, .aload 2, .aload 0, .iload 5, .iconst 1, .iadd, .iaload, .invokevirtual 201, .istore 7, .aload 2, .invokevirtual 174, .iload 6, .if_icmp .eq 7, .goto_w 6]), ([], [.iconst 0, .ireturn]), ([0, 1, 2, 3, 4, 5, 6, 7], [.iload 6, .ifCond .ne 10, .goto_w 8]), ([0, 1, 2, 3, 4, 5, 7], [.aload 3, .iconst 0, .laload, .iload 7, .i2l, .lcmp, .ifCond .eq 10, .goto_w 9]), ([], [.iconst 0, .ireturn]), ([0, 1, 2, 3, 4, 5], [.goto 378]), ([0, 1, 2, 3, 4, 5], [.aload 1, .invokevirtual 93, .aload 2, .invokevirtual 181, .if_icmp .eq 378, .goto_w 12]), ([], [.iconst 0, .ireturn]), ([0, 1, 2, 3, 4, 5], [.aload 1, .invokevirtual 94, .aload 2, .invokevirtual 182, .if_icmp .eq 378, .goto_w 14]), ([], [.iconst 0, .ireturn]), ([0, 1, 2, 3, 4, 5], [.aload 1, .invokevirtual 95, .aload 2, .invokevirtual 183, .if_icmp .eq 378, .goto_w 16]), ([], [.iconst 0, .ireturn]), ([0, 1, 2, 3, 4, 5], [.aload 1, .aload 0, .iload 5, .iconst 1, .iadd, .iaload, .aload 3, .invokestatic 324, .istore 6, .aload 2, .aload 0, .iload 5, .iconst 1, .iadd, .iaload, .invokevirtual 239, .istore 7, .aload 2, .invokevirtual 174, .iload 6, .if_icmp .eq 19, .goto_w 18]), ([], [.iconst 0, .ireturn]), ([0, 1, 2, 3, 4, 5, 6, 7], [.iload 6, .ifCond .ne 22, .goto_w 20]), ([0, 1, 2, 3, 4, 5, 7], [.aload 3, .iconst 0, .laload, .iload 7, .i2l, .lcmp, .ifCond .eq 22, .goto_w 21]), ([], [.iconst 0, .ireturn]), ([0, 1, 2, 3, 4, 5], [.goto 378]), ([0, 1, 2, 3, 4, 5], [.aload 1, .aload 0, .iload 5, .iconst 1, .iadd, .iaload, .aload 3, .invokestatic 325, .istore 6, .aload 2, .aload 0, .iload 5, .iconst 1, .iadd, .iaload, .invokevirtual 240, .istore 7, .aload 2, .invokevirtual 174, .iload 6, .if_icmp .eq 25, .goto_w 24]), ([], [.iconst 0, .ireturn]), ([0, 1, 2, 3, 4, 5, 6, 7], [.iload 6, .ifCond .ne 28, .goto_w 26]), ([0, 1, 2, 3, 4, 5, 7], [.aload 3, .iconst 0, .laload, .iload 7, .i2l, .lcmp, .ifCond .eq 28, .goto_w 27]), ([], [.iconst 0, .ireturn]), ([0, 1, 2, 3, 4, 5], [.goto 378]), ([0, 1, 2, 3, 4, 5], [.aload 1, .aload 0, .iload 5, .iconst 1, .iadd, .iaload, .aload 0, .iload 5, .iconst 2, .iadd, .iaload, .aload 3, .invokestatic 326, .istore 6, .aload 2, .aload 0, .iload 5, .iconst 1, .iadd, .iaload, .aload 0, .iload 5, .iconst 2, .iadd, .iaload, .invokevirtual 246, .istore 7, .aload 2, .invokevirtual 174, .iload 6, .if_icmp .eq 31, .goto_w 30]), ([], [.iconst 0, .ireturn]), ([0, 1, 2, 3, 4, 5, 6, 7], [.iload 6, .ifCond .ne 34, .goto_w 32]), ([0, 1, 2, 3, 4, 5, 7], [.aload 3, .iconst 0, .laload, .iload 7, .i2l, .lcmp, .ifCond .eq 34, .goto_w 33]), ([], [.iconst 0, .ireturn]), ([0, 1, 2, 3, 4, 5], [.goto 378]), ([0, 1, 2, 3, 4, 5], [.aload 1, .aload 0, .iload 5, .iconst 1, .iadd, .iaload, .aload 0, .iload 5, .iconst 2, .iadd, .iaload, .aload 3, .invokestatic 327, .istore 6, .aload 2, .aload 0, .iload 5, .iconst 1, .iadd, .iaload, .aload 0, .iload 5, .iconst 2, .iadd, .iaload, .invokevirtual 253, .istore 7, .aload 2, .invokevirtual 174, .iload 6, .if_icmp .eq 37, .goto_w 36]), ([], [.iconst 0, .ireturn]), ([0, 1, 2, 3, 4, 5, 6, 7], [.iload 6, .ifCond .ne 40, .goto_w 38]), ([0, 1, 2, 3, 4, 5, 7], [.aload 3, .iconst 0, .laload, .iload 7, .i2l, .lcmp, .ifCond .eq 40, .goto_w 39]), ([], [.iconst 0, .ireturn]), ([0, 1, 2, 3, 4, 5], [.goto 378]), ([0, 1, 2, 3, 4, 5], [.aload 1, .aload 0, .iload 5, .iconst 1, .iadd, .iaload, .aload 0, .iload 5, .iconst 2, .iadd, .iaload, .aload 3, .invokestatic 328, .istore 6, .aload 2, .aload 0, .iload 5, .iconst 1, .iadd, .iaload, .aload 0, .iload 5, .iconst 2, .iadd, .iaload, .invokevirtual 254, .istore 7, .aload 2, .invokevirtual 174, .iload 6, .if_icmp .eq 43, .goto_w 42]), ([], [.iconst 0, .ireturn]), ([0, 1, 2, 3, 4, 5, 6, 7], [.iload 6, .ifCond .ne 46, .goto_w 44]), ([0, 1, 2, 3, 4, 5, 7], [.aload 3, .iconst 0, .laload, .iload 7, .i2l, .lcmp, .ifCond .eq 46, .goto_w 45]), ([], [.iconst 0, .ireturn]), ([0, 1, 2, 3, 4, 5], [.goto 378]), ([0, 1, 2, 3, 4, 5], [.aload 1, .aload 0, .iload 5, .iconst 1, .iadd, .iaload, .aload 0, .iload 5, .iconst 2, .iadd, .iaload, .aload 3, .invokestatic 329, .istore 6, .aload 2, .aload 0, .iload 5, .iconst 1, .iadd, .iaload, .aload 0, .iload 5, .iconst 2, .iadd, .iaload, .invokevirtual 255, .istore 7, .aload 2, .invokevirtual 174, .iload 6, .if_icmp .eq 49, .goto_w 48]), ([], [.iconst 0, .ireturn]), ([0, 1, 2, 3, 4, 5, 6, 7], [.iload 6, .ifCond .ne 52, .goto_w 50]), ([0, 1, 2, 3, 4, 5, 7], [.aload 3, .iconst 0, .laload, .iload 7, .i2l, .lcmp, .ifCond .eq 52, .goto_w 51]), ([], [.iconst 0, .ireturn]), ([0, 1, 2, 3, 4, 5], [.goto 378]), ([0, 1, 2, 3, 4, 5], [.aload 1, .aload 0, .iload 5, .iconst 1, .iadd, .iaload, .aload 0, .iload 5, .iconst 2, .iadd, .iaload, .aload 3, .invokestatic 330, .istore 6, .aload 2, .aload 0, .iload 5, .iconst 1, .iadd, .iaload, .aload 0, .iload 5, .iconst 2, .iadd, .iaload, .invokevirtual 256, .istore 7, .aload 2, .invokevirtual 174, .iload 6, .if_icmp .eq 55, .goto_w 54]), ([], [.iconst 0, .ireturn]), ([0, 1, 2, 3, 4, 5, 6, 7], [.iload 6, .ifCond .ne 58, .goto_w 56]), ([0, 1, 2, 3, 4, 5, 7], [.aload 3, .iconst 0, .laload, .iload 7, .i2l, .lcmp, .ifCond .eq 58, .goto_w 57]), ([], [.iconst 0, .ireturn]), ([0, 1, 2, 3, 4, 5], [.goto 378]), ([0, 1, 2, 3, 4, 5], [.aload 1, .aload 0, .iload 5, .iconst 1, .iadd, .iaload, .aload 0, .iload 5, .iconst 2, .iadd, .iaload, .aload 3, .invokestatic 331, .istore 6, .aload 2, .aload 0, .iload 5, .iconst 1, .iadd, .iaload, .aload 0, .iload 5, .iconst 2, .iadd, .iaload, .invokevirtual 257, .istore 7, .aload 2, .invokevirtual 174, .iload 6, .if_icmp .eq 61, .goto_w 60]), ([], [.iconst 0, .ireturn]), ([0, 1, 2, 3, 4, 5, 6, 7], [.iload 6, .ifCond .ne 64, .goto_w 62]), ([0, 1, 2, 3, 4, 5, 7], [.aload 3, .iconst 0, .laload, .iload 7, .i2l, .lcmp, .ifCond .eq 64, .goto_w 63]), ([], [.iconst 0, .ireturn]), ([0, 1, 2, 3, 4, 5], [.goto 378]), ([0, 1, 2, 3, 4, 5], [.aload 1, .aload 0, .iload 5, .iconst 1, .iadd, .iaload, .aload 3, .invokestatic 332, .istore 6, .aload 2, .aload 0, .iload 5, .iconst 1, .iadd, .iaload, .invokevirtual 258, .istore 7, .aload 2, .invokevirtual 174, .iload 6, .if_icmp .eq 67, .goto_w 66]), ([], [.iconst 0, .ireturn]), ([0, 1, 2, 3, 4, 5, 6, 7], [.iload 6, .ifCond .ne 70, .goto_w 68]), ([0, 1, 2, 3, 4, 5, 7], [.aload 3, .iconst 0, .laload, .iload 7, .i2l, .lcmp, .ifCond .eq 70, .goto_w 69]), ([], [.iconst 0, .ireturn]), ([0, 1, 2, 3, 4, 5], [.goto 378]), ([0, 1, 2, 3, 4, 5], [.aload 1, .aload 0, .iload 5, .iconst 1, .iadd, .iaload, .aload 3, .invokestatic 333, .istore 6, .aload 2, .aload 0, .iload 5, .iconst 1, .iadd, .iaload, .invokevirtual 259, .istore 7, .aload 2, .invokevirtual 174, .iload 6, .if_icmp .eq 73, .goto_w 72]), ([], [.iconst 0, .ireturn]), ([0, 1, 2, 3, 4, 5, 6, 7], [.iload 6, .ifCond .ne 76, .goto_w 74]), ([0, 1, 2, 3, 4, 5, 7], [.aload 3, .iconst 0, .laload, .iload 7, .i2l, .lcmp, .ifCond .eq 76, .goto_w 75]), ([], [.iconst 0, .ireturn]), ([0, 1, 2, 3, 4, 5], [.goto 378]), ([0, 1, 2, 3, 4, 5], [.aload 1, .aload 0, .iload 5, .iconst 1, .iadd, .iaload, .aload 3, .invokestatic 334, .istore 6, .aload 2, .aload 0, .iload 5, .iconst 1, .iadd, .iaload, .invokevirtual 260, .istore 7, .aload 2, .invokevirtual 174, .iload 6, .if_icmp .eq 79, .goto_w 78]), ([], [.iconst 0, .ireturn]), ([0, 1, 2, 3, 4, 5, 6, 7], [.iload 6, .ifCond .ne 85, .goto_w 80]), ([0, 1, 2, 3, 4, 5, 7], [.aload 3, .iconst 0, .laload, .iload 7, .ifCond .eq 82, .goto_w 81]), ([0, 1, 2, 3, 4, 5], [.lconst 1, .goto 83]), ([0, 1, 2, 3, 4, 5], [.lconst 0, .goto_w 83]), ([0, 1, 2, 3, 4, 5], [.lcmp, .ifCond .eq 85, .goto_w 84]), ([], [.iconst 0, .ireturn]), ([0, 1, 2, 3, 4, 5], [.goto 378]), ([0, 1, 2, 3, 4, 5], [.aload 1, .aload 0, .iload 5, .iconst 1, .iadd, .iaload, .aload 4, .invokestatic 335, .istore 6, .aload 2, .aload 0, .iload 5, .iconst 1, .iadd, .iaload, .invokevirtual 272, .fstore 7, .aload 2, .invokevirtual 174, .iload 6, .if_icmp .eq 88, .goto_w 87]), ([], [.iconst 0, .ireturn]), ([0, 1, 2, 3, 4, 5, 6, 7], [.iload 6, .ifCond .ne 93, .goto_w 89]), ([0, 1, 2, 3, 4, 5, 7], [.aload 4, .iconst 0, .daload, .fload 7, .f2d, .dcmp .l, .ifCond .eq 93, .goto_w 90]), ([0, 1, 2, 3, 4, 5, 7], [.aload 4, .iconst 0, .daload, .aload 4, .iconst 0, .daload, .dcmp .l, .ifCond .eq 92, .goto_w 91]), ([0, 1, 2, 3, 4, 5, 7], [.fload 7, .fload 7, .fcmp .l, .ifCond .ne 93, .goto_w 92]), ([], [.iconst 0, .ireturn]), ([0, 1, 2, 3, 4, 5], [.goto 378]), ([0, 1, 2, 3, 4, 5], [.aload 1, .aload 0, .iload 5, .iconst 1, .iadd, .iaload, .aload 3, .invokestatic 336, .istore 6, .aload 2, .aload 0, .iload 5, .iconst 1, .iadd, .iaload, .invokevirtual 273, .istore 7, .aload 2, .invokevirtual 174, .iload 6, .if_icmp .eq 96, .goto_w 95]), ([], [.iconst 0, .ireturn]), ([0, 1, 2, 3, 4, 5, 6, 7], [.iload 6, .ifCond .ne 99, .goto_w 97]), ([0, 1, 2, 3, 4, 5, 7], [.aload 3, .iconst 0, .laload, .iload 7, .i2l, .lcmp, .ifCond .eq 99, .goto_w 98]), ([], [.iconst 0, .ireturn]), ([0, 1, 2, 3, 4, 5], [.goto 378]), ([0, 1, 2, 3, 4, 5], [.aload 1, .aload 0, .iload 5, .iconst 1, .iadd, .iaload, .aload 3, .invokestatic 337, .istore 6, .aload 2, .aload 0, .iload 5, .iconst 1, .iadd, .iaload, .invokevirtual 274, .istore 7, .aload 2, .invokevirtual 174, .iload 6, .if_icmp .eq 102, .goto_w 101]), ([], [.iconst 0, .ireturn]), ([0, 1, 2, 3, 4, 5, 6, 7], [.iload 6, .ifCond .ne 105, .goto_w 103]), ([0, 1, 2, 3, 4, 5, 7], [.aload 3, .iconst 0, .laload, .iload 7, .i2l, .lcmp, .ifCond .eq 105, .goto_w 104]), ([], [.iconst 0, .ireturn]), ([0, 1, 2, 3, 4, 5], [.goto 378]), ([0, 1, 2, 3, 4, 5], [.aload 1, .aload 0, .iload 5, .iconst 1, .iadd, .iaload, .aload 0, .iload 5, .iconst 2, .iadd, .iaload, .aload 3, .invokestatic 338, .istore 6, .aload 2, .aload 0, .iload 5, .iconst 1, .iadd, .iaload, .aload 0, .iload 5, .iconst 2, .iadd, .iaload, .invokevirtual 262, .istore 7, .aload 2, .invokevirtual 174, .iload 6, .if_icmp .eq 108, .goto_w 107]), ([], [.iconst 0, .ireturn]), ([0, 1, 2, 3, 4, 5, 6, 7], [.iload 6, .ifCond .ne 111, .goto_w 109]), ([0, 1, 2, 3, 4, 5, 7], [.aload 3, .iconst 0, .laload, .iload 7, .i2l, .lcmp, .ifCond .eq 111, .goto_w 110]), ([], [.iconst 0, .ireturn]), ([0, 1, 2, 3, 4, 5], [.goto 378]), ([0, 1, 2, 3, 4, 5], [.aload 1, .aload 0, .iload 5, .iconst 1, .iadd, .iaload, .aload 3, .invokestatic 339, .istore 6, .aload 2, .aload 0, .iload 5, .iconst 1, .iadd, .iaload, .invokevirtual 263, .istore 7, .aload 2, .invokevirtual 174, .iload 6, .if_icmp .eq 114, .goto_w 113]), ([], [.iconst 0, .ireturn]), ([0, 1, 2, 3, 4, 5, 6, 7], [.iload 6, .ifCond .ne 117, .goto_w 115]), ([0, 1, 2, 3, 4, 5, 7], [.aload 3, .iconst 0, .laload, .iload 7, .i2l, .lcmp, .ifCond .eq 117, .goto_w 116]), ([], [.iconst 0, .ireturn]), ([0, 1, 2, 3, 4, 5], [.goto 378]), ([0, 1, 2, 3, 4, 5], [.aload 1, .aload 0, .iload 5, .iconst 1, .iadd, .iaload, .aload 3, .invokestatic 340, .istore 6, .aload 2, .aload 0, .iload 5, .iconst 1, .iadd, .iaload, .invokevirtual 264, .istore 7, .aload 2, .invokevirtual 174, .iload 6, .if_icmp .eq 120, .goto_w 119]), ([], [.iconst 0, .ireturn]), ([0, 1, 2, 3, 4, 5, 6, 7], [.iload 6, .ifCond .ne 123, .goto_w 121]), ([0, 1, 2, 3, 4, 5, 7], [.aload 3, .iconst 0, .laload, .iload 7, .i2l, .lcmp, .ifCond .eq 123, .goto_w 122]), ([], [.iconst 0, .ireturn]), ([0, 1, 2, 3, 4, 5], [.goto 378]), ([0, 1, 2, 3, 4, 5], [.aload 1, .aload 0, .iload 5, .iconst 1, .iadd, .iaload, .aload 3, .invokestatic 341, .istore 6, .aload 2, .aload 0, .iload 5, .iconst 1, .iadd, .iaload, .invokevirtual 266, .istore 7, .aload 2, .invokevirtual 174, .iload 6, .if_icmp .eq 126, .goto_w 125]), ([], [.iconst 0, .ireturn]), ([0, 1, 2, 3, 4, 5, 6, 7], [.iload 6, .ifCond .ne 129, .goto_w 127]), ([0, 1, 2, 3, 4, 5, 7], [.aload 3, .iconst 0, .laload, .iload 7, .i2l, .lcmp, .ifCond .eq 129, .goto_w 128]), ([], [.iconst 0, .ireturn]), ([0, 1, 2, 3, 4, 5], [.goto 378]), ([0, 1, 2, 3, 4, 5], [.aload 1, .aload 0, .iload 5, .iconst 1, .iadd, .iaload, .aload 3, .invokestatic 342, .istore 6, .aload 2, .aload 0, .iload 5, .iconst 1, .iadd, .iaload, .invokevirtual 267, .istore 7, .aload 2, .invokevirtual 174, .iload 6, .if_icmp .eq 132, .goto_w 131]), ([], [.iconst 0, .ireturn]), ([0, 1, 2, 3, 4, 5, 6, 7], [.iload 6, .ifCond .ne 135, .goto_w 133]), ([0, 1, 2, 3, 4, 5, 7], [.aload 3, .iconst 0, .laload, .iload 7, .i2l, .lcmp, .ifCond .eq 135, .goto_w 134]), ([], [.iconst 0, .ireturn]), ([0, 1, 2, 3, 4, 5], [.goto 378]), ([0, 1, 2, 3, 4, 5], [.aload 1, .aload 0, .iload 5, .iconst 1, .iadd, .iaload, .aload 3, .invokestatic 343, .istore 6, .aload 2, .aload 0, .iload 5, .iconst 1, .iadd, .iaload, .invokevirtual 268, .istore 7, .aload 2, .invokevirtual 174, .iload 6, .if_icmp .eq 138, .goto_w 137]), ([], [.iconst 0, .ireturn]), ([0, 1, 2, 3, 4, 5, 6, 7], [.iload 6, .ifCond .ne 141, .goto_w 139]), ([0, 1, 2, 3, 4, 5, 7], [.aload 3, .iconst 0, .laload, .iload 7, .i2l, .lcmp, .ifCond .eq 141, .goto_w 140]), ([], [.iconst 0, .ireturn]), ([0, 1, 2, 3, 4, 5], [.goto 378]), ([0, 1, 2, 3, 4, 5], [.aload 1, .aload 3, .invokestatic 344, .istore 6, .aload 2, .invokevirtual 269, .istore 7, .aload 2, .invokevirtual 174, .iload 6, .if_icmp .eq 144, .goto_w 143]), ([], [.iconst 0, .ireturn]), ([0, 1, 2, 3, 4, 5, 6, 7], [.iload 6, .ifCond .ne 147, .goto_w 145]), ([0, 1, 2, 3, 4, 5, 7], [.aload 3, .iconst 0, .laload, .iload 7, .i2l, .lcmp, .ifCond .eq 147, .goto_w 146]), ([], [.iconst 0, .ireturn]), ([0, 1, 2, 3, 4, 5], [.goto 378]), ([0, 1, 2, 3, 4, 5], [.aload 1, .aload 3, .invokestatic 345, .istore 6, .aload 2, .invokevirtual 270, .istore 7, .aload 2, .invokevirtual 174, .iload 6, .if_icmp .eq 150, .goto_w 149]), ([], [.iconst 0, .ireturn]), ([0, 1, 2, 3, 4, 5, 6, 7], [.iload 6, .ifCond .ne 153, .goto_w 151]), ([0, 1, 2, 3, 4, 5, 7], [.aload 3, .iconst 0, .laload, .iload 7, .i2l, .lcmp, .ifCond .eq 153, .goto_w 152]), ([], [.iconst 0, .ireturn]), ([0, 1, 2, 3, 4, 5], [.goto 378]), ([0, 1, 2, 3, 4, 5], [.aload 1, .aload 0, .iload 5, .iconst 1, .iadd, .iaload, .aload 0, .iload 5, .iconst 2, .iadd, .iaload, .aload 3, .invokestatic 346, .istore 6, .aload 2, .aload 0, .iload 5, .iconst 1, .iadd, .iaload, .aload 0, .iload 5, .iconst 2, .iadd, .iaload, .invokevirtual 271, .istore 7, .aload 2, .invokevirtual 174, .iload 6, .if_icmp .eq 156, .goto_w 155]), ([], [.iconst 0, .ireturn]), ([0, 1, 2, 3, 4, 5, 6, 7], [.iload 6, .ifCond .ne 159, .goto_w 157]), ([0, 1, 2, 3, 4, 5, 7], [.aload 3, .iconst 0, .laload, .iload 7, .i2l, .lcmp, .ifCond .eq 159, .goto_w 158]), ([], [.iconst 0, .ireturn]), ([0, 1, 2, 3, 4, 5], [.goto 378]), ([0, 1, 2, 3, 4, 5], [.aload 1, .aload 3, .invokestatic 347, .istore 6, .aload 2, .invokevirtual 276, .istore 7, .aload 2, .invokevirtual 174, .iload 6, .if_icmp .eq 162, .goto_w 161]), ([], [.iconst 0, .ireturn]), ([0, 1, 2, 3, 4, 5, 6, 7], [.iload 6, .ifCond .ne 165, .goto_w 163]), ([0, 1, 2, 3, 4, 5, 7], [.aload 3, .iconst 0, .laload, .iload 7, .i2l, .lcmp, .ifCond .eq 165, .goto_w 164]), ([], [.iconst 0, .ireturn]), ([0, 1, 2, 3, 4, 5], [.goto 378]), ([0, 1, 2, 3, 4, 5], [.aload 1, .aload 3, .invokestatic 348, .istore 6, .aload 2, .invokevirtual 277, .istore 7, .aload 2, .invokevirtual 174, .iload 6, .if_icmp .eq 168, .goto_w 167]), ([], [.iconst 0, .ireturn]), ([0, 1, 2, 3, 4, 5, 6, 7], [.iload 6, .ifCond .ne 171, .goto_w 169]), ([0, 1, 2, 3, 4, 5, 7], [.aload 3, .iconst 0, .laload, .iload 7, .i2l, .lcmp, .ifCond .eq 171, .goto_w 170]), ([], [.iconst 0, .ireturn]), ([0, 1, 2, 3, 4, 5], [.goto 378]), ([0, 1, 2, 3, 4, 5], [.aload 1, .aload 3, .invokestatic 349, .istore 6, .aload 2, .invokevirtual 278, .istore 7, .aload 2, .invokevirtual 174, .iload 6, .if_icmp .eq 174, .goto_w 173]), ([], [.iconst 0, .ireturn]), ([0, 1, 2, 3, 4, 5, 6, 7], [.iload 6, .ifCond .ne 177, .goto_w 175]), ([0, 1, 2, 3, 4, 5, 7], [.aload 3, .iconst 0, .laload, .iload 7, .i2l, .lcmp, .ifCond .eq 177, .goto_w 176]), ([], [.iconst 0, .ireturn]), ([0, 1, 2, 3, 4, 5], [.goto 378]), ([0, 1, 2, 3, 4, 5], [.aload 1, .aload 3, .invokestatic 350, .istore 6, .aload 2, .invokevirtual 279, .istore 7, .aload 2, .invokevirtual 174, .iload 6, .if_icmp .eq 180, .goto_w 179]), ([], [.iconst 0, .ireturn]), ([0, 1, 2, 3, 4, 5, 6, 7], [.iload 6, .ifCond .ne 183, .goto_w 181]), ([0, 1, 2, 3, 4, 5, 7], [.aload 3, .iconst 0, .laload, .iload 7, .i2l, .lcmp, .ifCond .eq 183, .goto_w 182]), ([], [.iconst 0, .ireturn]), ([0, 1, 2, 3, 4, 5], [.goto 378]), ([0, 1, 2, 3, 4, 5], [.aload 1, .aload 3, .invokestatic 351, .istore 6, .aload 2, .invokevirtual 280, .istore 7, .aload 2, .invokevirtual 174, .iload 6, .if_icmp .eq 186, .goto_w 185]), ([], [.iconst 0, .ireturn]), ([0, 1, 2, 3, 4, 5, 6, 7], [.iload 6, .ifCond .ne 189, .goto_w 187]), ([0, 1, 2, 3, 4, 5, 7], [.aload 3, .iconst 0, .laload, .iload 7, .i2l, .lcmp, .ifCond .eq 189, .goto_w 188]), ([], [.iconst 0, .ireturn]), ([0, 1, 2, 3, 4, 5], [.goto 378]), ([0, 1, 2, 3, 4, 5], [.aload 1, .aload 4, .invokestatic 352, .istore 6, .aload 2, .invokevirtual 282, .dstore 7, .aload 2, .invokevirtual 174, .iload 6, .if_icmp .eq 192, .goto_w 191]), ([], [.iconst 0, .ireturn]), ([0, 1, 2, 3, 4, 5, 6, 7], [.iload 6, .ifCond .ne 197, .goto_w 193]), ([0, 1, 2, 3, 4, 5, 7], [.aload 4, .iconst 0, .daload, .dload 7, .dcmp .l, .ifCond .eq 197, .goto_w 194]), ([0, 1, 2, 3, 4, 5, 7], [.aload 4, .iconst 0, .daload, .aload 4, .iconst 0, .daload, .dcmp .l, .ifCond .eq 196, .goto_w 195]), ([0, 1, 2, 3, 4, 5, 7], [.dload 7, .dload 7, .dcmp .l, .ifCond .ne 197, .goto_w 196]), ([], [.iconst 0, .ireturn]), ([0, 1, 2, 3, 4, 5], [.goto 378]), ([0, 1, 2, 3, 4, 5], [.aload 1, .aload 3, .invokestatic 353, .istore 6, .aload 2, .invokevirtual 283, .lstore 7, .aload 2, .invokevirtual 174, .iload 6, .if_icmp .eq 200, .goto_w 199]), ([], [.iconst 0, .ireturn]), ([0, 1, 2, 3, 4, 5, 6, 7], [.iload 6, .ifCond .ne 203, .goto_w 201]), ([0, 1, 2, 3, 4, 5, 7], [.aload 3, .iconst 0, .laload, .lload 7, .lcmp, .ifCond .eq 203, .goto_w 202]), ([], [.iconst 0, .ireturn]), ([0, 1, 2, 3, 4, 5], [.goto 378]), ([0, 1, 2, 3, 4, 5], [.aload 1, .aload 0, .iload 5, .iconst 1, .iadd, .iaload, .aload 3, .invokestatic 354, .istore 6, .aload 2, .aload 0, .iload 5, .iconst 1, .iadd, .iaload, .invokevirtual 287, .istore 7, .aload 2, .invokevirtual 174, .iload 6, .if_icmp .eq 206, .goto_w 205]), ([], [.iconst 0, .ireturn]), ([0, 1, 2, 3, 4, 5, 6, 7], [.iload 6, .ifCond .ne 209, .goto_w 207]), ([0, 1, 2, 3, 4, 5, 7], [.aload 3, .iconst 0, .laload, .iload 7, .i2l, .lcmp, .ifCond .eq 209, .goto_w 208]), ([], [.iconst 0, .ireturn]), ([0, 1, 2, 3, 4, 5], [.goto 378]), ([0, 1, 2, 3, 4, 5], [.aload 1, .aload 0, .iload 5, .iconst 1, .iadd, .iaload, .aload 3, .invokestatic 355, .istore 6, .aload 2, .aload 0, .iload 5, .iconst 1, .iadd, .iaload, .invokevirtual 289, .istore 7, .aload 2, .invokevirtual 174, .iload 6, .if_icmp .eq 212, .goto_w 211]), ([], [.iconst 0, .ireturn]), ([0, 1, 2, 3, 4, 5, 6, 7], [.iload 6, .ifCond .ne 215, .goto_w 213]), ([0, 1, 2, 3, 4, 5, 7], [.aload 3, .iconst 0, .laload, .iload 7, .i2l, .lcmp, .ifCond .eq 215, .goto_w 214]), ([], [.iconst 0, .ireturn]), ([0, 1, 2, 3, 4, 5], [.goto 378]), ([0, 1, 2, 3, 4, 5], [.aload 1, .aload 0, .iload 5, .iconst 1, .iadd, .iaload, .aload 0, .iload 5, .iconst 2, .iadd, .iaload, .aload 3, .invokestatic 356, .istore 6, .aload 2, .aload 0, .iload 5, .iconst 1, .iadd, .iaload, .aload 0, .iload 5, .iconst 2, .iadd, .iaload, .invokevirtual 292, .istore 7, .aload 2, .invokevirtual 174, .iload 6, .if_icmp .eq 218, .goto_w 217]), ([], [.iconst 0, .ireturn]), ([0, 1, 2, 3, 4, 5, 6, 7], [.iload 6, .ifCond .ne 221, .goto_w 219]), ([0, 1, 2, 3, 4, 5, 7], [.aload 3, .iconst 0, .laload, .iload 7, .i2l, .lcmp, .ifCond .eq 221, .goto_w 220]), ([], [.iconst 0, .ireturn]), ([0, 1, 2, 3, 4, 5], [.goto 378]), ([0, 1, 2, 3, 4, 5], [.aload 1, .aload 0, .iload 5, .iconst 1, .iadd, .iaload, .aload 0, .iload 5, .iconst 2, .iadd, .iaload, .aload 3, .invokestatic 357, .istore 6, .aload 2, .aload 0, .iload 5, .iconst 1, .iadd, .iaload, .aload 0, .iload 5, .iconst 2, .iadd, .iaload, .invokevirtual 293, .istore 7, .aload 2, .invokevirtual 174, .iload 6, .if_icmp .eq 224, .goto_w 223]), ([], [.iconst 0, .ireturn]), ([0, 1, 2, 3, 4, 5, 6, 7], [.iload 6, .ifCond .ne 227, .goto_w 225]), ([0, 1, 2, 3, 4, 5, 7], [.aload 3, .iconst 0, .laload, .iload 7, .i2l, .lcmp, .ifCond .eq 227, .goto_w 226]), ([], [.iconst 0, .ireturn]), ([0, 1, 2, 3, 4, 5], [.goto 378]), ([0, 1, 2, 3, 4, 5], [.aload 1, .aload 0, .iload 5, .iconst 1, .iadd, .iaload, .aload 0, .iload 5, .iconst 2, .iadd, .iaload, .aload 3, .invokestatic 358, .istore 6, .aload 2, .aload 0, .iload 5, .iconst 1, .iadd, .iaload, .aload 0, .iload 5, .iconst 2, .iadd, .iaload, .invokevirtual 294, .istore 7, .aload 2, .invokevirtual 174, .iload 6, .if_icmp .eq 230, .goto_w 229]), ([], [.iconst 0, .ireturn]), ([0, 1, 2, 3, 4, 5, 6, 7], [.iload 6, .ifCond .ne 233, .goto_w 231]), ([0, 1, 2, 3, 4, 5, 7], [.aload 3, .iconst 0, .laload, .iload 7, .i2l, .lcmp, .ifCond .eq 233, .goto_w 232]), ([], [.iconst 0, .ireturn]), ([0, 1, 2, 3, 4, 5], [.goto 378]), ([0, 1, 2, 3, 4, 5], [.aload 1, .aload 0, .iload 5, .iconst 1, .iadd, .iaload, .aload 3, .invokestatic 359, .istore 6, .aload 2, .aload 0, .iload 5, .iconst 1, .iadd, .iaload, .invokevirtual 295, .istore 7, .aload 2, .invokevirtual 174, .iload 6, .if_icmp .eq 236, .goto_w 235]), ([], [.iconst 0, .ireturn]), ([0, 1, 2, 3, 4, 5, 6, 7], [.iload 6, .ifCond .ne 239, .goto_w 237]), ([0, 1, 2, 3, 4, 5, 7], [.aload 3, .iconst 0, .laload, .iload 7, .i2l, .lcmp, .ifCond .eq 239, .goto_w 238]), ([], [.iconst 0, .ireturn]), ([0, 1, 2, 3, 4, 5], [.goto 378]), ([0, 1, 2, 3, 4, 5], [.aload 1, .aload 3, .invokestatic 360, .istore 6, .aload 2, .invokevirtual 296, .istore 7, .aload 2, .invokevirtual 174, .iload 6, .if_icmp .eq 242, .goto_w 241]), ([], [.iconst 0, .ireturn]), ([0, 1, 2, 3, 4, 5, 6, 7], [.iload 6, .ifCond .ne 245, .goto_w 243]), ([0, 1, 2, 3, 4, 5, 7], [.aload 3, .iconst 0, .laload, .iload 7, .i2l, .lcmp, .ifCond .eq 245, .goto_w 244]), ([], [.iconst 0, .ireturn]), ([0, 1, 2, 3, 4, 5], [.goto 378]), ([0, 1, 2, 3, 4, 5], [.aload 1, .aload 0, .iload 5, .iconst 1, .iadd, .iaload, .aload 0, .iload 5, .iconst 2, .iadd, .iaload, .aload 4, .invokestatic 361, .istore 6, .aload 2, .aload 0, .iload 5, .iconst 1, .iadd, .iaload, .aload 0, .iload 5, .iconst 2, .iadd, .iaload, .invokevirtual 298, .fstore 7, .aload 2, .invokevirtual 174, .iload 6, .if_icmp .eq 248, .goto_w 247]), ([], [.iconst 0, .ireturn]), ([0, 1, 2, 3, 4, 5, 6, 7], [.iload 6, .ifCond .ne 253, .goto_w 249]), ([0, 1, 2, 3, 4, 5, 7], [.aload 4, .iconst 0, .daload, .fload 7, .f2d, .dcmp .l, .ifCond .eq 253, .goto_w 250]), ([0, 1, 2, 3, 4, 5, 7], [.aload 4, .iconst 0, .daload, .aload 4, .iconst 0, .daload, .dcmp .l, .ifCond .eq 252, .goto_w 251]), ([0, 1, 2, 3, 4, 5, 7], [.fload 7, .fload 7, .fcmp .l, .ifCond .ne 253, .goto_w 252]), ([], [.iconst 0, .ireturn]), ([0, 1, 2, 3, 4, 5], [.goto 378]), ([0, 1, 2, 3, 4, 5], [.aload 1, .aload 0, .iload 5, .iconst 1, .iadd, .iaload, .aload 0, .iload 5, .iconst 2, .iadd, .iaload, .aload 4, .invokestatic 362, .istore 6, .aload 2, .aload 0, .iload 5, .iconst 1, .iadd, .iaload, .aload 0, .iload 5, .iconst 2, .iadd, .iaload, .invokevirtual 299, .fstore 7, .aload 2, .invokevirtual 174, .iload 6, .if_icmp .eq 256, .goto_w 255]), ([], [.iconst 0, .ireturn]), ([0, 1, 2, 3, 4, 5, 6, 7], [.iload 6, .ifCond .ne 261, .goto_w 257]), ([0, 1, 2, 3, 4, 5, 7], [.aload 4, .iconst 0, .daload, .fload 7, .f2d, .dcmp .l, .ifCond .eq 261, .goto_w 258]), ([0, 1, 2, 3, 4, 5, 7], [.aload 4, .iconst 0, .daload, .aload 4, .iconst 0, .daload, .dcmp .l, .ifCond .eq 260, .goto_w 259]), ([0, 1, 2, 3, 4, 5, 7], [.fload 7, .fload 7, .fcmp .l, .ifCond .ne 261, .goto_w 260]), ([], [.iconst 0, .ireturn]), ([0, 1, 2, 3, 4, 5], [.goto 378]), ([0, 1, 2, 3, 4, 5], [.aload 1, .aload 0, .iload 5, .iconst 1, .iadd, .iaload, .aload 3, .invokestatic 363, .istore 6, .aload 2, .aload 0, .iload 5, .iconst 1, .iadd, .iaload, .invokevirtual 300, .istore 7, .aload 2, .invokevirtual 174, .iload 6, .if_icmp .eq 264, .goto_w 263]), ([], [.iconst 0, .ireturn]), ([0, 1, 2, 3, 4, 5, 6, 7], [.iload 6, .ifCond .ne 267, .goto_w 265]), ([0, 1, 2, 3, 4, 5, 7], [.aload 3, .iconst 0, .laload, .iload 7, .i2l, .lcmp, .ifCond .eq 267, .goto_w 266]), ([], [.iconst 0, .ireturn]), ([0, 1, 2, 3, 4, 5], [.goto 378]), ([0, 1, 2, 3, 4, 5], [.aload 1, .aload 0, .iload 5, .iconst 1, .iadd, .iaload, .aload 3, .invokestatic 364, .istore 6, .aload 2, .aload 0, .iload 5, .iconst 1, .iadd, .iaload, .invokevirtual 301, .istore 7, .aload 2, .invokevirtual 174, .iload 6, .if_icmp .eq 270, .goto_w 269]), ([], [.iconst 0, .ireturn]), ([0, 1, 2, 3, 4, 5, 6, 7], [.iload 6, .ifCond .ne 273, .goto_w 271]), ([0, 1, 2, 3, 4, 5, 7], [.aload 3, .iconst 0, .laload, .iload 7, .i2l, .lcmp, .ifCond .eq 273, .goto_w 272]), ([], [.iconst 0, .ireturn]), ([0, 1, 2, 3, 4, 5], [.goto 378]), ([0, 1, 2, 3, 4, 5], [.aload 1, .aload 3, .invokestatic 365, .istore 6, .aload 2, .invokevirtual 302, .istore 7, .aload 2, .invokevirtual 174, .iload 6, .if_icmp .eq 276, .goto_w 275]), ([], [.iconst 0, .ireturn]), ([0, 1, 2, 3, 4, 5, 6, 7], [.iload 6, .ifCond .ne 279, .goto_w 277]), ([0, 1, 2, 3, 4, 5, 7], [.aload 3, .iconst 0, .laload, .iload 7, .i2l, .lcmp, .ifCond .eq 279, .goto_w 278]), ([], [.iconst 0, .ireturn]), ([0, 1, 2, 3, 4, 5], [.goto 378]), ([0, 1, 2, 3, 4, 5], [.aload 1, .aload 0, .iload 5, .iconst 1, .iadd, .iaload, .aload 3, .invokestatic 366, .istore 6, .aload 2, .aload 0, .iload 5, .iconst 1, .iadd, .iaload, .invokevirtual 305, .istore 7, .aload 2, .invokevirtual 174, .iload 6, .if_icmp .eq 282, .goto_w 281]), ([], [.iconst 0, .ireturn]), ([0, 1, 2, 3, 4, 5, 6, 7], [.iload 6, .ifCond .ne 285, .goto_w 283]), ([0, 1, 2, 3, 4, 5, 7], [.aload 3, .iconst 0, .laload, .iload 7, .i2l, .lcmp, .ifCond .eq 285, .goto_w 284]), ([], [.iconst 0, .ireturn]), ([0, 1, 2, 3, 4, 5], [.goto 378]), ([0, 1, 2, 3, 4, 5], [.aload 1, .aload 3, .invokestatic 367, .istore 6, .aload 2, .invokevirtual 306, .istore 7, .aload 2, .invokevirtual 174, .iload 6, .if_icmp .eq 288, .goto_w 287]), ([], [.iconst 0, .ireturn]), ([0, 1, 2, 3, 4, 5, 6, 7], [.iload 6, .ifCond .ne 291, .goto_w 289]), ([0, 1, 2, 3, 4, 5, 7], [.aload 3, .iconst 0, .laload, .iload 7, .i2l, .lcmp, .ifCond .eq 291, .goto_w 290]), ([], [.iconst 0, .ireturn]), ([0, 1, 2, 3, 4, 5], [.goto 378]), ([0, 1, 2, 3, 4, 5], [.aload 1, .aload 3, .invokestatic 368, .istore 6, .aload 2, .invokevirtual 307, .istore 7, .aload 2, .invokevirtual 174, .iload 6, .if_icmp .eq 294, .goto_w 293]), ([], [.iconst 0, .ireturn]), ([0, 1, 2, 3, 4, 5, 6, 7], [.iload 6, .ifCond .ne 297, .goto_w 295]), ([0, 1, 2, 3, 4, 5, 7], [.aload 3, .iconst 0, .laload, .iload 7, .i2l, .lcmp, .ifCond .eq 297, .goto_w 296]), ([], [.iconst 0, .ireturn]), ([0, 1, 2, 3, 4, 5], [.goto 378]), ([0, 1, 2, 3, 4, 5], [.aload 1, .aload 0, .iload 5, .iconst 1, .iadd, .iaload, .aload 3, .invokestatic 369, .istore 6, .aload 2, .aload 0, .iload 5, .iconst 1, .iadd, .iaload, .invokevirtual 308, .istore 7, .aload 2, .invokevirtual 174, .iload 6, .if_icmp .eq 300, .goto_w 299]), ([], [.iconst 0, .ireturn]), ([0, 1, 2, 3, 4, 5, 6, 7], [.iload 6, .ifCond .ne 303, .goto_w 301]), ([0, 1, 2, 3, 4, 5, 7], [.aload 3, .iconst 0, .laload, .iload 7, .i2l, .lcmp, .ifCond .eq 303, .goto_w 302]), ([], [.iconst 0, .ireturn]), ([0, 1, 2, 3, 4, 5], [.goto 378]), ([0, 1, 2, 3, 4, 5], [.aload 1, .aload 0, .iload 5, .iconst 1, .iadd, .iaload, .aload 3, .invokestatic 370, .istore 6, .aload 2, .aload 0, .iload 5, .iconst 1, .iadd, .iaload, .invokevirtual 310, .istore 7, .aload 2, .invokevirtual 174, .iload 6, .if_icmp .eq 306, .goto_w 305]), ([], [.iconst 0, .ireturn]), ([0, 1, 2, 3, 4, 5, 6, 7], [.iload 6, .ifCond .ne 309, .goto_w 307]), ([0, 1, 2, 3, 4, 5, 7], [.aload 3, .iconst 0, .laload, .iload 7, .i2l, .lcmp, .ifCond .eq 309, .goto_w 308]), ([], [.iconst 0, .ireturn]), ([0, 1, 2, 3, 4, 5], [.goto 378]), ([0, 1, 2, 3, 4, 5], [.aload 1, .aload 0, .iload 5, .iconst 1, .iadd, .iaload, .aload 3, .invokestatic 371, .istore 6, .aload 2, .aload 0, .iload 5, .iconst 1, .iadd, .iaload, .invokevirtual 311, .istore 7, .aload 2, .invokevirtual 174, .iload 6, .if_icmp .eq 312, .goto_w 311]), ([], [.iconst 0, .ireturn]), ([0, 1, 2, 3, 4, 5, 6, 7], [.iload 6, .ifCond .ne 315, .goto_w 313]), ([0, 1, 2, 3, 4, 5, 7], [.aload 3, .iconst 0, .laload, .iload 7, .i2l, .lcmp, .ifCond .eq 315, .goto_w 314]), ([], [.iconst 0, .ireturn]), ([0, 1, 2, 3, 4, 5], [.goto 378]), ([0, 1, 2, 3, 4, 5], [.aload 1, .aload 0, .iload 5, .iconst 1, .iadd, .iaload, .aload 3, .invokestatic 372, .istore 6, .aload 2, .aload 0, .iload 5, .iconst 1, .iadd, .iaload, .invokevirtual 312, .istore 7, .aload 2, .invokevirtual 174, .iload 6, .if_icmp .eq 318, .goto_w 317]), ([], [.iconst 0, .ireturn]), ([0, 1, 2, 3, 4, 5, 6, 7], [.iload 6, .ifCond .ne 321, .goto_w 319]), ([0, 1, 2, 3, 4, 5, 7], [.aload 3, .iconst 0, .laload, .iload 7, .i2l, .lcmp, .ifCond .eq 321, .goto_w 320]), ([], [.iconst 0, .ireturn]), ([0, 1, 2, 3, 4, 5], [.goto 378]), ([0, 1, 2, 3, 4, 5], [.aload 1, .aload 0, .iload 5, .iconst 1, .iadd, .iaload, .aload 3, .invokestatic 373, .istore 6, .aload 2, .aload 0, .iload 5, .iconst 1, .iadd, .iaload, .invokevirtual 313, .istore 7, .aload 2, .invokevirtual 174, .iload 6, .if_icmp .eq 324, .goto_w 323]), ([], [.iconst 0, .ireturn]), ([0, 1, 2, 3, 4, 5, 6, 7], [.iload 6, .ifCond .ne 327, .goto_w 325]), ([0, 1, 2, 3, 4, 5, 7], [.aload 3, .iconst 0, .laload, .iload 7, .i2l, .lcmp, .ifCond .eq 327, .goto_w 326]), ([], [.iconst 0, .ireturn]), ([0, 1, 2, 3, 4, 5], [.goto 378]), ([0, 1, 2, 3, 4, 5], [.aload 1, .aload 0, .iload 5, .iconst 1, .iadd, .iaload, .aload 0, .iload 5, .iconst 2, .iadd, .iaload, .aload 3, .invokestatic 374, .istore 6, .aload 2, .aload 0, .iload 5, .iconst 1, .iadd, .iaload, .aload 0, .iload 5, .iconst 2, .iadd, .iaload, .invokevirtual 314, .istore 7, .aload 2, .invokevirtual 174, .iload 6, .if_icmp .eq 330, .goto_w 329]), ([], [.iconst 0, .ireturn]), ([0, 1, 2, 3, 4, 5, 6, 7], [.iload 6, .ifCond .ne 333, .goto_w 331]), ([0, 1, 2, 3, 4, 5, 7], [.aload 3, .iconst 0, .laload, .iload 7, .i2l, .lcmp, .ifCond .eq 333, .goto_w 332]), ([], [.iconst 0, .ireturn]), ([0, 1, 2, 3, 4, 5], [.goto 378]), ([0, 1, 2, 3, 4, 5], [.aload 1, .aload 0, .iload 5, .iconst 1, .iadd, .iaload, .aload 3, .invokestatic 375, .istore 6, .aload 2, .aload 0, .iload 5, .iconst 1, .iadd, .iaload, .invokevirtual 315, .istore 7, .aload 2, .invokevirtual 174, .iload 6, .if_icmp .eq 336, .goto_w 335]), ([], [.iconst 0, .ireturn]), ([0, 1, 2, 3, 4, 5, 6, 7], [.iload 6, .ifCond .ne 339, .goto_w 337]), ([0, 1, 2, 3, 4, 5, 7], [.aload 3, .iconst 0, .laload, .iload 7, .i2l, .lcmp, .ifCond .eq 339, .goto_w 338]), ([], [.iconst 0, .ireturn]), ([0, 1, 2, 3, 4, 5], [.goto 378]), ([0, 1, 2, 3, 4, 5], [.aload 1, .aload 0, .iload 5, .iconst 1, .iadd, .iaload, .aload 0, .iload 5, .iconst 2, .iadd, .iaload, .aload 3, .invokestatic 376, .istore 6, .aload 2, .aload 0, .iload 5, .iconst 1, .iadd, .iaload, .aload 0, .iload 5, .iconst 2, .iadd, .iaload, .invokevirtual 316, .istore 7, .aload 2, .invokevirtual 174, .iload 6, .if_icmp .eq 342, .goto_w 341]), ([], [.iconst 0, .ireturn]), ([0, 1, 2, 3, 4, 5, 6, 7], [.iload 6, .ifCond .ne 345, .goto_w 343]), ([0, 1, 2, 3, 4, 5, 7], [.aload 3, .iconst 0, .laload, .iload 7, .i2l, .lcmp, .ifCond .eq 345, .goto_w 344]), ([], [.iconst 0, .ireturn]), ([0, 1, 2, 3, 4, 5], [.goto 378]), ([0, 1, 2, 3, 4, 5], [.aload 1, .aload 0, .iload 5, .iconst 1, .iadd, .iaload, .aload 0, .iload 5, .iconst 2, .iadd, .iaload, .aload 3, .invokestatic 377, .istore 6, .aload 2, .aload 0, .iload 5, .iconst 1, .iadd, .iaload, .aload 0, .iload 5, .iconst 2, .iadd, .iaload, .invokevirtual 317, .istore 7, .aload 2, .invokevirtual 174, .iload 6, .if_icmp .eq 348, .goto_w 347]), ([], [.iconst 0, .ireturn]), ([0, 1, 2, 3, 4, 5, 6, 7], [.iload 6, .ifCond .ne 351, .goto_w 349]), ([0, 1, 2, 3, 4, 5, 7], [.aload 3, .iconst 0, .laload, .iload 7, .i2l, .lcmp, .ifCond .eq 351, .goto_w 350]), ([], [.iconst 0, .ireturn]), ([0, 1, 2, 3, 4, 5], [.goto 378]), ([0, 1, 2, 3, 4, 5], [.aload 1, .aload 0, .iload 5, .iconst 1, .iadd, .iaload, .aload 0, .iload 5, .iconst 2, .iadd, .iaload, .aload 3, .invokestatic 378, .istore 6, .aload 2, .aload 0, .iload 5, .iconst 1, .iadd, .iaload, .aload 0, .iload 5, .iconst 2, .iadd, .iaload, .invokevirtual 318, .istore 7, .aload 2, .invokevirtual 174, .iload 6, .if_icmp .eq 354, .goto_w 353]), ([], [.iconst 0, .ireturn]), ([0, 1, 2, 3, 4, 5, 6, 7], [.iload 6, .ifCond .ne 357, .goto_w 355]), ([0, 1, 2, 3, 4, 5, 7], [.aload 3, .iconst 0, .laload, .iload 7, .i2l, .lcmp, .ifCond .eq 357, .goto_w 356]), ([], [.iconst 0, .ireturn]), ([0, 1, 2, 3, 4, 5], [.goto 378]), ([0, 1, 2, 3, 4, 5], [.aload 1, .aload 3, .invokestatic 379, .istore 6, .aload 2, .invokevirtual 319, .istore 7, .aload 2, .invokevirtual 174, .iload 6, .if_icmp .eq 360, .goto_w 359]), ([], [.iconst 0, .ireturn]), ([0, 1, 2, 3, 4, 5, 6, 7], [.iload 6, .ifCond .ne 363, .goto_w 361]), ([0, 1, 2, 3, 4, 5, 7], [.aload 3, .iconst 0, .laload, .iload 7, .i2l, .lcmp, .ifCond .eq 363, .goto_w 362]), ([], [.iconst 0, .ireturn]), ([0, 1, 2, 3, 4, 5], [.goto 378]), ([0, 1, 2, 3, 4, 5], [.aload 1, .invokevirtual 152, .aload 2, .invokevirtual 320, .if_icmp .eq 378, .goto_w 365]), ([], [.iconst 0, .ireturn]), ([0, 1, 2, 3, 4, 5], [.aload 1, .aload 0, .iload 5, .iconst 1, .iadd, .iaload, .aload 3, .invokestatic 380, .istore 6, .aload 2, .aload 0, .iload 5, .iconst 1, .iadd, .iaload, .invokevirtual 321, .istore 7, .aload 2, .invokevirtual 174, .iload 6, .if_icmp .eq 368, .goto_w 367]), ([], [.iconst 0, .ireturn]), ([0, 1, 2, 3, 4, 5, 6, 7], [.iload 6, .ifCond .ne 371, .goto_w 369]), ([0, 1, 2, 3, 4, 5, 7], [.aload 3, .iconst 0, .laload, .iload 7, .i2l, .lcmp, .ifCond .eq 371, .goto_w 370]), ([], [.iconst 0, .ireturn]), ([0, 1, 2, 3, 4, 5], [.goto 378]), ([0, 1, 2, 3, 4, 5], [.aload 1, .aload 0, .iload 5, .iconst 1, .iadd, .iaload, .aload 3, .invokestatic 381, .istore 6, .aload 2, .aload 0, .iload 5, .iconst 1, .iadd, .iaload, .invokevirtual 322, .istore 7, .aload 2, .invokevirtual 174, .iload 6, .if_icmp .eq 374, .goto_w 373]), ([], [.iconst 0, .ireturn]), ([0, 1, 2, 3, 4, 5, 6, 7], [.iload 6, .ifCond .ne 377, .goto_w 375]), ([0, 1, 2, 3, 4, 5, 7], [.aload 3, .iconst 0, .laload, .iload 7, .i2l, .lcmp, .ifCond .eq 377, .goto_w 376]), ([], [.iconst 0, .ireturn]), ([0, 1, 2, 3, 4, 5], [.goto 378]), ([0, 1, 2, 3, 4, 5], [.iinc 5 6, .goto 1]), ([], [.iconst 1, .ireturn])])
/-- java/lang/Integer.bitCount(I)I -/
def xM383 : XT := (1, 1, 99, 1, [], [([0], [.iload 0, .iload 0, .iconst 1, .iushr, .iconst 1431655765, .iand, .isub, .istore 0, .iload 0, .iconst 858993459, .iand, .iload 0, .iconst 2, .iushr, .iconst 858993459, .iand, .iadd, .istore 0, .iload 0, .iload 0, .iconst 4, .iushr, .iadd, .iconst 252645135, .iand, .istore 0, .iload 0, .iload 0, .iconst 8, .iushr, .iadd, .istore 0, .iload 0, .iload 0, .iconst 16, .iushr, .iadd, .istore 0, .iload 0, .iconst 63, .iand, .ireturn])])
/-- java/lang/Math.abs(I)I -/
def xM384 : XT := (1, 1, 99, 1, [], [([0], [.iload 0, .ifCond .ge 2, .goto_w 1]), ([0], [.iload 0, .ineg, .goto 3]), ([0], [.iload 0, .goto_w 3]), ([], [.ireturn])])
/-- java/lang/Math.max(II)I -/
def xM385 : XT := (2, 2, 99, 1, [], [([0, 1], [.iload 0, .iload 1, .if_icmp .lt 2, .goto_w 1]), ([0], [.iload 0, .goto 3]), ([1], [.iload 1, .goto_w 3]), ([], [.ireturn])])
/-- java/lang/Math.min(II)I -/
def xM386 : XT := (2, 2, 99, 1, [], [([0, 1], [.iload 0, .iload 1, .if_icmp .gt 2, .goto_w 1]), ([0], [.iload 0, .goto 3]), ([1], [.iload 1, .goto_w 3]), ([], [.ireturn])])
/-- java/lang/Float.isNaN(F)Z -/
def xM387 : XT := (1, 1, 99, 2, [], [([0], [.fload 0, .fload 0, .fcmp .l, .ifCond .eq 2, .goto_w 1]), ([], [.iconst 1, .goto 3]), ([], [.iconst 0, .goto_w 3]), ([], [.ireturn])])
/-- java/lang/Float.floatToIntBits(F)I -/
def xM388 : XT := (1, 1, 99, 1, [], [([0], [.fload 0, .invokestatic 387, .ifCond .ne 2, .goto_w 1]), ([0], [.fload 0, .invokedynamic 0, .ireturn]), ([], [.iconst 2143289344, .ireturn])])
/-- java/lang/Double.isNaN(D)Z -/
def xM389 : XT := (1, 2, 99, 2, [], [([0], [.dload 0, .dload 0, .dcmp .l, .ifCond .eq 2, .goto_w 1]), ([], [.iconst 1, .goto 3]), ([], [.iconst 0, .goto_w 3]), ([], [.ireturn])])
/-- java/lang/Double.doubleToLongBits(D)J -/
def xM390 : XT := (1, 2, 99, 5, [], [([0], [.dload 0, .invokestatic 389, .ifCond .ne 2, .goto_w 1]), ([0], [.dload 0, .invokedynamic 1, .lreturn]), ([], [.jsr 9221120237041090560, .lreturn])])
/-- java/lang/String.length()I -/
def xM391 : XT := (1, 1, 30, 1, [], [([0], [.aload 0, .getfield 960, .arraylength, .aload 0, .invokevirtual 393, .ishr, .ireturn])])
/-- java/lang/String.charAt(I)C -/
def xM392 : XT := (2, 2, 30, 4, [], [([0, 1], [.aload 0, .invokevirtual 394, .ifCond .eq 2, .goto_w 1]), ([0, 1], [.aload 0, .getfield 960, .iload 1, .invokestatic 396, .ireturn]), ([0, 1], [.aload 0, .getfield 960, .iload 1])])
/-- java/lang/String.coder()B -/
def xM393 : XT := (1, 1, 30, 3, [], [([0], [.getstatic 2, .ifCond .eq 2, .goto_w 1]), ([0], [.aload 0, .getfield 961, .goto 3]), ([], [.iconst 1, .goto_w 3]), ([], [.ireturn])])
/-- java/lang/String.isLatin1()Z -/
def xM394 : XT := (1, 1, 30, 2, [], [([0], [.getstatic 2, .ifCond .eq 3, .goto_w 1]), ([0], [.aload 0, .getfield 961, .ifCond .ne 3, .goto_w 2]), ([], [.iconst 1, .goto 4]), ([], [.iconst 0, .goto_w 4]), ([], [.ireturn])])
/-- java/lang/String.checkIndex(II)V -/
def xM395 : XT := (2, 2, 99, 0, [], [([0, 1], [.iload 0, .iload 1, .getstatic 4, .invokestatic 397, .pop, .return_])])
/-- java/lang/StringLatin1.charAt([BI)C -/
def xM396 : XT := (2, 2, 99, 4, [], [([0, 1], [.iload 1, .aload 0, .arraylength, .invokestatic 395, .aload 0, .iload 1, .baload, .iconst 255, .iand, .i2c, .ireturn])])
/-- jdk/internal/util/Preconditions.checkIndex(IILjava/util/function/BiFunction;)I -/
def xM397 : XT := (3, 3, 99, 1, [], [([0, 1, 2], [.iload 0, .ifCond .lt 2, .goto_w 1]), ([0, 1, 2], [.iload 0, .iload 1, .if_icmp .lt 3, .goto_w 2]), ([0, 1, 2], [.aload 2, .iload 0, .iload 1]), ([0], [.iload 0, .ireturn])])
def xmts : List XT := [xM0, xM1, xM2, xM3, xM4, xM5, xM6, xM7, xM8, xM9, xM10, xM11, xM12, xM13, xM14, xM15, xM16, xM17, xM18, xM19, xM20, xM21, xM22, xM23, xM24, xM25, xM26, xM27, xM28, xM29, xM30, xM31, xM32, xM33, xM34, xM35, xM36, xM37, xM38, xM39, xM40, xM41, xM42, xM43, xM44, xM45, xM46, xM47, xM48, xM49, xM50, xM51, xM52, xM53, xM54, xM55, xM56, xM57, xM58, xM59, xM60, xM61, xM62, xM63, xM64, xM65, xM66, xM67, xM68, xM69, xM70, xM71, xM72, xM73, xM74, xM75, xM76, xM77, xM78, xM79, xM80, xM81, xM82, xM83, xM84, xM85, xM86, xM87, xM88, xM89, xM90, xM91, xM92, xM93, xM94, xM95, xM96, xM97, xM98, xM99, xM100, xM101, xM102, xM103, xM104, xM105, xM106, xM107, xM108, xM109, xM110, xM111, xM112, xM113, xM114, xM115, xM116, xM117, xM118, xM119, xM120, xM121, xM122, xM123, xM124, xM125, xM126, xM127, xM128, xM129, xM130, xM131, xM132, xM133, xM134, xM135, xM136, xM137, xM138, xM139, xM140, xM141, xM142, xM143, xM144, xM145, xM146, xM147, xM148, xM149, xM150, xM151, xM152, xM153, xM154, xM155, xM156, xM157, xM158, xM159, xM160, xM161, xM162, xM163, xM164, xM165, xM166, xM167, xM168, xM169, xM170, xM171, xM172, xM173, xM174, xM175, xM176, xM177, xM178, xM179, xM180, xM181, xM182, xM183, xM184, xM185, xM186, xM187, xM188, xM189, xM190, xM191, xM192, xM193, xM194, xM195, xM196, xM197, xM198, xM199, xM200, xM201, xM202, xM203, xM204, xM205, xM206, xM207, xM208, xM209, xM210, xM211, xM212, xM213, xM214, xM215, xM216, xM217, xM218, xM219, xM220, xM221, xM222, xM223, xM224, xM225, xM226, xM227, xM228, xM229, xM230, xM231, xM232, xM233, xM234, xM235, xM236, xM237, xM238, xM239, xM240, xM241, xM242, xM243, xM244, xM245, xM246, xM247, xM248, xM249, xM250, xM251, xM252, xM253, xM254, xM255, xM256, xM257, xM258, xM259, xM260, xM261, xM262, xM263, xM264, xM265, xM266, xM267, xM268, xM269, xM270, xM271, xM272, xM273, xM274, xM275, xM276, xM277, xM278, xM279, xM280, xM281, xM282, xM283, xM284, xM285, xM286, xM287, xM288, xM289, xM290, xM291, xM292, xM293, xM294, xM295, xM296, xM297, xM298, xM299, xM300, xM301, xM302, xM303, xM304, xM305, xM306, xM307, xM308, xM309, xM310, xM311, xM312, xM313, xM314, xM315, xM316, xM317, xM318, xM319, xM320, xM321, xM322, xM323, xM324, xM325, xM326, xM327, xM328, xM329, xM330, xM331, xM332, xM333, xM334, xM335, xM336, xM337, xM338, xM339, xM340, xM341, xM342, xM343, xM344, xM345, xM346, xM347, xM348, xM349, xM350, xM351, xM352, xM353, xM354, xM355, xM356, xM357, xM358, xM359, xM360, xM361, xM362, xM363, xM364, xM365, xM366, xM367, xM368, xM369, xM370, xM371, xM372, xM373, xM374, xM375, xM376, xM377, xM378, xM379, xM380, xM381, xM382, xM383, xM384, xM385, xM386, xM387, xM388, xM389, xM390, xM391, xM392, xM393, xM394, xM395, xM396, xM397]
def xmt (y : Nat) : Option XT := xmts[y]?
end
section
/-! X: a small machine over the tables of 02.xcode. Its heap: a list of cells (a cell's address is its place), the whole numbers that they hold (XM), and what a long[1] or double[1] holds. -/
/-- a cell: kind (a class's place, 0 to 11; 20 int[], 21 byte[], 22 boolean[], 23 long[], 24 double[], 25 State[]), length, references -/
abbrev XC : Type := Nat × Nat × List (Option Nat)
abbrev XM : Type := Nat → Nat → Int32
/-- the cells; the exceptions that were made; the wide cells; the whole numbers -/
abbrev XS : Type := List XC × Nat × (Nat → Value) × XM
abbrev XL : Type := List (Nat × Value)
abbrev XR : Type := Option Value ⊕ Nat
abbrev XK : Type := Nat × (Nat → Int32)
abbrev XO : Type := Option (XR × XS)
def um (m : XM) (a k : Nat) (v : Int32) : XM := fun a' k' => if a' = a ∧ k' = k then v else m a' k'
def uz (m : XM) (a : Nat) : XM := fun a' k' => if a' = a then 0 else m a' k'
def uw (w : Nat → Value) (a : Nat) (v : Value) : Nat → Value := fun a' => if a' = a then v else w a'
def xk : XL → Nat → Option Value
  | [], _ => none
  | (j, v) :: t, i => if j = i then some v else xk t i
def xdel : XL → Nat → Nat → XL
  | [], _, _ => []
  | (j, w) :: t, i, n => if j < i + n ∧ i < j + w.category then xdel t i n else (j, w) :: xdel t i n
def xst (ls : XL) (i : Nat) (v : Value) : XL := (i, v) :: xdel ls i v.category
def xnorm : List Nat → XL → XL
  | [], _ => []
  | k :: t, ls => match xk ls k with
    | some v => (k, v) :: xnorm t ls
    | none => xnorm t ls
def xtl : Value → Int64
  | .long v => v
  | _ => 0
def xtd : Value → UInt64
  | .double v => v
  | _ => 0
def xbr (c : ClassFile.Cond) (a b : Int32) (t f : XO) : XO :=
  match c with
  | .eq => if a = b then t else f
  | .ne => if a = b then f else t
  | .lt => if a < b then t else f
  | .ge => if b ≤ a then t else f
  | .gt => if b < a then t else f
  | .le => if a ≤ b then t else f
/-- constant cells: 1000000 the law's script, 1000001 and 1000002 two static arrays, from 1000010 on the texts, from 1000040 on their bytes; a called method has no script -/
def xK0 : XK := (0, fun _ => 0)
def xstr : List (List Int32) := [[110, 111, 116, 32, 115, 111, 32, 109, 97, 110, 121, 32, 98, 121, 116, 101, 115, 32, 105, 110, 32, 116, 104, 101, 32, 98, 117, 102, 102, 101, 114], [112, 97, 114, 97, 100, 101], [98, 101, 97, 114, 101, 114], [115, 116, 97, 110, 100], [114, 105, 103, 104, 116], [108, 101, 102, 116], [112, 108, 97, 110], [97, 110, 32, 97, 114, 103, 117, 109, 101, 110, 116, 32, 100, 111, 101, 115, 32, 110, 111, 116, 32, 102, 105, 116], [110, 111, 32, 116, 101, 120, 116, 32, 119, 97, 115, 32, 108, 111, 97, 100, 101, 100], [110, 111, 32, 115, 117, 99, 104, 32, 105, 110, 100, 101, 120], [110, 111, 32, 99, 104, 97, 110, 103, 101, 32, 99, 97, 110, 32, 98, 101, 32, 117, 110, 100, 111, 110, 101], [110, 111, 116, 104, 105, 110, 103, 32, 105, 115, 32, 115, 97, 118, 101, 100, 32, 116, 104, 101, 114, 101], [112, 97, 114, 97, 100, 101], [98, 101, 97, 114, 101, 114], [115, 116, 97, 110, 100], [114, 105, 103, 104, 116], [108, 101, 102, 116], [112, 108, 97, 110]]
def xci (K : XK) (a : Nat) : Option XK :=
  if a = 1000000 then (if K.1 = 0 then none else some (K.1 - 1, K.2))
  else if a = 1000001 then some (6, fun j => [1, 0, 1, 0, 1, 0].getD j 0)
  else if a = 1000002 then some (6, fun j => [999, 9999, 9999, 50, 100, 9999].getD j 0)
  else none
def xcb (a : Nat) : Option XK :=
  if 1000040 ≤ a then (xstr[a - 1000040]?).map (fun l => (l.length, fun j => l.getD j 0)) else none
/-- which fields are references; which are boolean -/
def xrefs : List (List Bool) := [[false, true], [false, true, true, true], [false, false, true, true, true], [true, true, true, false, false], [false, true, true, true], [false, false, true, true], [false, true, true, true, true], [false, true, true, true, true, true, true, true, true], [false, false, false, false, true, true, true, true, true], [true, false, false, false, false, false, false], [true, true, true, true, true, true, true, false], [false, true, true, true, true, true, false, false, true, false, false, false, false, false, false, false, false, true, false, true, true, false]]
def xref (c k : Nat) : Bool := (xrefs.getD c []).getD k false
def xbl (c k : Nat) : Bool := (c == 10 && k == 7) || (c == 11 && k == 6)
def xnf : List Nat := [2, 4, 5, 5, 4, 4, 5, 9, 9, 7, 8, 22]
def xin (i : Int32) (n : Nat) : Bool := decide (0 ≤ i) && decide (i.toNatClampNeg < n)
def xkind : ArrayType → Nat
  | .int => 20
  | .byte => 21
  | .boolean => 22
  | .long => 23
  | .double => 24
  | _ => 0
def xget (S : List XC) (m : XM) (f a : Nat) : Option Value :=
  match S[a]? with
  | some (ci, n, rs) => if ci = f / 32 ∧ f % 32 < n ∧ ci < 12 then (if xref ci (f % 32) then
      (match rs[f % 32]? with
      | some (some b) => some (.ref b)
      | _ => none) else some (.int (m a (f % 32)))) else none
  | none => if 1000010 ≤ a ∧ a < 1000028 then (if f = 960 then some (.ref (a + 30)) else if f = 961 then some (.int 0) else none) else none
def xok (n : Nat) : Value → Bool
  | .ref a => decide (a < n) || decide (1000000 ≤ a)
  | _ => true
/-- a new cell has a place of its own: no value speaks of it yet -/
def xfresh (S : List XC) (ls : XL) (st : List Value) : Bool :=
  decide (S.length < 1000000) && st.all (xok S.length) && ls.all (fun q => xok S.length q.2) && S.all (fun x => x.2.2.all (fun r => match r with
    | some b => decide (b < S.length)
    | none => true))
/-- the instructions that only go on -/
def xone (K : XK) (i : Instr) (ls : XL) (st : List Value) (σ : XS) : Option (XL × List Value × XS) :=
  match i with
  | .iconst n => some (ls, .int (Int32.ofInt n) :: st, σ)
  | .ldc_w b => some (ls, .float (UInt32.ofNat b) :: st, σ)
  | .ldc2_w b => some (ls, .double (UInt64.ofNat b) :: st, σ)
  | .jsr n => some (ls, .long (Int64.ofInt n) :: st, σ)
  | .ldc k => some (ls, .ref (1000010 + k) :: st, σ)
  | .fconst n => some (ls, .float (if (n : Nat) = 0 then FP.fconst0 else if (n : Nat) = 1 then FP.fconst1 else FP.fconst2) :: st, σ)
  | .dconst n => some (ls, .double (if (n : Nat) = 0 then FP.dconst0 else FP.dconst1) :: st, σ)
  | .lconst n => some (ls, .long (Int64.ofNat (n : Nat)) :: st, σ)
  | .iload k => match xk ls k with
    | some (.int v) => some (ls, .int v :: st, σ)
    | _ => none
  | .aload k => match xk ls k with
    | some (.ref v) => some (ls, .ref v :: st, σ)
    | _ => none
  | .lload k => match xk ls k with
    | some (.long v) => some (ls, .long v :: st, σ)
    | _ => none
  | .fload k => match xk ls k with
    | some (.float v) => some (ls, .float v :: st, σ)
    | _ => none
  | .dload k => match xk ls k with
    | some (.double v) => some (ls, .double v :: st, σ)
    | _ => none
  | .istore k => match st with
    | .int v :: r => some (xst ls k (.int v), r, σ)
    | _ => none
  | .astore k => match st with
    | .ref v :: r => some (xst ls k (.ref v), r, σ)
    | _ => none
  | .lstore k => match st with
    | .long v :: r => some (xst ls k (.long v), r, σ)
    | _ => none
  | .fstore k => match st with
    | .float v :: r => some (xst ls k (.float v), r, σ)
    | _ => none
  | .dstore k => match st with
    | .double v :: r => some (xst ls k (.double v), r, σ)
    | _ => none
  | .iinc k n => match xk ls k with
    | some (.int v) => some (xst ls k (.int (v + Int32.ofInt n)), st, σ)
    | _ => none
  | .iadd => match st with
    | .int y :: .int x :: r => some (ls, .int (x + y) :: r, σ)
    | _ => none
  | .isub => match st with
    | .int y :: .int x :: r => some (ls, .int (x - y) :: r, σ)
    | _ => none
  | .imul => match st with
    | .int y :: .int x :: r => some (ls, .int (x * y) :: r, σ)
    | _ => none
  | .idiv => match st with
    | .int y :: .int x :: r => if y = 0 then none else some (ls, .int (x / y) :: r, σ)
    | _ => none
  | .irem => match st with
    | .int y :: .int x :: r => if y = 0 then none else some (ls, .int (x - x / y * y) :: r, σ)
    | _ => none
  | .ineg => match st with
    | .int x :: r => some (ls, .int (-x) :: r, σ)
    | _ => none
  | .iand => match st with
    | .int y :: .int x :: r => some (ls, .int (x &&& y) :: r, σ)
    | _ => none
  | .ior => match st with
    | .int y :: .int x :: r => some (ls, .int (x ||| y) :: r, σ)
    | _ => none
  | .ishl => match st with
    | .int y :: .int x :: r => some (ls, .int (x <<< (y &&& 31)) :: r, σ)
    | _ => none
  | .ishr => match st with
    | .int y :: .int x :: r => some (ls, .int (x >>> (y &&& 31)) :: r, σ)
    | _ => none
  | .iushr => match st with
    | .int y :: .int x :: r => some (ls, .int (x.toUInt32 >>> (y.toUInt32 &&& Int32.toUInt32 31)).toInt32 :: r, σ)
    | _ => none
  | .i2l => match st with
    | .int x :: r => some (ls, .long x.toInt64 :: r, σ)
    | _ => none
  | .i2b => match st with
    | .int x :: r => some (ls, .int x.toInt8.toInt32 :: r, σ)
    | _ => none
  | .i2c => match st with
    | .int x :: r => some (ls, .int (x.toUInt32 % 65536).toInt32 :: r, σ)
    | _ => none
  | .i2f => match st with
    | .int x :: r => some (ls, .float (FP.i2f x) :: r, σ)
    | _ => none
  | .i2d => match st with
    | .int x :: r => some (ls, .double (FP.i2d x) :: r, σ)
    | _ => none
  | .f2i => match st with
    | .float x :: r => some (ls, .int (FP.f2i x) :: r, σ)
    | _ => none
  | .f2d => match st with
    | .float x :: r => if FP.f2d x &&& 0x7fffffffffffffff ≤ 0x7ff0000000000000 then some (ls, .double (FP.f2d x) :: r, σ) else none
    | _ => none
  | .d2l => match st with
    | .double x :: r => some (ls, .long (FP.d2l x) :: r, σ)
    | _ => none
  | .ladd => match st with
    | .long y :: .long x :: r => some (ls, .long (x + y) :: r, σ)
    | _ => none
  | .lsub => match st with
    | .long y :: .long x :: r => some (ls, .long (x - y) :: r, σ)
    | _ => none
  | .lshl => match st with
    | .int y :: .long x :: r => some (ls, .long (x <<< (y.toInt64 &&& 63)) :: r, σ)
    | _ => none
  | .lcmp => match st with
    | .long y :: .long x :: r => some (ls, .int (lg_cmp x y) :: r, σ)
    | _ => none
  | .fmul => match st with
    | .float y :: .float x :: r => if FP.fmul x y &&& 0x7fffffff ≤ 0x7f800000 then some (ls, .float (FP.fmul x y) :: r, σ) else none
    | _ => none
  | .fdiv => match st with
    | .float y :: .float x :: r => if FP.fdiv x y &&& 0x7fffffff ≤ 0x7f800000 then some (ls, .float (FP.fdiv x y) :: r, σ) else none
    | _ => none
  | .fsub => match st with
    | .float y :: .float x :: r => if FP.fsub x y &&& 0x7fffffff ≤ 0x7f800000 then some (ls, .float (FP.fsub x y) :: r, σ) else none
    | _ => none
  | .dmul => match st with
    | .double y :: .double x :: r => if FP.dmul x y &&& 0x7fffffffffffffff ≤ 0x7ff0000000000000 then some (ls, .double (FP.dmul x y) :: r, σ) else none
    | _ => none
  | .ddiv => match st with
    | .double y :: .double x :: r => if FP.ddiv x y &&& 0x7fffffffffffffff ≤ 0x7ff0000000000000 then some (ls, .double (FP.ddiv x y) :: r, σ) else none
    | _ => none
  | .dsub => match st with
    | .double y :: .double x :: r => if FP.dsub x y &&& 0x7fffffffffffffff ≤ 0x7ff0000000000000 then some (ls, .double (FP.dsub x y) :: r, σ) else none
    | _ => none
  | .fcmp op => match st with
    | .float y :: .float x :: r => some (ls, .int (Op.cmpValue (FP.fcmp x y) op) :: r, σ)
    | _ => none
  | .dcmp op => match st with
    | .double y :: .double x :: r => some (ls, .int (Op.cmpValue (FP.dcmp x y) op) :: r, σ)
    | _ => none
  | .dup => match st with
    | v :: r => if v.category = 1 then some (ls, v :: v :: r, σ) else none
    | _ => none
  | .dup2 => match st with
    | v :: u :: r => if v.category = 1 ∧ u.category = 1 then some (ls, v :: u :: v :: u :: r, σ) else none
    | _ => none
  | .monitorexit => match st with
    | .ref _ :: r => if (r.map fun v => v.category).sum ≤ 8 then some (ls, r, σ) else none
    | _ => none
  | .pop => match st with
    | v :: r => if v.category = 1 then some (ls, r, σ) else none
    | _ => none
  | .frem => match st with
    | .float z :: .float x :: r => if FP.fIsNaN x = false ∧ FP.fIsNaN z = false ∧ (r.map fun v => v.category).sum ≤ 8 then some (ls, .float (Native.java_lang_Math.nans.pick32 true x z) :: r, σ) else none
    | _ => none
  | .invokedynamic k => match st with
    | .float x :: r => if k = 0 ∧ (r.map fun v => v.category).sum ≤ 8 then some (ls, .int x.toInt32 :: r, σ) else none
    | .double x :: r => if k = 1 ∧ (r.map fun v => v.category).sum ≤ 8 then some (ls, .long x.toInt64 :: r, σ) else none
    | _ => none
  | .getstatic k =>
    if k = 0 then some (ls, .ref 1000001 :: st, σ)
    else if k = 1 then some (ls, .ref 1000002 :: st, σ)
    else if k = 2 then some (ls, .int 1 :: st, σ)
    else if k = 3 then some (ls, .long (-2147483648) :: st, σ)
    else if k = 4 then some (ls, .retAddr 0 :: st, σ)
    else none
  | .getfield f => match st with
    | .ref a :: r => match xget σ.1 σ.2.2.2 f a with
      | some v => some (ls, v :: r, σ)
      | none => none
    | _ => none
  | .putfield f => match st with
    | .int v :: .ref a :: r => match σ.1[a]? with
      | some (ci, n, _) => if ci = f / 32 ∧ ci < 12 ∧ f % 32 < n ∧ xref ci (f % 32) = false ∧ (xbl ci (f % 32) = false ∨ v = 0 ∨ v = 1) then
          some (ls, r, σ.1, σ.2.1, σ.2.2.1, um σ.2.2.2 a (f % 32) v) else none
      | none => none
    | .ref v :: .ref a :: r => match σ.1[a]? with
      | some (ci, n, rs) => if ci = f / 32 ∧ ci < 12 ∧ f % 32 < n ∧ xref ci (f % 32) = true ∧ rs.length = n ∧ v < σ.1.length then
          some (ls, r, σ.1.set a (ci, n, rs.set (f % 32) (some v)), σ.2.1, σ.2.2.1, σ.2.2.2) else none
      | none => none
    | _ => none
  | .iaload => match st with
    | .int i :: .ref a :: r => match σ.1[a]? with
      | some (ci, n, _) => if ci = 20 ∧ xin i n = true then some (ls, .int (σ.2.2.2 a i.toNatClampNeg) :: r, σ) else none
      | none => match xci K a with
        | some (n, f) => if xin i n = true then some (ls, .int (f i.toNatClampNeg) :: r, σ) else none
        | none => none
    | _ => none
  | .iastore => match st with
    | .int v :: .int i :: .ref a :: r => match σ.1[a]? with
      | some (ci, n, _) => if ci = 20 ∧ xin i n = true then some (ls, r, σ.1, σ.2.1, σ.2.2.1, um σ.2.2.2 a i.toNatClampNeg v) else none
      | none => none
    | _ => none
  | .baload => match st with
    | .int i :: .ref a :: r => match σ.1[a]? with
      | some (ci, n, _) => if (ci = 21 ∨ ci = 22) ∧ xin i n = true then some (ls, .int (σ.2.2.2 a i.toNatClampNeg) :: r, σ) else none
      | none => match xcb a with
        | some (n, f) => if xin i n = true then some (ls, .int (f i.toNatClampNeg) :: r, σ) else none
        | none => none
    | _ => none
  | .bastore => match st with
    | .int v :: .int i :: .ref a :: r => match σ.1[a]? with
      | some (ci, n, _) => if ci = 21 ∧ xin i n = true then some (ls, r, σ.1, σ.2.1, σ.2.2.1, um σ.2.2.2 a i.toNatClampNeg v.toInt8.toInt32)
        else if ci = 22 ∧ xin i n = true ∧ (v = 0 ∨ v = 1) then some (ls, r, σ.1, σ.2.1, σ.2.2.1, um σ.2.2.2 a i.toNatClampNeg v) else none
      | none => none
    | _ => none
  | .aaload => match st with
    | .int i :: .ref a :: r => match σ.1[a]? with
      | some (ci, n, rs) => if ci = 25 ∧ xin i n = true then
          (match rs[i.toNatClampNeg]? with
          | some (some b) => some (ls, .ref b :: r, σ)
          | _ => none) else none
      | none => none
    | _ => none
  | .aastore => match st with
    | .ref v :: .int i :: .ref a :: r => match σ.1[a]? with
      | some (ci, n, rs) => match σ.1[v]? with
        | some (cv, _, _) => if ci = 25 ∧ xin i n = true ∧ cv = 8 ∧ rs.length = n then
            some (ls, r, σ.1.set a (ci, n, rs.set i.toNatClampNeg (some v)), σ.2.1, σ.2.2.1, σ.2.2.2) else none
        | none => none
      | none => none
    | _ => none
  | .laload => match st with
    | .int i :: .ref a :: r => match σ.1[a]? with
      | some (ci, n, _) => if ci = 23 ∧ i = 0 ∧ n = 1 then some (ls, .long (xtl (σ.2.2.1 a)) :: r, σ) else none
      | none => none
    | _ => none
  | .lastore => match st with
    | .long v :: .int i :: .ref a :: r => match σ.1[a]? with
      | some (ci, n, _) => if ci = 23 ∧ i = 0 ∧ n = 1 then some (ls, r, σ.1, σ.2.1, uw σ.2.2.1 a (.long v), σ.2.2.2) else none
      | none => none
    | _ => none
  | .daload => match st with
    | .int i :: .ref a :: r => match σ.1[a]? with
      | some (ci, n, _) => if ci = 24 ∧ i = 0 ∧ n = 1 then some (ls, .double (xtd (σ.2.2.1 a)) :: r, σ) else none
      | none => none
    | _ => none
  | .dastore => match st with
    | .double v :: .int i :: .ref a :: r => match σ.1[a]? with
      | some (ci, n, _) => if ci = 24 ∧ i = 0 ∧ n = 1 then some (ls, r, σ.1, σ.2.1, uw σ.2.2.1 a (.double v), σ.2.2.2) else none
      | none => none
    | _ => none
  | .arraylength => match st with
    | .ref a :: r => match σ.1[a]? with
      | some (ci, n, _) => if ci = 20 ∨ ci = 21 ∨ ci = 22 ∨ ci = 25 then some (ls, .int (Int32.ofNat n) :: r, σ) else none
      | none => match xci K a with
        | some (n, _) => some (ls, .int (Int32.ofNat n) :: r, σ)
        | none => match xcb a with
          | some (n, _) => some (ls, .int (Int32.ofNat n) :: r, σ)
          | none => none
    | _ => none
  | .new c => if c < 12 ∧ xfresh σ.1 ls st = true then some (ls, .ref σ.1.length :: st, σ.1 ++ [(c, xnf.getD c 0, List.replicate (xnf.getD c 0) none)], σ.2.1, σ.2.2.1, uz σ.2.2.2 σ.1.length) else none
  | .newarray t => match st with
    | .int n :: r => if 0 ≤ n ∧ n.toNatClampNeg ≤ 5000 ∧ xfresh σ.1 ls r = true then
        (if xkind t = 23 ∨ xkind t = 24 then (if n = 1 then some (ls, .ref σ.1.length :: r, σ.1 ++ [(xkind t, 1, [])], σ.2.1, uw σ.2.2.1 σ.1.length .null, uz σ.2.2.2 σ.1.length) else none)
        else if xkind t = 0 then none
        else some (ls, .ref σ.1.length :: r, σ.1 ++ [(xkind t, n.toNatClampNeg, [])], σ.2.1, σ.2.2.1, uz σ.2.2.2 σ.1.length)) else none
    | _ => none
  | .anewarray c => match st with
    | .int n :: r => if c = 8 ∧ 0 ≤ n ∧ n.toNatClampNeg ≤ 5000 ∧ xfresh σ.1 ls r = true then
        some (ls, .ref σ.1.length :: r, σ.1 ++ [(25, n.toNatClampNeg, List.replicate n.toNatClampNeg none)], σ.2.1, σ.2.2.1, uz σ.2.2.2 σ.1.length) else none
    | _ => none
  | _ => none
/-- what a return of this kind takes -/
def xrt : Nat → Int32 → Bool
  | 1, _ => true
  | 2, v => v == 0 || v == 1
  | 3, v => v == 0
  | 4, v => (v.toUInt32 % 65536).toInt32 == v
  | _, _ => false
def xrecv (rc : Nat) (S : List XC) : List Value → Bool
  | .ref a :: _ => if rc = 99 then true else match S[a]? with
    | some (ci, _, _) => ci == rc && decide (rc < 12)
    | none => rc == 30 && decide (1000010 ≤ a) && decide (a < 1000028)
  | _ => rc == 99
def xcat (st : List Value) : Nat := (st.map fun v => v.category).sum
/-- the call of method y, with the stack st -/
def xcall (C : Nat → List Value → XS → XO) (hd : List (Nat × Nat × Nat)) (J : Nat → XL → List Value → XS → XO) (y : Nat) (ls : XL) (st : List Value) (σ : XS) (k : List Value → XS → XO) : XO :=
  match xmt y with
  | none => none
  | some (na, ml, rc, _, _, _) =>
    if na ≤ st.length ∧ xrecv rc σ.1 (st.take na).reverse = true ∧ xcat (st.drop na) ≤ 8 ∧ xcat (st.take na).reverse ≤ ml then
      (match C y (st.take na).reverse σ with
      | none => none
      | some (.inl v, σ') => if σ'.1.length = σ.1.length ∨ (ls.all (fun q => xok σ.1.length q.2) = true ∧ (st.drop na).all (xok σ.1.length) = true) then k (v.toList ++ st.drop na) σ' else none
      | some (.inr E, σ') => match hd.find? (fun h => h.1 == E) with
        | some (_, L, x) => if σ'.1.length = σ.1.length then J L (xdel ls x 1) [] σ' else none
        | none => if hd.isEmpty then some (.inr E, σ') else none)
    else none
def xblk (K : XK) (rt : Nat) (hd : List (Nat × Nat × Nat)) (J : Nat → XL → List Value → XS → XO) (C : Nat → List Value → XS → XO) : List Instr → XL → List Value → XS → XO
  | [], _, _, _ => none
  | i :: is, ls, st, σ =>
    match i with
    | .goto L => J L.toNat ls st σ
    | .goto_w L => J L.toNat ls st σ
    | .ifCond c L => match st with
      | .int x :: r => xbr c x 0 (J L.toNat ls r σ) (xblk K rt hd J C is ls r σ)
      | _ => none
    | .if_icmp c L => match st with
      | .int y :: .int x :: r => xbr c x y (J L.toNat ls r σ) (xblk K rt hd J C is ls r σ)
      | _ => none
    | .ifnull _ => match st with
      | .ref _ :: r => xblk K rt hd J C is ls r σ
      | _ => none
    | .tableswitch d lo hi offs => match st with
      | .int x :: r => if lo ≤ x.toInt ∧ x.toInt ≤ hi then
          (match offs[(x.toInt - lo).toNat]? with
          | some L => J L.toNat ls r σ
          | none => none) else J d.toNat ls r σ
      | _ => none
    | .lookupswitch d ps => match st with
      | .int x :: r => match ps.toList.find? (fun q => q.1 == x.toInt) with
        | some (_, L) => J L.toNat ls r σ
        | none => J d.toNat ls r σ
      | _ => none
    | .ireturn => match st with
      | [.int v] => if xrt rt v = true then some (.inl (some (.int v)), σ) else none
      | _ => none
    | .lreturn => match st with
      | [.long v] => if rt = 5 then some (.inl (some (.long v)), σ) else none
      | _ => none
    | .freturn => match st with
      | [.float v] => if rt = 6 then some (.inl (some (.float v)), σ) else none
      | _ => none
    | .dreturn => match st with
      | [.double v] => if rt = 7 then some (.inl (some (.double v)), σ) else none
      | _ => none
    | .areturn => match st with
      | [.ref v] => if rt = 8 then some (.inl (some (.ref v)), σ) else none
      | _ => none
    | .return_ => match st with
      | [] => if rt = 0 then some (.inl none, σ) else none
      | _ => none
    | .checkcast E => match st with
      | [] => if hd.isEmpty then some (.inr E, σ.1, σ.2.1 + 1, σ.2.2.1, σ.2.2.2) else none
      | _ => none
    | .invokevirtual y => xcall C hd J y ls st σ (fun st' σ' => xblk K rt hd J C is ls st' σ')
    | .invokespecial y => xcall C hd J y ls st σ (fun st' σ' => xblk K rt hd J C is ls st' σ')
    | .invokestatic y => xcall C hd J y ls st σ (fun st' σ' => xblk K rt hd J C is ls st' σ')
    | i => match xone K i ls st σ with
      | some (ls', st', σ') => xblk K rt hd J C is ls' st' σ'
      | none => none
/-- a run: fuel, depth left, method, label -/
def xrun (K : XK) : Nat → Nat → Nat → Nat → XL → List Value → XS → XO
  | 0, _, _, _, _, _, _ => none
  | n + 1, d, y, L, ls, st, σ => match xmt y with
    | none => none
    | some (_, _, _, rt, hd, bs) => match bs[L]? with
      | none => none
      | some (lv, is) => xblk K rt hd (fun L' ls' st' σ' => xrun K n d y L' ls' st' σ')
          (fun y' args σ' => match d with
            | 0 => none
            | d' + 1 => xrun xK0 n d' y' 0 (lv_args 0 args) [] σ') is (xnorm lv ls) st σ
end
section
/-! ===== BEGIN words of one list among another's, by their places ===== -/
theorem goodIn_r {big : List Cond} (ws : List Cond) (ps : List Nat) (hp : ws = ps.filterMap (fun i => big[i]?)) (h : ws.all goodWord = true) : GoodIn big ws := by
  intro w hw
  have h1 := List.all_eq_true.mp h w hw
  rw [hp] at hw
  obtain ⟨i, -, hi⟩ := List.mem_filterMap.mp hw
  have hm : w ∈ big := by first | exact List.mem_of_getElem? hi | exact List.getElem?_mem hi
  exact ⟨hm, good_of_word h1⟩
theorem goodIn_app {big a b : List Cond} (ha : GoodIn big a) (hb : GoodIn big b) : GoodIn big (a ++ b) := fun w h => (List.mem_append.mp h).elim (ha w) (hb w)
theorem goodIn_ca {big a b : List Cond} {c : Cond} (ha : GoodIn big (c :: a)) (hb : GoodIn big b) : GoodIn big (c :: (a ++ b)) := fun w h => (List.mem_cons.mp h).elim (fun e => ha w (List.mem_cons.mpr (Or.inl e))) (fun h => (List.mem_append.mp h).elim (fun h => ha w (List.mem_cons.mpr (Or.inr h))) (hb w))
theorem goodIn_sub {big ws : List Cond} (hm : ∀ w ∈ ws, w ∈ big) (h : ws.all goodWord = true) : GoodIn big ws := fun w hw => ⟨hm w hw, good_of_word (List.all_eq_true.mp h w hw)⟩
/-! ===== END ===== -/
/-! ===== BEGIN exceptions that leave a method, and their catching by the caller (launches without stack traces) ===== -/
section VXA
/-! The laws vx_back, vx_callV, vx_callS, vx_callSW, vx_throw0, vx_throwS follow proofs of the library, with one case more: JvmDerived/Free/Laws.lean (Back.of_free), Shelf42/LK1.lean (callV, callS), Shelf/KitTraced.lean (throwNew0V, throwNewS). -/
/-- where a method has thrown q: the class by its name, the cell, what was written, the world -/
def vx_T (XC : String → State → State → Prop) (st : State) (q : Addr) (t : State) (mc ms : Nat) (free : Addr → Prop) : Prop :=
  ∃ (E : String) (ce : Cell) (L : List Loc), XC E st t ∧ t.heap[q]? = some ce ∧ ce.vm = .none ∧ st.vm.findClass E = some ce.cls ∧ st.WarmedH t.vm ∧ st.sameButNew ({ t with vm := st.vm } : State) L mc ms ∧ ∀ z ∈ L, free z.base
def vx_Q (Qc : Array Value → State → Outcome → State → Prop) (XC : String → State → State → Prop) (mc ms : Nat) (free : Addr → Prop) : Array Value → State → Outcome → State → Prop := fun a st o t =>
  (Qc a st o t ∧ ∃ L, FrameEnd st o t L mc ms ∧ ∀ q ∈ L, free q.base) ∨ ∃ q, o = .threw q ∧ vx_T XC st q t mc ms free
/-- a callee that returns or throws -/
def vx_Met (l : Launch) (y : MethodName) (ws : List Cond) (rm : Room) (Pc : Array Value → State → Prop) (Qc : Array Value → State → Outcome → State → Prop) (XC : String → State → State → Prop) (mc ms : Nat) (free : Addr → Prop) : Prop :=
  MetFree l y (headSpec ws rm) Pc (fun _ _ _ _ _ => True) (vx_Q Qc XC mc ms free)
def vx_Post (XC : String → State → State → Prop) (mc ms : Nat) (free : Addr → Prop) : Pt → Array Value → Addr → Pt → Prop := fun A a q B =>
  ∃ (g : JFrame) (mk : MethodId) (t : State) (L : List Loc) (E : String) (ce : Cell), B.U.heap = t.heap ∧ B.U.vm = t.vm ∧ XC E (A.U.calling g mk a) t ∧ t.heap[q]? = some ce ∧ ce.vm = .none ∧ A.U.vm.findClass E = some ce.cls ∧ B.locs = A.locs ++ L ∧ (∀ z ∈ L, free z.base) ∧ B.cells = A.cells + mc ∧ B.slots = A.slots + ms
def vx_Back (l : Launch) (R : Room) (p : Program) (e : Env) (below : List Frame) (s : State) (sargs : Array Value) (y : MethodName) (len W9 : Nat)
    (Pre : Pt → Array Value → Prop) (Post : Pt → Array Value → Option Value → Pt → Prop) (PostX : Pt → Array Value → Addr → Pt → Prop) : Prop :=
  ∀ (m : MethodId) (meth : Method) (c : Code) (A : Pt) (g : JFrame) (ig : Instr) (mk : MethodId) (a : Array Value),
    Stand p l e R s m sargs below meth c A.U A.locs A.cells A.slots → g.method = m → g.locals.size = c.maxLocals → decode c.code g.pc = .ok (ig, len) →
    2 * g.monitorRoom + (g.stack.map fun v => v.category).sum ≤ W9 → A.U.methodNamed? y = some mk → Pre A a →
    (∃ (v : Option Value) (B : Pt), Stand p l e R s m sargs below meth c B.U B.locs B.cells B.slots ∧ Post A a v B ∧
      Steps p.tables e below (doInvoke e (A.U.setTop g) [] mk a).1 (B.U.setTop { g with pc := g.pc + len, stack := v.toList ++ g.stack })) ∨
    (∃ (q : Addr) (B : Pt), Stand p l e R s m sargs below meth c B.U B.locs B.cells B.slots ∧ PostX A a q B ∧
      Steps p.tables e below (doInvoke e (A.U.setTop g) [] mk a).1 ((B.U.setTop g).pushFrame (.throwing q)))
section Payer
variable {l : Launch} {R : Room} {p : Program} {e : Env} {below : List Frame} {s : State} {sargs : Array Value} {y : MethodName} {len W9 : Nat}
theorem vx_back {ws : List Cond} {rm : Room} {Pc : Array Value → State → Prop} {Qc : Array Value → State → Outcome → State → Prop} {XC : String → State → State → Prop} {mc ms : Nat} {free : Addr → Prop} {bytes : ByteArray} {maxL : Nat} {ret : Option FieldType}
    (hM : vx_Met l y ws rm Pc Qc XC mc ms free) (hblind : FrameBlind Pc) (hrc : rm.cells = mc) (hrs : rm.slots = ms)
    (hframes : rm.frames + 1 ≤ R.frames) (hlocals : W9 + (maxL + 11) + rm.locals ≤ R.locals)
    (hws : ∀ w ∈ ws, ∀ a' U, s.WarmedH U.vm → w.before a' U = true) (hcode : Cond.code y bytes maxL ret ∈ ws) (hinit : ∀ a' U, s.WarmedH U.vm → (Cond.initialized y.cls).before a' U = true) :
    vx_Back l R p e below s sargs y len W9 (PreOf R mc ms Pc) (PostOf Qc mc ms free) (vx_Post XC mc ms free) := by
  intro m meth c A g ig mk a X hg hsize hdg hW hn hp
  have h1 : (headSpec ws rm).pre.before a A.U = true := atoms_intro fun w hw => hws w hw _ _ X.warmed
  have h2 : (Cond.code y bytes maxL ret).before a A.U = true := hws _ hcode _ _ X.warmed
  have h3 : (Cond.initialized y.cls).before a A.U = true := hinit _ _ X.warmed
  have h4 : A.cells + (headSpec ws rm).room.cells ≤ R.cells := by rw [show (headSpec ws rm).room.cells = mc from hrc]; exact hp.1
  have h5 : A.slots + (headSpec ws rm).room.slots ≤ R.slots := by rw [show (headSpec ws rm).room.slots = ms from hrs]; exact hp.2.1
  have hPc : Pc a (A.U.calling g mk a) := hblind _ _ _ _ hp.2.2
  obtain ⟨U, Ls, c0, s0⟩ := A
  dsimp only [Pt.U, Pt.locs, Pt.cells, Pt.slots] at h1 h2 h3 h4 h5 X hn hPc ⊢
  obtain ⟨methY, cY, hmY, hcY, -, hlY, -, -, -, -⟩ := Cond.code_spec hn h2
  obtain ⟨kY, hkY, -⟩ := className_of_methodNamed hn
  have hinitY : kY.init = .initialized := Cond.initialized_spec (findClass_of_methodNamed hn) hkY h3
  have h : At U g.method c below := by rw [hg]; exact X.here
  have hlocals9 : W9 + (maxL + 11) + (headSpec ws rm).room.locals ≤ R.locals := hlocals
  have happ : (headSpec ws rm).appliesLoose y e.platform (U.calling g mk a) = true :=
    Spec.appliesLoose_calling (g := g) h hdg hn hkY hinitY
      (X.room_calling (g := g) (R' := (headSpec ws rm).room) hsize hmY hcY hframes (by rw [hlY]; omega) h4 h5) h1
  obtain ⟨mid, hmid⟩ := h.above
  have hfr : (U.setTop g).frames = (.java g :: mid) ++ below := by rw [State.frames_setTop' g h.top, hmid]; rfl
  obtain ⟨o, s₂, hsteps, -, hend, hq⟩ := Steps.callFree hM p X.admits X.cas X.clock (acts := []) hfr happ hPc trivial
  have hq' : vx_Q Qc XC mc ms free a (U.calling g mk a) o s₂ := hq
  rw [State.frames_setTop' g h.top] at hend
  obtain ⟨g₀, hg0⟩ := Option.isSome_iff_exists.mp h.top
  obtain ⟨r, hr⟩ := State.topJava?_eq_some.mp hg0
  have hr' : (({ U with heap := s₂.heap, slotsUsed := s₂.slotsUsed } : State).setVm s₂.vm).frames = .java g₀ :: r := hr
  rcases hq' with ⟨hqc, L, hfe, hL⟩ | ⟨q, rfl, E, ce, L, hx, hce, hcv, hcl, hW₂, hsm, hL⟩
  · obtain ⟨⟨v, rfl⟩, hW₂, e2, q2, q3, q4, q5, q6⟩ := id hfe
    have e3 : s₂ = ({ (U.calling g mk a).setFrames s₂.frames with heap := s₂.heap, slotsUsed := s₂.slotsUsed } : State).setVm s₂.vm := by
      have : s₂ = ({ s₂ with vm := (U.calling g mk a).vm } : State).setVm s₂.vm := rfl
      rw [e2] at this
      exact this
    obtain ⟨c₂, i₂, len₂, hc₂, hd₂, hf₂⟩ := hend
    have hW' : U.WarmedH s₂.vm := hW₂
    have hcc : c₂ = c := by
      have h1 : s₂.code? g.method = U.code? g.method := by
        rw [State.code?_eq, State.code?_eq, hW'.alike.method?]
      exact Option.some.inj (hc₂.symm.trans (h1.trans h.code))
    subst hcc
    have hlen : len₂ = len := by rw [hdg] at hd₂; cases hd₂; rfl
    subst hlen
    have hs₂ : s₂ = (({ U with heap := s₂.heap, slotsUsed := s₂.slotsUsed } : State).setVm s₂.vm).setTop { g with pc := g.pc + len₂, stack := v.toList ++ g.stack } := by
      refine e3.trans ?_
      rw [hf₂, State.calling_eq h.top, State.setFrames_setFrames, State.setTop_of_frames _ hr', hr]
      rfl
    have hsame : U.sameButNew ({ U with heap := s₂.heap, slotsUsed := s₂.slotsUsed } : State) L mc ms := by
      refine ⟨?_, q2, q3, q4, q5, q6⟩
      obtain ⟨t, ht, -⟩ := State.frames_cons hr
      show ({ U with heap := s₂.heap, slotsUsed := s₂.slotsUsed } : State) = { U.setFrames U.frames with heap := s₂.heap, slotsUsed := s₂.slotsUsed }
      rw [State.setFrames_self ht]
    subst hg
    refine Or.inl ⟨v, ⟨(({ U with heap := s₂.heap, slotsUsed := s₂.slotsUsed } : State).setVm s₂.vm), Ls ++ L, c0 + mc, s0 + ms⟩,
      ⟨X.admits, X.cas, X.clock, X.frames, X.room, X.hears, X.method, X.code, (X.here.setHeapUsed s₂.heap s₂.slotsUsed).setVm hW'.alike, X.tail, State.WarmedH.trans X.warmed hW', X.limits, X.bytes, X.same.trans (hsame.setVm s.vm)⟩,
      ⟨g, mk, s₂, L, rfl, rfl, hqc, rfl, hL, rfl, rfl⟩, ?_⟩
    show Steps p.tables e below _ ((({ U with heap := s₂.heap, slotsUsed := s₂.slotsUsed } : State).setVm s₂.vm).setTop { g with pc := g.pc + len₂, stack := v.toList ++ g.stack })
    rw [← hs₂]
    exact hsteps
  · obtain ⟨e2, q2, q3, q4, q5, q6⟩ := id hsm
    have e3 : s₂ = ({ (U.calling g mk a).setFrames s₂.frames with heap := s₂.heap, slotsUsed := s₂.slotsUsed } : State).setVm s₂.vm := by
      have : s₂ = ({ s₂ with vm := (U.calling g mk a).vm } : State).setVm s₂.vm := rfl
      rw [e2] at this
      exact this
    have hf₂ : s₂.frames = .throwing q :: .java g :: U.frames.tail := hend
    have hW' : U.WarmedH s₂.vm := hW₂
    have hs₂ : s₂ = ((({ U with heap := s₂.heap, slotsUsed := s₂.slotsUsed } : State).setVm s₂.vm).setTop g).pushFrame (.throwing q) := by
      refine e3.trans ?_
      rw [hf₂, State.calling_eq h.top, State.setFrames_setFrames, State.pushFrame, State.frames_setTop _ hr', State.setTop_of_frames _ hr', State.setFrames_setFrames, hr]
      rfl
    have hsame : U.sameButNew ({ U with heap := s₂.heap, slotsUsed := s₂.slotsUsed } : State) L mc ms := by
      refine ⟨?_, q2, q3, q4, q5, q6⟩
      obtain ⟨t, ht, -⟩ := State.frames_cons hr
      show ({ U with heap := s₂.heap, slotsUsed := s₂.slotsUsed } : State) = { U.setFrames U.frames with heap := s₂.heap, slotsUsed := s₂.slotsUsed }
      rw [State.setFrames_self ht]
    subst hg
    refine Or.inr ⟨q, ⟨(({ U with heap := s₂.heap, slotsUsed := s₂.slotsUsed } : State).setVm s₂.vm), Ls ++ L, c0 + mc, s0 + ms⟩,
      ⟨X.admits, X.cas, X.clock, X.frames, X.room, X.hears, X.method, X.code, (X.here.setHeapUsed s₂.heap s₂.slotsUsed).setVm hW'.alike, X.tail, State.WarmedH.trans X.warmed hW', X.limits, X.bytes, X.same.trans (hsame.setVm s.vm)⟩,
      ⟨g, mk, s₂, L, E, ce, rfl, rfl, hx, hce, hcv, hcl, rfl, hL, rfl, rfl⟩, ?_⟩
    show Steps p.tables e below _ (((({ U with heap := s₂.heap, slotsUsed := s₂.slotsUsed } : State).setVm s₂.vm).setTop g).pushFrame (.throwing q))
    rw [← hs₂]
    exact hsteps
end Payer
section Calls
variable {p : Program} {l : Launch} {e : Env} {R : Room} {s : State} {m : MethodId} {args : Array Value} {below : List Frame} {meth : Method} {c : Code} {T : State} {locs : List Loc} {cells slots : Nat}
theorem vx_callV (X : Stand p l e R s m args below meth c T locs cells slots) (hexec : p.tables.exec = Jvm.exec) {own C : String} {index : Nat} {y : MethodName} {bytes : ByteArray} {maxL : Nat} {ret : Option FieldType}
    (hown : s.vm.findClass own = some m.cls) (hlink : (Cond.methodLink own index y).before args s = true) (hinst : (Cond.instanceMethod y).before args s = true) (hsel : (Cond.selects C y y).before args s = true)
    (hcode : (Cond.code y bytes maxL ret).before args s = true) (hy : y.cls ≠ "java/lang/invoke/MethodHandle" ∧ y.cls ≠ "java/lang/invoke/VarHandle")
    {W9 : Nat} {Pre : Pt → Array Value → Prop} {Post : Pt → Array Value → Option Value → Pt → Prop} {PostX : Pt → Array Value → Addr → Pt → Prop} (hK : vx_Back l R p e below s args y 3 W9 Pre Post PostX)
    {b : Addr} {cellB : Cell} (hcell : T.heap[b]? = some cellB) (hobj : cellB.vm.isStatics = false) (hcls : s.vm.findClass C = some cellB.cls)
    {g : JFrame} (hg : g.method = m) (hsize : g.locals.size = c.maxLocals) {argsL rest : List Value} (hlen : ∀ sig, parseMethodDescriptor y.desc = some sig → argsL.length = sig.parameters.length)
    (hstack : g.stack = argsL.reverse ++ .ref b :: rest) (hW : 2 * g.monitorRoom + (rest.map fun v => v.category).sum ≤ W9) (hdg : decode c.code g.pc = .ok (.invokevirtual index, 3))
    (hpre : ∀ vm₁, s.WarmedH vm₁ → Pre ⟨T.setVm vm₁, locs, cells, slots⟩ (Value.ref b :: argsL).toArray) :
    (∃ (v : Option Value) (vm₁ : Vm) (B : Pt), s.WarmedH vm₁ ∧ Stand p l e R s m args below meth c B.U B.locs B.cells B.slots ∧ Post ⟨T.setVm vm₁, locs, cells, slots⟩ (Value.ref b :: argsL).toArray v B ∧
      ∀ target, Steps p.tables e below (B.U.setTop { g with pc := g.pc + 3, stack := v.toList ++ rest }) target → Steps p.tables e below (T.setTop g) target) ∨
    (∃ (q : Addr) (vm₁ : Vm) (B : Pt), s.WarmedH vm₁ ∧ Stand p l e R s m args below meth c B.U B.locs B.cells B.slots ∧ PostX ⟨T.setVm vm₁, locs, cells, slots⟩ (Value.ref b :: argsL).toArray q B ∧
      Steps p.tables e below (T.setTop g) ((B.U.setTop { g with stack := rest }).pushFrame (.throwing q))) := by
  obtain ⟨mk, methM, hnamed, hmethM, hstM, habM⟩ := Cond.instanceMethod_spec hinst
  obtain ⟨methM', cM, hmethM', -, -, -, -, -, -, hsigM⟩ := Cond.code_spec hnamed hcode
  cases hmethM.symm.trans hmethM'
  obtain ⟨c2, r2, m2, q1, q2, q3, q4, kP, hkP, hkPi⟩ := Cond.selects_spec hsel
  cases hcls.symm.trans q1
  cases (State.methodFound?_of_named hnamed hy).symm.trans q2
  cases hnamed.symm.trans q3
  have hselP : selectMethod e.platform s.vm cellB.cls mk = .method mk := by rw [Launch.admits_selectMethod X.admits]; exact q4
  obtain ⟨vm₁, X₁, hstep₁⟩ := X.invokevirtual hexec hown hlink hnamed hmethM hstM hkP hkPi hy (a := b) (cell := cellB) hcell
    (fun z h => by rw [h] at hobj; cases hobj) hselP hmethM habM hkP hkPi (g := g) hg (argsL := argsL) (rest := rest) (hlen _ hsigM) hstack hdg
  rcases hK m meth c ⟨T.setVm vm₁, locs, cells, slots⟩ { g with stack := rest } (.invokevirtual index) mk (Value.ref b :: argsL).toArray X₁ hg hsize hdg hW (X₁.named hnamed) (hpre vm₁ X₁.warmed) with ⟨v, B, X', hpost, hsteps⟩ | ⟨q, B, X', hpost, hsteps⟩
  · exact Or.inl ⟨v, vm₁, B, X₁.warmed, X', hpost, fun target h => hstep₁ _ fun acts => by rw [doInvoke_state]; exact hsteps.trans h⟩
  · exact Or.inr ⟨q, vm₁, B, X₁.warmed, X', hpost, hstep₁ _ fun acts => by rw [doInvoke_state]; exact hsteps⟩
theorem vx_callS (X : Stand p l e R s m args below meth c T locs cells slots) (hexec : p.tables.exec = Jvm.exec) {own : String} {index : Nat} {y : MethodName} {bytes : ByteArray} {maxL : Nat} {ret : Option FieldType}
    (hown : s.vm.findClass own = some m.cls) (hlink : (Cond.methodLink own index y).before args s = true) (hstat : (Cond.static y).before args s = true) (hinit : (Cond.initialized y.cls).before args s = true)
    (hcode : (Cond.code y bytes maxL ret).before args s = true) (hy : y.cls ≠ "java/lang/invoke/MethodHandle" ∧ y.cls ≠ "java/lang/invoke/VarHandle")
    {W9 : Nat} {Pre : Pt → Array Value → Prop} {Post : Pt → Array Value → Option Value → Pt → Prop} {PostX : Pt → Array Value → Addr → Pt → Prop} (hK : vx_Back l R p e below s args y 3 W9 Pre Post PostX)
    {g : JFrame} (hg : g.method = m) (hsize : g.locals.size = c.maxLocals) {argsL rest : List Value} (hlen : ∀ sig, parseMethodDescriptor y.desc = some sig → argsL.length = sig.parameters.length)
    (hstack : g.stack = argsL.reverse ++ rest) (hW : 2 * g.monitorRoom + (rest.map fun v => v.category).sum ≤ W9) (hdg : decode c.code g.pc = .ok (.invokestatic index, 3))
    (hpre : ∀ vm₁, s.WarmedH vm₁ → Pre ⟨T.setVm vm₁, locs, cells, slots⟩ argsL.toArray) :
    (∃ (v : Option Value) (vm₁ : Vm) (B : Pt), s.WarmedH vm₁ ∧ Stand p l e R s m args below meth c B.U B.locs B.cells B.slots ∧ Post ⟨T.setVm vm₁, locs, cells, slots⟩ argsL.toArray v B ∧
      ∀ target, Steps p.tables e below (B.U.setTop { g with pc := g.pc + 3, stack := v.toList ++ rest }) target → Steps p.tables e below (T.setTop g) target) ∨
    (∃ (q : Addr) (vm₁ : Vm) (B : Pt), s.WarmedH vm₁ ∧ Stand p l e R s m args below meth c B.U B.locs B.cells B.slots ∧ PostX ⟨T.setVm vm₁, locs, cells, slots⟩ argsL.toArray q B ∧
      Steps p.tables e below (T.setTop g) ((B.U.setTop { g with stack := rest }).pushFrame (.throwing q))) := by
  obtain ⟨mk, hnamed⟩ := Cond.code_named hcode
  obtain ⟨methM, cM, hmethM, -, -, -, -, -, -, hsigM⟩ := Cond.code_spec hnamed hcode
  have hstatic : methM.isStatic = true := Cond.static_spec hnamed hmethM hstat
  obtain ⟨kP, hkP, -⟩ := className_of_methodNamed hnamed
  have hinitP : kP.init = .initialized := Cond.initialized_spec (findClass_of_methodNamed hnamed) hkP hinit
  obtain ⟨vm₁, X₁, hstep₁⟩ := X.invokestatic hexec hown hlink hnamed hmethM hstatic hkP hinitP hy (g := g) hg (argsL := argsL) (rest := rest) (hlen _ hsigM) hstack hdg
  rcases hK m meth c ⟨T.setVm vm₁, locs, cells, slots⟩ { g with stack := rest } (.invokestatic index) mk argsL.toArray X₁ hg hsize hdg hW (X₁.named hnamed) (hpre vm₁ X₁.warmed) with ⟨v, B, X', hpost, hsteps⟩ | ⟨q, B, X', hpost, hsteps⟩
  · exact Or.inl ⟨v, vm₁, B, X₁.warmed, X', hpost, fun target h => hstep₁ _ fun acts => by rw [doInvoke_state]; exact hsteps.trans h⟩
  · exact Or.inr ⟨q, vm₁, B, X₁.warmed, X', hpost, hstep₁ _ fun acts => by rw [doInvoke_state]; exact hsteps⟩
end Calls
theorem vx_cls {s : State} {T : State} {vm₁ : Vm} {E : String} {k : ClassId} (hW : s.WarmedH vm₁) (h : (T.setVm vm₁).vm.findClass E = some k) : s.vm.findClass E = some k := by
  have h1 : vm₁.findClass E = some k := h
  rw [hW.alike.findClass] at h1
  exact h1
/-- the method's frame g, with q thrown over it -/
def vx_W (p : Program) (l : Launch) (e : Env) (R : Room) (s : State) (m : MethodId) (args : Array Value) (below : List Frame) (meth : Method) (c : Code) (H : Heap) (locs : List Loc) (cells slots : Nat) (Q : State → Prop) (g : JFrame) (q : Addr) : Prop :=
  ∀ T : State, T.heap = H → Stand p l e R s m args below meth c T locs cells slots → ∃ t, Steps p.tables e below ((T.setTop g).pushFrame (.throwing q)) t ∧ Q t
def vx_Run (p : Program) (l : Launch) (e : Env) (R : Room) (s : State) (m : MethodId) (args : Array Value) (below : List Frame) (meth : Method) (c : Code) (H : Heap) (locs : List Loc) (cells slots mc ms : Nat) (g : JFrame) (rest : List Value) (Qa : State → Outcome → State → Prop) (XC : String → State → State → Prop) (free : Addr → Prop) : Prop :=
  ∀ T : State, T.heap = H → Stand p l e R s m args below meth c T locs cells slots →
    (∃ (v : Option Value) (st₀ t T' : State) (L : List Loc), st₀.heap = H ∧ Stand p l e R s m args below meth c T' (locs ++ L) (cells + mc) (slots + ms) ∧ (∀ q ∈ L, free q.base) ∧ T'.heap = t.heap ∧ T'.vm = t.vm ∧ Qa st₀ (.returned v) t ∧
      Goes p e below T g T' { g with pc := g.pc + 3, stack := v.toList ++ rest }) ∨
    (∃ (q : Addr) (st₀ t T' : State) (L : List Loc) (E : String) (ce : Cell), st₀.heap = H ∧ Stand p l e R s m args below meth c T' (locs ++ L) (cells + mc) (slots + ms) ∧ (∀ z ∈ L, free z.base) ∧ T'.heap = t.heap ∧ T'.vm = t.vm ∧ XC E st₀ t ∧ t.heap[q]? = some ce ∧ ce.vm = .none ∧ s.vm.findClass E = some ce.cls ∧
      Steps p.tables e below (T.setTop g) ((T'.setTop { g with stack := rest }).pushFrame (.throwing q)))
def vx_X {S : Type} (px : S → Prop) (B : String → S → State → Prop) (A : Nat → Prop) : String → State → State → Prop := fun E st t => ∃ u : S, px u ∧ B E u t ∧ va_F A st t
section Runs
variable {p : Program} {l : Launch} {e : Env} {R : Room} {s : State} {m : MethodId} {args : Array Value} {below : List Frame} {meth : Method} {c : Code} {H : Heap} {locs : List Loc} {cells slots : Nat}
variable {y : MethodName} {bytes cc : ByteArray} {maxL nL mc ms n index : Nat} {ret : Option FieldType} {ws : List Cond} {rm : Room} {Pc : Array Value → State → Prop} {Qc : Array Value → State → Outcome → State → Prop} {XC : String → State → State → Prop} {free : Addr → Prop} {Ts : List Cond} {own C : String} {b : Addr} {As rest : List Value} {g : JFrame}
theorem vx_callBack (cb : CallB R s args own index y bytes maxL ret ws rm mc ms n) (hM : vx_Met l y ws rm Pc Qc XC mc ms free) (hbl : FrameBlind Pc) : vx_Back l R p e below s args y 3 8 (PreOf R mc ms Pc) (PostOf Qc mc ms free) (vx_Post XC mc ms free) := by
  obtain ⟨hrc, hrs, hfr, hlo, hws, hcw, -, hini, -⟩ := cb
  exact vx_back (bytes := bytes) (maxL := maxL) (ret := ret) hM hbl hrc hrs hfr hlo hws hcw (fun a' U hW => word_at hW (Or.inl (by first | rfl | simp [Cond.onTables, Cond.keeps, Cond.steady])) hini)
theorem vx_runV (S : CallFix p m c cc nL s args Ts own) (hM : vx_Met l y ws rm Pc Qc XC mc ms free) (cw : CallW R s args own C index y bytes maxL ret ws rm mc ms n) (hp : PreV s H C b Pc As)
    (hg : g.method = m) (hn : As.length = n) (hsize : g.locals.size = nL) (hstack : g.stack = As.reverse ++ .ref b :: rest) (hW : 2 * g.monitorRoom + (rest.map fun v => v.category).sum ≤ 8) (hdg : decode cc g.pc = .ok (.invokevirtual index, 3)) (hf : cells + mc ≤ R.cells ∧ slots + ms ≤ R.slots) :
    vx_Run p l e R s m args below meth c H locs cells slots mc ms g rest (Qc (Value.ref b :: As).toArray) XC free := by
  have hK : vx_Back l R p e below s args y 3 8 (PreOf R mc ms Pc) (PostOf Qc mc ms free) (vx_Post XC mc ms free) := vx_callBack cw.1 hM hp.1
  obtain ⟨⟨-, -, -, -, -, -, hcode, -, hy, hlen, hl⟩, hin, hse⟩ := cw
  obtain ⟨hx, hb, hml, ho, -⟩ := S
  obtain ⟨-, ⟨cellB, hcB, hoB, hclB⟩, hPc⟩ := hp
  intro T hT X
  rcases vx_callV X hx (C := C) (bytes := bytes) (maxL := maxL) (ret := ret) ho hl hin hse hcode hy hK (by rw [hT]; exact hcB) hoB hclB hg (hsize.trans hml.symm) (argsL := As) (rest := rest) (fun sig h => hn.trans (hlen sig h)) hstack hW (by rw [hb]; exact hdg)
    (fun vm₁ hW₁ => ⟨hf.1, hf.2, hPc (T.setVm vm₁) hT hW₁⟩) with ⟨v, vm₁, ⟨U', l2, c2, s2⟩, hW₁, X', ⟨g', mk, t, L, e1, e2, hq, h1, hL, h2, h3⟩, st⟩ | ⟨q, vm₁, ⟨U', l2, c2, s2⟩, hW₁, X', ⟨g', mk, t, L, E, ce, e1, e2, hq, hce, hcv, hcl, h1, hL, h2, h3⟩, st⟩
  · dsimp only [Pt.U, Pt.locs, Pt.cells, Pt.slots] at X' e1 e2 h1 h2 h3 st
    subst h1; subst h2; subst h3
    exact Or.inl ⟨v, (T.setVm vm₁).calling g' mk (Value.ref b :: As).toArray, t, U', L, hT, X', hL, e1, e2, hq, st⟩
  · dsimp only [Pt.U, Pt.locs, Pt.cells, Pt.slots] at X' e1 e2 h1 h2 h3 st hcl
    subst h1; subst h2; subst h3
    exact Or.inr ⟨q, (T.setVm vm₁).calling g' mk (Value.ref b :: As).toArray, t, U', L, E, ce, hT, X', hL, e1, e2, hq, hce, hcv, vx_cls hW₁ hcl, st⟩
theorem vx_runS (S : CallFix p m c cc nL s args Ts own) (hM : vx_Met l y ws rm Pc Qc XC mc ms free) (cw : CallB R s args own index y bytes maxL ret ws rm mc ms n ∧ (Cond.static y).before args s = true) (hp : PreS s H Pc As)
    (hg : g.method = m) (hn : As.length = n) (hsize : g.locals.size = nL) (hstack : g.stack = As.reverse ++ rest) (hW : 2 * g.monitorRoom + (rest.map fun v => v.category).sum ≤ 8) (hdg : decode cc g.pc = .ok (.invokestatic index, 3)) (hf : cells + mc ≤ R.cells ∧ slots + ms ≤ R.slots) :
    vx_Run p l e R s m args below meth c H locs cells slots mc ms g rest (Qc As.toArray) XC free := by
  have hK : vx_Back l R p e below s args y 3 8 (PreOf R mc ms Pc) (PostOf Qc mc ms free) (vx_Post XC mc ms free) := vx_callBack cw.1 hM hp.1
  obtain ⟨⟨-, -, -, -, -, -, hcode, hini, hy, hlen, hl⟩, hstt⟩ := cw
  obtain ⟨hx, hb, hml, ho, -⟩ := S
  intro T hT X
  rcases vx_callS X hx (bytes := bytes) (maxL := maxL) (ret := ret) ho hl hstt hini hcode hy hK hg (hsize.trans hml.symm) (argsL := As) (rest := rest) (fun sig h => hn.trans (hlen sig h)) hstack hW (by rw [hb]; exact hdg)
    (fun vm₁ hW₁ => ⟨hf.1, hf.2, hp.2 (T.setVm vm₁) hT hW₁⟩) with ⟨v, vm₁, ⟨U', l2, c2, s2⟩, hW₁, X', ⟨g', mk, t, L, e1, e2, hq, h1, hL, h2, h3⟩, st⟩ | ⟨q, vm₁, ⟨U', l2, c2, s2⟩, hW₁, X', ⟨g', mk, t, L, E, ce, e1, e2, hq, hce, hcv, hcl, h1, hL, h2, h3⟩, st⟩
  · dsimp only [Pt.U, Pt.locs, Pt.cells, Pt.slots] at X' e1 e2 h1 h2 h3 st
    subst h1; subst h2; subst h3
    exact Or.inl ⟨v, (T.setVm vm₁).calling g' mk As.toArray, t, U', L, hT, X', hL, e1, e2, hq, st⟩
  · dsimp only [Pt.U, Pt.locs, Pt.cells, Pt.slots] at X' e1 e2 h1 h2 h3 st hcl
    subst h1; subst h2; subst h3
    exact Or.inr ⟨q, (T.setVm vm₁).calling g' mk As.toArray, t, U', L, E, ce, hT, X', hL, e1, e2, hq, hce, hcv, vx_cls hW₁ hcl, st⟩
end Runs
section Rows
variable {p : Program} {l : Launch} {e : Env} {R : Room} {s : State} {m : MethodId} {args : Array Value} {below : List Frame} {meth : Method} {c : Code} {H : Heap} {locs : List Loc} {cells slots : Nat} {Q : State → Prop}
variable {mc ms : Nat} {free : Addr → Prop} {A0 A1 : Nat → Prop} {H0 : Heap} {a : Array Value} {pc : Nat} {ls : Array Slot} {st0 rest : List Value}
theorem vx_keep {st₀ t T' : State} {L : List Loc} (h0 : st₀.heap = H) (e1 : T'.heap = t.heap) (hS : va_S A0 H0 H locs) (hA : ∀ q, q < H.size → A1 q → A0 q) (hf : ∀ q, free q → A0 q) (hL : ∀ q ∈ L, free q.base) (hF : va_F A1 st₀ t) :
    H.size ≤ T'.heap.size ∧ (∀ q : Nat, q < H.size → ¬ A1 q → T'.heap[q]? = H[q]?) ∧ va_S A0 H0 T'.heap (locs ++ L) := by
  obtain ⟨hz, hk⟩ := hF
  rw [h0] at hz hk
  exact ⟨by rw [e1]; exact hz, fun q h1 h2 => by rw [e1]; exact hk q h1 h2,
    ⟨Nat.le_trans hS.1 (by rw [e1]; exact hz), fun q h1 h2 => by rw [e1, hk q (Nat.lt_of_lt_of_le h1 hS.1) (fun z => h2 (hA q (Nat.lt_of_lt_of_le h1 hS.1) z))]; exact hS.2.1 q h1 h2, fun q hq => by
      rcases List.mem_append.mp hq with h | h
      · exact hS.2.2 q h
      · exact hf _ (hL q h)⟩⟩
theorem vx_calli {S SX : Type} {post : Int32 → S → Prop} {px : SX → Prop} {B : S → State → Prop} {BX : String → SX → State → Prop} {AX : Nat → Prop} (hr : vx_Run p l e R s m args below meth c H locs cells slots mc ms (F0 m pc ls st0) rest (va_Qi post B A1 a) (vx_X px BX AX) free) (hS : va_S A0 H0 H locs) (hA : ∀ q, q < H.size → A1 q → A0 q) (hf : ∀ q, free q → A0 q) (hAX : ∀ q, q < H.size → AX q → A0 q)
    (kx : ∀ (E : String) (ce : Cell) (q9 : Addr) (u : SX) (t : State) (H1 : Heap) (locs1 : List Loc), t.heap = H1 → s.vm.Alike t.vm → px u → BX E u t → H.size ≤ H1.size → (∀ q : Nat, q < H.size → ¬ AX q → H1[q]? = H[q]?) → va_S A0 H0 H1 locs1 → H1[q9]? = some ce → ce.vm = .none → s.vm.findClass E = some ce.cls → vx_W p l e R s m args below meth c H1 locs1 (cells + mc) (slots + ms) Q (F0 m pc ls rest) q9)
    (kk : ∀ (r : Int32) (u : S) (t : State) (H1 : Heap) (locs1 : List Loc), t.heap = H1 → s.vm.Alike t.vm → post r u → B u t → H.size ≤ H1.size → (∀ q : Nat, q < H.size → ¬ A1 q → H1[q]? = H[q]?) → va_S A0 H0 H1 locs1 → W p l e R s m args below meth c H1 locs1 (cells + mc) (slots + ms) Q (F0 m (pc + 3) ls (.int r :: rest))) : W p l e R s m args below meth c H locs cells slots Q (F0 m pc ls st0) := by
  intro T hT X
  rcases hr T hT X with ⟨v, st₀, t, T', L, h0, X', hL, e1, e2, ⟨⟨r, u, hv, hp, hb⟩, hF⟩, st⟩ | ⟨q, st₀, t, T', L, E, ce, h0, X', hL, e1, e2, ⟨u, hp, hb, hF⟩, hce, hcv, hcl, st⟩
  · cases hv
    obtain ⟨k1, k2, k3⟩ := vx_keep h0 e1 hS hA hf hL hF
    obtain ⟨t2, a1, b1⟩ := kk r u t T'.heap (locs ++ L) e1.symm (by rw [← e2]; exact X'.warmed.alike) hp hb k1 k2 k3 T' rfl X'
    exact ⟨t2, st t2 a1, b1⟩
  · obtain ⟨k1, k2, k3⟩ := vx_keep h0 e1 hS hAX hf hL hF
    obtain ⟨t2, a1, b1⟩ := kx E ce q u t T'.heap (locs ++ L) e1.symm (by rw [← e2]; exact X'.warmed.alike) hp hb k1 k2 k3 (by rw [e1]; exact hce) hcv hcl T' rfl X'
    exact ⟨t2, st.trans a1, b1⟩
theorem vx_calll {S SX : Type} {post : Int64 → S → Prop} {px : SX → Prop} {B : S → State → Prop} {BX : String → SX → State → Prop} {AX : Nat → Prop} (hr : vx_Run p l e R s m args below meth c H locs cells slots mc ms (F0 m pc ls st0) rest (va_Ql post B A1 a) (vx_X px BX AX) free) (hS : va_S A0 H0 H locs) (hA : ∀ q, q < H.size → A1 q → A0 q) (hf : ∀ q, free q → A0 q) (hAX : ∀ q, q < H.size → AX q → A0 q)
    (kx : ∀ (E : String) (ce : Cell) (q9 : Addr) (u : SX) (t : State) (H1 : Heap) (locs1 : List Loc), t.heap = H1 → s.vm.Alike t.vm → px u → BX E u t → H.size ≤ H1.size → (∀ q : Nat, q < H.size → ¬ AX q → H1[q]? = H[q]?) → va_S A0 H0 H1 locs1 → H1[q9]? = some ce → ce.vm = .none → s.vm.findClass E = some ce.cls → vx_W p l e R s m args below meth c H1 locs1 (cells + mc) (slots + ms) Q (F0 m pc ls rest) q9)
    (kk : ∀ (r : Int64) (u : S) (t : State) (H1 : Heap) (locs1 : List Loc), t.heap = H1 → s.vm.Alike t.vm → post r u → B u t → H.size ≤ H1.size → (∀ q : Nat, q < H.size → ¬ A1 q → H1[q]? = H[q]?) → va_S A0 H0 H1 locs1 → W p l e R s m args below meth c H1 locs1 (cells + mc) (slots + ms) Q (F0 m (pc + 3) ls (.long r :: rest))) : W p l e R s m args below meth c H locs cells slots Q (F0 m pc ls st0) := by
  intro T hT X
  rcases hr T hT X with ⟨v, st₀, t, T', L, h0, X', hL, e1, e2, ⟨⟨r, u, hv, hp, hb⟩, hF⟩, st⟩ | ⟨q, st₀, t, T', L, E, ce, h0, X', hL, e1, e2, ⟨u, hp, hb, hF⟩, hce, hcv, hcl, st⟩
  · cases hv
    obtain ⟨k1, k2, k3⟩ := vx_keep h0 e1 hS hA hf hL hF
    obtain ⟨t2, a1, b1⟩ := kk r u t T'.heap (locs ++ L) e1.symm (by rw [← e2]; exact X'.warmed.alike) hp hb k1 k2 k3 T' rfl X'
    exact ⟨t2, st t2 a1, b1⟩
  · obtain ⟨k1, k2, k3⟩ := vx_keep h0 e1 hS hAX hf hL hF
    obtain ⟨t2, a1, b1⟩ := kx E ce q u t T'.heap (locs ++ L) e1.symm (by rw [← e2]; exact X'.warmed.alike) hp hb k1 k2 k3 (by rw [e1]; exact hce) hcv hcl T' rfl X'
    exact ⟨t2, st.trans a1, b1⟩
theorem vx_callf {S SX : Type} {post : UInt32 → S → Prop} {px : SX → Prop} {B : S → State → Prop} {BX : String → SX → State → Prop} {AX : Nat → Prop} (hr : vx_Run p l e R s m args below meth c H locs cells slots mc ms (F0 m pc ls st0) rest (va_Qf post B A1 a) (vx_X px BX AX) free) (hS : va_S A0 H0 H locs) (hA : ∀ q, q < H.size → A1 q → A0 q) (hf : ∀ q, free q → A0 q) (hAX : ∀ q, q < H.size → AX q → A0 q)
    (kx : ∀ (E : String) (ce : Cell) (q9 : Addr) (u : SX) (t : State) (H1 : Heap) (locs1 : List Loc), t.heap = H1 → s.vm.Alike t.vm → px u → BX E u t → H.size ≤ H1.size → (∀ q : Nat, q < H.size → ¬ AX q → H1[q]? = H[q]?) → va_S A0 H0 H1 locs1 → H1[q9]? = some ce → ce.vm = .none → s.vm.findClass E = some ce.cls → vx_W p l e R s m args below meth c H1 locs1 (cells + mc) (slots + ms) Q (F0 m pc ls rest) q9)
    (kk : ∀ (r : UInt32) (u : S) (t : State) (H1 : Heap) (locs1 : List Loc), t.heap = H1 → s.vm.Alike t.vm → post r u → B u t → H.size ≤ H1.size → (∀ q : Nat, q < H.size → ¬ A1 q → H1[q]? = H[q]?) → va_S A0 H0 H1 locs1 → W p l e R s m args below meth c H1 locs1 (cells + mc) (slots + ms) Q (F0 m (pc + 3) ls (.float r :: rest))) : W p l e R s m args below meth c H locs cells slots Q (F0 m pc ls st0) := by
  intro T hT X
  rcases hr T hT X with ⟨v, st₀, t, T', L, h0, X', hL, e1, e2, ⟨⟨r, u, hv, hp, hb⟩, hF⟩, st⟩ | ⟨q, st₀, t, T', L, E, ce, h0, X', hL, e1, e2, ⟨u, hp, hb, hF⟩, hce, hcv, hcl, st⟩
  · cases hv
    obtain ⟨k1, k2, k3⟩ := vx_keep h0 e1 hS hA hf hL hF
    obtain ⟨t2, a1, b1⟩ := kk r u t T'.heap (locs ++ L) e1.symm (by rw [← e2]; exact X'.warmed.alike) hp hb k1 k2 k3 T' rfl X'
    exact ⟨t2, st t2 a1, b1⟩
  · obtain ⟨k1, k2, k3⟩ := vx_keep h0 e1 hS hAX hf hL hF
    obtain ⟨t2, a1, b1⟩ := kx E ce q u t T'.heap (locs ++ L) e1.symm (by rw [← e2]; exact X'.warmed.alike) hp hb k1 k2 k3 (by rw [e1]; exact hce) hcv hcl T' rfl X'
    exact ⟨t2, st.trans a1, b1⟩
theorem vx_calld {S SX : Type} {post : UInt64 → S → Prop} {px : SX → Prop} {B : S → State → Prop} {BX : String → SX → State → Prop} {AX : Nat → Prop} (hr : vx_Run p l e R s m args below meth c H locs cells slots mc ms (F0 m pc ls st0) rest (va_Qd post B A1 a) (vx_X px BX AX) free) (hS : va_S A0 H0 H locs) (hA : ∀ q, q < H.size → A1 q → A0 q) (hf : ∀ q, free q → A0 q) (hAX : ∀ q, q < H.size → AX q → A0 q)
    (kx : ∀ (E : String) (ce : Cell) (q9 : Addr) (u : SX) (t : State) (H1 : Heap) (locs1 : List Loc), t.heap = H1 → s.vm.Alike t.vm → px u → BX E u t → H.size ≤ H1.size → (∀ q : Nat, q < H.size → ¬ AX q → H1[q]? = H[q]?) → va_S A0 H0 H1 locs1 → H1[q9]? = some ce → ce.vm = .none → s.vm.findClass E = some ce.cls → vx_W p l e R s m args below meth c H1 locs1 (cells + mc) (slots + ms) Q (F0 m pc ls rest) q9)
    (kk : ∀ (r : UInt64) (u : S) (t : State) (H1 : Heap) (locs1 : List Loc), t.heap = H1 → s.vm.Alike t.vm → post r u → B u t → H.size ≤ H1.size → (∀ q : Nat, q < H.size → ¬ A1 q → H1[q]? = H[q]?) → va_S A0 H0 H1 locs1 → W p l e R s m args below meth c H1 locs1 (cells + mc) (slots + ms) Q (F0 m (pc + 3) ls (.double r :: rest))) : W p l e R s m args below meth c H locs cells slots Q (F0 m pc ls st0) := by
  intro T hT X
  rcases hr T hT X with ⟨v, st₀, t, T', L, h0, X', hL, e1, e2, ⟨⟨r, u, hv, hp, hb⟩, hF⟩, st⟩ | ⟨q, st₀, t, T', L, E, ce, h0, X', hL, e1, e2, ⟨u, hp, hb, hF⟩, hce, hcv, hcl, st⟩
  · cases hv
    obtain ⟨k1, k2, k3⟩ := vx_keep h0 e1 hS hA hf hL hF
    obtain ⟨t2, a1, b1⟩ := kk r u t T'.heap (locs ++ L) e1.symm (by rw [← e2]; exact X'.warmed.alike) hp hb k1 k2 k3 T' rfl X'
    exact ⟨t2, st t2 a1, b1⟩
  · obtain ⟨k1, k2, k3⟩ := vx_keep h0 e1 hS hAX hf hL hF
    obtain ⟨t2, a1, b1⟩ := kx E ce q u t T'.heap (locs ++ L) e1.symm (by rw [← e2]; exact X'.warmed.alike) hp hb k1 k2 k3 (by rw [e1]; exact hce) hcv hcl T' rfl X'
    exact ⟨t2, st.trans a1, b1⟩
theorem vx_callv {S SX : Type} {post : S → Prop} {px : SX → Prop} {B : S → State → Prop} {BX : String → SX → State → Prop} {AX : Nat → Prop} (hr : vx_Run p l e R s m args below meth c H locs cells slots mc ms (F0 m pc ls st0) rest (va_Qv post B A1 a) (vx_X px BX AX) free) (hS : va_S A0 H0 H locs) (hA : ∀ q, q < H.size → A1 q → A0 q) (hf : ∀ q, free q → A0 q) (hAX : ∀ q, q < H.size → AX q → A0 q)
    (kx : ∀ (E : String) (ce : Cell) (q9 : Addr) (u : SX) (t : State) (H1 : Heap) (locs1 : List Loc), t.heap = H1 → s.vm.Alike t.vm → px u → BX E u t → H.size ≤ H1.size → (∀ q : Nat, q < H.size → ¬ AX q → H1[q]? = H[q]?) → va_S A0 H0 H1 locs1 → H1[q9]? = some ce → ce.vm = .none → s.vm.findClass E = some ce.cls → vx_W p l e R s m args below meth c H1 locs1 (cells + mc) (slots + ms) Q (F0 m pc ls rest) q9)
    (kk : ∀ (u : S) (t : State) (H1 : Heap) (locs1 : List Loc), t.heap = H1 → s.vm.Alike t.vm → post u → B u t → H.size ≤ H1.size → (∀ q : Nat, q < H.size → ¬ A1 q → H1[q]? = H[q]?) → va_S A0 H0 H1 locs1 → W p l e R s m args below meth c H1 locs1 (cells + mc) (slots + ms) Q (F0 m (pc + 3) ls (rest))) : W p l e R s m args below meth c H locs cells slots Q (F0 m pc ls st0) := by
  intro T hT X
  rcases hr T hT X with ⟨v, st₀, t, T', L, h0, X', hL, e1, e2, ⟨⟨u, hv, hp, hb⟩, hF⟩, st⟩ | ⟨q, st₀, t, T', L, E, ce, h0, X', hL, e1, e2, ⟨u, hp, hb, hF⟩, hce, hcv, hcl, st⟩
  · cases hv
    obtain ⟨k1, k2, k3⟩ := vx_keep h0 e1 hS hA hf hL hF
    obtain ⟨t2, a1, b1⟩ := kk u t T'.heap (locs ++ L) e1.symm (by rw [← e2]; exact X'.warmed.alike) hp hb k1 k2 k3 T' rfl X'
    exact ⟨t2, st t2 a1, b1⟩
  · obtain ⟨k1, k2, k3⟩ := vx_keep h0 e1 hS hAX hf hL hF
    obtain ⟨t2, a1, b1⟩ := kx E ce q u t T'.heap (locs ++ L) e1.symm (by rw [← e2]; exact X'.warmed.alike) hp hb k1 k2 k3 (by rw [e1]; exact hce) hcv hcl T' rfl X'
    exact ⟨t2, st.trans a1, b1⟩
/-- caught by the row x of this method's table; the rows ahead don't take it -/
theorem vx_catch {own name : String} {E : String} {ce : Cell} {q : Addr} (hown : s.vm.findClass own = some m.cls) (pre : List ExceptionTableEntry) (x : ExceptionTableEntry) (suf : List ExceptionTableEntry) (hsplit : c.exceptionTable.toList = pre ++ x :: suf)
    (hpass : ∀ z ∈ pre, covers z pc = false ∨ (z.catchType ≠ 0 ∧ ∃ nm : String, (Cond.classLink own z.catchType nm).before args s = true ∧ va_Nc E nm s)) (hx : covers x pc = true) (h0 : x.catchType ≠ 0)
    (hlink : (Cond.classLink own x.catchType name).before args s = true) (hcast : (Cond.castable E name).before args s = true) (hcell : H[q]? = some ce) (hv : ce.vm = .none) (hcl : s.vm.findClass E = some ce.cls)
    (kk : W p l e R s m args below meth c H locs cells slots Q (F0 m x.handlerPc ls [.ref q])) : vx_W p l e R s m args below meth c H locs cells slots Q (F0 m pc ls rest) q := by
  intro T hT X
  have hpl : e.platform.magicAccessors = ({} : Platform).magicAccessors := by rw [X.admits.platform]
  obtain ⟨c3, c4, hc3, hc4, hasg⟩ := Cond.castable_spec hcast
  cases Option.some.inj (hc3.symm.trans hcl)
  obtain ⟨c5, hc5, hcl5⟩ := Cond.classLink_spec hown hlink e.platform hpl
  cases Option.some.inj (hc4.symm.trans hc5)
  obtain ⟨vm', X', st⟩ := X.thenCaughtThrough q (g := F0 m pc ls rest) rfl (Steps.refl _) (by rw [hT]; exact hcell) (by rw [hv]; rfl) (by obtain ⟨k9, h9, -⟩ := Vm.findClass_spec hcl; exact ⟨k9, h9⟩) pre x suf hsplit
    (fun z hz => by
      rcases hpass z hz with h | ⟨hz0, nm, hl1, hn1⟩
      · exact Or.inl h
      · obtain ⟨c6, hc6, hcl6⟩ := Cond.classLink_spec hown hl1 e.platform hpl
        obtain ⟨a8, b8, h1, h2, h3⟩ := hn1
        cases Option.some.inj (h1.symm.trans hcl)
        cases Option.some.inj (h2.symm.trans hc6)
        exact Or.inr ⟨hz0, _, hcl6, h3⟩) hx (Or.inr ⟨h0, c4, hcl5, hasg⟩)
  obtain ⟨t, a1, b1⟩ := kk (T.setVm vm') hT X'
  exact ⟨t, st.trans a1, b1⟩
end Rows
section Ends
variable {p : Program} {l : Launch} {e : Env} {R : Room} {s : State} {m : MethodId} {args : Array Value} {below : List Frame} {meth : Method} {c : Code} {H : Heap} {locs : List Loc} {cells slots : Nat} {Q : State → Prop}
variable {mc ms : Nat} {free : Addr → Prop} {A0 A1 : Nat → Prop} {H0 : Heap} {a : Array Value} {ls : Array Slot} {st0 rest : List Value}
variable {Qc : Array Value → State → Outcome → State → Prop} {XC : String → State → State → Prop}
/-- what a body that may throw owes at its end -/
def vx_MQ (below : List Frame) (Qc : Array Value → State → Outcome → State → Prop) (XC : String → State → State → Prop) (a : Array Value) (s : State) (mc ms : Nat) (free : Addr → Prop) : State → Prop := fun t =>
  ∃ o, t.status = .running ∧ Ended t below o ∧ vx_Q Qc XC mc ms free a s o t
theorem vx_ret {g : JFrame} {mc ms : Nat} (k : W p l e R s m args below meth c H locs cells slots (MQ below Qc args s mc ms free) g) : W p l e R s m args below meth c H locs cells slots (vx_MQ below Qc XC args s mc ms free) g := by
  intro T hT X
  obtain ⟨t, a1, o, b1, b2, b3, b4⟩ := k T hT X
  exact ⟨t, a1, o, b1, b2, Or.inl ⟨b3, b4⟩⟩
/-- not caught here: it goes on to the caller -/
theorem vx_widen {g : JFrame} {q : Addr} {k n : Nat} (h1 : cells ≤ k) (h2 : slots ≤ n) (kk : vx_W p l e R s m args below meth c H locs k n Q g q) : vx_W p l e R s m args below meth c H locs cells slots Q g q := fun T hT X => kk T hT (stand_widen X h1 h2)
theorem vx_out {pc : Nat} {E : String} {ce : Cell} {q : Addr} {mc ms : Nat} (hout : ∀ x ∈ c.exceptionTable.toList, covers x pc = false) (hlocks : meth.locks = false) (hcell : H[q]? = some ce) (hv : ce.vm = .none) (hcl : s.vm.findClass E = some ce.cls)
    (hx : ∀ t : State, t.heap = H → s.vm.Alike t.vm → XC E s t) (hf : ∀ z ∈ locs, free z.base) (hc : cells ≤ mc) (hs : slots ≤ ms) :
    vx_W p l e R s m args below meth c H locs cells slots (vx_MQ below Qc XC args s mc ms free) (F0 m pc ls rest) q := by
  intro T hT X
  obtain ⟨st1, hrun, hend, hW, hsm⟩ := X.leaveThrown q (g := F0 m pc ls rest) rfl rfl rfl hout hlocks
  have hcell9 : (T.setFrames (.throwing q :: below)).heap[q]? = some ce := by
    show T.heap[q]? = some ce
    rw [hT]; exact hcell
  exact ⟨_, st1, .threw q, hrun, hend, Or.inr ⟨q, rfl, E, ce, locs, hx _ hT hW.alike, hcell9, hv, hcl, hW, hsm.mono hc hs, hf⟩⟩
theorem vx_frame {U : State} {k n : Nat} (h : s.sameButNew ({ U with vm := s.vm } : State) locs k n) : s.heap.size ≤ U.heap.size ∧ ∀ q : Nat, q < s.heap.size → (∀ z ∈ locs, z.base ≠ q) → U.heap[q]? = s.heap[q]? := by
  obtain ⟨-, h2, -, -, -, h6⟩ := h
  refine ⟨h2, fun q hq hz => ?_⟩
  obtain ⟨c9, e1, e2, e3, e4⟩ := h6 q _ (Array.getElem?_eq_getElem hq)
  have hs : c9.slots = (s.heap[q]).slots := Array.ext_getElem? fun i => e4 i fun hm => hz _ hm rfl
  have h9 : c9 = s.heap[q] := by
    rw [hs] at e2
    exact e2
  have e5 : U.heap[q]? = some c9 := e1
  rw [e5, h9, Array.getElem?_eq_getElem hq]
/-- the words of a throw but the four that speak of the heap -/
def vx_no (w : Cond) : Bool := decide (w ≠ .isRef (.static Bundle.tN "UNASSIGNED_STACK" Bundle.steD)) && decide (w ≠ .isRef (.static Bundle.tN "SUPPRESSED_SENTINEL" Bundle.listD)) && decide (w ≠ .laysStatic Bundle.tN "UNASSIGNED_STACK" Bundle.steD) && decide (w ≠ .laysStatic Bundle.tN "SUPPRESSED_SENTINEL" Bundle.listD)
def vx_at0 (own : String) (ic : Nat) (X : String) (names : List String) : List Cond := (Bundle.ownAtoms0 own ic X names).filter vx_no
def vx_atS (own : String) (ic : Nat) (X : String) (names : List String) : List Cond := (Bundle.ownAtoms own ic X names).filter vx_no
/-- a word that the tables alone decide, or a good one -/
def vx_ot (w : Cond) : Bool := w.onTables || goodWord w
theorem vx_ot_at {args a' : Array Value} {s U : State} {w : Cond} (hW : s.WarmedH U.vm) (hvm : s.vm = U.vm) (hg : vx_ot w = true) (h : w.before args s = true) : w.before a' U = true := by
  simp only [vx_ot, Bool.or_eq_true] at hg
  rcases hg with hg | hg
  · exact va_tabs hg hvm h
  · exact word_at hW (good_of_word hg) h
/-- a list's words: the good ones out of the method's own list, the others by premises of their own -/
theorem vx_hat {args : Array Value} {s : State} {L B : List Cond} (h1 : ∀ w ∈ L.filter goodWord, w.before args s = true) (h2 : ∀ w ∈ L.filter (fun w => !goodWord w), w ∈ B) (h3 : ∀ w ∈ B, w.before args s = true) : ∀ w ∈ L, w.before args s = true := by
  intro w hw
  by_cases g : goodWord w = true
  · exact h1 w (List.mem_filter.mpr ⟨hw, g⟩)
  · refine h3 w (h2 w (List.mem_filter.mpr ⟨hw, ?_⟩))
    show (!goodWord w) = true
    cases hgw : goodWord w
    · rfl
    · exact absurd hgw g
theorem vx_c {args : Array Value} {s : State} {w : Cond} {B : List Cond} (h : w.before args s = true) (t : ∀ w ∈ B, w.before args s = true) : ∀ w' ∈ w :: B, w'.before args s = true := fun w' h' => (List.mem_cons.mp h').elim (fun e => by rw [e]; exact h) (t w')
theorem vx_n {args : Array Value} {s : State} : ∀ w ∈ ([] : List Cond), w.before args s = true := fun _ h => nomatch h
theorem vx_own {args : Array Value} {s : State} {L : List Cond} (h1 : ∀ w ∈ L.filter vx_no, w.before args s = true)
    (hU : (Cond.isRef (.static Bundle.tN "UNASSIGNED_STACK" Bundle.steD)).before args s = true) (hN : (Cond.isRef (.static Bundle.tN "SUPPRESSED_SENTINEL" Bundle.listD)).before args s = true)
    (lU : (Cond.laysStatic Bundle.tN "UNASSIGNED_STACK" Bundle.steD).before args s = true) (lN : (Cond.laysStatic Bundle.tN "SUPPRESSED_SENTINEL" Bundle.listD).before args s = true) : ∀ w ∈ L, w.before args s = true := by
  intro w hw
  by_cases e1 : w = .isRef (.static Bundle.tN "UNASSIGNED_STACK" Bundle.steD)
  · rw [e1]; exact hU
  · by_cases e2 : w = .isRef (.static Bundle.tN "SUPPRESSED_SENTINEL" Bundle.listD)
    · rw [e2]; exact hN
    · by_cases e3 : w = .laysStatic Bundle.tN "UNASSIGNED_STACK" Bundle.steD
      · rw [e3]; exact lU
      · by_cases e4 : w = .laysStatic Bundle.tN "SUPPRESSED_SENTINEL" Bundle.listD
        · rw [e4]; exact lN
        · exact h1 w (List.mem_filter.mpr ⟨hw, by unfold vx_no; rw [decide_eq_true e1, decide_eq_true e2, decide_eq_true e3, decide_eq_true e4]; rfl⟩)
/-- where a static field lies, its class's statics cell in H -/
def vx_L (C n d : String) (A : Nat → Prop) (U : State) (H : Heap) : Prop := ∃ (c : ClassId) (k : Class) (i : Nat) (f : Field) (a : Nat) (cell : Cell), U.vm.findClass C = some c ∧ U.fieldFound? C n d = some (c, k, i, f) ∧ f.isStatic = true ∧ k.statics = some a ∧ H[a]? = some cell ∧ cell.vm.isStatics = true ∧ cell.cls = c ∧ f.slot < cell.slots.size ∧ k.staticTypes[f.slot]? = some f.type ∧ ¬ A a
theorem vx_L.moved {C n d : String} {A : Nat → Prop} {u U : State} {H : Heap} (hvm : u.vm.Alike U.vm) (h : vx_L C n d A u H) : vx_L C n d A U H := by
  obtain ⟨c, k, i, f, a, cell, h1, h2, h3, h4, h5, h6, h7, h8, h9, h10⟩ := h
  obtain ⟨k', hi', he⟩ := State.fieldFound?_setVm hvm h2
  exact ⟨c, k', i, f, a, cell, by rw [hvm.findClass]; exact h1, hi', h3, by rw [he]; exact h4, h5, h6, h7, h8, by rw [he]; exact h9, h10⟩
theorem vx_L.kept {C n d : String} {A : Nat → Prop} {U : State} {H H1 : Heap} (h : vx_L C n d A U H) (hq : ∀ a : Nat, a < H.size → ¬ A a → H1[a]? = H[a]?) : vx_L C n d A U H1 := by
  obtain ⟨c, k, i, f, a, cell, h1, h2, h3, h4, h5, h6, h7, h8, h9, h10⟩ := h
  exact ⟨c, k, i, f, a, cell, h1, h2, h3, h4, by rw [hq a (Array.getElem?_eq_some_iff.mp h5).1 h10]; exact h5, h6, h7, h8, h9, h10⟩
theorem vx_L.narrow {C n d : String} {A B : Nat → Prop} {U : State} {H : Heap} (h : vx_L C n d A U H) (hAB : ∀ q, B q → A q) : vx_L C n d B U H := by
  obtain ⟨c, k, i, f, a, cell, h1, h2, h3, h4, h5, h6, h7, h8, h9, h10⟩ := h
  exact ⟨c, k, i, f, a, cell, h1, h2, h3, h4, h5, h6, h7, h8, h9, fun z => h10 (hAB _ z)⟩
theorem vx_L.word {C n d : String} {A : Nat → Prop} {s : State} {args : Array Value} (h : vx_L C n d A s s.heap) : (Cond.laysStatic C n d).before args s = true := by
  obtain ⟨c, k, i, f, a, cell, h1, h2, h3, h4, h5, h6, h7, h8, h9, -⟩ := h
  show (Cond.laysStatic C n d).holds args s none s [] = true
  exact Cond.laysStatic_of h1 h2 h3 h4 h5 h6 h7 h8 h9
/-- .. and what it holds: null or some reference -/
def vx_Zq (C n d : String) (A : Nat → Prop) (U : State) (H : Heap) : Prop := va_Zq C n d A U H ∧ vx_L C n d A U H
theorem vx_Zq.moved {C n d : String} {A : Nat → Prop} {u U : State} {H : Heap} (hvm : u.vm.Alike U.vm) (h : vx_Zq C n d A u H) : vx_Zq C n d A U H := ⟨va_Zq.moved hvm h.1, vx_L.moved hvm h.2⟩
theorem vx_Zq.kept {C n d : String} {A : Nat → Prop} {U : State} {H H1 : Heap} (h : vx_Zq C n d A U H) (hq : ∀ a : Nat, a < H.size → ¬ A a → H1[a]? = H[a]?) : vx_Zq C n d A U H1 := ⟨va_Zq.kept h.1 hq, vx_L.kept h.2 hq⟩
theorem vx_Zq.narrow {C n d : String} {A B : Nat → Prop} {U : State} {H : Heap} (h : vx_Zq C n d A U H) (hAB : ∀ q, B q → A q) : vx_Zq C n d B U H := ⟨va_Zq.narrow h.1 hAB, vx_L.narrow h.2 hAB⟩
theorem vx_Zqof {args : Array Value} {s : State} {C n d : String} {A : Nat → Prop} (hl : (Cond.laysStatic C n d).before args s = true) (hini : (Cond.initialized C).before args s = true) (h : (Cond.isRef (.static C n d)).before args s = true) (hA : ∀ a : Nat, a < s.heap.size → ¬ A a) : vx_Zq C n d A s s.heap := by
  refine ⟨va_Zqof hl hini h hA, ?_⟩
  obtain ⟨c, k, i, f, a, cell, h1, h2, h3, h4, h5, h6, h7, h8, h9⟩ := Cond.laysStatic_spec hl
  exact ⟨c, k, i, f, a, cell, h1, h2, h3, h4, h5, h6, h7, h8, h9, hA a (Array.getElem?_eq_some_iff.mp h5).1⟩
theorem vx_isRef {C n d : String} {v : Value} {A : Nat → Prop} {s : State} {args : Array Value} (h : va_Z C n d v A s s.heap) (hv : v.isRef = true) : (Cond.isRef (.static C n d)).before args s = true := by
  obtain ⟨cf, kf, fi, f, a, cell, h1, h2, h3, h4, h5, h6, h7, -⟩ := h
  have he : (Term.static C n d).eval args s none [] s = some v := by
    simp [Term.eval, State.fieldNamed?, h1, h2, h4, h5, h6, h7]
  simp only [Cond.before, Cond.holds, Cond.value, he]
  cases v <;> simp_all [Value.isRef]
theorem vx_isRefq {C n d : String} {A : Nat → Prop} {s : State} {args : Array Value} (h : va_Zq C n d A s s.heap) : (Cond.isRef (.static C n d)).before args s = true := by
  rcases h with h | ⟨t, h⟩
  · exact vx_isRef h rfl
  · exact vx_isRef h rfl
/-- the same frame, seen from here: as if the method were called anew in this heap -/
theorem vx_rebase {T : State} (X : Stand p l e R s m args below meth c T locs cells slots) {R' : Room} (hf : R'.frames ≤ R.frames) (hl : R'.locals ≤ R.locals) (hc : cells + R'.cells ≤ R.cells) (hs : slots + R'.slots ≤ R.slots) :
    Stand p l e R' ((T.setVm s.vm).setFrames (.invoking m args :: below)) m args below meth c T [] 0 0 := by
  have htop : (T.setVm s.vm).topJava?.isSome := X.here.top
  have hF : ((T.setVm s.vm).setFrames (.invoking m args :: below)).frames = .invoking m args :: below := State.frames_setFrames _ (State.cur_lt_of_top htop)
  obtain ⟨g₀, hg0⟩ := Option.isSome_iff_exists.mp htop
  obtain ⟨r, hr⟩ := State.topJava?_eq_some.mp hg0
  have hl9 : e.platform.stackLimits (T.setVm s.vm).me = e.platform.stackLimits s.me := X.limits
  have hb9 : (T.setVm s.vm).me.stackBytes = s.me.stackBytes := X.bytes
  refine ⟨X.admits, X.cas, X.clock, hF, ?_, X.hears, X.method, X.code, X.here, X.tail, X.warmed, ?_, ?_, ?_⟩
  · have h := X.room
    have hU : ((T.setVm s.vm).setFrames (.invoking m args :: below)).localsInUse = s.localsInUse := by
      rw [State.localsInUse_invoking hF (meth := meth) (c := c) X.method X.code, State.localsInUse_invoking X.frames X.method X.code]
    simp only [State.hasRoom, Bool.and_eq_true, decide_eq_true_eq] at h ⊢
    obtain ⟨⟨⟨⟨h1, h2, h3, h4, h5, h6⟩, h7⟩, h8⟩, h9⟩ := h
    rw [X.frames, List.length_cons] at h2 h3
    have q1 := X.heapSize
    have q2 := X.used
    simp only [hF, hU, List.length_cons, State.stackLimits_setFrames, State.stackBytes_setFrames, hl9, hb9]
    refine ⟨⟨⟨⟨by omega, by omega, by omega, by omega, by omega, h6⟩, ?_⟩, ?_⟩, X.book⟩
    · show T.heap.size + R'.cells ≤ e.platform.maxCells
      omega
    · show T.slotsUsed + R'.slots ≤ e.platform.maxSlots
      omega
  · rw [State.stackLimits_setFrames]; rfl
  · rw [State.stackBytes_setFrames]; rfl
  · refine ⟨?_, Nat.le_refl _, Nat.le_refl _, ?_, ?_, fun a c9 h9 => ⟨c9, h9, rfl, rfl, fun _ _ => rfl⟩⟩
    · obtain ⟨t, ht, -⟩ := State.frames_cons hr
      show T.setVm s.vm = { ((T.setVm s.vm).setFrames (.invoking m args :: below)).setFrames (T.setVm s.vm).frames with heap := T.heap, slotsUsed := T.slotsUsed }
      rw [State.setFrames_setFrames, State.setFrames_self ht]
      rfl
    · show T.slotsUsed = T.slotsUsed + ((T.heap.toList.drop T.heap.size).map (·.slots.size)).sum
      rw [List.drop_eq_nil_of_le (Nat.le_of_eq Array.length_toList)]
      rfl
    · show ((T.heap.toList.drop T.heap.size).map (·.slots.size)).sum ≤ 0
      rw [List.drop_eq_nil_of_le (Nat.le_of_eq Array.length_toList)]
      exact Nat.le_refl _
/-- 'throw new E()': new; dup; invokespecial; athrow -/
theorem vx_throw0 {cc : ByteArray} {pc : Nat} (hexec : p.tables.exec = Jvm.exec) (hb : c.code = cc) (hl : l.stackTraces = false) {own cls : String} {names : List String} {ik ic mc ms : Nat} {A : Nat → Prop}
    (hown : s.vm.findClass own = some m.cls) (hcls : Bundle.fit cls = true) (hnames : ∀ n ∈ names, Bundle.fit n = true)
    (hk : (Cond.classLink own ik cls).before args s = true) (hini : (Cond.initialized cls).before args s = true) (hat : ∀ w ∈ vx_at0 own ic cls names, w.before args s = true)
    (hgood : ∀ w ∈ Cond.classLink own ik cls :: Cond.initialized cls :: vx_at0 own ic cls names, vx_ot w = true)
    (hU : vx_Zq Bundle.tN "UNASSIGNED_STACK" Bundle.steD A s s.heap) (hN : vx_Zq Bundle.tN "SUPPRESSED_SENTINEL" Bundle.listD A s s.heap) (hS : va_S A s.heap H locs) (hsize : ls.size = c.maxLocals)
    (d0 : decode cc pc = .ok (.new ik, 3)) (d3 : decode cc (pc + 3) = .ok (.dup, 1)) (d4 : decode cc (pc + 4) = .ok (.invokespecial ic, 3)) (d7 : decode cc (pc + 7) = .ok (.athrow, 1))
    (hout : ∀ x ∈ c.exceptionTable.toList, covers x (pc + 7) = false)
    (hRframes : names.length + 3 < R.frames) (hRlocals : (rest.map fun v => v.category).sum + (13 * (names.length + 1) + 42) ≤ R.locals) (hRcells : cells + 1 ≤ R.cells) (hRslots : slots + 6 ≤ R.slots) (hlocks : meth.locks = false)
    (hx : ∀ t : State, s.vm.Alike t.vm → H.size ≤ t.heap.size → (∀ q : Nat, q < H.size → t.heap[q]? = H[q]?) → XC cls s t)
    (hf : ∀ z ∈ locs, free z.base) (hc : cells + 1 ≤ mc) (hs : slots + 6 ≤ ms) :
    W p l e R s m args below meth c H locs cells slots (vx_MQ below Qc XC args s mc ms free) (F0 m pc ls rest) := by
  intro T hT X
  have htr : e.platform.stackTraces = false := (show e.platform.stackTraces = l.stackTraces by rw [X.admits.platform]).trans hl
  have Y := vx_rebase X (R' := { frames := R.frames, locals := R.locals, cells := 1, slots := 6 }) (Nat.le_refl _) (Nat.le_refl _) hRcells hRslots
  obtain ⟨s', hA⟩ : ∃ z, z = (T.setVm s.vm).setFrames (.invoking m args :: below) := ⟨_, rfl⟩
  rw [← hA] at Y
  have hvm : s'.vm = s.vm := by rw [hA]; rfl
  have hhp : s'.heap = H := by rw [hA]; exact hT
  have hW0 : s.WarmedH s'.vm := by rw [hvm]; exact State.WarmedH.refl s
  have hat' : ∀ w ∈ vx_at0 own ic cls names, w.before args s' = true := fun w hw => vx_ot_at hW0 hvm.symm (hgood w (List.mem_cons_of_mem _ (List.mem_cons_of_mem _ hw))) (hat w hw)
  have hk' : (Cond.classLink own ik cls).before args s' = true := vx_ot_at hW0 hvm.symm (hgood _ List.mem_cons_self) hk
  have hini' : (Cond.initialized cls).before args s' = true := vx_ot_at hW0 hvm.symm (hgood _ (List.mem_cons_of_mem _ List.mem_cons_self)) hini
  have hU' : vx_Zq Bundle.tN "UNASSIGNED_STACK" Bundle.steD A s' s'.heap := by rw [hhp]; exact vx_Zq.moved hW0.alike (hU.kept hS.2.1)
  have hN' : vx_Zq Bundle.tN "SUPPRESSED_SENTINEL" Bundle.listD A s' s'.heap := by rw [hhp]; exact vx_Zq.moved hW0.alike (hN.kept hS.2.1)
  have h : ∀ w ∈ Bundle.ownAtoms0 own ic cls names, w.before args s' = true := vx_own hat' (vx_isRefq hU'.1) (vx_isRefq hN'.1) hU'.2.word hN'.2.word
  have hown' : s'.vm.findClass own = some m.cls := by rw [hvm]; exact hown
  have hins : (Cond.instantiable cls 6).before args s' = true := h _ (by simp [Bundle.ownAtoms0])
  obtain ⟨vm₁, cX, kX, hfX, hkX, -, -, X₁, st1⟩ := Y.newCold hexec (own := own) (C := cls) (index := ik) (n := 6) hown' hk' hins hini'
    (g := F0 m pc ls rest) rfl (by rw [hb]; exact d0) (Nat.le_refl _) (Nat.le_refl _)
  generalize hT1 : (T.setVm vm₁).pushCell { cls := cX, slots := kX.instanceTypes.map defaultValue, vm := .none } = T1 at X₁ st1
  have hcat : (Value.ref T.heap.size).category = 1 := rfl
  have hcellA : T1.heap[T.heap.size]? = some (freshCell cX kX) := by rw [← hT1]; exact State.heap_pushCell_size _ _
  have d3' : decode c.code (pc + 3) = .ok (.dup, 1) := by rw [hb]; exact d3
  obtain ⟨U, hsteps, hrun, hend, hW, hsame, ce, hce, hO⟩ := X₁.ctorThrow0 hexec htr (own := own) (cls := cls) (names := names) (ic := ic) hown' hcls hnames h (fun x hx => nomatch hx) hfX hkX hcellA (by rw [hhp, hT]; exact Nat.le_refl _)
    (g := { method := m, pc := pc + 4, locals := ls, stack := .ref T.heap.size :: .ref T.heap.size :: rest, locked := none }) rfl hsize rfl rfl (rest := rest) rfl
    (by rw [hb]; exact d4) (by rw [hb]; exact d7) hout hRframes (by simp only [List.map_cons, List.sum_cons, hcat]; omega) hlocks
  obtain ⟨f1, f2⟩ := vx_frame hsame
  rw [hhp] at f1 f2
  have hWs : s.WarmedH U.vm := State.WarmedH.trans hW0 hW
  have hcl : s.vm.findClass cls = some ce.cls := by
    have h9 := hO.cls
    rw [hvm] at h9
    exact h9
  have hall : s.sameButNew ({ U with vm := s.vm } : State) locs mc ms := by
    subst hA
    obtain ⟨e1, e2⟩ := hsame
    rw [State.setFrames_setFrames] at e1
    have h2 : (T.setVm s.vm).sameButNew ({ U with vm := s.vm } : State) [] (0 + 1) (0 + 6) := ⟨e1, e2⟩
    have h3 := X.same.trans h2
    rw [List.append_nil] at h3
    exact h3.mono hc hs
  refine ⟨U, ?_, .threw T.heap.size, hrun, hend, Or.inr ⟨T.heap.size, rfl, cls, ce, locs, hx U hWs.alike f1 (fun q hq => f2 q hq (fun z hz => nomatch hz)), hce, hO.vm, hcl, hWs, hall, hf⟩⟩
  refine st1 _ ?_
  show Steps p.tables e below (T1.setTop { method := m, pc := pc + 3, locals := ls, stack := .ref T.heap.size :: rest, locked := none }) _
  jvm_step X₁.here [X₁.here.top, hexec, d3', Value.category]
  exact hsteps
/-- 'throw new E("text")': new; dup; ldc; invokespecial; athrow -/
theorem vx_throwS {cc : ByteArray} {pc : Nat} (hexec : p.tables.exec = Jvm.exec) (hb : c.code = cc) (hl : l.stackTraces = false) {own cls text : String} {names : List String} {ik is ic mc ms sa : Nat} {A : Nat → Prop}
    (hown : s.vm.findClass own = some m.cls) (hcls : Bundle.fit cls = true) (hnames : ∀ n ∈ names, Bundle.fit n = true)
    (hk : (Cond.classLink own ik cls).before args s = true) (hini : (Cond.initialized cls).before args s = true) (hstr : vk_R own is text sa s) (hat : ∀ w ∈ vx_atS own ic cls names, w.before args s = true)
    (hgood : ∀ w ∈ Cond.classLink own ik cls :: Cond.initialized cls :: vx_atS own ic cls names, vx_ot w = true)
    (hU : vx_Zq Bundle.tN "UNASSIGNED_STACK" Bundle.steD A s s.heap) (hN : vx_Zq Bundle.tN "SUPPRESSED_SENTINEL" Bundle.listD A s s.heap) (hS : va_S A s.heap H locs) (hsize : ls.size = c.maxLocals)
    (d0 : decode cc pc = .ok (.new ik, 3)) (d3 : decode cc (pc + 3) = .ok (.dup, 1)) (d4 : decode cc (pc + 4) = .ok (.ldc is, 2)) (d6 : decode cc (pc + 6) = .ok (.invokespecial ic, 3)) (d9 : decode cc (pc + 9) = .ok (.athrow, 1))
    (hout : ∀ x ∈ c.exceptionTable.toList, covers x (pc + 9) = false)
    (hRframes : names.length + 3 < R.frames) (hRlocals : (rest.map fun v => v.category).sum + (13 * (names.length + 1) + 43) ≤ R.locals) (hRcells : cells + 1 ≤ R.cells) (hRslots : slots + 6 ≤ R.slots) (hlocks : meth.locks = false)
    (hx : ∀ t : State, s.vm.Alike t.vm → H.size ≤ t.heap.size → (∀ q : Nat, q < H.size → t.heap[q]? = H[q]?) → XC cls s t)
    (hf : ∀ z ∈ locs, free z.base) (hc : cells + 1 ≤ mc) (hs : slots + 6 ≤ ms) :
    W p l e R s m args below meth c H locs cells slots (vx_MQ below Qc XC args s mc ms free) (F0 m pc ls rest) := by
  intro T hT X
  have htr : e.platform.stackTraces = false := (show e.platform.stackTraces = l.stackTraces by rw [X.admits.platform]).trans hl
  have Y := vx_rebase X (R' := { frames := R.frames, locals := R.locals, cells := 1, slots := 6 }) (Nat.le_refl _) (Nat.le_refl _) hRcells hRslots
  obtain ⟨s', hA⟩ : ∃ z, z = (T.setVm s.vm).setFrames (.invoking m args :: below) := ⟨_, rfl⟩
  rw [← hA] at Y
  have hvm : s'.vm = s.vm := by rw [hA]; rfl
  have hhp : s'.heap = H := by rw [hA]; exact hT
  have hW0 : s.WarmedH s'.vm := by rw [hvm]; exact State.WarmedH.refl s
  have hat' : ∀ w ∈ vx_atS own ic cls names, w.before args s' = true := fun w hw => vx_ot_at hW0 hvm.symm (hgood w (List.mem_cons_of_mem _ (List.mem_cons_of_mem _ hw))) (hat w hw)
  have hk' : (Cond.classLink own ik cls).before args s' = true := vx_ot_at hW0 hvm.symm (hgood _ List.mem_cons_self) hk
  have hini' : (Cond.initialized cls).before args s' = true := vx_ot_at hW0 hvm.symm (hgood _ (List.mem_cons_of_mem _ List.mem_cons_self)) hini
  have hU' : vx_Zq Bundle.tN "UNASSIGNED_STACK" Bundle.steD A s' s'.heap := by rw [hhp]; exact vx_Zq.moved hW0.alike (hU.kept hS.2.1)
  have hN' : vx_Zq Bundle.tN "SUPPRESSED_SENTINEL" Bundle.listD A s' s'.heap := by rw [hhp]; exact vx_Zq.moved hW0.alike (hN.kept hS.2.1)
  have h : ∀ w ∈ Bundle.ownAtoms own ic cls names, w.before args s' = true := vx_own hat' (vx_isRefq hU'.1) (vx_isRefq hN'.1) hU'.2.word hN'.2.word
  have hown' : s'.vm.findClass own = some m.cls := by rw [hvm]; exact hown
  have hins : (Cond.instantiable cls 6).before args s' = true := h _ (by simp [Bundle.ownAtoms])
  obtain ⟨vm₁, cX, kX, hfX, hkX, -, -, X₁, st1⟩ := Y.newCold hexec (own := own) (C := cls) (index := ik) (n := 6) hown' hk' hins hini'
    (g := F0 m pc ls rest) rfl (by rw [hb]; exact d0) (Nat.le_refl _) (Nat.le_refl _)
  generalize hT1 : (T.setVm vm₁).pushCell { cls := cX, slots := kX.instanceTypes.map defaultValue, vm := .none } = T1 at X₁ st1
  have hcat : (Value.ref T.heap.size).category = 1 := rfl
  have hcellA : T1.heap[T.heap.size]? = some (freshCell cX kX) := by rw [← hT1]; exact State.heap_pushCell_size _ _
  have d3' : decode c.code (pc + 3) = .ok (.dup, 1) := by rw [hb]; exact d3
  have d4' : decode c.code (pc + 4) = .ok (.ldc is, 2) := by rw [hb]; exact d4
  have hstr' : vk_R own is text sa s' := vk_R.warm hW0 hstr
  obtain ⟨U, hsteps, hrun, hend, hW, hsame, ce, hce, hO⟩ := X₁.ctorThrowS hexec htr (own := own) (cls := cls) (names := names) (ic := ic) hown' hcls hnames h (fun x hx => nomatch hx) hfX hkX hcellA (by rw [hhp, hT]; exact Nat.le_refl _) (msg := .ref sa) rfl
    (g := { method := m, pc := pc + 6, locals := ls, stack := .ref sa :: .ref T.heap.size :: .ref T.heap.size :: rest, locked := none }) rfl hsize rfl rfl (rest := rest) rfl
    (by rw [hb]; exact d6) (by rw [hb]; exact d9) hout hRframes (by simp only [List.map_cons, List.sum_cons, hcat]; omega) hlocks
  obtain ⟨f1, f2⟩ := vx_frame hsame
  rw [hhp] at f1 f2
  have hWs : s.WarmedH U.vm := State.WarmedH.trans hW0 hW
  have hcl : s.vm.findClass cls = some ce.cls := by
    have h9 := hO.cls
    rw [hvm] at h9
    exact h9
  have hall : s.sameButNew ({ U with vm := s.vm } : State) locs mc ms := by
    subst hA
    obtain ⟨e1, e2⟩ := hsame
    rw [State.setFrames_setFrames] at e1
    have h2 : (T.setVm s.vm).sameButNew ({ U with vm := s.vm } : State) [] (0 + 1) (0 + 6) := ⟨e1, e2⟩
    have h3 := X.same.trans h2
    rw [List.append_nil] at h3
    exact h3.mono hc hs
  refine ⟨U, ?_, .threw T.heap.size, hrun, hend, Or.inr ⟨T.heap.size, rfl, cls, ce, locs, hx U hWs.alike f1 (fun q hq => f2 q hq (fun z hz => nomatch hz)), hce, hO.vm, hcl, hWs, hall, hf⟩⟩
  refine st1 _ ?_
  show Steps p.tables e below (T1.setTop { method := m, pc := pc + 3, locals := ls, stack := .ref T.heap.size :: rest, locked := none }) _
  jvm_step X₁.here [X₁.here.top, hexec, d3', Value.category]
  exact X₁.ldcString hexec (own := own) (text := text) (index := is) (a := sa) hown' hstr'.1 hstr'.2
    (g := { method := m, pc := pc + 4, locals := ls, stack := .ref T.heap.size :: .ref T.heap.size :: rest, locked := none }) rfl d4' _ hsteps
/-- 'throw new E("text")', the text by a wide index -/
theorem vx_throwSW {cc : ByteArray} {pc : Nat} (hexec : p.tables.exec = Jvm.exec) (hb : c.code = cc) (hl : l.stackTraces = false) {own cls text : String} {names : List String} {ik is ic mc ms sa : Nat} {A : Nat → Prop}
    (hown : s.vm.findClass own = some m.cls) (hcls : Bundle.fit cls = true) (hnames : ∀ n ∈ names, Bundle.fit n = true)
    (hk : (Cond.classLink own ik cls).before args s = true) (hini : (Cond.initialized cls).before args s = true) (hstr : vk_R own is text sa s) (hat : ∀ w ∈ vx_atS own ic cls names, w.before args s = true)
    (hgood : ∀ w ∈ Cond.classLink own ik cls :: Cond.initialized cls :: vx_atS own ic cls names, vx_ot w = true)
    (hU : vx_Zq Bundle.tN "UNASSIGNED_STACK" Bundle.steD A s s.heap) (hN : vx_Zq Bundle.tN "SUPPRESSED_SENTINEL" Bundle.listD A s s.heap) (hS : va_S A s.heap H locs) (hsize : ls.size = c.maxLocals)
    (d0 : decode cc pc = .ok (.new ik, 3)) (d3 : decode cc (pc + 3) = .ok (.dup, 1)) (d4 : decode cc (pc + 4) = .ok (.ldc_w is, 3)) (d7 : decode cc (pc + 7) = .ok (.invokespecial ic, 3)) (d10 : decode cc (pc + 10) = .ok (.athrow, 1))
    (hout : ∀ x ∈ c.exceptionTable.toList, covers x (pc + 10) = false)
    (hRframes : names.length + 3 < R.frames) (hRlocals : (rest.map fun v => v.category).sum + (13 * (names.length + 1) + 43) ≤ R.locals) (hRcells : cells + 1 ≤ R.cells) (hRslots : slots + 6 ≤ R.slots) (hlocks : meth.locks = false)
    (hx : ∀ t : State, s.vm.Alike t.vm → H.size ≤ t.heap.size → (∀ q : Nat, q < H.size → t.heap[q]? = H[q]?) → XC cls s t)
    (hf : ∀ z ∈ locs, free z.base) (hc : cells + 1 ≤ mc) (hs : slots + 6 ≤ ms) :
    W p l e R s m args below meth c H locs cells slots (vx_MQ below Qc XC args s mc ms free) (F0 m pc ls rest) := by
  intro T hT X
  have htr : e.platform.stackTraces = false := (show e.platform.stackTraces = l.stackTraces by rw [X.admits.platform]).trans hl
  have Y := vx_rebase X (R' := { frames := R.frames, locals := R.locals, cells := 1, slots := 6 }) (Nat.le_refl _) (Nat.le_refl _) hRcells hRslots
  obtain ⟨s', hA⟩ : ∃ z, z = (T.setVm s.vm).setFrames (.invoking m args :: below) := ⟨_, rfl⟩
  rw [← hA] at Y
  have hvm : s'.vm = s.vm := by rw [hA]; rfl
  have hhp : s'.heap = H := by rw [hA]; exact hT
  have hW0 : s.WarmedH s'.vm := by rw [hvm]; exact State.WarmedH.refl s
  have hat' : ∀ w ∈ vx_atS own ic cls names, w.before args s' = true := fun w hw => vx_ot_at hW0 hvm.symm (hgood w (List.mem_cons_of_mem _ (List.mem_cons_of_mem _ hw))) (hat w hw)
  have hk' : (Cond.classLink own ik cls).before args s' = true := vx_ot_at hW0 hvm.symm (hgood _ List.mem_cons_self) hk
  have hini' : (Cond.initialized cls).before args s' = true := vx_ot_at hW0 hvm.symm (hgood _ (List.mem_cons_of_mem _ List.mem_cons_self)) hini
  have hU' : vx_Zq Bundle.tN "UNASSIGNED_STACK" Bundle.steD A s' s'.heap := by rw [hhp]; exact vx_Zq.moved hW0.alike (hU.kept hS.2.1)
  have hN' : vx_Zq Bundle.tN "SUPPRESSED_SENTINEL" Bundle.listD A s' s'.heap := by rw [hhp]; exact vx_Zq.moved hW0.alike (hN.kept hS.2.1)
  have h : ∀ w ∈ Bundle.ownAtoms own ic cls names, w.before args s' = true := vx_own hat' (vx_isRefq hU'.1) (vx_isRefq hN'.1) hU'.2.word hN'.2.word
  have hown' : s'.vm.findClass own = some m.cls := by rw [hvm]; exact hown
  have hins : (Cond.instantiable cls 6).before args s' = true := h _ (by simp [Bundle.ownAtoms])
  obtain ⟨vm₁, cX, kX, hfX, hkX, -, -, X₁, st1⟩ := Y.newCold hexec (own := own) (C := cls) (index := ik) (n := 6) hown' hk' hins hini'
    (g := F0 m pc ls rest) rfl (by rw [hb]; exact d0) (Nat.le_refl _) (Nat.le_refl _)
  generalize hT1 : (T.setVm vm₁).pushCell { cls := cX, slots := kX.instanceTypes.map defaultValue, vm := .none } = T1 at X₁ st1
  have hcat : (Value.ref T.heap.size).category = 1 := rfl
  have hcellA : T1.heap[T.heap.size]? = some (freshCell cX kX) := by rw [← hT1]; exact State.heap_pushCell_size _ _
  have d3' : decode c.code (pc + 3) = .ok (.dup, 1) := by rw [hb]; exact d3
  have d4' : decode c.code (pc + 4) = .ok (.ldc_w is, 3) := by rw [hb]; exact d4
  have hstr' : vk_R own is text sa s' := vk_R.warm hW0 hstr
  obtain ⟨U, hsteps, hrun, hend, hW, hsame, ce, hce, hO⟩ := X₁.ctorThrowS hexec htr (own := own) (cls := cls) (names := names) (ic := ic) hown' hcls hnames h (fun x hx => nomatch hx) hfX hkX hcellA (by rw [hhp, hT]; exact Nat.le_refl _) (msg := .ref sa) rfl
    (g := { method := m, pc := pc + 7, locals := ls, stack := .ref sa :: .ref T.heap.size :: .ref T.heap.size :: rest, locked := none }) rfl hsize rfl rfl (rest := rest) rfl
    (by rw [hb]; exact d7) (by rw [hb]; exact d10) hout hRframes (by simp only [List.map_cons, List.sum_cons, hcat]; omega) hlocks
  obtain ⟨f1, f2⟩ := vx_frame hsame
  rw [hhp] at f1 f2
  have hWs : s.WarmedH U.vm := State.WarmedH.trans hW0 hW
  have hcl : s.vm.findClass cls = some ce.cls := by
    have h9 := hO.cls
    rw [hvm] at h9
    exact h9
  have hall : s.sameButNew ({ U with vm := s.vm } : State) locs mc ms := by
    subst hA
    obtain ⟨e1, e2⟩ := hsame
    rw [State.setFrames_setFrames] at e1
    have h2 : (T.setVm s.vm).sameButNew ({ U with vm := s.vm } : State) [] (0 + 1) (0 + 6) := ⟨e1, e2⟩
    have h3 := X.same.trans h2
    rw [List.append_nil] at h3
    exact h3.mono hc hs
  refine ⟨U, ?_, .threw T.heap.size, hrun, hend, Or.inr ⟨T.heap.size, rfl, cls, ce, locs, hx U hWs.alike f1 (fun q hq => f2 q hq (fun z hz => nomatch hz)), hce, hO.vm, hcl, hWs, hall, hf⟩⟩
  refine st1 _ ?_
  show Steps p.tables e below (T1.setTop { method := m, pc := pc + 3, locals := ls, stack := .ref T.heap.size :: rest, locked := none }) _
  jvm_step X₁.here [X₁.here.top, hexec, d3', Value.category]
  exact X₁.ldcStringW hexec (own := own) (text := text) (index := is) (a := sa) hown' hstr'.1 hstr'.2
    (g := { method := m, pc := pc + 4, locals := ls, stack := .ref T.heap.size :: .ref T.heap.size :: rest, locked := none }) rfl d4' _ hsteps
end Ends
section Bodies
variable {l : Launch}
theorem vx_ofW {y : MethodName} {ws ws' : List Cond} {rm : Room} {Pc : Array Value → State → Prop} {Qc : Array Value → State → Outcome → State → Prop} {XC : String → State → State → Prop} {mc ms : Nat} {free : Addr → Prop} {cc : ByteArray} {maxL : Nat} {ret : Option FieldType}
    (hy : plainName y.cls = true) (hw : ws = Cond.code y cc maxL ret :: ws')
    (body : ∀ p e s m args below meth c s₁, BodyLoose p l y (headSpec ws rm) cc maxL ret e s m args below meth c s₁ → c.maxLocals = maxL → (∀ x ∈ c.exceptionTable.toList, False) → Pc args s →
      W p l e (headSpec ws rm).room s m args below meth c s.heap [] 0 0 (vx_MQ below Qc XC args s mc ms free) (entryFrame m args maxL)) : vx_Met l y ws rm Pc Qc XC mc ms free := by
  refine MetFree.of_bodyS (code := cc) (maxLocals := maxL) (ret := ret) hy ?_ ?_
  · intro args s m h hn
    obtain ⟨meth, c, h1, h2, h3, h4, h5, h6, -, -⟩ := Cond.code_spec hn (atoms_spec (ws := ws) h _ (by rw [hw]; exact List.mem_cons_self))
    exact ⟨meth, c, h1, h2, h3, h4, h5, h6⟩
  · intro p e s m args below meth c s₁ B hml hP _
    have hh0 : s₁.heap = s.heap := by rw [B.state]; rfl
    have ht : ∀ x ∈ c.exceptionTable.toList, False := by
      obtain ⟨meth9, c9, h1, h2, -, -, -, -, h7, -⟩ := Cond.code_spec B.named (atoms_spec (ws := ws) B.pre _ (by rw [hw]; exact List.mem_cons_self))
      cases Option.some.inj (h1.symm.trans B.method)
      cases Option.some.inj (h2.symm.trans (Stand.of_body B).code)
      intro x hx
      rw [Array.isEmpty_iff.mp h7] at hx
      cases hx
    obtain ⟨t, a1, o, b1, b2, b3⟩ := body p e s m args below meth c s₁ B hml ht hP s₁ hh0 (Stand.of_body B)
    exact ⟨t, o, a1, b1, b2, b3⟩
/-- the table of a body with handlers -/
theorem vx_table {p : Program} {x y : MethodName} {S : Spec} {cc bytes : ByteArray} {maxL maxL' : Nat} {ret ret' : Option FieldType} {e : Env} {s s₁ : State} {m : MethodId} {args : Array Value} {below : List Frame} {meth : Method} {c : Code} {hh : List (Nat × Nat × Nat × Nat)}
    (B : BodyLoose p l y S cc maxL ret e s m args below meth c s₁) (h : (Cond.codeWith y bytes maxL' ret' hh).before args s = true) : c.exceptionTable.toList = tableOf hh := by
  obtain ⟨m9, meth9, c9, hn9, h1, h2, -, -, h6, -⟩ := Cond.codeWith_spec h
  cases Option.some.inj (hn9.symm.trans B.named)
  cases Option.some.inj (h1.symm.trans B.method)
  cases Option.some.inj (h2.symm.trans (Stand.of_body B).code)
  rw [← h6, table_eq]
end Bodies
end VXA
/-! ===== END ===== -/
/-! ===== BEGIN a static call of a method with an exception table ===== -/
section VXS
variable {p : Program} {l : Launch} {e : Env} {R : Room} {s : State} {m : MethodId} {args : Array Value} {below : List Frame} {meth : Method} {c : Code} {T : State} {H : Heap} {locs : List Loc} {cells slots : Nat}
abbrev vx_CSW (R : Room) (s : State) (args : Array Value) (own : String) (index : Nat) (y : MethodName) (bytes : ByteArray) (maxL : Nat) (ret : Option FieldType) (hh : List (Nat × Nat × Nat × Nat)) (ws : List Cond) (rm : Room) (mc ms n : Nat) : Prop :=
  (rm.cells = mc ∧ rm.slots = ms ∧ rm.frames + 1 ≤ R.frames ∧ 8 + (maxL + 11) + rm.locals ≤ R.locals ∧ (∀ w ∈ ws, ∀ (a' : Array Value) (U : State), s.WarmedH U.vm → w.before a' U = true) ∧ Cond.codeWith y bytes maxL ret hh ∈ ws) ∧
  (Cond.codeWith y bytes maxL ret hh).before args s = true ∧ (Cond.initialized y.cls).before args s = true ∧ (y.cls ≠ "java/lang/invoke/MethodHandle" ∧ y.cls ≠ "java/lang/invoke/VarHandle") ∧
  (∀ sig, parseMethodDescriptor y.desc = some sig → n = sig.parameters.length) ∧ (Cond.methodLink own index y).before args s = true ∧ (Cond.static y).before args s = true
theorem vx_cwSW {own : String} {index maxL mc ms : Nat} {y : MethodName} {bytes : ByteArray} {ret : Option FieldType} {hh : List (Nat × Nat × Nat × Nat)} {Ts ws ws' : List Cond} {rm : Room} (n : Nat) (ht : ∀ w ∈ Ts, w.before args s = true) (hT : GoodIn Ts (va_wsS own index y ws)) (hw : ws = Cond.codeWith y bytes maxL ret hh :: ws') (hrc : rm.cells = mc) (hrs : rm.slots = ms)
    (hd : y.cls ≠ "java/lang/invoke/MethodHandle" ∧ y.cls ≠ "java/lang/invoke/VarHandle" ∧ (parseMethodDescriptor y.desc).map (fun d => d.parameters.length) = some n) (hR : rm.frames + 1 ≤ R.frames ∧ 8 + (maxL + 11) + rm.locals ≤ R.locals) :
    vx_CSW R s args own index y bytes maxL ret hh ws rm mc ms n := by
  have ok : ∀ w ∈ va_wsS own index y ws, w.before args s = true := fun w h => ht w (hT w h).1
  have hG : GoodIn Ts ws := fun w h => hT w (by unfold va_wsS; exact List.mem_append_right _ h)
  have hc : Cond.codeWith y bytes maxL ret hh ∈ ws := by rw [hw]; exact List.mem_cons_self
  refine ⟨⟨hrc, hrs, hR.1, hR.2, pay_in ht hG, hc⟩, ht _ (hG _ hc).1, ok _ (by simp [va_wsS]), ⟨hd.1, hd.2.1⟩, fun sig h => ?_, ok _ (by simp [va_wsS]), ok _ (by simp [va_wsS])⟩
  have h2 := hd.2.2
  rw [h] at h2
  exact (Option.some.inj h2).symm
theorem vx_callSW (X : Stand p l e R s m args below meth c T locs cells slots) (hexec : p.tables.exec = Jvm.exec) {own : String} {index : Nat} {y : MethodName} {bytes : ByteArray} {maxL : Nat} {ret : Option FieldType} {hh : List (Nat × Nat × Nat × Nat)}
    (hown : s.vm.findClass own = some m.cls) (hlink : (Cond.methodLink own index y).before args s = true) (hstat : (Cond.static y).before args s = true) (hinit : (Cond.initialized y.cls).before args s = true)
    (hcode : (Cond.codeWith y bytes maxL ret hh).before args s = true) (hy : y.cls ≠ "java/lang/invoke/MethodHandle" ∧ y.cls ≠ "java/lang/invoke/VarHandle")
    {W9 : Nat} {Pre : Pt → Array Value → Prop} {Post : Pt → Array Value → Option Value → Pt → Prop} (hK : Back l R p e below s args y 3 W9 Pre Post)
    {g : JFrame} (hg : g.method = m) (hsize : g.locals.size = c.maxLocals) {argsL rest : List Value} (hlen : ∀ sig, parseMethodDescriptor y.desc = some sig → argsL.length = sig.parameters.length)
    (hstack : g.stack = argsL.reverse ++ rest) (hW : 2 * g.monitorRoom + (rest.map fun v => v.category).sum ≤ W9) (hdg : decode c.code g.pc = .ok (.invokestatic index, 3))
    (hpre : ∀ vm₁, s.WarmedH vm₁ → Pre ⟨T.setVm vm₁, locs, cells, slots⟩ argsL.toArray) :
    ∃ (v : Option Value) (vm₁ : Vm) (B : Pt), s.WarmedH vm₁ ∧ Stand p l e R s m args below meth c B.U B.locs B.cells B.slots ∧ Post ⟨T.setVm vm₁, locs, cells, slots⟩ argsL.toArray v B ∧
      ∀ target, Steps p.tables e below (B.U.setTop { g with pc := g.pc + 3, stack := v.toList ++ rest }) target → Steps p.tables e below (T.setTop g) target := by
  obtain ⟨mk, methM, cM, hnamed, hmethM, -, -, -, -, -, -, hsigM⟩ := Cond.codeWith_spec hcode
  have hstatic : methM.isStatic = true := Cond.static_spec hnamed hmethM hstat
  obtain ⟨kP, hkP, -⟩ := className_of_methodNamed hnamed
  have hinitP : kP.init = .initialized := Cond.initialized_spec (findClass_of_methodNamed hnamed) hkP hinit
  obtain ⟨vm₁, X₁, hstep₁⟩ := X.invokestatic hexec hown hlink hnamed hmethM hstatic hkP hinitP hy (g := g) hg (argsL := argsL) (rest := rest) (hlen _ hsigM) hstack hdg
  obtain ⟨v, B, X', hpost, hsteps⟩ := hK m meth c ⟨T.setVm vm₁, locs, cells, slots⟩ { g with stack := rest } (.invokestatic index) mk argsL.toArray X₁ hg hsize hdg hW (X₁.named hnamed) (hpre vm₁ X₁.warmed)
  exact ⟨v, vm₁, B, X₁.warmed, X', hpost, fun target h => hstep₁ _ fun acts => by rw [doInvoke_state]; exact hsteps.trans h⟩
theorem vx_runSW {y : MethodName} {bytes cc : ByteArray} {maxL nL mc ms n index : Nat} {ret : Option FieldType} {hh : List (Nat × Nat × Nat × Nat)} {ws : List Cond} {rm : Room} {Pc : Array Value → State → Prop} {Qc : Array Value → State → Outcome → State → Prop} {free : Addr → Prop} {Ts : List Cond} {own : String} {As rest : List Value} {g : JFrame}
    (S : CallFix p m c cc nL s args Ts own) (hM : Met l y ws rm Pc Qc mc ms free) (cw : vx_CSW R s args own index y bytes maxL ret hh ws rm mc ms n) (hp : PreS s H Pc As)
    (hg : g.method = m) (hn : As.length = n) (hsize : g.locals.size = nL) (hstack : g.stack = As.reverse ++ rest) (hW : 2 * g.monitorRoom + (rest.map fun v => v.category).sum ≤ 8) (hdg : decode cc g.pc = .ok (.invokestatic index, 3)) (hf : cells + mc ≤ R.cells ∧ slots + ms ≤ R.slots) :
    va_Run p l e R s m args below meth c H locs cells slots mc ms g rest (Qc As.toArray) (free) := by
  obtain ⟨⟨hrc, hrs, hfr, hlo, hws, hcw⟩, hcode, hini, hy, hlen, hl, hstt⟩ := cw
  have hK : Back l R p e below s args y 3 8 (PreOf R mc ms Pc) (PostOf Qc mc ms free) := va_backW (hh := hh) (bytes := bytes) (maxL := maxL) (ret := ret) hM hp.1 hrc hrs hfr hlo hws hcw (fun a' U hW => word_at hW (Or.inl (by first | rfl | simp [Cond.onTables, Cond.keeps, Cond.steady])) hini)
  obtain ⟨hx, hb, hml, ho, -⟩ := S
  intro T hT X
  obtain ⟨v, vm₁, ⟨U', l2, c2, s2⟩, hW₁, X', ⟨g', mk, t, L, e1, e2, hq, h1, hL, h2, h3⟩, st⟩ := vx_callSW X hx (hh := hh) (bytes := bytes) (maxL := maxL) (ret := ret) ho hl hstt hini hcode hy hK hg (hsize.trans hml.symm) (argsL := As) (rest := rest) (fun sig h => hn.trans (hlen sig h)) hstack hW (by rw [hb]; exact hdg)
    (fun vm₁ hW₁ => ⟨hf.1, hf.2, hp.2 (T.setVm vm₁) hT hW₁⟩)
  dsimp only [Pt.U, Pt.locs, Pt.cells, Pt.slots] at X' e1 e2 h1 h2 h3 st
  subst h1; subst h2; subst h3
  exact ⟨v, (T.setVm vm₁).calling g' mk As.toArray, t, U', L, hT, X', hL, e1, e2, hq, st⟩
/-- not caught here, past rows that name other classes: it goes on to the caller -/
theorem vx_outP {p : Program} {l : Launch} {e : Env} {R : Room} {s : State} {m : MethodId} {args : Array Value} {below : List Frame} {meth : Method} {c : Code} {H : Heap} {locs : List Loc} {cells slots : Nat} {free : Addr → Prop} {ls : Array Slot} {rest : List Value} {Qc : Array Value → State → Outcome → State → Prop} {XC : String → State → State → Prop}
    {pc : Nat} {own E : String} {ce : Cell} {q : Addr} {mc ms : Nat} (hown : s.vm.findClass own = some m.cls) (hlocks : meth.locks = false)
    (hpass : ∀ z ∈ c.exceptionTable.toList, covers z pc = false ∨ (z.catchType ≠ 0 ∧ ∃ nm : String, (Cond.classLink own z.catchType nm).before args s = true ∧ va_Nc E nm s)) (hcell : H[q]? = some ce) (hv : ce.vm = .none) (hcl : s.vm.findClass E = some ce.cls)
    (hx : ∀ t : State, t.heap = H → s.vm.Alike t.vm → XC E s t) (hf : ∀ z ∈ locs, free z.base) (hc : cells ≤ mc) (hs : slots ≤ ms) :
    vx_W p l e R s m args below meth c H locs cells slots (vx_MQ below Qc XC args s mc ms free) (F0 m pc ls rest) q := by
  intro T hT X
  have hpl : e.platform.magicAccessors = ({} : Platform).magicAccessors := by rw [X.admits.platform]
  obtain ⟨vm', hW', X', st⟩ := X.outThrough hlocks q (g := F0 m pc ls rest) rfl rfl rfl (cell := ce) (by rw [hT]; exact hcell) (by rw [hv]; rfl)
    (by obtain ⟨k9, h9, -⟩ := Vm.findClass_spec hcl; exact ⟨k9, h9⟩) (fun z hz => by
      rcases hpass z hz with h | ⟨hz0, nm, hl1, hn1⟩
      · exact Or.inl h
      · obtain ⟨c6, hc6, hcl6⟩ := Cond.classLink_spec hown hl1 e.platform hpl
        obtain ⟨a8, b8, h1, h2, h3⟩ := hn1
        cases Option.some.inj (h1.symm.trans hcl)
        cases Option.some.inj (h2.symm.trans hc6)
        exact Or.inr ⟨hz0, _, hcl6, h3⟩)
  obtain ⟨g₀, hfr⟩ := X'.frames_eq
  have hcell9 : ((T.setVm vm').setFrames (.throwing q :: below)).heap[q]? = some ce := by
    show T.heap[q]? = some ce
    rw [hT]; exact hcell
  have hend : Ended ((T.setVm vm').setFrames (.throwing q :: below)) below (.threw q) := State.frames_setFrames _ (State.cur_lt_of_frames hfr)
  refine ⟨(T.setVm vm').setFrames (.throwing q :: below), ?_, .threw q, X'.here.running, hend, Or.inr ⟨q, rfl, E, ce, locs, hx _ hT (X'.ends _).1.alike, hcell9, hv, hcl, (X'.ends _).1, (X'.ends _).2.mono hc hs, hf⟩⟩
  rw [X.pushThrowing_eq]
  exact st
/-- a thing of a world lies in the heap -/
theorem vx_lt {D : va_G} {cl : List vw_C} {ws : va_W} {H1 : Heap} (h : va_P D cl ws H1) {k : Nat} {q : Nat × va_E} (hk : ws[k]? = some q) : q.1 < H1.size := (h k q hk).lt
end VXS
/-! ===== END ===== -/
/-! ===== BEGIN methods with a table of their own: called by a name, returning or throwing ===== -/
section VXH
/-! vx_backW, vx_callVX, vx_callSX, vx_callVW, vx_runVW, vx_runVX, vx_runSX, vx_ofWH follow the same proofs as their sisters above (Free/Laws.lean, Shelf42/LK1.lean); vx_outP calls Shelf42/NT130.lean (outThrough). -/
section
variable {l : Launch} {R : Room} {p : Program} {e : Env} {below : List Frame} {s : State} {sargs : Array Value} {y : MethodName} {len W9 : Nat}
theorem vx_backW {ws : List Cond} {rm : Room} {Pc : Array Value → State → Prop} {Qc : Array Value → State → Outcome → State → Prop} {XC : String → State → State → Prop} {mc ms : Nat} {free : Addr → Prop} {bytes : ByteArray} {maxL : Nat} {ret : Option FieldType} {hh : List (Nat × Nat × Nat × Nat)}
    (hM : vx_Met l y ws rm Pc Qc XC mc ms free) (hblind : FrameBlind Pc) (hrc : rm.cells = mc) (hrs : rm.slots = ms)
    (hframes : rm.frames + 1 ≤ R.frames) (hlocals : W9 + (maxL + 11) + rm.locals ≤ R.locals)
    (hws : ∀ w ∈ ws, ∀ a' U, s.WarmedH U.vm → w.before a' U = true) (hcode : Cond.codeWith y bytes maxL ret hh ∈ ws) (hinit : ∀ a' U, s.WarmedH U.vm → (Cond.initialized y.cls).before a' U = true) :
    vx_Back l R p e below s sargs y len W9 (PreOf R mc ms Pc) (PostOf Qc mc ms free) (vx_Post XC mc ms free) := by
  intro m meth c A g ig mk a X hg hsize hdg hW hn hp
  have h1 : (headSpec ws rm).pre.before a A.U = true := atoms_intro fun w hw => hws w hw _ _ X.warmed
  have h2 : (Cond.codeWith y bytes maxL ret hh).before a A.U = true := hws _ hcode _ _ X.warmed
  have h3 : (Cond.initialized y.cls).before a A.U = true := hinit _ _ X.warmed
  have h4 : A.cells + (headSpec ws rm).room.cells ≤ R.cells := by rw [show (headSpec ws rm).room.cells = mc from hrc]; exact hp.1
  have h5 : A.slots + (headSpec ws rm).room.slots ≤ R.slots := by rw [show (headSpec ws rm).room.slots = ms from hrs]; exact hp.2.1
  have hPc : Pc a (A.U.calling g mk a) := hblind _ _ _ _ hp.2.2
  obtain ⟨U, Ls, c0, s0⟩ := A
  dsimp only [Pt.U, Pt.locs, Pt.cells, Pt.slots] at h1 h2 h3 h4 h5 X hn hPc ⊢
  obtain ⟨m9, methY, cY, hn9, hmY, hcY, -, hlY, -⟩ := Cond.codeWith_spec h2
  cases Option.some.inj (hn9.symm.trans hn)
  obtain ⟨kY, hkY, -⟩ := className_of_methodNamed hn
  have hinitY : kY.init = .initialized := Cond.initialized_spec (findClass_of_methodNamed hn) hkY h3
  have h : At U g.method c below := by rw [hg]; exact X.here
  have hlocals9 : W9 + (maxL + 11) + (headSpec ws rm).room.locals ≤ R.locals := hlocals
  have happ : (headSpec ws rm).appliesLoose y e.platform (U.calling g mk a) = true :=
    Spec.appliesLoose_calling (g := g) h hdg hn hkY hinitY
      (X.room_calling (g := g) (R' := (headSpec ws rm).room) hsize hmY hcY hframes (by rw [hlY]; omega) h4 h5) h1
  obtain ⟨mid, hmid⟩ := h.above
  have hfr : (U.setTop g).frames = (.java g :: mid) ++ below := by rw [State.frames_setTop' g h.top, hmid]; rfl
  obtain ⟨o, s₂, hsteps, -, hend, hq⟩ := Steps.callFree hM p X.admits X.cas X.clock (acts := []) hfr happ hPc trivial
  have hq' : vx_Q Qc XC mc ms free a (U.calling g mk a) o s₂ := hq
  rw [State.frames_setTop' g h.top] at hend
  obtain ⟨g₀, hg0⟩ := Option.isSome_iff_exists.mp h.top
  obtain ⟨r, hr⟩ := State.topJava?_eq_some.mp hg0
  have hr' : (({ U with heap := s₂.heap, slotsUsed := s₂.slotsUsed } : State).setVm s₂.vm).frames = .java g₀ :: r := hr
  rcases hq' with ⟨hqc, L, hfe, hL⟩ | ⟨q, rfl, E, ce, L, hx, hce, hcv, hcl, hW₂, hsm, hL⟩
  · obtain ⟨⟨v, rfl⟩, hW₂, e2, q2, q3, q4, q5, q6⟩ := id hfe
    have e3 : s₂ = ({ (U.calling g mk a).setFrames s₂.frames with heap := s₂.heap, slotsUsed := s₂.slotsUsed } : State).setVm s₂.vm := by
      have : s₂ = ({ s₂ with vm := (U.calling g mk a).vm } : State).setVm s₂.vm := rfl
      rw [e2] at this
      exact this
    obtain ⟨c₂, i₂, len₂, hc₂, hd₂, hf₂⟩ := hend
    have hW' : U.WarmedH s₂.vm := hW₂
    have hcc : c₂ = c := by
      have h1 : s₂.code? g.method = U.code? g.method := by
        rw [State.code?_eq, State.code?_eq, hW'.alike.method?]
      exact Option.some.inj (hc₂.symm.trans (h1.trans h.code))
    subst hcc
    have hlen : len₂ = len := by rw [hdg] at hd₂; cases hd₂; rfl
    subst hlen
    have hs₂ : s₂ = (({ U with heap := s₂.heap, slotsUsed := s₂.slotsUsed } : State).setVm s₂.vm).setTop { g with pc := g.pc + len₂, stack := v.toList ++ g.stack } := by
      refine e3.trans ?_
      rw [hf₂, State.calling_eq h.top, State.setFrames_setFrames, State.setTop_of_frames _ hr', hr]
      rfl
    have hsame : U.sameButNew ({ U with heap := s₂.heap, slotsUsed := s₂.slotsUsed } : State) L mc ms := by
      refine ⟨?_, q2, q3, q4, q5, q6⟩
      obtain ⟨t, ht, -⟩ := State.frames_cons hr
      show ({ U with heap := s₂.heap, slotsUsed := s₂.slotsUsed } : State) = { U.setFrames U.frames with heap := s₂.heap, slotsUsed := s₂.slotsUsed }
      rw [State.setFrames_self ht]
    subst hg
    refine Or.inl ⟨v, ⟨(({ U with heap := s₂.heap, slotsUsed := s₂.slotsUsed } : State).setVm s₂.vm), Ls ++ L, c0 + mc, s0 + ms⟩,
      ⟨X.admits, X.cas, X.clock, X.frames, X.room, X.hears, X.method, X.code, (X.here.setHeapUsed s₂.heap s₂.slotsUsed).setVm hW'.alike, X.tail, State.WarmedH.trans X.warmed hW', X.limits, X.bytes, X.same.trans (hsame.setVm s.vm)⟩,
      ⟨g, mk, s₂, L, rfl, rfl, hqc, rfl, hL, rfl, rfl⟩, ?_⟩
    show Steps p.tables e below _ ((({ U with heap := s₂.heap, slotsUsed := s₂.slotsUsed } : State).setVm s₂.vm).setTop { g with pc := g.pc + len₂, stack := v.toList ++ g.stack })
    rw [← hs₂]
    exact hsteps
  · obtain ⟨e2, q2, q3, q4, q5, q6⟩ := id hsm
    have e3 : s₂ = ({ (U.calling g mk a).setFrames s₂.frames with heap := s₂.heap, slotsUsed := s₂.slotsUsed } : State).setVm s₂.vm := by
      have : s₂ = ({ s₂ with vm := (U.calling g mk a).vm } : State).setVm s₂.vm := rfl
      rw [e2] at this
      exact this
    have hf₂ : s₂.frames = .throwing q :: .java g :: U.frames.tail := hend
    have hW' : U.WarmedH s₂.vm := hW₂
    have hs₂ : s₂ = ((({ U with heap := s₂.heap, slotsUsed := s₂.slotsUsed } : State).setVm s₂.vm).setTop g).pushFrame (.throwing q) := by
      refine e3.trans ?_
      rw [hf₂, State.calling_eq h.top, State.setFrames_setFrames, State.pushFrame, State.frames_setTop _ hr', State.setTop_of_frames _ hr', State.setFrames_setFrames, hr]
      rfl
    have hsame : U.sameButNew ({ U with heap := s₂.heap, slotsUsed := s₂.slotsUsed } : State) L mc ms := by
      refine ⟨?_, q2, q3, q4, q5, q6⟩
      obtain ⟨t, ht, -⟩ := State.frames_cons hr
      show ({ U with heap := s₂.heap, slotsUsed := s₂.slotsUsed } : State) = { U.setFrames U.frames with heap := s₂.heap, slotsUsed := s₂.slotsUsed }
      rw [State.setFrames_self ht]
    subst hg
    refine Or.inr ⟨q, ⟨(({ U with heap := s₂.heap, slotsUsed := s₂.slotsUsed } : State).setVm s₂.vm), Ls ++ L, c0 + mc, s0 + ms⟩,
      ⟨X.admits, X.cas, X.clock, X.frames, X.room, X.hears, X.method, X.code, (X.here.setHeapUsed s₂.heap s₂.slotsUsed).setVm hW'.alike, X.tail, State.WarmedH.trans X.warmed hW', X.limits, X.bytes, X.same.trans (hsame.setVm s.vm)⟩,
      ⟨g, mk, s₂, L, E, ce, rfl, rfl, hx, hce, hcv, hcl, rfl, hL, rfl, rfl⟩, ?_⟩
    show Steps p.tables e below _ (((({ U with heap := s₂.heap, slotsUsed := s₂.slotsUsed } : State).setVm s₂.vm).setTop g).pushFrame (.throwing q))
    rw [← hs₂]
    exact hsteps
end
variable {p : Program} {l : Launch} {e : Env} {R : Room} {s : State} {m : MethodId} {args : Array Value} {below : List Frame} {meth : Method} {c : Code} {T : State} {H : Heap} {locs : List Loc} {cells slots : Nat}
theorem vx_callVX (X : Stand p l e R s m args below meth c T locs cells slots) (hexec : p.tables.exec = Jvm.exec) {own C : String} {index : Nat} {y : MethodName} {bytes : ByteArray} {maxL : Nat} {ret : Option FieldType} {hh : List (Nat × Nat × Nat × Nat)}
    (hown : s.vm.findClass own = some m.cls) (hlink : (Cond.methodLink own index y).before args s = true) (hinst : (Cond.instanceMethod y).before args s = true) (hsel : (Cond.selects C y y).before args s = true)
    (hcode : (Cond.codeWith y bytes maxL ret hh).before args s = true) (hy : y.cls ≠ "java/lang/invoke/MethodHandle" ∧ y.cls ≠ "java/lang/invoke/VarHandle")
    {W9 : Nat} {Pre : Pt → Array Value → Prop} {Post : Pt → Array Value → Option Value → Pt → Prop} {PostX : Pt → Array Value → Addr → Pt → Prop} (hK : vx_Back l R p e below s args y 3 W9 Pre Post PostX)
    {b : Addr} {cellB : Cell} (hcell : T.heap[b]? = some cellB) (hobj : cellB.vm.isStatics = false) (hcls : s.vm.findClass C = some cellB.cls)
    {g : JFrame} (hg : g.method = m) (hsize : g.locals.size = c.maxLocals) {argsL rest : List Value} (hlen : ∀ sig, parseMethodDescriptor y.desc = some sig → argsL.length = sig.parameters.length)
    (hstack : g.stack = argsL.reverse ++ .ref b :: rest) (hW : 2 * g.monitorRoom + (rest.map fun v => v.category).sum ≤ W9) (hdg : decode c.code g.pc = .ok (.invokevirtual index, 3))
    (hpre : ∀ vm₁, s.WarmedH vm₁ → Pre ⟨T.setVm vm₁, locs, cells, slots⟩ (Value.ref b :: argsL).toArray) :
    (∃ (v : Option Value) (vm₁ : Vm) (B : Pt), s.WarmedH vm₁ ∧ Stand p l e R s m args below meth c B.U B.locs B.cells B.slots ∧ Post ⟨T.setVm vm₁, locs, cells, slots⟩ (Value.ref b :: argsL).toArray v B ∧
      ∀ target, Steps p.tables e below (B.U.setTop { g with pc := g.pc + 3, stack := v.toList ++ rest }) target → Steps p.tables e below (T.setTop g) target) ∨
    (∃ (q : Addr) (vm₁ : Vm) (B : Pt), s.WarmedH vm₁ ∧ Stand p l e R s m args below meth c B.U B.locs B.cells B.slots ∧ PostX ⟨T.setVm vm₁, locs, cells, slots⟩ (Value.ref b :: argsL).toArray q B ∧
      Steps p.tables e below (T.setTop g) ((B.U.setTop { g with stack := rest }).pushFrame (.throwing q))) := by
  obtain ⟨mk, methM, hnamed, hmethM, hstM, habM⟩ := Cond.instanceMethod_spec hinst
  obtain ⟨m8, methM', cM, hn8, hmethM', -, -, -, -, -, -, hsigM⟩ := Cond.codeWith_spec hcode
  cases Option.some.inj (hn8.symm.trans hnamed)
  cases hmethM.symm.trans hmethM'
  obtain ⟨c2, r2, m2, q1, q2, q3, q4, kP, hkP, hkPi⟩ := Cond.selects_spec hsel
  cases hcls.symm.trans q1
  cases (State.methodFound?_of_named hnamed hy).symm.trans q2
  cases hnamed.symm.trans q3
  have hselP : selectMethod e.platform s.vm cellB.cls mk = .method mk := by rw [Launch.admits_selectMethod X.admits]; exact q4
  obtain ⟨vm₁, X₁, hstep₁⟩ := X.invokevirtual hexec hown hlink hnamed hmethM hstM hkP hkPi hy (a := b) (cell := cellB) hcell
    (fun z h => by rw [h] at hobj; cases hobj) hselP hmethM habM hkP hkPi (g := g) hg (argsL := argsL) (rest := rest) (hlen _ hsigM) hstack hdg
  rcases hK m meth c ⟨T.setVm vm₁, locs, cells, slots⟩ { g with stack := rest } (.invokevirtual index) mk (Value.ref b :: argsL).toArray X₁ hg hsize hdg hW (X₁.named hnamed) (hpre vm₁ X₁.warmed) with ⟨v, B, X', hpost, hsteps⟩ | ⟨q, B, X', hpost, hsteps⟩
  · exact Or.inl ⟨v, vm₁, B, X₁.warmed, X', hpost, fun target h => hstep₁ _ fun acts => by rw [doInvoke_state]; exact hsteps.trans h⟩
  · exact Or.inr ⟨q, vm₁, B, X₁.warmed, X', hpost, hstep₁ _ fun acts => by rw [doInvoke_state]; exact hsteps⟩
theorem vx_callSX (X : Stand p l e R s m args below meth c T locs cells slots) (hexec : p.tables.exec = Jvm.exec) {own : String} {index : Nat} {y : MethodName} {bytes : ByteArray} {maxL : Nat} {ret : Option FieldType} {hh : List (Nat × Nat × Nat × Nat)}
    (hown : s.vm.findClass own = some m.cls) (hlink : (Cond.methodLink own index y).before args s = true) (hstat : (Cond.static y).before args s = true) (hinit : (Cond.initialized y.cls).before args s = true)
    (hcode : (Cond.codeWith y bytes maxL ret hh).before args s = true) (hy : y.cls ≠ "java/lang/invoke/MethodHandle" ∧ y.cls ≠ "java/lang/invoke/VarHandle")
    {W9 : Nat} {Pre : Pt → Array Value → Prop} {Post : Pt → Array Value → Option Value → Pt → Prop} {PostX : Pt → Array Value → Addr → Pt → Prop} (hK : vx_Back l R p e below s args y 3 W9 Pre Post PostX)
    {g : JFrame} (hg : g.method = m) (hsize : g.locals.size = c.maxLocals) {argsL rest : List Value} (hlen : ∀ sig, parseMethodDescriptor y.desc = some sig → argsL.length = sig.parameters.length)
    (hstack : g.stack = argsL.reverse ++ rest) (hW : 2 * g.monitorRoom + (rest.map fun v => v.category).sum ≤ W9) (hdg : decode c.code g.pc = .ok (.invokestatic index, 3))
    (hpre : ∀ vm₁, s.WarmedH vm₁ → Pre ⟨T.setVm vm₁, locs, cells, slots⟩ argsL.toArray) :
    (∃ (v : Option Value) (vm₁ : Vm) (B : Pt), s.WarmedH vm₁ ∧ Stand p l e R s m args below meth c B.U B.locs B.cells B.slots ∧ Post ⟨T.setVm vm₁, locs, cells, slots⟩ argsL.toArray v B ∧
      ∀ target, Steps p.tables e below (B.U.setTop { g with pc := g.pc + 3, stack := v.toList ++ rest }) target → Steps p.tables e below (T.setTop g) target) ∨
    (∃ (q : Addr) (vm₁ : Vm) (B : Pt), s.WarmedH vm₁ ∧ Stand p l e R s m args below meth c B.U B.locs B.cells B.slots ∧ PostX ⟨T.setVm vm₁, locs, cells, slots⟩ argsL.toArray q B ∧
      Steps p.tables e below (T.setTop g) ((B.U.setTop { g with stack := rest }).pushFrame (.throwing q))) := by
  obtain ⟨mk, methM, cM, hnamed, hmethM, -, -, -, -, -, -, hsigM⟩ := Cond.codeWith_spec hcode
  have hstatic : methM.isStatic = true := Cond.static_spec hnamed hmethM hstat
  obtain ⟨kP, hkP, -⟩ := className_of_methodNamed hnamed
  have hinitP : kP.init = .initialized := Cond.initialized_spec (findClass_of_methodNamed hnamed) hkP hinit
  obtain ⟨vm₁, X₁, hstep₁⟩ := X.invokestatic hexec hown hlink hnamed hmethM hstatic hkP hinitP hy (g := g) hg (argsL := argsL) (rest := rest) (hlen _ hsigM) hstack hdg
  rcases hK m meth c ⟨T.setVm vm₁, locs, cells, slots⟩ { g with stack := rest } (.invokestatic index) mk argsL.toArray X₁ hg hsize hdg hW (X₁.named hnamed) (hpre vm₁ X₁.warmed) with ⟨v, B, X', hpost, hsteps⟩ | ⟨q, B, X', hpost, hsteps⟩
  · exact Or.inl ⟨v, vm₁, B, X₁.warmed, X', hpost, fun target h => hstep₁ _ fun acts => by rw [doInvoke_state]; exact hsteps.trans h⟩
  · exact Or.inr ⟨q, vm₁, B, X₁.warmed, X', hpost, hstep₁ _ fun acts => by rw [doInvoke_state]; exact hsteps⟩
theorem vx_callVW (X : Stand p l e R s m args below meth c T locs cells slots) (hexec : p.tables.exec = Jvm.exec) {own C : String} {index : Nat} {y : MethodName} {bytes : ByteArray} {maxL : Nat} {ret : Option FieldType} {hh : List (Nat × Nat × Nat × Nat)}
    (hown : s.vm.findClass own = some m.cls) (hlink : (Cond.methodLink own index y).before args s = true) (hinst : (Cond.instanceMethod y).before args s = true) (hsel : (Cond.selects C y y).before args s = true)
    (hcode : (Cond.codeWith y bytes maxL ret hh).before args s = true) (hy : y.cls ≠ "java/lang/invoke/MethodHandle" ∧ y.cls ≠ "java/lang/invoke/VarHandle")
    {W9 : Nat} {Pre : Pt → Array Value → Prop} {Post : Pt → Array Value → Option Value → Pt → Prop} (hK : Back l R p e below s args y 3 W9 Pre Post)
    {b : Addr} {cellB : Cell} (hcell : T.heap[b]? = some cellB) (hobj : cellB.vm.isStatics = false) (hcls : s.vm.findClass C = some cellB.cls)
    {g : JFrame} (hg : g.method = m) (hsize : g.locals.size = c.maxLocals) {argsL rest : List Value} (hlen : ∀ sig, parseMethodDescriptor y.desc = some sig → argsL.length = sig.parameters.length)
    (hstack : g.stack = argsL.reverse ++ .ref b :: rest) (hW : 2 * g.monitorRoom + (rest.map fun v => v.category).sum ≤ W9) (hdg : decode c.code g.pc = .ok (.invokevirtual index, 3))
    (hpre : ∀ vm₁, s.WarmedH vm₁ → Pre ⟨T.setVm vm₁, locs, cells, slots⟩ (Value.ref b :: argsL).toArray) :
    ∃ (v : Option Value) (vm₁ : Vm) (B : Pt), s.WarmedH vm₁ ∧ Stand p l e R s m args below meth c B.U B.locs B.cells B.slots ∧ Post ⟨T.setVm vm₁, locs, cells, slots⟩ (Value.ref b :: argsL).toArray v B ∧
      ∀ target, Steps p.tables e below (B.U.setTop { g with pc := g.pc + 3, stack := v.toList ++ rest }) target → Steps p.tables e below (T.setTop g) target := by
  obtain ⟨mk, methM, hnamed, hmethM, hstM, habM⟩ := Cond.instanceMethod_spec hinst
  obtain ⟨m8, methM', cM, hn8, hmethM', -, -, -, -, -, -, hsigM⟩ := Cond.codeWith_spec hcode
  cases Option.some.inj (hn8.symm.trans hnamed)
  cases hmethM.symm.trans hmethM'
  obtain ⟨c2, r2, m2, q1, q2, q3, q4, kP, hkP, hkPi⟩ := Cond.selects_spec hsel
  cases hcls.symm.trans q1
  cases (State.methodFound?_of_named hnamed hy).symm.trans q2
  cases hnamed.symm.trans q3
  have hselP : selectMethod e.platform s.vm cellB.cls mk = .method mk := by rw [Launch.admits_selectMethod X.admits]; exact q4
  obtain ⟨vm₁, X₁, hstep₁⟩ := X.invokevirtual hexec hown hlink hnamed hmethM hstM hkP hkPi hy (a := b) (cell := cellB) hcell
    (fun z h => by rw [h] at hobj; cases hobj) hselP hmethM habM hkP hkPi (g := g) hg (argsL := argsL) (rest := rest) (hlen _ hsigM) hstack hdg
  obtain ⟨v, B, X', hpost, hsteps⟩ := hK m meth c ⟨T.setVm vm₁, locs, cells, slots⟩ { g with stack := rest } (.invokevirtual index) mk (Value.ref b :: argsL).toArray X₁ hg hsize hdg hW (X₁.named hnamed) (hpre vm₁ X₁.warmed)
  exact ⟨v, vm₁, B, X₁.warmed, X', hpost, fun target h => hstep₁ _ fun acts => by rw [doInvoke_state]; exact hsteps.trans h⟩
abbrev vx_CVW (R : Room) (s : State) (args : Array Value) (own C : String) (index : Nat) (y : MethodName) (bytes : ByteArray) (maxL : Nat) (ret : Option FieldType) (hh : List (Nat × Nat × Nat × Nat)) (ws : List Cond) (rm : Room) (mc ms n : Nat) : Prop :=
  (rm.cells = mc ∧ rm.slots = ms ∧ rm.frames + 1 ≤ R.frames ∧ 8 + (maxL + 11) + rm.locals ≤ R.locals ∧ (∀ w ∈ ws, ∀ (a' : Array Value) (U : State), s.WarmedH U.vm → w.before a' U = true) ∧ Cond.codeWith y bytes maxL ret hh ∈ ws) ∧
  (Cond.codeWith y bytes maxL ret hh).before args s = true ∧ (Cond.initialized y.cls).before args s = true ∧ (y.cls ≠ "java/lang/invoke/MethodHandle" ∧ y.cls ≠ "java/lang/invoke/VarHandle") ∧
  (∀ sig, parseMethodDescriptor y.desc = some sig → n = sig.parameters.length) ∧ (Cond.methodLink own index y).before args s = true ∧ (Cond.instanceMethod y).before args s = true ∧ (Cond.selects C y y).before args s = true
theorem vx_cwVW {own C : String} {index maxL mc ms : Nat} {y : MethodName} {bytes : ByteArray} {ret : Option FieldType} {hh : List (Nat × Nat × Nat × Nat)} {Ts ws ws' : List Cond} {rm : Room} (n : Nat) (ht : ∀ w ∈ Ts, w.before args s = true) (hT : GoodIn Ts (wsV own index C y ws)) (hw : ws = Cond.codeWith y bytes maxL ret hh :: ws') (hrc : rm.cells = mc) (hrs : rm.slots = ms)
    (hd : y.cls = C ∧ y.cls ≠ "java/lang/invoke/MethodHandle" ∧ y.cls ≠ "java/lang/invoke/VarHandle" ∧ (parseMethodDescriptor y.desc).map (fun d => d.parameters.length) = some n) (hR : rm.frames + 1 ≤ R.frames ∧ 8 + (maxL + 11) + rm.locals ≤ R.locals) :
    vx_CVW R s args own C index y bytes maxL ret hh ws rm mc ms n := by
  obtain ⟨hC, hd⟩ := hd
  subst hC
  have ok : ∀ w ∈ wsV own index y.cls y ws, w.before args s = true := fun w h => ht w (hT w h).1
  have hG : GoodIn Ts ws := fun w h => hT w (by unfold wsV; exact List.mem_append_right _ h)
  have hc : Cond.codeWith y bytes maxL ret hh ∈ ws := by rw [hw]; exact List.mem_cons_self
  refine ⟨⟨hrc, hrs, hR.1, hR.2, pay_in ht hG, hc⟩, ht _ (hG _ hc).1, ok _ (by simp [wsV]), ⟨hd.1, hd.2.1⟩, fun sig h => ?_, ok _ (by simp [wsV]), ok _ (by simp [wsV]), ok _ (by simp [wsV])⟩
  have h2 := hd.2.2
  rw [h] at h2
  exact (Option.some.inj h2).symm
theorem vx_runVW {y : MethodName} {bytes cc : ByteArray} {maxL nL mc ms n index : Nat} {ret : Option FieldType} {hh : List (Nat × Nat × Nat × Nat)} {ws : List Cond} {rm : Room} {Pc : Array Value → State → Prop} {Qc : Array Value → State → Outcome → State → Prop} {free : Addr → Prop} {Ts : List Cond} {own C : String} {b : Addr} {As rest : List Value} {g : JFrame}
    (S : CallFix p m c cc nL s args Ts own) (hM : Met l y ws rm Pc Qc mc ms free) (cw : vx_CVW R s args own C index y bytes maxL ret hh ws rm mc ms n) (hp : PreV s H C b Pc As)
    (hg : g.method = m) (hn : As.length = n) (hsize : g.locals.size = nL) (hstack : g.stack = As.reverse ++ .ref b :: rest) (hW : 2 * g.monitorRoom + (rest.map fun v => v.category).sum ≤ 8) (hdg : decode cc g.pc = .ok (.invokevirtual index, 3)) (hf : cells + mc ≤ R.cells ∧ slots + ms ≤ R.slots) :
    va_Run p l e R s m args below meth c H locs cells slots mc ms g rest (Qc (Value.ref b :: As).toArray) free := by
  obtain ⟨⟨hrc, hrs, hfr, hlo, hws, hcw⟩, hcode, hini, hy, hlen, hl, hin, hse⟩ := cw
  have hK : Back l R p e below s args y 3 8 (PreOf R mc ms Pc) (PostOf Qc mc ms free) := va_backW (hh := hh) (bytes := bytes) (maxL := maxL) (ret := ret) hM hp.1 hrc hrs hfr hlo hws hcw (fun a' U hW => word_at hW (Or.inl (by first | rfl | simp [Cond.onTables, Cond.keeps, Cond.steady])) hini)
  obtain ⟨hx, hb, hml, ho, -⟩ := S
  obtain ⟨-, ⟨cellB, hcB, hoB, hclB⟩, hPc⟩ := hp
  intro T hT X
  obtain ⟨v, vm₁, ⟨U', l2, c2, s2⟩, hW₁, X', ⟨g', mk, t, L, e1, e2, hq, h1, hL, h2, h3⟩, st⟩ := vx_callVW X hx (C := C) (hh := hh) (bytes := bytes) (maxL := maxL) (ret := ret) ho hl hin hse hcode hy hK (by rw [hT]; exact hcB) hoB hclB hg (hsize.trans hml.symm) (argsL := As) (rest := rest) (fun sig h => hn.trans (hlen sig h)) hstack hW (by rw [hb]; exact hdg)
    (fun vm₁ hW₁ => ⟨hf.1, hf.2, hPc (T.setVm vm₁) hT hW₁⟩)
  dsimp only [Pt.U, Pt.locs, Pt.cells, Pt.slots] at X' e1 e2 h1 h2 h3 st
  subst h1; subst h2; subst h3
  exact ⟨v, (T.setVm vm₁).calling g' mk (Value.ref b :: As).toArray, t, U', L, hT, X', hL, e1, e2, hq, st⟩
section
variable {y : MethodName} {bytes cc : ByteArray} {maxL nL mc ms n index : Nat} {ret : Option FieldType} {ws : List Cond} {rm : Room} {Pc : Array Value → State → Prop} {Qc : Array Value → State → Outcome → State → Prop} {XC : String → State → State → Prop} {free : Addr → Prop} {Ts : List Cond} {own C : String} {b : Addr} {As rest : List Value} {g : JFrame}
theorem vx_runVX {hh : List (Nat × Nat × Nat × Nat)} (S : CallFix p m c cc nL s args Ts own) (hM : vx_Met l y ws rm Pc Qc XC mc ms free) (cw : vx_CVW R s args own C index y bytes maxL ret hh ws rm mc ms n) (hp : PreV s H C b Pc As)
    (hg : g.method = m) (hn : As.length = n) (hsize : g.locals.size = nL) (hstack : g.stack = As.reverse ++ .ref b :: rest) (hW : 2 * g.monitorRoom + (rest.map fun v => v.category).sum ≤ 8) (hdg : decode cc g.pc = .ok (.invokevirtual index, 3)) (hf : cells + mc ≤ R.cells ∧ slots + ms ≤ R.slots) :
    vx_Run p l e R s m args below meth c H locs cells slots mc ms g rest (Qc (Value.ref b :: As).toArray) XC free := by
  obtain ⟨⟨hrc, hrs, hfr, hlo, hws, hcw⟩, hcode, hini, hy, hlen, hl, hin, hse⟩ := cw
  have hK : vx_Back l R p e below s args y 3 8 (PreOf R mc ms Pc) (PostOf Qc mc ms free) (vx_Post XC mc ms free) := vx_backW (hh := hh) (bytes := bytes) (maxL := maxL) (ret := ret) hM hp.1 hrc hrs hfr hlo hws hcw (fun a' U hW => word_at hW (Or.inl (by first | rfl | simp [Cond.onTables, Cond.keeps, Cond.steady])) hini)
  obtain ⟨hx, hb, hml, ho, -⟩ := S
  obtain ⟨-, ⟨cellB, hcB, hoB, hclB⟩, hPc⟩ := hp
  intro T hT X
  rcases vx_callVX X hx (C := C) (hh := hh) (bytes := bytes) (maxL := maxL) (ret := ret) ho hl hin hse hcode hy hK (by rw [hT]; exact hcB) hoB hclB hg (hsize.trans hml.symm) (argsL := As) (rest := rest) (fun sig h => hn.trans (hlen sig h)) hstack hW (by rw [hb]; exact hdg)
    (fun vm₁ hW₁ => ⟨hf.1, hf.2, hPc (T.setVm vm₁) hT hW₁⟩) with ⟨v, vm₁, ⟨U', l2, c2, s2⟩, hW₁, X', ⟨g', mk, t, L, e1, e2, hq, h1, hL, h2, h3⟩, st⟩ | ⟨q, vm₁, ⟨U', l2, c2, s2⟩, hW₁, X', ⟨g', mk, t, L, E, ce, e1, e2, hq, hce, hcv, hcl, h1, hL, h2, h3⟩, st⟩
  · dsimp only [Pt.U, Pt.locs, Pt.cells, Pt.slots] at X' e1 e2 h1 h2 h3 st
    subst h1; subst h2; subst h3
    exact Or.inl ⟨v, (T.setVm vm₁).calling g' mk (Value.ref b :: As).toArray, t, U', L, hT, X', hL, e1, e2, hq, st⟩
  · dsimp only [Pt.U, Pt.locs, Pt.cells, Pt.slots] at X' e1 e2 h1 h2 h3 st hcl
    subst h1; subst h2; subst h3
    exact Or.inr ⟨q, (T.setVm vm₁).calling g' mk (Value.ref b :: As).toArray, t, U', L, E, ce, hT, X', hL, e1, e2, hq, hce, hcv, vx_cls hW₁ hcl, st⟩
theorem vx_runSX {hh : List (Nat × Nat × Nat × Nat)} (S : CallFix p m c cc nL s args Ts own) (hM : vx_Met l y ws rm Pc Qc XC mc ms free) (cw : vx_CSW R s args own index y bytes maxL ret hh ws rm mc ms n) (hp : PreS s H Pc As)
    (hg : g.method = m) (hn : As.length = n) (hsize : g.locals.size = nL) (hstack : g.stack = As.reverse ++ rest) (hW : 2 * g.monitorRoom + (rest.map fun v => v.category).sum ≤ 8) (hdg : decode cc g.pc = .ok (.invokestatic index, 3)) (hf : cells + mc ≤ R.cells ∧ slots + ms ≤ R.slots) :
    vx_Run p l e R s m args below meth c H locs cells slots mc ms g rest (Qc As.toArray) XC free := by
  obtain ⟨⟨hrc, hrs, hfr, hlo, hws, hcw⟩, hcode, hini, hy, hlen, hl, hstt⟩ := cw
  have hK : vx_Back l R p e below s args y 3 8 (PreOf R mc ms Pc) (PostOf Qc mc ms free) (vx_Post XC mc ms free) := vx_backW (hh := hh) (bytes := bytes) (maxL := maxL) (ret := ret) hM hp.1 hrc hrs hfr hlo hws hcw (fun a' U hW => word_at hW (Or.inl (by first | rfl | simp [Cond.onTables, Cond.keeps, Cond.steady])) hini)
  obtain ⟨hx, hb, hml, ho, -⟩ := S
  intro T hT X
  rcases vx_callSX X hx (hh := hh) (bytes := bytes) (maxL := maxL) (ret := ret) ho hl hstt hini hcode hy hK hg (hsize.trans hml.symm) (argsL := As) (rest := rest) (fun sig h => hn.trans (hlen sig h)) hstack hW (by rw [hb]; exact hdg)
    (fun vm₁ hW₁ => ⟨hf.1, hf.2, hp.2 (T.setVm vm₁) hT hW₁⟩) with ⟨v, vm₁, ⟨U', l2, c2, s2⟩, hW₁, X', ⟨g', mk, t, L, e1, e2, hq, h1, hL, h2, h3⟩, st⟩ | ⟨q, vm₁, ⟨U', l2, c2, s2⟩, hW₁, X', ⟨g', mk, t, L, E, ce, e1, e2, hq, hce, hcv, hcl, h1, hL, h2, h3⟩, st⟩
  · dsimp only [Pt.U, Pt.locs, Pt.cells, Pt.slots] at X' e1 e2 h1 h2 h3 st
    subst h1; subst h2; subst h3
    exact Or.inl ⟨v, (T.setVm vm₁).calling g' mk As.toArray, t, U', L, hT, X', hL, e1, e2, hq, st⟩
  · dsimp only [Pt.U, Pt.locs, Pt.cells, Pt.slots] at X' e1 e2 h1 h2 h3 st hcl
    subst h1; subst h2; subst h3
    exact Or.inr ⟨q, (T.setVm vm₁).calling g' mk As.toArray, t, U', L, E, ce, hT, X', hL, e1, e2, hq, hce, hcv, vx_cls hW₁ hcl, st⟩
end
end VXH
theorem vx_ofWH {l : Launch} {y : MethodName} {ws ws' : List Cond} {rm : Room} {Pc : Array Value → State → Prop} {Qc : Array Value → State → Outcome → State → Prop} {XC : String → State → State → Prop} {mc ms : Nat} {free : Addr → Prop} {cc : ByteArray} {maxL : Nat} {ret : Option FieldType} {hh : List (Nat × Nat × Nat × Nat)}
    (hy : plainName y.cls = true) (hw : ws = Cond.codeWith y cc maxL ret hh :: ws')
    (body : ∀ p e s m args below meth c s₁, BodyLoose p l y (headSpec ws rm) cc maxL ret e s m args below meth c s₁ → c.maxLocals = maxL → Pc args s →
      W p l e (headSpec ws rm).room s m args below meth c s.heap [] 0 0 (vx_MQ below Qc XC args s mc ms free) (entryFrame m args maxL)) : vx_Met l y ws rm Pc Qc XC mc ms free := by
  refine MetFree.of_bodyS (code := cc) (maxLocals := maxL) (ret := ret) hy ?_ ?_
  · intro args s m h hn
    obtain ⟨m9, meth, c, hn9, h1, h2, h3, h4, -, h5, h6, -⟩ := Cond.codeWith_spec (atoms_spec (ws := ws) h _ (by rw [hw]; exact List.mem_cons_self))
    cases hn.symm.trans hn9
    exact ⟨meth, c, h1, h2, h3, h4, h5, h6⟩
  · intro p e s m args below meth c s₁ B hml hP _
    have hh0 : s₁.heap = s.heap := by rw [B.state]; rfl
    obtain ⟨t, a1, o, b1, b2, b3⟩ := body p e s m args below meth c s₁ B hml hP s₁ hh0 (Stand.of_body B)
    exact ⟨t, o, a1, b1, b2, b3⟩
/-! ===== END ===== -/
/-! ===== BEGIN what the machine throws by itself, no traces kept ===== -/
section VXM
set_option maxHeartbeats 1000000 in
/-- the machine throws cls with the message text, no traces kept: from its note over the frame g to 'throwing' over the same frame (follows the proofs of Stand.vmThrowsMessage, Shelf/KitTracedVmS.lean, and Stand.throwsMessageColdBareV, StandMessageColdV.lean, without the step out of the frame) -/
theorem vx_vmAt {p : Program} {l : Launch} {e : Env} {R : Room} {s : State} {m₀ : MethodId} {args : Array Value} {below : List Frame} {meth : Method} {c : Code} {W : State} {locs : List Loc} {cells slots : Nat}
    (X : Stand p l e R s m₀ args below meth c W locs cells slots) (hexec : p.tables.exec = Jvm.exec) (htr : e.platform.stackTraces = false) {cls : String} {names : List String} {text : String}
    (hcls : Bundle.fit cls = true) (hnames : ∀ n ∈ names, Bundle.fit n = true) (hsoe : (cls == "java/lang/StackOverflowError") = false) (hoom : (cls == "java/lang/OutOfMemoryError") = false)
    (h : ∀ a ∈ Bundle.messageArmAtoms cls names, a.before args s = true)
    (hlocs : ∀ x ∈ locs, ∀ cell, s.heap[x.base]? = some cell → cell.vm.isStatics = false)
    (htext : (text == notModelled) = false) (hlimit : ¬ (stringBytes (stringToUtf16 text)).size > e.platform.arrayLengthLimit) (hheap : ¬ (stringBytes (stringToUtf16 text)).size * componentBytes .byte > e.platform.maxHeapBytes)
    {g : JFrame} (hg : g.method = m₀) (hsize : g.locals.size = c.maxLocals)
    (hRframes : names.length + 4 < R.frames) (hRlocals : 2 * g.monitorRoom + (g.stack.map fun v => v.category).sum + 10240 ≤ R.locals) (hshort : 13 * names.length + 55 ≤ 10240)
    (hRcells : cells + 3 ≤ R.cells) (hRslots : slots + ((stringBytes (stringToUtf16 text)).size + 4 + 6) ≤ R.slots) (hlocks : meth.locks = false) :
    ∃ (S : State) (q : Addr) (ce : Cell), (∀ target, Steps p.tables e below ((S.setTop g).pushFrame (.throwing q)) target → Steps p.tables e below ((W.setTop g).pushFrame (.throwNew cls (some text) none)) target) ∧
      Stand p l e R s m₀ args below meth c S locs (cells + 3) (slots + ((stringBytes (stringToUtf16 text)).size + 4 + 6)) ∧ S.heap[q]? = some ce ∧ s.vm.findClass cls = some ce.cls ∧ ce.vm = .none := by
  have howns : e.platform.frameOwnsMonitors = true := by rw [X.admits.platform]
  have hfin : e.platform.finalization = false := by rw [X.admits.platform]
  have hpl : e.platform.magicAccessors = ({} : Platform).magicAccessors := by rw [X.admits.platform]
  have a : ∀ x, x ∈ Bundle.messageArmAtoms cls names → x.holds args s none s [] = true := fun x hx => h x hx
  obtain ⟨T, Z0, L, -, Y⟩ := ThrowableC.of_atoms (args := args) howns hfin hpl (fun x hx => h x (by simp [Bundle.messageArmAtoms, hx]))
  obtain ⟨Z, M, LZ, LM, hnZ⟩ := Init0T.ofS_atoms (args := args) hpl L Y (fun x hx => h x (by simp [Bundle.messageArmAtoms, hx]))
  obtain ⟨P1, Ps, hlen, L1, hL, hP1m, hlink1, hlink⟩ := Bundle.chainS (args := args) hpl hnZ names cls hcls hnames (fun x hx => h x (by simp [Bundle.messageArmAtoms, hx]))
  obtain ⟨Zs, LZs, hn4, hfitv, hfitc⟩ := StringT.of_atoms (args := args) (fun x hx => h x (by simp [Bundle.messageArmAtoms, hx]))
  have hfound : s.vm.findClass cls = some P1.m.cls := findClass_of_methodNamed hP1m
  obtain ⟨c1, kX, hc1, hk, hord, -, -, hn6⟩ := Cond.instantiable_spec (a (.instantiable cls 6) (by simp [Bundle.messageArmAtoms]))
  cases Option.some.inj (hc1.symm.trans hfound)
  have hinit := Cond.initialized_spec hfound hk (a (.initialized cls) (by simp [Bundle.messageArmAtoms]))
  have hctor : kX.findMethod "<init>" "(Ljava/lang/String;)V" = some P1.m.idx := findMethod_of_methodNamed hP1m hk
  have hsel0 : selectMethod e.platform s.vm P1.m.cls T.fill0 = .method T.fill0 := by
    obtain ⟨c2, r2, m2, q1, q2, q3, q4, -⟩ := Cond.selects_spec (a (.selects cls Bundle.tFill0 Bundle.tFill0) (by simp [Bundle.messageArmAtoms]))
    cases Option.some.inj (q1.symm.trans hfound)
    cases Option.some.inj (q2.symm.trans (State.methodFound?_of_named Y.fill0 (by decide)))
    cases Option.some.inj (q3.symm.trans Y.fill0)
    rw [Launch.admits_selectMethod X.admits]; exact q4
  have hselF : selectMethod e.platform s.vm P1.m.cls T.fill = .method T.fill := by
    obtain ⟨c2, r2, m2, q1, q2, q3, q4, -⟩ := Cond.selects_spec (a (.selects cls Bundle.tFill Bundle.tFill) (by simp [Bundle.messageArmAtoms]))
    cases Option.some.inj (q1.symm.trans hfound)
    cases Option.some.inj (q2.symm.trans (State.methodFound?_of_named Y.fill (by decide)))
    cases Option.some.inj (q3.symm.trans Y.fill)
    rw [Launch.admits_selectMethod X.admits]; exact q4
  obtain ⟨cellS0, hcS0, hiss⟩ := Y.statics
  obtain ⟨u0, hu0⟩ := Cond.staticRefV Y.unassigned L.unassignedStatic L.statics hcS0 hiss (a (.isRef (.static Bundle.tN "UNASSIGNED_STACK" Bundle.steD)) (by simp [Bundle.messageArmAtoms]))
  obtain ⟨sen, hsen⟩ := Cond.staticRefV Y.sentinel L.sentinelStatic L.statics hcS0 hiss (a (.isRef (.static Bundle.tN "SUPPRESSED_SENTINEL" Bundle.listD)) (by simp [Bundle.messageArmAtoms]))
  obtain ⟨ci198, i198, fB, hk198, hg198, ha198, hsB, -, hnB, htB, hffB⟩ := Cond.ownField (t := .object "java/lang/Object") Y.found L.cls (by decide +kernel) (a (.fieldLink Bundle.tN 198 Bundle.tN "backtrace" "Ljava/lang/Object;") (by simp [Bundle.messageArmAtoms])) (a (.lays Bundle.tN Bundle.tN "backtrace" "Ljava/lang/Object;") (by simp [Bundle.messageArmAtoms])) e.platform hpl
  obtain ⟨cellS, hcS', heS, -, hkeep⟩ := X.same.2.2.2.2.2 T.aS cellS0 hcS0
  have hcellS : W.heap[T.aS]? = some cellS := hcS'
  have hout' : ∀ i, (⟨T.aS, i⟩ : Loc) ∉ locs := fun i hmem => by
    have := hlocs _ hmem cellS0 hcS0
    rw [hiss] at this; cases this
  have hknownS : cellS.vm ≠ .unknown := by
    rw [heS]; intro hu
    rw [show cellS0.vm = .unknown from hu] at hiss
    cases hiss
  have hvU : cellS.slots[T.fUnassigned.slot]? = some u0.v := by rw [hkeep _ (hout' _)]; exact hu0
  have hvSen : cellS.slots[T.fSentinel.slot]? = some sen.v := by rw [hkeep _ (hout' _)]; exact hsen
  obtain ⟨iM, hffM⟩ := Y.msg
  obtain ⟨tyC, dC, hdC, hdnC⟩ := Cond.laysAt hfound hk Y.cause (a (.lays cls Bundle.tN "cause" "Ljava/lang/Throwable;") (by simp [Bundle.messageArmAtoms]))
  obtain ⟨tyS, dS, hdS, hdnS⟩ := Cond.laysAt hfound hk Y.stack (a (.lays cls Bundle.tN "stackTrace" Bundle.steD) (by simp [Bundle.messageArmAtoms]))
  obtain ⟨tyP, dP, hdP, hdnP⟩ := Cond.laysAt hfound hk Y.supp (a (.lays cls Bundle.tN "suppressedExceptions" Bundle.listD) (by simp [Bundle.messageArmAtoms]))
  obtain ⟨tyM, dM, hdM, hdnM⟩ := Cond.laysAt hfound hk hffM (a (.lays cls Bundle.tN "detailMessage" "Ljava/lang/String;") (by simp [Bundle.messageArmAtoms]))
  obtain ⟨tyB, dB, hdB, hdnB⟩ := Cond.laysAt hfound hk hffB (a (.lays cls Bundle.tN "backtrace" "Ljava/lang/Object;") (by simp [Bundle.messageArmAtoms]))
  have bC := Cond.laysApart hdB hdC hdnB hdnC (by rw [hnB, Y.causeName]; decide)
  have bS := Cond.laysApart hdB hdS hdnB hdnS (by rw [hnB, Y.stackName]; decide)
  have bP := Cond.laysApart hdB hdP hdnB hdnP (by rw [hnB, Y.suppName]; decide)
  have hbk : ((preparedCellV T.toThrowableT (freshCell P1.m.cls kX) (W.heap.size + 2) u0 sen).withEntry W.cur).slots[fB.slot]? = some .null := by
    have := fresh_default (c := P1.m.cls) tyB
    rw [htB] at this
    simpa [preparedCellV, Cell.setSlot, Cell.withEntry, Array.getElem?_setIfInBounds, bC, bS, bP, bC.symm, bS.symm, bP.symm, defaultValue] using this
  have tkC := Takes.of_laid (v := .ref (W.heap.size + 2)) hk hord tyC (by rw [Y.causeType]; rfl)
  have tkS := Takes.of_laid (v := u0.v) hk hord tyS (by rw [Y.stackType]; exact fits_refV_array _ u0)
  have tkP := Takes.of_laid (v := sen.v) hk hord tyP (by rw [Y.suppType]; exact fits_refV_object _ sen)
  have tkM := Takes.of_laid (v := .ref (W.heap.size + 1)) hk hord tyM (by rw [Y.msgType]; rfl)
  have hskip : SkipFacts T e.platform s (fun u => u) u0 ((preparedCellV T.toThrowableT (freshCell P1.m.cls kX) (W.heap.size + 2) u0 sen).withEntry W.cur) := ⟨{ ci198 := ci198, i198 := i198, fBack := fB }, ⟨hk198, hg198, ha198, hsB⟩, hbk, fun _ _ => rfl⟩
  have h0 : At W g.method c below := by rw [hg]; exact X.here
  obtain ⟨hbeyond, hfreeW⟩ := X.vmMayThrow hsize (.throwNew cls (some text) none) (fun f hf => by cases hf) rfl hRlocals
  have hfr' : W.frames.length + Ps.length + 4 < (e.platform.stackLimits W.me).1 := by have := X.framesAbove hRframes; omega
  have hwd' : (stackUse (.java g :: W.frames.tail)).2 + 13 * Ps.length + 55 ≤ (e.platform.stackLimits W.me).2 := by have := X.stackAbove hsize (K := 13 * Ps.length + 55) (by omega); omega
  have hslots : W.slotsUsed + (stringBytes (stringToUtf16 text)).size + Zs.kS.instanceTypes.size + kX.instanceTypes.size ≤ e.platform.maxSlots := by
    have := X.slotsAbove hRslots
    rw [hn4, hn6]
    omega
  obtain ⟨vm', hW', st⟩ := Steps.vmThrowsMessageColdByV p (s₀ := s) (S := W) (g := g) h0 hexec T L Z LZ M LM X.warmed (t := W.cur) rfl Zs LZs P1 L1 Ps hL hlink1 hlink hsoe hoom hfound hk hinit hord hctor
    (Launch.admits_hotImplicitExceptions X.admits) hbeyond hfreeW htext hlimit hheap (X.cellsAbove hRcells) hslots (hfitv _) (hfitc _)
    (Nn := fun u => u) heapOnly_id (fun _ _ => rfl) (fun _ => rfl) (fun u x y => setCell_twice _ _ _ _) (fun _ => Nat.le_refl _) (cN := ((preparedCellV T.toThrowableT (freshCell P1.m.cls kX) (W.heap.size + 2) u0 sen).withEntry W.cur))
    hsel0 hcellS hknownS hvU tkS (fun _ hu => hu) (fun _ hu => hu) rfl rfl rfl (by simp [preparedCellV, Cell.setSlot, Cell.withEntry]) hskip (fun _ _ hA hW _ hroom _ hrest => L.nativeOff p htr hA hW hroom hrest) hselF hvSen tkC tkP tkM Y.objLocals rfl hfr' hwd'
  rw [plainBareV_eq T.toThrowableT (W.heap.size + 2) u0 sen (.ref (W.heap.size + 1)) W.cur rfl rfl] at st
  obtain ⟨-, -, w3, w4, -, -, -⟩ := withThrown_facts e.platform W Zs text P1.m.cls kX
  have X3 := ((X.pushed (bytesOf Zs.cB (stringToUtf16 text))).pushed (stringAt Zs.cS Zs.kS Zs.fv Zs.fc (stringToUtf16 text) W.heap.size)).pushed (freshCell P1.m.cls kX)
  rw [← withString_eq] at X3
  have X4 := X3.noted hW'
  have ha : (W.heap.size + 2) < ((withThrown W Zs text P1.m.cls kX).setVm vm').heap.size := by show _ < (withThrown W Zs text P1.m.cls kX).heap.size; rw [w3]; omega
  have hcell : ((withThrown W Zs text P1.m.cls kX).setVm vm').heap[(W.heap.size + 2)]? = some (freshCell P1.m.cls kX) := w4
  have X5 := ((((X4.stored hcell T.fCause.slot (.ref (W.heap.size + 2))).storedAgain ha T.fStack.slot u0.v).storedAgain ha T.fSupp.slot sen.v).storedAgain ha T.fStack.slot u0.v).storedAgain ha T.fMsg.slot (.ref (W.heap.size + 1))
  obtain ⟨g₁, hfrM⟩ := X5.frames_eq
  have hU : ((((withThrown W Zs text P1.m.cls kX).setVm vm').setCell (W.heap.size + 2) (plainBareV T.toThrowableT (freshCell P1.m.cls kX) (W.heap.size + 2) u0 sen (.ref (W.heap.size + 1)))).setTop g).pushFrame (.throwing (W.heap.size + 2)) = (((withThrown W Zs text P1.m.cls kX).setVm vm').setCell (W.heap.size + 2) (plainBareV T.toThrowableT (freshCell P1.m.cls kX) (W.heap.size + 2) u0 sen (.ref (W.heap.size + 1)))).setFrames (.throwing (W.heap.size + 2) :: .java g :: below) := by
    rw [State.pushFrame, State.frames_setTop _ hfrM, State.setTop_of_frames _ hfrM, State.setFrames_setFrames]
  have b1 : (bytesOf Zs.cB (stringToUtf16 text)).slots.size = (stringBytes (stringToUtf16 text)).size := by
    rw [(Cell.writeAll_facts _ _).2.2]; simp [bytes0]
  have b2 : (stringAt Zs.cS Zs.kS Zs.fv Zs.fc (stringToUtf16 text) W.heap.size).slots.size = 4 := by simp [string0, Cell.setSlot, hn4]
  have b3 : (freshCell P1.m.cls kX).slots.size = 6 := by simp [hn6]
  rw [b1, b2, b3] at X5
  have e9 : slots + (stringBytes (stringToUtf16 text)).size + 4 + 6 = slots + ((stringBytes (stringToUtf16 text)).size + 4 + 6) := by omega
  rw [e9] at X5
  simp only [List.append_assoc, List.cons_append, List.nil_append] at X5
  refine ⟨((withThrown W Zs text P1.m.cls kX).setVm vm').setCell (W.heap.size + 2) (plainBareV T.toThrowableT (freshCell P1.m.cls kX) (W.heap.size + 2) u0 sen (.ref (W.heap.size + 1))), W.heap.size + 2, _, fun target ht => st _ (by rw [X.tail, ← hU]; exact ht),
    X5.forget (fun y hy => ?_), heapAt_setCell_self _ ha, hfound, rfl⟩
  simp only [List.mem_cons, List.not_mem_nil, or_false] at hy
  have hge : s.heap.size ≤ W.heap.size := X.same.2.1
  rcases hy with rfl | rfl | rfl | rfl | rfl <;> exact Nat.le_trans hge (Nat.le_add_right _ 2)
set_option maxHeartbeats 1000000 in
/-- the machine throws NullPointerException, no traces kept: from its note over the frame g to 'throwing' over the same frame (follows the proof of Stand.vmThrowsNpe, Shelf42/KT2.lean; throwsNpeColdBareVAt, Shelf42/NT91.lean, called) -/
theorem vx_npeAt {p : Program} {l : Launch} {e : Env} {R : Room} {s : State} {m₀ : MethodId} {args : Array Value} {below : List Frame} {meth : Method} {c : Code} {W : State} {locs : List Loc} {cells slots : Nat}
    (X : Stand p l e R s m₀ args below meth c W locs cells slots) (hexec : p.tables.exec = Jvm.exec) (htr : e.platform.stackTraces = false) {n : Nat}
    (h : ∀ a ∈ Bundle.npeArmAtoms n, a.before args s = true)
    (hlocs : ∀ x ∈ locs, ∀ cell, s.heap[x.base]? = some cell → cell.vm.isStatics = false)
    {g : JFrame} (hg : g.method = m₀) (hsize : g.locals.size = c.maxLocals)
    (hRframes : 7 < R.frames) (hRlocals : 2 * g.monitorRoom + (g.stack.map fun v => v.category).sum + 10240 ≤ R.locals)
    (hRcells : cells + 1 ≤ R.cells) (hRslots : slots + n ≤ R.slots) (hlocks : meth.locks = false) :
    ∃ (S : State) (q : Addr) (ce : Cell), (∀ target, Steps p.tables e below ((S.setTop g).pushFrame (.throwing q)) target → Steps p.tables e below ((W.setTop g).pushFrame (.throwNew "java/lang/NullPointerException" none none)) target) ∧
      Stand p l e R s m₀ args below meth c S locs (cells + 1) (slots + n) ∧ S.heap[q]? = some ce ∧ s.vm.findClass "java/lang/NullPointerException" = some ce.cls ∧ ce.vm = .none := by
  have howns : e.platform.frameOwnsMonitors = true := by rw [X.admits.platform]
  have hfin : e.platform.finalization = false := by rw [X.admits.platform]
  have hpl : e.platform.magicAccessors = ({} : Platform).magicAccessors := by rw [X.admits.platform]
  have hpl2 : e.platform.arrayCloneIsPublic = true := by rw [X.admits.platform]
  have a' : ∀ x, x ∈ Bundle.npeArmAtoms n → x.holds args s none s [] = true := fun x hx => h x hx
  obtain ⟨T, Z, L, LZ, Y⟩ := ThrowableC.of_atoms (args := args) howns hfin hpl (fun x hx => h x (by simp [Bundle.npeArmAtoms, hx]))
  obtain ⟨N, LN, hcN, hnNF, hordN, hffS⟩ := NpeC.of_atoms (args := args) hpl hpl2 L Y (fun x hx => h x (by simp [Bundle.npeArmAtoms, hx]))
  obtain ⟨P1, L1, hP1m, hP1s⟩ := PassC.of_atoms (args := args) (s := s) hpl (X := Bundle.nN) (Y := Bundle.rN) (by decide) (by decide) LibCode.NullPointerException.Init0.at_0 LibCode.NullPointerException.Init0.at_1 LibCode.NullPointerException.Init0.at_4 (fun x hx => h x (by simp [Bundle.npeArmAtoms, hx]))
  obtain ⟨PR, LR, hPRm, hPRs⟩ := PassC.of_atoms (args := args) (s := s) hpl (X := Bundle.rN) (Y := Bundle.eN) (by decide) (by decide) LibCode.RuntimeException.Init0.at_0 LibCode.RuntimeException.Init0.at_1 LibCode.RuntimeException.Init0.at_4 (fun x hx => h x (by simp [Bundle.npeArmAtoms, hx]))
  obtain ⟨PE, LEx, hPEm, hPEs⟩ := PassC.of_atoms (args := args) (s := s) hpl (X := Bundle.eN) (Y := Bundle.tN) (by decide) (by decide) LibCode.Exception.Init0.at_0 LibCode.Exception.Init0.at_1 LibCode.Exception.Init0.at_4 (fun x hx => h x (by simp [Bundle.npeArmAtoms, hx]))
  have hfound : s.vm.findClass Bundle.nN = some P1.m.cls := findClass_of_methodNamed hP1m
  have ecls : N.cN = P1.m.cls := Option.some.inj (hcN.symm.trans hfound)
  have hk : s.vm.classes[P1.m.cls]? = some N.kN := by rw [← ecls]; exact LN.cls
  have hinit := Cond.initialized_spec hfound hk (a' (.initialized Bundle.nN) (by simp [Bundle.npeArmAtoms]))
  have hctor : N.kN.findMethod "<init>" "()V" = some P1.m.idx := findMethod_of_methodNamed hP1m hk
  obtain ⟨c1, k1, hc1, hk1, -, -, -, hn⟩ := Cond.instantiable_spec (a' (.instantiable Bundle.nN n) (by simp [Bundle.npeArmAtoms]))
  cases Option.some.inj (hc1.symm.trans hfound)
  cases Option.some.inj (hk1.symm.trans hk)
  have hfsz : (freshCell P1.m.cls N.kN).slots.size = n := by simp [hn]
  have hlink1 : P1.sup = PR.m := Option.some.inj (hP1s.symm.trans hPRm)
  have hlinkR : PR.sup = PE.m := Option.some.inj (hPRs.symm.trans hPEm)
  have hlinkE : PE.sup = Z.m T.toThrowableT := Option.some.inj (hPEs.symm.trans Y.init0)
  have hLs : ∀ P, P ∈ [PR, PE] → P.Links0 e.platform s := fun P hP => by
    simp only [List.mem_cons, List.not_mem_nil, or_false] at hP
    rcases hP with rfl | rfl
    · exact LR
    · exact LEx
  have hsel0 : selectMethod e.platform s.vm P1.m.cls T.fill0 = .method T.fill0 := by
    obtain ⟨c2, r2, m2, q1, q2, q3, q4, -⟩ := Cond.selects_spec (a' (.selects Bundle.nN Bundle.tFill0 Bundle.tFill0) (by simp [Bundle.npeArmAtoms]))
    cases Option.some.inj (q1.symm.trans hfound)
    cases Option.some.inj (q2.symm.trans (State.methodFound?_of_named Y.fill0 (by decide)))
    cases Option.some.inj (q3.symm.trans Y.fill0)
    rw [Launch.admits_selectMethod X.admits]; exact q4
  have hselF : selectMethod e.platform s.vm P1.m.cls T.fill = .method N.fill := by
    obtain ⟨c2, r2, m2, q1, q2, q3, q4, -⟩ := Cond.selects_spec (a' (.selects Bundle.nN Bundle.tFill Bundle.nFill) (by simp [Bundle.npeArmAtoms]))
    cases Option.some.inj (q1.symm.trans hfound)
    cases Option.some.inj (q2.symm.trans (State.methodFound?_of_named Y.fill (by decide)))
    cases Option.some.inj (q3.symm.trans hnNF)
    rw [Launch.admits_selectMethod X.admits]; exact q4
  obtain ⟨cellS0, hcS0, hiss⟩ := Y.statics
  obtain ⟨u0, hu0⟩ := Cond.staticRefV Y.unassigned L.unassignedStatic L.statics hcS0 hiss (a' (.isRef (.static Bundle.tN "UNASSIGNED_STACK" Bundle.steD)) (by simp [Bundle.npeArmAtoms]))
  obtain ⟨sen, hsen⟩ := Cond.staticRefV Y.sentinel L.sentinelStatic L.statics hcS0 hiss (a' (.isRef (.static Bundle.tN "SUPPRESSED_SENTINEL" Bundle.listD)) (by simp [Bundle.npeArmAtoms]))
  obtain ⟨ci198, i198, fB, hk198, hg198, ha198, hsB, -, hnB, htB, hffB⟩ := Cond.ownField (t := .object "java/lang/Object") Y.found L.cls (by decide +kernel) (a' (.fieldLink Bundle.tN 198 Bundle.tN "backtrace" Bundle.objD) (by simp [Bundle.npeArmAtoms])) (a' (.lays Bundle.tN Bundle.tN "backtrace" Bundle.objD) (by simp [Bundle.npeArmAtoms])) e.platform hpl
  obtain ⟨cellS, hcS', heS, -, hkeep⟩ := X.same.2.2.2.2.2 T.aS cellS0 hcS0
  have hcellS : W.heap[T.aS]? = some cellS := hcS'
  have hout' : ∀ i, (⟨T.aS, i⟩ : Loc) ∉ locs := fun i hmem => by
    have := hlocs _ hmem cellS0 hcS0
    rw [hiss] at this; cases this
  have hknownS : cellS.vm ≠ .unknown := by
    rw [heS]; intro hu
    rw [show cellS0.vm = .unknown from hu] at hiss
    cases hiss
  have hvU : cellS.slots[T.fUnassigned.slot]? = some u0.v := by rw [hkeep _ (hout' _)]; exact hu0
  have hvSen : cellS.slots[T.fSentinel.slot]? = some sen.v := by rw [hkeep _ (hout' _)]; exact hsen
  obtain ⟨tyC, dC, hdC, hdnC⟩ := Cond.laysAt hfound hk Y.cause (a' (.lays Bundle.nN Bundle.tN "cause" "Ljava/lang/Throwable;") (by simp [Bundle.npeArmAtoms]))
  obtain ⟨tyS, dS, hdS, hdnS⟩ := Cond.laysAt hfound hk Y.stack (a' (.lays Bundle.nN Bundle.tN "stackTrace" Bundle.steD) (by simp [Bundle.npeArmAtoms]))
  obtain ⟨tyP, dP, hdP, hdnP⟩ := Cond.laysAt hfound hk Y.supp (a' (.lays Bundle.nN Bundle.tN "suppressedExceptions" Bundle.listD) (by simp [Bundle.npeArmAtoms]))
  obtain ⟨tyX, dX, hdX, hdnX⟩ := Cond.laysAt hfound hk hffS (a' (.lays Bundle.nN Bundle.nN "extendedMessageState" "I") (by simp [Bundle.npeArmAtoms, Bundle.npeAtoms]))
  obtain ⟨hnX, htX⟩ := State.fieldFound?_type hffS (t := .int) (by decide +kernel)
  have xC := Cond.laysApart hdC hdX hdnC hdnX (by rw [hnX, Y.causeName]; decide)
  have xS := Cond.laysApart hdS hdX hdnS hdnX (by rw [hnX, Y.stackName]; decide)
  have xP := Cond.laysApart hdP hdX hdnP hdnX (by rw [hnX, Y.suppName]; decide)
  have hv0 : (freshCell P1.m.cls N.kN).slots[N.fState.slot]? = some (.int 0) := by
    have := fresh_default (c := P1.m.cls) tyX
    rw [htX] at this; exact this
  obtain ⟨tyB, dB, hdB, hdnB⟩ := Cond.laysAt hfound hk hffB (a' (.lays Bundle.nN Bundle.tN "backtrace" Bundle.objD) (by simp [Bundle.npeArmAtoms]))
  have bC := Cond.laysApart hdB hdC hdnB hdnC (by rw [hnB, Y.causeName]; decide)
  have bS := Cond.laysApart hdB hdS hdnB hdnS (by rw [hnB, Y.stackName]; decide)
  have bP := Cond.laysApart hdB hdP hdnB hdnP (by rw [hnB, Y.suppName]; decide)
  have bX := Cond.laysApart hdB hdX hdnB hdnX (by rw [hnB, hnX]; decide)
  have hbk : ((npeCell N.toNpeT (preparedCellV T.toThrowableT (freshCell P1.m.cls N.kN) W.heap.size u0 sen) W.cur).withEntry W.cur).slots[fB.slot]? = some .null := by
    have := fresh_default (c := P1.m.cls) tyB
    rw [htB] at this
    simpa [npeCell, preparedCellV, Cell.setSlot, Cell.withEntry, Array.getElem?_setIfInBounds, bC, bS, bP, bX, bC.symm, bS.symm, bP.symm, bX.symm, defaultValue] using this
  have tkC := Takes.of_laid (v := .ref W.heap.size) hk hordN tyC (by rw [Y.causeType]; rfl)
  have tkS := Takes.of_laid (v := u0.v) hk hordN tyS (by rw [Y.stackType]; exact fits_refV_array _ u0)
  have tkP := Takes.of_laid (v := sen.v) hk hordN tyP (by rw [Y.suppType]; exact fits_refV_object _ sen)
  have tkX := Takes.of_laid (v := .int 1) hk hordN tyX (by rw [htX]; rfl)
  have hskip : SkipFacts T e.platform s (fun u => u) u0 ((npeCell N.toNpeT (preparedCellV T.toThrowableT (freshCell P1.m.cls N.kN) W.heap.size u0 sen) W.cur).withEntry W.cur) := ⟨{ ci198 := ci198, i198 := i198, fBack := fB }, ⟨hk198, hg198, ha198, hsB⟩, hbk, fun _ _ => rfl⟩
  obtain ⟨vm', X3, st, -⟩ := X.throwsNpeColdBareVAt hexec hg hsize T L Z LZ N LN P1 L1 [PR, PE] hLs hlink1 ⟨hlinkR, hlinkE, trivial⟩ hfound hk hinit hordN hctor hsel0 hselF hcellS hknownS hvU hvSen
    hv0 xC xS xP tkC tkS tkP tkX Y.objLocals hskip (fun _ _ hA hW _ hroom _ hrest => L.nativeOff p htr hA hW hroom hrest) (by simpa using hRframes) hRlocals (by simp) hRcells (by rw [hn]; exact hRslots)
  have hlt : W.heap.size < ((W.pushCell (freshCell P1.m.cls N.kN)).setVm vm').heap.size := by
    show W.heap.size < (W.pushCell (freshCell P1.m.cls N.kN)).heap.size
    rw [State.heap_size_pushCell]; omega
  rw [hfsz] at X3
  obtain ⟨g₁, hfrM⟩ := X3.frames_eq
  have hU : ((((W.pushCell (freshCell P1.m.cls N.kN)).setVm vm').setCell W.heap.size (npeBareV T.toThrowableT N.toNpeT (freshCell P1.m.cls N.kN) W.heap.size u0 sen)).setTop g).pushFrame (.throwing W.heap.size) = (((W.pushCell (freshCell P1.m.cls N.kN)).setVm vm').setCell W.heap.size (npeBareV T.toThrowableT N.toNpeT (freshCell P1.m.cls N.kN) W.heap.size u0 sen)).setFrames (.throwing W.heap.size :: .java g :: below) := by
    rw [State.pushFrame, State.frames_setTop _ hfrM, State.setTop_of_frames _ hfrM, State.setFrames_setFrames]
  refine ⟨_, W.heap.size, _, fun target ht => st.trans (by rw [← hU]; exact ht), X3.forget (fun y hy => ?_), heapAt_setCell_self _ hlt, hfound, rfl⟩
  simp only [List.mem_cons, List.not_mem_nil, or_false] at hy
  have hge : s.heap.size ≤ W.heap.size := X.same.2.1
  rcases hy with rfl | rfl | rfl | rfl | rfl <;> exact hge
/-- the words of a machine's NullPointerException, but the four that speak of the heap -/
def vx_atN (n : Nat) : List Cond := (Bundle.npeArmAtoms n).filter vx_no
/-- the words of a machine's throw with a message, but the four that speak of the heap -/
def vx_atM (X : String) (names : List String) : List Cond := (Bundle.messageArmAtoms X names).filter vx_no
section
variable {p : Program} {l : Launch} {e : Env} {R : Room} {s : State} {m : MethodId} {args : Array Value} {below : List Frame} {meth : Method} {c : Code} {H : Heap} {locs : List Loc} {cells slots : Nat}
/-- a frame seen from a rebased start, seen from the first start again -/
theorem vx_back9 {T S : State} {R' : Room} {k n : Nat} (X : Stand p l e R s m args below meth c T locs cells slots) (Y : Stand p l e R' ((T.setVm s.vm).setFrames (.invoking m args :: below)) m args below meth c T [] 0 0) (Z : Stand p l e R' ((T.setVm s.vm).setFrames (.invoking m args :: below)) m args below meth c S [] k n) :
    Stand p l e R s m args below meth c S locs (cells + k) (slots + n) := by
  have hW0 : s.WarmedH ((T.setVm s.vm).setFrames (.invoking m args :: below)).vm := State.WarmedH.refl s
  refine { admits := X.admits, cas := X.cas, clock := X.clock, frames := X.frames, room := X.room, hears := X.hears, method := X.method, code := X.code, here := Z.here, tail := Z.tail, warmed := State.WarmedH.trans hW0 Z.warmed, limits := Z.limits.trans (Y.limits.symm.trans X.limits), bytes := Z.bytes.trans (Y.bytes.symm.trans X.bytes), same := ?_ }
  obtain ⟨e1, e2⟩ := Z.same
  rw [State.setFrames_setFrames] at e1
  have h2 : (T.setVm s.vm).sameButNew (S.setVm s.vm) [] k n := ⟨e1, e2⟩
  have h3 := X.same.trans h2
  rw [List.append_nil] at h3
  exact h3
/-- from the machine's note that E is thrown here with this text -/
def vx_Note (p : Program) (l : Launch) (e : Env) (R : Room) (s : State) (m : MethodId) (args : Array Value) (below : List Frame) (meth : Method) (c : Code) (H : Heap) (locs : List Loc) (cells slots : Nat) (Q : State → Prop) (g : JFrame) (E text : String) : Prop :=
  ∀ T : State, T.heap = H → Stand p l e R s m args below meth c T locs cells slots → ∃ t, Steps p.tables e below ((T.setTop g).pushFrame (.throwNew E (some text) none)) t ∧ Q t
theorem vx_vm {pc : Nat} {ls : Array Slot} {rest : List Value} {Q : State → Prop} (hexec : p.tables.exec = Jvm.exec) (hl : l.stackTraces = false) {cls text : String} {names : List String} {nb : Nat} {A : Nat → Prop}
    (hcls : Bundle.fit cls = true) (hnames : ∀ n ∈ names, Bundle.fit n = true) (hsoe : (cls == "java/lang/StackOverflowError") = false) (hoom : (cls == "java/lang/OutOfMemoryError") = false)
    (hat : ∀ w ∈ vx_atM cls names, w.before args s = true) (hgood : ∀ w ∈ vx_atM cls names, vx_ot w = true)
    (hU : vx_Zq Bundle.tN "UNASSIGNED_STACK" Bundle.steD A s s.heap) (hN : vx_Zq Bundle.tN "SUPPRESSED_SENTINEL" Bundle.listD A s s.heap) (hS : va_S A s.heap H locs) (hsize : ls.size = c.maxLocals)
    (htext : (text == notModelled) = false) (hnb : (stringBytes (stringToUtf16 text)).size ≤ nb) (hnb1 : nb ≤ 1000)
    (hRframes : names.length + 4 < R.frames) (hRlocals : (rest.map fun v => v.category).sum + 10240 ≤ R.locals) (hshort : 13 * names.length + 55 ≤ 10240) (hRcells : cells + 3 ≤ R.cells) (hRslots : slots + (nb + 10) ≤ R.slots) (hlocks : meth.locks = false)
    (k : ∀ (H1 : Heap) (q9 : Addr) (ce : Cell), H.size ≤ H1.size → (∀ q : Nat, q < H.size → H1[q]? = H[q]?) → va_S A s.heap H1 locs → H1[q9]? = some ce → ce.vm = .none → s.vm.findClass cls = some ce.cls → vx_W p l e R s m args below meth c H1 locs (cells + 3) (slots + (nb + 10)) Q (F0 m pc ls rest) q9) :
    vx_Note p l e R s m args below meth c H locs cells slots Q (F0 m pc ls rest) cls text := by
  intro T hT X
  have htr : e.platform.stackTraces = false := (show e.platform.stackTraces = l.stackTraces by rw [X.admits.platform]).trans hl
  have Y := vx_rebase X (R' := { frames := R.frames, locals := R.locals, cells := 3, slots := nb + 10 }) (Nat.le_refl _) (Nat.le_refl _) hRcells hRslots
  have hhp : ((T.setVm s.vm).setFrames (.invoking m args :: below)).heap = H := hT
  have hW0 : s.WarmedH ((T.setVm s.vm).setFrames (.invoking m args :: below)).vm := State.WarmedH.refl s
  have hat' : ∀ w ∈ vx_atM cls names, w.before args ((T.setVm s.vm).setFrames (.invoking m args :: below)) = true := fun w hw => vx_ot_at hW0 rfl (hgood w hw) (hat w hw)
  have hU' : vx_Zq Bundle.tN "UNASSIGNED_STACK" Bundle.steD A ((T.setVm s.vm).setFrames (.invoking m args :: below)) ((T.setVm s.vm).setFrames (.invoking m args :: below)).heap := by rw [hhp]; exact vx_Zq.moved hW0.alike (hU.kept hS.2.1)
  have hN' : vx_Zq Bundle.tN "SUPPRESSED_SENTINEL" Bundle.listD A ((T.setVm s.vm).setFrames (.invoking m args :: below)) ((T.setVm s.vm).setFrames (.invoking m args :: below)).heap := by rw [hhp]; exact vx_Zq.moved hW0.alike (hN.kept hS.2.1)
  obtain ⟨S, q, ce, st, Z, hce, hcl', hv⟩ := vx_vmAt Y hexec htr (cls := cls) (names := names) (text := text) hcls hnames hsoe hoom (vx_own hat' (vx_isRefq hU'.1) (vx_isRefq hN'.1) hU'.2.word hN'.2.word) (fun x hx => nomatch hx) htext
    (by rw [Launch.admits_arrayLengthLimit X.admits]; omega) (by rw [Launch.admits_maxHeapBytes X.admits]; simp only [componentBytes]; omega)
    (g := F0 m pc ls rest) rfl hsize hRframes (by show 2 * 0 + (rest.map fun v => v.category).sum + 10240 ≤ R.locals; omega) hshort (by show 0 + 3 ≤ 3; omega) (by show 0 + (_ + 4 + 6) ≤ nb + 10; omega) hlocks
  obtain ⟨f1, f2⟩ := vx_frame Z.same
  have f1' : H.size ≤ S.heap.size := by rw [← hT]; exact f1
  have f2' : ∀ q : Nat, q < H.size → S.heap[q]? = H[q]? := fun q hq => by
    rw [← hT]
    exact f2 q (by rw [← hT] at hq; exact hq) (fun z hz => nomatch hz)
  have X5 := vx_back9 X Y Z
  have X6 : Stand p l e R s m args below meth c S locs (cells + 3) (slots + (nb + 10)) := { X5 with same := X5.same.mono (by omega) (by omega) }
  obtain ⟨t, a1, b1⟩ := k S.heap q ce f1' f2' ⟨Nat.le_trans hS.1 f1', fun q h1 h2 => (f2' q (Nat.lt_of_lt_of_le h1 hS.1)).trans (hS.2.1 q h1 h2), hS.2.2⟩ hce hv hcl' S rfl X6
  exact ⟨t, st t a1, b1⟩
/-- from the machine's note that NullPointerException is thrown here -/
def vx_NoteN (p : Program) (l : Launch) (e : Env) (R : Room) (s : State) (m : MethodId) (args : Array Value) (below : List Frame) (meth : Method) (c : Code) (H : Heap) (locs : List Loc) (cells slots : Nat) (Q : State → Prop) (g : JFrame) : Prop :=
  ∀ T : State, T.heap = H → Stand p l e R s m args below meth c T locs cells slots → ∃ t, Steps p.tables e below ((T.setTop g).pushFrame (.throwNew "java/lang/NullPointerException" none none)) t ∧ Q t
theorem vx_npe {pc : Nat} {ls : Array Slot} {rest : List Value} {Q : State → Prop} (hexec : p.tables.exec = Jvm.exec) (hl : l.stackTraces = false) {nb : Nat} {A : Nat → Prop}
    (hat : ∀ w ∈ vx_atN nb, w.before args s = true) (hgood : ∀ w ∈ vx_atN nb, vx_ot w = true)
    (hU : vx_Zq Bundle.tN "UNASSIGNED_STACK" Bundle.steD A s s.heap) (hN : vx_Zq Bundle.tN "SUPPRESSED_SENTINEL" Bundle.listD A s s.heap) (hS : va_S A s.heap H locs) (hsize : ls.size = c.maxLocals)
    (hRframes : 7 < R.frames) (hRlocals : (rest.map fun v => v.category).sum + 10240 ≤ R.locals) (hRcells : cells + 1 ≤ R.cells) (hRslots : slots + nb ≤ R.slots) (hlocks : meth.locks = false)
    (k : ∀ (H1 : Heap) (q9 : Addr) (ce : Cell), H.size ≤ H1.size → (∀ q : Nat, q < H.size → H1[q]? = H[q]?) → va_S A s.heap H1 locs → H1[q9]? = some ce → ce.vm = .none → s.vm.findClass "java/lang/NullPointerException" = some ce.cls → vx_W p l e R s m args below meth c H1 locs (cells + 1) (slots + nb) Q (F0 m pc ls rest) q9) :
    vx_NoteN p l e R s m args below meth c H locs cells slots Q (F0 m pc ls rest) := by
  intro T hT X
  have htr : e.platform.stackTraces = false := (show e.platform.stackTraces = l.stackTraces by rw [X.admits.platform]).trans hl
  have Y := vx_rebase X (R' := { frames := R.frames, locals := R.locals, cells := 1, slots := nb }) (Nat.le_refl _) (Nat.le_refl _) hRcells hRslots
  have hhp : ((T.setVm s.vm).setFrames (.invoking m args :: below)).heap = H := hT
  have hW0 : s.WarmedH ((T.setVm s.vm).setFrames (.invoking m args :: below)).vm := State.WarmedH.refl s
  have hat' : ∀ w ∈ vx_atN nb, w.before args ((T.setVm s.vm).setFrames (.invoking m args :: below)) = true := fun w hw => vx_ot_at hW0 rfl (hgood w hw) (hat w hw)
  have hU' : vx_Zq Bundle.tN "UNASSIGNED_STACK" Bundle.steD A ((T.setVm s.vm).setFrames (.invoking m args :: below)) ((T.setVm s.vm).setFrames (.invoking m args :: below)).heap := by rw [hhp]; exact vx_Zq.moved hW0.alike (hU.kept hS.2.1)
  have hN' : vx_Zq Bundle.tN "SUPPRESSED_SENTINEL" Bundle.listD A ((T.setVm s.vm).setFrames (.invoking m args :: below)) ((T.setVm s.vm).setFrames (.invoking m args :: below)).heap := by rw [hhp]; exact vx_Zq.moved hW0.alike (hN.kept hS.2.1)
  obtain ⟨S, q, ce, st, Z, hce, hcl', hv⟩ := vx_npeAt Y hexec htr (n := nb) (vx_own hat' (vx_isRefq hU'.1) (vx_isRefq hN'.1) hU'.2.word hN'.2.word) (fun x hx => nomatch hx)
    (g := F0 m pc ls rest) rfl hsize hRframes (by show 2 * 0 + (rest.map fun v => v.category).sum + 10240 ≤ R.locals; omega) (by show 0 + 1 ≤ 1; omega) (by show 0 + nb ≤ nb; omega) hlocks
  obtain ⟨f1, f2⟩ := vx_frame Z.same
  have f1' : H.size ≤ S.heap.size := by rw [← hT]; exact f1
  have f2' : ∀ q : Nat, q < H.size → S.heap[q]? = H[q]? := fun q hq => by
    rw [← hT]
    exact f2 q (by rw [← hT] at hq; exact hq) (fun z hz => nomatch hz)
  have X5 := vx_back9 X Y Z
  have X6 : Stand p l e R s m args below meth c S locs (cells + 1) (slots + nb) := { X5 with same := X5.same.mono (by omega) (by omega) }
  obtain ⟨t, a1, b1⟩ := k S.heap q ce f1' f2' ⟨Nat.le_trans hS.1 f1', fun q h1 h2 => (f2' q (Nat.lt_of_lt_of_le h1 hS.1)).trans (hS.2.1 q h1 h2), hS.2.2⟩ hce hv hcl' S rfl X6
  exact ⟨t, st t a1, b1⟩
variable {Q : State → Prop} {cc : ByteArray} {pc : Nat} {ls : Array Slot} {rest : List Value}
theorem vx_idivZ (hexec : p.tables.exec = Jvm.exec) (hb : c.code = cc) {a b : Int32} (h0 : b = 0) (d : decode cc pc = .ok (.idiv, 1)) (k : vx_Note p l e R s m args below meth c H locs cells slots Q (F0 m pc ls rest) "java/lang/ArithmeticException" "/ by zero") :
    W p l e R s m args below meth c H locs cells slots Q (F0 m pc ls (.int b :: .int a :: rest)) := by
  intro T hT X
  obtain ⟨t, st, q⟩ := k T hT X
  exact ⟨t, X.idivZero hexec (g := F0 m pc ls (.int b :: .int a :: rest)) rfl (a := a) (rest := rest) (by rw [h0]) (by rw [hb]; exact d) t st, q⟩
theorem vx_iremZ (hexec : p.tables.exec = Jvm.exec) (hb : c.code = cc) {a b : Int32} (h0 : b = 0) (d : decode cc pc = .ok (.irem, 1)) (k : vx_Note p l e R s m args below meth c H locs cells slots Q (F0 m pc ls rest) "java/lang/ArithmeticException" "/ by zero") :
    W p l e R s m args below meth c H locs cells slots Q (F0 m pc ls (.int b :: .int a :: rest)) := by
  intro T hT X
  obtain ⟨t, st, q⟩ := k T hT X
  exact ⟨t, X.iremZero hexec (g := F0 m pc ls (.int b :: .int a :: rest)) rfl (a := a) (rest := rest) (by rw [h0]) (by rw [hb]; exact d) t st, q⟩
theorem vx_ldivZ (hexec : p.tables.exec = Jvm.exec) (hb : c.code = cc) {a b : Int64} (h0 : b = 0) (d : decode cc pc = .ok (.ldiv, 1)) (k : vx_Note p l e R s m args below meth c H locs cells slots Q (F0 m pc ls rest) "java/lang/ArithmeticException" "/ by zero") :
    W p l e R s m args below meth c H locs cells slots Q (F0 m pc ls (.long b :: .long a :: rest)) := by
  intro T hT X
  obtain ⟨t, st, q⟩ := k T hT X
  exact ⟨t, X.ldivZero hexec (g := F0 m pc ls (.long b :: .long a :: rest)) rfl (a := a) (rest := rest) (by rw [h0]) (by rw [hb]; exact d) t st, q⟩
theorem vx_lremZ (hexec : p.tables.exec = Jvm.exec) (hb : c.code = cc) {a b : Int64} (h0 : b = 0) (d : decode cc pc = .ok (.lrem, 1)) (k : vx_Note p l e R s m args below meth c H locs cells slots Q (F0 m pc ls rest) "java/lang/ArithmeticException" "/ by zero") :
    W p l e R s m args below meth c H locs cells slots Q (F0 m pc ls (.long b :: .long a :: rest)) := by
  intro T hT X
  obtain ⟨t, st, q⟩ := k T hT X
  exact ⟨t, X.lremZero hexec (g := F0 m pc ls (.long b :: .long a :: rest)) rfl (a := a) (rest := rest) (by rw [h0]) (by rw [hb]; exact d) t st, q⟩
theorem vx_ialdZ {D : va_G} {cl : List vw_C} {ws : va_W} {tys : List (ClassId × FieldType)} {a : Nat} (hexec : p.tables.exec = Jvm.exec) (hb : c.code = cc) (hK : va_K D cl tys s) (hP : va_P D cl ws H) (q0 t0 : Nat) {cA : ClassId} {n : Nat} {f : Nat → Int32} (ha : ws[q0]? = some (a, .inl (cA, n, .inl f))) (ht : tys[t0]? = some (cA, .int)) {i : Int32} (hout : ¬ vp_in i n) (hdg : decode cc pc = .ok (.iaload, 1))
    (k : ∀ tx : String, tx = (toString "Index " ++ toString i ++ toString " out of bounds for length " ++ toString n : String) → vx_Note p l e R s m args below meth c H locs cells slots Q (F0 m pc ls rest) "java/lang/ArrayIndexOutOfBoundsException" tx) : W p l e R s m args below meth c H locs cells slots Q (F0 m pc ls (.int i :: .ref a :: rest)) := by
  intro T hT X
  obtain ⟨t, st, q⟩ := k _ rfl T hT X
  refine ⟨t, ?_, q⟩
  have h1 := X.ialoadOut hexec (by rw [hT]; exact hP q0 _ ha) ((hK.2 t0 _ ht).1 n (fun j => .int (f j))) (j := i) (by show (i < 0 ∨ (arrV _ _ _).slots.size ≤ _); rw [arrV_size]; exact Classical.byContradiction hout) (g := F0 m pc ls (.int i :: .ref a :: rest)) rfl (rest := rest) rfl (by rw [hb]; exact hdg) t
  simp only [arrV_size] at h1
  exact h1 st
theorem vx_iastZ {D : va_G} {cl : List vw_C} {ws : va_W} {tys : List (ClassId × FieldType)} {a : Nat} (hexec : p.tables.exec = Jvm.exec) (hb : c.code = cc) (hK : va_K D cl tys s) (hP : va_P D cl ws H) (q0 t0 : Nat) {cA : ClassId} {n : Nat} {f : Nat → Int32} (ha : ws[q0]? = some (a, .inl (cA, n, .inl f))) (ht : tys[t0]? = some (cA, .int)) {i : Int32} {x : Int32} (hout : ¬ vp_in i n) (hdg : decode cc pc = .ok (.iastore, 1))
    (k : ∀ tx : String, tx = (toString "Index " ++ toString i ++ toString " out of bounds for length " ++ toString n : String) → vx_Note p l e R s m args below meth c H locs cells slots Q (F0 m pc ls rest) "java/lang/ArrayIndexOutOfBoundsException" tx) : W p l e R s m args below meth c H locs cells slots Q (F0 m pc ls (.int x :: .int i :: .ref a :: rest)) := by
  intro T hT X
  obtain ⟨t, st, q⟩ := k _ rfl T hT X
  refine ⟨t, ?_, q⟩
  have h1 := X.iastoreOut hexec (by rw [hT]; exact hP q0 _ ha) ((hK.2 t0 _ ht).1 n (fun j => .int (f j))) (j := i) (by show (i < 0 ∨ (arrV _ _ _).slots.size ≤ _); rw [arrV_size]; exact Classical.byContradiction hout) (g := F0 m pc ls (.int x :: .int i :: .ref a :: rest)) rfl (rest := rest) rfl (by rw [hb]; exact hdg) t
  simp only [arrV_size] at h1
  exact h1 st
theorem vx_baldZ {D : va_G} {cl : List vw_C} {ws : va_W} {tys : List (ClassId × FieldType)} {a : Nat} (hexec : p.tables.exec = Jvm.exec) (hb : c.code = cc) (hK : va_K D cl tys s) (hP : va_P D cl ws H) (q0 t0 : Nat) {cA : ClassId} {n : Nat} {f : Nat → Int32} (ha : ws[q0]? = some (a, .inl (cA, n, .inl f))) (ht : tys[t0]? = some (cA, .byte)) {i : Int32} (hout : ¬ vp_in i n) (hdg : decode cc pc = .ok (.baload, 1))
    (k : ∀ tx : String, tx = (toString "Index " ++ toString i ++ toString " out of bounds for length " ++ toString n : String) → vx_Note p l e R s m args below meth c H locs cells slots Q (F0 m pc ls rest) "java/lang/ArrayIndexOutOfBoundsException" tx) : W p l e R s m args below meth c H locs cells slots Q (F0 m pc ls (.int i :: .ref a :: rest)) := by
  intro T hT X
  obtain ⟨t, st, q⟩ := k _ rfl T hT X
  refine ⟨t, ?_, q⟩
  have h1 := X.baloadOut hexec (by rw [hT]; exact hP q0 _ ha) ((hK.2 t0 _ ht).1 n (fun j => .int (f j))) (j := i) (by show (i < 0 ∨ (arrV _ _ _).slots.size ≤ _); rw [arrV_size]; exact Classical.byContradiction hout) (g := F0 m pc ls (.int i :: .ref a :: rest)) rfl (rest := rest) rfl (by rw [hb]; exact hdg) t
  simp only [arrV_size] at h1
  exact h1 st
theorem vx_bastZ {D : va_G} {cl : List vw_C} {ws : va_W} {tys : List (ClassId × FieldType)} {a : Nat} (hexec : p.tables.exec = Jvm.exec) (hb : c.code = cc) (hK : va_K D cl tys s) (hP : va_P D cl ws H) (q0 t0 : Nat) {cA : ClassId} {n : Nat} {f : Nat → Int32} (ha : ws[q0]? = some (a, .inl (cA, n, .inl f))) (ht : tys[t0]? = some (cA, .byte)) {i : Int32} {x : Int32} (hout : ¬ vp_in i n) (hdg : decode cc pc = .ok (.bastore, 1))
    (k : ∀ tx : String, tx = (toString "Index " ++ toString i ++ toString " out of bounds for length " ++ toString n : String) → vx_Note p l e R s m args below meth c H locs cells slots Q (F0 m pc ls rest) "java/lang/ArrayIndexOutOfBoundsException" tx) : W p l e R s m args below meth c H locs cells slots Q (F0 m pc ls (.int x :: .int i :: .ref a :: rest)) := by
  intro T hT X
  obtain ⟨t, st, q⟩ := k _ rfl T hT X
  refine ⟨t, ?_, q⟩
  have h1 := X.bastoreOut hexec (by rw [hT]; exact hP q0 _ ha) ((hK.2 t0 _ ht).1 n (fun j => .int (f j))) (j := i) (by show (i < 0 ∨ (arrV _ _ _).slots.size ≤ _); rw [arrV_size]; exact Classical.byContradiction hout) (g := F0 m pc ls (.int x :: .int i :: .ref a :: rest)) rfl (rest := rest) rfl (by rw [hb]; exact hdg) t
  simp only [arrV_size] at h1
  exact h1 st
theorem vx_zaldZ {D : va_G} {cl : List vw_C} {ws : va_W} {tys : List (ClassId × FieldType)} {a : Nat} (hexec : p.tables.exec = Jvm.exec) (hb : c.code = cc) (hK : va_K D cl tys s) (hP : va_P D cl ws H) (q0 t0 : Nat) {cA : ClassId} {n : Nat} {f : Nat → Int32} (ha : ws[q0]? = some (a, .inl (cA, n, .inl f))) (ht : tys[t0]? = some (cA, .boolean)) {i : Int32} (hout : ¬ vp_in i n) (hdg : decode cc pc = .ok (.baload, 1))
    (k : ∀ tx : String, tx = (toString "Index " ++ toString i ++ toString " out of bounds for length " ++ toString n : String) → vx_Note p l e R s m args below meth c H locs cells slots Q (F0 m pc ls rest) "java/lang/ArrayIndexOutOfBoundsException" tx) : W p l e R s m args below meth c H locs cells slots Q (F0 m pc ls (.int i :: .ref a :: rest)) := by
  intro T hT X
  obtain ⟨t, st, q⟩ := k _ rfl T hT X
  refine ⟨t, ?_, q⟩
  have h1 := X.baloadOut hexec (by rw [hT]; exact hP q0 _ ha) ((hK.2 t0 _ ht).1 n (fun j => .int (f j))) (j := i) (by show (i < 0 ∨ (arrV _ _ _).slots.size ≤ _); rw [arrV_size]; exact Classical.byContradiction hout) (g := F0 m pc ls (.int i :: .ref a :: rest)) rfl (rest := rest) rfl (by rw [hb]; exact hdg) t
  simp only [arrV_size] at h1
  exact h1 st
theorem vx_zastZ {D : va_G} {cl : List vw_C} {ws : va_W} {tys : List (ClassId × FieldType)} {a : Nat} (hexec : p.tables.exec = Jvm.exec) (hb : c.code = cc) (hK : va_K D cl tys s) (hP : va_P D cl ws H) (q0 t0 : Nat) {cA : ClassId} {n : Nat} {f : Nat → Int32} (ha : ws[q0]? = some (a, .inl (cA, n, .inl f))) (ht : tys[t0]? = some (cA, .boolean)) {i : Int32} {x : Int32} (hout : ¬ vp_in i n) (hdg : decode cc pc = .ok (.bastore, 1))
    (k : ∀ tx : String, tx = (toString "Index " ++ toString i ++ toString " out of bounds for length " ++ toString n : String) → vx_Note p l e R s m args below meth c H locs cells slots Q (F0 m pc ls rest) "java/lang/ArrayIndexOutOfBoundsException" tx) : W p l e R s m args below meth c H locs cells slots Q (F0 m pc ls (.int x :: .int i :: .ref a :: rest)) := by
  intro T hT X
  obtain ⟨t, st, q⟩ := k _ rfl T hT X
  refine ⟨t, ?_, q⟩
  have h1 := X.bastoreOut hexec (by rw [hT]; exact hP q0 _ ha) ((hK.2 t0 _ ht).1 n (fun j => .int (f j))) (j := i) (by show (i < 0 ∨ (arrV _ _ _).slots.size ≤ _); rw [arrV_size]; exact Classical.byContradiction hout) (g := F0 m pc ls (.int x :: .int i :: .ref a :: rest)) rfl (rest := rest) rfl (by rw [hb]; exact hdg) t
  simp only [arrV_size] at h1
  exact h1 st
theorem vx_caldZ {D : va_G} {cl : List vw_C} {ws : va_W} {tys : List (ClassId × FieldType)} {a : Nat} (hexec : p.tables.exec = Jvm.exec) (hb : c.code = cc) (hK : va_K D cl tys s) (hP : va_P D cl ws H) (q0 t0 : Nat) {cA : ClassId} {n : Nat} {f : Nat → Int32} (ha : ws[q0]? = some (a, .inl (cA, n, .inl f))) (ht : tys[t0]? = some (cA, .char)) {i : Int32} (hout : ¬ vp_in i n) (hdg : decode cc pc = .ok (.caload, 1))
    (k : ∀ tx : String, tx = (toString "Index " ++ toString i ++ toString " out of bounds for length " ++ toString n : String) → vx_Note p l e R s m args below meth c H locs cells slots Q (F0 m pc ls rest) "java/lang/ArrayIndexOutOfBoundsException" tx) : W p l e R s m args below meth c H locs cells slots Q (F0 m pc ls (.int i :: .ref a :: rest)) := by
  intro T hT X
  obtain ⟨t, st, q⟩ := k _ rfl T hT X
  refine ⟨t, ?_, q⟩
  have h1 := X.caloadOut hexec (by rw [hT]; exact hP q0 _ ha) ((hK.2 t0 _ ht).1 n (fun j => .int (f j))) (j := i) (by show (i < 0 ∨ (arrV _ _ _).slots.size ≤ _); rw [arrV_size]; exact Classical.byContradiction hout) (g := F0 m pc ls (.int i :: .ref a :: rest)) rfl (rest := rest) rfl (by rw [hb]; exact hdg) t
  simp only [arrV_size] at h1
  exact h1 st
theorem vx_castZ {D : va_G} {cl : List vw_C} {ws : va_W} {tys : List (ClassId × FieldType)} {a : Nat} (hexec : p.tables.exec = Jvm.exec) (hb : c.code = cc) (hK : va_K D cl tys s) (hP : va_P D cl ws H) (q0 t0 : Nat) {cA : ClassId} {n : Nat} {f : Nat → Int32} (ha : ws[q0]? = some (a, .inl (cA, n, .inl f))) (ht : tys[t0]? = some (cA, .char)) {i : Int32} {x : Int32} (hout : ¬ vp_in i n) (hdg : decode cc pc = .ok (.castore, 1))
    (k : ∀ tx : String, tx = (toString "Index " ++ toString i ++ toString " out of bounds for length " ++ toString n : String) → vx_Note p l e R s m args below meth c H locs cells slots Q (F0 m pc ls rest) "java/lang/ArrayIndexOutOfBoundsException" tx) : W p l e R s m args below meth c H locs cells slots Q (F0 m pc ls (.int x :: .int i :: .ref a :: rest)) := by
  intro T hT X
  obtain ⟨t, st, q⟩ := k _ rfl T hT X
  refine ⟨t, ?_, q⟩
  have h1 := X.castoreOut hexec (by rw [hT]; exact hP q0 _ ha) ((hK.2 t0 _ ht).1 n (fun j => .int (f j))) (j := i) (by show (i < 0 ∨ (arrV _ _ _).slots.size ≤ _); rw [arrV_size]; exact Classical.byContradiction hout) (g := F0 m pc ls (.int x :: .int i :: .ref a :: rest)) rfl (rest := rest) rfl (by rw [hb]; exact hdg) t
  simp only [arrV_size] at h1
  exact h1 st
theorem vx_saldZ {D : va_G} {cl : List vw_C} {ws : va_W} {tys : List (ClassId × FieldType)} {a : Nat} (hexec : p.tables.exec = Jvm.exec) (hb : c.code = cc) (hK : va_K D cl tys s) (hP : va_P D cl ws H) (q0 t0 : Nat) {cA : ClassId} {n : Nat} {f : Nat → Int32} (ha : ws[q0]? = some (a, .inl (cA, n, .inl f))) (ht : tys[t0]? = some (cA, .short)) {i : Int32} (hout : ¬ vp_in i n) (hdg : decode cc pc = .ok (.saload, 1))
    (k : ∀ tx : String, tx = (toString "Index " ++ toString i ++ toString " out of bounds for length " ++ toString n : String) → vx_Note p l e R s m args below meth c H locs cells slots Q (F0 m pc ls rest) "java/lang/ArrayIndexOutOfBoundsException" tx) : W p l e R s m args below meth c H locs cells slots Q (F0 m pc ls (.int i :: .ref a :: rest)) := by
  intro T hT X
  obtain ⟨t, st, q⟩ := k _ rfl T hT X
  refine ⟨t, ?_, q⟩
  have h1 := X.saloadOut hexec (by rw [hT]; exact hP q0 _ ha) ((hK.2 t0 _ ht).1 n (fun j => .int (f j))) (j := i) (by show (i < 0 ∨ (arrV _ _ _).slots.size ≤ _); rw [arrV_size]; exact Classical.byContradiction hout) (g := F0 m pc ls (.int i :: .ref a :: rest)) rfl (rest := rest) rfl (by rw [hb]; exact hdg) t
  simp only [arrV_size] at h1
  exact h1 st
theorem vx_sastZ {D : va_G} {cl : List vw_C} {ws : va_W} {tys : List (ClassId × FieldType)} {a : Nat} (hexec : p.tables.exec = Jvm.exec) (hb : c.code = cc) (hK : va_K D cl tys s) (hP : va_P D cl ws H) (q0 t0 : Nat) {cA : ClassId} {n : Nat} {f : Nat → Int32} (ha : ws[q0]? = some (a, .inl (cA, n, .inl f))) (ht : tys[t0]? = some (cA, .short)) {i : Int32} {x : Int32} (hout : ¬ vp_in i n) (hdg : decode cc pc = .ok (.sastore, 1))
    (k : ∀ tx : String, tx = (toString "Index " ++ toString i ++ toString " out of bounds for length " ++ toString n : String) → vx_Note p l e R s m args below meth c H locs cells slots Q (F0 m pc ls rest) "java/lang/ArrayIndexOutOfBoundsException" tx) : W p l e R s m args below meth c H locs cells slots Q (F0 m pc ls (.int x :: .int i :: .ref a :: rest)) := by
  intro T hT X
  obtain ⟨t, st, q⟩ := k _ rfl T hT X
  refine ⟨t, ?_, q⟩
  have h1 := X.sastoreOut hexec (by rw [hT]; exact hP q0 _ ha) ((hK.2 t0 _ ht).1 n (fun j => .int (f j))) (j := i) (by show (i < 0 ∨ (arrV _ _ _).slots.size ≤ _); rw [arrV_size]; exact Classical.byContradiction hout) (g := F0 m pc ls (.int x :: .int i :: .ref a :: rest)) rfl (rest := rest) rfl (by rw [hb]; exact hdg) t
  simp only [arrV_size] at h1
  exact h1 st
theorem vx_laldZ {D : va_G} {cl : List vw_C} {ws : va_W} {tys : List (ClassId × FieldType)} {a : Nat} (hexec : p.tables.exec = Jvm.exec) (hb : c.code = cc) (hK : va_K D cl tys s) (hP : va_P D cl ws H) (q0 t0 : Nat) {cA : ClassId} {n : Nat} {f : Nat → Int64} (ha : ws[q0]? = some (a, .inl (cA, n, .inr (.inl f)))) (ht : tys[t0]? = some (cA, .long)) {i : Int32} (hout : ¬ vp_in i n) (hdg : decode cc pc = .ok (.laload, 1))
    (k : ∀ tx : String, tx = (toString "Index " ++ toString i ++ toString " out of bounds for length " ++ toString n : String) → vx_Note p l e R s m args below meth c H locs cells slots Q (F0 m pc ls rest) "java/lang/ArrayIndexOutOfBoundsException" tx) : W p l e R s m args below meth c H locs cells slots Q (F0 m pc ls (.int i :: .ref a :: rest)) := by
  intro T hT X
  obtain ⟨t, st, q⟩ := k _ rfl T hT X
  refine ⟨t, ?_, q⟩
  have h1 := X.laloadOut hexec (by rw [hT]; exact hP q0 _ ha) ((hK.2 t0 _ ht).1 n (fun j => .long (f j))) (j := i) (by show (i < 0 ∨ (arrV _ _ _).slots.size ≤ _); rw [arrV_size]; exact Classical.byContradiction hout) (g := F0 m pc ls (.int i :: .ref a :: rest)) rfl (rest := rest) rfl (by rw [hb]; exact hdg) t
  simp only [arrV_size] at h1
  exact h1 st
theorem vx_lastZ {D : va_G} {cl : List vw_C} {ws : va_W} {tys : List (ClassId × FieldType)} {a : Nat} (hexec : p.tables.exec = Jvm.exec) (hb : c.code = cc) (hK : va_K D cl tys s) (hP : va_P D cl ws H) (q0 t0 : Nat) {cA : ClassId} {n : Nat} {f : Nat → Int64} (ha : ws[q0]? = some (a, .inl (cA, n, .inr (.inl f)))) (ht : tys[t0]? = some (cA, .long)) {i : Int32} {x : Int64} (hout : ¬ vp_in i n) (hdg : decode cc pc = .ok (.lastore, 1))
    (k : ∀ tx : String, tx = (toString "Index " ++ toString i ++ toString " out of bounds for length " ++ toString n : String) → vx_Note p l e R s m args below meth c H locs cells slots Q (F0 m pc ls rest) "java/lang/ArrayIndexOutOfBoundsException" tx) : W p l e R s m args below meth c H locs cells slots Q (F0 m pc ls (.long x :: .int i :: .ref a :: rest)) := by
  intro T hT X
  obtain ⟨t, st, q⟩ := k _ rfl T hT X
  refine ⟨t, ?_, q⟩
  have h1 := X.lastoreOut hexec (by rw [hT]; exact hP q0 _ ha) ((hK.2 t0 _ ht).1 n (fun j => .long (f j))) (j := i) (by show (i < 0 ∨ (arrV _ _ _).slots.size ≤ _); rw [arrV_size]; exact Classical.byContradiction hout) (g := F0 m pc ls (.long x :: .int i :: .ref a :: rest)) rfl (rest := rest) rfl (by rw [hb]; exact hdg) t
  simp only [arrV_size] at h1
  exact h1 st
theorem vx_faldZ {D : va_G} {cl : List vw_C} {ws : va_W} {tys : List (ClassId × FieldType)} {a : Nat} (hexec : p.tables.exec = Jvm.exec) (hb : c.code = cc) (hK : va_K D cl tys s) (hP : va_P D cl ws H) (q0 t0 : Nat) {cA : ClassId} {n : Nat} {f : Nat → UInt32} (ha : ws[q0]? = some (a, .inl (cA, n, .inr (.inr (.inl f))))) (ht : tys[t0]? = some (cA, .float)) {i : Int32} (hout : ¬ vp_in i n) (hdg : decode cc pc = .ok (.faload, 1))
    (k : ∀ tx : String, tx = (toString "Index " ++ toString i ++ toString " out of bounds for length " ++ toString n : String) → vx_Note p l e R s m args below meth c H locs cells slots Q (F0 m pc ls rest) "java/lang/ArrayIndexOutOfBoundsException" tx) : W p l e R s m args below meth c H locs cells slots Q (F0 m pc ls (.int i :: .ref a :: rest)) := by
  intro T hT X
  obtain ⟨t, st, q⟩ := k _ rfl T hT X
  refine ⟨t, ?_, q⟩
  have h1 := X.faloadOut hexec (by rw [hT]; exact hP q0 _ ha) ((hK.2 t0 _ ht).1 n (fun j => .float (f j))) (j := i) (by show (i < 0 ∨ (arrV _ _ _).slots.size ≤ _); rw [arrV_size]; exact Classical.byContradiction hout) (g := F0 m pc ls (.int i :: .ref a :: rest)) rfl (rest := rest) rfl (by rw [hb]; exact hdg) t
  simp only [arrV_size] at h1
  exact h1 st
theorem vx_fastZ {D : va_G} {cl : List vw_C} {ws : va_W} {tys : List (ClassId × FieldType)} {a : Nat} (hexec : p.tables.exec = Jvm.exec) (hb : c.code = cc) (hK : va_K D cl tys s) (hP : va_P D cl ws H) (q0 t0 : Nat) {cA : ClassId} {n : Nat} {f : Nat → UInt32} (ha : ws[q0]? = some (a, .inl (cA, n, .inr (.inr (.inl f))))) (ht : tys[t0]? = some (cA, .float)) {i : Int32} {x : UInt32} (hout : ¬ vp_in i n) (hdg : decode cc pc = .ok (.fastore, 1))
    (k : ∀ tx : String, tx = (toString "Index " ++ toString i ++ toString " out of bounds for length " ++ toString n : String) → vx_Note p l e R s m args below meth c H locs cells slots Q (F0 m pc ls rest) "java/lang/ArrayIndexOutOfBoundsException" tx) : W p l e R s m args below meth c H locs cells slots Q (F0 m pc ls (.float x :: .int i :: .ref a :: rest)) := by
  intro T hT X
  obtain ⟨t, st, q⟩ := k _ rfl T hT X
  refine ⟨t, ?_, q⟩
  have h1 := X.fastoreOut hexec (by rw [hT]; exact hP q0 _ ha) ((hK.2 t0 _ ht).1 n (fun j => .float (f j))) (j := i) (by show (i < 0 ∨ (arrV _ _ _).slots.size ≤ _); rw [arrV_size]; exact Classical.byContradiction hout) (g := F0 m pc ls (.float x :: .int i :: .ref a :: rest)) rfl (rest := rest) rfl (by rw [hb]; exact hdg) t
  simp only [arrV_size] at h1
  exact h1 st
theorem vx_daldZ {D : va_G} {cl : List vw_C} {ws : va_W} {tys : List (ClassId × FieldType)} {a : Nat} (hexec : p.tables.exec = Jvm.exec) (hb : c.code = cc) (hK : va_K D cl tys s) (hP : va_P D cl ws H) (q0 t0 : Nat) {cA : ClassId} {n : Nat} {f : Nat → UInt64} (ha : ws[q0]? = some (a, .inl (cA, n, .inr (.inr (.inr (.inl f)))))) (ht : tys[t0]? = some (cA, .double)) {i : Int32} (hout : ¬ vp_in i n) (hdg : decode cc pc = .ok (.daload, 1))
    (k : ∀ tx : String, tx = (toString "Index " ++ toString i ++ toString " out of bounds for length " ++ toString n : String) → vx_Note p l e R s m args below meth c H locs cells slots Q (F0 m pc ls rest) "java/lang/ArrayIndexOutOfBoundsException" tx) : W p l e R s m args below meth c H locs cells slots Q (F0 m pc ls (.int i :: .ref a :: rest)) := by
  intro T hT X
  obtain ⟨t, st, q⟩ := k _ rfl T hT X
  refine ⟨t, ?_, q⟩
  have h1 := X.daloadOut hexec (by rw [hT]; exact hP q0 _ ha) ((hK.2 t0 _ ht).1 n (fun j => .double (f j))) (j := i) (by show (i < 0 ∨ (arrV _ _ _).slots.size ≤ _); rw [arrV_size]; exact Classical.byContradiction hout) (g := F0 m pc ls (.int i :: .ref a :: rest)) rfl (rest := rest) rfl (by rw [hb]; exact hdg) t
  simp only [arrV_size] at h1
  exact h1 st
theorem vx_dastZ {D : va_G} {cl : List vw_C} {ws : va_W} {tys : List (ClassId × FieldType)} {a : Nat} (hexec : p.tables.exec = Jvm.exec) (hb : c.code = cc) (hK : va_K D cl tys s) (hP : va_P D cl ws H) (q0 t0 : Nat) {cA : ClassId} {n : Nat} {f : Nat → UInt64} (ha : ws[q0]? = some (a, .inl (cA, n, .inr (.inr (.inr (.inl f)))))) (ht : tys[t0]? = some (cA, .double)) {i : Int32} {x : UInt64} (hout : ¬ vp_in i n) (hdg : decode cc pc = .ok (.dastore, 1))
    (k : ∀ tx : String, tx = (toString "Index " ++ toString i ++ toString " out of bounds for length " ++ toString n : String) → vx_Note p l e R s m args below meth c H locs cells slots Q (F0 m pc ls rest) "java/lang/ArrayIndexOutOfBoundsException" tx) : W p l e R s m args below meth c H locs cells slots Q (F0 m pc ls (.double x :: .int i :: .ref a :: rest)) := by
  intro T hT X
  obtain ⟨t, st, q⟩ := k _ rfl T hT X
  refine ⟨t, ?_, q⟩
  have h1 := X.dastoreOut hexec (by rw [hT]; exact hP q0 _ ha) ((hK.2 t0 _ ht).1 n (fun j => .double (f j))) (j := i) (by show (i < 0 ∨ (arrV _ _ _).slots.size ≤ _); rw [arrV_size]; exact Classical.byContradiction hout) (g := F0 m pc ls (.double x :: .int i :: .ref a :: rest)) rfl (rest := rest) rfl (by rw [hb]; exact hdg) t
  simp only [arrV_size] at h1
  exact h1 st
theorem vx_arraylengthN (hexec : p.tables.exec = Jvm.exec) (hb : c.code = cc) (hdg : decode cc pc = .ok (.arraylength, 1)) (k : vx_NoteN p l e R s m args below meth c H locs cells slots Q (F0 m pc ls rest)) : W p l e R s m args below meth c H locs cells slots Q (F0 m pc ls (.null :: rest)) := by
  intro T hT X
  obtain ⟨t, st, q⟩ := k T hT X
  exact ⟨t, X.arraylengthNull hexec (g := F0 m pc ls (.null :: rest)) rfl (rest := rest) rfl (by rw [hb]; exact hdg) t st, q⟩
theorem vx_ialoadN (hexec : p.tables.exec = Jvm.exec) (hb : c.code = cc) {i : Int32} (hdg : decode cc pc = .ok (.iaload, 1)) (k : vx_NoteN p l e R s m args below meth c H locs cells slots Q (F0 m pc ls rest)) : W p l e R s m args below meth c H locs cells slots Q (F0 m pc ls (.int i :: .null :: rest)) := by
  intro T hT X
  obtain ⟨t, st, q⟩ := k T hT X
  exact ⟨t, X.ialoadNull hexec (g := F0 m pc ls (.int i :: .null :: rest)) rfl (rest := rest) rfl (by rw [hb]; exact hdg) t st, q⟩
theorem vx_laloadN (hexec : p.tables.exec = Jvm.exec) (hb : c.code = cc) {i : Int32} (hdg : decode cc pc = .ok (.laload, 1)) (k : vx_NoteN p l e R s m args below meth c H locs cells slots Q (F0 m pc ls rest)) : W p l e R s m args below meth c H locs cells slots Q (F0 m pc ls (.int i :: .null :: rest)) := by
  intro T hT X
  obtain ⟨t, st, q⟩ := k T hT X
  exact ⟨t, X.laloadNull hexec (g := F0 m pc ls (.int i :: .null :: rest)) rfl (rest := rest) rfl (by rw [hb]; exact hdg) t st, q⟩
theorem vx_faloadN (hexec : p.tables.exec = Jvm.exec) (hb : c.code = cc) {i : Int32} (hdg : decode cc pc = .ok (.faload, 1)) (k : vx_NoteN p l e R s m args below meth c H locs cells slots Q (F0 m pc ls rest)) : W p l e R s m args below meth c H locs cells slots Q (F0 m pc ls (.int i :: .null :: rest)) := by
  intro T hT X
  obtain ⟨t, st, q⟩ := k T hT X
  exact ⟨t, X.faloadNull hexec (g := F0 m pc ls (.int i :: .null :: rest)) rfl (rest := rest) rfl (by rw [hb]; exact hdg) t st, q⟩
theorem vx_daloadN (hexec : p.tables.exec = Jvm.exec) (hb : c.code = cc) {i : Int32} (hdg : decode cc pc = .ok (.daload, 1)) (k : vx_NoteN p l e R s m args below meth c H locs cells slots Q (F0 m pc ls rest)) : W p l e R s m args below meth c H locs cells slots Q (F0 m pc ls (.int i :: .null :: rest)) := by
  intro T hT X
  obtain ⟨t, st, q⟩ := k T hT X
  exact ⟨t, X.daloadNull hexec (g := F0 m pc ls (.int i :: .null :: rest)) rfl (rest := rest) rfl (by rw [hb]; exact hdg) t st, q⟩
theorem vx_aaloadN (hexec : p.tables.exec = Jvm.exec) (hb : c.code = cc) {i : Int32} (hdg : decode cc pc = .ok (.aaload, 1)) (k : vx_NoteN p l e R s m args below meth c H locs cells slots Q (F0 m pc ls rest)) : W p l e R s m args below meth c H locs cells slots Q (F0 m pc ls (.int i :: .null :: rest)) := by
  intro T hT X
  obtain ⟨t, st, q⟩ := k T hT X
  exact ⟨t, X.aaloadNull hexec (g := F0 m pc ls (.int i :: .null :: rest)) rfl (rest := rest) rfl (by rw [hb]; exact hdg) t st, q⟩
theorem vx_baloadN (hexec : p.tables.exec = Jvm.exec) (hb : c.code = cc) {i : Int32} (hdg : decode cc pc = .ok (.baload, 1)) (k : vx_NoteN p l e R s m args below meth c H locs cells slots Q (F0 m pc ls rest)) : W p l e R s m args below meth c H locs cells slots Q (F0 m pc ls (.int i :: .null :: rest)) := by
  intro T hT X
  obtain ⟨t, st, q⟩ := k T hT X
  exact ⟨t, X.baloadNull hexec (g := F0 m pc ls (.int i :: .null :: rest)) rfl (rest := rest) rfl (by rw [hb]; exact hdg) t st, q⟩
theorem vx_caloadN (hexec : p.tables.exec = Jvm.exec) (hb : c.code = cc) {i : Int32} (hdg : decode cc pc = .ok (.caload, 1)) (k : vx_NoteN p l e R s m args below meth c H locs cells slots Q (F0 m pc ls rest)) : W p l e R s m args below meth c H locs cells slots Q (F0 m pc ls (.int i :: .null :: rest)) := by
  intro T hT X
  obtain ⟨t, st, q⟩ := k T hT X
  exact ⟨t, X.caloadNull hexec (g := F0 m pc ls (.int i :: .null :: rest)) rfl (rest := rest) rfl (by rw [hb]; exact hdg) t st, q⟩
theorem vx_saloadN (hexec : p.tables.exec = Jvm.exec) (hb : c.code = cc) {i : Int32} (hdg : decode cc pc = .ok (.saload, 1)) (k : vx_NoteN p l e R s m args below meth c H locs cells slots Q (F0 m pc ls rest)) : W p l e R s m args below meth c H locs cells slots Q (F0 m pc ls (.int i :: .null :: rest)) := by
  intro T hT X
  obtain ⟨t, st, q⟩ := k T hT X
  exact ⟨t, X.saloadNull hexec (g := F0 m pc ls (.int i :: .null :: rest)) rfl (rest := rest) rfl (by rw [hb]; exact hdg) t st, q⟩
theorem vx_iastoreN (hexec : p.tables.exec = Jvm.exec) (hb : c.code = cc) {x : Int32} {i : Int32} (hdg : decode cc pc = .ok (.iastore, 1)) (k : vx_NoteN p l e R s m args below meth c H locs cells slots Q (F0 m pc ls rest)) : W p l e R s m args below meth c H locs cells slots Q (F0 m pc ls (.int x :: .int i :: .null :: rest)) := by
  intro T hT X
  obtain ⟨t, st, q⟩ := k T hT X
  exact ⟨t, X.iastoreNull hexec (g := F0 m pc ls (.int x :: .int i :: .null :: rest)) rfl (rest := rest) rfl (by rw [hb]; exact hdg) t st, q⟩
theorem vx_lastoreN (hexec : p.tables.exec = Jvm.exec) (hb : c.code = cc) {x : Int64} {i : Int32} (hdg : decode cc pc = .ok (.lastore, 1)) (k : vx_NoteN p l e R s m args below meth c H locs cells slots Q (F0 m pc ls rest)) : W p l e R s m args below meth c H locs cells slots Q (F0 m pc ls (.long x :: .int i :: .null :: rest)) := by
  intro T hT X
  obtain ⟨t, st, q⟩ := k T hT X
  exact ⟨t, X.lastoreNull hexec (g := F0 m pc ls (.long x :: .int i :: .null :: rest)) rfl (rest := rest) rfl (by rw [hb]; exact hdg) t st, q⟩
theorem vx_fastoreN (hexec : p.tables.exec = Jvm.exec) (hb : c.code = cc) {x : UInt32} {i : Int32} (hdg : decode cc pc = .ok (.fastore, 1)) (k : vx_NoteN p l e R s m args below meth c H locs cells slots Q (F0 m pc ls rest)) : W p l e R s m args below meth c H locs cells slots Q (F0 m pc ls (.float x :: .int i :: .null :: rest)) := by
  intro T hT X
  obtain ⟨t, st, q⟩ := k T hT X
  exact ⟨t, X.fastoreNull hexec (g := F0 m pc ls (.float x :: .int i :: .null :: rest)) rfl (rest := rest) rfl (by rw [hb]; exact hdg) t st, q⟩
theorem vx_dastoreN (hexec : p.tables.exec = Jvm.exec) (hb : c.code = cc) {x : UInt64} {i : Int32} (hdg : decode cc pc = .ok (.dastore, 1)) (k : vx_NoteN p l e R s m args below meth c H locs cells slots Q (F0 m pc ls rest)) : W p l e R s m args below meth c H locs cells slots Q (F0 m pc ls (.double x :: .int i :: .null :: rest)) := by
  intro T hT X
  obtain ⟨t, st, q⟩ := k T hT X
  exact ⟨t, X.dastoreNull hexec (g := F0 m pc ls (.double x :: .int i :: .null :: rest)) rfl (rest := rest) rfl (by rw [hb]; exact hdg) t st, q⟩
theorem vx_bastoreN (hexec : p.tables.exec = Jvm.exec) (hb : c.code = cc) {x : Int32} {i : Int32} (hdg : decode cc pc = .ok (.bastore, 1)) (k : vx_NoteN p l e R s m args below meth c H locs cells slots Q (F0 m pc ls rest)) : W p l e R s m args below meth c H locs cells slots Q (F0 m pc ls (.int x :: .int i :: .null :: rest)) := by
  intro T hT X
  obtain ⟨t, st, q⟩ := k T hT X
  exact ⟨t, X.bastoreNull hexec (g := F0 m pc ls (.int x :: .int i :: .null :: rest)) rfl (rest := rest) rfl (by rw [hb]; exact hdg) t st, q⟩
theorem vx_castoreN (hexec : p.tables.exec = Jvm.exec) (hb : c.code = cc) {x : Int32} {i : Int32} (hdg : decode cc pc = .ok (.castore, 1)) (k : vx_NoteN p l e R s m args below meth c H locs cells slots Q (F0 m pc ls rest)) : W p l e R s m args below meth c H locs cells slots Q (F0 m pc ls (.int x :: .int i :: .null :: rest)) := by
  intro T hT X
  obtain ⟨t, st, q⟩ := k T hT X
  exact ⟨t, X.castoreNull hexec (g := F0 m pc ls (.int x :: .int i :: .null :: rest)) rfl (rest := rest) rfl (by rw [hb]; exact hdg) t st, q⟩
theorem vx_sastoreN (hexec : p.tables.exec = Jvm.exec) (hb : c.code = cc) {x : Int32} {i : Int32} (hdg : decode cc pc = .ok (.sastore, 1)) (k : vx_NoteN p l e R s m args below meth c H locs cells slots Q (F0 m pc ls rest)) : W p l e R s m args below meth c H locs cells slots Q (F0 m pc ls (.int x :: .int i :: .null :: rest)) := by
  intro T hT X
  obtain ⟨t, st, q⟩ := k T hT X
  exact ⟨t, X.sastoreNull hexec (g := F0 m pc ls (.int x :: .int i :: .null :: rest)) rfl (rest := rest) rfl (by rw [hb]; exact hdg) t st, q⟩
theorem vx_invokeN {own C : String} {index maxL : Nat} {y : MethodName} {bytes : ByteArray} {ret : Option FieldType} (hexec : p.tables.exec = Jvm.exec) (hb : c.code = cc) (hown : s.vm.findClass own = some m.cls) (hlink : (Cond.methodLink own index y).before args s = true) (hinst : (Cond.instanceMethod y).before args s = true) (hcode : (Cond.code y bytes maxL ret).before args s = true) (hsel : (Cond.selects C y y).before args s = true)
    (hx : y.cls ≠ "java/lang/invoke/MethodHandle" ∧ y.cls ≠ "java/lang/invoke/VarHandle") {As : List Value} (hlen : (parseMethodDescriptor y.desc).map (fun d => d.parameters.length) = some As.length) (hdg : decode cc pc = .ok (.invokevirtual index, 3))
    (k : vx_NoteN p l e R s m args below meth c H locs cells slots Q (F0 m pc ls rest)) {st0 : List Value} (hst : st0 = As.reverse ++ .null :: rest) : W p l e R s m args below meth c H locs cells slots Q (F0 m pc ls st0) := by
  intro T hT X
  obtain ⟨r0, r, hn, hrm, hstR, hsigR⟩ := va_Decl.of hinst hcode
  obtain ⟨c2, r2, m2, q1, q2, q3, q4, kP, hkP, hkPi⟩ := Cond.selects_spec hsel
  cases hn.symm.trans q3
  have hl9 : As.length = r.sig.parameters.length := by
    rw [hsigR] at hlen
    exact (Option.some.inj hlen).symm
  obtain ⟨vm', X1, st1⟩ := X.invokevirtualNull hexec hown hlink hn hrm hstR hkP hkPi hx (g := F0 m pc ls st0) rfl (argsL := As) (rest := rest) hl9 hst (by rw [hb]; exact hdg)
  obtain ⟨t, st, q⟩ := k (T.setVm vm') hT X1
  exact ⟨t, st1 t st, q⟩
theorem vx_newarrayZ {atype : ArrayType} (hexec : p.tables.exec = Jvm.exec) (hb : c.code = cc) {n : Int32} (h0 : n < 0) (hdg : decode cc pc = .ok (.newarray atype, 2)) (k : ∀ tx : String, tx = toString n → vx_Note p l e R s m args below meth c H locs cells slots Q (F0 m pc ls rest) "java/lang/NegativeArraySizeException" tx) : W p l e R s m args below meth c H locs cells slots Q (F0 m pc ls (.int n :: rest)) := by
  intro T hT X
  obtain ⟨t, st, q⟩ := k _ rfl T hT X
  exact ⟨t, X.newarrayNegative hexec (g := F0 m pc ls (.int n :: rest)) rfl h0 (rest := rest) rfl (by rw [hb]; exact hdg) t st, q⟩
end
end VXM
/-! ===== END ===== -/
/-! ===== BEGIN an exception as an object: made, kept, thrown later (no traces kept) ===== -/
section VXK
variable {p : Program} {l : Launch} {e : Env} {R : Room} {s : State} {m₀ : MethodId} {args : Array Value} {below : List Frame} {meth : Method} {c : Code} {W : State} {locs : List Loc} {cells slots : Nat}
set_option maxHeartbeats 1000000 in
theorem vx_ctorMadeS (X : Stand p l e R s m₀ args below meth c W locs cells slots) (hexec : p.tables.exec = Jvm.exec) (htr : e.platform.stackTraces = false) {own cls : String} {names : List String} {ic : Nat}
    (hown : s.vm.findClass own = some m₀.cls) (hcls : Bundle.fit cls = true) (hnames : ∀ n ∈ names, Bundle.fit n = true)
    (h : ∀ a ∈ Bundle.ownAtoms own ic cls names, a.before args s = true)
    (hlocs : ∀ x ∈ locs, ∀ cell, s.heap[x.base]? = some cell → cell.vm.isStatics = false)
    {a : Addr} {cX : ClassId} {kX : Class} (hfoundX : s.vm.findClass cls = some cX) (hkX : s.vm.classes[cX]? = some kX) (hcell : W.heap[a]? = some (freshCell cX kX)) (hnew : s.heap.size ≤ a)
    {msg : Value} (hmsg : msg.isRef = true)
    {g : JFrame} (hg : g.method = m₀) (hsize : g.locals.size = c.maxLocals) {rest : List Value} (hstack : g.stack = msg :: .ref a :: .ref a :: rest)
    (hd6 : decode c.code g.pc = .ok (.invokespecial ic, 3))
    (hRframes : names.length + 3 < R.frames) (hRlocals : 2 * g.monitorRoom + ((Value.ref a :: rest).map fun v => v.category).sum + (13 * (names.length + 1) + 42) ≤ R.locals) :
    ∃ (V : State) (ce : Cell) (L : List Loc), Stand p l e R s m₀ args below meth c (V.setCell a ce) (locs ++ L) cells slots ∧ (∀ y ∈ L, y.base = a) ∧ a < V.heap.size ∧ ce.cls = cX ∧ ce.vm = .none ∧
      ∀ target, Steps p.tables e below ((V.setCell a ce).setTop { g with stack := .ref a :: rest, pc := g.pc + 3 }) target → Steps p.tables e below (W.setTop g) target := by
  have howns : e.platform.frameOwnsMonitors = true := by rw [X.admits.platform]
  have hfin : e.platform.finalization = false := by rw [X.admits.platform]
  have hpl : e.platform.magicAccessors = ({} : Platform).magicAccessors := by rw [X.admits.platform]
  have a' : ∀ x, x ∈ Bundle.ownAtoms own ic cls names → x.holds args s none s [] = true := fun x hx => h x hx
  obtain ⟨T, Z0, L, -, Y⟩ := ThrowableC.of_atoms (args := args) howns hfin hpl (fun x hx => h x (by simp [Bundle.ownAtoms, hx]))
  obtain ⟨Z, M, LZ, LM, hnZ⟩ := Init0T.ofS_atoms (args := args) hpl L Y (fun x hx => h x (by simp [Bundle.ownAtoms, hx]))
  obtain ⟨P1, Ps, hlen, L1, hL, hP1m, hlink1, hlink⟩ := Bundle.chainS (args := args) hpl hnZ names cls hcls hnames (fun x hx => h x (by simp [Bundle.ownAtoms, hx]))
  have hfound : s.vm.findClass cls = some P1.m.cls := findClass_of_methodNamed hP1m
  cases Option.some.inj (hfoundX.symm.trans hfound)
  obtain ⟨c1, kX', hc1, hk, hord, -, -, hn6⟩ := Cond.instantiable_spec (a' (.instantiable cls 6) (by simp [Bundle.ownAtoms]))
  cases Option.some.inj (hc1.symm.trans hfound)
  cases Option.some.inj (hkX.symm.trans hk)
  have hsel0 : selectMethod e.platform s.vm P1.m.cls T.fill0 = .method T.fill0 := by
    obtain ⟨c2, r2, m2, q1, q2, q3, q4, -⟩ := Cond.selects_spec (a' (.selects cls Bundle.tFill0 Bundle.tFill0) (by simp [Bundle.ownAtoms]))
    cases Option.some.inj (q1.symm.trans hfound)
    cases Option.some.inj (q2.symm.trans (State.methodFound?_of_named Y.fill0 (by decide)))
    cases Option.some.inj (q3.symm.trans Y.fill0)
    rw [Launch.admits_selectMethod X.admits]; exact q4
  have hselF : selectMethod e.platform s.vm P1.m.cls T.fill = .method T.fill := by
    obtain ⟨c2, r2, m2, q1, q2, q3, q4, -⟩ := Cond.selects_spec (a' (.selects cls Bundle.tFill Bundle.tFill) (by simp [Bundle.ownAtoms]))
    cases Option.some.inj (q1.symm.trans hfound)
    cases Option.some.inj (q2.symm.trans (State.methodFound?_of_named Y.fill (by decide)))
    cases Option.some.inj (q3.symm.trans Y.fill)
    rw [Launch.admits_selectMethod X.admits]; exact q4
  obtain ⟨cellS0, hcS0, hiss⟩ := Y.statics
  obtain ⟨u0, hu0⟩ := Cond.staticRefV Y.unassigned L.unassignedStatic L.statics hcS0 hiss (a' (.isRef (.static Bundle.tN "UNASSIGNED_STACK" Bundle.steD)) (by simp [Bundle.ownAtoms]))
  obtain ⟨sen, hsen⟩ := Cond.staticRefV Y.sentinel L.sentinelStatic L.statics hcS0 hiss (a' (.isRef (.static Bundle.tN "SUPPRESSED_SENTINEL" Bundle.listD)) (by simp [Bundle.ownAtoms]))
  obtain ⟨ci198, i198, fB, hk198, hg198, ha198, hsB, -, hnB, htB, hffB⟩ := Cond.ownField (t := .object "java/lang/Object") Y.found L.cls (by decide +kernel) (a' (.fieldLink Bundle.tN 198 Bundle.tN "backtrace" "Ljava/lang/Object;") (by simp [Bundle.ownAtoms])) (a' (.lays Bundle.tN Bundle.tN "backtrace" "Ljava/lang/Object;") (by simp [Bundle.ownAtoms])) e.platform hpl
  obtain ⟨cellS, hcS', heS, -, hkeep⟩ := X.same.2.2.2.2.2 T.aS cellS0 hcS0
  have hcellS : W.heap[T.aS]? = some cellS := hcS'
  have hout' : ∀ i, (⟨T.aS, i⟩ : Loc) ∉ locs := fun i hmem => by
    have := hlocs _ hmem cellS0 hcS0
    rw [hiss] at this; cases this
  have hknownS : cellS.vm ≠ .unknown := by
    rw [heS]; intro hu
    rw [show cellS0.vm = .unknown from hu] at hiss
    cases hiss
  have hneS : T.aS ≠ a := Nat.ne_of_lt (Nat.lt_of_lt_of_le (Array.getElem?_eq_some_iff.mp hcS0).1 hnew)
  obtain ⟨iM, hffM⟩ := Y.msg
  obtain ⟨tyC, dC, hdC, hdnC⟩ := Cond.laysAt hfound hk Y.cause (a' (.lays cls Bundle.tN "cause" "Ljava/lang/Throwable;") (by simp [Bundle.ownAtoms]))
  obtain ⟨tyS, dS, hdS, hdnS⟩ := Cond.laysAt hfound hk Y.stack (a' (.lays cls Bundle.tN "stackTrace" Bundle.steD) (by simp [Bundle.ownAtoms]))
  obtain ⟨tyP, dP, hdP, hdnP⟩ := Cond.laysAt hfound hk Y.supp (a' (.lays cls Bundle.tN "suppressedExceptions" Bundle.listD) (by simp [Bundle.ownAtoms]))
  obtain ⟨tyM, dM, hdM, hdnM⟩ := Cond.laysAt hfound hk hffM (a' (.lays cls Bundle.tN "detailMessage" "Ljava/lang/String;") (by simp [Bundle.ownAtoms]))
  obtain ⟨tyB, dB, hdB, hdnB⟩ := Cond.laysAt hfound hk hffB (a' (.lays cls Bundle.tN "backtrace" "Ljava/lang/Object;") (by simp [Bundle.ownAtoms]))
  have bC := Cond.laysApart hdB hdC hdnB hdnC (by rw [hnB, Y.causeName]; decide)
  have bS := Cond.laysApart hdB hdS hdnB hdnS (by rw [hnB, Y.stackName]; decide)
  have bP := Cond.laysApart hdB hdP hdnB hdnP (by rw [hnB, Y.suppName]; decide)
  have hskip : SkipFacts T e.platform s (fun u => u) u0 ((preparedCellV T.toThrowableT (freshCell P1.m.cls kX) a u0 sen).withEntry W.cur) :=
    ⟨{ ci198 := ci198, i198 := i198, fBack := fB }, ⟨hk198, hg198, ha198, hsB⟩, by
      have := fresh_default (c := P1.m.cls) tyB
      rw [htB] at this
      simpa [preparedCellV, Cell.setSlot, Cell.withEntry, Array.getElem?_setIfInBounds, bC, bS, bP, bC.symm, bS.symm, bP.symm, defaultValue] using this, fun _ _ => rfl⟩
  obtain ⟨tm, methC, cdC, kC, vm₁, hnC, -, -, -, -, -, -, -, hW₁, st1⟩ := Steps.initColdS (tb := p.tables) (e := e) (below := below) (s := s) (U := W) X.here hexec X.warmed hpl hown (t := Bundle.initS cls) rfl rfl (Bundle.fit_spec hcls).2
    (a' (.methodLink own ic (Bundle.initS cls)) (by simp [Bundle.ownAtoms])) (h (.instanceMethod (Bundle.initS cls)) (by cases names <;> simp [Bundle.ownAtoms, Bundle.chainSAtoms, Bundle.passSAtoms])) (bytes := Bundle.six) (maxL := 2) (h (.code (Bundle.initS cls) Bundle.six 2 none) (by cases names <;> simp [Bundle.ownAtoms, Bundle.chainSAtoms, Bundle.passSAtoms]))
    (f := g) hg (a := a) (msg := msg) (rest := .ref a :: rest) hstack hd6
  cases Option.some.inj (hnC.symm.trans hP1m)
  have X₁ := X.noted hW₁
  obtain ⟨vm₂, X₂, st2⟩ := X₁.ctorMessageOffV hexec (g := { g with stack := .ref a :: rest }) hg hsize T L Z LZ M LM (P1 :: Ps)
    (fun P hP => by rcases List.mem_cons.mp hP with rfl | hP; exact L1; exact hL P hP) ⟨hlink1, hlink⟩ (u0 := u0) (sen := sen) (self := a) hmsg (cell := freshCell P1.m.cls kX) (cellS := cellS)
    hcell (fun _ => by simp) (by simp) rfl rfl hsel0 hselF hcellS hneS hknownS (by rw [hkeep _ (hout' _)]; exact hu0) (by rw [hkeep _ (hout' _)]; exact hsen)
    (Takes.of_laid hk hord tyC (by rw [Y.causeType]; rfl)) (Takes.of_laid hk hord tyS (by rw [Y.stackType]; exact fits_refV_array _ u0)) (Takes.of_laid hk hord tyP (by rw [Y.suppType]; exact fits_refV_object _ sen))
    (Takes.of_laid hk hord tyM (by rw [Y.msgType]; exact fits_refV_object _ ⟨msg, hmsg⟩)) Y.objLocals hskip htr [] hd6
    (by simp only [List.length_cons, hlen]; omega) (by simp only [List.length_cons, hlen]; exact hRlocals)
  have hlt : a < ((W.setVm vm₁).setVm vm₂).heap.size := (Array.getElem?_eq_some_iff.mp hcell).1
  refine ⟨(W.setVm vm₁).setVm vm₂, _, _, X₂, fun y hy => ?_, hlt, rfl, rfl, fun target hwalk => st1 _ (fun acts => ?_)⟩
  · simp only [List.mem_cons, List.not_mem_nil, or_false] at hy
    rcases hy with rfl | rfl | rfl | rfl | rfl <;> rfl
  · rw [doInvoke_state]
    exact st2 _ hwalk
set_option maxHeartbeats 1000000 in
theorem vx_ctorMade0 (X : Stand p l e R s m₀ args below meth c W locs cells slots) (hexec : p.tables.exec = Jvm.exec) (htr : e.platform.stackTraces = false) {own cls : String} {names : List String} {ic : Nat}
    (hown : s.vm.findClass own = some m₀.cls) (hcls : Bundle.fit cls = true) (hnames : ∀ n ∈ names, Bundle.fit n = true)
    (h : ∀ a ∈ Bundle.ownAtoms0 own ic cls names, a.before args s = true)
    (hlocs : ∀ x ∈ locs, ∀ cell, s.heap[x.base]? = some cell → cell.vm.isStatics = false)
    {a : Addr} {cX : ClassId} {kX : Class} (hfoundX : s.vm.findClass cls = some cX) (hkX : s.vm.classes[cX]? = some kX) (hcell : W.heap[a]? = some (freshCell cX kX)) (hnew : s.heap.size ≤ a)
    {g : JFrame} (hg : g.method = m₀) (hsize : g.locals.size = c.maxLocals) {rest : List Value} (hstack : g.stack = .ref a :: .ref a :: rest)
    (hd6 : decode c.code g.pc = .ok (.invokespecial ic, 3))
    (hRframes : names.length + 3 < R.frames) (hRlocals : 2 * g.monitorRoom + ((Value.ref a :: rest).map fun v => v.category).sum + (13 * (names.length + 1) + 41) ≤ R.locals) :
    ∃ (V : State) (ce : Cell) (L : List Loc), Stand p l e R s m₀ args below meth c (V.setCell a ce) (locs ++ L) cells slots ∧ (∀ y ∈ L, y.base = a) ∧ a < V.heap.size ∧ ce.cls = cX ∧ ce.vm = .none ∧
      ∀ target, Steps p.tables e below ((V.setCell a ce).setTop { g with stack := .ref a :: rest, pc := g.pc + 3 }) target → Steps p.tables e below (W.setTop g) target := by
  have howns : e.platform.frameOwnsMonitors = true := by rw [X.admits.platform]
  have hfin : e.platform.finalization = false := by rw [X.admits.platform]
  have hpl : e.platform.magicAccessors = ({} : Platform).magicAccessors := by rw [X.admits.platform]
  have a' : ∀ x, x ∈ Bundle.ownAtoms0 own ic cls names → x.holds args s none s [] = true := fun x hx => h x hx
  obtain ⟨T, Z, L, LZ, Y⟩ := ThrowableC.of_atoms (args := args) howns hfin hpl (fun x hx => h x (by simp [Bundle.ownAtoms0, hx]))
  obtain ⟨P1, Ps, hlen, L1, hL, hP1m, hlink1, hlink⟩ := Bundle.chain0 (args := args) hpl Y.init0 names cls hcls hnames (fun x hx => h x (by simp [Bundle.ownAtoms0, hx]))
  have hfound : s.vm.findClass cls = some P1.m.cls := findClass_of_methodNamed hP1m
  cases Option.some.inj (hfoundX.symm.trans hfound)
  obtain ⟨c1, kX', hc1, hk, hord, -, -, hn6⟩ := Cond.instantiable_spec (a' (.instantiable cls 6) (by simp [Bundle.ownAtoms0]))
  cases Option.some.inj (hc1.symm.trans hfound)
  cases Option.some.inj (hkX.symm.trans hk)
  have hsel0 : selectMethod e.platform s.vm P1.m.cls T.fill0 = .method T.fill0 := by
    obtain ⟨c2, r2, m2, q1, q2, q3, q4, -⟩ := Cond.selects_spec (a' (.selects cls Bundle.tFill0 Bundle.tFill0) (by simp [Bundle.ownAtoms0]))
    cases Option.some.inj (q1.symm.trans hfound)
    cases Option.some.inj (q2.symm.trans (State.methodFound?_of_named Y.fill0 (by decide)))
    cases Option.some.inj (q3.symm.trans Y.fill0)
    rw [Launch.admits_selectMethod X.admits]; exact q4
  have hselF : selectMethod e.platform s.vm P1.m.cls T.fill = .method T.fill := by
    obtain ⟨c2, r2, m2, q1, q2, q3, q4, -⟩ := Cond.selects_spec (a' (.selects cls Bundle.tFill Bundle.tFill) (by simp [Bundle.ownAtoms0]))
    cases Option.some.inj (q1.symm.trans hfound)
    cases Option.some.inj (q2.symm.trans (State.methodFound?_of_named Y.fill (by decide)))
    cases Option.some.inj (q3.symm.trans Y.fill)
    rw [Launch.admits_selectMethod X.admits]; exact q4
  obtain ⟨cellS0, hcS0, hiss⟩ := Y.statics
  obtain ⟨u0, hu0⟩ := Cond.staticRefV Y.unassigned L.unassignedStatic L.statics hcS0 hiss (a' (.isRef (.static Bundle.tN "UNASSIGNED_STACK" Bundle.steD)) (by simp [Bundle.ownAtoms0]))
  obtain ⟨sen, hsen⟩ := Cond.staticRefV Y.sentinel L.sentinelStatic L.statics hcS0 hiss (a' (.isRef (.static Bundle.tN "SUPPRESSED_SENTINEL" Bundle.listD)) (by simp [Bundle.ownAtoms0]))
  obtain ⟨ci198, i198, fB, hk198, hg198, ha198, hsB, -, hnB, htB, hffB⟩ := Cond.ownField (t := .object "java/lang/Object") Y.found L.cls (by decide +kernel) (a' (.fieldLink Bundle.tN 198 Bundle.tN "backtrace" "Ljava/lang/Object;") (by simp [Bundle.ownAtoms0])) (a' (.lays Bundle.tN Bundle.tN "backtrace" "Ljava/lang/Object;") (by simp [Bundle.ownAtoms0])) e.platform hpl
  obtain ⟨cellS, hcS', heS, -, hkeep⟩ := X.same.2.2.2.2.2 T.aS cellS0 hcS0
  have hcellS : W.heap[T.aS]? = some cellS := hcS'
  have hout' : ∀ i, (⟨T.aS, i⟩ : Loc) ∉ locs := fun i hmem => by
    have := hlocs _ hmem cellS0 hcS0
    rw [hiss] at this; cases this
  have hknownS : cellS.vm ≠ .unknown := by
    rw [heS]; intro hu
    rw [show cellS0.vm = .unknown from hu] at hiss
    cases hiss
  have hneS : T.aS ≠ a := Nat.ne_of_lt (Nat.lt_of_lt_of_le (Array.getElem?_eq_some_iff.mp hcS0).1 hnew)
  obtain ⟨iM, hffM⟩ := Y.msg
  obtain ⟨tyC, dC, hdC, hdnC⟩ := Cond.laysAt hfound hk Y.cause (a' (.lays cls Bundle.tN "cause" "Ljava/lang/Throwable;") (by simp [Bundle.ownAtoms0]))
  obtain ⟨tyS, dS, hdS, hdnS⟩ := Cond.laysAt hfound hk Y.stack (a' (.lays cls Bundle.tN "stackTrace" Bundle.steD) (by simp [Bundle.ownAtoms0]))
  obtain ⟨tyP, dP, hdP, hdnP⟩ := Cond.laysAt hfound hk Y.supp (a' (.lays cls Bundle.tN "suppressedExceptions" Bundle.listD) (by simp [Bundle.ownAtoms0]))
  obtain ⟨tyM, dM, hdM, hdnM⟩ := Cond.laysAt hfound hk hffM (a' (.lays cls Bundle.tN "detailMessage" "Ljava/lang/String;") (by simp [Bundle.ownAtoms0]))
  obtain ⟨tyB, dB, hdB, hdnB⟩ := Cond.laysAt hfound hk hffB (a' (.lays cls Bundle.tN "backtrace" "Ljava/lang/Object;") (by simp [Bundle.ownAtoms0]))
  have bC := Cond.laysApart hdB hdC hdnB hdnC (by rw [hnB, Y.causeName]; decide)
  have bS := Cond.laysApart hdB hdS hdnB hdnS (by rw [hnB, Y.stackName]; decide)
  have bP := Cond.laysApart hdB hdP hdnB hdnP (by rw [hnB, Y.suppName]; decide)
  have hskip : SkipFacts T e.platform s (fun u => u) u0 ((preparedCellV T.toThrowableT (freshCell P1.m.cls kX) a u0 sen).withEntry W.cur) :=
    ⟨{ ci198 := ci198, i198 := i198, fBack := fB }, ⟨hk198, hg198, ha198, hsB⟩, by
      have := fresh_default (c := P1.m.cls) tyB
      rw [htB] at this
      simpa [preparedCellV, Cell.setSlot, Cell.withEntry, Array.getElem?_setIfInBounds, bC, bS, bP, bC.symm, bS.symm, bP.symm, defaultValue] using this, fun _ _ => rfl⟩
  obtain ⟨tm, methC, cdC, kC, vm₁, hnC, -, -, -, -, -, -, -, hW₁, st1⟩ := Steps.initCold (tb := p.tables) (e := e) (below := below) (s := s) (U := W) X.here hexec X.warmed hpl hown (t := Bundle.init0 cls) rfl rfl (Bundle.fit_spec hcls).2
    (a' (.methodLink own ic (Bundle.init0 cls)) (by simp [Bundle.ownAtoms0])) (h (.instanceMethod (Bundle.init0 cls)) (by cases names <;> simp [Bundle.ownAtoms0, Bundle.chain0Atoms, Bundle.passAtoms])) (bytes := Bundle.five) (maxL := 1) (h (.code (Bundle.init0 cls) Bundle.five 1 none) (by cases names <;> simp [Bundle.ownAtoms0, Bundle.chain0Atoms, Bundle.passAtoms]))
    (f := g) hg (a := a) (rest := .ref a :: rest) hstack hd6
  cases Option.some.inj (hnC.symm.trans hP1m)
  have X₁ := X.noted hW₁
  obtain ⟨vm₂, X₂, st2⟩ := X₁.ctorPlainOffV hexec (g := { g with stack := .ref a :: rest }) hg hsize T L Z LZ (P1 :: Ps)
    (fun P hP => by rcases List.mem_cons.mp hP with rfl | hP; exact L1; exact hL P hP) ⟨hlink1, hlink⟩ (u0 := u0) (sen := sen) (self := a) (cell := freshCell P1.m.cls kX) (cellS := cellS)
    hcell (fun _ => by simp) (by simp) rfl rfl hsel0 hselF hcellS hneS hknownS (by rw [hkeep _ (hout' _)]; exact hu0) (by rw [hkeep _ (hout' _)]; exact hsen)
    (Takes.of_laid hk hord tyC (by rw [Y.causeType]; rfl)) (Takes.of_laid hk hord tyS (by rw [Y.stackType]; exact fits_refV_array _ u0)) (Takes.of_laid hk hord tyP (by rw [Y.suppType]; exact fits_refV_object _ sen)) Y.objLocals hskip htr [] hd6
    (by simp only [List.length_cons, hlen]; omega) (by simp only [List.length_cons, hlen]; exact hRlocals)
  have hlt : a < ((W.setVm vm₁).setVm vm₂).heap.size := (Array.getElem?_eq_some_iff.mp hcell).1
  refine ⟨(W.setVm vm₁).setVm vm₂, _, _, X₂, fun y hy => ?_, hlt, rfl, rfl, fun target hwalk => st1 _ (fun acts => ?_)⟩
  · simp only [List.mem_cons, List.not_mem_nil, or_false] at hy
    rcases hy with rfl | rfl | rfl | rfl <;> rfl
  · rw [doInvoke_state]
    exact st2 _ hwalk
end VXK
section VXK2
variable {p : Program} {l : Launch} {e : Env} {R : Room} {s : State} {m : MethodId} {args : Array Value} {below : List Frame} {meth : Method} {c : Code} {H : Heap} {locs : List Loc} {cells slots : Nat} {Q : State → Prop}
variable {ls : Array Slot} {rest : List Value} {D : va_G} {cl : List vw_C} {tys : List (ClassId × FieldType)} {ws : va_W}
/-- 'new E("text")' that isn't thrown at once: the object goes on the stack -/
theorem vx_makeS {cc : ByteArray} {pc : Nat} (hexec : p.tables.exec = Jvm.exec) (hb : c.code = cc) (hl : l.stackTraces = false) {own cls text : String} {names : List String} {ik is ic sa ci : Nat} {A : Nat → Prop} {T0 : u_T}
    (hown : s.vm.findClass own = some m.cls) (hcls : Bundle.fit cls = true) (hnames : ∀ n ∈ names, Bundle.fit n = true)
    (hk : (Cond.classLink own ik cls).before args s = true) (hini : (Cond.initialized cls).before args s = true) (hstr : vk_R own is text sa s) (hat : ∀ w ∈ vx_atS own ic cls names, w.before args s = true)
    (hgood : ∀ w ∈ Cond.classLink own ik cls :: Cond.initialized cls :: vx_atS own ic cls names, vx_ot w = true)
    (hU : vx_Zq Bundle.tN "UNASSIGNED_STACK" Bundle.steD A s s.heap) (hN : vx_Zq Bundle.tN "SUPPRESSED_SENTINEL" Bundle.listD A s s.heap) (hS : va_S A s.heap H locs) (hsize : ls.size = c.maxLocals)
    (d0 : decode cc pc = .ok (.new ik, 3)) (d3 : decode cc (pc + 3) = .ok (.dup, 1)) (d4 : decode cc (pc + 4) = .ok (.ldc is, 2)) (d6 : decode cc (pc + 6) = .ok (.invokespecial ic, 3))
    (hK : va_K D cl tys s) (hP : va_P D cl ws H) (hD : va_D A ws) (hA : ∀ q, s.heap.size ≤ q → A q) (hc : cl[ci]? = some (cls, T0, 0))
    (hRframes : names.length + 3 < R.frames) (hRlocals : (rest.map fun v => v.category).sum + (13 * (names.length + 1) + 43) ≤ R.locals) (hRcells : cells + 1 ≤ R.cells) (hRslots : slots + 6 ≤ R.slots)
    (kk : ∀ (q : Nat) (H1 : Heap), va_P D cl (ws ++ [(q, .inr (ci, []))]) H1 → va_D A (ws ++ [(q, .inr (ci, []))]) → va_S A s.heap H1 locs → W p l e R s m args below meth c H1 locs (cells + 1) (slots + 6) Q (F0 m (pc + 9) ls (.ref q :: rest))) :
    W p l e R s m args below meth c H locs cells slots Q (F0 m pc ls rest) := by
  intro T hT X
  subst hT
  have htr : e.platform.stackTraces = false := (show e.platform.stackTraces = l.stackTraces by rw [X.admits.platform]).trans hl
  have Y := vx_rebase X (R' := { frames := R.frames, locals := R.locals, cells := 1, slots := 6 }) (Nat.le_refl _) (Nat.le_refl _) hRcells hRslots
  obtain ⟨s', hA'⟩ : ∃ z, z = (T.setVm s.vm).setFrames (.invoking m args :: below) := ⟨_, rfl⟩
  rw [← hA'] at Y
  have hvm : s'.vm = s.vm := by rw [hA']; rfl
  have hhp : s'.heap = T.heap := by rw [hA']; rfl
  have hW0 : s.WarmedH s'.vm := by rw [hvm]; exact State.WarmedH.refl s
  have hat' : ∀ w ∈ vx_atS own ic cls names, w.before args s' = true := fun w hw => vx_ot_at hW0 hvm.symm (hgood w (List.mem_cons_of_mem _ (List.mem_cons_of_mem _ hw))) (hat w hw)
  have hk' : (Cond.classLink own ik cls).before args s' = true := vx_ot_at hW0 hvm.symm (hgood _ List.mem_cons_self) hk
  have hini' : (Cond.initialized cls).before args s' = true := vx_ot_at hW0 hvm.symm (hgood _ (List.mem_cons_of_mem _ List.mem_cons_self)) hini
  have hU' : vx_Zq Bundle.tN "UNASSIGNED_STACK" Bundle.steD A s' s'.heap := by rw [hhp]; exact vx_Zq.moved hW0.alike (hU.kept hS.2.1)
  have hN' : vx_Zq Bundle.tN "SUPPRESSED_SENTINEL" Bundle.listD A s' s'.heap := by rw [hhp]; exact vx_Zq.moved hW0.alike (hN.kept hS.2.1)
  have h : ∀ w ∈ Bundle.ownAtoms own ic cls names, w.before args s' = true := vx_own hat' (vx_isRefq hU'.1) (vx_isRefq hN'.1) hU'.2.word hN'.2.word
  have hown' : s'.vm.findClass own = some m.cls := by rw [hvm]; exact hown
  have hins : (Cond.instantiable cls 6).before args s' = true := h _ (by simp [Bundle.ownAtoms])
  obtain ⟨vm₁, cX, kX, hfX, hkX, -, -, X₁, st1⟩ := Y.newCold hexec (own := own) (C := cls) (index := ik) (n := 6) hown' hk' hins hini'
    (g := F0 m pc ls rest) rfl (by rw [hb]; exact d0) (Nat.le_refl _) (Nat.le_refl _)
  generalize hT1 : (T.setVm vm₁).pushCell { cls := cX, slots := kX.instanceTypes.map defaultValue, vm := .none } = T1 at X₁ st1
  have hcat : (Value.ref T.heap.size).category = 1 := rfl
  have hcellA : T1.heap[T.heap.size]? = some (freshCell cX kX) := by rw [← hT1]; exact State.heap_pushCell_size _ _
  have d3' : decode c.code (pc + 3) = .ok (.dup, 1) := by rw [hb]; exact d3
  have d4' : decode c.code (pc + 4) = .ok (.ldc is, 2) := by rw [hb]; exact d4
  have hstr' : vk_R own is text sa s' := vk_R.warm hW0 hstr
  obtain ⟨V, ce, L, Z, hL, hlt, hcl9, hvm9, st⟩ := vx_ctorMadeS X₁ hexec htr (own := own) (cls := cls) (names := names) (ic := ic) hown' hcls hnames h (fun x hx => nomatch hx) hfX hkX hcellA (by rw [hhp]; exact Nat.le_refl _) (msg := .ref sa) rfl
    (g := { method := m, pc := pc + 6, locals := ls, stack := .ref sa :: .ref T.heap.size :: .ref T.heap.size :: rest, locked := none }) rfl hsize (rest := rest) rfl
    (by rw [hb]; exact d6) hRframes (by simp only [List.map_cons, List.sum_cons, hcat]; omega)
  have Z0 := Stand.forget (locs := []) Z (fun y hy => by rw [hL y hy, hhp]; exact Nat.le_refl _)
  obtain ⟨f1, f2⟩ := vx_frame Z0.same
  rw [hhp] at f1 f2
  have hcid : ce.cls = D.1 ci := by
    rw [hcl9]
    have h1 := (hK.1 ci _ hc).2.1
    rw [hvm] at hfX
    exact Option.some.inj (hfX.symm.trans h1)
  have hh : (V.setCell T.heap.size ce).heap[T.heap.size]? = some ce := heapAt_setCell_self (s := V) ce hlt
  subst hA'
  have X5 := vx_back9 X Y Z0
  have X6 : Stand p l e R s m args below meth c (V.setCell T.heap.size ce) locs (cells + 1) (slots + 6) := { X5 with same := X5.same.mono (by omega) (by omega) }
  have hk9 : ∀ (k : Nat) (x : Nat × va_E), ws[k]? = some x → (V.setCell T.heap.size ce).heap[x.1]? = T.heap[x.1]? := fun k x hx => f2 x.1 ((hP k x hx).lt) (fun z hz => nomatch hz)
  obtain ⟨t, a1, b1⟩ := kk T.heap.size (V.setCell T.heap.size ce).heap ((hP.kept hk9).app (fun k x hx => by
      have hz : k < 1 := (List.getElem?_eq_some_iff.mp hx).1
      rw [show k = 0 by omega] at hx
      cases hx
      exact ⟨_, hc, ce, hh, hcid, hvm9, fun k hk => absurd hk (Nat.not_lt_zero k)⟩)) (hD.push hP rfl (hA _ hS.1)) ⟨Nat.le_trans hS.1 f1, fun q h1 h2 => (f2 q (Nat.lt_of_lt_of_le h1 hS.1) (fun z hz => nomatch hz)).trans (hS.2.1 q h1 h2), hS.2.2⟩ _ rfl X6
  refine ⟨t, st1 _ ?_, b1⟩
  show Steps p.tables e below (T1.setTop { method := m, pc := pc + 3, locals := ls, stack := .ref T.heap.size :: rest, locked := none }) _
  jvm_step X₁.here [X₁.here.top, hexec, d3', Value.category]
  exact X₁.ldcString hexec (own := own) (text := text) (index := is) (a := sa) hown' hstr'.1 hstr'.2
    (g := { method := m, pc := pc + 4, locals := ls, stack := .ref T.heap.size :: .ref T.heap.size :: rest, locked := none }) rfl d4' _ (st _ a1)
/-- 'new E()' that isn't thrown at once: the object goes on the stack -/
theorem vx_make0 {cc : ByteArray} {pc : Nat} (hexec : p.tables.exec = Jvm.exec) (hb : c.code = cc) (hl : l.stackTraces = false) {own cls : String} {names : List String} {ik ic ci : Nat} {A : Nat → Prop} {T0 : u_T}
    (hown : s.vm.findClass own = some m.cls) (hcls : Bundle.fit cls = true) (hnames : ∀ n ∈ names, Bundle.fit n = true)
    (hk : (Cond.classLink own ik cls).before args s = true) (hini : (Cond.initialized cls).before args s = true) (hat : ∀ w ∈ vx_at0 own ic cls names, w.before args s = true)
    (hgood : ∀ w ∈ Cond.classLink own ik cls :: Cond.initialized cls :: vx_at0 own ic cls names, vx_ot w = true)
    (hU : vx_Zq Bundle.tN "UNASSIGNED_STACK" Bundle.steD A s s.heap) (hN : vx_Zq Bundle.tN "SUPPRESSED_SENTINEL" Bundle.listD A s s.heap) (hS : va_S A s.heap H locs) (hsize : ls.size = c.maxLocals)
    (d0 : decode cc pc = .ok (.new ik, 3)) (d3 : decode cc (pc + 3) = .ok (.dup, 1)) (d4 : decode cc (pc + 4) = .ok (.invokespecial ic, 3))
    (hK : va_K D cl tys s) (hP : va_P D cl ws H) (hD : va_D A ws) (hA : ∀ q, s.heap.size ≤ q → A q) (hc : cl[ci]? = some (cls, T0, 0))
    (hRframes : names.length + 3 < R.frames) (hRlocals : (rest.map fun v => v.category).sum + (13 * (names.length + 1) + 42) ≤ R.locals) (hRcells : cells + 1 ≤ R.cells) (hRslots : slots + 6 ≤ R.slots)
    (kk : ∀ (q : Nat) (H1 : Heap), va_P D cl (ws ++ [(q, .inr (ci, []))]) H1 → va_D A (ws ++ [(q, .inr (ci, []))]) → va_S A s.heap H1 locs → W p l e R s m args below meth c H1 locs (cells + 1) (slots + 6) Q (F0 m (pc + 7) ls (.ref q :: rest))) :
    W p l e R s m args below meth c H locs cells slots Q (F0 m pc ls rest) := by
  intro T hT X
  subst hT
  have htr : e.platform.stackTraces = false := (show e.platform.stackTraces = l.stackTraces by rw [X.admits.platform]).trans hl
  have Y := vx_rebase X (R' := { frames := R.frames, locals := R.locals, cells := 1, slots := 6 }) (Nat.le_refl _) (Nat.le_refl _) hRcells hRslots
  obtain ⟨s', hA'⟩ : ∃ z, z = (T.setVm s.vm).setFrames (.invoking m args :: below) := ⟨_, rfl⟩
  rw [← hA'] at Y
  have hvm : s'.vm = s.vm := by rw [hA']; rfl
  have hhp : s'.heap = T.heap := by rw [hA']; rfl
  have hW0 : s.WarmedH s'.vm := by rw [hvm]; exact State.WarmedH.refl s
  have hat' : ∀ w ∈ vx_at0 own ic cls names, w.before args s' = true := fun w hw => vx_ot_at hW0 hvm.symm (hgood w (List.mem_cons_of_mem _ (List.mem_cons_of_mem _ hw))) (hat w hw)
  have hk' : (Cond.classLink own ik cls).before args s' = true := vx_ot_at hW0 hvm.symm (hgood _ List.mem_cons_self) hk
  have hini' : (Cond.initialized cls).before args s' = true := vx_ot_at hW0 hvm.symm (hgood _ (List.mem_cons_of_mem _ List.mem_cons_self)) hini
  have hU' : vx_Zq Bundle.tN "UNASSIGNED_STACK" Bundle.steD A s' s'.heap := by rw [hhp]; exact vx_Zq.moved hW0.alike (hU.kept hS.2.1)
  have hN' : vx_Zq Bundle.tN "SUPPRESSED_SENTINEL" Bundle.listD A s' s'.heap := by rw [hhp]; exact vx_Zq.moved hW0.alike (hN.kept hS.2.1)
  have h : ∀ w ∈ Bundle.ownAtoms0 own ic cls names, w.before args s' = true := vx_own hat' (vx_isRefq hU'.1) (vx_isRefq hN'.1) hU'.2.word hN'.2.word
  have hown' : s'.vm.findClass own = some m.cls := by rw [hvm]; exact hown
  have hins : (Cond.instantiable cls 6).before args s' = true := h _ (by simp [Bundle.ownAtoms0])
  obtain ⟨vm₁, cX, kX, hfX, hkX, -, -, X₁, st1⟩ := Y.newCold hexec (own := own) (C := cls) (index := ik) (n := 6) hown' hk' hins hini'
    (g := F0 m pc ls rest) rfl (by rw [hb]; exact d0) (Nat.le_refl _) (Nat.le_refl _)
  generalize hT1 : (T.setVm vm₁).pushCell { cls := cX, slots := kX.instanceTypes.map defaultValue, vm := .none } = T1 at X₁ st1
  have hcat : (Value.ref T.heap.size).category = 1 := rfl
  have hcellA : T1.heap[T.heap.size]? = some (freshCell cX kX) := by rw [← hT1]; exact State.heap_pushCell_size _ _
  have d3' : decode c.code (pc + 3) = .ok (.dup, 1) := by rw [hb]; exact d3
  obtain ⟨V, ce, L, Z, hL, hlt, hcl9, hvm9, st⟩ := vx_ctorMade0 X₁ hexec htr (own := own) (cls := cls) (names := names) (ic := ic) hown' hcls hnames h (fun x hx => nomatch hx) hfX hkX hcellA (by rw [hhp]; exact Nat.le_refl _)
    (g := { method := m, pc := pc + 4, locals := ls, stack := .ref T.heap.size :: .ref T.heap.size :: rest, locked := none }) rfl hsize (rest := rest) rfl
    (by rw [hb]; exact d4) hRframes (by simp only [List.map_cons, List.sum_cons, hcat]; omega)
  have Z0 := Stand.forget (locs := []) Z (fun y hy => by rw [hL y hy, hhp]; exact Nat.le_refl _)
  obtain ⟨f1, f2⟩ := vx_frame Z0.same
  rw [hhp] at f1 f2
  have hcid : ce.cls = D.1 ci := by
    rw [hcl9]
    have h1 := (hK.1 ci _ hc).2.1
    rw [hvm] at hfX
    exact Option.some.inj (hfX.symm.trans h1)
  have hh : (V.setCell T.heap.size ce).heap[T.heap.size]? = some ce := heapAt_setCell_self (s := V) ce hlt
  subst hA'
  have X5 := vx_back9 X Y Z0
  have X6 : Stand p l e R s m args below meth c (V.setCell T.heap.size ce) locs (cells + 1) (slots + 6) := { X5 with same := X5.same.mono (by omega) (by omega) }
  have hk9 : ∀ (k : Nat) (x : Nat × va_E), ws[k]? = some x → (V.setCell T.heap.size ce).heap[x.1]? = T.heap[x.1]? := fun k x hx => f2 x.1 ((hP k x hx).lt) (fun z hz => nomatch hz)
  obtain ⟨t, a1, b1⟩ := kk T.heap.size (V.setCell T.heap.size ce).heap ((hP.kept hk9).app (fun k x hx => by
      have hz : k < 1 := (List.getElem?_eq_some_iff.mp hx).1
      rw [show k = 0 by omega] at hx
      cases hx
      exact ⟨_, hc, ce, hh, hcid, hvm9, fun k hk => absurd hk (Nat.not_lt_zero k)⟩)) (hD.push hP rfl (hA _ hS.1)) ⟨Nat.le_trans hS.1 f1, fun q h1 h2 => (f2 q (Nat.lt_of_lt_of_le h1 hS.1) (fun z hz => nomatch hz)).trans (hS.2.1 q h1 h2), hS.2.2⟩ _ rfl X6
  refine ⟨t, st1 _ ?_, b1⟩
  show Steps p.tables e below (T1.setTop { method := m, pc := pc + 3, locals := ls, stack := .ref T.heap.size :: rest, locked := none }) _
  jvm_step X₁.here [X₁.here.top, hexec, d3', Value.category]
  exact st _ a1
/-- 'throw x' of an object that was made before -/
theorem vx_athrow {cc : ByteArray} {pc : Nat} (hexec : p.tables.exec = Jvm.exec) (hb : c.code = cc) {q : Addr} (hdg : decode cc pc = .ok (.athrow, 1)) (k : vx_W p l e R s m args below meth c H locs cells slots Q (F0 m pc ls rest) q) : W p l e R s m args below meth c H locs cells slots Q (F0 m pc ls (.ref q :: rest)) := by
  intro T hT X
  obtain ⟨t, st, hq⟩ := k T hT X
  refine ⟨t, ?_, hq⟩
  have hdg' : decode c.code pc = .ok (.athrow, 1) := by rw [hb]; exact hdg
  jvm_step X.here [X.here.top, hexec, hdg', athrow.wp_sem]
  exact st
end VXK2
/-! ===== END ===== -/
/-! ===== BEGIN a constructor that throws (launches without stack traces) ===== -/
section VXIA
variable {p : Program} {l : Launch} {e : Env} {R : Room} {s : State} {m : MethodId} {args : Array Value} {below : List Frame} {meth : Method} {c : Code} {T : State} {locs : List Loc} {cells slots : Nat}
theorem vx_callI (X : Stand p l e R s m args below meth c T locs cells slots) (hexec : p.tables.exec = Jvm.exec) {own : String} {index : Nat} {y : MethodName} {bytes : ByteArray} {maxL : Nat}
    (hown : s.vm.findClass own = some m.cls) (hy1 : y.name = "<init>") (hlink : (Cond.methodLink own index y).before args s = true) (hinst : (Cond.instanceMethod y).before args s = true)
    (hcode : (Cond.code y bytes maxL none).before args s = true) (hy : y.cls ≠ "java/lang/invoke/MethodHandle" ∧ y.cls ≠ "java/lang/invoke/VarHandle")
    {W9 : Nat} {Pre : Pt → Array Value → Prop} {Post : Pt → Array Value → Option Value → Pt → Prop} {PostX : Pt → Array Value → Addr → Pt → Prop} (hK : vx_Back l R p e below s args y 3 W9 Pre Post PostX)
    {g : JFrame} (hg : g.method = m) (hsize : g.locals.size = c.maxLocals) {a : Addr} {argsL rest : List Value} (hlen : ∀ sig, parseMethodDescriptor y.desc = some sig → argsL.length = sig.parameters.length)
    (hstack : g.stack = argsL.reverse ++ .ref a :: rest) (hW : 2 * g.monitorRoom + (rest.map fun v => v.category).sum ≤ W9) (hdg : decode c.code g.pc = .ok (.invokespecial index, 3))
    (hpre : ∀ vm₁, s.WarmedH vm₁ → Pre ⟨T.setVm vm₁, locs, cells, slots⟩ (Value.ref a :: argsL).toArray) :
    (∃ (v : Option Value) (vm₁ : Vm) (B : Pt), s.WarmedH vm₁ ∧ Stand p l e R s m args below meth c B.U B.locs B.cells B.slots ∧ Post ⟨T.setVm vm₁, locs, cells, slots⟩ (Value.ref a :: argsL).toArray v B ∧
      ∀ target, Steps p.tables e below (B.U.setTop { g with pc := g.pc + 3, stack := v.toList ++ rest }) target → Steps p.tables e below (T.setTop g) target) ∨
    (∃ (q : Addr) (vm₁ : Vm) (B : Pt), s.WarmedH vm₁ ∧ Stand p l e R s m args below meth c B.U B.locs B.cells B.slots ∧ PostX ⟨T.setVm vm₁, locs, cells, slots⟩ (Value.ref a :: argsL).toArray q B ∧
      Steps p.tables e below (T.setTop g) ((B.U.setTop { g with stack := rest }).pushFrame (.throwing q))) := by
  subst hg
  have hpl : e.platform.magicAccessors = ({} : Platform).magicAccessors := by rw [X.admits.platform]
  obtain ⟨mk, methM, cM, kP, vm₁, hnamed, hmethM, hcodeM, -, hlocalsM, -, hkP, -, hW₁, hstep₁⟩ := Steps.initColdArgs (e := e) X.here hexec X.warmed hpl hown hy1 hy hlink hinst hcode (f := g) rfl hlen hstack hdg
  have X₁ := X.noted hW₁
  rcases hK g.method meth c ⟨T.setVm vm₁, locs, cells, slots⟩ { g with stack := rest } (.invokespecial index) mk (Value.ref a :: argsL).toArray X₁ rfl hsize hdg hW (X₁.named hnamed) (hpre vm₁ X₁.warmed) with ⟨v, B, X', hpost, hsteps⟩ | ⟨q, B, X', hpost, hsteps⟩
  · exact Or.inl ⟨v, vm₁, B, X₁.warmed, X', hpost, fun target h => hstep₁ _ fun acts => by rw [doInvoke_state]; exact hsteps.trans h⟩
  · exact Or.inr ⟨q, vm₁, B, X₁.warmed, X', hpost, hstep₁ _ fun acts => by rw [doInvoke_state]; exact hsteps⟩
end VXIA
section VXIB
variable {p : Program} {l : Launch} {e : Env} {R : Room} {s : State} {m : MethodId} {args : Array Value} {below : List Frame} {meth : Method} {c : Code} {H : Heap} {locs : List Loc} {cells slots : Nat}
variable {y : MethodName} {bytes cc : ByteArray} {maxL nL mc ms n index : Nat} {ret : Option FieldType} {ws : List Cond} {rm : Room} {Pc : Array Value → State → Prop} {Qc : Array Value → State → Outcome → State → Prop} {XC : String → State → State → Prop} {free : Addr → Prop} {Ts : List Cond} {own C : String} {b : Addr} {As rest : List Value} {g : JFrame}
theorem vx_runI (S : CallFix p m c cc nL s args Ts own) (hM : vx_Met l y ws rm Pc Qc XC mc ms free) (cw : CallB R s args own index y bytes maxL none ws rm mc ms n ∧ y.name = "<init>" ∧ (Cond.instanceMethod y).before args s = true) (hp : PreS s H Pc (.ref b :: As))
    (hg : g.method = m) (hn : As.length = n) (hsize : g.locals.size = nL) (hstack : g.stack = As.reverse ++ .ref b :: rest) (hW : 2 * g.monitorRoom + (rest.map fun v => v.category).sum ≤ 8) (hdg : decode cc g.pc = .ok (.invokespecial index, 3)) (hf : cells + mc ≤ R.cells ∧ slots + ms ≤ R.slots) :
    vx_Run p l e R s m args below meth c H locs cells slots mc ms g rest (Qc (Value.ref b :: As).toArray) XC free := by
  have hK : vx_Back l R p e below s args y 3 8 (PreOf R mc ms Pc) (PostOf Qc mc ms free) (vx_Post XC mc ms free) := vx_callBack cw.1 hM hp.1
  obtain ⟨⟨-, -, -, -, -, -, hcode, -, hy, hlen, hl⟩, hy1, hin⟩ := cw
  obtain ⟨hx, hb, hml, ho, -⟩ := S
  have hPc := hp.2
  intro T hT X
  rcases vx_callI X hx (bytes := bytes) (maxL := maxL) ho hy1 hl hin hcode hy hK hg (hsize.trans hml.symm) (a := b) (argsL := As) (rest := rest) (fun sig h => hn.trans (hlen sig h)) hstack hW (by rw [hb]; exact hdg)
    (fun vm₁ hW₁ => ⟨hf.1, hf.2, hPc (T.setVm vm₁) hT hW₁⟩) with ⟨v, vm₁, ⟨U', l2, c2, s2⟩, hW₁, X', ⟨g', mk, t, L, e1, e2, hq, h1, hL, h2, h3⟩, st⟩ | ⟨q, vm₁, ⟨U', l2, c2, s2⟩, hW₁, X', ⟨g', mk, t, L, E, ce, e1, e2, hq, hce, hcv, hcl, h1, hL, h2, h3⟩, st⟩
  · dsimp only [Pt.U, Pt.locs, Pt.cells, Pt.slots] at X' e1 e2 h1 h2 h3 st
    subst h1; subst h2; subst h3
    exact Or.inl ⟨v, (T.setVm vm₁).calling g' mk (Value.ref b :: As).toArray, t, U', L, hT, X', hL, e1, e2, hq, st⟩
  · dsimp only [Pt.U, Pt.locs, Pt.cells, Pt.slots] at X' e1 e2 h1 h2 h3 st hcl
    subst h1; subst h2; subst h3
    exact Or.inr ⟨q, (T.setVm vm₁).calling g' mk (Value.ref b :: As).toArray, t, U', L, E, ce, hT, X', hL, e1, e2, hq, hce, hcv, vx_cls hW₁ hcl, st⟩
end VXIB
/-! ===== END ===== -/
/-! ===== BEGIN a private constructor of a nest mate that throws ===== -/
section VXIC
variable {p : Program} {l : Launch} {e : Env} {R : Room} {s : State} {m : MethodId} {args : Array Value} {below : List Frame} {meth : Method} {c : Code} {T : State} {locs : List Loc} {cells slots : Nat}
theorem vx_callIN (X : Stand p l e R s m args below meth c T locs cells slots) (hexec : p.tables.exec = Jvm.exec) {own : String} {index : Nat} {host : String} {y : MethodName} {bytes : ByteArray} {maxL : Nat}
    (hown : s.vm.findClass own = some m.cls) (hy1 : y.name = "<init>") (hlink : (Cond.methodLinkNest own index y host).before args s = true) (hinst : (Cond.instanceMethod y).before args s = true)
    (hcode : (Cond.code y bytes maxL none).before args s = true) (hy : y.cls ≠ "java/lang/invoke/MethodHandle" ∧ y.cls ≠ "java/lang/invoke/VarHandle")
    {W9 : Nat} {Pre : Pt → Array Value → Prop} {Post : Pt → Array Value → Option Value → Pt → Prop} {PostX : Pt → Array Value → Addr → Pt → Prop} (hK : vx_Back l R p e below s args y 3 W9 Pre Post PostX)
    {g : JFrame} (hg : g.method = m) (hsize : g.locals.size = c.maxLocals) {a : Addr} {argsL rest : List Value} (hlen : ∀ sig, parseMethodDescriptor y.desc = some sig → argsL.length = sig.parameters.length)
    (hstack : g.stack = argsL.reverse ++ .ref a :: rest) (hW : 2 * g.monitorRoom + (rest.map fun v => v.category).sum ≤ W9) (hdg : decode c.code g.pc = .ok (.invokespecial index, 3))
    (hpre : ∀ vm₁, s.WarmedH vm₁ → Pre ⟨T.setVm vm₁, locs, cells, slots⟩ (Value.ref a :: argsL).toArray) :
    (∃ (v : Option Value) (vm₁ : Vm) (B : Pt), s.WarmedH vm₁ ∧ Stand p l e R s m args below meth c B.U B.locs B.cells B.slots ∧ Post ⟨T.setVm vm₁, locs, cells, slots⟩ (Value.ref a :: argsL).toArray v B ∧
      ∀ target, Steps p.tables e below (B.U.setTop { g with pc := g.pc + 3, stack := v.toList ++ rest }) target → Steps p.tables e below (T.setTop g) target) ∨
    (∃ (q : Addr) (vm₁ : Vm) (B : Pt), s.WarmedH vm₁ ∧ Stand p l e R s m args below meth c B.U B.locs B.cells B.slots ∧ PostX ⟨T.setVm vm₁, locs, cells, slots⟩ (Value.ref a :: argsL).toArray q B ∧
      Steps p.tables e below (T.setTop g) ((B.U.setTop { g with stack := rest }).pushFrame (.throwing q))) := by
  subst hg
  have hpl : e.platform.magicAccessors = ({} : Platform).magicAccessors := by rw [X.admits.platform]
  obtain ⟨mk, methM, cM, kP, vm₁, hnamed, hmethM, hcodeM, -, hlocalsM, -, hkP, -, hW₁, hstep₁⟩ := Steps.initColdArgsNest (e := e) X.here hexec X.warmed hpl hown hy1 hy hlink hinst hcode (f := g) rfl hlen hstack hdg
  have X₁ := X.noted hW₁
  rcases hK g.method meth c ⟨T.setVm vm₁, locs, cells, slots⟩ { g with stack := rest } (.invokespecial index) mk (Value.ref a :: argsL).toArray X₁ rfl hsize hdg hW (X₁.named hnamed) (hpre vm₁ X₁.warmed) with ⟨v, B, X', hpost, hsteps⟩ | ⟨q, B, X', hpost, hsteps⟩
  · exact Or.inl ⟨v, vm₁, B, X₁.warmed, X', hpost, fun target h => hstep₁ _ fun acts => by rw [doInvoke_state]; exact hsteps.trans h⟩
  · exact Or.inr ⟨q, vm₁, B, X₁.warmed, X', hpost, hstep₁ _ fun acts => by rw [doInvoke_state]; exact hsteps⟩
end VXIC
section VXID
variable {p : Program} {l : Launch} {e : Env} {R : Room} {s : State} {m : MethodId} {args : Array Value} {below : List Frame} {meth : Method} {c : Code} {H : Heap} {locs : List Loc} {cells slots : Nat}
theorem vx_runIN {y : MethodName} {bytes cc : ByteArray} {maxL nL mc ms n index : Nat} {ws : List Cond} {rm : Room} {Pc : Array Value → State → Prop} {Qc : Array Value → State → Outcome → State → Prop} {XC : String → State → State → Prop} {free : Addr → Prop} {Ts : List Cond} {own host : String} {b : Addr} {As rest : List Value} {g : JFrame}
    (S : CallFix p m c cc nL s args Ts own) (hM : vx_Met l y ws rm Pc Qc XC mc ms free) (cw : va_CN R s args own index y host bytes maxL none ws rm mc ms n ∧ y.name = "<init>" ∧ (Cond.instanceMethod y).before args s = true) (hp : PreS s H Pc (.ref b :: As))
    (hg : g.method = m) (hn : As.length = n) (hsize : g.locals.size = nL) (hstack : g.stack = As.reverse ++ .ref b :: rest) (hW : 2 * g.monitorRoom + (rest.map fun v => v.category).sum ≤ 8) (hdg : decode cc g.pc = .ok (.invokespecial index, 3)) (hf : cells + mc ≤ R.cells ∧ slots + ms ≤ R.slots) :
    vx_Run p l e R s m args below meth c H locs cells slots mc ms g rest (Qc (Value.ref b :: As).toArray) XC free := by
  obtain ⟨⟨⟨hrc, hrs, hfr, hlo, hws, hcw⟩, hcode, hini, hy, hlen, hl⟩, hx1, hx2⟩ := cw
  have hK : vx_Back l R p e below s args y 3 8 (PreOf R mc ms Pc) (PostOf Qc mc ms free) (vx_Post XC mc ms free) := vx_back (bytes := bytes) (maxL := maxL) (ret := none) hM hp.1 hrc hrs hfr hlo hws hcw (fun a' U hW => word_at hW (Or.inl (by first | rfl | simp [Cond.onTables, Cond.keeps, Cond.steady])) hini)
  obtain ⟨hx, hb, hml, ho, -⟩ := S
  have hPc := hp.2
  intro T hT X
  rcases vx_callIN X hx (bytes := bytes) (maxL := maxL) ho hx1 hl hx2 hcode hy hK hg (hsize.trans hml.symm) (a := b) (argsL := As) (rest := rest) (fun sig h => hn.trans (hlen sig h)) hstack hW (by rw [hb]; exact hdg)
    (fun vm₁ hW₁ => ⟨hf.1, hf.2, hPc (T.setVm vm₁) hT hW₁⟩) with ⟨v, vm₁, ⟨U', l2, c2, s2⟩, hW₁, X', ⟨g', mk, t, L, e1, e2, hq, h1, hL, h2, h3⟩, st⟩ | ⟨q, vm₁, ⟨U', l2, c2, s2⟩, hW₁, X', ⟨g', mk, t, L, E, ce, e1, e2, hq, hce, hcv, hcl, h1, hL, h2, h3⟩, st⟩
  · dsimp only [Pt.U, Pt.locs, Pt.cells, Pt.slots] at X' e1 e2 h1 h2 h3 st
    subst h1; subst h2; subst h3
    exact Or.inl ⟨v, (T.setVm vm₁).calling g' mk (Value.ref b :: As).toArray, t, U', L, hT, X', hL, e1, e2, hq, st⟩
  · dsimp only [Pt.U, Pt.locs, Pt.cells, Pt.slots] at X' e1 e2 h1 h2 h3 st hcl
    subst h1; subst h2; subst h3
    exact Or.inr ⟨q, (T.setVm vm₁).calling g' mk (Value.ref b :: As).toArray, t, U', L, E, ce, hT, X', hL, e1, e2, hq, hce, hcv, vx_cls hW₁ hcl, st⟩
end VXID
/-! ===== END ===== -/
/-! ===== BEGIN a method of a class above, found by the receiver, that may throw (follows va_callVU, va_runU of this kit) ===== -/
section
variable {p : Program} {l : Launch} {e : Env} {R : Room} {s : State} {m : MethodId} {args : Array Value} {below : List Frame} {meth : Method} {c : Code} {H : Heap} {locs : List Loc} {cells slots : Nat}
theorem vx_callVU {T : State} {locs : List Loc} {cells slots : Nat} (X : Stand p l e R s m args below meth c T locs cells slots) (hexec : p.tables.exec = Jvm.exec) {own C owner : String} {index : Nat} {x y : MethodName} {bytes : ByteArray} {maxL : Nat} {ret : Option FieldType}
    (hown : s.vm.findClass own = some m.cls) (hlink : (Cond.methodLink own index x).before args s = true) (hsame : (Cond.sameMethod x.cls owner x.name x.desc).before args s = true)
    (hd0 : va_Decl s ⟨owner, x.name, x.desc⟩) (howner : owner ≠ "java/lang/invoke/MethodHandle" ∧ owner ≠ "java/lang/invoke/VarHandle")
    (hsel : (Cond.selects C x y).before args s = true) (hinst : (Cond.instanceMethod y).before args s = true) (hcode : (Cond.code y bytes maxL ret).before args s = true)
    {W : Nat} {Pre : Pt → Array Value → Prop} {Post : Pt → Array Value → Option Value → Pt → Prop} {PostX : Pt → Array Value → Addr → Pt → Prop} (hK : vx_Back l R p e below s args y 3 W Pre Post PostX)
    {b : Addr} {cellB : Cell} (hcell : T.heap[b]? = some cellB) (hobj : cellB.vm.isStatics = false) (hcls : s.vm.findClass C = some cellB.cls)
    {g : JFrame} (hg : g.method = m) (hsize : g.locals.size = c.maxLocals) {argsL rest : List Value} (hlen : ∀ sig, parseMethodDescriptor x.desc = some sig → argsL.length = sig.parameters.length)
    (hstack : g.stack = argsL.reverse ++ .ref b :: rest) (hW : 2 * g.monitorRoom + (rest.map fun v => v.category).sum ≤ W) (hdg : decode c.code g.pc = .ok (.invokevirtual index, 3))
    (hpre : ∀ vm₁, s.WarmedH vm₁ → Pre ⟨T.setVm vm₁, locs, cells, slots⟩ (Value.ref b :: argsL).toArray) :
    (∃ (v : Option Value) (vm₁ : Vm) (B : Pt), s.WarmedH vm₁ ∧ Stand p l e R s m args below meth c B.U B.locs B.cells B.slots ∧ Post ⟨T.setVm vm₁, locs, cells, slots⟩ (Value.ref b :: argsL).toArray v B ∧
      ∀ target, Steps p.tables e below (B.U.setTop { g with pc := g.pc + 3, stack := v.toList ++ rest }) target → Steps p.tables e below (T.setTop g) target) ∨
    (∃ (q : Addr) (vm₁ : Vm) (B : Pt), s.WarmedH vm₁ ∧ Stand p l e R s m args below meth c B.U B.locs B.cells B.slots ∧ PostX ⟨T.setVm vm₁, locs, cells, slots⟩ (Value.ref b :: argsL).toArray q B ∧
      Steps p.tables e below (T.setTop g) ((B.U.setTop { g with stack := rest }).pushFrame (.throwing q))) := by
  obtain ⟨r0, r, hn, hrm, hstR, hsigR⟩ := hd0
  obtain ⟨cn, ck, r1, hcn, hck, hni, hf, hn1⟩ := Cond.sameMethod_found hsame
  cases hn.symm.trans hn1
  obtain ⟨mk, methM, hnamed, hmethM, -, habM⟩ := Cond.instanceMethod_spec hinst
  obtain ⟨c2, r2, m2, q1, q2, q3, q4, kP, hkP, hkPi⟩ := Cond.selects_spec hsel
  cases hcls.symm.trans q1
  cases hf.symm.trans q2
  cases hnamed.symm.trans q3
  have hselP : selectMethod e.platform s.vm cellB.cls r0 = .method mk := by rw [Launch.admits_selectMethod X.admits]; exact q4
  obtain ⟨vm₁, X₁, hstep₁⟩ := X.invokevirtualUp hexec hown hlink hsame howner hn hrm hstR (a := b) (cell := cellB) hcell
    (fun z h => by rw [h] at hobj; cases hobj) hselP hmethM habM hkP hkPi (g := g) hg (argsL := argsL) (rest := rest) (hlen _ hsigR) hstack hdg
  rcases hK m meth c ⟨T.setVm vm₁, locs, cells, slots⟩ { g with stack := rest } (.invokevirtual index) mk (Value.ref b :: argsL).toArray X₁ hg hsize hdg hW (X₁.named hnamed) (hpre vm₁ X₁.warmed) with ⟨v, B, X', hpost, hsteps⟩ | ⟨q, B, X', hpost, hsteps⟩
  · exact Or.inl ⟨v, vm₁, B, X₁.warmed, X', hpost, fun target h => hstep₁ _ fun acts => by rw [doInvoke_state]; exact hsteps.trans h⟩
  · exact Or.inr ⟨q, vm₁, B, X₁.warmed, X', hpost, hstep₁ _ fun acts => by rw [doInvoke_state]; exact hsteps⟩
theorem vx_runU {x y : MethodName} {bytes cc : ByteArray} {maxL nL mc ms n index : Nat} {ret : Option FieldType} {ws : List Cond} {rm : Room} {Pc : Array Value → State → Prop} {Qc : Array Value → State → Outcome → State → Prop} {XC : String → State → State → Prop} {free : Addr → Prop} {Ts : List Cond} {own C owner : String} {b : Addr} {As rest : List Value} {g : JFrame}
    (S : CallFix p m c cc nL s args Ts own) (hM : vx_Met l y ws rm Pc Qc XC mc ms free) (cw : va_CU R s args own C owner index x y bytes maxL ret ws rm mc ms n) (hp : PreV s H C b Pc As)
    (hg : g.method = m) (hn : As.length = n) (hsize : g.locals.size = nL) (hstack : g.stack = As.reverse ++ .ref b :: rest) (hW : 2 * g.monitorRoom + (rest.map fun v => v.category).sum ≤ 8) (hdg : decode cc g.pc = .ok (.invokevirtual index, 3)) (hf : cells + mc ≤ R.cells ∧ slots + ms ≤ R.slots) :
    vx_Run p l e R s m args below meth c H locs cells slots mc ms g rest (Qc (Value.ref b :: As).toArray) XC free := by
  obtain ⟨hrc, hrs, hfr, hlo, hws, hcw⟩ := cw.back
  have hini := cw.init
  have hK : vx_Back l R p e below s args y 3 8 (PreOf R mc ms Pc) (PostOf Qc mc ms free) (vx_Post XC mc ms free) := vx_back (bytes := bytes) (maxL := maxL) (ret := ret) hM hp.1 hrc hrs hfr hlo hws hcw (fun a' U hW => word_at hW (Or.inl (by first | rfl | simp [Cond.onTables, Cond.keeps, Cond.steady])) hini)
  obtain ⟨hx, hb, hml, ho, -⟩ := S
  obtain ⟨-, ⟨cellB, hcB, hoB, hclB⟩, hPc⟩ := hp
  intro T hT X
  rcases vx_callVU X hx (C := C) (owner := owner) (bytes := bytes) (maxL := maxL) (ret := ret) ho cw.link cw.same cw.decl cw.notMH cw.sel cw.inst cw.code hK (by rw [hT]; exact hcB) hoB hclB hg (hsize.trans hml.symm) (argsL := As) (rest := rest) (fun sig h => hn.trans (cw.len sig h)) hstack hW (by rw [hb]; exact hdg)
    (fun vm₁ hW₁ => ⟨hf.1, hf.2, hPc (T.setVm vm₁) hT hW₁⟩) with ⟨v, vm₁, ⟨U', l2, c2, s2⟩, hW₁, X', ⟨g', mk, t, L, e1, e2, hq, h1, hL, h2, h3⟩, st⟩ | ⟨q, vm₁, ⟨U', l2, c2, s2⟩, hW₁, X', ⟨g', mk, t, L, E, ce, e1, e2, hq, hce, hcv, hcl, h1, hL, h2, h3⟩, st⟩
  · dsimp only [Pt.U, Pt.locs, Pt.cells, Pt.slots] at X' e1 e2 h1 h2 h3 st
    subst h1; subst h2; subst h3
    exact Or.inl ⟨v, (T.setVm vm₁).calling g' mk (Value.ref b :: As).toArray, t, U', L, hT, X', hL, e1, e2, hq, st⟩
  · dsimp only [Pt.U, Pt.locs, Pt.cells, Pt.slots] at X' e1 e2 h1 h2 h3 st hcl
    subst h1; subst h2; subst h3
    exact Or.inr ⟨q, (T.setVm vm₁).calling g' mk (Value.ref b :: As).toArray, t, U', L, E, ce, hT, X', hL, e1, e2, hq, hce, hcv, vx_cls hW₁ hcl, st⟩
end
/-! ===== END ===== -/
/-! ===== BEGIN super.m(..) that may throw (follows va_callSU, va_runSU) ===== -/
section
variable {p : Program} {l : Launch} {e : Env} {R : Room} {s : State} {m : MethodId} {args : Array Value} {below : List Frame} {meth : Method} {c : Code} {H : Heap} {locs : List Loc} {cells slots : Nat}
theorem vx_callSU {T : State} {locs : List Loc} {cells slots : Nat} (X : Stand p l e R s m args below meth c T locs cells slots) (hexec : p.tables.exec = Jvm.exec) {own : String} {index : Nat} {y : MethodName} {bytes : ByteArray} {maxL : Nat} {ret : Option FieldType}
    (hown : s.vm.findClass own = some m.cls) (hlink : (Cond.methodLink own index y).before args s = true) (hsame : (Cond.sameMethod y.cls y.cls y.name y.desc).before args s = true) (hsup : (Cond.superclass own y.cls).before args s = true)
    (hinst : (Cond.instanceMethod y).before args s = true) (hcode : (Cond.code y bytes maxL ret).before args s = true) (hno : y.name ≠ "<init>")
    {W : Nat} {Pre : Pt → Array Value → Prop} {Post : Pt → Array Value → Option Value → Pt → Prop} {PostX : Pt → Array Value → Addr → Pt → Prop} (hK : vx_Back l R p e below s args y 3 W Pre Post PostX)
    {b : Addr} {cellB : Cell} {kB : Class} (hcell : T.heap[b]? = some cellB) (hobj : cellB.vm.isStatics = false) (hkB : s.vm.classes[cellB.cls]? = some kB)
    {g : JFrame} (hg : g.method = m) (hsize : g.locals.size = c.maxLocals) {argsL rest : List Value} (hlen : ∀ sig, parseMethodDescriptor y.desc = some sig → argsL.length = sig.parameters.length)
    (hstack : g.stack = argsL.reverse ++ .ref b :: rest) (hW : 2 * g.monitorRoom + (rest.map fun v => v.category).sum ≤ W) (hdg : decode c.code g.pc = .ok (.invokespecial index, 3))
    (hpre : ∀ vm₁, s.WarmedH vm₁ → Pre ⟨T.setVm vm₁, locs, cells, slots⟩ (Value.ref b :: argsL).toArray) :
    (∃ (v : Option Value) (vm₁ : Vm) (B : Pt), s.WarmedH vm₁ ∧ Stand p l e R s m args below meth c B.U B.locs B.cells B.slots ∧ Post ⟨T.setVm vm₁, locs, cells, slots⟩ (Value.ref b :: argsL).toArray v B ∧
      ∀ target, Steps p.tables e below (B.U.setTop { g with pc := g.pc + 3, stack := v.toList ++ rest }) target → Steps p.tables e below (T.setTop g) target) ∨
    (∃ (q : Addr) (vm₁ : Vm) (B : Pt), s.WarmedH vm₁ ∧ Stand p l e R s m args below meth c B.U B.locs B.cells B.slots ∧ PostX ⟨T.setVm vm₁, locs, cells, slots⟩ (Value.ref b :: argsL).toArray q B ∧
      Steps p.tables e below (T.setTop g) ((B.U.setTop { g with stack := rest }).pushFrame (.throwing q))) := by
  obtain ⟨mk, methM, hnamed, hmethM, hstM, habM⟩ := Cond.instanceMethod_spec hinst
  obtain ⟨methM', cM, hmethM', -, -, -, -, -, -, hsigM⟩ := Cond.code_spec hnamed hcode
  cases hmethM.symm.trans hmethM'
  obtain ⟨ps, dk, kp, hps, hdk, hkp, hsuper, -, -, hnid⟩ := Cond.superclass_spec hown hsup
  have hn : s.methodNamed? ⟨y.cls, y.name, y.desc⟩ = some mk := hnamed
  have hpm : ps = mk.cls := Option.some.inj (hps.symm.trans (findClass_of_methodNamed hnamed))
  have hsub : s.vm.isSubclass ps mk.cls = true := by rw [hpm]; simp [Vm.isSubclass, Vm.isSubclassAux]
  obtain ⟨vm₁, X₁, hstep₁⟩ := X.invokespecialUp hexec hown hlink hsame hn hmethM hstM habM hno hdk hnid hps hsuper hsub (a := b) (cell := cellB) hcell
    (fun z h => by rw [h] at hobj; cases hobj) hkB (g := g) hg (argsL := argsL) (rest := rest) (hlen _ hsigM) hstack hdg
  rcases hK m meth c ⟨T.setVm vm₁, locs, cells, slots⟩ { g with stack := rest } (.invokespecial index) mk (Value.ref b :: argsL).toArray X₁ hg hsize hdg hW (X₁.named hnamed) (hpre vm₁ X₁.warmed) with ⟨v, B, X', hpost, hsteps⟩ | ⟨q, B, X', hpost, hsteps⟩
  · exact Or.inl ⟨v, vm₁, B, X₁.warmed, X', hpost, fun target h => hstep₁ _ (by rw [doInvoke_state]; exact hsteps.trans h)⟩
  · exact Or.inr ⟨q, vm₁, B, X₁.warmed, X', hpost, hstep₁ _ (by rw [doInvoke_state]; exact hsteps)⟩
theorem vx_runSU {y : MethodName} {bytes cc : ByteArray} {maxL nL mc ms n index : Nat} {ret : Option FieldType} {ws : List Cond} {rm : Room} {Pc : Array Value → State → Prop} {Qc : Array Value → State → Outcome → State → Prop} {XC : String → State → State → Prop} {free : Addr → Prop} {Ts : List Cond} {own C : String} {cC : ClassId} {b : Addr} {As rest : List Value} {g : JFrame}
    (hat : ClassAt s C cC) (S : CallFix p m c cc nL s args Ts own) (hM : vx_Met l y ws rm Pc Qc XC mc ms free) (cw : va_CS R s args own index y bytes maxL ret ws rm mc ms n) (hp : PreV s H C b Pc As)
    (hg : g.method = m) (hn : As.length = n) (hsize : g.locals.size = nL) (hstack : g.stack = As.reverse ++ .ref b :: rest) (hW : 2 * g.monitorRoom + (rest.map fun v => v.category).sum ≤ 8) (hdg : decode cc g.pc = .ok (.invokespecial index, 3)) (hf : cells + mc ≤ R.cells ∧ slots + ms ≤ R.slots) :
    vx_Run p l e R s m args below meth c H locs cells slots mc ms g rest (Qc (Value.ref b :: As).toArray) XC free := by
  obtain ⟨⟨hrc, hrs, hfr, hlo, hws, hcw⟩, hl1, hl2, hl3, hl4, hini, hcode, hno, hlen⟩ := cw
  have hK : vx_Back l R p e below s args y 3 8 (PreOf R mc ms Pc) (PostOf Qc mc ms free) (vx_Post XC mc ms free) := vx_back (bytes := bytes) (maxL := maxL) (ret := ret) hM hp.1 hrc hrs hfr hlo hws hcw (fun a' U hW => word_at hW (Or.inl (by first | rfl | simp [Cond.onTables, Cond.keeps, Cond.steady])) hini)
  obtain ⟨hx, hb, hml, ho, -⟩ := S
  obtain ⟨-, ⟨cellB, hcB, hoB, hclB⟩, hPc⟩ := hp
  obtain ⟨hfc, kB, hkB, -⟩ := hat
  cases hfc.symm.trans hclB
  intro T hT X
  rcases vx_callSU X hx (bytes := bytes) (maxL := maxL) (ret := ret) ho hl1 hl2 hl3 hl4 hcode hno hK (by rw [hT]; exact hcB) hoB hkB hg (hsize.trans hml.symm) (argsL := As) (rest := rest) (fun sig h => hn.trans (hlen sig h)) hstack hW (by rw [hb]; exact hdg)
    (fun vm₁ hW₁ => ⟨hf.1, hf.2, hPc (T.setVm vm₁) hT hW₁⟩) with ⟨v, vm₁, ⟨U', l2, c2, s2⟩, hW₁, X', ⟨g', mk, t, L, e1, e2, hq, h1, hL, h2, h3⟩, st⟩ | ⟨q, vm₁, ⟨U', l2, c2, s2⟩, hW₁, X', ⟨g', mk, t, L, E, ce, e1, e2, hq, hce, hcv, hcl, h1, hL, h2, h3⟩, st⟩
  · dsimp only [Pt.U, Pt.locs, Pt.cells, Pt.slots] at X' e1 e2 h1 h2 h3 st
    subst h1; subst h2; subst h3
    exact Or.inl ⟨v, (T.setVm vm₁).calling g' mk (Value.ref b :: As).toArray, t, U', L, hT, X', hL, e1, e2, hq, st⟩
  · dsimp only [Pt.U, Pt.locs, Pt.cells, Pt.slots] at X' e1 e2 h1 h2 h3 st hcl
    subst h1; subst h2; subst h3
    exact Or.inr ⟨q, (T.setVm vm₁).calling g' mk (Value.ref b :: As).toArray, t, U', L, E, ce, hT, X', hL, e1, e2, hq, hce, hcv, vx_cls hW₁ hcl, st⟩
end
/-! ===== END ===== -/
/-! ===== BEGIN a private method of a nest mate that may throw (follows va_callVN, va_callSN, va_runVN, va_runSN) ===== -/
section
variable {p : Program} {l : Launch} {e : Env} {R : Room} {s : State} {m : MethodId} {args : Array Value} {below : List Frame} {meth : Method} {c : Code} {H : Heap} {locs : List Loc} {cells slots : Nat}
variable {T : State}
theorem vx_callVN (X : Stand p l e R s m args below meth c T locs cells slots) (hexec : p.tables.exec = Jvm.exec) {own C : String} {index : Nat} {host : String} {y : MethodName} {bytes : ByteArray} {maxL : Nat} {ret : Option FieldType}
    (hown : s.vm.findClass own = some m.cls) (hlink : (Cond.methodLinkNest own index y host).before args s = true) (hinst : (Cond.instanceMethod y).before args s = true) (hsel : (Cond.selects C y y).before args s = true)
    (hcode : (Cond.code y bytes maxL ret).before args s = true) (hy : y.cls ≠ "java/lang/invoke/MethodHandle" ∧ y.cls ≠ "java/lang/invoke/VarHandle")
    {W : Nat} {Pre : Pt → Array Value → Prop} {Post : Pt → Array Value → Option Value → Pt → Prop} {PostX : Pt → Array Value → Addr → Pt → Prop} (hK : vx_Back l R p e below s args y 3 W Pre Post PostX)
    {b : Addr} {cellB : Cell} (hcell : T.heap[b]? = some cellB) (hobj : cellB.vm.isStatics = false) (hcls : s.vm.findClass C = some cellB.cls)
    {g : JFrame} (hg : g.method = m) (hsize : g.locals.size = c.maxLocals) {argsL rest : List Value} (hlen : ∀ sig, parseMethodDescriptor y.desc = some sig → argsL.length = sig.parameters.length)
    (hstack : g.stack = argsL.reverse ++ .ref b :: rest) (hW : 2 * g.monitorRoom + (rest.map fun v => v.category).sum ≤ W) (hdg : decode c.code g.pc = .ok (.invokevirtual index, 3))
    (hpre : ∀ vm₁, s.WarmedH vm₁ → Pre ⟨T.setVm vm₁, locs, cells, slots⟩ (Value.ref b :: argsL).toArray) :
    (∃ (v : Option Value) (vm₁ : Vm) (B : Pt), s.WarmedH vm₁ ∧ Stand p l e R s m args below meth c B.U B.locs B.cells B.slots ∧ Post ⟨T.setVm vm₁, locs, cells, slots⟩ (Value.ref b :: argsL).toArray v B ∧
      ∀ target, Steps p.tables e below (B.U.setTop { g with pc := g.pc + 3, stack := v.toList ++ rest }) target → Steps p.tables e below (T.setTop g) target) ∨
    (∃ (q : Addr) (vm₁ : Vm) (B : Pt), s.WarmedH vm₁ ∧ Stand p l e R s m args below meth c B.U B.locs B.cells B.slots ∧ PostX ⟨T.setVm vm₁, locs, cells, slots⟩ (Value.ref b :: argsL).toArray q B ∧
      Steps p.tables e below (T.setTop g) ((B.U.setTop { g with stack := rest }).pushFrame (.throwing q))) := by
  obtain ⟨mk, methM, hnamed, hmethM, hstM, habM⟩ := Cond.instanceMethod_spec hinst
  obtain ⟨methM', cM, hmethM', -, -, -, -, -, -, hsigM⟩ := Cond.code_spec hnamed hcode
  cases hmethM.symm.trans hmethM'
  obtain ⟨c2, r2, m2, q1, q2, q3, q4, kP, hkP, hkPi⟩ := Cond.selects_spec hsel
  cases hcls.symm.trans q1
  cases (State.methodFound?_of_named hnamed hy).symm.trans q2
  cases hnamed.symm.trans q3
  have hselP : selectMethod e.platform s.vm cellB.cls mk = .method mk := by rw [Launch.admits_selectMethod X.admits]; exact q4
  obtain ⟨vm₁, X₁, hstep₁⟩ := X.invokevirtualNest hexec hown hlink hnamed hmethM hstM hkP hkPi hy (a := b) (cell := cellB) hcell
    (fun z h => by rw [h] at hobj; cases hobj) hselP hmethM habM hkP hkPi (g := g) hg (argsL := argsL) (rest := rest) (hlen _ hsigM) hstack hdg
  rcases hK m meth c ⟨T.setVm vm₁, locs, cells, slots⟩ { g with stack := rest } (.invokevirtual index) mk (Value.ref b :: argsL).toArray X₁ hg hsize hdg hW (X₁.named hnamed) (hpre vm₁ X₁.warmed) with ⟨v, B, X', hpost, hsteps⟩ | ⟨q, B, X', hpost, hsteps⟩
  · exact Or.inl ⟨v, vm₁, B, X₁.warmed, X', hpost, fun target h => hstep₁ _ fun acts => by rw [doInvoke_state]; exact hsteps.trans h⟩
  · exact Or.inr ⟨q, vm₁, B, X₁.warmed, X', hpost, hstep₁ _ fun acts => by rw [doInvoke_state]; exact hsteps⟩
theorem vx_callSN (X : Stand p l e R s m args below meth c T locs cells slots) (hexec : p.tables.exec = Jvm.exec) {own : String} {index : Nat} {host : String} {y : MethodName} {bytes : ByteArray} {maxL : Nat} {ret : Option FieldType}
    (hown : s.vm.findClass own = some m.cls) (hlink : (Cond.methodLinkNest own index y host).before args s = true) (hstat : (Cond.static y).before args s = true) (hinit : (Cond.initialized y.cls).before args s = true)
    (hcode : (Cond.code y bytes maxL ret).before args s = true) (hy : y.cls ≠ "java/lang/invoke/MethodHandle" ∧ y.cls ≠ "java/lang/invoke/VarHandle")
    {W : Nat} {Pre : Pt → Array Value → Prop} {Post : Pt → Array Value → Option Value → Pt → Prop} {PostX : Pt → Array Value → Addr → Pt → Prop} (hK : vx_Back l R p e below s args y 3 W Pre Post PostX)
    {g : JFrame} (hg : g.method = m) (hsize : g.locals.size = c.maxLocals) {argsL rest : List Value} (hlen : ∀ sig, parseMethodDescriptor y.desc = some sig → argsL.length = sig.parameters.length)
    (hstack : g.stack = argsL.reverse ++ rest) (hW : 2 * g.monitorRoom + (rest.map fun v => v.category).sum ≤ W) (hdg : decode c.code g.pc = .ok (.invokestatic index, 3))
    (hpre : ∀ vm₁, s.WarmedH vm₁ → Pre ⟨T.setVm vm₁, locs, cells, slots⟩ argsL.toArray) :
    (∃ (v : Option Value) (vm₁ : Vm) (B : Pt), s.WarmedH vm₁ ∧ Stand p l e R s m args below meth c B.U B.locs B.cells B.slots ∧ Post ⟨T.setVm vm₁, locs, cells, slots⟩ argsL.toArray v B ∧
      ∀ target, Steps p.tables e below (B.U.setTop { g with pc := g.pc + 3, stack := v.toList ++ rest }) target → Steps p.tables e below (T.setTop g) target) ∨
    (∃ (q : Addr) (vm₁ : Vm) (B : Pt), s.WarmedH vm₁ ∧ Stand p l e R s m args below meth c B.U B.locs B.cells B.slots ∧ PostX ⟨T.setVm vm₁, locs, cells, slots⟩ argsL.toArray q B ∧
      Steps p.tables e below (T.setTop g) ((B.U.setTop { g with stack := rest }).pushFrame (.throwing q))) := by
  obtain ⟨mk, hnamed⟩ := Cond.code_named hcode
  obtain ⟨methM, cM, hmethM, -, -, -, -, -, -, hsigM⟩ := Cond.code_spec hnamed hcode
  have hstatic : methM.isStatic = true := Cond.static_spec hnamed hmethM hstat
  obtain ⟨kP, hkP, -⟩ := className_of_methodNamed hnamed
  have hinitP : kP.init = .initialized := Cond.initialized_spec (findClass_of_methodNamed hnamed) hkP hinit
  obtain ⟨vm₁, X₁, hstep₁⟩ := X.invokestaticNest hexec hown hlink hnamed hmethM hstatic hkP hinitP hy (g := g) hg (argsL := argsL) (rest := rest) (hlen _ hsigM) hstack hdg
  rcases hK m meth c ⟨T.setVm vm₁, locs, cells, slots⟩ { g with stack := rest } (.invokestatic index) mk argsL.toArray X₁ hg hsize hdg hW (X₁.named hnamed) (hpre vm₁ X₁.warmed) with ⟨v, B, X', hpost, hsteps⟩ | ⟨q, B, X', hpost, hsteps⟩
  · exact Or.inl ⟨v, vm₁, B, X₁.warmed, X', hpost, fun target h => hstep₁ _ fun acts => by rw [doInvoke_state]; exact hsteps.trans h⟩
  · exact Or.inr ⟨q, vm₁, B, X₁.warmed, X', hpost, hstep₁ _ fun acts => by rw [doInvoke_state]; exact hsteps⟩
theorem vx_runVN {y : MethodName} {bytes cc : ByteArray} {maxL nL mc ms n index : Nat} {ret : Option FieldType} {ws : List Cond} {rm : Room} {Pc : Array Value → State → Prop} {Qc : Array Value → State → Outcome → State → Prop} {XC : String → State → State → Prop} {free : Addr → Prop} {Ts : List Cond} {own C host : String} {b : Addr} {As rest : List Value} {g : JFrame}
    (S : CallFix p m c cc nL s args Ts own) (hM : vx_Met l y ws rm Pc Qc XC mc ms free) (cw : va_CN R s args own index y host bytes maxL ret ws rm mc ms n ∧ (Cond.instanceMethod y).before args s = true ∧ (Cond.selects C y y).before args s = true) (hp : PreV s H C b Pc As)
    (hg : g.method = m) (hn : As.length = n) (hsize : g.locals.size = nL) (hstack : g.stack = As.reverse ++ .ref b :: rest) (hW : 2 * g.monitorRoom + (rest.map fun v => v.category).sum ≤ 8) (hdg : decode cc g.pc = .ok (.invokevirtual index, 3)) (hf : cells + mc ≤ R.cells ∧ slots + ms ≤ R.slots) :
    vx_Run p l e R s m args below meth c H locs cells slots mc ms g rest (Qc (Value.ref b :: As).toArray) XC free := by
  obtain ⟨⟨⟨hrc, hrs, hfr, hlo, hws, hcw⟩, hcode, hini, hy, hlen, hl⟩, hx1, hx2⟩ := cw
  have hK : vx_Back l R p e below s args y 3 8 (PreOf R mc ms Pc) (PostOf Qc mc ms free) (vx_Post XC mc ms free) := vx_back (bytes := bytes) (maxL := maxL) (ret := ret) hM hp.1 hrc hrs hfr hlo hws hcw (fun a' U hW => word_at hW (Or.inl (by first | rfl | simp [Cond.onTables, Cond.keeps, Cond.steady])) hini)
  obtain ⟨hx, hb, hml, ho, -⟩ := S
  obtain ⟨-, ⟨cellB, hcB, hoB, hclB⟩, hPc⟩ := hp
  intro T hT X
  rcases vx_callVN X hx (C := C) (bytes := bytes) (maxL := maxL) (ret := ret) ho hl hx1 hx2 hcode hy hK (by rw [hT]; exact hcB) hoB hclB hg (hsize.trans hml.symm) (argsL := As) (rest := rest) (fun sig h => hn.trans (hlen sig h)) hstack hW (by rw [hb]; exact hdg)
    (fun vm₁ hW₁ => ⟨hf.1, hf.2, hPc (T.setVm vm₁) hT hW₁⟩) with ⟨v, vm₁, ⟨U', l2, c2, s2⟩, hW₁, X', ⟨g', mk, t, L, e1, e2, hq, h1, hL, h2, h3⟩, st⟩ | ⟨q, vm₁, ⟨U', l2, c2, s2⟩, hW₁, X', ⟨g', mk, t, L, E, ce, e1, e2, hq, hce, hcv, hcl, h1, hL, h2, h3⟩, st⟩
  · dsimp only [Pt.U, Pt.locs, Pt.cells, Pt.slots] at X' e1 e2 h1 h2 h3 st
    subst h1; subst h2; subst h3
    exact Or.inl ⟨v, (T.setVm vm₁).calling g' mk (Value.ref b :: As).toArray, t, U', L, hT, X', hL, e1, e2, hq, st⟩
  · dsimp only [Pt.U, Pt.locs, Pt.cells, Pt.slots] at X' e1 e2 h1 h2 h3 st hcl
    subst h1; subst h2; subst h3
    exact Or.inr ⟨q, (T.setVm vm₁).calling g' mk (Value.ref b :: As).toArray, t, U', L, E, ce, hT, X', hL, e1, e2, hq, hce, hcv, vx_cls hW₁ hcl, st⟩
theorem vx_runSN {y : MethodName} {bytes cc : ByteArray} {maxL nL mc ms n index : Nat} {ret : Option FieldType} {ws : List Cond} {rm : Room} {Pc : Array Value → State → Prop} {Qc : Array Value → State → Outcome → State → Prop} {XC : String → State → State → Prop} {free : Addr → Prop} {Ts : List Cond} {own host : String} {As rest : List Value} {g : JFrame}
    (S : CallFix p m c cc nL s args Ts own) (hM : vx_Met l y ws rm Pc Qc XC mc ms free) (cw : va_CN R s args own index y host bytes maxL ret ws rm mc ms n ∧ (Cond.static y).before args s = true ∧ True) (hp : PreS s H Pc As)
    (hg : g.method = m) (hn : As.length = n) (hsize : g.locals.size = nL) (hstack : g.stack = As.reverse ++ rest) (hW : 2 * g.monitorRoom + (rest.map fun v => v.category).sum ≤ 8) (hdg : decode cc g.pc = .ok (.invokestatic index, 3)) (hf : cells + mc ≤ R.cells ∧ slots + ms ≤ R.slots) :
    vx_Run p l e R s m args below meth c H locs cells slots mc ms g rest (Qc As.toArray) XC free := by
  obtain ⟨⟨⟨hrc, hrs, hfr, hlo, hws, hcw⟩, hcode, hini, hy, hlen, hl⟩, hx1, hx2⟩ := cw
  have hK : vx_Back l R p e below s args y 3 8 (PreOf R mc ms Pc) (PostOf Qc mc ms free) (vx_Post XC mc ms free) := vx_back (bytes := bytes) (maxL := maxL) (ret := ret) hM hp.1 hrc hrs hfr hlo hws hcw (fun a' U hW => word_at hW (Or.inl (by first | rfl | simp [Cond.onTables, Cond.keeps, Cond.steady])) hini)
  obtain ⟨hx, hb, hml, ho, -⟩ := S
  have hPc := hp.2
  intro T hT X
  rcases vx_callSN X hx (bytes := bytes) (maxL := maxL) (ret := ret) ho hl hx1 hini hcode hy hK hg (hsize.trans hml.symm) (argsL := As) (rest := rest) (fun sig h => hn.trans (hlen sig h)) hstack hW (by rw [hb]; exact hdg)
    (fun vm₁ hW₁ => ⟨hf.1, hf.2, hPc (T.setVm vm₁) hT hW₁⟩) with ⟨v, vm₁, ⟨U', l2, c2, s2⟩, hW₁, X', ⟨g', mk, t, L, e1, e2, hq, h1, hL, h2, h3⟩, st⟩ | ⟨q, vm₁, ⟨U', l2, c2, s2⟩, hW₁, X', ⟨g', mk, t, L, E, ce, e1, e2, hq, hce, hcv, hcl, h1, hL, h2, h3⟩, st⟩
  · dsimp only [Pt.U, Pt.locs, Pt.cells, Pt.slots] at X' e1 e2 h1 h2 h3 st
    subst h1; subst h2; subst h3
    exact Or.inl ⟨v, (T.setVm vm₁).calling g' mk As.toArray, t, U', L, hT, X', hL, e1, e2, hq, st⟩
  · dsimp only [Pt.U, Pt.locs, Pt.cells, Pt.slots] at X' e1 e2 h1 h2 h3 st hcl
    subst h1; subst h2; subst h3
    exact Or.inr ⟨q, (T.setVm vm₁).calling g' mk As.toArray, t, U', L, E, ce, hT, X', hL, e1, e2, hq, hce, hcv, vx_cls hW₁ hcl, st⟩
end
/-! ===== END ===== -/
/-! ===== BEGIN calls by an interface of methods that may throw (vx_callIF, vx_runF follow va_callIF, va_runF of this kit) ===== -/
section
variable {p : Program} {l : Launch} {e : Env} {R : Room} {s : State} {m : MethodId} {args : Array Value} {below : List Frame} {meth : Method} {c : Code} {H : Heap} {locs : List Loc} {cells slots : Nat} {Q : State → Prop}
variable {mc ms : Nat} {free : Addr → Prop} {A0 A1 : Nat → Prop} {H0 : Heap} {a : Array Value} {pc : Nat} {ls : Array Slot} {st0 rest : List Value}
def vx_Run5 (p : Program) (l : Launch) (e : Env) (R : Room) (s : State) (m : MethodId) (args : Array Value) (below : List Frame) (meth : Method) (c : Code) (H : Heap) (locs : List Loc) (cells slots mc ms : Nat) (g : JFrame) (rest : List Value) (Qa : State → Outcome → State → Prop) (XC : String → State → State → Prop) (free : Addr → Prop) : Prop :=
  ∀ T : State, T.heap = H → Stand p l e R s m args below meth c T locs cells slots →
    (∃ (v : Option Value) (st₀ t T' : State) (L : List Loc), st₀.heap = H ∧ Stand p l e R s m args below meth c T' (locs ++ L) (cells + mc) (slots + ms) ∧ (∀ q ∈ L, free q.base) ∧ T'.heap = t.heap ∧ T'.vm = t.vm ∧ Qa st₀ (.returned v) t ∧
      Goes p e below T g T' { g with pc := g.pc + 5, stack := v.toList ++ rest }) ∨
    (∃ (q : Addr) (st₀ t T' : State) (L : List Loc) (E : String) (ce : Cell), st₀.heap = H ∧ Stand p l e R s m args below meth c T' (locs ++ L) (cells + mc) (slots + ms) ∧ (∀ z ∈ L, free z.base) ∧ T'.heap = t.heap ∧ T'.vm = t.vm ∧ XC E st₀ t ∧ t.heap[q]? = some ce ∧ ce.vm = .none ∧ s.vm.findClass E = some ce.cls ∧
      Steps p.tables e below (T.setTop g) ((T'.setTop { g with stack := rest }).pushFrame (.throwing q)))
theorem vx_callIF {T : State} (X : Stand p l e R s m args below meth c T locs cells slots) (hexec : p.tables.exec = Jvm.exec) {own C : String} {index count : Nat} {x y : MethodName} {bytes : ByteArray} {maxL : Nat} {ret : Option FieldType}
    (hown : s.vm.findClass own = some m.cls) (hlink : (Cond.methodLink own index x).before args s = true) (hdecl : (Cond.declares x).before args s = true) (hface : (Cond.interfaceMethod x.cls x.cls x.name x.desc).before args s = true)
    (hsel : (Cond.selects C x y).before args s = true) (hinst : (Cond.instanceMethod y).before args s = true) (hpub : (Cond.publicMethod y).before args s = true) (hunh : (Cond.unhidden C x.name x.desc).before args s = true)
    (hcast : (Cond.castable C x.cls).before args s = true) (hcode : (Cond.code y bytes maxL ret).before args s = true) (hx : x.cls ≠ "java/lang/invoke/MethodHandle" ∧ x.cls ≠ "java/lang/invoke/VarHandle")
    {W9 : Nat} {Pre : Pt → Array Value → Prop} {Post : Pt → Array Value → Option Value → Pt → Prop} {PostX : Pt → Array Value → Addr → Pt → Prop} (hK : vx_Back l R p e below s args y 5 W9 Pre Post PostX)
    {b : Addr} {cellB : Cell} {kB : Class} (hcell : T.heap[b]? = some cellB) (hobj : cellB.vm.isStatics = false) (hcls : s.vm.findClass C = some cellB.cls) (hkB : s.vm.classes[cellB.cls]? = some kB)
    {g : JFrame} (hg : g.method = m) (hsize : g.locals.size = c.maxLocals) {argsL rest : List Value} (hlen : ∀ sig, parseMethodDescriptor x.desc = some sig → argsL.length = sig.parameters.length)
    (hstack : g.stack = argsL.reverse ++ .ref b :: rest) (hW : 2 * g.monitorRoom + (rest.map fun v => v.category).sum ≤ W9) (hdg : decode c.code g.pc = .ok (.invokeinterface index count, 5))
    (hpre : ∀ vm₁, s.WarmedH vm₁ → Pre ⟨T.setVm vm₁, locs, cells, slots⟩ (Value.ref b :: argsL).toArray) :
    (∃ (v : Option Value) (vm₁ : Vm) (B : Pt), s.WarmedH vm₁ ∧ Stand p l e R s m args below meth c B.U B.locs B.cells B.slots ∧ Post ⟨T.setVm vm₁, locs, cells, slots⟩ (Value.ref b :: argsL).toArray v B ∧
      ∀ target, Steps p.tables e below (B.U.setTop { g with pc := g.pc + 5, stack := v.toList ++ rest }) target → Steps p.tables e below (T.setTop g) target) ∨
    (∃ (q : Addr) (vm₁ : Vm) (B : Pt), s.WarmedH vm₁ ∧ Stand p l e R s m args below meth c B.U B.locs B.cells B.slots ∧ PostX ⟨T.setVm vm₁, locs, cells, slots⟩ (Value.ref b :: argsL).toArray q B ∧
      Steps p.tables e below (T.setTop g) ((B.U.setTop { g with stack := rest }).pushFrame (.throwing q))) := by
  obtain ⟨r0, r, hn, hrm, hstR, hsigR⟩ := Cond.declares_spec hdecl
  obtain ⟨cL, kL, r1, hcL, hkL, hiL, hfoundL, hn1⟩ := Cond.interfaceMethod_spec hface
  cases hn.symm.trans hn1
  have hr0cls : r0.cls = cL := Option.some.inj ((findClass_of_methodNamed hn).symm.trans hcL)
  obtain ⟨hnameR, hdescR⟩ := name_of_methodNamed hn hrm
  obtain ⟨mk, methM, hnamed, hmethM, -, habM⟩ := Cond.instanceMethod_spec hinst
  obtain ⟨c2, r2, m2, q1, q2, q3, q4, -⟩ := Cond.selects_spec hsel
  cases hcls.symm.trans q1
  cases hfoundL.symm.trans q2
  cases hnamed.symm.trans q3
  have hselP : selectMethod e.platform s.vm cellB.cls r0 = .method mk := by rw [Launch.admits_selectMethod X.admits]; exact q4
  have hpubM : hasFlag methM.accessFlags Acc.public_ = true := Cond.publicMethod_spec hnamed hmethM hpub
  have hway : ((cellB.cls :: s.vm.superclasses cellB.cls).any fun k => (declaredIn s.vm r.name r.desc k).any fun (_, z) => z.isPrivate || z.isStatic) = false := by
    rw [hnameR, hdescR]; exact Cond.unhidden_spec hcls hunh
  obtain ⟨c3, t3, w1, w2, w3⟩ := Cond.castable_spec hcast
  cases hcls.symm.trans w1
  cases hcL.symm.trans w2
  obtain ⟨vm₁, X₁, hstep₁⟩ := X.invokeinterface hexec hown hlink hn hrm hstR (by rw [hr0cls]; exact hkL) hiL hx (a := b) (cell := cellB) (kcell := kB) hcell
    (fun z h => by rw [h] at hobj; cases hobj) hkB (by rw [hr0cls]; exact w3) hselP hmethM hway hpubM habM (g := g) hg (argsL := argsL) (rest := rest) (hlen _ hsigR) hstack hdg
  rcases hK m meth c ⟨T.setVm vm₁, locs, cells, slots⟩ { g with stack := rest } (.invokeinterface index count) mk (Value.ref b :: argsL).toArray X₁ hg hsize hdg hW (X₁.named hnamed) (hpre vm₁ X₁.warmed) with ⟨v, B, X', hpost, hsteps⟩ | ⟨q, B, X', hpost, hsteps⟩
  · exact Or.inl ⟨v, vm₁, B, X₁.warmed, X', hpost, fun target h => hstep₁ _ fun acts => by rw [doInvoke_state]; exact hsteps.trans h⟩
  · exact Or.inr ⟨q, vm₁, B, X₁.warmed, X', hpost, hstep₁ _ fun acts => by rw [doInvoke_state]; exact hsteps⟩
theorem vx_runF {x y : MethodName} {bytes cc : ByteArray} {maxL nL mc ms n index count : Nat} {ret : Option FieldType} {ws : List Cond} {rm : Room} {Pc : Array Value → State → Prop} {Qc : Array Value → State → Outcome → State → Prop} {XC : String → State → State → Prop} {free : Addr → Prop} {Ts : List Cond} {own C : String} {cC : ClassId} {b : Addr} {As rest : List Value} {g : JFrame}
    (hat : ClassAt s C cC) (S : CallFix p m c cc nL s args Ts own) (hM : vx_Met l y ws rm Pc Qc XC mc ms free) (cw : va_CI R s args own C index x y bytes maxL ret ws rm mc ms n) (hp : PreV s H C b Pc As)
    (hg : g.method = m) (hn : As.length = n) (hsize : g.locals.size = nL) (hstack : g.stack = As.reverse ++ .ref b :: rest) (hW : 2 * g.monitorRoom + (rest.map fun v => v.category).sum ≤ 8) (hdg : decode cc g.pc = .ok (.invokeinterface index count, 5)) (hf : cells + mc ≤ R.cells ∧ slots + ms ≤ R.slots) :
    vx_Run5 p l e R s m args below meth c H locs cells slots mc ms g rest (Qc (Value.ref b :: As).toArray) XC free := by
  obtain ⟨hrc, hrs, hfr, hlo, hws, hcw⟩ := cw.back
  have hini := cw.init
  have hK : vx_Back l R p e below s args y 5 8 (PreOf R mc ms Pc) (PostOf Qc mc ms free) (vx_Post XC mc ms free) := vx_back (bytes := bytes) (maxL := maxL) (ret := ret) hM hp.1 hrc hrs hfr hlo hws hcw (fun a' U hW => word_at hW (Or.inl (by first | rfl | simp [Cond.onTables, Cond.keeps, Cond.steady])) hini)
  obtain ⟨hx, hb, hml, ho, -⟩ := S
  obtain ⟨-, ⟨cellB, hcB, hoB, hclB⟩, hPc⟩ := hp
  obtain ⟨hfc, kB, hkB, -⟩ := hat
  cases hfc.symm.trans hclB
  intro T hT X
  rcases vx_callIF X hx (C := C) (bytes := bytes) (maxL := maxL) (ret := ret) ho cw.link cw.decl cw.face cw.sel cw.inst cw.pub cw.unh cw.cast cw.code cw.notMH hK (by rw [hT]; exact hcB) hoB hclB hkB hg (hsize.trans hml.symm) (argsL := As) (rest := rest) (fun sig h => hn.trans (cw.len sig h)) hstack hW (by rw [hb]; exact hdg)
    (fun vm₁ hW₁ => ⟨hf.1, hf.2, hPc (T.setVm vm₁) hT hW₁⟩) with ⟨v, vm₁, ⟨U', l2, c2, s2⟩, hW₁, X', ⟨g', mk, t, L, e1, e2, hq, h1, hL, h2, h3⟩, st⟩ | ⟨q, vm₁, ⟨U', l2, c2, s2⟩, hW₁, X', ⟨g', mk, t, L, E, ce, e1, e2, hq, hce, hcv, hcl, h1, hL, h2, h3⟩, st⟩
  · dsimp only [Pt.U, Pt.locs, Pt.cells, Pt.slots] at X' e1 e2 h1 h2 h3 st
    subst h1; subst h2; subst h3
    exact Or.inl ⟨v, (T.setVm vm₁).calling g' mk (Value.ref b :: As).toArray, t, U', L, hT, X', hL, e1, e2, hq, st⟩
  · dsimp only [Pt.U, Pt.locs, Pt.cells, Pt.slots] at X' e1 e2 h1 h2 h3 st hcl
    subst h1; subst h2; subst h3
    exact Or.inr ⟨q, (T.setVm vm₁).calling g' mk (Value.ref b :: As).toArray, t, U', L, E, ce, hT, X', hL, e1, e2, hq, hce, hcv, vx_cls hW₁ hcl, st⟩
theorem vx_callFv {S SX : Type} {post : S → Prop} {px : SX → Prop} {B : S → State → Prop} {BX : String → SX → State → Prop} {AX : Nat → Prop} (hr : vx_Run5 p l e R s m args below meth c H locs cells slots mc ms (F0 m pc ls st0) rest (va_Qv post B A1 a) (vx_X px BX AX) free) (hS : va_S A0 H0 H locs) (hA : ∀ q, q < H.size → A1 q → A0 q) (hf : ∀ q, free q → A0 q) (hAX : ∀ q, q < H.size → AX q → A0 q)
    (kx : ∀ (E : String) (ce : Cell) (q9 : Addr) (u : SX) (t : State) (H1 : Heap) (locs1 : List Loc), t.heap = H1 → s.vm.Alike t.vm → px u → BX E u t → H.size ≤ H1.size → (∀ q : Nat, q < H.size → ¬ AX q → H1[q]? = H[q]?) → va_S A0 H0 H1 locs1 → H1[q9]? = some ce → ce.vm = .none → s.vm.findClass E = some ce.cls → vx_W p l e R s m args below meth c H1 locs1 (cells + mc) (slots + ms) Q (F0 m pc ls rest) q9)
    (kk : ∀ (u : S) (t : State) (H1 : Heap) (locs1 : List Loc), t.heap = H1 → s.vm.Alike t.vm → post u → B u t → H.size ≤ H1.size → (∀ q : Nat, q < H.size → ¬ A1 q → H1[q]? = H[q]?) → va_S A0 H0 H1 locs1 → W p l e R s m args below meth c H1 locs1 (cells + mc) (slots + ms) Q (F0 m (pc + 5) ls (rest))) : W p l e R s m args below meth c H locs cells slots Q (F0 m pc ls st0) := by
  intro T hT X
  rcases hr T hT X with ⟨v, st₀, t, T', L, h0, X', hL, e1, e2, ⟨⟨u, hv, hp, hb⟩, hF⟩, st⟩ | ⟨q, st₀, t, T', L, E, ce, h0, X', hL, e1, e2, ⟨u, hp, hb, hF⟩, hce, hcv, hcl, st⟩
  · cases hv
    obtain ⟨k1, k2, k3⟩ := vx_keep h0 e1 hS hA hf hL hF
    obtain ⟨t2, a1, b1⟩ := kk u t T'.heap (locs ++ L) e1.symm (by rw [← e2]; exact X'.warmed.alike) hp hb k1 k2 k3 T' rfl X'
    exact ⟨t2, st t2 a1, b1⟩
  · obtain ⟨k1, k2, k3⟩ := vx_keep h0 e1 hS hAX hf hL hF
    obtain ⟨t2, a1, b1⟩ := kx E ce q u t T'.heap (locs ++ L) e1.symm (by rw [← e2]; exact X'.warmed.alike) hp hb k1 k2 k3 (by rw [e1]; exact hce) hcv hcl T' rfl X'
    exact ⟨t2, st.trans a1, b1⟩
theorem vx_callFi {S SX : Type} {post : Int32 → S → Prop} {px : SX → Prop} {B : S → State → Prop} {BX : String → SX → State → Prop} {AX : Nat → Prop} (hr : vx_Run5 p l e R s m args below meth c H locs cells slots mc ms (F0 m pc ls st0) rest (va_Qi post B A1 a) (vx_X px BX AX) free) (hS : va_S A0 H0 H locs) (hA : ∀ q, q < H.size → A1 q → A0 q) (hf : ∀ q, free q → A0 q) (hAX : ∀ q, q < H.size → AX q → A0 q)
    (kx : ∀ (E : String) (ce : Cell) (q9 : Addr) (u : SX) (t : State) (H1 : Heap) (locs1 : List Loc), t.heap = H1 → s.vm.Alike t.vm → px u → BX E u t → H.size ≤ H1.size → (∀ q : Nat, q < H.size → ¬ AX q → H1[q]? = H[q]?) → va_S A0 H0 H1 locs1 → H1[q9]? = some ce → ce.vm = .none → s.vm.findClass E = some ce.cls → vx_W p l e R s m args below meth c H1 locs1 (cells + mc) (slots + ms) Q (F0 m pc ls rest) q9)
    (kk : ∀ (r : Int32) (u : S) (t : State) (H1 : Heap) (locs1 : List Loc), t.heap = H1 → s.vm.Alike t.vm → post r u → B u t → H.size ≤ H1.size → (∀ q : Nat, q < H.size → ¬ A1 q → H1[q]? = H[q]?) → va_S A0 H0 H1 locs1 → W p l e R s m args below meth c H1 locs1 (cells + mc) (slots + ms) Q (F0 m (pc + 5) ls (.int r :: rest))) : W p l e R s m args below meth c H locs cells slots Q (F0 m pc ls st0) := by
  intro T hT X
  rcases hr T hT X with ⟨v, st₀, t, T', L, h0, X', hL, e1, e2, ⟨⟨r, u, hv, hp, hb⟩, hF⟩, st⟩ | ⟨q, st₀, t, T', L, E, ce, h0, X', hL, e1, e2, ⟨u, hp, hb, hF⟩, hce, hcv, hcl, st⟩
  · cases hv
    obtain ⟨k1, k2, k3⟩ := vx_keep h0 e1 hS hA hf hL hF
    obtain ⟨t2, a1, b1⟩ := kk r u t T'.heap (locs ++ L) e1.symm (by rw [← e2]; exact X'.warmed.alike) hp hb k1 k2 k3 T' rfl X'
    exact ⟨t2, st t2 a1, b1⟩
  · obtain ⟨k1, k2, k3⟩ := vx_keep h0 e1 hS hAX hf hL hF
    obtain ⟨t2, a1, b1⟩ := kx E ce q u t T'.heap (locs ++ L) e1.symm (by rw [← e2]; exact X'.warmed.alike) hp hb k1 k2 k3 (by rw [e1]; exact hce) hcv hcl T' rfl X'
    exact ⟨t2, st.trans a1, b1⟩
theorem vx_callFl {S SX : Type} {post : Int64 → S → Prop} {px : SX → Prop} {B : S → State → Prop} {BX : String → SX → State → Prop} {AX : Nat → Prop} (hr : vx_Run5 p l e R s m args below meth c H locs cells slots mc ms (F0 m pc ls st0) rest (va_Ql post B A1 a) (vx_X px BX AX) free) (hS : va_S A0 H0 H locs) (hA : ∀ q, q < H.size → A1 q → A0 q) (hf : ∀ q, free q → A0 q) (hAX : ∀ q, q < H.size → AX q → A0 q)
    (kx : ∀ (E : String) (ce : Cell) (q9 : Addr) (u : SX) (t : State) (H1 : Heap) (locs1 : List Loc), t.heap = H1 → s.vm.Alike t.vm → px u → BX E u t → H.size ≤ H1.size → (∀ q : Nat, q < H.size → ¬ AX q → H1[q]? = H[q]?) → va_S A0 H0 H1 locs1 → H1[q9]? = some ce → ce.vm = .none → s.vm.findClass E = some ce.cls → vx_W p l e R s m args below meth c H1 locs1 (cells + mc) (slots + ms) Q (F0 m pc ls rest) q9)
    (kk : ∀ (r : Int64) (u : S) (t : State) (H1 : Heap) (locs1 : List Loc), t.heap = H1 → s.vm.Alike t.vm → post r u → B u t → H.size ≤ H1.size → (∀ q : Nat, q < H.size → ¬ A1 q → H1[q]? = H[q]?) → va_S A0 H0 H1 locs1 → W p l e R s m args below meth c H1 locs1 (cells + mc) (slots + ms) Q (F0 m (pc + 5) ls (.long r :: rest))) : W p l e R s m args below meth c H locs cells slots Q (F0 m pc ls st0) := by
  intro T hT X
  rcases hr T hT X with ⟨v, st₀, t, T', L, h0, X', hL, e1, e2, ⟨⟨r, u, hv, hp, hb⟩, hF⟩, st⟩ | ⟨q, st₀, t, T', L, E, ce, h0, X', hL, e1, e2, ⟨u, hp, hb, hF⟩, hce, hcv, hcl, st⟩
  · cases hv
    obtain ⟨k1, k2, k3⟩ := vx_keep h0 e1 hS hA hf hL hF
    obtain ⟨t2, a1, b1⟩ := kk r u t T'.heap (locs ++ L) e1.symm (by rw [← e2]; exact X'.warmed.alike) hp hb k1 k2 k3 T' rfl X'
    exact ⟨t2, st t2 a1, b1⟩
  · obtain ⟨k1, k2, k3⟩ := vx_keep h0 e1 hS hAX hf hL hF
    obtain ⟨t2, a1, b1⟩ := kx E ce q u t T'.heap (locs ++ L) e1.symm (by rw [← e2]; exact X'.warmed.alike) hp hb k1 k2 k3 (by rw [e1]; exact hce) hcv hcl T' rfl X'
    exact ⟨t2, st.trans a1, b1⟩
theorem vx_callFf {S SX : Type} {post : UInt32 → S → Prop} {px : SX → Prop} {B : S → State → Prop} {BX : String → SX → State → Prop} {AX : Nat → Prop} (hr : vx_Run5 p l e R s m args below meth c H locs cells slots mc ms (F0 m pc ls st0) rest (va_Qf post B A1 a) (vx_X px BX AX) free) (hS : va_S A0 H0 H locs) (hA : ∀ q, q < H.size → A1 q → A0 q) (hf : ∀ q, free q → A0 q) (hAX : ∀ q, q < H.size → AX q → A0 q)
    (kx : ∀ (E : String) (ce : Cell) (q9 : Addr) (u : SX) (t : State) (H1 : Heap) (locs1 : List Loc), t.heap = H1 → s.vm.Alike t.vm → px u → BX E u t → H.size ≤ H1.size → (∀ q : Nat, q < H.size → ¬ AX q → H1[q]? = H[q]?) → va_S A0 H0 H1 locs1 → H1[q9]? = some ce → ce.vm = .none → s.vm.findClass E = some ce.cls → vx_W p l e R s m args below meth c H1 locs1 (cells + mc) (slots + ms) Q (F0 m pc ls rest) q9)
    (kk : ∀ (r : UInt32) (u : S) (t : State) (H1 : Heap) (locs1 : List Loc), t.heap = H1 → s.vm.Alike t.vm → post r u → B u t → H.size ≤ H1.size → (∀ q : Nat, q < H.size → ¬ A1 q → H1[q]? = H[q]?) → va_S A0 H0 H1 locs1 → W p l e R s m args below meth c H1 locs1 (cells + mc) (slots + ms) Q (F0 m (pc + 5) ls (.float r :: rest))) : W p l e R s m args below meth c H locs cells slots Q (F0 m pc ls st0) := by
  intro T hT X
  rcases hr T hT X with ⟨v, st₀, t, T', L, h0, X', hL, e1, e2, ⟨⟨r, u, hv, hp, hb⟩, hF⟩, st⟩ | ⟨q, st₀, t, T', L, E, ce, h0, X', hL, e1, e2, ⟨u, hp, hb, hF⟩, hce, hcv, hcl, st⟩
  · cases hv
    obtain ⟨k1, k2, k3⟩ := vx_keep h0 e1 hS hA hf hL hF
    obtain ⟨t2, a1, b1⟩ := kk r u t T'.heap (locs ++ L) e1.symm (by rw [← e2]; exact X'.warmed.alike) hp hb k1 k2 k3 T' rfl X'
    exact ⟨t2, st t2 a1, b1⟩
  · obtain ⟨k1, k2, k3⟩ := vx_keep h0 e1 hS hAX hf hL hF
    obtain ⟨t2, a1, b1⟩ := kx E ce q u t T'.heap (locs ++ L) e1.symm (by rw [← e2]; exact X'.warmed.alike) hp hb k1 k2 k3 (by rw [e1]; exact hce) hcv hcl T' rfl X'
    exact ⟨t2, st.trans a1, b1⟩
theorem vx_callFd {S SX : Type} {post : UInt64 → S → Prop} {px : SX → Prop} {B : S → State → Prop} {BX : String → SX → State → Prop} {AX : Nat → Prop} (hr : vx_Run5 p l e R s m args below meth c H locs cells slots mc ms (F0 m pc ls st0) rest (va_Qd post B A1 a) (vx_X px BX AX) free) (hS : va_S A0 H0 H locs) (hA : ∀ q, q < H.size → A1 q → A0 q) (hf : ∀ q, free q → A0 q) (hAX : ∀ q, q < H.size → AX q → A0 q)
    (kx : ∀ (E : String) (ce : Cell) (q9 : Addr) (u : SX) (t : State) (H1 : Heap) (locs1 : List Loc), t.heap = H1 → s.vm.Alike t.vm → px u → BX E u t → H.size ≤ H1.size → (∀ q : Nat, q < H.size → ¬ AX q → H1[q]? = H[q]?) → va_S A0 H0 H1 locs1 → H1[q9]? = some ce → ce.vm = .none → s.vm.findClass E = some ce.cls → vx_W p l e R s m args below meth c H1 locs1 (cells + mc) (slots + ms) Q (F0 m pc ls rest) q9)
    (kk : ∀ (r : UInt64) (u : S) (t : State) (H1 : Heap) (locs1 : List Loc), t.heap = H1 → s.vm.Alike t.vm → post r u → B u t → H.size ≤ H1.size → (∀ q : Nat, q < H.size → ¬ A1 q → H1[q]? = H[q]?) → va_S A0 H0 H1 locs1 → W p l e R s m args below meth c H1 locs1 (cells + mc) (slots + ms) Q (F0 m (pc + 5) ls (.double r :: rest))) : W p l e R s m args below meth c H locs cells slots Q (F0 m pc ls st0) := by
  intro T hT X
  rcases hr T hT X with ⟨v, st₀, t, T', L, h0, X', hL, e1, e2, ⟨⟨r, u, hv, hp, hb⟩, hF⟩, st⟩ | ⟨q, st₀, t, T', L, E, ce, h0, X', hL, e1, e2, ⟨u, hp, hb, hF⟩, hce, hcv, hcl, st⟩
  · cases hv
    obtain ⟨k1, k2, k3⟩ := vx_keep h0 e1 hS hA hf hL hF
    obtain ⟨t2, a1, b1⟩ := kk r u t T'.heap (locs ++ L) e1.symm (by rw [← e2]; exact X'.warmed.alike) hp hb k1 k2 k3 T' rfl X'
    exact ⟨t2, st t2 a1, b1⟩
  · obtain ⟨k1, k2, k3⟩ := vx_keep h0 e1 hS hAX hf hL hF
    obtain ⟨t2, a1, b1⟩ := kx E ce q u t T'.heap (locs ++ L) e1.symm (by rw [← e2]; exact X'.warmed.alike) hp hb k1 k2 k3 (by rw [e1]; exact hce) hcv hcl T' rfl X'
    exact ⟨t2, st.trans a1, b1⟩
end
/-! ===== END ===== -/
/-! ===== BEGIN by an interface, a method with a table of its own that may throw (follows va_callIFW, va_runFW) ===== -/
section
variable {p : Program} {l : Launch} {e : Env} {R : Room} {s : State} {m : MethodId} {args : Array Value} {below : List Frame} {meth : Method} {c : Code} {H : Heap} {locs : List Loc} {cells slots : Nat}
theorem vx_callIFW {T : State} (X : Stand p l e R s m args below meth c T locs cells slots) (hexec : p.tables.exec = Jvm.exec) {own C : String} {index count : Nat} {x y : MethodName} {bytes : ByteArray} {maxL : Nat} {ret : Option FieldType} {hh : List (Nat × Nat × Nat × Nat)}
    (hown : s.vm.findClass own = some m.cls) (hlink : (Cond.methodLink own index x).before args s = true) (hdecl : (Cond.declares x).before args s = true) (hface : (Cond.interfaceMethod x.cls x.cls x.name x.desc).before args s = true)
    (hsel : (Cond.selects C x y).before args s = true) (hinst : (Cond.instanceMethod y).before args s = true) (hpub : (Cond.publicMethod y).before args s = true) (hunh : (Cond.unhidden C x.name x.desc).before args s = true)
    (hcast : (Cond.castable C x.cls).before args s = true) (hcode : (Cond.codeWith y bytes maxL ret hh).before args s = true) (hx : x.cls ≠ "java/lang/invoke/MethodHandle" ∧ x.cls ≠ "java/lang/invoke/VarHandle")
    {W : Nat} {Pre : Pt → Array Value → Prop} {Post : Pt → Array Value → Option Value → Pt → Prop} {PostX : Pt → Array Value → Addr → Pt → Prop} (hK : vx_Back l R p e below s args y 5 W Pre Post PostX)
    {b : Addr} {cellB : Cell} {kB : Class} (hcell : T.heap[b]? = some cellB) (hobj : cellB.vm.isStatics = false) (hcls : s.vm.findClass C = some cellB.cls) (hkB : s.vm.classes[cellB.cls]? = some kB)
    {g : JFrame} (hg : g.method = m) (hsize : g.locals.size = c.maxLocals) {argsL rest : List Value} (hlen : ∀ sig, parseMethodDescriptor x.desc = some sig → argsL.length = sig.parameters.length)
    (hstack : g.stack = argsL.reverse ++ .ref b :: rest) (hW : 2 * g.monitorRoom + (rest.map fun v => v.category).sum ≤ W) (hdg : decode c.code g.pc = .ok (.invokeinterface index count, 5))
    (hpre : ∀ vm₁, s.WarmedH vm₁ → Pre ⟨T.setVm vm₁, locs, cells, slots⟩ (Value.ref b :: argsL).toArray) :
    (∃ (v : Option Value) (vm₁ : Vm) (B : Pt), s.WarmedH vm₁ ∧ Stand p l e R s m args below meth c B.U B.locs B.cells B.slots ∧ Post ⟨T.setVm vm₁, locs, cells, slots⟩ (Value.ref b :: argsL).toArray v B ∧
      ∀ target, Steps p.tables e below (B.U.setTop { g with pc := g.pc + 5, stack := v.toList ++ rest }) target → Steps p.tables e below (T.setTop g) target) ∨
    (∃ (q : Addr) (vm₁ : Vm) (B : Pt), s.WarmedH vm₁ ∧ Stand p l e R s m args below meth c B.U B.locs B.cells B.slots ∧ PostX ⟨T.setVm vm₁, locs, cells, slots⟩ (Value.ref b :: argsL).toArray q B ∧
      Steps p.tables e below (T.setTop g) ((B.U.setTop { g with stack := rest }).pushFrame (.throwing q))) := by
  obtain ⟨r0, r, hn, hrm, hstR, hsigR⟩ := Cond.declares_spec hdecl
  obtain ⟨cL, kL, r1, hcL, hkL, hiL, hfoundL, hn1⟩ := Cond.interfaceMethod_spec hface
  cases hn.symm.trans hn1
  have hr0cls : r0.cls = cL := Option.some.inj ((findClass_of_methodNamed hn).symm.trans hcL)
  obtain ⟨hnameR, hdescR⟩ := name_of_methodNamed hn hrm
  obtain ⟨mk, methM, hnamed, hmethM, -, habM⟩ := Cond.instanceMethod_spec hinst
  obtain ⟨c2, r2, m2, q1, q2, q3, q4, -⟩ := Cond.selects_spec hsel
  cases hcls.symm.trans q1
  cases hfoundL.symm.trans q2
  cases hnamed.symm.trans q3
  have hselP : selectMethod e.platform s.vm cellB.cls r0 = .method mk := by rw [Launch.admits_selectMethod X.admits]; exact q4
  have hpubM : hasFlag methM.accessFlags Acc.public_ = true := Cond.publicMethod_spec hnamed hmethM hpub
  have hway : ((cellB.cls :: s.vm.superclasses cellB.cls).any fun k => (declaredIn s.vm r.name r.desc k).any fun (_, z) => z.isPrivate || z.isStatic) = false := by
    rw [hnameR, hdescR]; exact Cond.unhidden_spec hcls hunh
  obtain ⟨c3, t3, w1, w2, w3⟩ := Cond.castable_spec hcast
  cases hcls.symm.trans w1
  cases hcL.symm.trans w2
  obtain ⟨vm₁, X₁, hstep₁⟩ := X.invokeinterface hexec hown hlink hn hrm hstR (by rw [hr0cls]; exact hkL) hiL hx (a := b) (cell := cellB) (kcell := kB) hcell
    (fun z h => by rw [h] at hobj; cases hobj) hkB (by rw [hr0cls]; exact w3) hselP hmethM hway hpubM habM (g := g) hg (argsL := argsL) (rest := rest) (hlen _ hsigR) hstack hdg
  rcases hK m meth c ⟨T.setVm vm₁, locs, cells, slots⟩ { g with stack := rest } (.invokeinterface index count) mk (Value.ref b :: argsL).toArray X₁ hg hsize hdg hW (X₁.named hnamed) (hpre vm₁ X₁.warmed) with ⟨v, B, X', hpost, hsteps⟩ | ⟨q, B, X', hpost, hsteps⟩
  · exact Or.inl ⟨v, vm₁, B, X₁.warmed, X', hpost, fun target h => hstep₁ _ fun acts => by rw [doInvoke_state]; exact hsteps.trans h⟩
  · exact Or.inr ⟨q, vm₁, B, X₁.warmed, X', hpost, hstep₁ _ fun acts => by rw [doInvoke_state]; exact hsteps⟩
theorem vx_runFW {x y : MethodName} {bytes cc : ByteArray} {maxL nL mc ms n index count : Nat} {ret : Option FieldType} {hh : List (Nat × Nat × Nat × Nat)} {ws : List Cond} {rm : Room} {Pc : Array Value → State → Prop} {Qc : Array Value → State → Outcome → State → Prop} {XC : String → State → State → Prop} {free : Addr → Prop} {Ts : List Cond} {own C : String} {cC : ClassId} {b : Addr} {As rest : List Value} {g : JFrame}
    (hat : ClassAt s C cC) (S : CallFix p m c cc nL s args Ts own) (hM : vx_Met l y ws rm Pc Qc XC mc ms free) (cw : va_CIW R s args own C index x y bytes maxL ret hh ws rm mc ms n) (hp : PreV s H C b Pc As)
    (hg : g.method = m) (hn : As.length = n) (hsize : g.locals.size = nL) (hstack : g.stack = As.reverse ++ .ref b :: rest) (hW : 2 * g.monitorRoom + (rest.map fun v => v.category).sum ≤ 8) (hdg : decode cc g.pc = .ok (.invokeinterface index count, 5)) (hf : cells + mc ≤ R.cells ∧ slots + ms ≤ R.slots) :
    vx_Run5 p l e R s m args below meth c H locs cells slots mc ms g rest (Qc (Value.ref b :: As).toArray) XC free := by
  obtain ⟨hrc, hrs, hfr, hlo, hws, hcw⟩ := cw.back
  have hini := cw.init
  have hK : vx_Back l R p e below s args y 5 8 (PreOf R mc ms Pc) (PostOf Qc mc ms free) (vx_Post XC mc ms free) := vx_backW (hh := hh) (bytes := bytes) (maxL := maxL) (ret := ret) hM hp.1 hrc hrs hfr hlo hws hcw (fun a' U hW => word_at hW (Or.inl (by first | rfl | simp [Cond.onTables, Cond.keeps, Cond.steady])) hini)
  obtain ⟨hx, hb, hml, ho, -⟩ := S
  obtain ⟨-, ⟨cellB, hcB, hoB, hclB⟩, hPc⟩ := hp
  obtain ⟨hfc, kB, hkB, -⟩ := hat
  cases hfc.symm.trans hclB
  intro T hT X
  rcases vx_callIFW X hx (C := C) (hh := hh) (bytes := bytes) (maxL := maxL) (ret := ret) ho cw.link cw.decl cw.face cw.sel cw.inst cw.pub cw.unh cw.cast cw.code cw.notMH hK (by rw [hT]; exact hcB) hoB hclB hkB hg (hsize.trans hml.symm) (argsL := As) (rest := rest) (fun sig h => hn.trans (cw.len sig h)) hstack hW (by rw [hb]; exact hdg)
    (fun vm₁ hW₁ => ⟨hf.1, hf.2, hPc (T.setVm vm₁) hT hW₁⟩) with ⟨v, vm₁, ⟨U', l2, c2, s2⟩, hW₁, X', ⟨g', mk, t, L, e1, e2, hq, h1, hL, h2, h3⟩, st⟩ | ⟨q, vm₁, ⟨U', l2, c2, s2⟩, hW₁, X', ⟨g', mk, t, L, E, ce, e1, e2, hq, hce, hcv, hcl, h1, hL, h2, h3⟩, st⟩
  · dsimp only [Pt.U, Pt.locs, Pt.cells, Pt.slots] at X' e1 e2 h1 h2 h3 st
    subst h1; subst h2; subst h3
    exact Or.inl ⟨v, (T.setVm vm₁).calling g' mk (Value.ref b :: As).toArray, t, U', L, hT, X', hL, e1, e2, hq, st⟩
  · dsimp only [Pt.U, Pt.locs, Pt.cells, Pt.slots] at X' e1 e2 h1 h2 h3 st hcl
    subst h1; subst h2; subst h3
    exact Or.inr ⟨q, (T.setVm vm₁).calling g' mk (Value.ref b :: As).toArray, t, U', L, E, ce, hT, X', hL, e1, e2, hq, hce, hcv, vx_cls hW₁ hcl, st⟩
end
/-! ===== END ===== -/
/-! ===== BEGIN .. of methods that hand back an object of the pool ===== -/
section
variable {p : Program} {l : Launch} {e : Env} {R : Room} {s : State} {m : MethodId} {args : Array Value} {below : List Frame} {meth : Method} {c : Code} {H : Heap} {locs : List Loc} {cells slots : Nat} {Q : State → Prop}
variable {mc ms : Nat} {free : Addr → Prop} {A0 A1 : Nat → Prop} {H0 : Heap} {a : Array Value} {pc : Nat} {ls : Array Slot} {st0 rest : List Value}
theorem vx_callq {S SX : Type} {post : Option Nat → S → Prop} {px : SX → Prop} {B : S → State → Prop} {BX : String → SX → State → Prop} {AX : Nat → Prop} (hr : vx_Run p l e R s m args below meth c H locs cells slots mc ms (F0 m pc ls st0) rest (va_Qq post B A1 a) (vx_X px BX AX) free) (hS : va_S A0 H0 H locs) (hA : ∀ q, q < H.size → A1 q → A0 q) (hf : ∀ q, free q → A0 q) (hAX : ∀ q, q < H.size → AX q → A0 q)
    (kx : ∀ (E : String) (ce : Cell) (q9 : Addr) (u : SX) (t : State) (H1 : Heap) (locs1 : List Loc), t.heap = H1 → s.vm.Alike t.vm → px u → BX E u t → H.size ≤ H1.size → (∀ q : Nat, q < H.size → ¬ AX q → H1[q]? = H[q]?) → va_S A0 H0 H1 locs1 → H1[q9]? = some ce → ce.vm = .none → s.vm.findClass E = some ce.cls → vx_W p l e R s m args below meth c H1 locs1 (cells + mc) (slots + ms) Q (F0 m pc ls rest) q9)
    (kk : ∀ (r : Option Nat) (u : S) (t : State) (H1 : Heap) (locs1 : List Loc), t.heap = H1 → s.vm.Alike t.vm → post r u → B u t → H.size ≤ H1.size → (∀ q : Nat, q < H.size → ¬ A1 q → H1[q]? = H[q]?) → va_S A0 H0 H1 locs1 → W p l e R s m args below meth c H1 locs1 (cells + mc) (slots + ms) Q (F0 m (pc + 3) ls (va_rf r :: rest))) : W p l e R s m args below meth c H locs cells slots Q (F0 m pc ls st0) := by
  intro T hT X
  rcases hr T hT X with ⟨v, st₀, t, T', L, h0, X', hL, e1, e2, ⟨⟨r, u, hv, hp, hb⟩, hF⟩, st⟩ | ⟨q, st₀, t, T', L, E, ce, h0, X', hL, e1, e2, ⟨u, hp, hb, hF⟩, hce, hcv, hcl, st⟩
  · cases hv
    obtain ⟨k1, k2, k3⟩ := vx_keep h0 e1 hS hA hf hL hF
    obtain ⟨t2, a1, b1⟩ := kk r u t T'.heap (locs ++ L) e1.symm (by rw [← e2]; exact X'.warmed.alike) hp hb k1 k2 k3 T' rfl X'
    exact ⟨t2, st t2 a1, b1⟩
  · obtain ⟨k1, k2, k3⟩ := vx_keep h0 e1 hS hAX hf hL hF
    obtain ⟨t2, a1, b1⟩ := kx E ce q u t T'.heap (locs ++ L) e1.symm (by rw [← e2]; exact X'.warmed.alike) hp hb k1 k2 k3 (by rw [e1]; exact hce) hcv hcl T' rfl X'
    exact ⟨t2, st.trans a1, b1⟩
end
/-! ===== END ===== -/
/-! ===== BEGIN .. a constant ===== -/
section
variable {p : Program} {l : Launch} {e : Env} {R : Room} {s : State} {m : MethodId} {args : Array Value} {below : List Frame} {meth : Method} {c : Code} {H : Heap} {locs : List Loc} {cells slots : Nat} {Q : State → Prop}
variable {mc ms : Nat} {free : Addr → Prop} {A0 A1 : Nat → Prop} {H0 : Heap} {a : Array Value} {pc : Nat} {ls : Array Slot} {st0 rest : List Value}
theorem vx_calle {ad : Nat → Nat} {S SX : Type} {post : Option Nat → S → Prop} {px : SX → Prop} {B : S → State → Prop} {BX : String → SX → State → Prop} {AX : Nat → Prop} (hr : vx_Run p l e R s m args below meth c H locs cells slots mc ms (F0 m pc ls st0) rest (va_Qe ad post B A1 a) (vx_X px BX AX) free) (hS : va_S A0 H0 H locs) (hA : ∀ q, q < H.size → A1 q → A0 q) (hf : ∀ q, free q → A0 q) (hAX : ∀ q, q < H.size → AX q → A0 q)
    (kx : ∀ (E : String) (ce : Cell) (q9 : Addr) (u : SX) (t : State) (H1 : Heap) (locs1 : List Loc), t.heap = H1 → s.vm.Alike t.vm → px u → BX E u t → H.size ≤ H1.size → (∀ q : Nat, q < H.size → ¬ AX q → H1[q]? = H[q]?) → va_S A0 H0 H1 locs1 → H1[q9]? = some ce → ce.vm = .none → s.vm.findClass E = some ce.cls → vx_W p l e R s m args below meth c H1 locs1 (cells + mc) (slots + ms) Q (F0 m pc ls rest) q9)
    (kk : ∀ (r : Option Nat) (u : S) (t : State) (H1 : Heap) (locs1 : List Loc), t.heap = H1 → s.vm.Alike t.vm → post r u → B u t → H.size ≤ H1.size → (∀ q : Nat, q < H.size → ¬ A1 q → H1[q]? = H[q]?) → va_S A0 H0 H1 locs1 → W p l e R s m args below meth c H1 locs1 (cells + mc) (slots + ms) Q (F0 m (pc + 3) ls (va_re ad r :: rest))) : W p l e R s m args below meth c H locs cells slots Q (F0 m pc ls st0) := by
  intro T hT X
  rcases hr T hT X with ⟨v, st₀, t, T', L, h0, X', hL, e1, e2, ⟨⟨r, u, hv, hp, hb⟩, hF⟩, st⟩ | ⟨q, st₀, t, T', L, E, ce, h0, X', hL, e1, e2, ⟨u, hp, hb, hF⟩, hce, hcv, hcl, st⟩
  · cases hv
    obtain ⟨k1, k2, k3⟩ := vx_keep h0 e1 hS hA hf hL hF
    obtain ⟨t2, a1, b1⟩ := kk r u t T'.heap (locs ++ L) e1.symm (by rw [← e2]; exact X'.warmed.alike) hp hb k1 k2 k3 T' rfl X'
    exact ⟨t2, st t2 a1, b1⟩
  · obtain ⟨k1, k2, k3⟩ := vx_keep h0 e1 hS hAX hf hL hF
    obtain ⟨t2, a1, b1⟩ := kx E ce q u t T'.heap (locs ++ L) e1.symm (by rw [← e2]; exact X'.warmed.alike) hp hb k1 k2 k3 (by rw [e1]; exact hce) hcv hcl T' rfl X'
    exact ⟨t2, st.trans a1, b1⟩
end
/-! ===== END ===== -/
/-! ===== BEGIN .. by an interface, an object ===== -/
section
variable {p : Program} {l : Launch} {e : Env} {R : Room} {s : State} {m : MethodId} {args : Array Value} {below : List Frame} {meth : Method} {c : Code} {H : Heap} {locs : List Loc} {cells slots : Nat} {Q : State → Prop}
variable {mc ms : Nat} {free : Addr → Prop} {A0 A1 : Nat → Prop} {H0 : Heap} {a : Array Value} {pc : Nat} {ls : Array Slot} {st0 rest : List Value}
theorem vx_callFq {S SX : Type} {post : Option Nat → S → Prop} {px : SX → Prop} {B : S → State → Prop} {BX : String → SX → State → Prop} {AX : Nat → Prop} (hr : vx_Run5 p l e R s m args below meth c H locs cells slots mc ms (F0 m pc ls st0) rest (va_Qq post B A1 a) (vx_X px BX AX) free) (hS : va_S A0 H0 H locs) (hA : ∀ q, q < H.size → A1 q → A0 q) (hf : ∀ q, free q → A0 q) (hAX : ∀ q, q < H.size → AX q → A0 q)
    (kx : ∀ (E : String) (ce : Cell) (q9 : Addr) (u : SX) (t : State) (H1 : Heap) (locs1 : List Loc), t.heap = H1 → s.vm.Alike t.vm → px u → BX E u t → H.size ≤ H1.size → (∀ q : Nat, q < H.size → ¬ AX q → H1[q]? = H[q]?) → va_S A0 H0 H1 locs1 → H1[q9]? = some ce → ce.vm = .none → s.vm.findClass E = some ce.cls → vx_W p l e R s m args below meth c H1 locs1 (cells + mc) (slots + ms) Q (F0 m pc ls rest) q9)
    (kk : ∀ (r : Option Nat) (u : S) (t : State) (H1 : Heap) (locs1 : List Loc), t.heap = H1 → s.vm.Alike t.vm → post r u → B u t → H.size ≤ H1.size → (∀ q : Nat, q < H.size → ¬ A1 q → H1[q]? = H[q]?) → va_S A0 H0 H1 locs1 → W p l e R s m args below meth c H1 locs1 (cells + mc) (slots + ms) Q (F0 m (pc + 5) ls (va_rf r :: rest))) : W p l e R s m args below meth c H locs cells slots Q (F0 m pc ls st0) := by
  intro T hT X
  rcases hr T hT X with ⟨v, st₀, t, T', L, h0, X', hL, e1, e2, ⟨⟨r, u, hv, hp, hb⟩, hF⟩, st⟩ | ⟨q, st₀, t, T', L, E, ce, h0, X', hL, e1, e2, ⟨u, hp, hb, hF⟩, hce, hcv, hcl, st⟩
  · cases hv
    obtain ⟨k1, k2, k3⟩ := vx_keep h0 e1 hS hA hf hL hF
    obtain ⟨t2, a1, b1⟩ := kk r u t T'.heap (locs ++ L) e1.symm (by rw [← e2]; exact X'.warmed.alike) hp hb k1 k2 k3 T' rfl X'
    exact ⟨t2, st t2 a1, b1⟩
  · obtain ⟨k1, k2, k3⟩ := vx_keep h0 e1 hS hAX hf hL hF
    obtain ⟨t2, a1, b1⟩ := kx E ce q u t T'.heap (locs ++ L) e1.symm (by rw [← e2]; exact X'.warmed.alike) hp hb k1 k2 k3 (by rw [e1]; exact hce) hcv hcl T' rfl X'
    exact ⟨t2, st.trans a1, b1⟩
end
/-! ===== END ===== -/
/-! ===== BEGIN .. by an interface, a constant ===== -/
section
variable {p : Program} {l : Launch} {e : Env} {R : Room} {s : State} {m : MethodId} {args : Array Value} {below : List Frame} {meth : Method} {c : Code} {H : Heap} {locs : List Loc} {cells slots : Nat} {Q : State → Prop}
variable {mc ms : Nat} {free : Addr → Prop} {A0 A1 : Nat → Prop} {H0 : Heap} {a : Array Value} {pc : Nat} {ls : Array Slot} {st0 rest : List Value}
theorem vx_callFe {ad : Nat → Nat} {S SX : Type} {post : Option Nat → S → Prop} {px : SX → Prop} {B : S → State → Prop} {BX : String → SX → State → Prop} {AX : Nat → Prop} (hr : vx_Run5 p l e R s m args below meth c H locs cells slots mc ms (F0 m pc ls st0) rest (va_Qe ad post B A1 a) (vx_X px BX AX) free) (hS : va_S A0 H0 H locs) (hA : ∀ q, q < H.size → A1 q → A0 q) (hf : ∀ q, free q → A0 q) (hAX : ∀ q, q < H.size → AX q → A0 q)
    (kx : ∀ (E : String) (ce : Cell) (q9 : Addr) (u : SX) (t : State) (H1 : Heap) (locs1 : List Loc), t.heap = H1 → s.vm.Alike t.vm → px u → BX E u t → H.size ≤ H1.size → (∀ q : Nat, q < H.size → ¬ AX q → H1[q]? = H[q]?) → va_S A0 H0 H1 locs1 → H1[q9]? = some ce → ce.vm = .none → s.vm.findClass E = some ce.cls → vx_W p l e R s m args below meth c H1 locs1 (cells + mc) (slots + ms) Q (F0 m pc ls rest) q9)
    (kk : ∀ (r : Option Nat) (u : S) (t : State) (H1 : Heap) (locs1 : List Loc), t.heap = H1 → s.vm.Alike t.vm → post r u → B u t → H.size ≤ H1.size → (∀ q : Nat, q < H.size → ¬ A1 q → H1[q]? = H[q]?) → va_S A0 H0 H1 locs1 → W p l e R s m args below meth c H1 locs1 (cells + mc) (slots + ms) Q (F0 m (pc + 5) ls (va_re ad r :: rest))) : W p l e R s m args below meth c H locs cells slots Q (F0 m pc ls st0) := by
  intro T hT X
  rcases hr T hT X with ⟨v, st₀, t, T', L, h0, X', hL, e1, e2, ⟨⟨r, u, hv, hp, hb⟩, hF⟩, st⟩ | ⟨q, st₀, t, T', L, E, ce, h0, X', hL, e1, e2, ⟨u, hp, hb, hF⟩, hce, hcv, hcl, st⟩
  · cases hv
    obtain ⟨k1, k2, k3⟩ := vx_keep h0 e1 hS hA hf hL hF
    obtain ⟨t2, a1, b1⟩ := kk r u t T'.heap (locs ++ L) e1.symm (by rw [← e2]; exact X'.warmed.alike) hp hb k1 k2 k3 T' rfl X'
    exact ⟨t2, st t2 a1, b1⟩
  · obtain ⟨k1, k2, k3⟩ := vx_keep h0 e1 hS hAX hf hL hF
    obtain ⟨t2, a1, b1⟩ := kx E ce q u t T'.heap (locs ++ L) e1.symm (by rw [← e2]; exact X'.warmed.alike) hp hb k1 k2 k3 (by rw [e1]; exact hce) hcv hcl T' rfl X'
    exact ⟨t2, st.trans a1, b1⟩
end
/-! ===== END ===== -/
/-! ===== BEGIN what the machine throws by itself: null at a field, at athrow ===== -/
section VXM2
variable {p : Program} {l : Launch} {e : Env} {R : Room} {s : State} {m : MethodId} {args : Array Value} {below : List Frame} {meth : Method} {c : Code} {H : Heap} {locs : List Loc} {cells slots : Nat}
variable {Q : State → Prop} {cc : ByteArray} {pc : Nat} {ls : Array Slot} {rest : List Value}
theorem vx_getfN {D cl tys} {own ref C : String} {T : u_T} {N ci index : Nat} {Ts : List Cond} (hexec : p.tables.exec = Jvm.exec) (hb : c.code = cc) (hts : ∀ w ∈ Ts, w.before args s = true) (hin : ∀ w ∈ u_ws C T N, w ∈ Ts) (hown : s.vm.findClass own = some m.cls) (hK : va_K D cl tys s) (hc : cl[ci]? = some (C, T, N)) (k : Nat) (hk : k < N) (hlink : (Cond.fieldLink own index ref (T k).2.1 (T k).2.2.1).before args s = true) (hsame : ∀ x, s.fieldFound? (T k).1 (T k).2.1 (T k).2.2.1 = some x → s.fieldFound? ref (T k).2.1 (T k).2.2.1 = some x) (hdg : decode cc pc = .ok (.getfield index, 3)) (kk : vx_NoteN p l e R s m args below meth c H locs cells slots Q (F0 m pc ls rest)) : W p l e R s m args below meth c H locs cells slots Q (F0 m pc ls (.null :: rest)) := by
  obtain ⟨hS, hfc, kC, hkC, -⟩ := hK.1 ci _ hc
  obtain ⟨cf, kf, fi, f, hi, -⟩ := hS k hk
  intro U hU X
  obtain ⟨vm', X1, st1⟩ := X.getfieldNull hexec hown hlink (hsame _ hi) (u_facts hfc hkC (u_lays hts hin hk) hi).1 (g := F0 m pc ls (.null :: rest)) rfl (rest := rest) rfl (by rw [hb]; exact hdg)
  obtain ⟨t, st, q⟩ := kk (U.setVm vm') hU X1
  exact ⟨t, st1 t st, q⟩
theorem vx_getfNN {D cl tys} {own ref C host : String} {T : u_T} {N ci index : Nat} {Ts : List Cond} (hexec : p.tables.exec = Jvm.exec) (hb : c.code = cc) (hts : ∀ w ∈ Ts, w.before args s = true) (hin : ∀ w ∈ u_ws C T N, w ∈ Ts) (hown : s.vm.findClass own = some m.cls) (hK : va_K D cl tys s) (hc : cl[ci]? = some (C, T, N)) (k : Nat) (hk : k < N) (hlink : (Cond.fieldLinkNest own index ref (T k).2.1 (T k).2.2.1 host).before args s = true) (hsame : ∀ x, s.fieldFound? (T k).1 (T k).2.1 (T k).2.2.1 = some x → s.fieldFound? ref (T k).2.1 (T k).2.2.1 = some x) (hdg : decode cc pc = .ok (.getfield index, 3)) (kk : vx_NoteN p l e R s m args below meth c H locs cells slots Q (F0 m pc ls rest)) : W p l e R s m args below meth c H locs cells slots Q (F0 m pc ls (.null :: rest)) := by
  obtain ⟨hS, hfc, kC, hkC, -⟩ := hK.1 ci _ hc
  obtain ⟨cf, kf, fi, f, hi, -⟩ := hS k hk
  intro U hU X
  obtain ⟨vm', X1, st1⟩ := X.getfieldNullNest hexec hown hlink (hsame _ hi) (u_facts hfc hkC (u_lays hts hin hk) hi).1 (g := F0 m pc ls (.null :: rest)) rfl (rest := rest) rfl (by rw [hb]; exact hdg)
  obtain ⟨t, st, q⟩ := kk (U.setVm vm') hU X1
  exact ⟨t, st1 t st, q⟩
theorem vx_putfN {D cl tys} {own ref C : String} {T : u_T} {N ci index : Nat} {Ts : List Cond} (hexec : p.tables.exec = Jvm.exec) (hb : c.code = cc) (hts : ∀ w ∈ Ts, w.before args s = true) (hin : ∀ w ∈ u_ws C T N, w ∈ Ts) (hown : s.vm.findClass own = some m.cls) (hK : va_K D cl tys s) (hc : cl[ci]? = some (C, T, N)) (k : Nat) (hk : k < N) (hlink : (Cond.fieldLink own index ref (T k).2.1 (T k).2.2.1).before args s = true) (hsame : ∀ x, s.fieldFound? (T k).1 (T k).2.1 (T k).2.2.1 = some x → s.fieldFound? ref (T k).2.1 (T k).2.2.1 = some x) (hfin : (T k).2.2.2 = false) {v : Value} (hdg : decode cc pc = .ok (.putfield index, 3)) (kk : vx_NoteN p l e R s m args below meth c H locs cells slots Q (F0 m pc ls rest)) : W p l e R s m args below meth c H locs cells slots Q (F0 m pc ls (v :: .null :: rest)) := by
  obtain ⟨hS, hfc, kC, hkC, -⟩ := hK.1 ci _ hc
  obtain ⟨cf, kf, fi, f, hi, -⟩ := hS k hk
  have hlay := hts _ (hin _ (u_in_lay hk))
  unfold u_lay at hlay
  rw [if_neg (by rw [hfin]; decide)] at hlay
  obtain ⟨c9, k9, cf9, kf9, fi9, f9, -, -, hi9, hst9, hnf9, -⟩ := Cond.lays_spec hlay
  cases hi.symm.trans hi9
  intro U hU X
  obtain ⟨vm', X1, st1⟩ := X.putfieldNull hexec hown hlink (hsame _ hi) hst9 hnf9 (g := F0 m pc ls (v :: .null :: rest)) rfl (v := v) (rest := rest) rfl (by rw [hb]; exact hdg)
  obtain ⟨t, st, q⟩ := kk (U.setVm vm') hU X1
  exact ⟨t, st1 t st, q⟩
theorem vx_putfNN {D cl tys} {own ref C host : String} {T : u_T} {N ci index : Nat} {Ts : List Cond} (hexec : p.tables.exec = Jvm.exec) (hb : c.code = cc) (hts : ∀ w ∈ Ts, w.before args s = true) (hin : ∀ w ∈ u_ws C T N, w ∈ Ts) (hown : s.vm.findClass own = some m.cls) (hK : va_K D cl tys s) (hc : cl[ci]? = some (C, T, N)) (k : Nat) (hk : k < N) (hlink : (Cond.fieldLinkNest own index ref (T k).2.1 (T k).2.2.1 host).before args s = true) (hsame : ∀ x, s.fieldFound? (T k).1 (T k).2.1 (T k).2.2.1 = some x → s.fieldFound? ref (T k).2.1 (T k).2.2.1 = some x) (hfin : (T k).2.2.2 = false) {v : Value} (hdg : decode cc pc = .ok (.putfield index, 3)) (kk : vx_NoteN p l e R s m args below meth c H locs cells slots Q (F0 m pc ls rest)) : W p l e R s m args below meth c H locs cells slots Q (F0 m pc ls (v :: .null :: rest)) := by
  obtain ⟨hS, hfc, kC, hkC, -⟩ := hK.1 ci _ hc
  obtain ⟨cf, kf, fi, f, hi, -⟩ := hS k hk
  have hlay := hts _ (hin _ (u_in_lay hk))
  unfold u_lay at hlay
  rw [if_neg (by rw [hfin]; decide)] at hlay
  obtain ⟨c9, k9, cf9, kf9, fi9, f9, -, -, hi9, hst9, hnf9, -⟩ := Cond.lays_spec hlay
  cases hi.symm.trans hi9
  intro U hU X
  obtain ⟨vm', X1, st1⟩ := X.putfieldNullNest hexec hown hlink (hsame _ hi) hst9 hnf9 (g := F0 m pc ls (v :: .null :: rest)) rfl (v := v) (rest := rest) rfl (by rw [hb]; exact hdg)
  obtain ⟨t, st, q⟩ := kk (U.setVm vm') hU X1
  exact ⟨t, st1 t st, q⟩
theorem vx_athrowN (hexec : p.tables.exec = Jvm.exec) (hb : c.code = cc) (hdg : decode cc pc = .ok (.athrow, 1)) (k : vx_NoteN p l e R s m args below meth c H locs cells slots Q (F0 m pc ls rest)) : W p l e R s m args below meth c H locs cells slots Q (F0 m pc ls (.null :: rest)) := by
  intro T hT X
  obtain ⟨t, st, q⟩ := k T hT X
  exact ⟨t, X.athrowNull hexec (g := F0 m pc ls (.null :: rest)) rfl (rest := rest) rfl (by rw [hb]; exact hdg) t st, q⟩
end VXM2
/-! ===== END ===== -/
end
section
/-! The names that a program has printed for this claim (classes, fields, types, methods), out of claim/NAMES.whole.lean.txt; then the same as tables by number. -/
def RX0 : String := "BannerParade$Bytes"
def TX0 : u_T := fun k => match k with
  | 0 => ("BannerParade$Bytes", "length", "I", false)
  | _ => ("BannerParade$Bytes", "values", "[I", true)
def tyX0 : Nat → FieldType := fun k => match k with
  | 0 => .int
  | _ => .array .int
theorem nmX0 : ∀ a, a < 2 → ∀ b, b < 2 → a ≠ b → (TX0 a).2.1 ≠ (TX0 b).2.1 := by decide +kernel
theorem tyX0_ok : ∀ k, k < 2 → parseFieldDescriptor (TX0 k).2.2.1 = some (tyX0 k) := by decide +kernel
abbrev cX0_init : ByteArray := prog_2_method_1_code
def yX0_init : MethodName := ⟨RX0, "<init>", "()V"⟩
abbrev cX0_addByte : ByteArray := prog_2_method_2_code
def yX0_addByte : MethodName := ⟨RX0, "addByte", "(I)V"⟩
abbrev cX0_addNumber : ByteArray := prog_2_method_3_code
def yX0_addNumber : MethodName := ⟨RX0, "addNumber", "(I)V"⟩
def RX1 : String := "BannerParade$Ground"
def TX1 : u_T := fun k => match k with
  | 0 => ("BannerParade$Ground", "size", "I", false)
  | 1 => ("BannerParade$Ground", "letter", "[I", true)
  | 2 => ("BannerParade$Ground", "place", "[I", true)
  | _ => ("BannerParade$Ground", "time", "[I", true)
def tyX1 : Nat → FieldType := fun k => match k with
  | 0 => .int
  | 1 => .array .int
  | 2 => .array .int
  | _ => .array .int
theorem nmX1 : ∀ a, a < 4 → ∀ b, b < 4 → a ≠ b → (TX1 a).2.1 ≠ (TX1 b).2.1 := by decide +kernel
theorem tyX1_ok : ∀ k, k < 4 → parseFieldDescriptor (TX1 k).2.2.1 = some (tyX1 k) := by decide +kernel
abbrev cX1_init : ByteArray := prog_3_method_1_code
def yX1_init : MethodName := ⟨RX1, "<init>", "()V"⟩
abbrev cX1_copyFrom : ByteArray := prog_3_method_2_code
def yX1_copyFrom : MethodName := ⟨RX1, "copyFrom", "(LBannerParade$Ground;)V"⟩
abbrev cX1_lay : ByteArray := prog_3_method_3_code
def yX1_lay : MethodName := ⟨RX1, "lay", "(III)V"⟩
abbrev cX1_removeAt : ByteArray := prog_3_method_4_code
def yX1_removeAt : MethodName := ⟨RX1, "removeAt", "(I)V"⟩
abbrev cX1_between : ByteArray := prog_3_method_5_code
def yX1_between : MethodName := ⟨RX1, "between", "(II)I"⟩
abbrev cX1_bestBetween : ByteArray := prog_3_method_6_code
def yX1_bestBetween : MethodName := ⟨RX1, "bestBetween", "(II)I"⟩
abbrev cX1_withLetter : ByteArray := prog_3_method_7_code
def yX1_withLetter : MethodName := ⟨RX1, "withLetter", "(I)I"⟩
def RX2 : String := "BannerParade$Memory"
def TX2 : u_T := fun k => match k with
  | 0 => ("BannerParade$Memory", "oldest", "I", false)
  | 1 => ("BannerParade$Memory", "kept", "I", false)
  | 2 => ("BannerParade$Memory", "ring", "[LBannerParade$State;", true)
  | 3 => ("BannerParade$Memory", "slots", "[LBannerParade$State;", true)
  | _ => ("BannerParade$Memory", "slotFilled", "[Z", true)
def tyX2 : Nat → FieldType := fun k => match k with
  | 0 => .int
  | 1 => .int
  | 2 => .array (.object "BannerParade$State")
  | 3 => .array (.object "BannerParade$State")
  | _ => .array .boolean
theorem nmX2 : ∀ a, a < 5 → ∀ b, b < 5 → a ≠ b → (TX2 a).2.1 ≠ (TX2 b).2.1 := by decide +kernel
theorem tyX2_ok : ∀ k, k < 5 → parseFieldDescriptor (TX2 k).2.2.1 = some (tyX2 k) := by decide +kernel
abbrev cX2_init : ByteArray := prog_4_method_1_code
def yX2_init : MethodName := ⟨RX2, "<init>", "()V"⟩
abbrev cX2_forgetChanges : ByteArray := prog_4_method_2_code
def yX2_forgetChanges : MethodName := ⟨RX2, "forgetChanges", "()V"⟩
abbrev cX2_forgetSlots : ByteArray := prog_4_method_3_code
def yX2_forgetSlots : MethodName := ⟨RX2, "forgetSlots", "()V"⟩
abbrev cX2_remember : ByteArray := prog_4_method_4_code
def yX2_remember : MethodName := ⟨RX2, "remember", "(LBannerParade$State;)V"⟩
abbrev cX2_takeBack : ByteArray := prog_4_method_5_code
def yX2_takeBack : MethodName := ⟨RX2, "takeBack", "(LBannerParade$State;)V"⟩
abbrev cX2_fillSlot : ByteArray := prog_4_method_6_code
def yX2_fillSlot : MethodName := ⟨RX2, "fillSlot", "(ILBannerParade$State;)V"⟩
abbrev cX2_readSlot : ByteArray := prog_4_method_7_code
def yX2_readSlot : MethodName := ⟨RX2, "readSlot", "(ILBannerParade$State;)V"⟩
abbrev cX2_copyState : ByteArray := prog_4_method_8_code
def yX2_copyState : MethodName := ⟨RX2, "copyState", "(LBannerParade$State;LBannerParade$State;)V"⟩
def RX3 : String := "BannerParade$Parser"
def TX3 : u_T := fun k => match k with
  | 0 => ("BannerParade$Parser", "tokens", "LBannerParade$Tokens;", true)
  | 1 => ("BannerParade$Parser", "state", "LBannerParade$State;", true)
  | 2 => ("BannerParade$Parser", "route", "LBannerParade$Route;", true)
  | 3 => ("BannerParade$Parser", "error", "I", false)
  | _ => ("BannerParade$Parser", "errorAt", "I", false)
def tyX3 : Nat → FieldType := fun k => match k with
  | 0 => .object "BannerParade$Tokens"
  | 1 => .object "BannerParade$State"
  | 2 => .object "BannerParade$Route"
  | 3 => .int
  | _ => .int
theorem nmX3 : ∀ a, a < 5 → ∀ b, b < 5 → a ≠ b → (TX3 a).2.1 ≠ (TX3 b).2.1 := by decide +kernel
theorem tyX3_ok : ∀ k, k < 5 → parseFieldDescriptor (TX3 k).2.2.1 = some (tyX3 k) := by decide +kernel
abbrev cX3_init : ByteArray := prog_5_method_1_code
def yX3_init : MethodName := ⟨RX3, "<init>", "()V"⟩
abbrev cX3_parseText : ByteArray := prog_5_method_2_code
def yX3_parseText : MethodName := ⟨RX3, "parseText", "(I)Z"⟩
abbrev cX3_refuse : ByteArray := prog_5_method_3_code
def yX3_refuse : MethodName := ⟨RX3, "refuse", "(I)Z"⟩
abbrev cX3_parseHead : ByteArray := prog_5_method_4_code
def yX3_parseHead : MethodName := ⟨RX3, "parseHead", "()Z"⟩
abbrev cX3_parseLine : ByteArray := prog_5_method_5_code
def yX3_parseLine : MethodName := ⟨RX3, "parseLine", "()Z"⟩
abbrev cX3_parseBearer : ByteArray := prog_5_method_6_code
def yX3_parseBearer : MethodName := ⟨RX3, "parseBearer", "()Z"⟩
abbrev cX3_parseStand : ByteArray := prog_5_method_7_code
def yX3_parseStand : MethodName := ⟨RX3, "parseStand", "()Z"⟩
abbrev cX3_parsePlan : ByteArray := prog_5_method_8_code
def yX3_parsePlan : MethodName := ⟨RX3, "parsePlan", "()Z"⟩
abbrev cX3_parseNumber : ByteArray := prog_5_method_9_code
def yX3_parseNumber : MethodName := ⟨RX3, "parseNumber", "(II)Z"⟩
def RX4 : String := "BannerParade$Plans"
def TX4 : u_T := fun k => match k with
  | 0 => ("BannerParade$Plans", "size", "I", false)
  | 1 => ("BannerParade$Plans", "time", "[I", true)
  | 2 => ("BannerParade$Plans", "ahead", "[I", true)
  | _ => ("BannerParade$Plans", "outcome", "[I", true)
def tyX4 : Nat → FieldType := fun k => match k with
  | 0 => .int
  | 1 => .array .int
  | 2 => .array .int
  | _ => .array .int
theorem nmX4 : ∀ a, a < 4 → ∀ b, b < 4 → a ≠ b → (TX4 a).2.1 ≠ (TX4 b).2.1 := by decide +kernel
theorem tyX4_ok : ∀ k, k < 4 → parseFieldDescriptor (TX4 k).2.2.1 = some (tyX4 k) := by decide +kernel
abbrev cX4_init : ByteArray := prog_6_method_1_code
def yX4_init : MethodName := ⟨RX4, "<init>", "()V"⟩
abbrev cX4_copyFrom : ByteArray := prog_6_method_2_code
def yX4_copyFrom : MethodName := ⟨RX4, "copyFrom", "(LBannerParade$Plans;)V"⟩
abbrev cX4_add : ByteArray := prog_6_method_3_code
def yX4_add : MethodName := ⟨RX4, "add", "(II)V"⟩
abbrev cX4_withOutcome : ByteArray := prog_6_method_4_code
def yX4_withOutcome : MethodName := ⟨RX4, "withOutcome", "(I)I"⟩
abbrev cX4_soonest : ByteArray := prog_6_method_5_code
def yX4_soonest : MethodName := ⟨RX4, "soonest", "()I"⟩
def RX5 : String := "BannerParade$Reading"
def TX5 : u_T := fun k => match k with
  | 0 => ("BannerParade$Reading", "length", "I", false)
  | 1 => ("BannerParade$Reading", "letters", "I", false)
  | 2 => ("BannerParade$Reading", "values", "[I", true)
  | _ => ("BannerParade$Reading", "carrier", "[I", true)
def tyX5 : Nat → FieldType := fun k => match k with
  | 0 => .int
  | 1 => .int
  | 2 => .array .int
  | _ => .array .int
theorem nmX5 : ∀ a, a < 4 → ∀ b, b < 4 → a ≠ b → (TX5 a).2.1 ≠ (TX5 b).2.1 := by decide +kernel
theorem tyX5_ok : ∀ k, k < 4 → parseFieldDescriptor (TX5 k).2.2.1 = some (tyX5 k) := by decide +kernel
abbrev cX5_init : ByteArray := prog_7_method_1_code
def yX5_init : MethodName := ⟨RX5, "<init>", "()V"⟩
abbrev cX5_read : ByteArray := prog_7_method_2_code
def yX5_read : MethodName := ⟨RX5, "read", "(LBannerParade$State;LBannerParade$Route;I)V"⟩
abbrev cX5_addLetter : ByteArray := prog_7_method_3_code
def yX5_addLetter : MethodName := ⟨RX5, "addLetter", "(LBannerParade$Row;II)V"⟩
abbrev cX5_byteAt : ByteArray := prog_7_method_4_code
def yX5_byteAt : MethodName := ⟨RX5, "byteAt", "(I)I"⟩
abbrev cX5_bearerOfLetter : ByteArray := prog_7_method_5_code
def yX5_bearerOfLetter : MethodName := ⟨RX5, "bearerOfLetter", "(I)I"⟩
abbrev cX5_alike : ByteArray := prog_7_method_6_code
def yX5_alike : MethodName := ⟨RX5, "alike", "(LBannerParade$Route;I)I"⟩
abbrev cX5_alikeAtStart : ByteArray := prog_7_method_7_code
def yX5_alikeAtStart : MethodName := ⟨RX5, "alikeAtStart", "(LBannerParade$Route;I)I"⟩
abbrev cX5_isWord : ByteArray := prog_7_method_8_code
def yX5_isWord : MethodName := ⟨RX5, "isWord", "(LBannerParade$Route;I)Z"⟩
abbrev cX5_shareOfWord : ByteArray := prog_7_method_9_code
def yX5_shareOfWord : MethodName := ⟨RX5, "shareOfWord", "(LBannerParade$Route;I)F"⟩
def RX6 : String := "BannerParade$Route"
def TX6 : u_T := fun k => match k with
  | 0 => ("BannerParade$Route", "size", "I", false)
  | 1 => ("BannerParade$Route", "right", "[I", true)
  | 2 => ("BannerParade$Route", "place", "[I", true)
  | 3 => ("BannerParade$Route", "wordLength", "[I", true)
  | _ => ("BannerParade$Route", "wordBytes", "[I", true)
def tyX6 : Nat → FieldType := fun k => match k with
  | 0 => .int
  | 1 => .array .int
  | 2 => .array .int
  | 3 => .array .int
  | _ => .array .int
theorem nmX6 : ∀ a, a < 5 → ∀ b, b < 5 → a ≠ b → (TX6 a).2.1 ≠ (TX6 b).2.1 := by decide +kernel
theorem tyX6_ok : ∀ k, k < 5 → parseFieldDescriptor (TX6 k).2.2.1 = some (tyX6 k) := by decide +kernel
abbrev cX6_init : ByteArray := prog_8_method_1_code
def yX6_init : MethodName := ⟨RX6, "<init>", "()V"⟩
abbrev cX6_copyFrom : ByteArray := prog_8_method_2_code
def yX6_copyFrom : MethodName := ⟨RX6, "copyFrom", "(LBannerParade$Route;)V"⟩
abbrev cX6_add : ByteArray := prog_8_method_3_code
def yX6_add : MethodName := ⟨RX6, "add", "(II)V"⟩
abbrev cX6_lengthenLastWord : ByteArray := prog_8_method_4_code
def yX6_lengthenLastWord : MethodName := ⟨RX6, "lengthenLastWord", "(I)V"⟩
abbrev cX6_byteOfWord : ByteArray := prog_8_method_5_code
def yX6_byteOfWord : MethodName := ⟨RX6, "byteOfWord", "(II)I"⟩
abbrev cX6_lettersInWord : ByteArray := prog_8_method_6_code
def yX6_lettersInWord : MethodName := ⟨RX6, "lettersInWord", "(II)I"⟩
def RX7 : String := "BannerParade$Row"
def TX7 : u_T := fun k => match k with
  | 0 => ("BannerParade$Row", "size", "I", false)
  | 1 => ("BannerParade$Row", "own", "[I", true)
  | 2 => ("BannerParade$Row", "step", "[I", true)
  | 3 => ("BannerParade$Row", "lag", "[I", true)
  | 4 => ("BannerParade$Row", "strength", "[I", true)
  | 5 => ("BannerParade$Row", "banner", "[I", true)
  | 6 => ("BannerParade$Row", "place", "[I", true)
  | 7 => ("BannerParade$Row", "placeBefore", "[I", true)
  | _ => ("BannerParade$Row", "moved", "[I", true)
def tyX7 : Nat → FieldType := fun k => match k with
  | 0 => .int
  | 1 => .array .int
  | 2 => .array .int
  | 3 => .array .int
  | 4 => .array .int
  | 5 => .array .int
  | 6 => .array .int
  | 7 => .array .int
  | _ => .array .int
theorem nmX7 : ∀ a, a < 9 → ∀ b, b < 9 → a ≠ b → (TX7 a).2.1 ≠ (TX7 b).2.1 := by decide +kernel
theorem tyX7_ok : ∀ k, k < 9 → parseFieldDescriptor (TX7 k).2.2.1 = some (tyX7 k) := by decide +kernel
abbrev cX7_init : ByteArray := prog_9_method_1_code
def yX7_init : MethodName := ⟨RX7, "<init>", "()V"⟩
abbrev cX7_copyFrom : ByteArray := prog_9_method_2_code
def yX7_copyFrom : MethodName := ⟨RX7, "copyFrom", "(LBannerParade$Row;)V"⟩
abbrev cX7_join : ByteArray := prog_9_method_3_code
def yX7_join : MethodName := ⟨RX7, "join", "(IIII)V"⟩
abbrev cX7_strideOf : ByteArray := prog_9_method_4_code
def yX7_strideOf : MethodName := ⟨RX7, "strideOf", "(I)I"⟩
abbrev cX7_distanceAhead : ByteArray := prog_9_method_5_code
def yX7_distanceAhead : MethodName := ⟨RX7, "distanceAhead", "(I)I"⟩
abbrev cX7_addStrength : ByteArray := prog_9_method_6_code
def yX7_addStrength : MethodName := ⟨RX7, "addStrength", "(II)V"⟩
abbrev cX7_exchangeBanners : ByteArray := prog_9_method_7_code
def yX7_exchangeBanners : MethodName := ⟨RX7, "exchangeBanners", "(I)V"⟩
abbrev cX7_march : ByteArray := prog_9_method_8_code
def yX7_march : MethodName := ⟨RX7, "march", "(II)V"⟩
abbrev cX7_carriers : ByteArray := prog_9_method_9_code
def yX7_carriers : MethodName := ⟨RX7, "carriers", "()I"⟩
abbrev cX7_carriersOf : ByteArray := prog_9_method_10_code
def yX7_carriersOf : MethodName := ⟨RX7, "carriersOf", "(I)I"⟩
abbrev cX7_carriersOfOwnLetter : ByteArray := prog_9_method_11_code
def yX7_carriersOfOwnLetter : MethodName := ⟨RX7, "carriersOfOwnLetter", "()I"⟩
abbrev cX7_withinSpace : ByteArray := prog_9_method_12_code
def yX7_withinSpace : MethodName := ⟨RX7, "withinSpace", "(I)I"⟩
abbrev cX7_strideSum : ByteArray := prog_9_method_13_code
def yX7_strideSum : MethodName := ⟨RX7, "strideSum", "()I"⟩
abbrev cX7_strengthSum : ByteArray := prog_9_method_14_code
def yX7_strengthSum : MethodName := ⟨RX7, "strengthSum", "()I"⟩
abbrev cX7_meanOfStrength : ByteArray := prog_9_method_15_code
def yX7_meanOfStrength : MethodName := ⟨RX7, "meanOfStrength", "()D"⟩
abbrev cX7_upToStrength : ByteArray := prog_9_method_16_code
def yX7_upToStrength : MethodName := ⟨RX7, "upToStrength", "(I)I"⟩
abbrev cX7_belowStrength : ByteArray := prog_9_method_17_code
def yX7_belowStrength : MethodName := ⟨RX7, "belowStrength", "(I)I"⟩
abbrev cX7_beyond : ByteArray := prog_9_method_18_code
def yX7_beyond : MethodName := ⟨RX7, "beyond", "(I)I"⟩
abbrev cX7_shortOf : ByteArray := prog_9_method_19_code
def yX7_shortOf : MethodName := ⟨RX7, "shortOf", "(I)I"⟩
abbrev cX7_leastDifference : ByteArray := prog_9_method_20_code
def yX7_leastDifference : MethodName := ⟨RX7, "leastDifference", "(I)I"⟩
def RX8 : String := "BannerParade$State"
def TX8 : u_T := fun k => match k with
  | 0 => ("BannerParade$State", "time", "I", false)
  | 1 => ("BannerParade$State", "swapsDone", "I", false)
  | 2 => ("BannerParade$State", "dropsDone", "I", false)
  | 3 => ("BannerParade$State", "picksDone", "I", false)
  | 4 => ("BannerParade$State", "settings", "[I", true)
  | 5 => ("BannerParade$State", "readAt", "[I", true)
  | 6 => ("BannerParade$State", "row", "LBannerParade$Row;", true)
  | 7 => ("BannerParade$State", "ground", "LBannerParade$Ground;", true)
  | _ => ("BannerParade$State", "plans", "LBannerParade$Plans;", true)
def tyX8 : Nat → FieldType := fun k => match k with
  | 0 => .int
  | 1 => .int
  | 2 => .int
  | 3 => .int
  | 4 => .array .int
  | 5 => .array .int
  | 6 => .object "BannerParade$Row"
  | 7 => .object "BannerParade$Ground"
  | _ => .object "BannerParade$Plans"
theorem nmX8 : ∀ a, a < 9 → ∀ b, b < 9 → a ≠ b → (TX8 a).2.1 ≠ (TX8 b).2.1 := by decide +kernel
theorem tyX8_ok : ∀ k, k < 9 → parseFieldDescriptor (TX8 k).2.2.1 = some (tyX8 k) := by decide +kernel
abbrev cX8_init : ByteArray := prog_10_method_1_code
def yX8_init : MethodName := ⟨RX8, "<init>", "()V"⟩
abbrev cX8_copyFrom : ByteArray := prog_10_method_2_code
def yX8_copyFrom : MethodName := ⟨RX8, "copyFrom", "(LBannerParade$State;)V"⟩
abbrev cX8_clear : ByteArray := prog_10_method_3_code
def yX8_clear : MethodName := ⟨RX8, "clear", "()V"⟩
abbrev cX8_passTick : ByteArray := prog_10_method_4_code
def yX8_passTick : MethodName := ⟨RX8, "passTick", "()V"⟩
abbrev cX8_doPlans : ByteArray := prog_10_method_5_code
def yX8_doPlans : MethodName := ⟨RX8, "doPlans", "()V"⟩
abbrev cX8_dropOfTheWeak : ByteArray := prog_10_method_6_code
def yX8_dropOfTheWeak : MethodName := ⟨RX8, "dropOfTheWeak", "()V"⟩
abbrev cX8_liftOnTheWay : ByteArray := prog_10_method_7_code
def yX8_liftOnTheWay : MethodName := ⟨RX8, "liftOnTheWay", "()V"⟩
abbrev cX8_maySwap : ByteArray := prog_10_method_8_code
def yX8_maySwap : MethodName := ⟨RX8, "maySwap", "(I)Z"⟩
abbrev cX8_swapBanners : ByteArray := prog_10_method_9_code
def yX8_swapBanners : MethodName := ⟨RX8, "swapBanners", "(I)V"⟩
abbrev cX8_dropBanner : ByteArray := prog_10_method_10_code
def yX8_dropBanner : MethodName := ⟨RX8, "dropBanner", "(I)V"⟩
abbrev cX8_mayLift : ByteArray := prog_10_method_11_code
def yX8_mayLift : MethodName := ⟨RX8, "mayLift", "(I)Z"⟩
abbrev cX8_liftBanner : ByteArray := prog_10_method_12_code
def yX8_liftBanner : MethodName := ⟨RX8, "liftBanner", "(II)V"⟩
abbrev cX8_isInSight : ByteArray := prog_10_method_13_code
def yX8_isInSight : MethodName := ⟨RX8, "isInSight", "(II)Z"⟩
def RX9 : String := "BannerParade$Tokens"
def TX9 : u_T := fun k => match k with
  | 0 => ("BannerParade$Tokens", "bytes", "[I", true)
  | 1 => ("BannerParade$Tokens", "filled", "I", false)
  | 2 => ("BannerParade$Tokens", "limit", "I", false)
  | 3 => ("BannerParade$Tokens", "start", "I", false)
  | 4 => ("BannerParade$Tokens", "next", "I", false)
  | 5 => ("BannerParade$Tokens", "kind", "I", false)
  | _ => ("BannerParade$Tokens", "number", "I", false)
def tyX9 : Nat → FieldType := fun k => match k with
  | 0 => .array .int
  | 1 => .int
  | 2 => .int
  | 3 => .int
  | 4 => .int
  | 5 => .int
  | _ => .int
theorem nmX9 : ∀ a, a < 7 → ∀ b, b < 7 → a ≠ b → (TX9 a).2.1 ≠ (TX9 b).2.1 := by decide +kernel
theorem tyX9_ok : ∀ k, k < 7 → parseFieldDescriptor (TX9 k).2.2.1 = some (tyX9 k) := by decide +kernel
abbrev cX9_init : ByteArray := prog_11_method_1_code
def yX9_init : MethodName := ⟨RX9, "<init>", "()V"⟩
abbrev cX9_putTwenty : ByteArray := prog_11_method_2_code
def yX9_putTwenty : MethodName := ⟨RX9, "putTwenty", "(IIIII)I"⟩
abbrev cX9_putFour : ByteArray := prog_11_method_3_code
def yX9_putFour : MethodName := ⟨RX9, "putFour", "(I)V"⟩
abbrev cX9_begin : ByteArray := prog_11_method_4_code
def yX9_begin : MethodName := ⟨RX9, "begin", "(I)V"⟩
abbrev cX9_readToken : ByteArray := prog_11_method_5_code
def yX9_readToken : MethodName := ⟨RX9, "readToken", "()V"⟩
abbrev cX9_readWord : ByteArray := prog_11_method_6_code
def yX9_readWord : MethodName := ⟨RX9, "readWord", "()V"⟩
abbrev cX9_readDigits : ByteArray := prog_11_method_7_code
def yX9_readDigits : MethodName := ⟨RX9, "readDigits", "()V"⟩
abbrev cX9_wordLength : ByteArray := prog_11_method_8_code
def yX9_wordLength : MethodName := ⟨RX9, "wordLength", "()I"⟩
abbrev cX9_byteOfToken : ByteArray := prog_11_method_9_code
def yX9_byteOfToken : MethodName := ⟨RX9, "byteOfToken", "(I)I"⟩
abbrev cX9_isWord : ByteArray := prog_11_method_10_code
def yX9_isWord : MethodName := ⟨RX9, "isWord", "(Ljava/lang/String;)Z"⟩
def RX10 : String := "BannerParade"
def TX10 : u_T := fun k => match k with
  | 0 => ("BannerParade", "parser", "LBannerParade$Parser;", true)
  | 1 => ("BannerParade", "now", "LBannerParade$State;", true)
  | 2 => ("BannerParade", "later", "LBannerParade$State;", true)
  | 3 => ("BannerParade", "route", "LBannerParade$Route;", true)
  | 4 => ("BannerParade", "memory", "LBannerParade$Memory;", true)
  | 5 => ("BannerParade", "reading", "LBannerParade$Reading;", true)
  | 6 => ("BannerParade", "written", "LBannerParade$Bytes;", true)
  | _ => ("BannerParade", "loaded", "Z", false)
def tyX10 : Nat → FieldType := fun k => match k with
  | 0 => .object "BannerParade$Parser"
  | 1 => .object "BannerParade$State"
  | 2 => .object "BannerParade$State"
  | 3 => .object "BannerParade$Route"
  | 4 => .object "BannerParade$Memory"
  | 5 => .object "BannerParade$Reading"
  | 6 => .object "BannerParade$Bytes"
  | _ => .boolean
theorem nmX10 : ∀ a, a < 8 → ∀ b, b < 8 → a ≠ b → (TX10 a).2.1 ≠ (TX10 b).2.1 := by decide +kernel
theorem tyX10_ok : ∀ k, k < 8 → parseFieldDescriptor (TX10 k).2.2.1 = some (tyX10 k) := by decide +kernel
abbrev cX10_init : ByteArray := prog_1_method_1_code
def yX10_init : MethodName := ⟨RX10, "<init>", "()V"⟩
abbrev cX10_append : ByteArray := prog_1_method_2_code
def yX10_append : MethodName := ⟨RX10, "append", "(IIIII)I"⟩
abbrev cX10_load : ByteArray := prog_1_method_3_code
def yX10_load : MethodName := ⟨RX10, "load", "(I)I"⟩
abbrev cX10_parseError : ByteArray := prog_1_method_4_code
def yX10_parseError : MethodName := ⟨RX10, "parseError", "()I"⟩
abbrev cX10_errorPosition : ByteArray := prog_1_method_5_code
def yX10_errorPosition : MethodName := ⟨RX10, "errorPosition", "()I"⟩
abbrev cX10_buffered : ByteArray := prog_1_method_6_code
def yX10_buffered : MethodName := ⟨RX10, "buffered", "()I"⟩
abbrev cX10_count : ByteArray := prog_1_method_7_code
def yX10_count : MethodName := ⟨RX10, "count", "(I)I"⟩
abbrev cX10_setting : ByteArray := prog_1_method_8_code
def yX10_setting : MethodName := ⟨RX10, "setting", "(I)I"⟩
abbrev cX10_bearer : ByteArray := prog_1_method_9_code
def yX10_bearer : MethodName := ⟨RX10, "bearer", "(II)I"⟩
abbrev cX10_stand : ByteArray := prog_1_method_10_code
def yX10_stand : MethodName := ⟨RX10, "stand", "(II)I"⟩
abbrev cX10_plan : ByteArray := prog_1_method_11_code
def yX10_plan : MethodName := ⟨RX10, "plan", "(II)I"⟩
abbrev cX10_lying : ByteArray := prog_1_method_12_code
def yX10_lying : MethodName := ⟨RX10, "lying", "(II)I"⟩
abbrev cX10_wordByte : ByteArray := prog_1_method_13_code
def yX10_wordByte : MethodName := ⟨RX10, "wordByte", "(II)I"⟩
abbrev cX10_readByte : ByteArray := prog_1_method_14_code
def yX10_readByte : MethodName := ⟨RX10, "readByte", "(II)I"⟩
abbrev cX10_seen : ByteArray := prog_1_method_15_code
def yX10_seen : MethodName := ⟨RX10, "seen", "(I)I"⟩
abbrev cX10_matches : ByteArray := prog_1_method_16_code
def yX10_matches : MethodName := ⟨RX10, "matches", "(I)I"⟩
abbrev cX10_isRead : ByteArray := prog_1_method_17_code
def yX10_isRead : MethodName := ⟨RX10, "isRead", "(I)Z"⟩
abbrev cX10_share : ByteArray := prog_1_method_18_code
def yX10_share : MethodName := ⟨RX10, "share", "(I)F"⟩
abbrev cX10_shareBits : ByteArray := prog_1_method_19_code
def yX10_shareBits : MethodName := ⟨RX10, "shareBits", "(I)I"⟩
abbrev cX10_missing : ByteArray := prog_1_method_20_code
def yX10_missing : MethodName := ⟨RX10, "missing", "(I)I"⟩
abbrev cX10_seenAt : ByteArray := prog_1_method_21_code
def yX10_seenAt : MethodName := ⟨RX10, "seenAt", "(II)I"⟩
abbrev cX10_blanks : ByteArray := prog_1_method_22_code
def yX10_blanks : MethodName := ⟨RX10, "blanks", "(I)I"⟩
abbrev cX10_prefix : ByteArray := prog_1_method_23_code
def yX10_prefix : MethodName := ⟨RX10, "prefix", "(I)I"⟩
abbrev cX10_holder : ByteArray := prog_1_method_24_code
def yX10_holder : MethodName := ⟨RX10, "holder", "(I)I"⟩
abbrev cX10_copies : ByteArray := prog_1_method_25_code
def yX10_copies : MethodName := ⟨RX10, "copies", "(I)I"⟩
abbrev cX10_tired : ByteArray := prog_1_method_26_code
def yX10_tired : MethodName := ⟨RX10, "tired", "(I)I"⟩
abbrev cX10_swappers : ByteArray := prog_1_method_27_code
def yX10_swappers : MethodName := ⟨RX10, "swappers", "()I"⟩
abbrev cX10_nextPlan : ByteArray := prog_1_method_28_code
def yX10_nextPlan : MethodName := ⟨RX10, "nextPlan", "()I"⟩
abbrev cX10_lyingFrom : ByteArray := prog_1_method_29_code
def yX10_lyingFrom : MethodName := ⟨RX10, "lyingFrom", "(II)I"⟩
abbrev cX10_bestStand : ByteArray := prog_1_method_30_code
def yX10_bestStand : MethodName := ⟨RX10, "bestStand", "()I"⟩
abbrev cX10_readStands : ByteArray := prog_1_method_31_code
def yX10_readStands : MethodName := ⟨RX10, "readStands", "()I"⟩
abbrev cX10_weakest : ByteArray := prog_1_method_32_code
def yX10_weakest : MethodName := ⟨RX10, "weakest", "()I"⟩
abbrev cX10_widest : ByteArray := prog_1_method_33_code
def yX10_widest : MethodName := ⟨RX10, "widest", "()I"⟩
abbrev cX10_stretch : ByteArray := prog_1_method_34_code
def yX10_stretch : MethodName := ⟨RX10, "stretch", "()I"⟩
abbrev cX10_meanStrength : ByteArray := prog_1_method_35_code
def yX10_meanStrength : MethodName := ⟨RX10, "meanStrength", "()D"⟩
abbrev cX10_strengthBits : ByteArray := prog_1_method_36_code
def yX10_strengthBits : MethodName := ⟨RX10, "strengthBits", "()J"⟩
abbrev cX10_readsIn : ByteArray := prog_1_method_37_code
def yX10_readsIn : MethodName := ⟨RX10, "readsIn", "(I)I"⟩
abbrev cX10_passedIn : ByteArray := prog_1_method_38_code
def yX10_passedIn : MethodName := ⟨RX10, "passedIn", "(I)I"⟩
abbrev cX10_placeIn : ByteArray := prog_1_method_39_code
def yX10_placeIn : MethodName := ⟨RX10, "placeIn", "(II)I"⟩
abbrev cX10_strengthIn : ByteArray := prog_1_method_40_code
def yX10_strengthIn : MethodName := ⟨RX10, "strengthIn", "(II)I"⟩
abbrev cX10_bannerIn : ByteArray := prog_1_method_41_code
def yX10_bannerIn : MethodName := ⟨RX10, "bannerIn", "(II)I"⟩
abbrev cX10_dropsIn : ByteArray := prog_1_method_42_code
def yX10_dropsIn : MethodName := ⟨RX10, "dropsIn", "(I)I"⟩
abbrev cX10_firstDrop : ByteArray := prog_1_method_43_code
def yX10_firstDrop : MethodName := ⟨RX10, "firstDrop", "()I"⟩
abbrev cX10_shareIn : ByteArray := prog_1_method_44_code
def yX10_shareIn : MethodName := ⟨RX10, "shareIn", "(II)F"⟩
abbrev cX10_bestShare : ByteArray := prog_1_method_45_code
def yX10_bestShare : MethodName := ⟨RX10, "bestShare", "(II)F"⟩
abbrev cX10_bestSwap : ByteArray := prog_1_method_46_code
def yX10_bestSwap : MethodName := ⟨RX10, "bestSwap", "(I)I"⟩
abbrev cX10_closedIn : ByteArray := prog_1_method_47_code
def yX10_closedIn : MethodName := ⟨RX10, "closedIn", "(I)I"⟩
abbrev cX10_leastRest : ByteArray := prog_1_method_48_code
def yX10_leastRest : MethodName := ⟨RX10, "leastRest", "()I"⟩
abbrev cX10_writeStand : ByteArray := prog_1_method_49_code
def yX10_writeStand : MethodName := ⟨RX10, "writeStand", "(I)I"⟩
abbrev cX10_writeRow : ByteArray := prog_1_method_50_code
def yX10_writeRow : MethodName := ⟨RX10, "writeRow", "()I"⟩
abbrev cX10_writePlaces : ByteArray := prog_1_method_51_code
def yX10_writePlaces : MethodName := ⟨RX10, "writePlaces", "()I"⟩
abbrev cX10_textByte : ByteArray := prog_1_method_52_code
def yX10_textByte : MethodName := ⟨RX10, "textByte", "(I)I"⟩
abbrev cX10_tick : ByteArray := prog_1_method_53_code
def yX10_tick : MethodName := ⟨RX10, "tick", "(I)I"⟩
abbrev cX10_swap : ByteArray := prog_1_method_54_code
def yX10_swap : MethodName := ⟨RX10, "swap", "(I)I"⟩
abbrev cX10_drop : ByteArray := prog_1_method_55_code
def yX10_drop : MethodName := ⟨RX10, "drop", "(I)I"⟩
abbrev cX10_pick : ByteArray := prog_1_method_56_code
def yX10_pick : MethodName := ⟨RX10, "pick", "(I)I"⟩
abbrev cX10_strengthen : ByteArray := prog_1_method_57_code
def yX10_strengthen : MethodName := ⟨RX10, "strengthen", "(II)I"⟩
abbrev cX10_rest : ByteArray := prog_1_method_58_code
def yX10_rest : MethodName := ⟨RX10, "rest", "(I)I"⟩
abbrev cX10_setStep : ByteArray := prog_1_method_59_code
def yX10_setStep : MethodName := ⟨RX10, "setStep", "(II)I"⟩
abbrev cX10_addPlan : ByteArray := prog_1_method_60_code
def yX10_addPlan : MethodName := ⟨RX10, "addPlan", "(II)I"⟩
abbrev cX10_set : ByteArray := prog_1_method_61_code
def yX10_set : MethodName := ⟨RX10, "set", "(II)I"⟩
abbrev cX10_undo : ByteArray := prog_1_method_62_code
def yX10_undo : MethodName := ⟨RX10, "undo", "()I"⟩
abbrev cX10_undoable : ByteArray := prog_1_method_63_code
def yX10_undoable : MethodName := ⟨RX10, "undoable", "()I"⟩
abbrev cX10_save : ByteArray := prog_1_method_64_code
def yX10_save : MethodName := ⟨RX10, "save", "(I)I"⟩
abbrev cX10_restore : ByteArray := prog_1_method_65_code
def yX10_restore : MethodName := ⟨RX10, "restore", "(I)I"⟩
abbrev cX10_needLoaded : ByteArray := prog_1_method_66_code
def yX10_needLoaded : MethodName := ⟨RX10, "needLoaded", "()V"⟩
abbrev cX10_needBearer : ByteArray := prog_1_method_67_code
def yX10_needBearer : MethodName := ⟨RX10, "needBearer", "(I)V"⟩
abbrev cX10_needStand : ByteArray := prog_1_method_68_code
def yX10_needStand : MethodName := ⟨RX10, "needStand", "(I)V"⟩
abbrev cX10_needIndex : ByteArray := prog_1_method_69_code
def yX10_needIndex : MethodName := ⟨RX10, "needIndex", "(II)V"⟩
abbrev cX10_needRange : ByteArray := prog_1_method_70_code
def yX10_needRange : MethodName := ⟨RX10, "needRange", "(III)V"⟩
abbrev cX10_needArgument : ByteArray := prog_1_method_71_code
def yX10_needArgument : MethodName := ⟨RX10, "needArgument", "(Z)V"⟩
abbrev cX10_readNow : ByteArray := prog_1_method_72_code
def yX10_readNow : MethodName := ⟨RX10, "readNow", "(I)LBannerParade$Reading;"⟩
abbrev cX10_readLater : ByteArray := prog_1_method_73_code
def yX10_readLater : MethodName := ⟨RX10, "readLater", "(I)LBannerParade$Reading;"⟩
abbrev cX10_foresee : ByteArray := prog_1_method_74_code
def yX10_foresee : MethodName := ⟨RX10, "foresee", "(I)V"⟩
abbrev cX10_ticksToDrop : ByteArray := prog_1_method_75_code
def yX10_ticksToDrop : MethodName := ⟨RX10, "ticksToDrop", "(I)I"⟩
abbrev cX10_readWords : ByteArray := prog_1_method_76_code
def yX10_readWords : MethodName := ⟨RX10, "readWords", "()V"⟩
abbrev cX10_standsWithReadWord : ByteArray := prog_1_method_77_code
def yX10_standsWithReadWord : MethodName := ⟨RX10, "standsWithReadWord", "()I"⟩
abbrev cX10_standsThatSeeAny : ByteArray := prog_1_method_78_code
def yX10_standsThatSeeAny : MethodName := ⟨RX10, "standsThatSeeAny", "()I"⟩
abbrev cX10_standsThatSee : ByteArray := prog_1_method_79_code
def yX10_standsThatSee : MethodName := ⟨RX10, "standsThatSee", "(I)I"⟩
abbrev cX10_bearersSeenFrom : ByteArray := prog_1_method_80_code
def yX10_bearersSeenFrom : MethodName := ⟨RX10, "bearersSeenFrom", "(I)I"⟩
abbrev cX10_floatBits : ByteArray := prog_1_method_81_code
def yX10_floatBits : MethodName := ⟨RX10, "floatBits", "(F)I"⟩
abbrev cX10_doubleBits : ByteArray := prog_1_method_82_code
def yX10_doubleBits : MethodName := ⟨RX10, "doubleBits", "(D)J"⟩
abbrev cX10_copyNumbers : ByteArray := prog_1_method_83_code
def yX10_copyNumbers : MethodName := ⟨RX10, "copyNumbers", "([I[I)V"⟩
def RX11 : String := "BannerParadeModel"
def TX11 : u_T := fun k => match k with
  | 0 => ("BannerParadeModel", "thrown", "I", false)
  | 1 => ("BannerParadeModel", "now", "[I", true)
  | 2 => ("BannerParadeModel", "aside", "[I", true)
  | 3 => ("BannerParadeModel", "undos", "[I", true)
  | 4 => ("BannerParadeModel", "saved", "[I", true)
  | 5 => ("BannerParadeModel", "isSaved", "[Z", true)
  | 6 => ("BannerParadeModel", "isThere", "Z", false)
  | 7 => ("BannerParadeModel", "undoMany", "I", false)
  | 8 => ("BannerParadeModel", "buffer", "[B", true)
  | 9 => ("BannerParadeModel", "buffered", "I", false)
  | 10 => ("BannerParadeModel", "parseCode", "I", false)
  | 11 => ("BannerParadeModel", "parseAt", "I", false)
  | 12 => ("BannerParadeModel", "size", "I", false)
  | 13 => ("BannerParadeModel", "at", "I", false)
  | 14 => ("BannerParadeModel", "start", "I", false)
  | 15 => ("BannerParadeModel", "token", "I", false)
  | 16 => ("BannerParadeModel", "value", "I", false)
  | 17 => ("BannerParadeModel", "text", "[I", true)
  | 18 => ("BannerParadeModel", "textMany", "I", false)
  | 19 => ("BannerParadeModel", "before", "[I", true)
  | 20 => ("BannerParadeModel", "page", "[B", true)
  | _ => ("BannerParadeModel", "pageSize", "I", false)
def tyX11 : Nat → FieldType := fun k => match k with
  | 0 => .int
  | 1 => .array .int
  | 2 => .array .int
  | 3 => .array .int
  | 4 => .array .int
  | 5 => .array .boolean
  | 6 => .boolean
  | 7 => .int
  | 8 => .array .byte
  | 9 => .int
  | 10 => .int
  | 11 => .int
  | 12 => .int
  | 13 => .int
  | 14 => .int
  | 15 => .int
  | 16 => .int
  | 17 => .array .int
  | 18 => .int
  | 19 => .array .int
  | 20 => .array .byte
  | _ => .int
theorem nmX11 : ∀ a, a < 22 → ∀ b, b < 22 → a ≠ b → (TX11 a).2.1 ≠ (TX11 b).2.1 := by decide +kernel
theorem tyX11_ok : ∀ k, k < 22 → parseFieldDescriptor (TX11 k).2.2.1 = some (tyX11 k) := by decide +kernel
abbrev cX11_init : ByteArray := prog_13_method_1_code
def yX11_init : MethodName := ⟨RX11, "<init>", "()V"⟩
abbrev cX11_thrown : ByteArray := prog_13_method_2_code
def yX11_thrown : MethodName := ⟨RX11, "thrown", "()I"⟩
abbrev cX11_in : ByteArray := prog_13_method_3_code
def yX11_in : MethodName := ⟨RX11, "in", "(III)Z"⟩
abbrev cX11_may : ByteArray := prog_13_method_4_code
def yX11_may : MethodName := ⟨RX11, "may", "(ZZZ)Z"⟩
abbrev cX11_mayTwo : ByteArray := prog_13_method_5_code
def yX11_mayTwo : MethodName := ⟨RX11, "mayTwo", "(ZZ)Z"⟩
abbrev cX11_lays : ByteArray := prog_13_method_6_code
def yX11_lays : MethodName := ⟨RX11, "lays", "([II[II)V"⟩
abbrev cX11_append : ByteArray := prog_13_method_7_code
def yX11_append : MethodName := ⟨RX11, "append", "(IIIII)I"⟩
abbrev cX11_four : ByteArray := prog_13_method_8_code
def yX11_four : MethodName := ⟨RX11, "four", "(I)V"⟩
abbrev cX11_parseError : ByteArray := prog_13_method_9_code
def yX11_parseError : MethodName := ⟨RX11, "parseError", "()I"⟩
abbrev cX11_errorPosition : ByteArray := prog_13_method_10_code
def yX11_errorPosition : MethodName := ⟨RX11, "errorPosition", "()I"⟩
abbrev cX11_buffered : ByteArray := prog_13_method_11_code
def yX11_buffered : MethodName := ⟨RX11, "buffered", "()I"⟩
abbrev cX11_isLetter : ByteArray := prog_13_method_12_code
def yX11_isLetter : MethodName := ⟨RX11, "isLetter", "(I)Z"⟩
abbrev cX11_isDigit : ByteArray := prog_13_method_13_code
def yX11_isDigit : MethodName := ⟨RX11, "isDigit", "(I)Z"⟩
abbrev cX11_next : ByteArray := prog_13_method_14_code
def yX11_next : MethodName := ⟨RX11, "next", "()V"⟩
abbrev cX11_faults : ByteArray := prog_13_method_15_code
def yX11_faults : MethodName := ⟨RX11, "faults", "(I)V"⟩
abbrev cX11_is : ByteArray := prog_13_method_16_code
def yX11_is : MethodName := ⟨RX11, "is", "(I)Z"⟩
abbrev cX11_isWord : ByteArray := prog_13_method_17_code
def yX11_isWord : MethodName := ⟨RX11, "isWord", "(Ljava/lang/String;)Z"⟩
abbrev cX11_takes : ByteArray := prog_13_method_18_code
def yX11_takes : MethodName := ⟨RX11, "takes", "(Ljava/lang/String;)V"⟩
abbrev cX11_number : ByteArray := prog_13_method_19_code
def yX11_number : MethodName := ⟨RX11, "number", "(II)I"⟩
abbrev cX11_lowOf : ByteArray := prog_13_method_20_code
def yX11_lowOf : MethodName := ⟨RX11, "lowOf", "(I)I"⟩
abbrev cX11_highOf : ByteArray := prog_13_method_21_code
def yX11_highOf : MethodName := ⟨RX11, "highOf", "(I)I"⟩
abbrev cX11_begins : ByteArray := prog_13_method_22_code
def yX11_begins : MethodName := ⟨RX11, "begins", "(II)Z"⟩
abbrev cX11_letterHere : ByteArray := prog_13_method_23_code
def yX11_letterHere : MethodName := ⟨RX11, "letterHere", "()I"⟩
abbrev cX11_readsBearer : ByteArray := prog_13_method_24_code
def yX11_readsBearer : MethodName := ⟨RX11, "readsBearer", "()V"⟩
abbrev cX11_readsStand : ByteArray := prog_13_method_25_code
def yX11_readsStand : MethodName := ⟨RX11, "readsStand", "()V"⟩
abbrev cX11_readsPlan : ByteArray := prog_13_method_26_code
def yX11_readsPlan : MethodName := ⟨RX11, "readsPlan", "()V"⟩
abbrev cX11_laysPlan : ByteArray := prog_13_method_27_code
def yX11_laysPlan : MethodName := ⟨RX11, "laysPlan", "(II)V"⟩
abbrev cX11_reads : ByteArray := prog_13_method_28_code
def yX11_reads : MethodName := ⟨RX11, "reads", "()V"⟩
abbrev cX11_load : ByteArray := prog_13_method_29_code
def yX11_load : MethodName := ⟨RX11, "load", "(I)I"⟩
abbrev cX11_of : ByteArray := prog_13_method_30_code
def yX11_of : MethodName := ⟨RX11, "of", "(II)I"⟩
abbrev cX11_put : ByteArray := prog_13_method_31_code
def yX11_put : MethodName := ⟨RX11, "put", "(III)V"⟩
abbrev cX11_ofStand : ByteArray := prog_13_method_32_code
def yX11_ofStand : MethodName := ⟨RX11, "ofStand", "(II)I"⟩
abbrev cX11_putStand : ByteArray := prog_13_method_33_code
def yX11_putStand : MethodName := ⟨RX11, "putStand", "(III)V"⟩
abbrev cX11_ofPlan : ByteArray := prog_13_method_34_code
def yX11_ofPlan : MethodName := ⟨RX11, "ofPlan", "(II)I"⟩
abbrev cX11_ofLying : ByteArray := prog_13_method_35_code
def yX11_ofLying : MethodName := ⟨RX11, "ofLying", "(II)I"⟩
abbrev cX11_isBearer : ByteArray := prog_13_method_36_code
def yX11_isBearer : MethodName := ⟨RX11, "isBearer", "(I)Z"⟩
abbrev cX11_isStand : ByteArray := prog_13_method_37_code
def yX11_isStand : MethodName := ⟨RX11, "isStand", "(I)Z"⟩
abbrev cX11_stride : ByteArray := prog_13_method_38_code
def yX11_stride : MethodName := ⟨RX11, "stride", "(I)I"⟩
abbrev cX11_distance : ByteArray := prog_13_method_39_code
def yX11_distance : MethodName := ⟨RX11, "distance", "(I)I"⟩
abbrev cX11_strengthens : ByteArray := prog_13_method_40_code
def yX11_strengthens : MethodName := ⟨RX11, "strengthens", "(II)V"⟩
abbrev cX11_drops : ByteArray := prog_13_method_41_code
def yX11_drops : MethodName := ⟨RX11, "drops", "(I)V"⟩
abbrev cX11_picks : ByteArray := prog_13_method_42_code
def yX11_picks : MethodName := ⟨RX11, "picks", "(II)V"⟩
abbrev cX11_lyingIn : ByteArray := prog_13_method_43_code
def yX11_lyingIn : MethodName := ⟨RX11, "lyingIn", "(II)I"⟩
abbrev cX11_maySwap : ByteArray := prog_13_method_44_code
def yX11_maySwap : MethodName := ⟨RX11, "maySwap", "(I)Z"⟩
abbrev cX11_exchanges : ByteArray := prog_13_method_45_code
def yX11_exchanges : MethodName := ⟨RX11, "exchanges", "(I)V"⟩
abbrev cX11_swaps : ByteArray := prog_13_method_46_code
def yX11_swaps : MethodName := ⟨RX11, "swaps", "(I)V"⟩
abbrev cX11_sees : ByteArray := prog_13_method_47_code
def yX11_sees : MethodName := ⟨RX11, "sees", "(II)Z"⟩
abbrev cX11_laysText : ByteArray := prog_13_method_48_code
def yX11_laysText : MethodName := ⟨RX11, "laysText", "(I)V"⟩
abbrev cX11_laysByte : ByteArray := prog_13_method_49_code
def yX11_laysByte : MethodName := ⟨RX11, "laysByte", "(I)V"⟩
abbrev cX11_matching : ByteArray := prog_13_method_50_code
def yX11_matching : MethodName := ⟨RX11, "matching", "(I)I"⟩
abbrev cX11_readsWord : ByteArray := prog_13_method_51_code
def yX11_readsWord : MethodName := ⟨RX11, "readsWord", "(I)Z"⟩
abbrev cX11_shareOf : ByteArray := prog_13_method_52_code
def yX11_shareOf : MethodName := ⟨RX11, "shareOf", "(I)F"⟩
abbrev cX11_plans : ByteArray := prog_13_method_53_code
def yX11_plans : MethodName := ⟨RX11, "plans", "()V"⟩
abbrev cX11_moves : ByteArray := prog_13_method_54_code
def yX11_moves : MethodName := ⟨RX11, "moves", "(I)V"⟩
abbrev cX11_lifts : ByteArray := prog_13_method_55_code
def yX11_lifts : MethodName := ⟨RX11, "lifts", "(I)V"⟩
abbrev cX11_ticks : ByteArray := prog_13_method_56_code
def yX11_ticks : MethodName := ⟨RX11, "ticks", "()V"⟩
abbrev cX11_passes : ByteArray := prog_13_method_57_code
def yX11_passes : MethodName := ⟨RX11, "passes", "(I)V"⟩
abbrev cX11_carried : ByteArray := prog_13_method_58_code
def yX11_carried : MethodName := ⟨RX11, "carried", "()I"⟩
abbrev cX11_readSet : ByteArray := prog_13_method_59_code
def yX11_readSet : MethodName := ⟨RX11, "readSet", "()I"⟩
abbrev cX11_readMany : ByteArray := prog_13_method_60_code
def yX11_readMany : MethodName := ⟨RX11, "readMany", "()I"⟩
abbrev cX11_coming : ByteArray := prog_13_method_61_code
def yX11_coming : MethodName := ⟨RX11, "coming", "()I"⟩
abbrev cX11_withoutStrength : ByteArray := prog_13_method_62_code
def yX11_withoutStrength : MethodName := ⟨RX11, "withoutStrength", "()I"⟩
abbrev cX11_withOwn : ByteArray := prog_13_method_63_code
def yX11_withOwn : MethodName := ⟨RX11, "withOwn", "()I"⟩
abbrev cX11_close : ByteArray := prog_13_method_64_code
def yX11_close : MethodName := ⟨RX11, "close", "()I"⟩
abbrev cX11_strides : ByteArray := prog_13_method_65_code
def yX11_strides : MethodName := ⟨RX11, "strides", "()I"⟩
abbrev cX11_seeing : ByteArray := prog_13_method_66_code
def yX11_seeing : MethodName := ⟨RX11, "seeing", "()I"⟩
abbrev cX11_count : ByteArray := prog_13_method_67_code
def yX11_count : MethodName := ⟨RX11, "count", "(I)I"⟩
abbrev cX11_setting : ByteArray := prog_13_method_68_code
def yX11_setting : MethodName := ⟨RX11, "setting", "(I)I"⟩
abbrev cX11_mayBearer : ByteArray := prog_13_method_69_code
def yX11_mayBearer : MethodName := ⟨RX11, "mayBearer", "(I)Z"⟩
abbrev cX11_mayStand : ByteArray := prog_13_method_70_code
def yX11_mayStand : MethodName := ⟨RX11, "mayStand", "(I)Z"⟩
abbrev cX11_mayWith : ByteArray := prog_13_method_71_code
def yX11_mayWith : MethodName := ⟨RX11, "mayWith", "(IZ)Z"⟩
abbrev cX11_seersOf : ByteArray := prog_13_method_72_code
def yX11_seersOf : MethodName := ⟨RX11, "seersOf", "(I)I"⟩
abbrev cX11_weaker : ByteArray := prog_13_method_73_code
def yX11_weaker : MethodName := ⟨RX11, "weaker", "(I)I"⟩
abbrev cX11_bearer : ByteArray := prog_13_method_74_code
def yX11_bearer : MethodName := ⟨RX11, "bearer", "(II)I"⟩
abbrev cX11_seenSet : ByteArray := prog_13_method_75_code
def yX11_seenSet : MethodName := ⟨RX11, "seenSet", "(I)I"⟩
abbrev cX11_bits : ByteArray := prog_13_method_76_code
def yX11_bits : MethodName := ⟨RX11, "bits", "(I)I"⟩
abbrev cX11_textLength : ByteArray := prog_13_method_77_code
def yX11_textLength : MethodName := ⟨RX11, "textLength", "(I)I"⟩
abbrev cX11_nearest : ByteArray := prog_13_method_78_code
def yX11_nearest : MethodName := ⟨RX11, "nearest", "(I)I"⟩
abbrev cX11_beyond : ByteArray := prog_13_method_79_code
def yX11_beyond : MethodName := ⟨RX11, "beyond", "(I)I"⟩
abbrev cX11_ahead : ByteArray := prog_13_method_80_code
def yX11_ahead : MethodName := ⟨RX11, "ahead", "(I)I"⟩
abbrev cX11_stand : ByteArray := prog_13_method_81_code
def yX11_stand : MethodName := ⟨RX11, "stand", "(II)I"⟩
abbrev cX11_plan : ByteArray := prog_13_method_82_code
def yX11_plan : MethodName := ⟨RX11, "plan", "(II)I"⟩
abbrev cX11_lying : ByteArray := prog_13_method_83_code
def yX11_lying : MethodName := ⟨RX11, "lying", "(II)I"⟩
abbrev cX11_wordByte : ByteArray := prog_13_method_84_code
def yX11_wordByte : MethodName := ⟨RX11, "wordByte", "(II)I"⟩
abbrev cX11_readByte : ByteArray := prog_13_method_85_code
def yX11_readByte : MethodName := ⟨RX11, "readByte", "(II)I"⟩
abbrev cX11_seen : ByteArray := prog_13_method_86_code
def yX11_seen : MethodName := ⟨RX11, "seen", "(I)I"⟩
abbrev cX11_matches : ByteArray := prog_13_method_87_code
def yX11_matches : MethodName := ⟨RX11, "matches", "(I)I"⟩
abbrev cX11_isRead : ByteArray := prog_13_method_88_code
def yX11_isRead : MethodName := ⟨RX11, "isRead", "(I)Z"⟩
abbrev cX11_seenOne : ByteArray := prog_13_method_89_code
def yX11_seenOne : MethodName := ⟨RX11, "seenOne", "(II)I"⟩
abbrev cX11_seenAt : ByteArray := prog_13_method_90_code
def yX11_seenAt : MethodName := ⟨RX11, "seenAt", "(II)I"⟩
abbrev cX11_blanks : ByteArray := prog_13_method_91_code
def yX11_blanks : MethodName := ⟨RX11, "blanks", "(I)I"⟩
abbrev cX11_prefix : ByteArray := prog_13_method_92_code
def yX11_prefix : MethodName := ⟨RX11, "prefix", "(I)I"⟩
abbrev cX11_mayLetter : ByteArray := prog_13_method_93_code
def yX11_mayLetter : MethodName := ⟨RX11, "mayLetter", "(I)Z"⟩
abbrev cX11_holder : ByteArray := prog_13_method_94_code
def yX11_holder : MethodName := ⟨RX11, "holder", "(I)I"⟩
abbrev cX11_copies : ByteArray := prog_13_method_95_code
def yX11_copies : MethodName := ⟨RX11, "copies", "(I)I"⟩
abbrev cX11_tired : ByteArray := prog_13_method_96_code
def yX11_tired : MethodName := ⟨RX11, "tired", "(I)I"⟩
abbrev cX11_swappers : ByteArray := prog_13_method_97_code
def yX11_swappers : MethodName := ⟨RX11, "swappers", "()I"⟩
abbrev cX11_nextPlan : ByteArray := prog_13_method_98_code
def yX11_nextPlan : MethodName := ⟨RX11, "nextPlan", "()I"⟩
abbrev cX11_lyingFrom : ByteArray := prog_13_method_99_code
def yX11_lyingFrom : MethodName := ⟨RX11, "lyingFrom", "(II)I"⟩
abbrev cX11_share : ByteArray := prog_13_method_100_code
def yX11_share : MethodName := ⟨RX11, "share", "(I)F"⟩
abbrev cX11_shareBits : ByteArray := prog_13_method_101_code
def yX11_shareBits : MethodName := ⟨RX11, "shareBits", "(I)I"⟩
abbrev cX11_missing : ByteArray := prog_13_method_102_code
def yX11_missing : MethodName := ⟨RX11, "missing", "(I)I"⟩
abbrev cX11_mayAsk : ByteArray := prog_13_method_103_code
def yX11_mayAsk : MethodName := ⟨RX11, "mayAsk", "()Z"⟩
abbrev cX11_bestStand : ByteArray := prog_13_method_104_code
def yX11_bestStand : MethodName := ⟨RX11, "bestStand", "()I"⟩
abbrev cX11_readStands : ByteArray := prog_13_method_105_code
def yX11_readStands : MethodName := ⟨RX11, "readStands", "()I"⟩
abbrev cX11_weakest : ByteArray := prog_13_method_106_code
def yX11_weakest : MethodName := ⟨RX11, "weakest", "()I"⟩
abbrev cX11_widest : ByteArray := prog_13_method_107_code
def yX11_widest : MethodName := ⟨RX11, "widest", "()I"⟩
abbrev cX11_stretch : ByteArray := prog_13_method_108_code
def yX11_stretch : MethodName := ⟨RX11, "stretch", "()I"⟩
abbrev cX11_meanNow : ByteArray := prog_13_method_109_code
def yX11_meanNow : MethodName := ⟨RX11, "meanNow", "()D"⟩
abbrev cX11_meanStrength : ByteArray := prog_13_method_110_code
def yX11_meanStrength : MethodName := ⟨RX11, "meanStrength", "()D"⟩
abbrev cX11_strengthBits : ByteArray := prog_13_method_111_code
def yX11_strengthBits : MethodName := ⟨RX11, "strengthBits", "()J"⟩
abbrev cX11_thinks : ByteArray := prog_13_method_112_code
def yX11_thinks : MethodName := ⟨RX11, "thinks", "()V"⟩
abbrev cX11_back : ByteArray := prog_13_method_113_code
def yX11_back : MethodName := ⟨RX11, "back", "(I)I"⟩
abbrev cX11_backFloat : ByteArray := prog_13_method_114_code
def yX11_backFloat : MethodName := ⟨RX11, "backFloat", "(F)F"⟩
abbrev cX11_readsIn : ByteArray := prog_13_method_115_code
def yX11_readsIn : MethodName := ⟨RX11, "readsIn", "(I)I"⟩
abbrev cX11_havePassed : ByteArray := prog_13_method_116_code
def yX11_havePassed : MethodName := ⟨RX11, "havePassed", "(I)Z"⟩
abbrev cX11_passedIn : ByteArray := prog_13_method_117_code
def yX11_passedIn : MethodName := ⟨RX11, "passedIn", "(I)I"⟩
abbrev cX11_isFar : ByteArray := prog_13_method_118_code
def yX11_isFar : MethodName := ⟨RX11, "isFar", "(I)Z"⟩
abbrev cX11_partIn : ByteArray := prog_13_method_119_code
def yX11_partIn : MethodName := ⟨RX11, "partIn", "(III)I"⟩
abbrev cX11_placeIn : ByteArray := prog_13_method_120_code
def yX11_placeIn : MethodName := ⟨RX11, "placeIn", "(II)I"⟩
abbrev cX11_strengthIn : ByteArray := prog_13_method_121_code
def yX11_strengthIn : MethodName := ⟨RX11, "strengthIn", "(II)I"⟩
abbrev cX11_bannerIn : ByteArray := prog_13_method_122_code
def yX11_bannerIn : MethodName := ⟨RX11, "bannerIn", "(II)I"⟩
abbrev cX11_dropsIn : ByteArray := prog_13_method_123_code
def yX11_dropsIn : MethodName := ⟨RX11, "dropsIn", "(I)I"⟩
abbrev cX11_firstDrop : ByteArray := prog_13_method_124_code
def yX11_firstDrop : MethodName := ⟨RX11, "firstDrop", "()I"⟩
abbrev cX11_mayStandIn : ByteArray := prog_13_method_125_code
def yX11_mayStandIn : MethodName := ⟨RX11, "mayStandIn", "(II)Z"⟩
abbrev cX11_shareIn : ByteArray := prog_13_method_126_code
def yX11_shareIn : MethodName := ⟨RX11, "shareIn", "(II)F"⟩
abbrev cX11_bestShare : ByteArray := prog_13_method_127_code
def yX11_bestShare : MethodName := ⟨RX11, "bestShare", "(II)F"⟩
abbrev cX11_bestSwap : ByteArray := prog_13_method_128_code
def yX11_bestSwap : MethodName := ⟨RX11, "bestSwap", "(I)I"⟩
abbrev cX11_closedIn : ByteArray := prog_13_method_129_code
def yX11_closedIn : MethodName := ⟨RX11, "closedIn", "(I)I"⟩
abbrev cX11_leastRest : ByteArray := prog_13_method_130_code
def yX11_leastRest : MethodName := ⟨RX11, "leastRest", "()I"⟩
abbrev cX11_writesByte : ByteArray := prog_13_method_131_code
def yX11_writesByte : MethodName := ⟨RX11, "writesByte", "(I)V"⟩
abbrev cX11_writesNumber : ByteArray := prog_13_method_132_code
def yX11_writesNumber : MethodName := ⟨RX11, "writesNumber", "(I)V"⟩
abbrev cX11_writeStand : ByteArray := prog_13_method_133_code
def yX11_writeStand : MethodName := ⟨RX11, "writeStand", "(I)I"⟩
abbrev cX11_writeRow : ByteArray := prog_13_method_134_code
def yX11_writeRow : MethodName := ⟨RX11, "writeRow", "()I"⟩
abbrev cX11_writePlaces : ByteArray := prog_13_method_135_code
def yX11_writePlaces : MethodName := ⟨RX11, "writePlaces", "()I"⟩
abbrev cX11_textByte : ByteArray := prog_13_method_136_code
def yX11_textByte : MethodName := ⟨RX11, "textByte", "(I)I"⟩
abbrev cX11_remembers : ByteArray := prog_13_method_137_code
def yX11_remembers : MethodName := ⟨RX11, "remembers", "()V"⟩
abbrev cX11_tick : ByteArray := prog_13_method_138_code
def yX11_tick : MethodName := ⟨RX11, "tick", "(I)I"⟩
abbrev cX11_swap : ByteArray := prog_13_method_139_code
def yX11_swap : MethodName := ⟨RX11, "swap", "(I)I"⟩
abbrev cX11_drop : ByteArray := prog_13_method_140_code
def yX11_drop : MethodName := ⟨RX11, "drop", "(I)I"⟩
abbrev cX11_pick : ByteArray := prog_13_method_141_code
def yX11_pick : MethodName := ⟨RX11, "pick", "(I)I"⟩
abbrev cX11_strengthen : ByteArray := prog_13_method_142_code
def yX11_strengthen : MethodName := ⟨RX11, "strengthen", "(II)I"⟩
abbrev cX11_rest : ByteArray := prog_13_method_143_code
def yX11_rest : MethodName := ⟨RX11, "rest", "(I)I"⟩
abbrev cX11_setStep : ByteArray := prog_13_method_144_code
def yX11_setStep : MethodName := ⟨RX11, "setStep", "(II)I"⟩
abbrev cX11_addPlan : ByteArray := prog_13_method_145_code
def yX11_addPlan : MethodName := ⟨RX11, "addPlan", "(II)I"⟩
abbrev cX11_set : ByteArray := prog_13_method_146_code
def yX11_set : MethodName := ⟨RX11, "set", "(II)I"⟩
abbrev cX11_undo : ByteArray := prog_13_method_147_code
def yX11_undo : MethodName := ⟨RX11, "undo", "()I"⟩
abbrev cX11_undoable : ByteArray := prog_13_method_148_code
def yX11_undoable : MethodName := ⟨RX11, "undoable", "()I"⟩
abbrev cX11_save : ByteArray := prog_13_method_149_code
def yX11_save : MethodName := ⟨RX11, "save", "(I)I"⟩
abbrev cX11_restore : ByteArray := prog_13_method_150_code
def yX11_restore : MethodName := ⟨RX11, "restore", "(I)I"⟩
def RJxe99ae : String := "java/lang/Double"
abbrev cJxe99ae_isNaN_b9ae7 : ByteArray := prog_14_method_6_code
def yJxe99ae_isNaN_b9ae7 : MethodName := ⟨RJxe99ae, "isNaN", "(D)Z"⟩
abbrev cJxe99ae_doubleToLongBits_ccdee : ByteArray := prog_14_method_23_code
def yJxe99ae_doubleToLongBits_ccdee : MethodName := ⟨RJxe99ae, "doubleToLongBits", "(D)J"⟩
def RJxf58ca : String := "java/lang/Float"
abbrev cJxf58ca_isNaN_12338 : ByteArray := prog_16_method_6_code
def yJxf58ca_isNaN_12338 : MethodName := ⟨RJxf58ca, "isNaN", "(F)Z"⟩
abbrev cJxf58ca_floatToIntBits_5c35a : ByteArray := prog_16_method_24_code
def yJxf58ca_floatToIntBits_5c35a : MethodName := ⟨RJxf58ca, "floatToIntBits", "(F)I"⟩
def RJ6 : String := "java/lang/Integer"
abbrev cJ6_bitCount_0f7a4 : ByteArray := prog_20_method_49_code
def yJ6_bitCount_0f7a4 : MethodName := ⟨RJ6, "bitCount", "(I)I"⟩
def RJ9 : String := "java/lang/Math"
abbrev cJ9_abs_0f7a4 : ByteArray := prog_21_method_59_code
def yJ9_abs_0f7a4 : MethodName := ⟨RJ9, "abs", "(I)I"⟩
abbrev cJ9_max_7cf53 : ByteArray := prog_21_method_65_code
def yJ9_max_7cf53 : MethodName := ⟨RJ9, "max", "(II)I"⟩
abbrev cJ9_max_e70c8 : ByteArray := prog_21_method_67_code
def yJ9_max_e70c8 : MethodName := ⟨RJ9, "max", "(FF)F"⟩
abbrev cJ9_min_7cf53 : ByteArray := prog_21_method_69_code
def yJ9_min_7cf53 : MethodName := ⟨RJ9, "min", "(II)I"⟩
def RJ0 : String := "java/lang/String"
abbrev cJ0_length_8abf5 : ByteArray := prog_23_method_54_code
def yJ0_length_8abf5 : MethodName := ⟨RJ0, "length", "()I"⟩
abbrev cJ0_charAt_5068e : ByteArray := prog_23_method_56_code
def yJ0_charAt_5068e : MethodName := ⟨RJ0, "charAt", "(I)C"⟩
abbrev cJ0_coder_7d493 : ByteArray := prog_23_method_152_code
def yJ0_coder_7d493 : MethodName := ⟨RJ0, "coder", "()B"⟩
abbrev cJ0_isLatin1_aae02 : ByteArray := prog_23_method_154_code
def yJ0_isLatin1_aae02 : MethodName := ⟨RJ0, "isLatin1", "()Z"⟩
abbrev cJ0_checkIndex_df160 : ByteArray := prog_23_method_155_code
def yJ0_checkIndex_df160 : MethodName := ⟨RJ0, "checkIndex", "(II)V"⟩
def RJ1 : String := "java/lang/StringLatin1"
abbrev cJ1_charAt_3b067 : ByteArray := prog_24_method_2_code
def yJ1_charAt_3b067 : MethodName := ⟨RJ1, "charAt", "([BI)C"⟩
def RJ2 : String := "java/lang/StringUTF16"
abbrev cJ2_getChar_3b067 : ByteArray := prog_25_method_5_code
def yJ2_getChar_3b067 : MethodName := ⟨RJ2, "getChar", "([BI)C"⟩
abbrev cJ2_length_9d52b : ByteArray := prog_25_method_6_code
def yJ2_length_9d52b : MethodName := ⟨RJ2, "length", "([B)I"⟩
abbrev cJ2_charAt_3b067 : ByteArray := prog_25_method_83_code
def yJ2_charAt_3b067 : MethodName := ⟨RJ2, "charAt", "([BI)C"⟩
abbrev cJ2_checkIndex_2214a : ByteArray := prog_25_method_91_code
def yJ2_checkIndex_2214a : MethodName := ⟨RJ2, "checkIndex", "(I[B)V"⟩
def RJ3 : String := "jdk/internal/util/Preconditions"
abbrev cJ3_checkIndex_8e157 : ByteArray := prog_27_method_11_code
def yJ3_checkIndex_8e157 : MethodName := ⟨RJ3, "checkIndex", "(IILjava/util/function/BiFunction;)I"⟩
def RL : String := "BannerParadeLaw"
abbrev cL_load : ByteArray := method_3_code
def yL_load : MethodName := ⟨RL, "load", "(LBannerParade;I[J)I"⟩
abbrev cL_count : ByteArray := method_4_code
def yL_count : MethodName := ⟨RL, "count", "(LBannerParade;I[J)I"⟩
abbrev cL_setting : ByteArray := method_5_code
def yL_setting : MethodName := ⟨RL, "setting", "(LBannerParade;I[J)I"⟩
abbrev cL_bearer : ByteArray := method_6_code
def yL_bearer : MethodName := ⟨RL, "bearer", "(LBannerParade;II[J)I"⟩
abbrev cL_stand : ByteArray := method_7_code
def yL_stand : MethodName := ⟨RL, "stand", "(LBannerParade;II[J)I"⟩
abbrev cL_plan : ByteArray := method_8_code
def yL_plan : MethodName := ⟨RL, "plan", "(LBannerParade;II[J)I"⟩
abbrev cL_lying : ByteArray := method_9_code
def yL_lying : MethodName := ⟨RL, "lying", "(LBannerParade;II[J)I"⟩
abbrev cL_wordByte : ByteArray := method_10_code
def yL_wordByte : MethodName := ⟨RL, "wordByte", "(LBannerParade;II[J)I"⟩
abbrev cL_readByte : ByteArray := method_11_code
def yL_readByte : MethodName := ⟨RL, "readByte", "(LBannerParade;II[J)I"⟩
abbrev cL_seen : ByteArray := method_12_code
def yL_seen : MethodName := ⟨RL, "seen", "(LBannerParade;I[J)I"⟩
abbrev cL_matches : ByteArray := method_13_code
def yL_matches : MethodName := ⟨RL, "matches", "(LBannerParade;I[J)I"⟩
abbrev cL_isRead : ByteArray := method_14_code
def yL_isRead : MethodName := ⟨RL, "isRead", "(LBannerParade;I[J)I"⟩
abbrev cL_share : ByteArray := method_15_code
def yL_share : MethodName := ⟨RL, "share", "(LBannerParade;I[D)I"⟩
abbrev cL_shareBits : ByteArray := method_16_code
def yL_shareBits : MethodName := ⟨RL, "shareBits", "(LBannerParade;I[J)I"⟩
abbrev cL_missing : ByteArray := method_17_code
def yL_missing : MethodName := ⟨RL, "missing", "(LBannerParade;I[J)I"⟩
abbrev cL_seenAt : ByteArray := method_18_code
def yL_seenAt : MethodName := ⟨RL, "seenAt", "(LBannerParade;II[J)I"⟩
abbrev cL_blanks : ByteArray := method_19_code
def yL_blanks : MethodName := ⟨RL, "blanks", "(LBannerParade;I[J)I"⟩
abbrev cL_prefix : ByteArray := method_20_code
def yL_prefix : MethodName := ⟨RL, "prefix", "(LBannerParade;I[J)I"⟩
abbrev cL_holder : ByteArray := method_21_code
def yL_holder : MethodName := ⟨RL, "holder", "(LBannerParade;I[J)I"⟩
abbrev cL_copies : ByteArray := method_22_code
def yL_copies : MethodName := ⟨RL, "copies", "(LBannerParade;I[J)I"⟩
abbrev cL_tired : ByteArray := method_23_code
def yL_tired : MethodName := ⟨RL, "tired", "(LBannerParade;I[J)I"⟩
abbrev cL_swappers : ByteArray := method_24_code
def yL_swappers : MethodName := ⟨RL, "swappers", "(LBannerParade;[J)I"⟩
abbrev cL_nextPlan : ByteArray := method_25_code
def yL_nextPlan : MethodName := ⟨RL, "nextPlan", "(LBannerParade;[J)I"⟩
abbrev cL_lyingFrom : ByteArray := method_26_code
def yL_lyingFrom : MethodName := ⟨RL, "lyingFrom", "(LBannerParade;II[J)I"⟩
abbrev cL_bestStand : ByteArray := method_27_code
def yL_bestStand : MethodName := ⟨RL, "bestStand", "(LBannerParade;[J)I"⟩
abbrev cL_readStands : ByteArray := method_28_code
def yL_readStands : MethodName := ⟨RL, "readStands", "(LBannerParade;[J)I"⟩
abbrev cL_weakest : ByteArray := method_29_code
def yL_weakest : MethodName := ⟨RL, "weakest", "(LBannerParade;[J)I"⟩
abbrev cL_widest : ByteArray := method_30_code
def yL_widest : MethodName := ⟨RL, "widest", "(LBannerParade;[J)I"⟩
abbrev cL_stretch : ByteArray := method_31_code
def yL_stretch : MethodName := ⟨RL, "stretch", "(LBannerParade;[J)I"⟩
abbrev cL_meanStrength : ByteArray := method_32_code
def yL_meanStrength : MethodName := ⟨RL, "meanStrength", "(LBannerParade;[D)I"⟩
abbrev cL_strengthBits : ByteArray := method_33_code
def yL_strengthBits : MethodName := ⟨RL, "strengthBits", "(LBannerParade;[J)I"⟩
abbrev cL_readsIn : ByteArray := method_34_code
def yL_readsIn : MethodName := ⟨RL, "readsIn", "(LBannerParade;I[J)I"⟩
abbrev cL_passedIn : ByteArray := method_35_code
def yL_passedIn : MethodName := ⟨RL, "passedIn", "(LBannerParade;I[J)I"⟩
abbrev cL_placeIn : ByteArray := method_36_code
def yL_placeIn : MethodName := ⟨RL, "placeIn", "(LBannerParade;II[J)I"⟩
abbrev cL_strengthIn : ByteArray := method_37_code
def yL_strengthIn : MethodName := ⟨RL, "strengthIn", "(LBannerParade;II[J)I"⟩
abbrev cL_bannerIn : ByteArray := method_38_code
def yL_bannerIn : MethodName := ⟨RL, "bannerIn", "(LBannerParade;II[J)I"⟩
abbrev cL_dropsIn : ByteArray := method_39_code
def yL_dropsIn : MethodName := ⟨RL, "dropsIn", "(LBannerParade;I[J)I"⟩
abbrev cL_firstDrop : ByteArray := method_40_code
def yL_firstDrop : MethodName := ⟨RL, "firstDrop", "(LBannerParade;[J)I"⟩
abbrev cL_shareIn : ByteArray := method_41_code
def yL_shareIn : MethodName := ⟨RL, "shareIn", "(LBannerParade;II[D)I"⟩
abbrev cL_bestShare : ByteArray := method_42_code
def yL_bestShare : MethodName := ⟨RL, "bestShare", "(LBannerParade;II[D)I"⟩
abbrev cL_bestSwap : ByteArray := method_43_code
def yL_bestSwap : MethodName := ⟨RL, "bestSwap", "(LBannerParade;I[J)I"⟩
abbrev cL_closedIn : ByteArray := method_44_code
def yL_closedIn : MethodName := ⟨RL, "closedIn", "(LBannerParade;I[J)I"⟩
abbrev cL_leastRest : ByteArray := method_45_code
def yL_leastRest : MethodName := ⟨RL, "leastRest", "(LBannerParade;[J)I"⟩
abbrev cL_writeStand : ByteArray := method_46_code
def yL_writeStand : MethodName := ⟨RL, "writeStand", "(LBannerParade;I[J)I"⟩
abbrev cL_writeRow : ByteArray := method_47_code
def yL_writeRow : MethodName := ⟨RL, "writeRow", "(LBannerParade;[J)I"⟩
abbrev cL_writePlaces : ByteArray := method_48_code
def yL_writePlaces : MethodName := ⟨RL, "writePlaces", "(LBannerParade;[J)I"⟩
abbrev cL_textByte : ByteArray := method_49_code
def yL_textByte : MethodName := ⟨RL, "textByte", "(LBannerParade;I[J)I"⟩
abbrev cL_tick : ByteArray := method_50_code
def yL_tick : MethodName := ⟨RL, "tick", "(LBannerParade;I[J)I"⟩
abbrev cL_swap : ByteArray := method_51_code
def yL_swap : MethodName := ⟨RL, "swap", "(LBannerParade;I[J)I"⟩
abbrev cL_drop : ByteArray := method_52_code
def yL_drop : MethodName := ⟨RL, "drop", "(LBannerParade;I[J)I"⟩
abbrev cL_pick : ByteArray := method_53_code
def yL_pick : MethodName := ⟨RL, "pick", "(LBannerParade;I[J)I"⟩
abbrev cL_strengthen : ByteArray := method_54_code
def yL_strengthen : MethodName := ⟨RL, "strengthen", "(LBannerParade;II[J)I"⟩
abbrev cL_rest : ByteArray := method_55_code
def yL_rest : MethodName := ⟨RL, "rest", "(LBannerParade;I[J)I"⟩
abbrev cL_setStep : ByteArray := method_56_code
def yL_setStep : MethodName := ⟨RL, "setStep", "(LBannerParade;II[J)I"⟩
abbrev cL_addPlan : ByteArray := method_57_code
def yL_addPlan : MethodName := ⟨RL, "addPlan", "(LBannerParade;II[J)I"⟩
abbrev cL_set : ByteArray := method_58_code
def yL_set : MethodName := ⟨RL, "set", "(LBannerParade;II[J)I"⟩
abbrev cL_undo : ByteArray := method_59_code
def yL_undo : MethodName := ⟨RL, "undo", "(LBannerParade;[J)I"⟩
abbrev cL_save : ByteArray := method_60_code
def yL_save : MethodName := ⟨RL, "save", "(LBannerParade;I[J)I"⟩
abbrev cL_restore : ByteArray := method_61_code
def yL_restore : MethodName := ⟨RL, "restore", "(LBannerParade;I[J)I"⟩
abbrev cL_law : ByteArray := code
def yL_law : MethodName := ⟨RL, "law", "([I)Z"⟩
abbrev vwCl : List vw_C := [(RX0, TX0, 2), (RX1, TX1, 4), (RX2, TX2, 5), (RX3, TX3, 5), (RX4, TX4, 4), (RX5, TX5, 4), (RX6, TX6, 5), (RX7, TX7, 9), (RX8, TX8, 9), (RX9, TX9, 7), (RX10, TX10, 8), (RX11, TX11, 22)]
def xown : List String := ["BannerParade$Bytes", "BannerParade$Ground", "BannerParade$Memory", "BannerParade$Parser", "BannerParade$Plans", "BannerParade$Reading", "BannerParade$Route", "BannerParade$Row", "BannerParade$State", "BannerParade$Tokens", "BannerParade", "BannerParadeModel", "BannerParadeLaw", "java/lang/Integer", "java/lang/Math", "java/lang/Float", "java/lang/Double", "java/lang/String", "java/lang/StringLatin1", "jdk/internal/util/Preconditions"]
def xR0 : Nat × MethodName × ByteArray × Nat × Option FieldType × List (Nat × Nat × Nat × Nat) × List Nat := (0, yX0_init, cX0_init, 1, none, [], [0])
def xR1 : Nat × MethodName × ByteArray × Nat × Option FieldType × List (Nat × Nat × Nat × Nat) × List Nat := (0, yX0_addByte, cX0_addByte, 2, none, [], [0, 12, 32])
def xR2 : Nat × MethodName × ByteArray × Nat × Option FieldType × List (Nat × Nat × Nat × Nat) × List Nat := (0, yX0_addNumber, cX0_addNumber, 6, none, [], [0, 4, 10, 23, 28, 34, 47, 65, 66, 72, 81, 106])
def xR3 : Nat × MethodName × ByteArray × Nat × Option FieldType × List (Nat × Nat × Nat × Nat) × List Nat := (1, yX1_init, cX1_init, 1, none, [], [0])
def xR4 : Nat × MethodName × ByteArray × Nat × Option FieldType × List (Nat × Nat × Nat × Nat) × List Nat := (1, yX1_copyFrom, cX1_copyFrom, 2, none, [], [0])
def xR5 : Nat × MethodName × ByteArray × Nat × Option FieldType × List (Nat × Nat × Nat × Nat) × List Nat := (1, yX1_lay, cX1_lay, 4, none, [], [0, 9, 10])
def xR6 : Nat × MethodName × ByteArray × Nat × Option FieldType × List (Nat × Nat × Nat × Nat) × List Nat := (1, yX1_removeAt, cX1_removeAt, 3, none, [], [0, 4, 12, 13, 15, 25, 73])
def xR7 : Nat × MethodName × ByteArray × Nat × Option FieldType × List (Nat × Nat × Nat × Nat) × List Nat := (1, yX1_between, cX1_between, 5, some .int, [], [0, 5, 14, 25, 36, 39, 45])
def xR8 : Nat × MethodName × ByteArray × Nat × Option FieldType × List (Nat × Nat × Nat × Nat) × List Nat := (1, yX1_bestBetween, cX1_bestBetween, 6, some .int, [], [0, 5, 14, 25, 36, 40, 41, 48, 53, 69, 72, 78])
def xR9 : Nat × MethodName × ByteArray × Nat × Option FieldType × List (Nat × Nat × Nat × Nat) × List Nat := (1, yX1_withLetter, cX1_withLetter, 4, some .int, [], [0, 4, 12, 22, 25, 31])
def xR10 : Nat × MethodName × ByteArray × Nat × Option FieldType × List (Nat × Nat × Nat × Nat) × List Nat := (2, yX2_init, cX2_init, 2, none, [], [0, 40, 49, 68, 70, 79, 98])
def xR11 : Nat × MethodName × ByteArray × Nat × Option FieldType × List (Nat × Nat × Nat × Nat) × List Nat := (2, yX2_forgetChanges, cX2_forgetChanges, 1, none, [], [0])
def xR12 : Nat × MethodName × ByteArray × Nat × Option FieldType × List (Nat × Nat × Nat × Nat) × List Nat := (2, yX2_forgetSlots, cX2_forgetSlots, 2, none, [], [0, 2, 11, 24])
def xR13 : Nat × MethodName × ByteArray × Nat × Option FieldType × List (Nat × Nat × Nat × Nat) × List Nat := (2, yX2_remember, cX2_remember, 2, none, [], [0, 30, 43, 56])
def xR14 : Nat × MethodName × ByteArray × Nat × Option FieldType × List (Nat × Nat × Nat × Nat) × List Nat := (2, yX2_takeBack, cX2_takeBack, 2, none, [], [0, 7, 38])
def xR15 : Nat × MethodName × ByteArray × Nat × Option FieldType × List (Nat × Nat × Nat × Nat) × List Nat := (2, yX2_fillSlot, cX2_fillSlot, 3, none, [], [0])
def xR16 : Nat × MethodName × ByteArray × Nat × Option FieldType × List (Nat × Nat × Nat × Nat) × List Nat := (2, yX2_readSlot, cX2_readSlot, 3, none, [], [0])
def xR17 : Nat × MethodName × ByteArray × Nat × Option FieldType × List (Nat × Nat × Nat × Nat) × List Nat := (2, yX2_copyState, cX2_copyState, 2, none, [], [0, 4, 8, 13])
def xR18 : Nat × MethodName × ByteArray × Nat × Option FieldType × List (Nat × Nat × Nat × Nat) × List Nat := (3, yX3_init, cX3_init, 1, none, [], [0])
def xR19 : Nat × MethodName × ByteArray × Nat × Option FieldType × List (Nat × Nat × Nat × Nat) × List Nat := (3, yX3_parseText, cX3_parseText, 3, some .boolean, [], [0, 40, 42, 51, 58, 69, 76, 78, 91, 101, 109, 113, 114])
def xR20 : Nat × MethodName × ByteArray × Nat × Option FieldType × List (Nat × Nat × Nat × Nat) × List Nat := (3, yX3_refuse, cX3_refuse, 2, some .boolean, [], [0])
def xR21 : Nat × MethodName × ByteArray × Nat × Option FieldType × List (Nat × Nat × Nat × Nat) × List Nat := (3, yX3_parseHead, cX3_parseHead, 2, some .boolean, [], [0, 19, 25, 27, 33, 50, 52, 74])
def xR22 : Nat × MethodName × ByteArray × Nat × Option FieldType × List (Nat × Nat × Nat × Nat) × List Nat := (3, yX3_parseLine, cX3_parseLine, 1, some .boolean, [], [0, 19, 34, 41, 46, 47, 59, 71, 78, 83, 84, 96, 111, 118, 123, 124])
def xR23 : Nat × MethodName × ByteArray × Nat × Option FieldType × List (Nat × Nat × Nat × Nat) × List Nat := (3, yX3_parseBearer, cX3_parseBearer, 3, some .boolean, [], [0, 18, 24, 47, 49, 67, 69])
def xR24 : Nat × MethodName × ByteArray × Nat × Option FieldType × List (Nat × Nat × Nat × Nat) × List Nat := (3, yX3_parseStand, cX3_parseStand, 4, some .boolean, [], [0, 21, 33, 39, 50, 52, 78, 84, 92, 96, 97, 103, 114, 135])
def xR25 : Nat × MethodName × ByteArray × Nat × Option FieldType × List (Nat × Nat × Nat × Nat) × List Nat := (3, yX3_parsePlan, cX3_parsePlan, 2, some .boolean, [], [0, 11, 13, 41, 43])
def xR26 : Nat × MethodName × ByteArray × Nat × Option FieldType × List (Nat × Nat × Nat × Nat) × List Nat := (3, yX3_parseNumber, cX3_parseNumber, 3, some .boolean, [], [0, 18, 24, 35, 46, 52])
def xR27 : Nat × MethodName × ByteArray × Nat × Option FieldType × List (Nat × Nat × Nat × Nat) × List Nat := (4, yX4_init, cX4_init, 1, none, [], [0])
def xR28 : Nat × MethodName × ByteArray × Nat × Option FieldType × List (Nat × Nat × Nat × Nat) × List Nat := (4, yX4_copyFrom, cX4_copyFrom, 2, none, [], [0])
def xR29 : Nat × MethodName × ByteArray × Nat × Option FieldType × List (Nat × Nat × Nat × Nat) × List Nat := (4, yX4_add, cX4_add, 3, none, [], [0, 9, 10])
def xR30 : Nat × MethodName × ByteArray × Nat × Option FieldType × List (Nat × Nat × Nat × Nat) × List Nat := (4, yX4_withOutcome, cX4_withOutcome, 4, some .int, [], [0, 4, 12, 22, 25, 31])
def xR31 : Nat × MethodName × ByteArray × Nat × Option FieldType × List (Nat × Nat × Nat × Nat) × List Nat := (4, yX4_soonest, cX4_soonest, 3, some .int, [], [0, 4, 12, 21, 26, 41, 43, 49])
def xR32 : Nat × MethodName × ByteArray × Nat × Option FieldType × List (Nat × Nat × Nat × Nat) × List Nat := (5, yX5_init, cX5_init, 1, none, [], [0])
def xR33 : Nat × MethodName × ByteArray × Nat × Option FieldType × List (Nat × Nat × Nat × Nat) × List Nat := (5, yX5_read, cX5_read, 7, none, [], [0, 19, 29, 39, 52, 54, 71, 85, 91])
def xR34 : Nat × MethodName × ByteArray × Nat × Option FieldType × List (Nat × Nat × Nat × Nat) × List Nat := (5, yX5_addLetter, cX5_addLetter, 4, none, [], [0, 12, 26, 27, 34, 64, 85])
def xR35 : Nat × MethodName × ByteArray × Nat × Option FieldType × List (Nat × Nat × Nat × Nat) × List Nat := (5, yX5_byteAt, cX5_byteAt, 2, some .int, [], [0, 4, 12, 21, 22])
def xR36 : Nat × MethodName × ByteArray × Nat × Option FieldType × List (Nat × Nat × Nat × Nat) × List Nat := (5, yX5_bearerOfLetter, cX5_bearerOfLetter, 2, some .int, [], [0, 4, 12, 21, 22])
def xR37 : Nat × MethodName × ByteArray × Nat × Option FieldType × List (Nat × Nat × Nat × Nat) × List Nat := (5, yX5_alike, cX5_alike, 5, some .int, [], [0, 5, 14, 25, 42, 45, 51])
def xR38 : Nat × MethodName × ByteArray × Nat × Option FieldType × List (Nat × Nat × Nat × Nat) × List Nat := (5, yX5_alikeAtStart, cX5_alikeAtStart, 5, some .int, [], [0, 17, 23, 40, 43, 49])
def xR39 : Nat × MethodName × ByteArray × Nat × Option FieldType × List (Nat × Nat × Nat × Nat) × List Nat := (5, yX5_isWord, cX5_isWord, 3, some .boolean, [], [0, 13, 26, 30, 31])
def xR40 : Nat × MethodName × ByteArray × Nat × Option FieldType × List (Nat × Nat × Nat × Nat) × List Nat := (5, yX5_shareOfWord, cX5_shareOfWord, 4, some .float, [], [0, 18, 31, 32])
def xR41 : Nat × MethodName × ByteArray × Nat × Option FieldType × List (Nat × Nat × Nat × Nat) × List Nat := (6, yX6_init, cX6_init, 1, none, [], [0])
def xR42 : Nat × MethodName × ByteArray × Nat × Option FieldType × List (Nat × Nat × Nat × Nat) × List Nat := (6, yX6_copyFrom, cX6_copyFrom, 2, none, [], [0])
def xR43 : Nat × MethodName × ByteArray × Nat × Option FieldType × List (Nat × Nat × Nat × Nat) × List Nat := (6, yX6_add, cX6_add, 3, none, [], [0, 9, 10])
def xR44 : Nat × MethodName × ByteArray × Nat × Option FieldType × List (Nat × Nat × Nat × Nat) × List Nat := (6, yX6_lengthenLastWord, cX6_lengthenLastWord, 3, none, [], [0, 11, 22, 23])
def xR45 : Nat × MethodName × ByteArray × Nat × Option FieldType × List (Nat × Nat × Nat × Nat) × List Nat := (6, yX6_byteOfWord, cX6_byteOfWord, 3, some .int, [], [0, 4, 14, 28, 29])
def xR46 : Nat × MethodName × ByteArray × Nat × Option FieldType × List (Nat × Nat × Nat × Nat) × List Nat := (6, yX6_lettersInWord, cX6_lettersInWord, 5, some .int, [], [0, 5, 16, 30, 33, 39])
def xR47 : Nat × MethodName × ByteArray × Nat × Option FieldType × List (Nat × Nat × Nat × Nat) × List Nat := (7, yX7_init, cX7_init, 1, none, [], [0])
def xR48 : Nat × MethodName × ByteArray × Nat × Option FieldType × List (Nat × Nat × Nat × Nat) × List Nat := (7, yX7_copyFrom, cX7_copyFrom, 2, none, [], [0])
def xR49 : Nat × MethodName × ByteArray × Nat × Option FieldType × List (Nat × Nat × Nat × Nat) × List Nat := (7, yX7_join, cX7_join, 5, none, [], [0, 9, 10])
def xR50 : Nat × MethodName × ByteArray × Nat × Option FieldType × List (Nat × Nat × Nat × Nat) × List Nat := (7, yX7_strideOf, cX7_strideOf, 2, some .int, [], [0])
def xR51 : Nat × MethodName × ByteArray × Nat × Option FieldType × List (Nat × Nat × Nat × Nat) × List Nat := (7, yX7_distanceAhead, cX7_distanceAhead, 2, some .int, [], [0, 4, 22, 23])
def xR52 : Nat × MethodName × ByteArray × Nat × Option FieldType × List (Nat × Nat × Nat × Nat) × List Nat := (7, yX7_addStrength, cX7_addStrength, 3, none, [], [0])
def xR53 : Nat × MethodName × ByteArray × Nat × Option FieldType × List (Nat × Nat × Nat × Nat) × List Nat := (7, yX7_exchangeBanners, cX7_exchangeBanners, 3, none, [], [0, 4, 14, 15])
def xR54 : Nat × MethodName × ByteArray × Nat × Option FieldType × List (Nat × Nat × Nat × Nat) × List Nat := (7, yX7_march, cX7_march, 5, none, [], [0, 2, 10, 28, 45, 68, 101, 107, 113])
def xR55 : Nat × MethodName × ByteArray × Nat × Option FieldType × List (Nat × Nat × Nat × Nat) × List Nat := (7, yX7_carriers, cX7_carriers, 3, some .int, [], [0, 4, 12, 21, 24, 30])
def xR56 : Nat × MethodName × ByteArray × Nat × Option FieldType × List (Nat × Nat × Nat × Nat) × List Nat := (7, yX7_carriersOf, cX7_carriersOf, 4, some .int, [], [0, 4, 12, 22, 25, 31])
def xR57 : Nat × MethodName × ByteArray × Nat × Option FieldType × List (Nat × Nat × Nat × Nat) × List Nat := (7, yX7_carriersOfOwnLetter, cX7_carriersOfOwnLetter, 3, some .int, [], [0, 4, 12, 27, 30, 36])
def xR58 : Nat × MethodName × ByteArray × Nat × Option FieldType × List (Nat × Nat × Nat × Nat) × List Nat := (7, yX7_withinSpace, cX7_withinSpace, 4, some .int, [], [0, 4, 12, 21, 24, 30])
def xR59 : Nat × MethodName × ByteArray × Nat × Option FieldType × List (Nat × Nat × Nat × Nat) × List Nat := (7, yX7_strideSum, cX7_strideSum, 3, some .int, [], [0, 4, 12, 26])
def xR60 : Nat × MethodName × ByteArray × Nat × Option FieldType × List (Nat × Nat × Nat × Nat) × List Nat := (7, yX7_strengthSum, cX7_strengthSum, 3, some .int, [], [0, 4, 12, 27])
def xR61 : Nat × MethodName × ByteArray × Nat × Option FieldType × List (Nat × Nat × Nat × Nat) × List Nat := (7, yX7_meanOfStrength, cX7_meanOfStrength, 1, some .double, [], [0, 7, 21, 22])
def xR62 : Nat × MethodName × ByteArray × Nat × Option FieldType × List (Nat × Nat × Nat × Nat) × List Nat := (7, yX7_upToStrength, cX7_upToStrength, 4, some .int, [], [0, 4, 12, 22, 28, 34])
def xR63 : Nat × MethodName × ByteArray × Nat × Option FieldType × List (Nat × Nat × Nat × Nat) × List Nat := (7, yX7_belowStrength, cX7_belowStrength, 4, some .int, [], [0, 4, 12, 22, 25, 31])
def xR64 : Nat × MethodName × ByteArray × Nat × Option FieldType × List (Nat × Nat × Nat × Nat) × List Nat := (7, yX7_beyond, cX7_beyond, 4, some .int, [], [0, 4, 12, 22, 25, 31])
def xR65 : Nat × MethodName × ByteArray × Nat × Option FieldType × List (Nat × Nat × Nat × Nat) × List Nat := (7, yX7_shortOf, cX7_shortOf, 4, some .int, [], [0, 4, 12, 22, 25, 31])
def xR66 : Nat × MethodName × ByteArray × Nat × Option FieldType × List (Nat × Nat × Nat × Nat) × List Nat := (7, yX7_leastDifference, cX7_leastDifference, 5, some .int, [], [0, 4, 12, 30, 36, 39, 45])
def xR67 : Nat × MethodName × ByteArray × Nat × Option FieldType × List (Nat × Nat × Nat × Nat) × List Nat := (8, yX8_init, cX8_init, 1, none, [], [0])
def xR68 : Nat × MethodName × ByteArray × Nat × Option FieldType × List (Nat × Nat × Nat × Nat) × List Nat := (8, yX8_copyFrom, cX8_copyFrom, 2, none, [], [0])
def xR69 : Nat × MethodName × ByteArray × Nat × Option FieldType × List (Nat × Nat × Nat × Nat) × List Nat := (8, yX8_clear, cX8_clear, 2, none, [], [0, 46, 55, 68])
def xR70 : Nat × MethodName × ByteArray × Nat × Option FieldType × List (Nat × Nat × Nat × Nat) × List Nat := (8, yX8_passTick, cX8_passTick, 1, none, [], [0])
def xR71 : Nat × MethodName × ByteArray × Nat × Option FieldType × List (Nat × Nat × Nat × Nat) × List Nat := (8, yX8_doPlans, cX8_doPlans, 3, none, [], [0, 2, 13, 29, 55, 59, 60, 65, 78, 84])
def xR72 : Nat × MethodName × ByteArray × Nat × Option FieldType × List (Nat × Nat × Nat × Nat) × List Nat := (8, yX8_dropOfTheWeak, cX8_dropOfTheWeak, 2, none, [], [0, 2, 13, 25, 37, 42, 48])
def xR73 : Nat × MethodName × ByteArray × Nat × Option FieldType × List (Nat × Nat × Nat × Nat) × List Nat := (8, yX8_liftOnTheWay, cX8_liftOnTheWay, 2, none, [], [0, 2, 13, 23, 31, 61, 67])
def xR74 : Nat × MethodName × ByteArray × Nat × Option FieldType × List (Nat × Nat × Nat × Nat) × List Nat := (8, yX8_maySwap, cX8_maySwap, 2, some .boolean, [], [0, 4, 17, 36, 49, 64, 68, 69])
def xR75 : Nat × MethodName × ByteArray × Nat × Option FieldType × List (Nat × Nat × Nat × Nat) × List Nat := (8, yX8_swapBanners, cX8_swapBanners, 2, none, [], [0])
def xR76 : Nat × MethodName × ByteArray × Nat × Option FieldType × List (Nat × Nat × Nat × Nat) × List Nat := (8, yX8_dropBanner, cX8_dropBanner, 2, none, [], [0])
def xR77 : Nat × MethodName × ByteArray × Nat × Option FieldType × List (Nat × Nat × Nat × Nat) × List Nat := (8, yX8_mayLift, cX8_mayLift, 2, some .boolean, [], [0, 12, 30, 34, 35])
def xR78 : Nat × MethodName × ByteArray × Nat × Option FieldType × List (Nat × Nat × Nat × Nat) × List Nat := (8, yX8_liftBanner, cX8_liftBanner, 3, none, [], [0, 4, 15, 16])
def xR79 : Nat × MethodName × ByteArray × Nat × Option FieldType × List (Nat × Nat × Nat × Nat) × List Nat := (8, yX8_isInSight, cX8_isInSight, 3, some .boolean, [], [0, 12, 35, 39, 40])
def xR80 : Nat × MethodName × ByteArray × Nat × Option FieldType × List (Nat × Nat × Nat × Nat) × List Nat := (9, yX9_init, cX9_init, 1, none, [], [0])
def xR81 : Nat × MethodName × ByteArray × Nat × Option FieldType × List (Nat × Nat × Nat × Nat) × List Nat := (9, yX9_putTwenty, cX9_putTwenty, 6, some .int, [], [0, 13, 15])
def xR82 : Nat × MethodName × ByteArray × Nat × Option FieldType × List (Nat × Nat × Nat × Nat) × List Nat := (9, yX9_putFour, cX9_putFour, 3, none, [], [0, 3, 7, 19, 51])
def xR83 : Nat × MethodName × ByteArray × Nat × Option FieldType × List (Nat × Nat × Nat × Nat) × List Nat := (9, yX9_begin, cX9_begin, 2, none, [], [0])
def xR84 : Nat × MethodName × ByteArray × Nat × Option FieldType × List (Nat × Nat × Nat × Nat) × List Nat := (9, yX9_readToken, cX9_readToken, 1, none, [], [0, 11, 25, 38, 57, 65, 79, 93, 100, 114, 128, 135, 150, 154, 155, 168])
def xR85 : Nat × MethodName × ByteArray × Nat × Option FieldType × List (Nat × Nat × Nat × Nat) × List Nat := (9, yX9_readWord, cX9_readWord, 1, none, [], [0, 11, 25, 39, 52, 67, 71, 72])
def xR86 : Nat × MethodName × ByteArray × Nat × Option FieldType × List (Nat × Nat × Nat × Nat) × List Nat := (9, yX9_readDigits, cX9_readDigits, 1, none, [], [0, 5, 16, 30, 44, 81, 95, 99, 100])
def xR87 : Nat × MethodName × ByteArray × Nat × Option FieldType × List (Nat × Nat × Nat × Nat) × List Nat := (9, yX9_wordLength, cX9_wordLength, 1, some .int, [], [0, 8, 20, 21])
def xR88 : Nat × MethodName × ByteArray × Nat × Option FieldType × List (Nat × Nat × Nat × Nat) × List Nat := (9, yX9_byteOfToken, cX9_byteOfToken, 3, some .int, [], [0, 11, 15, 23, 32, 41, 42])
def xR89 : Nat × MethodName × ByteArray × Nat × Option FieldType × List (Nat × Nat × Nat × Nat) × List Nat := (9, yX9_isWord, cX9_isWord, 3, some .boolean, [], [0, 11, 13, 15, 23, 36, 38, 44])
def xR90 : Nat × MethodName × ByteArray × Nat × Option FieldType × List (Nat × Nat × Nat × Nat) × List Nat := (10, yX10_init, cX10_init, 1, none, [], [0])
def xR91 : Nat × MethodName × ByteArray × Nat × Option FieldType × List (Nat × Nat × Nat × Nat) × List Nat := (10, yX10_append, cX10_append, 6, some .int, [], [0])
def xR92 : Nat × MethodName × ByteArray × Nat × Option FieldType × List (Nat × Nat × Nat × Nat) × List Nat := (10, yX10_load, cX10_load, 3, some .int, [], [0, 4, 18, 28])
def xR93 : Nat × MethodName × ByteArray × Nat × Option FieldType × List (Nat × Nat × Nat × Nat) × List Nat := (10, yX10_parseError, cX10_parseError, 1, some .int, [], [0])
def xR94 : Nat × MethodName × ByteArray × Nat × Option FieldType × List (Nat × Nat × Nat × Nat) × List Nat := (10, yX10_errorPosition, cX10_errorPosition, 1, some .int, [], [0])
def xR95 : Nat × MethodName × ByteArray × Nat × Option FieldType × List (Nat × Nat × Nat × Nat) × List Nat := (10, yX10_buffered, cX10_buffered, 1, some .int, [], [0])
def xR96 : Nat × MethodName × ByteArray × Nat × Option FieldType × List (Nat × Nat × Nat × Nat) × List Nat := (10, yX10_count, cX10_count, 2, some .int, [], [0, 92, 103, 111, 122, 130, 141, 152, 160, 172, 180, 188, 196, 208, 223, 234, 254, 265])
def xR97 : Nat × MethodName × ByteArray × Nat × Option FieldType × List (Nat × Nat × Nat × Nat) × List Nat := (10, yX10_setting, cX10_setting, 2, some .int, [], [0])
def xR98 : Nat × MethodName × ByteArray × Nat × Option FieldType × List (Nat × Nat × Nat × Nat) × List Nat := (10, yX10_bearer, cX10_bearer, 4, some .int, [], [0, 88, 95, 102, 109, 116, 123, 129, 135, 142, 149, 155, 169, 180, 205, 209, 210])
def xR99 : Nat × MethodName × ByteArray × Nat × Option FieldType × List (Nat × Nat × Nat × Nat) × List Nat := (10, yX10_stand, cX10_stand, 4, some .int, [], [0, 72, 82, 92, 102, 112, 121, 130, 150, 172])
def xR100 : Nat × MethodName × ByteArray × Nat × Option FieldType × List (Nat × Nat × Nat × Nat) × List Nat := (10, yX10_plan, cX10_plan, 4, some .int, [], [0, 52, 59, 66, 73, 82, 99, 100])
def xR101 : Nat × MethodName × ByteArray × Nat × Option FieldType × List (Nat × Nat × Nat × Nat) × List Nat := (10, yX10_lying, cX10_lying, 4, some .int, [], [0, 52, 59, 66])
def xR102 : Nat × MethodName × ByteArray × Nat × Option FieldType × List (Nat × Nat × Nat × Nat) × List Nat := (10, yX10_wordByte, cX10_wordByte, 3, some .int, [], [0])
def xR103 : Nat × MethodName × ByteArray × Nat × Option FieldType × List (Nat × Nat × Nat × Nat) × List Nat := (10, yX10_readByte, cX10_readByte, 3, some .int, [], [0])
def xR104 : Nat × MethodName × ByteArray × Nat × Option FieldType × List (Nat × Nat × Nat × Nat) × List Nat := (10, yX10_seen, cX10_seen, 2, some .int, [], [0])
def xR105 : Nat × MethodName × ByteArray × Nat × Option FieldType × List (Nat × Nat × Nat × Nat) × List Nat := (10, yX10_matches, cX10_matches, 2, some .int, [], [0])
def xR106 : Nat × MethodName × ByteArray × Nat × Option FieldType × List (Nat × Nat × Nat × Nat) × List Nat := (10, yX10_isRead, cX10_isRead, 2, some .boolean, [], [0])
def xR107 : Nat × MethodName × ByteArray × Nat × Option FieldType × List (Nat × Nat × Nat × Nat) × List Nat := (10, yX10_share, cX10_share, 2, some .float, [], [0])
def xR108 : Nat × MethodName × ByteArray × Nat × Option FieldType × List (Nat × Nat × Nat × Nat) × List Nat := (10, yX10_shareBits, cX10_shareBits, 2, some .int, [], [0])
def xR109 : Nat × MethodName × ByteArray × Nat × Option FieldType × List (Nat × Nat × Nat × Nat) × List Nat := (10, yX10_missing, cX10_missing, 4, some .int, [], [0, 13, 19, 53])
def xR110 : Nat × MethodName × ByteArray × Nat × Option FieldType × List (Nat × Nat × Nat × Nat) × List Nat := (10, yX10_seenAt, cX10_seenAt, 3, some .int, [], [0])
def xR111 : Nat × MethodName × ByteArray × Nat × Option FieldType × List (Nat × Nat × Nat × Nat) × List Nat := (10, yX10_blanks, cX10_blanks, 3, some .int, [], [0])
def xR112 : Nat × MethodName × ByteArray × Nat × Option FieldType × List (Nat × Nat × Nat × Nat) × List Nat := (10, yX10_prefix, cX10_prefix, 2, some .int, [], [0])
def xR113 : Nat × MethodName × ByteArray × Nat × Option FieldType × List (Nat × Nat × Nat × Nat) × List Nat := (10, yX10_holder, cX10_holder, 3, some .int, [], [0, 13, 27, 43, 45, 51])
def xR114 : Nat × MethodName × ByteArray × Nat × Option FieldType × List (Nat × Nat × Nat × Nat) × List Nat := (10, yX10_copies, cX10_copies, 2, some .int, [], [0])
def xR115 : Nat × MethodName × ByteArray × Nat × Option FieldType × List (Nat × Nat × Nat × Nat) × List Nat := (10, yX10_tired, cX10_tired, 2, some .int, [], [0])
def xR116 : Nat × MethodName × ByteArray × Nat × Option FieldType × List (Nat × Nat × Nat × Nat) × List Nat := (10, yX10_swappers, cX10_swappers, 3, some .int, [], [0, 8, 22, 33, 39, 45])
def xR117 : Nat × MethodName × ByteArray × Nat × Option FieldType × List (Nat × Nat × Nat × Nat) × List Nat := (10, yX10_nextPlan, cX10_nextPlan, 1, some .int, [], [0])
def xR118 : Nat × MethodName × ByteArray × Nat × Option FieldType × List (Nat × Nat × Nat × Nat) × List Nat := (10, yX10_lyingFrom, cX10_lyingFrom, 3, some .int, [], [0])
def xR119 : Nat × MethodName × ByteArray × Nat × Option FieldType × List (Nat × Nat × Nat × Nat) × List Nat := (10, yX10_bestStand, cX10_bestStand, 5, some .int, [], [0, 12, 23, 45, 50, 56])
def xR120 : Nat × MethodName × ByteArray × Nat × Option FieldType × List (Nat × Nat × Nat × Nat) × List Nat := (10, yX10_readStands, cX10_readStands, 1, some .int, [], [0])
def xR121 : Nat × MethodName × ByteArray × Nat × Option FieldType × List (Nat × Nat × Nat × Nat) × List Nat := (10, yX10_weakest, cX10_weakest, 3, some .int, [], [0, 8, 22, 27, 54, 56, 62])
def xR122 : Nat × MethodName × ByteArray × Nat × Option FieldType × List (Nat × Nat × Nat × Nat) × List Nat := (10, yX10_widest, cX10_widest, 3, some .int, [], [0, 8, 22, 27, 52, 54, 60])
def xR123 : Nat × MethodName × ByteArray × Nat × Option FieldType × List (Nat × Nat × Nat × Nat) × List Nat := (10, yX10_stretch, cX10_stretch, 2, some .int, [], [0, 20, 24, 42])
def xR124 : Nat × MethodName × ByteArray × Nat × Option FieldType × List (Nat × Nat × Nat × Nat) × List Nat := (10, yX10_meanStrength, cX10_meanStrength, 1, some .double, [], [0])
def xR125 : Nat × MethodName × ByteArray × Nat × Option FieldType × List (Nat × Nat × Nat × Nat) × List Nat := (10, yX10_strengthBits, cX10_strengthBits, 1, some .long, [], [0])
def xR126 : Nat × MethodName × ByteArray × Nat × Option FieldType × List (Nat × Nat × Nat × Nat) × List Nat := (10, yX10_readsIn, cX10_readsIn, 3, some .int, [], [0, 22, 29, 45, 47, 60, 76, 82, 83])
def xR127 : Nat × MethodName × ByteArray × Nat × Option FieldType × List (Nat × Nat × Nat × Nat) × List Nat := (10, yX10_passedIn, cX10_passedIn, 4, some .int, [], [0, 42, 49, 73, 75, 88, 112, 118, 119])
def xR128 : Nat × MethodName × ByteArray × Nat × Option FieldType × List (Nat × Nat × Nat × Nat) × List Nat := (10, yX10_placeIn, cX10_placeIn, 3, some .int, [], [0])
def xR129 : Nat × MethodName × ByteArray × Nat × Option FieldType × List (Nat × Nat × Nat × Nat) × List Nat := (10, yX10_strengthIn, cX10_strengthIn, 3, some .int, [], [0])
def xR130 : Nat × MethodName × ByteArray × Nat × Option FieldType × List (Nat × Nat × Nat × Nat) × List Nat := (10, yX10_bannerIn, cX10_bannerIn, 3, some .int, [], [0])
def xR131 : Nat × MethodName × ByteArray × Nat × Option FieldType × List (Nat × Nat × Nat × Nat) × List Nat := (10, yX10_dropsIn, cX10_dropsIn, 2, some .int, [], [0])
def xR132 : Nat × MethodName × ByteArray × Nat × Option FieldType × List (Nat × Nat × Nat × Nat) × List Nat := (10, yX10_firstDrop, cX10_firstDrop, 1, some .int, [], [0])
def xR133 : Nat × MethodName × ByteArray × Nat × Option FieldType × List (Nat × Nat × Nat × Nat) × List Nat := (10, yX10_shareIn, cX10_shareIn, 3, some .float, [], [0])
def xR134 : Nat × MethodName × ByteArray × Nat × Option FieldType × List (Nat × Nat × Nat × Nat) × List Nat := (10, yX10_bestShare, cX10_bestShare, 6, some .float, [], [0, 45, 51, 80, 85, 86, 93])
def xR135 : Nat × MethodName × ByteArray × Nat × Option FieldType × List (Nat × Nat × Nat × Nat) × List Nat := (10, yX10_bestSwap, cX10_bestSwap, 6, some .int, [], [0, 39, 56, 102, 108, 114])
def xR136 : Nat × MethodName × ByteArray × Nat × Option FieldType × List (Nat × Nat × Nat × Nat) × List Nat := (10, yX10_closedIn, cX10_closedIn, 4, some .int, [], [0, 13, 15, 38, 45, 60, 62, 75, 90, 96, 97])
def xR137 : Nat × MethodName × ByteArray × Nat × Option FieldType × List (Nat × Nat × Nat × Nat) × List Nat := (10, yX10_leastRest, cX10_leastRest, 2, some .int, [], [0, 6, 12, 43, 45, 51])
def xR138 : Nat × MethodName × ByteArray × Nat × Option FieldType × List (Nat × Nat × Nat × Nat) × List Nat := (10, yX10_writeStand, cX10_writeStand, 4, some .int, [], [0, 25, 33, 51])
def xR139 : Nat × MethodName × ByteArray × Nat × Option FieldType × List (Nat × Nat × Nat × Nat) × List Nat := (10, yX10_writeRow, cX10_writeRow, 3, some .int, [], [0, 14, 28, 49, 54, 58, 67])
def xR140 : Nat × MethodName × ByteArray × Nat × Option FieldType × List (Nat × Nat × Nat × Nat) × List Nat := (10, yX10_writePlaces, cX10_writePlaces, 2, some .int, [], [0, 14, 28, 32, 41, 66])
def xR141 : Nat × MethodName × ByteArray × Nat × Option FieldType × List (Nat × Nat × Nat × Nat) × List Nat := (10, yX10_textByte, cX10_textByte, 2, some .int, [], [0])
def xR142 : Nat × MethodName × ByteArray × Nat × Option FieldType × List (Nat × Nat × Nat × Nat) × List Nat := (10, yX10_tick, cX10_tick, 4, some .int, [], [0, 26, 30, 31, 55, 60, 77])
def xR143 : Nat × MethodName × ByteArray × Nat × Option FieldType × List (Nat × Nat × Nat × Nat) × List Nat := (10, yX10_swap, cX10_swap, 2, some .int, [], [0])
def xR144 : Nat × MethodName × ByteArray × Nat × Option FieldType × List (Nat × Nat × Nat × Nat) × List Nat := (10, yX10_drop, cX10_drop, 2, some .int, [], [0, 24, 28, 29])
def xR145 : Nat × MethodName × ByteArray × Nat × Option FieldType × List (Nat × Nat × Nat × Nat) × List Nat := (10, yX10_pick, cX10_pick, 3, some .int, [], [0, 55, 60, 64, 65])
def xR146 : Nat × MethodName × ByteArray × Nat × Option FieldType × List (Nat × Nat × Nat × Nat) × List Nat := (10, yX10_strengthen, cX10_strengthen, 3, some .int, [], [0])
def xR147 : Nat × MethodName × ByteArray × Nat × Option FieldType × List (Nat × Nat × Nat × Nat) × List Nat := (10, yX10_rest, cX10_rest, 3, some .int, [], [0, 24, 38, 56])
def xR148 : Nat × MethodName × ByteArray × Nat × Option FieldType × List (Nat × Nat × Nat × Nat) × List Nat := (10, yX10_setStep, cX10_setStep, 4, some .int, [], [0])
def xR149 : Nat × MethodName × ByteArray × Nat × Option FieldType × List (Nat × Nat × Nat × Nat) × List Nat := (10, yX10_addPlan, cX10_addPlan, 3, some .int, [], [0, 41, 56, 60, 61])
def xR150 : Nat × MethodName × ByteArray × Nat × Option FieldType × List (Nat × Nat × Nat × Nat) × List Nat := (10, yX10_set, cX10_set, 4, some .int, [], [0])
def xR151 : Nat × MethodName × ByteArray × Nat × Option FieldType × List (Nat × Nat × Nat × Nat) × List Nat := (10, yX10_undo, cX10_undo, 1, some .int, [], [0, 10, 21])
def xR152 : Nat × MethodName × ByteArray × Nat × Option FieldType × List (Nat × Nat × Nat × Nat) × List Nat := (10, yX10_undoable, cX10_undoable, 1, some .int, [], [0])
def xR153 : Nat × MethodName × ByteArray × Nat × Option FieldType × List (Nat × Nat × Nat × Nat) × List Nat := (10, yX10_save, cX10_save, 2, some .int, [], [0])
def xR154 : Nat × MethodName × ByteArray × Nat × Option FieldType × List (Nat × Nat × Nat × Nat) × List Nat := (10, yX10_restore, cX10_restore, 2, some .int, [], [0, 17, 28])
def xR155 : Nat × MethodName × ByteArray × Nat × Option FieldType × List (Nat × Nat × Nat × Nat) × List Nat := (10, yX10_needLoaded, cX10_needLoaded, 1, none, [], [0, 7, 18])
def xR156 : Nat × MethodName × ByteArray × Nat × Option FieldType × List (Nat × Nat × Nat × Nat) × List Nat := (10, yX10_needBearer, cX10_needBearer, 2, none, [], [0])
def xR157 : Nat × MethodName × ByteArray × Nat × Option FieldType × List (Nat × Nat × Nat × Nat) × List Nat := (10, yX10_needStand, cX10_needStand, 2, none, [], [0])
def xR158 : Nat × MethodName × ByteArray × Nat × Option FieldType × List (Nat × Nat × Nat × Nat) × List Nat := (10, yX10_needIndex, cX10_needIndex, 2, none, [], [0, 4, 9, 20])
def xR159 : Nat × MethodName × ByteArray × Nat × Option FieldType × List (Nat × Nat × Nat × Nat) × List Nat := (10, yX10_needRange, cX10_needRange, 3, none, [], [0, 5, 10, 14, 15])
def xR160 : Nat × MethodName × ByteArray × Nat × Option FieldType × List (Nat × Nat × Nat × Nat) × List Nat := (10, yX10_needArgument, cX10_needArgument, 1, none, [], [0, 4, 15])
def xR161 : Nat × MethodName × ByteArray × Nat × Option FieldType × List (Nat × Nat × Nat × Nat) × List Nat := (10, yX10_readNow, cX10_readNow, 2, some (.object "BannerParade$Reading"), [], [0])
def xR162 : Nat × MethodName × ByteArray × Nat × Option FieldType × List (Nat × Nat × Nat × Nat) × List Nat := (10, yX10_readLater, cX10_readLater, 2, some (.object "BannerParade$Reading"), [], [0])
def xR163 : Nat × MethodName × ByteArray × Nat × Option FieldType × List (Nat × Nat × Nat × Nat) × List Nat := (10, yX10_foresee, cX10_foresee, 3, none, [], [0, 13, 18, 31])
def xR164 : Nat × MethodName × ByteArray × Nat × Option FieldType × List (Nat × Nat × Nat × Nat) × List Nat := (10, yX10_ticksToDrop, cX10_ticksToDrop, 3, some .int, [], [0, 2, 7, 31, 33, 39])
def xR165 : Nat × MethodName × ByteArray × Nat × Option FieldType × List (Nat × Nat × Nat × Nat) × List Nat := (10, yX10_readWords, cX10_readWords, 2, none, [], [0, 2, 13, 26, 42, 58, 64])
def xR166 : Nat × MethodName × ByteArray × Nat × Option FieldType × List (Nat × Nat × Nat × Nat) × List Nat := (10, yX10_standsWithReadWord, cX10_standsWithReadWord, 3, some .int, [], [0, 4, 15, 28, 34, 40])
def xR167 : Nat × MethodName × ByteArray × Nat × Option FieldType × List (Nat × Nat × Nat × Nat) × List Nat := (10, yX10_standsThatSeeAny, cX10_standsThatSeeAny, 3, some .int, [], [0, 4, 15, 23, 26, 32])
def xR168 : Nat × MethodName × ByteArray × Nat × Option FieldType × List (Nat × Nat × Nat × Nat) × List Nat := (10, yX10_standsThatSee, cX10_standsThatSee, 4, some .int, [], [0, 4, 15, 35, 38, 44])
def xR169 : Nat × MethodName × ByteArray × Nat × Option FieldType × List (Nat × Nat × Nat × Nat) × List Nat := (10, yX10_bearersSeenFrom, cX10_bearersSeenFrom, 4, some .int, [], [0, 4, 18, 38, 44, 50])
def xR170 : Nat × MethodName × ByteArray × Nat × Option FieldType × List (Nat × Nat × Nat × Nat) × List Nat := (10, yX10_floatBits, cX10_floatBits, 4, some .int, [], [0, 6, 8, 15, 21, 27, 40])
def xR171 : Nat × MethodName × ByteArray × Nat × Option FieldType × List (Nat × Nat × Nat × Nat) × List Nat := (10, yX10_doubleBits, cX10_doubleBits, 7, some .long, [], [0, 6, 8, 18, 25, 32, 50, 53, 60, 69, 87])
def xR172 : Nat × MethodName × ByteArray × Nat × Option FieldType × List (Nat × Nat × Nat × Nat) × List Nat := (10, yX10_copyNumbers, cX10_copyNumbers, 3, none, [], [0, 2, 8, 14, 26])
def xR173 : Nat × MethodName × ByteArray × Nat × Option FieldType × List (Nat × Nat × Nat × Nat) × List Nat := (11, yX11_init, cX11_init, 1, none, [], [0])
def xR174 : Nat × MethodName × ByteArray × Nat × Option FieldType × List (Nat × Nat × Nat × Nat) × List Nat := (11, yX11_thrown, cX11_thrown, 1, some .int, [], [0])
def xR175 : Nat × MethodName × ByteArray × Nat × Option FieldType × List (Nat × Nat × Nat × Nat) × List Nat := (11, yX11_in, cX11_in, 3, some .boolean, [], [0, 5, 10, 14, 15])
def xR176 : Nat × MethodName × ByteArray × Nat × Option FieldType × List (Nat × Nat × Nat × Nat) × List Nat := (11, yX11_may, cX11_may, 4, some .boolean, [], [0, 5, 9, 13, 17, 21, 25, 26, 36, 40, 41])
def xR177 : Nat × MethodName × ByteArray × Nat × Option FieldType × List (Nat × Nat × Nat × Nat) × List Nat := (11, yX11_mayTwo, cX11_mayTwo, 3, some .boolean, [], [0])
def xR178 : Nat × MethodName × ByteArray × Nat × Option FieldType × List (Nat × Nat × Nat × Nat) × List Nat := (11, yX11_lays, cX11_lays, 5, none, [], [0, 3, 11, 29])
def xR179 : Nat × MethodName × ByteArray × Nat × Option FieldType × List (Nat × Nat × Nat × Nat) × List Nat := (11, yX11_append, cX11_append, 6, some .int, [], [0, 15, 17])
def xR180 : Nat × MethodName × ByteArray × Nat × Option FieldType × List (Nat × Nat × Nat × Nat) × List Nat := (11, yX11_four, cX11_four, 3, none, [], [0, 2, 6, 38])
def xR181 : Nat × MethodName × ByteArray × Nat × Option FieldType × List (Nat × Nat × Nat × Nat) × List Nat := (11, yX11_parseError, cX11_parseError, 1, some .int, [], [0])
def xR182 : Nat × MethodName × ByteArray × Nat × Option FieldType × List (Nat × Nat × Nat × Nat) × List Nat := (11, yX11_errorPosition, cX11_errorPosition, 1, some .int, [], [0])
def xR183 : Nat × MethodName × ByteArray × Nat × Option FieldType × List (Nat × Nat × Nat × Nat) × List Nat := (11, yX11_buffered, cX11_buffered, 1, some .int, [], [0])
def xR184 : Nat × MethodName × ByteArray × Nat × Option FieldType × List (Nat × Nat × Nat × Nat) × List Nat := (11, yX11_isLetter, cX11_isLetter, 2, some .boolean, [], [0, 8, 24, 28, 29])
def xR185 : Nat × MethodName × ByteArray × Nat × Option FieldType × List (Nat × Nat × Nat × Nat) × List Nat := (11, yX11_isDigit, cX11_isDigit, 2, some .boolean, [], [0, 8, 24, 28, 29])
def xR186 : Nat × MethodName × ByteArray × Nat × Option FieldType × List (Nat × Nat × Nat × Nat) × List Nat := (11, yX11_next, cX11_next, 1, none, [], [0, 7, 8, 19, 33, 46, 66, 70, 71, 82, 83, 94, 105, 118, 133, 137, 138, 142, 153, 158, 169, 182, 206, 219, 233, 237, 238, 242, 256, 261])
def xR187 : Nat × MethodName × ByteArray × Nat × Option FieldType × List (Nat × Nat × Nat × Nat) × List Nat := (11, yX11_faults, cX11_faults, 2, none, [], [0, 7, 8])
def xR188 : Nat × MethodName × ByteArray × Nat × Option FieldType × List (Nat × Nat × Nat × Nat) × List Nat := (11, yX11_is, cX11_is, 2, some .boolean, [], [0, 7, 15, 19, 20])
def xR189 : Nat × MethodName × ByteArray × Nat × Option FieldType × List (Nat × Nat × Nat × Nat) × List Nat := (11, yX11_isWord, cX11_isWord, 3, some .boolean, [], [0, 8, 24, 26, 28, 36, 55, 57, 63])
def xR190 : Nat × MethodName × ByteArray × Nat × Option FieldType × List (Nat × Nat × Nat × Nat) × List Nat := (11, yX11_takes, cX11_takes, 2, none, [], [0, 8, 13])
def xR191 : Nat × MethodName × ByteArray × Nat × Option FieldType × List (Nat × Nat × Nat × Nat) × List Nat := (11, yX11_number, cX11_number, 4, some .int, [], [0, 8, 16, 28, 33, 49, 53, 54])
def xR192 : Nat × MethodName × ByteArray × Nat × Option FieldType × List (Nat × Nat × Nat × Nat) × List Nat := (11, yX11_lowOf, cX11_lowOf, 1, some .int, [], [0, 4, 9, 14, 18, 19])
def xR193 : Nat × MethodName × ByteArray × Nat × Option FieldType × List (Nat × Nat × Nat × Nat) × List Nat := (11, yX11_highOf, cX11_highOf, 1, some .int, [], [0, 36, 40, 43, 46])
def xR194 : Nat × MethodName × ByteArray × Nat × Option FieldType × List (Nat × Nat × Nat × Nat) × List Nat := (11, yX11_begins, cX11_begins, 3, some .boolean, [], [0, 10, 15, 26, 30, 31])
def xR195 : Nat × MethodName × ByteArray × Nat × Option FieldType × List (Nat × Nat × Nat × Nat) × List Nat := (11, yX11_letterHere, cX11_letterHere, 2, some .int, [], [0, 8, 21, 26, 33, 37, 51])
def xR196 : Nat × MethodName × ByteArray × Nat × Option FieldType × List (Nat × Nat × Nat × Nat) × List Nat := (11, yX11_readsBearer, cX11_readsBearer, 3, none, [], [0, 11, 12])
def xR197 : Nat × MethodName × ByteArray × Nat × Option FieldType × List (Nat × Nat × Nat × Nat) × List Nat := (11, yX11_readsStand, cX11_readsStand, 4, none, [], [0, 11, 12, 31, 40, 45, 56, 60, 61, 93, 98, 105, 106, 126, 134, 159])
def xR198 : Nat × MethodName × ByteArray × Nat × Option FieldType × List (Nat × Nat × Nat × Nat) × List Nat := (11, yX11_readsPlan, cX11_readsPlan, 3, none, [], [0, 11, 12])
def xR199 : Nat × MethodName × ByteArray × Nat × Option FieldType × List (Nat × Nat × Nat × Nat) × List Nat := (11, yX11_laysPlan, cX11_laysPlan, 4, none, [], [0])
def xR200 : Nat × MethodName × ByteArray × Nat × Option FieldType × List (Nat × Nat × Nat × Nat) × List Nat := (11, yX11_reads, cX11_reads, 2, none, [], [0, 12, 18, 42, 50, 63, 70, 79, 86, 95, 102, 110, 118, 123])
def xR201 : Nat × MethodName × ByteArray × Nat × Option FieldType × List (Nat × Nat × Nat × Nat) × List Nat := (11, yX11_load, cX11_load, 3, some .int, [], [0, 18, 20, 60, 67, 80, 91, 111])
def xR202 : Nat × MethodName × ByteArray × Nat × Option FieldType × List (Nat × Nat × Nat × Nat) × List Nat := (11, yX11_of, cX11_of, 3, some .int, [], [0])
def xR203 : Nat × MethodName × ByteArray × Nat × Option FieldType × List (Nat × Nat × Nat × Nat) × List Nat := (11, yX11_put, cX11_put, 4, none, [], [0])
def xR204 : Nat × MethodName × ByteArray × Nat × Option FieldType × List (Nat × Nat × Nat × Nat) × List Nat := (11, yX11_ofStand, cX11_ofStand, 3, some .int, [], [0])
def xR205 : Nat × MethodName × ByteArray × Nat × Option FieldType × List (Nat × Nat × Nat × Nat) × List Nat := (11, yX11_putStand, cX11_putStand, 4, none, [], [0])
def xR206 : Nat × MethodName × ByteArray × Nat × Option FieldType × List (Nat × Nat × Nat × Nat) × List Nat := (11, yX11_ofPlan, cX11_ofPlan, 3, some .int, [], [0])
def xR207 : Nat × MethodName × ByteArray × Nat × Option FieldType × List (Nat × Nat × Nat × Nat) × List Nat := (11, yX11_ofLying, cX11_ofLying, 3, some .int, [], [0])
def xR208 : Nat × MethodName × ByteArray × Nat × Option FieldType × List (Nat × Nat × Nat × Nat) × List Nat := (11, yX11_isBearer, cX11_isBearer, 2, some .boolean, [], [0])
def xR209 : Nat × MethodName × ByteArray × Nat × Option FieldType × List (Nat × Nat × Nat × Nat) × List Nat := (11, yX11_isStand, cX11_isStand, 2, some .boolean, [], [0])
def xR210 : Nat × MethodName × ByteArray × Nat × Option FieldType × List (Nat × Nat × Nat × Nat) × List Nat := (11, yX11_stride, cX11_stride, 2, some .int, [], [0])
def xR211 : Nat × MethodName × ByteArray × Nat × Option FieldType × List (Nat × Nat × Nat × Nat) × List Nat := (11, yX11_distance, cX11_distance, 2, some .int, [], [0])
def xR212 : Nat × MethodName × ByteArray × Nat × Option FieldType × List (Nat × Nat × Nat × Nat) × List Nat := (11, yX11_strengthens, cX11_strengthens, 3, none, [], [0])
def xR213 : Nat × MethodName × ByteArray × Nat × Option FieldType × List (Nat × Nat × Nat × Nat) × List Nat := (11, yX11_drops, cX11_drops, 3, none, [], [0])
def xR214 : Nat × MethodName × ByteArray × Nat × Option FieldType × List (Nat × Nat × Nat × Nat) × List Nat := (11, yX11_picks, cX11_picks, 4, none, [], [0, 31, 48, 68])
def xR215 : Nat × MethodName × ByteArray × Nat × Option FieldType × List (Nat × Nat × Nat × Nat) × List Nat := (11, yX11_lyingIn, cX11_lyingIn, 5, some .int, [], [0, 5, 17, 32, 37, 53, 56, 62])
def xR216 : Nat × MethodName × ByteArray × Nat × Option FieldType × List (Nat × Nat × Nat × Nat) × List Nat := (11, yX11_maySwap, cX11_maySwap, 3, some .boolean, [], [0, 8, 18, 22, 23, 28, 44, 53, 64, 68, 69])
def xR217 : Nat × MethodName × ByteArray × Nat × Option FieldType × List (Nat × Nat × Nat × Nat) × List Nat := (11, yX11_exchanges, cX11_exchanges, 3, none, [], [0])
def xR218 : Nat × MethodName × ByteArray × Nat × Option FieldType × List (Nat × Nat × Nat × Nat) × List Nat := (11, yX11_swaps, cX11_swaps, 2, none, [], [0])
def xR219 : Nat × MethodName × ByteArray × Nat × Option FieldType × List (Nat × Nat × Nat × Nat) × List Nat := (11, yX11_sees, cX11_sees, 3, some .boolean, [], [0, 9, 34, 38, 39])
def xR220 : Nat × MethodName × ByteArray × Nat × Option FieldType × List (Nat × Nat × Nat × Nat) × List Nat := (11, yX11_laysText, cX11_laysText, 6, none, [], [0, 18, 24, 33, 38, 44, 56, 59, 64, 90, 96, 113, 119])
def xR221 : Nat × MethodName × ByteArray × Nat × Option FieldType × List (Nat × Nat × Nat × Nat) × List Nat := (11, yX11_laysByte, cX11_laysByte, 2, none, [], [0])
def xR222 : Nat × MethodName × ByteArray × Nat × Option FieldType × List (Nat × Nat × Nat × Nat) × List Nat := (11, yX11_matching, cX11_matching, 4, some .int, [], [0, 9, 17, 27, 45, 49, 50, 58])
def xR223 : Nat × MethodName × ByteArray × Nat × Option FieldType × List (Nat × Nat × Nat × Nat) × List Nat := (11, yX11_readsWord, cX11_readsWord, 2, some .boolean, [], [0, 14, 27, 31, 32])
def xR224 : Nat × MethodName × ByteArray × Nat × Option FieldType × List (Nat × Nat × Nat × Nat) × List Nat := (11, yX11_shareOf, cX11_shareOf, 3, some .float, [], [0])
def xR225 : Nat × MethodName × ByteArray × Nat × Option FieldType × List (Nat × Nat × Nat × Nat) × List Nat := (11, yX11_plans, cX11_plans, 3, none, [], [0, 2, 13, 29, 38, 41, 56, 69, 80, 97, 101, 102, 103, 109])
def xR226 : Nat × MethodName × ByteArray × Nat × Option FieldType × List (Nat × Nat × Nat × Nat) × List Nat := (11, yX11_moves, cX11_moves, 5, none, [], [0, 26, 46, 51, 55, 56, 63, 70, 77, 87, 93, 110, 114, 115])
def xR227 : Nat × MethodName × ByteArray × Nat × Option FieldType × List (Nat × Nat × Nat × Nat) × List Nat := (11, yX11_lifts, cX11_lifts, 3, none, [], [0, 9, 24, 25, 47, 53])
def xR228 : Nat × MethodName × ByteArray × Nat × Option FieldType × List (Nat × Nat × Nat × Nat) × List Nat := (11, yX11_ticks, cX11_ticks, 2, none, [], [0, 17, 28, 39, 41, 52, 61, 70, 75, 81, 83, 94, 105, 107, 118, 128, 136, 149, 155])
def xR229 : Nat × MethodName × ByteArray × Nat × Option FieldType × List (Nat × Nat × Nat × Nat) × List Nat := (11, yX11_passes, cX11_passes, 3, none, [], [0, 2, 7, 17])
def xR230 : Nat × MethodName × ByteArray × Nat × Option FieldType × List (Nat × Nat × Nat × Nat) × List Nat := (11, yX11_carried, cX11_carried, 3, some .int, [], [0, 4, 15, 25, 29, 30, 38])
def xR231 : Nat × MethodName × ByteArray × Nat × Option FieldType × List (Nat × Nat × Nat × Nat) × List Nat := (11, yX11_readSet, cX11_readSet, 3, some .int, [], [0, 4, 15, 26, 32, 33, 41])
def xR232 : Nat × MethodName × ByteArray × Nat × Option FieldType × List (Nat × Nat × Nat × Nat) × List Nat := (11, yX11_readMany, cX11_readMany, 3, some .int, [], [0, 4, 15, 26, 30, 31, 39])
def xR233 : Nat × MethodName × ByteArray × Nat × Option FieldType × List (Nat × Nat × Nat × Nat) × List Nat := (11, yX11_coming, cX11_coming, 3, some .int, [], [0, 4, 15, 25, 29, 30, 38])
def xR234 : Nat × MethodName × ByteArray × Nat × Option FieldType × List (Nat × Nat × Nat × Nat) × List Nat := (11, yX11_withoutStrength, cX11_withoutStrength, 3, some .int, [], [0, 4, 15, 25, 29, 30, 38])
def xR235 : Nat × MethodName × ByteArray × Nat × Option FieldType × List (Nat × Nat × Nat × Nat) × List Nat := (11, yX11_withOwn, cX11_withOwn, 3, some .int, [], [0, 4, 15, 32, 36, 37, 45])
def xR236 : Nat × MethodName × ByteArray × Nat × Option FieldType × List (Nat × Nat × Nat × Nat) × List Nat := (11, yX11_close, cX11_close, 3, some .int, [], [0, 4, 15, 30, 34, 35, 43])
def xR237 : Nat × MethodName × ByteArray × Nat × Option FieldType × List (Nat × Nat × Nat × Nat) × List Nat := (11, yX11_strides, cX11_strides, 3, some .int, [], [0, 4, 15, 29])
def xR238 : Nat × MethodName × ByteArray × Nat × Option FieldType × List (Nat × Nat × Nat × Nat) × List Nat := (11, yX11_seeing, cX11_seeing, 3, some .int, [], [0, 4, 15, 24, 28, 29, 37])
def xR239 : Nat × MethodName × ByteArray × Nat × Option FieldType × List (Nat × Nat × Nat × Nat) × List Nat := (11, yX11_count, cX11_count, 2, some .int, [], [0, 18, 20, 100, 108, 116, 124, 132, 137, 145, 153, 161, 169, 177, 182, 187, 192, 197, 202, 207])
def xR240 : Nat × MethodName × ByteArray × Nat × Option FieldType × List (Nat × Nat × Nat × Nat) × List Nat := (11, yX11_setting, cX11_setting, 2, some .int, [], [0, 17, 26, 27])
def xR241 : Nat × MethodName × ByteArray × Nat × Option FieldType × List (Nat × Nat × Nat × Nat) × List Nat := (11, yX11_mayBearer, cX11_mayBearer, 2, some .boolean, [], [0])
def xR242 : Nat × MethodName × ByteArray × Nat × Option FieldType × List (Nat × Nat × Nat × Nat) × List Nat := (11, yX11_mayStand, cX11_mayStand, 2, some .boolean, [], [0])
def xR243 : Nat × MethodName × ByteArray × Nat × Option FieldType × List (Nat × Nat × Nat × Nat) × List Nat := (11, yX11_mayWith, cX11_mayWith, 3, some .boolean, [], [0])
def xR244 : Nat × MethodName × ByteArray × Nat × Option FieldType × List (Nat × Nat × Nat × Nat) × List Nat := (11, yX11_seersOf, cX11_seersOf, 4, some .int, [], [0, 4, 15, 25, 29, 30, 38])
def xR245 : Nat × MethodName × ByteArray × Nat × Option FieldType × List (Nat × Nat × Nat × Nat) × List Nat := (11, yX11_weaker, cX11_weaker, 4, some .int, [], [0, 4, 15, 31, 35, 36, 44])
def xR246 : Nat × MethodName × ByteArray × Nat × Option FieldType × List (Nat × Nat × Nat × Nat) × List Nat := (11, yX11_bearer, cX11_bearer, 3, some .int, [], [0, 15, 17, 64, 70, 74, 78, 83, 84, 91, 99, 105, 119, 125, 145, 149, 150, 151])
def xR247 : Nat × MethodName × ByteArray × Nat × Option FieldType × List (Nat × Nat × Nat × Nat) × List Nat := (11, yX11_seenSet, cX11_seenSet, 4, some .int, [], [0, 4, 15, 25, 31, 32, 40])
def xR248 : Nat × MethodName × ByteArray × Nat × Option FieldType × List (Nat × Nat × Nat × Nat) × List Nat := (11, yX11_bits, cX11_bits, 3, some .int, [], [0, 4, 10, 24])
def xR249 : Nat × MethodName × ByteArray × Nat × Option FieldType × List (Nat × Nat × Nat × Nat) × List Nat := (11, yX11_textLength, cX11_textLength, 2, some .int, [], [0])
def xR250 : Nat × MethodName × ByteArray × Nat × Option FieldType × List (Nat × Nat × Nat × Nat) × List Nat := (11, yX11_nearest, cX11_nearest, 5, some .int, [], [0, 4, 15, 38, 43, 49, 56])
def xR251 : Nat × MethodName × ByteArray × Nat × Option FieldType × List (Nat × Nat × Nat × Nat) × List Nat := (11, yX11_beyond, cX11_beyond, 4, some .int, [], [0, 4, 15, 38, 42, 43, 51])
def xR252 : Nat × MethodName × ByteArray × Nat × Option FieldType × List (Nat × Nat × Nat × Nat) × List Nat := (11, yX11_ahead, cX11_ahead, 4, some .int, [], [0, 4, 15, 38, 42, 43, 51])
def xR253 : Nat × MethodName × ByteArray × Nat × Option FieldType × List (Nat × Nat × Nat × Nat) × List Nat := (11, yX11_stand, cX11_stand, 3, some .int, [], [0, 23, 25, 60, 69, 75, 81, 87, 93])
def xR254 : Nat × MethodName × ByteArray × Nat × Option FieldType × List (Nat × Nat × Nat × Nat) × List Nat := (11, yX11_plan, cX11_plan, 3, some .int, [], [0, 31, 33, 38, 45, 54, 71, 72])
def xR255 : Nat × MethodName × ByteArray × Nat × Option FieldType × List (Nat × Nat × Nat × Nat) × List Nat := (11, yX11_lying, cX11_lying, 3, some .int, [], [0, 31, 40, 41])
def xR256 : Nat × MethodName × ByteArray × Nat × Option FieldType × List (Nat × Nat × Nat × Nat) × List Nat := (11, yX11_wordByte, cX11_wordByte, 3, some .int, [], [0, 8, 10, 26, 37, 38])
def xR257 : Nat × MethodName × ByteArray × Nat × Option FieldType × List (Nat × Nat × Nat × Nat) × List Nat := (11, yX11_readByte, cX11_readByte, 3, some .int, [], [0, 8, 10, 29, 38, 39])
def xR258 : Nat × MethodName × ByteArray × Nat × Option FieldType × List (Nat × Nat × Nat × Nat) × List Nat := (11, yX11_seen, cX11_seen, 2, some .int, [], [0, 8, 16, 17])
def xR259 : Nat × MethodName × ByteArray × Nat × Option FieldType × List (Nat × Nat × Nat × Nat) × List Nat := (11, yX11_matches, cX11_matches, 2, some .int, [], [0, 8, 16, 17])
def xR260 : Nat × MethodName × ByteArray × Nat × Option FieldType × List (Nat × Nat × Nat × Nat) × List Nat := (11, yX11_isRead, cX11_isRead, 2, some .boolean, [], [0, 8, 16, 20, 21])
def xR261 : Nat × MethodName × ByteArray × Nat × Option FieldType × List (Nat × Nat × Nat × Nat) × List Nat := (11, yX11_seenOne, cX11_seenOne, 6, some .int, [], [0, 5, 17, 26, 31, 43, 55, 58, 62, 65, 68, 74])
def xR262 : Nat × MethodName × ByteArray × Nat × Option FieldType × List (Nat × Nat × Nat × Nat) × List Nat := (11, yX11_seenAt, cX11_seenAt, 3, some .int, [], [0, 8, 10, 14, 18, 24])
def xR263 : Nat × MethodName × ByteArray × Nat × Option FieldType × List (Nat × Nat × Nat × Nat) × List Nat := (11, yX11_blanks, cX11_blanks, 4, some .int, [], [0, 8, 10, 19, 27, 39, 43, 44, 52])
def xR264 : Nat × MethodName × ByteArray × Nat × Option FieldType × List (Nat × Nat × Nat × Nat) × List Nat := (11, yX11_prefix, cX11_prefix, 3, some .int, [], [0, 8, 10, 17, 25, 35, 52, 58])
def xR265 : Nat × MethodName × ByteArray × Nat × Option FieldType × List (Nat × Nat × Nat × Nat) × List Nat := (11, yX11_mayLetter, cX11_mayLetter, 2, some .boolean, [], [0])
def xR266 : Nat × MethodName × ByteArray × Nat × Option FieldType × List (Nat × Nat × Nat × Nat) × List Nat := (11, yX11_holder, cX11_holder, 3, some .int, [], [0, 8, 10, 12, 23, 33, 35, 41])
def xR267 : Nat × MethodName × ByteArray × Nat × Option FieldType × List (Nat × Nat × Nat × Nat) × List Nat := (11, yX11_copies, cX11_copies, 4, some .int, [], [0, 8, 10, 14, 25, 36, 40, 41, 49, 51, 62, 73, 77, 78, 86])
def xR268 : Nat × MethodName × ByteArray × Nat × Option FieldType × List (Nat × Nat × Nat × Nat) × List Nat := (11, yX11_tired, cX11_tired, 4, some .int, [], [0, 18, 20, 24, 35, 46, 52, 53, 61])
def xR269 : Nat × MethodName × ByteArray × Nat × Option FieldType × List (Nat × Nat × Nat × Nat) × List Nat := (11, yX11_swappers, cX11_swappers, 3, some .int, [], [0, 7, 9, 13, 24, 33, 39, 40, 48])
def xR270 : Nat × MethodName × ByteArray × Nat × Option FieldType × List (Nat × Nat × Nat × Nat) × List Nat := (11, yX11_nextPlan, cX11_nextPlan, 3, some .int, [], [0, 7, 9, 13, 24, 33, 38, 53, 55, 61])
def xR271 : Nat × MethodName × ByteArray × Nat × Option FieldType × List (Nat × Nat × Nat × Nat) × List Nat := (11, yX11_lyingFrom, cX11_lyingFrom, 5, some .int, [], [0, 7, 9, 14, 26, 42, 46, 47, 55])
def xR272 : Nat × MethodName × ByteArray × Nat × Option FieldType × List (Nat × Nat × Nat × Nat) × List Nat := (11, yX11_share, cX11_share, 2, some .float, [], [0, 8, 16, 17])
def xR273 : Nat × MethodName × ByteArray × Nat × Option FieldType × List (Nat × Nat × Nat × Nat) × List Nat := (11, yX11_shareBits, cX11_shareBits, 2, some .int, [], [0, 8, 19, 20])
def xR274 : Nat × MethodName × ByteArray × Nat × Option FieldType × List (Nat × Nat × Nat × Nat) × List Nat := (11, yX11_missing, cX11_missing, 6, some .int, [], [0, 8, 10, 14, 20, 26, 37, 55, 59, 60, 69, 72, 84, 97, 101, 102, 111, 126])
def xR275 : Nat × MethodName × ByteArray × Nat × Option FieldType × List (Nat × Nat × Nat × Nat) × List Nat := (11, yX11_mayAsk, cX11_mayAsk, 1, some .boolean, [], [0])
def xR276 : Nat × MethodName × ByteArray × Nat × Option FieldType × List (Nat × Nat × Nat × Nat) × List Nat := (11, yX11_bestStand, cX11_bestStand, 3, some .int, [], [0, 7, 9, 13, 24, 29, 43, 45, 51])
def xR277 : Nat × MethodName × ByteArray × Nat × Option FieldType × List (Nat × Nat × Nat × Nat) × List Nat := (11, yX11_readStands, cX11_readStands, 1, some .int, [], [0, 7, 14, 15])
def xR278 : Nat × MethodName × ByteArray × Nat × Option FieldType × List (Nat × Nat × Nat × Nat) × List Nat := (11, yX11_weakest, cX11_weakest, 3, some .int, [], [0, 7, 9, 13, 24, 29, 44, 46, 52])
def xR279 : Nat × MethodName × ByteArray × Nat × Option FieldType × List (Nat × Nat × Nat × Nat) × List Nat := (11, yX11_widest, cX11_widest, 3, some .int, [], [0, 7, 9, 13, 24, 29, 42, 44, 50])
def xR280 : Nat × MethodName × ByteArray × Nat × Option FieldType × List (Nat × Nat × Nat × Nat) × List Nat := (11, yX11_stretch, cX11_stretch, 1, some .int, [], [0, 7, 18, 20])
def xR281 : Nat × MethodName × ByteArray × Nat × Option FieldType × List (Nat × Nat × Nat × Nat) × List Nat := (11, yX11_meanNow, cX11_meanNow, 3, some .double, [], [0, 4, 15, 30, 40, 44, 55])
def xR282 : Nat × MethodName × ByteArray × Nat × Option FieldType × List (Nat × Nat × Nat × Nat) × List Nat := (11, yX11_meanStrength, cX11_meanStrength, 1, some .double, [], [0, 7, 14, 15])
def xR283 : Nat × MethodName × ByteArray × Nat × Option FieldType × List (Nat × Nat × Nat × Nat) × List Nat := (11, yX11_strengthBits, cX11_strengthBits, 1, some .long, [], [0, 7, 17, 18])
def xR284 : Nat × MethodName × ByteArray × Nat × Option FieldType × List (Nat × Nat × Nat × Nat) × List Nat := (11, yX11_thinks, cX11_thinks, 1, none, [], [0])
def xR285 : Nat × MethodName × ByteArray × Nat × Option FieldType × List (Nat × Nat × Nat × Nat) × List Nat := (11, yX11_back, cX11_back, 2, some .int, [], [0])
def xR286 : Nat × MethodName × ByteArray × Nat × Option FieldType × List (Nat × Nat × Nat × Nat) × List Nat := (11, yX11_backFloat, cX11_backFloat, 2, some .float, [], [0])
def xR287 : Nat × MethodName × ByteArray × Nat × Option FieldType × List (Nat × Nat × Nat × Nat) × List Nat := (11, yX11_readsIn, cX11_readsIn, 3, some .int, [], [0, 8, 10, 16, 23, 31, 37, 47])
def xR288 : Nat × MethodName × ByteArray × Nat × Option FieldType × List (Nat × Nat × Nat × Nat) × List Nat := (11, yX11_havePassed, cX11_havePassed, 4, some .boolean, [], [0, 4, 15, 38, 42, 43, 51])
def xR289 : Nat × MethodName × ByteArray × Nat × Option FieldType × List (Nat × Nat × Nat × Nat) × List Nat := (11, yX11_passedIn, cX11_passedIn, 3, some .int, [], [0, 8, 10, 16, 23, 31, 37, 47])
def xR290 : Nat × MethodName × ByteArray × Nat × Option FieldType × List (Nat × Nat × Nat × Nat) × List Nat := (11, yX11_isFar, cX11_isFar, 1, some .boolean, [], [0])
def xR291 : Nat × MethodName × ByteArray × Nat × Option FieldType × List (Nat × Nat × Nat × Nat) × List Nat := (11, yX11_partIn, cX11_partIn, 4, some .int, [], [0, 12, 14])
def xR292 : Nat × MethodName × ByteArray × Nat × Option FieldType × List (Nat × Nat × Nat × Nat) × List Nat := (11, yX11_placeIn, cX11_placeIn, 3, some .int, [], [0])
def xR293 : Nat × MethodName × ByteArray × Nat × Option FieldType × List (Nat × Nat × Nat × Nat) × List Nat := (11, yX11_strengthIn, cX11_strengthIn, 3, some .int, [], [0])
def xR294 : Nat × MethodName × ByteArray × Nat × Option FieldType × List (Nat × Nat × Nat × Nat) × List Nat := (11, yX11_bannerIn, cX11_bannerIn, 3, some .int, [], [0])
def xR295 : Nat × MethodName × ByteArray × Nat × Option FieldType × List (Nat × Nat × Nat × Nat) × List Nat := (11, yX11_dropsIn, cX11_dropsIn, 2, some .int, [], [0, 15, 17])
def xR296 : Nat × MethodName × ByteArray × Nat × Option FieldType × List (Nat × Nat × Nat × Nat) × List Nat := (11, yX11_firstDrop, cX11_firstDrop, 2, some .int, [], [0, 7, 9, 15, 22, 43, 49, 55])
def xR297 : Nat × MethodName × ByteArray × Nat × Option FieldType × List (Nat × Nat × Nat × Nat) × List Nat := (11, yX11_mayStandIn, cX11_mayStandIn, 3, some .boolean, [], [0])
def xR298 : Nat × MethodName × ByteArray × Nat × Option FieldType × List (Nat × Nat × Nat × Nat) × List Nat := (11, yX11_shareIn, cX11_shareIn, 3, some .float, [], [0, 9, 11])
def xR299 : Nat × MethodName × ByteArray × Nat × Option FieldType × List (Nat × Nat × Nat × Nat) × List Nat := (11, yX11_bestShare, cX11_bestShare, 5, some .float, [], [0, 9, 11, 24, 30, 50])
def xR300 : Nat × MethodName × ByteArray × Nat × Option FieldType × List (Nat × Nat × Nat × Nat) × List Nat := (11, yX11_bestSwap, cX11_bestSwap, 6, some .int, [], [0, 8, 10, 21, 35, 61, 64, 70, 76])
def xR301 : Nat × MethodName × ByteArray × Nat × Option FieldType × List (Nat × Nat × Nat × Nat) × List Nat := (11, yX11_closedIn, cX11_closedIn, 3, some .int, [], [0, 8, 12, 19, 23, 24, 25, 31, 38, 52, 58, 68])
def xR302 : Nat × MethodName × ByteArray × Nat × Option FieldType × List (Nat × Nat × Nat × Nat) × List Nat := (11, yX11_leastRest, cX11_leastRest, 4, some .int, [], [0, 7, 9, 15, 21, 51, 55, 56, 67, 69, 75])
def xR303 : Nat × MethodName × ByteArray × Nat × Option FieldType × List (Nat × Nat × Nat × Nat) × List Nat := (11, yX11_writesByte, cX11_writesByte, 2, none, [], [0])
def xR304 : Nat × MethodName × ByteArray × Nat × Option FieldType × List (Nat × Nat × Nat × Nat) × List Nat := (11, yX11_writesNumber, cX11_writesNumber, 2, none, [], [0, 6, 14])
def xR305 : Nat × MethodName × ByteArray × Nat × Option FieldType × List (Nat × Nat × Nat × Nat) × List Nat := (11, yX11_writeStand, cX11_writeStand, 3, some .int, [], [0, 8, 10, 22, 30, 46])
def xR306 : Nat × MethodName × ByteArray × Nat × Option FieldType × List (Nat × Nat × Nat × Nat) × List Nat := (11, yX11_writeRow, cX11_writeRow, 2, some .int, [], [0, 7, 9, 16, 27, 37, 49, 51, 60])
def xR307 : Nat × MethodName × ByteArray × Nat × Option FieldType × List (Nat × Nat × Nat × Nat) × List Nat := (11, yX11_writePlaces, cX11_writePlaces, 2, some .int, [], [0, 7, 9, 16, 27, 31, 37, 46, 52, 71])
def xR308 : Nat × MethodName × ByteArray × Nat × Option FieldType × List (Nat × Nat × Nat × Nat) × List Nat := (11, yX11_textByte, cX11_textByte, 2, some .int, [], [0, 20, 29, 30])
def xR309 : Nat × MethodName × ByteArray × Nat × Option FieldType × List (Nat × Nat × Nat × Nat) × List Nat := (11, yX11_remembers, cX11_remembers, 2, none, [], [0, 9, 11, 18, 40, 50])
def xR310 : Nat × MethodName × ByteArray × Nat × Option FieldType × List (Nat × Nat × Nat × Nat) × List Nat := (11, yX11_tick, cX11_tick, 3, some .int, [], [0, 15, 30, 34, 35, 41, 43])
def xR311 : Nat × MethodName × ByteArray × Nat × Option FieldType × List (Nat × Nat × Nat × Nat) × List Nat := (11, yX11_swap, cX11_swap, 3, some .int, [], [0, 7, 15, 19, 20, 31, 39, 43, 44, 50, 52])
def xR312 : Nat × MethodName × ByteArray × Nat × Option FieldType × List (Nat × Nat × Nat × Nat) × List Nat := (11, yX11_drop, cX11_drop, 3, some .int, [], [0, 7, 15, 19, 20, 31, 40, 44, 45, 51, 53])
def xR313 : Nat × MethodName × ByteArray × Nat × Option FieldType × List (Nat × Nat × Nat × Nat) × List Nat := (11, yX11_pick, cX11_pick, 4, some .int, [], [0, 7, 15, 19, 20, 25, 44, 45, 56, 65, 80, 85, 89, 90, 96, 98])
def xR314 : Nat × MethodName × ByteArray × Nat × Option FieldType × List (Nat × Nat × Nat × Nat) × List Nat := (11, yX11_strengthen, cX11_strengthen, 3, some .int, [], [0, 16, 18])
def xR315 : Nat × MethodName × ByteArray × Nat × Option FieldType × List (Nat × Nat × Nat × Nat) × List Nat := (11, yX11_rest, cX11_rest, 4, some .int, [], [0, 18, 20, 28, 39, 60])
def xR316 : Nat × MethodName × ByteArray × Nat × Option FieldType × List (Nat × Nat × Nat × Nat) × List Nat := (11, yX11_setStep, cX11_setStep, 4, some .int, [], [0, 16, 18])
def xR317 : Nat × MethodName × ByteArray × Nat × Option FieldType × List (Nat × Nat × Nat × Nat) × List Nat := (11, yX11_addPlan, cX11_addPlan, 3, some .int, [], [0, 13, 20, 33, 45, 49, 50, 56, 58])
def xR318 : Nat × MethodName × ByteArray × Nat × Option FieldType × List (Nat × Nat × Nat × Nat) × List Nat := (11, yX11_set, cX11_set, 4, some .int, [], [0, 14, 29, 33, 34, 40, 42])
def xR319 : Nat × MethodName × ByteArray × Nat × Option FieldType × List (Nat × Nat × Nat × Nat) × List Nat := (11, yX11_undo, cX11_undo, 1, some .int, [], [0, 8, 12, 13, 21, 23])
def xR320 : Nat × MethodName × ByteArray × Nat × Option FieldType × List (Nat × Nat × Nat × Nat) × List Nat := (11, yX11_undoable, cX11_undoable, 1, some .int, [], [0])
def xR321 : Nat × MethodName × ByteArray × Nat × Option FieldType × List (Nat × Nat × Nat × Nat) × List Nat := (11, yX11_save, cX11_save, 2, some .int, [], [0, 17, 19])
def xR322 : Nat × MethodName × ByteArray × Nat × Option FieldType × List (Nat × Nat × Nat × Nat) × List Nat := (11, yX11_restore, cX11_restore, 3, some .int, [], [0, 13, 22, 26, 27, 33, 35])
def xR323 : Nat × MethodName × ByteArray × Nat × Option FieldType × List (Nat × Nat × Nat × Nat) × List Nat := (12, yL_load, cL_load, 4, some .int, [(0, 9, 12, 13), (0, 9, 15, 15)], [0, 13, 16, 18])
def xR324 : Nat × MethodName × ByteArray × Nat × Option FieldType × List (Nat × Nat × Nat × Nat) × List Nat := (12, yL_count, cL_count, 4, some .int, [(0, 9, 12, 20), (0, 9, 15, 15)], [0, 13, 16, 18])
def xR325 : Nat × MethodName × ByteArray × Nat × Option FieldType × List (Nat × Nat × Nat × Nat) × List Nat := (12, yL_setting, cL_setting, 4, some .int, [(0, 9, 12, 20), (0, 9, 15, 15)], [0, 13, 16, 18])
def xR326 : Nat × MethodName × ByteArray × Nat × Option FieldType × List (Nat × Nat × Nat × Nat) × List Nat := (12, yL_bearer, cL_bearer, 5, some .int, [(0, 10, 13, 20), (0, 10, 17, 13), (0, 10, 21, 15)], [0, 15, 19, 23, 25])
def xR327 : Nat × MethodName × ByteArray × Nat × Option FieldType × List (Nat × Nat × Nat × Nat) × List Nat := (12, yL_stand, cL_stand, 5, some .int, [(0, 10, 13, 20), (0, 10, 17, 13), (0, 10, 21, 15)], [0, 15, 19, 23, 25])
def xR328 : Nat × MethodName × ByteArray × Nat × Option FieldType × List (Nat × Nat × Nat × Nat) × List Nat := (12, yL_plan, cL_plan, 5, some .int, [(0, 10, 13, 20), (0, 10, 17, 13), (0, 10, 21, 15)], [0, 15, 19, 23, 25])
def xR329 : Nat × MethodName × ByteArray × Nat × Option FieldType × List (Nat × Nat × Nat × Nat) × List Nat := (12, yL_lying, cL_lying, 5, some .int, [(0, 10, 13, 20), (0, 10, 17, 13), (0, 10, 21, 15)], [0, 15, 19, 23, 25])
def xR330 : Nat × MethodName × ByteArray × Nat × Option FieldType × List (Nat × Nat × Nat × Nat) × List Nat := (12, yL_wordByte, cL_wordByte, 5, some .int, [(0, 10, 13, 20), (0, 10, 17, 13)], [0, 15, 19, 21])
def xR331 : Nat × MethodName × ByteArray × Nat × Option FieldType × List (Nat × Nat × Nat × Nat) × List Nat := (12, yL_readByte, cL_readByte, 5, some .int, [(0, 10, 13, 20), (0, 10, 17, 13)], [0, 15, 19, 21])
def xR332 : Nat × MethodName × ByteArray × Nat × Option FieldType × List (Nat × Nat × Nat × Nat) × List Nat := (12, yL_seen, cL_seen, 4, some .int, [(0, 9, 12, 20), (0, 9, 15, 13)], [0, 13, 16, 18])
def xR333 : Nat × MethodName × ByteArray × Nat × Option FieldType × List (Nat × Nat × Nat × Nat) × List Nat := (12, yL_matches, cL_matches, 4, some .int, [(0, 9, 12, 20), (0, 9, 15, 13)], [0, 13, 16, 18])
def xR334 : Nat × MethodName × ByteArray × Nat × Option FieldType × List (Nat × Nat × Nat × Nat) × List Nat := (12, yL_isRead, cL_isRead, 4, some .int, [(0, 16, 19, 20), (0, 16, 22, 13)], [0, 10, 14, 15, 20, 23, 25])
def xR335 : Nat × MethodName × ByteArray × Nat × Option FieldType × List (Nat × Nat × Nat × Nat) × List Nat := (12, yL_share, cL_share, 4, some .int, [(0, 9, 12, 20), (0, 9, 15, 13)], [0, 13, 16, 18])
def xR336 : Nat × MethodName × ByteArray × Nat × Option FieldType × List (Nat × Nat × Nat × Nat) × List Nat := (12, yL_shareBits, cL_shareBits, 4, some .int, [(0, 9, 12, 20), (0, 9, 15, 13)], [0, 13, 16, 18])
def xR337 : Nat × MethodName × ByteArray × Nat × Option FieldType × List (Nat × Nat × Nat × Nat) × List Nat := (12, yL_missing, cL_missing, 4, some .int, [(0, 9, 12, 20), (0, 9, 15, 13)], [0, 13, 16, 18])
def xR338 : Nat × MethodName × ByteArray × Nat × Option FieldType × List (Nat × Nat × Nat × Nat) × List Nat := (12, yL_seenAt, cL_seenAt, 5, some .int, [(0, 10, 13, 20), (0, 10, 17, 13)], [0, 15, 19, 21])
def xR339 : Nat × MethodName × ByteArray × Nat × Option FieldType × List (Nat × Nat × Nat × Nat) × List Nat := (12, yL_blanks, cL_blanks, 4, some .int, [(0, 9, 12, 20), (0, 9, 15, 13)], [0, 13, 16, 18])
def xR340 : Nat × MethodName × ByteArray × Nat × Option FieldType × List (Nat × Nat × Nat × Nat) × List Nat := (12, yL_prefix, cL_prefix, 4, some .int, [(0, 9, 12, 20), (0, 9, 15, 13)], [0, 13, 16, 18])
def xR341 : Nat × MethodName × ByteArray × Nat × Option FieldType × List (Nat × Nat × Nat × Nat) × List Nat := (12, yL_holder, cL_holder, 4, some .int, [(0, 9, 12, 20), (0, 9, 15, 15)], [0, 13, 16, 18])
def xR342 : Nat × MethodName × ByteArray × Nat × Option FieldType × List (Nat × Nat × Nat × Nat) × List Nat := (12, yL_copies, cL_copies, 4, some .int, [(0, 9, 12, 20), (0, 9, 15, 15)], [0, 13, 16, 18])
def xR343 : Nat × MethodName × ByteArray × Nat × Option FieldType × List (Nat × Nat × Nat × Nat) × List Nat := (12, yL_tired, cL_tired, 4, some .int, [(0, 9, 12, 20), (0, 9, 15, 15)], [0, 13, 16, 18])
def xR344 : Nat × MethodName × ByteArray × Nat × Option FieldType × List (Nat × Nat × Nat × Nat) × List Nat := (12, yL_swappers, cL_swappers, 3, some .int, [(0, 8, 11, 20)], [0, 12, 14])
def xR345 : Nat × MethodName × ByteArray × Nat × Option FieldType × List (Nat × Nat × Nat × Nat) × List Nat := (12, yL_nextPlan, cL_nextPlan, 3, some .int, [(0, 8, 11, 20)], [0, 12, 14])
def xR346 : Nat × MethodName × ByteArray × Nat × Option FieldType × List (Nat × Nat × Nat × Nat) × List Nat := (12, yL_lyingFrom, cL_lyingFrom, 5, some .int, [(0, 10, 13, 20)], [0, 15, 17])
def xR347 : Nat × MethodName × ByteArray × Nat × Option FieldType × List (Nat × Nat × Nat × Nat) × List Nat := (12, yL_bestStand, cL_bestStand, 3, some .int, [(0, 8, 11, 20)], [0, 12, 14])
def xR348 : Nat × MethodName × ByteArray × Nat × Option FieldType × List (Nat × Nat × Nat × Nat) × List Nat := (12, yL_readStands, cL_readStands, 3, some .int, [(0, 8, 11, 20)], [0, 12, 14])
def xR349 : Nat × MethodName × ByteArray × Nat × Option FieldType × List (Nat × Nat × Nat × Nat) × List Nat := (12, yL_weakest, cL_weakest, 3, some .int, [(0, 8, 11, 20)], [0, 12, 14])
def xR350 : Nat × MethodName × ByteArray × Nat × Option FieldType × List (Nat × Nat × Nat × Nat) × List Nat := (12, yL_widest, cL_widest, 3, some .int, [(0, 8, 11, 20)], [0, 12, 14])
def xR351 : Nat × MethodName × ByteArray × Nat × Option FieldType × List (Nat × Nat × Nat × Nat) × List Nat := (12, yL_stretch, cL_stretch, 3, some .int, [(0, 8, 11, 20)], [0, 12, 14])
def xR352 : Nat × MethodName × ByteArray × Nat × Option FieldType × List (Nat × Nat × Nat × Nat) × List Nat := (12, yL_meanStrength, cL_meanStrength, 3, some .int, [(0, 7, 10, 20)], [0, 11, 13])
def xR353 : Nat × MethodName × ByteArray × Nat × Option FieldType × List (Nat × Nat × Nat × Nat) × List Nat := (12, yL_strengthBits, cL_strengthBits, 3, some .int, [(0, 7, 10, 20)], [0, 11, 13])
def xR354 : Nat × MethodName × ByteArray × Nat × Option FieldType × List (Nat × Nat × Nat × Nat) × List Nat := (12, yL_readsIn, cL_readsIn, 4, some .int, [(0, 9, 12, 20), (0, 9, 15, 13)], [0, 13, 16, 18])
def xR355 : Nat × MethodName × ByteArray × Nat × Option FieldType × List (Nat × Nat × Nat × Nat) × List Nat := (12, yL_passedIn, cL_passedIn, 4, some .int, [(0, 9, 12, 20), (0, 9, 15, 13)], [0, 13, 16, 18])
def xR356 : Nat × MethodName × ByteArray × Nat × Option FieldType × List (Nat × Nat × Nat × Nat) × List Nat := (12, yL_placeIn, cL_placeIn, 5, some .int, [(0, 10, 13, 20), (0, 10, 17, 13), (0, 10, 21, 15)], [0, 15, 19, 23, 25])
def xR357 : Nat × MethodName × ByteArray × Nat × Option FieldType × List (Nat × Nat × Nat × Nat) × List Nat := (12, yL_strengthIn, cL_strengthIn, 5, some .int, [(0, 10, 13, 20), (0, 10, 17, 13), (0, 10, 21, 15)], [0, 15, 19, 23, 25])
def xR358 : Nat × MethodName × ByteArray × Nat × Option FieldType × List (Nat × Nat × Nat × Nat) × List Nat := (12, yL_bannerIn, cL_bannerIn, 5, some .int, [(0, 10, 13, 20), (0, 10, 17, 13), (0, 10, 21, 15)], [0, 15, 19, 23, 25])
def xR359 : Nat × MethodName × ByteArray × Nat × Option FieldType × List (Nat × Nat × Nat × Nat) × List Nat := (12, yL_dropsIn, cL_dropsIn, 4, some .int, [(0, 9, 12, 20), (0, 9, 15, 15)], [0, 13, 16, 18])
def xR360 : Nat × MethodName × ByteArray × Nat × Option FieldType × List (Nat × Nat × Nat × Nat) × List Nat := (12, yL_firstDrop, cL_firstDrop, 3, some .int, [(0, 8, 11, 20)], [0, 12, 14])
def xR361 : Nat × MethodName × ByteArray × Nat × Option FieldType × List (Nat × Nat × Nat × Nat) × List Nat := (12, yL_shareIn, cL_shareIn, 5, some .int, [(0, 10, 13, 20), (0, 10, 17, 13), (0, 10, 21, 15)], [0, 15, 19, 23, 25])
def xR362 : Nat × MethodName × ByteArray × Nat × Option FieldType × List (Nat × Nat × Nat × Nat) × List Nat := (12, yL_bestShare, cL_bestShare, 5, some .int, [(0, 10, 13, 20), (0, 10, 17, 13), (0, 10, 21, 15)], [0, 15, 19, 23, 25])
def xR363 : Nat × MethodName × ByteArray × Nat × Option FieldType × List (Nat × Nat × Nat × Nat) × List Nat := (12, yL_bestSwap, cL_bestSwap, 4, some .int, [(0, 9, 12, 20), (0, 9, 15, 13)], [0, 13, 16, 18])
def xR364 : Nat × MethodName × ByteArray × Nat × Option FieldType × List (Nat × Nat × Nat × Nat) × List Nat := (12, yL_closedIn, cL_closedIn, 4, some .int, [(0, 9, 12, 20), (0, 9, 15, 13)], [0, 13, 16, 18])
def xR365 : Nat × MethodName × ByteArray × Nat × Option FieldType × List (Nat × Nat × Nat × Nat) × List Nat := (12, yL_leastRest, cL_leastRest, 3, some .int, [(0, 8, 11, 20)], [0, 12, 14])
def xR366 : Nat × MethodName × ByteArray × Nat × Option FieldType × List (Nat × Nat × Nat × Nat) × List Nat := (12, yL_writeStand, cL_writeStand, 4, some .int, [(0, 9, 12, 20), (0, 9, 15, 13)], [0, 13, 16, 18])
def xR367 : Nat × MethodName × ByteArray × Nat × Option FieldType × List (Nat × Nat × Nat × Nat) × List Nat := (12, yL_writeRow, cL_writeRow, 3, some .int, [(0, 8, 11, 20)], [0, 12, 14])
def xR368 : Nat × MethodName × ByteArray × Nat × Option FieldType × List (Nat × Nat × Nat × Nat) × List Nat := (12, yL_writePlaces, cL_writePlaces, 3, some .int, [(0, 8, 11, 20)], [0, 12, 14])
def xR369 : Nat × MethodName × ByteArray × Nat × Option FieldType × List (Nat × Nat × Nat × Nat) × List Nat := (12, yL_textByte, cL_textByte, 4, some .int, [(0, 9, 12, 13)], [0, 13, 15])
def xR370 : Nat × MethodName × ByteArray × Nat × Option FieldType × List (Nat × Nat × Nat × Nat) × List Nat := (12, yL_tick, cL_tick, 4, some .int, [(0, 9, 12, 20), (0, 9, 15, 15)], [0, 13, 16, 18])
def xR371 : Nat × MethodName × ByteArray × Nat × Option FieldType × List (Nat × Nat × Nat × Nat) × List Nat := (12, yL_swap, cL_swap, 4, some .int, [(0, 9, 12, 20), (0, 9, 15, 13), (0, 9, 18, 15)], [0, 13, 16, 19, 21])
def xR372 : Nat × MethodName × ByteArray × Nat × Option FieldType × List (Nat × Nat × Nat × Nat) × List Nat := (12, yL_drop, cL_drop, 4, some .int, [(0, 9, 12, 20), (0, 9, 15, 13), (0, 9, 18, 15)], [0, 13, 16, 19, 21])
def xR373 : Nat × MethodName × ByteArray × Nat × Option FieldType × List (Nat × Nat × Nat × Nat) × List Nat := (12, yL_pick, cL_pick, 4, some .int, [(0, 9, 12, 20), (0, 9, 15, 13), (0, 9, 18, 15)], [0, 13, 16, 19, 21])
def xR374 : Nat × MethodName × ByteArray × Nat × Option FieldType × List (Nat × Nat × Nat × Nat) × List Nat := (12, yL_strengthen, cL_strengthen, 5, some .int, [(0, 10, 13, 20), (0, 10, 17, 13), (0, 10, 21, 15)], [0, 15, 19, 23, 25])
def xR375 : Nat × MethodName × ByteArray × Nat × Option FieldType × List (Nat × Nat × Nat × Nat) × List Nat := (12, yL_rest, cL_rest, 4, some .int, [(0, 9, 12, 20), (0, 9, 15, 15)], [0, 13, 16, 18])
def xR376 : Nat × MethodName × ByteArray × Nat × Option FieldType × List (Nat × Nat × Nat × Nat) × List Nat := (12, yL_setStep, cL_setStep, 5, some .int, [(0, 10, 13, 20), (0, 10, 17, 13), (0, 10, 21, 15)], [0, 15, 19, 23, 25])
def xR377 : Nat × MethodName × ByteArray × Nat × Option FieldType × List (Nat × Nat × Nat × Nat) × List Nat := (12, yL_addPlan, cL_addPlan, 5, some .int, [(0, 10, 13, 20), (0, 10, 17, 13), (0, 10, 21, 15)], [0, 15, 19, 23, 25])
def xR378 : Nat × MethodName × ByteArray × Nat × Option FieldType × List (Nat × Nat × Nat × Nat) × List Nat := (12, yL_set, cL_set, 5, some .int, [(0, 10, 13, 20), (0, 10, 17, 15)], [0, 15, 19, 21])
def xR379 : Nat × MethodName × ByteArray × Nat × Option FieldType × List (Nat × Nat × Nat × Nat) × List Nat := (12, yL_undo, cL_undo, 3, some .int, [(0, 8, 11, 20)], [0, 12, 14])
def xR380 : Nat × MethodName × ByteArray × Nat × Option FieldType × List (Nat × Nat × Nat × Nat) × List Nat := (12, yL_save, cL_save, 4, some .int, [(0, 9, 12, 20), (0, 9, 15, 13)], [0, 13, 16, 18])
def xR381 : Nat × MethodName × ByteArray × Nat × Option FieldType × List (Nat × Nat × Nat × Nat) × List Nat := (12, yL_restore, cL_restore, 4, some .int, [(0, 9, 12, 13), (0, 9, 15, 20)], [0, 13, 16, 18])
def xR382 : Nat × MethodName × ByteArray × Nat × Option FieldType × List (Nat × Nat × Nat × Nat) × List Nat := (12, x, code, 9, some .boolean, [], [0, 28, 38, 316, 387, 389, 423, 425, 430, 440, 442, 445, 456, 458, 469, 471, 482, 484, 518, 520, 525, 535, 537, 540, 574, 576, 581, 591, 593, 596, 642, 644, 649, 659, 661, 664, 710, 712, 717, 727, 729, 732, 778, 780, 785, 795, 797, 800, 846, 848, 853, 863, 865, 868, 914, 916, 921, 931, 933, 936, 982, 984, 989, 999, 1001, 1004, 1038, 1040, 1045, 1055, 1057, 1060, 1094, 1096, 1101, 1111, 1113, 1116, 1150, 1152, 1157, 1165, 1169, 1170, 1174, 1176, 1179, 1214, 1216, 1221, 1232, 1244, 1252, 1254, 1257, 1291, 1293, 1298, 1308, 1310, 1313, 1347, 1349, 1354, 1364, 1366, 1369, 1415, 1417, 1422, 1432, 1434, 1437, 1471, 1473, 1478, 1488, 1490, 1493, 1527, 1529, 1534, 1544, 1546, 1549, 1583, 1585, 1590, 1600, 1602, 1605, 1639, 1641, 1646, 1656, 1658, 1661, 1695, 1697, 1702, 1712, 1714, 1717, 1739, 1741, 1746, 1756, 1758, 1761, 1783, 1785, 1790, 1800, 1802, 1805, 1851, 1853, 1858, 1868, 1870, 1873, 1895, 1897, 1902, 1912, 1914, 1917, 1939, 1941, 1946, 1956, 1958, 1961, 1983, 1985, 1990, 2000, 2002, 2005, 2027, 2029, 2034, 2044, 2046, 2049, 2071, 2073, 2078, 2088, 2090, 2093, 2116, 2118, 2123, 2133, 2145, 2153, 2155, 2158, 2180, 2182, 2187, 2196, 2198, 2201, 2235, 2237, 2242, 2252, 2254, 2257, 2291, 2293, 2298, 2308, 2310, 2313, 2359, 2361, 2366, 2376, 2378, 2381, 2427, 2429, 2434, 2444, 2446, 2449, 2495, 2497, 2502, 2512, 2514, 2517, 2551, 2553, 2558, 2568, 2570, 2573, 2595, 2597, 2602, 2612, 2614, 2617, 2664, 2666, 2671, 2682, 2694, 2702, 2704, 2707, 2754, 2756, 2761, 2772, 2784, 2792, 2794, 2797, 2831, 2833, 2838, 2848, 2850, 2853, 2887, 2889, 2894, 2904, 2906, 2909, 2931, 2933, 2938, 2948, 2950, 2953, 2987, 2989, 2994, 3004, 3006, 3009, 3031, 3033, 3038, 3048, 3050, 3053, 3075, 3077, 3082, 3092, 3094, 3097, 3131, 3133, 3138, 3148, 3150, 3153, 3187, 3189, 3194, 3204, 3206, 3209, 3243, 3245, 3250, 3260, 3262, 3265, 3299, 3301, 3306, 3316, 3318, 3321, 3355, 3357, 3362, 3372, 3374, 3377, 3423, 3425, 3430, 3440, 3442, 3445, 3479, 3481, 3486, 3496, 3498, 3501, 3547, 3549, 3554, 3564, 3566, 3569, 3615, 3617, 3622, 3632, 3634, 3637, 3683, 3685, 3690, 3700, 3702, 3705, 3727, 3729, 3734, 3744, 3746, 3749, 3760, 3762, 3796, 3798, 3803, 3813, 3815, 3818, 3852, 3854, 3859, 3869, 3871, 3874, 3880])
def xR383 : Nat × MethodName × ByteArray × Nat × Option FieldType × List (Nat × Nat × Nat × Nat) × List Nat := (13, yJ6_bitCount_0f7a4, cJ6_bitCount_0f7a4, 1, some .int, [], [0])
def xR384 : Nat × MethodName × ByteArray × Nat × Option FieldType × List (Nat × Nat × Nat × Nat) × List Nat := (14, yJ9_abs_0f7a4, cJ9_abs_0f7a4, 1, some .int, [], [0, 4, 9, 10])
def xR385 : Nat × MethodName × ByteArray × Nat × Option FieldType × List (Nat × Nat × Nat × Nat) × List Nat := (14, yJ9_max_7cf53, cJ9_max_7cf53, 2, some .int, [], [0, 5, 9, 10])
def xR386 : Nat × MethodName × ByteArray × Nat × Option FieldType × List (Nat × Nat × Nat × Nat) × List Nat := (14, yJ9_min_7cf53, cJ9_min_7cf53, 2, some .int, [], [0, 5, 9, 10])
def xR387 : Nat × MethodName × ByteArray × Nat × Option FieldType × List (Nat × Nat × Nat × Nat) × List Nat := (15, yJxf58ca_isNaN_12338, cJxf58ca_isNaN_12338, 1, some .boolean, [], [0, 6, 10, 11])
def xR388 : Nat × MethodName × ByteArray × Nat × Option FieldType × List (Nat × Nat × Nat × Nat) × List Nat := (15, yJxf58ca_floatToIntBits_5c35a, cJxf58ca_floatToIntBits_5c35a, 1, some .int, [], [0, 7, 12])
def xR389 : Nat × MethodName × ByteArray × Nat × Option FieldType × List (Nat × Nat × Nat × Nat) × List Nat := (16, yJxe99ae_isNaN_b9ae7, cJxe99ae_isNaN_b9ae7, 2, some .boolean, [], [0, 6, 10, 11])
def xR390 : Nat × MethodName × ByteArray × Nat × Option FieldType × List (Nat × Nat × Nat × Nat) × List Nat := (16, yJxe99ae_doubleToLongBits_ccdee, cJxe99ae_doubleToLongBits_ccdee, 2, some .long, [], [0, 7, 12])
def xR391 : Nat × MethodName × ByteArray × Nat × Option FieldType × List (Nat × Nat × Nat × Nat) × List Nat := (17, yJ0_length_8abf5, cJ0_length_8abf5, 1, some .int, [], [0])
def xR392 : Nat × MethodName × ByteArray × Nat × Option FieldType × List (Nat × Nat × Nat × Nat) × List Nat := (17, yJ0_charAt_5068e, cJ0_charAt_5068e, 2, some .char, [], [0, 7, 16])
def xR393 : Nat × MethodName × ByteArray × Nat × Option FieldType × List (Nat × Nat × Nat × Nat) × List Nat := (17, yJ0_coder_7d493, cJ0_coder_7d493, 1, some .byte, [], [0, 6, 13, 14])
def xR394 : Nat × MethodName × ByteArray × Nat × Option FieldType × List (Nat × Nat × Nat × Nat) × List Nat := (17, yJ0_isLatin1_aae02, cJ0_isLatin1_aae02, 1, some .boolean, [], [0, 6, 13, 17, 18])
def xR395 : Nat × MethodName × ByteArray × Nat × Option FieldType × List (Nat × Nat × Nat × Nat) × List Nat := (17, yJ0_checkIndex_df160, cJ0_checkIndex_df160, 2, none, [], [0])
def xR396 : Nat × MethodName × ByteArray × Nat × Option FieldType × List (Nat × Nat × Nat × Nat) × List Nat := (18, yJ1_charAt_3b067, cJ1_charAt_3b067, 2, some .char, [], [0])
def xR397 : Nat × MethodName × ByteArray × Nat × Option FieldType × List (Nat × Nat × Nat × Nat) × List Nat := (19, yJ3_checkIndex_8e157, cJ3_checkIndex_8e157, 3, some .int, [], [0, 4, 9, 16])
def xRs : List (Nat × MethodName × ByteArray × Nat × Option FieldType × List (Nat × Nat × Nat × Nat) × List Nat) := [xR0, xR1, xR2, xR3, xR4, xR5, xR6, xR7, xR8, xR9, xR10, xR11, xR12, xR13, xR14, xR15, xR16, xR17, xR18, xR19, xR20, xR21, xR22, xR23, xR24, xR25, xR26, xR27, xR28, xR29, xR30, xR31, xR32, xR33, xR34, xR35, xR36, xR37, xR38, xR39, xR40, xR41, xR42, xR43, xR44, xR45, xR46, xR47, xR48, xR49, xR50, xR51, xR52, xR53, xR54, xR55, xR56, xR57, xR58, xR59, xR60, xR61, xR62, xR63, xR64, xR65, xR66, xR67, xR68, xR69, xR70, xR71, xR72, xR73, xR74, xR75, xR76, xR77, xR78, xR79, xR80, xR81, xR82, xR83, xR84, xR85, xR86, xR87, xR88, xR89, xR90, xR91, xR92, xR93, xR94, xR95, xR96, xR97, xR98, xR99, xR100, xR101, xR102, xR103, xR104, xR105, xR106, xR107, xR108, xR109, xR110, xR111, xR112, xR113, xR114, xR115, xR116, xR117, xR118, xR119, xR120, xR121, xR122, xR123, xR124, xR125, xR126, xR127, xR128, xR129, xR130, xR131, xR132, xR133, xR134, xR135, xR136, xR137, xR138, xR139, xR140, xR141, xR142, xR143, xR144, xR145, xR146, xR147, xR148, xR149, xR150, xR151, xR152, xR153, xR154, xR155, xR156, xR157, xR158, xR159, xR160, xR161, xR162, xR163, xR164, xR165, xR166, xR167, xR168, xR169, xR170, xR171, xR172, xR173, xR174, xR175, xR176, xR177, xR178, xR179, xR180, xR181, xR182, xR183, xR184, xR185, xR186, xR187, xR188, xR189, xR190, xR191, xR192, xR193, xR194, xR195, xR196, xR197, xR198, xR199, xR200, xR201, xR202, xR203, xR204, xR205, xR206, xR207, xR208, xR209, xR210, xR211, xR212, xR213, xR214, xR215, xR216, xR217, xR218, xR219, xR220, xR221, xR222, xR223, xR224, xR225, xR226, xR227, xR228, xR229, xR230, xR231, xR232, xR233, xR234, xR235, xR236, xR237, xR238, xR239, xR240, xR241, xR242, xR243, xR244, xR245, xR246, xR247, xR248, xR249, xR250, xR251, xR252, xR253, xR254, xR255, xR256, xR257, xR258, xR259, xR260, xR261, xR262, xR263, xR264, xR265, xR266, xR267, xR268, xR269, xR270, xR271, xR272, xR273, xR274, xR275, xR276, xR277, xR278, xR279, xR280, xR281, xR282, xR283, xR284, xR285, xR286, xR287, xR288, xR289, xR290, xR291, xR292, xR293, xR294, xR295, xR296, xR297, xR298, xR299, xR300, xR301, xR302, xR303, xR304, xR305, xR306, xR307, xR308, xR309, xR310, xR311, xR312, xR313, xR314, xR315, xR316, xR317, xR318, xR319, xR320, xR321, xR322, xR323, xR324, xR325, xR326, xR327, xR328, xR329, xR330, xR331, xR332, xR333, xR334, xR335, xR336, xR337, xR338, xR339, xR340, xR341, xR342, xR343, xR344, xR345, xR346, xR347, xR348, xR349, xR350, xR351, xR352, xR353, xR354, xR355, xR356, xR357, xR358, xR359, xR360, xR361, xR362, xR363, xR364, xR365, xR366, xR367, xR368, xR369, xR370, xR371, xR372, xR373, xR374, xR375, xR376, xR377, xR378, xR379, xR380, xR381, xR382, xR383, xR384, xR385, xR386, xR387, xR388, xR389, xR390, xR391, xR392, xR393, xR394, xR395, xR396, xR397]
/-- the places of a method's words among lw_tbl: its code, static or instance method, selects, initialized -/
def xWs : List (Nat × Nat × Nat × Nat) := [(425, 424, 0, 102), (1352, 1350, 1351, 102), (1370, 1368, 1369, 102), (226, 225, 0, 97), (746, 744, 745, 97), (1235, 1233, 1234, 97), (1255, 1253, 1254, 97), (890, 888, 889, 97), (1247, 1245, 1246, 97), (1083, 1081, 1082, 97), (376, 375, 0, 100), (761, 759, 760, 100), (765, 763, 764, 100), (1390, 1388, 1389, 100), (1476, 1474, 1475, 100), (1487, 1485, 1486, 100), (1499, 1497, 1498, 100), (1393, 1392, 0, 100), (130, 129, 0, 93), (569, 567, 568, 93), (664, 662, 663, 93), (587, 585, 586, 93), (676, 674, 675, 93), (681, 679, 680, 93), (692, 690, 691, 93), (707, 705, 706, 93), (672, 670, 671, 93), (251, 250, 0, 98), (751, 749, 750, 98), (711, 709, 710, 98), (804, 802, 803, 98), (1113, 1111, 1112, 98), (404, 403, 0, 101), (909, 907, 908, 101), (914, 912, 913, 101), (964, 962, 963, 101), (1046, 1044, 1045, 101), (982, 980, 981, 101), (1064, 1062, 1063, 101), (994, 992, 993, 101), (1006, 1004, 1005, 101), (321, 320, 0, 99), (756, 754, 755, 99), (698, 696, 697, 99), (702, 700, 701, 99), (953, 951, 952, 99), (1029, 1027, 1028, 99), (175, 174, 0, 96), (741, 739, 740, 96), (687, 685, 686, 96), (838, 836, 837, 96), (830, 828, 829, 96), (1216, 1214, 1215, 96), (1212, 1210, 1211, 96), (1222, 1220, 1221, 96), (800, 798, 799, 96), (1034, 1032, 1033, 96), (822, 820, 821, 96), (826, 824, 825, 96), (834, 832, 833, 96), (1171, 1169, 1170, 96), (1167, 1165, 1166, 96), (818, 816, 817, 96), (886, 884, 885, 96), (924, 922, 923, 96), (928, 926, 927, 96), (919, 917, 918, 96), (169, 168, 0, 95), (734, 732, 733, 95), (573, 571, 572, 95), (1199, 1197, 1198, 95), (1203, 1201, 1202, 95), (1227, 1225, 1226, 95), (1239, 1237, 1238, 95), (1101, 1099, 1100, 95), (1208, 1206, 1207, 95), (1231, 1229, 1230, 95), (1243, 1241, 1242, 95), (1251, 1249, 1250, 95), (851, 849, 850, 95), (136, 135, 0, 94), (468, 466, 467, 94), (472, 470, 471, 94), (577, 575, 576, 94), (591, 589, 590, 94), (595, 593, 594, 94), (599, 597, 598, 94), (608, 606, 607, 94), (622, 620, 621, 94), (604, 602, 603, 94), (122, 121, 0, 92), (464, 462, 463, 92), (497, 495, 496, 92), (476, 474, 475, 92), (480, 478, 479, 92), (484, 482, 483, 92), (773, 771, 772, 92), (861, 859, 860, 92), (868, 866, 867, 92), (897, 895, 896, 92), (935, 933, 934, 92), (942, 940, 941, 92), (949, 947, 948, 92), (960, 958, 959, 92), (971, 969, 970, 92), (978, 976, 977, 92), (990, 988, 989, 92), (1002, 1000, 1001, 92), (1014, 1012, 1013, 92), (1025, 1023, 1024, 92), (1042, 1040, 1041, 92), (1053, 1051, 1052, 92), (1060, 1058, 1059, 92), (1072, 1070, 1071, 92), (1079, 1077, 1078, 92), (1090, 1088, 1089, 92), (1097, 1095, 1096, 92), (1109, 1107, 1108, 92), (1120, 1118, 1119, 92), (1127, 1125, 1126, 92), (1135, 1133, 1134, 92), (1142, 1140, 1141, 92), (1149, 1147, 1148, 92), (1156, 1154, 1155, 92), (1163, 1161, 1162, 92), (1178, 1176, 1177, 92), (1191, 1189, 1190, 92), (1262, 1260, 1261, 92), (1269, 1267, 1268, 92), (1280, 1278, 1279, 92), (1287, 1285, 1286, 92), (1294, 1292, 1293, 92), (1301, 1299, 1300, 92), (1312, 1310, 1311, 92), (1319, 1317, 1318, 92), (1326, 1324, 1325, 92), (1334, 1332, 1333, 92), (1341, 1339, 1340, 92), (1348, 1346, 1347, 92), (1359, 1357, 1358, 92), (1366, 1364, 1365, 92), (1379, 1377, 1378, 92), (1386, 1384, 1385, 92), (1405, 1403, 1404, 92), (1413, 1411, 1412, 92), (1421, 1419, 1420, 92), (1431, 1429, 1430, 92), (1439, 1437, 1438, 92), (1447, 1445, 1446, 92), (1454, 1452, 1453, 92), (1462, 1460, 1461, 92), (1471, 1469, 1470, 92), (488, 486, 487, 92), (1483, 1481, 1482, 92), (1494, 1492, 1493, 92), (777, 776, 1, 92), (872, 871, 5, 92), (901, 900, 7, 92), (875, 874, 0, 92), (796, 795, 0, 92), (714, 713, 0, 92), (905, 904, 8, 92), (1195, 1194, 9, 92), (1273, 1272, 10, 92), (1305, 1304, 11, 92), (1398, 1397, 12, 92), (808, 807, 2, 92), (843, 842, 3, 92), (882, 881, 6, 92), (847, 846, 4, 92), (1017, 1016, 0, 92), (1181, 1180, 0, 92), (737, 736, 0, 92), (1504, 1503, 0, 103), (1576, 1574, 1575, 103), (1603, 1602, 0, 103), (1607, 1606, 14, 103), (1700, 1699, 32, 103), (1610, 1609, 0, 103), (1580, 1578, 1579, 103), (1584, 1583, 13, 103), (1588, 1586, 1587, 103), (1592, 1590, 1591, 103), (1596, 1594, 1595, 103), (1622, 1621, 17, 103), (1626, 1625, 18, 103), (1618, 1617, 16, 103), (1645, 1644, 22, 103), (1639, 1638, 21, 103), (1635, 1634, 20, 103), (1631, 1630, 19, 103), (1655, 1654, 23, 103), (1648, 1647, 0, 103), (1651, 1650, 0, 103), (1664, 1663, 25, 103), (1668, 1667, 26, 103), (1660, 1659, 24, 103), (1677, 1676, 28, 103), (1688, 1687, 30, 103), (1692, 1691, 31, 103), (1614, 1613, 15, 103), (1600, 1598, 1599, 103), (1708, 1707, 34, 103), (1672, 1671, 27, 103), (1716, 1715, 36, 103), (1683, 1682, 29, 103), (1724, 1723, 38, 103), (1794, 1793, 53, 103), (1778, 1777, 49, 103), (1802, 1801, 54, 103), (1748, 1747, 44, 103), (1740, 1739, 42, 103), (2027, 2026, 77, 103), (2035, 2034, 79, 103), (2043, 2042, 81, 103), (1790, 1789, 52, 103), (1914, 1913, 67, 103), (2023, 2022, 76, 103), (2019, 2018, 75, 103), (1761, 1760, 47, 103), (1813, 1812, 56, 103), (1817, 1816, 57, 103), (1862, 1861, 62, 103), (1870, 1869, 63, 103), (1930, 1929, 68, 103), (2015, 2014, 74, 103), (2031, 2030, 78, 103), (2039, 2038, 80, 103), (2011, 2010, 73, 103), (2066, 2065, 84, 103), (1704, 1703, 33, 103), (1961, 1960, 69, 103), (1712, 1711, 35, 103), (1720, 1719, 37, 103), (1728, 1727, 39, 103), (1732, 1731, 40, 103), (1736, 1735, 41, 103), (1744, 1743, 43, 103), (1753, 1752, 45, 103), (1696, 1694, 1695, 103), (1766, 1764, 1765, 103), (2116, 2115, 87, 103), (1846, 1845, 61, 103), (1774, 1773, 48, 103), (1782, 1781, 50, 103), (1786, 1785, 51, 103), (1770, 1768, 1769, 103), (1757, 1756, 46, 103), (1805, 1804, 0, 103), (1809, 1808, 55, 103), (1821, 1820, 58, 103), (1826, 1825, 59, 103), (1830, 1829, 60, 103), (1798, 1796, 1797, 103), (1834, 1832, 1833, 103), (1838, 1836, 1837, 103), (1842, 1840, 1841, 103), (1850, 1848, 1849, 103), (1854, 1852, 1853, 103), (1858, 1856, 1857, 103), (1866, 1864, 1865, 103), (1878, 1877, 64, 103), (1874, 1872, 1873, 103), (1882, 1880, 1881, 103), (1886, 1884, 1885, 103), (1894, 1893, 65, 103), (1890, 1888, 1889, 103), (1898, 1896, 1897, 103), (1902, 1900, 1901, 103), (1906, 1904, 1905, 103), (1918, 1916, 1917, 103), (1922, 1920, 1921, 103), (1926, 1924, 1925, 103), (1935, 1933, 1934, 103), (1949, 1947, 1948, 103), (1910, 1909, 66, 103), (1953, 1951, 1952, 103), (1957, 1955, 1956, 103), (1965, 1963, 1964, 103), (1969, 1967, 1968, 103), (1973, 1971, 1972, 103), (1981, 1980, 70, 103), (1977, 1975, 1976, 103), (1985, 1983, 1984, 103), (2003, 2002, 71, 103), (2007, 2006, 72, 103), (2094, 2093, 86, 103), (1999, 1997, 1998, 103), (2051, 2050, 82, 103), (2047, 2045, 2046, 103), (2062, 2061, 0, 103), (2059, 2058, 83, 103), (2055, 2053, 2054, 103), (2070, 2068, 2069, 103), (2074, 2072, 2073, 103), (2078, 2076, 2077, 103), (2082, 2080, 2081, 103), (2090, 2089, 85, 103), (2086, 2084, 2085, 103), (2098, 2096, 2097, 103), (2108, 2106, 2107, 103), (2112, 2110, 2111, 103), (2120, 2118, 2119, 103), (2128, 2127, 88, 103), (2140, 2139, 89, 103), (2124, 2122, 2123, 103), (2132, 2130, 2131, 103), (2136, 2134, 2135, 103), (2144, 2142, 2143, 103), (2152, 2151, 90, 103), (2148, 2146, 2147, 103), (2156, 2154, 2155, 103), (2160, 2158, 2159, 103), (2164, 2162, 2163, 103), (2168, 2166, 2167, 103), (2172, 2170, 2171, 103), (2176, 2174, 2175, 103), (2180, 2178, 2179, 103), (2184, 2182, 2183, 103), (2188, 2186, 2187, 103), (2192, 2190, 2191, 103), (2196, 2194, 2195, 103), (2200, 2198, 2199, 103), (491, 490, 0, 91), (768, 767, 0, 91), (857, 856, 0, 91), (864, 863, 0, 91), (893, 892, 0, 91), (931, 930, 0, 91), (938, 937, 0, 91), (945, 944, 0, 91), (956, 955, 0, 91), (967, 966, 0, 91), (974, 973, 0, 91), (986, 985, 0, 91), (998, 997, 0, 91), (1010, 1009, 0, 91), (1021, 1020, 0, 91), (1038, 1037, 0, 91), (1049, 1048, 0, 91), (1056, 1055, 0, 91), (1068, 1067, 0, 91), (1075, 1074, 0, 91), (1086, 1085, 0, 91), (1093, 1092, 0, 91), (1105, 1104, 0, 91), (1116, 1115, 0, 91), (1123, 1122, 0, 91), (1131, 1130, 0, 91), (1138, 1137, 0, 91), (1145, 1144, 0, 91), (1152, 1151, 0, 91), (1159, 1158, 0, 91), (1174, 1173, 0, 91), (1187, 1186, 0, 91), (1258, 1257, 0, 91), (1265, 1264, 0, 91), (1276, 1275, 0, 91), (1283, 1282, 0, 91), (1290, 1289, 0, 91), (1297, 1296, 0, 91), (1308, 1307, 0, 91), (1315, 1314, 0, 91), (1322, 1321, 0, 91), (1330, 1329, 0, 91), (1337, 1336, 0, 91), (1344, 1343, 0, 91), (1355, 1354, 0, 91), (1362, 1361, 0, 91), (1375, 1374, 0, 91), (1382, 1381, 0, 91), (1401, 1400, 0, 91), (1409, 1408, 0, 91), (1417, 1416, 0, 91), (1427, 1426, 0, 91), (1435, 1434, 0, 91), (1443, 1442, 0, 91), (1450, 1449, 0, 91), (1458, 1457, 0, 91), (1467, 1466, 0, 91), (1479, 1478, 0, 91), (1490, 1489, 0, 91), (0, 0, 0, 91), (811, 810, 0, 115), (854, 853, 0, 108), (583, 582, 0, 108), (580, 579, 0, 108), (1941, 1940, 0, 116), (1938, 1937, 0, 116), (1991, 1990, 0, 117), (1988, 1987, 0, 117), (612, 610, 611, 109), (626, 624, 625, 109), (616, 614, 615, 109), (630, 628, 629, 109), (636, 635, 0, 109), (633, 632, 0, 110), (641, 640, 0, 111)]
/-- fields by pool entries: class, entry, field, place of the word -/
def cpF : List (Nat × Nat × Nat × Nat) := [(10, 10, 320, 436), (10, 19, 321, 437), (10, 23, 322, 438), (10, 29, 323, 439), (10, 36, 324, 440), (10, 43, 325, 441), (10, 50, 326, 442), (10, 54, 327, 443), (10, 58, 96, 348), (10, 68, 289, 140), (10, 87, 97, 350), (10, 94, 98, 352), (10, 104, 262, 291), (10, 108, 224, 180), (10, 113, 99, 354), (10, 116, 100, 356), (10, 126, 192, 325), (10, 127, 264, 297), (10, 131, 128, 256), (10, 134, 256, 276), (10, 141, 263, 294), (10, 145, 32, 230), (10, 148, 257, 278), (10, 155, 258, 280), (10, 158, 259, 282), (10, 175, 260, 286), (10, 192, 229, 194), (10, 195, 230, 198), (10, 198, 226, 185), (10, 201, 227, 187), (10, 204, 228, 190), (10, 213, 232, 202), (10, 216, 225, 183), (10, 232, 193, 328), (10, 235, 194, 331), (10, 236, 195, 334), (10, 239, 261, 288), (10, 249, 160, 407), (10, 265, 129, 259), (10, 267, 130, 262), (10, 270, 131, 265), (10, 273, 33, 233), (10, 276, 34, 235), (10, 277, 35, 237), (10, 314, 161, 409), (10, 353, 0, 428), (10, 360, 1, 430), (10, 399, 65, 383), (10, 414, 68, 387), (0, 9, 0, 427), (0, 15, 1, 429), (1, 9, 32, 228), (1, 15, 33, 231), (1, 19, 34, 234), (1, 22, 35, 236), (2, 9, 64, 381), (2, 15, 65, 382), (2, 20, 66, 384), (2, 24, 67, 385), (2, 27, 68, 386), (3, 12, 96, 347), (3, 21, 97, 349), (3, 28, 98, 351), (3, 32, 99, 353), (3, 36, 100, 355), (3, 42, 192, 324), (3, 56, 293, 146), (3, 66, 291, 143), (3, 86, 260, 285), (3, 89, 294, 148), (3, 94, 262, 292), (3, 98, 224, 181), (3, 111, 264, 296), (3, 115, 128, 255), (4, 9, 128, 253), (4, 15, 129, 257), (4, 19, 130, 260), (4, 22, 131, 263), (5, 9, 160, 406), (5, 15, 161, 408), (5, 18, 162, 410), (5, 22, 163, 411), (5, 25, 262, 290), (5, 31, 224, 178), (5, 36, 193, 327), (5, 41, 194, 330), (5, 48, 260, 284), (5, 55, 230, 196), (5, 62, 229, 192), (5, 65, 195, 333), (6, 9, 192, 323), (6, 15, 193, 326), (6, 19, 194, 329), (6, 22, 195, 332), (6, 25, 196, 335), (7, 9, 224, 177), (7, 15, 225, 182), (7, 19, 226, 184), (7, 22, 227, 186), (7, 25, 228, 188), (7, 28, 229, 191), (7, 31, 230, 195), (7, 34, 231, 199), (7, 37, 232, 201), (8, 9, 256, 275), (8, 15, 257, 277), (8, 18, 258, 279), (8, 21, 259, 281), (8, 24, 260, 283), (8, 28, 261, 287), (8, 34, 262, 289), (8, 41, 263, 293), (8, 48, 264, 295), (8, 66, 224, 179), (8, 69, 32, 229), (8, 70, 128, 254), (8, 84, 129, 258), (8, 86, 130, 261), (8, 93, 131, 264), (8, 100, 229, 193), (8, 103, 228, 189), (8, 112, 231, 200), (8, 115, 230, 197), (8, 139, 33, 232), (9, 9, 288, 138), (9, 15, 289, 139), (9, 19, 290, 141), (9, 22, 291, 142), (9, 25, 292, 144), (9, 28, 293, 145), (9, 31, 294, 147), (11, 9, 353, 1507), (11, 13, 354, 1508), (11, 16, 355, 1509), (11, 19, 356, 1510), (11, 22, 357, 1511), (11, 26, 360, 1514), (11, 30, 363, 1517), (11, 34, 369, 1523), (11, 37, 371, 1525), (11, 40, 372, 1526), (11, 43, 352, 1506), (11, 50, 361, 1515), (11, 57, 362, 1516), (11, 60, 364, 1518), (11, 67, 365, 1519), (11, 70, 366, 1520), (11, 73, 367, 1521), (11, 83, 368, 1522), (11, 170, 358, 1512), (11, 174, 359, 1513), (11, 210, 370, 1524), (11, 388, 373, 1527), (17, 9, 960, 2204), (17, 15, 961, 2205)]
/-- methods by pool entries: class, entry, method, a nest mate's, place of the word -/
def cpM : List (Nat × Nat × Nat × Nat × Nat) := [(10, 9, 18, 1, 128), (10, 18, 67, 1, 369), (10, 28, 41, 1, 371), (10, 35, 10, 0, 374), (10, 42, 32, 1, 402), (10, 49, 0, 1, 423), (10, 62, 81, 0, 465), (10, 79, 19, 0, 566), (10, 83, 160, 0, 712), (10, 90, 68, 0, 731), (10, 95, 42, 0, 753), (10, 98, 11, 0, 758), (10, 101, 12, 0, 762), (10, 119, 155, 0, 774), (10, 122, 159, 0, 794), (10, 137, 55, 0, 797), (10, 151, 30, 0, 801), (10, 161, 166, 0, 805), (10, 164, 383, 0, 809), (10, 169, 62, 0, 815), (10, 172, 57, 0, 819), (10, 179, 58, 0, 823), (10, 182, 59, 0, 831), (10, 185, 167, 0, 840), (10, 188, 156, 0, 869), (10, 207, 50, 0, 877), (10, 210, 51, 0, 878), (10, 219, 168, 0, 879), (10, 222, 63, 0, 883), (10, 225, 7, 0, 887), (10, 229, 157, 0, 898), (10, 242, 169, 0, 844), (10, 245, 161, 0, 902), (10, 252, 66, 0, 916), (10, 255, 64, 0, 921), (10, 258, 65, 0, 925), (10, 261, 158, 0, 873), (10, 278, 45, 0, 950), (10, 281, 35, 0, 961), (10, 284, 37, 0, 979), (10, 288, 39, 0, 991), (10, 292, 40, 0, 1003), (10, 296, 170, 0, 1015), (10, 300, 46, 0, 1026), (10, 303, 56, 0, 1031), (10, 306, 385, 0, 1035), (10, 311, 36, 0, 1043), (10, 317, 38, 0, 1061), (10, 320, 9, 0, 1080), (10, 323, 74, 0, 1098), (10, 326, 31, 0, 1110), (10, 330, 61, 0, 1164), (10, 334, 171, 0, 1179), (10, 338, 162, 0, 1192), (10, 341, 70, 0, 1196), (10, 344, 163, 0, 1270), (10, 347, 164, 0, 1302), (10, 350, 53, 0, 1327), (10, 354, 1, 0, 1349), (10, 357, 2, 0, 1367), (10, 363, 13, 0, 1387), (10, 366, 165, 0, 1395), (10, 369, 75, 0, 1406), (10, 372, 76, 0, 1414), (10, 375, 8, 0, 1422), (10, 378, 77, 0, 1423), (10, 381, 78, 0, 1424), (10, 384, 52, 0, 1432), (10, 387, 60, 0, 1440), (10, 390, 29, 0, 1455), (10, 407, 14, 0, 1473), (10, 410, 15, 0, 1484), (10, 420, 16, 0, 1496), (10, 432, 33, 0, 906), (10, 436, 79, 0, 848), (0, 19, 1, 0, 1371), (0, 23, 384, 0, 1372), (1, 25, 172, 1, 747), (2, 31, 67, 1, 380), (2, 32, 17, 0, 1391), (2, 36, 68, 0, 1394), (3, 11, 80, 1, 134), (3, 20, 67, 1, 167), (3, 27, 41, 1, 319), (3, 39, 69, 0, 570), (3, 45, 83, 0, 574), (3, 49, 21, 0, 584), (3, 53, 84, 0, 588), (3, 59, 22, 0, 673), (3, 62, 20, 0, 661), (3, 71, 89, 0, 601), (3, 82, 26, 0, 669), (3, 101, 23, 0, 678), (3, 106, 24, 0, 689), (3, 118, 25, 0, 704), (3, 121, 87, 0, 682), (3, 125, 88, 0, 683), (3, 129, 49, 0, 684), (3, 137, 43, 0, 695), (3, 141, 44, 0, 699), (3, 144, 29, 0, 708), (4, 25, 172, 1, 752), (5, 44, 79, 0, 910), (5, 51, 34, 0, 911), (5, 56, 384, 0, 915), (5, 68, 45, 0, 983), (5, 72, 386, 0, 1065), (5, 75, 37, 0, 995), (5, 79, 385, 0, 1007), (6, 28, 172, 1, 757), (6, 32, 45, 0, 1030), (7, 40, 172, 1, 742), (7, 45, 386, 0, 1217), (7, 51, 385, 0, 1218), (7, 54, 50, 0, 835), (7, 58, 52, 0, 1223), (7, 62, 51, 0, 827), (7, 65, 60, 0, 1168), (7, 69, 384, 0, 920), (8, 33, 47, 1, 173), (8, 40, 3, 1, 224), (8, 47, 27, 1, 249), (8, 52, 172, 1, 735), (8, 56, 48, 0, 738), (8, 60, 4, 0, 743), (8, 63, 28, 0, 748), (8, 71, 71, 0, 1200), (8, 74, 54, 0, 1219), (8, 78, 72, 0, 1224), (8, 81, 73, 0, 1236), (8, 89, 74, 0, 1204), (8, 96, 75, 0, 1205), (8, 106, 76, 0, 1228), (8, 109, 77, 0, 1240), (8, 118, 8, 0, 1244), (8, 122, 78, 0, 1248), (8, 125, 51, 0, 1102), (8, 129, 53, 0, 1209), (8, 132, 52, 0, 1213), (8, 135, 5, 0, 1232), (8, 142, 6, 0, 1252), (8, 145, 384, 0, 852), (9, 34, 82, 0, 469), (9, 38, 386, 0, 578), (9, 44, 385, 0, 581), (9, 47, 85, 0, 592), (9, 50, 86, 0, 596), (9, 53, 87, 0, 605), (9, 57, 391, 0, 609), (9, 62, 88, 0, 619), (9, 66, 392, 0, 623), (12, 7, 92, 0, 494), (12, 17, 96, 0, 770), (12, 22, 97, 0, 858), (12, 25, 98, 0, 865), (12, 29, 99, 0, 894), (12, 32, 100, 0, 932), (12, 35, 101, 0, 939), (12, 38, 102, 0, 946), (12, 41, 103, 0, 957), (12, 44, 104, 0, 968), (12, 47, 105, 0, 975), (12, 50, 106, 0, 987), (12, 54, 107, 0, 999), (12, 58, 108, 0, 1011), (12, 61, 109, 0, 1022), (12, 64, 110, 0, 1039), (12, 67, 111, 0, 1050), (12, 70, 112, 0, 1057), (12, 73, 113, 0, 1069), (12, 76, 114, 0, 1076), (12, 79, 115, 0, 1087), (12, 82, 116, 0, 1094), (12, 86, 117, 0, 1106), (12, 89, 118, 0, 1117), (12, 92, 119, 0, 1124), (12, 95, 120, 0, 1132), (12, 98, 121, 0, 1139), (12, 101, 122, 0, 1146), (12, 104, 123, 0, 1153), (12, 107, 124, 0, 1160), (12, 111, 125, 0, 1175), (12, 115, 126, 0, 1188), (12, 118, 127, 0, 1259), (12, 121, 128, 0, 1266), (12, 124, 129, 0, 1277), (12, 127, 130, 0, 1284), (12, 130, 131, 0, 1291), (12, 133, 132, 0, 1298), (12, 136, 133, 0, 1309), (12, 140, 134, 0, 1316), (12, 143, 135, 0, 1323), (12, 146, 136, 0, 1331), (12, 149, 137, 0, 1338), (12, 152, 138, 0, 1345), (12, 155, 139, 0, 1356), (12, 158, 140, 0, 1363), (12, 161, 141, 0, 1376), (12, 164, 142, 0, 1383), (12, 167, 143, 0, 1402), (12, 170, 144, 0, 1410), (12, 173, 145, 0, 1418), (12, 176, 146, 0, 1428), (12, 179, 147, 0, 1436), (12, 182, 148, 0, 1444), (12, 185, 149, 0, 1451), (12, 188, 150, 0, 1459), (12, 191, 151, 0, 1468), (12, 194, 153, 0, 1480), (12, 197, 154, 0, 1491), (12, 200, 90, 0, 120), (12, 203, 173, 0, 1502), (12, 204, 91, 0, 461), (12, 208, 179, 0, 1577), (12, 209, 323, 0, 489), (12, 214, 201, 0, 1597), (12, 215, 174, 0, 1573), (12, 218, 93, 0, 473), (12, 221, 181, 0, 1585), (12, 222, 94, 0, 477), (12, 225, 182, 0, 1589), (12, 226, 95, 0, 481), (12, 229, 183, 0, 1593), (12, 230, 324, 0, 766), (12, 232, 239, 0, 1693), (12, 233, 325, 0, 855), (12, 235, 240, 0, 1763), (12, 236, 326, 0, 862), (12, 239, 246, 0, 1767), (12, 240, 327, 0, 891), (12, 242, 253, 0, 1795), (12, 243, 328, 0, 929), (12, 245, 254, 0, 1831), (12, 246, 329, 0, 936), (12, 248, 255, 0, 1835), (12, 249, 330, 0, 943), (12, 251, 256, 0, 1839), (12, 252, 331, 0, 954), (12, 254, 257, 0, 1847), (12, 255, 332, 0, 965), (12, 257, 258, 0, 1851), (12, 258, 333, 0, 972), (12, 260, 259, 0, 1855), (12, 261, 334, 0, 984), (12, 263, 260, 0, 1863), (12, 264, 335, 0, 996), (12, 267, 272, 0, 1923), (12, 268, 336, 0, 1008), (12, 270, 273, 0, 1932), (12, 271, 337, 0, 1019), (12, 273, 274, 0, 1946), (12, 274, 338, 0, 1036), (12, 276, 262, 0, 1871), (12, 277, 339, 0, 1047), (12, 279, 263, 0, 1879), (12, 280, 340, 0, 1054), (12, 282, 264, 0, 1883), (12, 283, 341, 0, 1066), (12, 285, 266, 0, 1887), (12, 286, 342, 0, 1073), (12, 288, 267, 0, 1895), (12, 289, 343, 0, 1084), (12, 291, 268, 0, 1899), (12, 292, 344, 0, 1091), (12, 295, 269, 0, 1903), (12, 296, 345, 0, 1103), (12, 298, 270, 0, 1915), (12, 299, 346, 0, 1114), (12, 301, 271, 0, 1919), (12, 302, 347, 0, 1121), (12, 304, 276, 0, 1950), (12, 305, 348, 0, 1129), (12, 307, 277, 0, 1954), (12, 308, 349, 0, 1136), (12, 310, 278, 0, 1962), (12, 311, 350, 0, 1143), (12, 313, 279, 0, 1966), (12, 314, 351, 0, 1150), (12, 316, 280, 0, 1970), (12, 317, 352, 0, 1157), (12, 320, 282, 0, 1974), (12, 321, 353, 0, 1172), (12, 323, 283, 0, 1982), (12, 324, 354, 0, 1185), (12, 326, 287, 0, 1996), (12, 327, 355, 0, 1256), (12, 329, 289, 0, 2044), (12, 330, 356, 0, 1263), (12, 332, 292, 0, 2052), (12, 333, 357, 0, 1274), (12, 335, 293, 0, 2067), (12, 336, 358, 0, 1281), (12, 338, 294, 0, 2071), (12, 339, 359, 0, 1288), (12, 341, 295, 0, 2075), (12, 342, 360, 0, 1295), (12, 344, 296, 0, 2079), (12, 345, 361, 0, 1306), (12, 348, 298, 0, 2083), (12, 349, 362, 0, 1313), (12, 351, 299, 0, 2095), (12, 352, 363, 0, 1320), (12, 354, 300, 0, 2105), (12, 355, 364, 0, 1328), (12, 357, 301, 0, 2109), (12, 358, 365, 0, 1335), (12, 360, 302, 0, 2117), (12, 361, 366, 0, 1342), (12, 363, 305, 0, 2121), (12, 364, 367, 0, 1353), (12, 366, 306, 0, 2129), (12, 367, 368, 0, 1360), (12, 369, 307, 0, 2133), (12, 370, 369, 0, 1373), (12, 372, 308, 0, 2141), (12, 373, 370, 0, 1380), (12, 375, 310, 0, 2145), (12, 376, 371, 0, 1399), (12, 378, 311, 0, 2153), (12, 379, 372, 0, 1407), (12, 381, 312, 0, 2157), (12, 382, 373, 0, 1415), (12, 384, 313, 0, 2161), (12, 385, 374, 0, 1425), (12, 387, 314, 0, 2165), (12, 388, 375, 0, 1433), (12, 390, 315, 0, 2169), (12, 391, 376, 0, 1441), (12, 393, 316, 0, 2173), (12, 394, 377, 0, 1448), (12, 396, 317, 0, 2177), (12, 397, 378, 0, 1456), (12, 399, 318, 0, 2181), (12, 400, 379, 0, 1465), (12, 402, 319, 0, 2185), (12, 403, 152, 0, 485), (12, 406, 320, 0, 2189), (12, 407, 380, 0, 1477), (12, 409, 321, 0, 2193), (12, 410, 381, 0, 1488), (12, 412, 322, 0, 2197), (11, 46, 176, 0, 1604), (11, 53, 180, 0, 1581), (11, 63, 175, 0, 1601), (11, 76, 184, 0, 1619), (11, 80, 185, 0, 1623), (11, 86, 188, 0, 1636), (11, 89, 391, 0, 1640), (11, 95, 392, 0, 1641), (11, 99, 189, 0, 1632), (11, 103, 187, 0, 1642), (11, 106, 186, 0, 1615), (11, 109, 194, 0, 1661), (11, 113, 195, 0, 1665), (11, 116, 203, 0, 1669), (11, 120, 191, 0, 1652), (11, 128, 205, 0, 1680), (11, 131, 199, 0, 1689), (11, 137, 190, 0, 1628), (11, 141, 192, 0, 1646), (11, 145, 193, 0, 1649), (11, 150, 196, 0, 1657), (11, 155, 197, 0, 1674), (11, 160, 198, 0, 1685), (11, 163, 178, 0, 1608), (11, 167, 200, 0, 1611), (11, 177, 202, 0, 1705), (11, 181, 386, 0, 1822), (11, 186, 385, 0, 1931), (11, 189, 207, 0, 1791), (11, 192, 208, 0, 1775), (11, 195, 211, 0, 1737), (11, 198, 217, 0, 2020), (11, 201, 212, 0, 2024), (11, 204, 204, 0, 1713), (11, 207, 384, 0, 1762), (11, 213, 219, 0, 1758), (11, 216, 221, 0, 1814), (11, 219, 220, 0, 1810), (11, 222, 222, 0, 1859), (11, 225, 206, 0, 1721), (11, 228, 216, 0, 1911), (11, 231, 218, 0, 2016), (11, 234, 210, 0, 1745), (11, 237, 215, 0, 1787), (11, 240, 214, 0, 2040), (11, 243, 225, 0, 2012), (11, 246, 226, 0, 2028), (11, 249, 213, 0, 2032), (11, 252, 227, 0, 2036), (11, 255, 223, 0, 1867), (11, 258, 228, 0, 2008), (11, 261, 247, 0, 1754), (11, 264, 177, 0, 1697), (11, 268, 230, 0, 1701), (11, 271, 232, 0, 1709), (11, 274, 233, 0, 1717), (11, 277, 234, 0, 1725), (11, 280, 235, 0, 1729), (11, 283, 236, 0, 1733), (11, 286, 237, 0, 1741), (11, 289, 238, 0, 1750), (11, 292, 209, 0, 1799), (11, 295, 243, 0, 1771), (11, 299, 244, 0, 1779), (11, 302, 245, 0, 1783), (11, 305, 248, 0, 1803), (11, 308, 249, 0, 1806), (11, 311, 250, 0, 1818), (11, 314, 251, 0, 1823), (11, 317, 252, 0, 1827), (11, 320, 242, 0, 1843), (11, 323, 261, 0, 1875), (11, 326, 265, 0, 1891), (11, 329, 275, 0, 1907), (11, 333, 224, 0, 1927), (11, 337, 388, 0, 1936), (11, 343, 231, 0, 1958), (11, 346, 281, 0, 1978), (11, 350, 390, 0, 1986), (11, 356, 284, 0, 2000), (11, 359, 285, 0, 2004), (11, 362, 288, 0, 2048), (11, 365, 290, 0, 2060), (11, 368, 229, 0, 2063), (11, 371, 291, 0, 2056), (11, 375, 297, 0, 2087), (11, 378, 286, 0, 2091), (11, 385, 241, 0, 2113), (11, 391, 304, 0, 2137), (11, 394, 303, 0, 2125), (11, 397, 309, 0, 2149), (16, 122, 389, 0, 1989), (15, 59, 387, 0, 1939), (17, 335, 393, 0, 613), (17, 492, 394, 0, 627), (17, 495, 396, 0, 631), (17, 1059, 397, 0, 639), (18, 9, 395, 0, 634)]
def cpC : List (Nat × Nat × Nat × Nat) := [(10, 7, 3, 126), (10, 16, 8, 368), (10, 26, 6, 370), (10, 33, 2, 372), (10, 40, 5, 400), (10, 47, 0, 421), (2, 18, 8, 378), (3, 9, 9, 132), (3, 18, 8, 165), (3, 25, 6, 317), (8, 31, 7, 171), (8, 38, 1, 222), (8, 45, 4, 247), (12, 8, 10, 118), (12, 201, 11, 1500)]
def cpK : List (Nat × Nat × Int × Nat) := [(15, 77, 2143289344, 1945), (13, 265, 1431655765, 812), (13, 266, 858993459, 813), (13, 267, 252645135, 814)]
def cpL : List (Nat × Nat × Nat × Nat) := [(10, 329, 3212836864, 1128), (10, 440, 1258291200, 1018), (7, 44, 1120403456, 839), (11, 180, 1120403456, 1749)]
def cpD : List (Nat × Nat × Nat × Nat) := [(10, 443, 4611686018427387904, 1183), (10, 445, 4841369599423283200, 1184)]
def cpJ : List (Nat × Nat × Int × Nat) := [(10, 441, 1023, 1182), (16, 137, 9221120237041090560, 1995)]
def cpO : List (Nat × Nat × Nat) := [(10, 1, 123), (0, 3, 426), (1, 3, 227), (2, 3, 377), (3, 3, 131), (4, 3, 252), (5, 3, 405), (6, 3, 322), (7, 3, 176), (8, 3, 170), (9, 3, 137), (11, 1, 1505)]
/-- texts by pool entries: class, entry, number -/
def cpS : List (Nat × Nat × Nat) := [(10, 74, 0), (3, 69, 1), (3, 92, 2), (3, 104, 3), (3, 133, 4), (3, 135, 5), (3, 109, 6), (10, 429, 7), (10, 423, 8), (10, 425, 9), (10, 404, 10), (10, 418, 11), (11, 135, 12), (11, 148, 13), (11, 153, 14), (11, 124, 15), (11, 126, 16), (11, 158, 17)]
def cpSx : List String := ["not so many bytes in the buffer", "parade", "bearer", "stand", "right", "left", "plan", "an argument does not fit", "no text was loaded", "no such index", "no change can be undone", "nothing is saved there", "parade", "bearer", "stand", "right", "left", "plan"]
def cpG : List (Nat × Nat × Nat × Nat × Nat) := [(10, 393, 0, 0, 1463), (10, 396, 1, 0, 1464), (3, 75, 0, 1, 665), (3, 79, 1, 1, 667), (17, 38, 2, 0, 617), (17, 1053, 4, 0, 637)]
def cpN : List (Nat × Nat × Nat × Nat) := [(11, 382, 2, 2099), (16, 134, 1, 1992), (15, 74, 0, 1942)]
end
section
/-! The words by their places: what the pool entries of 60.names say stands among the tables' words, and is good. -/
def xWS : List Cond := lw_tbl.filter goodWord
def xF (f : Nat) : String × String × String :=
  if f = 960 then ("java/lang/String", "value", "[B") else if f = 961 then ("java/lang/String", "coder", "B")
  else match vwCl[f / 32]? with
    | some (C, T, _) => (C, (T (f % 32)).2.1, (T (f % 32)).2.2.1)
    | none => ("", "", "")
def xG (g : Nat) : String × String × String :=
  if g = 0 then ("BannerParade", "LEAST_SETTINGS", "[I") else if g = 1 then ("BannerParade", "GREATEST_SETTINGS", "[I")
  else if g = 2 then ("java/lang/String", "COMPACT_STRINGS", "Z") else if g = 3 then ("java/lang/Math", "negativeZeroFloatBits", "J")
  else ("jdk/internal/util/Preconditions", "SIOOBE_FORMATTER", "Ljava/util/function/BiFunction;")
def xNt (z : Nat) : MethodName := if z = 0 then ⟨"java/lang/Float", "floatToRawIntBits", "(F)I"⟩ else if z = 2 then ⟨"java/lang/Math", "max", "(FF)F"⟩ else ⟨"java/lang/Double", "doubleToRawLongBits", "(D)J"⟩
def xow (c : Nat) : String := xown.getD c ""
def xrl (y : Nat) : Nat × MethodName × ByteArray × Nat × Option FieldType × List (Nat × Nat × Nat × Nat) × List Nat := xRs.getD y (0, ⟨"", "", ""⟩, ⟨#[]⟩, 0, none, [], [])
abbrev xnm (y : Nat) : MethodName := (xrl y).2.1
def xat (i : Nat) (w : Cond) : Bool := decide (lw_tbl[i]? = some w) && goodWord w
theorem xat_in {i : Nat} {w : Cond} (h : xat i w = true) : w ∈ xWS := by
  unfold xat at h
  rw [Bool.and_eq_true, decide_eq_true_eq] at h
  exact List.mem_filter.mpr ⟨List.mem_of_getElem? h.1, h.2⟩
theorem cpF_ok : (cpF.all fun e => xat e.2.2.2 (.fieldLink (xow e.1) e.2.1 (xF e.2.2.1).1 (xF e.2.2.1).2.1 (xF e.2.2.1).2.2)) = true := by decide +kernel
def xchM (e : Nat × Nat × Nat × Nat × Nat) : Bool := if e.2.2.2.1 = 0 then xat e.2.2.2.2 (.methodLink (xow e.1) e.2.1 (xnm e.2.2.1)) else decide (lw_tbl[e.2.2.2.2]? = some (.methodLinkNest (xow e.1) e.2.1 (xnm e.2.2.1) "BannerParade"))
theorem all_cut {α : Type} (f : α → Bool) (k : Nat) (l : List α) (h1 : (l.take k).all f = true) (h2 : (l.drop k).all f = true) : l.all f = true := by
  rw [← List.take_append_drop k l, List.all_append, h1, h2]; rfl
theorem cpM_0 : (((cpM.drop 0).take 40).all xchM) = true := by decide +kernel
theorem cpM_40 : (((cpM.drop 40).take 40).all xchM) = true := by decide +kernel
theorem cpM_80 : (((cpM.drop 80).take 40).all xchM) = true := by decide +kernel
theorem cpM_120 : (((cpM.drop 120).take 40).all xchM) = true := by decide +kernel
theorem cpM_160 : (((cpM.drop 160).take 40).all xchM) = true := by decide +kernel
theorem cpM_200 : (((cpM.drop 200).take 40).all xchM) = true := by decide +kernel
theorem cpM_240 : (((cpM.drop 240).take 40).all xchM) = true := by decide +kernel
theorem cpM_280 : (((cpM.drop 280).take 40).all xchM) = true := by decide +kernel
theorem cpM_320 : (((cpM.drop 320).take 40).all xchM) = true := by decide +kernel
theorem cpM_360 : (((cpM.drop 360).take 40).all xchM) = true := by decide +kernel
theorem cpM_400 : (((cpM.drop 400).take 40).all xchM) = true := by decide +kernel
theorem cpM_440 : (((cpM.drop 440).take 40).all xchM) = true := by decide +kernel
theorem cpM_end : ((cpM.drop 480).all xchM) = true := by decide +kernel
theorem cpM_from440 : ((cpM.drop 440).all xchM) = true := all_cut xchM 40 _ cpM_440 (by rw [List.drop_drop]; exact cpM_end)
theorem cpM_from400 : ((cpM.drop 400).all xchM) = true := all_cut xchM 40 _ cpM_400 (by rw [List.drop_drop]; exact cpM_from440)
theorem cpM_from360 : ((cpM.drop 360).all xchM) = true := all_cut xchM 40 _ cpM_360 (by rw [List.drop_drop]; exact cpM_from400)
theorem cpM_from320 : ((cpM.drop 320).all xchM) = true := all_cut xchM 40 _ cpM_320 (by rw [List.drop_drop]; exact cpM_from360)
theorem cpM_from280 : ((cpM.drop 280).all xchM) = true := all_cut xchM 40 _ cpM_280 (by rw [List.drop_drop]; exact cpM_from320)
theorem cpM_from240 : ((cpM.drop 240).all xchM) = true := all_cut xchM 40 _ cpM_240 (by rw [List.drop_drop]; exact cpM_from280)
theorem cpM_from200 : ((cpM.drop 200).all xchM) = true := all_cut xchM 40 _ cpM_200 (by rw [List.drop_drop]; exact cpM_from240)
theorem cpM_from160 : ((cpM.drop 160).all xchM) = true := all_cut xchM 40 _ cpM_160 (by rw [List.drop_drop]; exact cpM_from200)
theorem cpM_from120 : ((cpM.drop 120).all xchM) = true := all_cut xchM 40 _ cpM_120 (by rw [List.drop_drop]; exact cpM_from160)
theorem cpM_from80 : ((cpM.drop 80).all xchM) = true := all_cut xchM 40 _ cpM_80 (by rw [List.drop_drop]; exact cpM_from120)
theorem cpM_from40 : ((cpM.drop 40).all xchM) = true := all_cut xchM 40 _ cpM_40 (by rw [List.drop_drop]; exact cpM_from80)
theorem cpM_from0 : ((cpM.drop 0).all xchM) = true := all_cut xchM 40 _ cpM_0 (by rw [List.drop_drop]; exact cpM_from40)
theorem cpM_ok : (cpM.all xchM) = true := cpM_from0
theorem cpC_ok : (cpC.all fun e => xat e.2.2.2 (.classLink (xow e.1) e.2.1 (xow e.2.2.1))) = true := by decide +kernel
theorem cpO_ok : (cpO.all fun e => xat e.2.2 (.methodLink (xow e.1) e.2.1 objectInit)) = true := by decide +kernel
theorem cpK_ok : (cpK.all fun e => xat e.2.2.2 (.constant (xow e.1) e.2.1 (Int32.ofInt e.2.2.1))) = true := by decide +kernel
theorem cpL_ok : (cpL.all fun e => xat e.2.2.2 (.constantFloat (xow e.1) e.2.1 (UInt32.ofNat e.2.2.1))) = true := by decide +kernel
theorem cpD_ok : (cpD.all fun e => xat e.2.2.2 (.constantDouble (xow e.1) e.2.1 (UInt64.ofNat e.2.2.1))) = true := by decide +kernel
theorem cpJ_ok : (cpJ.all fun e => xat e.2.2.2 (.constantLong (xow e.1) e.2.1 (Int64.ofInt e.2.2.1))) = true := by decide +kernel
theorem cpG_ok : (cpG.all fun e => if e.2.2.2.1 = 0 then xat e.2.2.2.2 (.fieldLink (xow e.1) e.2.1 (xG e.2.2.1).1 (xG e.2.2.1).2.1 (xG e.2.2.1).2.2) else decide (lw_tbl[e.2.2.2.2]? = some (.fieldLinkNest (xow e.1) e.2.1 (xG e.2.2.1).1 (xG e.2.2.1).2.1 (xG e.2.2.1).2.2 "BannerParade"))) = true := by decide +kernel
theorem cpN_ok : (cpN.all fun e => xat e.2.2.2 (.methodLink (xow e.1) e.2.1 (xNt e.2.2.1))) = true := by decide +kernel
/-- a method's own words: code (with its table, where it has one), static or instance method, selects, its class initialized -/
def xwm (y : Nat) (rc : Nat) (r : Nat × MethodName × ByteArray × Nat × Option FieldType × List (Nat × Nat × Nat × Nat) × List Nat) (w : Nat × Nat × Nat × Nat) (st : Bool) : Bool :=
  (if r.2.2.2.2.2.1 = [] then xat w.1 (.code r.2.1 r.2.2.1 r.2.2.2.1 r.2.2.2.2.1) else xat w.1 (.codeWith r.2.1 r.2.2.1 r.2.2.2.1 r.2.2.2.2.1 r.2.2.2.2.2.1)) &&
  (if st then xat w.2.1 (.static r.2.1) else xat w.2.1 (.instanceMethod r.2.1)) && (if st || r.2.1.name == "<init>" then true else xat w.2.2.1 (.selects (xow r.1) r.2.1 r.2.1)) && xat w.2.2.2 (.initialized (xow r.1)) && (r.2.1.cls == xow r.1) && decide (y < 1000) && decide (rc < 100)
end
section
/-! The classes: what the tables say of each, by its number. -/
theorem zip_in : ∀ (l : List Cond) (is : List Nat), is.length = l.length → ((l.zip is).all fun q => xat q.2 q.1) = true → ∀ w ∈ l, w ∈ xWS
  | [], _, _, _, w, hw => absurd hw List.not_mem_nil
  | a :: l, [], h, _, w, hw => by simp at h
  | a :: l, i :: is, h, h2, w, hw => by
    rw [List.zip_cons_cons, List.all_cons, Bool.and_eq_true] at h2
    rcases List.mem_cons.mp hw with rfl | hw
    · exact xat_in h2.1
    · exact zip_in l is (by simpa using h) h2.2 w hw
theorem xin0 : ∀ w ∈ u_ws RX0 TX0 2, w ∈ xWS := zip_in _ [431, 433] rfl (by decide +kernel)
theorem xis0 : Cond.instantiable RX0 2 ∈ xWS := xat_in (i := 422) (by decide +kernel)
theorem xii0 : Cond.initialized RX0 ∈ xWS := xat_in (i := 102) (by decide +kernel)
theorem xin1 : ∀ w ∈ u_ws RX1 TX1 4, w ∈ xWS := zip_in _ [238, 240, 242, 244] rfl (by decide +kernel)
theorem xis1 : Cond.instantiable RX1 4 ∈ xWS := xat_in (i := 223) (by decide +kernel)
theorem xii1 : Cond.initialized RX1 ∈ xWS := xat_in (i := 97) (by decide +kernel)
theorem xin2 : ∀ w ∈ u_ws RX2 TX2 5, w ∈ xWS := zip_in _ [388, 390, 392, 394, 396] rfl (by decide +kernel)
theorem xis2 : Cond.instantiable RX2 5 ∈ xWS := xat_in (i := 373) (by decide +kernel)
theorem xii2 : Cond.initialized RX2 ∈ xWS := xat_in (i := 100) (by decide +kernel)
theorem xin3 : ∀ w ∈ u_ws RX3 TX3 5, w ∈ xWS := zip_in _ [357, 359, 361, 363, 365] rfl (by decide +kernel)
theorem xis3 : Cond.instantiable RX3 5 ∈ xWS := xat_in (i := 127) (by decide +kernel)
theorem xii3 : Cond.initialized RX3 ∈ xWS := xat_in (i := 93) (by decide +kernel)
theorem xin4 : ∀ w ∈ u_ws RX4 TX4 4, w ∈ xWS := zip_in _ [266, 268, 270, 272] rfl (by decide +kernel)
theorem xis4 : Cond.instantiable RX4 4 ∈ xWS := xat_in (i := 248) (by decide +kernel)
theorem xii4 : Cond.initialized RX4 ∈ xWS := xat_in (i := 98) (by decide +kernel)
theorem xin5 : ∀ w ∈ u_ws RX5 TX5 4, w ∈ xWS := zip_in _ [412, 414, 416, 418] rfl (by decide +kernel)
theorem xis5 : Cond.instantiable RX5 4 ∈ xWS := xat_in (i := 401) (by decide +kernel)
theorem xii5 : Cond.initialized RX5 ∈ xWS := xat_in (i := 101) (by decide +kernel)
theorem xin6 : ∀ w ∈ u_ws RX6 TX6 5, w ∈ xWS := zip_in _ [336, 338, 340, 342, 344] rfl (by decide +kernel)
theorem xis6 : Cond.instantiable RX6 5 ∈ xWS := xat_in (i := 318) (by decide +kernel)
theorem xii6 : Cond.initialized RX6 ∈ xWS := xat_in (i := 99) (by decide +kernel)
theorem xin7 : ∀ w ∈ u_ws RX7 TX7 9, w ∈ xWS := zip_in _ [203, 205, 207, 209, 211, 213, 215, 217, 219] rfl (by decide +kernel)
theorem xis7 : Cond.instantiable RX7 9 ∈ xWS := xat_in (i := 172) (by decide +kernel)
theorem xii7 : Cond.initialized RX7 ∈ xWS := xat_in (i := 96) (by decide +kernel)
theorem xin8 : ∀ w ∈ u_ws RX8 TX8 9, w ∈ xWS := zip_in _ [298, 300, 302, 304, 306, 308, 310, 312, 314] rfl (by decide +kernel)
theorem xis8 : Cond.instantiable RX8 9 ∈ xWS := xat_in (i := 166) (by decide +kernel)
theorem xii8 : Cond.initialized RX8 ∈ xWS := xat_in (i := 95) (by decide +kernel)
theorem xin9 : ∀ w ∈ u_ws RX9 TX9 7, w ∈ xWS := zip_in _ [149, 151, 153, 155, 157, 159, 161] rfl (by decide +kernel)
theorem xis9 : Cond.instantiable RX9 7 ∈ xWS := xat_in (i := 133) (by decide +kernel)
theorem xii9 : Cond.initialized RX9 ∈ xWS := xat_in (i := 94) (by decide +kernel)
theorem xin10 : ∀ w ∈ u_ws RX10 TX10 8, w ∈ xWS := zip_in _ [444, 446, 448, 450, 452, 454, 456, 458] rfl (by decide +kernel)
theorem xis10 : Cond.instantiable RX10 8 ∈ xWS := xat_in (i := 119) (by decide +kernel)
theorem xii10 : Cond.initialized RX10 ∈ xWS := xat_in (i := 92) (by decide +kernel)
theorem xin11 : ∀ w ∈ u_ws RX11 TX11 22, w ∈ xWS := zip_in _ [1528, 1530, 1532, 1534, 1536, 1538, 1540, 1542, 1544, 1546, 1548, 1550, 1552, 1554, 1556, 1558, 1560, 1562, 1564, 1566, 1568, 1570] rfl (by decide +kernel)
theorem xis11 : Cond.instantiable RX11 22 ∈ xWS := xat_in (i := 1501) (by decide +kernel)
theorem xii11 : Cond.initialized RX11 ∈ xWS := xat_in (i := 103) (by decide +kernel)
def xfT (c k : Nat) (t : FieldType) : Prop := if xref c k then defaultValue t = .null ∧ (∀ v, narrow t v = v) ∧ (∀ a, fits t (.ref a) = true) else defaultValue t = .int 0 ∧ ∀ v : Int32, (xbl c k = false ∨ v = 0 ∨ v = 1) → narrow t (.int v) = .int v ∧ fits t (.int v) = true
theorem xfT_i {c k : Nat} {t : FieldType} (h : t = .int) (hr : xref c k = false) : xfT c k t := by
  subst h; unfold xfT; rw [hr]; exact ⟨rfl, fun v _ => ⟨rfl, rfl⟩⟩
theorem xfT_b {c k : Nat} {t : FieldType} (h : t = .boolean) (hr : xref c k = false) (hb : xbl c k = true) : xfT c k t := by
  subst h; unfold xfT; rw [hr]
  refine ⟨rfl, fun v hv => ?_⟩
  rw [hb] at hv
  rcases hv with q | rfl | rfl
  · cases q
  · exact ⟨by decide, by decide⟩
  · exact ⟨by decide, by decide⟩
theorem xfT_o {c k : Nat} {t : FieldType} {C : String} (h : t = .object C) (hr : xref c k = true) : xfT c k t := by
  subst h; unfold xfT; rw [hr]; exact ⟨rfl, fun v => rfl, fun v => rfl⟩
theorem xfT_a {c k : Nat} {t u : FieldType} (h : t = .array u) (hr : xref c k = true) : xfT c k t := by
  subst h; unfold xfT; rw [hr]; exact ⟨rfl, fun v => rfl, fun v => rfl⟩
/-- what a class's number gives -/
def xcl (c : Nat) (C : String) (T : u_T) (N : Nat) (ty : Nat → FieldType) : Prop :=
  vwCl[c]? = some (C, T, N) ∧ C = xow c ∧ N = xnf.getD c 0 ∧ (∀ w ∈ u_ws C T N, w ∈ xWS) ∧ Cond.instantiable C N ∈ xWS ∧ Cond.initialized C ∈ xWS ∧ (∀ k, k < N → parseFieldDescriptor (T k).2.2.1 = some (ty k)) ∧
  (∀ a, a < N → ∀ b, b < N → a ≠ b → (T a).2.1 ≠ (T b).2.1) ∧ (∀ k, k < N → (T k).1 = C) ∧ ∀ k, k < N → xfT c k (ty k)
theorem xcl0 : xcl 0 RX0 TX0 2 tyX0 := by
  refine ⟨rfl, rfl, rfl, xin0, xis0, xii0, tyX0_ok, nmX0, ?_, ?_⟩
  · intro k hk
    match k, hk with
    | 0, _ => rfl
    | 1, _ => rfl
    | k + 2, hk => exact absurd hk (by omega)
  · intro k hk
    match k, hk with
    | 0, _ => exact xfT_i rfl rfl
    | 1, _ => exact xfT_a rfl rfl
    | k + 2, hk => exact absurd hk (by omega)
theorem xcl1 : xcl 1 RX1 TX1 4 tyX1 := by
  refine ⟨rfl, rfl, rfl, xin1, xis1, xii1, tyX1_ok, nmX1, ?_, ?_⟩
  · intro k hk
    match k, hk with
    | 0, _ => rfl
    | 1, _ => rfl
    | 2, _ => rfl
    | 3, _ => rfl
    | k + 4, hk => exact absurd hk (by omega)
  · intro k hk
    match k, hk with
    | 0, _ => exact xfT_i rfl rfl
    | 1, _ => exact xfT_a rfl rfl
    | 2, _ => exact xfT_a rfl rfl
    | 3, _ => exact xfT_a rfl rfl
    | k + 4, hk => exact absurd hk (by omega)
theorem xcl2 : xcl 2 RX2 TX2 5 tyX2 := by
  refine ⟨rfl, rfl, rfl, xin2, xis2, xii2, tyX2_ok, nmX2, ?_, ?_⟩
  · intro k hk
    match k, hk with
    | 0, _ => rfl
    | 1, _ => rfl
    | 2, _ => rfl
    | 3, _ => rfl
    | 4, _ => rfl
    | k + 5, hk => exact absurd hk (by omega)
  · intro k hk
    match k, hk with
    | 0, _ => exact xfT_i rfl rfl
    | 1, _ => exact xfT_i rfl rfl
    | 2, _ => exact xfT_a rfl rfl
    | 3, _ => exact xfT_a rfl rfl
    | 4, _ => exact xfT_a rfl rfl
    | k + 5, hk => exact absurd hk (by omega)
theorem xcl3 : xcl 3 RX3 TX3 5 tyX3 := by
  refine ⟨rfl, rfl, rfl, xin3, xis3, xii3, tyX3_ok, nmX3, ?_, ?_⟩
  · intro k hk
    match k, hk with
    | 0, _ => rfl
    | 1, _ => rfl
    | 2, _ => rfl
    | 3, _ => rfl
    | 4, _ => rfl
    | k + 5, hk => exact absurd hk (by omega)
  · intro k hk
    match k, hk with
    | 0, _ => exact xfT_o rfl rfl
    | 1, _ => exact xfT_o rfl rfl
    | 2, _ => exact xfT_o rfl rfl
    | 3, _ => exact xfT_i rfl rfl
    | 4, _ => exact xfT_i rfl rfl
    | k + 5, hk => exact absurd hk (by omega)
theorem xcl4 : xcl 4 RX4 TX4 4 tyX4 := by
  refine ⟨rfl, rfl, rfl, xin4, xis4, xii4, tyX4_ok, nmX4, ?_, ?_⟩
  · intro k hk
    match k, hk with
    | 0, _ => rfl
    | 1, _ => rfl
    | 2, _ => rfl
    | 3, _ => rfl
    | k + 4, hk => exact absurd hk (by omega)
  · intro k hk
    match k, hk with
    | 0, _ => exact xfT_i rfl rfl
    | 1, _ => exact xfT_a rfl rfl
    | 2, _ => exact xfT_a rfl rfl
    | 3, _ => exact xfT_a rfl rfl
    | k + 4, hk => exact absurd hk (by omega)
theorem xcl5 : xcl 5 RX5 TX5 4 tyX5 := by
  refine ⟨rfl, rfl, rfl, xin5, xis5, xii5, tyX5_ok, nmX5, ?_, ?_⟩
  · intro k hk
    match k, hk with
    | 0, _ => rfl
    | 1, _ => rfl
    | 2, _ => rfl
    | 3, _ => rfl
    | k + 4, hk => exact absurd hk (by omega)
  · intro k hk
    match k, hk with
    | 0, _ => exact xfT_i rfl rfl
    | 1, _ => exact xfT_i rfl rfl
    | 2, _ => exact xfT_a rfl rfl
    | 3, _ => exact xfT_a rfl rfl
    | k + 4, hk => exact absurd hk (by omega)
theorem xcl6 : xcl 6 RX6 TX6 5 tyX6 := by
  refine ⟨rfl, rfl, rfl, xin6, xis6, xii6, tyX6_ok, nmX6, ?_, ?_⟩
  · intro k hk
    match k, hk with
    | 0, _ => rfl
    | 1, _ => rfl
    | 2, _ => rfl
    | 3, _ => rfl
    | 4, _ => rfl
    | k + 5, hk => exact absurd hk (by omega)
  · intro k hk
    match k, hk with
    | 0, _ => exact xfT_i rfl rfl
    | 1, _ => exact xfT_a rfl rfl
    | 2, _ => exact xfT_a rfl rfl
    | 3, _ => exact xfT_a rfl rfl
    | 4, _ => exact xfT_a rfl rfl
    | k + 5, hk => exact absurd hk (by omega)
theorem xcl7 : xcl 7 RX7 TX7 9 tyX7 := by
  refine ⟨rfl, rfl, rfl, xin7, xis7, xii7, tyX7_ok, nmX7, ?_, ?_⟩
  · intro k hk
    match k, hk with
    | 0, _ => rfl
    | 1, _ => rfl
    | 2, _ => rfl
    | 3, _ => rfl
    | 4, _ => rfl
    | 5, _ => rfl
    | 6, _ => rfl
    | 7, _ => rfl
    | 8, _ => rfl
    | k + 9, hk => exact absurd hk (by omega)
  · intro k hk
    match k, hk with
    | 0, _ => exact xfT_i rfl rfl
    | 1, _ => exact xfT_a rfl rfl
    | 2, _ => exact xfT_a rfl rfl
    | 3, _ => exact xfT_a rfl rfl
    | 4, _ => exact xfT_a rfl rfl
    | 5, _ => exact xfT_a rfl rfl
    | 6, _ => exact xfT_a rfl rfl
    | 7, _ => exact xfT_a rfl rfl
    | 8, _ => exact xfT_a rfl rfl
    | k + 9, hk => exact absurd hk (by omega)
theorem xcl8 : xcl 8 RX8 TX8 9 tyX8 := by
  refine ⟨rfl, rfl, rfl, xin8, xis8, xii8, tyX8_ok, nmX8, ?_, ?_⟩
  · intro k hk
    match k, hk with
    | 0, _ => rfl
    | 1, _ => rfl
    | 2, _ => rfl
    | 3, _ => rfl
    | 4, _ => rfl
    | 5, _ => rfl
    | 6, _ => rfl
    | 7, _ => rfl
    | 8, _ => rfl
    | k + 9, hk => exact absurd hk (by omega)
  · intro k hk
    match k, hk with
    | 0, _ => exact xfT_i rfl rfl
    | 1, _ => exact xfT_i rfl rfl
    | 2, _ => exact xfT_i rfl rfl
    | 3, _ => exact xfT_i rfl rfl
    | 4, _ => exact xfT_a rfl rfl
    | 5, _ => exact xfT_a rfl rfl
    | 6, _ => exact xfT_o rfl rfl
    | 7, _ => exact xfT_o rfl rfl
    | 8, _ => exact xfT_o rfl rfl
    | k + 9, hk => exact absurd hk (by omega)
theorem xcl9 : xcl 9 RX9 TX9 7 tyX9 := by
  refine ⟨rfl, rfl, rfl, xin9, xis9, xii9, tyX9_ok, nmX9, ?_, ?_⟩
  · intro k hk
    match k, hk with
    | 0, _ => rfl
    | 1, _ => rfl
    | 2, _ => rfl
    | 3, _ => rfl
    | 4, _ => rfl
    | 5, _ => rfl
    | 6, _ => rfl
    | k + 7, hk => exact absurd hk (by omega)
  · intro k hk
    match k, hk with
    | 0, _ => exact xfT_a rfl rfl
    | 1, _ => exact xfT_i rfl rfl
    | 2, _ => exact xfT_i rfl rfl
    | 3, _ => exact xfT_i rfl rfl
    | 4, _ => exact xfT_i rfl rfl
    | 5, _ => exact xfT_i rfl rfl
    | 6, _ => exact xfT_i rfl rfl
    | k + 7, hk => exact absurd hk (by omega)
theorem xcl10 : xcl 10 RX10 TX10 8 tyX10 := by
  refine ⟨rfl, rfl, rfl, xin10, xis10, xii10, tyX10_ok, nmX10, ?_, ?_⟩
  · intro k hk
    match k, hk with
    | 0, _ => rfl
    | 1, _ => rfl
    | 2, _ => rfl
    | 3, _ => rfl
    | 4, _ => rfl
    | 5, _ => rfl
    | 6, _ => rfl
    | 7, _ => rfl
    | k + 8, hk => exact absurd hk (by omega)
  · intro k hk
    match k, hk with
    | 0, _ => exact xfT_o rfl rfl
    | 1, _ => exact xfT_o rfl rfl
    | 2, _ => exact xfT_o rfl rfl
    | 3, _ => exact xfT_o rfl rfl
    | 4, _ => exact xfT_o rfl rfl
    | 5, _ => exact xfT_o rfl rfl
    | 6, _ => exact xfT_o rfl rfl
    | 7, _ => exact xfT_b rfl rfl rfl
    | k + 8, hk => exact absurd hk (by omega)
theorem xcl11 : xcl 11 RX11 TX11 22 tyX11 := by
  refine ⟨rfl, rfl, rfl, xin11, xis11, xii11, tyX11_ok, nmX11, ?_, ?_⟩
  · intro k hk
    match k, hk with
    | 0, _ => rfl
    | 1, _ => rfl
    | 2, _ => rfl
    | 3, _ => rfl
    | 4, _ => rfl
    | 5, _ => rfl
    | 6, _ => rfl
    | 7, _ => rfl
    | 8, _ => rfl
    | 9, _ => rfl
    | 10, _ => rfl
    | 11, _ => rfl
    | 12, _ => rfl
    | 13, _ => rfl
    | 14, _ => rfl
    | 15, _ => rfl
    | 16, _ => rfl
    | 17, _ => rfl
    | 18, _ => rfl
    | 19, _ => rfl
    | 20, _ => rfl
    | 21, _ => rfl
    | k + 22, hk => exact absurd hk (by omega)
  · intro k hk
    match k, hk with
    | 0, _ => exact xfT_i rfl rfl
    | 1, _ => exact xfT_a rfl rfl
    | 2, _ => exact xfT_a rfl rfl
    | 3, _ => exact xfT_a rfl rfl
    | 4, _ => exact xfT_a rfl rfl
    | 5, _ => exact xfT_a rfl rfl
    | 6, _ => exact xfT_b rfl rfl rfl
    | 7, _ => exact xfT_i rfl rfl
    | 8, _ => exact xfT_a rfl rfl
    | 9, _ => exact xfT_i rfl rfl
    | 10, _ => exact xfT_i rfl rfl
    | 11, _ => exact xfT_i rfl rfl
    | 12, _ => exact xfT_i rfl rfl
    | 13, _ => exact xfT_i rfl rfl
    | 14, _ => exact xfT_i rfl rfl
    | 15, _ => exact xfT_i rfl rfl
    | 16, _ => exact xfT_i rfl rfl
    | 17, _ => exact xfT_a rfl rfl
    | 18, _ => exact xfT_i rfl rfl
    | 19, _ => exact xfT_a rfl rfl
    | 20, _ => exact xfT_a rfl rfl
    | 21, _ => exact xfT_i rfl rfl
    | k + 22, hk => exact absurd hk (by omega)
theorem xcls {c : Nat} (h : c < 12) : ∃ (C : String) (T : u_T) (N : Nat) (ty : Nat → FieldType), xcl c C T N ty := by
  match c, h with
  | 0, _ => exact ⟨_, _, _, _, xcl0⟩
  | 1, _ => exact ⟨_, _, _, _, xcl1⟩
  | 2, _ => exact ⟨_, _, _, _, xcl2⟩
  | 3, _ => exact ⟨_, _, _, _, xcl3⟩
  | 4, _ => exact ⟨_, _, _, _, xcl4⟩
  | 5, _ => exact ⟨_, _, _, _, xcl5⟩
  | 6, _ => exact ⟨_, _, _, _, xcl6⟩
  | 7, _ => exact ⟨_, _, _, _, xcl7⟩
  | 8, _ => exact ⟨_, _, _, _, xcl8⟩
  | 9, _ => exact ⟨_, _, _, _, xcl9⟩
  | 10, _ => exact ⟨_, _, _, _, xcl10⟩
  | 11, _ => exact ⟨_, _, _, _, xcl11⟩
  | c + 12, h => exact absurd h (by omega)
end
section
/-! The world of the real heap that stands for X's heap. -/
def xre (ad : Nat → Nat) (sv : Value) : Value → Value
  | .ref a => .ref (ad a)
  | .retAddr _ => sv
  | v => v
def xfv (ad : Nat → Nat) (m : XM) (a : Nat) (x : XC) (k : Nat) : Value := if xref x.1 k then va_rf ((x.2.2.getD k none).map ad) else .int (m a k)
def xcell (ad : Nat → Nat) (cA : Nat → ClassId) (w : Nat → Value) (m : XM) (a : Nat) (x : XC) : va_E :=
  if x.1 < 20 then .inr (x.1, (List.range x.2.1).map (xfv ad m a x))
  else if x.1 = 23 then .inl (cA 23, x.2.1, .inr (.inl (fun j => if j = 0 then xtl (w a) else 0)))
  else if x.1 = 24 then .inl (cA 24, x.2.1, .inr (.inr (.inr (.inl (fun j => if j = 0 then xtd (w a) else 0)))))
  else if x.1 = 25 then .inl (cA 25, x.2.1, .inr (.inr (.inr (.inr (fun k => (x.2.2.getD k none).map ad)))))
  else .inl (cA x.1, x.2.1, .inl (m a))
def xws (ad : Nat → Nat) (cA : Nat → ClassId) (σ : XS) : va_W := σ.1.mapIdx (fun a x => (ad a, xcell ad cA σ.2.2.1 σ.2.2.2 a x))
abbrev xtys (cA : Nat → ClassId) : List (ClassId × FieldType) := [(cA 20, .int), (cA 21, .byte), (cA 22, .boolean), (cA 23, .long), (cA 24, .double), (cA 25, .object RX8)]
theorem xws_at {ad : Nat → Nat} {cA : Nat → ClassId} {σ : XS} {a : Nat} {x : XC} (h : σ.1[a]? = some x) : (xws ad cA σ)[a]? = some (ad a, xcell ad cA σ.2.2.1 σ.2.2.2 a x) := by
  unfold xws
  rw [List.getElem?_mapIdx, h]
  rfl
theorem xws_len {ad : Nat → Nat} {cA : Nat → ClassId} {σ : XS} : (xws ad cA σ).length = σ.1.length := by
  unfold xws; exact List.length_mapIdx
theorem xcell_um {ad : Nat → Nat} {cA : Nat → ClassId} {w : Nat → Value} {m : XM} {a a' k : Nat} {v : Int32} {x : XC} (h : a' ≠ a) : xcell ad cA w (um m a k v) a' x = xcell ad cA w m a' x := by
  have e : (um m a k v) a' = m a' := by
    funext j; unfold um; rw [if_neg (fun q => h q.1)]
  unfold xcell xfv
  rw [e]
theorem xcell_uz {ad : Nat → Nat} {cA : Nat → ClassId} {w : Nat → Value} {m : XM} {a a' : Nat} {x : XC} (h : a' ≠ a) : xcell ad cA w (uz m a) a' x = xcell ad cA w m a' x := by
  have e : (uz m a) a' = m a' := by
    funext j; unfold uz; rw [if_neg h]
  unfold xcell xfv
  rw [e]
theorem xcell_uw {ad : Nat → Nat} {cA : Nat → ClassId} {w : Nat → Value} {m : XM} {a a' : Nat} {v : Value} {x : XC} (h : a' ≠ a) : xcell ad cA (uw w a v) m a' x = xcell ad cA w m a' x := by
  have e : (uw w a v) a' = w a' := by unfold uw; rw [if_neg h]
  unfold xcell
  rw [e]
/-- one cell changes -/
theorem xws_set {ad : Nat → Nat} {cA : Nat → ClassId} {σ τ : XS} {a : Nat} {x : XC} (h : σ.1[a]? = some x) (hS : τ.1 = σ.1.set a x ∨ ∃ y, τ.1 = σ.1.set a y) (y : XC) (hy : τ.1[a]? = some y)
    (hne : ∀ a' z, a' ≠ a → xcell ad cA τ.2.2.1 τ.2.2.2 a' z = xcell ad cA σ.2.2.1 σ.2.2.2 a' z) : xws ad cA τ = (xws ad cA σ).set a (ad a, xcell ad cA τ.2.2.1 τ.2.2.2 a y) := by
  have hl : τ.1.length = σ.1.length := by rcases hS with e | ⟨z, e⟩ <;> rw [e, List.length_set]
  have ha : a < σ.1.length := (List.getElem?_eq_some_iff.mp h).1
  apply List.ext_getElem?
  intro i
  by_cases hi : i = a
  · subst hi
    rw [xws_at hy, List.getElem?_set_self (by rw [xws_len]; exact ha)]
  · rw [List.getElem?_set_ne (Ne.symm hi)]
    unfold xws
    rw [List.getElem?_mapIdx, List.getElem?_mapIdx]
    have e : τ.1[i]? = σ.1[i]? := by
      rcases hS with e | ⟨z, e⟩ <;> rw [e, List.getElem?_set_ne (Ne.symm hi)]
    rw [e]
    cases hz : σ.1[i]? with
    | none => rfl
    | some z => simp only [Option.map_some]; rw [hne i z hi]
theorem xws_um {ad : Nat → Nat} {cA : Nat → ClassId} {S : List XC} {e : Nat} {w : Nat → Value} {m : XM} {a k : Nat} {v : Int32} {x : XC} (h : S[a]? = some x) : xws ad cA (S, e, w, um m a k v) = (xws ad cA (S, e, w, m)).set a (ad a, xcell ad cA w (um m a k v) a x) :=
  xws_set (σ := (S, e, w, m)) (τ := (S, e, w, um m a k v)) h (Or.inl (by
    show S = S.set a x
    have hl := (List.getElem?_eq_some_iff.mp h)
    obtain ⟨h1, h2⟩ := hl
    rw [← h2, List.set_getElem_self])) x h (fun a' z q => xcell_um q)
theorem xws_uw {ad : Nat → Nat} {cA : Nat → ClassId} {S : List XC} {e : Nat} {w : Nat → Value} {m : XM} {a : Nat} {v : Value} {x : XC} (h : S[a]? = some x) : xws ad cA (S, e, uw w a v, m) = (xws ad cA (S, e, w, m)).set a (ad a, xcell ad cA (uw w a v) m a x) :=
  xws_set (σ := (S, e, w, m)) (τ := (S, e, uw w a v, m)) h (Or.inl (by
    show S = S.set a x
    have hl := (List.getElem?_eq_some_iff.mp h)
    obtain ⟨h1, h2⟩ := hl
    rw [← h2, List.set_getElem_self])) x h (fun a' z q => xcell_uw q)
theorem xws_cell {ad : Nat → Nat} {cA : Nat → ClassId} {S : List XC} {e : Nat} {w : Nat → Value} {m : XM} {a : Nat} {x y : XC} (h : S[a]? = some x) : xws ad cA (S.set a y, e, w, m) = (xws ad cA (S, e, w, m)).set a (ad a, xcell ad cA w m a y) :=
  xws_set (σ := (S, e, w, m)) (τ := (S.set a y, e, w, m)) h (Or.inr ⟨y, rfl⟩) y (by
    show (S.set a y)[a]? = some y
    rw [List.getElem?_set_self (List.getElem?_eq_some_iff.mp h).1]) (fun a' z q => rfl)
def xad (ad : Nat → Nat) (a q : Nat) : Nat → Nat := fun a' => if a' = a then q else ad a'
/-- references stay inside the cells that there are -/
def xgood (S : List XC) : Prop := ∀ (a : Nat) (x : XC), S[a]? = some x → ∀ (k : Nat) (b : Nat), x.2.2.getD k none = some b → b < S.length
theorem xcell_ad {ad ad' : Nat → Nat} {cA : Nat → ClassId} {w : Nat → Value} {m : XM} {a : Nat} {x : XC} {n : Nat} (h : ∀ a', a' < n → ad' a' = ad a') (hg : ∀ (k : Nat) (b : Nat), x.2.2.getD k none = some b → b < n) : xcell ad' cA w m a x = xcell ad cA w m a x := by
  have e : ∀ k, (x.2.2.getD k none).map ad' = (x.2.2.getD k none).map ad := by
    intro k
    cases hk : x.2.2.getD k none with
    | none => rfl
    | some b => simp only [Option.map_some]; rw [h b (hg k b hk)]
  unfold xcell xfv
  simp only [e]
/-- a new cell -/
theorem xws_push {ad : Nat → Nat} {cA : Nat → ClassId} {S : List XC} {e : Nat} {w w' : Nat → Value} {m : XM} {q : Nat} {x : XC} (hg : xgood S) (hw : ∀ a', a' ≠ S.length → w' a' = w a') : xws (xad ad S.length q) cA (S ++ [x], e, w', uz m S.length) = xws ad cA (S, e, w, m) ++ [(q, xcell (xad ad S.length q) cA w' (uz m S.length) S.length x)] := by
  have hA : ∀ a', a' < S.length → (xad ad S.length q) a' = ad a' := fun a' h => by unfold xad; rw [if_neg (by omega)]
  apply List.ext_getElem?
  intro i
  unfold xws
  dsimp only
  rw [List.getElem?_mapIdx]
  rcases Nat.lt_trichotomy i S.length with hi | hi | hi
  · rw [List.getElem?_append_left hi, List.getElem?_append_left (by rw [List.length_mapIdx]; exact hi), List.getElem?_mapIdx]
    cases hz : S[i]? with
    | none => rfl
    | some z =>
      simp only [Option.map_some]
      have h1 : xcell (xad ad S.length q) cA w' (uz m S.length) i z = xcell ad cA w m i z := by
        rw [xcell_uz (by omega), xcell_ad (n := S.length) hA (hg i z hz)]
        unfold xcell
        rw [hw i (by omega)]
      rw [h1, hA i hi]
  · subst hi
    rw [List.getElem?_append_right (Nat.le_refl _), List.getElem?_append_right (by rw [List.length_mapIdx]; exact Nat.le_refl _), List.length_mapIdx, Nat.sub_self]
    have e1 : (xad ad S.length q) S.length = q := by unfold xad; rw [if_pos rfl]
    simp only [List.getElem?_cons_zero, Option.map_some, e1]
  · rw [List.getElem?_eq_none (by simp; omega), List.getElem?_eq_none (by simp; omega)]
    rfl
end
section
/-! What stays true of the real world around X's cells, and the relation of a walk's point to X's. -/
def xNWk (w : Cond) : Bool := match w with
  | .declares _ => true
  | .castable _ _ => true
  | .methodLinkNest _ _ _ _ => true
  | .fieldLinkNest _ _ _ _ _ _ => true
  | _ => false
def xNW : List Cond := lw_tbl.filter xNWk
def xexn : Nat → String
  | 0 => "java/lang/IllegalStateException"
  | 1 => "java/lang/IllegalArgumentException"
  | _ => "java/lang/IndexOutOfBoundsException"
def xlens : List Nat := xstr.map List.length
def xEnv (ad : Nat → Nat) (sv : Value) (A : Nat → Prop) (U : State) (H : Heap) : Prop :=
  (va_Z "BannerParade" "LEAST_SETTINGS" "[I" (.ref (ad 1000001)) A U H ∧ va_T .int (ad 1000001) 6 (fun j => .int ([1, 0, 1, 0, 1, 0].getD j 0)) A U H) ∧
  (va_Z "BannerParade" "GREATEST_SETTINGS" "[I" (.ref (ad 1000002)) A U H ∧ va_T .int (ad 1000002) 6 (fun j => .int ([999, 9999, 9999, 50, 100, 9999].getD j 0)) A U H) ∧
  va_Z "java/lang/String" "COMPACT_STRINGS" "Z" (.int 1) A U H ∧ va_Z "java/lang/Math" "negativeZeroFloatBits" "J" (.long (-2147483648)) A U H ∧
  va_Z "jdk/internal/util/Preconditions" "SIOOBE_FORMATTER" "Ljava/util/function/BiFunction;" sv A U H ∧
  vk_S 18 xlens xstr (fun i => ad (1000010 + i)) (fun i => ad (1000040 + i)) A U H ∧ (∀ q ∈ cpS, vk_R (xow q.1) q.2.1 (cpSx.getD q.2.2 "") (ad (1000010 + q.2.2)) U) ∧
  vx_Zq Bundle.tN "UNASSIGNED_STACK" Bundle.steD A U H ∧ vx_Zq Bundle.tN "SUPPRESSED_SENTINEL" Bundle.listD A U H ∧ (∀ w ∈ xNW, va_Nw w U) ∧
  (∀ i j : Nat, i < 3 → j < 3 → i ≠ j → va_Nc (xexn i) (xexn j) U) ∧ sv.category = 1 ∧ va_AO RX8 U
theorem xNW_warm {w : Cond} (hw : w ∈ xNW) {s U : State} (hW : s.WarmedH U.vm) (h : va_Nw w s) : va_Nw w U := by
  have h1 := (List.mem_filter.mp hw).2
  cases w with
  | declares x => exact va_Nw.warmD hW h
  | castable a b => exact va_Nw.warmC hW h
  | methodLinkNest a b c d => exact va_Nw.warmM hW h
  | fieldLinkNest a b c d e f => exact va_Nw.warmF hW h
  | _ => cases h1
theorem xEnv.to {ad : Nat → Nat} {sv : Value} {A : Nat → Prop} {u U : State} {H H1 : Heap} (h : xEnv ad sv A u H) (hW : u.WarmedH U.vm) (hq : ∀ a : Nat, a < H.size → ¬ A a → H1[a]? = H[a]?) : xEnv ad sv A U H1 := by
  obtain ⟨⟨a1, a2⟩, ⟨b1, b2⟩, c1, d1, e1, f1, g1, i1, j1, k1, l1, m1, n1⟩ := h
  have hv := hW.alike
  refine ⟨⟨(a1.moved hv).kept hq, (a2.moved hv).kept hq⟩, ⟨(b1.moved hv).kept hq, (b2.moved hv).kept hq⟩, (c1.moved hv).kept hq, (d1.moved hv).kept hq, (e1.moved hv).kept hq, (f1.moved hv).kept hq, fun q hq => vk_R.warm hW (g1 q hq), (i1.moved hv).kept hq, (j1.moved hv).kept hq, fun w hw => xNW_warm hw hW (k1 w hw), fun i j hi hj hn => (l1 i j hi hj hn).moved hv, m1, n1.moved hv⟩
theorem cpS_lt : (cpS.all fun q => decide (q.2.2 < 18)) = true := by decide +kernel
theorem xEnv.ad {ad ad' : Nat → Nat} {sv : Value} {A : Nat → Prop} {U : State} {H : Heap} (h : xEnv ad sv A U H) (e : ∀ a, 1000000 ≤ a → ad' a = ad a) : xEnv ad' sv A U H := by
  obtain ⟨⟨a1, a2⟩, ⟨b1, b2⟩, c1, d1, e1, f1, g1, i1, j1, k1, l1, m1, n1⟩ := h
  have z1 : (fun i => ad' (1000010 + i)) = fun i => ad (1000010 + i) := funext fun i => e _ (by omega)
  have z2 : (fun i => ad' (1000040 + i)) = fun i => ad (1000040 + i) := funext fun i => e _ (by omega)
  refine ⟨⟨by rw [e _ (by omega)]; exact a1, by rw [e _ (by omega)]; exact a2⟩, ⟨by rw [e _ (by omega)]; exact b1, by rw [e _ (by omega)]; exact b2⟩, c1, d1, e1, by rw [z1, z2]; exact f1, fun q hq => by rw [e _ (by omega)]; exact g1 q hq, i1, j1, k1, l1, m1, n1⟩
def nC (σ : XS) : Nat := σ.1.length + σ.2.1
def nS (σ : XS) : Nat := (σ.1.map (fun x => x.2.1)).sum + 6 * σ.2.1
abbrev xreL (ad : Nat → Nat) (sv : Value) (ls : XL) : List (Nat × Value) := ls.map (fun q => (q.1, xre ad sv q.2))
/-- the heap stands for σ, by ad -/
def xWf (D : va_G) (cA : Nat → ClassId) (A : Nat → Prop) (s : State) (adc ad : Nat → Nat) (σ : XS) (H : Heap) (locs : List Loc) : Prop :=
  va_P D vwCl (xws ad cA σ) H ∧ va_D A (xws ad cA σ) ∧ va_S A s.heap H locs ∧ ∀ a, 1000000 ≤ a → ad a = adc a
/-- what holds through a method's body -/
def xCx (p : Program) (s : State) (m : MethodId) (args : Array Value) (meth : Method) (c : Code) (D : va_G) (cA : Nat → ClassId) (A : Nat → Prop) (sv : Value) (adc : Nat → Nat) (own : Nat) (cc : ByteArray) (nL : Nat) (nm : MethodName) : Prop :=
  p.tables.exec = Jvm.exec ∧ c.code = cc ∧ c.maxLocals = nL ∧ s.vm.findClass (xow own) = some m.cls ∧ (∀ w ∈ xWS, w.before args s = true) ∧ va_K D vwCl (xtys cA) s ∧ (∀ q, s.heap.size ≤ q → A q) ∧ xEnv adc sv A s s.heap ∧ meth.name = nm.name
/-- the script, for the method that may have one -/
def xSc (K : XK) (adc : Nat → Nat) (A : Nat → Prop) (s : State) : Prop := K.1 = 0 ∨ (va_X (adc 1000000) (K.1 - 1) K.2 s s.heap ∧ adc 1000000 < s.heap.size ∧ ¬ A (adc 1000000))
theorem xre_cat {ad : Nat → Nat} {sv : Value} (h : sv.category = 1) (v : Value) : (xre ad sv v).category = v.category := by
  cases v <;> first | rfl | exact h
theorem xk_mem {ls : XL} {i : Nat} {v : Value} (h : xk ls i = some v) : (i, v) ∈ ls := by
  induction ls with
  | nil => cases h
  | cons q t ih =>
    obtain ⟨j, w⟩ := q
    unfold xk at h
    by_cases e : j = i
    · rw [if_pos e] at h
      cases h; subst e
      exact List.mem_cons_self
    · rw [if_neg e] at h
      exact List.mem_cons_of_mem _ (ih h)
theorem xdel_mem {ls : XL} {i n : Nat} {q : Nat × Value} (h : q ∈ xdel ls i n) : q ∈ ls ∧ ¬ (q.1 < i + n ∧ i < q.1 + q.2.category) := by
  induction ls with
  | nil => cases h
  | cons r t ih =>
    obtain ⟨j, w⟩ := r
    unfold xdel at h
    by_cases e : j < i + n ∧ i < j + w.category
    · rw [if_pos e] at h
      exact ⟨List.mem_cons_of_mem _ (ih h).1, (ih h).2⟩
    · rw [if_neg e] at h
      rcases List.mem_cons.mp h with rfl | h
      · exact ⟨List.mem_cons_self, e⟩
      · exact ⟨List.mem_cons_of_mem _ (ih h).1, (ih h).2⟩
theorem xnorm_mem {lv : List Nat} {ls : XL} {q : Nat × Value} (h : q ∈ xnorm lv ls) : q ∈ ls := by
  induction lv with
  | nil => cases h
  | cons k t ih =>
    unfold xnorm at h
    split at h
    · rename_i v hv
      rcases List.mem_cons.mp h with rfl | h
      · exact xk_mem hv
      · exact ih h
    · exact ih h
theorem lv_mono {ls : Array Slot} {nL : Nat} {l l' : List (Nat × Value)} (h : lv_has ls nL l) (hm : ∀ q ∈ l', q ∈ l) : lv_has ls nL l' := ⟨h.1, h.2.1, fun q hq => h.2.2 q (hm q hq)⟩
theorem xk_at {ls : Array Slot} {nL : Nat} {l : XL} {ad : Nat → Nat} {sv : Value} {i : Nat} {v : Value} (h : lv_has ls nL (xreL ad sv l)) (hk : xk l i = some v) : ls[i]? = some (.val (xre ad sv v)) :=
  h.2.2 (i, xre ad sv v) (List.mem_map.mpr ⟨(i, v), xk_mem hk, rfl⟩)
theorem xreL_norm {ls : Array Slot} {nL : Nat} {l : XL} {ad : Nat → Nat} {sv : Value} (h : lv_has ls nL (xreL ad sv l)) (lv : List Nat) : lv_has ls nL (xreL ad sv (xnorm lv l)) :=
  lv_mono h (fun q hq => by
    obtain ⟨r, hr, rfl⟩ := List.mem_map.mp hq
    exact List.mem_map.mpr ⟨r, xnorm_mem hr, rfl⟩)
theorem xst_1 {ls : Array Slot} {nL : Nat} {l : XL} {ad : Nat → Nat} {sv : Value} (hsv : sv.category = 1) {i : Nat} {v : Value} (hc : v.category = 1) (h : lv_has ls nL ((i, xre ad sv v) :: (xreL ad sv l).filter (fun q => !(q.1 == i) && !(q.1 + 1 == i && q.2.category == 2)))) : lv_has ls nL (xreL ad sv (xst l i v)) := by
  refine lv_mono h (fun q hq => ?_)
  obtain ⟨r, hr, rfl⟩ := List.mem_map.mp hq
  unfold xst at hr
  rcases List.mem_cons.mp hr with rfl | hr
  · exact List.mem_cons_self
  · obtain ⟨h1, h2⟩ := xdel_mem hr
    refine List.mem_cons_of_mem _ (List.mem_filter.mpr ⟨List.mem_map.mpr ⟨r, h1, rfl⟩, ?_⟩)
    dsimp only
    rw [xre_cat hsv]
    have h3 : r.2.category = 1 ∨ r.2.category = 2 := lv_cat r.2
    simp only [Bool.and_eq_true, Bool.not_eq_true', beq_eq_false_iff_ne, ne_eq, Bool.and_eq_false_iff]
    rw [hc] at h2
    constructor
    · intro e; omega
    · by_cases e : r.1 + 1 = i
      · right; omega
      · left; exact e
theorem xst_2 {ls : Array Slot} {nL : Nat} {l : XL} {ad : Nat → Nat} {sv : Value} (hsv : sv.category = 1) {i : Nat} {v : Value} (hc : v.category = 2) (h : lv_has ls nL ((i, xre ad sv v) :: (xreL ad sv l).filter (fun q => !(q.1 == i) && (!(q.1 == i + 1) && !(q.1 + 1 == i && q.2.category == 2))))) : lv_has ls nL (xreL ad sv (xst l i v)) := by
  refine lv_mono h (fun q hq => ?_)
  obtain ⟨r, hr, rfl⟩ := List.mem_map.mp hq
  unfold xst at hr
  rcases List.mem_cons.mp hr with rfl | hr
  · exact List.mem_cons_self
  · obtain ⟨h1, h2⟩ := xdel_mem hr
    refine List.mem_cons_of_mem _ (List.mem_filter.mpr ⟨List.mem_map.mpr ⟨r, h1, rfl⟩, ?_⟩)
    dsimp only
    rw [xre_cat hsv]
    have h3 : r.2.category = 1 ∨ r.2.category = 2 := lv_cat r.2
    simp only [Bool.and_eq_true, Bool.not_eq_true', beq_eq_false_iff_ne, ne_eq, Bool.and_eq_false_iff]
    rw [hc] at h2
    refine ⟨by omega, by omega, ?_⟩
    by_cases e : r.1 + 1 = i
    · right; omega
    · left; exact e
end
section
/-! One instruction of X is the machine's own step. -/
section XOne
variable {p : Program} {l : Launch} {e : Env} {R : Room} {s : State} {m : MethodId} {args : Array Value} {below : List Frame} {meth : Method} {c : Code} {Q : State → Prop} {D : va_G} {cA : Nat → ClassId} {A : Nat → Prop} {sv : Value} {adc : Nat → Nat} {own : Nat} {cc : ByteArray} {nL : Nat} {nm : MethodName} {bC bS : Nat} {pc : Nat}
/-- the instruction i at pc, n bytes long, goes on as X says -/
def xStep (p : Program) (l : Launch) (e : Env) (R : Room) (s : State) (m : MethodId) (args : Array Value) (below : List Frame) (meth : Method) (c : Code) (Q : State → Prop) (D : va_G) (cA : Nat → ClassId) (A : Nat → Prop) (sv : Value) (adc : Nat → Nat) (nL : Nat) (bC bS : Nat) (K : XK) (i : Instr) (pc n : Nat) : Prop :=
  ∀ (ls : XL) (st : List Value) (σ : XS) (ls' : XL) (st' : List Value) (σ' : XS) (ad : Nat → Nat) (H : Heap) (locs : List Loc) (lsA : Array Slot), xone K i ls st σ = some (ls', st', σ') → xWf D cA A s adc ad σ H locs → lv_has lsA nL (xreL ad sv ls) →
    (bC ≤ nC σ ∧ bS ≤ nS σ ∧ nC σ' - bC ≤ R.cells ∧ nS σ' - bS ≤ R.slots) →
    (∀ (ad' : Nat → Nat) (H' : Heap) (locs' : List Loc) (lsA' : Array Slot), xWf D cA A s adc ad' σ' H' locs' → (∀ a, (a < σ.1.length ∨ σ'.1.length ≤ a) → ad' a = ad a) → lv_has lsA' nL (xreL ad' sv ls') →
      W p l e R s m args below meth c H' locs' (nC σ' - bC) (nS σ' - bS) Q (F0 m (pc + n) lsA' (st'.map (xre ad' sv)))) →
    W p l e R s m args below meth c H locs (nC σ - bC) (nS σ - bS) Q (F0 m pc lsA (st.map (xre ad sv)))
theorem sn_iconst {K : XK} (C : xCx p s m args meth c D cA A sv adc own cc nL nm) {n : Int} (hd : decode cc pc = .ok (.iconst n, 1)) : xStep p l e R s m args below meth c Q D cA A sv adc nL bC bS K (.iconst n) pc 1 := by
  obtain ⟨hx, hb, hml, hown, hts, hK, hA, hE, hin⟩ := C
  have hsv := hE.2.2.2.2.2.2.2.2.2.2.2.1
  intro ls st σ ls' st' σ' ad H locs lsA h hW hl hB kk
  unfold xone at h
  dsimp only at h
  cases h
  exact lv_iconst (v := Int32.ofInt n) hx hb hd rfl (kk ad H locs lsA hW (fun _ _ => rfl) hl)
theorem sn_bipush {K : XK} (C : xCx p s m args meth c D cA A sv adc own cc nL nm) {n : Int} (hv : (Int8.ofInt n).toInt32 = Int32.ofInt n) (hd : decode cc pc = .ok (.bipush n, 2)) : xStep p l e R s m args below meth c Q D cA A sv adc nL bC bS K (.iconst n) pc 2 := by
  obtain ⟨hx, hb, hml, hown, hts, hK, hA, hE, hin⟩ := C
  have hsv := hE.2.2.2.2.2.2.2.2.2.2.2.1
  intro ls st σ ls' st' σ' ad H locs lsA h hW hl hB kk
  unfold xone at h
  dsimp only at h
  cases h
  exact lv_bipush (v := Int32.ofInt n) hx hb hd hv (kk ad H locs lsA hW (fun _ _ => rfl) hl)
theorem sn_sipush {K : XK} (C : xCx p s m args meth c D cA A sv adc own cc nL nm) {n : Int} (hv : (Int16.ofInt n).toInt32 = Int32.ofInt n) (hd : decode cc pc = .ok (.sipush n, 3)) : xStep p l e R s m args below meth c Q D cA A sv adc nL bC bS K (.iconst n) pc 3 := by
  obtain ⟨hx, hb, hml, hown, hts, hK, hA, hE, hin⟩ := C
  have hsv := hE.2.2.2.2.2.2.2.2.2.2.2.1
  intro ls st σ ls' st' σ' ad H locs lsA h hW hl hB kk
  unfold xone at h
  dsimp only at h
  cases h
  exact lv_sipush (v := Int32.ofInt n) hx hb hd hv (kk ad H locs lsA hW (fun _ _ => rfl) hl)
theorem sn_ldci {K : XK} (C : xCx p s m args meth c D cA A sv adc own cc nL nm) {n : Int} {k : Nat} (hw : Cond.constant (xow own) k (Int32.ofInt n) ∈ xWS) (hd : decode cc pc = .ok (.ldc k, 2)) : xStep p l e R s m args below meth c Q D cA A sv adc nL bC bS K (.iconst n) pc 2 := by
  obtain ⟨hx, hb, hml, hown, hts, hK, hA, hE, hin⟩ := C
  have hsv := hE.2.2.2.2.2.2.2.2.2.2.2.1
  intro ls st σ ls' st' σ' ad H locs lsA h hW hl hB kk
  unfold xone at h
  dsimp only at h
  cases h
  exact lv_ldc (v := Int32.ofInt n) hx hb hown (hts _ hw) hd (kk ad H locs lsA hW (fun _ _ => rfl) hl)
theorem sn_ldcwi {K : XK} (C : xCx p s m args meth c D cA A sv adc own cc nL nm) {n : Int} {k : Nat} (hw : Cond.constant (xow own) k (Int32.ofInt n) ∈ xWS) (hd : decode cc pc = .ok (.ldc_w k, 3)) : xStep p l e R s m args below meth c Q D cA A sv adc nL bC bS K (.iconst n) pc 3 := by
  obtain ⟨hx, hb, hml, hown, hts, hK, hA, hE, hin⟩ := C
  have hsv := hE.2.2.2.2.2.2.2.2.2.2.2.1
  intro ls st σ ls' st' σ' ad H locs lsA h hW hl hB kk
  unfold xone at h
  dsimp only at h
  cases h
  exact lv_ldcw (v := Int32.ofInt n) hx hb hown (hts _ hw) hd (kk ad H locs lsA hW (fun _ _ => rfl) hl)
theorem sn_ldcf {K : XK} (C : xCx p s m args meth c D cA A sv adc own cc nL nm) {n k : Nat} (hw : Cond.constantFloat (xow own) k (UInt32.ofNat n) ∈ xWS) (hd : decode cc pc = .ok (.ldc k, 2)) : xStep p l e R s m args below meth c Q D cA A sv adc nL bC bS K (.ldc_w n) pc 2 := by
  obtain ⟨hx, hb, hml, hown, hts, hK, hA, hE, hin⟩ := C
  have hsv := hE.2.2.2.2.2.2.2.2.2.2.2.1
  intro ls st σ ls' st' σ' ad H locs lsA h hW hl hB kk
  unfold xone at h
  dsimp only at h
  cases h
  exact lv_ldcf (v := UInt32.ofNat n) hx hb hown (hts _ hw) hd (kk ad H locs lsA hW (fun _ _ => rfl) hl)
theorem sn_ldcwF {T : State} {locs : List Loc} {cells slots : Nat} (X : Stand p l e R s m args below meth c T locs cells slots) (hexec : p.tables.exec = Jvm.exec) {own : String} {index : Nat} {v : UInt32} (hown : s.vm.findClass own = some m.cls)
    (hconst : (Cond.constantFloat own index v).before args s = true) {g : JFrame} (hg : g.method = m) (hdg : decode c.code g.pc = .ok (.ldc_w index, 3)) :
    ∀ target, Steps p.tables e below (T.setTop { g with pc := g.pc + 3, stack := .float v :: g.stack }) target → Steps p.tables e below (T.setTop g) target := by
  obtain ⟨k, cf, hk, hcf, hcp⟩ := Cond.constantFloat_spec hown hconst
  obtain ⟨k', hk', he⟩ := X.warmed.alike.2.2 _ _ hk
  intro target hrest
  subst hg
  jvm_step X.here [hexec, hdg, ldc_w.wp_float (s := T) (f := g) X.here.top hk' (by rw [he]; exact hcf) hcp]
  exact hrest
theorem lv_ldcwf {H : Heap} {locs : List Loc} {cells slots : Nat} {ls : Array Slot} {rest : List Value} (hexec : p.tables.exec = Jvm.exec) (hb : c.code = cc) {own : String} {index : Nat} {v : UInt32} (hown : s.vm.findClass own = some m.cls) (hconst : (Jvm.Cond.constantFloat own index v).before args s = true) (hdg : decode cc pc = .ok (.ldc_w index, 3)) (k : W p l e R s m args below meth c H locs cells slots Q (F0 m (pc + 3) ls (.float v :: rest))) : W p l e R s m args below meth c H locs cells slots Q (F0 m pc ls rest) := by
  intro T hT X
  obtain ⟨t, a, b⟩ := k T hT X
  exact ⟨t, sn_ldcwF X hexec hown hconst (g := F0 m pc ls rest) rfl (by rw [hb]; exact hdg) t a, b⟩
theorem sn_ldcwf {K : XK} (C : xCx p s m args meth c D cA A sv adc own cc nL nm) {n k : Nat} (hw : Cond.constantFloat (xow own) k (UInt32.ofNat n) ∈ xWS) (hd : decode cc pc = .ok (.ldc_w k, 3)) : xStep p l e R s m args below meth c Q D cA A sv adc nL bC bS K (.ldc_w n) pc 3 := by
  obtain ⟨hx, hb, hml, hown, hts, hK, hA, hE, hin⟩ := C
  have hsv := hE.2.2.2.2.2.2.2.2.2.2.2.1
  intro ls st σ ls' st' σ' ad H locs lsA h hW hl hB kk
  unfold xone at h
  dsimp only at h
  cases h
  exact lv_ldcwf (v := UInt32.ofNat n) hx hb hown (hts _ hw) hd (kk ad H locs lsA hW (fun _ _ => rfl) hl)
theorem sn_ldc2d {K : XK} (C : xCx p s m args meth c D cA A sv adc own cc nL nm) {n k : Nat} (hw : Cond.constantDouble (xow own) k (UInt64.ofNat n) ∈ xWS) (hd : decode cc pc = .ok (.ldc2_w k, 3)) : xStep p l e R s m args below meth c Q D cA A sv adc nL bC bS K (.ldc2_w n) pc 3 := by
  obtain ⟨hx, hb, hml, hown, hts, hK, hA, hE, hin⟩ := C
  have hsv := hE.2.2.2.2.2.2.2.2.2.2.2.1
  intro ls st σ ls' st' σ' ad H locs lsA h hW hl hB kk
  unfold xone at h
  dsimp only at h
  cases h
  exact lv_ldc2d (v := UInt64.ofNat n) hx hb hown (hts _ hw) hd (kk ad H locs lsA hW (fun _ _ => rfl) hl)
theorem sn_ldc2l {K : XK} (C : xCx p s m args meth c D cA A sv adc own cc nL nm) {n : Int} {k : Nat} (hw : Cond.constantLong (xow own) k (Int64.ofInt n) ∈ xWS) (hd : decode cc pc = .ok (.ldc2_w k, 3)) : xStep p l e R s m args below meth c Q D cA A sv adc nL bC bS K (.jsr n) pc 3 := by
  obtain ⟨hx, hb, hml, hown, hts, hK, hA, hE, hin⟩ := C
  have hsv := hE.2.2.2.2.2.2.2.2.2.2.2.1
  intro ls st σ ls' st' σ' ad H locs lsA h hW hl hB kk
  unfold xone at h
  dsimp only at h
  cases h
  exact lv_ldc2 (v := Int64.ofInt n) hx hb hown (hts _ hw) hd (kk ad H locs lsA hW (fun _ _ => rfl) hl)
theorem sn_lconst {K : XK} (C : xCx p s m args meth c D cA A sv adc own cc nL nm) {n : Fin 2} (hd : decode cc pc = .ok (.lconst n, 1)) : xStep p l e R s m args below meth c Q D cA A sv adc nL bC bS K (.lconst n) pc 1 := by
  obtain ⟨hx, hb, hml, hown, hts, hK, hA, hE, hin⟩ := C
  have hsv := hE.2.2.2.2.2.2.2.2.2.2.2.1
  intro ls st σ ls' st' σ' ad H locs lsA h hW hl hB kk
  unfold xone at h
  dsimp only at h
  cases h
  exact lv_lconst (v := Int64.ofNat (n : Nat)) hx hb hd rfl (kk ad H locs lsA hW (fun _ _ => rfl) hl)
theorem sn_iload_n {K : XK} (C : xCx p s m args meth c D cA A sv adc own cc nL nm) {n : Fin 4} (hd : decode cc pc = .ok (.iload_n n, 1)) : xStep p l e R s m args below meth c Q D cA A sv adc nL bC bS K (.iload (n : Nat)) pc 1 := by
  obtain ⟨hx, hb, hml, hown, hts, hK, hA, hE, hin⟩ := C
  have hsv := hE.2.2.2.2.2.2.2.2.2.2.2.1
  intro ls st σ ls' st' σ' ad H locs lsA h hW hl hB kk
  unfold xone at h
  dsimp only at h
  split at h
  · rename_i v hv
    cases h
    exact lv_iload_n hx hb hd rfl (xk_at hl hv) (kk ad H locs lsA hW (fun _ _ => rfl) hl)
  · cases h
theorem sn_iload {K : XK} (C : xCx p s m args meth c D cA A sv adc own cc nL nm) {n : Nat} (hd : decode cc pc = .ok (.iload n, 2)) : xStep p l e R s m args below meth c Q D cA A sv adc nL bC bS K (.iload n) pc 2 := by
  obtain ⟨hx, hb, hml, hown, hts, hK, hA, hE, hin⟩ := C
  have hsv := hE.2.2.2.2.2.2.2.2.2.2.2.1
  intro ls st σ ls' st' σ' ad H locs lsA h hW hl hB kk
  unfold xone at h
  dsimp only at h
  split at h
  · rename_i v hv
    cases h
    exact lv_iload hx hb hd (xk_at hl hv) (kk ad H locs lsA hW (fun _ _ => rfl) hl)
  · cases h
theorem sn_istore_n {K : XK} (C : xCx p s m args meth c D cA A sv adc own cc nL nm) {n : Fin 4} (hn : (n : Nat) < nL) (hd : decode cc pc = .ok (.istore_n n, 1)) : xStep p l e R s m args below meth c Q D cA A sv adc nL bC bS K (.istore (n : Nat)) pc 1 := by
  obtain ⟨hx, hb, hml, hown, hts, hK, hA, hE, hin⟩ := C
  have hsv := hE.2.2.2.2.2.2.2.2.2.2.2.1
  intro ls st σ ls' st' σ' ad H locs lsA h hW hl hB kk
  unfold xone at h
  dsimp only at h
  split at h
  · cases h
    exact lv_istore_n hx hb hd rfl hl hn rfl (fun lsA' hl' => kk ad H locs lsA' hW (fun _ _ => rfl) (xst_1 hsv rfl hl'))
  · cases h
theorem sn_istore {K : XK} (C : xCx p s m args meth c D cA A sv adc own cc nL nm) {n : Nat} (hn : n < nL) (hd : decode cc pc = .ok (.istore n, 2)) : xStep p l e R s m args below meth c Q D cA A sv adc nL bC bS K (.istore n) pc 2 := by
  obtain ⟨hx, hb, hml, hown, hts, hK, hA, hE, hin⟩ := C
  have hsv := hE.2.2.2.2.2.2.2.2.2.2.2.1
  intro ls st σ ls' st' σ' ad H locs lsA h hW hl hB kk
  unfold xone at h
  dsimp only at h
  split at h
  · cases h
    exact lv_istore hx hb hd hl hn rfl (fun lsA' hl' => kk ad H locs lsA' hW (fun _ _ => rfl) (xst_1 hsv rfl hl'))
  · cases h
theorem sn_aload_n {K : XK} (C : xCx p s m args meth c D cA A sv adc own cc nL nm) {n : Fin 4} (hd : decode cc pc = .ok (.aload_n n, 1)) : xStep p l e R s m args below meth c Q D cA A sv adc nL bC bS K (.aload (n : Nat)) pc 1 := by
  obtain ⟨hx, hb, hml, hown, hts, hK, hA, hE, hin⟩ := C
  have hsv := hE.2.2.2.2.2.2.2.2.2.2.2.1
  intro ls st σ ls' st' σ' ad H locs lsA h hW hl hB kk
  unfold xone at h
  dsimp only at h
  split at h
  · rename_i v hv
    cases h
    exact lv_aload_n hx hb hd rfl (xk_at hl hv) (kk ad H locs lsA hW (fun _ _ => rfl) hl)
  · cases h
theorem sn_aload {K : XK} (C : xCx p s m args meth c D cA A sv adc own cc nL nm) {n : Nat} (hd : decode cc pc = .ok (.aload n, 2)) : xStep p l e R s m args below meth c Q D cA A sv adc nL bC bS K (.aload n) pc 2 := by
  obtain ⟨hx, hb, hml, hown, hts, hK, hA, hE, hin⟩ := C
  have hsv := hE.2.2.2.2.2.2.2.2.2.2.2.1
  intro ls st σ ls' st' σ' ad H locs lsA h hW hl hB kk
  unfold xone at h
  dsimp only at h
  split at h
  · rename_i v hv
    cases h
    exact lv_aload hx hb hd (xk_at hl hv) (kk ad H locs lsA hW (fun _ _ => rfl) hl)
  · cases h
theorem sn_astore_n {K : XK} (C : xCx p s m args meth c D cA A sv adc own cc nL nm) {n : Fin 4} (hn : (n : Nat) < nL) (hd : decode cc pc = .ok (.astore_n n, 1)) : xStep p l e R s m args below meth c Q D cA A sv adc nL bC bS K (.astore (n : Nat)) pc 1 := by
  obtain ⟨hx, hb, hml, hown, hts, hK, hA, hE, hin⟩ := C
  have hsv := hE.2.2.2.2.2.2.2.2.2.2.2.1
  intro ls st σ ls' st' σ' ad H locs lsA h hW hl hB kk
  unfold xone at h
  dsimp only at h
  split at h
  · cases h
    exact lv_astore_n hx hb hd rfl hl hn rfl (fun lsA' hl' => kk ad H locs lsA' hW (fun _ _ => rfl) (xst_1 hsv rfl hl'))
  · cases h
theorem sn_astore {K : XK} (C : xCx p s m args meth c D cA A sv adc own cc nL nm) {n : Nat} (hn : n < nL) (hd : decode cc pc = .ok (.astore n, 2)) : xStep p l e R s m args below meth c Q D cA A sv adc nL bC bS K (.astore n) pc 2 := by
  obtain ⟨hx, hb, hml, hown, hts, hK, hA, hE, hin⟩ := C
  have hsv := hE.2.2.2.2.2.2.2.2.2.2.2.1
  intro ls st σ ls' st' σ' ad H locs lsA h hW hl hB kk
  unfold xone at h
  dsimp only at h
  split at h
  · cases h
    exact lv_astore hx hb hd hl hn rfl (fun lsA' hl' => kk ad H locs lsA' hW (fun _ _ => rfl) (xst_1 hsv rfl hl'))
  · cases h
theorem sn_lload_n {K : XK} (C : xCx p s m args meth c D cA A sv adc own cc nL nm) {n : Fin 4} (hd : decode cc pc = .ok (.lload_n n, 1)) : xStep p l e R s m args below meth c Q D cA A sv adc nL bC bS K (.lload (n : Nat)) pc 1 := by
  obtain ⟨hx, hb, hml, hown, hts, hK, hA, hE, hin⟩ := C
  have hsv := hE.2.2.2.2.2.2.2.2.2.2.2.1
  intro ls st σ ls' st' σ' ad H locs lsA h hW hl hB kk
  unfold xone at h
  dsimp only at h
  split at h
  · rename_i v hv
    cases h
    exact lv_lload_n hx hb hd rfl (xk_at hl hv) (kk ad H locs lsA hW (fun _ _ => rfl) hl)
  · cases h
theorem sn_lload {K : XK} (C : xCx p s m args meth c D cA A sv adc own cc nL nm) {n : Nat} (hd : decode cc pc = .ok (.lload n, 2)) : xStep p l e R s m args below meth c Q D cA A sv adc nL bC bS K (.lload n) pc 2 := by
  obtain ⟨hx, hb, hml, hown, hts, hK, hA, hE, hin⟩ := C
  have hsv := hE.2.2.2.2.2.2.2.2.2.2.2.1
  intro ls st σ ls' st' σ' ad H locs lsA h hW hl hB kk
  unfold xone at h
  dsimp only at h
  split at h
  · rename_i v hv
    cases h
    exact lv_lload hx hb hd (xk_at hl hv) (kk ad H locs lsA hW (fun _ _ => rfl) hl)
  · cases h
theorem sn_lstore_n {K : XK} (C : xCx p s m args meth c D cA A sv adc own cc nL nm) {n : Fin 4} (hn : (n : Nat) + 1 < nL) (hd : decode cc pc = .ok (.lstore_n n, 1)) : xStep p l e R s m args below meth c Q D cA A sv adc nL bC bS K (.lstore (n : Nat)) pc 1 := by
  obtain ⟨hx, hb, hml, hown, hts, hK, hA, hE, hin⟩ := C
  have hsv := hE.2.2.2.2.2.2.2.2.2.2.2.1
  intro ls st σ ls' st' σ' ad H locs lsA h hW hl hB kk
  unfold xone at h
  dsimp only at h
  split at h
  · cases h
    exact lv_lstore_n hx hb hd rfl hl hn rfl (fun lsA' hl' => kk ad H locs lsA' hW (fun _ _ => rfl) (xst_2 hsv rfl hl'))
  · cases h
theorem sn_lstore {K : XK} (C : xCx p s m args meth c D cA A sv adc own cc nL nm) {n : Nat} (hn : n + 1 < nL) (hd : decode cc pc = .ok (.lstore n, 2)) : xStep p l e R s m args below meth c Q D cA A sv adc nL bC bS K (.lstore n) pc 2 := by
  obtain ⟨hx, hb, hml, hown, hts, hK, hA, hE, hin⟩ := C
  have hsv := hE.2.2.2.2.2.2.2.2.2.2.2.1
  intro ls st σ ls' st' σ' ad H locs lsA h hW hl hB kk
  unfold xone at h
  dsimp only at h
  split at h
  · cases h
    exact lv_lstore hx hb hd hl hn rfl (fun lsA' hl' => kk ad H locs lsA' hW (fun _ _ => rfl) (xst_2 hsv rfl hl'))
  · cases h
theorem sn_fload_n {K : XK} (C : xCx p s m args meth c D cA A sv adc own cc nL nm) {n : Fin 4} (hd : decode cc pc = .ok (.fload_n n, 1)) : xStep p l e R s m args below meth c Q D cA A sv adc nL bC bS K (.fload (n : Nat)) pc 1 := by
  obtain ⟨hx, hb, hml, hown, hts, hK, hA, hE, hin⟩ := C
  have hsv := hE.2.2.2.2.2.2.2.2.2.2.2.1
  intro ls st σ ls' st' σ' ad H locs lsA h hW hl hB kk
  unfold xone at h
  dsimp only at h
  split at h
  · rename_i v hv
    cases h
    exact lv_fload_n hx hb hd rfl (xk_at hl hv) (kk ad H locs lsA hW (fun _ _ => rfl) hl)
  · cases h
theorem sn_fload {K : XK} (C : xCx p s m args meth c D cA A sv adc own cc nL nm) {n : Nat} (hd : decode cc pc = .ok (.fload n, 2)) : xStep p l e R s m args below meth c Q D cA A sv adc nL bC bS K (.fload n) pc 2 := by
  obtain ⟨hx, hb, hml, hown, hts, hK, hA, hE, hin⟩ := C
  have hsv := hE.2.2.2.2.2.2.2.2.2.2.2.1
  intro ls st σ ls' st' σ' ad H locs lsA h hW hl hB kk
  unfold xone at h
  dsimp only at h
  split at h
  · rename_i v hv
    cases h
    exact lv_fload hx hb hd (xk_at hl hv) (kk ad H locs lsA hW (fun _ _ => rfl) hl)
  · cases h
theorem sn_fstore_n {K : XK} (C : xCx p s m args meth c D cA A sv adc own cc nL nm) {n : Fin 4} (hn : (n : Nat) < nL) (hd : decode cc pc = .ok (.fstore_n n, 1)) : xStep p l e R s m args below meth c Q D cA A sv adc nL bC bS K (.fstore (n : Nat)) pc 1 := by
  obtain ⟨hx, hb, hml, hown, hts, hK, hA, hE, hin⟩ := C
  have hsv := hE.2.2.2.2.2.2.2.2.2.2.2.1
  intro ls st σ ls' st' σ' ad H locs lsA h hW hl hB kk
  unfold xone at h
  dsimp only at h
  split at h
  · cases h
    exact lv_fstore_n hx hb hd rfl hl hn rfl (fun lsA' hl' => kk ad H locs lsA' hW (fun _ _ => rfl) (xst_1 hsv rfl hl'))
  · cases h
theorem sn_fstore {K : XK} (C : xCx p s m args meth c D cA A sv adc own cc nL nm) {n : Nat} (hn : n < nL) (hd : decode cc pc = .ok (.fstore n, 2)) : xStep p l e R s m args below meth c Q D cA A sv adc nL bC bS K (.fstore n) pc 2 := by
  obtain ⟨hx, hb, hml, hown, hts, hK, hA, hE, hin⟩ := C
  have hsv := hE.2.2.2.2.2.2.2.2.2.2.2.1
  intro ls st σ ls' st' σ' ad H locs lsA h hW hl hB kk
  unfold xone at h
  dsimp only at h
  split at h
  · cases h
    exact lv_fstore hx hb hd hl hn rfl (fun lsA' hl' => kk ad H locs lsA' hW (fun _ _ => rfl) (xst_1 hsv rfl hl'))
  · cases h
theorem sn_dload_n {K : XK} (C : xCx p s m args meth c D cA A sv adc own cc nL nm) {n : Fin 4} (hd : decode cc pc = .ok (.dload_n n, 1)) : xStep p l e R s m args below meth c Q D cA A sv adc nL bC bS K (.dload (n : Nat)) pc 1 := by
  obtain ⟨hx, hb, hml, hown, hts, hK, hA, hE, hin⟩ := C
  have hsv := hE.2.2.2.2.2.2.2.2.2.2.2.1
  intro ls st σ ls' st' σ' ad H locs lsA h hW hl hB kk
  unfold xone at h
  dsimp only at h
  split at h
  · rename_i v hv
    cases h
    exact lv_dload_n hx hb hd rfl (xk_at hl hv) (kk ad H locs lsA hW (fun _ _ => rfl) hl)
  · cases h
theorem sn_dload {K : XK} (C : xCx p s m args meth c D cA A sv adc own cc nL nm) {n : Nat} (hd : decode cc pc = .ok (.dload n, 2)) : xStep p l e R s m args below meth c Q D cA A sv adc nL bC bS K (.dload n) pc 2 := by
  obtain ⟨hx, hb, hml, hown, hts, hK, hA, hE, hin⟩ := C
  have hsv := hE.2.2.2.2.2.2.2.2.2.2.2.1
  intro ls st σ ls' st' σ' ad H locs lsA h hW hl hB kk
  unfold xone at h
  dsimp only at h
  split at h
  · rename_i v hv
    cases h
    exact lv_dload hx hb hd (xk_at hl hv) (kk ad H locs lsA hW (fun _ _ => rfl) hl)
  · cases h
theorem sn_dstore_n {K : XK} (C : xCx p s m args meth c D cA A sv adc own cc nL nm) {n : Fin 4} (hn : (n : Nat) + 1 < nL) (hd : decode cc pc = .ok (.dstore_n n, 1)) : xStep p l e R s m args below meth c Q D cA A sv adc nL bC bS K (.dstore (n : Nat)) pc 1 := by
  obtain ⟨hx, hb, hml, hown, hts, hK, hA, hE, hin⟩ := C
  have hsv := hE.2.2.2.2.2.2.2.2.2.2.2.1
  intro ls st σ ls' st' σ' ad H locs lsA h hW hl hB kk
  unfold xone at h
  dsimp only at h
  split at h
  · cases h
    exact lv_dstore_n hx hb hd rfl hl hn rfl (fun lsA' hl' => kk ad H locs lsA' hW (fun _ _ => rfl) (xst_2 hsv rfl hl'))
  · cases h
theorem sn_dstore {K : XK} (C : xCx p s m args meth c D cA A sv adc own cc nL nm) {n : Nat} (hn : n + 1 < nL) (hd : decode cc pc = .ok (.dstore n, 2)) : xStep p l e R s m args below meth c Q D cA A sv adc nL bC bS K (.dstore n) pc 2 := by
  obtain ⟨hx, hb, hml, hown, hts, hK, hA, hE, hin⟩ := C
  have hsv := hE.2.2.2.2.2.2.2.2.2.2.2.1
  intro ls st σ ls' st' σ' ad H locs lsA h hW hl hB kk
  unfold xone at h
  dsimp only at h
  split at h
  · cases h
    exact lv_dstore hx hb hd hl hn rfl (fun lsA' hl' => kk ad H locs lsA' hW (fun _ _ => rfl) (xst_2 hsv rfl hl'))
  · cases h
theorem sn_iinc {K : XK} (C : xCx p s m args meth c D cA A sv adc own cc nL nm) {n : Nat} {k : Int} (hn : n < nL) (hd : decode cc pc = .ok (.iinc n k, 3)) : xStep p l e R s m args below meth c Q D cA A sv adc nL bC bS K (.iinc n k) pc 3 := by
  obtain ⟨hx, hb, hml, hown, hts, hK, hA, hE, hin⟩ := C
  have hsv := hE.2.2.2.2.2.2.2.2.2.2.2.1
  intro ls st σ ls' st' σ' ad H locs lsA h hW hl hB kk
  unfold xone at h
  dsimp only at h
  split at h
  · rename_i v hv
    cases h
    obtain ⟨j, hj⟩ := List.getElem?_of_mem (List.mem_map.mpr ⟨(n, Value.int v), xk_mem hv, rfl⟩ : ((fun q : Nat × Value => (q.1, xre ad sv q.2)) (n, Value.int v)) ∈ xreL ad sv ls)
    exact lv_iinc (v := v + Int32.ofInt k) hx hb hd hl hj rfl hn rfl (fun lsA' hl' => kk ad H locs lsA' hW (fun _ _ => rfl) (xst_1 hsv rfl hl'))
  · cases h
theorem sn_iadd {K : XK} (C : xCx p s m args meth c D cA A sv adc own cc nL nm) (hd : decode cc pc = .ok (.iadd, 1)) : xStep p l e R s m args below meth c Q D cA A sv adc nL bC bS K (.iadd) pc 1 := by
  obtain ⟨hx, hb, hml, hown, hts, hK, hA, hE, hin⟩ := C
  have hsv := hE.2.2.2.2.2.2.2.2.2.2.2.1
  intro ls st σ ls' st' σ' ad H locs lsA h hW hl hB kk
  unfold xone at h
  dsimp only at h
  split at h
  · cases h
    exact lv_iadd hx hb hd (kk ad H locs lsA hW (fun _ _ => rfl) hl)
  · cases h
theorem sn_isub {K : XK} (C : xCx p s m args meth c D cA A sv adc own cc nL nm) (hd : decode cc pc = .ok (.isub, 1)) : xStep p l e R s m args below meth c Q D cA A sv adc nL bC bS K (.isub) pc 1 := by
  obtain ⟨hx, hb, hml, hown, hts, hK, hA, hE, hin⟩ := C
  have hsv := hE.2.2.2.2.2.2.2.2.2.2.2.1
  intro ls st σ ls' st' σ' ad H locs lsA h hW hl hB kk
  unfold xone at h
  dsimp only at h
  split at h
  · cases h
    exact lv_isub hx hb hd (kk ad H locs lsA hW (fun _ _ => rfl) hl)
  · cases h
theorem sn_imul {K : XK} (C : xCx p s m args meth c D cA A sv adc own cc nL nm) (hd : decode cc pc = .ok (.imul, 1)) : xStep p l e R s m args below meth c Q D cA A sv adc nL bC bS K (.imul) pc 1 := by
  obtain ⟨hx, hb, hml, hown, hts, hK, hA, hE, hin⟩ := C
  have hsv := hE.2.2.2.2.2.2.2.2.2.2.2.1
  intro ls st σ ls' st' σ' ad H locs lsA h hW hl hB kk
  unfold xone at h
  dsimp only at h
  split at h
  · cases h
    exact lv_imul hx hb hd (kk ad H locs lsA hW (fun _ _ => rfl) hl)
  · cases h
theorem sn_iand {K : XK} (C : xCx p s m args meth c D cA A sv adc own cc nL nm) (hd : decode cc pc = .ok (.iand, 1)) : xStep p l e R s m args below meth c Q D cA A sv adc nL bC bS K (.iand) pc 1 := by
  obtain ⟨hx, hb, hml, hown, hts, hK, hA, hE, hin⟩ := C
  have hsv := hE.2.2.2.2.2.2.2.2.2.2.2.1
  intro ls st σ ls' st' σ' ad H locs lsA h hW hl hB kk
  unfold xone at h
  dsimp only at h
  split at h
  · cases h
    exact lv_iand hx hb hd (kk ad H locs lsA hW (fun _ _ => rfl) hl)
  · cases h
theorem sn_ior {K : XK} (C : xCx p s m args meth c D cA A sv adc own cc nL nm) (hd : decode cc pc = .ok (.ior, 1)) : xStep p l e R s m args below meth c Q D cA A sv adc nL bC bS K (.ior) pc 1 := by
  obtain ⟨hx, hb, hml, hown, hts, hK, hA, hE, hin⟩ := C
  have hsv := hE.2.2.2.2.2.2.2.2.2.2.2.1
  intro ls st σ ls' st' σ' ad H locs lsA h hW hl hB kk
  unfold xone at h
  dsimp only at h
  split at h
  · cases h
    exact lv_ior hx hb hd (kk ad H locs lsA hW (fun _ _ => rfl) hl)
  · cases h
theorem sn_ladd {K : XK} (C : xCx p s m args meth c D cA A sv adc own cc nL nm) (hd : decode cc pc = .ok (.ladd, 1)) : xStep p l e R s m args below meth c Q D cA A sv adc nL bC bS K (.ladd) pc 1 := by
  obtain ⟨hx, hb, hml, hown, hts, hK, hA, hE, hin⟩ := C
  have hsv := hE.2.2.2.2.2.2.2.2.2.2.2.1
  intro ls st σ ls' st' σ' ad H locs lsA h hW hl hB kk
  unfold xone at h
  dsimp only at h
  split at h
  · cases h
    exact lv_ladd hx hb hd (kk ad H locs lsA hW (fun _ _ => rfl) hl)
  · cases h
theorem sn_lsub {K : XK} (C : xCx p s m args meth c D cA A sv adc own cc nL nm) (hd : decode cc pc = .ok (.lsub, 1)) : xStep p l e R s m args below meth c Q D cA A sv adc nL bC bS K (.lsub) pc 1 := by
  obtain ⟨hx, hb, hml, hown, hts, hK, hA, hE, hin⟩ := C
  have hsv := hE.2.2.2.2.2.2.2.2.2.2.2.1
  intro ls st σ ls' st' σ' ad H locs lsA h hW hl hB kk
  unfold xone at h
  dsimp only at h
  split at h
  · cases h
    exact lv_lsub hx hb hd (kk ad H locs lsA hW (fun _ _ => rfl) hl)
  · cases h
theorem sn_ishl {K : XK} (C : xCx p s m args meth c D cA A sv adc own cc nL nm) (hd : decode cc pc = .ok (.ishl, 1)) : xStep p l e R s m args below meth c Q D cA A sv adc nL bC bS K (.ishl) pc 1 := by
  obtain ⟨hx, hb, hml, hown, hts, hK, hA, hE, hin⟩ := C
  have hsv := hE.2.2.2.2.2.2.2.2.2.2.2.1
  intro ls st σ ls' st' σ' ad H locs lsA h hW hl hB kk
  unfold xone at h
  dsimp only at h
  split at h
  · cases h
    exact lv_ishl hx hb hd (kk ad H locs lsA hW (fun _ _ => rfl) hl)
  · cases h
theorem sn_ishr {K : XK} (C : xCx p s m args meth c D cA A sv adc own cc nL nm) (hd : decode cc pc = .ok (.ishr, 1)) : xStep p l e R s m args below meth c Q D cA A sv adc nL bC bS K (.ishr) pc 1 := by
  obtain ⟨hx, hb, hml, hown, hts, hK, hA, hE, hin⟩ := C
  have hsv := hE.2.2.2.2.2.2.2.2.2.2.2.1
  intro ls st σ ls' st' σ' ad H locs lsA h hW hl hB kk
  unfold xone at h
  dsimp only at h
  split at h
  · cases h
    exact lv_ishr hx hb hd (kk ad H locs lsA hW (fun _ _ => rfl) hl)
  · cases h
theorem sn_ineg {K : XK} (C : xCx p s m args meth c D cA A sv adc own cc nL nm) (hd : decode cc pc = .ok (.ineg, 1)) : xStep p l e R s m args below meth c Q D cA A sv adc nL bC bS K (.ineg) pc 1 := by
  obtain ⟨hx, hb, hml, hown, hts, hK, hA, hE, hin⟩ := C
  have hsv := hE.2.2.2.2.2.2.2.2.2.2.2.1
  intro ls st σ ls' st' σ' ad H locs lsA h hW hl hB kk
  unfold xone at h
  dsimp only at h
  split at h
  · cases h
    exact lv_ineg hx hb hd (kk ad H locs lsA hW (fun _ _ => rfl) hl)
  · cases h
theorem sn_i2f {K : XK} (C : xCx p s m args meth c D cA A sv adc own cc nL nm) (hd : decode cc pc = .ok (.i2f, 1)) : xStep p l e R s m args below meth c Q D cA A sv adc nL bC bS K (.i2f) pc 1 := by
  obtain ⟨hx, hb, hml, hown, hts, hK, hA, hE, hin⟩ := C
  have hsv := hE.2.2.2.2.2.2.2.2.2.2.2.1
  intro ls st σ ls' st' σ' ad H locs lsA h hW hl hB kk
  unfold xone at h
  dsimp only at h
  split at h
  · cases h
    exact lv_i2f hx hb hd (kk ad H locs lsA hW (fun _ _ => rfl) hl)
  · cases h
theorem sn_i2d {K : XK} (C : xCx p s m args meth c D cA A sv adc own cc nL nm) (hd : decode cc pc = .ok (.i2d, 1)) : xStep p l e R s m args below meth c Q D cA A sv adc nL bC bS K (.i2d) pc 1 := by
  obtain ⟨hx, hb, hml, hown, hts, hK, hA, hE, hin⟩ := C
  have hsv := hE.2.2.2.2.2.2.2.2.2.2.2.1
  intro ls st σ ls' st' σ' ad H locs lsA h hW hl hB kk
  unfold xone at h
  dsimp only at h
  split at h
  · cases h
    exact lv_i2d hx hb hd (kk ad H locs lsA hW (fun _ _ => rfl) hl)
  · cases h
theorem sn_f2i {K : XK} (C : xCx p s m args meth c D cA A sv adc own cc nL nm) (hd : decode cc pc = .ok (.f2i, 1)) : xStep p l e R s m args below meth c Q D cA A sv adc nL bC bS K (.f2i) pc 1 := by
  obtain ⟨hx, hb, hml, hown, hts, hK, hA, hE, hin⟩ := C
  have hsv := hE.2.2.2.2.2.2.2.2.2.2.2.1
  intro ls st σ ls' st' σ' ad H locs lsA h hW hl hB kk
  unfold xone at h
  dsimp only at h
  split at h
  · cases h
    exact lv_f2i hx hb hd (kk ad H locs lsA hW (fun _ _ => rfl) hl)
  · cases h
theorem sn_d2l {K : XK} (C : xCx p s m args meth c D cA A sv adc own cc nL nm) (hd : decode cc pc = .ok (.d2l, 1)) : xStep p l e R s m args below meth c Q D cA A sv adc nL bC bS K (.d2l) pc 1 := by
  obtain ⟨hx, hb, hml, hown, hts, hK, hA, hE, hin⟩ := C
  have hsv := hE.2.2.2.2.2.2.2.2.2.2.2.1
  intro ls st σ ls' st' σ' ad H locs lsA h hW hl hB kk
  unfold xone at h
  dsimp only at h
  split at h
  · cases h
    exact lv_d2l hx hb hd (kk ad H locs lsA hW (fun _ _ => rfl) hl)
  · cases h
theorem sn_iushr {K : XK} (C : xCx p s m args meth c D cA A sv adc own cc nL nm) (hd : decode cc pc = .ok (.iushr, 1)) : xStep p l e R s m args below meth c Q D cA A sv adc nL bC bS K (.iushr) pc 1 := by
  obtain ⟨hx, hb, hml, hown, hts, hK, hA, hE, hin⟩ := C
  have hsv := hE.2.2.2.2.2.2.2.2.2.2.2.1
  intro ls st σ ls' st' σ' ad H locs lsA h hW hl hB kk
  unfold xone at h
  dsimp only at h
  split at h
  · cases h
    exact lv_iushr hx hb hd rfl (kk ad H locs lsA hW (fun _ _ => rfl) hl)
  · cases h
theorem sn_i2l {K : XK} (C : xCx p s m args meth c D cA A sv adc own cc nL nm) (hd : decode cc pc = .ok (.i2l, 1)) : xStep p l e R s m args below meth c Q D cA A sv adc nL bC bS K (.i2l) pc 1 := by
  obtain ⟨hx, hb, hml, hown, hts, hK, hA, hE, hin⟩ := C
  have hsv := hE.2.2.2.2.2.2.2.2.2.2.2.1
  intro ls st σ ls' st' σ' ad H locs lsA h hW hl hB kk
  unfold xone at h
  dsimp only at h
  split at h
  · cases h
    exact lv_i2l hx hb hd rfl (kk ad H locs lsA hW (fun _ _ => rfl) hl)
  · cases h
theorem sn_i2b {K : XK} (C : xCx p s m args meth c D cA A sv adc own cc nL nm) (hd : decode cc pc = .ok (.i2b, 1)) : xStep p l e R s m args below meth c Q D cA A sv adc nL bC bS K (.i2b) pc 1 := by
  obtain ⟨hx, hb, hml, hown, hts, hK, hA, hE, hin⟩ := C
  have hsv := hE.2.2.2.2.2.2.2.2.2.2.2.1
  intro ls st σ ls' st' σ' ad H locs lsA h hW hl hB kk
  unfold xone at h
  dsimp only at h
  split at h
  · cases h
    exact lv_i2b hx hb hd rfl (kk ad H locs lsA hW (fun _ _ => rfl) hl)
  · cases h
theorem sn_i2c {K : XK} (C : xCx p s m args meth c D cA A sv adc own cc nL nm) (hd : decode cc pc = .ok (.i2c, 1)) : xStep p l e R s m args below meth c Q D cA A sv adc nL bC bS K (.i2c) pc 1 := by
  obtain ⟨hx, hb, hml, hown, hts, hK, hA, hE, hin⟩ := C
  have hsv := hE.2.2.2.2.2.2.2.2.2.2.2.1
  intro ls st σ ls' st' σ' ad H locs lsA h hW hl hB kk
  unfold xone at h
  dsimp only at h
  split at h
  · cases h
    exact lv_i2c hx hb hd rfl (kk ad H locs lsA hW (fun _ _ => rfl) hl)
  · cases h
theorem sn_lshl {K : XK} (C : xCx p s m args meth c D cA A sv adc own cc nL nm) (hd : decode cc pc = .ok (.lshl, 1)) : xStep p l e R s m args below meth c Q D cA A sv adc nL bC bS K (.lshl) pc 1 := by
  obtain ⟨hx, hb, hml, hown, hts, hK, hA, hE, hin⟩ := C
  have hsv := hE.2.2.2.2.2.2.2.2.2.2.2.1
  intro ls st σ ls' st' σ' ad H locs lsA h hW hl hB kk
  unfold xone at h
  dsimp only at h
  split at h
  · cases h
    exact lv_lshl hx hb hd rfl (kk ad H locs lsA hW (fun _ _ => rfl) hl)
  · cases h
theorem sn_lcmp {K : XK} (C : xCx p s m args meth c D cA A sv adc own cc nL nm) (hd : decode cc pc = .ok (.lcmp, 1)) : xStep p l e R s m args below meth c Q D cA A sv adc nL bC bS K (.lcmp) pc 1 := by
  obtain ⟨hx, hb, hml, hown, hts, hK, hA, hE, hin⟩ := C
  have hsv := hE.2.2.2.2.2.2.2.2.2.2.2.1
  intro ls st σ ls' st' σ' ad H locs lsA h hW hl hB kk
  unfold xone at h
  dsimp only at h
  split at h
  · cases h
    exact W.lcmp hx hb hd (kk ad H locs lsA hW (fun _ _ => rfl) hl)
  · cases h
theorem sn_fcmp {K : XK} (C : xCx p s m args meth c D cA A sv adc own cc nL nm) {z : CmpOp} (hd : decode cc pc = .ok (.fcmp z, 1)) : xStep p l e R s m args below meth c Q D cA A sv adc nL bC bS K (.fcmp z) pc 1 := by
  obtain ⟨hx, hb, hml, hown, hts, hK, hA, hE, hin⟩ := C
  have hsv := hE.2.2.2.2.2.2.2.2.2.2.2.1
  intro ls st σ ls' st' σ' ad H locs lsA h hW hl hB kk
  unfold xone at h
  dsimp only at h
  split at h
  · cases h
    exact lv_fcmp hx hb hd (kk ad H locs lsA hW (fun _ _ => rfl) hl)
  · cases h
theorem sn_dcmp {K : XK} (C : xCx p s m args meth c D cA A sv adc own cc nL nm) {z : CmpOp} (hd : decode cc pc = .ok (.dcmp z, 1)) : xStep p l e R s m args below meth c Q D cA A sv adc nL bC bS K (.dcmp z) pc 1 := by
  obtain ⟨hx, hb, hml, hown, hts, hK, hA, hE, hin⟩ := C
  have hsv := hE.2.2.2.2.2.2.2.2.2.2.2.1
  intro ls st σ ls' st' σ' ad H locs lsA h hW hl hB kk
  unfold xone at h
  dsimp only at h
  split at h
  · cases h
    exact lv_dcmp hx hb hd (kk ad H locs lsA hW (fun _ _ => rfl) hl)
  · cases h
theorem sn_idiv {K : XK} (C : xCx p s m args meth c D cA A sv adc own cc nL nm) (hd : decode cc pc = .ok (.idiv, 1)) : xStep p l e R s m args below meth c Q D cA A sv adc nL bC bS K (.idiv) pc 1 := by
  obtain ⟨hx, hb, hml, hown, hts, hK, hA, hE, hin⟩ := C
  have hsv := hE.2.2.2.2.2.2.2.2.2.2.2.1
  intro ls st σ ls' st' σ' ad H locs lsA h hW hl hB kk
  unfold xone at h
  dsimp only at h
  split at h
  · split at h
    · cases h
    · rename_i hc
      cases h
      exact lv_idiv hx hb hd hc (kk ad H locs lsA hW (fun _ _ => rfl) hl)
  · cases h
theorem sn_irem {K : XK} (C : xCx p s m args meth c D cA A sv adc own cc nL nm) (hd : decode cc pc = .ok (.irem, 1)) : xStep p l e R s m args below meth c Q D cA A sv adc nL bC bS K (.irem) pc 1 := by
  obtain ⟨hx, hb, hml, hown, hts, hK, hA, hE, hin⟩ := C
  have hsv := hE.2.2.2.2.2.2.2.2.2.2.2.1
  intro ls st σ ls' st' σ' ad H locs lsA h hW hl hB kk
  unfold xone at h
  dsimp only at h
  split at h
  · split at h
    · cases h
    · rename_i hc
      cases h
      exact lv_irem hx hb hd hc (kk ad H locs lsA hW (fun _ _ => rfl) hl)
  · cases h
theorem sn_f2d {K : XK} (C : xCx p s m args meth c D cA A sv adc own cc nL nm) (hd : decode cc pc = .ok (.f2d, 1)) : xStep p l e R s m args below meth c Q D cA A sv adc nL bC bS K (.f2d) pc 1 := by
  obtain ⟨hx, hb, hml, hown, hts, hK, hA, hE, hin⟩ := C
  have hsv := hE.2.2.2.2.2.2.2.2.2.2.2.1
  intro ls st σ ls' st' σ' ad H locs lsA h hW hl hB kk
  unfold xone at h
  dsimp only at h
  split at h
  · split at h
    · rename_i hc
      cases h
      exact lv_f2d hx hb hd hc (kk ad H locs lsA hW (fun _ _ => rfl) hl)
    · cases h
  · cases h
theorem sn_fmul {K : XK} (C : xCx p s m args meth c D cA A sv adc own cc nL nm) (hd : decode cc pc = .ok (.fmul, 1)) : xStep p l e R s m args below meth c Q D cA A sv adc nL bC bS K (.fmul) pc 1 := by
  obtain ⟨hx, hb, hml, hown, hts, hK, hA, hE, hin⟩ := C
  have hsv := hE.2.2.2.2.2.2.2.2.2.2.2.1
  intro ls st σ ls' st' σ' ad H locs lsA h hW hl hB kk
  unfold xone at h
  dsimp only at h
  split at h
  · split at h
    · rename_i hc
      cases h
      exact lv_fmul hx hb hd hc (kk ad H locs lsA hW (fun _ _ => rfl) hl)
    · cases h
  · cases h
theorem sn_fdiv {K : XK} (C : xCx p s m args meth c D cA A sv adc own cc nL nm) (hd : decode cc pc = .ok (.fdiv, 1)) : xStep p l e R s m args below meth c Q D cA A sv adc nL bC bS K (.fdiv) pc 1 := by
  obtain ⟨hx, hb, hml, hown, hts, hK, hA, hE, hin⟩ := C
  have hsv := hE.2.2.2.2.2.2.2.2.2.2.2.1
  intro ls st σ ls' st' σ' ad H locs lsA h hW hl hB kk
  unfold xone at h
  dsimp only at h
  split at h
  · split at h
    · rename_i hc
      cases h
      exact lv_fdiv hx hb hd hc (kk ad H locs lsA hW (fun _ _ => rfl) hl)
    · cases h
  · cases h
theorem sn_fsub {K : XK} (C : xCx p s m args meth c D cA A sv adc own cc nL nm) (hd : decode cc pc = .ok (.fsub, 1)) : xStep p l e R s m args below meth c Q D cA A sv adc nL bC bS K (.fsub) pc 1 := by
  obtain ⟨hx, hb, hml, hown, hts, hK, hA, hE, hin⟩ := C
  have hsv := hE.2.2.2.2.2.2.2.2.2.2.2.1
  intro ls st σ ls' st' σ' ad H locs lsA h hW hl hB kk
  unfold xone at h
  dsimp only at h
  split at h
  · split at h
    · rename_i hc
      cases h
      exact lv_fsub hx hb hd hc (kk ad H locs lsA hW (fun _ _ => rfl) hl)
    · cases h
  · cases h
theorem sn_dmul {K : XK} (C : xCx p s m args meth c D cA A sv adc own cc nL nm) (hd : decode cc pc = .ok (.dmul, 1)) : xStep p l e R s m args below meth c Q D cA A sv adc nL bC bS K (.dmul) pc 1 := by
  obtain ⟨hx, hb, hml, hown, hts, hK, hA, hE, hin⟩ := C
  have hsv := hE.2.2.2.2.2.2.2.2.2.2.2.1
  intro ls st σ ls' st' σ' ad H locs lsA h hW hl hB kk
  unfold xone at h
  dsimp only at h
  split at h
  · split at h
    · rename_i hc
      cases h
      exact lv_dmul hx hb hd hc (kk ad H locs lsA hW (fun _ _ => rfl) hl)
    · cases h
  · cases h
theorem sn_ddiv {K : XK} (C : xCx p s m args meth c D cA A sv adc own cc nL nm) (hd : decode cc pc = .ok (.ddiv, 1)) : xStep p l e R s m args below meth c Q D cA A sv adc nL bC bS K (.ddiv) pc 1 := by
  obtain ⟨hx, hb, hml, hown, hts, hK, hA, hE, hin⟩ := C
  have hsv := hE.2.2.2.2.2.2.2.2.2.2.2.1
  intro ls st σ ls' st' σ' ad H locs lsA h hW hl hB kk
  unfold xone at h
  dsimp only at h
  split at h
  · split at h
    · rename_i hc
      cases h
      exact lv_ddiv hx hb hd hc (kk ad H locs lsA hW (fun _ _ => rfl) hl)
    · cases h
  · cases h
theorem sn_dsub {K : XK} (C : xCx p s m args meth c D cA A sv adc own cc nL nm) (hd : decode cc pc = .ok (.dsub, 1)) : xStep p l e R s m args below meth c Q D cA A sv adc nL bC bS K (.dsub) pc 1 := by
  obtain ⟨hx, hb, hml, hown, hts, hK, hA, hE, hin⟩ := C
  have hsv := hE.2.2.2.2.2.2.2.2.2.2.2.1
  intro ls st σ ls' st' σ' ad H locs lsA h hW hl hB kk
  unfold xone at h
  dsimp only at h
  split at h
  · split at h
    · rename_i hc
      cases h
      exact lv_dsub hx hb hd hc (kk ad H locs lsA hW (fun _ _ => rfl) hl)
    · cases h
  · cases h
theorem sn_dup {K : XK} (C : xCx p s m args meth c D cA A sv adc own cc nL nm) (hd : decode cc pc = .ok (.dup, 1)) : xStep p l e R s m args below meth c Q D cA A sv adc nL bC bS K (.dup) pc 1 := by
  obtain ⟨hx, hb, hml, hown, hts, hK, hA, hE, hin⟩ := C
  have hsv := hE.2.2.2.2.2.2.2.2.2.2.2.1
  intro ls st σ ls' st' σ' ad H locs lsA h hW hl hB kk
  unfold xone at h
  dsimp only at h
  split at h
  · split at h
    · rename_i hc
      cases h
      exact lv_dup hx hb hd (by rw [xre_cat hsv]; exact hc) (kk ad H locs lsA hW (fun _ _ => rfl) hl)
    · cases h
  · cases h
theorem sn_pop {K : XK} (C : xCx p s m args meth c D cA A sv adc own cc nL nm) (hd : decode cc pc = .ok (.pop, 1)) : xStep p l e R s m args below meth c Q D cA A sv adc nL bC bS K (.pop) pc 1 := by
  obtain ⟨hx, hb, hml, hown, hts, hK, hA, hE, hin⟩ := C
  have hsv := hE.2.2.2.2.2.2.2.2.2.2.2.1
  intro ls st σ ls' st' σ' ad H locs lsA h hW hl hB kk
  unfold xone at h
  dsimp only at h
  split at h
  · split at h
    · rename_i hc
      cases h
      exact lv_pop hx hb hd (by rw [xre_cat hsv]; exact hc) (kk ad H locs lsA hW (fun _ _ => rfl) hl)
    · cases h
  · cases h
theorem sn_dup2 {K : XK} (C : xCx p s m args meth c D cA A sv adc own cc nL nm) (hd : decode cc pc = .ok (.dup2, 1)) : xStep p l e R s m args below meth c Q D cA A sv adc nL bC bS K (.dup2) pc 1 := by
  obtain ⟨hx, hb, hml, hown, hts, hK, hA, hE, hin⟩ := C
  have hsv := hE.2.2.2.2.2.2.2.2.2.2.2.1
  intro ls st σ ls' st' σ' ad H locs lsA h hW hl hB kk
  unfold xone at h
  dsimp only at h
  split at h
  · split at h
    · rename_i hc
      cases h
      exact lv_dup2_11 hx hb hd (by rw [xre_cat hsv]; exact hc.1) (by rw [xre_cat hsv]; exact hc.2) (kk ad H locs lsA hW (fun _ _ => rfl) hl)
    · cases h
  · cases h
theorem sn_fconst0 {K : XK} (C : xCx p s m args meth c D cA A sv adc own cc nL nm) (hd : decode cc pc = .ok (.fconst 0, 1)) : xStep p l e R s m args below meth c Q D cA A sv adc nL bC bS K (.fconst 0) pc 1 := by
  obtain ⟨hx, hb, hml, hown, hts, hK, hA, hE, hin⟩ := C
  have hsv := hE.2.2.2.2.2.2.2.2.2.2.2.1
  intro ls st σ ls' st' σ' ad H locs lsA h hW hl hB kk
  unfold xone at h
  dsimp only at h
  cases h
  exact lv_fconst0 hx hb hd (kk ad H locs lsA hW (fun _ _ => rfl) hl)
theorem sn_fconst1 {K : XK} (C : xCx p s m args meth c D cA A sv adc own cc nL nm) (hd : decode cc pc = .ok (.fconst 1, 1)) : xStep p l e R s m args below meth c Q D cA A sv adc nL bC bS K (.fconst 1) pc 1 := by
  obtain ⟨hx, hb, hml, hown, hts, hK, hA, hE, hin⟩ := C
  have hsv := hE.2.2.2.2.2.2.2.2.2.2.2.1
  intro ls st σ ls' st' σ' ad H locs lsA h hW hl hB kk
  unfold xone at h
  dsimp only at h
  cases h
  exact lv_fconst1 hx hb hd (kk ad H locs lsA hW (fun _ _ => rfl) hl)
theorem sn_fconst2 {K : XK} (C : xCx p s m args meth c D cA A sv adc own cc nL nm) (hd : decode cc pc = .ok (.fconst 2, 1)) : xStep p l e R s m args below meth c Q D cA A sv adc nL bC bS K (.fconst 2) pc 1 := by
  obtain ⟨hx, hb, hml, hown, hts, hK, hA, hE, hin⟩ := C
  have hsv := hE.2.2.2.2.2.2.2.2.2.2.2.1
  intro ls st σ ls' st' σ' ad H locs lsA h hW hl hB kk
  unfold xone at h
  dsimp only at h
  cases h
  exact lv_fconst2 hx hb hd (kk ad H locs lsA hW (fun _ _ => rfl) hl)
theorem sn_dconst0 {K : XK} (C : xCx p s m args meth c D cA A sv adc own cc nL nm) (hd : decode cc pc = .ok (.dconst 0, 1)) : xStep p l e R s m args below meth c Q D cA A sv adc nL bC bS K (.dconst 0) pc 1 := by
  obtain ⟨hx, hb, hml, hown, hts, hK, hA, hE, hin⟩ := C
  have hsv := hE.2.2.2.2.2.2.2.2.2.2.2.1
  intro ls st σ ls' st' σ' ad H locs lsA h hW hl hB kk
  unfold xone at h
  dsimp only at h
  cases h
  exact lv_dconst0 hx hb hd (kk ad H locs lsA hW (fun _ _ => rfl) hl)
theorem sn_dconst1 {K : XK} (C : xCx p s m args meth c D cA A sv adc own cc nL nm) (hd : decode cc pc = .ok (.dconst 1, 1)) : xStep p l e R s m args below meth c Q D cA A sv adc nL bC bS K (.dconst 1) pc 1 := by
  obtain ⟨hx, hb, hml, hown, hts, hK, hA, hE, hin⟩ := C
  have hsv := hE.2.2.2.2.2.2.2.2.2.2.2.1
  intro ls st σ ls' st' σ' ad H locs lsA h hW hl hB kk
  unfold xone at h
  dsimp only at h
  cases h
  exact lv_dconst1 hx hb hd (kk ad H locs lsA hW (fun _ _ => rfl) hl)
theorem xcat_re {ad : Nat → Nat} {sv : Value} (h : sv.category = 1) (r : List Value) : ((r.map (xre ad sv)).map fun v => v.category).sum = (r.map fun v => v.category).sum := by
  rw [List.map_map]
  have e : ((fun v : Value => v.category) ∘ xre ad sv) = fun v => v.category := funext fun v => xre_cat h v
  rw [e]
theorem xO_inst : Cond.instanceMethod objectInit ∈ xWS := xat_in (i := 124) (by decide +kernel)
theorem xO_code : Cond.code objectInit ⟨#[0xb1]⟩ 1 none ∈ xWS := xat_in (i := 125) (by decide +kernel)
theorem sn_objinit {K : XK} (C : xCx p s m args meth c D cA A sv adc own cc nL nm) {k : Nat} (hw : Cond.methodLink (xow own) k objectInit ∈ xWS) (hR : 1 ≤ R.frames ∧ 30 ≤ R.locals) (hd : decode cc pc = .ok (.invokespecial k, 3)) : xStep p l e R s m args below meth c Q D cA A sv adc nL bC bS K (.monitorexit) pc 3 := by
  obtain ⟨hx, hb, hml, hown, hts, hK, hA, hE, hin⟩ := C
  have hsv := hE.2.2.2.2.2.2.2.2.2.2.2.1
  intro ls st σ ls' st' σ' ad H locs lsA h hW hl hB kk
  unfold xone at h
  dsimp only at h
  split at h
  · split at h
    · rename_i hc
      cases h
      exact W.objInit hx hb hown (hts _ hw) (hts _ xO_inst) (hts _ xO_code) rfl (hl.1.trans hml.symm) rfl hd hR.1 (by show 2 * 0 + _ + 12 ≤ _; rw [show ((List.map (xre ad sv) _).map fun v => v.category).sum = _ from xcat_re hsv _]; have := hR.2; omega) (kk ad H locs lsA hW (fun _ _ => rfl) hl)
    · cases h
  · cases h
end XOne
end
section
/-! The instructions of X that read and write cells. -/
section XHeap
variable {p : Program} {l : Launch} {e : Env} {R : Room} {s : State} {m : MethodId} {args : Array Value} {below : List Frame} {meth : Method} {c : Code} {Q : State → Prop} {D : va_G} {cA : Nat → ClassId} {A : Nat → Prop} {sv : Value} {adc : Nat → Nat} {own : Nat} {cc : ByteArray} {nL : Nat} {nm : MethodName} {bC bS : Nat} {pc : Nat}
theorem xcell_o {ad : Nat → Nat} {cA : Nat → ClassId} {w : Nat → Value} {m : XM} {a : Nat} {x : XC} (h : x.1 < 12) : xcell ad cA w m a x = .inr (x.1, (List.range x.2.1).map (xfv ad m a x)) := by
  unfold xcell; rw [if_pos (by omega)]
theorem xcell_i {ad : Nat → Nat} {cA : Nat → ClassId} {w : Nat → Value} {m : XM} {a : Nat} {x : XC} (h : x.1 = 20 ∨ x.1 = 21 ∨ x.1 = 22) : xcell ad cA w m a x = .inl (cA x.1, x.2.1, .inl (m a)) := by
  unfold xcell; rw [if_neg (by omega), if_neg (by omega), if_neg (by omega), if_neg (by omega)]
theorem xcell_l {ad : Nat → Nat} {cA : Nat → ClassId} {w : Nat → Value} {m : XM} {a : Nat} {x : XC} (h : x.1 = 23) : xcell ad cA w m a x = .inl (cA 23, x.2.1, .inr (.inl (fun j => if j = 0 then xtl (w a) else 0))) := by
  unfold xcell; rw [if_neg (by omega), if_pos h]
theorem xcell_d {ad : Nat → Nat} {cA : Nat → ClassId} {w : Nat → Value} {m : XM} {a : Nat} {x : XC} (h : x.1 = 24) : xcell ad cA w m a x = .inl (cA 24, x.2.1, .inr (.inr (.inr (.inl (fun j => if j = 0 then xtd (w a) else 0))))) := by
  unfold xcell; rw [if_neg (by omega), if_neg (by omega), if_pos h]
theorem xcell_q {ad : Nat → Nat} {cA : Nat → ClassId} {w : Nat → Value} {m : XM} {a : Nat} {x : XC} (h : x.1 = 25) : xcell ad cA w m a x = .inl (cA 25, x.2.1, .inr (.inr (.inr (.inr (fun k => (x.2.2.getD k none).map ad))))) := by
  unfold xcell; rw [if_neg (by omega), if_neg (by omega), if_neg (by omega), if_pos h]
theorem xin_vp {i : Int32} {n : Nat} (h : xin i n = true) : vp_in i n := by
  unfold xin at h
  rw [Bool.and_eq_true, decide_eq_true_eq, decide_eq_true_eq] at h
  intro q
  rcases q with q | q
  · exact absurd h.1 (Int32.not_le.mpr q)
  · omega
theorem xfs_set_i {ad : Nat → Nat} {m : XM} {a k : Nat} {x : XC} {v : Int32} (hr : xref x.1 k = false) : ((List.range x.2.1).map (xfv ad m a x)).set k (.int v) = (List.range x.2.1).map (xfv ad (um m a k v) a x) := by
  apply List.ext_getElem?
  intro i
  by_cases hi : i = k
  · subst hi
    by_cases hl : i < x.2.1
    · rw [List.getElem?_set_self (by simpa using hl), List.getElem?_map, List.getElem?_range hl]
      simp only [Option.map_some]
      unfold xfv um
      rw [hr]; simp
    · rw [List.getElem?_eq_none (by simp; omega), List.getElem?_eq_none (by simp; omega)]
  · rw [List.getElem?_set_ne (Ne.symm hi), List.getElem?_map, List.getElem?_map]
    cases hz : (List.range x.2.1)[i]? with
    | none => rfl
    | some j =>
      have : j = i := by
        obtain ⟨h1, h2⟩ := List.getElem?_eq_some_iff.mp hz
        rw [List.getElem_range] at h2; exact h2.symm
      subst this
      simp only [Option.map_some]
      unfold xfv um
      rw [if_neg (c := a = a ∧ j = k) (fun q => hi q.2)]
theorem xfs_set_r {ad : Nat → Nat} {m : XM} {a k b : Nat} {ci n : Nat} {rs : List (Option Nat)} (hr : xref ci k = true) (hl : rs.length = n) : ((List.range n).map (xfv ad m a (ci, n, rs))).set k (.ref (ad b)) = (List.range n).map (xfv ad m a (ci, n, rs.set k (some b))) := by
  apply List.ext_getElem?
  intro i
  by_cases hi : i = k
  · subst hi
    by_cases hl2 : i < n
    · rw [List.getElem?_set_self (by simpa using hl2), List.getElem?_map, List.getElem?_range hl2]
      simp only [Option.map_some]
      unfold xfv
      rw [if_pos hr]
      have : (rs.set i (some b)).getD i none = some b := by
        rw [List.getD_eq_getElem?_getD, List.getElem?_set_self (by omega)]; rfl
      dsimp only
      rw [this]; rfl
    · rw [List.getElem?_eq_none (by simp; omega), List.getElem?_eq_none (by simp; omega)]
  · rw [List.getElem?_set_ne (Ne.symm hi), List.getElem?_map, List.getElem?_map]
    cases hz : (List.range n)[i]? with
    | none => rfl
    | some j =>
      have : j = i := by
        obtain ⟨h1, h2⟩ := List.getElem?_eq_some_iff.mp hz
        rw [List.getElem_range] at h2; exact h2.symm
      subst this
      simp only [Option.map_some]
      unfold xfv
      dsimp only
      have : (rs.set k (some b)).getD j none = rs.getD j none := by
        rw [List.getD_eq_getElem?_getD, List.getD_eq_getElem?_getD, List.getElem?_set_ne (Ne.symm hi)]
      rw [this]
theorem sn_getfield {K : XK} {f k : Nat} (C : xCx p s m args meth c D cA A sv adc own cc nL nm) (hw : Cond.fieldLink (xow own) k (xF f).1 (xF f).2.1 (xF f).2.2 ∈ xWS) (hf : (f / 32 < 12 ∧ f % 32 < xnf.getD (f / 32) 0) ∨ f = 960 ∨ f = 961) (hd : decode cc pc = .ok (.getfield k, 3)) : xStep p l e R s m args below meth c Q D cA A sv adc nL bC bS K (.getfield f) pc 3 := by
  obtain ⟨hx, hb, hml, hown, hts, hK, hA, hE, hin⟩ := C
  intro ls st σ ls' st' σ' ad H locs lsA h hW hl hB kk
  unfold xone at h
  dsimp only at h
  split at h
  · rename_i a r
    split at h
    · rename_i v hv
      cases h
      unfold xget at hv
      split at hv
      · rename_i ci n rs hS
        split at hv
        · rename_i hc
          obtain ⟨h1, h2, h3⟩ := hc
          subst h1
          rcases hf with ⟨hf1, hf2⟩ | rfl | rfl
          · obtain ⟨C9, T, N, ty, q1, q2, q3, q4, q5, q6, q7, q8, q9, q10⟩ := xcls hf1
            have hF : xF f = (C9, (T (f % 32)).2.1, (T (f % 32)).2.2.1) := by
              unfold xF
              rw [if_neg (by omega), if_neg (by omega), q1]
            rw [hF] at hw
            have hk9 : f % 32 < N := by rw [q3]; exact hf2
            have hcell := xws_at (ad := ad) (cA := cA) hS
            rw [xcell_o (show (f / 32, n, rs).1 < 12 from hf1)] at hcell
            refine va_get (D := D) (ci := f / 32) (v := xre ad sv v) (C := C9) (T := T) (N := N) (ref := C9) hx hb hts q4 hown hK hW.1 a hcell q1 (f % 32) hk9 (hts _ hw) (by rw [q9 _ hk9]; exact fun _ z => z) ?_ hd (kk ad H locs lsA hW (fun _ _ => rfl) hl)
            rw [List.getElem?_map, List.getElem?_range h2]
            simp only [Option.map_some]
            congr 1
            unfold xfv
            dsimp only
            by_cases hr : xref (f / 32) (f % 32) = true
            · rw [if_pos hr] at hv ⊢
              split at hv
              · rename_i b hb9
                cases hv
                rw [List.getD_eq_getElem?_getD, hb9]; rfl
              · cases hv
            · rw [if_neg hr] at hv ⊢
              cases hv; rfl
          · omega
          · omega
        · cases hv
      · rename_i hS
        split at hv
        · rename_i hc
          have hE' := xEnv.ad (ad' := ad) hE (fun a h => hW.2.2.2 a h)
          obtain ⟨-, -, -, -, -, hs, -⟩ := hE'
          obtain ⟨i, hi0⟩ := Nat.exists_eq_add_of_le hc.1
          have hi : i < 18 := by have := hc.2; omega
          obtain ⟨-, g2, g3, -⟩ := hs.1 _ hi
          subst hi0
          split at hv
          · rename_i hf0
            cases hv; subst hf0
            have e2 : 1000040 + i = 1000010 + i + 30 := by omega
            dsimp only at g3
            rw [e2] at g3
            exact vk_getf (ref := "java/lang/String") hx hb g3 hW.2.2.1 hown (hts _ hw) (fun _ z => z) hd (kk ad H locs lsA hW (fun _ _ => rfl) hl)
          · split at hv
            · rename_i hf0
              cases hv; subst hf0
              exact vk_getf (ref := "java/lang/String") hx hb g2 hW.2.2.1 hown (hts _ hw) (fun _ z => z) hd (kk ad H locs lsA hW (fun _ _ => rfl) hl)
            · cases hv
        · cases hv
    · cases h
  · cases h
theorem xWf_at {D : va_G} {cA : Nat → ClassId} {A : Nat → Prop} {s : State} {adc ad : Nat → Nat} {σ τ : XS} {H H1 : Heap} {locs locs1 : List Loc} (hW : xWf D cA A s adc ad σ H locs) {a : Nat} {z z' : va_E} (hz : z = z') (he : xws ad cA τ = (xws ad cA σ).set a (ad a, z')) (h1 : va_P D vwCl ((xws ad cA σ).set a (ad a, z)) H1) (h2 : va_D A ((xws ad cA σ).set a (ad a, z))) (h3 : va_S A s.heap H1 locs1) : xWf D cA A s adc ad τ H1 locs1 := by
  subst hz
  exact ⟨by rw [he]; exact h1, by rw [he]; exact h2, h3, hW.2.2.2⟩
theorem sn_putfield {K : XK} {f k : Nat} (C : xCx p s m args meth c D cA A sv adc own cc nL nm) (hw : Cond.fieldLink (xow own) k (xF f).1 (xF f).2.1 (xF f).2.2 ∈ xWS) (hf : f / 32 < 12 ∧ f % 32 < xnf.getD (f / 32) 0)
    (hfin : ∀ T N C9, vwCl[f / 32]? = some (C9, T, N) → (T (f % 32)).2.2.2 = false ∨ (nm.name = "<init>" ∧ own = f / 32)) (hd : decode cc pc = .ok (.putfield k, 3)) : xStep p l e R s m args below meth c Q D cA A sv adc nL bC bS K (.putfield f) pc 3 := by
  obtain ⟨hx, hb, hml, hown, hts, hK, hA, hE, hin⟩ := C
  intro ls st σ ls' st' σ' ad H locs lsA h hW hl hB kk
  obtain ⟨hf1, hf2⟩ := hf
  obtain ⟨C9, T, N, ty, q1, q2, q3, q4, q5, q6, q7, q8, q9, q10⟩ := xcls hf1
  have hF : xF f = (C9, (T (f % 32)).2.1, (T (f % 32)).2.2.1) := by
    unfold xF
    rw [if_neg (by omega), if_neg (by omega), q1]
  rw [hF] at hw
  have hk9 : f % 32 < N := by rw [q3]; exact hf2
  have ht10 := q10 _ hk9
  have hfin := hfin T N C9 q1
  have hput : ∀ {a : Nat} {n : Nat} {rs : List (Option Nat)} {v : Value} {r : List Value} {cells slots : Nat}, σ.1[a]? = some (f / 32, n, rs) → f % 32 < n → narrow (ty (f % 32)) v = v → fits (ty (f % 32)) v = true →
      (∀ (H1 : Heap) (locs1 : List Loc), va_P D vwCl ((xws ad cA σ).set a (ad a, .inr (f / 32, ((List.range n).map (xfv ad σ.2.2.2 a (f / 32, n, rs))).set (f % 32) v))) H1 → va_D A ((xws ad cA σ).set a (ad a, .inr (f / 32, ((List.range n).map (xfv ad σ.2.2.2 a (f / 32, n, rs))).set (f % 32) v))) → va_S A s.heap H1 locs1 → W p l e R s m args below meth c H1 locs1 cells slots Q (F0 m (pc + 3) lsA r)) →
      W p l e R s m args below meth c H locs cells slots Q (F0 m pc lsA (v :: .ref (ad a) :: r)) := by
    intro a n rs v r cells slots hS hn hnar hfit kk9
    have hcell := xws_at (ad := ad) (cA := cA) hS
    rw [xcell_o (show (f / 32, n, rs).1 < 12 from hf1)] at hcell
    by_cases hfl : (T (f % 32)).2.2.2 = false
    · exact va_put (D := D) (ci := f / 32) (v := v) (ty := ty (f % 32)) (C := C9) (T := T) (N := N) (ref := C9) hx hb hts q4 ty q7 q8 hown hK hW.1 hW.2.1 hW.2.2.1 a hcell q1 (f % 32) hk9 (hts _ hw) (by rw [q9 _ hk9]; exact fun _ z => z) hfl (q7 _ hk9) hnar hfit (by simpa using hn) hd kk9
    · rcases hfin with z | ⟨z1, z2⟩
      · exact absurd z hfl
      · exact va_putF (D := D) (ci := f / 32) (v := v) (ty := ty (f % 32)) (C := C9) (T := T) (N := N) (ref := C9) hx hb hts q4 ty q7 q8 hown hK hW.1 hW.2.1 hW.2.2.1 a hcell q1 (f % 32) hk9 (hts _ hw) (by rw [q9 _ hk9]; exact fun _ z => z) (by cases hb9 : (T (f % 32)).2.2.2 with
          | true => rfl
          | false => exact absurd hb9 hfl) (hin.trans z1) (by rw [q9 _ hk9, q2, z2]) (q7 _ hk9) hnar hfit (by simpa using hn) hd kk9
  unfold xone at h
  dsimp only at h
  split at h
  · rename_i v a r
    split at h
    · rename_i ci n rs hS
      split at h
      · rename_i hc
        obtain ⟨h1, h2, h3, h4, h5⟩ := hc
        subst h1
        cases h
        unfold xfT at ht10
        rw [h4] at ht10
        obtain ⟨t1, t2⟩ := ht10.2 v h5
        refine hput (v := .int v) hS h3 t1 t2 (fun H1 locs1 g1 g2 g3 => kk ad H1 locs1 lsA (xWf_at hW (a := a) ?_ (xws_um hS) g1 g2 g3) (fun _ _ => rfl) hl)
        rw [xcell_o (show (f / 32, n, rs).1 < 12 from hf1)]
        congr 2
        exact xfs_set_i (x := (f / 32, n, rs)) h4
      · cases h
    · cases h
  · rename_i v a r
    split at h
    · rename_i ci n rs hS
      split at h
      · rename_i hc
        obtain ⟨h1, h2, h3, h4, h5, h6⟩ := hc
        subst h1
        cases h
        unfold xfT at ht10
        rw [h4] at ht10
        obtain ⟨t0, t1, t2⟩ := ht10
        have hz : nC (σ.1.set a (f / 32, n, rs.set (f % 32) (some v)), σ.2.1, σ.2.2.1, σ.2.2.2) = nC σ := by unfold nC; dsimp only; rw [List.length_set]
        have hz2 : nS (σ.1.set a (f / 32, n, rs.set (f % 32) (some v)), σ.2.1, σ.2.2.1, σ.2.2.2) = nS σ := by
          unfold nS; dsimp only
          rw [List.map_set]
          congr 2
          have hlt := (List.getElem?_eq_some_iff.mp hS).1
          apply List.ext_getElem?
          intro i
          by_cases hi : i = a
          · subst hi
            rw [List.getElem?_set_self (by simpa using hlt), List.getElem?_map, hS]; rfl
          · rw [List.getElem?_set_ne (Ne.symm hi)]
        rw [hz, hz2] at kk
        refine hput (v := .ref (ad v)) hS h3 (t1 _) (t2 _) (fun H1 locs1 g1 g2 g3 => kk ad H1 locs1 lsA (xWf_at hW (a := a) ?_ (xws_cell hS) g1 g2 g3) (fun _ _ => rfl) hl)
        rw [xcell_o (show (f / 32, n, rs.set (f % 32) (some v)).1 < 12 from hf1)]
        congr 2
        exact xfs_set_r h4 h5
      · cases h
    · cases h
  · cases h
end XHeap
end
section
/-! The instructions of X on arrays, statics, texts and new cells. -/
section XArr
variable {p : Program} {l : Launch} {e : Env} {R : Room} {s : State} {m : MethodId} {args : Array Value} {below : List Frame} {meth : Method} {c : Code} {Q : State → Prop} {D : va_G} {cA : Nat → ClassId} {A : Nat → Prop} {sv : Value} {adc : Nat → Nat} {own : Nat} {cc : ByteArray} {nL : Nat} {nm : MethodName} {bC bS : Nat} {pc : Nat}
theorem sn_iaload {K : XK} (C : xCx p s m args meth c D cA A sv adc own cc nL nm) (hsc : xSc K adc A s) (hd : decode cc pc = .ok (.iaload, 1)) : xStep p l e R s m args below meth c Q D cA A sv adc nL bC bS K .iaload pc 1 := by
  obtain ⟨hx, hb, hml, hown, hts, hK, hA, hE, hin⟩ := C
  intro ls st σ ls' st' σ' ad H locs lsA h hW hl hB kk
  unfold xone at h
  dsimp only at h
  split at h
  · rename_i i a r
    split at h
    · rename_i ci n rs hS
      split at h
      · rename_i hc
        obtain ⟨h1, h2⟩ := hc
        subst h1
        cases h
        have hcell := xws_at (ad := ad) (cA := cA) hS
        rw [xcell_i (x := (20, n, rs)) (Or.inl rfl)] at hcell
        exact va_iald hx hb hK hW.1 a 0 hcell rfl (xin_vp h2) hd (kk ad H locs lsA hW (fun _ _ => rfl) hl)
      · cases h
    · split at h
      · rename_i n f hf
        split at h
        · rename_i h2
          cases h
          unfold xci at hf
          have hE' := xEnv.ad (ad' := ad) hE (fun a h => hW.2.2.2 a h)
          split at hf
          · rename_i ha
            split at hf
            · cases hf
            · rename_i hz
              cases hf; subst ha
              rcases hsc with z | ⟨z1, z2, z3⟩
              · exact absurd z hz
              · have e : ad 1000000 = adc 1000000 := hW.2.2.2 _ (Nat.le_refl _)
                have := va_sld (b := adc 1000000) (rest := List.map (xre ad sv) r) (ls := lsA) hx hb z1 z2 z3 hW.2.2.1 (xin_vp h2) hd (kk ad H locs lsA hW (fun _ _ => rfl) hl)
                rw [← e] at this
                exact this
          · split at hf
            · rename_i ha
              cases hf; subst ha
              exact va_ti hx hb hE'.1.2 hW.2.2.1 (xin_vp h2) rfl hd (kk ad H locs lsA hW (fun _ _ => rfl) hl)
            · split at hf
              · rename_i ha
                cases hf; subst ha
                exact va_ti hx hb hE'.2.1.2 hW.2.2.1 (xin_vp h2) rfl hd (kk ad H locs lsA hW (fun _ _ => rfl) hl)
              · cases hf
        · cases h
      · cases h
  · cases h
theorem sn_iastore {K : XK} (C : xCx p s m args meth c D cA A sv adc own cc nL nm) (hd : decode cc pc = .ok (.iastore, 1)) : xStep p l e R s m args below meth c Q D cA A sv adc nL bC bS K .iastore pc 1 := by
  obtain ⟨hx, hb, hml, hown, hts, hK, hA, hE, hin⟩ := C
  intro ls st σ ls' st' σ' ad H locs lsA h hW hl hB kk
  unfold xone at h
  dsimp only at h
  split at h
  · rename_i v i a r
    split at h
    · rename_i ci n rs hS
      split at h
      · rename_i hc
        obtain ⟨h1, h2⟩ := hc
        subst h1
        cases h
        have hcell := xws_at (ad := ad) (cA := cA) hS
        rw [xcell_i (x := (20, n, rs)) (Or.inl rfl)] at hcell
        refine va_iast hx hb hK hW.1 hW.2.1 hW.2.2.1 a 0 hcell rfl (xin_vp h2) hd (fun H1 locs1 g1 g2 g3 => kk ad H1 locs1 lsA (xWf_at hW (a := a) ?_ (xws_um hS) g1 g2 g3) (fun _ _ => rfl) hl)
        rw [xcell_i (x := (20, n, rs)) (Or.inl rfl)]
        congr 4
        funext j
        unfold upd um
        by_cases hj : j = i.toNatClampNeg
        · rw [if_pos hj, if_pos ⟨rfl, hj⟩]
        · rw [if_neg hj, if_neg (fun q => hj q.2)]
      · cases h
    · cases h
  · cases h
theorem sn_baload {K : XK} (C : xCx p s m args meth c D cA A sv adc own cc nL nm) (hd : decode cc pc = .ok (.baload, 1)) : xStep p l e R s m args below meth c Q D cA A sv adc nL bC bS K .baload pc 1 := by
  obtain ⟨hx, hb, hml, hown, hts, hK, hA, hE, hin⟩ := C
  intro ls st σ ls' st' σ' ad H locs lsA h hW hl hB kk
  unfold xone at h
  dsimp only at h
  split at h
  · rename_i i a r
    split at h
    · rename_i ci n rs hS
      split at h
      · rename_i hc
        obtain ⟨h1, h2⟩ := hc
        cases h
        have hcell := xws_at (ad := ad) (cA := cA) hS
        rcases h1 with rfl | rfl
        · rw [xcell_i (x := (21, n, rs)) (Or.inr (Or.inl rfl))] at hcell
          exact va_bald hx hb hK hW.1 a 1 hcell rfl (xin_vp h2) hd (kk ad H locs lsA hW (fun _ _ => rfl) hl)
        · rw [xcell_i (x := (22, n, rs)) (Or.inr (Or.inr rfl))] at hcell
          exact va_zald hx hb hK hW.1 a 2 hcell rfl (xin_vp h2) hd (kk ad H locs lsA hW (fun _ _ => rfl) hl)
      · cases h
    · split at h
      · rename_i n f hf
        split at h
        · rename_i h2
          cases h
          unfold xcb at hf
          have hE' := xEnv.ad (ad' := ad) hE (fun a h => hW.2.2.2 a h)
          obtain ⟨-, -, -, -, -, hs, -⟩ := hE'
          split at hf
          · rename_i ha
            obtain ⟨j, hj⟩ := Nat.exists_eq_add_of_le ha
            subst hj
            rw [Nat.add_sub_cancel_left] at hf
            cases hz : xstr[j]? with
            | none => rw [hz] at hf; cases hf
            | some w =>
              rw [hz] at hf
              cases hf
              have hj : j < 18 := by
                have := (List.getElem?_eq_some_iff.mp hz).1
                exact this
              obtain ⟨-, -, -, g4⟩ := hs.1 _ hj
              have e1 : xlens.getD j 0 = w.length := by
                unfold xlens
                rw [List.getD_eq_getElem?_getD, List.getElem?_map, hz]; rfl
              have e2 : xstr.getD j [] = w := by rw [List.getD_eq_getElem?_getD, hz]; rfl
              rw [e1, e2] at g4
              exact va_tb hx hb g4 hW.2.2.1 (xin_vp h2) rfl hd (kk ad H locs lsA hW (fun _ _ => rfl) hl)
          · cases hf
        · cases h
      · cases h
  · cases h
theorem sn_bastore {K : XK} (C : xCx p s m args meth c D cA A sv adc own cc nL nm) (hd : decode cc pc = .ok (.bastore, 1)) : xStep p l e R s m args below meth c Q D cA A sv adc nL bC bS K .bastore pc 1 := by
  obtain ⟨hx, hb, hml, hown, hts, hK, hA, hE, hin⟩ := C
  intro ls st σ ls' st' σ' ad H locs lsA h hW hl hB kk
  unfold xone at h
  dsimp only at h
  split at h
  · rename_i v i a r
    split at h
    · rename_i ci n rs hS
      have hcell := xws_at (ad := ad) (cA := cA) hS
      split at h
      · rename_i hc
        obtain ⟨h1, h2⟩ := hc
        subst h1
        cases h
        rw [xcell_i (x := (21, n, rs)) (Or.inr (Or.inl rfl))] at hcell
        refine va_bast hx hb hK hW.1 hW.2.1 hW.2.2.1 a 1 hcell rfl (xin_vp h2) hd (fun H1 locs1 g1 g2 g3 => kk ad H1 locs1 lsA (xWf_at hW (a := a) ?_ (xws_um hS) g1 g2 g3) (fun _ _ => rfl) hl)
        rw [xcell_i (x := (21, n, rs)) (Or.inr (Or.inl rfl))]
        congr 4
        funext j
        rw [vp_nar_byte]
        unfold upd um
        by_cases hj : j = i.toNatClampNeg
        · rw [if_pos hj, if_pos ⟨rfl, hj⟩]
        · rw [if_neg hj, if_neg (fun q => hj q.2)]
      · split at h
        · rename_i hc
          obtain ⟨h1, h2, h3⟩ := hc
          subst h1
          cases h
          rw [xcell_i (x := (22, n, rs)) (Or.inr (Or.inr rfl))] at hcell
          refine va_zast hx hb hK hW.1 hW.2.1 hW.2.2.1 a 2 hcell rfl (xin_vp h2) hd (fun H1 locs1 g1 g2 g3 => kk ad H1 locs1 lsA (xWf_at hW (a := a) ?_ (xws_um hS) g1 g2 g3) (fun _ _ => rfl) hl)
          rw [xcell_i (x := (22, n, rs)) (Or.inr (Or.inr rfl))]
          have hv : vp_nar .boolean v = v := by rcases h3 with rfl | rfl <;> decide
          congr 4
          funext j
          rw [hv]
          unfold upd um
          by_cases hj : j = i.toNatClampNeg
          · rw [if_pos hj, if_pos ⟨rfl, hj⟩]
          · rw [if_neg hj, if_neg (fun q => hj q.2)]
        · cases h
    · cases h
  · cases h
theorem sn_aaload {K : XK} (C : xCx p s m args meth c D cA A sv adc own cc nL nm) (hd : decode cc pc = .ok (.aaload, 1)) : xStep p l e R s m args below meth c Q D cA A sv adc nL bC bS K .aaload pc 1 := by
  obtain ⟨hx, hb, hml, hown, hts, hK, hA, hE, hin⟩ := C
  intro ls st σ ls' st' σ' ad H locs lsA h hW hl hB kk
  unfold xone at h
  dsimp only at h
  split at h
  · rename_i i a r
    split at h
    · rename_i ci n rs hS
      split at h
      · rename_i hc
        obtain ⟨h1, h2⟩ := hc
        subst h1
        split at h
        · rename_i b hb9
          cases h
          have hcell := xws_at (ad := ad) (cA := cA) hS
          rw [xcell_q (x := (25, n, rs)) rfl] at hcell
          refine va_aldq hx hb hK hW.1 a 5 hcell rfl (xin_vp h2) hd ?_
          have e9 : rs.getD i.toNatClampNeg none = some b := by rw [List.getD_eq_getElem?_getD, hb9]; rfl
          dsimp only
          rw [e9]
          exact kk ad H locs lsA hW (fun _ _ => rfl) hl
        · cases h
      · cases h
    · cases h
  · cases h
theorem sn_aastore {K : XK} (C : xCx p s m args meth c D cA A sv adc own cc nL nm) (hd : decode cc pc = .ok (.aastore, 1)) : xStep p l e R s m args below meth c Q D cA A sv adc nL bC bS K .aastore pc 1 := by
  obtain ⟨hx, hb, hml, hown, hts, hK, hA, hE, hin⟩ := C
  intro ls st σ ls' st' σ' ad H locs lsA h hW hl hB kk
  unfold xone at h
  dsimp only at h
  split at h
  · rename_i v i a r
    split at h
    · rename_i ci n rs hS
      split at h
      · rename_i cv nv rv hSv
        split at h
        · rename_i hc
          obtain ⟨h1, h2, h3, h4⟩ := hc
          subst h1; subst h3
          cases h
          have hcell := xws_at (ad := ad) (cA := cA) hS
          rw [xcell_q (x := (25, n, rs)) rfl] at hcell
          have hcellv := xws_at (ad := ad) (cA := cA) hSv
          rw [xcell_o (x := (8, nv, rv)) (by show 8 < 12; omega)] at hcellv
          have hz : nC (σ.1.set a (25, n, rs.set i.toNatClampNeg (some v)), σ.2.1, σ.2.2.1, σ.2.2.2) = nC σ := by unfold nC; dsimp only; rw [List.length_set]
          have hz2 : nS (σ.1.set a (25, n, rs.set i.toNatClampNeg (some v)), σ.2.1, σ.2.2.1, σ.2.2.2) = nS σ := by
            unfold nS; dsimp only
            rw [List.map_set]
            congr 2
            have hlt := (List.getElem?_eq_some_iff.mp hS).1
            apply List.ext_getElem?
            intro i
            by_cases hi : i = a
            · subst hi
              rw [List.getElem?_set_self (by simpa using hlt), List.getElem?_map, hS]; rfl
            · rw [List.getElem?_set_ne (Ne.symm hi)]
          rw [hz, hz2] at kk
          refine va_astq hx hb hK hW.1 hW.2.1 hW.2.2.1 a 5 v 8 (r := (RX8, TX8, 9)) hcell rfl hcellv rfl (xin_vp h2) hd (fun H1 locs1 g1 g2 g3 => kk ad H1 locs1 lsA (xWf_at hW (a := a) ?_ (xws_cell hS) g1 g2 g3) (fun _ _ => rfl) hl)
          rw [xcell_q (x := (25, n, rs.set i.toNatClampNeg (some v))) rfl]
          congr 7
          funext j
          unfold va_up
          dsimp only
          have hlt : i.toNatClampNeg < rs.length := by
            have := xin_vp h2
            rw [h4]
            exact Nat.not_le.mp fun q => this (Or.inr q)
          by_cases hj : j = i.toNatClampNeg
          · rw [if_pos hj, hj, List.getD_eq_getElem?_getD, List.getElem?_set_self hlt]; rfl
          · rw [if_neg hj, List.getD_eq_getElem?_getD, List.getD_eq_getElem?_getD, List.getElem?_set_ne (Ne.symm hj)]
        · cases h
      · cases h
    · cases h
  · cases h
theorem vp_01 : vp_in (0 : Int32) 1 := by
  intro q
  rcases q with q | q
  · exact absurd q (by decide)
  · exact absurd q (by decide)
theorem sn_laload {K : XK} (C : xCx p s m args meth c D cA A sv adc own cc nL nm) (hd : decode cc pc = .ok (.laload, 1)) : xStep p l e R s m args below meth c Q D cA A sv adc nL bC bS K .laload pc 1 := by
  obtain ⟨hx, hb, hml, hown, hts, hK, hA, hE, hin⟩ := C
  intro ls st σ ls' st' σ' ad H locs lsA h hW hl hB kk
  unfold xone at h
  dsimp only at h
  split at h
  · rename_i i a r
    split at h
    · rename_i ci n rs hS
      split at h
      · rename_i hc
        obtain ⟨h1, h2, h3⟩ := hc
        subst h1; subst h2; subst h3
        cases h
        have hcell := xws_at (ad := ad) (cA := cA) hS
        rw [xcell_l (x := (23, 1, rs)) rfl] at hcell
        exact va_lald hx hb hK hW.1 a 3 hcell rfl vp_01 hd (kk ad H locs lsA hW (fun _ _ => rfl) hl)
      · cases h
    · cases h
  · cases h
theorem sn_lastore {K : XK} (C : xCx p s m args meth c D cA A sv adc own cc nL nm) (hd : decode cc pc = .ok (.lastore, 1)) : xStep p l e R s m args below meth c Q D cA A sv adc nL bC bS K .lastore pc 1 := by
  obtain ⟨hx, hb, hml, hown, hts, hK, hA, hE, hin⟩ := C
  intro ls st σ ls' st' σ' ad H locs lsA h hW hl hB kk
  unfold xone at h
  dsimp only at h
  split at h
  · rename_i v i a r
    split at h
    · rename_i ci n rs hS
      split at h
      · rename_i hc
        obtain ⟨h1, h2, h3⟩ := hc
        subst h1; subst h2; subst h3
        cases h
        have hcell := xws_at (ad := ad) (cA := cA) hS
        rw [xcell_l (x := (23, 1, rs)) rfl] at hcell
        refine va_last hx hb hK hW.1 hW.2.1 hW.2.2.1 a 3 hcell rfl vp_01 hd (fun H1 locs1 g1 g2 g3 => kk ad H1 locs1 lsA (xWf_at hW (a := a) ?_ (xws_uw hS) g1 g2 g3) (fun _ _ => rfl) hl)
        rw [xcell_l (x := (23, 1, rs)) rfl]
        congr 5
        funext j
        unfold uw
        rw [if_pos (c := a = a) rfl]
        by_cases hj : j = 0
        · subst hj; rfl
        · have e0 : (0 : Int32).toNatClampNeg = 0 := by decide
          rw [if_neg hj]
          show (if j = (0 : Int32).toNatClampNeg then _ else _) = _
          rw [e0, if_neg hj]
          exact if_neg hj
      · cases h
    · cases h
  · cases h
theorem sn_daload {K : XK} (C : xCx p s m args meth c D cA A sv adc own cc nL nm) (hd : decode cc pc = .ok (.daload, 1)) : xStep p l e R s m args below meth c Q D cA A sv adc nL bC bS K .daload pc 1 := by
  obtain ⟨hx, hb, hml, hown, hts, hK, hA, hE, hin⟩ := C
  intro ls st σ ls' st' σ' ad H locs lsA h hW hl hB kk
  unfold xone at h
  dsimp only at h
  split at h
  · rename_i i a r
    split at h
    · rename_i ci n rs hS
      split at h
      · rename_i hc
        obtain ⟨h1, h2, h3⟩ := hc
        subst h1; subst h2; subst h3
        cases h
        have hcell := xws_at (ad := ad) (cA := cA) hS
        rw [xcell_d (x := (24, 1, rs)) rfl] at hcell
        exact va_dald hx hb hK hW.1 a 4 hcell rfl vp_01 hd (kk ad H locs lsA hW (fun _ _ => rfl) hl)
      · cases h
    · cases h
  · cases h
theorem sn_dastore {K : XK} (C : xCx p s m args meth c D cA A sv adc own cc nL nm) (hd : decode cc pc = .ok (.dastore, 1)) : xStep p l e R s m args below meth c Q D cA A sv adc nL bC bS K .dastore pc 1 := by
  obtain ⟨hx, hb, hml, hown, hts, hK, hA, hE, hin⟩ := C
  intro ls st σ ls' st' σ' ad H locs lsA h hW hl hB kk
  unfold xone at h
  dsimp only at h
  split at h
  · rename_i v i a r
    split at h
    · rename_i ci n rs hS
      split at h
      · rename_i hc
        obtain ⟨h1, h2, h3⟩ := hc
        subst h1; subst h2; subst h3
        cases h
        have hcell := xws_at (ad := ad) (cA := cA) hS
        rw [xcell_d (x := (24, 1, rs)) rfl] at hcell
        refine va_dast hx hb hK hW.1 hW.2.1 hW.2.2.1 a 4 hcell rfl vp_01 hd (fun H1 locs1 g1 g2 g3 => kk ad H1 locs1 lsA (xWf_at hW (a := a) ?_ (xws_uw hS) g1 g2 g3) (fun _ _ => rfl) hl)
        rw [xcell_d (x := (24, 1, rs)) rfl]
        congr 7
        funext j
        unfold uw
        rw [if_pos (c := a = a) rfl]
        by_cases hj : j = 0
        · subst hj; rfl
        · have e0 : (0 : Int32).toNatClampNeg = 0 := by decide
          rw [if_neg hj]
          show (if j = (0 : Int32).toNatClampNeg then _ else _) = _
          rw [e0, if_neg hj]
          exact if_neg hj
      · cases h
    · cases h
  · cases h
theorem sn_arraylength {K : XK} (C : xCx p s m args meth c D cA A sv adc own cc nL nm) (hsc : xSc K adc A s) (hd : decode cc pc = .ok (.arraylength, 1)) : xStep p l e R s m args below meth c Q D cA A sv adc nL bC bS K .arraylength pc 1 := by
  obtain ⟨hx, hb, hml, hown, hts, hK, hA, hE, hin⟩ := C
  intro ls st σ ls' st' σ' ad H locs lsA h hW hl hB kk
  unfold xone at h
  dsimp only at h
  split at h
  · rename_i a r
    split at h
    · rename_i ci n rs hS
      split at h
      · rename_i hc
        cases h
        have hcell := xws_at (ad := ad) (cA := cA) hS
        rcases hc with rfl | rfl | rfl | rfl
        · rw [xcell_i (x := (20, n, rs)) (Or.inl rfl)] at hcell
          exact va_alen hx hb hK hW.1 a 0 hcell rfl rfl hd (kk ad H locs lsA hW (fun _ _ => rfl) hl)
        · rw [xcell_i (x := (21, n, rs)) (Or.inr (Or.inl rfl))] at hcell
          exact va_alen hx hb hK hW.1 a 1 hcell rfl rfl hd (kk ad H locs lsA hW (fun _ _ => rfl) hl)
        · rw [xcell_i (x := (22, n, rs)) (Or.inr (Or.inr rfl))] at hcell
          exact va_alen hx hb hK hW.1 a 2 hcell rfl rfl hd (kk ad H locs lsA hW (fun _ _ => rfl) hl)
        · rw [xcell_q (x := (25, n, rs)) rfl] at hcell
          exact va_alen hx hb hK hW.1 a 5 hcell rfl rfl hd (kk ad H locs lsA hW (fun _ _ => rfl) hl)
      · cases h
    · have hE' := xEnv.ad (ad' := ad) hE (fun a h => hW.2.2.2 a h)
      split at h
      · rename_i n f hf
        cases h
        unfold xci at hf
        split at hf
        · rename_i ha
          split at hf
          · cases hf
          · rename_i hz
            cases hf; subst ha
            rcases hsc with z | ⟨z1, z2, z3⟩
            · exact absurd z hz
            · have e : ad 1000000 = adc 1000000 := hW.2.2.2 _ (Nat.le_refl _)
              have := va_slen (b := adc 1000000) (rest := List.map (xre ad sv) r) (ls := lsA) hx hb z1 z2 z3 hW.2.2.1 hd (kk ad H locs lsA hW (fun _ _ => rfl) hl)
              rw [← e] at this
              exact this
        · split at hf
          · rename_i ha
            cases hf; subst ha
            exact va_tlen hx hb hE'.1.2 hW.2.2.1 rfl hd (kk ad H locs lsA hW (fun _ _ => rfl) hl)
          · split at hf
            · rename_i ha
              cases hf; subst ha
              exact va_tlen hx hb hE'.2.1.2 hW.2.2.1 rfl hd (kk ad H locs lsA hW (fun _ _ => rfl) hl)
            · cases hf
      · split at h
        · rename_i n f hf
          cases h
          unfold xcb at hf
          obtain ⟨-, -, -, -, -, hs, -⟩ := hE'
          split at hf
          · rename_i ha
            obtain ⟨j, hj⟩ := Nat.exists_eq_add_of_le ha
            subst hj
            rw [Nat.add_sub_cancel_left] at hf
            cases hz : xstr[j]? with
            | none => rw [hz] at hf; cases hf
            | some w =>
              rw [hz] at hf
              cases hf
              have hj : j < 18 := by
                have := (List.getElem?_eq_some_iff.mp hz).1
                exact this
              obtain ⟨-, -, -, g4⟩ := hs.1 _ hj
              have e1 : xlens.getD j 0 = w.length := by
                unfold xlens
                rw [List.getD_eq_getElem?_getD, List.getElem?_map, hz]; rfl
              rw [e1] at g4
              exact va_tlen hx hb g4 hW.2.2.1 rfl hd (kk ad H locs lsA hW (fun _ _ => rfl) hl)
          · cases hf
        · cases h
  · cases h
theorem sn_ldcs {K : XK} {k j : Nat} (C : xCx p s m args meth c D cA A sv adc own cc nL nm) (hj : (own, k, j) ∈ cpS) (hd : decode cc pc = .ok (.ldc k, 2)) : xStep p l e R s m args below meth c Q D cA A sv adc nL bC bS K (.ldc j) pc 2 := by
  obtain ⟨hx, hb, hml, hown, hts, hK, hA, hE, hin⟩ := C
  intro ls st σ ls' st' σ' ad H locs lsA h hW hl hB kk
  unfold xone at h
  dsimp only at h
  have h := Option.some.inj h
  obtain ⟨e1, h⟩ := Prod.mk.inj h
  obtain ⟨e2, e3⟩ := Prod.mk.inj h
  subst e1; subst e2; subst e3
  have hE' := xEnv.ad (ad' := ad) hE (fun a h => hW.2.2.2 a h)
  obtain ⟨-, -, -, -, -, -, hr, -⟩ := hE'
  have hr := hr _ hj
  dsimp only at hr
  generalize 1000010 + j = a at hr kk
  exact va_ldcS hx hb hown hr hd (kk ad H locs lsA hW (fun _ _ => rfl) hl)
theorem sn_natf {K : XK} {k : Nat} (C : xCx p s m args meth c D cA A sv adc own cc nL nm) (hw : Cond.methodLink (xow own) k (xNt 0) ∈ xWS) (h1 : Cond.native (xNt 0) ∈ xWS) (h2 : Cond.static (xNt 0) ∈ xWS) (h3 : Cond.initialized "java/lang/Float" ∈ xWS) (hR : 1 ≤ R.frames ∧ 30 ≤ R.locals) (hd : decode cc pc = .ok (.invokestatic k, 3)) : xStep p l e R s m args below meth c Q D cA A sv adc nL bC bS K (.invokedynamic 0) pc 3 := by
  obtain ⟨hx, hb, hml, hown, hts, hK, hA, hE, hin⟩ := C
  have hsv := hE.2.2.2.2.2.2.2.2.2.2.2.1
  intro ls st σ ls' st' σ' ad H locs lsA h hW hl hB kk
  unfold xone at h
  dsimp only at h
  split at h
  · split at h
    · rename_i hc
      cases h
      exact vn_f2i hx hb (hml.trans hl.1.symm) hown (hts _ hw) (hts _ h1) (hts _ h2) (hts _ h3) hR.1 (by rw [xcat_re hsv]; have := hR.2; omega) hd (kk ad H locs lsA hW (fun _ _ => rfl) hl)
    · cases h
  · split at h
    · rename_i hc
      exact absurd hc.1 (by decide)
    · cases h
  · cases h
theorem sn_natd {K : XK} {k : Nat} (C : xCx p s m args meth c D cA A sv adc own cc nL nm) (hw : Cond.methodLink (xow own) k (xNt 1) ∈ xWS) (h1 : Cond.native (xNt 1) ∈ xWS) (h2 : Cond.static (xNt 1) ∈ xWS) (h3 : Cond.initialized "java/lang/Double" ∈ xWS) (hR : 1 ≤ R.frames ∧ 30 ≤ R.locals) (hd : decode cc pc = .ok (.invokestatic k, 3)) : xStep p l e R s m args below meth c Q D cA A sv adc nL bC bS K (.invokedynamic 1) pc 3 := by
  obtain ⟨hx, hb, hml, hown, hts, hK, hA, hE, hin⟩ := C
  have hsv := hE.2.2.2.2.2.2.2.2.2.2.2.1
  intro ls st σ ls' st' σ' ad H locs lsA h hW hl hB kk
  unfold xone at h
  dsimp only at h
  split at h
  · split at h
    · rename_i hc
      exact absurd hc.1 (by decide)
    · cases h
  · split at h
    · rename_i hc
      cases h
      exact vn_d2l hx hb (hml.trans hl.1.symm) hown (hts _ hw) (hts _ h1) (hts _ h2) (hts _ h3) hR.1 (by rw [xcat_re hsv]; have := hR.2; omega) hd (kk ad H locs lsA hW (fun _ _ => rfl) hl)
    · cases h
  · cases h
theorem sn_getstatic {K : XK} {g k nest : Nat} (C : xCx p s m args meth c D cA A sv adc own cc nL nm) (hg : g < 5) (hw : if nest = 0 then Cond.fieldLink (xow own) k (xG g).1 (xG g).2.1 (xG g).2.2 ∈ xWS else Cond.fieldLinkNest (xow own) k (xG g).1 (xG g).2.1 (xG g).2.2 "BannerParade" ∈ xNW) (hn : nest = 0 ∨ g < 2) (hd : decode cc pc = .ok (.getstatic k, 3)) : xStep p l e R s m args below meth c Q D cA A sv adc nL bC bS K (.getstatic g) pc 3 := by
  obtain ⟨hx, hb, hml, hown, hts, hK, hA, hE, hin⟩ := C
  intro ls st σ ls' st' σ' ad H locs lsA h hW hl hB kk
  unfold xone at h
  have hE' := xEnv.ad (ad' := ad) hE (fun a h => hW.2.2.2 a h)
  obtain ⟨⟨a1, a2⟩, ⟨b1, b2⟩, c1, d1, e1, f1, g1, i1, j1, k1, l1, m1, n1⟩ := hE'
  have hnest : ∀ {C n d : String} {v : Value}, nest ≠ 0 → (xG g).1 = C → (xG g).2.1 = n → (xG g).2.2 = d → va_Z C n d v A s s.heap → W p l e R s m args below meth c H locs (nC σ - bC) (nS σ - bS) Q (F0 m (pc + 3) lsA (v :: st.map (xre ad sv))) → W p l e R s m args below meth c H locs (nC σ - bC) (nS σ - bS) Q (F0 m pc lsA (st.map (xre ad sv))) := by
    intro C n d v hn0 z1 z2 z3 hz k9
    subst z1; subst z2; subst z3
    rw [if_neg hn0] at hw
    exact va_getsN (ref := (xG g).1) hx hb hz hW.2.2.1 hown (va_Nw.use rfl (k1 _ hw)) (fun _ z => z) hd k9
  have hpl : ∀ {C n d : String} {v : Value}, nest = 0 → (xG g).1 = C → (xG g).2.1 = n → (xG g).2.2 = d → va_Z C n d v A s s.heap → W p l e R s m args below meth c H locs (nC σ - bC) (nS σ - bS) Q (F0 m (pc + 3) lsA (v :: st.map (xre ad sv))) → W p l e R s m args below meth c H locs (nC σ - bC) (nS σ - bS) Q (F0 m pc lsA (st.map (xre ad sv))) := by
    intro C n d v hn0 z1 z2 z3 hz k9
    subst z1; subst z2; subst z3
    rw [if_pos hn0] at hw
    exact va_gets (ref := (xG g).1) hx hb hz hW.2.2.1 hown (hts _ hw) (fun _ z => z) hd k9
  have hboth : ∀ {C n d : String} {v : Value}, (xG g).1 = C → (xG g).2.1 = n → (xG g).2.2 = d → va_Z C n d v A s s.heap → W p l e R s m args below meth c H locs (nC σ - bC) (nS σ - bS) Q (F0 m (pc + 3) lsA (v :: st.map (xre ad sv))) → W p l e R s m args below meth c H locs (nC σ - bC) (nS σ - bS) Q (F0 m pc lsA (st.map (xre ad sv))) := by
    intro C n d v z1 z2 z3 hz k9
    by_cases hn0 : nest = 0
    · exact hpl hn0 z1 z2 z3 hz k9
    · exact hnest hn0 z1 z2 z3 hz k9
  dsimp only at h
  match g, hg with
  | 0, _ => cases h; exact hboth rfl rfl rfl a1 (kk ad H locs lsA hW (fun _ _ => rfl) hl)
  | 1, _ => cases h; exact hboth rfl rfl rfl b1 (kk ad H locs lsA hW (fun _ _ => rfl) hl)
  | 2, _ => cases h; exact hboth rfl rfl rfl c1 (kk ad H locs lsA hW (fun _ _ => rfl) hl)
  | 3, _ => cases h; exact hboth rfl rfl rfl d1 (kk ad H locs lsA hW (fun _ _ => rfl) hl)
  | 4, _ => cases h; exact hboth rfl rfl rfl e1 (kk ad H locs lsA hW (fun _ _ => rfl) hl)
theorem sn_max32 {K : XK} {k : Nat} {bytes : ByteArray} {maxL : Nat} (C : xCx p s m args meth c D cA A sv adc own cc nL nm) (hw : Cond.methodLink (xow own) k (xNt 2) ∈ xWS) (h1 : Cond.code (xNt 2) bytes maxL (some .float) ∈ xWS) (h2 : Cond.static (xNt 2) ∈ xWS) (h3 : Cond.initialized "java/lang/Math" ∈ xWS) (hR : 1 ≤ R.frames ∧ 30 ≤ R.locals) (hm8 : maxL = 2) (hd : decode cc pc = .ok (.invokestatic k, 3)) : xStep p l e R s m args below meth c Q D cA A sv adc nL bC bS K .frem pc 3 := by
  obtain ⟨hx, hb, hml, hown, hts, hK, hA, hE, hin⟩ := C
  have hsv := hE.2.2.2.2.2.2.2.2.2.2.2.1
  subst hm8
  intro ls st σ ls' st' σ' ad H locs lsA h hW hl hB kk
  unfold xone at h
  dsimp only at h
  split at h
  · rename_i z x r
    split at h
    · rename_i hc
      obtain ⟨n1, n2, hcat⟩ := hc
      cases h
      intro T hT X
      have hK2 := NT.Max32.pays (l := l) (R := R) (p := p) (e := e) (below := below) (s := s) (sargs := args) (len := 3) (W := 8) (hts _ h1) (hts _ h2) hR.1 (by have := hR.2; omega)
      obtain ⟨v, vm1, B, hW1, X1, ⟨hB1, hv⟩, st1⟩ := Jvm.LawKit.callS X hx hown (hts _ hw) (hts _ h2) (hts _ h3) (hts _ h1) ⟨by decide, by decide⟩ hK2 (g := F0 m pc lsA (.float z :: .float x :: r.map (xre ad sv))) rfl (hl.1.trans hml.symm) (argsL := [.float x, .float z]) (rest := r.map (xre ad sv)) (fun sig h => by
        have h9 : parseMethodDescriptor (xNt 2).desc = some sig := h
        rw [show parseMethodDescriptor (xNt 2).desc = some { parameters := [.float, .float], returnType := some .float } from NT.mathMax32_desc] at h9
        cases h9; rfl) rfl (lv_room (by rw [xcat_re hsv]; exact hcat)) (by rw [hb]; exact hd) (fun vm1 hW => ⟨(x, z), rfl, n1, n2⟩)
      have hv2 := hv (x, z) ⟨rfl, n1, n2⟩
      subst hB1
      subst hv2
      obtain ⟨t, a1, b1⟩ := kk ad H locs lsA hW (fun _ _ => rfl) hl (T.setVm vm1) hT X1
      exact ⟨t, st1 t a1, b1⟩
    · cases h
  · cases h
end XArr
end
section
/-! X's new cells. -/
section XNew
variable {p : Program} {l : Launch} {e : Env} {R : Room} {s : State} {m : MethodId} {args : Array Value} {below : List Frame} {meth : Method} {c : Code} {Q : State → Prop} {D : va_G} {cA : Nat → ClassId} {A : Nat → Prop} {sv : Value} {adc : Nat → Nat} {own : Nat} {cc : ByteArray} {nL : Nat} {nm : MethodName} {bC bS : Nat} {pc : Nat}
theorem xre_ok {ad : Nat → Nat} {sv : Value} {n q : Nat} (hn : n < 1000000) {v : Value} (h : xok n v = true) : xre (xad ad n q) sv v = xre ad sv v := by
  cases v with
  | ref a =>
    unfold xok at h
    rw [Bool.or_eq_true, decide_eq_true_eq, decide_eq_true_eq] at h
    have this : ¬ a = n := by
      rcases h with h | h
      · exact Nat.ne_of_lt h
      · exact Nat.ne_of_gt (Nat.lt_of_lt_of_le hn h)
    show Value.ref (xad ad n q a) = Value.ref (ad a)
    unfold xad
    rw [if_neg this]
  | _ => rfl
theorem xre_okL {ad : Nat → Nat} {sv : Value} {n q : Nat} (hn : n < 1000000) {st : List Value} (h : st.all (xok n) = true) : st.map (xre (xad ad n q) sv) = st.map (xre ad sv) :=
  List.map_congr_left fun v hv => xre_ok hn (List.all_eq_true.mp h v hv)
theorem xreL_ok {ad : Nat → Nat} {sv : Value} {n q : Nat} (hn : n < 1000000) {ls : XL} (h : (ls.all fun r => xok n r.2) = true) : xreL (xad ad n q) sv ls = xreL ad sv ls :=
  List.map_congr_left fun v hv => by rw [xre_ok hn (List.all_eq_true.mp h v hv)]
theorem xfresh_good {S : List XC} {ls : XL} {st : List Value} (h : xfresh S ls st = true) : S.length < 1000000 ∧ st.all (xok S.length) = true ∧ (ls.all fun r => xok S.length r.2) = true ∧ xgood S := by
  unfold xfresh at h
  simp only [Bool.and_eq_true, decide_eq_true_eq] at h
  obtain ⟨⟨⟨h1, h2⟩, h3⟩, h4⟩ := h
  refine ⟨h1, h2, h3, fun a x hx k b hk => ?_⟩
  have h5 := List.all_eq_true.mp h4 x (List.mem_of_getElem? hx)
  rw [List.getD_eq_getElem?_getD] at hk
  cases hz : x.2.2[k]? with
  | none => rw [hz] at hk; cases hk
  | some r =>
    rw [hz] at hk
    have h6 := List.all_eq_true.mp h5 r (List.mem_of_getElem? hz)
    change r = some b at hk
    subst hk
    simpa using h6
theorem nC_push {S : List XC} {x : XC} {e : Nat} {w w' : Nat → Value} {m m' : XM} : nC (S ++ [x], e, w', m') = nC (S, e, w, m) + 1 := by
  unfold nC; simp; omega
theorem nS_push {S : List XC} {x : XC} {e : Nat} {w w' : Nat → Value} {m m' : XM} : nS (S ++ [x], e, w', m') = nS (S, e, w, m) + x.2.1 := by
  unfold nS; simp; omega
theorem sn_new {K : XK} {z k : Nat} (C : xCx p s m args meth c D cA A sv adc own cc nL nm) (hw : Cond.classLink (xow own) k (xow z) ∈ xWS) (hd : decode cc pc = .ok (.new k, 3)) : xStep p l e R s m args below meth c Q D cA A sv adc nL bC bS K (.new z) pc 3 := by
  obtain ⟨hx, hb, hml, hown, hts, hK, hA, hE, hin⟩ := C
  intro ls st σ ls' st' σ' ad H locs lsA h hW hl hB kk
  unfold xone at h
  dsimp only at h
  split at h
  · rename_i hc
    obtain ⟨hz, hf⟩ := hc
    obtain ⟨f1, f2, f3, f4⟩ := xfresh_good hf
    obtain ⟨C9, T, N, ty, q1, q2, q3, q4, q5, q6, q7, q8, q9, q10⟩ := xcls hz
    have h := Option.some.inj h
    obtain ⟨e1, h⟩ := Prod.mk.inj h
    obtain ⟨e2, e3⟩ := Prod.mk.inj h
    subst e1; subst e2; subst e3
    obtain ⟨S, ex, w, mm⟩ := σ
    dsimp only at kk f1 f2 f3 f4 hB ⊢
    rw [← q3] at kk hB
    rw [nC_push (w := w) (m := mm), nS_push (w := w) (m := mm)] at kk hB
    dsimp only at kk hB
    have hfs : ∀ q, (List.range N).map (xfv (xad ad S.length q) (uz mm S.length) S.length (z, N, List.replicate N none)) = (List.range N).map (fun k => if xref z k then Value.null else .int 0) := by
      intro q
      refine List.map_congr_left fun k _ => ?_
      unfold xfv
      dsimp only
      have hr : (List.replicate N (none : Option Nat)).getD k none = none := by
        rw [List.getD_eq_getElem?_getD, List.getElem?_replicate]
        split <;> rfl
      rw [hr]
      by_cases hx9 : xref z k = true
      · rw [if_pos hx9, if_pos hx9]; rfl
      · rw [if_neg hx9, if_neg hx9]
        unfold uz
        rw [if_pos rfl]
    rw [q2] at q1 q4 q5 q6
    refine va_new (D := D) (ci := z) (C := xow z) (T := T) (N := N) (fs := (List.range N).map (fun k => if xref z k then Value.null else .int 0)) hx hb hts q4 ty q7 hown (hts _ hw) (hts _ q5) (hts _ q6) hK hW.1 hW.2.1 hW.2.2.1 hA q1 (fun j hj => ?_) (by omega) (by omega) hd (fun q H1 g1 g2 g3 => ?_)
    · unfold vp_V
      rw [List.getD_eq_getElem?_getD, List.getElem?_map, List.getElem?_range hj]
      simp only [Option.map_some, Option.getD_some]
      have := q10 j hj
      unfold xfT at this
      by_cases hr : xref z j = true
      · rw [if_pos hr] at this ⊢; exact this.1
      · rw [if_neg hr] at this ⊢; exact this.1
    · have e0 := xws_push (ad := ad) (cA := cA) (e := ex) (w := w) (w' := w) (m := mm) (q := q) (x := (z, N, List.replicate N none)) f4 (fun _ _ => rfl)
      rw [xcell_o (x := (z, N, List.replicate N none)) hz, hfs] at e0
      have k9 := kk (xad ad S.length q) H1 locs lsA ⟨by rw [e0]; exact g1, by rw [e0]; exact g2, g3, fun a ha => by unfold xad; rw [if_neg (by omega)]; exact hW.2.2.2 a ha⟩ (fun a ha => by unfold xad; rw [if_neg (by simp at ha; omega)]) (by rw [xreL_ok f1 f3]; exact hl)
      have eh : xre (xad ad S.length q) sv (.ref S.length) = .ref q := by show Value.ref (xad ad S.length q S.length) = _; unfold xad; rw [if_pos rfl]
      rw [List.map_cons, eh, xre_okL f1 f2] at k9
      exact W.cs (by omega) (by omega) k9
  · cases h
theorem xK_uniq {cA : Nat → ClassId} {s : State} {t0 : Nat} {a b : ClassId} {ty : FieldType} (hK : va_K D vwCl (xtys cA ++ [(b, ty)]) s) (h : (xtys cA)[t0]? = some (a, ty)) : a = b := by
  have h1 := (hK.2 t0 (a, ty) (by rw [List.getElem?_append_left (List.getElem?_eq_some_iff.mp h).1]; exact h)).2
  have h2 := (hK.2 6 (b, ty) (by rfl)).2
  dsimp only at h1 h2
  cases ty with
  | object C =>
    obtain ⟨_, _, _, _, _, g1⟩ := h1
    obtain ⟨_, _, _, _, _, g2⟩ := h2
    exact Option.some.inj (g1.symm.trans g2)
  | _ => exact Option.some.inj (h1.symm.trans h2)
theorem sn_newarray {K : XK} {t : ArrayType} (C : xCx p s m args meth c D cA A sv adc own cc nL nm) (hw : Cond.arrayClass (newarray.typeOf t) ∈ xWS) (hd : decode cc pc = .ok (.newarray t, 2)) : xStep p l e R s m args below meth c Q D cA A sv adc nL bC bS K (.newarray t) pc 2 := by
  obtain ⟨hx, hb, hml, hown, hts, hK, hA, hE, hin⟩ := C
  intro ls st σ ls' st' σ' ad H locs lsA h hW hl hB kk
  unfold xone at h
  dsimp only at h
  split at h
  · rename_i n r
    split at h
    · rename_i hc
      obtain ⟨hn0, hn1, hf⟩ := hc
      obtain ⟨f1, f2, f3, f4⟩ := xfresh_good hf
      have hn : ¬ n < 0 := Int32.not_lt.mpr hn0
      obtain ⟨S, ex, w, mm⟩ := σ
      dsimp only at kk f1 f2 f3 f4 hB hn1 h ⊢
      have fin : ∀ {q : Nat} {H1 : Heap} {x : XC} {w' : Nat → Value} {z : va_E}, (∀ a', a' ≠ S.length → w' a' = w a') → σ' = (S ++ [x], ex, w', uz mm S.length) → ls' = ls → st' = .ref S.length :: r → xcell (xad ad S.length q) cA w' (uz mm S.length) S.length x = z →
          va_P D vwCl (xws ad cA (S, ex, w, mm) ++ [(q, z)]) H1 → va_D A (xws ad cA (S, ex, w, mm) ++ [(q, z)]) → va_S A s.heap H1 locs → W p l e R s m args below meth c H1 locs (nC (S, ex, w, mm) - bC + 1) (nS (S, ex, w, mm) - bS + x.2.1) Q (F0 m (pc + 2) lsA (.ref q :: r.map (xre ad sv))) := by
        intro q H1 x w' z hw' e1 e2 e3 e4 g1 g2 g3
        subst e1; subst e2; subst e3; subst e4
        rw [nC_push (w := w) (m := mm), nS_push (w := w) (m := mm)] at kk
        have e0 := xws_push (ad := ad) (cA := cA) (e := ex) (w := w) (w' := w') (m := mm) (q := q) (x := x) f4 hw'
        have k9 := kk (xad ad S.length q) H1 locs lsA ⟨by rw [e0]; exact g1, by rw [e0]; exact g2, g3, fun a ha => by unfold xad; rw [if_neg (by omega)]; exact hW.2.2.2 a ha⟩ (fun a ha => by unfold xad; rw [if_neg (by simp at ha; omega)]) (by rw [xreL_ok f1 f3]; exact hl)
        have eh : xre (xad ad S.length q) sv (.ref S.length) = .ref q := by show Value.ref (xad ad S.length q S.length) = _; unfold xad; rw [if_pos rfl]
        rw [List.map_cons, eh, xre_okL f1 f2] at k9
        exact W.cs (by omega) (by omega) k9
      have hbud : ∀ {x : XC} {w' : Nat → Value}, σ' = (S ++ [x], ex, w', uz mm S.length) → nC (S, ex, w, mm) - bC + 1 ≤ R.cells ∧ nS (S, ex, w, mm) - bS + x.2.1 ≤ R.slots := by
        intro x w' e1
        subst e1
        rw [nC_push (w := w) (m := mm), nS_push (w := w) (m := mm)] at hB
        omega
      split at h
      · rename_i ht
        split at h
        · rename_i hn1'
          have h := Option.some.inj h
          obtain ⟨e1, h⟩ := Prod.mk.inj h
          obtain ⟨e2, e3⟩ := Prod.mk.inj h
          obtain ⟨b1, b2⟩ := hbud e3.symm
          have hN : n.toNatClampNeg = 1 := by subst hn1'; decide
          have hww : ∀ a', a' ≠ S.length → uw w S.length Value.null a' = w a' := fun a' h => by unfold uw; rw [if_neg h]
          cases t with
          | long =>
            refine va_newa (D := D) (atype := .long) (ty := .long) (a0 := (1, .inr (.inl (fun _ => 0)))) hx hb (hts _ hw) rfl hK hW.1 hW.2.1 hW.2.2.1 hA (fun _ => rfl) hn hN (by decide) b1 b2 hd (fun q cA' H1 gK g1 g2 g3 => ?_)
            have := xK_uniq (t0 := 3) gK rfl
            subst this
            refine fin hww e3.symm e1.symm e2.symm ?_ g1 g2 g3
            rw [xcell_l (x := (xkind .long, 1, [])) rfl]
            congr 5
            funext j
            unfold uw; rw [if_pos (c := S.length = S.length) rfl]
            split <;> rfl
          | double =>
            refine va_newa (D := D) (atype := .double) (ty := .double) (a0 := (1, .inr (.inr (.inr (.inl (fun _ => 0)))))) hx hb (hts _ hw) rfl hK hW.1 hW.2.1 hW.2.2.1 hA (fun _ => rfl) hn hN (by decide) b1 b2 hd (fun q cA' H1 gK g1 g2 g3 => ?_)
            have := xK_uniq (t0 := 4) gK rfl
            subst this
            refine fin hww e3.symm e1.symm e2.symm ?_ g1 g2 g3
            rw [xcell_d (x := (xkind .double, 1, [])) rfl]
            congr 7
            funext j
            unfold uw; rw [if_pos (c := S.length = S.length) rfl]
            split <;> rfl
          | _ => exact absurd ht (by decide)
        · cases h
      · split at h
        · cases h
        · rename_i ht ht0
          have h := Option.some.inj h
          obtain ⟨e1, h⟩ := Prod.mk.inj h
          obtain ⟨e2, e3⟩ := Prod.mk.inj h
          obtain ⟨b1, b2⟩ := hbud e3.symm
          have hu : (uz mm S.length) S.length = fun _ => 0 := by funext j; unfold uz; rw [if_pos rfl]
          cases t with
          | int =>
            refine va_newa (D := D) (atype := .int) (ty := .int) (a0 := (n.toNatClampNeg, .inl (fun _ => 0))) hx hb (hts _ hw) rfl hK hW.1 hW.2.1 hW.2.2.1 hA (fun _ => rfl) hn rfl (by show _ * 4 ≤ _; omega) b1 b2 hd (fun q cA' H1 gK g1 g2 g3 => ?_)
            have := xK_uniq (t0 := 0) gK rfl
            subst this
            refine fin (fun _ _ => rfl) e3.symm e1.symm e2.symm ?_ g1 g2 g3
            rw [xcell_i (x := (xkind .int, n.toNatClampNeg, [])) (Or.inl rfl), hu]; rfl
          | byte =>
            refine va_newa (D := D) (atype := .byte) (ty := .byte) (a0 := (n.toNatClampNeg, .inl (fun _ => 0))) hx hb (hts _ hw) rfl hK hW.1 hW.2.1 hW.2.2.1 hA (fun _ => rfl) hn rfl (by show _ * 1 ≤ _; omega) b1 b2 hd (fun q cA' H1 gK g1 g2 g3 => ?_)
            have := xK_uniq (t0 := 1) gK rfl
            subst this
            refine fin (fun _ _ => rfl) e3.symm e1.symm e2.symm ?_ g1 g2 g3
            rw [xcell_i (x := (xkind .byte, n.toNatClampNeg, [])) (Or.inr (Or.inl rfl)), hu]; rfl
          | boolean =>
            refine va_newa (D := D) (atype := .boolean) (ty := .boolean) (a0 := (n.toNatClampNeg, .inl (fun _ => 0))) hx hb (hts _ hw) rfl hK hW.1 hW.2.1 hW.2.2.1 hA (fun _ => rfl) hn rfl (by show _ * 1 ≤ _; omega) b1 b2 hd (fun q cA' H1 gK g1 g2 g3 => ?_)
            have := xK_uniq (t0 := 2) gK rfl
            subst this
            refine fin (fun _ _ => rfl) e3.symm e1.symm e2.symm ?_ g1 g2 g3
            rw [xcell_i (x := (xkind .boolean, n.toNatClampNeg, [])) (Or.inr (Or.inr rfl)), hu]; rfl
          | _ => first | exact absurd rfl ht0 | exact absurd (by decide) ht
    · cases h
  · cases h
theorem sn_anewarray {K : XK} {k : Nat} (C : xCx p s m args meth c D cA A sv adc own cc nL nm) (hw : Cond.classLink (xow own) k RX8 ∈ xWS) (hd : decode cc pc = .ok (.anewarray k, 3)) : xStep p l e R s m args below meth c Q D cA A sv adc nL bC bS K (.anewarray 8) pc 3 := by
  obtain ⟨hx, hb, hml, hown, hts, hK, hA, hE, hin⟩ := C
  have hover : va_AO RX8 s := hE.2.2.2.2.2.2.2.2.2.2.2.2
  intro ls st σ ls' st' σ' ad H locs lsA h hW hl hB kk
  unfold xone at h
  dsimp only at h
  split at h
  · rename_i n r
    split at h
    · rename_i hc
      obtain ⟨-, hn0, hn1, hf⟩ := hc
      obtain ⟨f1, f2, f3, f4⟩ := xfresh_good hf
      have hn : ¬ n < 0 := Int32.not_lt.mpr hn0
      obtain ⟨S, ex, w, mm⟩ := σ
      have h := Option.some.inj h
      obtain ⟨e1, h⟩ := Prod.mk.inj h
      obtain ⟨e2, e3⟩ := Prod.mk.inj h
      subst e1; subst e2; subst e3
      dsimp only at kk f1 f2 f3 f4 hB hn1 ⊢
      rw [nC_push (w := w) (m := mm), nS_push (w := w) (m := mm)] at kk hB
      dsimp only at kk hB
      refine va_newq (D := D) (C := RX8) hx hb hown (hts _ hw) hover hK hW.1 hW.2.1 hW.2.2.1 hA hn rfl (by omega) (by omega) (by omega) hd (fun q cA' H1 gK g1 g2 g3 => ?_)
      have := xK_uniq (t0 := 5) gK rfl
      subst this
      have e0 := xws_push (ad := ad) (cA := cA) (e := ex) (w := w) (w' := w) (m := mm) (q := q) (x := (25, n.toNatClampNeg, List.replicate n.toNatClampNeg none)) f4 (fun _ _ => rfl)
      have hr : (fun k => ((List.replicate n.toNatClampNeg (none : Option Nat)).getD k none).map (xad ad S.length q)) = fun _ => none := by
        funext k
        rw [List.getD_eq_getElem?_getD, List.getElem?_replicate]
        split <;> rfl
      rw [xcell_q (x := (25, n.toNatClampNeg, List.replicate n.toNatClampNeg none)) rfl] at e0
      dsimp only at e0
      rw [hr] at e0
      have k9 := kk (xad ad S.length q) H1 locs lsA ⟨by rw [e0]; exact g1, by rw [e0]; exact g2, g3, fun a ha => by unfold xad; rw [if_neg (by omega)]; exact hW.2.2.2 a ha⟩ (fun a ha => by unfold xad; rw [if_neg (by simp at ha; omega)]) (by rw [xreL_ok f1 f3]; exact hl)
      have eh : xre (xad ad S.length q) sv (.ref S.length) = .ref q := by show Value.ref (xad ad S.length q S.length) = _; unfold xad; rw [if_pos rfl]
      rw [List.map_cons, eh, xre_okL f1 f2] at k9
      exact W.cs (by omega) (by omega) k9
    · cases h
  · cases h
end XNew
end
section
/-! From the machine's own instruction, decoded, to X's. -/
theorem find_in {α : Type} {l : List α} {q f : α → Bool} {e : α} (hf : l.find? q = some e) (ha : l.all f = true) : f e = true ∧ q e = true := ⟨List.all_eq_true.mp ha e (List.mem_of_find?_eq_some hf), List.find?_some hf⟩
def fdF (own k : Nat) : Option Nat := (cpF.find? (fun e => e.1 == own && e.2.1 == k)).map (fun e => e.2.2.1)
theorem fdF_ok {own k f : Nat} (h : fdF own k = some f) : Cond.fieldLink (xow own) k (xF f).1 (xF f).2.1 (xF f).2.2 ∈ xWS := by
  unfold fdF at h
  cases hz : cpF.find? (fun e => e.1 == own && e.2.1 == k) with
  | none => rw [hz] at h; cases h
  | some e =>
    rw [hz] at h; cases h
    obtain ⟨h1, h2⟩ := find_in hz cpF_ok
    simp only [Bool.and_eq_true, beq_iff_eq] at h2
    obtain ⟨rfl, rfl⟩ := h2
    exact xat_in h1
def fdG (own k : Nat) : Option (Nat × Nat) := (cpG.find? (fun e => e.1 == own && e.2.1 == k)).map (fun e => (e.2.2.1, e.2.2.2.1))
theorem xNW_in {i : Nat} {w : Cond} (h : lw_tbl[i]? = some w) (hk : xNWk w = true) : w ∈ xNW := List.mem_filter.mpr ⟨List.mem_of_getElem? h, hk⟩
theorem fdG_ok {own k g nest : Nat} (h : fdG own k = some (g, nest)) : if nest = 0 then Cond.fieldLink (xow own) k (xG g).1 (xG g).2.1 (xG g).2.2 ∈ xWS else Cond.fieldLinkNest (xow own) k (xG g).1 (xG g).2.1 (xG g).2.2 "BannerParade" ∈ xNW := by
  unfold fdG at h
  cases hz : cpG.find? (fun e => e.1 == own && e.2.1 == k) with
  | none => rw [hz] at h; cases h
  | some e =>
    rw [hz] at h; cases h
    obtain ⟨h1, h2⟩ := find_in hz cpG_ok
    simp only [Bool.and_eq_true, beq_iff_eq] at h2
    obtain ⟨rfl, rfl⟩ := h2
    by_cases hn : e.2.2.2.1 = 0
    · rw [if_pos hn] at h1 ⊢; exact xat_in h1
    · rw [if_neg hn] at h1 ⊢
      exact xNW_in (of_decide_eq_true h1) rfl
def fdC (own k : Nat) : Option Nat := (cpC.find? (fun e => e.1 == own && e.2.1 == k)).map (fun e => e.2.2.1)
theorem fdC_ok {own k : Nat} {z : Nat} (h : fdC own k = some z) : Cond.classLink (xow own) k (xow z) ∈ xWS := by
  unfold fdC at h
  cases hz : cpC.find? (fun e => e.1 == own && e.2.1 == k) with
  | none => rw [hz] at h; cases h
  | some e =>
    rw [hz] at h; cases h
    obtain ⟨h1, h2⟩ := find_in hz cpC_ok
    simp only [Bool.and_eq_true, beq_iff_eq] at h2
    obtain ⟨rfl, rfl⟩ := h2
    exact xat_in h1
def fdK (own k : Nat) : Option Int := (cpK.find? (fun e => e.1 == own && e.2.1 == k)).map (fun e => e.2.2.1)
theorem fdK_ok {own k : Nat} {z : Int} (h : fdK own k = some z) : Cond.constant (xow own) k (Int32.ofInt z) ∈ xWS := by
  unfold fdK at h
  cases hz : cpK.find? (fun e => e.1 == own && e.2.1 == k) with
  | none => rw [hz] at h; cases h
  | some e =>
    rw [hz] at h; cases h
    obtain ⟨h1, h2⟩ := find_in hz cpK_ok
    simp only [Bool.and_eq_true, beq_iff_eq] at h2
    obtain ⟨rfl, rfl⟩ := h2
    exact xat_in h1
def fdL (own k : Nat) : Option Nat := (cpL.find? (fun e => e.1 == own && e.2.1 == k)).map (fun e => e.2.2.1)
theorem fdL_ok {own k : Nat} {z : Nat} (h : fdL own k = some z) : Cond.constantFloat (xow own) k (UInt32.ofNat z) ∈ xWS := by
  unfold fdL at h
  cases hz : cpL.find? (fun e => e.1 == own && e.2.1 == k) with
  | none => rw [hz] at h; cases h
  | some e =>
    rw [hz] at h; cases h
    obtain ⟨h1, h2⟩ := find_in hz cpL_ok
    simp only [Bool.and_eq_true, beq_iff_eq] at h2
    obtain ⟨rfl, rfl⟩ := h2
    exact xat_in h1
def fdD (own k : Nat) : Option Nat := (cpD.find? (fun e => e.1 == own && e.2.1 == k)).map (fun e => e.2.2.1)
theorem fdD_ok {own k : Nat} {z : Nat} (h : fdD own k = some z) : Cond.constantDouble (xow own) k (UInt64.ofNat z) ∈ xWS := by
  unfold fdD at h
  cases hz : cpD.find? (fun e => e.1 == own && e.2.1 == k) with
  | none => rw [hz] at h; cases h
  | some e =>
    rw [hz] at h; cases h
    obtain ⟨h1, h2⟩ := find_in hz cpD_ok
    simp only [Bool.and_eq_true, beq_iff_eq] at h2
    obtain ⟨rfl, rfl⟩ := h2
    exact xat_in h1
def fdJ (own k : Nat) : Option Int := (cpJ.find? (fun e => e.1 == own && e.2.1 == k)).map (fun e => e.2.2.1)
theorem fdJ_ok {own k : Nat} {z : Int} (h : fdJ own k = some z) : Cond.constantLong (xow own) k (Int64.ofInt z) ∈ xWS := by
  unfold fdJ at h
  cases hz : cpJ.find? (fun e => e.1 == own && e.2.1 == k) with
  | none => rw [hz] at h; cases h
  | some e =>
    rw [hz] at h; cases h
    obtain ⟨h1, h2⟩ := find_in hz cpJ_ok
    simp only [Bool.and_eq_true, beq_iff_eq] at h2
    obtain ⟨rfl, rfl⟩ := h2
    exact xat_in h1
def fdN (own k : Nat) : Option Nat := (cpN.find? (fun e => e.1 == own && e.2.1 == k)).map (fun e => e.2.2.1)
theorem fdN_ok {own k : Nat} {z : Nat} (h : fdN own k = some z) : Cond.methodLink (xow own) k (xNt z) ∈ xWS := by
  unfold fdN at h
  cases hz : cpN.find? (fun e => e.1 == own && e.2.1 == k) with
  | none => rw [hz] at h; cases h
  | some e =>
    rw [hz] at h; cases h
    obtain ⟨h1, h2⟩ := find_in hz cpN_ok
    simp only [Bool.and_eq_true, beq_iff_eq] at h2
    obtain ⟨rfl, rfl⟩ := h2
    exact xat_in h1
def fdO (own k : Nat) : Bool := (cpO.find? (fun e => e.1 == own && e.2.1 == k)).isSome
theorem fdO_ok {own k : Nat} (h : fdO own k = true) : Cond.methodLink (xow own) k objectInit ∈ xWS := by
  unfold fdO at h
  cases hz : cpO.find? (fun e => e.1 == own && e.2.1 == k) with
  | none => rw [hz] at h; cases h
  | some e =>
    obtain ⟨h1, h2⟩ := find_in hz cpO_ok
    simp only [Bool.and_eq_true, beq_iff_eq] at h2
    obtain ⟨rfl, rfl⟩ := h2
    exact xat_in h1
def fdS (own k : Nat) : Option Nat := (cpS.find? (fun e => e.1 == own && e.2.1 == k)).map (fun e => e.2.2)
theorem fdS_ok {own k j : Nat} (h : fdS own k = some j) : (own, k, j) ∈ cpS := by
  unfold fdS at h
  cases hz : cpS.find? (fun e => e.1 == own && e.2.1 == k) with
  | none => rw [hz] at h; cases h
  | some e =>
    rw [hz] at h; cases h
    have h2 := List.find?_some hz
    simp only [Bool.and_eq_true, beq_iff_eq] at h2
    obtain ⟨rfl, rfl⟩ := h2
    exact List.mem_of_find?_eq_some hz
def xfinal (own f : Nat) (ini : Bool) : Bool := match vwCl[f / 32]? with
  | some (_, T, _) => !(T (f % 32)).2.2.2 || (ini && own == f / 32)
  | none => false
def xsim (own nL : Nat) (ini : Bool) (a : Instr) : Option (Instr × Nat) :=
  match a with
  | .iconst n => some (.iconst n, 1)
  | .bipush n => if (Int8.ofInt n).toInt32 = Int32.ofInt n then some (.iconst n, 2) else none
  | .sipush n => if (Int16.ofInt n).toInt32 = Int32.ofInt n then some (.iconst n, 3) else none
  | .ldc k => match fdK own k with
    | some v => some (.iconst v, 2)
    | none => match fdL own k with
      | some v => some (.ldc_w v, 2)
      | none => match fdS own k with
        | some j => some (.ldc j, 2)
        | none => none
  | .ldc_w k => match fdK own k with
    | some v => some (.iconst v, 3)
    | none => match fdL own k with
      | some v => some (.ldc_w v, 3)
      | none => none
  | .ldc2_w k => match fdD own k with
    | some v => some (.ldc2_w v, 3)
    | none => match fdJ own k with
      | some v => some (.jsr v, 3)
      | none => none
  | .lconst n => some (.lconst n, 1)
  | .fconst n => some (.fconst n, 1)
  | .dconst n => some (.dconst n, 1)
  | .iload_n n => some (.iload (n : Nat), 1)
  | .iload n => some (.iload n, 2)
  | .istore_n n => if (n : Nat) < nL then some (.istore (n : Nat), 1) else none
  | .istore n => if n < nL then some (.istore n, 2) else none
  | .aload_n n => some (.aload (n : Nat), 1)
  | .aload n => some (.aload n, 2)
  | .astore_n n => if (n : Nat) < nL then some (.astore (n : Nat), 1) else none
  | .astore n => if n < nL then some (.astore n, 2) else none
  | .lload_n n => some (.lload (n : Nat), 1)
  | .lload n => some (.lload n, 2)
  | .lstore_n n => if (n : Nat) + 1 < nL then some (.lstore (n : Nat), 1) else none
  | .lstore n => if n + 1 < nL then some (.lstore n, 2) else none
  | .fload_n n => some (.fload (n : Nat), 1)
  | .fload n => some (.fload n, 2)
  | .fstore_n n => if (n : Nat) < nL then some (.fstore (n : Nat), 1) else none
  | .fstore n => if n < nL then some (.fstore n, 2) else none
  | .dload_n n => some (.dload (n : Nat), 1)
  | .dload n => some (.dload n, 2)
  | .dstore_n n => if (n : Nat) + 1 < nL then some (.dstore (n : Nat), 1) else none
  | .dstore n => if n + 1 < nL then some (.dstore n, 2) else none
  | .iinc n k => if n < nL then some (.iinc n k, 3) else none
  | .iadd => some (.iadd, 1)
  | .isub => some (.isub, 1)
  | .imul => some (.imul, 1)
  | .iand => some (.iand, 1)
  | .ior => some (.ior, 1)
  | .ladd => some (.ladd, 1)
  | .lsub => some (.lsub, 1)
  | .ishl => some (.ishl, 1)
  | .ishr => some (.ishr, 1)
  | .ineg => some (.ineg, 1)
  | .i2f => some (.i2f, 1)
  | .i2d => some (.i2d, 1)
  | .f2i => some (.f2i, 1)
  | .d2l => some (.d2l, 1)
  | .iushr => some (.iushr, 1)
  | .i2l => some (.i2l, 1)
  | .i2b => some (.i2b, 1)
  | .i2c => some (.i2c, 1)
  | .lshl => some (.lshl, 1)
  | .lcmp => some (.lcmp, 1)
  | .idiv => some (.idiv, 1)
  | .irem => some (.irem, 1)
  | .f2d => some (.f2d, 1)
  | .fmul => some (.fmul, 1)
  | .fdiv => some (.fdiv, 1)
  | .fsub => some (.fsub, 1)
  | .dmul => some (.dmul, 1)
  | .ddiv => some (.ddiv, 1)
  | .dsub => some (.dsub, 1)
  | .dup => some (.dup, 1)
  | .pop => some (.pop, 1)
  | .dup2 => some (.dup2, 1)
  | .iaload => some (.iaload, 1)
  | .iastore => some (.iastore, 1)
  | .baload => some (.baload, 1)
  | .bastore => some (.bastore, 1)
  | .aaload => some (.aaload, 1)
  | .aastore => some (.aastore, 1)
  | .laload => some (.laload, 1)
  | .lastore => some (.lastore, 1)
  | .daload => some (.daload, 1)
  | .dastore => some (.dastore, 1)
  | .arraylength => some (.arraylength, 1)
  | .fcmp z => some (.fcmp z, 1)
  | .dcmp z => some (.dcmp z, 1)
  | .getfield k => match fdF own k with
    | some f => if (f / 32 < 12 ∧ f % 32 < xnf.getD (f / 32) 0) ∨ f = 960 ∨ f = 961 then some (.getfield f, 3) else none
    | none => none
  | .putfield k => match fdF own k with
    | some f => if (f / 32 < 12 ∧ f % 32 < xnf.getD (f / 32) 0) ∧ xfinal own f ini = true then some (.putfield f, 3) else none
    | none => none
  | .getstatic k => match fdG own k with
    | some (g, nest) => if g < 5 ∧ (nest = 0 ∨ g < 2) then some (.getstatic g, 3) else none
    | none => none
  | .new k => match fdC own k with
    | some z => some (.new z, 3)
    | none => none
  | .anewarray k => match fdC own k with
    | some z => if z = 8 then some (.anewarray 8, 3) else none
    | none => none
  | .newarray t => if xkind t = 0 then none else some (.newarray t, 2)
  | .invokespecial k => if fdO own k = true then some (.monitorexit, 3) else none
  | .invokestatic k => match fdN own k with
    | some z => if z = 0 then some (.invokedynamic 0, 3) else if z = 1 then some (.invokedynamic 1, 3) else if z = 2 then some (.frem, 3) else none
    | none => none
  | _ => none
theorem xNt0_n : Cond.native (xNt 0) ∈ xWS := xat_in (i := 1944) (by decide +kernel)
theorem xNt0_s : Cond.static (xNt 0) ∈ xWS := xat_in (i := 1943) (by decide +kernel)
theorem xNt0_i : Cond.initialized "java/lang/Float" ∈ xWS := xat_in (i := 116) (by decide +kernel)
theorem xNt1_n : Cond.native (xNt 1) ∈ xWS := xat_in (i := 1994) (by decide +kernel)
theorem xNt1_s : Cond.static (xNt 1) ∈ xWS := xat_in (i := 1993) (by decide +kernel)
theorem xNt1_i : Cond.initialized "java/lang/Double" ∈ xWS := xat_in (i := 117) (by decide +kernel)
theorem xNt2_c : Cond.code (xNt 2) prog_21_method_67_code 2 (some .float) ∈ xWS := xat_in (i := 2101) (by decide +kernel)
theorem xNt2_s : Cond.static (xNt 2) ∈ xWS := xat_in (i := 2100) (by decide +kernel)
theorem xNt2_i : Cond.initialized "java/lang/Math" ∈ xWS := xat_in (i := 108) (by decide +kernel)
theorem xAC_int : Cond.arrayClass .int ∈ xWS := xat_in (i := 164) (by decide +kernel)
theorem xAC_byte : Cond.arrayClass .byte ∈ xWS := xat_in (i := 565) (by decide +kernel)
theorem xAC_boolean : Cond.arrayClass .boolean ∈ xWS := xat_in (i := 399) (by decide +kernel)
theorem xAC_long : Cond.arrayClass .long ∈ xWS := xat_in (i := 2201) (by decide +kernel)
theorem xAC_double : Cond.arrayClass .double ∈ xWS := xat_in (i := 2202) (by decide +kernel)
section XSim
variable {p : Program} {l : Launch} {e : Env} {R : Room} {s : State} {m : MethodId} {args : Array Value} {below : List Frame} {meth : Method} {c : Code} {Q : State → Prop} {D : va_G} {cA : Nat → ClassId} {A : Nat → Prop} {sv : Value} {adc : Nat → Nat} {own : Nat} {cc : ByteArray} {nL : Nat} {nm : MethodName} {bC bS : Nat} {pc : Nat}
theorem sim_ok {K : XK} {ini : Bool} {a i : Instr} {n : Nat} (h : xsim own nL ini a = some (i, n)) (C : xCx p s m args meth c D cA A sv adc own cc nL nm) (hsc : xSc K adc A s) (hR : 1 ≤ R.frames ∧ 30 ≤ R.locals) (hini : ini = true → nm.name = "<init>") (hd : decode cc pc = .ok (a, n)) : xStep p l e R s m args below meth c Q D cA A sv adc nL bC bS K i pc n := by
  cases a with
  | iconst n => cases h; exact sn_iconst C hd
  | bipush n =>
    unfold xsim at h; dsimp only at h
    split at h
    · rename_i hv; cases h; exact sn_bipush C hv hd
    · cases h
  | sipush n =>
    unfold xsim at h; dsimp only at h
    split at h
    · rename_i hv; cases h; exact sn_sipush C hv hd
    · cases h
  | ldc k =>
    unfold xsim at h; dsimp only at h
    split at h
    · rename_i v hv; cases h; exact sn_ldci C (fdK_ok hv) hd
    · split at h
      · rename_i v hv; cases h; exact sn_ldcf C (fdL_ok hv) hd
      · split at h
        · rename_i v hv; cases h; exact sn_ldcs C (fdS_ok hv) hd
        · cases h
  | ldc_w k =>
    unfold xsim at h; dsimp only at h
    split at h
    · rename_i v hv; cases h; exact sn_ldcwi C (fdK_ok hv) hd
    · split at h
      · rename_i v hv; cases h; exact sn_ldcwf C (fdL_ok hv) hd
      · cases h
  | ldc2_w k =>
    unfold xsim at h; dsimp only at h
    split at h
    · rename_i v hv; cases h; exact sn_ldc2d C (fdD_ok hv) hd
    · split at h
      · rename_i v hv; cases h; exact sn_ldc2l C (fdJ_ok hv) hd
      · cases h
  | lconst n => cases h; exact sn_lconst C hd
  | fconst n =>
    cases h
    match n with
    | 0 => exact sn_fconst0 C hd
    | 1 => exact sn_fconst1 C hd
    | 2 => exact sn_fconst2 C hd
  | dconst n =>
    cases h
    match n with
    | 0 => exact sn_dconst0 C hd
    | 1 => exact sn_dconst1 C hd
  | iload_n n => cases h; exact sn_iload_n C hd
  | iload n => cases h; exact sn_iload C hd
  | istore_n n =>
    unfold xsim at h; dsimp only at h
    split at h
    · rename_i hv; cases h; exact sn_istore_n C hv hd
    · cases h
  | istore n =>
    unfold xsim at h; dsimp only at h
    split at h
    · rename_i hv; cases h; exact sn_istore C hv hd
    · cases h
  | aload_n n => cases h; exact sn_aload_n C hd
  | aload n => cases h; exact sn_aload C hd
  | astore_n n =>
    unfold xsim at h; dsimp only at h
    split at h
    · rename_i hv; cases h; exact sn_astore_n C hv hd
    · cases h
  | astore n =>
    unfold xsim at h; dsimp only at h
    split at h
    · rename_i hv; cases h; exact sn_astore C hv hd
    · cases h
  | lload_n n => cases h; exact sn_lload_n C hd
  | lload n => cases h; exact sn_lload C hd
  | lstore_n n =>
    unfold xsim at h; dsimp only at h
    split at h
    · rename_i hv; cases h; exact sn_lstore_n C hv hd
    · cases h
  | lstore n =>
    unfold xsim at h; dsimp only at h
    split at h
    · rename_i hv; cases h; exact sn_lstore C hv hd
    · cases h
  | fload_n n => cases h; exact sn_fload_n C hd
  | fload n => cases h; exact sn_fload C hd
  | fstore_n n =>
    unfold xsim at h; dsimp only at h
    split at h
    · rename_i hv; cases h; exact sn_fstore_n C hv hd
    · cases h
  | fstore n =>
    unfold xsim at h; dsimp only at h
    split at h
    · rename_i hv; cases h; exact sn_fstore C hv hd
    · cases h
  | dload_n n => cases h; exact sn_dload_n C hd
  | dload n => cases h; exact sn_dload C hd
  | dstore_n n =>
    unfold xsim at h; dsimp only at h
    split at h
    · rename_i hv; cases h; exact sn_dstore_n C hv hd
    · cases h
  | dstore n =>
    unfold xsim at h; dsimp only at h
    split at h
    · rename_i hv; cases h; exact sn_dstore C hv hd
    · cases h
  | iinc n k =>
    unfold xsim at h; dsimp only at h
    split at h
    · rename_i hv; cases h; exact sn_iinc C hv hd
    · cases h
  | iadd => cases h; exact sn_iadd C hd
  | isub => cases h; exact sn_isub C hd
  | imul => cases h; exact sn_imul C hd
  | iand => cases h; exact sn_iand C hd
  | ior => cases h; exact sn_ior C hd
  | ladd => cases h; exact sn_ladd C hd
  | lsub => cases h; exact sn_lsub C hd
  | ishl => cases h; exact sn_ishl C hd
  | ishr => cases h; exact sn_ishr C hd
  | ineg => cases h; exact sn_ineg C hd
  | i2f => cases h; exact sn_i2f C hd
  | i2d => cases h; exact sn_i2d C hd
  | f2i => cases h; exact sn_f2i C hd
  | d2l => cases h; exact sn_d2l C hd
  | iushr => cases h; exact sn_iushr C hd
  | i2l => cases h; exact sn_i2l C hd
  | i2b => cases h; exact sn_i2b C hd
  | i2c => cases h; exact sn_i2c C hd
  | lshl => cases h; exact sn_lshl C hd
  | lcmp => cases h; exact sn_lcmp C hd
  | idiv => cases h; exact sn_idiv C hd
  | irem => cases h; exact sn_irem C hd
  | f2d => cases h; exact sn_f2d C hd
  | fmul => cases h; exact sn_fmul C hd
  | fdiv => cases h; exact sn_fdiv C hd
  | fsub => cases h; exact sn_fsub C hd
  | dmul => cases h; exact sn_dmul C hd
  | ddiv => cases h; exact sn_ddiv C hd
  | dsub => cases h; exact sn_dsub C hd
  | dup => cases h; exact sn_dup C hd
  | pop => cases h; exact sn_pop C hd
  | dup2 => cases h; exact sn_dup2 C hd
  | iaload => cases h; exact sn_iaload C hsc hd
  | iastore => cases h; exact sn_iastore C hd
  | baload => cases h; exact sn_baload C hd
  | bastore => cases h; exact sn_bastore C hd
  | aaload => cases h; exact sn_aaload C hd
  | aastore => cases h; exact sn_aastore C hd
  | laload => cases h; exact sn_laload C hd
  | lastore => cases h; exact sn_lastore C hd
  | daload => cases h; exact sn_daload C hd
  | dastore => cases h; exact sn_dastore C hd
  | arraylength => cases h; exact sn_arraylength C hsc hd
  | fcmp z => cases h; exact sn_fcmp C hd
  | dcmp z => cases h; exact sn_dcmp C hd
  | getfield k =>
    unfold xsim at h; dsimp only at h
    split at h
    · rename_i f hf
      split at h
      · rename_i hv; cases h; exact sn_getfield C (fdF_ok hf) hv hd
      · cases h
    · cases h
  | putfield k =>
    unfold xsim at h; dsimp only at h
    split at h
    · rename_i f hf
      split at h
      · rename_i hv; cases h
        refine sn_putfield C (fdF_ok hf) hv.1 (fun T N C9 hT => ?_) hd
        have h2 := hv.2
        unfold xfinal at h2
        rw [hT] at h2
        simp only [Bool.or_eq_true, Bool.not_eq_true', Bool.and_eq_true, beq_iff_eq] at h2
        rcases h2 with h2 | ⟨h2, h3⟩
        · exact Or.inl h2
        · exact Or.inr ⟨hini h2, h3⟩
      · cases h
    · cases h
  | getstatic k =>
    unfold xsim at h; dsimp only at h
    split at h
    · rename_i g nest hf
      split at h
      · rename_i hv; cases h; exact sn_getstatic C hv.1 (fdG_ok hf) hv.2 hd
      · cases h
    · cases h
  | new k =>
    unfold xsim at h; dsimp only at h
    split at h
    · rename_i z hf; cases h; exact sn_new C (fdC_ok hf) hd
    · cases h
  | anewarray k =>
    unfold xsim at h; dsimp only at h
    split at h
    · rename_i z hf
      split at h
      · rename_i hz; cases h; subst hz; exact sn_anewarray C (fdC_ok hf) hd
      · cases h
    · cases h
  | newarray t =>
    unfold xsim at h; dsimp only at h
    split at h
    · cases h
    · rename_i ht
      cases h
      cases t with
      | int => exact sn_newarray C xAC_int hd
      | byte => exact sn_newarray C xAC_byte hd
      | boolean => exact sn_newarray C xAC_boolean hd
      | long => exact sn_newarray C xAC_long hd
      | double => exact sn_newarray C xAC_double hd
      | _ => exact absurd rfl ht
  | invokespecial k =>
    unfold xsim at h; dsimp only at h
    split at h
    · rename_i hv; cases h; exact sn_objinit C (fdO_ok hv) hR hd
    · cases h
  | invokestatic k =>
    unfold xsim at h; dsimp only at h
    split at h
    · rename_i z hf
      split at h
      · rename_i hz; cases h; subst hz; exact sn_natf C (fdN_ok hf) xNt0_n xNt0_s xNt0_i hR hd
      · split at h
        · rename_i hz; cases h; subst hz; exact sn_natd C (fdN_ok hf) xNt1_n xNt1_s xNt1_i hR hd
        · split at h
          · rename_i hz; cases h; subst hz; exact sn_max32 C (fdN_ok hf) xNt2_c xNt2_s xNt2_i hR rfl hd
          · cases h
    · cases h
  | _ => cases h
end XSim
end
section
/-! A run of X only adds cells. -/
def xle (σ τ : XS) : Prop := σ.1.length ≤ τ.1.length ∧ nC σ ≤ nC τ ∧ nS σ ≤ nS τ
theorem xle.rf {σ : XS} : xle σ σ := ⟨Nat.le_refl _, Nat.le_refl _, Nat.le_refl _⟩
theorem xle.tr {σ τ u : XS} (h1 : xle σ τ) (h2 : xle τ u) : xle σ u := ⟨Nat.le_trans h1.1 h2.1, Nat.le_trans h1.2.1 h2.2.1, Nat.le_trans h1.2.2 h2.2.2⟩
theorem xle_m {σ : XS} {w : Nat → Value} {m : XM} : xle σ (σ.1, σ.2.1, w, m) := ⟨Nat.le_refl _, Nat.le_refl _, Nat.le_refl _⟩
theorem xle_e {σ : XS} {w : Nat → Value} {m : XM} : xle σ (σ.1, σ.2.1 + 1, w, m) := ⟨Nat.le_refl _, by unfold nC; dsimp only; omega, by unfold nS; dsimp only; omega⟩
theorem xle_s {σ : XS} {a ci n : Nat} {rs rs' : List (Option Nat)} {w : Nat → Value} {m : XM} (hS : σ.1[a]? = some (ci, n, rs)) : xle σ (σ.1.set a (ci, n, rs'), σ.2.1, w, m) := by
  refine ⟨by dsimp only; rw [List.length_set]; exact Nat.le_refl _, by unfold nC; dsimp only; rw [List.length_set]; exact Nat.le_refl _, ?_⟩
  unfold nS; dsimp only
  rw [List.map_set]
  have hlt := (List.getElem?_eq_some_iff.mp hS).1
  have e : (List.map (fun x : XC => x.2.1) σ.1).set a n = List.map (fun x : XC => x.2.1) σ.1 := by
    apply List.ext_getElem?
    intro i
    by_cases hi : i = a
    · subst hi
      rw [List.getElem?_set_self (by simpa using hlt), List.getElem?_map, hS]; rfl
    · rw [List.getElem?_set_ne (Ne.symm hi)]
  dsimp only
  rw [e]
  exact Nat.le_refl _
theorem xle_p {σ : XS} {x : XC} {w : Nat → Value} {m : XM} : xle σ (σ.1 ++ [x], σ.2.1, w, m) := by
  refine ⟨by dsimp only; rw [List.length_append]; omega, by unfold nC; dsimp only; rw [List.length_append]; omega, ?_⟩
  unfold nS; dsimp only
  rw [List.map_append, List.sum_append]; omega
set_option maxHeartbeats 4000000 in
theorem xone_mono {K : XK} {i : Instr} {ls ls' : XL} {st st' : List Value} {σ σ' : XS} (h : xone K i ls st σ = some (ls', st', σ')) : xle σ σ' := by
  cases i <;> (unfold xone at h; dsimp only at h) <;> (try cases h) <;> (try exact xle.rf) <;>
    (repeat' split at h) <;> (try cases h) <;> first | exact xle.rf | exact xle_m | (exact xle_s (by assumption)) | exact xle_p
theorem xbr_some {c : ClassFile.Cond} {a b : Int32} {t f : XO} {r : XR × XS} (h : xbr c a b t f = some r) : t = some r ∨ f = some r := by
  unfold xbr at h
  cases c <;> dsimp only at h <;> split at h <;> first | exact Or.inl h | exact Or.inr h
theorem xcall_mono {C : Nat → List Value → XS → XO} {hd : List (Nat × Nat × Nat)} {J : Nat → XL → List Value → XS → XO} {y : Nat} {ls : XL} {st : List Value} {σ σ' : XS} {r : XR} {k : List Value → XS → XO}
    (hJ : ∀ (L : Nat) (ls : XL) (st : List Value) (σ : XS) (r : XR) (σ' : XS), J L ls st σ = some (r, σ') → xle σ σ') (hC : ∀ (y : Nat) (args : List Value) (σ : XS) (r : XR) (σ' : XS), C y args σ = some (r, σ') → xle σ σ')
    (hk : ∀ (st : List Value) (σ : XS) (r : XR) (σ' : XS), k st σ = some (r, σ') → xle σ σ') (h : xcall C hd J y ls st σ k = some (r, σ')) : xle σ σ' := by
  unfold xcall at h
  split at h
  · cases h
  · split at h
    · split at h
      · cases h
      · rename_i hc
        split at h
        · exact (hC _ _ _ _ _ hc).tr (hk _ _ _ _ h)
        · cases h
      · rename_i hc
        split at h
        · split at h
          · exact (hC _ _ _ _ _ hc).tr (hJ _ _ _ _ _ _ h)
          · cases h
        · split at h
          · cases h; exact hC _ _ _ _ _ hc
          · cases h
    · cases h
set_option maxHeartbeats 4000000 in
theorem xblk_mono {K : XK} {rt : Nat} {hd : List (Nat × Nat × Nat)} {J : Nat → XL → List Value → XS → XO} {C : Nat → List Value → XS → XO}
    (hJ : ∀ (L : Nat) (ls : XL) (st : List Value) (σ : XS) (r : XR) (σ' : XS), J L ls st σ = some (r, σ') → xle σ σ') (hC : ∀ (y : Nat) (args : List Value) (σ : XS) (r : XR) (σ' : XS), C y args σ = some (r, σ') → xle σ σ') :
    ∀ (is : List Instr) (ls : XL) (st : List Value) (σ : XS) (r : XR) (σ' : XS), xblk K rt hd J C is ls st σ = some (r, σ') → xle σ σ' := by
  intro is
  induction is with
  | nil => intro ls st σ r σ' h; cases h
  | cons i is ih =>
    intro ls st σ r σ' h
    unfold xblk at h
    split at h
    · exact hJ _ _ _ _ _ _ h
    · exact hJ _ _ _ _ _ _ h
    · split at h
      · rcases xbr_some h with h | h
        · exact hJ _ _ _ _ _ _ h
        · exact ih _ _ _ _ _ h
      · cases h
    · split at h
      · rcases xbr_some h with h | h
        · exact hJ _ _ _ _ _ _ h
        · exact ih _ _ _ _ _ h
      · cases h
    · split at h
      · exact ih _ _ _ _ _ h
      · cases h
    · split at h
      · split at h
        · split at h
          · exact hJ _ _ _ _ _ _ h
          · cases h
        · exact hJ _ _ _ _ _ _ h
      · cases h
    · split at h
      · split at h
        · exact hJ _ _ _ _ _ _ h
        · exact hJ _ _ _ _ _ _ h
      · cases h
    · split at h
      · split at h
        · cases h; exact xle.rf
        · cases h
      · cases h
    · split at h
      · split at h
        · cases h; exact xle.rf
        · cases h
      · cases h
    · split at h
      · split at h
        · cases h; exact xle.rf
        · cases h
      · cases h
    · split at h
      · split at h
        · cases h; exact xle.rf
        · cases h
      · cases h
    · split at h
      · split at h
        · cases h; exact xle.rf
        · cases h
      · cases h
    · split at h
      · split at h
        · cases h; exact xle.rf
        · cases h
      · cases h
    · split at h
      · split at h
        · cases h; exact xle_e
        · cases h
      · cases h
    · exact xcall_mono hJ hC (fun st σ r σ' h => ih _ _ _ _ _ h) h
    · exact xcall_mono hJ hC (fun st σ r σ' h => ih _ _ _ _ _ h) h
    · exact xcall_mono hJ hC (fun st σ r σ' h => ih _ _ _ _ _ h) h
    · split at h
      · rename_i h1
        exact (xone_mono h1).tr (ih _ _ _ _ _ h)
      · cases h
theorem xrun_mono {K : XK} : ∀ (n d y L : Nat) (ls : XL) (st : List Value) (σ : XS) (r : XR) (σ' : XS), xrun K n d y L ls st σ = some (r, σ') → xle σ σ' := by
  intro n
  induction n generalizing K with
  | zero => intro d y L ls st σ r σ' h; cases h
  | succ n ih =>
    intro d y L ls st σ r σ' h
    unfold xrun at h
    split at h
    · cases h
    · split at h
      · cases h
      · refine xblk_mono (fun L ls st σ r σ' h => ih _ _ _ _ _ _ _ _ h) (fun y args σ r σ' h => ?_) _ _ _ _ _ _ h
        split at h
        · cases h
        · exact ih _ _ _ _ _ _ _ _ h
end
section
/-! The check of a method: its blocks are its bytecode, its words stand among the tables. -/
def cpX : List (Nat × Nat × Nat × Nat) := [(12, 20, 0, 769), (12, 15, 1, 493), (12, 13, 2, 492)]
theorem cpX_ok : (cpX.all fun e => xat e.2.2.2 (.classLink (xow e.1) e.2.1 (xexn e.2.2.1))) = true := by decide +kernel
def fdX (own k : Nat) : Option Nat := (cpX.find? (fun e => e.1 == own && e.2.1 == k)).map (fun e => e.2.2.1)
theorem fdX_ok {own k : Nat} {z : Nat} (h : fdX own k = some z) : Cond.classLink (xow own) k (xexn z) ∈ xWS := by
  unfold fdX at h
  cases hz : cpX.find? (fun e => e.1 == own && e.2.1 == k) with
  | none => rw [hz] at h; cases h
  | some e =>
    rw [hz] at h; cases h
    obtain ⟨h1, h2⟩ := find_in hz cpX_ok
    simp only [Bool.and_eq_true, beq_iff_eq] at h2
    obtain ⟨rfl, rfl⟩ := h2
    exact xat_in h1
def fdM (own k : Nat) : Option (Nat × Nat) := (cpM.find? (fun e => e.1 == own && e.2.1 == k)).map (fun e => (e.2.2.1, e.2.2.2.1))
theorem fdM_ok {own k y nest : Nat} (h : fdM own k = some (y, nest)) : if nest = 0 then Cond.methodLink (xow own) k (xnm y) ∈ xWS else Cond.methodLinkNest (xow own) k (xnm y) "BannerParade" ∈ xNW := by
  unfold fdM at h
  cases hz : cpM.find? (fun e => e.1 == own && e.2.1 == k) with
  | none => rw [hz] at h; cases h
  | some e =>
    rw [hz] at h; cases h
    obtain ⟨h1, h2⟩ := find_in hz cpM_ok
    simp only [Bool.and_eq_true, beq_iff_eq] at h2
    obtain ⟨rfl, rfl⟩ := h2
    unfold xchM at h1
    by_cases hn : e.2.2.2.1 = 0
    · rw [if_pos hn] at h1 ⊢; exact xat_in h1
    · rw [if_neg hn] at h1 ⊢
      exact xNW_in (of_decide_eq_true h1) rfl
def xthr : List (Nat × Nat) := [(402, 406), (427, 431), (72, 76)]
def xsup : List String := ["java/lang/RuntimeException", "java/lang/Exception"]
def xthrE (E : Nat) : Bool :=
  xat ([778, 715, 498].getD E 0) (.classLink "BannerParade" (xthr.getD E (0, 0)).1 (xexn E)) && xat ([114, 113, 107].getD E 0) (.initialized (xexn E)) && xat ([114, 113, 107].getD E 0) (.initialized (xexn E)) &&
  (vx_atS "BannerParade" (xthr.getD E (0, 0)).2 (xexn E) xsup).all (fun w => (lw_tbl.any (fun u => decide (u = w))) && (goodWord w || xNWk w) && vx_ot w) && vx_ot (.classLink "BannerParade" (xthr.getD E (0, 0)).1 (xexn E)) && vx_ot (.initialized (xexn E)) && Bundle.fit (xexn E) && xsup.all Bundle.fit
theorem xthr_0 : xthrE 0 = true := by decide +kernel
theorem xthr_1 : xthrE 1 = true := by decide +kernel
theorem xthr_2 : xthrE 2 = true := by decide +kernel
theorem xthr_ok {E : Nat} (h : E < 3) : xthrE E = true := by
  match E, h with
  | 0, _ => exact xthr_0
  | 1, _ => exact xthr_1
  | 2, _ => exact xthr_2
theorem xcast_ok {E : Nat} (h : E < 3) : Cond.castable (xexn E) (xexn E) ∈ xNW := by
  match E, h with
  | 0, _ => exact xNW_in (i := 780) (by decide +kernel) rfl
  | 1, _ => exact xNW_in (i := 717) (by decide +kernel) rfl
  | 2, _ => exact xNW_in (i := 500) (by decide +kernel) rfl
def xtgt (pcs : List Nat) (pc : Nat) (off L : Int) : Bool := match pcs[L.toNat]? with
  | some t => decide ((pc : Int) + off = (t : Int))
  | none => false
def xinit (y : Nat) : Bool := (xnm y).name == "<init>"
def xstat (y : Nat) : Bool := match xmt y with
  | some (_, _, rc, _, _, _) => rc == 99 && !xinit y
  | none => false
def xvirt (y : Nat) : Bool := match xmt y with
  | some (_, _, rc, _, _, _) => !(rc == 99) && !xinit y
  | none => false
/-- new; dup; ldc or ldc_w; invokespecial; athrow -/
def xchT (own : Nat) (b : ByteArray) (pc E : Nat) : Bool :=
  own == 10 && decide (E < 3) && decide (decode b pc = .ok (.new (xthr.getD E (0, 0)).1, 3)) && decide (decode b (pc + 3) = .ok (.dup, 1)) &&
  (match decode b (pc + 4) with
  | .ok (.ldc k, 2) => (fdS own k).isSome && decide (decode b (pc + 6) = .ok (.invokespecial (xthr.getD E (0, 0)).2, 3)) && decide (decode b (pc + 9) = .ok (.athrow, 1))
  | .ok (.ldc_w k, 3) => (fdS own k).isSome && decide (decode b (pc + 7) = .ok (.invokespecial (xthr.getD E (0, 0)).2, 3)) && decide (decode b (pc + 10) = .ok (.athrow, 1))
  | _ => false)
def xcov (hh : List (Nat × Nat × Nat × Nat)) (pc : Nat) : Bool := hh.all (fun h => decide (h.1 ≤ pc) && decide (pc < h.2.1))
def xchk (own nL : Nat) (ini : Bool) (b : ByteArray) (pcs : List Nat) (hh : List (Nat × Nat × Nat × Nat)) : Nat → List Instr → Bool
  | _, [] => true
  | pc, i :: is =>
    match i with
    | .goto_w L => pcs[L.toNat]? == some pc
    | .goto L => match decode b pc with
      | .ok (.goto off, 3) => xtgt pcs pc off L
      | _ => false
    | .ifCond c L => match decode b pc with
      | .ok (.ifCond c' off, 3) => decide (c = c') && xtgt pcs pc off L && xchk own nL ini b pcs hh (pc + 3) is
      | _ => false
    | .if_icmp c L => match decode b pc with
      | .ok (.if_icmp c' off, 3) => decide (c = c') && xtgt pcs pc off L && xchk own nL ini b pcs hh (pc + 3) is
      | _ => false
    | .ifnull _ => match decode b pc with
      | .ok (.ifnull _, 3) => xchk own nL ini b pcs hh (pc + 3) is
      | _ => false
    | .tableswitch d lo hi offs => match decode b pc with
      | .ok (.tableswitch d' lo' hi' offs', _) => lo == lo' && hi == hi' && xtgt pcs pc d' d && offs.size == offs'.size && (offs.toList.zip offs'.toList).all (fun q => xtgt pcs pc q.2 q.1)
      | _ => false
    | .lookupswitch d ps => match decode b pc with
      | .ok (.lookupswitch d' ps', _) => xtgt pcs pc d' d && (ps'.toList.zip (ps'.toList.drop 1)).all (fun (a, next) => a.1 < next.1) && ps.size == ps'.size && (ps.toList.zip ps'.toList).all (fun q => q.1.1 == q.2.1 && xtgt pcs pc q.2.2 q.1.2)
      | _ => false
    | .ireturn => decide (decode b pc = .ok (.ireturn, 1))
    | .lreturn => decide (decode b pc = .ok (.lreturn, 1))
    | .freturn => decide (decode b pc = .ok (.freturn, 1))
    | .dreturn => decide (decode b pc = .ok (.dreturn, 1))
    | .areturn => decide (decode b pc = .ok (.areturn, 1))
    | .return_ => decide (decode b pc = .ok (.return_, 1))
    | .checkcast E => hh.isEmpty && xchT own b pc E
    | .invokevirtual y => match decode b pc with
      | .ok (.invokevirtual k, 3) => fdM own k == some (y, 0) && xvirt y && xcov hh pc && decide (y < 398) && !(y == 382) && xchk own nL ini b pcs hh (pc + 3) is
      | _ => false
    | .invokespecial y => match decode b pc with
      | .ok (.invokespecial k, 3) => (fdM own k).map Prod.fst == some y && xinit y && xcov hh pc && decide (y < 398) && !(y == 382) && xchk own nL ini b pcs hh (pc + 3) is
      | _ => false
    | .invokestatic y => match decode b pc with
      | .ok (.invokestatic k, 3) => (fdM own k).map Prod.fst == some y && xstat y && xcov hh pc && decide (y < 398) && !(y == 382) && xchk own nL ini b pcs hh (pc + 3) is
      | _ => false
    | i => match decode b pc with
      | .ok (a, n) => decide (xsim own nL ini a = some (i, n)) && xchk own nL ini b pcs hh (pc + n) is
      | _ => false
def xrtk : Nat → Option FieldType → Bool
  | 0, none => true
  | 1, some .int => true
  | 2, some .boolean => true
  | 3, some .byte => true
  | 4, some .char => true
  | 5, some .long => true
  | 6, some .float => true
  | 7, some .double => true
  | 8, some (.object _) => true
  | _, _ => false
def xhok (own nL : Nat) (b : ByteArray) (pcs : List Nat) (q : (Nat × Nat × Nat) × (Nat × Nat × Nat × Nat)) : Bool :=
  decide (q.1.1 < 3) && !(q.2.2.2.2 == 0) && fdX own q.2.2.2.2 == some q.1.1 && decide (q.1.2.2 < nL) &&
  (match decode b q.2.2.2.1 with
  | .ok (.astore_n k, 1) => (k : Nat) == q.1.2.2 && pcs[q.1.2.1]? == some (q.2.2.2.1 + 1)
  | .ok (.astore k, 2) => k == q.1.2.2 && pcs[q.1.2.1]? == some (q.2.2.2.1 + 2)
  | _ => false)
/-- all of it, for method y -/
def xyok (y : Nat) : Bool := match xmt y, xrl y with
  | some (na, ml, rc, rt, hd, bs), (own, nm, b, ml', ret, hh, pcs) =>
    ml == ml' && decide (ml ≤ 60) && xrtk rt ret && (pcs[0]? == some 0) && pcs.length == bs.length && ((pcs.zip bs).all fun q => xchk own ml (nm.name == "<init>") b pcs hh q.1 q.2.2) && hd.length == hh.length && (hd.zip hh).all (xhok own ml b pcs) && (hh.isEmpty || xstat y) &&
    (decide (rc < 12) && xow rc == nm.cls || rc == 30 && nm.cls == "java/lang/String" || rc == 99)
  | none, _ => false
def xyw (y : Nat) : Bool := match xmt y with
  | some (na, _, rc, _, _, _) => xwm y rc (xrl y) (xWs.getD y (0, 0, 0, 0)) (xstat y) && plainFor (xnm y) && !((xnm y).cls == "java/lang/invoke/MethodHandle") && !((xnm y).cls == "java/lang/invoke/VarHandle") &&
    ((parseMethodDescriptor (xnm y).desc).map (fun d => d.parameters.length) == some (if xstat y then na else na - 1)) && (xstat y || decide (1 ≤ na)) && (if rc == 99 then true else xow (xrl y).1 == (xnm y).cls)
  | none => false
end
section
/-! A call of X is the machine's own call. -/
theorem xWS_good {w : Cond} (h : w ∈ xWS) : goodWord w = true := (List.mem_filter.mp h).2
abbrev yown (y : Nat) : Nat := (xrl y).1
abbrev ycc (y : Nat) : ByteArray := (xrl y).2.2.1
abbrev yml (y : Nat) : Nat := (xrl y).2.2.2.1
abbrev yret (y : Nat) : Option FieldType := (xrl y).2.2.2.2.1
abbrev yhh (y : Nat) : List (Nat × Nat × Nat × Nat) := (xrl y).2.2.2.2.2.1
abbrev ypcs (y : Nat) : List Nat := (xrl y).2.2.2.2.2.2
def xhead (y : Nat) : Cond := if yhh y = [] then Cond.code (xnm y) (ycc y) (yml y) (yret y) else Cond.codeWith (xnm y) (ycc y) (yml y) (yret y) (yhh y)
def xwsy (y : Nat) : List Cond := xhead y :: xWS
theorem yw_spec {y : Nat} (h : xyw y = true) : ∃ (na ml rc rt : Nat) (hd : List (Nat × Nat × Nat)) (bs : List XB), xmt y = some (na, ml, rc, rt, hd, bs) ∧ xhead y ∈ xWS ∧ (if xstat y = true then Cond.static (xnm y) ∈ xWS else Cond.instanceMethod (xnm y) ∈ xWS) ∧
    (rc ≠ 99 → xinit y = false → Cond.selects (xnm y).cls (xnm y) (xnm y) ∈ xWS) ∧ Cond.initialized (xnm y).cls ∈ xWS ∧ plainFor (xnm y) = true ∧ ((xnm y).cls ≠ "java/lang/invoke/MethodHandle" ∧ (xnm y).cls ≠ "java/lang/invoke/VarHandle") ∧
    ((parseMethodDescriptor (xnm y).desc).map (fun d => d.parameters.length) = some (if xstat y = true then na else na - 1)) ∧ (xstat y = false → 1 ≤ na) ∧ (xstat y = (rc == 99 && !xinit y)) := by
  unfold xyw at h
  cases hm : xmt y with
  | none => rw [hm] at h; cases h
  | some z =>
    obtain ⟨na, ml, rc, rt, hd, bs⟩ := z
    rw [hm] at h
    dsimp only at h
    unfold xwm at h
    simp only [Bool.and_eq_true, Bool.not_eq_true', beq_eq_false_iff_ne, beq_iff_eq] at h
    obtain ⟨⟨⟨⟨⟨⟨⟨⟨⟨⟨⟨⟨w1, w2⟩, w3⟩, w4⟩, w5⟩, w6⟩, w7⟩, h2⟩, h3⟩, h4⟩, h5⟩, h6⟩, h7⟩ := h
    have hst : xstat y = (rc == 99 && !xinit y) := by unfold xstat; rw [hm]
    refine ⟨na, ml, rc, rt, hd, bs, rfl, ?_, ?_, ?_, ?_, h2, ⟨h3, h4⟩, h5, ?_, hst⟩
    · unfold xhead
      by_cases hh : yhh y = []
      · rw [if_pos hh]; rw [if_pos hh] at w1; exact xat_in w1
      · rw [if_neg hh]; rw [if_neg hh] at w1; exact xat_in w1
    · by_cases hs : xstat y = true
      · rw [if_pos hs]; rw [if_pos hs] at w2; exact xat_in w2
      · rw [if_neg hs]; rw [if_neg hs] at w2; exact xat_in w2
    · intro hrc hi
      have hs : xstat y = false := by rw [hst]; simp [hrc]
      have hcond : (xstat y || (xnm y).name == "<init>") = false := by
        rw [hs]; unfold xinit at hi; simpa using hi
      have w3' := w3
      rw [show (xstat y || (xrl y).2.1.name == "<init>") = false from hcond] at w3'
      rw [← w5] at w3'
      exact xat_in w3'
    · have := xat_in w4
      rw [← w5] at this
      exact this
    · intro hs
      rw [hs] at h6
      simpa using h6

theorem xwsy_good (y : Nat) (h : xhead y ∈ xWS) : GoodIn xWS (xwsy y) := by
  refine goodIn_sub (fun w hw => ?_) (List.all_eq_true.mpr fun w hw => ?_)
  · rcases List.mem_cons.mp hw with rfl | hw
    · exact h
    · exact hw
  · rcases List.mem_cons.mp hw with rfl | hw
    · exact xWS_good h
    · exact xWS_good hw
def xPre (D : va_G) (cA : Nat → ClassId) (A : Nat → Prop) (sv : Value) (adc ad : Nat → Nat) (σ : XS) (U : State) : Prop :=
  va_P D vwCl (xws ad cA σ) U.heap ∧ va_D A (xws ad cA σ) ∧ va_K D vwCl (xtys cA) U ∧ (∀ q, U.heap.size ≤ q → A q) ∧ xEnv adc sv A U U.heap ∧ ∀ a, 1000000 ≤ a → ad a = adc a
theorem xPre.to {D : va_G} {cA : Nat → ClassId} {A : Nat → Prop} {sv : Value} {adc ad : Nat → Nat} {σ : XS} {U V : State} (h : xPre D cA A sv adc ad σ U) (hW : U.WarmedH V.vm) (hh : V.heap = U.heap) : xPre D cA A sv adc ad σ V := by
  obtain ⟨h1, h2, h3, h4, h5, h6⟩ := h
  exact ⟨by rw [hh]; exact h1, h2, va_K.moved hW.alike h3, by rw [hh]; exact h4, xEnv.to h5 hW (fun a _ _ => by rw [hh]), h6⟩
def xext (σ τ : XS) (ad ad' : Nat → Nat) : Prop := ∀ a, (a < σ.1.length ∨ τ.1.length ≤ a) → ad' a = ad a
theorem xext.rf {σ : XS} {ad : Nat → Nat} : xext σ σ ad ad := fun _ _ => rfl
theorem xext.tr {σ τ u : XS} {a1 a2 a3 : Nat → Nat} (h1 : xext σ τ a1 a2) (h2 : xext τ u a2 a3) (l1 : xle σ τ) (l2 : xle τ u) : xext σ u a1 a3 := by
  intro a ha
  have := l1.1
  have := l2.1
  rw [h2 a (by omega), h1 a (by omega)]
def xEnd (D : va_G) (cA : Nat → ClassId) (A : Nat → Prop) (adc ad : Nat → Nat) (σ σ' : XS) (st t : State) (ad' : Nat → Nat) : Prop :=
  va_P D vwCl (xws ad' cA σ') t.heap ∧ va_D A (xws ad' cA σ') ∧ (∀ a, 1000000 ≤ a → ad' a = adc a) ∧ xext σ σ' ad ad' ∧ va_F A st t
def xQc (D : va_G) (cA : Nat → ClassId) (A : Nat → Prop) (sv : Value) (adc ad : Nat → Nat) (σ σ' : XS) (r : XR) : Array Value → State → Outcome → State → Prop := fun _ st oc t =>
  ∃ (v : Option Value) (ad' : Nat → Nat), r = .inl v ∧ oc = .returned (v.map (xre ad' sv)) ∧ xEnd D cA A adc ad σ σ' st t ad'
def xXc (D : va_G) (cA : Nat → ClassId) (A : Nat → Prop) (adc ad : Nat → Nat) (σ σ' : XS) (r : XR) : String → State → State → Prop := fun E st t =>
  ∃ (k : Nat) (ad' : Nat → Nat), r = .inr k ∧ k < 3 ∧ E = xexn k ∧ xEnd D cA A adc ad σ σ' st t ad'
abbrev xrm (d : Nat) (σ σ' : XS) : Room := { frames := d + 10, cells := nC σ' - nC σ, slots := nS σ' - nS σ, locals := (d + 1) * 100 }
/-- the contract of a method, for one run of X -/
def xMt (l : Launch) (D : va_G) (cA : Nat → ClassId) (A : Nat → Prop) (sv : Value) (adc ad : Nat → Nat) (d y : Nat) (args : List Value) (σ : XS) (r : XR) (σ' : XS) : Prop :=
  vx_Met l (xnm y) (xwsy y) (xrm d σ σ') (va_Pc (args.map (xre ad sv)) (xPre D cA A sv adc ad σ)) (xQc D cA A sv adc ad σ σ' r) (xXc D cA A adc ad σ σ' r) (nC σ' - nC σ) (nS σ' - nS σ) A
section XCall
variable {p : Program} {l : Launch} {e : Env} {R : Room} {s : State} {m : MethodId} {args : Array Value} {below : List Frame} {meth : Method} {c : Code} {Q : State → Prop} {D : va_G} {cA : Nat → ClassId} {A : Nat → Prop} {sv : Value} {adc ad : Nat → Nat} {own : Nat} {cc : ByteArray} {nL : Nat} {nm : MethodName} {pc : Nat} {H : Heap} {locs : List Loc} {lsA : Array Slot} {cells slots : Nat}
theorem xpres (C : xCx p s m args meth c D cA A sv adc own cc nL nm) {σ : XS} (hW : xWf D cA A s adc ad σ H locs) {U : State} (hU : U.heap = H) (hw : s.WarmedH U.vm) : xPre D cA A sv adc ad σ U := by
  obtain ⟨hx, hb, hml, hown, hts, hK, hA, hE, hin⟩ := C
  refine ⟨by rw [hU]; exact hW.1, hW.2.1, va_K.moved hw.alike hK, fun q hq => hA q (Nat.le_trans hW.2.2.1.1 (by rw [hU] at hq; exact hq)), xEnv.to hE hw (fun a ha hn => by rw [hU]; exact hW.2.2.1.2.1 a ha hn), hW.2.2.2⟩
theorem xblind {As : List Value} {σ : XS} : FrameBlind (va_Pc As (xPre D cA A sv adc ad σ)) := fun a U g mk q => ⟨q.1, xPre.to (V := U.calling g mk a) q.2 (State.WarmedH.refl U) rfl⟩
/-- where the machine goes on behind a call -/
theorem x_after {σ σ1 σ' : XS} {r : XR} {mc ms : Nat} {st0 rest : List Value} {aa : Array Value} (hr : vx_Run p l e R s m args below meth c H locs cells slots mc ms (F0 m pc lsA st0) rest (xQc D cA A sv adc ad σ σ' r aa) (xXc D cA A adc ad σ σ' r) A) (hW : xWf D cA A s adc ad σ H locs)
    (kk : ∀ (v : Option Value) (ad' : Nat → Nat) (H' : Heap) (locs' : List Loc), r = .inl v → xWf D cA A s adc ad' σ' H' locs' → xext σ σ' ad ad' → W p l e R s m args below meth c H' locs' (cells + mc) (slots + ms) Q (F0 m (pc + 3) lsA ((v.map (xre ad' sv)).toList ++ rest)))
    (kx : ∀ (k : Nat) (ad' : Nat → Nat) (H' : Heap) (locs' : List Loc) (q : Nat) (ce : Cell), r = .inr k → k < 3 → xWf D cA A s adc ad' σ' H' locs' → xext σ σ' ad ad' → H'[q]? = some ce → ce.vm = .none → s.vm.findClass (xexn k) = some ce.cls → vx_W p l e R s m args below meth c H' locs' (cells + mc) (slots + ms) Q (F0 m pc lsA rest) q) :
    W p l e R s m args below meth c H locs cells slots Q (F0 m pc lsA st0) := by
  intro T hT X
  rcases hr T hT X with ⟨v, st₀, t, T', L, h0, X', hL, e1, e2, ⟨v1, ad', hv, ho, hp, hd, hc, hx, hF⟩, st⟩ | ⟨q, st₀, t, T', L, E, ce, h0, X', hL, e1, e2, ⟨k, ad', hv, hk, hE, hp, hd, hc, hx, hF⟩, hce, hcv, hcl, st⟩
  · cases ho
    obtain ⟨k1, k2, k3⟩ := vx_keep h0 e1 hW.2.2.1 (fun _ _ h => h) (fun _ h => h) hL hF
    obtain ⟨t2, a1, b1⟩ := kk v1 ad' T'.heap (locs ++ L) hv ⟨by rw [e1]; exact hp, hd, k3, hc⟩ hx T' rfl X'
    exact ⟨t2, st t2 a1, b1⟩
  · subst hE
    obtain ⟨k1, k2, k3⟩ := vx_keep h0 e1 hW.2.2.1 (fun _ _ h => h) (fun _ h => h) hL hF
    obtain ⟨t2, a1, b1⟩ := kx k ad' T'.heap (locs ++ L) q ce hv hk ⟨by rw [e1]; exact hp, hd, k3, hc⟩ hx (by rw [e1]; exact hce) hcv hcl T' rfl X'
    exact ⟨t2, st.trans a1, b1⟩
end XCall
end
section
/-! X's call is one of the machine's three calls. -/
theorem xini_ret : ((List.range 398).all fun y => !(xinit y) || (yret y).isNone) = true := by decide +kernel
def xirc (y : Nat) : Bool := match xmt y with
  | some (_, _, rc, _, _, _) => !(rc == 99)
  | none => true
theorem xini_rcs : ((List.range 398).all fun y => !(xinit y) || xirc y) = true := by decide +kernel
theorem xini_rc {y na ml rc rt : Nat} {hd : List (Nat × Nat × Nat)} {bs : List XB} (h9 : y < 398) (hv : xinit y = true) (hm : xmt y = some (na, ml, rc, rt, hd, bs)) : ¬ rc = 99 := by
  have h1 := List.all_eq_true.mp xini_rcs y (List.mem_range.mpr h9)
  rw [hv] at h1
  unfold xirc at h1
  rw [hm] at h1
  simpa using h1
theorem xnest_hh : (cpM.all fun e => e.2.2.2.1 == 0 || (yhh e.2.2.1).isEmpty) = true := by decide +kernel
theorem fdM_nest {own k y nest : Nat} (h : fdM own k = some (y, nest)) (hn : nest ≠ 0) : yhh y = [] := by
  unfold fdM at h
  cases hz : cpM.find? (fun e => e.1 == own && e.2.1 == k) with
  | none => rw [hz] at h; cases h
  | some e =>
    rw [hz] at h; cases h
    obtain ⟨h1, h2⟩ := find_in hz xnest_hh
    simp only [Bool.or_eq_true, beq_iff_eq, List.isEmpty_iff] at h1
    rcases h1 with h1 | h1
    · exact absurd h1 hn
    · exact h1
theorem yok_spec {y : Nat} (h : xyok y = true) : ∃ (na ml rc rt : Nat) (hd : List (Nat × Nat × Nat)) (bs : List XB), xmt y = some (na, ml, rc, rt, hd, bs) ∧ ml = yml y ∧ ml ≤ 60 ∧ xrtk rt (yret y) = true ∧ (ypcs y)[0]? = some 0 ∧ (ypcs y).length = bs.length ∧
    (((ypcs y).zip bs).all fun q => xchk (yown y) ml (xinit y) (ycc y) (ypcs y) (yhh y) q.1 q.2.2) = true ∧ hd.length = (yhh y).length ∧ (hd.zip (yhh y)).all (xhok (yown y) ml (ycc y) (ypcs y)) = true ∧ ((yhh y).isEmpty = true ∨ xstat y = true) ∧
    ((rc < 12 ∧ xow rc = (xnm y).cls) ∨ (rc = 30 ∧ (xnm y).cls = "java/lang/String") ∨ rc = 99) := by
  unfold xyok at h
  cases hm : xmt y with
  | none => rw [hm] at h; cases h
  | some z =>
    obtain ⟨na, ml, rc, rt, hd, bs⟩ := z
    rw [hm] at h
    dsimp only at h
    simp only [Bool.and_eq_true, Bool.or_eq_true, beq_iff_eq, decide_eq_true_eq] at h
    obtain ⟨⟨⟨⟨⟨⟨⟨⟨⟨w1, w2⟩, w3⟩, w4⟩, w5⟩, w6⟩, w7⟩, w8⟩, w9⟩, w10⟩ := h
    refine ⟨na, ml, rc, rt, hd, bs, rfl, w1, w2, w3, w4, w5, w6, w7, w8, w9, ?_⟩
    rcases w10 with (a | a) | a
    · exact Or.inl a
    · exact Or.inr (Or.inl a)
    · exact Or.inr (Or.inr a)
section XRuns
variable {p : Program} {l : Launch} {e : Env} {R : Room} {s : State} {m : MethodId} {args : Array Value} {below : List Frame} {meth : Method} {c : Code} {D : va_G} {cA : Nat → ClassId} {A : Nat → Prop} {sv : Value} {adc ad : Nat → Nat} {own : Nat} {cc : ByteArray} {nL : Nat} {nm : MethodName} {pc : Nat} {H : Heap} {locs : List Loc} {lsA : Array Slot} {cells slots : Nat}
variable {y k d : Nat} {st : List Value} {σ σ1 : XS} {r : XR} {na ml rc rt : Nat} {hd : List (Nat × Nat × Nat)} {bs : List XB}
theorem x_runV (C : xCx p s m args meth c D cA A sv adc own cc nL nm) (hw : xWf D cA A s adc ad σ H locs) (hy : xyok y = true) (hyw : xyw y = true) (hm : xmt y = some (na, ml, rc, rt, hd, bs)) (hv : xvirt y = true)
    (hM : xMt l D cA A sv adc ad d y (st.take na).reverse σ r σ1) (hR : d + 11 ≤ R.frames ∧ (d + 2) * 100 ≤ R.locals) (hlink : Cond.methodLink (xow own) k (xnm y) ∈ xWS) (hlen : na ≤ st.length) (hrv : xrecv rc σ.1 (st.take na).reverse = true) (hcat : xcat (st.drop na) ≤ 8)
    (hdg : decode cc pc = .ok (.invokevirtual k, 3)) (hls : lsA.size = nL) (hf : cells + (nC σ1 - nC σ) ≤ R.cells ∧ slots + (nS σ1 - nS σ) ≤ R.slots) :
    ∃ aa, vx_Run p l e R s m args below meth c H locs cells slots (nC σ1 - nC σ) (nS σ1 - nS σ) (F0 m pc lsA (st.map (xre ad sv))) ((st.drop na).map (xre ad sv)) (xQc D cA A sv adc ad σ σ1 r aa) (xXc D cA A adc ad σ σ1 r) A := by
  obtain ⟨na1, ml1, rc1, rt1, hd1, bs1, hm1, v1, v2, v3, v4, v5, v6, v7, v8, v9, v10⟩ := yok_spec hy
  rw [hm] at hm1; cases hm1
  obtain ⟨na1, ml1, rc1, rt1, hd1, bs1, hm1, w1, w2, w3, w4, w5, w6, w7, w8, w9⟩ := yw_spec hyw
  rw [hm] at hm1; cases hm1
  have C0 := C
  obtain ⟨hx, hb, hml, hown, hts, hK, hA, hE, hin⟩ := C
  have hsv := hE.2.2.2.2.2.2.2.2.2.2.2.1
  have hvi : rc ≠ 99 ∧ xinit y = false := by
    unfold xvirt at hv; rw [hm] at hv; dsimp only at hv; simpa using hv
  have hns : xstat y = false := by rw [w9]; simp [hvi.1]
  have hh0 : yhh y = [] := by
    rcases v9 with q | q
    · exact List.isEmpty_iff.mp q
    · rw [hns] at q; cases q
  have hna : (st.take na).reverse.length = na := by rw [List.length_reverse, List.length_take]; omega
  cases hasr : (st.take na).reverse with
  | nil => rw [hasr] at hrv; unfold xrecv at hrv; simp [hvi.1] at hrv
  | cons v0 As0 =>
    rw [hasr] at hrv hM hna
    cases v0 with
    | ref b =>
      have hst : st = As0.reverse ++ .ref b :: st.drop na := by
        have h2 : st.take na = As0.reverse ++ [.ref b] := by
          have := congrArg List.reverse hasr
          rw [List.reverse_reverse] at this
          rw [this, List.reverse_cons]
        have h3 := List.take_append_drop na st
        rw [h2] at h3
        rw [List.append_assoc] at h3
        exact h3.symm
      have hrecv : ∃ cellB : Cell, H[ad b]? = some cellB ∧ cellB.vm.isStatics = false ∧ s.vm.findClass (xnm y).cls = some cellB.cls := by
        unfold xrecv at hrv
        dsimp only at hrv
        rw [if_neg hvi.1] at hrv
        cases hS : σ.1[b]? with
        | some x =>
          obtain ⟨ci, n, rs⟩ := x
          rw [hS] at hrv
          dsimp only at hrv
          simp only [Bool.and_eq_true, beq_iff_eq, decide_eq_true_eq] at hrv
          obtain ⟨rfl, hlt⟩ := hrv
          obtain ⟨Cn, T, N, ty, x1, x2, -⟩ := xcls hlt
          have hat := xws_at (ad := ad) (cA := cA) hS
          rw [xcell_o hlt] at hat
          have := va_recv hK hw.1 x1 hat
          dsimp only at this
          rw [x2] at this
          rcases v10 with ⟨-, q⟩ | ⟨q, -⟩ | q
          · rw [← q]; exact this
          · omega
          · exact absurd q hvi.1
        | none =>
          rw [hS] at hrv
          simp only [Bool.and_eq_true, beq_iff_eq, decide_eq_true_eq] at hrv
          obtain ⟨⟨rfl, h1⟩, h2⟩ := hrv
          obtain ⟨j, hj⟩ := Nat.exists_eq_add_of_le (show (1000010 : Nat) ≤ b from h1)
          have h3 : j < 18 := by have h4 : (1000010 + j : Nat) < 1000028 := hj ▸ h2; omega
          have hk := vk_recv (i := j) hE.2.2.2.2.2.1 h3 hw.2.2.1
          have hk2 : ad b = adc (1000010 + j) := by rw [hw.2.2.2 b (Nat.le_trans (by decide) h1), hj]
          rw [← hk2] at hk
          rcases v10 with ⟨q, -⟩ | ⟨-, q⟩ | q
          · omega
          · rw [q]; exact hk
          · omega
      have hhd : xhead y = Cond.code (xnm y) (ycc y) (yml y) (yret y) := by unfold xhead; rw [if_pos hh0]
      have hln : (As0.map (xre ad sv)).length = na - 1 := by
        rw [List.length_map]; simp only [List.length_cons] at hna; omega
      rw [hns] at w2 w7
      have cb : CallB R s args (xow own) k (xnm y) (ycc y) (yml y) (yret y) (xwsy y) (xrm d σ σ1) (nC σ1 - nC σ) (nS σ1 - nS σ) (na - 1) :=
        callB_of (Ts := xWS) (na - 1) hts (xwsy_good y w1) (by unfold xwsy; rw [hhd]) rfl rfl (hts _ w4) (hts _ hlink) ⟨w6.1, w6.2, w7⟩ ⟨by show d + 10 + 1 ≤ _; omega, by show 8 + (yml y + 11) + (d + 1) * 100 ≤ _; omega⟩
      refine ⟨_, vx_runV (Ts := xWS) ⟨hx, hb, hml, hown, hts⟩ hM ⟨cb, hts _ (by simpa using w2), hts _ (w3 hvi.1 hvi.2)⟩ (b := ad b) (As := As0.map (xre ad sv)) ⟨xblind, hrecv, fun U hU hWU => ⟨rfl, xpres C0 hw hU hWU⟩⟩ rfl hln hls ?_ (lv_room (by rw [xcat_re hsv]; exact hcat)) hdg hf⟩
      show st.map (xre ad sv) = _
      conv => lhs; rw [hst]
      rw [List.map_append, List.map_cons, List.map_reverse]
      rfl
    | _ => unfold xrecv at hrv; simp [hvi.1] at hrv
theorem x_runI (C : xCx p s m args meth c D cA A sv adc own cc nL nm) (hw : xWf D cA A s adc ad σ H locs) (hy : xyok y = true) (hyw : xyw y = true) (hy9 : y < 398) (hm : xmt y = some (na, ml, rc, rt, hd, bs)) (hv : xinit y = true)
    (hM : xMt l D cA A sv adc ad d y (st.take na).reverse σ r σ1) (hR : d + 11 ≤ R.frames ∧ (d + 2) * 100 ≤ R.locals) {nest : Nat} (hfd : fdM own k = some (y, nest)) (hlen : na ≤ st.length) (hrv : xrecv rc σ.1 (st.take na).reverse = true) (hcat : xcat (st.drop na) ≤ 8)
    (hdg : decode cc pc = .ok (.invokespecial k, 3)) (hls : lsA.size = nL) (hf : cells + (nC σ1 - nC σ) ≤ R.cells ∧ slots + (nS σ1 - nS σ) ≤ R.slots) :
    ∃ aa, vx_Run p l e R s m args below meth c H locs cells slots (nC σ1 - nC σ) (nS σ1 - nS σ) (F0 m pc lsA (st.map (xre ad sv))) ((st.drop na).map (xre ad sv)) (xQc D cA A sv adc ad σ σ1 r aa) (xXc D cA A adc ad σ σ1 r) A := by
  obtain ⟨na1, ml1, rc1, rt1, hd1, bs1, hm1, v1, v2, v3, v4, v5, v6, v7, v8, v9, v10⟩ := yok_spec hy
  rw [hm] at hm1; cases hm1
  obtain ⟨na1, ml1, rc1, rt1, hd1, bs1, hm1, w1, w2, w3, w4, w5, w6, w7, w8, w9⟩ := yw_spec hyw
  rw [hm] at hm1; cases hm1
  have C0 := C
  obtain ⟨hx, hb, hml, hown, hts, hK, hA, hE, hin⟩ := C
  have hsv := hE.2.2.2.2.2.2.2.2.2.2.2.1
  have hns : xstat y = false := by rw [w9, hv]; simp
  have hh0 : yhh y = [] := by
    rcases v9 with q | q
    · exact List.isEmpty_iff.mp q
    · rw [hns] at q; cases q
  have hret : yret y = none := by
    have h1 := List.all_eq_true.mp xini_ret y (List.mem_range.mpr hy9)
    rw [hv] at h1
    simpa using h1
  have hnm : (xnm y).name = "<init>" := by unfold xinit at hv; simpa using hv
  have hna : (st.take na).reverse.length = na := by rw [List.length_reverse, List.length_take]; omega
  rw [hns] at w2 w7
  have hna1 := w8 hns
  cases hasr : (st.take na).reverse with
  | nil => rw [hasr] at hna; simp at hna; omega
  | cons v0 As0 =>
    rw [hasr] at hrv hM hna
    have hrf : ∃ b, v0 = .ref b := by
      cases v0 with
      | ref b => exact ⟨b, rfl⟩
      | _ =>
        unfold xrecv at hrv
        simp only [beq_iff_eq] at hrv
        exact absurd hrv (xini_rc hy9 hv hm)
    obtain ⟨b, rfl⟩ := hrf
    have hst : st = As0.reverse ++ .ref b :: st.drop na := by
      have h2 : st.take na = As0.reverse ++ [.ref b] := by
        have := congrArg List.reverse hasr
        rw [List.reverse_reverse] at this
        rw [this, List.reverse_cons]
      have h3 := List.take_append_drop na st
      rw [h2] at h3
      rw [List.append_assoc] at h3
      exact h3.symm
    have hhd : xhead y = Cond.code (xnm y) (ycc y) (yml y) none := by unfold xhead; rw [if_pos hh0, hret]
    have hln : (As0.map (xre ad sv)).length = na - 1 := by
      rw [List.length_map]; simp only [List.length_cons] at hna; omega
    have hstk : (F0 m pc lsA (st.map (xre ad sv))).stack = (As0.map (xre ad sv)).reverse ++ .ref (ad b) :: (st.drop na).map (xre ad sv) := by
      show st.map (xre ad sv) = _
      conv => lhs; rw [hst]
      rw [List.map_append, List.map_cons, List.map_reverse]
      rfl
    have hlk := fdM_ok hfd
    by_cases hn : nest = 0
    · rw [if_pos hn] at hlk
      have cb : CallB R s args (xow own) k (xnm y) (ycc y) (yml y) none (xwsy y) (xrm d σ σ1) (nC σ1 - nC σ) (nS σ1 - nS σ) (na - 1) :=
        callB_of (Ts := xWS) (na - 1) hts (xwsy_good y w1) (by unfold xwsy; rw [hhd]) rfl rfl (hts _ w4) (hts _ hlk) ⟨w6.1, w6.2, w7⟩ ⟨by show d + 10 + 1 ≤ _; omega, by show 8 + (yml y + 11) + (d + 1) * 100 ≤ _; omega⟩
      exact ⟨_, vx_runI (Ts := xWS) ⟨hx, hb, hml, hown, hts⟩ hM ⟨cb, hnm, hts _ (by simpa using w2)⟩ (b := ad b) (As := As0.map (xre ad sv)) ⟨xblind, fun U hU hWU => ⟨rfl, xpres C0 hw hU hWU⟩⟩ rfl hln hls hstk (lv_room (by rw [xcat_re hsv]; exact hcat)) hdg hf⟩
    · rw [if_neg hn] at hlk
      have cb : va_CN R s args (xow own) k (xnm y) "BannerParade" (ycc y) (yml y) none (xwsy y) (xrm d σ σ1) (nC σ1 - nC σ) (nS σ1 - nS σ) (na - 1) :=
        va_cnB (Ts := xWS) (na - 1) hts (xwsy_good y w1) (by unfold xwsy; rw [hhd]) rfl rfl (hE.2.2.2.2.2.2.2.2.2.1 _ hlk) (hts _ w4) ⟨w6.1, w6.2, w7⟩ ⟨by show d + 10 + 1 ≤ _; omega, by show 8 + (yml y + 11) + (d + 1) * 100 ≤ _; omega⟩
      exact ⟨_, vx_runIN (Ts := xWS) ⟨hx, hb, hml, hown, hts⟩ hM ⟨cb, hnm, hts _ (by simpa using w2)⟩ (b := ad b) (As := As0.map (xre ad sv)) ⟨xblind, fun U hU hWU => ⟨rfl, xpres C0 hw hU hWU⟩⟩ rfl hln hls hstk (lv_room (by rw [xcat_re hsv]; exact hcat)) hdg hf⟩
theorem x_runS (C : xCx p s m args meth c D cA A sv adc own cc nL nm) (hw : xWf D cA A s adc ad σ H locs) (hy : xyok y = true) (hyw : xyw y = true) (hm : xmt y = some (na, ml, rc, rt, hd, bs)) (hv : xstat y = true)
    (hM : xMt l D cA A sv adc ad d y (st.take na).reverse σ r σ1) (hR : d + 11 ≤ R.frames ∧ (d + 2) * 100 ≤ R.locals) {nest : Nat} (hfd : fdM own k = some (y, nest)) (hlen : na ≤ st.length) (hcat : xcat (st.drop na) ≤ 8)
    (hdg : decode cc pc = .ok (.invokestatic k, 3)) (hls : lsA.size = nL) (hf : cells + (nC σ1 - nC σ) ≤ R.cells ∧ slots + (nS σ1 - nS σ) ≤ R.slots) :
    ∃ aa, vx_Run p l e R s m args below meth c H locs cells slots (nC σ1 - nC σ) (nS σ1 - nS σ) (F0 m pc lsA (st.map (xre ad sv))) ((st.drop na).map (xre ad sv)) (xQc D cA A sv adc ad σ σ1 r aa) (xXc D cA A adc ad σ σ1 r) A := by
  obtain ⟨na1, ml1, rc1, rt1, hd1, bs1, hm1, v1, v2, v3, v4, v5, v6, v7, v8, v9, v10⟩ := yok_spec hy
  rw [hm] at hm1; cases hm1
  obtain ⟨na1, ml1, rc1, rt1, hd1, bs1, hm1, w1, w2, w3, w4, w5, w6, w7, w8, w9⟩ := yw_spec hyw
  rw [hm] at hm1; cases hm1
  have C0 := C
  obtain ⟨hx, hb, hml, hown, hts, hK, hA, hE, hin⟩ := C
  have hsv := hE.2.2.2.2.2.2.2.2.2.2.2.1
  rw [hv] at w2 w7
  have hna : (st.take na).reverse.length = na := by rw [List.length_reverse, List.length_take]; omega
  have hln : ((st.take na).reverse.map (xre ad sv)).length = na := by rw [List.length_map]; exact hna
  have hstk : (F0 m pc lsA (st.map (xre ad sv))).stack = ((st.take na).reverse.map (xre ad sv)).reverse ++ (st.drop na).map (xre ad sv) := by
    show st.map (xre ad sv) = _
    rw [List.map_reverse, List.reverse_reverse, ← List.map_append, List.take_append_drop]
  have hpre : PreS s H (va_Pc ((st.take na).reverse.map (xre ad sv)) (xPre D cA A sv adc ad σ)) ((st.take na).reverse.map (xre ad sv)) := ⟨xblind, fun U hU hWU => ⟨rfl, xpres C0 hw hU hWU⟩⟩
  have hd7 : (xnm y).cls ≠ "java/lang/invoke/MethodHandle" ∧ (xnm y).cls ≠ "java/lang/invoke/VarHandle" ∧ (parseMethodDescriptor (xnm y).desc).map (fun d => d.parameters.length) = some na := ⟨w6.1, w6.2, w7⟩
  have hRR : (xrm d σ σ1).frames + 1 ≤ R.frames ∧ 8 + (yml y + 11) + (xrm d σ σ1).locals ≤ R.locals := ⟨by show d + 10 + 1 ≤ _; omega, by show 8 + (yml y + 11) + (d + 1) * 100 ≤ _; omega⟩
  have hlk := fdM_ok hfd
  by_cases hn : nest = 0
  · rw [if_pos hn] at hlk
    by_cases hh0 : yhh y = []
    · have hhd : xhead y = Cond.code (xnm y) (ycc y) (yml y) (yret y) := by unfold xhead; rw [if_pos hh0]
      have cb : CallB R s args (xow own) k (xnm y) (ycc y) (yml y) (yret y) (xwsy y) (xrm d σ σ1) (nC σ1 - nC σ) (nS σ1 - nS σ) na :=
        callB_of (Ts := xWS) na hts (xwsy_good y w1) (by unfold xwsy; rw [hhd]) rfl rfl (hts _ w4) (hts _ hlk) hd7 hRR
      exact ⟨_, vx_runS (Ts := xWS) ⟨hx, hb, hml, hown, hts⟩ hM ⟨cb, hts _ (by simpa using w2)⟩ hpre rfl hln hls hstk (lv_room (by rw [xcat_re hsv]; exact hcat)) hdg hf⟩
    · have hhd : xhead y = Cond.codeWith (xnm y) (ycc y) (yml y) (yret y) (yhh y) := by unfold xhead; rw [if_neg hh0]
      have hin9 : Cond.codeWith (xnm y) (ycc y) (yml y) (yret y) (yhh y) ∈ xwsy y := by unfold xwsy; rw [hhd]; exact List.mem_cons_self
      have cb : vx_CSW R s args (xow own) k (xnm y) (ycc y) (yml y) (yret y) (yhh y) (xwsy y) (xrm d σ σ1) (nC σ1 - nC σ) (nS σ1 - nS σ) na :=
        ⟨⟨rfl, rfl, hRR.1, hRR.2, pay_in hts (xwsy_good y w1), hin9⟩, hts _ (xwsy_good y w1 _ hin9).1, hts _ w4, w6, (fun sig h => by
          have h2 := hd7.2.2
          rw [h] at h2
          exact (Option.some.inj h2).symm), hts _ hlk, hts _ (by simpa using w2)⟩
      exact ⟨_, vx_runSX (Ts := xWS) ⟨hx, hb, hml, hown, hts⟩ hM cb hpre rfl hln hls hstk (lv_room (by rw [xcat_re hsv]; exact hcat)) hdg hf⟩
  · rw [if_neg hn] at hlk
    have hh0 : yhh y = [] := fdM_nest hfd hn
    have hhd : xhead y = Cond.code (xnm y) (ycc y) (yml y) (yret y) := by unfold xhead; rw [if_pos hh0]
    have cb : va_CN R s args (xow own) k (xnm y) "BannerParade" (ycc y) (yml y) (yret y) (xwsy y) (xrm d σ σ1) (nC σ1 - nC σ) (nS σ1 - nS σ) na :=
      va_cnB (Ts := xWS) na hts (xwsy_good y w1) (by unfold xwsy; rw [hhd]) rfl rfl (hE.2.2.2.2.2.2.2.2.2.1 _ hlk) (hts _ w4) hd7 hRR
    exact ⟨_, vx_runSN (Ts := xWS) ⟨hx, hb, hml, hown, hts⟩ hM ⟨cb, hts _ (by simpa using w2), trivial⟩ hpre rfl hln hls hstk (lv_room (by rw [xcat_re hsv]; exact hcat)) hdg hf⟩
end XRuns
end
section
/-! The body of a method: from X's run of its blocks to the machine. -/
def xri : Nat → Instr
  | 0 => .return_
  | 5 => .lreturn
  | 6 => .freturn
  | 7 => .dreturn
  | 8 => .areturn
  | _ => .ireturn
def xrok : Nat → Option Value → Prop
  | 0, none => True
  | 5, some (.long _) => True
  | 6, some (.float _) => True
  | 7, some (.double _) => True
  | 8, some (.ref _) => True
  | rt, some (.int v) => xrt rt v = true
  | _, _ => False
/-- what is owed where the method returns -/
def xRet (p : Program) (l : Launch) (e : Env) (R : Room) (s : State) (m : MethodId) (args : Array Value) (below : List Frame) (meth : Method) (c : Code) (Q : State → Prop) (D : va_G) (cA : Nat → ClassId) (A : Nat → Prop) (sv : Value) (adc : Nat → Nat) (y bC bS : Nat) (ad : Nat → Nat) (σ : XS) (r : XR) (σ' : XS) : Prop :=
  ∀ (v : Option Value) (ad' : Nat → Nat) (H' : Heap) (locs' : List Loc) (pc' : Nat) (ls' : Array Slot) (rt : Nat), r = .inl v → (∃ z, xmt y = some z ∧ z.2.2.2.1 = rt) → xrok rt v → decode (ycc y) pc' = .ok (xri rt, 1) → xWf D cA A s adc ad' σ' H' locs' → xext σ σ' ad ad' →
    W p l e R s m args below meth c H' locs' (nC σ' - bC) (nS σ' - bS) Q (F0 m pc' ls' ((v.map (xre ad' sv)).toList))
/-- what is owed where it throws -/
def xExc (s : State) (args : Array Value) (below : List Frame) (Q : State → Prop) (D : va_G) (cA : Nat → ClassId) (A : Nat → Prop) (adc : Nat → Nat) (bC bS : Nat) (ad : Nat → Nat) (σ : XS) (r : XR) (σ' : XS) : Prop :=
  ∀ k, r = .inr k → ∃ (Qc : Array Value → State → Outcome → State → Prop) (XC : String → State → State → Prop) (mc ms : Nat) (free : Addr → Prop), Q = vx_MQ below Qc XC args s mc ms free ∧ nC σ' - bC ≤ mc ∧ nS σ' - bS ≤ ms ∧ (∀ q : Nat, A q → free q) ∧
    ∀ (t : State) (ad' : Nat → Nat), k < 3 → xEnd D cA A adc ad σ σ' s t ad' → XC (xexn k) s t
def xGo (p : Program) (l : Launch) (e : Env) (R : Room) (s : State) (m : MethodId) (args : Array Value) (below : List Frame) (meth : Method) (c : Code) (Q : State → Prop) (D : va_G) (cA : Nat → ClassId) (A : Nat → Prop) (sv : Value) (adc : Nat → Nat) (y bC bS : Nat) (pc : Nat) (ls : XL) (st : List Value) (σ : XS) (r : XR) (σ' : XS) : Prop :=
  ∀ (ad : Nat → Nat) (H : Heap) (locs : List Loc) (lsA : Array Slot), xWf D cA A s adc ad σ H locs → lv_has lsA (yml y) (xreL ad sv ls) → bC ≤ nC σ → bS ≤ nS σ → nC σ' - bC ≤ R.cells → nS σ' - bS ≤ R.slots →
    xRet p l e R s m args below meth c Q D cA A sv adc y bC bS ad σ r σ' → xExc s args below Q D cA A adc bC bS ad σ r σ' → W p l e R s m args below meth c H locs (nC σ - bC) (nS σ - bS) Q (F0 m pc lsA (st.map (xre ad sv)))
def xctl : Instr → Bool
  | .goto _ => true
  | .goto_w _ => true
  | .ifCond _ _ => true
  | .if_icmp _ _ => true
  | .ifnull _ => true
  | .tableswitch _ _ _ _ => true
  | .lookupswitch _ _ => true
  | .ireturn => true
  | .lreturn => true
  | .freturn => true
  | .dreturn => true
  | .areturn => true
  | .return_ => true
  | .checkcast _ => true
  | .invokevirtual _ => true
  | .invokespecial _ => true
  | .invokestatic _ => true
  | _ => false
theorem xblk_simple {K : XK} {rt : Nat} {hd : List (Nat × Nat × Nat)} {J : Nat → XL → List Value → XS → XO} {Cc : Nat → List Value → XS → XO} {i : Instr} {is : List Instr} {ls : XL} {st : List Value} {σ : XS} (h : xctl i = false) :
    xblk K rt hd J Cc (i :: is) ls st σ = match xone K i ls st σ with
      | some (ls', st', σ') => xblk K rt hd J Cc is ls' st' σ'
      | none => none := by
  cases i <;> first | rfl | (cases h)
theorem xchk_simple {own nL : Nat} {ini : Bool} {b : ByteArray} {pcs : List Nat} {hh : List (Nat × Nat × Nat × Nat)} {pc : Nat} {i : Instr} {is : List Instr} (h : xctl i = false) :
    xchk own nL ini b pcs hh pc (i :: is) = match decode b pc with
      | .ok (a, n) => decide (xsim own nL ini a = some (i, n)) && xchk own nL ini b pcs hh (pc + n) is
      | _ => false := by
  cases i <;> first | rfl | (cases h)
theorem xtgt_ok {pcs : List Nat} {pc : Nat} {off L : Int} (h : xtgt pcs pc off L = true) : ∃ t, pcs[L.toNat]? = some t ∧ (pc : Int) + off = (t : Int) := by
  unfold xtgt at h
  cases hp : pcs[L.toNat]? with
  | none => rw [hp] at h; cases h
  | some t => rw [hp] at h; exact ⟨t, rfl, of_decide_eq_true h⟩
theorem xre_oke {n : Nat} {ad ad' : Nat → Nat} {sv : Value} (h : ∀ a, (a < n ∨ 1000000 ≤ a) → ad' a = ad a) {v : Value} (hv : xok n v = true) : xre ad' sv v = xre ad sv v := by
  cases v with
  | ref a =>
    unfold xok at hv
    simp only [Bool.or_eq_true, decide_eq_true_eq] at hv
    show Value.ref (ad' a) = Value.ref (ad a)
    rw [h a hv]
  | _ => rfl
section XBody
variable {p : Program} {l : Launch} {e : Env} {R : Room} {s : State} {m : MethodId} {args : Array Value} {below : List Frame} {meth : Method} {c : Code} {Q : State → Prop} {D : va_G} {cA : Nat → ClassId} {A : Nat → Prop} {sv : Value} {adc : Nat → Nat} {y bC bS pc : Nat}
theorem xRet.step {ad ad1 : Nat → Nat} {σ σ1 σ' : XS} {r : XR} (h : xRet p l e R s m args below meth c Q D cA A sv adc y bC bS ad σ r σ') (hx : xext σ σ1 ad ad1) (l1 : xle σ σ1) (l2 : xle σ1 σ') : xRet p l e R s m args below meth c Q D cA A sv adc y bC bS ad1 σ1 r σ' :=
  fun v ad' H' locs' pc' ls' rt h1 h2 h3 h4 h5 h6 => h v ad' H' locs' pc' ls' rt h1 h2 h3 h4 h5 (hx.tr h6 l1 l2)
theorem xExc.step {ad ad1 : Nat → Nat} {σ σ1 σ' : XS} {r : XR} (h : xExc s args below Q D cA A adc bC bS ad σ r σ') (hx : xext σ σ1 ad ad1) (l1 : xle σ σ1) (l2 : xle σ1 σ') : xExc s args below Q D cA A adc bC bS ad1 σ1 r σ' := by
  intro k hk
  obtain ⟨Qc, XC, mc, ms, free, h1, h2, h3, h4, h5⟩ := h k hk
  exact ⟨Qc, XC, mc, ms, free, h1, h2, h3, h4, fun t ad' hk3 ⟨e1, e2, e3, e4, e5⟩ => h5 t ad' hk3 ⟨e1, e2, e3, hx.tr e4 l1 l2, e5⟩⟩
variable {K : XK} {ls : XL} {st rs : List Value} {σ σ' : XS} {r : XR} {off L : Int} {t : Nat}
theorem xGo_goto (C : xCx p s m args meth c D cA A sv adc (yown y) (ycc y) (yml y) (xnm y)) (hd : decode (ycc y) pc = .ok (.goto off, 3)) (ht : (pc : Int) + off = (t : Int)) (k : xGo p l e R s m args below meth c Q D cA A sv adc y bC bS t ls st σ r σ') : xGo p l e R s m args below meth c Q D cA A sv adc y bC bS pc ls st σ r σ' := by
  intro ad H locs lsA h1 h2 h3 h4 h5 h6 h7 h8
  exact lv_goto C.1 C.2.1 hd ht (k ad H locs lsA h1 h2 h3 h4 h5 h6 h7 h8)
theorem xGo_if (C : xCx p s m args meth c D cA A sv adc (yown y) (ycc y) (yml y) (xnm y)) {cd : ClassFile.Cond} {x : Int32} {tO fO : XO} (hd : decode (ycc y) pc = .ok (.ifCond cd off, 3)) (ht : (pc : Int) + off = (t : Int)) (h : xbr cd x 0 tO fO = some (r, σ'))
    (kt : tO = some (r, σ') → xGo p l e R s m args below meth c Q D cA A sv adc y bC bS t ls rs σ r σ') (kf : fO = some (r, σ') → xGo p l e R s m args below meth c Q D cA A sv adc y bC bS (pc + 3) ls rs σ r σ') : xGo p l e R s m args below meth c Q D cA A sv adc y bC bS pc ls (.int x :: rs) σ r σ' := by
  intro ad H locs lsA h1 h2 h3 h4 h5 h6 h7 h8
  have kt' := fun q => kt q ad H locs lsA h1 h2 h3 h4 h5 h6 h7 h8
  have kf' := fun q => kf q ad H locs lsA h1 h2 h3 h4 h5 h6 h7 h8
  unfold xbr at h
  cases cd <;> dsimp only at h
  · exact lv_if_eq C.1 C.2.1 hd ht (fun q => kt' (by rwa [if_pos q] at h)) (fun q => kf' (by rwa [if_neg q] at h))
  · exact lv_if_ne C.1 C.2.1 hd ht (fun q => kt' (by rwa [if_neg q] at h)) (fun q => kf' (by first | rwa [if_pos q] at h | rwa [if_pos (Decidable.not_not.mp q)] at h))
  · exact lv_if_lt C.1 C.2.1 hd ht (fun q => kt' (by rwa [if_pos q] at h)) (fun q => kf' (by rwa [if_neg q] at h))
  · exact lv_if_ge C.1 C.2.1 hd ht (fun q => kt' (by rwa [if_pos q] at h)) (fun q => kf' (by rwa [if_neg q] at h))
  · exact lv_if_gt C.1 C.2.1 hd ht (fun q => kt' (by rwa [if_pos q] at h)) (fun q => kf' (by rwa [if_neg q] at h))
  · exact lv_if_le C.1 C.2.1 hd ht (fun q => kt' (by rwa [if_pos q] at h)) (fun q => kf' (by rwa [if_neg q] at h))
theorem xGo_icmp (C : xCx p s m args meth c D cA A sv adc (yown y) (ycc y) (yml y) (xnm y)) {cd : ClassFile.Cond} {x z : Int32} {tO fO : XO} (hd : decode (ycc y) pc = .ok (.if_icmp cd off, 3)) (ht : (pc : Int) + off = (t : Int)) (h : xbr cd x z tO fO = some (r, σ'))
    (kt : tO = some (r, σ') → xGo p l e R s m args below meth c Q D cA A sv adc y bC bS t ls rs σ r σ') (kf : fO = some (r, σ') → xGo p l e R s m args below meth c Q D cA A sv adc y bC bS (pc + 3) ls rs σ r σ') : xGo p l e R s m args below meth c Q D cA A sv adc y bC bS pc ls (.int z :: .int x :: rs) σ r σ' := by
  intro ad H locs lsA h1 h2 h3 h4 h5 h6 h7 h8
  have kt' := fun q => kt q ad H locs lsA h1 h2 h3 h4 h5 h6 h7 h8
  have kf' := fun q => kf q ad H locs lsA h1 h2 h3 h4 h5 h6 h7 h8
  unfold xbr at h
  cases cd <;> dsimp only at h
  · exact lv_icmp_eq C.1 C.2.1 hd ht (fun q => kt' (by rwa [if_pos q] at h)) (fun q => kf' (by rwa [if_neg q] at h))
  · exact lv_icmp_ne C.1 C.2.1 hd ht (fun q => kt' (by rwa [if_neg q] at h)) (fun q => kf' (by first | rwa [if_pos q] at h | rwa [if_pos (Decidable.not_not.mp q)] at h))
  · exact lv_icmp_lt C.1 C.2.1 hd ht (fun q => kt' (by rwa [if_pos q] at h)) (fun q => kf' (by rwa [if_neg q] at h))
  · exact lv_icmp_ge C.1 C.2.1 hd ht (fun q => kt' (by rwa [if_pos q] at h)) (fun q => kf' (by rwa [if_neg q] at h))
  · exact lv_icmp_gt C.1 C.2.1 hd ht (fun q => kt' (by rwa [if_pos q] at h)) (fun q => kf' (by rwa [if_neg q] at h))
  · exact lv_icmp_le C.1 C.2.1 hd ht (fun q => kt' (by rwa [if_pos q] at h)) (fun q => kf' (by rwa [if_neg q] at h))
theorem xGo_ifnull (C : xCx p s m args meth c D cA A sv adc (yown y) (ycc y) (yml y) (xnm y)) {a : Nat} (hd : decode (ycc y) pc = .ok (.ifnull off, 3)) (k : xGo p l e R s m args below meth c Q D cA A sv adc y bC bS (pc + 3) ls rs σ r σ') : xGo p l e R s m args below meth c Q D cA A sv adc y bC bS pc ls (.ref a :: rs) σ r σ' := by
  intro ad H locs lsA h1 h2 h3 h4 h5 h6 h7 h8
  exact lv_ifnull C.1 C.2.1 hd (k ad H locs lsA h1 h2 h3 h4 h5 h6 h7 h8)
theorem xGo_tabIn (C : xCx p s m args meth c D cA A sv adc (yown y) (ycc y) (yml y) (xnm y)) {x : Int32} {d lo hi : Int} {offs : Array Int} {len : Nat} (hd : decode (ycc y) pc = .ok (.tableswitch d lo hi offs, len)) (hi1 : lo ≤ x.toInt ∧ x.toInt ≤ hi) (ho : offs[(x.toInt - lo).toNat]? = some off) (ht : (pc : Int) + off = (t : Int)) (k : xGo p l e R s m args below meth c Q D cA A sv adc y bC bS t ls rs σ r σ') : xGo p l e R s m args below meth c Q D cA A sv adc y bC bS pc ls (.int x :: rs) σ r σ' := by
  intro ad H locs lsA h1 h2 h3 h4 h5 h6 h7 h8
  exact lv_tableIn C.1 C.2.1 hd (by omega) (by omega) ho ht (k ad H locs lsA h1 h2 h3 h4 h5 h6 h7 h8)
theorem xGo_tabOut (C : xCx p s m args meth c D cA A sv adc (yown y) (ycc y) (yml y) (xnm y)) {x : Int32} {d lo hi : Int} {offs : Array Int} {len : Nat} (hd : decode (ycc y) pc = .ok (.tableswitch d lo hi offs, len)) (hi1 : ¬ (lo ≤ x.toInt ∧ x.toInt ≤ hi)) (ht : (pc : Int) + d = (t : Int)) (k : xGo p l e R s m args below meth c Q D cA A sv adc y bC bS t ls rs σ r σ') : xGo p l e R s m args below meth c Q D cA A sv adc y bC bS pc ls (.int x :: rs) σ r σ' := by
  intro ad H locs lsA h1 h2 h3 h4 h5 h6 h7 h8
  exact lv_tableOut C.1 C.2.1 hd (by omega) ht (k ad H locs lsA h1 h2 h3 h4 h5 h6 h7 h8)
theorem xGo_look (C : xCx p s m args meth c D cA A sv adc (yown y) (ycc y) (yml y) (xnm y)) {x : Int32} {d : Int} {ps : Array (Int × Int)} {len : Nat} (hd : decode (ycc y) pc = .ok (.lookupswitch d ps, len)) (hs : (ps.toList.zip (ps.toList.drop 1)).all (fun (a, next) => a.1 < next.1) = true) (ho : Op.lookupswitch.offset ps.toList d x.toInt = off) (ht : (pc : Int) + off = (t : Int)) (k : xGo p l e R s m args below meth c Q D cA A sv adc y bC bS t ls rs σ r σ') : xGo p l e R s m args below meth c Q D cA A sv adc y bC bS pc ls (.int x :: rs) σ r σ' := by
  intro ad H locs lsA h1 h2 h3 h4 h5 h6 h7 h8
  exact lv_lookup C.1 C.2.1 hd hs ho ht (k ad H locs lsA h1 h2 h3 h4 h5 h6 h7 h8)
theorem xGo_ret (C : xCx p s m args meth c D cA A sv adc (yown y) (ycc y) (yml y) (xnm y)) {v : Option Value} {rt : Nat} (hz : ∃ z, xmt y = some z ∧ z.2.2.2.1 = rt) (hv : xrok rt v) (hd : decode (ycc y) pc = .ok (xri rt, 1)) : xGo p l e R s m args below meth c Q D cA A sv adc y bC bS pc ls v.toList σ (.inl v) σ := by
  intro ad H locs lsA h1 h2 h3 h4 h5 h6 h7 h8
  have := h7 v ad H locs pc lsA rt rfl hz hv hd h1 xext.rf
  cases v <;> exact this
theorem xGo_one (C : xCx p s m args meth c D cA A sv adc (yown y) (ycc y) (yml y) (xnm y)) {i a : Instr} {n : Nat} {ls' : XL} {st' : List Value} {σ1 : XS} (hsc : xSc K adc A s) (hR : 1 ≤ R.frames ∧ 30 ≤ R.locals) (hs : xsim (yown y) (yml y) (xinit y) a = some (i, n)) (hd : decode (ycc y) pc = .ok (a, n)) (h1 : xone K i ls st σ = some (ls', st', σ1)) (l2 : xle σ1 σ')
    (k : xGo p l e R s m args below meth c Q D cA A sv adc y bC bS (pc + n) ls' st' σ1 r σ') : xGo p l e R s m args below meth c Q D cA A sv adc y bC bS pc ls st σ r σ' := by
  intro ad H locs lsA g1 g2 g3 g4 g5 g6 g7 g8
  have l1 := xone_mono h1
  have a1 := l1.2.1
  have a2 := l1.2.2
  have a3 := l2.2.1
  have a4 := l2.2.2
  refine sim_ok (bC := bC) (bS := bS) hs C hsc hR (fun q => by unfold xinit at q; simpa using q) hd ls st σ ls' st' σ1 ad H locs lsA h1 g1 g2 ⟨g3, g4, by omega, by omega⟩ ?_
  intro ad' H' locs' lsA' k1 k2 k3
  exact k ad' H' locs' lsA' k1 k3 (by omega) (by omega) g5 g6 (g7.step k2 l1 l2) (g8.step k2 l1 l2)
end XBody
end
section
/-! Calls inside a body, throws, handlers. -/
theorem xhnd_split {own nL : Nat} {b : ByteArray} {pcs : List Nat} {E : Nat} : ∀ (hd : List (Nat × Nat × Nat)) (hh : List (Nat × Nat × Nat × Nat)), hd.length = hh.length → (hd.zip hh).all (xhok own nL b pcs) = true → ∀ h, hd.find? (fun h => h.1 == E) = some h →
    ∃ pre x suf, hh = pre ++ x :: suf ∧ xhok own nL b pcs (h, x) = true ∧ h.1 = E ∧ ∀ z ∈ pre, ∃ z', xhok own nL b pcs (z', z) = true ∧ z'.1 ≠ E := by
  intro hd
  induction hd with
  | nil => intro hh _ _ h hf; cases hf
  | cons a t ih =>
    intro hh hl ha h hf
    cases hh with
    | nil => cases hl
    | cons x hh =>
      rw [List.zip_cons_cons, List.all_cons, Bool.and_eq_true] at ha
      rw [List.find?_cons] at hf
      cases hc : (a.1 == E) with
      | true =>
        rw [hc] at hf
        cases hf
        exact ⟨[], x, hh, rfl, ha.1, by simpa using hc, fun z hz => by cases hz⟩
      | false =>
        rw [hc] at hf
        simp only [List.length_cons, Nat.add_right_cancel_iff] at hl
        obtain ⟨pre, x', suf, e1, e2, e3, e4⟩ := ih hh hl ha.2 h hf
        refine ⟨x :: pre, x', suf, by rw [e1]; rfl, e2, e3, fun z hz => ?_⟩
        rcases List.mem_cons.mp hz with rfl | hz
        · exact ⟨a, ha.1, by simpa using hc⟩
        · exact e4 z hz
theorem xhok_spec {own nL : Nat} {b : ByteArray} {pcs : List Nat} {E L x st en hp ct : Nat} (h : xhok own nL b pcs ((E, L, x), (st, en, hp, ct)) = true) : E < 3 ∧ ct ≠ 0 ∧ fdX own ct = some E ∧ x < nL ∧
    ((∃ k : Fin 4, decode b hp = .ok (.astore_n k, 1) ∧ (k : Nat) = x ∧ pcs[L]? = some (hp + 1)) ∨ (decode b hp = .ok (.astore x, 2) ∧ pcs[L]? = some (hp + 2))) := by
  unfold xhok at h
  simp only [Bool.and_eq_true, decide_eq_true_eq, Bool.not_eq_true', beq_eq_false_iff_ne, beq_iff_eq] at h
  obtain ⟨⟨⟨⟨h1, h2⟩, h3⟩, h4⟩, h5⟩ := h
  refine ⟨h1, h2, h3, h4, ?_⟩
  split at h5
  · rename_i k hk
    simp only [Bool.and_eq_true, beq_iff_eq] at h5
    exact Or.inl ⟨k, hk, h5.1, h5.2⟩
  · rename_i k hk
    simp only [Bool.and_eq_true, beq_iff_eq] at h5
    obtain ⟨rfl, h6⟩ := h5
    exact Or.inr ⟨hk, h6⟩
  · cases h5
theorem xcov_ok {hh : List (Nat × Nat × Nat × Nat)} {pc : Nat} (h : xcov hh pc = true) : ∀ x ∈ tableOf hh, covers x pc = true := by
  intro x hx
  unfold tableOf at hx
  obtain ⟨z, hz, rfl⟩ := List.mem_map.mp hx
  have := List.all_eq_true.mp h z hz
  exact this
section XExits
variable {p : Program} {l : Launch} {e : Env} {R : Room} {s : State} {m : MethodId} {args : Array Value} {below : List Frame} {meth : Method} {c : Code} {Q : State → Prop} {D : va_G} {cA : Nat → ClassId} {A : Nat → Prop} {sv : Value} {adc : Nat → Nat} {y bC bS pc : Nat}
variable {K : XK} {ls : XL} {st rs : List Value} {σ σ' : XS} {r : XR}
/-- behind a call that threw, where the method has a handler -/
theorem x_handle (C : xCx p s m args meth c D cA A sv adc (yown y) (ycc y) (yml y) (xnm y)) (htab : c.exceptionTable.toList = tableOf (yhh y)) {hd : List (Nat × Nat × Nat)} (hlen : hd.length = (yhh y).length) (hok : (hd.zip (yhh y)).all (xhok (yown y) (yml y) (ycc y) (ypcs y)) = true) (hcov : xcov (yhh y) pc = true)
    {E L x : Nat} (hf : hd.find? (fun h => h.1 == E) = some (E, L, x)) {H : Heap} {locs : List Loc} {lsA : Array Slot} {rest : List Value} {cells slots : Nat} {ad : Nat → Nat} {q : Nat} {ce : Cell} (hcell : H[q]? = some ce) (hcv : ce.vm = .none) (hcl : s.vm.findClass (xexn E) = some ce.cls) (hl : lv_has lsA (yml y) (xreL ad sv ls))
    (kk : ∀ (pc2 : Nat) (ls2 : Array Slot), (ypcs y)[L]? = some pc2 → lv_has ls2 (yml y) (xreL ad sv (xdel ls x 1)) → W p l e R s m args below meth c H locs cells slots Q (F0 m pc2 ls2 [])) : vx_W p l e R s m args below meth c H locs cells slots Q (F0 m pc lsA rest) q := by
  obtain ⟨hx, hb, hml, hown, hts, hK, hA, hE, hin⟩ := C
  obtain ⟨pre, z, suf, e1, e2, e3, e4⟩ := xhnd_split hd (yhh y) hlen hok _ hf
  obtain ⟨zs, ze, zh, zc⟩ := z
  obtain ⟨g1, g2, g3, g4, g5⟩ := xhok_spec e2
  have htb : c.exceptionTable.toList = tableOf pre ++ ⟨zs, ze, zh, zc⟩ :: tableOf suf := by
    rw [htab, e1]; unfold tableOf; rw [List.map_append, List.map_cons]
  have hcv2 := xcov_ok hcov
  have hsv := hE.2.2.2.2.2.2.2.2.2.2.2.1
  refine vx_catch (own := xow (yown y)) (name := xexn E) (E := xexn E) hown (tableOf pre) ⟨zs, ze, zh, zc⟩ (tableOf suf) htb (fun w hw => Or.inr ?_) (hcv2 _ (by rw [e1]; unfold tableOf; rw [List.map_append, List.map_cons]; exact List.mem_append_right _ List.mem_cons_self)) g2
    (hts _ (fdX_ok g3)) (va_Nw.use rfl (hE.2.2.2.2.2.2.2.2.2.1 _ (xcast_ok g1))) hcell hcv hcl ?_
  · unfold tableOf at hw
    obtain ⟨z', hz', rfl⟩ := List.mem_map.mp hw
    obtain ⟨⟨E2, L2, x2⟩, k1, k2⟩ := e4 z' hz'
    obtain ⟨s2, en2, hp2, ct2⟩ := z'
    obtain ⟨f1, f2, f3, -, -⟩ := xhok_spec k1
    exact ⟨f2, xexn E2, hts _ (fdX_ok f3), hE.2.2.2.2.2.2.2.2.2.2.1 E E2 g1 f1 (fun q => k2 q.symm)⟩
  · have hmono : ∀ lsB : Array Slot, lv_has lsB (yml y) ((x, Value.ref q) :: (xreL ad sv ls).filter (fun q => !(q.1 == x) && !(q.1 + 1 == x && q.2.category == 2))) → lv_has lsB (yml y) (xreL ad sv (xdel ls x 1)) := by
      intro lsB hB
      refine lv_mono hB (fun q hq => List.mem_cons_of_mem _ ?_)
      obtain ⟨r, hr, rfl⟩ := List.mem_map.mp hq
      obtain ⟨h1, h2⟩ := xdel_mem hr
      refine List.mem_filter.mpr ⟨List.mem_map.mpr ⟨r, h1, rfl⟩, ?_⟩
      dsimp only
      rw [xre_cat hsv]
      have h3 : r.2.category = 1 ∨ r.2.category = 2 := lv_cat r.2
      simp only [Bool.and_eq_true, Bool.not_eq_true', beq_eq_false_iff_ne, ne_eq, Bool.and_eq_false_iff]
      constructor
      · intro e; omega
      · by_cases e : r.1 + 1 = x
        · right; omega
        · left; exact e
    rcases g5 with ⟨k, d1, d2, d3⟩ | ⟨d1, d3⟩
    · exact lv_astore_n hx hb d1 d2 hl g4 rfl (fun lsB hB => kk _ lsB d3 (hmono lsB hB))
    · exact lv_astore hx hb d1 hl g4 rfl (fun lsB hB => kk _ lsB d3 (hmono lsB hB))
/-- a throw that no handler sees -/
theorem x_out (hlk : meth.locks = false) (htab : c.exceptionTable.toList = []) {ad ad' : Nat → Nat} {E : Nat} (hE3 : E < 3) (hexc : xExc s args below Q D cA A adc bC bS ad σ (.inr E) σ') {H : Heap} {locs : List Loc} {lsA : Array Slot} {rest : List Value} (hW : xWf D cA A s adc ad' σ' H locs) (hx : xext σ σ' ad ad')
    {q : Nat} {ce : Cell} (hcell : H[q]? = some ce) (hcv : ce.vm = .none) (hcl : s.vm.findClass (xexn E) = some ce.cls) : vx_W p l e R s m args below meth c H locs (nC σ' - bC) (nS σ' - bS) Q (F0 m pc lsA rest) q := by
  obtain ⟨Qc, XC, mc, ms, free, h1, h2, h3, h4, h5⟩ := hexc E rfl
  subst h1
  exact vx_out (by rw [htab]; intro x hx; cases hx) hlk hcell hcv hcl (fun t ht hv => h5 t ad' hE3 ⟨by rw [ht]; exact hW.1, hW.2.1, hW.2.2.2, hx, hW.2.2.1.F ht⟩) (fun z hz => h4 _ (hW.2.2.1.2.2 z hz)) h2 h3
/-- the throw itself -/
theorem x_throw (C : xCx p s m args meth c D cA A sv adc (yown y) (ycc y) (yml y) (xnm y)) (hl : l.stackTraces = false) (hlk : meth.locks = false) (htab : c.exceptionTable.toList = tableOf (yhh y)) (hR : 10 ≤ R.frames ∧ 100 ≤ R.locals) {E : Nat} (hh0 : yhh y = []) (hc : xchT (yown y) (ycc y) pc E = true) :
    xGo p l e R s m args below meth c Q D cA A sv adc y bC bS pc ls [] σ (.inr E) (σ.1, σ.2.1 + 1, σ.2.2.1, σ.2.2.2) := by
  intro ad H locs lsA hW h2 h3 h4 h5 h6 h7 h8
  obtain ⟨hx, hb, hml, hown, hts, hK, hA, hEn, hin⟩ := C
  unfold xchT at hc
  simp only [Bool.and_eq_true, decide_eq_true_eq, beq_iff_eq] at hc
  obtain ⟨⟨⟨⟨g1, g2⟩, g3⟩, g4⟩, g5⟩ := hc
  have ho : xow (yown y) = "BannerParade" := by rw [g1]; rfl
  rw [ho] at hown
  have hthr := xthr_ok g2
  unfold xthrE at hthr
  simp only [Bool.and_eq_true, List.all_eq_true] at hthr
  obtain ⟨⟨⟨⟨⟨⟨⟨t1, t2⟩, t3⟩, t4⟩, t5⟩, t6⟩, t7⟩, t8⟩ := hthr
  have hat : ∀ w ∈ vx_atS "BannerParade" (xthr.getD E (0, 0)).2 (xexn E) xsup, w.before args s = true := by
    intro w hw
    obtain ⟨⟨a1, a2⟩, a3⟩ := t4 w hw
    have hin9 : w ∈ lw_tbl := by
      rw [List.any_eq_true] at a1
      obtain ⟨u, hu, hu2⟩ := a1
      rw [decide_eq_true_eq] at hu2
      rw [← hu2]; exact hu
    rw [Bool.or_eq_true] at a2
    rcases a2 with a2 | a2
    · exact hts _ (List.mem_filter.mpr ⟨hin9, a2⟩)
    · have hm := hEn.2.2.2.2.2.2.2.2.2.1 w (List.mem_filter.mpr ⟨hin9, a2⟩)
      cases w with
      | declares x => exact va_Nw.use rfl hm
      | castable a b => exact va_Nw.use rfl hm
      | methodLinkNest a b c d => exact va_Nw.use rfl hm
      | fieldLinkNest a b c d e f => exact va_Nw.use rfl hm
      | _ => cases a2
  have hgood : ∀ w ∈ Cond.classLink "BannerParade" (xthr.getD E (0, 0)).1 (xexn E) :: Cond.initialized (xexn E) :: vx_atS "BannerParade" (xthr.getD E (0, 0)).2 (xexn E) xsup, vx_ot w = true := by
    intro w hw
    rcases List.mem_cons.mp hw with rfl | hw
    · exact t5
    · rcases List.mem_cons.mp hw with rfl | hw
      · exact t6
      · exact (t4 w hw).2
  obtain ⟨Qc, XC, mc, ms, free, q1, q2, q3, q4, q5⟩ := h8 E rfl
  subst q1
  have n1 : nC (σ.1, σ.2.1 + 1, σ.2.2.1, σ.2.2.2) = nC σ + 1 := by unfold nC; dsimp only; omega
  have n2 : nS (σ.1, σ.2.1 + 1, σ.2.2.1, σ.2.2.2) = nS σ + 6 := by unfold nS; dsimp only; omega
  rw [n1] at h5 q2
  rw [n2] at h6 q3
  have htb0 : c.exceptionTable.toList = [] := by rw [htab, hh0]; rfl
  have hxx : ∀ t : State, s.vm.Alike t.vm → H.size ≤ t.heap.size → (∀ q : Nat, q < H.size → t.heap[q]? = H[q]?) → XC (xexn E) s t := by
    intro t hv hsz hq
    refine q5 t ad g2 ⟨?_, hW.2.1, hW.2.2.2, fun _ _ => rfl, ?_⟩
    · exact va_P.kept hW.1 (fun k q hk => hq q.1 (hW.1 k q hk).lt)
    · obtain ⟨z1, z2, z3⟩ := hW.2.2.1
      exact ⟨Nat.le_trans z1 hsz, fun q hq1 hq2 => by rw [hq q (Nat.lt_of_lt_of_le hq1 z1)]; exact z2 q hq1 hq2⟩
  have hstr : ∀ {k j : Nat}, fdS (yown y) k = some j → vk_R "BannerParade" k (cpSx.getD j "") (adc (1000010 + j)) s := by
    intro k j hk
    have := hEn.2.2.2.2.2.2.1 _ (fdS_ok hk)
    dsimp only at this
    rw [ho] at this
    exact this
  have hz1 := hEn.2.2.2.2.2.2.2.1
  have hz2 := hEn.2.2.2.2.2.2.2.2.1
  have hfits : ∀ n ∈ xsup, Bundle.fit n = true := t8
  split at g5
  · rename_i k hk
    simp only [Bool.and_eq_true, decide_eq_true_eq] at g5
    obtain ⟨⟨s1, s2⟩, s3⟩ := g5
    obtain ⟨j, hj⟩ := Option.isSome_iff_exists.mp s1
    exact vx_throwS (names := xsup) (A := A) hx hb hl hown t7 hfits (hts _ (xat_in t1)) (hts _ (xat_in t2)) (hstr hj) hat hgood hz1 hz2 hW.2.2.1 (h2.1.trans hml.symm) g3 g4 hk s2 s3 (by rw [htb0]; intro x hx; cases hx) (by show 5 < _; omega) (by show 0 + (13 * 3 + 43) ≤ _; omega) (by omega) (by omega) hlk hxx (fun z hz => q4 _ (hW.2.2.1.2.2 z hz)) (by omega) (by omega)
  · rename_i k hk
    simp only [Bool.and_eq_true, decide_eq_true_eq] at g5
    obtain ⟨⟨s1, s2⟩, s3⟩ := g5
    obtain ⟨j, hj⟩ := Option.isSome_iff_exists.mp s1
    exact vx_throwSW (names := xsup) (A := A) hx hb hl hown t7 hfits (hts _ (xat_in t1)) (hts _ (xat_in t2)) (hstr hj) hat hgood hz1 hz2 hW.2.2.1 (h2.1.trans hml.symm) g3 g4 hk s2 s3 (by rw [htb0]; intro x hx; cases hx) (by show 5 < _; omega) (by show 0 + (13 * 3 + 43) ≤ _; omega) (by omega) (by omega) hlk hxx (fun z hz => q4 _ (hW.2.2.1.2.2 z hz)) (by omega) (by omega)
  · cases g5
end XExits
end
section
/-! A run of X is a run of the machine. -/
section XMain
variable {p : Program} {l : Launch} {e : Env} {R : Room} {s : State} {m : MethodId} {args : Array Value} {below : List Frame} {meth : Method} {c : Code} {Q : State → Prop} {D : va_G} {cA : Nat → ClassId} {A : Nat → Prop} {sv : Value} {adc : Nat → Nat} {y bC bS pc : Nat}
theorem xGo_call {hd : List (Nat × Nat × Nat)} {J : Nat → XL → List Value → XS → XO} {Cc : Nat → List Value → XS → XO} {ls : XL} {st : List Value} {σ σ' : XS} {r : XR} {y' : Nat} {k : List Value → XS → XO}
    (C : xCx p s m args meth c D cA A sv adc (yown y) (ycc y) (yml y) (xnm y)) (hlk : meth.locks = false) (htab : c.exceptionTable.toList = tableOf (yhh y)) (hlen : hd.length = (yhh y).length) (hok : (hd.zip (yhh y)).all (xhok (yown y) (yml y) (ycc y) (ypcs y)) = true) (hcov : xcov (yhh y) pc = true)
    (hmJ : ∀ (L : Nat) (ls : XL) (st : List Value) (σ : XS) (r : XR) (σ' : XS), J L ls st σ = some (r, σ') → xle σ σ') (hmC : ∀ (y : Nat) (args : List Value) (σ : XS) (r : XR) (σ' : XS), Cc y args σ = some (r, σ') → xle σ σ')
    (hmk : ∀ (st : List Value) (σ : XS) (r : XR) (σ' : XS), k st σ = some (r, σ') → xle σ σ')
    (hJ : ∀ (L : Nat) (ls : XL) (st : List Value) (σ : XS) (r : XR) (σ' : XS), J L ls st σ = some (r, σ') → ∀ pc2, (ypcs y)[L]? = some pc2 → xGo p l e R s m args below meth c Q D cA A sv adc y bC bS pc2 ls st σ r σ')
    (hrun : ∀ (na ml rc rt : Nat) (hd' : List (Nat × Nat × Nat)) (bs : List XB) (r1 : XR) (σ1 : XS) (ad : Nat → Nat) (H : Heap) (locs : List Loc) (lsA : Array Slot), xmt y' = some (na, ml, rc, rt, hd', bs) → na ≤ st.length → xrecv rc σ.1 (st.take na).reverse = true → xcat (st.drop na) ≤ 8 → xcat (st.take na).reverse ≤ ml → Cc y' (st.take na).reverse σ = some (r1, σ1) →
      xWf D cA A s adc ad σ H locs → lsA.size = yml y → nC σ - bC + (nC σ1 - nC σ) ≤ R.cells ∧ nS σ - bS + (nS σ1 - nS σ) ≤ R.slots →
      ∃ aa, vx_Run p l e R s m args below meth c H locs (nC σ - bC) (nS σ - bS) (nC σ1 - nC σ) (nS σ1 - nS σ) (F0 m pc lsA (st.map (xre ad sv))) ((st.drop na).map (xre ad sv)) (xQc D cA A sv adc ad σ σ1 r1 aa) (xXc D cA A adc ad σ σ1 r1) A)
    (hk : ∀ (st' : List Value) (σ1 : XS), k st' σ1 = some (r, σ') → xGo p l e R s m args below meth c Q D cA A sv adc y bC bS (pc + 3) ls st' σ1 r σ')
    (h : xcall Cc hd J y' ls st σ k = some (r, σ')) : xGo p l e R s m args below meth c Q D cA A sv adc y bC bS pc ls st σ r σ' := by
  intro ad H locs lsA hW hl b1 b2 b3 b4 hret hexc
  unfold xcall at h
  cases hm : xmt y' with
  | none => rw [hm] at h; cases h
  | some z =>
    obtain ⟨na, ml, rc, rt, hd', bs⟩ := z
    rw [hm] at h
    dsimp only at h
    split at h
    · rename_i hc4
      obtain ⟨c1, c2, c3, c4⟩ := hc4
      cases hC : Cc y' (st.take na).reverse σ with
      | none => rw [hC] at h; cases h
      | some z1 =>
        obtain ⟨r1, σ1⟩ := z1
        rw [hC] at h
        have m1 : xle σ σ1 := hmC _ _ _ _ _ hC
        have m1a := m1.2.1
        have m1b := m1.2.2
        have hnc : nC σ - bC + (nC σ1 - nC σ) = nC σ1 - bC := by omega
        have hns : nS σ - bS + (nS σ1 - nS σ) = nS σ1 - bS := by omega
        cases r1 with
        | inl v =>
          dsimp only at h
          split at h
          · rename_i hcond
            have m2 : xle σ1 σ' := hmk _ _ _ _ h
            have m2a := m2.2.1
            have m2b := m2.2.2
            obtain ⟨aa, run⟩ := hrun na ml rc rt hd' bs (.inl v) σ1 ad H locs lsA hm c1 c2 c3 c4 hC hW hl.1 ⟨by omega, by omega⟩
            refine x_after (σ1 := σ) run hW (fun v' ad' H' locs' e1 hW' hx => ?_) (fun k1 ad' H' locs' q ce e1 => by cases e1)
            cases e1
            rw [hnc, hns]
            have hall : (∀ q ∈ ls, xre ad' sv q.2 = xre ad sv q.2) ∧ ∀ q ∈ st.drop na, xre ad' sv q = xre ad sv q := by
              rcases hcond with hq | ⟨q1, q2⟩
              · have e2 : ad' = ad := funext fun a => hx a (by omega)
                subst e2
                exact ⟨fun _ _ => rfl, fun _ _ => rfl⟩
              · have hag : ∀ a, (a < σ.1.length ∨ 1000000 ≤ a) → ad' a = ad a := by
                  intro a ha
                  rcases ha with ha | ha
                  · exact hx a (Or.inl ha)
                  · rw [hW'.2.2.2 a ha, hW.2.2.2 a ha]
                exact ⟨fun q hq => xre_oke hag (List.all_eq_true.mp q1 q hq), fun q hq => xre_oke hag (List.all_eq_true.mp q2 q hq)⟩
            have hl' : lv_has lsA (yml y) (xreL ad' sv ls) := by
              have e2 : xreL ad' sv ls = xreL ad sv ls := List.map_congr_left (fun q hq => by rw [hall.1 q hq])
              rw [e2]; exact hl
            have := hk _ _ h ad' H' locs' lsA hW' hl' (by omega) (by omega) b3 b4 (hret.step hx m1 m2) (hexc.step hx m1 m2)
            rw [List.map_append, List.map_congr_left hall.2] at this
            cases v <;> exact this
          · cases h
        | inr E =>
          dsimp only at h
          split at h
          · rename_i E' L x hfd
            split at h
            · rename_i hlen2
              have m2 : xle σ1 σ' := hmJ _ _ _ _ _ _ h
              have m2a := m2.2.1
              have m2b := m2.2.2
              obtain ⟨aa, run⟩ := hrun na ml rc rt hd' bs (.inr E) σ1 ad H locs lsA hm c1 c2 c3 c4 hC hW hl.1 ⟨by omega, by omega⟩
              refine x_after (σ1 := σ) run hW (fun v' ad' H' locs' e1 => by cases e1) (fun k1 ad' H' locs' q ce e1 hk3 hW' hx hq hcv hcl => ?_)
              cases e1
              rw [hnc, hns]
              have e2 : ad' = ad := funext fun a => hx a (by omega)
              subst e2
              have hE' : E' = E := by
                have := List.find?_some hfd
                simpa using this
              subst hE'
              refine x_handle C htab hlen hok hcov hfd hq hcv hcl hl (fun pc2 ls2 hp2 hl2 => ?_)
              exact hJ _ _ _ _ _ _ h pc2 hp2 ad' H' locs' ls2 hW' hl2 (by omega) (by omega) b3 b4 (hret.step hx m1 m2) (hexc.step hx m1 m2)
            · cases h
          · rename_i hfd
            split at h
            · rename_i hemp
              cases h
              obtain ⟨aa, run⟩ := hrun na ml rc rt hd' bs (.inr E) σ' ad H locs lsA hm c1 c2 c3 c4 hC hW hl.1 ⟨by omega, by omega⟩
              refine x_after (σ1 := σ) run hW (fun v' ad' H' locs' e1 => by cases e1) (fun k1 ad' H' locs' q ce e1 hk3 hW' hx hq hcv hcl => ?_)
              cases e1
              rw [hnc, hns]
              have hnil : yhh y = [] := by
                have h0 : hd = [] := List.isEmpty_iff.mp hemp
                rw [h0] at hlen
                exact List.eq_nil_of_length_eq_zero hlen.symm
              exact x_out hlk (by rw [htab, hnil]; rfl) hk3 hexc hW' hx hq hcv hcl
            · cases h
    · cases h
set_option maxHeartbeats 2000000 in
theorem xblk_ok {d : Nat} {K : XK} {rt0 : Nat} {hd : List (Nat × Nat × Nat)} {J : Nat → XL → List Value → XS → XO} {Cc : Nat → List Value → XS → XO}
    (C : xCx p s m args meth c D cA A sv adc (yown y) (ycc y) (yml y) (xnm y)) (hsc : xSc K adc A s) (hst : l.stackTraces = false) (hlk : meth.locks = false) (htab : c.exceptionTable.toList = tableOf (yhh y)) (hR : d + 10 ≤ R.frames ∧ (d + 1) * 100 ≤ R.locals)
    (hlen : hd.length = (yhh y).length) (hok : (hd.zip (yhh y)).all (xhok (yown y) (yml y) (ycc y) (ypcs y)) = true) (hz : ∃ z, xmt y = some z ∧ z.2.2.2.1 = rt0) (hrk : rt0 ≤ 8)
    (hY : ∀ y, y < 398 → y ≠ 382 → xyok y = true ∧ xyw y = true)
    (hmJ : ∀ (L : Nat) (ls : XL) (st : List Value) (σ : XS) (r : XR) (σ' : XS), J L ls st σ = some (r, σ') → xle σ σ') (hmC : ∀ (y : Nat) (args : List Value) (σ : XS) (r : XR) (σ' : XS), Cc y args σ = some (r, σ') → xle σ σ')
    (hJ : ∀ (L : Nat) (ls : XL) (st : List Value) (σ : XS) (r : XR) (σ' : XS), J L ls st σ = some (r, σ') → ∀ pc2, (ypcs y)[L]? = some pc2 → xGo p l e R s m args below meth c Q D cA A sv adc y bC bS pc2 ls st σ r σ')
    (hC : ∀ (y' : Nat) (as : List Value) (σ : XS) (r : XR) (σ' : XS), y' < 398 → y' ≠ 382 → Cc y' as σ = some (r, σ') → xcat as ≤ yml y' → ∃ d', d = d' + 1 ∧ ∀ ad, xMt l D cA A sv adc ad d' y' as σ r σ') :
    ∀ (is : List Instr) (pc : Nat) (ls : XL) (st : List Value) (σ : XS) (r : XR) (σ' : XS), xchk (yown y) (yml y) (xinit y) (ycc y) (ypcs y) (yhh y) pc is = true → xblk K rt0 hd J Cc is ls st σ = some (r, σ') → xGo p l e R s m args below meth c Q D cA A sv adc y bC bS pc ls st σ r σ' := by
  intro is
  induction is with
  | nil => intro pc ls st σ r σ' _ h; cases h
  | cons i is ih =>
    intro pc ls st σ r σ' hc h
    have hmk : ∀ (ls : XL) (st : List Value) (σ : XS) (r : XR) (σ' : XS), xblk K rt0 hd J Cc is ls st σ = some (r, σ') → xle σ σ' := fun ls => xblk_mono hmJ hmC is ls
    cases hctl : xctl i with
    | false =>
      rw [xblk_simple hctl] at h
      rw [xchk_simple hctl] at hc
      split at hc
      · rename_i a n hdec
        simp only [Bool.and_eq_true, decide_eq_true_eq] at hc
        split at h
        · rename_i ls1 st1 σ1 hone
          exact xGo_one C hsc ⟨by omega, by omega⟩ hc.1 hdec hone (hmk _ _ _ _ _ h) (ih _ _ _ _ _ _ hc.2 h)
        · cases h
      · cases hc
    | true =>
      cases i <;> (try (cases hctl; done))
      case goto L =>
        unfold xchk at hc; dsimp only at hc
        unfold xblk at h; dsimp only at h
        split at hc
        · rename_i off hdec
          obtain ⟨t, ht1, ht2⟩ := xtgt_ok hc
          exact xGo_goto C hdec ht2 (hJ _ _ _ _ _ _ h t ht1)
        · cases hc
      case goto_w L =>
        unfold xchk at hc; dsimp only at hc
        unfold xblk at h; dsimp only at h
        exact hJ _ _ _ _ _ _ h pc (by simpa using hc)
      case ifCond cd L =>
        unfold xchk at hc; dsimp only at hc
        unfold xblk at h; dsimp only at h
        split at hc
        · rename_i cd' off hdec
          simp only [Bool.and_eq_true, decide_eq_true_eq] at hc
          obtain ⟨⟨rfl, hc2⟩, hc3⟩ := hc
          obtain ⟨t, ht1, ht2⟩ := xtgt_ok hc2
          split at h
          · rename_i x rs
            exact xGo_if C hdec ht2 h (fun q => hJ _ _ _ _ _ _ q t ht1) (fun q => ih _ _ _ _ _ _ hc3 q)
          · cases h
        · cases hc
      case if_icmp cd L =>
        unfold xchk at hc; dsimp only at hc
        unfold xblk at h; dsimp only at h
        split at hc
        · rename_i cd' off hdec
          simp only [Bool.and_eq_true, decide_eq_true_eq] at hc
          obtain ⟨⟨rfl, hc2⟩, hc3⟩ := hc
          obtain ⟨t, ht1, ht2⟩ := xtgt_ok hc2
          split at h
          · exact xGo_icmp C hdec ht2 h (fun q => hJ _ _ _ _ _ _ q t ht1) (fun q => ih _ _ _ _ _ _ hc3 q)
          · cases h
        · cases hc
      case ifnull L =>
        unfold xchk at hc; dsimp only at hc
        unfold xblk at h; dsimp only at h
        split at hc
        · rename_i off hdec
          split at h
          · exact xGo_ifnull C hdec (ih _ _ _ _ _ _ hc h)
          · cases h
        · cases hc
      case tableswitch d lo hi offs =>
        unfold xchk at hc; dsimp only at hc
        unfold xblk at h; dsimp only at h
        split at hc
        · rename_i d' lo' hi' offs' len hdec
          simp only [Bool.and_eq_true, beq_iff_eq] at hc
          obtain ⟨⟨⟨⟨rfl, rfl⟩, hc3⟩, hc4⟩, hc5⟩ := hc
          split at h
          · rename_i x rs
            split at h
            · rename_i hin
              split at h
              · rename_i L hL
                have hlt := (Array.getElem?_eq_some_iff.mp hL).1
                have ho' : ∃ off, offs'[(x.toInt - lo).toNat]? = some off := ⟨offs'[(x.toInt - lo).toNat]'(hc4 ▸ hlt), Array.getElem?_eq_getElem (hc4 ▸ hlt)⟩
                obtain ⟨off, hoff⟩ := ho'
                have hzip : (offs.toList.zip offs'.toList)[(x.toInt - lo).toNat]? = some (L, off) := by
                  rw [List.getElem?_zip_eq_some]
                  exact ⟨by rw [Array.getElem?_toList]; exact hL, by rw [Array.getElem?_toList]; exact hoff⟩
                obtain ⟨t, ht1, ht2⟩ := xtgt_ok (List.all_eq_true.mp hc5 _ (List.mem_of_getElem? hzip))
                exact xGo_tabIn C hdec hin hoff ht2 (hJ _ _ _ _ _ _ h t ht1)
              · cases h
            · rename_i hin
              obtain ⟨t, ht1, ht2⟩ := xtgt_ok hc3
              exact xGo_tabOut C hdec hin ht2 (hJ _ _ _ _ _ _ h t ht1)
          · cases h
        · cases hc
      case lookupswitch d ps =>
        unfold xchk at hc; dsimp only at hc
        unfold xblk at h; dsimp only at h
        split at hc
        · rename_i d' ps' len hdec
          simp only [Bool.and_eq_true, beq_iff_eq] at hc
          obtain ⟨⟨⟨hc1, hc2⟩, hc3⟩, hc4⟩ := hc
          have key : ∀ (l1 l2 : List (Int × Int)), l1.length = l2.length → ((l1.zip l2).all fun q => q.1.1 == q.2.1 && xtgt (ypcs y) pc q.2.2 q.1.2) = true → ∀ kx : Int,
              (∀ a L, l1.find? (fun q => q.1 == kx) = some (a, L) → ∃ off, l2.find? (fun q => q.1 == kx) = some (a, off) ∧ xtgt (ypcs y) pc off L = true) ∧ (l1.find? (fun q => q.1 == kx) = none → l2.find? (fun q => q.1 == kx) = none) := by
            intro l1
            induction l1 with
            | nil =>
              intro l2 hl _ kx
              have : l2 = [] := List.eq_nil_of_length_eq_zero hl.symm
              subst this
              exact ⟨(fun a L q => by cases q), (fun _ => rfl)⟩
            | cons a1 t1 ih1 =>
              intro l2 hl ha kx
              cases l2 with
              | nil => cases hl
              | cons a2 t2 =>
                rw [List.zip_cons_cons, List.all_cons, Bool.and_eq_true] at ha
                obtain ⟨ha1, ha2⟩ := ha
                simp only [Bool.and_eq_true, beq_iff_eq] at ha1
                simp only [List.length_cons, Nat.add_right_cancel_iff] at hl
                obtain ⟨i1, i2⟩ := ih1 t2 hl ha2 kx
                rw [List.find?_cons, List.find?_cons]
                cases hk : (a1.1 == kx) with
                | true =>
                  rw [← ha1.1, hk]
                  refine ⟨fun a L q => ?_, (fun q => by cases q)⟩
                  cases q
                  refine ⟨a2.2, ?_, ha1.2⟩
                  have h7 : a = a2.1 := ha1.1
                  show some a2 = some (a, a2.2)
                  rw [h7]
                | false =>
                  rw [← ha1.1, hk]
                  exact ⟨i1, i2⟩
          split at h
          · rename_i x rs
            obtain ⟨k1, k2⟩ := key ps.toList ps'.toList (by simpa using hc3) hc4 x.toInt
            split at h
            · rename_i a L hfd
              obtain ⟨off, hoff, hx⟩ := k1 a L hfd
              obtain ⟨t, ht1, ht2⟩ := xtgt_ok hx
              exact xGo_look C hdec hc2 (Op.lookupswitch.offset_some hoff) ht2 (hJ _ _ _ _ _ _ h t ht1)
            · rename_i hfd
              obtain ⟨t, ht1, ht2⟩ := xtgt_ok hc1
              exact xGo_look C hdec hc2 (Op.lookupswitch.offset_none (k2 hfd)) ht2 (hJ _ _ _ _ _ _ h t ht1)
          · cases h
        · cases hc
      case ireturn =>
        unfold xchk at hc; dsimp only at hc
        unfold xblk at h; dsimp only at h
        rw [decide_eq_true_eq] at hc
        split at h
        · rename_i v
          split at h
          · rename_i hv
            cases h
            have hi : rt0 = 1 ∨ rt0 = 2 ∨ rt0 = 3 ∨ rt0 = 4 := by
              match rt0, hv with
              | 1, _ => exact Or.inl rfl
              | 2, _ => exact Or.inr (Or.inl rfl)
              | 3, _ => exact Or.inr (Or.inr (Or.inl rfl))
              | 4, _ => exact Or.inr (Or.inr (Or.inr rfl))
            rcases hi with rfl | rfl | rfl | rfl <;> exact xGo_ret (v := some (.int v)) C hz hv hc
          · cases h
        · cases h
      case lreturn =>
        unfold xchk at hc; dsimp only at hc
        unfold xblk at h; dsimp only at h
        rw [decide_eq_true_eq] at hc
        split at h
        · rename_i v
          split at h
          · rename_i hv
            cases h; subst hv
            exact xGo_ret (v := some (.long v)) C hz trivial hc
          · cases h
        · cases h
      case freturn =>
        unfold xchk at hc; dsimp only at hc
        unfold xblk at h; dsimp only at h
        rw [decide_eq_true_eq] at hc
        split at h
        · rename_i v
          split at h
          · rename_i hv
            cases h; subst hv
            exact xGo_ret (v := some (.float v)) C hz trivial hc
          · cases h
        · cases h
      case dreturn =>
        unfold xchk at hc; dsimp only at hc
        unfold xblk at h; dsimp only at h
        rw [decide_eq_true_eq] at hc
        split at h
        · rename_i v
          split at h
          · rename_i hv
            cases h; subst hv
            exact xGo_ret (v := some (.double v)) C hz trivial hc
          · cases h
        · cases h
      case areturn =>
        unfold xchk at hc; dsimp only at hc
        unfold xblk at h; dsimp only at h
        rw [decide_eq_true_eq] at hc
        split at h
        · rename_i v
          split at h
          · rename_i hv
            cases h; subst hv
            exact xGo_ret (v := some (.ref v)) C hz trivial hc
          · cases h
        · cases h
      case return_ =>
        unfold xchk at hc; dsimp only at hc
        unfold xblk at h; dsimp only at h
        rw [decide_eq_true_eq] at hc
        split at h
        · split at h
          · rename_i hv
            cases h; subst hv
            exact xGo_ret (v := none) C hz trivial hc
          · cases h
        · cases h
      case checkcast E =>
        unfold xchk at hc; dsimp only at hc
        unfold xblk at h; dsimp only at h
        rw [Bool.and_eq_true] at hc
        split at h
        · split at h
          · cases h
            exact x_throw C hst hlk htab ⟨by omega, by omega⟩ (List.isEmpty_iff.mp hc.1) hc.2
          · cases h
        · cases h
      case invokevirtual y' =>
        unfold xchk at hc; dsimp only at hc
        unfold xblk at h; dsimp only at h
        split at hc
        · rename_i k hdec
          simp only [Bool.and_eq_true, beq_iff_eq, decide_eq_true_eq, Bool.not_eq_true', beq_eq_false_iff_ne] at hc
          obtain ⟨⟨⟨⟨⟨hc1, hc2⟩, hc3⟩, hc4⟩, hc5⟩, hc6⟩ := hc
          have hlink := fdM_ok hc1
          rw [if_pos rfl] at hlink
          refine xGo_call (k := fun st' σ' => xblk K rt0 hd J Cc is ls st' σ') C hlk htab hlen hok hc3 hmJ hmC (fun st σ r σ' q => hmk ls st σ r σ' q) hJ ?_ (fun st' σ1 q => ih _ _ _ _ _ _ hc6 q) h
          intro na ml rc rt hd' bs r1 σ1 ad H locs lsA g1 g2 g3 g4 g5 g6 g7 g8 g9
          obtain ⟨a1, a2⟩ := hY y' hc4 hc5
          obtain ⟨na1, ml1, rc1, rt1, hd1, bs1, hm1, v1, -⟩ := yok_spec a1
          rw [g1] at hm1; cases hm1
          obtain ⟨d', hd1, hM⟩ := hC y' _ _ _ _ hc4 hc5 g6 (by rw [← v1]; exact g5)
          exact x_runV C g7 a1 a2 g1 hc2 (hM ad) ⟨by omega, by omega⟩ hlink g2 g3 g4 hdec g8 g9
        · cases hc
      case invokespecial y' =>
        unfold xchk at hc; dsimp only at hc
        unfold xblk at h; dsimp only at h
        split at hc
        · rename_i k hdec
          simp only [Bool.and_eq_true, beq_iff_eq, decide_eq_true_eq, Bool.not_eq_true', beq_eq_false_iff_ne] at hc
          obtain ⟨⟨⟨⟨⟨hc1, hc2⟩, hc3⟩, hc4⟩, hc5⟩, hc6⟩ := hc
          obtain ⟨⟨y9, nest⟩, hfd, hy9⟩ := Option.map_eq_some_iff.mp hc1
          dsimp only at hy9
          subst hy9
          refine xGo_call (k := fun st' σ' => xblk K rt0 hd J Cc is ls st' σ') C hlk htab hlen hok hc3 hmJ hmC (fun st σ r σ' q => hmk ls st σ r σ' q) hJ ?_ (fun st' σ1 q => ih _ _ _ _ _ _ hc6 q) h
          intro na ml rc rt hd' bs r1 σ1 ad H locs lsA g1 g2 g3 g4 g5 g6 g7 g8 g9
          obtain ⟨a1, a2⟩ := hY y9 hc4 hc5
          obtain ⟨na1, ml1, rc1, rt1, hd1, bs1, hm1, v1, -⟩ := yok_spec a1
          rw [g1] at hm1; cases hm1
          obtain ⟨d', hd1, hM⟩ := hC y9 _ _ _ _ hc4 hc5 g6 (by rw [← v1]; exact g5)
          exact x_runI C g7 a1 a2 hc4 g1 hc2 (hM ad) ⟨by omega, by omega⟩ hfd g2 g3 g4 hdec g8 g9
        · cases hc
      case invokestatic y' =>
        unfold xchk at hc; dsimp only at hc
        unfold xblk at h; dsimp only at h
        split at hc
        · rename_i k hdec
          simp only [Bool.and_eq_true, beq_iff_eq, decide_eq_true_eq, Bool.not_eq_true', beq_eq_false_iff_ne] at hc
          obtain ⟨⟨⟨⟨⟨hc1, hc2⟩, hc3⟩, hc4⟩, hc5⟩, hc6⟩ := hc
          obtain ⟨⟨y9, nest⟩, hfd, hy9⟩ := Option.map_eq_some_iff.mp hc1
          dsimp only at hy9
          subst hy9
          refine xGo_call (k := fun st' σ' => xblk K rt0 hd J Cc is ls st' σ') C hlk htab hlen hok hc3 hmJ hmC (fun st σ r σ' q => hmk ls st σ r σ' q) hJ ?_ (fun st' σ1 q => ih _ _ _ _ _ _ hc6 q) h
          intro na ml rc rt hd' bs r1 σ1 ad H locs lsA g1 g2 g3 g4 g5 g6 g7 g8 g9
          obtain ⟨a1, a2⟩ := hY y9 hc4 hc5
          obtain ⟨na1, ml1, rc1, rt1, hd1, bs1, hm1, v1, -⟩ := yok_spec a1
          rw [g1] at hm1; cases hm1
          obtain ⟨d', hd1, hM⟩ := hC y9 _ _ _ _ hc4 hc5 g6 (by rw [← v1]; exact g5)
          exact x_runS C g7 a1 a2 g1 hc2 (hM ad) ⟨by omega, by omega⟩ hfd g2 g4 hdec g8 g9
        · cases hc
end XMain
end
section
/-! X is sound. -/
theorem xowns : ((List.range 398).all fun y => xow (yown y) == (xnm y).cls) = true := by decide +kernel
theorem xown_cls {y : Nat} (h : y < 398) : xow (yown y) = (xnm y).cls := by
  have := List.all_eq_true.mp xowns y (List.mem_range.mpr h)
  simpa using this
theorem xsl_len (vs : List Value) : (lg_sl vs).length = (vs.map fun v => v.category).sum := by
  induction vs with
  | nil => rfl
  | cons v t ih =>
    have e : lg_sl (v :: t) = (if v.category = 2 then [Slot.val v, .second] else [.val v]) ++ lg_sl t := rfl
    rw [e, List.length_append, ih, List.map_cons, List.sum_cons]
    rcases lv_cat v with h | h
    · rw [if_neg (by omega), h]; rfl
    · rw [if_pos h, h]; rfl
theorem xargs_re {ad : Nat → Nat} {sv : Value} (h : sv.category = 1) : ∀ (vs : List Value) (i : Nat), lv_args i (vs.map (xre ad sv)) = xreL ad sv (lv_args i vs) := by
  intro vs
  induction vs with
  | nil => intro i; rfl
  | cons v t ih =>
    intro i
    rw [List.map_cons]
    unfold lv_args
    rw [xre_cat h, ih]
    rfl
theorem x16 (a : UInt32) : a.toUInt16.toUInt32 = a % 65536 := by
  apply UInt32.toNat.inj
  simp
section XSound
variable {l : Launch} {y : MethodName} {ws ws' : List Cond} {rm : Room} {Pc : Array Value → State → Prop} {Qc : Array Value → State → Outcome → State → Prop} {XC : String → State → State → Prop} {mc ms : Nat} {free : Addr → Prop} {cc : ByteArray} {maxL : Nat} {ret : Option FieldType}
theorem x_ofW (hy : plainFor y = true) (hw : ws = Cond.code y cc maxL ret :: ws')
    (body : ∀ p e s m args below meth c s₁, BodyLoose p l y (headSpec ws rm) cc maxL ret e s m args below meth c s₁ → c.maxLocals = maxL → (∀ x ∈ c.exceptionTable.toList, False) → Pc args s →
      W p l e (headSpec ws rm).room s m args below meth c s.heap [] 0 0 (vx_MQ below Qc XC args s mc ms free) (entryFrame m args maxL)) : vx_Met l y ws rm Pc Qc XC mc ms free := by
  refine MetFree.of_bodySF (code := cc) (maxLocals := maxL) (ret := ret) hy ?_ ?_
  · intro args s m h hn
    obtain ⟨meth, c, h1, h2, h3, h4, h5, h6, -, -⟩ := Cond.code_spec hn (atoms_spec (ws := ws) h _ (by rw [hw]; exact List.mem_cons_self))
    exact ⟨meth, c, h1, h2, h3, h4, h5, h6⟩
  · intro p e s m args below meth c s₁ B hml hP _
    have hh0 : s₁.heap = s.heap := by rw [B.state]; rfl
    have ht : ∀ x ∈ c.exceptionTable.toList, False := by
      obtain ⟨meth9, c9, h1, h2, -, -, -, -, h7, -⟩ := Cond.code_spec B.named (atoms_spec (ws := ws) B.pre _ (by rw [hw]; exact List.mem_cons_self))
      cases Option.some.inj (h1.symm.trans B.method)
      cases Option.some.inj (h2.symm.trans (Stand.of_body B).code)
      intro x hx
      rw [Array.isEmpty_iff.mp h7] at hx
      cases hx
    obtain ⟨t, a1, o, b1, b2, b3⟩ := body p e s m args below meth c s₁ B hml ht hP s₁ hh0 (Stand.of_body B)
    exact ⟨t, o, a1, b1, b2, b3⟩
theorem x_ofWH {hh : List (Nat × Nat × Nat × Nat)} (hy : plainFor y = true) (hw : ws = Cond.codeWith y cc maxL ret hh :: ws')
    (body : ∀ p e s m args below meth c s₁, BodyLoose p l y (headSpec ws rm) cc maxL ret e s m args below meth c s₁ → c.maxLocals = maxL → Pc args s →
      W p l e (headSpec ws rm).room s m args below meth c s.heap [] 0 0 (vx_MQ below Qc XC args s mc ms free) (entryFrame m args maxL)) : vx_Met l y ws rm Pc Qc XC mc ms free := by
  refine MetFree.of_bodySF (code := cc) (maxLocals := maxL) (ret := ret) hy ?_ ?_
  · intro args s m h hn
    obtain ⟨m9, meth, c, hn9, h1, h2, h3, h4, -, h5, h6, -⟩ := Cond.codeWith_spec (atoms_spec (ws := ws) h _ (by rw [hw]; exact List.mem_cons_self))
    cases hn.symm.trans hn9
    exact ⟨meth, c, h1, h2, h3, h4, h5, h6⟩
  · intro p e s m args below meth c s₁ B hml hP _
    have hh0 : s₁.heap = s.heap := by rw [B.state]; rfl
    obtain ⟨t, a1, o, b1, b2, b3⟩ := body p e s m args below meth c s₁ B hml hP s₁ hh0 (Stand.of_body B)
    exact ⟨t, o, a1, b1, b2, b3⟩
end XSound
section XSound2
variable {l : Launch} {D : va_G} {cA : Nat → ClassId} {A : Nat → Prop} {sv : Value} {adc : Nat → Nat}
def xFrs (l : Launch) (D : va_G) (cA : Nat → ClassId) (A : Nat → Prop) (sv : Value) (adc : Nat → Nat) (n : Nat) : Prop :=
  ∀ (K : XK) (d y L : Nat) (ls : XL) (st : List Value) (σ : XS) (r : XR) (σ' : XS), xrun K n d y L ls st σ = some (r, σ') → xyok y = true → ∀ (p : Program) (e : Env) (R : Room) (s : State) (m : MethodId) (args : Array Value) (below : List Frame) (meth : Method) (c : Code) (Q : State → Prop) (bC bS pc : Nat),
    xCx p s m args meth c D cA A sv adc (yown y) (ycc y) (yml y) (xnm y) → xSc K adc A s → meth.locks = false → c.exceptionTable.toList = tableOf (yhh y) → (d + 10 ≤ R.frames ∧ (d + 1) * 100 ≤ R.locals) → (ypcs y)[L]? = some pc →
    xGo p l e R s m args below meth c Q D cA A sv adc y bC bS pc ls st σ r σ'
def xMets (l : Launch) (D : va_G) (cA : Nat → ClassId) (A : Nat → Prop) (sv : Value) (adc : Nat → Nat) (n : Nat) : Prop :=
  ∀ (d y : Nat) (as : List Value) (σ : XS) (r : XR) (σ' : XS), xrun xK0 n d y 0 (lv_args 0 as) [] σ = some (r, σ') → y < 398 → y ≠ 382 → xcat as ≤ yml y → ∀ ad, xMt l D cA A sv adc ad d y as σ r σ'
theorem xmet_of (hsv : sv.category = 1) (hst : l.stackTraces = false) (hY : ∀ y, y < 398 → y ≠ 382 → xyok y = true ∧ xyw y = true) {n : Nat} (h : xFrs l D cA A sv adc n) : xMets l D cA A sv adc n := by
  intro d y as σ r σ' hrun hy9 hy2 hcat ad
  obtain ⟨a1, a2⟩ := hY y hy9 hy2
  obtain ⟨na, ml, rc, rt, hd, bs, hm, v1, v2, v3, v4, v5, v6, v7, v8, v9, v10⟩ := yok_spec a1
  obtain ⟨na1, ml1, rc1, rt1, hd1, bs1, hm1, w1, w2, w3, w4, w5, w6, w7, w8, w9⟩ := yw_spec a2
  rw [hm] at hm1; cases hm1
  have hle : xle σ σ' := xrun_mono _ _ _ _ _ _ _ _ _ hrun
  have hla := hle.2.1
  have hlb := hle.2.2
  have body : ∀ (p : Program) (e : Env) (s : State) (m : MethodId) (args : Array Value) (below : List Frame) (meth : Method) (c : Code) (s₁ : State), BodyLoose p l (xnm y) (headSpec (xwsy y) (xrm d σ σ')) (ycc y) (yml y) (yret y) e s m args below meth c s₁ → c.maxLocals = yml y → c.exceptionTable.toList = tableOf (yhh y) →
      va_Pc (as.map (xre ad sv)) (xPre D cA A sv adc ad σ) args s → W p l e (headSpec (xwsy y) (xrm d σ σ')).room s m args below meth c s.heap [] 0 0 (vx_MQ below (xQc D cA A sv adc ad σ σ' r) (xXc D cA A adc ad σ σ' r) args s (nC σ' - nC σ) (nS σ' - nS σ) A) (entryFrame m args (yml y)) := by
    intro p e s m args below meth c s₁ B hml htab hPc
    obtain ⟨rfl, hP, hD, hK, hA, hE, hc⟩ := hPc
    have hts : ∀ w ∈ xWS, w.before ((as.map (xre ad sv)).toArray) s = true := fun w hw => atoms_spec (ws := xwsy y) B.pre w (List.mem_cons_of_mem _ hw)
    have C : xCx p s m ((as.map (xre ad sv)).toArray) meth c D cA A sv adc (yown y) (ycc y) (yml y) (xnm y) :=
      ⟨B.exec, B.bytes, hml, by rw [xown_cls hy9]; exact findClass_of_methodNamed B.named, hts, hK, hA, hE, (name_of_methodNamed B.named B.method).1⟩
    have hW : xWf D cA A s adc ad σ s.heap [] := ⟨hP, hD, va_S.rf, hc⟩
    have hlk : meth.locks = false := B.notSynchronized
    rw [lg_entry_eq]
    have hent := lv_entry (as.map (xre ad sv)) (n := yml y) (by rw [xsl_len, xcat_re hsv]; exact hcat)
    rw [xargs_re hsv] at hent
    have go := h xK0 d y 0 _ _ _ _ _ hrun a1 p e (xrm d σ σ') s m ((as.map (xre ad sv)).toArray) below meth c (vx_MQ below (xQc D cA A sv adc ad σ σ' r) (xXc D cA A adc ad σ σ' r) ((as.map (xre ad sv)).toArray) s (nC σ' - nC σ) (nS σ' - nS σ) A) (nC σ) (nS σ) 0 C (Or.inl rfl) hlk htab ⟨Nat.le_refl _, Nat.le_refl _⟩ v4
      ad s.heap [] _ hW hent (Nat.le_refl _) (Nat.le_refl _) (Nat.le_refl _) (Nat.le_refl _) ?_ ?_
    · rw [Nat.sub_self, Nat.sub_self] at go
      exact go
    · intro v ad' H' locs' pc' ls' rt' hr hz hv hd' hW' hx
      obtain ⟨z, hz1, hz2⟩ := hz
      rw [hm] at hz1; cases hz1
      dsimp only at hz2
      subst hz2
      have hq : ∀ t : State, t.heap = H' → s.WarmedH t.vm → ∀ w, w = v.map (xre ad' sv) → xQc D cA A sv adc ad σ σ' r ((as.map (xre ad sv)).toArray) s (.returned w) t := by
        intro t ht _ w hw
        exact ⟨v, ad', hr, by rw [hw], by rw [ht]; exact hW'.1, hW'.2.1, hW'.2.2.2, hx, hW'.2.2.1.F ht⟩
      have hfr : ∀ q ∈ locs', A q.base := hW'.2.2.1.2.2
      have hret := B.returns
      match rt, v, hv, hd', v3 with
      | 0, none, _, hd', v3 =>
        have h0 : yret y = none := by
          cases hh : yret y with
          | none => rfl
          | some t => rw [hh] at v3; unfold xrtk at v3; cases v3
        rw [h0] at hret
        exact vx_ret (W.vret C.1 C.2.1 hret (fun t h1 h2 => hq t h1 h2 _ rfl) hfr hd' hlk)
      | 5, some (.long x), _, hd', v3 =>
        have h0 : yret y = some .long := by unfold xrtk at v3; split at v3 <;> first | assumption | (cases v3; done) | (simp_all; done)
        rw [h0] at hret
        exact vx_ret (W.lret C.1 C.2.1 hret (fun t h1 h2 => hq t h1 h2 _ rfl) hfr hd' hlk)
      | 6, some (.float x), _, hd', v3 =>
        have h0 : yret y = some .float := by unfold xrtk at v3; split at v3 <;> first | assumption | (cases v3; done) | (simp_all; done)
        rw [h0] at hret
        exact vx_ret (W.fret C.1 C.2.1 hret (fun t h1 h2 => hq t h1 h2 _ rfl) hfr hd' hlk)
      | 7, some (.double x), _, hd', v3 =>
        have h0 : yret y = some .double := by unfold xrtk at v3; split at v3 <;> first | assumption | (cases v3; done) | (simp_all; done)
        rw [h0] at hret
        exact vx_ret (W.dret C.1 C.2.1 hret (fun t h1 h2 => hq t h1 h2 _ rfl) hfr hd' hlk)
      | 8, some (.ref x), _, hd', v3 =>
        have h0 : ∃ C, yret y = some (.object C) := by unfold xrtk at v3; split at v3 <;> first | exact ⟨_, rfl⟩ | exact ⟨_, by assumption⟩ | (cases v3; done) | (simp_all; done)
        obtain ⟨Cn, h0⟩ := h0
        rw [h0] at hret
        exact vx_ret (W.aret C.1 C.2.1 hret (Or.inl ⟨Cn, rfl⟩) (Or.inr ⟨_, rfl⟩) (fun t h1 h2 => hq t h1 h2 _ rfl) hfr hd' hlk)
      | 1, some (.int x), _, hd', v3 =>
        have h0 : yret y = some .int := by unfold xrtk at v3; split at v3 <;> first | assumption | (cases v3; done) | (simp_all; done)
        rw [h0] at hret
        exact vx_ret (W.iret C.1 C.2.1 hret (fun t h1 h2 => hq t h1 h2 _ rfl) hfr hd' hlk)
      | 2, some (.int x), hv, hd', v3 =>
        have h0 : yret y = some .boolean := by unfold xrtk at v3; split at v3 <;> first | assumption | (cases v3; done) | (simp_all; done)
        rw [h0] at hret
        have hx01 : x = 0 ∨ x = 1 := by
          have : (x == 0 || x == 1) = true := hv
          simpa using this
        refine vx_ret (W.zret C.1 C.2.1 hret ?_ (fun t h1 h2 => hq t h1 h2 _ rfl) hfr hd' hlk)
        rcases hx01 with rfl | rfl <;> decide
      | 3, some (.int x), hv, hd', v3 =>
        have h0 : yret y = some .byte := by unfold xrtk at v3; split at v3 <;> first | assumption | (cases v3; done) | (simp_all; done)
        rw [h0] at hret
        have hx01 : x = 0 := by
          have : (x == 0) = true := hv
          simpa using this
        refine vx_ret (W.zret C.1 C.2.1 hret ?_ (fun t h1 h2 => hq t h1 h2 _ rfl) hfr hd' hlk)
        subst hx01; decide
      | 4, some (.int x), hv, hd', v3 =>
        have h0 : yret y = some .char := by unfold xrtk at v3; split at v3 <;> first | assumption | (cases v3; done) | (simp_all; done)
        rw [h0] at hret
        have hx01 : (x.toUInt32 % 65536).toInt32 = x := by
          have : ((x.toUInt32 % 65536).toInt32 == x) = true := hv
          simpa using this
        refine vx_ret (W.zret C.1 C.2.1 hret ?_ (fun t h1 h2 => hq t h1 h2 _ rfl) hfr hd' hlk)
        show Value.int x.toUInt32.toUInt16.toUInt32.toInt32 = .int x
        rw [x16, hx01]
    · intro k hk
      exact ⟨_, _, _, _, A, rfl, Nat.le_refl _, Nat.le_refl _, fun _ h => h, fun t ad' hk3 he => ⟨k, ad', hk, hk3, rfl, he⟩⟩
  unfold xMt
  by_cases hh : yhh y = []
  · refine x_ofW (cc := ycc y) (maxL := yml y) (ret := yret y) (ws' := xWS) w5 (by unfold xwsy xhead; rw [if_pos hh]) ?_
    intro p e s m args below meth c s₁ B hml ht hPc
    refine body p e s m args below meth c s₁ B hml ?_ hPc
    rw [hh]
    exact List.eq_nil_iff_forall_not_mem.mpr ht
  · have hhd : xhead y = Cond.codeWith (xnm y) (ycc y) (yml y) (yret y) (yhh y) := by unfold xhead; rw [if_neg hh]
    refine x_ofWH (cc := ycc y) (maxL := yml y) (ret := yret y) (hh := yhh y) (ws' := xWS) w5 (by unfold xwsy; rw [hhd]) ?_
    intro p e s m args below meth c s₁ B hml hPc
    refine body p e s m args below meth c s₁ B hml ?_ hPc
    refine vx_table (x := xnm y) B (bytes := ycc y) (maxL' := yml y) (ret' := yret y) (atoms_spec (ws := xwsy y) B.pre _ ?_)
    unfold xwsy; rw [hhd]; exact List.mem_cons_self
theorem xsound (hsv : sv.category = 1) (hst : l.stackTraces = false) (hY : ∀ y, y < 398 → y ≠ 382 → xyok y = true ∧ xyw y = true) : ∀ n, xFrs l D cA A sv adc n := by
  intro n
  induction n with
  | zero => intro K d y L ls st σ r σ' h; cases h
  | succ n ih =>
    intro K d y L ls st σ r σ' h hy p e R s m args below meth c Q bC bS pc C hsc hlk htab hR hpc
    have hmet := xmet_of hsv hst hY ih
    obtain ⟨na, ml, rc, rt, hd, bs, hm, v1, v2, v3, v4, v5, v6, v7, v8, v9, v10⟩ := yok_spec hy
    unfold xrun at h
    rw [hm] at h
    dsimp only at h
    cases hb : bs[L]? with
    | none => rw [hb] at h; cases h
    | some q =>
      obtain ⟨lv, is⟩ := q
      rw [hb] at h
      dsimp only at h
      have hchk : xchk (yown y) (yml y) (xinit y) (ycc y) (ypcs y) (yhh y) pc is = true := by
        have hz : ((ypcs y).zip bs)[L]? = some (pc, (lv, is)) := by
          rw [List.getElem?_zip_eq_some]; exact ⟨hpc, hb⟩
        have := List.all_eq_true.mp v6 _ (List.mem_of_getElem? hz)
        rw [v1] at this
        exact this
      have hrk : rt ≤ 8 := by
        unfold xrtk at v3
        split at v3 <;> first | omega | (cases v3; done)
      have go := xblk_ok (d := d) (Q := Q) (bC := bC) (bS := bS) (R := R) (e := e) (below := below) C hsc hst hlk htab hR v7 (by rw [← v1]; exact v8) ⟨_, hm, rfl⟩ hrk hY (fun L ls st σ r σ' q => xrun_mono _ _ _ _ _ _ _ _ _ q) ?_ ?_ ?_ is pc (xnorm lv ls) st σ r σ' hchk h
      · intro ad H locs lsA h1 h2 h3 h4 h5 h6 h7 h8
        exact go ad H locs lsA h1 (xreL_norm h2 lv) h3 h4 h5 h6 h7 h8
      · intro y' as σ r σ' q
        cases d with
        | zero => cases q
        | succ d' => exact xrun_mono _ _ _ _ _ _ _ _ _ q
      · intro L ls st σ r σ' q pc2 hp2
        exact ih K d y L ls st σ r σ' q hy p e R s m args below meth c Q bC bS pc2 C hsc hlk htab hR hp2
      · intro y' as σ r σ' h9 h2 q hcat
        cases d with
        | zero => cases q
        | succ d' => exact ⟨d', rfl, fun ad => hmet d' y' as σ r σ' q h9 h2 hcat ad⟩
end XSound2
end
