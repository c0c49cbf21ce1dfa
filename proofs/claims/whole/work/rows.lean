section
-- ===== PART A: goes FIRST, ahead of the names: the tables' words, and 'selects' of the private methods out of them =====
/-- a private method of a class that the tables say can be made, by its rows of tables_1 -/
def lw_okq (q : MethodName × Nat) : Prop := (q.1.cls ≠ "java/lang/invoke/MethodHandle" ∧ q.1.cls ≠ "java/lang/invoke/VarHandle") ∧ Cond.instantiable q.1.cls q.2 ∈ tables_1 ∧ Cond.privateMethod q.1 ∈ tables_1 ∧ Cond.instanceMethod q.1 ∈ tables_1
theorem lw_p0 : lw_okq (⟨"java/lang/Throwable", "fillInStackTrace", "(I)Ljava/lang/Throwable;"⟩, 6) := ⟨⟨by decide +kernel, by decide +kernel⟩, List.mem_of_getElem? (i := 446) (by decide +kernel), List.mem_of_getElem? (i := 444) (by decide +kernel), List.mem_of_getElem? (i := 445) (by decide +kernel)⟩
theorem lw_p1 : lw_okq (⟨"BannerParade", "needLoaded", "()V"⟩, 8) := ⟨⟨by decide +kernel, by decide +kernel⟩, List.mem_of_getElem? (i := 28) (by decide +kernel), List.mem_of_getElem? (i := 684) (by decide +kernel), List.mem_of_getElem? (i := 685) (by decide +kernel)⟩
theorem lw_p2 : lw_okq (⟨"BannerParade", "standsWithReadWord", "()I"⟩, 8) := ⟨⟨by decide +kernel, by decide +kernel⟩, List.mem_of_getElem? (i := 28) (by decide +kernel), List.mem_of_getElem? (i := 715) (by decide +kernel), List.mem_of_getElem? (i := 716) (by decide +kernel)⟩
theorem lw_p3 : lw_okq (⟨"BannerParade", "standsThatSeeAny", "()I"⟩, 8) := ⟨⟨by decide +kernel, by decide +kernel⟩, List.mem_of_getElem? (i := 28) (by decide +kernel), List.mem_of_getElem? (i := 750) (by decide +kernel), List.mem_of_getElem? (i := 751) (by decide +kernel)⟩
theorem lw_p4 : lw_okq (⟨"BannerParade", "bearersSeenFrom", "(I)I"⟩, 8) := ⟨⟨by decide +kernel, by decide +kernel⟩, List.mem_of_getElem? (i := 28) (by decide +kernel), List.mem_of_getElem? (i := 754) (by decide +kernel), List.mem_of_getElem? (i := 755) (by decide +kernel)⟩
theorem lw_p5 : lw_okq (⟨"BannerParade", "needBearer", "(I)V"⟩, 8) := ⟨⟨by decide +kernel, by decide +kernel⟩, List.mem_of_getElem? (i := 28) (by decide +kernel), List.mem_of_getElem? (i := 779) (by decide +kernel), List.mem_of_getElem? (i := 780) (by decide +kernel)⟩
theorem lw_p6 : lw_okq (⟨"BannerParade", "standsThatSee", "(I)I"⟩, 8) := ⟨⟨by decide +kernel, by decide +kernel⟩, List.mem_of_getElem? (i := 28) (by decide +kernel), List.mem_of_getElem? (i := 789) (by decide +kernel), List.mem_of_getElem? (i := 790) (by decide +kernel)⟩
theorem lw_p7 : lw_okq (⟨"BannerParade", "needStand", "(I)V"⟩, 8) := ⟨⟨by decide +kernel, by decide +kernel⟩, List.mem_of_getElem? (i := 28) (by decide +kernel), List.mem_of_getElem? (i := 808) (by decide +kernel), List.mem_of_getElem? (i := 809) (by decide +kernel)⟩
theorem lw_p8 : lw_okq (⟨"BannerParade", "readNow", "(I)LBannerParade$Reading;"⟩, 8) := ⟨⟨by decide +kernel, by decide +kernel⟩, List.mem_of_getElem? (i := 28) (by decide +kernel), List.mem_of_getElem? (i := 812) (by decide +kernel), List.mem_of_getElem? (i := 813) (by decide +kernel)⟩
theorem lw_p9 : lw_okq (⟨"BannerParade", "readLater", "(I)LBannerParade$Reading;"⟩, 8) := ⟨⟨by decide +kernel, by decide +kernel⟩, List.mem_of_getElem? (i := 28) (by decide +kernel), List.mem_of_getElem? (i := 1102) (by decide +kernel), List.mem_of_getElem? (i := 1103) (by decide +kernel)⟩
theorem lw_p10 : lw_okq (⟨"BannerParade", "foresee", "(I)V"⟩, 8) := ⟨⟨by decide +kernel, by decide +kernel⟩, List.mem_of_getElem? (i := 28) (by decide +kernel), List.mem_of_getElem? (i := 1180) (by decide +kernel), List.mem_of_getElem? (i := 1181) (by decide +kernel)⟩
theorem lw_p11 : lw_okq (⟨"BannerParade", "ticksToDrop", "(I)I"⟩, 8) := ⟨⟨by decide +kernel, by decide +kernel⟩, List.mem_of_getElem? (i := 28) (by decide +kernel), List.mem_of_getElem? (i := 1212) (by decide +kernel), List.mem_of_getElem? (i := 1213) (by decide +kernel)⟩
theorem lw_p12 : lw_okq (⟨"BannerParade", "readWords", "()V"⟩, 8) := ⟨⟨by decide +kernel, by decide +kernel⟩, List.mem_of_getElem? (i := 28) (by decide +kernel), List.mem_of_getElem? (i := 1305) (by decide +kernel), List.mem_of_getElem? (i := 1306) (by decide +kernel)⟩
theorem lw_p13 : lw_okq (⟨"BannerParadeModel", "four", "(I)V"⟩, 22) := ⟨⟨by decide +kernel, by decide +kernel⟩, List.mem_of_getElem? (i := 1410) (by decide +kernel), List.mem_of_getElem? (i := 1491) (by decide +kernel), List.mem_of_getElem? (i := 1492) (by decide +kernel)⟩
theorem lw_p14 : lw_okq (⟨"BannerParadeModel", "may", "(ZZZ)Z"⟩, 22) := ⟨⟨by decide +kernel, by decide +kernel⟩, List.mem_of_getElem? (i := 1410) (by decide +kernel), List.mem_of_getElem? (i := 1514) (by decide +kernel), List.mem_of_getElem? (i := 1515) (by decide +kernel)⟩
theorem lw_p15 : lw_okq (⟨"BannerParadeModel", "reads", "()V"⟩, 22) := ⟨⟨by decide +kernel, by decide +kernel⟩, List.mem_of_getElem? (i := 1410) (by decide +kernel), List.mem_of_getElem? (i := 1521) (by decide +kernel), List.mem_of_getElem? (i := 1522) (by decide +kernel)⟩
def lw_privs_1 : List (MethodName × Nat) := [(⟨"java/lang/Throwable", "fillInStackTrace", "(I)Ljava/lang/Throwable;"⟩, 6), (⟨"BannerParade", "needLoaded", "()V"⟩, 8), (⟨"BannerParade", "standsWithReadWord", "()I"⟩, 8), (⟨"BannerParade", "standsThatSeeAny", "()I"⟩, 8), (⟨"BannerParade", "bearersSeenFrom", "(I)I"⟩, 8), (⟨"BannerParade", "needBearer", "(I)V"⟩, 8), (⟨"BannerParade", "standsThatSee", "(I)I"⟩, 8), (⟨"BannerParade", "needStand", "(I)V"⟩, 8), (⟨"BannerParade", "readNow", "(I)LBannerParade$Reading;"⟩, 8), (⟨"BannerParade", "readLater", "(I)LBannerParade$Reading;"⟩, 8), (⟨"BannerParade", "foresee", "(I)V"⟩, 8), (⟨"BannerParade", "ticksToDrop", "(I)I"⟩, 8), (⟨"BannerParade", "readWords", "()V"⟩, 8), (⟨"BannerParadeModel", "four", "(I)V"⟩, 22), (⟨"BannerParadeModel", "may", "(ZZZ)Z"⟩, 22), (⟨"BannerParadeModel", "reads", "()V"⟩, 22)]
theorem lw_r1 : ∀ q ∈ lw_privs_1, lw_okq q := List.forall_mem_cons.mpr ⟨lw_p0, List.forall_mem_cons.mpr ⟨lw_p1, List.forall_mem_cons.mpr ⟨lw_p2, List.forall_mem_cons.mpr ⟨lw_p3, List.forall_mem_cons.mpr ⟨lw_p4, List.forall_mem_cons.mpr ⟨lw_p5, List.forall_mem_cons.mpr ⟨lw_p6, List.forall_mem_cons.mpr ⟨lw_p7, List.forall_mem_cons.mpr ⟨lw_p8, List.forall_mem_cons.mpr ⟨lw_p9, List.forall_mem_cons.mpr ⟨lw_p10, List.forall_mem_cons.mpr ⟨lw_p11, List.forall_mem_cons.mpr ⟨lw_p12, List.forall_mem_cons.mpr ⟨lw_p13, List.forall_mem_cons.mpr ⟨lw_p14, List.forall_mem_cons.mpr ⟨lw_p15, fun _ h => absurd h List.not_mem_nil⟩⟩⟩⟩⟩⟩⟩⟩⟩⟩⟩⟩⟩⟩⟩⟩
theorem lw_p16 : lw_okq (⟨"BannerParadeModel", "next", "()V"⟩, 22) := ⟨⟨by decide +kernel, by decide +kernel⟩, List.mem_of_getElem? (i := 1410) (by decide +kernel), List.mem_of_getElem? (i := 1525) (by decide +kernel), List.mem_of_getElem? (i := 1526) (by decide +kernel)⟩
theorem lw_p17 : lw_okq (⟨"BannerParadeModel", "isLetter", "(I)Z"⟩, 22) := ⟨⟨by decide +kernel, by decide +kernel⟩, List.mem_of_getElem? (i := 1410) (by decide +kernel), List.mem_of_getElem? (i := 1529) (by decide +kernel), List.mem_of_getElem? (i := 1530) (by decide +kernel)⟩
theorem lw_p18 : lw_okq (⟨"BannerParadeModel", "isDigit", "(I)Z"⟩, 22) := ⟨⟨by decide +kernel, by decide +kernel⟩, List.mem_of_getElem? (i := 1410) (by decide +kernel), List.mem_of_getElem? (i := 1533) (by decide +kernel), List.mem_of_getElem? (i := 1534) (by decide +kernel)⟩
theorem lw_p19 : lw_okq (⟨"BannerParadeModel", "takes", "(Ljava/lang/String;)V"⟩, 22) := ⟨⟨by decide +kernel, by decide +kernel⟩, List.mem_of_getElem? (i := 1410) (by decide +kernel), List.mem_of_getElem? (i := 1538) (by decide +kernel), List.mem_of_getElem? (i := 1539) (by decide +kernel)⟩
theorem lw_p20 : lw_okq (⟨"BannerParadeModel", "isWord", "(Ljava/lang/String;)Z"⟩, 22) := ⟨⟨by decide +kernel, by decide +kernel⟩, List.mem_of_getElem? (i := 1410) (by decide +kernel), List.mem_of_getElem? (i := 1542) (by decide +kernel), List.mem_of_getElem? (i := 1543) (by decide +kernel)⟩
theorem lw_p21 : lw_okq (⟨"BannerParadeModel", "is", "(I)Z"⟩, 22) := ⟨⟨by decide +kernel, by decide +kernel⟩, List.mem_of_getElem? (i := 1410) (by decide +kernel), List.mem_of_getElem? (i := 1546) (by decide +kernel), List.mem_of_getElem? (i := 1547) (by decide +kernel)⟩
theorem lw_p22 : lw_okq (⟨"BannerParadeModel", "faults", "(I)V"⟩, 22) := ⟨⟨by decide +kernel, by decide +kernel⟩, List.mem_of_getElem? (i := 1410) (by decide +kernel), List.mem_of_getElem? (i := 1552) (by decide +kernel), List.mem_of_getElem? (i := 1553) (by decide +kernel)⟩
theorem lw_p23 : lw_okq (⟨"BannerParadeModel", "number", "(II)I"⟩, 22) := ⟨⟨by decide +kernel, by decide +kernel⟩, List.mem_of_getElem? (i := 1410) (by decide +kernel), List.mem_of_getElem? (i := 1562) (by decide +kernel), List.mem_of_getElem? (i := 1563) (by decide +kernel)⟩
theorem lw_p24 : lw_okq (⟨"BannerParadeModel", "readsBearer", "()V"⟩, 22) := ⟨⟨by decide +kernel, by decide +kernel⟩, List.mem_of_getElem? (i := 1410) (by decide +kernel), List.mem_of_getElem? (i := 1567) (by decide +kernel), List.mem_of_getElem? (i := 1568) (by decide +kernel)⟩
theorem lw_p25 : lw_okq (⟨"BannerParadeModel", "begins", "(II)Z"⟩, 22) := ⟨⟨by decide +kernel, by decide +kernel⟩, List.mem_of_getElem? (i := 1410) (by decide +kernel), List.mem_of_getElem? (i := 1571) (by decide +kernel), List.mem_of_getElem? (i := 1572) (by decide +kernel)⟩
theorem lw_p26 : lw_okq (⟨"BannerParadeModel", "letterHere", "()I"⟩, 22) := ⟨⟨by decide +kernel, by decide +kernel⟩, List.mem_of_getElem? (i := 1410) (by decide +kernel), List.mem_of_getElem? (i := 1575) (by decide +kernel), List.mem_of_getElem? (i := 1576) (by decide +kernel)⟩
theorem lw_p27 : lw_okq (⟨"BannerParadeModel", "put", "(III)V"⟩, 22) := ⟨⟨by decide +kernel, by decide +kernel⟩, List.mem_of_getElem? (i := 1410) (by decide +kernel), List.mem_of_getElem? (i := 1579) (by decide +kernel), List.mem_of_getElem? (i := 1580) (by decide +kernel)⟩
theorem lw_p28 : lw_okq (⟨"BannerParadeModel", "readsStand", "()V"⟩, 22) := ⟨⟨by decide +kernel, by decide +kernel⟩, List.mem_of_getElem? (i := 1410) (by decide +kernel), List.mem_of_getElem? (i := 1584) (by decide +kernel), List.mem_of_getElem? (i := 1585) (by decide +kernel)⟩
theorem lw_p29 : lw_okq (⟨"BannerParadeModel", "putStand", "(III)V"⟩, 22) := ⟨⟨by decide +kernel, by decide +kernel⟩, List.mem_of_getElem? (i := 1410) (by decide +kernel), List.mem_of_getElem? (i := 1590) (by decide +kernel), List.mem_of_getElem? (i := 1591) (by decide +kernel)⟩
theorem lw_p30 : lw_okq (⟨"BannerParadeModel", "readsPlan", "()V"⟩, 22) := ⟨⟨by decide +kernel, by decide +kernel⟩, List.mem_of_getElem? (i := 1410) (by decide +kernel), List.mem_of_getElem? (i := 1595) (by decide +kernel), List.mem_of_getElem? (i := 1596) (by decide +kernel)⟩
theorem lw_p31 : lw_okq (⟨"BannerParadeModel", "laysPlan", "(II)V"⟩, 22) := ⟨⟨by decide +kernel, by decide +kernel⟩, List.mem_of_getElem? (i := 1410) (by decide +kernel), List.mem_of_getElem? (i := 1599) (by decide +kernel), List.mem_of_getElem? (i := 1600) (by decide +kernel)⟩
def lw_privs_2 : List (MethodName × Nat) := [(⟨"BannerParadeModel", "next", "()V"⟩, 22), (⟨"BannerParadeModel", "isLetter", "(I)Z"⟩, 22), (⟨"BannerParadeModel", "isDigit", "(I)Z"⟩, 22), (⟨"BannerParadeModel", "takes", "(Ljava/lang/String;)V"⟩, 22), (⟨"BannerParadeModel", "isWord", "(Ljava/lang/String;)Z"⟩, 22), (⟨"BannerParadeModel", "is", "(I)Z"⟩, 22), (⟨"BannerParadeModel", "faults", "(I)V"⟩, 22), (⟨"BannerParadeModel", "number", "(II)I"⟩, 22), (⟨"BannerParadeModel", "readsBearer", "()V"⟩, 22), (⟨"BannerParadeModel", "begins", "(II)Z"⟩, 22), (⟨"BannerParadeModel", "letterHere", "()I"⟩, 22), (⟨"BannerParadeModel", "put", "(III)V"⟩, 22), (⟨"BannerParadeModel", "readsStand", "()V"⟩, 22), (⟨"BannerParadeModel", "putStand", "(III)V"⟩, 22), (⟨"BannerParadeModel", "readsPlan", "()V"⟩, 22), (⟨"BannerParadeModel", "laysPlan", "(II)V"⟩, 22)]
theorem lw_r2 : ∀ q ∈ lw_privs_2, lw_okq q := List.forall_mem_cons.mpr ⟨lw_p16, List.forall_mem_cons.mpr ⟨lw_p17, List.forall_mem_cons.mpr ⟨lw_p18, List.forall_mem_cons.mpr ⟨lw_p19, List.forall_mem_cons.mpr ⟨lw_p20, List.forall_mem_cons.mpr ⟨lw_p21, List.forall_mem_cons.mpr ⟨lw_p22, List.forall_mem_cons.mpr ⟨lw_p23, List.forall_mem_cons.mpr ⟨lw_p24, List.forall_mem_cons.mpr ⟨lw_p25, List.forall_mem_cons.mpr ⟨lw_p26, List.forall_mem_cons.mpr ⟨lw_p27, List.forall_mem_cons.mpr ⟨lw_p28, List.forall_mem_cons.mpr ⟨lw_p29, List.forall_mem_cons.mpr ⟨lw_p30, List.forall_mem_cons.mpr ⟨lw_p31, fun _ h => absurd h List.not_mem_nil⟩⟩⟩⟩⟩⟩⟩⟩⟩⟩⟩⟩⟩⟩⟩⟩
theorem lw_p32 : lw_okq (⟨"BannerParadeModel", "mayTwo", "(ZZ)Z"⟩, 22) := ⟨⟨by decide +kernel, by decide +kernel⟩, List.mem_of_getElem? (i := 1410) (by decide +kernel), List.mem_of_getElem? (i := 1607) (by decide +kernel), List.mem_of_getElem? (i := 1608) (by decide +kernel)⟩
theorem lw_p33 : lw_okq (⟨"BannerParadeModel", "carried", "()I"⟩, 22) := ⟨⟨by decide +kernel, by decide +kernel⟩, List.mem_of_getElem? (i := 1410) (by decide +kernel), List.mem_of_getElem? (i := 1611) (by decide +kernel), List.mem_of_getElem? (i := 1612) (by decide +kernel)⟩
theorem lw_p34 : lw_okq (⟨"BannerParadeModel", "of", "(II)I"⟩, 22) := ⟨⟨by decide +kernel, by decide +kernel⟩, List.mem_of_getElem? (i := 1410) (by decide +kernel), List.mem_of_getElem? (i := 1615) (by decide +kernel), List.mem_of_getElem? (i := 1616) (by decide +kernel)⟩
theorem lw_p35 : lw_okq (⟨"BannerParadeModel", "readMany", "()I"⟩, 22) := ⟨⟨by decide +kernel, by decide +kernel⟩, List.mem_of_getElem? (i := 1410) (by decide +kernel), List.mem_of_getElem? (i := 1619) (by decide +kernel), List.mem_of_getElem? (i := 1620) (by decide +kernel)⟩
theorem lw_p36 : lw_okq (⟨"BannerParadeModel", "ofStand", "(II)I"⟩, 22) := ⟨⟨by decide +kernel, by decide +kernel⟩, List.mem_of_getElem? (i := 1410) (by decide +kernel), List.mem_of_getElem? (i := 1623) (by decide +kernel), List.mem_of_getElem? (i := 1624) (by decide +kernel)⟩
theorem lw_p37 : lw_okq (⟨"BannerParadeModel", "coming", "()I"⟩, 22) := ⟨⟨by decide +kernel, by decide +kernel⟩, List.mem_of_getElem? (i := 1410) (by decide +kernel), List.mem_of_getElem? (i := 1627) (by decide +kernel), List.mem_of_getElem? (i := 1628) (by decide +kernel)⟩
theorem lw_p38 : lw_okq (⟨"BannerParadeModel", "ofPlan", "(II)I"⟩, 22) := ⟨⟨by decide +kernel, by decide +kernel⟩, List.mem_of_getElem? (i := 1410) (by decide +kernel), List.mem_of_getElem? (i := 1631) (by decide +kernel), List.mem_of_getElem? (i := 1632) (by decide +kernel)⟩
theorem lw_p39 : lw_okq (⟨"BannerParadeModel", "withoutStrength", "()I"⟩, 22) := ⟨⟨by decide +kernel, by decide +kernel⟩, List.mem_of_getElem? (i := 1410) (by decide +kernel), List.mem_of_getElem? (i := 1635) (by decide +kernel), List.mem_of_getElem? (i := 1636) (by decide +kernel)⟩
theorem lw_p40 : lw_okq (⟨"BannerParadeModel", "withOwn", "()I"⟩, 22) := ⟨⟨by decide +kernel, by decide +kernel⟩, List.mem_of_getElem? (i := 1410) (by decide +kernel), List.mem_of_getElem? (i := 1639) (by decide +kernel), List.mem_of_getElem? (i := 1640) (by decide +kernel)⟩
theorem lw_p41 : lw_okq (⟨"BannerParadeModel", "close", "()I"⟩, 22) := ⟨⟨by decide +kernel, by decide +kernel⟩, List.mem_of_getElem? (i := 1410) (by decide +kernel), List.mem_of_getElem? (i := 1643) (by decide +kernel), List.mem_of_getElem? (i := 1644) (by decide +kernel)⟩
theorem lw_p42 : lw_okq (⟨"BannerParadeModel", "distance", "(I)I"⟩, 22) := ⟨⟨by decide +kernel, by decide +kernel⟩, List.mem_of_getElem? (i := 1410) (by decide +kernel), List.mem_of_getElem? (i := 1647) (by decide +kernel), List.mem_of_getElem? (i := 1648) (by decide +kernel)⟩
theorem lw_p43 : lw_okq (⟨"BannerParadeModel", "strides", "()I"⟩, 22) := ⟨⟨by decide +kernel, by decide +kernel⟩, List.mem_of_getElem? (i := 1410) (by decide +kernel), List.mem_of_getElem? (i := 1651) (by decide +kernel), List.mem_of_getElem? (i := 1652) (by decide +kernel)⟩
theorem lw_p44 : lw_okq (⟨"BannerParadeModel", "stride", "(I)I"⟩, 22) := ⟨⟨by decide +kernel, by decide +kernel⟩, List.mem_of_getElem? (i := 1410) (by decide +kernel), List.mem_of_getElem? (i := 1655) (by decide +kernel), List.mem_of_getElem? (i := 1656) (by decide +kernel)⟩
theorem lw_p45 : lw_okq (⟨"BannerParadeModel", "seeing", "()I"⟩, 22) := ⟨⟨by decide +kernel, by decide +kernel⟩, List.mem_of_getElem? (i := 1410) (by decide +kernel), List.mem_of_getElem? (i := 1660) (by decide +kernel), List.mem_of_getElem? (i := 1661) (by decide +kernel)⟩
theorem lw_p46 : lw_okq (⟨"BannerParadeModel", "seenSet", "(I)I"⟩, 22) := ⟨⟨by decide +kernel, by decide +kernel⟩, List.mem_of_getElem? (i := 1410) (by decide +kernel), List.mem_of_getElem? (i := 1664) (by decide +kernel), List.mem_of_getElem? (i := 1665) (by decide +kernel)⟩
theorem lw_p47 : lw_okq (⟨"BannerParadeModel", "sees", "(II)Z"⟩, 22) := ⟨⟨by decide +kernel, by decide +kernel⟩, List.mem_of_getElem? (i := 1410) (by decide +kernel), List.mem_of_getElem? (i := 1668) (by decide +kernel), List.mem_of_getElem? (i := 1669) (by decide +kernel)⟩
def lw_privs_3 : List (MethodName × Nat) := [(⟨"BannerParadeModel", "mayTwo", "(ZZ)Z"⟩, 22), (⟨"BannerParadeModel", "carried", "()I"⟩, 22), (⟨"BannerParadeModel", "of", "(II)I"⟩, 22), (⟨"BannerParadeModel", "readMany", "()I"⟩, 22), (⟨"BannerParadeModel", "ofStand", "(II)I"⟩, 22), (⟨"BannerParadeModel", "coming", "()I"⟩, 22), (⟨"BannerParadeModel", "ofPlan", "(II)I"⟩, 22), (⟨"BannerParadeModel", "withoutStrength", "()I"⟩, 22), (⟨"BannerParadeModel", "withOwn", "()I"⟩, 22), (⟨"BannerParadeModel", "close", "()I"⟩, 22), (⟨"BannerParadeModel", "distance", "(I)I"⟩, 22), (⟨"BannerParadeModel", "strides", "()I"⟩, 22), (⟨"BannerParadeModel", "stride", "(I)I"⟩, 22), (⟨"BannerParadeModel", "seeing", "()I"⟩, 22), (⟨"BannerParadeModel", "seenSet", "(I)I"⟩, 22), (⟨"BannerParadeModel", "sees", "(II)Z"⟩, 22)]
theorem lw_r3 : ∀ q ∈ lw_privs_3, lw_okq q := List.forall_mem_cons.mpr ⟨lw_p32, List.forall_mem_cons.mpr ⟨lw_p33, List.forall_mem_cons.mpr ⟨lw_p34, List.forall_mem_cons.mpr ⟨lw_p35, List.forall_mem_cons.mpr ⟨lw_p36, List.forall_mem_cons.mpr ⟨lw_p37, List.forall_mem_cons.mpr ⟨lw_p38, List.forall_mem_cons.mpr ⟨lw_p39, List.forall_mem_cons.mpr ⟨lw_p40, List.forall_mem_cons.mpr ⟨lw_p41, List.forall_mem_cons.mpr ⟨lw_p42, List.forall_mem_cons.mpr ⟨lw_p43, List.forall_mem_cons.mpr ⟨lw_p44, List.forall_mem_cons.mpr ⟨lw_p45, List.forall_mem_cons.mpr ⟨lw_p46, List.forall_mem_cons.mpr ⟨lw_p47, fun _ h => absurd h List.not_mem_nil⟩⟩⟩⟩⟩⟩⟩⟩⟩⟩⟩⟩⟩⟩⟩⟩
theorem lw_p48 : lw_okq (⟨"BannerParadeModel", "mayWith", "(IZ)Z"⟩, 22) := ⟨⟨by decide +kernel, by decide +kernel⟩, List.mem_of_getElem? (i := 1410) (by decide +kernel), List.mem_of_getElem? (i := 1681) (by decide +kernel), List.mem_of_getElem? (i := 1682) (by decide +kernel)⟩
theorem lw_p49 : lw_okq (⟨"BannerParadeModel", "isBearer", "(I)Z"⟩, 22) := ⟨⟨by decide +kernel, by decide +kernel⟩, List.mem_of_getElem? (i := 1410) (by decide +kernel), List.mem_of_getElem? (i := 1685) (by decide +kernel), List.mem_of_getElem? (i := 1686) (by decide +kernel)⟩
theorem lw_p50 : lw_okq (⟨"BannerParadeModel", "seersOf", "(I)I"⟩, 22) := ⟨⟨by decide +kernel, by decide +kernel⟩, List.mem_of_getElem? (i := 1410) (by decide +kernel), List.mem_of_getElem? (i := 1689) (by decide +kernel), List.mem_of_getElem? (i := 1690) (by decide +kernel)⟩
theorem lw_p51 : lw_okq (⟨"BannerParadeModel", "weaker", "(I)I"⟩, 22) := ⟨⟨by decide +kernel, by decide +kernel⟩, List.mem_of_getElem? (i := 1410) (by decide +kernel), List.mem_of_getElem? (i := 1693) (by decide +kernel), List.mem_of_getElem? (i := 1694) (by decide +kernel)⟩
theorem lw_p52 : lw_okq (⟨"BannerParadeModel", "lyingIn", "(II)I"⟩, 22) := ⟨⟨by decide +kernel, by decide +kernel⟩, List.mem_of_getElem? (i := 1410) (by decide +kernel), List.mem_of_getElem? (i := 1697) (by decide +kernel), List.mem_of_getElem? (i := 1698) (by decide +kernel)⟩
theorem lw_p53 : lw_okq (⟨"BannerParadeModel", "ofLying", "(II)I"⟩, 22) := ⟨⟨by decide +kernel, by decide +kernel⟩, List.mem_of_getElem? (i := 1410) (by decide +kernel), List.mem_of_getElem? (i := 1701) (by decide +kernel), List.mem_of_getElem? (i := 1702) (by decide +kernel)⟩
theorem lw_p54 : lw_okq (⟨"BannerParadeModel", "isStand", "(I)Z"⟩, 22) := ⟨⟨by decide +kernel, by decide +kernel⟩, List.mem_of_getElem? (i := 1410) (by decide +kernel), List.mem_of_getElem? (i := 1709) (by decide +kernel), List.mem_of_getElem? (i := 1710) (by decide +kernel)⟩
theorem lw_p55 : lw_okq (⟨"BannerParadeModel", "textLength", "(I)I"⟩, 22) := ⟨⟨by decide +kernel, by decide +kernel⟩, List.mem_of_getElem? (i := 1410) (by decide +kernel), List.mem_of_getElem? (i := 1716) (by decide +kernel), List.mem_of_getElem? (i := 1717) (by decide +kernel)⟩
theorem lw_p56 : lw_okq (⟨"BannerParadeModel", "laysText", "(I)V"⟩, 22) := ⟨⟨by decide +kernel, by decide +kernel⟩, List.mem_of_getElem? (i := 1410) (by decide +kernel), List.mem_of_getElem? (i := 1720) (by decide +kernel), List.mem_of_getElem? (i := 1721) (by decide +kernel)⟩
theorem lw_p57 : lw_okq (⟨"BannerParadeModel", "laysByte", "(I)V"⟩, 22) := ⟨⟨by decide +kernel, by decide +kernel⟩, List.mem_of_getElem? (i := 1410) (by decide +kernel), List.mem_of_getElem? (i := 1724) (by decide +kernel), List.mem_of_getElem? (i := 1725) (by decide +kernel)⟩
theorem lw_p58 : lw_okq (⟨"BannerParadeModel", "nearest", "(I)I"⟩, 22) := ⟨⟨by decide +kernel, by decide +kernel⟩, List.mem_of_getElem? (i := 1410) (by decide +kernel), List.mem_of_getElem? (i := 1728) (by decide +kernel), List.mem_of_getElem? (i := 1729) (by decide +kernel)⟩
theorem lw_p59 : lw_okq (⟨"BannerParadeModel", "beyond", "(I)I"⟩, 22) := ⟨⟨by decide +kernel, by decide +kernel⟩, List.mem_of_getElem? (i := 1410) (by decide +kernel), List.mem_of_getElem? (i := 1733) (by decide +kernel), List.mem_of_getElem? (i := 1734) (by decide +kernel)⟩
theorem lw_p60 : lw_okq (⟨"BannerParadeModel", "ahead", "(I)I"⟩, 22) := ⟨⟨by decide +kernel, by decide +kernel⟩, List.mem_of_getElem? (i := 1410) (by decide +kernel), List.mem_of_getElem? (i := 1737) (by decide +kernel), List.mem_of_getElem? (i := 1738) (by decide +kernel)⟩
theorem lw_p61 : lw_okq (⟨"BannerParadeModel", "mayStand", "(I)Z"⟩, 22) := ⟨⟨by decide +kernel, by decide +kernel⟩, List.mem_of_getElem? (i := 1410) (by decide +kernel), List.mem_of_getElem? (i := 1753) (by decide +kernel), List.mem_of_getElem? (i := 1754) (by decide +kernel)⟩
theorem lw_p62 : lw_okq (⟨"BannerParadeModel", "matching", "(I)I"⟩, 22) := ⟨⟨by decide +kernel, by decide +kernel⟩, List.mem_of_getElem? (i := 1410) (by decide +kernel), List.mem_of_getElem? (i := 1769) (by decide +kernel), List.mem_of_getElem? (i := 1770) (by decide +kernel)⟩
theorem lw_p63 : lw_okq (⟨"BannerParadeModel", "readsWord", "(I)Z"⟩, 22) := ⟨⟨by decide +kernel, by decide +kernel⟩, List.mem_of_getElem? (i := 1410) (by decide +kernel), List.mem_of_getElem? (i := 1777) (by decide +kernel), List.mem_of_getElem? (i := 1778) (by decide +kernel)⟩
def lw_privs_4 : List (MethodName × Nat) := [(⟨"BannerParadeModel", "mayWith", "(IZ)Z"⟩, 22), (⟨"BannerParadeModel", "isBearer", "(I)Z"⟩, 22), (⟨"BannerParadeModel", "seersOf", "(I)I"⟩, 22), (⟨"BannerParadeModel", "weaker", "(I)I"⟩, 22), (⟨"BannerParadeModel", "lyingIn", "(II)I"⟩, 22), (⟨"BannerParadeModel", "ofLying", "(II)I"⟩, 22), (⟨"BannerParadeModel", "isStand", "(I)Z"⟩, 22), (⟨"BannerParadeModel", "textLength", "(I)I"⟩, 22), (⟨"BannerParadeModel", "laysText", "(I)V"⟩, 22), (⟨"BannerParadeModel", "laysByte", "(I)V"⟩, 22), (⟨"BannerParadeModel", "nearest", "(I)I"⟩, 22), (⟨"BannerParadeModel", "beyond", "(I)I"⟩, 22), (⟨"BannerParadeModel", "ahead", "(I)I"⟩, 22), (⟨"BannerParadeModel", "mayStand", "(I)Z"⟩, 22), (⟨"BannerParadeModel", "matching", "(I)I"⟩, 22), (⟨"BannerParadeModel", "readsWord", "(I)Z"⟩, 22)]
theorem lw_r4 : ∀ q ∈ lw_privs_4, lw_okq q := List.forall_mem_cons.mpr ⟨lw_p48, List.forall_mem_cons.mpr ⟨lw_p49, List.forall_mem_cons.mpr ⟨lw_p50, List.forall_mem_cons.mpr ⟨lw_p51, List.forall_mem_cons.mpr ⟨lw_p52, List.forall_mem_cons.mpr ⟨lw_p53, List.forall_mem_cons.mpr ⟨lw_p54, List.forall_mem_cons.mpr ⟨lw_p55, List.forall_mem_cons.mpr ⟨lw_p56, List.forall_mem_cons.mpr ⟨lw_p57, List.forall_mem_cons.mpr ⟨lw_p58, List.forall_mem_cons.mpr ⟨lw_p59, List.forall_mem_cons.mpr ⟨lw_p60, List.forall_mem_cons.mpr ⟨lw_p61, List.forall_mem_cons.mpr ⟨lw_p62, List.forall_mem_cons.mpr ⟨lw_p63, fun _ h => absurd h List.not_mem_nil⟩⟩⟩⟩⟩⟩⟩⟩⟩⟩⟩⟩⟩⟩⟩⟩
theorem lw_p64 : lw_okq (⟨"BannerParadeModel", "seenOne", "(II)I"⟩, 22) := ⟨⟨by decide +kernel, by decide +kernel⟩, List.mem_of_getElem? (i := 1410) (by decide +kernel), List.mem_of_getElem? (i := 1785) (by decide +kernel), List.mem_of_getElem? (i := 1786) (by decide +kernel)⟩
theorem lw_p65 : lw_okq (⟨"BannerParadeModel", "mayLetter", "(I)Z"⟩, 22) := ⟨⟨by decide +kernel, by decide +kernel⟩, List.mem_of_getElem? (i := 1410) (by decide +kernel), List.mem_of_getElem? (i := 1801) (by decide +kernel), List.mem_of_getElem? (i := 1802) (by decide +kernel)⟩
theorem lw_p66 : lw_okq (⟨"BannerParadeModel", "mayAsk", "()Z"⟩, 22) := ⟨⟨by decide +kernel, by decide +kernel⟩, List.mem_of_getElem? (i := 1410) (by decide +kernel), List.mem_of_getElem? (i := 1817) (by decide +kernel), List.mem_of_getElem? (i := 1818) (by decide +kernel)⟩
theorem lw_p67 : lw_okq (⟨"BannerParadeModel", "maySwap", "(I)Z"⟩, 22) := ⟨⟨by decide +kernel, by decide +kernel⟩, List.mem_of_getElem? (i := 1410) (by decide +kernel), List.mem_of_getElem? (i := 1821) (by decide +kernel), List.mem_of_getElem? (i := 1822) (by decide +kernel)⟩
theorem lw_p68 : lw_okq (⟨"BannerParadeModel", "shareOf", "(I)F"⟩, 22) := ⟨⟨by decide +kernel, by decide +kernel⟩, List.mem_of_getElem? (i := 1410) (by decide +kernel), List.mem_of_getElem? (i := 1837) (by decide +kernel), List.mem_of_getElem? (i := 1838) (by decide +kernel)⟩
theorem lw_p69 : lw_okq (⟨"BannerParadeModel", "readSet", "()I"⟩, 22) := ⟨⟨by decide +kernel, by decide +kernel⟩, List.mem_of_getElem? (i := 1410) (by decide +kernel), List.mem_of_getElem? (i := 1868) (by decide +kernel), List.mem_of_getElem? (i := 1869) (by decide +kernel)⟩
theorem lw_p70 : lw_okq (⟨"BannerParadeModel", "meanNow", "()D"⟩, 22) := ⟨⟨by decide +kernel, by decide +kernel⟩, List.mem_of_getElem? (i := 1410) (by decide +kernel), List.mem_of_getElem? (i := 1888) (by decide +kernel), List.mem_of_getElem? (i := 1889) (by decide +kernel)⟩
theorem lw_p71 : lw_okq (⟨"BannerParadeModel", "thinks", "()V"⟩, 22) := ⟨⟨by decide +kernel, by decide +kernel⟩, List.mem_of_getElem? (i := 1410) (by decide +kernel), List.mem_of_getElem? (i := 1910) (by decide +kernel), List.mem_of_getElem? (i := 1911) (by decide +kernel)⟩
theorem lw_p72 : lw_okq (⟨"BannerParadeModel", "back", "(I)I"⟩, 22) := ⟨⟨by decide +kernel, by decide +kernel⟩, List.mem_of_getElem? (i := 1410) (by decide +kernel), List.mem_of_getElem? (i := 1914) (by decide +kernel), List.mem_of_getElem? (i := 1915) (by decide +kernel)⟩
theorem lw_p73 : lw_okq (⟨"BannerParadeModel", "ticks", "()V"⟩, 22) := ⟨⟨by decide +kernel, by decide +kernel⟩, List.mem_of_getElem? (i := 1410) (by decide +kernel), List.mem_of_getElem? (i := 1918) (by decide +kernel), List.mem_of_getElem? (i := 1919) (by decide +kernel)⟩
theorem lw_p74 : lw_okq (⟨"BannerParadeModel", "plans", "()V"⟩, 22) := ⟨⟨by decide +kernel, by decide +kernel⟩, List.mem_of_getElem? (i := 1410) (by decide +kernel), List.mem_of_getElem? (i := 1922) (by decide +kernel), List.mem_of_getElem? (i := 1923) (by decide +kernel)⟩
theorem lw_p75 : lw_okq (⟨"BannerParadeModel", "swaps", "(I)V"⟩, 22) := ⟨⟨by decide +kernel, by decide +kernel⟩, List.mem_of_getElem? (i := 1410) (by decide +kernel), List.mem_of_getElem? (i := 1926) (by decide +kernel), List.mem_of_getElem? (i := 1927) (by decide +kernel)⟩
theorem lw_p76 : lw_okq (⟨"BannerParadeModel", "exchanges", "(I)V"⟩, 22) := ⟨⟨by decide +kernel, by decide +kernel⟩, List.mem_of_getElem? (i := 1410) (by decide +kernel), List.mem_of_getElem? (i := 1930) (by decide +kernel), List.mem_of_getElem? (i := 1931) (by decide +kernel)⟩
theorem lw_p77 : lw_okq (⟨"BannerParadeModel", "strengthens", "(II)V"⟩, 22) := ⟨⟨by decide +kernel, by decide +kernel⟩, List.mem_of_getElem? (i := 1410) (by decide +kernel), List.mem_of_getElem? (i := 1934) (by decide +kernel), List.mem_of_getElem? (i := 1935) (by decide +kernel)⟩
theorem lw_p78 : lw_okq (⟨"BannerParadeModel", "moves", "(I)V"⟩, 22) := ⟨⟨by decide +kernel, by decide +kernel⟩, List.mem_of_getElem? (i := 1410) (by decide +kernel), List.mem_of_getElem? (i := 1938) (by decide +kernel), List.mem_of_getElem? (i := 1939) (by decide +kernel)⟩
theorem lw_p79 : lw_okq (⟨"BannerParadeModel", "drops", "(I)V"⟩, 22) := ⟨⟨by decide +kernel, by decide +kernel⟩, List.mem_of_getElem? (i := 1410) (by decide +kernel), List.mem_of_getElem? (i := 1942) (by decide +kernel), List.mem_of_getElem? (i := 1943) (by decide +kernel)⟩
def lw_privs_5 : List (MethodName × Nat) := [(⟨"BannerParadeModel", "seenOne", "(II)I"⟩, 22), (⟨"BannerParadeModel", "mayLetter", "(I)Z"⟩, 22), (⟨"BannerParadeModel", "mayAsk", "()Z"⟩, 22), (⟨"BannerParadeModel", "maySwap", "(I)Z"⟩, 22), (⟨"BannerParadeModel", "shareOf", "(I)F"⟩, 22), (⟨"BannerParadeModel", "readSet", "()I"⟩, 22), (⟨"BannerParadeModel", "meanNow", "()D"⟩, 22), (⟨"BannerParadeModel", "thinks", "()V"⟩, 22), (⟨"BannerParadeModel", "back", "(I)I"⟩, 22), (⟨"BannerParadeModel", "ticks", "()V"⟩, 22), (⟨"BannerParadeModel", "plans", "()V"⟩, 22), (⟨"BannerParadeModel", "swaps", "(I)V"⟩, 22), (⟨"BannerParadeModel", "exchanges", "(I)V"⟩, 22), (⟨"BannerParadeModel", "strengthens", "(II)V"⟩, 22), (⟨"BannerParadeModel", "moves", "(I)V"⟩, 22), (⟨"BannerParadeModel", "drops", "(I)V"⟩, 22)]
theorem lw_r5 : ∀ q ∈ lw_privs_5, lw_okq q := List.forall_mem_cons.mpr ⟨lw_p64, List.forall_mem_cons.mpr ⟨lw_p65, List.forall_mem_cons.mpr ⟨lw_p66, List.forall_mem_cons.mpr ⟨lw_p67, List.forall_mem_cons.mpr ⟨lw_p68, List.forall_mem_cons.mpr ⟨lw_p69, List.forall_mem_cons.mpr ⟨lw_p70, List.forall_mem_cons.mpr ⟨lw_p71, List.forall_mem_cons.mpr ⟨lw_p72, List.forall_mem_cons.mpr ⟨lw_p73, List.forall_mem_cons.mpr ⟨lw_p74, List.forall_mem_cons.mpr ⟨lw_p75, List.forall_mem_cons.mpr ⟨lw_p76, List.forall_mem_cons.mpr ⟨lw_p77, List.forall_mem_cons.mpr ⟨lw_p78, List.forall_mem_cons.mpr ⟨lw_p79, fun _ h => absurd h List.not_mem_nil⟩⟩⟩⟩⟩⟩⟩⟩⟩⟩⟩⟩⟩⟩⟩⟩
theorem lw_p80 : lw_okq (⟨"BannerParadeModel", "lifts", "(I)V"⟩, 22) := ⟨⟨by decide +kernel, by decide +kernel⟩, List.mem_of_getElem? (i := 1410) (by decide +kernel), List.mem_of_getElem? (i := 1946) (by decide +kernel), List.mem_of_getElem? (i := 1947) (by decide +kernel)⟩
theorem lw_p81 : lw_okq (⟨"BannerParadeModel", "picks", "(II)V"⟩, 22) := ⟨⟨by decide +kernel, by decide +kernel⟩, List.mem_of_getElem? (i := 1410) (by decide +kernel), List.mem_of_getElem? (i := 1950) (by decide +kernel), List.mem_of_getElem? (i := 1951) (by decide +kernel)⟩
theorem lw_p82 : lw_okq (⟨"BannerParadeModel", "havePassed", "(I)Z"⟩, 22) := ⟨⟨by decide +kernel, by decide +kernel⟩, List.mem_of_getElem? (i := 1410) (by decide +kernel), List.mem_of_getElem? (i := 1958) (by decide +kernel), List.mem_of_getElem? (i := 1959) (by decide +kernel)⟩
theorem lw_p83 : lw_okq (⟨"BannerParadeModel", "partIn", "(III)I"⟩, 22) := ⟨⟨by decide +kernel, by decide +kernel⟩, List.mem_of_getElem? (i := 1410) (by decide +kernel), List.mem_of_getElem? (i := 1966) (by decide +kernel), List.mem_of_getElem? (i := 1967) (by decide +kernel)⟩
theorem lw_p84 : lw_okq (⟨"BannerParadeModel", "passes", "(I)V"⟩, 22) := ⟨⟨by decide +kernel, by decide +kernel⟩, List.mem_of_getElem? (i := 1410) (by decide +kernel), List.mem_of_getElem? (i := 1973) (by decide +kernel), List.mem_of_getElem? (i := 1974) (by decide +kernel)⟩
theorem lw_p85 : lw_okq (⟨"BannerParadeModel", "mayStandIn", "(II)Z"⟩, 22) := ⟨⟨by decide +kernel, by decide +kernel⟩, List.mem_of_getElem? (i := 1410) (by decide +kernel), List.mem_of_getElem? (i := 1997) (by decide +kernel), List.mem_of_getElem? (i := 1998) (by decide +kernel)⟩
theorem lw_p86 : lw_okq (⟨"BannerParadeModel", "backFloat", "(F)F"⟩, 22) := ⟨⟨by decide +kernel, by decide +kernel⟩, List.mem_of_getElem? (i := 1410) (by decide +kernel), List.mem_of_getElem? (i := 2001) (by decide +kernel), List.mem_of_getElem? (i := 2002) (by decide +kernel)⟩
theorem lw_p87 : lw_okq (⟨"BannerParadeModel", "mayBearer", "(I)Z"⟩, 22) := ⟨⟨by decide +kernel, by decide +kernel⟩, List.mem_of_getElem? (i := 1410) (by decide +kernel), List.mem_of_getElem? (i := 2023) (by decide +kernel), List.mem_of_getElem? (i := 2024) (by decide +kernel)⟩
theorem lw_p88 : lw_okq (⟨"BannerParadeModel", "writesByte", "(I)V"⟩, 22) := ⟨⟨by decide +kernel, by decide +kernel⟩, List.mem_of_getElem? (i := 1410) (by decide +kernel), List.mem_of_getElem? (i := 2035) (by decide +kernel), List.mem_of_getElem? (i := 2036) (by decide +kernel)⟩
theorem lw_p89 : lw_okq (⟨"BannerParadeModel", "writesNumber", "(I)V"⟩, 22) := ⟨⟨by decide +kernel, by decide +kernel⟩, List.mem_of_getElem? (i := 1410) (by decide +kernel), List.mem_of_getElem? (i := 2047) (by decide +kernel), List.mem_of_getElem? (i := 2048) (by decide +kernel)⟩
theorem lw_p90 : lw_okq (⟨"BannerParadeModel", "remembers", "()V"⟩, 22) := ⟨⟨by decide +kernel, by decide +kernel⟩, List.mem_of_getElem? (i := 1410) (by decide +kernel), List.mem_of_getElem? (i := 2059) (by decide +kernel), List.mem_of_getElem? (i := 2060) (by decide +kernel)⟩
def lw_privs_6 : List (MethodName × Nat) := [(⟨"BannerParadeModel", "lifts", "(I)V"⟩, 22), (⟨"BannerParadeModel", "picks", "(II)V"⟩, 22), (⟨"BannerParadeModel", "havePassed", "(I)Z"⟩, 22), (⟨"BannerParadeModel", "partIn", "(III)I"⟩, 22), (⟨"BannerParadeModel", "passes", "(I)V"⟩, 22), (⟨"BannerParadeModel", "mayStandIn", "(II)Z"⟩, 22), (⟨"BannerParadeModel", "backFloat", "(F)F"⟩, 22), (⟨"BannerParadeModel", "mayBearer", "(I)Z"⟩, 22), (⟨"BannerParadeModel", "writesByte", "(I)V"⟩, 22), (⟨"BannerParadeModel", "writesNumber", "(I)V"⟩, 22), (⟨"BannerParadeModel", "remembers", "()V"⟩, 22)]
theorem lw_r6 : ∀ q ∈ lw_privs_6, lw_okq q := List.forall_mem_cons.mpr ⟨lw_p80, List.forall_mem_cons.mpr ⟨lw_p81, List.forall_mem_cons.mpr ⟨lw_p82, List.forall_mem_cons.mpr ⟨lw_p83, List.forall_mem_cons.mpr ⟨lw_p84, List.forall_mem_cons.mpr ⟨lw_p85, List.forall_mem_cons.mpr ⟨lw_p86, List.forall_mem_cons.mpr ⟨lw_p87, List.forall_mem_cons.mpr ⟨lw_p88, List.forall_mem_cons.mpr ⟨lw_p89, List.forall_mem_cons.mpr ⟨lw_p90, fun _ h => absurd h List.not_mem_nil⟩⟩⟩⟩⟩⟩⟩⟩⟩⟩⟩
def lw_privs : List (MethodName × Nat) := lw_privs_1 ++ (lw_privs_2 ++ (lw_privs_3 ++ (lw_privs_4 ++ (lw_privs_5 ++ (lw_privs_6)))))
def lw_tbl : List Cond := k2_sels lw_privs ++ tables_1
theorem lw_privs_ok : ∀ q ∈ lw_privs, lw_okq q := by
  show ∀ q ∈ lw_privs_1 ++ (lw_privs_2 ++ (lw_privs_3 ++ (lw_privs_4 ++ (lw_privs_5 ++ (lw_privs_6))))), lw_okq q
  exact List.forall_mem_append.mpr ⟨lw_r1, List.forall_mem_append.mpr ⟨lw_r2, List.forall_mem_append.mpr ⟨lw_r3, List.forall_mem_append.mpr ⟨lw_r4, List.forall_mem_append.mpr ⟨lw_r5, lw_r6⟩⟩⟩⟩⟩
/-- the streams that the claim lets the run draw from -/
abbrev lw_cs : List Choice := [Jvm.Choice.named "NaN.bits"]
theorem lw_bits : nanBits ∈ lw_cs := by first | decide | exact List.mem_cons_self | simp [lw_cs, nanBits]
-- ===== end of PART A; then your names; then what follows =====
end
section
/-! X: the code of the class, of the reference, of the law and of the JDK's methods that they call, as a table of blocks (written by program, wip/whole/gen.py). An instruction is an Instr whose operands are read as: a label for a jump, a field's own number (32 * class + slot) for a field, a method's number for a call. -/
abbrev XB : Type := List Nat × List Instr
/-- a method: how many arguments (the receiver is one), how many locals, the receiver's kind (99: none is asked), what it returns, its handlers (exception, label, the local that takes it), its blocks -/
abbrev XT : Type := Nat × Nat × Nat × Nat × List (Nat × Nat × Nat) × List XB
/-- BannerParade$Bytes.<init>()V -/
def xM0 : XT := (1, 1, 0, 0, [], [([0], [.aload 0, .monitorexit, .aload 0, .iconst 0, .putfield 0, .aload 0, .iconst 128, .newarray .int, .putfield 1, .return_])])
/-- BannerParade$Bytes.addByte(I)V -/
def xM1 : XT := (2, 2, 0, 0, [], [([0, 1], [.aload 0, .getfield 0, .aload 0, .getfield 1, .arraylength, .if_icmp .ge 2, .goto_w 1]), ([0, 1], [.aload 0, .getfield 1, .aload 0, .getfield 0, .iload 1, .iastore, .aload 0, .dup, .getfield 0, .iconst 1, .iadd, .putfield 0, .goto_w 2]), ([], [.return_])])
/-- BannerParade$Bytes.addNumber(I)V -/
def xM2 : XT := (2, 6, 0, 0, [], [([0, 1], [.iload 1, .ifCond .ge 2, .goto_w 1]), ([0, 1], [.aload 0, .iconst 45, .invokevirtual 1, .goto_w 2]), ([0, 1], [.iload 1, .invokestatic 384, .istore 2, .iconst 1, .istore 3, .iload 2, .iconst 10, .idiv, .istore 4, .goto_w 3]), ([0, 2, 3, 4], [.iload 4, .ifCond .le 6, .goto_w 4]), ([0, 2, 3, 4], [.iload 3, .iconst 10, .if_icmp .ge 6, .goto_w 5]), ([0, 2, 3, 4], [.iinc 3 1, .iload 4, .iconst 10, .idiv, .istore 4, .goto 3]), ([0, 2, 3], [.aload 0, .getfield 0, .iload 3, .iadd, .istore 4, .iload 4, .aload 0, .getfield 1, .arraylength, .if_icmp .le 8, .goto_w 7]), ([], [.return_]), ([0, 2, 4], [.iload 4, .iconst 1, .isub, .istore 5, .goto_w 9]), ([0, 2, 4, 5], [.iload 5, .aload 0, .getfield 0, .if_icmp .lt 11, .goto_w 10]), ([0, 2, 4, 5], [.aload 0, .getfield 1, .iload 5, .iconst 48, .iload 2, .iconst 10, .irem, .iadd, .iastore, .iload 2, .iconst 10, .idiv, .istore 2, .iinc 5 (-1), .goto 9]), ([0, 4], [.aload 0, .iload 4, .putfield 0, .return_])])
/-- BannerParade$Ground.<init>()V -/
def xM3 : XT := (1, 1, 1, 0, [], [([0], [.aload 0, .monitorexit, .aload 0, .iconst 0, .putfield 32, .aload 0, .iconst 12, .newarray .int, .putfield 33, .aload 0, .iconst 12, .newarray .int, .putfield 34, .aload 0, .iconst 12, .newarray .int, .putfield 35, .return_])])
/-- BannerParade$Ground.copyFrom(LBannerParade$Ground;)V -/
def xM4 : XT := (2, 2, 1, 0, [], [([0, 1], [.aload 0, .aload 1, .getfield 32, .putfield 32, .aload 1, .getfield 33, .aload 0, .getfield 33, .invokestatic 172, .aload 1, .getfield 34, .aload 0, .getfield 34, .invokestatic 172, .aload 1, .getfield 35, .aload 0, .getfield 35, .invokestatic 172, .return_])])
/-- BannerParade$Ground.lay(III)V -/
def xM5 : XT := (4, 4, 1, 0, [], [([0, 1, 2, 3], [.aload 0, .getfield 32, .iconst 12, .if_icmp .lt 2, .goto_w 1]), ([], [.return_]), ([0, 1, 2, 3], [.aload 0, .getfield 33, .aload 0, .getfield 32, .iload 1, .iastore, .aload 0, .getfield 34, .aload 0, .getfield 32, .iload 2, .iastore, .aload 0, .getfield 35, .aload 0, .getfield 32, .iload 3, .iastore, .aload 0, .dup, .getfield 32, .iconst 1, .iadd, .putfield 32, .return_])])
/-- BannerParade$Ground.removeAt(I)V -/
def xM6 : XT := (2, 3, 1, 0, [], [([0, 1], [.iload 1, .ifCond .lt 2, .goto_w 1]), ([0, 1], [.iload 1, .aload 0, .getfield 32, .if_icmp .lt 3, .goto_w 2]), ([], [.return_]), ([0, 1], [.iload 1, .istore 2, .goto_w 4]), ([0, 2], [.iload 2, .iconst 1, .iadd, .aload 0, .getfield 32, .if_icmp .ge 6, .goto_w 5]), ([0, 2], [.aload 0, .getfield 33, .iload 2, .aload 0, .getfield 33, .iload 2, .iconst 1, .iadd, .iaload, .iastore, .aload 0, .getfield 34, .iload 2, .aload 0, .getfield 34, .iload 2, .iconst 1, .iadd, .iaload, .iastore, .aload 0, .getfield 35, .iload 2, .aload 0, .getfield 35, .iload 2, .iconst 1, .iadd, .iaload, .iastore, .iinc 2 1, .goto 4]), ([0], [.aload 0, .dup, .getfield 32, .iconst 1, .isub, .putfield 32, .return_])])
/-- BannerParade$Ground.between(II)I -/
def xM7 : XT := (3, 5, 1, 1, [], [([0, 1, 2], [.iconst 0, .istore 3, .iconst 0, .istore 4, .goto_w 1]), ([0, 1, 2, 3, 4], [.iload 4, .aload 0, .getfield 32, .if_icmp .ge 6, .goto_w 2]), ([0, 1, 2, 3, 4], [.aload 0, .getfield 34, .iload 4, .iaload, .iload 1, .if_icmp .lt 5, .goto_w 3]), ([0, 1, 2, 3, 4], [.aload 0, .getfield 34, .iload 4, .iaload, .iload 2, .if_icmp .gt 5, .goto_w 4]), ([0, 1, 2, 3, 4], [.iinc 3 1, .goto_w 5]), ([0, 1, 2, 3, 4], [.iinc 4 1, .goto 1]), ([3], [.iload 3, .ireturn])])
/-- BannerParade$Ground.bestBetween(II)I -/
def xM8 : XT := (3, 6, 1, 1, [], [([0, 1, 2], [.iconst (-1), .istore 3, .iconst 0, .istore 4, .goto_w 1]), ([0, 1, 2, 3, 4], [.iload 4, .aload 0, .getfield 32, .if_icmp .ge 11, .goto_w 2]), ([0, 1, 2, 3, 4], [.aload 0, .getfield 34, .iload 4, .iaload, .iload 1, .if_icmp .lt 5, .goto_w 3]), ([0, 1, 2, 3, 4], [.aload 0, .getfield 34, .iload 4, .iaload, .iload 2, .if_icmp .gt 5, .goto_w 4]), ([0, 1, 2, 3, 4], [.iconst 1, .goto 6]), ([0, 1, 2, 3, 4], [.iconst 0, .goto_w 6]), ([0, 1, 2, 3, 4], [.istore 5, .iload 5, .ifCond .eq 10, .goto_w 7]), ([0, 1, 2, 3, 4], [.iload 3, .iconst (-1), .if_icmp .eq 9, .goto_w 8]), ([0, 1, 2, 3, 4], [.aload 0, .getfield 34, .iload 4, .iaload, .aload 0, .getfield 34, .iload 3, .iaload, .if_icmp .le 10, .goto_w 9]), ([0, 1, 2, 4], [.iload 4, .istore 3, .goto_w 10]), ([0, 1, 2, 3, 4], [.iinc 4 1, .goto 1]), ([3], [.iload 3, .ireturn])])
/-- BannerParade$Ground.withLetter(I)I -/
def xM9 : XT := (2, 4, 1, 1, [], [([0, 1], [.iconst 0, .istore 2, .iconst 0, .istore 3, .goto_w 1]), ([0, 1, 2, 3], [.iload 3, .aload 0, .getfield 32, .if_icmp .ge 5, .goto_w 2]), ([0, 1, 2, 3], [.aload 0, .getfield 33, .iload 3, .iaload, .iload 1, .if_icmp .ne 4, .goto_w 3]), ([0, 1, 2, 3], [.iinc 2 1, .goto_w 4]), ([0, 1, 2, 3], [.iinc 3 1, .goto 1]), ([2], [.iload 2, .ireturn])])
/-- BannerParade$Memory.<init>()V -/
def xM10 : XT := (1, 2, 2, 0, [], [([0], [.aload 0, .monitorexit, .aload 0, .iconst 0, .putfield 64, .aload 0, .iconst 0, .putfield 65, .aload 0, .iconst 8, .anewarray 8, .putfield 66, .aload 0, .iconst 2, .anewarray 8, .putfield 67, .aload 0, .iconst 2, .newarray .boolean, .putfield 68, .iconst 0, .istore 1, .goto_w 1]), ([0, 1], [.iload 1, .aload 0, .getfield 66, .arraylength, .if_icmp .ge 3, .goto_w 2]), ([0, 1], [.aload 0, .getfield 66, .iload 1, .new 8, .dup, .invokespecial 67, .aastore, .iinc 1 1, .goto 1]), ([0], [.iconst 0, .istore 1, .goto_w 4]), ([0, 1], [.iload 1, .aload 0, .getfield 67, .arraylength, .if_icmp .ge 6, .goto_w 5]), ([0, 1], [.aload 0, .getfield 67, .iload 1, .new 8, .dup, .invokespecial 67, .aastore, .iinc 1 1, .goto 4]), ([], [.return_])])
/-- BannerParade$Memory.forgetChanges()V -/
def xM11 : XT := (1, 1, 2, 0, [], [([0], [.aload 0, .iconst 0, .putfield 64, .aload 0, .iconst 0, .putfield 65, .return_])])
/-- BannerParade$Memory.forgetSlots()V -/
def xM12 : XT := (1, 2, 2, 0, [], [([0], [.iconst 0, .istore 1, .goto_w 1]), ([0, 1], [.iload 1, .aload 0, .getfield 68, .arraylength, .if_icmp .ge 3, .goto_w 2]), ([0, 1], [.aload 0, .getfield 68, .iload 1, .iconst 0, .bastore, .iinc 1 1, .goto 1]), ([], [.return_])])
/-- BannerParade$Memory.remember(LBannerParade$State;)V -/
def xM13 : XT := (2, 2, 2, 0, [], [([0, 1], [.aload 1, .aload 0, .getfield 66, .aload 0, .getfield 64, .aload 0, .getfield 65, .iadd, .iconst 8, .irem, .aaload, .invokestatic 17, .aload 0, .getfield 65, .iconst 8, .if_icmp .ge 2, .goto_w 1]), ([0], [.aload 0, .dup, .getfield 65, .iconst 1, .iadd, .putfield 65, .goto 3]), ([0], [.aload 0, .aload 0, .getfield 64, .iconst 1, .iadd, .iconst 8, .irem, .putfield 64, .goto_w 3]), ([], [.return_])])
/-- BannerParade$Memory.takeBack(LBannerParade$State;)V -/
def xM14 : XT := (2, 2, 2, 0, [], [([0, 1], [.aload 0, .getfield 65, .ifCond .le 2, .goto_w 1]), ([0, 1], [.aload 0, .dup, .getfield 65, .iconst 1, .isub, .putfield 65, .aload 0, .getfield 66, .aload 0, .getfield 64, .aload 0, .getfield 65, .iadd, .iconst 8, .irem, .aaload, .aload 1, .invokestatic 17, .goto_w 2]), ([], [.return_])])
/-- BannerParade$Memory.fillSlot(ILBannerParade$State;)V -/
def xM15 : XT := (3, 3, 2, 0, [], [([0, 1, 2], [.aload 2, .aload 0, .getfield 67, .iload 1, .aaload, .invokestatic 17, .aload 0, .getfield 68, .iload 1, .iconst 1, .bastore, .return_])])
/-- BannerParade$Memory.readSlot(ILBannerParade$State;)V -/
def xM16 : XT := (3, 3, 2, 0, [], [([0, 1, 2], [.aload 0, .getfield 67, .iload 1, .aaload, .aload 2, .invokestatic 17, .return_])])
/-- BannerParade$Memory.copyState(LBannerParade$State;LBannerParade$State;)V -/
def xM17 : XT := (2, 2, 99, 0, [], [([0, 1], [.aload 0, .ifnull 3, .goto_w 1]), ([0, 1], [.aload 1, .ifnull 3, .goto_w 2]), ([0, 1], [.aload 1, .aload 0, .invokevirtual 68, .goto_w 3]), ([], [.return_])])
/-- BannerParade$Parser.<init>()V -/
def xM18 : XT := (1, 1, 3, 0, [], [([0], [.aload 0, .monitorexit, .aload 0, .new 9, .dup, .invokespecial 80, .putfield 96, .aload 0, .new 8, .dup, .invokespecial 67, .putfield 97, .aload 0, .new 6, .dup, .invokespecial 41, .putfield 98, .aload 0, .iconst 0, .putfield 99, .aload 0, .iconst (-1), .putfield 100, .return_])])
/-- BannerParade$Parser.parseText(I)Z -/
def xM19 : XT := (2, 3, 3, 2, [], [([0, 1], [.aload 0, .iconst 0, .putfield 99, .aload 0, .iconst (-1), .putfield 100, .aload 0, .getfield 97, .invokevirtual 69, .aload 0, .getfield 98, .iconst 0, .putfield 192, .aload 0, .getfield 96, .iload 1, .invokevirtual 83, .aload 0, .invokevirtual 21, .ifCond .ne 2, .goto_w 1]), ([], [.iconst 0, .ireturn]), ([0], [.aload 0, .getfield 96, .invokevirtual 84, .iconst 0, .istore 2, .goto_w 3]), ([0, 2], [.iload 2, .iconst 700, .if_icmp .ge 8, .goto_w 4]), ([0, 2], [.aload 0, .getfield 96, .getfield 293, .iconst 3, .if_icmp .ne 8, .goto_w 5]), ([0, 2], [.aload 0, .invokevirtual 22, .ifCond .ne 7, .goto_w 6]), ([], [.iconst 0, .ireturn]), ([0, 2], [.aload 0, .getfield 96, .invokevirtual 84, .iinc 2 1, .goto 3]), ([0], [.aload 0, .getfield 96, .getfield 293, .ifCond .eq 10, .goto_w 9]), ([0], [.aload 0, .iconst 1, .invokevirtual 20, .ifCond .eq 11, .goto_w 10]), ([], [.iconst 1, .goto 12]), ([], [.iconst 0, .goto_w 12]), ([], [.ireturn])])
/-- BannerParade$Parser.refuse(I)Z -/
def xM20 : XT := (2, 2, 3, 2, [], [([0, 1], [.aload 0, .iload 1, .putfield 99, .aload 0, .aload 0, .getfield 96, .getfield 291, .putfield 100, .iconst 0, .ireturn])])
/-- BannerParade$Parser.parseHead()Z -/
def xM21 : XT := (1, 2, 3, 2, [], [([0], [.aload 0, .getfield 96, .invokevirtual 84, .aload 0, .getfield 96, .ldc 1, .invokevirtual 89, .ifCond .ne 2, .goto_w 1]), ([0], [.aload 0, .iconst 1, .invokevirtual 20, .ireturn]), ([0], [.iconst 0, .istore 1, .goto_w 3]), ([0, 1], [.iload 1, .iconst 6, .if_icmp .ge 7, .goto_w 4]), ([0, 1], [.aload 0, .getstatic 0, .iload 1, .iaload, .getstatic 1, .iload 1, .iaload, .invokevirtual 26, .ifCond .ne 6, .goto_w 5]), ([], [.iconst 0, .ireturn]), ([0, 1], [.aload 0, .getfield 97, .getfield 260, .iload 1, .aload 0, .getfield 96, .getfield 294, .iastore, .iinc 1 1, .goto 3]), ([], [.iconst 1, .ireturn])])
/-- BannerParade$Parser.parseLine()Z -/
def xM22 : XT := (1, 1, 3, 2, [], [([0], [.aload 0, .getfield 96, .invokevirtual 84, .aload 0, .getfield 96, .ldc 2, .invokevirtual 89, .ifCond .eq 5, .goto_w 1]), ([0], [.aload 0, .getfield 97, .getfield 262, .getfield 224, .iconst 12, .if_icmp .ge 3, .goto_w 2]), ([0], [.aload 0, .invokevirtual 23, .goto 4]), ([0], [.aload 0, .iconst 4, .invokevirtual 20, .goto_w 4]), ([], [.ireturn]), ([0], [.aload 0, .getfield 96, .ldc 3, .invokevirtual 89, .ifCond .eq 10, .goto_w 6]), ([0], [.aload 0, .getfield 98, .getfield 192, .iconst 6, .if_icmp .ge 8, .goto_w 7]), ([0], [.aload 0, .invokevirtual 24, .goto 9]), ([0], [.aload 0, .iconst 4, .invokevirtual 20, .goto_w 9]), ([], [.ireturn]), ([0], [.aload 0, .getfield 96, .ldc 6, .invokevirtual 89, .ifCond .eq 15, .goto_w 11]), ([0], [.aload 0, .getfield 97, .getfield 264, .getfield 128, .iconst 12, .if_icmp .ge 13, .goto_w 12]), ([0], [.aload 0, .invokevirtual 25, .goto 14]), ([0], [.aload 0, .iconst 4, .invokevirtual 20, .goto_w 14]), ([], [.ireturn]), ([0], [.aload 0, .iconst 1, .invokevirtual 20, .ireturn])])
/-- BannerParade$Parser.parseBearer()Z -/
def xM23 : XT := (1, 3, 3, 2, [], [([0], [.aload 0, .getfield 96, .invokevirtual 84, .aload 0, .getfield 96, .invokevirtual 87, .iconst 1, .if_icmp .eq 2, .goto_w 1]), ([0], [.aload 0, .iconst 1, .invokevirtual 20, .ireturn]), ([0], [.aload 0, .getfield 96, .iconst 0, .invokevirtual 88, .iconst 96, .isub, .istore 1, .aload 0, .iconst 1, .iconst 200, .invokevirtual 26, .ifCond .ne 4, .goto_w 3]), ([], [.iconst 0, .ireturn]), ([0, 1], [.aload 0, .getfield 96, .getfield 294, .istore 2, .aload 0, .iconst 0, .iconst 20, .invokevirtual 26, .ifCond .ne 6, .goto_w 5]), ([], [.iconst 0, .ireturn]), ([0, 1, 2], [.aload 0, .getfield 97, .getfield 262, .iload 1, .iload 2, .aload 0, .getfield 96, .getfield 294, .aload 0, .getfield 97, .getfield 260, .iconst 0, .iaload, .invokevirtual 49, .iconst 1, .ireturn])])
/-- BannerParade$Parser.parseStand()Z -/
def xM24 : XT := (1, 4, 3, 2, [], [([0], [.aload 0, .getfield 96, .invokevirtual 84, .aload 0, .getfield 96, .ldc 4, .invokevirtual 89, .istore 1, .iload 1, .ifCond .ne 3, .goto_w 1]), ([0, 1], [.aload 0, .getfield 96, .ldc 5, .invokevirtual 89, .ifCond .ne 3, .goto_w 2]), ([0], [.aload 0, .iconst 1, .invokevirtual 20, .ireturn]), ([0, 1], [.aload 0, .iconst 0, .iconst 9999, .invokevirtual 26, .ifCond .ne 5, .goto_w 4]), ([], [.iconst 0, .ireturn]), ([0, 1], [.aload 0, .getfield 96, .getfield 294, .istore 2, .aload 0, .getfield 96, .invokevirtual 84, .aload 0, .getfield 96, .getfield 293, .iconst 1, .if_icmp .eq 7, .goto_w 6]), ([0], [.aload 0, .iconst 1, .invokevirtual 20, .ireturn]), ([0, 1, 2], [.aload 0, .getfield 98, .iload 1, .ifCond .eq 9, .goto_w 8]), ([0, 2], [.iconst 1, .goto 10]), ([0, 2], [.iconst 0, .goto_w 10]), ([0, 2], [.iload 2, .invokevirtual 43, .iconst 0, .istore 3, .goto_w 11]), ([0, 3], [.iload 3, .aload 0, .getfield 96, .invokevirtual 87, .if_icmp .ge 13, .goto_w 12]), ([0, 3], [.aload 0, .getfield 98, .aload 0, .getfield 96, .iload 3, .invokevirtual 88, .invokevirtual 44, .iinc 3 1, .goto 11]), ([], [.iconst 1, .ireturn])])
/-- BannerParade$Parser.parsePlan()Z -/
def xM25 : XT := (1, 2, 3, 2, [], [([0], [.aload 0, .iconst 1, .iconst 5000, .invokevirtual 26, .ifCond .ne 2, .goto_w 1]), ([], [.iconst 0, .ireturn]), ([0], [.aload 0, .getfield 96, .getfield 294, .istore 1, .aload 0, .iconst 0, .aload 0, .getfield 97, .getfield 262, .getfield 224, .iconst 2, .isub, .invokevirtual 26, .ifCond .ne 4, .goto_w 3]), ([], [.iconst 0, .ireturn]), ([0, 1], [.aload 0, .getfield 97, .getfield 264, .iload 1, .aload 0, .getfield 96, .getfield 294, .invokevirtual 29, .iconst 1, .ireturn])])
/-- BannerParade$Parser.parseNumber(II)Z -/
def xM26 : XT := (3, 3, 3, 2, [], [([0, 1, 2], [.aload 0, .getfield 96, .invokevirtual 84, .aload 0, .getfield 96, .getfield 293, .iconst 2, .if_icmp .eq 2, .goto_w 1]), ([0], [.aload 0, .iconst 1, .invokevirtual 20, .ireturn]), ([0, 1, 2], [.aload 0, .getfield 96, .getfield 294, .iload 1, .if_icmp .lt 4, .goto_w 3]), ([0, 2], [.aload 0, .getfield 96, .getfield 294, .iload 2, .if_icmp .le 5, .goto_w 4]), ([0], [.aload 0, .iconst 2, .invokevirtual 20, .ireturn]), ([], [.iconst 1, .ireturn])])
/-- BannerParade$Plans.<init>()V -/
def xM27 : XT := (1, 1, 4, 0, [], [([0], [.aload 0, .monitorexit, .aload 0, .iconst 0, .putfield 128, .aload 0, .iconst 12, .newarray .int, .putfield 129, .aload 0, .iconst 12, .newarray .int, .putfield 130, .aload 0, .iconst 12, .newarray .int, .putfield 131, .return_])])
/-- BannerParade$Plans.copyFrom(LBannerParade$Plans;)V -/
def xM28 : XT := (2, 2, 4, 0, [], [([0, 1], [.aload 0, .aload 1, .getfield 128, .putfield 128, .aload 1, .getfield 129, .aload 0, .getfield 129, .invokestatic 172, .aload 1, .getfield 130, .aload 0, .getfield 130, .invokestatic 172, .aload 1, .getfield 131, .aload 0, .getfield 131, .invokestatic 172, .return_])])
/-- BannerParade$Plans.add(II)V -/
def xM29 : XT := (3, 3, 4, 0, [], [([0, 1, 2], [.aload 0, .getfield 128, .iconst 12, .if_icmp .lt 2, .goto_w 1]), ([], [.return_]), ([0, 1, 2], [.aload 0, .getfield 129, .aload 0, .getfield 128, .iload 1, .iastore, .aload 0, .getfield 130, .aload 0, .getfield 128, .iload 2, .iastore, .aload 0, .getfield 131, .aload 0, .getfield 128, .iconst 0, .iastore, .aload 0, .dup, .getfield 128, .iconst 1, .iadd, .putfield 128, .return_])])
/-- BannerParade$Plans.withOutcome(I)I -/
def xM30 : XT := (2, 4, 4, 1, [], [([0, 1], [.iconst 0, .istore 2, .iconst 0, .istore 3, .goto_w 1]), ([0, 1, 2, 3], [.iload 3, .aload 0, .getfield 128, .if_icmp .ge 5, .goto_w 2]), ([0, 1, 2, 3], [.aload 0, .getfield 131, .iload 3, .iaload, .iload 1, .if_icmp .ne 4, .goto_w 3]), ([0, 1, 2, 3], [.iinc 2 1, .goto_w 4]), ([0, 1, 2, 3], [.iinc 3 1, .goto 1]), ([2], [.iload 2, .ireturn])])
/-- BannerParade$Plans.soonest()I -/
def xM31 : XT := (1, 3, 4, 1, [], [([0], [.iconst (-1), .istore 1, .iconst 0, .istore 2, .goto_w 1]), ([0, 1, 2], [.iload 2, .aload 0, .getfield 128, .if_icmp .ge 7, .goto_w 2]), ([0, 1, 2], [.aload 0, .getfield 131, .iload 2, .iaload, .ifCond .ne 6, .goto_w 3]), ([0, 1, 2], [.iload 1, .iconst (-1), .if_icmp .eq 5, .goto_w 4]), ([0, 1, 2], [.aload 0, .getfield 129, .iload 2, .iaload, .aload 0, .getfield 129, .iload 1, .iaload, .if_icmp .ge 6, .goto_w 5]), ([0, 2], [.iload 2, .istore 1, .goto_w 6]), ([0, 1, 2], [.iinc 2 1, .goto 1]), ([1], [.iload 1, .ireturn])])
/-- BannerParade$Reading.<init>()V -/
def xM32 : XT := (1, 1, 5, 0, [], [([0], [.aload 0, .monitorexit, .aload 0, .iconst 0, .putfield 160, .aload 0, .iconst 0, .putfield 161, .aload 0, .iconst 24, .newarray .int, .putfield 162, .aload 0, .iconst 12, .newarray .int, .putfield 163, .return_])])
/-- BannerParade$Reading.read(LBannerParade$State;LBannerParade$Route;I)V -/
def xM33 : XT := (4, 7, 5, 0, [], [([0, 1, 2, 3], [.aload 0, .iconst 0, .putfield 160, .aload 0, .iconst 0, .putfield 161, .aload 1, .getfield 262, .astore 4, .iconst 0, .istore 5, .goto_w 1]), ([0, 1, 2, 3, 4, 5], [.iload 5, .aload 4, .getfield 224, .if_icmp .ge 8, .goto_w 2]), ([0, 1, 2, 3, 4, 5], [.aload 2, .getfield 193, .iload 3, .iaload, .iconst 1, .if_icmp .ne 4, .goto_w 3]), ([0, 1, 2, 3, 4, 5], [.aload 4, .getfield 224, .iconst 1, .isub, .iload 5, .isub, .goto 5]), ([0, 1, 2, 3, 4, 5], [.iload 5, .goto_w 5]), ([0, 1, 2, 3, 4, 5], [.istore 6, .aload 1, .iload 6, .aload 2, .getfield 194, .iload 3, .iaload, .invokevirtual 79, .ifCond .eq 7, .goto_w 6]), ([0, 1, 2, 3, 4, 5, 6], [.aload 0, .aload 4, .iload 6, .aload 1, .getfield 260, .iconst 2, .iaload, .invokevirtual 34, .goto_w 7]), ([0, 1, 2, 3, 4, 5], [.iinc 5 1, .goto 1]), ([], [.return_])])
/-- BannerParade$Reading.addLetter(LBannerParade$Row;II)V -/
def xM34 : XT := (4, 4, 5, 0, [], [([0, 1, 2, 3], [.aload 0, .getfield 161, .aload 0, .getfield 163, .arraylength, .if_icmp .ge 2, .goto_w 1]), ([0, 1, 2, 3], [.aload 0, .getfield 160, .iconst 1, .iadd, .aload 0, .getfield 162, .arraylength, .if_icmp .lt 3, .goto_w 2]), ([], [.return_]), ([0, 1, 2, 3], [.aload 0, .getfield 161, .ifCond .le 6, .goto_w 4]), ([0, 1, 2, 3], [.aload 1, .getfield 230, .iload 2, .iaload, .aload 1, .getfield 230, .aload 0, .getfield 163, .aload 0, .getfield 161, .iconst 1, .isub, .iaload, .iaload, .isub, .invokestatic 384, .iload 3, .if_icmp .le 6, .goto_w 5]), ([0, 1, 2], [.aload 0, .getfield 162, .aload 0, .getfield 160, .iconst 32, .iastore, .aload 0, .dup, .getfield 160, .iconst 1, .iadd, .putfield 160, .goto_w 6]), ([0, 1, 2], [.aload 0, .getfield 162, .aload 0, .getfield 160, .iconst 96, .aload 1, .getfield 229, .iload 2, .iaload, .iadd, .iastore, .aload 0, .dup, .getfield 160, .iconst 1, .iadd, .putfield 160, .aload 0, .getfield 163, .aload 0, .getfield 161, .iload 2, .iastore, .aload 0, .dup, .getfield 161, .iconst 1, .iadd, .putfield 161, .return_])])
/-- BannerParade$Reading.byteAt(I)I -/
def xM35 : XT := (2, 2, 5, 1, [], [([0, 1], [.iload 1, .ifCond .lt 3, .goto_w 1]), ([0, 1], [.iload 1, .aload 0, .getfield 160, .if_icmp .ge 3, .goto_w 2]), ([0, 1], [.aload 0, .getfield 162, .iload 1, .iaload, .goto 4]), ([], [.iconst (-1), .goto_w 4]), ([], [.ireturn])])
/-- BannerParade$Reading.bearerOfLetter(I)I -/
def xM36 : XT := (2, 2, 5, 1, [], [([0, 1], [.iload 1, .ifCond .lt 3, .goto_w 1]), ([0, 1], [.iload 1, .aload 0, .getfield 161, .if_icmp .ge 3, .goto_w 2]), ([0, 1], [.aload 0, .getfield 163, .iload 1, .iaload, .goto 4]), ([], [.iconst (-1), .goto_w 4]), ([], [.ireturn])])
/-- BannerParade$Reading.alike(LBannerParade$Route;I)I -/
def xM37 : XT := (3, 5, 5, 1, [], [([0, 1, 2], [.iconst 0, .istore 3, .iconst 0, .istore 4, .goto_w 1]), ([0, 1, 2, 3, 4], [.iload 4, .aload 0, .getfield 160, .if_icmp .ge 6, .goto_w 2]), ([0, 1, 2, 3, 4], [.iload 4, .aload 1, .getfield 195, .iload 2, .iaload, .if_icmp .ge 6, .goto_w 3]), ([0, 1, 2, 3, 4], [.aload 0, .getfield 162, .iload 4, .iaload, .aload 1, .iload 2, .iload 4, .invokevirtual 45, .if_icmp .ne 5, .goto_w 4]), ([0, 1, 2, 3, 4], [.iinc 3 1, .goto_w 5]), ([0, 1, 2, 3, 4], [.iinc 4 1, .goto 1]), ([3], [.iload 3, .ireturn])])
/-- BannerParade$Reading.alikeAtStart(LBannerParade$Route;I)I -/
def xM38 : XT := (3, 5, 5, 1, [], [([0, 1, 2], [.aload 0, .getfield 160, .aload 1, .getfield 195, .iload 2, .iaload, .invokestatic 386, .istore 3, .iconst 0, .istore 4, .goto_w 1]), ([0, 1, 2, 3, 4], [.iload 4, .iload 3, .if_icmp .ge 5, .goto_w 2]), ([0, 1, 2, 3, 4], [.aload 0, .getfield 162, .iload 4, .iaload, .aload 1, .iload 2, .iload 4, .invokevirtual 45, .if_icmp .eq 4, .goto_w 3]), ([4], [.iload 4, .ireturn]), ([0, 1, 2, 3, 4], [.iinc 4 1, .goto 1]), ([3], [.iload 3, .ireturn])])
/-- BannerParade$Reading.isWord(LBannerParade$Route;I)Z -/
def xM39 : XT := (3, 3, 5, 2, [], [([0, 1, 2], [.aload 0, .getfield 160, .aload 1, .getfield 195, .iload 2, .iaload, .if_icmp .ne 3, .goto_w 1]), ([0, 1, 2], [.aload 0, .aload 1, .iload 2, .invokevirtual 37, .aload 0, .getfield 160, .if_icmp .ne 3, .goto_w 2]), ([], [.iconst 1, .goto 4]), ([], [.iconst 0, .goto_w 4]), ([], [.ireturn])])
/-- BannerParade$Reading.shareOfWord(LBannerParade$Route;I)F -/
def xM40 : XT := (3, 4, 5, 6, [], [([0, 1, 2], [.aload 0, .getfield 160, .aload 1, .getfield 195, .iload 2, .iaload, .invokestatic 385, .istore 3, .iload 3, .ifCond .le 2, .goto_w 1]), ([0, 1, 2, 3], [.aload 0, .aload 1, .iload 2, .invokevirtual 37, .i2f, .iload 3, .i2f, .fdiv, .goto 3]), ([], [.fconst 0, .goto_w 3]), ([], [.freturn])])
/-- BannerParade$Route.<init>()V -/
def xM41 : XT := (1, 1, 6, 0, [], [([0], [.aload 0, .monitorexit, .aload 0, .iconst 0, .putfield 192, .aload 0, .iconst 6, .newarray .int, .putfield 193, .aload 0, .iconst 6, .newarray .int, .putfield 194, .aload 0, .iconst 6, .newarray .int, .putfield 195, .aload 0, .iconst 48, .newarray .int, .putfield 196, .return_])])
/-- BannerParade$Route.copyFrom(LBannerParade$Route;)V -/
def xM42 : XT := (2, 2, 6, 0, [], [([0, 1], [.aload 0, .aload 1, .getfield 192, .putfield 192, .aload 1, .getfield 193, .aload 0, .getfield 193, .invokestatic 172, .aload 1, .getfield 194, .aload 0, .getfield 194, .invokestatic 172, .aload 1, .getfield 195, .aload 0, .getfield 195, .invokestatic 172, .aload 1, .getfield 196, .aload 0, .getfield 196, .invokestatic 172, .return_])])
/-- BannerParade$Route.add(II)V -/
def xM43 : XT := (3, 3, 6, 0, [], [([0, 1, 2], [.aload 0, .getfield 192, .iconst 6, .if_icmp .lt 2, .goto_w 1]), ([], [.return_]), ([0, 1, 2], [.aload 0, .getfield 193, .aload 0, .getfield 192, .iload 1, .iastore, .aload 0, .getfield 194, .aload 0, .getfield 192, .iload 2, .iastore, .aload 0, .getfield 195, .aload 0, .getfield 192, .iconst 0, .iastore, .aload 0, .dup, .getfield 192, .iconst 1, .iadd, .putfield 192, .return_])])
/-- BannerParade$Route.lengthenLastWord(I)V -/
def xM44 : XT := (2, 3, 6, 0, [], [([0, 1], [.aload 0, .getfield 192, .iconst 1, .isub, .istore 2, .iload 2, .ifCond .lt 2, .goto_w 1]), ([0, 1, 2], [.aload 0, .getfield 195, .iload 2, .iaload, .iconst 8, .if_icmp .lt 3, .goto_w 2]), ([], [.return_]), ([0, 1, 2], [.aload 0, .getfield 196, .iload 2, .iconst 8, .imul, .aload 0, .getfield 195, .iload 2, .iaload, .iadd, .iload 1, .iastore, .aload 0, .getfield 195, .iload 2, .dup2, .iaload, .iconst 1, .iadd, .iastore, .return_])])
/-- BannerParade$Route.byteOfWord(II)I -/
def xM45 : XT := (3, 3, 6, 1, [], [([0, 1, 2], [.iload 2, .ifCond .lt 3, .goto_w 1]), ([0, 1, 2], [.iload 2, .aload 0, .getfield 195, .iload 1, .iaload, .if_icmp .ge 3, .goto_w 2]), ([0, 1, 2], [.aload 0, .getfield 196, .iload 1, .iconst 8, .imul, .iload 2, .iadd, .iaload, .goto 4]), ([], [.iconst (-1), .goto_w 4]), ([], [.ireturn])])
/-- BannerParade$Route.lettersInWord(II)I -/
def xM46 : XT := (3, 5, 6, 1, [], [([0, 1, 2], [.iconst 0, .istore 3, .iconst 0, .istore 4, .goto_w 1]), ([0, 1, 2, 3, 4], [.iload 4, .aload 0, .getfield 195, .iload 1, .iaload, .if_icmp .ge 5, .goto_w 2]), ([0, 1, 2, 3, 4], [.aload 0, .iload 1, .iload 4, .invokevirtual 45, .iconst 96, .iload 2, .iadd, .if_icmp .ne 4, .goto_w 3]), ([0, 1, 2, 3, 4], [.iinc 3 1, .goto_w 4]), ([0, 1, 2, 3, 4], [.iinc 4 1, .goto 1]), ([3], [.iload 3, .ireturn])])
/-- BannerParade$Row.<init>()V -/
def xM47 : XT := (1, 1, 7, 0, [], [([0], [.aload 0, .monitorexit, .aload 0, .iconst 0, .putfield 224, .aload 0, .iconst 12, .newarray .int, .putfield 225, .aload 0, .iconst 12, .newarray .int, .putfield 226, .aload 0, .iconst 12, .newarray .int, .putfield 227, .aload 0, .iconst 12, .newarray .int, .putfield 228, .aload 0, .iconst 12, .newarray .int, .putfield 229, .aload 0, .iconst 12, .newarray .int, .putfield 230, .aload 0, .iconst 12, .newarray .int, .putfield 231, .aload 0, .iconst 12, .newarray .int, .putfield 232, .return_])])
/-- BannerParade$Row.copyFrom(LBannerParade$Row;)V -/
def xM48 : XT := (2, 2, 7, 0, [], [([0, 1], [.aload 0, .aload 1, .getfield 224, .putfield 224, .aload 1, .getfield 225, .aload 0, .getfield 225, .invokestatic 172, .aload 1, .getfield 226, .aload 0, .getfield 226, .invokestatic 172, .aload 1, .getfield 227, .aload 0, .getfield 227, .invokestatic 172, .aload 1, .getfield 228, .aload 0, .getfield 228, .invokestatic 172, .aload 1, .getfield 229, .aload 0, .getfield 229, .invokestatic 172, .aload 1, .getfield 230, .aload 0, .getfield 230, .invokestatic 172, .aload 1, .getfield 232, .aload 0, .getfield 232, .invokestatic 172, .return_])])
/-- BannerParade$Row.join(IIII)V -/
def xM49 : XT := (5, 5, 7, 0, [], [([0, 1, 2, 3, 4], [.aload 0, .getfield 224, .iconst 12, .if_icmp .lt 2, .goto_w 1]), ([], [.return_]), ([0, 1, 2, 3, 4], [.aload 0, .getfield 225, .aload 0, .getfield 224, .iload 1, .iastore, .aload 0, .getfield 226, .aload 0, .getfield 224, .iload 2, .iastore, .aload 0, .getfield 227, .aload 0, .getfield 224, .iload 3, .iastore, .aload 0, .getfield 228, .aload 0, .getfield 224, .iconst 100, .iastore, .aload 0, .getfield 229, .aload 0, .getfield 224, .iload 1, .iastore, .aload 0, .getfield 230, .aload 0, .getfield 224, .iload 4, .ineg, .aload 0, .getfield 224, .imul, .iastore, .aload 0, .getfield 231, .aload 0, .getfield 224, .aload 0, .getfield 230, .aload 0, .getfield 224, .iaload, .iastore, .aload 0, .getfield 232, .aload 0, .getfield 224, .iconst 0, .iastore, .aload 0, .dup, .getfield 224, .iconst 1, .iadd, .putfield 224, .return_])])
/-- BannerParade$Row.strideOf(I)I -/
def xM50 : XT := (2, 2, 7, 1, [], [([0, 1], [.aload 0, .getfield 226, .iload 1, .iaload, .i2f, .aload 0, .getfield 228, .iload 1, .iaload, .i2f, .fmul, .ldc_w 1120403456, .fdiv, .f2i, .ireturn])])
/-- BannerParade$Row.distanceAhead(I)I -/
def xM51 : XT := (2, 2, 7, 1, [], [([0, 1], [.iload 1, .ifCond .le 2, .goto_w 1]), ([0, 1], [.aload 0, .getfield 230, .iload 1, .iconst 1, .isub, .iaload, .aload 0, .getfield 230, .iload 1, .iaload, .isub, .goto 3]), ([], [.iconst (-1), .goto_w 3]), ([], [.ireturn])])
/-- BannerParade$Row.addStrength(II)V -/
def xM52 : XT := (3, 3, 7, 0, [], [([0, 1, 2], [.aload 0, .getfield 228, .iload 1, .iconst 0, .iconst 100, .aload 0, .getfield 228, .iload 1, .iaload, .iload 2, .iadd, .invokestatic 386, .invokestatic 385, .iastore, .return_])])
/-- BannerParade$Row.exchangeBanners(I)V -/
def xM53 : XT := (2, 3, 7, 0, [], [([0, 1], [.iload 1, .ifCond .lt 2, .goto_w 1]), ([0, 1], [.iload 1, .iconst 1, .iadd, .aload 0, .getfield 224, .if_icmp .lt 3, .goto_w 2]), ([], [.return_]), ([0, 1], [.aload 0, .getfield 229, .iload 1, .iaload, .istore 2, .aload 0, .getfield 229, .iload 1, .aload 0, .getfield 229, .iload 1, .iconst 1, .iadd, .iaload, .iastore, .aload 0, .getfield 229, .iload 1, .iconst 1, .iadd, .iload 2, .iastore, .return_])])
/-- BannerParade$Row.march(II)V -/
def xM54 : XT := (3, 5, 7, 0, [], [([0, 1, 2], [.iconst 0, .istore 3, .goto_w 1]), ([0, 1, 2, 3], [.iload 3, .aload 0, .getfield 224, .if_icmp .ge 8, .goto_w 2]), ([0, 1, 2, 3], [.aload 0, .getfield 230, .iload 3, .iaload, .aload 0, .iload 3, .invokevirtual 50, .iadd, .istore 4, .iload 3, .ifCond .le 4, .goto_w 3]), ([0, 1, 2, 3, 4], [.iload 4, .aload 0, .getfield 230, .iload 3, .iconst 1, .isub, .iaload, .iload 1, .isub, .invokestatic 386, .istore 4, .goto_w 4]), ([0, 1, 2, 3, 4], [.aload 0, .getfield 231, .iload 3, .aload 0, .getfield 230, .iload 3, .iaload, .iastore, .iload 4, .aload 0, .getfield 230, .iload 3, .iaload, .if_icmp .le 6, .goto_w 5]), ([0, 1, 2, 3, 4], [.aload 0, .getfield 230, .iload 3, .iload 4, .iastore, .aload 0, .getfield 232, .iload 3, .dup2, .iaload, .iconst 1, .iadd, .iastore, .aload 0, .iload 3, .aload 0, .getfield 227, .iload 3, .iaload, .ineg, .invokevirtual 52, .goto 7]), ([0, 1, 2, 3], [.aload 0, .iload 3, .iload 2, .invokevirtual 52, .goto_w 7]), ([0, 1, 2, 3], [.iinc 3 1, .goto 1]), ([], [.return_])])
/-- BannerParade$Row.carriers()I -/
def xM55 : XT := (1, 3, 7, 1, [], [([0], [.iconst 0, .istore 1, .iconst 0, .istore 2, .goto_w 1]), ([0, 1, 2], [.iload 2, .aload 0, .getfield 224, .if_icmp .ge 5, .goto_w 2]), ([0, 1, 2], [.aload 0, .getfield 229, .iload 2, .iaload, .ifCond .eq 4, .goto_w 3]), ([0, 1, 2], [.iinc 1 1, .goto_w 4]), ([0, 1, 2], [.iinc 2 1, .goto 1]), ([1], [.iload 1, .ireturn])])
/-- BannerParade$Row.carriersOf(I)I -/
def xM56 : XT := (2, 4, 7, 1, [], [([0, 1], [.iconst 0, .istore 2, .iconst 0, .istore 3, .goto_w 1]), ([0, 1, 2, 3], [.iload 3, .aload 0, .getfield 224, .if_icmp .ge 5, .goto_w 2]), ([0, 1, 2, 3], [.aload 0, .getfield 229, .iload 3, .iaload, .iload 1, .if_icmp .ne 4, .goto_w 3]), ([0, 1, 2, 3], [.iinc 2 1, .goto_w 4]), ([0, 1, 2, 3], [.iinc 3 1, .goto 1]), ([2], [.iload 2, .ireturn])])
/-- BannerParade$Row.carriersOfOwnLetter()I -/
def xM57 : XT := (1, 3, 7, 1, [], [([0], [.iconst 0, .istore 1, .iconst 0, .istore 2, .goto_w 1]), ([0, 1, 2], [.iload 2, .aload 0, .getfield 224, .if_icmp .ge 5, .goto_w 2]), ([0, 1, 2], [.aload 0, .getfield 229, .iload 2, .iaload, .aload 0, .getfield 225, .iload 2, .iaload, .if_icmp .ne 4, .goto_w 3]), ([0, 1, 2], [.iinc 1 1, .goto_w 4]), ([0, 1, 2], [.iinc 2 1, .goto 1]), ([1], [.iload 1, .ireturn])])
/-- BannerParade$Row.withinSpace(I)I -/
def xM58 : XT := (2, 4, 7, 1, [], [([0, 1], [.iconst 0, .istore 2, .iconst 1, .istore 3, .goto_w 1]), ([0, 1, 2, 3], [.iload 3, .aload 0, .getfield 224, .if_icmp .ge 5, .goto_w 2]), ([0, 1, 2, 3], [.aload 0, .iload 3, .invokevirtual 51, .iload 1, .if_icmp .gt 4, .goto_w 3]), ([0, 1, 2, 3], [.iinc 2 1, .goto_w 4]), ([0, 1, 2, 3], [.iinc 3 1, .goto 1]), ([2], [.iload 2, .ireturn])])
/-- BannerParade$Row.strideSum()I -/
def xM59 : XT := (1, 3, 7, 1, [], [([0], [.iconst 0, .istore 1, .iconst 0, .istore 2, .goto_w 1]), ([0, 1, 2], [.iload 2, .aload 0, .getfield 224, .if_icmp .ge 3, .goto_w 2]), ([0, 1, 2], [.iload 1, .aload 0, .iload 2, .invokevirtual 50, .iadd, .istore 1, .iinc 2 1, .goto 1]), ([1], [.iload 1, .ireturn])])
/-- BannerParade$Row.strengthSum()I -/
def xM60 : XT := (1, 3, 7, 1, [], [([0], [.iconst 0, .istore 1, .iconst 0, .istore 2, .goto_w 1]), ([0, 1, 2], [.iload 2, .aload 0, .getfield 224, .if_icmp .ge 3, .goto_w 2]), ([0, 1, 2], [.iload 1, .aload 0, .getfield 228, .iload 2, .iaload, .iadd, .istore 1, .iinc 2 1, .goto 1]), ([1], [.iload 1, .ireturn])])
/-- BannerParade$Row.meanOfStrength()D -/
def xM61 : XT := (1, 1, 7, 7, [], [([0], [.aload 0, .getfield 224, .ifCond .le 2, .goto_w 1]), ([0], [.aload 0, .invokevirtual 60, .i2d, .aload 0, .getfield 224, .i2d, .ddiv, .goto 3]), ([], [.dconst 0, .goto_w 3]), ([], [.dreturn])])
/-- BannerParade$Row.upToStrength(I)I -/
def xM62 : XT := (2, 4, 7, 1, [], [([0, 1], [.iconst 0, .istore 2, .iconst 0, .istore 3, .goto_w 1]), ([0, 1, 2, 3], [.iload 3, .aload 0, .getfield 224, .if_icmp .ge 5, .goto_w 2]), ([0, 1, 2, 3], [.aload 0, .getfield 228, .iload 3, .iaload, .iload 1, .if_icmp .gt 4, .goto_w 3]), ([0, 1, 2, 3], [.iload 2, .iconst 1, .iload 3, .ishl, .ior, .istore 2, .goto_w 4]), ([0, 1, 2, 3], [.iinc 3 1, .goto 1]), ([2], [.iload 2, .ireturn])])
/-- BannerParade$Row.belowStrength(I)I -/
def xM63 : XT := (2, 4, 7, 1, [], [([0, 1], [.iconst 0, .istore 2, .iconst 0, .istore 3, .goto_w 1]), ([0, 1, 2, 3], [.iload 3, .aload 0, .getfield 224, .if_icmp .ge 5, .goto_w 2]), ([0, 1, 2, 3], [.aload 0, .getfield 228, .iload 3, .iaload, .iload 1, .if_icmp .ge 4, .goto_w 3]), ([0, 1, 2, 3], [.iinc 2 1, .goto_w 4]), ([0, 1, 2, 3], [.iinc 3 1, .goto 1]), ([2], [.iload 2, .ireturn])])
/-- BannerParade$Row.beyond(I)I -/
def xM64 : XT := (2, 4, 7, 1, [], [([0, 1], [.iconst 0, .istore 2, .iconst 0, .istore 3, .goto_w 1]), ([0, 1, 2, 3], [.iload 3, .aload 0, .getfield 224, .if_icmp .ge 5, .goto_w 2]), ([0, 1, 2, 3], [.aload 0, .getfield 230, .iload 3, .iaload, .iload 1, .if_icmp .le 4, .goto_w 3]), ([0, 1, 2, 3], [.iinc 2 1, .goto_w 4]), ([0, 1, 2, 3], [.iinc 3 1, .goto 1]), ([2], [.iload 2, .ireturn])])
/-- BannerParade$Row.shortOf(I)I -/
def xM65 : XT := (2, 4, 7, 1, [], [([0, 1], [.iconst 0, .istore 2, .iconst 0, .istore 3, .goto_w 1]), ([0, 1, 2, 3], [.iload 3, .aload 0, .getfield 224, .if_icmp .ge 5, .goto_w 2]), ([0, 1, 2, 3], [.aload 0, .getfield 230, .iload 3, .iaload, .iload 1, .if_icmp .ge 4, .goto_w 3]), ([0, 1, 2, 3], [.iinc 2 1, .goto_w 4]), ([0, 1, 2, 3], [.iinc 3 1, .goto 1]), ([2], [.iload 2, .ireturn])])
/-- BannerParade$Row.leastDifference(I)I -/
def xM66 : XT := (2, 5, 7, 1, [], [([0, 1], [.iconst (-1), .istore 2, .iconst 0, .istore 3, .goto_w 1]), ([0, 1, 2, 3], [.iload 3, .aload 0, .getfield 224, .if_icmp .ge 6, .goto_w 2]), ([0, 1, 2, 3], [.aload 0, .getfield 230, .iload 3, .iaload, .iload 1, .isub, .invokestatic 384, .istore 4, .iload 2, .iconst (-1), .if_icmp .eq 4, .goto_w 3]), ([0, 1, 2, 3, 4], [.iload 4, .iload 2, .if_icmp .ge 5, .goto_w 4]), ([0, 1, 3, 4], [.iload 4, .istore 2, .goto_w 5]), ([0, 1, 2, 3], [.iinc 3 1, .goto 1]), ([2], [.iload 2, .ireturn])])
/-- BannerParade$State.<init>()V -/
def xM67 : XT := (1, 1, 8, 0, [], [([0], [.aload 0, .monitorexit, .aload 0, .iconst 0, .putfield 256, .aload 0, .iconst 0, .putfield 257, .aload 0, .iconst 0, .putfield 258, .aload 0, .iconst 0, .putfield 259, .aload 0, .iconst 6, .newarray .int, .putfield 260, .aload 0, .iconst 6, .newarray .int, .putfield 261, .aload 0, .new 7, .dup, .invokespecial 47, .putfield 262, .aload 0, .new 1, .dup, .invokespecial 3, .putfield 263, .aload 0, .new 4, .dup, .invokespecial 27, .putfield 264, .return_])])
/-- BannerParade$State.copyFrom(LBannerParade$State;)V -/
def xM68 : XT := (2, 2, 8, 0, [], [([0, 1], [.aload 0, .aload 1, .getfield 256, .putfield 256, .aload 0, .aload 1, .getfield 257, .putfield 257, .aload 0, .aload 1, .getfield 258, .putfield 258, .aload 0, .aload 1, .getfield 259, .putfield 259, .aload 1, .getfield 260, .aload 0, .getfield 260, .invokestatic 172, .aload 1, .getfield 261, .aload 0, .getfield 261, .invokestatic 172, .aload 0, .getfield 262, .aload 1, .getfield 262, .invokevirtual 48, .aload 0, .getfield 263, .aload 1, .getfield 263, .invokevirtual 4, .aload 0, .getfield 264, .aload 1, .getfield 264, .invokevirtual 28, .return_])])
/-- BannerParade$State.clear()V -/
def xM69 : XT := (1, 2, 8, 0, [], [([0], [.aload 0, .iconst 0, .putfield 256, .aload 0, .iconst 0, .putfield 257, .aload 0, .iconst 0, .putfield 258, .aload 0, .iconst 0, .putfield 259, .aload 0, .getfield 262, .iconst 0, .putfield 224, .aload 0, .getfield 263, .iconst 0, .putfield 32, .aload 0, .getfield 264, .iconst 0, .putfield 128, .iconst 0, .istore 1, .goto_w 1]), ([0, 1], [.iload 1, .aload 0, .getfield 261, .arraylength, .if_icmp .ge 3, .goto_w 2]), ([0, 1], [.aload 0, .getfield 261, .iload 1, .iconst (-1), .iastore, .iinc 1 1, .goto 1]), ([], [.return_])])
/-- BannerParade$State.passTick()V -/
def xM70 : XT := (1, 1, 8, 0, [], [([0], [.aload 0, .dup, .getfield 256, .iconst 1, .iadd, .putfield 256, .aload 0, .invokevirtual 71, .aload 0, .getfield 262, .aload 0, .getfield 260, .iconst 0, .iaload, .aload 0, .getfield 260, .iconst 3, .iaload, .invokevirtual 54, .aload 0, .invokevirtual 72, .aload 0, .invokevirtual 73, .return_])])
/-- BannerParade$State.doPlans()V -/
def xM71 : XT := (1, 3, 8, 0, [], [([0], [.iconst 0, .istore 1, .goto_w 1]), ([0, 1], [.iload 1, .aload 0, .getfield 264, .getfield 128, .if_icmp .ge 9, .goto_w 2]), ([0, 1], [.aload 0, .getfield 264, .getfield 129, .iload 1, .iaload, .aload 0, .getfield 256, .if_icmp .ne 8, .goto_w 3]), ([0, 1], [.aload 0, .aload 0, .getfield 264, .getfield 130, .iload 1, .iaload, .invokevirtual 74, .istore 2, .aload 0, .getfield 264, .getfield 131, .iload 1, .iload 2, .ifCond .eq 5, .goto_w 4]), ([0, 1, 2], [.iconst 1, .goto 6]), ([0, 1, 2], [.iconst 2, .goto_w 6]), ([0, 1, 2], [.iastore, .iload 2, .ifCond .eq 8, .goto_w 7]), ([0, 1], [.aload 0, .aload 0, .getfield 264, .getfield 130, .iload 1, .iaload, .invokevirtual 75, .goto_w 8]), ([0, 1], [.iinc 1 1, .goto 1]), ([], [.return_])])
/-- BannerParade$State.dropOfTheWeak()V -/
def xM72 : XT := (1, 2, 8, 0, [], [([0], [.iconst 0, .istore 1, .goto_w 1]), ([0, 1], [.iload 1, .aload 0, .getfield 262, .getfield 224, .if_icmp .ge 6, .goto_w 2]), ([0, 1], [.aload 0, .getfield 262, .getfield 229, .iload 1, .iaload, .ifCond .eq 5, .goto_w 3]), ([0, 1], [.aload 0, .getfield 262, .getfield 228, .iload 1, .iaload, .ifCond .ne 5, .goto_w 4]), ([0, 1], [.aload 0, .iload 1, .invokevirtual 76, .goto_w 5]), ([0, 1], [.iinc 1 1, .goto 1]), ([], [.return_])])
/-- BannerParade$State.liftOnTheWay()V -/
def xM73 : XT := (1, 2, 8, 0, [], [([0], [.iconst 0, .istore 1, .goto_w 1]), ([0, 1], [.iload 1, .aload 0, .getfield 262, .getfield 224, .if_icmp .ge 6, .goto_w 2]), ([0, 1], [.aload 0, .getfield 263, .getfield 32, .ifCond .le 5, .goto_w 3]), ([0, 1], [.aload 0, .iload 1, .invokevirtual 77, .ifCond .eq 5, .goto_w 4]), ([0, 1], [.aload 0, .iload 1, .aload 0, .getfield 263, .aload 0, .getfield 262, .getfield 231, .iload 1, .iaload, .aload 0, .getfield 262, .getfield 230, .iload 1, .iaload, .invokevirtual 8, .invokevirtual 78, .goto_w 5]), ([0, 1], [.iinc 1 1, .goto 1]), ([], [.return_])])
/-- BannerParade$State.maySwap(I)Z -/
def xM74 : XT := (2, 2, 8, 2, [], [([0, 1], [.iload 1, .ifCond .lt 6, .goto_w 1]), ([0, 1], [.iload 1, .iconst 1, .iadd, .aload 0, .getfield 262, .getfield 224, .if_icmp .ge 6, .goto_w 2]), ([0, 1], [.aload 0, .getfield 262, .iload 1, .iconst 1, .iadd, .invokevirtual 51, .aload 0, .getfield 260, .iconst 5, .iaload, .if_icmp .gt 6, .goto_w 3]), ([0, 1], [.aload 0, .getfield 262, .getfield 228, .iload 1, .iaload, .iconst 1, .if_icmp .lt 6, .goto_w 4]), ([0, 1], [.aload 0, .getfield 262, .getfield 228, .iload 1, .iconst 1, .iadd, .iaload, .iconst 1, .if_icmp .lt 6, .goto_w 5]), ([], [.iconst 1, .goto 7]), ([], [.iconst 0, .goto_w 7]), ([], [.ireturn])])
/-- BannerParade$State.swapBanners(I)V -/
def xM75 : XT := (2, 2, 8, 0, [], [([0, 1], [.aload 0, .getfield 262, .iload 1, .invokevirtual 53, .aload 0, .getfield 262, .iload 1, .iconst (-2), .invokevirtual 52, .aload 0, .getfield 262, .iload 1, .iconst 1, .iadd, .iconst (-2), .invokevirtual 52, .aload 0, .dup, .getfield 257, .iconst 1, .iadd, .putfield 257, .return_])])
/-- BannerParade$State.dropBanner(I)V -/
def xM76 : XT := (2, 2, 8, 0, [], [([0, 1], [.aload 0, .getfield 263, .aload 0, .getfield 262, .getfield 229, .iload 1, .iaload, .aload 0, .getfield 262, .getfield 230, .iload 1, .iaload, .aload 0, .getfield 256, .invokevirtual 5, .aload 0, .getfield 262, .getfield 229, .iload 1, .iconst 0, .iastore, .aload 0, .dup, .getfield 258, .iconst 1, .iadd, .putfield 258, .return_])])
/-- BannerParade$State.mayLift(I)Z -/
def xM77 : XT := (2, 2, 8, 2, [], [([0, 1], [.aload 0, .getfield 262, .getfield 229, .iload 1, .iaload, .ifCond .ne 3, .goto_w 1]), ([0, 1], [.aload 0, .getfield 262, .getfield 228, .iload 1, .iaload, .aload 0, .getfield 260, .iconst 4, .iaload, .if_icmp .lt 3, .goto_w 2]), ([], [.iconst 1, .goto 4]), ([], [.iconst 0, .goto_w 4]), ([], [.ireturn])])
/-- BannerParade$State.liftBanner(II)V -/
def xM78 : XT := (3, 3, 8, 0, [], [([0, 1, 2], [.iload 2, .ifCond .lt 2, .goto_w 1]), ([0, 1, 2], [.iload 2, .aload 0, .getfield 263, .getfield 32, .if_icmp .lt 3, .goto_w 2]), ([], [.return_]), ([0, 1, 2], [.aload 0, .getfield 262, .getfield 229, .iload 1, .aload 0, .getfield 263, .getfield 33, .iload 2, .iaload, .iastore, .aload 0, .getfield 263, .iload 2, .invokevirtual 6, .aload 0, .dup, .getfield 259, .iconst 1, .iadd, .putfield 259, .return_])])
/-- BannerParade$State.isInSight(II)Z -/
def xM79 : XT := (3, 3, 8, 2, [], [([0, 1, 2], [.aload 0, .getfield 262, .getfield 229, .iload 1, .iaload, .ifCond .eq 3, .goto_w 1]), ([0, 1, 2], [.aload 0, .getfield 262, .getfield 230, .iload 1, .iaload, .iload 2, .isub, .invokestatic 384, .aload 0, .getfield 260, .iconst 1, .iaload, .if_icmp .gt 3, .goto_w 2]), ([], [.iconst 1, .goto 4]), ([], [.iconst 0, .goto_w 4]), ([], [.ireturn])])
/-- BannerParade$Tokens.<init>()V -/
def xM80 : XT := (1, 1, 9, 0, [], [([0], [.aload 0, .monitorexit, .aload 0, .iconst 700, .newarray .int, .putfield 288, .aload 0, .iconst 0, .putfield 289, .aload 0, .iconst 0, .putfield 290, .aload 0, .iconst 0, .putfield 291, .aload 0, .iconst 0, .putfield 292, .aload 0, .iconst 0, .putfield 293, .aload 0, .iconst 0, .putfield 294, .return_])])
/-- BannerParade$Tokens.putTwenty(IIIII)I -/
def xM81 : XT := (6, 6, 9, 1, [], [([0, 1, 2, 3, 4, 5], [.aload 0, .getfield 289, .iconst 20, .iadd, .iconst 700, .if_icmp .le 2, .goto_w 1]), ([], [.iconst (-1), .ireturn]), ([0, 1, 2, 3, 4, 5], [.aload 0, .iload 1, .invokevirtual 82, .aload 0, .iload 2, .invokevirtual 82, .aload 0, .iload 3, .invokevirtual 82, .aload 0, .iload 4, .invokevirtual 82, .aload 0, .iload 5, .invokevirtual 82, .aload 0, .getfield 289, .ireturn])])
/-- BannerParade$Tokens.putFour(I)V -/
def xM82 : XT := (2, 3, 9, 0, [], [([0, 1], [.iconst 24, .istore 2, .goto_w 1]), ([0, 1, 2], [.iload 2, .ifCond .lt 4, .goto_w 2]), ([0, 1, 2], [.aload 0, .getfield 289, .aload 0, .getfield 288, .arraylength, .if_icmp .ge 4, .goto_w 3]), ([0, 1, 2], [.aload 0, .getfield 288, .aload 0, .getfield 289, .iload 1, .iload 2, .iushr, .iconst 255, .iand, .iastore, .aload 0, .dup, .getfield 289, .iconst 1, .iadd, .putfield 289, .iinc 2 (-8), .goto 1]), ([], [.return_])])
/-- BannerParade$Tokens.begin(I)V -/
def xM83 : XT := (2, 2, 9, 0, [], [([0, 1], [.aload 0, .iconst 0, .iload 1, .aload 0, .getfield 288, .arraylength, .invokestatic 386, .invokestatic 385, .putfield 290, .aload 0, .iconst 0, .putfield 292, .return_])])
/-- BannerParade$Tokens.readToken()V -/
def xM84 : XT := (1, 1, 9, 0, [], [([0], [.aload 0, .getfield 292, .aload 0, .getfield 290, .if_icmp .ge 3, .goto_w 1]), ([0], [.aload 0, .getfield 288, .aload 0, .getfield 292, .iaload, .iconst 32, .if_icmp .ne 3, .goto_w 2]), ([0], [.aload 0, .dup, .getfield 292, .iconst 1, .iadd, .putfield 292, .goto 0]), ([0], [.aload 0, .aload 0, .getfield 292, .putfield 291, .aload 0, .getfield 291, .aload 0, .getfield 290, .if_icmp .lt 5, .goto_w 4]), ([0], [.aload 0, .iconst 0, .putfield 293, .goto 15]), ([0], [.aload 0, .getfield 288, .aload 0, .getfield 291, .iaload, .iconst 97, .if_icmp .lt 8, .goto_w 6]), ([0], [.aload 0, .getfield 288, .aload 0, .getfield 291, .iaload, .iconst 122, .if_icmp .gt 8, .goto_w 7]), ([0], [.aload 0, .invokevirtual 85, .goto 15]), ([0], [.aload 0, .getfield 288, .aload 0, .getfield 291, .iaload, .iconst 48, .if_icmp .lt 11, .goto_w 9]), ([0], [.aload 0, .getfield 288, .aload 0, .getfield 291, .iaload, .iconst 57, .if_icmp .gt 11, .goto_w 10]), ([0], [.aload 0, .invokevirtual 86, .goto 15]), ([0], [.aload 0, .aload 0, .getfield 288, .aload 0, .getfield 291, .iaload, .iconst 59, .if_icmp .ne 13, .goto_w 12]), ([0], [.iconst 3, .goto 14]), ([0], [.iconst 4, .goto_w 14]), ([0], [.putfield 293, .aload 0, .dup, .getfield 292, .iconst 1, .iadd, .putfield 292, .goto_w 15]), ([], [.return_])])
/-- BannerParade$Tokens.readWord()V -/
def xM85 : XT := (1, 1, 9, 0, [], [([0], [.aload 0, .getfield 292, .aload 0, .getfield 290, .if_icmp .ge 4, .goto_w 1]), ([0], [.aload 0, .getfield 288, .aload 0, .getfield 292, .iaload, .iconst 97, .if_icmp .lt 4, .goto_w 2]), ([0], [.aload 0, .getfield 288, .aload 0, .getfield 292, .iaload, .iconst 122, .if_icmp .gt 4, .goto_w 3]), ([0], [.aload 0, .dup, .getfield 292, .iconst 1, .iadd, .putfield 292, .goto 0]), ([0], [.aload 0, .aload 0, .getfield 292, .aload 0, .getfield 291, .isub, .iconst 8, .if_icmp .gt 6, .goto_w 5]), ([], [.iconst 1, .goto 7]), ([], [.iconst 4, .goto_w 7]), ([], [.putfield 293, .return_])])
/-- BannerParade$Tokens.readDigits()V -/
def xM86 : XT := (1, 1, 9, 0, [], [([0], [.aload 0, .iconst 0, .putfield 294, .goto_w 1]), ([0], [.aload 0, .getfield 292, .aload 0, .getfield 290, .if_icmp .ge 5, .goto_w 2]), ([0], [.aload 0, .getfield 288, .aload 0, .getfield 292, .iaload, .iconst 48, .if_icmp .lt 5, .goto_w 3]), ([0], [.aload 0, .getfield 288, .aload 0, .getfield 292, .iaload, .iconst 57, .if_icmp .gt 5, .goto_w 4]), ([0], [.aload 0, .aload 0, .getfield 294, .iconst 10, .imul, .aload 0, .getfield 288, .aload 0, .getfield 292, .iaload, .iadd, .iconst 48, .isub, .putfield 294, .aload 0, .dup, .getfield 292, .iconst 1, .iadd, .putfield 292, .goto 1]), ([0], [.aload 0, .aload 0, .getfield 292, .aload 0, .getfield 291, .isub, .iconst 4, .if_icmp .gt 7, .goto_w 6]), ([], [.iconst 2, .goto 8]), ([], [.iconst 4, .goto_w 8]), ([], [.putfield 293, .return_])])
/-- BannerParade$Tokens.wordLength()I -/
def xM87 : XT := (1, 1, 9, 1, [], [([0], [.aload 0, .getfield 293, .iconst 1, .if_icmp .ne 2, .goto_w 1]), ([0], [.aload 0, .getfield 292, .aload 0, .getfield 291, .isub, .goto 3]), ([], [.iconst 0, .goto_w 3]), ([], [.ireturn])])
/-- BannerParade$Tokens.byteOfToken(I)I -/
def xM88 : XT := (2, 3, 9, 1, [], [([0, 1], [.aload 0, .getfield 291, .iload 1, .iadd, .istore 2, .iload 1, .ifCond .lt 5, .goto_w 1]), ([0, 2], [.iload 2, .ifCond .lt 5, .goto_w 2]), ([0, 2], [.iload 2, .aload 0, .getfield 292, .if_icmp .ge 5, .goto_w 3]), ([0, 2], [.iload 2, .aload 0, .getfield 288, .arraylength, .if_icmp .ge 5, .goto_w 4]), ([0, 2], [.aload 0, .getfield 288, .iload 2, .iaload, .goto 6]), ([], [.iconst (-1), .goto_w 6]), ([], [.ireturn])])
/-- BannerParade$Tokens.isWord(Ljava/lang/String;)Z -/
def xM89 : XT := (2, 3, 9, 2, [], [([0, 1], [.aload 0, .invokevirtual 87, .aload 1, .invokevirtual 391, .if_icmp .eq 2, .goto_w 1]), ([], [.iconst 0, .ireturn]), ([0, 1], [.iconst 0, .istore 2, .goto_w 3]), ([0, 1, 2], [.iload 2, .aload 1, .invokevirtual 391, .if_icmp .ge 7, .goto_w 4]), ([0, 1, 2], [.aload 0, .iload 2, .invokevirtual 88, .aload 1, .iload 2, .invokevirtual 392, .if_icmp .eq 6, .goto_w 5]), ([], [.iconst 0, .ireturn]), ([0, 1, 2], [.iinc 2 1, .goto 3]), ([], [.iconst 1, .ireturn])])
/-- BannerParade.<init>()V -/
def xM90 : XT := (1, 1, 10, 0, [], [([0], [.aload 0, .monitorexit, .aload 0, .new 3, .dup, .invokespecial 18, .putfield 320, .aload 0, .new 8, .dup, .invokespecial 67, .putfield 321, .aload 0, .new 8, .dup, .invokespecial 67, .putfield 322, .aload 0, .new 6, .dup, .invokespecial 41, .putfield 323, .aload 0, .new 2, .dup, .invokespecial 10, .putfield 324, .aload 0, .new 5, .dup, .invokespecial 32, .putfield 325, .aload 0, .new 0, .dup, .invokespecial 0, .putfield 326, .aload 0, .iconst 0, .putfield 327, .return_])])
/-- BannerParade.append(IIIII)I -/
def xM91 : XT := (6, 6, 10, 1, [], [([0, 1, 2, 3, 4, 5], [.aload 0, .getfield 320, .getfield 96, .iload 1, .iload 2, .iload 3, .iload 4, .iload 5, .invokevirtual 81, .ireturn])])
/-- BannerParade.load(I)I -/
def xM92 : XT := (2, 3, 10, 1, [], [([0, 1], [.iload 1, .ifCond .lt 2, .goto_w 1]), ([0, 1], [.iload 1, .aload 0, .getfield 320, .getfield 96, .getfield 289, .if_icmp .le 3, .goto_w 2]), ([], [.checkcast 2]), ([0, 1], [.aload 0, .getfield 320, .iload 1, .invokevirtual 19, .istore 2, .aload 0, .getfield 320, .getfield 96, .iconst 0, .putfield 289, .iload 2, .invokestatic 160, .aload 0, .getfield 321, .aload 0, .getfield 320, .getfield 97, .invokevirtual 68, .aload 0, .getfield 323, .aload 0, .getfield 320, .getfield 98, .invokevirtual 42, .aload 0, .getfield 324, .invokevirtual 11, .aload 0, .getfield 324, .invokevirtual 12, .aload 0, .iconst 1, .putfield 327, .aload 0, .getfield 321, .getfield 262, .getfield 224, .ireturn])])
/-- BannerParade.parseError()I -/
def xM93 : XT := (1, 1, 10, 1, [], [([0], [.aload 0, .getfield 320, .getfield 99, .ireturn])])
/-- BannerParade.errorPosition()I -/
def xM94 : XT := (1, 1, 10, 1, [], [([0], [.aload 0, .getfield 320, .getfield 100, .ireturn])])
/-- BannerParade.buffered()I -/
def xM95 : XT := (1, 1, 10, 1, [], [([0], [.aload 0, .getfield 320, .getfield 96, .getfield 289, .ireturn])])
/-- BannerParade.count(I)I -/
def xM96 : XT := (2, 2, 10, 1, [], [([0, 1], [.aload 0, .invokevirtual 155, .iload 1, .iconst 0, .iconst 16, .invokestatic 159, .iload 1, .tableswitch 17 0 15 #[1, 2, 3, 4, 5, 6, 7, 8, 9, 10, 11, 12, 13, 14, 15, 16]]), ([0], [.aload 0, .getfield 321, .getfield 262, .getfield 224, .ireturn]), ([0], [.aload 0, .getfield 323, .getfield 192, .ireturn]), ([0], [.aload 0, .getfield 321, .getfield 264, .getfield 128, .ireturn]), ([0], [.aload 0, .getfield 321, .getfield 256, .ireturn]), ([0], [.aload 0, .getfield 321, .getfield 262, .invokevirtual 55, .ireturn]), ([0], [.aload 0, .getfield 321, .getfield 263, .getfield 32, .ireturn]), ([0], [.aload 0, .getfield 321, .getfield 257, .ireturn]), ([0], [.aload 0, .getfield 321, .getfield 264, .iconst 2, .invokevirtual 30, .ireturn]), ([0], [.aload 0, .getfield 321, .getfield 258, .ireturn]), ([0], [.aload 0, .getfield 321, .getfield 259, .ireturn]), ([0], [.aload 0, .invokevirtual 166, .invokestatic 383, .ireturn]), ([0], [.aload 0, .getfield 321, .getfield 264, .iconst 0, .invokevirtual 30, .ireturn]), ([0], [.aload 0, .getfield 321, .getfield 262, .iconst 0, .invokevirtual 62, .invokestatic 383, .ireturn]), ([0], [.aload 0, .getfield 321, .getfield 262, .invokevirtual 57, .ireturn]), ([0], [.aload 0, .getfield 321, .getfield 262, .aload 0, .getfield 321, .getfield 260, .iconst 0, .iaload, .invokevirtual 58, .ireturn]), ([0], [.aload 0, .getfield 321, .getfield 262, .invokevirtual 59, .ireturn]), ([0], [.aload 0, .invokevirtual 167, .ireturn])])
/-- BannerParade.setting(I)I -/
def xM97 : XT := (2, 2, 10, 1, [], [([0, 1], [.aload 0, .invokevirtual 155, .iload 1, .iconst 0, .iconst 5, .invokestatic 159, .aload 0, .getfield 321, .getfield 260, .iload 1, .iaload, .ireturn])])
/-- BannerParade.bearer(II)I -/
def xM98 : XT := (3, 4, 10, 1, [], [([0, 1, 2], [.aload 0, .invokevirtual 155, .aload 0, .iload 1, .invokevirtual 156, .iload 2, .iconst 0, .iconst 12, .invokestatic 159, .aload 0, .getfield 321, .getfield 262, .astore 3, .iload 2, .tableswitch 13 0 11 #[1, 2, 3, 4, 5, 6, 7, 8, 9, 10, 11, 12]]), ([1, 3], [.aload 3, .getfield 229, .iload 1, .iaload, .ireturn]), ([1, 3], [.aload 3, .getfield 230, .iload 1, .iaload, .ireturn]), ([1, 3], [.aload 3, .getfield 226, .iload 1, .iaload, .ireturn]), ([1, 3], [.aload 3, .getfield 227, .iload 1, .iaload, .ireturn]), ([1, 3], [.aload 3, .getfield 228, .iload 1, .iaload, .ireturn]), ([1, 3], [.aload 3, .iload 1, .invokevirtual 50, .ireturn]), ([1, 3], [.aload 3, .iload 1, .invokevirtual 51, .ireturn]), ([1, 3], [.aload 3, .getfield 232, .iload 1, .iaload, .ireturn]), ([1, 3], [.aload 3, .getfield 225, .iload 1, .iaload, .ireturn]), ([0, 1], [.aload 0, .iload 1, .invokevirtual 168, .ireturn]), ([1, 3], [.aload 3, .getfield 230, .iconst 0, .iaload, .aload 3, .getfield 230, .iload 1, .iaload, .isub, .ireturn]), ([1, 3], [.aload 3, .aload 3, .getfield 228, .iload 1, .iaload, .invokevirtual 63, .ireturn]), ([0, 1, 3], [.aload 0, .getfield 321, .getfield 263, .aload 3, .getfield 230, .iload 1, .iaload, .aload 3, .getfield 230, .iload 1, .iaload, .invokevirtual 7, .ifCond .le 15, .goto_w 14]), ([], [.iconst 1, .goto 16]), ([], [.iconst 0, .goto_w 16]), ([], [.ireturn])])
/-- BannerParade.stand(II)I -/
def xM99 : XT := (3, 4, 10, 1, [], [([0, 1, 2], [.aload 0, .invokevirtual 155, .aload 0, .iload 1, .invokevirtual 157, .iload 2, .iconst 0, .iconst 8, .invokestatic 159, .aload 0, .getfield 321, .getfield 260, .iconst 1, .iaload, .istore 3, .iload 2, .tableswitch 9 0 7 #[1, 2, 3, 4, 5, 6, 7, 8]]), ([0, 1], [.aload 0, .getfield 323, .getfield 193, .iload 1, .iaload, .ireturn]), ([0, 1], [.aload 0, .getfield 323, .getfield 194, .iload 1, .iaload, .ireturn]), ([0, 1], [.aload 0, .getfield 323, .getfield 195, .iload 1, .iaload, .ireturn]), ([0, 1], [.aload 0, .getfield 321, .getfield 261, .iload 1, .iaload, .ireturn]), ([0, 1], [.aload 0, .iload 1, .invokevirtual 169, .invokestatic 383, .ireturn]), ([0, 1], [.aload 0, .iload 1, .invokevirtual 161, .getfield 160, .ireturn]), ([0, 1], [.aload 0, .getfield 321, .getfield 262, .aload 0, .getfield 323, .getfield 194, .iload 1, .iaload, .invokevirtual 66, .ireturn]), ([0, 1, 3], [.aload 0, .getfield 321, .getfield 262, .aload 0, .getfield 323, .getfield 194, .iload 1, .iaload, .iload 3, .iadd, .invokevirtual 64, .ireturn]), ([0, 1, 3], [.aload 0, .getfield 321, .getfield 262, .aload 0, .getfield 323, .getfield 194, .iload 1, .iaload, .iload 3, .isub, .invokevirtual 65, .ireturn])])
/-- BannerParade.plan(II)I -/
def xM100 : XT := (3, 4, 10, 1, [], [([0, 1, 2], [.aload 0, .invokevirtual 155, .aload 0, .getfield 321, .getfield 264, .astore 3, .iload 1, .aload 3, .getfield 128, .invokestatic 158, .iload 2, .iconst 0, .iconst 3, .invokestatic 159, .iload 2, .tableswitch 4 0 2 #[1, 2, 3]]), ([1, 3], [.aload 3, .getfield 129, .iload 1, .iaload, .ireturn]), ([1, 3], [.aload 3, .getfield 130, .iload 1, .iaload, .ireturn]), ([1, 3], [.aload 3, .getfield 131, .iload 1, .iaload, .ireturn]), ([0, 1, 3], [.aload 3, .getfield 131, .iload 1, .iaload, .ifCond .ne 6, .goto_w 5]), ([0, 1, 3], [.aload 3, .getfield 129, .iload 1, .iaload, .aload 0, .getfield 321, .getfield 256, .isub, .goto 7]), ([], [.iconst (-1), .goto_w 7]), ([], [.ireturn])])
/-- BannerParade.lying(II)I -/
def xM101 : XT := (3, 4, 10, 1, [], [([0, 1, 2], [.aload 0, .invokevirtual 155, .aload 0, .getfield 321, .getfield 263, .astore 3, .iload 1, .aload 3, .getfield 32, .invokestatic 158, .iload 2, .iconst 0, .iconst 2, .invokestatic 159, .iload 2, .lookupswitch 3 #[(0, 1), (1, 2)]]), ([1, 3], [.aload 3, .getfield 33, .iload 1, .iaload, .ireturn]), ([1, 3], [.aload 3, .getfield 34, .iload 1, .iaload, .ireturn]), ([1, 3], [.aload 3, .getfield 35, .iload 1, .iaload, .ireturn])])
/-- BannerParade.wordByte(II)I -/
def xM102 : XT := (3, 3, 10, 1, [], [([0, 1, 2], [.aload 0, .invokevirtual 155, .aload 0, .iload 1, .invokevirtual 157, .aload 0, .getfield 323, .iload 1, .iload 2, .invokevirtual 45, .ireturn])])
/-- BannerParade.readByte(II)I -/
def xM103 : XT := (3, 3, 10, 1, [], [([0, 1, 2], [.aload 0, .invokevirtual 155, .aload 0, .iload 1, .invokevirtual 157, .aload 0, .iload 1, .invokevirtual 161, .iload 2, .invokevirtual 35, .ireturn])])
/-- BannerParade.seen(I)I -/
def xM104 : XT := (2, 2, 10, 1, [], [([0, 1], [.aload 0, .invokevirtual 155, .aload 0, .iload 1, .invokevirtual 157, .aload 0, .iload 1, .invokevirtual 169, .ireturn])])
/-- BannerParade.matches(I)I -/
def xM105 : XT := (2, 2, 10, 1, [], [([0, 1], [.aload 0, .invokevirtual 155, .aload 0, .iload 1, .invokevirtual 157, .aload 0, .iload 1, .invokevirtual 161, .aload 0, .getfield 323, .iload 1, .invokevirtual 37, .ireturn])])
/-- BannerParade.isRead(I)Z -/
def xM106 : XT := (2, 2, 10, 2, [], [([0, 1], [.aload 0, .invokevirtual 155, .aload 0, .iload 1, .invokevirtual 157, .aload 0, .iload 1, .invokevirtual 161, .aload 0, .getfield 323, .iload 1, .invokevirtual 39, .ireturn])])
/-- BannerParade.share(I)F -/
def xM107 : XT := (2, 2, 10, 6, [], [([0, 1], [.aload 0, .invokevirtual 155, .aload 0, .iload 1, .invokevirtual 157, .aload 0, .iload 1, .invokevirtual 161, .aload 0, .getfield 323, .iload 1, .invokevirtual 40, .freturn])])
/-- BannerParade.shareBits(I)I -/
def xM108 : XT := (2, 2, 10, 1, [], [([0, 1], [.aload 0, .invokevirtual 155, .aload 0, .iload 1, .invokevirtual 157, .aload 0, .iload 1, .invokevirtual 161, .aload 0, .getfield 323, .iload 1, .invokevirtual 40, .invokestatic 170, .ireturn])])
/-- BannerParade.missing(I)I -/
def xM109 : XT := (2, 4, 10, 1, [], [([0, 1], [.aload 0, .invokevirtual 155, .aload 0, .iload 1, .invokevirtual 157, .iconst 0, .istore 2, .iconst 1, .istore 3, .goto_w 1]), ([0, 1, 2, 3], [.iload 3, .iconst 26, .if_icmp .gt 3, .goto_w 2]), ([0, 1, 2, 3], [.iload 2, .iconst 0, .aload 0, .getfield 323, .iload 1, .iload 3, .invokevirtual 46, .aload 0, .getfield 321, .getfield 262, .iload 3, .invokevirtual 56, .isub, .invokestatic 385, .iadd, .istore 2, .iinc 3 1, .goto 1]), ([2], [.iload 2, .ireturn])])
/-- BannerParade.seenAt(II)I -/
def xM110 : XT := (3, 3, 10, 1, [], [([0, 1, 2], [.aload 0, .invokevirtual 155, .aload 0, .iload 1, .invokevirtual 157, .aload 0, .iload 1, .invokevirtual 161, .iload 2, .invokevirtual 36, .ireturn])])
/-- BannerParade.blanks(I)I -/
def xM111 : XT := (2, 3, 10, 1, [], [([0, 1], [.aload 0, .invokevirtual 155, .aload 0, .iload 1, .invokevirtual 157, .aload 0, .iload 1, .invokevirtual 161, .astore 2, .aload 2, .getfield 160, .aload 2, .getfield 161, .isub, .ireturn])])
/-- BannerParade.prefix(I)I -/
def xM112 : XT := (2, 2, 10, 1, [], [([0, 1], [.aload 0, .invokevirtual 155, .aload 0, .iload 1, .invokevirtual 157, .aload 0, .iload 1, .invokevirtual 161, .aload 0, .getfield 323, .iload 1, .invokevirtual 38, .ireturn])])
/-- BannerParade.holder(I)I -/
def xM113 : XT := (2, 3, 10, 1, [], [([0, 1], [.aload 0, .invokevirtual 155, .iload 1, .iconst 1, .iconst 26, .invokestatic 159, .iconst 0, .istore 2, .goto_w 1]), ([0, 1, 2], [.iload 2, .aload 0, .getfield 321, .getfield 262, .getfield 224, .if_icmp .ge 5, .goto_w 2]), ([0, 1, 2], [.aload 0, .getfield 321, .getfield 262, .getfield 229, .iload 2, .iaload, .iload 1, .if_icmp .ne 4, .goto_w 3]), ([2], [.iload 2, .ireturn]), ([0, 1, 2], [.iinc 2 1, .goto 1]), ([], [.iconst (-1), .ireturn])])
/-- BannerParade.copies(I)I -/
def xM114 : XT := (2, 2, 10, 1, [], [([0, 1], [.aload 0, .invokevirtual 155, .iload 1, .iconst 1, .iconst 26, .invokestatic 159, .aload 0, .getfield 321, .getfield 262, .iload 1, .invokevirtual 56, .aload 0, .getfield 321, .getfield 263, .iload 1, .invokevirtual 9, .iadd, .ireturn])])
/-- BannerParade.tired(I)I -/
def xM115 : XT := (2, 2, 10, 1, [], [([0, 1], [.aload 0, .invokevirtual 155, .iload 1, .iconst 0, .iconst 100, .invokestatic 159, .aload 0, .getfield 321, .getfield 262, .iload 1, .invokevirtual 62, .ireturn])])
/-- BannerParade.swappers()I -/
def xM116 : XT := (1, 3, 10, 1, [], [([0], [.aload 0, .invokevirtual 155, .iconst 0, .istore 1, .iconst 0, .istore 2, .goto_w 1]), ([0, 1, 2], [.iload 2, .aload 0, .getfield 321, .getfield 262, .getfield 224, .if_icmp .ge 5, .goto_w 2]), ([0, 1, 2], [.aload 0, .getfield 321, .iload 2, .invokevirtual 74, .ifCond .eq 4, .goto_w 3]), ([0, 1, 2], [.iload 1, .iconst 1, .iload 2, .ishl, .ior, .istore 1, .goto_w 4]), ([0, 1, 2], [.iinc 2 1, .goto 1]), ([1], [.iload 1, .ireturn])])
/-- BannerParade.nextPlan()I -/
def xM117 : XT := (1, 1, 10, 1, [], [([0], [.aload 0, .invokevirtual 155, .aload 0, .getfield 321, .getfield 264, .invokevirtual 31, .ireturn])])
/-- BannerParade.lyingFrom(II)I -/
def xM118 : XT := (3, 3, 10, 1, [], [([0, 1, 2], [.aload 0, .invokevirtual 155, .aload 0, .getfield 321, .getfield 263, .iload 1, .iload 2, .invokevirtual 7, .ireturn])])
/-- BannerParade.bestStand()I -/
def xM119 : XT := (1, 5, 10, 1, [], [([0], [.aload 0, .invokevirtual 155, .iconst (-1), .istore 1, .ldc_w 3212836864, .fstore 2, .iconst 0, .istore 3, .goto_w 1]), ([0, 1, 2, 3], [.iload 3, .aload 0, .getfield 323, .getfield 192, .if_icmp .ge 5, .goto_w 2]), ([0, 1, 2, 3], [.aload 0, .iload 3, .invokevirtual 161, .aload 0, .getfield 323, .iload 3, .invokevirtual 40, .fstore 4, .fload 4, .fload 2, .fcmp .l, .ifCond .le 4, .goto_w 3]), ([0, 3, 4], [.iload 3, .istore 1, .fload 4, .fstore 2, .goto_w 4]), ([0, 1, 2, 3], [.iinc 3 1, .goto 1]), ([1], [.iload 1, .ireturn])])
/-- BannerParade.readStands()I -/
def xM120 : XT := (1, 1, 10, 1, [], [([0], [.aload 0, .invokevirtual 155, .aload 0, .invokevirtual 166, .ireturn])])
/-- BannerParade.weakest()I -/
def xM121 : XT := (1, 3, 10, 1, [], [([0], [.aload 0, .invokevirtual 155, .iconst (-1), .istore 1, .iconst 0, .istore 2, .goto_w 1]), ([0, 1, 2], [.iload 2, .aload 0, .getfield 321, .getfield 262, .getfield 224, .if_icmp .ge 6, .goto_w 2]), ([0, 1, 2], [.iload 1, .iconst (-1), .if_icmp .eq 4, .goto_w 3]), ([0, 1, 2], [.aload 0, .getfield 321, .getfield 262, .getfield 228, .iload 2, .iaload, .aload 0, .getfield 321, .getfield 262, .getfield 228, .iload 1, .iaload, .if_icmp .ge 5, .goto_w 4]), ([0, 2], [.iload 2, .istore 1, .goto_w 5]), ([0, 1, 2], [.iinc 2 1, .goto 1]), ([1], [.iload 1, .ireturn])])
/-- BannerParade.widest()I -/
def xM122 : XT := (1, 3, 10, 1, [], [([0], [.aload 0, .invokevirtual 155, .iconst (-1), .istore 1, .iconst 1, .istore 2, .goto_w 1]), ([0, 1, 2], [.iload 2, .aload 0, .getfield 321, .getfield 262, .getfield 224, .if_icmp .ge 6, .goto_w 2]), ([0, 1, 2], [.iload 1, .iconst (-1), .if_icmp .eq 4, .goto_w 3]), ([0, 1, 2], [.aload 0, .getfield 321, .getfield 262, .iload 2, .invokevirtual 51, .aload 0, .getfield 321, .getfield 262, .iload 1, .invokevirtual 51, .if_icmp .le 5, .goto_w 4]), ([0, 2], [.iload 2, .istore 1, .goto_w 5]), ([0, 1, 2], [.iinc 2 1, .goto 1]), ([1], [.iload 1, .ireturn])])
/-- BannerParade.stretch()I -/
def xM123 : XT := (1, 2, 10, 1, [], [([0], [.aload 0, .invokevirtual 155, .aload 0, .getfield 321, .getfield 262, .astore 1, .aload 1, .getfield 224, .iconst 2, .if_icmp .ge 2, .goto_w 1]), ([], [.iconst 0, .goto 3]), ([1], [.aload 1, .getfield 230, .iconst 0, .iaload, .aload 1, .getfield 230, .aload 1, .getfield 224, .iconst 1, .isub, .iaload, .isub, .goto_w 3]), ([], [.ireturn])])
/-- BannerParade.meanStrength()D -/
def xM124 : XT := (1, 1, 10, 7, [], [([0], [.aload 0, .invokevirtual 155, .aload 0, .getfield 321, .getfield 262, .invokevirtual 61, .dreturn])])
/-- BannerParade.strengthBits()J -/
def xM125 : XT := (1, 1, 10, 5, [], [([0], [.aload 0, .invokevirtual 155, .aload 0, .getfield 321, .getfield 262, .invokevirtual 61, .invokestatic 171, .lreturn])])
/-- BannerParade.readsIn(I)I -/
def xM126 : XT := (2, 3, 10, 1, [], [([0, 1], [.aload 0, .invokevirtual 155, .aload 0, .iload 1, .invokevirtual 157, .aload 0, .getfield 322, .aload 0, .getfield 321, .invokevirtual 68, .iconst 0, .istore 2, .goto_w 1]), ([0, 1, 2], [.iload 2, .iconst 300, .if_icmp .ge 5, .goto_w 2]), ([0, 1, 2], [.aload 0, .iload 1, .invokevirtual 162, .aload 0, .getfield 323, .iload 1, .invokevirtual 39, .ifCond .eq 4, .goto_w 3]), ([2], [.iload 2, .ireturn]), ([0, 1, 2], [.aload 0, .getfield 322, .invokevirtual 70, .iinc 2 1, .goto 1]), ([0, 1], [.aload 0, .iload 1, .invokevirtual 162, .aload 0, .getfield 323, .iload 1, .invokevirtual 39, .ifCond .eq 7, .goto_w 6]), ([], [.iconst 300, .goto 8]), ([], [.iconst (-1), .goto_w 8]), ([], [.ireturn])])
/-- BannerParade.passedIn(I)I -/
def xM127 : XT := (2, 4, 10, 1, [], [([0, 1], [.aload 0, .invokevirtual 155, .aload 0, .iload 1, .invokevirtual 157, .aload 0, .getfield 323, .getfield 194, .iload 1, .iaload, .aload 0, .getfield 321, .getfield 260, .iconst 1, .iaload, .iadd, .istore 2, .aload 0, .getfield 322, .aload 0, .getfield 321, .invokevirtual 68, .iconst 0, .istore 3, .goto_w 1]), ([0, 2, 3], [.iload 3, .iconst 300, .if_icmp .ge 5, .goto_w 2]), ([0, 2, 3], [.aload 0, .getfield 322, .getfield 262, .iload 2, .invokevirtual 64, .aload 0, .getfield 322, .getfield 262, .getfield 224, .if_icmp .ne 4, .goto_w 3]), ([3], [.iload 3, .ireturn]), ([0, 2, 3], [.aload 0, .getfield 322, .invokevirtual 70, .iinc 3 1, .goto 1]), ([0, 2], [.aload 0, .getfield 322, .getfield 262, .iload 2, .invokevirtual 64, .aload 0, .getfield 322, .getfield 262, .getfield 224, .if_icmp .ne 7, .goto_w 6]), ([], [.iconst 300, .goto 8]), ([], [.iconst (-1), .goto_w 8]), ([], [.ireturn])])
/-- BannerParade.placeIn(II)I -/
def xM128 : XT := (3, 3, 10, 1, [], [([0, 1, 2], [.aload 0, .invokevirtual 155, .aload 0, .iload 1, .invokevirtual 156, .iload 2, .iconst 0, .iconst 300, .invokestatic 159, .aload 0, .iload 2, .invokevirtual 163, .aload 0, .getfield 322, .getfield 262, .getfield 230, .iload 1, .iaload, .ireturn])])
/-- BannerParade.strengthIn(II)I -/
def xM129 : XT := (3, 3, 10, 1, [], [([0, 1, 2], [.aload 0, .invokevirtual 155, .aload 0, .iload 1, .invokevirtual 156, .iload 2, .iconst 0, .iconst 300, .invokestatic 159, .aload 0, .iload 2, .invokevirtual 163, .aload 0, .getfield 322, .getfield 262, .getfield 228, .iload 1, .iaload, .ireturn])])
/-- BannerParade.bannerIn(II)I -/
def xM130 : XT := (3, 3, 10, 1, [], [([0, 1, 2], [.aload 0, .invokevirtual 155, .aload 0, .iload 1, .invokevirtual 156, .iload 2, .iconst 0, .iconst 300, .invokestatic 159, .aload 0, .iload 2, .invokevirtual 163, .aload 0, .getfield 322, .getfield 262, .getfield 229, .iload 1, .iaload, .ireturn])])
/-- BannerParade.dropsIn(I)I -/
def xM131 : XT := (2, 2, 10, 1, [], [([0, 1], [.aload 0, .invokevirtual 155, .iload 1, .iconst 0, .iconst 300, .invokestatic 159, .aload 0, .iload 1, .invokevirtual 163, .aload 0, .getfield 322, .getfield 258, .aload 0, .getfield 321, .getfield 258, .isub, .ireturn])])
/-- BannerParade.firstDrop()I -/
def xM132 : XT := (1, 1, 10, 1, [], [([0], [.aload 0, .invokevirtual 155, .aload 0, .getfield 322, .aload 0, .getfield 321, .invokevirtual 68, .aload 0, .iconst 300, .invokevirtual 164, .ireturn])])
/-- BannerParade.shareIn(II)F -/
def xM133 : XT := (3, 3, 10, 6, [], [([0, 1, 2], [.aload 0, .invokevirtual 155, .aload 0, .iload 1, .invokevirtual 157, .iload 2, .iconst 0, .iconst 300, .invokestatic 159, .aload 0, .iload 2, .invokevirtual 163, .aload 0, .iload 1, .invokevirtual 162, .aload 0, .getfield 323, .iload 1, .invokevirtual 40, .freturn])])
/-- BannerParade.bestShare(II)F -/
def xM134 : XT := (3, 6, 10, 6, [], [([0, 1, 2], [.aload 0, .invokevirtual 155, .aload 0, .iload 1, .invokevirtual 157, .iload 2, .iconst 0, .iconst 300, .invokestatic 159, .aload 0, .getfield 322, .aload 0, .getfield 321, .invokevirtual 68, .aload 0, .iload 1, .invokevirtual 162, .aload 0, .getfield 323, .iload 1, .invokevirtual 40, .fstore 3, .iconst 0, .istore 4, .goto_w 1]), ([0, 1, 2, 3, 4], [.iload 4, .iload 2, .if_icmp .ge 6, .goto_w 2]), ([0, 1, 2, 3, 4], [.aload 0, .getfield 322, .invokevirtual 70, .aload 0, .iload 1, .invokevirtual 162, .aload 0, .getfield 323, .iload 1, .invokevirtual 40, .fstore 5, .fload 5, .fload 3, .fcmp .l, .ifCond .le 4, .goto_w 3]), ([0, 1, 2, 4, 5], [.fload 5, .goto 5]), ([0, 1, 2, 3, 4], [.fload 3, .goto_w 5]), ([0, 1, 2, 4], [.fstore 3, .iinc 4 1, .goto 1]), ([3], [.fload 3, .freturn])])
/-- BannerParade.bestSwap(I)I -/
def xM135 : XT := (2, 6, 10, 1, [], [([0, 1], [.aload 0, .invokevirtual 155, .aload 0, .iload 1, .invokevirtual 157, .iconst (-1), .istore 2, .aload 0, .iload 1, .invokevirtual 161, .aload 0, .getfield 323, .iload 1, .invokevirtual 40, .fstore 3, .aload 0, .getfield 322, .aload 0, .getfield 321, .invokevirtual 68, .iconst 0, .istore 4, .goto_w 1]), ([0, 1, 2, 3, 4], [.iload 4, .iconst 1, .iadd, .aload 0, .getfield 322, .getfield 262, .getfield 224, .if_icmp .ge 5, .goto_w 2]), ([0, 1, 2, 3, 4], [.aload 0, .getfield 322, .getfield 262, .iload 4, .invokevirtual 53, .aload 0, .iload 1, .invokevirtual 162, .aload 0, .getfield 323, .iload 1, .invokevirtual 40, .fstore 5, .aload 0, .getfield 322, .getfield 262, .iload 4, .invokevirtual 53, .fload 5, .fload 3, .fcmp .l, .ifCond .le 4, .goto_w 3]), ([0, 1, 4, 5], [.iload 4, .istore 2, .fload 5, .fstore 3, .goto_w 4]), ([0, 1, 2, 3, 4], [.iinc 4 1, .goto 1]), ([2], [.iload 2, .ireturn])])
/-- BannerParade.closedIn(I)I -/
def xM136 : XT := (2, 4, 10, 1, [], [([0, 1], [.aload 0, .invokevirtual 155, .aload 0, .iload 1, .invokevirtual 156, .iload 1, .ifCond .ne 2, .goto_w 1]), ([], [.iconst (-1), .ireturn]), ([0, 1], [.aload 0, .getfield 321, .getfield 260, .iconst 0, .iaload, .istore 2, .aload 0, .getfield 322, .aload 0, .getfield 321, .invokevirtual 68, .iconst 0, .istore 3, .goto_w 3]), ([0, 1, 2, 3], [.iload 3, .iconst 300, .if_icmp .ge 7, .goto_w 4]), ([0, 1, 2, 3], [.aload 0, .getfield 322, .getfield 262, .iload 1, .invokevirtual 51, .iload 2, .if_icmp .ne 6, .goto_w 5]), ([3], [.iload 3, .ireturn]), ([0, 1, 2, 3], [.aload 0, .getfield 322, .invokevirtual 70, .iinc 3 1, .goto 3]), ([0, 1, 2], [.aload 0, .getfield 322, .getfield 262, .iload 1, .invokevirtual 51, .iload 2, .if_icmp .ne 9, .goto_w 8]), ([], [.iconst 300, .goto 10]), ([], [.iconst (-1), .goto_w 10]), ([], [.ireturn])])
/-- BannerParade.leastRest()I -/
def xM137 : XT := (1, 2, 10, 1, [], [([0], [.aload 0, .invokevirtual 155, .iconst 0, .istore 1, .goto_w 1]), ([0, 1], [.iload 1, .iconst 50, .if_icmp .gt 5, .goto_w 2]), ([0, 1], [.aload 0, .getfield 322, .aload 0, .getfield 321, .invokevirtual 68, .aload 0, .getfield 322, .getfield 260, .iconst 3, .iload 1, .iastore, .aload 0, .iconst 100, .invokevirtual 164, .iconst (-1), .if_icmp .ne 4, .goto_w 3]), ([1], [.iload 1, .ireturn]), ([0, 1], [.iinc 1 1, .goto 1]), ([], [.iconst (-1), .ireturn])])
/-- BannerParade.writeStand(I)I -/
def xM138 : XT := (2, 4, 10, 1, [], [([0, 1], [.aload 0, .invokevirtual 155, .aload 0, .iload 1, .invokevirtual 157, .aload 0, .iload 1, .invokevirtual 161, .astore 2, .aload 0, .getfield 326, .iconst 0, .putfield 0, .iconst 0, .istore 3, .goto_w 1]), ([0, 2, 3], [.iload 3, .aload 2, .getfield 160, .if_icmp .ge 3, .goto_w 2]), ([0, 2, 3], [.aload 0, .getfield 326, .aload 2, .iload 3, .invokevirtual 35, .invokevirtual 1, .iinc 3 1, .goto 1]), ([0], [.aload 0, .getfield 326, .getfield 0, .ireturn])])
/-- BannerParade.writeRow()I -/
def xM139 : XT := (1, 3, 10, 1, [], [([0], [.aload 0, .invokevirtual 155, .aload 0, .getfield 326, .iconst 0, .putfield 0, .iconst 0, .istore 1, .goto_w 1]), ([0, 1], [.iload 1, .aload 0, .getfield 321, .getfield 262, .getfield 224, .if_icmp .ge 6, .goto_w 2]), ([0, 1], [.aload 0, .getfield 321, .getfield 262, .getfield 229, .iload 1, .iaload, .istore 2, .aload 0, .getfield 326, .iload 2, .ifCond .ne 4, .goto_w 3]), ([0, 1], [.iconst 45, .goto 5]), ([0, 1, 2], [.iconst 96, .iload 2, .iadd, .goto_w 5]), ([0, 1], [.invokevirtual 1, .iinc 1 1, .goto 1]), ([0], [.aload 0, .getfield 326, .getfield 0, .ireturn])])
/-- BannerParade.writePlaces()I -/
def xM140 : XT := (1, 2, 10, 1, [], [([0], [.aload 0, .invokevirtual 155, .aload 0, .getfield 326, .iconst 0, .putfield 0, .iconst 0, .istore 1, .goto_w 1]), ([0, 1], [.iload 1, .aload 0, .getfield 321, .getfield 262, .getfield 224, .if_icmp .ge 5, .goto_w 2]), ([0, 1], [.iload 1, .ifCond .le 4, .goto_w 3]), ([0, 1], [.aload 0, .getfield 326, .iconst 44, .invokevirtual 1, .goto_w 4]), ([0, 1], [.aload 0, .getfield 326, .aload 0, .getfield 321, .getfield 262, .getfield 230, .iload 1, .iaload, .invokevirtual 2, .iinc 1 1, .goto 1]), ([0], [.aload 0, .getfield 326, .getfield 0, .ireturn])])
/-- BannerParade.textByte(I)I -/
def xM141 : XT := (2, 2, 10, 1, [], [([0, 1], [.iload 1, .aload 0, .getfield 326, .getfield 0, .invokestatic 158, .aload 0, .getfield 326, .getfield 1, .iload 1, .iaload, .ireturn])])
/-- BannerParade.tick(I)I -/
def xM142 : XT := (2, 4, 10, 1, [], [([0, 1], [.aload 0, .invokevirtual 155, .iload 1, .iconst 1, .iconst 100, .invokestatic 159, .aload 0, .getfield 321, .getfield 256, .iload 1, .iadd, .iconst 5000, .if_icmp .gt 2, .goto_w 1]), ([0, 1], [.iconst 1, .goto 3]), ([0, 1], [.iconst 0, .goto_w 3]), ([0, 1], [.invokestatic 160, .aload 0, .getfield 324, .aload 0, .getfield 321, .invokevirtual 13, .aload 0, .invokevirtual 166, .invokestatic 383, .istore 2, .iconst 0, .istore 3, .goto_w 4]), ([0, 1, 2, 3], [.iload 3, .iload 1, .if_icmp .ge 6, .goto_w 5]), ([0, 1, 2, 3], [.aload 0, .getfield 321, .invokevirtual 70, .aload 0, .invokevirtual 165, .iinc 3 1, .goto 4]), ([0, 2], [.aload 0, .invokevirtual 166, .invokestatic 383, .iload 2, .isub, .ireturn])])
/-- BannerParade.swap(I)I -/
def xM143 : XT := (2, 2, 10, 1, [], [([0, 1], [.aload 0, .invokevirtual 155, .aload 0, .iload 1, .invokevirtual 156, .aload 0, .getfield 321, .iload 1, .invokevirtual 74, .invokestatic 160, .aload 0, .getfield 324, .aload 0, .getfield 321, .invokevirtual 13, .aload 0, .getfield 321, .iload 1, .invokevirtual 75, .aload 0, .getfield 321, .getfield 262, .getfield 229, .iload 1, .iaload, .ireturn])])
/-- BannerParade.drop(I)I -/
def xM144 : XT := (2, 2, 10, 1, [], [([0, 1], [.aload 0, .invokevirtual 155, .aload 0, .iload 1, .invokevirtual 156, .aload 0, .getfield 321, .getfield 262, .getfield 229, .iload 1, .iaload, .ifCond .eq 2, .goto_w 1]), ([0, 1], [.iconst 1, .goto 3]), ([0, 1], [.iconst 0, .goto_w 3]), ([0, 1], [.invokestatic 160, .aload 0, .getfield 324, .aload 0, .getfield 321, .invokevirtual 13, .aload 0, .getfield 321, .iload 1, .invokevirtual 76, .aload 0, .getfield 321, .getfield 263, .getfield 32, .ireturn])])
/-- BannerParade.pick(I)I -/
def xM145 : XT := (2, 3, 10, 1, [], [([0, 1], [.aload 0, .invokevirtual 155, .aload 0, .iload 1, .invokevirtual 156, .aload 0, .getfield 321, .getfield 263, .aload 0, .getfield 321, .getfield 262, .getfield 230, .iload 1, .iaload, .aload 0, .getfield 321, .getfield 262, .getfield 230, .iload 1, .iaload, .invokevirtual 8, .istore 2, .aload 0, .getfield 321, .iload 1, .invokevirtual 77, .ifCond .eq 3, .goto_w 1]), ([0, 1, 2], [.iload 2, .iconst (-1), .if_icmp .eq 3, .goto_w 2]), ([0, 1, 2], [.iconst 1, .goto 4]), ([0, 1, 2], [.iconst 0, .goto_w 4]), ([0, 1, 2], [.invokestatic 160, .aload 0, .getfield 324, .aload 0, .getfield 321, .invokevirtual 13, .aload 0, .getfield 321, .iload 1, .iload 2, .invokevirtual 78, .aload 0, .getfield 321, .getfield 262, .getfield 229, .iload 1, .iaload, .ireturn])])
/-- BannerParade.strengthen(II)I -/
def xM146 : XT := (3, 3, 10, 1, [], [([0, 1, 2], [.aload 0, .invokevirtual 155, .aload 0, .iload 1, .invokevirtual 156, .iload 2, .iconst (-100), .iconst 100, .invokestatic 159, .aload 0, .getfield 324, .aload 0, .getfield 321, .invokevirtual 13, .aload 0, .getfield 321, .getfield 262, .iload 1, .iload 2, .invokevirtual 52, .aload 0, .getfield 321, .getfield 262, .getfield 228, .iload 1, .iaload, .ireturn])])
/-- BannerParade.rest(I)I -/
def xM147 : XT := (2, 3, 10, 1, [], [([0, 1], [.aload 0, .invokevirtual 155, .iload 1, .iconst 1, .iconst 100, .invokestatic 159, .aload 0, .getfield 324, .aload 0, .getfield 321, .invokevirtual 13, .iconst 0, .istore 2, .goto_w 1]), ([0, 1, 2], [.iload 2, .aload 0, .getfield 321, .getfield 262, .getfield 224, .if_icmp .ge 3, .goto_w 2]), ([0, 1, 2], [.aload 0, .getfield 321, .getfield 262, .iload 2, .iload 1, .invokevirtual 52, .iinc 2 1, .goto 1]), ([0], [.aload 0, .getfield 321, .getfield 262, .invokevirtual 60, .ireturn])])
/-- BannerParade.setStep(II)I -/
def xM148 : XT := (3, 4, 10, 1, [], [([0, 1, 2], [.aload 0, .invokevirtual 155, .aload 0, .iload 1, .invokevirtual 156, .iload 2, .iconst 1, .iconst 200, .invokestatic 159, .aload 0, .getfield 324, .aload 0, .getfield 321, .invokevirtual 13, .aload 0, .getfield 321, .getfield 262, .getfield 226, .iload 1, .iaload, .istore 3, .aload 0, .getfield 321, .getfield 262, .getfield 226, .iload 1, .iload 2, .iastore, .iload 3, .ireturn])])
/-- BannerParade.addPlan(II)I -/
def xM149 : XT := (3, 3, 10, 1, [], [([0, 1, 2], [.aload 0, .invokevirtual 155, .aload 0, .iload 2, .invokevirtual 156, .iload 1, .aload 0, .getfield 321, .getfield 256, .iconst 1, .iadd, .iconst 5000, .invokestatic 159, .iload 2, .iconst 1, .iadd, .aload 0, .getfield 321, .getfield 262, .getfield 224, .if_icmp .ge 3, .goto_w 1]), ([0, 1, 2], [.aload 0, .getfield 321, .getfield 264, .getfield 128, .iconst 12, .if_icmp .ge 3, .goto_w 2]), ([0, 1, 2], [.iconst 1, .goto 4]), ([0, 1, 2], [.iconst 0, .goto_w 4]), ([0, 1, 2], [.invokestatic 160, .aload 0, .getfield 324, .aload 0, .getfield 321, .invokevirtual 13, .aload 0, .getfield 321, .getfield 264, .iload 1, .iload 2, .invokevirtual 29, .aload 0, .getfield 321, .getfield 264, .getfield 128, .iconst 1, .isub, .ireturn])])
/-- BannerParade.set(II)I -/
def xM150 : XT := (3, 4, 10, 1, [], [([0, 1, 2], [.aload 0, .invokevirtual 155, .iload 1, .iconst 0, .iconst 5, .invokestatic 159, .iload 2, .getstatic 0, .iload 1, .iaload, .getstatic 1, .iload 1, .iaload, .invokestatic 159, .aload 0, .getfield 324, .aload 0, .getfield 321, .invokevirtual 13, .aload 0, .getfield 321, .getfield 260, .iload 1, .iaload, .istore 3, .aload 0, .getfield 321, .getfield 260, .iload 1, .iload 2, .iastore, .iload 3, .ireturn])])
/-- BannerParade.undo()I -/
def xM151 : XT := (1, 1, 10, 1, [], [([0], [.aload 0, .getfield 324, .getfield 65, .ifCond .ne 2, .goto_w 1]), ([], [.checkcast 0]), ([0], [.aload 0, .getfield 324, .aload 0, .getfield 321, .invokevirtual 14, .aload 0, .getfield 324, .getfield 65, .ireturn])])
/-- BannerParade.undoable()I -/
def xM152 : XT := (1, 1, 10, 1, [], [([0], [.aload 0, .getfield 324, .getfield 65, .ireturn])])
/-- BannerParade.save(I)I -/
def xM153 : XT := (2, 2, 10, 1, [], [([0, 1], [.aload 0, .invokevirtual 155, .iload 1, .iconst 2, .invokestatic 158, .aload 0, .getfield 324, .iload 1, .aload 0, .getfield 321, .invokevirtual 15, .aload 0, .getfield 321, .getfield 256, .ireturn])])
/-- BannerParade.restore(I)I -/
def xM154 : XT := (2, 2, 10, 1, [], [([0, 1], [.iload 1, .iconst 2, .invokestatic 158, .aload 0, .getfield 324, .getfield 68, .iload 1, .baload, .ifCond .ne 2, .goto_w 1]), ([], [.checkcast 0]), ([0, 1], [.aload 0, .getfield 324, .iload 1, .aload 0, .getfield 321, .invokevirtual 16, .aload 0, .getfield 324, .invokevirtual 11, .aload 0, .getfield 321, .getfield 256, .ireturn])])
/-- BannerParade.needLoaded()V -/
def xM155 : XT := (1, 1, 10, 0, [], [([0], [.aload 0, .getfield 327, .ifCond .ne 2, .goto_w 1]), ([], [.checkcast 0]), ([], [.return_])])
/-- BannerParade.needBearer(I)V -/
def xM156 : XT := (2, 2, 10, 0, [], [([0, 1], [.iload 1, .aload 0, .getfield 321, .getfield 262, .getfield 224, .invokestatic 158, .return_])])
/-- BannerParade.needStand(I)V -/
def xM157 : XT := (2, 2, 10, 0, [], [([0, 1], [.iload 1, .aload 0, .getfield 323, .getfield 192, .invokestatic 158, .return_])])
/-- BannerParade.needIndex(II)V -/
def xM158 : XT := (2, 2, 99, 0, [], [([0, 1], [.iload 0, .ifCond .lt 2, .goto_w 1]), ([0, 1], [.iload 0, .iload 1, .if_icmp .lt 3, .goto_w 2]), ([], [.checkcast 2]), ([], [.return_])])
/-- BannerParade.needRange(III)V -/
def xM159 : XT := (3, 3, 99, 0, [], [([0, 1, 2], [.iload 0, .iload 1, .if_icmp .lt 3, .goto_w 1]), ([0, 2], [.iload 0, .iload 2, .if_icmp .gt 3, .goto_w 2]), ([], [.iconst 1, .goto 4]), ([], [.iconst 0, .goto_w 4]), ([], [.invokestatic 160, .return_])])
/-- BannerParade.needArgument(Z)V -/
def xM160 : XT := (1, 1, 99, 0, [], [([0], [.iload 0, .ifCond .ne 2, .goto_w 1]), ([], [.checkcast 1]), ([], [.return_])])
/-- BannerParade.readNow(I)LBannerParade$Reading; -/
def xM161 : XT := (2, 2, 10, 8, [], [([0, 1], [.aload 0, .getfield 325, .aload 0, .getfield 321, .aload 0, .getfield 323, .iload 1, .invokevirtual 33, .aload 0, .getfield 325, .areturn])])
/-- BannerParade.readLater(I)LBannerParade$Reading; -/
def xM162 : XT := (2, 2, 10, 8, [], [([0, 1], [.aload 0, .getfield 325, .aload 0, .getfield 322, .aload 0, .getfield 323, .iload 1, .invokevirtual 33, .aload 0, .getfield 325, .areturn])])
/-- BannerParade.foresee(I)V -/
def xM163 : XT := (2, 3, 10, 0, [], [([0, 1], [.aload 0, .getfield 322, .aload 0, .getfield 321, .invokevirtual 68, .iconst 0, .istore 2, .goto_w 1]), ([0, 1, 2], [.iload 2, .iload 1, .if_icmp .ge 3, .goto_w 2]), ([0, 1, 2], [.aload 0, .getfield 322, .invokevirtual 70, .iinc 2 1, .goto 1]), ([], [.return_])])
/-- BannerParade.ticksToDrop(I)I -/
def xM164 : XT := (2, 3, 10, 1, [], [([0, 1], [.iconst 1, .istore 2, .goto_w 1]), ([0, 1, 2], [.iload 2, .iload 1, .if_icmp .gt 5, .goto_w 2]), ([0, 1, 2], [.aload 0, .getfield 322, .invokevirtual 70, .aload 0, .getfield 322, .getfield 258, .aload 0, .getfield 321, .getfield 258, .if_icmp .le 4, .goto_w 3]), ([2], [.iload 2, .ireturn]), ([0, 1, 2], [.iinc 2 1, .goto 1]), ([], [.iconst (-1), .ireturn])])
/-- BannerParade.readWords()V -/
def xM165 : XT := (1, 2, 10, 0, [], [([0], [.iconst 0, .istore 1, .goto_w 1]), ([0, 1], [.iload 1, .aload 0, .getfield 323, .getfield 192, .if_icmp .ge 6, .goto_w 2]), ([0, 1], [.aload 0, .getfield 321, .getfield 261, .iload 1, .iaload, .iconst (-1), .if_icmp .ne 5, .goto_w 3]), ([0, 1], [.aload 0, .iload 1, .invokevirtual 161, .aload 0, .getfield 323, .iload 1, .invokevirtual 39, .ifCond .eq 5, .goto_w 4]), ([0, 1], [.aload 0, .getfield 321, .getfield 261, .iload 1, .aload 0, .getfield 321, .getfield 256, .iastore, .goto_w 5]), ([0, 1], [.iinc 1 1, .goto 1]), ([], [.return_])])
/-- BannerParade.standsWithReadWord()I -/
def xM166 : XT := (1, 3, 10, 1, [], [([0], [.iconst 0, .istore 1, .iconst 0, .istore 2, .goto_w 1]), ([0, 1, 2], [.iload 2, .aload 0, .getfield 323, .getfield 192, .if_icmp .ge 5, .goto_w 2]), ([0, 1, 2], [.aload 0, .getfield 321, .getfield 261, .iload 2, .iaload, .iconst (-1), .if_icmp .eq 4, .goto_w 3]), ([0, 1, 2], [.iload 1, .iconst 1, .iload 2, .ishl, .ior, .istore 1, .goto_w 4]), ([0, 1, 2], [.iinc 2 1, .goto 1]), ([1], [.iload 1, .ireturn])])
/-- BannerParade.standsThatSeeAny()I -/
def xM167 : XT := (1, 3, 10, 1, [], [([0], [.iconst 0, .istore 1, .iconst 0, .istore 2, .goto_w 1]), ([0, 1, 2], [.iload 2, .aload 0, .getfield 323, .getfield 192, .if_icmp .ge 5, .goto_w 2]), ([0, 1, 2], [.aload 0, .iload 2, .invokevirtual 169, .ifCond .eq 4, .goto_w 3]), ([0, 1, 2], [.iinc 1 1, .goto_w 4]), ([0, 1, 2], [.iinc 2 1, .goto 1]), ([1], [.iload 1, .ireturn])])
/-- BannerParade.standsThatSee(I)I -/
def xM168 : XT := (2, 4, 10, 1, [], [([0, 1], [.iconst 0, .istore 2, .iconst 0, .istore 3, .goto_w 1]), ([0, 1, 2, 3], [.iload 3, .aload 0, .getfield 323, .getfield 192, .if_icmp .ge 5, .goto_w 2]), ([0, 1, 2, 3], [.aload 0, .getfield 321, .iload 1, .aload 0, .getfield 323, .getfield 194, .iload 3, .iaload, .invokevirtual 79, .ifCond .eq 4, .goto_w 3]), ([0, 1, 2, 3], [.iinc 2 1, .goto_w 4]), ([0, 1, 2, 3], [.iinc 3 1, .goto 1]), ([2], [.iload 2, .ireturn])])
/-- BannerParade.bearersSeenFrom(I)I -/
def xM169 : XT := (2, 4, 10, 1, [], [([0, 1], [.iconst 0, .istore 2, .iconst 0, .istore 3, .goto_w 1]), ([0, 1, 2, 3], [.iload 3, .aload 0, .getfield 321, .getfield 262, .getfield 224, .if_icmp .ge 5, .goto_w 2]), ([0, 1, 2, 3], [.aload 0, .getfield 321, .iload 3, .aload 0, .getfield 323, .getfield 194, .iload 1, .iaload, .invokevirtual 79, .ifCond .eq 4, .goto_w 3]), ([0, 1, 2, 3], [.iload 2, .iconst 1, .iload 3, .ishl, .ior, .istore 2, .goto_w 4]), ([0, 1, 2, 3], [.iinc 3 1, .goto 1]), ([2], [.iload 2, .ireturn])])
/-- BannerParade.floatBits(F)I -/
def xM170 : XT := (1, 4, 99, 1, [], [([0], [.fload 0, .fconst 0, .fcmp .g, .ifCond .gt 2, .goto_w 1]), ([], [.iconst 0, .ireturn]), ([0], [.iconst 127, .istore 1, .fload 0, .fstore 2, .iconst 0, .istore 3, .goto_w 3]), ([1, 2, 3], [.iload 3, .iconst 60, .if_icmp .ge 6, .goto_w 4]), ([1, 2, 3], [.fload 2, .fconst 1, .fcmp .g, .ifCond .ge 6, .goto_w 5]), ([1, 2, 3], [.fload 2, .fconst 2, .fmul, .fstore 2, .iinc 1 (-1), .iinc 3 1, .goto 3]), ([1, 2], [.iload 1, .iconst 23, .ishl, .fload 2, .fconst 1, .fsub, .ldc_w 1258291200, .fmul, .f2i, .iadd, .ireturn])])
/-- BannerParade.doubleBits(D)J -/
def xM171 : XT := (1, 7, 99, 5, [], [([0], [.dload 0, .dconst 0, .dcmp .g, .ifCond .gt 2, .goto_w 1]), ([], [.lconst 0, .lreturn]), ([0], [.jsr 1023, .lstore 2, .dload 0, .dstore 4, .iconst 0, .istore 6, .goto_w 3]), ([2, 4, 6], [.iload 6, .iconst 60, .if_icmp .ge 6, .goto_w 4]), ([2, 4, 6], [.dload 4, .dconst 1, .dcmp .g, .ifCond .ge 6, .goto_w 5]), ([2, 4, 6], [.dload 4, .ldc2_w 4611686018427387904, .dmul, .dstore 4, .lload 2, .lconst 1, .lsub, .lstore 2, .iinc 6 1, .goto 3]), ([2, 4], [.iconst 0, .istore 6, .goto_w 7]), ([2, 4, 6], [.iload 6, .iconst 60, .if_icmp .ge 10, .goto_w 8]), ([2, 4, 6], [.dload 4, .ldc2_w 4611686018427387904, .dcmp .l, .ifCond .lt 10, .goto_w 9]), ([2, 4, 6], [.dload 4, .ldc2_w 4611686018427387904, .ddiv, .dstore 4, .lload 2, .lconst 1, .ladd, .lstore 2, .iinc 6 1, .goto 7]), ([2, 4], [.lload 2, .iconst 52, .lshl, .dload 4, .dconst 1, .dsub, .ldc2_w 4841369599423283200, .dmul, .d2l, .ladd, .lreturn])])
/-- BannerParade.copyNumbers([I[I)V -/
def xM172 : XT := (2, 3, 99, 0, [], [([0, 1], [.iconst 0, .istore 2, .goto_w 1]), ([0, 1, 2], [.iload 2, .aload 1, .arraylength, .if_icmp .ge 4, .goto_w 2]), ([0, 1, 2], [.iload 2, .aload 0, .arraylength, .if_icmp .ge 4, .goto_w 3]), ([0, 1, 2], [.aload 1, .iload 2, .aload 0, .iload 2, .iaload, .iastore, .iinc 2 1, .goto 1]), ([], [.return_])])
/-- BannerParadeModel.<init>()V -/
def xM173 : XT := (1, 1, 11, 0, [], [([0], [.aload 0, .monitorexit, .aload 0, .iconst 243, .newarray .int, .putfield 353, .aload 0, .iconst 243, .newarray .int, .putfield 354, .aload 0, .iconst 1944, .newarray .int, .putfield 355, .aload 0, .iconst 486, .newarray .int, .putfield 356, .aload 0, .iconst 2, .newarray .boolean, .putfield 357, .aload 0, .iconst 700, .newarray .byte, .putfield 360, .aload 0, .iconst (-1), .putfield 363, .aload 0, .iconst 24, .newarray .int, .putfield 369, .aload 0, .iconst 12, .newarray .int, .putfield 371, .aload 0, .iconst 120, .newarray .byte, .putfield 372, .return_])])
/-- BannerParadeModel.thrown()I -/
def xM174 : XT := (1, 1, 11, 1, [], [([0], [.aload 0, .getfield 352, .ireturn])])
/-- BannerParadeModel.in(III)Z -/
def xM175 : XT := (3, 3, 99, 2, [], [([0, 1, 2], [.iload 0, .iload 1, .if_icmp .lt 3, .goto_w 1]), ([0, 2], [.iload 0, .iload 2, .if_icmp .gt 3, .goto_w 2]), ([], [.iconst 1, .goto 4]), ([], [.iconst 0, .goto_w 4]), ([], [.ireturn])])
/-- BannerParadeModel.may(ZZZ)Z -/
def xM176 : XT := (4, 4, 11, 2, [], [([0, 1, 2, 3], [.aload 0, .iload 1, .ifCond .ne 2, .goto_w 1]), ([0], [.iconst 1, .goto 7]), ([0, 2, 3], [.iload 2, .ifCond .ne 4, .goto_w 3]), ([0], [.iconst 2, .goto 7]), ([0, 3], [.iload 3, .ifCond .eq 6, .goto_w 5]), ([0], [.iconst 0, .goto 7]), ([0], [.iconst 3, .goto_w 7]), ([0], [.putfield 352, .aload 0, .getfield 352, .ifCond .ne 9, .goto_w 8]), ([], [.iconst 1, .goto 10]), ([], [.iconst 0, .goto_w 10]), ([], [.ireturn])])
/-- BannerParadeModel.mayTwo(ZZ)Z -/
def xM177 : XT := (3, 3, 11, 2, [], [([0, 1, 2], [.aload 0, .iload 1, .iload 2, .iconst 1, .invokevirtual 176, .ireturn])])
/-- BannerParadeModel.lays([II[II)V -/
def xM178 : XT := (4, 5, 99, 0, [], [([0, 1, 2, 3], [.iconst 0, .istore 4, .goto_w 1]), ([0, 1, 2, 3, 4], [.iload 4, .iconst 243, .if_icmp .ge 3, .goto_w 2]), ([0, 1, 2, 3, 4], [.aload 2, .iload 3, .iload 4, .iadd, .aload 0, .iload 1, .iload 4, .iadd, .iaload, .iastore, .iinc 4 1, .goto 1]), ([], [.return_])])
/-- BannerParadeModel.append(IIIII)I -/
def xM179 : XT := (6, 6, 11, 1, [], [([0, 1, 2, 3, 4, 5], [.aload 0, .iconst 0, .putfield 352, .aload 0, .getfield 361, .iconst 680, .if_icmp .le 2, .goto_w 1]), ([], [.iconst (-1), .ireturn]), ([0, 1, 2, 3, 4, 5], [.aload 0, .iload 1, .invokevirtual 180, .aload 0, .iload 2, .invokevirtual 180, .aload 0, .iload 3, .invokevirtual 180, .aload 0, .iload 4, .invokevirtual 180, .aload 0, .iload 5, .invokevirtual 180, .aload 0, .getfield 361, .ireturn])])
/-- BannerParadeModel.four(I)V -/
def xM180 : XT := (2, 3, 11, 0, [], [([0, 1], [.iconst 3, .istore 2, .goto_w 1]), ([0, 1, 2], [.iload 2, .ifCond .lt 3, .goto_w 2]), ([0, 1, 2], [.aload 0, .getfield 360, .aload 0, .getfield 361, .iload 1, .iconst 8, .iload 2, .imul, .ishr, .i2b, .bastore, .aload 0, .dup, .getfield 361, .iconst 1, .iadd, .putfield 361, .iinc 2 (-1), .goto 1]), ([], [.return_])])
/-- BannerParadeModel.parseError()I -/
def xM181 : XT := (1, 1, 11, 1, [], [([0], [.aload 0, .iconst 0, .putfield 352, .aload 0, .getfield 362, .ireturn])])
/-- BannerParadeModel.errorPosition()I -/
def xM182 : XT := (1, 1, 11, 1, [], [([0], [.aload 0, .iconst 0, .putfield 352, .aload 0, .getfield 363, .ireturn])])
/-- BannerParadeModel.buffered()I -/
def xM183 : XT := (1, 1, 11, 1, [], [([0], [.aload 0, .iconst 0, .putfield 352, .aload 0, .getfield 361, .ireturn])])
/-- BannerParadeModel.isLetter(I)Z -/
def xM184 : XT := (2, 2, 11, 2, [], [([0, 1], [.iload 1, .aload 0, .getfield 364, .if_icmp .ge 3, .goto_w 1]), ([0, 1], [.aload 0, .getfield 360, .iload 1, .baload, .iconst 97, .iconst 122, .invokestatic 175, .ifCond .eq 3, .goto_w 2]), ([], [.iconst 1, .goto 4]), ([], [.iconst 0, .goto_w 4]), ([], [.ireturn])])
/-- BannerParadeModel.isDigit(I)Z -/
def xM185 : XT := (2, 2, 11, 2, [], [([0, 1], [.iload 1, .aload 0, .getfield 364, .if_icmp .ge 3, .goto_w 1]), ([0, 1], [.aload 0, .getfield 360, .iload 1, .baload, .iconst 48, .iconst 57, .invokestatic 175, .ifCond .eq 3, .goto_w 2]), ([], [.iconst 1, .goto 4]), ([], [.iconst 0, .goto_w 4]), ([], [.ireturn])])
/-- BannerParadeModel.next()V -/
def xM186 : XT := (1, 1, 11, 0, [], [([0], [.aload 0, .getfield 362, .ifCond .le 2, .goto_w 1]), ([], [.return_]), ([0], [.aload 0, .getfield 365, .aload 0, .getfield 364, .if_icmp .ge 5, .goto_w 3]), ([0], [.aload 0, .getfield 360, .aload 0, .getfield 365, .baload, .iconst 32, .if_icmp .ne 5, .goto_w 4]), ([0], [.aload 0, .dup, .getfield 365, .iconst 1, .iadd, .putfield 365, .goto 2]), ([0], [.aload 0, .aload 0, .getfield 365, .putfield 366, .aload 0, .aload 0, .getfield 365, .aload 0, .getfield 364, .if_icmp .ne 7, .goto_w 6]), ([0], [.iconst 1, .goto 8]), ([0], [.iconst 0, .goto_w 8]), ([0], [.putfield 367, .aload 0, .getfield 367, .iconst 1, .if_icmp .ne 10, .goto_w 9]), ([], [.return_]), ([0], [.aload 0, .aload 0, .getfield 365, .invokevirtual 184, .ifCond .eq 17, .goto_w 11]), ([0], [.aload 0, .aload 0, .getfield 365, .invokevirtual 184, .ifCond .eq 13, .goto_w 12]), ([0], [.aload 0, .dup, .getfield 365, .iconst 1, .iadd, .putfield 365, .goto 11]), ([0], [.aload 0, .aload 0, .getfield 365, .aload 0, .getfield 366, .isub, .iconst 8, .if_icmp .gt 15, .goto_w 14]), ([], [.iconst 2, .goto 16]), ([], [.iconst 0, .goto_w 16]), ([], [.putfield 367, .return_]), ([0], [.aload 0, .aload 0, .getfield 365, .invokevirtual 185, .ifCond .eq 27, .goto_w 18]), ([0], [.aload 0, .iconst 0, .putfield 368, .goto_w 19]), ([0], [.aload 0, .aload 0, .getfield 365, .invokevirtual 185, .ifCond .eq 23, .goto_w 20]), ([0], [.aload 0, .getfield 365, .aload 0, .getfield 366, .isub, .iconst 4, .if_icmp .ge 22, .goto_w 21]), ([0], [.aload 0, .iconst 10, .aload 0, .getfield 368, .imul, .aload 0, .getfield 360, .aload 0, .getfield 365, .baload, .iadd, .iconst 48, .isub, .putfield 368, .goto_w 22]), ([0], [.aload 0, .dup, .getfield 365, .iconst 1, .iadd, .putfield 365, .goto 19]), ([0], [.aload 0, .aload 0, .getfield 365, .aload 0, .getfield 366, .isub, .iconst 4, .if_icmp .gt 25, .goto_w 24]), ([], [.iconst 3, .goto 26]), ([], [.iconst 0, .goto_w 26]), ([], [.putfield 367, .return_]), ([0], [.aload 0, .getfield 360, .aload 0, .getfield 365, .baload, .iconst 59, .if_icmp .ne 29, .goto_w 28]), ([0], [.aload 0, .iconst 4, .putfield 367, .goto_w 29]), ([0], [.aload 0, .dup, .getfield 365, .iconst 1, .iadd, .putfield 365, .return_])])
/-- BannerParadeModel.faults(I)V -/
def xM187 : XT := (2, 2, 11, 0, [], [([0, 1], [.aload 0, .getfield 362, .ifCond .le 2, .goto_w 1]), ([], [.return_]), ([0, 1], [.aload 0, .iload 1, .putfield 362, .aload 0, .aload 0, .getfield 366, .putfield 363, .return_])])
/-- BannerParadeModel.is(I)Z -/
def xM188 : XT := (2, 2, 11, 2, [], [([0, 1], [.aload 0, .getfield 362, .ifCond .ne 3, .goto_w 1]), ([0, 1], [.aload 0, .getfield 367, .iload 1, .if_icmp .ne 3, .goto_w 2]), ([], [.iconst 1, .goto 4]), ([], [.iconst 0, .goto_w 4]), ([], [.ireturn])])
/-- BannerParadeModel.isWord(Ljava/lang/String;)Z -/
def xM189 : XT := (2, 3, 11, 2, [], [([0, 1], [.aload 0, .iconst 2, .invokevirtual 188, .ifCond .eq 2, .goto_w 1]), ([0, 1], [.aload 0, .getfield 365, .aload 0, .getfield 366, .isub, .aload 1, .invokevirtual 391, .if_icmp .eq 3, .goto_w 2]), ([], [.iconst 0, .ireturn]), ([0, 1], [.iconst 0, .istore 2, .goto_w 4]), ([0, 1, 2], [.iload 2, .aload 1, .invokevirtual 391, .if_icmp .ge 8, .goto_w 5]), ([0, 1, 2], [.aload 0, .getfield 360, .aload 0, .getfield 366, .iload 2, .iadd, .baload, .aload 1, .iload 2, .invokevirtual 392, .if_icmp .eq 7, .goto_w 6]), ([], [.iconst 0, .ireturn]), ([0, 1, 2], [.iinc 2 1, .goto 4]), ([], [.iconst 1, .ireturn])])
/-- BannerParadeModel.takes(Ljava/lang/String;)V -/
def xM190 : XT := (2, 2, 11, 0, [], [([0, 1], [.aload 0, .aload 1, .invokevirtual 189, .ifCond .ne 2, .goto_w 1]), ([0], [.aload 0, .iconst 1, .invokevirtual 187, .goto_w 2]), ([0], [.aload 0, .invokevirtual 186, .return_])])
/-- BannerParadeModel.number(II)I -/
def xM191 : XT := (3, 4, 11, 1, [], [([0, 1, 2], [.aload 0, .iconst 3, .invokevirtual 188, .ifCond .ne 2, .goto_w 1]), ([0, 1], [.aload 0, .iconst 1, .invokevirtual 187, .goto 4]), ([0, 1, 2], [.aload 0, .getfield 368, .iload 1, .iload 2, .invokestatic 175, .ifCond .ne 4, .goto_w 3]), ([0, 1], [.aload 0, .iconst 2, .invokevirtual 187, .goto_w 4]), ([0, 1], [.aload 0, .getfield 368, .istore 3, .aload 0, .invokevirtual 186, .aload 0, .getfield 362, .ifCond .le 6, .goto_w 5]), ([1], [.iload 1, .goto 7]), ([3], [.iload 3, .goto_w 7]), ([], [.ireturn])])
/-- BannerParadeModel.lowOf(I)I -/
def xM192 : XT := (1, 1, 99, 1, [], [([0], [.iload 0, .ifCond .eq 3, .goto_w 1]), ([0], [.iload 0, .iconst 2, .if_icmp .eq 3, .goto_w 2]), ([0], [.iload 0, .iconst 4, .if_icmp .ne 4, .goto_w 3]), ([], [.iconst 1, .goto 5]), ([], [.iconst 0, .goto_w 5]), ([], [.ireturn])])
/-- BannerParadeModel.highOf(I)I -/
def xM193 : XT := (1, 1, 99, 1, [], [([0], [.iload 0, .tableswitch 4 0 4 #[1, 4, 4, 2, 3]]), ([], [.iconst 999, .ireturn]), ([], [.iconst 50, .ireturn]), ([], [.iconst 100, .ireturn]), ([], [.iconst 9999, .ireturn])])
/-- BannerParadeModel.begins(II)Z -/
def xM194 : XT := (3, 3, 11, 2, [], [([0, 1, 2], [.aload 0, .getfield 353, .iload 1, .iaload, .iload 2, .if_icmp .ne 2, .goto_w 1]), ([0], [.aload 0, .iconst 4, .invokevirtual 187, .goto_w 2]), ([0], [.aload 0, .invokevirtual 186, .aload 0, .getfield 362, .ifCond .ne 4, .goto_w 3]), ([], [.iconst 1, .goto 5]), ([], [.iconst 0, .goto_w 5]), ([], [.ireturn])])
/-- BannerParadeModel.letterHere()I -/
def xM195 : XT := (1, 2, 11, 1, [], [([0], [.aload 0, .iconst 2, .invokevirtual 188, .ifCond .eq 2, .goto_w 1]), ([0], [.aload 0, .getfield 365, .aload 0, .getfield 366, .isub, .iconst 1, .if_icmp .eq 3, .goto_w 2]), ([0], [.aload 0, .iconst 1, .invokevirtual 187, .goto_w 3]), ([0], [.aload 0, .getfield 362, .ifCond .le 5, .goto_w 4]), ([0], [.iconst 1, .goto 6]), ([0], [.aload 0, .getfield 360, .aload 0, .getfield 366, .baload, .iconst 97, .isub, .iconst 1, .iadd, .goto_w 6]), ([0], [.istore 1, .aload 0, .invokevirtual 186, .iload 1, .ireturn])])
/-- BannerParadeModel.readsBearer()V -/
def xM196 : XT := (1, 3, 11, 0, [], [([0], [.aload 0, .iconst 6, .iconst 12, .invokevirtual 194, .ifCond .ne 2, .goto_w 1]), ([], [.return_]), ([0], [.aload 0, .getfield 353, .iconst 6, .iaload, .istore 1, .aload 0, .invokevirtual 195, .istore 2, .aload 0, .iload 1, .iconst 6, .iload 2, .invokevirtual 203, .aload 0, .iload 1, .iconst 0, .iload 2, .invokevirtual 203, .aload 0, .iload 1, .iconst 2, .aload 0, .iconst 1, .iconst 200, .invokevirtual 191, .invokevirtual 203, .aload 0, .iload 1, .iconst 3, .aload 0, .iconst 0, .iconst 20, .invokevirtual 191, .invokevirtual 203, .aload 0, .iload 1, .iconst 4, .iconst 100, .invokevirtual 203, .aload 0, .iload 1, .iconst 1, .aload 0, .getfield 353, .iconst 0, .iaload, .ineg, .iload 1, .imul, .invokevirtual 203, .aload 0, .getfield 353, .iconst 6, .dup2, .iaload, .iconst 1, .iadd, .iastore, .return_])])
/-- BannerParadeModel.readsStand()V -/
def xM197 : XT := (1, 4, 11, 0, [], [([0], [.aload 0, .iconst 7, .iconst 6, .invokevirtual 194, .ifCond .ne 2, .goto_w 1]), ([], [.return_]), ([0], [.aload 0, .getfield 353, .iconst 7, .iaload, .istore 1, .aload 0, .ldc 15, .invokevirtual 189, .istore 2, .iload 2, .ifCond .ne 5, .goto_w 3]), ([0, 1, 2], [.aload 0, .ldc 16, .invokevirtual 189, .ifCond .ne 5, .goto_w 4]), ([0, 1, 2], [.aload 0, .iconst 1, .invokevirtual 187, .goto_w 5]), ([0, 1, 2], [.aload 0, .invokevirtual 186, .aload 0, .iload 1, .iconst 0, .iload 2, .ifCond .eq 7, .goto_w 6]), ([0, 1], [.iconst 1, .goto 8]), ([0, 1], [.iconst 0, .goto_w 8]), ([0, 1], [.invokevirtual 205, .aload 0, .iload 1, .iconst 1, .aload 0, .iconst 0, .iconst 9999, .invokevirtual 191, .invokevirtual 205, .aload 0, .iload 1, .iconst 3, .iconst (-1), .invokevirtual 205, .aload 0, .iconst 2, .invokevirtual 188, .ifCond .ne 10, .goto_w 9]), ([0, 1], [.aload 0, .iconst 1, .invokevirtual 187, .goto_w 10]), ([0, 1], [.aload 0, .getfield 362, .ifCond .le 12, .goto_w 11]), ([], [.return_]), ([0, 1], [.aload 0, .iload 1, .iconst 2, .aload 0, .getfield 365, .aload 0, .getfield 366, .isub, .invokevirtual 205, .aload 0, .getfield 366, .istore 3, .goto_w 13]), ([0, 1, 3], [.iload 3, .aload 0, .getfield 365, .if_icmp .ge 15, .goto_w 14]), ([0, 1, 3], [.aload 0, .iload 1, .iconst 4, .iload 3, .iadd, .aload 0, .getfield 366, .isub, .aload 0, .getfield 360, .iload 3, .baload, .invokevirtual 205, .iinc 3 1, .goto 13]), ([0], [.aload 0, .invokevirtual 186, .aload 0, .getfield 353, .iconst 7, .dup2, .iaload, .iconst 1, .iadd, .iastore, .return_])])
/-- BannerParadeModel.readsPlan()V -/
def xM198 : XT := (1, 3, 11, 0, [], [([0], [.aload 0, .iconst 8, .iconst 12, .invokevirtual 194, .ifCond .ne 2, .goto_w 1]), ([], [.return_]), ([0], [.aload 0, .iconst 1, .iconst 5000, .invokevirtual 191, .istore 1, .aload 0, .iconst 0, .aload 0, .getfield 353, .iconst 6, .iaload, .iconst 2, .isub, .invokevirtual 191, .istore 2, .aload 0, .iload 1, .iload 2, .invokevirtual 199, .return_])])
/-- BannerParadeModel.laysPlan(II)V -/
def xM199 : XT := (3, 4, 11, 0, [], [([0, 1, 2], [.iconst 171, .iconst 3, .aload 0, .getfield 353, .iconst 8, .iaload, .imul, .iadd, .istore 3, .aload 0, .getfield 353, .iload 3, .iload 1, .iastore, .aload 0, .getfield 353, .iload 3, .iconst 1, .iadd, .iload 2, .iastore, .aload 0, .getfield 353, .iload 3, .iconst 2, .iadd, .iconst 0, .iastore, .aload 0, .getfield 353, .iconst 8, .dup2, .iaload, .iconst 1, .iadd, .iastore, .return_])])
/-- BannerParadeModel.reads()V -/
def xM200 : XT := (1, 2, 11, 0, [], [([0], [.aload 0, .invokevirtual 186, .aload 0, .ldc 12, .invokevirtual 190, .iconst 0, .istore 1, .goto_w 1]), ([0, 1], [.iload 1, .iconst 6, .if_icmp .ge 3, .goto_w 2]), ([0, 1], [.aload 0, .getfield 353, .iload 1, .aload 0, .iload 1, .invokestatic 192, .iload 1, .invokestatic 193, .invokevirtual 191, .iastore, .iinc 1 1, .goto 1]), ([0], [.aload 0, .iconst 4, .invokevirtual 188, .ifCond .eq 11, .goto_w 4]), ([0], [.aload 0, .invokevirtual 186, .aload 0, .ldc 13, .invokevirtual 189, .ifCond .eq 6, .goto_w 5]), ([0], [.aload 0, .invokevirtual 196, .goto 3]), ([0], [.aload 0, .ldc 14, .invokevirtual 189, .ifCond .eq 8, .goto_w 7]), ([0], [.aload 0, .invokevirtual 197, .goto 3]), ([0], [.aload 0, .ldc 17, .invokevirtual 189, .ifCond .eq 10, .goto_w 9]), ([0], [.aload 0, .invokevirtual 198, .goto 3]), ([0], [.aload 0, .iconst 1, .invokevirtual 187, .goto 3]), ([0], [.aload 0, .iconst 1, .invokevirtual 188, .ifCond .ne 13, .goto_w 12]), ([0], [.aload 0, .iconst 1, .invokevirtual 187, .goto_w 13]), ([], [.return_])])
/-- BannerParadeModel.load(I)I -/
def xM201 : XT := (2, 3, 11, 1, [], [([0, 1], [.aload 0, .iload 1, .iconst 0, .aload 0, .getfield 361, .invokestatic 175, .iconst 1, .iconst 1, .invokevirtual 176, .ifCond .ne 2, .goto_w 1]), ([], [.iconst 0, .ireturn]), ([0, 1], [.aload 0, .iload 1, .putfield 364, .aload 0, .iconst 0, .putfield 365, .aload 0, .iconst 0, .putfield 361, .aload 0, .iconst 0, .putfield 362, .aload 0, .iconst (-1), .putfield 363, .aload 0, .getfield 353, .iconst 0, .aload 0, .getfield 354, .iconst 0, .invokestatic 178, .iconst 0, .istore 2, .goto_w 3]), ([0, 2], [.iload 2, .iconst 243, .if_icmp .ge 5, .goto_w 4]), ([0, 2], [.aload 0, .getfield 353, .iload 2, .iconst 0, .iastore, .iinc 2 1, .goto 3]), ([0], [.aload 0, .invokevirtual 200, .aload 0, .getfield 362, .ifCond .le 7, .goto_w 6]), ([0], [.aload 0, .getfield 354, .iconst 0, .aload 0, .getfield 353, .iconst 0, .invokestatic 178, .aload 0, .iconst 2, .putfield 352, .iconst 0, .ireturn]), ([0], [.aload 0, .iconst 1, .putfield 358, .aload 0, .iconst 0, .putfield 359, .aload 0, .getfield 357, .iconst 0, .iconst 0, .bastore, .aload 0, .getfield 357, .iconst 1, .iconst 0, .bastore, .aload 0, .getfield 353, .iconst 6, .iaload, .ireturn])])
/-- BannerParadeModel.of(II)I -/
def xM202 : XT := (3, 3, 11, 1, [], [([0, 1, 2], [.aload 0, .getfield 353, .iconst 15, .iconst 7, .iload 1, .imul, .iadd, .iload 2, .iadd, .iaload, .ireturn])])
/-- BannerParadeModel.put(III)V -/
def xM203 : XT := (4, 4, 11, 0, [], [([0, 1, 2, 3], [.aload 0, .getfield 353, .iconst 15, .iconst 7, .iload 1, .imul, .iadd, .iload 2, .iadd, .iload 3, .iastore, .return_])])
/-- BannerParadeModel.ofStand(II)I -/
def xM204 : XT := (3, 3, 11, 1, [], [([0, 1, 2], [.aload 0, .getfield 353, .iconst 99, .iconst 12, .iload 1, .imul, .iadd, .iload 2, .iadd, .iaload, .ireturn])])
/-- BannerParadeModel.putStand(III)V -/
def xM205 : XT := (4, 4, 11, 0, [], [([0, 1, 2, 3], [.aload 0, .getfield 353, .iconst 99, .iconst 12, .iload 1, .imul, .iadd, .iload 2, .iadd, .iload 3, .iastore, .return_])])
/-- BannerParadeModel.ofPlan(II)I -/
def xM206 : XT := (3, 3, 11, 1, [], [([0, 1, 2], [.aload 0, .getfield 353, .iconst 171, .iconst 3, .iload 1, .imul, .iadd, .iload 2, .iadd, .iaload, .ireturn])])
/-- BannerParadeModel.ofLying(II)I -/
def xM207 : XT := (3, 3, 11, 1, [], [([0, 1, 2], [.aload 0, .getfield 353, .iconst 207, .iconst 3, .iload 1, .imul, .iadd, .iload 2, .iadd, .iaload, .ireturn])])
/-- BannerParadeModel.isBearer(I)Z -/
def xM208 : XT := (2, 2, 11, 2, [], [([0, 1], [.iload 1, .iconst 0, .aload 0, .getfield 353, .iconst 6, .iaload, .iconst 1, .isub, .invokestatic 175, .ireturn])])
/-- BannerParadeModel.isStand(I)Z -/
def xM209 : XT := (2, 2, 11, 2, [], [([0, 1], [.iload 1, .iconst 0, .aload 0, .getfield 353, .iconst 7, .iaload, .iconst 1, .isub, .invokestatic 175, .ireturn])])
/-- BannerParadeModel.stride(I)I -/
def xM210 : XT := (2, 2, 11, 1, [], [([0, 1], [.aload 0, .iload 1, .iconst 2, .invokevirtual 202, .i2f, .aload 0, .iload 1, .iconst 4, .invokevirtual 202, .i2f, .fmul, .ldc_w 1120403456, .fdiv, .f2i, .ireturn])])
/-- BannerParadeModel.distance(I)I -/
def xM211 : XT := (2, 2, 11, 1, [], [([0, 1], [.aload 0, .iload 1, .iconst 1, .isub, .iconst 1, .invokevirtual 202, .aload 0, .iload 1, .iconst 1, .invokevirtual 202, .isub, .ireturn])])
/-- BannerParadeModel.strengthens(II)V -/
def xM212 : XT := (3, 3, 11, 0, [], [([0, 1, 2], [.aload 0, .iload 1, .iconst 4, .iconst 0, .iconst 100, .aload 0, .iload 1, .iconst 4, .invokevirtual 202, .iload 2, .iadd, .invokestatic 386, .invokestatic 385, .invokevirtual 203, .return_])])
/-- BannerParadeModel.drops(I)V -/
def xM213 : XT := (2, 3, 11, 0, [], [([0, 1], [.iconst 207, .iconst 3, .aload 0, .getfield 353, .iconst 10, .iaload, .imul, .iadd, .istore 2, .aload 0, .getfield 353, .iload 2, .aload 0, .iload 1, .iconst 0, .invokevirtual 202, .iastore, .aload 0, .getfield 353, .iload 2, .iconst 1, .iadd, .aload 0, .iload 1, .iconst 1, .invokevirtual 202, .iastore, .aload 0, .getfield 353, .iload 2, .iconst 2, .iadd, .aload 0, .getfield 353, .iconst 9, .iaload, .iastore, .aload 0, .getfield 353, .iconst 10, .dup2, .iaload, .iconst 1, .iadd, .iastore, .aload 0, .getfield 353, .iconst 13, .dup2, .iaload, .iconst 1, .iadd, .iastore, .aload 0, .iload 1, .iconst 0, .iconst 0, .invokevirtual 203, .return_])])
/-- BannerParadeModel.picks(II)V -/
def xM214 : XT := (3, 4, 11, 0, [], [([0, 1, 2], [.aload 0, .iload 1, .iconst 0, .aload 0, .iload 2, .iconst 0, .invokevirtual 207, .invokevirtual 203, .aload 0, .getfield 353, .iconst 10, .dup2, .iaload, .iconst 1, .isub, .iastore, .iconst 207, .iconst 3, .iload 2, .imul, .iadd, .istore 3, .goto_w 1]), ([0, 3], [.iload 3, .iconst 207, .iconst 3, .aload 0, .getfield 353, .iconst 10, .iaload, .imul, .iadd, .if_icmp .ge 3, .goto_w 2]), ([0, 3], [.aload 0, .getfield 353, .iload 3, .aload 0, .getfield 353, .iload 3, .iconst 3, .iadd, .iaload, .iastore, .iinc 3 1, .goto 1]), ([0], [.aload 0, .getfield 353, .iconst 14, .dup2, .iaload, .iconst 1, .iadd, .iastore, .return_])])
/-- BannerParadeModel.lyingIn(II)I -/
def xM215 : XT := (3, 5, 11, 1, [], [([0, 1, 2], [.iconst (-1), .istore 3, .iconst 0, .istore 4, .goto_w 1]), ([0, 1, 2, 3, 4], [.iload 4, .aload 0, .getfield 353, .iconst 10, .iaload, .if_icmp .ge 7, .goto_w 2]), ([0, 1, 2, 3, 4], [.aload 0, .iload 4, .iconst 1, .invokevirtual 207, .iload 1, .iload 2, .invokestatic 175, .ifCond .eq 6, .goto_w 3]), ([0, 1, 2, 3, 4], [.iload 3, .iconst (-1), .if_icmp .eq 5, .goto_w 4]), ([0, 1, 2, 3, 4], [.aload 0, .iload 4, .iconst 1, .invokevirtual 207, .aload 0, .iload 3, .iconst 1, .invokevirtual 207, .if_icmp .le 6, .goto_w 5]), ([0, 1, 2, 4], [.iload 4, .istore 3, .goto_w 6]), ([0, 1, 2, 3, 4], [.iinc 4 1, .goto 1]), ([3], [.iload 3, .ireturn])])
/-- BannerParadeModel.maySwap(I)Z -/
def xM216 : XT := (2, 3, 11, 2, [], [([0, 1], [.aload 0, .iload 1, .invokevirtual 208, .ifCond .eq 3, .goto_w 1]), ([0, 1], [.aload 0, .iload 1, .iconst 1, .iadd, .invokevirtual 208, .ifCond .eq 3, .goto_w 2]), ([0, 1], [.iconst 1, .goto 4]), ([0, 1], [.iconst 0, .goto_w 4]), ([0, 1], [.istore 2, .iload 2, .ifCond .eq 9, .goto_w 5]), ([0, 1], [.aload 0, .iload 1, .iconst 1, .iadd, .invokevirtual 211, .aload 0, .getfield 353, .iconst 5, .iaload, .if_icmp .gt 9, .goto_w 6]), ([0, 1], [.aload 0, .iload 1, .iconst 4, .invokevirtual 202, .ifCond .le 9, .goto_w 7]), ([0, 1], [.aload 0, .iload 1, .iconst 1, .iadd, .iconst 4, .invokevirtual 202, .ifCond .le 9, .goto_w 8]), ([], [.iconst 1, .goto 10]), ([], [.iconst 0, .goto_w 10]), ([], [.ireturn])])
/-- BannerParadeModel.exchanges(I)V -/
def xM217 : XT := (2, 3, 11, 0, [], [([0, 1], [.aload 0, .iload 1, .iconst 0, .invokevirtual 202, .istore 2, .aload 0, .iload 1, .iconst 0, .aload 0, .iload 1, .iconst 1, .iadd, .iconst 0, .invokevirtual 202, .invokevirtual 203, .aload 0, .iload 1, .iconst 1, .iadd, .iconst 0, .iload 2, .invokevirtual 203, .return_])])
/-- BannerParadeModel.swaps(I)V -/
def xM218 : XT := (2, 2, 11, 0, [], [([0, 1], [.aload 0, .iload 1, .invokevirtual 217, .aload 0, .iload 1, .iconst (-2), .invokevirtual 212, .aload 0, .iload 1, .iconst 1, .iadd, .iconst (-2), .invokevirtual 212, .aload 0, .getfield 353, .iconst 11, .dup2, .iaload, .iconst 1, .iadd, .iastore, .return_])])
/-- BannerParadeModel.sees(II)Z -/
def xM219 : XT := (3, 3, 11, 2, [], [([0, 1, 2], [.aload 0, .iload 2, .iconst 0, .invokevirtual 202, .ifCond .le 3, .goto_w 1]), ([0, 1, 2], [.aload 0, .iload 2, .iconst 1, .invokevirtual 202, .aload 0, .iload 1, .iconst 1, .invokevirtual 204, .isub, .invokestatic 384, .aload 0, .getfield 353, .iconst 1, .iaload, .if_icmp .gt 3, .goto_w 2]), ([], [.iconst 1, .goto 4]), ([], [.iconst 0, .goto_w 4]), ([], [.ireturn])])
/-- BannerParadeModel.laysText(I)V -/
def xM220 : XT := (2, 6, 11, 0, [], [([0, 1], [.aload 0, .iconst 0, .putfield 370, .aload 0, .getfield 353, .iconst 6, .iaload, .istore 2, .iconst (-1), .istore 3, .iconst 0, .istore 4, .goto_w 1]), ([0, 1, 2, 3, 4], [.iload 4, .iload 2, .if_icmp .ge 12, .goto_w 2]), ([0, 1, 2, 3, 4], [.aload 0, .iload 1, .iconst 0, .invokevirtual 204, .ifCond .ne 4, .goto_w 3]), ([0, 1, 2, 3, 4], [.iload 4, .goto 5]), ([0, 1, 2, 3, 4], [.iload 2, .iconst 1, .isub, .iload 4, .isub, .goto_w 5]), ([0, 1, 2, 3, 4], [.istore 5, .aload 0, .iload 1, .iload 5, .invokevirtual 219, .ifCond .ne 7, .goto_w 6]), ([0, 1, 2, 3, 4], [.goto 11]), ([0, 1, 2, 3, 4, 5], [.iload 3, .iconst (-1), .if_icmp .eq 10, .goto_w 8]), ([0, 1, 2, 3, 4, 5], [.aload 0, .iload 3, .iconst 1, .invokevirtual 202, .aload 0, .iload 5, .iconst 1, .invokevirtual 202, .isub, .invokestatic 384, .aload 0, .getfield 353, .iconst 2, .iaload, .if_icmp .le 10, .goto_w 9]), ([0, 1, 2, 4, 5], [.aload 0, .iconst 32, .invokevirtual 221, .goto_w 10]), ([0, 1, 2, 4, 5], [.aload 0, .iconst 96, .aload 0, .iload 5, .iconst 0, .invokevirtual 202, .iadd, .invokevirtual 221, .iload 5, .istore 3, .goto_w 11]), ([0, 1, 2, 3, 4], [.iinc 4 1, .goto 1]), ([], [.return_])])
/-- BannerParadeModel.laysByte(I)V -/
def xM221 : XT := (2, 2, 11, 0, [], [([0, 1], [.aload 0, .getfield 369, .aload 0, .getfield 370, .iload 1, .iastore, .aload 0, .dup, .getfield 370, .iconst 1, .iadd, .putfield 370, .return_])])
/-- BannerParadeModel.matching(I)I -/
def xM222 : XT := (2, 4, 11, 1, [], [([0, 1], [.aload 0, .iload 1, .invokevirtual 220, .iconst 0, .istore 2, .iconst 0, .istore 3, .goto_w 1]), ([0, 1, 2, 3], [.iload 3, .aload 0, .getfield 370, .if_icmp .ge 7, .goto_w 2]), ([0, 1, 2, 3], [.iload 3, .aload 0, .iload 1, .iconst 2, .invokevirtual 204, .if_icmp .ge 7, .goto_w 3]), ([0, 1, 2, 3], [.iload 2, .aload 0, .getfield 369, .iload 3, .iaload, .aload 0, .iload 1, .iconst 4, .iload 3, .iadd, .invokevirtual 204, .if_icmp .ne 5, .goto_w 4]), ([0, 1, 3], [.iconst 1, .goto 6]), ([0, 1, 3], [.iconst 0, .goto_w 6]), ([0, 1, 3], [.iadd, .istore 2, .iinc 3 1, .goto 1]), ([2], [.iload 2, .ireturn])])
/-- BannerParadeModel.readsWord(I)Z -/
def xM223 : XT := (2, 2, 11, 2, [], [([0, 1], [.aload 0, .iload 1, .invokevirtual 222, .aload 0, .iload 1, .iconst 2, .invokevirtual 204, .if_icmp .ne 3, .goto_w 1]), ([0, 1], [.aload 0, .getfield 370, .aload 0, .iload 1, .iconst 2, .invokevirtual 204, .if_icmp .ne 3, .goto_w 2]), ([], [.iconst 1, .goto 4]), ([], [.iconst 0, .goto_w 4]), ([], [.ireturn])])
/-- BannerParadeModel.shareOf(I)F -/
def xM224 : XT := (2, 3, 11, 6, [], [([0, 1], [.aload 0, .iload 1, .invokevirtual 222, .istore 2, .iload 2, .i2f, .aload 0, .getfield 370, .aload 0, .iload 1, .iconst 2, .invokevirtual 204, .invokestatic 385, .i2f, .fdiv, .freturn])])
/-- BannerParadeModel.plans()V -/
def xM225 : XT := (1, 3, 11, 0, [], [([0], [.iconst 0, .istore 1, .goto_w 1]), ([0, 1], [.iload 1, .aload 0, .getfield 353, .iconst 8, .iaload, .if_icmp .ge 13, .goto_w 2]), ([0, 1], [.aload 0, .iload 1, .iconst 0, .invokevirtual 206, .aload 0, .getfield 353, .iconst 9, .iaload, .if_icmp .ne 12, .goto_w 3]), ([0, 1], [.aload 0, .iload 1, .iconst 2, .invokevirtual 206, .ifCond .eq 5, .goto_w 4]), ([0, 1], [.goto 12]), ([0, 1], [.aload 0, .aload 0, .iload 1, .iconst 1, .invokevirtual 206, .invokevirtual 216, .istore 2, .iload 2, .ifCond .eq 7, .goto_w 6]), ([0, 1, 2], [.aload 0, .aload 0, .iload 1, .iconst 1, .invokevirtual 206, .invokevirtual 218, .goto 8]), ([0, 1, 2], [.aload 0, .getfield 353, .iconst 12, .dup2, .iaload, .iconst 1, .iadd, .iastore, .goto_w 8]), ([0, 1, 2], [.aload 0, .getfield 353, .iconst 171, .iconst 3, .iload 1, .imul, .iadd, .iconst 2, .iadd, .iload 2, .ifCond .eq 10, .goto_w 9]), ([0, 1], [.iconst 1, .goto 11]), ([0, 1], [.iconst 2, .goto_w 11]), ([0, 1], [.iastore, .goto_w 12]), ([0, 1], [.iinc 1 1, .goto 1]), ([], [.return_])])
/-- BannerParadeModel.moves(I)V -/
def xM226 : XT := (2, 5, 11, 0, [], [([0, 1], [.aload 0, .iload 1, .iconst 1, .invokevirtual 202, .istore 2, .aload 0, .getfield 371, .iload 1, .iload 2, .iastore, .iload 2, .aload 0, .iload 1, .invokevirtual 210, .iadd, .istore 3, .iload 1, .ifCond .le 2, .goto_w 1]), ([0, 1, 2, 3], [.iload 3, .aload 0, .iload 1, .iconst 1, .isub, .iconst 1, .invokevirtual 202, .aload 0, .getfield 353, .iconst 0, .iaload, .isub, .invokestatic 386, .istore 3, .goto_w 2]), ([0, 1, 2, 3], [.iload 3, .iload 2, .if_icmp .le 4, .goto_w 3]), ([0, 1, 3], [.iconst 1, .goto 5]), ([0, 1, 3], [.iconst 0, .goto_w 5]), ([0, 1, 3], [.istore 4, .iload 4, .ifCond .eq 7, .goto_w 6]), ([0, 1, 3, 4], [.aload 0, .iload 1, .iconst 1, .iload 3, .invokevirtual 203, .goto_w 7]), ([0, 1, 4], [.aload 0, .iload 1, .iload 4, .ifCond .eq 9, .goto_w 8]), ([0, 1, 4], [.aload 0, .iload 1, .iconst 3, .invokevirtual 202, .ineg, .goto 10]), ([0, 1, 4], [.aload 0, .getfield 353, .iconst 3, .iaload, .goto_w 10]), ([0, 1, 4], [.invokevirtual 212, .aload 0, .iload 1, .iconst 5, .aload 0, .iload 1, .iconst 5, .invokevirtual 202, .iload 4, .ifCond .eq 12, .goto_w 11]), ([], [.iconst 1, .goto 13]), ([], [.iconst 0, .goto_w 13]), ([], [.iadd, .invokevirtual 203, .return_])])
/-- BannerParadeModel.lifts(I)V -/
def xM227 : XT := (2, 3, 11, 0, [], [([0, 1], [.aload 0, .iload 1, .iconst 0, .invokevirtual 202, .ifCond .gt 2, .goto_w 1]), ([0, 1], [.aload 0, .iload 1, .iconst 4, .invokevirtual 202, .aload 0, .getfield 353, .iconst 4, .iaload, .if_icmp .ge 3, .goto_w 2]), ([], [.return_]), ([0, 1], [.aload 0, .aload 0, .getfield 371, .iload 1, .iaload, .aload 0, .iload 1, .iconst 1, .invokevirtual 202, .invokevirtual 215, .istore 2, .iload 2, .iconst (-1), .if_icmp .eq 5, .goto_w 4]), ([0, 1, 2], [.aload 0, .iload 1, .iload 2, .invokevirtual 214, .goto_w 5]), ([], [.return_])])
/-- BannerParadeModel.ticks()V -/
def xM228 : XT := (1, 2, 11, 0, [], [([0], [.aload 0, .getfield 353, .iconst 9, .dup2, .iaload, .iconst 1, .iadd, .iastore, .aload 0, .invokevirtual 225, .iconst 0, .istore 1, .goto_w 1]), ([0, 1], [.iload 1, .aload 0, .getfield 353, .iconst 6, .iaload, .if_icmp .ge 3, .goto_w 2]), ([0, 1], [.aload 0, .iload 1, .invokevirtual 226, .iinc 1 1, .goto 1]), ([0], [.iconst 0, .istore 1, .goto_w 4]), ([0, 1], [.iload 1, .aload 0, .getfield 353, .iconst 6, .iaload, .if_icmp .ge 9, .goto_w 5]), ([0, 1], [.aload 0, .iload 1, .iconst 0, .invokevirtual 202, .ifCond .le 8, .goto_w 6]), ([0, 1], [.aload 0, .iload 1, .iconst 4, .invokevirtual 202, .ifCond .ne 8, .goto_w 7]), ([0, 1], [.aload 0, .iload 1, .invokevirtual 213, .goto_w 8]), ([0, 1], [.iinc 1 1, .goto 4]), ([0], [.iconst 0, .istore 1, .goto_w 10]), ([0, 1], [.iload 1, .aload 0, .getfield 353, .iconst 6, .iaload, .if_icmp .ge 12, .goto_w 11]), ([0, 1], [.aload 0, .iload 1, .invokevirtual 227, .iinc 1 1, .goto 10]), ([0], [.iconst 0, .istore 1, .goto_w 13]), ([0, 1], [.iload 1, .aload 0, .getfield 353, .iconst 7, .iaload, .if_icmp .ge 18, .goto_w 14]), ([0, 1], [.aload 0, .iload 1, .iconst 3, .invokevirtual 204, .iconst (-1), .if_icmp .ne 17, .goto_w 15]), ([0, 1], [.aload 0, .iload 1, .invokevirtual 223, .ifCond .eq 17, .goto_w 16]), ([0, 1], [.aload 0, .iload 1, .iconst 3, .aload 0, .getfield 353, .iconst 9, .iaload, .invokevirtual 205, .goto_w 17]), ([0, 1], [.iinc 1 1, .goto 13]), ([], [.return_])])
/-- BannerParadeModel.passes(I)V -/
def xM229 : XT := (2, 3, 11, 0, [], [([0, 1], [.iconst 0, .istore 2, .goto_w 1]), ([0, 1, 2], [.iload 2, .iload 1, .if_icmp .ge 3, .goto_w 2]), ([0, 1, 2], [.aload 0, .invokevirtual 228, .iinc 2 1, .goto 1]), ([], [.return_])])
/-- BannerParadeModel.carried()I -/
def xM230 : XT := (1, 3, 11, 1, [], [([0], [.iconst 0, .istore 1, .iconst 0, .istore 2, .goto_w 1]), ([0, 1, 2], [.iload 2, .aload 0, .getfield 353, .iconst 6, .iaload, .if_icmp .ge 6, .goto_w 2]), ([0, 1, 2], [.iload 1, .aload 0, .iload 2, .iconst 0, .invokevirtual 202, .ifCond .le 4, .goto_w 3]), ([0, 2], [.iconst 1, .goto 5]), ([0, 2], [.iconst 0, .goto_w 5]), ([0, 2], [.iadd, .istore 1, .iinc 2 1, .goto 1]), ([1], [.iload 1, .ireturn])])
/-- BannerParadeModel.readSet()I -/
def xM231 : XT := (1, 3, 11, 1, [], [([0], [.iconst 0, .istore 1, .iconst 0, .istore 2, .goto_w 1]), ([0, 1, 2], [.iload 2, .aload 0, .getfield 353, .iconst 7, .iaload, .if_icmp .ge 6, .goto_w 2]), ([0, 1, 2], [.iload 1, .aload 0, .iload 2, .iconst 3, .invokevirtual 204, .iconst (-1), .if_icmp .eq 4, .goto_w 3]), ([0, 2], [.iconst 1, .iload 2, .ishl, .goto 5]), ([0, 2], [.iconst 0, .goto_w 5]), ([0, 2], [.ior, .istore 1, .iinc 2 1, .goto 1]), ([1], [.iload 1, .ireturn])])
/-- BannerParadeModel.readMany()I -/
def xM232 : XT := (1, 3, 11, 1, [], [([0], [.iconst 0, .istore 1, .iconst 0, .istore 2, .goto_w 1]), ([0, 1, 2], [.iload 2, .aload 0, .getfield 353, .iconst 7, .iaload, .if_icmp .ge 6, .goto_w 2]), ([0, 1, 2], [.iload 1, .aload 0, .iload 2, .iconst 3, .invokevirtual 204, .iconst (-1), .if_icmp .eq 4, .goto_w 3]), ([0, 2], [.iconst 1, .goto 5]), ([0, 2], [.iconst 0, .goto_w 5]), ([0, 2], [.iadd, .istore 1, .iinc 2 1, .goto 1]), ([1], [.iload 1, .ireturn])])
/-- BannerParadeModel.coming()I -/
def xM233 : XT := (1, 3, 11, 1, [], [([0], [.iconst 0, .istore 1, .iconst 0, .istore 2, .goto_w 1]), ([0, 1, 2], [.iload 2, .aload 0, .getfield 353, .iconst 8, .iaload, .if_icmp .ge 6, .goto_w 2]), ([0, 1, 2], [.iload 1, .aload 0, .iload 2, .iconst 2, .invokevirtual 206, .ifCond .ne 4, .goto_w 3]), ([0, 2], [.iconst 1, .goto 5]), ([0, 2], [.iconst 0, .goto_w 5]), ([0, 2], [.iadd, .istore 1, .iinc 2 1, .goto 1]), ([1], [.iload 1, .ireturn])])
/-- BannerParadeModel.withoutStrength()I -/
def xM234 : XT := (1, 3, 11, 1, [], [([0], [.iconst 0, .istore 1, .iconst 0, .istore 2, .goto_w 1]), ([0, 1, 2], [.iload 2, .aload 0, .getfield 353, .iconst 6, .iaload, .if_icmp .ge 6, .goto_w 2]), ([0, 1, 2], [.iload 1, .aload 0, .iload 2, .iconst 4, .invokevirtual 202, .ifCond .ne 4, .goto_w 3]), ([0, 2], [.iconst 1, .goto 5]), ([0, 2], [.iconst 0, .goto_w 5]), ([0, 2], [.iadd, .istore 1, .iinc 2 1, .goto 1]), ([1], [.iload 1, .ireturn])])
/-- BannerParadeModel.withOwn()I -/
def xM235 : XT := (1, 3, 11, 1, [], [([0], [.iconst 0, .istore 1, .iconst 0, .istore 2, .goto_w 1]), ([0, 1, 2], [.iload 2, .aload 0, .getfield 353, .iconst 6, .iaload, .if_icmp .ge 6, .goto_w 2]), ([0, 1, 2], [.iload 1, .aload 0, .iload 2, .iconst 0, .invokevirtual 202, .aload 0, .iload 2, .iconst 6, .invokevirtual 202, .if_icmp .ne 4, .goto_w 3]), ([0, 2], [.iconst 1, .goto 5]), ([0, 2], [.iconst 0, .goto_w 5]), ([0, 2], [.iadd, .istore 1, .iinc 2 1, .goto 1]), ([1], [.iload 1, .ireturn])])
/-- BannerParadeModel.close()I -/
def xM236 : XT := (1, 3, 11, 1, [], [([0], [.iconst 0, .istore 1, .iconst 1, .istore 2, .goto_w 1]), ([0, 1, 2], [.iload 2, .aload 0, .getfield 353, .iconst 6, .iaload, .if_icmp .ge 6, .goto_w 2]), ([0, 1, 2], [.iload 1, .aload 0, .iload 2, .invokevirtual 211, .aload 0, .getfield 353, .iconst 0, .iaload, .if_icmp .gt 4, .goto_w 3]), ([0, 2], [.iconst 1, .goto 5]), ([0, 2], [.iconst 0, .goto_w 5]), ([0, 2], [.iadd, .istore 1, .iinc 2 1, .goto 1]), ([1], [.iload 1, .ireturn])])
/-- BannerParadeModel.strides()I -/
def xM237 : XT := (1, 3, 11, 1, [], [([0], [.iconst 0, .istore 1, .iconst 0, .istore 2, .goto_w 1]), ([0, 1, 2], [.iload 2, .aload 0, .getfield 353, .iconst 6, .iaload, .if_icmp .ge 3, .goto_w 2]), ([0, 1, 2], [.iload 1, .aload 0, .iload 2, .invokevirtual 210, .iadd, .istore 1, .iinc 2 1, .goto 1]), ([1], [.iload 1, .ireturn])])
/-- BannerParadeModel.seeing()I -/
def xM238 : XT := (1, 3, 11, 1, [], [([0], [.iconst 0, .istore 1, .iconst 0, .istore 2, .goto_w 1]), ([0, 1, 2], [.iload 2, .aload 0, .getfield 353, .iconst 7, .iaload, .if_icmp .ge 6, .goto_w 2]), ([0, 1, 2], [.iload 1, .aload 0, .iload 2, .invokevirtual 247, .ifCond .eq 4, .goto_w 3]), ([0, 2], [.iconst 1, .goto 5]), ([0, 2], [.iconst 0, .goto_w 5]), ([0, 2], [.iadd, .istore 1, .iinc 2 1, .goto 1]), ([1], [.iload 1, .ireturn])])
/-- BannerParadeModel.count(I)I -/
def xM239 : XT := (2, 2, 11, 1, [], [([0, 1], [.aload 0, .aload 0, .getfield 358, .iload 1, .iconst 0, .iconst 16, .invokestatic 175, .invokevirtual 177, .ifCond .ne 2, .goto_w 1]), ([], [.iconst 0, .ireturn]), ([0, 1], [.iload 1, .tableswitch 19 0 15 #[3, 4, 5, 6, 7, 8, 9, 10, 11, 12, 13, 14, 15, 16, 17, 18]]), ([0], [.aload 0, .getfield 353, .iconst 6, .iaload, .ireturn]), ([0], [.aload 0, .getfield 353, .iconst 7, .iaload, .ireturn]), ([0], [.aload 0, .getfield 353, .iconst 8, .iaload, .ireturn]), ([0], [.aload 0, .getfield 353, .iconst 9, .iaload, .ireturn]), ([0], [.aload 0, .invokevirtual 230, .ireturn]), ([0], [.aload 0, .getfield 353, .iconst 10, .iaload, .ireturn]), ([0], [.aload 0, .getfield 353, .iconst 11, .iaload, .ireturn]), ([0], [.aload 0, .getfield 353, .iconst 12, .iaload, .ireturn]), ([0], [.aload 0, .getfield 353, .iconst 13, .iaload, .ireturn]), ([0], [.aload 0, .getfield 353, .iconst 14, .iaload, .ireturn]), ([0], [.aload 0, .invokevirtual 232, .ireturn]), ([0], [.aload 0, .invokevirtual 233, .ireturn]), ([0], [.aload 0, .invokevirtual 234, .ireturn]), ([0], [.aload 0, .invokevirtual 235, .ireturn]), ([0], [.aload 0, .invokevirtual 236, .ireturn]), ([0], [.aload 0, .invokevirtual 237, .ireturn]), ([0], [.aload 0, .invokevirtual 238, .ireturn])])
/-- BannerParadeModel.setting(I)I -/
def xM240 : XT := (2, 2, 11, 1, [], [([0, 1], [.aload 0, .aload 0, .getfield 358, .iload 1, .iconst 0, .iconst 5, .invokestatic 175, .invokevirtual 177, .ifCond .eq 2, .goto_w 1]), ([0, 1], [.aload 0, .getfield 353, .iload 1, .iaload, .goto 3]), ([], [.iconst 0, .goto_w 3]), ([], [.ireturn])])
/-- BannerParadeModel.mayBearer(I)Z -/
def xM241 : XT := (2, 2, 11, 2, [], [([0, 1], [.aload 0, .aload 0, .getfield 358, .aload 0, .iload 1, .invokevirtual 208, .invokevirtual 177, .ireturn])])
/-- BannerParadeModel.mayStand(I)Z -/
def xM242 : XT := (2, 2, 11, 2, [], [([0, 1], [.aload 0, .aload 0, .getfield 358, .aload 0, .iload 1, .invokevirtual 209, .invokevirtual 177, .ireturn])])
/-- BannerParadeModel.mayWith(IZ)Z -/
def xM243 : XT := (3, 3, 11, 2, [], [([0, 1, 2], [.aload 0, .aload 0, .getfield 358, .aload 0, .iload 1, .invokevirtual 208, .iload 2, .invokevirtual 176, .ireturn])])
/-- BannerParadeModel.seersOf(I)I -/
def xM244 : XT := (2, 4, 11, 1, [], [([0, 1], [.iconst 0, .istore 2, .iconst 0, .istore 3, .goto_w 1]), ([0, 1, 2, 3], [.iload 3, .aload 0, .getfield 353, .iconst 7, .iaload, .if_icmp .ge 6, .goto_w 2]), ([0, 1, 2, 3], [.iload 2, .aload 0, .iload 3, .iload 1, .invokevirtual 219, .ifCond .eq 4, .goto_w 3]), ([0, 1, 3], [.iconst 1, .goto 5]), ([0, 1, 3], [.iconst 0, .goto_w 5]), ([0, 1, 3], [.iadd, .istore 2, .iinc 3 1, .goto 1]), ([2], [.iload 2, .ireturn])])
/-- BannerParadeModel.weaker(I)I -/
def xM245 : XT := (2, 4, 11, 1, [], [([0, 1], [.iconst 0, .istore 2, .iconst 0, .istore 3, .goto_w 1]), ([0, 1, 2, 3], [.iload 3, .aload 0, .getfield 353, .iconst 6, .iaload, .if_icmp .ge 6, .goto_w 2]), ([0, 1, 2, 3], [.iload 2, .aload 0, .iload 3, .iconst 4, .invokevirtual 202, .aload 0, .iload 1, .iconst 4, .invokevirtual 202, .if_icmp .ge 4, .goto_w 3]), ([0, 1, 3], [.iconst 1, .goto 5]), ([0, 1, 3], [.iconst 0, .goto_w 5]), ([0, 1, 3], [.iadd, .istore 2, .iinc 3 1, .goto 1]), ([2], [.iload 2, .ireturn])])
/-- BannerParadeModel.bearer(II)I -/
def xM246 : XT := (3, 3, 11, 1, [], [([0, 1, 2], [.aload 0, .iload 1, .iload 2, .iconst 0, .iconst 12, .invokestatic 175, .invokevirtual 243, .ifCond .ne 2, .goto_w 1]), ([], [.iconst 0, .ireturn]), ([0, 1, 2], [.iload 2, .tableswitch 17 5 12 #[3, 4, 8, 9, 10, 11, 12, 13]]), ([0, 1], [.aload 0, .iload 1, .invokevirtual 210, .ireturn]), ([0, 1], [.iload 1, .ifCond .ne 6, .goto_w 5]), ([], [.iconst (-1), .goto 7]), ([0, 1], [.aload 0, .iload 1, .invokevirtual 211, .goto_w 7]), ([], [.ireturn]), ([0, 1], [.aload 0, .iload 1, .iconst 5, .invokevirtual 202, .ireturn]), ([0, 1], [.aload 0, .iload 1, .iconst 6, .invokevirtual 202, .ireturn]), ([0, 1], [.aload 0, .iload 1, .invokevirtual 244, .ireturn]), ([0, 1], [.aload 0, .iconst 0, .iconst 1, .invokevirtual 202, .aload 0, .iload 1, .iconst 1, .invokevirtual 202, .isub, .ireturn]), ([0, 1], [.aload 0, .iload 1, .invokevirtual 245, .ireturn]), ([0, 1], [.aload 0, .aload 0, .iload 1, .iconst 1, .invokevirtual 202, .aload 0, .iload 1, .iconst 1, .invokevirtual 202, .invokevirtual 215, .iconst (-1), .if_icmp .ne 15, .goto_w 14]), ([], [.iconst 0, .goto 16]), ([], [.iconst 1, .goto_w 16]), ([], [.ireturn]), ([0, 1, 2], [.aload 0, .iload 1, .iload 2, .invokevirtual 202, .ireturn])])
/-- BannerParadeModel.seenSet(I)I -/
def xM247 : XT := (2, 4, 11, 1, [], [([0, 1], [.iconst 0, .istore 2, .iconst 0, .istore 3, .goto_w 1]), ([0, 1, 2, 3], [.iload 3, .aload 0, .getfield 353, .iconst 6, .iaload, .if_icmp .ge 6, .goto_w 2]), ([0, 1, 2, 3], [.iload 2, .aload 0, .iload 1, .iload 3, .invokevirtual 219, .ifCond .eq 4, .goto_w 3]), ([0, 1, 3], [.iconst 1, .iload 3, .ishl, .goto 5]), ([0, 1, 3], [.iconst 0, .goto_w 5]), ([0, 1, 3], [.ior, .istore 2, .iinc 3 1, .goto 1]), ([2], [.iload 2, .ireturn])])
/-- BannerParadeModel.bits(I)I -/
def xM248 : XT := (1, 3, 99, 1, [], [([0], [.iconst 0, .istore 1, .iconst 0, .istore 2, .goto_w 1]), ([0, 1, 2], [.iload 2, .iconst 12, .if_icmp .ge 3, .goto_w 2]), ([0, 1, 2], [.iload 1, .iload 0, .iload 2, .ishr, .iconst 1, .iand, .iadd, .istore 1, .iinc 2 1, .goto 1]), ([1], [.iload 1, .ireturn])])
/-- BannerParadeModel.textLength(I)I -/
def xM249 : XT := (2, 2, 11, 1, [], [([0, 1], [.aload 0, .iload 1, .invokevirtual 220, .aload 0, .getfield 370, .ireturn])])
/-- BannerParadeModel.nearest(I)I -/
def xM250 : XT := (2, 5, 11, 1, [], [([0, 1], [.iconst (-1), .istore 2, .iconst 0, .istore 3, .goto_w 1]), ([0, 1, 2, 3], [.iload 3, .aload 0, .getfield 353, .iconst 6, .iaload, .if_icmp .ge 6, .goto_w 2]), ([0, 1, 2, 3], [.aload 0, .iload 3, .iconst 1, .invokevirtual 202, .aload 0, .iload 1, .iconst 1, .invokevirtual 204, .isub, .invokestatic 384, .istore 4, .iload 2, .iconst (-1), .if_icmp .ne 4, .goto_w 3]), ([0, 1, 3, 4], [.iload 4, .goto 5]), ([0, 1, 2, 3, 4], [.iload 2, .iload 4, .invokestatic 386, .goto_w 5]), ([0, 1, 3], [.istore 2, .iinc 3 1, .goto 1]), ([2], [.iload 2, .ireturn])])
/-- BannerParadeModel.beyond(I)I -/
def xM251 : XT := (2, 4, 11, 1, [], [([0, 1], [.iconst 0, .istore 2, .iconst 0, .istore 3, .goto_w 1]), ([0, 1, 2, 3], [.iload 3, .aload 0, .getfield 353, .iconst 6, .iaload, .if_icmp .ge 6, .goto_w 2]), ([0, 1, 2, 3], [.iload 2, .aload 0, .iload 3, .iconst 1, .invokevirtual 202, .aload 0, .iload 1, .iconst 1, .invokevirtual 204, .aload 0, .getfield 353, .iconst 1, .iaload, .iadd, .if_icmp .le 4, .goto_w 3]), ([0, 1, 3], [.iconst 1, .goto 5]), ([0, 1, 3], [.iconst 0, .goto_w 5]), ([0, 1, 3], [.iadd, .istore 2, .iinc 3 1, .goto 1]), ([2], [.iload 2, .ireturn])])
/-- BannerParadeModel.ahead(I)I -/
def xM252 : XT := (2, 4, 11, 1, [], [([0, 1], [.iconst 0, .istore 2, .iconst 0, .istore 3, .goto_w 1]), ([0, 1, 2, 3], [.iload 3, .aload 0, .getfield 353, .iconst 6, .iaload, .if_icmp .ge 6, .goto_w 2]), ([0, 1, 2, 3], [.iload 2, .aload 0, .iload 3, .iconst 1, .invokevirtual 202, .aload 0, .iload 1, .iconst 1, .invokevirtual 204, .aload 0, .getfield 353, .iconst 1, .iaload, .isub, .if_icmp .ge 4, .goto_w 3]), ([0, 1, 3], [.iconst 1, .goto 5]), ([0, 1, 3], [.iconst 0, .goto_w 5]), ([0, 1, 3], [.iadd, .istore 2, .iinc 3 1, .goto 1]), ([2], [.iload 2, .ireturn])])
/-- BannerParadeModel.stand(II)I -/
def xM253 : XT := (3, 3, 11, 1, [], [([0, 1, 2], [.aload 0, .aload 0, .getfield 358, .aload 0, .iload 1, .invokevirtual 209, .iload 2, .iconst 0, .iconst 8, .invokestatic 175, .invokevirtual 176, .ifCond .ne 2, .goto_w 1]), ([], [.iconst 0, .ireturn]), ([0, 1, 2], [.iload 2, .tableswitch 8 4 8 #[3, 4, 5, 6, 7]]), ([0, 1], [.aload 0, .iload 1, .invokevirtual 247, .invokestatic 248, .ireturn]), ([0, 1], [.aload 0, .iload 1, .invokevirtual 249, .ireturn]), ([0, 1], [.aload 0, .iload 1, .invokevirtual 250, .ireturn]), ([0, 1], [.aload 0, .iload 1, .invokevirtual 251, .ireturn]), ([0, 1], [.aload 0, .iload 1, .invokevirtual 252, .ireturn]), ([0, 1, 2], [.aload 0, .iload 1, .iload 2, .invokevirtual 204, .ireturn])])
/-- BannerParadeModel.plan(II)I -/
def xM254 : XT := (3, 3, 11, 1, [], [([0, 1, 2], [.aload 0, .aload 0, .getfield 358, .iload 1, .iconst 0, .aload 0, .getfield 353, .iconst 8, .iaload, .iconst 1, .isub, .invokestatic 175, .iload 2, .iconst 0, .iconst 3, .invokestatic 175, .invokevirtual 176, .ifCond .ne 2, .goto_w 1]), ([], [.iconst 0, .ireturn]), ([0, 1, 2], [.iload 2, .iconst 3, .if_icmp .ge 4, .goto_w 3]), ([0, 1, 2], [.aload 0, .iload 1, .iload 2, .invokevirtual 206, .ireturn]), ([0, 1], [.aload 0, .iload 1, .iconst 2, .invokevirtual 206, .ifCond .ne 6, .goto_w 5]), ([0, 1], [.aload 0, .iload 1, .iconst 0, .invokevirtual 206, .aload 0, .getfield 353, .iconst 9, .iaload, .isub, .goto 7]), ([], [.iconst (-1), .goto_w 7]), ([], [.ireturn])])
/-- BannerParadeModel.lying(II)I -/
def xM255 : XT := (3, 3, 11, 1, [], [([0, 1, 2], [.aload 0, .aload 0, .getfield 358, .iload 1, .iconst 0, .aload 0, .getfield 353, .iconst 10, .iaload, .iconst 1, .isub, .invokestatic 175, .iload 2, .iconst 0, .iconst 2, .invokestatic 175, .invokevirtual 176, .ifCond .eq 2, .goto_w 1]), ([0, 1, 2], [.aload 0, .iload 1, .iload 2, .invokevirtual 207, .goto 3]), ([], [.iconst 0, .goto_w 3]), ([], [.ireturn])])
/-- BannerParadeModel.wordByte(II)I -/
def xM256 : XT := (3, 3, 11, 1, [], [([0, 1, 2], [.aload 0, .iload 1, .invokevirtual 242, .ifCond .ne 2, .goto_w 1]), ([], [.iconst 0, .ireturn]), ([0, 1, 2], [.iload 2, .iconst 0, .aload 0, .iload 1, .iconst 2, .invokevirtual 204, .iconst 1, .isub, .invokestatic 175, .ifCond .eq 4, .goto_w 3]), ([0, 1, 2], [.aload 0, .iload 1, .iconst 4, .iload 2, .iadd, .invokevirtual 204, .goto 5]), ([], [.iconst (-1), .goto_w 5]), ([], [.ireturn])])
/-- BannerParadeModel.readByte(II)I -/
def xM257 : XT := (3, 3, 11, 1, [], [([0, 1, 2], [.aload 0, .iload 1, .invokevirtual 242, .ifCond .ne 2, .goto_w 1]), ([], [.iconst 0, .ireturn]), ([0, 1, 2], [.aload 0, .iload 1, .invokevirtual 220, .iload 2, .iconst 0, .aload 0, .getfield 370, .iconst 1, .isub, .invokestatic 175, .ifCond .eq 4, .goto_w 3]), ([0, 2], [.aload 0, .getfield 369, .iload 2, .iaload, .goto 5]), ([], [.iconst (-1), .goto_w 5]), ([], [.ireturn])])
/-- BannerParadeModel.seen(I)I -/
def xM258 : XT := (2, 2, 11, 1, [], [([0, 1], [.aload 0, .iload 1, .invokevirtual 242, .ifCond .eq 2, .goto_w 1]), ([0, 1], [.aload 0, .iload 1, .invokevirtual 247, .goto 3]), ([], [.iconst 0, .goto_w 3]), ([], [.ireturn])])
/-- BannerParadeModel.matches(I)I -/
def xM259 : XT := (2, 2, 11, 1, [], [([0, 1], [.aload 0, .iload 1, .invokevirtual 242, .ifCond .eq 2, .goto_w 1]), ([0, 1], [.aload 0, .iload 1, .invokevirtual 222, .goto 3]), ([], [.iconst 0, .goto_w 3]), ([], [.ireturn])])
/-- BannerParadeModel.isRead(I)Z -/
def xM260 : XT := (2, 2, 11, 2, [], [([0, 1], [.aload 0, .iload 1, .invokevirtual 242, .ifCond .eq 3, .goto_w 1]), ([0, 1], [.aload 0, .iload 1, .invokevirtual 223, .ifCond .eq 3, .goto_w 2]), ([], [.iconst 1, .goto 4]), ([], [.iconst 0, .goto_w 4]), ([], [.ireturn])])
/-- BannerParadeModel.seenOne(II)I -/
def xM261 : XT := (3, 6, 11, 1, [], [([0, 1, 2], [.iload 2, .istore 3, .iconst 0, .istore 4, .goto_w 1]), ([0, 1, 3, 4], [.iload 4, .aload 0, .getfield 353, .iconst 6, .iaload, .if_icmp .ge 11, .goto_w 2]), ([0, 1, 3, 4], [.aload 0, .iload 1, .iconst 0, .invokevirtual 204, .ifCond .ne 4, .goto_w 3]), ([0, 1, 3, 4], [.iload 4, .goto 5]), ([0, 1, 3, 4], [.aload 0, .getfield 353, .iconst 6, .iaload, .iconst 1, .isub, .iload 4, .isub, .goto_w 5]), ([0, 1, 3, 4], [.istore 5, .aload 0, .iload 1, .iload 5, .invokevirtual 219, .ifCond .ne 7, .goto_w 6]), ([0, 1, 3, 4], [.goto 10]), ([0, 1, 3, 4, 5], [.iload 3, .ifCond .ne 9, .goto_w 8]), ([5], [.iload 5, .ireturn]), ([0, 1, 3, 4], [.iinc 3 (-1), .goto_w 10]), ([0, 1, 3, 4], [.iinc 4 1, .goto 1]), ([], [.iconst (-1), .ireturn])])
/-- BannerParadeModel.seenAt(II)I -/
def xM262 : XT := (3, 3, 11, 1, [], [([0, 1, 2], [.aload 0, .iload 1, .invokevirtual 242, .ifCond .ne 2, .goto_w 1]), ([], [.iconst 0, .ireturn]), ([0, 1, 2], [.iload 2, .ifCond .ge 4, .goto_w 3]), ([], [.iconst (-1), .goto 5]), ([0, 1, 2], [.aload 0, .iload 1, .iload 2, .invokevirtual 261, .goto_w 5]), ([], [.ireturn])])
/-- BannerParadeModel.blanks(I)I -/
def xM263 : XT := (2, 4, 11, 1, [], [([0, 1], [.aload 0, .iload 1, .invokevirtual 242, .ifCond .ne 2, .goto_w 1]), ([], [.iconst 0, .ireturn]), ([0, 1], [.aload 0, .iload 1, .invokevirtual 220, .iconst 0, .istore 2, .iconst 0, .istore 3, .goto_w 3]), ([0, 2, 3], [.iload 3, .aload 0, .getfield 370, .if_icmp .ge 8, .goto_w 4]), ([0, 2, 3], [.iload 2, .aload 0, .getfield 369, .iload 3, .iaload, .iconst 32, .if_icmp .ne 6, .goto_w 5]), ([0, 3], [.iconst 1, .goto 7]), ([0, 3], [.iconst 0, .goto_w 7]), ([0, 3], [.iadd, .istore 2, .iinc 3 1, .goto 3]), ([2], [.iload 2, .ireturn])])
/-- BannerParadeModel.prefix(I)I -/
def xM264 : XT := (2, 3, 11, 1, [], [([0, 1], [.aload 0, .iload 1, .invokevirtual 242, .ifCond .ne 2, .goto_w 1]), ([], [.iconst 0, .ireturn]), ([0, 1], [.aload 0, .iload 1, .invokevirtual 220, .iconst 0, .istore 2, .goto_w 3]), ([0, 1, 2], [.iload 2, .aload 0, .getfield 370, .if_icmp .ge 7, .goto_w 4]), ([0, 1, 2], [.iload 2, .aload 0, .iload 1, .iconst 2, .invokevirtual 204, .if_icmp .ge 7, .goto_w 5]), ([0, 1, 2], [.aload 0, .getfield 369, .iload 2, .iaload, .aload 0, .iload 1, .iconst 4, .iload 2, .iadd, .invokevirtual 204, .if_icmp .ne 7, .goto_w 6]), ([0, 1, 2], [.iinc 2 1, .goto 3]), ([2], [.iload 2, .ireturn])])
/-- BannerParadeModel.mayLetter(I)Z -/
def xM265 : XT := (2, 2, 11, 2, [], [([0, 1], [.aload 0, .aload 0, .getfield 358, .iload 1, .iconst 1, .iconst 26, .invokestatic 175, .invokevirtual 177, .ireturn])])
/-- BannerParadeModel.holder(I)I -/
def xM266 : XT := (2, 3, 11, 1, [], [([0, 1], [.aload 0, .iload 1, .invokevirtual 265, .ifCond .ne 2, .goto_w 1]), ([], [.iconst 0, .ireturn]), ([0, 1], [.iconst 0, .istore 2, .goto_w 3]), ([0, 1, 2], [.iload 2, .aload 0, .getfield 353, .iconst 6, .iaload, .if_icmp .ge 7, .goto_w 4]), ([0, 1, 2], [.aload 0, .iload 2, .iconst 0, .invokevirtual 202, .iload 1, .if_icmp .ne 6, .goto_w 5]), ([2], [.iload 2, .ireturn]), ([0, 1, 2], [.iinc 2 1, .goto 3]), ([], [.iconst (-1), .ireturn])])
/-- BannerParadeModel.copies(I)I -/
def xM267 : XT := (2, 4, 11, 1, [], [([0, 1], [.aload 0, .iload 1, .invokevirtual 265, .ifCond .ne 2, .goto_w 1]), ([], [.iconst 0, .ireturn]), ([0, 1], [.iconst 0, .istore 2, .iconst 0, .istore 3, .goto_w 3]), ([0, 1, 2, 3], [.iload 3, .aload 0, .getfield 353, .iconst 6, .iaload, .if_icmp .ge 8, .goto_w 4]), ([0, 1, 2, 3], [.iload 2, .aload 0, .iload 3, .iconst 0, .invokevirtual 202, .iload 1, .if_icmp .ne 6, .goto_w 5]), ([0, 1, 3], [.iconst 1, .goto 7]), ([0, 1, 3], [.iconst 0, .goto_w 7]), ([0, 1, 3], [.iadd, .istore 2, .iinc 3 1, .goto 3]), ([0, 1, 2], [.iconst 0, .istore 3, .goto_w 9]), ([0, 1, 2, 3], [.iload 3, .aload 0, .getfield 353, .iconst 10, .iaload, .if_icmp .ge 14, .goto_w 10]), ([0, 1, 2, 3], [.iload 2, .aload 0, .iload 3, .iconst 0, .invokevirtual 207, .iload 1, .if_icmp .ne 12, .goto_w 11]), ([0, 1, 3], [.iconst 1, .goto 13]), ([0, 1, 3], [.iconst 0, .goto_w 13]), ([0, 1, 3], [.iadd, .istore 2, .iinc 3 1, .goto 9]), ([2], [.iload 2, .ireturn])])
/-- BannerParadeModel.tired(I)I -/
def xM268 : XT := (2, 4, 11, 1, [], [([0, 1], [.aload 0, .aload 0, .getfield 358, .iload 1, .iconst 0, .iconst 100, .invokestatic 175, .invokevirtual 177, .ifCond .ne 2, .goto_w 1]), ([], [.iconst 0, .ireturn]), ([0, 1], [.iconst 0, .istore 2, .iconst 0, .istore 3, .goto_w 3]), ([0, 1, 2, 3], [.iload 3, .aload 0, .getfield 353, .iconst 6, .iaload, .if_icmp .ge 8, .goto_w 4]), ([0, 1, 2, 3], [.iload 2, .aload 0, .iload 3, .iconst 4, .invokevirtual 202, .iload 1, .if_icmp .gt 6, .goto_w 5]), ([0, 1, 3], [.iconst 1, .iload 3, .ishl, .goto 7]), ([0, 1, 3], [.iconst 0, .goto_w 7]), ([0, 1, 3], [.ior, .istore 2, .iinc 3 1, .goto 3]), ([2], [.iload 2, .ireturn])])
/-- BannerParadeModel.swappers()I -/
def xM269 : XT := (1, 3, 11, 1, [], [([0], [.aload 0, .invokevirtual 275, .ifCond .ne 2, .goto_w 1]), ([], [.iconst 0, .ireturn]), ([0], [.iconst 0, .istore 1, .iconst 0, .istore 2, .goto_w 3]), ([0, 1, 2], [.iload 2, .aload 0, .getfield 353, .iconst 6, .iaload, .if_icmp .ge 8, .goto_w 4]), ([0, 1, 2], [.iload 1, .aload 0, .iload 2, .invokevirtual 216, .ifCond .eq 6, .goto_w 5]), ([0, 2], [.iconst 1, .iload 2, .ishl, .goto 7]), ([0, 2], [.iconst 0, .goto_w 7]), ([0, 2], [.ior, .istore 1, .iinc 2 1, .goto 3]), ([1], [.iload 1, .ireturn])])
/-- BannerParadeModel.nextPlan()I -/
def xM270 : XT := (1, 3, 11, 1, [], [([0], [.aload 0, .invokevirtual 275, .ifCond .ne 2, .goto_w 1]), ([], [.iconst 0, .ireturn]), ([0], [.iconst (-1), .istore 1, .iconst 0, .istore 2, .goto_w 3]), ([0, 1, 2], [.iload 2, .aload 0, .getfield 353, .iconst 8, .iaload, .if_icmp .ge 9, .goto_w 4]), ([0, 1, 2], [.aload 0, .iload 2, .iconst 2, .invokevirtual 206, .ifCond .ne 8, .goto_w 5]), ([0, 1, 2], [.iload 1, .iconst (-1), .if_icmp .eq 7, .goto_w 6]), ([0, 1, 2], [.aload 0, .iload 2, .iconst 0, .invokevirtual 206, .aload 0, .iload 1, .iconst 0, .invokevirtual 206, .if_icmp .ge 8, .goto_w 7]), ([0, 2], [.iload 2, .istore 1, .goto_w 8]), ([0, 1, 2], [.iinc 2 1, .goto 3]), ([1], [.iload 1, .ireturn])])
/-- BannerParadeModel.lyingFrom(II)I -/
def xM271 : XT := (3, 5, 11, 1, [], [([0, 1, 2], [.aload 0, .invokevirtual 275, .ifCond .ne 2, .goto_w 1]), ([], [.iconst 0, .ireturn]), ([0, 1, 2], [.iconst 0, .istore 3, .iconst 0, .istore 4, .goto_w 3]), ([0, 1, 2, 3, 4], [.iload 4, .aload 0, .getfield 353, .iconst 10, .iaload, .if_icmp .ge 8, .goto_w 4]), ([0, 1, 2, 3, 4], [.iload 3, .aload 0, .iload 4, .iconst 1, .invokevirtual 207, .iload 1, .iload 2, .invokestatic 175, .ifCond .eq 6, .goto_w 5]), ([0, 1, 2, 4], [.iconst 1, .goto 7]), ([0, 1, 2, 4], [.iconst 0, .goto_w 7]), ([0, 1, 2, 4], [.iadd, .istore 3, .iinc 4 1, .goto 3]), ([3], [.iload 3, .ireturn])])
/-- BannerParadeModel.share(I)F -/
def xM272 : XT := (2, 2, 11, 6, [], [([0, 1], [.aload 0, .iload 1, .invokevirtual 242, .ifCond .eq 2, .goto_w 1]), ([0, 1], [.aload 0, .iload 1, .invokevirtual 224, .goto 3]), ([], [.fconst 0, .goto_w 3]), ([], [.freturn])])
/-- BannerParadeModel.shareBits(I)I -/
def xM273 : XT := (2, 2, 11, 1, [], [([0, 1], [.aload 0, .iload 1, .invokevirtual 242, .ifCond .eq 2, .goto_w 1]), ([0, 1], [.aload 0, .iload 1, .invokevirtual 224, .invokestatic 388, .goto 3]), ([], [.iconst 0, .goto_w 3]), ([], [.ireturn])])
/-- BannerParadeModel.missing(I)I -/
def xM274 : XT := (2, 6, 11, 1, [], [([0, 1], [.aload 0, .iload 1, .invokevirtual 242, .ifCond .ne 2, .goto_w 1]), ([], [.iconst 0, .ireturn]), ([0, 1], [.iconst 0, .istore 2, .iconst 1, .istore 3, .goto_w 3]), ([0, 1, 2, 3], [.iload 3, .iconst 26, .if_icmp .gt 17, .goto_w 4]), ([0, 1, 2, 3], [.iconst 0, .istore 4, .iconst 0, .istore 5, .goto_w 5]), ([0, 1, 2, 3, 4, 5], [.iload 5, .aload 0, .iload 1, .iconst 2, .invokevirtual 204, .if_icmp .ge 10, .goto_w 6]), ([0, 1, 2, 3, 4, 5], [.iload 4, .aload 0, .iload 1, .iconst 4, .iload 5, .iadd, .invokevirtual 204, .iconst 96, .iload 3, .iadd, .if_icmp .ne 8, .goto_w 7]), ([0, 1, 2, 3, 5], [.iconst 1, .goto 9]), ([0, 1, 2, 3, 5], [.iconst 0, .goto_w 9]), ([0, 1, 2, 3, 5], [.iadd, .istore 4, .iinc 5 1, .goto 5]), ([0, 1, 2, 3, 4], [.iconst 0, .istore 5, .goto_w 11]), ([0, 1, 2, 3, 4, 5], [.iload 5, .aload 0, .getfield 353, .iconst 6, .iaload, .if_icmp .ge 16, .goto_w 12]), ([0, 1, 2, 3, 4, 5], [.iload 4, .aload 0, .iload 5, .iconst 0, .invokevirtual 202, .iload 3, .if_icmp .ne 14, .goto_w 13]), ([0, 1, 2, 3, 5], [.iconst 1, .goto 15]), ([0, 1, 2, 3, 5], [.iconst 0, .goto_w 15]), ([0, 1, 2, 3, 5], [.isub, .istore 4, .iinc 5 1, .goto 11]), ([0, 1, 2, 3, 4], [.iload 2, .iconst 0, .iload 4, .invokestatic 385, .iadd, .istore 2, .iinc 3 1, .goto 3]), ([2], [.iload 2, .ireturn])])
/-- BannerParadeModel.mayAsk()Z -/
def xM275 : XT := (1, 1, 11, 2, [], [([0], [.aload 0, .aload 0, .getfield 358, .iconst 1, .iconst 1, .invokevirtual 176, .ireturn])])
/-- BannerParadeModel.bestStand()I -/
def xM276 : XT := (1, 3, 11, 1, [], [([0], [.aload 0, .invokevirtual 275, .ifCond .ne 2, .goto_w 1]), ([], [.iconst 0, .ireturn]), ([0], [.iconst (-1), .istore 1, .iconst 0, .istore 2, .goto_w 3]), ([0, 1, 2], [.iload 2, .aload 0, .getfield 353, .iconst 7, .iaload, .if_icmp .ge 8, .goto_w 4]), ([0, 1, 2], [.iload 1, .iconst (-1), .if_icmp .eq 6, .goto_w 5]), ([0, 1, 2], [.aload 0, .iload 2, .invokevirtual 224, .aload 0, .iload 1, .invokevirtual 224, .fcmp .l, .ifCond .le 7, .goto_w 6]), ([0, 2], [.iload 2, .istore 1, .goto_w 7]), ([0, 1, 2], [.iinc 2 1, .goto 3]), ([1], [.iload 1, .ireturn])])
/-- BannerParadeModel.readStands()I -/
def xM277 : XT := (1, 1, 11, 1, [], [([0], [.aload 0, .invokevirtual 275, .ifCond .eq 2, .goto_w 1]), ([0], [.aload 0, .invokevirtual 231, .goto 3]), ([], [.iconst 0, .goto_w 3]), ([], [.ireturn])])
/-- BannerParadeModel.weakest()I -/
def xM278 : XT := (1, 3, 11, 1, [], [([0], [.aload 0, .invokevirtual 275, .ifCond .ne 2, .goto_w 1]), ([], [.iconst 0, .ireturn]), ([0], [.iconst (-1), .istore 1, .iconst 0, .istore 2, .goto_w 3]), ([0, 1, 2], [.iload 2, .aload 0, .getfield 353, .iconst 6, .iaload, .if_icmp .ge 8, .goto_w 4]), ([0, 1, 2], [.iload 1, .iconst (-1), .if_icmp .eq 6, .goto_w 5]), ([0, 1, 2], [.aload 0, .iload 2, .iconst 4, .invokevirtual 202, .aload 0, .iload 1, .iconst 4, .invokevirtual 202, .if_icmp .ge 7, .goto_w 6]), ([0, 2], [.iload 2, .istore 1, .goto_w 7]), ([0, 1, 2], [.iinc 2 1, .goto 3]), ([1], [.iload 1, .ireturn])])
/-- BannerParadeModel.widest()I -/
def xM279 : XT := (1, 3, 11, 1, [], [([0], [.aload 0, .invokevirtual 275, .ifCond .ne 2, .goto_w 1]), ([], [.iconst 0, .ireturn]), ([0], [.iconst (-1), .istore 1, .iconst 1, .istore 2, .goto_w 3]), ([0, 1, 2], [.iload 2, .aload 0, .getfield 353, .iconst 6, .iaload, .if_icmp .ge 8, .goto_w 4]), ([0, 1, 2], [.iload 1, .iconst (-1), .if_icmp .eq 6, .goto_w 5]), ([0, 1, 2], [.aload 0, .iload 2, .invokevirtual 211, .aload 0, .iload 1, .invokevirtual 211, .if_icmp .le 7, .goto_w 6]), ([0, 2], [.iload 2, .istore 1, .goto_w 7]), ([0, 1, 2], [.iinc 2 1, .goto 3]), ([1], [.iload 1, .ireturn])])
/-- BannerParadeModel.stretch()I -/
def xM280 : XT := (1, 1, 11, 1, [], [([0], [.aload 0, .invokevirtual 275, .ifCond .eq 2, .goto_w 1]), ([0], [.aload 0, .getfield 353, .iconst 6, .iaload, .iconst 2, .if_icmp .ge 3, .goto_w 2]), ([], [.iconst 0, .ireturn]), ([0], [.aload 0, .iconst 0, .iconst 1, .invokevirtual 202, .aload 0, .aload 0, .getfield 353, .iconst 6, .iaload, .iconst 1, .isub, .iconst 1, .invokevirtual 202, .isub, .ireturn])])
/-- BannerParadeModel.meanNow()D -/
def xM281 : XT := (1, 3, 11, 7, [], [([0], [.iconst 0, .istore 1, .iconst 0, .istore 2, .goto_w 1]), ([0, 1, 2], [.iload 2, .aload 0, .getfield 353, .iconst 6, .iaload, .if_icmp .ge 3, .goto_w 2]), ([0, 1, 2], [.iload 1, .aload 0, .iload 2, .iconst 4, .invokevirtual 202, .iadd, .istore 1, .iinc 2 1, .goto 1]), ([0, 1], [.aload 0, .getfield 353, .iconst 6, .iaload, .ifCond .ne 5, .goto_w 4]), ([], [.dconst 0, .goto 6]), ([0, 1], [.iload 1, .i2d, .aload 0, .getfield 353, .iconst 6, .iaload, .i2d, .ddiv, .goto_w 6]), ([], [.dreturn])])
/-- BannerParadeModel.meanStrength()D -/
def xM282 : XT := (1, 1, 11, 7, [], [([0], [.aload 0, .invokevirtual 275, .ifCond .eq 2, .goto_w 1]), ([0], [.aload 0, .invokevirtual 281, .goto 3]), ([], [.dconst 0, .goto_w 3]), ([], [.dreturn])])
/-- BannerParadeModel.strengthBits()J -/
def xM283 : XT := (1, 1, 11, 5, [], [([0], [.aload 0, .invokevirtual 275, .ifCond .eq 2, .goto_w 1]), ([0], [.aload 0, .invokevirtual 281, .invokestatic 390, .goto 3]), ([], [.lconst 0, .goto_w 3]), ([], [.lreturn])])
/-- BannerParadeModel.thinks()V -/
def xM284 : XT := (1, 1, 11, 0, [], [([0], [.aload 0, .getfield 353, .iconst 0, .aload 0, .getfield 354, .iconst 0, .invokestatic 178, .return_])])
/-- BannerParadeModel.back(I)I -/
def xM285 : XT := (2, 2, 11, 1, [], [([0, 1], [.aload 0, .getfield 354, .iconst 0, .aload 0, .getfield 353, .iconst 0, .invokestatic 178, .iload 1, .ireturn])])
/-- BannerParadeModel.backFloat(F)F -/
def xM286 : XT := (2, 2, 11, 6, [], [([0, 1], [.aload 0, .getfield 354, .iconst 0, .aload 0, .getfield 353, .iconst 0, .invokestatic 178, .fload 1, .freturn])])
/-- BannerParadeModel.readsIn(I)I -/
def xM287 : XT := (2, 3, 11, 1, [], [([0, 1], [.aload 0, .iload 1, .invokevirtual 242, .ifCond .ne 2, .goto_w 1]), ([], [.iconst 0, .ireturn]), ([0, 1], [.aload 0, .invokevirtual 284, .iconst 0, .istore 2, .goto_w 3]), ([0, 1, 2], [.iload 2, .iconst 300, .if_icmp .gt 7, .goto_w 4]), ([0, 1, 2], [.aload 0, .iload 1, .invokevirtual 223, .ifCond .eq 6, .goto_w 5]), ([0, 2], [.aload 0, .iload 2, .invokevirtual 285, .ireturn]), ([0, 1, 2], [.aload 0, .invokevirtual 228, .iinc 2 1, .goto 3]), ([0], [.aload 0, .iconst (-1), .invokevirtual 285, .ireturn])])
/-- BannerParadeModel.havePassed(I)Z -/
def xM288 : XT := (2, 4, 11, 2, [], [([0, 1], [.iconst 1, .istore 2, .iconst 0, .istore 3, .goto_w 1]), ([0, 1, 2, 3], [.iload 3, .aload 0, .getfield 353, .iconst 6, .iaload, .if_icmp .ge 6, .goto_w 2]), ([0, 1, 2, 3], [.iload 2, .aload 0, .iload 3, .iconst 1, .invokevirtual 202, .aload 0, .iload 1, .iconst 1, .invokevirtual 204, .aload 0, .getfield 353, .iconst 1, .iaload, .iadd, .if_icmp .le 4, .goto_w 3]), ([0, 1, 3], [.iconst 1, .goto 5]), ([0, 1, 3], [.iconst 0, .goto_w 5]), ([0, 1, 3], [.iand, .istore 2, .iinc 3 1, .goto 1]), ([2], [.iload 2, .ireturn])])
/-- BannerParadeModel.passedIn(I)I -/
def xM289 : XT := (2, 3, 11, 1, [], [([0, 1], [.aload 0, .iload 1, .invokevirtual 242, .ifCond .ne 2, .goto_w 1]), ([], [.iconst 0, .ireturn]), ([0, 1], [.aload 0, .invokevirtual 284, .iconst 0, .istore 2, .goto_w 3]), ([0, 1, 2], [.iload 2, .iconst 300, .if_icmp .gt 7, .goto_w 4]), ([0, 1, 2], [.aload 0, .iload 1, .invokevirtual 288, .ifCond .eq 6, .goto_w 5]), ([0, 2], [.aload 0, .iload 2, .invokevirtual 285, .ireturn]), ([0, 1, 2], [.aload 0, .invokevirtual 228, .iinc 2 1, .goto 3]), ([0], [.aload 0, .iconst (-1), .invokevirtual 285, .ireturn])])
/-- BannerParadeModel.isFar(I)Z -/
def xM290 : XT := (1, 1, 99, 2, [], [([0], [.iload 0, .iconst 0, .iconst 300, .invokestatic 175, .ireturn])])
/-- BannerParadeModel.partIn(III)I -/
def xM291 : XT := (4, 4, 11, 1, [], [([0, 1, 2, 3], [.aload 0, .iload 1, .iload 2, .invokestatic 290, .invokevirtual 243, .ifCond .ne 2, .goto_w 1]), ([], [.iconst 0, .ireturn]), ([0, 1, 2, 3], [.aload 0, .invokevirtual 284, .aload 0, .iload 2, .invokevirtual 229, .aload 0, .aload 0, .iload 1, .iload 3, .invokevirtual 202, .invokevirtual 285, .ireturn])])
/-- BannerParadeModel.placeIn(II)I -/
def xM292 : XT := (3, 3, 11, 1, [], [([0, 1, 2], [.aload 0, .iload 1, .iload 2, .iconst 1, .invokevirtual 291, .ireturn])])
/-- BannerParadeModel.strengthIn(II)I -/
def xM293 : XT := (3, 3, 11, 1, [], [([0, 1, 2], [.aload 0, .iload 1, .iload 2, .iconst 4, .invokevirtual 291, .ireturn])])
/-- BannerParadeModel.bannerIn(II)I -/
def xM294 : XT := (3, 3, 11, 1, [], [([0, 1, 2], [.aload 0, .iload 1, .iload 2, .iconst 0, .invokevirtual 291, .ireturn])])
/-- BannerParadeModel.dropsIn(I)I -/
def xM295 : XT := (2, 2, 11, 1, [], [([0, 1], [.aload 0, .aload 0, .getfield 358, .iload 1, .invokestatic 290, .invokevirtual 177, .ifCond .ne 2, .goto_w 1]), ([], [.iconst 0, .ireturn]), ([0, 1], [.aload 0, .invokevirtual 284, .aload 0, .iload 1, .invokevirtual 229, .aload 0, .aload 0, .getfield 353, .iconst 13, .iaload, .aload 0, .getfield 354, .iconst 13, .iaload, .isub, .invokevirtual 285, .ireturn])])
/-- BannerParadeModel.firstDrop()I -/
def xM296 : XT := (1, 2, 11, 1, [], [([0], [.aload 0, .invokevirtual 275, .ifCond .ne 2, .goto_w 1]), ([], [.iconst 0, .ireturn]), ([0], [.aload 0, .invokevirtual 284, .iconst 1, .istore 1, .goto_w 3]), ([0, 1], [.iload 1, .iconst 300, .if_icmp .gt 7, .goto_w 4]), ([0, 1], [.aload 0, .invokevirtual 228, .aload 0, .getfield 353, .iconst 13, .iaload, .aload 0, .getfield 354, .iconst 13, .iaload, .if_icmp .le 6, .goto_w 5]), ([0, 1], [.aload 0, .iload 1, .invokevirtual 285, .ireturn]), ([0, 1], [.iinc 1 1, .goto 3]), ([0], [.aload 0, .iconst (-1), .invokevirtual 285, .ireturn])])
/-- BannerParadeModel.mayStandIn(II)Z -/
def xM297 : XT := (3, 3, 11, 2, [], [([0, 1, 2], [.aload 0, .aload 0, .getfield 358, .aload 0, .iload 1, .invokevirtual 209, .iload 2, .invokestatic 290, .invokevirtual 176, .ireturn])])
/-- BannerParadeModel.shareIn(II)F -/
def xM298 : XT := (3, 3, 11, 6, [], [([0, 1, 2], [.aload 0, .iload 1, .iload 2, .invokevirtual 297, .ifCond .ne 2, .goto_w 1]), ([], [.fconst 0, .freturn]), ([0, 1, 2], [.aload 0, .invokevirtual 284, .aload 0, .iload 2, .invokevirtual 229, .aload 0, .aload 0, .iload 1, .invokevirtual 224, .invokevirtual 286, .freturn])])
/-- BannerParadeModel.bestShare(II)F -/
def xM299 : XT := (3, 5, 11, 6, [], [([0, 1, 2], [.aload 0, .iload 1, .iload 2, .invokevirtual 297, .ifCond .ne 2, .goto_w 1]), ([], [.fconst 0, .freturn]), ([0, 1, 2], [.aload 0, .invokevirtual 284, .aload 0, .iload 1, .invokevirtual 224, .fstore 3, .iconst 0, .istore 4, .goto_w 3]), ([0, 1, 2, 3, 4], [.iload 4, .iload 2, .if_icmp .ge 5, .goto_w 4]), ([0, 1, 2, 3, 4], [.aload 0, .invokevirtual 228, .fload 3, .aload 0, .iload 1, .invokevirtual 224, .frem, .fstore 3, .iinc 4 1, .goto 3]), ([0, 3], [.aload 0, .fload 3, .invokevirtual 286, .freturn])])
/-- BannerParadeModel.bestSwap(I)I -/
def xM300 : XT := (2, 6, 11, 1, [], [([0, 1], [.aload 0, .iload 1, .invokevirtual 242, .ifCond .ne 2, .goto_w 1]), ([], [.iconst 0, .ireturn]), ([0, 1], [.aload 0, .iload 1, .invokevirtual 224, .fstore 2, .iconst (-1), .istore 3, .iconst 0, .istore 4, .goto_w 3]), ([0, 1, 2, 3, 4], [.iload 4, .iconst 1, .iadd, .aload 0, .getfield 353, .iconst 6, .iaload, .if_icmp .ge 8, .goto_w 4]), ([0, 1, 2, 3, 4], [.aload 0, .iload 4, .invokevirtual 217, .aload 0, .iload 1, .invokevirtual 224, .fstore 5, .aload 0, .iload 4, .invokevirtual 217, .fload 5, .fload 2, .fcmp .g, .ifCond .gt 6, .goto_w 5]), ([0, 1, 2, 3, 4], [.goto 7]), ([0, 1, 4, 5], [.iload 4, .istore 3, .fload 5, .fstore 2, .goto_w 7]), ([0, 1, 2, 3, 4], [.iinc 4 1, .goto 3]), ([3], [.iload 3, .ireturn])])
/-- BannerParadeModel.closedIn(I)I -/
def xM301 : XT := (2, 3, 11, 1, [], [([0, 1], [.aload 0, .iload 1, .invokevirtual 241, .ifCond .eq 2, .goto_w 1]), ([0, 1], [.iload 1, .ifCond .ne 6, .goto_w 2]), ([0], [.aload 0, .getfield 352, .ifCond .le 4, .goto_w 3]), ([], [.iconst 0, .goto 5]), ([], [.iconst (-1), .goto_w 5]), ([], [.ireturn]), ([0, 1], [.aload 0, .invokevirtual 284, .iconst 0, .istore 2, .goto_w 7]), ([0, 1, 2], [.iload 2, .iconst 300, .if_icmp .gt 11, .goto_w 8]), ([0, 1, 2], [.aload 0, .iload 1, .invokevirtual 211, .aload 0, .getfield 353, .iconst 0, .iaload, .if_icmp .ne 10, .goto_w 9]), ([0, 2], [.aload 0, .iload 2, .invokevirtual 285, .ireturn]), ([0, 1, 2], [.aload 0, .invokevirtual 228, .iinc 2 1, .goto 7]), ([0], [.aload 0, .iconst (-1), .invokevirtual 285, .ireturn])])
/-- BannerParadeModel.leastRest()I -/
def xM302 : XT := (1, 4, 11, 1, [], [([0], [.aload 0, .invokevirtual 275, .ifCond .ne 2, .goto_w 1]), ([], [.iconst 0, .ireturn]), ([0], [.aload 0, .invokevirtual 284, .iconst 0, .istore 1, .goto_w 3]), ([0, 1], [.iload 1, .iconst 50, .if_icmp .gt 10, .goto_w 4]), ([0, 1], [.aload 0, .getfield 353, .iconst 3, .iload 1, .iastore, .aload 0, .iconst 100, .invokevirtual 229, .aload 0, .getfield 353, .iconst 13, .iaload, .aload 0, .getfield 354, .iconst 13, .iaload, .if_icmp .ne 6, .goto_w 5]), ([0, 1], [.iconst 1, .goto 7]), ([0, 1], [.iconst 0, .goto_w 7]), ([0, 1], [.istore 2, .aload 0, .iconst 0, .invokevirtual 285, .istore 3, .iload 2, .ifCond .eq 9, .goto_w 8]), ([1], [.iload 1, .ireturn]), ([0, 1], [.iinc 1 1, .goto 3]), ([], [.iconst (-1), .ireturn])])
/-- BannerParadeModel.writesByte(I)V -/
def xM303 : XT := (2, 2, 11, 0, [], [([0, 1], [.aload 0, .getfield 372, .aload 0, .getfield 373, .iload 1, .i2b, .bastore, .aload 0, .dup, .getfield 373, .iconst 1, .iadd, .putfield 373, .return_])])
/-- BannerParadeModel.writesNumber(I)V -/
def xM304 : XT := (2, 2, 11, 0, [], [([0, 1], [.iload 1, .iconst 9, .if_icmp .le 2, .goto_w 1]), ([0, 1], [.aload 0, .iload 1, .iconst 10, .idiv, .invokevirtual 304, .goto_w 2]), ([0, 1], [.aload 0, .iconst 48, .iload 1, .iconst 10, .irem, .iadd, .invokevirtual 303, .return_])])
/-- BannerParadeModel.writeStand(I)I -/
def xM305 : XT := (2, 3, 11, 1, [], [([0, 1], [.aload 0, .iload 1, .invokevirtual 242, .ifCond .ne 2, .goto_w 1]), ([], [.iconst 0, .ireturn]), ([0, 1], [.aload 0, .iload 1, .invokevirtual 220, .aload 0, .iconst 0, .putfield 373, .iconst 0, .istore 2, .goto_w 3]), ([0, 2], [.iload 2, .aload 0, .getfield 370, .if_icmp .ge 5, .goto_w 4]), ([0, 2], [.aload 0, .aload 0, .getfield 369, .iload 2, .iaload, .invokevirtual 303, .iinc 2 1, .goto 3]), ([0], [.aload 0, .getfield 373, .ireturn])])
/-- BannerParadeModel.writeRow()I -/
def xM306 : XT := (1, 2, 11, 1, [], [([0], [.aload 0, .invokevirtual 275, .ifCond .ne 2, .goto_w 1]), ([], [.iconst 0, .ireturn]), ([0], [.aload 0, .iconst 0, .putfield 373, .iconst 0, .istore 1, .goto_w 3]), ([0, 1], [.iload 1, .aload 0, .getfield 353, .iconst 6, .iaload, .if_icmp .ge 8, .goto_w 4]), ([0, 1], [.aload 0, .aload 0, .iload 1, .iconst 0, .invokevirtual 202, .ifCond .le 6, .goto_w 5]), ([0, 1], [.iconst 96, .aload 0, .iload 1, .iconst 0, .invokevirtual 202, .iadd, .goto 7]), ([0, 1], [.iconst 45, .goto_w 7]), ([0, 1], [.invokevirtual 303, .iinc 1 1, .goto 3]), ([0], [.aload 0, .getfield 373, .ireturn])])
/-- BannerParadeModel.writePlaces()I -/
def xM307 : XT := (1, 2, 11, 1, [], [([0], [.aload 0, .invokevirtual 275, .ifCond .ne 2, .goto_w 1]), ([], [.iconst 0, .ireturn]), ([0], [.aload 0, .iconst 0, .putfield 373, .iconst 0, .istore 1, .goto_w 3]), ([0, 1], [.iload 1, .aload 0, .getfield 353, .iconst 6, .iaload, .if_icmp .ge 9, .goto_w 4]), ([0, 1], [.iload 1, .ifCond .le 6, .goto_w 5]), ([0, 1], [.aload 0, .iconst 44, .invokevirtual 303, .goto_w 6]), ([0, 1], [.aload 0, .iload 1, .iconst 1, .invokevirtual 202, .ifCond .ge 8, .goto_w 7]), ([0, 1], [.aload 0, .iconst 45, .invokevirtual 303, .goto_w 8]), ([0, 1], [.aload 0, .aload 0, .iload 1, .iconst 1, .invokevirtual 202, .invokestatic 384, .invokevirtual 304, .iinc 1 1, .goto 3]), ([0], [.aload 0, .getfield 373, .ireturn])])
/-- BannerParadeModel.textByte(I)I -/
def xM308 : XT := (2, 2, 11, 1, [], [([0, 1], [.aload 0, .iload 1, .iconst 0, .aload 0, .getfield 373, .iconst 1, .isub, .invokestatic 175, .iconst 1, .iconst 1, .invokevirtual 176, .ifCond .eq 2, .goto_w 1]), ([0, 1], [.aload 0, .getfield 372, .iload 1, .baload, .goto 3]), ([], [.iconst 0, .goto_w 3]), ([], [.ireturn])])
/-- BannerParadeModel.remembers()V -/
def xM309 : XT := (1, 2, 11, 0, [], [([0], [.aload 0, .getfield 359, .iconst 8, .if_icmp .ne 5, .goto_w 1]), ([0], [.iconst 0, .istore 1, .goto_w 2]), ([0, 1], [.iload 1, .iconst 1701, .if_icmp .ge 4, .goto_w 3]), ([0, 1], [.aload 0, .getfield 355, .iload 1, .aload 0, .getfield 355, .iload 1, .iconst 243, .iadd, .iaload, .iastore, .iinc 1 1, .goto 2]), ([0], [.aload 0, .dup, .getfield 359, .iconst 1, .isub, .putfield 359, .goto_w 5]), ([0], [.aload 0, .getfield 353, .iconst 0, .aload 0, .getfield 355, .aload 0, .getfield 359, .iconst 243, .imul, .invokestatic 178, .aload 0, .dup, .getfield 359, .iconst 1, .iadd, .putfield 359, .return_])])
/-- BannerParadeModel.tick(I)I -/
def xM310 : XT := (2, 3, 11, 1, [], [([0, 1], [.aload 0, .aload 0, .getfield 358, .iload 1, .iconst 1, .iconst 100, .invokestatic 175, .ifCond .eq 3, .goto_w 1]), ([0, 1], [.aload 0, .getfield 353, .iconst 9, .iaload, .iload 1, .iadd, .iconst 5000, .if_icmp .gt 3, .goto_w 2]), ([0, 1], [.iconst 1, .goto 4]), ([0, 1], [.iconst 0, .goto_w 4]), ([0, 1], [.invokevirtual 177, .ifCond .ne 6, .goto_w 5]), ([], [.iconst 0, .ireturn]), ([0, 1], [.aload 0, .invokevirtual 309, .aload 0, .invokevirtual 232, .istore 2, .aload 0, .iload 1, .invokevirtual 229, .aload 0, .invokevirtual 232, .iload 2, .isub, .ireturn])])
/-- BannerParadeModel.swap(I)I -/
def xM311 : XT := (2, 3, 11, 1, [], [([0, 1], [.aload 0, .getfield 358, .ifCond .eq 3, .goto_w 1]), ([0, 1], [.aload 0, .iload 1, .invokevirtual 208, .ifCond .eq 3, .goto_w 2]), ([0, 1], [.iconst 1, .goto 4]), ([0, 1], [.iconst 0, .goto_w 4]), ([0, 1], [.istore 2, .aload 0, .aload 0, .getfield 358, .iload 2, .iload 2, .ifCond .eq 7, .goto_w 5]), ([0, 1], [.aload 0, .iload 1, .invokevirtual 216, .ifCond .eq 7, .goto_w 6]), ([0, 1], [.iconst 1, .goto 8]), ([0, 1], [.iconst 0, .goto_w 8]), ([0, 1], [.invokevirtual 176, .ifCond .ne 10, .goto_w 9]), ([], [.iconst 0, .ireturn]), ([0, 1], [.aload 0, .invokevirtual 309, .aload 0, .iload 1, .invokevirtual 218, .aload 0, .iload 1, .iconst 0, .invokevirtual 202, .ireturn])])
/-- BannerParadeModel.drop(I)I -/
def xM312 : XT := (2, 3, 11, 1, [], [([0, 1], [.aload 0, .getfield 358, .ifCond .eq 3, .goto_w 1]), ([0, 1], [.aload 0, .iload 1, .invokevirtual 208, .ifCond .eq 3, .goto_w 2]), ([0, 1], [.iconst 1, .goto 4]), ([0, 1], [.iconst 0, .goto_w 4]), ([0, 1], [.istore 2, .aload 0, .aload 0, .getfield 358, .iload 2, .iload 2, .ifCond .eq 7, .goto_w 5]), ([0, 1], [.aload 0, .iload 1, .iconst 0, .invokevirtual 202, .ifCond .le 7, .goto_w 6]), ([0, 1], [.iconst 1, .goto 8]), ([0, 1], [.iconst 0, .goto_w 8]), ([0, 1], [.invokevirtual 176, .ifCond .ne 10, .goto_w 9]), ([], [.iconst 0, .ireturn]), ([0, 1], [.aload 0, .invokevirtual 309, .aload 0, .iload 1, .invokevirtual 213, .aload 0, .getfield 353, .iconst 10, .iaload, .ireturn])])
/-- BannerParadeModel.pick(I)I -/
def xM313 : XT := (2, 4, 11, 1, [], [([0, 1], [.aload 0, .getfield 358, .ifCond .eq 3, .goto_w 1]), ([0, 1], [.aload 0, .iload 1, .invokevirtual 208, .ifCond .eq 3, .goto_w 2]), ([0, 1], [.iconst 1, .goto 4]), ([0, 1], [.iconst 0, .goto_w 4]), ([0, 1], [.istore 2, .iload 2, .ifCond .eq 6, .goto_w 5]), ([0, 1, 2], [.aload 0, .aload 0, .iload 1, .iconst 1, .invokevirtual 202, .aload 0, .iload 1, .iconst 1, .invokevirtual 202, .invokevirtual 215, .goto 7]), ([0, 1, 2], [.iconst (-1), .goto_w 7]), ([0, 1, 2], [.istore 3, .aload 0, .aload 0, .getfield 358, .iload 2, .iload 2, .ifCond .eq 12, .goto_w 8]), ([0, 1, 3], [.aload 0, .iload 1, .iconst 0, .invokevirtual 202, .ifCond .ne 12, .goto_w 9]), ([0, 1, 3], [.aload 0, .iload 1, .iconst 4, .invokevirtual 202, .aload 0, .getfield 353, .iconst 4, .iaload, .if_icmp .lt 12, .goto_w 10]), ([0, 1, 3], [.iload 3, .iconst (-1), .if_icmp .eq 12, .goto_w 11]), ([0, 1, 3], [.iconst 1, .goto 13]), ([0, 1, 3], [.iconst 0, .goto_w 13]), ([0, 1, 3], [.invokevirtual 176, .ifCond .ne 15, .goto_w 14]), ([], [.iconst 0, .ireturn]), ([0, 1, 3], [.aload 0, .invokevirtual 309, .aload 0, .iload 1, .iload 3, .invokevirtual 214, .aload 0, .iload 1, .iconst 0, .invokevirtual 202, .ireturn])])
/-- BannerParadeModel.strengthen(II)I -/
def xM314 : XT := (3, 3, 11, 1, [], [([0, 1, 2], [.aload 0, .iload 1, .iload 2, .iconst (-100), .iconst 100, .invokestatic 175, .invokevirtual 243, .ifCond .ne 2, .goto_w 1]), ([], [.iconst 0, .ireturn]), ([0, 1, 2], [.aload 0, .invokevirtual 309, .aload 0, .iload 1, .iload 2, .invokevirtual 212, .aload 0, .iload 1, .iconst 4, .invokevirtual 202, .ireturn])])
/-- BannerParadeModel.rest(I)I -/
def xM315 : XT := (2, 4, 11, 1, [], [([0, 1], [.aload 0, .aload 0, .getfield 358, .iload 1, .iconst 1, .iconst 100, .invokestatic 175, .invokevirtual 177, .ifCond .ne 2, .goto_w 1]), ([], [.iconst 0, .ireturn]), ([0, 1], [.aload 0, .invokevirtual 309, .iconst 0, .istore 2, .iconst 0, .istore 3, .goto_w 3]), ([0, 1, 2, 3], [.iload 3, .aload 0, .getfield 353, .iconst 6, .iaload, .if_icmp .ge 5, .goto_w 4]), ([0, 1, 2, 3], [.aload 0, .iload 3, .iload 1, .invokevirtual 212, .iload 2, .aload 0, .iload 3, .iconst 4, .invokevirtual 202, .iadd, .istore 2, .iinc 3 1, .goto 3]), ([2], [.iload 2, .ireturn])])
/-- BannerParadeModel.setStep(II)I -/
def xM316 : XT := (3, 4, 11, 1, [], [([0, 1, 2], [.aload 0, .iload 1, .iload 2, .iconst 1, .iconst 200, .invokestatic 175, .invokevirtual 243, .ifCond .ne 2, .goto_w 1]), ([], [.iconst 0, .ireturn]), ([0, 1, 2], [.aload 0, .invokevirtual 309, .aload 0, .iload 1, .iconst 2, .invokevirtual 202, .istore 3, .aload 0, .iload 1, .iconst 2, .iload 2, .invokevirtual 203, .iload 3, .ireturn])])
/-- BannerParadeModel.addPlan(II)I -/
def xM317 : XT := (3, 3, 11, 1, [], [([0, 1, 2], [.aload 0, .iload 2, .iload 1, .aload 0, .getfield 353, .iconst 9, .iaload, .if_icmp .le 5, .goto_w 1]), ([0, 1, 2], [.iload 1, .iconst 5000, .if_icmp .gt 5, .goto_w 2]), ([0, 1, 2], [.iload 2, .aload 0, .getfield 353, .iconst 6, .iaload, .iconst 1, .isub, .if_icmp .ge 5, .goto_w 3]), ([0, 1, 2], [.aload 0, .getfield 353, .iconst 8, .iaload, .iconst 12, .if_icmp .ge 5, .goto_w 4]), ([0, 1, 2], [.iconst 1, .goto 6]), ([0, 1, 2], [.iconst 0, .goto_w 6]), ([0, 1, 2], [.invokevirtual 243, .ifCond .ne 8, .goto_w 7]), ([], [.iconst 0, .ireturn]), ([0, 1, 2], [.aload 0, .invokevirtual 309, .aload 0, .iload 1, .iload 2, .invokevirtual 199, .aload 0, .getfield 353, .iconst 8, .iaload, .iconst 1, .isub, .ireturn])])
/-- BannerParadeModel.set(II)I -/
def xM318 : XT := (3, 4, 11, 1, [], [([0, 1, 2], [.aload 0, .aload 0, .getfield 358, .iload 1, .iconst 0, .iconst 5, .invokestatic 175, .ifCond .eq 3, .goto_w 1]), ([0, 1, 2], [.iload 2, .iload 1, .invokestatic 192, .iload 1, .invokestatic 193, .invokestatic 175, .ifCond .eq 3, .goto_w 2]), ([0, 1, 2], [.iconst 1, .goto 4]), ([0, 1, 2], [.iconst 0, .goto_w 4]), ([0, 1, 2], [.invokevirtual 177, .ifCond .ne 6, .goto_w 5]), ([], [.iconst 0, .ireturn]), ([0, 1, 2], [.aload 0, .invokevirtual 309, .aload 0, .getfield 353, .iload 1, .iaload, .istore 3, .aload 0, .getfield 353, .iload 1, .iload 2, .iastore, .iload 3, .ireturn])])
/-- BannerParadeModel.undo()I -/
def xM319 : XT := (1, 1, 11, 1, [], [([0], [.aload 0, .aload 0, .getfield 359, .ifCond .le 2, .goto_w 1]), ([0], [.iconst 1, .goto 3]), ([0], [.iconst 0, .goto_w 3]), ([0], [.iconst 1, .iconst 1, .invokevirtual 176, .ifCond .ne 5, .goto_w 4]), ([], [.iconst 0, .ireturn]), ([0], [.aload 0, .dup, .getfield 359, .iconst 1, .isub, .putfield 359, .aload 0, .getfield 355, .aload 0, .getfield 359, .iconst 243, .imul, .aload 0, .getfield 353, .iconst 0, .invokestatic 178, .aload 0, .getfield 359, .ireturn])])
/-- BannerParadeModel.undoable()I -/
def xM320 : XT := (1, 1, 11, 1, [], [([0], [.aload 0, .iconst 0, .putfield 352, .aload 0, .getfield 359, .ireturn])])
/-- BannerParadeModel.save(I)I -/
def xM321 : XT := (2, 2, 11, 1, [], [([0, 1], [.aload 0, .aload 0, .getfield 358, .iload 1, .iconst 0, .iconst 1, .invokestatic 175, .invokevirtual 177, .ifCond .ne 2, .goto_w 1]), ([], [.iconst 0, .ireturn]), ([0, 1], [.aload 0, .getfield 353, .iconst 0, .aload 0, .getfield 356, .iload 1, .iconst 243, .imul, .invokestatic 178, .aload 0, .getfield 357, .iload 1, .iconst 1, .bastore, .aload 0, .getfield 353, .iconst 9, .iaload, .ireturn])])
/-- BannerParadeModel.restore(I)I -/
def xM322 : XT := (2, 3, 11, 1, [], [([0, 1], [.iload 1, .iconst 0, .iconst 1, .invokestatic 175, .istore 2, .aload 0, .iload 2, .iload 2, .ifCond .eq 3, .goto_w 1]), ([0, 1], [.aload 0, .getfield 357, .iload 1, .baload, .ifCond .eq 3, .goto_w 2]), ([0, 1], [.iconst 1, .goto 4]), ([0, 1], [.iconst 0, .goto_w 4]), ([0, 1], [.invokevirtual 177, .ifCond .ne 6, .goto_w 5]), ([], [.iconst 0, .ireturn]), ([0, 1], [.aload 0, .getfield 356, .iload 1, .iconst 243, .imul, .aload 0, .getfield 353, .iconst 0, .invokestatic 178, .aload 0, .iconst 0, .putfield 359, .aload 0, .getfield 353, .iconst 9, .iaload, .ireturn])])
/-- BannerParadeLaw.load(LBannerParade;I[J)I -/
def xM323 : XT := (3, 4, 99, 1, [(2, 1, 3), (1, 2, 3)], [([0, 1, 2], [.aload 2, .iconst 0, .aload 0, .iload 1, .invokevirtual 92, .i2l, .lastore, .goto 3]), ([], [.iconst 1, .ireturn]), ([], [.iconst 2, .ireturn]), ([], [.iconst 0, .ireturn])])
/-- BannerParadeLaw.count(LBannerParade;I[J)I -/
def xM324 : XT := (3, 4, 99, 1, [(0, 1, 3), (1, 2, 3)], [([0, 1, 2], [.aload 2, .iconst 0, .aload 0, .iload 1, .invokevirtual 96, .i2l, .lastore, .goto 3]), ([], [.iconst 1, .ireturn]), ([], [.iconst 2, .ireturn]), ([], [.iconst 0, .ireturn])])
/-- BannerParadeLaw.setting(LBannerParade;I[J)I -/
def xM325 : XT := (3, 4, 99, 1, [(0, 1, 3), (1, 2, 3)], [([0, 1, 2], [.aload 2, .iconst 0, .aload 0, .iload 1, .invokevirtual 97, .i2l, .lastore, .goto 3]), ([], [.iconst 1, .ireturn]), ([], [.iconst 2, .ireturn]), ([], [.iconst 0, .ireturn])])
/-- BannerParadeLaw.bearer(LBannerParade;II[J)I -/
def xM326 : XT := (4, 5, 99, 1, [(0, 1, 4), (2, 2, 4), (1, 3, 4)], [([0, 1, 2, 3], [.aload 3, .iconst 0, .aload 0, .iload 1, .iload 2, .invokevirtual 98, .i2l, .lastore, .goto 4]), ([], [.iconst 1, .ireturn]), ([], [.iconst 2, .ireturn]), ([], [.iconst 3, .ireturn]), ([], [.iconst 0, .ireturn])])
/-- BannerParadeLaw.stand(LBannerParade;II[J)I -/
def xM327 : XT := (4, 5, 99, 1, [(0, 1, 4), (2, 2, 4), (1, 3, 4)], [([0, 1, 2, 3], [.aload 3, .iconst 0, .aload 0, .iload 1, .iload 2, .invokevirtual 99, .i2l, .lastore, .goto 4]), ([], [.iconst 1, .ireturn]), ([], [.iconst 2, .ireturn]), ([], [.iconst 3, .ireturn]), ([], [.iconst 0, .ireturn])])
/-- BannerParadeLaw.plan(LBannerParade;II[J)I -/
def xM328 : XT := (4, 5, 99, 1, [(0, 1, 4), (2, 2, 4), (1, 3, 4)], [([0, 1, 2, 3], [.aload 3, .iconst 0, .aload 0, .iload 1, .iload 2, .invokevirtual 100, .i2l, .lastore, .goto 4]), ([], [.iconst 1, .ireturn]), ([], [.iconst 2, .ireturn]), ([], [.iconst 3, .ireturn]), ([], [.iconst 0, .ireturn])])
/-- BannerParadeLaw.lying(LBannerParade;II[J)I -/
def xM329 : XT := (4, 5, 99, 1, [(0, 1, 4), (2, 2, 4), (1, 3, 4)], [([0, 1, 2, 3], [.aload 3, .iconst 0, .aload 0, .iload 1, .iload 2, .invokevirtual 101, .i2l, .lastore, .goto 4]), ([], [.iconst 1, .ireturn]), ([], [.iconst 2, .ireturn]), ([], [.iconst 3, .ireturn]), ([], [.iconst 0, .ireturn])])
/-- BannerParadeLaw.wordByte(LBannerParade;II[J)I -/
def xM330 : XT := (4, 5, 99, 1, [(0, 1, 4), (2, 2, 4)], [([0, 1, 2, 3], [.aload 3, .iconst 0, .aload 0, .iload 1, .iload 2, .invokevirtual 102, .i2l, .lastore, .goto 3]), ([], [.iconst 1, .ireturn]), ([], [.iconst 2, .ireturn]), ([], [.iconst 0, .ireturn])])
/-- BannerParadeLaw.readByte(LBannerParade;II[J)I -/
def xM331 : XT := (4, 5, 99, 1, [(0, 1, 4), (2, 2, 4)], [([0, 1, 2, 3], [.aload 3, .iconst 0, .aload 0, .iload 1, .iload 2, .invokevirtual 103, .i2l, .lastore, .goto 3]), ([], [.iconst 1, .ireturn]), ([], [.iconst 2, .ireturn]), ([], [.iconst 0, .ireturn])])
/-- BannerParadeLaw.seen(LBannerParade;I[J)I -/
def xM332 : XT := (3, 4, 99, 1, [(0, 1, 3), (2, 2, 3)], [([0, 1, 2], [.aload 2, .iconst 0, .aload 0, .iload 1, .invokevirtual 104, .i2l, .lastore, .goto 3]), ([], [.iconst 1, .ireturn]), ([], [.iconst 2, .ireturn]), ([], [.iconst 0, .ireturn])])
/-- BannerParadeLaw.matches(LBannerParade;I[J)I -/
def xM333 : XT := (3, 4, 99, 1, [(0, 1, 3), (2, 2, 3)], [([0, 1, 2], [.aload 2, .iconst 0, .aload 0, .iload 1, .invokevirtual 105, .i2l, .lastore, .goto 3]), ([], [.iconst 1, .ireturn]), ([], [.iconst 2, .ireturn]), ([], [.iconst 0, .ireturn])])
/-- BannerParadeLaw.isRead(LBannerParade;I[J)I -/
def xM334 : XT := (3, 4, 99, 1, [(0, 4, 3), (2, 5, 3)], [([0, 1, 2], [.aload 2, .iconst 0, .aload 0, .iload 1, .invokevirtual 106, .ifCond .eq 2, .goto_w 1]), ([], [.lconst 1, .goto 3]), ([], [.lconst 0, .goto_w 3]), ([], [.lastore, .goto 6]), ([], [.iconst 1, .ireturn]), ([], [.iconst 2, .ireturn]), ([], [.iconst 0, .ireturn])])
/-- BannerParadeLaw.share(LBannerParade;I[D)I -/
def xM335 : XT := (3, 4, 99, 1, [(0, 1, 3), (2, 2, 3)], [([0, 1, 2], [.aload 2, .iconst 0, .aload 0, .iload 1, .invokevirtual 107, .f2d, .dastore, .goto 3]), ([], [.iconst 1, .ireturn]), ([], [.iconst 2, .ireturn]), ([], [.iconst 0, .ireturn])])
/-- BannerParadeLaw.shareBits(LBannerParade;I[J)I -/
def xM336 : XT := (3, 4, 99, 1, [(0, 1, 3), (2, 2, 3)], [([0, 1, 2], [.aload 2, .iconst 0, .aload 0, .iload 1, .invokevirtual 108, .i2l, .lastore, .goto 3]), ([], [.iconst 1, .ireturn]), ([], [.iconst 2, .ireturn]), ([], [.iconst 0, .ireturn])])
/-- BannerParadeLaw.missing(LBannerParade;I[J)I -/
def xM337 : XT := (3, 4, 99, 1, [(0, 1, 3), (2, 2, 3)], [([0, 1, 2], [.aload 2, .iconst 0, .aload 0, .iload 1, .invokevirtual 109, .i2l, .lastore, .goto 3]), ([], [.iconst 1, .ireturn]), ([], [.iconst 2, .ireturn]), ([], [.iconst 0, .ireturn])])
/-- BannerParadeLaw.seenAt(LBannerParade;II[J)I -/
def xM338 : XT := (4, 5, 99, 1, [(0, 1, 4), (2, 2, 4)], [([0, 1, 2, 3], [.aload 3, .iconst 0, .aload 0, .iload 1, .iload 2, .invokevirtual 110, .i2l, .lastore, .goto 3]), ([], [.iconst 1, .ireturn]), ([], [.iconst 2, .ireturn]), ([], [.iconst 0, .ireturn])])
/-- BannerParadeLaw.blanks(LBannerParade;I[J)I -/
def xM339 : XT := (3, 4, 99, 1, [(0, 1, 3), (2, 2, 3)], [([0, 1, 2], [.aload 2, .iconst 0, .aload 0, .iload 1, .invokevirtual 111, .i2l, .lastore, .goto 3]), ([], [.iconst 1, .ireturn]), ([], [.iconst 2, .ireturn]), ([], [.iconst 0, .ireturn])])
/-- BannerParadeLaw.prefix(LBannerParade;I[J)I -/
def xM340 : XT := (3, 4, 99, 1, [(0, 1, 3), (2, 2, 3)], [([0, 1, 2], [.aload 2, .iconst 0, .aload 0, .iload 1, .invokevirtual 112, .i2l, .lastore, .goto 3]), ([], [.iconst 1, .ireturn]), ([], [.iconst 2, .ireturn]), ([], [.iconst 0, .ireturn])])
/-- BannerParadeLaw.holder(LBannerParade;I[J)I -/
def xM341 : XT := (3, 4, 99, 1, [(0, 1, 3), (1, 2, 3)], [([0, 1, 2], [.aload 2, .iconst 0, .aload 0, .iload 1, .invokevirtual 113, .i2l, .lastore, .goto 3]), ([], [.iconst 1, .ireturn]), ([], [.iconst 2, .ireturn]), ([], [.iconst 0, .ireturn])])
/-- BannerParadeLaw.copies(LBannerParade;I[J)I -/
def xM342 : XT := (3, 4, 99, 1, [(0, 1, 3), (1, 2, 3)], [([0, 1, 2], [.aload 2, .iconst 0, .aload 0, .iload 1, .invokevirtual 114, .i2l, .lastore, .goto 3]), ([], [.iconst 1, .ireturn]), ([], [.iconst 2, .ireturn]), ([], [.iconst 0, .ireturn])])
/-- BannerParadeLaw.tired(LBannerParade;I[J)I -/
def xM343 : XT := (3, 4, 99, 1, [(0, 1, 3), (1, 2, 3)], [([0, 1, 2], [.aload 2, .iconst 0, .aload 0, .iload 1, .invokevirtual 115, .i2l, .lastore, .goto 3]), ([], [.iconst 1, .ireturn]), ([], [.iconst 2, .ireturn]), ([], [.iconst 0, .ireturn])])
/-- BannerParadeLaw.swappers(LBannerParade;[J)I -/
def xM344 : XT := (2, 3, 99, 1, [(0, 1, 2)], [([0, 1], [.aload 1, .iconst 0, .aload 0, .invokevirtual 116, .i2l, .lastore, .goto 2]), ([], [.iconst 1, .ireturn]), ([], [.iconst 0, .ireturn])])
/-- BannerParadeLaw.nextPlan(LBannerParade;[J)I -/
def xM345 : XT := (2, 3, 99, 1, [(0, 1, 2)], [([0, 1], [.aload 1, .iconst 0, .aload 0, .invokevirtual 117, .i2l, .lastore, .goto 2]), ([], [.iconst 1, .ireturn]), ([], [.iconst 0, .ireturn])])
/-- BannerParadeLaw.lyingFrom(LBannerParade;II[J)I -/
def xM346 : XT := (4, 5, 99, 1, [(0, 1, 4)], [([0, 1, 2, 3], [.aload 3, .iconst 0, .aload 0, .iload 1, .iload 2, .invokevirtual 118, .i2l, .lastore, .goto 2]), ([], [.iconst 1, .ireturn]), ([], [.iconst 0, .ireturn])])
/-- BannerParadeLaw.bestStand(LBannerParade;[J)I -/
def xM347 : XT := (2, 3, 99, 1, [(0, 1, 2)], [([0, 1], [.aload 1, .iconst 0, .aload 0, .invokevirtual 119, .i2l, .lastore, .goto 2]), ([], [.iconst 1, .ireturn]), ([], [.iconst 0, .ireturn])])
/-- BannerParadeLaw.readStands(LBannerParade;[J)I -/
def xM348 : XT := (2, 3, 99, 1, [(0, 1, 2)], [([0, 1], [.aload 1, .iconst 0, .aload 0, .invokevirtual 120, .i2l, .lastore, .goto 2]), ([], [.iconst 1, .ireturn]), ([], [.iconst 0, .ireturn])])
/-- BannerParadeLaw.weakest(LBannerParade;[J)I -/
def xM349 : XT := (2, 3, 99, 1, [(0, 1, 2)], [([0, 1], [.aload 1, .iconst 0, .aload 0, .invokevirtual 121, .i2l, .lastore, .goto 2]), ([], [.iconst 1, .ireturn]), ([], [.iconst 0, .ireturn])])
/-- BannerParadeLaw.widest(LBannerParade;[J)I -/
def xM350 : XT := (2, 3, 99, 1, [(0, 1, 2)], [([0, 1], [.aload 1, .iconst 0, .aload 0, .invokevirtual 122, .i2l, .lastore, .goto 2]), ([], [.iconst 1, .ireturn]), ([], [.iconst 0, .ireturn])])
/-- BannerParadeLaw.stretch(LBannerParade;[J)I -/
def xM351 : XT := (2, 3, 99, 1, [(0, 1, 2)], [([0, 1], [.aload 1, .iconst 0, .aload 0, .invokevirtual 123, .i2l, .lastore, .goto 2]), ([], [.iconst 1, .ireturn]), ([], [.iconst 0, .ireturn])])
/-- BannerParadeLaw.meanStrength(LBannerParade;[D)I -/
def xM352 : XT := (2, 3, 99, 1, [(0, 1, 2)], [([0, 1], [.aload 1, .iconst 0, .aload 0, .invokevirtual 124, .dastore, .goto 2]), ([], [.iconst 1, .ireturn]), ([], [.iconst 0, .ireturn])])
/-- BannerParadeLaw.strengthBits(LBannerParade;[J)I -/
def xM353 : XT := (2, 3, 99, 1, [(0, 1, 2)], [([0, 1], [.aload 1, .iconst 0, .aload 0, .invokevirtual 125, .lastore, .goto 2]), ([], [.iconst 1, .ireturn]), ([], [.iconst 0, .ireturn])])
/-- BannerParadeLaw.readsIn(LBannerParade;I[J)I -/
def xM354 : XT := (3, 4, 99, 1, [(0, 1, 3), (2, 2, 3)], [([0, 1, 2], [.aload 2, .iconst 0, .aload 0, .iload 1, .invokevirtual 126, .i2l, .lastore, .goto 3]), ([], [.iconst 1, .ireturn]), ([], [.iconst 2, .ireturn]), ([], [.iconst 0, .ireturn])])
/-- BannerParadeLaw.passedIn(LBannerParade;I[J)I -/
def xM355 : XT := (3, 4, 99, 1, [(0, 1, 3), (2, 2, 3)], [([0, 1, 2], [.aload 2, .iconst 0, .aload 0, .iload 1, .invokevirtual 127, .i2l, .lastore, .goto 3]), ([], [.iconst 1, .ireturn]), ([], [.iconst 2, .ireturn]), ([], [.iconst 0, .ireturn])])
/-- BannerParadeLaw.placeIn(LBannerParade;II[J)I -/
def xM356 : XT := (4, 5, 99, 1, [(0, 1, 4), (2, 2, 4), (1, 3, 4)], [([0, 1, 2, 3], [.aload 3, .iconst 0, .aload 0, .iload 1, .iload 2, .invokevirtual 128, .i2l, .lastore, .goto 4]), ([], [.iconst 1, .ireturn]), ([], [.iconst 2, .ireturn]), ([], [.iconst 3, .ireturn]), ([], [.iconst 0, .ireturn])])
/-- BannerParadeLaw.strengthIn(LBannerParade;II[J)I -/
def xM357 : XT := (4, 5, 99, 1, [(0, 1, 4), (2, 2, 4), (1, 3, 4)], [([0, 1, 2, 3], [.aload 3, .iconst 0, .aload 0, .iload 1, .iload 2, .invokevirtual 129, .i2l, .lastore, .goto 4]), ([], [.iconst 1, .ireturn]), ([], [.iconst 2, .ireturn]), ([], [.iconst 3, .ireturn]), ([], [.iconst 0, .ireturn])])
/-- BannerParadeLaw.bannerIn(LBannerParade;II[J)I -/
def xM358 : XT := (4, 5, 99, 1, [(0, 1, 4), (2, 2, 4), (1, 3, 4)], [([0, 1, 2, 3], [.aload 3, .iconst 0, .aload 0, .iload 1, .iload 2, .invokevirtual 130, .i2l, .lastore, .goto 4]), ([], [.iconst 1, .ireturn]), ([], [.iconst 2, .ireturn]), ([], [.iconst 3, .ireturn]), ([], [.iconst 0, .ireturn])])
/-- BannerParadeLaw.dropsIn(LBannerParade;I[J)I -/
def xM359 : XT := (3, 4, 99, 1, [(0, 1, 3), (1, 2, 3)], [([0, 1, 2], [.aload 2, .iconst 0, .aload 0, .iload 1, .invokevirtual 131, .i2l, .lastore, .goto 3]), ([], [.iconst 1, .ireturn]), ([], [.iconst 2, .ireturn]), ([], [.iconst 0, .ireturn])])
/-- BannerParadeLaw.firstDrop(LBannerParade;[J)I -/
def xM360 : XT := (2, 3, 99, 1, [(0, 1, 2)], [([0, 1], [.aload 1, .iconst 0, .aload 0, .invokevirtual 132, .i2l, .lastore, .goto 2]), ([], [.iconst 1, .ireturn]), ([], [.iconst 0, .ireturn])])
/-- BannerParadeLaw.shareIn(LBannerParade;II[D)I -/
def xM361 : XT := (4, 5, 99, 1, [(0, 1, 4), (2, 2, 4), (1, 3, 4)], [([0, 1, 2, 3], [.aload 3, .iconst 0, .aload 0, .iload 1, .iload 2, .invokevirtual 133, .f2d, .dastore, .goto 4]), ([], [.iconst 1, .ireturn]), ([], [.iconst 2, .ireturn]), ([], [.iconst 3, .ireturn]), ([], [.iconst 0, .ireturn])])
/-- BannerParadeLaw.bestShare(LBannerParade;II[D)I -/
def xM362 : XT := (4, 5, 99, 1, [(0, 1, 4), (2, 2, 4), (1, 3, 4)], [([0, 1, 2, 3], [.aload 3, .iconst 0, .aload 0, .iload 1, .iload 2, .invokevirtual 134, .f2d, .dastore, .goto 4]), ([], [.iconst 1, .ireturn]), ([], [.iconst 2, .ireturn]), ([], [.iconst 3, .ireturn]), ([], [.iconst 0, .ireturn])])
/-- BannerParadeLaw.bestSwap(LBannerParade;I[J)I -/
def xM363 : XT := (3, 4, 99, 1, [(0, 1, 3), (2, 2, 3)], [([0, 1, 2], [.aload 2, .iconst 0, .aload 0, .iload 1, .invokevirtual 135, .i2l, .lastore, .goto 3]), ([], [.iconst 1, .ireturn]), ([], [.iconst 2, .ireturn]), ([], [.iconst 0, .ireturn])])
/-- BannerParadeLaw.closedIn(LBannerParade;I[J)I -/
def xM364 : XT := (3, 4, 99, 1, [(0, 1, 3), (2, 2, 3)], [([0, 1, 2], [.aload 2, .iconst 0, .aload 0, .iload 1, .invokevirtual 136, .i2l, .lastore, .goto 3]), ([], [.iconst 1, .ireturn]), ([], [.iconst 2, .ireturn]), ([], [.iconst 0, .ireturn])])
/-- BannerParadeLaw.leastRest(LBannerParade;[J)I -/
def xM365 : XT := (2, 3, 99, 1, [(0, 1, 2)], [([0, 1], [.aload 1, .iconst 0, .aload 0, .invokevirtual 137, .i2l, .lastore, .goto 2]), ([], [.iconst 1, .ireturn]), ([], [.iconst 0, .ireturn])])
/-- BannerParadeLaw.writeStand(LBannerParade;I[J)I -/
def xM366 : XT := (3, 4, 99, 1, [(0, 1, 3), (2, 2, 3)], [([0, 1, 2], [.aload 2, .iconst 0, .aload 0, .iload 1, .invokevirtual 138, .i2l, .lastore, .goto 3]), ([], [.iconst 1, .ireturn]), ([], [.iconst 2, .ireturn]), ([], [.iconst 0, .ireturn])])
/-- BannerParadeLaw.writeRow(LBannerParade;[J)I -/
def xM367 : XT := (2, 3, 99, 1, [(0, 1, 2)], [([0, 1], [.aload 1, .iconst 0, .aload 0, .invokevirtual 139, .i2l, .lastore, .goto 2]), ([], [.iconst 1, .ireturn]), ([], [.iconst 0, .ireturn])])
/-- BannerParadeLaw.writePlaces(LBannerParade;[J)I -/
def xM368 : XT := (2, 3, 99, 1, [(0, 1, 2)], [([0, 1], [.aload 1, .iconst 0, .aload 0, .invokevirtual 140, .i2l, .lastore, .goto 2]), ([], [.iconst 1, .ireturn]), ([], [.iconst 0, .ireturn])])
/-- BannerParadeLaw.textByte(LBannerParade;I[J)I -/
def xM369 : XT := (3, 4, 99, 1, [(2, 1, 3)], [([0, 1, 2], [.aload 2, .iconst 0, .aload 0, .iload 1, .invokevirtual 141, .i2l, .lastore, .goto 2]), ([], [.iconst 1, .ireturn]), ([], [.iconst 0, .ireturn])])
/-- BannerParadeLaw.tick(LBannerParade;I[J)I -/
def xM370 : XT := (3, 4, 99, 1, [(0, 1, 3), (1, 2, 3)], [([0, 1, 2], [.aload 2, .iconst 0, .aload 0, .iload 1, .invokevirtual 142, .i2l, .lastore, .goto 3]), ([], [.iconst 1, .ireturn]), ([], [.iconst 2, .ireturn]), ([], [.iconst 0, .ireturn])])
/-- BannerParadeLaw.swap(LBannerParade;I[J)I -/
def xM371 : XT := (3, 4, 99, 1, [(0, 1, 3), (2, 2, 3), (1, 3, 3)], [([0, 1, 2], [.aload 2, .iconst 0, .aload 0, .iload 1, .invokevirtual 143, .i2l, .lastore, .goto 4]), ([], [.iconst 1, .ireturn]), ([], [.iconst 2, .ireturn]), ([], [.iconst 3, .ireturn]), ([], [.iconst 0, .ireturn])])
/-- BannerParadeLaw.drop(LBannerParade;I[J)I -/
def xM372 : XT := (3, 4, 99, 1, [(0, 1, 3), (2, 2, 3), (1, 3, 3)], [([0, 1, 2], [.aload 2, .iconst 0, .aload 0, .iload 1, .invokevirtual 144, .i2l, .lastore, .goto 4]), ([], [.iconst 1, .ireturn]), ([], [.iconst 2, .ireturn]), ([], [.iconst 3, .ireturn]), ([], [.iconst 0, .ireturn])])
/-- BannerParadeLaw.pick(LBannerParade;I[J)I -/
def xM373 : XT := (3, 4, 99, 1, [(0, 1, 3), (2, 2, 3), (1, 3, 3)], [([0, 1, 2], [.aload 2, .iconst 0, .aload 0, .iload 1, .invokevirtual 145, .i2l, .lastore, .goto 4]), ([], [.iconst 1, .ireturn]), ([], [.iconst 2, .ireturn]), ([], [.iconst 3, .ireturn]), ([], [.iconst 0, .ireturn])])
/-- BannerParadeLaw.strengthen(LBannerParade;II[J)I -/
def xM374 : XT := (4, 5, 99, 1, [(0, 1, 4), (2, 2, 4), (1, 3, 4)], [([0, 1, 2, 3], [.aload 3, .iconst 0, .aload 0, .iload 1, .iload 2, .invokevirtual 146, .i2l, .lastore, .goto 4]), ([], [.iconst 1, .ireturn]), ([], [.iconst 2, .ireturn]), ([], [.iconst 3, .ireturn]), ([], [.iconst 0, .ireturn])])
/-- BannerParadeLaw.rest(LBannerParade;I[J)I -/
def xM375 : XT := (3, 4, 99, 1, [(0, 1, 3), (1, 2, 3)], [([0, 1, 2], [.aload 2, .iconst 0, .aload 0, .iload 1, .invokevirtual 147, .i2l, .lastore, .goto 3]), ([], [.iconst 1, .ireturn]), ([], [.iconst 2, .ireturn]), ([], [.iconst 0, .ireturn])])
/-- BannerParadeLaw.setStep(LBannerParade;II[J)I -/
def xM376 : XT := (4, 5, 99, 1, [(0, 1, 4), (2, 2, 4), (1, 3, 4)], [([0, 1, 2, 3], [.aload 3, .iconst 0, .aload 0, .iload 1, .iload 2, .invokevirtual 148, .i2l, .lastore, .goto 4]), ([], [.iconst 1, .ireturn]), ([], [.iconst 2, .ireturn]), ([], [.iconst 3, .ireturn]), ([], [.iconst 0, .ireturn])])
/-- BannerParadeLaw.addPlan(LBannerParade;II[J)I -/
def xM377 : XT := (4, 5, 99, 1, [(0, 1, 4), (2, 2, 4), (1, 3, 4)], [([0, 1, 2, 3], [.aload 3, .iconst 0, .aload 0, .iload 1, .iload 2, .invokevirtual 149, .i2l, .lastore, .goto 4]), ([], [.iconst 1, .ireturn]), ([], [.iconst 2, .ireturn]), ([], [.iconst 3, .ireturn]), ([], [.iconst 0, .ireturn])])
/-- BannerParadeLaw.set(LBannerParade;II[J)I -/
def xM378 : XT := (4, 5, 99, 1, [(0, 1, 4), (1, 2, 4)], [([0, 1, 2, 3], [.aload 3, .iconst 0, .aload 0, .iload 1, .iload 2, .invokevirtual 150, .i2l, .lastore, .goto 3]), ([], [.iconst 1, .ireturn]), ([], [.iconst 2, .ireturn]), ([], [.iconst 0, .ireturn])])
/-- BannerParadeLaw.undo(LBannerParade;[J)I -/
def xM379 : XT := (2, 3, 99, 1, [(0, 1, 2)], [([0, 1], [.aload 1, .iconst 0, .aload 0, .invokevirtual 151, .i2l, .lastore, .goto 2]), ([], [.iconst 1, .ireturn]), ([], [.iconst 0, .ireturn])])
/-- BannerParadeLaw.save(LBannerParade;I[J)I -/
def xM380 : XT := (3, 4, 99, 1, [(0, 1, 3), (2, 2, 3)], [([0, 1, 2], [.aload 2, .iconst 0, .aload 0, .iload 1, .invokevirtual 153, .i2l, .lastore, .goto 3]), ([], [.iconst 1, .ireturn]), ([], [.iconst 2, .ireturn]), ([], [.iconst 0, .ireturn])])
/-- BannerParadeLaw.restore(LBannerParade;I[J)I -/
def xM381 : XT := (3, 4, 99, 1, [(2, 1, 3), (0, 2, 3)], [([0, 1, 2], [.aload 2, .iconst 0, .aload 0, .iload 1, .invokevirtual 154, .i2l, .lastore, .goto 3]), ([], [.iconst 1, .ireturn]), ([], [.iconst 2, .ireturn]), ([], [.iconst 0, .ireturn])])
/-- BannerParadeLaw.law([I)Z -/
def xM382 : XT := (1, 9, 99, 2, [], [([0], [.new 10, .dup, .invokespecial 90, .astore 1, .new 11, .dup, .invokespecial 173, .astore 2, .iconst 1, .newarray .long, .astore 3, .iconst 1, .newarray .double, .astore 4, .iconst 0, .istore 5, .goto_w 1]), ([0, 1, 2, 3, 4, 5], [.iload 5, .aload 0, .arraylength, .iconst 6, .isub, .if_icmp .gt 379, .goto_w 2]), ([0, 1, 2, 3, 4, 5], [.aload 0, .iload 5, .iaload, .iconst 63, .iand, .tableswitch 378 0 63 #[3, 5, 11, 13, 15, 17, 23, 29, 35, 41, 47, 53, 59, 65, 71, 77, 86, 94, 100, 106, 112, 118, 124, 130, 136, 142, 148, 154, 160, 166, 172, 178, 184, 190, 198, 204, 210, 216, 222, 228, 234, 240, 246, 254, 262, 268, 274, 280, 286, 292, 298, 304, 310, 316, 322, 328, 334, 340, 346, 352, 358, 364, 366, 372]]), ([0, 1, 2, 3, 4, 5], [.aload 1, .aload 0, .iload 5, .iconst 1, .iadd, .iaload, .aload 0, .iload 5, .iconst 2, .iadd, .iaload, .aload 0, .iload 5, .iconst 3, .iadd, .iaload, .aload 0, .iload 5, .iconst 4, .iadd, .iaload, .aload 0, .iload 5, .iconst 5, .iadd, .iaload, .invokevirtual 91, .aload 2, .aload 0, .iload 5, .iconst 1, .iadd, .iaload, .aload 0, .iload 5, .iconst 2, .iadd, .iaload, .aload 0, .iload 5, .iconst 3, .iadd, .iaload, .aload 0, .iload 5, .iconst 4, .iadd, .iaload, .aload 0, .iload 5, .iconst 5, .iadd, .iaload, .invokevirtual 179, .if_icmp .eq 378, .goto_w 4]), ([], [.iconst 0, .ireturn]), ([0, 1, 2, 3, 4, 5], [.aload 1, .aload 0, .iload 5, .iconst 1, .iadd, .iaload, .aload 3, .invokestatic 323, .istore 6, .aload 2, .aload 0, .iload 5, .iconst 1, .iadd, .iaload, .invokevirtual 201, .istore 7, .aload 2, .invokevirtual 174, .iload 6, .if_icmp .eq 7, .goto_w 6]), ([], [.iconst 0, .ireturn]), ([0, 1, 2, 3, 4, 5, 6, 7], [.iload 6, .ifCond .ne 10, .goto_w 8]), ([0, 1, 2, 3, 4, 5, 7], [.aload 3, .iconst 0, .laload, .iload 7, .i2l, .lcmp, .ifCond .eq 10, .goto_w 9]), ([], [.iconst 0, .ireturn]), ([0, 1, 2, 3, 4, 5], [.goto 378]), ([0, 1, 2, 3, 4, 5], [.aload 1, .invokevirtual 93, .aload 2, .invokevirtual 181, .if_icmp .eq 378, .goto_w 12]), ([], [.iconst 0, .ireturn]), ([0, 1, 2, 3, 4, 5], [.aload 1, .invokevirtual 94, .aload 2, .invokevirtual 182, .if_icmp .eq 378, .goto_w 14]), ([], [.iconst 0, .ireturn]), ([0, 1, 2, 3, 4, 5], [.aload 1, .invokevirtual 95, .aload 2, .invokevirtual 183, .if_icmp .eq 378, .goto_w 16]), ([], [.iconst 0, .ireturn]), ([0, 1, 2, 3, 4, 5], [.aload 1, .aload 0, .iload 5, .iconst 1, .iadd, .iaload, .aload 3, .invokestatic 324, .istore 6, .aload 2, .aload 0, .iload 5, .iconst 1, .iadd, .iaload, .invokevirtual 239, .istore 7, .aload 2, .invokevirtual 174, .iload 6, .if_icmp .eq 19, .goto_w 18]), ([], [.iconst 0, .ireturn]), ([0, 1, 2, 3, 4, 5, 6, 7], [.iload 6, .ifCond .ne 22, .goto_w 20]), ([0, 1, 2, 3, 4, 5, 7], [.aload 3, .iconst 0, .laload, .iload 7, .i2l, .lcmp, .ifCond .eq 22, .goto_w 21]), ([], [.iconst 0, .ireturn]), ([0, 1, 2, 3, 4, 5], [.goto 378]), ([0, 1, 2, 3, 4, 5], [.aload 1, .aload 0, .iload 5, .iconst 1, .iadd, .iaload, .aload 3, .invokestatic 325, .istore 6, .aload 2, .aload 0, .iload 5, .iconst 1, .iadd, .iaload, .invokevirtual 240, .istore 7, .aload 2, .invokevirtual 174, .iload 6, .if_icmp .eq 25, .goto_w 24]), ([], [.iconst 0, .ireturn]), ([0, 1, 2, 3, 4, 5, 6, 7], [.iload 6, .ifCond .ne 28, .goto_w 26]), ([0, 1, 2, 3, 4, 5, 7], [.aload 3, .iconst 0, .laload, .iload 7, .i2l, .lcmp, .ifCond .eq 28, .goto_w 27]), ([], [.iconst 0, .ireturn]), ([0, 1, 2, 3, 4, 5], [.goto 378]), ([0, 1, 2, 3, 4, 5], [.aload 1, .aload 0, .iload 5, .iconst 1, .iadd, .iaload, .aload 0, .iload 5, .iconst 2, .iadd, .iaload, .aload 3, .invokestatic 326, .istore 6, .aload 2, .aload 0, .iload 5, .iconst 1, .iadd, .iaload, .aload 0, .iload 5, .iconst 2, .iadd, .iaload, .invokevirtual 246, .istore 7, .aload 2, .invokevirtual 174, .iload 6, .if_icmp .eq 31, .goto_w 30]), ([], [.iconst 0, .ireturn]), ([0, 1, 2, 3, 4, 5, 6, 7], [.iload 6, .ifCond .ne 34, .goto_w 32]), ([0, 1, 2, 3, 4, 5, 7], [.aload 3, .iconst 0, .laload, .iload 7, .i2l, .lcmp, .ifCond .eq 34, .goto_w 33]), ([], [.iconst 0, .ireturn]), ([0, 1, 2, 3, 4, 5], [.goto 378]), ([0, 1, 2, 3, 4, 5], [.aload 1, .aload 0, .iload 5, .iconst 1, .iadd, .iaload, .aload 0, .iload 5, .iconst 2, .iadd, .iaload, .aload 3, .invokestatic 327, .istore 6, .aload 2, .aload 0, .iload 5, .iconst 1, .iadd, .iaload, .aload 0, .iload 5, .iconst 2, .iadd, .iaload, .invokevirtual 253, .istore 7, .aload 2, .invokevirtual 174, .iload 6, .if_icmp .eq 37, .goto_w 36]), ([], [.iconst 0, .ireturn]), ([0, 1, 2, 3, 4, 5, 6, 7], [.iload 6, .ifCond .ne 40, .goto_w 38]), ([0, 1, 2, 3, 4, 5, 7], [.aload 3, .iconst 0, .laload, .iload 7, .i2l, .lcmp, .ifCond .eq 40, .goto_w 39]), ([], [.iconst 0, .ireturn]), ([0, 1, 2, 3, 4, 5], [.goto 378]), ([0, 1, 2, 3, 4, 5], [.aload 1, .aload 0, .iload 5, .iconst 1, .iadd, .iaload, .aload 0, .iload 5, .iconst 2, .iadd, .iaload, .aload 3, .invokestatic 328, .istore 6, .aload 2, .aload 0, .iload 5, .iconst 1, .iadd, .iaload, .aload 0, .iload 5, .iconst 2, .iadd, .iaload, .invokevirtual 254, .istore 7, .aload 2, .invokevirtual 174, .iload 6, .if_icmp .eq 43, .goto_w 42]), ([], [.iconst 0, .ireturn]), ([0, 1, 2, 3, 4, 5, 6, 7], [.iload 6, .ifCond .ne 46, .goto_w 44]), ([0, 1, 2, 3, 4, 5, 7], [.aload 3, .iconst 0, .laload, .iload 7, .i2l, .lcmp, .ifCond .eq 46, .goto_w 45]), ([], [.iconst 0, .ireturn]), ([0, 1, 2, 3, 4, 5], [.goto 378]), ([0, 1, 2, 3, 4, 5], [.aload 1, .aload 0, .iload 5, .iconst 1, .iadd, .iaload, .aload 0, .iload 5, .iconst 2, .iadd, .iaload, .aload 3, .invokestatic 329, .istore 6, .aload 2, .aload 0, .iload 5, .iconst 1, .iadd, .iaload, .aload 0, .iload 5, .iconst 2, .iadd, .iaload, .invokevirtual 255, .istore 7, .aload 2, .invokevirtual 174, .iload 6, .if_icmp .eq 49, .goto_w 48]), ([], [.iconst 0, .ireturn]), ([0, 1, 2, 3, 4, 5, 6, 7], [.iload 6, .ifCond .ne 52, .goto_w 50]), ([0, 1, 2, 3, 4, 5, 7], [.aload 3, .iconst 0, .laload, .iload 7, .i2l, .lcmp, .ifCond .eq 52, .goto_w 51]), ([], [.iconst 0, .ireturn]), ([0, 1, 2, 3, 4, 5], [.goto 378]), ([0, 1, 2, 3, 4, 5], [.aload 1, .aload 0, .iload 5, .iconst 1, .iadd, .iaload, .aload 0, .iload 5, .iconst 2, .iadd, .iaload, .aload 3, .invokestatic 330, .istore 6, .aload 2, .aload 0, .iload 5, .iconst 1, .iadd, .iaload, .aload 0, .iload 5, .iconst 2, .iadd, .iaload, .invokevirtual 256, .istore 7, .aload 2, .invokevirtual 174, .iload 6, .if_icmp .eq 55, .goto_w 54]), ([], [.iconst 0, .ireturn]), ([0, 1, 2, 3, 4, 5, 6, 7], [.iload 6, .ifCond .ne 58, .goto_w 56]), ([0, 1, 2, 3, 4, 5, 7], [.aload 3, .iconst 0, .laload, .iload 7, .i2l, .lcmp, .ifCond .eq 58, .goto_w 57]), ([], [.iconst 0, .ireturn]), ([0, 1, 2, 3, 4, 5], [.goto 378]), ([0, 1, 2, 3, 4, 5], [.aload 1, .aload 0, .iload 5, .iconst 1, .iadd, .iaload, .aload 0, .iload 5, .iconst 2, .iadd, .iaload, .aload 3, .invokestatic 331, .istore 6, .aload 2, .aload 0, .iload 5, .iconst 1, .iadd, .iaload, .aload 0, .iload 5, .iconst 2, .iadd, .iaload, .invokevirtual 257, .istore 7, .aload 2, .invokevirtual 174, .iload 6, .if_icmp .eq 61, .goto_w 60]), ([], [.iconst 0, .ireturn]), ([0, 1, 2, 3, 4, 5, 6, 7], [.iload 6, .ifCond .ne 64, .goto_w 62]), ([0, 1, 2, 3, 4, 5, 7], [.aload 3, .iconst 0, .laload, .iload 7, .i2l, .lcmp, .ifCond .eq 64, .goto_w 63]), ([], [.iconst 0, .ireturn]), ([0, 1, 2, 3, 4, 5], [.goto 378]), ([0, 1, 2, 3, 4, 5], [.aload 1, .aload 0, .iload 5, .iconst 1, .iadd, .iaload, .aload 3, .invokestatic 332, .istore 6, .aload 2, .aload 0, .iload 5, .iconst 1, .iadd, .iaload, .invokevirtual 258, .istore 7, .aload 2, .invokevirtual 174, .iload 6, .if_icmp .eq 67, .goto_w 66]), ([], [.iconst 0, .ireturn]), ([0, 1, 2, 3, 4, 5, 6, 7], [.iload 6, .ifCond .ne 70, .goto_w 68]), ([0, 1, 2, 3, 4, 5, 7], [.aload 3, .iconst 0, .laload, .iload 7, .i2l, .lcmp, .ifCond .eq 70, .goto_w 69]), ([], [.iconst 0, .ireturn]), ([0, 1, 2, 3, 4, 5], [.goto 378]), ([0, 1, 2, 3, 4, 5], [.aload 1, .aload 0, .iload 5, .iconst 1, .iadd, .iaload, .aload 3, .invokestatic 333, .istore 6, .aload 2, .aload 0, .iload 5, .iconst 1, .iadd, .iaload, .invokevirtual 259, .istore 7, .aload 2, .invokevirtual 174, .iload 6, .if_icmp .eq 73, .goto_w 72]), ([], [.iconst 0, .ireturn]), ([0, 1, 2, 3, 4, 5, 6, 7], [.iload 6, .ifCond .ne 76, .goto_w 74]), ([0, 1, 2, 3, 4, 5, 7], [.aload 3, .iconst 0, .laload, .iload 7, .i2l, .lcmp, .ifCond .eq 76, .goto_w 75]), ([], [.iconst 0, .ireturn]), ([0, 1, 2, 3, 4, 5], [.goto 378]), ([0, 1, 2, 3, 4, 5], [.aload 1, .aload 0, .iload 5, .iconst 1, .iadd, .iaload, .aload 3, .invokestatic 334, .istore 6, .aload 2, .aload 0, .iload 5, .iconst 1, .iadd, .iaload, .invokevirtual 260, .istore 7, .aload 2, .invokevirtual 174, .iload 6, .if_icmp .eq 79, .goto_w 78]), ([], [.iconst 0, .ireturn]), ([0, 1, 2, 3, 4, 5, 6, 7], [.iload 6, .ifCond .ne 85, .goto_w 80]), ([0, 1, 2, 3, 4, 5, 7], [.aload 3, .iconst 0, .laload, .iload 7, .ifCond .eq 82, .goto_w 81]), ([0, 1, 2, 3, 4, 5], [.lconst 1, .goto 83]), ([0, 1, 2, 3, 4, 5], [.lconst 0, .goto_w 83]), ([0, 1, 2, 3, 4, 5], [.lcmp, .ifCond .eq 85, .goto_w 84]), ([], [.iconst 0, .ireturn]), ([0, 1, 2, 3, 4, 5], [.goto 378]), ([0, 1, 2, 3, 4, 5], [.aload 1, .aload 0, .iload 5, .iconst 1, .iadd, .iaload, .aload 4, .invokestatic 335, .istore 6, .aload 2, .aload 0, .iload 5, .iconst 1, .iadd, .iaload, .invokevirtual 272, .fstore 7, .aload 2, .invokevirtual 174, .iload 6, .if_icmp .eq 88, .goto_w 87]), ([], [.iconst 0, .ireturn]), ([0, 1, 2, 3, 4, 5, 6, 7], [.iload 6, .ifCond .ne 93, .goto_w 89]), ([0, 1, 2, 3, 4, 5, 7], [.aload 4, .iconst 0, .daload, .fload 7, .f2d, .dcmp .l, .ifCond .eq 93, .goto_w 90]), ([0, 1, 2, 3, 4, 5, 7], [.aload 4, .iconst 0, .daload, .aload 4, .iconst 0, .daload, .dcmp .l, .ifCond .eq 92, .goto_w 91]), ([0, 1, 2, 3, 4, 5, 7], [.fload 7, .fload 7, .fcmp .l, .ifCond .ne 93, .goto_w 92]), ([], [.iconst 0, .ireturn]), ([0, 1, 2, 3, 4, 5], [.goto 378]), ([0, 1, 2, 3, 4, 5], [.aload 1, .aload 0, .iload 5, .iconst 1, .iadd, .iaload, .aload 3, .invokestatic 336, .istore 6, .aload 2, .aload 0, .iload 5, .iconst 1, .iadd, .iaload, .invokevirtual 273, .istore 7, .aload 2, .invokevirtual 174, .iload 6, .if_icmp .eq 96, .goto_w 95]), ([], [.iconst 0, .ireturn]), ([0, 1, 2, 3, 4, 5, 6, 7], [.iload 6, .ifCond .ne 99, .goto_w 97]), ([0, 1, 2, 3, 4, 5, 7], [.aload 3, .iconst 0, .laload, .iload 7, .i2l, .lcmp, .ifCond .eq 99, .goto_w 98]), ([], [.iconst 0, .ireturn]), ([0, 1, 2, 3, 4, 5], [.goto 378]), ([0, 1, 2, 3, 4, 5], [.aload 1, .aload 0, .iload 5, .iconst 1, .iadd, .iaload, .aload 3, .invokestatic 337, .istore 6, .aload 2, .aload 0, .iload 5, .iconst 1, .iadd, .iaload, .invokevirtual 274, .istore 7, .aload 2, .invokevirtual 174, .iload 6, .if_icmp .eq 102, .goto_w 101]), ([], [.iconst 0, .ireturn]), ([0, 1, 2, 3, 4, 5, 6, 7], [.iload 6, .ifCond .ne 105, .goto_w 103]), ([0, 1, 2, 3, 4, 5, 7], [.aload 3, .iconst 0, .laload, .iload 7, .i2l, .lcmp, .ifCond .eq 105, .goto_w 104]), ([], [.iconst 0, .ireturn]), ([0, 1, 2, 3, 4, 5], [.goto 378]), ([0, 1, 2, 3, 4, 5], [.aload 1, .aload 0, .iload 5, .iconst 1, .iadd, .iaload, .aload 0, .iload 5, .iconst 2, .iadd, .iaload, .aload 3, .invokestatic 338, .istore 6, .aload 2, .aload 0, .iload 5, .iconst 1, .iadd, .iaload, .aload 0, .iload 5, .iconst 2, .iadd, .iaload, .invokevirtual 262, .istore 7, .aload 2, .invokevirtual 174, .iload 6, .if_icmp .eq 108, .goto_w 107]), ([], [.iconst 0, .ireturn]), ([0, 1, 2, 3, 4, 5, 6, 7], [.iload 6, .ifCond .ne 111, .goto_w 109]), ([0, 1, 2, 3, 4, 5, 7], [.aload 3, .iconst 0, .laload, .iload 7, .i2l, .lcmp, .ifCond .eq 111, .goto_w 110]), ([], [.iconst 0, .ireturn]), ([0, 1, 2, 3, 4, 5], [.goto 378]), ([0, 1, 2, 3, 4, 5], [.aload 1, .aload 0, .iload 5, .iconst 1, .iadd, .iaload, .aload 3, .invokestatic 339, .istore 6, .aload 2, .aload 0, .iload 5, .iconst 1, .iadd, .iaload, .invokevirtual 263, .istore 7, .aload 2, .invokevirtual 174, .iload 6, .if_icmp .eq 114, .goto_w 113]), ([], [.iconst 0, .ireturn]), ([0, 1, 2, 3, 4, 5, 6, 7], [.iload 6, .ifCond .ne 117, .goto_w 115]), ([0, 1, 2, 3, 4, 5, 7], [.aload 3, .iconst 0, .laload, .iload 7, .i2l, .lcmp, .ifCond .eq 117, .goto_w 116]), ([], [.iconst 0, .ireturn]), ([0, 1, 2, 3, 4, 5], [.goto 378]), ([0, 1, 2, 3, 4, 5], [.aload 1, .aload 0, .iload 5, .iconst 1, .iadd, .iaload, .aload 3, .invokestatic 340, .istore 6, .aload 2, .aload 0, .iload 5, .iconst 1, .iadd, .iaload, .invokevirtual 264, .istore 7, .aload 2, .invokevirtual 174, .iload 6, .if_icmp .eq 120, .goto_w 119]), ([], [.iconst 0, .ireturn]), ([0, 1, 2, 3, 4, 5, 6, 7], [.iload 6, .ifCond .ne 123, .goto_w 121]), ([0, 1, 2, 3, 4, 5, 7], [.aload 3, .iconst 0, .laload, .iload 7, .i2l, .lcmp, .ifCond .eq 123, .goto_w 122]), ([], [.iconst 0, .ireturn]), ([0, 1, 2, 3, 4, 5], [.goto 378]), ([0, 1, 2, 3, 4, 5], [.aload 1, .aload 0, .iload 5, .iconst 1, .iadd, .iaload, .aload 3, .invokestatic 341, .istore 6, .aload 2, .aload 0, .iload 5, .iconst 1, .iadd, .iaload, .invokevirtual 266, .istore 7, .aload 2, .invokevirtual 174, .iload 6, .if_icmp .eq 126, .goto_w 125]), ([], [.iconst 0, .ireturn]), ([0, 1, 2, 3, 4, 5, 6, 7], [.iload 6, .ifCond .ne 129, .goto_w 127]), ([0, 1, 2, 3, 4, 5, 7], [.aload 3, .iconst 0, .laload, .iload 7, .i2l, .lcmp, .ifCond .eq 129, .goto_w 128]), ([], [.iconst 0, .ireturn]), ([0, 1, 2, 3, 4, 5], [.goto 378]), ([0, 1, 2, 3, 4, 5], [.aload 1, .aload 0, .iload 5, .iconst 1, .iadd, .iaload, .aload 3, .invokestatic 342, .istore 6, .aload 2, .aload 0, .iload 5, .iconst 1, .iadd, .iaload, .invokevirtual 267, .istore 7, .aload 2, .invokevirtual 174, .iload 6, .if_icmp .eq 132, .goto_w 131]), ([], [.iconst 0, .ireturn]), ([0, 1, 2, 3, 4, 5, 6, 7], [.iload 6, .ifCond .ne 135, .goto_w 133]), ([0, 1, 2, 3, 4, 5, 7], [.aload 3, .iconst 0, .laload, .iload 7, .i2l, .lcmp, .ifCond .eq 135, .goto_w 134]), ([], [.iconst 0, .ireturn]), ([0, 1, 2, 3, 4, 5], [.goto 378]), ([0, 1, 2, 3, 4, 5], [.aload 1, .aload 0, .iload 5, .iconst 1, .iadd, .iaload, .aload 3, .invokestatic 343, .istore 6, .aload 2, .aload 0, .iload 5, .iconst 1, .iadd, .iaload, .invokevirtual 268, .istore 7, .aload 2, .invokevirtual 174, .iload 6, .if_icmp .eq 138, .goto_w 137]), ([], [.iconst 0, .ireturn]), ([0, 1, 2, 3, 4, 5, 6, 7], [.iload 6, .ifCond .ne 141, .goto_w 139]), ([0, 1, 2, 3, 4, 5, 7], [.aload 3, .iconst 0, .laload, .iload 7, .i2l, .lcmp, .ifCond .eq 141, .goto_w 140]), ([], [.iconst 0, .ireturn]), ([0, 1, 2, 3, 4, 5], [.goto 378]), ([0, 1, 2, 3, 4, 5], [.aload 1, .aload 3, .invokestatic 344, .istore 6, .aload 2, .invokevirtual 269, .istore 7, .aload 2, .invokevirtual 174, .iload 6, .if_icmp .eq 144, .goto_w 143]), ([], [.iconst 0, .ireturn]), ([0, 1, 2, 3, 4, 5, 6, 7], [.iload 6, .ifCond .ne 147, .goto_w 145]), ([0, 1, 2, 3, 4, 5, 7], [.aload 3, .iconst 0, .laload, .iload 7, .i2l, .lcmp, .ifCond .eq 147, .goto_w 146]), ([], [.iconst 0, .ireturn]), ([0, 1, 2, 3, 4, 5], [.goto 378]), ([0, 1, 2, 3, 4, 5], [.aload 1, .aload 3, .invokestatic 345, .istore 6, .aload 2, .invokevirtual 270, .istore 7, .aload 2, .invokevirtual 174, .iload 6, .if_icmp .eq 150, .goto_w 149]), ([], [.iconst 0, .ireturn]), ([0, 1, 2, 3, 4, 5, 6, 7], [.iload 6, .ifCond .ne 153, .goto_w 151]), ([0, 1, 2, 3, 4, 5, 7], [.aload 3, .iconst 0, .laload, .iload 7, .i2l, .lcmp, .ifCond .eq 153, .goto_w 152]), ([], [.iconst 0, .ireturn]), ([0, 1, 2, 3, 4, 5], [.goto 378]), ([0, 1, 2, 3, 4, 5], [.aload 1, .aload 0, .iload 5, .iconst 1, .iadd, .iaload, .aload 0, .iload 5, .iconst 2, .iadd, .iaload, .aload 3, .invokestatic 346, .istore 6, .aload 2, .aload 0, .iload 5, .iconst 1, .iadd, .iaload, .aload 0, .iload 5, .iconst 2, .iadd, .iaload, .invokevirtual 271, .istore 7, .aload 2, .invokevirtual 174, .iload 6, .if_icmp .eq 156, .goto_w 155]), ([], [.iconst 0, .ireturn]), ([0, 1, 2, 3, 4, 5, 6, 7], [.iload 6, .ifCond .ne 159, .goto_w 157]), ([0, 1, 2, 3, 4, 5, 7], [.aload 3, .iconst 0, .laload, .iload 7, .i2l, .lcmp, .ifCond .eq 159, .goto_w 158]), ([], [.iconst 0, .ireturn]), ([0, 1, 2, 3, 4, 5], [.goto 378]), ([0, 1, 2, 3, 4, 5], [.aload 1, .aload 3, .invokestatic 347, .istore 6, .aload 2, .invokevirtual 276, .istore 7, .aload 2, .invokevirtual 174, .iload 6, .if_icmp .eq 162, .goto_w 161]), ([], [.iconst 0, .ireturn]), ([0, 1, 2, 3, 4, 5, 6, 7], [.iload 6, .ifCond .ne 165, .goto_w 163]), ([0, 1, 2, 3, 4, 5, 7], [.aload 3, .iconst 0, .laload, .iload 7, .i2l, .lcmp, .ifCond .eq 165, .goto_w 164]), ([], [.iconst 0, .ireturn]), ([0, 1, 2, 3, 4, 5], [.goto 378]), ([0, 1, 2, 3, 4, 5], [.aload 1, .aload 3, .invokestatic 348, .istore 6, .aload 2, .invokevirtual 277, .istore 7, .aload 2, .invokevirtual 174, .iload 6, .if_icmp .eq 168, .goto_w 167]), ([], [.iconst 0, .ireturn]), ([0, 1, 2, 3, 4, 5, 6, 7], [.iload 6, .ifCond .ne 171, .goto_w 169]), ([0, 1, 2, 3, 4, 5, 7], [.aload 3, .iconst 0, .laload, .iload 7, .i2l, .lcmp, .ifCond .eq 171, .goto_w 170]), ([], [.iconst 0, .ireturn]), ([0, 1, 2, 3, 4, 5], [.goto 378]), ([0, 1, 2, 3, 4, 5], [.aload 1, .aload 3, .invokestatic 349, .istore 6, .aload 2, .invokevirtual 278, .istore 7, .aload 2, .invokevirtual 174, .iload 6, .if_icmp .eq 174, .goto_w 173]), ([], [.iconst 0, .ireturn]), ([0, 1, 2, 3, 4, 5, 6, 7], [.iload 6, .ifCond .ne 177, .goto_w 175]), ([0, 1, 2, 3, 4, 5, 7], [.aload 3, .iconst 0, .laload, .iload 7, .i2l, .lcmp, .ifCond .eq 177, .goto_w 176]), ([], [.iconst 0, .ireturn]), ([0, 1, 2, 3, 4, 5], [.goto 378]), ([0, 1, 2, 3, 4, 5], [.aload 1, .aload 3, .invokestatic 350, .istore 6, .aload 2, .invokevirtual 279, .istore 7, .aload 2, .invokevirtual 174, .iload 6, .if_icmp .eq 180, .goto_w 179]), ([], [.iconst 0, .ireturn]), ([0, 1, 2, 3, 4, 5, 6, 7], [.iload 6, .ifCond .ne 183, .goto_w 181]), ([0, 1, 2, 3, 4, 5, 7], [.aload 3, .iconst 0, .laload, .iload 7, .i2l, .lcmp, .ifCond .eq 183, .goto_w 182]), ([], [.iconst 0, .ireturn]), ([0, 1, 2, 3, 4, 5], [.goto 378]), ([0, 1, 2, 3, 4, 5], [.aload 1, .aload 3, .invokestatic 351, .istore 6, .aload 2, .invokevirtual 280, .istore 7, .aload 2, .invokevirtual 174, .iload 6, .if_icmp .eq 186, .goto_w 185]), ([], [.iconst 0, .ireturn]), ([0, 1, 2, 3, 4, 5, 6, 7], [.iload 6, .ifCond .ne 189, .goto_w 187]), ([0, 1, 2, 3, 4, 5, 7], [.aload 3, .iconst 0, .laload, .iload 7, .i2l, .lcmp, .ifCond .eq 189, .goto_w 188]), ([], [.iconst 0, .ireturn]), ([0, 1, 2, 3, 4, 5], [.goto 378]), ([0, 1, 2, 3, 4, 5], [.aload 1, .aload 4, .invokestatic 352, .istore 6, .aload 2, .invokevirtual 282, .dstore 7, .aload 2, .invokevirtual 174, .iload 6, .if_icmp .eq 192, .goto_w 191]), ([], [.iconst 0, .ireturn]), ([0, 1, 2, 3, 4, 5, 6, 7], [.iload 6, .ifCond .ne 197, .goto_w 193]), ([0, 1, 2, 3, 4, 5, 7], [.aload 4, .iconst 0, .daload, .dload 7, .dcmp .l, .ifCond .eq 197, .goto_w 194]), ([0, 1, 2, 3, 4, 5, 7], [.aload 4, .iconst 0, .daload, .aload 4, .iconst 0, .daload, .dcmp .l, .ifCond .eq 196, .goto_w 195]), ([0, 1, 2, 3, 4, 5, 7], [.dload 7, .dload 7, .dcmp .l, .ifCond .ne 197, .goto_w 196]), ([], [.iconst 0, .ireturn]), ([0, 1, 2, 3, 4, 5], [.goto 378]), ([0, 1, 2, 3, 4, 5], [.aload 1, .aload 3, .invokestatic 353, .istore 6, .aload 2, .invokevirtual 283, .lstore 7, .aload 2, .invokevirtual 174, .iload 6, .if_icmp .eq 200, .goto_w 199]), ([], [.iconst 0, .ireturn]), ([0, 1, 2, 3, 4, 5, 6, 7], [.iload 6, .ifCond .ne 203, .goto_w 201]), ([0, 1, 2, 3, 4, 5, 7], [.aload 3, .iconst 0, .laload, .lload 7, .lcmp, .ifCond .eq 203, .goto_w 202]), ([], [.iconst 0, .ireturn]), ([0, 1, 2, 3, 4, 5], [.goto 378]), ([0, 1, 2, 3, 4, 5], [.aload 1, .aload 0, .iload 5, .iconst 1, .iadd, .iaload, .aload 3, .invokestatic 354, .istore 6, .aload 2, .aload 0, .iload 5, .iconst 1, .iadd, .iaload, .invokevirtual 287, .istore 7, .aload 2, .invokevirtual 174, .iload 6, .if_icmp .eq 206, .goto_w 205]), ([], [.iconst 0, .ireturn]), ([0, 1, 2, 3, 4, 5, 6, 7], [.iload 6, .ifCond .ne 209, .goto_w 207]), ([0, 1, 2, 3, 4, 5, 7], [.aload 3, .iconst 0, .laload, .iload 7, .i2l, .lcmp, .ifCond .eq 209, .goto_w 208]), ([], [.iconst 0, .ireturn]), ([0, 1, 2, 3, 4, 5], [.goto 378]), ([0, 1, 2, 3, 4, 5], [.aload 1, .aload 0, .iload 5, .iconst 1, .iadd, .iaload, .aload 3, .invokestatic 355, .istore 6, .aload 2, .aload 0, .iload 5, .iconst 1, .iadd, .iaload, .invokevirtual 289, .istore 7, .aload 2, .invokevirtual 174, .iload 6, .if_icmp .eq 212, .goto_w 211]), ([], [.iconst 0, .ireturn]), ([0, 1, 2, 3, 4, 5, 6, 7], [.iload 6, .ifCond .ne 215, .goto_w 213]), ([0, 1, 2, 3, 4, 5, 7], [.aload 3, .iconst 0, .laload, .iload 7, .i2l, .lcmp, .ifCond .eq 215, .goto_w 214]), ([], [.iconst 0, .ireturn]), ([0, 1, 2, 3, 4, 5], [.goto 378]), ([0, 1, 2, 3, 4, 5], [.aload 1, .aload 0, .iload 5, .iconst 1, .iadd, .iaload, .aload 0, .iload 5, .iconst 2, .iadd, .iaload, .aload 3, .invokestatic 356, .istore 6, .aload 2, .aload 0, .iload 5, .iconst 1, .iadd, .iaload, .aload 0, .iload 5, .iconst 2, .iadd, .iaload, .invokevirtual 292, .istore 7, .aload 2, .invokevirtual 174, .iload 6, .if_icmp .eq 218, .goto_w 217]), ([], [.iconst 0, .ireturn]), ([0, 1, 2, 3, 4, 5, 6, 7], [.iload 6, .ifCond .ne 221, .goto_w 219]), ([0, 1, 2, 3, 4, 5, 7], [.aload 3, .iconst 0, .laload, .iload 7, .i2l, .lcmp, .ifCond .eq 221, .goto_w 220]), ([], [.iconst 0, .ireturn]), ([0, 1, 2, 3, 4, 5], [.goto 378]), ([0, 1, 2, 3, 4, 5], [.aload 1, .aload 0, .iload 5, .iconst 1, .iadd, .iaload, .aload 0, .iload 5, .iconst 2, .iadd, .iaload, .aload 3, .invokestatic 357, .istore 6, .aload 2, .aload 0, .iload 5, .iconst 1, .iadd, .iaload, .aload 0, .iload 5, .iconst 2, .iadd, .iaload, .invokevirtual 293, .istore 7, .aload 2, .invokevirtual 174, .iload 6, .if_icmp .eq 224, .goto_w 223]), ([], [.iconst 0, .ireturn]), ([0, 1, 2, 3, 4, 5, 6, 7], [.iload 6, .ifCond .ne 227, .goto_w 225]), ([0, 1, 2, 3, 4, 5, 7], [.aload 3, .iconst 0, .laload, .iload 7, .i2l, .lcmp, .ifCond .eq 227, .goto_w 226]), ([], [.iconst 0, .ireturn]), ([0, 1, 2, 3, 4, 5], [.goto 378]), ([0, 1, 2, 3, 4, 5], [.aload 1, .aload 0, .iload 5, .iconst 1, .iadd, .iaload, .aload 0, .iload 5, .iconst 2, .iadd, .iaload, .aload 3, .invokestatic 358, .istore 6, .aload 2, .aload 0, .iload 5, .iconst 1, .iadd, .iaload, .aload 0, .iload 5, .iconst 2, .iadd, .iaload, .invokevirtual 294, .istore 7, .aload 2, .invokevirtual 174, .iload 6, .if_icmp .eq 230, .goto_w 229]), ([], [.iconst 0, .ireturn]), ([0, 1, 2, 3, 4, 5, 6, 7], [.iload 6, .ifCond .ne 233, .goto_w 231]), ([0, 1, 2, 3, 4, 5, 7], [.aload 3, .iconst 0, .laload, .iload 7, .i2l, .lcmp, .ifCond .eq 233, .goto_w 232]), ([], [.iconst 0, .ireturn]), ([0, 1, 2, 3, 4, 5], [.goto 378]), ([0, 1, 2, 3, 4, 5], [.aload 1, .aload 0, .iload 5, .iconst 1, .iadd, .iaload, .aload 3, .invokestatic 359, .istore 6, .aload 2, .aload 0, .iload 5, .iconst 1, .iadd, .iaload, .invokevirtual 295, .istore 7, .aload 2, .invokevirtual 174, .iload 6, .if_icmp .eq 236, .goto_w 235]), ([], [.iconst 0, .ireturn]), ([0, 1, 2, 3, 4, 5, 6, 7], [.iload 6, .ifCond .ne 239, .goto_w 237]), ([0, 1, 2, 3, 4, 5, 7], [.aload 3, .iconst 0, .laload, .iload 7, .i2l, .lcmp, .ifCond .eq 239, .goto_w 238]), ([], [.iconst 0, .ireturn]), ([0, 1, 2, 3, 4, 5], [.goto 378]), ([0, 1, 2, 3, 4, 5], [.aload 1, .aload 3, .invokestatic 360, .istore 6, .aload 2, .invokevirtual 296, .istore 7, .aload 2, .invokevirtual 174, .iload 6, .if_icmp .eq 242, .goto_w 241]), ([], [.iconst 0, .ireturn]), ([0, 1, 2, 3, 4, 5, 6, 7], [.iload 6, .ifCond .ne 245, .goto_w 243]), ([0, 1, 2, 3, 4, 5, 7], [.aload 3, .iconst 0, .laload, .iload 7, .i2l, .lcmp, .ifCond .eq 245, .goto_w 244]), ([], [.iconst 0, .ireturn]), ([0, 1, 2, 3, 4, 5], [.goto 378]), ([0, 1, 2, 3, 4, 5], [.aload 1, .aload 0, .iload 5, .iconst 1, .iadd, .iaload, .aload 0, .iload 5, .iconst 2, .iadd, .iaload, .aload 4, .invokestatic 361, .istore 6, .aload 2, .aload 0, .iload 5, .iconst 1, .iadd, .iaload, .aload 0, .iload 5, .iconst 2, .iadd, .iaload, .invokevirtual 298, .fstore 7, .aload 2, .invokevirtual 174, .iload 6, .if_icmp .eq 248, .goto_w 247]), ([], [.iconst 0, .ireturn]), ([0, 1, 2, 3, 4, 5, 6, 7], [.iload 6, .ifCond .ne 253, .goto_w 249]), ([0, 1, 2, 3, 4, 5, 7], [.aload 4, .iconst 0, .daload, .fload 7, .f2d, .dcmp .l, .ifCond .eq 253, .goto_w 250]), ([0, 1, 2, 3, 4, 5, 7], [.aload 4, .iconst 0, .daload, .aload 4, .iconst 0, .daload, .dcmp .l, .ifCond .eq 252, .goto_w 251]), ([0, 1, 2, 3, 4, 5, 7], [.fload 7, .fload 7, .fcmp .l, .ifCond .ne 253, .goto_w 252]), ([], [.iconst 0, .ireturn]), ([0, 1, 2, 3, 4, 5], [.goto 378]), ([0, 1, 2, 3, 4, 5], [.aload 1, .aload 0, .iload 5, .iconst 1, .iadd, .iaload, .aload 0, .iload 5, .iconst 2, .iadd, .iaload, .aload 4, .invokestatic 362, .istore 6, .aload 2, .aload 0, .iload 5, .iconst 1, .iadd, .iaload, .aload 0, .iload 5, .iconst 2, .iadd, .iaload, .invokevirtual 299, .fstore 7, .aload 2, .invokevirtual 174, .iload 6, .if_icmp .eq 256, .goto_w 255]), ([], [.iconst 0, .ireturn]), ([0, 1, 2, 3, 4, 5, 6, 7], [.iload 6, .ifCond .ne 261, .goto_w 257]), ([0, 1, 2, 3, 4, 5, 7], [.aload 4, .iconst 0, .daload, .fload 7, .f2d, .dcmp .l, .ifCond .eq 261, .goto_w 258]), ([0, 1, 2, 3, 4, 5, 7], [.aload 4, .iconst 0, .daload, .aload 4, .iconst 0, .daload, .dcmp .l, .ifCond .eq 260, .goto_w 259]), ([0, 1, 2, 3, 4, 5, 7], [.fload 7, .fload 7, .fcmp .l, .ifCond .ne 261, .goto_w 260]), ([], [.iconst 0, .ireturn]), ([0, 1, 2, 3, 4, 5], [.goto 378]), ([0, 1, 2, 3, 4, 5], [.aload 1, .aload 0, .iload 5, .iconst 1, .iadd, .iaload, .aload 3, .invokestatic 363, .istore 6, .aload 2, .aload 0, .iload 5, .iconst 1, .iadd, .iaload, .invokevirtual 300, .istore 7, .aload 2, .invokevirtual 174, .iload 6, .if_icmp .eq 264, .goto_w 263]), ([], [.iconst 0, .ireturn]), ([0, 1, 2, 3, 4, 5, 6, 7], [.iload 6, .ifCond .ne 267, .goto_w 265]), ([0, 1, 2, 3, 4, 5, 7], [.aload 3, .iconst 0, .laload, .iload 7, .i2l, .lcmp, .ifCond .eq 267, .goto_w 266]), ([], [.iconst 0, .ireturn]), ([0, 1, 2, 3, 4, 5], [.goto 378]), ([0, 1, 2, 3, 4, 5], [.aload 1, .aload 0, .iload 5, .iconst 1, .iadd, .iaload, .aload 3, .invokestatic 364, .istore 6, .aload 2, .aload 0, .iload 5, .iconst 1, .iadd, .iaload, .invokevirtual 301, .istore 7, .aload 2, .invokevirtual 174, .iload 6, .if_icmp .eq 270, .goto_w 269]), ([], [.iconst 0, .ireturn]), ([0, 1, 2, 3, 4, 5, 6, 7], [.iload 6, .ifCond .ne 273, .goto_w 271]), ([0, 1, 2, 3, 4, 5, 7], [.aload 3, .iconst 0, .laload, .iload 7, .i2l, .lcmp, .ifCond .eq 273, .goto_w 272]), ([], [.iconst 0, .ireturn]), ([0, 1, 2, 3, 4, 5], [.goto 378]), ([0, 1, 2, 3, 4, 5], [.aload 1, .aload 3, .invokestatic 365, .istore 6, .aload 2, .invokevirtual 302, .istore 7, .aload 2, .invokevirtual 174, .iload 6, .if_icmp .eq 276, .goto_w 275]), ([], [.iconst 0, .ireturn]), ([0, 1, 2, 3, 4, 5, 6, 7], [.iload 6, .ifCond .ne 279, .goto_w 277]), ([0, 1, 2, 3, 4, 5, 7], [.aload 3, .iconst 0, .laload, .iload 7, .i2l, .lcmp, .ifCond .eq 279, .goto_w 278]), ([], [.iconst 0, .ireturn]), ([0, 1, 2, 3, 4, 5], [.goto 378]), ([0, 1, 2, 3, 4, 5], [.aload 1, .aload 0, .iload 5, .iconst 1, .iadd, .iaload, .aload 3, .invokestatic 366, .istore 6, .aload 2, .aload 0, .iload 5, .iconst 1, .iadd, .iaload, .invokevirtual 305, .istore 7, .aload 2, .invokevirtual 174, .iload 6, .if_icmp .eq 282, .goto_w 281]), ([], [.iconst 0, .ireturn]), ([0, 1, 2, 3, 4, 5, 6, 7], [.iload 6, .ifCond .ne 285, .goto_w 283]), ([0, 1, 2, 3, 4, 5, 7], [.aload 3, .iconst 0, .laload, .iload 7, .i2l, .lcmp, .ifCond .eq 285, .goto_w 284]), ([], [.iconst 0, .ireturn]), ([0, 1, 2, 3, 4, 5], [.goto 378]), ([0, 1, 2, 3, 4, 5], [.aload 1, .aload 3, .invokestatic 367, .istore 6, .aload 2, .invokevirtual 306, .istore 7, .aload 2, .invokevirtual 174, .iload 6, .if_icmp .eq 288, .goto_w 287]), ([], [.iconst 0, .ireturn]), ([0, 1, 2, 3, 4, 5, 6, 7], [.iload 6, .ifCond .ne 291, .goto_w 289]), ([0, 1, 2, 3, 4, 5, 7], [.aload 3, .iconst 0, .laload, .iload 7, .i2l, .lcmp, .ifCond .eq 291, .goto_w 290]), ([], [.iconst 0, .ireturn]), ([0, 1, 2, 3, 4, 5], [.goto 378]), ([0, 1, 2, 3, 4, 5], [.aload 1, .aload 3, .invokestatic 368, .istore 6, .aload 2, .invokevirtual 307, .istore 7, .aload 2, .invokevirtual 174, .iload 6, .if_icmp .eq 294, .goto_w 293]), ([], [.iconst 0, .ireturn]), ([0, 1, 2, 3, 4, 5, 6, 7], [.iload 6, .ifCond .ne 297, .goto_w 295]), ([0, 1, 2, 3, 4, 5, 7], [.aload 3, .iconst 0, .laload, .iload 7, .i2l, .lcmp, .ifCond .eq 297, .goto_w 296]), ([], [.iconst 0, .ireturn]), ([0, 1, 2, 3, 4, 5], [.goto 378]), ([0, 1, 2, 3, 4, 5], [.aload 1, .aload 0, .iload 5, .iconst 1, .iadd, .iaload, .aload 3, .invokestatic 369, .istore 6, .aload 2, .aload 0, .iload 5, .iconst 1, .iadd, .iaload, .invokevirtual 308, .istore 7, .aload 2, .invokevirtual 174, .iload 6, .if_icmp .eq 300, .goto_w 299]), ([], [.iconst 0, .ireturn]), ([0, 1, 2, 3, 4, 5, 6, 7], [.iload 6, .ifCond .ne 303, .goto_w 301]), ([0, 1, 2, 3, 4, 5, 7], [.aload 3, .iconst 0, .laload, .iload 7, .i2l, .lcmp, .ifCond .eq 303, .goto_w 302]), ([], [.iconst 0, .ireturn]), ([0, 1, 2, 3, 4, 5], [.goto 378]), ([0, 1, 2, 3, 4, 5], [.aload 1, .aload 0, .iload 5, .iconst 1, .iadd, .iaload, .aload 3, .invokestatic 370, .istore 6, .aload 2, .aload 0, .iload 5, .iconst 1, .iadd, .iaload, .invokevirtual 310, .istore 7, .aload 2, .invokevirtual 174, .iload 6, .if_icmp .eq 306, .goto_w 305]), ([], [.iconst 0, .ireturn]), ([0, 1, 2, 3, 4, 5, 6, 7], [.iload 6, .ifCond .ne 309, .goto_w 307]), ([0, 1, 2, 3, 4, 5, 7], [.aload 3, .iconst 0, .laload, .iload 7, .i2l, .lcmp, .ifCond .eq 309, .goto_w 308]), ([], [.iconst 0, .ireturn]), ([0, 1, 2, 3, 4, 5], [.goto 378]), ([0, 1, 2, 3, 4, 5], [.aload 1, .aload 0, .iload 5, .iconst 1, .iadd, .iaload, .aload 3, .invokestatic 371, .istore 6, .aload 2, .aload 0, .iload 5, .iconst 1, .iadd, .iaload, .invokevirtual 311, .istore 7, .aload 2, .invokevirtual 174, .iload 6, .if_icmp .eq 312, .goto_w 311]), ([], [.iconst 0, .ireturn]), ([0, 1, 2, 3, 4, 5, 6, 7], [.iload 6, .ifCond .ne 315, .goto_w 313]), ([0, 1, 2, 3, 4, 5, 7], [.aload 3, .iconst 0, .laload, .iload 7, .i2l, .lcmp, .ifCond .eq 315, .goto_w 314]), ([], [.iconst 0, .ireturn]), ([0, 1, 2, 3, 4, 5], [.goto 378]), ([0, 1, 2, 3, 4, 5], [.aload 1, .aload 0, .iload 5, .iconst 1, .iadd, .iaload, .aload 3, .invokestatic 372, .istore 6, .aload 2, .aload 0, .iload 5, .iconst 1, .iadd, .iaload, .invokevirtual 312, .istore 7, .aload 2, .invokevirtual 174, .iload 6, .if_icmp .eq 318, .goto_w 317]), ([], [.iconst 0, .ireturn]), ([0, 1, 2, 3, 4, 5, 6, 7], [.iload 6, .ifCond .ne 321, .goto_w 319]), ([0, 1, 2, 3, 4, 5, 7], [.aload 3, .iconst 0, .laload, .iload 7, .i2l, .lcmp, .ifCond .eq 321, .goto_w 320]), ([], [.iconst 0, .ireturn]), ([0, 1, 2, 3, 4, 5], [.goto 378]), ([0, 1, 2, 3, 4, 5], [.aload 1, .aload 0, .iload 5, .iconst 1, .iadd, .iaload, .aload 3, .invokestatic 373, .istore 6, .aload 2, .aload 0, .iload 5, .iconst 1, .iadd, .iaload, .invokevirtual 313, .istore 7, .aload 2, .invokevirtual 174, .iload 6, .if_icmp .eq 324, .goto_w 323]), ([], [.iconst 0, .ireturn]), ([0, 1, 2, 3, 4, 5, 6, 7], [.iload 6, .ifCond .ne 327, .goto_w 325]), ([0, 1, 2, 3, 4, 5, 7], [.aload 3, .iconst 0, .laload, .iload 7, .i2l, .lcmp, .ifCond .eq 327, .goto_w 326]), ([], [.iconst 0, .ireturn]), ([0, 1, 2, 3, 4, 5], [.goto 378]), ([0, 1, 2, 3, 4, 5], [.aload 1, .aload 0, .iload 5, .iconst 1, .iadd, .iaload, .aload 0, .iload 5, .iconst 2, .iadd, .iaload, .aload 3, .invokestatic 374, .istore 6, .aload 2, .aload 0, .iload 5, .iconst 1, .iadd, .iaload, .aload 0, .iload 5, .iconst 2, .iadd, .iaload, .invokevirtual 314, .istore 7, .aload 2, .invokevirtual 174, .iload 6, .if_icmp .eq 330, .goto_w 329]), ([], [.iconst 0, .ireturn]), ([0, 1, 2, 3, 4, 5, 6, 7], [.iload 6, .ifCond .ne 333, .goto_w 331]), ([0, 1, 2, 3, 4, 5, 7], [.aload 3, .iconst 0, .laload, .iload 7, .i2l, .lcmp, .ifCond .eq 333, .goto_w 332]), ([], [.iconst 0, .ireturn]), ([0, 1, 2, 3, 4, 5], [.goto 378]), ([0, 1, 2, 3, 4, 5], [.aload 1, .aload 0, .iload 5, .iconst 1, .iadd, .iaload, .aload 3, .invokestatic 375, .istore 6, .aload 2, .aload 0, .iload 5, .iconst 1, .iadd, .iaload, .invokevirtual 315, .istore 7, .aload 2, .invokevirtual 174, .iload 6, .if_icmp .eq 336, .goto_w 335]), ([], [.iconst 0, .ireturn]), ([0, 1, 2, 3, 4, 5, 6, 7], [.iload 6, .ifCond .ne 339, .goto_w 337]), ([0, 1, 2, 3, 4, 5, 7], [.aload 3, .iconst 0, .laload, .iload 7, .i2l, .lcmp, .ifCond .eq 339, .goto_w 338]), ([], [.iconst 0, .ireturn]), ([0, 1, 2, 3, 4, 5], [.goto 378]), ([0, 1, 2, 3, 4, 5], [.aload 1, .aload 0, .iload 5, .iconst 1, .iadd, .iaload, .aload 0, .iload 5, .iconst 2, .iadd, .iaload, .aload 3, .invokestatic 376, .istore 6, .aload 2, .aload 0, .iload 5, .iconst 1, .iadd, .iaload, .aload 0, .iload 5, .iconst 2, .iadd, .iaload, .invokevirtual 316, .istore 7, .aload 2, .invokevirtual 174, .iload 6, .if_icmp .eq 342, .goto_w 341]), ([], [.iconst 0, .ireturn]), ([0, 1, 2, 3, 4, 5, 6, 7], [.iload 6, .ifCond .ne 345, .goto_w 343]), ([0, 1, 2, 3, 4, 5, 7], [.aload 3, .iconst 0, .laload, .iload 7, .i2l, .lcmp, .ifCond .eq 345, .goto_w 344]), ([], [.iconst 0, .ireturn]), ([0, 1, 2, 3, 4, 5], [.goto 378]), ([0, 1, 2, 3, 4, 5], [.aload 1, .aload 0, .iload 5, .iconst 1, .iadd, .iaload, .aload 0, .iload 5, .iconst 2, .iadd, .iaload, .aload 3, .invokestatic 377, .istore 6, .aload 2, .aload 0, .iload 5, .iconst 1, .iadd, .iaload, .aload 0, .iload 5, .iconst 2, .iadd, .iaload, .invokevirtual 317, .istore 7, .aload 2, .invokevirtual 174, .iload 6, .if_icmp .eq 348, .goto_w 347]), ([], [.iconst 0, .ireturn]), ([0, 1, 2, 3, 4, 5, 6, 7], [.iload 6, .ifCond .ne 351, .goto_w 349]), ([0, 1, 2, 3, 4, 5, 7], [.aload 3, .iconst 0, .laload, .iload 7, .i2l, .lcmp, .ifCond .eq 351, .goto_w 350]), ([], [.iconst 0, .ireturn]), ([0, 1, 2, 3, 4, 5], [.goto 378]), ([0, 1, 2, 3, 4, 5], [.aload 1, .aload 0, .iload 5, .iconst 1, .iadd, .iaload, .aload 0, .iload 5, .iconst 2, .iadd, .iaload, .aload 3, .invokestatic 378, .istore 6, .aload 2, .aload 0, .iload 5, .iconst 1, .iadd, .iaload, .aload 0, .iload 5, .iconst 2, .iadd, .iaload, .invokevirtual 318, .istore 7, .aload 2, .invokevirtual 174, .iload 6, .if_icmp .eq 354, .goto_w 353]), ([], [.iconst 0, .ireturn]), ([0, 1, 2, 3, 4, 5, 6, 7], [.iload 6, .ifCond .ne 357, .goto_w 355]), ([0, 1, 2, 3, 4, 5, 7], [.aload 3, .iconst 0, .laload, .iload 7, .i2l, .lcmp, .ifCond .eq 357, .goto_w 356]), ([], [.iconst 0, .ireturn]), ([0, 1, 2, 3, 4, 5], [.goto 378]), ([0, 1, 2, 3, 4, 5], [.aload 1, .aload 3, .invokestatic 379, .istore 6, .aload 2, .invokevirtual 319, .istore 7, .aload 2, .invokevirtual 174, .iload 6, .if_icmp .eq 360, .goto_w 359]), ([], [.iconst 0, .ireturn]), ([0, 1, 2, 3, 4, 5, 6, 7], [.iload 6, .ifCond .ne 363, .goto_w 361]), ([0, 1, 2, 3, 4, 5, 7], [.aload 3, .iconst 0, .laload, .iload 7, .i2l, .lcmp, .ifCond .eq 363, .goto_w 362]), ([], [.iconst 0, .ireturn]), ([0, 1, 2, 3, 4, 5], [.goto 378]), ([0, 1, 2, 3, 4, 5], [.aload 1, .invokevirtual 152, .aload 2, .invokevirtual 320, .if_icmp .eq 378, .goto_w 365]), ([], [.iconst 0, .ireturn]), ([0, 1, 2, 3, 4, 5], [.aload 1, .aload 0, .iload 5, .iconst 1, .iadd, .iaload, .aload 3, .invokestatic 380, .istore 6, .aload 2, .aload 0, .iload 5, .iconst 1, .iadd, .iaload, .invokevirtual 321, .istore 7, .aload 2, .invokevirtual 174, .iload 6, .if_icmp .eq 368, .goto_w 367]), ([], [.iconst 0, .ireturn]), ([0, 1, 2, 3, 4, 5, 6, 7], [.iload 6, .ifCond .ne 371, .goto_w 369]), ([0, 1, 2, 3, 4, 5, 7], [.aload 3, .iconst 0, .laload, .iload 7, .i2l, .lcmp, .ifCond .eq 371, .goto_w 370]), ([], [.iconst 0, .ireturn]), ([0, 1, 2, 3, 4, 5], [.goto 378]), ([0, 1, 2, 3, 4, 5], [.aload 1, .aload 0, .iload 5, .iconst 1, .iadd, .iaload, .aload 3, .invokestatic 381, .istore 6, .aload 2, .aload 0, .iload 5, .iconst 1, .iadd, .iaload, .invokevirtual 322, .istore 7, .aload 2, .invokevirtual 174, .iload 6, .if_icmp .eq 374, .goto_w 373]), ([], [.iconst 0, .ireturn]), ([0, 1, 2, 3, 4, 5, 6, 7], [.iload 6, .ifCond .ne 377, .goto_w 375]), ([0, 1, 2, 3, 4, 5, 7], [.aload 3, .iconst 0, .laload, .iload 7, .i2l, .lcmp, .ifCond .eq 377, .goto_w 376]), ([], [.iconst 0, .ireturn]), ([0, 1, 2, 3, 4, 5], [.goto 378]), ([0, 1, 2, 3, 4, 5], [.iinc 5 6, .goto 1]), ([], [.iconst 1, .ireturn])])
/-- java/lang/Integer.bitCount(I)I -/
def xM383 : XT := (1, 1, 99, 1, [], [([0], [.iload 0, .iload 0, .iconst 1, .iushr, .iconst 1431655765, .iand, .isub, .istore 0, .iload 0, .iconst 858993459, .iand, .iload 0, .iconst 2, .iushr, .iconst 858993459, .iand, .iadd, .istore 0, .iload 0, .iload 0, .iconst 4, .iushr, .iadd, .iconst 252645135, .iand, .istore 0, .iload 0, .iload 0, .iconst 8, .iushr, .iadd, .istore 0, .iload 0, .iload 0, .iconst 16, .iushr, .iadd, .istore 0, .iload 0, .iconst 63, .iand, .ireturn])])
/-- java/lang/Math.abs(I)I -/
def xM384 : XT := (1, 1, 99, 1, [], [([0], [.iload 0, .ifCond .ge 2, .goto_w 1]), ([0], [.iload 0, .ineg, .goto 3]), ([0], [.iload 0, .goto_w 3]), ([], [.ireturn])])
/-- java/lang/Math.max(II)I -/
def xM385 : XT := (2, 2, 99, 1, [], [([0, 1], [.iload 0, .iload 1, .if_icmp .lt 2, .goto_w 1]), ([0], [.iload 0, .goto 3]), ([1], [.iload 1, .goto_w 3]), ([], [.ireturn])])
/-- java/lang/Math.min(II)I -/
def xM386 : XT := (2, 2, 99, 1, [], [([0, 1], [.iload 0, .iload 1, .if_icmp .gt 2, .goto_w 1]), ([0], [.iload 0, .goto 3]), ([1], [.iload 1, .goto_w 3]), ([], [.ireturn])])
/-- java/lang/Float.isNaN(F)Z -/
def xM387 : XT := (1, 1, 99, 2, [], [([0], [.fload 0, .fload 0, .fcmp .l, .ifCond .eq 2, .goto_w 1]), ([], [.iconst 1, .goto 3]), ([], [.iconst 0, .goto_w 3]), ([], [.ireturn])])
/-- java/lang/Float.floatToIntBits(F)I -/
def xM388 : XT := (1, 1, 99, 1, [], [([0], [.fload 0, .invokestatic 387, .ifCond .ne 2, .goto_w 1]), ([0], [.fload 0, .invokedynamic 0, .ireturn]), ([], [.iconst 2143289344, .ireturn])])
/-- java/lang/Double.isNaN(D)Z -/
def xM389 : XT := (1, 2, 99, 2, [], [([0], [.dload 0, .dload 0, .dcmp .l, .ifCond .eq 2, .goto_w 1]), ([], [.iconst 1, .goto 3]), ([], [.iconst 0, .goto_w 3]), ([], [.ireturn])])
/-- java/lang/Double.doubleToLongBits(D)J -/
def xM390 : XT := (1, 2, 99, 5, [], [([0], [.dload 0, .invokestatic 389, .ifCond .ne 2, .goto_w 1]), ([0], [.dload 0, .invokedynamic 1, .lreturn]), ([], [.jsr 9221120237041090560, .lreturn])])
/-- java/lang/String.length()I -/
def xM391 : XT := (1, 1, 30, 1, [], [([0], [.aload 0, .getfield 960, .arraylength, .aload 0, .invokevirtual 393, .ishr, .ireturn])])
/-- java/lang/String.charAt(I)C -/
def xM392 : XT := (2, 2, 30, 4, [], [([0, 1], [.aload 0, .invokevirtual 394, .ifCond .eq 2, .goto_w 1]), ([0, 1], [.aload 0, .getfield 960, .iload 1, .invokestatic 396, .ireturn]), ([0, 1], [.aload 0, .getfield 960, .iload 1])])
/-- java/lang/String.coder()B -/
def xM393 : XT := (1, 1, 30, 3, [], [([0], [.getstatic 2, .ifCond .eq 2, .goto_w 1]), ([0], [.aload 0, .getfield 961, .goto 3]), ([], [.iconst 1, .goto_w 3]), ([], [.ireturn])])
/-- java/lang/String.isLatin1()Z -/
def xM394 : XT := (1, 1, 30, 2, [], [([0], [.getstatic 2, .ifCond .eq 3, .goto_w 1]), ([0], [.aload 0, .getfield 961, .ifCond .ne 3, .goto_w 2]), ([], [.iconst 1, .goto 4]), ([], [.iconst 0, .goto_w 4]), ([], [.ireturn])])
/-- java/lang/String.checkIndex(II)V -/
def xM395 : XT := (2, 2, 99, 0, [], [([0, 1], [.iload 0, .iload 1, .getstatic 4, .invokestatic 397, .pop, .return_])])
/-- java/lang/StringLatin1.charAt([BI)C -/
def xM396 : XT := (2, 2, 99, 4, [], [([0, 1], [.iload 1, .aload 0, .arraylength, .invokestatic 395, .aload 0, .iload 1, .baload, .iconst 255, .iand, .i2c, .ireturn])])
/-- jdk/internal/util/Preconditions.checkIndex(IILjava/util/function/BiFunction;)I -/
def xM397 : XT := (3, 3, 99, 1, [], [([0, 1, 2], [.iload 0, .ifCond .lt 2, .goto_w 1]), ([0, 1, 2], [.iload 0, .iload 1, .if_icmp .lt 3, .goto_w 2]), ([0, 1, 2], [.aload 2, .iload 0, .iload 1]), ([0], [.iload 0, .ireturn])])
def xmts : List XT := [xM0, xM1, xM2, xM3, xM4, xM5, xM6, xM7, xM8, xM9, xM10, xM11, xM12, xM13, xM14, xM15, xM16, xM17, xM18, xM19, xM20, xM21, xM22, xM23, xM24, xM25, xM26, xM27, xM28, xM29, xM30, xM31, xM32, xM33, xM34, xM35, xM36, xM37, xM38, xM39, xM40, xM41, xM42, xM43, xM44, xM45, xM46, xM47, xM48, xM49, xM50, xM51, xM52, xM53, xM54, xM55, xM56, xM57, xM58, xM59, xM60, xM61, xM62, xM63, xM64, xM65, xM66, xM67, xM68, xM69, xM70, xM71, xM72, xM73, xM74, xM75, xM76, xM77, xM78, xM79, xM80, xM81, xM82, xM83, xM84, xM85, xM86, xM87, xM88, xM89, xM90, xM91, xM92, xM93, xM94, xM95, xM96, xM97, xM98, xM99, xM100, xM101, xM102, xM103, xM104, xM105, xM106, xM107, xM108, xM109, xM110, xM111, xM112, xM113, xM114, xM115, xM116, xM117, xM118, xM119, xM120, xM121, xM122, xM123, xM124, xM125, xM126, xM127, xM128, xM129, xM130, xM131, xM132, xM133, xM134, xM135, xM136, xM137, xM138, xM139, xM140, xM141, xM142, xM143, xM144, xM145, xM146, xM147, xM148, xM149, xM150, xM151, xM152, xM153, xM154, xM155, xM156, xM157, xM158, xM159, xM160, xM161, xM162, xM163, xM164, xM165, xM166, xM167, xM168, xM169, xM170, xM171, xM172, xM173, xM174, xM175, xM176, xM177, xM178, xM179, xM180, xM181, xM182, xM183, xM184, xM185, xM186, xM187, xM188, xM189, xM190, xM191, xM192, xM193, xM194, xM195, xM196, xM197, xM198, xM199, xM200, xM201, xM202, xM203, xM204, xM205, xM206, xM207, xM208, xM209, xM210, xM211, xM212, xM213, xM214, xM215, xM216, xM217, xM218, xM219, xM220, xM221, xM222, xM223, xM224, xM225, xM226, xM227, xM228, xM229, xM230, xM231, xM232, xM233, xM234, xM235, xM236, xM237, xM238, xM239, xM240, xM241, xM242, xM243, xM244, xM245, xM246, xM247, xM248, xM249, xM250, xM251, xM252, xM253, xM254, xM255, xM256, xM257, xM258, xM259, xM260, xM261, xM262, xM263, xM264, xM265, xM266, xM267, xM268, xM269, xM270, xM271, xM272, xM273, xM274, xM275, xM276, xM277, xM278, xM279, xM280, xM281, xM282, xM283, xM284, xM285, xM286, xM287, xM288, xM289, xM290, xM291, xM292, xM293, xM294, xM295, xM296, xM297, xM298, xM299, xM300, xM301, xM302, xM303, xM304, xM305, xM306, xM307, xM308, xM309, xM310, xM311, xM312, xM313, xM314, xM315, xM316, xM317, xM318, xM319, xM320, xM321, xM322, xM323, xM324, xM325, xM326, xM327, xM328, xM329, xM330, xM331, xM332, xM333, xM334, xM335, xM336, xM337, xM338, xM339, xM340, xM341, xM342, xM343, xM344, xM345, xM346, xM347, xM348, xM349, xM350, xM351, xM352, xM353, xM354, xM355, xM356, xM357, xM358, xM359, xM360, xM361, xM362, xM363, xM364, xM365, xM366, xM367, xM368, xM369, xM370, xM371, xM372, xM373, xM374, xM375, xM376, xM377, xM378, xM379, xM380, xM381, xM382, xM383, xM384, xM385, xM386, xM387, xM388, xM389, xM390, xM391, xM392, xM393, xM394, xM395, xM396, xM397]
def xmt (y : Nat) : Option XT := xmts[y]?
end
section
/-! X: a small machine over the tables of 02.xcode. Its heap: a list of cells (a cell's address is its place), the whole numbers that they hold (XM), and what a long[1] or double[1] holds. -/
/-- a cell: kind (a class's place, 0 to 11; 20 int[], 21 byte[], 22 boolean[], 23 long[], 24 double[], 25 State[]), length, references -/
abbrev XC : Type := Nat × Nat × List (Option Nat)
abbrev XM : Type := Nat → Nat → Int32
/-- the cells; the exceptions that were made; the wide cells; the whole numbers -/
abbrev XS : Type := List XC × Nat × (Nat → Value) × XM
abbrev XL : Type := List (Nat × Value)
abbrev XR : Type := Option Value ⊕ Nat
abbrev XK : Type := Nat × (Nat → Int32)
abbrev XO : Type := Option (XR × XS)
def um (m : XM) (a k : Nat) (v : Int32) : XM := fun a' k' => if a' = a ∧ k' = k then v else m a' k'
def uz (m : XM) (a : Nat) : XM := fun a' k' => if a' = a then 0 else m a' k'
def uw (w : Nat → Value) (a : Nat) (v : Value) : Nat → Value := fun a' => if a' = a then v else w a'
def xk : XL → Nat → Option Value
  | [], _ => none
  | (j, v) :: t, i => if j = i then some v else xk t i
def xdel : XL → Nat → Nat → XL
  | [], _, _ => []
  | (j, w) :: t, i, n => if j < i + n ∧ i < j + w.category then xdel t i n else (j, w) :: xdel t i n
def xst (ls : XL) (i : Nat) (v : Value) : XL := (i, v) :: xdel ls i v.category
def xnorm : List Nat → XL → XL
  | [], _ => []
  | k :: t, ls => match xk ls k with
    | some v => (k, v) :: xnorm t ls
    | none => xnorm t ls
def xtl : Value → Int64
  | .long v => v
  | _ => 0
def xtd : Value → UInt64
  | .double v => v
  | _ => 0
def xbr (c : ClassFile.Cond) (a b : Int32) (t f : XO) : XO :=
  match c with
  | .eq => if a = b then t else f
  | .ne => if a = b then f else t
  | .lt => if a < b then t else f
  | .ge => if b ≤ a then t else f
  | .gt => if b < a then t else f
  | .le => if a ≤ b then t else f
/-- constant cells: 1000000 the law's script, 1000001 and 1000002 two static arrays, from 1000010 on the texts, from 1000040 on their bytes; a called method has no script -/
def xK0 : XK := (0, fun _ => 0)
def xstr : List (List Int32) := [[110, 111, 116, 32, 115, 111, 32, 109, 97, 110, 121, 32, 98, 121, 116, 101, 115, 32, 105, 110, 32, 116, 104, 101, 32, 98, 117, 102, 102, 101, 114], [112, 97, 114, 97, 100, 101], [98, 101, 97, 114, 101, 114], [115, 116, 97, 110, 100], [114, 105, 103, 104, 116], [108, 101, 102, 116], [112, 108, 97, 110], [97, 110, 32, 97, 114, 103, 117, 109, 101, 110, 116, 32, 100, 111, 101, 115, 32, 110, 111, 116, 32, 102, 105, 116], [110, 111, 32, 116, 101, 120, 116, 32, 119, 97, 115, 32, 108, 111, 97, 100, 101, 100], [110, 111, 32, 115, 117, 99, 104, 32, 105, 110, 100, 101, 120], [110, 111, 32, 99, 104, 97, 110, 103, 101, 32, 99, 97, 110, 32, 98, 101, 32, 117, 110, 100, 111, 110, 101], [110, 111, 116, 104, 105, 110, 103, 32, 105, 115, 32, 115, 97, 118, 101, 100, 32, 116, 104, 101, 114, 101], [112, 97, 114, 97, 100, 101], [98, 101, 97, 114, 101, 114], [115, 116, 97, 110, 100], [114, 105, 103, 104, 116], [108, 101, 102, 116], [112, 108, 97, 110]]
def xci (K : XK) (a : Nat) : Option XK :=
  if a = 1000000 then (if K.1 = 0 then none else some (K.1 - 1, K.2))
  else if a = 1000001 then some (6, fun j => [1, 0, 1, 0, 1, 0].getD j 0)
  else if a = 1000002 then some (6, fun j => [999, 9999, 9999, 50, 100, 9999].getD j 0)
  else none
def xcb (a : Nat) : Option XK :=
  if 1000040 ≤ a then (xstr[a - 1000040]?).map (fun l => (l.length, fun j => l.getD j 0)) else none
/-- which fields are references; which are boolean -/
def xrefs : List (List Bool) := [[false, true], [false, true, true, true], [false, false, true, true, true], [true, true, true, false, false], [false, true, true, true], [false, false, true, true], [false, true, true, true, true], [false, true, true, true, true, true, true, true, true], [false, false, false, false, true, true, true, true, true], [true, false, false, false, false, false, false], [true, true, true, true, true, true, true, false], [false, true, true, true, true, true, false, false, true, false, false, false, false, false, false, false, false, true, false, true, true, false]]
def xref (c k : Nat) : Bool := (xrefs.getD c []).getD k false
def xbl (c k : Nat) : Bool := (c == 10 && k == 7) || (c == 11 && k == 6)
def xnf : List Nat := [2, 4, 5, 5, 4, 4, 5, 9, 9, 7, 8, 22]
def xin (i : Int32) (n : Nat) : Bool := decide (0 ≤ i) && decide (i.toNatClampNeg < n)
def xkind : ArrayType → Nat
  | .int => 20
  | .byte => 21
  | .boolean => 22
  | .long => 23
  | .double => 24
  | _ => 0
def xget (S : List XC) (m : XM) (f a : Nat) : Option Value :=
  match S[a]? with
  | some (ci, n, rs) => if ci = f / 32 ∧ f % 32 < n ∧ ci < 12 then (if xref ci (f % 32) then
      (match rs[f % 32]? with
      | some (some b) => some (.ref b)
      | _ => none) else some (.int (m a (f % 32)))) else none
  | none => if 1000010 ≤ a ∧ a < 1000028 then (if f = 960 then some (.ref (a + 30)) else if f = 961 then some (.int 0) else none) else none
def xok (n : Nat) : Value → Bool
  | .ref a => decide (a < n) || decide (1000000 ≤ a)
  | _ => true
/-- a new cell has a place of its own: no value speaks of it yet -/
def xfresh (S : List XC) (ls : XL) (st : List Value) : Bool :=
  decide (S.length < 1000000) && st.all (xok S.length) && ls.all (fun q => xok S.length q.2) && S.all (fun x => x.2.2.all (fun r => match r with
    | some b => decide (b < S.length)
    | none => true))
/-- the instructions that only go on -/
def xone (K : XK) (i : Instr) (ls : XL) (st : List Value) (σ : XS) : Option (XL × List Value × XS) :=
  match i with
  | .iconst n => some (ls, .int (Int32.ofInt n) :: st, σ)
  | .ldc_w b => some (ls, .float (UInt32.ofNat b) :: st, σ)
  | .ldc2_w b => some (ls, .double (UInt64.ofNat b) :: st, σ)
  | .jsr n => some (ls, .long (Int64.ofInt n) :: st, σ)
  | .ldc k => some (ls, .ref (1000010 + k) :: st, σ)
  | .fconst n => some (ls, .float (if (n : Nat) = 0 then FP.fconst0 else if (n : Nat) = 1 then FP.fconst1 else FP.fconst2) :: st, σ)
  | .dconst n => some (ls, .double (if (n : Nat) = 0 then FP.dconst0 else FP.dconst1) :: st, σ)
  | .lconst n => some (ls, .long (Int64.ofNat (n : Nat)) :: st, σ)
  | .iload k => match xk ls k with
    | some (.int v) => some (ls, .int v :: st, σ)
    | _ => none
  | .aload k => match xk ls k with
    | some (.ref v) => some (ls, .ref v :: st, σ)
    | _ => none
  | .lload k => match xk ls k with
    | some (.long v) => some (ls, .long v :: st, σ)
    | _ => none
  | .fload k => match xk ls k with
    | some (.float v) => some (ls, .float v :: st, σ)
    | _ => none
  | .dload k => match xk ls k with
    | some (.double v) => some (ls, .double v :: st, σ)
    | _ => none
  | .istore k => match st with
    | .int v :: r => some (xst ls k (.int v), r, σ)
    | _ => none
  | .astore k => match st with
    | .ref v :: r => some (xst ls k (.ref v), r, σ)
    | _ => none
  | .lstore k => match st with
    | .long v :: r => some (xst ls k (.long v), r, σ)
    | _ => none
  | .fstore k => match st with
    | .float v :: r => some (xst ls k (.float v), r, σ)
    | _ => none
  | .dstore k => match st with
    | .double v :: r => some (xst ls k (.double v), r, σ)
    | _ => none
  | .iinc k n => match xk ls k with
    | some (.int v) => some (xst ls k (.int (v + Int32.ofInt n)), st, σ)
    | _ => none
  | .iadd => match st with
    | .int y :: .int x :: r => some (ls, .int (x + y) :: r, σ)
    | _ => none
  | .isub => match st with
    | .int y :: .int x :: r => some (ls, .int (x - y) :: r, σ)
    | _ => none
  | .imul => match st with
    | .int y :: .int x :: r => some (ls, .int (x * y) :: r, σ)
    | _ => none
  | .idiv => match st with
    | .int y :: .int x :: r => if y = 0 then none else some (ls, .int (x / y) :: r, σ)
    | _ => none
  | .irem => match st with
    | .int y :: .int x :: r => if y = 0 then none else some (ls, .int (x - x / y * y) :: r, σ)
    | _ => none
  | .ineg => match st with
    | .int x :: r => some (ls, .int (-x) :: r, σ)
    | _ => none
  | .iand => match st with
    | .int y :: .int x :: r => some (ls, .int (x &&& y) :: r, σ)
    | _ => none
  | .ior => match st with
    | .int y :: .int x :: r => some (ls, .int (x ||| y) :: r, σ)
    | _ => none
  | .ishl => match st with
    | .int y :: .int x :: r => some (ls, .int (x <<< (y &&& 31)) :: r, σ)
    | _ => none
  | .ishr => match st with
    | .int y :: .int x :: r => some (ls, .int (x >>> (y &&& 31)) :: r, σ)
    | _ => none
  | .iushr => match st with
    | .int y :: .int x :: r => some (ls, .int (x.toUInt32 >>> (y.toUInt32 &&& Int32.toUInt32 31)).toInt32 :: r, σ)
    | _ => none
  | .i2l => match st with
    | .int x :: r => some (ls, .long x.toInt64 :: r, σ)
    | _ => none
  | .i2b => match st with
    | .int x :: r => some (ls, .int x.toInt8.toInt32 :: r, σ)
    | _ => none
  | .i2c => match st with
    | .int x :: r => some (ls, .int (x.toUInt32 % 65536).toInt32 :: r, σ)
    | _ => none
  | .i2f => match st with
    | .int x :: r => some (ls, .float (FP.i2f x) :: r, σ)
    | _ => none
  | .i2d => match st with
    | .int x :: r => some (ls, .double (FP.i2d x) :: r, σ)
    | _ => none
  | .f2i => match st with
    | .float x :: r => some (ls, .int (FP.f2i x) :: r, σ)
    | _ => none
  | .f2d => match st with
    | .float x :: r => if FP.f2d x &&& 0x7fffffffffffffff ≤ 0x7ff0000000000000 then some (ls, .double (FP.f2d x) :: r, σ) else none
    | _ => none
  | .d2l => match st with
    | .double x :: r => some (ls, .long (FP.d2l x) :: r, σ)
    | _ => none
  | .ladd => match st with
    | .long y :: .long x :: r => some (ls, .long (x + y) :: r, σ)
    | _ => none
  | .lsub => match st with
    | .long y :: .long x :: r => some (ls, .long (x - y) :: r, σ)
    | _ => none
  | .lshl => match st with
    | .int y :: .long x :: r => some (ls, .long (x <<< (y.toInt64 &&& 63)) :: r, σ)
    | _ => none
  | .lcmp => match st with
    | .long y :: .long x :: r => some (ls, .int (lg_cmp x y) :: r, σ)
    | _ => none
  | .fmul => match st with
    | .float y :: .float x :: r => if FP.fmul x y &&& 0x7fffffff ≤ 0x7f800000 then some (ls, .float (FP.fmul x y) :: r, σ) else none
    | _ => none
  | .fdiv => match st with
    | .float y :: .float x :: r => if FP.fdiv x y &&& 0x7fffffff ≤ 0x7f800000 then some (ls, .float (FP.fdiv x y) :: r, σ) else none
    | _ => none
  | .fsub => match st with
    | .float y :: .float x :: r => if FP.fsub x y &&& 0x7fffffff ≤ 0x7f800000 then some (ls, .float (FP.fsub x y) :: r, σ) else none
    | _ => none
  | .dmul => match st with
    | .double y :: .double x :: r => if FP.dmul x y &&& 0x7fffffffffffffff ≤ 0x7ff0000000000000 then some (ls, .double (FP.dmul x y) :: r, σ) else none
    | _ => none
  | .ddiv => match st with
    | .double y :: .double x :: r => if FP.ddiv x y &&& 0x7fffffffffffffff ≤ 0x7ff0000000000000 then some (ls, .double (FP.ddiv x y) :: r, σ) else none
    | _ => none
  | .dsub => match st with
    | .double y :: .double x :: r => if FP.dsub x y &&& 0x7fffffffffffffff ≤ 0x7ff0000000000000 then some (ls, .double (FP.dsub x y) :: r, σ) else none
    | _ => none
  | .fcmp op => match st with
    | .float y :: .float x :: r => some (ls, .int (Op.cmpValue (FP.fcmp x y) op) :: r, σ)
    | _ => none
  | .dcmp op => match st with
    | .double y :: .double x :: r => some (ls, .int (Op.cmpValue (FP.dcmp x y) op) :: r, σ)
    | _ => none
  | .dup => match st with
    | v :: r => if v.category = 1 then some (ls, v :: v :: r, σ) else none
    | _ => none
  | .dup2 => match st with
    | v :: u :: r => if v.category = 1 ∧ u.category = 1 then some (ls, v :: u :: v :: u :: r, σ) else none
    | _ => none
  | .monitorexit => match st with
    | .ref _ :: r => if (r.map fun v => v.category).sum ≤ 8 then some (ls, r, σ) else none
    | _ => none
  | .pop => match st with
    | v :: r => if v.category = 1 then some (ls, r, σ) else none
    | _ => none
  | .frem => match st with
    | .float z :: .float x :: r => if FP.fIsNaN x = false ∧ FP.fIsNaN z = false ∧ (r.map fun v => v.category).sum ≤ 8 then some (ls, .float (Native.java_lang_Math.nans.pick32 true x z) :: r, σ) else none
    | _ => none
  | .invokedynamic k => match st with
    | .float x :: r => if k = 0 ∧ (r.map fun v => v.category).sum ≤ 8 then some (ls, .int x.toInt32 :: r, σ) else none
    | .double x :: r => if k = 1 ∧ (r.map fun v => v.category).sum ≤ 8 then some (ls, .long x.toInt64 :: r, σ) else none
    | _ => none
  | .getstatic k =>
    if k = 0 then some (ls, .ref 1000001 :: st, σ)
    else if k = 1 then some (ls, .ref 1000002 :: st, σ)
    else if k = 2 then some (ls, .int 1 :: st, σ)
    else if k = 3 then some (ls, .long (-2147483648) :: st, σ)
    else if k = 4 then some (ls, .retAddr 0 :: st, σ)
    else none
  | .getfield f => match st with
    | .ref a :: r => match xget σ.1 σ.2.2.2 f a with
      | some v => some (ls, v :: r, σ)
      | none => none
    | _ => none
  | .putfield f => match st with
    | .int v :: .ref a :: r => match σ.1[a]? with
      | some (ci, n, _) => if ci = f / 32 ∧ ci < 12 ∧ f % 32 < n ∧ xref ci (f % 32) = false ∧ (xbl ci (f % 32) = false ∨ v = 0 ∨ v = 1) then
          some (ls, r, σ.1, σ.2.1, σ.2.2.1, um σ.2.2.2 a (f % 32) v) else none
      | none => none
    | .ref v :: .ref a :: r => match σ.1[a]? with
      | some (ci, n, rs) => if ci = f / 32 ∧ ci < 12 ∧ f % 32 < n ∧ xref ci (f % 32) = true ∧ rs.length = n ∧ v < σ.1.length then
          some (ls, r, σ.1.set a (ci, n, rs.set (f % 32) (some v)), σ.2.1, σ.2.2.1, σ.2.2.2) else none
      | none => none
    | _ => none
  | .iaload => match st with
    | .int i :: .ref a :: r => match σ.1[a]? with
      | some (ci, n, _) => if ci = 20 ∧ xin i n = true then some (ls, .int (σ.2.2.2 a i.toNatClampNeg) :: r, σ) else none
      | none => match xci K a with
        | some (n, f) => if xin i n = true then some (ls, .int (f i.toNatClampNeg) :: r, σ) else none
        | none => none
    | _ => none
  | .iastore => match st with
    | .int v :: .int i :: .ref a :: r => match σ.1[a]? with
      | some (ci, n, _) => if ci = 20 ∧ xin i n = true then some (ls, r, σ.1, σ.2.1, σ.2.2.1, um σ.2.2.2 a i.toNatClampNeg v) else none
      | none => none
    | _ => none
  | .baload => match st with
    | .int i :: .ref a :: r => match σ.1[a]? with
      | some (ci, n, _) => if (ci = 21 ∨ ci = 22) ∧ xin i n = true then some (ls, .int (σ.2.2.2 a i.toNatClampNeg) :: r, σ) else none
      | none => match xcb a with
        | some (n, f) => if xin i n = true then some (ls, .int (f i.toNatClampNeg) :: r, σ) else none
        | none => none
    | _ => none
  | .bastore => match st with
    | .int v :: .int i :: .ref a :: r => match σ.1[a]? with
      | some (ci, n, _) => if ci = 21 ∧ xin i n = true then some (ls, r, σ.1, σ.2.1, σ.2.2.1, um σ.2.2.2 a i.toNatClampNeg v.toInt8.toInt32)
        else if ci = 22 ∧ xin i n = true ∧ (v = 0 ∨ v = 1) then some (ls, r, σ.1, σ.2.1, σ.2.2.1, um σ.2.2.2 a i.toNatClampNeg v) else none
      | none => none
    | _ => none
  | .aaload => match st with
    | .int i :: .ref a :: r => match σ.1[a]? with
      | some (ci, n, rs) => if ci = 25 ∧ xin i n = true then
          (match rs[i.toNatClampNeg]? with
          | some (some b) => some (ls, .ref b :: r, σ)
          | _ => none) else none
      | none => none
    | _ => none
  | .aastore => match st with
    | .ref v :: .int i :: .ref a :: r => match σ.1[a]? with
      | some (ci, n, rs) => match σ.1[v]? with
        | some (cv, _, _) => if ci = 25 ∧ xin i n = true ∧ cv = 8 ∧ rs.length = n then
            some (ls, r, σ.1.set a (ci, n, rs.set i.toNatClampNeg (some v)), σ.2.1, σ.2.2.1, σ.2.2.2) else none
        | none => none
      | none => none
    | _ => none
  | .laload => match st with
    | .int i :: .ref a :: r => match σ.1[a]? with
      | some (ci, n, _) => if ci = 23 ∧ i = 0 ∧ n = 1 then some (ls, .long (xtl (σ.2.2.1 a)) :: r, σ) else none
      | none => none
    | _ => none
  | .lastore => match st with
    | .long v :: .int i :: .ref a :: r => match σ.1[a]? with
      | some (ci, n, _) => if ci = 23 ∧ i = 0 ∧ n = 1 then some (ls, r, σ.1, σ.2.1, uw σ.2.2.1 a (.long v), σ.2.2.2) else none
      | none => none
    | _ => none
  | .daload => match st with
    | .int i :: .ref a :: r => match σ.1[a]? with
      | some (ci, n, _) => if ci = 24 ∧ i = 0 ∧ n = 1 then some (ls, .double (xtd (σ.2.2.1 a)) :: r, σ) else none
      | none => none
    | _ => none
  | .dastore => match st with
    | .double v :: .int i :: .ref a :: r => match σ.1[a]? with
      | some (ci, n, _) => if ci = 24 ∧ i = 0 ∧ n = 1 then some (ls, r, σ.1, σ.2.1, uw σ.2.2.1 a (.double v), σ.2.2.2) else none
      | none => none
    | _ => none
  | .arraylength => match st with
    | .ref a :: r => match σ.1[a]? with
      | some (ci, n, _) => if ci = 20 ∨ ci = 21 ∨ ci = 22 ∨ ci = 25 then some (ls, .int (Int32.ofNat n) :: r, σ) else none
      | none => match xci K a with
        | some (n, _) => some (ls, .int (Int32.ofNat n) :: r, σ)
        | none => match xcb a with
          | some (n, _) => some (ls, .int (Int32.ofNat n) :: r, σ)
          | none => none
    | _ => none
  | .new c => if c < 12 ∧ xfresh σ.1 ls st = true then some (ls, .ref σ.1.length :: st, σ.1 ++ [(c, xnf.getD c 0, List.replicate (xnf.getD c 0) none)], σ.2.1, σ.2.2.1, uz σ.2.2.2 σ.1.length) else none
  | .newarray t => match st with
    | .int n :: r => if 0 ≤ n ∧ n.toNatClampNeg ≤ 5000 ∧ xfresh σ.1 ls r = true then
        (if xkind t = 23 ∨ xkind t = 24 then (if n = 1 then some (ls, .ref σ.1.length :: r, σ.1 ++ [(xkind t, 1, [])], σ.2.1, uw σ.2.2.1 σ.1.length .null, uz σ.2.2.2 σ.1.length) else none)
        else if xkind t = 0 then none
        else some (ls, .ref σ.1.length :: r, σ.1 ++ [(xkind t, n.toNatClampNeg, [])], σ.2.1, σ.2.2.1, uz σ.2.2.2 σ.1.length)) else none
    | _ => none
  | .anewarray c => match st with
    | .int n :: r => if c = 8 ∧ 0 ≤ n ∧ n.toNatClampNeg ≤ 5000 ∧ xfresh σ.1 ls r = true then
        some (ls, .ref σ.1.length :: r, σ.1 ++ [(25, n.toNatClampNeg, List.replicate n.toNatClampNeg none)], σ.2.1, σ.2.2.1, uz σ.2.2.2 σ.1.length) else none
    | _ => none
  | _ => none
/-- what a return of this kind takes -/
def xrt : Nat → Int32 → Bool
  | 1, _ => true
  | 2, v => v == 0 || v == 1
  | 3, v => v == 0
  | 4, v => (v.toUInt32 % 65536).toInt32 == v
  | _, _ => false
def xrecv (rc : Nat) (S : List XC) : List Value → Bool
  | .ref a :: _ => if rc = 99 then true else match S[a]? with
    | some (ci, _, _) => ci == rc && decide (rc < 12)
    | none => rc == 30 && decide (1000010 ≤ a) && decide (a < 1000028)
  | _ => rc == 99
def xcat (st : List Value) : Nat := (st.map fun v => v.category).sum
/-- the call of method y, with the stack st -/
def xcall (C : Nat → List Value → XS → XO) (hd : List (Nat × Nat × Nat)) (J : Nat → XL → List Value → XS → XO) (y : Nat) (ls : XL) (st : List Value) (σ : XS) (k : List Value → XS → XO) : XO :=
  match xmt y with
  | none => none
  | some (na, ml, rc, _, _, _) =>
    if na ≤ st.length ∧ xrecv rc σ.1 (st.take na).reverse = true ∧ xcat (st.drop na) ≤ 8 ∧ xcat (st.take na).reverse ≤ ml then
      (match C y (st.take na).reverse σ with
      | none => none
      | some (.inl v, σ') => if σ'.1.length = σ.1.length ∨ (ls.all (fun q => xok σ.1.length q.2) = true ∧ (st.drop na).all (xok σ.1.length) = true) then k (v.toList ++ st.drop na) σ' else none
      | some (.inr E, σ') => match hd.find? (fun h => h.1 == E) with
        | some (_, L, x) => if σ'.1.length = σ.1.length then J L (xdel ls x 1) [] σ' else none
        | none => if hd.isEmpty then some (.inr E, σ') else none)
    else none
def xblk (K : XK) (rt : Nat) (hd : List (Nat × Nat × Nat)) (J : Nat → XL → List Value → XS → XO) (C : Nat → List Value → XS → XO) : List Instr → XL → List Value → XS → XO
  | [], _, _, _ => none
  | i :: is, ls, st, σ =>
    match i with
    | .goto L => J L.toNat ls st σ
    | .goto_w L => J L.toNat ls st σ
    | .ifCond c L => match st with
      | .int x :: r => xbr c x 0 (J L.toNat ls r σ) (xblk K rt hd J C is ls r σ)
      | _ => none
    | .if_icmp c L => match st with
      | .int y :: .int x :: r => xbr c x y (J L.toNat ls r σ) (xblk K rt hd J C is ls r σ)
      | _ => none
    | .ifnull _ => match st with
      | .ref _ :: r => xblk K rt hd J C is ls r σ
      | _ => none
    | .tableswitch d lo hi offs => match st with
      | .int x :: r => if lo ≤ x.toInt ∧ x.toInt ≤ hi then
          (match offs[(x.toInt - lo).toNat]? with
          | some L => J L.toNat ls r σ
          | none => none) else J d.toNat ls r σ
      | _ => none
    | .lookupswitch d ps => match st with
      | .int x :: r => match ps.toList.find? (fun q => q.1 == x.toInt) with
        | some (_, L) => J L.toNat ls r σ
        | none => J d.toNat ls r σ
      | _ => none
    | .ireturn => match st with
      | [.int v] => if xrt rt v = true then some (.inl (some (.int v)), σ) else none
      | _ => none
    | .lreturn => match st with
      | [.long v] => if rt = 5 then some (.inl (some (.long v)), σ) else none
      | _ => none
    | .freturn => match st with
      | [.float v] => if rt = 6 then some (.inl (some (.float v)), σ) else none
      | _ => none
    | .dreturn => match st with
      | [.double v] => if rt = 7 then some (.inl (some (.double v)), σ) else none
      | _ => none
    | .areturn => match st with
      | [.ref v] => if rt = 8 then some (.inl (some (.ref v)), σ) else none
      | _ => none
    | .return_ => match st with
      | [] => if rt = 0 then some (.inl none, σ) else none
      | _ => none
    | .checkcast E => match st with
      | [] => if hd.isEmpty then some (.inr E, σ.1, σ.2.1 + 1, σ.2.2.1, σ.2.2.2) else none
      | _ => none
    | .invokevirtual y => xcall C hd J y ls st σ (fun st' σ' => xblk K rt hd J C is ls st' σ')
    | .invokespecial y => xcall C hd J y ls st σ (fun st' σ' => xblk K rt hd J C is ls st' σ')
    | .invokestatic y => xcall C hd J y ls st σ (fun st' σ' => xblk K rt hd J C is ls st' σ')
    | i => match xone K i ls st σ with
      | some (ls', st', σ') => xblk K rt hd J C is ls' st' σ'
      | none => none
/-- a run: fuel, depth left, method, label -/
def xrun (K : XK) : Nat → Nat → Nat → Nat → XL → List Value → XS → XO
  | 0, _, _, _, _, _, _ => none
  | n + 1, d, y, L, ls, st, σ => match xmt y with
    | none => none
    | some (_, _, _, rt, hd, bs) => match bs[L]? with
      | none => none
      | some (lv, is) => xblk K rt hd (fun L' ls' st' σ' => xrun K n d y L' ls' st' σ')
          (fun y' args σ' => match d with
            | 0 => none
            | d' + 1 => xrun xK0 n d' y' 0 (lv_args 0 args) [] σ') is (xnorm lv ls) st σ
end
section
/-! The logic of runs of X over the cells that the law makes (S0). -/
def xCf (n d : Nat) : Nat → List Value → XS → XO := fun y' args σ' => match d with
  | 0 => none
  | d' + 1 => xrun xK0 n d' y' 0 (lv_args 0 args) [] σ'
theorem xbr_up {c : ClassFile.Cond} {a b : Int32} {t f t' f' : XO} {z : XR × XS} (ht : t = some z → t' = some z) (hf : f = some z → f' = some z) (h : xbr c a b t f = some z) : xbr c a b t' f' = some z := by
  unfold xbr at h ⊢
  cases c <;> dsimp only at h ⊢ <;> split at h <;> rename_i hc <;> first
    | (rw [if_pos hc]; first | exact ht h | exact hf h)
    | (rw [if_neg hc]; first | exact ht h | exact hf h)
theorem xcall_up {C C' : Nat → List Value → XS → XO} {hd : List (Nat × Nat × Nat)} {J J' : Nat → XL → List Value → XS → XO} {y : Nat} {ls : XL} {st : List Value} {σ : XS} {z : XR × XS} {k k' : List Value → XS → XO}
    (hJ : ∀ (L : Nat) (ls : XL) (st : List Value) (σ : XS), J L ls st σ = some z → J' L ls st σ = some z) (hC : ∀ (y : Nat) (args : List Value) (σ : XS) (z : XR × XS), C y args σ = some z → C' y args σ = some z)
    (hk : ∀ (st : List Value) (σ : XS), k st σ = some z → k' st σ = some z) (h : xcall C hd J y ls st σ k = some z) : xcall C' hd J' y ls st σ k' = some z := by
  unfold xcall at h ⊢
  split at h
  · cases h
  · rename_i na ml rc a4 a5 a6 hm
    try rw [hm]
    try dsimp only
    split at h
    · rename_i hc
      rw [if_pos hc]
      split at h
      · cases h
      · rename_i v σ' hq
        rw [hC _ _ _ _ hq]
        dsimp only
        split at h
        · rename_i h9
          rw [if_pos h9]; exact hk _ _ h
        · cases h
      · rename_i E σ' hq
        rw [hC _ _ _ _ hq]
        dsimp only
        split at h
        · rename_i x L xx hf
          try rw [hf]
          try dsimp only
          split at h
          · rename_i h9
            rw [if_pos h9]; exact hJ _ _ _ _ h
          · cases h
        · rename_i hf
          try rw [hf]
          try dsimp only
          exact h
    · cases h
set_option maxHeartbeats 4000000 in
theorem xblk_up {K : XK} {rt : Nat} {hd : List (Nat × Nat × Nat)} {J J' : Nat → XL → List Value → XS → XO} {C C' : Nat → List Value → XS → XO} {z : XR × XS}
    (hJ : ∀ (L : Nat) (ls : XL) (st : List Value) (σ : XS), J L ls st σ = some z → J' L ls st σ = some z) (hC : ∀ (y : Nat) (args : List Value) (σ : XS) (z : XR × XS), C y args σ = some z → C' y args σ = some z) :
    ∀ (is : List Instr) (ls : XL) (st : List Value) (σ : XS), xblk K rt hd J C is ls st σ = some z → xblk K rt hd J' C' is ls st σ = some z := by
  intro is
  induction is with
  | nil => intro ls st σ h; cases h
  | cons i is ih =>
    intro ls st σ h
    cases i
    case goto L => exact hJ _ _ _ _ h
    case goto_w L => exact hJ _ _ _ _ h
    case ifCond c L =>
      cases st with
      | nil => cases h
      | cons v r => cases v <;> first | (cases h; done) | exact xbr_up (hJ _ _ _ _) (ih _ _ _) h
    case if_icmp c L =>
      cases st with
      | nil => cases h
      | cons v r => cases v <;> first | (cases h; done) | skip
                    cases r with
                    | nil => cases h
                    | cons u r => cases u <;> first | (cases h; done) | exact xbr_up (hJ _ _ _ _) (ih _ _ _) h
    case ifnull L =>
      cases st with
      | nil => cases h
      | cons v r => cases v <;> first | (cases h; done) | exact ih _ _ _ h
    case tableswitch d lo hi offs =>
      cases st with
      | nil => cases h
      | cons v r =>
        cases v <;> first | (cases h; done) | skip
        unfold xblk at h ⊢
        dsimp only at h ⊢
        split at h
        · rename_i hc
          rw [if_pos hc]
          split at h
          · rename_i hL
            try rw [hL]
            exact hJ _ _ _ _ h
          · cases h
        · rename_i hc
          rw [if_neg hc]; exact hJ _ _ _ _ h
    case lookupswitch d ps =>
      cases st with
      | nil => cases h
      | cons v r =>
        cases v <;> first | (cases h; done) | skip
        unfold xblk at h ⊢
        dsimp only at h ⊢
        split at h
        · rename_i hL
          try rw [hL]
          exact hJ _ _ _ _ h
        · rename_i hL
          try rw [hL]
          exact hJ _ _ _ _ h
    case ireturn => exact h
    case lreturn => exact h
    case freturn => exact h
    case dreturn => exact h
    case areturn => exact h
    case return_ => exact h
    case checkcast E => exact h
    case invokevirtual y => exact xcall_up hJ hC (fun st σ h => ih _ _ _ h) h
    case invokespecial y => exact xcall_up hJ hC (fun st σ h => ih _ _ _ h) h
    case invokestatic y => exact xcall_up hJ hC (fun st σ h => ih _ _ _ h) h
    all_goals
      unfold xblk at h ⊢
      dsimp only at h ⊢
      split at h
      · rename_i hq
        try rw [hq]
        exact ih _ _ _ h
      · cases h
theorem xrun_up {z : XR × XS} : ∀ (n : Nat) (K : XK) (d d' y L : Nat) (ls : XL) (st : List Value) (σ : XS), d ≤ d' → xrun K n d y L ls st σ = some z → xrun K (n + 1) d' y L ls st σ = some z := by
  suffices H : ∀ (n : Nat) (z : XR × XS) (K : XK) (d d' y L : Nat) (ls : XL) (st : List Value) (σ : XS), d ≤ d' → xrun K n d y L ls st σ = some z → xrun K (n + 1) d' y L ls st σ = some z from fun n => H n z
  intro n
  induction n with
  | zero => intro z K d d' y L ls st σ _ h; cases h
  | succ n ih =>
    intro z K d d' y L ls st σ hd h
    unfold xrun at h ⊢
    split at h
    · cases h
    · rename_i hm
      try rw [hm]
      try dsimp only
      split at h
      · cases h
      · rename_i hb
        try rw [hb]
        try dsimp only
        refine xblk_up (fun L ls st σ h => ih _ _ _ _ _ _ _ _ _ hd h) ?_ _ _ _ _ h
        intro y' args σ' z' h'
        cases d with
        | zero => cases h'
        | succ d0 =>
          cases d' with
          | zero => omega
          | succ d1 => exact ih _ _ _ _ _ _ _ _ _ (by omega) h'
theorem xrun_le {z : XR × XS} {n n' : Nat} {K : XK} {d d' y L : Nat} {ls : XL} {st : List Value} {σ : XS} (hd : d ≤ d') (hn : n < n') (h : xrun K n d y L ls st σ = some z) : xrun K n' d' y L ls st σ = some z := by
  obtain ⟨k, rfl⟩ := Nat.exists_eq_add_of_le (show n + 1 ≤ n' by omega)
  clear hn
  induction k with
  | zero => exact xrun_up _ _ _ _ _ _ _ _ _ hd h
  | succ k ih => exact xrun_up _ _ _ _ _ _ _ _ _ (Nat.le_refl _) ih
end
section
/-! The logic of runs of X over the cells that the law makes (S0). Written by program: wip/whole/mkxl.py. -/
def S0 : List XC := [(10, 8, [some 1, some 29, some 49, some 69, some 74, some 278, some 281, none]), (3, 5, [some 2, some 4, some 24, none, none]), (9, 7, [some 3, none, none, none, none, none, none]), (20, 700, []), (8, 9, [none, none, none, none, some 5, some 6, some 7, some 16, some 20]), (20, 6, []), (20, 6, []), (7, 9, [none, some 8, some 9, some 10, some 11, some 12, some 13, some 14, some 15]), (20, 12, []), (20, 12, []), (20, 12, []), (20, 12, []), (20, 12, []), (20, 12, []), (20, 12, []), (20, 12, []), (1, 4, [none, some 17, some 18, some 19]), (20, 12, []), (20, 12, []), (20, 12, []), (4, 4, [none, some 21, some 22, some 23]), (20, 12, []), (20, 12, []), (20, 12, []), (6, 5, [none, some 25, some 26, some 27, some 28]), (20, 6, []), (20, 6, []), (20, 6, []), (20, 48, []), (8, 9, [none, none, none, none, some 30, some 31, some 32, some 41, some 45]), (20, 6, []), (20, 6, []), (7, 9, [none, some 33, some 34, some 35, some 36, some 37, some 38, some 39, some 40]), (20, 12, []), (20, 12, []), (20, 12, []), (20, 12, []), (20, 12, []), (20, 12, []), (20, 12, []), (20, 12, []), (1, 4, [none, some 42, some 43, some 44]), (20, 12, []), (20, 12, []), (20, 12, []), (4, 4, [none, some 46, some 47, some 48]), (20, 12, []), (20, 12, []), (20, 12, []), (8, 9, [none, none, none, none, some 50, some 51, some 52, some 61, some 65]), (20, 6, []), (20, 6, []), (7, 9, [none, some 53, some 54, some 55, some 56, some 57, some 58, some 59, some 60]), (20, 12, []), (20, 12, []), (20, 12, []), (20, 12, []), (20, 12, []), (20, 12, []), (20, 12, []), (20, 12, []), (1, 4, [none, some 62, some 63, some 64]), (20, 12, []), (20, 12, []), (20, 12, []), (4, 4, [none, some 66, some 67, some 68]), (20, 12, []), (20, 12, []), (20, 12, []), (6, 5, [none, some 70, some 71, some 72, some 73]), (20, 6, []), (20, 6, []), (20, 6, []), (20, 48, []), (2, 5, [none, none, some 75, some 76, some 77]), (25, 8, [some 78, some 98, some 118, some 138, some 158, some 178, some 198, some 218]), (25, 2, [some 238, some 258]), (22, 2, []), (8, 9, [none, none, none, none, some 79, some 80, some 81, some 90, some 94]), (20, 6, []), (20, 6, []), (7, 9, [none, some 82, some 83, some 84, some 85, some 86, some 87, some 88, some 89]), (20, 12, []), (20, 12, []), (20, 12, []), (20, 12, []), (20, 12, []), (20, 12, []), (20, 12, []), (20, 12, []), (1, 4, [none, some 91, some 92, some 93]), (20, 12, []), (20, 12, []), (20, 12, []), (4, 4, [none, some 95, some 96, some 97]), (20, 12, []), (20, 12, []), (20, 12, []), (8, 9, [none, none, none, none, some 99, some 100, some 101, some 110, some 114]), (20, 6, []), (20, 6, []), (7, 9, [none, some 102, some 103, some 104, some 105, some 106, some 107, some 108, some 109]), (20, 12, []), (20, 12, []), (20, 12, []), (20, 12, []), (20, 12, []), (20, 12, []), (20, 12, []), (20, 12, []), (1, 4, [none, some 111, some 112, some 113]), (20, 12, []), (20, 12, []), (20, 12, []), (4, 4, [none, some 115, some 116, some 117]), (20, 12, []), (20, 12, []), (20, 12, []), (8, 9, [none, none, none, none, some 119, some 120, some 121, some 130, some 134]), (20, 6, []), (20, 6, []), (7, 9, [none, some 122, some 123, some 124, some 125, some 126, some 127, some 128, some 129]), (20, 12, []), (20, 12, []), (20, 12, []), (20, 12, []), (20, 12, []), (20, 12, []), (20, 12, []), (20, 12, []), (1, 4, [none, some 131, some 132, some 133]), (20, 12, []), (20, 12, []), (20, 12, []), (4, 4, [none, some 135, some 136, some 137]), (20, 12, []), (20, 12, []), (20, 12, []), (8, 9, [none, none, none, none, some 139, some 140, some 141, some 150, some 154]), (20, 6, []), (20, 6, []), (7, 9, [none, some 142, some 143, some 144, some 145, some 146, some 147, some 148, some 149]), (20, 12, []), (20, 12, []), (20, 12, []), (20, 12, []), (20, 12, []), (20, 12, []), (20, 12, []), (20, 12, []), (1, 4, [none, some 151, some 152, some 153]), (20, 12, []), (20, 12, []), (20, 12, []), (4, 4, [none, some 155, some 156, some 157]), (20, 12, []), (20, 12, []), (20, 12, []), (8, 9, [none, none, none, none, some 159, some 160, some 161, some 170, some 174]), (20, 6, []), (20, 6, []), (7, 9, [none, some 162, some 163, some 164, some 165, some 166, some 167, some 168, some 169]), (20, 12, []), (20, 12, []), (20, 12, []), (20, 12, []), (20, 12, []), (20, 12, []), (20, 12, []), (20, 12, []), (1, 4, [none, some 171, some 172, some 173]), (20, 12, []), (20, 12, []), (20, 12, []), (4, 4, [none, some 175, some 176, some 177]), (20, 12, []), (20, 12, []), (20, 12, []), (8, 9, [none, none, none, none, some 179, some 180, some 181, some 190, some 194]), (20, 6, []), (20, 6, []), (7, 9, [none, some 182, some 183, some 184, some 185, some 186, some 187, some 188, some 189]), (20, 12, []), (20, 12, []), (20, 12, []), (20, 12, []), (20, 12, []), (20, 12, []), (20, 12, []), (20, 12, []), (1, 4, [none, some 191, some 192, some 193]), (20, 12, []), (20, 12, []), (20, 12, []), (4, 4, [none, some 195, some 196, some 197]), (20, 12, []), (20, 12, []), (20, 12, []), (8, 9, [none, none, none, none, some 199, some 200, some 201, some 210, some 214]), (20, 6, []), (20, 6, []), (7, 9, [none, some 202, some 203, some 204, some 205, some 206, some 207, some 208, some 209]), (20, 12, []), (20, 12, []), (20, 12, []), (20, 12, []), (20, 12, []), (20, 12, []), (20, 12, []), (20, 12, []), (1, 4, [none, some 211, some 212, some 213]), (20, 12, []), (20, 12, []), (20, 12, []), (4, 4, [none, some 215, some 216, some 217]), (20, 12, []), (20, 12, []), (20, 12, []), (8, 9, [none, none, none, none, some 219, some 220, some 221, some 230, some 234]), (20, 6, []), (20, 6, []), (7, 9, [none, some 222, some 223, some 224, some 225, some 226, some 227, some 228, some 229]), (20, 12, []), (20, 12, []), (20, 12, []), (20, 12, []), (20, 12, []), (20, 12, []), (20, 12, []), (20, 12, []), (1, 4, [none, some 231, some 232, some 233]), (20, 12, []), (20, 12, []), (20, 12, []), (4, 4, [none, some 235, some 236, some 237]), (20, 12, []), (20, 12, []), (20, 12, []), (8, 9, [none, none, none, none, some 239, some 240, some 241, some 250, some 254]), (20, 6, []), (20, 6, []), (7, 9, [none, some 242, some 243, some 244, some 245, some 246, some 247, some 248, some 249]), (20, 12, []), (20, 12, []), (20, 12, []), (20, 12, []), (20, 12, []), (20, 12, []), (20, 12, []), (20, 12, []), (1, 4, [none, some 251, some 252, some 253]), (20, 12, []), (20, 12, []), (20, 12, []), (4, 4, [none, some 255, some 256, some 257]), (20, 12, []), (20, 12, []), (20, 12, []), (8, 9, [none, none, none, none, some 259, some 260, some 261, some 270, some 274]), (20, 6, []), (20, 6, []), (7, 9, [none, some 262, some 263, some 264, some 265, some 266, some 267, some 268, some 269]), (20, 12, []), (20, 12, []), (20, 12, []), (20, 12, []), (20, 12, []), (20, 12, []), (20, 12, []), (20, 12, []), (1, 4, [none, some 271, some 272, some 273]), (20, 12, []), (20, 12, []), (20, 12, []), (4, 4, [none, some 275, some 276, some 277]), (20, 12, []), (20, 12, []), (20, 12, []), (5, 4, [none, none, some 279, some 280]), (20, 24, []), (20, 12, []), (0, 2, [none, some 282]), (20, 128, []), (11, 22, [none, some 284, some 285, some 286, some 287, some 288, none, none, some 289, none, none, none, none, none, none, none, none, some 290, none, some 291, some 292, none]), (20, 243, []), (20, 243, []), (20, 1944, []), (20, 486, []), (22, 2, []), (21, 700, []), (20, 24, []), (20, 12, []), (21, 120, []), (23, 1, []), (24, 1, [])]
end
section
/-! What a method takes and returns, by rows of twenty (written by program: wip/whole/mksg.py). -/
def sgT : List (List (Nat × Nat × Nat × Nat)) := [[(1, 1, 0, 0), (2, 2, 0, 0), (2, 6, 0, 0), (1, 1, 1, 0), (2, 2, 1, 0), (4, 4, 1, 0), (2, 3, 1, 0), (3, 5, 1, 1), (3, 6, 1, 1), (2, 4, 1, 1), (1, 2, 2, 0), (1, 1, 2, 0), (1, 2, 2, 0), (2, 2, 2, 0), (2, 2, 2, 0), (3, 3, 2, 0), (3, 3, 2, 0), (2, 2, 99, 0), (1, 1, 3, 0), (2, 3, 3, 2)], [(2, 2, 3, 2), (1, 2, 3, 2), (1, 1, 3, 2), (1, 3, 3, 2), (1, 4, 3, 2), (1, 2, 3, 2), (3, 3, 3, 2), (1, 1, 4, 0), (2, 2, 4, 0), (3, 3, 4, 0), (2, 4, 4, 1), (1, 3, 4, 1), (1, 1, 5, 0), (4, 7, 5, 0), (4, 4, 5, 0), (2, 2, 5, 1), (2, 2, 5, 1), (3, 5, 5, 1), (3, 5, 5, 1), (3, 3, 5, 2)], [(3, 4, 5, 6), (1, 1, 6, 0), (2, 2, 6, 0), (3, 3, 6, 0), (2, 3, 6, 0), (3, 3, 6, 1), (3, 5, 6, 1), (1, 1, 7, 0), (2, 2, 7, 0), (5, 5, 7, 0), (2, 2, 7, 1), (2, 2, 7, 1), (3, 3, 7, 0), (2, 3, 7, 0), (3, 5, 7, 0), (1, 3, 7, 1), (2, 4, 7, 1), (1, 3, 7, 1), (2, 4, 7, 1), (1, 3, 7, 1)], [(1, 3, 7, 1), (1, 1, 7, 7), (2, 4, 7, 1), (2, 4, 7, 1), (2, 4, 7, 1), (2, 4, 7, 1), (2, 5, 7, 1), (1, 1, 8, 0), (2, 2, 8, 0), (1, 2, 8, 0), (1, 1, 8, 0), (1, 3, 8, 0), (1, 2, 8, 0), (1, 2, 8, 0), (2, 2, 8, 2), (2, 2, 8, 0), (2, 2, 8, 0), (2, 2, 8, 2), (3, 3, 8, 0), (3, 3, 8, 2)], [(1, 1, 9, 0), (6, 6, 9, 1), (2, 3, 9, 0), (2, 2, 9, 0), (1, 1, 9, 0), (1, 1, 9, 0), (1, 1, 9, 0), (1, 1, 9, 1), (2, 3, 9, 1), (2, 3, 9, 2), (1, 1, 10, 0), (6, 6, 10, 1), (2, 3, 10, 1), (1, 1, 10, 1), (1, 1, 10, 1), (1, 1, 10, 1), (2, 2, 10, 1), (2, 2, 10, 1), (3, 4, 10, 1), (3, 4, 10, 1)], [(3, 4, 10, 1), (3, 4, 10, 1), (3, 3, 10, 1), (3, 3, 10, 1), (2, 2, 10, 1), (2, 2, 10, 1), (2, 2, 10, 2), (2, 2, 10, 6), (2, 2, 10, 1), (2, 4, 10, 1), (3, 3, 10, 1), (2, 3, 10, 1), (2, 2, 10, 1), (2, 3, 10, 1), (2, 2, 10, 1), (2, 2, 10, 1), (1, 3, 10, 1), (1, 1, 10, 1), (3, 3, 10, 1), (1, 5, 10, 1)], [(1, 1, 10, 1), (1, 3, 10, 1), (1, 3, 10, 1), (1, 2, 10, 1), (1, 1, 10, 7), (1, 1, 10, 5), (2, 3, 10, 1), (2, 4, 10, 1), (3, 3, 10, 1), (3, 3, 10, 1), (3, 3, 10, 1), (2, 2, 10, 1), (1, 1, 10, 1), (3, 3, 10, 6), (3, 6, 10, 6), (2, 6, 10, 1), (2, 4, 10, 1), (1, 2, 10, 1), (2, 4, 10, 1), (1, 3, 10, 1)], [(1, 2, 10, 1), (2, 2, 10, 1), (2, 4, 10, 1), (2, 2, 10, 1), (2, 2, 10, 1), (2, 3, 10, 1), (3, 3, 10, 1), (2, 3, 10, 1), (3, 4, 10, 1), (3, 3, 10, 1), (3, 4, 10, 1), (1, 1, 10, 1), (1, 1, 10, 1), (2, 2, 10, 1), (2, 2, 10, 1), (1, 1, 10, 0), (2, 2, 10, 0), (2, 2, 10, 0), (2, 2, 99, 0), (3, 3, 99, 0)], [(1, 1, 99, 0), (2, 2, 10, 8), (2, 2, 10, 8), (2, 3, 10, 0), (2, 3, 10, 1), (1, 2, 10, 0), (1, 3, 10, 1), (1, 3, 10, 1), (2, 4, 10, 1), (2, 4, 10, 1), (1, 4, 99, 1), (1, 7, 99, 5), (2, 3, 99, 0), (1, 1, 11, 0), (1, 1, 11, 1), (3, 3, 99, 2), (4, 4, 11, 2), (3, 3, 11, 2), (4, 5, 99, 0), (6, 6, 11, 1)], [(2, 3, 11, 0), (1, 1, 11, 1), (1, 1, 11, 1), (1, 1, 11, 1), (2, 2, 11, 2), (2, 2, 11, 2), (1, 1, 11, 0), (2, 2, 11, 0), (2, 2, 11, 2), (2, 3, 11, 2), (2, 2, 11, 0), (3, 4, 11, 1), (1, 1, 99, 1), (1, 1, 99, 1), (3, 3, 11, 2), (1, 2, 11, 1), (1, 3, 11, 0), (1, 4, 11, 0), (1, 3, 11, 0), (3, 4, 11, 0)], [(1, 2, 11, 0), (2, 3, 11, 1), (3, 3, 11, 1), (4, 4, 11, 0), (3, 3, 11, 1), (4, 4, 11, 0), (3, 3, 11, 1), (3, 3, 11, 1), (2, 2, 11, 2), (2, 2, 11, 2), (2, 2, 11, 1), (2, 2, 11, 1), (3, 3, 11, 0), (2, 3, 11, 0), (3, 4, 11, 0), (3, 5, 11, 1), (2, 3, 11, 2), (2, 3, 11, 0), (2, 2, 11, 0), (3, 3, 11, 2)], [(2, 6, 11, 0), (2, 2, 11, 0), (2, 4, 11, 1), (2, 2, 11, 2), (2, 3, 11, 6), (1, 3, 11, 0), (2, 5, 11, 0), (2, 3, 11, 0), (1, 2, 11, 0), (2, 3, 11, 0), (1, 3, 11, 1), (1, 3, 11, 1), (1, 3, 11, 1), (1, 3, 11, 1), (1, 3, 11, 1), (1, 3, 11, 1), (1, 3, 11, 1), (1, 3, 11, 1), (1, 3, 11, 1), (2, 2, 11, 1)], [(2, 2, 11, 1), (2, 2, 11, 2), (2, 2, 11, 2), (3, 3, 11, 2), (2, 4, 11, 1), (2, 4, 11, 1), (3, 3, 11, 1), (2, 4, 11, 1), (1, 3, 99, 1), (2, 2, 11, 1), (2, 5, 11, 1), (2, 4, 11, 1), (2, 4, 11, 1), (3, 3, 11, 1), (3, 3, 11, 1), (3, 3, 11, 1), (3, 3, 11, 1), (3, 3, 11, 1), (2, 2, 11, 1), (2, 2, 11, 1)], [(2, 2, 11, 2), (3, 6, 11, 1), (3, 3, 11, 1), (2, 4, 11, 1), (2, 3, 11, 1), (2, 2, 11, 2), (2, 3, 11, 1), (2, 4, 11, 1), (2, 4, 11, 1), (1, 3, 11, 1), (1, 3, 11, 1), (3, 5, 11, 1), (2, 2, 11, 6), (2, 2, 11, 1), (2, 6, 11, 1), (1, 1, 11, 2), (1, 3, 11, 1), (1, 1, 11, 1), (1, 3, 11, 1), (1, 3, 11, 1)], [(1, 1, 11, 1), (1, 3, 11, 7), (1, 1, 11, 7), (1, 1, 11, 5), (1, 1, 11, 0), (2, 2, 11, 1), (2, 2, 11, 6), (2, 3, 11, 1), (2, 4, 11, 2), (2, 3, 11, 1), (1, 1, 99, 2), (4, 4, 11, 1), (3, 3, 11, 1), (3, 3, 11, 1), (3, 3, 11, 1), (2, 2, 11, 1), (1, 2, 11, 1), (3, 3, 11, 2), (3, 3, 11, 6), (3, 5, 11, 6)], [(2, 6, 11, 1), (2, 3, 11, 1), (1, 4, 11, 1), (2, 2, 11, 0), (2, 2, 11, 0), (2, 3, 11, 1), (1, 2, 11, 1), (1, 2, 11, 1), (2, 2, 11, 1), (1, 2, 11, 0), (2, 3, 11, 1), (2, 3, 11, 1), (2, 3, 11, 1), (2, 4, 11, 1), (3, 3, 11, 1), (2, 4, 11, 1), (3, 4, 11, 1), (3, 3, 11, 1), (3, 4, 11, 1), (1, 1, 11, 1)], [(1, 1, 11, 1), (2, 2, 11, 1), (2, 3, 11, 1), (3, 4, 99, 1), (3, 4, 99, 1), (3, 4, 99, 1), (4, 5, 99, 1), (4, 5, 99, 1), (4, 5, 99, 1), (4, 5, 99, 1), (4, 5, 99, 1), (4, 5, 99, 1), (3, 4, 99, 1), (3, 4, 99, 1), (3, 4, 99, 1), (3, 4, 99, 1), (3, 4, 99, 1), (3, 4, 99, 1), (4, 5, 99, 1), (3, 4, 99, 1)], [(3, 4, 99, 1), (3, 4, 99, 1), (3, 4, 99, 1), (3, 4, 99, 1), (2, 3, 99, 1), (2, 3, 99, 1), (4, 5, 99, 1), (2, 3, 99, 1), (2, 3, 99, 1), (2, 3, 99, 1), (2, 3, 99, 1), (2, 3, 99, 1), (2, 3, 99, 1), (2, 3, 99, 1), (3, 4, 99, 1), (3, 4, 99, 1), (4, 5, 99, 1), (4, 5, 99, 1), (4, 5, 99, 1), (3, 4, 99, 1)], [(2, 3, 99, 1), (4, 5, 99, 1), (4, 5, 99, 1), (3, 4, 99, 1), (3, 4, 99, 1), (2, 3, 99, 1), (3, 4, 99, 1), (2, 3, 99, 1), (2, 3, 99, 1), (3, 4, 99, 1), (3, 4, 99, 1), (3, 4, 99, 1), (3, 4, 99, 1), (3, 4, 99, 1), (4, 5, 99, 1), (3, 4, 99, 1), (4, 5, 99, 1), (4, 5, 99, 1), (4, 5, 99, 1), (2, 3, 99, 1)], [(3, 4, 99, 1), (3, 4, 99, 1), (1, 9, 99, 2), (1, 1, 99, 1), (1, 1, 99, 1), (2, 2, 99, 1), (2, 2, 99, 1), (1, 1, 99, 2), (1, 1, 99, 1), (1, 2, 99, 2), (1, 2, 99, 5), (1, 1, 30, 1), (2, 2, 30, 4), (1, 1, 30, 3), (1, 1, 30, 2), (2, 2, 99, 0), (2, 2, 99, 4), (3, 3, 99, 1)]]
def sg (y : Nat) : Nat × Nat × Nat × Nat := (sgT.getD (y / 20) []).getD (y % 20) (0, 0, 0, 0)
def xmc0 : List XT := [xM0, xM1, xM2, xM3, xM4, xM5, xM6, xM7, xM8, xM9, xM10, xM11, xM12, xM13, xM14, xM15, xM16, xM17, xM18, xM19]
def xmc1 : List XT := [xM20, xM21, xM22, xM23, xM24, xM25, xM26, xM27, xM28, xM29, xM30, xM31, xM32, xM33, xM34, xM35, xM36, xM37, xM38, xM39]
def xmc2 : List XT := [xM40, xM41, xM42, xM43, xM44, xM45, xM46, xM47, xM48, xM49, xM50, xM51, xM52, xM53, xM54, xM55, xM56, xM57, xM58, xM59]
def xmc3 : List XT := [xM60, xM61, xM62, xM63, xM64, xM65, xM66, xM67, xM68, xM69, xM70, xM71, xM72, xM73, xM74, xM75, xM76, xM77, xM78, xM79]
def xmc4 : List XT := [xM80, xM81, xM82, xM83, xM84, xM85, xM86, xM87, xM88, xM89, xM90, xM91, xM92, xM93, xM94, xM95, xM96, xM97, xM98, xM99]
def xmc5 : List XT := [xM100, xM101, xM102, xM103, xM104, xM105, xM106, xM107, xM108, xM109, xM110, xM111, xM112, xM113, xM114, xM115, xM116, xM117, xM118, xM119]
def xmc6 : List XT := [xM120, xM121, xM122, xM123, xM124, xM125, xM126, xM127, xM128, xM129, xM130, xM131, xM132, xM133, xM134, xM135, xM136, xM137, xM138, xM139]
def xmc7 : List XT := [xM140, xM141, xM142, xM143, xM144, xM145, xM146, xM147, xM148, xM149, xM150, xM151, xM152, xM153, xM154, xM155, xM156, xM157, xM158, xM159]
def xmc8 : List XT := [xM160, xM161, xM162, xM163, xM164, xM165, xM166, xM167, xM168, xM169, xM170, xM171, xM172, xM173, xM174, xM175, xM176, xM177, xM178, xM179]
def xmc9 : List XT := [xM180, xM181, xM182, xM183, xM184, xM185, xM186, xM187, xM188, xM189, xM190, xM191, xM192, xM193, xM194, xM195, xM196, xM197, xM198, xM199]
def xmc10 : List XT := [xM200, xM201, xM202, xM203, xM204, xM205, xM206, xM207, xM208, xM209, xM210, xM211, xM212, xM213, xM214, xM215, xM216, xM217, xM218, xM219]
def xmc11 : List XT := [xM220, xM221, xM222, xM223, xM224, xM225, xM226, xM227, xM228, xM229, xM230, xM231, xM232, xM233, xM234, xM235, xM236, xM237, xM238, xM239]
def xmc12 : List XT := [xM240, xM241, xM242, xM243, xM244, xM245, xM246, xM247, xM248, xM249, xM250, xM251, xM252, xM253, xM254, xM255, xM256, xM257, xM258, xM259]
def xmc13 : List XT := [xM260, xM261, xM262, xM263, xM264, xM265, xM266, xM267, xM268, xM269, xM270, xM271, xM272, xM273, xM274, xM275, xM276, xM277, xM278, xM279]
def xmc14 : List XT := [xM280, xM281, xM282, xM283, xM284, xM285, xM286, xM287, xM288, xM289, xM290, xM291, xM292, xM293, xM294, xM295, xM296, xM297, xM298, xM299]
def xmc15 : List XT := [xM300, xM301, xM302, xM303, xM304, xM305, xM306, xM307, xM308, xM309, xM310, xM311, xM312, xM313, xM314, xM315, xM316, xM317, xM318, xM319]
def xmc16 : List XT := [xM320, xM321, xM322, xM323, xM324, xM325, xM326, xM327, xM328, xM329, xM330, xM331, xM332, xM333, xM334, xM335, xM336, xM337, xM338, xM339]
def xmc17 : List XT := [xM340, xM341, xM342, xM343, xM344, xM345, xM346, xM347, xM348, xM349, xM350, xM351, xM352, xM353, xM354, xM355, xM356, xM357, xM358, xM359]
def xmc18 : List XT := [xM360, xM361, xM362, xM363, xM364, xM365, xM366, xM367, xM368, xM369, xM370, xM371, xM372, xM373, xM374, xM375, xM376, xM377, xM378, xM379]
def xmc19 : List XT := [xM380, xM381, xM382, xM383, xM384, xM385, xM386, xM387, xM388, xM389, xM390, xM391, xM392, xM393, xM394, xM395, xM396, xM397]
def xmC : List (List XT) := [xmc0, xmc1, xmc2, xmc3, xmc4, xmc5, xmc6, xmc7, xmc8, xmc9, xmc10, xmc11, xmc12, xmc13, xmc14, xmc15, xmc16, xmc17, xmc18, xmc19]
set_option maxRecDepth 100000 in
theorem xmts_C : xmts = xmC.flatten := rfl
theorem flat_at {α : Type} : ∀ (l : List (List α)) (q r : Nat) (z : α), (∀ j, j + 1 < l.length → (l.getD j []).length = 20) → r < 20 → (l.getD q [])[r]? = some z → l.flatten[20 * q + r]? = some z := by
  intro l
  induction l with
  | nil => intro q r z _ _ h; simp at h
  | cons c t ih =>
    intro q r z hl hr h
    cases q with
    | zero =>
      rw [List.flatten_cons, List.getElem?_append_left]
      · rw [Nat.mul_zero, Nat.zero_add]; exact h
      · have := (List.getElem?_eq_some_iff.mp h).1
        rw [Nat.mul_zero, Nat.zero_add]; exact this
    | succ q =>
      have ht : t ≠ [] := by
        rintro rfl
        simp at h
      have hc : c.length = 20 := hl 0 (by cases t with | nil => exact absurd rfl ht | cons a b => simp)
      rw [List.flatten_cons, List.getElem?_append_right (by omega)]
      rw [show 20 * (q + 1) + r - c.length = 20 * q + r by omega]
      exact ih q r z (fun j hj => by have := hl (j + 1) (by rw [List.length_cons]; omega); exact this) hr h
theorem xmC_len : ((List.range 19).all fun j => (xmC.getD j []).length == 20) = true := by decide +kernel
theorem xmt_at {q r : Nat} {z : XT} (hr : Nat.blt r 20 = true) (h : (xmC.getD q [])[r]? = some z) : xmt (20 * q + r) = some z := by
  unfold xmt
  rw [xmts_C]
  refine flat_at xmC q r z ?_ (by rw [Nat.blt_eq] at hr; exact hr) h
  intro j hj
  have := List.all_eq_true.mp xmC_len j (List.mem_range.mpr (by
    have : xmC.length = 20 := rfl
    omega))
  simpa using this
theorem xmt_len : xmts.length = 398 := by decide +kernel
theorem sg_all : ((List.range 398).all fun y => (xmt y).map (fun z => (z.1, z.2.1, z.2.2.1, z.2.2.2.1)) == some (sg y)) = true := by decide +kernel
theorem sg_of {y : Nat} {z : XT} (h : xmt y = some z) : sg y = (z.1, z.2.1, z.2.2.1, z.2.2.2.1) := by
  have hy : y < 398 := by
    rw [← xmt_len]
    exact (List.getElem?_eq_some_iff.mp h).1
  have := List.all_eq_true.mp sg_all y (List.mem_range.mpr hy)
  rw [h] at this
  simpa using (beq_iff_eq.mp this).symm
theorem sg_some {y : Nat} (h : Nat.blt y 398 = true) : ∃ (hd : List (Nat × Nat × Nat)) (bs : List XB), xmt y = some ((sg y).1, (sg y).2.1, (sg y).2.2.1, (sg y).2.2.2, hd, bs) := by
  have hy : y < 398 := by rw [Nat.blt_eq] at h; exact h
  cases hm : xmt y with
  | none =>
    have := List.all_eq_true.mp sg_all y (List.mem_range.mpr hy)
    rw [hm] at this
    simp at this
  | some z =>
    have := sg_of hm
    obtain ⟨a, b, c, d, e, f⟩ := z
    rw [this]
    exact ⟨e, f, rfl⟩
end
section
/-! The blocks of X, one by one (written by program: wip/whole/mkw.py). -/
theorem km1 : xmt 1 = some (2, 2, 0, 0, [], xM1.2.2.2.2.2) := xmt_at (q := 0) (r := 1) rfl rfl
theorem km2 : xmt 2 = some (2, 6, 0, 0, [], xM2.2.2.2.2.2) := xmt_at (q := 0) (r := 2) rfl rfl
theorem km4 : xmt 4 = some (2, 2, 1, 0, [], xM4.2.2.2.2.2) := xmt_at (q := 0) (r := 4) rfl rfl
theorem km5 : xmt 5 = some (4, 4, 1, 0, [], xM5.2.2.2.2.2) := xmt_at (q := 0) (r := 5) rfl rfl
theorem km6 : xmt 6 = some (2, 3, 1, 0, [], xM6.2.2.2.2.2) := xmt_at (q := 0) (r := 6) rfl rfl
theorem km7 : xmt 7 = some (3, 5, 1, 1, [], xM7.2.2.2.2.2) := xmt_at (q := 0) (r := 7) rfl rfl
theorem km8 : xmt 8 = some (3, 6, 1, 1, [], xM8.2.2.2.2.2) := xmt_at (q := 0) (r := 8) rfl rfl
theorem km9 : xmt 9 = some (2, 4, 1, 1, [], xM9.2.2.2.2.2) := xmt_at (q := 0) (r := 9) rfl rfl
theorem km11 : xmt 11 = some (1, 1, 2, 0, [], xM11.2.2.2.2.2) := xmt_at (q := 0) (r := 11) rfl rfl
theorem km12 : xmt 12 = some (1, 2, 2, 0, [], xM12.2.2.2.2.2) := xmt_at (q := 0) (r := 12) rfl rfl
theorem km13 : xmt 13 = some (2, 2, 2, 0, [], xM13.2.2.2.2.2) := xmt_at (q := 0) (r := 13) rfl rfl
theorem km14 : xmt 14 = some (2, 2, 2, 0, [], xM14.2.2.2.2.2) := xmt_at (q := 0) (r := 14) rfl rfl
theorem km15 : xmt 15 = some (3, 3, 2, 0, [], xM15.2.2.2.2.2) := xmt_at (q := 0) (r := 15) rfl rfl
theorem km16 : xmt 16 = some (3, 3, 2, 0, [], xM16.2.2.2.2.2) := xmt_at (q := 0) (r := 16) rfl rfl
theorem km17 : xmt 17 = some (2, 2, 99, 0, [], xM17.2.2.2.2.2) := xmt_at (q := 0) (r := 17) rfl rfl
theorem km19 : xmt 19 = some (2, 3, 3, 2, [], xM19.2.2.2.2.2) := xmt_at (q := 0) (r := 19) rfl rfl
theorem km20 : xmt 20 = some (2, 2, 3, 2, [], xM20.2.2.2.2.2) := xmt_at (q := 1) (r := 0) rfl rfl
theorem km21 : xmt 21 = some (1, 2, 3, 2, [], xM21.2.2.2.2.2) := xmt_at (q := 1) (r := 1) rfl rfl
theorem km22 : xmt 22 = some (1, 1, 3, 2, [], xM22.2.2.2.2.2) := xmt_at (q := 1) (r := 2) rfl rfl
theorem km23 : xmt 23 = some (1, 3, 3, 2, [], xM23.2.2.2.2.2) := xmt_at (q := 1) (r := 3) rfl rfl
theorem km24 : xmt 24 = some (1, 4, 3, 2, [], xM24.2.2.2.2.2) := xmt_at (q := 1) (r := 4) rfl rfl
theorem km25 : xmt 25 = some (1, 2, 3, 2, [], xM25.2.2.2.2.2) := xmt_at (q := 1) (r := 5) rfl rfl
theorem km26 : xmt 26 = some (3, 3, 3, 2, [], xM26.2.2.2.2.2) := xmt_at (q := 1) (r := 6) rfl rfl
theorem km28 : xmt 28 = some (2, 2, 4, 0, [], xM28.2.2.2.2.2) := xmt_at (q := 1) (r := 8) rfl rfl
theorem km29 : xmt 29 = some (3, 3, 4, 0, [], xM29.2.2.2.2.2) := xmt_at (q := 1) (r := 9) rfl rfl
theorem km30 : xmt 30 = some (2, 4, 4, 1, [], xM30.2.2.2.2.2) := xmt_at (q := 1) (r := 10) rfl rfl
theorem km31 : xmt 31 = some (1, 3, 4, 1, [], xM31.2.2.2.2.2) := xmt_at (q := 1) (r := 11) rfl rfl
theorem km33 : xmt 33 = some (4, 7, 5, 0, [], xM33.2.2.2.2.2) := xmt_at (q := 1) (r := 13) rfl rfl
theorem km34 : xmt 34 = some (4, 4, 5, 0, [], xM34.2.2.2.2.2) := xmt_at (q := 1) (r := 14) rfl rfl
theorem km35 : xmt 35 = some (2, 2, 5, 1, [], xM35.2.2.2.2.2) := xmt_at (q := 1) (r := 15) rfl rfl
theorem km36 : xmt 36 = some (2, 2, 5, 1, [], xM36.2.2.2.2.2) := xmt_at (q := 1) (r := 16) rfl rfl
theorem km37 : xmt 37 = some (3, 5, 5, 1, [], xM37.2.2.2.2.2) := xmt_at (q := 1) (r := 17) rfl rfl
theorem km38 : xmt 38 = some (3, 5, 5, 1, [], xM38.2.2.2.2.2) := xmt_at (q := 1) (r := 18) rfl rfl
theorem km39 : xmt 39 = some (3, 3, 5, 2, [], xM39.2.2.2.2.2) := xmt_at (q := 1) (r := 19) rfl rfl
theorem km40 : xmt 40 = some (3, 4, 5, 6, [], xM40.2.2.2.2.2) := xmt_at (q := 2) (r := 0) rfl rfl
theorem km42 : xmt 42 = some (2, 2, 6, 0, [], xM42.2.2.2.2.2) := xmt_at (q := 2) (r := 2) rfl rfl
theorem km43 : xmt 43 = some (3, 3, 6, 0, [], xM43.2.2.2.2.2) := xmt_at (q := 2) (r := 3) rfl rfl
theorem km44 : xmt 44 = some (2, 3, 6, 0, [], xM44.2.2.2.2.2) := xmt_at (q := 2) (r := 4) rfl rfl
theorem km45 : xmt 45 = some (3, 3, 6, 1, [], xM45.2.2.2.2.2) := xmt_at (q := 2) (r := 5) rfl rfl
theorem km46 : xmt 46 = some (3, 5, 6, 1, [], xM46.2.2.2.2.2) := xmt_at (q := 2) (r := 6) rfl rfl
theorem km48 : xmt 48 = some (2, 2, 7, 0, [], xM48.2.2.2.2.2) := xmt_at (q := 2) (r := 8) rfl rfl
theorem km49 : xmt 49 = some (5, 5, 7, 0, [], xM49.2.2.2.2.2) := xmt_at (q := 2) (r := 9) rfl rfl
theorem km50 : xmt 50 = some (2, 2, 7, 1, [], xM50.2.2.2.2.2) := xmt_at (q := 2) (r := 10) rfl rfl
theorem km51 : xmt 51 = some (2, 2, 7, 1, [], xM51.2.2.2.2.2) := xmt_at (q := 2) (r := 11) rfl rfl
theorem km52 : xmt 52 = some (3, 3, 7, 0, [], xM52.2.2.2.2.2) := xmt_at (q := 2) (r := 12) rfl rfl
theorem km53 : xmt 53 = some (2, 3, 7, 0, [], xM53.2.2.2.2.2) := xmt_at (q := 2) (r := 13) rfl rfl
theorem km54 : xmt 54 = some (3, 5, 7, 0, [], xM54.2.2.2.2.2) := xmt_at (q := 2) (r := 14) rfl rfl
theorem km55 : xmt 55 = some (1, 3, 7, 1, [], xM55.2.2.2.2.2) := xmt_at (q := 2) (r := 15) rfl rfl
theorem km56 : xmt 56 = some (2, 4, 7, 1, [], xM56.2.2.2.2.2) := xmt_at (q := 2) (r := 16) rfl rfl
theorem km57 : xmt 57 = some (1, 3, 7, 1, [], xM57.2.2.2.2.2) := xmt_at (q := 2) (r := 17) rfl rfl
theorem km58 : xmt 58 = some (2, 4, 7, 1, [], xM58.2.2.2.2.2) := xmt_at (q := 2) (r := 18) rfl rfl
theorem km59 : xmt 59 = some (1, 3, 7, 1, [], xM59.2.2.2.2.2) := xmt_at (q := 2) (r := 19) rfl rfl
theorem km60 : xmt 60 = some (1, 3, 7, 1, [], xM60.2.2.2.2.2) := xmt_at (q := 3) (r := 0) rfl rfl
theorem km61 : xmt 61 = some (1, 1, 7, 7, [], xM61.2.2.2.2.2) := xmt_at (q := 3) (r := 1) rfl rfl
theorem km62 : xmt 62 = some (2, 4, 7, 1, [], xM62.2.2.2.2.2) := xmt_at (q := 3) (r := 2) rfl rfl
theorem km63 : xmt 63 = some (2, 4, 7, 1, [], xM63.2.2.2.2.2) := xmt_at (q := 3) (r := 3) rfl rfl
theorem km64 : xmt 64 = some (2, 4, 7, 1, [], xM64.2.2.2.2.2) := xmt_at (q := 3) (r := 4) rfl rfl
theorem km65 : xmt 65 = some (2, 4, 7, 1, [], xM65.2.2.2.2.2) := xmt_at (q := 3) (r := 5) rfl rfl
theorem km66 : xmt 66 = some (2, 5, 7, 1, [], xM66.2.2.2.2.2) := xmt_at (q := 3) (r := 6) rfl rfl
theorem km68 : xmt 68 = some (2, 2, 8, 0, [], xM68.2.2.2.2.2) := xmt_at (q := 3) (r := 8) rfl rfl
theorem km69 : xmt 69 = some (1, 2, 8, 0, [], xM69.2.2.2.2.2) := xmt_at (q := 3) (r := 9) rfl rfl
theorem km70 : xmt 70 = some (1, 1, 8, 0, [], xM70.2.2.2.2.2) := xmt_at (q := 3) (r := 10) rfl rfl
theorem km71 : xmt 71 = some (1, 3, 8, 0, [], xM71.2.2.2.2.2) := xmt_at (q := 3) (r := 11) rfl rfl
theorem km72 : xmt 72 = some (1, 2, 8, 0, [], xM72.2.2.2.2.2) := xmt_at (q := 3) (r := 12) rfl rfl
theorem km73 : xmt 73 = some (1, 2, 8, 0, [], xM73.2.2.2.2.2) := xmt_at (q := 3) (r := 13) rfl rfl
theorem km74 : xmt 74 = some (2, 2, 8, 2, [], xM74.2.2.2.2.2) := xmt_at (q := 3) (r := 14) rfl rfl
theorem km75 : xmt 75 = some (2, 2, 8, 0, [], xM75.2.2.2.2.2) := xmt_at (q := 3) (r := 15) rfl rfl
theorem km76 : xmt 76 = some (2, 2, 8, 0, [], xM76.2.2.2.2.2) := xmt_at (q := 3) (r := 16) rfl rfl
theorem km77 : xmt 77 = some (2, 2, 8, 2, [], xM77.2.2.2.2.2) := xmt_at (q := 3) (r := 17) rfl rfl
theorem km78 : xmt 78 = some (3, 3, 8, 0, [], xM78.2.2.2.2.2) := xmt_at (q := 3) (r := 18) rfl rfl
theorem km79 : xmt 79 = some (3, 3, 8, 2, [], xM79.2.2.2.2.2) := xmt_at (q := 3) (r := 19) rfl rfl
theorem km81 : xmt 81 = some (6, 6, 9, 1, [], xM81.2.2.2.2.2) := xmt_at (q := 4) (r := 1) rfl rfl
theorem km82 : xmt 82 = some (2, 3, 9, 0, [], xM82.2.2.2.2.2) := xmt_at (q := 4) (r := 2) rfl rfl
theorem km83 : xmt 83 = some (2, 2, 9, 0, [], xM83.2.2.2.2.2) := xmt_at (q := 4) (r := 3) rfl rfl
theorem km84 : xmt 84 = some (1, 1, 9, 0, [], xM84.2.2.2.2.2) := xmt_at (q := 4) (r := 4) rfl rfl
theorem km85 : xmt 85 = some (1, 1, 9, 0, [], xM85.2.2.2.2.2) := xmt_at (q := 4) (r := 5) rfl rfl
theorem km86 : xmt 86 = some (1, 1, 9, 0, [], xM86.2.2.2.2.2) := xmt_at (q := 4) (r := 6) rfl rfl
theorem km87 : xmt 87 = some (1, 1, 9, 1, [], xM87.2.2.2.2.2) := xmt_at (q := 4) (r := 7) rfl rfl
theorem km88 : xmt 88 = some (2, 3, 9, 1, [], xM88.2.2.2.2.2) := xmt_at (q := 4) (r := 8) rfl rfl
theorem km89 : xmt 89 = some (2, 3, 9, 2, [], xM89.2.2.2.2.2) := xmt_at (q := 4) (r := 9) rfl rfl
theorem km91 : xmt 91 = some (6, 6, 10, 1, [], xM91.2.2.2.2.2) := xmt_at (q := 4) (r := 11) rfl rfl
theorem km92 : xmt 92 = some (2, 3, 10, 1, [], xM92.2.2.2.2.2) := xmt_at (q := 4) (r := 12) rfl rfl
theorem km93 : xmt 93 = some (1, 1, 10, 1, [], xM93.2.2.2.2.2) := xmt_at (q := 4) (r := 13) rfl rfl
theorem km94 : xmt 94 = some (1, 1, 10, 1, [], xM94.2.2.2.2.2) := xmt_at (q := 4) (r := 14) rfl rfl
theorem km95 : xmt 95 = some (1, 1, 10, 1, [], xM95.2.2.2.2.2) := xmt_at (q := 4) (r := 15) rfl rfl
theorem km96 : xmt 96 = some (2, 2, 10, 1, [], xM96.2.2.2.2.2) := xmt_at (q := 4) (r := 16) rfl rfl
theorem km97 : xmt 97 = some (2, 2, 10, 1, [], xM97.2.2.2.2.2) := xmt_at (q := 4) (r := 17) rfl rfl
theorem km98 : xmt 98 = some (3, 4, 10, 1, [], xM98.2.2.2.2.2) := xmt_at (q := 4) (r := 18) rfl rfl
theorem km99 : xmt 99 = some (3, 4, 10, 1, [], xM99.2.2.2.2.2) := xmt_at (q := 4) (r := 19) rfl rfl
theorem km100 : xmt 100 = some (3, 4, 10, 1, [], xM100.2.2.2.2.2) := xmt_at (q := 5) (r := 0) rfl rfl
theorem km101 : xmt 101 = some (3, 4, 10, 1, [], xM101.2.2.2.2.2) := xmt_at (q := 5) (r := 1) rfl rfl
theorem km102 : xmt 102 = some (3, 3, 10, 1, [], xM102.2.2.2.2.2) := xmt_at (q := 5) (r := 2) rfl rfl
theorem km103 : xmt 103 = some (3, 3, 10, 1, [], xM103.2.2.2.2.2) := xmt_at (q := 5) (r := 3) rfl rfl
theorem km104 : xmt 104 = some (2, 2, 10, 1, [], xM104.2.2.2.2.2) := xmt_at (q := 5) (r := 4) rfl rfl
theorem km105 : xmt 105 = some (2, 2, 10, 1, [], xM105.2.2.2.2.2) := xmt_at (q := 5) (r := 5) rfl rfl
theorem km106 : xmt 106 = some (2, 2, 10, 2, [], xM106.2.2.2.2.2) := xmt_at (q := 5) (r := 6) rfl rfl
theorem km107 : xmt 107 = some (2, 2, 10, 6, [], xM107.2.2.2.2.2) := xmt_at (q := 5) (r := 7) rfl rfl
theorem km108 : xmt 108 = some (2, 2, 10, 1, [], xM108.2.2.2.2.2) := xmt_at (q := 5) (r := 8) rfl rfl
theorem km109 : xmt 109 = some (2, 4, 10, 1, [], xM109.2.2.2.2.2) := xmt_at (q := 5) (r := 9) rfl rfl
theorem km110 : xmt 110 = some (3, 3, 10, 1, [], xM110.2.2.2.2.2) := xmt_at (q := 5) (r := 10) rfl rfl
theorem km111 : xmt 111 = some (2, 3, 10, 1, [], xM111.2.2.2.2.2) := xmt_at (q := 5) (r := 11) rfl rfl
theorem km112 : xmt 112 = some (2, 2, 10, 1, [], xM112.2.2.2.2.2) := xmt_at (q := 5) (r := 12) rfl rfl
theorem km113 : xmt 113 = some (2, 3, 10, 1, [], xM113.2.2.2.2.2) := xmt_at (q := 5) (r := 13) rfl rfl
theorem km114 : xmt 114 = some (2, 2, 10, 1, [], xM114.2.2.2.2.2) := xmt_at (q := 5) (r := 14) rfl rfl
theorem km115 : xmt 115 = some (2, 2, 10, 1, [], xM115.2.2.2.2.2) := xmt_at (q := 5) (r := 15) rfl rfl
theorem km116 : xmt 116 = some (1, 3, 10, 1, [], xM116.2.2.2.2.2) := xmt_at (q := 5) (r := 16) rfl rfl
theorem km117 : xmt 117 = some (1, 1, 10, 1, [], xM117.2.2.2.2.2) := xmt_at (q := 5) (r := 17) rfl rfl
theorem km118 : xmt 118 = some (3, 3, 10, 1, [], xM118.2.2.2.2.2) := xmt_at (q := 5) (r := 18) rfl rfl
theorem km119 : xmt 119 = some (1, 5, 10, 1, [], xM119.2.2.2.2.2) := xmt_at (q := 5) (r := 19) rfl rfl
theorem km120 : xmt 120 = some (1, 1, 10, 1, [], xM120.2.2.2.2.2) := xmt_at (q := 6) (r := 0) rfl rfl
theorem km121 : xmt 121 = some (1, 3, 10, 1, [], xM121.2.2.2.2.2) := xmt_at (q := 6) (r := 1) rfl rfl
theorem km122 : xmt 122 = some (1, 3, 10, 1, [], xM122.2.2.2.2.2) := xmt_at (q := 6) (r := 2) rfl rfl
theorem km123 : xmt 123 = some (1, 2, 10, 1, [], xM123.2.2.2.2.2) := xmt_at (q := 6) (r := 3) rfl rfl
theorem km124 : xmt 124 = some (1, 1, 10, 7, [], xM124.2.2.2.2.2) := xmt_at (q := 6) (r := 4) rfl rfl
theorem km125 : xmt 125 = some (1, 1, 10, 5, [], xM125.2.2.2.2.2) := xmt_at (q := 6) (r := 5) rfl rfl
theorem km126 : xmt 126 = some (2, 3, 10, 1, [], xM126.2.2.2.2.2) := xmt_at (q := 6) (r := 6) rfl rfl
theorem km127 : xmt 127 = some (2, 4, 10, 1, [], xM127.2.2.2.2.2) := xmt_at (q := 6) (r := 7) rfl rfl
theorem km128 : xmt 128 = some (3, 3, 10, 1, [], xM128.2.2.2.2.2) := xmt_at (q := 6) (r := 8) rfl rfl
theorem km129 : xmt 129 = some (3, 3, 10, 1, [], xM129.2.2.2.2.2) := xmt_at (q := 6) (r := 9) rfl rfl
theorem km130 : xmt 130 = some (3, 3, 10, 1, [], xM130.2.2.2.2.2) := xmt_at (q := 6) (r := 10) rfl rfl
theorem km131 : xmt 131 = some (2, 2, 10, 1, [], xM131.2.2.2.2.2) := xmt_at (q := 6) (r := 11) rfl rfl
theorem km132 : xmt 132 = some (1, 1, 10, 1, [], xM132.2.2.2.2.2) := xmt_at (q := 6) (r := 12) rfl rfl
theorem km133 : xmt 133 = some (3, 3, 10, 6, [], xM133.2.2.2.2.2) := xmt_at (q := 6) (r := 13) rfl rfl
theorem km134 : xmt 134 = some (3, 6, 10, 6, [], xM134.2.2.2.2.2) := xmt_at (q := 6) (r := 14) rfl rfl
theorem km135 : xmt 135 = some (2, 6, 10, 1, [], xM135.2.2.2.2.2) := xmt_at (q := 6) (r := 15) rfl rfl
theorem km136 : xmt 136 = some (2, 4, 10, 1, [], xM136.2.2.2.2.2) := xmt_at (q := 6) (r := 16) rfl rfl
theorem km137 : xmt 137 = some (1, 2, 10, 1, [], xM137.2.2.2.2.2) := xmt_at (q := 6) (r := 17) rfl rfl
theorem km138 : xmt 138 = some (2, 4, 10, 1, [], xM138.2.2.2.2.2) := xmt_at (q := 6) (r := 18) rfl rfl
theorem km139 : xmt 139 = some (1, 3, 10, 1, [], xM139.2.2.2.2.2) := xmt_at (q := 6) (r := 19) rfl rfl
theorem km140 : xmt 140 = some (1, 2, 10, 1, [], xM140.2.2.2.2.2) := xmt_at (q := 7) (r := 0) rfl rfl
theorem km141 : xmt 141 = some (2, 2, 10, 1, [], xM141.2.2.2.2.2) := xmt_at (q := 7) (r := 1) rfl rfl
theorem km142 : xmt 142 = some (2, 4, 10, 1, [], xM142.2.2.2.2.2) := xmt_at (q := 7) (r := 2) rfl rfl
theorem km143 : xmt 143 = some (2, 2, 10, 1, [], xM143.2.2.2.2.2) := xmt_at (q := 7) (r := 3) rfl rfl
theorem km144 : xmt 144 = some (2, 2, 10, 1, [], xM144.2.2.2.2.2) := xmt_at (q := 7) (r := 4) rfl rfl
theorem km145 : xmt 145 = some (2, 3, 10, 1, [], xM145.2.2.2.2.2) := xmt_at (q := 7) (r := 5) rfl rfl
theorem km146 : xmt 146 = some (3, 3, 10, 1, [], xM146.2.2.2.2.2) := xmt_at (q := 7) (r := 6) rfl rfl
theorem km147 : xmt 147 = some (2, 3, 10, 1, [], xM147.2.2.2.2.2) := xmt_at (q := 7) (r := 7) rfl rfl
theorem km148 : xmt 148 = some (3, 4, 10, 1, [], xM148.2.2.2.2.2) := xmt_at (q := 7) (r := 8) rfl rfl
theorem km149 : xmt 149 = some (3, 3, 10, 1, [], xM149.2.2.2.2.2) := xmt_at (q := 7) (r := 9) rfl rfl
theorem km150 : xmt 150 = some (3, 4, 10, 1, [], xM150.2.2.2.2.2) := xmt_at (q := 7) (r := 10) rfl rfl
theorem km151 : xmt 151 = some (1, 1, 10, 1, [], xM151.2.2.2.2.2) := xmt_at (q := 7) (r := 11) rfl rfl
theorem km152 : xmt 152 = some (1, 1, 10, 1, [], xM152.2.2.2.2.2) := xmt_at (q := 7) (r := 12) rfl rfl
theorem km153 : xmt 153 = some (2, 2, 10, 1, [], xM153.2.2.2.2.2) := xmt_at (q := 7) (r := 13) rfl rfl
theorem km154 : xmt 154 = some (2, 2, 10, 1, [], xM154.2.2.2.2.2) := xmt_at (q := 7) (r := 14) rfl rfl
theorem km155 : xmt 155 = some (1, 1, 10, 0, [], xM155.2.2.2.2.2) := xmt_at (q := 7) (r := 15) rfl rfl
theorem km156 : xmt 156 = some (2, 2, 10, 0, [], xM156.2.2.2.2.2) := xmt_at (q := 7) (r := 16) rfl rfl
theorem km157 : xmt 157 = some (2, 2, 10, 0, [], xM157.2.2.2.2.2) := xmt_at (q := 7) (r := 17) rfl rfl
theorem km158 : xmt 158 = some (2, 2, 99, 0, [], xM158.2.2.2.2.2) := xmt_at (q := 7) (r := 18) rfl rfl
theorem km159 : xmt 159 = some (3, 3, 99, 0, [], xM159.2.2.2.2.2) := xmt_at (q := 7) (r := 19) rfl rfl
theorem km160 : xmt 160 = some (1, 1, 99, 0, [], xM160.2.2.2.2.2) := xmt_at (q := 8) (r := 0) rfl rfl
theorem km161 : xmt 161 = some (2, 2, 10, 8, [], xM161.2.2.2.2.2) := xmt_at (q := 8) (r := 1) rfl rfl
theorem km162 : xmt 162 = some (2, 2, 10, 8, [], xM162.2.2.2.2.2) := xmt_at (q := 8) (r := 2) rfl rfl
theorem km163 : xmt 163 = some (2, 3, 10, 0, [], xM163.2.2.2.2.2) := xmt_at (q := 8) (r := 3) rfl rfl
theorem km164 : xmt 164 = some (2, 3, 10, 1, [], xM164.2.2.2.2.2) := xmt_at (q := 8) (r := 4) rfl rfl
theorem km165 : xmt 165 = some (1, 2, 10, 0, [], xM165.2.2.2.2.2) := xmt_at (q := 8) (r := 5) rfl rfl
theorem km166 : xmt 166 = some (1, 3, 10, 1, [], xM166.2.2.2.2.2) := xmt_at (q := 8) (r := 6) rfl rfl
theorem km167 : xmt 167 = some (1, 3, 10, 1, [], xM167.2.2.2.2.2) := xmt_at (q := 8) (r := 7) rfl rfl
theorem km168 : xmt 168 = some (2, 4, 10, 1, [], xM168.2.2.2.2.2) := xmt_at (q := 8) (r := 8) rfl rfl
theorem km169 : xmt 169 = some (2, 4, 10, 1, [], xM169.2.2.2.2.2) := xmt_at (q := 8) (r := 9) rfl rfl
theorem km170 : xmt 170 = some (1, 4, 99, 1, [], xM170.2.2.2.2.2) := xmt_at (q := 8) (r := 10) rfl rfl
theorem km171 : xmt 171 = some (1, 7, 99, 5, [], xM171.2.2.2.2.2) := xmt_at (q := 8) (r := 11) rfl rfl
theorem km172 : xmt 172 = some (2, 3, 99, 0, [], xM172.2.2.2.2.2) := xmt_at (q := 8) (r := 12) rfl rfl
theorem km174 : xmt 174 = some (1, 1, 11, 1, [], xM174.2.2.2.2.2) := xmt_at (q := 8) (r := 14) rfl rfl
theorem km175 : xmt 175 = some (3, 3, 99, 2, [], xM175.2.2.2.2.2) := xmt_at (q := 8) (r := 15) rfl rfl
theorem km176 : xmt 176 = some (4, 4, 11, 2, [], xM176.2.2.2.2.2) := xmt_at (q := 8) (r := 16) rfl rfl
theorem km177 : xmt 177 = some (3, 3, 11, 2, [], xM177.2.2.2.2.2) := xmt_at (q := 8) (r := 17) rfl rfl
theorem km178 : xmt 178 = some (4, 5, 99, 0, [], xM178.2.2.2.2.2) := xmt_at (q := 8) (r := 18) rfl rfl
theorem km179 : xmt 179 = some (6, 6, 11, 1, [], xM179.2.2.2.2.2) := xmt_at (q := 8) (r := 19) rfl rfl
theorem km180 : xmt 180 = some (2, 3, 11, 0, [], xM180.2.2.2.2.2) := xmt_at (q := 9) (r := 0) rfl rfl
theorem km181 : xmt 181 = some (1, 1, 11, 1, [], xM181.2.2.2.2.2) := xmt_at (q := 9) (r := 1) rfl rfl
theorem km182 : xmt 182 = some (1, 1, 11, 1, [], xM182.2.2.2.2.2) := xmt_at (q := 9) (r := 2) rfl rfl
theorem km183 : xmt 183 = some (1, 1, 11, 1, [], xM183.2.2.2.2.2) := xmt_at (q := 9) (r := 3) rfl rfl
theorem km184 : xmt 184 = some (2, 2, 11, 2, [], xM184.2.2.2.2.2) := xmt_at (q := 9) (r := 4) rfl rfl
theorem km185 : xmt 185 = some (2, 2, 11, 2, [], xM185.2.2.2.2.2) := xmt_at (q := 9) (r := 5) rfl rfl
theorem km186 : xmt 186 = some (1, 1, 11, 0, [], xM186.2.2.2.2.2) := xmt_at (q := 9) (r := 6) rfl rfl
theorem km187 : xmt 187 = some (2, 2, 11, 0, [], xM187.2.2.2.2.2) := xmt_at (q := 9) (r := 7) rfl rfl
theorem km188 : xmt 188 = some (2, 2, 11, 2, [], xM188.2.2.2.2.2) := xmt_at (q := 9) (r := 8) rfl rfl
theorem km189 : xmt 189 = some (2, 3, 11, 2, [], xM189.2.2.2.2.2) := xmt_at (q := 9) (r := 9) rfl rfl
theorem km190 : xmt 190 = some (2, 2, 11, 0, [], xM190.2.2.2.2.2) := xmt_at (q := 9) (r := 10) rfl rfl
theorem km191 : xmt 191 = some (3, 4, 11, 1, [], xM191.2.2.2.2.2) := xmt_at (q := 9) (r := 11) rfl rfl
theorem km192 : xmt 192 = some (1, 1, 99, 1, [], xM192.2.2.2.2.2) := xmt_at (q := 9) (r := 12) rfl rfl
theorem km193 : xmt 193 = some (1, 1, 99, 1, [], xM193.2.2.2.2.2) := xmt_at (q := 9) (r := 13) rfl rfl
theorem km194 : xmt 194 = some (3, 3, 11, 2, [], xM194.2.2.2.2.2) := xmt_at (q := 9) (r := 14) rfl rfl
theorem km195 : xmt 195 = some (1, 2, 11, 1, [], xM195.2.2.2.2.2) := xmt_at (q := 9) (r := 15) rfl rfl
theorem km196 : xmt 196 = some (1, 3, 11, 0, [], xM196.2.2.2.2.2) := xmt_at (q := 9) (r := 16) rfl rfl
theorem km197 : xmt 197 = some (1, 4, 11, 0, [], xM197.2.2.2.2.2) := xmt_at (q := 9) (r := 17) rfl rfl
theorem km198 : xmt 198 = some (1, 3, 11, 0, [], xM198.2.2.2.2.2) := xmt_at (q := 9) (r := 18) rfl rfl
theorem km199 : xmt 199 = some (3, 4, 11, 0, [], xM199.2.2.2.2.2) := xmt_at (q := 9) (r := 19) rfl rfl
theorem km200 : xmt 200 = some (1, 2, 11, 0, [], xM200.2.2.2.2.2) := xmt_at (q := 10) (r := 0) rfl rfl
theorem km201 : xmt 201 = some (2, 3, 11, 1, [], xM201.2.2.2.2.2) := xmt_at (q := 10) (r := 1) rfl rfl
theorem km202 : xmt 202 = some (3, 3, 11, 1, [], xM202.2.2.2.2.2) := xmt_at (q := 10) (r := 2) rfl rfl
theorem km203 : xmt 203 = some (4, 4, 11, 0, [], xM203.2.2.2.2.2) := xmt_at (q := 10) (r := 3) rfl rfl
theorem km204 : xmt 204 = some (3, 3, 11, 1, [], xM204.2.2.2.2.2) := xmt_at (q := 10) (r := 4) rfl rfl
theorem km205 : xmt 205 = some (4, 4, 11, 0, [], xM205.2.2.2.2.2) := xmt_at (q := 10) (r := 5) rfl rfl
theorem km206 : xmt 206 = some (3, 3, 11, 1, [], xM206.2.2.2.2.2) := xmt_at (q := 10) (r := 6) rfl rfl
theorem km207 : xmt 207 = some (3, 3, 11, 1, [], xM207.2.2.2.2.2) := xmt_at (q := 10) (r := 7) rfl rfl
theorem km208 : xmt 208 = some (2, 2, 11, 2, [], xM208.2.2.2.2.2) := xmt_at (q := 10) (r := 8) rfl rfl
theorem km209 : xmt 209 = some (2, 2, 11, 2, [], xM209.2.2.2.2.2) := xmt_at (q := 10) (r := 9) rfl rfl
theorem km210 : xmt 210 = some (2, 2, 11, 1, [], xM210.2.2.2.2.2) := xmt_at (q := 10) (r := 10) rfl rfl
theorem km211 : xmt 211 = some (2, 2, 11, 1, [], xM211.2.2.2.2.2) := xmt_at (q := 10) (r := 11) rfl rfl
theorem km212 : xmt 212 = some (3, 3, 11, 0, [], xM212.2.2.2.2.2) := xmt_at (q := 10) (r := 12) rfl rfl
theorem km213 : xmt 213 = some (2, 3, 11, 0, [], xM213.2.2.2.2.2) := xmt_at (q := 10) (r := 13) rfl rfl
theorem km214 : xmt 214 = some (3, 4, 11, 0, [], xM214.2.2.2.2.2) := xmt_at (q := 10) (r := 14) rfl rfl
theorem km215 : xmt 215 = some (3, 5, 11, 1, [], xM215.2.2.2.2.2) := xmt_at (q := 10) (r := 15) rfl rfl
theorem km216 : xmt 216 = some (2, 3, 11, 2, [], xM216.2.2.2.2.2) := xmt_at (q := 10) (r := 16) rfl rfl
theorem km217 : xmt 217 = some (2, 3, 11, 0, [], xM217.2.2.2.2.2) := xmt_at (q := 10) (r := 17) rfl rfl
theorem km218 : xmt 218 = some (2, 2, 11, 0, [], xM218.2.2.2.2.2) := xmt_at (q := 10) (r := 18) rfl rfl
theorem km219 : xmt 219 = some (3, 3, 11, 2, [], xM219.2.2.2.2.2) := xmt_at (q := 10) (r := 19) rfl rfl
theorem km220 : xmt 220 = some (2, 6, 11, 0, [], xM220.2.2.2.2.2) := xmt_at (q := 11) (r := 0) rfl rfl
theorem km221 : xmt 221 = some (2, 2, 11, 0, [], xM221.2.2.2.2.2) := xmt_at (q := 11) (r := 1) rfl rfl
theorem km222 : xmt 222 = some (2, 4, 11, 1, [], xM222.2.2.2.2.2) := xmt_at (q := 11) (r := 2) rfl rfl
theorem km223 : xmt 223 = some (2, 2, 11, 2, [], xM223.2.2.2.2.2) := xmt_at (q := 11) (r := 3) rfl rfl
theorem km224 : xmt 224 = some (2, 3, 11, 6, [], xM224.2.2.2.2.2) := xmt_at (q := 11) (r := 4) rfl rfl
theorem km225 : xmt 225 = some (1, 3, 11, 0, [], xM225.2.2.2.2.2) := xmt_at (q := 11) (r := 5) rfl rfl
theorem km226 : xmt 226 = some (2, 5, 11, 0, [], xM226.2.2.2.2.2) := xmt_at (q := 11) (r := 6) rfl rfl
theorem km227 : xmt 227 = some (2, 3, 11, 0, [], xM227.2.2.2.2.2) := xmt_at (q := 11) (r := 7) rfl rfl
theorem km228 : xmt 228 = some (1, 2, 11, 0, [], xM228.2.2.2.2.2) := xmt_at (q := 11) (r := 8) rfl rfl
theorem km229 : xmt 229 = some (2, 3, 11, 0, [], xM229.2.2.2.2.2) := xmt_at (q := 11) (r := 9) rfl rfl
theorem km230 : xmt 230 = some (1, 3, 11, 1, [], xM230.2.2.2.2.2) := xmt_at (q := 11) (r := 10) rfl rfl
theorem km231 : xmt 231 = some (1, 3, 11, 1, [], xM231.2.2.2.2.2) := xmt_at (q := 11) (r := 11) rfl rfl
theorem km232 : xmt 232 = some (1, 3, 11, 1, [], xM232.2.2.2.2.2) := xmt_at (q := 11) (r := 12) rfl rfl
theorem km233 : xmt 233 = some (1, 3, 11, 1, [], xM233.2.2.2.2.2) := xmt_at (q := 11) (r := 13) rfl rfl
theorem km234 : xmt 234 = some (1, 3, 11, 1, [], xM234.2.2.2.2.2) := xmt_at (q := 11) (r := 14) rfl rfl
theorem km235 : xmt 235 = some (1, 3, 11, 1, [], xM235.2.2.2.2.2) := xmt_at (q := 11) (r := 15) rfl rfl
theorem km236 : xmt 236 = some (1, 3, 11, 1, [], xM236.2.2.2.2.2) := xmt_at (q := 11) (r := 16) rfl rfl
theorem km237 : xmt 237 = some (1, 3, 11, 1, [], xM237.2.2.2.2.2) := xmt_at (q := 11) (r := 17) rfl rfl
theorem km238 : xmt 238 = some (1, 3, 11, 1, [], xM238.2.2.2.2.2) := xmt_at (q := 11) (r := 18) rfl rfl
theorem km239 : xmt 239 = some (2, 2, 11, 1, [], xM239.2.2.2.2.2) := xmt_at (q := 11) (r := 19) rfl rfl
theorem km240 : xmt 240 = some (2, 2, 11, 1, [], xM240.2.2.2.2.2) := xmt_at (q := 12) (r := 0) rfl rfl
theorem km241 : xmt 241 = some (2, 2, 11, 2, [], xM241.2.2.2.2.2) := xmt_at (q := 12) (r := 1) rfl rfl
theorem km242 : xmt 242 = some (2, 2, 11, 2, [], xM242.2.2.2.2.2) := xmt_at (q := 12) (r := 2) rfl rfl
theorem km243 : xmt 243 = some (3, 3, 11, 2, [], xM243.2.2.2.2.2) := xmt_at (q := 12) (r := 3) rfl rfl
theorem km244 : xmt 244 = some (2, 4, 11, 1, [], xM244.2.2.2.2.2) := xmt_at (q := 12) (r := 4) rfl rfl
theorem km245 : xmt 245 = some (2, 4, 11, 1, [], xM245.2.2.2.2.2) := xmt_at (q := 12) (r := 5) rfl rfl
theorem km246 : xmt 246 = some (3, 3, 11, 1, [], xM246.2.2.2.2.2) := xmt_at (q := 12) (r := 6) rfl rfl
theorem km247 : xmt 247 = some (2, 4, 11, 1, [], xM247.2.2.2.2.2) := xmt_at (q := 12) (r := 7) rfl rfl
theorem km248 : xmt 248 = some (1, 3, 99, 1, [], xM248.2.2.2.2.2) := xmt_at (q := 12) (r := 8) rfl rfl
theorem km249 : xmt 249 = some (2, 2, 11, 1, [], xM249.2.2.2.2.2) := xmt_at (q := 12) (r := 9) rfl rfl
theorem km250 : xmt 250 = some (2, 5, 11, 1, [], xM250.2.2.2.2.2) := xmt_at (q := 12) (r := 10) rfl rfl
theorem km251 : xmt 251 = some (2, 4, 11, 1, [], xM251.2.2.2.2.2) := xmt_at (q := 12) (r := 11) rfl rfl
theorem km252 : xmt 252 = some (2, 4, 11, 1, [], xM252.2.2.2.2.2) := xmt_at (q := 12) (r := 12) rfl rfl
theorem km253 : xmt 253 = some (3, 3, 11, 1, [], xM253.2.2.2.2.2) := xmt_at (q := 12) (r := 13) rfl rfl
theorem km254 : xmt 254 = some (3, 3, 11, 1, [], xM254.2.2.2.2.2) := xmt_at (q := 12) (r := 14) rfl rfl
theorem km255 : xmt 255 = some (3, 3, 11, 1, [], xM255.2.2.2.2.2) := xmt_at (q := 12) (r := 15) rfl rfl
theorem km256 : xmt 256 = some (3, 3, 11, 1, [], xM256.2.2.2.2.2) := xmt_at (q := 12) (r := 16) rfl rfl
theorem km257 : xmt 257 = some (3, 3, 11, 1, [], xM257.2.2.2.2.2) := xmt_at (q := 12) (r := 17) rfl rfl
theorem km258 : xmt 258 = some (2, 2, 11, 1, [], xM258.2.2.2.2.2) := xmt_at (q := 12) (r := 18) rfl rfl
theorem km259 : xmt 259 = some (2, 2, 11, 1, [], xM259.2.2.2.2.2) := xmt_at (q := 12) (r := 19) rfl rfl
theorem km260 : xmt 260 = some (2, 2, 11, 2, [], xM260.2.2.2.2.2) := xmt_at (q := 13) (r := 0) rfl rfl
theorem km261 : xmt 261 = some (3, 6, 11, 1, [], xM261.2.2.2.2.2) := xmt_at (q := 13) (r := 1) rfl rfl
theorem km262 : xmt 262 = some (3, 3, 11, 1, [], xM262.2.2.2.2.2) := xmt_at (q := 13) (r := 2) rfl rfl
theorem km263 : xmt 263 = some (2, 4, 11, 1, [], xM263.2.2.2.2.2) := xmt_at (q := 13) (r := 3) rfl rfl
theorem km264 : xmt 264 = some (2, 3, 11, 1, [], xM264.2.2.2.2.2) := xmt_at (q := 13) (r := 4) rfl rfl
theorem km265 : xmt 265 = some (2, 2, 11, 2, [], xM265.2.2.2.2.2) := xmt_at (q := 13) (r := 5) rfl rfl
theorem km266 : xmt 266 = some (2, 3, 11, 1, [], xM266.2.2.2.2.2) := xmt_at (q := 13) (r := 6) rfl rfl
theorem km267 : xmt 267 = some (2, 4, 11, 1, [], xM267.2.2.2.2.2) := xmt_at (q := 13) (r := 7) rfl rfl
theorem km268 : xmt 268 = some (2, 4, 11, 1, [], xM268.2.2.2.2.2) := xmt_at (q := 13) (r := 8) rfl rfl
theorem km269 : xmt 269 = some (1, 3, 11, 1, [], xM269.2.2.2.2.2) := xmt_at (q := 13) (r := 9) rfl rfl
theorem km270 : xmt 270 = some (1, 3, 11, 1, [], xM270.2.2.2.2.2) := xmt_at (q := 13) (r := 10) rfl rfl
theorem km271 : xmt 271 = some (3, 5, 11, 1, [], xM271.2.2.2.2.2) := xmt_at (q := 13) (r := 11) rfl rfl
theorem km272 : xmt 272 = some (2, 2, 11, 6, [], xM272.2.2.2.2.2) := xmt_at (q := 13) (r := 12) rfl rfl
theorem km273 : xmt 273 = some (2, 2, 11, 1, [], xM273.2.2.2.2.2) := xmt_at (q := 13) (r := 13) rfl rfl
theorem km274 : xmt 274 = some (2, 6, 11, 1, [], xM274.2.2.2.2.2) := xmt_at (q := 13) (r := 14) rfl rfl
theorem km275 : xmt 275 = some (1, 1, 11, 2, [], xM275.2.2.2.2.2) := xmt_at (q := 13) (r := 15) rfl rfl
theorem km276 : xmt 276 = some (1, 3, 11, 1, [], xM276.2.2.2.2.2) := xmt_at (q := 13) (r := 16) rfl rfl
theorem km277 : xmt 277 = some (1, 1, 11, 1, [], xM277.2.2.2.2.2) := xmt_at (q := 13) (r := 17) rfl rfl
theorem km278 : xmt 278 = some (1, 3, 11, 1, [], xM278.2.2.2.2.2) := xmt_at (q := 13) (r := 18) rfl rfl
theorem km279 : xmt 279 = some (1, 3, 11, 1, [], xM279.2.2.2.2.2) := xmt_at (q := 13) (r := 19) rfl rfl
theorem km280 : xmt 280 = some (1, 1, 11, 1, [], xM280.2.2.2.2.2) := xmt_at (q := 14) (r := 0) rfl rfl
theorem km281 : xmt 281 = some (1, 3, 11, 7, [], xM281.2.2.2.2.2) := xmt_at (q := 14) (r := 1) rfl rfl
theorem km282 : xmt 282 = some (1, 1, 11, 7, [], xM282.2.2.2.2.2) := xmt_at (q := 14) (r := 2) rfl rfl
theorem km283 : xmt 283 = some (1, 1, 11, 5, [], xM283.2.2.2.2.2) := xmt_at (q := 14) (r := 3) rfl rfl
theorem km284 : xmt 284 = some (1, 1, 11, 0, [], xM284.2.2.2.2.2) := xmt_at (q := 14) (r := 4) rfl rfl
theorem km285 : xmt 285 = some (2, 2, 11, 1, [], xM285.2.2.2.2.2) := xmt_at (q := 14) (r := 5) rfl rfl
theorem km286 : xmt 286 = some (2, 2, 11, 6, [], xM286.2.2.2.2.2) := xmt_at (q := 14) (r := 6) rfl rfl
theorem km287 : xmt 287 = some (2, 3, 11, 1, [], xM287.2.2.2.2.2) := xmt_at (q := 14) (r := 7) rfl rfl
theorem km288 : xmt 288 = some (2, 4, 11, 2, [], xM288.2.2.2.2.2) := xmt_at (q := 14) (r := 8) rfl rfl
theorem km289 : xmt 289 = some (2, 3, 11, 1, [], xM289.2.2.2.2.2) := xmt_at (q := 14) (r := 9) rfl rfl
theorem km290 : xmt 290 = some (1, 1, 99, 2, [], xM290.2.2.2.2.2) := xmt_at (q := 14) (r := 10) rfl rfl
theorem km291 : xmt 291 = some (4, 4, 11, 1, [], xM291.2.2.2.2.2) := xmt_at (q := 14) (r := 11) rfl rfl
theorem km292 : xmt 292 = some (3, 3, 11, 1, [], xM292.2.2.2.2.2) := xmt_at (q := 14) (r := 12) rfl rfl
theorem km293 : xmt 293 = some (3, 3, 11, 1, [], xM293.2.2.2.2.2) := xmt_at (q := 14) (r := 13) rfl rfl
theorem km294 : xmt 294 = some (3, 3, 11, 1, [], xM294.2.2.2.2.2) := xmt_at (q := 14) (r := 14) rfl rfl
theorem km295 : xmt 295 = some (2, 2, 11, 1, [], xM295.2.2.2.2.2) := xmt_at (q := 14) (r := 15) rfl rfl
theorem km296 : xmt 296 = some (1, 2, 11, 1, [], xM296.2.2.2.2.2) := xmt_at (q := 14) (r := 16) rfl rfl
theorem km297 : xmt 297 = some (3, 3, 11, 2, [], xM297.2.2.2.2.2) := xmt_at (q := 14) (r := 17) rfl rfl
theorem km298 : xmt 298 = some (3, 3, 11, 6, [], xM298.2.2.2.2.2) := xmt_at (q := 14) (r := 18) rfl rfl
theorem km299 : xmt 299 = some (3, 5, 11, 6, [], xM299.2.2.2.2.2) := xmt_at (q := 14) (r := 19) rfl rfl
theorem km300 : xmt 300 = some (2, 6, 11, 1, [], xM300.2.2.2.2.2) := xmt_at (q := 15) (r := 0) rfl rfl
theorem km301 : xmt 301 = some (2, 3, 11, 1, [], xM301.2.2.2.2.2) := xmt_at (q := 15) (r := 1) rfl rfl
theorem km302 : xmt 302 = some (1, 4, 11, 1, [], xM302.2.2.2.2.2) := xmt_at (q := 15) (r := 2) rfl rfl
theorem km303 : xmt 303 = some (2, 2, 11, 0, [], xM303.2.2.2.2.2) := xmt_at (q := 15) (r := 3) rfl rfl
theorem km304 : xmt 304 = some (2, 2, 11, 0, [], xM304.2.2.2.2.2) := xmt_at (q := 15) (r := 4) rfl rfl
theorem km305 : xmt 305 = some (2, 3, 11, 1, [], xM305.2.2.2.2.2) := xmt_at (q := 15) (r := 5) rfl rfl
theorem km306 : xmt 306 = some (1, 2, 11, 1, [], xM306.2.2.2.2.2) := xmt_at (q := 15) (r := 6) rfl rfl
theorem km307 : xmt 307 = some (1, 2, 11, 1, [], xM307.2.2.2.2.2) := xmt_at (q := 15) (r := 7) rfl rfl
theorem km308 : xmt 308 = some (2, 2, 11, 1, [], xM308.2.2.2.2.2) := xmt_at (q := 15) (r := 8) rfl rfl
theorem km309 : xmt 309 = some (1, 2, 11, 0, [], xM309.2.2.2.2.2) := xmt_at (q := 15) (r := 9) rfl rfl
theorem km310 : xmt 310 = some (2, 3, 11, 1, [], xM310.2.2.2.2.2) := xmt_at (q := 15) (r := 10) rfl rfl
theorem km311 : xmt 311 = some (2, 3, 11, 1, [], xM311.2.2.2.2.2) := xmt_at (q := 15) (r := 11) rfl rfl
theorem km312 : xmt 312 = some (2, 3, 11, 1, [], xM312.2.2.2.2.2) := xmt_at (q := 15) (r := 12) rfl rfl
theorem km313 : xmt 313 = some (2, 4, 11, 1, [], xM313.2.2.2.2.2) := xmt_at (q := 15) (r := 13) rfl rfl
theorem km314 : xmt 314 = some (3, 3, 11, 1, [], xM314.2.2.2.2.2) := xmt_at (q := 15) (r := 14) rfl rfl
theorem km315 : xmt 315 = some (2, 4, 11, 1, [], xM315.2.2.2.2.2) := xmt_at (q := 15) (r := 15) rfl rfl
theorem km316 : xmt 316 = some (3, 4, 11, 1, [], xM316.2.2.2.2.2) := xmt_at (q := 15) (r := 16) rfl rfl
theorem km317 : xmt 317 = some (3, 3, 11, 1, [], xM317.2.2.2.2.2) := xmt_at (q := 15) (r := 17) rfl rfl
theorem km318 : xmt 318 = some (3, 4, 11, 1, [], xM318.2.2.2.2.2) := xmt_at (q := 15) (r := 18) rfl rfl
theorem km319 : xmt 319 = some (1, 1, 11, 1, [], xM319.2.2.2.2.2) := xmt_at (q := 15) (r := 19) rfl rfl
theorem km320 : xmt 320 = some (1, 1, 11, 1, [], xM320.2.2.2.2.2) := xmt_at (q := 16) (r := 0) rfl rfl
theorem km321 : xmt 321 = some (2, 2, 11, 1, [], xM321.2.2.2.2.2) := xmt_at (q := 16) (r := 1) rfl rfl
theorem km322 : xmt 322 = some (2, 3, 11, 1, [], xM322.2.2.2.2.2) := xmt_at (q := 16) (r := 2) rfl rfl
theorem km383 : xmt 383 = some (1, 1, 99, 1, [], xM383.2.2.2.2.2) := xmt_at (q := 19) (r := 3) rfl rfl
theorem km384 : xmt 384 = some (1, 1, 99, 1, [], xM384.2.2.2.2.2) := xmt_at (q := 19) (r := 4) rfl rfl
theorem km385 : xmt 385 = some (2, 2, 99, 1, [], xM385.2.2.2.2.2) := xmt_at (q := 19) (r := 5) rfl rfl
theorem km386 : xmt 386 = some (2, 2, 99, 1, [], xM386.2.2.2.2.2) := xmt_at (q := 19) (r := 6) rfl rfl
theorem km387 : xmt 387 = some (1, 1, 99, 2, [], xM387.2.2.2.2.2) := xmt_at (q := 19) (r := 7) rfl rfl
theorem km388 : xmt 388 = some (1, 1, 99, 1, [], xM388.2.2.2.2.2) := xmt_at (q := 19) (r := 8) rfl rfl
theorem km389 : xmt 389 = some (1, 2, 99, 2, [], xM389.2.2.2.2.2) := xmt_at (q := 19) (r := 9) rfl rfl
theorem km390 : xmt 390 = some (1, 2, 99, 5, [], xM390.2.2.2.2.2) := xmt_at (q := 19) (r := 10) rfl rfl
theorem km391 : xmt 391 = some (1, 1, 30, 1, [], xM391.2.2.2.2.2) := xmt_at (q := 19) (r := 11) rfl rfl
theorem km392 : xmt 392 = some (2, 2, 30, 4, [], xM392.2.2.2.2.2) := xmt_at (q := 19) (r := 12) rfl rfl
theorem km393 : xmt 393 = some (1, 1, 30, 3, [], xM393.2.2.2.2.2) := xmt_at (q := 19) (r := 13) rfl rfl
theorem km394 : xmt 394 = some (1, 1, 30, 2, [], xM394.2.2.2.2.2) := xmt_at (q := 19) (r := 14) rfl rfl
theorem km395 : xmt 395 = some (2, 2, 99, 0, [], xM395.2.2.2.2.2) := xmt_at (q := 19) (r := 15) rfl rfl
theorem km396 : xmt 396 = some (2, 2, 99, 4, [], xM396.2.2.2.2.2) := xmt_at (q := 19) (r := 16) rfl rfl
theorem km397 : xmt 397 = some (3, 3, 99, 1, [], xM397.2.2.2.2.2) := xmt_at (q := 19) (r := 17) rfl rfl
theorem k1_0 : xM1.2.2.2.2.2[0]? = some ([0, 1], [.aload 0, .getfield 0, .aload 0, .getfield 1, .arraylength, .if_icmp .ge 2, .goto_w 1]) := rfl
theorem k1_1 : xM1.2.2.2.2.2[1]? = some ([0, 1], [.aload 0, .getfield 1, .aload 0, .getfield 0, .iload 1, .iastore, .aload 0, .dup, .getfield 0, .iconst 1, .iadd, .putfield 0, .goto_w 2]) := rfl
theorem k1_2 : xM1.2.2.2.2.2[2]? = some ([], [.return_]) := rfl
theorem k2_0 : xM2.2.2.2.2.2[0]? = some ([0, 1], [.iload 1, .ifCond .ge 2, .goto_w 1]) := rfl
theorem k2_1 : xM2.2.2.2.2.2[1]? = some ([0, 1], [.aload 0, .iconst 45, .invokevirtual 1, .goto_w 2]) := rfl
theorem k2_2 : xM2.2.2.2.2.2[2]? = some ([0, 1], [.iload 1, .invokestatic 384, .istore 2, .iconst 1, .istore 3, .iload 2, .iconst 10, .idiv, .istore 4, .goto_w 3]) := rfl
theorem k2_3 : xM2.2.2.2.2.2[3]? = some ([0, 2, 3, 4], [.iload 4, .ifCond .le 6, .goto_w 4]) := rfl
theorem k2_4 : xM2.2.2.2.2.2[4]? = some ([0, 2, 3, 4], [.iload 3, .iconst 10, .if_icmp .ge 6, .goto_w 5]) := rfl
theorem k2_5 : xM2.2.2.2.2.2[5]? = some ([0, 2, 3, 4], [.iinc 3 1, .iload 4, .iconst 10, .idiv, .istore 4, .goto 3]) := rfl
theorem k2_6 : xM2.2.2.2.2.2[6]? = some ([0, 2, 3], [.aload 0, .getfield 0, .iload 3, .iadd, .istore 4, .iload 4, .aload 0, .getfield 1, .arraylength, .if_icmp .le 8, .goto_w 7]) := rfl
theorem k2_7 : xM2.2.2.2.2.2[7]? = some ([], [.return_]) := rfl
theorem k2_8 : xM2.2.2.2.2.2[8]? = some ([0, 2, 4], [.iload 4, .iconst 1, .isub, .istore 5, .goto_w 9]) := rfl
theorem k2_9 : xM2.2.2.2.2.2[9]? = some ([0, 2, 4, 5], [.iload 5, .aload 0, .getfield 0, .if_icmp .lt 11, .goto_w 10]) := rfl
theorem k2_10 : xM2.2.2.2.2.2[10]? = some ([0, 2, 4, 5], [.aload 0, .getfield 1, .iload 5, .iconst 48, .iload 2, .iconst 10, .irem, .iadd, .iastore, .iload 2, .iconst 10, .idiv, .istore 2, .iinc 5 (-1), .goto 9]) := rfl
theorem k2_11 : xM2.2.2.2.2.2[11]? = some ([0, 4], [.aload 0, .iload 4, .putfield 0, .return_]) := rfl
theorem k4_0 : xM4.2.2.2.2.2[0]? = some ([0, 1], [.aload 0, .aload 1, .getfield 32, .putfield 32, .aload 1, .getfield 33, .aload 0, .getfield 33, .invokestatic 172, .aload 1, .getfield 34, .aload 0, .getfield 34, .invokestatic 172, .aload 1, .getfield 35, .aload 0, .getfield 35, .invokestatic 172, .return_]) := rfl
theorem k5_0 : xM5.2.2.2.2.2[0]? = some ([0, 1, 2, 3], [.aload 0, .getfield 32, .iconst 12, .if_icmp .lt 2, .goto_w 1]) := rfl
theorem k5_1 : xM5.2.2.2.2.2[1]? = some ([], [.return_]) := rfl
theorem k5_2 : xM5.2.2.2.2.2[2]? = some ([0, 1, 2, 3], [.aload 0, .getfield 33, .aload 0, .getfield 32, .iload 1, .iastore, .aload 0, .getfield 34, .aload 0, .getfield 32, .iload 2, .iastore, .aload 0, .getfield 35, .aload 0, .getfield 32, .iload 3, .iastore, .aload 0, .dup, .getfield 32, .iconst 1, .iadd, .putfield 32, .return_]) := rfl
theorem k6_0 : xM6.2.2.2.2.2[0]? = some ([0, 1], [.iload 1, .ifCond .lt 2, .goto_w 1]) := rfl
theorem k6_1 : xM6.2.2.2.2.2[1]? = some ([0, 1], [.iload 1, .aload 0, .getfield 32, .if_icmp .lt 3, .goto_w 2]) := rfl
theorem k6_2 : xM6.2.2.2.2.2[2]? = some ([], [.return_]) := rfl
theorem k6_3 : xM6.2.2.2.2.2[3]? = some ([0, 1], [.iload 1, .istore 2, .goto_w 4]) := rfl
theorem k6_4 : xM6.2.2.2.2.2[4]? = some ([0, 2], [.iload 2, .iconst 1, .iadd, .aload 0, .getfield 32, .if_icmp .ge 6, .goto_w 5]) := rfl
theorem k6_5 : xM6.2.2.2.2.2[5]? = some ([0, 2], [.aload 0, .getfield 33, .iload 2, .aload 0, .getfield 33, .iload 2, .iconst 1, .iadd, .iaload, .iastore, .aload 0, .getfield 34, .iload 2, .aload 0, .getfield 34, .iload 2, .iconst 1, .iadd, .iaload, .iastore, .aload 0, .getfield 35, .iload 2, .aload 0, .getfield 35, .iload 2, .iconst 1, .iadd, .iaload, .iastore, .iinc 2 1, .goto 4]) := rfl
theorem k6_6 : xM6.2.2.2.2.2[6]? = some ([0], [.aload 0, .dup, .getfield 32, .iconst 1, .isub, .putfield 32, .return_]) := rfl
theorem k7_0 : xM7.2.2.2.2.2[0]? = some ([0, 1, 2], [.iconst 0, .istore 3, .iconst 0, .istore 4, .goto_w 1]) := rfl
theorem k7_1 : xM7.2.2.2.2.2[1]? = some ([0, 1, 2, 3, 4], [.iload 4, .aload 0, .getfield 32, .if_icmp .ge 6, .goto_w 2]) := rfl
theorem k7_2 : xM7.2.2.2.2.2[2]? = some ([0, 1, 2, 3, 4], [.aload 0, .getfield 34, .iload 4, .iaload, .iload 1, .if_icmp .lt 5, .goto_w 3]) := rfl
theorem k7_3 : xM7.2.2.2.2.2[3]? = some ([0, 1, 2, 3, 4], [.aload 0, .getfield 34, .iload 4, .iaload, .iload 2, .if_icmp .gt 5, .goto_w 4]) := rfl
theorem k7_4 : xM7.2.2.2.2.2[4]? = some ([0, 1, 2, 3, 4], [.iinc 3 1, .goto_w 5]) := rfl
theorem k7_5 : xM7.2.2.2.2.2[5]? = some ([0, 1, 2, 3, 4], [.iinc 4 1, .goto 1]) := rfl
theorem k7_6 : xM7.2.2.2.2.2[6]? = some ([3], [.iload 3, .ireturn]) := rfl
theorem k8_0 : xM8.2.2.2.2.2[0]? = some ([0, 1, 2], [.iconst (-1), .istore 3, .iconst 0, .istore 4, .goto_w 1]) := rfl
theorem k8_1 : xM8.2.2.2.2.2[1]? = some ([0, 1, 2, 3, 4], [.iload 4, .aload 0, .getfield 32, .if_icmp .ge 11, .goto_w 2]) := rfl
theorem k8_2 : xM8.2.2.2.2.2[2]? = some ([0, 1, 2, 3, 4], [.aload 0, .getfield 34, .iload 4, .iaload, .iload 1, .if_icmp .lt 5, .goto_w 3]) := rfl
theorem k8_3 : xM8.2.2.2.2.2[3]? = some ([0, 1, 2, 3, 4], [.aload 0, .getfield 34, .iload 4, .iaload, .iload 2, .if_icmp .gt 5, .goto_w 4]) := rfl
theorem k8_4 : xM8.2.2.2.2.2[4]? = some ([0, 1, 2, 3, 4], [.iconst 1, .goto 6]) := rfl
theorem k8_5 : xM8.2.2.2.2.2[5]? = some ([0, 1, 2, 3, 4], [.iconst 0, .goto_w 6]) := rfl
theorem k8_6 : xM8.2.2.2.2.2[6]? = some ([0, 1, 2, 3, 4], [.istore 5, .iload 5, .ifCond .eq 10, .goto_w 7]) := rfl
theorem k8_7 : xM8.2.2.2.2.2[7]? = some ([0, 1, 2, 3, 4], [.iload 3, .iconst (-1), .if_icmp .eq 9, .goto_w 8]) := rfl
theorem k8_8 : xM8.2.2.2.2.2[8]? = some ([0, 1, 2, 3, 4], [.aload 0, .getfield 34, .iload 4, .iaload, .aload 0, .getfield 34, .iload 3, .iaload, .if_icmp .le 10, .goto_w 9]) := rfl
theorem k8_9 : xM8.2.2.2.2.2[9]? = some ([0, 1, 2, 4], [.iload 4, .istore 3, .goto_w 10]) := rfl
theorem k8_10 : xM8.2.2.2.2.2[10]? = some ([0, 1, 2, 3, 4], [.iinc 4 1, .goto 1]) := rfl
theorem k8_11 : xM8.2.2.2.2.2[11]? = some ([3], [.iload 3, .ireturn]) := rfl
theorem k9_0 : xM9.2.2.2.2.2[0]? = some ([0, 1], [.iconst 0, .istore 2, .iconst 0, .istore 3, .goto_w 1]) := rfl
theorem k9_1 : xM9.2.2.2.2.2[1]? = some ([0, 1, 2, 3], [.iload 3, .aload 0, .getfield 32, .if_icmp .ge 5, .goto_w 2]) := rfl
theorem k9_2 : xM9.2.2.2.2.2[2]? = some ([0, 1, 2, 3], [.aload 0, .getfield 33, .iload 3, .iaload, .iload 1, .if_icmp .ne 4, .goto_w 3]) := rfl
theorem k9_3 : xM9.2.2.2.2.2[3]? = some ([0, 1, 2, 3], [.iinc 2 1, .goto_w 4]) := rfl
theorem k9_4 : xM9.2.2.2.2.2[4]? = some ([0, 1, 2, 3], [.iinc 3 1, .goto 1]) := rfl
theorem k9_5 : xM9.2.2.2.2.2[5]? = some ([2], [.iload 2, .ireturn]) := rfl
theorem k11_0 : xM11.2.2.2.2.2[0]? = some ([0], [.aload 0, .iconst 0, .putfield 64, .aload 0, .iconst 0, .putfield 65, .return_]) := rfl
theorem k12_0 : xM12.2.2.2.2.2[0]? = some ([0], [.iconst 0, .istore 1, .goto_w 1]) := rfl
theorem k12_1 : xM12.2.2.2.2.2[1]? = some ([0, 1], [.iload 1, .aload 0, .getfield 68, .arraylength, .if_icmp .ge 3, .goto_w 2]) := rfl
theorem k12_2 : xM12.2.2.2.2.2[2]? = some ([0, 1], [.aload 0, .getfield 68, .iload 1, .iconst 0, .bastore, .iinc 1 1, .goto 1]) := rfl
theorem k12_3 : xM12.2.2.2.2.2[3]? = some ([], [.return_]) := rfl
theorem k13_0 : xM13.2.2.2.2.2[0]? = some ([0, 1], [.aload 1, .aload 0, .getfield 66, .aload 0, .getfield 64, .aload 0, .getfield 65, .iadd, .iconst 8, .irem, .aaload, .invokestatic 17, .aload 0, .getfield 65, .iconst 8, .if_icmp .ge 2, .goto_w 1]) := rfl
theorem k13_1 : xM13.2.2.2.2.2[1]? = some ([0], [.aload 0, .dup, .getfield 65, .iconst 1, .iadd, .putfield 65, .goto 3]) := rfl
theorem k13_2 : xM13.2.2.2.2.2[2]? = some ([0], [.aload 0, .aload 0, .getfield 64, .iconst 1, .iadd, .iconst 8, .irem, .putfield 64, .goto_w 3]) := rfl
theorem k13_3 : xM13.2.2.2.2.2[3]? = some ([], [.return_]) := rfl
theorem k14_0 : xM14.2.2.2.2.2[0]? = some ([0, 1], [.aload 0, .getfield 65, .ifCond .le 2, .goto_w 1]) := rfl
theorem k14_1 : xM14.2.2.2.2.2[1]? = some ([0, 1], [.aload 0, .dup, .getfield 65, .iconst 1, .isub, .putfield 65, .aload 0, .getfield 66, .aload 0, .getfield 64, .aload 0, .getfield 65, .iadd, .iconst 8, .irem, .aaload, .aload 1, .invokestatic 17, .goto_w 2]) := rfl
theorem k14_2 : xM14.2.2.2.2.2[2]? = some ([], [.return_]) := rfl
theorem k15_0 : xM15.2.2.2.2.2[0]? = some ([0, 1, 2], [.aload 2, .aload 0, .getfield 67, .iload 1, .aaload, .invokestatic 17, .aload 0, .getfield 68, .iload 1, .iconst 1, .bastore, .return_]) := rfl
theorem k16_0 : xM16.2.2.2.2.2[0]? = some ([0, 1, 2], [.aload 0, .getfield 67, .iload 1, .aaload, .aload 2, .invokestatic 17, .return_]) := rfl
theorem k17_0 : xM17.2.2.2.2.2[0]? = some ([0, 1], [.aload 0, .ifnull 3, .goto_w 1]) := rfl
theorem k17_1 : xM17.2.2.2.2.2[1]? = some ([0, 1], [.aload 1, .ifnull 3, .goto_w 2]) := rfl
theorem k17_2 : xM17.2.2.2.2.2[2]? = some ([0, 1], [.aload 1, .aload 0, .invokevirtual 68, .goto_w 3]) := rfl
theorem k17_3 : xM17.2.2.2.2.2[3]? = some ([], [.return_]) := rfl
theorem k19_0 : xM19.2.2.2.2.2[0]? = some ([0, 1], [.aload 0, .iconst 0, .putfield 99, .aload 0, .iconst (-1), .putfield 100, .aload 0, .getfield 97, .invokevirtual 69, .aload 0, .getfield 98, .iconst 0, .putfield 192, .aload 0, .getfield 96, .iload 1, .invokevirtual 83, .aload 0, .invokevirtual 21, .ifCond .ne 2, .goto_w 1]) := rfl
theorem k19_1 : xM19.2.2.2.2.2[1]? = some ([], [.iconst 0, .ireturn]) := rfl
theorem k19_2 : xM19.2.2.2.2.2[2]? = some ([0], [.aload 0, .getfield 96, .invokevirtual 84, .iconst 0, .istore 2, .goto_w 3]) := rfl
theorem k19_3 : xM19.2.2.2.2.2[3]? = some ([0, 2], [.iload 2, .iconst 700, .if_icmp .ge 8, .goto_w 4]) := rfl
theorem k19_4 : xM19.2.2.2.2.2[4]? = some ([0, 2], [.aload 0, .getfield 96, .getfield 293, .iconst 3, .if_icmp .ne 8, .goto_w 5]) := rfl
theorem k19_5 : xM19.2.2.2.2.2[5]? = some ([0, 2], [.aload 0, .invokevirtual 22, .ifCond .ne 7, .goto_w 6]) := rfl
theorem k19_6 : xM19.2.2.2.2.2[6]? = some ([], [.iconst 0, .ireturn]) := rfl
theorem k19_7 : xM19.2.2.2.2.2[7]? = some ([0, 2], [.aload 0, .getfield 96, .invokevirtual 84, .iinc 2 1, .goto 3]) := rfl
theorem k19_8 : xM19.2.2.2.2.2[8]? = some ([0], [.aload 0, .getfield 96, .getfield 293, .ifCond .eq 10, .goto_w 9]) := rfl
theorem k19_9 : xM19.2.2.2.2.2[9]? = some ([0], [.aload 0, .iconst 1, .invokevirtual 20, .ifCond .eq 11, .goto_w 10]) := rfl
theorem k19_10 : xM19.2.2.2.2.2[10]? = some ([], [.iconst 1, .goto 12]) := rfl
theorem k19_11 : xM19.2.2.2.2.2[11]? = some ([], [.iconst 0, .goto_w 12]) := rfl
theorem k19_12 : xM19.2.2.2.2.2[12]? = some ([], [.ireturn]) := rfl
theorem k20_0 : xM20.2.2.2.2.2[0]? = some ([0, 1], [.aload 0, .iload 1, .putfield 99, .aload 0, .aload 0, .getfield 96, .getfield 291, .putfield 100, .iconst 0, .ireturn]) := rfl
theorem k21_0 : xM21.2.2.2.2.2[0]? = some ([0], [.aload 0, .getfield 96, .invokevirtual 84, .aload 0, .getfield 96, .ldc 1, .invokevirtual 89, .ifCond .ne 2, .goto_w 1]) := rfl
theorem k21_1 : xM21.2.2.2.2.2[1]? = some ([0], [.aload 0, .iconst 1, .invokevirtual 20, .ireturn]) := rfl
theorem k21_2 : xM21.2.2.2.2.2[2]? = some ([0], [.iconst 0, .istore 1, .goto_w 3]) := rfl
theorem k21_3 : xM21.2.2.2.2.2[3]? = some ([0, 1], [.iload 1, .iconst 6, .if_icmp .ge 7, .goto_w 4]) := rfl
theorem k21_4 : xM21.2.2.2.2.2[4]? = some ([0, 1], [.aload 0, .getstatic 0, .iload 1, .iaload, .getstatic 1, .iload 1, .iaload, .invokevirtual 26, .ifCond .ne 6, .goto_w 5]) := rfl
theorem k21_5 : xM21.2.2.2.2.2[5]? = some ([], [.iconst 0, .ireturn]) := rfl
theorem k21_6 : xM21.2.2.2.2.2[6]? = some ([0, 1], [.aload 0, .getfield 97, .getfield 260, .iload 1, .aload 0, .getfield 96, .getfield 294, .iastore, .iinc 1 1, .goto 3]) := rfl
theorem k21_7 : xM21.2.2.2.2.2[7]? = some ([], [.iconst 1, .ireturn]) := rfl
theorem k22_0 : xM22.2.2.2.2.2[0]? = some ([0], [.aload 0, .getfield 96, .invokevirtual 84, .aload 0, .getfield 96, .ldc 2, .invokevirtual 89, .ifCond .eq 5, .goto_w 1]) := rfl
theorem k22_1 : xM22.2.2.2.2.2[1]? = some ([0], [.aload 0, .getfield 97, .getfield 262, .getfield 224, .iconst 12, .if_icmp .ge 3, .goto_w 2]) := rfl
theorem k22_2 : xM22.2.2.2.2.2[2]? = some ([0], [.aload 0, .invokevirtual 23, .goto 4]) := rfl
theorem k22_3 : xM22.2.2.2.2.2[3]? = some ([0], [.aload 0, .iconst 4, .invokevirtual 20, .goto_w 4]) := rfl
theorem k22_4 : xM22.2.2.2.2.2[4]? = some ([], [.ireturn]) := rfl
theorem k22_5 : xM22.2.2.2.2.2[5]? = some ([0], [.aload 0, .getfield 96, .ldc 3, .invokevirtual 89, .ifCond .eq 10, .goto_w 6]) := rfl
theorem k22_6 : xM22.2.2.2.2.2[6]? = some ([0], [.aload 0, .getfield 98, .getfield 192, .iconst 6, .if_icmp .ge 8, .goto_w 7]) := rfl
theorem k22_7 : xM22.2.2.2.2.2[7]? = some ([0], [.aload 0, .invokevirtual 24, .goto 9]) := rfl
theorem k22_8 : xM22.2.2.2.2.2[8]? = some ([0], [.aload 0, .iconst 4, .invokevirtual 20, .goto_w 9]) := rfl
theorem k22_9 : xM22.2.2.2.2.2[9]? = some ([], [.ireturn]) := rfl
theorem k22_10 : xM22.2.2.2.2.2[10]? = some ([0], [.aload 0, .getfield 96, .ldc 6, .invokevirtual 89, .ifCond .eq 15, .goto_w 11]) := rfl
theorem k22_11 : xM22.2.2.2.2.2[11]? = some ([0], [.aload 0, .getfield 97, .getfield 264, .getfield 128, .iconst 12, .if_icmp .ge 13, .goto_w 12]) := rfl
theorem k22_12 : xM22.2.2.2.2.2[12]? = some ([0], [.aload 0, .invokevirtual 25, .goto 14]) := rfl
theorem k22_13 : xM22.2.2.2.2.2[13]? = some ([0], [.aload 0, .iconst 4, .invokevirtual 20, .goto_w 14]) := rfl
theorem k22_14 : xM22.2.2.2.2.2[14]? = some ([], [.ireturn]) := rfl
theorem k22_15 : xM22.2.2.2.2.2[15]? = some ([0], [.aload 0, .iconst 1, .invokevirtual 20, .ireturn]) := rfl
theorem k23_0 : xM23.2.2.2.2.2[0]? = some ([0], [.aload 0, .getfield 96, .invokevirtual 84, .aload 0, .getfield 96, .invokevirtual 87, .iconst 1, .if_icmp .eq 2, .goto_w 1]) := rfl
theorem k23_1 : xM23.2.2.2.2.2[1]? = some ([0], [.aload 0, .iconst 1, .invokevirtual 20, .ireturn]) := rfl
theorem k23_2 : xM23.2.2.2.2.2[2]? = some ([0], [.aload 0, .getfield 96, .iconst 0, .invokevirtual 88, .iconst 96, .isub, .istore 1, .aload 0, .iconst 1, .iconst 200, .invokevirtual 26, .ifCond .ne 4, .goto_w 3]) := rfl
theorem k23_3 : xM23.2.2.2.2.2[3]? = some ([], [.iconst 0, .ireturn]) := rfl
theorem k23_4 : xM23.2.2.2.2.2[4]? = some ([0, 1], [.aload 0, .getfield 96, .getfield 294, .istore 2, .aload 0, .iconst 0, .iconst 20, .invokevirtual 26, .ifCond .ne 6, .goto_w 5]) := rfl
theorem k23_5 : xM23.2.2.2.2.2[5]? = some ([], [.iconst 0, .ireturn]) := rfl
theorem k23_6 : xM23.2.2.2.2.2[6]? = some ([0, 1, 2], [.aload 0, .getfield 97, .getfield 262, .iload 1, .iload 2, .aload 0, .getfield 96, .getfield 294, .aload 0, .getfield 97, .getfield 260, .iconst 0, .iaload, .invokevirtual 49, .iconst 1, .ireturn]) := rfl
theorem k24_0 : xM24.2.2.2.2.2[0]? = some ([0], [.aload 0, .getfield 96, .invokevirtual 84, .aload 0, .getfield 96, .ldc 4, .invokevirtual 89, .istore 1, .iload 1, .ifCond .ne 3, .goto_w 1]) := rfl
theorem k24_1 : xM24.2.2.2.2.2[1]? = some ([0, 1], [.aload 0, .getfield 96, .ldc 5, .invokevirtual 89, .ifCond .ne 3, .goto_w 2]) := rfl
theorem k24_2 : xM24.2.2.2.2.2[2]? = some ([0], [.aload 0, .iconst 1, .invokevirtual 20, .ireturn]) := rfl
theorem k24_3 : xM24.2.2.2.2.2[3]? = some ([0, 1], [.aload 0, .iconst 0, .iconst 9999, .invokevirtual 26, .ifCond .ne 5, .goto_w 4]) := rfl
theorem k24_4 : xM24.2.2.2.2.2[4]? = some ([], [.iconst 0, .ireturn]) := rfl
theorem k24_5 : xM24.2.2.2.2.2[5]? = some ([0, 1], [.aload 0, .getfield 96, .getfield 294, .istore 2, .aload 0, .getfield 96, .invokevirtual 84, .aload 0, .getfield 96, .getfield 293, .iconst 1, .if_icmp .eq 7, .goto_w 6]) := rfl
theorem k24_6 : xM24.2.2.2.2.2[6]? = some ([0], [.aload 0, .iconst 1, .invokevirtual 20, .ireturn]) := rfl
theorem k24_7 : xM24.2.2.2.2.2[7]? = some ([0, 1, 2], [.aload 0, .getfield 98, .iload 1, .ifCond .eq 9, .goto_w 8]) := rfl
theorem k24_8 : xM24.2.2.2.2.2[8]? = some ([0, 2], [.iconst 1, .goto 10]) := rfl
theorem k24_9 : xM24.2.2.2.2.2[9]? = some ([0, 2], [.iconst 0, .goto_w 10]) := rfl
theorem k24_10 : xM24.2.2.2.2.2[10]? = some ([0, 2], [.iload 2, .invokevirtual 43, .iconst 0, .istore 3, .goto_w 11]) := rfl
theorem k24_11 : xM24.2.2.2.2.2[11]? = some ([0, 3], [.iload 3, .aload 0, .getfield 96, .invokevirtual 87, .if_icmp .ge 13, .goto_w 12]) := rfl
theorem k24_12 : xM24.2.2.2.2.2[12]? = some ([0, 3], [.aload 0, .getfield 98, .aload 0, .getfield 96, .iload 3, .invokevirtual 88, .invokevirtual 44, .iinc 3 1, .goto 11]) := rfl
theorem k24_13 : xM24.2.2.2.2.2[13]? = some ([], [.iconst 1, .ireturn]) := rfl
theorem k25_0 : xM25.2.2.2.2.2[0]? = some ([0], [.aload 0, .iconst 1, .iconst 5000, .invokevirtual 26, .ifCond .ne 2, .goto_w 1]) := rfl
theorem k25_1 : xM25.2.2.2.2.2[1]? = some ([], [.iconst 0, .ireturn]) := rfl
theorem k25_2 : xM25.2.2.2.2.2[2]? = some ([0], [.aload 0, .getfield 96, .getfield 294, .istore 1, .aload 0, .iconst 0, .aload 0, .getfield 97, .getfield 262, .getfield 224, .iconst 2, .isub, .invokevirtual 26, .ifCond .ne 4, .goto_w 3]) := rfl
theorem k25_3 : xM25.2.2.2.2.2[3]? = some ([], [.iconst 0, .ireturn]) := rfl
theorem k25_4 : xM25.2.2.2.2.2[4]? = some ([0, 1], [.aload 0, .getfield 97, .getfield 264, .iload 1, .aload 0, .getfield 96, .getfield 294, .invokevirtual 29, .iconst 1, .ireturn]) := rfl
theorem k26_0 : xM26.2.2.2.2.2[0]? = some ([0, 1, 2], [.aload 0, .getfield 96, .invokevirtual 84, .aload 0, .getfield 96, .getfield 293, .iconst 2, .if_icmp .eq 2, .goto_w 1]) := rfl
theorem k26_1 : xM26.2.2.2.2.2[1]? = some ([0], [.aload 0, .iconst 1, .invokevirtual 20, .ireturn]) := rfl
theorem k26_2 : xM26.2.2.2.2.2[2]? = some ([0, 1, 2], [.aload 0, .getfield 96, .getfield 294, .iload 1, .if_icmp .lt 4, .goto_w 3]) := rfl
theorem k26_3 : xM26.2.2.2.2.2[3]? = some ([0, 2], [.aload 0, .getfield 96, .getfield 294, .iload 2, .if_icmp .le 5, .goto_w 4]) := rfl
theorem k26_4 : xM26.2.2.2.2.2[4]? = some ([0], [.aload 0, .iconst 2, .invokevirtual 20, .ireturn]) := rfl
theorem k26_5 : xM26.2.2.2.2.2[5]? = some ([], [.iconst 1, .ireturn]) := rfl
theorem k28_0 : xM28.2.2.2.2.2[0]? = some ([0, 1], [.aload 0, .aload 1, .getfield 128, .putfield 128, .aload 1, .getfield 129, .aload 0, .getfield 129, .invokestatic 172, .aload 1, .getfield 130, .aload 0, .getfield 130, .invokestatic 172, .aload 1, .getfield 131, .aload 0, .getfield 131, .invokestatic 172, .return_]) := rfl
theorem k29_0 : xM29.2.2.2.2.2[0]? = some ([0, 1, 2], [.aload 0, .getfield 128, .iconst 12, .if_icmp .lt 2, .goto_w 1]) := rfl
theorem k29_1 : xM29.2.2.2.2.2[1]? = some ([], [.return_]) := rfl
theorem k29_2 : xM29.2.2.2.2.2[2]? = some ([0, 1, 2], [.aload 0, .getfield 129, .aload 0, .getfield 128, .iload 1, .iastore, .aload 0, .getfield 130, .aload 0, .getfield 128, .iload 2, .iastore, .aload 0, .getfield 131, .aload 0, .getfield 128, .iconst 0, .iastore, .aload 0, .dup, .getfield 128, .iconst 1, .iadd, .putfield 128, .return_]) := rfl
theorem k30_0 : xM30.2.2.2.2.2[0]? = some ([0, 1], [.iconst 0, .istore 2, .iconst 0, .istore 3, .goto_w 1]) := rfl
theorem k30_1 : xM30.2.2.2.2.2[1]? = some ([0, 1, 2, 3], [.iload 3, .aload 0, .getfield 128, .if_icmp .ge 5, .goto_w 2]) := rfl
theorem k30_2 : xM30.2.2.2.2.2[2]? = some ([0, 1, 2, 3], [.aload 0, .getfield 131, .iload 3, .iaload, .iload 1, .if_icmp .ne 4, .goto_w 3]) := rfl
theorem k30_3 : xM30.2.2.2.2.2[3]? = some ([0, 1, 2, 3], [.iinc 2 1, .goto_w 4]) := rfl
theorem k30_4 : xM30.2.2.2.2.2[4]? = some ([0, 1, 2, 3], [.iinc 3 1, .goto 1]) := rfl
theorem k30_5 : xM30.2.2.2.2.2[5]? = some ([2], [.iload 2, .ireturn]) := rfl
theorem k31_0 : xM31.2.2.2.2.2[0]? = some ([0], [.iconst (-1), .istore 1, .iconst 0, .istore 2, .goto_w 1]) := rfl
theorem k31_1 : xM31.2.2.2.2.2[1]? = some ([0, 1, 2], [.iload 2, .aload 0, .getfield 128, .if_icmp .ge 7, .goto_w 2]) := rfl
theorem k31_2 : xM31.2.2.2.2.2[2]? = some ([0, 1, 2], [.aload 0, .getfield 131, .iload 2, .iaload, .ifCond .ne 6, .goto_w 3]) := rfl
theorem k31_3 : xM31.2.2.2.2.2[3]? = some ([0, 1, 2], [.iload 1, .iconst (-1), .if_icmp .eq 5, .goto_w 4]) := rfl
theorem k31_4 : xM31.2.2.2.2.2[4]? = some ([0, 1, 2], [.aload 0, .getfield 129, .iload 2, .iaload, .aload 0, .getfield 129, .iload 1, .iaload, .if_icmp .ge 6, .goto_w 5]) := rfl
theorem k31_5 : xM31.2.2.2.2.2[5]? = some ([0, 2], [.iload 2, .istore 1, .goto_w 6]) := rfl
theorem k31_6 : xM31.2.2.2.2.2[6]? = some ([0, 1, 2], [.iinc 2 1, .goto 1]) := rfl
theorem k31_7 : xM31.2.2.2.2.2[7]? = some ([1], [.iload 1, .ireturn]) := rfl
theorem k33_0 : xM33.2.2.2.2.2[0]? = some ([0, 1, 2, 3], [.aload 0, .iconst 0, .putfield 160, .aload 0, .iconst 0, .putfield 161, .aload 1, .getfield 262, .astore 4, .iconst 0, .istore 5, .goto_w 1]) := rfl
theorem k33_1 : xM33.2.2.2.2.2[1]? = some ([0, 1, 2, 3, 4, 5], [.iload 5, .aload 4, .getfield 224, .if_icmp .ge 8, .goto_w 2]) := rfl
theorem k33_2 : xM33.2.2.2.2.2[2]? = some ([0, 1, 2, 3, 4, 5], [.aload 2, .getfield 193, .iload 3, .iaload, .iconst 1, .if_icmp .ne 4, .goto_w 3]) := rfl
theorem k33_3 : xM33.2.2.2.2.2[3]? = some ([0, 1, 2, 3, 4, 5], [.aload 4, .getfield 224, .iconst 1, .isub, .iload 5, .isub, .goto 5]) := rfl
theorem k33_4 : xM33.2.2.2.2.2[4]? = some ([0, 1, 2, 3, 4, 5], [.iload 5, .goto_w 5]) := rfl
theorem k33_5 : xM33.2.2.2.2.2[5]? = some ([0, 1, 2, 3, 4, 5], [.istore 6, .aload 1, .iload 6, .aload 2, .getfield 194, .iload 3, .iaload, .invokevirtual 79, .ifCond .eq 7, .goto_w 6]) := rfl
theorem k33_6 : xM33.2.2.2.2.2[6]? = some ([0, 1, 2, 3, 4, 5, 6], [.aload 0, .aload 4, .iload 6, .aload 1, .getfield 260, .iconst 2, .iaload, .invokevirtual 34, .goto_w 7]) := rfl
theorem k33_7 : xM33.2.2.2.2.2[7]? = some ([0, 1, 2, 3, 4, 5], [.iinc 5 1, .goto 1]) := rfl
theorem k33_8 : xM33.2.2.2.2.2[8]? = some ([], [.return_]) := rfl
theorem k34_0 : xM34.2.2.2.2.2[0]? = some ([0, 1, 2, 3], [.aload 0, .getfield 161, .aload 0, .getfield 163, .arraylength, .if_icmp .ge 2, .goto_w 1]) := rfl
theorem k34_1 : xM34.2.2.2.2.2[1]? = some ([0, 1, 2, 3], [.aload 0, .getfield 160, .iconst 1, .iadd, .aload 0, .getfield 162, .arraylength, .if_icmp .lt 3, .goto_w 2]) := rfl
theorem k34_2 : xM34.2.2.2.2.2[2]? = some ([], [.return_]) := rfl
theorem k34_3 : xM34.2.2.2.2.2[3]? = some ([0, 1, 2, 3], [.aload 0, .getfield 161, .ifCond .le 6, .goto_w 4]) := rfl
theorem k34_4 : xM34.2.2.2.2.2[4]? = some ([0, 1, 2, 3], [.aload 1, .getfield 230, .iload 2, .iaload, .aload 1, .getfield 230, .aload 0, .getfield 163, .aload 0, .getfield 161, .iconst 1, .isub, .iaload, .iaload, .isub, .invokestatic 384, .iload 3, .if_icmp .le 6, .goto_w 5]) := rfl
theorem k34_5 : xM34.2.2.2.2.2[5]? = some ([0, 1, 2], [.aload 0, .getfield 162, .aload 0, .getfield 160, .iconst 32, .iastore, .aload 0, .dup, .getfield 160, .iconst 1, .iadd, .putfield 160, .goto_w 6]) := rfl
theorem k34_6 : xM34.2.2.2.2.2[6]? = some ([0, 1, 2], [.aload 0, .getfield 162, .aload 0, .getfield 160, .iconst 96, .aload 1, .getfield 229, .iload 2, .iaload, .iadd, .iastore, .aload 0, .dup, .getfield 160, .iconst 1, .iadd, .putfield 160, .aload 0, .getfield 163, .aload 0, .getfield 161, .iload 2, .iastore, .aload 0, .dup, .getfield 161, .iconst 1, .iadd, .putfield 161, .return_]) := rfl
theorem k35_0 : xM35.2.2.2.2.2[0]? = some ([0, 1], [.iload 1, .ifCond .lt 3, .goto_w 1]) := rfl
theorem k35_1 : xM35.2.2.2.2.2[1]? = some ([0, 1], [.iload 1, .aload 0, .getfield 160, .if_icmp .ge 3, .goto_w 2]) := rfl
theorem k35_2 : xM35.2.2.2.2.2[2]? = some ([0, 1], [.aload 0, .getfield 162, .iload 1, .iaload, .goto 4]) := rfl
theorem k35_3 : xM35.2.2.2.2.2[3]? = some ([], [.iconst (-1), .goto_w 4]) := rfl
theorem k35_4 : xM35.2.2.2.2.2[4]? = some ([], [.ireturn]) := rfl
theorem k36_0 : xM36.2.2.2.2.2[0]? = some ([0, 1], [.iload 1, .ifCond .lt 3, .goto_w 1]) := rfl
theorem k36_1 : xM36.2.2.2.2.2[1]? = some ([0, 1], [.iload 1, .aload 0, .getfield 161, .if_icmp .ge 3, .goto_w 2]) := rfl
theorem k36_2 : xM36.2.2.2.2.2[2]? = some ([0, 1], [.aload 0, .getfield 163, .iload 1, .iaload, .goto 4]) := rfl
theorem k36_3 : xM36.2.2.2.2.2[3]? = some ([], [.iconst (-1), .goto_w 4]) := rfl
theorem k36_4 : xM36.2.2.2.2.2[4]? = some ([], [.ireturn]) := rfl
theorem k37_0 : xM37.2.2.2.2.2[0]? = some ([0, 1, 2], [.iconst 0, .istore 3, .iconst 0, .istore 4, .goto_w 1]) := rfl
theorem k37_1 : xM37.2.2.2.2.2[1]? = some ([0, 1, 2, 3, 4], [.iload 4, .aload 0, .getfield 160, .if_icmp .ge 6, .goto_w 2]) := rfl
theorem k37_2 : xM37.2.2.2.2.2[2]? = some ([0, 1, 2, 3, 4], [.iload 4, .aload 1, .getfield 195, .iload 2, .iaload, .if_icmp .ge 6, .goto_w 3]) := rfl
theorem k37_3 : xM37.2.2.2.2.2[3]? = some ([0, 1, 2, 3, 4], [.aload 0, .getfield 162, .iload 4, .iaload, .aload 1, .iload 2, .iload 4, .invokevirtual 45, .if_icmp .ne 5, .goto_w 4]) := rfl
theorem k37_4 : xM37.2.2.2.2.2[4]? = some ([0, 1, 2, 3, 4], [.iinc 3 1, .goto_w 5]) := rfl
theorem k37_5 : xM37.2.2.2.2.2[5]? = some ([0, 1, 2, 3, 4], [.iinc 4 1, .goto 1]) := rfl
theorem k37_6 : xM37.2.2.2.2.2[6]? = some ([3], [.iload 3, .ireturn]) := rfl
theorem k38_0 : xM38.2.2.2.2.2[0]? = some ([0, 1, 2], [.aload 0, .getfield 160, .aload 1, .getfield 195, .iload 2, .iaload, .invokestatic 386, .istore 3, .iconst 0, .istore 4, .goto_w 1]) := rfl
theorem k38_1 : xM38.2.2.2.2.2[1]? = some ([0, 1, 2, 3, 4], [.iload 4, .iload 3, .if_icmp .ge 5, .goto_w 2]) := rfl
theorem k38_2 : xM38.2.2.2.2.2[2]? = some ([0, 1, 2, 3, 4], [.aload 0, .getfield 162, .iload 4, .iaload, .aload 1, .iload 2, .iload 4, .invokevirtual 45, .if_icmp .eq 4, .goto_w 3]) := rfl
theorem k38_3 : xM38.2.2.2.2.2[3]? = some ([4], [.iload 4, .ireturn]) := rfl
theorem k38_4 : xM38.2.2.2.2.2[4]? = some ([0, 1, 2, 3, 4], [.iinc 4 1, .goto 1]) := rfl
theorem k38_5 : xM38.2.2.2.2.2[5]? = some ([3], [.iload 3, .ireturn]) := rfl
theorem k39_0 : xM39.2.2.2.2.2[0]? = some ([0, 1, 2], [.aload 0, .getfield 160, .aload 1, .getfield 195, .iload 2, .iaload, .if_icmp .ne 3, .goto_w 1]) := rfl
theorem k39_1 : xM39.2.2.2.2.2[1]? = some ([0, 1, 2], [.aload 0, .aload 1, .iload 2, .invokevirtual 37, .aload 0, .getfield 160, .if_icmp .ne 3, .goto_w 2]) := rfl
theorem k39_2 : xM39.2.2.2.2.2[2]? = some ([], [.iconst 1, .goto 4]) := rfl
theorem k39_3 : xM39.2.2.2.2.2[3]? = some ([], [.iconst 0, .goto_w 4]) := rfl
theorem k39_4 : xM39.2.2.2.2.2[4]? = some ([], [.ireturn]) := rfl
theorem k40_0 : xM40.2.2.2.2.2[0]? = some ([0, 1, 2], [.aload 0, .getfield 160, .aload 1, .getfield 195, .iload 2, .iaload, .invokestatic 385, .istore 3, .iload 3, .ifCond .le 2, .goto_w 1]) := rfl
theorem k40_1 : xM40.2.2.2.2.2[1]? = some ([0, 1, 2, 3], [.aload 0, .aload 1, .iload 2, .invokevirtual 37, .i2f, .iload 3, .i2f, .fdiv, .goto 3]) := rfl
theorem k40_2 : xM40.2.2.2.2.2[2]? = some ([], [.fconst 0, .goto_w 3]) := rfl
theorem k40_3 : xM40.2.2.2.2.2[3]? = some ([], [.freturn]) := rfl
theorem k42_0 : xM42.2.2.2.2.2[0]? = some ([0, 1], [.aload 0, .aload 1, .getfield 192, .putfield 192, .aload 1, .getfield 193, .aload 0, .getfield 193, .invokestatic 172, .aload 1, .getfield 194, .aload 0, .getfield 194, .invokestatic 172, .aload 1, .getfield 195, .aload 0, .getfield 195, .invokestatic 172, .aload 1, .getfield 196, .aload 0, .getfield 196, .invokestatic 172, .return_]) := rfl
theorem k43_0 : xM43.2.2.2.2.2[0]? = some ([0, 1, 2], [.aload 0, .getfield 192, .iconst 6, .if_icmp .lt 2, .goto_w 1]) := rfl
theorem k43_1 : xM43.2.2.2.2.2[1]? = some ([], [.return_]) := rfl
theorem k43_2 : xM43.2.2.2.2.2[2]? = some ([0, 1, 2], [.aload 0, .getfield 193, .aload 0, .getfield 192, .iload 1, .iastore, .aload 0, .getfield 194, .aload 0, .getfield 192, .iload 2, .iastore, .aload 0, .getfield 195, .aload 0, .getfield 192, .iconst 0, .iastore, .aload 0, .dup, .getfield 192, .iconst 1, .iadd, .putfield 192, .return_]) := rfl
theorem k44_0 : xM44.2.2.2.2.2[0]? = some ([0, 1], [.aload 0, .getfield 192, .iconst 1, .isub, .istore 2, .iload 2, .ifCond .lt 2, .goto_w 1]) := rfl
theorem k44_1 : xM44.2.2.2.2.2[1]? = some ([0, 1, 2], [.aload 0, .getfield 195, .iload 2, .iaload, .iconst 8, .if_icmp .lt 3, .goto_w 2]) := rfl
theorem k44_2 : xM44.2.2.2.2.2[2]? = some ([], [.return_]) := rfl
theorem k44_3 : xM44.2.2.2.2.2[3]? = some ([0, 1, 2], [.aload 0, .getfield 196, .iload 2, .iconst 8, .imul, .aload 0, .getfield 195, .iload 2, .iaload, .iadd, .iload 1, .iastore, .aload 0, .getfield 195, .iload 2, .dup2, .iaload, .iconst 1, .iadd, .iastore, .return_]) := rfl
theorem k45_0 : xM45.2.2.2.2.2[0]? = some ([0, 1, 2], [.iload 2, .ifCond .lt 3, .goto_w 1]) := rfl
theorem k45_1 : xM45.2.2.2.2.2[1]? = some ([0, 1, 2], [.iload 2, .aload 0, .getfield 195, .iload 1, .iaload, .if_icmp .ge 3, .goto_w 2]) := rfl
theorem k45_2 : xM45.2.2.2.2.2[2]? = some ([0, 1, 2], [.aload 0, .getfield 196, .iload 1, .iconst 8, .imul, .iload 2, .iadd, .iaload, .goto 4]) := rfl
theorem k45_3 : xM45.2.2.2.2.2[3]? = some ([], [.iconst (-1), .goto_w 4]) := rfl
theorem k45_4 : xM45.2.2.2.2.2[4]? = some ([], [.ireturn]) := rfl
theorem k46_0 : xM46.2.2.2.2.2[0]? = some ([0, 1, 2], [.iconst 0, .istore 3, .iconst 0, .istore 4, .goto_w 1]) := rfl
theorem k46_1 : xM46.2.2.2.2.2[1]? = some ([0, 1, 2, 3, 4], [.iload 4, .aload 0, .getfield 195, .iload 1, .iaload, .if_icmp .ge 5, .goto_w 2]) := rfl
theorem k46_2 : xM46.2.2.2.2.2[2]? = some ([0, 1, 2, 3, 4], [.aload 0, .iload 1, .iload 4, .invokevirtual 45, .iconst 96, .iload 2, .iadd, .if_icmp .ne 4, .goto_w 3]) := rfl
theorem k46_3 : xM46.2.2.2.2.2[3]? = some ([0, 1, 2, 3, 4], [.iinc 3 1, .goto_w 4]) := rfl
theorem k46_4 : xM46.2.2.2.2.2[4]? = some ([0, 1, 2, 3, 4], [.iinc 4 1, .goto 1]) := rfl
theorem k46_5 : xM46.2.2.2.2.2[5]? = some ([3], [.iload 3, .ireturn]) := rfl
theorem k48_0 : xM48.2.2.2.2.2[0]? = some ([0, 1], [.aload 0, .aload 1, .getfield 224, .putfield 224, .aload 1, .getfield 225, .aload 0, .getfield 225, .invokestatic 172, .aload 1, .getfield 226, .aload 0, .getfield 226, .invokestatic 172, .aload 1, .getfield 227, .aload 0, .getfield 227, .invokestatic 172, .aload 1, .getfield 228, .aload 0, .getfield 228, .invokestatic 172, .aload 1, .getfield 229, .aload 0, .getfield 229, .invokestatic 172, .aload 1, .getfield 230, .aload 0, .getfield 230, .invokestatic 172, .aload 1, .getfield 232, .aload 0, .getfield 232, .invokestatic 172, .return_]) := rfl
theorem k49_0 : xM49.2.2.2.2.2[0]? = some ([0, 1, 2, 3, 4], [.aload 0, .getfield 224, .iconst 12, .if_icmp .lt 2, .goto_w 1]) := rfl
theorem k49_1 : xM49.2.2.2.2.2[1]? = some ([], [.return_]) := rfl
theorem k49_2 : xM49.2.2.2.2.2[2]? = some ([0, 1, 2, 3, 4], [.aload 0, .getfield 225, .aload 0, .getfield 224, .iload 1, .iastore, .aload 0, .getfield 226, .aload 0, .getfield 224, .iload 2, .iastore, .aload 0, .getfield 227, .aload 0, .getfield 224, .iload 3, .iastore, .aload 0, .getfield 228, .aload 0, .getfield 224, .iconst 100, .iastore, .aload 0, .getfield 229, .aload 0, .getfield 224, .iload 1, .iastore, .aload 0, .getfield 230, .aload 0, .getfield 224, .iload 4, .ineg, .aload 0, .getfield 224, .imul, .iastore, .aload 0, .getfield 231, .aload 0, .getfield 224, .aload 0, .getfield 230, .aload 0, .getfield 224, .iaload, .iastore, .aload 0, .getfield 232, .aload 0, .getfield 224, .iconst 0, .iastore, .aload 0, .dup, .getfield 224, .iconst 1, .iadd, .putfield 224, .return_]) := rfl
theorem k50_0 : xM50.2.2.2.2.2[0]? = some ([0, 1], [.aload 0, .getfield 226, .iload 1, .iaload, .i2f, .aload 0, .getfield 228, .iload 1, .iaload, .i2f, .fmul, .ldc_w 1120403456, .fdiv, .f2i, .ireturn]) := rfl
theorem k51_0 : xM51.2.2.2.2.2[0]? = some ([0, 1], [.iload 1, .ifCond .le 2, .goto_w 1]) := rfl
theorem k51_1 : xM51.2.2.2.2.2[1]? = some ([0, 1], [.aload 0, .getfield 230, .iload 1, .iconst 1, .isub, .iaload, .aload 0, .getfield 230, .iload 1, .iaload, .isub, .goto 3]) := rfl
theorem k51_2 : xM51.2.2.2.2.2[2]? = some ([], [.iconst (-1), .goto_w 3]) := rfl
theorem k51_3 : xM51.2.2.2.2.2[3]? = some ([], [.ireturn]) := rfl
theorem k52_0 : xM52.2.2.2.2.2[0]? = some ([0, 1, 2], [.aload 0, .getfield 228, .iload 1, .iconst 0, .iconst 100, .aload 0, .getfield 228, .iload 1, .iaload, .iload 2, .iadd, .invokestatic 386, .invokestatic 385, .iastore, .return_]) := rfl
theorem k53_0 : xM53.2.2.2.2.2[0]? = some ([0, 1], [.iload 1, .ifCond .lt 2, .goto_w 1]) := rfl
theorem k53_1 : xM53.2.2.2.2.2[1]? = some ([0, 1], [.iload 1, .iconst 1, .iadd, .aload 0, .getfield 224, .if_icmp .lt 3, .goto_w 2]) := rfl
theorem k53_2 : xM53.2.2.2.2.2[2]? = some ([], [.return_]) := rfl
theorem k53_3 : xM53.2.2.2.2.2[3]? = some ([0, 1], [.aload 0, .getfield 229, .iload 1, .iaload, .istore 2, .aload 0, .getfield 229, .iload 1, .aload 0, .getfield 229, .iload 1, .iconst 1, .iadd, .iaload, .iastore, .aload 0, .getfield 229, .iload 1, .iconst 1, .iadd, .iload 2, .iastore, .return_]) := rfl
theorem k54_0 : xM54.2.2.2.2.2[0]? = some ([0, 1, 2], [.iconst 0, .istore 3, .goto_w 1]) := rfl
theorem k54_1 : xM54.2.2.2.2.2[1]? = some ([0, 1, 2, 3], [.iload 3, .aload 0, .getfield 224, .if_icmp .ge 8, .goto_w 2]) := rfl
theorem k54_2 : xM54.2.2.2.2.2[2]? = some ([0, 1, 2, 3], [.aload 0, .getfield 230, .iload 3, .iaload, .aload 0, .iload 3, .invokevirtual 50, .iadd, .istore 4, .iload 3, .ifCond .le 4, .goto_w 3]) := rfl
theorem k54_3 : xM54.2.2.2.2.2[3]? = some ([0, 1, 2, 3, 4], [.iload 4, .aload 0, .getfield 230, .iload 3, .iconst 1, .isub, .iaload, .iload 1, .isub, .invokestatic 386, .istore 4, .goto_w 4]) := rfl
theorem k54_4 : xM54.2.2.2.2.2[4]? = some ([0, 1, 2, 3, 4], [.aload 0, .getfield 231, .iload 3, .aload 0, .getfield 230, .iload 3, .iaload, .iastore, .iload 4, .aload 0, .getfield 230, .iload 3, .iaload, .if_icmp .le 6, .goto_w 5]) := rfl
theorem k54_5 : xM54.2.2.2.2.2[5]? = some ([0, 1, 2, 3, 4], [.aload 0, .getfield 230, .iload 3, .iload 4, .iastore, .aload 0, .getfield 232, .iload 3, .dup2, .iaload, .iconst 1, .iadd, .iastore, .aload 0, .iload 3, .aload 0, .getfield 227, .iload 3, .iaload, .ineg, .invokevirtual 52, .goto 7]) := rfl
theorem k54_6 : xM54.2.2.2.2.2[6]? = some ([0, 1, 2, 3], [.aload 0, .iload 3, .iload 2, .invokevirtual 52, .goto_w 7]) := rfl
theorem k54_7 : xM54.2.2.2.2.2[7]? = some ([0, 1, 2, 3], [.iinc 3 1, .goto 1]) := rfl
theorem k54_8 : xM54.2.2.2.2.2[8]? = some ([], [.return_]) := rfl
theorem k55_0 : xM55.2.2.2.2.2[0]? = some ([0], [.iconst 0, .istore 1, .iconst 0, .istore 2, .goto_w 1]) := rfl
theorem k55_1 : xM55.2.2.2.2.2[1]? = some ([0, 1, 2], [.iload 2, .aload 0, .getfield 224, .if_icmp .ge 5, .goto_w 2]) := rfl
theorem k55_2 : xM55.2.2.2.2.2[2]? = some ([0, 1, 2], [.aload 0, .getfield 229, .iload 2, .iaload, .ifCond .eq 4, .goto_w 3]) := rfl
theorem k55_3 : xM55.2.2.2.2.2[3]? = some ([0, 1, 2], [.iinc 1 1, .goto_w 4]) := rfl
theorem k55_4 : xM55.2.2.2.2.2[4]? = some ([0, 1, 2], [.iinc 2 1, .goto 1]) := rfl
theorem k55_5 : xM55.2.2.2.2.2[5]? = some ([1], [.iload 1, .ireturn]) := rfl
theorem k56_0 : xM56.2.2.2.2.2[0]? = some ([0, 1], [.iconst 0, .istore 2, .iconst 0, .istore 3, .goto_w 1]) := rfl
theorem k56_1 : xM56.2.2.2.2.2[1]? = some ([0, 1, 2, 3], [.iload 3, .aload 0, .getfield 224, .if_icmp .ge 5, .goto_w 2]) := rfl
theorem k56_2 : xM56.2.2.2.2.2[2]? = some ([0, 1, 2, 3], [.aload 0, .getfield 229, .iload 3, .iaload, .iload 1, .if_icmp .ne 4, .goto_w 3]) := rfl
theorem k56_3 : xM56.2.2.2.2.2[3]? = some ([0, 1, 2, 3], [.iinc 2 1, .goto_w 4]) := rfl
theorem k56_4 : xM56.2.2.2.2.2[4]? = some ([0, 1, 2, 3], [.iinc 3 1, .goto 1]) := rfl
theorem k56_5 : xM56.2.2.2.2.2[5]? = some ([2], [.iload 2, .ireturn]) := rfl
theorem k57_0 : xM57.2.2.2.2.2[0]? = some ([0], [.iconst 0, .istore 1, .iconst 0, .istore 2, .goto_w 1]) := rfl
theorem k57_1 : xM57.2.2.2.2.2[1]? = some ([0, 1, 2], [.iload 2, .aload 0, .getfield 224, .if_icmp .ge 5, .goto_w 2]) := rfl
theorem k57_2 : xM57.2.2.2.2.2[2]? = some ([0, 1, 2], [.aload 0, .getfield 229, .iload 2, .iaload, .aload 0, .getfield 225, .iload 2, .iaload, .if_icmp .ne 4, .goto_w 3]) := rfl
theorem k57_3 : xM57.2.2.2.2.2[3]? = some ([0, 1, 2], [.iinc 1 1, .goto_w 4]) := rfl
theorem k57_4 : xM57.2.2.2.2.2[4]? = some ([0, 1, 2], [.iinc 2 1, .goto 1]) := rfl
theorem k57_5 : xM57.2.2.2.2.2[5]? = some ([1], [.iload 1, .ireturn]) := rfl
theorem k58_0 : xM58.2.2.2.2.2[0]? = some ([0, 1], [.iconst 0, .istore 2, .iconst 1, .istore 3, .goto_w 1]) := rfl
theorem k58_1 : xM58.2.2.2.2.2[1]? = some ([0, 1, 2, 3], [.iload 3, .aload 0, .getfield 224, .if_icmp .ge 5, .goto_w 2]) := rfl
theorem k58_2 : xM58.2.2.2.2.2[2]? = some ([0, 1, 2, 3], [.aload 0, .iload 3, .invokevirtual 51, .iload 1, .if_icmp .gt 4, .goto_w 3]) := rfl
theorem k58_3 : xM58.2.2.2.2.2[3]? = some ([0, 1, 2, 3], [.iinc 2 1, .goto_w 4]) := rfl
theorem k58_4 : xM58.2.2.2.2.2[4]? = some ([0, 1, 2, 3], [.iinc 3 1, .goto 1]) := rfl
theorem k58_5 : xM58.2.2.2.2.2[5]? = some ([2], [.iload 2, .ireturn]) := rfl
theorem k59_0 : xM59.2.2.2.2.2[0]? = some ([0], [.iconst 0, .istore 1, .iconst 0, .istore 2, .goto_w 1]) := rfl
theorem k59_1 : xM59.2.2.2.2.2[1]? = some ([0, 1, 2], [.iload 2, .aload 0, .getfield 224, .if_icmp .ge 3, .goto_w 2]) := rfl
theorem k59_2 : xM59.2.2.2.2.2[2]? = some ([0, 1, 2], [.iload 1, .aload 0, .iload 2, .invokevirtual 50, .iadd, .istore 1, .iinc 2 1, .goto 1]) := rfl
theorem k59_3 : xM59.2.2.2.2.2[3]? = some ([1], [.iload 1, .ireturn]) := rfl
theorem k60_0 : xM60.2.2.2.2.2[0]? = some ([0], [.iconst 0, .istore 1, .iconst 0, .istore 2, .goto_w 1]) := rfl
theorem k60_1 : xM60.2.2.2.2.2[1]? = some ([0, 1, 2], [.iload 2, .aload 0, .getfield 224, .if_icmp .ge 3, .goto_w 2]) := rfl
theorem k60_2 : xM60.2.2.2.2.2[2]? = some ([0, 1, 2], [.iload 1, .aload 0, .getfield 228, .iload 2, .iaload, .iadd, .istore 1, .iinc 2 1, .goto 1]) := rfl
theorem k60_3 : xM60.2.2.2.2.2[3]? = some ([1], [.iload 1, .ireturn]) := rfl
theorem k61_0 : xM61.2.2.2.2.2[0]? = some ([0], [.aload 0, .getfield 224, .ifCond .le 2, .goto_w 1]) := rfl
theorem k61_1 : xM61.2.2.2.2.2[1]? = some ([0], [.aload 0, .invokevirtual 60, .i2d, .aload 0, .getfield 224, .i2d, .ddiv, .goto 3]) := rfl
theorem k61_2 : xM61.2.2.2.2.2[2]? = some ([], [.dconst 0, .goto_w 3]) := rfl
theorem k61_3 : xM61.2.2.2.2.2[3]? = some ([], [.dreturn]) := rfl
theorem k62_0 : xM62.2.2.2.2.2[0]? = some ([0, 1], [.iconst 0, .istore 2, .iconst 0, .istore 3, .goto_w 1]) := rfl
theorem k62_1 : xM62.2.2.2.2.2[1]? = some ([0, 1, 2, 3], [.iload 3, .aload 0, .getfield 224, .if_icmp .ge 5, .goto_w 2]) := rfl
theorem k62_2 : xM62.2.2.2.2.2[2]? = some ([0, 1, 2, 3], [.aload 0, .getfield 228, .iload 3, .iaload, .iload 1, .if_icmp .gt 4, .goto_w 3]) := rfl
theorem k62_3 : xM62.2.2.2.2.2[3]? = some ([0, 1, 2, 3], [.iload 2, .iconst 1, .iload 3, .ishl, .ior, .istore 2, .goto_w 4]) := rfl
theorem k62_4 : xM62.2.2.2.2.2[4]? = some ([0, 1, 2, 3], [.iinc 3 1, .goto 1]) := rfl
theorem k62_5 : xM62.2.2.2.2.2[5]? = some ([2], [.iload 2, .ireturn]) := rfl
theorem k63_0 : xM63.2.2.2.2.2[0]? = some ([0, 1], [.iconst 0, .istore 2, .iconst 0, .istore 3, .goto_w 1]) := rfl
theorem k63_1 : xM63.2.2.2.2.2[1]? = some ([0, 1, 2, 3], [.iload 3, .aload 0, .getfield 224, .if_icmp .ge 5, .goto_w 2]) := rfl
theorem k63_2 : xM63.2.2.2.2.2[2]? = some ([0, 1, 2, 3], [.aload 0, .getfield 228, .iload 3, .iaload, .iload 1, .if_icmp .ge 4, .goto_w 3]) := rfl
theorem k63_3 : xM63.2.2.2.2.2[3]? = some ([0, 1, 2, 3], [.iinc 2 1, .goto_w 4]) := rfl
theorem k63_4 : xM63.2.2.2.2.2[4]? = some ([0, 1, 2, 3], [.iinc 3 1, .goto 1]) := rfl
theorem k63_5 : xM63.2.2.2.2.2[5]? = some ([2], [.iload 2, .ireturn]) := rfl
theorem k64_0 : xM64.2.2.2.2.2[0]? = some ([0, 1], [.iconst 0, .istore 2, .iconst 0, .istore 3, .goto_w 1]) := rfl
theorem k64_1 : xM64.2.2.2.2.2[1]? = some ([0, 1, 2, 3], [.iload 3, .aload 0, .getfield 224, .if_icmp .ge 5, .goto_w 2]) := rfl
theorem k64_2 : xM64.2.2.2.2.2[2]? = some ([0, 1, 2, 3], [.aload 0, .getfield 230, .iload 3, .iaload, .iload 1, .if_icmp .le 4, .goto_w 3]) := rfl
theorem k64_3 : xM64.2.2.2.2.2[3]? = some ([0, 1, 2, 3], [.iinc 2 1, .goto_w 4]) := rfl
theorem k64_4 : xM64.2.2.2.2.2[4]? = some ([0, 1, 2, 3], [.iinc 3 1, .goto 1]) := rfl
theorem k64_5 : xM64.2.2.2.2.2[5]? = some ([2], [.iload 2, .ireturn]) := rfl
theorem k65_0 : xM65.2.2.2.2.2[0]? = some ([0, 1], [.iconst 0, .istore 2, .iconst 0, .istore 3, .goto_w 1]) := rfl
theorem k65_1 : xM65.2.2.2.2.2[1]? = some ([0, 1, 2, 3], [.iload 3, .aload 0, .getfield 224, .if_icmp .ge 5, .goto_w 2]) := rfl
theorem k65_2 : xM65.2.2.2.2.2[2]? = some ([0, 1, 2, 3], [.aload 0, .getfield 230, .iload 3, .iaload, .iload 1, .if_icmp .ge 4, .goto_w 3]) := rfl
theorem k65_3 : xM65.2.2.2.2.2[3]? = some ([0, 1, 2, 3], [.iinc 2 1, .goto_w 4]) := rfl
theorem k65_4 : xM65.2.2.2.2.2[4]? = some ([0, 1, 2, 3], [.iinc 3 1, .goto 1]) := rfl
theorem k65_5 : xM65.2.2.2.2.2[5]? = some ([2], [.iload 2, .ireturn]) := rfl
theorem k66_0 : xM66.2.2.2.2.2[0]? = some ([0, 1], [.iconst (-1), .istore 2, .iconst 0, .istore 3, .goto_w 1]) := rfl
theorem k66_1 : xM66.2.2.2.2.2[1]? = some ([0, 1, 2, 3], [.iload 3, .aload 0, .getfield 224, .if_icmp .ge 6, .goto_w 2]) := rfl
theorem k66_2 : xM66.2.2.2.2.2[2]? = some ([0, 1, 2, 3], [.aload 0, .getfield 230, .iload 3, .iaload, .iload 1, .isub, .invokestatic 384, .istore 4, .iload 2, .iconst (-1), .if_icmp .eq 4, .goto_w 3]) := rfl
theorem k66_3 : xM66.2.2.2.2.2[3]? = some ([0, 1, 2, 3, 4], [.iload 4, .iload 2, .if_icmp .ge 5, .goto_w 4]) := rfl
theorem k66_4 : xM66.2.2.2.2.2[4]? = some ([0, 1, 3, 4], [.iload 4, .istore 2, .goto_w 5]) := rfl
theorem k66_5 : xM66.2.2.2.2.2[5]? = some ([0, 1, 2, 3], [.iinc 3 1, .goto 1]) := rfl
theorem k66_6 : xM66.2.2.2.2.2[6]? = some ([2], [.iload 2, .ireturn]) := rfl
theorem k68_0 : xM68.2.2.2.2.2[0]? = some ([0, 1], [.aload 0, .aload 1, .getfield 256, .putfield 256, .aload 0, .aload 1, .getfield 257, .putfield 257, .aload 0, .aload 1, .getfield 258, .putfield 258, .aload 0, .aload 1, .getfield 259, .putfield 259, .aload 1, .getfield 260, .aload 0, .getfield 260, .invokestatic 172, .aload 1, .getfield 261, .aload 0, .getfield 261, .invokestatic 172, .aload 0, .getfield 262, .aload 1, .getfield 262, .invokevirtual 48, .aload 0, .getfield 263, .aload 1, .getfield 263, .invokevirtual 4, .aload 0, .getfield 264, .aload 1, .getfield 264, .invokevirtual 28, .return_]) := rfl
theorem k69_0 : xM69.2.2.2.2.2[0]? = some ([0], [.aload 0, .iconst 0, .putfield 256, .aload 0, .iconst 0, .putfield 257, .aload 0, .iconst 0, .putfield 258, .aload 0, .iconst 0, .putfield 259, .aload 0, .getfield 262, .iconst 0, .putfield 224, .aload 0, .getfield 263, .iconst 0, .putfield 32, .aload 0, .getfield 264, .iconst 0, .putfield 128, .iconst 0, .istore 1, .goto_w 1]) := rfl
theorem k69_1 : xM69.2.2.2.2.2[1]? = some ([0, 1], [.iload 1, .aload 0, .getfield 261, .arraylength, .if_icmp .ge 3, .goto_w 2]) := rfl
theorem k69_2 : xM69.2.2.2.2.2[2]? = some ([0, 1], [.aload 0, .getfield 261, .iload 1, .iconst (-1), .iastore, .iinc 1 1, .goto 1]) := rfl
theorem k69_3 : xM69.2.2.2.2.2[3]? = some ([], [.return_]) := rfl
theorem k70_0 : xM70.2.2.2.2.2[0]? = some ([0], [.aload 0, .dup, .getfield 256, .iconst 1, .iadd, .putfield 256, .aload 0, .invokevirtual 71, .aload 0, .getfield 262, .aload 0, .getfield 260, .iconst 0, .iaload, .aload 0, .getfield 260, .iconst 3, .iaload, .invokevirtual 54, .aload 0, .invokevirtual 72, .aload 0, .invokevirtual 73, .return_]) := rfl
theorem k71_0 : xM71.2.2.2.2.2[0]? = some ([0], [.iconst 0, .istore 1, .goto_w 1]) := rfl
theorem k71_1 : xM71.2.2.2.2.2[1]? = some ([0, 1], [.iload 1, .aload 0, .getfield 264, .getfield 128, .if_icmp .ge 9, .goto_w 2]) := rfl
theorem k71_2 : xM71.2.2.2.2.2[2]? = some ([0, 1], [.aload 0, .getfield 264, .getfield 129, .iload 1, .iaload, .aload 0, .getfield 256, .if_icmp .ne 8, .goto_w 3]) := rfl
theorem k71_3 : xM71.2.2.2.2.2[3]? = some ([0, 1], [.aload 0, .aload 0, .getfield 264, .getfield 130, .iload 1, .iaload, .invokevirtual 74, .istore 2, .aload 0, .getfield 264, .getfield 131, .iload 1, .iload 2, .ifCond .eq 5, .goto_w 4]) := rfl
theorem k71_4 : xM71.2.2.2.2.2[4]? = some ([0, 1, 2], [.iconst 1, .goto 6]) := rfl
theorem k71_5 : xM71.2.2.2.2.2[5]? = some ([0, 1, 2], [.iconst 2, .goto_w 6]) := rfl
theorem k71_6 : xM71.2.2.2.2.2[6]? = some ([0, 1, 2], [.iastore, .iload 2, .ifCond .eq 8, .goto_w 7]) := rfl
theorem k71_7 : xM71.2.2.2.2.2[7]? = some ([0, 1], [.aload 0, .aload 0, .getfield 264, .getfield 130, .iload 1, .iaload, .invokevirtual 75, .goto_w 8]) := rfl
theorem k71_8 : xM71.2.2.2.2.2[8]? = some ([0, 1], [.iinc 1 1, .goto 1]) := rfl
theorem k71_9 : xM71.2.2.2.2.2[9]? = some ([], [.return_]) := rfl
theorem k72_0 : xM72.2.2.2.2.2[0]? = some ([0], [.iconst 0, .istore 1, .goto_w 1]) := rfl
theorem k72_1 : xM72.2.2.2.2.2[1]? = some ([0, 1], [.iload 1, .aload 0, .getfield 262, .getfield 224, .if_icmp .ge 6, .goto_w 2]) := rfl
theorem k72_2 : xM72.2.2.2.2.2[2]? = some ([0, 1], [.aload 0, .getfield 262, .getfield 229, .iload 1, .iaload, .ifCond .eq 5, .goto_w 3]) := rfl
theorem k72_3 : xM72.2.2.2.2.2[3]? = some ([0, 1], [.aload 0, .getfield 262, .getfield 228, .iload 1, .iaload, .ifCond .ne 5, .goto_w 4]) := rfl
theorem k72_4 : xM72.2.2.2.2.2[4]? = some ([0, 1], [.aload 0, .iload 1, .invokevirtual 76, .goto_w 5]) := rfl
theorem k72_5 : xM72.2.2.2.2.2[5]? = some ([0, 1], [.iinc 1 1, .goto 1]) := rfl
theorem k72_6 : xM72.2.2.2.2.2[6]? = some ([], [.return_]) := rfl
theorem k73_0 : xM73.2.2.2.2.2[0]? = some ([0], [.iconst 0, .istore 1, .goto_w 1]) := rfl
theorem k73_1 : xM73.2.2.2.2.2[1]? = some ([0, 1], [.iload 1, .aload 0, .getfield 262, .getfield 224, .if_icmp .ge 6, .goto_w 2]) := rfl
theorem k73_2 : xM73.2.2.2.2.2[2]? = some ([0, 1], [.aload 0, .getfield 263, .getfield 32, .ifCond .le 5, .goto_w 3]) := rfl
theorem k73_3 : xM73.2.2.2.2.2[3]? = some ([0, 1], [.aload 0, .iload 1, .invokevirtual 77, .ifCond .eq 5, .goto_w 4]) := rfl
theorem k73_4 : xM73.2.2.2.2.2[4]? = some ([0, 1], [.aload 0, .iload 1, .aload 0, .getfield 263, .aload 0, .getfield 262, .getfield 231, .iload 1, .iaload, .aload 0, .getfield 262, .getfield 230, .iload 1, .iaload, .invokevirtual 8, .invokevirtual 78, .goto_w 5]) := rfl
theorem k73_5 : xM73.2.2.2.2.2[5]? = some ([0, 1], [.iinc 1 1, .goto 1]) := rfl
theorem k73_6 : xM73.2.2.2.2.2[6]? = some ([], [.return_]) := rfl
theorem k74_0 : xM74.2.2.2.2.2[0]? = some ([0, 1], [.iload 1, .ifCond .lt 6, .goto_w 1]) := rfl
theorem k74_1 : xM74.2.2.2.2.2[1]? = some ([0, 1], [.iload 1, .iconst 1, .iadd, .aload 0, .getfield 262, .getfield 224, .if_icmp .ge 6, .goto_w 2]) := rfl
theorem k74_2 : xM74.2.2.2.2.2[2]? = some ([0, 1], [.aload 0, .getfield 262, .iload 1, .iconst 1, .iadd, .invokevirtual 51, .aload 0, .getfield 260, .iconst 5, .iaload, .if_icmp .gt 6, .goto_w 3]) := rfl
theorem k74_3 : xM74.2.2.2.2.2[3]? = some ([0, 1], [.aload 0, .getfield 262, .getfield 228, .iload 1, .iaload, .iconst 1, .if_icmp .lt 6, .goto_w 4]) := rfl
theorem k74_4 : xM74.2.2.2.2.2[4]? = some ([0, 1], [.aload 0, .getfield 262, .getfield 228, .iload 1, .iconst 1, .iadd, .iaload, .iconst 1, .if_icmp .lt 6, .goto_w 5]) := rfl
theorem k74_5 : xM74.2.2.2.2.2[5]? = some ([], [.iconst 1, .goto 7]) := rfl
theorem k74_6 : xM74.2.2.2.2.2[6]? = some ([], [.iconst 0, .goto_w 7]) := rfl
theorem k74_7 : xM74.2.2.2.2.2[7]? = some ([], [.ireturn]) := rfl
theorem k75_0 : xM75.2.2.2.2.2[0]? = some ([0, 1], [.aload 0, .getfield 262, .iload 1, .invokevirtual 53, .aload 0, .getfield 262, .iload 1, .iconst (-2), .invokevirtual 52, .aload 0, .getfield 262, .iload 1, .iconst 1, .iadd, .iconst (-2), .invokevirtual 52, .aload 0, .dup, .getfield 257, .iconst 1, .iadd, .putfield 257, .return_]) := rfl
theorem k76_0 : xM76.2.2.2.2.2[0]? = some ([0, 1], [.aload 0, .getfield 263, .aload 0, .getfield 262, .getfield 229, .iload 1, .iaload, .aload 0, .getfield 262, .getfield 230, .iload 1, .iaload, .aload 0, .getfield 256, .invokevirtual 5, .aload 0, .getfield 262, .getfield 229, .iload 1, .iconst 0, .iastore, .aload 0, .dup, .getfield 258, .iconst 1, .iadd, .putfield 258, .return_]) := rfl
theorem k77_0 : xM77.2.2.2.2.2[0]? = some ([0, 1], [.aload 0, .getfield 262, .getfield 229, .iload 1, .iaload, .ifCond .ne 3, .goto_w 1]) := rfl
theorem k77_1 : xM77.2.2.2.2.2[1]? = some ([0, 1], [.aload 0, .getfield 262, .getfield 228, .iload 1, .iaload, .aload 0, .getfield 260, .iconst 4, .iaload, .if_icmp .lt 3, .goto_w 2]) := rfl
theorem k77_2 : xM77.2.2.2.2.2[2]? = some ([], [.iconst 1, .goto 4]) := rfl
theorem k77_3 : xM77.2.2.2.2.2[3]? = some ([], [.iconst 0, .goto_w 4]) := rfl
theorem k77_4 : xM77.2.2.2.2.2[4]? = some ([], [.ireturn]) := rfl
theorem k78_0 : xM78.2.2.2.2.2[0]? = some ([0, 1, 2], [.iload 2, .ifCond .lt 2, .goto_w 1]) := rfl
theorem k78_1 : xM78.2.2.2.2.2[1]? = some ([0, 1, 2], [.iload 2, .aload 0, .getfield 263, .getfield 32, .if_icmp .lt 3, .goto_w 2]) := rfl
theorem k78_2 : xM78.2.2.2.2.2[2]? = some ([], [.return_]) := rfl
theorem k78_3 : xM78.2.2.2.2.2[3]? = some ([0, 1, 2], [.aload 0, .getfield 262, .getfield 229, .iload 1, .aload 0, .getfield 263, .getfield 33, .iload 2, .iaload, .iastore, .aload 0, .getfield 263, .iload 2, .invokevirtual 6, .aload 0, .dup, .getfield 259, .iconst 1, .iadd, .putfield 259, .return_]) := rfl
theorem k79_0 : xM79.2.2.2.2.2[0]? = some ([0, 1, 2], [.aload 0, .getfield 262, .getfield 229, .iload 1, .iaload, .ifCond .eq 3, .goto_w 1]) := rfl
theorem k79_1 : xM79.2.2.2.2.2[1]? = some ([0, 1, 2], [.aload 0, .getfield 262, .getfield 230, .iload 1, .iaload, .iload 2, .isub, .invokestatic 384, .aload 0, .getfield 260, .iconst 1, .iaload, .if_icmp .gt 3, .goto_w 2]) := rfl
theorem k79_2 : xM79.2.2.2.2.2[2]? = some ([], [.iconst 1, .goto 4]) := rfl
theorem k79_3 : xM79.2.2.2.2.2[3]? = some ([], [.iconst 0, .goto_w 4]) := rfl
theorem k79_4 : xM79.2.2.2.2.2[4]? = some ([], [.ireturn]) := rfl
theorem k81_0 : xM81.2.2.2.2.2[0]? = some ([0, 1, 2, 3, 4, 5], [.aload 0, .getfield 289, .iconst 20, .iadd, .iconst 700, .if_icmp .le 2, .goto_w 1]) := rfl
theorem k81_1 : xM81.2.2.2.2.2[1]? = some ([], [.iconst (-1), .ireturn]) := rfl
theorem k81_2 : xM81.2.2.2.2.2[2]? = some ([0, 1, 2, 3, 4, 5], [.aload 0, .iload 1, .invokevirtual 82, .aload 0, .iload 2, .invokevirtual 82, .aload 0, .iload 3, .invokevirtual 82, .aload 0, .iload 4, .invokevirtual 82, .aload 0, .iload 5, .invokevirtual 82, .aload 0, .getfield 289, .ireturn]) := rfl
theorem k82_0 : xM82.2.2.2.2.2[0]? = some ([0, 1], [.iconst 24, .istore 2, .goto_w 1]) := rfl
theorem k82_1 : xM82.2.2.2.2.2[1]? = some ([0, 1, 2], [.iload 2, .ifCond .lt 4, .goto_w 2]) := rfl
theorem k82_2 : xM82.2.2.2.2.2[2]? = some ([0, 1, 2], [.aload 0, .getfield 289, .aload 0, .getfield 288, .arraylength, .if_icmp .ge 4, .goto_w 3]) := rfl
theorem k82_3 : xM82.2.2.2.2.2[3]? = some ([0, 1, 2], [.aload 0, .getfield 288, .aload 0, .getfield 289, .iload 1, .iload 2, .iushr, .iconst 255, .iand, .iastore, .aload 0, .dup, .getfield 289, .iconst 1, .iadd, .putfield 289, .iinc 2 (-8), .goto 1]) := rfl
theorem k82_4 : xM82.2.2.2.2.2[4]? = some ([], [.return_]) := rfl
theorem k83_0 : xM83.2.2.2.2.2[0]? = some ([0, 1], [.aload 0, .iconst 0, .iload 1, .aload 0, .getfield 288, .arraylength, .invokestatic 386, .invokestatic 385, .putfield 290, .aload 0, .iconst 0, .putfield 292, .return_]) := rfl
theorem k84_0 : xM84.2.2.2.2.2[0]? = some ([0], [.aload 0, .getfield 292, .aload 0, .getfield 290, .if_icmp .ge 3, .goto_w 1]) := rfl
theorem k84_1 : xM84.2.2.2.2.2[1]? = some ([0], [.aload 0, .getfield 288, .aload 0, .getfield 292, .iaload, .iconst 32, .if_icmp .ne 3, .goto_w 2]) := rfl
theorem k84_2 : xM84.2.2.2.2.2[2]? = some ([0], [.aload 0, .dup, .getfield 292, .iconst 1, .iadd, .putfield 292, .goto 0]) := rfl
theorem k84_3 : xM84.2.2.2.2.2[3]? = some ([0], [.aload 0, .aload 0, .getfield 292, .putfield 291, .aload 0, .getfield 291, .aload 0, .getfield 290, .if_icmp .lt 5, .goto_w 4]) := rfl
theorem k84_4 : xM84.2.2.2.2.2[4]? = some ([0], [.aload 0, .iconst 0, .putfield 293, .goto 15]) := rfl
theorem k84_5 : xM84.2.2.2.2.2[5]? = some ([0], [.aload 0, .getfield 288, .aload 0, .getfield 291, .iaload, .iconst 97, .if_icmp .lt 8, .goto_w 6]) := rfl
theorem k84_6 : xM84.2.2.2.2.2[6]? = some ([0], [.aload 0, .getfield 288, .aload 0, .getfield 291, .iaload, .iconst 122, .if_icmp .gt 8, .goto_w 7]) := rfl
theorem k84_7 : xM84.2.2.2.2.2[7]? = some ([0], [.aload 0, .invokevirtual 85, .goto 15]) := rfl
theorem k84_8 : xM84.2.2.2.2.2[8]? = some ([0], [.aload 0, .getfield 288, .aload 0, .getfield 291, .iaload, .iconst 48, .if_icmp .lt 11, .goto_w 9]) := rfl
theorem k84_9 : xM84.2.2.2.2.2[9]? = some ([0], [.aload 0, .getfield 288, .aload 0, .getfield 291, .iaload, .iconst 57, .if_icmp .gt 11, .goto_w 10]) := rfl
theorem k84_10 : xM84.2.2.2.2.2[10]? = some ([0], [.aload 0, .invokevirtual 86, .goto 15]) := rfl
theorem k84_11 : xM84.2.2.2.2.2[11]? = some ([0], [.aload 0, .aload 0, .getfield 288, .aload 0, .getfield 291, .iaload, .iconst 59, .if_icmp .ne 13, .goto_w 12]) := rfl
theorem k84_12 : xM84.2.2.2.2.2[12]? = some ([0], [.iconst 3, .goto 14]) := rfl
theorem k84_13 : xM84.2.2.2.2.2[13]? = some ([0], [.iconst 4, .goto_w 14]) := rfl
theorem k84_14 : xM84.2.2.2.2.2[14]? = some ([0], [.putfield 293, .aload 0, .dup, .getfield 292, .iconst 1, .iadd, .putfield 292, .goto_w 15]) := rfl
theorem k84_15 : xM84.2.2.2.2.2[15]? = some ([], [.return_]) := rfl
theorem k85_0 : xM85.2.2.2.2.2[0]? = some ([0], [.aload 0, .getfield 292, .aload 0, .getfield 290, .if_icmp .ge 4, .goto_w 1]) := rfl
theorem k85_1 : xM85.2.2.2.2.2[1]? = some ([0], [.aload 0, .getfield 288, .aload 0, .getfield 292, .iaload, .iconst 97, .if_icmp .lt 4, .goto_w 2]) := rfl
theorem k85_2 : xM85.2.2.2.2.2[2]? = some ([0], [.aload 0, .getfield 288, .aload 0, .getfield 292, .iaload, .iconst 122, .if_icmp .gt 4, .goto_w 3]) := rfl
theorem k85_3 : xM85.2.2.2.2.2[3]? = some ([0], [.aload 0, .dup, .getfield 292, .iconst 1, .iadd, .putfield 292, .goto 0]) := rfl
theorem k85_4 : xM85.2.2.2.2.2[4]? = some ([0], [.aload 0, .aload 0, .getfield 292, .aload 0, .getfield 291, .isub, .iconst 8, .if_icmp .gt 6, .goto_w 5]) := rfl
theorem k85_5 : xM85.2.2.2.2.2[5]? = some ([], [.iconst 1, .goto 7]) := rfl
theorem k85_6 : xM85.2.2.2.2.2[6]? = some ([], [.iconst 4, .goto_w 7]) := rfl
theorem k85_7 : xM85.2.2.2.2.2[7]? = some ([], [.putfield 293, .return_]) := rfl
theorem k86_0 : xM86.2.2.2.2.2[0]? = some ([0], [.aload 0, .iconst 0, .putfield 294, .goto_w 1]) := rfl
theorem k86_1 : xM86.2.2.2.2.2[1]? = some ([0], [.aload 0, .getfield 292, .aload 0, .getfield 290, .if_icmp .ge 5, .goto_w 2]) := rfl
theorem k86_2 : xM86.2.2.2.2.2[2]? = some ([0], [.aload 0, .getfield 288, .aload 0, .getfield 292, .iaload, .iconst 48, .if_icmp .lt 5, .goto_w 3]) := rfl
theorem k86_3 : xM86.2.2.2.2.2[3]? = some ([0], [.aload 0, .getfield 288, .aload 0, .getfield 292, .iaload, .iconst 57, .if_icmp .gt 5, .goto_w 4]) := rfl
theorem k86_4 : xM86.2.2.2.2.2[4]? = some ([0], [.aload 0, .aload 0, .getfield 294, .iconst 10, .imul, .aload 0, .getfield 288, .aload 0, .getfield 292, .iaload, .iadd, .iconst 48, .isub, .putfield 294, .aload 0, .dup, .getfield 292, .iconst 1, .iadd, .putfield 292, .goto 1]) := rfl
theorem k86_5 : xM86.2.2.2.2.2[5]? = some ([0], [.aload 0, .aload 0, .getfield 292, .aload 0, .getfield 291, .isub, .iconst 4, .if_icmp .gt 7, .goto_w 6]) := rfl
theorem k86_6 : xM86.2.2.2.2.2[6]? = some ([], [.iconst 2, .goto 8]) := rfl
theorem k86_7 : xM86.2.2.2.2.2[7]? = some ([], [.iconst 4, .goto_w 8]) := rfl
theorem k86_8 : xM86.2.2.2.2.2[8]? = some ([], [.putfield 293, .return_]) := rfl
theorem k87_0 : xM87.2.2.2.2.2[0]? = some ([0], [.aload 0, .getfield 293, .iconst 1, .if_icmp .ne 2, .goto_w 1]) := rfl
theorem k87_1 : xM87.2.2.2.2.2[1]? = some ([0], [.aload 0, .getfield 292, .aload 0, .getfield 291, .isub, .goto 3]) := rfl
theorem k87_2 : xM87.2.2.2.2.2[2]? = some ([], [.iconst 0, .goto_w 3]) := rfl
theorem k87_3 : xM87.2.2.2.2.2[3]? = some ([], [.ireturn]) := rfl
theorem k88_0 : xM88.2.2.2.2.2[0]? = some ([0, 1], [.aload 0, .getfield 291, .iload 1, .iadd, .istore 2, .iload 1, .ifCond .lt 5, .goto_w 1]) := rfl
theorem k88_1 : xM88.2.2.2.2.2[1]? = some ([0, 2], [.iload 2, .ifCond .lt 5, .goto_w 2]) := rfl
theorem k88_2 : xM88.2.2.2.2.2[2]? = some ([0, 2], [.iload 2, .aload 0, .getfield 292, .if_icmp .ge 5, .goto_w 3]) := rfl
theorem k88_3 : xM88.2.2.2.2.2[3]? = some ([0, 2], [.iload 2, .aload 0, .getfield 288, .arraylength, .if_icmp .ge 5, .goto_w 4]) := rfl
theorem k88_4 : xM88.2.2.2.2.2[4]? = some ([0, 2], [.aload 0, .getfield 288, .iload 2, .iaload, .goto 6]) := rfl
theorem k88_5 : xM88.2.2.2.2.2[5]? = some ([], [.iconst (-1), .goto_w 6]) := rfl
theorem k88_6 : xM88.2.2.2.2.2[6]? = some ([], [.ireturn]) := rfl
theorem k89_0 : xM89.2.2.2.2.2[0]? = some ([0, 1], [.aload 0, .invokevirtual 87, .aload 1, .invokevirtual 391, .if_icmp .eq 2, .goto_w 1]) := rfl
theorem k89_1 : xM89.2.2.2.2.2[1]? = some ([], [.iconst 0, .ireturn]) := rfl
theorem k89_2 : xM89.2.2.2.2.2[2]? = some ([0, 1], [.iconst 0, .istore 2, .goto_w 3]) := rfl
theorem k89_3 : xM89.2.2.2.2.2[3]? = some ([0, 1, 2], [.iload 2, .aload 1, .invokevirtual 391, .if_icmp .ge 7, .goto_w 4]) := rfl
theorem k89_4 : xM89.2.2.2.2.2[4]? = some ([0, 1, 2], [.aload 0, .iload 2, .invokevirtual 88, .aload 1, .iload 2, .invokevirtual 392, .if_icmp .eq 6, .goto_w 5]) := rfl
theorem k89_5 : xM89.2.2.2.2.2[5]? = some ([], [.iconst 0, .ireturn]) := rfl
theorem k89_6 : xM89.2.2.2.2.2[6]? = some ([0, 1, 2], [.iinc 2 1, .goto 3]) := rfl
theorem k89_7 : xM89.2.2.2.2.2[7]? = some ([], [.iconst 1, .ireturn]) := rfl
theorem k91_0 : xM91.2.2.2.2.2[0]? = some ([0, 1, 2, 3, 4, 5], [.aload 0, .getfield 320, .getfield 96, .iload 1, .iload 2, .iload 3, .iload 4, .iload 5, .invokevirtual 81, .ireturn]) := rfl
theorem k92_0 : xM92.2.2.2.2.2[0]? = some ([0, 1], [.iload 1, .ifCond .lt 2, .goto_w 1]) := rfl
theorem k92_1 : xM92.2.2.2.2.2[1]? = some ([0, 1], [.iload 1, .aload 0, .getfield 320, .getfield 96, .getfield 289, .if_icmp .le 3, .goto_w 2]) := rfl
theorem k92_2 : xM92.2.2.2.2.2[2]? = some ([], [.checkcast 2]) := rfl
theorem k92_3 : xM92.2.2.2.2.2[3]? = some ([0, 1], [.aload 0, .getfield 320, .iload 1, .invokevirtual 19, .istore 2, .aload 0, .getfield 320, .getfield 96, .iconst 0, .putfield 289, .iload 2, .invokestatic 160, .aload 0, .getfield 321, .aload 0, .getfield 320, .getfield 97, .invokevirtual 68, .aload 0, .getfield 323, .aload 0, .getfield 320, .getfield 98, .invokevirtual 42, .aload 0, .getfield 324, .invokevirtual 11, .aload 0, .getfield 324, .invokevirtual 12, .aload 0, .iconst 1, .putfield 327, .aload 0, .getfield 321, .getfield 262, .getfield 224, .ireturn]) := rfl
theorem k93_0 : xM93.2.2.2.2.2[0]? = some ([0], [.aload 0, .getfield 320, .getfield 99, .ireturn]) := rfl
theorem k94_0 : xM94.2.2.2.2.2[0]? = some ([0], [.aload 0, .getfield 320, .getfield 100, .ireturn]) := rfl
theorem k95_0 : xM95.2.2.2.2.2[0]? = some ([0], [.aload 0, .getfield 320, .getfield 96, .getfield 289, .ireturn]) := rfl
theorem k96_0 : xM96.2.2.2.2.2[0]? = some ([0, 1], [.aload 0, .invokevirtual 155, .iload 1, .iconst 0, .iconst 16, .invokestatic 159, .iload 1, .tableswitch 17 0 15 #[1, 2, 3, 4, 5, 6, 7, 8, 9, 10, 11, 12, 13, 14, 15, 16]]) := rfl
theorem k96_1 : xM96.2.2.2.2.2[1]? = some ([0], [.aload 0, .getfield 321, .getfield 262, .getfield 224, .ireturn]) := rfl
theorem k96_2 : xM96.2.2.2.2.2[2]? = some ([0], [.aload 0, .getfield 323, .getfield 192, .ireturn]) := rfl
theorem k96_3 : xM96.2.2.2.2.2[3]? = some ([0], [.aload 0, .getfield 321, .getfield 264, .getfield 128, .ireturn]) := rfl
theorem k96_4 : xM96.2.2.2.2.2[4]? = some ([0], [.aload 0, .getfield 321, .getfield 256, .ireturn]) := rfl
theorem k96_5 : xM96.2.2.2.2.2[5]? = some ([0], [.aload 0, .getfield 321, .getfield 262, .invokevirtual 55, .ireturn]) := rfl
theorem k96_6 : xM96.2.2.2.2.2[6]? = some ([0], [.aload 0, .getfield 321, .getfield 263, .getfield 32, .ireturn]) := rfl
theorem k96_7 : xM96.2.2.2.2.2[7]? = some ([0], [.aload 0, .getfield 321, .getfield 257, .ireturn]) := rfl
theorem k96_8 : xM96.2.2.2.2.2[8]? = some ([0], [.aload 0, .getfield 321, .getfield 264, .iconst 2, .invokevirtual 30, .ireturn]) := rfl
theorem k96_9 : xM96.2.2.2.2.2[9]? = some ([0], [.aload 0, .getfield 321, .getfield 258, .ireturn]) := rfl
theorem k96_10 : xM96.2.2.2.2.2[10]? = some ([0], [.aload 0, .getfield 321, .getfield 259, .ireturn]) := rfl
theorem k96_11 : xM96.2.2.2.2.2[11]? = some ([0], [.aload 0, .invokevirtual 166, .invokestatic 383, .ireturn]) := rfl
theorem k96_12 : xM96.2.2.2.2.2[12]? = some ([0], [.aload 0, .getfield 321, .getfield 264, .iconst 0, .invokevirtual 30, .ireturn]) := rfl
theorem k96_13 : xM96.2.2.2.2.2[13]? = some ([0], [.aload 0, .getfield 321, .getfield 262, .iconst 0, .invokevirtual 62, .invokestatic 383, .ireturn]) := rfl
theorem k96_14 : xM96.2.2.2.2.2[14]? = some ([0], [.aload 0, .getfield 321, .getfield 262, .invokevirtual 57, .ireturn]) := rfl
theorem k96_15 : xM96.2.2.2.2.2[15]? = some ([0], [.aload 0, .getfield 321, .getfield 262, .aload 0, .getfield 321, .getfield 260, .iconst 0, .iaload, .invokevirtual 58, .ireturn]) := rfl
theorem k96_16 : xM96.2.2.2.2.2[16]? = some ([0], [.aload 0, .getfield 321, .getfield 262, .invokevirtual 59, .ireturn]) := rfl
theorem k96_17 : xM96.2.2.2.2.2[17]? = some ([0], [.aload 0, .invokevirtual 167, .ireturn]) := rfl
theorem k97_0 : xM97.2.2.2.2.2[0]? = some ([0, 1], [.aload 0, .invokevirtual 155, .iload 1, .iconst 0, .iconst 5, .invokestatic 159, .aload 0, .getfield 321, .getfield 260, .iload 1, .iaload, .ireturn]) := rfl
theorem k98_0 : xM98.2.2.2.2.2[0]? = some ([0, 1, 2], [.aload 0, .invokevirtual 155, .aload 0, .iload 1, .invokevirtual 156, .iload 2, .iconst 0, .iconst 12, .invokestatic 159, .aload 0, .getfield 321, .getfield 262, .astore 3, .iload 2, .tableswitch 13 0 11 #[1, 2, 3, 4, 5, 6, 7, 8, 9, 10, 11, 12]]) := rfl
theorem k98_1 : xM98.2.2.2.2.2[1]? = some ([1, 3], [.aload 3, .getfield 229, .iload 1, .iaload, .ireturn]) := rfl
theorem k98_2 : xM98.2.2.2.2.2[2]? = some ([1, 3], [.aload 3, .getfield 230, .iload 1, .iaload, .ireturn]) := rfl
theorem k98_3 : xM98.2.2.2.2.2[3]? = some ([1, 3], [.aload 3, .getfield 226, .iload 1, .iaload, .ireturn]) := rfl
theorem k98_4 : xM98.2.2.2.2.2[4]? = some ([1, 3], [.aload 3, .getfield 227, .iload 1, .iaload, .ireturn]) := rfl
theorem k98_5 : xM98.2.2.2.2.2[5]? = some ([1, 3], [.aload 3, .getfield 228, .iload 1, .iaload, .ireturn]) := rfl
theorem k98_6 : xM98.2.2.2.2.2[6]? = some ([1, 3], [.aload 3, .iload 1, .invokevirtual 50, .ireturn]) := rfl
theorem k98_7 : xM98.2.2.2.2.2[7]? = some ([1, 3], [.aload 3, .iload 1, .invokevirtual 51, .ireturn]) := rfl
theorem k98_8 : xM98.2.2.2.2.2[8]? = some ([1, 3], [.aload 3, .getfield 232, .iload 1, .iaload, .ireturn]) := rfl
theorem k98_9 : xM98.2.2.2.2.2[9]? = some ([1, 3], [.aload 3, .getfield 225, .iload 1, .iaload, .ireturn]) := rfl
theorem k98_10 : xM98.2.2.2.2.2[10]? = some ([0, 1], [.aload 0, .iload 1, .invokevirtual 168, .ireturn]) := rfl
theorem k98_11 : xM98.2.2.2.2.2[11]? = some ([1, 3], [.aload 3, .getfield 230, .iconst 0, .iaload, .aload 3, .getfield 230, .iload 1, .iaload, .isub, .ireturn]) := rfl
theorem k98_12 : xM98.2.2.2.2.2[12]? = some ([1, 3], [.aload 3, .aload 3, .getfield 228, .iload 1, .iaload, .invokevirtual 63, .ireturn]) := rfl
theorem k98_13 : xM98.2.2.2.2.2[13]? = some ([0, 1, 3], [.aload 0, .getfield 321, .getfield 263, .aload 3, .getfield 230, .iload 1, .iaload, .aload 3, .getfield 230, .iload 1, .iaload, .invokevirtual 7, .ifCond .le 15, .goto_w 14]) := rfl
theorem k98_14 : xM98.2.2.2.2.2[14]? = some ([], [.iconst 1, .goto 16]) := rfl
theorem k98_15 : xM98.2.2.2.2.2[15]? = some ([], [.iconst 0, .goto_w 16]) := rfl
theorem k98_16 : xM98.2.2.2.2.2[16]? = some ([], [.ireturn]) := rfl
theorem k99_0 : xM99.2.2.2.2.2[0]? = some ([0, 1, 2], [.aload 0, .invokevirtual 155, .aload 0, .iload 1, .invokevirtual 157, .iload 2, .iconst 0, .iconst 8, .invokestatic 159, .aload 0, .getfield 321, .getfield 260, .iconst 1, .iaload, .istore 3, .iload 2, .tableswitch 9 0 7 #[1, 2, 3, 4, 5, 6, 7, 8]]) := rfl
theorem k99_1 : xM99.2.2.2.2.2[1]? = some ([0, 1], [.aload 0, .getfield 323, .getfield 193, .iload 1, .iaload, .ireturn]) := rfl
theorem k99_2 : xM99.2.2.2.2.2[2]? = some ([0, 1], [.aload 0, .getfield 323, .getfield 194, .iload 1, .iaload, .ireturn]) := rfl
theorem k99_3 : xM99.2.2.2.2.2[3]? = some ([0, 1], [.aload 0, .getfield 323, .getfield 195, .iload 1, .iaload, .ireturn]) := rfl
theorem k99_4 : xM99.2.2.2.2.2[4]? = some ([0, 1], [.aload 0, .getfield 321, .getfield 261, .iload 1, .iaload, .ireturn]) := rfl
theorem k99_5 : xM99.2.2.2.2.2[5]? = some ([0, 1], [.aload 0, .iload 1, .invokevirtual 169, .invokestatic 383, .ireturn]) := rfl
theorem k99_6 : xM99.2.2.2.2.2[6]? = some ([0, 1], [.aload 0, .iload 1, .invokevirtual 161, .getfield 160, .ireturn]) := rfl
theorem k99_7 : xM99.2.2.2.2.2[7]? = some ([0, 1], [.aload 0, .getfield 321, .getfield 262, .aload 0, .getfield 323, .getfield 194, .iload 1, .iaload, .invokevirtual 66, .ireturn]) := rfl
theorem k99_8 : xM99.2.2.2.2.2[8]? = some ([0, 1, 3], [.aload 0, .getfield 321, .getfield 262, .aload 0, .getfield 323, .getfield 194, .iload 1, .iaload, .iload 3, .iadd, .invokevirtual 64, .ireturn]) := rfl
theorem k99_9 : xM99.2.2.2.2.2[9]? = some ([0, 1, 3], [.aload 0, .getfield 321, .getfield 262, .aload 0, .getfield 323, .getfield 194, .iload 1, .iaload, .iload 3, .isub, .invokevirtual 65, .ireturn]) := rfl
theorem k100_0 : xM100.2.2.2.2.2[0]? = some ([0, 1, 2], [.aload 0, .invokevirtual 155, .aload 0, .getfield 321, .getfield 264, .astore 3, .iload 1, .aload 3, .getfield 128, .invokestatic 158, .iload 2, .iconst 0, .iconst 3, .invokestatic 159, .iload 2, .tableswitch 4 0 2 #[1, 2, 3]]) := rfl
theorem k100_1 : xM100.2.2.2.2.2[1]? = some ([1, 3], [.aload 3, .getfield 129, .iload 1, .iaload, .ireturn]) := rfl
theorem k100_2 : xM100.2.2.2.2.2[2]? = some ([1, 3], [.aload 3, .getfield 130, .iload 1, .iaload, .ireturn]) := rfl
theorem k100_3 : xM100.2.2.2.2.2[3]? = some ([1, 3], [.aload 3, .getfield 131, .iload 1, .iaload, .ireturn]) := rfl
theorem k100_4 : xM100.2.2.2.2.2[4]? = some ([0, 1, 3], [.aload 3, .getfield 131, .iload 1, .iaload, .ifCond .ne 6, .goto_w 5]) := rfl
theorem k100_5 : xM100.2.2.2.2.2[5]? = some ([0, 1, 3], [.aload 3, .getfield 129, .iload 1, .iaload, .aload 0, .getfield 321, .getfield 256, .isub, .goto 7]) := rfl
theorem k100_6 : xM100.2.2.2.2.2[6]? = some ([], [.iconst (-1), .goto_w 7]) := rfl
theorem k100_7 : xM100.2.2.2.2.2[7]? = some ([], [.ireturn]) := rfl
theorem k101_0 : xM101.2.2.2.2.2[0]? = some ([0, 1, 2], [.aload 0, .invokevirtual 155, .aload 0, .getfield 321, .getfield 263, .astore 3, .iload 1, .aload 3, .getfield 32, .invokestatic 158, .iload 2, .iconst 0, .iconst 2, .invokestatic 159, .iload 2, .lookupswitch 3 #[(0, 1), (1, 2)]]) := rfl
theorem k101_1 : xM101.2.2.2.2.2[1]? = some ([1, 3], [.aload 3, .getfield 33, .iload 1, .iaload, .ireturn]) := rfl
theorem k101_2 : xM101.2.2.2.2.2[2]? = some ([1, 3], [.aload 3, .getfield 34, .iload 1, .iaload, .ireturn]) := rfl
theorem k101_3 : xM101.2.2.2.2.2[3]? = some ([1, 3], [.aload 3, .getfield 35, .iload 1, .iaload, .ireturn]) := rfl
theorem k102_0 : xM102.2.2.2.2.2[0]? = some ([0, 1, 2], [.aload 0, .invokevirtual 155, .aload 0, .iload 1, .invokevirtual 157, .aload 0, .getfield 323, .iload 1, .iload 2, .invokevirtual 45, .ireturn]) := rfl
theorem k103_0 : xM103.2.2.2.2.2[0]? = some ([0, 1, 2], [.aload 0, .invokevirtual 155, .aload 0, .iload 1, .invokevirtual 157, .aload 0, .iload 1, .invokevirtual 161, .iload 2, .invokevirtual 35, .ireturn]) := rfl
theorem k104_0 : xM104.2.2.2.2.2[0]? = some ([0, 1], [.aload 0, .invokevirtual 155, .aload 0, .iload 1, .invokevirtual 157, .aload 0, .iload 1, .invokevirtual 169, .ireturn]) := rfl
theorem k105_0 : xM105.2.2.2.2.2[0]? = some ([0, 1], [.aload 0, .invokevirtual 155, .aload 0, .iload 1, .invokevirtual 157, .aload 0, .iload 1, .invokevirtual 161, .aload 0, .getfield 323, .iload 1, .invokevirtual 37, .ireturn]) := rfl
theorem k106_0 : xM106.2.2.2.2.2[0]? = some ([0, 1], [.aload 0, .invokevirtual 155, .aload 0, .iload 1, .invokevirtual 157, .aload 0, .iload 1, .invokevirtual 161, .aload 0, .getfield 323, .iload 1, .invokevirtual 39, .ireturn]) := rfl
theorem k107_0 : xM107.2.2.2.2.2[0]? = some ([0, 1], [.aload 0, .invokevirtual 155, .aload 0, .iload 1, .invokevirtual 157, .aload 0, .iload 1, .invokevirtual 161, .aload 0, .getfield 323, .iload 1, .invokevirtual 40, .freturn]) := rfl
theorem k108_0 : xM108.2.2.2.2.2[0]? = some ([0, 1], [.aload 0, .invokevirtual 155, .aload 0, .iload 1, .invokevirtual 157, .aload 0, .iload 1, .invokevirtual 161, .aload 0, .getfield 323, .iload 1, .invokevirtual 40, .invokestatic 170, .ireturn]) := rfl
theorem k109_0 : xM109.2.2.2.2.2[0]? = some ([0, 1], [.aload 0, .invokevirtual 155, .aload 0, .iload 1, .invokevirtual 157, .iconst 0, .istore 2, .iconst 1, .istore 3, .goto_w 1]) := rfl
theorem k109_1 : xM109.2.2.2.2.2[1]? = some ([0, 1, 2, 3], [.iload 3, .iconst 26, .if_icmp .gt 3, .goto_w 2]) := rfl
theorem k109_2 : xM109.2.2.2.2.2[2]? = some ([0, 1, 2, 3], [.iload 2, .iconst 0, .aload 0, .getfield 323, .iload 1, .iload 3, .invokevirtual 46, .aload 0, .getfield 321, .getfield 262, .iload 3, .invokevirtual 56, .isub, .invokestatic 385, .iadd, .istore 2, .iinc 3 1, .goto 1]) := rfl
theorem k109_3 : xM109.2.2.2.2.2[3]? = some ([2], [.iload 2, .ireturn]) := rfl
theorem k110_0 : xM110.2.2.2.2.2[0]? = some ([0, 1, 2], [.aload 0, .invokevirtual 155, .aload 0, .iload 1, .invokevirtual 157, .aload 0, .iload 1, .invokevirtual 161, .iload 2, .invokevirtual 36, .ireturn]) := rfl
theorem k111_0 : xM111.2.2.2.2.2[0]? = some ([0, 1], [.aload 0, .invokevirtual 155, .aload 0, .iload 1, .invokevirtual 157, .aload 0, .iload 1, .invokevirtual 161, .astore 2, .aload 2, .getfield 160, .aload 2, .getfield 161, .isub, .ireturn]) := rfl
theorem k112_0 : xM112.2.2.2.2.2[0]? = some ([0, 1], [.aload 0, .invokevirtual 155, .aload 0, .iload 1, .invokevirtual 157, .aload 0, .iload 1, .invokevirtual 161, .aload 0, .getfield 323, .iload 1, .invokevirtual 38, .ireturn]) := rfl
theorem k113_0 : xM113.2.2.2.2.2[0]? = some ([0, 1], [.aload 0, .invokevirtual 155, .iload 1, .iconst 1, .iconst 26, .invokestatic 159, .iconst 0, .istore 2, .goto_w 1]) := rfl
theorem k113_1 : xM113.2.2.2.2.2[1]? = some ([0, 1, 2], [.iload 2, .aload 0, .getfield 321, .getfield 262, .getfield 224, .if_icmp .ge 5, .goto_w 2]) := rfl
theorem k113_2 : xM113.2.2.2.2.2[2]? = some ([0, 1, 2], [.aload 0, .getfield 321, .getfield 262, .getfield 229, .iload 2, .iaload, .iload 1, .if_icmp .ne 4, .goto_w 3]) := rfl
theorem k113_3 : xM113.2.2.2.2.2[3]? = some ([2], [.iload 2, .ireturn]) := rfl
theorem k113_4 : xM113.2.2.2.2.2[4]? = some ([0, 1, 2], [.iinc 2 1, .goto 1]) := rfl
theorem k113_5 : xM113.2.2.2.2.2[5]? = some ([], [.iconst (-1), .ireturn]) := rfl
theorem k114_0 : xM114.2.2.2.2.2[0]? = some ([0, 1], [.aload 0, .invokevirtual 155, .iload 1, .iconst 1, .iconst 26, .invokestatic 159, .aload 0, .getfield 321, .getfield 262, .iload 1, .invokevirtual 56, .aload 0, .getfield 321, .getfield 263, .iload 1, .invokevirtual 9, .iadd, .ireturn]) := rfl
theorem k115_0 : xM115.2.2.2.2.2[0]? = some ([0, 1], [.aload 0, .invokevirtual 155, .iload 1, .iconst 0, .iconst 100, .invokestatic 159, .aload 0, .getfield 321, .getfield 262, .iload 1, .invokevirtual 62, .ireturn]) := rfl
theorem k116_0 : xM116.2.2.2.2.2[0]? = some ([0], [.aload 0, .invokevirtual 155, .iconst 0, .istore 1, .iconst 0, .istore 2, .goto_w 1]) := rfl
theorem k116_1 : xM116.2.2.2.2.2[1]? = some ([0, 1, 2], [.iload 2, .aload 0, .getfield 321, .getfield 262, .getfield 224, .if_icmp .ge 5, .goto_w 2]) := rfl
theorem k116_2 : xM116.2.2.2.2.2[2]? = some ([0, 1, 2], [.aload 0, .getfield 321, .iload 2, .invokevirtual 74, .ifCond .eq 4, .goto_w 3]) := rfl
theorem k116_3 : xM116.2.2.2.2.2[3]? = some ([0, 1, 2], [.iload 1, .iconst 1, .iload 2, .ishl, .ior, .istore 1, .goto_w 4]) := rfl
theorem k116_4 : xM116.2.2.2.2.2[4]? = some ([0, 1, 2], [.iinc 2 1, .goto 1]) := rfl
theorem k116_5 : xM116.2.2.2.2.2[5]? = some ([1], [.iload 1, .ireturn]) := rfl
theorem k117_0 : xM117.2.2.2.2.2[0]? = some ([0], [.aload 0, .invokevirtual 155, .aload 0, .getfield 321, .getfield 264, .invokevirtual 31, .ireturn]) := rfl
theorem k118_0 : xM118.2.2.2.2.2[0]? = some ([0, 1, 2], [.aload 0, .invokevirtual 155, .aload 0, .getfield 321, .getfield 263, .iload 1, .iload 2, .invokevirtual 7, .ireturn]) := rfl
theorem k119_0 : xM119.2.2.2.2.2[0]? = some ([0], [.aload 0, .invokevirtual 155, .iconst (-1), .istore 1, .ldc_w 3212836864, .fstore 2, .iconst 0, .istore 3, .goto_w 1]) := rfl
theorem k119_1 : xM119.2.2.2.2.2[1]? = some ([0, 1, 2, 3], [.iload 3, .aload 0, .getfield 323, .getfield 192, .if_icmp .ge 5, .goto_w 2]) := rfl
theorem k119_2 : xM119.2.2.2.2.2[2]? = some ([0, 1, 2, 3], [.aload 0, .iload 3, .invokevirtual 161, .aload 0, .getfield 323, .iload 3, .invokevirtual 40, .fstore 4, .fload 4, .fload 2, .fcmp .l, .ifCond .le 4, .goto_w 3]) := rfl
theorem k119_3 : xM119.2.2.2.2.2[3]? = some ([0, 3, 4], [.iload 3, .istore 1, .fload 4, .fstore 2, .goto_w 4]) := rfl
theorem k119_4 : xM119.2.2.2.2.2[4]? = some ([0, 1, 2, 3], [.iinc 3 1, .goto 1]) := rfl
theorem k119_5 : xM119.2.2.2.2.2[5]? = some ([1], [.iload 1, .ireturn]) := rfl
theorem k120_0 : xM120.2.2.2.2.2[0]? = some ([0], [.aload 0, .invokevirtual 155, .aload 0, .invokevirtual 166, .ireturn]) := rfl
theorem k121_0 : xM121.2.2.2.2.2[0]? = some ([0], [.aload 0, .invokevirtual 155, .iconst (-1), .istore 1, .iconst 0, .istore 2, .goto_w 1]) := rfl
theorem k121_1 : xM121.2.2.2.2.2[1]? = some ([0, 1, 2], [.iload 2, .aload 0, .getfield 321, .getfield 262, .getfield 224, .if_icmp .ge 6, .goto_w 2]) := rfl
theorem k121_2 : xM121.2.2.2.2.2[2]? = some ([0, 1, 2], [.iload 1, .iconst (-1), .if_icmp .eq 4, .goto_w 3]) := rfl
theorem k121_3 : xM121.2.2.2.2.2[3]? = some ([0, 1, 2], [.aload 0, .getfield 321, .getfield 262, .getfield 228, .iload 2, .iaload, .aload 0, .getfield 321, .getfield 262, .getfield 228, .iload 1, .iaload, .if_icmp .ge 5, .goto_w 4]) := rfl
theorem k121_4 : xM121.2.2.2.2.2[4]? = some ([0, 2], [.iload 2, .istore 1, .goto_w 5]) := rfl
theorem k121_5 : xM121.2.2.2.2.2[5]? = some ([0, 1, 2], [.iinc 2 1, .goto 1]) := rfl
theorem k121_6 : xM121.2.2.2.2.2[6]? = some ([1], [.iload 1, .ireturn]) := rfl
theorem k122_0 : xM122.2.2.2.2.2[0]? = some ([0], [.aload 0, .invokevirtual 155, .iconst (-1), .istore 1, .iconst 1, .istore 2, .goto_w 1]) := rfl
theorem k122_1 : xM122.2.2.2.2.2[1]? = some ([0, 1, 2], [.iload 2, .aload 0, .getfield 321, .getfield 262, .getfield 224, .if_icmp .ge 6, .goto_w 2]) := rfl
theorem k122_2 : xM122.2.2.2.2.2[2]? = some ([0, 1, 2], [.iload 1, .iconst (-1), .if_icmp .eq 4, .goto_w 3]) := rfl
theorem k122_3 : xM122.2.2.2.2.2[3]? = some ([0, 1, 2], [.aload 0, .getfield 321, .getfield 262, .iload 2, .invokevirtual 51, .aload 0, .getfield 321, .getfield 262, .iload 1, .invokevirtual 51, .if_icmp .le 5, .goto_w 4]) := rfl
theorem k122_4 : xM122.2.2.2.2.2[4]? = some ([0, 2], [.iload 2, .istore 1, .goto_w 5]) := rfl
theorem k122_5 : xM122.2.2.2.2.2[5]? = some ([0, 1, 2], [.iinc 2 1, .goto 1]) := rfl
theorem k122_6 : xM122.2.2.2.2.2[6]? = some ([1], [.iload 1, .ireturn]) := rfl
theorem k123_0 : xM123.2.2.2.2.2[0]? = some ([0], [.aload 0, .invokevirtual 155, .aload 0, .getfield 321, .getfield 262, .astore 1, .aload 1, .getfield 224, .iconst 2, .if_icmp .ge 2, .goto_w 1]) := rfl
theorem k123_1 : xM123.2.2.2.2.2[1]? = some ([], [.iconst 0, .goto 3]) := rfl
theorem k123_2 : xM123.2.2.2.2.2[2]? = some ([1], [.aload 1, .getfield 230, .iconst 0, .iaload, .aload 1, .getfield 230, .aload 1, .getfield 224, .iconst 1, .isub, .iaload, .isub, .goto_w 3]) := rfl
theorem k123_3 : xM123.2.2.2.2.2[3]? = some ([], [.ireturn]) := rfl
theorem k124_0 : xM124.2.2.2.2.2[0]? = some ([0], [.aload 0, .invokevirtual 155, .aload 0, .getfield 321, .getfield 262, .invokevirtual 61, .dreturn]) := rfl
theorem k125_0 : xM125.2.2.2.2.2[0]? = some ([0], [.aload 0, .invokevirtual 155, .aload 0, .getfield 321, .getfield 262, .invokevirtual 61, .invokestatic 171, .lreturn]) := rfl
theorem k126_0 : xM126.2.2.2.2.2[0]? = some ([0, 1], [.aload 0, .invokevirtual 155, .aload 0, .iload 1, .invokevirtual 157, .aload 0, .getfield 322, .aload 0, .getfield 321, .invokevirtual 68, .iconst 0, .istore 2, .goto_w 1]) := rfl
theorem k126_1 : xM126.2.2.2.2.2[1]? = some ([0, 1, 2], [.iload 2, .iconst 300, .if_icmp .ge 5, .goto_w 2]) := rfl
theorem k126_2 : xM126.2.2.2.2.2[2]? = some ([0, 1, 2], [.aload 0, .iload 1, .invokevirtual 162, .aload 0, .getfield 323, .iload 1, .invokevirtual 39, .ifCond .eq 4, .goto_w 3]) := rfl
theorem k126_3 : xM126.2.2.2.2.2[3]? = some ([2], [.iload 2, .ireturn]) := rfl
theorem k126_4 : xM126.2.2.2.2.2[4]? = some ([0, 1, 2], [.aload 0, .getfield 322, .invokevirtual 70, .iinc 2 1, .goto 1]) := rfl
theorem k126_5 : xM126.2.2.2.2.2[5]? = some ([0, 1], [.aload 0, .iload 1, .invokevirtual 162, .aload 0, .getfield 323, .iload 1, .invokevirtual 39, .ifCond .eq 7, .goto_w 6]) := rfl
theorem k126_6 : xM126.2.2.2.2.2[6]? = some ([], [.iconst 300, .goto 8]) := rfl
theorem k126_7 : xM126.2.2.2.2.2[7]? = some ([], [.iconst (-1), .goto_w 8]) := rfl
theorem k126_8 : xM126.2.2.2.2.2[8]? = some ([], [.ireturn]) := rfl
theorem k127_0 : xM127.2.2.2.2.2[0]? = some ([0, 1], [.aload 0, .invokevirtual 155, .aload 0, .iload 1, .invokevirtual 157, .aload 0, .getfield 323, .getfield 194, .iload 1, .iaload, .aload 0, .getfield 321, .getfield 260, .iconst 1, .iaload, .iadd, .istore 2, .aload 0, .getfield 322, .aload 0, .getfield 321, .invokevirtual 68, .iconst 0, .istore 3, .goto_w 1]) := rfl
theorem k127_1 : xM127.2.2.2.2.2[1]? = some ([0, 2, 3], [.iload 3, .iconst 300, .if_icmp .ge 5, .goto_w 2]) := rfl
theorem k127_2 : xM127.2.2.2.2.2[2]? = some ([0, 2, 3], [.aload 0, .getfield 322, .getfield 262, .iload 2, .invokevirtual 64, .aload 0, .getfield 322, .getfield 262, .getfield 224, .if_icmp .ne 4, .goto_w 3]) := rfl
theorem k127_3 : xM127.2.2.2.2.2[3]? = some ([3], [.iload 3, .ireturn]) := rfl
theorem k127_4 : xM127.2.2.2.2.2[4]? = some ([0, 2, 3], [.aload 0, .getfield 322, .invokevirtual 70, .iinc 3 1, .goto 1]) := rfl
theorem k127_5 : xM127.2.2.2.2.2[5]? = some ([0, 2], [.aload 0, .getfield 322, .getfield 262, .iload 2, .invokevirtual 64, .aload 0, .getfield 322, .getfield 262, .getfield 224, .if_icmp .ne 7, .goto_w 6]) := rfl
theorem k127_6 : xM127.2.2.2.2.2[6]? = some ([], [.iconst 300, .goto 8]) := rfl
theorem k127_7 : xM127.2.2.2.2.2[7]? = some ([], [.iconst (-1), .goto_w 8]) := rfl
theorem k127_8 : xM127.2.2.2.2.2[8]? = some ([], [.ireturn]) := rfl
theorem k128_0 : xM128.2.2.2.2.2[0]? = some ([0, 1, 2], [.aload 0, .invokevirtual 155, .aload 0, .iload 1, .invokevirtual 156, .iload 2, .iconst 0, .iconst 300, .invokestatic 159, .aload 0, .iload 2, .invokevirtual 163, .aload 0, .getfield 322, .getfield 262, .getfield 230, .iload 1, .iaload, .ireturn]) := rfl
theorem k129_0 : xM129.2.2.2.2.2[0]? = some ([0, 1, 2], [.aload 0, .invokevirtual 155, .aload 0, .iload 1, .invokevirtual 156, .iload 2, .iconst 0, .iconst 300, .invokestatic 159, .aload 0, .iload 2, .invokevirtual 163, .aload 0, .getfield 322, .getfield 262, .getfield 228, .iload 1, .iaload, .ireturn]) := rfl
theorem k130_0 : xM130.2.2.2.2.2[0]? = some ([0, 1, 2], [.aload 0, .invokevirtual 155, .aload 0, .iload 1, .invokevirtual 156, .iload 2, .iconst 0, .iconst 300, .invokestatic 159, .aload 0, .iload 2, .invokevirtual 163, .aload 0, .getfield 322, .getfield 262, .getfield 229, .iload 1, .iaload, .ireturn]) := rfl
theorem k131_0 : xM131.2.2.2.2.2[0]? = some ([0, 1], [.aload 0, .invokevirtual 155, .iload 1, .iconst 0, .iconst 300, .invokestatic 159, .aload 0, .iload 1, .invokevirtual 163, .aload 0, .getfield 322, .getfield 258, .aload 0, .getfield 321, .getfield 258, .isub, .ireturn]) := rfl
theorem k132_0 : xM132.2.2.2.2.2[0]? = some ([0], [.aload 0, .invokevirtual 155, .aload 0, .getfield 322, .aload 0, .getfield 321, .invokevirtual 68, .aload 0, .iconst 300, .invokevirtual 164, .ireturn]) := rfl
theorem k133_0 : xM133.2.2.2.2.2[0]? = some ([0, 1, 2], [.aload 0, .invokevirtual 155, .aload 0, .iload 1, .invokevirtual 157, .iload 2, .iconst 0, .iconst 300, .invokestatic 159, .aload 0, .iload 2, .invokevirtual 163, .aload 0, .iload 1, .invokevirtual 162, .aload 0, .getfield 323, .iload 1, .invokevirtual 40, .freturn]) := rfl
theorem k134_0 : xM134.2.2.2.2.2[0]? = some ([0, 1, 2], [.aload 0, .invokevirtual 155, .aload 0, .iload 1, .invokevirtual 157, .iload 2, .iconst 0, .iconst 300, .invokestatic 159, .aload 0, .getfield 322, .aload 0, .getfield 321, .invokevirtual 68, .aload 0, .iload 1, .invokevirtual 162, .aload 0, .getfield 323, .iload 1, .invokevirtual 40, .fstore 3, .iconst 0, .istore 4, .goto_w 1]) := rfl
theorem k134_1 : xM134.2.2.2.2.2[1]? = some ([0, 1, 2, 3, 4], [.iload 4, .iload 2, .if_icmp .ge 6, .goto_w 2]) := rfl
theorem k134_2 : xM134.2.2.2.2.2[2]? = some ([0, 1, 2, 3, 4], [.aload 0, .getfield 322, .invokevirtual 70, .aload 0, .iload 1, .invokevirtual 162, .aload 0, .getfield 323, .iload 1, .invokevirtual 40, .fstore 5, .fload 5, .fload 3, .fcmp .l, .ifCond .le 4, .goto_w 3]) := rfl
theorem k134_3 : xM134.2.2.2.2.2[3]? = some ([0, 1, 2, 4, 5], [.fload 5, .goto 5]) := rfl
theorem k134_4 : xM134.2.2.2.2.2[4]? = some ([0, 1, 2, 3, 4], [.fload 3, .goto_w 5]) := rfl
theorem k134_5 : xM134.2.2.2.2.2[5]? = some ([0, 1, 2, 4], [.fstore 3, .iinc 4 1, .goto 1]) := rfl
theorem k134_6 : xM134.2.2.2.2.2[6]? = some ([3], [.fload 3, .freturn]) := rfl
theorem k135_0 : xM135.2.2.2.2.2[0]? = some ([0, 1], [.aload 0, .invokevirtual 155, .aload 0, .iload 1, .invokevirtual 157, .iconst (-1), .istore 2, .aload 0, .iload 1, .invokevirtual 161, .aload 0, .getfield 323, .iload 1, .invokevirtual 40, .fstore 3, .aload 0, .getfield 322, .aload 0, .getfield 321, .invokevirtual 68, .iconst 0, .istore 4, .goto_w 1]) := rfl
theorem k135_1 : xM135.2.2.2.2.2[1]? = some ([0, 1, 2, 3, 4], [.iload 4, .iconst 1, .iadd, .aload 0, .getfield 322, .getfield 262, .getfield 224, .if_icmp .ge 5, .goto_w 2]) := rfl
theorem k135_2 : xM135.2.2.2.2.2[2]? = some ([0, 1, 2, 3, 4], [.aload 0, .getfield 322, .getfield 262, .iload 4, .invokevirtual 53, .aload 0, .iload 1, .invokevirtual 162, .aload 0, .getfield 323, .iload 1, .invokevirtual 40, .fstore 5, .aload 0, .getfield 322, .getfield 262, .iload 4, .invokevirtual 53, .fload 5, .fload 3, .fcmp .l, .ifCond .le 4, .goto_w 3]) := rfl
theorem k135_3 : xM135.2.2.2.2.2[3]? = some ([0, 1, 4, 5], [.iload 4, .istore 2, .fload 5, .fstore 3, .goto_w 4]) := rfl
theorem k135_4 : xM135.2.2.2.2.2[4]? = some ([0, 1, 2, 3, 4], [.iinc 4 1, .goto 1]) := rfl
theorem k135_5 : xM135.2.2.2.2.2[5]? = some ([2], [.iload 2, .ireturn]) := rfl
theorem k136_0 : xM136.2.2.2.2.2[0]? = some ([0, 1], [.aload 0, .invokevirtual 155, .aload 0, .iload 1, .invokevirtual 156, .iload 1, .ifCond .ne 2, .goto_w 1]) := rfl
theorem k136_1 : xM136.2.2.2.2.2[1]? = some ([], [.iconst (-1), .ireturn]) := rfl
theorem k136_2 : xM136.2.2.2.2.2[2]? = some ([0, 1], [.aload 0, .getfield 321, .getfield 260, .iconst 0, .iaload, .istore 2, .aload 0, .getfield 322, .aload 0, .getfield 321, .invokevirtual 68, .iconst 0, .istore 3, .goto_w 3]) := rfl
theorem k136_3 : xM136.2.2.2.2.2[3]? = some ([0, 1, 2, 3], [.iload 3, .iconst 300, .if_icmp .ge 7, .goto_w 4]) := rfl
theorem k136_4 : xM136.2.2.2.2.2[4]? = some ([0, 1, 2, 3], [.aload 0, .getfield 322, .getfield 262, .iload 1, .invokevirtual 51, .iload 2, .if_icmp .ne 6, .goto_w 5]) := rfl
theorem k136_5 : xM136.2.2.2.2.2[5]? = some ([3], [.iload 3, .ireturn]) := rfl
theorem k136_6 : xM136.2.2.2.2.2[6]? = some ([0, 1, 2, 3], [.aload 0, .getfield 322, .invokevirtual 70, .iinc 3 1, .goto 3]) := rfl
theorem k136_7 : xM136.2.2.2.2.2[7]? = some ([0, 1, 2], [.aload 0, .getfield 322, .getfield 262, .iload 1, .invokevirtual 51, .iload 2, .if_icmp .ne 9, .goto_w 8]) := rfl
theorem k136_8 : xM136.2.2.2.2.2[8]? = some ([], [.iconst 300, .goto 10]) := rfl
theorem k136_9 : xM136.2.2.2.2.2[9]? = some ([], [.iconst (-1), .goto_w 10]) := rfl
theorem k136_10 : xM136.2.2.2.2.2[10]? = some ([], [.ireturn]) := rfl
theorem k137_0 : xM137.2.2.2.2.2[0]? = some ([0], [.aload 0, .invokevirtual 155, .iconst 0, .istore 1, .goto_w 1]) := rfl
theorem k137_1 : xM137.2.2.2.2.2[1]? = some ([0, 1], [.iload 1, .iconst 50, .if_icmp .gt 5, .goto_w 2]) := rfl
theorem k137_2 : xM137.2.2.2.2.2[2]? = some ([0, 1], [.aload 0, .getfield 322, .aload 0, .getfield 321, .invokevirtual 68, .aload 0, .getfield 322, .getfield 260, .iconst 3, .iload 1, .iastore, .aload 0, .iconst 100, .invokevirtual 164, .iconst (-1), .if_icmp .ne 4, .goto_w 3]) := rfl
theorem k137_3 : xM137.2.2.2.2.2[3]? = some ([1], [.iload 1, .ireturn]) := rfl
theorem k137_4 : xM137.2.2.2.2.2[4]? = some ([0, 1], [.iinc 1 1, .goto 1]) := rfl
theorem k137_5 : xM137.2.2.2.2.2[5]? = some ([], [.iconst (-1), .ireturn]) := rfl
theorem k138_0 : xM138.2.2.2.2.2[0]? = some ([0, 1], [.aload 0, .invokevirtual 155, .aload 0, .iload 1, .invokevirtual 157, .aload 0, .iload 1, .invokevirtual 161, .astore 2, .aload 0, .getfield 326, .iconst 0, .putfield 0, .iconst 0, .istore 3, .goto_w 1]) := rfl
theorem k138_1 : xM138.2.2.2.2.2[1]? = some ([0, 2, 3], [.iload 3, .aload 2, .getfield 160, .if_icmp .ge 3, .goto_w 2]) := rfl
theorem k138_2 : xM138.2.2.2.2.2[2]? = some ([0, 2, 3], [.aload 0, .getfield 326, .aload 2, .iload 3, .invokevirtual 35, .invokevirtual 1, .iinc 3 1, .goto 1]) := rfl
theorem k138_3 : xM138.2.2.2.2.2[3]? = some ([0], [.aload 0, .getfield 326, .getfield 0, .ireturn]) := rfl
theorem k139_0 : xM139.2.2.2.2.2[0]? = some ([0], [.aload 0, .invokevirtual 155, .aload 0, .getfield 326, .iconst 0, .putfield 0, .iconst 0, .istore 1, .goto_w 1]) := rfl
theorem k139_1 : xM139.2.2.2.2.2[1]? = some ([0, 1], [.iload 1, .aload 0, .getfield 321, .getfield 262, .getfield 224, .if_icmp .ge 6, .goto_w 2]) := rfl
theorem k139_2 : xM139.2.2.2.2.2[2]? = some ([0, 1], [.aload 0, .getfield 321, .getfield 262, .getfield 229, .iload 1, .iaload, .istore 2, .aload 0, .getfield 326, .iload 2, .ifCond .ne 4, .goto_w 3]) := rfl
theorem k139_3 : xM139.2.2.2.2.2[3]? = some ([0, 1], [.iconst 45, .goto 5]) := rfl
theorem k139_4 : xM139.2.2.2.2.2[4]? = some ([0, 1, 2], [.iconst 96, .iload 2, .iadd, .goto_w 5]) := rfl
theorem k139_5 : xM139.2.2.2.2.2[5]? = some ([0, 1], [.invokevirtual 1, .iinc 1 1, .goto 1]) := rfl
theorem k139_6 : xM139.2.2.2.2.2[6]? = some ([0], [.aload 0, .getfield 326, .getfield 0, .ireturn]) := rfl
theorem k140_0 : xM140.2.2.2.2.2[0]? = some ([0], [.aload 0, .invokevirtual 155, .aload 0, .getfield 326, .iconst 0, .putfield 0, .iconst 0, .istore 1, .goto_w 1]) := rfl
theorem k140_1 : xM140.2.2.2.2.2[1]? = some ([0, 1], [.iload 1, .aload 0, .getfield 321, .getfield 262, .getfield 224, .if_icmp .ge 5, .goto_w 2]) := rfl
theorem k140_2 : xM140.2.2.2.2.2[2]? = some ([0, 1], [.iload 1, .ifCond .le 4, .goto_w 3]) := rfl
theorem k140_3 : xM140.2.2.2.2.2[3]? = some ([0, 1], [.aload 0, .getfield 326, .iconst 44, .invokevirtual 1, .goto_w 4]) := rfl
theorem k140_4 : xM140.2.2.2.2.2[4]? = some ([0, 1], [.aload 0, .getfield 326, .aload 0, .getfield 321, .getfield 262, .getfield 230, .iload 1, .iaload, .invokevirtual 2, .iinc 1 1, .goto 1]) := rfl
theorem k140_5 : xM140.2.2.2.2.2[5]? = some ([0], [.aload 0, .getfield 326, .getfield 0, .ireturn]) := rfl
theorem k141_0 : xM141.2.2.2.2.2[0]? = some ([0, 1], [.iload 1, .aload 0, .getfield 326, .getfield 0, .invokestatic 158, .aload 0, .getfield 326, .getfield 1, .iload 1, .iaload, .ireturn]) := rfl
theorem k142_0 : xM142.2.2.2.2.2[0]? = some ([0, 1], [.aload 0, .invokevirtual 155, .iload 1, .iconst 1, .iconst 100, .invokestatic 159, .aload 0, .getfield 321, .getfield 256, .iload 1, .iadd, .iconst 5000, .if_icmp .gt 2, .goto_w 1]) := rfl
theorem k142_1 : xM142.2.2.2.2.2[1]? = some ([0, 1], [.iconst 1, .goto 3]) := rfl
theorem k142_2 : xM142.2.2.2.2.2[2]? = some ([0, 1], [.iconst 0, .goto_w 3]) := rfl
theorem k142_3 : xM142.2.2.2.2.2[3]? = some ([0, 1], [.invokestatic 160, .aload 0, .getfield 324, .aload 0, .getfield 321, .invokevirtual 13, .aload 0, .invokevirtual 166, .invokestatic 383, .istore 2, .iconst 0, .istore 3, .goto_w 4]) := rfl
theorem k142_4 : xM142.2.2.2.2.2[4]? = some ([0, 1, 2, 3], [.iload 3, .iload 1, .if_icmp .ge 6, .goto_w 5]) := rfl
theorem k142_5 : xM142.2.2.2.2.2[5]? = some ([0, 1, 2, 3], [.aload 0, .getfield 321, .invokevirtual 70, .aload 0, .invokevirtual 165, .iinc 3 1, .goto 4]) := rfl
theorem k142_6 : xM142.2.2.2.2.2[6]? = some ([0, 2], [.aload 0, .invokevirtual 166, .invokestatic 383, .iload 2, .isub, .ireturn]) := rfl
theorem k143_0 : xM143.2.2.2.2.2[0]? = some ([0, 1], [.aload 0, .invokevirtual 155, .aload 0, .iload 1, .invokevirtual 156, .aload 0, .getfield 321, .iload 1, .invokevirtual 74, .invokestatic 160, .aload 0, .getfield 324, .aload 0, .getfield 321, .invokevirtual 13, .aload 0, .getfield 321, .iload 1, .invokevirtual 75, .aload 0, .getfield 321, .getfield 262, .getfield 229, .iload 1, .iaload, .ireturn]) := rfl
theorem k144_0 : xM144.2.2.2.2.2[0]? = some ([0, 1], [.aload 0, .invokevirtual 155, .aload 0, .iload 1, .invokevirtual 156, .aload 0, .getfield 321, .getfield 262, .getfield 229, .iload 1, .iaload, .ifCond .eq 2, .goto_w 1]) := rfl
theorem k144_1 : xM144.2.2.2.2.2[1]? = some ([0, 1], [.iconst 1, .goto 3]) := rfl
theorem k144_2 : xM144.2.2.2.2.2[2]? = some ([0, 1], [.iconst 0, .goto_w 3]) := rfl
theorem k144_3 : xM144.2.2.2.2.2[3]? = some ([0, 1], [.invokestatic 160, .aload 0, .getfield 324, .aload 0, .getfield 321, .invokevirtual 13, .aload 0, .getfield 321, .iload 1, .invokevirtual 76, .aload 0, .getfield 321, .getfield 263, .getfield 32, .ireturn]) := rfl
theorem k145_0 : xM145.2.2.2.2.2[0]? = some ([0, 1], [.aload 0, .invokevirtual 155, .aload 0, .iload 1, .invokevirtual 156, .aload 0, .getfield 321, .getfield 263, .aload 0, .getfield 321, .getfield 262, .getfield 230, .iload 1, .iaload, .aload 0, .getfield 321, .getfield 262, .getfield 230, .iload 1, .iaload, .invokevirtual 8, .istore 2, .aload 0, .getfield 321, .iload 1, .invokevirtual 77, .ifCond .eq 3, .goto_w 1]) := rfl
theorem k145_1 : xM145.2.2.2.2.2[1]? = some ([0, 1, 2], [.iload 2, .iconst (-1), .if_icmp .eq 3, .goto_w 2]) := rfl
theorem k145_2 : xM145.2.2.2.2.2[2]? = some ([0, 1, 2], [.iconst 1, .goto 4]) := rfl
theorem k145_3 : xM145.2.2.2.2.2[3]? = some ([0, 1, 2], [.iconst 0, .goto_w 4]) := rfl
theorem k145_4 : xM145.2.2.2.2.2[4]? = some ([0, 1, 2], [.invokestatic 160, .aload 0, .getfield 324, .aload 0, .getfield 321, .invokevirtual 13, .aload 0, .getfield 321, .iload 1, .iload 2, .invokevirtual 78, .aload 0, .getfield 321, .getfield 262, .getfield 229, .iload 1, .iaload, .ireturn]) := rfl
theorem k146_0 : xM146.2.2.2.2.2[0]? = some ([0, 1, 2], [.aload 0, .invokevirtual 155, .aload 0, .iload 1, .invokevirtual 156, .iload 2, .iconst (-100), .iconst 100, .invokestatic 159, .aload 0, .getfield 324, .aload 0, .getfield 321, .invokevirtual 13, .aload 0, .getfield 321, .getfield 262, .iload 1, .iload 2, .invokevirtual 52, .aload 0, .getfield 321, .getfield 262, .getfield 228, .iload 1, .iaload, .ireturn]) := rfl
theorem k147_0 : xM147.2.2.2.2.2[0]? = some ([0, 1], [.aload 0, .invokevirtual 155, .iload 1, .iconst 1, .iconst 100, .invokestatic 159, .aload 0, .getfield 324, .aload 0, .getfield 321, .invokevirtual 13, .iconst 0, .istore 2, .goto_w 1]) := rfl
theorem k147_1 : xM147.2.2.2.2.2[1]? = some ([0, 1, 2], [.iload 2, .aload 0, .getfield 321, .getfield 262, .getfield 224, .if_icmp .ge 3, .goto_w 2]) := rfl
theorem k147_2 : xM147.2.2.2.2.2[2]? = some ([0, 1, 2], [.aload 0, .getfield 321, .getfield 262, .iload 2, .iload 1, .invokevirtual 52, .iinc 2 1, .goto 1]) := rfl
theorem k147_3 : xM147.2.2.2.2.2[3]? = some ([0], [.aload 0, .getfield 321, .getfield 262, .invokevirtual 60, .ireturn]) := rfl
theorem k148_0 : xM148.2.2.2.2.2[0]? = some ([0, 1, 2], [.aload 0, .invokevirtual 155, .aload 0, .iload 1, .invokevirtual 156, .iload 2, .iconst 1, .iconst 200, .invokestatic 159, .aload 0, .getfield 324, .aload 0, .getfield 321, .invokevirtual 13, .aload 0, .getfield 321, .getfield 262, .getfield 226, .iload 1, .iaload, .istore 3, .aload 0, .getfield 321, .getfield 262, .getfield 226, .iload 1, .iload 2, .iastore, .iload 3, .ireturn]) := rfl
theorem k149_0 : xM149.2.2.2.2.2[0]? = some ([0, 1, 2], [.aload 0, .invokevirtual 155, .aload 0, .iload 2, .invokevirtual 156, .iload 1, .aload 0, .getfield 321, .getfield 256, .iconst 1, .iadd, .iconst 5000, .invokestatic 159, .iload 2, .iconst 1, .iadd, .aload 0, .getfield 321, .getfield 262, .getfield 224, .if_icmp .ge 3, .goto_w 1]) := rfl
theorem k149_1 : xM149.2.2.2.2.2[1]? = some ([0, 1, 2], [.aload 0, .getfield 321, .getfield 264, .getfield 128, .iconst 12, .if_icmp .ge 3, .goto_w 2]) := rfl
theorem k149_2 : xM149.2.2.2.2.2[2]? = some ([0, 1, 2], [.iconst 1, .goto 4]) := rfl
theorem k149_3 : xM149.2.2.2.2.2[3]? = some ([0, 1, 2], [.iconst 0, .goto_w 4]) := rfl
theorem k149_4 : xM149.2.2.2.2.2[4]? = some ([0, 1, 2], [.invokestatic 160, .aload 0, .getfield 324, .aload 0, .getfield 321, .invokevirtual 13, .aload 0, .getfield 321, .getfield 264, .iload 1, .iload 2, .invokevirtual 29, .aload 0, .getfield 321, .getfield 264, .getfield 128, .iconst 1, .isub, .ireturn]) := rfl
theorem k150_0 : xM150.2.2.2.2.2[0]? = some ([0, 1, 2], [.aload 0, .invokevirtual 155, .iload 1, .iconst 0, .iconst 5, .invokestatic 159, .iload 2, .getstatic 0, .iload 1, .iaload, .getstatic 1, .iload 1, .iaload, .invokestatic 159, .aload 0, .getfield 324, .aload 0, .getfield 321, .invokevirtual 13, .aload 0, .getfield 321, .getfield 260, .iload 1, .iaload, .istore 3, .aload 0, .getfield 321, .getfield 260, .iload 1, .iload 2, .iastore, .iload 3, .ireturn]) := rfl
theorem k151_0 : xM151.2.2.2.2.2[0]? = some ([0], [.aload 0, .getfield 324, .getfield 65, .ifCond .ne 2, .goto_w 1]) := rfl
theorem k151_1 : xM151.2.2.2.2.2[1]? = some ([], [.checkcast 0]) := rfl
theorem k151_2 : xM151.2.2.2.2.2[2]? = some ([0], [.aload 0, .getfield 324, .aload 0, .getfield 321, .invokevirtual 14, .aload 0, .getfield 324, .getfield 65, .ireturn]) := rfl
theorem k152_0 : xM152.2.2.2.2.2[0]? = some ([0], [.aload 0, .getfield 324, .getfield 65, .ireturn]) := rfl
theorem k153_0 : xM153.2.2.2.2.2[0]? = some ([0, 1], [.aload 0, .invokevirtual 155, .iload 1, .iconst 2, .invokestatic 158, .aload 0, .getfield 324, .iload 1, .aload 0, .getfield 321, .invokevirtual 15, .aload 0, .getfield 321, .getfield 256, .ireturn]) := rfl
theorem k154_0 : xM154.2.2.2.2.2[0]? = some ([0, 1], [.iload 1, .iconst 2, .invokestatic 158, .aload 0, .getfield 324, .getfield 68, .iload 1, .baload, .ifCond .ne 2, .goto_w 1]) := rfl
theorem k154_1 : xM154.2.2.2.2.2[1]? = some ([], [.checkcast 0]) := rfl
theorem k154_2 : xM154.2.2.2.2.2[2]? = some ([0, 1], [.aload 0, .getfield 324, .iload 1, .aload 0, .getfield 321, .invokevirtual 16, .aload 0, .getfield 324, .invokevirtual 11, .aload 0, .getfield 321, .getfield 256, .ireturn]) := rfl
theorem k155_0 : xM155.2.2.2.2.2[0]? = some ([0], [.aload 0, .getfield 327, .ifCond .ne 2, .goto_w 1]) := rfl
theorem k155_1 : xM155.2.2.2.2.2[1]? = some ([], [.checkcast 0]) := rfl
theorem k155_2 : xM155.2.2.2.2.2[2]? = some ([], [.return_]) := rfl
theorem k156_0 : xM156.2.2.2.2.2[0]? = some ([0, 1], [.iload 1, .aload 0, .getfield 321, .getfield 262, .getfield 224, .invokestatic 158, .return_]) := rfl
theorem k157_0 : xM157.2.2.2.2.2[0]? = some ([0, 1], [.iload 1, .aload 0, .getfield 323, .getfield 192, .invokestatic 158, .return_]) := rfl
theorem k158_0 : xM158.2.2.2.2.2[0]? = some ([0, 1], [.iload 0, .ifCond .lt 2, .goto_w 1]) := rfl
theorem k158_1 : xM158.2.2.2.2.2[1]? = some ([0, 1], [.iload 0, .iload 1, .if_icmp .lt 3, .goto_w 2]) := rfl
theorem k158_2 : xM158.2.2.2.2.2[2]? = some ([], [.checkcast 2]) := rfl
theorem k158_3 : xM158.2.2.2.2.2[3]? = some ([], [.return_]) := rfl
theorem k159_0 : xM159.2.2.2.2.2[0]? = some ([0, 1, 2], [.iload 0, .iload 1, .if_icmp .lt 3, .goto_w 1]) := rfl
theorem k159_1 : xM159.2.2.2.2.2[1]? = some ([0, 2], [.iload 0, .iload 2, .if_icmp .gt 3, .goto_w 2]) := rfl
theorem k159_2 : xM159.2.2.2.2.2[2]? = some ([], [.iconst 1, .goto 4]) := rfl
theorem k159_3 : xM159.2.2.2.2.2[3]? = some ([], [.iconst 0, .goto_w 4]) := rfl
theorem k159_4 : xM159.2.2.2.2.2[4]? = some ([], [.invokestatic 160, .return_]) := rfl
theorem k160_0 : xM160.2.2.2.2.2[0]? = some ([0], [.iload 0, .ifCond .ne 2, .goto_w 1]) := rfl
theorem k160_1 : xM160.2.2.2.2.2[1]? = some ([], [.checkcast 1]) := rfl
theorem k160_2 : xM160.2.2.2.2.2[2]? = some ([], [.return_]) := rfl
theorem k161_0 : xM161.2.2.2.2.2[0]? = some ([0, 1], [.aload 0, .getfield 325, .aload 0, .getfield 321, .aload 0, .getfield 323, .iload 1, .invokevirtual 33, .aload 0, .getfield 325, .areturn]) := rfl
theorem k162_0 : xM162.2.2.2.2.2[0]? = some ([0, 1], [.aload 0, .getfield 325, .aload 0, .getfield 322, .aload 0, .getfield 323, .iload 1, .invokevirtual 33, .aload 0, .getfield 325, .areturn]) := rfl
theorem k163_0 : xM163.2.2.2.2.2[0]? = some ([0, 1], [.aload 0, .getfield 322, .aload 0, .getfield 321, .invokevirtual 68, .iconst 0, .istore 2, .goto_w 1]) := rfl
theorem k163_1 : xM163.2.2.2.2.2[1]? = some ([0, 1, 2], [.iload 2, .iload 1, .if_icmp .ge 3, .goto_w 2]) := rfl
theorem k163_2 : xM163.2.2.2.2.2[2]? = some ([0, 1, 2], [.aload 0, .getfield 322, .invokevirtual 70, .iinc 2 1, .goto 1]) := rfl
theorem k163_3 : xM163.2.2.2.2.2[3]? = some ([], [.return_]) := rfl
theorem k164_0 : xM164.2.2.2.2.2[0]? = some ([0, 1], [.iconst 1, .istore 2, .goto_w 1]) := rfl
theorem k164_1 : xM164.2.2.2.2.2[1]? = some ([0, 1, 2], [.iload 2, .iload 1, .if_icmp .gt 5, .goto_w 2]) := rfl
theorem k164_2 : xM164.2.2.2.2.2[2]? = some ([0, 1, 2], [.aload 0, .getfield 322, .invokevirtual 70, .aload 0, .getfield 322, .getfield 258, .aload 0, .getfield 321, .getfield 258, .if_icmp .le 4, .goto_w 3]) := rfl
theorem k164_3 : xM164.2.2.2.2.2[3]? = some ([2], [.iload 2, .ireturn]) := rfl
theorem k164_4 : xM164.2.2.2.2.2[4]? = some ([0, 1, 2], [.iinc 2 1, .goto 1]) := rfl
theorem k164_5 : xM164.2.2.2.2.2[5]? = some ([], [.iconst (-1), .ireturn]) := rfl
theorem k165_0 : xM165.2.2.2.2.2[0]? = some ([0], [.iconst 0, .istore 1, .goto_w 1]) := rfl
theorem k165_1 : xM165.2.2.2.2.2[1]? = some ([0, 1], [.iload 1, .aload 0, .getfield 323, .getfield 192, .if_icmp .ge 6, .goto_w 2]) := rfl
theorem k165_2 : xM165.2.2.2.2.2[2]? = some ([0, 1], [.aload 0, .getfield 321, .getfield 261, .iload 1, .iaload, .iconst (-1), .if_icmp .ne 5, .goto_w 3]) := rfl
theorem k165_3 : xM165.2.2.2.2.2[3]? = some ([0, 1], [.aload 0, .iload 1, .invokevirtual 161, .aload 0, .getfield 323, .iload 1, .invokevirtual 39, .ifCond .eq 5, .goto_w 4]) := rfl
theorem k165_4 : xM165.2.2.2.2.2[4]? = some ([0, 1], [.aload 0, .getfield 321, .getfield 261, .iload 1, .aload 0, .getfield 321, .getfield 256, .iastore, .goto_w 5]) := rfl
theorem k165_5 : xM165.2.2.2.2.2[5]? = some ([0, 1], [.iinc 1 1, .goto 1]) := rfl
theorem k165_6 : xM165.2.2.2.2.2[6]? = some ([], [.return_]) := rfl
theorem k166_0 : xM166.2.2.2.2.2[0]? = some ([0], [.iconst 0, .istore 1, .iconst 0, .istore 2, .goto_w 1]) := rfl
theorem k166_1 : xM166.2.2.2.2.2[1]? = some ([0, 1, 2], [.iload 2, .aload 0, .getfield 323, .getfield 192, .if_icmp .ge 5, .goto_w 2]) := rfl
theorem k166_2 : xM166.2.2.2.2.2[2]? = some ([0, 1, 2], [.aload 0, .getfield 321, .getfield 261, .iload 2, .iaload, .iconst (-1), .if_icmp .eq 4, .goto_w 3]) := rfl
theorem k166_3 : xM166.2.2.2.2.2[3]? = some ([0, 1, 2], [.iload 1, .iconst 1, .iload 2, .ishl, .ior, .istore 1, .goto_w 4]) := rfl
theorem k166_4 : xM166.2.2.2.2.2[4]? = some ([0, 1, 2], [.iinc 2 1, .goto 1]) := rfl
theorem k166_5 : xM166.2.2.2.2.2[5]? = some ([1], [.iload 1, .ireturn]) := rfl
theorem k167_0 : xM167.2.2.2.2.2[0]? = some ([0], [.iconst 0, .istore 1, .iconst 0, .istore 2, .goto_w 1]) := rfl
theorem k167_1 : xM167.2.2.2.2.2[1]? = some ([0, 1, 2], [.iload 2, .aload 0, .getfield 323, .getfield 192, .if_icmp .ge 5, .goto_w 2]) := rfl
theorem k167_2 : xM167.2.2.2.2.2[2]? = some ([0, 1, 2], [.aload 0, .iload 2, .invokevirtual 169, .ifCond .eq 4, .goto_w 3]) := rfl
theorem k167_3 : xM167.2.2.2.2.2[3]? = some ([0, 1, 2], [.iinc 1 1, .goto_w 4]) := rfl
theorem k167_4 : xM167.2.2.2.2.2[4]? = some ([0, 1, 2], [.iinc 2 1, .goto 1]) := rfl
theorem k167_5 : xM167.2.2.2.2.2[5]? = some ([1], [.iload 1, .ireturn]) := rfl
theorem k168_0 : xM168.2.2.2.2.2[0]? = some ([0, 1], [.iconst 0, .istore 2, .iconst 0, .istore 3, .goto_w 1]) := rfl
theorem k168_1 : xM168.2.2.2.2.2[1]? = some ([0, 1, 2, 3], [.iload 3, .aload 0, .getfield 323, .getfield 192, .if_icmp .ge 5, .goto_w 2]) := rfl
theorem k168_2 : xM168.2.2.2.2.2[2]? = some ([0, 1, 2, 3], [.aload 0, .getfield 321, .iload 1, .aload 0, .getfield 323, .getfield 194, .iload 3, .iaload, .invokevirtual 79, .ifCond .eq 4, .goto_w 3]) := rfl
theorem k168_3 : xM168.2.2.2.2.2[3]? = some ([0, 1, 2, 3], [.iinc 2 1, .goto_w 4]) := rfl
theorem k168_4 : xM168.2.2.2.2.2[4]? = some ([0, 1, 2, 3], [.iinc 3 1, .goto 1]) := rfl
theorem k168_5 : xM168.2.2.2.2.2[5]? = some ([2], [.iload 2, .ireturn]) := rfl
theorem k169_0 : xM169.2.2.2.2.2[0]? = some ([0, 1], [.iconst 0, .istore 2, .iconst 0, .istore 3, .goto_w 1]) := rfl
theorem k169_1 : xM169.2.2.2.2.2[1]? = some ([0, 1, 2, 3], [.iload 3, .aload 0, .getfield 321, .getfield 262, .getfield 224, .if_icmp .ge 5, .goto_w 2]) := rfl
theorem k169_2 : xM169.2.2.2.2.2[2]? = some ([0, 1, 2, 3], [.aload 0, .getfield 321, .iload 3, .aload 0, .getfield 323, .getfield 194, .iload 1, .iaload, .invokevirtual 79, .ifCond .eq 4, .goto_w 3]) := rfl
theorem k169_3 : xM169.2.2.2.2.2[3]? = some ([0, 1, 2, 3], [.iload 2, .iconst 1, .iload 3, .ishl, .ior, .istore 2, .goto_w 4]) := rfl
theorem k169_4 : xM169.2.2.2.2.2[4]? = some ([0, 1, 2, 3], [.iinc 3 1, .goto 1]) := rfl
theorem k169_5 : xM169.2.2.2.2.2[5]? = some ([2], [.iload 2, .ireturn]) := rfl
theorem k170_0 : xM170.2.2.2.2.2[0]? = some ([0], [.fload 0, .fconst 0, .fcmp .g, .ifCond .gt 2, .goto_w 1]) := rfl
theorem k170_1 : xM170.2.2.2.2.2[1]? = some ([], [.iconst 0, .ireturn]) := rfl
theorem k170_2 : xM170.2.2.2.2.2[2]? = some ([0], [.iconst 127, .istore 1, .fload 0, .fstore 2, .iconst 0, .istore 3, .goto_w 3]) := rfl
theorem k170_3 : xM170.2.2.2.2.2[3]? = some ([1, 2, 3], [.iload 3, .iconst 60, .if_icmp .ge 6, .goto_w 4]) := rfl
theorem k170_4 : xM170.2.2.2.2.2[4]? = some ([1, 2, 3], [.fload 2, .fconst 1, .fcmp .g, .ifCond .ge 6, .goto_w 5]) := rfl
theorem k170_5 : xM170.2.2.2.2.2[5]? = some ([1, 2, 3], [.fload 2, .fconst 2, .fmul, .fstore 2, .iinc 1 (-1), .iinc 3 1, .goto 3]) := rfl
theorem k170_6 : xM170.2.2.2.2.2[6]? = some ([1, 2], [.iload 1, .iconst 23, .ishl, .fload 2, .fconst 1, .fsub, .ldc_w 1258291200, .fmul, .f2i, .iadd, .ireturn]) := rfl
theorem k171_0 : xM171.2.2.2.2.2[0]? = some ([0], [.dload 0, .dconst 0, .dcmp .g, .ifCond .gt 2, .goto_w 1]) := rfl
theorem k171_1 : xM171.2.2.2.2.2[1]? = some ([], [.lconst 0, .lreturn]) := rfl
theorem k171_2 : xM171.2.2.2.2.2[2]? = some ([0], [.jsr 1023, .lstore 2, .dload 0, .dstore 4, .iconst 0, .istore 6, .goto_w 3]) := rfl
theorem k171_3 : xM171.2.2.2.2.2[3]? = some ([2, 4, 6], [.iload 6, .iconst 60, .if_icmp .ge 6, .goto_w 4]) := rfl
theorem k171_4 : xM171.2.2.2.2.2[4]? = some ([2, 4, 6], [.dload 4, .dconst 1, .dcmp .g, .ifCond .ge 6, .goto_w 5]) := rfl
theorem k171_5 : xM171.2.2.2.2.2[5]? = some ([2, 4, 6], [.dload 4, .ldc2_w 4611686018427387904, .dmul, .dstore 4, .lload 2, .lconst 1, .lsub, .lstore 2, .iinc 6 1, .goto 3]) := rfl
theorem k171_6 : xM171.2.2.2.2.2[6]? = some ([2, 4], [.iconst 0, .istore 6, .goto_w 7]) := rfl
theorem k171_7 : xM171.2.2.2.2.2[7]? = some ([2, 4, 6], [.iload 6, .iconst 60, .if_icmp .ge 10, .goto_w 8]) := rfl
theorem k171_8 : xM171.2.2.2.2.2[8]? = some ([2, 4, 6], [.dload 4, .ldc2_w 4611686018427387904, .dcmp .l, .ifCond .lt 10, .goto_w 9]) := rfl
theorem k171_9 : xM171.2.2.2.2.2[9]? = some ([2, 4, 6], [.dload 4, .ldc2_w 4611686018427387904, .ddiv, .dstore 4, .lload 2, .lconst 1, .ladd, .lstore 2, .iinc 6 1, .goto 7]) := rfl
theorem k171_10 : xM171.2.2.2.2.2[10]? = some ([2, 4], [.lload 2, .iconst 52, .lshl, .dload 4, .dconst 1, .dsub, .ldc2_w 4841369599423283200, .dmul, .d2l, .ladd, .lreturn]) := rfl
theorem k172_0 : xM172.2.2.2.2.2[0]? = some ([0, 1], [.iconst 0, .istore 2, .goto_w 1]) := rfl
theorem k172_1 : xM172.2.2.2.2.2[1]? = some ([0, 1, 2], [.iload 2, .aload 1, .arraylength, .if_icmp .ge 4, .goto_w 2]) := rfl
theorem k172_2 : xM172.2.2.2.2.2[2]? = some ([0, 1, 2], [.iload 2, .aload 0, .arraylength, .if_icmp .ge 4, .goto_w 3]) := rfl
theorem k172_3 : xM172.2.2.2.2.2[3]? = some ([0, 1, 2], [.aload 1, .iload 2, .aload 0, .iload 2, .iaload, .iastore, .iinc 2 1, .goto 1]) := rfl
theorem k172_4 : xM172.2.2.2.2.2[4]? = some ([], [.return_]) := rfl
theorem k174_0 : xM174.2.2.2.2.2[0]? = some ([0], [.aload 0, .getfield 352, .ireturn]) := rfl
theorem k175_0 : xM175.2.2.2.2.2[0]? = some ([0, 1, 2], [.iload 0, .iload 1, .if_icmp .lt 3, .goto_w 1]) := rfl
theorem k175_1 : xM175.2.2.2.2.2[1]? = some ([0, 2], [.iload 0, .iload 2, .if_icmp .gt 3, .goto_w 2]) := rfl
theorem k175_2 : xM175.2.2.2.2.2[2]? = some ([], [.iconst 1, .goto 4]) := rfl
theorem k175_3 : xM175.2.2.2.2.2[3]? = some ([], [.iconst 0, .goto_w 4]) := rfl
theorem k175_4 : xM175.2.2.2.2.2[4]? = some ([], [.ireturn]) := rfl
theorem k176_0 : xM176.2.2.2.2.2[0]? = some ([0, 1, 2, 3], [.aload 0, .iload 1, .ifCond .ne 2, .goto_w 1]) := rfl
theorem k176_1 : xM176.2.2.2.2.2[1]? = some ([0], [.iconst 1, .goto 7]) := rfl
theorem k176_2 : xM176.2.2.2.2.2[2]? = some ([0, 2, 3], [.iload 2, .ifCond .ne 4, .goto_w 3]) := rfl
theorem k176_3 : xM176.2.2.2.2.2[3]? = some ([0], [.iconst 2, .goto 7]) := rfl
theorem k176_4 : xM176.2.2.2.2.2[4]? = some ([0, 3], [.iload 3, .ifCond .eq 6, .goto_w 5]) := rfl
theorem k176_5 : xM176.2.2.2.2.2[5]? = some ([0], [.iconst 0, .goto 7]) := rfl
theorem k176_6 : xM176.2.2.2.2.2[6]? = some ([0], [.iconst 3, .goto_w 7]) := rfl
theorem k176_7 : xM176.2.2.2.2.2[7]? = some ([0], [.putfield 352, .aload 0, .getfield 352, .ifCond .ne 9, .goto_w 8]) := rfl
theorem k176_8 : xM176.2.2.2.2.2[8]? = some ([], [.iconst 1, .goto 10]) := rfl
theorem k176_9 : xM176.2.2.2.2.2[9]? = some ([], [.iconst 0, .goto_w 10]) := rfl
theorem k176_10 : xM176.2.2.2.2.2[10]? = some ([], [.ireturn]) := rfl
theorem k177_0 : xM177.2.2.2.2.2[0]? = some ([0, 1, 2], [.aload 0, .iload 1, .iload 2, .iconst 1, .invokevirtual 176, .ireturn]) := rfl
theorem k178_0 : xM178.2.2.2.2.2[0]? = some ([0, 1, 2, 3], [.iconst 0, .istore 4, .goto_w 1]) := rfl
theorem k178_1 : xM178.2.2.2.2.2[1]? = some ([0, 1, 2, 3, 4], [.iload 4, .iconst 243, .if_icmp .ge 3, .goto_w 2]) := rfl
theorem k178_2 : xM178.2.2.2.2.2[2]? = some ([0, 1, 2, 3, 4], [.aload 2, .iload 3, .iload 4, .iadd, .aload 0, .iload 1, .iload 4, .iadd, .iaload, .iastore, .iinc 4 1, .goto 1]) := rfl
theorem k178_3 : xM178.2.2.2.2.2[3]? = some ([], [.return_]) := rfl
theorem k179_0 : xM179.2.2.2.2.2[0]? = some ([0, 1, 2, 3, 4, 5], [.aload 0, .iconst 0, .putfield 352, .aload 0, .getfield 361, .iconst 680, .if_icmp .le 2, .goto_w 1]) := rfl
theorem k179_1 : xM179.2.2.2.2.2[1]? = some ([], [.iconst (-1), .ireturn]) := rfl
theorem k179_2 : xM179.2.2.2.2.2[2]? = some ([0, 1, 2, 3, 4, 5], [.aload 0, .iload 1, .invokevirtual 180, .aload 0, .iload 2, .invokevirtual 180, .aload 0, .iload 3, .invokevirtual 180, .aload 0, .iload 4, .invokevirtual 180, .aload 0, .iload 5, .invokevirtual 180, .aload 0, .getfield 361, .ireturn]) := rfl
theorem k180_0 : xM180.2.2.2.2.2[0]? = some ([0, 1], [.iconst 3, .istore 2, .goto_w 1]) := rfl
theorem k180_1 : xM180.2.2.2.2.2[1]? = some ([0, 1, 2], [.iload 2, .ifCond .lt 3, .goto_w 2]) := rfl
theorem k180_2 : xM180.2.2.2.2.2[2]? = some ([0, 1, 2], [.aload 0, .getfield 360, .aload 0, .getfield 361, .iload 1, .iconst 8, .iload 2, .imul, .ishr, .i2b, .bastore, .aload 0, .dup, .getfield 361, .iconst 1, .iadd, .putfield 361, .iinc 2 (-1), .goto 1]) := rfl
theorem k180_3 : xM180.2.2.2.2.2[3]? = some ([], [.return_]) := rfl
theorem k181_0 : xM181.2.2.2.2.2[0]? = some ([0], [.aload 0, .iconst 0, .putfield 352, .aload 0, .getfield 362, .ireturn]) := rfl
theorem k182_0 : xM182.2.2.2.2.2[0]? = some ([0], [.aload 0, .iconst 0, .putfield 352, .aload 0, .getfield 363, .ireturn]) := rfl
theorem k183_0 : xM183.2.2.2.2.2[0]? = some ([0], [.aload 0, .iconst 0, .putfield 352, .aload 0, .getfield 361, .ireturn]) := rfl
theorem k184_0 : xM184.2.2.2.2.2[0]? = some ([0, 1], [.iload 1, .aload 0, .getfield 364, .if_icmp .ge 3, .goto_w 1]) := rfl
theorem k184_1 : xM184.2.2.2.2.2[1]? = some ([0, 1], [.aload 0, .getfield 360, .iload 1, .baload, .iconst 97, .iconst 122, .invokestatic 175, .ifCond .eq 3, .goto_w 2]) := rfl
theorem k184_2 : xM184.2.2.2.2.2[2]? = some ([], [.iconst 1, .goto 4]) := rfl
theorem k184_3 : xM184.2.2.2.2.2[3]? = some ([], [.iconst 0, .goto_w 4]) := rfl
theorem k184_4 : xM184.2.2.2.2.2[4]? = some ([], [.ireturn]) := rfl
theorem k185_0 : xM185.2.2.2.2.2[0]? = some ([0, 1], [.iload 1, .aload 0, .getfield 364, .if_icmp .ge 3, .goto_w 1]) := rfl
theorem k185_1 : xM185.2.2.2.2.2[1]? = some ([0, 1], [.aload 0, .getfield 360, .iload 1, .baload, .iconst 48, .iconst 57, .invokestatic 175, .ifCond .eq 3, .goto_w 2]) := rfl
theorem k185_2 : xM185.2.2.2.2.2[2]? = some ([], [.iconst 1, .goto 4]) := rfl
theorem k185_3 : xM185.2.2.2.2.2[3]? = some ([], [.iconst 0, .goto_w 4]) := rfl
theorem k185_4 : xM185.2.2.2.2.2[4]? = some ([], [.ireturn]) := rfl
theorem k186_0 : xM186.2.2.2.2.2[0]? = some ([0], [.aload 0, .getfield 362, .ifCond .le 2, .goto_w 1]) := rfl
theorem k186_1 : xM186.2.2.2.2.2[1]? = some ([], [.return_]) := rfl
theorem k186_2 : xM186.2.2.2.2.2[2]? = some ([0], [.aload 0, .getfield 365, .aload 0, .getfield 364, .if_icmp .ge 5, .goto_w 3]) := rfl
theorem k186_3 : xM186.2.2.2.2.2[3]? = some ([0], [.aload 0, .getfield 360, .aload 0, .getfield 365, .baload, .iconst 32, .if_icmp .ne 5, .goto_w 4]) := rfl
theorem k186_4 : xM186.2.2.2.2.2[4]? = some ([0], [.aload 0, .dup, .getfield 365, .iconst 1, .iadd, .putfield 365, .goto 2]) := rfl
theorem k186_5 : xM186.2.2.2.2.2[5]? = some ([0], [.aload 0, .aload 0, .getfield 365, .putfield 366, .aload 0, .aload 0, .getfield 365, .aload 0, .getfield 364, .if_icmp .ne 7, .goto_w 6]) := rfl
theorem k186_6 : xM186.2.2.2.2.2[6]? = some ([0], [.iconst 1, .goto 8]) := rfl
theorem k186_7 : xM186.2.2.2.2.2[7]? = some ([0], [.iconst 0, .goto_w 8]) := rfl
theorem k186_8 : xM186.2.2.2.2.2[8]? = some ([0], [.putfield 367, .aload 0, .getfield 367, .iconst 1, .if_icmp .ne 10, .goto_w 9]) := rfl
theorem k186_9 : xM186.2.2.2.2.2[9]? = some ([], [.return_]) := rfl
theorem k186_10 : xM186.2.2.2.2.2[10]? = some ([0], [.aload 0, .aload 0, .getfield 365, .invokevirtual 184, .ifCond .eq 17, .goto_w 11]) := rfl
theorem k186_11 : xM186.2.2.2.2.2[11]? = some ([0], [.aload 0, .aload 0, .getfield 365, .invokevirtual 184, .ifCond .eq 13, .goto_w 12]) := rfl
theorem k186_12 : xM186.2.2.2.2.2[12]? = some ([0], [.aload 0, .dup, .getfield 365, .iconst 1, .iadd, .putfield 365, .goto 11]) := rfl
theorem k186_13 : xM186.2.2.2.2.2[13]? = some ([0], [.aload 0, .aload 0, .getfield 365, .aload 0, .getfield 366, .isub, .iconst 8, .if_icmp .gt 15, .goto_w 14]) := rfl
theorem k186_14 : xM186.2.2.2.2.2[14]? = some ([], [.iconst 2, .goto 16]) := rfl
theorem k186_15 : xM186.2.2.2.2.2[15]? = some ([], [.iconst 0, .goto_w 16]) := rfl
theorem k186_16 : xM186.2.2.2.2.2[16]? = some ([], [.putfield 367, .return_]) := rfl
theorem k186_17 : xM186.2.2.2.2.2[17]? = some ([0], [.aload 0, .aload 0, .getfield 365, .invokevirtual 185, .ifCond .eq 27, .goto_w 18]) := rfl
theorem k186_18 : xM186.2.2.2.2.2[18]? = some ([0], [.aload 0, .iconst 0, .putfield 368, .goto_w 19]) := rfl
theorem k186_19 : xM186.2.2.2.2.2[19]? = some ([0], [.aload 0, .aload 0, .getfield 365, .invokevirtual 185, .ifCond .eq 23, .goto_w 20]) := rfl
theorem k186_20 : xM186.2.2.2.2.2[20]? = some ([0], [.aload 0, .getfield 365, .aload 0, .getfield 366, .isub, .iconst 4, .if_icmp .ge 22, .goto_w 21]) := rfl
theorem k186_21 : xM186.2.2.2.2.2[21]? = some ([0], [.aload 0, .iconst 10, .aload 0, .getfield 368, .imul, .aload 0, .getfield 360, .aload 0, .getfield 365, .baload, .iadd, .iconst 48, .isub, .putfield 368, .goto_w 22]) := rfl
theorem k186_22 : xM186.2.2.2.2.2[22]? = some ([0], [.aload 0, .dup, .getfield 365, .iconst 1, .iadd, .putfield 365, .goto 19]) := rfl
theorem k186_23 : xM186.2.2.2.2.2[23]? = some ([0], [.aload 0, .aload 0, .getfield 365, .aload 0, .getfield 366, .isub, .iconst 4, .if_icmp .gt 25, .goto_w 24]) := rfl
theorem k186_24 : xM186.2.2.2.2.2[24]? = some ([], [.iconst 3, .goto 26]) := rfl
theorem k186_25 : xM186.2.2.2.2.2[25]? = some ([], [.iconst 0, .goto_w 26]) := rfl
theorem k186_26 : xM186.2.2.2.2.2[26]? = some ([], [.putfield 367, .return_]) := rfl
theorem k186_27 : xM186.2.2.2.2.2[27]? = some ([0], [.aload 0, .getfield 360, .aload 0, .getfield 365, .baload, .iconst 59, .if_icmp .ne 29, .goto_w 28]) := rfl
theorem k186_28 : xM186.2.2.2.2.2[28]? = some ([0], [.aload 0, .iconst 4, .putfield 367, .goto_w 29]) := rfl
theorem k186_29 : xM186.2.2.2.2.2[29]? = some ([0], [.aload 0, .dup, .getfield 365, .iconst 1, .iadd, .putfield 365, .return_]) := rfl
theorem k187_0 : xM187.2.2.2.2.2[0]? = some ([0, 1], [.aload 0, .getfield 362, .ifCond .le 2, .goto_w 1]) := rfl
theorem k187_1 : xM187.2.2.2.2.2[1]? = some ([], [.return_]) := rfl
theorem k187_2 : xM187.2.2.2.2.2[2]? = some ([0, 1], [.aload 0, .iload 1, .putfield 362, .aload 0, .aload 0, .getfield 366, .putfield 363, .return_]) := rfl
theorem k188_0 : xM188.2.2.2.2.2[0]? = some ([0, 1], [.aload 0, .getfield 362, .ifCond .ne 3, .goto_w 1]) := rfl
theorem k188_1 : xM188.2.2.2.2.2[1]? = some ([0, 1], [.aload 0, .getfield 367, .iload 1, .if_icmp .ne 3, .goto_w 2]) := rfl
theorem k188_2 : xM188.2.2.2.2.2[2]? = some ([], [.iconst 1, .goto 4]) := rfl
theorem k188_3 : xM188.2.2.2.2.2[3]? = some ([], [.iconst 0, .goto_w 4]) := rfl
theorem k188_4 : xM188.2.2.2.2.2[4]? = some ([], [.ireturn]) := rfl
theorem k189_0 : xM189.2.2.2.2.2[0]? = some ([0, 1], [.aload 0, .iconst 2, .invokevirtual 188, .ifCond .eq 2, .goto_w 1]) := rfl
theorem k189_1 : xM189.2.2.2.2.2[1]? = some ([0, 1], [.aload 0, .getfield 365, .aload 0, .getfield 366, .isub, .aload 1, .invokevirtual 391, .if_icmp .eq 3, .goto_w 2]) := rfl
theorem k189_2 : xM189.2.2.2.2.2[2]? = some ([], [.iconst 0, .ireturn]) := rfl
theorem k189_3 : xM189.2.2.2.2.2[3]? = some ([0, 1], [.iconst 0, .istore 2, .goto_w 4]) := rfl
theorem k189_4 : xM189.2.2.2.2.2[4]? = some ([0, 1, 2], [.iload 2, .aload 1, .invokevirtual 391, .if_icmp .ge 8, .goto_w 5]) := rfl
theorem k189_5 : xM189.2.2.2.2.2[5]? = some ([0, 1, 2], [.aload 0, .getfield 360, .aload 0, .getfield 366, .iload 2, .iadd, .baload, .aload 1, .iload 2, .invokevirtual 392, .if_icmp .eq 7, .goto_w 6]) := rfl
theorem k189_6 : xM189.2.2.2.2.2[6]? = some ([], [.iconst 0, .ireturn]) := rfl
theorem k189_7 : xM189.2.2.2.2.2[7]? = some ([0, 1, 2], [.iinc 2 1, .goto 4]) := rfl
theorem k189_8 : xM189.2.2.2.2.2[8]? = some ([], [.iconst 1, .ireturn]) := rfl
theorem k190_0 : xM190.2.2.2.2.2[0]? = some ([0, 1], [.aload 0, .aload 1, .invokevirtual 189, .ifCond .ne 2, .goto_w 1]) := rfl
theorem k190_1 : xM190.2.2.2.2.2[1]? = some ([0], [.aload 0, .iconst 1, .invokevirtual 187, .goto_w 2]) := rfl
theorem k190_2 : xM190.2.2.2.2.2[2]? = some ([0], [.aload 0, .invokevirtual 186, .return_]) := rfl
theorem k191_0 : xM191.2.2.2.2.2[0]? = some ([0, 1, 2], [.aload 0, .iconst 3, .invokevirtual 188, .ifCond .ne 2, .goto_w 1]) := rfl
theorem k191_1 : xM191.2.2.2.2.2[1]? = some ([0, 1], [.aload 0, .iconst 1, .invokevirtual 187, .goto 4]) := rfl
theorem k191_2 : xM191.2.2.2.2.2[2]? = some ([0, 1, 2], [.aload 0, .getfield 368, .iload 1, .iload 2, .invokestatic 175, .ifCond .ne 4, .goto_w 3]) := rfl
theorem k191_3 : xM191.2.2.2.2.2[3]? = some ([0, 1], [.aload 0, .iconst 2, .invokevirtual 187, .goto_w 4]) := rfl
theorem k191_4 : xM191.2.2.2.2.2[4]? = some ([0, 1], [.aload 0, .getfield 368, .istore 3, .aload 0, .invokevirtual 186, .aload 0, .getfield 362, .ifCond .le 6, .goto_w 5]) := rfl
theorem k191_5 : xM191.2.2.2.2.2[5]? = some ([1], [.iload 1, .goto 7]) := rfl
theorem k191_6 : xM191.2.2.2.2.2[6]? = some ([3], [.iload 3, .goto_w 7]) := rfl
theorem k191_7 : xM191.2.2.2.2.2[7]? = some ([], [.ireturn]) := rfl
theorem k192_0 : xM192.2.2.2.2.2[0]? = some ([0], [.iload 0, .ifCond .eq 3, .goto_w 1]) := rfl
theorem k192_1 : xM192.2.2.2.2.2[1]? = some ([0], [.iload 0, .iconst 2, .if_icmp .eq 3, .goto_w 2]) := rfl
theorem k192_2 : xM192.2.2.2.2.2[2]? = some ([0], [.iload 0, .iconst 4, .if_icmp .ne 4, .goto_w 3]) := rfl
theorem k192_3 : xM192.2.2.2.2.2[3]? = some ([], [.iconst 1, .goto 5]) := rfl
theorem k192_4 : xM192.2.2.2.2.2[4]? = some ([], [.iconst 0, .goto_w 5]) := rfl
theorem k192_5 : xM192.2.2.2.2.2[5]? = some ([], [.ireturn]) := rfl
theorem k193_0 : xM193.2.2.2.2.2[0]? = some ([0], [.iload 0, .tableswitch 4 0 4 #[1, 4, 4, 2, 3]]) := rfl
theorem k193_1 : xM193.2.2.2.2.2[1]? = some ([], [.iconst 999, .ireturn]) := rfl
theorem k193_2 : xM193.2.2.2.2.2[2]? = some ([], [.iconst 50, .ireturn]) := rfl
theorem k193_3 : xM193.2.2.2.2.2[3]? = some ([], [.iconst 100, .ireturn]) := rfl
theorem k193_4 : xM193.2.2.2.2.2[4]? = some ([], [.iconst 9999, .ireturn]) := rfl
theorem k194_0 : xM194.2.2.2.2.2[0]? = some ([0, 1, 2], [.aload 0, .getfield 353, .iload 1, .iaload, .iload 2, .if_icmp .ne 2, .goto_w 1]) := rfl
theorem k194_1 : xM194.2.2.2.2.2[1]? = some ([0], [.aload 0, .iconst 4, .invokevirtual 187, .goto_w 2]) := rfl
theorem k194_2 : xM194.2.2.2.2.2[2]? = some ([0], [.aload 0, .invokevirtual 186, .aload 0, .getfield 362, .ifCond .ne 4, .goto_w 3]) := rfl
theorem k194_3 : xM194.2.2.2.2.2[3]? = some ([], [.iconst 1, .goto 5]) := rfl
theorem k194_4 : xM194.2.2.2.2.2[4]? = some ([], [.iconst 0, .goto_w 5]) := rfl
theorem k194_5 : xM194.2.2.2.2.2[5]? = some ([], [.ireturn]) := rfl
theorem k195_0 : xM195.2.2.2.2.2[0]? = some ([0], [.aload 0, .iconst 2, .invokevirtual 188, .ifCond .eq 2, .goto_w 1]) := rfl
theorem k195_1 : xM195.2.2.2.2.2[1]? = some ([0], [.aload 0, .getfield 365, .aload 0, .getfield 366, .isub, .iconst 1, .if_icmp .eq 3, .goto_w 2]) := rfl
theorem k195_2 : xM195.2.2.2.2.2[2]? = some ([0], [.aload 0, .iconst 1, .invokevirtual 187, .goto_w 3]) := rfl
theorem k195_3 : xM195.2.2.2.2.2[3]? = some ([0], [.aload 0, .getfield 362, .ifCond .le 5, .goto_w 4]) := rfl
theorem k195_4 : xM195.2.2.2.2.2[4]? = some ([0], [.iconst 1, .goto 6]) := rfl
theorem k195_5 : xM195.2.2.2.2.2[5]? = some ([0], [.aload 0, .getfield 360, .aload 0, .getfield 366, .baload, .iconst 97, .isub, .iconst 1, .iadd, .goto_w 6]) := rfl
theorem k195_6 : xM195.2.2.2.2.2[6]? = some ([0], [.istore 1, .aload 0, .invokevirtual 186, .iload 1, .ireturn]) := rfl
theorem k196_0 : xM196.2.2.2.2.2[0]? = some ([0], [.aload 0, .iconst 6, .iconst 12, .invokevirtual 194, .ifCond .ne 2, .goto_w 1]) := rfl
theorem k196_1 : xM196.2.2.2.2.2[1]? = some ([], [.return_]) := rfl
theorem k196_2 : xM196.2.2.2.2.2[2]? = some ([0], [.aload 0, .getfield 353, .iconst 6, .iaload, .istore 1, .aload 0, .invokevirtual 195, .istore 2, .aload 0, .iload 1, .iconst 6, .iload 2, .invokevirtual 203, .aload 0, .iload 1, .iconst 0, .iload 2, .invokevirtual 203, .aload 0, .iload 1, .iconst 2, .aload 0, .iconst 1, .iconst 200, .invokevirtual 191, .invokevirtual 203, .aload 0, .iload 1, .iconst 3, .aload 0, .iconst 0, .iconst 20, .invokevirtual 191, .invokevirtual 203, .aload 0, .iload 1, .iconst 4, .iconst 100, .invokevirtual 203, .aload 0, .iload 1, .iconst 1, .aload 0, .getfield 353, .iconst 0, .iaload, .ineg, .iload 1, .imul, .invokevirtual 203, .aload 0, .getfield 353, .iconst 6, .dup2, .iaload, .iconst 1, .iadd, .iastore, .return_]) := rfl
theorem k197_0 : xM197.2.2.2.2.2[0]? = some ([0], [.aload 0, .iconst 7, .iconst 6, .invokevirtual 194, .ifCond .ne 2, .goto_w 1]) := rfl
theorem k197_1 : xM197.2.2.2.2.2[1]? = some ([], [.return_]) := rfl
theorem k197_2 : xM197.2.2.2.2.2[2]? = some ([0], [.aload 0, .getfield 353, .iconst 7, .iaload, .istore 1, .aload 0, .ldc 15, .invokevirtual 189, .istore 2, .iload 2, .ifCond .ne 5, .goto_w 3]) := rfl
theorem k197_3 : xM197.2.2.2.2.2[3]? = some ([0, 1, 2], [.aload 0, .ldc 16, .invokevirtual 189, .ifCond .ne 5, .goto_w 4]) := rfl
theorem k197_4 : xM197.2.2.2.2.2[4]? = some ([0, 1, 2], [.aload 0, .iconst 1, .invokevirtual 187, .goto_w 5]) := rfl
theorem k197_5 : xM197.2.2.2.2.2[5]? = some ([0, 1, 2], [.aload 0, .invokevirtual 186, .aload 0, .iload 1, .iconst 0, .iload 2, .ifCond .eq 7, .goto_w 6]) := rfl
theorem k197_6 : xM197.2.2.2.2.2[6]? = some ([0, 1], [.iconst 1, .goto 8]) := rfl
theorem k197_7 : xM197.2.2.2.2.2[7]? = some ([0, 1], [.iconst 0, .goto_w 8]) := rfl
theorem k197_8 : xM197.2.2.2.2.2[8]? = some ([0, 1], [.invokevirtual 205, .aload 0, .iload 1, .iconst 1, .aload 0, .iconst 0, .iconst 9999, .invokevirtual 191, .invokevirtual 205, .aload 0, .iload 1, .iconst 3, .iconst (-1), .invokevirtual 205, .aload 0, .iconst 2, .invokevirtual 188, .ifCond .ne 10, .goto_w 9]) := rfl
theorem k197_9 : xM197.2.2.2.2.2[9]? = some ([0, 1], [.aload 0, .iconst 1, .invokevirtual 187, .goto_w 10]) := rfl
theorem k197_10 : xM197.2.2.2.2.2[10]? = some ([0, 1], [.aload 0, .getfield 362, .ifCond .le 12, .goto_w 11]) := rfl
theorem k197_11 : xM197.2.2.2.2.2[11]? = some ([], [.return_]) := rfl
theorem k197_12 : xM197.2.2.2.2.2[12]? = some ([0, 1], [.aload 0, .iload 1, .iconst 2, .aload 0, .getfield 365, .aload 0, .getfield 366, .isub, .invokevirtual 205, .aload 0, .getfield 366, .istore 3, .goto_w 13]) := rfl
theorem k197_13 : xM197.2.2.2.2.2[13]? = some ([0, 1, 3], [.iload 3, .aload 0, .getfield 365, .if_icmp .ge 15, .goto_w 14]) := rfl
theorem k197_14 : xM197.2.2.2.2.2[14]? = some ([0, 1, 3], [.aload 0, .iload 1, .iconst 4, .iload 3, .iadd, .aload 0, .getfield 366, .isub, .aload 0, .getfield 360, .iload 3, .baload, .invokevirtual 205, .iinc 3 1, .goto 13]) := rfl
theorem k197_15 : xM197.2.2.2.2.2[15]? = some ([0], [.aload 0, .invokevirtual 186, .aload 0, .getfield 353, .iconst 7, .dup2, .iaload, .iconst 1, .iadd, .iastore, .return_]) := rfl
theorem k198_0 : xM198.2.2.2.2.2[0]? = some ([0], [.aload 0, .iconst 8, .iconst 12, .invokevirtual 194, .ifCond .ne 2, .goto_w 1]) := rfl
theorem k198_1 : xM198.2.2.2.2.2[1]? = some ([], [.return_]) := rfl
theorem k198_2 : xM198.2.2.2.2.2[2]? = some ([0], [.aload 0, .iconst 1, .iconst 5000, .invokevirtual 191, .istore 1, .aload 0, .iconst 0, .aload 0, .getfield 353, .iconst 6, .iaload, .iconst 2, .isub, .invokevirtual 191, .istore 2, .aload 0, .iload 1, .iload 2, .invokevirtual 199, .return_]) := rfl
theorem k199_0 : xM199.2.2.2.2.2[0]? = some ([0, 1, 2], [.iconst 171, .iconst 3, .aload 0, .getfield 353, .iconst 8, .iaload, .imul, .iadd, .istore 3, .aload 0, .getfield 353, .iload 3, .iload 1, .iastore, .aload 0, .getfield 353, .iload 3, .iconst 1, .iadd, .iload 2, .iastore, .aload 0, .getfield 353, .iload 3, .iconst 2, .iadd, .iconst 0, .iastore, .aload 0, .getfield 353, .iconst 8, .dup2, .iaload, .iconst 1, .iadd, .iastore, .return_]) := rfl
theorem k200_0 : xM200.2.2.2.2.2[0]? = some ([0], [.aload 0, .invokevirtual 186, .aload 0, .ldc 12, .invokevirtual 190, .iconst 0, .istore 1, .goto_w 1]) := rfl
theorem k200_1 : xM200.2.2.2.2.2[1]? = some ([0, 1], [.iload 1, .iconst 6, .if_icmp .ge 3, .goto_w 2]) := rfl
theorem k200_2 : xM200.2.2.2.2.2[2]? = some ([0, 1], [.aload 0, .getfield 353, .iload 1, .aload 0, .iload 1, .invokestatic 192, .iload 1, .invokestatic 193, .invokevirtual 191, .iastore, .iinc 1 1, .goto 1]) := rfl
theorem k200_3 : xM200.2.2.2.2.2[3]? = some ([0], [.aload 0, .iconst 4, .invokevirtual 188, .ifCond .eq 11, .goto_w 4]) := rfl
theorem k200_4 : xM200.2.2.2.2.2[4]? = some ([0], [.aload 0, .invokevirtual 186, .aload 0, .ldc 13, .invokevirtual 189, .ifCond .eq 6, .goto_w 5]) := rfl
theorem k200_5 : xM200.2.2.2.2.2[5]? = some ([0], [.aload 0, .invokevirtual 196, .goto 3]) := rfl
theorem k200_6 : xM200.2.2.2.2.2[6]? = some ([0], [.aload 0, .ldc 14, .invokevirtual 189, .ifCond .eq 8, .goto_w 7]) := rfl
theorem k200_7 : xM200.2.2.2.2.2[7]? = some ([0], [.aload 0, .invokevirtual 197, .goto 3]) := rfl
theorem k200_8 : xM200.2.2.2.2.2[8]? = some ([0], [.aload 0, .ldc 17, .invokevirtual 189, .ifCond .eq 10, .goto_w 9]) := rfl
theorem k200_9 : xM200.2.2.2.2.2[9]? = some ([0], [.aload 0, .invokevirtual 198, .goto 3]) := rfl
theorem k200_10 : xM200.2.2.2.2.2[10]? = some ([0], [.aload 0, .iconst 1, .invokevirtual 187, .goto 3]) := rfl
theorem k200_11 : xM200.2.2.2.2.2[11]? = some ([0], [.aload 0, .iconst 1, .invokevirtual 188, .ifCond .ne 13, .goto_w 12]) := rfl
theorem k200_12 : xM200.2.2.2.2.2[12]? = some ([0], [.aload 0, .iconst 1, .invokevirtual 187, .goto_w 13]) := rfl
theorem k200_13 : xM200.2.2.2.2.2[13]? = some ([], [.return_]) := rfl
theorem k201_0 : xM201.2.2.2.2.2[0]? = some ([0, 1], [.aload 0, .iload 1, .iconst 0, .aload 0, .getfield 361, .invokestatic 175, .iconst 1, .iconst 1, .invokevirtual 176, .ifCond .ne 2, .goto_w 1]) := rfl
theorem k201_1 : xM201.2.2.2.2.2[1]? = some ([], [.iconst 0, .ireturn]) := rfl
theorem k201_2 : xM201.2.2.2.2.2[2]? = some ([0, 1], [.aload 0, .iload 1, .putfield 364, .aload 0, .iconst 0, .putfield 365, .aload 0, .iconst 0, .putfield 361, .aload 0, .iconst 0, .putfield 362, .aload 0, .iconst (-1), .putfield 363, .aload 0, .getfield 353, .iconst 0, .aload 0, .getfield 354, .iconst 0, .invokestatic 178, .iconst 0, .istore 2, .goto_w 3]) := rfl
theorem k201_3 : xM201.2.2.2.2.2[3]? = some ([0, 2], [.iload 2, .iconst 243, .if_icmp .ge 5, .goto_w 4]) := rfl
theorem k201_4 : xM201.2.2.2.2.2[4]? = some ([0, 2], [.aload 0, .getfield 353, .iload 2, .iconst 0, .iastore, .iinc 2 1, .goto 3]) := rfl
theorem k201_5 : xM201.2.2.2.2.2[5]? = some ([0], [.aload 0, .invokevirtual 200, .aload 0, .getfield 362, .ifCond .le 7, .goto_w 6]) := rfl
theorem k201_6 : xM201.2.2.2.2.2[6]? = some ([0], [.aload 0, .getfield 354, .iconst 0, .aload 0, .getfield 353, .iconst 0, .invokestatic 178, .aload 0, .iconst 2, .putfield 352, .iconst 0, .ireturn]) := rfl
theorem k201_7 : xM201.2.2.2.2.2[7]? = some ([0], [.aload 0, .iconst 1, .putfield 358, .aload 0, .iconst 0, .putfield 359, .aload 0, .getfield 357, .iconst 0, .iconst 0, .bastore, .aload 0, .getfield 357, .iconst 1, .iconst 0, .bastore, .aload 0, .getfield 353, .iconst 6, .iaload, .ireturn]) := rfl
theorem k202_0 : xM202.2.2.2.2.2[0]? = some ([0, 1, 2], [.aload 0, .getfield 353, .iconst 15, .iconst 7, .iload 1, .imul, .iadd, .iload 2, .iadd, .iaload, .ireturn]) := rfl
theorem k203_0 : xM203.2.2.2.2.2[0]? = some ([0, 1, 2, 3], [.aload 0, .getfield 353, .iconst 15, .iconst 7, .iload 1, .imul, .iadd, .iload 2, .iadd, .iload 3, .iastore, .return_]) := rfl
theorem k204_0 : xM204.2.2.2.2.2[0]? = some ([0, 1, 2], [.aload 0, .getfield 353, .iconst 99, .iconst 12, .iload 1, .imul, .iadd, .iload 2, .iadd, .iaload, .ireturn]) := rfl
theorem k205_0 : xM205.2.2.2.2.2[0]? = some ([0, 1, 2, 3], [.aload 0, .getfield 353, .iconst 99, .iconst 12, .iload 1, .imul, .iadd, .iload 2, .iadd, .iload 3, .iastore, .return_]) := rfl
theorem k206_0 : xM206.2.2.2.2.2[0]? = some ([0, 1, 2], [.aload 0, .getfield 353, .iconst 171, .iconst 3, .iload 1, .imul, .iadd, .iload 2, .iadd, .iaload, .ireturn]) := rfl
theorem k207_0 : xM207.2.2.2.2.2[0]? = some ([0, 1, 2], [.aload 0, .getfield 353, .iconst 207, .iconst 3, .iload 1, .imul, .iadd, .iload 2, .iadd, .iaload, .ireturn]) := rfl
theorem k208_0 : xM208.2.2.2.2.2[0]? = some ([0, 1], [.iload 1, .iconst 0, .aload 0, .getfield 353, .iconst 6, .iaload, .iconst 1, .isub, .invokestatic 175, .ireturn]) := rfl
theorem k209_0 : xM209.2.2.2.2.2[0]? = some ([0, 1], [.iload 1, .iconst 0, .aload 0, .getfield 353, .iconst 7, .iaload, .iconst 1, .isub, .invokestatic 175, .ireturn]) := rfl
theorem k210_0 : xM210.2.2.2.2.2[0]? = some ([0, 1], [.aload 0, .iload 1, .iconst 2, .invokevirtual 202, .i2f, .aload 0, .iload 1, .iconst 4, .invokevirtual 202, .i2f, .fmul, .ldc_w 1120403456, .fdiv, .f2i, .ireturn]) := rfl
theorem k211_0 : xM211.2.2.2.2.2[0]? = some ([0, 1], [.aload 0, .iload 1, .iconst 1, .isub, .iconst 1, .invokevirtual 202, .aload 0, .iload 1, .iconst 1, .invokevirtual 202, .isub, .ireturn]) := rfl
theorem k212_0 : xM212.2.2.2.2.2[0]? = some ([0, 1, 2], [.aload 0, .iload 1, .iconst 4, .iconst 0, .iconst 100, .aload 0, .iload 1, .iconst 4, .invokevirtual 202, .iload 2, .iadd, .invokestatic 386, .invokestatic 385, .invokevirtual 203, .return_]) := rfl
theorem k213_0 : xM213.2.2.2.2.2[0]? = some ([0, 1], [.iconst 207, .iconst 3, .aload 0, .getfield 353, .iconst 10, .iaload, .imul, .iadd, .istore 2, .aload 0, .getfield 353, .iload 2, .aload 0, .iload 1, .iconst 0, .invokevirtual 202, .iastore, .aload 0, .getfield 353, .iload 2, .iconst 1, .iadd, .aload 0, .iload 1, .iconst 1, .invokevirtual 202, .iastore, .aload 0, .getfield 353, .iload 2, .iconst 2, .iadd, .aload 0, .getfield 353, .iconst 9, .iaload, .iastore, .aload 0, .getfield 353, .iconst 10, .dup2, .iaload, .iconst 1, .iadd, .iastore, .aload 0, .getfield 353, .iconst 13, .dup2, .iaload, .iconst 1, .iadd, .iastore, .aload 0, .iload 1, .iconst 0, .iconst 0, .invokevirtual 203, .return_]) := rfl
theorem k214_0 : xM214.2.2.2.2.2[0]? = some ([0, 1, 2], [.aload 0, .iload 1, .iconst 0, .aload 0, .iload 2, .iconst 0, .invokevirtual 207, .invokevirtual 203, .aload 0, .getfield 353, .iconst 10, .dup2, .iaload, .iconst 1, .isub, .iastore, .iconst 207, .iconst 3, .iload 2, .imul, .iadd, .istore 3, .goto_w 1]) := rfl
theorem k214_1 : xM214.2.2.2.2.2[1]? = some ([0, 3], [.iload 3, .iconst 207, .iconst 3, .aload 0, .getfield 353, .iconst 10, .iaload, .imul, .iadd, .if_icmp .ge 3, .goto_w 2]) := rfl
theorem k214_2 : xM214.2.2.2.2.2[2]? = some ([0, 3], [.aload 0, .getfield 353, .iload 3, .aload 0, .getfield 353, .iload 3, .iconst 3, .iadd, .iaload, .iastore, .iinc 3 1, .goto 1]) := rfl
theorem k214_3 : xM214.2.2.2.2.2[3]? = some ([0], [.aload 0, .getfield 353, .iconst 14, .dup2, .iaload, .iconst 1, .iadd, .iastore, .return_]) := rfl
theorem k215_0 : xM215.2.2.2.2.2[0]? = some ([0, 1, 2], [.iconst (-1), .istore 3, .iconst 0, .istore 4, .goto_w 1]) := rfl
theorem k215_1 : xM215.2.2.2.2.2[1]? = some ([0, 1, 2, 3, 4], [.iload 4, .aload 0, .getfield 353, .iconst 10, .iaload, .if_icmp .ge 7, .goto_w 2]) := rfl
theorem k215_2 : xM215.2.2.2.2.2[2]? = some ([0, 1, 2, 3, 4], [.aload 0, .iload 4, .iconst 1, .invokevirtual 207, .iload 1, .iload 2, .invokestatic 175, .ifCond .eq 6, .goto_w 3]) := rfl
theorem k215_3 : xM215.2.2.2.2.2[3]? = some ([0, 1, 2, 3, 4], [.iload 3, .iconst (-1), .if_icmp .eq 5, .goto_w 4]) := rfl
theorem k215_4 : xM215.2.2.2.2.2[4]? = some ([0, 1, 2, 3, 4], [.aload 0, .iload 4, .iconst 1, .invokevirtual 207, .aload 0, .iload 3, .iconst 1, .invokevirtual 207, .if_icmp .le 6, .goto_w 5]) := rfl
theorem k215_5 : xM215.2.2.2.2.2[5]? = some ([0, 1, 2, 4], [.iload 4, .istore 3, .goto_w 6]) := rfl
theorem k215_6 : xM215.2.2.2.2.2[6]? = some ([0, 1, 2, 3, 4], [.iinc 4 1, .goto 1]) := rfl
theorem k215_7 : xM215.2.2.2.2.2[7]? = some ([3], [.iload 3, .ireturn]) := rfl
theorem k216_0 : xM216.2.2.2.2.2[0]? = some ([0, 1], [.aload 0, .iload 1, .invokevirtual 208, .ifCond .eq 3, .goto_w 1]) := rfl
theorem k216_1 : xM216.2.2.2.2.2[1]? = some ([0, 1], [.aload 0, .iload 1, .iconst 1, .iadd, .invokevirtual 208, .ifCond .eq 3, .goto_w 2]) := rfl
theorem k216_2 : xM216.2.2.2.2.2[2]? = some ([0, 1], [.iconst 1, .goto 4]) := rfl
theorem k216_3 : xM216.2.2.2.2.2[3]? = some ([0, 1], [.iconst 0, .goto_w 4]) := rfl
theorem k216_4 : xM216.2.2.2.2.2[4]? = some ([0, 1], [.istore 2, .iload 2, .ifCond .eq 9, .goto_w 5]) := rfl
theorem k216_5 : xM216.2.2.2.2.2[5]? = some ([0, 1], [.aload 0, .iload 1, .iconst 1, .iadd, .invokevirtual 211, .aload 0, .getfield 353, .iconst 5, .iaload, .if_icmp .gt 9, .goto_w 6]) := rfl
theorem k216_6 : xM216.2.2.2.2.2[6]? = some ([0, 1], [.aload 0, .iload 1, .iconst 4, .invokevirtual 202, .ifCond .le 9, .goto_w 7]) := rfl
theorem k216_7 : xM216.2.2.2.2.2[7]? = some ([0, 1], [.aload 0, .iload 1, .iconst 1, .iadd, .iconst 4, .invokevirtual 202, .ifCond .le 9, .goto_w 8]) := rfl
theorem k216_8 : xM216.2.2.2.2.2[8]? = some ([], [.iconst 1, .goto 10]) := rfl
theorem k216_9 : xM216.2.2.2.2.2[9]? = some ([], [.iconst 0, .goto_w 10]) := rfl
theorem k216_10 : xM216.2.2.2.2.2[10]? = some ([], [.ireturn]) := rfl
theorem k217_0 : xM217.2.2.2.2.2[0]? = some ([0, 1], [.aload 0, .iload 1, .iconst 0, .invokevirtual 202, .istore 2, .aload 0, .iload 1, .iconst 0, .aload 0, .iload 1, .iconst 1, .iadd, .iconst 0, .invokevirtual 202, .invokevirtual 203, .aload 0, .iload 1, .iconst 1, .iadd, .iconst 0, .iload 2, .invokevirtual 203, .return_]) := rfl
theorem k218_0 : xM218.2.2.2.2.2[0]? = some ([0, 1], [.aload 0, .iload 1, .invokevirtual 217, .aload 0, .iload 1, .iconst (-2), .invokevirtual 212, .aload 0, .iload 1, .iconst 1, .iadd, .iconst (-2), .invokevirtual 212, .aload 0, .getfield 353, .iconst 11, .dup2, .iaload, .iconst 1, .iadd, .iastore, .return_]) := rfl
theorem k219_0 : xM219.2.2.2.2.2[0]? = some ([0, 1, 2], [.aload 0, .iload 2, .iconst 0, .invokevirtual 202, .ifCond .le 3, .goto_w 1]) := rfl
theorem k219_1 : xM219.2.2.2.2.2[1]? = some ([0, 1, 2], [.aload 0, .iload 2, .iconst 1, .invokevirtual 202, .aload 0, .iload 1, .iconst 1, .invokevirtual 204, .isub, .invokestatic 384, .aload 0, .getfield 353, .iconst 1, .iaload, .if_icmp .gt 3, .goto_w 2]) := rfl
theorem k219_2 : xM219.2.2.2.2.2[2]? = some ([], [.iconst 1, .goto 4]) := rfl
theorem k219_3 : xM219.2.2.2.2.2[3]? = some ([], [.iconst 0, .goto_w 4]) := rfl
theorem k219_4 : xM219.2.2.2.2.2[4]? = some ([], [.ireturn]) := rfl
theorem k220_0 : xM220.2.2.2.2.2[0]? = some ([0, 1], [.aload 0, .iconst 0, .putfield 370, .aload 0, .getfield 353, .iconst 6, .iaload, .istore 2, .iconst (-1), .istore 3, .iconst 0, .istore 4, .goto_w 1]) := rfl
theorem k220_1 : xM220.2.2.2.2.2[1]? = some ([0, 1, 2, 3, 4], [.iload 4, .iload 2, .if_icmp .ge 12, .goto_w 2]) := rfl
theorem k220_2 : xM220.2.2.2.2.2[2]? = some ([0, 1, 2, 3, 4], [.aload 0, .iload 1, .iconst 0, .invokevirtual 204, .ifCond .ne 4, .goto_w 3]) := rfl
theorem k220_3 : xM220.2.2.2.2.2[3]? = some ([0, 1, 2, 3, 4], [.iload 4, .goto 5]) := rfl
theorem k220_4 : xM220.2.2.2.2.2[4]? = some ([0, 1, 2, 3, 4], [.iload 2, .iconst 1, .isub, .iload 4, .isub, .goto_w 5]) := rfl
theorem k220_5 : xM220.2.2.2.2.2[5]? = some ([0, 1, 2, 3, 4], [.istore 5, .aload 0, .iload 1, .iload 5, .invokevirtual 219, .ifCond .ne 7, .goto_w 6]) := rfl
theorem k220_6 : xM220.2.2.2.2.2[6]? = some ([0, 1, 2, 3, 4], [.goto 11]) := rfl
theorem k220_7 : xM220.2.2.2.2.2[7]? = some ([0, 1, 2, 3, 4, 5], [.iload 3, .iconst (-1), .if_icmp .eq 10, .goto_w 8]) := rfl
theorem k220_8 : xM220.2.2.2.2.2[8]? = some ([0, 1, 2, 3, 4, 5], [.aload 0, .iload 3, .iconst 1, .invokevirtual 202, .aload 0, .iload 5, .iconst 1, .invokevirtual 202, .isub, .invokestatic 384, .aload 0, .getfield 353, .iconst 2, .iaload, .if_icmp .le 10, .goto_w 9]) := rfl
theorem k220_9 : xM220.2.2.2.2.2[9]? = some ([0, 1, 2, 4, 5], [.aload 0, .iconst 32, .invokevirtual 221, .goto_w 10]) := rfl
theorem k220_10 : xM220.2.2.2.2.2[10]? = some ([0, 1, 2, 4, 5], [.aload 0, .iconst 96, .aload 0, .iload 5, .iconst 0, .invokevirtual 202, .iadd, .invokevirtual 221, .iload 5, .istore 3, .goto_w 11]) := rfl
theorem k220_11 : xM220.2.2.2.2.2[11]? = some ([0, 1, 2, 3, 4], [.iinc 4 1, .goto 1]) := rfl
theorem k220_12 : xM220.2.2.2.2.2[12]? = some ([], [.return_]) := rfl
theorem k221_0 : xM221.2.2.2.2.2[0]? = some ([0, 1], [.aload 0, .getfield 369, .aload 0, .getfield 370, .iload 1, .iastore, .aload 0, .dup, .getfield 370, .iconst 1, .iadd, .putfield 370, .return_]) := rfl
theorem k222_0 : xM222.2.2.2.2.2[0]? = some ([0, 1], [.aload 0, .iload 1, .invokevirtual 220, .iconst 0, .istore 2, .iconst 0, .istore 3, .goto_w 1]) := rfl
theorem k222_1 : xM222.2.2.2.2.2[1]? = some ([0, 1, 2, 3], [.iload 3, .aload 0, .getfield 370, .if_icmp .ge 7, .goto_w 2]) := rfl
theorem k222_2 : xM222.2.2.2.2.2[2]? = some ([0, 1, 2, 3], [.iload 3, .aload 0, .iload 1, .iconst 2, .invokevirtual 204, .if_icmp .ge 7, .goto_w 3]) := rfl
theorem k222_3 : xM222.2.2.2.2.2[3]? = some ([0, 1, 2, 3], [.iload 2, .aload 0, .getfield 369, .iload 3, .iaload, .aload 0, .iload 1, .iconst 4, .iload 3, .iadd, .invokevirtual 204, .if_icmp .ne 5, .goto_w 4]) := rfl
theorem k222_4 : xM222.2.2.2.2.2[4]? = some ([0, 1, 3], [.iconst 1, .goto 6]) := rfl
theorem k222_5 : xM222.2.2.2.2.2[5]? = some ([0, 1, 3], [.iconst 0, .goto_w 6]) := rfl
theorem k222_6 : xM222.2.2.2.2.2[6]? = some ([0, 1, 3], [.iadd, .istore 2, .iinc 3 1, .goto 1]) := rfl
theorem k222_7 : xM222.2.2.2.2.2[7]? = some ([2], [.iload 2, .ireturn]) := rfl
theorem k223_0 : xM223.2.2.2.2.2[0]? = some ([0, 1], [.aload 0, .iload 1, .invokevirtual 222, .aload 0, .iload 1, .iconst 2, .invokevirtual 204, .if_icmp .ne 3, .goto_w 1]) := rfl
theorem k223_1 : xM223.2.2.2.2.2[1]? = some ([0, 1], [.aload 0, .getfield 370, .aload 0, .iload 1, .iconst 2, .invokevirtual 204, .if_icmp .ne 3, .goto_w 2]) := rfl
theorem k223_2 : xM223.2.2.2.2.2[2]? = some ([], [.iconst 1, .goto 4]) := rfl
theorem k223_3 : xM223.2.2.2.2.2[3]? = some ([], [.iconst 0, .goto_w 4]) := rfl
theorem k223_4 : xM223.2.2.2.2.2[4]? = some ([], [.ireturn]) := rfl
theorem k224_0 : xM224.2.2.2.2.2[0]? = some ([0, 1], [.aload 0, .iload 1, .invokevirtual 222, .istore 2, .iload 2, .i2f, .aload 0, .getfield 370, .aload 0, .iload 1, .iconst 2, .invokevirtual 204, .invokestatic 385, .i2f, .fdiv, .freturn]) := rfl
theorem k225_0 : xM225.2.2.2.2.2[0]? = some ([0], [.iconst 0, .istore 1, .goto_w 1]) := rfl
theorem k225_1 : xM225.2.2.2.2.2[1]? = some ([0, 1], [.iload 1, .aload 0, .getfield 353, .iconst 8, .iaload, .if_icmp .ge 13, .goto_w 2]) := rfl
theorem k225_2 : xM225.2.2.2.2.2[2]? = some ([0, 1], [.aload 0, .iload 1, .iconst 0, .invokevirtual 206, .aload 0, .getfield 353, .iconst 9, .iaload, .if_icmp .ne 12, .goto_w 3]) := rfl
theorem k225_3 : xM225.2.2.2.2.2[3]? = some ([0, 1], [.aload 0, .iload 1, .iconst 2, .invokevirtual 206, .ifCond .eq 5, .goto_w 4]) := rfl
theorem k225_4 : xM225.2.2.2.2.2[4]? = some ([0, 1], [.goto 12]) := rfl
theorem k225_5 : xM225.2.2.2.2.2[5]? = some ([0, 1], [.aload 0, .aload 0, .iload 1, .iconst 1, .invokevirtual 206, .invokevirtual 216, .istore 2, .iload 2, .ifCond .eq 7, .goto_w 6]) := rfl
theorem k225_6 : xM225.2.2.2.2.2[6]? = some ([0, 1, 2], [.aload 0, .aload 0, .iload 1, .iconst 1, .invokevirtual 206, .invokevirtual 218, .goto 8]) := rfl
theorem k225_7 : xM225.2.2.2.2.2[7]? = some ([0, 1, 2], [.aload 0, .getfield 353, .iconst 12, .dup2, .iaload, .iconst 1, .iadd, .iastore, .goto_w 8]) := rfl
theorem k225_8 : xM225.2.2.2.2.2[8]? = some ([0, 1, 2], [.aload 0, .getfield 353, .iconst 171, .iconst 3, .iload 1, .imul, .iadd, .iconst 2, .iadd, .iload 2, .ifCond .eq 10, .goto_w 9]) := rfl
theorem k225_9 : xM225.2.2.2.2.2[9]? = some ([0, 1], [.iconst 1, .goto 11]) := rfl
theorem k225_10 : xM225.2.2.2.2.2[10]? = some ([0, 1], [.iconst 2, .goto_w 11]) := rfl
theorem k225_11 : xM225.2.2.2.2.2[11]? = some ([0, 1], [.iastore, .goto_w 12]) := rfl
theorem k225_12 : xM225.2.2.2.2.2[12]? = some ([0, 1], [.iinc 1 1, .goto 1]) := rfl
theorem k225_13 : xM225.2.2.2.2.2[13]? = some ([], [.return_]) := rfl
theorem k226_0 : xM226.2.2.2.2.2[0]? = some ([0, 1], [.aload 0, .iload 1, .iconst 1, .invokevirtual 202, .istore 2, .aload 0, .getfield 371, .iload 1, .iload 2, .iastore, .iload 2, .aload 0, .iload 1, .invokevirtual 210, .iadd, .istore 3, .iload 1, .ifCond .le 2, .goto_w 1]) := rfl
theorem k226_1 : xM226.2.2.2.2.2[1]? = some ([0, 1, 2, 3], [.iload 3, .aload 0, .iload 1, .iconst 1, .isub, .iconst 1, .invokevirtual 202, .aload 0, .getfield 353, .iconst 0, .iaload, .isub, .invokestatic 386, .istore 3, .goto_w 2]) := rfl
theorem k226_2 : xM226.2.2.2.2.2[2]? = some ([0, 1, 2, 3], [.iload 3, .iload 2, .if_icmp .le 4, .goto_w 3]) := rfl
theorem k226_3 : xM226.2.2.2.2.2[3]? = some ([0, 1, 3], [.iconst 1, .goto 5]) := rfl
theorem k226_4 : xM226.2.2.2.2.2[4]? = some ([0, 1, 3], [.iconst 0, .goto_w 5]) := rfl
theorem k226_5 : xM226.2.2.2.2.2[5]? = some ([0, 1, 3], [.istore 4, .iload 4, .ifCond .eq 7, .goto_w 6]) := rfl
theorem k226_6 : xM226.2.2.2.2.2[6]? = some ([0, 1, 3, 4], [.aload 0, .iload 1, .iconst 1, .iload 3, .invokevirtual 203, .goto_w 7]) := rfl
theorem k226_7 : xM226.2.2.2.2.2[7]? = some ([0, 1, 4], [.aload 0, .iload 1, .iload 4, .ifCond .eq 9, .goto_w 8]) := rfl
theorem k226_8 : xM226.2.2.2.2.2[8]? = some ([0, 1, 4], [.aload 0, .iload 1, .iconst 3, .invokevirtual 202, .ineg, .goto 10]) := rfl
theorem k226_9 : xM226.2.2.2.2.2[9]? = some ([0, 1, 4], [.aload 0, .getfield 353, .iconst 3, .iaload, .goto_w 10]) := rfl
theorem k226_10 : xM226.2.2.2.2.2[10]? = some ([0, 1, 4], [.invokevirtual 212, .aload 0, .iload 1, .iconst 5, .aload 0, .iload 1, .iconst 5, .invokevirtual 202, .iload 4, .ifCond .eq 12, .goto_w 11]) := rfl
theorem k226_11 : xM226.2.2.2.2.2[11]? = some ([], [.iconst 1, .goto 13]) := rfl
theorem k226_12 : xM226.2.2.2.2.2[12]? = some ([], [.iconst 0, .goto_w 13]) := rfl
theorem k226_13 : xM226.2.2.2.2.2[13]? = some ([], [.iadd, .invokevirtual 203, .return_]) := rfl
theorem k227_0 : xM227.2.2.2.2.2[0]? = some ([0, 1], [.aload 0, .iload 1, .iconst 0, .invokevirtual 202, .ifCond .gt 2, .goto_w 1]) := rfl
theorem k227_1 : xM227.2.2.2.2.2[1]? = some ([0, 1], [.aload 0, .iload 1, .iconst 4, .invokevirtual 202, .aload 0, .getfield 353, .iconst 4, .iaload, .if_icmp .ge 3, .goto_w 2]) := rfl
theorem k227_2 : xM227.2.2.2.2.2[2]? = some ([], [.return_]) := rfl
theorem k227_3 : xM227.2.2.2.2.2[3]? = some ([0, 1], [.aload 0, .aload 0, .getfield 371, .iload 1, .iaload, .aload 0, .iload 1, .iconst 1, .invokevirtual 202, .invokevirtual 215, .istore 2, .iload 2, .iconst (-1), .if_icmp .eq 5, .goto_w 4]) := rfl
theorem k227_4 : xM227.2.2.2.2.2[4]? = some ([0, 1, 2], [.aload 0, .iload 1, .iload 2, .invokevirtual 214, .goto_w 5]) := rfl
theorem k227_5 : xM227.2.2.2.2.2[5]? = some ([], [.return_]) := rfl
theorem k228_0 : xM228.2.2.2.2.2[0]? = some ([0], [.aload 0, .getfield 353, .iconst 9, .dup2, .iaload, .iconst 1, .iadd, .iastore, .aload 0, .invokevirtual 225, .iconst 0, .istore 1, .goto_w 1]) := rfl
theorem k228_1 : xM228.2.2.2.2.2[1]? = some ([0, 1], [.iload 1, .aload 0, .getfield 353, .iconst 6, .iaload, .if_icmp .ge 3, .goto_w 2]) := rfl
theorem k228_2 : xM228.2.2.2.2.2[2]? = some ([0, 1], [.aload 0, .iload 1, .invokevirtual 226, .iinc 1 1, .goto 1]) := rfl
theorem k228_3 : xM228.2.2.2.2.2[3]? = some ([0], [.iconst 0, .istore 1, .goto_w 4]) := rfl
theorem k228_4 : xM228.2.2.2.2.2[4]? = some ([0, 1], [.iload 1, .aload 0, .getfield 353, .iconst 6, .iaload, .if_icmp .ge 9, .goto_w 5]) := rfl
theorem k228_5 : xM228.2.2.2.2.2[5]? = some ([0, 1], [.aload 0, .iload 1, .iconst 0, .invokevirtual 202, .ifCond .le 8, .goto_w 6]) := rfl
theorem k228_6 : xM228.2.2.2.2.2[6]? = some ([0, 1], [.aload 0, .iload 1, .iconst 4, .invokevirtual 202, .ifCond .ne 8, .goto_w 7]) := rfl
theorem k228_7 : xM228.2.2.2.2.2[7]? = some ([0, 1], [.aload 0, .iload 1, .invokevirtual 213, .goto_w 8]) := rfl
theorem k228_8 : xM228.2.2.2.2.2[8]? = some ([0, 1], [.iinc 1 1, .goto 4]) := rfl
theorem k228_9 : xM228.2.2.2.2.2[9]? = some ([0], [.iconst 0, .istore 1, .goto_w 10]) := rfl
theorem k228_10 : xM228.2.2.2.2.2[10]? = some ([0, 1], [.iload 1, .aload 0, .getfield 353, .iconst 6, .iaload, .if_icmp .ge 12, .goto_w 11]) := rfl
theorem k228_11 : xM228.2.2.2.2.2[11]? = some ([0, 1], [.aload 0, .iload 1, .invokevirtual 227, .iinc 1 1, .goto 10]) := rfl
theorem k228_12 : xM228.2.2.2.2.2[12]? = some ([0], [.iconst 0, .istore 1, .goto_w 13]) := rfl
theorem k228_13 : xM228.2.2.2.2.2[13]? = some ([0, 1], [.iload 1, .aload 0, .getfield 353, .iconst 7, .iaload, .if_icmp .ge 18, .goto_w 14]) := rfl
theorem k228_14 : xM228.2.2.2.2.2[14]? = some ([0, 1], [.aload 0, .iload 1, .iconst 3, .invokevirtual 204, .iconst (-1), .if_icmp .ne 17, .goto_w 15]) := rfl
theorem k228_15 : xM228.2.2.2.2.2[15]? = some ([0, 1], [.aload 0, .iload 1, .invokevirtual 223, .ifCond .eq 17, .goto_w 16]) := rfl
theorem k228_16 : xM228.2.2.2.2.2[16]? = some ([0, 1], [.aload 0, .iload 1, .iconst 3, .aload 0, .getfield 353, .iconst 9, .iaload, .invokevirtual 205, .goto_w 17]) := rfl
theorem k228_17 : xM228.2.2.2.2.2[17]? = some ([0, 1], [.iinc 1 1, .goto 13]) := rfl
theorem k228_18 : xM228.2.2.2.2.2[18]? = some ([], [.return_]) := rfl
theorem k229_0 : xM229.2.2.2.2.2[0]? = some ([0, 1], [.iconst 0, .istore 2, .goto_w 1]) := rfl
theorem k229_1 : xM229.2.2.2.2.2[1]? = some ([0, 1, 2], [.iload 2, .iload 1, .if_icmp .ge 3, .goto_w 2]) := rfl
theorem k229_2 : xM229.2.2.2.2.2[2]? = some ([0, 1, 2], [.aload 0, .invokevirtual 228, .iinc 2 1, .goto 1]) := rfl
theorem k229_3 : xM229.2.2.2.2.2[3]? = some ([], [.return_]) := rfl
theorem k230_0 : xM230.2.2.2.2.2[0]? = some ([0], [.iconst 0, .istore 1, .iconst 0, .istore 2, .goto_w 1]) := rfl
theorem k230_1 : xM230.2.2.2.2.2[1]? = some ([0, 1, 2], [.iload 2, .aload 0, .getfield 353, .iconst 6, .iaload, .if_icmp .ge 6, .goto_w 2]) := rfl
theorem k230_2 : xM230.2.2.2.2.2[2]? = some ([0, 1, 2], [.iload 1, .aload 0, .iload 2, .iconst 0, .invokevirtual 202, .ifCond .le 4, .goto_w 3]) := rfl
theorem k230_3 : xM230.2.2.2.2.2[3]? = some ([0, 2], [.iconst 1, .goto 5]) := rfl
theorem k230_4 : xM230.2.2.2.2.2[4]? = some ([0, 2], [.iconst 0, .goto_w 5]) := rfl
theorem k230_5 : xM230.2.2.2.2.2[5]? = some ([0, 2], [.iadd, .istore 1, .iinc 2 1, .goto 1]) := rfl
theorem k230_6 : xM230.2.2.2.2.2[6]? = some ([1], [.iload 1, .ireturn]) := rfl
theorem k231_0 : xM231.2.2.2.2.2[0]? = some ([0], [.iconst 0, .istore 1, .iconst 0, .istore 2, .goto_w 1]) := rfl
theorem k231_1 : xM231.2.2.2.2.2[1]? = some ([0, 1, 2], [.iload 2, .aload 0, .getfield 353, .iconst 7, .iaload, .if_icmp .ge 6, .goto_w 2]) := rfl
theorem k231_2 : xM231.2.2.2.2.2[2]? = some ([0, 1, 2], [.iload 1, .aload 0, .iload 2, .iconst 3, .invokevirtual 204, .iconst (-1), .if_icmp .eq 4, .goto_w 3]) := rfl
theorem k231_3 : xM231.2.2.2.2.2[3]? = some ([0, 2], [.iconst 1, .iload 2, .ishl, .goto 5]) := rfl
theorem k231_4 : xM231.2.2.2.2.2[4]? = some ([0, 2], [.iconst 0, .goto_w 5]) := rfl
theorem k231_5 : xM231.2.2.2.2.2[5]? = some ([0, 2], [.ior, .istore 1, .iinc 2 1, .goto 1]) := rfl
theorem k231_6 : xM231.2.2.2.2.2[6]? = some ([1], [.iload 1, .ireturn]) := rfl
theorem k232_0 : xM232.2.2.2.2.2[0]? = some ([0], [.iconst 0, .istore 1, .iconst 0, .istore 2, .goto_w 1]) := rfl
theorem k232_1 : xM232.2.2.2.2.2[1]? = some ([0, 1, 2], [.iload 2, .aload 0, .getfield 353, .iconst 7, .iaload, .if_icmp .ge 6, .goto_w 2]) := rfl
theorem k232_2 : xM232.2.2.2.2.2[2]? = some ([0, 1, 2], [.iload 1, .aload 0, .iload 2, .iconst 3, .invokevirtual 204, .iconst (-1), .if_icmp .eq 4, .goto_w 3]) := rfl
theorem k232_3 : xM232.2.2.2.2.2[3]? = some ([0, 2], [.iconst 1, .goto 5]) := rfl
theorem k232_4 : xM232.2.2.2.2.2[4]? = some ([0, 2], [.iconst 0, .goto_w 5]) := rfl
theorem k232_5 : xM232.2.2.2.2.2[5]? = some ([0, 2], [.iadd, .istore 1, .iinc 2 1, .goto 1]) := rfl
theorem k232_6 : xM232.2.2.2.2.2[6]? = some ([1], [.iload 1, .ireturn]) := rfl
theorem k233_0 : xM233.2.2.2.2.2[0]? = some ([0], [.iconst 0, .istore 1, .iconst 0, .istore 2, .goto_w 1]) := rfl
theorem k233_1 : xM233.2.2.2.2.2[1]? = some ([0, 1, 2], [.iload 2, .aload 0, .getfield 353, .iconst 8, .iaload, .if_icmp .ge 6, .goto_w 2]) := rfl
theorem k233_2 : xM233.2.2.2.2.2[2]? = some ([0, 1, 2], [.iload 1, .aload 0, .iload 2, .iconst 2, .invokevirtual 206, .ifCond .ne 4, .goto_w 3]) := rfl
theorem k233_3 : xM233.2.2.2.2.2[3]? = some ([0, 2], [.iconst 1, .goto 5]) := rfl
theorem k233_4 : xM233.2.2.2.2.2[4]? = some ([0, 2], [.iconst 0, .goto_w 5]) := rfl
theorem k233_5 : xM233.2.2.2.2.2[5]? = some ([0, 2], [.iadd, .istore 1, .iinc 2 1, .goto 1]) := rfl
theorem k233_6 : xM233.2.2.2.2.2[6]? = some ([1], [.iload 1, .ireturn]) := rfl
theorem k234_0 : xM234.2.2.2.2.2[0]? = some ([0], [.iconst 0, .istore 1, .iconst 0, .istore 2, .goto_w 1]) := rfl
theorem k234_1 : xM234.2.2.2.2.2[1]? = some ([0, 1, 2], [.iload 2, .aload 0, .getfield 353, .iconst 6, .iaload, .if_icmp .ge 6, .goto_w 2]) := rfl
theorem k234_2 : xM234.2.2.2.2.2[2]? = some ([0, 1, 2], [.iload 1, .aload 0, .iload 2, .iconst 4, .invokevirtual 202, .ifCond .ne 4, .goto_w 3]) := rfl
theorem k234_3 : xM234.2.2.2.2.2[3]? = some ([0, 2], [.iconst 1, .goto 5]) := rfl
theorem k234_4 : xM234.2.2.2.2.2[4]? = some ([0, 2], [.iconst 0, .goto_w 5]) := rfl
theorem k234_5 : xM234.2.2.2.2.2[5]? = some ([0, 2], [.iadd, .istore 1, .iinc 2 1, .goto 1]) := rfl
theorem k234_6 : xM234.2.2.2.2.2[6]? = some ([1], [.iload 1, .ireturn]) := rfl
theorem k235_0 : xM235.2.2.2.2.2[0]? = some ([0], [.iconst 0, .istore 1, .iconst 0, .istore 2, .goto_w 1]) := rfl
theorem k235_1 : xM235.2.2.2.2.2[1]? = some ([0, 1, 2], [.iload 2, .aload 0, .getfield 353, .iconst 6, .iaload, .if_icmp .ge 6, .goto_w 2]) := rfl
theorem k235_2 : xM235.2.2.2.2.2[2]? = some ([0, 1, 2], [.iload 1, .aload 0, .iload 2, .iconst 0, .invokevirtual 202, .aload 0, .iload 2, .iconst 6, .invokevirtual 202, .if_icmp .ne 4, .goto_w 3]) := rfl
theorem k235_3 : xM235.2.2.2.2.2[3]? = some ([0, 2], [.iconst 1, .goto 5]) := rfl
theorem k235_4 : xM235.2.2.2.2.2[4]? = some ([0, 2], [.iconst 0, .goto_w 5]) := rfl
theorem k235_5 : xM235.2.2.2.2.2[5]? = some ([0, 2], [.iadd, .istore 1, .iinc 2 1, .goto 1]) := rfl
theorem k235_6 : xM235.2.2.2.2.2[6]? = some ([1], [.iload 1, .ireturn]) := rfl
theorem k236_0 : xM236.2.2.2.2.2[0]? = some ([0], [.iconst 0, .istore 1, .iconst 1, .istore 2, .goto_w 1]) := rfl
theorem k236_1 : xM236.2.2.2.2.2[1]? = some ([0, 1, 2], [.iload 2, .aload 0, .getfield 353, .iconst 6, .iaload, .if_icmp .ge 6, .goto_w 2]) := rfl
theorem k236_2 : xM236.2.2.2.2.2[2]? = some ([0, 1, 2], [.iload 1, .aload 0, .iload 2, .invokevirtual 211, .aload 0, .getfield 353, .iconst 0, .iaload, .if_icmp .gt 4, .goto_w 3]) := rfl
theorem k236_3 : xM236.2.2.2.2.2[3]? = some ([0, 2], [.iconst 1, .goto 5]) := rfl
theorem k236_4 : xM236.2.2.2.2.2[4]? = some ([0, 2], [.iconst 0, .goto_w 5]) := rfl
theorem k236_5 : xM236.2.2.2.2.2[5]? = some ([0, 2], [.iadd, .istore 1, .iinc 2 1, .goto 1]) := rfl
theorem k236_6 : xM236.2.2.2.2.2[6]? = some ([1], [.iload 1, .ireturn]) := rfl
theorem k237_0 : xM237.2.2.2.2.2[0]? = some ([0], [.iconst 0, .istore 1, .iconst 0, .istore 2, .goto_w 1]) := rfl
theorem k237_1 : xM237.2.2.2.2.2[1]? = some ([0, 1, 2], [.iload 2, .aload 0, .getfield 353, .iconst 6, .iaload, .if_icmp .ge 3, .goto_w 2]) := rfl
theorem k237_2 : xM237.2.2.2.2.2[2]? = some ([0, 1, 2], [.iload 1, .aload 0, .iload 2, .invokevirtual 210, .iadd, .istore 1, .iinc 2 1, .goto 1]) := rfl
theorem k237_3 : xM237.2.2.2.2.2[3]? = some ([1], [.iload 1, .ireturn]) := rfl
theorem k238_0 : xM238.2.2.2.2.2[0]? = some ([0], [.iconst 0, .istore 1, .iconst 0, .istore 2, .goto_w 1]) := rfl
theorem k238_1 : xM238.2.2.2.2.2[1]? = some ([0, 1, 2], [.iload 2, .aload 0, .getfield 353, .iconst 7, .iaload, .if_icmp .ge 6, .goto_w 2]) := rfl
theorem k238_2 : xM238.2.2.2.2.2[2]? = some ([0, 1, 2], [.iload 1, .aload 0, .iload 2, .invokevirtual 247, .ifCond .eq 4, .goto_w 3]) := rfl
theorem k238_3 : xM238.2.2.2.2.2[3]? = some ([0, 2], [.iconst 1, .goto 5]) := rfl
theorem k238_4 : xM238.2.2.2.2.2[4]? = some ([0, 2], [.iconst 0, .goto_w 5]) := rfl
theorem k238_5 : xM238.2.2.2.2.2[5]? = some ([0, 2], [.iadd, .istore 1, .iinc 2 1, .goto 1]) := rfl
theorem k238_6 : xM238.2.2.2.2.2[6]? = some ([1], [.iload 1, .ireturn]) := rfl
theorem k239_0 : xM239.2.2.2.2.2[0]? = some ([0, 1], [.aload 0, .aload 0, .getfield 358, .iload 1, .iconst 0, .iconst 16, .invokestatic 175, .invokevirtual 177, .ifCond .ne 2, .goto_w 1]) := rfl
theorem k239_1 : xM239.2.2.2.2.2[1]? = some ([], [.iconst 0, .ireturn]) := rfl
theorem k239_2 : xM239.2.2.2.2.2[2]? = some ([0, 1], [.iload 1, .tableswitch 19 0 15 #[3, 4, 5, 6, 7, 8, 9, 10, 11, 12, 13, 14, 15, 16, 17, 18]]) := rfl
theorem k239_3 : xM239.2.2.2.2.2[3]? = some ([0], [.aload 0, .getfield 353, .iconst 6, .iaload, .ireturn]) := rfl
theorem k239_4 : xM239.2.2.2.2.2[4]? = some ([0], [.aload 0, .getfield 353, .iconst 7, .iaload, .ireturn]) := rfl
theorem k239_5 : xM239.2.2.2.2.2[5]? = some ([0], [.aload 0, .getfield 353, .iconst 8, .iaload, .ireturn]) := rfl
theorem k239_6 : xM239.2.2.2.2.2[6]? = some ([0], [.aload 0, .getfield 353, .iconst 9, .iaload, .ireturn]) := rfl
theorem k239_7 : xM239.2.2.2.2.2[7]? = some ([0], [.aload 0, .invokevirtual 230, .ireturn]) := rfl
theorem k239_8 : xM239.2.2.2.2.2[8]? = some ([0], [.aload 0, .getfield 353, .iconst 10, .iaload, .ireturn]) := rfl
theorem k239_9 : xM239.2.2.2.2.2[9]? = some ([0], [.aload 0, .getfield 353, .iconst 11, .iaload, .ireturn]) := rfl
theorem k239_10 : xM239.2.2.2.2.2[10]? = some ([0], [.aload 0, .getfield 353, .iconst 12, .iaload, .ireturn]) := rfl
theorem k239_11 : xM239.2.2.2.2.2[11]? = some ([0], [.aload 0, .getfield 353, .iconst 13, .iaload, .ireturn]) := rfl
theorem k239_12 : xM239.2.2.2.2.2[12]? = some ([0], [.aload 0, .getfield 353, .iconst 14, .iaload, .ireturn]) := rfl
theorem k239_13 : xM239.2.2.2.2.2[13]? = some ([0], [.aload 0, .invokevirtual 232, .ireturn]) := rfl
theorem k239_14 : xM239.2.2.2.2.2[14]? = some ([0], [.aload 0, .invokevirtual 233, .ireturn]) := rfl
theorem k239_15 : xM239.2.2.2.2.2[15]? = some ([0], [.aload 0, .invokevirtual 234, .ireturn]) := rfl
theorem k239_16 : xM239.2.2.2.2.2[16]? = some ([0], [.aload 0, .invokevirtual 235, .ireturn]) := rfl
theorem k239_17 : xM239.2.2.2.2.2[17]? = some ([0], [.aload 0, .invokevirtual 236, .ireturn]) := rfl
theorem k239_18 : xM239.2.2.2.2.2[18]? = some ([0], [.aload 0, .invokevirtual 237, .ireturn]) := rfl
theorem k239_19 : xM239.2.2.2.2.2[19]? = some ([0], [.aload 0, .invokevirtual 238, .ireturn]) := rfl
theorem k240_0 : xM240.2.2.2.2.2[0]? = some ([0, 1], [.aload 0, .aload 0, .getfield 358, .iload 1, .iconst 0, .iconst 5, .invokestatic 175, .invokevirtual 177, .ifCond .eq 2, .goto_w 1]) := rfl
theorem k240_1 : xM240.2.2.2.2.2[1]? = some ([0, 1], [.aload 0, .getfield 353, .iload 1, .iaload, .goto 3]) := rfl
theorem k240_2 : xM240.2.2.2.2.2[2]? = some ([], [.iconst 0, .goto_w 3]) := rfl
theorem k240_3 : xM240.2.2.2.2.2[3]? = some ([], [.ireturn]) := rfl
theorem k241_0 : xM241.2.2.2.2.2[0]? = some ([0, 1], [.aload 0, .aload 0, .getfield 358, .aload 0, .iload 1, .invokevirtual 208, .invokevirtual 177, .ireturn]) := rfl
theorem k242_0 : xM242.2.2.2.2.2[0]? = some ([0, 1], [.aload 0, .aload 0, .getfield 358, .aload 0, .iload 1, .invokevirtual 209, .invokevirtual 177, .ireturn]) := rfl
theorem k243_0 : xM243.2.2.2.2.2[0]? = some ([0, 1, 2], [.aload 0, .aload 0, .getfield 358, .aload 0, .iload 1, .invokevirtual 208, .iload 2, .invokevirtual 176, .ireturn]) := rfl
theorem k244_0 : xM244.2.2.2.2.2[0]? = some ([0, 1], [.iconst 0, .istore 2, .iconst 0, .istore 3, .goto_w 1]) := rfl
theorem k244_1 : xM244.2.2.2.2.2[1]? = some ([0, 1, 2, 3], [.iload 3, .aload 0, .getfield 353, .iconst 7, .iaload, .if_icmp .ge 6, .goto_w 2]) := rfl
theorem k244_2 : xM244.2.2.2.2.2[2]? = some ([0, 1, 2, 3], [.iload 2, .aload 0, .iload 3, .iload 1, .invokevirtual 219, .ifCond .eq 4, .goto_w 3]) := rfl
theorem k244_3 : xM244.2.2.2.2.2[3]? = some ([0, 1, 3], [.iconst 1, .goto 5]) := rfl
theorem k244_4 : xM244.2.2.2.2.2[4]? = some ([0, 1, 3], [.iconst 0, .goto_w 5]) := rfl
theorem k244_5 : xM244.2.2.2.2.2[5]? = some ([0, 1, 3], [.iadd, .istore 2, .iinc 3 1, .goto 1]) := rfl
theorem k244_6 : xM244.2.2.2.2.2[6]? = some ([2], [.iload 2, .ireturn]) := rfl
theorem k245_0 : xM245.2.2.2.2.2[0]? = some ([0, 1], [.iconst 0, .istore 2, .iconst 0, .istore 3, .goto_w 1]) := rfl
theorem k245_1 : xM245.2.2.2.2.2[1]? = some ([0, 1, 2, 3], [.iload 3, .aload 0, .getfield 353, .iconst 6, .iaload, .if_icmp .ge 6, .goto_w 2]) := rfl
theorem k245_2 : xM245.2.2.2.2.2[2]? = some ([0, 1, 2, 3], [.iload 2, .aload 0, .iload 3, .iconst 4, .invokevirtual 202, .aload 0, .iload 1, .iconst 4, .invokevirtual 202, .if_icmp .ge 4, .goto_w 3]) := rfl
theorem k245_3 : xM245.2.2.2.2.2[3]? = some ([0, 1, 3], [.iconst 1, .goto 5]) := rfl
theorem k245_4 : xM245.2.2.2.2.2[4]? = some ([0, 1, 3], [.iconst 0, .goto_w 5]) := rfl
theorem k245_5 : xM245.2.2.2.2.2[5]? = some ([0, 1, 3], [.iadd, .istore 2, .iinc 3 1, .goto 1]) := rfl
theorem k245_6 : xM245.2.2.2.2.2[6]? = some ([2], [.iload 2, .ireturn]) := rfl
theorem k246_0 : xM246.2.2.2.2.2[0]? = some ([0, 1, 2], [.aload 0, .iload 1, .iload 2, .iconst 0, .iconst 12, .invokestatic 175, .invokevirtual 243, .ifCond .ne 2, .goto_w 1]) := rfl
theorem k246_1 : xM246.2.2.2.2.2[1]? = some ([], [.iconst 0, .ireturn]) := rfl
theorem k246_2 : xM246.2.2.2.2.2[2]? = some ([0, 1, 2], [.iload 2, .tableswitch 17 5 12 #[3, 4, 8, 9, 10, 11, 12, 13]]) := rfl
theorem k246_3 : xM246.2.2.2.2.2[3]? = some ([0, 1], [.aload 0, .iload 1, .invokevirtual 210, .ireturn]) := rfl
theorem k246_4 : xM246.2.2.2.2.2[4]? = some ([0, 1], [.iload 1, .ifCond .ne 6, .goto_w 5]) := rfl
theorem k246_5 : xM246.2.2.2.2.2[5]? = some ([], [.iconst (-1), .goto 7]) := rfl
theorem k246_6 : xM246.2.2.2.2.2[6]? = some ([0, 1], [.aload 0, .iload 1, .invokevirtual 211, .goto_w 7]) := rfl
theorem k246_7 : xM246.2.2.2.2.2[7]? = some ([], [.ireturn]) := rfl
theorem k246_8 : xM246.2.2.2.2.2[8]? = some ([0, 1], [.aload 0, .iload 1, .iconst 5, .invokevirtual 202, .ireturn]) := rfl
theorem k246_9 : xM246.2.2.2.2.2[9]? = some ([0, 1], [.aload 0, .iload 1, .iconst 6, .invokevirtual 202, .ireturn]) := rfl
theorem k246_10 : xM246.2.2.2.2.2[10]? = some ([0, 1], [.aload 0, .iload 1, .invokevirtual 244, .ireturn]) := rfl
theorem k246_11 : xM246.2.2.2.2.2[11]? = some ([0, 1], [.aload 0, .iconst 0, .iconst 1, .invokevirtual 202, .aload 0, .iload 1, .iconst 1, .invokevirtual 202, .isub, .ireturn]) := rfl
theorem k246_12 : xM246.2.2.2.2.2[12]? = some ([0, 1], [.aload 0, .iload 1, .invokevirtual 245, .ireturn]) := rfl
theorem k246_13 : xM246.2.2.2.2.2[13]? = some ([0, 1], [.aload 0, .aload 0, .iload 1, .iconst 1, .invokevirtual 202, .aload 0, .iload 1, .iconst 1, .invokevirtual 202, .invokevirtual 215, .iconst (-1), .if_icmp .ne 15, .goto_w 14]) := rfl
theorem k246_14 : xM246.2.2.2.2.2[14]? = some ([], [.iconst 0, .goto 16]) := rfl
theorem k246_15 : xM246.2.2.2.2.2[15]? = some ([], [.iconst 1, .goto_w 16]) := rfl
theorem k246_16 : xM246.2.2.2.2.2[16]? = some ([], [.ireturn]) := rfl
theorem k246_17 : xM246.2.2.2.2.2[17]? = some ([0, 1, 2], [.aload 0, .iload 1, .iload 2, .invokevirtual 202, .ireturn]) := rfl
theorem k247_0 : xM247.2.2.2.2.2[0]? = some ([0, 1], [.iconst 0, .istore 2, .iconst 0, .istore 3, .goto_w 1]) := rfl
theorem k247_1 : xM247.2.2.2.2.2[1]? = some ([0, 1, 2, 3], [.iload 3, .aload 0, .getfield 353, .iconst 6, .iaload, .if_icmp .ge 6, .goto_w 2]) := rfl
theorem k247_2 : xM247.2.2.2.2.2[2]? = some ([0, 1, 2, 3], [.iload 2, .aload 0, .iload 1, .iload 3, .invokevirtual 219, .ifCond .eq 4, .goto_w 3]) := rfl
theorem k247_3 : xM247.2.2.2.2.2[3]? = some ([0, 1, 3], [.iconst 1, .iload 3, .ishl, .goto 5]) := rfl
theorem k247_4 : xM247.2.2.2.2.2[4]? = some ([0, 1, 3], [.iconst 0, .goto_w 5]) := rfl
theorem k247_5 : xM247.2.2.2.2.2[5]? = some ([0, 1, 3], [.ior, .istore 2, .iinc 3 1, .goto 1]) := rfl
theorem k247_6 : xM247.2.2.2.2.2[6]? = some ([2], [.iload 2, .ireturn]) := rfl
theorem k248_0 : xM248.2.2.2.2.2[0]? = some ([0], [.iconst 0, .istore 1, .iconst 0, .istore 2, .goto_w 1]) := rfl
theorem k248_1 : xM248.2.2.2.2.2[1]? = some ([0, 1, 2], [.iload 2, .iconst 12, .if_icmp .ge 3, .goto_w 2]) := rfl
theorem k248_2 : xM248.2.2.2.2.2[2]? = some ([0, 1, 2], [.iload 1, .iload 0, .iload 2, .ishr, .iconst 1, .iand, .iadd, .istore 1, .iinc 2 1, .goto 1]) := rfl
theorem k248_3 : xM248.2.2.2.2.2[3]? = some ([1], [.iload 1, .ireturn]) := rfl
theorem k249_0 : xM249.2.2.2.2.2[0]? = some ([0, 1], [.aload 0, .iload 1, .invokevirtual 220, .aload 0, .getfield 370, .ireturn]) := rfl
theorem k250_0 : xM250.2.2.2.2.2[0]? = some ([0, 1], [.iconst (-1), .istore 2, .iconst 0, .istore 3, .goto_w 1]) := rfl
theorem k250_1 : xM250.2.2.2.2.2[1]? = some ([0, 1, 2, 3], [.iload 3, .aload 0, .getfield 353, .iconst 6, .iaload, .if_icmp .ge 6, .goto_w 2]) := rfl
theorem k250_2 : xM250.2.2.2.2.2[2]? = some ([0, 1, 2, 3], [.aload 0, .iload 3, .iconst 1, .invokevirtual 202, .aload 0, .iload 1, .iconst 1, .invokevirtual 204, .isub, .invokestatic 384, .istore 4, .iload 2, .iconst (-1), .if_icmp .ne 4, .goto_w 3]) := rfl
theorem k250_3 : xM250.2.2.2.2.2[3]? = some ([0, 1, 3, 4], [.iload 4, .goto 5]) := rfl
theorem k250_4 : xM250.2.2.2.2.2[4]? = some ([0, 1, 2, 3, 4], [.iload 2, .iload 4, .invokestatic 386, .goto_w 5]) := rfl
theorem k250_5 : xM250.2.2.2.2.2[5]? = some ([0, 1, 3], [.istore 2, .iinc 3 1, .goto 1]) := rfl
theorem k250_6 : xM250.2.2.2.2.2[6]? = some ([2], [.iload 2, .ireturn]) := rfl
theorem k251_0 : xM251.2.2.2.2.2[0]? = some ([0, 1], [.iconst 0, .istore 2, .iconst 0, .istore 3, .goto_w 1]) := rfl
theorem k251_1 : xM251.2.2.2.2.2[1]? = some ([0, 1, 2, 3], [.iload 3, .aload 0, .getfield 353, .iconst 6, .iaload, .if_icmp .ge 6, .goto_w 2]) := rfl
theorem k251_2 : xM251.2.2.2.2.2[2]? = some ([0, 1, 2, 3], [.iload 2, .aload 0, .iload 3, .iconst 1, .invokevirtual 202, .aload 0, .iload 1, .iconst 1, .invokevirtual 204, .aload 0, .getfield 353, .iconst 1, .iaload, .iadd, .if_icmp .le 4, .goto_w 3]) := rfl
theorem k251_3 : xM251.2.2.2.2.2[3]? = some ([0, 1, 3], [.iconst 1, .goto 5]) := rfl
theorem k251_4 : xM251.2.2.2.2.2[4]? = some ([0, 1, 3], [.iconst 0, .goto_w 5]) := rfl
theorem k251_5 : xM251.2.2.2.2.2[5]? = some ([0, 1, 3], [.iadd, .istore 2, .iinc 3 1, .goto 1]) := rfl
theorem k251_6 : xM251.2.2.2.2.2[6]? = some ([2], [.iload 2, .ireturn]) := rfl
theorem k252_0 : xM252.2.2.2.2.2[0]? = some ([0, 1], [.iconst 0, .istore 2, .iconst 0, .istore 3, .goto_w 1]) := rfl
theorem k252_1 : xM252.2.2.2.2.2[1]? = some ([0, 1, 2, 3], [.iload 3, .aload 0, .getfield 353, .iconst 6, .iaload, .if_icmp .ge 6, .goto_w 2]) := rfl
theorem k252_2 : xM252.2.2.2.2.2[2]? = some ([0, 1, 2, 3], [.iload 2, .aload 0, .iload 3, .iconst 1, .invokevirtual 202, .aload 0, .iload 1, .iconst 1, .invokevirtual 204, .aload 0, .getfield 353, .iconst 1, .iaload, .isub, .if_icmp .ge 4, .goto_w 3]) := rfl
theorem k252_3 : xM252.2.2.2.2.2[3]? = some ([0, 1, 3], [.iconst 1, .goto 5]) := rfl
theorem k252_4 : xM252.2.2.2.2.2[4]? = some ([0, 1, 3], [.iconst 0, .goto_w 5]) := rfl
theorem k252_5 : xM252.2.2.2.2.2[5]? = some ([0, 1, 3], [.iadd, .istore 2, .iinc 3 1, .goto 1]) := rfl
theorem k252_6 : xM252.2.2.2.2.2[6]? = some ([2], [.iload 2, .ireturn]) := rfl
theorem k253_0 : xM253.2.2.2.2.2[0]? = some ([0, 1, 2], [.aload 0, .aload 0, .getfield 358, .aload 0, .iload 1, .invokevirtual 209, .iload 2, .iconst 0, .iconst 8, .invokestatic 175, .invokevirtual 176, .ifCond .ne 2, .goto_w 1]) := rfl
theorem k253_1 : xM253.2.2.2.2.2[1]? = some ([], [.iconst 0, .ireturn]) := rfl
theorem k253_2 : xM253.2.2.2.2.2[2]? = some ([0, 1, 2], [.iload 2, .tableswitch 8 4 8 #[3, 4, 5, 6, 7]]) := rfl
theorem k253_3 : xM253.2.2.2.2.2[3]? = some ([0, 1], [.aload 0, .iload 1, .invokevirtual 247, .invokestatic 248, .ireturn]) := rfl
theorem k253_4 : xM253.2.2.2.2.2[4]? = some ([0, 1], [.aload 0, .iload 1, .invokevirtual 249, .ireturn]) := rfl
theorem k253_5 : xM253.2.2.2.2.2[5]? = some ([0, 1], [.aload 0, .iload 1, .invokevirtual 250, .ireturn]) := rfl
theorem k253_6 : xM253.2.2.2.2.2[6]? = some ([0, 1], [.aload 0, .iload 1, .invokevirtual 251, .ireturn]) := rfl
theorem k253_7 : xM253.2.2.2.2.2[7]? = some ([0, 1], [.aload 0, .iload 1, .invokevirtual 252, .ireturn]) := rfl
theorem k253_8 : xM253.2.2.2.2.2[8]? = some ([0, 1, 2], [.aload 0, .iload 1, .iload 2, .invokevirtual 204, .ireturn]) := rfl
theorem k254_0 : xM254.2.2.2.2.2[0]? = some ([0, 1, 2], [.aload 0, .aload 0, .getfield 358, .iload 1, .iconst 0, .aload 0, .getfield 353, .iconst 8, .iaload, .iconst 1, .isub, .invokestatic 175, .iload 2, .iconst 0, .iconst 3, .invokestatic 175, .invokevirtual 176, .ifCond .ne 2, .goto_w 1]) := rfl
theorem k254_1 : xM254.2.2.2.2.2[1]? = some ([], [.iconst 0, .ireturn]) := rfl
theorem k254_2 : xM254.2.2.2.2.2[2]? = some ([0, 1, 2], [.iload 2, .iconst 3, .if_icmp .ge 4, .goto_w 3]) := rfl
theorem k254_3 : xM254.2.2.2.2.2[3]? = some ([0, 1, 2], [.aload 0, .iload 1, .iload 2, .invokevirtual 206, .ireturn]) := rfl
theorem k254_4 : xM254.2.2.2.2.2[4]? = some ([0, 1], [.aload 0, .iload 1, .iconst 2, .invokevirtual 206, .ifCond .ne 6, .goto_w 5]) := rfl
theorem k254_5 : xM254.2.2.2.2.2[5]? = some ([0, 1], [.aload 0, .iload 1, .iconst 0, .invokevirtual 206, .aload 0, .getfield 353, .iconst 9, .iaload, .isub, .goto 7]) := rfl
theorem k254_6 : xM254.2.2.2.2.2[6]? = some ([], [.iconst (-1), .goto_w 7]) := rfl
theorem k254_7 : xM254.2.2.2.2.2[7]? = some ([], [.ireturn]) := rfl
theorem k255_0 : xM255.2.2.2.2.2[0]? = some ([0, 1, 2], [.aload 0, .aload 0, .getfield 358, .iload 1, .iconst 0, .aload 0, .getfield 353, .iconst 10, .iaload, .iconst 1, .isub, .invokestatic 175, .iload 2, .iconst 0, .iconst 2, .invokestatic 175, .invokevirtual 176, .ifCond .eq 2, .goto_w 1]) := rfl
theorem k255_1 : xM255.2.2.2.2.2[1]? = some ([0, 1, 2], [.aload 0, .iload 1, .iload 2, .invokevirtual 207, .goto 3]) := rfl
theorem k255_2 : xM255.2.2.2.2.2[2]? = some ([], [.iconst 0, .goto_w 3]) := rfl
theorem k255_3 : xM255.2.2.2.2.2[3]? = some ([], [.ireturn]) := rfl
theorem k256_0 : xM256.2.2.2.2.2[0]? = some ([0, 1, 2], [.aload 0, .iload 1, .invokevirtual 242, .ifCond .ne 2, .goto_w 1]) := rfl
theorem k256_1 : xM256.2.2.2.2.2[1]? = some ([], [.iconst 0, .ireturn]) := rfl
theorem k256_2 : xM256.2.2.2.2.2[2]? = some ([0, 1, 2], [.iload 2, .iconst 0, .aload 0, .iload 1, .iconst 2, .invokevirtual 204, .iconst 1, .isub, .invokestatic 175, .ifCond .eq 4, .goto_w 3]) := rfl
theorem k256_3 : xM256.2.2.2.2.2[3]? = some ([0, 1, 2], [.aload 0, .iload 1, .iconst 4, .iload 2, .iadd, .invokevirtual 204, .goto 5]) := rfl
theorem k256_4 : xM256.2.2.2.2.2[4]? = some ([], [.iconst (-1), .goto_w 5]) := rfl
theorem k256_5 : xM256.2.2.2.2.2[5]? = some ([], [.ireturn]) := rfl
theorem k257_0 : xM257.2.2.2.2.2[0]? = some ([0, 1, 2], [.aload 0, .iload 1, .invokevirtual 242, .ifCond .ne 2, .goto_w 1]) := rfl
theorem k257_1 : xM257.2.2.2.2.2[1]? = some ([], [.iconst 0, .ireturn]) := rfl
theorem k257_2 : xM257.2.2.2.2.2[2]? = some ([0, 1, 2], [.aload 0, .iload 1, .invokevirtual 220, .iload 2, .iconst 0, .aload 0, .getfield 370, .iconst 1, .isub, .invokestatic 175, .ifCond .eq 4, .goto_w 3]) := rfl
theorem k257_3 : xM257.2.2.2.2.2[3]? = some ([0, 2], [.aload 0, .getfield 369, .iload 2, .iaload, .goto 5]) := rfl
theorem k257_4 : xM257.2.2.2.2.2[4]? = some ([], [.iconst (-1), .goto_w 5]) := rfl
theorem k257_5 : xM257.2.2.2.2.2[5]? = some ([], [.ireturn]) := rfl
theorem k258_0 : xM258.2.2.2.2.2[0]? = some ([0, 1], [.aload 0, .iload 1, .invokevirtual 242, .ifCond .eq 2, .goto_w 1]) := rfl
theorem k258_1 : xM258.2.2.2.2.2[1]? = some ([0, 1], [.aload 0, .iload 1, .invokevirtual 247, .goto 3]) := rfl
theorem k258_2 : xM258.2.2.2.2.2[2]? = some ([], [.iconst 0, .goto_w 3]) := rfl
theorem k258_3 : xM258.2.2.2.2.2[3]? = some ([], [.ireturn]) := rfl
theorem k259_0 : xM259.2.2.2.2.2[0]? = some ([0, 1], [.aload 0, .iload 1, .invokevirtual 242, .ifCond .eq 2, .goto_w 1]) := rfl
theorem k259_1 : xM259.2.2.2.2.2[1]? = some ([0, 1], [.aload 0, .iload 1, .invokevirtual 222, .goto 3]) := rfl
theorem k259_2 : xM259.2.2.2.2.2[2]? = some ([], [.iconst 0, .goto_w 3]) := rfl
theorem k259_3 : xM259.2.2.2.2.2[3]? = some ([], [.ireturn]) := rfl
theorem k260_0 : xM260.2.2.2.2.2[0]? = some ([0, 1], [.aload 0, .iload 1, .invokevirtual 242, .ifCond .eq 3, .goto_w 1]) := rfl
theorem k260_1 : xM260.2.2.2.2.2[1]? = some ([0, 1], [.aload 0, .iload 1, .invokevirtual 223, .ifCond .eq 3, .goto_w 2]) := rfl
theorem k260_2 : xM260.2.2.2.2.2[2]? = some ([], [.iconst 1, .goto 4]) := rfl
theorem k260_3 : xM260.2.2.2.2.2[3]? = some ([], [.iconst 0, .goto_w 4]) := rfl
theorem k260_4 : xM260.2.2.2.2.2[4]? = some ([], [.ireturn]) := rfl
theorem k261_0 : xM261.2.2.2.2.2[0]? = some ([0, 1, 2], [.iload 2, .istore 3, .iconst 0, .istore 4, .goto_w 1]) := rfl
theorem k261_1 : xM261.2.2.2.2.2[1]? = some ([0, 1, 3, 4], [.iload 4, .aload 0, .getfield 353, .iconst 6, .iaload, .if_icmp .ge 11, .goto_w 2]) := rfl
theorem k261_2 : xM261.2.2.2.2.2[2]? = some ([0, 1, 3, 4], [.aload 0, .iload 1, .iconst 0, .invokevirtual 204, .ifCond .ne 4, .goto_w 3]) := rfl
theorem k261_3 : xM261.2.2.2.2.2[3]? = some ([0, 1, 3, 4], [.iload 4, .goto 5]) := rfl
theorem k261_4 : xM261.2.2.2.2.2[4]? = some ([0, 1, 3, 4], [.aload 0, .getfield 353, .iconst 6, .iaload, .iconst 1, .isub, .iload 4, .isub, .goto_w 5]) := rfl
theorem k261_5 : xM261.2.2.2.2.2[5]? = some ([0, 1, 3, 4], [.istore 5, .aload 0, .iload 1, .iload 5, .invokevirtual 219, .ifCond .ne 7, .goto_w 6]) := rfl
theorem k261_6 : xM261.2.2.2.2.2[6]? = some ([0, 1, 3, 4], [.goto 10]) := rfl
theorem k261_7 : xM261.2.2.2.2.2[7]? = some ([0, 1, 3, 4, 5], [.iload 3, .ifCond .ne 9, .goto_w 8]) := rfl
theorem k261_8 : xM261.2.2.2.2.2[8]? = some ([5], [.iload 5, .ireturn]) := rfl
theorem k261_9 : xM261.2.2.2.2.2[9]? = some ([0, 1, 3, 4], [.iinc 3 (-1), .goto_w 10]) := rfl
theorem k261_10 : xM261.2.2.2.2.2[10]? = some ([0, 1, 3, 4], [.iinc 4 1, .goto 1]) := rfl
theorem k261_11 : xM261.2.2.2.2.2[11]? = some ([], [.iconst (-1), .ireturn]) := rfl
theorem k262_0 : xM262.2.2.2.2.2[0]? = some ([0, 1, 2], [.aload 0, .iload 1, .invokevirtual 242, .ifCond .ne 2, .goto_w 1]) := rfl
theorem k262_1 : xM262.2.2.2.2.2[1]? = some ([], [.iconst 0, .ireturn]) := rfl
theorem k262_2 : xM262.2.2.2.2.2[2]? = some ([0, 1, 2], [.iload 2, .ifCond .ge 4, .goto_w 3]) := rfl
theorem k262_3 : xM262.2.2.2.2.2[3]? = some ([], [.iconst (-1), .goto 5]) := rfl
theorem k262_4 : xM262.2.2.2.2.2[4]? = some ([0, 1, 2], [.aload 0, .iload 1, .iload 2, .invokevirtual 261, .goto_w 5]) := rfl
theorem k262_5 : xM262.2.2.2.2.2[5]? = some ([], [.ireturn]) := rfl
theorem k263_0 : xM263.2.2.2.2.2[0]? = some ([0, 1], [.aload 0, .iload 1, .invokevirtual 242, .ifCond .ne 2, .goto_w 1]) := rfl
theorem k263_1 : xM263.2.2.2.2.2[1]? = some ([], [.iconst 0, .ireturn]) := rfl
theorem k263_2 : xM263.2.2.2.2.2[2]? = some ([0, 1], [.aload 0, .iload 1, .invokevirtual 220, .iconst 0, .istore 2, .iconst 0, .istore 3, .goto_w 3]) := rfl
theorem k263_3 : xM263.2.2.2.2.2[3]? = some ([0, 2, 3], [.iload 3, .aload 0, .getfield 370, .if_icmp .ge 8, .goto_w 4]) := rfl
theorem k263_4 : xM263.2.2.2.2.2[4]? = some ([0, 2, 3], [.iload 2, .aload 0, .getfield 369, .iload 3, .iaload, .iconst 32, .if_icmp .ne 6, .goto_w 5]) := rfl
theorem k263_5 : xM263.2.2.2.2.2[5]? = some ([0, 3], [.iconst 1, .goto 7]) := rfl
theorem k263_6 : xM263.2.2.2.2.2[6]? = some ([0, 3], [.iconst 0, .goto_w 7]) := rfl
theorem k263_7 : xM263.2.2.2.2.2[7]? = some ([0, 3], [.iadd, .istore 2, .iinc 3 1, .goto 3]) := rfl
theorem k263_8 : xM263.2.2.2.2.2[8]? = some ([2], [.iload 2, .ireturn]) := rfl
theorem k264_0 : xM264.2.2.2.2.2[0]? = some ([0, 1], [.aload 0, .iload 1, .invokevirtual 242, .ifCond .ne 2, .goto_w 1]) := rfl
theorem k264_1 : xM264.2.2.2.2.2[1]? = some ([], [.iconst 0, .ireturn]) := rfl
theorem k264_2 : xM264.2.2.2.2.2[2]? = some ([0, 1], [.aload 0, .iload 1, .invokevirtual 220, .iconst 0, .istore 2, .goto_w 3]) := rfl
theorem k264_3 : xM264.2.2.2.2.2[3]? = some ([0, 1, 2], [.iload 2, .aload 0, .getfield 370, .if_icmp .ge 7, .goto_w 4]) := rfl
theorem k264_4 : xM264.2.2.2.2.2[4]? = some ([0, 1, 2], [.iload 2, .aload 0, .iload 1, .iconst 2, .invokevirtual 204, .if_icmp .ge 7, .goto_w 5]) := rfl
theorem k264_5 : xM264.2.2.2.2.2[5]? = some ([0, 1, 2], [.aload 0, .getfield 369, .iload 2, .iaload, .aload 0, .iload 1, .iconst 4, .iload 2, .iadd, .invokevirtual 204, .if_icmp .ne 7, .goto_w 6]) := rfl
theorem k264_6 : xM264.2.2.2.2.2[6]? = some ([0, 1, 2], [.iinc 2 1, .goto 3]) := rfl
theorem k264_7 : xM264.2.2.2.2.2[7]? = some ([2], [.iload 2, .ireturn]) := rfl
theorem k265_0 : xM265.2.2.2.2.2[0]? = some ([0, 1], [.aload 0, .aload 0, .getfield 358, .iload 1, .iconst 1, .iconst 26, .invokestatic 175, .invokevirtual 177, .ireturn]) := rfl
theorem k266_0 : xM266.2.2.2.2.2[0]? = some ([0, 1], [.aload 0, .iload 1, .invokevirtual 265, .ifCond .ne 2, .goto_w 1]) := rfl
theorem k266_1 : xM266.2.2.2.2.2[1]? = some ([], [.iconst 0, .ireturn]) := rfl
theorem k266_2 : xM266.2.2.2.2.2[2]? = some ([0, 1], [.iconst 0, .istore 2, .goto_w 3]) := rfl
theorem k266_3 : xM266.2.2.2.2.2[3]? = some ([0, 1, 2], [.iload 2, .aload 0, .getfield 353, .iconst 6, .iaload, .if_icmp .ge 7, .goto_w 4]) := rfl
theorem k266_4 : xM266.2.2.2.2.2[4]? = some ([0, 1, 2], [.aload 0, .iload 2, .iconst 0, .invokevirtual 202, .iload 1, .if_icmp .ne 6, .goto_w 5]) := rfl
theorem k266_5 : xM266.2.2.2.2.2[5]? = some ([2], [.iload 2, .ireturn]) := rfl
theorem k266_6 : xM266.2.2.2.2.2[6]? = some ([0, 1, 2], [.iinc 2 1, .goto 3]) := rfl
theorem k266_7 : xM266.2.2.2.2.2[7]? = some ([], [.iconst (-1), .ireturn]) := rfl
theorem k267_0 : xM267.2.2.2.2.2[0]? = some ([0, 1], [.aload 0, .iload 1, .invokevirtual 265, .ifCond .ne 2, .goto_w 1]) := rfl
theorem k267_1 : xM267.2.2.2.2.2[1]? = some ([], [.iconst 0, .ireturn]) := rfl
theorem k267_2 : xM267.2.2.2.2.2[2]? = some ([0, 1], [.iconst 0, .istore 2, .iconst 0, .istore 3, .goto_w 3]) := rfl
theorem k267_3 : xM267.2.2.2.2.2[3]? = some ([0, 1, 2, 3], [.iload 3, .aload 0, .getfield 353, .iconst 6, .iaload, .if_icmp .ge 8, .goto_w 4]) := rfl
theorem k267_4 : xM267.2.2.2.2.2[4]? = some ([0, 1, 2, 3], [.iload 2, .aload 0, .iload 3, .iconst 0, .invokevirtual 202, .iload 1, .if_icmp .ne 6, .goto_w 5]) := rfl
theorem k267_5 : xM267.2.2.2.2.2[5]? = some ([0, 1, 3], [.iconst 1, .goto 7]) := rfl
theorem k267_6 : xM267.2.2.2.2.2[6]? = some ([0, 1, 3], [.iconst 0, .goto_w 7]) := rfl
theorem k267_7 : xM267.2.2.2.2.2[7]? = some ([0, 1, 3], [.iadd, .istore 2, .iinc 3 1, .goto 3]) := rfl
theorem k267_8 : xM267.2.2.2.2.2[8]? = some ([0, 1, 2], [.iconst 0, .istore 3, .goto_w 9]) := rfl
theorem k267_9 : xM267.2.2.2.2.2[9]? = some ([0, 1, 2, 3], [.iload 3, .aload 0, .getfield 353, .iconst 10, .iaload, .if_icmp .ge 14, .goto_w 10]) := rfl
theorem k267_10 : xM267.2.2.2.2.2[10]? = some ([0, 1, 2, 3], [.iload 2, .aload 0, .iload 3, .iconst 0, .invokevirtual 207, .iload 1, .if_icmp .ne 12, .goto_w 11]) := rfl
theorem k267_11 : xM267.2.2.2.2.2[11]? = some ([0, 1, 3], [.iconst 1, .goto 13]) := rfl
theorem k267_12 : xM267.2.2.2.2.2[12]? = some ([0, 1, 3], [.iconst 0, .goto_w 13]) := rfl
theorem k267_13 : xM267.2.2.2.2.2[13]? = some ([0, 1, 3], [.iadd, .istore 2, .iinc 3 1, .goto 9]) := rfl
theorem k267_14 : xM267.2.2.2.2.2[14]? = some ([2], [.iload 2, .ireturn]) := rfl
theorem k268_0 : xM268.2.2.2.2.2[0]? = some ([0, 1], [.aload 0, .aload 0, .getfield 358, .iload 1, .iconst 0, .iconst 100, .invokestatic 175, .invokevirtual 177, .ifCond .ne 2, .goto_w 1]) := rfl
theorem k268_1 : xM268.2.2.2.2.2[1]? = some ([], [.iconst 0, .ireturn]) := rfl
theorem k268_2 : xM268.2.2.2.2.2[2]? = some ([0, 1], [.iconst 0, .istore 2, .iconst 0, .istore 3, .goto_w 3]) := rfl
theorem k268_3 : xM268.2.2.2.2.2[3]? = some ([0, 1, 2, 3], [.iload 3, .aload 0, .getfield 353, .iconst 6, .iaload, .if_icmp .ge 8, .goto_w 4]) := rfl
theorem k268_4 : xM268.2.2.2.2.2[4]? = some ([0, 1, 2, 3], [.iload 2, .aload 0, .iload 3, .iconst 4, .invokevirtual 202, .iload 1, .if_icmp .gt 6, .goto_w 5]) := rfl
theorem k268_5 : xM268.2.2.2.2.2[5]? = some ([0, 1, 3], [.iconst 1, .iload 3, .ishl, .goto 7]) := rfl
theorem k268_6 : xM268.2.2.2.2.2[6]? = some ([0, 1, 3], [.iconst 0, .goto_w 7]) := rfl
theorem k268_7 : xM268.2.2.2.2.2[7]? = some ([0, 1, 3], [.ior, .istore 2, .iinc 3 1, .goto 3]) := rfl
theorem k268_8 : xM268.2.2.2.2.2[8]? = some ([2], [.iload 2, .ireturn]) := rfl
theorem k269_0 : xM269.2.2.2.2.2[0]? = some ([0], [.aload 0, .invokevirtual 275, .ifCond .ne 2, .goto_w 1]) := rfl
theorem k269_1 : xM269.2.2.2.2.2[1]? = some ([], [.iconst 0, .ireturn]) := rfl
theorem k269_2 : xM269.2.2.2.2.2[2]? = some ([0], [.iconst 0, .istore 1, .iconst 0, .istore 2, .goto_w 3]) := rfl
theorem k269_3 : xM269.2.2.2.2.2[3]? = some ([0, 1, 2], [.iload 2, .aload 0, .getfield 353, .iconst 6, .iaload, .if_icmp .ge 8, .goto_w 4]) := rfl
theorem k269_4 : xM269.2.2.2.2.2[4]? = some ([0, 1, 2], [.iload 1, .aload 0, .iload 2, .invokevirtual 216, .ifCond .eq 6, .goto_w 5]) := rfl
theorem k269_5 : xM269.2.2.2.2.2[5]? = some ([0, 2], [.iconst 1, .iload 2, .ishl, .goto 7]) := rfl
theorem k269_6 : xM269.2.2.2.2.2[6]? = some ([0, 2], [.iconst 0, .goto_w 7]) := rfl
theorem k269_7 : xM269.2.2.2.2.2[7]? = some ([0, 2], [.ior, .istore 1, .iinc 2 1, .goto 3]) := rfl
theorem k269_8 : xM269.2.2.2.2.2[8]? = some ([1], [.iload 1, .ireturn]) := rfl
theorem k270_0 : xM270.2.2.2.2.2[0]? = some ([0], [.aload 0, .invokevirtual 275, .ifCond .ne 2, .goto_w 1]) := rfl
theorem k270_1 : xM270.2.2.2.2.2[1]? = some ([], [.iconst 0, .ireturn]) := rfl
theorem k270_2 : xM270.2.2.2.2.2[2]? = some ([0], [.iconst (-1), .istore 1, .iconst 0, .istore 2, .goto_w 3]) := rfl
theorem k270_3 : xM270.2.2.2.2.2[3]? = some ([0, 1, 2], [.iload 2, .aload 0, .getfield 353, .iconst 8, .iaload, .if_icmp .ge 9, .goto_w 4]) := rfl
theorem k270_4 : xM270.2.2.2.2.2[4]? = some ([0, 1, 2], [.aload 0, .iload 2, .iconst 2, .invokevirtual 206, .ifCond .ne 8, .goto_w 5]) := rfl
theorem k270_5 : xM270.2.2.2.2.2[5]? = some ([0, 1, 2], [.iload 1, .iconst (-1), .if_icmp .eq 7, .goto_w 6]) := rfl
theorem k270_6 : xM270.2.2.2.2.2[6]? = some ([0, 1, 2], [.aload 0, .iload 2, .iconst 0, .invokevirtual 206, .aload 0, .iload 1, .iconst 0, .invokevirtual 206, .if_icmp .ge 8, .goto_w 7]) := rfl
theorem k270_7 : xM270.2.2.2.2.2[7]? = some ([0, 2], [.iload 2, .istore 1, .goto_w 8]) := rfl
theorem k270_8 : xM270.2.2.2.2.2[8]? = some ([0, 1, 2], [.iinc 2 1, .goto 3]) := rfl
theorem k270_9 : xM270.2.2.2.2.2[9]? = some ([1], [.iload 1, .ireturn]) := rfl
theorem k271_0 : xM271.2.2.2.2.2[0]? = some ([0, 1, 2], [.aload 0, .invokevirtual 275, .ifCond .ne 2, .goto_w 1]) := rfl
theorem k271_1 : xM271.2.2.2.2.2[1]? = some ([], [.iconst 0, .ireturn]) := rfl
theorem k271_2 : xM271.2.2.2.2.2[2]? = some ([0, 1, 2], [.iconst 0, .istore 3, .iconst 0, .istore 4, .goto_w 3]) := rfl
theorem k271_3 : xM271.2.2.2.2.2[3]? = some ([0, 1, 2, 3, 4], [.iload 4, .aload 0, .getfield 353, .iconst 10, .iaload, .if_icmp .ge 8, .goto_w 4]) := rfl
theorem k271_4 : xM271.2.2.2.2.2[4]? = some ([0, 1, 2, 3, 4], [.iload 3, .aload 0, .iload 4, .iconst 1, .invokevirtual 207, .iload 1, .iload 2, .invokestatic 175, .ifCond .eq 6, .goto_w 5]) := rfl
theorem k271_5 : xM271.2.2.2.2.2[5]? = some ([0, 1, 2, 4], [.iconst 1, .goto 7]) := rfl
theorem k271_6 : xM271.2.2.2.2.2[6]? = some ([0, 1, 2, 4], [.iconst 0, .goto_w 7]) := rfl
theorem k271_7 : xM271.2.2.2.2.2[7]? = some ([0, 1, 2, 4], [.iadd, .istore 3, .iinc 4 1, .goto 3]) := rfl
theorem k271_8 : xM271.2.2.2.2.2[8]? = some ([3], [.iload 3, .ireturn]) := rfl
theorem k272_0 : xM272.2.2.2.2.2[0]? = some ([0, 1], [.aload 0, .iload 1, .invokevirtual 242, .ifCond .eq 2, .goto_w 1]) := rfl
theorem k272_1 : xM272.2.2.2.2.2[1]? = some ([0, 1], [.aload 0, .iload 1, .invokevirtual 224, .goto 3]) := rfl
theorem k272_2 : xM272.2.2.2.2.2[2]? = some ([], [.fconst 0, .goto_w 3]) := rfl
theorem k272_3 : xM272.2.2.2.2.2[3]? = some ([], [.freturn]) := rfl
theorem k273_0 : xM273.2.2.2.2.2[0]? = some ([0, 1], [.aload 0, .iload 1, .invokevirtual 242, .ifCond .eq 2, .goto_w 1]) := rfl
theorem k273_1 : xM273.2.2.2.2.2[1]? = some ([0, 1], [.aload 0, .iload 1, .invokevirtual 224, .invokestatic 388, .goto 3]) := rfl
theorem k273_2 : xM273.2.2.2.2.2[2]? = some ([], [.iconst 0, .goto_w 3]) := rfl
theorem k273_3 : xM273.2.2.2.2.2[3]? = some ([], [.ireturn]) := rfl
theorem k274_0 : xM274.2.2.2.2.2[0]? = some ([0, 1], [.aload 0, .iload 1, .invokevirtual 242, .ifCond .ne 2, .goto_w 1]) := rfl
theorem k274_1 : xM274.2.2.2.2.2[1]? = some ([], [.iconst 0, .ireturn]) := rfl
theorem k274_2 : xM274.2.2.2.2.2[2]? = some ([0, 1], [.iconst 0, .istore 2, .iconst 1, .istore 3, .goto_w 3]) := rfl
theorem k274_3 : xM274.2.2.2.2.2[3]? = some ([0, 1, 2, 3], [.iload 3, .iconst 26, .if_icmp .gt 17, .goto_w 4]) := rfl
theorem k274_4 : xM274.2.2.2.2.2[4]? = some ([0, 1, 2, 3], [.iconst 0, .istore 4, .iconst 0, .istore 5, .goto_w 5]) := rfl
theorem k274_5 : xM274.2.2.2.2.2[5]? = some ([0, 1, 2, 3, 4, 5], [.iload 5, .aload 0, .iload 1, .iconst 2, .invokevirtual 204, .if_icmp .ge 10, .goto_w 6]) := rfl
theorem k274_6 : xM274.2.2.2.2.2[6]? = some ([0, 1, 2, 3, 4, 5], [.iload 4, .aload 0, .iload 1, .iconst 4, .iload 5, .iadd, .invokevirtual 204, .iconst 96, .iload 3, .iadd, .if_icmp .ne 8, .goto_w 7]) := rfl
theorem k274_7 : xM274.2.2.2.2.2[7]? = some ([0, 1, 2, 3, 5], [.iconst 1, .goto 9]) := rfl
theorem k274_8 : xM274.2.2.2.2.2[8]? = some ([0, 1, 2, 3, 5], [.iconst 0, .goto_w 9]) := rfl
theorem k274_9 : xM274.2.2.2.2.2[9]? = some ([0, 1, 2, 3, 5], [.iadd, .istore 4, .iinc 5 1, .goto 5]) := rfl
theorem k274_10 : xM274.2.2.2.2.2[10]? = some ([0, 1, 2, 3, 4], [.iconst 0, .istore 5, .goto_w 11]) := rfl
theorem k274_11 : xM274.2.2.2.2.2[11]? = some ([0, 1, 2, 3, 4, 5], [.iload 5, .aload 0, .getfield 353, .iconst 6, .iaload, .if_icmp .ge 16, .goto_w 12]) := rfl
theorem k274_12 : xM274.2.2.2.2.2[12]? = some ([0, 1, 2, 3, 4, 5], [.iload 4, .aload 0, .iload 5, .iconst 0, .invokevirtual 202, .iload 3, .if_icmp .ne 14, .goto_w 13]) := rfl
theorem k274_13 : xM274.2.2.2.2.2[13]? = some ([0, 1, 2, 3, 5], [.iconst 1, .goto 15]) := rfl
theorem k274_14 : xM274.2.2.2.2.2[14]? = some ([0, 1, 2, 3, 5], [.iconst 0, .goto_w 15]) := rfl
theorem k274_15 : xM274.2.2.2.2.2[15]? = some ([0, 1, 2, 3, 5], [.isub, .istore 4, .iinc 5 1, .goto 11]) := rfl
theorem k274_16 : xM274.2.2.2.2.2[16]? = some ([0, 1, 2, 3, 4], [.iload 2, .iconst 0, .iload 4, .invokestatic 385, .iadd, .istore 2, .iinc 3 1, .goto 3]) := rfl
theorem k274_17 : xM274.2.2.2.2.2[17]? = some ([2], [.iload 2, .ireturn]) := rfl
theorem k275_0 : xM275.2.2.2.2.2[0]? = some ([0], [.aload 0, .aload 0, .getfield 358, .iconst 1, .iconst 1, .invokevirtual 176, .ireturn]) := rfl
theorem k276_0 : xM276.2.2.2.2.2[0]? = some ([0], [.aload 0, .invokevirtual 275, .ifCond .ne 2, .goto_w 1]) := rfl
theorem k276_1 : xM276.2.2.2.2.2[1]? = some ([], [.iconst 0, .ireturn]) := rfl
theorem k276_2 : xM276.2.2.2.2.2[2]? = some ([0], [.iconst (-1), .istore 1, .iconst 0, .istore 2, .goto_w 3]) := rfl
theorem k276_3 : xM276.2.2.2.2.2[3]? = some ([0, 1, 2], [.iload 2, .aload 0, .getfield 353, .iconst 7, .iaload, .if_icmp .ge 8, .goto_w 4]) := rfl
theorem k276_4 : xM276.2.2.2.2.2[4]? = some ([0, 1, 2], [.iload 1, .iconst (-1), .if_icmp .eq 6, .goto_w 5]) := rfl
theorem k276_5 : xM276.2.2.2.2.2[5]? = some ([0, 1, 2], [.aload 0, .iload 2, .invokevirtual 224, .aload 0, .iload 1, .invokevirtual 224, .fcmp .l, .ifCond .le 7, .goto_w 6]) := rfl
theorem k276_6 : xM276.2.2.2.2.2[6]? = some ([0, 2], [.iload 2, .istore 1, .goto_w 7]) := rfl
theorem k276_7 : xM276.2.2.2.2.2[7]? = some ([0, 1, 2], [.iinc 2 1, .goto 3]) := rfl
theorem k276_8 : xM276.2.2.2.2.2[8]? = some ([1], [.iload 1, .ireturn]) := rfl
theorem k277_0 : xM277.2.2.2.2.2[0]? = some ([0], [.aload 0, .invokevirtual 275, .ifCond .eq 2, .goto_w 1]) := rfl
theorem k277_1 : xM277.2.2.2.2.2[1]? = some ([0], [.aload 0, .invokevirtual 231, .goto 3]) := rfl
theorem k277_2 : xM277.2.2.2.2.2[2]? = some ([], [.iconst 0, .goto_w 3]) := rfl
theorem k277_3 : xM277.2.2.2.2.2[3]? = some ([], [.ireturn]) := rfl
theorem k278_0 : xM278.2.2.2.2.2[0]? = some ([0], [.aload 0, .invokevirtual 275, .ifCond .ne 2, .goto_w 1]) := rfl
theorem k278_1 : xM278.2.2.2.2.2[1]? = some ([], [.iconst 0, .ireturn]) := rfl
theorem k278_2 : xM278.2.2.2.2.2[2]? = some ([0], [.iconst (-1), .istore 1, .iconst 0, .istore 2, .goto_w 3]) := rfl
theorem k278_3 : xM278.2.2.2.2.2[3]? = some ([0, 1, 2], [.iload 2, .aload 0, .getfield 353, .iconst 6, .iaload, .if_icmp .ge 8, .goto_w 4]) := rfl
theorem k278_4 : xM278.2.2.2.2.2[4]? = some ([0, 1, 2], [.iload 1, .iconst (-1), .if_icmp .eq 6, .goto_w 5]) := rfl
theorem k278_5 : xM278.2.2.2.2.2[5]? = some ([0, 1, 2], [.aload 0, .iload 2, .iconst 4, .invokevirtual 202, .aload 0, .iload 1, .iconst 4, .invokevirtual 202, .if_icmp .ge 7, .goto_w 6]) := rfl
theorem k278_6 : xM278.2.2.2.2.2[6]? = some ([0, 2], [.iload 2, .istore 1, .goto_w 7]) := rfl
theorem k278_7 : xM278.2.2.2.2.2[7]? = some ([0, 1, 2], [.iinc 2 1, .goto 3]) := rfl
theorem k278_8 : xM278.2.2.2.2.2[8]? = some ([1], [.iload 1, .ireturn]) := rfl
theorem k279_0 : xM279.2.2.2.2.2[0]? = some ([0], [.aload 0, .invokevirtual 275, .ifCond .ne 2, .goto_w 1]) := rfl
theorem k279_1 : xM279.2.2.2.2.2[1]? = some ([], [.iconst 0, .ireturn]) := rfl
theorem k279_2 : xM279.2.2.2.2.2[2]? = some ([0], [.iconst (-1), .istore 1, .iconst 1, .istore 2, .goto_w 3]) := rfl
theorem k279_3 : xM279.2.2.2.2.2[3]? = some ([0, 1, 2], [.iload 2, .aload 0, .getfield 353, .iconst 6, .iaload, .if_icmp .ge 8, .goto_w 4]) := rfl
theorem k279_4 : xM279.2.2.2.2.2[4]? = some ([0, 1, 2], [.iload 1, .iconst (-1), .if_icmp .eq 6, .goto_w 5]) := rfl
theorem k279_5 : xM279.2.2.2.2.2[5]? = some ([0, 1, 2], [.aload 0, .iload 2, .invokevirtual 211, .aload 0, .iload 1, .invokevirtual 211, .if_icmp .le 7, .goto_w 6]) := rfl
theorem k279_6 : xM279.2.2.2.2.2[6]? = some ([0, 2], [.iload 2, .istore 1, .goto_w 7]) := rfl
theorem k279_7 : xM279.2.2.2.2.2[7]? = some ([0, 1, 2], [.iinc 2 1, .goto 3]) := rfl
theorem k279_8 : xM279.2.2.2.2.2[8]? = some ([1], [.iload 1, .ireturn]) := rfl
theorem k280_0 : xM280.2.2.2.2.2[0]? = some ([0], [.aload 0, .invokevirtual 275, .ifCond .eq 2, .goto_w 1]) := rfl
theorem k280_1 : xM280.2.2.2.2.2[1]? = some ([0], [.aload 0, .getfield 353, .iconst 6, .iaload, .iconst 2, .if_icmp .ge 3, .goto_w 2]) := rfl
theorem k280_2 : xM280.2.2.2.2.2[2]? = some ([], [.iconst 0, .ireturn]) := rfl
theorem k280_3 : xM280.2.2.2.2.2[3]? = some ([0], [.aload 0, .iconst 0, .iconst 1, .invokevirtual 202, .aload 0, .aload 0, .getfield 353, .iconst 6, .iaload, .iconst 1, .isub, .iconst 1, .invokevirtual 202, .isub, .ireturn]) := rfl
theorem k281_0 : xM281.2.2.2.2.2[0]? = some ([0], [.iconst 0, .istore 1, .iconst 0, .istore 2, .goto_w 1]) := rfl
theorem k281_1 : xM281.2.2.2.2.2[1]? = some ([0, 1, 2], [.iload 2, .aload 0, .getfield 353, .iconst 6, .iaload, .if_icmp .ge 3, .goto_w 2]) := rfl
theorem k281_2 : xM281.2.2.2.2.2[2]? = some ([0, 1, 2], [.iload 1, .aload 0, .iload 2, .iconst 4, .invokevirtual 202, .iadd, .istore 1, .iinc 2 1, .goto 1]) := rfl
theorem k281_3 : xM281.2.2.2.2.2[3]? = some ([0, 1], [.aload 0, .getfield 353, .iconst 6, .iaload, .ifCond .ne 5, .goto_w 4]) := rfl
theorem k281_4 : xM281.2.2.2.2.2[4]? = some ([], [.dconst 0, .goto 6]) := rfl
theorem k281_5 : xM281.2.2.2.2.2[5]? = some ([0, 1], [.iload 1, .i2d, .aload 0, .getfield 353, .iconst 6, .iaload, .i2d, .ddiv, .goto_w 6]) := rfl
theorem k281_6 : xM281.2.2.2.2.2[6]? = some ([], [.dreturn]) := rfl
theorem k282_0 : xM282.2.2.2.2.2[0]? = some ([0], [.aload 0, .invokevirtual 275, .ifCond .eq 2, .goto_w 1]) := rfl
theorem k282_1 : xM282.2.2.2.2.2[1]? = some ([0], [.aload 0, .invokevirtual 281, .goto 3]) := rfl
theorem k282_2 : xM282.2.2.2.2.2[2]? = some ([], [.dconst 0, .goto_w 3]) := rfl
theorem k282_3 : xM282.2.2.2.2.2[3]? = some ([], [.dreturn]) := rfl
theorem k283_0 : xM283.2.2.2.2.2[0]? = some ([0], [.aload 0, .invokevirtual 275, .ifCond .eq 2, .goto_w 1]) := rfl
theorem k283_1 : xM283.2.2.2.2.2[1]? = some ([0], [.aload 0, .invokevirtual 281, .invokestatic 390, .goto 3]) := rfl
theorem k283_2 : xM283.2.2.2.2.2[2]? = some ([], [.lconst 0, .goto_w 3]) := rfl
theorem k283_3 : xM283.2.2.2.2.2[3]? = some ([], [.lreturn]) := rfl
theorem k284_0 : xM284.2.2.2.2.2[0]? = some ([0], [.aload 0, .getfield 353, .iconst 0, .aload 0, .getfield 354, .iconst 0, .invokestatic 178, .return_]) := rfl
theorem k285_0 : xM285.2.2.2.2.2[0]? = some ([0, 1], [.aload 0, .getfield 354, .iconst 0, .aload 0, .getfield 353, .iconst 0, .invokestatic 178, .iload 1, .ireturn]) := rfl
theorem k286_0 : xM286.2.2.2.2.2[0]? = some ([0, 1], [.aload 0, .getfield 354, .iconst 0, .aload 0, .getfield 353, .iconst 0, .invokestatic 178, .fload 1, .freturn]) := rfl
theorem k287_0 : xM287.2.2.2.2.2[0]? = some ([0, 1], [.aload 0, .iload 1, .invokevirtual 242, .ifCond .ne 2, .goto_w 1]) := rfl
theorem k287_1 : xM287.2.2.2.2.2[1]? = some ([], [.iconst 0, .ireturn]) := rfl
theorem k287_2 : xM287.2.2.2.2.2[2]? = some ([0, 1], [.aload 0, .invokevirtual 284, .iconst 0, .istore 2, .goto_w 3]) := rfl
theorem k287_3 : xM287.2.2.2.2.2[3]? = some ([0, 1, 2], [.iload 2, .iconst 300, .if_icmp .gt 7, .goto_w 4]) := rfl
theorem k287_4 : xM287.2.2.2.2.2[4]? = some ([0, 1, 2], [.aload 0, .iload 1, .invokevirtual 223, .ifCond .eq 6, .goto_w 5]) := rfl
theorem k287_5 : xM287.2.2.2.2.2[5]? = some ([0, 2], [.aload 0, .iload 2, .invokevirtual 285, .ireturn]) := rfl
theorem k287_6 : xM287.2.2.2.2.2[6]? = some ([0, 1, 2], [.aload 0, .invokevirtual 228, .iinc 2 1, .goto 3]) := rfl
theorem k287_7 : xM287.2.2.2.2.2[7]? = some ([0], [.aload 0, .iconst (-1), .invokevirtual 285, .ireturn]) := rfl
theorem k288_0 : xM288.2.2.2.2.2[0]? = some ([0, 1], [.iconst 1, .istore 2, .iconst 0, .istore 3, .goto_w 1]) := rfl
theorem k288_1 : xM288.2.2.2.2.2[1]? = some ([0, 1, 2, 3], [.iload 3, .aload 0, .getfield 353, .iconst 6, .iaload, .if_icmp .ge 6, .goto_w 2]) := rfl
theorem k288_2 : xM288.2.2.2.2.2[2]? = some ([0, 1, 2, 3], [.iload 2, .aload 0, .iload 3, .iconst 1, .invokevirtual 202, .aload 0, .iload 1, .iconst 1, .invokevirtual 204, .aload 0, .getfield 353, .iconst 1, .iaload, .iadd, .if_icmp .le 4, .goto_w 3]) := rfl
theorem k288_3 : xM288.2.2.2.2.2[3]? = some ([0, 1, 3], [.iconst 1, .goto 5]) := rfl
theorem k288_4 : xM288.2.2.2.2.2[4]? = some ([0, 1, 3], [.iconst 0, .goto_w 5]) := rfl
theorem k288_5 : xM288.2.2.2.2.2[5]? = some ([0, 1, 3], [.iand, .istore 2, .iinc 3 1, .goto 1]) := rfl
theorem k288_6 : xM288.2.2.2.2.2[6]? = some ([2], [.iload 2, .ireturn]) := rfl
theorem k289_0 : xM289.2.2.2.2.2[0]? = some ([0, 1], [.aload 0, .iload 1, .invokevirtual 242, .ifCond .ne 2, .goto_w 1]) := rfl
theorem k289_1 : xM289.2.2.2.2.2[1]? = some ([], [.iconst 0, .ireturn]) := rfl
theorem k289_2 : xM289.2.2.2.2.2[2]? = some ([0, 1], [.aload 0, .invokevirtual 284, .iconst 0, .istore 2, .goto_w 3]) := rfl
theorem k289_3 : xM289.2.2.2.2.2[3]? = some ([0, 1, 2], [.iload 2, .iconst 300, .if_icmp .gt 7, .goto_w 4]) := rfl
theorem k289_4 : xM289.2.2.2.2.2[4]? = some ([0, 1, 2], [.aload 0, .iload 1, .invokevirtual 288, .ifCond .eq 6, .goto_w 5]) := rfl
theorem k289_5 : xM289.2.2.2.2.2[5]? = some ([0, 2], [.aload 0, .iload 2, .invokevirtual 285, .ireturn]) := rfl
theorem k289_6 : xM289.2.2.2.2.2[6]? = some ([0, 1, 2], [.aload 0, .invokevirtual 228, .iinc 2 1, .goto 3]) := rfl
theorem k289_7 : xM289.2.2.2.2.2[7]? = some ([0], [.aload 0, .iconst (-1), .invokevirtual 285, .ireturn]) := rfl
theorem k290_0 : xM290.2.2.2.2.2[0]? = some ([0], [.iload 0, .iconst 0, .iconst 300, .invokestatic 175, .ireturn]) := rfl
theorem k291_0 : xM291.2.2.2.2.2[0]? = some ([0, 1, 2, 3], [.aload 0, .iload 1, .iload 2, .invokestatic 290, .invokevirtual 243, .ifCond .ne 2, .goto_w 1]) := rfl
theorem k291_1 : xM291.2.2.2.2.2[1]? = some ([], [.iconst 0, .ireturn]) := rfl
theorem k291_2 : xM291.2.2.2.2.2[2]? = some ([0, 1, 2, 3], [.aload 0, .invokevirtual 284, .aload 0, .iload 2, .invokevirtual 229, .aload 0, .aload 0, .iload 1, .iload 3, .invokevirtual 202, .invokevirtual 285, .ireturn]) := rfl
theorem k292_0 : xM292.2.2.2.2.2[0]? = some ([0, 1, 2], [.aload 0, .iload 1, .iload 2, .iconst 1, .invokevirtual 291, .ireturn]) := rfl
theorem k293_0 : xM293.2.2.2.2.2[0]? = some ([0, 1, 2], [.aload 0, .iload 1, .iload 2, .iconst 4, .invokevirtual 291, .ireturn]) := rfl
theorem k294_0 : xM294.2.2.2.2.2[0]? = some ([0, 1, 2], [.aload 0, .iload 1, .iload 2, .iconst 0, .invokevirtual 291, .ireturn]) := rfl
theorem k295_0 : xM295.2.2.2.2.2[0]? = some ([0, 1], [.aload 0, .aload 0, .getfield 358, .iload 1, .invokestatic 290, .invokevirtual 177, .ifCond .ne 2, .goto_w 1]) := rfl
theorem k295_1 : xM295.2.2.2.2.2[1]? = some ([], [.iconst 0, .ireturn]) := rfl
theorem k295_2 : xM295.2.2.2.2.2[2]? = some ([0, 1], [.aload 0, .invokevirtual 284, .aload 0, .iload 1, .invokevirtual 229, .aload 0, .aload 0, .getfield 353, .iconst 13, .iaload, .aload 0, .getfield 354, .iconst 13, .iaload, .isub, .invokevirtual 285, .ireturn]) := rfl
theorem k296_0 : xM296.2.2.2.2.2[0]? = some ([0], [.aload 0, .invokevirtual 275, .ifCond .ne 2, .goto_w 1]) := rfl
theorem k296_1 : xM296.2.2.2.2.2[1]? = some ([], [.iconst 0, .ireturn]) := rfl
theorem k296_2 : xM296.2.2.2.2.2[2]? = some ([0], [.aload 0, .invokevirtual 284, .iconst 1, .istore 1, .goto_w 3]) := rfl
theorem k296_3 : xM296.2.2.2.2.2[3]? = some ([0, 1], [.iload 1, .iconst 300, .if_icmp .gt 7, .goto_w 4]) := rfl
theorem k296_4 : xM296.2.2.2.2.2[4]? = some ([0, 1], [.aload 0, .invokevirtual 228, .aload 0, .getfield 353, .iconst 13, .iaload, .aload 0, .getfield 354, .iconst 13, .iaload, .if_icmp .le 6, .goto_w 5]) := rfl
theorem k296_5 : xM296.2.2.2.2.2[5]? = some ([0, 1], [.aload 0, .iload 1, .invokevirtual 285, .ireturn]) := rfl
theorem k296_6 : xM296.2.2.2.2.2[6]? = some ([0, 1], [.iinc 1 1, .goto 3]) := rfl
theorem k296_7 : xM296.2.2.2.2.2[7]? = some ([0], [.aload 0, .iconst (-1), .invokevirtual 285, .ireturn]) := rfl
theorem k297_0 : xM297.2.2.2.2.2[0]? = some ([0, 1, 2], [.aload 0, .aload 0, .getfield 358, .aload 0, .iload 1, .invokevirtual 209, .iload 2, .invokestatic 290, .invokevirtual 176, .ireturn]) := rfl
theorem k298_0 : xM298.2.2.2.2.2[0]? = some ([0, 1, 2], [.aload 0, .iload 1, .iload 2, .invokevirtual 297, .ifCond .ne 2, .goto_w 1]) := rfl
theorem k298_1 : xM298.2.2.2.2.2[1]? = some ([], [.fconst 0, .freturn]) := rfl
theorem k298_2 : xM298.2.2.2.2.2[2]? = some ([0, 1, 2], [.aload 0, .invokevirtual 284, .aload 0, .iload 2, .invokevirtual 229, .aload 0, .aload 0, .iload 1, .invokevirtual 224, .invokevirtual 286, .freturn]) := rfl
theorem k299_0 : xM299.2.2.2.2.2[0]? = some ([0, 1, 2], [.aload 0, .iload 1, .iload 2, .invokevirtual 297, .ifCond .ne 2, .goto_w 1]) := rfl
theorem k299_1 : xM299.2.2.2.2.2[1]? = some ([], [.fconst 0, .freturn]) := rfl
theorem k299_2 : xM299.2.2.2.2.2[2]? = some ([0, 1, 2], [.aload 0, .invokevirtual 284, .aload 0, .iload 1, .invokevirtual 224, .fstore 3, .iconst 0, .istore 4, .goto_w 3]) := rfl
theorem k299_3 : xM299.2.2.2.2.2[3]? = some ([0, 1, 2, 3, 4], [.iload 4, .iload 2, .if_icmp .ge 5, .goto_w 4]) := rfl
theorem k299_4 : xM299.2.2.2.2.2[4]? = some ([0, 1, 2, 3, 4], [.aload 0, .invokevirtual 228, .fload 3, .aload 0, .iload 1, .invokevirtual 224, .frem, .fstore 3, .iinc 4 1, .goto 3]) := rfl
theorem k299_5 : xM299.2.2.2.2.2[5]? = some ([0, 3], [.aload 0, .fload 3, .invokevirtual 286, .freturn]) := rfl
theorem k300_0 : xM300.2.2.2.2.2[0]? = some ([0, 1], [.aload 0, .iload 1, .invokevirtual 242, .ifCond .ne 2, .goto_w 1]) := rfl
theorem k300_1 : xM300.2.2.2.2.2[1]? = some ([], [.iconst 0, .ireturn]) := rfl
theorem k300_2 : xM300.2.2.2.2.2[2]? = some ([0, 1], [.aload 0, .iload 1, .invokevirtual 224, .fstore 2, .iconst (-1), .istore 3, .iconst 0, .istore 4, .goto_w 3]) := rfl
theorem k300_3 : xM300.2.2.2.2.2[3]? = some ([0, 1, 2, 3, 4], [.iload 4, .iconst 1, .iadd, .aload 0, .getfield 353, .iconst 6, .iaload, .if_icmp .ge 8, .goto_w 4]) := rfl
theorem k300_4 : xM300.2.2.2.2.2[4]? = some ([0, 1, 2, 3, 4], [.aload 0, .iload 4, .invokevirtual 217, .aload 0, .iload 1, .invokevirtual 224, .fstore 5, .aload 0, .iload 4, .invokevirtual 217, .fload 5, .fload 2, .fcmp .g, .ifCond .gt 6, .goto_w 5]) := rfl
theorem k300_5 : xM300.2.2.2.2.2[5]? = some ([0, 1, 2, 3, 4], [.goto 7]) := rfl
theorem k300_6 : xM300.2.2.2.2.2[6]? = some ([0, 1, 4, 5], [.iload 4, .istore 3, .fload 5, .fstore 2, .goto_w 7]) := rfl
theorem k300_7 : xM300.2.2.2.2.2[7]? = some ([0, 1, 2, 3, 4], [.iinc 4 1, .goto 3]) := rfl
theorem k300_8 : xM300.2.2.2.2.2[8]? = some ([3], [.iload 3, .ireturn]) := rfl
theorem k301_0 : xM301.2.2.2.2.2[0]? = some ([0, 1], [.aload 0, .iload 1, .invokevirtual 241, .ifCond .eq 2, .goto_w 1]) := rfl
theorem k301_1 : xM301.2.2.2.2.2[1]? = some ([0, 1], [.iload 1, .ifCond .ne 6, .goto_w 2]) := rfl
theorem k301_2 : xM301.2.2.2.2.2[2]? = some ([0], [.aload 0, .getfield 352, .ifCond .le 4, .goto_w 3]) := rfl
theorem k301_3 : xM301.2.2.2.2.2[3]? = some ([], [.iconst 0, .goto 5]) := rfl
theorem k301_4 : xM301.2.2.2.2.2[4]? = some ([], [.iconst (-1), .goto_w 5]) := rfl
theorem k301_5 : xM301.2.2.2.2.2[5]? = some ([], [.ireturn]) := rfl
theorem k301_6 : xM301.2.2.2.2.2[6]? = some ([0, 1], [.aload 0, .invokevirtual 284, .iconst 0, .istore 2, .goto_w 7]) := rfl
theorem k301_7 : xM301.2.2.2.2.2[7]? = some ([0, 1, 2], [.iload 2, .iconst 300, .if_icmp .gt 11, .goto_w 8]) := rfl
theorem k301_8 : xM301.2.2.2.2.2[8]? = some ([0, 1, 2], [.aload 0, .iload 1, .invokevirtual 211, .aload 0, .getfield 353, .iconst 0, .iaload, .if_icmp .ne 10, .goto_w 9]) := rfl
theorem k301_9 : xM301.2.2.2.2.2[9]? = some ([0, 2], [.aload 0, .iload 2, .invokevirtual 285, .ireturn]) := rfl
theorem k301_10 : xM301.2.2.2.2.2[10]? = some ([0, 1, 2], [.aload 0, .invokevirtual 228, .iinc 2 1, .goto 7]) := rfl
theorem k301_11 : xM301.2.2.2.2.2[11]? = some ([0], [.aload 0, .iconst (-1), .invokevirtual 285, .ireturn]) := rfl
theorem k302_0 : xM302.2.2.2.2.2[0]? = some ([0], [.aload 0, .invokevirtual 275, .ifCond .ne 2, .goto_w 1]) := rfl
theorem k302_1 : xM302.2.2.2.2.2[1]? = some ([], [.iconst 0, .ireturn]) := rfl
theorem k302_2 : xM302.2.2.2.2.2[2]? = some ([0], [.aload 0, .invokevirtual 284, .iconst 0, .istore 1, .goto_w 3]) := rfl
theorem k302_3 : xM302.2.2.2.2.2[3]? = some ([0, 1], [.iload 1, .iconst 50, .if_icmp .gt 10, .goto_w 4]) := rfl
theorem k302_4 : xM302.2.2.2.2.2[4]? = some ([0, 1], [.aload 0, .getfield 353, .iconst 3, .iload 1, .iastore, .aload 0, .iconst 100, .invokevirtual 229, .aload 0, .getfield 353, .iconst 13, .iaload, .aload 0, .getfield 354, .iconst 13, .iaload, .if_icmp .ne 6, .goto_w 5]) := rfl
theorem k302_5 : xM302.2.2.2.2.2[5]? = some ([0, 1], [.iconst 1, .goto 7]) := rfl
theorem k302_6 : xM302.2.2.2.2.2[6]? = some ([0, 1], [.iconst 0, .goto_w 7]) := rfl
theorem k302_7 : xM302.2.2.2.2.2[7]? = some ([0, 1], [.istore 2, .aload 0, .iconst 0, .invokevirtual 285, .istore 3, .iload 2, .ifCond .eq 9, .goto_w 8]) := rfl
theorem k302_8 : xM302.2.2.2.2.2[8]? = some ([1], [.iload 1, .ireturn]) := rfl
theorem k302_9 : xM302.2.2.2.2.2[9]? = some ([0, 1], [.iinc 1 1, .goto 3]) := rfl
theorem k302_10 : xM302.2.2.2.2.2[10]? = some ([], [.iconst (-1), .ireturn]) := rfl
theorem k303_0 : xM303.2.2.2.2.2[0]? = some ([0, 1], [.aload 0, .getfield 372, .aload 0, .getfield 373, .iload 1, .i2b, .bastore, .aload 0, .dup, .getfield 373, .iconst 1, .iadd, .putfield 373, .return_]) := rfl
theorem k304_0 : xM304.2.2.2.2.2[0]? = some ([0, 1], [.iload 1, .iconst 9, .if_icmp .le 2, .goto_w 1]) := rfl
theorem k304_1 : xM304.2.2.2.2.2[1]? = some ([0, 1], [.aload 0, .iload 1, .iconst 10, .idiv, .invokevirtual 304, .goto_w 2]) := rfl
theorem k304_2 : xM304.2.2.2.2.2[2]? = some ([0, 1], [.aload 0, .iconst 48, .iload 1, .iconst 10, .irem, .iadd, .invokevirtual 303, .return_]) := rfl
theorem k305_0 : xM305.2.2.2.2.2[0]? = some ([0, 1], [.aload 0, .iload 1, .invokevirtual 242, .ifCond .ne 2, .goto_w 1]) := rfl
theorem k305_1 : xM305.2.2.2.2.2[1]? = some ([], [.iconst 0, .ireturn]) := rfl
theorem k305_2 : xM305.2.2.2.2.2[2]? = some ([0, 1], [.aload 0, .iload 1, .invokevirtual 220, .aload 0, .iconst 0, .putfield 373, .iconst 0, .istore 2, .goto_w 3]) := rfl
theorem k305_3 : xM305.2.2.2.2.2[3]? = some ([0, 2], [.iload 2, .aload 0, .getfield 370, .if_icmp .ge 5, .goto_w 4]) := rfl
theorem k305_4 : xM305.2.2.2.2.2[4]? = some ([0, 2], [.aload 0, .aload 0, .getfield 369, .iload 2, .iaload, .invokevirtual 303, .iinc 2 1, .goto 3]) := rfl
theorem k305_5 : xM305.2.2.2.2.2[5]? = some ([0], [.aload 0, .getfield 373, .ireturn]) := rfl
theorem k306_0 : xM306.2.2.2.2.2[0]? = some ([0], [.aload 0, .invokevirtual 275, .ifCond .ne 2, .goto_w 1]) := rfl
theorem k306_1 : xM306.2.2.2.2.2[1]? = some ([], [.iconst 0, .ireturn]) := rfl
theorem k306_2 : xM306.2.2.2.2.2[2]? = some ([0], [.aload 0, .iconst 0, .putfield 373, .iconst 0, .istore 1, .goto_w 3]) := rfl
theorem k306_3 : xM306.2.2.2.2.2[3]? = some ([0, 1], [.iload 1, .aload 0, .getfield 353, .iconst 6, .iaload, .if_icmp .ge 8, .goto_w 4]) := rfl
theorem k306_4 : xM306.2.2.2.2.2[4]? = some ([0, 1], [.aload 0, .aload 0, .iload 1, .iconst 0, .invokevirtual 202, .ifCond .le 6, .goto_w 5]) := rfl
theorem k306_5 : xM306.2.2.2.2.2[5]? = some ([0, 1], [.iconst 96, .aload 0, .iload 1, .iconst 0, .invokevirtual 202, .iadd, .goto 7]) := rfl
theorem k306_6 : xM306.2.2.2.2.2[6]? = some ([0, 1], [.iconst 45, .goto_w 7]) := rfl
theorem k306_7 : xM306.2.2.2.2.2[7]? = some ([0, 1], [.invokevirtual 303, .iinc 1 1, .goto 3]) := rfl
theorem k306_8 : xM306.2.2.2.2.2[8]? = some ([0], [.aload 0, .getfield 373, .ireturn]) := rfl
theorem k307_0 : xM307.2.2.2.2.2[0]? = some ([0], [.aload 0, .invokevirtual 275, .ifCond .ne 2, .goto_w 1]) := rfl
theorem k307_1 : xM307.2.2.2.2.2[1]? = some ([], [.iconst 0, .ireturn]) := rfl
theorem k307_2 : xM307.2.2.2.2.2[2]? = some ([0], [.aload 0, .iconst 0, .putfield 373, .iconst 0, .istore 1, .goto_w 3]) := rfl
theorem k307_3 : xM307.2.2.2.2.2[3]? = some ([0, 1], [.iload 1, .aload 0, .getfield 353, .iconst 6, .iaload, .if_icmp .ge 9, .goto_w 4]) := rfl
theorem k307_4 : xM307.2.2.2.2.2[4]? = some ([0, 1], [.iload 1, .ifCond .le 6, .goto_w 5]) := rfl
theorem k307_5 : xM307.2.2.2.2.2[5]? = some ([0, 1], [.aload 0, .iconst 44, .invokevirtual 303, .goto_w 6]) := rfl
theorem k307_6 : xM307.2.2.2.2.2[6]? = some ([0, 1], [.aload 0, .iload 1, .iconst 1, .invokevirtual 202, .ifCond .ge 8, .goto_w 7]) := rfl
theorem k307_7 : xM307.2.2.2.2.2[7]? = some ([0, 1], [.aload 0, .iconst 45, .invokevirtual 303, .goto_w 8]) := rfl
theorem k307_8 : xM307.2.2.2.2.2[8]? = some ([0, 1], [.aload 0, .aload 0, .iload 1, .iconst 1, .invokevirtual 202, .invokestatic 384, .invokevirtual 304, .iinc 1 1, .goto 3]) := rfl
theorem k307_9 : xM307.2.2.2.2.2[9]? = some ([0], [.aload 0, .getfield 373, .ireturn]) := rfl
theorem k308_0 : xM308.2.2.2.2.2[0]? = some ([0, 1], [.aload 0, .iload 1, .iconst 0, .aload 0, .getfield 373, .iconst 1, .isub, .invokestatic 175, .iconst 1, .iconst 1, .invokevirtual 176, .ifCond .eq 2, .goto_w 1]) := rfl
theorem k308_1 : xM308.2.2.2.2.2[1]? = some ([0, 1], [.aload 0, .getfield 372, .iload 1, .baload, .goto 3]) := rfl
theorem k308_2 : xM308.2.2.2.2.2[2]? = some ([], [.iconst 0, .goto_w 3]) := rfl
theorem k308_3 : xM308.2.2.2.2.2[3]? = some ([], [.ireturn]) := rfl
theorem k309_0 : xM309.2.2.2.2.2[0]? = some ([0], [.aload 0, .getfield 359, .iconst 8, .if_icmp .ne 5, .goto_w 1]) := rfl
theorem k309_1 : xM309.2.2.2.2.2[1]? = some ([0], [.iconst 0, .istore 1, .goto_w 2]) := rfl
theorem k309_2 : xM309.2.2.2.2.2[2]? = some ([0, 1], [.iload 1, .iconst 1701, .if_icmp .ge 4, .goto_w 3]) := rfl
theorem k309_3 : xM309.2.2.2.2.2[3]? = some ([0, 1], [.aload 0, .getfield 355, .iload 1, .aload 0, .getfield 355, .iload 1, .iconst 243, .iadd, .iaload, .iastore, .iinc 1 1, .goto 2]) := rfl
theorem k309_4 : xM309.2.2.2.2.2[4]? = some ([0], [.aload 0, .dup, .getfield 359, .iconst 1, .isub, .putfield 359, .goto_w 5]) := rfl
theorem k309_5 : xM309.2.2.2.2.2[5]? = some ([0], [.aload 0, .getfield 353, .iconst 0, .aload 0, .getfield 355, .aload 0, .getfield 359, .iconst 243, .imul, .invokestatic 178, .aload 0, .dup, .getfield 359, .iconst 1, .iadd, .putfield 359, .return_]) := rfl
theorem k310_0 : xM310.2.2.2.2.2[0]? = some ([0, 1], [.aload 0, .aload 0, .getfield 358, .iload 1, .iconst 1, .iconst 100, .invokestatic 175, .ifCond .eq 3, .goto_w 1]) := rfl
theorem k310_1 : xM310.2.2.2.2.2[1]? = some ([0, 1], [.aload 0, .getfield 353, .iconst 9, .iaload, .iload 1, .iadd, .iconst 5000, .if_icmp .gt 3, .goto_w 2]) := rfl
theorem k310_2 : xM310.2.2.2.2.2[2]? = some ([0, 1], [.iconst 1, .goto 4]) := rfl
theorem k310_3 : xM310.2.2.2.2.2[3]? = some ([0, 1], [.iconst 0, .goto_w 4]) := rfl
theorem k310_4 : xM310.2.2.2.2.2[4]? = some ([0, 1], [.invokevirtual 177, .ifCond .ne 6, .goto_w 5]) := rfl
theorem k310_5 : xM310.2.2.2.2.2[5]? = some ([], [.iconst 0, .ireturn]) := rfl
theorem k310_6 : xM310.2.2.2.2.2[6]? = some ([0, 1], [.aload 0, .invokevirtual 309, .aload 0, .invokevirtual 232, .istore 2, .aload 0, .iload 1, .invokevirtual 229, .aload 0, .invokevirtual 232, .iload 2, .isub, .ireturn]) := rfl
theorem k311_0 : xM311.2.2.2.2.2[0]? = some ([0, 1], [.aload 0, .getfield 358, .ifCond .eq 3, .goto_w 1]) := rfl
theorem k311_1 : xM311.2.2.2.2.2[1]? = some ([0, 1], [.aload 0, .iload 1, .invokevirtual 208, .ifCond .eq 3, .goto_w 2]) := rfl
theorem k311_2 : xM311.2.2.2.2.2[2]? = some ([0, 1], [.iconst 1, .goto 4]) := rfl
theorem k311_3 : xM311.2.2.2.2.2[3]? = some ([0, 1], [.iconst 0, .goto_w 4]) := rfl
theorem k311_4 : xM311.2.2.2.2.2[4]? = some ([0, 1], [.istore 2, .aload 0, .aload 0, .getfield 358, .iload 2, .iload 2, .ifCond .eq 7, .goto_w 5]) := rfl
theorem k311_5 : xM311.2.2.2.2.2[5]? = some ([0, 1], [.aload 0, .iload 1, .invokevirtual 216, .ifCond .eq 7, .goto_w 6]) := rfl
theorem k311_6 : xM311.2.2.2.2.2[6]? = some ([0, 1], [.iconst 1, .goto 8]) := rfl
theorem k311_7 : xM311.2.2.2.2.2[7]? = some ([0, 1], [.iconst 0, .goto_w 8]) := rfl
theorem k311_8 : xM311.2.2.2.2.2[8]? = some ([0, 1], [.invokevirtual 176, .ifCond .ne 10, .goto_w 9]) := rfl
theorem k311_9 : xM311.2.2.2.2.2[9]? = some ([], [.iconst 0, .ireturn]) := rfl
theorem k311_10 : xM311.2.2.2.2.2[10]? = some ([0, 1], [.aload 0, .invokevirtual 309, .aload 0, .iload 1, .invokevirtual 218, .aload 0, .iload 1, .iconst 0, .invokevirtual 202, .ireturn]) := rfl
theorem k312_0 : xM312.2.2.2.2.2[0]? = some ([0, 1], [.aload 0, .getfield 358, .ifCond .eq 3, .goto_w 1]) := rfl
theorem k312_1 : xM312.2.2.2.2.2[1]? = some ([0, 1], [.aload 0, .iload 1, .invokevirtual 208, .ifCond .eq 3, .goto_w 2]) := rfl
theorem k312_2 : xM312.2.2.2.2.2[2]? = some ([0, 1], [.iconst 1, .goto 4]) := rfl
theorem k312_3 : xM312.2.2.2.2.2[3]? = some ([0, 1], [.iconst 0, .goto_w 4]) := rfl
theorem k312_4 : xM312.2.2.2.2.2[4]? = some ([0, 1], [.istore 2, .aload 0, .aload 0, .getfield 358, .iload 2, .iload 2, .ifCond .eq 7, .goto_w 5]) := rfl
theorem k312_5 : xM312.2.2.2.2.2[5]? = some ([0, 1], [.aload 0, .iload 1, .iconst 0, .invokevirtual 202, .ifCond .le 7, .goto_w 6]) := rfl
theorem k312_6 : xM312.2.2.2.2.2[6]? = some ([0, 1], [.iconst 1, .goto 8]) := rfl
theorem k312_7 : xM312.2.2.2.2.2[7]? = some ([0, 1], [.iconst 0, .goto_w 8]) := rfl
theorem k312_8 : xM312.2.2.2.2.2[8]? = some ([0, 1], [.invokevirtual 176, .ifCond .ne 10, .goto_w 9]) := rfl
theorem k312_9 : xM312.2.2.2.2.2[9]? = some ([], [.iconst 0, .ireturn]) := rfl
theorem k312_10 : xM312.2.2.2.2.2[10]? = some ([0, 1], [.aload 0, .invokevirtual 309, .aload 0, .iload 1, .invokevirtual 213, .aload 0, .getfield 353, .iconst 10, .iaload, .ireturn]) := rfl
theorem k313_0 : xM313.2.2.2.2.2[0]? = some ([0, 1], [.aload 0, .getfield 358, .ifCond .eq 3, .goto_w 1]) := rfl
theorem k313_1 : xM313.2.2.2.2.2[1]? = some ([0, 1], [.aload 0, .iload 1, .invokevirtual 208, .ifCond .eq 3, .goto_w 2]) := rfl
theorem k313_2 : xM313.2.2.2.2.2[2]? = some ([0, 1], [.iconst 1, .goto 4]) := rfl
theorem k313_3 : xM313.2.2.2.2.2[3]? = some ([0, 1], [.iconst 0, .goto_w 4]) := rfl
theorem k313_4 : xM313.2.2.2.2.2[4]? = some ([0, 1], [.istore 2, .iload 2, .ifCond .eq 6, .goto_w 5]) := rfl
theorem k313_5 : xM313.2.2.2.2.2[5]? = some ([0, 1, 2], [.aload 0, .aload 0, .iload 1, .iconst 1, .invokevirtual 202, .aload 0, .iload 1, .iconst 1, .invokevirtual 202, .invokevirtual 215, .goto 7]) := rfl
theorem k313_6 : xM313.2.2.2.2.2[6]? = some ([0, 1, 2], [.iconst (-1), .goto_w 7]) := rfl
theorem k313_7 : xM313.2.2.2.2.2[7]? = some ([0, 1, 2], [.istore 3, .aload 0, .aload 0, .getfield 358, .iload 2, .iload 2, .ifCond .eq 12, .goto_w 8]) := rfl
theorem k313_8 : xM313.2.2.2.2.2[8]? = some ([0, 1, 3], [.aload 0, .iload 1, .iconst 0, .invokevirtual 202, .ifCond .ne 12, .goto_w 9]) := rfl
theorem k313_9 : xM313.2.2.2.2.2[9]? = some ([0, 1, 3], [.aload 0, .iload 1, .iconst 4, .invokevirtual 202, .aload 0, .getfield 353, .iconst 4, .iaload, .if_icmp .lt 12, .goto_w 10]) := rfl
theorem k313_10 : xM313.2.2.2.2.2[10]? = some ([0, 1, 3], [.iload 3, .iconst (-1), .if_icmp .eq 12, .goto_w 11]) := rfl
theorem k313_11 : xM313.2.2.2.2.2[11]? = some ([0, 1, 3], [.iconst 1, .goto 13]) := rfl
theorem k313_12 : xM313.2.2.2.2.2[12]? = some ([0, 1, 3], [.iconst 0, .goto_w 13]) := rfl
theorem k313_13 : xM313.2.2.2.2.2[13]? = some ([0, 1, 3], [.invokevirtual 176, .ifCond .ne 15, .goto_w 14]) := rfl
theorem k313_14 : xM313.2.2.2.2.2[14]? = some ([], [.iconst 0, .ireturn]) := rfl
theorem k313_15 : xM313.2.2.2.2.2[15]? = some ([0, 1, 3], [.aload 0, .invokevirtual 309, .aload 0, .iload 1, .iload 3, .invokevirtual 214, .aload 0, .iload 1, .iconst 0, .invokevirtual 202, .ireturn]) := rfl
theorem k314_0 : xM314.2.2.2.2.2[0]? = some ([0, 1, 2], [.aload 0, .iload 1, .iload 2, .iconst (-100), .iconst 100, .invokestatic 175, .invokevirtual 243, .ifCond .ne 2, .goto_w 1]) := rfl
theorem k314_1 : xM314.2.2.2.2.2[1]? = some ([], [.iconst 0, .ireturn]) := rfl
theorem k314_2 : xM314.2.2.2.2.2[2]? = some ([0, 1, 2], [.aload 0, .invokevirtual 309, .aload 0, .iload 1, .iload 2, .invokevirtual 212, .aload 0, .iload 1, .iconst 4, .invokevirtual 202, .ireturn]) := rfl
theorem k315_0 : xM315.2.2.2.2.2[0]? = some ([0, 1], [.aload 0, .aload 0, .getfield 358, .iload 1, .iconst 1, .iconst 100, .invokestatic 175, .invokevirtual 177, .ifCond .ne 2, .goto_w 1]) := rfl
theorem k315_1 : xM315.2.2.2.2.2[1]? = some ([], [.iconst 0, .ireturn]) := rfl
theorem k315_2 : xM315.2.2.2.2.2[2]? = some ([0, 1], [.aload 0, .invokevirtual 309, .iconst 0, .istore 2, .iconst 0, .istore 3, .goto_w 3]) := rfl
theorem k315_3 : xM315.2.2.2.2.2[3]? = some ([0, 1, 2, 3], [.iload 3, .aload 0, .getfield 353, .iconst 6, .iaload, .if_icmp .ge 5, .goto_w 4]) := rfl
theorem k315_4 : xM315.2.2.2.2.2[4]? = some ([0, 1, 2, 3], [.aload 0, .iload 3, .iload 1, .invokevirtual 212, .iload 2, .aload 0, .iload 3, .iconst 4, .invokevirtual 202, .iadd, .istore 2, .iinc 3 1, .goto 3]) := rfl
theorem k315_5 : xM315.2.2.2.2.2[5]? = some ([2], [.iload 2, .ireturn]) := rfl
theorem k316_0 : xM316.2.2.2.2.2[0]? = some ([0, 1, 2], [.aload 0, .iload 1, .iload 2, .iconst 1, .iconst 200, .invokestatic 175, .invokevirtual 243, .ifCond .ne 2, .goto_w 1]) := rfl
theorem k316_1 : xM316.2.2.2.2.2[1]? = some ([], [.iconst 0, .ireturn]) := rfl
theorem k316_2 : xM316.2.2.2.2.2[2]? = some ([0, 1, 2], [.aload 0, .invokevirtual 309, .aload 0, .iload 1, .iconst 2, .invokevirtual 202, .istore 3, .aload 0, .iload 1, .iconst 2, .iload 2, .invokevirtual 203, .iload 3, .ireturn]) := rfl
theorem k317_0 : xM317.2.2.2.2.2[0]? = some ([0, 1, 2], [.aload 0, .iload 2, .iload 1, .aload 0, .getfield 353, .iconst 9, .iaload, .if_icmp .le 5, .goto_w 1]) := rfl
theorem k317_1 : xM317.2.2.2.2.2[1]? = some ([0, 1, 2], [.iload 1, .iconst 5000, .if_icmp .gt 5, .goto_w 2]) := rfl
theorem k317_2 : xM317.2.2.2.2.2[2]? = some ([0, 1, 2], [.iload 2, .aload 0, .getfield 353, .iconst 6, .iaload, .iconst 1, .isub, .if_icmp .ge 5, .goto_w 3]) := rfl
theorem k317_3 : xM317.2.2.2.2.2[3]? = some ([0, 1, 2], [.aload 0, .getfield 353, .iconst 8, .iaload, .iconst 12, .if_icmp .ge 5, .goto_w 4]) := rfl
theorem k317_4 : xM317.2.2.2.2.2[4]? = some ([0, 1, 2], [.iconst 1, .goto 6]) := rfl
theorem k317_5 : xM317.2.2.2.2.2[5]? = some ([0, 1, 2], [.iconst 0, .goto_w 6]) := rfl
theorem k317_6 : xM317.2.2.2.2.2[6]? = some ([0, 1, 2], [.invokevirtual 243, .ifCond .ne 8, .goto_w 7]) := rfl
theorem k317_7 : xM317.2.2.2.2.2[7]? = some ([], [.iconst 0, .ireturn]) := rfl
theorem k317_8 : xM317.2.2.2.2.2[8]? = some ([0, 1, 2], [.aload 0, .invokevirtual 309, .aload 0, .iload 1, .iload 2, .invokevirtual 199, .aload 0, .getfield 353, .iconst 8, .iaload, .iconst 1, .isub, .ireturn]) := rfl
theorem k318_0 : xM318.2.2.2.2.2[0]? = some ([0, 1, 2], [.aload 0, .aload 0, .getfield 358, .iload 1, .iconst 0, .iconst 5, .invokestatic 175, .ifCond .eq 3, .goto_w 1]) := rfl
theorem k318_1 : xM318.2.2.2.2.2[1]? = some ([0, 1, 2], [.iload 2, .iload 1, .invokestatic 192, .iload 1, .invokestatic 193, .invokestatic 175, .ifCond .eq 3, .goto_w 2]) := rfl
theorem k318_2 : xM318.2.2.2.2.2[2]? = some ([0, 1, 2], [.iconst 1, .goto 4]) := rfl
theorem k318_3 : xM318.2.2.2.2.2[3]? = some ([0, 1, 2], [.iconst 0, .goto_w 4]) := rfl
theorem k318_4 : xM318.2.2.2.2.2[4]? = some ([0, 1, 2], [.invokevirtual 177, .ifCond .ne 6, .goto_w 5]) := rfl
theorem k318_5 : xM318.2.2.2.2.2[5]? = some ([], [.iconst 0, .ireturn]) := rfl
theorem k318_6 : xM318.2.2.2.2.2[6]? = some ([0, 1, 2], [.aload 0, .invokevirtual 309, .aload 0, .getfield 353, .iload 1, .iaload, .istore 3, .aload 0, .getfield 353, .iload 1, .iload 2, .iastore, .iload 3, .ireturn]) := rfl
theorem k319_0 : xM319.2.2.2.2.2[0]? = some ([0], [.aload 0, .aload 0, .getfield 359, .ifCond .le 2, .goto_w 1]) := rfl
theorem k319_1 : xM319.2.2.2.2.2[1]? = some ([0], [.iconst 1, .goto 3]) := rfl
theorem k319_2 : xM319.2.2.2.2.2[2]? = some ([0], [.iconst 0, .goto_w 3]) := rfl
theorem k319_3 : xM319.2.2.2.2.2[3]? = some ([0], [.iconst 1, .iconst 1, .invokevirtual 176, .ifCond .ne 5, .goto_w 4]) := rfl
theorem k319_4 : xM319.2.2.2.2.2[4]? = some ([], [.iconst 0, .ireturn]) := rfl
theorem k319_5 : xM319.2.2.2.2.2[5]? = some ([0], [.aload 0, .dup, .getfield 359, .iconst 1, .isub, .putfield 359, .aload 0, .getfield 355, .aload 0, .getfield 359, .iconst 243, .imul, .aload 0, .getfield 353, .iconst 0, .invokestatic 178, .aload 0, .getfield 359, .ireturn]) := rfl
theorem k320_0 : xM320.2.2.2.2.2[0]? = some ([0], [.aload 0, .iconst 0, .putfield 352, .aload 0, .getfield 359, .ireturn]) := rfl
theorem k321_0 : xM321.2.2.2.2.2[0]? = some ([0, 1], [.aload 0, .aload 0, .getfield 358, .iload 1, .iconst 0, .iconst 1, .invokestatic 175, .invokevirtual 177, .ifCond .ne 2, .goto_w 1]) := rfl
theorem k321_1 : xM321.2.2.2.2.2[1]? = some ([], [.iconst 0, .ireturn]) := rfl
theorem k321_2 : xM321.2.2.2.2.2[2]? = some ([0, 1], [.aload 0, .getfield 353, .iconst 0, .aload 0, .getfield 356, .iload 1, .iconst 243, .imul, .invokestatic 178, .aload 0, .getfield 357, .iload 1, .iconst 1, .bastore, .aload 0, .getfield 353, .iconst 9, .iaload, .ireturn]) := rfl
theorem k322_0 : xM322.2.2.2.2.2[0]? = some ([0, 1], [.iload 1, .iconst 0, .iconst 1, .invokestatic 175, .istore 2, .aload 0, .iload 2, .iload 2, .ifCond .eq 3, .goto_w 1]) := rfl
theorem k322_1 : xM322.2.2.2.2.2[1]? = some ([0, 1], [.aload 0, .getfield 357, .iload 1, .baload, .ifCond .eq 3, .goto_w 2]) := rfl
theorem k322_2 : xM322.2.2.2.2.2[2]? = some ([0, 1], [.iconst 1, .goto 4]) := rfl
theorem k322_3 : xM322.2.2.2.2.2[3]? = some ([0, 1], [.iconst 0, .goto_w 4]) := rfl
theorem k322_4 : xM322.2.2.2.2.2[4]? = some ([0, 1], [.invokevirtual 177, .ifCond .ne 6, .goto_w 5]) := rfl
theorem k322_5 : xM322.2.2.2.2.2[5]? = some ([], [.iconst 0, .ireturn]) := rfl
theorem k322_6 : xM322.2.2.2.2.2[6]? = some ([0, 1], [.aload 0, .getfield 356, .iload 1, .iconst 243, .imul, .aload 0, .getfield 353, .iconst 0, .invokestatic 178, .aload 0, .iconst 0, .putfield 359, .aload 0, .getfield 353, .iconst 9, .iaload, .ireturn]) := rfl
theorem k383_0 : xM383.2.2.2.2.2[0]? = some ([0], [.iload 0, .iload 0, .iconst 1, .iushr, .iconst 1431655765, .iand, .isub, .istore 0, .iload 0, .iconst 858993459, .iand, .iload 0, .iconst 2, .iushr, .iconst 858993459, .iand, .iadd, .istore 0, .iload 0, .iload 0, .iconst 4, .iushr, .iadd, .iconst 252645135, .iand, .istore 0, .iload 0, .iload 0, .iconst 8, .iushr, .iadd, .istore 0, .iload 0, .iload 0, .iconst 16, .iushr, .iadd, .istore 0, .iload 0, .iconst 63, .iand, .ireturn]) := rfl
theorem k384_0 : xM384.2.2.2.2.2[0]? = some ([0], [.iload 0, .ifCond .ge 2, .goto_w 1]) := rfl
theorem k384_1 : xM384.2.2.2.2.2[1]? = some ([0], [.iload 0, .ineg, .goto 3]) := rfl
theorem k384_2 : xM384.2.2.2.2.2[2]? = some ([0], [.iload 0, .goto_w 3]) := rfl
theorem k384_3 : xM384.2.2.2.2.2[3]? = some ([], [.ireturn]) := rfl
theorem k385_0 : xM385.2.2.2.2.2[0]? = some ([0, 1], [.iload 0, .iload 1, .if_icmp .lt 2, .goto_w 1]) := rfl
theorem k385_1 : xM385.2.2.2.2.2[1]? = some ([0], [.iload 0, .goto 3]) := rfl
theorem k385_2 : xM385.2.2.2.2.2[2]? = some ([1], [.iload 1, .goto_w 3]) := rfl
theorem k385_3 : xM385.2.2.2.2.2[3]? = some ([], [.ireturn]) := rfl
theorem k386_0 : xM386.2.2.2.2.2[0]? = some ([0, 1], [.iload 0, .iload 1, .if_icmp .gt 2, .goto_w 1]) := rfl
theorem k386_1 : xM386.2.2.2.2.2[1]? = some ([0], [.iload 0, .goto 3]) := rfl
theorem k386_2 : xM386.2.2.2.2.2[2]? = some ([1], [.iload 1, .goto_w 3]) := rfl
theorem k386_3 : xM386.2.2.2.2.2[3]? = some ([], [.ireturn]) := rfl
theorem k387_0 : xM387.2.2.2.2.2[0]? = some ([0], [.fload 0, .fload 0, .fcmp .l, .ifCond .eq 2, .goto_w 1]) := rfl
theorem k387_1 : xM387.2.2.2.2.2[1]? = some ([], [.iconst 1, .goto 3]) := rfl
theorem k387_2 : xM387.2.2.2.2.2[2]? = some ([], [.iconst 0, .goto_w 3]) := rfl
theorem k387_3 : xM387.2.2.2.2.2[3]? = some ([], [.ireturn]) := rfl
theorem k388_0 : xM388.2.2.2.2.2[0]? = some ([0], [.fload 0, .invokestatic 387, .ifCond .ne 2, .goto_w 1]) := rfl
theorem k388_1 : xM388.2.2.2.2.2[1]? = some ([0], [.fload 0, .invokedynamic 0, .ireturn]) := rfl
theorem k388_2 : xM388.2.2.2.2.2[2]? = some ([], [.iconst 2143289344, .ireturn]) := rfl
theorem k389_0 : xM389.2.2.2.2.2[0]? = some ([0], [.dload 0, .dload 0, .dcmp .l, .ifCond .eq 2, .goto_w 1]) := rfl
theorem k389_1 : xM389.2.2.2.2.2[1]? = some ([], [.iconst 1, .goto 3]) := rfl
theorem k389_2 : xM389.2.2.2.2.2[2]? = some ([], [.iconst 0, .goto_w 3]) := rfl
theorem k389_3 : xM389.2.2.2.2.2[3]? = some ([], [.ireturn]) := rfl
theorem k390_0 : xM390.2.2.2.2.2[0]? = some ([0], [.dload 0, .invokestatic 389, .ifCond .ne 2, .goto_w 1]) := rfl
theorem k390_1 : xM390.2.2.2.2.2[1]? = some ([0], [.dload 0, .invokedynamic 1, .lreturn]) := rfl
theorem k390_2 : xM390.2.2.2.2.2[2]? = some ([], [.jsr 9221120237041090560, .lreturn]) := rfl
theorem k391_0 : xM391.2.2.2.2.2[0]? = some ([0], [.aload 0, .getfield 960, .arraylength, .aload 0, .invokevirtual 393, .ishr, .ireturn]) := rfl
theorem k392_0 : xM392.2.2.2.2.2[0]? = some ([0, 1], [.aload 0, .invokevirtual 394, .ifCond .eq 2, .goto_w 1]) := rfl
theorem k392_1 : xM392.2.2.2.2.2[1]? = some ([0, 1], [.aload 0, .getfield 960, .iload 1, .invokestatic 396, .ireturn]) := rfl
theorem k393_0 : xM393.2.2.2.2.2[0]? = some ([0], [.getstatic 2, .ifCond .eq 2, .goto_w 1]) := rfl
theorem k393_1 : xM393.2.2.2.2.2[1]? = some ([0], [.aload 0, .getfield 961, .goto 3]) := rfl
theorem k393_3 : xM393.2.2.2.2.2[3]? = some ([], [.ireturn]) := rfl
theorem k394_0 : xM394.2.2.2.2.2[0]? = some ([0], [.getstatic 2, .ifCond .eq 3, .goto_w 1]) := rfl
theorem k394_1 : xM394.2.2.2.2.2[1]? = some ([0], [.aload 0, .getfield 961, .ifCond .ne 3, .goto_w 2]) := rfl
theorem k394_2 : xM394.2.2.2.2.2[2]? = some ([], [.iconst 1, .goto 4]) := rfl
theorem k394_4 : xM394.2.2.2.2.2[4]? = some ([], [.ireturn]) := rfl
theorem k395_0 : xM395.2.2.2.2.2[0]? = some ([0, 1], [.iload 0, .iload 1, .getstatic 4, .invokestatic 397, .pop, .return_]) := rfl
theorem k396_0 : xM396.2.2.2.2.2[0]? = some ([0, 1], [.iload 1, .aload 0, .arraylength, .invokestatic 395, .aload 0, .iload 1, .baload, .iconst 255, .iand, .i2c, .ireturn]) := rfl
theorem k397_0 : xM397.2.2.2.2.2[0]? = some ([0, 1, 2], [.iload 0, .ifCond .lt 2, .goto_w 1]) := rfl
theorem k397_1 : xM397.2.2.2.2.2[1]? = some ([0, 1, 2], [.iload 0, .iload 1, .if_icmp .lt 3, .goto_w 2]) := rfl
theorem k397_2 : xM397.2.2.2.2.2[2]? = some ([0, 1, 2], [.aload 2, .iload 0, .iload 1]) := rfl
theorem k397_3 : xM397.2.2.2.2.2[3]? = some ([0], [.iload 0, .ireturn]) := rfl
end
section
/-! Verification conditions over X: locals and stacks whose references carry their kind. -/
abbrev AV : Type := Value ⊕ (Nat × Nat)
abbrev AL : Type := List (Nat × AV)
abbrev vI (x : Int32) : AV := Sum.inl (Value.int x)
abbrev vJ (x : Int64) : AV := Sum.inl (Value.long x)
abbrev vF (x : UInt32) : AV := Sum.inl (Value.float x)
abbrev vD (x : UInt64) : AV := Sum.inl (Value.double x)
abbrev vR (k a : Nat) : AV := Sum.inr (k, a)
def n32 (n : Nat) : Int32 := Int32.ofNat n
def ix (i : Int32) : Nat := i.toNatClampNeg
def xi : Int → Int32
  | .ofNat k => n32 k
  | .negSucc k => -(n32 (k + 1))
theorem xi_eq (n : Int) : xi n = Int32.ofInt n := by
  cases n with
  | ofNat k => rfl
  | negSucc k =>
    show -(Int32.ofNat (k + 1)) = _
    rw [Int.negSucc_eq, Int32.ofInt_neg]; rfl
def cv : AV → Value
  | .inl v => v
  | .inr q => .ref q.2
def cvL (al : AL) : XL := al.map fun q => (q.1, cv q.2)
def cvS (st : List AV) : List Value := st.map cv
def acat : AV → Nat
  | .inl v => v.category
  | .inr _ => 1
theorem cv_cat (v : AV) : (cv v).category = acat v := by cases v <;> rfl
def ak : AL → Nat → Option AV
  | [], _ => none
  | (j, v) :: t, i => match Nat.beq j i with
    | true => some v
    | false => ak t i
def adel : AL → Nat → Nat → AL
  | [], _, _ => []
  | (j, w) :: t, i, n => match Nat.blt j (i + n) && Nat.blt i (j + acat w) with
    | true => adel t i n
    | false => (j, w) :: adel t i n
def ast (al : AL) (i : Nat) (v : AV) : AL := (i, v) :: adel al i (acat v)
def anorm : List Nat → AL → AL
  | [], _ => []
  | k :: t, al => match ak al k with
    | some v => (k, v) :: anorm t al
    | none => anorm t al
theorem ak_cv (al : AL) (i : Nat) : xk (cvL al) i = (ak al i).map cv := by
  induction al with
  | nil => rfl
  | cons q t ih =>
    obtain ⟨j, v⟩ := q
    show (if j = i then some (cv v) else xk (cvL t) i) = _
    unfold ak
    cases h : Nat.beq j i with
    | true => rw [if_pos (Nat.eq_of_beq_eq_true h)]; rfl
    | false => rw [if_neg (Nat.ne_of_beq_eq_false h)]; exact ih
theorem adel_cv (al : AL) (i n : Nat) : xdel (cvL al) i n = cvL (adel al i n) := by
  induction al with
  | nil => rfl
  | cons q t ih =>
    obtain ⟨j, v⟩ := q
    show (if j < i + n ∧ i < j + (cv v).category then xdel (cvL t) i n else (j, cv v) :: xdel (cvL t) i n) = _
    unfold adel
    rw [cv_cat]
    cases h1 : Nat.blt j (i + n) <;> cases h2 : Nat.blt i (j + acat v) <;> simp only [Bool.and_true, Bool.and_false, Bool.false_and] <;>
      simp only [Nat.blt_eq, ← Bool.not_eq_true] at h1 h2
    · rw [if_neg (fun h => h1 h.1), ih]; rfl
    · rw [if_neg (fun h => h1 h.1), ih]; rfl
    · rw [if_neg (fun h => h2 h.2), ih]; rfl
    · rw [if_pos ⟨h1, h2⟩, ih]
theorem ast_cv (al : AL) (i : Nat) (v : AV) : xst (cvL al) i (cv v) = cvL (ast al i v) := by
  unfold xst ast
  rw [cv_cat, adel_cv]; rfl
theorem anorm_cv (lv : List Nat) (al : AL) : xnorm lv (cvL al) = cvL (anorm lv al) := by
  induction lv with
  | nil => rfl
  | cons k t ih =>
    unfold xnorm anorm
    rw [ak_cv]
    cases ak al k with
    | none => exact ih
    | some v => show (k, cv v) :: _ = _; rw [ih]; rfl
/-- where the cell of a reference field lies behind its object, and its kind -/
def fofT : List (List (Nat × Nat)) := [[(0, 99), (1, 200128)], [(0, 99), (1, 200012), (2, 200012), (3, 200012)], [(0, 99), (0, 99), (1, 250008), (2, 250002), (3, 220002)], [(1, 9), (3, 8), (23, 6), (0, 99), (0, 99)], [(0, 99), (1, 200012), (2, 200012), (3, 200012)], [(0, 99), (0, 99), (1, 200024), (2, 200012)], [(0, 99), (1, 200006), (2, 200006), (3, 200006), (4, 200048)], [(0, 99), (1, 200012), (2, 200012), (3, 200012), (4, 200012), (5, 200012), (6, 200012), (7, 200012), (8, 200012)], [(0, 99), (0, 99), (0, 99), (0, 99), (1, 200006), (2, 200006), (3, 7), (12, 1), (16, 4)], [(1, 200700), (0, 99), (0, 99), (0, 99), (0, 99), (0, 99), (0, 99)], [(1, 3), (29, 8), (49, 8), (69, 6), (74, 2), (278, 5), (281, 0), (0, 99)], [(0, 99), (1, 200243), (2, 200243), (3, 201944), (4, 200486), (5, 220002), (0, 99), (0, 99), (6, 210700), (0, 99), (0, 99), (0, 99), (0, 99), (0, 99), (0, 99), (0, 99), (0, 99), (7, 200024), (0, 99), (8, 200012), (9, 210120), (0, 99)]]
def fof (f : Nat) : Nat × Nat := (fofT.getD (f / 32) []).getD (f % 32) (0, 99)
/-- the kind of the cell at an address: a class's place, or 10000 times the sort of an array and its length; 30, 31: the texts and their bytes; 40, 41: the two static arrays -/
def xkd (a : Nat) : Nat := match S0[a]? with
  | some (c, n, _) => if c < 12 then c else 10000 * c + n
  | none => if a = 1000001 then 40 else if a = 1000002 then 41 else if 1000010 ≤ a ∧ a < 1000028 then 30 else if 1000040 ≤ a ∧ a < 1000058 then 31 else 99
def wt : AV → Prop
  | .inl _ => True
  | .inr q => xkd q.2 = q.1 ∧ q.1 ≠ 99
def wtL (al : AL) : Prop := ∀ q ∈ al, wt q.2
def wtS (st : List AV) : Prop := ∀ v ∈ st, wt v
theorem ak_wt {al : AL} (h : wtL al) {i : Nat} {v : AV} (e : ak al i = some v) : wt v := by
  induction al with
  | nil => cases e
  | cons q t ih =>
    obtain ⟨j, u⟩ := q
    unfold ak at e
    cases hb : Nat.beq j i with
    | true => rw [hb] at e; cases e; exact h _ List.mem_cons_self
    | false => rw [hb] at e; exact ih (fun q hq => h q (List.mem_cons_of_mem _ hq)) e
theorem adel_wt {al : AL} (h : wtL al) (i n : Nat) : wtL (adel al i n) := by
  induction al with
  | nil => exact h
  | cons q t ih =>
    obtain ⟨j, u⟩ := q
    have h1 := ih (fun q hq => h q (List.mem_cons_of_mem _ hq))
    unfold adel
    split
    · exact h1
    · intro q hq
      rcases List.mem_cons.mp hq with rfl | hq
      · exact h _ List.mem_cons_self
      · exact h1 q hq
theorem wtL_cons {al : AL} {i : Nat} {v : AV} (h : wtL al) (hv : wt v) : wtL ((i, v) :: al) := by
  intro q hq
  rcases List.mem_cons.mp hq with rfl | hq
  · exact hv
  · exact h q hq
theorem ast_wt {al : AL} (h : wtL al) {i : Nat} {v : AV} (hv : wt v) : wtL (ast al i v) := wtL_cons (adel_wt h _ _) hv
theorem anorm_wt {al : AL} (h : wtL al) (lv : List Nat) : wtL (anorm lv al) := by
  induction lv with
  | nil => intro q hq; cases hq
  | cons k t ih =>
    unfold anorm
    split
    · rename_i v e
      exact wtL_cons ih (ak_wt h e)
    · exact ih
theorem wtS_cons {st : List AV} {v : AV} (h : wtS st) (hv : wt v) : wtS (v :: st) := by
  intro q hq
  rcases List.mem_cons.mp hq with rfl | hq
  · exact hv
  · exact h q hq
theorem wtS_tl {st : List AV} {v : AV} (h : wtS (v :: st)) : wtS st := fun q hq => h q (List.mem_cons_of_mem _ hq)
theorem wtS_hd {st : List AV} {v : AV} (h : wtS (v :: st)) : wt v := h _ List.mem_cons_self
/-- what two static arrays hold -/
def c40 (k : Nat) : Int32 := [1, 0, 1, 0, 1, 0].getD k 0
def c41 (k : Nat) : Int32 := [999, 9999, 9999, 50, 100, 9999].getD k 0
/-- one instruction: what must hold for it to go on so that k holds -/
def vone (i : Instr) (al : AL) (st : List AV) (m : XM) (k : AL → List AV → XM → Prop) : Prop :=
  match i with
  | .iconst n => k al (vI (xi n) :: st) m
  | .ldc_w b => k al (vF (UInt32.ofNat b) :: st) m
  | .ldc2_w b => k al (vD (UInt64.ofNat b) :: st) m
  | .jsr n => k al (vJ (Int64.ofInt n) :: st) m
  | .ldc s => match Nat.blt s 18 with
    | true => k al (vR 30 (1000010 + s) :: st) m
    | false => False
  | .fconst n => k al (vF (if (n : Nat) = 0 then FP.fconst0 else if (n : Nat) = 1 then FP.fconst1 else FP.fconst2) :: st) m
  | .dconst n => k al (vD (if (n : Nat) = 0 then FP.dconst0 else FP.dconst1) :: st) m
  | .lconst n => k al (vJ (Int64.ofNat (n : Nat)) :: st) m
  | .iload j => match ak al j with
    | some (.inl (.int v)) => k al (vI v :: st) m
    | _ => False
  | .aload j => match ak al j with
    | some (.inr (kd, a)) => k al (vR kd a :: st) m
    | _ => False
  | .lload j => match ak al j with
    | some (.inl (.long v)) => k al (vJ v :: st) m
    | _ => False
  | .fload j => match ak al j with
    | some (.inl (.float v)) => k al (vF v :: st) m
    | _ => False
  | .dload j => match ak al j with
    | some (.inl (.double v)) => k al (vD v :: st) m
    | _ => False
  | .istore j => match st with
    | .inl (.int v) :: r => k (ast al j (vI v)) r m
    | _ => False
  | .astore j => match st with
    | .inr (kd, a) :: r => k (ast al j (vR kd a)) r m
    | _ => False
  | .lstore j => match st with
    | .inl (.long v) :: r => k (ast al j (vJ v)) r m
    | _ => False
  | .fstore j => match st with
    | .inl (.float v) :: r => k (ast al j (vF v)) r m
    | _ => False
  | .dstore j => match st with
    | .inl (.double v) :: r => k (ast al j (vD v)) r m
    | _ => False
  | .iinc j n => match ak al j with
    | some (.inl (.int v)) => k (ast al j (vI (v + xi n))) st m
    | _ => False
  | .iadd => match st with
    | .inl (.int y) :: .inl (.int x) :: r => k al (vI (x + y) :: r) m
    | _ => False
  | .isub => match st with
    | .inl (.int y) :: .inl (.int x) :: r => k al (vI (x - y) :: r) m
    | _ => False
  | .imul => match st with
    | .inl (.int y) :: .inl (.int x) :: r => k al (vI (x * y) :: r) m
    | _ => False
  | .idiv => match st with
    | .inl (.int y) :: .inl (.int x) :: r => ¬ y = 0 ∧ k al (vI (x / y) :: r) m
    | _ => False
  | .irem => match st with
    | .inl (.int y) :: .inl (.int x) :: r => ¬ y = 0 ∧ k al (vI (x - x / y * y) :: r) m
    | _ => False
  | .ineg => match st with
    | .inl (.int x) :: r => k al (vI (-x) :: r) m
    | _ => False
  | .iand => match st with
    | .inl (.int y) :: .inl (.int x) :: r => k al (vI (x &&& y) :: r) m
    | _ => False
  | .ior => match st with
    | .inl (.int y) :: .inl (.int x) :: r => k al (vI (x ||| y) :: r) m
    | _ => False
  | .ishl => match st with
    | .inl (.int y) :: .inl (.int x) :: r => k al (vI (x <<< (y &&& 31)) :: r) m
    | _ => False
  | .ishr => match st with
    | .inl (.int y) :: .inl (.int x) :: r => k al (vI (x >>> (y &&& 31)) :: r) m
    | _ => False
  | .iushr => match st with
    | .inl (.int y) :: .inl (.int x) :: r => k al (vI (x.toUInt32 >>> (y.toUInt32 &&& Int32.toUInt32 31)).toInt32 :: r) m
    | _ => False
  | .i2l => match st with
    | .inl (.int x) :: r => k al (vJ x.toInt64 :: r) m
    | _ => False
  | .i2b => match st with
    | .inl (.int x) :: r => k al (vI x.toInt8.toInt32 :: r) m
    | _ => False
  | .i2c => match st with
    | .inl (.int x) :: r => k al (vI (x.toUInt32 % 65536).toInt32 :: r) m
    | _ => False
  | .i2f => match st with
    | .inl (.int x) :: r => k al (vF (FP.i2f x) :: r) m
    | _ => False
  | .i2d => match st with
    | .inl (.int x) :: r => k al (vD (FP.i2d x) :: r) m
    | _ => False
  | .f2i => match st with
    | .inl (.float x) :: r => k al (vI (FP.f2i x) :: r) m
    | _ => False
  | .d2l => match st with
    | .inl (.double x) :: r => k al (vJ (FP.d2l x) :: r) m
    | _ => False
  | .ladd => match st with
    | .inl (.long y) :: .inl (.long x) :: r => k al (vJ (x + y) :: r) m
    | _ => False
  | .lsub => match st with
    | .inl (.long y) :: .inl (.long x) :: r => k al (vJ (x - y) :: r) m
    | _ => False
  | .lshl => match st with
    | .inl (.int y) :: .inl (.long x) :: r => k al (vJ (x <<< (y.toInt64 &&& 63)) :: r) m
    | _ => False
  | .lcmp => match st with
    | .inl (.long y) :: .inl (.long x) :: r => k al (vI (lg_cmp x y) :: r) m
    | _ => False
  | .fmul => match st with
    | .inl (.float y) :: .inl (.float x) :: r => FP.fmul x y &&& 0x7fffffff ≤ 0x7f800000 ∧ k al (vF (FP.fmul x y) :: r) m
    | _ => False
  | .fdiv => match st with
    | .inl (.float y) :: .inl (.float x) :: r => FP.fdiv x y &&& 0x7fffffff ≤ 0x7f800000 ∧ k al (vF (FP.fdiv x y) :: r) m
    | _ => False
  | .fsub => match st with
    | .inl (.float y) :: .inl (.float x) :: r => FP.fsub x y &&& 0x7fffffff ≤ 0x7f800000 ∧ k al (vF (FP.fsub x y) :: r) m
    | _ => False
  | .dmul => match st with
    | .inl (.double y) :: .inl (.double x) :: r => FP.dmul x y &&& 0x7fffffffffffffff ≤ 0x7ff0000000000000 ∧ k al (vD (FP.dmul x y) :: r) m
    | _ => False
  | .ddiv => match st with
    | .inl (.double y) :: .inl (.double x) :: r => FP.ddiv x y &&& 0x7fffffffffffffff ≤ 0x7ff0000000000000 ∧ k al (vD (FP.ddiv x y) :: r) m
    | _ => False
  | .dsub => match st with
    | .inl (.double y) :: .inl (.double x) :: r => FP.dsub x y &&& 0x7fffffffffffffff ≤ 0x7ff0000000000000 ∧ k al (vD (FP.dsub x y) :: r) m
    | _ => False
  | .fcmp op => match st with
    | .inl (.float y) :: .inl (.float x) :: r => k al (vI (Op.cmpValue (FP.fcmp x y) op) :: r) m
    | _ => False
  | .dcmp op => match st with
    | .inl (.double y) :: .inl (.double x) :: r => k al (vI (Op.cmpValue (FP.dcmp x y) op) :: r) m
    | _ => False
  | .dup => match st with
    | v :: r => match Nat.beq (acat v) 1 with
      | true => k al (v :: v :: r) m
      | false => False
    | _ => False
  | .dup2 => match st with
    | v :: u :: r => match Nat.beq (acat v) 1 && Nat.beq (acat u) 1 with
      | true => k al (v :: u :: v :: u :: r) m
      | false => False
    | _ => False
  | .pop => match st with
    | v :: r => match Nat.beq (acat v) 1 with
      | true => k al r m
      | false => False
    | _ => False
  | .frem => match st with
    | [.inl (.float z), .inl (.float x)] => (FP.fIsNaN x = false ∧ FP.fIsNaN z = false) ∧ k al [vF (Native.java_lang_Math.nans.pick32 true x z)] m
    | _ => False
  | .invokedynamic j => match st with
    | [.inl (.float x)] => match Nat.beq j 0 with
      | true => k al [vI x.toInt32] m
      | false => False
    | [.inl (.double x)] => match Nat.beq j 1 with
      | true => k al [vJ x.toInt64] m
      | false => False
    | _ => False
  | .getstatic j => match j with
    | 0 => k al (vR 40 1000001 :: st) m
    | 1 => k al (vR 41 1000002 :: st) m
    | 2 => k al (vI 1 :: st) m
    | 3 => k al (vJ (-2147483648) :: st) m
    | 4 => k al (Sum.inl (Value.retAddr 0) :: st) m
    | _ => False
  | .getfield f => match st with
    | .inr (kd, a) :: r => match Nat.beq kd (f / 32) && Nat.blt kd 12 with
      | true => match Nat.blt (f % 32) (xnf.getD kd 0) with
        | true => match xref kd (f % 32) with
          | true => k al (vR (fof f).2 (a + (fof f).1) :: r) m
          | false => k al (vI (m a (f % 32)) :: r) m
        | false => False
      | false => match Nat.beq kd 30 with
        | true => match Nat.beq f 960 with
          | true => k al (vR 31 (a + 30) :: r) m
          | false => match Nat.beq f 961 with
            | true => k al (vI 0 :: r) m
            | false => False
        | false => False
    | _ => False
  | .putfield f => match st with
    | .inl (.int v) :: .inr (kd, a) :: r => match Nat.beq kd (f / 32) && Nat.blt kd 12 && Nat.blt (f % 32) (xnf.getD kd 0) && !(xref kd (f % 32)) with
      | true => match xbl kd (f % 32) with
        | true => (v = 0 ∨ v = 1) ∧ k al r (um m a (f % 32) v)
        | false => k al r (um m a (f % 32) v)
      | false => False
    | _ => False
  | .iaload => match st with
    | .inl (.int i) :: .inr (kd, a) :: r => match Nat.beq (kd / 10000) 20 with
      | true => xin i (kd % 10000) = true ∧ k al (vI (m a (ix i)) :: r) m
      | false => match Nat.beq kd 40 with
        | true => xin i 6 = true ∧ k al (vI (c40 (ix i)) :: r) m
        | false => match Nat.beq kd 41 with
          | true => xin i 6 = true ∧ k al (vI (c41 (ix i)) :: r) m
          | false => False
    | _ => False
  | .iastore => match st with
    | .inl (.int v) :: .inl (.int i) :: .inr (kd, a) :: r => match Nat.beq (kd / 10000) 20 with
      | true => xin i (kd % 10000) = true ∧ k al r (um m a (ix i) v)
      | false => False
    | _ => False
  | .baload => match st with
    | .inl (.int i) :: .inr (kd, a) :: r => match Nat.beq (kd / 10000) 21 || Nat.beq (kd / 10000) 22 with
      | true => xin i (kd % 10000) = true ∧ k al (vI (m a (ix i)) :: r) m
      | false => match Nat.beq kd 31 with
        | true => match xcb a with
          | some z => xin i z.1 = true ∧ k al (vI (z.2 (ix i)) :: r) m
          | none => False
        | false => False
    | _ => False
  | .bastore => match st with
    | .inl (.int v) :: .inl (.int i) :: .inr (kd, a) :: r => match Nat.beq (kd / 10000) 21 with
      | true => xin i (kd % 10000) = true ∧ k al r (um m a (ix i) v.toInt8.toInt32)
      | false => match Nat.beq (kd / 10000) 22 with
        | true => xin i (kd % 10000) = true ∧ (v = 0 ∨ v = 1) ∧ k al r (um m a (ix i) v)
        | false => False
    | _ => False
  | .aaload => match st with
    | .inl (.int i) :: .inr (kd, a) :: r => match Nat.beq kd 250008 with
      | true => xin i 8 = true ∧ k al (vR 8 (a + 3 + 20 * ix i) :: r) m
      | false => match Nat.beq kd 250002 with
        | true => xin i 2 = true ∧ k al (vR 8 (a + 162 + 20 * ix i) :: r) m
        | false => False
    | _ => False
  | .arraylength => match st with
    | .inr (kd, a) :: r => match Nat.beq (kd / 10000) 20 || Nat.beq (kd / 10000) 21 || Nat.beq (kd / 10000) 22 || Nat.beq (kd / 10000) 25 with
      | true => k al (vI (n32 (kd % 10000)) :: r) m
      | false => match Nat.beq kd 31 with
        | true => match xcb a with
          | some z => k al (vI (n32 z.1) :: r) m
          | none => False
        | false => False
    | _ => False
  | _ => False
end
section
/-! The verification conditions of one instruction are sound. -/
def sck (a : Nat) : Bool := match S0[a]? with
  | some (c, n, rs) => Nat.blt n 10000 && (if c < 12 then Nat.beq n (xnf.getD c 0) && (List.range n).all (fun j => !(xref c j) || (rs[j]? == some (some (a + (fof (32 * c + j)).1)) && Nat.beq (xkd (a + (fof (32 * c + j)).1)) (fof (32 * c + j)).2 && !(Nat.beq (fof (32 * c + j)).2 99)))
    else Nat.blt 19 c && (if c = 25 then (if n = 8 then (List.range 8).all (fun j => rs[j]? == some (some (a + 3 + 20 * j)) && Nat.beq (xkd (a + 3 + 20 * j)) 8) else Nat.beq n 2 && (List.range 2).all (fun j => rs[j]? == some (some (a + 162 + 20 * j)) && Nat.beq (xkd (a + 162 + 20 * j)) 8)) else true))
  | none => true
theorem S0_len : S0.length = 295 := by decide +kernel
theorem sck_ok : ((List.range 295).all sck) = true := by decide +kernel
theorem sck_at {a : Nat} {x : XC} (h : S0[a]? = some x) : sck a = true := by
  have : a < 295 := by
    rw [← S0_len]
    exact (List.getElem?_eq_some_iff.mp h).1
  exact List.all_eq_true.mp sck_ok a (List.mem_range.mpr this)
theorem S0_none {a : Nat} (h : 1000000 ≤ a) : S0[a]? = none := by
  rw [List.getElem?_eq_none_iff, S0_len]; omega
theorem xk_arr {a k c : Nat} (h : xkd a = k) (hc : k / 10000 = c) (h0 : c ≠ 0) : ∃ rs, S0[a]? = some (c, k % 10000, rs) := by
  unfold xkd at h
  split at h
  · rename_i c' n rs e
    have hs := sck_at e
    unfold sck at hs
    rw [e] at hs
    dsimp only at hs
    rw [Bool.and_eq_true] at hs
    have hn : n < 10000 := by simpa [Nat.blt_eq] using hs.1
    split at h
    · omega
    · have e1 : c' = c := by omega
      have e2 : n = k % 10000 := by omega
      subst e1; subst e2
      exact ⟨rs, e⟩
  · exfalso
    split at h
    · omega
    · split at h
      · omega
      · split at h
        · omega
        · split at h <;> omega
theorem xk_obj {a k : Nat} (h : xkd a = k) (hk : k < 12) : ∃ rs, S0[a]? = some (k, xnf.getD k 0, rs) ∧ ∀ j, j < xnf.getD k 0 → xref k j = true → rs[j]? = some (some (a + (fof (32 * k + j)).1)) ∧ xkd (a + (fof (32 * k + j)).1) = (fof (32 * k + j)).2 ∧ (fof (32 * k + j)).2 ≠ 99 := by
  unfold xkd at h
  split at h
  · rename_i c' n rs e
    have hs := sck_at e
    unfold sck at hs
    rw [e] at hs
    dsimp only at hs
    rw [Bool.and_eq_true] at hs
    obtain ⟨h1, h2⟩ := hs
    split at h
    · rename_i hc
      subst h
      rw [if_pos hk, Bool.and_eq_true] at h2
      have e2 := Nat.eq_of_beq_eq_true h2.1
      subst e2
      refine ⟨rs, e, ?_⟩
      intro j hj hr
      have := List.all_eq_true.mp h2.2 j (List.mem_range.mpr hj)
      rw [hr] at this
      simp only [Bool.not_true, Bool.false_or, Bool.and_eq_true, beq_iff_eq, Nat.beq_eq, Bool.not_eq_true'] at this
      exact ⟨this.1.1, this.1.2, Nat.ne_of_beq_eq_false this.2⟩
    · omega
  · exfalso
    split at h
    · omega
    · split at h
      · omega
      · split at h
        · omega
        · split at h <;> omega
theorem xk_ring {a : Nat} (h : xkd a = 250008) : ∃ rs, S0[a]? = some (25, 8, rs) ∧ ∀ j, j < 8 → rs[j]? = some (some (a + 3 + 20 * j)) ∧ xkd (a + 3 + 20 * j) = 8 := by
  obtain ⟨rs, e⟩ := xk_arr (c := 25) h (by omega) (by omega)
  refine ⟨rs, e, ?_⟩
  have hs := sck_at e
  unfold sck at hs
  rw [e] at hs
  dsimp only at hs
  rw [Bool.and_eq_true, if_neg (by omega), Bool.and_eq_true, if_pos rfl, if_pos (by omega)] at hs
  intro j hj
  have := List.all_eq_true.mp hs.2.2 j (List.mem_range.mpr hj)
  simp only [Bool.and_eq_true, beq_iff_eq, Nat.beq_eq] at this
  exact this
theorem xk_slots {a : Nat} (h : xkd a = 250002) : ∃ rs, S0[a]? = some (25, 2, rs) ∧ ∀ j, j < 2 → rs[j]? = some (some (a + 162 + 20 * j)) ∧ xkd (a + 162 + 20 * j) = 8 := by
  obtain ⟨rs, e⟩ := xk_arr (c := 25) h (by omega) (by omega)
  refine ⟨rs, e, ?_⟩
  have hs := sck_at e
  unfold sck at hs
  rw [e] at hs
  dsimp only at hs
  rw [Bool.and_eq_true, if_neg (by omega), Bool.and_eq_true, if_pos rfl, if_neg (by omega), Bool.and_eq_true] at hs
  intro j hj
  have := List.all_eq_true.mp hs.2.2.2 j (List.mem_range.mpr hj)
  simp only [Bool.and_eq_true, beq_iff_eq, Nat.beq_eq] at this
  exact this
theorem xk_const {a k : Nat} (h : xkd a = k) (h1 : 12 ≤ k) (h2 : k < 99) : S0[a]? = none ∧ ((k = 40 ∧ a = 1000001) ∨ (k = 41 ∧ a = 1000002) ∨ (k = 30 ∧ 1000010 ≤ a ∧ a < 1000028) ∨ (k = 31 ∧ 1000040 ≤ a ∧ a < 1000058)) := by
  unfold xkd at h
  split at h
  · rename_i c' n rs e
    exfalso
    have hs := sck_at e
    unfold sck at hs
    rw [e] at hs
    dsimp only at hs
    rw [Bool.and_eq_true] at hs
    split at h
    · omega
    · rename_i hc
      rw [if_neg hc, Bool.and_eq_true] at hs
      have : 19 < c' := by simpa [Nat.blt_eq] using hs.2.1
      omega
  · rename_i e
    refine ⟨e, ?_⟩
    split at h
    · omega
    · split at h
      · omega
      · split at h
        · omega
        · split at h <;> omega
def vgoes (i : Instr) (al : AL) (st : List AV) (m : XM) (k : AL → List AV → XM → Prop) : Prop :=
  ∃ (al' : AL) (st' : List AV) (m' : XM), (∀ (e : Nat) (w : Nat → Value), xone xK0 i (cvL al) (cvS st) (S0, e, w, m) = some (cvL al', cvS st', S0, e, w, m')) ∧ wtL al' ∧ wtS st' ∧ k al' st' m'
theorem wt_val (v : Value) : wt (.inl v) := trivial
theorem vone_ok1 {i : Instr} {al : AL} {st : List AV} {m : XM} {k : AL → List AV → XM → Prop} (h : vone i al st m k) (hl : wtL al) (hs : wtS st)
    (hi : ∀ f, i ≠ .getfield f) (hp : ∀ f, i ≠ .putfield f) (h3 : i ≠ .iaload) (h4 : i ≠ .iastore) (h5 : i ≠ .baload) (h6 : i ≠ .bastore) (h7 : i ≠ .aaload) (h8 : i ≠ .arraylength) : vgoes i al st m k := by
  cases i
  case getfield f => exact absurd rfl (hi f)
  case putfield f => exact absurd rfl (hp f)
  case iaload => exact absurd rfl h3
  case iastore => exact absurd rfl h4
  case baload => exact absurd rfl h5
  case bastore => exact absurd rfl h6
  case aaload => exact absurd rfl h7
  case arraylength => exact absurd rfl h8
  case iconst n =>
    refine ⟨_, _, _, ?_, hl, wtS_cons (v := .inl _) hs trivial, h⟩
    intro e w
    show some (cvL al, Value.int (Int32.ofInt n) :: cvS st, _) = _
    rw [← xi_eq]; rfl
  case ldc_w b => exact ⟨_, _, _, fun e w => rfl, hl, wtS_cons (v := vF (UInt32.ofNat b)) hs trivial, h⟩
  case ldc2_w b => exact ⟨_, _, _, fun e w => rfl, hl, wtS_cons (v := vD (UInt64.ofNat b)) hs trivial, h⟩
  case jsr b => exact ⟨_, _, _, fun e w => rfl, hl, wtS_cons (v := vJ (Int64.ofInt b)) hs trivial, h⟩
  case fconst n => exact ⟨_, _, _, fun e w => rfl, hl, wtS_cons (v := vF _) hs trivial, h⟩
  case dconst n => exact ⟨_, _, _, fun e w => rfl, hl, wtS_cons (v := vD _) hs trivial, h⟩
  case lconst n => exact ⟨_, _, _, fun e w => rfl, hl, wtS_cons (v := vJ _) hs trivial, h⟩
  case ldc s =>
    unfold vone at h
    dsimp only at h
    split at h
    · rename_i hb
      rw [Nat.blt_eq] at hb
      refine ⟨_, _, _, fun e w => rfl, hl, wtS_cons (v := vR 30 (1000010 + s)) hs ⟨?_, by omega⟩, h⟩
      show xkd (1000010 + s) = 30
      unfold xkd
      rw [S0_none (by omega)]
      dsimp only
      rw [if_neg (by omega), if_neg (by omega), if_pos (by omega)]
    · exact h.elim
  case iload j =>
    unfold vone at h
    dsimp only at h
    split at h
    · rename_i e
      refine ⟨_, _, _, ?_, hl, wtS_cons (v := .inl _) hs trivial, h⟩
      intro e w
      unfold xone
      simp only [ak_cv, *]; rfl
    · exact h.elim
  case lload j =>
    unfold vone at h
    dsimp only at h
    split at h
    · rename_i e
      refine ⟨_, _, _, ?_, hl, wtS_cons (v := .inl _) hs trivial, h⟩
      intro e w
      unfold xone
      simp only [ak_cv, *]; rfl
    · exact h.elim
  case fload j =>
    unfold vone at h
    dsimp only at h
    split at h
    · rename_i e
      refine ⟨_, _, _, ?_, hl, wtS_cons (v := .inl _) hs trivial, h⟩
      intro e w
      unfold xone
      simp only [ak_cv, *]; rfl
    · exact h.elim
  case dload j =>
    unfold vone at h
    dsimp only at h
    split at h
    · rename_i e
      refine ⟨_, _, _, ?_, hl, wtS_cons (v := .inl _) hs trivial, h⟩
      intro e w
      unfold xone
      simp only [ak_cv, *]; rfl
    · exact h.elim
  case aload j =>
    unfold vone at h
    dsimp only at h
    split at h
    · rename_i kd a e
      refine ⟨_, _, _, ?_, hl, wtS_cons (v := .inr (kd, a)) hs (ak_wt hl e), h⟩
      intro e w
      unfold xone
      simp only [ak_cv, *]; rfl
    · exact h.elim
  case istore j =>
    unfold vone at h
    dsimp only at h
    split at h
    · rename_i v r
      refine ⟨_, _, _, ?_, ast_wt (v := .inl _) hl trivial, wtS_tl hs, h⟩
      intro e w
      rw [← ast_cv]; rfl
    · exact h.elim
  case lstore j =>
    unfold vone at h
    dsimp only at h
    split at h
    · rename_i v r
      refine ⟨_, _, _, ?_, ast_wt (v := .inl _) hl trivial, wtS_tl hs, h⟩
      intro e w
      rw [← ast_cv]; rfl
    · exact h.elim
  case fstore j =>
    unfold vone at h
    dsimp only at h
    split at h
    · rename_i v r
      refine ⟨_, _, _, ?_, ast_wt (v := .inl _) hl trivial, wtS_tl hs, h⟩
      intro e w
      rw [← ast_cv]; rfl
    · exact h.elim
  case dstore j =>
    unfold vone at h
    dsimp only at h
    split at h
    · rename_i v r
      refine ⟨_, _, _, ?_, ast_wt (v := .inl _) hl trivial, wtS_tl hs, h⟩
      intro e w
      rw [← ast_cv]; rfl
    · exact h.elim
  case astore j =>
    unfold vone at h
    dsimp only at h
    split at h
    · rename_i kd a r
      refine ⟨_, _, _, ?_, ast_wt (v := .inr (kd, a)) hl (wtS_hd hs), wtS_tl hs, h⟩
      intro e w
      rw [← ast_cv]; rfl
    · exact h.elim
  case iinc j n =>
    unfold vone at h
    dsimp only at h
    split at h
    · rename_i v e9
      refine ⟨_, _, _, ?_, ast_wt (v := .inl _) hl trivial, hs, h⟩
      intro e w
      rw [← ast_cv]
      unfold xone
      simp only [ak_cv, e9, Option.map, cv, xi_eq]
    · exact h.elim
  case iadd | isub | imul | iand | ior | ishl | ishr | iushr | ladd | lsub | lshl | lcmp | fcmp op | dcmp op =>
    unfold vone at h
    dsimp only at h
    split at h
    · exact ⟨_, _, _, fun e w => rfl, hl, wtS_cons (v := .inl _) (wtS_tl (wtS_tl hs)) trivial, h⟩
    · exact h.elim
  case ineg | i2l | i2b | i2c | i2f | i2d | f2i | d2l =>
    unfold vone at h
    dsimp only at h
    split at h
    · exact ⟨_, _, _, fun e w => rfl, hl, wtS_cons (v := .inl _) (wtS_tl hs) trivial, h⟩
    · exact h.elim
  case idiv | irem | fmul | fdiv | fsub | dmul | ddiv | dsub =>
    unfold vone at h
    dsimp only at h
    split at h
    · refine ⟨_, _, _, ?_, hl, wtS_cons (v := .inl _) (wtS_tl (wtS_tl hs)) trivial, h.2⟩
      intro e w
      first
        | exact if_neg h.1
        | exact if_pos h.1
    · exact h.elim
  case dup =>
    unfold vone at h
    dsimp only at h
    split at h
    · rename_i v r
      split at h
      · rename_i hb
        refine ⟨_, _, _, ?_, hl, wtS_cons hs (wtS_hd hs), h⟩
        intro e w
        exact if_pos (by rw [cv_cat]; exact Nat.eq_of_beq_eq_true hb)
      · exact h.elim
    · exact h.elim
  case dup2 =>
    unfold vone at h
    dsimp only at h
    split at h
    · rename_i v u r
      split at h
      · rename_i hb
        rw [Bool.and_eq_true] at hb
        refine ⟨_, _, _, ?_, hl, wtS_cons (wtS_cons hs (wtS_hd (wtS_tl hs))) (wtS_hd hs), h⟩
        intro e w
        exact if_pos ⟨by rw [cv_cat]; exact Nat.eq_of_beq_eq_true hb.1, by rw [cv_cat]; exact Nat.eq_of_beq_eq_true hb.2⟩
      · exact h.elim
    · exact h.elim
  case pop =>
    unfold vone at h
    dsimp only at h
    split at h
    · rename_i v r
      split at h
      · rename_i hb
        refine ⟨_, _, _, ?_, hl, wtS_tl hs, h⟩
        intro e w
        exact if_pos (by rw [cv_cat]; exact Nat.eq_of_beq_eq_true hb)
      · exact h.elim
    · exact h.elim
  case frem =>
    unfold vone at h
    dsimp only at h
    split at h
    · refine ⟨_, _, _, ?_, hl, wtS_cons (v := .inl _) (wtS_tl (wtS_tl hs)) trivial, h.2⟩
      intro e w
      exact if_pos ⟨h.1.1, h.1.2, Nat.zero_le _⟩
    · exact h.elim
  case invokedynamic j =>
    unfold vone at h
    dsimp only at h
    split at h
    · split at h
      · rename_i hb
        refine ⟨_, _, _, ?_, hl, wtS_cons (v := .inl _) (wtS_tl hs) trivial, h⟩
        intro e w
        exact if_pos ⟨Nat.eq_of_beq_eq_true hb, Nat.zero_le _⟩
      · exact h.elim
    · split at h
      · rename_i hb
        refine ⟨_, _, _, ?_, hl, wtS_cons (v := .inl _) (wtS_tl hs) trivial, h⟩
        intro e w
        exact if_pos ⟨Nat.eq_of_beq_eq_true hb, Nat.zero_le _⟩
      · exact h.elim
    · exact h.elim
  case getstatic j =>
    unfold vone at h
    dsimp only at h
    split at h
    · exact ⟨_, _, _, fun e w => rfl, hl, wtS_cons (v := vR 40 1000001) hs ⟨by unfold xkd; rw [S0_none (by omega)]; rfl, by omega⟩, h⟩
    · exact ⟨_, _, _, fun e w => rfl, hl, wtS_cons (v := vR 41 1000002) hs ⟨by unfold xkd; rw [S0_none (by omega)]; rfl, by omega⟩, h⟩
    · exact ⟨_, _, _, fun e w => rfl, hl, wtS_cons (v := vI 1) hs trivial, h⟩
    · exact ⟨_, _, _, fun e w => rfl, hl, wtS_cons (v := vJ (-2147483648)) hs trivial, h⟩
    · exact ⟨_, _, _, fun e w => rfl, hl, wtS_cons (v := Sum.inl (Value.retAddr 0)) hs trivial, h⟩
    · exact h.elim
  all_goals exact h.elim
end
section
theorem vone_ok2 {i : Instr} {al : AL} {st : List AV} {m : XM} {k : AL → List AV → XM → Prop} (h : vone i al st m k) (hl : wtL al) (hs : wtS st)
    (hi : (∃ f, i = .getfield f) ∨ (∃ f, i = .putfield f) ∨ i = .iaload ∨ i = .iastore ∨ i = .baload ∨ i = .bastore ∨ i = .aaload ∨ i = .arraylength) : vgoes i al st m k := by
  rcases hi with ⟨f, rfl⟩ | ⟨f, rfl⟩ | rfl | rfl | rfl | rfl | rfl | rfl
  · unfold vone at h
    dsimp only at h
    split at h
    · rename_i kd a r
      obtain ⟨hq1, hq2⟩ : wt (.inr (kd, a)) := wtS_hd hs
      split at h
      · rename_i hb
        rw [Bool.and_eq_true, Nat.blt_eq] at hb
        have e1 := Nat.eq_of_beq_eq_true hb.1
        split at h
        · rename_i hn
          rw [Nat.blt_eq] at hn
          obtain ⟨rs, e2, e3⟩ := xk_obj hq1 hb.2
          split at h
          · rename_i hr
            obtain ⟨f1, f2, f3⟩ := e3 _ hn hr
            have e4 : 32 * kd + f % 32 = f := by omega
            rw [e4] at f1 f2 f3
            refine ⟨_, _, _, ?_, hl, wtS_cons (v := vR _ _) (wtS_tl hs) ⟨f2, f3⟩, h⟩
            intro e w
            show (match xget S0 m f a with | some v => some (cvL al, v :: cvS r, (S0, e, w, m)) | none => none) = _
            unfold xget
            rw [e2]
            dsimp only
            rw [if_pos ⟨e1, hn, hb.2⟩, if_pos hr, f1]; rfl
          · rename_i hr
            refine ⟨_, _, _, ?_, hl, wtS_cons (v := vI _) (wtS_tl hs) trivial, h⟩
            intro e w
            show (match xget S0 m f a with | some v => some (cvL al, v :: cvS r, (S0, e, w, m)) | none => none) = _
            unfold xget
            rw [e2]
            dsimp only
            rw [if_pos ⟨e1, hn, hb.2⟩, hr]; rfl
        · exact h.elim
      · split at h
        · rename_i h30
          have e30 := Nat.eq_of_beq_eq_true h30
          obtain ⟨e2, e3⟩ := xk_const hq1 (by omega) (by omega)
          have e4 : 1000010 ≤ a ∧ a < 1000028 := by omega
          split at h
          · rename_i hf
            have hf := Nat.eq_of_beq_eq_true hf
            refine ⟨_, _, _, ?_, hl, wtS_cons (v := vR 31 (a + 30)) (wtS_tl hs) ⟨?_, by omega⟩, h⟩
            · intro e w
              show (match xget S0 m f a with | some v => some (cvL al, v :: cvS r, (S0, e, w, m)) | none => none) = _
              unfold xget
              rw [e2]
              dsimp only
              rw [if_pos e4, if_pos hf]; rfl
            · show xkd (a + 30) = 31
              unfold xkd
              rw [S0_none (by omega)]
              dsimp only
              rw [if_neg (by omega), if_neg (by omega), if_neg (by omega), if_pos (by omega)]
          · split at h
            · rename_i hf0 hf
              have hf := Nat.eq_of_beq_eq_true hf
              refine ⟨_, _, _, ?_, hl, wtS_cons (v := vI 0) (wtS_tl hs) trivial, h⟩
              intro e w
              show (match xget S0 m f a with | some v => some (cvL al, v :: cvS r, (S0, e, w, m)) | none => none) = _
              unfold xget
              rw [e2]
              dsimp only
              rw [if_pos e4, if_neg (by omega), if_pos hf]; rfl
            · exact h.elim
        · exact h.elim
    · exact h.elim
  · unfold vone at h
    dsimp only at h
    split at h
    · rename_i v kd a r
      obtain ⟨hq1, hq2⟩ : wt (.inr (kd, a)) := wtS_hd (wtS_tl hs)
      split at h
      · rename_i hb
        simp only [Bool.and_eq_true, Nat.blt_eq, Bool.not_eq_true'] at hb
        obtain ⟨⟨⟨h1, h2⟩, h3⟩, h4⟩ := hb
        have h1 := Nat.eq_of_beq_eq_true h1
        obtain ⟨rs, e2, -⟩ := xk_obj hq1 h2
        split at h
        · refine ⟨_, _, _, ?_, hl, wtS_tl (wtS_tl hs), h.2⟩
          intro e w
          show (match S0[a]? with | some (ci, n, _) => (if ci = f / 32 ∧ ci < 12 ∧ f % 32 < n ∧ xref ci (f % 32) = false ∧ (xbl ci (f % 32) = false ∨ v = 0 ∨ v = 1) then some (cvL al, cvS r, S0, e, w, um m a (f % 32) v) else none) | none => none) = _
          rw [e2]
          exact if_pos ⟨h1, h2, h3, h4, Or.inr h.1⟩
        · rename_i hbl
          refine ⟨_, _, _, ?_, hl, wtS_tl (wtS_tl hs), h⟩
          intro e w
          show (match S0[a]? with | some (ci, n, _) => (if ci = f / 32 ∧ ci < 12 ∧ f % 32 < n ∧ xref ci (f % 32) = false ∧ (xbl ci (f % 32) = false ∨ v = 0 ∨ v = 1) then some (cvL al, cvS r, S0, e, w, um m a (f % 32) v) else none) | none => none) = _
          rw [e2]
          exact if_pos ⟨h1, h2, h3, h4, Or.inl hbl⟩
      · exact h.elim
    · exact h.elim
  · unfold vone at h
    dsimp only at h
    split at h
    · rename_i v kd a r
      obtain ⟨hq1, hq2⟩ : wt (.inr (kd, a)) := wtS_hd (wtS_tl hs)
      split at h
      · rename_i hb
        obtain ⟨rs, e2⟩ := xk_arr hq1 (Nat.eq_of_beq_eq_true hb) (by omega)
        refine ⟨_, _, _, ?_, hl, wtS_cons (v := vI _) (wtS_tl (wtS_tl hs)) trivial, h.2⟩
        intro e w
        unfold xone
        dsimp only [cvS, List.map, cv]
        rw [e2]
        exact if_pos ⟨rfl, h.1⟩
      · split at h
        · rename_i h9 hb
          have hb := Nat.eq_of_beq_eq_true hb
          obtain ⟨e2, e3⟩ := xk_const hq1 (by omega) (by omega)
          have e4 : a = 1000001 := by omega
          refine ⟨_, _, _, ?_, hl, wtS_cons (v := vI _) (wtS_tl (wtS_tl hs)) trivial, h.2⟩
          intro e w
          unfold xone
          dsimp only [cvS, List.map, cv]
          rw [e2, e4]
          exact if_pos h.1
        · split at h
          · rename_i h9 h8 hb
            have hb := Nat.eq_of_beq_eq_true hb
            obtain ⟨e2, e3⟩ := xk_const hq1 (by omega) (by omega)
            have e4 : a = 1000002 := by omega
            refine ⟨_, _, _, ?_, hl, wtS_cons (v := vI _) (wtS_tl (wtS_tl hs)) trivial, h.2⟩
            intro e w
            unfold xone
            dsimp only [cvS, List.map, cv]
            rw [e2, e4]
            exact if_pos h.1
          · exact h.elim
    · exact h.elim
  · unfold vone at h
    dsimp only at h
    split at h
    · rename_i v j kd a r
      obtain ⟨hq1, hq2⟩ : wt (.inr (kd, a)) := wtS_hd (wtS_tl (wtS_tl hs))
      split at h
      · rename_i hb
        obtain ⟨rs, e2⟩ := xk_arr hq1 (Nat.eq_of_beq_eq_true hb) (by omega)
        refine ⟨_, _, _, ?_, hl, wtS_tl (wtS_tl (wtS_tl hs)), h.2⟩
        intro e w
        unfold xone
        dsimp only [cvS, List.map, cv]
        rw [e2]
        exact if_pos ⟨rfl, h.1⟩
      · exact h.elim
    · exact h.elim
  · unfold vone at h
    dsimp only at h
    split at h
    · rename_i v kd a r
      obtain ⟨hq1, hq2⟩ : wt (.inr (kd, a)) := wtS_hd (wtS_tl hs)
      split at h
      · rename_i hb
        rw [Bool.or_eq_true] at hb
        refine ⟨_, _, _, ?_, hl, wtS_cons (v := vI _) (wtS_tl (wtS_tl hs)) trivial, h.2⟩
        intro e w
        unfold xone
        dsimp only [cvS, List.map, cv]
        rcases hb with hb | hb
        · obtain ⟨rs, e2⟩ := xk_arr hq1 (Nat.eq_of_beq_eq_true hb) (by omega)
          rw [e2]
          exact if_pos ⟨Or.inl rfl, h.1⟩
        · obtain ⟨rs, e2⟩ := xk_arr hq1 (Nat.eq_of_beq_eq_true hb) (by omega)
          rw [e2]
          exact if_pos ⟨Or.inr rfl, h.1⟩
      · split at h
        · rename_i h9 hb
          have hb := Nat.eq_of_beq_eq_true hb
          obtain ⟨e2, e3⟩ := xk_const hq1 (by omega) (by omega)
          split at h
          · rename_i z e5
            refine ⟨_, _, _, ?_, hl, wtS_cons (v := vI _) (wtS_tl (wtS_tl hs)) trivial, h.2⟩
            intro e w
            unfold xone
            dsimp only [cvS, List.map, cv]
            rw [e2, e5]
            exact if_pos h.1
          · exact h.elim
        · exact h.elim
    · exact h.elim
  · unfold vone at h
    dsimp only at h
    split at h
    · rename_i v j kd a r
      obtain ⟨hq1, hq2⟩ : wt (.inr (kd, a)) := wtS_hd (wtS_tl (wtS_tl hs))
      split at h
      · rename_i hb
        obtain ⟨rs, e2⟩ := xk_arr hq1 (Nat.eq_of_beq_eq_true hb) (by omega)
        refine ⟨_, _, _, ?_, hl, wtS_tl (wtS_tl (wtS_tl hs)), h.2⟩
        intro e w
        unfold xone
        dsimp only [cvS, List.map, cv]
        rw [e2]
        exact if_pos ⟨rfl, h.1⟩
      · split at h
        · rename_i h9 hb
          obtain ⟨rs, e2⟩ := xk_arr hq1 (Nat.eq_of_beq_eq_true hb) (by omega)
          refine ⟨_, _, _, ?_, hl, wtS_tl (wtS_tl (wtS_tl hs)), h.2.2⟩
          intro e w
          unfold xone
          dsimp only [cvS, List.map, cv]
          rw [e2]
          dsimp only
          rw [if_neg (fun h => absurd h.1 (by omega))]
          exact if_pos ⟨rfl, h.1, h.2.1⟩
        · exact h.elim
    · exact h.elim
  · unfold vone at h
    dsimp only at h
    split at h
    · rename_i v kd a r
      obtain ⟨hq1, hq2⟩ : wt (.inr (kd, a)) := wtS_hd (wtS_tl hs)
      split at h
      · rename_i hb
        rw [Nat.eq_of_beq_eq_true hb] at hq1
        obtain ⟨rs, e2, e3⟩ := xk_ring hq1
        have hj : ix v < 8 := by
          have := h.1
          unfold xin at this
          rw [Bool.and_eq_true] at this
          exact of_decide_eq_true this.2
        obtain ⟨e4, e5⟩ := e3 _ hj
        refine ⟨_, _, _, ?_, hl, wtS_cons (v := vR 8 _) (wtS_tl (wtS_tl hs)) ⟨e5, by omega⟩, h.2⟩
        intro e w
        unfold xone
        dsimp only [cvS, List.map, cv]
        rw [e2]
        dsimp only
        rw [if_pos ⟨rfl, h.1⟩]
        unfold ix at e4
        rw [e4]; rfl
      · split at h
        · rename_i h9 hb
          rw [Nat.eq_of_beq_eq_true hb] at hq1
          obtain ⟨rs, e2, e3⟩ := xk_slots hq1
          have hj : ix v < 2 := by
            have := h.1
            unfold xin at this
            rw [Bool.and_eq_true] at this
            exact of_decide_eq_true this.2
          obtain ⟨e4, e5⟩ := e3 _ hj
          refine ⟨_, _, _, ?_, hl, wtS_cons (v := vR 8 _) (wtS_tl (wtS_tl hs)) ⟨e5, by omega⟩, h.2⟩
          intro e w
          unfold xone
          dsimp only [cvS, List.map, cv]
          rw [e2]
          dsimp only
          rw [if_pos ⟨rfl, h.1⟩]
          unfold ix at e4
          rw [e4]; rfl
        · exact h.elim
    · exact h.elim
  · unfold vone at h
    dsimp only at h
    split at h
    · rename_i kd a r
      obtain ⟨hq1, hq2⟩ : wt (.inr (kd, a)) := wtS_hd hs
      split at h
      · rename_i hb
        simp only [Bool.or_eq_true] at hb
        refine ⟨_, _, _, ?_, hl, wtS_cons (v := vI _) (wtS_tl hs) trivial, h⟩
        intro e w
        unfold xone
        dsimp only [cvS, List.map, cv]
        have : ∃ c rs, S0[a]? = some (c, kd % 10000, rs) ∧ (c = 20 ∨ c = 21 ∨ c = 22 ∨ c = 25) := by
          rcases hb with ((hb | hb) | hb) | hb
          · obtain ⟨rs, e2⟩ := xk_arr hq1 (Nat.eq_of_beq_eq_true hb) (by omega)
            exact ⟨_, _, e2, Or.inl rfl⟩
          · obtain ⟨rs, e2⟩ := xk_arr hq1 (Nat.eq_of_beq_eq_true hb) (by omega)
            exact ⟨_, _, e2, Or.inr (Or.inl rfl)⟩
          · obtain ⟨rs, e2⟩ := xk_arr hq1 (Nat.eq_of_beq_eq_true hb) (by omega)
            exact ⟨_, _, e2, Or.inr (Or.inr (Or.inl rfl))⟩
          · obtain ⟨rs, e2⟩ := xk_arr hq1 (Nat.eq_of_beq_eq_true hb) (by omega)
            exact ⟨_, _, e2, Or.inr (Or.inr (Or.inr rfl))⟩
        obtain ⟨c, rs, e2, e3⟩ := this
        rw [e2]
        exact if_pos e3
      · split at h
        · rename_i h9 hb
          have hb := Nat.eq_of_beq_eq_true hb
          obtain ⟨e2, e3⟩ := xk_const hq1 (by omega) (by omega)
          split at h
          · rename_i z e5
            refine ⟨_, _, _, ?_, hl, wtS_cons (v := vI _) (wtS_tl hs) trivial, h⟩
            intro e w
            unfold xone
            dsimp only [cvS, List.map, cv]
            have e6 : xci xK0 a = none := by
              unfold xci
              rw [if_neg (by omega), if_neg (by omega), if_neg (by omega)]
            rw [e2, e6, e5]; rfl
          · exact h.elim
        · exact h.elim
    · exact h.elim
theorem vone_ok {i : Instr} {al : AL} {st : List AV} {m : XM} {k : AL → List AV → XM → Prop} (h : vone i al st m k) (hl : wtL al) (hs : wtS st) : vgoes i al st m k := by
  by_cases hi : (∃ f, i = .getfield f) ∨ (∃ f, i = .putfield f) ∨ i = .iaload ∨ i = .iastore ∨ i = .baload ∨ i = .bastore ∨ i = .aaload ∨ i = .arraylength
  · exact vone_ok2 h hl hs hi
  · refine vone_ok1 h hl hs ?_ ?_ ?_ ?_ ?_ ?_ ?_ ?_
    · exact fun f e => hi (Or.inl ⟨f, e⟩)
    · exact fun f e => hi (Or.inr (Or.inl ⟨f, e⟩))
    · exact fun e => hi (by rw [e]; simp)
    · exact fun e => hi (by rw [e]; simp)
    · exact fun e => hi (by rw [e]; simp)
    · exact fun e => hi (by rw [e]; simp)
    · exact fun e => hi (by rw [e]; simp)
    · exact fun e => hi (by rw [e]; simp)
end
section
/-! The verification conditions of a block, of a label, of a method. -/
def xti : Value → Int32
  | .int v => v
  | _ => 0
def xtf : Value → UInt32
  | .float v => v
  | _ => 0
def xtr : Value → Nat
  | .ref v => v
  | _ => 0
def exn : XR → Nat
  | .inl _ => 0
  | .inr _ => 1
def rtOf (y : Nat) : Nat := (sg y).2.2.2
def vrt : Nat → Option Value → Prop
  | 0, v => v = none
  | 5, v => ∃ x, v = some (.long x)
  | 6, v => ∃ x, v = some (.float x)
  | 7, v => ∃ x, v = some (.double x)
  | 8, v => ∃ a, v = some (.ref a) ∧ xkd a = 5
  | _, v => ∃ x, v = some (.int x)
def vrv : Nat → Value → List AV
  | 0, _ => []
  | 5, v => [vJ (xtl v)]
  | 6, v => [vF (xtf v)]
  | 7, v => [vD (xtd v)]
  | 8, v => [vR 5 (xtr v)]
  | _, v => [vI (xti v)]
theorem vrv_ok {rt : Nat} {v : Option Value} (h : vrt rt v) : cvS (vrv rt (v.getD .null)) = v.toList ∧ wtS (vrv rt (v.getD .null)) := by
  unfold vrt at h
  split at h
  · subst h; exact ⟨rfl, fun q hq => by cases hq⟩
  · obtain ⟨x, rfl⟩ := h; exact ⟨rfl, wtS_cons (fun q hq => by cases hq) trivial⟩
  · obtain ⟨x, rfl⟩ := h; exact ⟨rfl, wtS_cons (fun q hq => by cases hq) trivial⟩
  · obtain ⟨x, rfl⟩ := h; exact ⟨rfl, wtS_cons (fun q hq => by cases hq) trivial⟩
  · obtain ⟨x, rfl, hx⟩ := h; exact ⟨rfl, wtS_cons (v := vR 5 x) (fun q hq => by cases hq) ⟨hx, by show (5 : Nat) ≠ 99; omega⟩⟩
  · obtain ⟨x, rfl⟩ := h
    unfold vrv
    split
    · rename_i h1 h2 h3 h4 h5; exact absurd rfl h1
    · rename_i h1 h2 h3 h4 h5; exact absurd rfl h2
    · rename_i h1 h2 h3 h4 h5; exact absurd rfl h3
    · rename_i h1 h2 h3 h4 h5; exact absurd rfl h4
    · rename_i h1 h2 h3 h4 h5; exact absurd rfl h5
    · exact ⟨rfl, wtS_cons (v := vI x) (fun q hq => by cases hq) trivial⟩
def vpost (rt : Nat) (r : XR) (m' : XM) (Q : Value → XM → Prop) (E : Nat → XM → Prop) : Prop := match r with
  | .inl v => vrt rt v ∧ Q (v.getD .null) m'
  | .inr x => E x m'
/-- from the label L of method y the run comes to Q, or throws as E says -/
def VL (D y L : Nat) (al : AL) (st : List AV) (m : XM) (Q : Value → XM → Prop) (E : Nat → XM → Prop) : Prop :=
  wtL al → wtS st → ∃ (n : Nat) (r : XR) (m' : XM), (∀ (e : Nat) (w : Nat → Value), xrun xK0 n D y L (cvL al) (cvS st) (S0, e, w, m) = some (r, S0, e + exn r, w, m')) ∧ vpost (rtOf y) r m' Q E
def vargs : Nat → List AV → AL
  | _, [] => []
  | i, v :: t => (i, v) :: vargs (match Nat.beq (acat v) 2 with
    | true => i + 2
    | false => i + 1) t
/-- the call of method y -/
def V (D y : Nat) (args : List AV) (m : XM) (Q : Value → XM → Prop) (E : Nat → XM → Prop) : Prop := wtS args → VL D y 0 (vargs 0 args) [] m Q E
theorem vargs_cv (args : List AV) : ∀ i, lv_args i (cvS args) = cvL (vargs i args) := by
  induction args with
  | nil => intro i; rfl
  | cons v t ih =>
    intro i
    show (i, cv v) :: lv_args (if (cv v).category = 2 then i + 2 else i + 1) (cvS t) = (i, cv v) :: cvL (vargs _ t)
    rw [cv_cat]
    cases hb : Nat.beq (acat v) 2 with
    | true => rw [if_pos (Nat.eq_of_beq_eq_true hb), ih]
    | false => rw [if_neg (Nat.ne_of_beq_eq_false hb), ih]
theorem vargs_wt {args : List AV} (h : wtS args) : ∀ i, wtL (vargs i args) := by
  induction args with
  | nil => intro i q hq; cases hq
  | cons v t ih => intro i; exact wtL_cons (ih (wtS_tl h) _) (wtS_hd h)
def vbr (c : ClassFile.Cond) (a b : Int32) (t f : Prop) : Prop :=
  match c with
  | .eq => (a = b → t) ∧ (¬ a = b → f)
  | .ne => (a = b → f) ∧ (¬ a = b → t)
  | .lt => (a < b → t) ∧ (¬ a < b → f)
  | .ge => (b ≤ a → t) ∧ (¬ b ≤ a → f)
  | .gt => (b < a → t) ∧ (¬ b < a → f)
  | .le => (a ≤ b → t) ∧ (¬ a ≤ b → f)
def acatS (st : List AV) : Nat := (st.map acat).sum
theorem acatS_cv (st : List AV) : xcat (cvS st) = acatS st := by
  unfold xcat acatS cvS
  rw [List.map_map]
  congr 1
  exact List.map_congr_left fun v _ => cv_cat v
def vrcv (rc : Nat) : List AV → Bool
  | .inr (kd, _) :: _ => match Nat.beq rc 99 with
    | true => true
    | false => Nat.beq kd rc && (Nat.blt rc 12 || Nat.beq rc 30)
  | _ => Nat.beq rc 99
theorem vrcv_ok {rc : Nat} {args : List AV} (h : vrcv rc args = true) (hs : wtS args) : xrecv rc S0 (cvS args) = true := by
  cases args with
  | nil =>
    have e : rc = 99 := Nat.eq_of_beq_eq_true h
    subst e; rfl
  | cons v t =>
    cases v with
    | inl v =>
      have e : rc = 99 := Nat.eq_of_beq_eq_true h
      subst e
      cases v <;> rfl
    | inr q =>
      obtain ⟨kd, a⟩ := q
      obtain ⟨hq1, hq2⟩ : wt (.inr (kd, a)) := wtS_hd hs
      unfold vrcv at h
      dsimp only at h
      show (if rc = 99 then true else match S0[a]? with | some (ci, _, _) => ci == rc && decide (rc < 12) | none => rc == 30 && decide (1000010 ≤ a) && decide (a < 1000028)) = true
      split at h
      · rename_i hb
        rw [if_pos (Nat.eq_of_beq_eq_true hb)]
      · rename_i hb
        rw [if_neg (Nat.ne_of_beq_eq_false hb)]
        rw [Bool.and_eq_true, Bool.or_eq_true, Nat.blt_eq] at h
        have e1 := Nat.eq_of_beq_eq_true h.1
        rcases h.2 with h2 | h2
        · obtain ⟨rs, e2, -⟩ := xk_obj hq1 (by omega)
          rw [e2]
          simp [e1, h2]
        · have h2 := Nat.eq_of_beq_eq_true h2
          obtain ⟨e2, e3⟩ := xk_const hq1 (by omega) (by omega)
          rw [e2]
          have : 1000010 ≤ a ∧ a < 1000028 := by omega
          simp [h2, this.1, this.2]
def naOf (y : Nat) : Nat := (sg y).1
def vcal (y : Nat) (st : List AV) : Bool := Nat.blt y 398 && Nat.ble (naOf y) st.length && vrcv (sg y).2.2.1 (st.take (naOf y)).reverse && Nat.ble (acatS (st.drop (naOf y))) 8 && Nat.ble (acatS (st.take (naOf y)).reverse) (sg y).2.1
theorem rtOf_of {y na ml rc rt : Nat} {hd : List (Nat × Nat × Nat)} {bs : List XB} (h : xmt y = some (na, ml, rc, rt, hd, bs)) : rtOf y = rt := by
  unfold rtOf; rw [sg_of h]
def vsw (x : Int32) (d : Prop) (J : Int → Prop) : Int → List Int → Prop
  | _, [] => d
  | k, L :: t => (x = xi k → J L) ∧ (¬ x = xi k → vsw x d J (k + 1) t)
def vlk (x : Int32) (d : Prop) (J : Int → Prop) : List (Int × Int) → Prop
  | [] => d
  | q :: t => (x = xi q.1 → J q.2) ∧ (¬ x = xi q.1 → vlk x d J t)
def vblk (D y : Nat) (Q : Value → XM → Prop) (E : Nat → XM → Prop) : List Instr → AL → List AV → XM → Prop
  | [], _, _, _ => False
  | i :: is, al, st, m =>
    match i with
    | .goto L => VL D y L.toNat al st m Q E
    | .goto_w L => VL D y L.toNat al st m Q E
    | .ifCond c L => match st with
      | .inl (.int x) :: r => vbr c x (n32 0) (VL D y L.toNat al r m Q E) (vblk D y Q E is al r m)
      | _ => False
    | .if_icmp c L => match st with
      | .inl (.int z) :: .inl (.int x) :: r => vbr c x z (VL D y L.toNat al r m Q E) (vblk D y Q E is al r m)
      | _ => False
    | .ifnull _ => match st with
      | .inr _ :: r => vblk D y Q E is al r m
      | _ => False
    | .tableswitch d lo hi offs => match st with
      | .inl (.int x) :: r => match decide (hi + 1 = lo + offs.toList.length) && decide (-1000 ≤ lo) && decide (hi ≤ 1000) with
        | true => vsw x (VL D y d.toNat al r m Q E) (fun L => VL D y L.toNat al r m Q E) lo offs.toList
        | false => False
      | _ => False
    | .lookupswitch d ps => match st with
      | .inl (.int x) :: r => match ps.toList.all (fun q => decide (-1000 ≤ q.1) && decide (q.1 ≤ 1000)) with
        | true => vlk x (VL D y d.toNat al r m Q E) (fun L => VL D y L.toNat al r m Q E) ps.toList
        | false => False
      | _ => False
    | .ireturn => match st with
      | [.inl (.int v)] => match rtOf y with
        | 1 => Q (.int v) m
        | 2 => xrt 2 v = true ∧ Q (.int v) m
        | 3 => xrt 3 v = true ∧ Q (.int v) m
        | 4 => xrt 4 v = true ∧ Q (.int v) m
        | _ => False
      | _ => False
    | .lreturn => match st with
      | [.inl (.long v)] => match Nat.beq (rtOf y) 5 with
        | true => Q (.long v) m
        | false => False
      | _ => False
    | .freturn => match st with
      | [.inl (.float v)] => match Nat.beq (rtOf y) 6 with
        | true => Q (.float v) m
        | false => False
      | _ => False
    | .dreturn => match st with
      | [.inl (.double v)] => match Nat.beq (rtOf y) 7 with
        | true => Q (.double v) m
        | false => False
      | _ => False
    | .areturn => match st with
      | [.inr (kd, a)] => match Nat.beq (rtOf y) 8 && Nat.beq kd 5 with
        | true => Q (.ref a) m
        | false => False
      | _ => False
    | .return_ => match st with
      | [] => match Nat.beq (rtOf y) 0 with
        | true => Q .null m
        | false => False
      | _ => False
    | .checkcast x => match st with
      | [] => E x m
      | _ => False
    | .invokevirtual z => match vcal z st with
      | true => match D with
        | 0 => False
        | D' + 1 => V D' z (st.take (naOf z)).reverse m (fun v m' => vblk (D' + 1) y Q E is al (vrv (rtOf z) v ++ st.drop (naOf z)) m') E
      | false => False
    | .invokespecial z => match vcal z st with
      | true => match D with
        | 0 => False
        | D' + 1 => V D' z (st.take (naOf z)).reverse m (fun v m' => vblk (D' + 1) y Q E is al (vrv (rtOf z) v ++ st.drop (naOf z)) m') E
      | false => False
    | .invokestatic z => match vcal z st with
      | true => match D with
        | 0 => False
        | D' + 1 => V D' z (st.take (naOf z)).reverse m (fun v m' => vblk (D' + 1) y Q E is al (vrv (rtOf z) v ++ st.drop (naOf z)) m') E
      | false => False
    | i => vone i al st m (fun al' st' m' => vblk D y Q E is al' st' m')
end
section
/-! The verification conditions are sound. -/
def xB (y n D rt : Nat) (is : List Instr) (ls : XL) (st : List Value) (σ : XS) : XO :=
  xblk xK0 rt [] (fun L' ls' st' σ' => xrun xK0 n D y L' ls' st' σ') (xCf n D) is ls st σ
theorem xrun_le' {z : XR × XS} {n n' : Nat} {K : XK} {d y L : Nat} {ls : XL} {st : List Value} {σ : XS} (hn : n ≤ n') (h : xrun K n d y L ls st σ = some z) : xrun K n' d y L ls st σ = some z := by
  rcases Nat.lt_or_eq_of_le hn with h1 | rfl
  · exact xrun_le (Nat.le_refl _) h1 h
  · exact h
theorem xCf_le {z : XR × XS} {n n' D y : Nat} {args : List Value} {σ : XS} (hn : n ≤ n') (h : xCf n D y args σ = some z) : xCf n' D y args σ = some z := by
  unfold xCf at h ⊢
  cases D with
  | zero => cases h
  | succ D => exact xrun_le' hn h
theorem xB_le {y n n' D rt : Nat} {is : List Instr} {ls : XL} {st : List Value} {σ : XS} {z : XR × XS} (hn : n ≤ n') (h : xB y n D rt is ls st σ = some z) : xB y n' D rt is ls st σ = some z :=
  xblk_up (fun _ _ _ _ h => xrun_le' hn h) (fun _ _ _ _ h => xCf_le hn h) _ _ _ _ h
def vbG (y D rt : Nat) (Q : Value → XM → Prop) (E : Nat → XM → Prop) (is : List Instr) (al : AL) (st : List AV) (m : XM) : Prop :=
  ∃ (n : Nat) (r : XR) (m' : XM), (∀ (e : Nat) (w : Nat → Value), xB y n D rt is (cvL al) (cvS st) (S0, e, w, m) = some (r, S0, e + exn r, w, m')) ∧ vpost rt r m' Q E
theorem VL_to {D y L rt : Nat} {al : AL} {st : List AV} {m : XM} {Q : Value → XM → Prop} {E : Nat → XM → Prop} (h : VL D y L al st m Q E) (hr : rtOf y = rt) (hl : wtL al) (hs : wtS st) :
    ∃ (n : Nat) (r : XR) (m' : XM), (∀ (e : Nat) (w : Nat → Value), xrun xK0 n D y L (cvL al) (cvS st) (S0, e, w, m) = some (r, S0, e + exn r, w, m')) ∧ vpost rt r m' Q E := by
  subst hr
  exact h hl hs
theorem vbr_ok {c : ClassFile.Cond} {a b : Int32} {t f : Prop} {tt ff : Nat → Nat → (Nat → Value) → XO} {rt : Nat} {Q : Value → XM → Prop} {E : Nat → XM → Prop}
    (ht : t → ∃ (n : Nat) (r : XR) (m' : XM), (∀ (e : Nat) (w : Nat → Value), tt n e w = some (r, S0, e + exn r, w, m')) ∧ vpost rt r m' Q E)
    (hf : f → ∃ (n : Nat) (r : XR) (m' : XM), (∀ (e : Nat) (w : Nat → Value), ff n e w = some (r, S0, e + exn r, w, m')) ∧ vpost rt r m' Q E) (h : vbr c a b t f) :
    ∃ (n : Nat) (r : XR) (m' : XM), (∀ (e : Nat) (w : Nat → Value), xbr c a b (tt n e w) (ff n e w) = some (r, S0, e + exn r, w, m')) ∧ vpost rt r m' Q E := by
  have goT : t → (∀ (x y : XO), xbr c a b x y = x) → ∃ (n : Nat) (r : XR) (m' : XM), (∀ (e : Nat) (w : Nat → Value), xbr c a b (tt n e w) (ff n e w) = some (r, S0, e + exn r, w, m')) ∧ vpost rt r m' Q E := by
    intro h1 h2
    obtain ⟨n, r, m', h3, h4⟩ := ht h1
    exact ⟨n, r, m', fun e w => by rw [h2]; exact h3 e w, h4⟩
  have goF : f → (∀ (x y : XO), xbr c a b x y = y) → ∃ (n : Nat) (r : XR) (m' : XM), (∀ (e : Nat) (w : Nat → Value), xbr c a b (tt n e w) (ff n e w) = some (r, S0, e + exn r, w, m')) ∧ vpost rt r m' Q E := by
    intro h1 h2
    obtain ⟨n, r, m', h3, h4⟩ := hf h1
    exact ⟨n, r, m', fun e w => by rw [h2]; exact h3 e w, h4⟩
  unfold vbr at h
  cases c <;> dsimp only at h
  · by_cases hc : a = b
    · exact goT (h.1 hc) (fun _ _ => if_pos hc)
    · exact goF (h.2 hc) (fun _ _ => if_neg hc)
  · by_cases hc : a = b
    · exact goF (h.1 hc) (fun _ _ => if_pos hc)
    · exact goT (h.2 hc) (fun _ _ => if_neg hc)
  · by_cases hc : a < b
    · exact goT (h.1 hc) (fun _ _ => if_pos hc)
    · exact goF (h.2 hc) (fun _ _ => if_neg hc)
  · by_cases hc : b ≤ a
    · exact goT (h.1 hc) (fun _ _ => if_pos hc)
    · exact goF (h.2 hc) (fun _ _ => if_neg hc)
  · by_cases hc : b < a
    · exact goT (h.1 hc) (fun _ _ => if_pos hc)
    · exact goF (h.2 hc) (fun _ _ => if_neg hc)
  · by_cases hc : a ≤ b
    · exact goT (h.1 hc) (fun _ _ => if_pos hc)
    · exact goF (h.2 hc) (fun _ _ => if_neg hc)
theorem xi_toInt {x : Int32} {k : Int} (h : x.toInt = k) : x = xi k := by
  rw [xi_eq, ← h, Int32.ofInt_toInt]
theorem toInt_xi {x : Int32} {k : Int} (h : x = xi k) (h1 : -1000 ≤ k) (h2 : k ≤ 1000) : x.toInt = k := by
  rw [h, xi_eq]
  exact Int32.toInt_ofInt_of_le (by omega) (by omega)
theorem vsw_ok {x : Int32} {d : Prop} {J : Int → Prop} : ∀ (l : List Int) (k : Int), vsw x d J k l → -1000 ≤ k → k + l.length ≤ 1001 →
    ((k ≤ x.toInt ∧ x.toInt < k + l.length → ∃ L, l[(x.toInt - k).toNat]? = some L ∧ J L) ∧ (¬ (k ≤ x.toInt ∧ x.toInt < k + l.length) → d)) := by
  intro l
  induction l with
  | nil =>
    intro k h _ _
    exact ⟨fun h1 => by simp at h1; omega, fun _ => h⟩
  | cons L t ih =>
    intro k h hk hl
    obtain ⟨h1, h2⟩ := h
    rw [List.length_cons] at hl
    simp only [List.length_cons]
    by_cases e : x.toInt = k
    · have := h1 (xi_toInt e)
      refine ⟨fun _ => ⟨L, ?_, this⟩, fun h3 => absurd ⟨by omega, by omega⟩ h3⟩
      rw [e, Int.sub_self]; rfl
    · have h3 := ih (k + 1) (h2 (fun e2 => e (toInt_xi e2 hk (by omega)))) (by omega) (by omega)
      refine ⟨fun h4 => ?_, fun h4 => h3.2 (fun h5 => h4 ⟨by omega, by omega⟩)⟩
      obtain ⟨L', h5, h6⟩ := h3.1 ⟨by omega, by omega⟩
      refine ⟨L', ?_, h6⟩
      have : (x.toInt - k).toNat = (x.toInt - (k + 1)).toNat + 1 := by omega
      rw [this, List.getElem?_cons_succ]; exact h5
theorem vlk_ok {x : Int32} {d : Prop} {J : Int → Prop} : ∀ (l : List (Int × Int)), vlk x d J l → l.all (fun q => decide (-1000 ≤ q.1) && decide (q.1 ≤ 1000)) = true →
    (∃ q, l.find? (fun q => q.1 == x.toInt) = some q ∧ J q.2) ∨ (l.find? (fun q => q.1 == x.toInt) = none ∧ d) := by
  intro l
  induction l with
  | nil => intro h _; exact Or.inr ⟨rfl, h⟩
  | cons q t ih =>
    intro h hb
    obtain ⟨h1, h2⟩ := h
    rw [List.all_cons, Bool.and_eq_true, Bool.and_eq_true] at hb
    by_cases e : x.toInt = q.1
    · exact Or.inl ⟨q, by rw [List.find?_cons, e]; simp, h1 (xi_toInt e)⟩
    · have e3 : (q.1 == x.toInt) = false := by
        rw [beq_eq_false_iff_ne]; exact fun h => e h.symm
      rw [List.find?_cons, e3]
      exact ih (h2 (fun e2 => e (toInt_xi e2 (of_decide_eq_true hb.1.1) (of_decide_eq_true hb.1.2)))) hb.2
theorem vcall_ok {y D z rt : Nat} {Q : Value → XM → Prop} {E : Nat → XM → Prop} {al : AL} {st : List AV} {m : XM} {k : Value → XM → Prop} {is : List Instr}
    (hc : vcal z st = true) (h : V D z (st.take (naOf z)).reverse m k E) (hl : wtL al) (hs : wtS st)
    (hk : ∀ v m', k v m' → wtS (vrv (rtOf z) v ++ st.drop (naOf z)) → vbG y (D + 1) rt Q E is al (vrv (rtOf z) v ++ st.drop (naOf z)) m') :
    ∃ (n : Nat) (r : XR) (m' : XM), (∀ (e : Nat) (w : Nat → Value), xcall (xCf n (D + 1)) [] (fun L' ls' st' σ' => xrun xK0 n (D + 1) y L' ls' st' σ') z (cvL al) (cvS st) (S0, e, w, m) (fun st' σ' => xB y n (D + 1) rt is (cvL al) st' σ') = some (r, S0, e + exn r, w, m')) ∧ vpost rt r m' Q E := by
  unfold vcal at hc
  simp only [Bool.and_eq_true] at hc
  obtain ⟨⟨⟨⟨c0, c1⟩, c2⟩, c3⟩, c4⟩ := hc
  obtain ⟨hd, bs, hm⟩ := sg_some c0
  have hna : naOf z = (sg z).1 := rfl
  have hrz : rtOf z = (sg z).2.2.2 := rfl
  generalize (sg z).1 = na at hm hna
  generalize (sg z).2.1 = ml at hm c4
  generalize (sg z).2.2.1 = rc at hm c2
  generalize (sg z).2.2.2 = rz at hm hrz
  rw [hna] at h hk c1 c2 c3 c4
  have c1 := Nat.le_of_ble_eq_true c1
  have c3 := Nat.le_of_ble_eq_true c3
  have c4 := Nat.le_of_ble_eq_true c4
  have hA : wtS (st.take na).reverse := fun v hv => hs v (List.mem_of_mem_take (List.mem_reverse.mp hv))
  have hB : wtS (st.drop na) := fun v hv => hs v (List.mem_of_mem_drop hv)
  have ea : ((cvS st).take na).reverse = cvS (st.take na).reverse := by
    unfold cvS; rw [← List.map_take, List.map_reverse]
  have eb : (cvS st).drop na = cvS (st.drop na) := by
    unfold cvS; rw [List.map_drop]
  have cond : na ≤ (cvS st).length ∧ xrecv rc S0 ((cvS st).take na).reverse = true ∧ xcat ((cvS st).drop na) ≤ 8 ∧ xcat ((cvS st).take na).reverse ≤ ml := by
    rw [ea, eb, acatS_cv, acatS_cv]
    exact ⟨by unfold cvS; rw [List.length_map]; exact c1, vrcv_ok c2 hA, c3, c4⟩
  obtain ⟨n1, r1, m1, g1, g2⟩ := VL_to (h hA) hrz (vargs_wt hA 0) (fun v hv => by cases hv)
  cases r1 with
  | inr x =>
    refine ⟨n1, .inr x, m1, fun e w => ?_, g2⟩
    unfold xcall
    rw [hm]
    dsimp only
    rw [if_pos cond]
    have := g1 e w
    rw [← vargs_cv, ← ea] at this
    have e3 : xCf n1 (D + 1) z ((cvS st).take na).reverse (S0, e, w, m) = some (Sum.inr x, S0, e + 1, w, m1) := this
    rw [e3]; rfl
  | inl v =>
    obtain ⟨g3, g4⟩ := g2
    obtain ⟨v1, v2⟩ := vrv_ok g3
    rw [hrz] at hk
    have hw : wtS (vrv rz (v.getD .null) ++ st.drop na) := fun u hu => by
      rcases List.mem_append.mp hu with hu | hu
      · exact v2 u hu
      · exact hB u hu
    obtain ⟨n2, r2, m2, f1, f2⟩ := hk _ _ g4 hw
    refine ⟨max n1 n2, r2, m2, fun e w => ?_, f2⟩
    unfold xcall
    rw [hm]
    dsimp only
    rw [if_pos cond]
    have := g1 e w
    rw [← vargs_cv, ← ea] at this
    have e3 : xCf n1 (D + 1) z ((cvS st).take na).reverse (S0, e, w, m) = some (Sum.inl v, S0, e, w, m1) := this
    rw [xCf_le (Nat.le_max_left n1 n2) e3]
    dsimp only
    rw [if_pos (Or.inl rfl), eb, ← v1]
    have := xB_le (Nat.le_max_right n1 n2) (f1 e w)
    have e5 : cvS (vrv rz (v.getD .null) ++ st.drop na) = cvS (vrv rz (v.getD .null)) ++ cvS (st.drop na) := by
      unfold cvS; rw [List.map_append]
    rw [e5] at this
    exact this
theorem vblk_ok {y na ml rc rt : Nat} {bs : List XB} (hm : xmt y = some (na, ml, rc, rt, [], bs)) {D : Nat} {Q : Value → XM → Prop} {E : Nat → XM → Prop} :
    ∀ (is : List Instr) (al : AL) (st : List AV) (m : XM), vblk D y Q E is al st m → wtL al → wtS st → vbG y D rt Q E is al st m := by
  have hrt : rtOf y = rt := rtOf_of hm
  intro is
  induction is with
  | nil => intro al st m h; exact h.elim
  | cons i is ih =>
    intro al st m h hl hs
    by_cases hone : vone i al st m (fun al' st' m' => vblk D y Q E is al' st' m')
    · obtain ⟨al', st', m', h1, h2, h3, h4⟩ := vone_ok hone hl hs
      obtain ⟨n, r, m2, h5, h6⟩ := ih al' st' m' h4 h2 h3
      refine ⟨n, r, m2, fun e w => ?_, h6⟩
      have h7 := h1 e w
      have h8 := h5 e w
      unfold xB at h8 ⊢
      cases i <;> first
        | (unfold xone at h7; cases h7; done)
        | (unfold xblk; dsimp only; rw [h7]; exact h8)
    · cases i
      case goto L =>
        obtain ⟨n, r, m2, h5, h6⟩ := VL_to h hrt hl hs
        exact ⟨n, r, m2, h5, h6⟩
      case goto_w L =>
        obtain ⟨n, r, m2, h5, h6⟩ := VL_to h hrt hl hs
        exact ⟨n, r, m2, h5, h6⟩
      case ifCond c L =>
        unfold vblk at h
        dsimp only at h
        split at h
        · exact vbr_ok (tt := fun n e w => xrun xK0 n D y L.toNat _ _ _) (ff := fun n e w => xB y n D rt is _ _ _) (fun h => VL_to h hrt hl (wtS_tl hs)) (fun h => ih _ _ _ h hl (wtS_tl hs)) h
        · exact h.elim
      case if_icmp c L =>
        unfold vblk at h
        dsimp only at h
        split at h
        · exact vbr_ok (tt := fun n e w => xrun xK0 n D y L.toNat _ _ _) (ff := fun n e w => xB y n D rt is _ _ _) (fun h => VL_to h hrt hl (wtS_tl (wtS_tl hs))) (fun h => ih _ _ _ h hl (wtS_tl (wtS_tl hs))) h
        · exact h.elim
      case ifnull L =>
        unfold vblk at h
        dsimp only at h
        split at h
        · exact ih _ _ _ h hl (wtS_tl hs)
        · exact h.elim
      case tableswitch d lo hi offs =>
        unfold vblk at h
        dsimp only at h
        split at h
        · rename_i x r
          split at h
          · rename_i hb
            rw [Bool.and_eq_true, Bool.and_eq_true] at hb
            obtain ⟨⟨b1, b2⟩, b3⟩ := hb
            have b1 := of_decide_eq_true b1
            have b2 := of_decide_eq_true b2
            have b3 := of_decide_eq_true b3
            obtain ⟨h1, h2⟩ := vsw_ok _ _ h b2 (by omega)
            by_cases hx : lo ≤ x.toInt ∧ x.toInt ≤ hi
            · obtain ⟨L, h3, h4⟩ := h1 ⟨hx.1, by omega⟩
              obtain ⟨n, r9, m2, h5, h6⟩ := VL_to h4 hrt hl (wtS_tl hs)
              refine ⟨n, r9, m2, fun e w => ?_, h6⟩
              show (if lo ≤ x.toInt ∧ x.toInt ≤ hi then (match offs[(x.toInt - lo).toNat]? with | some L => xrun xK0 n D y L.toNat (cvL al) (cvS r) (S0, e, w, m) | none => none) else xrun xK0 n D y d.toNat (cvL al) (cvS r) (S0, e, w, m)) = _
              rw [if_pos hx]
              rw [Array.getElem?_toList] at h3
              rw [h3]
              exact h5 e w
            · obtain ⟨n, r9, m2, h5, h6⟩ := VL_to (h2 (fun h => hx ⟨h.1, by omega⟩)) hrt hl (wtS_tl hs)
              refine ⟨n, r9, m2, fun e w => ?_, h6⟩
              show (if lo ≤ x.toInt ∧ x.toInt ≤ hi then (match offs[(x.toInt - lo).toNat]? with | some L => xrun xK0 n D y L.toNat (cvL al) (cvS r) (S0, e, w, m) | none => none) else xrun xK0 n D y d.toNat (cvL al) (cvS r) (S0, e, w, m)) = _
              rw [if_neg hx]
              exact h5 e w
          · exact h.elim
        · exact h.elim
      case lookupswitch d ps =>
        unfold vblk at h
        dsimp only at h
        split at h
        · rename_i x r
          split at h
          · rename_i hb
            rcases vlk_ok _ h hb with ⟨q, h3, h4⟩ | ⟨h3, h4⟩
            · obtain ⟨n, r9, m2, h5, h6⟩ := VL_to h4 hrt hl (wtS_tl hs)
              refine ⟨n, r9, m2, fun e w => ?_, h6⟩
              show (match ps.toList.find? (fun q => q.1 == x.toInt) with | some (_, L) => xrun xK0 n D y L.toNat (cvL al) (cvS r) (S0, e, w, m) | none => xrun xK0 n D y d.toNat (cvL al) (cvS r) (S0, e, w, m)) = _
              rw [h3]
              exact h5 e w
            · obtain ⟨n, r9, m2, h5, h6⟩ := VL_to h4 hrt hl (wtS_tl hs)
              refine ⟨n, r9, m2, fun e w => ?_, h6⟩
              show (match ps.toList.find? (fun q => q.1 == x.toInt) with | some (_, L) => xrun xK0 n D y L.toNat (cvL al) (cvS r) (S0, e, w, m) | none => xrun xK0 n D y d.toNat (cvL al) (cvS r) (S0, e, w, m)) = _
              rw [h3]
              exact h5 e w
          · exact h.elim
        · exact h.elim
      case ireturn =>
        unfold vblk at h
        dsimp only at h
        split at h
        · rename_i v
          rw [hrt] at h
          split at h
          · exact ⟨0, .inl (some (.int v)), m, fun e w => rfl, ⟨v, rfl⟩, h⟩
          · exact ⟨0, .inl (some (.int v)), m, fun e w => if_pos h.1, ⟨v, rfl⟩, h.2⟩
          · exact ⟨0, .inl (some (.int v)), m, fun e w => if_pos h.1, ⟨v, rfl⟩, h.2⟩
          · exact ⟨0, .inl (some (.int v)), m, fun e w => if_pos h.1, ⟨v, rfl⟩, h.2⟩
          · exact h.elim
        · exact h.elim
      case lreturn =>
        unfold vblk at h
        dsimp only at h
        split at h
        · rename_i v
          split at h
          · rename_i hb
            rw [hrt] at hb
            have hb := Nat.eq_of_beq_eq_true hb
            subst hb
            exact ⟨0, .inl (some (.long v)), m, fun e w => rfl, ⟨v, rfl⟩, h⟩
          · exact h.elim
        · exact h.elim
      case freturn =>
        unfold vblk at h
        dsimp only at h
        split at h
        · rename_i v
          split at h
          · rename_i hb
            rw [hrt] at hb
            have hb := Nat.eq_of_beq_eq_true hb
            subst hb
            exact ⟨0, .inl (some (.float v)), m, fun e w => rfl, ⟨v, rfl⟩, h⟩
          · exact h.elim
        · exact h.elim
      case dreturn =>
        unfold vblk at h
        dsimp only at h
        split at h
        · rename_i v
          split at h
          · rename_i hb
            rw [hrt] at hb
            have hb := Nat.eq_of_beq_eq_true hb
            subst hb
            exact ⟨0, .inl (some (.double v)), m, fun e w => rfl, ⟨v, rfl⟩, h⟩
          · exact h.elim
        · exact h.elim
      case areturn =>
        unfold vblk at h
        dsimp only at h
        split at h
        · rename_i kd a
          split at h
          · rename_i hb
            rw [hrt, Bool.and_eq_true] at hb
            have hb1 := Nat.eq_of_beq_eq_true hb.1
            have hb2 := Nat.eq_of_beq_eq_true hb.2
            subst hb1
            obtain ⟨hq1, hq2⟩ : wt (.inr (kd, a)) := wtS_hd hs
            exact ⟨0, .inl (some (.ref a)), m, fun e w => rfl, ⟨a, rfl, by rw [hq1, hb2]⟩, h⟩
          · exact h.elim
        · exact h.elim
      case return_ =>
        unfold vblk at h
        dsimp only at h
        split at h
        · split at h
          · rename_i hb
            rw [hrt] at hb
            have hb := Nat.eq_of_beq_eq_true hb
            subst hb
            exact ⟨0, .inl none, m, fun e w => rfl, rfl, h⟩
          · exact h.elim
        · exact h.elim
      case checkcast x =>
        unfold vblk at h
        dsimp only at h
        split at h
        · exact ⟨0, .inr x, m, fun e w => rfl, h⟩
        · exact h.elim
      case invokevirtual z =>
        unfold vblk at h
        dsimp only at h
        split at h
        · rename_i hc
          cases D with
          | zero => exact h.elim
          | succ D => exact vcall_ok hc h hl hs (fun v m' hk hw => ih _ _ _ hk hl hw)
        · exact h.elim
      case invokespecial z =>
        unfold vblk at h
        dsimp only at h
        split at h
        · rename_i hc
          cases D with
          | zero => exact h.elim
          | succ D => exact vcall_ok hc h hl hs (fun v m' hk hw => ih _ _ _ hk hl hw)
        · exact h.elim
      case invokestatic z =>
        unfold vblk at h
        dsimp only at h
        split at h
        · rename_i hc
          cases D with
          | zero => exact h.elim
          | succ D => exact vcall_ok hc h hl hs (fun v m' hk hw => ih _ _ _ hk hl hw)
        · exact h.elim
      all_goals exact absurd h hone
/-- a label: its block's conditions -/
theorem VL_at {y L na ml rc rt : Nat} {lv : List Nat} {is : List Instr} {bs : List XB} (hm : xmt y = some (na, ml, rc, rt, [], bs)) (hb : bs[L]? = some (lv, is)) {D : Nat} {al : AL} {st : List AV} {m : XM} {Q : Value → XM → Prop} {E : Nat → XM → Prop}
    (h : vblk D y Q E is (anorm lv al) st m) : VL D y L al st m Q E := by
  intro hl hs
  obtain ⟨n, r, m', h1, h2⟩ := vblk_ok hm is _ _ _ h (anorm_wt hl lv) hs
  have hrt : rtOf y = rt := rtOf_of hm
  rw [hrt]
  refine ⟨n + 1, r, m', fun e w => ?_, h2⟩
  unfold xrun
  rw [hm]
  dsimp only
  rw [hb]
  dsimp only
  rw [anorm_cv]
  exact h1 e w
theorem V_of {D y : Nat} {args : List AV} {m : XM} {Q : Value → XM → Prop} {E : Nat → XM → Prop} (h : VL D y 0 (vargs 0 args) [] m Q E) : V D y args m Q E := fun _ => h
theorem vpost_mono {rt : Nat} {r : XR} {m : XM} {Q Q' : Value → XM → Prop} {E E' : Nat → XM → Prop} (h : vpost rt r m Q E) (hQ : ∀ v m, Q v m → Q' v m) (hE : ∀ x m, E x m → E' x m) : vpost rt r m Q' E' := by
  cases r with
  | inl v => exact ⟨h.1, hQ _ _ h.2⟩
  | inr x => exact hE _ _ h
theorem VL_mono {D y L : Nat} {al : AL} {st : List AV} {m : XM} {Q Q' : Value → XM → Prop} {E E' : Nat → XM → Prop} (h : VL D y L al st m Q E) (hQ : ∀ v m, Q v m → Q' v m) (hE : ∀ x m, E x m → E' x m) : VL D y L al st m Q' E' := by
  intro hl hs
  obtain ⟨n, r, m', h1, h2⟩ := h hl hs
  exact ⟨n, r, m', h1, vpost_mono h2 hQ hE⟩
theorem V_mono {D y : Nat} {args : List AV} {m : XM} {Q Q' : Value → XM → Prop} {E E' : Nat → XM → Prop} (h : V D y args m Q E) (hQ : ∀ v m, Q v m → Q' v m) (hE : ∀ x m, E x m → E' x m) : V D y args m Q' E' :=
  fun hw => VL_mono (h hw) hQ hE
end
section
/-! Shorter words for the conditions, and what their printed forms use. -/
abbrev VU (D y : Nat) (args : List AV) (m : XM) (Q : XM → Prop) (E : Nat → XM → Prop) : Prop := V D y args m (fun _ m' => Q m') E
abbrev VI (D y : Nat) (args : List AV) (m : XM) (Q : Int32 → XM → Prop) (E : Nat → XM → Prop) : Prop := V D y args m (fun v m' => Q (xti v) m') E
abbrev VJ (D y : Nat) (args : List AV) (m : XM) (Q : Int64 → XM → Prop) (E : Nat → XM → Prop) : Prop := V D y args m (fun v m' => Q (xtl v) m') E
abbrev VF (D y : Nat) (args : List AV) (m : XM) (Q : UInt32 → XM → Prop) (E : Nat → XM → Prop) : Prop := V D y args m (fun v m' => Q (xtf v) m') E
abbrev VD (D y : Nat) (args : List AV) (m : XM) (Q : UInt64 → XM → Prop) (E : Nat → XM → Prop) : Prop := V D y args m (fun v m' => Q (xtd v) m') E
abbrev VA (D y : Nat) (args : List AV) (m : XM) (Q : Nat → XM → Prop) (E : Nat → XM → Prop) : Prop := V D y args m (fun v m' => Q (xtr v) m') E
abbrev VLU (D y L : Nat) (al : AL) (st : List AV) (m : XM) (Q : XM → Prop) (E : Nat → XM → Prop) : Prop := VL D y L al st m (fun _ m' => Q m') E
abbrev VLI (D y L : Nat) (al : AL) (st : List AV) (m : XM) (Q : Int32 → XM → Prop) (E : Nat → XM → Prop) : Prop := VL D y L al st m (fun v m' => Q (xti v) m') E
abbrev VLJ (D y L : Nat) (al : AL) (st : List AV) (m : XM) (Q : Int64 → XM → Prop) (E : Nat → XM → Prop) : Prop := VL D y L al st m (fun v m' => Q (xtl v) m') E
abbrev VLF (D y L : Nat) (al : AL) (st : List AV) (m : XM) (Q : UInt32 → XM → Prop) (E : Nat → XM → Prop) : Prop := VL D y L al st m (fun v m' => Q (xtf v) m') E
abbrev VLD (D y L : Nat) (al : AL) (st : List AV) (m : XM) (Q : UInt64 → XM → Prop) (E : Nat → XM → Prop) : Prop := VL D y L al st m (fun v m' => Q (xtd v) m') E
abbrev VLA (D y L : Nat) (al : AL) (st : List AV) (m : XM) (Q : Nat → XM → Prop) (E : Nat → XM → Prop) : Prop := VL D y L al st m (fun v m' => Q (xtr v) m') E
theorem xk_norm (lv : List Nat) (ls : XL) (k : Nat) : xk (xnorm lv ls) k = if k ∈ lv then xk ls k else none := by
  induction lv with
  | nil => rfl
  | cons j t ih =>
    unfold xnorm
    by_cases hjk : j = k
    · subst hjk
      rw [if_pos List.mem_cons_self]
      cases h : xk ls j with
      | some v =>
        show (if j = j then some v else _) = _
        rw [if_pos rfl]
      | none =>
        show xk (xnorm t ls) j = none
        rw [ih, h]; split <;> rfl
    · have e : (k ∈ j :: t) = (k ∈ t) := by
        exact propext ⟨fun h => (List.mem_cons.mp h).resolve_left (fun h => hjk h.symm), List.mem_cons_of_mem _⟩
      simp only [e]
      cases h : xk ls j with
      | some v =>
        show (if j = k then some v else xk (xnorm t ls) k) = _
        rw [if_neg hjk, ih]
      | none => exact ih
theorem xnorm_congr {lv : List Nat} {ls ls' : XL} (h : ∀ k ∈ lv, xk ls' k = xk ls k) : xnorm lv ls' = xnorm lv ls := by
  induction lv with
  | nil => rfl
  | cons j t ih =>
    unfold xnorm
    rw [h j List.mem_cons_self, ih (fun k hk => h k (List.mem_cons_of_mem _ hk))]
theorem xnorm_idem (lv : List Nat) (ls : XL) : xnorm lv (xnorm lv ls) = xnorm lv ls :=
  xnorm_congr fun k hk => by rw [xk_norm, if_pos hk]
theorem VL_norm {y L na ml rc rt : Nat} {lv : List Nat} {is : List Instr} {bs : List XB} (hm : xmt y = some (na, ml, rc, rt, [], bs)) (hb : bs[L]? = some (lv, is)) {D : Nat} {al : AL} {st : List AV} {m : XM} {Q : Value → XM → Prop} {E : Nat → XM → Prop}
    (h : VL D y L (anorm lv al) st m Q E) : VL D y L al st m Q E := by
  intro hl hs
  obtain ⟨n, r, m', h1, h2⟩ := h (anorm_wt hl lv) hs
  refine ⟨n, r, m', fun e w => ?_, h2⟩
  rw [← h1 e w]
  cases n with
  | zero => rfl
  | succ n =>
    unfold xrun
    rw [hm]
    dsimp only
    rw [hb]
    dsimp only
    rw [← anorm_cv, xnorm_idem]
theorem xrt20 : xrt 2 (n32 0) = true := by decide
theorem xrt21 : xrt 2 (n32 1) = true := by decide
theorem n32_toInt {k : Nat} (h : k < 2147483648) : (n32 k).toInt = k := by
  unfold n32
  rw [Int32.toInt_ofNat_of_lt (by omega)]
theorem ix_n32 {k : Nat} (h : k < 2147483648) : ix (n32 k) = k := by
  unfold ix Int32.toNatClampNeg
  rw [n32_toInt h]; omega
theorem xin_n {i n : Nat} (h : i < n) (hi : i < 2147483648) : xin (n32 i) n = true := by
  unfold xin
  rw [Bool.and_eq_true]
  refine ⟨decide_eq_true ?_, decide_eq_true ?_⟩
  · rw [Int32.le_iff_toInt_le, n32_toInt hi]
    show (0 : Int32).toInt ≤ _
    rw [show (0 : Int32).toInt = 0 from rfl]; omega
  · have := ix_n32 hi
    unfold ix at this
    omega
theorem xin_k {i n : Nat} (h : (Nat.blt i n && Nat.blt i 2147483648) = true) : xin (n32 i) n = true := by
  rw [Bool.and_eq_true, Nat.blt_eq, Nat.blt_eq] at h
  exact xin_n h.1 h.2
end
