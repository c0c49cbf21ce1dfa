section
/-! What this proof takes from the whole library is named first, so that a round is read over it from its start. -/
theorem w00_max : parseMethodDescriptor NT.mathMax32N.desc = some { parameters := [.float, .float], returnType := some .float } := NT.mathMax32_desc
end
section
-- ===== PART A: goes FIRST, ahead of the names: the tables' words, and 'selects' of the private methods out of them =====
/-- a private method of a class that the tables say can be made, by its rows of tables_1 -/
def lw_okq (q : MethodName × Nat) : Prop := (q.1.cls ≠ "java/lang/invoke/MethodHandle" ∧ q.1.cls ≠ "java/lang/invoke/VarHandle") ∧ Cond.instantiable q.1.cls q.2 ∈ tables_1 ∧ Cond.privateMethod q.1 ∈ tables_1 ∧ Cond.instanceMethod q.1 ∈ tables_1
theorem lw_p0 : lw_okq (⟨"BannerParade", "needLoaded", "()V"⟩, 8) := ⟨⟨by decide +kernel, by decide +kernel⟩, List.mem_of_getElem? (i := 38) (by decide +kernel), List.mem_of_getElem? (i := 380) (by decide +kernel), List.mem_of_getElem? (i := 381) (by decide +kernel)⟩
theorem lw_p1 : lw_okq (⟨"java/lang/Throwable", "fillInStackTrace", "(I)Ljava/lang/Throwable;"⟩, 6) := ⟨⟨by decide +kernel, by decide +kernel⟩, List.mem_of_getElem? (i := 422) (by decide +kernel), List.mem_of_getElem? (i := 420) (by decide +kernel), List.mem_of_getElem? (i := 421) (by decide +kernel)⟩
theorem lw_p2 : lw_okq (⟨"BannerParade", "standsWithReadWord", "()I"⟩, 8) := ⟨⟨by decide +kernel, by decide +kernel⟩, List.mem_of_getElem? (i := 38) (by decide +kernel), List.mem_of_getElem? (i := 482) (by decide +kernel), List.mem_of_getElem? (i := 483) (by decide +kernel)⟩
theorem lw_p3 : lw_okq (⟨"BannerParade", "standsThatSeeAny", "()I"⟩, 8) := ⟨⟨by decide +kernel, by decide +kernel⟩, List.mem_of_getElem? (i := 38) (by decide +kernel), List.mem_of_getElem? (i := 517) (by decide +kernel), List.mem_of_getElem? (i := 518) (by decide +kernel)⟩
theorem lw_p4 : lw_okq (⟨"BannerParade", "bearersSeenFrom", "(I)I"⟩, 8) := ⟨⟨by decide +kernel, by decide +kernel⟩, List.mem_of_getElem? (i := 38) (by decide +kernel), List.mem_of_getElem? (i := 521) (by decide +kernel), List.mem_of_getElem? (i := 522) (by decide +kernel)⟩
theorem lw_p5 : lw_okq (⟨"BannerParade", "needBearer", "(I)V"⟩, 8) := ⟨⟨by decide +kernel, by decide +kernel⟩, List.mem_of_getElem? (i := 38) (by decide +kernel), List.mem_of_getElem? (i := 540) (by decide +kernel), List.mem_of_getElem? (i := 541) (by decide +kernel)⟩
theorem lw_p6 : lw_okq (⟨"BannerParade", "standsThatSee", "(I)I"⟩, 8) := ⟨⟨by decide +kernel, by decide +kernel⟩, List.mem_of_getElem? (i := 38) (by decide +kernel), List.mem_of_getElem? (i := 565) (by decide +kernel), List.mem_of_getElem? (i := 566) (by decide +kernel)⟩
theorem lw_p7 : lw_okq (⟨"BannerParade", "foresee", "(I)V"⟩, 8) := ⟨⟨by decide +kernel, by decide +kernel⟩, List.mem_of_getElem? (i := 38) (by decide +kernel), List.mem_of_getElem? (i := 585) (by decide +kernel), List.mem_of_getElem? (i := 586) (by decide +kernel)⟩
theorem lw_p8 : lw_okq (⟨"BannerParade", "readWords", "()V"⟩, 8) := ⟨⟨by decide +kernel, by decide +kernel⟩, List.mem_of_getElem? (i := 38) (by decide +kernel), List.mem_of_getElem? (i := 703) (by decide +kernel), List.mem_of_getElem? (i := 704) (by decide +kernel)⟩
theorem lw_p9 : lw_okq (⟨"BannerParade", "readNow", "(I)LBannerParade$Reading;"⟩, 8) := ⟨⟨by decide +kernel, by decide +kernel⟩, List.mem_of_getElem? (i := 38) (by decide +kernel), List.mem_of_getElem? (i := 707) (by decide +kernel), List.mem_of_getElem? (i := 708) (by decide +kernel)⟩
theorem lw_p10 : lw_okq (⟨"BannerParade", "needStand", "(I)V"⟩, 8) := ⟨⟨by decide +kernel, by decide +kernel⟩, List.mem_of_getElem? (i := 38) (by decide +kernel), List.mem_of_getElem? (i := 1441) (by decide +kernel), List.mem_of_getElem? (i := 1442) (by decide +kernel)⟩
def lw_privs_1 : List (MethodName × Nat) := [(⟨"BannerParade", "needLoaded", "()V"⟩, 8), (⟨"java/lang/Throwable", "fillInStackTrace", "(I)Ljava/lang/Throwable;"⟩, 6), (⟨"BannerParade", "standsWithReadWord", "()I"⟩, 8), (⟨"BannerParade", "standsThatSeeAny", "()I"⟩, 8), (⟨"BannerParade", "bearersSeenFrom", "(I)I"⟩, 8), (⟨"BannerParade", "needBearer", "(I)V"⟩, 8), (⟨"BannerParade", "standsThatSee", "(I)I"⟩, 8), (⟨"BannerParade", "foresee", "(I)V"⟩, 8), (⟨"BannerParade", "readWords", "()V"⟩, 8), (⟨"BannerParade", "readNow", "(I)LBannerParade$Reading;"⟩, 8), (⟨"BannerParade", "needStand", "(I)V"⟩, 8)]
theorem lw_r1 : ∀ q ∈ lw_privs_1, lw_okq q := List.forall_mem_cons.mpr ⟨lw_p0, List.forall_mem_cons.mpr ⟨lw_p1, List.forall_mem_cons.mpr ⟨lw_p2, List.forall_mem_cons.mpr ⟨lw_p3, List.forall_mem_cons.mpr ⟨lw_p4, List.forall_mem_cons.mpr ⟨lw_p5, List.forall_mem_cons.mpr ⟨lw_p6, List.forall_mem_cons.mpr ⟨lw_p7, List.forall_mem_cons.mpr ⟨lw_p8, List.forall_mem_cons.mpr ⟨lw_p9, List.forall_mem_cons.mpr ⟨lw_p10, fun _ h => absurd h List.not_mem_nil⟩⟩⟩⟩⟩⟩⟩⟩⟩⟩⟩
def lw_privs : List (MethodName × Nat) := lw_privs_1
def lw_tbl : List Cond := k2_sels lw_privs ++ tables_1
theorem lw_privs_ok : ∀ q ∈ lw_privs, lw_okq q := lw_r1
/-- the streams that the claim lets the run draw from -/
abbrev lw_cs : List Choice := [Jvm.Choice.named "NaN.bits"]
theorem lw_bits : nanBits ∈ lw_cs := by first | decide | exact List.mem_cons_self | simp [lw_cs, nanBits]
-- ===== end of PART A; then your names; then what follows =====
end
section
/-! X: the code of the class, of the law and of the JDK's methods that they call, as a table of blocks (written by program, wip/p67/gen.py). An instruction is an Instr whose operands are read as: a label for a jump, a field's own number (32 * class + slot) for a field, a method's number for a call. -/
abbrev XB : Type := List Nat × List Instr
/-- a method: how many arguments (the receiver is one), how many locals, the receiver's kind (99: none is asked), what it returns, its handlers (exception, label, the local that takes it), its blocks -/
abbrev XT : Type := Nat × Nat × Nat × Nat × List (Nat × Nat × Nat) × List XB
/-- no method -/
def xMd : XT := (0, 0, 99, 0, [], [])
/-- BannerParade$Bytes.<init>()V -/
def xM0 : XT := (1, 1, 0, 0, [], [([0], [.aload 0, .monitorexit, .aload 0, .iconst 0, .putfield 0, .aload 0, .iconst 128, .newarray .int, .putfield 1, .return_])])
/-- BannerParade$Bytes.addByte(I)V -/
def xM1 : XT := (2, 2, 0, 0, [], [([0, 1], [.aload 0, .getfield 0, .aload 0, .getfield 1, .arraylength, .if_icmp .ge 2, .goto_w 1]), ([0, 1], [.aload 0, .getfield 1, .aload 0, .getfield 0, .iload 1, .iastore, .aload 0, .dup, .getfield 0, .iconst 1, .iadd, .putfield 0, .goto_w 2]), ([], [.return_])])
/-- BannerParade$Bytes.addNumber(I)V -/
def xM2 : XT := (2, 6, 0, 0, [], [([0, 1], [.iload 1, .ifCond .ge 2, .goto_w 1]), ([0, 1], [.aload 0, .iconst 45, .invokevirtual 1, .goto_w 2]), ([0, 1], [.iload 1, .invokestatic 384, .istore 2, .iconst 1, .istore 3, .iload 2, .iconst 10, .idiv, .istore 4, .goto_w 3]), ([0, 2, 3, 4], [.iload 4, .ifCond .le 6, .goto_w 4]), ([0, 2, 3, 4], [.iload 3, .iconst 10, .if_icmp .ge 6, .goto_w 5]), ([0, 2, 3, 4], [.iinc 3 1, .iload 4, .iconst 10, .idiv, .istore 4, .goto 3]), ([0, 2, 3], [.aload 0, .getfield 0, .iload 3, .iadd, .istore 4, .iload 4, .aload 0, .getfield 1, .arraylength, .if_icmp .le 8, .goto_w 7]), ([], [.return_]), ([0, 2, 4], [.iload 4, .iconst 1, .isub, .istore 5, .goto_w 9]), ([0, 2, 4, 5], [.iload 5, .aload 0, .getfield 0, .if_icmp .lt 11, .goto_w 10]), ([0, 2, 4, 5], [.aload 0, .getfield 1, .iload 5, .iconst 48, .iload 2, .iconst 10, .irem, .iadd, .iastore, .iload 2, .iconst 10, .idiv, .istore 2, .iinc 5 (-1), .goto 9]), ([0, 4], [.aload 0, .iload 4, .putfield 0, .return_])])
/-- BannerParade$Ground.<init>()V -/
def xM3 : XT := (1, 1, 1, 0, [], [([0], [.aload 0, .monitorexit, .aload 0, .iconst 0, .putfield 32, .aload 0, .iconst 12, .newarray .int, .putfield 33, .aload 0, .iconst 12, .newarray .int, .putfield 34, .aload 0, .iconst 12, .newarray .int, .putfield 35, .return_])])
/-- BannerParade$Ground.copyFrom(LBannerParade$Ground;)V -/
def xM4 : XT := (2, 2, 1, 0, [], [([0, 1], [.aload 0, .aload 1, .getfield 32, .putfield 32, .aload 1, .getfield 33, .aload 0, .getfield 33, .invokestatic 172, .aload 1, .getfield 34, .aload 0, .getfield 34, .invokestatic 172, .aload 1, .getfield 35, .aload 0, .getfield 35, .invokestatic 172, .return_])])
/-- BannerParade$Ground.lay(III)V -/
def xM5 : XT := (4, 4, 1, 0, [], [([0, 1, 2, 3], [.aload 0, .getfield 32, .iconst 12, .if_icmp .lt 2, .goto_w 1]), ([], [.return_]), ([0, 1, 2, 3], [.aload 0, .getfield 33, .aload 0, .getfield 32, .iload 1, .iastore, .aload 0, .getfield 34, .aload 0, .getfield 32, .iload 2, .iastore, .aload 0, .getfield 35, .aload 0, .getfield 32, .iload 3, .iastore, .aload 0, .dup, .getfield 32, .iconst 1, .iadd, .putfield 32, .return_])])
/-- BannerParade$Ground.removeAt(I)V -/
def xM6 : XT := (2, 3, 1, 0, [], [([0, 1], [.iload 1, .ifCond .lt 2, .goto_w 1]), ([0, 1], [.iload 1, .aload 0, .getfield 32, .if_icmp .lt 3, .goto_w 2]), ([], [.return_]), ([0, 1], [.iload 1, .istore 2, .goto_w 4]), ([0, 2], [.iload 2, .iconst 1, .iadd, .aload 0, .getfield 32, .if_icmp .ge 6, .goto_w 5]), ([0, 2], [.aload 0, .getfield 33, .iload 2, .aload 0, .getfield 33, .iload 2, .iconst 1, .iadd, .iaload, .iastore, .aload 0, .getfield 34, .iload 2, .aload 0, .getfield 34, .iload 2, .iconst 1, .iadd, .iaload, .iastore, .aload 0, .getfield 35, .iload 2, .aload 0, .getfield 35, .iload 2, .iconst 1, .iadd, .iaload, .iastore, .iinc 2 1, .goto 4]), ([0], [.aload 0, .dup, .getfield 32, .iconst 1, .isub, .putfield 32, .return_])])
/-- BannerParade$Ground.between(II)I -/
def xM7 : XT := (3, 5, 1, 1, [], [([0, 1, 2], [.iconst 0, .istore 3, .iconst 0, .istore 4, .goto_w 1]), ([0, 1, 2, 3, 4], [.iload 4, .aload 0, .getfield 32, .if_icmp .ge 6, .goto_w 2]), ([0, 1, 2, 3, 4], [.aload 0, .getfield 34, .iload 4, .iaload, .iload 1, .if_icmp .lt 5, .goto_w 3]), ([0, 1, 2, 3, 4], [.aload 0, .getfield 34, .iload 4, .iaload, .iload 2, .if_icmp .gt 5, .goto_w 4]), ([0, 1, 2, 3, 4], [.iinc 3 1, .goto_w 5]), ([0, 1, 2, 3, 4], [.iinc 4 1, .goto 1]), ([3], [.iload 3, .ireturn])])
/-- BannerParade$Ground.bestBetween(II)I -/
def xM8 : XT := (3, 6, 1, 1, [], [([0, 1, 2], [.iconst (-1), .istore 3, .iconst 0, .istore 4, .goto_w 1]), ([0, 1, 2, 3, 4], [.iload 4, .aload 0, .getfield 32, .if_icmp .ge 11, .goto_w 2]), ([0, 1, 2, 3, 4], [.aload 0, .getfield 34, .iload 4, .iaload, .iload 1, .if_icmp .lt 5, .goto_w 3]), ([0, 1, 2, 3, 4], [.aload 0, .getfield 34, .iload 4, .iaload, .iload 2, .if_icmp .gt 5, .goto_w 4]), ([0, 1, 2, 3, 4], [.iconst 1, .goto 6]), ([0, 1, 2, 3, 4], [.iconst 0, .goto_w 6]), ([0, 1, 2, 3, 4], [.istore 5, .iload 5, .ifCond .eq 10, .goto_w 7]), ([0, 1, 2, 3, 4], [.iload 3, .iconst (-1), .if_icmp .eq 9, .goto_w 8]), ([0, 1, 2, 3, 4], [.aload 0, .getfield 34, .iload 4, .iaload, .aload 0, .getfield 34, .iload 3, .iaload, .if_icmp .le 10, .goto_w 9]), ([0, 1, 2, 4], [.iload 4, .istore 3, .goto_w 10]), ([0, 1, 2, 3, 4], [.iinc 4 1, .goto 1]), ([3], [.iload 3, .ireturn])])
/-- BannerParade$Ground.withLetter(I)I -/
def xM9 : XT := (2, 4, 1, 1, [], [([0, 1], [.iconst 0, .istore 2, .iconst 0, .istore 3, .goto_w 1]), ([0, 1, 2, 3], [.iload 3, .aload 0, .getfield 32, .if_icmp .ge 5, .goto_w 2]), ([0, 1, 2, 3], [.aload 0, .getfield 33, .iload 3, .iaload, .iload 1, .if_icmp .ne 4, .goto_w 3]), ([0, 1, 2, 3], [.iinc 2 1, .goto_w 4]), ([0, 1, 2, 3], [.iinc 3 1, .goto 1]), ([2], [.iload 2, .ireturn])])
/-- BannerParade$Memory.<init>()V -/
def xM10 : XT := (1, 2, 2, 0, [], [([0], [.aload 0, .monitorexit, .aload 0, .iconst 0, .putfield 64, .aload 0, .iconst 0, .putfield 65, .aload 0, .iconst 8, .anewarray 8, .putfield 66, .aload 0, .iconst 2, .anewarray 8, .putfield 67, .aload 0, .iconst 2, .newarray .boolean, .putfield 68, .iconst 0, .istore 1, .goto_w 1]), ([0, 1], [.iload 1, .aload 0, .getfield 66, .arraylength, .if_icmp .ge 3, .goto_w 2]), ([0, 1], [.aload 0, .getfield 66, .iload 1, .new 8, .dup, .invokespecial 67, .aastore, .iinc 1 1, .goto 1]), ([0], [.iconst 0, .istore 1, .goto_w 4]), ([0, 1], [.iload 1, .aload 0, .getfield 67, .arraylength, .if_icmp .ge 6, .goto_w 5]), ([0, 1], [.aload 0, .getfield 67, .iload 1, .new 8, .dup, .invokespecial 67, .aastore, .iinc 1 1, .goto 4]), ([], [.return_])])
/-- BannerParade$Memory.forgetChanges()V -/
def xM11 : XT := (1, 1, 2, 0, [], [([0], [.aload 0, .iconst 0, .putfield 64, .aload 0, .iconst 0, .putfield 65, .return_])])
/-- BannerParade$Memory.forgetSlots()V -/
def xM12 : XT := (1, 2, 2, 0, [], [([0], [.iconst 0, .istore 1, .goto_w 1]), ([0, 1], [.iload 1, .aload 0, .getfield 68, .arraylength, .if_icmp .ge 3, .goto_w 2]), ([0, 1], [.aload 0, .getfield 68, .iload 1, .iconst 0, .bastore, .iinc 1 1, .goto 1]), ([], [.return_])])
/-- BannerParade$Memory.remember(LBannerParade$State;)V -/
def xM13 : XT := (2, 2, 2, 0, [], [([0, 1], [.aload 1, .aload 0, .getfield 66, .aload 0, .getfield 64, .aload 0, .getfield 65, .iadd, .iconst 8, .irem, .aaload, .invokestatic 17, .aload 0, .getfield 65, .iconst 8, .if_icmp .ge 2, .goto_w 1]), ([0], [.aload 0, .dup, .getfield 65, .iconst 1, .iadd, .putfield 65, .goto 3]), ([0], [.aload 0, .aload 0, .getfield 64, .iconst 1, .iadd, .iconst 8, .irem, .putfield 64, .goto_w 3]), ([], [.return_])])
/-- BannerParade$Memory.takeBack(LBannerParade$State;)V -/
def xM14 : XT := (2, 2, 2, 0, [], [([0, 1], [.aload 0, .getfield 65, .ifCond .le 2, .goto_w 1]), ([0, 1], [.aload 0, .dup, .getfield 65, .iconst 1, .isub, .putfield 65, .aload 0, .getfield 66, .aload 0, .getfield 64, .aload 0, .getfield 65, .iadd, .iconst 8, .irem, .aaload, .aload 1, .invokestatic 17, .goto_w 2]), ([], [.return_])])
/-- BannerParade$Memory.fillSlot(ILBannerParade$State;)V -/
def xM15 : XT := (3, 3, 2, 0, [], [([0, 1, 2], [.aload 2, .aload 0, .getfield 67, .iload 1, .aaload, .invokestatic 17, .aload 0, .getfield 68, .iload 1, .iconst 1, .bastore, .return_])])
/-- BannerParade$Memory.readSlot(ILBannerParade$State;)V -/
def xM16 : XT := (3, 3, 2, 0, [], [([0, 1, 2], [.aload 0, .getfield 67, .iload 1, .aaload, .aload 2, .invokestatic 17, .return_])])
/-- BannerParade$Memory.copyState(LBannerParade$State;LBannerParade$State;)V -/
def xM17 : XT := (2, 2, 99, 0, [], [([0, 1], [.aload 0, .ifnull 3, .goto_w 1]), ([0, 1], [.aload 1, .ifnull 3, .goto_w 2]), ([0, 1], [.aload 1, .aload 0, .invokevirtual 68, .goto_w 3]), ([], [.return_])])
/-- BannerParade$Parser.<init>()V -/
def xM18 : XT := (1, 1, 3, 0, [], [([0], [.aload 0, .monitorexit, .aload 0, .new 9, .dup, .invokespecial 80, .putfield 96, .aload 0, .new 8, .dup, .invokespecial 67, .putfield 97, .aload 0, .new 6, .dup, .invokespecial 41, .putfield 98, .aload 0, .iconst 0, .putfield 99, .aload 0, .iconst (-1), .putfield 100, .return_])])
/-- BannerParade$Parser.parseText(I)Z -/
def xM19 : XT := (2, 3, 3, 2, [], [([0, 1], [.aload 0, .iconst 0, .putfield 99, .aload 0, .iconst (-1), .putfield 100, .aload 0, .getfield 97, .invokevirtual 69, .aload 0, .getfield 98, .iconst 0, .putfield 192, .aload 0, .getfield 96, .iload 1, .invokevirtual 83, .aload 0, .invokevirtual 21, .ifCond .ne 2, .goto_w 1]), ([], [.iconst 0, .ireturn]), ([0], [.aload 0, .getfield 96, .invokevirtual 84, .iconst 0, .istore 2, .goto_w 3]), ([0, 2], [.iload 2, .iconst 700, .if_icmp .ge 8, .goto_w 4]), ([0, 2], [.aload 0, .getfield 96, .getfield 293, .iconst 3, .if_icmp .ne 8, .goto_w 5]), ([0, 2], [.aload 0, .invokevirtual 22, .ifCond .ne 7, .goto_w 6]), ([], [.iconst 0, .ireturn]), ([0, 2], [.aload 0, .getfield 96, .invokevirtual 84, .iinc 2 1, .goto 3]), ([0], [.aload 0, .getfield 96, .getfield 293, .ifCond .eq 10, .goto_w 9]), ([0], [.aload 0, .iconst 1, .invokevirtual 20, .ifCond .eq 11, .goto_w 10]), ([], [.iconst 1, .goto 12]), ([], [.iconst 0, .goto_w 12]), ([], [.ireturn])])
/-- BannerParade$Parser.refuse(I)Z -/
def xM20 : XT := (2, 2, 3, 2, [], [([0, 1], [.aload 0, .iload 1, .putfield 99, .aload 0, .aload 0, .getfield 96, .getfield 291, .putfield 100, .iconst 0, .ireturn])])
/-- BannerParade$Parser.parseHead()Z -/
def xM21 : XT := (1, 2, 3, 2, [], [([0], [.aload 0, .getfield 96, .invokevirtual 84, .aload 0, .getfield 96, .ldc 1, .invokevirtual 89, .ifCond .ne 2, .goto_w 1]), ([0], [.aload 0, .iconst 1, .invokevirtual 20, .ireturn]), ([0], [.iconst 0, .istore 1, .goto_w 3]), ([0, 1], [.iload 1, .iconst 6, .if_icmp .ge 7, .goto_w 4]), ([0, 1], [.aload 0, .getstatic 0, .iload 1, .iaload, .getstatic 1, .iload 1, .iaload, .invokevirtual 26, .ifCond .ne 6, .goto_w 5]), ([], [.iconst 0, .ireturn]), ([0, 1], [.aload 0, .getfield 97, .getfield 260, .iload 1, .aload 0, .getfield 96, .getfield 294, .iastore, .iinc 1 1, .goto 3]), ([], [.iconst 1, .ireturn])])
/-- BannerParade$Parser.parseLine()Z -/
def xM22 : XT := (1, 1, 3, 2, [], [([0], [.aload 0, .getfield 96, .invokevirtual 84, .aload 0, .getfield 96, .ldc 2, .invokevirtual 89, .ifCond .eq 5, .goto_w 1]), ([0], [.aload 0, .getfield 97, .getfield 262, .getfield 224, .iconst 12, .if_icmp .ge 3, .goto_w 2]), ([0], [.aload 0, .invokevirtual 23, .goto 4]), ([0], [.aload 0, .iconst 4, .invokevirtual 20, .goto_w 4]), ([], [.ireturn]), ([0], [.aload 0, .getfield 96, .ldc 3, .invokevirtual 89, .ifCond .eq 10, .goto_w 6]), ([0], [.aload 0, .getfield 98, .getfield 192, .iconst 6, .if_icmp .ge 8, .goto_w 7]), ([0], [.aload 0, .invokevirtual 24, .goto 9]), ([0], [.aload 0, .iconst 4, .invokevirtual 20, .goto_w 9]), ([], [.ireturn]), ([0], [.aload 0, .getfield 96, .ldc 6, .invokevirtual 89, .ifCond .eq 15, .goto_w 11]), ([0], [.aload 0, .getfield 97, .getfield 264, .getfield 128, .iconst 12, .if_icmp .ge 13, .goto_w 12]), ([0], [.aload 0, .invokevirtual 25, .goto 14]), ([0], [.aload 0, .iconst 4, .invokevirtual 20, .goto_w 14]), ([], [.ireturn]), ([0], [.aload 0, .iconst 1, .invokevirtual 20, .ireturn])])
/-- BannerParade$Parser.parseBearer()Z -/
def xM23 : XT := (1, 3, 3, 2, [], [([0], [.aload 0, .getfield 96, .invokevirtual 84, .aload 0, .getfield 96, .invokevirtual 87, .iconst 1, .if_icmp .eq 2, .goto_w 1]), ([0], [.aload 0, .iconst 1, .invokevirtual 20, .ireturn]), ([0], [.aload 0, .getfield 96, .iconst 0, .invokevirtual 88, .iconst 96, .isub, .istore 1, .aload 0, .iconst 1, .iconst 200, .invokevirtual 26, .ifCond .ne 4, .goto_w 3]), ([], [.iconst 0, .ireturn]), ([0, 1], [.aload 0, .getfield 96, .getfield 294, .istore 2, .aload 0, .iconst 0, .iconst 20, .invokevirtual 26, .ifCond .ne 6, .goto_w 5]), ([], [.iconst 0, .ireturn]), ([0, 1, 2], [.aload 0, .getfield 97, .getfield 262, .iload 1, .iload 2, .aload 0, .getfield 96, .getfield 294, .aload 0, .getfield 97, .getfield 260, .iconst 0, .iaload, .invokevirtual 49, .iconst 1, .ireturn])])
/-- BannerParade$Parser.parseStand()Z -/
def xM24 : XT := (1, 4, 3, 2, [], [([0], [.aload 0, .getfield 96, .invokevirtual 84, .aload 0, .getfield 96, .ldc 4, .invokevirtual 89, .istore 1, .iload 1, .ifCond .ne 3, .goto_w 1]), ([0, 1], [.aload 0, .getfield 96, .ldc 5, .invokevirtual 89, .ifCond .ne 3, .goto_w 2]), ([0], [.aload 0, .iconst 1, .invokevirtual 20, .ireturn]), ([0, 1], [.aload 0, .iconst 0, .iconst 9999, .invokevirtual 26, .ifCond .ne 5, .goto_w 4]), ([], [.iconst 0, .ireturn]), ([0, 1], [.aload 0, .getfield 96, .getfield 294, .istore 2, .aload 0, .getfield 96, .invokevirtual 84, .aload 0, .getfield 96, .getfield 293, .iconst 1, .if_icmp .eq 7, .goto_w 6]), ([0], [.aload 0, .iconst 1, .invokevirtual 20, .ireturn]), ([0, 1, 2], [.aload 0, .getfield 98, .iload 1, .ifCond .eq 9, .goto_w 8]), ([0, 2], [.iconst 1, .goto 10]), ([0, 2], [.iconst 0, .goto_w 10]), ([0, 2], [.iload 2, .invokevirtual 43, .iconst 0, .istore 3, .goto_w 11]), ([0, 3], [.iload 3, .aload 0, .getfield 96, .invokevirtual 87, .if_icmp .ge 13, .goto_w 12]), ([0, 3], [.aload 0, .getfield 98, .aload 0, .getfield 96, .iload 3, .invokevirtual 88, .invokevirtual 44, .iinc 3 1, .goto 11]), ([], [.iconst 1, .ireturn])])
/-- BannerParade$Parser.parsePlan()Z -/
def xM25 : XT := (1, 2, 3, 2, [], [([0], [.aload 0, .iconst 1, .iconst 5000, .invokevirtual 26, .ifCond .ne 2, .goto_w 1]), ([], [.iconst 0, .ireturn]), ([0], [.aload 0, .getfield 96, .getfield 294, .istore 1, .aload 0, .iconst 0, .aload 0, .getfield 97, .getfield 262, .getfield 224, .iconst 2, .isub, .invokevirtual 26, .ifCond .ne 4, .goto_w 3]), ([], [.iconst 0, .ireturn]), ([0, 1], [.aload 0, .getfield 97, .getfield 264, .iload 1, .aload 0, .getfield 96, .getfield 294, .invokevirtual 29, .iconst 1, .ireturn])])
/-- BannerParade$Parser.parseNumber(II)Z -/
def xM26 : XT := (3, 3, 3, 2, [], [([0, 1, 2], [.aload 0, .getfield 96, .invokevirtual 84, .aload 0, .getfield 96, .getfield 293, .iconst 2, .if_icmp .eq 2, .goto_w 1]), ([0], [.aload 0, .iconst 1, .invokevirtual 20, .ireturn]), ([0, 1, 2], [.aload 0, .getfield 96, .getfield 294, .iload 1, .if_icmp .lt 4, .goto_w 3]), ([0, 2], [.aload 0, .getfield 96, .getfield 294, .iload 2, .if_icmp .le 5, .goto_w 4]), ([0], [.aload 0, .iconst 2, .invokevirtual 20, .ireturn]), ([], [.iconst 1, .ireturn])])
/-- BannerParade$Plans.<init>()V -/
def xM27 : XT := (1, 1, 4, 0, [], [([0], [.aload 0, .monitorexit, .aload 0, .iconst 0, .putfield 128, .aload 0, .iconst 12, .newarray .int, .putfield 129, .aload 0, .iconst 12, .newarray .int, .putfield 130, .aload 0, .iconst 12, .newarray .int, .putfield 131, .return_])])
/-- BannerParade$Plans.copyFrom(LBannerParade$Plans;)V -/
def xM28 : XT := (2, 2, 4, 0, [], [([0, 1], [.aload 0, .aload 1, .getfield 128, .putfield 128, .aload 1, .getfield 129, .aload 0, .getfield 129, .invokestatic 172, .aload 1, .getfield 130, .aload 0, .getfield 130, .invokestatic 172, .aload 1, .getfield 131, .aload 0, .getfield 131, .invokestatic 172, .return_])])
/-- BannerParade$Plans.add(II)V -/
def xM29 : XT := (3, 3, 4, 0, [], [([0, 1, 2], [.aload 0, .getfield 128, .iconst 12, .if_icmp .lt 2, .goto_w 1]), ([], [.return_]), ([0, 1, 2], [.aload 0, .getfield 129, .aload 0, .getfield 128, .iload 1, .iastore, .aload 0, .getfield 130, .aload 0, .getfield 128, .iload 2, .iastore, .aload 0, .getfield 131, .aload 0, .getfield 128, .iconst 0, .iastore, .aload 0, .dup, .getfield 128, .iconst 1, .iadd, .putfield 128, .return_])])
/-- BannerParade$Plans.withOutcome(I)I -/
def xM30 : XT := (2, 4, 4, 1, [], [([0, 1], [.iconst 0, .istore 2, .iconst 0, .istore 3, .goto_w 1]), ([0, 1, 2, 3], [.iload 3, .aload 0, .getfield 128, .if_icmp .ge 5, .goto_w 2]), ([0, 1, 2, 3], [.aload 0, .getfield 131, .iload 3, .iaload, .iload 1, .if_icmp .ne 4, .goto_w 3]), ([0, 1, 2, 3], [.iinc 2 1, .goto_w 4]), ([0, 1, 2, 3], [.iinc 3 1, .goto 1]), ([2], [.iload 2, .ireturn])])
/-- BannerParade$Plans.soonest()I -/
def xM31 : XT := (1, 3, 4, 1, [], [([0], [.iconst (-1), .istore 1, .iconst 0, .istore 2, .goto_w 1]), ([0, 1, 2], [.iload 2, .aload 0, .getfield 128, .if_icmp .ge 7, .goto_w 2]), ([0, 1, 2], [.aload 0, .getfield 131, .iload 2, .iaload, .ifCond .ne 6, .goto_w 3]), ([0, 1, 2], [.iload 1, .iconst (-1), .if_icmp .eq 5, .goto_w 4]), ([0, 1, 2], [.aload 0, .getfield 129, .iload 2, .iaload, .aload 0, .getfield 129, .iload 1, .iaload, .if_icmp .ge 6, .goto_w 5]), ([0, 2], [.iload 2, .istore 1, .goto_w 6]), ([0, 1, 2], [.iinc 2 1, .goto 1]), ([1], [.iload 1, .ireturn])])
/-- BannerParade$Reading.<init>()V -/
def xM32 : XT := (1, 1, 5, 0, [], [([0], [.aload 0, .monitorexit, .aload 0, .iconst 0, .putfield 160, .aload 0, .iconst 0, .putfield 161, .aload 0, .iconst 24, .newarray .int, .putfield 162, .aload 0, .iconst 12, .newarray .int, .putfield 163, .return_])])
/-- BannerParade$Reading.read(LBannerParade$State;LBannerParade$Route;I)V -/
def xM33 : XT := (4, 7, 5, 0, [], [([0, 1, 2, 3], [.aload 0, .iconst 0, .putfield 160, .aload 0, .iconst 0, .putfield 161, .aload 1, .getfield 262, .astore 4, .iconst 0, .istore 5, .goto_w 1]), ([0, 1, 2, 3, 4, 5], [.iload 5, .aload 4, .getfield 224, .if_icmp .ge 8, .goto_w 2]), ([0, 1, 2, 3, 4, 5], [.aload 2, .getfield 193, .iload 3, .iaload, .iconst 1, .if_icmp .ne 4, .goto_w 3]), ([0, 1, 2, 3, 4, 5], [.aload 4, .getfield 224, .iconst 1, .isub, .iload 5, .isub, .goto 5]), ([0, 1, 2, 3, 4, 5], [.iload 5, .goto_w 5]), ([0, 1, 2, 3, 4, 5], [.istore 6, .aload 1, .iload 6, .aload 2, .getfield 194, .iload 3, .iaload, .invokevirtual 79, .ifCond .eq 7, .goto_w 6]), ([0, 1, 2, 3, 4, 5, 6], [.aload 0, .aload 4, .iload 6, .aload 1, .getfield 260, .iconst 2, .iaload, .invokevirtual 34, .goto_w 7]), ([0, 1, 2, 3, 4, 5], [.iinc 5 1, .goto 1]), ([], [.return_])])
/-- BannerParade$Reading.addLetter(LBannerParade$Row;II)V -/
def xM34 : XT := (4, 4, 5, 0, [], [([0, 1, 2, 3], [.aload 0, .getfield 161, .aload 0, .getfield 163, .arraylength, .if_icmp .ge 2, .goto_w 1]), ([0, 1, 2, 3], [.aload 0, .getfield 160, .iconst 1, .iadd, .aload 0, .getfield 162, .arraylength, .if_icmp .lt 3, .goto_w 2]), ([], [.return_]), ([0, 1, 2, 3], [.aload 0, .getfield 161, .ifCond .le 6, .goto_w 4]), ([0, 1, 2, 3], [.aload 1, .getfield 230, .iload 2, .iaload, .aload 1, .getfield 230, .aload 0, .getfield 163, .aload 0, .getfield 161, .iconst 1, .isub, .iaload, .iaload, .isub, .invokestatic 384, .iload 3, .if_icmp .le 6, .goto_w 5]), ([0, 1, 2], [.aload 0, .getfield 162, .aload 0, .getfield 160, .iconst 32, .iastore, .aload 0, .dup, .getfield 160, .iconst 1, .iadd, .putfield 160, .goto_w 6]), ([0, 1, 2], [.aload 0, .getfield 162, .aload 0, .getfield 160, .iconst 96, .aload 1, .getfield 229, .iload 2, .iaload, .iadd, .iastore, .aload 0, .dup, .getfield 160, .iconst 1, .iadd, .putfield 160, .aload 0, .getfield 163, .aload 0, .getfield 161, .iload 2, .iastore, .aload 0, .dup, .getfield 161, .iconst 1, .iadd, .putfield 161, .return_])])
/-- BannerParade$Reading.byteAt(I)I -/
def xM35 : XT := (2, 2, 5, 1, [], [([0, 1], [.iload 1, .ifCond .lt 3, .goto_w 1]), ([0, 1], [.iload 1, .aload 0, .getfield 160, .if_icmp .ge 3, .goto_w 2]), ([0, 1], [.aload 0, .getfield 162, .iload 1, .iaload, .goto 4]), ([], [.iconst (-1), .goto_w 4]), ([], [.ireturn])])
/-- BannerParade$Reading.bearerOfLetter(I)I -/
def xM36 : XT := (2, 2, 5, 1, [], [([0, 1], [.iload 1, .ifCond .lt 3, .goto_w 1]), ([0, 1], [.iload 1, .aload 0, .getfield 161, .if_icmp .ge 3, .goto_w 2]), ([0, 1], [.aload 0, .getfield 163, .iload 1, .iaload, .goto 4]), ([], [.iconst (-1), .goto_w 4]), ([], [.ireturn])])
/-- BannerParade$Reading.alike(LBannerParade$Route;I)I -/
def xM37 : XT := (3, 5, 5, 1, [], [([0, 1, 2], [.iconst 0, .istore 3, .iconst 0, .istore 4, .goto_w 1]), ([0, 1, 2, 3, 4], [.iload 4, .aload 0, .getfield 160, .if_icmp .ge 6, .goto_w 2]), ([0, 1, 2, 3, 4], [.iload 4, .aload 1, .getfield 195, .iload 2, .iaload, .if_icmp .ge 6, .goto_w 3]), ([0, 1, 2, 3, 4], [.aload 0, .getfield 162, .iload 4, .iaload, .aload 1, .iload 2, .iload 4, .invokevirtual 45, .if_icmp .ne 5, .goto_w 4]), ([0, 1, 2, 3, 4], [.iinc 3 1, .goto_w 5]), ([0, 1, 2, 3, 4], [.iinc 4 1, .goto 1]), ([3], [.iload 3, .ireturn])])
/-- BannerParade$Reading.alikeAtStart(LBannerParade$Route;I)I -/
def xM38 : XT := (3, 5, 5, 1, [], [([0, 1, 2], [.aload 0, .getfield 160, .aload 1, .getfield 195, .iload 2, .iaload, .invokestatic 386, .istore 3, .iconst 0, .istore 4, .goto_w 1]), ([0, 1, 2, 3, 4], [.iload 4, .iload 3, .if_icmp .ge 5, .goto_w 2]), ([0, 1, 2, 3, 4], [.aload 0, .getfield 162, .iload 4, .iaload, .aload 1, .iload 2, .iload 4, .invokevirtual 45, .if_icmp .eq 4, .goto_w 3]), ([4], [.iload 4, .ireturn]), ([0, 1, 2, 3, 4], [.iinc 4 1, .goto 1]), ([3], [.iload 3, .ireturn])])
/-- BannerParade$Reading.isWord(LBannerParade$Route;I)Z -/
def xM39 : XT := (3, 3, 5, 2, [], [([0, 1, 2], [.aload 0, .getfield 160, .aload 1, .getfield 195, .iload 2, .iaload, .if_icmp .ne 3, .goto_w 1]), ([0, 1, 2], [.aload 0, .aload 1, .iload 2, .invokevirtual 37, .aload 0, .getfield 160, .if_icmp .ne 3, .goto_w 2]), ([], [.iconst 1, .goto 4]), ([], [.iconst 0, .goto_w 4]), ([], [.ireturn])])
/-- BannerParade$Reading.shareOfWord(LBannerParade$Route;I)F -/
def xM40 : XT := (3, 4, 5, 6, [], [([0, 1, 2], [.aload 0, .getfield 160, .aload 1, .getfield 195, .iload 2, .iaload, .invokestatic 385, .istore 3, .iload 3, .ifCond .le 2, .goto_w 1]), ([0, 1, 2, 3], [.aload 0, .aload 1, .iload 2, .invokevirtual 37, .i2f, .iload 3, .i2f, .fdiv, .goto 3]), ([], [.fconst 0, .goto_w 3]), ([], [.freturn])])
/-- BannerParade$Route.<init>()V -/
def xM41 : XT := (1, 1, 6, 0, [], [([0], [.aload 0, .monitorexit, .aload 0, .iconst 0, .putfield 192, .aload 0, .iconst 6, .newarray .int, .putfield 193, .aload 0, .iconst 6, .newarray .int, .putfield 194, .aload 0, .iconst 6, .newarray .int, .putfield 195, .aload 0, .iconst 48, .newarray .int, .putfield 196, .return_])])
/-- BannerParade$Route.copyFrom(LBannerParade$Route;)V -/
def xM42 : XT := (2, 2, 6, 0, [], [([0, 1], [.aload 0, .aload 1, .getfield 192, .putfield 192, .aload 1, .getfield 193, .aload 0, .getfield 193, .invokestatic 172, .aload 1, .getfield 194, .aload 0, .getfield 194, .invokestatic 172, .aload 1, .getfield 195, .aload 0, .getfield 195, .invokestatic 172, .aload 1, .getfield 196, .aload 0, .getfield 196, .invokestatic 172, .return_])])
/-- BannerParade$Route.add(II)V -/
def xM43 : XT := (3, 3, 6, 0, [], [([0, 1, 2], [.aload 0, .getfield 192, .iconst 6, .if_icmp .lt 2, .goto_w 1]), ([], [.return_]), ([0, 1, 2], [.aload 0, .getfield 193, .aload 0, .getfield 192, .iload 1, .iastore, .aload 0, .getfield 194, .aload 0, .getfield 192, .iload 2, .iastore, .aload 0, .getfield 195, .aload 0, .getfield 192, .iconst 0, .iastore, .aload 0, .dup, .getfield 192, .iconst 1, .iadd, .putfield 192, .return_])])
/-- BannerParade$Route.lengthenLastWord(I)V -/
def xM44 : XT := (2, 3, 6, 0, [], [([0, 1], [.aload 0, .getfield 192, .iconst 1, .isub, .istore 2, .iload 2, .ifCond .lt 2, .goto_w 1]), ([0, 1, 2], [.aload 0, .getfield 195, .iload 2, .iaload, .iconst 8, .if_icmp .lt 3, .goto_w 2]), ([], [.return_]), ([0, 1, 2], [.aload 0, .getfield 196, .iload 2, .iconst 8, .imul, .aload 0, .getfield 195, .iload 2, .iaload, .iadd, .iload 1, .iastore, .aload 0, .getfield 195, .iload 2, .dup2, .iaload, .iconst 1, .iadd, .iastore, .return_])])
/-- BannerParade$Route.byteOfWord(II)I -/
def xM45 : XT := (3, 3, 6, 1, [], [([0, 1, 2], [.iload 2, .ifCond .lt 3, .goto_w 1]), ([0, 1, 2], [.iload 2, .aload 0, .getfield 195, .iload 1, .iaload, .if_icmp .ge 3, .goto_w 2]), ([0, 1, 2], [.aload 0, .getfield 196, .iload 1, .iconst 8, .imul, .iload 2, .iadd, .iaload, .goto 4]), ([], [.iconst (-1), .goto_w 4]), ([], [.ireturn])])
/-- BannerParade$Route.lettersInWord(II)I -/
def xM46 : XT := (3, 5, 6, 1, [], [([0, 1, 2], [.iconst 0, .istore 3, .iconst 0, .istore 4, .goto_w 1]), ([0, 1, 2, 3, 4], [.iload 4, .aload 0, .getfield 195, .iload 1, .iaload, .if_icmp .ge 5, .goto_w 2]), ([0, 1, 2, 3, 4], [.aload 0, .iload 1, .iload 4, .invokevirtual 45, .iconst 96, .iload 2, .iadd, .if_icmp .ne 4, .goto_w 3]), ([0, 1, 2, 3, 4], [.iinc 3 1, .goto_w 4]), ([0, 1, 2, 3, 4], [.iinc 4 1, .goto 1]), ([3], [.iload 3, .ireturn])])
/-- BannerParade$Row.<init>()V -/
def xM47 : XT := (1, 1, 7, 0, [], [([0], [.aload 0, .monitorexit, .aload 0, .iconst 0, .putfield 224, .aload 0, .iconst 12, .newarray .int, .putfield 225, .aload 0, .iconst 12, .newarray .int, .putfield 226, .aload 0, .iconst 12, .newarray .int, .putfield 227, .aload 0, .iconst 12, .newarray .int, .putfield 228, .aload 0, .iconst 12, .newarray .int, .putfield 229, .aload 0, .iconst 12, .newarray .int, .putfield 230, .aload 0, .iconst 12, .newarray .int, .putfield 231, .aload 0, .iconst 12, .newarray .int, .putfield 232, .return_])])
/-- BannerParade$Row.copyFrom(LBannerParade$Row;)V -/
def xM48 : XT := (2, 2, 7, 0, [], [([0, 1], [.aload 0, .aload 1, .getfield 224, .putfield 224, .aload 1, .getfield 225, .aload 0, .getfield 225, .invokestatic 172, .aload 1, .getfield 226, .aload 0, .getfield 226, .invokestatic 172, .aload 1, .getfield 227, .aload 0, .getfield 227, .invokestatic 172, .aload 1, .getfield 228, .aload 0, .getfield 228, .invokestatic 172, .aload 1, .getfield 229, .aload 0, .getfield 229, .invokestatic 172, .aload 1, .getfield 230, .aload 0, .getfield 230, .invokestatic 172, .aload 1, .getfield 232, .aload 0, .getfield 232, .invokestatic 172, .return_])])
/-- BannerParade$Row.join(IIII)V -/
def xM49 : XT := (5, 5, 7, 0, [], [([0, 1, 2, 3, 4], [.aload 0, .getfield 224, .iconst 12, .if_icmp .lt 2, .goto_w 1]), ([], [.return_]), ([0, 1, 2, 3, 4], [.aload 0, .getfield 225, .aload 0, .getfield 224, .iload 1, .iastore, .aload 0, .getfield 226, .aload 0, .getfield 224, .iload 2, .iastore, .aload 0, .getfield 227, .aload 0, .getfield 224, .iload 3, .iastore, .aload 0, .getfield 228, .aload 0, .getfield 224, .iconst 100, .iastore, .aload 0, .getfield 229, .aload 0, .getfield 224, .iload 1, .iastore, .aload 0, .getfield 230, .aload 0, .getfield 224, .iload 4, .ineg, .aload 0, .getfield 224, .imul, .iastore, .aload 0, .getfield 231, .aload 0, .getfield 224, .aload 0, .getfield 230, .aload 0, .getfield 224, .iaload, .iastore, .aload 0, .getfield 232, .aload 0, .getfield 224, .iconst 0, .iastore, .aload 0, .dup, .getfield 224, .iconst 1, .iadd, .putfield 224, .return_])])
/-- BannerParade$Row.strideOf(I)I -/
def xM50 : XT := (2, 2, 7, 1, [], [([0, 1], [.aload 0, .getfield 226, .iload 1, .iaload, .i2f, .aload 0, .getfield 228, .iload 1, .iaload, .i2f, .fmul, .ldc_w 1120403456, .fdiv, .f2i, .ireturn])])
/-- BannerParade$Row.distanceAhead(I)I -/
def xM51 : XT := (2, 2, 7, 1, [], [([0, 1], [.iload 1, .ifCond .le 2, .goto_w 1]), ([0, 1], [.aload 0, .getfield 230, .iload 1, .iconst 1, .isub, .iaload, .aload 0, .getfield 230, .iload 1, .iaload, .isub, .goto 3]), ([], [.iconst (-1), .goto_w 3]), ([], [.ireturn])])
/-- BannerParade$Row.addStrength(II)V -/
def xM52 : XT := (3, 3, 7, 0, [], [([0, 1, 2], [.aload 0, .getfield 228, .iload 1, .iconst 0, .iconst 100, .aload 0, .getfield 228, .iload 1, .iaload, .iload 2, .iadd, .invokestatic 386, .invokestatic 385, .iastore, .return_])])
/-- BannerParade$Row.exchangeBanners(I)V -/
def xM53 : XT := (2, 3, 7, 0, [], [([0, 1], [.iload 1, .ifCond .lt 2, .goto_w 1]), ([0, 1], [.iload 1, .iconst 1, .iadd, .aload 0, .getfield 224, .if_icmp .lt 3, .goto_w 2]), ([], [.return_]), ([0, 1], [.aload 0, .getfield 229, .iload 1, .iaload, .istore 2, .aload 0, .getfield 229, .iload 1, .aload 0, .getfield 229, .iload 1, .iconst 1, .iadd, .iaload, .iastore, .aload 0, .getfield 229, .iload 1, .iconst 1, .iadd, .iload 2, .iastore, .return_])])
/-- BannerParade$Row.march(II)V -/
def xM54 : XT := (3, 5, 7, 0, [], [([0, 1, 2], [.iconst 0, .istore 3, .goto_w 1]), ([0, 1, 2, 3], [.iload 3, .aload 0, .getfield 224, .if_icmp .ge 8, .goto_w 2]), ([0, 1, 2, 3], [.aload 0, .getfield 230, .iload 3, .iaload, .aload 0, .iload 3, .invokevirtual 50, .iadd, .istore 4, .iload 3, .ifCond .le 4, .goto_w 3]), ([0, 1, 2, 3, 4], [.iload 4, .aload 0, .getfield 230, .iload 3, .iconst 1, .isub, .iaload, .iload 1, .isub, .invokestatic 386, .istore 4, .goto_w 4]), ([0, 1, 2, 3, 4], [.aload 0, .getfield 231, .iload 3, .aload 0, .getfield 230, .iload 3, .iaload, .iastore, .iload 4, .aload 0, .getfield 230, .iload 3, .iaload, .if_icmp .le 6, .goto_w 5]), ([0, 1, 2, 3, 4], [.aload 0, .getfield 230, .iload 3, .iload 4, .iastore, .aload 0, .getfield 232, .iload 3, .dup2, .iaload, .iconst 1, .iadd, .iastore, .aload 0, .iload 3, .aload 0, .getfield 227, .iload 3, .iaload, .ineg, .invokevirtual 52, .goto 7]), ([0, 1, 2, 3], [.aload 0, .iload 3, .iload 2, .invokevirtual 52, .goto_w 7]), ([0, 1, 2, 3], [.iinc 3 1, .goto 1]), ([], [.return_])])
/-- BannerParade$Row.carriers()I -/
def xM55 : XT := (1, 3, 7, 1, [], [([0], [.iconst 0, .istore 1, .iconst 0, .istore 2, .goto_w 1]), ([0, 1, 2], [.iload 2, .aload 0, .getfield 224, .if_icmp .ge 5, .goto_w 2]), ([0, 1, 2], [.aload 0, .getfield 229, .iload 2, .iaload, .ifCond .eq 4, .goto_w 3]), ([0, 1, 2], [.iinc 1 1, .goto_w 4]), ([0, 1, 2], [.iinc 2 1, .goto 1]), ([1], [.iload 1, .ireturn])])
/-- BannerParade$Row.carriersOf(I)I -/
def xM56 : XT := (2, 4, 7, 1, [], [([0, 1], [.iconst 0, .istore 2, .iconst 0, .istore 3, .goto_w 1]), ([0, 1, 2, 3], [.iload 3, .aload 0, .getfield 224, .if_icmp .ge 5, .goto_w 2]), ([0, 1, 2, 3], [.aload 0, .getfield 229, .iload 3, .iaload, .iload 1, .if_icmp .ne 4, .goto_w 3]), ([0, 1, 2, 3], [.iinc 2 1, .goto_w 4]), ([0, 1, 2, 3], [.iinc 3 1, .goto 1]), ([2], [.iload 2, .ireturn])])
/-- BannerParade$Row.carriersOfOwnLetter()I -/
def xM57 : XT := (1, 3, 7, 1, [], [([0], [.iconst 0, .istore 1, .iconst 0, .istore 2, .goto_w 1]), ([0, 1, 2], [.iload 2, .aload 0, .getfield 224, .if_icmp .ge 5, .goto_w 2]), ([0, 1, 2], [.aload 0, .getfield 229, .iload 2, .iaload, .aload 0, .getfield 225, .iload 2, .iaload, .if_icmp .ne 4, .goto_w 3]), ([0, 1, 2], [.iinc 1 1, .goto_w 4]), ([0, 1, 2], [.iinc 2 1, .goto 1]), ([1], [.iload 1, .ireturn])])
/-- BannerParade$Row.withinSpace(I)I -/
def xM58 : XT := (2, 4, 7, 1, [], [([0, 1], [.iconst 0, .istore 2, .iconst 1, .istore 3, .goto_w 1]), ([0, 1, 2, 3], [.iload 3, .aload 0, .getfield 224, .if_icmp .ge 5, .goto_w 2]), ([0, 1, 2, 3], [.aload 0, .iload 3, .invokevirtual 51, .iload 1, .if_icmp .gt 4, .goto_w 3]), ([0, 1, 2, 3], [.iinc 2 1, .goto_w 4]), ([0, 1, 2, 3], [.iinc 3 1, .goto 1]), ([2], [.iload 2, .ireturn])])
/-- BannerParade$Row.strideSum()I -/
def xM59 : XT := (1, 3, 7, 1, [], [([0], [.iconst 0, .istore 1, .iconst 0, .istore 2, .goto_w 1]), ([0, 1, 2], [.iload 2, .aload 0, .getfield 224, .if_icmp .ge 3, .goto_w 2]), ([0, 1, 2], [.iload 1, .aload 0, .iload 2, .invokevirtual 50, .iadd, .istore 1, .iinc 2 1, .goto 1]), ([1], [.iload 1, .ireturn])])
/-- BannerParade$Row.strengthSum()I -/
def xM60 : XT := (1, 3, 7, 1, [], [([0], [.iconst 0, .istore 1, .iconst 0, .istore 2, .goto_w 1]), ([0, 1, 2], [.iload 2, .aload 0, .getfield 224, .if_icmp .ge 3, .goto_w 2]), ([0, 1, 2], [.iload 1, .aload 0, .getfield 228, .iload 2, .iaload, .iadd, .istore 1, .iinc 2 1, .goto 1]), ([1], [.iload 1, .ireturn])])
/-- BannerParade$Row.meanOfStrength()D -/
def xM61 : XT := (1, 1, 7, 7, [], [([0], [.aload 0, .getfield 224, .ifCond .le 2, .goto_w 1]), ([0], [.aload 0, .invokevirtual 60, .i2d, .aload 0, .getfield 224, .i2d, .ddiv, .goto 3]), ([], [.dconst 0, .goto_w 3]), ([], [.dreturn])])
/-- BannerParade$Row.upToStrength(I)I -/
def xM62 : XT := (2, 4, 7, 1, [], [([0, 1], [.iconst 0, .istore 2, .iconst 0, .istore 3, .goto_w 1]), ([0, 1, 2, 3], [.iload 3, .aload 0, .getfield 224, .if_icmp .ge 5, .goto_w 2]), ([0, 1, 2, 3], [.aload 0, .getfield 228, .iload 3, .iaload, .iload 1, .if_icmp .gt 4, .goto_w 3]), ([0, 1, 2, 3], [.iload 2, .iconst 1, .iload 3, .ishl, .ior, .istore 2, .goto_w 4]), ([0, 1, 2, 3], [.iinc 3 1, .goto 1]), ([2], [.iload 2, .ireturn])])
/-- BannerParade$Row.belowStrength(I)I -/
def xM63 : XT := (2, 4, 7, 1, [], [([0, 1], [.iconst 0, .istore 2, .iconst 0, .istore 3, .goto_w 1]), ([0, 1, 2, 3], [.iload 3, .aload 0, .getfield 224, .if_icmp .ge 5, .goto_w 2]), ([0, 1, 2, 3], [.aload 0, .getfield 228, .iload 3, .iaload, .iload 1, .if_icmp .ge 4, .goto_w 3]), ([0, 1, 2, 3], [.iinc 2 1, .goto_w 4]), ([0, 1, 2, 3], [.iinc 3 1, .goto 1]), ([2], [.iload 2, .ireturn])])
/-- BannerParade$Row.beyond(I)I -/
def xM64 : XT := (2, 4, 7, 1, [], [([0, 1], [.iconst 0, .istore 2, .iconst 0, .istore 3, .goto_w 1]), ([0, 1, 2, 3], [.iload 3, .aload 0, .getfield 224, .if_icmp .ge 5, .goto_w 2]), ([0, 1, 2, 3], [.aload 0, .getfield 230, .iload 3, .iaload, .iload 1, .if_icmp .le 4, .goto_w 3]), ([0, 1, 2, 3], [.iinc 2 1, .goto_w 4]), ([0, 1, 2, 3], [.iinc 3 1, .goto 1]), ([2], [.iload 2, .ireturn])])
/-- BannerParade$Row.shortOf(I)I -/
def xM65 : XT := (2, 4, 7, 1, [], [([0, 1], [.iconst 0, .istore 2, .iconst 0, .istore 3, .goto_w 1]), ([0, 1, 2, 3], [.iload 3, .aload 0, .getfield 224, .if_icmp .ge 5, .goto_w 2]), ([0, 1, 2, 3], [.aload 0, .getfield 230, .iload 3, .iaload, .iload 1, .if_icmp .ge 4, .goto_w 3]), ([0, 1, 2, 3], [.iinc 2 1, .goto_w 4]), ([0, 1, 2, 3], [.iinc 3 1, .goto 1]), ([2], [.iload 2, .ireturn])])
/-- BannerParade$Row.leastDifference(I)I -/
def xM66 : XT := (2, 5, 7, 1, [], [([0, 1], [.iconst (-1), .istore 2, .iconst 0, .istore 3, .goto_w 1]), ([0, 1, 2, 3], [.iload 3, .aload 0, .getfield 224, .if_icmp .ge 6, .goto_w 2]), ([0, 1, 2, 3], [.aload 0, .getfield 230, .iload 3, .iaload, .iload 1, .isub, .invokestatic 384, .istore 4, .iload 2, .iconst (-1), .if_icmp .eq 4, .goto_w 3]), ([0, 1, 2, 3, 4], [.iload 4, .iload 2, .if_icmp .ge 5, .goto_w 4]), ([0, 1, 3, 4], [.iload 4, .istore 2, .goto_w 5]), ([0, 1, 2, 3], [.iinc 3 1, .goto 1]), ([2], [.iload 2, .ireturn])])
/-- BannerParade$State.<init>()V -/
def xM67 : XT := (1, 1, 8, 0, [], [([0], [.aload 0, .monitorexit, .aload 0, .iconst 0, .putfield 256, .aload 0, .iconst 0, .putfield 257, .aload 0, .iconst 0, .putfield 258, .aload 0, .iconst 0, .putfield 259, .aload 0, .iconst 6, .newarray .int, .putfield 260, .aload 0, .iconst 6, .newarray .int, .putfield 261, .aload 0, .new 7, .dup, .invokespecial 47, .putfield 262, .aload 0, .new 1, .dup, .invokespecial 3, .putfield 263, .aload 0, .new 4, .dup, .invokespecial 27, .putfield 264, .return_])])
/-- BannerParade$State.copyFrom(LBannerParade$State;)V -/
def xM68 : XT := (2, 2, 8, 0, [], [([0, 1], [.aload 0, .aload 1, .getfield 256, .putfield 256, .aload 0, .aload 1, .getfield 257, .putfield 257, .aload 0, .aload 1, .getfield 258, .putfield 258, .aload 0, .aload 1, .getfield 259, .putfield 259, .aload 1, .getfield 260, .aload 0, .getfield 260, .invokestatic 172, .aload 1, .getfield 261, .aload 0, .getfield 261, .invokestatic 172, .aload 0, .getfield 262, .aload 1, .getfield 262, .invokevirtual 48, .aload 0, .getfield 263, .aload 1, .getfield 263, .invokevirtual 4, .aload 0, .getfield 264, .aload 1, .getfield 264, .invokevirtual 28, .return_])])
/-- BannerParade$State.clear()V -/
def xM69 : XT := (1, 2, 8, 0, [], [([0], [.aload 0, .iconst 0, .putfield 256, .aload 0, .iconst 0, .putfield 257, .aload 0, .iconst 0, .putfield 258, .aload 0, .iconst 0, .putfield 259, .aload 0, .getfield 262, .iconst 0, .putfield 224, .aload 0, .getfield 263, .iconst 0, .putfield 32, .aload 0, .getfield 264, .iconst 0, .putfield 128, .iconst 0, .istore 1, .goto_w 1]), ([0, 1], [.iload 1, .aload 0, .getfield 261, .arraylength, .if_icmp .ge 3, .goto_w 2]), ([0, 1], [.aload 0, .getfield 261, .iload 1, .iconst (-1), .iastore, .iinc 1 1, .goto 1]), ([], [.return_])])
/-- BannerParade$State.passTick()V -/
def xM70 : XT := (1, 1, 8, 0, [], [([0], [.aload 0, .dup, .getfield 256, .iconst 1, .iadd, .putfield 256, .aload 0, .invokevirtual 71, .aload 0, .getfield 262, .aload 0, .getfield 260, .iconst 0, .iaload, .aload 0, .getfield 260, .iconst 3, .iaload, .invokevirtual 54, .aload 0, .invokevirtual 72, .aload 0, .invokevirtual 73, .return_])])
/-- BannerParade$State.doPlans()V -/
def xM71 : XT := (1, 3, 8, 0, [], [([0], [.iconst 0, .istore 1, .goto_w 1]), ([0, 1], [.iload 1, .aload 0, .getfield 264, .getfield 128, .if_icmp .ge 9, .goto_w 2]), ([0, 1], [.aload 0, .getfield 264, .getfield 129, .iload 1, .iaload, .aload 0, .getfield 256, .if_icmp .ne 8, .goto_w 3]), ([0, 1], [.aload 0, .aload 0, .getfield 264, .getfield 130, .iload 1, .iaload, .invokevirtual 74, .istore 2, .aload 0, .getfield 264, .getfield 131, .iload 1, .iload 2, .ifCond .eq 5, .goto_w 4]), ([0, 1, 2], [.iconst 1, .goto 6]), ([0, 1, 2], [.iconst 2, .goto_w 6]), ([0, 1, 2], [.iastore, .iload 2, .ifCond .eq 8, .goto_w 7]), ([0, 1], [.aload 0, .aload 0, .getfield 264, .getfield 130, .iload 1, .iaload, .invokevirtual 75, .goto_w 8]), ([0, 1], [.iinc 1 1, .goto 1]), ([], [.return_])])
/-- BannerParade$State.dropOfTheWeak()V -/
def xM72 : XT := (1, 2, 8, 0, [], [([0], [.iconst 0, .istore 1, .goto_w 1]), ([0, 1], [.iload 1, .aload 0, .getfield 262, .getfield 224, .if_icmp .ge 6, .goto_w 2]), ([0, 1], [.aload 0, .getfield 262, .getfield 229, .iload 1, .iaload, .ifCond .eq 5, .goto_w 3]), ([0, 1], [.aload 0, .getfield 262, .getfield 228, .iload 1, .iaload, .ifCond .ne 5, .goto_w 4]), ([0, 1], [.aload 0, .iload 1, .invokevirtual 76, .goto_w 5]), ([0, 1], [.iinc 1 1, .goto 1]), ([], [.return_])])
/-- BannerParade$State.liftOnTheWay()V -/
def xM73 : XT := (1, 2, 8, 0, [], [([0], [.iconst 0, .istore 1, .goto_w 1]), ([0, 1], [.iload 1, .aload 0, .getfield 262, .getfield 224, .if_icmp .ge 6, .goto_w 2]), ([0, 1], [.aload 0, .getfield 263, .getfield 32, .ifCond .le 5, .goto_w 3]), ([0, 1], [.aload 0, .iload 1, .invokevirtual 77, .ifCond .eq 5, .goto_w 4]), ([0, 1], [.aload 0, .iload 1, .aload 0, .getfield 263, .aload 0, .getfield 262, .getfield 231, .iload 1, .iaload, .aload 0, .getfield 262, .getfield 230, .iload 1, .iaload, .invokevirtual 8, .invokevirtual 78, .goto_w 5]), ([0, 1], [.iinc 1 1, .goto 1]), ([], [.return_])])
/-- BannerParade$State.maySwap(I)Z -/
def xM74 : XT := (2, 2, 8, 2, [], [([0, 1], [.iload 1, .ifCond .lt 6, .goto_w 1]), ([0, 1], [.iload 1, .iconst 1, .iadd, .aload 0, .getfield 262, .getfield 224, .if_icmp .ge 6, .goto_w 2]), ([0, 1], [.aload 0, .getfield 262, .iload 1, .iconst 1, .iadd, .invokevirtual 51, .aload 0, .getfield 260, .iconst 5, .iaload, .if_icmp .gt 6, .goto_w 3]), ([0, 1], [.aload 0, .getfield 262, .getfield 228, .iload 1, .iaload, .iconst 1, .if_icmp .lt 6, .goto_w 4]), ([0, 1], [.aload 0, .getfield 262, .getfield 228, .iload 1, .iconst 1, .iadd, .iaload, .iconst 1, .if_icmp .lt 6, .goto_w 5]), ([], [.iconst 1, .goto 7]), ([], [.iconst 0, .goto_w 7]), ([], [.ireturn])])
/-- BannerParade$State.swapBanners(I)V -/
def xM75 : XT := (2, 2, 8, 0, [], [([0, 1], [.aload 0, .getfield 262, .iload 1, .invokevirtual 53, .aload 0, .getfield 262, .iload 1, .iconst (-2), .invokevirtual 52, .aload 0, .getfield 262, .iload 1, .iconst 1, .iadd, .iconst (-2), .invokevirtual 52, .aload 0, .dup, .getfield 257, .iconst 1, .iadd, .putfield 257, .return_])])
/-- BannerParade$State.dropBanner(I)V -/
def xM76 : XT := (2, 2, 8, 0, [], [([0, 1], [.aload 0, .getfield 263, .aload 0, .getfield 262, .getfield 229, .iload 1, .iaload, .aload 0, .getfield 262, .getfield 230, .iload 1, .iaload, .aload 0, .getfield 256, .invokevirtual 5, .aload 0, .getfield 262, .getfield 229, .iload 1, .iconst 0, .iastore, .aload 0, .dup, .getfield 258, .iconst 1, .iadd, .putfield 258, .return_])])
/-- BannerParade$State.mayLift(I)Z -/
def xM77 : XT := (2, 2, 8, 2, [], [([0, 1], [.aload 0, .getfield 262, .getfield 229, .iload 1, .iaload, .ifCond .ne 3, .goto_w 1]), ([0, 1], [.aload 0, .getfield 262, .getfield 228, .iload 1, .iaload, .aload 0, .getfield 260, .iconst 4, .iaload, .if_icmp .lt 3, .goto_w 2]), ([], [.iconst 1, .goto 4]), ([], [.iconst 0, .goto_w 4]), ([], [.ireturn])])
/-- BannerParade$State.liftBanner(II)V -/
def xM78 : XT := (3, 3, 8, 0, [], [([0, 1, 2], [.iload 2, .ifCond .lt 2, .goto_w 1]), ([0, 1, 2], [.iload 2, .aload 0, .getfield 263, .getfield 32, .if_icmp .lt 3, .goto_w 2]), ([], [.return_]), ([0, 1, 2], [.aload 0, .getfield 262, .getfield 229, .iload 1, .aload 0, .getfield 263, .getfield 33, .iload 2, .iaload, .iastore, .aload 0, .getfield 263, .iload 2, .invokevirtual 6, .aload 0, .dup, .getfield 259, .iconst 1, .iadd, .putfield 259, .return_])])
/-- BannerParade$State.isInSight(II)Z -/
def xM79 : XT := (3, 3, 8, 2, [], [([0, 1, 2], [.aload 0, .getfield 262, .getfield 229, .iload 1, .iaload, .ifCond .eq 3, .goto_w 1]), ([0, 1, 2], [.aload 0, .getfield 262, .getfield 230, .iload 1, .iaload, .iload 2, .isub, .invokestatic 384, .aload 0, .getfield 260, .iconst 1, .iaload, .if_icmp .gt 3, .goto_w 2]), ([], [.iconst 1, .goto 4]), ([], [.iconst 0, .goto_w 4]), ([], [.ireturn])])
/-- BannerParade$Tokens.<init>()V -/
def xM80 : XT := (1, 1, 9, 0, [], [([0], [.aload 0, .monitorexit, .aload 0, .iconst 700, .newarray .int, .putfield 288, .aload 0, .iconst 0, .putfield 289, .aload 0, .iconst 0, .putfield 290, .aload 0, .iconst 0, .putfield 291, .aload 0, .iconst 0, .putfield 292, .aload 0, .iconst 0, .putfield 293, .aload 0, .iconst 0, .putfield 294, .return_])])
/-- BannerParade$Tokens.putTwenty(IIIII)I -/
def xM81 : XT := (6, 6, 9, 1, [], [([0, 1, 2, 3, 4, 5], [.aload 0, .getfield 289, .iconst 20, .iadd, .iconst 700, .if_icmp .le 2, .goto_w 1]), ([], [.iconst (-1), .ireturn]), ([0, 1, 2, 3, 4, 5], [.aload 0, .iload 1, .invokevirtual 82, .aload 0, .iload 2, .invokevirtual 82, .aload 0, .iload 3, .invokevirtual 82, .aload 0, .iload 4, .invokevirtual 82, .aload 0, .iload 5, .invokevirtual 82, .aload 0, .getfield 289, .ireturn])])
/-- BannerParade$Tokens.putFour(I)V -/
def xM82 : XT := (2, 3, 9, 0, [], [([0, 1], [.iconst 24, .istore 2, .goto_w 1]), ([0, 1, 2], [.iload 2, .ifCond .lt 4, .goto_w 2]), ([0, 1, 2], [.aload 0, .getfield 289, .aload 0, .getfield 288, .arraylength, .if_icmp .ge 4, .goto_w 3]), ([0, 1, 2], [.aload 0, .getfield 288, .aload 0, .getfield 289, .iload 1, .iload 2, .iushr, .iconst 255, .iand, .iastore, .aload 0, .dup, .getfield 289, .iconst 1, .iadd, .putfield 289, .iinc 2 (-8), .goto 1]), ([], [.return_])])
/-- BannerParade$Tokens.begin(I)V -/
def xM83 : XT := (2, 2, 9, 0, [], [([0, 1], [.aload 0, .iconst 0, .iload 1, .aload 0, .getfield 288, .arraylength, .invokestatic 386, .invokestatic 385, .putfield 290, .aload 0, .iconst 0, .putfield 292, .return_])])
/-- BannerParade$Tokens.readToken()V -/
def xM84 : XT := (1, 1, 9, 0, [], [([0], [.aload 0, .getfield 292, .aload 0, .getfield 290, .if_icmp .ge 3, .goto_w 1]), ([0], [.aload 0, .getfield 288, .aload 0, .getfield 292, .iaload, .iconst 32, .if_icmp .ne 3, .goto_w 2]), ([0], [.aload 0, .dup, .getfield 292, .iconst 1, .iadd, .putfield 292, .goto 0]), ([0], [.aload 0, .aload 0, .getfield 292, .putfield 291, .aload 0, .getfield 291, .aload 0, .getfield 290, .if_icmp .lt 5, .goto_w 4]), ([0], [.aload 0, .iconst 0, .putfield 293, .goto 15]), ([0], [.aload 0, .getfield 288, .aload 0, .getfield 291, .iaload, .iconst 97, .if_icmp .lt 8, .goto_w 6]), ([0], [.aload 0, .getfield 288, .aload 0, .getfield 291, .iaload, .iconst 122, .if_icmp .gt 8, .goto_w 7]), ([0], [.aload 0, .invokevirtual 85, .goto 15]), ([0], [.aload 0, .getfield 288, .aload 0, .getfield 291, .iaload, .iconst 48, .if_icmp .lt 11, .goto_w 9]), ([0], [.aload 0, .getfield 288, .aload 0, .getfield 291, .iaload, .iconst 57, .if_icmp .gt 11, .goto_w 10]), ([0], [.aload 0, .invokevirtual 86, .goto 15]), ([0], [.aload 0, .aload 0, .getfield 288, .aload 0, .getfield 291, .iaload, .iconst 59, .if_icmp .ne 13, .goto_w 12]), ([0], [.iconst 3, .goto 14]), ([0], [.iconst 4, .goto_w 14]), ([0], [.putfield 293, .aload 0, .dup, .getfield 292, .iconst 1, .iadd, .putfield 292, .goto_w 15]), ([], [.return_])])
/-- BannerParade$Tokens.readWord()V -/
def xM85 : XT := (1, 1, 9, 0, [], [([0], [.aload 0, .getfield 292, .aload 0, .getfield 290, .if_icmp .ge 4, .goto_w 1]), ([0], [.aload 0, .getfield 288, .aload 0, .getfield 292, .iaload, .iconst 97, .if_icmp .lt 4, .goto_w 2]), ([0], [.aload 0, .getfield 288, .aload 0, .getfield 292, .iaload, .iconst 122, .if_icmp .gt 4, .goto_w 3]), ([0], [.aload 0, .dup, .getfield 292, .iconst 1, .iadd, .putfield 292, .goto 0]), ([0], [.aload 0, .aload 0, .getfield 292, .aload 0, .getfield 291, .isub, .iconst 8, .if_icmp .gt 6, .goto_w 5]), ([], [.iconst 1, .goto 7]), ([], [.iconst 4, .goto_w 7]), ([], [.putfield 293, .return_])])
/-- BannerParade$Tokens.readDigits()V -/
def xM86 : XT := (1, 1, 9, 0, [], [([0], [.aload 0, .iconst 0, .putfield 294, .goto_w 1]), ([0], [.aload 0, .getfield 292, .aload 0, .getfield 290, .if_icmp .ge 5, .goto_w 2]), ([0], [.aload 0, .getfield 288, .aload 0, .getfield 292, .iaload, .iconst 48, .if_icmp .lt 5, .goto_w 3]), ([0], [.aload 0, .getfield 288, .aload 0, .getfield 292, .iaload, .iconst 57, .if_icmp .gt 5, .goto_w 4]), ([0], [.aload 0, .aload 0, .getfield 294, .iconst 10, .imul, .aload 0, .getfield 288, .aload 0, .getfield 292, .iaload, .iadd, .iconst 48, .isub, .putfield 294, .aload 0, .dup, .getfield 292, .iconst 1, .iadd, .putfield 292, .goto 1]), ([0], [.aload 0, .aload 0, .getfield 292, .aload 0, .getfield 291, .isub, .iconst 4, .if_icmp .gt 7, .goto_w 6]), ([], [.iconst 2, .goto 8]), ([], [.iconst 4, .goto_w 8]), ([], [.putfield 293, .return_])])
/-- BannerParade$Tokens.wordLength()I -/
def xM87 : XT := (1, 1, 9, 1, [], [([0], [.aload 0, .getfield 293, .iconst 1, .if_icmp .ne 2, .goto_w 1]), ([0], [.aload 0, .getfield 292, .aload 0, .getfield 291, .isub, .goto 3]), ([], [.iconst 0, .goto_w 3]), ([], [.ireturn])])
/-- BannerParade$Tokens.byteOfToken(I)I -/
def xM88 : XT := (2, 3, 9, 1, [], [([0, 1], [.aload 0, .getfield 291, .iload 1, .iadd, .istore 2, .iload 1, .ifCond .lt 5, .goto_w 1]), ([0, 2], [.iload 2, .ifCond .lt 5, .goto_w 2]), ([0, 2], [.iload 2, .aload 0, .getfield 292, .if_icmp .ge 5, .goto_w 3]), ([0, 2], [.iload 2, .aload 0, .getfield 288, .arraylength, .if_icmp .ge 5, .goto_w 4]), ([0, 2], [.aload 0, .getfield 288, .iload 2, .iaload, .goto 6]), ([], [.iconst (-1), .goto_w 6]), ([], [.ireturn])])
/-- BannerParade$Tokens.isWord(Ljava/lang/String;)Z -/
def xM89 : XT := (2, 3, 9, 2, [], [([0, 1], [.aload 0, .invokevirtual 87, .aload 1, .invokevirtual 391, .if_icmp .eq 2, .goto_w 1]), ([], [.iconst 0, .ireturn]), ([0, 1], [.iconst 0, .istore 2, .goto_w 3]), ([0, 1, 2], [.iload 2, .aload 1, .invokevirtual 391, .if_icmp .ge 7, .goto_w 4]), ([0, 1, 2], [.aload 0, .iload 2, .invokevirtual 88, .aload 1, .iload 2, .invokevirtual 392, .if_icmp .eq 6, .goto_w 5]), ([], [.iconst 0, .ireturn]), ([0, 1, 2], [.iinc 2 1, .goto 3]), ([], [.iconst 1, .ireturn])])
/-- BannerParade.<init>()V -/
def xM90 : XT := (1, 1, 10, 0, [], [([0], [.aload 0, .monitorexit, .aload 0, .new 3, .dup, .invokespecial 18, .putfield 320, .aload 0, .new 8, .dup, .invokespecial 67, .putfield 321, .aload 0, .new 8, .dup, .invokespecial 67, .putfield 322, .aload 0, .new 6, .dup, .invokespecial 41, .putfield 323, .aload 0, .new 2, .dup, .invokespecial 10, .putfield 324, .aload 0, .new 5, .dup, .invokespecial 32, .putfield 325, .aload 0, .new 0, .dup, .invokespecial 0, .putfield 326, .aload 0, .iconst 0, .putfield 327, .return_])])
/-- BannerParade.append(IIIII)I -/
def xM91 : XT := (6, 6, 10, 1, [], [([0, 1, 2, 3, 4, 5], [.aload 0, .getfield 320, .getfield 96, .iload 1, .iload 2, .iload 3, .iload 4, .iload 5, .invokevirtual 81, .ireturn])])
/-- BannerParade.load(I)I -/
def xM92 : XT := (2, 3, 10, 1, [], [([0, 1], [.iload 1, .ifCond .lt 2, .goto_w 1]), ([0, 1], [.iload 1, .aload 0, .getfield 320, .getfield 96, .getfield 289, .if_icmp .le 3, .goto_w 2]), ([], [.checkcast 2]), ([0, 1], [.aload 0, .getfield 320, .iload 1, .invokevirtual 19, .istore 2, .aload 0, .getfield 320, .getfield 96, .iconst 0, .putfield 289, .iload 2, .invokestatic 160, .aload 0, .getfield 321, .aload 0, .getfield 320, .getfield 97, .invokevirtual 68, .aload 0, .getfield 323, .aload 0, .getfield 320, .getfield 98, .invokevirtual 42, .aload 0, .getfield 324, .invokevirtual 11, .aload 0, .getfield 324, .invokevirtual 12, .aload 0, .iconst 1, .putfield 327, .aload 0, .getfield 321, .getfield 262, .getfield 224, .ireturn])])
/-- BannerParade.parseError()I -/
def xM93 : XT := (1, 1, 10, 1, [], [([0], [.aload 0, .getfield 320, .getfield 99, .ireturn])])
/-- BannerParade.errorPosition()I -/
def xM94 : XT := (1, 1, 10, 1, [], [([0], [.aload 0, .getfield 320, .getfield 100, .ireturn])])
/-- BannerParade.buffered()I -/
def xM95 : XT := (1, 1, 10, 1, [], [([0], [.aload 0, .getfield 320, .getfield 96, .getfield 289, .ireturn])])
/-- BannerParade.count(I)I -/
def xM96 : XT := (2, 2, 10, 1, [], [([0, 1], [.aload 0, .invokevirtual 155, .iload 1, .iconst 0, .iconst 16, .invokestatic 159, .iload 1, .tableswitch 17 0 15 #[1, 2, 3, 4, 5, 6, 7, 8, 9, 10, 11, 12, 13, 14, 15, 16]]), ([0], [.aload 0, .getfield 321, .getfield 262, .getfield 224, .ireturn]), ([0], [.aload 0, .getfield 323, .getfield 192, .ireturn]), ([0], [.aload 0, .getfield 321, .getfield 264, .getfield 128, .ireturn]), ([0], [.aload 0, .getfield 321, .getfield 256, .ireturn]), ([0], [.aload 0, .getfield 321, .getfield 262, .invokevirtual 55, .ireturn]), ([0], [.aload 0, .getfield 321, .getfield 263, .getfield 32, .ireturn]), ([0], [.aload 0, .getfield 321, .getfield 257, .ireturn]), ([0], [.aload 0, .getfield 321, .getfield 264, .iconst 2, .invokevirtual 30, .ireturn]), ([0], [.aload 0, .getfield 321, .getfield 258, .ireturn]), ([0], [.aload 0, .getfield 321, .getfield 259, .ireturn]), ([0], [.aload 0, .invokevirtual 166, .invokestatic 383, .ireturn]), ([0], [.aload 0, .getfield 321, .getfield 264, .iconst 0, .invokevirtual 30, .ireturn]), ([0], [.aload 0, .getfield 321, .getfield 262, .iconst 0, .invokevirtual 62, .invokestatic 383, .ireturn]), ([0], [.aload 0, .getfield 321, .getfield 262, .invokevirtual 57, .ireturn]), ([0], [.aload 0, .getfield 321, .getfield 262, .aload 0, .getfield 321, .getfield 260, .iconst 0, .iaload, .invokevirtual 58, .ireturn]), ([0], [.aload 0, .getfield 321, .getfield 262, .invokevirtual 59, .ireturn]), ([0], [.aload 0, .invokevirtual 167, .ireturn])])
/-- BannerParade.setting(I)I -/
def xM97 : XT := (2, 2, 10, 1, [], [([0, 1], [.aload 0, .invokevirtual 155, .iload 1, .iconst 0, .iconst 5, .invokestatic 159, .aload 0, .getfield 321, .getfield 260, .iload 1, .iaload, .ireturn])])
/-- BannerParade.bearer(II)I -/
def xM98 : XT := (3, 4, 10, 1, [], [([0, 1, 2], [.aload 0, .invokevirtual 155, .aload 0, .iload 1, .invokevirtual 156, .iload 2, .iconst 0, .iconst 12, .invokestatic 159, .aload 0, .getfield 321, .getfield 262, .astore 3, .iload 2, .tableswitch 13 0 11 #[1, 2, 3, 4, 5, 6, 7, 8, 9, 10, 11, 12]]), ([1, 3], [.aload 3, .getfield 229, .iload 1, .iaload, .ireturn]), ([1, 3], [.aload 3, .getfield 230, .iload 1, .iaload, .ireturn]), ([1, 3], [.aload 3, .getfield 226, .iload 1, .iaload, .ireturn]), ([1, 3], [.aload 3, .getfield 227, .iload 1, .iaload, .ireturn]), ([1, 3], [.aload 3, .getfield 228, .iload 1, .iaload, .ireturn]), ([1, 3], [.aload 3, .iload 1, .invokevirtual 50, .ireturn]), ([1, 3], [.aload 3, .iload 1, .invokevirtual 51, .ireturn]), ([1, 3], [.aload 3, .getfield 232, .iload 1, .iaload, .ireturn]), ([1, 3], [.aload 3, .getfield 225, .iload 1, .iaload, .ireturn]), ([0, 1], [.aload 0, .iload 1, .invokevirtual 168, .ireturn]), ([1, 3], [.aload 3, .getfield 230, .iconst 0, .iaload, .aload 3, .getfield 230, .iload 1, .iaload, .isub, .ireturn]), ([1, 3], [.aload 3, .aload 3, .getfield 228, .iload 1, .iaload, .invokevirtual 63, .ireturn]), ([0, 1, 3], [.aload 0, .getfield 321, .getfield 263, .aload 3, .getfield 230, .iload 1, .iaload, .aload 3, .getfield 230, .iload 1, .iaload, .invokevirtual 7, .ifCond .le 15, .goto_w 14]), ([], [.iconst 1, .goto 16]), ([], [.iconst 0, .goto_w 16]), ([], [.ireturn])])
/-- BannerParade.stand(II)I -/
def xM99 : XT := (3, 4, 10, 1, [], [([0, 1, 2], [.aload 0, .invokevirtual 155, .aload 0, .iload 1, .invokevirtual 157, .iload 2, .iconst 0, .iconst 8, .invokestatic 159, .aload 0, .getfield 321, .getfield 260, .iconst 1, .iaload, .istore 3, .iload 2, .tableswitch 9 0 7 #[1, 2, 3, 4, 5, 6, 7, 8]]), ([0, 1], [.aload 0, .getfield 323, .getfield 193, .iload 1, .iaload, .ireturn]), ([0, 1], [.aload 0, .getfield 323, .getfield 194, .iload 1, .iaload, .ireturn]), ([0, 1], [.aload 0, .getfield 323, .getfield 195, .iload 1, .iaload, .ireturn]), ([0, 1], [.aload 0, .getfield 321, .getfield 261, .iload 1, .iaload, .ireturn]), ([0, 1], [.aload 0, .iload 1, .invokevirtual 169, .invokestatic 383, .ireturn]), ([0, 1], [.aload 0, .iload 1, .invokevirtual 161, .getfield 160, .ireturn]), ([0, 1], [.aload 0, .getfield 321, .getfield 262, .aload 0, .getfield 323, .getfield 194, .iload 1, .iaload, .invokevirtual 66, .ireturn]), ([0, 1, 3], [.aload 0, .getfield 321, .getfield 262, .aload 0, .getfield 323, .getfield 194, .iload 1, .iaload, .iload 3, .iadd, .invokevirtual 64, .ireturn]), ([0, 1, 3], [.aload 0, .getfield 321, .getfield 262, .aload 0, .getfield 323, .getfield 194, .iload 1, .iaload, .iload 3, .isub, .invokevirtual 65, .ireturn])])
/-- BannerParade.plan(II)I -/
def xM100 : XT := (3, 4, 10, 1, [], [([0, 1, 2], [.aload 0, .invokevirtual 155, .aload 0, .getfield 321, .getfield 264, .astore 3, .iload 1, .aload 3, .getfield 128, .invokestatic 158, .iload 2, .iconst 0, .iconst 3, .invokestatic 159, .iload 2, .tableswitch 4 0 2 #[1, 2, 3]]), ([1, 3], [.aload 3, .getfield 129, .iload 1, .iaload, .ireturn]), ([1, 3], [.aload 3, .getfield 130, .iload 1, .iaload, .ireturn]), ([1, 3], [.aload 3, .getfield 131, .iload 1, .iaload, .ireturn]), ([0, 1, 3], [.aload 3, .getfield 131, .iload 1, .iaload, .ifCond .ne 6, .goto_w 5]), ([0, 1, 3], [.aload 3, .getfield 129, .iload 1, .iaload, .aload 0, .getfield 321, .getfield 256, .isub, .goto 7]), ([], [.iconst (-1), .goto_w 7]), ([], [.ireturn])])
/-- BannerParade.lying(II)I -/
def xM101 : XT := (3, 4, 10, 1, [], [([0, 1, 2], [.aload 0, .invokevirtual 155, .aload 0, .getfield 321, .getfield 263, .astore 3, .iload 1, .aload 3, .getfield 32, .invokestatic 158, .iload 2, .iconst 0, .iconst 2, .invokestatic 159, .iload 2, .lookupswitch 3 #[(0, 1), (1, 2)]]), ([1, 3], [.aload 3, .getfield 33, .iload 1, .iaload, .ireturn]), ([1, 3], [.aload 3, .getfield 34, .iload 1, .iaload, .ireturn]), ([1, 3], [.aload 3, .getfield 35, .iload 1, .iaload, .ireturn])])
/-- BannerParade.wordByte(II)I -/
def xM102 : XT := (3, 3, 10, 1, [], [([0, 1, 2], [.aload 0, .invokevirtual 155, .aload 0, .iload 1, .invokevirtual 157, .aload 0, .getfield 323, .iload 1, .iload 2, .invokevirtual 45, .ireturn])])
/-- BannerParade.readByte(II)I -/
def xM103 : XT := (3, 3, 10, 1, [], [([0, 1, 2], [.aload 0, .invokevirtual 155, .aload 0, .iload 1, .invokevirtual 157, .aload 0, .iload 1, .invokevirtual 161, .iload 2, .invokevirtual 35, .ireturn])])
/-- BannerParade.seen(I)I -/
def xM104 : XT := (2, 2, 10, 1, [], [([0, 1], [.aload 0, .invokevirtual 155, .aload 0, .iload 1, .invokevirtual 157, .aload 0, .iload 1, .invokevirtual 169, .ireturn])])
/-- BannerParade.matches(I)I -/
def xM105 : XT := (2, 2, 10, 1, [], [([0, 1], [.aload 0, .invokevirtual 155, .aload 0, .iload 1, .invokevirtual 157, .aload 0, .iload 1, .invokevirtual 161, .aload 0, .getfield 323, .iload 1, .invokevirtual 37, .ireturn])])
/-- BannerParade.isRead(I)Z -/
def xM106 : XT := (2, 2, 10, 2, [], [([0, 1], [.aload 0, .invokevirtual 155, .aload 0, .iload 1, .invokevirtual 157, .aload 0, .iload 1, .invokevirtual 161, .aload 0, .getfield 323, .iload 1, .invokevirtual 39, .ireturn])])
/-- BannerParade.share(I)F -/
def xM107 : XT := (2, 2, 10, 6, [], [([0, 1], [.aload 0, .invokevirtual 155, .aload 0, .iload 1, .invokevirtual 157, .aload 0, .iload 1, .invokevirtual 161, .aload 0, .getfield 323, .iload 1, .invokevirtual 40, .freturn])])
/-- BannerParade.shareBits(I)I -/
def xM108 : XT := (2, 2, 10, 1, [], [([0, 1], [.aload 0, .invokevirtual 155, .aload 0, .iload 1, .invokevirtual 157, .aload 0, .iload 1, .invokevirtual 161, .aload 0, .getfield 323, .iload 1, .invokevirtual 40, .invokestatic 170, .ireturn])])
/-- BannerParade.missing(I)I -/
def xM109 : XT := (2, 4, 10, 1, [], [([0, 1], [.aload 0, .invokevirtual 155, .aload 0, .iload 1, .invokevirtual 157, .iconst 0, .istore 2, .iconst 1, .istore 3, .goto_w 1]), ([0, 1, 2, 3], [.iload 3, .iconst 26, .if_icmp .gt 3, .goto_w 2]), ([0, 1, 2, 3], [.iload 2, .iconst 0, .aload 0, .getfield 323, .iload 1, .iload 3, .invokevirtual 46, .aload 0, .getfield 321, .getfield 262, .iload 3, .invokevirtual 56, .isub, .invokestatic 385, .iadd, .istore 2, .iinc 3 1, .goto 1]), ([2], [.iload 2, .ireturn])])
/-- BannerParade.seenAt(II)I -/
def xM110 : XT := (3, 3, 10, 1, [], [([0, 1, 2], [.aload 0, .invokevirtual 155, .aload 0, .iload 1, .invokevirtual 157, .aload 0, .iload 1, .invokevirtual 161, .iload 2, .invokevirtual 36, .ireturn])])
/-- BannerParade.blanks(I)I -/
def xM111 : XT := (2, 3, 10, 1, [], [([0, 1], [.aload 0, .invokevirtual 155, .aload 0, .iload 1, .invokevirtual 157, .aload 0, .iload 1, .invokevirtual 161, .astore 2, .aload 2, .getfield 160, .aload 2, .getfield 161, .isub, .ireturn])])
/-- BannerParade.head(I)I -/
def xM112 : XT := (2, 2, 10, 1, [], [([0, 1], [.aload 0, .invokevirtual 155, .aload 0, .iload 1, .invokevirtual 157, .aload 0, .iload 1, .invokevirtual 161, .aload 0, .getfield 323, .iload 1, .invokevirtual 38, .ireturn])])
/-- BannerParade.holder(I)I -/
def xM113 : XT := (2, 3, 10, 1, [], [([0, 1], [.aload 0, .invokevirtual 155, .iload 1, .iconst 1, .iconst 26, .invokestatic 159, .iconst 0, .istore 2, .goto_w 1]), ([0, 1, 2], [.iload 2, .aload 0, .getfield 321, .getfield 262, .getfield 224, .if_icmp .ge 5, .goto_w 2]), ([0, 1, 2], [.aload 0, .getfield 321, .getfield 262, .getfield 229, .iload 2, .iaload, .iload 1, .if_icmp .ne 4, .goto_w 3]), ([2], [.iload 2, .ireturn]), ([0, 1, 2], [.iinc 2 1, .goto 1]), ([], [.iconst (-1), .ireturn])])
/-- BannerParade.copies(I)I -/
def xM114 : XT := (2, 2, 10, 1, [], [([0, 1], [.aload 0, .invokevirtual 155, .iload 1, .iconst 1, .iconst 26, .invokestatic 159, .aload 0, .getfield 321, .getfield 262, .iload 1, .invokevirtual 56, .aload 0, .getfield 321, .getfield 263, .iload 1, .invokevirtual 9, .iadd, .ireturn])])
/-- BannerParade.tired(I)I -/
def xM115 : XT := (2, 2, 10, 1, [], [([0, 1], [.aload 0, .invokevirtual 155, .iload 1, .iconst 0, .iconst 100, .invokestatic 159, .aload 0, .getfield 321, .getfield 262, .iload 1, .invokevirtual 62, .ireturn])])
/-- BannerParade.swappers()I -/
def xM116 : XT := (1, 3, 10, 1, [], [([0], [.aload 0, .invokevirtual 155, .iconst 0, .istore 1, .iconst 0, .istore 2, .goto_w 1]), ([0, 1, 2], [.iload 2, .aload 0, .getfield 321, .getfield 262, .getfield 224, .if_icmp .ge 5, .goto_w 2]), ([0, 1, 2], [.aload 0, .getfield 321, .iload 2, .invokevirtual 74, .ifCond .eq 4, .goto_w 3]), ([0, 1, 2], [.iload 1, .iconst 1, .iload 2, .ishl, .ior, .istore 1, .goto_w 4]), ([0, 1, 2], [.iinc 2 1, .goto 1]), ([1], [.iload 1, .ireturn])])
/-- BannerParade.nextPlan()I -/
def xM117 : XT := (1, 1, 10, 1, [], [([0], [.aload 0, .invokevirtual 155, .aload 0, .getfield 321, .getfield 264, .invokevirtual 31, .ireturn])])
/-- BannerParade.lyingFrom(II)I -/
def xM118 : XT := (3, 3, 10, 1, [], [([0, 1, 2], [.aload 0, .invokevirtual 155, .aload 0, .getfield 321, .getfield 263, .iload 1, .iload 2, .invokevirtual 7, .ireturn])])
/-- BannerParade.bestStand()I -/
def xM119 : XT := (1, 5, 10, 1, [], [([0], [.aload 0, .invokevirtual 155, .iconst (-1), .istore 1, .ldc_w 3212836864, .fstore 2, .iconst 0, .istore 3, .goto_w 1]), ([0, 1, 2, 3], [.iload 3, .aload 0, .getfield 323, .getfield 192, .if_icmp .ge 5, .goto_w 2]), ([0, 1, 2, 3], [.aload 0, .iload 3, .invokevirtual 161, .aload 0, .getfield 323, .iload 3, .invokevirtual 40, .fstore 4, .fload 4, .fload 2, .fcmp .l, .ifCond .le 4, .goto_w 3]), ([0, 3, 4], [.iload 3, .istore 1, .fload 4, .fstore 2, .goto_w 4]), ([0, 1, 2, 3], [.iinc 3 1, .goto 1]), ([1], [.iload 1, .ireturn])])
/-- BannerParade.readStands()I -/
def xM120 : XT := (1, 1, 10, 1, [], [([0], [.aload 0, .invokevirtual 155, .aload 0, .invokevirtual 166, .ireturn])])
/-- BannerParade.weakest()I -/
def xM121 : XT := (1, 3, 10, 1, [], [([0], [.aload 0, .invokevirtual 155, .iconst (-1), .istore 1, .iconst 0, .istore 2, .goto_w 1]), ([0, 1, 2], [.iload 2, .aload 0, .getfield 321, .getfield 262, .getfield 224, .if_icmp .ge 6, .goto_w 2]), ([0, 1, 2], [.iload 1, .iconst (-1), .if_icmp .eq 4, .goto_w 3]), ([0, 1, 2], [.aload 0, .getfield 321, .getfield 262, .getfield 228, .iload 2, .iaload, .aload 0, .getfield 321, .getfield 262, .getfield 228, .iload 1, .iaload, .if_icmp .ge 5, .goto_w 4]), ([0, 2], [.iload 2, .istore 1, .goto_w 5]), ([0, 1, 2], [.iinc 2 1, .goto 1]), ([1], [.iload 1, .ireturn])])
/-- BannerParade.widest()I -/
def xM122 : XT := (1, 3, 10, 1, [], [([0], [.aload 0, .invokevirtual 155, .iconst (-1), .istore 1, .iconst 1, .istore 2, .goto_w 1]), ([0, 1, 2], [.iload 2, .aload 0, .getfield 321, .getfield 262, .getfield 224, .if_icmp .ge 6, .goto_w 2]), ([0, 1, 2], [.iload 1, .iconst (-1), .if_icmp .eq 4, .goto_w 3]), ([0, 1, 2], [.aload 0, .getfield 321, .getfield 262, .iload 2, .invokevirtual 51, .aload 0, .getfield 321, .getfield 262, .iload 1, .invokevirtual 51, .if_icmp .le 5, .goto_w 4]), ([0, 2], [.iload 2, .istore 1, .goto_w 5]), ([0, 1, 2], [.iinc 2 1, .goto 1]), ([1], [.iload 1, .ireturn])])
/-- BannerParade.stretch()I -/
def xM123 : XT := (1, 2, 10, 1, [], [([0], [.aload 0, .invokevirtual 155, .aload 0, .getfield 321, .getfield 262, .astore 1, .aload 1, .getfield 224, .iconst 2, .if_icmp .ge 2, .goto_w 1]), ([], [.iconst 0, .goto 3]), ([1], [.aload 1, .getfield 230, .iconst 0, .iaload, .aload 1, .getfield 230, .aload 1, .getfield 224, .iconst 1, .isub, .iaload, .isub, .goto_w 3]), ([], [.ireturn])])
/-- BannerParade.meanStrength()D -/
def xM124 : XT := (1, 1, 10, 7, [], [([0], [.aload 0, .invokevirtual 155, .aload 0, .getfield 321, .getfield 262, .invokevirtual 61, .dreturn])])
/-- BannerParade.strengthBits()J -/
def xM125 : XT := (1, 1, 10, 5, [], [([0], [.aload 0, .invokevirtual 155, .aload 0, .getfield 321, .getfield 262, .invokevirtual 61, .invokestatic 171, .lreturn])])
/-- BannerParade.readsIn(I)I -/
def xM126 : XT := (2, 3, 10, 1, [], [([0, 1], [.aload 0, .invokevirtual 155, .aload 0, .iload 1, .invokevirtual 157, .aload 0, .getfield 322, .aload 0, .getfield 321, .invokevirtual 68, .iconst 0, .istore 2, .goto_w 1]), ([0, 1, 2], [.iload 2, .iconst 300, .if_icmp .ge 5, .goto_w 2]), ([0, 1, 2], [.aload 0, .iload 1, .invokevirtual 162, .aload 0, .getfield 323, .iload 1, .invokevirtual 39, .ifCond .eq 4, .goto_w 3]), ([2], [.iload 2, .ireturn]), ([0, 1, 2], [.aload 0, .getfield 322, .invokevirtual 70, .iinc 2 1, .goto 1]), ([0, 1], [.aload 0, .iload 1, .invokevirtual 162, .aload 0, .getfield 323, .iload 1, .invokevirtual 39, .ifCond .eq 7, .goto_w 6]), ([], [.iconst 300, .goto 8]), ([], [.iconst (-1), .goto_w 8]), ([], [.ireturn])])
/-- BannerParade.passedIn(I)I -/
def xM127 : XT := (2, 4, 10, 1, [], [([0, 1], [.aload 0, .invokevirtual 155, .aload 0, .iload 1, .invokevirtual 157, .aload 0, .getfield 323, .getfield 194, .iload 1, .iaload, .aload 0, .getfield 321, .getfield 260, .iconst 1, .iaload, .iadd, .istore 2, .aload 0, .getfield 322, .aload 0, .getfield 321, .invokevirtual 68, .iconst 0, .istore 3, .goto_w 1]), ([0, 2, 3], [.iload 3, .iconst 300, .if_icmp .ge 5, .goto_w 2]), ([0, 2, 3], [.aload 0, .getfield 322, .getfield 262, .iload 2, .invokevirtual 64, .aload 0, .getfield 322, .getfield 262, .getfield 224, .if_icmp .ne 4, .goto_w 3]), ([3], [.iload 3, .ireturn]), ([0, 2, 3], [.aload 0, .getfield 322, .invokevirtual 70, .iinc 3 1, .goto 1]), ([0, 2], [.aload 0, .getfield 322, .getfield 262, .iload 2, .invokevirtual 64, .aload 0, .getfield 322, .getfield 262, .getfield 224, .if_icmp .ne 7, .goto_w 6]), ([], [.iconst 300, .goto 8]), ([], [.iconst (-1), .goto_w 8]), ([], [.ireturn])])
/-- BannerParade.placeIn(II)I -/
def xM128 : XT := (3, 3, 10, 1, [], [([0, 1, 2], [.aload 0, .invokevirtual 155, .aload 0, .iload 1, .invokevirtual 156, .iload 2, .iconst 0, .iconst 300, .invokestatic 159, .aload 0, .iload 2, .invokevirtual 163, .aload 0, .getfield 322, .getfield 262, .getfield 230, .iload 1, .iaload, .ireturn])])
/-- BannerParade.strengthIn(II)I -/
def xM129 : XT := (3, 3, 10, 1, [], [([0, 1, 2], [.aload 0, .invokevirtual 155, .aload 0, .iload 1, .invokevirtual 156, .iload 2, .iconst 0, .iconst 300, .invokestatic 159, .aload 0, .iload 2, .invokevirtual 163, .aload 0, .getfield 322, .getfield 262, .getfield 228, .iload 1, .iaload, .ireturn])])
/-- BannerParade.bannerIn(II)I -/
def xM130 : XT := (3, 3, 10, 1, [], [([0, 1, 2], [.aload 0, .invokevirtual 155, .aload 0, .iload 1, .invokevirtual 156, .iload 2, .iconst 0, .iconst 300, .invokestatic 159, .aload 0, .iload 2, .invokevirtual 163, .aload 0, .getfield 322, .getfield 262, .getfield 229, .iload 1, .iaload, .ireturn])])
/-- BannerParade.dropsIn(I)I -/
def xM131 : XT := (2, 2, 10, 1, [], [([0, 1], [.aload 0, .invokevirtual 155, .iload 1, .iconst 0, .iconst 300, .invokestatic 159, .aload 0, .iload 1, .invokevirtual 163, .aload 0, .getfield 322, .getfield 258, .aload 0, .getfield 321, .getfield 258, .isub, .ireturn])])
/-- BannerParade.firstDrop()I -/
def xM132 : XT := (1, 1, 10, 1, [], [([0], [.aload 0, .invokevirtual 155, .aload 0, .getfield 322, .aload 0, .getfield 321, .invokevirtual 68, .aload 0, .iconst 300, .invokevirtual 164, .ireturn])])
/-- BannerParade.shareIn(II)F -/
def xM133 : XT := (3, 3, 10, 6, [], [([0, 1, 2], [.aload 0, .invokevirtual 155, .aload 0, .iload 1, .invokevirtual 157, .iload 2, .iconst 0, .iconst 300, .invokestatic 159, .aload 0, .iload 2, .invokevirtual 163, .aload 0, .iload 1, .invokevirtual 162, .aload 0, .getfield 323, .iload 1, .invokevirtual 40, .freturn])])
/-- BannerParade.bestShare(II)F -/
def xM134 : XT := (3, 6, 10, 6, [], [([0, 1, 2], [.aload 0, .invokevirtual 155, .aload 0, .iload 1, .invokevirtual 157, .iload 2, .iconst 0, .iconst 300, .invokestatic 159, .aload 0, .getfield 322, .aload 0, .getfield 321, .invokevirtual 68, .aload 0, .iload 1, .invokevirtual 162, .aload 0, .getfield 323, .iload 1, .invokevirtual 40, .fstore 3, .iconst 0, .istore 4, .goto_w 1]), ([0, 1, 2, 3, 4], [.iload 4, .iload 2, .if_icmp .ge 6, .goto_w 2]), ([0, 1, 2, 3, 4], [.aload 0, .getfield 322, .invokevirtual 70, .aload 0, .iload 1, .invokevirtual 162, .aload 0, .getfield 323, .iload 1, .invokevirtual 40, .fstore 5, .fload 5, .fload 3, .fcmp .l, .ifCond .le 4, .goto_w 3]), ([0, 1, 2, 4, 5], [.fload 5, .goto 5]), ([0, 1, 2, 3, 4], [.fload 3, .goto_w 5]), ([0, 1, 2, 4], [.fstore 3, .iinc 4 1, .goto 1]), ([3], [.fload 3, .freturn])])
/-- BannerParade.bestSwap(I)I -/
def xM135 : XT := (2, 6, 10, 1, [], [([0, 1], [.aload 0, .invokevirtual 155, .aload 0, .iload 1, .invokevirtual 157, .iconst (-1), .istore 2, .aload 0, .iload 1, .invokevirtual 161, .aload 0, .getfield 323, .iload 1, .invokevirtual 40, .fstore 3, .aload 0, .getfield 322, .aload 0, .getfield 321, .invokevirtual 68, .iconst 0, .istore 4, .goto_w 1]), ([0, 1, 2, 3, 4], [.iload 4, .iconst 1, .iadd, .aload 0, .getfield 322, .getfield 262, .getfield 224, .if_icmp .ge 5, .goto_w 2]), ([0, 1, 2, 3, 4], [.aload 0, .getfield 322, .getfield 262, .iload 4, .invokevirtual 53, .aload 0, .iload 1, .invokevirtual 162, .aload 0, .getfield 323, .iload 1, .invokevirtual 40, .fstore 5, .aload 0, .getfield 322, .getfield 262, .iload 4, .invokevirtual 53, .fload 5, .fload 3, .fcmp .l, .ifCond .le 4, .goto_w 3]), ([0, 1, 4, 5], [.iload 4, .istore 2, .fload 5, .fstore 3, .goto_w 4]), ([0, 1, 2, 3, 4], [.iinc 4 1, .goto 1]), ([2], [.iload 2, .ireturn])])
/-- BannerParade.closedIn(I)I -/
def xM136 : XT := (2, 4, 10, 1, [], [([0, 1], [.aload 0, .invokevirtual 155, .aload 0, .iload 1, .invokevirtual 156, .iload 1, .ifCond .ne 2, .goto_w 1]), ([], [.iconst (-1), .ireturn]), ([0, 1], [.aload 0, .getfield 321, .getfield 260, .iconst 0, .iaload, .istore 2, .aload 0, .getfield 322, .aload 0, .getfield 321, .invokevirtual 68, .iconst 0, .istore 3, .goto_w 3]), ([0, 1, 2, 3], [.iload 3, .iconst 300, .if_icmp .ge 7, .goto_w 4]), ([0, 1, 2, 3], [.aload 0, .getfield 322, .getfield 262, .iload 1, .invokevirtual 51, .iload 2, .if_icmp .ne 6, .goto_w 5]), ([3], [.iload 3, .ireturn]), ([0, 1, 2, 3], [.aload 0, .getfield 322, .invokevirtual 70, .iinc 3 1, .goto 3]), ([0, 1, 2], [.aload 0, .getfield 322, .getfield 262, .iload 1, .invokevirtual 51, .iload 2, .if_icmp .ne 9, .goto_w 8]), ([], [.iconst 300, .goto 10]), ([], [.iconst (-1), .goto_w 10]), ([], [.ireturn])])
/-- BannerParade.leastRest()I -/
def xM137 : XT := (1, 2, 10, 1, [], [([0], [.aload 0, .invokevirtual 155, .iconst 0, .istore 1, .goto_w 1]), ([0, 1], [.iload 1, .iconst 50, .if_icmp .gt 5, .goto_w 2]), ([0, 1], [.aload 0, .getfield 322, .aload 0, .getfield 321, .invokevirtual 68, .aload 0, .getfield 322, .getfield 260, .iconst 3, .iload 1, .iastore, .aload 0, .iconst 100, .invokevirtual 164, .iconst (-1), .if_icmp .ne 4, .goto_w 3]), ([1], [.iload 1, .ireturn]), ([0, 1], [.iinc 1 1, .goto 1]), ([], [.iconst (-1), .ireturn])])
/-- BannerParade.writeStand(I)I -/
def xM138 : XT := (2, 4, 10, 1, [], [([0, 1], [.aload 0, .invokevirtual 155, .aload 0, .iload 1, .invokevirtual 157, .aload 0, .iload 1, .invokevirtual 161, .astore 2, .aload 0, .getfield 326, .iconst 0, .putfield 0, .iconst 0, .istore 3, .goto_w 1]), ([0, 2, 3], [.iload 3, .aload 2, .getfield 160, .if_icmp .ge 3, .goto_w 2]), ([0, 2, 3], [.aload 0, .getfield 326, .aload 2, .iload 3, .invokevirtual 35, .invokevirtual 1, .iinc 3 1, .goto 1]), ([0], [.aload 0, .getfield 326, .getfield 0, .ireturn])])
/-- BannerParade.writeRow()I -/
def xM139 : XT := (1, 3, 10, 1, [], [([0], [.aload 0, .invokevirtual 155, .aload 0, .getfield 326, .iconst 0, .putfield 0, .iconst 0, .istore 1, .goto_w 1]), ([0, 1], [.iload 1, .aload 0, .getfield 321, .getfield 262, .getfield 224, .if_icmp .ge 6, .goto_w 2]), ([0, 1], [.aload 0, .getfield 321, .getfield 262, .getfield 229, .iload 1, .iaload, .istore 2, .aload 0, .getfield 326, .iload 2, .ifCond .ne 4, .goto_w 3]), ([0, 1], [.iconst 45, .goto 5]), ([0, 1, 2], [.iconst 96, .iload 2, .iadd, .goto_w 5]), ([0, 1], [.invokevirtual 1, .iinc 1 1, .goto 1]), ([0], [.aload 0, .getfield 326, .getfield 0, .ireturn])])
/-- BannerParade.writePlaces()I -/
def xM140 : XT := (1, 2, 10, 1, [], [([0], [.aload 0, .invokevirtual 155, .aload 0, .getfield 326, .iconst 0, .putfield 0, .iconst 0, .istore 1, .goto_w 1]), ([0, 1], [.iload 1, .aload 0, .getfield 321, .getfield 262, .getfield 224, .if_icmp .ge 5, .goto_w 2]), ([0, 1], [.iload 1, .ifCond .le 4, .goto_w 3]), ([0, 1], [.aload 0, .getfield 326, .iconst 44, .invokevirtual 1, .goto_w 4]), ([0, 1], [.aload 0, .getfield 326, .aload 0, .getfield 321, .getfield 262, .getfield 230, .iload 1, .iaload, .invokevirtual 2, .iinc 1 1, .goto 1]), ([0], [.aload 0, .getfield 326, .getfield 0, .ireturn])])
/-- BannerParade.textByte(I)I -/
def xM141 : XT := (2, 2, 10, 1, [], [([0, 1], [.iload 1, .aload 0, .getfield 326, .getfield 0, .invokestatic 158, .aload 0, .getfield 326, .getfield 1, .iload 1, .iaload, .ireturn])])
/-- BannerParade.tick(I)I -/
def xM142 : XT := (2, 4, 10, 1, [], [([0, 1], [.aload 0, .invokevirtual 155, .iload 1, .iconst 1, .iconst 100, .invokestatic 159, .aload 0, .getfield 321, .getfield 256, .iload 1, .iadd, .iconst 5000, .if_icmp .gt 2, .goto_w 1]), ([0, 1], [.iconst 1, .goto 3]), ([0, 1], [.iconst 0, .goto_w 3]), ([0, 1], [.invokestatic 160, .aload 0, .getfield 324, .aload 0, .getfield 321, .invokevirtual 13, .aload 0, .invokevirtual 166, .invokestatic 383, .istore 2, .iconst 0, .istore 3, .goto_w 4]), ([0, 1, 2, 3], [.iload 3, .iload 1, .if_icmp .ge 6, .goto_w 5]), ([0, 1, 2, 3], [.aload 0, .getfield 321, .invokevirtual 70, .aload 0, .invokevirtual 165, .iinc 3 1, .goto 4]), ([0, 2], [.aload 0, .invokevirtual 166, .invokestatic 383, .iload 2, .isub, .ireturn])])
/-- BannerParade.swap(I)I -/
def xM143 : XT := (2, 2, 10, 1, [], [([0, 1], [.aload 0, .invokevirtual 155, .aload 0, .iload 1, .invokevirtual 156, .aload 0, .getfield 321, .iload 1, .invokevirtual 74, .invokestatic 160, .aload 0, .getfield 324, .aload 0, .getfield 321, .invokevirtual 13, .aload 0, .getfield 321, .iload 1, .invokevirtual 75, .aload 0, .getfield 321, .getfield 262, .getfield 229, .iload 1, .iaload, .ireturn])])
/-- BannerParade.drop(I)I -/
def xM144 : XT := (2, 2, 10, 1, [], [([0, 1], [.aload 0, .invokevirtual 155, .aload 0, .iload 1, .invokevirtual 156, .aload 0, .getfield 321, .getfield 262, .getfield 229, .iload 1, .iaload, .ifCond .eq 2, .goto_w 1]), ([0, 1], [.iconst 1, .goto 3]), ([0, 1], [.iconst 0, .goto_w 3]), ([0, 1], [.invokestatic 160, .aload 0, .getfield 324, .aload 0, .getfield 321, .invokevirtual 13, .aload 0, .getfield 321, .iload 1, .invokevirtual 76, .aload 0, .getfield 321, .getfield 263, .getfield 32, .ireturn])])
/-- BannerParade.pick(I)I -/
def xM145 : XT := (2, 3, 10, 1, [], [([0, 1], [.aload 0, .invokevirtual 155, .aload 0, .iload 1, .invokevirtual 156, .aload 0, .getfield 321, .getfield 263, .aload 0, .getfield 321, .getfield 262, .getfield 230, .iload 1, .iaload, .aload 0, .getfield 321, .getfield 262, .getfield 230, .iload 1, .iaload, .invokevirtual 8, .istore 2, .aload 0, .getfield 321, .iload 1, .invokevirtual 77, .ifCond .eq 3, .goto_w 1]), ([0, 1, 2], [.iload 2, .iconst (-1), .if_icmp .eq 3, .goto_w 2]), ([0, 1, 2], [.iconst 1, .goto 4]), ([0, 1, 2], [.iconst 0, .goto_w 4]), ([0, 1, 2], [.invokestatic 160, .aload 0, .getfield 324, .aload 0, .getfield 321, .invokevirtual 13, .aload 0, .getfield 321, .iload 1, .iload 2, .invokevirtual 78, .aload 0, .getfield 321, .getfield 262, .getfield 229, .iload 1, .iaload, .ireturn])])
/-- BannerParade.strengthen(II)I -/
def xM146 : XT := (3, 3, 10, 1, [], [([0, 1, 2], [.aload 0, .invokevirtual 155, .aload 0, .iload 1, .invokevirtual 156, .iload 2, .iconst (-100), .iconst 100, .invokestatic 159, .aload 0, .getfield 324, .aload 0, .getfield 321, .invokevirtual 13, .aload 0, .getfield 321, .getfield 262, .iload 1, .iload 2, .invokevirtual 52, .aload 0, .getfield 321, .getfield 262, .getfield 228, .iload 1, .iaload, .ireturn])])
/-- BannerParade.rest(I)I -/
def xM147 : XT := (2, 3, 10, 1, [], [([0, 1], [.aload 0, .invokevirtual 155, .iload 1, .iconst 1, .iconst 100, .invokestatic 159, .aload 0, .getfield 324, .aload 0, .getfield 321, .invokevirtual 13, .iconst 0, .istore 2, .goto_w 1]), ([0, 1, 2], [.iload 2, .aload 0, .getfield 321, .getfield 262, .getfield 224, .if_icmp .ge 3, .goto_w 2]), ([0, 1, 2], [.aload 0, .getfield 321, .getfield 262, .iload 2, .iload 1, .invokevirtual 52, .iinc 2 1, .goto 1]), ([0], [.aload 0, .getfield 321, .getfield 262, .invokevirtual 60, .ireturn])])
/-- BannerParade.setStep(II)I -/
def xM148 : XT := (3, 4, 10, 1, [], [([0, 1, 2], [.aload 0, .invokevirtual 155, .aload 0, .iload 1, .invokevirtual 156, .iload 2, .iconst 1, .iconst 200, .invokestatic 159, .aload 0, .getfield 324, .aload 0, .getfield 321, .invokevirtual 13, .aload 0, .getfield 321, .getfield 262, .getfield 226, .iload 1, .iaload, .istore 3, .aload 0, .getfield 321, .getfield 262, .getfield 226, .iload 1, .iload 2, .iastore, .iload 3, .ireturn])])
/-- BannerParade.addPlan(II)I -/
def xM149 : XT := (3, 3, 10, 1, [], [([0, 1, 2], [.aload 0, .invokevirtual 155, .aload 0, .iload 2, .invokevirtual 156, .iload 1, .aload 0, .getfield 321, .getfield 256, .iconst 1, .iadd, .iconst 5000, .invokestatic 159, .iload 2, .iconst 1, .iadd, .aload 0, .getfield 321, .getfield 262, .getfield 224, .if_icmp .ge 3, .goto_w 1]), ([0, 1, 2], [.aload 0, .getfield 321, .getfield 264, .getfield 128, .iconst 12, .if_icmp .ge 3, .goto_w 2]), ([0, 1, 2], [.iconst 1, .goto 4]), ([0, 1, 2], [.iconst 0, .goto_w 4]), ([0, 1, 2], [.invokestatic 160, .aload 0, .getfield 324, .aload 0, .getfield 321, .invokevirtual 13, .aload 0, .getfield 321, .getfield 264, .iload 1, .iload 2, .invokevirtual 29, .aload 0, .getfield 321, .getfield 264, .getfield 128, .iconst 1, .isub, .ireturn])])
/-- BannerParade.set(II)I -/
def xM150 : XT := (3, 4, 10, 1, [], [([0, 1, 2], [.aload 0, .invokevirtual 155, .iload 1, .iconst 0, .iconst 5, .invokestatic 159, .iload 2, .getstatic 0, .iload 1, .iaload, .getstatic 1, .iload 1, .iaload, .invokestatic 159, .aload 0, .getfield 324, .aload 0, .getfield 321, .invokevirtual 13, .aload 0, .getfield 321, .getfield 260, .iload 1, .iaload, .istore 3, .aload 0, .getfield 321, .getfield 260, .iload 1, .iload 2, .iastore, .iload 3, .ireturn])])
/-- BannerParade.undo()I -/
def xM151 : XT := (1, 1, 10, 1, [], [([0], [.aload 0, .getfield 324, .getfield 65, .ifCond .ne 2, .goto_w 1]), ([], [.checkcast 0]), ([0], [.aload 0, .getfield 324, .aload 0, .getfield 321, .invokevirtual 14, .aload 0, .getfield 324, .getfield 65, .ireturn])])
/-- BannerParade.undoable()I -/
def xM152 : XT := (1, 1, 10, 1, [], [([0], [.aload 0, .getfield 324, .getfield 65, .ireturn])])
/-- BannerParade.save(I)I -/
def xM153 : XT := (2, 2, 10, 1, [], [([0, 1], [.aload 0, .invokevirtual 155, .iload 1, .iconst 2, .invokestatic 158, .aload 0, .getfield 324, .iload 1, .aload 0, .getfield 321, .invokevirtual 15, .aload 0, .getfield 321, .getfield 256, .ireturn])])
/-- BannerParade.restore(I)I -/
def xM154 : XT := (2, 2, 10, 1, [], [([0, 1], [.iload 1, .iconst 2, .invokestatic 158, .aload 0, .getfield 324, .getfield 68, .iload 1, .baload, .ifCond .ne 2, .goto_w 1]), ([], [.checkcast 0]), ([0, 1], [.aload 0, .getfield 324, .iload 1, .aload 0, .getfield 321, .invokevirtual 16, .aload 0, .getfield 324, .invokevirtual 11, .aload 0, .getfield 321, .getfield 256, .ireturn])])
/-- BannerParade.needLoaded()V -/
def xM155 : XT := (1, 1, 10, 0, [], [([0], [.aload 0, .getfield 327, .ifCond .ne 2, .goto_w 1]), ([], [.checkcast 0]), ([], [.return_])])
/-- BannerParade.needBearer(I)V -/
def xM156 : XT := (2, 2, 10, 0, [], [([0, 1], [.iload 1, .aload 0, .getfield 321, .getfield 262, .getfield 224, .invokestatic 158, .return_])])
/-- BannerParade.needStand(I)V -/
def xM157 : XT := (2, 2, 10, 0, [], [([0, 1], [.iload 1, .aload 0, .getfield 323, .getfield 192, .invokestatic 158, .return_])])
/-- BannerParade.needIndex(II)V -/
def xM158 : XT := (2, 2, 99, 0, [], [([0, 1], [.iload 0, .ifCond .lt 2, .goto_w 1]), ([0, 1], [.iload 0, .iload 1, .if_icmp .lt 3, .goto_w 2]), ([], [.checkcast 2]), ([], [.return_])])
/-- BannerParade.needRange(III)V -/
def xM159 : XT := (3, 3, 99, 0, [], [([0, 1, 2], [.iload 0, .iload 1, .if_icmp .lt 3, .goto_w 1]), ([0, 2], [.iload 0, .iload 2, .if_icmp .gt 3, .goto_w 2]), ([], [.iconst 1, .goto 4]), ([], [.iconst 0, .goto_w 4]), ([], [.invokestatic 160, .return_])])
/-- BannerParade.needArgument(Z)V -/
def xM160 : XT := (1, 1, 99, 0, [], [([0], [.iload 0, .ifCond .ne 2, .goto_w 1]), ([], [.checkcast 1]), ([], [.return_])])
/-- BannerParade.readNow(I)LBannerParade$Reading; -/
def xM161 : XT := (2, 2, 10, 8, [], [([0, 1], [.aload 0, .getfield 325, .aload 0, .getfield 321, .aload 0, .getfield 323, .iload 1, .invokevirtual 33, .aload 0, .getfield 325, .areturn])])
/-- BannerParade.readLater(I)LBannerParade$Reading; -/
def xM162 : XT := (2, 2, 10, 8, [], [([0, 1], [.aload 0, .getfield 325, .aload 0, .getfield 322, .aload 0, .getfield 323, .iload 1, .invokevirtual 33, .aload 0, .getfield 325, .areturn])])
/-- BannerParade.foresee(I)V -/
def xM163 : XT := (2, 3, 10, 0, [], [([0, 1], [.aload 0, .getfield 322, .aload 0, .getfield 321, .invokevirtual 68, .iconst 0, .istore 2, .goto_w 1]), ([0, 1, 2], [.iload 2, .iload 1, .if_icmp .ge 3, .goto_w 2]), ([0, 1, 2], [.aload 0, .getfield 322, .invokevirtual 70, .iinc 2 1, .goto 1]), ([], [.return_])])
/-- BannerParade.ticksToDrop(I)I -/
def xM164 : XT := (2, 3, 10, 1, [], [([0, 1], [.iconst 1, .istore 2, .goto_w 1]), ([0, 1, 2], [.iload 2, .iload 1, .if_icmp .gt 5, .goto_w 2]), ([0, 1, 2], [.aload 0, .getfield 322, .invokevirtual 70, .aload 0, .getfield 322, .getfield 258, .aload 0, .getfield 321, .getfield 258, .if_icmp .le 4, .goto_w 3]), ([2], [.iload 2, .ireturn]), ([0, 1, 2], [.iinc 2 1, .goto 1]), ([], [.iconst (-1), .ireturn])])
/-- BannerParade.readWords()V -/
def xM165 : XT := (1, 2, 10, 0, [], [([0], [.iconst 0, .istore 1, .goto_w 1]), ([0, 1], [.iload 1, .aload 0, .getfield 323, .getfield 192, .if_icmp .ge 6, .goto_w 2]), ([0, 1], [.aload 0, .getfield 321, .getfield 261, .iload 1, .iaload, .iconst (-1), .if_icmp .ne 5, .goto_w 3]), ([0, 1], [.aload 0, .iload 1, .invokevirtual 161, .aload 0, .getfield 323, .iload 1, .invokevirtual 39, .ifCond .eq 5, .goto_w 4]), ([0, 1], [.aload 0, .getfield 321, .getfield 261, .iload 1, .aload 0, .getfield 321, .getfield 256, .iastore, .goto_w 5]), ([0, 1], [.iinc 1 1, .goto 1]), ([], [.return_])])
/-- BannerParade.standsWithReadWord()I -/
def xM166 : XT := (1, 3, 10, 1, [], [([0], [.iconst 0, .istore 1, .iconst 0, .istore 2, .goto_w 1]), ([0, 1, 2], [.iload 2, .aload 0, .getfield 323, .getfield 192, .if_icmp .ge 5, .goto_w 2]), ([0, 1, 2], [.aload 0, .getfield 321, .getfield 261, .iload 2, .iaload, .iconst (-1), .if_icmp .eq 4, .goto_w 3]), ([0, 1, 2], [.iload 1, .iconst 1, .iload 2, .ishl, .ior, .istore 1, .goto_w 4]), ([0, 1, 2], [.iinc 2 1, .goto 1]), ([1], [.iload 1, .ireturn])])
/-- BannerParade.standsThatSeeAny()I -/
def xM167 : XT := (1, 3, 10, 1, [], [([0], [.iconst 0, .istore 1, .iconst 0, .istore 2, .goto_w 1]), ([0, 1, 2], [.iload 2, .aload 0, .getfield 323, .getfield 192, .if_icmp .ge 5, .goto_w 2]), ([0, 1, 2], [.aload 0, .iload 2, .invokevirtual 169, .ifCond .eq 4, .goto_w 3]), ([0, 1, 2], [.iinc 1 1, .goto_w 4]), ([0, 1, 2], [.iinc 2 1, .goto 1]), ([1], [.iload 1, .ireturn])])
/-- BannerParade.standsThatSee(I)I -/
def xM168 : XT := (2, 4, 10, 1, [], [([0, 1], [.iconst 0, .istore 2, .iconst 0, .istore 3, .goto_w 1]), ([0, 1, 2, 3], [.iload 3, .aload 0, .getfield 323, .getfield 192, .if_icmp .ge 5, .goto_w 2]), ([0, 1, 2, 3], [.aload 0, .getfield 321, .iload 1, .aload 0, .getfield 323, .getfield 194, .iload 3, .iaload, .invokevirtual 79, .ifCond .eq 4, .goto_w 3]), ([0, 1, 2, 3], [.iinc 2 1, .goto_w 4]), ([0, 1, 2, 3], [.iinc 3 1, .goto 1]), ([2], [.iload 2, .ireturn])])
/-- BannerParade.bearersSeenFrom(I)I -/
def xM169 : XT := (2, 4, 10, 1, [], [([0, 1], [.iconst 0, .istore 2, .iconst 0, .istore 3, .goto_w 1]), ([0, 1, 2, 3], [.iload 3, .aload 0, .getfield 321, .getfield 262, .getfield 224, .if_icmp .ge 5, .goto_w 2]), ([0, 1, 2, 3], [.aload 0, .getfield 321, .iload 3, .aload 0, .getfield 323, .getfield 194, .iload 1, .iaload, .invokevirtual 79, .ifCond .eq 4, .goto_w 3]), ([0, 1, 2, 3], [.iload 2, .iconst 1, .iload 3, .ishl, .ior, .istore 2, .goto_w 4]), ([0, 1, 2, 3], [.iinc 3 1, .goto 1]), ([2], [.iload 2, .ireturn])])
/-- BannerParade.floatBits(F)I -/
def xM170 : XT := (1, 4, 99, 1, [], [([0], [.fload 0, .fconst 0, .fcmp .g, .ifCond .gt 2, .goto_w 1]), ([], [.iconst 0, .ireturn]), ([0], [.iconst 127, .istore 1, .fload 0, .fstore 2, .iconst 0, .istore 3, .goto_w 3]), ([1, 2, 3], [.iload 3, .iconst 60, .if_icmp .ge 6, .goto_w 4]), ([1, 2, 3], [.fload 2, .fconst 1, .fcmp .g, .ifCond .ge 6, .goto_w 5]), ([1, 2, 3], [.fload 2, .fconst 2, .fmul, .fstore 2, .iinc 1 (-1), .iinc 3 1, .goto 3]), ([1, 2], [.iload 1, .iconst 23, .ishl, .fload 2, .fconst 1, .fsub, .ldc_w 1258291200, .fmul, .f2i, .iadd, .ireturn])])
/-- BannerParade.doubleBits(D)J -/
def xM171 : XT := (1, 7, 99, 5, [], [([0], [.dload 0, .dconst 0, .dcmp .g, .ifCond .gt 2, .goto_w 1]), ([], [.lconst 0, .lreturn]), ([0], [.jsr 1023, .lstore 2, .dload 0, .dstore 4, .iconst 0, .istore 6, .goto_w 3]), ([2, 4, 6], [.iload 6, .iconst 60, .if_icmp .ge 6, .goto_w 4]), ([2, 4, 6], [.dload 4, .dconst 1, .dcmp .g, .ifCond .ge 6, .goto_w 5]), ([2, 4, 6], [.dload 4, .ldc2_w 4611686018427387904, .dmul, .dstore 4, .lload 2, .lconst 1, .lsub, .lstore 2, .iinc 6 1, .goto 3]), ([2, 4], [.iconst 0, .istore 6, .goto_w 7]), ([2, 4, 6], [.iload 6, .iconst 60, .if_icmp .ge 10, .goto_w 8]), ([2, 4, 6], [.dload 4, .ldc2_w 4611686018427387904, .dcmp .l, .ifCond .lt 10, .goto_w 9]), ([2, 4, 6], [.dload 4, .ldc2_w 4611686018427387904, .ddiv, .dstore 4, .lload 2, .lconst 1, .ladd, .lstore 2, .iinc 6 1, .goto 7]), ([2, 4], [.lload 2, .iconst 52, .lshl, .dload 4, .dconst 1, .dsub, .ldc2_w 4841369599423283200, .dmul, .d2l, .ladd, .lreturn])])
/-- BannerParade.copyNumbers([I[I)V -/
def xM172 : XT := (2, 3, 99, 0, [], [([0, 1], [.iconst 0, .istore 2, .goto_w 1]), ([0, 1, 2], [.iload 2, .aload 1, .arraylength, .if_icmp .ge 4, .goto_w 2]), ([0, 1, 2], [.iload 2, .aload 0, .arraylength, .if_icmp .ge 4, .goto_w 3]), ([0, 1, 2], [.aload 1, .iload 2, .aload 0, .iload 2, .iaload, .iastore, .iinc 2 1, .goto 1]), ([], [.return_])])
/-- BannerParadeLaw$March.<init>()V -/
def xM173 : XT := (1, 1, 11, 0, [], [([0], [.aload 0, .monitorexit, .aload 0, .iconst 6, .newarray .int, .putfield 352, .aload 0, .iconst 12, .newarray .int, .putfield 353, .aload 0, .iconst 12, .newarray .int, .putfield 354, .aload 0, .iconst 12, .newarray .int, .putfield 355, .aload 0, .iconst 12, .newarray .int, .putfield 356, .aload 0, .iconst 12, .newarray .int, .putfield 357, .aload 0, .iconst 12, .newarray .int, .putfield 358, .aload 0, .iconst 12, .newarray .int, .putfield 359, .aload 0, .iconst 6, .newarray .int, .putfield 360, .aload 0, .iconst 6, .newarray .int, .putfield 361, .aload 0, .iconst 6, .newarray .int, .putfield 362, .aload 0, .iconst 12, .newarray .int, .putfield 363, .aload 0, .iconst 12, .newarray .int, .putfield 364, .aload 0, .iconst 12, .newarray .int, .putfield 365, .aload 0, .iconst 6, .anewarray 14, .putfield 366, .aload 0, .new 13, .dup, .invokespecial 184, .putfield 367, .return_])])
/-- BannerParadeLaw.put(LBannerParade;[II)V -/
def xM174 : XT := (3, 4, 99, 0, [], [([0, 1, 2], [.aload 1, .iconst 5, .iaload, .istore 3, .aload 1, .iload 3, .iconst 4, .idiv, .aload 1, .iload 3, .iconst 4, .idiv, .iaload, .iconst 8, .ishl, .iload 2, .ior, .iastore, .aload 1, .iconst 5, .dup2, .iaload, .iconst 1, .iadd, .iastore, .aload 1, .iconst 6, .dup2, .iaload, .iconst 1, .iadd, .iastore, .aload 1, .iconst 5, .iaload, .iconst 20, .if_icmp .ne 2, .goto_w 1]), ([0, 1], [.aload 0, .aload 1, .invokestatic 175, .goto_w 2]), ([], [.return_])])
/-- BannerParadeLaw.flush(LBannerParade;[I)V -/
def xM175 : XT := (2, 3, 99, 0, [], [([0, 1], [.aload 0, .aload 1, .iconst 0, .iaload, .aload 1, .iconst 1, .iaload, .aload 1, .iconst 2, .iaload, .aload 1, .iconst 3, .iaload, .aload 1, .iconst 4, .iaload, .invokevirtual 91, .istore 2, .aload 1, .iconst 5, .iconst 0, .iastore, .return_])])
/-- BannerParadeLaw.said(LBannerParade;[I)I -/
def xM176 : XT := (2, 3, 99, 1, [], [([0, 1], [.aload 1, .iconst 6, .iaload, .istore 2, .goto_w 1]), ([0, 1, 2], [.aload 1, .iconst 5, .iaload, .ifCond .le 3, .goto_w 2]), ([0, 1, 2], [.aload 0, .aload 1, .iconst 32, .invokestatic 174, .goto 1]), ([1, 2], [.aload 1, .iconst 6, .iconst 0, .iastore, .iload 2, .ireturn])])
/-- BannerParadeLaw.cell([II)I -/
def xM177 : XT := (2, 2, 99, 1, [], [([0, 1], [.iload 1, .aload 0, .arraylength, .if_icmp .ge 2, .goto_w 1]), ([0, 1], [.aload 0, .iload 1, .iaload, .goto 3]), ([], [.iconst 0, .goto_w 3]), ([], [.ireturn])])
/-- BannerParadeLaw.march([I)LBannerParadeLaw$March; -/
def xM178 : XT := (1, 8, 99, 8, [], [([0], [.new 11, .dup, .invokespecial 173, .astore 1, .aload 0, .iconst 0, .invokestatic 177, .istore 2, .iconst 6, .newarray .int, .dup, .iconst 0, .iconst 1, .iload 2, .iconst 7, .iand, .iadd, .iastore, .dup, .iconst 1, .iload 2, .iconst 3, .iushr, .iconst 63, .iand, .iastore, .dup, .iconst 2, .iconst 1, .iload 2, .iconst 9, .iushr, .iconst 7, .iand, .iadd, .iastore, .dup, .iconst 3, .iload 2, .iconst 12, .iushr, .iconst 15, .iand, .iastore, .dup, .iconst 4, .iconst 1, .iload 2, .iconst 16, .iushr, .iconst 31, .iand, .iadd, .iastore, .dup, .iconst 5, .iload 2, .iconst 21, .iushr, .iconst 31, .iand, .iastore, .astore 3, .aload 3, .iconst 0, .aload 1, .getfield 352, .iconst 0, .iconst 6, .lrem, .aload 1, .iconst 2, .iload 2, .iconst 26, .iushr, .iconst 3, .iand, .iadd, .putfield 368, .aload 1, .iconst 1, .iload 2, .iconst 28, .iushr, .iconst 1, .iand, .iadd, .putfield 369, .aload 1, .iload 2, .iconst 29, .iushr, .iconst 3, .iand, .iconst 3, .irem, .putfield 370, .iconst 0, .istore 4, .goto_w 1]), ([0, 1, 4], [.iload 4, .aload 1, .getfield 368, .if_icmp .ge 3, .goto_w 2]), ([0, 1, 4], [.aload 0, .iconst 1, .iload 4, .iadd, .invokestatic 177, .istore 5, .aload 1, .getfield 354, .iload 4, .iconst 1, .iload 5, .iconst 1, .iand, .iadd, .iastore, .aload 1, .getfield 353, .iload 4, .aload 1, .getfield 354, .iload 4, .iaload, .iastore, .aload 1, .getfield 356, .iload 4, .iconst 1, .iload 5, .iconst 1, .iushr, .iconst 15, .iand, .iadd, .iastore, .aload 1, .getfield 357, .iload 4, .iload 5, .iconst 5, .iushr, .iconst 31, .iand, .iconst 21, .irem, .iastore, .aload 1, .getfield 358, .iload 4, .iconst 100, .iastore, .aload 1, .getfield 355, .iload 4, .aload 1, .getfield 352, .iconst 0, .iaload, .ineg, .iload 4, .imul, .iastore, .iinc 4 1, .goto 1]), ([0, 1], [.iconst 0, .istore 4, .goto_w 4]), ([0, 1, 4], [.iload 4, .aload 1, .getfield 369, .if_icmp .ge 9, .goto_w 5]), ([0, 1, 4], [.aload 0, .iconst 6, .iload 4, .iadd, .invokestatic 177, .istore 5, .aload 1, .getfield 360, .iload 4, .iload 5, .iconst 1, .iand, .iastore, .aload 1, .getfield 361, .iload 4, .iload 5, .iconst 1, .iushr, .iconst 63, .iand, .iastore, .aload 1, .getfield 362, .iload 4, .iconst (-1), .iastore, .new 12, .dup, .invokespecial 187, .astore 6, .iconst 0, .istore 7, .goto_w 6]), ([0, 1, 4, 5, 6, 7], [.iload 7, .iload 5, .iconst 7, .iushr, .iconst 3, .iand, .if_icmp .gt 8, .goto_w 7]), ([0, 1, 4, 5, 6, 7], [.aload 6, .iconst 97, .iload 5, .iconst 9, .iload 7, .iadd, .iushr, .iconst 1, .iand, .iadd, .i2c, .invokevirtual 191, .pop, .iinc 7 1, .goto 6]), ([0, 1, 4, 6], [.aload 1, .getfield 366, .iload 4, .aload 6, .invokevirtual 194, .aastore, .iinc 4 1, .goto 4]), ([0, 1], [.iconst 0, .istore 4, .goto_w 10]), ([0, 1, 4], [.iload 4, .aload 1, .getfield 370, .if_icmp .ge 12, .goto_w 11]), ([0, 1, 4], [.aload 1, .getfield 363, .iload 4, .iconst 1, .aload 0, .iconst 8, .invokestatic 177, .iconst 8, .iload 4, .imul, .iushr, .iconst 7, .iand, .iadd, .iastore, .aload 1, .getfield 364, .iload 4, .aload 0, .iconst 8, .invokestatic 177, .iconst 8, .iload 4, .imul, .iconst 3, .iadd, .iushr, .iconst 3, .iand, .aload 1, .getfield 368, .iconst 1, .isub, .irem, .iastore, .iinc 4 1, .goto 10]), ([1], [.aload 1, .areturn])])
/-- BannerParadeLaw.text(LBannerParadeLaw$March;)Ljava/lang/String; -/
def xM179 : XT := (1, 6, 99, 8, [], [([0], [.new 12, .dup, .ldc 12, .invokespecial 188, .astore 1, .aload 0, .getfield 352, .astore 2, .aload 2, .arraylength, .istore 3, .iconst 0, .istore 4, .goto_w 1]), ([0, 1, 2, 3, 4], [.iload 4, .iload 3, .if_icmp .ge 3, .goto_w 2]), ([0, 1, 2, 3, 4], [.aload 2, .iload 4, .iaload, .istore 5, .aload 1, .iconst 32, .invokevirtual 191, .iload 5, .invokevirtual 192, .pop, .iinc 4 1, .goto 1]), ([0, 1], [.iconst 0, .istore 2, .goto_w 4]), ([0, 1, 2], [.iload 2, .aload 0, .getfield 368, .if_icmp .ge 6, .goto_w 5]), ([0, 1, 2], [.aload 1, .ldc 13, .invokevirtual 193, .iconst 96, .aload 0, .getfield 354, .iload 2, .iaload, .iadd, .i2c, .invokevirtual 191, .iconst 32, .invokevirtual 191, .aload 0, .getfield 356, .iload 2, .iaload, .invokevirtual 192, .iconst 32, .invokevirtual 191, .aload 0, .getfield 357, .iload 2, .iaload, .invokevirtual 192, .pop, .iinc 2 1, .goto 4]), ([0, 1], [.iconst 0, .istore 2, .goto_w 7]), ([0, 1, 2], [.iload 2, .aload 0, .getfield 370, .if_icmp .ge 9, .goto_w 8]), ([0, 1, 2], [.aload 1, .ldc 14, .invokevirtual 193, .aload 0, .getfield 363, .iload 2, .iaload, .invokevirtual 192, .iconst 32, .invokevirtual 191, .aload 0, .getfield 364, .iload 2, .iaload, .invokevirtual 192, .pop, .iinc 2 1, .goto 7]), ([0, 1], [.iconst 0, .istore 2, .goto_w 10]), ([0, 1, 2], [.iload 2, .aload 0, .getfield 369, .if_icmp .ge 15, .goto_w 11]), ([0, 1, 2], [.aload 1, .ldc 15, .invokevirtual 193, .aload 0, .getfield 360, .iload 2, .iaload, .ifCond .ne 13, .goto_w 12]), ([0, 1, 2], [.ldc 16, .goto 14]), ([0, 1, 2], [.ldc 17, .goto_w 14]), ([0, 1, 2], [.invokevirtual 193, .aload 0, .getfield 361, .iload 2, .iaload, .invokevirtual 192, .iconst 32, .invokevirtual 191, .aload 0, .getfield 366, .iload 2, .aaload, .invokevirtual 193, .pop, .iinc 2 1, .goto 10]), ([1], [.aload 1, .invokevirtual 194, .areturn])])
/-- BannerParadeLaw.says(LBannerParade;[ILBannerParadeLaw$March;)I -/
def xM180 : XT := (3, 5, 99, 1, [], [([0, 1, 2], [.aload 2, .invokestatic 179, .astore 3, .iconst 0, .istore 4, .goto_w 1]), ([0, 1, 3, 4], [.iload 4, .aload 3, .invokevirtual 391, .if_icmp .ge 3, .goto_w 2]), ([0, 1, 3, 4], [.aload 0, .aload 1, .aload 3, .iload 4, .invokevirtual 392, .invokestatic 174, .iinc 4 1, .goto 1]), ([0, 1], [.aload 0, .aload 0, .aload 1, .invokestatic 176, .invokevirtual 92, .ireturn])])
/-- BannerParadeLaw.law([I)Z -/
def xM181 : XT := (1, 16, 99, 2, [], [([0], [.new 10, .dup, .invokespecial 90, .astore 1, .iconst 7, .newarray .int, .astore 2, .aload 0, .invokestatic 178, .astore 3, .aload 1, .aload 2, .aload 3, .invokestatic 180, .aload 3, .getfield 368, .if_icmp .eq 2, .goto_w 1]), ([], [.iconst 0, .ireturn]), ([0, 1, 3], [.iconst 0, .istore 4, .goto_w 3]), ([0, 1, 3, 4], [.iload 4, .iconst 22, .if_icmp .ge 36, .goto_w 4]), ([0, 1, 3, 4], [.aload 0, .iconst 10, .iload 4, .iadd, .invokestatic 177, .istore 5, .iload 5, .iconst 20, .iushr, .iconst 1, .iand, .istore 6, .aload 1, .invokestatic 183, .astore 7, .aload 1, .iload 6, .invokevirtual 153, .aload 1, .iconst 3, .invokevirtual 96, .if_icmp .ne 7, .goto_w 5]), ([0, 1, 3, 4, 5, 6, 7], [.aload 1, .invokestatic 182, .ifCond .eq 7, .goto_w 6]), ([0, 1, 3, 4, 5, 6, 7], [.aload 7, .aload 1, .invokestatic 183, .invokestatic 216, .ifCond .ne 8, .goto_w 7]), ([], [.iconst 0, .ireturn]), ([0, 1, 3, 4, 5, 6, 7], [.iload 5, .iconst 7, .iand, .aload 3, .getfield 368, .irem, .istore 8, .iconst 1, .iload 5, .iconst 3, .iushr, .iconst 7, .iand, .iadd, .istore 9, .iconst 4, .newarray .int, .dup, .iconst 0, .aload 1, .iload 8, .iload 9, .invokevirtual 128, .iastore, .dup, .iconst 1, .aload 1, .iload 8, .iload 9, .invokevirtual 129, .iastore, .dup, .iconst 2, .aload 1, .iload 8, .iload 9, .invokevirtual 130, .iastore, .dup, .iconst 3, .aload 1, .iload 9, .invokevirtual 131, .iastore, .astore 10, .aload 1, .iconst 8, .invokevirtual 96, .istore 11, .aload 1, .iload 9, .invokevirtual 142, .istore 12, .aload 1, .iload 8, .iconst 1, .invokevirtual 98, .aload 10, .iconst 0, .iaload, .if_icmp .ne 12, .goto_w 9]), ([0, 1, 3, 4, 5, 6, 7, 8, 9, 10, 11, 12], [.aload 1, .iload 8, .iconst 4, .invokevirtual 98, .aload 10, .iconst 1, .iaload, .if_icmp .ne 12, .goto_w 10]), ([0, 1, 3, 4, 5, 6, 7, 8, 9, 10, 11, 12], [.aload 1, .iload 8, .iconst 0, .invokevirtual 98, .aload 10, .iconst 2, .iaload, .if_icmp .ne 12, .goto_w 11]), ([0, 1, 3, 4, 5, 6, 7, 8, 9, 10, 11, 12], [.aload 1, .iconst 8, .invokevirtual 96, .iload 11, .isub, .aload 10, .iconst 3, .iaload, .if_icmp .eq 13, .goto_w 12]), ([], [.iconst 0, .ireturn]), ([0, 1, 3, 4, 5, 6, 7, 8, 9, 12], [.aload 1, .invokestatic 183, .astore 13, .aload 1, .invokevirtual 151, .ifCond .lt 16, .goto_w 14]), ([0, 1, 3, 4, 5, 6, 7, 8, 9, 12, 13], [.aload 1, .iload 9, .invokevirtual 142, .iload 12, .if_icmp .ne 16, .goto_w 15]), ([0, 1, 3, 4, 5, 6, 7, 8, 13], [.aload 13, .aload 1, .invokestatic 183, .invokestatic 216, .ifCond .ne 17, .goto_w 16]), ([], [.iconst 0, .ireturn]), ([0, 1, 3, 4, 5, 6, 7, 8], [.aload 1, .iload 8, .iconst 0, .invokevirtual 98, .ifCond .le 27, .goto_w 18]), ([0, 1, 3, 4, 5, 6, 7, 8], [.iload 5, .iconst 6, .iushr, .iconst 3, .iand, .ifCond .ne 27, .goto_w 19]), ([0, 1, 3, 4, 5, 6, 7, 8], [.aload 1, .iconst 5, .invokevirtual 96, .istore 14, .aload 1, .iload 8, .iconst 0, .invokevirtual 98, .istore 15, .aload 1, .iload 8, .invokevirtual 144, .iload 14, .iconst 1, .iadd, .if_icmp .ne 22, .goto_w 20]), ([0, 1, 3, 4, 5, 6, 7, 8, 14, 15], [.aload 1, .iload 14, .iconst 0, .invokevirtual 101, .iload 15, .if_icmp .ne 22, .goto_w 21]), ([0, 1, 3, 4, 5, 6, 7, 8, 14], [.aload 1, .iload 8, .iconst 0, .invokevirtual 98, .ifCond .eq 23, .goto_w 22]), ([], [.iconst 0, .ireturn]), ([0, 1, 3, 4, 5, 6, 7, 8, 14], [.aload 1, .iload 8, .iconst 4, .invokevirtual 98, .aload 1, .iconst 4, .invokevirtual 97, .if_icmp .lt 27, .goto_w 24]), ([0, 1, 3, 4, 5, 6, 7, 8, 14], [.aload 1, .iload 8, .invokevirtual 145, .ifCond .eq 26, .goto_w 25]), ([0, 1, 3, 4, 5, 6, 7, 8, 14], [.aload 1, .iconst 5, .invokevirtual 96, .iload 14, .if_icmp .eq 27, .goto_w 26]), ([], [.iconst 0, .ireturn]), ([0, 1, 3, 4, 5, 6, 7, 8], [.aload 1, .iload 8, .iload 5, .iconst 8, .iushr, .iconst 127, .iand, .iconst 80, .isub, .invokevirtual 146, .istore 14, .iload 14, .aload 1, .iload 8, .iconst 4, .invokevirtual 98, .if_icmp .eq 29, .goto_w 28]), ([], [.iconst 0, .ireturn]), ([0, 1, 3, 4, 5, 6, 7], [.iload 5, .iconst 25, .iushr, .iconst 7, .iand, .ifCond .eq 31, .goto_w 30]), ([0, 1, 3, 4], [.goto 35]), ([0, 1, 3, 4, 6, 7], [.aload 1, .iload 6, .invokevirtual 154, .istore 15, .aload 1, .iconst 3, .invokevirtual 96, .iload 15, .if_icmp .ne 34, .goto_w 32]), ([0, 1, 3, 4, 7], [.aload 1, .invokevirtual 152, .ifCond .ne 34, .goto_w 33]), ([0, 1, 3, 4, 7], [.aload 7, .aload 1, .invokestatic 183, .invokestatic 216, .ifCond .ne 35, .goto_w 34]), ([], [.iconst 0, .ireturn]), ([0, 1, 3, 4], [.iinc 4 1, .goto 3]), ([], [.iconst 1, .ireturn])])
/-- BannerParadeLaw.isRight(LBannerParade;)Z -/
def xM182 : XT := (1, 5, 99, 2, [], [([0], [.iconst 27, .newarray .int, .astore 1, .iconst 27, .newarray .int, .astore 2, .iconst 0, .istore 3, .goto_w 1]), ([0, 1, 2, 3], [.iload 3, .aload 0, .iconst 0, .invokevirtual 96, .if_icmp .ge 13, .goto_w 2]), ([0, 1, 2, 3], [.iload 3, .ifCond .le 5, .goto_w 3]), ([0, 1, 2, 3], [.aload 0, .iload 3, .iconst 6, .invokevirtual 98, .aload 0, .iconst 0, .invokevirtual 97, .if_icmp .ge 5, .goto_w 4]), ([], [.iconst 0, .ireturn]), ([0, 1, 2, 3], [.aload 0, .iload 3, .iconst 4, .invokevirtual 98, .ifCond .lt 9, .goto_w 6]), ([0, 1, 2, 3], [.aload 0, .iload 3, .iconst 4, .invokevirtual 98, .iconst 100, .if_icmp .gt 9, .goto_w 7]), ([0, 1, 2, 3], [.aload 0, .iload 3, .iconst 5, .invokevirtual 98, .ifCond .lt 9, .goto_w 8]), ([0, 1, 2, 3], [.aload 0, .iload 3, .iconst 5, .invokevirtual 98, .aload 0, .iload 3, .iconst 2, .invokevirtual 98, .if_icmp .le 10, .goto_w 9]), ([], [.iconst 0, .ireturn]), ([0, 1, 2, 3], [.aload 1, .aload 0, .iload 3, .iconst 8, .invokevirtual 98, .dup2, .iaload, .iconst 1, .iadd, .iastore, .aload 0, .iload 3, .iconst 0, .invokevirtual 98, .ifCond .le 12, .goto_w 11]), ([0, 1, 2, 3], [.aload 2, .aload 0, .iload 3, .iconst 0, .invokevirtual 98, .dup2, .iaload, .iconst 1, .iadd, .iastore, .goto_w 12]), ([0, 1, 2, 3], [.iinc 3 1, .goto 1]), ([0, 1, 2], [.iconst 0, .istore 3, .goto_w 14]), ([0, 1, 2, 3], [.iload 3, .aload 0, .iconst 5, .invokevirtual 96, .if_icmp .ge 16, .goto_w 15]), ([0, 1, 2, 3], [.aload 2, .aload 0, .iload 3, .iconst 0, .invokevirtual 101, .dup2, .iaload, .iconst 1, .iadd, .iastore, .iinc 3 1, .goto 14]), ([0, 1, 2], [.aload 1, .aload 2, .invokestatic 216, .ifCond .eq 18, .goto_w 17]), ([0], [.aload 0, .iconst 4, .invokevirtual 96, .aload 0, .iconst 5, .invokevirtual 96, .iadd, .aload 0, .iconst 0, .invokevirtual 96, .if_icmp .eq 19, .goto_w 18]), ([], [.iconst 0, .ireturn]), ([0], [.iconst 0, .istore 3, .goto_w 20]), ([0, 3], [.iload 3, .aload 0, .iconst 1, .invokevirtual 96, .if_icmp .ge 37, .goto_w 21]), ([0, 3], [.aload 0, .iload 3, .invokevirtual 107, .fconst 0, .fcmp .g, .ifCond .lt 28, .goto_w 22]), ([0, 3], [.aload 0, .iload 3, .invokevirtual 107, .fconst 1, .fcmp .l, .ifCond .gt 28, .goto_w 23]), ([0, 3], [.aload 0, .iload 3, .invokevirtual 106, .aload 0, .iload 3, .invokevirtual 107, .fconst 1, .fcmp .l, .ifCond .ne 25, .goto_w 24]), ([0, 3], [.iconst 1, .goto 26]), ([0, 3], [.iconst 0, .goto_w 26]), ([0, 3], [.if_icmp .ne 28, .goto_w 27]), ([0, 3], [.aload 0, .iload 3, .iconst 5, .invokevirtual 99, .aload 0, .iload 3, .iconst 4, .invokevirtual 99, .if_icmp .ge 29, .goto_w 28]), ([], [.iconst 0, .ireturn]), ([0, 3], [.iconst 0, .istore 4, .goto_w 30]), ([0, 3, 4], [.iload 4, .aload 0, .iconst 0, .invokevirtual 96, .if_icmp .ge 36, .goto_w 31]), ([0, 3, 4], [.aload 0, .iload 3, .invokevirtual 104, .iload 4, .ishr, .iconst 1, .iand, .iconst 1, .if_icmp .ne 35, .goto_w 32]), ([0, 3, 4], [.aload 0, .iload 4, .iconst 0, .invokevirtual 98, .ifCond .eq 34, .goto_w 33]), ([0, 3, 4], [.aload 0, .iload 4, .iconst 1, .invokevirtual 98, .aload 0, .iload 3, .iconst 1, .invokevirtual 99, .isub, .invokestatic 384, .aload 0, .iconst 1, .invokevirtual 97, .if_icmp .le 35, .goto_w 34]), ([], [.iconst 0, .ireturn]), ([0, 3, 4], [.iinc 4 1, .goto 30]), ([0, 3], [.iinc 3 1, .goto 20]), ([], [.iconst 1, .ireturn])])
/-- BannerParadeLaw.seen(LBannerParade;)[I -/
def xM183 : XT := (1, 4, 99, 8, [], [([0], [.iconst 300, .newarray .int, .astore 1, .iconst 0, .istore 2, .goto_w 1]), ([0, 1, 2], [.iload 2, .iconst 12, .if_icmp .ge 3, .goto_w 2]), ([0, 1, 2], [.aload 1, .iload 2, .aload 0, .iload 2, .invokevirtual 96, .iastore, .iinc 2 1, .goto 1]), ([0, 1], [.iconst 0, .istore 2, .goto_w 4]), ([0, 1, 2], [.iload 2, .aload 0, .iconst 0, .invokevirtual 96, .if_icmp .ge 9, .goto_w 5]), ([0, 1, 2], [.iconst 0, .istore 3, .goto_w 6]), ([0, 1, 2, 3], [.iload 3, .iconst 9, .if_icmp .ge 8, .goto_w 7]), ([0, 1, 2, 3], [.aload 1, .iconst 20, .iconst 10, .iload 2, .imul, .iadd, .iload 3, .iadd, .aload 0, .iload 2, .iload 3, .invokevirtual 98, .iastore, .iinc 3 1, .goto 6]), ([0, 1, 2], [.iinc 2 1, .goto 4]), ([0, 1], [.iconst 0, .istore 2, .goto_w 10]), ([0, 1, 2], [.iload 2, .aload 0, .iconst 1, .invokevirtual 96, .if_icmp .ge 15, .goto_w 11]), ([0, 1, 2], [.iconst 0, .istore 3, .goto_w 12]), ([0, 1, 2, 3], [.iload 3, .iconst 6, .if_icmp .ge 14, .goto_w 13]), ([0, 1, 2, 3], [.aload 1, .iconst 150, .iconst 10, .iload 2, .imul, .iadd, .iload 3, .iadd, .aload 0, .iload 2, .iload 3, .invokevirtual 99, .iastore, .iinc 3 1, .goto 12]), ([0, 1, 2], [.iinc 2 1, .goto 10]), ([0, 1], [.iconst 0, .istore 2, .goto_w 16]), ([0, 1, 2], [.iload 2, .aload 0, .iconst 5, .invokevirtual 96, .if_icmp .ge 21, .goto_w 17]), ([0, 1, 2], [.iconst 0, .istore 3, .goto_w 18]), ([0, 1, 2, 3], [.iload 3, .iconst 3, .if_icmp .ge 20, .goto_w 19]), ([0, 1, 2, 3], [.aload 1, .iconst 220, .iconst 3, .iload 2, .imul, .iadd, .iload 3, .iadd, .aload 0, .iload 2, .iload 3, .invokevirtual 101, .iastore, .iinc 3 1, .goto 18]), ([0, 1, 2], [.iinc 2 1, .goto 16]), ([0, 1], [.iconst 0, .istore 2, .goto_w 22]), ([0, 1, 2], [.iload 2, .aload 0, .iconst 2, .invokevirtual 96, .if_icmp .ge 24, .goto_w 23]), ([0, 1, 2], [.aload 1, .iconst 260, .iload 2, .iadd, .aload 0, .iload 2, .iconst 2, .invokevirtual 100, .iastore, .iinc 2 1, .goto 22]), ([1], [.aload 1, .areturn])])
/-- java/util/ArrayList.<init>()V -/
def xM184 : XT := (1, 1, 13, 0, [], [([0], [.aload 0, .invokespecial 185, .aload 0, .getstatic 7, .putfield 417, .return_])])
/-- java/util/AbstractList.<init>()V -/
def xM185 : XT := (1, 1, 13, 0, [], [([0], [.aload 0, .invokespecial 186, .aload 0, .iconst 0, .putfield 416, .return_])])
/-- java/util/AbstractCollection.<init>()V -/
def xM186 : XT := (1, 1, 13, 0, [], [([0], [.aload 0, .monitorexit, .return_])])
/-- java/lang/StringBuilder.<init>()V -/
def xM187 : XT := (1, 1, 12, 0, [], [([0], [.aload 0, .iconst 16, .invokespecial 189, .return_])])
/-- java/lang/StringBuilder.<init>(Ljava/lang/String;)V -/
def xM188 : XT := (2, 2, 12, 0, [], [([0, 1], [.aload 0, .aload 1, .invokespecial 190, .return_])])
/-- java/lang/AbstractStringBuilder.<init>(I)V -/
def xM189 : XT := (2, 2, 12, 0, [], [([0, 1], [.aload 0, .monitorexit, .getstatic 2, .ifCond .eq 2, .goto_w 1]), ([0, 1], [.aload 0, .iload 1, .newarray .byte, .putfield 384, .aload 0, .iconst 0, .putfield 385, .goto 3]), ([0, 1], [.aload 0, .iload 1]), ([], [.return_])])
/-- java/lang/AbstractStringBuilder.<init>(Ljava/lang/String;)V -/
def xM190 : XT := (2, 5, 12, 0, [], [([0, 1], [.aload 0, .monitorexit, .aload 1, .invokevirtual 391, .istore 2, .iload 2, .iconst 2147483631, .if_icmp .ge 2, .goto_w 1]), ([0, 1, 2], [.iload 2, .iconst 16, .iadd, .goto 3]), ([0, 1], [.iconst 2147483647, .goto_w 3]), ([0, 1], [.istore 3, .aload 1, .invokevirtual 393, .istore 4, .aload 0, .iload 4, .putfield 385, .aload 0, .iload 4, .ifCond .ne 5, .goto_w 4]), ([0, 1, 3], [.iload 3, .newarray .byte, .goto 6]), ([3], [.iload 3]), ([0, 1], [.putfield 384, .aload 0, .aload 1, .invokevirtual 220, .pop, .return_])])
/-- java/lang/StringBuilder.append(C)Ljava/lang/StringBuilder; -/
def xM191 : XT := (2, 2, 12, 8, [], [([0, 1], [.aload 0, .iload 1, .invokespecial 195, .pop, .aload 0, .areturn])])
/-- java/lang/StringBuilder.append(I)Ljava/lang/StringBuilder; -/
def xM192 : XT := (2, 2, 12, 8, [], [([0, 1], [.aload 0, .iload 1, .invokespecial 196, .pop, .aload 0, .areturn])])
/-- java/lang/StringBuilder.append(Ljava/lang/String;)Ljava/lang/StringBuilder; -/
def xM193 : XT := (2, 2, 12, 8, [], [([0, 1], [.aload 0, .aload 1, .invokespecial 197, .pop, .aload 0, .areturn])])
/-- java/lang/StringBuilder.toString()Ljava/lang/String; -/
def xM194 : XT := (1, 1, 12, 8, [], [([0], [.new 14, .dup, .aload 0, .invokespecial 206, .areturn])])
/-- java/lang/AbstractStringBuilder.append(C)Ljava/lang/AbstractStringBuilder; -/
def xM195 : XT := (2, 2, 12, 8, [], [([0, 1], [.aload 0, .aload 0, .getfield 387, .iconst 1, .iadd, .invokevirtual 198, .aload 0, .invokevirtual 202, .ifCond .eq 3, .goto_w 1]), ([0, 1], [.iload 1, .invokestatic 215, .ifCond .eq 3, .goto_w 2]), ([0, 1], [.aload 0, .getfield 384, .aload 0, .dup, .getfield 387, .dup_x1, .iconst 1, .iadd, .putfield 387, .iload 1, .i2b, .bastore, .goto 6]), ([0, 1], [.aload 0, .invokevirtual 202, .ifCond .eq 5, .goto_w 4]), ([0], [.aload 0]), ([0, 1], [.aload 0, .getfield 384, .aload 0, .dup, .getfield 387, .dup_x1, .iconst 1, .iadd, .putfield 387, .iload 1]), ([0], [.aload 0, .areturn])])
/-- java/lang/AbstractStringBuilder.append(I)Ljava/lang/AbstractStringBuilder; -/
def xM196 : XT := (2, 4, 12, 8, [], [([0, 1], [.aload 0, .getfield 387, .istore 2, .iload 2, .iload 1, .invokestatic 213, .iadd, .istore 3, .aload 0, .iload 3, .invokevirtual 198, .aload 0, .invokevirtual 202, .ifCond .eq 2, .goto_w 1]), ([0, 1, 3], [.iload 1, .iload 3, .aload 0, .getfield 384, .invokestatic 212, .pop, .goto 3]), ([0, 1, 2, 3], [.iload 1, .iload 2, .iload 3, .aload 0, .getfield 384]), ([0, 3], [.aload 0, .iload 3, .putfield 387, .aload 0, .areturn])])
/-- java/lang/AbstractStringBuilder.append(Ljava/lang/String;)Ljava/lang/AbstractStringBuilder; -/
def xM197 : XT := (2, 3, 12, 8, [], [([0, 1], [.aload 1, .ifnonnull 2, .goto_w 1]), ([0], [.aload 0]), ([0, 1], [.aload 1, .invokevirtual 391, .istore 2, .aload 0, .aload 0, .getfield 387, .iload 2, .iadd, .invokevirtual 198, .aload 0, .aload 0, .getfield 387, .aload 1, .invokevirtual 200, .aload 0, .dup, .getfield 387, .iload 2, .iadd, .putfield 387, .aload 0, .areturn])])
/-- java/lang/AbstractStringBuilder.ensureCapacityInternal(I)V -/
def xM198 : XT := (2, 3, 12, 0, [], [([0, 1], [.aload 0, .getfield 384, .arraylength, .aload 0, .getfield 385, .ishr, .istore 2, .iload 1, .iload 2, .isub, .ifCond .le 2, .goto_w 1]), ([0, 1], [.aload 0, .aload 0, .getfield 384, .aload 0, .iload 1, .invokevirtual 199, .aload 0, .getfield 385, .ishl, .invokestatic 208, .putfield 384, .goto_w 2]), ([], [.return_])])
/-- java/lang/AbstractStringBuilder.newCapacity(I)I -/
def xM199 : XT := (2, 6, 12, 1, [], [([0, 1], [.aload 0, .getfield 384, .arraylength, .istore 2, .iload 1, .aload 0, .getfield 385, .ishl, .istore 3, .iload 3, .iload 2, .isub, .istore 4, .iload 2, .iload 4, .iload 2, .iconst 2, .aload 0, .getfield 385, .ishl, .iadd, .invokestatic 214, .istore 5, .iload 5, .iconst 2147483647, .if_icmp .ne 2, .goto_w 1]), ([], []), ([0, 5], [.iload 5, .aload 0, .getfield 385, .ishr, .ireturn])])
/-- java/lang/AbstractStringBuilder.putStringAt(ILjava/lang/String;)V -/
def xM200 : XT := (3, 3, 12, 0, [], [([0, 1, 2], [.aload 0, .aload 2, .invokevirtual 201, .aload 2, .aload 0, .getfield 384, .iload 1, .aload 0, .getfield 385, .invokevirtual 205, .return_])])
/-- java/lang/AbstractStringBuilder.inflateIfNeededFor(Ljava/lang/String;)V -/
def xM201 : XT := (2, 2, 12, 0, [], [([0, 1], [.getstatic 2, .ifCond .eq 3, .goto_w 1]), ([0, 1], [.aload 0, .getfield 385, .aload 1, .invokevirtual 393, .if_icmp .eq 3, .goto_w 2]), ([0], [.aload 0]), ([], [.return_])])
/-- java/lang/AbstractStringBuilder.isLatin1()Z -/
def xM202 : XT := (1, 1, 12, 2, [], [([0], [.getstatic 2, .ifCond .eq 3, .goto_w 1]), ([0], [.aload 0, .getfield 385, .ifCond .ne 3, .goto_w 2]), ([], [.iconst 1, .goto 4]), ([], [.iconst 0, .goto_w 4]), ([], [.ireturn])])
/-- java/lang/AbstractStringBuilder.length()I -/
def xM203 : XT := (1, 1, 12, 1, [], [([0], [.aload 0, .getfield 387, .ireturn])])
/-- java/lang/AbstractStringBuilder.getValue()[B -/
def xM204 : XT := (1, 1, 12, 8, [], [([0], [.aload 0, .getfield 384, .areturn])])
/-- java/lang/String.getBytes([BIB)V -/
def xM205 : XT := (4, 4, 30, 0, [], [([0, 1, 2, 3], [.aload 0, .invokevirtual 393, .iload 3, .if_icmp .ne 2, .goto_w 1]), ([0, 1, 2, 3], [.aload 0, .getfield 960, .iconst 0, .aload 1, .iload 2, .iload 3, .ishl, .aload 0, .getfield 960, .arraylength, .lrem, .goto 3]), ([0, 1, 2], [.aload 0, .getfield 960, .iconst 0, .aload 1, .iload 2, .aload 0, .getfield 960, .arraylength]), ([], [.return_])])
/-- java/lang/String.<init>(Ljava/lang/StringBuilder;)V -/
def xM206 : XT := (2, 2, 30, 0, [], [([0, 1], [.aload 0, .aload 1, .aconst_null, .invokespecial 207, .return_])])
/-- java/lang/String.<init>(Ljava/lang/AbstractStringBuilder;Ljava/lang/Void;)V -/
def xM207 : XT := (3, 5, 30, 0, [], [([0, 1], [.aload 0, .monitorexit, .aload 1, .invokevirtual 204, .astore 3, .aload 1, .invokevirtual 221, .istore 4, .aload 1, .invokevirtual 202, .ifCond .eq 2, .goto_w 1]), ([0, 3, 4], [.aload 0, .iconst 0, .putfield 961, .aload 0, .aload 3, .iconst 0, .iload 4, .invokestatic 209, .putfield 960, .goto 6]), ([0, 1, 3, 4], [.getstatic 2, .ifCond .eq 5, .goto_w 3]), ([0, 1, 3, 4], [.aload 1, .getfield 386, .ifCond .eq 5, .goto_w 4]), ([0, 3, 4], [.aload 0, .aload 3, .iconst 0, .iload 4]), ([0, 3, 4], [.aload 0, .iconst 1, .putfield 961, .aload 0, .aload 3, .iconst 0, .iload 4, .iconst 1, .ishl, .invokestatic 209, .putfield 960, .goto_w 6]), ([], [.return_])])
/-- java/util/Arrays.copyOf([BI)[B -/
def xM208 : XT := (2, 3, 99, 8, [], [([0, 1], [.iload 1, .aload 0, .arraylength, .if_icmp .ne 2, .goto_w 1]), ([0], [.aload 0, .lneg, .monitorenter, .areturn]), ([0, 1], [.iload 1, .newarray .byte, .astore 2, .aload 0, .iconst 0, .aload 2, .iconst 0, .aload 0, .arraylength, .iload 1, .invokestatic 386, .lrem, .aload 2, .areturn])])
/-- java/util/Arrays.copyOfRange([BII)[B -/
def xM209 : XT := (3, 3, 99, 8, [], [([0, 1, 2], [.iload 1, .ifCond .ne 2, .goto_w 1]), ([0, 1, 2], [.iload 2, .aload 0, .arraylength, .if_icmp .eq 3, .goto_w 2]), ([0, 1, 2], [.aload 0, .iload 1, .iload 2, .invokestatic 210, .areturn]), ([0], [.aload 0, .lneg, .monitorenter, .areturn])])
/-- java/util/Arrays.copyOfRangeByte([BII)[B -/
def xM210 : XT := (3, 5, 99, 8, [], [([0, 1, 2], [.iload 1, .iload 2, .invokestatic 211, .iload 2, .iload 1, .isub, .istore 3, .iload 3, .newarray .byte, .astore 4, .aload 0, .iload 1, .aload 4, .iconst 0, .aload 0, .arraylength, .iload 1, .isub, .iload 3, .invokestatic 386, .lrem, .aload 4, .areturn])])
/-- java/util/Arrays.checkLength(II)V -/
def xM211 : XT := (2, 2, 99, 0, [], [([0, 1], [.iload 1, .iload 0, .if_icmp .ge 2, .goto_w 1]), ([], []), ([], [.return_])])
/-- java/lang/Integer.getChars(II[B)I -/
def xM212 : XT := (3, 7, 99, 1, [], [([0, 1, 2], [.iload 1, .istore 5, .iload 0, .ifCond .ge 2, .goto_w 1]), ([0, 2, 5], [.iconst 1, .goto 3]), ([0, 2, 5], [.iconst 0, .goto_w 3]), ([0, 2, 5], [.istore 6, .iload 6, .ifCond .ne 5, .goto_w 4]), ([0, 2, 5, 6], [.iload 0, .ineg, .istore 0, .goto_w 5]), ([0, 2, 5, 6], [.iload 0, .iconst (-100), .if_icmp .gt 7, .goto_w 6]), ([0, 2, 5, 6], [.iload 0, .iconst 100, .idiv, .istore 3, .iload 3, .iconst 100, .imul, .iload 0, .isub, .istore 4, .iload 3, .istore 0, .aload 2, .iinc 5 (-1), .iload 5, .getstatic 6, .iload 4, .baload, .bastore, .aload 2, .iinc 5 (-1), .iload 5, .getstatic 5, .iload 4, .baload, .bastore, .goto 5]), ([0, 2, 5, 6], [.aload 2, .iinc 5 (-1), .iload 5, .getstatic 6, .iload 0, .ineg, .baload, .bastore, .iload 0, .iconst (-9), .if_icmp .ge 9, .goto_w 8]), ([0, 2, 5, 6], [.aload 2, .iinc 5 (-1), .iload 5, .getstatic 5, .iload 0, .ineg, .baload, .bastore, .goto_w 9]), ([2, 5, 6], [.iload 6, .ifCond .eq 11, .goto_w 10]), ([2, 5], [.aload 2, .iinc 5 (-1), .iload 5, .iconst 45, .bastore, .goto_w 11]), ([5], [.iload 5, .ireturn])])
/-- java/lang/Integer.stringSize(I)I -/
def xM213 : XT := (1, 4, 99, 1, [], [([0], [.iconst 1, .istore 1, .iload 0, .ifCond .lt 2, .goto_w 1]), ([0], [.iconst 0, .istore 1, .iload 0, .ineg, .istore 0, .goto_w 2]), ([0, 1], [.iconst (-10), .istore 2, .iconst 1, .istore 3, .goto_w 3]), ([0, 1, 2, 3], [.iload 3, .iconst 10, .if_icmp .ge 7, .goto_w 4]), ([0, 1, 2, 3], [.iload 0, .iload 2, .if_icmp .le 6, .goto_w 5]), ([1, 3], [.iload 3, .iload 1, .iadd, .ireturn]), ([0, 1, 2, 3], [.iconst 10, .iload 2, .imul, .istore 2, .iinc 3 1, .goto 3]), ([1], [.iconst 10, .iload 1, .iadd, .ireturn])])
/-- jdk/internal/util/ArraysSupport.newLength(III)I -/
def xM214 : XT := (3, 4, 99, 1, [], [([0, 1, 2], [.iload 0, .iload 1, .iload 2, .invokestatic 385, .iadd, .istore 3, .iconst 0, .iload 3, .if_icmp .ge 3, .goto_w 1]), ([0, 1, 3], [.iload 3, .iconst 2147483639, .if_icmp .gt 3, .goto_w 2]), ([3], [.iload 3, .ireturn]), ([0, 1], [.iload 0, .iload 1])])
/-- java/lang/StringLatin1.canEncode(C)Z -/
def xM215 : XT := (1, 1, 99, 2, [], [([0], [.iload 0, .iconst 255, .if_icmp .gt 2, .goto_w 1]), ([], [.iconst 1, .goto 3]), ([], [.iconst 0, .goto_w 3]), ([], [.ireturn])])
/-- java/util/Arrays.equals([I[I)Z -/
def xM216 : XT := (2, 3, 99, 2, [], [([0, 1], [.aload 0, .aload 1, .if_acmp .ne 2, .goto_w 1]), ([], [.iconst 1, .ireturn]), ([0, 1], [.aload 0, .ifnull 4, .goto_w 3]), ([0, 1], [.aload 1, .ifnonnull 5, .goto_w 4]), ([], [.iconst 0, .ireturn]), ([0, 1], [.aload 0, .arraylength, .istore 2, .aload 1, .arraylength, .iload 2, .if_icmp .eq 7, .goto_w 6]), ([], [.iconst 0, .ireturn]), ([0, 1, 2], [.aload 0, .aload 1, .iload 2, .invokestatic 217, .ifCond .ge 9, .goto_w 8]), ([], [.iconst 1, .goto 10]), ([], [.iconst 0, .goto_w 10]), ([], [.ireturn])])
/-- jdk/internal/util/ArraysSupport.mismatch([I[II)I -/
def xM217 : XT := (3, 4, 99, 1, [], [([0, 1, 2], [.iconst 0, .istore 3, .iload 2, .iconst 1, .if_icmp .le 6, .goto_w 1]), ([0, 1, 2], [.aload 0, .iconst 0, .iaload, .aload 1, .iconst 0, .iaload, .if_icmp .eq 3, .goto_w 2]), ([], [.iconst 0, .ireturn]), ([0, 1, 2], [.aload 0, .getstatic 9, .i2l, .aload 1, .getstatic 9, .i2l, .iload 2, .getstatic 10, .invokestatic 218, .istore 3, .iload 3, .ifCond .lt 5, .goto_w 4]), ([3], [.iload 3, .ireturn]), ([0, 1, 2, 3], [.iload 2, .iload 3, .iconst (-1), .ixor, .isub, .istore 3, .goto_w 6]), ([0, 1, 2, 3], [.iload 3, .iload 2, .if_icmp .ge 10, .goto_w 7]), ([0, 1, 2, 3], [.aload 0, .iload 3, .iaload, .aload 1, .iload 3, .iaload, .if_icmp .eq 9, .goto_w 8]), ([3], [.iload 3, .ireturn]), ([0, 1, 2, 3], [.iinc 3 1, .goto 6]), ([], [.iconst (-1), .ireturn])])
/-- jdk/internal/util/ArraysSupport.vectorizedMismatch(Ljava/lang/Object;JLjava/lang/Object;JII)I -/
def xM218 : XT := (6, 19, 99, 1, [], [([0, 1, 3, 4, 6, 7], [.getstatic 11, .iload 7, .isub, .istore 8, .iconst 0, .istore 9, .goto_w 1]), ([0, 1, 3, 4, 6, 7, 8, 9], [.iload 9, .iload 6, .iload 8, .ishr, .if_icmp .ge 5, .goto_w 2]), ([0, 1, 3, 4, 6, 7, 8, 9], [.iload 9, .i2l, .getstatic 11, .lshl, .lstore 10, .getstatic 8, .aload 0, .lload 1, .lload 10, .ladd, .invokevirtual 219, .lstore 12, .getstatic 8, .aload 3, .lload 4, .lload 10, .ladd, .invokevirtual 219, .lstore 14, .lload 12, .lload 14, .lcmp, .ifCond .eq 4, .goto_w 3]), ([12, 14], [.lload 12, .lload 14, .lxor, .lstore 16]), ([0, 1, 3, 4, 6, 7, 8, 9], [.iinc 9 1, .goto 1]), ([0, 1, 6, 7, 8, 9], [.iload 6, .iload 9, .iload 8, .ishl, .isub, .istore 10, .iload 7, .getstatic 10, .if_icmp .ge 9, .goto_w 6]), ([0, 1, 7, 9, 10], [.iconst 1, .getstatic 10, .iload 7, .isub, .ishl, .istore 11, .iload 10, .iload 11, .if_icmp .lt 8, .goto_w 7]), ([0, 1, 9], [.iload 9, .i2l, .getstatic 11, .lshl, .lstore 12, .getstatic 8, .aload 0, .lload 1, .lload 12, .ladd]), ([10], [.iload 10, .iconst (-1), .ixor, .ireturn]), ([10], [.iload 10, .iconst (-1), .ixor, .ireturn])])
/-- jdk/internal/misc/Unsafe.getLongUnaligned(Ljava/lang/Object;J)J -/
def xM219 : XT := (3, 4, 31, 5, [], [([0, 1, 2], [.lload 2, .jsr 7, .land, .lconst 0, .lcmp, .ifCond .ne 2, .goto_w 1]), ([0, 1, 2], [.aload 0, .aload 1, .lload 2, .ldiv, .lreturn]), ([0, 1, 2], [.lload 2, .jsr 3, .land, .lconst 0, .lcmp, .ifCond .ne 4, .goto_w 3]), ([0, 1, 2], [.aload 0, .aload 1, .lload 2]), ([0, 1, 2], [.lload 2, .lconst 1, .land, .lconst 0, .lcmp, .ifCond .ne 6, .goto_w 5]), ([0, 1, 2], [.aload 0, .aload 1, .lload 2]), ([0, 1, 2], [.aload 0, .aload 1, .lload 2])])
/-- java/lang/StringBuilder.append(Ljava/lang/String;)Ljava/lang/AbstractStringBuilder; -/
def xM220 : XT := (2, 2, 12, 8, [], [([0, 1], [.aload 0, .aload 1, .invokevirtual 193, .areturn])])
/-- java/lang/StringBuilder.length()I -/
def xM221 : XT := (1, 1, 12, 1, [], [([0], [.aload 0, .invokespecial 203, .ireturn])])
/-- java/lang/Integer.bitCount(I)I -/
def xM383 : XT := (1, 1, 99, 1, [], [([0], [.iload 0, .iload 0, .iconst 1, .iushr, .iconst 1431655765, .iand, .isub, .istore 0, .iload 0, .iconst 858993459, .iand, .iload 0, .iconst 2, .iushr, .iconst 858993459, .iand, .iadd, .istore 0, .iload 0, .iload 0, .iconst 4, .iushr, .iadd, .iconst 252645135, .iand, .istore 0, .iload 0, .iload 0, .iconst 8, .iushr, .iadd, .istore 0, .iload 0, .iload 0, .iconst 16, .iushr, .iadd, .istore 0, .iload 0, .iconst 63, .iand, .ireturn])])
/-- java/lang/Math.abs(I)I -/
def xM384 : XT := (1, 1, 99, 1, [], [([0], [.iload 0, .ifCond .ge 2, .goto_w 1]), ([0], [.iload 0, .ineg, .goto 3]), ([0], [.iload 0, .goto_w 3]), ([], [.ireturn])])
/-- java/lang/Math.max(II)I -/
def xM385 : XT := (2, 2, 99, 1, [], [([0, 1], [.iload 0, .iload 1, .if_icmp .lt 2, .goto_w 1]), ([0], [.iload 0, .goto 3]), ([1], [.iload 1, .goto_w 3]), ([], [.ireturn])])
/-- java/lang/Math.min(II)I -/
def xM386 : XT := (2, 2, 99, 1, [], [([0, 1], [.iload 0, .iload 1, .if_icmp .gt 2, .goto_w 1]), ([0], [.iload 0, .goto 3]), ([1], [.iload 1, .goto_w 3]), ([], [.ireturn])])
/-- java/lang/Float.isNaN(F)Z -/
def xM387 : XT := (1, 1, 99, 2, [], [([0], [.fload 0, .fload 0, .fcmp .l, .ifCond .eq 2, .goto_w 1]), ([], [.iconst 1, .goto 3]), ([], [.iconst 0, .goto_w 3]), ([], [.ireturn])])
/-- java/lang/Float.floatToIntBits(F)I -/
def xM388 : XT := (1, 1, 99, 1, [], [([0], [.fload 0, .invokestatic 387, .ifCond .ne 2, .goto_w 1]), ([0], [.fload 0, .invokedynamic 0, .ireturn]), ([], [.iconst 2143289344, .ireturn])])
/-- java/lang/Double.isNaN(D)Z -/
def xM389 : XT := (1, 2, 99, 2, [], [([0], [.dload 0, .dload 0, .dcmp .l, .ifCond .eq 2, .goto_w 1]), ([], [.iconst 1, .goto 3]), ([], [.iconst 0, .goto_w 3]), ([], [.ireturn])])
/-- java/lang/Double.doubleToLongBits(D)J -/
def xM390 : XT := (1, 2, 99, 5, [], [([0], [.dload 0, .invokestatic 389, .ifCond .ne 2, .goto_w 1]), ([0], [.dload 0, .invokedynamic 1, .lreturn]), ([], [.jsr 9221120237041090560, .lreturn])])
/-- java/lang/String.length()I -/
def xM391 : XT := (1, 1, 30, 1, [], [([0], [.aload 0, .getfield 960, .arraylength, .aload 0, .invokevirtual 393, .ishr, .ireturn])])
/-- java/lang/String.charAt(I)C -/
def xM392 : XT := (2, 2, 30, 4, [], [([0, 1], [.aload 0, .invokevirtual 394, .ifCond .eq 2, .goto_w 1]), ([0, 1], [.aload 0, .getfield 960, .iload 1, .invokestatic 396, .ireturn]), ([0, 1], [.aload 0, .getfield 960, .iload 1])])
/-- java/lang/String.coder()B -/
def xM393 : XT := (1, 1, 30, 3, [], [([0], [.getstatic 2, .ifCond .eq 2, .goto_w 1]), ([0], [.aload 0, .getfield 961, .goto 3]), ([], [.iconst 1, .goto_w 3]), ([], [.ireturn])])
/-- java/lang/String.isLatin1()Z -/
def xM394 : XT := (1, 1, 30, 2, [], [([0], [.getstatic 2, .ifCond .eq 3, .goto_w 1]), ([0], [.aload 0, .getfield 961, .ifCond .ne 3, .goto_w 2]), ([], [.iconst 1, .goto 4]), ([], [.iconst 0, .goto_w 4]), ([], [.ireturn])])
/-- java/lang/String.checkIndex(II)V -/
def xM395 : XT := (2, 2, 99, 0, [], [([0, 1], [.iload 0, .iload 1, .getstatic 4, .invokestatic 397, .pop, .return_])])
/-- java/lang/StringLatin1.charAt([BI)C -/
def xM396 : XT := (2, 2, 99, 4, [], [([0, 1], [.iload 1, .aload 0, .arraylength, .invokestatic 395, .aload 0, .iload 1, .baload, .iconst 255, .iand, .i2c, .ireturn])])
/-- jdk/internal/util/Preconditions.checkIndex(IILjava/util/function/BiFunction;)I -/
def xM397 : XT := (3, 3, 99, 1, [], [([0, 1, 2], [.iload 0, .ifCond .lt 2, .goto_w 1]), ([0, 1, 2], [.iload 0, .iload 1, .if_icmp .lt 3, .goto_w 2]), ([0, 1, 2], [.aload 2, .iload 0, .iload 1]), ([0], [.iload 0, .ireturn])])
def xmts : List XT := [xM0, xM1, xM2, xM3, xM4, xM5, xM6, xM7, xM8, xM9, xM10, xM11, xM12, xM13, xM14, xM15, xM16, xM17, xM18, xM19, xM20, xM21, xM22, xM23, xM24, xM25, xM26, xM27, xM28, xM29, xM30, xM31, xM32, xM33, xM34, xM35, xM36, xM37, xM38, xM39, xM40, xM41, xM42, xM43, xM44, xM45, xM46, xM47, xM48, xM49, xM50, xM51, xM52, xM53, xM54, xM55, xM56, xM57, xM58, xM59, xM60, xM61, xM62, xM63, xM64, xM65, xM66, xM67, xM68, xM69, xM70, xM71, xM72, xM73, xM74, xM75, xM76, xM77, xM78, xM79, xM80, xM81, xM82, xM83, xM84, xM85, xM86, xM87, xM88, xM89, xM90, xM91, xM92, xM93, xM94, xM95, xM96, xM97, xM98, xM99, xM100, xM101, xM102, xM103, xM104, xM105, xM106, xM107, xM108, xM109, xM110, xM111, xM112, xM113, xM114, xM115, xM116, xM117, xM118, xM119, xM120, xM121, xM122, xM123, xM124, xM125, xM126, xM127, xM128, xM129, xM130, xM131, xM132, xM133, xM134, xM135, xM136, xM137, xM138, xM139, xM140, xM141, xM142, xM143, xM144, xM145, xM146, xM147, xM148, xM149, xM150, xM151, xM152, xM153, xM154, xM155, xM156, xM157, xM158, xM159, xM160, xM161, xM162, xM163, xM164, xM165, xM166, xM167, xM168, xM169, xM170, xM171, xM172, xM173, xM174, xM175, xM176, xM177, xM178, xM179, xM180, xM181, xM182, xM183, xM184, xM185, xM186, xM187, xM188, xM189, xM190, xM191, xM192, xM193, xM194, xM195, xM196, xM197, xM198, xM199, xM200, xM201, xM202, xM203, xM204, xM205, xM206, xM207, xM208, xM209, xM210, xM211, xM212, xM213, xM214, xM215, xM216, xM217, xM218, xM219, xM220, xM221, xMd, xMd, xMd, xMd, xMd, xMd, xMd, xMd, xMd, xMd, xMd, xMd, xMd, xMd, xMd, xMd, xMd, xMd, xMd, xMd, xMd, xMd, xMd, xMd, xMd, xMd, xMd, xMd, xMd, xMd, xMd, xMd, xMd, xMd, xMd, xMd, xMd, xMd, xMd, xMd, xMd, xMd, xMd, xMd, xMd, xMd, xMd, xMd, xMd, xMd, xMd, xMd, xMd, xMd, xMd, xMd, xMd, xMd, xMd, xMd, xMd, xMd, xMd, xMd, xMd, xMd, xMd, xMd, xMd, xMd, xMd, xMd, xMd, xMd, xMd, xMd, xMd, xMd, xMd, xMd, xMd, xMd, xMd, xMd, xMd, xMd, xMd, xMd, xMd, xMd, xMd, xMd, xMd, xMd, xMd, xMd, xMd, xMd, xMd, xMd, xMd, xMd, xMd, xMd, xMd, xMd, xMd, xMd, xMd, xMd, xMd, xMd, xMd, xMd, xMd, xMd, xMd, xMd, xMd, xMd, xMd, xMd, xMd, xMd, xMd, xMd, xMd, xMd, xMd, xMd, xMd, xMd, xMd, xMd, xMd, xMd, xMd, xMd, xMd, xMd, xMd, xMd, xMd, xMd, xMd, xMd, xMd, xMd, xMd, xMd, xMd, xMd, xMd, xMd, xMd, xMd, xMd, xMd, xMd, xMd, xMd, xM383, xM384, xM385, xM386, xM387, xM388, xM389, xM390, xM391, xM392, xM393, xM394, xM395, xM396, xM397]
def xmt (y : Nat) : Option XT := xmts[y]?
end
section
/-! X: a small machine over the tables of 02.xcode. Its heap: a list of cells (a cell's address is its place), the whole numbers that they hold (XM), and what a long[1] or double[1] holds. -/
/-- a cell: kind (a component's place, 0 to 11; 20 int[], 21 byte[], 22 boolean[], 23 long[], 24 double[], 25 State[]), length, references -/
abbrev XC : Type := Nat × Nat × List (Option Nat)
abbrev XM : Type := Nat → Nat → Int32
/-- the cells; the exceptions that were made; the wide cells; the whole numbers -/
abbrev XS : Type := List XC × Nat × (Nat → Value) × XM
abbrev XL : Type := List (Nat × Value)
abbrev XR : Type := Option Value ⊕ Nat
abbrev XK : Type := Nat × (Nat → Int32)
abbrev XO : Type := Option (XR × XS)
def um (m : XM) (a k : Nat) (v : Int32) : XM := fun a' k' => if a' = a ∧ k' = k then v else m a' k'
def uz (m : XM) (a : Nat) : XM := fun a' k' => if a' = a then 0 else m a' k'
def uw (w : Nat → Value) (a : Nat) (v : Value) : Nat → Value := fun a' => if a' = a then v else w a'
def xk : XL → Nat → Option Value
  | [], _ => none
  | (j, v) :: t, i => if j = i then some v else xk t i
def xdel : XL → Nat → Nat → XL
  | [], _, _ => []
  | (j, w) :: t, i, n => if j < i + n ∧ i < j + w.category then xdel t i n else (j, w) :: xdel t i n
def xst (ls : XL) (i : Nat) (v : Value) : XL := (i, v) :: xdel ls i v.category
def xnorm : List Nat → XL → XL
  | [], _ => []
  | k :: t, ls => match xk ls k with
    | some v => (k, v) :: xnorm t ls
    | none => xnorm t ls
def xtl : Value → Int64
  | .long v => v
  | _ => 0
def xtd : Value → UInt64
  | .double v => v
  | _ => 0
def xbr (c : ClassFile.Cond) (a b : Int32) (t f : XO) : XO :=
  match c with
  | .eq => if a = b then t else f
  | .ne => if a = b then f else t
  | .lt => if a < b then t else f
  | .ge => if b ≤ a then t else f
  | .gt => if b < a then t else f
  | .le => if a ≤ b then t else f
/-- constant cells: 1000000 the law's script, 1000001 and 1000002 two static arrays, 1000003 a list's first array, 1000004 the memory's object, from 1000010 on the texts, from 1000040 on their bytes, 1000058 and 1000059 the digits -/
def xK0 : XK := (0, fun _ => 0)
def xstr : List (List Int32) := [[110, 111, 116, 32, 115, 111, 32, 109, 97, 110, 121, 32, 98, 121, 116, 101, 115, 32, 105, 110, 32, 116, 104, 101, 32, 98, 117, 102, 102, 101, 114], [112, 97, 114, 97, 100, 101], [98, 101, 97, 114, 101, 114], [115, 116, 97, 110, 100], [114, 105, 103, 104, 116], [108, 101, 102, 116], [112, 108, 97, 110], [97, 110, 32, 97, 114, 103, 117, 109, 101, 110, 116, 32, 100, 111, 101, 115, 32, 110, 111, 116, 32, 102, 105, 116], [110, 111, 32, 116, 101, 120, 116, 32, 119, 97, 115, 32, 108, 111, 97, 100, 101, 100], [110, 111, 32, 115, 117, 99, 104, 32, 105, 110, 100, 101, 120], [110, 111, 32, 99, 104, 97, 110, 103, 101, 32, 99, 97, 110, 32, 98, 101, 32, 117, 110, 100, 111, 110, 101], [110, 111, 116, 104, 105, 110, 103, 32, 105, 115, 32, 115, 97, 118, 101, 100, 32, 116, 104, 101, 114, 101], [112, 97, 114, 97, 100, 101], [59, 98, 101, 97, 114, 101, 114, 32], [59, 112, 108, 97, 110, 32], [59, 115, 116, 97, 110, 100, 32], [108, 101, 102, 116, 32], [114, 105, 103, 104, 116, 32], [48, 48, 48, 48, 48, 48, 48, 48, 48, 48, 49, 49, 49, 49, 49, 49, 49, 49, 49, 49, 50, 50, 50, 50, 50, 50, 50, 50, 50, 50, 51, 51, 51, 51, 51, 51, 51, 51, 51, 51, 52, 52, 52, 52, 52, 52, 52, 52, 52, 52, 53, 53, 53, 53, 53, 53, 53, 53, 53, 53, 54, 54, 54, 54, 54, 54, 54, 54, 54, 54, 55, 55, 55, 55, 55, 55, 55, 55, 55, 55, 56, 56, 56, 56, 56, 56, 56, 56, 56, 56, 57, 57, 57, 57, 57, 57, 57, 57, 57, 57], [48, 49, 50, 51, 52, 53, 54, 55, 56, 57, 48, 49, 50, 51, 52, 53, 54, 55, 56, 57, 48, 49, 50, 51, 52, 53, 54, 55, 56, 57, 48, 49, 50, 51, 52, 53, 54, 55, 56, 57, 48, 49, 50, 51, 52, 53, 54, 55, 56, 57, 48, 49, 50, 51, 52, 53, 54, 55, 56, 57, 48, 49, 50, 51, 52, 53, 54, 55, 56, 57, 48, 49, 50, 51, 52, 53, 54, 55, 56, 57, 48, 49, 50, 51, 52, 53, 54, 55, 56, 57, 48, 49, 50, 51, 52, 53, 54, 55, 56, 57]]
def xci (K : XK) (a : Nat) : Option XK :=
  if a = 1000000 then (if K.1 = 0 then none else some (K.1 - 1, K.2))
  else if a = 1000001 then some (6, fun j => [1, 0, 1, 0, 1, 0].getD j 0)
  else if a = 1000002 then some (6, fun j => [999, 9999, 9999, 50, 100, 9999].getD j 0)
  else none
def xcb (a : Nat) : Option XK :=
  if 1000040 ≤ a then (xstr[a - 1000040]?).map (fun l => (l.length, fun j => l.getD j 0)) else none
/-- which fields are references; which are boolean -/
def xrefs : List (List Bool) := [[false, true], [false, true, true, true], [false, false, true, true, true], [true, true, true, false, false], [false, true, true, true], [false, false, true, true], [false, true, true, true, true], [false, true, true, true, true, true, true, true, true], [false, false, false, false, true, true, true, true, true], [true, false, false, false, false, false, false], [true, true, true, true, true, true, true, false], [true, true, true, true, true, true, true, true, true, true, true, true, true, true, true, true, false, false, false, false, false, false, false, false], [true, false, false, false], [false, true, false], [true, false, false, false]]
def xref (c k : Nat) : Bool := (xrefs.getD c []).getD k false
def xbl (c k : Nat) : Bool := (c == 10 && k == 7) || (c == 12 && (k == 1 || k == 2)) || (c == 14 && (k == 1 || k == 3))
def xnf : List Nat := [2, 4, 5, 5, 4, 4, 5, 9, 9, 7, 8, 24, 4, 3, 4]
def xin (i : Int32) (n : Nat) : Bool := decide (0 ≤ i) && decide (i.toNatClampNeg < n)
def xkind : ArrayType → Nat
  | .int => 20
  | .byte => 21
  | .boolean => 22
  | .long => 23
  | .double => 24
  | _ => 0
/-- a text that was made has its fields' numbers of its own: 960, 961 -/
def xgetS (ci n : Nat) (rs : List (Option Nat)) (m : XM) (f a : Nat) : Option Value :=
  if ci = 14 ∧ n = 4 then (if f = 960 then (match rs[0]? with
      | some (some b) => some (.ref b)
      | _ => none) else if f = 961 then some (.int (m a 1)) else none) else none
def xget (S : List XC) (m : XM) (f a : Nat) : Option Value :=
  match S[a]? with
  | some (ci, n, rs) => if ci = f / 32 ∧ f % 32 < n ∧ ci < 15 then (if xref ci (f % 32) then
      (match rs[f % 32]? with
      | some (some b) => some (.ref b)
      | _ => none) else some (.int (m a (f % 32)))) else xgetS ci n rs m f a
  | none => if 1000010 ≤ a ∧ a < 1000028 then (if f = 960 then some (.ref (a + 30)) else if f = 961 then some (.int 0) else none) else none
def xok (n : Nat) : Value → Bool
  | .ref a => decide (a < n) || decide (1000000 ≤ a)
  | _ => true
/-- a new cell has a place of its own: no value speaks of it yet -/
def xfresh (S : List XC) (ls : XL) (st : List Value) : Bool :=
  decide (S.length < 1000000) && st.all (xok S.length) && ls.all (fun q => xok S.length q.2) && S.all (fun x => x.2.2.all (fun r => match r with
    | some b => decide (b < S.length) || decide (1000000 ≤ b)
    | none => true))
/-- putting into a text that is being made -/
def xputI (ci n : Nat) (f : Nat) (v : Int32) (a : Nat) (m : XM) : Option XM := if ci = 14 ∧ n = 4 ∧ f = 961 ∧ v = 0 then some (um m a 1 v) else none
def xputR (ci n : Nat) (rs : List (Option Nat)) (f v : Nat) (S : List XC) (a : Nat) : Option (List XC) := if ci = 14 ∧ n = 4 ∧ f = 960 ∧ rs.length = n ∧ v < S.length then some (S.set a (ci, n, rs.set 0 (some v))) else none
/-- what is copied: from place i of f to place j of the cell b, n of them -/
def ucp (m : XM) (b j n : Nat) (f : Nat → Int32) (i : Nat) : XM := fun a k => if a = b ∧ j ≤ k ∧ k < j + n then f (k - j + i) else m a k
/-- a cell that is a copy of another -/
def ucl (m : XM) (q a : Nat) : XM := fun a' k => if a' = q then m a k else m a' k
/-- n numbers from place i on are bytes -/
def xft (f : Nat → Int32) (i n : Nat) : Bool := (List.range n).all fun k => decide (-128 ≤ f (i + k)) && decide (f (i + k) ≤ 127)
/-- the source of a copy: its kind, length and numbers -/
def xsrc (S : List XC) (m : XM) (a : Nat) : Option (Nat × Nat × (Nat → Int32)) :=
  match S[a]? with
  | some (ci, n, _) => if ci = 20 ∨ ci = 21 then some (ci, n, m a) else none
  | none => match xcb a with
    | some (n, f) => some (21, n, f)
    | none => none
/-- the byte k of a whole number -/
def xby (x : Int32) (k : Nat) : Nat := x.toUInt32.toNat / 2 ^ (8 * k) % 256
/-- eight bytes of two whole numbers as the machine reads them -/
def xgl (x y : Int32) : Int64 := (xby x 0 * 2 ^ 0 + (xby x 1 * 2 ^ 8 + (xby x 2 * 2 ^ 16 + (xby x 3 * 2 ^ 24 + (xby y 0 * 2 ^ 32 + (xby y 1 * 2 ^ 40 + (xby y 2 * 2 ^ 48 + (xby y 3 * 2 ^ 56 + 0)))))))).toUInt64.toInt64
/-- the instructions that only go on -/
def xone (K : XK) (i : Instr) (ls : XL) (st : List Value) (σ : XS) : Option (XL × List Value × XS) :=
  match i with
  | .iconst n => some (ls, .int (Int32.ofInt n) :: st, σ)
  | .ldc_w b => some (ls, .float (UInt32.ofNat b) :: st, σ)
  | .ldc2_w b => some (ls, .double (UInt64.ofNat b) :: st, σ)
  | .jsr n => some (ls, .long (Int64.ofInt n) :: st, σ)
  | .ldc k => some (ls, .ref (1000010 + k) :: st, σ)
  | .fconst n => some (ls, .float (if (n : Nat) = 0 then FP.fconst0 else if (n : Nat) = 1 then FP.fconst1 else FP.fconst2) :: st, σ)
  | .dconst n => some (ls, .double (if (n : Nat) = 0 then FP.dconst0 else FP.dconst1) :: st, σ)
  | .lconst n => some (ls, .long (Int64.ofNat (n : Nat)) :: st, σ)
  | .iload k => match xk ls k with
    | some (.int v) => some (ls, .int v :: st, σ)
    | _ => none
  | .aload k => match xk ls k with
    | some (.ref v) => some (ls, .ref v :: st, σ)
    | _ => none
  | .lload k => match xk ls k with
    | some (.long v) => some (ls, .long v :: st, σ)
    | _ => none
  | .fload k => match xk ls k with
    | some (.float v) => some (ls, .float v :: st, σ)
    | _ => none
  | .dload k => match xk ls k with
    | some (.double v) => some (ls, .double v :: st, σ)
    | _ => none
  | .istore k => match st with
    | .int v :: r => some (xst ls k (.int v), r, σ)
    | _ => none
  | .astore k => match st with
    | .ref v :: r => some (xst ls k (.ref v), r, σ)
    | _ => none
  | .lstore k => match st with
    | .long v :: r => some (xst ls k (.long v), r, σ)
    | _ => none
  | .fstore k => match st with
    | .float v :: r => some (xst ls k (.float v), r, σ)
    | _ => none
  | .dstore k => match st with
    | .double v :: r => some (xst ls k (.double v), r, σ)
    | _ => none
  | .iinc k n => match xk ls k with
    | some (.int v) => some (xst ls k (.int (v + Int32.ofInt n)), st, σ)
    | _ => none
  | .iadd => match st with
    | .int y :: .int x :: r => some (ls, .int (x + y) :: r, σ)
    | _ => none
  | .isub => match st with
    | .int y :: .int x :: r => some (ls, .int (x - y) :: r, σ)
    | _ => none
  | .imul => match st with
    | .int y :: .int x :: r => some (ls, .int (x * y) :: r, σ)
    | _ => none
  | .idiv => match st with
    | .int y :: .int x :: r => if y = 0 then none else some (ls, .int (x / y) :: r, σ)
    | _ => none
  | .irem => match st with
    | .int y :: .int x :: r => if y = 0 then none else some (ls, .int (x - x / y * y) :: r, σ)
    | _ => none
  | .ineg => match st with
    | .int x :: r => some (ls, .int (-x) :: r, σ)
    | _ => none
  | .ixor => match st with
    | .int y :: .int x :: r => some (ls, .int (x ^^^ y) :: r, σ)
    | _ => none
  | .land => match st with
    | .long y :: .long x :: r => some (ls, .long (x &&& y) :: r, σ)
    | _ => none
  | .aconst_null => some (ls, .null :: st, σ)
  | .dup_x1 => match st with
    | v :: u :: r => if v.category = 1 ∧ u.category = 1 then some (ls, v :: u :: v :: r, σ) else none
    | _ => none
  | .monitorenter => match st with
    | .ref a :: r => match σ.1[a]? with
      | some (ci, _, _) => if ci = 21 then some (ls, .ref a :: r, σ) else none
      | none => none
    | _ => none
  | .lneg => match st with
    | .ref a :: r => match σ.1[a]? with
      | some (ci, n, _) => if ci = 21 ∧ n ≤ 5000 ∧ xft (σ.2.2.2 a) 0 n = true ∧ xfresh σ.1 ls r = true ∧ (r.map fun v => v.category).sum ≤ 8 then
          some (ls, .ref σ.1.length :: r, σ.1 ++ [(21, n, [])], σ.2.1, σ.2.2.1, ucl σ.2.2.2 σ.1.length a) else none
      | none => none
    | _ => none
  | .lrem => match st with
    | .int n :: .int j :: .ref b :: .int i :: .ref a :: r => match xsrc σ.1 σ.2.2.2 a with
      | some (ca, na, f) => match σ.1[b]? with
        | some (cb, nb, _) => if ca = cb ∧ (cb = 20 ∨ (cb = 21 ∧ xft f i.toNatClampNeg n.toNatClampNeg = true)) ∧ a ≠ b ∧ 0 ≤ n ∧ 0 ≤ i ∧ 0 ≤ j ∧ i.toNatClampNeg + n.toNatClampNeg ≤ na ∧ j.toNatClampNeg + n.toNatClampNeg ≤ nb ∧ (r.map fun v => v.category).sum ≤ 8 then
            some (ls, r, σ.1, σ.2.1, σ.2.2.1, ucp σ.2.2.2 b j.toNatClampNeg n.toNatClampNeg f i.toNatClampNeg) else none
        | none => none
      | none => none
    | _ => none
  | .ldiv => match st with
    | .long off :: .ref a :: .ref u :: r => match σ.1[a]? with
      | some (ci, n, _) => if ci = 20 ∧ u = 1000004 ∧ 0 ≤ off ∧ 16 ≤ off.toNatClampNeg ∧ off.toNatClampNeg % 8 = 0 ∧ off.toNatClampNeg + 8 ≤ 16 + 4 * n ∧ (r.map fun v => v.category).sum ≤ 8 then
          some (ls, .long (xgl (σ.2.2.2 a ((off.toNatClampNeg - 16) / 4)) (σ.2.2.2 a ((off.toNatClampNeg - 16) / 4 + 1))) :: r, σ) else none
      | none => none
    | _ => none
  | .iand => match st with
    | .int y :: .int x :: r => some (ls, .int (x &&& y) :: r, σ)
    | _ => none
  | .ior => match st with
    | .int y :: .int x :: r => some (ls, .int (x ||| y) :: r, σ)
    | _ => none
  | .ishl => match st with
    | .int y :: .int x :: r => some (ls, .int (x <<< (y &&& 31)) :: r, σ)
    | _ => none
  | .ishr => match st with
    | .int y :: .int x :: r => some (ls, .int (x >>> (y &&& 31)) :: r, σ)
    | _ => none
  | .iushr => match st with
    | .int y :: .int x :: r => some (ls, .int (x.toUInt32 >>> (y.toUInt32 &&& Int32.toUInt32 31)).toInt32 :: r, σ)
    | _ => none
  | .i2l => match st with
    | .int x :: r => some (ls, .long x.toInt64 :: r, σ)
    | _ => none
  | .i2b => match st with
    | .int x :: r => some (ls, .int x.toInt8.toInt32 :: r, σ)
    | _ => none
  | .i2c => match st with
    | .int x :: r => some (ls, .int (x.toUInt32 % 65536).toInt32 :: r, σ)
    | _ => none
  | .i2f => match st with
    | .int x :: r => some (ls, .float (FP.i2f x) :: r, σ)
    | _ => none
  | .i2d => match st with
    | .int x :: r => some (ls, .double (FP.i2d x) :: r, σ)
    | _ => none
  | .f2i => match st with
    | .float x :: r => some (ls, .int (FP.f2i x) :: r, σ)
    | _ => none
  | .f2d => match st with
    | .float x :: r => if FP.f2d x &&& 0x7fffffffffffffff ≤ 0x7ff0000000000000 then some (ls, .double (FP.f2d x) :: r, σ) else none
    | _ => none
  | .d2l => match st with
    | .double x :: r => some (ls, .long (FP.d2l x) :: r, σ)
    | _ => none
  | .ladd => match st with
    | .long y :: .long x :: r => some (ls, .long (x + y) :: r, σ)
    | _ => none
  | .lsub => match st with
    | .long y :: .long x :: r => some (ls, .long (x - y) :: r, σ)
    | _ => none
  | .lshl => match st with
    | .int y :: .long x :: r => some (ls, .long (x <<< (y.toInt64 &&& 63)) :: r, σ)
    | _ => none
  | .lcmp => match st with
    | .long y :: .long x :: r => some (ls, .int (lg_cmp x y) :: r, σ)
    | _ => none
  | .fmul => match st with
    | .float y :: .float x :: r => if FP.fmul x y &&& 0x7fffffff ≤ 0x7f800000 then some (ls, .float (FP.fmul x y) :: r, σ) else none
    | _ => none
  | .fdiv => match st with
    | .float y :: .float x :: r => if FP.fdiv x y &&& 0x7fffffff ≤ 0x7f800000 then some (ls, .float (FP.fdiv x y) :: r, σ) else none
    | _ => none
  | .fsub => match st with
    | .float y :: .float x :: r => if FP.fsub x y &&& 0x7fffffff ≤ 0x7f800000 then some (ls, .float (FP.fsub x y) :: r, σ) else none
    | _ => none
  | .dmul => match st with
    | .double y :: .double x :: r => if FP.dmul x y &&& 0x7fffffffffffffff ≤ 0x7ff0000000000000 then some (ls, .double (FP.dmul x y) :: r, σ) else none
    | _ => none
  | .ddiv => match st with
    | .double y :: .double x :: r => if FP.ddiv x y &&& 0x7fffffffffffffff ≤ 0x7ff0000000000000 then some (ls, .double (FP.ddiv x y) :: r, σ) else none
    | _ => none
  | .dsub => match st with
    | .double y :: .double x :: r => if FP.dsub x y &&& 0x7fffffffffffffff ≤ 0x7ff0000000000000 then some (ls, .double (FP.dsub x y) :: r, σ) else none
    | _ => none
  | .fcmp op => match st with
    | .float y :: .float x :: r => some (ls, .int (Op.cmpValue (FP.fcmp x y) op) :: r, σ)
    | _ => none
  | .dcmp op => match st with
    | .double y :: .double x :: r => some (ls, .int (Op.cmpValue (FP.dcmp x y) op) :: r, σ)
    | _ => none
  | .dup => match st with
    | v :: r => if v.category = 1 then some (ls, v :: v :: r, σ) else none
    | _ => none
  | .dup2 => match st with
    | v :: u :: r => if v.category = 1 ∧ u.category = 1 then some (ls, v :: u :: v :: u :: r, σ) else none
    | _ => none
  | .monitorexit => match st with
    | .ref _ :: r => if (r.map fun v => v.category).sum ≤ 8 then some (ls, r, σ) else none
    | _ => none
  | .pop => match st with
    | v :: r => if v.category = 1 then some (ls, r, σ) else none
    | _ => none
  | .frem => match st with
    | .float z :: .float x :: r => if FP.fIsNaN x = false ∧ FP.fIsNaN z = false ∧ (r.map fun v => v.category).sum ≤ 8 then some (ls, .float (Native.java_lang_Math.nans.pick32 true x z) :: r, σ) else none
    | _ => none
  | .invokedynamic k => match st with
    | .float x :: r => if k = 0 ∧ (r.map fun v => v.category).sum ≤ 8 then some (ls, .int x.toInt32 :: r, σ) else none
    | .double x :: r => if k = 1 ∧ (r.map fun v => v.category).sum ≤ 8 then some (ls, .long x.toInt64 :: r, σ) else none
    | _ => none
  | .getstatic k =>
    if k = 0 then some (ls, .ref 1000001 :: st, σ)
    else if k = 1 then some (ls, .ref 1000002 :: st, σ)
    else if k = 2 then some (ls, .int 1 :: st, σ)
    else if k = 3 then some (ls, .long (-2147483648) :: st, σ)
    else if k = 4 then some (ls, .retAddr 0 :: st, σ)
    else if k = 5 then some (ls, .ref 1000058 :: st, σ)
    else if k = 6 then some (ls, .ref 1000059 :: st, σ)
    else if k = 7 then some (ls, .ref 1000003 :: st, σ)
    else if k = 8 then some (ls, .ref 1000004 :: st, σ)
    else if k = 9 then some (ls, .int 16 :: st, σ)
    else if k = 10 then some (ls, .int 2 :: st, σ)
    else if k = 11 then some (ls, .int 3 :: st, σ)
    else none
  | .getfield f => match st with
    | .ref a :: r => match xget σ.1 σ.2.2.2 f a with
      | some v => some (ls, v :: r, σ)
      | none => none
    | _ => none
  | .putfield f => match st with
    | .int v :: .ref a :: r => match σ.1[a]? with
      | some (ci, n, _) => if ci = f / 32 ∧ ci < 15 ∧ f % 32 < n ∧ xref ci (f % 32) = false ∧ (xbl ci (f % 32) = false ∨ v = 0 ∨ v = 1) then
          some (ls, r, σ.1, σ.2.1, σ.2.2.1, um σ.2.2.2 a (f % 32) v) else (match xputI ci n f v a σ.2.2.2 with
          | some m' => some (ls, r, σ.1, σ.2.1, σ.2.2.1, m')
          | none => none)
      | none => none
    | .ref v :: .ref a :: r => match σ.1[a]? with
      | some (ci, n, rs) => if ci = f / 32 ∧ ci < 15 ∧ f % 32 < n ∧ xref ci (f % 32) = true ∧ rs.length = n ∧ (v < σ.1.length ∨ (v = 1000003 ∧ ci = 13)) then
          some (ls, r, σ.1.set a (ci, n, rs.set (f % 32) (some v)), σ.2.1, σ.2.2.1, σ.2.2.2) else (match xputR ci n rs f v σ.1 a with
          | some S' => some (ls, r, S', σ.2.1, σ.2.2.1, σ.2.2.2)
          | none => none)
      | none => none
    | _ => none
  | .iaload => match st with
    | .int i :: .ref a :: r => match σ.1[a]? with
      | some (ci, n, _) => if ci = 20 ∧ xin i n = true then some (ls, .int (σ.2.2.2 a i.toNatClampNeg) :: r, σ) else none
      | none => match xci K a with
        | some (n, f) => if xin i n = true then some (ls, .int (f i.toNatClampNeg) :: r, σ) else none
        | none => none
    | _ => none
  | .iastore => match st with
    | .int v :: .int i :: .ref a :: r => match σ.1[a]? with
      | some (ci, n, _) => if ci = 20 ∧ xin i n = true then some (ls, r, σ.1, σ.2.1, σ.2.2.1, um σ.2.2.2 a i.toNatClampNeg v) else none
      | none => none
    | _ => none
  | .baload => match st with
    | .int i :: .ref a :: r => match σ.1[a]? with
      | some (ci, n, _) => if (ci = 21 ∨ ci = 22) ∧ xin i n = true then some (ls, .int (σ.2.2.2 a i.toNatClampNeg) :: r, σ) else none
      | none => match xcb a with
        | some (n, f) => if xin i n = true then some (ls, .int (f i.toNatClampNeg) :: r, σ) else none
        | none => none
    | _ => none
  | .bastore => match st with
    | .int v :: .int i :: .ref a :: r => match σ.1[a]? with
      | some (ci, n, _) => if ci = 21 ∧ xin i n = true then some (ls, r, σ.1, σ.2.1, σ.2.2.1, um σ.2.2.2 a i.toNatClampNeg v.toInt8.toInt32)
        else if ci = 22 ∧ xin i n = true ∧ (v = 0 ∨ v = 1) then some (ls, r, σ.1, σ.2.1, σ.2.2.1, um σ.2.2.2 a i.toNatClampNeg v) else none
      | none => none
    | _ => none
  | .aaload => match st with
    | .int i :: .ref a :: r => match σ.1[a]? with
      | some (ci, n, rs) => if (ci = 25 ∨ ci = 26) ∧ xin i n = true then
          (match rs[i.toNatClampNeg]? with
          | some (some b) => some (ls, .ref b :: r, σ)
          | _ => none) else none
      | none => none
    | _ => none
  | .aastore => match st with
    | .ref v :: .int i :: .ref a :: r => match σ.1[a]? with
      | some (ci, n, rs) => match σ.1[v]? with
        | some (cv, _, _) => if (ci = 25 ∧ cv = 8 ∨ ci = 26 ∧ cv = 14) ∧ xin i n = true ∧ rs.length = n then
            some (ls, r, σ.1.set a (ci, n, rs.set i.toNatClampNeg (some v)), σ.2.1, σ.2.2.1, σ.2.2.2) else none
        | none => none
      | none => none
    | _ => none
  | .laload => match st with
    | .int i :: .ref a :: r => match σ.1[a]? with
      | some (ci, n, _) => if ci = 23 ∧ i = 0 ∧ n = 1 then some (ls, .long (xtl (σ.2.2.1 a)) :: r, σ) else none
      | none => none
    | _ => none
  | .lastore => match st with
    | .long v :: .int i :: .ref a :: r => match σ.1[a]? with
      | some (ci, n, _) => if ci = 23 ∧ i = 0 ∧ n = 1 then some (ls, r, σ.1, σ.2.1, uw σ.2.2.1 a (.long v), σ.2.2.2) else none
      | none => none
    | _ => none
  | .daload => match st with
    | .int i :: .ref a :: r => match σ.1[a]? with
      | some (ci, n, _) => if ci = 24 ∧ i = 0 ∧ n = 1 then some (ls, .double (xtd (σ.2.2.1 a)) :: r, σ) else none
      | none => none
    | _ => none
  | .dastore => match st with
    | .double v :: .int i :: .ref a :: r => match σ.1[a]? with
      | some (ci, n, _) => if ci = 24 ∧ i = 0 ∧ n = 1 then some (ls, r, σ.1, σ.2.1, uw σ.2.2.1 a (.double v), σ.2.2.2) else none
      | none => none
    | _ => none
  | .arraylength => match st with
    | .ref a :: r => match σ.1[a]? with
      | some (ci, n, _) => if ci = 20 ∨ ci = 21 ∨ ci = 22 ∨ ci = 25 then some (ls, .int (Int32.ofNat n) :: r, σ) else none
      | none => match xci K a with
        | some (n, _) => some (ls, .int (Int32.ofNat n) :: r, σ)
        | none => match xcb a with
          | some (n, _) => some (ls, .int (Int32.ofNat n) :: r, σ)
          | none => none
    | _ => none
  | .new c => if c < 15 ∧ xfresh σ.1 ls st = true then some (ls, .ref σ.1.length :: st, σ.1 ++ [(c, xnf.getD c 0, List.replicate (xnf.getD c 0) none)], σ.2.1, σ.2.2.1, uz σ.2.2.2 σ.1.length) else none
  | .newarray t => match st with
    | .int n :: r => if 0 ≤ n ∧ n.toNatClampNeg ≤ 5000 ∧ xfresh σ.1 ls r = true then
        (if xkind t = 23 ∨ xkind t = 24 then (if n = 1 then some (ls, .ref σ.1.length :: r, σ.1 ++ [(xkind t, 1, [])], σ.2.1, uw σ.2.2.1 σ.1.length .null, uz σ.2.2.2 σ.1.length) else none)
        else if xkind t = 0 then none
        else some (ls, .ref σ.1.length :: r, σ.1 ++ [(xkind t, n.toNatClampNeg, [])], σ.2.1, σ.2.2.1, uz σ.2.2.2 σ.1.length)) else none
    | _ => none
  | .anewarray c => match st with
    | .int n :: r => if (c = 8 ∨ c = 14) ∧ 0 ≤ n ∧ n.toNatClampNeg ≤ 5000 ∧ xfresh σ.1 ls r = true then
        some (ls, .ref σ.1.length :: r, σ.1 ++ [(if c = 8 then 25 else 26, n.toNatClampNeg, List.replicate n.toNatClampNeg none)], σ.2.1, σ.2.2.1, uz σ.2.2.2 σ.1.length) else none
    | _ => none
  | _ => none
/-- what a return of this kind takes -/
def xrt : Nat → Int32 → Bool
  | 1, _ => true
  | 2, v => v == 0 || v == 1
  | 3, v => v == 0
  | 4, v => (v.toUInt32 % 65536).toInt32 == v
  | _, _ => false
def xrecv (rc : Nat) (S : List XC) : List Value → Bool
  | .ref a :: _ => if rc = 99 then true else match S[a]? with
    | some (ci, _, _) => (ci == rc && decide (rc < 15)) || (rc == 30 && ci == 14)
    | none => (rc == 30 && decide (1000010 ≤ a) && decide (a < 1000028)) || (rc == 31 && a == 1000004)
  | _ => rc == 99
def xcat (st : List Value) : Nat := (st.map fun v => v.category).sum
/-- the call of method y, with the stack st -/
def xcall (C : Nat → List Value → XS → XO) (hd : List (Nat × Nat × Nat)) (J : Nat → XL → List Value → XS → XO) (y : Nat) (ls : XL) (st : List Value) (σ : XS) (k : List Value → XS → XO) : XO :=
  match xmt y with
  | none => none
  | some (na, ml, rc, _, _, _) =>
    if na ≤ st.length ∧ xrecv rc σ.1 (st.take na).reverse = true ∧ xcat (st.drop na) ≤ 8 ∧ xcat (st.take na).reverse ≤ ml then
      (match C y (st.take na).reverse σ with
      | none => none
      | some (.inl v, σ') => if σ'.1.length = σ.1.length ∨ (ls.all (fun q => xok σ.1.length q.2) = true ∧ (st.drop na).all (xok σ.1.length) = true) then k (v.toList ++ st.drop na) σ' else none
      | some (.inr E, σ') => match hd.find? (fun h => h.1 == E) with
        | some (_, L, x) => if σ'.1.length = σ.1.length then J L (xdel ls x 1) [] σ' else none
        | none => if hd.isEmpty then some (.inr E, σ') else none)
    else none
def xblk (K : XK) (rt : Nat) (hd : List (Nat × Nat × Nat)) (J : Nat → XL → List Value → XS → XO) (C : Nat → List Value → XS → XO) : List Instr → XL → List Value → XS → XO
  | [], _, _, _ => none
  | i :: is, ls, st, σ =>
    match i with
    | .goto L => J L.toNat ls st σ
    | .goto_w L => J L.toNat ls st σ
    | .ifCond c L => match st with
      | .int x :: r => xbr c x 0 (J L.toNat ls r σ) (xblk K rt hd J C is ls r σ)
      | _ => none
    | .if_icmp c L => match st with
      | .int y :: .int x :: r => xbr c x y (J L.toNat ls r σ) (xblk K rt hd J C is ls r σ)
      | _ => none
    | .ifnull _ => match st with
      | .ref _ :: r => xblk K rt hd J C is ls r σ
      | _ => none
    | .ifnonnull L => match st with
      | .ref _ :: r => J L.toNat ls r σ
      | _ => none
    | .if_acmp eq L => match st with
      | .ref y :: .ref x :: r => if x < σ.1.length ∧ y < σ.1.length ∧ x ≠ y ∧ eq = .ne then J L.toNat ls r σ else none
      | _ => none
    | .tableswitch d lo hi offs => match st with
      | .int x :: r => if lo ≤ x.toInt ∧ x.toInt ≤ hi then
          (match offs[(x.toInt - lo).toNat]? with
          | some L => J L.toNat ls r σ
          | none => none) else J d.toNat ls r σ
      | _ => none
    | .lookupswitch d ps => match st with
      | .int x :: r => match ps.toList.find? (fun q => q.1 == x.toInt) with
        | some (_, L) => J L.toNat ls r σ
        | none => J d.toNat ls r σ
      | _ => none
    | .ireturn => match st with
      | [.int v] => if xrt rt v = true then some (.inl (some (.int v)), σ) else none
      | _ => none
    | .lreturn => match st with
      | [.long v] => if rt = 5 then some (.inl (some (.long v)), σ) else none
      | _ => none
    | .freturn => match st with
      | [.float v] => if rt = 6 then some (.inl (some (.float v)), σ) else none
      | _ => none
    | .dreturn => match st with
      | [.double v] => if rt = 7 then some (.inl (some (.double v)), σ) else none
      | _ => none
    | .areturn => match st with
      | [.ref v] => if rt = 8 then some (.inl (some (.ref v)), σ) else none
      | _ => none
    | .return_ => match st with
      | [] => if rt = 0 then some (.inl none, σ) else none
      | _ => none
    | .checkcast E => match st with
      | [] => if hd.isEmpty then some (.inr E, σ.1, σ.2.1 + 1, σ.2.2.1, σ.2.2.2) else none
      | _ => none
    | .invokevirtual y => xcall C hd J y ls st σ (fun st' σ' => xblk K rt hd J C is ls st' σ')
    | .invokespecial y => xcall C hd J y ls st σ (fun st' σ' => xblk K rt hd J C is ls st' σ')
    | .invokestatic y => xcall C hd J y ls st σ (fun st' σ' => xblk K rt hd J C is ls st' σ')
    | i => match xone K i ls st σ with
      | some (ls', st', σ') => xblk K rt hd J C is ls' st' σ'
      | none => none
/-- a run: fuel, depth left, method, label -/
def xrun (K : XK) : Nat → Nat → Nat → Nat → XL → List Value → XS → XO
  | 0, _, _, _, _, _, _ => none
  | n + 1, d, y, L, ls, st, σ => match xmt y with
    | none => none
    | some (_, _, _, rt, hd, bs) => match bs[L]? with
      | none => none
      | some (lv, is) => xblk K rt hd (fun L' ls' st' σ' => xrun K n d y L' ls' st' σ')
          (fun y' args σ' => match d with
            | 0 => none
            | d' + 1 => xrun K n d' y' 0 (lv_args 0 args) [] σ') is (xnorm lv ls) st σ
end
section
/-! The logic of runs of X over the cells that the law makes (S0). -/
def xCf (n d : Nat) : Nat → List Value → XS → XO := fun y' args σ' => match d with
  | 0 => none
  | d' + 1 => xrun xK0 n d' y' 0 (lv_args 0 args) [] σ'
theorem xbr_up {c : ClassFile.Cond} {a b : Int32} {t f t' f' : XO} {z : XR × XS} (ht : t = some z → t' = some z) (hf : f = some z → f' = some z) (h : xbr c a b t f = some z) : xbr c a b t' f' = some z := by
  unfold xbr at h ⊢
  cases c <;> dsimp only at h ⊢ <;> split at h <;> rename_i hc <;> first
    | (rw [if_pos hc]; first | exact ht h | exact hf h)
    | (rw [if_neg hc]; first | exact ht h | exact hf h)
theorem xcall_up {C C' : Nat → List Value → XS → XO} {hd : List (Nat × Nat × Nat)} {J J' : Nat → XL → List Value → XS → XO} {y : Nat} {ls : XL} {st : List Value} {σ : XS} {z : XR × XS} {k k' : List Value → XS → XO}
    (hJ : ∀ (L : Nat) (ls : XL) (st : List Value) (σ : XS), J L ls st σ = some z → J' L ls st σ = some z) (hC : ∀ (y : Nat) (args : List Value) (σ : XS) (z : XR × XS), C y args σ = some z → C' y args σ = some z)
    (hk : ∀ (st : List Value) (σ : XS), k st σ = some z → k' st σ = some z) (h : xcall C hd J y ls st σ k = some z) : xcall C' hd J' y ls st σ k' = some z := by
  unfold xcall at h ⊢
  split at h
  · cases h
  · rename_i na ml rc a4 a5 a6 hm
    try rw [hm]
    try dsimp only
    split at h
    · rename_i hc
      rw [if_pos hc]
      split at h
      · cases h
      · rename_i v σ' hq
        rw [hC _ _ _ _ hq]
        dsimp only
        split at h
        · rename_i h9
          rw [if_pos h9]; exact hk _ _ h
        · cases h
      · rename_i E σ' hq
        rw [hC _ _ _ _ hq]
        dsimp only
        split at h
        · rename_i x L xx hf
          try rw [hf]
          try dsimp only
          split at h
          · rename_i h9
            rw [if_pos h9]; exact hJ _ _ _ _ h
          · cases h
        · rename_i hf
          try rw [hf]
          try dsimp only
          exact h
    · cases h
set_option maxHeartbeats 4000000 in
theorem xblk_up {K : XK} {rt : Nat} {hd : List (Nat × Nat × Nat)} {J J' : Nat → XL → List Value → XS → XO} {C C' : Nat → List Value → XS → XO} {z : XR × XS}
    (hJ : ∀ (L : Nat) (ls : XL) (st : List Value) (σ : XS), J L ls st σ = some z → J' L ls st σ = some z) (hC : ∀ (y : Nat) (args : List Value) (σ : XS) (z : XR × XS), C y args σ = some z → C' y args σ = some z) :
    ∀ (is : List Instr) (ls : XL) (st : List Value) (σ : XS), xblk K rt hd J C is ls st σ = some z → xblk K rt hd J' C' is ls st σ = some z := by
  intro is
  induction is with
  | nil => intro ls st σ h; cases h
  | cons i is ih =>
    intro ls st σ h
    cases i
    case goto L => exact hJ _ _ _ _ h
    case goto_w L => exact hJ _ _ _ _ h
    case ifCond c L =>
      cases st with
      | nil => cases h
      | cons v r => cases v <;> first | (cases h; done) | exact xbr_up (hJ _ _ _ _) (ih _ _ _) h
    case if_icmp c L =>
      cases st with
      | nil => cases h
      | cons v r => cases v <;> first | (cases h; done) | skip
                    cases r with
                    | nil => cases h
                    | cons u r => cases u <;> first | (cases h; done) | exact xbr_up (hJ _ _ _ _) (ih _ _ _) h
    case ifnull L =>
      cases st with
      | nil => cases h
      | cons v r => cases v <;> first | (cases h; done) | exact ih _ _ _ h
    case ifnonnull L =>
      cases st with
      | nil => cases h
      | cons v r => cases v <;> first | (cases h; done) | exact hJ _ _ _ _ h
    case if_acmp eq L =>
      cases st with
      | nil => cases h
      | cons v r =>
        cases v <;> first | (cases h; done) | skip
        cases r with
        | nil => cases h
        | cons u r =>
          cases u <;> first | (cases h; done) | skip
          unfold xblk at h ⊢
          dsimp only at h ⊢
          split at h
          · rename_i hc
            rw [if_pos hc]; exact hJ _ _ _ _ h
          · cases h
    case tableswitch d lo hi offs =>
      cases st with
      | nil => cases h
      | cons v r =>
        cases v <;> first | (cases h; done) | skip
        unfold xblk at h ⊢
        dsimp only at h ⊢
        split at h
        · rename_i hc
          rw [if_pos hc]
          split at h
          · rename_i hL
            try rw [hL]
            exact hJ _ _ _ _ h
          · cases h
        · rename_i hc
          rw [if_neg hc]; exact hJ _ _ _ _ h
    case lookupswitch d ps =>
      cases st with
      | nil => cases h
      | cons v r =>
        cases v <;> first | (cases h; done) | skip
        unfold xblk at h ⊢
        dsimp only at h ⊢
        split at h
        · rename_i hL
          try rw [hL]
          exact hJ _ _ _ _ h
        · rename_i hL
          try rw [hL]
          exact hJ _ _ _ _ h
    case ireturn => exact h
    case lreturn => exact h
    case freturn => exact h
    case dreturn => exact h
    case areturn => exact h
    case return_ => exact h
    case checkcast E => exact h
    case invokevirtual y => exact xcall_up hJ hC (fun st σ h => ih _ _ _ h) h
    case invokespecial y => exact xcall_up hJ hC (fun st σ h => ih _ _ _ h) h
    case invokestatic y => exact xcall_up hJ hC (fun st σ h => ih _ _ _ h) h
    all_goals
      unfold xblk at h ⊢
      dsimp only at h ⊢
      split at h
      · rename_i hq
        try rw [hq]
        exact ih _ _ _ h
      · cases h
theorem xrun_up {z : XR × XS} : ∀ (n : Nat) (K : XK) (d d' y L : Nat) (ls : XL) (st : List Value) (σ : XS), d ≤ d' → xrun K n d y L ls st σ = some z → xrun K (n + 1) d' y L ls st σ = some z := by
  suffices H : ∀ (n : Nat) (z : XR × XS) (K : XK) (d d' y L : Nat) (ls : XL) (st : List Value) (σ : XS), d ≤ d' → xrun K n d y L ls st σ = some z → xrun K (n + 1) d' y L ls st σ = some z from fun n => H n z
  intro n
  induction n with
  | zero => intro z K d d' y L ls st σ _ h; cases h
  | succ n ih =>
    intro z K d d' y L ls st σ hd h
    unfold xrun at h ⊢
    split at h
    · cases h
    · rename_i hm
      try rw [hm]
      try dsimp only
      split at h
      · cases h
      · rename_i hb
        try rw [hb]
        try dsimp only
        refine xblk_up (fun L ls st σ h => ih _ _ _ _ _ _ _ _ _ hd h) ?_ _ _ _ _ h
        intro y' args σ' z' h'
        cases d with
        | zero => cases h'
        | succ d0 =>
          cases d' with
          | zero => omega
          | succ d1 => exact ih _ _ _ _ _ _ _ _ _ (by omega) h'
theorem xrun_le {z : XR × XS} {n n' : Nat} {K : XK} {d d' y L : Nat} {ls : XL} {st : List Value} {σ : XS} (hd : d ≤ d') (hn : n < n') (h : xrun K n d y L ls st σ = some z) : xrun K n' d' y L ls st σ = some z := by
  obtain ⟨k, rfl⟩ := Nat.exists_eq_add_of_le (show n + 1 ≤ n' by omega)
  clear hn
  induction k with
  | zero => exact xrun_up _ _ _ _ _ _ _ _ _ hd h
  | succ k ih => exact xrun_up _ _ _ _ _ _ _ _ _ (Nat.le_refl _) ih
end
section
/-! The cells that the class's constructor makes. Written by program: wip/p67/mk02.py. -/
def S0 : List XC := [(10, 8, [some 1, some 29, some 49, some 69, some 74, some 278, some 281, none]), (3, 5, [some 2, some 4, some 24, none, none]), (9, 7, [some 3, none, none, none, none, none, none]), (20, 700, []), (8, 9, [none, none, none, none, some 5, some 6, some 7, some 16, some 20]), (20, 6, []), (20, 6, []), (7, 9, [none, some 8, some 9, some 10, some 11, some 12, some 13, some 14, some 15]), (20, 12, []), (20, 12, []), (20, 12, []), (20, 12, []), (20, 12, []), (20, 12, []), (20, 12, []), (20, 12, []), (1, 4, [none, some 17, some 18, some 19]), (20, 12, []), (20, 12, []), (20, 12, []), (4, 4, [none, some 21, some 22, some 23]), (20, 12, []), (20, 12, []), (20, 12, []), (6, 5, [none, some 25, some 26, some 27, some 28]), (20, 6, []), (20, 6, []), (20, 6, []), (20, 48, []), (8, 9, [none, none, none, none, some 30, some 31, some 32, some 41, some 45]), (20, 6, []), (20, 6, []), (7, 9, [none, some 33, some 34, some 35, some 36, some 37, some 38, some 39, some 40]), (20, 12, []), (20, 12, []), (20, 12, []), (20, 12, []), (20, 12, []), (20, 12, []), (20, 12, []), (20, 12, []), (1, 4, [none, some 42, some 43, some 44]), (20, 12, []), (20, 12, []), (20, 12, []), (4, 4, [none, some 46, some 47, some 48]), (20, 12, []), (20, 12, []), (20, 12, []), (8, 9, [none, none, none, none, some 50, some 51, some 52, some 61, some 65]), (20, 6, []), (20, 6, []), (7, 9, [none, some 53, some 54, some 55, some 56, some 57, some 58, some 59, some 60]), (20, 12, []), (20, 12, []), (20, 12, []), (20, 12, []), (20, 12, []), (20, 12, []), (20, 12, []), (20, 12, []), (1, 4, [none, some 62, some 63, some 64]), (20, 12, []), (20, 12, []), (20, 12, []), (4, 4, [none, some 66, some 67, some 68]), (20, 12, []), (20, 12, []), (20, 12, []), (6, 5, [none, some 70, some 71, some 72, some 73]), (20, 6, []), (20, 6, []), (20, 6, []), (20, 48, []), (2, 5, [none, none, some 75, some 76, some 77]), (25, 8, [some 78, some 98, some 118, some 138, some 158, some 178, some 198, some 218]), (25, 2, [some 238, some 258]), (22, 2, []), (8, 9, [none, none, none, none, some 79, some 80, some 81, some 90, some 94]), (20, 6, []), (20, 6, []), (7, 9, [none, some 82, some 83, some 84, some 85, some 86, some 87, some 88, some 89]), (20, 12, []), (20, 12, []), (20, 12, []), (20, 12, []), (20, 12, []), (20, 12, []), (20, 12, []), (20, 12, []), (1, 4, [none, some 91, some 92, some 93]), (20, 12, []), (20, 12, []), (20, 12, []), (4, 4, [none, some 95, some 96, some 97]), (20, 12, []), (20, 12, []), (20, 12, []), (8, 9, [none, none, none, none, some 99, some 100, some 101, some 110, some 114]), (20, 6, []), (20, 6, []), (7, 9, [none, some 102, some 103, some 104, some 105, some 106, some 107, some 108, some 109]), (20, 12, []), (20, 12, []), (20, 12, []), (20, 12, []), (20, 12, []), (20, 12, []), (20, 12, []), (20, 12, []), (1, 4, [none, some 111, some 112, some 113]), (20, 12, []), (20, 12, []), (20, 12, []), (4, 4, [none, some 115, some 116, some 117]), (20, 12, []), (20, 12, []), (20, 12, []), (8, 9, [none, none, none, none, some 119, some 120, some 121, some 130, some 134]), (20, 6, []), (20, 6, []), (7, 9, [none, some 122, some 123, some 124, some 125, some 126, some 127, some 128, some 129]), (20, 12, []), (20, 12, []), (20, 12, []), (20, 12, []), (20, 12, []), (20, 12, []), (20, 12, []), (20, 12, []), (1, 4, [none, some 131, some 132, some 133]), (20, 12, []), (20, 12, []), (20, 12, []), (4, 4, [none, some 135, some 136, some 137]), (20, 12, []), (20, 12, []), (20, 12, []), (8, 9, [none, none, none, none, some 139, some 140, some 141, some 150, some 154]), (20, 6, []), (20, 6, []), (7, 9, [none, some 142, some 143, some 144, some 145, some 146, some 147, some 148, some 149]), (20, 12, []), (20, 12, []), (20, 12, []), (20, 12, []), (20, 12, []), (20, 12, []), (20, 12, []), (20, 12, []), (1, 4, [none, some 151, some 152, some 153]), (20, 12, []), (20, 12, []), (20, 12, []), (4, 4, [none, some 155, some 156, some 157]), (20, 12, []), (20, 12, []), (20, 12, []), (8, 9, [none, none, none, none, some 159, some 160, some 161, some 170, some 174]), (20, 6, []), (20, 6, []), (7, 9, [none, some 162, some 163, some 164, some 165, some 166, some 167, some 168, some 169]), (20, 12, []), (20, 12, []), (20, 12, []), (20, 12, []), (20, 12, []), (20, 12, []), (20, 12, []), (20, 12, []), (1, 4, [none, some 171, some 172, some 173]), (20, 12, []), (20, 12, []), (20, 12, []), (4, 4, [none, some 175, some 176, some 177]), (20, 12, []), (20, 12, []), (20, 12, []), (8, 9, [none, none, none, none, some 179, some 180, some 181, some 190, some 194]), (20, 6, []), (20, 6, []), (7, 9, [none, some 182, some 183, some 184, some 185, some 186, some 187, some 188, some 189]), (20, 12, []), (20, 12, []), (20, 12, []), (20, 12, []), (20, 12, []), (20, 12, []), (20, 12, []), (20, 12, []), (1, 4, [none, some 191, some 192, some 193]), (20, 12, []), (20, 12, []), (20, 12, []), (4, 4, [none, some 195, some 196, some 197]), (20, 12, []), (20, 12, []), (20, 12, []), (8, 9, [none, none, none, none, some 199, some 200, some 201, some 210, some 214]), (20, 6, []), (20, 6, []), (7, 9, [none, some 202, some 203, some 204, some 205, some 206, some 207, some 208, some 209]), (20, 12, []), (20, 12, []), (20, 12, []), (20, 12, []), (20, 12, []), (20, 12, []), (20, 12, []), (20, 12, []), (1, 4, [none, some 211, some 212, some 213]), (20, 12, []), (20, 12, []), (20, 12, []), (4, 4, [none, some 215, some 216, some 217]), (20, 12, []), (20, 12, []), (20, 12, []), (8, 9, [none, none, none, none, some 219, some 220, some 221, some 230, some 234]), (20, 6, []), (20, 6, []), (7, 9, [none, some 222, some 223, some 224, some 225, some 226, some 227, some 228, some 229]), (20, 12, []), (20, 12, []), (20, 12, []), (20, 12, []), (20, 12, []), (20, 12, []), (20, 12, []), (20, 12, []), (1, 4, [none, some 231, some 232, some 233]), (20, 12, []), (20, 12, []), (20, 12, []), (4, 4, [none, some 235, some 236, some 237]), (20, 12, []), (20, 12, []), (20, 12, []), (8, 9, [none, none, none, none, some 239, some 240, some 241, some 250, some 254]), (20, 6, []), (20, 6, []), (7, 9, [none, some 242, some 243, some 244, some 245, some 246, some 247, some 248, some 249]), (20, 12, []), (20, 12, []), (20, 12, []), (20, 12, []), (20, 12, []), (20, 12, []), (20, 12, []), (20, 12, []), (1, 4, [none, some 251, some 252, some 253]), (20, 12, []), (20, 12, []), (20, 12, []), (4, 4, [none, some 255, some 256, some 257]), (20, 12, []), (20, 12, []), (20, 12, []), (8, 9, [none, none, none, none, some 259, some 260, some 261, some 270, some 274]), (20, 6, []), (20, 6, []), (7, 9, [none, some 262, some 263, some 264, some 265, some 266, some 267, some 268, some 269]), (20, 12, []), (20, 12, []), (20, 12, []), (20, 12, []), (20, 12, []), (20, 12, []), (20, 12, []), (20, 12, []), (1, 4, [none, some 271, some 272, some 273]), (20, 12, []), (20, 12, []), (20, 12, []), (4, 4, [none, some 275, some 276, some 277]), (20, 12, []), (20, 12, []), (20, 12, []), (5, 4, [none, none, some 279, some 280]), (20, 24, []), (20, 12, []), (0, 2, [none, some 282]), (20, 128, [])]
end
section
/-! What a method takes and returns, by rows of twenty (written by program: wip/p67/mk02.py). -/
def sgT : List (List (Nat × Nat × Nat × Nat)) := [[(1, 1, 0, 0), (2, 2, 0, 0), (2, 6, 0, 0), (1, 1, 1, 0), (2, 2, 1, 0), (4, 4, 1, 0), (2, 3, 1, 0), (3, 5, 1, 1), (3, 6, 1, 1), (2, 4, 1, 1), (1, 2, 2, 0), (1, 1, 2, 0), (1, 2, 2, 0), (2, 2, 2, 0), (2, 2, 2, 0), (3, 3, 2, 0), (3, 3, 2, 0), (2, 2, 99, 0), (1, 1, 3, 0), (2, 3, 3, 2)], [(2, 2, 3, 2), (1, 2, 3, 2), (1, 1, 3, 2), (1, 3, 3, 2), (1, 4, 3, 2), (1, 2, 3, 2), (3, 3, 3, 2), (1, 1, 4, 0), (2, 2, 4, 0), (3, 3, 4, 0), (2, 4, 4, 1), (1, 3, 4, 1), (1, 1, 5, 0), (4, 7, 5, 0), (4, 4, 5, 0), (2, 2, 5, 1), (2, 2, 5, 1), (3, 5, 5, 1), (3, 5, 5, 1), (3, 3, 5, 2)], [(3, 4, 5, 6), (1, 1, 6, 0), (2, 2, 6, 0), (3, 3, 6, 0), (2, 3, 6, 0), (3, 3, 6, 1), (3, 5, 6, 1), (1, 1, 7, 0), (2, 2, 7, 0), (5, 5, 7, 0), (2, 2, 7, 1), (2, 2, 7, 1), (3, 3, 7, 0), (2, 3, 7, 0), (3, 5, 7, 0), (1, 3, 7, 1), (2, 4, 7, 1), (1, 3, 7, 1), (2, 4, 7, 1), (1, 3, 7, 1)], [(1, 3, 7, 1), (1, 1, 7, 7), (2, 4, 7, 1), (2, 4, 7, 1), (2, 4, 7, 1), (2, 4, 7, 1), (2, 5, 7, 1), (1, 1, 8, 0), (2, 2, 8, 0), (1, 2, 8, 0), (1, 1, 8, 0), (1, 3, 8, 0), (1, 2, 8, 0), (1, 2, 8, 0), (2, 2, 8, 2), (2, 2, 8, 0), (2, 2, 8, 0), (2, 2, 8, 2), (3, 3, 8, 0), (3, 3, 8, 2)], [(1, 1, 9, 0), (6, 6, 9, 1), (2, 3, 9, 0), (2, 2, 9, 0), (1, 1, 9, 0), (1, 1, 9, 0), (1, 1, 9, 0), (1, 1, 9, 1), (2, 3, 9, 1), (2, 3, 9, 2), (1, 1, 10, 0), (6, 6, 10, 1), (2, 3, 10, 1), (1, 1, 10, 1), (1, 1, 10, 1), (1, 1, 10, 1), (2, 2, 10, 1), (2, 2, 10, 1), (3, 4, 10, 1), (3, 4, 10, 1)], [(3, 4, 10, 1), (3, 4, 10, 1), (3, 3, 10, 1), (3, 3, 10, 1), (2, 2, 10, 1), (2, 2, 10, 1), (2, 2, 10, 2), (2, 2, 10, 6), (2, 2, 10, 1), (2, 4, 10, 1), (3, 3, 10, 1), (2, 3, 10, 1), (2, 2, 10, 1), (2, 3, 10, 1), (2, 2, 10, 1), (2, 2, 10, 1), (1, 3, 10, 1), (1, 1, 10, 1), (3, 3, 10, 1), (1, 5, 10, 1)], [(1, 1, 10, 1), (1, 3, 10, 1), (1, 3, 10, 1), (1, 2, 10, 1), (1, 1, 10, 7), (1, 1, 10, 5), (2, 3, 10, 1), (2, 4, 10, 1), (3, 3, 10, 1), (3, 3, 10, 1), (3, 3, 10, 1), (2, 2, 10, 1), (1, 1, 10, 1), (3, 3, 10, 6), (3, 6, 10, 6), (2, 6, 10, 1), (2, 4, 10, 1), (1, 2, 10, 1), (2, 4, 10, 1), (1, 3, 10, 1)], [(1, 2, 10, 1), (2, 2, 10, 1), (2, 4, 10, 1), (2, 2, 10, 1), (2, 2, 10, 1), (2, 3, 10, 1), (3, 3, 10, 1), (2, 3, 10, 1), (3, 4, 10, 1), (3, 3, 10, 1), (3, 4, 10, 1), (1, 1, 10, 1), (1, 1, 10, 1), (2, 2, 10, 1), (2, 2, 10, 1), (1, 1, 10, 0), (2, 2, 10, 0), (2, 2, 10, 0), (2, 2, 99, 0), (3, 3, 99, 0)], [(1, 1, 99, 0), (2, 2, 10, 8), (2, 2, 10, 8), (2, 3, 10, 0), (2, 3, 10, 1), (1, 2, 10, 0), (1, 3, 10, 1), (1, 3, 10, 1), (2, 4, 10, 1), (2, 4, 10, 1), (1, 4, 99, 1), (1, 7, 99, 5), (2, 3, 99, 0), (1, 1, 11, 0), (3, 4, 99, 0), (2, 3, 99, 0), (2, 3, 99, 1), (2, 2, 99, 1), (1, 8, 99, 8), (1, 6, 99, 8)], [(3, 5, 99, 1), (1, 16, 99, 2), (1, 5, 99, 2), (1, 4, 99, 8), (1, 1, 13, 0), (1, 1, 13, 0), (1, 1, 13, 0), (1, 1, 12, 0), (2, 2, 12, 0), (2, 2, 12, 0), (2, 5, 12, 0), (2, 2, 12, 8), (2, 2, 12, 8), (2, 2, 12, 8), (1, 1, 12, 8), (2, 2, 12, 8), (2, 4, 12, 8), (2, 3, 12, 8), (2, 3, 12, 0), (2, 6, 12, 1)], [(3, 3, 12, 0), (2, 2, 12, 0), (1, 1, 12, 2), (1, 1, 12, 1), (1, 1, 12, 8), (4, 4, 30, 0), (2, 2, 30, 0), (3, 5, 30, 0), (2, 3, 99, 8), (3, 3, 99, 8), (3, 5, 99, 8), (2, 2, 99, 0), (3, 7, 99, 1), (1, 4, 99, 1), (3, 4, 99, 1), (1, 1, 99, 2), (2, 3, 99, 2), (3, 4, 99, 1), (6, 19, 99, 1), (3, 4, 31, 5)], [(2, 2, 12, 8), (1, 1, 12, 1), (0, 0, 99, 0), (0, 0, 99, 0), (0, 0, 99, 0), (0, 0, 99, 0), (0, 0, 99, 0), (0, 0, 99, 0), (0, 0, 99, 0), (0, 0, 99, 0), (0, 0, 99, 0), (0, 0, 99, 0), (0, 0, 99, 0), (0, 0, 99, 0), (0, 0, 99, 0), (0, 0, 99, 0), (0, 0, 99, 0), (0, 0, 99, 0), (0, 0, 99, 0), (0, 0, 99, 0)], [(0, 0, 99, 0), (0, 0, 99, 0), (0, 0, 99, 0), (0, 0, 99, 0), (0, 0, 99, 0), (0, 0, 99, 0), (0, 0, 99, 0), (0, 0, 99, 0), (0, 0, 99, 0), (0, 0, 99, 0), (0, 0, 99, 0), (0, 0, 99, 0), (0, 0, 99, 0), (0, 0, 99, 0), (0, 0, 99, 0), (0, 0, 99, 0), (0, 0, 99, 0), (0, 0, 99, 0), (0, 0, 99, 0), (0, 0, 99, 0)], [(0, 0, 99, 0), (0, 0, 99, 0), (0, 0, 99, 0), (0, 0, 99, 0), (0, 0, 99, 0), (0, 0, 99, 0), (0, 0, 99, 0), (0, 0, 99, 0), (0, 0, 99, 0), (0, 0, 99, 0), (0, 0, 99, 0), (0, 0, 99, 0), (0, 0, 99, 0), (0, 0, 99, 0), (0, 0, 99, 0), (0, 0, 99, 0), (0, 0, 99, 0), (0, 0, 99, 0), (0, 0, 99, 0), (0, 0, 99, 0)], [(0, 0, 99, 0), (0, 0, 99, 0), (0, 0, 99, 0), (0, 0, 99, 0), (0, 0, 99, 0), (0, 0, 99, 0), (0, 0, 99, 0), (0, 0, 99, 0), (0, 0, 99, 0), (0, 0, 99, 0), (0, 0, 99, 0), (0, 0, 99, 0), (0, 0, 99, 0), (0, 0, 99, 0), (0, 0, 99, 0), (0, 0, 99, 0), (0, 0, 99, 0), (0, 0, 99, 0), (0, 0, 99, 0), (0, 0, 99, 0)], [(0, 0, 99, 0), (0, 0, 99, 0), (0, 0, 99, 0), (0, 0, 99, 0), (0, 0, 99, 0), (0, 0, 99, 0), (0, 0, 99, 0), (0, 0, 99, 0), (0, 0, 99, 0), (0, 0, 99, 0), (0, 0, 99, 0), (0, 0, 99, 0), (0, 0, 99, 0), (0, 0, 99, 0), (0, 0, 99, 0), (0, 0, 99, 0), (0, 0, 99, 0), (0, 0, 99, 0), (0, 0, 99, 0), (0, 0, 99, 0)], [(0, 0, 99, 0), (0, 0, 99, 0), (0, 0, 99, 0), (0, 0, 99, 0), (0, 0, 99, 0), (0, 0, 99, 0), (0, 0, 99, 0), (0, 0, 99, 0), (0, 0, 99, 0), (0, 0, 99, 0), (0, 0, 99, 0), (0, 0, 99, 0), (0, 0, 99, 0), (0, 0, 99, 0), (0, 0, 99, 0), (0, 0, 99, 0), (0, 0, 99, 0), (0, 0, 99, 0), (0, 0, 99, 0), (0, 0, 99, 0)], [(0, 0, 99, 0), (0, 0, 99, 0), (0, 0, 99, 0), (0, 0, 99, 0), (0, 0, 99, 0), (0, 0, 99, 0), (0, 0, 99, 0), (0, 0, 99, 0), (0, 0, 99, 0), (0, 0, 99, 0), (0, 0, 99, 0), (0, 0, 99, 0), (0, 0, 99, 0), (0, 0, 99, 0), (0, 0, 99, 0), (0, 0, 99, 0), (0, 0, 99, 0), (0, 0, 99, 0), (0, 0, 99, 0), (0, 0, 99, 0)], [(0, 0, 99, 0), (0, 0, 99, 0), (0, 0, 99, 0), (0, 0, 99, 0), (0, 0, 99, 0), (0, 0, 99, 0), (0, 0, 99, 0), (0, 0, 99, 0), (0, 0, 99, 0), (0, 0, 99, 0), (0, 0, 99, 0), (0, 0, 99, 0), (0, 0, 99, 0), (0, 0, 99, 0), (0, 0, 99, 0), (0, 0, 99, 0), (0, 0, 99, 0), (0, 0, 99, 0), (0, 0, 99, 0), (0, 0, 99, 0)], [(0, 0, 99, 0), (0, 0, 99, 0), (0, 0, 99, 0), (1, 1, 99, 1), (1, 1, 99, 1), (2, 2, 99, 1), (2, 2, 99, 1), (1, 1, 99, 2), (1, 1, 99, 1), (1, 2, 99, 2), (1, 2, 99, 5), (1, 1, 30, 1), (2, 2, 30, 4), (1, 1, 30, 3), (1, 1, 30, 2), (2, 2, 99, 0), (2, 2, 99, 4), (3, 3, 99, 1)]]
def sg (y : Nat) : Nat × Nat × Nat × Nat := (sgT.getD (y / 20) []).getD (y % 20) (0, 0, 0, 0)
def xmc0 : List XT := [xM0, xM1, xM2, xM3, xM4, xM5, xM6, xM7, xM8, xM9, xM10, xM11, xM12, xM13, xM14, xM15, xM16, xM17, xM18, xM19]
def xmc1 : List XT := [xM20, xM21, xM22, xM23, xM24, xM25, xM26, xM27, xM28, xM29, xM30, xM31, xM32, xM33, xM34, xM35, xM36, xM37, xM38, xM39]
def xmc2 : List XT := [xM40, xM41, xM42, xM43, xM44, xM45, xM46, xM47, xM48, xM49, xM50, xM51, xM52, xM53, xM54, xM55, xM56, xM57, xM58, xM59]
def xmc3 : List XT := [xM60, xM61, xM62, xM63, xM64, xM65, xM66, xM67, xM68, xM69, xM70, xM71, xM72, xM73, xM74, xM75, xM76, xM77, xM78, xM79]
def xmc4 : List XT := [xM80, xM81, xM82, xM83, xM84, xM85, xM86, xM87, xM88, xM89, xM90, xM91, xM92, xM93, xM94, xM95, xM96, xM97, xM98, xM99]
def xmc5 : List XT := [xM100, xM101, xM102, xM103, xM104, xM105, xM106, xM107, xM108, xM109, xM110, xM111, xM112, xM113, xM114, xM115, xM116, xM117, xM118, xM119]
def xmc6 : List XT := [xM120, xM121, xM122, xM123, xM124, xM125, xM126, xM127, xM128, xM129, xM130, xM131, xM132, xM133, xM134, xM135, xM136, xM137, xM138, xM139]
def xmc7 : List XT := [xM140, xM141, xM142, xM143, xM144, xM145, xM146, xM147, xM148, xM149, xM150, xM151, xM152, xM153, xM154, xM155, xM156, xM157, xM158, xM159]
def xmc8 : List XT := [xM160, xM161, xM162, xM163, xM164, xM165, xM166, xM167, xM168, xM169, xM170, xM171, xM172, xM173, xM174, xM175, xM176, xM177, xM178, xM179]
def xmc9 : List XT := [xM180, xM181, xM182, xM183, xM184, xM185, xM186, xM187, xM188, xM189, xM190, xM191, xM192, xM193, xM194, xM195, xM196, xM197, xM198, xM199]
def xmc10 : List XT := [xM200, xM201, xM202, xM203, xM204, xM205, xM206, xM207, xM208, xM209, xM210, xM211, xM212, xM213, xM214, xM215, xM216, xM217, xM218, xM219]
def xmc11 : List XT := [xM220, xM221, xMd, xMd, xMd, xMd, xMd, xMd, xMd, xMd, xMd, xMd, xMd, xMd, xMd, xMd, xMd, xMd, xMd, xMd]
def xmc12 : List XT := [xMd, xMd, xMd, xMd, xMd, xMd, xMd, xMd, xMd, xMd, xMd, xMd, xMd, xMd, xMd, xMd, xMd, xMd, xMd, xMd]
def xmc13 : List XT := [xMd, xMd, xMd, xMd, xMd, xMd, xMd, xMd, xMd, xMd, xMd, xMd, xMd, xMd, xMd, xMd, xMd, xMd, xMd, xMd]
def xmc14 : List XT := [xMd, xMd, xMd, xMd, xMd, xMd, xMd, xMd, xMd, xMd, xMd, xMd, xMd, xMd, xMd, xMd, xMd, xMd, xMd, xMd]
def xmc15 : List XT := [xMd, xMd, xMd, xMd, xMd, xMd, xMd, xMd, xMd, xMd, xMd, xMd, xMd, xMd, xMd, xMd, xMd, xMd, xMd, xMd]
def xmc16 : List XT := [xMd, xMd, xMd, xMd, xMd, xMd, xMd, xMd, xMd, xMd, xMd, xMd, xMd, xMd, xMd, xMd, xMd, xMd, xMd, xMd]
def xmc17 : List XT := [xMd, xMd, xMd, xMd, xMd, xMd, xMd, xMd, xMd, xMd, xMd, xMd, xMd, xMd, xMd, xMd, xMd, xMd, xMd, xMd]
def xmc18 : List XT := [xMd, xMd, xMd, xMd, xMd, xMd, xMd, xMd, xMd, xMd, xMd, xMd, xMd, xMd, xMd, xMd, xMd, xMd, xMd, xMd]
def xmc19 : List XT := [xMd, xMd, xMd, xM383, xM384, xM385, xM386, xM387, xM388, xM389, xM390, xM391, xM392, xM393, xM394, xM395, xM396, xM397]
def xmC : List (List XT) := [xmc0, xmc1, xmc2, xmc3, xmc4, xmc5, xmc6, xmc7, xmc8, xmc9, xmc10, xmc11, xmc12, xmc13, xmc14, xmc15, xmc16, xmc17, xmc18, xmc19]
set_option maxRecDepth 100000 in
theorem xmts_C : xmts = xmC.flatten := rfl
theorem flat_at {α : Type} : ∀ (l : List (List α)) (q r : Nat) (z : α), (∀ j, j + 1 < l.length → (l.getD j []).length = 20) → r < 20 → (l.getD q [])[r]? = some z → l.flatten[20 * q + r]? = some z := by
  intro l
  induction l with
  | nil => intro q r z _ _ h; simp at h
  | cons c t ih =>
    intro q r z hl hr h
    cases q with
    | zero =>
      rw [List.flatten_cons, List.getElem?_append_left]
      · rw [Nat.mul_zero, Nat.zero_add]; exact h
      · have := (List.getElem?_eq_some_iff.mp h).1
        rw [Nat.mul_zero, Nat.zero_add]; exact this
    | succ q =>
      have ht : t ≠ [] := by
        rintro rfl
        simp at h
      have hc : c.length = 20 := hl 0 (by cases t with | nil => exact absurd rfl ht | cons a b => simp)
      rw [List.flatten_cons, List.getElem?_append_right (by omega)]
      rw [show 20 * (q + 1) + r - c.length = 20 * q + r by omega]
      exact ih q r z (fun j hj => by have := hl (j + 1) (by rw [List.length_cons]; omega); exact this) hr h
theorem xmC_len : ((List.range 19).all fun j => (xmC.getD j []).length == 20) = true := by decide +kernel
theorem xmt_at {q r : Nat} {z : XT} (hr : Nat.blt r 20 = true) (h : (xmC.getD q [])[r]? = some z) : xmt (20 * q + r) = some z := by
  unfold xmt
  rw [xmts_C]
  refine flat_at xmC q r z ?_ (by rw [Nat.blt_eq] at hr; exact hr) h
  intro j hj
  have := List.all_eq_true.mp xmC_len j (List.mem_range.mpr (by
    have : xmC.length = 20 := rfl
    omega))
  simpa using this
theorem xmt_len : xmts.length = 398 := by decide +kernel
theorem sg_all : ((List.range 398).all fun y => (xmt y).map (fun z => (z.1, z.2.1, z.2.2.1, z.2.2.2.1)) == some (sg y)) = true := by decide +kernel
theorem sg_of {y : Nat} {z : XT} (h : xmt y = some z) : sg y = (z.1, z.2.1, z.2.2.1, z.2.2.2.1) := by
  have hy : y < 398 := by
    rw [← xmt_len]
    exact (List.getElem?_eq_some_iff.mp h).1
  have := List.all_eq_true.mp sg_all y (List.mem_range.mpr hy)
  rw [h] at this
  simpa using (beq_iff_eq.mp this).symm
theorem sg_some {y : Nat} (h : Nat.blt y 398 = true) : ∃ (hd : List (Nat × Nat × Nat)) (bs : List XB), xmt y = some ((sg y).1, (sg y).2.1, (sg y).2.2.1, (sg y).2.2.2, hd, bs) := by
  have hy : y < 398 := by rw [Nat.blt_eq] at h; exact h
  cases hm : xmt y with
  | none =>
    have := List.all_eq_true.mp sg_all y (List.mem_range.mpr hy)
    rw [hm] at this
    simp at this
  | some z =>
    have := sg_of hm
    obtain ⟨a, b, c, d, e, f⟩ := z
    rw [this]
    exact ⟨e, f, rfl⟩
end
section
/-! The blocks of X, one by one (written by program: wip/whole/mkw.py). -/
theorem km1 : xmt 1 = some (2, 2, 0, 0, [], xM1.2.2.2.2.2) := xmt_at (q := 0) (r := 1) rfl rfl
theorem km2 : xmt 2 = some (2, 6, 0, 0, [], xM2.2.2.2.2.2) := xmt_at (q := 0) (r := 2) rfl rfl
theorem km4 : xmt 4 = some (2, 2, 1, 0, [], xM4.2.2.2.2.2) := xmt_at (q := 0) (r := 4) rfl rfl
theorem km5 : xmt 5 = some (4, 4, 1, 0, [], xM5.2.2.2.2.2) := xmt_at (q := 0) (r := 5) rfl rfl
theorem km6 : xmt 6 = some (2, 3, 1, 0, [], xM6.2.2.2.2.2) := xmt_at (q := 0) (r := 6) rfl rfl
theorem km7 : xmt 7 = some (3, 5, 1, 1, [], xM7.2.2.2.2.2) := xmt_at (q := 0) (r := 7) rfl rfl
theorem km8 : xmt 8 = some (3, 6, 1, 1, [], xM8.2.2.2.2.2) := xmt_at (q := 0) (r := 8) rfl rfl
theorem km9 : xmt 9 = some (2, 4, 1, 1, [], xM9.2.2.2.2.2) := xmt_at (q := 0) (r := 9) rfl rfl
theorem km11 : xmt 11 = some (1, 1, 2, 0, [], xM11.2.2.2.2.2) := xmt_at (q := 0) (r := 11) rfl rfl
theorem km12 : xmt 12 = some (1, 2, 2, 0, [], xM12.2.2.2.2.2) := xmt_at (q := 0) (r := 12) rfl rfl
theorem km13 : xmt 13 = some (2, 2, 2, 0, [], xM13.2.2.2.2.2) := xmt_at (q := 0) (r := 13) rfl rfl
theorem km14 : xmt 14 = some (2, 2, 2, 0, [], xM14.2.2.2.2.2) := xmt_at (q := 0) (r := 14) rfl rfl
theorem km15 : xmt 15 = some (3, 3, 2, 0, [], xM15.2.2.2.2.2) := xmt_at (q := 0) (r := 15) rfl rfl
theorem km16 : xmt 16 = some (3, 3, 2, 0, [], xM16.2.2.2.2.2) := xmt_at (q := 0) (r := 16) rfl rfl
theorem km17 : xmt 17 = some (2, 2, 99, 0, [], xM17.2.2.2.2.2) := xmt_at (q := 0) (r := 17) rfl rfl
theorem km19 : xmt 19 = some (2, 3, 3, 2, [], xM19.2.2.2.2.2) := xmt_at (q := 0) (r := 19) rfl rfl
theorem km20 : xmt 20 = some (2, 2, 3, 2, [], xM20.2.2.2.2.2) := xmt_at (q := 1) (r := 0) rfl rfl
theorem km21 : xmt 21 = some (1, 2, 3, 2, [], xM21.2.2.2.2.2) := xmt_at (q := 1) (r := 1) rfl rfl
theorem km22 : xmt 22 = some (1, 1, 3, 2, [], xM22.2.2.2.2.2) := xmt_at (q := 1) (r := 2) rfl rfl
theorem km23 : xmt 23 = some (1, 3, 3, 2, [], xM23.2.2.2.2.2) := xmt_at (q := 1) (r := 3) rfl rfl
theorem km24 : xmt 24 = some (1, 4, 3, 2, [], xM24.2.2.2.2.2) := xmt_at (q := 1) (r := 4) rfl rfl
theorem km25 : xmt 25 = some (1, 2, 3, 2, [], xM25.2.2.2.2.2) := xmt_at (q := 1) (r := 5) rfl rfl
theorem km26 : xmt 26 = some (3, 3, 3, 2, [], xM26.2.2.2.2.2) := xmt_at (q := 1) (r := 6) rfl rfl
theorem km28 : xmt 28 = some (2, 2, 4, 0, [], xM28.2.2.2.2.2) := xmt_at (q := 1) (r := 8) rfl rfl
theorem km29 : xmt 29 = some (3, 3, 4, 0, [], xM29.2.2.2.2.2) := xmt_at (q := 1) (r := 9) rfl rfl
theorem km30 : xmt 30 = some (2, 4, 4, 1, [], xM30.2.2.2.2.2) := xmt_at (q := 1) (r := 10) rfl rfl
theorem km31 : xmt 31 = some (1, 3, 4, 1, [], xM31.2.2.2.2.2) := xmt_at (q := 1) (r := 11) rfl rfl
theorem km33 : xmt 33 = some (4, 7, 5, 0, [], xM33.2.2.2.2.2) := xmt_at (q := 1) (r := 13) rfl rfl
theorem km34 : xmt 34 = some (4, 4, 5, 0, [], xM34.2.2.2.2.2) := xmt_at (q := 1) (r := 14) rfl rfl
theorem km35 : xmt 35 = some (2, 2, 5, 1, [], xM35.2.2.2.2.2) := xmt_at (q := 1) (r := 15) rfl rfl
theorem km36 : xmt 36 = some (2, 2, 5, 1, [], xM36.2.2.2.2.2) := xmt_at (q := 1) (r := 16) rfl rfl
theorem km37 : xmt 37 = some (3, 5, 5, 1, [], xM37.2.2.2.2.2) := xmt_at (q := 1) (r := 17) rfl rfl
theorem km38 : xmt 38 = some (3, 5, 5, 1, [], xM38.2.2.2.2.2) := xmt_at (q := 1) (r := 18) rfl rfl
theorem km39 : xmt 39 = some (3, 3, 5, 2, [], xM39.2.2.2.2.2) := xmt_at (q := 1) (r := 19) rfl rfl
theorem km40 : xmt 40 = some (3, 4, 5, 6, [], xM40.2.2.2.2.2) := xmt_at (q := 2) (r := 0) rfl rfl
theorem km42 : xmt 42 = some (2, 2, 6, 0, [], xM42.2.2.2.2.2) := xmt_at (q := 2) (r := 2) rfl rfl
theorem km43 : xmt 43 = some (3, 3, 6, 0, [], xM43.2.2.2.2.2) := xmt_at (q := 2) (r := 3) rfl rfl
theorem km44 : xmt 44 = some (2, 3, 6, 0, [], xM44.2.2.2.2.2) := xmt_at (q := 2) (r := 4) rfl rfl
theorem km45 : xmt 45 = some (3, 3, 6, 1, [], xM45.2.2.2.2.2) := xmt_at (q := 2) (r := 5) rfl rfl
theorem km46 : xmt 46 = some (3, 5, 6, 1, [], xM46.2.2.2.2.2) := xmt_at (q := 2) (r := 6) rfl rfl
theorem km48 : xmt 48 = some (2, 2, 7, 0, [], xM48.2.2.2.2.2) := xmt_at (q := 2) (r := 8) rfl rfl
theorem km49 : xmt 49 = some (5, 5, 7, 0, [], xM49.2.2.2.2.2) := xmt_at (q := 2) (r := 9) rfl rfl
theorem km50 : xmt 50 = some (2, 2, 7, 1, [], xM50.2.2.2.2.2) := xmt_at (q := 2) (r := 10) rfl rfl
theorem km51 : xmt 51 = some (2, 2, 7, 1, [], xM51.2.2.2.2.2) := xmt_at (q := 2) (r := 11) rfl rfl
theorem km52 : xmt 52 = some (3, 3, 7, 0, [], xM52.2.2.2.2.2) := xmt_at (q := 2) (r := 12) rfl rfl
theorem km53 : xmt 53 = some (2, 3, 7, 0, [], xM53.2.2.2.2.2) := xmt_at (q := 2) (r := 13) rfl rfl
theorem km54 : xmt 54 = some (3, 5, 7, 0, [], xM54.2.2.2.2.2) := xmt_at (q := 2) (r := 14) rfl rfl
theorem km55 : xmt 55 = some (1, 3, 7, 1, [], xM55.2.2.2.2.2) := xmt_at (q := 2) (r := 15) rfl rfl
theorem km56 : xmt 56 = some (2, 4, 7, 1, [], xM56.2.2.2.2.2) := xmt_at (q := 2) (r := 16) rfl rfl
theorem km57 : xmt 57 = some (1, 3, 7, 1, [], xM57.2.2.2.2.2) := xmt_at (q := 2) (r := 17) rfl rfl
theorem km58 : xmt 58 = some (2, 4, 7, 1, [], xM58.2.2.2.2.2) := xmt_at (q := 2) (r := 18) rfl rfl
theorem km59 : xmt 59 = some (1, 3, 7, 1, [], xM59.2.2.2.2.2) := xmt_at (q := 2) (r := 19) rfl rfl
theorem km60 : xmt 60 = some (1, 3, 7, 1, [], xM60.2.2.2.2.2) := xmt_at (q := 3) (r := 0) rfl rfl
theorem km61 : xmt 61 = some (1, 1, 7, 7, [], xM61.2.2.2.2.2) := xmt_at (q := 3) (r := 1) rfl rfl
theorem km62 : xmt 62 = some (2, 4, 7, 1, [], xM62.2.2.2.2.2) := xmt_at (q := 3) (r := 2) rfl rfl
theorem km63 : xmt 63 = some (2, 4, 7, 1, [], xM63.2.2.2.2.2) := xmt_at (q := 3) (r := 3) rfl rfl
theorem km64 : xmt 64 = some (2, 4, 7, 1, [], xM64.2.2.2.2.2) := xmt_at (q := 3) (r := 4) rfl rfl
theorem km65 : xmt 65 = some (2, 4, 7, 1, [], xM65.2.2.2.2.2) := xmt_at (q := 3) (r := 5) rfl rfl
theorem km66 : xmt 66 = some (2, 5, 7, 1, [], xM66.2.2.2.2.2) := xmt_at (q := 3) (r := 6) rfl rfl
theorem km68 : xmt 68 = some (2, 2, 8, 0, [], xM68.2.2.2.2.2) := xmt_at (q := 3) (r := 8) rfl rfl
theorem km69 : xmt 69 = some (1, 2, 8, 0, [], xM69.2.2.2.2.2) := xmt_at (q := 3) (r := 9) rfl rfl
theorem km70 : xmt 70 = some (1, 1, 8, 0, [], xM70.2.2.2.2.2) := xmt_at (q := 3) (r := 10) rfl rfl
theorem km71 : xmt 71 = some (1, 3, 8, 0, [], xM71.2.2.2.2.2) := xmt_at (q := 3) (r := 11) rfl rfl
theorem km72 : xmt 72 = some (1, 2, 8, 0, [], xM72.2.2.2.2.2) := xmt_at (q := 3) (r := 12) rfl rfl
theorem km73 : xmt 73 = some (1, 2, 8, 0, [], xM73.2.2.2.2.2) := xmt_at (q := 3) (r := 13) rfl rfl
theorem km74 : xmt 74 = some (2, 2, 8, 2, [], xM74.2.2.2.2.2) := xmt_at (q := 3) (r := 14) rfl rfl
theorem km75 : xmt 75 = some (2, 2, 8, 0, [], xM75.2.2.2.2.2) := xmt_at (q := 3) (r := 15) rfl rfl
theorem km76 : xmt 76 = some (2, 2, 8, 0, [], xM76.2.2.2.2.2) := xmt_at (q := 3) (r := 16) rfl rfl
theorem km77 : xmt 77 = some (2, 2, 8, 2, [], xM77.2.2.2.2.2) := xmt_at (q := 3) (r := 17) rfl rfl
theorem km78 : xmt 78 = some (3, 3, 8, 0, [], xM78.2.2.2.2.2) := xmt_at (q := 3) (r := 18) rfl rfl
theorem km79 : xmt 79 = some (3, 3, 8, 2, [], xM79.2.2.2.2.2) := xmt_at (q := 3) (r := 19) rfl rfl
theorem km81 : xmt 81 = some (6, 6, 9, 1, [], xM81.2.2.2.2.2) := xmt_at (q := 4) (r := 1) rfl rfl
theorem km82 : xmt 82 = some (2, 3, 9, 0, [], xM82.2.2.2.2.2) := xmt_at (q := 4) (r := 2) rfl rfl
theorem km83 : xmt 83 = some (2, 2, 9, 0, [], xM83.2.2.2.2.2) := xmt_at (q := 4) (r := 3) rfl rfl
theorem km84 : xmt 84 = some (1, 1, 9, 0, [], xM84.2.2.2.2.2) := xmt_at (q := 4) (r := 4) rfl rfl
theorem km85 : xmt 85 = some (1, 1, 9, 0, [], xM85.2.2.2.2.2) := xmt_at (q := 4) (r := 5) rfl rfl
theorem km86 : xmt 86 = some (1, 1, 9, 0, [], xM86.2.2.2.2.2) := xmt_at (q := 4) (r := 6) rfl rfl
theorem km87 : xmt 87 = some (1, 1, 9, 1, [], xM87.2.2.2.2.2) := xmt_at (q := 4) (r := 7) rfl rfl
theorem km88 : xmt 88 = some (2, 3, 9, 1, [], xM88.2.2.2.2.2) := xmt_at (q := 4) (r := 8) rfl rfl
theorem km89 : xmt 89 = some (2, 3, 9, 2, [], xM89.2.2.2.2.2) := xmt_at (q := 4) (r := 9) rfl rfl
theorem km91 : xmt 91 = some (6, 6, 10, 1, [], xM91.2.2.2.2.2) := xmt_at (q := 4) (r := 11) rfl rfl
theorem km92 : xmt 92 = some (2, 3, 10, 1, [], xM92.2.2.2.2.2) := xmt_at (q := 4) (r := 12) rfl rfl
theorem km93 : xmt 93 = some (1, 1, 10, 1, [], xM93.2.2.2.2.2) := xmt_at (q := 4) (r := 13) rfl rfl
theorem km94 : xmt 94 = some (1, 1, 10, 1, [], xM94.2.2.2.2.2) := xmt_at (q := 4) (r := 14) rfl rfl
theorem km95 : xmt 95 = some (1, 1, 10, 1, [], xM95.2.2.2.2.2) := xmt_at (q := 4) (r := 15) rfl rfl
theorem km96 : xmt 96 = some (2, 2, 10, 1, [], xM96.2.2.2.2.2) := xmt_at (q := 4) (r := 16) rfl rfl
theorem km97 : xmt 97 = some (2, 2, 10, 1, [], xM97.2.2.2.2.2) := xmt_at (q := 4) (r := 17) rfl rfl
theorem km98 : xmt 98 = some (3, 4, 10, 1, [], xM98.2.2.2.2.2) := xmt_at (q := 4) (r := 18) rfl rfl
theorem km99 : xmt 99 = some (3, 4, 10, 1, [], xM99.2.2.2.2.2) := xmt_at (q := 4) (r := 19) rfl rfl
theorem km100 : xmt 100 = some (3, 4, 10, 1, [], xM100.2.2.2.2.2) := xmt_at (q := 5) (r := 0) rfl rfl
theorem km101 : xmt 101 = some (3, 4, 10, 1, [], xM101.2.2.2.2.2) := xmt_at (q := 5) (r := 1) rfl rfl
theorem km102 : xmt 102 = some (3, 3, 10, 1, [], xM102.2.2.2.2.2) := xmt_at (q := 5) (r := 2) rfl rfl
theorem km103 : xmt 103 = some (3, 3, 10, 1, [], xM103.2.2.2.2.2) := xmt_at (q := 5) (r := 3) rfl rfl
theorem km104 : xmt 104 = some (2, 2, 10, 1, [], xM104.2.2.2.2.2) := xmt_at (q := 5) (r := 4) rfl rfl
theorem km105 : xmt 105 = some (2, 2, 10, 1, [], xM105.2.2.2.2.2) := xmt_at (q := 5) (r := 5) rfl rfl
theorem km106 : xmt 106 = some (2, 2, 10, 2, [], xM106.2.2.2.2.2) := xmt_at (q := 5) (r := 6) rfl rfl
theorem km107 : xmt 107 = some (2, 2, 10, 6, [], xM107.2.2.2.2.2) := xmt_at (q := 5) (r := 7) rfl rfl
theorem km108 : xmt 108 = some (2, 2, 10, 1, [], xM108.2.2.2.2.2) := xmt_at (q := 5) (r := 8) rfl rfl
theorem km109 : xmt 109 = some (2, 4, 10, 1, [], xM109.2.2.2.2.2) := xmt_at (q := 5) (r := 9) rfl rfl
theorem km110 : xmt 110 = some (3, 3, 10, 1, [], xM110.2.2.2.2.2) := xmt_at (q := 5) (r := 10) rfl rfl
theorem km111 : xmt 111 = some (2, 3, 10, 1, [], xM111.2.2.2.2.2) := xmt_at (q := 5) (r := 11) rfl rfl
theorem km112 : xmt 112 = some (2, 2, 10, 1, [], xM112.2.2.2.2.2) := xmt_at (q := 5) (r := 12) rfl rfl
theorem km113 : xmt 113 = some (2, 3, 10, 1, [], xM113.2.2.2.2.2) := xmt_at (q := 5) (r := 13) rfl rfl
theorem km114 : xmt 114 = some (2, 2, 10, 1, [], xM114.2.2.2.2.2) := xmt_at (q := 5) (r := 14) rfl rfl
theorem km115 : xmt 115 = some (2, 2, 10, 1, [], xM115.2.2.2.2.2) := xmt_at (q := 5) (r := 15) rfl rfl
theorem km116 : xmt 116 = some (1, 3, 10, 1, [], xM116.2.2.2.2.2) := xmt_at (q := 5) (r := 16) rfl rfl
theorem km117 : xmt 117 = some (1, 1, 10, 1, [], xM117.2.2.2.2.2) := xmt_at (q := 5) (r := 17) rfl rfl
theorem km118 : xmt 118 = some (3, 3, 10, 1, [], xM118.2.2.2.2.2) := xmt_at (q := 5) (r := 18) rfl rfl
theorem km119 : xmt 119 = some (1, 5, 10, 1, [], xM119.2.2.2.2.2) := xmt_at (q := 5) (r := 19) rfl rfl
theorem km120 : xmt 120 = some (1, 1, 10, 1, [], xM120.2.2.2.2.2) := xmt_at (q := 6) (r := 0) rfl rfl
theorem km121 : xmt 121 = some (1, 3, 10, 1, [], xM121.2.2.2.2.2) := xmt_at (q := 6) (r := 1) rfl rfl
theorem km122 : xmt 122 = some (1, 3, 10, 1, [], xM122.2.2.2.2.2) := xmt_at (q := 6) (r := 2) rfl rfl
theorem km123 : xmt 123 = some (1, 2, 10, 1, [], xM123.2.2.2.2.2) := xmt_at (q := 6) (r := 3) rfl rfl
theorem km124 : xmt 124 = some (1, 1, 10, 7, [], xM124.2.2.2.2.2) := xmt_at (q := 6) (r := 4) rfl rfl
theorem km125 : xmt 125 = some (1, 1, 10, 5, [], xM125.2.2.2.2.2) := xmt_at (q := 6) (r := 5) rfl rfl
theorem km126 : xmt 126 = some (2, 3, 10, 1, [], xM126.2.2.2.2.2) := xmt_at (q := 6) (r := 6) rfl rfl
theorem km127 : xmt 127 = some (2, 4, 10, 1, [], xM127.2.2.2.2.2) := xmt_at (q := 6) (r := 7) rfl rfl
theorem km128 : xmt 128 = some (3, 3, 10, 1, [], xM128.2.2.2.2.2) := xmt_at (q := 6) (r := 8) rfl rfl
theorem km129 : xmt 129 = some (3, 3, 10, 1, [], xM129.2.2.2.2.2) := xmt_at (q := 6) (r := 9) rfl rfl
theorem km130 : xmt 130 = some (3, 3, 10, 1, [], xM130.2.2.2.2.2) := xmt_at (q := 6) (r := 10) rfl rfl
theorem km131 : xmt 131 = some (2, 2, 10, 1, [], xM131.2.2.2.2.2) := xmt_at (q := 6) (r := 11) rfl rfl
theorem km132 : xmt 132 = some (1, 1, 10, 1, [], xM132.2.2.2.2.2) := xmt_at (q := 6) (r := 12) rfl rfl
theorem km133 : xmt 133 = some (3, 3, 10, 6, [], xM133.2.2.2.2.2) := xmt_at (q := 6) (r := 13) rfl rfl
theorem km134 : xmt 134 = some (3, 6, 10, 6, [], xM134.2.2.2.2.2) := xmt_at (q := 6) (r := 14) rfl rfl
theorem km135 : xmt 135 = some (2, 6, 10, 1, [], xM135.2.2.2.2.2) := xmt_at (q := 6) (r := 15) rfl rfl
theorem km136 : xmt 136 = some (2, 4, 10, 1, [], xM136.2.2.2.2.2) := xmt_at (q := 6) (r := 16) rfl rfl
theorem km137 : xmt 137 = some (1, 2, 10, 1, [], xM137.2.2.2.2.2) := xmt_at (q := 6) (r := 17) rfl rfl
theorem km138 : xmt 138 = some (2, 4, 10, 1, [], xM138.2.2.2.2.2) := xmt_at (q := 6) (r := 18) rfl rfl
theorem km139 : xmt 139 = some (1, 3, 10, 1, [], xM139.2.2.2.2.2) := xmt_at (q := 6) (r := 19) rfl rfl
theorem km140 : xmt 140 = some (1, 2, 10, 1, [], xM140.2.2.2.2.2) := xmt_at (q := 7) (r := 0) rfl rfl
theorem km141 : xmt 141 = some (2, 2, 10, 1, [], xM141.2.2.2.2.2) := xmt_at (q := 7) (r := 1) rfl rfl
theorem km142 : xmt 142 = some (2, 4, 10, 1, [], xM142.2.2.2.2.2) := xmt_at (q := 7) (r := 2) rfl rfl
theorem km143 : xmt 143 = some (2, 2, 10, 1, [], xM143.2.2.2.2.2) := xmt_at (q := 7) (r := 3) rfl rfl
theorem km144 : xmt 144 = some (2, 2, 10, 1, [], xM144.2.2.2.2.2) := xmt_at (q := 7) (r := 4) rfl rfl
theorem km145 : xmt 145 = some (2, 3, 10, 1, [], xM145.2.2.2.2.2) := xmt_at (q := 7) (r := 5) rfl rfl
theorem km146 : xmt 146 = some (3, 3, 10, 1, [], xM146.2.2.2.2.2) := xmt_at (q := 7) (r := 6) rfl rfl
theorem km147 : xmt 147 = some (2, 3, 10, 1, [], xM147.2.2.2.2.2) := xmt_at (q := 7) (r := 7) rfl rfl
theorem km148 : xmt 148 = some (3, 4, 10, 1, [], xM148.2.2.2.2.2) := xmt_at (q := 7) (r := 8) rfl rfl
theorem km149 : xmt 149 = some (3, 3, 10, 1, [], xM149.2.2.2.2.2) := xmt_at (q := 7) (r := 9) rfl rfl
theorem km150 : xmt 150 = some (3, 4, 10, 1, [], xM150.2.2.2.2.2) := xmt_at (q := 7) (r := 10) rfl rfl
theorem km151 : xmt 151 = some (1, 1, 10, 1, [], xM151.2.2.2.2.2) := xmt_at (q := 7) (r := 11) rfl rfl
theorem km152 : xmt 152 = some (1, 1, 10, 1, [], xM152.2.2.2.2.2) := xmt_at (q := 7) (r := 12) rfl rfl
theorem km153 : xmt 153 = some (2, 2, 10, 1, [], xM153.2.2.2.2.2) := xmt_at (q := 7) (r := 13) rfl rfl
theorem km154 : xmt 154 = some (2, 2, 10, 1, [], xM154.2.2.2.2.2) := xmt_at (q := 7) (r := 14) rfl rfl
theorem km155 : xmt 155 = some (1, 1, 10, 0, [], xM155.2.2.2.2.2) := xmt_at (q := 7) (r := 15) rfl rfl
theorem km156 : xmt 156 = some (2, 2, 10, 0, [], xM156.2.2.2.2.2) := xmt_at (q := 7) (r := 16) rfl rfl
theorem km157 : xmt 157 = some (2, 2, 10, 0, [], xM157.2.2.2.2.2) := xmt_at (q := 7) (r := 17) rfl rfl
theorem km158 : xmt 158 = some (2, 2, 99, 0, [], xM158.2.2.2.2.2) := xmt_at (q := 7) (r := 18) rfl rfl
theorem km159 : xmt 159 = some (3, 3, 99, 0, [], xM159.2.2.2.2.2) := xmt_at (q := 7) (r := 19) rfl rfl
theorem km160 : xmt 160 = some (1, 1, 99, 0, [], xM160.2.2.2.2.2) := xmt_at (q := 8) (r := 0) rfl rfl
theorem km161 : xmt 161 = some (2, 2, 10, 8, [], xM161.2.2.2.2.2) := xmt_at (q := 8) (r := 1) rfl rfl
theorem km162 : xmt 162 = some (2, 2, 10, 8, [], xM162.2.2.2.2.2) := xmt_at (q := 8) (r := 2) rfl rfl
theorem km163 : xmt 163 = some (2, 3, 10, 0, [], xM163.2.2.2.2.2) := xmt_at (q := 8) (r := 3) rfl rfl
theorem km164 : xmt 164 = some (2, 3, 10, 1, [], xM164.2.2.2.2.2) := xmt_at (q := 8) (r := 4) rfl rfl
theorem km165 : xmt 165 = some (1, 2, 10, 0, [], xM165.2.2.2.2.2) := xmt_at (q := 8) (r := 5) rfl rfl
theorem km166 : xmt 166 = some (1, 3, 10, 1, [], xM166.2.2.2.2.2) := xmt_at (q := 8) (r := 6) rfl rfl
theorem km167 : xmt 167 = some (1, 3, 10, 1, [], xM167.2.2.2.2.2) := xmt_at (q := 8) (r := 7) rfl rfl
theorem km168 : xmt 168 = some (2, 4, 10, 1, [], xM168.2.2.2.2.2) := xmt_at (q := 8) (r := 8) rfl rfl
theorem km169 : xmt 169 = some (2, 4, 10, 1, [], xM169.2.2.2.2.2) := xmt_at (q := 8) (r := 9) rfl rfl
theorem km170 : xmt 170 = some (1, 4, 99, 1, [], xM170.2.2.2.2.2) := xmt_at (q := 8) (r := 10) rfl rfl
theorem km171 : xmt 171 = some (1, 7, 99, 5, [], xM171.2.2.2.2.2) := xmt_at (q := 8) (r := 11) rfl rfl
theorem km172 : xmt 172 = some (2, 3, 99, 0, [], xM172.2.2.2.2.2) := xmt_at (q := 8) (r := 12) rfl rfl
theorem km383 : xmt 383 = some (1, 1, 99, 1, [], xM383.2.2.2.2.2) := xmt_at (q := 19) (r := 3) rfl rfl
theorem km384 : xmt 384 = some (1, 1, 99, 1, [], xM384.2.2.2.2.2) := xmt_at (q := 19) (r := 4) rfl rfl
theorem km385 : xmt 385 = some (2, 2, 99, 1, [], xM385.2.2.2.2.2) := xmt_at (q := 19) (r := 5) rfl rfl
theorem km386 : xmt 386 = some (2, 2, 99, 1, [], xM386.2.2.2.2.2) := xmt_at (q := 19) (r := 6) rfl rfl
theorem km387 : xmt 387 = some (1, 1, 99, 2, [], xM387.2.2.2.2.2) := xmt_at (q := 19) (r := 7) rfl rfl
theorem km388 : xmt 388 = some (1, 1, 99, 1, [], xM388.2.2.2.2.2) := xmt_at (q := 19) (r := 8) rfl rfl
theorem km389 : xmt 389 = some (1, 2, 99, 2, [], xM389.2.2.2.2.2) := xmt_at (q := 19) (r := 9) rfl rfl
theorem km390 : xmt 390 = some (1, 2, 99, 5, [], xM390.2.2.2.2.2) := xmt_at (q := 19) (r := 10) rfl rfl
theorem km391 : xmt 391 = some (1, 1, 30, 1, [], xM391.2.2.2.2.2) := xmt_at (q := 19) (r := 11) rfl rfl
theorem km392 : xmt 392 = some (2, 2, 30, 4, [], xM392.2.2.2.2.2) := xmt_at (q := 19) (r := 12) rfl rfl
theorem km393 : xmt 393 = some (1, 1, 30, 3, [], xM393.2.2.2.2.2) := xmt_at (q := 19) (r := 13) rfl rfl
theorem km394 : xmt 394 = some (1, 1, 30, 2, [], xM394.2.2.2.2.2) := xmt_at (q := 19) (r := 14) rfl rfl
theorem km395 : xmt 395 = some (2, 2, 99, 0, [], xM395.2.2.2.2.2) := xmt_at (q := 19) (r := 15) rfl rfl
theorem km396 : xmt 396 = some (2, 2, 99, 4, [], xM396.2.2.2.2.2) := xmt_at (q := 19) (r := 16) rfl rfl
theorem km397 : xmt 397 = some (3, 3, 99, 1, [], xM397.2.2.2.2.2) := xmt_at (q := 19) (r := 17) rfl rfl
theorem k1_0 : xM1.2.2.2.2.2[0]? = some ([0, 1], [.aload 0, .getfield 0, .aload 0, .getfield 1, .arraylength, .if_icmp .ge 2, .goto_w 1]) := rfl
theorem k1_1 : xM1.2.2.2.2.2[1]? = some ([0, 1], [.aload 0, .getfield 1, .aload 0, .getfield 0, .iload 1, .iastore, .aload 0, .dup, .getfield 0, .iconst 1, .iadd, .putfield 0, .goto_w 2]) := rfl
theorem k1_2 : xM1.2.2.2.2.2[2]? = some ([], [.return_]) := rfl
theorem k2_0 : xM2.2.2.2.2.2[0]? = some ([0, 1], [.iload 1, .ifCond .ge 2, .goto_w 1]) := rfl
theorem k2_1 : xM2.2.2.2.2.2[1]? = some ([0, 1], [.aload 0, .iconst 45, .invokevirtual 1, .goto_w 2]) := rfl
theorem k2_2 : xM2.2.2.2.2.2[2]? = some ([0, 1], [.iload 1, .invokestatic 384, .istore 2, .iconst 1, .istore 3, .iload 2, .iconst 10, .idiv, .istore 4, .goto_w 3]) := rfl
theorem k2_3 : xM2.2.2.2.2.2[3]? = some ([0, 2, 3, 4], [.iload 4, .ifCond .le 6, .goto_w 4]) := rfl
theorem k2_4 : xM2.2.2.2.2.2[4]? = some ([0, 2, 3, 4], [.iload 3, .iconst 10, .if_icmp .ge 6, .goto_w 5]) := rfl
theorem k2_5 : xM2.2.2.2.2.2[5]? = some ([0, 2, 3, 4], [.iinc 3 1, .iload 4, .iconst 10, .idiv, .istore 4, .goto 3]) := rfl
theorem k2_6 : xM2.2.2.2.2.2[6]? = some ([0, 2, 3], [.aload 0, .getfield 0, .iload 3, .iadd, .istore 4, .iload 4, .aload 0, .getfield 1, .arraylength, .if_icmp .le 8, .goto_w 7]) := rfl
theorem k2_7 : xM2.2.2.2.2.2[7]? = some ([], [.return_]) := rfl
theorem k2_8 : xM2.2.2.2.2.2[8]? = some ([0, 2, 4], [.iload 4, .iconst 1, .isub, .istore 5, .goto_w 9]) := rfl
theorem k2_9 : xM2.2.2.2.2.2[9]? = some ([0, 2, 4, 5], [.iload 5, .aload 0, .getfield 0, .if_icmp .lt 11, .goto_w 10]) := rfl
theorem k2_10 : xM2.2.2.2.2.2[10]? = some ([0, 2, 4, 5], [.aload 0, .getfield 1, .iload 5, .iconst 48, .iload 2, .iconst 10, .irem, .iadd, .iastore, .iload 2, .iconst 10, .idiv, .istore 2, .iinc 5 (-1), .goto 9]) := rfl
theorem k2_11 : xM2.2.2.2.2.2[11]? = some ([0, 4], [.aload 0, .iload 4, .putfield 0, .return_]) := rfl
theorem k4_0 : xM4.2.2.2.2.2[0]? = some ([0, 1], [.aload 0, .aload 1, .getfield 32, .putfield 32, .aload 1, .getfield 33, .aload 0, .getfield 33, .invokestatic 172, .aload 1, .getfield 34, .aload 0, .getfield 34, .invokestatic 172, .aload 1, .getfield 35, .aload 0, .getfield 35, .invokestatic 172, .return_]) := rfl
theorem k5_0 : xM5.2.2.2.2.2[0]? = some ([0, 1, 2, 3], [.aload 0, .getfield 32, .iconst 12, .if_icmp .lt 2, .goto_w 1]) := rfl
theorem k5_1 : xM5.2.2.2.2.2[1]? = some ([], [.return_]) := rfl
theorem k5_2 : xM5.2.2.2.2.2[2]? = some ([0, 1, 2, 3], [.aload 0, .getfield 33, .aload 0, .getfield 32, .iload 1, .iastore, .aload 0, .getfield 34, .aload 0, .getfield 32, .iload 2, .iastore, .aload 0, .getfield 35, .aload 0, .getfield 32, .iload 3, .iastore, .aload 0, .dup, .getfield 32, .iconst 1, .iadd, .putfield 32, .return_]) := rfl
theorem k6_0 : xM6.2.2.2.2.2[0]? = some ([0, 1], [.iload 1, .ifCond .lt 2, .goto_w 1]) := rfl
theorem k6_1 : xM6.2.2.2.2.2[1]? = some ([0, 1], [.iload 1, .aload 0, .getfield 32, .if_icmp .lt 3, .goto_w 2]) := rfl
theorem k6_2 : xM6.2.2.2.2.2[2]? = some ([], [.return_]) := rfl
theorem k6_3 : xM6.2.2.2.2.2[3]? = some ([0, 1], [.iload 1, .istore 2, .goto_w 4]) := rfl
theorem k6_4 : xM6.2.2.2.2.2[4]? = some ([0, 2], [.iload 2, .iconst 1, .iadd, .aload 0, .getfield 32, .if_icmp .ge 6, .goto_w 5]) := rfl
theorem k6_5 : xM6.2.2.2.2.2[5]? = some ([0, 2], [.aload 0, .getfield 33, .iload 2, .aload 0, .getfield 33, .iload 2, .iconst 1, .iadd, .iaload, .iastore, .aload 0, .getfield 34, .iload 2, .aload 0, .getfield 34, .iload 2, .iconst 1, .iadd, .iaload, .iastore, .aload 0, .getfield 35, .iload 2, .aload 0, .getfield 35, .iload 2, .iconst 1, .iadd, .iaload, .iastore, .iinc 2 1, .goto 4]) := rfl
theorem k6_6 : xM6.2.2.2.2.2[6]? = some ([0], [.aload 0, .dup, .getfield 32, .iconst 1, .isub, .putfield 32, .return_]) := rfl
theorem k7_0 : xM7.2.2.2.2.2[0]? = some ([0, 1, 2], [.iconst 0, .istore 3, .iconst 0, .istore 4, .goto_w 1]) := rfl
theorem k7_1 : xM7.2.2.2.2.2[1]? = some ([0, 1, 2, 3, 4], [.iload 4, .aload 0, .getfield 32, .if_icmp .ge 6, .goto_w 2]) := rfl
theorem k7_2 : xM7.2.2.2.2.2[2]? = some ([0, 1, 2, 3, 4], [.aload 0, .getfield 34, .iload 4, .iaload, .iload 1, .if_icmp .lt 5, .goto_w 3]) := rfl
theorem k7_3 : xM7.2.2.2.2.2[3]? = some ([0, 1, 2, 3, 4], [.aload 0, .getfield 34, .iload 4, .iaload, .iload 2, .if_icmp .gt 5, .goto_w 4]) := rfl
theorem k7_4 : xM7.2.2.2.2.2[4]? = some ([0, 1, 2, 3, 4], [.iinc 3 1, .goto_w 5]) := rfl
theorem k7_5 : xM7.2.2.2.2.2[5]? = some ([0, 1, 2, 3, 4], [.iinc 4 1, .goto 1]) := rfl
theorem k7_6 : xM7.2.2.2.2.2[6]? = some ([3], [.iload 3, .ireturn]) := rfl
theorem k8_0 : xM8.2.2.2.2.2[0]? = some ([0, 1, 2], [.iconst (-1), .istore 3, .iconst 0, .istore 4, .goto_w 1]) := rfl
theorem k8_1 : xM8.2.2.2.2.2[1]? = some ([0, 1, 2, 3, 4], [.iload 4, .aload 0, .getfield 32, .if_icmp .ge 11, .goto_w 2]) := rfl
theorem k8_2 : xM8.2.2.2.2.2[2]? = some ([0, 1, 2, 3, 4], [.aload 0, .getfield 34, .iload 4, .iaload, .iload 1, .if_icmp .lt 5, .goto_w 3]) := rfl
theorem k8_3 : xM8.2.2.2.2.2[3]? = some ([0, 1, 2, 3, 4], [.aload 0, .getfield 34, .iload 4, .iaload, .iload 2, .if_icmp .gt 5, .goto_w 4]) := rfl
theorem k8_4 : xM8.2.2.2.2.2[4]? = some ([0, 1, 2, 3, 4], [.iconst 1, .goto 6]) := rfl
theorem k8_5 : xM8.2.2.2.2.2[5]? = some ([0, 1, 2, 3, 4], [.iconst 0, .goto_w 6]) := rfl
theorem k8_6 : xM8.2.2.2.2.2[6]? = some ([0, 1, 2, 3, 4], [.istore 5, .iload 5, .ifCond .eq 10, .goto_w 7]) := rfl
theorem k8_7 : xM8.2.2.2.2.2[7]? = some ([0, 1, 2, 3, 4], [.iload 3, .iconst (-1), .if_icmp .eq 9, .goto_w 8]) := rfl
theorem k8_8 : xM8.2.2.2.2.2[8]? = some ([0, 1, 2, 3, 4], [.aload 0, .getfield 34, .iload 4, .iaload, .aload 0, .getfield 34, .iload 3, .iaload, .if_icmp .le 10, .goto_w 9]) := rfl
theorem k8_9 : xM8.2.2.2.2.2[9]? = some ([0, 1, 2, 4], [.iload 4, .istore 3, .goto_w 10]) := rfl
theorem k8_10 : xM8.2.2.2.2.2[10]? = some ([0, 1, 2, 3, 4], [.iinc 4 1, .goto 1]) := rfl
theorem k8_11 : xM8.2.2.2.2.2[11]? = some ([3], [.iload 3, .ireturn]) := rfl
theorem k9_0 : xM9.2.2.2.2.2[0]? = some ([0, 1], [.iconst 0, .istore 2, .iconst 0, .istore 3, .goto_w 1]) := rfl
theorem k9_1 : xM9.2.2.2.2.2[1]? = some ([0, 1, 2, 3], [.iload 3, .aload 0, .getfield 32, .if_icmp .ge 5, .goto_w 2]) := rfl
theorem k9_2 : xM9.2.2.2.2.2[2]? = some ([0, 1, 2, 3], [.aload 0, .getfield 33, .iload 3, .iaload, .iload 1, .if_icmp .ne 4, .goto_w 3]) := rfl
theorem k9_3 : xM9.2.2.2.2.2[3]? = some ([0, 1, 2, 3], [.iinc 2 1, .goto_w 4]) := rfl
theorem k9_4 : xM9.2.2.2.2.2[4]? = some ([0, 1, 2, 3], [.iinc 3 1, .goto 1]) := rfl
theorem k9_5 : xM9.2.2.2.2.2[5]? = some ([2], [.iload 2, .ireturn]) := rfl
theorem k11_0 : xM11.2.2.2.2.2[0]? = some ([0], [.aload 0, .iconst 0, .putfield 64, .aload 0, .iconst 0, .putfield 65, .return_]) := rfl
theorem k12_0 : xM12.2.2.2.2.2[0]? = some ([0], [.iconst 0, .istore 1, .goto_w 1]) := rfl
theorem k12_1 : xM12.2.2.2.2.2[1]? = some ([0, 1], [.iload 1, .aload 0, .getfield 68, .arraylength, .if_icmp .ge 3, .goto_w 2]) := rfl
theorem k12_2 : xM12.2.2.2.2.2[2]? = some ([0, 1], [.aload 0, .getfield 68, .iload 1, .iconst 0, .bastore, .iinc 1 1, .goto 1]) := rfl
theorem k12_3 : xM12.2.2.2.2.2[3]? = some ([], [.return_]) := rfl
theorem k13_0 : xM13.2.2.2.2.2[0]? = some ([0, 1], [.aload 1, .aload 0, .getfield 66, .aload 0, .getfield 64, .aload 0, .getfield 65, .iadd, .iconst 8, .irem, .aaload, .invokestatic 17, .aload 0, .getfield 65, .iconst 8, .if_icmp .ge 2, .goto_w 1]) := rfl
theorem k13_1 : xM13.2.2.2.2.2[1]? = some ([0], [.aload 0, .dup, .getfield 65, .iconst 1, .iadd, .putfield 65, .goto 3]) := rfl
theorem k13_2 : xM13.2.2.2.2.2[2]? = some ([0], [.aload 0, .aload 0, .getfield 64, .iconst 1, .iadd, .iconst 8, .irem, .putfield 64, .goto_w 3]) := rfl
theorem k13_3 : xM13.2.2.2.2.2[3]? = some ([], [.return_]) := rfl
theorem k14_0 : xM14.2.2.2.2.2[0]? = some ([0, 1], [.aload 0, .getfield 65, .ifCond .le 2, .goto_w 1]) := rfl
theorem k14_1 : xM14.2.2.2.2.2[1]? = some ([0, 1], [.aload 0, .dup, .getfield 65, .iconst 1, .isub, .putfield 65, .aload 0, .getfield 66, .aload 0, .getfield 64, .aload 0, .getfield 65, .iadd, .iconst 8, .irem, .aaload, .aload 1, .invokestatic 17, .goto_w 2]) := rfl
theorem k14_2 : xM14.2.2.2.2.2[2]? = some ([], [.return_]) := rfl
theorem k15_0 : xM15.2.2.2.2.2[0]? = some ([0, 1, 2], [.aload 2, .aload 0, .getfield 67, .iload 1, .aaload, .invokestatic 17, .aload 0, .getfield 68, .iload 1, .iconst 1, .bastore, .return_]) := rfl
theorem k16_0 : xM16.2.2.2.2.2[0]? = some ([0, 1, 2], [.aload 0, .getfield 67, .iload 1, .aaload, .aload 2, .invokestatic 17, .return_]) := rfl
theorem k17_0 : xM17.2.2.2.2.2[0]? = some ([0, 1], [.aload 0, .ifnull 3, .goto_w 1]) := rfl
theorem k17_1 : xM17.2.2.2.2.2[1]? = some ([0, 1], [.aload 1, .ifnull 3, .goto_w 2]) := rfl
theorem k17_2 : xM17.2.2.2.2.2[2]? = some ([0, 1], [.aload 1, .aload 0, .invokevirtual 68, .goto_w 3]) := rfl
theorem k17_3 : xM17.2.2.2.2.2[3]? = some ([], [.return_]) := rfl
theorem k19_0 : xM19.2.2.2.2.2[0]? = some ([0, 1], [.aload 0, .iconst 0, .putfield 99, .aload 0, .iconst (-1), .putfield 100, .aload 0, .getfield 97, .invokevirtual 69, .aload 0, .getfield 98, .iconst 0, .putfield 192, .aload 0, .getfield 96, .iload 1, .invokevirtual 83, .aload 0, .invokevirtual 21, .ifCond .ne 2, .goto_w 1]) := rfl
theorem k19_1 : xM19.2.2.2.2.2[1]? = some ([], [.iconst 0, .ireturn]) := rfl
theorem k19_2 : xM19.2.2.2.2.2[2]? = some ([0], [.aload 0, .getfield 96, .invokevirtual 84, .iconst 0, .istore 2, .goto_w 3]) := rfl
theorem k19_3 : xM19.2.2.2.2.2[3]? = some ([0, 2], [.iload 2, .iconst 700, .if_icmp .ge 8, .goto_w 4]) := rfl
theorem k19_4 : xM19.2.2.2.2.2[4]? = some ([0, 2], [.aload 0, .getfield 96, .getfield 293, .iconst 3, .if_icmp .ne 8, .goto_w 5]) := rfl
theorem k19_5 : xM19.2.2.2.2.2[5]? = some ([0, 2], [.aload 0, .invokevirtual 22, .ifCond .ne 7, .goto_w 6]) := rfl
theorem k19_6 : xM19.2.2.2.2.2[6]? = some ([], [.iconst 0, .ireturn]) := rfl
theorem k19_7 : xM19.2.2.2.2.2[7]? = some ([0, 2], [.aload 0, .getfield 96, .invokevirtual 84, .iinc 2 1, .goto 3]) := rfl
theorem k19_8 : xM19.2.2.2.2.2[8]? = some ([0], [.aload 0, .getfield 96, .getfield 293, .ifCond .eq 10, .goto_w 9]) := rfl
theorem k19_9 : xM19.2.2.2.2.2[9]? = some ([0], [.aload 0, .iconst 1, .invokevirtual 20, .ifCond .eq 11, .goto_w 10]) := rfl
theorem k19_10 : xM19.2.2.2.2.2[10]? = some ([], [.iconst 1, .goto 12]) := rfl
theorem k19_11 : xM19.2.2.2.2.2[11]? = some ([], [.iconst 0, .goto_w 12]) := rfl
theorem k19_12 : xM19.2.2.2.2.2[12]? = some ([], [.ireturn]) := rfl
theorem k20_0 : xM20.2.2.2.2.2[0]? = some ([0, 1], [.aload 0, .iload 1, .putfield 99, .aload 0, .aload 0, .getfield 96, .getfield 291, .putfield 100, .iconst 0, .ireturn]) := rfl
theorem k21_0 : xM21.2.2.2.2.2[0]? = some ([0], [.aload 0, .getfield 96, .invokevirtual 84, .aload 0, .getfield 96, .ldc 1, .invokevirtual 89, .ifCond .ne 2, .goto_w 1]) := rfl
theorem k21_1 : xM21.2.2.2.2.2[1]? = some ([0], [.aload 0, .iconst 1, .invokevirtual 20, .ireturn]) := rfl
theorem k21_2 : xM21.2.2.2.2.2[2]? = some ([0], [.iconst 0, .istore 1, .goto_w 3]) := rfl
theorem k21_3 : xM21.2.2.2.2.2[3]? = some ([0, 1], [.iload 1, .iconst 6, .if_icmp .ge 7, .goto_w 4]) := rfl
theorem k21_4 : xM21.2.2.2.2.2[4]? = some ([0, 1], [.aload 0, .getstatic 0, .iload 1, .iaload, .getstatic 1, .iload 1, .iaload, .invokevirtual 26, .ifCond .ne 6, .goto_w 5]) := rfl
theorem k21_5 : xM21.2.2.2.2.2[5]? = some ([], [.iconst 0, .ireturn]) := rfl
theorem k21_6 : xM21.2.2.2.2.2[6]? = some ([0, 1], [.aload 0, .getfield 97, .getfield 260, .iload 1, .aload 0, .getfield 96, .getfield 294, .iastore, .iinc 1 1, .goto 3]) := rfl
theorem k21_7 : xM21.2.2.2.2.2[7]? = some ([], [.iconst 1, .ireturn]) := rfl
theorem k22_0 : xM22.2.2.2.2.2[0]? = some ([0], [.aload 0, .getfield 96, .invokevirtual 84, .aload 0, .getfield 96, .ldc 2, .invokevirtual 89, .ifCond .eq 5, .goto_w 1]) := rfl
theorem k22_1 : xM22.2.2.2.2.2[1]? = some ([0], [.aload 0, .getfield 97, .getfield 262, .getfield 224, .iconst 12, .if_icmp .ge 3, .goto_w 2]) := rfl
theorem k22_2 : xM22.2.2.2.2.2[2]? = some ([0], [.aload 0, .invokevirtual 23, .goto 4]) := rfl
theorem k22_3 : xM22.2.2.2.2.2[3]? = some ([0], [.aload 0, .iconst 4, .invokevirtual 20, .goto_w 4]) := rfl
theorem k22_4 : xM22.2.2.2.2.2[4]? = some ([], [.ireturn]) := rfl
theorem k22_5 : xM22.2.2.2.2.2[5]? = some ([0], [.aload 0, .getfield 96, .ldc 3, .invokevirtual 89, .ifCond .eq 10, .goto_w 6]) := rfl
theorem k22_6 : xM22.2.2.2.2.2[6]? = some ([0], [.aload 0, .getfield 98, .getfield 192, .iconst 6, .if_icmp .ge 8, .goto_w 7]) := rfl
theorem k22_7 : xM22.2.2.2.2.2[7]? = some ([0], [.aload 0, .invokevirtual 24, .goto 9]) := rfl
theorem k22_8 : xM22.2.2.2.2.2[8]? = some ([0], [.aload 0, .iconst 4, .invokevirtual 20, .goto_w 9]) := rfl
theorem k22_9 : xM22.2.2.2.2.2[9]? = some ([], [.ireturn]) := rfl
theorem k22_10 : xM22.2.2.2.2.2[10]? = some ([0], [.aload 0, .getfield 96, .ldc 6, .invokevirtual 89, .ifCond .eq 15, .goto_w 11]) := rfl
theorem k22_11 : xM22.2.2.2.2.2[11]? = some ([0], [.aload 0, .getfield 97, .getfield 264, .getfield 128, .iconst 12, .if_icmp .ge 13, .goto_w 12]) := rfl
theorem k22_12 : xM22.2.2.2.2.2[12]? = some ([0], [.aload 0, .invokevirtual 25, .goto 14]) := rfl
theorem k22_13 : xM22.2.2.2.2.2[13]? = some ([0], [.aload 0, .iconst 4, .invokevirtual 20, .goto_w 14]) := rfl
theorem k22_14 : xM22.2.2.2.2.2[14]? = some ([], [.ireturn]) := rfl
theorem k22_15 : xM22.2.2.2.2.2[15]? = some ([0], [.aload 0, .iconst 1, .invokevirtual 20, .ireturn]) := rfl
theorem k23_0 : xM23.2.2.2.2.2[0]? = some ([0], [.aload 0, .getfield 96, .invokevirtual 84, .aload 0, .getfield 96, .invokevirtual 87, .iconst 1, .if_icmp .eq 2, .goto_w 1]) := rfl
theorem k23_1 : xM23.2.2.2.2.2[1]? = some ([0], [.aload 0, .iconst 1, .invokevirtual 20, .ireturn]) := rfl
theorem k23_2 : xM23.2.2.2.2.2[2]? = some ([0], [.aload 0, .getfield 96, .iconst 0, .invokevirtual 88, .iconst 96, .isub, .istore 1, .aload 0, .iconst 1, .iconst 200, .invokevirtual 26, .ifCond .ne 4, .goto_w 3]) := rfl
theorem k23_3 : xM23.2.2.2.2.2[3]? = some ([], [.iconst 0, .ireturn]) := rfl
theorem k23_4 : xM23.2.2.2.2.2[4]? = some ([0, 1], [.aload 0, .getfield 96, .getfield 294, .istore 2, .aload 0, .iconst 0, .iconst 20, .invokevirtual 26, .ifCond .ne 6, .goto_w 5]) := rfl
theorem k23_5 : xM23.2.2.2.2.2[5]? = some ([], [.iconst 0, .ireturn]) := rfl
theorem k23_6 : xM23.2.2.2.2.2[6]? = some ([0, 1, 2], [.aload 0, .getfield 97, .getfield 262, .iload 1, .iload 2, .aload 0, .getfield 96, .getfield 294, .aload 0, .getfield 97, .getfield 260, .iconst 0, .iaload, .invokevirtual 49, .iconst 1, .ireturn]) := rfl
theorem k24_0 : xM24.2.2.2.2.2[0]? = some ([0], [.aload 0, .getfield 96, .invokevirtual 84, .aload 0, .getfield 96, .ldc 4, .invokevirtual 89, .istore 1, .iload 1, .ifCond .ne 3, .goto_w 1]) := rfl
theorem k24_1 : xM24.2.2.2.2.2[1]? = some ([0, 1], [.aload 0, .getfield 96, .ldc 5, .invokevirtual 89, .ifCond .ne 3, .goto_w 2]) := rfl
theorem k24_2 : xM24.2.2.2.2.2[2]? = some ([0], [.aload 0, .iconst 1, .invokevirtual 20, .ireturn]) := rfl
theorem k24_3 : xM24.2.2.2.2.2[3]? = some ([0, 1], [.aload 0, .iconst 0, .iconst 9999, .invokevirtual 26, .ifCond .ne 5, .goto_w 4]) := rfl
theorem k24_4 : xM24.2.2.2.2.2[4]? = some ([], [.iconst 0, .ireturn]) := rfl
theorem k24_5 : xM24.2.2.2.2.2[5]? = some ([0, 1], [.aload 0, .getfield 96, .getfield 294, .istore 2, .aload 0, .getfield 96, .invokevirtual 84, .aload 0, .getfield 96, .getfield 293, .iconst 1, .if_icmp .eq 7, .goto_w 6]) := rfl
theorem k24_6 : xM24.2.2.2.2.2[6]? = some ([0], [.aload 0, .iconst 1, .invokevirtual 20, .ireturn]) := rfl
theorem k24_7 : xM24.2.2.2.2.2[7]? = some ([0, 1, 2], [.aload 0, .getfield 98, .iload 1, .ifCond .eq 9, .goto_w 8]) := rfl
theorem k24_8 : xM24.2.2.2.2.2[8]? = some ([0, 2], [.iconst 1, .goto 10]) := rfl
theorem k24_9 : xM24.2.2.2.2.2[9]? = some ([0, 2], [.iconst 0, .goto_w 10]) := rfl
theorem k24_10 : xM24.2.2.2.2.2[10]? = some ([0, 2], [.iload 2, .invokevirtual 43, .iconst 0, .istore 3, .goto_w 11]) := rfl
theorem k24_11 : xM24.2.2.2.2.2[11]? = some ([0, 3], [.iload 3, .aload 0, .getfield 96, .invokevirtual 87, .if_icmp .ge 13, .goto_w 12]) := rfl
theorem k24_12 : xM24.2.2.2.2.2[12]? = some ([0, 3], [.aload 0, .getfield 98, .aload 0, .getfield 96, .iload 3, .invokevirtual 88, .invokevirtual 44, .iinc 3 1, .goto 11]) := rfl
theorem k24_13 : xM24.2.2.2.2.2[13]? = some ([], [.iconst 1, .ireturn]) := rfl
theorem k25_0 : xM25.2.2.2.2.2[0]? = some ([0], [.aload 0, .iconst 1, .iconst 5000, .invokevirtual 26, .ifCond .ne 2, .goto_w 1]) := rfl
theorem k25_1 : xM25.2.2.2.2.2[1]? = some ([], [.iconst 0, .ireturn]) := rfl
theorem k25_2 : xM25.2.2.2.2.2[2]? = some ([0], [.aload 0, .getfield 96, .getfield 294, .istore 1, .aload 0, .iconst 0, .aload 0, .getfield 97, .getfield 262, .getfield 224, .iconst 2, .isub, .invokevirtual 26, .ifCond .ne 4, .goto_w 3]) := rfl
theorem k25_3 : xM25.2.2.2.2.2[3]? = some ([], [.iconst 0, .ireturn]) := rfl
theorem k25_4 : xM25.2.2.2.2.2[4]? = some ([0, 1], [.aload 0, .getfield 97, .getfield 264, .iload 1, .aload 0, .getfield 96, .getfield 294, .invokevirtual 29, .iconst 1, .ireturn]) := rfl
theorem k26_0 : xM26.2.2.2.2.2[0]? = some ([0, 1, 2], [.aload 0, .getfield 96, .invokevirtual 84, .aload 0, .getfield 96, .getfield 293, .iconst 2, .if_icmp .eq 2, .goto_w 1]) := rfl
theorem k26_1 : xM26.2.2.2.2.2[1]? = some ([0], [.aload 0, .iconst 1, .invokevirtual 20, .ireturn]) := rfl
theorem k26_2 : xM26.2.2.2.2.2[2]? = some ([0, 1, 2], [.aload 0, .getfield 96, .getfield 294, .iload 1, .if_icmp .lt 4, .goto_w 3]) := rfl
theorem k26_3 : xM26.2.2.2.2.2[3]? = some ([0, 2], [.aload 0, .getfield 96, .getfield 294, .iload 2, .if_icmp .le 5, .goto_w 4]) := rfl
theorem k26_4 : xM26.2.2.2.2.2[4]? = some ([0], [.aload 0, .iconst 2, .invokevirtual 20, .ireturn]) := rfl
theorem k26_5 : xM26.2.2.2.2.2[5]? = some ([], [.iconst 1, .ireturn]) := rfl
theorem k28_0 : xM28.2.2.2.2.2[0]? = some ([0, 1], [.aload 0, .aload 1, .getfield 128, .putfield 128, .aload 1, .getfield 129, .aload 0, .getfield 129, .invokestatic 172, .aload 1, .getfield 130, .aload 0, .getfield 130, .invokestatic 172, .aload 1, .getfield 131, .aload 0, .getfield 131, .invokestatic 172, .return_]) := rfl
theorem k29_0 : xM29.2.2.2.2.2[0]? = some ([0, 1, 2], [.aload 0, .getfield 128, .iconst 12, .if_icmp .lt 2, .goto_w 1]) := rfl
theorem k29_1 : xM29.2.2.2.2.2[1]? = some ([], [.return_]) := rfl
theorem k29_2 : xM29.2.2.2.2.2[2]? = some ([0, 1, 2], [.aload 0, .getfield 129, .aload 0, .getfield 128, .iload 1, .iastore, .aload 0, .getfield 130, .aload 0, .getfield 128, .iload 2, .iastore, .aload 0, .getfield 131, .aload 0, .getfield 128, .iconst 0, .iastore, .aload 0, .dup, .getfield 128, .iconst 1, .iadd, .putfield 128, .return_]) := rfl
theorem k30_0 : xM30.2.2.2.2.2[0]? = some ([0, 1], [.iconst 0, .istore 2, .iconst 0, .istore 3, .goto_w 1]) := rfl
theorem k30_1 : xM30.2.2.2.2.2[1]? = some ([0, 1, 2, 3], [.iload 3, .aload 0, .getfield 128, .if_icmp .ge 5, .goto_w 2]) := rfl
theorem k30_2 : xM30.2.2.2.2.2[2]? = some ([0, 1, 2, 3], [.aload 0, .getfield 131, .iload 3, .iaload, .iload 1, .if_icmp .ne 4, .goto_w 3]) := rfl
theorem k30_3 : xM30.2.2.2.2.2[3]? = some ([0, 1, 2, 3], [.iinc 2 1, .goto_w 4]) := rfl
theorem k30_4 : xM30.2.2.2.2.2[4]? = some ([0, 1, 2, 3], [.iinc 3 1, .goto 1]) := rfl
theorem k30_5 : xM30.2.2.2.2.2[5]? = some ([2], [.iload 2, .ireturn]) := rfl
theorem k31_0 : xM31.2.2.2.2.2[0]? = some ([0], [.iconst (-1), .istore 1, .iconst 0, .istore 2, .goto_w 1]) := rfl
theorem k31_1 : xM31.2.2.2.2.2[1]? = some ([0, 1, 2], [.iload 2, .aload 0, .getfield 128, .if_icmp .ge 7, .goto_w 2]) := rfl
theorem k31_2 : xM31.2.2.2.2.2[2]? = some ([0, 1, 2], [.aload 0, .getfield 131, .iload 2, .iaload, .ifCond .ne 6, .goto_w 3]) := rfl
theorem k31_3 : xM31.2.2.2.2.2[3]? = some ([0, 1, 2], [.iload 1, .iconst (-1), .if_icmp .eq 5, .goto_w 4]) := rfl
theorem k31_4 : xM31.2.2.2.2.2[4]? = some ([0, 1, 2], [.aload 0, .getfield 129, .iload 2, .iaload, .aload 0, .getfield 129, .iload 1, .iaload, .if_icmp .ge 6, .goto_w 5]) := rfl
theorem k31_5 : xM31.2.2.2.2.2[5]? = some ([0, 2], [.iload 2, .istore 1, .goto_w 6]) := rfl
theorem k31_6 : xM31.2.2.2.2.2[6]? = some ([0, 1, 2], [.iinc 2 1, .goto 1]) := rfl
theorem k31_7 : xM31.2.2.2.2.2[7]? = some ([1], [.iload 1, .ireturn]) := rfl
theorem k33_0 : xM33.2.2.2.2.2[0]? = some ([0, 1, 2, 3], [.aload 0, .iconst 0, .putfield 160, .aload 0, .iconst 0, .putfield 161, .aload 1, .getfield 262, .astore 4, .iconst 0, .istore 5, .goto_w 1]) := rfl
theorem k33_1 : xM33.2.2.2.2.2[1]? = some ([0, 1, 2, 3, 4, 5], [.iload 5, .aload 4, .getfield 224, .if_icmp .ge 8, .goto_w 2]) := rfl
theorem k33_2 : xM33.2.2.2.2.2[2]? = some ([0, 1, 2, 3, 4, 5], [.aload 2, .getfield 193, .iload 3, .iaload, .iconst 1, .if_icmp .ne 4, .goto_w 3]) := rfl
theorem k33_3 : xM33.2.2.2.2.2[3]? = some ([0, 1, 2, 3, 4, 5], [.aload 4, .getfield 224, .iconst 1, .isub, .iload 5, .isub, .goto 5]) := rfl
theorem k33_4 : xM33.2.2.2.2.2[4]? = some ([0, 1, 2, 3, 4, 5], [.iload 5, .goto_w 5]) := rfl
theorem k33_5 : xM33.2.2.2.2.2[5]? = some ([0, 1, 2, 3, 4, 5], [.istore 6, .aload 1, .iload 6, .aload 2, .getfield 194, .iload 3, .iaload, .invokevirtual 79, .ifCond .eq 7, .goto_w 6]) := rfl
theorem k33_6 : xM33.2.2.2.2.2[6]? = some ([0, 1, 2, 3, 4, 5, 6], [.aload 0, .aload 4, .iload 6, .aload 1, .getfield 260, .iconst 2, .iaload, .invokevirtual 34, .goto_w 7]) := rfl
theorem k33_7 : xM33.2.2.2.2.2[7]? = some ([0, 1, 2, 3, 4, 5], [.iinc 5 1, .goto 1]) := rfl
theorem k33_8 : xM33.2.2.2.2.2[8]? = some ([], [.return_]) := rfl
theorem k34_0 : xM34.2.2.2.2.2[0]? = some ([0, 1, 2, 3], [.aload 0, .getfield 161, .aload 0, .getfield 163, .arraylength, .if_icmp .ge 2, .goto_w 1]) := rfl
theorem k34_1 : xM34.2.2.2.2.2[1]? = some ([0, 1, 2, 3], [.aload 0, .getfield 160, .iconst 1, .iadd, .aload 0, .getfield 162, .arraylength, .if_icmp .lt 3, .goto_w 2]) := rfl
theorem k34_2 : xM34.2.2.2.2.2[2]? = some ([], [.return_]) := rfl
theorem k34_3 : xM34.2.2.2.2.2[3]? = some ([0, 1, 2, 3], [.aload 0, .getfield 161, .ifCond .le 6, .goto_w 4]) := rfl
theorem k34_4 : xM34.2.2.2.2.2[4]? = some ([0, 1, 2, 3], [.aload 1, .getfield 230, .iload 2, .iaload, .aload 1, .getfield 230, .aload 0, .getfield 163, .aload 0, .getfield 161, .iconst 1, .isub, .iaload, .iaload, .isub, .invokestatic 384, .iload 3, .if_icmp .le 6, .goto_w 5]) := rfl
theorem k34_5 : xM34.2.2.2.2.2[5]? = some ([0, 1, 2], [.aload 0, .getfield 162, .aload 0, .getfield 160, .iconst 32, .iastore, .aload 0, .dup, .getfield 160, .iconst 1, .iadd, .putfield 160, .goto_w 6]) := rfl
theorem k34_6 : xM34.2.2.2.2.2[6]? = some ([0, 1, 2], [.aload 0, .getfield 162, .aload 0, .getfield 160, .iconst 96, .aload 1, .getfield 229, .iload 2, .iaload, .iadd, .iastore, .aload 0, .dup, .getfield 160, .iconst 1, .iadd, .putfield 160, .aload 0, .getfield 163, .aload 0, .getfield 161, .iload 2, .iastore, .aload 0, .dup, .getfield 161, .iconst 1, .iadd, .putfield 161, .return_]) := rfl
theorem k35_0 : xM35.2.2.2.2.2[0]? = some ([0, 1], [.iload 1, .ifCond .lt 3, .goto_w 1]) := rfl
theorem k35_1 : xM35.2.2.2.2.2[1]? = some ([0, 1], [.iload 1, .aload 0, .getfield 160, .if_icmp .ge 3, .goto_w 2]) := rfl
theorem k35_2 : xM35.2.2.2.2.2[2]? = some ([0, 1], [.aload 0, .getfield 162, .iload 1, .iaload, .goto 4]) := rfl
theorem k35_3 : xM35.2.2.2.2.2[3]? = some ([], [.iconst (-1), .goto_w 4]) := rfl
theorem k35_4 : xM35.2.2.2.2.2[4]? = some ([], [.ireturn]) := rfl
theorem k36_0 : xM36.2.2.2.2.2[0]? = some ([0, 1], [.iload 1, .ifCond .lt 3, .goto_w 1]) := rfl
theorem k36_1 : xM36.2.2.2.2.2[1]? = some ([0, 1], [.iload 1, .aload 0, .getfield 161, .if_icmp .ge 3, .goto_w 2]) := rfl
theorem k36_2 : xM36.2.2.2.2.2[2]? = some ([0, 1], [.aload 0, .getfield 163, .iload 1, .iaload, .goto 4]) := rfl
theorem k36_3 : xM36.2.2.2.2.2[3]? = some ([], [.iconst (-1), .goto_w 4]) := rfl
theorem k36_4 : xM36.2.2.2.2.2[4]? = some ([], [.ireturn]) := rfl
theorem k37_0 : xM37.2.2.2.2.2[0]? = some ([0, 1, 2], [.iconst 0, .istore 3, .iconst 0, .istore 4, .goto_w 1]) := rfl
theorem k37_1 : xM37.2.2.2.2.2[1]? = some ([0, 1, 2, 3, 4], [.iload 4, .aload 0, .getfield 160, .if_icmp .ge 6, .goto_w 2]) := rfl
theorem k37_2 : xM37.2.2.2.2.2[2]? = some ([0, 1, 2, 3, 4], [.iload 4, .aload 1, .getfield 195, .iload 2, .iaload, .if_icmp .ge 6, .goto_w 3]) := rfl
theorem k37_3 : xM37.2.2.2.2.2[3]? = some ([0, 1, 2, 3, 4], [.aload 0, .getfield 162, .iload 4, .iaload, .aload 1, .iload 2, .iload 4, .invokevirtual 45, .if_icmp .ne 5, .goto_w 4]) := rfl
theorem k37_4 : xM37.2.2.2.2.2[4]? = some ([0, 1, 2, 3, 4], [.iinc 3 1, .goto_w 5]) := rfl
theorem k37_5 : xM37.2.2.2.2.2[5]? = some ([0, 1, 2, 3, 4], [.iinc 4 1, .goto 1]) := rfl
theorem k37_6 : xM37.2.2.2.2.2[6]? = some ([3], [.iload 3, .ireturn]) := rfl
theorem k38_0 : xM38.2.2.2.2.2[0]? = some ([0, 1, 2], [.aload 0, .getfield 160, .aload 1, .getfield 195, .iload 2, .iaload, .invokestatic 386, .istore 3, .iconst 0, .istore 4, .goto_w 1]) := rfl
theorem k38_1 : xM38.2.2.2.2.2[1]? = some ([0, 1, 2, 3, 4], [.iload 4, .iload 3, .if_icmp .ge 5, .goto_w 2]) := rfl
theorem k38_2 : xM38.2.2.2.2.2[2]? = some ([0, 1, 2, 3, 4], [.aload 0, .getfield 162, .iload 4, .iaload, .aload 1, .iload 2, .iload 4, .invokevirtual 45, .if_icmp .eq 4, .goto_w 3]) := rfl
theorem k38_3 : xM38.2.2.2.2.2[3]? = some ([4], [.iload 4, .ireturn]) := rfl
theorem k38_4 : xM38.2.2.2.2.2[4]? = some ([0, 1, 2, 3, 4], [.iinc 4 1, .goto 1]) := rfl
theorem k38_5 : xM38.2.2.2.2.2[5]? = some ([3], [.iload 3, .ireturn]) := rfl
theorem k39_0 : xM39.2.2.2.2.2[0]? = some ([0, 1, 2], [.aload 0, .getfield 160, .aload 1, .getfield 195, .iload 2, .iaload, .if_icmp .ne 3, .goto_w 1]) := rfl
theorem k39_1 : xM39.2.2.2.2.2[1]? = some ([0, 1, 2], [.aload 0, .aload 1, .iload 2, .invokevirtual 37, .aload 0, .getfield 160, .if_icmp .ne 3, .goto_w 2]) := rfl
theorem k39_2 : xM39.2.2.2.2.2[2]? = some ([], [.iconst 1, .goto 4]) := rfl
theorem k39_3 : xM39.2.2.2.2.2[3]? = some ([], [.iconst 0, .goto_w 4]) := rfl
theorem k39_4 : xM39.2.2.2.2.2[4]? = some ([], [.ireturn]) := rfl
theorem k40_0 : xM40.2.2.2.2.2[0]? = some ([0, 1, 2], [.aload 0, .getfield 160, .aload 1, .getfield 195, .iload 2, .iaload, .invokestatic 385, .istore 3, .iload 3, .ifCond .le 2, .goto_w 1]) := rfl
theorem k40_1 : xM40.2.2.2.2.2[1]? = some ([0, 1, 2, 3], [.aload 0, .aload 1, .iload 2, .invokevirtual 37, .i2f, .iload 3, .i2f, .fdiv, .goto 3]) := rfl
theorem k40_2 : xM40.2.2.2.2.2[2]? = some ([], [.fconst 0, .goto_w 3]) := rfl
theorem k40_3 : xM40.2.2.2.2.2[3]? = some ([], [.freturn]) := rfl
theorem k42_0 : xM42.2.2.2.2.2[0]? = some ([0, 1], [.aload 0, .aload 1, .getfield 192, .putfield 192, .aload 1, .getfield 193, .aload 0, .getfield 193, .invokestatic 172, .aload 1, .getfield 194, .aload 0, .getfield 194, .invokestatic 172, .aload 1, .getfield 195, .aload 0, .getfield 195, .invokestatic 172, .aload 1, .getfield 196, .aload 0, .getfield 196, .invokestatic 172, .return_]) := rfl
theorem k43_0 : xM43.2.2.2.2.2[0]? = some ([0, 1, 2], [.aload 0, .getfield 192, .iconst 6, .if_icmp .lt 2, .goto_w 1]) := rfl
theorem k43_1 : xM43.2.2.2.2.2[1]? = some ([], [.return_]) := rfl
theorem k43_2 : xM43.2.2.2.2.2[2]? = some ([0, 1, 2], [.aload 0, .getfield 193, .aload 0, .getfield 192, .iload 1, .iastore, .aload 0, .getfield 194, .aload 0, .getfield 192, .iload 2, .iastore, .aload 0, .getfield 195, .aload 0, .getfield 192, .iconst 0, .iastore, .aload 0, .dup, .getfield 192, .iconst 1, .iadd, .putfield 192, .return_]) := rfl
theorem k44_0 : xM44.2.2.2.2.2[0]? = some ([0, 1], [.aload 0, .getfield 192, .iconst 1, .isub, .istore 2, .iload 2, .ifCond .lt 2, .goto_w 1]) := rfl
theorem k44_1 : xM44.2.2.2.2.2[1]? = some ([0, 1, 2], [.aload 0, .getfield 195, .iload 2, .iaload, .iconst 8, .if_icmp .lt 3, .goto_w 2]) := rfl
theorem k44_2 : xM44.2.2.2.2.2[2]? = some ([], [.return_]) := rfl
theorem k44_3 : xM44.2.2.2.2.2[3]? = some ([0, 1, 2], [.aload 0, .getfield 196, .iload 2, .iconst 8, .imul, .aload 0, .getfield 195, .iload 2, .iaload, .iadd, .iload 1, .iastore, .aload 0, .getfield 195, .iload 2, .dup2, .iaload, .iconst 1, .iadd, .iastore, .return_]) := rfl
theorem k45_0 : xM45.2.2.2.2.2[0]? = some ([0, 1, 2], [.iload 2, .ifCond .lt 3, .goto_w 1]) := rfl
theorem k45_1 : xM45.2.2.2.2.2[1]? = some ([0, 1, 2], [.iload 2, .aload 0, .getfield 195, .iload 1, .iaload, .if_icmp .ge 3, .goto_w 2]) := rfl
theorem k45_2 : xM45.2.2.2.2.2[2]? = some ([0, 1, 2], [.aload 0, .getfield 196, .iload 1, .iconst 8, .imul, .iload 2, .iadd, .iaload, .goto 4]) := rfl
theorem k45_3 : xM45.2.2.2.2.2[3]? = some ([], [.iconst (-1), .goto_w 4]) := rfl
theorem k45_4 : xM45.2.2.2.2.2[4]? = some ([], [.ireturn]) := rfl
theorem k46_0 : xM46.2.2.2.2.2[0]? = some ([0, 1, 2], [.iconst 0, .istore 3, .iconst 0, .istore 4, .goto_w 1]) := rfl
theorem k46_1 : xM46.2.2.2.2.2[1]? = some ([0, 1, 2, 3, 4], [.iload 4, .aload 0, .getfield 195, .iload 1, .iaload, .if_icmp .ge 5, .goto_w 2]) := rfl
theorem k46_2 : xM46.2.2.2.2.2[2]? = some ([0, 1, 2, 3, 4], [.aload 0, .iload 1, .iload 4, .invokevirtual 45, .iconst 96, .iload 2, .iadd, .if_icmp .ne 4, .goto_w 3]) := rfl
theorem k46_3 : xM46.2.2.2.2.2[3]? = some ([0, 1, 2, 3, 4], [.iinc 3 1, .goto_w 4]) := rfl
theorem k46_4 : xM46.2.2.2.2.2[4]? = some ([0, 1, 2, 3, 4], [.iinc 4 1, .goto 1]) := rfl
theorem k46_5 : xM46.2.2.2.2.2[5]? = some ([3], [.iload 3, .ireturn]) := rfl
theorem k48_0 : xM48.2.2.2.2.2[0]? = some ([0, 1], [.aload 0, .aload 1, .getfield 224, .putfield 224, .aload 1, .getfield 225, .aload 0, .getfield 225, .invokestatic 172, .aload 1, .getfield 226, .aload 0, .getfield 226, .invokestatic 172, .aload 1, .getfield 227, .aload 0, .getfield 227, .invokestatic 172, .aload 1, .getfield 228, .aload 0, .getfield 228, .invokestatic 172, .aload 1, .getfield 229, .aload 0, .getfield 229, .invokestatic 172, .aload 1, .getfield 230, .aload 0, .getfield 230, .invokestatic 172, .aload 1, .getfield 232, .aload 0, .getfield 232, .invokestatic 172, .return_]) := rfl
theorem k49_0 : xM49.2.2.2.2.2[0]? = some ([0, 1, 2, 3, 4], [.aload 0, .getfield 224, .iconst 12, .if_icmp .lt 2, .goto_w 1]) := rfl
theorem k49_1 : xM49.2.2.2.2.2[1]? = some ([], [.return_]) := rfl
theorem k49_2 : xM49.2.2.2.2.2[2]? = some ([0, 1, 2, 3, 4], [.aload 0, .getfield 225, .aload 0, .getfield 224, .iload 1, .iastore, .aload 0, .getfield 226, .aload 0, .getfield 224, .iload 2, .iastore, .aload 0, .getfield 227, .aload 0, .getfield 224, .iload 3, .iastore, .aload 0, .getfield 228, .aload 0, .getfield 224, .iconst 100, .iastore, .aload 0, .getfield 229, .aload 0, .getfield 224, .iload 1, .iastore, .aload 0, .getfield 230, .aload 0, .getfield 224, .iload 4, .ineg, .aload 0, .getfield 224, .imul, .iastore, .aload 0, .getfield 231, .aload 0, .getfield 224, .aload 0, .getfield 230, .aload 0, .getfield 224, .iaload, .iastore, .aload 0, .getfield 232, .aload 0, .getfield 224, .iconst 0, .iastore, .aload 0, .dup, .getfield 224, .iconst 1, .iadd, .putfield 224, .return_]) := rfl
theorem k50_0 : xM50.2.2.2.2.2[0]? = some ([0, 1], [.aload 0, .getfield 226, .iload 1, .iaload, .i2f, .aload 0, .getfield 228, .iload 1, .iaload, .i2f, .fmul, .ldc_w 1120403456, .fdiv, .f2i, .ireturn]) := rfl
theorem k51_0 : xM51.2.2.2.2.2[0]? = some ([0, 1], [.iload 1, .ifCond .le 2, .goto_w 1]) := rfl
theorem k51_1 : xM51.2.2.2.2.2[1]? = some ([0, 1], [.aload 0, .getfield 230, .iload 1, .iconst 1, .isub, .iaload, .aload 0, .getfield 230, .iload 1, .iaload, .isub, .goto 3]) := rfl
theorem k51_2 : xM51.2.2.2.2.2[2]? = some ([], [.iconst (-1), .goto_w 3]) := rfl
theorem k51_3 : xM51.2.2.2.2.2[3]? = some ([], [.ireturn]) := rfl
theorem k52_0 : xM52.2.2.2.2.2[0]? = some ([0, 1, 2], [.aload 0, .getfield 228, .iload 1, .iconst 0, .iconst 100, .aload 0, .getfield 228, .iload 1, .iaload, .iload 2, .iadd, .invokestatic 386, .invokestatic 385, .iastore, .return_]) := rfl
theorem k53_0 : xM53.2.2.2.2.2[0]? = some ([0, 1], [.iload 1, .ifCond .lt 2, .goto_w 1]) := rfl
theorem k53_1 : xM53.2.2.2.2.2[1]? = some ([0, 1], [.iload 1, .iconst 1, .iadd, .aload 0, .getfield 224, .if_icmp .lt 3, .goto_w 2]) := rfl
theorem k53_2 : xM53.2.2.2.2.2[2]? = some ([], [.return_]) := rfl
theorem k53_3 : xM53.2.2.2.2.2[3]? = some ([0, 1], [.aload 0, .getfield 229, .iload 1, .iaload, .istore 2, .aload 0, .getfield 229, .iload 1, .aload 0, .getfield 229, .iload 1, .iconst 1, .iadd, .iaload, .iastore, .aload 0, .getfield 229, .iload 1, .iconst 1, .iadd, .iload 2, .iastore, .return_]) := rfl
theorem k54_0 : xM54.2.2.2.2.2[0]? = some ([0, 1, 2], [.iconst 0, .istore 3, .goto_w 1]) := rfl
theorem k54_1 : xM54.2.2.2.2.2[1]? = some ([0, 1, 2, 3], [.iload 3, .aload 0, .getfield 224, .if_icmp .ge 8, .goto_w 2]) := rfl
theorem k54_2 : xM54.2.2.2.2.2[2]? = some ([0, 1, 2, 3], [.aload 0, .getfield 230, .iload 3, .iaload, .aload 0, .iload 3, .invokevirtual 50, .iadd, .istore 4, .iload 3, .ifCond .le 4, .goto_w 3]) := rfl
theorem k54_3 : xM54.2.2.2.2.2[3]? = some ([0, 1, 2, 3, 4], [.iload 4, .aload 0, .getfield 230, .iload 3, .iconst 1, .isub, .iaload, .iload 1, .isub, .invokestatic 386, .istore 4, .goto_w 4]) := rfl
theorem k54_4 : xM54.2.2.2.2.2[4]? = some ([0, 1, 2, 3, 4], [.aload 0, .getfield 231, .iload 3, .aload 0, .getfield 230, .iload 3, .iaload, .iastore, .iload 4, .aload 0, .getfield 230, .iload 3, .iaload, .if_icmp .le 6, .goto_w 5]) := rfl
theorem k54_5 : xM54.2.2.2.2.2[5]? = some ([0, 1, 2, 3, 4], [.aload 0, .getfield 230, .iload 3, .iload 4, .iastore, .aload 0, .getfield 232, .iload 3, .dup2, .iaload, .iconst 1, .iadd, .iastore, .aload 0, .iload 3, .aload 0, .getfield 227, .iload 3, .iaload, .ineg, .invokevirtual 52, .goto 7]) := rfl
theorem k54_6 : xM54.2.2.2.2.2[6]? = some ([0, 1, 2, 3], [.aload 0, .iload 3, .iload 2, .invokevirtual 52, .goto_w 7]) := rfl
theorem k54_7 : xM54.2.2.2.2.2[7]? = some ([0, 1, 2, 3], [.iinc 3 1, .goto 1]) := rfl
theorem k54_8 : xM54.2.2.2.2.2[8]? = some ([], [.return_]) := rfl
theorem k55_0 : xM55.2.2.2.2.2[0]? = some ([0], [.iconst 0, .istore 1, .iconst 0, .istore 2, .goto_w 1]) := rfl
theorem k55_1 : xM55.2.2.2.2.2[1]? = some ([0, 1, 2], [.iload 2, .aload 0, .getfield 224, .if_icmp .ge 5, .goto_w 2]) := rfl
theorem k55_2 : xM55.2.2.2.2.2[2]? = some ([0, 1, 2], [.aload 0, .getfield 229, .iload 2, .iaload, .ifCond .eq 4, .goto_w 3]) := rfl
theorem k55_3 : xM55.2.2.2.2.2[3]? = some ([0, 1, 2], [.iinc 1 1, .goto_w 4]) := rfl
theorem k55_4 : xM55.2.2.2.2.2[4]? = some ([0, 1, 2], [.iinc 2 1, .goto 1]) := rfl
theorem k55_5 : xM55.2.2.2.2.2[5]? = some ([1], [.iload 1, .ireturn]) := rfl
theorem k56_0 : xM56.2.2.2.2.2[0]? = some ([0, 1], [.iconst 0, .istore 2, .iconst 0, .istore 3, .goto_w 1]) := rfl
theorem k56_1 : xM56.2.2.2.2.2[1]? = some ([0, 1, 2, 3], [.iload 3, .aload 0, .getfield 224, .if_icmp .ge 5, .goto_w 2]) := rfl
theorem k56_2 : xM56.2.2.2.2.2[2]? = some ([0, 1, 2, 3], [.aload 0, .getfield 229, .iload 3, .iaload, .iload 1, .if_icmp .ne 4, .goto_w 3]) := rfl
theorem k56_3 : xM56.2.2.2.2.2[3]? = some ([0, 1, 2, 3], [.iinc 2 1, .goto_w 4]) := rfl
theorem k56_4 : xM56.2.2.2.2.2[4]? = some ([0, 1, 2, 3], [.iinc 3 1, .goto 1]) := rfl
theorem k56_5 : xM56.2.2.2.2.2[5]? = some ([2], [.iload 2, .ireturn]) := rfl
theorem k57_0 : xM57.2.2.2.2.2[0]? = some ([0], [.iconst 0, .istore 1, .iconst 0, .istore 2, .goto_w 1]) := rfl
theorem k57_1 : xM57.2.2.2.2.2[1]? = some ([0, 1, 2], [.iload 2, .aload 0, .getfield 224, .if_icmp .ge 5, .goto_w 2]) := rfl
theorem k57_2 : xM57.2.2.2.2.2[2]? = some ([0, 1, 2], [.aload 0, .getfield 229, .iload 2, .iaload, .aload 0, .getfield 225, .iload 2, .iaload, .if_icmp .ne 4, .goto_w 3]) := rfl
theorem k57_3 : xM57.2.2.2.2.2[3]? = some ([0, 1, 2], [.iinc 1 1, .goto_w 4]) := rfl
theorem k57_4 : xM57.2.2.2.2.2[4]? = some ([0, 1, 2], [.iinc 2 1, .goto 1]) := rfl
theorem k57_5 : xM57.2.2.2.2.2[5]? = some ([1], [.iload 1, .ireturn]) := rfl
theorem k58_0 : xM58.2.2.2.2.2[0]? = some ([0, 1], [.iconst 0, .istore 2, .iconst 1, .istore 3, .goto_w 1]) := rfl
theorem k58_1 : xM58.2.2.2.2.2[1]? = some ([0, 1, 2, 3], [.iload 3, .aload 0, .getfield 224, .if_icmp .ge 5, .goto_w 2]) := rfl
theorem k58_2 : xM58.2.2.2.2.2[2]? = some ([0, 1, 2, 3], [.aload 0, .iload 3, .invokevirtual 51, .iload 1, .if_icmp .gt 4, .goto_w 3]) := rfl
theorem k58_3 : xM58.2.2.2.2.2[3]? = some ([0, 1, 2, 3], [.iinc 2 1, .goto_w 4]) := rfl
theorem k58_4 : xM58.2.2.2.2.2[4]? = some ([0, 1, 2, 3], [.iinc 3 1, .goto 1]) := rfl
theorem k58_5 : xM58.2.2.2.2.2[5]? = some ([2], [.iload 2, .ireturn]) := rfl
theorem k59_0 : xM59.2.2.2.2.2[0]? = some ([0], [.iconst 0, .istore 1, .iconst 0, .istore 2, .goto_w 1]) := rfl
theorem k59_1 : xM59.2.2.2.2.2[1]? = some ([0, 1, 2], [.iload 2, .aload 0, .getfield 224, .if_icmp .ge 3, .goto_w 2]) := rfl
theorem k59_2 : xM59.2.2.2.2.2[2]? = some ([0, 1, 2], [.iload 1, .aload 0, .iload 2, .invokevirtual 50, .iadd, .istore 1, .iinc 2 1, .goto 1]) := rfl
theorem k59_3 : xM59.2.2.2.2.2[3]? = some ([1], [.iload 1, .ireturn]) := rfl
theorem k60_0 : xM60.2.2.2.2.2[0]? = some ([0], [.iconst 0, .istore 1, .iconst 0, .istore 2, .goto_w 1]) := rfl
theorem k60_1 : xM60.2.2.2.2.2[1]? = some ([0, 1, 2], [.iload 2, .aload 0, .getfield 224, .if_icmp .ge 3, .goto_w 2]) := rfl
theorem k60_2 : xM60.2.2.2.2.2[2]? = some ([0, 1, 2], [.iload 1, .aload 0, .getfield 228, .iload 2, .iaload, .iadd, .istore 1, .iinc 2 1, .goto 1]) := rfl
theorem k60_3 : xM60.2.2.2.2.2[3]? = some ([1], [.iload 1, .ireturn]) := rfl
theorem k61_0 : xM61.2.2.2.2.2[0]? = some ([0], [.aload 0, .getfield 224, .ifCond .le 2, .goto_w 1]) := rfl
theorem k61_1 : xM61.2.2.2.2.2[1]? = some ([0], [.aload 0, .invokevirtual 60, .i2d, .aload 0, .getfield 224, .i2d, .ddiv, .goto 3]) := rfl
theorem k61_2 : xM61.2.2.2.2.2[2]? = some ([], [.dconst 0, .goto_w 3]) := rfl
theorem k61_3 : xM61.2.2.2.2.2[3]? = some ([], [.dreturn]) := rfl
theorem k62_0 : xM62.2.2.2.2.2[0]? = some ([0, 1], [.iconst 0, .istore 2, .iconst 0, .istore 3, .goto_w 1]) := rfl
theorem k62_1 : xM62.2.2.2.2.2[1]? = some ([0, 1, 2, 3], [.iload 3, .aload 0, .getfield 224, .if_icmp .ge 5, .goto_w 2]) := rfl
theorem k62_2 : xM62.2.2.2.2.2[2]? = some ([0, 1, 2, 3], [.aload 0, .getfield 228, .iload 3, .iaload, .iload 1, .if_icmp .gt 4, .goto_w 3]) := rfl
theorem k62_3 : xM62.2.2.2.2.2[3]? = some ([0, 1, 2, 3], [.iload 2, .iconst 1, .iload 3, .ishl, .ior, .istore 2, .goto_w 4]) := rfl
theorem k62_4 : xM62.2.2.2.2.2[4]? = some ([0, 1, 2, 3], [.iinc 3 1, .goto 1]) := rfl
theorem k62_5 : xM62.2.2.2.2.2[5]? = some ([2], [.iload 2, .ireturn]) := rfl
theorem k63_0 : xM63.2.2.2.2.2[0]? = some ([0, 1], [.iconst 0, .istore 2, .iconst 0, .istore 3, .goto_w 1]) := rfl
theorem k63_1 : xM63.2.2.2.2.2[1]? = some ([0, 1, 2, 3], [.iload 3, .aload 0, .getfield 224, .if_icmp .ge 5, .goto_w 2]) := rfl
theorem k63_2 : xM63.2.2.2.2.2[2]? = some ([0, 1, 2, 3], [.aload 0, .getfield 228, .iload 3, .iaload, .iload 1, .if_icmp .ge 4, .goto_w 3]) := rfl
theorem k63_3 : xM63.2.2.2.2.2[3]? = some ([0, 1, 2, 3], [.iinc 2 1, .goto_w 4]) := rfl
theorem k63_4 : xM63.2.2.2.2.2[4]? = some ([0, 1, 2, 3], [.iinc 3 1, .goto 1]) := rfl
theorem k63_5 : xM63.2.2.2.2.2[5]? = some ([2], [.iload 2, .ireturn]) := rfl
theorem k64_0 : xM64.2.2.2.2.2[0]? = some ([0, 1], [.iconst 0, .istore 2, .iconst 0, .istore 3, .goto_w 1]) := rfl
theorem k64_1 : xM64.2.2.2.2.2[1]? = some ([0, 1, 2, 3], [.iload 3, .aload 0, .getfield 224, .if_icmp .ge 5, .goto_w 2]) := rfl
theorem k64_2 : xM64.2.2.2.2.2[2]? = some ([0, 1, 2, 3], [.aload 0, .getfield 230, .iload 3, .iaload, .iload 1, .if_icmp .le 4, .goto_w 3]) := rfl
theorem k64_3 : xM64.2.2.2.2.2[3]? = some ([0, 1, 2, 3], [.iinc 2 1, .goto_w 4]) := rfl
theorem k64_4 : xM64.2.2.2.2.2[4]? = some ([0, 1, 2, 3], [.iinc 3 1, .goto 1]) := rfl
theorem k64_5 : xM64.2.2.2.2.2[5]? = some ([2], [.iload 2, .ireturn]) := rfl
theorem k65_0 : xM65.2.2.2.2.2[0]? = some ([0, 1], [.iconst 0, .istore 2, .iconst 0, .istore 3, .goto_w 1]) := rfl
theorem k65_1 : xM65.2.2.2.2.2[1]? = some ([0, 1, 2, 3], [.iload 3, .aload 0, .getfield 224, .if_icmp .ge 5, .goto_w 2]) := rfl
theorem k65_2 : xM65.2.2.2.2.2[2]? = some ([0, 1, 2, 3], [.aload 0, .getfield 230, .iload 3, .iaload, .iload 1, .if_icmp .ge 4, .goto_w 3]) := rfl
theorem k65_3 : xM65.2.2.2.2.2[3]? = some ([0, 1, 2, 3], [.iinc 2 1, .goto_w 4]) := rfl
theorem k65_4 : xM65.2.2.2.2.2[4]? = some ([0, 1, 2, 3], [.iinc 3 1, .goto 1]) := rfl
theorem k65_5 : xM65.2.2.2.2.2[5]? = some ([2], [.iload 2, .ireturn]) := rfl
theorem k66_0 : xM66.2.2.2.2.2[0]? = some ([0, 1], [.iconst (-1), .istore 2, .iconst 0, .istore 3, .goto_w 1]) := rfl
theorem k66_1 : xM66.2.2.2.2.2[1]? = some ([0, 1, 2, 3], [.iload 3, .aload 0, .getfield 224, .if_icmp .ge 6, .goto_w 2]) := rfl
theorem k66_2 : xM66.2.2.2.2.2[2]? = some ([0, 1, 2, 3], [.aload 0, .getfield 230, .iload 3, .iaload, .iload 1, .isub, .invokestatic 384, .istore 4, .iload 2, .iconst (-1), .if_icmp .eq 4, .goto_w 3]) := rfl
theorem k66_3 : xM66.2.2.2.2.2[3]? = some ([0, 1, 2, 3, 4], [.iload 4, .iload 2, .if_icmp .ge 5, .goto_w 4]) := rfl
theorem k66_4 : xM66.2.2.2.2.2[4]? = some ([0, 1, 3, 4], [.iload 4, .istore 2, .goto_w 5]) := rfl
theorem k66_5 : xM66.2.2.2.2.2[5]? = some ([0, 1, 2, 3], [.iinc 3 1, .goto 1]) := rfl
theorem k66_6 : xM66.2.2.2.2.2[6]? = some ([2], [.iload 2, .ireturn]) := rfl
theorem k68_0 : xM68.2.2.2.2.2[0]? = some ([0, 1], [.aload 0, .aload 1, .getfield 256, .putfield 256, .aload 0, .aload 1, .getfield 257, .putfield 257, .aload 0, .aload 1, .getfield 258, .putfield 258, .aload 0, .aload 1, .getfield 259, .putfield 259, .aload 1, .getfield 260, .aload 0, .getfield 260, .invokestatic 172, .aload 1, .getfield 261, .aload 0, .getfield 261, .invokestatic 172, .aload 0, .getfield 262, .aload 1, .getfield 262, .invokevirtual 48, .aload 0, .getfield 263, .aload 1, .getfield 263, .invokevirtual 4, .aload 0, .getfield 264, .aload 1, .getfield 264, .invokevirtual 28, .return_]) := rfl
theorem k69_0 : xM69.2.2.2.2.2[0]? = some ([0], [.aload 0, .iconst 0, .putfield 256, .aload 0, .iconst 0, .putfield 257, .aload 0, .iconst 0, .putfield 258, .aload 0, .iconst 0, .putfield 259, .aload 0, .getfield 262, .iconst 0, .putfield 224, .aload 0, .getfield 263, .iconst 0, .putfield 32, .aload 0, .getfield 264, .iconst 0, .putfield 128, .iconst 0, .istore 1, .goto_w 1]) := rfl
theorem k69_1 : xM69.2.2.2.2.2[1]? = some ([0, 1], [.iload 1, .aload 0, .getfield 261, .arraylength, .if_icmp .ge 3, .goto_w 2]) := rfl
theorem k69_2 : xM69.2.2.2.2.2[2]? = some ([0, 1], [.aload 0, .getfield 261, .iload 1, .iconst (-1), .iastore, .iinc 1 1, .goto 1]) := rfl
theorem k69_3 : xM69.2.2.2.2.2[3]? = some ([], [.return_]) := rfl
theorem k70_0 : xM70.2.2.2.2.2[0]? = some ([0], [.aload 0, .dup, .getfield 256, .iconst 1, .iadd, .putfield 256, .aload 0, .invokevirtual 71, .aload 0, .getfield 262, .aload 0, .getfield 260, .iconst 0, .iaload, .aload 0, .getfield 260, .iconst 3, .iaload, .invokevirtual 54, .aload 0, .invokevirtual 72, .aload 0, .invokevirtual 73, .return_]) := rfl
theorem k71_0 : xM71.2.2.2.2.2[0]? = some ([0], [.iconst 0, .istore 1, .goto_w 1]) := rfl
theorem k71_1 : xM71.2.2.2.2.2[1]? = some ([0, 1], [.iload 1, .aload 0, .getfield 264, .getfield 128, .if_icmp .ge 9, .goto_w 2]) := rfl
theorem k71_2 : xM71.2.2.2.2.2[2]? = some ([0, 1], [.aload 0, .getfield 264, .getfield 129, .iload 1, .iaload, .aload 0, .getfield 256, .if_icmp .ne 8, .goto_w 3]) := rfl
theorem k71_3 : xM71.2.2.2.2.2[3]? = some ([0, 1], [.aload 0, .aload 0, .getfield 264, .getfield 130, .iload 1, .iaload, .invokevirtual 74, .istore 2, .aload 0, .getfield 264, .getfield 131, .iload 1, .iload 2, .ifCond .eq 5, .goto_w 4]) := rfl
theorem k71_4 : xM71.2.2.2.2.2[4]? = some ([0, 1, 2], [.iconst 1, .goto 6]) := rfl
theorem k71_5 : xM71.2.2.2.2.2[5]? = some ([0, 1, 2], [.iconst 2, .goto_w 6]) := rfl
theorem k71_6 : xM71.2.2.2.2.2[6]? = some ([0, 1, 2], [.iastore, .iload 2, .ifCond .eq 8, .goto_w 7]) := rfl
theorem k71_7 : xM71.2.2.2.2.2[7]? = some ([0, 1], [.aload 0, .aload 0, .getfield 264, .getfield 130, .iload 1, .iaload, .invokevirtual 75, .goto_w 8]) := rfl
theorem k71_8 : xM71.2.2.2.2.2[8]? = some ([0, 1], [.iinc 1 1, .goto 1]) := rfl
theorem k71_9 : xM71.2.2.2.2.2[9]? = some ([], [.return_]) := rfl
theorem k72_0 : xM72.2.2.2.2.2[0]? = some ([0], [.iconst 0, .istore 1, .goto_w 1]) := rfl
theorem k72_1 : xM72.2.2.2.2.2[1]? = some ([0, 1], [.iload 1, .aload 0, .getfield 262, .getfield 224, .if_icmp .ge 6, .goto_w 2]) := rfl
theorem k72_2 : xM72.2.2.2.2.2[2]? = some ([0, 1], [.aload 0, .getfield 262, .getfield 229, .iload 1, .iaload, .ifCond .eq 5, .goto_w 3]) := rfl
theorem k72_3 : xM72.2.2.2.2.2[3]? = some ([0, 1], [.aload 0, .getfield 262, .getfield 228, .iload 1, .iaload, .ifCond .ne 5, .goto_w 4]) := rfl
theorem k72_4 : xM72.2.2.2.2.2[4]? = some ([0, 1], [.aload 0, .iload 1, .invokevirtual 76, .goto_w 5]) := rfl
theorem k72_5 : xM72.2.2.2.2.2[5]? = some ([0, 1], [.iinc 1 1, .goto 1]) := rfl
theorem k72_6 : xM72.2.2.2.2.2[6]? = some ([], [.return_]) := rfl
theorem k73_0 : xM73.2.2.2.2.2[0]? = some ([0], [.iconst 0, .istore 1, .goto_w 1]) := rfl
theorem k73_1 : xM73.2.2.2.2.2[1]? = some ([0, 1], [.iload 1, .aload 0, .getfield 262, .getfield 224, .if_icmp .ge 6, .goto_w 2]) := rfl
theorem k73_2 : xM73.2.2.2.2.2[2]? = some ([0, 1], [.aload 0, .getfield 263, .getfield 32, .ifCond .le 5, .goto_w 3]) := rfl
theorem k73_3 : xM73.2.2.2.2.2[3]? = some ([0, 1], [.aload 0, .iload 1, .invokevirtual 77, .ifCond .eq 5, .goto_w 4]) := rfl
theorem k73_4 : xM73.2.2.2.2.2[4]? = some ([0, 1], [.aload 0, .iload 1, .aload 0, .getfield 263, .aload 0, .getfield 262, .getfield 231, .iload 1, .iaload, .aload 0, .getfield 262, .getfield 230, .iload 1, .iaload, .invokevirtual 8, .invokevirtual 78, .goto_w 5]) := rfl
theorem k73_5 : xM73.2.2.2.2.2[5]? = some ([0, 1], [.iinc 1 1, .goto 1]) := rfl
theorem k73_6 : xM73.2.2.2.2.2[6]? = some ([], [.return_]) := rfl
theorem k74_0 : xM74.2.2.2.2.2[0]? = some ([0, 1], [.iload 1, .ifCond .lt 6, .goto_w 1]) := rfl
theorem k74_1 : xM74.2.2.2.2.2[1]? = some ([0, 1], [.iload 1, .iconst 1, .iadd, .aload 0, .getfield 262, .getfield 224, .if_icmp .ge 6, .goto_w 2]) := rfl
theorem k74_2 : xM74.2.2.2.2.2[2]? = some ([0, 1], [.aload 0, .getfield 262, .iload 1, .iconst 1, .iadd, .invokevirtual 51, .aload 0, .getfield 260, .iconst 5, .iaload, .if_icmp .gt 6, .goto_w 3]) := rfl
theorem k74_3 : xM74.2.2.2.2.2[3]? = some ([0, 1], [.aload 0, .getfield 262, .getfield 228, .iload 1, .iaload, .iconst 1, .if_icmp .lt 6, .goto_w 4]) := rfl
theorem k74_4 : xM74.2.2.2.2.2[4]? = some ([0, 1], [.aload 0, .getfield 262, .getfield 228, .iload 1, .iconst 1, .iadd, .iaload, .iconst 1, .if_icmp .lt 6, .goto_w 5]) := rfl
theorem k74_5 : xM74.2.2.2.2.2[5]? = some ([], [.iconst 1, .goto 7]) := rfl
theorem k74_6 : xM74.2.2.2.2.2[6]? = some ([], [.iconst 0, .goto_w 7]) := rfl
theorem k74_7 : xM74.2.2.2.2.2[7]? = some ([], [.ireturn]) := rfl
theorem k75_0 : xM75.2.2.2.2.2[0]? = some ([0, 1], [.aload 0, .getfield 262, .iload 1, .invokevirtual 53, .aload 0, .getfield 262, .iload 1, .iconst (-2), .invokevirtual 52, .aload 0, .getfield 262, .iload 1, .iconst 1, .iadd, .iconst (-2), .invokevirtual 52, .aload 0, .dup, .getfield 257, .iconst 1, .iadd, .putfield 257, .return_]) := rfl
theorem k76_0 : xM76.2.2.2.2.2[0]? = some ([0, 1], [.aload 0, .getfield 263, .aload 0, .getfield 262, .getfield 229, .iload 1, .iaload, .aload 0, .getfield 262, .getfield 230, .iload 1, .iaload, .aload 0, .getfield 256, .invokevirtual 5, .aload 0, .getfield 262, .getfield 229, .iload 1, .iconst 0, .iastore, .aload 0, .dup, .getfield 258, .iconst 1, .iadd, .putfield 258, .return_]) := rfl
theorem k77_0 : xM77.2.2.2.2.2[0]? = some ([0, 1], [.aload 0, .getfield 262, .getfield 229, .iload 1, .iaload, .ifCond .ne 3, .goto_w 1]) := rfl
theorem k77_1 : xM77.2.2.2.2.2[1]? = some ([0, 1], [.aload 0, .getfield 262, .getfield 228, .iload 1, .iaload, .aload 0, .getfield 260, .iconst 4, .iaload, .if_icmp .lt 3, .goto_w 2]) := rfl
theorem k77_2 : xM77.2.2.2.2.2[2]? = some ([], [.iconst 1, .goto 4]) := rfl
theorem k77_3 : xM77.2.2.2.2.2[3]? = some ([], [.iconst 0, .goto_w 4]) := rfl
theorem k77_4 : xM77.2.2.2.2.2[4]? = some ([], [.ireturn]) := rfl
theorem k78_0 : xM78.2.2.2.2.2[0]? = some ([0, 1, 2], [.iload 2, .ifCond .lt 2, .goto_w 1]) := rfl
theorem k78_1 : xM78.2.2.2.2.2[1]? = some ([0, 1, 2], [.iload 2, .aload 0, .getfield 263, .getfield 32, .if_icmp .lt 3, .goto_w 2]) := rfl
theorem k78_2 : xM78.2.2.2.2.2[2]? = some ([], [.return_]) := rfl
theorem k78_3 : xM78.2.2.2.2.2[3]? = some ([0, 1, 2], [.aload 0, .getfield 262, .getfield 229, .iload 1, .aload 0, .getfield 263, .getfield 33, .iload 2, .iaload, .iastore, .aload 0, .getfield 263, .iload 2, .invokevirtual 6, .aload 0, .dup, .getfield 259, .iconst 1, .iadd, .putfield 259, .return_]) := rfl
theorem k79_0 : xM79.2.2.2.2.2[0]? = some ([0, 1, 2], [.aload 0, .getfield 262, .getfield 229, .iload 1, .iaload, .ifCond .eq 3, .goto_w 1]) := rfl
theorem k79_1 : xM79.2.2.2.2.2[1]? = some ([0, 1, 2], [.aload 0, .getfield 262, .getfield 230, .iload 1, .iaload, .iload 2, .isub, .invokestatic 384, .aload 0, .getfield 260, .iconst 1, .iaload, .if_icmp .gt 3, .goto_w 2]) := rfl
theorem k79_2 : xM79.2.2.2.2.2[2]? = some ([], [.iconst 1, .goto 4]) := rfl
theorem k79_3 : xM79.2.2.2.2.2[3]? = some ([], [.iconst 0, .goto_w 4]) := rfl
theorem k79_4 : xM79.2.2.2.2.2[4]? = some ([], [.ireturn]) := rfl
theorem k81_0 : xM81.2.2.2.2.2[0]? = some ([0, 1, 2, 3, 4, 5], [.aload 0, .getfield 289, .iconst 20, .iadd, .iconst 700, .if_icmp .le 2, .goto_w 1]) := rfl
theorem k81_1 : xM81.2.2.2.2.2[1]? = some ([], [.iconst (-1), .ireturn]) := rfl
theorem k81_2 : xM81.2.2.2.2.2[2]? = some ([0, 1, 2, 3, 4, 5], [.aload 0, .iload 1, .invokevirtual 82, .aload 0, .iload 2, .invokevirtual 82, .aload 0, .iload 3, .invokevirtual 82, .aload 0, .iload 4, .invokevirtual 82, .aload 0, .iload 5, .invokevirtual 82, .aload 0, .getfield 289, .ireturn]) := rfl
theorem k82_0 : xM82.2.2.2.2.2[0]? = some ([0, 1], [.iconst 24, .istore 2, .goto_w 1]) := rfl
theorem k82_1 : xM82.2.2.2.2.2[1]? = some ([0, 1, 2], [.iload 2, .ifCond .lt 4, .goto_w 2]) := rfl
theorem k82_2 : xM82.2.2.2.2.2[2]? = some ([0, 1, 2], [.aload 0, .getfield 289, .aload 0, .getfield 288, .arraylength, .if_icmp .ge 4, .goto_w 3]) := rfl
theorem k82_3 : xM82.2.2.2.2.2[3]? = some ([0, 1, 2], [.aload 0, .getfield 288, .aload 0, .getfield 289, .iload 1, .iload 2, .iushr, .iconst 255, .iand, .iastore, .aload 0, .dup, .getfield 289, .iconst 1, .iadd, .putfield 289, .iinc 2 (-8), .goto 1]) := rfl
theorem k82_4 : xM82.2.2.2.2.2[4]? = some ([], [.return_]) := rfl
theorem k83_0 : xM83.2.2.2.2.2[0]? = some ([0, 1], [.aload 0, .iconst 0, .iload 1, .aload 0, .getfield 288, .arraylength, .invokestatic 386, .invokestatic 385, .putfield 290, .aload 0, .iconst 0, .putfield 292, .return_]) := rfl
theorem k84_0 : xM84.2.2.2.2.2[0]? = some ([0], [.aload 0, .getfield 292, .aload 0, .getfield 290, .if_icmp .ge 3, .goto_w 1]) := rfl
theorem k84_1 : xM84.2.2.2.2.2[1]? = some ([0], [.aload 0, .getfield 288, .aload 0, .getfield 292, .iaload, .iconst 32, .if_icmp .ne 3, .goto_w 2]) := rfl
theorem k84_2 : xM84.2.2.2.2.2[2]? = some ([0], [.aload 0, .dup, .getfield 292, .iconst 1, .iadd, .putfield 292, .goto 0]) := rfl
theorem k84_3 : xM84.2.2.2.2.2[3]? = some ([0], [.aload 0, .aload 0, .getfield 292, .putfield 291, .aload 0, .getfield 291, .aload 0, .getfield 290, .if_icmp .lt 5, .goto_w 4]) := rfl
theorem k84_4 : xM84.2.2.2.2.2[4]? = some ([0], [.aload 0, .iconst 0, .putfield 293, .goto 15]) := rfl
theorem k84_5 : xM84.2.2.2.2.2[5]? = some ([0], [.aload 0, .getfield 288, .aload 0, .getfield 291, .iaload, .iconst 97, .if_icmp .lt 8, .goto_w 6]) := rfl
theorem k84_6 : xM84.2.2.2.2.2[6]? = some ([0], [.aload 0, .getfield 288, .aload 0, .getfield 291, .iaload, .iconst 122, .if_icmp .gt 8, .goto_w 7]) := rfl
theorem k84_7 : xM84.2.2.2.2.2[7]? = some ([0], [.aload 0, .invokevirtual 85, .goto 15]) := rfl
theorem k84_8 : xM84.2.2.2.2.2[8]? = some ([0], [.aload 0, .getfield 288, .aload 0, .getfield 291, .iaload, .iconst 48, .if_icmp .lt 11, .goto_w 9]) := rfl
theorem k84_9 : xM84.2.2.2.2.2[9]? = some ([0], [.aload 0, .getfield 288, .aload 0, .getfield 291, .iaload, .iconst 57, .if_icmp .gt 11, .goto_w 10]) := rfl
theorem k84_10 : xM84.2.2.2.2.2[10]? = some ([0], [.aload 0, .invokevirtual 86, .goto 15]) := rfl
theorem k84_11 : xM84.2.2.2.2.2[11]? = some ([0], [.aload 0, .aload 0, .getfield 288, .aload 0, .getfield 291, .iaload, .iconst 59, .if_icmp .ne 13, .goto_w 12]) := rfl
theorem k84_12 : xM84.2.2.2.2.2[12]? = some ([0], [.iconst 3, .goto 14]) := rfl
theorem k84_13 : xM84.2.2.2.2.2[13]? = some ([0], [.iconst 4, .goto_w 14]) := rfl
theorem k84_14 : xM84.2.2.2.2.2[14]? = some ([0], [.putfield 293, .aload 0, .dup, .getfield 292, .iconst 1, .iadd, .putfield 292, .goto_w 15]) := rfl
theorem k84_15 : xM84.2.2.2.2.2[15]? = some ([], [.return_]) := rfl
theorem k85_0 : xM85.2.2.2.2.2[0]? = some ([0], [.aload 0, .getfield 292, .aload 0, .getfield 290, .if_icmp .ge 4, .goto_w 1]) := rfl
theorem k85_1 : xM85.2.2.2.2.2[1]? = some ([0], [.aload 0, .getfield 288, .aload 0, .getfield 292, .iaload, .iconst 97, .if_icmp .lt 4, .goto_w 2]) := rfl
theorem k85_2 : xM85.2.2.2.2.2[2]? = some ([0], [.aload 0, .getfield 288, .aload 0, .getfield 292, .iaload, .iconst 122, .if_icmp .gt 4, .goto_w 3]) := rfl
theorem k85_3 : xM85.2.2.2.2.2[3]? = some ([0], [.aload 0, .dup, .getfield 292, .iconst 1, .iadd, .putfield 292, .goto 0]) := rfl
theorem k85_4 : xM85.2.2.2.2.2[4]? = some ([0], [.aload 0, .aload 0, .getfield 292, .aload 0, .getfield 291, .isub, .iconst 8, .if_icmp .gt 6, .goto_w 5]) := rfl
theorem k85_5 : xM85.2.2.2.2.2[5]? = some ([], [.iconst 1, .goto 7]) := rfl
theorem k85_6 : xM85.2.2.2.2.2[6]? = some ([], [.iconst 4, .goto_w 7]) := rfl
theorem k85_7 : xM85.2.2.2.2.2[7]? = some ([], [.putfield 293, .return_]) := rfl
theorem k86_0 : xM86.2.2.2.2.2[0]? = some ([0], [.aload 0, .iconst 0, .putfield 294, .goto_w 1]) := rfl
theorem k86_1 : xM86.2.2.2.2.2[1]? = some ([0], [.aload 0, .getfield 292, .aload 0, .getfield 290, .if_icmp .ge 5, .goto_w 2]) := rfl
theorem k86_2 : xM86.2.2.2.2.2[2]? = some ([0], [.aload 0, .getfield 288, .aload 0, .getfield 292, .iaload, .iconst 48, .if_icmp .lt 5, .goto_w 3]) := rfl
theorem k86_3 : xM86.2.2.2.2.2[3]? = some ([0], [.aload 0, .getfield 288, .aload 0, .getfield 292, .iaload, .iconst 57, .if_icmp .gt 5, .goto_w 4]) := rfl
theorem k86_4 : xM86.2.2.2.2.2[4]? = some ([0], [.aload 0, .aload 0, .getfield 294, .iconst 10, .imul, .aload 0, .getfield 288, .aload 0, .getfield 292, .iaload, .iadd, .iconst 48, .isub, .putfield 294, .aload 0, .dup, .getfield 292, .iconst 1, .iadd, .putfield 292, .goto 1]) := rfl
theorem k86_5 : xM86.2.2.2.2.2[5]? = some ([0], [.aload 0, .aload 0, .getfield 292, .aload 0, .getfield 291, .isub, .iconst 4, .if_icmp .gt 7, .goto_w 6]) := rfl
theorem k86_6 : xM86.2.2.2.2.2[6]? = some ([], [.iconst 2, .goto 8]) := rfl
theorem k86_7 : xM86.2.2.2.2.2[7]? = some ([], [.iconst 4, .goto_w 8]) := rfl
theorem k86_8 : xM86.2.2.2.2.2[8]? = some ([], [.putfield 293, .return_]) := rfl
theorem k87_0 : xM87.2.2.2.2.2[0]? = some ([0], [.aload 0, .getfield 293, .iconst 1, .if_icmp .ne 2, .goto_w 1]) := rfl
theorem k87_1 : xM87.2.2.2.2.2[1]? = some ([0], [.aload 0, .getfield 292, .aload 0, .getfield 291, .isub, .goto 3]) := rfl
theorem k87_2 : xM87.2.2.2.2.2[2]? = some ([], [.iconst 0, .goto_w 3]) := rfl
theorem k87_3 : xM87.2.2.2.2.2[3]? = some ([], [.ireturn]) := rfl
theorem k88_0 : xM88.2.2.2.2.2[0]? = some ([0, 1], [.aload 0, .getfield 291, .iload 1, .iadd, .istore 2, .iload 1, .ifCond .lt 5, .goto_w 1]) := rfl
theorem k88_1 : xM88.2.2.2.2.2[1]? = some ([0, 2], [.iload 2, .ifCond .lt 5, .goto_w 2]) := rfl
theorem k88_2 : xM88.2.2.2.2.2[2]? = some ([0, 2], [.iload 2, .aload 0, .getfield 292, .if_icmp .ge 5, .goto_w 3]) := rfl
theorem k88_3 : xM88.2.2.2.2.2[3]? = some ([0, 2], [.iload 2, .aload 0, .getfield 288, .arraylength, .if_icmp .ge 5, .goto_w 4]) := rfl
theorem k88_4 : xM88.2.2.2.2.2[4]? = some ([0, 2], [.aload 0, .getfield 288, .iload 2, .iaload, .goto 6]) := rfl
theorem k88_5 : xM88.2.2.2.2.2[5]? = some ([], [.iconst (-1), .goto_w 6]) := rfl
theorem k88_6 : xM88.2.2.2.2.2[6]? = some ([], [.ireturn]) := rfl
theorem k89_0 : xM89.2.2.2.2.2[0]? = some ([0, 1], [.aload 0, .invokevirtual 87, .aload 1, .invokevirtual 391, .if_icmp .eq 2, .goto_w 1]) := rfl
theorem k89_1 : xM89.2.2.2.2.2[1]? = some ([], [.iconst 0, .ireturn]) := rfl
theorem k89_2 : xM89.2.2.2.2.2[2]? = some ([0, 1], [.iconst 0, .istore 2, .goto_w 3]) := rfl
theorem k89_3 : xM89.2.2.2.2.2[3]? = some ([0, 1, 2], [.iload 2, .aload 1, .invokevirtual 391, .if_icmp .ge 7, .goto_w 4]) := rfl
theorem k89_4 : xM89.2.2.2.2.2[4]? = some ([0, 1, 2], [.aload 0, .iload 2, .invokevirtual 88, .aload 1, .iload 2, .invokevirtual 392, .if_icmp .eq 6, .goto_w 5]) := rfl
theorem k89_5 : xM89.2.2.2.2.2[5]? = some ([], [.iconst 0, .ireturn]) := rfl
theorem k89_6 : xM89.2.2.2.2.2[6]? = some ([0, 1, 2], [.iinc 2 1, .goto 3]) := rfl
theorem k89_7 : xM89.2.2.2.2.2[7]? = some ([], [.iconst 1, .ireturn]) := rfl
theorem k91_0 : xM91.2.2.2.2.2[0]? = some ([0, 1, 2, 3, 4, 5], [.aload 0, .getfield 320, .getfield 96, .iload 1, .iload 2, .iload 3, .iload 4, .iload 5, .invokevirtual 81, .ireturn]) := rfl
theorem k92_0 : xM92.2.2.2.2.2[0]? = some ([0, 1], [.iload 1, .ifCond .lt 2, .goto_w 1]) := rfl
theorem k92_1 : xM92.2.2.2.2.2[1]? = some ([0, 1], [.iload 1, .aload 0, .getfield 320, .getfield 96, .getfield 289, .if_icmp .le 3, .goto_w 2]) := rfl
theorem k92_2 : xM92.2.2.2.2.2[2]? = some ([], [.checkcast 2]) := rfl
theorem k92_3 : xM92.2.2.2.2.2[3]? = some ([0, 1], [.aload 0, .getfield 320, .iload 1, .invokevirtual 19, .istore 2, .aload 0, .getfield 320, .getfield 96, .iconst 0, .putfield 289, .iload 2, .invokestatic 160, .aload 0, .getfield 321, .aload 0, .getfield 320, .getfield 97, .invokevirtual 68, .aload 0, .getfield 323, .aload 0, .getfield 320, .getfield 98, .invokevirtual 42, .aload 0, .getfield 324, .invokevirtual 11, .aload 0, .getfield 324, .invokevirtual 12, .aload 0, .iconst 1, .putfield 327, .aload 0, .getfield 321, .getfield 262, .getfield 224, .ireturn]) := rfl
theorem k93_0 : xM93.2.2.2.2.2[0]? = some ([0], [.aload 0, .getfield 320, .getfield 99, .ireturn]) := rfl
theorem k94_0 : xM94.2.2.2.2.2[0]? = some ([0], [.aload 0, .getfield 320, .getfield 100, .ireturn]) := rfl
theorem k95_0 : xM95.2.2.2.2.2[0]? = some ([0], [.aload 0, .getfield 320, .getfield 96, .getfield 289, .ireturn]) := rfl
theorem k96_0 : xM96.2.2.2.2.2[0]? = some ([0, 1], [.aload 0, .invokevirtual 155, .iload 1, .iconst 0, .iconst 16, .invokestatic 159, .iload 1, .tableswitch 17 0 15 #[1, 2, 3, 4, 5, 6, 7, 8, 9, 10, 11, 12, 13, 14, 15, 16]]) := rfl
theorem k96_1 : xM96.2.2.2.2.2[1]? = some ([0], [.aload 0, .getfield 321, .getfield 262, .getfield 224, .ireturn]) := rfl
theorem k96_2 : xM96.2.2.2.2.2[2]? = some ([0], [.aload 0, .getfield 323, .getfield 192, .ireturn]) := rfl
theorem k96_3 : xM96.2.2.2.2.2[3]? = some ([0], [.aload 0, .getfield 321, .getfield 264, .getfield 128, .ireturn]) := rfl
theorem k96_4 : xM96.2.2.2.2.2[4]? = some ([0], [.aload 0, .getfield 321, .getfield 256, .ireturn]) := rfl
theorem k96_5 : xM96.2.2.2.2.2[5]? = some ([0], [.aload 0, .getfield 321, .getfield 262, .invokevirtual 55, .ireturn]) := rfl
theorem k96_6 : xM96.2.2.2.2.2[6]? = some ([0], [.aload 0, .getfield 321, .getfield 263, .getfield 32, .ireturn]) := rfl
theorem k96_7 : xM96.2.2.2.2.2[7]? = some ([0], [.aload 0, .getfield 321, .getfield 257, .ireturn]) := rfl
theorem k96_8 : xM96.2.2.2.2.2[8]? = some ([0], [.aload 0, .getfield 321, .getfield 264, .iconst 2, .invokevirtual 30, .ireturn]) := rfl
theorem k96_9 : xM96.2.2.2.2.2[9]? = some ([0], [.aload 0, .getfield 321, .getfield 258, .ireturn]) := rfl
theorem k96_10 : xM96.2.2.2.2.2[10]? = some ([0], [.aload 0, .getfield 321, .getfield 259, .ireturn]) := rfl
theorem k96_11 : xM96.2.2.2.2.2[11]? = some ([0], [.aload 0, .invokevirtual 166, .invokestatic 383, .ireturn]) := rfl
theorem k96_12 : xM96.2.2.2.2.2[12]? = some ([0], [.aload 0, .getfield 321, .getfield 264, .iconst 0, .invokevirtual 30, .ireturn]) := rfl
theorem k96_13 : xM96.2.2.2.2.2[13]? = some ([0], [.aload 0, .getfield 321, .getfield 262, .iconst 0, .invokevirtual 62, .invokestatic 383, .ireturn]) := rfl
theorem k96_14 : xM96.2.2.2.2.2[14]? = some ([0], [.aload 0, .getfield 321, .getfield 262, .invokevirtual 57, .ireturn]) := rfl
theorem k96_15 : xM96.2.2.2.2.2[15]? = some ([0], [.aload 0, .getfield 321, .getfield 262, .aload 0, .getfield 321, .getfield 260, .iconst 0, .iaload, .invokevirtual 58, .ireturn]) := rfl
theorem k96_16 : xM96.2.2.2.2.2[16]? = some ([0], [.aload 0, .getfield 321, .getfield 262, .invokevirtual 59, .ireturn]) := rfl
theorem k96_17 : xM96.2.2.2.2.2[17]? = some ([0], [.aload 0, .invokevirtual 167, .ireturn]) := rfl
theorem k97_0 : xM97.2.2.2.2.2[0]? = some ([0, 1], [.aload 0, .invokevirtual 155, .iload 1, .iconst 0, .iconst 5, .invokestatic 159, .aload 0, .getfield 321, .getfield 260, .iload 1, .iaload, .ireturn]) := rfl
theorem k98_0 : xM98.2.2.2.2.2[0]? = some ([0, 1, 2], [.aload 0, .invokevirtual 155, .aload 0, .iload 1, .invokevirtual 156, .iload 2, .iconst 0, .iconst 12, .invokestatic 159, .aload 0, .getfield 321, .getfield 262, .astore 3, .iload 2, .tableswitch 13 0 11 #[1, 2, 3, 4, 5, 6, 7, 8, 9, 10, 11, 12]]) := rfl
theorem k98_1 : xM98.2.2.2.2.2[1]? = some ([1, 3], [.aload 3, .getfield 229, .iload 1, .iaload, .ireturn]) := rfl
theorem k98_2 : xM98.2.2.2.2.2[2]? = some ([1, 3], [.aload 3, .getfield 230, .iload 1, .iaload, .ireturn]) := rfl
theorem k98_3 : xM98.2.2.2.2.2[3]? = some ([1, 3], [.aload 3, .getfield 226, .iload 1, .iaload, .ireturn]) := rfl
theorem k98_4 : xM98.2.2.2.2.2[4]? = some ([1, 3], [.aload 3, .getfield 227, .iload 1, .iaload, .ireturn]) := rfl
theorem k98_5 : xM98.2.2.2.2.2[5]? = some ([1, 3], [.aload 3, .getfield 228, .iload 1, .iaload, .ireturn]) := rfl
theorem k98_6 : xM98.2.2.2.2.2[6]? = some ([1, 3], [.aload 3, .iload 1, .invokevirtual 50, .ireturn]) := rfl
theorem k98_7 : xM98.2.2.2.2.2[7]? = some ([1, 3], [.aload 3, .iload 1, .invokevirtual 51, .ireturn]) := rfl
theorem k98_8 : xM98.2.2.2.2.2[8]? = some ([1, 3], [.aload 3, .getfield 232, .iload 1, .iaload, .ireturn]) := rfl
theorem k98_9 : xM98.2.2.2.2.2[9]? = some ([1, 3], [.aload 3, .getfield 225, .iload 1, .iaload, .ireturn]) := rfl
theorem k98_10 : xM98.2.2.2.2.2[10]? = some ([0, 1], [.aload 0, .iload 1, .invokevirtual 168, .ireturn]) := rfl
theorem k98_11 : xM98.2.2.2.2.2[11]? = some ([1, 3], [.aload 3, .getfield 230, .iconst 0, .iaload, .aload 3, .getfield 230, .iload 1, .iaload, .isub, .ireturn]) := rfl
theorem k98_12 : xM98.2.2.2.2.2[12]? = some ([1, 3], [.aload 3, .aload 3, .getfield 228, .iload 1, .iaload, .invokevirtual 63, .ireturn]) := rfl
theorem k98_13 : xM98.2.2.2.2.2[13]? = some ([0, 1, 3], [.aload 0, .getfield 321, .getfield 263, .aload 3, .getfield 230, .iload 1, .iaload, .aload 3, .getfield 230, .iload 1, .iaload, .invokevirtual 7, .ifCond .le 15, .goto_w 14]) := rfl
theorem k98_14 : xM98.2.2.2.2.2[14]? = some ([], [.iconst 1, .goto 16]) := rfl
theorem k98_15 : xM98.2.2.2.2.2[15]? = some ([], [.iconst 0, .goto_w 16]) := rfl
theorem k98_16 : xM98.2.2.2.2.2[16]? = some ([], [.ireturn]) := rfl
theorem k99_0 : xM99.2.2.2.2.2[0]? = some ([0, 1, 2], [.aload 0, .invokevirtual 155, .aload 0, .iload 1, .invokevirtual 157, .iload 2, .iconst 0, .iconst 8, .invokestatic 159, .aload 0, .getfield 321, .getfield 260, .iconst 1, .iaload, .istore 3, .iload 2, .tableswitch 9 0 7 #[1, 2, 3, 4, 5, 6, 7, 8]]) := rfl
theorem k99_1 : xM99.2.2.2.2.2[1]? = some ([0, 1], [.aload 0, .getfield 323, .getfield 193, .iload 1, .iaload, .ireturn]) := rfl
theorem k99_2 : xM99.2.2.2.2.2[2]? = some ([0, 1], [.aload 0, .getfield 323, .getfield 194, .iload 1, .iaload, .ireturn]) := rfl
theorem k99_3 : xM99.2.2.2.2.2[3]? = some ([0, 1], [.aload 0, .getfield 323, .getfield 195, .iload 1, .iaload, .ireturn]) := rfl
theorem k99_4 : xM99.2.2.2.2.2[4]? = some ([0, 1], [.aload 0, .getfield 321, .getfield 261, .iload 1, .iaload, .ireturn]) := rfl
theorem k99_5 : xM99.2.2.2.2.2[5]? = some ([0, 1], [.aload 0, .iload 1, .invokevirtual 169, .invokestatic 383, .ireturn]) := rfl
theorem k99_6 : xM99.2.2.2.2.2[6]? = some ([0, 1], [.aload 0, .iload 1, .invokevirtual 161, .getfield 160, .ireturn]) := rfl
theorem k99_7 : xM99.2.2.2.2.2[7]? = some ([0, 1], [.aload 0, .getfield 321, .getfield 262, .aload 0, .getfield 323, .getfield 194, .iload 1, .iaload, .invokevirtual 66, .ireturn]) := rfl
theorem k99_8 : xM99.2.2.2.2.2[8]? = some ([0, 1, 3], [.aload 0, .getfield 321, .getfield 262, .aload 0, .getfield 323, .getfield 194, .iload 1, .iaload, .iload 3, .iadd, .invokevirtual 64, .ireturn]) := rfl
theorem k99_9 : xM99.2.2.2.2.2[9]? = some ([0, 1, 3], [.aload 0, .getfield 321, .getfield 262, .aload 0, .getfield 323, .getfield 194, .iload 1, .iaload, .iload 3, .isub, .invokevirtual 65, .ireturn]) := rfl
theorem k100_0 : xM100.2.2.2.2.2[0]? = some ([0, 1, 2], [.aload 0, .invokevirtual 155, .aload 0, .getfield 321, .getfield 264, .astore 3, .iload 1, .aload 3, .getfield 128, .invokestatic 158, .iload 2, .iconst 0, .iconst 3, .invokestatic 159, .iload 2, .tableswitch 4 0 2 #[1, 2, 3]]) := rfl
theorem k100_1 : xM100.2.2.2.2.2[1]? = some ([1, 3], [.aload 3, .getfield 129, .iload 1, .iaload, .ireturn]) := rfl
theorem k100_2 : xM100.2.2.2.2.2[2]? = some ([1, 3], [.aload 3, .getfield 130, .iload 1, .iaload, .ireturn]) := rfl
theorem k100_3 : xM100.2.2.2.2.2[3]? = some ([1, 3], [.aload 3, .getfield 131, .iload 1, .iaload, .ireturn]) := rfl
theorem k100_4 : xM100.2.2.2.2.2[4]? = some ([0, 1, 3], [.aload 3, .getfield 131, .iload 1, .iaload, .ifCond .ne 6, .goto_w 5]) := rfl
theorem k100_5 : xM100.2.2.2.2.2[5]? = some ([0, 1, 3], [.aload 3, .getfield 129, .iload 1, .iaload, .aload 0, .getfield 321, .getfield 256, .isub, .goto 7]) := rfl
theorem k100_6 : xM100.2.2.2.2.2[6]? = some ([], [.iconst (-1), .goto_w 7]) := rfl
theorem k100_7 : xM100.2.2.2.2.2[7]? = some ([], [.ireturn]) := rfl
theorem k101_0 : xM101.2.2.2.2.2[0]? = some ([0, 1, 2], [.aload 0, .invokevirtual 155, .aload 0, .getfield 321, .getfield 263, .astore 3, .iload 1, .aload 3, .getfield 32, .invokestatic 158, .iload 2, .iconst 0, .iconst 2, .invokestatic 159, .iload 2, .lookupswitch 3 #[(0, 1), (1, 2)]]) := rfl
theorem k101_1 : xM101.2.2.2.2.2[1]? = some ([1, 3], [.aload 3, .getfield 33, .iload 1, .iaload, .ireturn]) := rfl
theorem k101_2 : xM101.2.2.2.2.2[2]? = some ([1, 3], [.aload 3, .getfield 34, .iload 1, .iaload, .ireturn]) := rfl
theorem k101_3 : xM101.2.2.2.2.2[3]? = some ([1, 3], [.aload 3, .getfield 35, .iload 1, .iaload, .ireturn]) := rfl
theorem k102_0 : xM102.2.2.2.2.2[0]? = some ([0, 1, 2], [.aload 0, .invokevirtual 155, .aload 0, .iload 1, .invokevirtual 157, .aload 0, .getfield 323, .iload 1, .iload 2, .invokevirtual 45, .ireturn]) := rfl
theorem k103_0 : xM103.2.2.2.2.2[0]? = some ([0, 1, 2], [.aload 0, .invokevirtual 155, .aload 0, .iload 1, .invokevirtual 157, .aload 0, .iload 1, .invokevirtual 161, .iload 2, .invokevirtual 35, .ireturn]) := rfl
theorem k104_0 : xM104.2.2.2.2.2[0]? = some ([0, 1], [.aload 0, .invokevirtual 155, .aload 0, .iload 1, .invokevirtual 157, .aload 0, .iload 1, .invokevirtual 169, .ireturn]) := rfl
theorem k105_0 : xM105.2.2.2.2.2[0]? = some ([0, 1], [.aload 0, .invokevirtual 155, .aload 0, .iload 1, .invokevirtual 157, .aload 0, .iload 1, .invokevirtual 161, .aload 0, .getfield 323, .iload 1, .invokevirtual 37, .ireturn]) := rfl
theorem k106_0 : xM106.2.2.2.2.2[0]? = some ([0, 1], [.aload 0, .invokevirtual 155, .aload 0, .iload 1, .invokevirtual 157, .aload 0, .iload 1, .invokevirtual 161, .aload 0, .getfield 323, .iload 1, .invokevirtual 39, .ireturn]) := rfl
theorem k107_0 : xM107.2.2.2.2.2[0]? = some ([0, 1], [.aload 0, .invokevirtual 155, .aload 0, .iload 1, .invokevirtual 157, .aload 0, .iload 1, .invokevirtual 161, .aload 0, .getfield 323, .iload 1, .invokevirtual 40, .freturn]) := rfl
theorem k108_0 : xM108.2.2.2.2.2[0]? = some ([0, 1], [.aload 0, .invokevirtual 155, .aload 0, .iload 1, .invokevirtual 157, .aload 0, .iload 1, .invokevirtual 161, .aload 0, .getfield 323, .iload 1, .invokevirtual 40, .invokestatic 170, .ireturn]) := rfl
theorem k109_0 : xM109.2.2.2.2.2[0]? = some ([0, 1], [.aload 0, .invokevirtual 155, .aload 0, .iload 1, .invokevirtual 157, .iconst 0, .istore 2, .iconst 1, .istore 3, .goto_w 1]) := rfl
theorem k109_1 : xM109.2.2.2.2.2[1]? = some ([0, 1, 2, 3], [.iload 3, .iconst 26, .if_icmp .gt 3, .goto_w 2]) := rfl
theorem k109_2 : xM109.2.2.2.2.2[2]? = some ([0, 1, 2, 3], [.iload 2, .iconst 0, .aload 0, .getfield 323, .iload 1, .iload 3, .invokevirtual 46, .aload 0, .getfield 321, .getfield 262, .iload 3, .invokevirtual 56, .isub, .invokestatic 385, .iadd, .istore 2, .iinc 3 1, .goto 1]) := rfl
theorem k109_3 : xM109.2.2.2.2.2[3]? = some ([2], [.iload 2, .ireturn]) := rfl
theorem k110_0 : xM110.2.2.2.2.2[0]? = some ([0, 1, 2], [.aload 0, .invokevirtual 155, .aload 0, .iload 1, .invokevirtual 157, .aload 0, .iload 1, .invokevirtual 161, .iload 2, .invokevirtual 36, .ireturn]) := rfl
theorem k111_0 : xM111.2.2.2.2.2[0]? = some ([0, 1], [.aload 0, .invokevirtual 155, .aload 0, .iload 1, .invokevirtual 157, .aload 0, .iload 1, .invokevirtual 161, .astore 2, .aload 2, .getfield 160, .aload 2, .getfield 161, .isub, .ireturn]) := rfl
theorem k112_0 : xM112.2.2.2.2.2[0]? = some ([0, 1], [.aload 0, .invokevirtual 155, .aload 0, .iload 1, .invokevirtual 157, .aload 0, .iload 1, .invokevirtual 161, .aload 0, .getfield 323, .iload 1, .invokevirtual 38, .ireturn]) := rfl
theorem k113_0 : xM113.2.2.2.2.2[0]? = some ([0, 1], [.aload 0, .invokevirtual 155, .iload 1, .iconst 1, .iconst 26, .invokestatic 159, .iconst 0, .istore 2, .goto_w 1]) := rfl
theorem k113_1 : xM113.2.2.2.2.2[1]? = some ([0, 1, 2], [.iload 2, .aload 0, .getfield 321, .getfield 262, .getfield 224, .if_icmp .ge 5, .goto_w 2]) := rfl
theorem k113_2 : xM113.2.2.2.2.2[2]? = some ([0, 1, 2], [.aload 0, .getfield 321, .getfield 262, .getfield 229, .iload 2, .iaload, .iload 1, .if_icmp .ne 4, .goto_w 3]) := rfl
theorem k113_3 : xM113.2.2.2.2.2[3]? = some ([2], [.iload 2, .ireturn]) := rfl
theorem k113_4 : xM113.2.2.2.2.2[4]? = some ([0, 1, 2], [.iinc 2 1, .goto 1]) := rfl
theorem k113_5 : xM113.2.2.2.2.2[5]? = some ([], [.iconst (-1), .ireturn]) := rfl
theorem k114_0 : xM114.2.2.2.2.2[0]? = some ([0, 1], [.aload 0, .invokevirtual 155, .iload 1, .iconst 1, .iconst 26, .invokestatic 159, .aload 0, .getfield 321, .getfield 262, .iload 1, .invokevirtual 56, .aload 0, .getfield 321, .getfield 263, .iload 1, .invokevirtual 9, .iadd, .ireturn]) := rfl
theorem k115_0 : xM115.2.2.2.2.2[0]? = some ([0, 1], [.aload 0, .invokevirtual 155, .iload 1, .iconst 0, .iconst 100, .invokestatic 159, .aload 0, .getfield 321, .getfield 262, .iload 1, .invokevirtual 62, .ireturn]) := rfl
theorem k116_0 : xM116.2.2.2.2.2[0]? = some ([0], [.aload 0, .invokevirtual 155, .iconst 0, .istore 1, .iconst 0, .istore 2, .goto_w 1]) := rfl
theorem k116_1 : xM116.2.2.2.2.2[1]? = some ([0, 1, 2], [.iload 2, .aload 0, .getfield 321, .getfield 262, .getfield 224, .if_icmp .ge 5, .goto_w 2]) := rfl
theorem k116_2 : xM116.2.2.2.2.2[2]? = some ([0, 1, 2], [.aload 0, .getfield 321, .iload 2, .invokevirtual 74, .ifCond .eq 4, .goto_w 3]) := rfl
theorem k116_3 : xM116.2.2.2.2.2[3]? = some ([0, 1, 2], [.iload 1, .iconst 1, .iload 2, .ishl, .ior, .istore 1, .goto_w 4]) := rfl
theorem k116_4 : xM116.2.2.2.2.2[4]? = some ([0, 1, 2], [.iinc 2 1, .goto 1]) := rfl
theorem k116_5 : xM116.2.2.2.2.2[5]? = some ([1], [.iload 1, .ireturn]) := rfl
theorem k117_0 : xM117.2.2.2.2.2[0]? = some ([0], [.aload 0, .invokevirtual 155, .aload 0, .getfield 321, .getfield 264, .invokevirtual 31, .ireturn]) := rfl
theorem k118_0 : xM118.2.2.2.2.2[0]? = some ([0, 1, 2], [.aload 0, .invokevirtual 155, .aload 0, .getfield 321, .getfield 263, .iload 1, .iload 2, .invokevirtual 7, .ireturn]) := rfl
theorem k119_0 : xM119.2.2.2.2.2[0]? = some ([0], [.aload 0, .invokevirtual 155, .iconst (-1), .istore 1, .ldc_w 3212836864, .fstore 2, .iconst 0, .istore 3, .goto_w 1]) := rfl
theorem k119_1 : xM119.2.2.2.2.2[1]? = some ([0, 1, 2, 3], [.iload 3, .aload 0, .getfield 323, .getfield 192, .if_icmp .ge 5, .goto_w 2]) := rfl
theorem k119_2 : xM119.2.2.2.2.2[2]? = some ([0, 1, 2, 3], [.aload 0, .iload 3, .invokevirtual 161, .aload 0, .getfield 323, .iload 3, .invokevirtual 40, .fstore 4, .fload 4, .fload 2, .fcmp .l, .ifCond .le 4, .goto_w 3]) := rfl
theorem k119_3 : xM119.2.2.2.2.2[3]? = some ([0, 3, 4], [.iload 3, .istore 1, .fload 4, .fstore 2, .goto_w 4]) := rfl
theorem k119_4 : xM119.2.2.2.2.2[4]? = some ([0, 1, 2, 3], [.iinc 3 1, .goto 1]) := rfl
theorem k119_5 : xM119.2.2.2.2.2[5]? = some ([1], [.iload 1, .ireturn]) := rfl
theorem k120_0 : xM120.2.2.2.2.2[0]? = some ([0], [.aload 0, .invokevirtual 155, .aload 0, .invokevirtual 166, .ireturn]) := rfl
theorem k121_0 : xM121.2.2.2.2.2[0]? = some ([0], [.aload 0, .invokevirtual 155, .iconst (-1), .istore 1, .iconst 0, .istore 2, .goto_w 1]) := rfl
theorem k121_1 : xM121.2.2.2.2.2[1]? = some ([0, 1, 2], [.iload 2, .aload 0, .getfield 321, .getfield 262, .getfield 224, .if_icmp .ge 6, .goto_w 2]) := rfl
theorem k121_2 : xM121.2.2.2.2.2[2]? = some ([0, 1, 2], [.iload 1, .iconst (-1), .if_icmp .eq 4, .goto_w 3]) := rfl
theorem k121_3 : xM121.2.2.2.2.2[3]? = some ([0, 1, 2], [.aload 0, .getfield 321, .getfield 262, .getfield 228, .iload 2, .iaload, .aload 0, .getfield 321, .getfield 262, .getfield 228, .iload 1, .iaload, .if_icmp .ge 5, .goto_w 4]) := rfl
theorem k121_4 : xM121.2.2.2.2.2[4]? = some ([0, 2], [.iload 2, .istore 1, .goto_w 5]) := rfl
theorem k121_5 : xM121.2.2.2.2.2[5]? = some ([0, 1, 2], [.iinc 2 1, .goto 1]) := rfl
theorem k121_6 : xM121.2.2.2.2.2[6]? = some ([1], [.iload 1, .ireturn]) := rfl
theorem k122_0 : xM122.2.2.2.2.2[0]? = some ([0], [.aload 0, .invokevirtual 155, .iconst (-1), .istore 1, .iconst 1, .istore 2, .goto_w 1]) := rfl
theorem k122_1 : xM122.2.2.2.2.2[1]? = some ([0, 1, 2], [.iload 2, .aload 0, .getfield 321, .getfield 262, .getfield 224, .if_icmp .ge 6, .goto_w 2]) := rfl
theorem k122_2 : xM122.2.2.2.2.2[2]? = some ([0, 1, 2], [.iload 1, .iconst (-1), .if_icmp .eq 4, .goto_w 3]) := rfl
theorem k122_3 : xM122.2.2.2.2.2[3]? = some ([0, 1, 2], [.aload 0, .getfield 321, .getfield 262, .iload 2, .invokevirtual 51, .aload 0, .getfield 321, .getfield 262, .iload 1, .invokevirtual 51, .if_icmp .le 5, .goto_w 4]) := rfl
theorem k122_4 : xM122.2.2.2.2.2[4]? = some ([0, 2], [.iload 2, .istore 1, .goto_w 5]) := rfl
theorem k122_5 : xM122.2.2.2.2.2[5]? = some ([0, 1, 2], [.iinc 2 1, .goto 1]) := rfl
theorem k122_6 : xM122.2.2.2.2.2[6]? = some ([1], [.iload 1, .ireturn]) := rfl
theorem k123_0 : xM123.2.2.2.2.2[0]? = some ([0], [.aload 0, .invokevirtual 155, .aload 0, .getfield 321, .getfield 262, .astore 1, .aload 1, .getfield 224, .iconst 2, .if_icmp .ge 2, .goto_w 1]) := rfl
theorem k123_1 : xM123.2.2.2.2.2[1]? = some ([], [.iconst 0, .goto 3]) := rfl
theorem k123_2 : xM123.2.2.2.2.2[2]? = some ([1], [.aload 1, .getfield 230, .iconst 0, .iaload, .aload 1, .getfield 230, .aload 1, .getfield 224, .iconst 1, .isub, .iaload, .isub, .goto_w 3]) := rfl
theorem k123_3 : xM123.2.2.2.2.2[3]? = some ([], [.ireturn]) := rfl
theorem k124_0 : xM124.2.2.2.2.2[0]? = some ([0], [.aload 0, .invokevirtual 155, .aload 0, .getfield 321, .getfield 262, .invokevirtual 61, .dreturn]) := rfl
theorem k125_0 : xM125.2.2.2.2.2[0]? = some ([0], [.aload 0, .invokevirtual 155, .aload 0, .getfield 321, .getfield 262, .invokevirtual 61, .invokestatic 171, .lreturn]) := rfl
theorem k126_0 : xM126.2.2.2.2.2[0]? = some ([0, 1], [.aload 0, .invokevirtual 155, .aload 0, .iload 1, .invokevirtual 157, .aload 0, .getfield 322, .aload 0, .getfield 321, .invokevirtual 68, .iconst 0, .istore 2, .goto_w 1]) := rfl
theorem k126_1 : xM126.2.2.2.2.2[1]? = some ([0, 1, 2], [.iload 2, .iconst 300, .if_icmp .ge 5, .goto_w 2]) := rfl
theorem k126_2 : xM126.2.2.2.2.2[2]? = some ([0, 1, 2], [.aload 0, .iload 1, .invokevirtual 162, .aload 0, .getfield 323, .iload 1, .invokevirtual 39, .ifCond .eq 4, .goto_w 3]) := rfl
theorem k126_3 : xM126.2.2.2.2.2[3]? = some ([2], [.iload 2, .ireturn]) := rfl
theorem k126_4 : xM126.2.2.2.2.2[4]? = some ([0, 1, 2], [.aload 0, .getfield 322, .invokevirtual 70, .iinc 2 1, .goto 1]) := rfl
theorem k126_5 : xM126.2.2.2.2.2[5]? = some ([0, 1], [.aload 0, .iload 1, .invokevirtual 162, .aload 0, .getfield 323, .iload 1, .invokevirtual 39, .ifCond .eq 7, .goto_w 6]) := rfl
theorem k126_6 : xM126.2.2.2.2.2[6]? = some ([], [.iconst 300, .goto 8]) := rfl
theorem k126_7 : xM126.2.2.2.2.2[7]? = some ([], [.iconst (-1), .goto_w 8]) := rfl
theorem k126_8 : xM126.2.2.2.2.2[8]? = some ([], [.ireturn]) := rfl
theorem k127_0 : xM127.2.2.2.2.2[0]? = some ([0, 1], [.aload 0, .invokevirtual 155, .aload 0, .iload 1, .invokevirtual 157, .aload 0, .getfield 323, .getfield 194, .iload 1, .iaload, .aload 0, .getfield 321, .getfield 260, .iconst 1, .iaload, .iadd, .istore 2, .aload 0, .getfield 322, .aload 0, .getfield 321, .invokevirtual 68, .iconst 0, .istore 3, .goto_w 1]) := rfl
theorem k127_1 : xM127.2.2.2.2.2[1]? = some ([0, 2, 3], [.iload 3, .iconst 300, .if_icmp .ge 5, .goto_w 2]) := rfl
theorem k127_2 : xM127.2.2.2.2.2[2]? = some ([0, 2, 3], [.aload 0, .getfield 322, .getfield 262, .iload 2, .invokevirtual 64, .aload 0, .getfield 322, .getfield 262, .getfield 224, .if_icmp .ne 4, .goto_w 3]) := rfl
theorem k127_3 : xM127.2.2.2.2.2[3]? = some ([3], [.iload 3, .ireturn]) := rfl
theorem k127_4 : xM127.2.2.2.2.2[4]? = some ([0, 2, 3], [.aload 0, .getfield 322, .invokevirtual 70, .iinc 3 1, .goto 1]) := rfl
theorem k127_5 : xM127.2.2.2.2.2[5]? = some ([0, 2], [.aload 0, .getfield 322, .getfield 262, .iload 2, .invokevirtual 64, .aload 0, .getfield 322, .getfield 262, .getfield 224, .if_icmp .ne 7, .goto_w 6]) := rfl
theorem k127_6 : xM127.2.2.2.2.2[6]? = some ([], [.iconst 300, .goto 8]) := rfl
theorem k127_7 : xM127.2.2.2.2.2[7]? = some ([], [.iconst (-1), .goto_w 8]) := rfl
theorem k127_8 : xM127.2.2.2.2.2[8]? = some ([], [.ireturn]) := rfl
theorem k128_0 : xM128.2.2.2.2.2[0]? = some ([0, 1, 2], [.aload 0, .invokevirtual 155, .aload 0, .iload 1, .invokevirtual 156, .iload 2, .iconst 0, .iconst 300, .invokestatic 159, .aload 0, .iload 2, .invokevirtual 163, .aload 0, .getfield 322, .getfield 262, .getfield 230, .iload 1, .iaload, .ireturn]) := rfl
theorem k129_0 : xM129.2.2.2.2.2[0]? = some ([0, 1, 2], [.aload 0, .invokevirtual 155, .aload 0, .iload 1, .invokevirtual 156, .iload 2, .iconst 0, .iconst 300, .invokestatic 159, .aload 0, .iload 2, .invokevirtual 163, .aload 0, .getfield 322, .getfield 262, .getfield 228, .iload 1, .iaload, .ireturn]) := rfl
theorem k130_0 : xM130.2.2.2.2.2[0]? = some ([0, 1, 2], [.aload 0, .invokevirtual 155, .aload 0, .iload 1, .invokevirtual 156, .iload 2, .iconst 0, .iconst 300, .invokestatic 159, .aload 0, .iload 2, .invokevirtual 163, .aload 0, .getfield 322, .getfield 262, .getfield 229, .iload 1, .iaload, .ireturn]) := rfl
theorem k131_0 : xM131.2.2.2.2.2[0]? = some ([0, 1], [.aload 0, .invokevirtual 155, .iload 1, .iconst 0, .iconst 300, .invokestatic 159, .aload 0, .iload 1, .invokevirtual 163, .aload 0, .getfield 322, .getfield 258, .aload 0, .getfield 321, .getfield 258, .isub, .ireturn]) := rfl
theorem k132_0 : xM132.2.2.2.2.2[0]? = some ([0], [.aload 0, .invokevirtual 155, .aload 0, .getfield 322, .aload 0, .getfield 321, .invokevirtual 68, .aload 0, .iconst 300, .invokevirtual 164, .ireturn]) := rfl
theorem k133_0 : xM133.2.2.2.2.2[0]? = some ([0, 1, 2], [.aload 0, .invokevirtual 155, .aload 0, .iload 1, .invokevirtual 157, .iload 2, .iconst 0, .iconst 300, .invokestatic 159, .aload 0, .iload 2, .invokevirtual 163, .aload 0, .iload 1, .invokevirtual 162, .aload 0, .getfield 323, .iload 1, .invokevirtual 40, .freturn]) := rfl
theorem k134_0 : xM134.2.2.2.2.2[0]? = some ([0, 1, 2], [.aload 0, .invokevirtual 155, .aload 0, .iload 1, .invokevirtual 157, .iload 2, .iconst 0, .iconst 300, .invokestatic 159, .aload 0, .getfield 322, .aload 0, .getfield 321, .invokevirtual 68, .aload 0, .iload 1, .invokevirtual 162, .aload 0, .getfield 323, .iload 1, .invokevirtual 40, .fstore 3, .iconst 0, .istore 4, .goto_w 1]) := rfl
theorem k134_1 : xM134.2.2.2.2.2[1]? = some ([0, 1, 2, 3, 4], [.iload 4, .iload 2, .if_icmp .ge 6, .goto_w 2]) := rfl
theorem k134_2 : xM134.2.2.2.2.2[2]? = some ([0, 1, 2, 3, 4], [.aload 0, .getfield 322, .invokevirtual 70, .aload 0, .iload 1, .invokevirtual 162, .aload 0, .getfield 323, .iload 1, .invokevirtual 40, .fstore 5, .fload 5, .fload 3, .fcmp .l, .ifCond .le 4, .goto_w 3]) := rfl
theorem k134_3 : xM134.2.2.2.2.2[3]? = some ([0, 1, 2, 4, 5], [.fload 5, .goto 5]) := rfl
theorem k134_4 : xM134.2.2.2.2.2[4]? = some ([0, 1, 2, 3, 4], [.fload 3, .goto_w 5]) := rfl
theorem k134_5 : xM134.2.2.2.2.2[5]? = some ([0, 1, 2, 4], [.fstore 3, .iinc 4 1, .goto 1]) := rfl
theorem k134_6 : xM134.2.2.2.2.2[6]? = some ([3], [.fload 3, .freturn]) := rfl
theorem k135_0 : xM135.2.2.2.2.2[0]? = some ([0, 1], [.aload 0, .invokevirtual 155, .aload 0, .iload 1, .invokevirtual 157, .iconst (-1), .istore 2, .aload 0, .iload 1, .invokevirtual 161, .aload 0, .getfield 323, .iload 1, .invokevirtual 40, .fstore 3, .aload 0, .getfield 322, .aload 0, .getfield 321, .invokevirtual 68, .iconst 0, .istore 4, .goto_w 1]) := rfl
theorem k135_1 : xM135.2.2.2.2.2[1]? = some ([0, 1, 2, 3, 4], [.iload 4, .iconst 1, .iadd, .aload 0, .getfield 322, .getfield 262, .getfield 224, .if_icmp .ge 5, .goto_w 2]) := rfl
theorem k135_2 : xM135.2.2.2.2.2[2]? = some ([0, 1, 2, 3, 4], [.aload 0, .getfield 322, .getfield 262, .iload 4, .invokevirtual 53, .aload 0, .iload 1, .invokevirtual 162, .aload 0, .getfield 323, .iload 1, .invokevirtual 40, .fstore 5, .aload 0, .getfield 322, .getfield 262, .iload 4, .invokevirtual 53, .fload 5, .fload 3, .fcmp .l, .ifCond .le 4, .goto_w 3]) := rfl
theorem k135_3 : xM135.2.2.2.2.2[3]? = some ([0, 1, 4, 5], [.iload 4, .istore 2, .fload 5, .fstore 3, .goto_w 4]) := rfl
theorem k135_4 : xM135.2.2.2.2.2[4]? = some ([0, 1, 2, 3, 4], [.iinc 4 1, .goto 1]) := rfl
theorem k135_5 : xM135.2.2.2.2.2[5]? = some ([2], [.iload 2, .ireturn]) := rfl
theorem k136_0 : xM136.2.2.2.2.2[0]? = some ([0, 1], [.aload 0, .invokevirtual 155, .aload 0, .iload 1, .invokevirtual 156, .iload 1, .ifCond .ne 2, .goto_w 1]) := rfl
theorem k136_1 : xM136.2.2.2.2.2[1]? = some ([], [.iconst (-1), .ireturn]) := rfl
theorem k136_2 : xM136.2.2.2.2.2[2]? = some ([0, 1], [.aload 0, .getfield 321, .getfield 260, .iconst 0, .iaload, .istore 2, .aload 0, .getfield 322, .aload 0, .getfield 321, .invokevirtual 68, .iconst 0, .istore 3, .goto_w 3]) := rfl
theorem k136_3 : xM136.2.2.2.2.2[3]? = some ([0, 1, 2, 3], [.iload 3, .iconst 300, .if_icmp .ge 7, .goto_w 4]) := rfl
theorem k136_4 : xM136.2.2.2.2.2[4]? = some ([0, 1, 2, 3], [.aload 0, .getfield 322, .getfield 262, .iload 1, .invokevirtual 51, .iload 2, .if_icmp .ne 6, .goto_w 5]) := rfl
theorem k136_5 : xM136.2.2.2.2.2[5]? = some ([3], [.iload 3, .ireturn]) := rfl
theorem k136_6 : xM136.2.2.2.2.2[6]? = some ([0, 1, 2, 3], [.aload 0, .getfield 322, .invokevirtual 70, .iinc 3 1, .goto 3]) := rfl
theorem k136_7 : xM136.2.2.2.2.2[7]? = some ([0, 1, 2], [.aload 0, .getfield 322, .getfield 262, .iload 1, .invokevirtual 51, .iload 2, .if_icmp .ne 9, .goto_w 8]) := rfl
theorem k136_8 : xM136.2.2.2.2.2[8]? = some ([], [.iconst 300, .goto 10]) := rfl
theorem k136_9 : xM136.2.2.2.2.2[9]? = some ([], [.iconst (-1), .goto_w 10]) := rfl
theorem k136_10 : xM136.2.2.2.2.2[10]? = some ([], [.ireturn]) := rfl
theorem k137_0 : xM137.2.2.2.2.2[0]? = some ([0], [.aload 0, .invokevirtual 155, .iconst 0, .istore 1, .goto_w 1]) := rfl
theorem k137_1 : xM137.2.2.2.2.2[1]? = some ([0, 1], [.iload 1, .iconst 50, .if_icmp .gt 5, .goto_w 2]) := rfl
theorem k137_2 : xM137.2.2.2.2.2[2]? = some ([0, 1], [.aload 0, .getfield 322, .aload 0, .getfield 321, .invokevirtual 68, .aload 0, .getfield 322, .getfield 260, .iconst 3, .iload 1, .iastore, .aload 0, .iconst 100, .invokevirtual 164, .iconst (-1), .if_icmp .ne 4, .goto_w 3]) := rfl
theorem k137_3 : xM137.2.2.2.2.2[3]? = some ([1], [.iload 1, .ireturn]) := rfl
theorem k137_4 : xM137.2.2.2.2.2[4]? = some ([0, 1], [.iinc 1 1, .goto 1]) := rfl
theorem k137_5 : xM137.2.2.2.2.2[5]? = some ([], [.iconst (-1), .ireturn]) := rfl
theorem k138_0 : xM138.2.2.2.2.2[0]? = some ([0, 1], [.aload 0, .invokevirtual 155, .aload 0, .iload 1, .invokevirtual 157, .aload 0, .iload 1, .invokevirtual 161, .astore 2, .aload 0, .getfield 326, .iconst 0, .putfield 0, .iconst 0, .istore 3, .goto_w 1]) := rfl
theorem k138_1 : xM138.2.2.2.2.2[1]? = some ([0, 2, 3], [.iload 3, .aload 2, .getfield 160, .if_icmp .ge 3, .goto_w 2]) := rfl
theorem k138_2 : xM138.2.2.2.2.2[2]? = some ([0, 2, 3], [.aload 0, .getfield 326, .aload 2, .iload 3, .invokevirtual 35, .invokevirtual 1, .iinc 3 1, .goto 1]) := rfl
theorem k138_3 : xM138.2.2.2.2.2[3]? = some ([0], [.aload 0, .getfield 326, .getfield 0, .ireturn]) := rfl
theorem k139_0 : xM139.2.2.2.2.2[0]? = some ([0], [.aload 0, .invokevirtual 155, .aload 0, .getfield 326, .iconst 0, .putfield 0, .iconst 0, .istore 1, .goto_w 1]) := rfl
theorem k139_1 : xM139.2.2.2.2.2[1]? = some ([0, 1], [.iload 1, .aload 0, .getfield 321, .getfield 262, .getfield 224, .if_icmp .ge 6, .goto_w 2]) := rfl
theorem k139_2 : xM139.2.2.2.2.2[2]? = some ([0, 1], [.aload 0, .getfield 321, .getfield 262, .getfield 229, .iload 1, .iaload, .istore 2, .aload 0, .getfield 326, .iload 2, .ifCond .ne 4, .goto_w 3]) := rfl
theorem k139_3 : xM139.2.2.2.2.2[3]? = some ([0, 1], [.iconst 45, .goto 5]) := rfl
theorem k139_4 : xM139.2.2.2.2.2[4]? = some ([0, 1, 2], [.iconst 96, .iload 2, .iadd, .goto_w 5]) := rfl
theorem k139_5 : xM139.2.2.2.2.2[5]? = some ([0, 1], [.invokevirtual 1, .iinc 1 1, .goto 1]) := rfl
theorem k139_6 : xM139.2.2.2.2.2[6]? = some ([0], [.aload 0, .getfield 326, .getfield 0, .ireturn]) := rfl
theorem k140_0 : xM140.2.2.2.2.2[0]? = some ([0], [.aload 0, .invokevirtual 155, .aload 0, .getfield 326, .iconst 0, .putfield 0, .iconst 0, .istore 1, .goto_w 1]) := rfl
theorem k140_1 : xM140.2.2.2.2.2[1]? = some ([0, 1], [.iload 1, .aload 0, .getfield 321, .getfield 262, .getfield 224, .if_icmp .ge 5, .goto_w 2]) := rfl
theorem k140_2 : xM140.2.2.2.2.2[2]? = some ([0, 1], [.iload 1, .ifCond .le 4, .goto_w 3]) := rfl
theorem k140_3 : xM140.2.2.2.2.2[3]? = some ([0, 1], [.aload 0, .getfield 326, .iconst 44, .invokevirtual 1, .goto_w 4]) := rfl
theorem k140_4 : xM140.2.2.2.2.2[4]? = some ([0, 1], [.aload 0, .getfield 326, .aload 0, .getfield 321, .getfield 262, .getfield 230, .iload 1, .iaload, .invokevirtual 2, .iinc 1 1, .goto 1]) := rfl
theorem k140_5 : xM140.2.2.2.2.2[5]? = some ([0], [.aload 0, .getfield 326, .getfield 0, .ireturn]) := rfl
theorem k141_0 : xM141.2.2.2.2.2[0]? = some ([0, 1], [.iload 1, .aload 0, .getfield 326, .getfield 0, .invokestatic 158, .aload 0, .getfield 326, .getfield 1, .iload 1, .iaload, .ireturn]) := rfl
theorem k142_0 : xM142.2.2.2.2.2[0]? = some ([0, 1], [.aload 0, .invokevirtual 155, .iload 1, .iconst 1, .iconst 100, .invokestatic 159, .aload 0, .getfield 321, .getfield 256, .iload 1, .iadd, .iconst 5000, .if_icmp .gt 2, .goto_w 1]) := rfl
theorem k142_1 : xM142.2.2.2.2.2[1]? = some ([0, 1], [.iconst 1, .goto 3]) := rfl
theorem k142_2 : xM142.2.2.2.2.2[2]? = some ([0, 1], [.iconst 0, .goto_w 3]) := rfl
theorem k142_3 : xM142.2.2.2.2.2[3]? = some ([0, 1], [.invokestatic 160, .aload 0, .getfield 324, .aload 0, .getfield 321, .invokevirtual 13, .aload 0, .invokevirtual 166, .invokestatic 383, .istore 2, .iconst 0, .istore 3, .goto_w 4]) := rfl
theorem k142_4 : xM142.2.2.2.2.2[4]? = some ([0, 1, 2, 3], [.iload 3, .iload 1, .if_icmp .ge 6, .goto_w 5]) := rfl
theorem k142_5 : xM142.2.2.2.2.2[5]? = some ([0, 1, 2, 3], [.aload 0, .getfield 321, .invokevirtual 70, .aload 0, .invokevirtual 165, .iinc 3 1, .goto 4]) := rfl
theorem k142_6 : xM142.2.2.2.2.2[6]? = some ([0, 2], [.aload 0, .invokevirtual 166, .invokestatic 383, .iload 2, .isub, .ireturn]) := rfl
theorem k143_0 : xM143.2.2.2.2.2[0]? = some ([0, 1], [.aload 0, .invokevirtual 155, .aload 0, .iload 1, .invokevirtual 156, .aload 0, .getfield 321, .iload 1, .invokevirtual 74, .invokestatic 160, .aload 0, .getfield 324, .aload 0, .getfield 321, .invokevirtual 13, .aload 0, .getfield 321, .iload 1, .invokevirtual 75, .aload 0, .getfield 321, .getfield 262, .getfield 229, .iload 1, .iaload, .ireturn]) := rfl
theorem k144_0 : xM144.2.2.2.2.2[0]? = some ([0, 1], [.aload 0, .invokevirtual 155, .aload 0, .iload 1, .invokevirtual 156, .aload 0, .getfield 321, .getfield 262, .getfield 229, .iload 1, .iaload, .ifCond .eq 2, .goto_w 1]) := rfl
theorem k144_1 : xM144.2.2.2.2.2[1]? = some ([0, 1], [.iconst 1, .goto 3]) := rfl
theorem k144_2 : xM144.2.2.2.2.2[2]? = some ([0, 1], [.iconst 0, .goto_w 3]) := rfl
theorem k144_3 : xM144.2.2.2.2.2[3]? = some ([0, 1], [.invokestatic 160, .aload 0, .getfield 324, .aload 0, .getfield 321, .invokevirtual 13, .aload 0, .getfield 321, .iload 1, .invokevirtual 76, .aload 0, .getfield 321, .getfield 263, .getfield 32, .ireturn]) := rfl
theorem k145_0 : xM145.2.2.2.2.2[0]? = some ([0, 1], [.aload 0, .invokevirtual 155, .aload 0, .iload 1, .invokevirtual 156, .aload 0, .getfield 321, .getfield 263, .aload 0, .getfield 321, .getfield 262, .getfield 230, .iload 1, .iaload, .aload 0, .getfield 321, .getfield 262, .getfield 230, .iload 1, .iaload, .invokevirtual 8, .istore 2, .aload 0, .getfield 321, .iload 1, .invokevirtual 77, .ifCond .eq 3, .goto_w 1]) := rfl
theorem k145_1 : xM145.2.2.2.2.2[1]? = some ([0, 1, 2], [.iload 2, .iconst (-1), .if_icmp .eq 3, .goto_w 2]) := rfl
theorem k145_2 : xM145.2.2.2.2.2[2]? = some ([0, 1, 2], [.iconst 1, .goto 4]) := rfl
theorem k145_3 : xM145.2.2.2.2.2[3]? = some ([0, 1, 2], [.iconst 0, .goto_w 4]) := rfl
theorem k145_4 : xM145.2.2.2.2.2[4]? = some ([0, 1, 2], [.invokestatic 160, .aload 0, .getfield 324, .aload 0, .getfield 321, .invokevirtual 13, .aload 0, .getfield 321, .iload 1, .iload 2, .invokevirtual 78, .aload 0, .getfield 321, .getfield 262, .getfield 229, .iload 1, .iaload, .ireturn]) := rfl
theorem k146_0 : xM146.2.2.2.2.2[0]? = some ([0, 1, 2], [.aload 0, .invokevirtual 155, .aload 0, .iload 1, .invokevirtual 156, .iload 2, .iconst (-100), .iconst 100, .invokestatic 159, .aload 0, .getfield 324, .aload 0, .getfield 321, .invokevirtual 13, .aload 0, .getfield 321, .getfield 262, .iload 1, .iload 2, .invokevirtual 52, .aload 0, .getfield 321, .getfield 262, .getfield 228, .iload 1, .iaload, .ireturn]) := rfl
theorem k147_0 : xM147.2.2.2.2.2[0]? = some ([0, 1], [.aload 0, .invokevirtual 155, .iload 1, .iconst 1, .iconst 100, .invokestatic 159, .aload 0, .getfield 324, .aload 0, .getfield 321, .invokevirtual 13, .iconst 0, .istore 2, .goto_w 1]) := rfl
theorem k147_1 : xM147.2.2.2.2.2[1]? = some ([0, 1, 2], [.iload 2, .aload 0, .getfield 321, .getfield 262, .getfield 224, .if_icmp .ge 3, .goto_w 2]) := rfl
theorem k147_2 : xM147.2.2.2.2.2[2]? = some ([0, 1, 2], [.aload 0, .getfield 321, .getfield 262, .iload 2, .iload 1, .invokevirtual 52, .iinc 2 1, .goto 1]) := rfl
theorem k147_3 : xM147.2.2.2.2.2[3]? = some ([0], [.aload 0, .getfield 321, .getfield 262, .invokevirtual 60, .ireturn]) := rfl
theorem k148_0 : xM148.2.2.2.2.2[0]? = some ([0, 1, 2], [.aload 0, .invokevirtual 155, .aload 0, .iload 1, .invokevirtual 156, .iload 2, .iconst 1, .iconst 200, .invokestatic 159, .aload 0, .getfield 324, .aload 0, .getfield 321, .invokevirtual 13, .aload 0, .getfield 321, .getfield 262, .getfield 226, .iload 1, .iaload, .istore 3, .aload 0, .getfield 321, .getfield 262, .getfield 226, .iload 1, .iload 2, .iastore, .iload 3, .ireturn]) := rfl
theorem k149_0 : xM149.2.2.2.2.2[0]? = some ([0, 1, 2], [.aload 0, .invokevirtual 155, .aload 0, .iload 2, .invokevirtual 156, .iload 1, .aload 0, .getfield 321, .getfield 256, .iconst 1, .iadd, .iconst 5000, .invokestatic 159, .iload 2, .iconst 1, .iadd, .aload 0, .getfield 321, .getfield 262, .getfield 224, .if_icmp .ge 3, .goto_w 1]) := rfl
theorem k149_1 : xM149.2.2.2.2.2[1]? = some ([0, 1, 2], [.aload 0, .getfield 321, .getfield 264, .getfield 128, .iconst 12, .if_icmp .ge 3, .goto_w 2]) := rfl
theorem k149_2 : xM149.2.2.2.2.2[2]? = some ([0, 1, 2], [.iconst 1, .goto 4]) := rfl
theorem k149_3 : xM149.2.2.2.2.2[3]? = some ([0, 1, 2], [.iconst 0, .goto_w 4]) := rfl
theorem k149_4 : xM149.2.2.2.2.2[4]? = some ([0, 1, 2], [.invokestatic 160, .aload 0, .getfield 324, .aload 0, .getfield 321, .invokevirtual 13, .aload 0, .getfield 321, .getfield 264, .iload 1, .iload 2, .invokevirtual 29, .aload 0, .getfield 321, .getfield 264, .getfield 128, .iconst 1, .isub, .ireturn]) := rfl
theorem k150_0 : xM150.2.2.2.2.2[0]? = some ([0, 1, 2], [.aload 0, .invokevirtual 155, .iload 1, .iconst 0, .iconst 5, .invokestatic 159, .iload 2, .getstatic 0, .iload 1, .iaload, .getstatic 1, .iload 1, .iaload, .invokestatic 159, .aload 0, .getfield 324, .aload 0, .getfield 321, .invokevirtual 13, .aload 0, .getfield 321, .getfield 260, .iload 1, .iaload, .istore 3, .aload 0, .getfield 321, .getfield 260, .iload 1, .iload 2, .iastore, .iload 3, .ireturn]) := rfl
theorem k151_0 : xM151.2.2.2.2.2[0]? = some ([0], [.aload 0, .getfield 324, .getfield 65, .ifCond .ne 2, .goto_w 1]) := rfl
theorem k151_1 : xM151.2.2.2.2.2[1]? = some ([], [.checkcast 0]) := rfl
theorem k151_2 : xM151.2.2.2.2.2[2]? = some ([0], [.aload 0, .getfield 324, .aload 0, .getfield 321, .invokevirtual 14, .aload 0, .getfield 324, .getfield 65, .ireturn]) := rfl
theorem k152_0 : xM152.2.2.2.2.2[0]? = some ([0], [.aload 0, .getfield 324, .getfield 65, .ireturn]) := rfl
theorem k153_0 : xM153.2.2.2.2.2[0]? = some ([0, 1], [.aload 0, .invokevirtual 155, .iload 1, .iconst 2, .invokestatic 158, .aload 0, .getfield 324, .iload 1, .aload 0, .getfield 321, .invokevirtual 15, .aload 0, .getfield 321, .getfield 256, .ireturn]) := rfl
theorem k154_0 : xM154.2.2.2.2.2[0]? = some ([0, 1], [.iload 1, .iconst 2, .invokestatic 158, .aload 0, .getfield 324, .getfield 68, .iload 1, .baload, .ifCond .ne 2, .goto_w 1]) := rfl
theorem k154_1 : xM154.2.2.2.2.2[1]? = some ([], [.checkcast 0]) := rfl
theorem k154_2 : xM154.2.2.2.2.2[2]? = some ([0, 1], [.aload 0, .getfield 324, .iload 1, .aload 0, .getfield 321, .invokevirtual 16, .aload 0, .getfield 324, .invokevirtual 11, .aload 0, .getfield 321, .getfield 256, .ireturn]) := rfl
theorem k155_0 : xM155.2.2.2.2.2[0]? = some ([0], [.aload 0, .getfield 327, .ifCond .ne 2, .goto_w 1]) := rfl
theorem k155_1 : xM155.2.2.2.2.2[1]? = some ([], [.checkcast 0]) := rfl
theorem k155_2 : xM155.2.2.2.2.2[2]? = some ([], [.return_]) := rfl
theorem k156_0 : xM156.2.2.2.2.2[0]? = some ([0, 1], [.iload 1, .aload 0, .getfield 321, .getfield 262, .getfield 224, .invokestatic 158, .return_]) := rfl
theorem k157_0 : xM157.2.2.2.2.2[0]? = some ([0, 1], [.iload 1, .aload 0, .getfield 323, .getfield 192, .invokestatic 158, .return_]) := rfl
theorem k158_0 : xM158.2.2.2.2.2[0]? = some ([0, 1], [.iload 0, .ifCond .lt 2, .goto_w 1]) := rfl
theorem k158_1 : xM158.2.2.2.2.2[1]? = some ([0, 1], [.iload 0, .iload 1, .if_icmp .lt 3, .goto_w 2]) := rfl
theorem k158_2 : xM158.2.2.2.2.2[2]? = some ([], [.checkcast 2]) := rfl
theorem k158_3 : xM158.2.2.2.2.2[3]? = some ([], [.return_]) := rfl
theorem k159_0 : xM159.2.2.2.2.2[0]? = some ([0, 1, 2], [.iload 0, .iload 1, .if_icmp .lt 3, .goto_w 1]) := rfl
theorem k159_1 : xM159.2.2.2.2.2[1]? = some ([0, 2], [.iload 0, .iload 2, .if_icmp .gt 3, .goto_w 2]) := rfl
theorem k159_2 : xM159.2.2.2.2.2[2]? = some ([], [.iconst 1, .goto 4]) := rfl
theorem k159_3 : xM159.2.2.2.2.2[3]? = some ([], [.iconst 0, .goto_w 4]) := rfl
theorem k159_4 : xM159.2.2.2.2.2[4]? = some ([], [.invokestatic 160, .return_]) := rfl
theorem k160_0 : xM160.2.2.2.2.2[0]? = some ([0], [.iload 0, .ifCond .ne 2, .goto_w 1]) := rfl
theorem k160_1 : xM160.2.2.2.2.2[1]? = some ([], [.checkcast 1]) := rfl
theorem k160_2 : xM160.2.2.2.2.2[2]? = some ([], [.return_]) := rfl
theorem k161_0 : xM161.2.2.2.2.2[0]? = some ([0, 1], [.aload 0, .getfield 325, .aload 0, .getfield 321, .aload 0, .getfield 323, .iload 1, .invokevirtual 33, .aload 0, .getfield 325, .areturn]) := rfl
theorem k162_0 : xM162.2.2.2.2.2[0]? = some ([0, 1], [.aload 0, .getfield 325, .aload 0, .getfield 322, .aload 0, .getfield 323, .iload 1, .invokevirtual 33, .aload 0, .getfield 325, .areturn]) := rfl
theorem k163_0 : xM163.2.2.2.2.2[0]? = some ([0, 1], [.aload 0, .getfield 322, .aload 0, .getfield 321, .invokevirtual 68, .iconst 0, .istore 2, .goto_w 1]) := rfl
theorem k163_1 : xM163.2.2.2.2.2[1]? = some ([0, 1, 2], [.iload 2, .iload 1, .if_icmp .ge 3, .goto_w 2]) := rfl
theorem k163_2 : xM163.2.2.2.2.2[2]? = some ([0, 1, 2], [.aload 0, .getfield 322, .invokevirtual 70, .iinc 2 1, .goto 1]) := rfl
theorem k163_3 : xM163.2.2.2.2.2[3]? = some ([], [.return_]) := rfl
theorem k164_0 : xM164.2.2.2.2.2[0]? = some ([0, 1], [.iconst 1, .istore 2, .goto_w 1]) := rfl
theorem k164_1 : xM164.2.2.2.2.2[1]? = some ([0, 1, 2], [.iload 2, .iload 1, .if_icmp .gt 5, .goto_w 2]) := rfl
theorem k164_2 : xM164.2.2.2.2.2[2]? = some ([0, 1, 2], [.aload 0, .getfield 322, .invokevirtual 70, .aload 0, .getfield 322, .getfield 258, .aload 0, .getfield 321, .getfield 258, .if_icmp .le 4, .goto_w 3]) := rfl
theorem k164_3 : xM164.2.2.2.2.2[3]? = some ([2], [.iload 2, .ireturn]) := rfl
theorem k164_4 : xM164.2.2.2.2.2[4]? = some ([0, 1, 2], [.iinc 2 1, .goto 1]) := rfl
theorem k164_5 : xM164.2.2.2.2.2[5]? = some ([], [.iconst (-1), .ireturn]) := rfl
theorem k165_0 : xM165.2.2.2.2.2[0]? = some ([0], [.iconst 0, .istore 1, .goto_w 1]) := rfl
theorem k165_1 : xM165.2.2.2.2.2[1]? = some ([0, 1], [.iload 1, .aload 0, .getfield 323, .getfield 192, .if_icmp .ge 6, .goto_w 2]) := rfl
theorem k165_2 : xM165.2.2.2.2.2[2]? = some ([0, 1], [.aload 0, .getfield 321, .getfield 261, .iload 1, .iaload, .iconst (-1), .if_icmp .ne 5, .goto_w 3]) := rfl
theorem k165_3 : xM165.2.2.2.2.2[3]? = some ([0, 1], [.aload 0, .iload 1, .invokevirtual 161, .aload 0, .getfield 323, .iload 1, .invokevirtual 39, .ifCond .eq 5, .goto_w 4]) := rfl
theorem k165_4 : xM165.2.2.2.2.2[4]? = some ([0, 1], [.aload 0, .getfield 321, .getfield 261, .iload 1, .aload 0, .getfield 321, .getfield 256, .iastore, .goto_w 5]) := rfl
theorem k165_5 : xM165.2.2.2.2.2[5]? = some ([0, 1], [.iinc 1 1, .goto 1]) := rfl
theorem k165_6 : xM165.2.2.2.2.2[6]? = some ([], [.return_]) := rfl
theorem k166_0 : xM166.2.2.2.2.2[0]? = some ([0], [.iconst 0, .istore 1, .iconst 0, .istore 2, .goto_w 1]) := rfl
theorem k166_1 : xM166.2.2.2.2.2[1]? = some ([0, 1, 2], [.iload 2, .aload 0, .getfield 323, .getfield 192, .if_icmp .ge 5, .goto_w 2]) := rfl
theorem k166_2 : xM166.2.2.2.2.2[2]? = some ([0, 1, 2], [.aload 0, .getfield 321, .getfield 261, .iload 2, .iaload, .iconst (-1), .if_icmp .eq 4, .goto_w 3]) := rfl
theorem k166_3 : xM166.2.2.2.2.2[3]? = some ([0, 1, 2], [.iload 1, .iconst 1, .iload 2, .ishl, .ior, .istore 1, .goto_w 4]) := rfl
theorem k166_4 : xM166.2.2.2.2.2[4]? = some ([0, 1, 2], [.iinc 2 1, .goto 1]) := rfl
theorem k166_5 : xM166.2.2.2.2.2[5]? = some ([1], [.iload 1, .ireturn]) := rfl
theorem k167_0 : xM167.2.2.2.2.2[0]? = some ([0], [.iconst 0, .istore 1, .iconst 0, .istore 2, .goto_w 1]) := rfl
theorem k167_1 : xM167.2.2.2.2.2[1]? = some ([0, 1, 2], [.iload 2, .aload 0, .getfield 323, .getfield 192, .if_icmp .ge 5, .goto_w 2]) := rfl
theorem k167_2 : xM167.2.2.2.2.2[2]? = some ([0, 1, 2], [.aload 0, .iload 2, .invokevirtual 169, .ifCond .eq 4, .goto_w 3]) := rfl
theorem k167_3 : xM167.2.2.2.2.2[3]? = some ([0, 1, 2], [.iinc 1 1, .goto_w 4]) := rfl
theorem k167_4 : xM167.2.2.2.2.2[4]? = some ([0, 1, 2], [.iinc 2 1, .goto 1]) := rfl
theorem k167_5 : xM167.2.2.2.2.2[5]? = some ([1], [.iload 1, .ireturn]) := rfl
theorem k168_0 : xM168.2.2.2.2.2[0]? = some ([0, 1], [.iconst 0, .istore 2, .iconst 0, .istore 3, .goto_w 1]) := rfl
theorem k168_1 : xM168.2.2.2.2.2[1]? = some ([0, 1, 2, 3], [.iload 3, .aload 0, .getfield 323, .getfield 192, .if_icmp .ge 5, .goto_w 2]) := rfl
theorem k168_2 : xM168.2.2.2.2.2[2]? = some ([0, 1, 2, 3], [.aload 0, .getfield 321, .iload 1, .aload 0, .getfield 323, .getfield 194, .iload 3, .iaload, .invokevirtual 79, .ifCond .eq 4, .goto_w 3]) := rfl
theorem k168_3 : xM168.2.2.2.2.2[3]? = some ([0, 1, 2, 3], [.iinc 2 1, .goto_w 4]) := rfl
theorem k168_4 : xM168.2.2.2.2.2[4]? = some ([0, 1, 2, 3], [.iinc 3 1, .goto 1]) := rfl
theorem k168_5 : xM168.2.2.2.2.2[5]? = some ([2], [.iload 2, .ireturn]) := rfl
theorem k169_0 : xM169.2.2.2.2.2[0]? = some ([0, 1], [.iconst 0, .istore 2, .iconst 0, .istore 3, .goto_w 1]) := rfl
theorem k169_1 : xM169.2.2.2.2.2[1]? = some ([0, 1, 2, 3], [.iload 3, .aload 0, .getfield 321, .getfield 262, .getfield 224, .if_icmp .ge 5, .goto_w 2]) := rfl
theorem k169_2 : xM169.2.2.2.2.2[2]? = some ([0, 1, 2, 3], [.aload 0, .getfield 321, .iload 3, .aload 0, .getfield 323, .getfield 194, .iload 1, .iaload, .invokevirtual 79, .ifCond .eq 4, .goto_w 3]) := rfl
theorem k169_3 : xM169.2.2.2.2.2[3]? = some ([0, 1, 2, 3], [.iload 2, .iconst 1, .iload 3, .ishl, .ior, .istore 2, .goto_w 4]) := rfl
theorem k169_4 : xM169.2.2.2.2.2[4]? = some ([0, 1, 2, 3], [.iinc 3 1, .goto 1]) := rfl
theorem k169_5 : xM169.2.2.2.2.2[5]? = some ([2], [.iload 2, .ireturn]) := rfl
theorem k170_0 : xM170.2.2.2.2.2[0]? = some ([0], [.fload 0, .fconst 0, .fcmp .g, .ifCond .gt 2, .goto_w 1]) := rfl
theorem k170_1 : xM170.2.2.2.2.2[1]? = some ([], [.iconst 0, .ireturn]) := rfl
theorem k170_2 : xM170.2.2.2.2.2[2]? = some ([0], [.iconst 127, .istore 1, .fload 0, .fstore 2, .iconst 0, .istore 3, .goto_w 3]) := rfl
theorem k170_3 : xM170.2.2.2.2.2[3]? = some ([1, 2, 3], [.iload 3, .iconst 60, .if_icmp .ge 6, .goto_w 4]) := rfl
theorem k170_4 : xM170.2.2.2.2.2[4]? = some ([1, 2, 3], [.fload 2, .fconst 1, .fcmp .g, .ifCond .ge 6, .goto_w 5]) := rfl
theorem k170_5 : xM170.2.2.2.2.2[5]? = some ([1, 2, 3], [.fload 2, .fconst 2, .fmul, .fstore 2, .iinc 1 (-1), .iinc 3 1, .goto 3]) := rfl
theorem k170_6 : xM170.2.2.2.2.2[6]? = some ([1, 2], [.iload 1, .iconst 23, .ishl, .fload 2, .fconst 1, .fsub, .ldc_w 1258291200, .fmul, .f2i, .iadd, .ireturn]) := rfl
theorem k171_0 : xM171.2.2.2.2.2[0]? = some ([0], [.dload 0, .dconst 0, .dcmp .g, .ifCond .gt 2, .goto_w 1]) := rfl
theorem k171_1 : xM171.2.2.2.2.2[1]? = some ([], [.lconst 0, .lreturn]) := rfl
theorem k171_2 : xM171.2.2.2.2.2[2]? = some ([0], [.jsr 1023, .lstore 2, .dload 0, .dstore 4, .iconst 0, .istore 6, .goto_w 3]) := rfl
theorem k171_3 : xM171.2.2.2.2.2[3]? = some ([2, 4, 6], [.iload 6, .iconst 60, .if_icmp .ge 6, .goto_w 4]) := rfl
theorem k171_4 : xM171.2.2.2.2.2[4]? = some ([2, 4, 6], [.dload 4, .dconst 1, .dcmp .g, .ifCond .ge 6, .goto_w 5]) := rfl
theorem k171_5 : xM171.2.2.2.2.2[5]? = some ([2, 4, 6], [.dload 4, .ldc2_w 4611686018427387904, .dmul, .dstore 4, .lload 2, .lconst 1, .lsub, .lstore 2, .iinc 6 1, .goto 3]) := rfl
theorem k171_6 : xM171.2.2.2.2.2[6]? = some ([2, 4], [.iconst 0, .istore 6, .goto_w 7]) := rfl
theorem k171_7 : xM171.2.2.2.2.2[7]? = some ([2, 4, 6], [.iload 6, .iconst 60, .if_icmp .ge 10, .goto_w 8]) := rfl
theorem k171_8 : xM171.2.2.2.2.2[8]? = some ([2, 4, 6], [.dload 4, .ldc2_w 4611686018427387904, .dcmp .l, .ifCond .lt 10, .goto_w 9]) := rfl
theorem k171_9 : xM171.2.2.2.2.2[9]? = some ([2, 4, 6], [.dload 4, .ldc2_w 4611686018427387904, .ddiv, .dstore 4, .lload 2, .lconst 1, .ladd, .lstore 2, .iinc 6 1, .goto 7]) := rfl
theorem k171_10 : xM171.2.2.2.2.2[10]? = some ([2, 4], [.lload 2, .iconst 52, .lshl, .dload 4, .dconst 1, .dsub, .ldc2_w 4841369599423283200, .dmul, .d2l, .ladd, .lreturn]) := rfl
theorem k172_0 : xM172.2.2.2.2.2[0]? = some ([0, 1], [.iconst 0, .istore 2, .goto_w 1]) := rfl
theorem k172_1 : xM172.2.2.2.2.2[1]? = some ([0, 1, 2], [.iload 2, .aload 1, .arraylength, .if_icmp .ge 4, .goto_w 2]) := rfl
theorem k172_2 : xM172.2.2.2.2.2[2]? = some ([0, 1, 2], [.iload 2, .aload 0, .arraylength, .if_icmp .ge 4, .goto_w 3]) := rfl
theorem k172_3 : xM172.2.2.2.2.2[3]? = some ([0, 1, 2], [.aload 1, .iload 2, .aload 0, .iload 2, .iaload, .iastore, .iinc 2 1, .goto 1]) := rfl
theorem k172_4 : xM172.2.2.2.2.2[4]? = some ([], [.return_]) := rfl
theorem k383_0 : xM383.2.2.2.2.2[0]? = some ([0], [.iload 0, .iload 0, .iconst 1, .iushr, .iconst 1431655765, .iand, .isub, .istore 0, .iload 0, .iconst 858993459, .iand, .iload 0, .iconst 2, .iushr, .iconst 858993459, .iand, .iadd, .istore 0, .iload 0, .iload 0, .iconst 4, .iushr, .iadd, .iconst 252645135, .iand, .istore 0, .iload 0, .iload 0, .iconst 8, .iushr, .iadd, .istore 0, .iload 0, .iload 0, .iconst 16, .iushr, .iadd, .istore 0, .iload 0, .iconst 63, .iand, .ireturn]) := rfl
theorem k384_0 : xM384.2.2.2.2.2[0]? = some ([0], [.iload 0, .ifCond .ge 2, .goto_w 1]) := rfl
theorem k384_1 : xM384.2.2.2.2.2[1]? = some ([0], [.iload 0, .ineg, .goto 3]) := rfl
theorem k384_2 : xM384.2.2.2.2.2[2]? = some ([0], [.iload 0, .goto_w 3]) := rfl
theorem k384_3 : xM384.2.2.2.2.2[3]? = some ([], [.ireturn]) := rfl
theorem k385_0 : xM385.2.2.2.2.2[0]? = some ([0, 1], [.iload 0, .iload 1, .if_icmp .lt 2, .goto_w 1]) := rfl
theorem k385_1 : xM385.2.2.2.2.2[1]? = some ([0], [.iload 0, .goto 3]) := rfl
theorem k385_2 : xM385.2.2.2.2.2[2]? = some ([1], [.iload 1, .goto_w 3]) := rfl
theorem k385_3 : xM385.2.2.2.2.2[3]? = some ([], [.ireturn]) := rfl
theorem k386_0 : xM386.2.2.2.2.2[0]? = some ([0, 1], [.iload 0, .iload 1, .if_icmp .gt 2, .goto_w 1]) := rfl
theorem k386_1 : xM386.2.2.2.2.2[1]? = some ([0], [.iload 0, .goto 3]) := rfl
theorem k386_2 : xM386.2.2.2.2.2[2]? = some ([1], [.iload 1, .goto_w 3]) := rfl
theorem k386_3 : xM386.2.2.2.2.2[3]? = some ([], [.ireturn]) := rfl
theorem k387_0 : xM387.2.2.2.2.2[0]? = some ([0], [.fload 0, .fload 0, .fcmp .l, .ifCond .eq 2, .goto_w 1]) := rfl
theorem k387_1 : xM387.2.2.2.2.2[1]? = some ([], [.iconst 1, .goto 3]) := rfl
theorem k387_2 : xM387.2.2.2.2.2[2]? = some ([], [.iconst 0, .goto_w 3]) := rfl
theorem k387_3 : xM387.2.2.2.2.2[3]? = some ([], [.ireturn]) := rfl
theorem k388_0 : xM388.2.2.2.2.2[0]? = some ([0], [.fload 0, .invokestatic 387, .ifCond .ne 2, .goto_w 1]) := rfl
theorem k388_1 : xM388.2.2.2.2.2[1]? = some ([0], [.fload 0, .invokedynamic 0, .ireturn]) := rfl
theorem k388_2 : xM388.2.2.2.2.2[2]? = some ([], [.iconst 2143289344, .ireturn]) := rfl
theorem k389_0 : xM389.2.2.2.2.2[0]? = some ([0], [.dload 0, .dload 0, .dcmp .l, .ifCond .eq 2, .goto_w 1]) := rfl
theorem k389_1 : xM389.2.2.2.2.2[1]? = some ([], [.iconst 1, .goto 3]) := rfl
theorem k389_2 : xM389.2.2.2.2.2[2]? = some ([], [.iconst 0, .goto_w 3]) := rfl
theorem k389_3 : xM389.2.2.2.2.2[3]? = some ([], [.ireturn]) := rfl
theorem k390_0 : xM390.2.2.2.2.2[0]? = some ([0], [.dload 0, .invokestatic 389, .ifCond .ne 2, .goto_w 1]) := rfl
theorem k390_1 : xM390.2.2.2.2.2[1]? = some ([0], [.dload 0, .invokedynamic 1, .lreturn]) := rfl
theorem k390_2 : xM390.2.2.2.2.2[2]? = some ([], [.jsr 9221120237041090560, .lreturn]) := rfl
theorem k391_0 : xM391.2.2.2.2.2[0]? = some ([0], [.aload 0, .getfield 960, .arraylength, .aload 0, .invokevirtual 393, .ishr, .ireturn]) := rfl
theorem k392_0 : xM392.2.2.2.2.2[0]? = some ([0, 1], [.aload 0, .invokevirtual 394, .ifCond .eq 2, .goto_w 1]) := rfl
theorem k392_1 : xM392.2.2.2.2.2[1]? = some ([0, 1], [.aload 0, .getfield 960, .iload 1, .invokestatic 396, .ireturn]) := rfl
theorem k393_0 : xM393.2.2.2.2.2[0]? = some ([0], [.getstatic 2, .ifCond .eq 2, .goto_w 1]) := rfl
theorem k393_1 : xM393.2.2.2.2.2[1]? = some ([0], [.aload 0, .getfield 961, .goto 3]) := rfl
theorem k393_3 : xM393.2.2.2.2.2[3]? = some ([], [.ireturn]) := rfl
theorem k394_0 : xM394.2.2.2.2.2[0]? = some ([0], [.getstatic 2, .ifCond .eq 3, .goto_w 1]) := rfl
theorem k394_1 : xM394.2.2.2.2.2[1]? = some ([0], [.aload 0, .getfield 961, .ifCond .ne 3, .goto_w 2]) := rfl
theorem k394_2 : xM394.2.2.2.2.2[2]? = some ([], [.iconst 1, .goto 4]) := rfl
theorem k394_4 : xM394.2.2.2.2.2[4]? = some ([], [.ireturn]) := rfl
theorem k395_0 : xM395.2.2.2.2.2[0]? = some ([0, 1], [.iload 0, .iload 1, .getstatic 4, .invokestatic 397, .pop, .return_]) := rfl
theorem k396_0 : xM396.2.2.2.2.2[0]? = some ([0, 1], [.iload 1, .aload 0, .arraylength, .invokestatic 395, .aload 0, .iload 1, .baload, .iconst 255, .iand, .i2c, .ireturn]) := rfl
theorem k397_0 : xM397.2.2.2.2.2[0]? = some ([0, 1, 2], [.iload 0, .ifCond .lt 2, .goto_w 1]) := rfl
theorem k397_1 : xM397.2.2.2.2.2[1]? = some ([0, 1, 2], [.iload 0, .iload 1, .if_icmp .lt 3, .goto_w 2]) := rfl
theorem k397_2 : xM397.2.2.2.2.2[2]? = some ([0, 1, 2], [.aload 2, .iload 0, .iload 1]) := rfl
theorem k397_3 : xM397.2.2.2.2.2[3]? = some ([0], [.iload 0, .ireturn]) := rfl
end
section
/-! Verification conditions over X: locals and stacks whose references carry their kind. -/
abbrev AV : Type := Value ⊕ (Nat × Nat)
abbrev AL : Type := List (Nat × AV)
abbrev vI (x : Int32) : AV := Sum.inl (Value.int x)
abbrev vJ (x : Int64) : AV := Sum.inl (Value.long x)
abbrev vF (x : UInt32) : AV := Sum.inl (Value.float x)
abbrev vD (x : UInt64) : AV := Sum.inl (Value.double x)
abbrev vR (k a : Nat) : AV := Sum.inr (k, a)
def n32 (n : Nat) : Int32 := Int32.ofNat n
def ix (i : Int32) : Nat := i.toNatClampNeg
def xi : Int → Int32
  | .ofNat k => n32 k
  | .negSucc k => -(n32 (k + 1))
theorem xi_eq (n : Int) : xi n = Int32.ofInt n := by
  cases n with
  | ofNat k => rfl
  | negSucc k =>
    show -(Int32.ofNat (k + 1)) = _
    rw [Int.negSucc_eq, Int32.ofInt_neg]; rfl
def cv : AV → Value
  | .inl v => v
  | .inr q => .ref q.2
def cvL (al : AL) : XL := al.map fun q => (q.1, cv q.2)
def cvS (st : List AV) : List Value := st.map cv
def acat : AV → Nat
  | .inl v => v.category
  | .inr _ => 1
theorem cv_cat (v : AV) : (cv v).category = acat v := by cases v <;> rfl
def ak : AL → Nat → Option AV
  | [], _ => none
  | (j, v) :: t, i => match Nat.beq j i with
    | true => some v
    | false => ak t i
def adel : AL → Nat → Nat → AL
  | [], _, _ => []
  | (j, w) :: t, i, n => match Nat.blt j (i + n) && Nat.blt i (j + acat w) with
    | true => adel t i n
    | false => (j, w) :: adel t i n
def ast (al : AL) (i : Nat) (v : AV) : AL := (i, v) :: adel al i (acat v)
def anorm : List Nat → AL → AL
  | [], _ => []
  | k :: t, al => match ak al k with
    | some v => (k, v) :: anorm t al
    | none => anorm t al
theorem ak_cv (al : AL) (i : Nat) : xk (cvL al) i = (ak al i).map cv := by
  induction al with
  | nil => rfl
  | cons q t ih =>
    obtain ⟨j, v⟩ := q
    show (if j = i then some (cv v) else xk (cvL t) i) = _
    unfold ak
    cases h : Nat.beq j i with
    | true => rw [if_pos (Nat.eq_of_beq_eq_true h)]; rfl
    | false => rw [if_neg (Nat.ne_of_beq_eq_false h)]; exact ih
theorem adel_cv (al : AL) (i n : Nat) : xdel (cvL al) i n = cvL (adel al i n) := by
  induction al with
  | nil => rfl
  | cons q t ih =>
    obtain ⟨j, v⟩ := q
    show (if j < i + n ∧ i < j + (cv v).category then xdel (cvL t) i n else (j, cv v) :: xdel (cvL t) i n) = _
    unfold adel
    rw [cv_cat]
    cases h1 : Nat.blt j (i + n) <;> cases h2 : Nat.blt i (j + acat v) <;> simp only [Bool.and_true, Bool.and_false, Bool.false_and] <;>
      simp only [Nat.blt_eq, ← Bool.not_eq_true] at h1 h2
    · rw [if_neg (fun h => h1 h.1), ih]; rfl
    · rw [if_neg (fun h => h1 h.1), ih]; rfl
    · rw [if_neg (fun h => h2 h.2), ih]; rfl
    · rw [if_pos ⟨h1, h2⟩, ih]
theorem ast_cv (al : AL) (i : Nat) (v : AV) : xst (cvL al) i (cv v) = cvL (ast al i v) := by
  unfold xst ast
  rw [cv_cat, adel_cv]; rfl
theorem anorm_cv (lv : List Nat) (al : AL) : xnorm lv (cvL al) = cvL (anorm lv al) := by
  induction lv with
  | nil => rfl
  | cons k t ih =>
    unfold xnorm anorm
    rw [ak_cv]
    cases ak al k with
    | none => exact ih
    | some v => show (k, cv v) :: _ = _; rw [ih]; rfl
/-- where the cell of a reference field lies behind its object, and its kind -/
def fofT : List (List (Nat × Nat)) := [[(0, 99), (1, 200128)], [(0, 99), (1, 200012), (2, 200012), (3, 200012)], [(0, 99), (0, 99), (1, 250008), (2, 250002), (3, 220002)], [(1, 9), (3, 8), (23, 6), (0, 99), (0, 99)], [(0, 99), (1, 200012), (2, 200012), (3, 200012)], [(0, 99), (0, 99), (1, 200024), (2, 200012)], [(0, 99), (1, 200006), (2, 200006), (3, 200006), (4, 200048)], [(0, 99), (1, 200012), (2, 200012), (3, 200012), (4, 200012), (5, 200012), (6, 200012), (7, 200012), (8, 200012)], [(0, 99), (0, 99), (0, 99), (0, 99), (1, 200006), (2, 200006), (3, 7), (12, 1), (16, 4)], [(1, 200700), (0, 99), (0, 99), (0, 99), (0, 99), (0, 99), (0, 99)], [(1, 3), (29, 8), (49, 8), (69, 6), (74, 2), (278, 5), (281, 0), (0, 99)], [(0, 99), (1, 200243), (2, 200243), (3, 201944), (4, 200486), (5, 220002), (0, 99), (0, 99), (6, 210700), (0, 99), (0, 99), (0, 99), (0, 99), (0, 99), (0, 99), (0, 99), (0, 99), (7, 200024), (0, 99), (8, 200012), (9, 210120), (0, 99)]]
def fof (f : Nat) : Nat × Nat := (fofT.getD (f / 32) []).getD (f % 32) (0, 99)
/-- the kind of the cell at an address: a component's place, or 10000 times the sort of an array and its length; 30, 31: the texts and their bytes; 40, 41: the two static arrays -/
def xkd (a : Nat) : Nat := match S0[a]? with
  | some (c, n, _) => if c < 12 then c else 10000 * c + n
  | none => if a = 1000001 then 40 else if a = 1000002 then 41 else if 1000010 ≤ a ∧ a < 1000028 then 30 else if 1000040 ≤ a ∧ a < 1000058 then 31 else 99
def wt : AV → Prop
  | .inl _ => True
  | .inr q => xkd q.2 = q.1 ∧ q.1 ≠ 99
def wtL (al : AL) : Prop := ∀ q ∈ al, wt q.2
def wtS (st : List AV) : Prop := ∀ v ∈ st, wt v
theorem ak_wt {al : AL} (h : wtL al) {i : Nat} {v : AV} (e : ak al i = some v) : wt v := by
  induction al with
  | nil => cases e
  | cons q t ih =>
    obtain ⟨j, u⟩ := q
    unfold ak at e
    cases hb : Nat.beq j i with
    | true => rw [hb] at e; cases e; exact h _ List.mem_cons_self
    | false => rw [hb] at e; exact ih (fun q hq => h q (List.mem_cons_of_mem _ hq)) e
theorem adel_wt {al : AL} (h : wtL al) (i n : Nat) : wtL (adel al i n) := by
  induction al with
  | nil => exact h
  | cons q t ih =>
    obtain ⟨j, u⟩ := q
    have h1 := ih (fun q hq => h q (List.mem_cons_of_mem _ hq))
    unfold adel
    split
    · exact h1
    · intro q hq
      rcases List.mem_cons.mp hq with rfl | hq
      · exact h _ List.mem_cons_self
      · exact h1 q hq
theorem wtL_cons {al : AL} {i : Nat} {v : AV} (h : wtL al) (hv : wt v) : wtL ((i, v) :: al) := by
  intro q hq
  rcases List.mem_cons.mp hq with rfl | hq
  · exact hv
  · exact h q hq
theorem ast_wt {al : AL} (h : wtL al) {i : Nat} {v : AV} (hv : wt v) : wtL (ast al i v) := wtL_cons (adel_wt h _ _) hv
theorem anorm_wt {al : AL} (h : wtL al) (lv : List Nat) : wtL (anorm lv al) := by
  induction lv with
  | nil => intro q hq; cases hq
  | cons k t ih =>
    unfold anorm
    split
    · rename_i v e
      exact wtL_cons ih (ak_wt h e)
    · exact ih
theorem wtS_cons {st : List AV} {v : AV} (h : wtS st) (hv : wt v) : wtS (v :: st) := by
  intro q hq
  rcases List.mem_cons.mp hq with rfl | hq
  · exact hv
  · exact h q hq
theorem wtS_tl {st : List AV} {v : AV} (h : wtS (v :: st)) : wtS st := fun q hq => h q (List.mem_cons_of_mem _ hq)
theorem wtS_hd {st : List AV} {v : AV} (h : wtS (v :: st)) : wt v := h _ List.mem_cons_self
/-- what two static arrays hold -/
def c40 (k : Nat) : Int32 := [1, 0, 1, 0, 1, 0].getD k 0
def c41 (k : Nat) : Int32 := [999, 9999, 9999, 50, 100, 9999].getD k 0
/-- one instruction: what must hold for it to go on so that k holds -/
def vone (i : Instr) (al : AL) (st : List AV) (m : XM) (k : AL → List AV → XM → Prop) : Prop :=
  match i with
  | .iconst n => k al (vI (xi n) :: st) m
  | .ldc_w b => k al (vF (UInt32.ofNat b) :: st) m
  | .ldc2_w b => k al (vD (UInt64.ofNat b) :: st) m
  | .jsr n => k al (vJ (Int64.ofInt n) :: st) m
  | .ldc s => match Nat.blt s 18 with
    | true => k al (vR 30 (1000010 + s) :: st) m
    | false => False
  | .fconst n => k al (vF (if (n : Nat) = 0 then FP.fconst0 else if (n : Nat) = 1 then FP.fconst1 else FP.fconst2) :: st) m
  | .dconst n => k al (vD (if (n : Nat) = 0 then FP.dconst0 else FP.dconst1) :: st) m
  | .lconst n => k al (vJ (Int64.ofNat (n : Nat)) :: st) m
  | .iload j => match ak al j with
    | some (.inl (.int v)) => k al (vI v :: st) m
    | _ => False
  | .aload j => match ak al j with
    | some (.inr (kd, a)) => k al (vR kd a :: st) m
    | _ => False
  | .lload j => match ak al j with
    | some (.inl (.long v)) => k al (vJ v :: st) m
    | _ => False
  | .fload j => match ak al j with
    | some (.inl (.float v)) => k al (vF v :: st) m
    | _ => False
  | .dload j => match ak al j with
    | some (.inl (.double v)) => k al (vD v :: st) m
    | _ => False
  | .istore j => match st with
    | .inl (.int v) :: r => k (ast al j (vI v)) r m
    | _ => False
  | .astore j => match st with
    | .inr (kd, a) :: r => k (ast al j (vR kd a)) r m
    | _ => False
  | .lstore j => match st with
    | .inl (.long v) :: r => k (ast al j (vJ v)) r m
    | _ => False
  | .fstore j => match st with
    | .inl (.float v) :: r => k (ast al j (vF v)) r m
    | _ => False
  | .dstore j => match st with
    | .inl (.double v) :: r => k (ast al j (vD v)) r m
    | _ => False
  | .iinc j n => match ak al j with
    | some (.inl (.int v)) => k (ast al j (vI (v + xi n))) st m
    | _ => False
  | .iadd => match st with
    | .inl (.int y) :: .inl (.int x) :: r => k al (vI (x + y) :: r) m
    | _ => False
  | .isub => match st with
    | .inl (.int y) :: .inl (.int x) :: r => k al (vI (x - y) :: r) m
    | _ => False
  | .imul => match st with
    | .inl (.int y) :: .inl (.int x) :: r => k al (vI (x * y) :: r) m
    | _ => False
  | .idiv => match st with
    | .inl (.int y) :: .inl (.int x) :: r => ¬ y = 0 ∧ k al (vI (x / y) :: r) m
    | _ => False
  | .irem => match st with
    | .inl (.int y) :: .inl (.int x) :: r => ¬ y = 0 ∧ k al (vI (x - x / y * y) :: r) m
    | _ => False
  | .ineg => match st with
    | .inl (.int x) :: r => k al (vI (-x) :: r) m
    | _ => False
  | .iand => match st with
    | .inl (.int y) :: .inl (.int x) :: r => k al (vI (x &&& y) :: r) m
    | _ => False
  | .ior => match st with
    | .inl (.int y) :: .inl (.int x) :: r => k al (vI (x ||| y) :: r) m
    | _ => False
  | .ishl => match st with
    | .inl (.int y) :: .inl (.int x) :: r => k al (vI (x <<< (y &&& 31)) :: r) m
    | _ => False
  | .ishr => match st with
    | .inl (.int y) :: .inl (.int x) :: r => k al (vI (x >>> (y &&& 31)) :: r) m
    | _ => False
  | .iushr => match st with
    | .inl (.int y) :: .inl (.int x) :: r => k al (vI (x.toUInt32 >>> (y.toUInt32 &&& Int32.toUInt32 31)).toInt32 :: r) m
    | _ => False
  | .i2l => match st with
    | .inl (.int x) :: r => k al (vJ x.toInt64 :: r) m
    | _ => False
  | .i2b => match st with
    | .inl (.int x) :: r => k al (vI x.toInt8.toInt32 :: r) m
    | _ => False
  | .i2c => match st with
    | .inl (.int x) :: r => k al (vI (x.toUInt32 % 65536).toInt32 :: r) m
    | _ => False
  | .i2f => match st with
    | .inl (.int x) :: r => k al (vF (FP.i2f x) :: r) m
    | _ => False
  | .i2d => match st with
    | .inl (.int x) :: r => k al (vD (FP.i2d x) :: r) m
    | _ => False
  | .f2i => match st with
    | .inl (.float x) :: r => k al (vI (FP.f2i x) :: r) m
    | _ => False
  | .d2l => match st with
    | .inl (.double x) :: r => k al (vJ (FP.d2l x) :: r) m
    | _ => False
  | .ladd => match st with
    | .inl (.long y) :: .inl (.long x) :: r => k al (vJ (x + y) :: r) m
    | _ => False
  | .lsub => match st with
    | .inl (.long y) :: .inl (.long x) :: r => k al (vJ (x - y) :: r) m
    | _ => False
  | .lshl => match st with
    | .inl (.int y) :: .inl (.long x) :: r => k al (vJ (x <<< (y.toInt64 &&& 63)) :: r) m
    | _ => False
  | .lcmp => match st with
    | .inl (.long y) :: .inl (.long x) :: r => k al (vI (lg_cmp x y) :: r) m
    | _ => False
  | .fmul => match st with
    | .inl (.float y) :: .inl (.float x) :: r => FP.fmul x y &&& 0x7fffffff ≤ 0x7f800000 ∧ k al (vF (FP.fmul x y) :: r) m
    | _ => False
  | .fdiv => match st with
    | .inl (.float y) :: .inl (.float x) :: r => FP.fdiv x y &&& 0x7fffffff ≤ 0x7f800000 ∧ k al (vF (FP.fdiv x y) :: r) m
    | _ => False
  | .fsub => match st with
    | .inl (.float y) :: .inl (.float x) :: r => FP.fsub x y &&& 0x7fffffff ≤ 0x7f800000 ∧ k al (vF (FP.fsub x y) :: r) m
    | _ => False
  | .dmul => match st with
    | .inl (.double y) :: .inl (.double x) :: r => FP.dmul x y &&& 0x7fffffffffffffff ≤ 0x7ff0000000000000 ∧ k al (vD (FP.dmul x y) :: r) m
    | _ => False
  | .ddiv => match st with
    | .inl (.double y) :: .inl (.double x) :: r => FP.ddiv x y &&& 0x7fffffffffffffff ≤ 0x7ff0000000000000 ∧ k al (vD (FP.ddiv x y) :: r) m
    | _ => False
  | .dsub => match st with
    | .inl (.double y) :: .inl (.double x) :: r => FP.dsub x y &&& 0x7fffffffffffffff ≤ 0x7ff0000000000000 ∧ k al (vD (FP.dsub x y) :: r) m
    | _ => False
  | .fcmp op => match st with
    | .inl (.float y) :: .inl (.float x) :: r => k al (vI (Op.cmpValue (FP.fcmp x y) op) :: r) m
    | _ => False
  | .dcmp op => match st with
    | .inl (.double y) :: .inl (.double x) :: r => k al (vI (Op.cmpValue (FP.dcmp x y) op) :: r) m
    | _ => False
  | .dup => match st with
    | v :: r => match Nat.beq (acat v) 1 with
      | true => k al (v :: v :: r) m
      | false => False
    | _ => False
  | .dup2 => match st with
    | v :: u :: r => match Nat.beq (acat v) 1 && Nat.beq (acat u) 1 with
      | true => k al (v :: u :: v :: u :: r) m
      | false => False
    | _ => False
  | .pop => match st with
    | v :: r => match Nat.beq (acat v) 1 with
      | true => k al r m
      | false => False
    | _ => False
  | .frem => match st with
    | [.inl (.float z), .inl (.float x)] => (FP.fIsNaN x = false ∧ FP.fIsNaN z = false) ∧ k al [vF (Native.java_lang_Math.nans.pick32 true x z)] m
    | _ => False
  | .invokedynamic j => match st with
    | [.inl (.float x)] => match Nat.beq j 0 with
      | true => k al [vI x.toInt32] m
      | false => False
    | [.inl (.double x)] => match Nat.beq j 1 with
      | true => k al [vJ x.toInt64] m
      | false => False
    | _ => False
  | .getstatic j => match j with
    | 0 => k al (vR 40 1000001 :: st) m
    | 1 => k al (vR 41 1000002 :: st) m
    | 2 => k al (vI 1 :: st) m
    | 3 => k al (vJ (-2147483648) :: st) m
    | 4 => k al (Sum.inl (Value.retAddr 0) :: st) m
    | _ => False
  | .getfield f => match st with
    | .inr (kd, a) :: r => match Nat.beq kd (f / 32) && Nat.blt kd 12 with
      | true => match Nat.blt (f % 32) (xnf.getD kd 0) with
        | true => match xref kd (f % 32) with
          | true => k al (vR (fof f).2 (a + (fof f).1) :: r) m
          | false => k al (vI (m a (f % 32)) :: r) m
        | false => False
      | false => match Nat.beq kd 30 with
        | true => match Nat.beq f 960 with
          | true => k al (vR 31 (a + 30) :: r) m
          | false => match Nat.beq f 961 with
            | true => k al (vI 0 :: r) m
            | false => False
        | false => False
    | _ => False
  | .putfield f => match st with
    | .inl (.int v) :: .inr (kd, a) :: r => match Nat.beq kd (f / 32) && Nat.blt kd 12 && Nat.blt (f % 32) (xnf.getD kd 0) && !(xref kd (f % 32)) with
      | true => match xbl kd (f % 32) with
        | true => (v = 0 ∨ v = 1) ∧ k al r (um m a (f % 32) v)
        | false => k al r (um m a (f % 32) v)
      | false => False
    | _ => False
  | .iaload => match st with
    | .inl (.int i) :: .inr (kd, a) :: r => match Nat.beq (kd / 10000) 20 with
      | true => xin i (kd % 10000) = true ∧ k al (vI (m a (ix i)) :: r) m
      | false => match Nat.beq kd 40 with
        | true => xin i 6 = true ∧ k al (vI (c40 (ix i)) :: r) m
        | false => match Nat.beq kd 41 with
          | true => xin i 6 = true ∧ k al (vI (c41 (ix i)) :: r) m
          | false => False
    | _ => False
  | .iastore => match st with
    | .inl (.int v) :: .inl (.int i) :: .inr (kd, a) :: r => match Nat.beq (kd / 10000) 20 with
      | true => xin i (kd % 10000) = true ∧ k al r (um m a (ix i) v)
      | false => False
    | _ => False
  | .baload => match st with
    | .inl (.int i) :: .inr (kd, a) :: r => match Nat.beq (kd / 10000) 21 || Nat.beq (kd / 10000) 22 with
      | true => xin i (kd % 10000) = true ∧ k al (vI (m a (ix i)) :: r) m
      | false => match Nat.beq kd 31 with
        | true => match xcb a with
          | some z => xin i z.1 = true ∧ k al (vI (z.2 (ix i)) :: r) m
          | none => False
        | false => False
    | _ => False
  | .bastore => match st with
    | .inl (.int v) :: .inl (.int i) :: .inr (kd, a) :: r => match Nat.beq (kd / 10000) 21 with
      | true => xin i (kd % 10000) = true ∧ k al r (um m a (ix i) v.toInt8.toInt32)
      | false => match Nat.beq (kd / 10000) 22 with
        | true => xin i (kd % 10000) = true ∧ (v = 0 ∨ v = 1) ∧ k al r (um m a (ix i) v)
        | false => False
    | _ => False
  | .aaload => match st with
    | .inl (.int i) :: .inr (kd, a) :: r => match Nat.beq kd 250008 with
      | true => xin i 8 = true ∧ k al (vR 8 (a + 3 + 20 * ix i) :: r) m
      | false => match Nat.beq kd 250002 with
        | true => xin i 2 = true ∧ k al (vR 8 (a + 162 + 20 * ix i) :: r) m
        | false => False
    | _ => False
  | .arraylength => match st with
    | .inr (kd, a) :: r => match Nat.beq (kd / 10000) 20 || Nat.beq (kd / 10000) 21 || Nat.beq (kd / 10000) 22 || Nat.beq (kd / 10000) 25 with
      | true => k al (vI (n32 (kd % 10000)) :: r) m
      | false => match Nat.beq kd 31 with
        | true => match xcb a with
          | some z => k al (vI (n32 z.1) :: r) m
          | none => False
        | false => False
    | _ => False
  | _ => False
end
section
/-! The verification conditions of one instruction are sound. -/
def sck (a : Nat) : Bool := match S0[a]? with
  | some (c, n, rs) => Nat.blt n 10000 && (if c < 12 then Nat.beq n (xnf.getD c 0) && (List.range n).all (fun j => !(xref c j) || (rs[j]? == some (some (a + (fof (32 * c + j)).1)) && Nat.beq (xkd (a + (fof (32 * c + j)).1)) (fof (32 * c + j)).2 && !(Nat.beq (fof (32 * c + j)).2 99)))
    else Nat.blt 19 c && (if c = 25 then (if n = 8 then (List.range 8).all (fun j => rs[j]? == some (some (a + 3 + 20 * j)) && Nat.beq (xkd (a + 3 + 20 * j)) 8) else Nat.beq n 2 && (List.range 2).all (fun j => rs[j]? == some (some (a + 162 + 20 * j)) && Nat.beq (xkd (a + 162 + 20 * j)) 8)) else true))
  | none => true
theorem S0_len : S0.length = 283 := by decide +kernel
theorem sck_ok : ((List.range 283).all sck) = true := by decide +kernel
theorem sck_at {a : Nat} {x : XC} (h : S0[a]? = some x) : sck a = true := by
  have : a < 283 := by
    rw [← S0_len]
    exact (List.getElem?_eq_some_iff.mp h).1
  exact List.all_eq_true.mp sck_ok a (List.mem_range.mpr this)
theorem S0_none {a : Nat} (h : 1000000 ≤ a) : S0[a]? = none := by
  rw [List.getElem?_eq_none_iff, S0_len]; omega
theorem xk_arr {a k c : Nat} (h : xkd a = k) (hc : k / 10000 = c) (h0 : c ≠ 0) : ∃ rs, S0[a]? = some (c, k % 10000, rs) := by
  unfold xkd at h
  split at h
  · rename_i c' n rs e
    have hs := sck_at e
    unfold sck at hs
    rw [e] at hs
    dsimp only at hs
    rw [Bool.and_eq_true] at hs
    have hn : n < 10000 := by simpa [Nat.blt_eq] using hs.1
    split at h
    · omega
    · have e1 : c' = c := by omega
      have e2 : n = k % 10000 := by omega
      subst e1; subst e2
      exact ⟨rs, e⟩
  · exfalso
    split at h
    · omega
    · split at h
      · omega
      · split at h
        · omega
        · split at h <;> omega
theorem xk_obj {a k : Nat} (h : xkd a = k) (hk : k < 12) : ∃ rs, S0[a]? = some (k, xnf.getD k 0, rs) ∧ ∀ j, j < xnf.getD k 0 → xref k j = true → rs[j]? = some (some (a + (fof (32 * k + j)).1)) ∧ xkd (a + (fof (32 * k + j)).1) = (fof (32 * k + j)).2 ∧ (fof (32 * k + j)).2 ≠ 99 := by
  unfold xkd at h
  split at h
  · rename_i c' n rs e
    have hs := sck_at e
    unfold sck at hs
    rw [e] at hs
    dsimp only at hs
    rw [Bool.and_eq_true] at hs
    obtain ⟨h1, h2⟩ := hs
    split at h
    · rename_i hc
      subst h
      rw [if_pos hk, Bool.and_eq_true] at h2
      have e2 := Nat.eq_of_beq_eq_true h2.1
      subst e2
      refine ⟨rs, e, ?_⟩
      intro j hj hr
      have := List.all_eq_true.mp h2.2 j (List.mem_range.mpr hj)
      rw [hr] at this
      simp only [Bool.not_true, Bool.false_or, Bool.and_eq_true, beq_iff_eq, Nat.beq_eq, Bool.not_eq_true'] at this
      exact ⟨this.1.1, this.1.2, Nat.ne_of_beq_eq_false this.2⟩
    · omega
  · exfalso
    split at h
    · omega
    · split at h
      · omega
      · split at h
        · omega
        · split at h <;> omega
theorem xk_ring {a : Nat} (h : xkd a = 250008) : ∃ rs, S0[a]? = some (25, 8, rs) ∧ ∀ j, j < 8 → rs[j]? = some (some (a + 3 + 20 * j)) ∧ xkd (a + 3 + 20 * j) = 8 := by
  obtain ⟨rs, e⟩ := xk_arr (c := 25) h (by omega) (by omega)
  refine ⟨rs, e, ?_⟩
  have hs := sck_at e
  unfold sck at hs
  rw [e] at hs
  dsimp only at hs
  rw [Bool.and_eq_true, if_neg (by omega), Bool.and_eq_true, if_pos rfl, if_pos (by omega)] at hs
  intro j hj
  have := List.all_eq_true.mp hs.2.2 j (List.mem_range.mpr hj)
  simp only [Bool.and_eq_true, beq_iff_eq, Nat.beq_eq] at this
  exact this
theorem xk_slots {a : Nat} (h : xkd a = 250002) : ∃ rs, S0[a]? = some (25, 2, rs) ∧ ∀ j, j < 2 → rs[j]? = some (some (a + 162 + 20 * j)) ∧ xkd (a + 162 + 20 * j) = 8 := by
  obtain ⟨rs, e⟩ := xk_arr (c := 25) h (by omega) (by omega)
  refine ⟨rs, e, ?_⟩
  have hs := sck_at e
  unfold sck at hs
  rw [e] at hs
  dsimp only at hs
  rw [Bool.and_eq_true, if_neg (by omega), Bool.and_eq_true, if_pos rfl, if_neg (by omega), Bool.and_eq_true] at hs
  intro j hj
  have := List.all_eq_true.mp hs.2.2.2 j (List.mem_range.mpr hj)
  simp only [Bool.and_eq_true, beq_iff_eq, Nat.beq_eq] at this
  exact this
theorem xk_const {a k : Nat} (h : xkd a = k) (h1 : 12 ≤ k) (h2 : k < 99) : S0[a]? = none ∧ ((k = 40 ∧ a = 1000001) ∨ (k = 41 ∧ a = 1000002) ∨ (k = 30 ∧ 1000010 ≤ a ∧ a < 1000028) ∨ (k = 31 ∧ 1000040 ≤ a ∧ a < 1000058)) := by
  unfold xkd at h
  split at h
  · rename_i c' n rs e
    exfalso
    have hs := sck_at e
    unfold sck at hs
    rw [e] at hs
    dsimp only at hs
    rw [Bool.and_eq_true] at hs
    split at h
    · omega
    · rename_i hc
      rw [if_neg hc, Bool.and_eq_true] at hs
      have : 19 < c' := by simpa [Nat.blt_eq] using hs.2.1
      omega
  · rename_i e
    refine ⟨e, ?_⟩
    split at h
    · omega
    · split at h
      · omega
      · split at h
        · omega
        · split at h <;> omega
def vgoes (i : Instr) (al : AL) (st : List AV) (m : XM) (k : AL → List AV → XM → Prop) : Prop :=
  ∃ (al' : AL) (st' : List AV) (m' : XM), (∀ (e : Nat) (w : Nat → Value), xone xK0 i (cvL al) (cvS st) (S0, e, w, m) = some (cvL al', cvS st', S0, e, w, m')) ∧ wtL al' ∧ wtS st' ∧ k al' st' m'
theorem wt_val (v : Value) : wt (.inl v) := trivial
theorem vone_ok1 {i : Instr} {al : AL} {st : List AV} {m : XM} {k : AL → List AV → XM → Prop} (h : vone i al st m k) (hl : wtL al) (hs : wtS st)
    (hi : ∀ f, i ≠ .getfield f) (hp : ∀ f, i ≠ .putfield f) (h3 : i ≠ .iaload) (h4 : i ≠ .iastore) (h5 : i ≠ .baload) (h6 : i ≠ .bastore) (h7 : i ≠ .aaload) (h8 : i ≠ .arraylength) : vgoes i al st m k := by
  cases i
  case getfield f => exact absurd rfl (hi f)
  case putfield f => exact absurd rfl (hp f)
  case iaload => exact absurd rfl h3
  case iastore => exact absurd rfl h4
  case baload => exact absurd rfl h5
  case bastore => exact absurd rfl h6
  case aaload => exact absurd rfl h7
  case arraylength => exact absurd rfl h8
  case iconst n =>
    refine ⟨_, _, _, ?_, hl, wtS_cons (v := .inl _) hs trivial, h⟩
    intro e w
    show some (cvL al, Value.int (Int32.ofInt n) :: cvS st, _) = _
    rw [← xi_eq]; rfl
  case ldc_w b => exact ⟨_, _, _, fun e w => rfl, hl, wtS_cons (v := vF (UInt32.ofNat b)) hs trivial, h⟩
  case ldc2_w b => exact ⟨_, _, _, fun e w => rfl, hl, wtS_cons (v := vD (UInt64.ofNat b)) hs trivial, h⟩
  case jsr b => exact ⟨_, _, _, fun e w => rfl, hl, wtS_cons (v := vJ (Int64.ofInt b)) hs trivial, h⟩
  case fconst n => exact ⟨_, _, _, fun e w => rfl, hl, wtS_cons (v := vF _) hs trivial, h⟩
  case dconst n => exact ⟨_, _, _, fun e w => rfl, hl, wtS_cons (v := vD _) hs trivial, h⟩
  case lconst n => exact ⟨_, _, _, fun e w => rfl, hl, wtS_cons (v := vJ _) hs trivial, h⟩
  case ldc s =>
    unfold vone at h
    dsimp only at h
    split at h
    · rename_i hb
      rw [Nat.blt_eq] at hb
      refine ⟨_, _, _, fun e w => rfl, hl, wtS_cons (v := vR 30 (1000010 + s)) hs ⟨?_, by omega⟩, h⟩
      show xkd (1000010 + s) = 30
      unfold xkd
      rw [S0_none (by omega)]
      dsimp only
      rw [if_neg (by omega), if_neg (by omega), if_pos (by omega)]
    · exact h.elim
  case iload j =>
    unfold vone at h
    dsimp only at h
    split at h
    · rename_i e
      refine ⟨_, _, _, ?_, hl, wtS_cons (v := .inl _) hs trivial, h⟩
      intro e w
      unfold xone
      simp only [ak_cv, *]; rfl
    · exact h.elim
  case lload j =>
    unfold vone at h
    dsimp only at h
    split at h
    · rename_i e
      refine ⟨_, _, _, ?_, hl, wtS_cons (v := .inl _) hs trivial, h⟩
      intro e w
      unfold xone
      simp only [ak_cv, *]; rfl
    · exact h.elim
  case fload j =>
    unfold vone at h
    dsimp only at h
    split at h
    · rename_i e
      refine ⟨_, _, _, ?_, hl, wtS_cons (v := .inl _) hs trivial, h⟩
      intro e w
      unfold xone
      simp only [ak_cv, *]; rfl
    · exact h.elim
  case dload j =>
    unfold vone at h
    dsimp only at h
    split at h
    · rename_i e
      refine ⟨_, _, _, ?_, hl, wtS_cons (v := .inl _) hs trivial, h⟩
      intro e w
      unfold xone
      simp only [ak_cv, *]; rfl
    · exact h.elim
  case aload j =>
    unfold vone at h
    dsimp only at h
    split at h
    · rename_i kd a e
      refine ⟨_, _, _, ?_, hl, wtS_cons (v := .inr (kd, a)) hs (ak_wt hl e), h⟩
      intro e w
      unfold xone
      simp only [ak_cv, *]; rfl
    · exact h.elim
  case istore j =>
    unfold vone at h
    dsimp only at h
    split at h
    · rename_i v r
      refine ⟨_, _, _, ?_, ast_wt (v := .inl _) hl trivial, wtS_tl hs, h⟩
      intro e w
      rw [← ast_cv]; rfl
    · exact h.elim
  case lstore j =>
    unfold vone at h
    dsimp only at h
    split at h
    · rename_i v r
      refine ⟨_, _, _, ?_, ast_wt (v := .inl _) hl trivial, wtS_tl hs, h⟩
      intro e w
      rw [← ast_cv]; rfl
    · exact h.elim
  case fstore j =>
    unfold vone at h
    dsimp only at h
    split at h
    · rename_i v r
      refine ⟨_, _, _, ?_, ast_wt (v := .inl _) hl trivial, wtS_tl hs, h⟩
      intro e w
      rw [← ast_cv]; rfl
    · exact h.elim
  case dstore j =>
    unfold vone at h
    dsimp only at h
    split at h
    · rename_i v r
      refine ⟨_, _, _, ?_, ast_wt (v := .inl _) hl trivial, wtS_tl hs, h⟩
      intro e w
      rw [← ast_cv]; rfl
    · exact h.elim
  case astore j =>
    unfold vone at h
    dsimp only at h
    split at h
    · rename_i kd a r
      refine ⟨_, _, _, ?_, ast_wt (v := .inr (kd, a)) hl (wtS_hd hs), wtS_tl hs, h⟩
      intro e w
      rw [← ast_cv]; rfl
    · exact h.elim
  case iinc j n =>
    unfold vone at h
    dsimp only at h
    split at h
    · rename_i v e9
      refine ⟨_, _, _, ?_, ast_wt (v := .inl _) hl trivial, hs, h⟩
      intro e w
      rw [← ast_cv]
      unfold xone
      simp only [ak_cv, e9, Option.map, cv, xi_eq]
    · exact h.elim
  case iadd | isub | imul | iand | ior | ishl | ishr | iushr | ladd | lsub | lshl | lcmp | fcmp op | dcmp op =>
    unfold vone at h
    dsimp only at h
    split at h
    · exact ⟨_, _, _, fun e w => rfl, hl, wtS_cons (v := .inl _) (wtS_tl (wtS_tl hs)) trivial, h⟩
    · exact h.elim
  case ineg | i2l | i2b | i2c | i2f | i2d | f2i | d2l =>
    unfold vone at h
    dsimp only at h
    split at h
    · exact ⟨_, _, _, fun e w => rfl, hl, wtS_cons (v := .inl _) (wtS_tl hs) trivial, h⟩
    · exact h.elim
  case idiv | irem | fmul | fdiv | fsub | dmul | ddiv | dsub =>
    unfold vone at h
    dsimp only at h
    split at h
    · refine ⟨_, _, _, ?_, hl, wtS_cons (v := .inl _) (wtS_tl (wtS_tl hs)) trivial, h.2⟩
      intro e w
      first
        | exact if_neg h.1
        | exact if_pos h.1
    · exact h.elim
  case dup =>
    unfold vone at h
    dsimp only at h
    split at h
    · rename_i v r
      split at h
      · rename_i hb
        refine ⟨_, _, _, ?_, hl, wtS_cons hs (wtS_hd hs), h⟩
        intro e w
        exact if_pos (by rw [cv_cat]; exact Nat.eq_of_beq_eq_true hb)
      · exact h.elim
    · exact h.elim
  case dup2 =>
    unfold vone at h
    dsimp only at h
    split at h
    · rename_i v u r
      split at h
      · rename_i hb
        rw [Bool.and_eq_true] at hb
        refine ⟨_, _, _, ?_, hl, wtS_cons (wtS_cons hs (wtS_hd (wtS_tl hs))) (wtS_hd hs), h⟩
        intro e w
        exact if_pos ⟨by rw [cv_cat]; exact Nat.eq_of_beq_eq_true hb.1, by rw [cv_cat]; exact Nat.eq_of_beq_eq_true hb.2⟩
      · exact h.elim
    · exact h.elim
  case pop =>
    unfold vone at h
    dsimp only at h
    split at h
    · rename_i v r
      split at h
      · rename_i hb
        refine ⟨_, _, _, ?_, hl, wtS_tl hs, h⟩
        intro e w
        exact if_pos (by rw [cv_cat]; exact Nat.eq_of_beq_eq_true hb)
      · exact h.elim
    · exact h.elim
  case frem =>
    unfold vone at h
    dsimp only at h
    split at h
    · refine ⟨_, _, _, ?_, hl, wtS_cons (v := .inl _) (wtS_tl (wtS_tl hs)) trivial, h.2⟩
      intro e w
      exact if_pos ⟨h.1.1, h.1.2, Nat.zero_le _⟩
    · exact h.elim
  case invokedynamic j =>
    unfold vone at h
    dsimp only at h
    split at h
    · split at h
      · rename_i hb
        refine ⟨_, _, _, ?_, hl, wtS_cons (v := .inl _) (wtS_tl hs) trivial, h⟩
        intro e w
        exact if_pos ⟨Nat.eq_of_beq_eq_true hb, Nat.zero_le _⟩
      · exact h.elim
    · split at h
      · rename_i hb
        refine ⟨_, _, _, ?_, hl, wtS_cons (v := .inl _) (wtS_tl hs) trivial, h⟩
        intro e w
        exact if_pos ⟨Nat.eq_of_beq_eq_true hb, Nat.zero_le _⟩
      · exact h.elim
    · exact h.elim
  case getstatic j =>
    unfold vone at h
    dsimp only at h
    split at h
    · exact ⟨_, _, _, fun e w => rfl, hl, wtS_cons (v := vR 40 1000001) hs ⟨by unfold xkd; rw [S0_none (by omega)]; rfl, by omega⟩, h⟩
    · exact ⟨_, _, _, fun e w => rfl, hl, wtS_cons (v := vR 41 1000002) hs ⟨by unfold xkd; rw [S0_none (by omega)]; rfl, by omega⟩, h⟩
    · exact ⟨_, _, _, fun e w => rfl, hl, wtS_cons (v := vI 1) hs trivial, h⟩
    · exact ⟨_, _, _, fun e w => rfl, hl, wtS_cons (v := vJ (-2147483648)) hs trivial, h⟩
    · exact ⟨_, _, _, fun e w => rfl, hl, wtS_cons (v := Sum.inl (Value.retAddr 0)) hs trivial, h⟩
    · exact h.elim
  all_goals exact h.elim
end
section
theorem vone_ok2 {i : Instr} {al : AL} {st : List AV} {m : XM} {k : AL → List AV → XM → Prop} (h : vone i al st m k) (hl : wtL al) (hs : wtS st)
    (hi : (∃ f, i = .getfield f) ∨ (∃ f, i = .putfield f) ∨ i = .iaload ∨ i = .iastore ∨ i = .baload ∨ i = .bastore ∨ i = .aaload ∨ i = .arraylength) : vgoes i al st m k := by
  rcases hi with ⟨f, rfl⟩ | ⟨f, rfl⟩ | rfl | rfl | rfl | rfl | rfl | rfl
  · unfold vone at h
    dsimp only at h
    split at h
    · rename_i kd a r
      obtain ⟨hq1, hq2⟩ : wt (.inr (kd, a)) := wtS_hd hs
      split at h
      · rename_i hb
        rw [Bool.and_eq_true, Nat.blt_eq] at hb
        have e1 := Nat.eq_of_beq_eq_true hb.1
        split at h
        · rename_i hn
          rw [Nat.blt_eq] at hn
          obtain ⟨rs, e2, e3⟩ := xk_obj hq1 hb.2
          split at h
          · rename_i hr
            obtain ⟨f1, f2, f3⟩ := e3 _ hn hr
            have e4 : 32 * kd + f % 32 = f := by omega
            rw [e4] at f1 f2 f3
            refine ⟨_, _, _, ?_, hl, wtS_cons (v := vR _ _) (wtS_tl hs) ⟨f2, f3⟩, h⟩
            intro e w
            show (match xget S0 m f a with | some v => some (cvL al, v :: cvS r, (S0, e, w, m)) | none => none) = _
            unfold xget
            rw [e2]
            dsimp only
            rw [if_pos ⟨e1, hn, Nat.lt_trans hb.2 (by decide)⟩, if_pos hr, f1]; rfl
          · rename_i hr
            refine ⟨_, _, _, ?_, hl, wtS_cons (v := vI _) (wtS_tl hs) trivial, h⟩
            intro e w
            show (match xget S0 m f a with | some v => some (cvL al, v :: cvS r, (S0, e, w, m)) | none => none) = _
            unfold xget
            rw [e2]
            dsimp only
            rw [if_pos ⟨e1, hn, Nat.lt_trans hb.2 (by decide)⟩, hr]; rfl
        · exact h.elim
      · split at h
        · rename_i h30
          have e30 := Nat.eq_of_beq_eq_true h30
          obtain ⟨e2, e3⟩ := xk_const hq1 (by omega) (by omega)
          have e4 : 1000010 ≤ a ∧ a < 1000028 := by omega
          split at h
          · rename_i hf
            have hf := Nat.eq_of_beq_eq_true hf
            refine ⟨_, _, _, ?_, hl, wtS_cons (v := vR 31 (a + 30)) (wtS_tl hs) ⟨?_, by omega⟩, h⟩
            · intro e w
              show (match xget S0 m f a with | some v => some (cvL al, v :: cvS r, (S0, e, w, m)) | none => none) = _
              unfold xget
              rw [e2]
              dsimp only
              rw [if_pos e4, if_pos hf]; rfl
            · show xkd (a + 30) = 31
              unfold xkd
              rw [S0_none (by omega)]
              dsimp only
              rw [if_neg (by omega), if_neg (by omega), if_neg (by omega), if_pos (by omega)]
          · split at h
            · rename_i hf0 hf
              have hf := Nat.eq_of_beq_eq_true hf
              refine ⟨_, _, _, ?_, hl, wtS_cons (v := vI 0) (wtS_tl hs) trivial, h⟩
              intro e w
              show (match xget S0 m f a with | some v => some (cvL al, v :: cvS r, (S0, e, w, m)) | none => none) = _
              unfold xget
              rw [e2]
              dsimp only
              rw [if_pos e4, if_neg (by omega), if_pos hf]; rfl
            · exact h.elim
        · exact h.elim
    · exact h.elim
  · unfold vone at h
    dsimp only at h
    split at h
    · rename_i v kd a r
      obtain ⟨hq1, hq2⟩ : wt (.inr (kd, a)) := wtS_hd (wtS_tl hs)
      split at h
      · rename_i hb
        simp only [Bool.and_eq_true, Nat.blt_eq, Bool.not_eq_true'] at hb
        obtain ⟨⟨⟨h1, h2⟩, h3⟩, h4⟩ := hb
        have h1 := Nat.eq_of_beq_eq_true h1
        obtain ⟨rs, e2, -⟩ := xk_obj hq1 h2
        split at h
        · refine ⟨_, _, _, ?_, hl, wtS_tl (wtS_tl hs), h.2⟩
          intro e w
          unfold xone
          dsimp only [cvS, List.map, cv]
          rw [e2]
          exact if_pos ⟨h1, Nat.lt_trans h2 (by decide), h3, h4, Or.inr h.1⟩
        · rename_i hbl
          refine ⟨_, _, _, ?_, hl, wtS_tl (wtS_tl hs), h⟩
          intro e w
          unfold xone
          dsimp only [cvS, List.map, cv]
          rw [e2]
          exact if_pos ⟨h1, Nat.lt_trans h2 (by decide), h3, h4, Or.inl hbl⟩
      · exact h.elim
    · exact h.elim
  · unfold vone at h
    dsimp only at h
    split at h
    · rename_i v kd a r
      obtain ⟨hq1, hq2⟩ : wt (.inr (kd, a)) := wtS_hd (wtS_tl hs)
      split at h
      · rename_i hb
        obtain ⟨rs, e2⟩ := xk_arr hq1 (Nat.eq_of_beq_eq_true hb) (by omega)
        refine ⟨_, _, _, ?_, hl, wtS_cons (v := vI _) (wtS_tl (wtS_tl hs)) trivial, h.2⟩
        intro e w
        unfold xone
        dsimp only [cvS, List.map, cv]
        rw [e2]
        exact if_pos ⟨rfl, h.1⟩
      · split at h
        · rename_i h9 hb
          have hb := Nat.eq_of_beq_eq_true hb
          obtain ⟨e2, e3⟩ := xk_const hq1 (by omega) (by omega)
          have e4 : a = 1000001 := by omega
          refine ⟨_, _, _, ?_, hl, wtS_cons (v := vI _) (wtS_tl (wtS_tl hs)) trivial, h.2⟩
          intro e w
          unfold xone
          dsimp only [cvS, List.map, cv]
          rw [e2, e4]
          exact if_pos h.1
        · split at h
          · rename_i h9 h8 hb
            have hb := Nat.eq_of_beq_eq_true hb
            obtain ⟨e2, e3⟩ := xk_const hq1 (by omega) (by omega)
            have e4 : a = 1000002 := by omega
            refine ⟨_, _, _, ?_, hl, wtS_cons (v := vI _) (wtS_tl (wtS_tl hs)) trivial, h.2⟩
            intro e w
            unfold xone
            dsimp only [cvS, List.map, cv]
            rw [e2, e4]
            exact if_pos h.1
          · exact h.elim
    · exact h.elim
  · unfold vone at h
    dsimp only at h
    split at h
    · rename_i v j kd a r
      obtain ⟨hq1, hq2⟩ : wt (.inr (kd, a)) := wtS_hd (wtS_tl (wtS_tl hs))
      split at h
      · rename_i hb
        obtain ⟨rs, e2⟩ := xk_arr hq1 (Nat.eq_of_beq_eq_true hb) (by omega)
        refine ⟨_, _, _, ?_, hl, wtS_tl (wtS_tl (wtS_tl hs)), h.2⟩
        intro e w
        unfold xone
        dsimp only [cvS, List.map, cv]
        rw [e2]
        exact if_pos ⟨rfl, h.1⟩
      · exact h.elim
    · exact h.elim
  · unfold vone at h
    dsimp only at h
    split at h
    · rename_i v kd a r
      obtain ⟨hq1, hq2⟩ : wt (.inr (kd, a)) := wtS_hd (wtS_tl hs)
      split at h
      · rename_i hb
        rw [Bool.or_eq_true] at hb
        refine ⟨_, _, _, ?_, hl, wtS_cons (v := vI _) (wtS_tl (wtS_tl hs)) trivial, h.2⟩
        intro e w
        unfold xone
        dsimp only [cvS, List.map, cv]
        rcases hb with hb | hb
        · obtain ⟨rs, e2⟩ := xk_arr hq1 (Nat.eq_of_beq_eq_true hb) (by omega)
          rw [e2]
          exact if_pos ⟨Or.inl rfl, h.1⟩
        · obtain ⟨rs, e2⟩ := xk_arr hq1 (Nat.eq_of_beq_eq_true hb) (by omega)
          rw [e2]
          exact if_pos ⟨Or.inr rfl, h.1⟩
      · split at h
        · rename_i h9 hb
          have hb := Nat.eq_of_beq_eq_true hb
          obtain ⟨e2, e3⟩ := xk_const hq1 (by omega) (by omega)
          split at h
          · rename_i z e5
            refine ⟨_, _, _, ?_, hl, wtS_cons (v := vI _) (wtS_tl (wtS_tl hs)) trivial, h.2⟩
            intro e w
            unfold xone
            dsimp only [cvS, List.map, cv]
            rw [e2, e5]
            exact if_pos h.1
          · exact h.elim
        · exact h.elim
    · exact h.elim
  · unfold vone at h
    dsimp only at h
    split at h
    · rename_i v j kd a r
      obtain ⟨hq1, hq2⟩ : wt (.inr (kd, a)) := wtS_hd (wtS_tl (wtS_tl hs))
      split at h
      · rename_i hb
        obtain ⟨rs, e2⟩ := xk_arr hq1 (Nat.eq_of_beq_eq_true hb) (by omega)
        refine ⟨_, _, _, ?_, hl, wtS_tl (wtS_tl (wtS_tl hs)), h.2⟩
        intro e w
        unfold xone
        dsimp only [cvS, List.map, cv]
        rw [e2]
        exact if_pos ⟨rfl, h.1⟩
      · split at h
        · rename_i h9 hb
          obtain ⟨rs, e2⟩ := xk_arr hq1 (Nat.eq_of_beq_eq_true hb) (by omega)
          refine ⟨_, _, _, ?_, hl, wtS_tl (wtS_tl (wtS_tl hs)), h.2.2⟩
          intro e w
          unfold xone
          dsimp only [cvS, List.map, cv]
          rw [e2]
          dsimp only
          rw [if_neg (fun h => absurd h.1 (by omega))]
          exact if_pos ⟨rfl, h.1, h.2.1⟩
        · exact h.elim
    · exact h.elim
  · unfold vone at h
    dsimp only at h
    split at h
    · rename_i v kd a r
      obtain ⟨hq1, hq2⟩ : wt (.inr (kd, a)) := wtS_hd (wtS_tl hs)
      split at h
      · rename_i hb
        rw [Nat.eq_of_beq_eq_true hb] at hq1
        obtain ⟨rs, e2, e3⟩ := xk_ring hq1
        have hj : ix v < 8 := by
          have := h.1
          unfold xin at this
          rw [Bool.and_eq_true] at this
          exact of_decide_eq_true this.2
        obtain ⟨e4, e5⟩ := e3 _ hj
        refine ⟨_, _, _, ?_, hl, wtS_cons (v := vR 8 _) (wtS_tl (wtS_tl hs)) ⟨e5, by omega⟩, h.2⟩
        intro e w
        unfold xone
        dsimp only [cvS, List.map, cv]
        rw [e2]
        dsimp only
        rw [if_pos ⟨Or.inl rfl, h.1⟩]
        unfold ix at e4
        rw [e4]; rfl
      · split at h
        · rename_i h9 hb
          rw [Nat.eq_of_beq_eq_true hb] at hq1
          obtain ⟨rs, e2, e3⟩ := xk_slots hq1
          have hj : ix v < 2 := by
            have := h.1
            unfold xin at this
            rw [Bool.and_eq_true] at this
            exact of_decide_eq_true this.2
          obtain ⟨e4, e5⟩ := e3 _ hj
          refine ⟨_, _, _, ?_, hl, wtS_cons (v := vR 8 _) (wtS_tl (wtS_tl hs)) ⟨e5, by omega⟩, h.2⟩
          intro e w
          unfold xone
          dsimp only [cvS, List.map, cv]
          rw [e2]
          dsimp only
          rw [if_pos ⟨Or.inl rfl, h.1⟩]
          unfold ix at e4
          rw [e4]; rfl
        · exact h.elim
    · exact h.elim
  · unfold vone at h
    dsimp only at h
    split at h
    · rename_i kd a r
      obtain ⟨hq1, hq2⟩ : wt (.inr (kd, a)) := wtS_hd hs
      split at h
      · rename_i hb
        simp only [Bool.or_eq_true] at hb
        refine ⟨_, _, _, ?_, hl, wtS_cons (v := vI _) (wtS_tl hs) trivial, h⟩
        intro e w
        unfold xone
        dsimp only [cvS, List.map, cv]
        have : ∃ c rs, S0[a]? = some (c, kd % 10000, rs) ∧ (c = 20 ∨ c = 21 ∨ c = 22 ∨ c = 25) := by
          rcases hb with ((hb | hb) | hb) | hb
          · obtain ⟨rs, e2⟩ := xk_arr hq1 (Nat.eq_of_beq_eq_true hb) (by omega)
            exact ⟨_, _, e2, Or.inl rfl⟩
          · obtain ⟨rs, e2⟩ := xk_arr hq1 (Nat.eq_of_beq_eq_true hb) (by omega)
            exact ⟨_, _, e2, Or.inr (Or.inl rfl)⟩
          · obtain ⟨rs, e2⟩ := xk_arr hq1 (Nat.eq_of_beq_eq_true hb) (by omega)
            exact ⟨_, _, e2, Or.inr (Or.inr (Or.inl rfl))⟩
          · obtain ⟨rs, e2⟩ := xk_arr hq1 (Nat.eq_of_beq_eq_true hb) (by omega)
            exact ⟨_, _, e2, Or.inr (Or.inr (Or.inr rfl))⟩
        obtain ⟨c, rs, e2, e3⟩ := this
        rw [e2]
        exact if_pos e3
      · split at h
        · rename_i h9 hb
          have hb := Nat.eq_of_beq_eq_true hb
          obtain ⟨e2, e3⟩ := xk_const hq1 (by omega) (by omega)
          split at h
          · rename_i z e5
            refine ⟨_, _, _, ?_, hl, wtS_cons (v := vI _) (wtS_tl hs) trivial, h⟩
            intro e w
            unfold xone
            dsimp only [cvS, List.map, cv]
            have e6 : xci xK0 a = none := by
              unfold xci
              rw [if_neg (by omega), if_neg (by omega), if_neg (by omega)]
            rw [e2, e6, e5]; rfl
          · exact h.elim
        · exact h.elim
    · exact h.elim
theorem vone_ok {i : Instr} {al : AL} {st : List AV} {m : XM} {k : AL → List AV → XM → Prop} (h : vone i al st m k) (hl : wtL al) (hs : wtS st) : vgoes i al st m k := by
  by_cases hi : (∃ f, i = .getfield f) ∨ (∃ f, i = .putfield f) ∨ i = .iaload ∨ i = .iastore ∨ i = .baload ∨ i = .bastore ∨ i = .aaload ∨ i = .arraylength
  · exact vone_ok2 h hl hs hi
  · refine vone_ok1 h hl hs ?_ ?_ ?_ ?_ ?_ ?_ ?_ ?_
    · exact fun f e => hi (Or.inl ⟨f, e⟩)
    · exact fun f e => hi (Or.inr (Or.inl ⟨f, e⟩))
    · exact fun e => hi (by rw [e]; simp)
    · exact fun e => hi (by rw [e]; simp)
    · exact fun e => hi (by rw [e]; simp)
    · exact fun e => hi (by rw [e]; simp)
    · exact fun e => hi (by rw [e]; simp)
    · exact fun e => hi (by rw [e]; simp)
end
section
/-! The verification conditions of a block, of a label, of a method. -/
def xti : Value → Int32
  | .int v => v
  | _ => 0
def xtf : Value → UInt32
  | .float v => v
  | _ => 0
def xtr : Value → Nat
  | .ref v => v
  | _ => 0
def exn : XR → Nat
  | .inl _ => 0
  | .inr _ => 1
def rtOf (y : Nat) : Nat := (sg y).2.2.2
def vrt : Nat → Option Value → Prop
  | 0, v => v = none
  | 5, v => ∃ x, v = some (.long x)
  | 6, v => ∃ x, v = some (.float x)
  | 7, v => ∃ x, v = some (.double x)
  | 8, v => ∃ a, v = some (.ref a) ∧ xkd a = 5
  | _, v => ∃ x, v = some (.int x)
def vrv : Nat → Value → List AV
  | 0, _ => []
  | 5, v => [vJ (xtl v)]
  | 6, v => [vF (xtf v)]
  | 7, v => [vD (xtd v)]
  | 8, v => [vR 5 (xtr v)]
  | _, v => [vI (xti v)]
theorem vrv_ok {rt : Nat} {v : Option Value} (h : vrt rt v) : cvS (vrv rt (v.getD .null)) = v.toList ∧ wtS (vrv rt (v.getD .null)) := by
  unfold vrt at h
  split at h
  · subst h; exact ⟨rfl, fun q hq => by cases hq⟩
  · obtain ⟨x, rfl⟩ := h; exact ⟨rfl, wtS_cons (fun q hq => by cases hq) trivial⟩
  · obtain ⟨x, rfl⟩ := h; exact ⟨rfl, wtS_cons (fun q hq => by cases hq) trivial⟩
  · obtain ⟨x, rfl⟩ := h; exact ⟨rfl, wtS_cons (fun q hq => by cases hq) trivial⟩
  · obtain ⟨x, rfl, hx⟩ := h; exact ⟨rfl, wtS_cons (v := vR 5 x) (fun q hq => by cases hq) ⟨hx, by show (5 : Nat) ≠ 99; omega⟩⟩
  · obtain ⟨x, rfl⟩ := h
    unfold vrv
    split
    · rename_i h1 h2 h3 h4 h5; exact absurd rfl h1
    · rename_i h1 h2 h3 h4 h5; exact absurd rfl h2
    · rename_i h1 h2 h3 h4 h5; exact absurd rfl h3
    · rename_i h1 h2 h3 h4 h5; exact absurd rfl h4
    · rename_i h1 h2 h3 h4 h5; exact absurd rfl h5
    · exact ⟨rfl, wtS_cons (v := vI x) (fun q hq => by cases hq) trivial⟩
def vpost (rt : Nat) (r : XR) (m' : XM) (Q : Value → XM → Prop) (E : Nat → XM → Prop) : Prop := match r with
  | .inl v => vrt rt v ∧ Q (v.getD .null) m'
  | .inr x => E x m'
/-- from the label L of method y the run comes to Q, or throws as E says -/
def VL (D y L : Nat) (al : AL) (st : List AV) (m : XM) (Q : Value → XM → Prop) (E : Nat → XM → Prop) : Prop :=
  wtL al → wtS st → ∃ (n : Nat) (r : XR) (m' : XM), (∀ (e : Nat) (w : Nat → Value), xrun xK0 n D y L (cvL al) (cvS st) (S0, e, w, m) = some (r, S0, e + exn r, w, m')) ∧ vpost (rtOf y) r m' Q E
def vargs : Nat → List AV → AL
  | _, [] => []
  | i, v :: t => (i, v) :: vargs (match Nat.beq (acat v) 2 with
    | true => i + 2
    | false => i + 1) t
/-- the call of method y -/
def V (D y : Nat) (args : List AV) (m : XM) (Q : Value → XM → Prop) (E : Nat → XM → Prop) : Prop := wtS args → VL D y 0 (vargs 0 args) [] m Q E
theorem vargs_cv (args : List AV) : ∀ i, lv_args i (cvS args) = cvL (vargs i args) := by
  induction args with
  | nil => intro i; rfl
  | cons v t ih =>
    intro i
    show (i, cv v) :: lv_args (if (cv v).category = 2 then i + 2 else i + 1) (cvS t) = (i, cv v) :: cvL (vargs _ t)
    rw [cv_cat]
    cases hb : Nat.beq (acat v) 2 with
    | true => rw [if_pos (Nat.eq_of_beq_eq_true hb), ih]
    | false => rw [if_neg (Nat.ne_of_beq_eq_false hb), ih]
theorem vargs_wt {args : List AV} (h : wtS args) : ∀ i, wtL (vargs i args) := by
  induction args with
  | nil => intro i q hq; cases hq
  | cons v t ih => intro i; exact wtL_cons (ih (wtS_tl h) _) (wtS_hd h)
def vbr (c : ClassFile.Cond) (a b : Int32) (t f : Prop) : Prop :=
  match c with
  | .eq => (a = b → t) ∧ (¬ a = b → f)
  | .ne => (a = b → f) ∧ (¬ a = b → t)
  | .lt => (a < b → t) ∧ (¬ a < b → f)
  | .ge => (b ≤ a → t) ∧ (¬ b ≤ a → f)
  | .gt => (b < a → t) ∧ (¬ b < a → f)
  | .le => (a ≤ b → t) ∧ (¬ a ≤ b → f)
def acatS (st : List AV) : Nat := (st.map acat).sum
theorem acatS_cv (st : List AV) : xcat (cvS st) = acatS st := by
  unfold xcat acatS cvS
  rw [List.map_map]
  congr 1
  exact List.map_congr_left fun v _ => cv_cat v
def vrcv (rc : Nat) : List AV → Bool
  | .inr (kd, _) :: _ => match Nat.beq rc 99 with
    | true => true
    | false => Nat.beq kd rc && (Nat.blt rc 12 || Nat.beq rc 30)
  | _ => Nat.beq rc 99
theorem vrcv_ok {rc : Nat} {args : List AV} (h : vrcv rc args = true) (hs : wtS args) : xrecv rc S0 (cvS args) = true := by
  cases args with
  | nil =>
    have e : rc = 99 := Nat.eq_of_beq_eq_true h
    subst e; rfl
  | cons v t =>
    cases v with
    | inl v =>
      have e : rc = 99 := Nat.eq_of_beq_eq_true h
      subst e
      cases v <;> rfl
    | inr q =>
      obtain ⟨kd, a⟩ := q
      obtain ⟨hq1, hq2⟩ : wt (.inr (kd, a)) := wtS_hd hs
      unfold vrcv at h
      dsimp only at h
      show (if rc = 99 then true else match S0[a]? with | some (ci, _, _) => (ci == rc && decide (rc < 15)) || (rc == 30 && ci == 14) | none => (rc == 30 && decide (1000010 ≤ a) && decide (a < 1000028)) || (rc == 31 && a == 1000004)) = true
      split at h
      · rename_i hb
        rw [if_pos (Nat.eq_of_beq_eq_true hb)]
      · rename_i hb
        rw [if_neg (Nat.ne_of_beq_eq_false hb)]
        rw [Bool.and_eq_true, Bool.or_eq_true, Nat.blt_eq] at h
        have e1 := Nat.eq_of_beq_eq_true h.1
        rcases h.2 with h2 | h2
        · obtain ⟨rs, e2, -⟩ := xk_obj hq1 (by omega)
          rw [e2]
          simp [e1, Nat.lt_trans h2 (show 12 < 15 by decide)]
        · have h2 := Nat.eq_of_beq_eq_true h2
          obtain ⟨e2, e3⟩ := xk_const hq1 (by omega) (by omega)
          rw [e2]
          have : 1000010 ≤ a ∧ a < 1000028 := by omega
          simp [h2, this.1, this.2]
def naOf (y : Nat) : Nat := (sg y).1
def vcal (y : Nat) (st : List AV) : Bool := Nat.blt y 398 && Nat.ble (naOf y) st.length && vrcv (sg y).2.2.1 (st.take (naOf y)).reverse && Nat.ble (acatS (st.drop (naOf y))) 8 && Nat.ble (acatS (st.take (naOf y)).reverse) (sg y).2.1
theorem rtOf_of {y na ml rc rt : Nat} {hd : List (Nat × Nat × Nat)} {bs : List XB} (h : xmt y = some (na, ml, rc, rt, hd, bs)) : rtOf y = rt := by
  unfold rtOf; rw [sg_of h]
def vsw (x : Int32) (d : Prop) (J : Int → Prop) : Int → List Int → Prop
  | _, [] => d
  | k, L :: t => (x = xi k → J L) ∧ (¬ x = xi k → vsw x d J (k + 1) t)
def vlk (x : Int32) (d : Prop) (J : Int → Prop) : List (Int × Int) → Prop
  | [] => d
  | q :: t => (x = xi q.1 → J q.2) ∧ (¬ x = xi q.1 → vlk x d J t)
def vblk (D y : Nat) (Q : Value → XM → Prop) (E : Nat → XM → Prop) : List Instr → AL → List AV → XM → Prop
  | [], _, _, _ => False
  | i :: is, al, st, m =>
    match i with
    | .goto L => VL D y L.toNat al st m Q E
    | .goto_w L => VL D y L.toNat al st m Q E
    | .ifCond c L => match st with
      | .inl (.int x) :: r => vbr c x (n32 0) (VL D y L.toNat al r m Q E) (vblk D y Q E is al r m)
      | _ => False
    | .if_icmp c L => match st with
      | .inl (.int z) :: .inl (.int x) :: r => vbr c x z (VL D y L.toNat al r m Q E) (vblk D y Q E is al r m)
      | _ => False
    | .ifnull _ => match st with
      | .inr _ :: r => vblk D y Q E is al r m
      | _ => False
    | .tableswitch d lo hi offs => match st with
      | .inl (.int x) :: r => match decide (hi + 1 = lo + offs.toList.length) && decide (-1000 ≤ lo) && decide (hi ≤ 1000) with
        | true => vsw x (VL D y d.toNat al r m Q E) (fun L => VL D y L.toNat al r m Q E) lo offs.toList
        | false => False
      | _ => False
    | .lookupswitch d ps => match st with
      | .inl (.int x) :: r => match ps.toList.all (fun q => decide (-1000 ≤ q.1) && decide (q.1 ≤ 1000)) with
        | true => vlk x (VL D y d.toNat al r m Q E) (fun L => VL D y L.toNat al r m Q E) ps.toList
        | false => False
      | _ => False
    | .ireturn => match st with
      | [.inl (.int v)] => match rtOf y with
        | 1 => Q (.int v) m
        | 2 => xrt 2 v = true ∧ Q (.int v) m
        | 3 => xrt 3 v = true ∧ Q (.int v) m
        | 4 => xrt 4 v = true ∧ Q (.int v) m
        | _ => False
      | _ => False
    | .lreturn => match st with
      | [.inl (.long v)] => match Nat.beq (rtOf y) 5 with
        | true => Q (.long v) m
        | false => False
      | _ => False
    | .freturn => match st with
      | [.inl (.float v)] => match Nat.beq (rtOf y) 6 with
        | true => Q (.float v) m
        | false => False
      | _ => False
    | .dreturn => match st with
      | [.inl (.double v)] => match Nat.beq (rtOf y) 7 with
        | true => Q (.double v) m
        | false => False
      | _ => False
    | .areturn => match st with
      | [.inr (kd, a)] => match Nat.beq (rtOf y) 8 && Nat.beq kd 5 with
        | true => Q (.ref a) m
        | false => False
      | _ => False
    | .return_ => match st with
      | [] => match Nat.beq (rtOf y) 0 with
        | true => Q .null m
        | false => False
      | _ => False
    | .checkcast x => match st with
      | [] => E x m
      | _ => False
    | .invokevirtual z => match vcal z st with
      | true => match D with
        | 0 => False
        | D' + 1 => V D' z (st.take (naOf z)).reverse m (fun v m' => vblk (D' + 1) y Q E is al (vrv (rtOf z) v ++ st.drop (naOf z)) m') E
      | false => False
    | .invokespecial z => match vcal z st with
      | true => match D with
        | 0 => False
        | D' + 1 => V D' z (st.take (naOf z)).reverse m (fun v m' => vblk (D' + 1) y Q E is al (vrv (rtOf z) v ++ st.drop (naOf z)) m') E
      | false => False
    | .invokestatic z => match vcal z st with
      | true => match D with
        | 0 => False
        | D' + 1 => V D' z (st.take (naOf z)).reverse m (fun v m' => vblk (D' + 1) y Q E is al (vrv (rtOf z) v ++ st.drop (naOf z)) m') E
      | false => False
    | i => vone i al st m (fun al' st' m' => vblk D y Q E is al' st' m')
end
section
/-! The verification conditions are sound. -/
def xB (y n D rt : Nat) (is : List Instr) (ls : XL) (st : List Value) (σ : XS) : XO :=
  xblk xK0 rt [] (fun L' ls' st' σ' => xrun xK0 n D y L' ls' st' σ') (xCf n D) is ls st σ
theorem xrun_le' {z : XR × XS} {n n' : Nat} {K : XK} {d y L : Nat} {ls : XL} {st : List Value} {σ : XS} (hn : n ≤ n') (h : xrun K n d y L ls st σ = some z) : xrun K n' d y L ls st σ = some z := by
  rcases Nat.lt_or_eq_of_le hn with h1 | rfl
  · exact xrun_le (Nat.le_refl _) h1 h
  · exact h
theorem xCf_le {z : XR × XS} {n n' D y : Nat} {args : List Value} {σ : XS} (hn : n ≤ n') (h : xCf n D y args σ = some z) : xCf n' D y args σ = some z := by
  unfold xCf at h ⊢
  cases D with
  | zero => cases h
  | succ D => exact xrun_le' hn h
theorem xB_le {y n n' D rt : Nat} {is : List Instr} {ls : XL} {st : List Value} {σ : XS} {z : XR × XS} (hn : n ≤ n') (h : xB y n D rt is ls st σ = some z) : xB y n' D rt is ls st σ = some z :=
  xblk_up (fun _ _ _ _ h => xrun_le' hn h) (fun _ _ _ _ h => xCf_le hn h) _ _ _ _ h
def vbG (y D rt : Nat) (Q : Value → XM → Prop) (E : Nat → XM → Prop) (is : List Instr) (al : AL) (st : List AV) (m : XM) : Prop :=
  ∃ (n : Nat) (r : XR) (m' : XM), (∀ (e : Nat) (w : Nat → Value), xB y n D rt is (cvL al) (cvS st) (S0, e, w, m) = some (r, S0, e + exn r, w, m')) ∧ vpost rt r m' Q E
theorem VL_to {D y L rt : Nat} {al : AL} {st : List AV} {m : XM} {Q : Value → XM → Prop} {E : Nat → XM → Prop} (h : VL D y L al st m Q E) (hr : rtOf y = rt) (hl : wtL al) (hs : wtS st) :
    ∃ (n : Nat) (r : XR) (m' : XM), (∀ (e : Nat) (w : Nat → Value), xrun xK0 n D y L (cvL al) (cvS st) (S0, e, w, m) = some (r, S0, e + exn r, w, m')) ∧ vpost rt r m' Q E := by
  subst hr
  exact h hl hs
theorem vbr_ok {c : ClassFile.Cond} {a b : Int32} {t f : Prop} {tt ff : Nat → Nat → (Nat → Value) → XO} {rt : Nat} {Q : Value → XM → Prop} {E : Nat → XM → Prop}
    (ht : t → ∃ (n : Nat) (r : XR) (m' : XM), (∀ (e : Nat) (w : Nat → Value), tt n e w = some (r, S0, e + exn r, w, m')) ∧ vpost rt r m' Q E)
    (hf : f → ∃ (n : Nat) (r : XR) (m' : XM), (∀ (e : Nat) (w : Nat → Value), ff n e w = some (r, S0, e + exn r, w, m')) ∧ vpost rt r m' Q E) (h : vbr c a b t f) :
    ∃ (n : Nat) (r : XR) (m' : XM), (∀ (e : Nat) (w : Nat → Value), xbr c a b (tt n e w) (ff n e w) = some (r, S0, e + exn r, w, m')) ∧ vpost rt r m' Q E := by
  have goT : t → (∀ (x y : XO), xbr c a b x y = x) → ∃ (n : Nat) (r : XR) (m' : XM), (∀ (e : Nat) (w : Nat → Value), xbr c a b (tt n e w) (ff n e w) = some (r, S0, e + exn r, w, m')) ∧ vpost rt r m' Q E := by
    intro h1 h2
    obtain ⟨n, r, m', h3, h4⟩ := ht h1
    exact ⟨n, r, m', fun e w => by rw [h2]; exact h3 e w, h4⟩
  have goF : f → (∀ (x y : XO), xbr c a b x y = y) → ∃ (n : Nat) (r : XR) (m' : XM), (∀ (e : Nat) (w : Nat → Value), xbr c a b (tt n e w) (ff n e w) = some (r, S0, e + exn r, w, m')) ∧ vpost rt r m' Q E := by
    intro h1 h2
    obtain ⟨n, r, m', h3, h4⟩ := hf h1
    exact ⟨n, r, m', fun e w => by rw [h2]; exact h3 e w, h4⟩
  unfold vbr at h
  cases c <;> dsimp only at h
  · by_cases hc : a = b
    · exact goT (h.1 hc) (fun _ _ => if_pos hc)
    · exact goF (h.2 hc) (fun _ _ => if_neg hc)
  · by_cases hc : a = b
    · exact goF (h.1 hc) (fun _ _ => if_pos hc)
    · exact goT (h.2 hc) (fun _ _ => if_neg hc)
  · by_cases hc : a < b
    · exact goT (h.1 hc) (fun _ _ => if_pos hc)
    · exact goF (h.2 hc) (fun _ _ => if_neg hc)
  · by_cases hc : b ≤ a
    · exact goT (h.1 hc) (fun _ _ => if_pos hc)
    · exact goF (h.2 hc) (fun _ _ => if_neg hc)
  · by_cases hc : b < a
    · exact goT (h.1 hc) (fun _ _ => if_pos hc)
    · exact goF (h.2 hc) (fun _ _ => if_neg hc)
  · by_cases hc : a ≤ b
    · exact goT (h.1 hc) (fun _ _ => if_pos hc)
    · exact goF (h.2 hc) (fun _ _ => if_neg hc)
theorem xi_toInt {x : Int32} {k : Int} (h : x.toInt = k) : x = xi k := by
  rw [xi_eq, ← h, Int32.ofInt_toInt]
theorem toInt_xi {x : Int32} {k : Int} (h : x = xi k) (h1 : -1000 ≤ k) (h2 : k ≤ 1000) : x.toInt = k := by
  rw [h, xi_eq]
  exact Int32.toInt_ofInt_of_le (by omega) (by omega)
theorem vsw_ok {x : Int32} {d : Prop} {J : Int → Prop} : ∀ (l : List Int) (k : Int), vsw x d J k l → -1000 ≤ k → k + l.length ≤ 1001 →
    ((k ≤ x.toInt ∧ x.toInt < k + l.length → ∃ L, l[(x.toInt - k).toNat]? = some L ∧ J L) ∧ (¬ (k ≤ x.toInt ∧ x.toInt < k + l.length) → d)) := by
  intro l
  induction l with
  | nil =>
    intro k h _ _
    exact ⟨fun h1 => by simp at h1; omega, fun _ => h⟩
  | cons L t ih =>
    intro k h hk hl
    obtain ⟨h1, h2⟩ := h
    rw [List.length_cons] at hl
    simp only [List.length_cons]
    by_cases e : x.toInt = k
    · have := h1 (xi_toInt e)
      refine ⟨fun _ => ⟨L, ?_, this⟩, fun h3 => absurd ⟨by omega, by omega⟩ h3⟩
      rw [e, Int.sub_self]; rfl
    · have h3 := ih (k + 1) (h2 (fun e2 => e (toInt_xi e2 hk (by omega)))) (by omega) (by omega)
      refine ⟨fun h4 => ?_, fun h4 => h3.2 (fun h5 => h4 ⟨by omega, by omega⟩)⟩
      obtain ⟨L', h5, h6⟩ := h3.1 ⟨by omega, by omega⟩
      refine ⟨L', ?_, h6⟩
      have : (x.toInt - k).toNat = (x.toInt - (k + 1)).toNat + 1 := by omega
      rw [this, List.getElem?_cons_succ]; exact h5
theorem vlk_ok {x : Int32} {d : Prop} {J : Int → Prop} : ∀ (l : List (Int × Int)), vlk x d J l → l.all (fun q => decide (-1000 ≤ q.1) && decide (q.1 ≤ 1000)) = true →
    (∃ q, l.find? (fun q => q.1 == x.toInt) = some q ∧ J q.2) ∨ (l.find? (fun q => q.1 == x.toInt) = none ∧ d) := by
  intro l
  induction l with
  | nil => intro h _; exact Or.inr ⟨rfl, h⟩
  | cons q t ih =>
    intro h hb
    obtain ⟨h1, h2⟩ := h
    rw [List.all_cons, Bool.and_eq_true, Bool.and_eq_true] at hb
    by_cases e : x.toInt = q.1
    · exact Or.inl ⟨q, by rw [List.find?_cons, e]; simp, h1 (xi_toInt e)⟩
    · have e3 : (q.1 == x.toInt) = false := by
        rw [beq_eq_false_iff_ne]; exact fun h => e h.symm
      rw [List.find?_cons, e3]
      exact ih (h2 (fun e2 => e (toInt_xi e2 (of_decide_eq_true hb.1.1) (of_decide_eq_true hb.1.2)))) hb.2
theorem vcall_ok {y D z rt : Nat} {Q : Value → XM → Prop} {E : Nat → XM → Prop} {al : AL} {st : List AV} {m : XM} {k : Value → XM → Prop} {is : List Instr}
    (hc : vcal z st = true) (h : V D z (st.take (naOf z)).reverse m k E) (hl : wtL al) (hs : wtS st)
    (hk : ∀ v m', k v m' → wtS (vrv (rtOf z) v ++ st.drop (naOf z)) → vbG y (D + 1) rt Q E is al (vrv (rtOf z) v ++ st.drop (naOf z)) m') :
    ∃ (n : Nat) (r : XR) (m' : XM), (∀ (e : Nat) (w : Nat → Value), xcall (xCf n (D + 1)) [] (fun L' ls' st' σ' => xrun xK0 n (D + 1) y L' ls' st' σ') z (cvL al) (cvS st) (S0, e, w, m) (fun st' σ' => xB y n (D + 1) rt is (cvL al) st' σ') = some (r, S0, e + exn r, w, m')) ∧ vpost rt r m' Q E := by
  unfold vcal at hc
  simp only [Bool.and_eq_true] at hc
  obtain ⟨⟨⟨⟨c0, c1⟩, c2⟩, c3⟩, c4⟩ := hc
  obtain ⟨hd, bs, hm⟩ := sg_some c0
  have hna : naOf z = (sg z).1 := rfl
  have hrz : rtOf z = (sg z).2.2.2 := rfl
  generalize (sg z).1 = na at hm hna
  generalize (sg z).2.1 = ml at hm c4
  generalize (sg z).2.2.1 = rc at hm c2
  generalize (sg z).2.2.2 = rz at hm hrz
  rw [hna] at h hk c1 c2 c3 c4
  have c1 := Nat.le_of_ble_eq_true c1
  have c3 := Nat.le_of_ble_eq_true c3
  have c4 := Nat.le_of_ble_eq_true c4
  have hA : wtS (st.take na).reverse := fun v hv => hs v (List.mem_of_mem_take (List.mem_reverse.mp hv))
  have hB : wtS (st.drop na) := fun v hv => hs v (List.mem_of_mem_drop hv)
  have ea : ((cvS st).take na).reverse = cvS (st.take na).reverse := by
    unfold cvS; rw [← List.map_take, List.map_reverse]
  have eb : (cvS st).drop na = cvS (st.drop na) := by
    unfold cvS; rw [List.map_drop]
  have cond : na ≤ (cvS st).length ∧ xrecv rc S0 ((cvS st).take na).reverse = true ∧ xcat ((cvS st).drop na) ≤ 8 ∧ xcat ((cvS st).take na).reverse ≤ ml := by
    rw [ea, eb, acatS_cv, acatS_cv]
    exact ⟨by unfold cvS; rw [List.length_map]; exact c1, vrcv_ok c2 hA, c3, c4⟩
  obtain ⟨n1, r1, m1, g1, g2⟩ := VL_to (h hA) hrz (vargs_wt hA 0) (fun v hv => by cases hv)
  cases r1 with
  | inr x =>
    refine ⟨n1, .inr x, m1, fun e w => ?_, g2⟩
    unfold xcall
    rw [hm]
    dsimp only
    rw [if_pos cond]
    have := g1 e w
    rw [← vargs_cv, ← ea] at this
    have e3 : xCf n1 (D + 1) z ((cvS st).take na).reverse (S0, e, w, m) = some (Sum.inr x, S0, e + 1, w, m1) := this
    rw [e3]; rfl
  | inl v =>
    obtain ⟨g3, g4⟩ := g2
    obtain ⟨v1, v2⟩ := vrv_ok g3
    rw [hrz] at hk
    have hw : wtS (vrv rz (v.getD .null) ++ st.drop na) := fun u hu => by
      rcases List.mem_append.mp hu with hu | hu
      · exact v2 u hu
      · exact hB u hu
    obtain ⟨n2, r2, m2, f1, f2⟩ := hk _ _ g4 hw
    refine ⟨max n1 n2, r2, m2, fun e w => ?_, f2⟩
    unfold xcall
    rw [hm]
    dsimp only
    rw [if_pos cond]
    have := g1 e w
    rw [← vargs_cv, ← ea] at this
    have e3 : xCf n1 (D + 1) z ((cvS st).take na).reverse (S0, e, w, m) = some (Sum.inl v, S0, e, w, m1) := this
    rw [xCf_le (Nat.le_max_left n1 n2) e3]
    dsimp only
    rw [if_pos (Or.inl rfl), eb, ← v1]
    have := xB_le (Nat.le_max_right n1 n2) (f1 e w)
    have e5 : cvS (vrv rz (v.getD .null) ++ st.drop na) = cvS (vrv rz (v.getD .null)) ++ cvS (st.drop na) := by
      unfold cvS; rw [List.map_append]
    rw [e5] at this
    exact this
theorem vblk_ok {y na ml rc rt : Nat} {bs : List XB} (hm : xmt y = some (na, ml, rc, rt, [], bs)) {D : Nat} {Q : Value → XM → Prop} {E : Nat → XM → Prop} :
    ∀ (is : List Instr) (al : AL) (st : List AV) (m : XM), vblk D y Q E is al st m → wtL al → wtS st → vbG y D rt Q E is al st m := by
  have hrt : rtOf y = rt := rtOf_of hm
  intro is
  induction is with
  | nil => intro al st m h; exact h.elim
  | cons i is ih =>
    intro al st m h hl hs
    by_cases hone : vone i al st m (fun al' st' m' => vblk D y Q E is al' st' m')
    · obtain ⟨al', st', m', h1, h2, h3, h4⟩ := vone_ok hone hl hs
      obtain ⟨n, r, m2, h5, h6⟩ := ih al' st' m' h4 h2 h3
      refine ⟨n, r, m2, fun e w => ?_, h6⟩
      have h7 := h1 e w
      have h8 := h5 e w
      unfold xB at h8 ⊢
      cases i <;> first
        | (unfold xone at h7; cases h7; done)
        | (unfold xblk; dsimp only; rw [h7]; exact h8)
    · cases i
      case goto L =>
        obtain ⟨n, r, m2, h5, h6⟩ := VL_to h hrt hl hs
        exact ⟨n, r, m2, h5, h6⟩
      case goto_w L =>
        obtain ⟨n, r, m2, h5, h6⟩ := VL_to h hrt hl hs
        exact ⟨n, r, m2, h5, h6⟩
      case ifCond c L =>
        unfold vblk at h
        dsimp only at h
        split at h
        · exact vbr_ok (tt := fun n e w => xrun xK0 n D y L.toNat _ _ _) (ff := fun n e w => xB y n D rt is _ _ _) (fun h => VL_to h hrt hl (wtS_tl hs)) (fun h => ih _ _ _ h hl (wtS_tl hs)) h
        · exact h.elim
      case if_icmp c L =>
        unfold vblk at h
        dsimp only at h
        split at h
        · exact vbr_ok (tt := fun n e w => xrun xK0 n D y L.toNat _ _ _) (ff := fun n e w => xB y n D rt is _ _ _) (fun h => VL_to h hrt hl (wtS_tl (wtS_tl hs))) (fun h => ih _ _ _ h hl (wtS_tl (wtS_tl hs))) h
        · exact h.elim
      case ifnull L =>
        unfold vblk at h
        dsimp only at h
        split at h
        · exact ih _ _ _ h hl (wtS_tl hs)
        · exact h.elim
      case tableswitch d lo hi offs =>
        unfold vblk at h
        dsimp only at h
        split at h
        · rename_i x r
          split at h
          · rename_i hb
            rw [Bool.and_eq_true, Bool.and_eq_true] at hb
            obtain ⟨⟨b1, b2⟩, b3⟩ := hb
            have b1 := of_decide_eq_true b1
            have b2 := of_decide_eq_true b2
            have b3 := of_decide_eq_true b3
            obtain ⟨h1, h2⟩ := vsw_ok _ _ h b2 (by omega)
            by_cases hx : lo ≤ x.toInt ∧ x.toInt ≤ hi
            · obtain ⟨L, h3, h4⟩ := h1 ⟨hx.1, by omega⟩
              obtain ⟨n, r9, m2, h5, h6⟩ := VL_to h4 hrt hl (wtS_tl hs)
              refine ⟨n, r9, m2, fun e w => ?_, h6⟩
              show (if lo ≤ x.toInt ∧ x.toInt ≤ hi then (match offs[(x.toInt - lo).toNat]? with | some L => xrun xK0 n D y L.toNat (cvL al) (cvS r) (S0, e, w, m) | none => none) else xrun xK0 n D y d.toNat (cvL al) (cvS r) (S0, e, w, m)) = _
              rw [if_pos hx]
              rw [Array.getElem?_toList] at h3
              rw [h3]
              exact h5 e w
            · obtain ⟨n, r9, m2, h5, h6⟩ := VL_to (h2 (fun h => hx ⟨h.1, by omega⟩)) hrt hl (wtS_tl hs)
              refine ⟨n, r9, m2, fun e w => ?_, h6⟩
              show (if lo ≤ x.toInt ∧ x.toInt ≤ hi then (match offs[(x.toInt - lo).toNat]? with | some L => xrun xK0 n D y L.toNat (cvL al) (cvS r) (S0, e, w, m) | none => none) else xrun xK0 n D y d.toNat (cvL al) (cvS r) (S0, e, w, m)) = _
              rw [if_neg hx]
              exact h5 e w
          · exact h.elim
        · exact h.elim
      case lookupswitch d ps =>
        unfold vblk at h
        dsimp only at h
        split at h
        · rename_i x r
          split at h
          · rename_i hb
            rcases vlk_ok _ h hb with ⟨q, h3, h4⟩ | ⟨h3, h4⟩
            · obtain ⟨n, r9, m2, h5, h6⟩ := VL_to h4 hrt hl (wtS_tl hs)
              refine ⟨n, r9, m2, fun e w => ?_, h6⟩
              show (match ps.toList.find? (fun q => q.1 == x.toInt) with | some (_, L) => xrun xK0 n D y L.toNat (cvL al) (cvS r) (S0, e, w, m) | none => xrun xK0 n D y d.toNat (cvL al) (cvS r) (S0, e, w, m)) = _
              rw [h3]
              exact h5 e w
            · obtain ⟨n, r9, m2, h5, h6⟩ := VL_to h4 hrt hl (wtS_tl hs)
              refine ⟨n, r9, m2, fun e w => ?_, h6⟩
              show (match ps.toList.find? (fun q => q.1 == x.toInt) with | some (_, L) => xrun xK0 n D y L.toNat (cvL al) (cvS r) (S0, e, w, m) | none => xrun xK0 n D y d.toNat (cvL al) (cvS r) (S0, e, w, m)) = _
              rw [h3]
              exact h5 e w
          · exact h.elim
        · exact h.elim
      case ireturn =>
        unfold vblk at h
        dsimp only at h
        split at h
        · rename_i v
          rw [hrt] at h
          split at h
          · exact ⟨0, .inl (some (.int v)), m, fun e w => rfl, ⟨v, rfl⟩, h⟩
          · exact ⟨0, .inl (some (.int v)), m, fun e w => if_pos h.1, ⟨v, rfl⟩, h.2⟩
          · exact ⟨0, .inl (some (.int v)), m, fun e w => if_pos h.1, ⟨v, rfl⟩, h.2⟩
          · exact ⟨0, .inl (some (.int v)), m, fun e w => if_pos h.1, ⟨v, rfl⟩, h.2⟩
          · exact h.elim
        · exact h.elim
      case lreturn =>
        unfold vblk at h
        dsimp only at h
        split at h
        · rename_i v
          split at h
          · rename_i hb
            rw [hrt] at hb
            have hb := Nat.eq_of_beq_eq_true hb
            subst hb
            exact ⟨0, .inl (some (.long v)), m, fun e w => rfl, ⟨v, rfl⟩, h⟩
          · exact h.elim
        · exact h.elim
      case freturn =>
        unfold vblk at h
        dsimp only at h
        split at h
        · rename_i v
          split at h
          · rename_i hb
            rw [hrt] at hb
            have hb := Nat.eq_of_beq_eq_true hb
            subst hb
            exact ⟨0, .inl (some (.float v)), m, fun e w => rfl, ⟨v, rfl⟩, h⟩
          · exact h.elim
        · exact h.elim
      case dreturn =>
        unfold vblk at h
        dsimp only at h
        split at h
        · rename_i v
          split at h
          · rename_i hb
            rw [hrt] at hb
            have hb := Nat.eq_of_beq_eq_true hb
            subst hb
            exact ⟨0, .inl (some (.double v)), m, fun e w => rfl, ⟨v, rfl⟩, h⟩
          · exact h.elim
        · exact h.elim
      case areturn =>
        unfold vblk at h
        dsimp only at h
        split at h
        · rename_i kd a
          split at h
          · rename_i hb
            rw [hrt, Bool.and_eq_true] at hb
            have hb1 := Nat.eq_of_beq_eq_true hb.1
            have hb2 := Nat.eq_of_beq_eq_true hb.2
            subst hb1
            obtain ⟨hq1, hq2⟩ : wt (.inr (kd, a)) := wtS_hd hs
            exact ⟨0, .inl (some (.ref a)), m, fun e w => rfl, ⟨a, rfl, by rw [hq1, hb2]⟩, h⟩
          · exact h.elim
        · exact h.elim
      case return_ =>
        unfold vblk at h
        dsimp only at h
        split at h
        · split at h
          · rename_i hb
            rw [hrt] at hb
            have hb := Nat.eq_of_beq_eq_true hb
            subst hb
            exact ⟨0, .inl none, m, fun e w => rfl, rfl, h⟩
          · exact h.elim
        · exact h.elim
      case checkcast x =>
        unfold vblk at h
        dsimp only at h
        split at h
        · exact ⟨0, .inr x, m, fun e w => rfl, h⟩
        · exact h.elim
      case invokevirtual z =>
        unfold vblk at h
        dsimp only at h
        split at h
        · rename_i hc
          cases D with
          | zero => exact h.elim
          | succ D => exact vcall_ok hc h hl hs (fun v m' hk hw => ih _ _ _ hk hl hw)
        · exact h.elim
      case invokespecial z =>
        unfold vblk at h
        dsimp only at h
        split at h
        · rename_i hc
          cases D with
          | zero => exact h.elim
          | succ D => exact vcall_ok hc h hl hs (fun v m' hk hw => ih _ _ _ hk hl hw)
        · exact h.elim
      case invokestatic z =>
        unfold vblk at h
        dsimp only at h
        split at h
        · rename_i hc
          cases D with
          | zero => exact h.elim
          | succ D => exact vcall_ok hc h hl hs (fun v m' hk hw => ih _ _ _ hk hl hw)
        · exact h.elim
      all_goals exact absurd h hone
/-- a label: its block's conditions -/
theorem VL_at {y L na ml rc rt : Nat} {lv : List Nat} {is : List Instr} {bs : List XB} (hm : xmt y = some (na, ml, rc, rt, [], bs)) (hb : bs[L]? = some (lv, is)) {D : Nat} {al : AL} {st : List AV} {m : XM} {Q : Value → XM → Prop} {E : Nat → XM → Prop}
    (h : vblk D y Q E is (anorm lv al) st m) : VL D y L al st m Q E := by
  intro hl hs
  obtain ⟨n, r, m', h1, h2⟩ := vblk_ok hm is _ _ _ h (anorm_wt hl lv) hs
  have hrt : rtOf y = rt := rtOf_of hm
  rw [hrt]
  refine ⟨n + 1, r, m', fun e w => ?_, h2⟩
  unfold xrun
  rw [hm]
  dsimp only
  rw [hb]
  dsimp only
  rw [anorm_cv]
  exact h1 e w
theorem V_of {D y : Nat} {args : List AV} {m : XM} {Q : Value → XM → Prop} {E : Nat → XM → Prop} (h : VL D y 0 (vargs 0 args) [] m Q E) : V D y args m Q E := fun _ => h
theorem vpost_mono {rt : Nat} {r : XR} {m : XM} {Q Q' : Value → XM → Prop} {E E' : Nat → XM → Prop} (h : vpost rt r m Q E) (hQ : ∀ v m, Q v m → Q' v m) (hE : ∀ x m, E x m → E' x m) : vpost rt r m Q' E' := by
  cases r with
  | inl v => exact ⟨h.1, hQ _ _ h.2⟩
  | inr x => exact hE _ _ h
theorem VL_mono {D y L : Nat} {al : AL} {st : List AV} {m : XM} {Q Q' : Value → XM → Prop} {E E' : Nat → XM → Prop} (h : VL D y L al st m Q E) (hQ : ∀ v m, Q v m → Q' v m) (hE : ∀ x m, E x m → E' x m) : VL D y L al st m Q' E' := by
  intro hl hs
  obtain ⟨n, r, m', h1, h2⟩ := h hl hs
  exact ⟨n, r, m', h1, vpost_mono h2 hQ hE⟩
theorem V_mono {D y : Nat} {args : List AV} {m : XM} {Q Q' : Value → XM → Prop} {E E' : Nat → XM → Prop} (h : V D y args m Q E) (hQ : ∀ v m, Q v m → Q' v m) (hE : ∀ x m, E x m → E' x m) : V D y args m Q' E' :=
  fun hw => VL_mono (h hw) hQ hE
end
section
/-! Shorter words for the conditions, and what their printed forms use. -/
abbrev VU (D y : Nat) (args : List AV) (m : XM) (Q : XM → Prop) (E : Nat → XM → Prop) : Prop := V D y args m (fun _ m' => Q m') E
abbrev VI (D y : Nat) (args : List AV) (m : XM) (Q : Int32 → XM → Prop) (E : Nat → XM → Prop) : Prop := V D y args m (fun v m' => Q (xti v) m') E
abbrev VJ (D y : Nat) (args : List AV) (m : XM) (Q : Int64 → XM → Prop) (E : Nat → XM → Prop) : Prop := V D y args m (fun v m' => Q (xtl v) m') E
abbrev VF (D y : Nat) (args : List AV) (m : XM) (Q : UInt32 → XM → Prop) (E : Nat → XM → Prop) : Prop := V D y args m (fun v m' => Q (xtf v) m') E
abbrev VD (D y : Nat) (args : List AV) (m : XM) (Q : UInt64 → XM → Prop) (E : Nat → XM → Prop) : Prop := V D y args m (fun v m' => Q (xtd v) m') E
abbrev VA (D y : Nat) (args : List AV) (m : XM) (Q : Nat → XM → Prop) (E : Nat → XM → Prop) : Prop := V D y args m (fun v m' => Q (xtr v) m') E
abbrev VLU (D y L : Nat) (al : AL) (st : List AV) (m : XM) (Q : XM → Prop) (E : Nat → XM → Prop) : Prop := VL D y L al st m (fun _ m' => Q m') E
abbrev VLI (D y L : Nat) (al : AL) (st : List AV) (m : XM) (Q : Int32 → XM → Prop) (E : Nat → XM → Prop) : Prop := VL D y L al st m (fun v m' => Q (xti v) m') E
abbrev VLJ (D y L : Nat) (al : AL) (st : List AV) (m : XM) (Q : Int64 → XM → Prop) (E : Nat → XM → Prop) : Prop := VL D y L al st m (fun v m' => Q (xtl v) m') E
abbrev VLF (D y L : Nat) (al : AL) (st : List AV) (m : XM) (Q : UInt32 → XM → Prop) (E : Nat → XM → Prop) : Prop := VL D y L al st m (fun v m' => Q (xtf v) m') E
abbrev VLD (D y L : Nat) (al : AL) (st : List AV) (m : XM) (Q : UInt64 → XM → Prop) (E : Nat → XM → Prop) : Prop := VL D y L al st m (fun v m' => Q (xtd v) m') E
abbrev VLA (D y L : Nat) (al : AL) (st : List AV) (m : XM) (Q : Nat → XM → Prop) (E : Nat → XM → Prop) : Prop := VL D y L al st m (fun v m' => Q (xtr v) m') E
theorem xk_norm (lv : List Nat) (ls : XL) (k : Nat) : xk (xnorm lv ls) k = if k ∈ lv then xk ls k else none := by
  induction lv with
  | nil => rfl
  | cons j t ih =>
    unfold xnorm
    by_cases hjk : j = k
    · subst hjk
      rw [if_pos List.mem_cons_self]
      cases h : xk ls j with
      | some v =>
        show (if j = j then some v else _) = _
        rw [if_pos rfl]
      | none =>
        show xk (xnorm t ls) j = none
        rw [ih, h]; split <;> rfl
    · have e : (k ∈ j :: t) = (k ∈ t) := by
        exact propext ⟨fun h => (List.mem_cons.mp h).resolve_left (fun h => hjk h.symm), List.mem_cons_of_mem _⟩
      simp only [e]
      cases h : xk ls j with
      | some v =>
        show (if j = k then some v else xk (xnorm t ls) k) = _
        rw [if_neg hjk, ih]
      | none => exact ih
theorem xnorm_congr {lv : List Nat} {ls ls' : XL} (h : ∀ k ∈ lv, xk ls' k = xk ls k) : xnorm lv ls' = xnorm lv ls := by
  induction lv with
  | nil => rfl
  | cons j t ih =>
    unfold xnorm
    rw [h j List.mem_cons_self, ih (fun k hk => h k (List.mem_cons_of_mem _ hk))]
theorem xnorm_idem (lv : List Nat) (ls : XL) : xnorm lv (xnorm lv ls) = xnorm lv ls :=
  xnorm_congr fun k hk => by rw [xk_norm, if_pos hk]
theorem VL_norm {y L na ml rc rt : Nat} {lv : List Nat} {is : List Instr} {bs : List XB} (hm : xmt y = some (na, ml, rc, rt, [], bs)) (hb : bs[L]? = some (lv, is)) {D : Nat} {al : AL} {st : List AV} {m : XM} {Q : Value → XM → Prop} {E : Nat → XM → Prop}
    (h : VL D y L (anorm lv al) st m Q E) : VL D y L al st m Q E := by
  intro hl hs
  obtain ⟨n, r, m', h1, h2⟩ := h (anorm_wt hl lv) hs
  refine ⟨n, r, m', fun e w => ?_, h2⟩
  rw [← h1 e w]
  cases n with
  | zero => rfl
  | succ n =>
    unfold xrun
    rw [hm]
    dsimp only
    rw [hb]
    dsimp only
    rw [← anorm_cv, xnorm_idem]
theorem xrt20 : xrt 2 (n32 0) = true := by decide
theorem xrt21 : xrt 2 (n32 1) = true := by decide
theorem n32_toInt {k : Nat} (h : k < 2147483648) : (n32 k).toInt = k := by
  unfold n32
  rw [Int32.toInt_ofNat_of_lt (by omega)]
theorem ix_n32 {k : Nat} (h : k < 2147483648) : ix (n32 k) = k := by
  unfold ix Int32.toNatClampNeg
  rw [n32_toInt h]; omega
theorem xin_n {i n : Nat} (h : i < n) (hi : i < 2147483648) : xin (n32 i) n = true := by
  unfold xin
  rw [Bool.and_eq_true]
  refine ⟨decide_eq_true ?_, decide_eq_true ?_⟩
  · rw [Int32.le_iff_toInt_le, n32_toInt hi]
    show (0 : Int32).toInt ≤ _
    rw [show (0 : Int32).toInt = 0 from rfl]; omega
  · have := ix_n32 hi
    unfold ix at this
    omega
theorem xin_k {i n : Nat} (h : (Nat.blt i n && Nat.blt i 2147483648) = true) : xin (n32 i) n = true := by
  rw [Bool.and_eq_true, Nat.blt_eq, Nat.blt_eq] at h
  exact xin_n h.1 h.2
end
section
/-! Verification conditions (written by program: wip/whole/mkw.py). -/
/-- BannerParade$Ground.copyFrom, label 0 -/
theorem w4_0 {D : Nat} {a0 : Nat} {a1 : Nat} {m : XM} {Q : XM → Prop} {E : Nat → XM → Prop}
    (h : VU D 172 [vR 200012 (a1 + 1), vR 200012 (a0 + 1)] (um m (a0) 0 (m a1 0)) (fun m1 => VU D 172 [vR 200012 (a1 + 2), vR 200012 (a0 + 2)] m1 (fun m2 => VU D 172 [vR 200012 (a1 + 3), vR 200012 (a0 + 3)] m2 (fun m3 => Q m3) E) E) E) :
    VU (D + 1) 4 [vR 1 (a0), vR 1 (a1)] m Q E := by
  refine V_of (VL_at (al := [(0, vR 1 (a0)), (1, vR 1 (a1))]) (st := []) km4 k4_0 ?_)
  refine V_mono h (fun u1 m1 h1 => ?_) (fun _ _ h => h)
  refine V_mono h1 (fun u2 m2 h2 => ?_) (fun _ _ h => h)
  refine V_mono h2 (fun u3 m3 h3 => ?_) (fun _ _ h => h)
  exact h3
/-- BannerParade$Ground.removeAt, label 0 -/
theorem w6_0 {D : Nat} {a0 : Nat} {v1 : Int32} {m : XM} {Q : XM → Prop} {E : Nat → XM → Prop}
    (h : ((v1 < (n32 0) → Q m) ∧ (¬ v1 < (n32 0) → ((v1 < (m a0 0) → VLU D 6 4 [(0, vR 1 (a0)), (2, vI v1)] [] m Q E) ∧ (¬ v1 < (m a0 0) → Q m))))) :
    VU D 6 [vR 1 (a0), vI v1] m Q E := by
  refine V_of (VL_at (al := [(0, vR 1 (a0)), (1, vI v1)]) (st := []) km6 k6_0 ?_)
  refine And.intro (fun c2 => ?_) (fun c2 => ?_)
  · refine VL_norm km6 k6_2 (VL_at (al := []) (st := []) km6 k6_2 ?_)
    exact (h.1 c2)
  · refine VL_norm km6 k6_1 (VL_at (al := [(0, vR 1 (a0)), (1, vI v1)]) (st := []) km6 k6_1 ?_)
    refine And.intro (fun c1 => ?_) (fun c1 => ?_)
    · refine VL_norm km6 k6_3 (VL_at (al := [(0, vR 1 (a0)), (1, vI v1)]) (st := []) km6 k6_3 ?_)
      exact VL_norm km6 k6_4 ((h.2 c2).1 c1)
    · refine VL_norm km6 k6_2 (VL_at (al := []) (st := []) km6 k6_2 ?_)
      exact ((h.2 c2).2 c1)
/-- BannerParade$Ground.removeAt, label 4 -/
theorem w6_4 {D : Nat} {a0 : Nat} {v2 : Int32} {m : XM} {Q : XM → Prop} {E : Nat → XM → Prop}
    (h : (((m a0 0) ≤ (v2 + (n32 1)) → Q (um m (a0) 0 ((m a0 0) - (n32 1)))) ∧ (¬ (m a0 0) ≤ (v2 + (n32 1)) → (xin (v2 + (n32 1)) 12 = true ∧ (xin v2 12 = true ∧ (∀ μ1 : XM, μ1 = um (um m (a0 + 1) (ix v2) (m (a0 + 1) (ix (v2 + (n32 1))))) (a0 + 2) (ix v2) ((um m (a0 + 1) (ix v2) (m (a0 + 1) (ix (v2 + (n32 1))))) (a0 + 2) (ix (v2 + (n32 1)))) → VLU D 6 4 [(0, vR 1 (a0)), (2, vI (v2 + (n32 1)))] [] (um μ1 (a0 + 3) (ix v2) (μ1 (a0 + 3) (ix (v2 + (n32 1))))) Q E)))))) :
    VLU D 6 4 [(0, vR 1 (a0)), (2, vI v2)] [] m Q E := by
  refine VL_at (al := [(0, vR 1 (a0)), (2, vI v2)]) (st := []) km6 k6_4 ?_
  refine And.intro (fun c2 => ?_) (fun c2 => ?_)
  · refine VL_norm km6 k6_6 (VL_at (al := [(0, vR 1 (a0))]) (st := []) km6 k6_6 ?_)
    exact (h.1 c2)
  · refine VL_norm km6 k6_5 (VL_at (al := [(0, vR 1 (a0)), (2, vI v2)]) (st := []) km6 k6_5 ?_)
    refine And.intro (h.2 c2).1 ?_
    refine And.intro (h.2 c2).2.1 ?_
    refine And.intro (h.2 c2).1 ?_
    refine And.intro (h.2 c2).2.1 ?_
    refine And.intro (h.2 c2).1 ?_
    refine And.intro (h.2 c2).2.1 ?_
    exact VL_norm km6 k6_4 ((h.2 c2).2.2 (um (um m (a0 + 1) (ix v2) (m (a0 + 1) (ix (v2 + (n32 1))))) (a0 + 2) (ix v2) ((um m (a0 + 1) (ix v2) (m (a0 + 1) (ix (v2 + (n32 1))))) (a0 + 2) (ix (v2 + (n32 1))))) rfl)
/-- BannerParade$Ground.between, label 0 -/
theorem w7_0 {D : Nat} {a0 : Nat} {v1 : Int32} {v2 : Int32} {m : XM} {Q : Int32 → XM → Prop} {E : Nat → XM → Prop}
    (h : VLI D 7 1 [(0, vR 1 (a0)), (1, vI v1), (2, vI v2), (3, vI (n32 0)), (4, vI (n32 0))] [] m Q E) :
    VI D 7 [vR 1 (a0), vI v1, vI v2] m Q E := by
  refine V_of (VL_at (al := [(0, vR 1 (a0)), (1, vI v1), (2, vI v2)]) (st := []) km7 k7_0 ?_)
  exact VL_norm km7 k7_1 h
/-- BannerParade$Ground.between, label 1 -/
theorem w7_1 {D : Nat} {a0 : Nat} {v1 : Int32} {v2 : Int32} {v3 : Int32} {v4 : Int32} {m : XM} {Q : Int32 → XM → Prop} {E : Nat → XM → Prop}
    (h : (((m a0 0) ≤ v4 → Q v3 m) ∧ (¬ (m a0 0) ≤ v4 → (xin v4 12 = true ∧ (((m (a0 + 2) (ix v4)) < v1 → VLI D 7 1 [(0, vR 1 (a0)), (1, vI v1), (2, vI v2), (3, vI v3), (4, vI (v4 + (n32 1)))] [] m Q E) ∧ (¬ (m (a0 + 2) (ix v4)) < v1 → ((v2 < (m (a0 + 2) (ix v4)) → VLI D 7 1 [(0, vR 1 (a0)), (1, vI v1), (2, vI v2), (3, vI v3), (4, vI (v4 + (n32 1)))] [] m Q E) ∧ (¬ v2 < (m (a0 + 2) (ix v4)) → VLI D 7 1 [(0, vR 1 (a0)), (1, vI v1), (2, vI v2), (3, vI (v3 + (n32 1))), (4, vI (v4 + (n32 1)))] [] m Q E)))))))) :
    VLI D 7 1 [(0, vR 1 (a0)), (1, vI v1), (2, vI v2), (3, vI v3), (4, vI v4)] [] m Q E := by
  refine VL_at (al := [(0, vR 1 (a0)), (1, vI v1), (2, vI v2), (3, vI v3), (4, vI v4)]) (st := []) km7 k7_1 ?_
  refine And.intro (fun c3 => ?_) (fun c3 => ?_)
  · refine VL_norm km7 k7_6 (VL_at (al := [(3, vI v3)]) (st := []) km7 k7_6 ?_)
    exact (h.1 c3)
  · refine VL_norm km7 k7_2 (VL_at (al := [(0, vR 1 (a0)), (1, vI v1), (2, vI v2), (3, vI v3), (4, vI v4)]) (st := []) km7 k7_2 ?_)
    refine And.intro (h.2 c3).1 ?_
    refine And.intro (fun c2 => ?_) (fun c2 => ?_)
    · refine VL_norm km7 k7_5 (VL_at (al := [(0, vR 1 (a0)), (1, vI v1), (2, vI v2), (3, vI v3), (4, vI v4)]) (st := []) km7 k7_5 ?_)
      exact VL_norm km7 k7_1 ((h.2 c3).2.1 c2)
    · refine VL_norm km7 k7_3 (VL_at (al := [(0, vR 1 (a0)), (1, vI v1), (2, vI v2), (3, vI v3), (4, vI v4)]) (st := []) km7 k7_3 ?_)
      refine And.intro (h.2 c3).1 ?_
      refine And.intro (fun c1 => ?_) (fun c1 => ?_)
      · refine VL_norm km7 k7_5 (VL_at (al := [(0, vR 1 (a0)), (1, vI v1), (2, vI v2), (3, vI v3), (4, vI v4)]) (st := []) km7 k7_5 ?_)
        exact VL_norm km7 k7_1 (((h.2 c3).2.2 c2).1 c1)
      · refine VL_norm km7 k7_4 (VL_at (al := [(0, vR 1 (a0)), (1, vI v1), (2, vI v2), (3, vI v3), (4, vI v4)]) (st := []) km7 k7_4 ?_)
        refine VL_norm km7 k7_5 (VL_at (al := [(0, vR 1 (a0)), (1, vI v1), (2, vI v2), (3, vI (v3 + (n32 1))), (4, vI v4)]) (st := []) km7 k7_5 ?_)
        exact VL_norm km7 k7_1 (((h.2 c3).2.2 c2).2 c1)
/-- BannerParade$Ground.bestBetween, label 0 -/
theorem w8_0 {D : Nat} {a0 : Nat} {v1 : Int32} {v2 : Int32} {m : XM} {Q : Int32 → XM → Prop} {E : Nat → XM → Prop}
    (h : VLI D 8 1 [(0, vR 1 (a0)), (1, vI v1), (2, vI v2), (3, vI (-(n32 1))), (4, vI (n32 0))] [] m Q E) :
    VI D 8 [vR 1 (a0), vI v1, vI v2] m Q E := by
  refine V_of (VL_at (al := [(0, vR 1 (a0)), (1, vI v1), (2, vI v2)]) (st := []) km8 k8_0 ?_)
  exact VL_norm km8 k8_1 h
/-- BannerParade$Ground.bestBetween, label 1 -/
theorem w8_1 {D : Nat} {a0 : Nat} {v1 : Int32} {v2 : Int32} {v3 : Int32} {v4 : Int32} {m : XM} {Q : Int32 → XM → Prop} {E : Nat → XM → Prop}
    (h : (((m a0 0) ≤ v4 → Q v3 m) ∧ (¬ (m a0 0) ≤ v4 → (xin v4 12 = true ∧ (((m (a0 + 2) (ix v4)) < v1 → VLI D 8 1 [(0, vR 1 (a0)), (1, vI v1), (2, vI v2), (3, vI v3), (4, vI (v4 + (n32 1)))] [] m Q E) ∧ (¬ (m (a0 + 2) (ix v4)) < v1 → ((v2 < (m (a0 + 2) (ix v4)) → VLI D 8 1 [(0, vR 1 (a0)), (1, vI v1), (2, vI v2), (3, vI v3), (4, vI (v4 + (n32 1)))] [] m Q E) ∧ (¬ v2 < (m (a0 + 2) (ix v4)) → ((v3 = (-(n32 1)) → VLI D 8 1 [(0, vR 1 (a0)), (1, vI v1), (2, vI v2), (3, vI v4), (4, vI (v4 + (n32 1)))] [] m Q E) ∧ (¬ v3 = (-(n32 1)) → (xin v3 12 = true ∧ (((m (a0 + 2) (ix v4)) ≤ (m (a0 + 2) (ix v3)) → VLI D 8 1 [(0, vR 1 (a0)), (1, vI v1), (2, vI v2), (3, vI v3), (4, vI (v4 + (n32 1)))] [] m Q E) ∧ (¬ (m (a0 + 2) (ix v4)) ≤ (m (a0 + 2) (ix v3)) → VLI D 8 1 [(0, vR 1 (a0)), (1, vI v1), (2, vI v2), (3, vI v4), (4, vI (v4 + (n32 1)))] [] m Q E))))))))))))) :
    VLI D 8 1 [(0, vR 1 (a0)), (1, vI v1), (2, vI v2), (3, vI v3), (4, vI v4)] [] m Q E := by
  refine VL_at (al := [(0, vR 1 (a0)), (1, vI v1), (2, vI v2), (3, vI v3), (4, vI v4)]) (st := []) km8 k8_1 ?_
  refine And.intro (fun c5 => ?_) (fun c5 => ?_)
  · refine VL_norm km8 k8_11 (VL_at (al := [(3, vI v3)]) (st := []) km8 k8_11 ?_)
    exact (h.1 c5)
  · refine VL_norm km8 k8_2 (VL_at (al := [(0, vR 1 (a0)), (1, vI v1), (2, vI v2), (3, vI v3), (4, vI v4)]) (st := []) km8 k8_2 ?_)
    refine And.intro (h.2 c5).1 ?_
    refine And.intro (fun c4 => ?_) (fun c4 => ?_)
    · refine VL_norm km8 k8_5 (VL_at (al := [(0, vR 1 (a0)), (1, vI v1), (2, vI v2), (3, vI v3), (4, vI v4)]) (st := []) km8 k8_5 ?_)
      refine VL_norm km8 k8_6 (VL_at (al := [(0, vR 1 (a0)), (1, vI v1), (2, vI v2), (3, vI v3), (4, vI v4)]) (st := [vI (n32 0)]) km8 k8_6 ?_)
      refine And.intro (fun _ => ?_) (fun c => absurd (by decide) c)
      refine VL_norm km8 k8_10 (VL_at (al := [(0, vR 1 (a0)), (1, vI v1), (2, vI v2), (3, vI v3), (4, vI v4)]) (st := []) km8 k8_10 ?_)
      exact VL_norm km8 k8_1 ((h.2 c5).2.1 c4)
    · refine VL_norm km8 k8_3 (VL_at (al := [(0, vR 1 (a0)), (1, vI v1), (2, vI v2), (3, vI v3), (4, vI v4)]) (st := []) km8 k8_3 ?_)
      refine And.intro (h.2 c5).1 ?_
      refine And.intro (fun c3 => ?_) (fun c3 => ?_)
      · refine VL_norm km8 k8_5 (VL_at (al := [(0, vR 1 (a0)), (1, vI v1), (2, vI v2), (3, vI v3), (4, vI v4)]) (st := []) km8 k8_5 ?_)
        refine VL_norm km8 k8_6 (VL_at (al := [(0, vR 1 (a0)), (1, vI v1), (2, vI v2), (3, vI v3), (4, vI v4)]) (st := [vI (n32 0)]) km8 k8_6 ?_)
        refine And.intro (fun _ => ?_) (fun c => absurd (by decide) c)
        refine VL_norm km8 k8_10 (VL_at (al := [(0, vR 1 (a0)), (1, vI v1), (2, vI v2), (3, vI v3), (4, vI v4)]) (st := []) km8 k8_10 ?_)
        exact VL_norm km8 k8_1 (((h.2 c5).2.2 c4).1 c3)
      · refine VL_norm km8 k8_4 (VL_at (al := [(0, vR 1 (a0)), (1, vI v1), (2, vI v2), (3, vI v3), (4, vI v4)]) (st := []) km8 k8_4 ?_)
        refine VL_norm km8 k8_6 (VL_at (al := [(0, vR 1 (a0)), (1, vI v1), (2, vI v2), (3, vI v3), (4, vI v4)]) (st := [vI (n32 1)]) km8 k8_6 ?_)
        refine And.intro (fun c => absurd c (by decide)) (fun _ => ?_)
        refine VL_norm km8 k8_7 (VL_at (al := [(0, vR 1 (a0)), (1, vI v1), (2, vI v2), (3, vI v3), (4, vI v4)]) (st := []) km8 k8_7 ?_)
        refine And.intro (fun c2 => ?_) (fun c2 => ?_)
        · refine VL_norm km8 k8_9 (VL_at (al := [(0, vR 1 (a0)), (1, vI v1), (2, vI v2), (4, vI v4)]) (st := []) km8 k8_9 ?_)
          refine VL_norm km8 k8_10 (VL_at (al := [(0, vR 1 (a0)), (1, vI v1), (2, vI v2), (3, vI v4), (4, vI v4)]) (st := []) km8 k8_10 ?_)
          exact VL_norm km8 k8_1 ((((h.2 c5).2.2 c4).2 c3).1 c2)
        · refine VL_norm km8 k8_8 (VL_at (al := [(0, vR 1 (a0)), (1, vI v1), (2, vI v2), (3, vI v3), (4, vI v4)]) (st := []) km8 k8_8 ?_)
          refine And.intro (h.2 c5).1 ?_
          refine And.intro ((((h.2 c5).2.2 c4).2 c3).2 c2).1 ?_
          refine And.intro (fun c1 => ?_) (fun c1 => ?_)
          · refine VL_norm km8 k8_10 (VL_at (al := [(0, vR 1 (a0)), (1, vI v1), (2, vI v2), (3, vI v3), (4, vI v4)]) (st := []) km8 k8_10 ?_)
            exact VL_norm km8 k8_1 (((((h.2 c5).2.2 c4).2 c3).2 c2).2.1 c1)
          · refine VL_norm km8 k8_9 (VL_at (al := [(0, vR 1 (a0)), (1, vI v1), (2, vI v2), (4, vI v4)]) (st := []) km8 k8_9 ?_)
            refine VL_norm km8 k8_10 (VL_at (al := [(0, vR 1 (a0)), (1, vI v1), (2, vI v2), (3, vI v4), (4, vI v4)]) (st := []) km8 k8_10 ?_)
            exact VL_norm km8 k8_1 (((((h.2 c5).2.2 c4).2 c3).2 c2).2.2 c1)
/-- BannerParade$Memory.forgetSlots, label 0 -/
theorem w12_0 {D : Nat} {a0 : Nat} {m : XM} {Q : XM → Prop} {E : Nat → XM → Prop}
    (h : VLU D 12 1 [(0, vR 2 (a0)), (1, vI (n32 0))] [] m Q E) :
    VU D 12 [vR 2 (a0)] m Q E := by
  refine V_of (VL_at (al := [(0, vR 2 (a0))]) (st := []) km12 k12_0 ?_)
  exact VL_norm km12 k12_1 h
/-- BannerParade$Memory.forgetSlots, label 1 -/
theorem w12_1 {D : Nat} {a0 : Nat} {v1 : Int32} {m : XM} {Q : XM → Prop} {E : Nat → XM → Prop}
    (h : (((n32 2) ≤ v1 → Q m) ∧ (¬ (n32 2) ≤ v1 → (xin v1 2 = true ∧ VLU D 12 1 [(0, vR 2 (a0)), (1, vI (v1 + (n32 1)))] [] (um m (a0 + 3) (ix v1) (n32 0)) Q E)))) :
    VLU D 12 1 [(0, vR 2 (a0)), (1, vI v1)] [] m Q E := by
  refine VL_at (al := [(0, vR 2 (a0)), (1, vI v1)]) (st := []) km12 k12_1 ?_
  refine And.intro (fun c1 => ?_) (fun c1 => ?_)
  · refine VL_norm km12 k12_3 (VL_at (al := []) (st := []) km12 k12_3 ?_)
    exact (h.1 c1)
  · refine VL_norm km12 k12_2 (VL_at (al := [(0, vR 2 (a0)), (1, vI v1)]) (st := []) km12 k12_2 ?_)
    refine And.intro (h.2 c1).1 (And.intro (Or.inl rfl) ?_)
    exact VL_norm km12 k12_1 (h.2 c1).2
/-- BannerParade$Memory.remember, label 0 -/
theorem w13_0 {D : Nat} {a0 : Nat} {a1 : Nat} {m : XM} {Q : XM → Prop} {E : Nat → XM → Prop}
    (h : (xin (((m a0 0) + (m a0 1)) - ((m a0 0) + (m a0 1)) / (n32 8) * (n32 8)) 8 = true ∧ VU (D + 3) 17 [vR 8 (a1), vR 8 (a0 + 1 + 3 + 20 * ix (((m a0 0) + (m a0 1)) - ((m a0 0) + (m a0 1)) / (n32 8) * (n32 8)))] m (fun m1 => (((n32 8) ≤ (m1 a0 1) → Q (um m1 (a0) 0 (((m1 a0 0) + (n32 1)) - ((m1 a0 0) + (n32 1)) / (n32 8) * (n32 8)))) ∧ (¬ (n32 8) ≤ (m1 a0 1) → Q (um m1 (a0) 1 ((m1 a0 1) + (n32 1)))))) E)) :
    VU (D + 4) 13 [vR 2 (a0), vR 8 (a1)] m Q E := by
  refine V_of (VL_at (al := [(0, vR 2 (a0)), (1, vR 8 (a1))]) (st := []) km13 k13_0 ?_)
  refine And.intro (by decide) ?_
  refine And.intro h.1 ?_
  refine V_mono h.2 (fun u1 m1 h1 => ?_) (fun _ _ h => h)
  refine And.intro (fun c2 => ?_) (fun c2 => ?_)
  · refine VL_norm km13 k13_2 (VL_at (al := [(0, vR 2 (a0))]) (st := []) km13 k13_2 ?_)
    refine And.intro (by decide) ?_
    refine VL_norm km13 k13_3 (VL_at (al := []) (st := []) km13 k13_3 ?_)
    exact (h1.1 c2)
  · refine VL_norm km13 k13_1 (VL_at (al := [(0, vR 2 (a0))]) (st := []) km13 k13_1 ?_)
    refine VL_norm km13 k13_3 (VL_at (al := []) (st := []) km13 k13_3 ?_)
    exact (h1.2 c2)
/-- BannerParade$Memory.takeBack, label 0 -/
theorem w14_0 {D : Nat} {a0 : Nat} {a1 : Nat} {m : XM} {Q : XM → Prop} {E : Nat → XM → Prop}
    (h : (((m a0 1) ≤ (n32 0) → Q m) ∧ (¬ (m a0 1) ≤ (n32 0) → (xin ((((um m (a0) 1 ((m a0 1) - (n32 1))) a0 0) + ((um m (a0) 1 ((m a0 1) - (n32 1))) a0 1)) - (((um m (a0) 1 ((m a0 1) - (n32 1))) a0 0) + ((um m (a0) 1 ((m a0 1) - (n32 1))) a0 1)) / (n32 8) * (n32 8)) 8 = true ∧ VU (D + 3) 17 [vR 8 (a0 + 1 + 3 + 20 * ix ((((um m (a0) 1 ((m a0 1) - (n32 1))) a0 0) + ((um m (a0) 1 ((m a0 1) - (n32 1))) a0 1)) - (((um m (a0) 1 ((m a0 1) - (n32 1))) a0 0) + ((um m (a0) 1 ((m a0 1) - (n32 1))) a0 1)) / (n32 8) * (n32 8))), vR 8 (a1)] (um m (a0) 1 ((m a0 1) - (n32 1))) (fun m1 => Q m1) E)))) :
    VU (D + 4) 14 [vR 2 (a0), vR 8 (a1)] m Q E := by
  refine V_of (VL_at (al := [(0, vR 2 (a0)), (1, vR 8 (a1))]) (st := []) km14 k14_0 ?_)
  refine And.intro (fun c2 => ?_) (fun c2 => ?_)
  · refine VL_norm km14 k14_2 (VL_at (al := []) (st := []) km14 k14_2 ?_)
    exact (h.1 c2)
  · refine VL_norm km14 k14_1 (VL_at (al := [(0, vR 2 (a0)), (1, vR 8 (a1))]) (st := []) km14 k14_1 ?_)
    refine And.intro (by decide) ?_
    refine And.intro (h.2 c2).1 ?_
    refine V_mono (h.2 c2).2 (fun u1 m1 h1 => ?_) (fun _ _ h => h)
    refine VL_norm km14 k14_2 (VL_at (al := []) (st := []) km14 k14_2 ?_)
    exact h1
/-- BannerParade$Memory.fillSlot, label 0 -/
theorem w15_0 {D : Nat} {a0 : Nat} {v1 : Int32} {a2 : Nat} {m : XM} {Q : XM → Prop} {E : Nat → XM → Prop}
    (h : (xin v1 2 = true ∧ VU (D + 3) 17 [vR 8 (a2), vR 8 (a0 + 2 + 162 + 20 * ix v1)] m (fun m1 => (xin v1 2 = true ∧ Q (um m1 (a0 + 3) (ix v1) (n32 1)))) E)) :
    VU (D + 4) 15 [vR 2 (a0), vI v1, vR 8 (a2)] m Q E := by
  refine V_of (VL_at (al := [(0, vR 2 (a0)), (1, vI v1), (2, vR 8 (a2))]) (st := []) km15 k15_0 ?_)
  refine And.intro h.1 ?_
  refine V_mono h.2 (fun u1 m1 h1 => ?_) (fun _ _ h => h)
  refine And.intro h1.1 (And.intro (Or.inr rfl) ?_)
  exact h1.2
/-- BannerParade$Memory.readSlot, label 0 -/
theorem w16_0 {D : Nat} {a0 : Nat} {v1 : Int32} {a2 : Nat} {m : XM} {Q : XM → Prop} {E : Nat → XM → Prop}
    (h : (xin v1 2 = true ∧ VU (D + 3) 17 [vR 8 (a0 + 2 + 162 + 20 * ix v1), vR 8 (a2)] m (fun m1 => Q m1) E)) :
    VU (D + 4) 16 [vR 2 (a0), vI v1, vR 8 (a2)] m Q E := by
  refine V_of (VL_at (al := [(0, vR 2 (a0)), (1, vI v1), (2, vR 8 (a2))]) (st := []) km16 k16_0 ?_)
  refine And.intro h.1 ?_
  refine V_mono h.2 (fun u1 m1 h1 => ?_) (fun _ _ h => h)
  exact h1
/-- BannerParade$Memory.copyState, label 0 -/
theorem w17_0 {D : Nat} {a0 : Nat} {a1 : Nat} {m : XM} {Q : XM → Prop} {E : Nat → XM → Prop}
    (h : VU (D + 2) 68 [vR 8 (a1), vR 8 (a0)] m (fun m1 => Q m1) E) :
    VU (D + 3) 17 [vR 8 (a0), vR 8 (a1)] m Q E := by
  refine V_of (VL_at (al := [(0, vR 8 (a0)), (1, vR 8 (a1))]) (st := []) km17 k17_0 ?_)
  refine VL_norm km17 k17_1 (VL_at (al := [(0, vR 8 (a0)), (1, vR 8 (a1))]) (st := []) km17 k17_1 ?_)
  refine VL_norm km17 k17_2 (VL_at (al := [(0, vR 8 (a0)), (1, vR 8 (a1))]) (st := []) km17 k17_2 ?_)
  refine V_mono h (fun u1 m1 h1 => ?_) (fun _ _ h => h)
  refine VL_norm km17 k17_3 (VL_at (al := []) (st := []) km17 k17_3 ?_)
  exact h1
/-- BannerParade$Parser.parseText, label 0 -/
theorem w19_0 {D : Nat} {a0 : Nat} {v1 : Int32} {m : XM} {Q : Int32 → XM → Prop} {E : Nat → XM → Prop}
    (h : VU (D + 6) 69 [vR 8 (a0 + 3)] (um (um m (a0) 3 (n32 0)) (a0) 4 (-(n32 1))) (fun m1 => VU (D + 6) 83 [vR 9 (a0 + 1), vI v1] (um m1 (a0 + 23) 0 (n32 0)) (fun m2 => VI (D + 6) 21 [vR 3 (a0)] m2 (fun x3 m3 => ((x3 = (n32 0) → Q (n32 0) m3) ∧ (¬ x3 = (n32 0) → VU (D + 6) 84 [vR 9 (a0 + 1)] m3 (fun m4 => VLI (D + 7) 19 3 [(0, vR 3 (a0)), (2, vI (n32 0))] [] m4 Q E) E))) E) E) E) :
    VI (D + 7) 19 [vR 3 (a0), vI v1] m Q E := by
  refine V_of (VL_at (al := [(0, vR 3 (a0)), (1, vI v1)]) (st := []) km19 k19_0 ?_)
  refine V_mono h (fun u1 m1 h1 => ?_) (fun _ _ h => h)
  refine V_mono h1 (fun u2 m2 h2 => ?_) (fun _ _ h => h)
  refine V_mono h2 (fun u3 m3 h3 => ?_) (fun _ _ h => h)
  refine And.intro (fun c5 => ?_) (fun c5 => ?_)
  · refine VL_norm km19 k19_1 (VL_at (al := []) (st := []) km19 k19_1 ?_)
    refine And.intro xrt20 ?_
    exact (h3.1 c5)
  · refine VL_norm km19 k19_2 (VL_at (al := [(0, vR 3 (a0))]) (st := []) km19 k19_2 ?_)
    refine V_mono (h3.2 c5) (fun u4 m4 h4 => ?_) (fun _ _ h => h)
    exact VL_norm km19 k19_3 h4
/-- BannerParade$Parser.parseText, label 3 -/
theorem w19_3 {D : Nat} {a0 : Nat} {v2 : Int32} {m : XM} {Q : Int32 → XM → Prop} {E : Nat → XM → Prop}
    (h : (((n32 700) ≤ v2 → (((m (a0 + 1) 5) = (n32 0) → Q (n32 1) m) ∧ (¬ (m (a0 + 1) 5) = (n32 0) → VI (D + 6) 20 [vR 3 (a0), vI (n32 1)] m (fun x1 m1 => ((x1 = (n32 0) → Q (n32 0) m1) ∧ (¬ x1 = (n32 0) → Q (n32 1) m1))) E))) ∧ (¬ (n32 700) ≤ v2 → (((m (a0 + 1) 5) = (n32 3) → VI (D + 6) 22 [vR 3 (a0)] m (fun x4 m4 => ((x4 = (n32 0) → Q (n32 0) m4) ∧ (¬ x4 = (n32 0) → VU (D + 6) 84 [vR 9 (a0 + 1)] m4 (fun m5 => VLI (D + 7) 19 3 [(0, vR 3 (a0)), (2, vI (v2 + (n32 1)))] [] m5 Q E) E))) E) ∧ (¬ (m (a0 + 1) 5) = (n32 3) → (((m (a0 + 1) 5) = (n32 0) → Q (n32 1) m) ∧ (¬ (m (a0 + 1) 5) = (n32 0) → VI (D + 6) 20 [vR 3 (a0), vI (n32 1)] m (fun x7 m7 => ((x7 = (n32 0) → Q (n32 0) m7) ∧ (¬ x7 = (n32 0) → Q (n32 1) m7))) E))))))) :
    VLI (D + 7) 19 3 [(0, vR 3 (a0)), (2, vI v2)] [] m Q E := by
  refine VL_at (al := [(0, vR 3 (a0)), (2, vI v2)]) (st := []) km19 k19_3 ?_
  refine And.intro (fun c11 => ?_) (fun c11 => ?_)
  · refine VL_norm km19 k19_8 (VL_at (al := [(0, vR 3 (a0))]) (st := []) km19 k19_8 ?_)
    refine And.intro (fun c3 => ?_) (fun c3 => ?_)
    · refine VL_norm km19 k19_10 (VL_at (al := []) (st := []) km19 k19_10 ?_)
      refine VL_norm km19 k19_12 (VL_at (al := []) (st := [vI (n32 1)]) km19 k19_12 ?_)
      refine And.intro xrt21 ?_
      exact ((h.1 c11).1 c3)
    · refine VL_norm km19 k19_9 (VL_at (al := [(0, vR 3 (a0))]) (st := []) km19 k19_9 ?_)
      refine V_mono ((h.1 c11).2 c3) (fun u1 m1 h1 => ?_) (fun _ _ h => h)
      refine And.intro (fun c2 => ?_) (fun c2 => ?_)
      · refine VL_norm km19 k19_11 (VL_at (al := []) (st := []) km19 k19_11 ?_)
        refine VL_norm km19 k19_12 (VL_at (al := []) (st := [vI (n32 0)]) km19 k19_12 ?_)
        refine And.intro xrt20 ?_
        exact (h1.1 c2)
      · refine VL_norm km19 k19_10 (VL_at (al := []) (st := []) km19 k19_10 ?_)
        refine VL_norm km19 k19_12 (VL_at (al := []) (st := [vI (n32 1)]) km19 k19_12 ?_)
        refine And.intro xrt21 ?_
        exact (h1.2 c2)
  · refine VL_norm km19 k19_4 (VL_at (al := [(0, vR 3 (a0)), (2, vI v2)]) (st := []) km19 k19_4 ?_)
    refine And.intro (fun c10 => ?_) (fun c10 => ?_)
    · refine VL_norm km19 k19_5 (VL_at (al := [(0, vR 3 (a0)), (2, vI v2)]) (st := []) km19 k19_5 ?_)
      refine V_mono ((h.2 c11).1 c10) (fun u4 m4 h4 => ?_) (fun _ _ h => h)
      refine And.intro (fun c6 => ?_) (fun c6 => ?_)
      · refine VL_norm km19 k19_6 (VL_at (al := []) (st := []) km19 k19_6 ?_)
        refine And.intro xrt20 ?_
        exact (h4.1 c6)
      · refine VL_norm km19 k19_7 (VL_at (al := [(0, vR 3 (a0)), (2, vI v2)]) (st := []) km19 k19_7 ?_)
        refine V_mono (h4.2 c6) (fun u5 m5 h5 => ?_) (fun _ _ h => h)
        exact VL_norm km19 k19_3 h5
    · refine VL_norm km19 k19_8 (VL_at (al := [(0, vR 3 (a0))]) (st := []) km19 k19_8 ?_)
      refine And.intro (fun c9 => ?_) (fun c9 => ?_)
      · refine VL_norm km19 k19_10 (VL_at (al := []) (st := []) km19 k19_10 ?_)
        refine VL_norm km19 k19_12 (VL_at (al := []) (st := [vI (n32 1)]) km19 k19_12 ?_)
        refine And.intro xrt21 ?_
        exact (((h.2 c11).2 c10).1 c9)
      · refine VL_norm km19 k19_9 (VL_at (al := [(0, vR 3 (a0))]) (st := []) km19 k19_9 ?_)
        refine V_mono (((h.2 c11).2 c10).2 c9) (fun u7 m7 h7 => ?_) (fun _ _ h => h)
        refine And.intro (fun c8 => ?_) (fun c8 => ?_)
        · refine VL_norm km19 k19_11 (VL_at (al := []) (st := []) km19 k19_11 ?_)
          refine VL_norm km19 k19_12 (VL_at (al := []) (st := [vI (n32 0)]) km19 k19_12 ?_)
          refine And.intro xrt20 ?_
          exact (h7.1 c8)
        · refine VL_norm km19 k19_10 (VL_at (al := []) (st := []) km19 k19_10 ?_)
          refine VL_norm km19 k19_12 (VL_at (al := []) (st := [vI (n32 1)]) km19 k19_12 ?_)
          refine And.intro xrt21 ?_
          exact (h7.2 c8)
/-- BannerParade$Parser.refuse, label 0 -/
theorem w20_0 {D : Nat} {a0 : Nat} {v1 : Int32} {m : XM} {Q : Int32 → XM → Prop} {E : Nat → XM → Prop}
    (h : Q (n32 0) (um (um m (a0) 3 v1) (a0) 4 ((um m (a0) 3 v1) (a0 + 1) 3))) :
    VI D 20 [vR 3 (a0), vI v1] m Q E := by
  refine V_of (VL_at (al := [(0, vR 3 (a0)), (1, vI v1)]) (st := []) km20 k20_0 ?_)
  refine And.intro xrt20 ?_
  exact h
/-- BannerParade$Parser.parseHead, label 0 -/
theorem w21_0 {D : Nat} {a0 : Nat} {m : XM} {Q : Int32 → XM → Prop} {E : Nat → XM → Prop}
    (h : VU (D + 4) 84 [vR 9 (a0 + 1)] m (fun m1 => VI (D + 4) 89 [vR 9 (a0 + 1), vR 30 (1000011)] m1 (fun x2 m2 => ((x2 = (n32 0) → VI (D + 4) 20 [vR 3 (a0), vI (n32 1)] m2 (fun x3 m3 => (xrt 2 x3 = true ∧ Q x3 m3)) E) ∧ (¬ x2 = (n32 0) → VLI (D + 5) 21 3 [(0, vR 3 (a0)), (1, vI (n32 0))] [] m2 Q E))) E) E) :
    VI (D + 5) 21 [vR 3 (a0)] m Q E := by
  refine V_of (VL_at (al := [(0, vR 3 (a0))]) (st := []) km21 k21_0 ?_)
  refine V_mono h (fun u1 m1 h1 => ?_) (fun _ _ h => h)
  refine V_mono h1 (fun u2 m2 h2 => ?_) (fun _ _ h => h)
  refine And.intro (fun c4 => ?_) (fun c4 => ?_)
  · refine VL_norm km21 k21_1 (VL_at (al := [(0, vR 3 (a0))]) (st := []) km21 k21_1 ?_)
    refine V_mono (h2.1 c4) (fun u3 m3 h3 => ?_) (fun _ _ h => h)
    refine And.intro h3.1 ?_
    exact h3.2
  · refine VL_norm km21 k21_2 (VL_at (al := [(0, vR 3 (a0))]) (st := []) km21 k21_2 ?_)
    exact VL_norm km21 k21_3 (h2.2 c4)
/-- BannerParade$Parser.parseHead, label 3 -/
theorem w21_3 {D : Nat} {a0 : Nat} {v1 : Int32} {m : XM} {Q : Int32 → XM → Prop} {E : Nat → XM → Prop}
    (h : (((n32 6) ≤ v1 → Q (n32 1) m) ∧ (¬ (n32 6) ≤ v1 → (xin v1 6 = true ∧ VI (D + 4) 26 [vR 3 (a0), vI (c40 (ix v1)), vI (c41 (ix v1))] m (fun x1 m1 => ((x1 = (n32 0) → Q (n32 0) m1) ∧ (¬ x1 = (n32 0) → VLI (D + 5) 21 3 [(0, vR 3 (a0)), (1, vI (v1 + (n32 1)))] [] (um m1 (a0 + 3 + 1) (ix v1) (m1 (a0 + 1) 6)) Q E))) E)))) :
    VLI (D + 5) 21 3 [(0, vR 3 (a0)), (1, vI v1)] [] m Q E := by
  refine VL_at (al := [(0, vR 3 (a0)), (1, vI v1)]) (st := []) km21 k21_3 ?_
  refine And.intro (fun c3 => ?_) (fun c3 => ?_)
  · refine VL_norm km21 k21_7 (VL_at (al := []) (st := []) km21 k21_7 ?_)
    refine And.intro xrt21 ?_
    exact (h.1 c3)
  · refine VL_norm km21 k21_4 (VL_at (al := [(0, vR 3 (a0)), (1, vI v1)]) (st := []) km21 k21_4 ?_)
    refine And.intro (h.2 c3).1 ?_
    refine And.intro (h.2 c3).1 ?_
    refine V_mono (h.2 c3).2 (fun u1 m1 h1 => ?_) (fun _ _ h => h)
    refine And.intro (fun c2 => ?_) (fun c2 => ?_)
    · refine VL_norm km21 k21_5 (VL_at (al := []) (st := []) km21 k21_5 ?_)
      refine And.intro xrt20 ?_
      exact (h1.1 c2)
    · refine VL_norm km21 k21_6 (VL_at (al := [(0, vR 3 (a0)), (1, vI v1)]) (st := []) km21 k21_6 ?_)
      refine And.intro (h.2 c3).1 ?_
      exact VL_norm km21 k21_3 (h1.2 c2)
/-- BannerParade$Parser.parseLine, label 0 -/
theorem w22_0 {D : Nat} {a0 : Nat} {m : XM} {Q : Int32 → XM → Prop} {E : Nat → XM → Prop}
    (h : VU (D + 5) 84 [vR 9 (a0 + 1)] m (fun m1 => VI (D + 5) 89 [vR 9 (a0 + 1), vR 30 (1000012)] m1 (fun x2 m2 => ((x2 = (n32 0) → VI (D + 5) 89 [vR 9 (a0 + 1), vR 30 (1000013)] m2 (fun x3 m3 => ((x3 = (n32 0) → VI (D + 5) 89 [vR 9 (a0 + 1), vR 30 (1000016)] m3 (fun x4 m4 => ((x4 = (n32 0) → VI (D + 5) 20 [vR 3 (a0), vI (n32 1)] m4 (fun x5 m5 => (xrt 2 x5 = true ∧ Q x5 m5)) E) ∧ (¬ x4 = (n32 0) → (((n32 12) ≤ (m4 (a0 + 3 + 16) 0) → VI (D + 5) 20 [vR 3 (a0), vI (n32 4)] m4 (fun x6 m6 => (xrt 2 x6 = true ∧ Q x6 m6)) E) ∧ (¬ (n32 12) ≤ (m4 (a0 + 3 + 16) 0) → VI (D + 5) 25 [vR 3 (a0)] m4 (fun x7 m7 => (xrt 2 x7 = true ∧ Q x7 m7)) E))))) E) ∧ (¬ x3 = (n32 0) → (((n32 6) ≤ (m3 (a0 + 23) 0) → VI (D + 5) 20 [vR 3 (a0), vI (n32 4)] m3 (fun x10 m10 => (xrt 2 x10 = true ∧ Q x10 m10)) E) ∧ (¬ (n32 6) ≤ (m3 (a0 + 23) 0) → VI (D + 5) 24 [vR 3 (a0)] m3 (fun x11 m11 => (xrt 2 x11 = true ∧ Q x11 m11)) E))))) E) ∧ (¬ x2 = (n32 0) → (((n32 12) ≤ (m2 (a0 + 3 + 3) 0) → VI (D + 5) 20 [vR 3 (a0), vI (n32 4)] m2 (fun x14 m14 => (xrt 2 x14 = true ∧ Q x14 m14)) E) ∧ (¬ (n32 12) ≤ (m2 (a0 + 3 + 3) 0) → VI (D + 5) 23 [vR 3 (a0)] m2 (fun x15 m15 => (xrt 2 x15 = true ∧ Q x15 m15)) E))))) E) E) :
    VI (D + 6) 22 [vR 3 (a0)] m Q E := by
  refine V_of (VL_at (al := [(0, vR 3 (a0))]) (st := []) km22 k22_0 ?_)
  refine V_mono h (fun u1 m1 h1 => ?_) (fun _ _ h => h)
  refine V_mono h1 (fun u2 m2 h2 => ?_) (fun _ _ h => h)
  refine And.intro (fun c17 => ?_) (fun c17 => ?_)
  · refine VL_norm km22 k22_5 (VL_at (al := [(0, vR 3 (a0))]) (st := []) km22 k22_5 ?_)
    refine V_mono (h2.1 c17) (fun u3 m3 h3 => ?_) (fun _ _ h => h)
    refine And.intro (fun c13 => ?_) (fun c13 => ?_)
    · refine VL_norm km22 k22_10 (VL_at (al := [(0, vR 3 (a0))]) (st := []) km22 k22_10 ?_)
      refine V_mono (h3.1 c13) (fun u4 m4 h4 => ?_) (fun _ _ h => h)
      refine And.intro (fun c9 => ?_) (fun c9 => ?_)
      · refine VL_norm km22 k22_15 (VL_at (al := [(0, vR 3 (a0))]) (st := []) km22 k22_15 ?_)
        refine V_mono (h4.1 c9) (fun u5 m5 h5 => ?_) (fun _ _ h => h)
        refine And.intro h5.1 ?_
        exact h5.2
      · refine VL_norm km22 k22_11 (VL_at (al := [(0, vR 3 (a0))]) (st := []) km22 k22_11 ?_)
        refine And.intro (fun c8 => ?_) (fun c8 => ?_)
        · refine VL_norm km22 k22_13 (VL_at (al := [(0, vR 3 (a0))]) (st := []) km22 k22_13 ?_)
          refine V_mono ((h4.2 c9).1 c8) (fun u6 m6 h6 => ?_) (fun _ _ h => h)
          refine VL_norm km22 k22_14 (VL_at (al := []) (st := [vI (xti u6)]) km22 k22_14 ?_)
          refine And.intro h6.1 ?_
          exact h6.2
        · refine VL_norm km22 k22_12 (VL_at (al := [(0, vR 3 (a0))]) (st := []) km22 k22_12 ?_)
          refine V_mono ((h4.2 c9).2 c8) (fun u7 m7 h7 => ?_) (fun _ _ h => h)
          refine VL_norm km22 k22_14 (VL_at (al := []) (st := [vI (xti u7)]) km22 k22_14 ?_)
          refine And.intro h7.1 ?_
          exact h7.2
    · refine VL_norm km22 k22_6 (VL_at (al := [(0, vR 3 (a0))]) (st := []) km22 k22_6 ?_)
      refine And.intro (fun c12 => ?_) (fun c12 => ?_)
      · refine VL_norm km22 k22_8 (VL_at (al := [(0, vR 3 (a0))]) (st := []) km22 k22_8 ?_)
        refine V_mono ((h3.2 c13).1 c12) (fun u10 m10 h10 => ?_) (fun _ _ h => h)
        refine VL_norm km22 k22_9 (VL_at (al := []) (st := [vI (xti u10)]) km22 k22_9 ?_)
        refine And.intro h10.1 ?_
        exact h10.2
      · refine VL_norm km22 k22_7 (VL_at (al := [(0, vR 3 (a0))]) (st := []) km22 k22_7 ?_)
        refine V_mono ((h3.2 c13).2 c12) (fun u11 m11 h11 => ?_) (fun _ _ h => h)
        refine VL_norm km22 k22_9 (VL_at (al := []) (st := [vI (xti u11)]) km22 k22_9 ?_)
        refine And.intro h11.1 ?_
        exact h11.2
  · refine VL_norm km22 k22_1 (VL_at (al := [(0, vR 3 (a0))]) (st := []) km22 k22_1 ?_)
    refine And.intro (fun c16 => ?_) (fun c16 => ?_)
    · refine VL_norm km22 k22_3 (VL_at (al := [(0, vR 3 (a0))]) (st := []) km22 k22_3 ?_)
      refine V_mono ((h2.2 c17).1 c16) (fun u14 m14 h14 => ?_) (fun _ _ h => h)
      refine VL_norm km22 k22_4 (VL_at (al := []) (st := [vI (xti u14)]) km22 k22_4 ?_)
      refine And.intro h14.1 ?_
      exact h14.2
    · refine VL_norm km22 k22_2 (VL_at (al := [(0, vR 3 (a0))]) (st := []) km22 k22_2 ?_)
      refine V_mono ((h2.2 c17).2 c16) (fun u15 m15 h15 => ?_) (fun _ _ h => h)
      refine VL_norm km22 k22_4 (VL_at (al := []) (st := [vI (xti u15)]) km22 k22_4 ?_)
      refine And.intro h15.1 ?_
      exact h15.2
/-- BannerParade$Parser.parseBearer, label 0 -/
theorem w23_0 {D : Nat} {a0 : Nat} {m : XM} {Q : Int32 → XM → Prop} {E : Nat → XM → Prop}
    (h : VU (D + 2) 84 [vR 9 (a0 + 1)] m (fun m1 => (((m1 (a0 + 1) 5) = (n32 1) → ((((m1 (a0 + 1) 4) - (m1 (a0 + 1) 3)) = (n32 1) → VI (D + 2) 88 [vR 9 (a0 + 1), vI (n32 0)] m1 (fun x2 m2 => VI (D + 2) 26 [vR 3 (a0), vI (n32 1), vI (n32 200)] m2 (fun x3 m3 => ((x3 = (n32 0) → Q (n32 0) m3) ∧ (¬ x3 = (n32 0) → VI (D + 2) 26 [vR 3 (a0), vI (n32 0), vI (n32 20)] m3 (fun x4 m4 => ((x4 = (n32 0) → Q (n32 0) m4) ∧ (¬ x4 = (n32 0) → VU (D + 2) 49 [vR 7 (a0 + 3 + 3), vI (x2 - (n32 96)), vI (m3 (a0 + 1) 6), vI (m4 (a0 + 1) 6), vI (m4 (a0 + 3 + 1) (ix (n32 0)))] m4 (fun m5 => Q (n32 1) m5) E))) E))) E) E) ∧ (¬ ((m1 (a0 + 1) 4) - (m1 (a0 + 1) 3)) = (n32 1) → VI (D + 2) 20 [vR 3 (a0), vI (n32 1)] m1 (fun x8 m8 => (xrt 2 x8 = true ∧ Q x8 m8)) E))) ∧ (¬ (m1 (a0 + 1) 5) = (n32 1) → VI (D + 2) 20 [vR 3 (a0), vI (n32 1)] m1 (fun x10 m10 => (xrt 2 x10 = true ∧ Q x10 m10)) E))) E) :
    VI (D + 3) 23 [vR 3 (a0)] m Q E := by
  refine V_of (VL_at (al := [(0, vR 3 (a0))]) (st := []) km23 k23_0 ?_)
  refine V_mono h (fun u1 m1 h1 => ?_) (fun _ _ h => h)
  refine V_of ?_
  refine VL_norm km87 k87_0 (VL_at (al := [(0, vR 9 (a0 + 1))]) (st := []) km87 k87_0 ?_)
  refine And.intro (fun c11 => ?_) (fun c11 => ?_)
  · refine VL_norm km87 k87_1 (VL_at (al := [(0, vR 9 (a0 + 1))]) (st := []) km87 k87_1 ?_)
    refine VL_norm km87 k87_3 (VL_at (al := []) (st := [vI ((m1 (a0 + 1) 4) - (m1 (a0 + 1) 3))]) km87 k87_3 ?_)
    refine And.intro (fun c9 => ?_) (fun c9 => ?_)
    · refine VL_norm km23 k23_2 (VL_at (al := [(0, vR 3 (a0))]) (st := []) km23 k23_2 ?_)
      refine V_mono ((h1.1 c11).1 c9) (fun u2 m2 h2 => ?_) (fun _ _ h => h)
      refine V_mono h2 (fun u3 m3 h3 => ?_) (fun _ _ h => h)
      refine And.intro (fun c7 => ?_) (fun c7 => ?_)
      · refine VL_norm km23 k23_3 (VL_at (al := []) (st := []) km23 k23_3 ?_)
        refine And.intro xrt20 ?_
        exact (h3.1 c7)
      · refine VL_norm km23 k23_4 (VL_at (al := [(0, vR 3 (a0)), (1, vI ((xti u2) - (n32 96)))]) (st := []) km23 k23_4 ?_)
        refine V_mono (h3.2 c7) (fun u4 m4 h4 => ?_) (fun _ _ h => h)
        refine And.intro (fun c6 => ?_) (fun c6 => ?_)
        · refine VL_norm km23 k23_5 (VL_at (al := []) (st := []) km23 k23_5 ?_)
          refine And.intro xrt20 ?_
          exact (h4.1 c6)
        · refine VL_norm km23 k23_6 (VL_at (al := [(0, vR 3 (a0)), (1, vI ((xti u2) - (n32 96))), (2, vI (m3 (a0 + 1) 6))]) (st := []) km23 k23_6 ?_)
          refine And.intro (xin_k rfl) ?_
          refine V_mono (h4.2 c6) (fun u5 m5 h5 => ?_) (fun _ _ h => h)
          refine And.intro xrt21 ?_
          exact h5
    · refine VL_norm km23 k23_1 (VL_at (al := [(0, vR 3 (a0))]) (st := []) km23 k23_1 ?_)
      refine V_mono ((h1.1 c11).2 c9) (fun u8 m8 h8 => ?_) (fun _ _ h => h)
      refine And.intro h8.1 ?_
      exact h8.2
  · refine VL_norm km87 k87_2 (VL_at (al := []) (st := []) km87 k87_2 ?_)
    refine VL_norm km87 k87_3 (VL_at (al := []) (st := [vI (n32 0)]) km87 k87_3 ?_)
    refine And.intro (fun c => absurd c (by decide)) (fun _ => ?_)
    refine VL_norm km23 k23_1 (VL_at (al := [(0, vR 3 (a0))]) (st := []) km23 k23_1 ?_)
    refine V_mono (h1.2 c11) (fun u10 m10 h10 => ?_) (fun _ _ h => h)
    refine And.intro h10.1 ?_
    exact h10.2
/-- BannerParade$Parser.parseStand, label 0 -/
theorem w24_0 {D : Nat} {a0 : Nat} {m : XM} {Q : Int32 → XM → Prop} {E : Nat → XM → Prop}
    (h : VU (D + 4) 84 [vR 9 (a0 + 1)] m (fun m1 => VI (D + 4) 89 [vR 9 (a0 + 1), vR 30 (1000014)] m1 (fun x2 m2 => ((x2 = (n32 0) → VI (D + 4) 89 [vR 9 (a0 + 1), vR 30 (1000015)] m2 (fun x3 m3 => ((x3 = (n32 0) → VI (D + 4) 20 [vR 3 (a0), vI (n32 1)] m3 (fun x4 m4 => (xrt 2 x4 = true ∧ Q x4 m4)) E) ∧ (¬ x3 = (n32 0) → VI (D + 4) 26 [vR 3 (a0), vI (n32 0), vI (n32 9999)] m3 (fun x5 m5 => ((x5 = (n32 0) → Q (n32 0) m5) ∧ (¬ x5 = (n32 0) → VU (D + 4) 84 [vR 9 (a0 + 1)] m5 (fun m6 => (((m6 (a0 + 1) 5) = (n32 1) → (((m6 (a0 + 23) 0) < (n32 6) → (xin (m6 (a0 + 23) 0) 6 = true ∧ (xin ((um m6 (a0 + 23 + 1) (ix (m6 (a0 + 23) 0)) (n32 0)) (a0 + 23) 0) 6 = true ∧ (xin ((um (um m6 (a0 + 23 + 1) (ix (m6 (a0 + 23) 0)) (n32 0)) (a0 + 23 + 2) (ix ((um m6 (a0 + 23 + 1) (ix (m6 (a0 + 23) 0)) (n32 0)) (a0 + 23) 0)) (m5 (a0 + 1) 6)) (a0 + 23) 0) 6 = true ∧ (∀ μ7 : XM, μ7 = um (um (um m6 (a0 + 23 + 1) (ix (m6 (a0 + 23) 0)) (n32 0)) (a0 + 23 + 2) (ix ((um m6 (a0 + 23 + 1) (ix (m6 (a0 + 23) 0)) (n32 0)) (a0 + 23) 0)) (m5 (a0 + 1) 6)) (a0 + 23 + 3) (ix ((um (um m6 (a0 + 23 + 1) (ix (m6 (a0 + 23) 0)) (n32 0)) (a0 + 23 + 2) (ix ((um m6 (a0 + 23 + 1) (ix (m6 (a0 + 23) 0)) (n32 0)) (a0 + 23) 0)) (m5 (a0 + 1) 6)) (a0 + 23) 0)) (n32 0) → VLI (D + 5) 24 11 [(0, vR 3 (a0)), (3, vI (n32 0))] [] (um μ7 (a0 + 23) 0 ((μ7 (a0 + 23) 0) + (n32 1))) Q E))))) ∧ (¬ (m6 (a0 + 23) 0) < (n32 6) → VLI (D + 5) 24 11 [(0, vR 3 (a0)), (3, vI (n32 0))] [] m6 Q E))) ∧ (¬ (m6 (a0 + 1) 5) = (n32 1) → VI (D + 4) 20 [vR 3 (a0), vI (n32 1)] m6 (fun x9 m9 => (xrt 2 x9 = true ∧ Q x9 m9)) E))) E))) E))) E) ∧ (¬ x2 = (n32 0) → VI (D + 4) 26 [vR 3 (a0), vI (n32 0), vI (n32 9999)] m2 (fun x13 m13 => ((x13 = (n32 0) → Q (n32 0) m13) ∧ (¬ x13 = (n32 0) → VU (D + 4) 84 [vR 9 (a0 + 1)] m13 (fun m14 => (((m14 (a0 + 1) 5) = (n32 1) → (((m14 (a0 + 23) 0) < (n32 6) → (xin (m14 (a0 + 23) 0) 6 = true ∧ (xin ((um m14 (a0 + 23 + 1) (ix (m14 (a0 + 23) 0)) (n32 1)) (a0 + 23) 0) 6 = true ∧ (xin ((um (um m14 (a0 + 23 + 1) (ix (m14 (a0 + 23) 0)) (n32 1)) (a0 + 23 + 2) (ix ((um m14 (a0 + 23 + 1) (ix (m14 (a0 + 23) 0)) (n32 1)) (a0 + 23) 0)) (m13 (a0 + 1) 6)) (a0 + 23) 0) 6 = true ∧ (∀ μ15 : XM, μ15 = um (um (um m14 (a0 + 23 + 1) (ix (m14 (a0 + 23) 0)) (n32 1)) (a0 + 23 + 2) (ix ((um m14 (a0 + 23 + 1) (ix (m14 (a0 + 23) 0)) (n32 1)) (a0 + 23) 0)) (m13 (a0 + 1) 6)) (a0 + 23 + 3) (ix ((um (um m14 (a0 + 23 + 1) (ix (m14 (a0 + 23) 0)) (n32 1)) (a0 + 23 + 2) (ix ((um m14 (a0 + 23 + 1) (ix (m14 (a0 + 23) 0)) (n32 1)) (a0 + 23) 0)) (m13 (a0 + 1) 6)) (a0 + 23) 0)) (n32 0) → VLI (D + 5) 24 11 [(0, vR 3 (a0)), (3, vI (n32 0))] [] (um μ15 (a0 + 23) 0 ((μ15 (a0 + 23) 0) + (n32 1))) Q E))))) ∧ (¬ (m14 (a0 + 23) 0) < (n32 6) → VLI (D + 5) 24 11 [(0, vR 3 (a0)), (3, vI (n32 0))] [] m14 Q E))) ∧ (¬ (m14 (a0 + 1) 5) = (n32 1) → VI (D + 4) 20 [vR 3 (a0), vI (n32 1)] m14 (fun x17 m17 => (xrt 2 x17 = true ∧ Q x17 m17)) E))) E))) E))) E) E) :
    VI (D + 5) 24 [vR 3 (a0)] m Q E := by
  refine V_of (VL_at (al := [(0, vR 3 (a0))]) (st := []) km24 k24_0 ?_)
  refine V_mono h (fun u1 m1 h1 => ?_) (fun _ _ h => h)
  refine V_mono h1 (fun u2 m2 h2 => ?_) (fun _ _ h => h)
  refine And.intro (fun c20 => ?_) (fun c20 => ?_)
  · refine VL_norm km24 k24_1 (VL_at (al := [(0, vR 3 (a0)), (1, vI (xti u2))]) (st := []) km24 k24_1 ?_)
    refine V_mono (h2.1 c20) (fun u3 m3 h3 => ?_) (fun _ _ h => h)
    refine And.intro (fun c12 => ?_) (fun c12 => ?_)
    · refine VL_norm km24 k24_2 (VL_at (al := [(0, vR 3 (a0))]) (st := []) km24 k24_2 ?_)
      refine V_mono (h3.1 c12) (fun u4 m4 h4 => ?_) (fun _ _ h => h)
      refine And.intro h4.1 ?_
      exact h4.2
    · refine VL_norm km24 k24_3 (VL_at (al := [(0, vR 3 (a0)), (1, vI (xti u2))]) (st := []) km24 k24_3 ?_)
      refine V_mono (h3.2 c12) (fun u5 m5 h5 => ?_) (fun _ _ h => h)
      refine And.intro (fun c11 => ?_) (fun c11 => ?_)
      · refine VL_norm km24 k24_4 (VL_at (al := []) (st := []) km24 k24_4 ?_)
        refine And.intro xrt20 ?_
        exact (h5.1 c11)
      · refine VL_norm km24 k24_5 (VL_at (al := [(0, vR 3 (a0)), (1, vI (xti u2))]) (st := []) km24 k24_5 ?_)
        refine V_mono (h5.2 c11) (fun u6 m6 h6 => ?_) (fun _ _ h => h)
        refine And.intro (fun c10 => ?_) (fun c10 => ?_)
        · refine VL_norm km24 k24_7 (VL_at (al := [(0, vR 3 (a0)), (1, vI (xti u2)), (2, vI (m5 (a0 + 1) 6))]) (st := []) km24 k24_7 ?_)
          refine And.intro (fun _ => ?_) (fun c => absurd c20 c)
          refine VL_norm km24 k24_9 (VL_at (al := [(0, vR 3 (a0)), (2, vI (m5 (a0 + 1) 6))]) (st := [vR 6 (a0 + 23)]) km24 k24_9 ?_)
          refine VL_norm km24 k24_10 (VL_at (al := [(0, vR 3 (a0)), (2, vI (m5 (a0 + 1) 6))]) (st := [vI (n32 0), vR 6 (a0 + 23)]) km24 k24_10 ?_)
          refine V_of ?_
          refine VL_norm km43 k43_0 (VL_at (al := [(0, vR 6 (a0 + 23)), (1, vI (n32 0)), (2, vI (m5 (a0 + 1) 6))]) (st := []) km43 k43_0 ?_)
          refine And.intro (fun c8 => ?_) (fun c8 => ?_)
          · refine VL_norm km43 k43_2 (VL_at (al := [(0, vR 6 (a0 + 23)), (1, vI (n32 0)), (2, vI (m5 (a0 + 1) 6))]) (st := []) km43 k43_2 ?_)
            refine And.intro ((h6.1 c10).1 c8).1 ?_
            refine And.intro ((h6.1 c10).1 c8).2.1 ?_
            refine And.intro ((h6.1 c10).1 c8).2.2.1 ?_
            exact VL_norm km24 k24_11 (((h6.1 c10).1 c8).2.2.2 (um (um (um m6 (a0 + 23 + 1) (ix (m6 (a0 + 23) 0)) (n32 0)) (a0 + 23 + 2) (ix ((um m6 (a0 + 23 + 1) (ix (m6 (a0 + 23) 0)) (n32 0)) (a0 + 23) 0)) (m5 (a0 + 1) 6)) (a0 + 23 + 3) (ix ((um (um m6 (a0 + 23 + 1) (ix (m6 (a0 + 23) 0)) (n32 0)) (a0 + 23 + 2) (ix ((um m6 (a0 + 23 + 1) (ix (m6 (a0 + 23) 0)) (n32 0)) (a0 + 23) 0)) (m5 (a0 + 1) 6)) (a0 + 23) 0)) (n32 0)) rfl)
          · refine VL_norm km43 k43_1 (VL_at (al := []) (st := []) km43 k43_1 ?_)
            exact VL_norm km24 k24_11 ((h6.1 c10).2 c8)
        · refine VL_norm km24 k24_6 (VL_at (al := [(0, vR 3 (a0))]) (st := []) km24 k24_6 ?_)
          refine V_mono (h6.2 c10) (fun u9 m9 h9 => ?_) (fun _ _ h => h)
          refine And.intro h9.1 ?_
          exact h9.2
  · refine VL_norm km24 k24_3 (VL_at (al := [(0, vR 3 (a0)), (1, vI (xti u2))]) (st := []) km24 k24_3 ?_)
    refine V_mono (h2.2 c20) (fun u13 m13 h13 => ?_) (fun _ _ h => h)
    refine And.intro (fun c19 => ?_) (fun c19 => ?_)
    · refine VL_norm km24 k24_4 (VL_at (al := []) (st := []) km24 k24_4 ?_)
      refine And.intro xrt20 ?_
      exact (h13.1 c19)
    · refine VL_norm km24 k24_5 (VL_at (al := [(0, vR 3 (a0)), (1, vI (xti u2))]) (st := []) km24 k24_5 ?_)
      refine V_mono (h13.2 c19) (fun u14 m14 h14 => ?_) (fun _ _ h => h)
      refine And.intro (fun c18 => ?_) (fun c18 => ?_)
      · refine VL_norm km24 k24_7 (VL_at (al := [(0, vR 3 (a0)), (1, vI (xti u2)), (2, vI (m13 (a0 + 1) 6))]) (st := []) km24 k24_7 ?_)
        refine And.intro (fun c => absurd c c20) (fun _ => ?_)
        refine VL_norm km24 k24_8 (VL_at (al := [(0, vR 3 (a0)), (2, vI (m13 (a0 + 1) 6))]) (st := [vR 6 (a0 + 23)]) km24 k24_8 ?_)
        refine VL_norm km24 k24_10 (VL_at (al := [(0, vR 3 (a0)), (2, vI (m13 (a0 + 1) 6))]) (st := [vI (n32 1), vR 6 (a0 + 23)]) km24 k24_10 ?_)
        refine V_of ?_
        refine VL_norm km43 k43_0 (VL_at (al := [(0, vR 6 (a0 + 23)), (1, vI (n32 1)), (2, vI (m13 (a0 + 1) 6))]) (st := []) km43 k43_0 ?_)
        refine And.intro (fun c16 => ?_) (fun c16 => ?_)
        · refine VL_norm km43 k43_2 (VL_at (al := [(0, vR 6 (a0 + 23)), (1, vI (n32 1)), (2, vI (m13 (a0 + 1) 6))]) (st := []) km43 k43_2 ?_)
          refine And.intro ((h14.1 c18).1 c16).1 ?_
          refine And.intro ((h14.1 c18).1 c16).2.1 ?_
          refine And.intro ((h14.1 c18).1 c16).2.2.1 ?_
          exact VL_norm km24 k24_11 (((h14.1 c18).1 c16).2.2.2 (um (um (um m14 (a0 + 23 + 1) (ix (m14 (a0 + 23) 0)) (n32 1)) (a0 + 23 + 2) (ix ((um m14 (a0 + 23 + 1) (ix (m14 (a0 + 23) 0)) (n32 1)) (a0 + 23) 0)) (m13 (a0 + 1) 6)) (a0 + 23 + 3) (ix ((um (um m14 (a0 + 23 + 1) (ix (m14 (a0 + 23) 0)) (n32 1)) (a0 + 23 + 2) (ix ((um m14 (a0 + 23 + 1) (ix (m14 (a0 + 23) 0)) (n32 1)) (a0 + 23) 0)) (m13 (a0 + 1) 6)) (a0 + 23) 0)) (n32 0)) rfl)
        · refine VL_norm km43 k43_1 (VL_at (al := []) (st := []) km43 k43_1 ?_)
          exact VL_norm km24 k24_11 ((h14.1 c18).2 c16)
      · refine VL_norm km24 k24_6 (VL_at (al := [(0, vR 3 (a0))]) (st := []) km24 k24_6 ?_)
        refine V_mono (h14.2 c18) (fun u17 m17 h17 => ?_) (fun _ _ h => h)
        refine And.intro h17.1 ?_
        exact h17.2
/-- BannerParade$Parser.parseStand, label 11 -/
theorem w24_11 {D : Nat} {a0 : Nat} {v3 : Int32} {m : XM} {Q : Int32 → XM → Prop} {E : Nat → XM → Prop}
    (h : (((m (a0 + 1) 5) = (n32 1) → ((((m (a0 + 1) 4) - (m (a0 + 1) 3)) ≤ v3 → Q (n32 1) m) ∧ (¬ ((m (a0 + 1) 4) - (m (a0 + 1) 3)) ≤ v3 → VI (D + 4) 88 [vR 9 (a0 + 1), vI v3] m (fun x1 m1 => ((((m1 (a0 + 23) 0) - (n32 1)) < (n32 0) → VLI (D + 5) 24 11 [(0, vR 3 (a0)), (3, vI (v3 + (n32 1)))] [] m1 Q E) ∧ (¬ ((m1 (a0 + 23) 0) - (n32 1)) < (n32 0) → (xin ((m1 (a0 + 23) 0) - (n32 1)) 6 = true ∧ (((m1 (a0 + 23 + 3) (ix ((m1 (a0 + 23) 0) - (n32 1)))) < (n32 8) → (xin ((((m1 (a0 + 23) 0) - (n32 1)) * (n32 8)) + (m1 (a0 + 23 + 3) (ix ((m1 (a0 + 23) 0) - (n32 1))))) 48 = true ∧ (∀ μ2 : XM, μ2 = um (um m1 (a0 + 23 + 4) (ix ((((m1 (a0 + 23) 0) - (n32 1)) * (n32 8)) + (m1 (a0 + 23 + 3) (ix ((m1 (a0 + 23) 0) - (n32 1)))))) x1) (a0 + 23 + 3) (ix ((m1 (a0 + 23) 0) - (n32 1))) (((um m1 (a0 + 23 + 4) (ix ((((m1 (a0 + 23) 0) - (n32 1)) * (n32 8)) + (m1 (a0 + 23 + 3) (ix ((m1 (a0 + 23) 0) - (n32 1)))))) x1) (a0 + 23 + 3) (ix ((m1 (a0 + 23) 0) - (n32 1)))) + (n32 1)) → VLI (D + 5) 24 11 [(0, vR 3 (a0)), (3, vI (v3 + (n32 1)))] [] μ2 Q E))) ∧ (¬ (m1 (a0 + 23 + 3) (ix ((m1 (a0 + 23) 0) - (n32 1)))) < (n32 8) → VLI (D + 5) 24 11 [(0, vR 3 (a0)), (3, vI (v3 + (n32 1)))] [] m1 Q E)))))) E))) ∧ (¬ (m (a0 + 1) 5) = (n32 1) → (((n32 0) ≤ v3 → Q (n32 1) m) ∧ (¬ (n32 0) ≤ v3 → VI (D + 4) 88 [vR 9 (a0 + 1), vI v3] m (fun x6 m6 => ((((m6 (a0 + 23) 0) - (n32 1)) < (n32 0) → VLI (D + 5) 24 11 [(0, vR 3 (a0)), (3, vI (v3 + (n32 1)))] [] m6 Q E) ∧ (¬ ((m6 (a0 + 23) 0) - (n32 1)) < (n32 0) → (xin ((m6 (a0 + 23) 0) - (n32 1)) 6 = true ∧ (((m6 (a0 + 23 + 3) (ix ((m6 (a0 + 23) 0) - (n32 1)))) < (n32 8) → (xin ((((m6 (a0 + 23) 0) - (n32 1)) * (n32 8)) + (m6 (a0 + 23 + 3) (ix ((m6 (a0 + 23) 0) - (n32 1))))) 48 = true ∧ (∀ μ7 : XM, μ7 = um (um m6 (a0 + 23 + 4) (ix ((((m6 (a0 + 23) 0) - (n32 1)) * (n32 8)) + (m6 (a0 + 23 + 3) (ix ((m6 (a0 + 23) 0) - (n32 1)))))) x6) (a0 + 23 + 3) (ix ((m6 (a0 + 23) 0) - (n32 1))) (((um m6 (a0 + 23 + 4) (ix ((((m6 (a0 + 23) 0) - (n32 1)) * (n32 8)) + (m6 (a0 + 23 + 3) (ix ((m6 (a0 + 23) 0) - (n32 1)))))) x6) (a0 + 23 + 3) (ix ((m6 (a0 + 23) 0) - (n32 1)))) + (n32 1)) → VLI (D + 5) 24 11 [(0, vR 3 (a0)), (3, vI (v3 + (n32 1)))] [] μ7 Q E))) ∧ (¬ (m6 (a0 + 23 + 3) (ix ((m6 (a0 + 23) 0) - (n32 1)))) < (n32 8) → VLI (D + 5) 24 11 [(0, vR 3 (a0)), (3, vI (v3 + (n32 1)))] [] m6 Q E)))))) E))))) :
    VLI (D + 5) 24 11 [(0, vR 3 (a0)), (3, vI v3)] [] m Q E := by
  refine VL_at (al := [(0, vR 3 (a0)), (3, vI v3)]) (st := []) km24 k24_11 ?_
  refine V_of ?_
  refine VL_norm km87 k87_0 (VL_at (al := [(0, vR 9 (a0 + 1))]) (st := []) km87 k87_0 ?_)
  refine And.intro (fun c11 => ?_) (fun c11 => ?_)
  · refine VL_norm km87 k87_1 (VL_at (al := [(0, vR 9 (a0 + 1))]) (st := []) km87 k87_1 ?_)
    refine VL_norm km87 k87_3 (VL_at (al := []) (st := [vI ((m (a0 + 1) 4) - (m (a0 + 1) 3))]) km87 k87_3 ?_)
    refine And.intro (fun c5 => ?_) (fun c5 => ?_)
    · refine VL_norm km24 k24_13 (VL_at (al := []) (st := []) km24 k24_13 ?_)
      refine And.intro xrt21 ?_
      exact ((h.1 c11).1 c5)
    · refine VL_norm km24 k24_12 (VL_at (al := [(0, vR 3 (a0)), (3, vI v3)]) (st := []) km24 k24_12 ?_)
      refine V_mono ((h.1 c11).2 c5) (fun u1 m1 h1 => ?_) (fun _ _ h => h)
      refine V_of ?_
      refine VL_norm km44 k44_0 (VL_at (al := [(0, vR 6 (a0 + 23)), (1, vI (xti u1))]) (st := []) km44 k44_0 ?_)
      refine And.intro (fun c4 => ?_) (fun c4 => ?_)
      · refine VL_norm km44 k44_2 (VL_at (al := []) (st := []) km44 k44_2 ?_)
        exact VL_norm km24 k24_11 (h1.1 c4)
      · refine VL_norm km44 k44_1 (VL_at (al := [(0, vR 6 (a0 + 23)), (1, vI (xti u1)), (2, vI ((m1 (a0 + 23) 0) - (n32 1)))]) (st := []) km44 k44_1 ?_)
        refine And.intro (h1.2 c4).1 ?_
        refine And.intro (fun c3 => ?_) (fun c3 => ?_)
        · refine VL_norm km44 k44_3 (VL_at (al := [(0, vR 6 (a0 + 23)), (1, vI (xti u1)), (2, vI ((m1 (a0 + 23) 0) - (n32 1)))]) (st := []) km44 k44_3 ?_)
          refine And.intro (h1.2 c4).1 ?_
          refine And.intro ((h1.2 c4).2.1 c3).1 ?_
          refine And.intro (h1.2 c4).1 ?_
          refine And.intro (h1.2 c4).1 ?_
          exact VL_norm km24 k24_11 (((h1.2 c4).2.1 c3).2 (um (um m1 (a0 + 23 + 4) (ix ((((m1 (a0 + 23) 0) - (n32 1)) * (n32 8)) + (m1 (a0 + 23 + 3) (ix ((m1 (a0 + 23) 0) - (n32 1)))))) (xti u1)) (a0 + 23 + 3) (ix ((m1 (a0 + 23) 0) - (n32 1))) (((um m1 (a0 + 23 + 4) (ix ((((m1 (a0 + 23) 0) - (n32 1)) * (n32 8)) + (m1 (a0 + 23 + 3) (ix ((m1 (a0 + 23) 0) - (n32 1)))))) (xti u1)) (a0 + 23 + 3) (ix ((m1 (a0 + 23) 0) - (n32 1)))) + (n32 1))) rfl)
        · refine VL_norm km44 k44_2 (VL_at (al := []) (st := []) km44 k44_2 ?_)
          exact VL_norm km24 k24_11 ((h1.2 c4).2.2 c3)
  · refine VL_norm km87 k87_2 (VL_at (al := []) (st := []) km87 k87_2 ?_)
    refine VL_norm km87 k87_3 (VL_at (al := []) (st := [vI (n32 0)]) km87 k87_3 ?_)
    refine And.intro (fun c10 => ?_) (fun c10 => ?_)
    · refine VL_norm km24 k24_13 (VL_at (al := []) (st := []) km24 k24_13 ?_)
      refine And.intro xrt21 ?_
      exact ((h.2 c11).1 c10)
    · refine VL_norm km24 k24_12 (VL_at (al := [(0, vR 3 (a0)), (3, vI v3)]) (st := []) km24 k24_12 ?_)
      refine V_mono ((h.2 c11).2 c10) (fun u6 m6 h6 => ?_) (fun _ _ h => h)
      refine V_of ?_
      refine VL_norm km44 k44_0 (VL_at (al := [(0, vR 6 (a0 + 23)), (1, vI (xti u6))]) (st := []) km44 k44_0 ?_)
      refine And.intro (fun c9 => ?_) (fun c9 => ?_)
      · refine VL_norm km44 k44_2 (VL_at (al := []) (st := []) km44 k44_2 ?_)
        exact VL_norm km24 k24_11 (h6.1 c9)
      · refine VL_norm km44 k44_1 (VL_at (al := [(0, vR 6 (a0 + 23)), (1, vI (xti u6)), (2, vI ((m6 (a0 + 23) 0) - (n32 1)))]) (st := []) km44 k44_1 ?_)
        refine And.intro (h6.2 c9).1 ?_
        refine And.intro (fun c8 => ?_) (fun c8 => ?_)
        · refine VL_norm km44 k44_3 (VL_at (al := [(0, vR 6 (a0 + 23)), (1, vI (xti u6)), (2, vI ((m6 (a0 + 23) 0) - (n32 1)))]) (st := []) km44 k44_3 ?_)
          refine And.intro (h6.2 c9).1 ?_
          refine And.intro ((h6.2 c9).2.1 c8).1 ?_
          refine And.intro (h6.2 c9).1 ?_
          refine And.intro (h6.2 c9).1 ?_
          exact VL_norm km24 k24_11 (((h6.2 c9).2.1 c8).2 (um (um m6 (a0 + 23 + 4) (ix ((((m6 (a0 + 23) 0) - (n32 1)) * (n32 8)) + (m6 (a0 + 23 + 3) (ix ((m6 (a0 + 23) 0) - (n32 1)))))) (xti u6)) (a0 + 23 + 3) (ix ((m6 (a0 + 23) 0) - (n32 1))) (((um m6 (a0 + 23 + 4) (ix ((((m6 (a0 + 23) 0) - (n32 1)) * (n32 8)) + (m6 (a0 + 23 + 3) (ix ((m6 (a0 + 23) 0) - (n32 1)))))) (xti u6)) (a0 + 23 + 3) (ix ((m6 (a0 + 23) 0) - (n32 1)))) + (n32 1))) rfl)
        · refine VL_norm km44 k44_2 (VL_at (al := []) (st := []) km44 k44_2 ?_)
          exact VL_norm km24 k24_11 ((h6.2 c9).2.2 c8)
/-- BannerParade$Parser.parsePlan, label 0 -/
theorem w25_0 {D : Nat} {a0 : Nat} {m : XM} {Q : Int32 → XM → Prop} {E : Nat → XM → Prop}
    (h : VI (D + 2) 26 [vR 3 (a0), vI (n32 1), vI (n32 5000)] m (fun x1 m1 => ((x1 = (n32 0) → Q (n32 0) m1) ∧ (¬ x1 = (n32 0) → VI (D + 2) 26 [vR 3 (a0), vI (n32 0), vI ((m1 (a0 + 3 + 3) 0) - (n32 2))] m1 (fun x2 m2 => ((x2 = (n32 0) → Q (n32 0) m2) ∧ (¬ x2 = (n32 0) → (((m2 (a0 + 3 + 16) 0) < (n32 12) → (xin (m2 (a0 + 3 + 16) 0) 12 = true ∧ (xin ((um m2 (a0 + 3 + 16 + 1) (ix (m2 (a0 + 3 + 16) 0)) (m1 (a0 + 1) 6)) (a0 + 3 + 16) 0) 12 = true ∧ (∀ μ3 : XM, μ3 = um (um m2 (a0 + 3 + 16 + 1) (ix (m2 (a0 + 3 + 16) 0)) (m1 (a0 + 1) 6)) (a0 + 3 + 16 + 2) (ix ((um m2 (a0 + 3 + 16 + 1) (ix (m2 (a0 + 3 + 16) 0)) (m1 (a0 + 1) 6)) (a0 + 3 + 16) 0)) (m2 (a0 + 1) 6) → (xin (μ3 (a0 + 3 + 16) 0) 12 = true ∧ (∀ μ4 : XM, μ4 = um (um μ3 (a0 + 3 + 16 + 3) (ix (μ3 (a0 + 3 + 16) 0)) (n32 0)) (a0 + 3 + 16) 0 (((um μ3 (a0 + 3 + 16 + 3) (ix (μ3 (a0 + 3 + 16) 0)) (n32 0)) (a0 + 3 + 16) 0) + (n32 1)) → Q (n32 1) μ4)))))) ∧ (¬ (m2 (a0 + 3 + 16) 0) < (n32 12) → Q (n32 1) m2))))) E))) E) :
    VI (D + 3) 25 [vR 3 (a0)] m Q E := by
  refine V_of (VL_at (al := [(0, vR 3 (a0))]) (st := []) km25 k25_0 ?_)
  refine V_mono h (fun u1 m1 h1 => ?_) (fun _ _ h => h)
  refine And.intro (fun c7 => ?_) (fun c7 => ?_)
  · refine VL_norm km25 k25_1 (VL_at (al := []) (st := []) km25 k25_1 ?_)
    refine And.intro xrt20 ?_
    exact (h1.1 c7)
  · refine VL_norm km25 k25_2 (VL_at (al := [(0, vR 3 (a0))]) (st := []) km25 k25_2 ?_)
    refine V_mono (h1.2 c7) (fun u2 m2 h2 => ?_) (fun _ _ h => h)
    refine And.intro (fun c6 => ?_) (fun c6 => ?_)
    · refine VL_norm km25 k25_3 (VL_at (al := []) (st := []) km25 k25_3 ?_)
      refine And.intro xrt20 ?_
      exact (h2.1 c6)
    · refine VL_norm km25 k25_4 (VL_at (al := [(0, vR 3 (a0)), (1, vI (m1 (a0 + 1) 6))]) (st := []) km25 k25_4 ?_)
      refine V_of ?_
      refine VL_norm km29 k29_0 (VL_at (al := [(0, vR 4 (a0 + 3 + 16)), (1, vI (m1 (a0 + 1) 6)), (2, vI (m2 (a0 + 1) 6))]) (st := []) km29 k29_0 ?_)
      refine And.intro (fun c5 => ?_) (fun c5 => ?_)
      · refine VL_norm km29 k29_2 (VL_at (al := [(0, vR 4 (a0 + 3 + 16)), (1, vI (m1 (a0 + 1) 6)), (2, vI (m2 (a0 + 1) 6))]) (st := []) km29 k29_2 ?_)
        refine And.intro ((h2.2 c6).1 c5).1 ?_
        refine And.intro ((h2.2 c6).1 c5).2.1 ?_
        refine And.intro (((h2.2 c6).1 c5).2.2 (um (um m2 (a0 + 3 + 16 + 1) (ix (m2 (a0 + 3 + 16) 0)) (m1 (a0 + 1) 6)) (a0 + 3 + 16 + 2) (ix ((um m2 (a0 + 3 + 16 + 1) (ix (m2 (a0 + 3 + 16) 0)) (m1 (a0 + 1) 6)) (a0 + 3 + 16) 0)) (m2 (a0 + 1) 6)) rfl).1 ?_
        refine And.intro xrt21 ?_
        exact ((((h2.2 c6).1 c5).2.2 (um (um m2 (a0 + 3 + 16 + 1) (ix (m2 (a0 + 3 + 16) 0)) (m1 (a0 + 1) 6)) (a0 + 3 + 16 + 2) (ix ((um m2 (a0 + 3 + 16 + 1) (ix (m2 (a0 + 3 + 16) 0)) (m1 (a0 + 1) 6)) (a0 + 3 + 16) 0)) (m2 (a0 + 1) 6)) rfl).2 (um (um (um (um m2 (a0 + 3 + 16 + 1) (ix (m2 (a0 + 3 + 16) 0)) (m1 (a0 + 1) 6)) (a0 + 3 + 16 + 2) (ix ((um m2 (a0 + 3 + 16 + 1) (ix (m2 (a0 + 3 + 16) 0)) (m1 (a0 + 1) 6)) (a0 + 3 + 16) 0)) (m2 (a0 + 1) 6)) (a0 + 3 + 16 + 3) (ix ((um (um m2 (a0 + 3 + 16 + 1) (ix (m2 (a0 + 3 + 16) 0)) (m1 (a0 + 1) 6)) (a0 + 3 + 16 + 2) (ix ((um m2 (a0 + 3 + 16 + 1) (ix (m2 (a0 + 3 + 16) 0)) (m1 (a0 + 1) 6)) (a0 + 3 + 16) 0)) (m2 (a0 + 1) 6)) (a0 + 3 + 16) 0)) (n32 0)) (a0 + 3 + 16) 0 (((um (um (um m2 (a0 + 3 + 16 + 1) (ix (m2 (a0 + 3 + 16) 0)) (m1 (a0 + 1) 6)) (a0 + 3 + 16 + 2) (ix ((um m2 (a0 + 3 + 16 + 1) (ix (m2 (a0 + 3 + 16) 0)) (m1 (a0 + 1) 6)) (a0 + 3 + 16) 0)) (m2 (a0 + 1) 6)) (a0 + 3 + 16 + 3) (ix ((um (um m2 (a0 + 3 + 16 + 1) (ix (m2 (a0 + 3 + 16) 0)) (m1 (a0 + 1) 6)) (a0 + 3 + 16 + 2) (ix ((um m2 (a0 + 3 + 16 + 1) (ix (m2 (a0 + 3 + 16) 0)) (m1 (a0 + 1) 6)) (a0 + 3 + 16) 0)) (m2 (a0 + 1) 6)) (a0 + 3 + 16) 0)) (n32 0)) (a0 + 3 + 16) 0) + (n32 1))) rfl)
      · refine VL_norm km29 k29_1 (VL_at (al := []) (st := []) km29 k29_1 ?_)
        refine And.intro xrt21 ?_
        exact ((h2.2 c6).2 c5)
/-- BannerParade$Parser.parseNumber, label 0 -/
theorem w26_0 {D : Nat} {a0 : Nat} {v1 : Int32} {v2 : Int32} {m : XM} {Q : Int32 → XM → Prop} {E : Nat → XM → Prop}
    (h : VU (D + 1) 84 [vR 9 (a0 + 1)] m (fun m1 => (((m1 (a0 + 1) 5) = (n32 2) → (((m1 (a0 + 1) 6) < v1 → VI (D + 1) 20 [vR 3 (a0), vI (n32 2)] m1 (fun x2 m2 => (xrt 2 x2 = true ∧ Q x2 m2)) E) ∧ (¬ (m1 (a0 + 1) 6) < v1 → (((m1 (a0 + 1) 6) ≤ v2 → Q (n32 1) m1) ∧ (¬ (m1 (a0 + 1) 6) ≤ v2 → VI (D + 1) 20 [vR 3 (a0), vI (n32 2)] m1 (fun x3 m3 => (xrt 2 x3 = true ∧ Q x3 m3)) E))))) ∧ (¬ (m1 (a0 + 1) 5) = (n32 2) → VI (D + 1) 20 [vR 3 (a0), vI (n32 1)] m1 (fun x6 m6 => (xrt 2 x6 = true ∧ Q x6 m6)) E))) E) :
    VI (D + 2) 26 [vR 3 (a0), vI v1, vI v2] m Q E := by
  refine V_of (VL_at (al := [(0, vR 3 (a0)), (1, vI v1), (2, vI v2)]) (st := []) km26 k26_0 ?_)
  refine V_mono h (fun u1 m1 h1 => ?_) (fun _ _ h => h)
  refine And.intro (fun c7 => ?_) (fun c7 => ?_)
  · refine VL_norm km26 k26_2 (VL_at (al := [(0, vR 3 (a0)), (1, vI v1), (2, vI v2)]) (st := []) km26 k26_2 ?_)
    refine And.intro (fun c5 => ?_) (fun c5 => ?_)
    · refine VL_norm km26 k26_4 (VL_at (al := [(0, vR 3 (a0))]) (st := []) km26 k26_4 ?_)
      refine V_mono ((h1.1 c7).1 c5) (fun u2 m2 h2 => ?_) (fun _ _ h => h)
      refine And.intro h2.1 ?_
      exact h2.2
    · refine VL_norm km26 k26_3 (VL_at (al := [(0, vR 3 (a0)), (2, vI v2)]) (st := []) km26 k26_3 ?_)
      refine And.intro (fun c4 => ?_) (fun c4 => ?_)
      · refine VL_norm km26 k26_5 (VL_at (al := []) (st := []) km26 k26_5 ?_)
        refine And.intro xrt21 ?_
        exact (((h1.1 c7).2 c5).1 c4)
      · refine VL_norm km26 k26_4 (VL_at (al := [(0, vR 3 (a0))]) (st := []) km26 k26_4 ?_)
        refine V_mono (((h1.1 c7).2 c5).2 c4) (fun u3 m3 h3 => ?_) (fun _ _ h => h)
        refine And.intro h3.1 ?_
        exact h3.2
  · refine VL_norm km26 k26_1 (VL_at (al := [(0, vR 3 (a0))]) (st := []) km26 k26_1 ?_)
    refine V_mono (h1.2 c7) (fun u6 m6 h6 => ?_) (fun _ _ h => h)
    refine And.intro h6.1 ?_
    exact h6.2
/-- BannerParade$Plans.copyFrom, label 0 -/
theorem w28_0 {D : Nat} {a0 : Nat} {a1 : Nat} {m : XM} {Q : XM → Prop} {E : Nat → XM → Prop}
    (h : VU D 172 [vR 200012 (a1 + 1), vR 200012 (a0 + 1)] (um m (a0) 0 (m a1 0)) (fun m1 => VU D 172 [vR 200012 (a1 + 2), vR 200012 (a0 + 2)] m1 (fun m2 => VU D 172 [vR 200012 (a1 + 3), vR 200012 (a0 + 3)] m2 (fun m3 => Q m3) E) E) E) :
    VU (D + 1) 28 [vR 4 (a0), vR 4 (a1)] m Q E := by
  refine V_of (VL_at (al := [(0, vR 4 (a0)), (1, vR 4 (a1))]) (st := []) km28 k28_0 ?_)
  refine V_mono h (fun u1 m1 h1 => ?_) (fun _ _ h => h)
  refine V_mono h1 (fun u2 m2 h2 => ?_) (fun _ _ h => h)
  refine V_mono h2 (fun u3 m3 h3 => ?_) (fun _ _ h => h)
  exact h3
/-- BannerParade$Plans.withOutcome, label 0 -/
theorem w30_0 {D : Nat} {a0 : Nat} {v1 : Int32} {m : XM} {Q : Int32 → XM → Prop} {E : Nat → XM → Prop}
    (h : VLI D 30 1 [(0, vR 4 (a0)), (1, vI v1), (2, vI (n32 0)), (3, vI (n32 0))] [] m Q E) :
    VI D 30 [vR 4 (a0), vI v1] m Q E := by
  refine V_of (VL_at (al := [(0, vR 4 (a0)), (1, vI v1)]) (st := []) km30 k30_0 ?_)
  exact VL_norm km30 k30_1 h
/-- BannerParade$Plans.withOutcome, label 1 -/
theorem w30_1 {D : Nat} {a0 : Nat} {v1 : Int32} {v2 : Int32} {v3 : Int32} {m : XM} {Q : Int32 → XM → Prop} {E : Nat → XM → Prop}
    (h : (((m a0 0) ≤ v3 → Q v2 m) ∧ (¬ (m a0 0) ≤ v3 → (xin v3 12 = true ∧ (((m (a0 + 3) (ix v3)) = v1 → VLI D 30 1 [(0, vR 4 (a0)), (1, vI v1), (2, vI (v2 + (n32 1))), (3, vI (v3 + (n32 1)))] [] m Q E) ∧ (¬ (m (a0 + 3) (ix v3)) = v1 → VLI D 30 1 [(0, vR 4 (a0)), (1, vI v1), (2, vI v2), (3, vI (v3 + (n32 1)))] [] m Q E)))))) :
    VLI D 30 1 [(0, vR 4 (a0)), (1, vI v1), (2, vI v2), (3, vI v3)] [] m Q E := by
  refine VL_at (al := [(0, vR 4 (a0)), (1, vI v1), (2, vI v2), (3, vI v3)]) (st := []) km30 k30_1 ?_
  refine And.intro (fun c2 => ?_) (fun c2 => ?_)
  · refine VL_norm km30 k30_5 (VL_at (al := [(2, vI v2)]) (st := []) km30 k30_5 ?_)
    exact (h.1 c2)
  · refine VL_norm km30 k30_2 (VL_at (al := [(0, vR 4 (a0)), (1, vI v1), (2, vI v2), (3, vI v3)]) (st := []) km30 k30_2 ?_)
    refine And.intro (h.2 c2).1 ?_
    refine And.intro (fun c1 => ?_) (fun c1 => ?_)
    · refine VL_norm km30 k30_3 (VL_at (al := [(0, vR 4 (a0)), (1, vI v1), (2, vI v2), (3, vI v3)]) (st := []) km30 k30_3 ?_)
      refine VL_norm km30 k30_4 (VL_at (al := [(0, vR 4 (a0)), (1, vI v1), (2, vI (v2 + (n32 1))), (3, vI v3)]) (st := []) km30 k30_4 ?_)
      exact VL_norm km30 k30_1 ((h.2 c2).2.1 c1)
    · refine VL_norm km30 k30_4 (VL_at (al := [(0, vR 4 (a0)), (1, vI v1), (2, vI v2), (3, vI v3)]) (st := []) km30 k30_4 ?_)
      exact VL_norm km30 k30_1 ((h.2 c2).2.2 c1)
/-- BannerParade$Reading.read, label 0 -/
theorem w33_0 {D : Nat} {a0 : Nat} {a1 : Nat} {a2 : Nat} {v3 : Int32} {m : XM} {Q : XM → Prop} {E : Nat → XM → Prop}
    (h : VLU (D + 2) 33 1 [(0, vR 5 (a0)), (1, vR 8 (a1)), (2, vR 6 (a2)), (3, vI v3), (4, vR 7 (a1 + 3)), (5, vI (n32 0))] [] (um (um m (a0) 0 (n32 0)) (a0) 1 (n32 0)) Q E) :
    VU (D + 2) 33 [vR 5 (a0), vR 8 (a1), vR 6 (a2), vI v3] m Q E := by
  refine V_of (VL_at (al := [(0, vR 5 (a0)), (1, vR 8 (a1)), (2, vR 6 (a2)), (3, vI v3)]) (st := []) km33 k33_0 ?_)
  exact VL_norm km33 k33_1 h
/-- BannerParade$Reading.read, label 1 -/
theorem w33_1 {D : Nat} {a0 : Nat} {a1 : Nat} {a2 : Nat} {v3 : Int32} {a4 : Nat} {v5 : Int32} {m : XM} {Q : XM → Prop} {E : Nat → XM → Prop}
    (h : (((m a4 0) ≤ v5 → Q m) ∧ (¬ (m a4 0) ≤ v5 → (xin v3 6 = true ∧ (((m (a2 + 1) (ix v3)) = (n32 1) → VI (D + 1) 79 [vR 8 (a1), vI (((m a4 0) - (n32 1)) - v5), vI (m (a2 + 2) (ix v3))] m (fun x1 m1 => ((x1 = (n32 0) → VLU (D + 2) 33 1 [(0, vR 5 (a0)), (1, vR 8 (a1)), (2, vR 6 (a2)), (3, vI v3), (4, vR 7 (a4)), (5, vI (v5 + (n32 1)))] [] m1 Q E) ∧ (¬ x1 = (n32 0) → VU (D + 1) 34 [vR 5 (a0), vR 7 (a4), vI (((m a4 0) - (n32 1)) - v5), vI (m1 (a1 + 1) (ix (n32 2)))] m1 (fun m2 => VLU (D + 2) 33 1 [(0, vR 5 (a0)), (1, vR 8 (a1)), (2, vR 6 (a2)), (3, vI v3), (4, vR 7 (a4)), (5, vI (v5 + (n32 1)))] [] m2 Q E) E))) E) ∧ (¬ (m (a2 + 1) (ix v3)) = (n32 1) → VI (D + 1) 79 [vR 8 (a1), vI v5, vI (m (a2 + 2) (ix v3))] m (fun x4 m4 => ((x4 = (n32 0) → VLU (D + 2) 33 1 [(0, vR 5 (a0)), (1, vR 8 (a1)), (2, vR 6 (a2)), (3, vI v3), (4, vR 7 (a4)), (5, vI (v5 + (n32 1)))] [] m4 Q E) ∧ (¬ x4 = (n32 0) → VU (D + 1) 34 [vR 5 (a0), vR 7 (a4), vI v5, vI (m4 (a1 + 1) (ix (n32 2)))] m4 (fun m5 => VLU (D + 2) 33 1 [(0, vR 5 (a0)), (1, vR 8 (a1)), (2, vR 6 (a2)), (3, vI v3), (4, vR 7 (a4)), (5, vI (v5 + (n32 1)))] [] m5 Q E) E))) E)))))) :
    VLU (D + 2) 33 1 [(0, vR 5 (a0)), (1, vR 8 (a1)), (2, vR 6 (a2)), (3, vI v3), (4, vR 7 (a4)), (5, vI v5)] [] m Q E := by
  refine VL_at (al := [(0, vR 5 (a0)), (1, vR 8 (a1)), (2, vR 6 (a2)), (3, vI v3), (4, vR 7 (a4)), (5, vI v5)]) (st := []) km33 k33_1 ?_
  refine And.intro (fun c8 => ?_) (fun c8 => ?_)
  · refine VL_norm km33 k33_8 (VL_at (al := []) (st := []) km33 k33_8 ?_)
    exact (h.1 c8)
  · refine VL_norm km33 k33_2 (VL_at (al := [(0, vR 5 (a0)), (1, vR 8 (a1)), (2, vR 6 (a2)), (3, vI v3), (4, vR 7 (a4)), (5, vI v5)]) (st := []) km33 k33_2 ?_)
    refine And.intro (h.2 c8).1 ?_
    refine And.intro (fun c7 => ?_) (fun c7 => ?_)
    · refine VL_norm km33 k33_3 (VL_at (al := [(0, vR 5 (a0)), (1, vR 8 (a1)), (2, vR 6 (a2)), (3, vI v3), (4, vR 7 (a4)), (5, vI v5)]) (st := []) km33 k33_3 ?_)
      refine VL_norm km33 k33_5 (VL_at (al := [(0, vR 5 (a0)), (1, vR 8 (a1)), (2, vR 6 (a2)), (3, vI v3), (4, vR 7 (a4)), (5, vI v5)]) (st := [vI (((m a4 0) - (n32 1)) - v5)]) km33 k33_5 ?_)
      refine And.intro (h.2 c8).1 ?_
      refine V_mono ((h.2 c8).2.1 c7) (fun u1 m1 h1 => ?_) (fun _ _ h => h)
      refine And.intro (fun c3 => ?_) (fun c3 => ?_)
      · refine VL_norm km33 k33_7 (VL_at (al := [(0, vR 5 (a0)), (1, vR 8 (a1)), (2, vR 6 (a2)), (3, vI v3), (4, vR 7 (a4)), (5, vI v5)]) (st := []) km33 k33_7 ?_)
        exact VL_norm km33 k33_1 (h1.1 c3)
      · refine VL_norm km33 k33_6 (VL_at (al := [(0, vR 5 (a0)), (1, vR 8 (a1)), (2, vR 6 (a2)), (3, vI v3), (4, vR 7 (a4)), (5, vI v5), (6, vI (((m a4 0) - (n32 1)) - v5))]) (st := []) km33 k33_6 ?_)
        refine And.intro (xin_k rfl) ?_
        refine V_mono (h1.2 c3) (fun u2 m2 h2 => ?_) (fun _ _ h => h)
        refine VL_norm km33 k33_7 (VL_at (al := [(0, vR 5 (a0)), (1, vR 8 (a1)), (2, vR 6 (a2)), (3, vI v3), (4, vR 7 (a4)), (5, vI v5)]) (st := []) km33 k33_7 ?_)
        exact VL_norm km33 k33_1 h2
    · refine VL_norm km33 k33_4 (VL_at (al := [(0, vR 5 (a0)), (1, vR 8 (a1)), (2, vR 6 (a2)), (3, vI v3), (4, vR 7 (a4)), (5, vI v5)]) (st := []) km33 k33_4 ?_)
      refine VL_norm km33 k33_5 (VL_at (al := [(0, vR 5 (a0)), (1, vR 8 (a1)), (2, vR 6 (a2)), (3, vI v3), (4, vR 7 (a4)), (5, vI v5)]) (st := [vI v5]) km33 k33_5 ?_)
      refine And.intro (h.2 c8).1 ?_
      refine V_mono ((h.2 c8).2.2 c7) (fun u4 m4 h4 => ?_) (fun _ _ h => h)
      refine And.intro (fun c6 => ?_) (fun c6 => ?_)
      · refine VL_norm km33 k33_7 (VL_at (al := [(0, vR 5 (a0)), (1, vR 8 (a1)), (2, vR 6 (a2)), (3, vI v3), (4, vR 7 (a4)), (5, vI v5)]) (st := []) km33 k33_7 ?_)
        exact VL_norm km33 k33_1 (h4.1 c6)
      · refine VL_norm km33 k33_6 (VL_at (al := [(0, vR 5 (a0)), (1, vR 8 (a1)), (2, vR 6 (a2)), (3, vI v3), (4, vR 7 (a4)), (5, vI v5), (6, vI v5)]) (st := []) km33 k33_6 ?_)
        refine And.intro (xin_k rfl) ?_
        refine V_mono (h4.2 c6) (fun u5 m5 h5 => ?_) (fun _ _ h => h)
        refine VL_norm km33 k33_7 (VL_at (al := [(0, vR 5 (a0)), (1, vR 8 (a1)), (2, vR 6 (a2)), (3, vI v3), (4, vR 7 (a4)), (5, vI v5)]) (st := []) km33 k33_7 ?_)
        exact VL_norm km33 k33_1 h5
/-- BannerParade$Reading.addLetter, label 0 -/
theorem w34_0 {D : Nat} {a0 : Nat} {a1 : Nat} {v2 : Int32} {v3 : Int32} {m : XM} {Q : XM → Prop} {E : Nat → XM → Prop}
    (h : (((n32 12) ≤ (m a0 1) → Q m) ∧ (¬ (n32 12) ≤ (m a0 1) → ((((m a0 0) + (n32 1)) < (n32 24) → (((m a0 1) ≤ (n32 0) → (xin v2 12 = true ∧ (xin (m a0 0) 24 = true ∧ (xin ((um (um m (a0 + 1) (ix (m a0 0)) ((n32 96) + (m (a1 + 5) (ix v2)))) (a0) 0 (((um m (a0 + 1) (ix (m a0 0)) ((n32 96) + (m (a1 + 5) (ix v2)))) a0 0) + (n32 1))) a0 1) 12 = true ∧ (∀ μ1 : XM, μ1 = um (um (um m (a0 + 1) (ix (m a0 0)) ((n32 96) + (m (a1 + 5) (ix v2)))) (a0) 0 (((um m (a0 + 1) (ix (m a0 0)) ((n32 96) + (m (a1 + 5) (ix v2)))) a0 0) + (n32 1))) (a0 + 2) (ix ((um (um m (a0 + 1) (ix (m a0 0)) ((n32 96) + (m (a1 + 5) (ix v2)))) (a0) 0 (((um m (a0 + 1) (ix (m a0 0)) ((n32 96) + (m (a1 + 5) (ix v2)))) a0 0) + (n32 1))) a0 1)) v2 → Q (um μ1 (a0) 1 ((μ1 a0 1) + (n32 1)))))))) ∧ (¬ (m a0 1) ≤ (n32 0) → (xin v2 12 = true ∧ (xin ((m a0 1) - (n32 1)) 12 = true ∧ (xin (m (a0 + 2) (ix ((m a0 1) - (n32 1)))) 12 = true ∧ VI D 384 [vI ((m (a1 + 6) (ix v2)) - (m (a1 + 6) (ix (m (a0 + 2) (ix ((m a0 1) - (n32 1)))))))] m (fun x2 m2 => ((x2 ≤ v3 → (xin (m2 a0 0) 24 = true ∧ (∀ μ3 : XM, μ3 = um (um m2 (a0 + 1) (ix (m2 a0 0)) ((n32 96) + (m2 (a1 + 5) (ix v2)))) (a0) 0 (((um m2 (a0 + 1) (ix (m2 a0 0)) ((n32 96) + (m2 (a1 + 5) (ix v2)))) a0 0) + (n32 1)) → (xin (μ3 a0 1) 12 = true ∧ Q (um (um μ3 (a0 + 2) (ix (μ3 a0 1)) v2) (a0) 1 (((um μ3 (a0 + 2) (ix (μ3 a0 1)) v2) a0 1) + (n32 1))))))) ∧ (¬ x2 ≤ v3 → (xin (m2 a0 0) 24 = true ∧ (xin ((um (um m2 (a0 + 1) (ix (m2 a0 0)) (n32 32)) (a0) 0 (((um m2 (a0 + 1) (ix (m2 a0 0)) (n32 32)) a0 0) + (n32 1))) a0 0) 24 = true ∧ (∀ μ4 : XM, μ4 = um (um (um m2 (a0 + 1) (ix (m2 a0 0)) (n32 32)) (a0) 0 (((um m2 (a0 + 1) (ix (m2 a0 0)) (n32 32)) a0 0) + (n32 1))) (a0 + 1) (ix ((um (um m2 (a0 + 1) (ix (m2 a0 0)) (n32 32)) (a0) 0 (((um m2 (a0 + 1) (ix (m2 a0 0)) (n32 32)) a0 0) + (n32 1))) a0 0)) ((n32 96) + ((um (um m2 (a0 + 1) (ix (m2 a0 0)) (n32 32)) (a0) 0 (((um m2 (a0 + 1) (ix (m2 a0 0)) (n32 32)) a0 0) + (n32 1))) (a1 + 5) (ix v2))) → (xin ((um μ4 (a0) 0 ((μ4 a0 0) + (n32 1))) a0 1) 12 = true ∧ (∀ μ5 : XM, μ5 = um (um (um μ4 (a0) 0 ((μ4 a0 0) + (n32 1))) (a0 + 2) (ix ((um μ4 (a0) 0 ((μ4 a0 0) + (n32 1))) a0 1)) v2) (a0) 1 (((um (um μ4 (a0) 0 ((μ4 a0 0) + (n32 1))) (a0 + 2) (ix ((um μ4 (a0) 0 ((μ4 a0 0) + (n32 1))) a0 1)) v2) a0 1) + (n32 1)) → Q μ5)))))))) E)))))) ∧ (¬ ((m a0 0) + (n32 1)) < (n32 24) → Q m))))) :
    VU (D + 1) 34 [vR 5 (a0), vR 7 (a1), vI v2, vI v3] m Q E := by
  refine V_of (VL_at (al := [(0, vR 5 (a0)), (1, vR 7 (a1)), (2, vI v2), (3, vI v3)]) (st := []) km34 k34_0 ?_)
  refine And.intro (fun c9 => ?_) (fun c9 => ?_)
  · refine VL_norm km34 k34_2 (VL_at (al := []) (st := []) km34 k34_2 ?_)
    exact (h.1 c9)
  · refine VL_norm km34 k34_1 (VL_at (al := [(0, vR 5 (a0)), (1, vR 7 (a1)), (2, vI v2), (3, vI v3)]) (st := []) km34 k34_1 ?_)
    refine And.intro (fun c8 => ?_) (fun c8 => ?_)
    · refine VL_norm km34 k34_3 (VL_at (al := [(0, vR 5 (a0)), (1, vR 7 (a1)), (2, vI v2), (3, vI v3)]) (st := []) km34 k34_3 ?_)
      refine And.intro (fun c7 => ?_) (fun c7 => ?_)
      · refine VL_norm km34 k34_6 (VL_at (al := [(0, vR 5 (a0)), (1, vR 7 (a1)), (2, vI v2)]) (st := []) km34 k34_6 ?_)
        refine And.intro (((h.2 c9).1 c8).1 c7).1 ?_
        refine And.intro (((h.2 c9).1 c8).1 c7).2.1 ?_
        refine And.intro (((h.2 c9).1 c8).1 c7).2.2.1 ?_
        exact ((((h.2 c9).1 c8).1 c7).2.2.2 (um (um (um m (a0 + 1) (ix (m a0 0)) ((n32 96) + (m (a1 + 5) (ix v2)))) (a0) 0 (((um m (a0 + 1) (ix (m a0 0)) ((n32 96) + (m (a1 + 5) (ix v2)))) a0 0) + (n32 1))) (a0 + 2) (ix ((um (um m (a0 + 1) (ix (m a0 0)) ((n32 96) + (m (a1 + 5) (ix v2)))) (a0) 0 (((um m (a0 + 1) (ix (m a0 0)) ((n32 96) + (m (a1 + 5) (ix v2)))) a0 0) + (n32 1))) a0 1)) v2) rfl)
      · refine VL_norm km34 k34_4 (VL_at (al := [(0, vR 5 (a0)), (1, vR 7 (a1)), (2, vI v2), (3, vI v3)]) (st := []) km34 k34_4 ?_)
        refine And.intro (((h.2 c9).1 c8).2 c7).1 ?_
        refine And.intro (((h.2 c9).1 c8).2 c7).2.1 ?_
        refine And.intro (((h.2 c9).1 c8).2 c7).2.2.1 ?_
        refine V_mono (((h.2 c9).1 c8).2 c7).2.2.2 (fun u2 m2 h2 => ?_) (fun _ _ h => h)
        refine And.intro (fun c6 => ?_) (fun c6 => ?_)
        · refine VL_norm km34 k34_6 (VL_at (al := [(0, vR 5 (a0)), (1, vR 7 (a1)), (2, vI v2)]) (st := []) km34 k34_6 ?_)
          refine And.intro (((h.2 c9).1 c8).2 c7).1 ?_
          refine And.intro (h2.1 c6).1 ?_
          refine And.intro ((h2.1 c6).2 (um (um m2 (a0 + 1) (ix (m2 a0 0)) ((n32 96) + (m2 (a1 + 5) (ix v2)))) (a0) 0 (((um m2 (a0 + 1) (ix (m2 a0 0)) ((n32 96) + (m2 (a1 + 5) (ix v2)))) a0 0) + (n32 1))) rfl).1 ?_
          exact ((h2.1 c6).2 (um (um m2 (a0 + 1) (ix (m2 a0 0)) ((n32 96) + (m2 (a1 + 5) (ix v2)))) (a0) 0 (((um m2 (a0 + 1) (ix (m2 a0 0)) ((n32 96) + (m2 (a1 + 5) (ix v2)))) a0 0) + (n32 1))) rfl).2
        · refine VL_norm km34 k34_5 (VL_at (al := [(0, vR 5 (a0)), (1, vR 7 (a1)), (2, vI v2)]) (st := []) km34 k34_5 ?_)
          refine And.intro (h2.2 c6).1 ?_
          refine VL_norm km34 k34_6 (VL_at (al := [(0, vR 5 (a0)), (1, vR 7 (a1)), (2, vI v2)]) (st := []) km34 k34_6 ?_)
          refine And.intro (((h.2 c9).1 c8).2 c7).1 ?_
          refine And.intro (h2.2 c6).2.1 ?_
          refine And.intro ((h2.2 c6).2.2 (um (um (um m2 (a0 + 1) (ix (m2 a0 0)) (n32 32)) (a0) 0 (((um m2 (a0 + 1) (ix (m2 a0 0)) (n32 32)) a0 0) + (n32 1))) (a0 + 1) (ix ((um (um m2 (a0 + 1) (ix (m2 a0 0)) (n32 32)) (a0) 0 (((um m2 (a0 + 1) (ix (m2 a0 0)) (n32 32)) a0 0) + (n32 1))) a0 0)) ((n32 96) + ((um (um m2 (a0 + 1) (ix (m2 a0 0)) (n32 32)) (a0) 0 (((um m2 (a0 + 1) (ix (m2 a0 0)) (n32 32)) a0 0) + (n32 1))) (a1 + 5) (ix v2)))) rfl).1 ?_
          exact (((h2.2 c6).2.2 (um (um (um m2 (a0 + 1) (ix (m2 a0 0)) (n32 32)) (a0) 0 (((um m2 (a0 + 1) (ix (m2 a0 0)) (n32 32)) a0 0) + (n32 1))) (a0 + 1) (ix ((um (um m2 (a0 + 1) (ix (m2 a0 0)) (n32 32)) (a0) 0 (((um m2 (a0 + 1) (ix (m2 a0 0)) (n32 32)) a0 0) + (n32 1))) a0 0)) ((n32 96) + ((um (um m2 (a0 + 1) (ix (m2 a0 0)) (n32 32)) (a0) 0 (((um m2 (a0 + 1) (ix (m2 a0 0)) (n32 32)) a0 0) + (n32 1))) (a1 + 5) (ix v2)))) rfl).2 (um (um (um (um (um (um m2 (a0 + 1) (ix (m2 a0 0)) (n32 32)) (a0) 0 (((um m2 (a0 + 1) (ix (m2 a0 0)) (n32 32)) a0 0) + (n32 1))) (a0 + 1) (ix ((um (um m2 (a0 + 1) (ix (m2 a0 0)) (n32 32)) (a0) 0 (((um m2 (a0 + 1) (ix (m2 a0 0)) (n32 32)) a0 0) + (n32 1))) a0 0)) ((n32 96) + ((um (um m2 (a0 + 1) (ix (m2 a0 0)) (n32 32)) (a0) 0 (((um m2 (a0 + 1) (ix (m2 a0 0)) (n32 32)) a0 0) + (n32 1))) (a1 + 5) (ix v2)))) (a0) 0 (((um (um (um m2 (a0 + 1) (ix (m2 a0 0)) (n32 32)) (a0) 0 (((um m2 (a0 + 1) (ix (m2 a0 0)) (n32 32)) a0 0) + (n32 1))) (a0 + 1) (ix ((um (um m2 (a0 + 1) (ix (m2 a0 0)) (n32 32)) (a0) 0 (((um m2 (a0 + 1) (ix (m2 a0 0)) (n32 32)) a0 0) + (n32 1))) a0 0)) ((n32 96) + ((um (um m2 (a0 + 1) (ix (m2 a0 0)) (n32 32)) (a0) 0 (((um m2 (a0 + 1) (ix (m2 a0 0)) (n32 32)) a0 0) + (n32 1))) (a1 + 5) (ix v2)))) a0 0) + (n32 1))) (a0 + 2) (ix ((um (um (um (um m2 (a0 + 1) (ix (m2 a0 0)) (n32 32)) (a0) 0 (((um m2 (a0 + 1) (ix (m2 a0 0)) (n32 32)) a0 0) + (n32 1))) (a0 + 1) (ix ((um (um m2 (a0 + 1) (ix (m2 a0 0)) (n32 32)) (a0) 0 (((um m2 (a0 + 1) (ix (m2 a0 0)) (n32 32)) a0 0) + (n32 1))) a0 0)) ((n32 96) + ((um (um m2 (a0 + 1) (ix (m2 a0 0)) (n32 32)) (a0) 0 (((um m2 (a0 + 1) (ix (m2 a0 0)) (n32 32)) a0 0) + (n32 1))) (a1 + 5) (ix v2)))) (a0) 0 (((um (um (um m2 (a0 + 1) (ix (m2 a0 0)) (n32 32)) (a0) 0 (((um m2 (a0 + 1) (ix (m2 a0 0)) (n32 32)) a0 0) + (n32 1))) (a0 + 1) (ix ((um (um m2 (a0 + 1) (ix (m2 a0 0)) (n32 32)) (a0) 0 (((um m2 (a0 + 1) (ix (m2 a0 0)) (n32 32)) a0 0) + (n32 1))) a0 0)) ((n32 96) + ((um (um m2 (a0 + 1) (ix (m2 a0 0)) (n32 32)) (a0) 0 (((um m2 (a0 + 1) (ix (m2 a0 0)) (n32 32)) a0 0) + (n32 1))) (a1 + 5) (ix v2)))) a0 0) + (n32 1))) a0 1)) v2) (a0) 1 (((um (um (um (um (um m2 (a0 + 1) (ix (m2 a0 0)) (n32 32)) (a0) 0 (((um m2 (a0 + 1) (ix (m2 a0 0)) (n32 32)) a0 0) + (n32 1))) (a0 + 1) (ix ((um (um m2 (a0 + 1) (ix (m2 a0 0)) (n32 32)) (a0) 0 (((um m2 (a0 + 1) (ix (m2 a0 0)) (n32 32)) a0 0) + (n32 1))) a0 0)) ((n32 96) + ((um (um m2 (a0 + 1) (ix (m2 a0 0)) (n32 32)) (a0) 0 (((um m2 (a0 + 1) (ix (m2 a0 0)) (n32 32)) a0 0) + (n32 1))) (a1 + 5) (ix v2)))) (a0) 0 (((um (um (um m2 (a0 + 1) (ix (m2 a0 0)) (n32 32)) (a0) 0 (((um m2 (a0 + 1) (ix (m2 a0 0)) (n32 32)) a0 0) + (n32 1))) (a0 + 1) (ix ((um (um m2 (a0 + 1) (ix (m2 a0 0)) (n32 32)) (a0) 0 (((um m2 (a0 + 1) (ix (m2 a0 0)) (n32 32)) a0 0) + (n32 1))) a0 0)) ((n32 96) + ((um (um m2 (a0 + 1) (ix (m2 a0 0)) (n32 32)) (a0) 0 (((um m2 (a0 + 1) (ix (m2 a0 0)) (n32 32)) a0 0) + (n32 1))) (a1 + 5) (ix v2)))) a0 0) + (n32 1))) (a0 + 2) (ix ((um (um (um (um m2 (a0 + 1) (ix (m2 a0 0)) (n32 32)) (a0) 0 (((um m2 (a0 + 1) (ix (m2 a0 0)) (n32 32)) a0 0) + (n32 1))) (a0 + 1) (ix ((um (um m2 (a0 + 1) (ix (m2 a0 0)) (n32 32)) (a0) 0 (((um m2 (a0 + 1) (ix (m2 a0 0)) (n32 32)) a0 0) + (n32 1))) a0 0)) ((n32 96) + ((um (um m2 (a0 + 1) (ix (m2 a0 0)) (n32 32)) (a0) 0 (((um m2 (a0 + 1) (ix (m2 a0 0)) (n32 32)) a0 0) + (n32 1))) (a1 + 5) (ix v2)))) (a0) 0 (((um (um (um m2 (a0 + 1) (ix (m2 a0 0)) (n32 32)) (a0) 0 (((um m2 (a0 + 1) (ix (m2 a0 0)) (n32 32)) a0 0) + (n32 1))) (a0 + 1) (ix ((um (um m2 (a0 + 1) (ix (m2 a0 0)) (n32 32)) (a0) 0 (((um m2 (a0 + 1) (ix (m2 a0 0)) (n32 32)) a0 0) + (n32 1))) a0 0)) ((n32 96) + ((um (um m2 (a0 + 1) (ix (m2 a0 0)) (n32 32)) (a0) 0 (((um m2 (a0 + 1) (ix (m2 a0 0)) (n32 32)) a0 0) + (n32 1))) (a1 + 5) (ix v2)))) a0 0) + (n32 1))) a0 1)) v2) a0 1) + (n32 1))) rfl)
    · refine VL_norm km34 k34_2 (VL_at (al := []) (st := []) km34 k34_2 ?_)
      exact ((h.2 c9).2 c8)
/-- BannerParade$Reading.alike, label 0 -/
theorem w37_0 {D : Nat} {a0 : Nat} {a1 : Nat} {v2 : Int32} {m : XM} {Q : Int32 → XM → Prop} {E : Nat → XM → Prop}
    (h : VLI (D + 1) 37 1 [(0, vR 5 (a0)), (1, vR 6 (a1)), (2, vI v2), (3, vI (n32 0)), (4, vI (n32 0))] [] m Q E) :
    VI (D + 1) 37 [vR 5 (a0), vR 6 (a1), vI v2] m Q E := by
  refine V_of (VL_at (al := [(0, vR 5 (a0)), (1, vR 6 (a1)), (2, vI v2)]) (st := []) km37 k37_0 ?_)
  exact VL_norm km37 k37_1 h
/-- BannerParade$Reading.alike, label 1 -/
theorem w37_1 {D : Nat} {a0 : Nat} {a1 : Nat} {v2 : Int32} {v3 : Int32} {v4 : Int32} {m : XM} {Q : Int32 → XM → Prop} {E : Nat → XM → Prop}
    (h : (((m a0 0) ≤ v4 → Q v3 m) ∧ (¬ (m a0 0) ≤ v4 → (xin v2 6 = true ∧ (((m (a1 + 3) (ix v2)) ≤ v4 → Q v3 m) ∧ (¬ (m (a1 + 3) (ix v2)) ≤ v4 → (xin v4 24 = true ∧ ((v4 < (n32 0) → (((m (a0 + 1) (ix v4)) = (-(n32 1)) → VLI (D + 1) 37 1 [(0, vR 5 (a0)), (1, vR 6 (a1)), (2, vI v2), (3, vI (v3 + (n32 1))), (4, vI (v4 + (n32 1)))] [] m Q E) ∧ (¬ (m (a0 + 1) (ix v4)) = (-(n32 1)) → VLI (D + 1) 37 1 [(0, vR 5 (a0)), (1, vR 6 (a1)), (2, vI v2), (3, vI v3), (4, vI (v4 + (n32 1)))] [] m Q E))) ∧ (¬ v4 < (n32 0) → (xin ((v2 * (n32 8)) + v4) 48 = true ∧ (((m (a0 + 1) (ix v4)) = (m (a1 + 4) (ix ((v2 * (n32 8)) + v4))) → VLI (D + 1) 37 1 [(0, vR 5 (a0)), (1, vR 6 (a1)), (2, vI v2), (3, vI (v3 + (n32 1))), (4, vI (v4 + (n32 1)))] [] m Q E) ∧ (¬ (m (a0 + 1) (ix v4)) = (m (a1 + 4) (ix ((v2 * (n32 8)) + v4))) → VLI (D + 1) 37 1 [(0, vR 5 (a0)), (1, vR 6 (a1)), (2, vI v2), (3, vI v3), (4, vI (v4 + (n32 1)))] [] m Q E)))))))))))) :
    VLI (D + 1) 37 1 [(0, vR 5 (a0)), (1, vR 6 (a1)), (2, vI v2), (3, vI v3), (4, vI v4)] [] m Q E := by
  refine VL_at (al := [(0, vR 5 (a0)), (1, vR 6 (a1)), (2, vI v2), (3, vI v3), (4, vI v4)]) (st := []) km37 k37_1 ?_
  refine And.intro (fun c5 => ?_) (fun c5 => ?_)
  · refine VL_norm km37 k37_6 (VL_at (al := [(3, vI v3)]) (st := []) km37 k37_6 ?_)
    exact (h.1 c5)
  · refine VL_norm km37 k37_2 (VL_at (al := [(0, vR 5 (a0)), (1, vR 6 (a1)), (2, vI v2), (3, vI v3), (4, vI v4)]) (st := []) km37 k37_2 ?_)
    refine And.intro (h.2 c5).1 ?_
    refine And.intro (fun c4 => ?_) (fun c4 => ?_)
    · refine VL_norm km37 k37_6 (VL_at (al := [(3, vI v3)]) (st := []) km37 k37_6 ?_)
      exact ((h.2 c5).2.1 c4)
    · refine VL_norm km37 k37_3 (VL_at (al := [(0, vR 5 (a0)), (1, vR 6 (a1)), (2, vI v2), (3, vI v3), (4, vI v4)]) (st := []) km37 k37_3 ?_)
      refine And.intro ((h.2 c5).2.2 c4).1 ?_
      refine V_of ?_
      refine VL_norm km45 k45_0 (VL_at (al := [(0, vR 6 (a1)), (1, vI v2), (2, vI v4)]) (st := []) km45 k45_0 ?_)
      refine And.intro (fun c3 => ?_) (fun c3 => ?_)
      · refine VL_norm km45 k45_3 (VL_at (al := []) (st := []) km45 k45_3 ?_)
        refine VL_norm km45 k45_4 (VL_at (al := []) (st := [vI (-(n32 1))]) km45 k45_4 ?_)
        refine And.intro (fun c1 => ?_) (fun c1 => ?_)
        · refine VL_norm km37 k37_4 (VL_at (al := [(0, vR 5 (a0)), (1, vR 6 (a1)), (2, vI v2), (3, vI v3), (4, vI v4)]) (st := []) km37 k37_4 ?_)
          refine VL_norm km37 k37_5 (VL_at (al := [(0, vR 5 (a0)), (1, vR 6 (a1)), (2, vI v2), (3, vI (v3 + (n32 1))), (4, vI v4)]) (st := []) km37 k37_5 ?_)
          exact VL_norm km37 k37_1 ((((h.2 c5).2.2 c4).2.1 c3).1 c1)
        · refine VL_norm km37 k37_5 (VL_at (al := [(0, vR 5 (a0)), (1, vR 6 (a1)), (2, vI v2), (3, vI v3), (4, vI v4)]) (st := []) km37 k37_5 ?_)
          exact VL_norm km37 k37_1 ((((h.2 c5).2.2 c4).2.1 c3).2 c1)
      · refine VL_norm km45 k45_1 (VL_at (al := [(0, vR 6 (a1)), (1, vI v2), (2, vI v4)]) (st := []) km45 k45_1 ?_)
        refine And.intro (h.2 c5).1 ?_
        refine And.intro (fun c => absurd c c4) (fun _ => ?_)
        refine VL_norm km45 k45_2 (VL_at (al := [(0, vR 6 (a1)), (1, vI v2), (2, vI v4)]) (st := []) km45 k45_2 ?_)
        refine And.intro (((h.2 c5).2.2 c4).2.2 c3).1 ?_
        refine VL_norm km45 k45_4 (VL_at (al := []) (st := [vI (m (a1 + 4) (ix ((v2 * (n32 8)) + v4)))]) km45 k45_4 ?_)
        refine And.intro (fun c2 => ?_) (fun c2 => ?_)
        · refine VL_norm km37 k37_4 (VL_at (al := [(0, vR 5 (a0)), (1, vR 6 (a1)), (2, vI v2), (3, vI v3), (4, vI v4)]) (st := []) km37 k37_4 ?_)
          refine VL_norm km37 k37_5 (VL_at (al := [(0, vR 5 (a0)), (1, vR 6 (a1)), (2, vI v2), (3, vI (v3 + (n32 1))), (4, vI v4)]) (st := []) km37 k37_5 ?_)
          exact VL_norm km37 k37_1 ((((h.2 c5).2.2 c4).2.2 c3).2.1 c2)
        · refine VL_norm km37 k37_5 (VL_at (al := [(0, vR 5 (a0)), (1, vR 6 (a1)), (2, vI v2), (3, vI v3), (4, vI v4)]) (st := []) km37 k37_5 ?_)
          exact VL_norm km37 k37_1 ((((h.2 c5).2.2 c4).2.2 c3).2.2 c2)
/-- BannerParade$Reading.isWord, label 0 -/
theorem w39_0 {D : Nat} {a0 : Nat} {a1 : Nat} {v2 : Int32} {m : XM} {Q : Int32 → XM → Prop} {E : Nat → XM → Prop}
    (h : (xin v2 6 = true ∧ (((m a0 0) = (m (a1 + 3) (ix v2)) → VI (D + 1) 37 [vR 5 (a0), vR 6 (a1), vI v2] m (fun x1 m1 => ((x1 = (m1 a0 0) → Q (n32 1) m1) ∧ (¬ x1 = (m1 a0 0) → Q (n32 0) m1))) E) ∧ (¬ (m a0 0) = (m (a1 + 3) (ix v2)) → Q (n32 0) m)))) :
    VI (D + 2) 39 [vR 5 (a0), vR 6 (a1), vI v2] m Q E := by
  refine V_of (VL_at (al := [(0, vR 5 (a0)), (1, vR 6 (a1)), (2, vI v2)]) (st := []) km39 k39_0 ?_)
  refine And.intro h.1 ?_
  refine And.intro (fun c3 => ?_) (fun c3 => ?_)
  · refine VL_norm km39 k39_1 (VL_at (al := [(0, vR 5 (a0)), (1, vR 6 (a1)), (2, vI v2)]) (st := []) km39 k39_1 ?_)
    refine V_mono (h.2.1 c3) (fun u1 m1 h1 => ?_) (fun _ _ h => h)
    refine And.intro (fun c2 => ?_) (fun c2 => ?_)
    · refine VL_norm km39 k39_2 (VL_at (al := []) (st := []) km39 k39_2 ?_)
      refine VL_norm km39 k39_4 (VL_at (al := []) (st := [vI (n32 1)]) km39 k39_4 ?_)
      refine And.intro xrt21 ?_
      exact (h1.1 c2)
    · refine VL_norm km39 k39_3 (VL_at (al := []) (st := []) km39 k39_3 ?_)
      refine VL_norm km39 k39_4 (VL_at (al := []) (st := [vI (n32 0)]) km39 k39_4 ?_)
      refine And.intro xrt20 ?_
      exact (h1.2 c2)
  · refine VL_norm km39 k39_3 (VL_at (al := []) (st := []) km39 k39_3 ?_)
    refine VL_norm km39 k39_4 (VL_at (al := []) (st := [vI (n32 0)]) km39 k39_4 ?_)
    refine And.intro xrt20 ?_
    exact (h.2.2 c3)
/-- BannerParade$Reading.shareOfWord, label 0 -/
theorem w40_0 {D : Nat} {a0 : Nat} {a1 : Nat} {v2 : Int32} {m : XM} {Q : UInt32 → XM → Prop} {E : Nat → XM → Prop}
    (h : (xin v2 6 = true ∧ VI (D + 1) 385 [vI (m a0 0), vI (m (a1 + 3) (ix v2))] m (fun x1 m1 => ((x1 ≤ (n32 0) → Q FP.fconst0 m1) ∧ (¬ x1 ≤ (n32 0) → VI (D + 1) 37 [vR 5 (a0), vR 6 (a1), vI v2] m1 (fun x2 m2 => ((FP.fdiv ((FP.i2f x2)) ((FP.i2f x1))) &&& 0x7fffffff ≤ 0x7f800000 ∧ Q (FP.fdiv ((FP.i2f x2)) ((FP.i2f x1))) m2)) E))) E)) :
    VF (D + 2) 40 [vR 5 (a0), vR 6 (a1), vI v2] m Q E := by
  refine V_of (VL_at (al := [(0, vR 5 (a0)), (1, vR 6 (a1)), (2, vI v2)]) (st := []) km40 k40_0 ?_)
  refine And.intro h.1 ?_
  refine V_mono h.2 (fun u1 m1 h1 => ?_) (fun _ _ h => h)
  refine And.intro (fun c3 => ?_) (fun c3 => ?_)
  · refine VL_norm km40 k40_2 (VL_at (al := []) (st := []) km40 k40_2 ?_)
    refine VL_norm km40 k40_3 (VL_at (al := []) (st := [vF FP.fconst0]) km40 k40_3 ?_)
    exact (h1.1 c3)
  · refine VL_norm km40 k40_1 (VL_at (al := [(0, vR 5 (a0)), (1, vR 6 (a1)), (2, vI v2), (3, vI (xti u1))]) (st := []) km40 k40_1 ?_)
    refine V_mono (h1.2 c3) (fun u2 m2 h2 => ?_) (fun _ _ h => h)
    refine And.intro h2.1 ?_
    refine VL_norm km40 k40_3 (VL_at (al := []) (st := [vF (FP.fdiv ((FP.i2f (xti u2))) ((FP.i2f (xti u1))))]) km40 k40_3 ?_)
    exact h2.2
/-- BannerParade$Route.copyFrom, label 0 -/
theorem w42_0 {D : Nat} {a0 : Nat} {a1 : Nat} {m : XM} {Q : XM → Prop} {E : Nat → XM → Prop}
    (h : VU D 172 [vR 200006 (a1 + 1), vR 200006 (a0 + 1)] (um m (a0) 0 (m a1 0)) (fun m1 => VU D 172 [vR 200006 (a1 + 2), vR 200006 (a0 + 2)] m1 (fun m2 => VU D 172 [vR 200006 (a1 + 3), vR 200006 (a0 + 3)] m2 (fun m3 => VU D 172 [vR 200048 (a1 + 4), vR 200048 (a0 + 4)] m3 (fun m4 => Q m4) E) E) E) E) :
    VU (D + 1) 42 [vR 6 (a0), vR 6 (a1)] m Q E := by
  refine V_of (VL_at (al := [(0, vR 6 (a0)), (1, vR 6 (a1))]) (st := []) km42 k42_0 ?_)
  refine V_mono h (fun u1 m1 h1 => ?_) (fun _ _ h => h)
  refine V_mono h1 (fun u2 m2 h2 => ?_) (fun _ _ h => h)
  refine V_mono h2 (fun u3 m3 h3 => ?_) (fun _ _ h => h)
  refine V_mono h3 (fun u4 m4 h4 => ?_) (fun _ _ h => h)
  exact h4
/-- BannerParade$Row.copyFrom, label 0 -/
theorem w48_0 {D : Nat} {a0 : Nat} {a1 : Nat} {m : XM} {Q : XM → Prop} {E : Nat → XM → Prop}
    (h : VU D 172 [vR 200012 (a1 + 1), vR 200012 (a0 + 1)] (um m (a0) 0 (m a1 0)) (fun m1 => VU D 172 [vR 200012 (a1 + 2), vR 200012 (a0 + 2)] m1 (fun m2 => VU D 172 [vR 200012 (a1 + 3), vR 200012 (a0 + 3)] m2 (fun m3 => VU D 172 [vR 200012 (a1 + 4), vR 200012 (a0 + 4)] m3 (fun m4 => VU D 172 [vR 200012 (a1 + 5), vR 200012 (a0 + 5)] m4 (fun m5 => VU D 172 [vR 200012 (a1 + 6), vR 200012 (a0 + 6)] m5 (fun m6 => VU D 172 [vR 200012 (a1 + 8), vR 200012 (a0 + 8)] m6 (fun m7 => Q m7) E) E) E) E) E) E) E) :
    VU (D + 1) 48 [vR 7 (a0), vR 7 (a1)] m Q E := by
  refine V_of (VL_at (al := [(0, vR 7 (a0)), (1, vR 7 (a1))]) (st := []) km48 k48_0 ?_)
  refine V_mono h (fun u1 m1 h1 => ?_) (fun _ _ h => h)
  refine V_mono h1 (fun u2 m2 h2 => ?_) (fun _ _ h => h)
  refine V_mono h2 (fun u3 m3 h3 => ?_) (fun _ _ h => h)
  refine V_mono h3 (fun u4 m4 h4 => ?_) (fun _ _ h => h)
  refine V_mono h4 (fun u5 m5 h5 => ?_) (fun _ _ h => h)
  refine V_mono h5 (fun u6 m6 h6 => ?_) (fun _ _ h => h)
  refine V_mono h6 (fun u7 m7 h7 => ?_) (fun _ _ h => h)
  exact h7
/-- BannerParade$Row.join, label 0 -/
theorem w49_0 {D : Nat} {a0 : Nat} {v1 : Int32} {v2 : Int32} {v3 : Int32} {v4 : Int32} {m : XM} {Q : XM → Prop} {E : Nat → XM → Prop}
    (h : (((m a0 0) < (n32 12) → (xin (m a0 0) 12 = true ∧ (xin ((um m (a0 + 1) (ix (m a0 0)) v1) a0 0) 12 = true ∧ (xin ((um (um m (a0 + 1) (ix (m a0 0)) v1) (a0 + 2) (ix ((um m (a0 + 1) (ix (m a0 0)) v1) a0 0)) v2) a0 0) 12 = true ∧ (∀ μ1 : XM, μ1 = um (um (um m (a0 + 1) (ix (m a0 0)) v1) (a0 + 2) (ix ((um m (a0 + 1) (ix (m a0 0)) v1) a0 0)) v2) (a0 + 3) (ix ((um (um m (a0 + 1) (ix (m a0 0)) v1) (a0 + 2) (ix ((um m (a0 + 1) (ix (m a0 0)) v1) a0 0)) v2) a0 0)) v3 → (xin (μ1 a0 0) 12 = true ∧ (xin ((um μ1 (a0 + 4) (ix (μ1 a0 0)) (n32 100)) a0 0) 12 = true ∧ (xin ((um (um μ1 (a0 + 4) (ix (μ1 a0 0)) (n32 100)) (a0 + 5) (ix ((um μ1 (a0 + 4) (ix (μ1 a0 0)) (n32 100)) a0 0)) v1) a0 0) 12 = true ∧ (∀ μ2 : XM, μ2 = um (um (um μ1 (a0 + 4) (ix (μ1 a0 0)) (n32 100)) (a0 + 5) (ix ((um μ1 (a0 + 4) (ix (μ1 a0 0)) (n32 100)) a0 0)) v1) (a0 + 6) (ix ((um (um μ1 (a0 + 4) (ix (μ1 a0 0)) (n32 100)) (a0 + 5) (ix ((um μ1 (a0 + 4) (ix (μ1 a0 0)) (n32 100)) a0 0)) v1) a0 0)) (((-v4)) * ((um (um μ1 (a0 + 4) (ix (μ1 a0 0)) (n32 100)) (a0 + 5) (ix ((um μ1 (a0 + 4) (ix (μ1 a0 0)) (n32 100)) a0 0)) v1) a0 0)) → (xin (μ2 a0 0) 12 = true ∧ (xin ((um μ2 (a0 + 7) (ix (μ2 a0 0)) (μ2 (a0 + 6) (ix (μ2 a0 0)))) a0 0) 12 = true ∧ (∀ μ3 : XM, μ3 = um (um (um μ2 (a0 + 7) (ix (μ2 a0 0)) (μ2 (a0 + 6) (ix (μ2 a0 0)))) (a0 + 8) (ix ((um μ2 (a0 + 7) (ix (μ2 a0 0)) (μ2 (a0 + 6) (ix (μ2 a0 0)))) a0 0)) (n32 0)) (a0) 0 (((um (um μ2 (a0 + 7) (ix (μ2 a0 0)) (μ2 (a0 + 6) (ix (μ2 a0 0)))) (a0 + 8) (ix ((um μ2 (a0 + 7) (ix (μ2 a0 0)) (μ2 (a0 + 6) (ix (μ2 a0 0)))) a0 0)) (n32 0)) a0 0) + (n32 1)) → Q μ3)))))))))))) ∧ (¬ (m a0 0) < (n32 12) → Q m))) :
    VU D 49 [vR 7 (a0), vI v1, vI v2, vI v3, vI v4] m Q E := by
  refine V_of (VL_at (al := [(0, vR 7 (a0)), (1, vI v1), (2, vI v2), (3, vI v3), (4, vI v4)]) (st := []) km49 k49_0 ?_)
  refine And.intro (fun c4 => ?_) (fun c4 => ?_)
  · refine VL_norm km49 k49_2 (VL_at (al := [(0, vR 7 (a0)), (1, vI v1), (2, vI v2), (3, vI v3), (4, vI v4)]) (st := []) km49 k49_2 ?_)
    refine And.intro (h.1 c4).1 ?_
    refine And.intro (h.1 c4).2.1 ?_
    refine And.intro (h.1 c4).2.2.1 ?_
    refine And.intro ((h.1 c4).2.2.2 (um (um (um m (a0 + 1) (ix (m a0 0)) v1) (a0 + 2) (ix ((um m (a0 + 1) (ix (m a0 0)) v1) a0 0)) v2) (a0 + 3) (ix ((um (um m (a0 + 1) (ix (m a0 0)) v1) (a0 + 2) (ix ((um m (a0 + 1) (ix (m a0 0)) v1) a0 0)) v2) a0 0)) v3) rfl).1 ?_
    refine And.intro ((h.1 c4).2.2.2 (um (um (um m (a0 + 1) (ix (m a0 0)) v1) (a0 + 2) (ix ((um m (a0 + 1) (ix (m a0 0)) v1) a0 0)) v2) (a0 + 3) (ix ((um (um m (a0 + 1) (ix (m a0 0)) v1) (a0 + 2) (ix ((um m (a0 + 1) (ix (m a0 0)) v1) a0 0)) v2) a0 0)) v3) rfl).2.1 ?_
    refine And.intro ((h.1 c4).2.2.2 (um (um (um m (a0 + 1) (ix (m a0 0)) v1) (a0 + 2) (ix ((um m (a0 + 1) (ix (m a0 0)) v1) a0 0)) v2) (a0 + 3) (ix ((um (um m (a0 + 1) (ix (m a0 0)) v1) (a0 + 2) (ix ((um m (a0 + 1) (ix (m a0 0)) v1) a0 0)) v2) a0 0)) v3) rfl).2.2.1 ?_
    refine And.intro (((h.1 c4).2.2.2 (um (um (um m (a0 + 1) (ix (m a0 0)) v1) (a0 + 2) (ix ((um m (a0 + 1) (ix (m a0 0)) v1) a0 0)) v2) (a0 + 3) (ix ((um (um m (a0 + 1) (ix (m a0 0)) v1) (a0 + 2) (ix ((um m (a0 + 1) (ix (m a0 0)) v1) a0 0)) v2) a0 0)) v3) rfl).2.2.2 (um (um (um (um (um (um m (a0 + 1) (ix (m a0 0)) v1) (a0 + 2) (ix ((um m (a0 + 1) (ix (m a0 0)) v1) a0 0)) v2) (a0 + 3) (ix ((um (um m (a0 + 1) (ix (m a0 0)) v1) (a0 + 2) (ix ((um m (a0 + 1) (ix (m a0 0)) v1) a0 0)) v2) a0 0)) v3) (a0 + 4) (ix ((um (um (um m (a0 + 1) (ix (m a0 0)) v1) (a0 + 2) (ix ((um m (a0 + 1) (ix (m a0 0)) v1) a0 0)) v2) (a0 + 3) (ix ((um (um m (a0 + 1) (ix (m a0 0)) v1) (a0 + 2) (ix ((um m (a0 + 1) (ix (m a0 0)) v1) a0 0)) v2) a0 0)) v3) a0 0)) (n32 100)) (a0 + 5) (ix ((um (um (um (um m (a0 + 1) (ix (m a0 0)) v1) (a0 + 2) (ix ((um m (a0 + 1) (ix (m a0 0)) v1) a0 0)) v2) (a0 + 3) (ix ((um (um m (a0 + 1) (ix (m a0 0)) v1) (a0 + 2) (ix ((um m (a0 + 1) (ix (m a0 0)) v1) a0 0)) v2) a0 0)) v3) (a0 + 4) (ix ((um (um (um m (a0 + 1) (ix (m a0 0)) v1) (a0 + 2) (ix ((um m (a0 + 1) (ix (m a0 0)) v1) a0 0)) v2) (a0 + 3) (ix ((um (um m (a0 + 1) (ix (m a0 0)) v1) (a0 + 2) (ix ((um m (a0 + 1) (ix (m a0 0)) v1) a0 0)) v2) a0 0)) v3) a0 0)) (n32 100)) a0 0)) v1) (a0 + 6) (ix ((um (um (um (um (um m (a0 + 1) (ix (m a0 0)) v1) (a0 + 2) (ix ((um m (a0 + 1) (ix (m a0 0)) v1) a0 0)) v2) (a0 + 3) (ix ((um (um m (a0 + 1) (ix (m a0 0)) v1) (a0 + 2) (ix ((um m (a0 + 1) (ix (m a0 0)) v1) a0 0)) v2) a0 0)) v3) (a0 + 4) (ix ((um (um (um m (a0 + 1) (ix (m a0 0)) v1) (a0 + 2) (ix ((um m (a0 + 1) (ix (m a0 0)) v1) a0 0)) v2) (a0 + 3) (ix ((um (um m (a0 + 1) (ix (m a0 0)) v1) (a0 + 2) (ix ((um m (a0 + 1) (ix (m a0 0)) v1) a0 0)) v2) a0 0)) v3) a0 0)) (n32 100)) (a0 + 5) (ix ((um (um (um (um m (a0 + 1) (ix (m a0 0)) v1) (a0 + 2) (ix ((um m (a0 + 1) (ix (m a0 0)) v1) a0 0)) v2) (a0 + 3) (ix ((um (um m (a0 + 1) (ix (m a0 0)) v1) (a0 + 2) (ix ((um m (a0 + 1) (ix (m a0 0)) v1) a0 0)) v2) a0 0)) v3) (a0 + 4) (ix ((um (um (um m (a0 + 1) (ix (m a0 0)) v1) (a0 + 2) (ix ((um m (a0 + 1) (ix (m a0 0)) v1) a0 0)) v2) (a0 + 3) (ix ((um (um m (a0 + 1) (ix (m a0 0)) v1) (a0 + 2) (ix ((um m (a0 + 1) (ix (m a0 0)) v1) a0 0)) v2) a0 0)) v3) a0 0)) (n32 100)) a0 0)) v1) a0 0)) (((-v4)) * ((um (um (um (um (um m (a0 + 1) (ix (m a0 0)) v1) (a0 + 2) (ix ((um m (a0 + 1) (ix (m a0 0)) v1) a0 0)) v2) (a0 + 3) (ix ((um (um m (a0 + 1) (ix (m a0 0)) v1) (a0 + 2) (ix ((um m (a0 + 1) (ix (m a0 0)) v1) a0 0)) v2) a0 0)) v3) (a0 + 4) (ix ((um (um (um m (a0 + 1) (ix (m a0 0)) v1) (a0 + 2) (ix ((um m (a0 + 1) (ix (m a0 0)) v1) a0 0)) v2) (a0 + 3) (ix ((um (um m (a0 + 1) (ix (m a0 0)) v1) (a0 + 2) (ix ((um m (a0 + 1) (ix (m a0 0)) v1) a0 0)) v2) a0 0)) v3) a0 0)) (n32 100)) (a0 + 5) (ix ((um (um (um (um m (a0 + 1) (ix (m a0 0)) v1) (a0 + 2) (ix ((um m (a0 + 1) (ix (m a0 0)) v1) a0 0)) v2) (a0 + 3) (ix ((um (um m (a0 + 1) (ix (m a0 0)) v1) (a0 + 2) (ix ((um m (a0 + 1) (ix (m a0 0)) v1) a0 0)) v2) a0 0)) v3) (a0 + 4) (ix ((um (um (um m (a0 + 1) (ix (m a0 0)) v1) (a0 + 2) (ix ((um m (a0 + 1) (ix (m a0 0)) v1) a0 0)) v2) (a0 + 3) (ix ((um (um m (a0 + 1) (ix (m a0 0)) v1) (a0 + 2) (ix ((um m (a0 + 1) (ix (m a0 0)) v1) a0 0)) v2) a0 0)) v3) a0 0)) (n32 100)) a0 0)) v1) a0 0))) rfl).1 ?_
    refine And.intro (((h.1 c4).2.2.2 (um (um (um m (a0 + 1) (ix (m a0 0)) v1) (a0 + 2) (ix ((um m (a0 + 1) (ix (m a0 0)) v1) a0 0)) v2) (a0 + 3) (ix ((um (um m (a0 + 1) (ix (m a0 0)) v1) (a0 + 2) (ix ((um m (a0 + 1) (ix (m a0 0)) v1) a0 0)) v2) a0 0)) v3) rfl).2.2.2 (um (um (um (um (um (um m (a0 + 1) (ix (m a0 0)) v1) (a0 + 2) (ix ((um m (a0 + 1) (ix (m a0 0)) v1) a0 0)) v2) (a0 + 3) (ix ((um (um m (a0 + 1) (ix (m a0 0)) v1) (a0 + 2) (ix ((um m (a0 + 1) (ix (m a0 0)) v1) a0 0)) v2) a0 0)) v3) (a0 + 4) (ix ((um (um (um m (a0 + 1) (ix (m a0 0)) v1) (a0 + 2) (ix ((um m (a0 + 1) (ix (m a0 0)) v1) a0 0)) v2) (a0 + 3) (ix ((um (um m (a0 + 1) (ix (m a0 0)) v1) (a0 + 2) (ix ((um m (a0 + 1) (ix (m a0 0)) v1) a0 0)) v2) a0 0)) v3) a0 0)) (n32 100)) (a0 + 5) (ix ((um (um (um (um m (a0 + 1) (ix (m a0 0)) v1) (a0 + 2) (ix ((um m (a0 + 1) (ix (m a0 0)) v1) a0 0)) v2) (a0 + 3) (ix ((um (um m (a0 + 1) (ix (m a0 0)) v1) (a0 + 2) (ix ((um m (a0 + 1) (ix (m a0 0)) v1) a0 0)) v2) a0 0)) v3) (a0 + 4) (ix ((um (um (um m (a0 + 1) (ix (m a0 0)) v1) (a0 + 2) (ix ((um m (a0 + 1) (ix (m a0 0)) v1) a0 0)) v2) (a0 + 3) (ix ((um (um m (a0 + 1) (ix (m a0 0)) v1) (a0 + 2) (ix ((um m (a0 + 1) (ix (m a0 0)) v1) a0 0)) v2) a0 0)) v3) a0 0)) (n32 100)) a0 0)) v1) (a0 + 6) (ix ((um (um (um (um (um m (a0 + 1) (ix (m a0 0)) v1) (a0 + 2) (ix ((um m (a0 + 1) (ix (m a0 0)) v1) a0 0)) v2) (a0 + 3) (ix ((um (um m (a0 + 1) (ix (m a0 0)) v1) (a0 + 2) (ix ((um m (a0 + 1) (ix (m a0 0)) v1) a0 0)) v2) a0 0)) v3) (a0 + 4) (ix ((um (um (um m (a0 + 1) (ix (m a0 0)) v1) (a0 + 2) (ix ((um m (a0 + 1) (ix (m a0 0)) v1) a0 0)) v2) (a0 + 3) (ix ((um (um m (a0 + 1) (ix (m a0 0)) v1) (a0 + 2) (ix ((um m (a0 + 1) (ix (m a0 0)) v1) a0 0)) v2) a0 0)) v3) a0 0)) (n32 100)) (a0 + 5) (ix ((um (um (um (um m (a0 + 1) (ix (m a0 0)) v1) (a0 + 2) (ix ((um m (a0 + 1) (ix (m a0 0)) v1) a0 0)) v2) (a0 + 3) (ix ((um (um m (a0 + 1) (ix (m a0 0)) v1) (a0 + 2) (ix ((um m (a0 + 1) (ix (m a0 0)) v1) a0 0)) v2) a0 0)) v3) (a0 + 4) (ix ((um (um (um m (a0 + 1) (ix (m a0 0)) v1) (a0 + 2) (ix ((um m (a0 + 1) (ix (m a0 0)) v1) a0 0)) v2) (a0 + 3) (ix ((um (um m (a0 + 1) (ix (m a0 0)) v1) (a0 + 2) (ix ((um m (a0 + 1) (ix (m a0 0)) v1) a0 0)) v2) a0 0)) v3) a0 0)) (n32 100)) a0 0)) v1) a0 0)) (((-v4)) * ((um (um (um (um (um m (a0 + 1) (ix (m a0 0)) v1) (a0 + 2) (ix ((um m (a0 + 1) (ix (m a0 0)) v1) a0 0)) v2) (a0 + 3) (ix ((um (um m (a0 + 1) (ix (m a0 0)) v1) (a0 + 2) (ix ((um m (a0 + 1) (ix (m a0 0)) v1) a0 0)) v2) a0 0)) v3) (a0 + 4) (ix ((um (um (um m (a0 + 1) (ix (m a0 0)) v1) (a0 + 2) (ix ((um m (a0 + 1) (ix (m a0 0)) v1) a0 0)) v2) (a0 + 3) (ix ((um (um m (a0 + 1) (ix (m a0 0)) v1) (a0 + 2) (ix ((um m (a0 + 1) (ix (m a0 0)) v1) a0 0)) v2) a0 0)) v3) a0 0)) (n32 100)) (a0 + 5) (ix ((um (um (um (um m (a0 + 1) (ix (m a0 0)) v1) (a0 + 2) (ix ((um m (a0 + 1) (ix (m a0 0)) v1) a0 0)) v2) (a0 + 3) (ix ((um (um m (a0 + 1) (ix (m a0 0)) v1) (a0 + 2) (ix ((um m (a0 + 1) (ix (m a0 0)) v1) a0 0)) v2) a0 0)) v3) (a0 + 4) (ix ((um (um (um m (a0 + 1) (ix (m a0 0)) v1) (a0 + 2) (ix ((um m (a0 + 1) (ix (m a0 0)) v1) a0 0)) v2) (a0 + 3) (ix ((um (um m (a0 + 1) (ix (m a0 0)) v1) (a0 + 2) (ix ((um m (a0 + 1) (ix (m a0 0)) v1) a0 0)) v2) a0 0)) v3) a0 0)) (n32 100)) a0 0)) v1) a0 0))) rfl).1 ?_
    refine And.intro (((h.1 c4).2.2.2 (um (um (um m (a0 + 1) (ix (m a0 0)) v1) (a0 + 2) (ix ((um m (a0 + 1) (ix (m a0 0)) v1) a0 0)) v2) (a0 + 3) (ix ((um (um m (a0 + 1) (ix (m a0 0)) v1) (a0 + 2) (ix ((um m (a0 + 1) (ix (m a0 0)) v1) a0 0)) v2) a0 0)) v3) rfl).2.2.2 (um (um (um (um (um (um m (a0 + 1) (ix (m a0 0)) v1) (a0 + 2) (ix ((um m (a0 + 1) (ix (m a0 0)) v1) a0 0)) v2) (a0 + 3) (ix ((um (um m (a0 + 1) (ix (m a0 0)) v1) (a0 + 2) (ix ((um m (a0 + 1) (ix (m a0 0)) v1) a0 0)) v2) a0 0)) v3) (a0 + 4) (ix ((um (um (um m (a0 + 1) (ix (m a0 0)) v1) (a0 + 2) (ix ((um m (a0 + 1) (ix (m a0 0)) v1) a0 0)) v2) (a0 + 3) (ix ((um (um m (a0 + 1) (ix (m a0 0)) v1) (a0 + 2) (ix ((um m (a0 + 1) (ix (m a0 0)) v1) a0 0)) v2) a0 0)) v3) a0 0)) (n32 100)) (a0 + 5) (ix ((um (um (um (um m (a0 + 1) (ix (m a0 0)) v1) (a0 + 2) (ix ((um m (a0 + 1) (ix (m a0 0)) v1) a0 0)) v2) (a0 + 3) (ix ((um (um m (a0 + 1) (ix (m a0 0)) v1) (a0 + 2) (ix ((um m (a0 + 1) (ix (m a0 0)) v1) a0 0)) v2) a0 0)) v3) (a0 + 4) (ix ((um (um (um m (a0 + 1) (ix (m a0 0)) v1) (a0 + 2) (ix ((um m (a0 + 1) (ix (m a0 0)) v1) a0 0)) v2) (a0 + 3) (ix ((um (um m (a0 + 1) (ix (m a0 0)) v1) (a0 + 2) (ix ((um m (a0 + 1) (ix (m a0 0)) v1) a0 0)) v2) a0 0)) v3) a0 0)) (n32 100)) a0 0)) v1) (a0 + 6) (ix ((um (um (um (um (um m (a0 + 1) (ix (m a0 0)) v1) (a0 + 2) (ix ((um m (a0 + 1) (ix (m a0 0)) v1) a0 0)) v2) (a0 + 3) (ix ((um (um m (a0 + 1) (ix (m a0 0)) v1) (a0 + 2) (ix ((um m (a0 + 1) (ix (m a0 0)) v1) a0 0)) v2) a0 0)) v3) (a0 + 4) (ix ((um (um (um m (a0 + 1) (ix (m a0 0)) v1) (a0 + 2) (ix ((um m (a0 + 1) (ix (m a0 0)) v1) a0 0)) v2) (a0 + 3) (ix ((um (um m (a0 + 1) (ix (m a0 0)) v1) (a0 + 2) (ix ((um m (a0 + 1) (ix (m a0 0)) v1) a0 0)) v2) a0 0)) v3) a0 0)) (n32 100)) (a0 + 5) (ix ((um (um (um (um m (a0 + 1) (ix (m a0 0)) v1) (a0 + 2) (ix ((um m (a0 + 1) (ix (m a0 0)) v1) a0 0)) v2) (a0 + 3) (ix ((um (um m (a0 + 1) (ix (m a0 0)) v1) (a0 + 2) (ix ((um m (a0 + 1) (ix (m a0 0)) v1) a0 0)) v2) a0 0)) v3) (a0 + 4) (ix ((um (um (um m (a0 + 1) (ix (m a0 0)) v1) (a0 + 2) (ix ((um m (a0 + 1) (ix (m a0 0)) v1) a0 0)) v2) (a0 + 3) (ix ((um (um m (a0 + 1) (ix (m a0 0)) v1) (a0 + 2) (ix ((um m (a0 + 1) (ix (m a0 0)) v1) a0 0)) v2) a0 0)) v3) a0 0)) (n32 100)) a0 0)) v1) a0 0)) (((-v4)) * ((um (um (um (um (um m (a0 + 1) (ix (m a0 0)) v1) (a0 + 2) (ix ((um m (a0 + 1) (ix (m a0 0)) v1) a0 0)) v2) (a0 + 3) (ix ((um (um m (a0 + 1) (ix (m a0 0)) v1) (a0 + 2) (ix ((um m (a0 + 1) (ix (m a0 0)) v1) a0 0)) v2) a0 0)) v3) (a0 + 4) (ix ((um (um (um m (a0 + 1) (ix (m a0 0)) v1) (a0 + 2) (ix ((um m (a0 + 1) (ix (m a0 0)) v1) a0 0)) v2) (a0 + 3) (ix ((um (um m (a0 + 1) (ix (m a0 0)) v1) (a0 + 2) (ix ((um m (a0 + 1) (ix (m a0 0)) v1) a0 0)) v2) a0 0)) v3) a0 0)) (n32 100)) (a0 + 5) (ix ((um (um (um (um m (a0 + 1) (ix (m a0 0)) v1) (a0 + 2) (ix ((um m (a0 + 1) (ix (m a0 0)) v1) a0 0)) v2) (a0 + 3) (ix ((um (um m (a0 + 1) (ix (m a0 0)) v1) (a0 + 2) (ix ((um m (a0 + 1) (ix (m a0 0)) v1) a0 0)) v2) a0 0)) v3) (a0 + 4) (ix ((um (um (um m (a0 + 1) (ix (m a0 0)) v1) (a0 + 2) (ix ((um m (a0 + 1) (ix (m a0 0)) v1) a0 0)) v2) (a0 + 3) (ix ((um (um m (a0 + 1) (ix (m a0 0)) v1) (a0 + 2) (ix ((um m (a0 + 1) (ix (m a0 0)) v1) a0 0)) v2) a0 0)) v3) a0 0)) (n32 100)) a0 0)) v1) a0 0))) rfl).2.1 ?_
    exact ((((h.1 c4).2.2.2 (um (um (um m (a0 + 1) (ix (m a0 0)) v1) (a0 + 2) (ix ((um m (a0 + 1) (ix (m a0 0)) v1) a0 0)) v2) (a0 + 3) (ix ((um (um m (a0 + 1) (ix (m a0 0)) v1) (a0 + 2) (ix ((um m (a0 + 1) (ix (m a0 0)) v1) a0 0)) v2) a0 0)) v3) rfl).2.2.2 (um (um (um (um (um (um m (a0 + 1) (ix (m a0 0)) v1) (a0 + 2) (ix ((um m (a0 + 1) (ix (m a0 0)) v1) a0 0)) v2) (a0 + 3) (ix ((um (um m (a0 + 1) (ix (m a0 0)) v1) (a0 + 2) (ix ((um m (a0 + 1) (ix (m a0 0)) v1) a0 0)) v2) a0 0)) v3) (a0 + 4) (ix ((um (um (um m (a0 + 1) (ix (m a0 0)) v1) (a0 + 2) (ix ((um m (a0 + 1) (ix (m a0 0)) v1) a0 0)) v2) (a0 + 3) (ix ((um (um m (a0 + 1) (ix (m a0 0)) v1) (a0 + 2) (ix ((um m (a0 + 1) (ix (m a0 0)) v1) a0 0)) v2) a0 0)) v3) a0 0)) (n32 100)) (a0 + 5) (ix ((um (um (um (um m (a0 + 1) (ix (m a0 0)) v1) (a0 + 2) (ix ((um m (a0 + 1) (ix (m a0 0)) v1) a0 0)) v2) (a0 + 3) (ix ((um (um m (a0 + 1) (ix (m a0 0)) v1) (a0 + 2) (ix ((um m (a0 + 1) (ix (m a0 0)) v1) a0 0)) v2) a0 0)) v3) (a0 + 4) (ix ((um (um (um m (a0 + 1) (ix (m a0 0)) v1) (a0 + 2) (ix ((um m (a0 + 1) (ix (m a0 0)) v1) a0 0)) v2) (a0 + 3) (ix ((um (um m (a0 + 1) (ix (m a0 0)) v1) (a0 + 2) (ix ((um m (a0 + 1) (ix (m a0 0)) v1) a0 0)) v2) a0 0)) v3) a0 0)) (n32 100)) a0 0)) v1) (a0 + 6) (ix ((um (um (um (um (um m (a0 + 1) (ix (m a0 0)) v1) (a0 + 2) (ix ((um m (a0 + 1) (ix (m a0 0)) v1) a0 0)) v2) (a0 + 3) (ix ((um (um m (a0 + 1) (ix (m a0 0)) v1) (a0 + 2) (ix ((um m (a0 + 1) (ix (m a0 0)) v1) a0 0)) v2) a0 0)) v3) (a0 + 4) (ix ((um (um (um m (a0 + 1) (ix (m a0 0)) v1) (a0 + 2) (ix ((um m (a0 + 1) (ix (m a0 0)) v1) a0 0)) v2) (a0 + 3) (ix ((um (um m (a0 + 1) (ix (m a0 0)) v1) (a0 + 2) (ix ((um m (a0 + 1) (ix (m a0 0)) v1) a0 0)) v2) a0 0)) v3) a0 0)) (n32 100)) (a0 + 5) (ix ((um (um (um (um m (a0 + 1) (ix (m a0 0)) v1) (a0 + 2) (ix ((um m (a0 + 1) (ix (m a0 0)) v1) a0 0)) v2) (a0 + 3) (ix ((um (um m (a0 + 1) (ix (m a0 0)) v1) (a0 + 2) (ix ((um m (a0 + 1) (ix (m a0 0)) v1) a0 0)) v2) a0 0)) v3) (a0 + 4) (ix ((um (um (um m (a0 + 1) (ix (m a0 0)) v1) (a0 + 2) (ix ((um m (a0 + 1) (ix (m a0 0)) v1) a0 0)) v2) (a0 + 3) (ix ((um (um m (a0 + 1) (ix (m a0 0)) v1) (a0 + 2) (ix ((um m (a0 + 1) (ix (m a0 0)) v1) a0 0)) v2) a0 0)) v3) a0 0)) (n32 100)) a0 0)) v1) a0 0)) (((-v4)) * ((um (um (um (um (um m (a0 + 1) (ix (m a0 0)) v1) (a0 + 2) (ix ((um m (a0 + 1) (ix (m a0 0)) v1) a0 0)) v2) (a0 + 3) (ix ((um (um m (a0 + 1) (ix (m a0 0)) v1) (a0 + 2) (ix ((um m (a0 + 1) (ix (m a0 0)) v1) a0 0)) v2) a0 0)) v3) (a0 + 4) (ix ((um (um (um m (a0 + 1) (ix (m a0 0)) v1) (a0 + 2) (ix ((um m (a0 + 1) (ix (m a0 0)) v1) a0 0)) v2) (a0 + 3) (ix ((um (um m (a0 + 1) (ix (m a0 0)) v1) (a0 + 2) (ix ((um m (a0 + 1) (ix (m a0 0)) v1) a0 0)) v2) a0 0)) v3) a0 0)) (n32 100)) (a0 + 5) (ix ((um (um (um (um m (a0 + 1) (ix (m a0 0)) v1) (a0 + 2) (ix ((um m (a0 + 1) (ix (m a0 0)) v1) a0 0)) v2) (a0 + 3) (ix ((um (um m (a0 + 1) (ix (m a0 0)) v1) (a0 + 2) (ix ((um m (a0 + 1) (ix (m a0 0)) v1) a0 0)) v2) a0 0)) v3) (a0 + 4) (ix ((um (um (um m (a0 + 1) (ix (m a0 0)) v1) (a0 + 2) (ix ((um m (a0 + 1) (ix (m a0 0)) v1) a0 0)) v2) (a0 + 3) (ix ((um (um m (a0 + 1) (ix (m a0 0)) v1) (a0 + 2) (ix ((um m (a0 + 1) (ix (m a0 0)) v1) a0 0)) v2) a0 0)) v3) a0 0)) (n32 100)) a0 0)) v1) a0 0))) rfl).2.2 (um (um (um (um (um (um (um (um (um m (a0 + 1) (ix (m a0 0)) v1) (a0 + 2) (ix ((um m (a0 + 1) (ix (m a0 0)) v1) a0 0)) v2) (a0 + 3) (ix ((um (um m (a0 + 1) (ix (m a0 0)) v1) (a0 + 2) (ix ((um m (a0 + 1) (ix (m a0 0)) v1) a0 0)) v2) a0 0)) v3) (a0 + 4) (ix ((um (um (um m (a0 + 1) (ix (m a0 0)) v1) (a0 + 2) (ix ((um m (a0 + 1) (ix (m a0 0)) v1) a0 0)) v2) (a0 + 3) (ix ((um (um m (a0 + 1) (ix (m a0 0)) v1) (a0 + 2) (ix ((um m (a0 + 1) (ix (m a0 0)) v1) a0 0)) v2) a0 0)) v3) a0 0)) (n32 100)) (a0 + 5) (ix ((um (um (um (um m (a0 + 1) (ix (m a0 0)) v1) (a0 + 2) (ix ((um m (a0 + 1) (ix (m a0 0)) v1) a0 0)) v2) (a0 + 3) (ix ((um (um m (a0 + 1) (ix (m a0 0)) v1) (a0 + 2) (ix ((um m (a0 + 1) (ix (m a0 0)) v1) a0 0)) v2) a0 0)) v3) (a0 + 4) (ix ((um (um (um m (a0 + 1) (ix (m a0 0)) v1) (a0 + 2) (ix ((um m (a0 + 1) (ix (m a0 0)) v1) a0 0)) v2) (a0 + 3) (ix ((um (um m (a0 + 1) (ix (m a0 0)) v1) (a0 + 2) (ix ((um m (a0 + 1) (ix (m a0 0)) v1) a0 0)) v2) a0 0)) v3) a0 0)) (n32 100)) a0 0)) v1) (a0 + 6) (ix ((um (um (um (um (um m (a0 + 1) (ix (m a0 0)) v1) (a0 + 2) (ix ((um m (a0 + 1) (ix (m a0 0)) v1) a0 0)) v2) (a0 + 3) (ix ((um (um m (a0 + 1) (ix (m a0 0)) v1) (a0 + 2) (ix ((um m (a0 + 1) (ix (m a0 0)) v1) a0 0)) v2) a0 0)) v3) (a0 + 4) (ix ((um (um (um m (a0 + 1) (ix (m a0 0)) v1) (a0 + 2) (ix ((um m (a0 + 1) (ix (m a0 0)) v1) a0 0)) v2) (a0 + 3) (ix ((um (um m (a0 + 1) (ix (m a0 0)) v1) (a0 + 2) (ix ((um m (a0 + 1) (ix (m a0 0)) v1) a0 0)) v2) a0 0)) v3) a0 0)) (n32 100)) (a0 + 5) (ix ((um (um (um (um m (a0 + 1) (ix (m a0 0)) v1) (a0 + 2) (ix ((um m (a0 + 1) (ix (m a0 0)) v1) a0 0)) v2) (a0 + 3) (ix ((um (um m (a0 + 1) (ix (m a0 0)) v1) (a0 + 2) (ix ((um m (a0 + 1) (ix (m a0 0)) v1) a0 0)) v2) a0 0)) v3) (a0 + 4) (ix ((um (um (um m (a0 + 1) (ix (m a0 0)) v1) (a0 + 2) (ix ((um m (a0 + 1) (ix (m a0 0)) v1) a0 0)) v2) (a0 + 3) (ix ((um (um m (a0 + 1) (ix (m a0 0)) v1) (a0 + 2) (ix ((um m (a0 + 1) (ix (m a0 0)) v1) a0 0)) v2) a0 0)) v3) a0 0)) (n32 100)) a0 0)) v1) a0 0)) (((-v4)) * ((um (um (um (um (um m (a0 + 1) (ix (m a0 0)) v1) (a0 + 2) (ix ((um m (a0 + 1) (ix (m a0 0)) v1) a0 0)) v2) (a0 + 3) (ix ((um (um m (a0 + 1) (ix (m a0 0)) v1) (a0 + 2) (ix ((um m (a0 + 1) (ix (m a0 0)) v1) a0 0)) v2) a0 0)) v3) (a0 + 4) (ix ((um (um (um m (a0 + 1) (ix (m a0 0)) v1) (a0 + 2) (ix ((um m (a0 + 1) (ix (m a0 0)) v1) a0 0)) v2) (a0 + 3) (ix ((um (um m (a0 + 1) (ix (m a0 0)) v1) (a0 + 2) (ix ((um m (a0 + 1) (ix (m a0 0)) v1) a0 0)) v2) a0 0)) v3) a0 0)) (n32 100)) (a0 + 5) (ix ((um (um (um (um m (a0 + 1) (ix (m a0 0)) v1) (a0 + 2) (ix ((um m (a0 + 1) (ix (m a0 0)) v1) a0 0)) v2) (a0 + 3) (ix ((um (um m (a0 + 1) (ix (m a0 0)) v1) (a0 + 2) (ix ((um m (a0 + 1) (ix (m a0 0)) v1) a0 0)) v2) a0 0)) v3) (a0 + 4) (ix ((um (um (um m (a0 + 1) (ix (m a0 0)) v1) (a0 + 2) (ix ((um m (a0 + 1) (ix (m a0 0)) v1) a0 0)) v2) (a0 + 3) (ix ((um (um m (a0 + 1) (ix (m a0 0)) v1) (a0 + 2) (ix ((um m (a0 + 1) (ix (m a0 0)) v1) a0 0)) v2) a0 0)) v3) a0 0)) (n32 100)) a0 0)) v1) a0 0))) (a0 + 7) (ix ((um (um (um (um (um (um m (a0 + 1) (ix (m a0 0)) v1) (a0 + 2) (ix ((um m (a0 + 1) (ix (m a0 0)) v1) a0 0)) v2) (a0 + 3) (ix ((um (um m (a0 + 1) (ix (m a0 0)) v1) (a0 + 2) (ix ((um m (a0 + 1) (ix (m a0 0)) v1) a0 0)) v2) a0 0)) v3) (a0 + 4) (ix ((um (um (um m (a0 + 1) (ix (m a0 0)) v1) (a0 + 2) (ix ((um m (a0 + 1) (ix (m a0 0)) v1) a0 0)) v2) (a0 + 3) (ix ((um (um m (a0 + 1) (ix (m a0 0)) v1) (a0 + 2) (ix ((um m (a0 + 1) (ix (m a0 0)) v1) a0 0)) v2) a0 0)) v3) a0 0)) (n32 100)) (a0 + 5) (ix ((um (um (um (um m (a0 + 1) (ix (m a0 0)) v1) (a0 + 2) (ix ((um m (a0 + 1) (ix (m a0 0)) v1) a0 0)) v2) (a0 + 3) (ix ((um (um m (a0 + 1) (ix (m a0 0)) v1) (a0 + 2) (ix ((um m (a0 + 1) (ix (m a0 0)) v1) a0 0)) v2) a0 0)) v3) (a0 + 4) (ix ((um (um (um m (a0 + 1) (ix (m a0 0)) v1) (a0 + 2) (ix ((um m (a0 + 1) (ix (m a0 0)) v1) a0 0)) v2) (a0 + 3) (ix ((um (um m (a0 + 1) (ix (m a0 0)) v1) (a0 + 2) (ix ((um m (a0 + 1) (ix (m a0 0)) v1) a0 0)) v2) a0 0)) v3) a0 0)) (n32 100)) a0 0)) v1) (a0 + 6) (ix ((um (um (um (um (um m (a0 + 1) (ix (m a0 0)) v1) (a0 + 2) (ix ((um m (a0 + 1) (ix (m a0 0)) v1) a0 0)) v2) (a0 + 3) (ix ((um (um m (a0 + 1) (ix (m a0 0)) v1) (a0 + 2) (ix ((um m (a0 + 1) (ix (m a0 0)) v1) a0 0)) v2) a0 0)) v3) (a0 + 4) (ix ((um (um (um m (a0 + 1) (ix (m a0 0)) v1) (a0 + 2) (ix ((um m (a0 + 1) (ix (m a0 0)) v1) a0 0)) v2) (a0 + 3) (ix ((um (um m (a0 + 1) (ix (m a0 0)) v1) (a0 + 2) (ix ((um m (a0 + 1) (ix (m a0 0)) v1) a0 0)) v2) a0 0)) v3) a0 0)) (n32 100)) (a0 + 5) (ix ((um (um (um (um m (a0 + 1) (ix (m a0 0)) v1) (a0 + 2) (ix ((um m (a0 + 1) (ix (m a0 0)) v1) a0 0)) v2) (a0 + 3) (ix ((um (um m (a0 + 1) (ix (m a0 0)) v1) (a0 + 2) (ix ((um m (a0 + 1) (ix (m a0 0)) v1) a0 0)) v2) a0 0)) v3) (a0 + 4) (ix ((um (um (um m (a0 + 1) (ix (m a0 0)) v1) (a0 + 2) (ix ((um m (a0 + 1) (ix (m a0 0)) v1) a0 0)) v2) (a0 + 3) (ix ((um (um m (a0 + 1) (ix (m a0 0)) v1) (a0 + 2) (ix ((um m (a0 + 1) (ix (m a0 0)) v1) a0 0)) v2) a0 0)) v3) a0 0)) (n32 100)) a0 0)) v1) a0 0)) (((-v4)) * ((um (um (um (um (um m (a0 + 1) (ix (m a0 0)) v1) (a0 + 2) (ix ((um m (a0 + 1) (ix (m a0 0)) v1) a0 0)) v2) (a0 + 3) (ix ((um (um m (a0 + 1) (ix (m a0 0)) v1) (a0 + 2) (ix ((um m (a0 + 1) (ix (m a0 0)) v1) a0 0)) v2) a0 0)) v3) (a0 + 4) (ix ((um (um (um m (a0 + 1) (ix (m a0 0)) v1) (a0 + 2) (ix ((um m (a0 + 1) (ix (m a0 0)) v1) a0 0)) v2) (a0 + 3) (ix ((um (um m (a0 + 1) (ix (m a0 0)) v1) (a0 + 2) (ix ((um m (a0 + 1) (ix (m a0 0)) v1) a0 0)) v2) a0 0)) v3) a0 0)) (n32 100)) (a0 + 5) (ix ((um (um (um (um m (a0 + 1) (ix (m a0 0)) v1) (a0 + 2) (ix ((um m (a0 + 1) (ix (m a0 0)) v1) a0 0)) v2) (a0 + 3) (ix ((um (um m (a0 + 1) (ix (m a0 0)) v1) (a0 + 2) (ix ((um m (a0 + 1) (ix (m a0 0)) v1) a0 0)) v2) a0 0)) v3) (a0 + 4) (ix ((um (um (um m (a0 + 1) (ix (m a0 0)) v1) (a0 + 2) (ix ((um m (a0 + 1) (ix (m a0 0)) v1) a0 0)) v2) (a0 + 3) (ix ((um (um m (a0 + 1) (ix (m a0 0)) v1) (a0 + 2) (ix ((um m (a0 + 1) (ix (m a0 0)) v1) a0 0)) v2) a0 0)) v3) a0 0)) (n32 100)) a0 0)) v1) a0 0))) a0 0)) ((um (um (um (um (um (um m (a0 + 1) (ix (m a0 0)) v1) (a0 + 2) (ix ((um m (a0 + 1) (ix (m a0 0)) v1) a0 0)) v2) (a0 + 3) (ix ((um (um m (a0 + 1) (ix (m a0 0)) v1) (a0 + 2) (ix ((um m (a0 + 1) (ix (m a0 0)) v1) a0 0)) v2) a0 0)) v3) (a0 + 4) (ix ((um (um (um m (a0 + 1) (ix (m a0 0)) v1) (a0 + 2) (ix ((um m (a0 + 1) (ix (m a0 0)) v1) a0 0)) v2) (a0 + 3) (ix ((um (um m (a0 + 1) (ix (m a0 0)) v1) (a0 + 2) (ix ((um m (a0 + 1) (ix (m a0 0)) v1) a0 0)) v2) a0 0)) v3) a0 0)) (n32 100)) (a0 + 5) (ix ((um (um (um (um m (a0 + 1) (ix (m a0 0)) v1) (a0 + 2) (ix ((um m (a0 + 1) (ix (m a0 0)) v1) a0 0)) v2) (a0 + 3) (ix ((um (um m (a0 + 1) (ix (m a0 0)) v1) (a0 + 2) (ix ((um m (a0 + 1) (ix (m a0 0)) v1) a0 0)) v2) a0 0)) v3) (a0 + 4) (ix ((um (um (um m (a0 + 1) (ix (m a0 0)) v1) (a0 + 2) (ix ((um m (a0 + 1) (ix (m a0 0)) v1) a0 0)) v2) (a0 + 3) (ix ((um (um m (a0 + 1) (ix (m a0 0)) v1) (a0 + 2) (ix ((um m (a0 + 1) (ix (m a0 0)) v1) a0 0)) v2) a0 0)) v3) a0 0)) (n32 100)) a0 0)) v1) (a0 + 6) (ix ((um (um (um (um (um m (a0 + 1) (ix (m a0 0)) v1) (a0 + 2) (ix ((um m (a0 + 1) (ix (m a0 0)) v1) a0 0)) v2) (a0 + 3) (ix ((um (um m (a0 + 1) (ix (m a0 0)) v1) (a0 + 2) (ix ((um m (a0 + 1) (ix (m a0 0)) v1) a0 0)) v2) a0 0)) v3) (a0 + 4) (ix ((um (um (um m (a0 + 1) (ix (m a0 0)) v1) (a0 + 2) (ix ((um m (a0 + 1) (ix (m a0 0)) v1) a0 0)) v2) (a0 + 3) (ix ((um (um m (a0 + 1) (ix (m a0 0)) v1) (a0 + 2) (ix ((um m (a0 + 1) (ix (m a0 0)) v1) a0 0)) v2) a0 0)) v3) a0 0)) (n32 100)) (a0 + 5) (ix ((um (um (um (um m (a0 + 1) (ix (m a0 0)) v1) (a0 + 2) (ix ((um m (a0 + 1) (ix (m a0 0)) v1) a0 0)) v2) (a0 + 3) (ix ((um (um m (a0 + 1) (ix (m a0 0)) v1) (a0 + 2) (ix ((um m (a0 + 1) (ix (m a0 0)) v1) a0 0)) v2) a0 0)) v3) (a0 + 4) (ix ((um (um (um m (a0 + 1) (ix (m a0 0)) v1) (a0 + 2) (ix ((um m (a0 + 1) (ix (m a0 0)) v1) a0 0)) v2) (a0 + 3) (ix ((um (um m (a0 + 1) (ix (m a0 0)) v1) (a0 + 2) (ix ((um m (a0 + 1) (ix (m a0 0)) v1) a0 0)) v2) a0 0)) v3) a0 0)) (n32 100)) a0 0)) v1) a0 0)) (((-v4)) * ((um (um (um (um (um m (a0 + 1) (ix (m a0 0)) v1) (a0 + 2) (ix ((um m (a0 + 1) (ix (m a0 0)) v1) a0 0)) v2) (a0 + 3) (ix ((um (um m (a0 + 1) (ix (m a0 0)) v1) (a0 + 2) (ix ((um m (a0 + 1) (ix (m a0 0)) v1) a0 0)) v2) a0 0)) v3) (a0 + 4) (ix ((um (um (um m (a0 + 1) (ix (m a0 0)) v1) (a0 + 2) (ix ((um m (a0 + 1) (ix (m a0 0)) v1) a0 0)) v2) (a0 + 3) (ix ((um (um m (a0 + 1) (ix (m a0 0)) v1) (a0 + 2) (ix ((um m (a0 + 1) (ix (m a0 0)) v1) a0 0)) v2) a0 0)) v3) a0 0)) (n32 100)) (a0 + 5) (ix ((um (um (um (um m (a0 + 1) (ix (m a0 0)) v1) (a0 + 2) (ix ((um m (a0 + 1) (ix (m a0 0)) v1) a0 0)) v2) (a0 + 3) (ix ((um (um m (a0 + 1) (ix (m a0 0)) v1) (a0 + 2) (ix ((um m (a0 + 1) (ix (m a0 0)) v1) a0 0)) v2) a0 0)) v3) (a0 + 4) (ix ((um (um (um m (a0 + 1) (ix (m a0 0)) v1) (a0 + 2) (ix ((um m (a0 + 1) (ix (m a0 0)) v1) a0 0)) v2) (a0 + 3) (ix ((um (um m (a0 + 1) (ix (m a0 0)) v1) (a0 + 2) (ix ((um m (a0 + 1) (ix (m a0 0)) v1) a0 0)) v2) a0 0)) v3) a0 0)) (n32 100)) a0 0)) v1) a0 0))) (a0 + 6) (ix ((um (um (um (um (um (um m (a0 + 1) (ix (m a0 0)) v1) (a0 + 2) (ix ((um m (a0 + 1) (ix (m a0 0)) v1) a0 0)) v2) (a0 + 3) (ix ((um (um m (a0 + 1) (ix (m a0 0)) v1) (a0 + 2) (ix ((um m (a0 + 1) (ix (m a0 0)) v1) a0 0)) v2) a0 0)) v3) (a0 + 4) (ix ((um (um (um m (a0 + 1) (ix (m a0 0)) v1) (a0 + 2) (ix ((um m (a0 + 1) (ix (m a0 0)) v1) a0 0)) v2) (a0 + 3) (ix ((um (um m (a0 + 1) (ix (m a0 0)) v1) (a0 + 2) (ix ((um m (a0 + 1) (ix (m a0 0)) v1) a0 0)) v2) a0 0)) v3) a0 0)) (n32 100)) (a0 + 5) (ix ((um (um (um (um m (a0 + 1) (ix (m a0 0)) v1) (a0 + 2) (ix ((um m (a0 + 1) (ix (m a0 0)) v1) a0 0)) v2) (a0 + 3) (ix ((um (um m (a0 + 1) (ix (m a0 0)) v1) (a0 + 2) (ix ((um m (a0 + 1) (ix (m a0 0)) v1) a0 0)) v2) a0 0)) v3) (a0 + 4) (ix ((um (um (um m (a0 + 1) (ix (m a0 0)) v1) (a0 + 2) (ix ((um m (a0 + 1) (ix (m a0 0)) v1) a0 0)) v2) (a0 + 3) (ix ((um (um m (a0 + 1) (ix (m a0 0)) v1) (a0 + 2) (ix ((um m (a0 + 1) (ix (m a0 0)) v1) a0 0)) v2) a0 0)) v3) a0 0)) (n32 100)) a0 0)) v1) (a0 + 6) (ix ((um (um (um (um (um m (a0 + 1) (ix (m a0 0)) v1) (a0 + 2) (ix ((um m (a0 + 1) (ix (m a0 0)) v1) a0 0)) v2) (a0 + 3) (ix ((um (um m (a0 + 1) (ix (m a0 0)) v1) (a0 + 2) (ix ((um m (a0 + 1) (ix (m a0 0)) v1) a0 0)) v2) a0 0)) v3) (a0 + 4) (ix ((um (um (um m (a0 + 1) (ix (m a0 0)) v1) (a0 + 2) (ix ((um m (a0 + 1) (ix (m a0 0)) v1) a0 0)) v2) (a0 + 3) (ix ((um (um m (a0 + 1) (ix (m a0 0)) v1) (a0 + 2) (ix ((um m (a0 + 1) (ix (m a0 0)) v1) a0 0)) v2) a0 0)) v3) a0 0)) (n32 100)) (a0 + 5) (ix ((um (um (um (um m (a0 + 1) (ix (m a0 0)) v1) (a0 + 2) (ix ((um m (a0 + 1) (ix (m a0 0)) v1) a0 0)) v2) (a0 + 3) (ix ((um (um m (a0 + 1) (ix (m a0 0)) v1) (a0 + 2) (ix ((um m (a0 + 1) (ix (m a0 0)) v1) a0 0)) v2) a0 0)) v3) (a0 + 4) (ix ((um (um (um m (a0 + 1) (ix (m a0 0)) v1) (a0 + 2) (ix ((um m (a0 + 1) (ix (m a0 0)) v1) a0 0)) v2) (a0 + 3) (ix ((um (um m (a0 + 1) (ix (m a0 0)) v1) (a0 + 2) (ix ((um m (a0 + 1) (ix (m a0 0)) v1) a0 0)) v2) a0 0)) v3) a0 0)) (n32 100)) a0 0)) v1) a0 0)) (((-v4)) * ((um (um (um (um (um m (a0 + 1) (ix (m a0 0)) v1) (a0 + 2) (ix ((um m (a0 + 1) (ix (m a0 0)) v1) a0 0)) v2) (a0 + 3) (ix ((um (um m (a0 + 1) (ix (m a0 0)) v1) (a0 + 2) (ix ((um m (a0 + 1) (ix (m a0 0)) v1) a0 0)) v2) a0 0)) v3) (a0 + 4) (ix ((um (um (um m (a0 + 1) (ix (m a0 0)) v1) (a0 + 2) (ix ((um m (a0 + 1) (ix (m a0 0)) v1) a0 0)) v2) (a0 + 3) (ix ((um (um m (a0 + 1) (ix (m a0 0)) v1) (a0 + 2) (ix ((um m (a0 + 1) (ix (m a0 0)) v1) a0 0)) v2) a0 0)) v3) a0 0)) (n32 100)) (a0 + 5) (ix ((um (um (um (um m (a0 + 1) (ix (m a0 0)) v1) (a0 + 2) (ix ((um m (a0 + 1) (ix (m a0 0)) v1) a0 0)) v2) (a0 + 3) (ix ((um (um m (a0 + 1) (ix (m a0 0)) v1) (a0 + 2) (ix ((um m (a0 + 1) (ix (m a0 0)) v1) a0 0)) v2) a0 0)) v3) (a0 + 4) (ix ((um (um (um m (a0 + 1) (ix (m a0 0)) v1) (a0 + 2) (ix ((um m (a0 + 1) (ix (m a0 0)) v1) a0 0)) v2) (a0 + 3) (ix ((um (um m (a0 + 1) (ix (m a0 0)) v1) (a0 + 2) (ix ((um m (a0 + 1) (ix (m a0 0)) v1) a0 0)) v2) a0 0)) v3) a0 0)) (n32 100)) a0 0)) v1) a0 0))) a0 0)))) (a0 + 8) (ix ((um (um (um (um (um (um (um m (a0 + 1) (ix (m a0 0)) v1) (a0 + 2) (ix ((um m (a0 + 1) (ix (m a0 0)) v1) a0 0)) v2) (a0 + 3) (ix ((um (um m (a0 + 1) (ix (m a0 0)) v1) (a0 + 2) (ix ((um m (a0 + 1) (ix (m a0 0)) v1) a0 0)) v2) a0 0)) v3) (a0 + 4) (ix ((um (um (um m (a0 + 1) (ix (m a0 0)) v1) (a0 + 2) (ix ((um m (a0 + 1) (ix (m a0 0)) v1) a0 0)) v2) (a0 + 3) (ix ((um (um m (a0 + 1) (ix (m a0 0)) v1) (a0 + 2) (ix ((um m (a0 + 1) (ix (m a0 0)) v1) a0 0)) v2) a0 0)) v3) a0 0)) (n32 100)) (a0 + 5) (ix ((um (um (um (um m (a0 + 1) (ix (m a0 0)) v1) (a0 + 2) (ix ((um m (a0 + 1) (ix (m a0 0)) v1) a0 0)) v2) (a0 + 3) (ix ((um (um m (a0 + 1) (ix (m a0 0)) v1) (a0 + 2) (ix ((um m (a0 + 1) (ix (m a0 0)) v1) a0 0)) v2) a0 0)) v3) (a0 + 4) (ix ((um (um (um m (a0 + 1) (ix (m a0 0)) v1) (a0 + 2) (ix ((um m (a0 + 1) (ix (m a0 0)) v1) a0 0)) v2) (a0 + 3) (ix ((um (um m (a0 + 1) (ix (m a0 0)) v1) (a0 + 2) (ix ((um m (a0 + 1) (ix (m a0 0)) v1) a0 0)) v2) a0 0)) v3) a0 0)) (n32 100)) a0 0)) v1) (a0 + 6) (ix ((um (um (um (um (um m (a0 + 1) (ix (m a0 0)) v1) (a0 + 2) (ix ((um m (a0 + 1) (ix (m a0 0)) v1) a0 0)) v2) (a0 + 3) (ix ((um (um m (a0 + 1) (ix (m a0 0)) v1) (a0 + 2) (ix ((um m (a0 + 1) (ix (m a0 0)) v1) a0 0)) v2) a0 0)) v3) (a0 + 4) (ix ((um (um (um m (a0 + 1) (ix (m a0 0)) v1) (a0 + 2) (ix ((um m (a0 + 1) (ix (m a0 0)) v1) a0 0)) v2) (a0 + 3) (ix ((um (um m (a0 + 1) (ix (m a0 0)) v1) (a0 + 2) (ix ((um m (a0 + 1) (ix (m a0 0)) v1) a0 0)) v2) a0 0)) v3) a0 0)) (n32 100)) (a0 + 5) (ix ((um (um (um (um m (a0 + 1) (ix (m a0 0)) v1) (a0 + 2) (ix ((um m (a0 + 1) (ix (m a0 0)) v1) a0 0)) v2) (a0 + 3) (ix ((um (um m (a0 + 1) (ix (m a0 0)) v1) (a0 + 2) (ix ((um m (a0 + 1) (ix (m a0 0)) v1) a0 0)) v2) a0 0)) v3) (a0 + 4) (ix ((um (um (um m (a0 + 1) (ix (m a0 0)) v1) (a0 + 2) (ix ((um m (a0 + 1) (ix (m a0 0)) v1) a0 0)) v2) (a0 + 3) (ix ((um (um m (a0 + 1) (ix (m a0 0)) v1) (a0 + 2) (ix ((um m (a0 + 1) (ix (m a0 0)) v1) a0 0)) v2) a0 0)) v3) a0 0)) (n32 100)) a0 0)) v1) a0 0)) (((-v4)) * ((um (um (um (um (um m (a0 + 1) (ix (m a0 0)) v1) (a0 + 2) (ix ((um m (a0 + 1) (ix (m a0 0)) v1) a0 0)) v2) (a0 + 3) (ix ((um (um m (a0 + 1) (ix (m a0 0)) v1) (a0 + 2) (ix ((um m (a0 + 1) (ix (m a0 0)) v1) a0 0)) v2) a0 0)) v3) (a0 + 4) (ix ((um (um (um m (a0 + 1) (ix (m a0 0)) v1) (a0 + 2) (ix ((um m (a0 + 1) (ix (m a0 0)) v1) a0 0)) v2) (a0 + 3) (ix ((um (um m (a0 + 1) (ix (m a0 0)) v1) (a0 + 2) (ix ((um m (a0 + 1) (ix (m a0 0)) v1) a0 0)) v2) a0 0)) v3) a0 0)) (n32 100)) (a0 + 5) (ix ((um (um (um (um m (a0 + 1) (ix (m a0 0)) v1) (a0 + 2) (ix ((um m (a0 + 1) (ix (m a0 0)) v1) a0 0)) v2) (a0 + 3) (ix ((um (um m (a0 + 1) (ix (m a0 0)) v1) (a0 + 2) (ix ((um m (a0 + 1) (ix (m a0 0)) v1) a0 0)) v2) a0 0)) v3) (a0 + 4) (ix ((um (um (um m (a0 + 1) (ix (m a0 0)) v1) (a0 + 2) (ix ((um m (a0 + 1) (ix (m a0 0)) v1) a0 0)) v2) (a0 + 3) (ix ((um (um m (a0 + 1) (ix (m a0 0)) v1) (a0 + 2) (ix ((um m (a0 + 1) (ix (m a0 0)) v1) a0 0)) v2) a0 0)) v3) a0 0)) (n32 100)) a0 0)) v1) a0 0))) (a0 + 7) (ix ((um (um (um (um (um (um m (a0 + 1) (ix (m a0 0)) v1) (a0 + 2) (ix ((um m (a0 + 1) (ix (m a0 0)) v1) a0 0)) v2) (a0 + 3) (ix ((um (um m (a0 + 1) (ix (m a0 0)) v1) (a0 + 2) (ix ((um m (a0 + 1) (ix (m a0 0)) v1) a0 0)) v2) a0 0)) v3) (a0 + 4) (ix ((um (um (um m (a0 + 1) (ix (m a0 0)) v1) (a0 + 2) (ix ((um m (a0 + 1) (ix (m a0 0)) v1) a0 0)) v2) (a0 + 3) (ix ((um (um m (a0 + 1) (ix (m a0 0)) v1) (a0 + 2) (ix ((um m (a0 + 1) (ix (m a0 0)) v1) a0 0)) v2) a0 0)) v3) a0 0)) (n32 100)) (a0 + 5) (ix ((um (um (um (um m (a0 + 1) (ix (m a0 0)) v1) (a0 + 2) (ix ((um m (a0 + 1) (ix (m a0 0)) v1) a0 0)) v2) (a0 + 3) (ix ((um (um m (a0 + 1) (ix (m a0 0)) v1) (a0 + 2) (ix ((um m (a0 + 1) (ix (m a0 0)) v1) a0 0)) v2) a0 0)) v3) (a0 + 4) (ix ((um (um (um m (a0 + 1) (ix (m a0 0)) v1) (a0 + 2) (ix ((um m (a0 + 1) (ix (m a0 0)) v1) a0 0)) v2) (a0 + 3) (ix ((um (um m (a0 + 1) (ix (m a0 0)) v1) (a0 + 2) (ix ((um m (a0 + 1) (ix (m a0 0)) v1) a0 0)) v2) a0 0)) v3) a0 0)) (n32 100)) a0 0)) v1) (a0 + 6) (ix ((um (um (um (um (um m (a0 + 1) (ix (m a0 0)) v1) (a0 + 2) (ix ((um m (a0 + 1) (ix (m a0 0)) v1) a0 0)) v2) (a0 + 3) (ix ((um (um m (a0 + 1) (ix (m a0 0)) v1) (a0 + 2) (ix ((um m (a0 + 1) (ix (m a0 0)) v1) a0 0)) v2) a0 0)) v3) (a0 + 4) (ix ((um (um (um m (a0 + 1) (ix (m a0 0)) v1) (a0 + 2) (ix ((um m (a0 + 1) (ix (m a0 0)) v1) a0 0)) v2) (a0 + 3) (ix ((um (um m (a0 + 1) (ix (m a0 0)) v1) (a0 + 2) (ix ((um m (a0 + 1) (ix (m a0 0)) v1) a0 0)) v2) a0 0)) v3) a0 0)) (n32 100)) (a0 + 5) (ix ((um (um (um (um m (a0 + 1) (ix (m a0 0)) v1) (a0 + 2) (ix ((um m (a0 + 1) (ix (m a0 0)) v1) a0 0)) v2) (a0 + 3) (ix ((um (um m (a0 + 1) (ix (m a0 0)) v1) (a0 + 2) (ix ((um m (a0 + 1) (ix (m a0 0)) v1) a0 0)) v2) a0 0)) v3) (a0 + 4) (ix ((um (um (um m (a0 + 1) (ix (m a0 0)) v1) (a0 + 2) (ix ((um m (a0 + 1) (ix (m a0 0)) v1) a0 0)) v2) (a0 + 3) (ix ((um (um m (a0 + 1) (ix (m a0 0)) v1) (a0 + 2) (ix ((um m (a0 + 1) (ix (m a0 0)) v1) a0 0)) v2) a0 0)) v3) a0 0)) (n32 100)) a0 0)) v1) a0 0)) (((-v4)) * ((um (um (um (um (um m (a0 + 1) (ix (m a0 0)) v1) (a0 + 2) (ix ((um m (a0 + 1) (ix (m a0 0)) v1) a0 0)) v2) (a0 + 3) (ix ((um (um m (a0 + 1) (ix (m a0 0)) v1) (a0 + 2) (ix ((um m (a0 + 1) (ix (m a0 0)) v1) a0 0)) v2) a0 0)) v3) (a0 + 4) (ix ((um (um (um m (a0 + 1) (ix (m a0 0)) v1) (a0 + 2) (ix ((um m (a0 + 1) (ix (m a0 0)) v1) a0 0)) v2) (a0 + 3) (ix ((um (um m (a0 + 1) (ix (m a0 0)) v1) (a0 + 2) (ix ((um m (a0 + 1) (ix (m a0 0)) v1) a0 0)) v2) a0 0)) v3) a0 0)) (n32 100)) (a0 + 5) (ix ((um (um (um (um m (a0 + 1) (ix (m a0 0)) v1) (a0 + 2) (ix ((um m (a0 + 1) (ix (m a0 0)) v1) a0 0)) v2) (a0 + 3) (ix ((um (um m (a0 + 1) (ix (m a0 0)) v1) (a0 + 2) (ix ((um m (a0 + 1) (ix (m a0 0)) v1) a0 0)) v2) a0 0)) v3) (a0 + 4) (ix ((um (um (um m (a0 + 1) (ix (m a0 0)) v1) (a0 + 2) (ix ((um m (a0 + 1) (ix (m a0 0)) v1) a0 0)) v2) (a0 + 3) (ix ((um (um m (a0 + 1) (ix (m a0 0)) v1) (a0 + 2) (ix ((um m (a0 + 1) (ix (m a0 0)) v1) a0 0)) v2) a0 0)) v3) a0 0)) (n32 100)) a0 0)) v1) a0 0))) a0 0)) ((um (um (um (um (um (um m (a0 + 1) (ix (m a0 0)) v1) (a0 + 2) (ix ((um m (a0 + 1) (ix (m a0 0)) v1) a0 0)) v2) (a0 + 3) (ix ((um (um m (a0 + 1) (ix (m a0 0)) v1) (a0 + 2) (ix ((um m (a0 + 1) (ix (m a0 0)) v1) a0 0)) v2) a0 0)) v3) (a0 + 4) (ix ((um (um (um m (a0 + 1) (ix (m a0 0)) v1) (a0 + 2) (ix ((um m (a0 + 1) (ix (m a0 0)) v1) a0 0)) v2) (a0 + 3) (ix ((um (um m (a0 + 1) (ix (m a0 0)) v1) (a0 + 2) (ix ((um m (a0 + 1) (ix (m a0 0)) v1) a0 0)) v2) a0 0)) v3) a0 0)) (n32 100)) (a0 + 5) (ix ((um (um (um (um m (a0 + 1) (ix (m a0 0)) v1) (a0 + 2) (ix ((um m (a0 + 1) (ix (m a0 0)) v1) a0 0)) v2) (a0 + 3) (ix ((um (um m (a0 + 1) (ix (m a0 0)) v1) (a0 + 2) (ix ((um m (a0 + 1) (ix (m a0 0)) v1) a0 0)) v2) a0 0)) v3) (a0 + 4) (ix ((um (um (um m (a0 + 1) (ix (m a0 0)) v1) (a0 + 2) (ix ((um m (a0 + 1) (ix (m a0 0)) v1) a0 0)) v2) (a0 + 3) (ix ((um (um m (a0 + 1) (ix (m a0 0)) v1) (a0 + 2) (ix ((um m (a0 + 1) (ix (m a0 0)) v1) a0 0)) v2) a0 0)) v3) a0 0)) (n32 100)) a0 0)) v1) (a0 + 6) (ix ((um (um (um (um (um m (a0 + 1) (ix (m a0 0)) v1) (a0 + 2) (ix ((um m (a0 + 1) (ix (m a0 0)) v1) a0 0)) v2) (a0 + 3) (ix ((um (um m (a0 + 1) (ix (m a0 0)) v1) (a0 + 2) (ix ((um m (a0 + 1) (ix (m a0 0)) v1) a0 0)) v2) a0 0)) v3) (a0 + 4) (ix ((um (um (um m (a0 + 1) (ix (m a0 0)) v1) (a0 + 2) (ix ((um m (a0 + 1) (ix (m a0 0)) v1) a0 0)) v2) (a0 + 3) (ix ((um (um m (a0 + 1) (ix (m a0 0)) v1) (a0 + 2) (ix ((um m (a0 + 1) (ix (m a0 0)) v1) a0 0)) v2) a0 0)) v3) a0 0)) (n32 100)) (a0 + 5) (ix ((um (um (um (um m (a0 + 1) (ix (m a0 0)) v1) (a0 + 2) (ix ((um m (a0 + 1) (ix (m a0 0)) v1) a0 0)) v2) (a0 + 3) (ix ((um (um m (a0 + 1) (ix (m a0 0)) v1) (a0 + 2) (ix ((um m (a0 + 1) (ix (m a0 0)) v1) a0 0)) v2) a0 0)) v3) (a0 + 4) (ix ((um (um (um m (a0 + 1) (ix (m a0 0)) v1) (a0 + 2) (ix ((um m (a0 + 1) (ix (m a0 0)) v1) a0 0)) v2) (a0 + 3) (ix ((um (um m (a0 + 1) (ix (m a0 0)) v1) (a0 + 2) (ix ((um m (a0 + 1) (ix (m a0 0)) v1) a0 0)) v2) a0 0)) v3) a0 0)) (n32 100)) a0 0)) v1) a0 0)) (((-v4)) * ((um (um (um (um (um m (a0 + 1) (ix (m a0 0)) v1) (a0 + 2) (ix ((um m (a0 + 1) (ix (m a0 0)) v1) a0 0)) v2) (a0 + 3) (ix ((um (um m (a0 + 1) (ix (m a0 0)) v1) (a0 + 2) (ix ((um m (a0 + 1) (ix (m a0 0)) v1) a0 0)) v2) a0 0)) v3) (a0 + 4) (ix ((um (um (um m (a0 + 1) (ix (m a0 0)) v1) (a0 + 2) (ix ((um m (a0 + 1) (ix (m a0 0)) v1) a0 0)) v2) (a0 + 3) (ix ((um (um m (a0 + 1) (ix (m a0 0)) v1) (a0 + 2) (ix ((um m (a0 + 1) (ix (m a0 0)) v1) a0 0)) v2) a0 0)) v3) a0 0)) (n32 100)) (a0 + 5) (ix ((um (um (um (um m (a0 + 1) (ix (m a0 0)) v1) (a0 + 2) (ix ((um m (a0 + 1) (ix (m a0 0)) v1) a0 0)) v2) (a0 + 3) (ix ((um (um m (a0 + 1) (ix (m a0 0)) v1) (a0 + 2) (ix ((um m (a0 + 1) (ix (m a0 0)) v1) a0 0)) v2) a0 0)) v3) (a0 + 4) (ix ((um (um (um m (a0 + 1) (ix (m a0 0)) v1) (a0 + 2) (ix ((um m (a0 + 1) (ix (m a0 0)) v1) a0 0)) v2) (a0 + 3) (ix ((um (um m (a0 + 1) (ix (m a0 0)) v1) (a0 + 2) (ix ((um m (a0 + 1) (ix (m a0 0)) v1) a0 0)) v2) a0 0)) v3) a0 0)) (n32 100)) a0 0)) v1) a0 0))) (a0 + 6) (ix ((um (um (um (um (um (um m (a0 + 1) (ix (m a0 0)) v1) (a0 + 2) (ix ((um m (a0 + 1) (ix (m a0 0)) v1) a0 0)) v2) (a0 + 3) (ix ((um (um m (a0 + 1) (ix (m a0 0)) v1) (a0 + 2) (ix ((um m (a0 + 1) (ix (m a0 0)) v1) a0 0)) v2) a0 0)) v3) (a0 + 4) (ix ((um (um (um m (a0 + 1) (ix (m a0 0)) v1) (a0 + 2) (ix ((um m (a0 + 1) (ix (m a0 0)) v1) a0 0)) v2) (a0 + 3) (ix ((um (um m (a0 + 1) (ix (m a0 0)) v1) (a0 + 2) (ix ((um m (a0 + 1) (ix (m a0 0)) v1) a0 0)) v2) a0 0)) v3) a0 0)) (n32 100)) (a0 + 5) (ix ((um (um (um (um m (a0 + 1) (ix (m a0 0)) v1) (a0 + 2) (ix ((um m (a0 + 1) (ix (m a0 0)) v1) a0 0)) v2) (a0 + 3) (ix ((um (um m (a0 + 1) (ix (m a0 0)) v1) (a0 + 2) (ix ((um m (a0 + 1) (ix (m a0 0)) v1) a0 0)) v2) a0 0)) v3) (a0 + 4) (ix ((um (um (um m (a0 + 1) (ix (m a0 0)) v1) (a0 + 2) (ix ((um m (a0 + 1) (ix (m a0 0)) v1) a0 0)) v2) (a0 + 3) (ix ((um (um m (a0 + 1) (ix (m a0 0)) v1) (a0 + 2) (ix ((um m (a0 + 1) (ix (m a0 0)) v1) a0 0)) v2) a0 0)) v3) a0 0)) (n32 100)) a0 0)) v1) (a0 + 6) (ix ((um (um (um (um (um m (a0 + 1) (ix (m a0 0)) v1) (a0 + 2) (ix ((um m (a0 + 1) (ix (m a0 0)) v1) a0 0)) v2) (a0 + 3) (ix ((um (um m (a0 + 1) (ix (m a0 0)) v1) (a0 + 2) (ix ((um m (a0 + 1) (ix (m a0 0)) v1) a0 0)) v2) a0 0)) v3) (a0 + 4) (ix ((um (um (um m (a0 + 1) (ix (m a0 0)) v1) (a0 + 2) (ix ((um m (a0 + 1) (ix (m a0 0)) v1) a0 0)) v2) (a0 + 3) (ix ((um (um m (a0 + 1) (ix (m a0 0)) v1) (a0 + 2) (ix ((um m (a0 + 1) (ix (m a0 0)) v1) a0 0)) v2) a0 0)) v3) a0 0)) (n32 100)) (a0 + 5) (ix ((um (um (um (um m (a0 + 1) (ix (m a0 0)) v1) (a0 + 2) (ix ((um m (a0 + 1) (ix (m a0 0)) v1) a0 0)) v2) (a0 + 3) (ix ((um (um m (a0 + 1) (ix (m a0 0)) v1) (a0 + 2) (ix ((um m (a0 + 1) (ix (m a0 0)) v1) a0 0)) v2) a0 0)) v3) (a0 + 4) (ix ((um (um (um m (a0 + 1) (ix (m a0 0)) v1) (a0 + 2) (ix ((um m (a0 + 1) (ix (m a0 0)) v1) a0 0)) v2) (a0 + 3) (ix ((um (um m (a0 + 1) (ix (m a0 0)) v1) (a0 + 2) (ix ((um m (a0 + 1) (ix (m a0 0)) v1) a0 0)) v2) a0 0)) v3) a0 0)) (n32 100)) a0 0)) v1) a0 0)) (((-v4)) * ((um (um (um (um (um m (a0 + 1) (ix (m a0 0)) v1) (a0 + 2) (ix ((um m (a0 + 1) (ix (m a0 0)) v1) a0 0)) v2) (a0 + 3) (ix ((um (um m (a0 + 1) (ix (m a0 0)) v1) (a0 + 2) (ix ((um m (a0 + 1) (ix (m a0 0)) v1) a0 0)) v2) a0 0)) v3) (a0 + 4) (ix ((um (um (um m (a0 + 1) (ix (m a0 0)) v1) (a0 + 2) (ix ((um m (a0 + 1) (ix (m a0 0)) v1) a0 0)) v2) (a0 + 3) (ix ((um (um m (a0 + 1) (ix (m a0 0)) v1) (a0 + 2) (ix ((um m (a0 + 1) (ix (m a0 0)) v1) a0 0)) v2) a0 0)) v3) a0 0)) (n32 100)) (a0 + 5) (ix ((um (um (um (um m (a0 + 1) (ix (m a0 0)) v1) (a0 + 2) (ix ((um m (a0 + 1) (ix (m a0 0)) v1) a0 0)) v2) (a0 + 3) (ix ((um (um m (a0 + 1) (ix (m a0 0)) v1) (a0 + 2) (ix ((um m (a0 + 1) (ix (m a0 0)) v1) a0 0)) v2) a0 0)) v3) (a0 + 4) (ix ((um (um (um m (a0 + 1) (ix (m a0 0)) v1) (a0 + 2) (ix ((um m (a0 + 1) (ix (m a0 0)) v1) a0 0)) v2) (a0 + 3) (ix ((um (um m (a0 + 1) (ix (m a0 0)) v1) (a0 + 2) (ix ((um m (a0 + 1) (ix (m a0 0)) v1) a0 0)) v2) a0 0)) v3) a0 0)) (n32 100)) a0 0)) v1) a0 0))) a0 0)))) a0 0)) (n32 0)) (a0) 0 (((um (um (um (um (um (um (um (um m (a0 + 1) (ix (m a0 0)) v1) (a0 + 2) (ix ((um m (a0 + 1) (ix (m a0 0)) v1) a0 0)) v2) (a0 + 3) (ix ((um (um m (a0 + 1) (ix (m a0 0)) v1) (a0 + 2) (ix ((um m (a0 + 1) (ix (m a0 0)) v1) a0 0)) v2) a0 0)) v3) (a0 + 4) (ix ((um (um (um m (a0 + 1) (ix (m a0 0)) v1) (a0 + 2) (ix ((um m (a0 + 1) (ix (m a0 0)) v1) a0 0)) v2) (a0 + 3) (ix ((um (um m (a0 + 1) (ix (m a0 0)) v1) (a0 + 2) (ix ((um m (a0 + 1) (ix (m a0 0)) v1) a0 0)) v2) a0 0)) v3) a0 0)) (n32 100)) (a0 + 5) (ix ((um (um (um (um m (a0 + 1) (ix (m a0 0)) v1) (a0 + 2) (ix ((um m (a0 + 1) (ix (m a0 0)) v1) a0 0)) v2) (a0 + 3) (ix ((um (um m (a0 + 1) (ix (m a0 0)) v1) (a0 + 2) (ix ((um m (a0 + 1) (ix (m a0 0)) v1) a0 0)) v2) a0 0)) v3) (a0 + 4) (ix ((um (um (um m (a0 + 1) (ix (m a0 0)) v1) (a0 + 2) (ix ((um m (a0 + 1) (ix (m a0 0)) v1) a0 0)) v2) (a0 + 3) (ix ((um (um m (a0 + 1) (ix (m a0 0)) v1) (a0 + 2) (ix ((um m (a0 + 1) (ix (m a0 0)) v1) a0 0)) v2) a0 0)) v3) a0 0)) (n32 100)) a0 0)) v1) (a0 + 6) (ix ((um (um (um (um (um m (a0 + 1) (ix (m a0 0)) v1) (a0 + 2) (ix ((um m (a0 + 1) (ix (m a0 0)) v1) a0 0)) v2) (a0 + 3) (ix ((um (um m (a0 + 1) (ix (m a0 0)) v1) (a0 + 2) (ix ((um m (a0 + 1) (ix (m a0 0)) v1) a0 0)) v2) a0 0)) v3) (a0 + 4) (ix ((um (um (um m (a0 + 1) (ix (m a0 0)) v1) (a0 + 2) (ix ((um m (a0 + 1) (ix (m a0 0)) v1) a0 0)) v2) (a0 + 3) (ix ((um (um m (a0 + 1) (ix (m a0 0)) v1) (a0 + 2) (ix ((um m (a0 + 1) (ix (m a0 0)) v1) a0 0)) v2) a0 0)) v3) a0 0)) (n32 100)) (a0 + 5) (ix ((um (um (um (um m (a0 + 1) (ix (m a0 0)) v1) (a0 + 2) (ix ((um m (a0 + 1) (ix (m a0 0)) v1) a0 0)) v2) (a0 + 3) (ix ((um (um m (a0 + 1) (ix (m a0 0)) v1) (a0 + 2) (ix ((um m (a0 + 1) (ix (m a0 0)) v1) a0 0)) v2) a0 0)) v3) (a0 + 4) (ix ((um (um (um m (a0 + 1) (ix (m a0 0)) v1) (a0 + 2) (ix ((um m (a0 + 1) (ix (m a0 0)) v1) a0 0)) v2) (a0 + 3) (ix ((um (um m (a0 + 1) (ix (m a0 0)) v1) (a0 + 2) (ix ((um m (a0 + 1) (ix (m a0 0)) v1) a0 0)) v2) a0 0)) v3) a0 0)) (n32 100)) a0 0)) v1) a0 0)) (((-v4)) * ((um (um (um (um (um m (a0 + 1) (ix (m a0 0)) v1) (a0 + 2) (ix ((um m (a0 + 1) (ix (m a0 0)) v1) a0 0)) v2) (a0 + 3) (ix ((um (um m (a0 + 1) (ix (m a0 0)) v1) (a0 + 2) (ix ((um m (a0 + 1) (ix (m a0 0)) v1) a0 0)) v2) a0 0)) v3) (a0 + 4) (ix ((um (um (um m (a0 + 1) (ix (m a0 0)) v1) (a0 + 2) (ix ((um m (a0 + 1) (ix (m a0 0)) v1) a0 0)) v2) (a0 + 3) (ix ((um (um m (a0 + 1) (ix (m a0 0)) v1) (a0 + 2) (ix ((um m (a0 + 1) (ix (m a0 0)) v1) a0 0)) v2) a0 0)) v3) a0 0)) (n32 100)) (a0 + 5) (ix ((um (um (um (um m (a0 + 1) (ix (m a0 0)) v1) (a0 + 2) (ix ((um m (a0 + 1) (ix (m a0 0)) v1) a0 0)) v2) (a0 + 3) (ix ((um (um m (a0 + 1) (ix (m a0 0)) v1) (a0 + 2) (ix ((um m (a0 + 1) (ix (m a0 0)) v1) a0 0)) v2) a0 0)) v3) (a0 + 4) (ix ((um (um (um m (a0 + 1) (ix (m a0 0)) v1) (a0 + 2) (ix ((um m (a0 + 1) (ix (m a0 0)) v1) a0 0)) v2) (a0 + 3) (ix ((um (um m (a0 + 1) (ix (m a0 0)) v1) (a0 + 2) (ix ((um m (a0 + 1) (ix (m a0 0)) v1) a0 0)) v2) a0 0)) v3) a0 0)) (n32 100)) a0 0)) v1) a0 0))) (a0 + 7) (ix ((um (um (um (um (um (um m (a0 + 1) (ix (m a0 0)) v1) (a0 + 2) (ix ((um m (a0 + 1) (ix (m a0 0)) v1) a0 0)) v2) (a0 + 3) (ix ((um (um m (a0 + 1) (ix (m a0 0)) v1) (a0 + 2) (ix ((um m (a0 + 1) (ix (m a0 0)) v1) a0 0)) v2) a0 0)) v3) (a0 + 4) (ix ((um (um (um m (a0 + 1) (ix (m a0 0)) v1) (a0 + 2) (ix ((um m (a0 + 1) (ix (m a0 0)) v1) a0 0)) v2) (a0 + 3) (ix ((um (um m (a0 + 1) (ix (m a0 0)) v1) (a0 + 2) (ix ((um m (a0 + 1) (ix (m a0 0)) v1) a0 0)) v2) a0 0)) v3) a0 0)) (n32 100)) (a0 + 5) (ix ((um (um (um (um m (a0 + 1) (ix (m a0 0)) v1) (a0 + 2) (ix ((um m (a0 + 1) (ix (m a0 0)) v1) a0 0)) v2) (a0 + 3) (ix ((um (um m (a0 + 1) (ix (m a0 0)) v1) (a0 + 2) (ix ((um m (a0 + 1) (ix (m a0 0)) v1) a0 0)) v2) a0 0)) v3) (a0 + 4) (ix ((um (um (um m (a0 + 1) (ix (m a0 0)) v1) (a0 + 2) (ix ((um m (a0 + 1) (ix (m a0 0)) v1) a0 0)) v2) (a0 + 3) (ix ((um (um m (a0 + 1) (ix (m a0 0)) v1) (a0 + 2) (ix ((um m (a0 + 1) (ix (m a0 0)) v1) a0 0)) v2) a0 0)) v3) a0 0)) (n32 100)) a0 0)) v1) (a0 + 6) (ix ((um (um (um (um (um m (a0 + 1) (ix (m a0 0)) v1) (a0 + 2) (ix ((um m (a0 + 1) (ix (m a0 0)) v1) a0 0)) v2) (a0 + 3) (ix ((um (um m (a0 + 1) (ix (m a0 0)) v1) (a0 + 2) (ix ((um m (a0 + 1) (ix (m a0 0)) v1) a0 0)) v2) a0 0)) v3) (a0 + 4) (ix ((um (um (um m (a0 + 1) (ix (m a0 0)) v1) (a0 + 2) (ix ((um m (a0 + 1) (ix (m a0 0)) v1) a0 0)) v2) (a0 + 3) (ix ((um (um m (a0 + 1) (ix (m a0 0)) v1) (a0 + 2) (ix ((um m (a0 + 1) (ix (m a0 0)) v1) a0 0)) v2) a0 0)) v3) a0 0)) (n32 100)) (a0 + 5) (ix ((um (um (um (um m (a0 + 1) (ix (m a0 0)) v1) (a0 + 2) (ix ((um m (a0 + 1) (ix (m a0 0)) v1) a0 0)) v2) (a0 + 3) (ix ((um (um m (a0 + 1) (ix (m a0 0)) v1) (a0 + 2) (ix ((um m (a0 + 1) (ix (m a0 0)) v1) a0 0)) v2) a0 0)) v3) (a0 + 4) (ix ((um (um (um m (a0 + 1) (ix (m a0 0)) v1) (a0 + 2) (ix ((um m (a0 + 1) (ix (m a0 0)) v1) a0 0)) v2) (a0 + 3) (ix ((um (um m (a0 + 1) (ix (m a0 0)) v1) (a0 + 2) (ix ((um m (a0 + 1) (ix (m a0 0)) v1) a0 0)) v2) a0 0)) v3) a0 0)) (n32 100)) a0 0)) v1) a0 0)) (((-v4)) * ((um (um (um (um (um m (a0 + 1) (ix (m a0 0)) v1) (a0 + 2) (ix ((um m (a0 + 1) (ix (m a0 0)) v1) a0 0)) v2) (a0 + 3) (ix ((um (um m (a0 + 1) (ix (m a0 0)) v1) (a0 + 2) (ix ((um m (a0 + 1) (ix (m a0 0)) v1) a0 0)) v2) a0 0)) v3) (a0 + 4) (ix ((um (um (um m (a0 + 1) (ix (m a0 0)) v1) (a0 + 2) (ix ((um m (a0 + 1) (ix (m a0 0)) v1) a0 0)) v2) (a0 + 3) (ix ((um (um m (a0 + 1) (ix (m a0 0)) v1) (a0 + 2) (ix ((um m (a0 + 1) (ix (m a0 0)) v1) a0 0)) v2) a0 0)) v3) a0 0)) (n32 100)) (a0 + 5) (ix ((um (um (um (um m (a0 + 1) (ix (m a0 0)) v1) (a0 + 2) (ix ((um m (a0 + 1) (ix (m a0 0)) v1) a0 0)) v2) (a0 + 3) (ix ((um (um m (a0 + 1) (ix (m a0 0)) v1) (a0 + 2) (ix ((um m (a0 + 1) (ix (m a0 0)) v1) a0 0)) v2) a0 0)) v3) (a0 + 4) (ix ((um (um (um m (a0 + 1) (ix (m a0 0)) v1) (a0 + 2) (ix ((um m (a0 + 1) (ix (m a0 0)) v1) a0 0)) v2) (a0 + 3) (ix ((um (um m (a0 + 1) (ix (m a0 0)) v1) (a0 + 2) (ix ((um m (a0 + 1) (ix (m a0 0)) v1) a0 0)) v2) a0 0)) v3) a0 0)) (n32 100)) a0 0)) v1) a0 0))) a0 0)) ((um (um (um (um (um (um m (a0 + 1) (ix (m a0 0)) v1) (a0 + 2) (ix ((um m (a0 + 1) (ix (m a0 0)) v1) a0 0)) v2) (a0 + 3) (ix ((um (um m (a0 + 1) (ix (m a0 0)) v1) (a0 + 2) (ix ((um m (a0 + 1) (ix (m a0 0)) v1) a0 0)) v2) a0 0)) v3) (a0 + 4) (ix ((um (um (um m (a0 + 1) (ix (m a0 0)) v1) (a0 + 2) (ix ((um m (a0 + 1) (ix (m a0 0)) v1) a0 0)) v2) (a0 + 3) (ix ((um (um m (a0 + 1) (ix (m a0 0)) v1) (a0 + 2) (ix ((um m (a0 + 1) (ix (m a0 0)) v1) a0 0)) v2) a0 0)) v3) a0 0)) (n32 100)) (a0 + 5) (ix ((um (um (um (um m (a0 + 1) (ix (m a0 0)) v1) (a0 + 2) (ix ((um m (a0 + 1) (ix (m a0 0)) v1) a0 0)) v2) (a0 + 3) (ix ((um (um m (a0 + 1) (ix (m a0 0)) v1) (a0 + 2) (ix ((um m (a0 + 1) (ix (m a0 0)) v1) a0 0)) v2) a0 0)) v3) (a0 + 4) (ix ((um (um (um m (a0 + 1) (ix (m a0 0)) v1) (a0 + 2) (ix ((um m (a0 + 1) (ix (m a0 0)) v1) a0 0)) v2) (a0 + 3) (ix ((um (um m (a0 + 1) (ix (m a0 0)) v1) (a0 + 2) (ix ((um m (a0 + 1) (ix (m a0 0)) v1) a0 0)) v2) a0 0)) v3) a0 0)) (n32 100)) a0 0)) v1) (a0 + 6) (ix ((um (um (um (um (um m (a0 + 1) (ix (m a0 0)) v1) (a0 + 2) (ix ((um m (a0 + 1) (ix (m a0 0)) v1) a0 0)) v2) (a0 + 3) (ix ((um (um m (a0 + 1) (ix (m a0 0)) v1) (a0 + 2) (ix ((um m (a0 + 1) (ix (m a0 0)) v1) a0 0)) v2) a0 0)) v3) (a0 + 4) (ix ((um (um (um m (a0 + 1) (ix (m a0 0)) v1) (a0 + 2) (ix ((um m (a0 + 1) (ix (m a0 0)) v1) a0 0)) v2) (a0 + 3) (ix ((um (um m (a0 + 1) (ix (m a0 0)) v1) (a0 + 2) (ix ((um m (a0 + 1) (ix (m a0 0)) v1) a0 0)) v2) a0 0)) v3) a0 0)) (n32 100)) (a0 + 5) (ix ((um (um (um (um m (a0 + 1) (ix (m a0 0)) v1) (a0 + 2) (ix ((um m (a0 + 1) (ix (m a0 0)) v1) a0 0)) v2) (a0 + 3) (ix ((um (um m (a0 + 1) (ix (m a0 0)) v1) (a0 + 2) (ix ((um m (a0 + 1) (ix (m a0 0)) v1) a0 0)) v2) a0 0)) v3) (a0 + 4) (ix ((um (um (um m (a0 + 1) (ix (m a0 0)) v1) (a0 + 2) (ix ((um m (a0 + 1) (ix (m a0 0)) v1) a0 0)) v2) (a0 + 3) (ix ((um (um m (a0 + 1) (ix (m a0 0)) v1) (a0 + 2) (ix ((um m (a0 + 1) (ix (m a0 0)) v1) a0 0)) v2) a0 0)) v3) a0 0)) (n32 100)) a0 0)) v1) a0 0)) (((-v4)) * ((um (um (um (um (um m (a0 + 1) (ix (m a0 0)) v1) (a0 + 2) (ix ((um m (a0 + 1) (ix (m a0 0)) v1) a0 0)) v2) (a0 + 3) (ix ((um (um m (a0 + 1) (ix (m a0 0)) v1) (a0 + 2) (ix ((um m (a0 + 1) (ix (m a0 0)) v1) a0 0)) v2) a0 0)) v3) (a0 + 4) (ix ((um (um (um m (a0 + 1) (ix (m a0 0)) v1) (a0 + 2) (ix ((um m (a0 + 1) (ix (m a0 0)) v1) a0 0)) v2) (a0 + 3) (ix ((um (um m (a0 + 1) (ix (m a0 0)) v1) (a0 + 2) (ix ((um m (a0 + 1) (ix (m a0 0)) v1) a0 0)) v2) a0 0)) v3) a0 0)) (n32 100)) (a0 + 5) (ix ((um (um (um (um m (a0 + 1) (ix (m a0 0)) v1) (a0 + 2) (ix ((um m (a0 + 1) (ix (m a0 0)) v1) a0 0)) v2) (a0 + 3) (ix ((um (um m (a0 + 1) (ix (m a0 0)) v1) (a0 + 2) (ix ((um m (a0 + 1) (ix (m a0 0)) v1) a0 0)) v2) a0 0)) v3) (a0 + 4) (ix ((um (um (um m (a0 + 1) (ix (m a0 0)) v1) (a0 + 2) (ix ((um m (a0 + 1) (ix (m a0 0)) v1) a0 0)) v2) (a0 + 3) (ix ((um (um m (a0 + 1) (ix (m a0 0)) v1) (a0 + 2) (ix ((um m (a0 + 1) (ix (m a0 0)) v1) a0 0)) v2) a0 0)) v3) a0 0)) (n32 100)) a0 0)) v1) a0 0))) (a0 + 6) (ix ((um (um (um (um (um (um m (a0 + 1) (ix (m a0 0)) v1) (a0 + 2) (ix ((um m (a0 + 1) (ix (m a0 0)) v1) a0 0)) v2) (a0 + 3) (ix ((um (um m (a0 + 1) (ix (m a0 0)) v1) (a0 + 2) (ix ((um m (a0 + 1) (ix (m a0 0)) v1) a0 0)) v2) a0 0)) v3) (a0 + 4) (ix ((um (um (um m (a0 + 1) (ix (m a0 0)) v1) (a0 + 2) (ix ((um m (a0 + 1) (ix (m a0 0)) v1) a0 0)) v2) (a0 + 3) (ix ((um (um m (a0 + 1) (ix (m a0 0)) v1) (a0 + 2) (ix ((um m (a0 + 1) (ix (m a0 0)) v1) a0 0)) v2) a0 0)) v3) a0 0)) (n32 100)) (a0 + 5) (ix ((um (um (um (um m (a0 + 1) (ix (m a0 0)) v1) (a0 + 2) (ix ((um m (a0 + 1) (ix (m a0 0)) v1) a0 0)) v2) (a0 + 3) (ix ((um (um m (a0 + 1) (ix (m a0 0)) v1) (a0 + 2) (ix ((um m (a0 + 1) (ix (m a0 0)) v1) a0 0)) v2) a0 0)) v3) (a0 + 4) (ix ((um (um (um m (a0 + 1) (ix (m a0 0)) v1) (a0 + 2) (ix ((um m (a0 + 1) (ix (m a0 0)) v1) a0 0)) v2) (a0 + 3) (ix ((um (um m (a0 + 1) (ix (m a0 0)) v1) (a0 + 2) (ix ((um m (a0 + 1) (ix (m a0 0)) v1) a0 0)) v2) a0 0)) v3) a0 0)) (n32 100)) a0 0)) v1) (a0 + 6) (ix ((um (um (um (um (um m (a0 + 1) (ix (m a0 0)) v1) (a0 + 2) (ix ((um m (a0 + 1) (ix (m a0 0)) v1) a0 0)) v2) (a0 + 3) (ix ((um (um m (a0 + 1) (ix (m a0 0)) v1) (a0 + 2) (ix ((um m (a0 + 1) (ix (m a0 0)) v1) a0 0)) v2) a0 0)) v3) (a0 + 4) (ix ((um (um (um m (a0 + 1) (ix (m a0 0)) v1) (a0 + 2) (ix ((um m (a0 + 1) (ix (m a0 0)) v1) a0 0)) v2) (a0 + 3) (ix ((um (um m (a0 + 1) (ix (m a0 0)) v1) (a0 + 2) (ix ((um m (a0 + 1) (ix (m a0 0)) v1) a0 0)) v2) a0 0)) v3) a0 0)) (n32 100)) (a0 + 5) (ix ((um (um (um (um m (a0 + 1) (ix (m a0 0)) v1) (a0 + 2) (ix ((um m (a0 + 1) (ix (m a0 0)) v1) a0 0)) v2) (a0 + 3) (ix ((um (um m (a0 + 1) (ix (m a0 0)) v1) (a0 + 2) (ix ((um m (a0 + 1) (ix (m a0 0)) v1) a0 0)) v2) a0 0)) v3) (a0 + 4) (ix ((um (um (um m (a0 + 1) (ix (m a0 0)) v1) (a0 + 2) (ix ((um m (a0 + 1) (ix (m a0 0)) v1) a0 0)) v2) (a0 + 3) (ix ((um (um m (a0 + 1) (ix (m a0 0)) v1) (a0 + 2) (ix ((um m (a0 + 1) (ix (m a0 0)) v1) a0 0)) v2) a0 0)) v3) a0 0)) (n32 100)) a0 0)) v1) a0 0)) (((-v4)) * ((um (um (um (um (um m (a0 + 1) (ix (m a0 0)) v1) (a0 + 2) (ix ((um m (a0 + 1) (ix (m a0 0)) v1) a0 0)) v2) (a0 + 3) (ix ((um (um m (a0 + 1) (ix (m a0 0)) v1) (a0 + 2) (ix ((um m (a0 + 1) (ix (m a0 0)) v1) a0 0)) v2) a0 0)) v3) (a0 + 4) (ix ((um (um (um m (a0 + 1) (ix (m a0 0)) v1) (a0 + 2) (ix ((um m (a0 + 1) (ix (m a0 0)) v1) a0 0)) v2) (a0 + 3) (ix ((um (um m (a0 + 1) (ix (m a0 0)) v1) (a0 + 2) (ix ((um m (a0 + 1) (ix (m a0 0)) v1) a0 0)) v2) a0 0)) v3) a0 0)) (n32 100)) (a0 + 5) (ix ((um (um (um (um m (a0 + 1) (ix (m a0 0)) v1) (a0 + 2) (ix ((um m (a0 + 1) (ix (m a0 0)) v1) a0 0)) v2) (a0 + 3) (ix ((um (um m (a0 + 1) (ix (m a0 0)) v1) (a0 + 2) (ix ((um m (a0 + 1) (ix (m a0 0)) v1) a0 0)) v2) a0 0)) v3) (a0 + 4) (ix ((um (um (um m (a0 + 1) (ix (m a0 0)) v1) (a0 + 2) (ix ((um m (a0 + 1) (ix (m a0 0)) v1) a0 0)) v2) (a0 + 3) (ix ((um (um m (a0 + 1) (ix (m a0 0)) v1) (a0 + 2) (ix ((um m (a0 + 1) (ix (m a0 0)) v1) a0 0)) v2) a0 0)) v3) a0 0)) (n32 100)) a0 0)) v1) a0 0))) a0 0)))) (a0 + 8) (ix ((um (um (um (um (um (um (um m (a0 + 1) (ix (m a0 0)) v1) (a0 + 2) (ix ((um m (a0 + 1) (ix (m a0 0)) v1) a0 0)) v2) (a0 + 3) (ix ((um (um m (a0 + 1) (ix (m a0 0)) v1) (a0 + 2) (ix ((um m (a0 + 1) (ix (m a0 0)) v1) a0 0)) v2) a0 0)) v3) (a0 + 4) (ix ((um (um (um m (a0 + 1) (ix (m a0 0)) v1) (a0 + 2) (ix ((um m (a0 + 1) (ix (m a0 0)) v1) a0 0)) v2) (a0 + 3) (ix ((um (um m (a0 + 1) (ix (m a0 0)) v1) (a0 + 2) (ix ((um m (a0 + 1) (ix (m a0 0)) v1) a0 0)) v2) a0 0)) v3) a0 0)) (n32 100)) (a0 + 5) (ix ((um (um (um (um m (a0 + 1) (ix (m a0 0)) v1) (a0 + 2) (ix ((um m (a0 + 1) (ix (m a0 0)) v1) a0 0)) v2) (a0 + 3) (ix ((um (um m (a0 + 1) (ix (m a0 0)) v1) (a0 + 2) (ix ((um m (a0 + 1) (ix (m a0 0)) v1) a0 0)) v2) a0 0)) v3) (a0 + 4) (ix ((um (um (um m (a0 + 1) (ix (m a0 0)) v1) (a0 + 2) (ix ((um m (a0 + 1) (ix (m a0 0)) v1) a0 0)) v2) (a0 + 3) (ix ((um (um m (a0 + 1) (ix (m a0 0)) v1) (a0 + 2) (ix ((um m (a0 + 1) (ix (m a0 0)) v1) a0 0)) v2) a0 0)) v3) a0 0)) (n32 100)) a0 0)) v1) (a0 + 6) (ix ((um (um (um (um (um m (a0 + 1) (ix (m a0 0)) v1) (a0 + 2) (ix ((um m (a0 + 1) (ix (m a0 0)) v1) a0 0)) v2) (a0 + 3) (ix ((um (um m (a0 + 1) (ix (m a0 0)) v1) (a0 + 2) (ix ((um m (a0 + 1) (ix (m a0 0)) v1) a0 0)) v2) a0 0)) v3) (a0 + 4) (ix ((um (um (um m (a0 + 1) (ix (m a0 0)) v1) (a0 + 2) (ix ((um m (a0 + 1) (ix (m a0 0)) v1) a0 0)) v2) (a0 + 3) (ix ((um (um m (a0 + 1) (ix (m a0 0)) v1) (a0 + 2) (ix ((um m (a0 + 1) (ix (m a0 0)) v1) a0 0)) v2) a0 0)) v3) a0 0)) (n32 100)) (a0 + 5) (ix ((um (um (um (um m (a0 + 1) (ix (m a0 0)) v1) (a0 + 2) (ix ((um m (a0 + 1) (ix (m a0 0)) v1) a0 0)) v2) (a0 + 3) (ix ((um (um m (a0 + 1) (ix (m a0 0)) v1) (a0 + 2) (ix ((um m (a0 + 1) (ix (m a0 0)) v1) a0 0)) v2) a0 0)) v3) (a0 + 4) (ix ((um (um (um m (a0 + 1) (ix (m a0 0)) v1) (a0 + 2) (ix ((um m (a0 + 1) (ix (m a0 0)) v1) a0 0)) v2) (a0 + 3) (ix ((um (um m (a0 + 1) (ix (m a0 0)) v1) (a0 + 2) (ix ((um m (a0 + 1) (ix (m a0 0)) v1) a0 0)) v2) a0 0)) v3) a0 0)) (n32 100)) a0 0)) v1) a0 0)) (((-v4)) * ((um (um (um (um (um m (a0 + 1) (ix (m a0 0)) v1) (a0 + 2) (ix ((um m (a0 + 1) (ix (m a0 0)) v1) a0 0)) v2) (a0 + 3) (ix ((um (um m (a0 + 1) (ix (m a0 0)) v1) (a0 + 2) (ix ((um m (a0 + 1) (ix (m a0 0)) v1) a0 0)) v2) a0 0)) v3) (a0 + 4) (ix ((um (um (um m (a0 + 1) (ix (m a0 0)) v1) (a0 + 2) (ix ((um m (a0 + 1) (ix (m a0 0)) v1) a0 0)) v2) (a0 + 3) (ix ((um (um m (a0 + 1) (ix (m a0 0)) v1) (a0 + 2) (ix ((um m (a0 + 1) (ix (m a0 0)) v1) a0 0)) v2) a0 0)) v3) a0 0)) (n32 100)) (a0 + 5) (ix ((um (um (um (um m (a0 + 1) (ix (m a0 0)) v1) (a0 + 2) (ix ((um m (a0 + 1) (ix (m a0 0)) v1) a0 0)) v2) (a0 + 3) (ix ((um (um m (a0 + 1) (ix (m a0 0)) v1) (a0 + 2) (ix ((um m (a0 + 1) (ix (m a0 0)) v1) a0 0)) v2) a0 0)) v3) (a0 + 4) (ix ((um (um (um m (a0 + 1) (ix (m a0 0)) v1) (a0 + 2) (ix ((um m (a0 + 1) (ix (m a0 0)) v1) a0 0)) v2) (a0 + 3) (ix ((um (um m (a0 + 1) (ix (m a0 0)) v1) (a0 + 2) (ix ((um m (a0 + 1) (ix (m a0 0)) v1) a0 0)) v2) a0 0)) v3) a0 0)) (n32 100)) a0 0)) v1) a0 0))) (a0 + 7) (ix ((um (um (um (um (um (um m (a0 + 1) (ix (m a0 0)) v1) (a0 + 2) (ix ((um m (a0 + 1) (ix (m a0 0)) v1) a0 0)) v2) (a0 + 3) (ix ((um (um m (a0 + 1) (ix (m a0 0)) v1) (a0 + 2) (ix ((um m (a0 + 1) (ix (m a0 0)) v1) a0 0)) v2) a0 0)) v3) (a0 + 4) (ix ((um (um (um m (a0 + 1) (ix (m a0 0)) v1) (a0 + 2) (ix ((um m (a0 + 1) (ix (m a0 0)) v1) a0 0)) v2) (a0 + 3) (ix ((um (um m (a0 + 1) (ix (m a0 0)) v1) (a0 + 2) (ix ((um m (a0 + 1) (ix (m a0 0)) v1) a0 0)) v2) a0 0)) v3) a0 0)) (n32 100)) (a0 + 5) (ix ((um (um (um (um m (a0 + 1) (ix (m a0 0)) v1) (a0 + 2) (ix ((um m (a0 + 1) (ix (m a0 0)) v1) a0 0)) v2) (a0 + 3) (ix ((um (um m (a0 + 1) (ix (m a0 0)) v1) (a0 + 2) (ix ((um m (a0 + 1) (ix (m a0 0)) v1) a0 0)) v2) a0 0)) v3) (a0 + 4) (ix ((um (um (um m (a0 + 1) (ix (m a0 0)) v1) (a0 + 2) (ix ((um m (a0 + 1) (ix (m a0 0)) v1) a0 0)) v2) (a0 + 3) (ix ((um (um m (a0 + 1) (ix (m a0 0)) v1) (a0 + 2) (ix ((um m (a0 + 1) (ix (m a0 0)) v1) a0 0)) v2) a0 0)) v3) a0 0)) (n32 100)) a0 0)) v1) (a0 + 6) (ix ((um (um (um (um (um m (a0 + 1) (ix (m a0 0)) v1) (a0 + 2) (ix ((um m (a0 + 1) (ix (m a0 0)) v1) a0 0)) v2) (a0 + 3) (ix ((um (um m (a0 + 1) (ix (m a0 0)) v1) (a0 + 2) (ix ((um m (a0 + 1) (ix (m a0 0)) v1) a0 0)) v2) a0 0)) v3) (a0 + 4) (ix ((um (um (um m (a0 + 1) (ix (m a0 0)) v1) (a0 + 2) (ix ((um m (a0 + 1) (ix (m a0 0)) v1) a0 0)) v2) (a0 + 3) (ix ((um (um m (a0 + 1) (ix (m a0 0)) v1) (a0 + 2) (ix ((um m (a0 + 1) (ix (m a0 0)) v1) a0 0)) v2) a0 0)) v3) a0 0)) (n32 100)) (a0 + 5) (ix ((um (um (um (um m (a0 + 1) (ix (m a0 0)) v1) (a0 + 2) (ix ((um m (a0 + 1) (ix (m a0 0)) v1) a0 0)) v2) (a0 + 3) (ix ((um (um m (a0 + 1) (ix (m a0 0)) v1) (a0 + 2) (ix ((um m (a0 + 1) (ix (m a0 0)) v1) a0 0)) v2) a0 0)) v3) (a0 + 4) (ix ((um (um (um m (a0 + 1) (ix (m a0 0)) v1) (a0 + 2) (ix ((um m (a0 + 1) (ix (m a0 0)) v1) a0 0)) v2) (a0 + 3) (ix ((um (um m (a0 + 1) (ix (m a0 0)) v1) (a0 + 2) (ix ((um m (a0 + 1) (ix (m a0 0)) v1) a0 0)) v2) a0 0)) v3) a0 0)) (n32 100)) a0 0)) v1) a0 0)) (((-v4)) * ((um (um (um (um (um m (a0 + 1) (ix (m a0 0)) v1) (a0 + 2) (ix ((um m (a0 + 1) (ix (m a0 0)) v1) a0 0)) v2) (a0 + 3) (ix ((um (um m (a0 + 1) (ix (m a0 0)) v1) (a0 + 2) (ix ((um m (a0 + 1) (ix (m a0 0)) v1) a0 0)) v2) a0 0)) v3) (a0 + 4) (ix ((um (um (um m (a0 + 1) (ix (m a0 0)) v1) (a0 + 2) (ix ((um m (a0 + 1) (ix (m a0 0)) v1) a0 0)) v2) (a0 + 3) (ix ((um (um m (a0 + 1) (ix (m a0 0)) v1) (a0 + 2) (ix ((um m (a0 + 1) (ix (m a0 0)) v1) a0 0)) v2) a0 0)) v3) a0 0)) (n32 100)) (a0 + 5) (ix ((um (um (um (um m (a0 + 1) (ix (m a0 0)) v1) (a0 + 2) (ix ((um m (a0 + 1) (ix (m a0 0)) v1) a0 0)) v2) (a0 + 3) (ix ((um (um m (a0 + 1) (ix (m a0 0)) v1) (a0 + 2) (ix ((um m (a0 + 1) (ix (m a0 0)) v1) a0 0)) v2) a0 0)) v3) (a0 + 4) (ix ((um (um (um m (a0 + 1) (ix (m a0 0)) v1) (a0 + 2) (ix ((um m (a0 + 1) (ix (m a0 0)) v1) a0 0)) v2) (a0 + 3) (ix ((um (um m (a0 + 1) (ix (m a0 0)) v1) (a0 + 2) (ix ((um m (a0 + 1) (ix (m a0 0)) v1) a0 0)) v2) a0 0)) v3) a0 0)) (n32 100)) a0 0)) v1) a0 0))) a0 0)) ((um (um (um (um (um (um m (a0 + 1) (ix (m a0 0)) v1) (a0 + 2) (ix ((um m (a0 + 1) (ix (m a0 0)) v1) a0 0)) v2) (a0 + 3) (ix ((um (um m (a0 + 1) (ix (m a0 0)) v1) (a0 + 2) (ix ((um m (a0 + 1) (ix (m a0 0)) v1) a0 0)) v2) a0 0)) v3) (a0 + 4) (ix ((um (um (um m (a0 + 1) (ix (m a0 0)) v1) (a0 + 2) (ix ((um m (a0 + 1) (ix (m a0 0)) v1) a0 0)) v2) (a0 + 3) (ix ((um (um m (a0 + 1) (ix (m a0 0)) v1) (a0 + 2) (ix ((um m (a0 + 1) (ix (m a0 0)) v1) a0 0)) v2) a0 0)) v3) a0 0)) (n32 100)) (a0 + 5) (ix ((um (um (um (um m (a0 + 1) (ix (m a0 0)) v1) (a0 + 2) (ix ((um m (a0 + 1) (ix (m a0 0)) v1) a0 0)) v2) (a0 + 3) (ix ((um (um m (a0 + 1) (ix (m a0 0)) v1) (a0 + 2) (ix ((um m (a0 + 1) (ix (m a0 0)) v1) a0 0)) v2) a0 0)) v3) (a0 + 4) (ix ((um (um (um m (a0 + 1) (ix (m a0 0)) v1) (a0 + 2) (ix ((um m (a0 + 1) (ix (m a0 0)) v1) a0 0)) v2) (a0 + 3) (ix ((um (um m (a0 + 1) (ix (m a0 0)) v1) (a0 + 2) (ix ((um m (a0 + 1) (ix (m a0 0)) v1) a0 0)) v2) a0 0)) v3) a0 0)) (n32 100)) a0 0)) v1) (a0 + 6) (ix ((um (um (um (um (um m (a0 + 1) (ix (m a0 0)) v1) (a0 + 2) (ix ((um m (a0 + 1) (ix (m a0 0)) v1) a0 0)) v2) (a0 + 3) (ix ((um (um m (a0 + 1) (ix (m a0 0)) v1) (a0 + 2) (ix ((um m (a0 + 1) (ix (m a0 0)) v1) a0 0)) v2) a0 0)) v3) (a0 + 4) (ix ((um (um (um m (a0 + 1) (ix (m a0 0)) v1) (a0 + 2) (ix ((um m (a0 + 1) (ix (m a0 0)) v1) a0 0)) v2) (a0 + 3) (ix ((um (um m (a0 + 1) (ix (m a0 0)) v1) (a0 + 2) (ix ((um m (a0 + 1) (ix (m a0 0)) v1) a0 0)) v2) a0 0)) v3) a0 0)) (n32 100)) (a0 + 5) (ix ((um (um (um (um m (a0 + 1) (ix (m a0 0)) v1) (a0 + 2) (ix ((um m (a0 + 1) (ix (m a0 0)) v1) a0 0)) v2) (a0 + 3) (ix ((um (um m (a0 + 1) (ix (m a0 0)) v1) (a0 + 2) (ix ((um m (a0 + 1) (ix (m a0 0)) v1) a0 0)) v2) a0 0)) v3) (a0 + 4) (ix ((um (um (um m (a0 + 1) (ix (m a0 0)) v1) (a0 + 2) (ix ((um m (a0 + 1) (ix (m a0 0)) v1) a0 0)) v2) (a0 + 3) (ix ((um (um m (a0 + 1) (ix (m a0 0)) v1) (a0 + 2) (ix ((um m (a0 + 1) (ix (m a0 0)) v1) a0 0)) v2) a0 0)) v3) a0 0)) (n32 100)) a0 0)) v1) a0 0)) (((-v4)) * ((um (um (um (um (um m (a0 + 1) (ix (m a0 0)) v1) (a0 + 2) (ix ((um m (a0 + 1) (ix (m a0 0)) v1) a0 0)) v2) (a0 + 3) (ix ((um (um m (a0 + 1) (ix (m a0 0)) v1) (a0 + 2) (ix ((um m (a0 + 1) (ix (m a0 0)) v1) a0 0)) v2) a0 0)) v3) (a0 + 4) (ix ((um (um (um m (a0 + 1) (ix (m a0 0)) v1) (a0 + 2) (ix ((um m (a0 + 1) (ix (m a0 0)) v1) a0 0)) v2) (a0 + 3) (ix ((um (um m (a0 + 1) (ix (m a0 0)) v1) (a0 + 2) (ix ((um m (a0 + 1) (ix (m a0 0)) v1) a0 0)) v2) a0 0)) v3) a0 0)) (n32 100)) (a0 + 5) (ix ((um (um (um (um m (a0 + 1) (ix (m a0 0)) v1) (a0 + 2) (ix ((um m (a0 + 1) (ix (m a0 0)) v1) a0 0)) v2) (a0 + 3) (ix ((um (um m (a0 + 1) (ix (m a0 0)) v1) (a0 + 2) (ix ((um m (a0 + 1) (ix (m a0 0)) v1) a0 0)) v2) a0 0)) v3) (a0 + 4) (ix ((um (um (um m (a0 + 1) (ix (m a0 0)) v1) (a0 + 2) (ix ((um m (a0 + 1) (ix (m a0 0)) v1) a0 0)) v2) (a0 + 3) (ix ((um (um m (a0 + 1) (ix (m a0 0)) v1) (a0 + 2) (ix ((um m (a0 + 1) (ix (m a0 0)) v1) a0 0)) v2) a0 0)) v3) a0 0)) (n32 100)) a0 0)) v1) a0 0))) (a0 + 6) (ix ((um (um (um (um (um (um m (a0 + 1) (ix (m a0 0)) v1) (a0 + 2) (ix ((um m (a0 + 1) (ix (m a0 0)) v1) a0 0)) v2) (a0 + 3) (ix ((um (um m (a0 + 1) (ix (m a0 0)) v1) (a0 + 2) (ix ((um m (a0 + 1) (ix (m a0 0)) v1) a0 0)) v2) a0 0)) v3) (a0 + 4) (ix ((um (um (um m (a0 + 1) (ix (m a0 0)) v1) (a0 + 2) (ix ((um m (a0 + 1) (ix (m a0 0)) v1) a0 0)) v2) (a0 + 3) (ix ((um (um m (a0 + 1) (ix (m a0 0)) v1) (a0 + 2) (ix ((um m (a0 + 1) (ix (m a0 0)) v1) a0 0)) v2) a0 0)) v3) a0 0)) (n32 100)) (a0 + 5) (ix ((um (um (um (um m (a0 + 1) (ix (m a0 0)) v1) (a0 + 2) (ix ((um m (a0 + 1) (ix (m a0 0)) v1) a0 0)) v2) (a0 + 3) (ix ((um (um m (a0 + 1) (ix (m a0 0)) v1) (a0 + 2) (ix ((um m (a0 + 1) (ix (m a0 0)) v1) a0 0)) v2) a0 0)) v3) (a0 + 4) (ix ((um (um (um m (a0 + 1) (ix (m a0 0)) v1) (a0 + 2) (ix ((um m (a0 + 1) (ix (m a0 0)) v1) a0 0)) v2) (a0 + 3) (ix ((um (um m (a0 + 1) (ix (m a0 0)) v1) (a0 + 2) (ix ((um m (a0 + 1) (ix (m a0 0)) v1) a0 0)) v2) a0 0)) v3) a0 0)) (n32 100)) a0 0)) v1) (a0 + 6) (ix ((um (um (um (um (um m (a0 + 1) (ix (m a0 0)) v1) (a0 + 2) (ix ((um m (a0 + 1) (ix (m a0 0)) v1) a0 0)) v2) (a0 + 3) (ix ((um (um m (a0 + 1) (ix (m a0 0)) v1) (a0 + 2) (ix ((um m (a0 + 1) (ix (m a0 0)) v1) a0 0)) v2) a0 0)) v3) (a0 + 4) (ix ((um (um (um m (a0 + 1) (ix (m a0 0)) v1) (a0 + 2) (ix ((um m (a0 + 1) (ix (m a0 0)) v1) a0 0)) v2) (a0 + 3) (ix ((um (um m (a0 + 1) (ix (m a0 0)) v1) (a0 + 2) (ix ((um m (a0 + 1) (ix (m a0 0)) v1) a0 0)) v2) a0 0)) v3) a0 0)) (n32 100)) (a0 + 5) (ix ((um (um (um (um m (a0 + 1) (ix (m a0 0)) v1) (a0 + 2) (ix ((um m (a0 + 1) (ix (m a0 0)) v1) a0 0)) v2) (a0 + 3) (ix ((um (um m (a0 + 1) (ix (m a0 0)) v1) (a0 + 2) (ix ((um m (a0 + 1) (ix (m a0 0)) v1) a0 0)) v2) a0 0)) v3) (a0 + 4) (ix ((um (um (um m (a0 + 1) (ix (m a0 0)) v1) (a0 + 2) (ix ((um m (a0 + 1) (ix (m a0 0)) v1) a0 0)) v2) (a0 + 3) (ix ((um (um m (a0 + 1) (ix (m a0 0)) v1) (a0 + 2) (ix ((um m (a0 + 1) (ix (m a0 0)) v1) a0 0)) v2) a0 0)) v3) a0 0)) (n32 100)) a0 0)) v1) a0 0)) (((-v4)) * ((um (um (um (um (um m (a0 + 1) (ix (m a0 0)) v1) (a0 + 2) (ix ((um m (a0 + 1) (ix (m a0 0)) v1) a0 0)) v2) (a0 + 3) (ix ((um (um m (a0 + 1) (ix (m a0 0)) v1) (a0 + 2) (ix ((um m (a0 + 1) (ix (m a0 0)) v1) a0 0)) v2) a0 0)) v3) (a0 + 4) (ix ((um (um (um m (a0 + 1) (ix (m a0 0)) v1) (a0 + 2) (ix ((um m (a0 + 1) (ix (m a0 0)) v1) a0 0)) v2) (a0 + 3) (ix ((um (um m (a0 + 1) (ix (m a0 0)) v1) (a0 + 2) (ix ((um m (a0 + 1) (ix (m a0 0)) v1) a0 0)) v2) a0 0)) v3) a0 0)) (n32 100)) (a0 + 5) (ix ((um (um (um (um m (a0 + 1) (ix (m a0 0)) v1) (a0 + 2) (ix ((um m (a0 + 1) (ix (m a0 0)) v1) a0 0)) v2) (a0 + 3) (ix ((um (um m (a0 + 1) (ix (m a0 0)) v1) (a0 + 2) (ix ((um m (a0 + 1) (ix (m a0 0)) v1) a0 0)) v2) a0 0)) v3) (a0 + 4) (ix ((um (um (um m (a0 + 1) (ix (m a0 0)) v1) (a0 + 2) (ix ((um m (a0 + 1) (ix (m a0 0)) v1) a0 0)) v2) (a0 + 3) (ix ((um (um m (a0 + 1) (ix (m a0 0)) v1) (a0 + 2) (ix ((um m (a0 + 1) (ix (m a0 0)) v1) a0 0)) v2) a0 0)) v3) a0 0)) (n32 100)) a0 0)) v1) a0 0))) a0 0)))) a0 0)) (n32 0)) a0 0) + (n32 1))) rfl)
  · refine VL_norm km49 k49_1 (VL_at (al := []) (st := []) km49 k49_1 ?_)
    exact (h.2 c4)
end
section
/-! Verification conditions (written by program: wip/whole/mkw.py). -/
/-- BannerParade$Row.strideOf, label 0 -/
theorem w50_0 {D : Nat} {a0 : Nat} {v1 : Int32} {m : XM} {Q : Int32 → XM → Prop} {E : Nat → XM → Prop}
    (h : (xin v1 12 = true ∧ ((FP.fmul ((FP.i2f (m (a0 + 2) (ix v1)))) ((FP.i2f (m (a0 + 4) (ix v1))))) &&& 0x7fffffff ≤ 0x7f800000 ∧ ((FP.fdiv (FP.fmul ((FP.i2f (m (a0 + 2) (ix v1)))) ((FP.i2f (m (a0 + 4) (ix v1))))) (UInt32.ofNat 1120403456)) &&& 0x7fffffff ≤ 0x7f800000 ∧ Q ((FP.f2i (FP.fdiv (FP.fmul ((FP.i2f (m (a0 + 2) (ix v1)))) ((FP.i2f (m (a0 + 4) (ix v1))))) (UInt32.ofNat 1120403456)))) m)))) :
    VI D 50 [vR 7 (a0), vI v1] m Q E := by
  refine V_of (VL_at (al := [(0, vR 7 (a0)), (1, vI v1)]) (st := []) km50 k50_0 ?_)
  refine And.intro h.1 ?_
  refine And.intro h.1 ?_
  refine And.intro h.2.1 ?_
  refine And.intro h.2.2.1 ?_
  exact h.2.2.2
/-- BannerParade$Row.addStrength, label 0 -/
theorem w52_0 {D : Nat} {a0 : Nat} {v1 : Int32} {v2 : Int32} {m : XM} {Q : XM → Prop} {E : Nat → XM → Prop}
    (h : (xin v1 12 = true ∧ VI D 386 [vI (n32 100), vI ((m (a0 + 4) (ix v1)) + v2)] m (fun x1 m1 => VI D 385 [vI (n32 0), vI x1] m1 (fun x2 m2 => Q (um m2 (a0 + 4) (ix v1) x2)) E) E)) :
    VU (D + 1) 52 [vR 7 (a0), vI v1, vI v2] m Q E := by
  refine V_of (VL_at (al := [(0, vR 7 (a0)), (1, vI v1), (2, vI v2)]) (st := []) km52 k52_0 ?_)
  refine And.intro h.1 ?_
  refine V_mono h.2 (fun u1 m1 h1 => ?_) (fun _ _ h => h)
  refine V_mono h1 (fun u2 m2 h2 => ?_) (fun _ _ h => h)
  refine And.intro h.1 ?_
  exact h2
/-- BannerParade$Row.march, label 0 -/
theorem w54_0 {D : Nat} {a0 : Nat} {v1 : Int32} {v2 : Int32} {m : XM} {Q : XM → Prop} {E : Nat → XM → Prop}
    (h : VLU (D + 2) 54 1 [(0, vR 7 (a0)), (1, vI v1), (2, vI v2), (3, vI (n32 0))] [] m Q E) :
    VU (D + 2) 54 [vR 7 (a0), vI v1, vI v2] m Q E := by
  refine V_of (VL_at (al := [(0, vR 7 (a0)), (1, vI v1), (2, vI v2)]) (st := []) km54 k54_0 ?_)
  exact VL_norm km54 k54_1 h
/-- BannerParade$Row.march, label 1 -/
theorem w54_1 {D : Nat} {a0 : Nat} {v1 : Int32} {v2 : Int32} {v3 : Int32} {m : XM} {Q : XM → Prop} {E : Nat → XM → Prop}
    (h : (((m a0 0) ≤ v3 → Q m) ∧ (¬ (m a0 0) ≤ v3 → (xin v3 12 = true ∧ VI (D + 1) 50 [vR 7 (a0), vI v3] m (fun x1 m1 => ((v3 ≤ (n32 0) → ((((m (a0 + 6) (ix v3)) + x1) ≤ ((um m1 (a0 + 7) (ix v3) (m1 (a0 + 6) (ix v3))) (a0 + 6) (ix v3)) → VU (D + 1) 52 [vR 7 (a0), vI v3, vI v2] (um m1 (a0 + 7) (ix v3) (m1 (a0 + 6) (ix v3))) (fun m2 => VLU (D + 2) 54 1 [(0, vR 7 (a0)), (1, vI v1), (2, vI v2), (3, vI (v3 + (n32 1)))] [] m2 Q E) E) ∧ (¬ ((m (a0 + 6) (ix v3)) + x1) ≤ ((um m1 (a0 + 7) (ix v3) (m1 (a0 + 6) (ix v3))) (a0 + 6) (ix v3)) → (∀ μ3 : XM, μ3 = um (um (um m1 (a0 + 7) (ix v3) (m1 (a0 + 6) (ix v3))) (a0 + 6) (ix v3) ((m (a0 + 6) (ix v3)) + x1)) (a0 + 8) (ix v3) (((um (um m1 (a0 + 7) (ix v3) (m1 (a0 + 6) (ix v3))) (a0 + 6) (ix v3) ((m (a0 + 6) (ix v3)) + x1)) (a0 + 8) (ix v3)) + (n32 1)) → VU (D + 1) 52 [vR 7 (a0), vI v3, vI ((-(μ3 (a0 + 3) (ix v3))))] μ3 (fun m4 => VLU (D + 2) 54 1 [(0, vR 7 (a0)), (1, vI v1), (2, vI v2), (3, vI (v3 + (n32 1)))] [] m4 Q E) E)))) ∧ (¬ v3 ≤ (n32 0) → (xin (v3 - (n32 1)) 12 = true ∧ VI (D + 1) 386 [vI ((m (a0 + 6) (ix v3)) + x1), vI ((m1 (a0 + 6) (ix (v3 - (n32 1)))) - v1)] m1 (fun x6 m6 => ((x6 ≤ ((um m6 (a0 + 7) (ix v3) (m6 (a0 + 6) (ix v3))) (a0 + 6) (ix v3)) → VU (D + 1) 52 [vR 7 (a0), vI v3, vI v2] (um m6 (a0 + 7) (ix v3) (m6 (a0 + 6) (ix v3))) (fun m7 => VLU (D + 2) 54 1 [(0, vR 7 (a0)), (1, vI v1), (2, vI v2), (3, vI (v3 + (n32 1)))] [] m7 Q E) E) ∧ (¬ x6 ≤ ((um m6 (a0 + 7) (ix v3) (m6 (a0 + 6) (ix v3))) (a0 + 6) (ix v3)) → (∀ μ8 : XM, μ8 = um (um (um m6 (a0 + 7) (ix v3) (m6 (a0 + 6) (ix v3))) (a0 + 6) (ix v3) x6) (a0 + 8) (ix v3) (((um (um m6 (a0 + 7) (ix v3) (m6 (a0 + 6) (ix v3))) (a0 + 6) (ix v3) x6) (a0 + 8) (ix v3)) + (n32 1)) → VU (D + 1) 52 [vR 7 (a0), vI v3, vI ((-(μ8 (a0 + 3) (ix v3))))] μ8 (fun m9 => VLU (D + 2) 54 1 [(0, vR 7 (a0)), (1, vI v1), (2, vI v2), (3, vI (v3 + (n32 1)))] [] m9 Q E) E)))) E)))) E)))) :
    VLU (D + 2) 54 1 [(0, vR 7 (a0)), (1, vI v1), (2, vI v2), (3, vI v3)] [] m Q E := by
  refine VL_at (al := [(0, vR 7 (a0)), (1, vI v1), (2, vI v2), (3, vI v3)]) (st := []) km54 k54_1 ?_
  refine And.intro (fun c12 => ?_) (fun c12 => ?_)
  · refine VL_norm km54 k54_8 (VL_at (al := []) (st := []) km54 k54_8 ?_)
    exact (h.1 c12)
  · refine VL_norm km54 k54_2 (VL_at (al := [(0, vR 7 (a0)), (1, vI v1), (2, vI v2), (3, vI v3)]) (st := []) km54 k54_2 ?_)
    refine And.intro (h.2 c12).1 ?_
    refine V_mono (h.2 c12).2 (fun u1 m1 h1 => ?_) (fun _ _ h => h)
    refine And.intro (fun c11 => ?_) (fun c11 => ?_)
    · refine VL_norm km54 k54_4 (VL_at (al := [(0, vR 7 (a0)), (1, vI v1), (2, vI v2), (3, vI v3), (4, vI ((m (a0 + 6) (ix v3)) + (xti u1)))]) (st := []) km54 k54_4 ?_)
      refine And.intro (h.2 c12).1 ?_
      refine And.intro (h.2 c12).1 ?_
      refine And.intro (h.2 c12).1 ?_
      refine And.intro (fun c5 => ?_) (fun c5 => ?_)
      · refine VL_norm km54 k54_6 (VL_at (al := [(0, vR 7 (a0)), (1, vI v1), (2, vI v2), (3, vI v3)]) (st := []) km54 k54_6 ?_)
        refine V_mono ((h1.1 c11).1 c5) (fun u2 m2 h2 => ?_) (fun _ _ h => h)
        refine VL_norm km54 k54_7 (VL_at (al := [(0, vR 7 (a0)), (1, vI v1), (2, vI v2), (3, vI v3)]) (st := []) km54 k54_7 ?_)
        exact VL_norm km54 k54_1 h2
      · refine VL_norm km54 k54_5 (VL_at (al := [(0, vR 7 (a0)), (1, vI v1), (2, vI v2), (3, vI v3), (4, vI ((m (a0 + 6) (ix v3)) + (xti u1)))]) (st := []) km54 k54_5 ?_)
        refine And.intro (h.2 c12).1 ?_
        refine And.intro (h.2 c12).1 ?_
        refine And.intro (h.2 c12).1 ?_
        refine And.intro (h.2 c12).1 ?_
        refine V_mono (((h1.1 c11).2 c5) (um (um (um m1 (a0 + 7) (ix v3) (m1 (a0 + 6) (ix v3))) (a0 + 6) (ix v3) ((m (a0 + 6) (ix v3)) + (xti u1))) (a0 + 8) (ix v3) (((um (um m1 (a0 + 7) (ix v3) (m1 (a0 + 6) (ix v3))) (a0 + 6) (ix v3) ((m (a0 + 6) (ix v3)) + (xti u1))) (a0 + 8) (ix v3)) + (n32 1))) rfl) (fun u4 m4 h4 => ?_) (fun _ _ h => h)
        refine VL_norm km54 k54_7 (VL_at (al := [(0, vR 7 (a0)), (1, vI v1), (2, vI v2), (3, vI v3)]) (st := []) km54 k54_7 ?_)
        exact VL_norm km54 k54_1 h4
    · refine VL_norm km54 k54_3 (VL_at (al := [(0, vR 7 (a0)), (1, vI v1), (2, vI v2), (3, vI v3), (4, vI ((m (a0 + 6) (ix v3)) + (xti u1)))]) (st := []) km54 k54_3 ?_)
      refine And.intro (h1.2 c11).1 ?_
      refine V_mono (h1.2 c11).2 (fun u6 m6 h6 => ?_) (fun _ _ h => h)
      refine VL_norm km54 k54_4 (VL_at (al := [(0, vR 7 (a0)), (1, vI v1), (2, vI v2), (3, vI v3), (4, vI (xti u6))]) (st := []) km54 k54_4 ?_)
      refine And.intro (h.2 c12).1 ?_
      refine And.intro (h.2 c12).1 ?_
      refine And.intro (h.2 c12).1 ?_
      refine And.intro (fun c10 => ?_) (fun c10 => ?_)
      · refine VL_norm km54 k54_6 (VL_at (al := [(0, vR 7 (a0)), (1, vI v1), (2, vI v2), (3, vI v3)]) (st := []) km54 k54_6 ?_)
        refine V_mono (h6.1 c10) (fun u7 m7 h7 => ?_) (fun _ _ h => h)
        refine VL_norm km54 k54_7 (VL_at (al := [(0, vR 7 (a0)), (1, vI v1), (2, vI v2), (3, vI v3)]) (st := []) km54 k54_7 ?_)
        exact VL_norm km54 k54_1 h7
      · refine VL_norm km54 k54_5 (VL_at (al := [(0, vR 7 (a0)), (1, vI v1), (2, vI v2), (3, vI v3), (4, vI (xti u6))]) (st := []) km54 k54_5 ?_)
        refine And.intro (h.2 c12).1 ?_
        refine And.intro (h.2 c12).1 ?_
        refine And.intro (h.2 c12).1 ?_
        refine And.intro (h.2 c12).1 ?_
        refine V_mono ((h6.2 c10) (um (um (um m6 (a0 + 7) (ix v3) (m6 (a0 + 6) (ix v3))) (a0 + 6) (ix v3) (xti u6)) (a0 + 8) (ix v3) (((um (um m6 (a0 + 7) (ix v3) (m6 (a0 + 6) (ix v3))) (a0 + 6) (ix v3) (xti u6)) (a0 + 8) (ix v3)) + (n32 1))) rfl) (fun u9 m9 h9 => ?_) (fun _ _ h => h)
        refine VL_norm km54 k54_7 (VL_at (al := [(0, vR 7 (a0)), (1, vI v1), (2, vI v2), (3, vI v3)]) (st := []) km54 k54_7 ?_)
        exact VL_norm km54 k54_1 h9
/-- BannerParade$Row.carriers, label 0 -/
theorem w55_0 {D : Nat} {a0 : Nat} {m : XM} {Q : Int32 → XM → Prop} {E : Nat → XM → Prop}
    (h : VLI D 55 1 [(0, vR 7 (a0)), (1, vI (n32 0)), (2, vI (n32 0))] [] m Q E) :
    VI D 55 [vR 7 (a0)] m Q E := by
  refine V_of (VL_at (al := [(0, vR 7 (a0))]) (st := []) km55 k55_0 ?_)
  exact VL_norm km55 k55_1 h
/-- BannerParade$Row.carriers, label 1 -/
theorem w55_1 {D : Nat} {a0 : Nat} {v1 : Int32} {v2 : Int32} {m : XM} {Q : Int32 → XM → Prop} {E : Nat → XM → Prop}
    (h : (((m a0 0) ≤ v2 → Q v1 m) ∧ (¬ (m a0 0) ≤ v2 → (xin v2 12 = true ∧ (((m (a0 + 5) (ix v2)) = (n32 0) → VLI D 55 1 [(0, vR 7 (a0)), (1, vI v1), (2, vI (v2 + (n32 1)))] [] m Q E) ∧ (¬ (m (a0 + 5) (ix v2)) = (n32 0) → VLI D 55 1 [(0, vR 7 (a0)), (1, vI (v1 + (n32 1))), (2, vI (v2 + (n32 1)))] [] m Q E)))))) :
    VLI D 55 1 [(0, vR 7 (a0)), (1, vI v1), (2, vI v2)] [] m Q E := by
  refine VL_at (al := [(0, vR 7 (a0)), (1, vI v1), (2, vI v2)]) (st := []) km55 k55_1 ?_
  refine And.intro (fun c2 => ?_) (fun c2 => ?_)
  · refine VL_norm km55 k55_5 (VL_at (al := [(1, vI v1)]) (st := []) km55 k55_5 ?_)
    exact (h.1 c2)
  · refine VL_norm km55 k55_2 (VL_at (al := [(0, vR 7 (a0)), (1, vI v1), (2, vI v2)]) (st := []) km55 k55_2 ?_)
    refine And.intro (h.2 c2).1 ?_
    refine And.intro (fun c1 => ?_) (fun c1 => ?_)
    · refine VL_norm km55 k55_4 (VL_at (al := [(0, vR 7 (a0)), (1, vI v1), (2, vI v2)]) (st := []) km55 k55_4 ?_)
      exact VL_norm km55 k55_1 ((h.2 c2).2.1 c1)
    · refine VL_norm km55 k55_3 (VL_at (al := [(0, vR 7 (a0)), (1, vI v1), (2, vI v2)]) (st := []) km55 k55_3 ?_)
      refine VL_norm km55 k55_4 (VL_at (al := [(0, vR 7 (a0)), (1, vI (v1 + (n32 1))), (2, vI v2)]) (st := []) km55 k55_4 ?_)
      exact VL_norm km55 k55_1 ((h.2 c2).2.2 c1)
/-- BannerParade$Row.carriersOfOwnLetter, label 0 -/
theorem w57_0 {D : Nat} {a0 : Nat} {m : XM} {Q : Int32 → XM → Prop} {E : Nat → XM → Prop}
    (h : VLI D 57 1 [(0, vR 7 (a0)), (1, vI (n32 0)), (2, vI (n32 0))] [] m Q E) :
    VI D 57 [vR 7 (a0)] m Q E := by
  refine V_of (VL_at (al := [(0, vR 7 (a0))]) (st := []) km57 k57_0 ?_)
  exact VL_norm km57 k57_1 h
/-- BannerParade$Row.carriersOfOwnLetter, label 1 -/
theorem w57_1 {D : Nat} {a0 : Nat} {v1 : Int32} {v2 : Int32} {m : XM} {Q : Int32 → XM → Prop} {E : Nat → XM → Prop}
    (h : (((m a0 0) ≤ v2 → Q v1 m) ∧ (¬ (m a0 0) ≤ v2 → (xin v2 12 = true ∧ (((m (a0 + 5) (ix v2)) = (m (a0 + 1) (ix v2)) → VLI D 57 1 [(0, vR 7 (a0)), (1, vI (v1 + (n32 1))), (2, vI (v2 + (n32 1)))] [] m Q E) ∧ (¬ (m (a0 + 5) (ix v2)) = (m (a0 + 1) (ix v2)) → VLI D 57 1 [(0, vR 7 (a0)), (1, vI v1), (2, vI (v2 + (n32 1)))] [] m Q E)))))) :
    VLI D 57 1 [(0, vR 7 (a0)), (1, vI v1), (2, vI v2)] [] m Q E := by
  refine VL_at (al := [(0, vR 7 (a0)), (1, vI v1), (2, vI v2)]) (st := []) km57 k57_1 ?_
  refine And.intro (fun c2 => ?_) (fun c2 => ?_)
  · refine VL_norm km57 k57_5 (VL_at (al := [(1, vI v1)]) (st := []) km57 k57_5 ?_)
    exact (h.1 c2)
  · refine VL_norm km57 k57_2 (VL_at (al := [(0, vR 7 (a0)), (1, vI v1), (2, vI v2)]) (st := []) km57 k57_2 ?_)
    refine And.intro (h.2 c2).1 ?_
    refine And.intro (h.2 c2).1 ?_
    refine And.intro (fun c1 => ?_) (fun c1 => ?_)
    · refine VL_norm km57 k57_3 (VL_at (al := [(0, vR 7 (a0)), (1, vI v1), (2, vI v2)]) (st := []) km57 k57_3 ?_)
      refine VL_norm km57 k57_4 (VL_at (al := [(0, vR 7 (a0)), (1, vI (v1 + (n32 1))), (2, vI v2)]) (st := []) km57 k57_4 ?_)
      exact VL_norm km57 k57_1 ((h.2 c2).2.1 c1)
    · refine VL_norm km57 k57_4 (VL_at (al := [(0, vR 7 (a0)), (1, vI v1), (2, vI v2)]) (st := []) km57 k57_4 ?_)
      exact VL_norm km57 k57_1 ((h.2 c2).2.2 c1)
/-- BannerParade$Row.withinSpace, label 0 -/
theorem w58_0 {D : Nat} {a0 : Nat} {v1 : Int32} {m : XM} {Q : Int32 → XM → Prop} {E : Nat → XM → Prop}
    (h : VLI (D + 1) 58 1 [(0, vR 7 (a0)), (1, vI v1), (2, vI (n32 0)), (3, vI (n32 1))] [] m Q E) :
    VI (D + 1) 58 [vR 7 (a0), vI v1] m Q E := by
  refine V_of (VL_at (al := [(0, vR 7 (a0)), (1, vI v1)]) (st := []) km58 k58_0 ?_)
  exact VL_norm km58 k58_1 h
/-- BannerParade$Row.withinSpace, label 1 -/
theorem w58_1 {D : Nat} {a0 : Nat} {v1 : Int32} {v2 : Int32} {v3 : Int32} {m : XM} {Q : Int32 → XM → Prop} {E : Nat → XM → Prop}
    (h : (((m a0 0) ≤ v3 → Q v2 m) ∧ (¬ (m a0 0) ≤ v3 → ((v3 ≤ (n32 0) → ((v1 < (-(n32 1)) → VLI (D + 1) 58 1 [(0, vR 7 (a0)), (1, vI v1), (2, vI v2), (3, vI (v3 + (n32 1)))] [] m Q E) ∧ (¬ v1 < (-(n32 1)) → VLI (D + 1) 58 1 [(0, vR 7 (a0)), (1, vI v1), (2, vI (v2 + (n32 1))), (3, vI (v3 + (n32 1)))] [] m Q E))) ∧ (¬ v3 ≤ (n32 0) → (xin (v3 - (n32 1)) 12 = true ∧ (xin v3 12 = true ∧ ((v1 < ((m (a0 + 6) (ix (v3 - (n32 1)))) - (m (a0 + 6) (ix v3))) → VLI (D + 1) 58 1 [(0, vR 7 (a0)), (1, vI v1), (2, vI v2), (3, vI (v3 + (n32 1)))] [] m Q E) ∧ (¬ v1 < ((m (a0 + 6) (ix (v3 - (n32 1)))) - (m (a0 + 6) (ix v3))) → VLI (D + 1) 58 1 [(0, vR 7 (a0)), (1, vI v1), (2, vI (v2 + (n32 1))), (3, vI (v3 + (n32 1)))] [] m Q E))))))))) :
    VLI (D + 1) 58 1 [(0, vR 7 (a0)), (1, vI v1), (2, vI v2), (3, vI v3)] [] m Q E := by
  refine VL_at (al := [(0, vR 7 (a0)), (1, vI v1), (2, vI v2), (3, vI v3)]) (st := []) km58 k58_1 ?_
  refine And.intro (fun c4 => ?_) (fun c4 => ?_)
  · refine VL_norm km58 k58_5 (VL_at (al := [(2, vI v2)]) (st := []) km58 k58_5 ?_)
    exact (h.1 c4)
  · refine VL_norm km58 k58_2 (VL_at (al := [(0, vR 7 (a0)), (1, vI v1), (2, vI v2), (3, vI v3)]) (st := []) km58 k58_2 ?_)
    refine V_of ?_
    refine VL_norm km51 k51_0 (VL_at (al := [(0, vR 7 (a0)), (1, vI v3)]) (st := []) km51 k51_0 ?_)
    refine And.intro (fun c3 => ?_) (fun c3 => ?_)
    · refine VL_norm km51 k51_2 (VL_at (al := []) (st := []) km51 k51_2 ?_)
      refine VL_norm km51 k51_3 (VL_at (al := []) (st := [vI (-(n32 1))]) km51 k51_3 ?_)
      refine And.intro (fun c1 => ?_) (fun c1 => ?_)
      · refine VL_norm km58 k58_4 (VL_at (al := [(0, vR 7 (a0)), (1, vI v1), (2, vI v2), (3, vI v3)]) (st := []) km58 k58_4 ?_)
        exact VL_norm km58 k58_1 (((h.2 c4).1 c3).1 c1)
      · refine VL_norm km58 k58_3 (VL_at (al := [(0, vR 7 (a0)), (1, vI v1), (2, vI v2), (3, vI v3)]) (st := []) km58 k58_3 ?_)
        refine VL_norm km58 k58_4 (VL_at (al := [(0, vR 7 (a0)), (1, vI v1), (2, vI (v2 + (n32 1))), (3, vI v3)]) (st := []) km58 k58_4 ?_)
        exact VL_norm km58 k58_1 (((h.2 c4).1 c3).2 c1)
    · refine VL_norm km51 k51_1 (VL_at (al := [(0, vR 7 (a0)), (1, vI v3)]) (st := []) km51 k51_1 ?_)
      refine And.intro ((h.2 c4).2 c3).1 ?_
      refine And.intro ((h.2 c4).2 c3).2.1 ?_
      refine VL_norm km51 k51_3 (VL_at (al := []) (st := [vI ((m (a0 + 6) (ix (v3 - (n32 1)))) - (m (a0 + 6) (ix v3)))]) km51 k51_3 ?_)
      refine And.intro (fun c2 => ?_) (fun c2 => ?_)
      · refine VL_norm km58 k58_4 (VL_at (al := [(0, vR 7 (a0)), (1, vI v1), (2, vI v2), (3, vI v3)]) (st := []) km58 k58_4 ?_)
        exact VL_norm km58 k58_1 (((h.2 c4).2 c3).2.2.1 c2)
      · refine VL_norm km58 k58_3 (VL_at (al := [(0, vR 7 (a0)), (1, vI v1), (2, vI v2), (3, vI v3)]) (st := []) km58 k58_3 ?_)
        refine VL_norm km58 k58_4 (VL_at (al := [(0, vR 7 (a0)), (1, vI v1), (2, vI (v2 + (n32 1))), (3, vI v3)]) (st := []) km58 k58_4 ?_)
        exact VL_norm km58 k58_1 (((h.2 c4).2 c3).2.2.2 c2)
/-- BannerParade$Row.strideSum, label 0 -/
theorem w59_0 {D : Nat} {a0 : Nat} {m : XM} {Q : Int32 → XM → Prop} {E : Nat → XM → Prop}
    (h : VLI (D + 1) 59 1 [(0, vR 7 (a0)), (1, vI (n32 0)), (2, vI (n32 0))] [] m Q E) :
    VI (D + 1) 59 [vR 7 (a0)] m Q E := by
  refine V_of (VL_at (al := [(0, vR 7 (a0))]) (st := []) km59 k59_0 ?_)
  exact VL_norm km59 k59_1 h
/-- BannerParade$Row.strideSum, label 1 -/
theorem w59_1 {D : Nat} {a0 : Nat} {v1 : Int32} {v2 : Int32} {m : XM} {Q : Int32 → XM → Prop} {E : Nat → XM → Prop}
    (h : (((m a0 0) ≤ v2 → Q v1 m) ∧ (¬ (m a0 0) ≤ v2 → VI D 50 [vR 7 (a0), vI v2] m (fun x1 m1 => VLI (D + 1) 59 1 [(0, vR 7 (a0)), (1, vI (v1 + x1)), (2, vI (v2 + (n32 1)))] [] m1 Q E) E))) :
    VLI (D + 1) 59 1 [(0, vR 7 (a0)), (1, vI v1), (2, vI v2)] [] m Q E := by
  refine VL_at (al := [(0, vR 7 (a0)), (1, vI v1), (2, vI v2)]) (st := []) km59 k59_1 ?_
  refine And.intro (fun c2 => ?_) (fun c2 => ?_)
  · refine VL_norm km59 k59_3 (VL_at (al := [(1, vI v1)]) (st := []) km59 k59_3 ?_)
    exact (h.1 c2)
  · refine VL_norm km59 k59_2 (VL_at (al := [(0, vR 7 (a0)), (1, vI v1), (2, vI v2)]) (st := []) km59 k59_2 ?_)
    refine V_mono (h.2 c2) (fun u1 m1 h1 => ?_) (fun _ _ h => h)
    exact VL_norm km59 k59_1 h1
/-- BannerParade$Row.upToStrength, label 0 -/
theorem w62_0 {D : Nat} {a0 : Nat} {v1 : Int32} {m : XM} {Q : Int32 → XM → Prop} {E : Nat → XM → Prop}
    (h : VLI D 62 1 [(0, vR 7 (a0)), (1, vI v1), (2, vI (n32 0)), (3, vI (n32 0))] [] m Q E) :
    VI D 62 [vR 7 (a0), vI v1] m Q E := by
  refine V_of (VL_at (al := [(0, vR 7 (a0)), (1, vI v1)]) (st := []) km62 k62_0 ?_)
  exact VL_norm km62 k62_1 h
/-- BannerParade$Row.upToStrength, label 1 -/
theorem w62_1 {D : Nat} {a0 : Nat} {v1 : Int32} {v2 : Int32} {v3 : Int32} {m : XM} {Q : Int32 → XM → Prop} {E : Nat → XM → Prop}
    (h : (((m a0 0) ≤ v3 → Q v2 m) ∧ (¬ (m a0 0) ≤ v3 → (xin v3 12 = true ∧ ((v1 < (m (a0 + 4) (ix v3)) → VLI D 62 1 [(0, vR 7 (a0)), (1, vI v1), (2, vI v2), (3, vI (v3 + (n32 1)))] [] m Q E) ∧ (¬ v1 < (m (a0 + 4) (ix v3)) → VLI D 62 1 [(0, vR 7 (a0)), (1, vI v1), (2, vI (v2 ||| ((n32 1) <<< (v3 &&& 31)))), (3, vI (v3 + (n32 1)))] [] m Q E)))))) :
    VLI D 62 1 [(0, vR 7 (a0)), (1, vI v1), (2, vI v2), (3, vI v3)] [] m Q E := by
  refine VL_at (al := [(0, vR 7 (a0)), (1, vI v1), (2, vI v2), (3, vI v3)]) (st := []) km62 k62_1 ?_
  refine And.intro (fun c2 => ?_) (fun c2 => ?_)
  · refine VL_norm km62 k62_5 (VL_at (al := [(2, vI v2)]) (st := []) km62 k62_5 ?_)
    exact (h.1 c2)
  · refine VL_norm km62 k62_2 (VL_at (al := [(0, vR 7 (a0)), (1, vI v1), (2, vI v2), (3, vI v3)]) (st := []) km62 k62_2 ?_)
    refine And.intro (h.2 c2).1 ?_
    refine And.intro (fun c1 => ?_) (fun c1 => ?_)
    · refine VL_norm km62 k62_4 (VL_at (al := [(0, vR 7 (a0)), (1, vI v1), (2, vI v2), (3, vI v3)]) (st := []) km62 k62_4 ?_)
      exact VL_norm km62 k62_1 ((h.2 c2).2.1 c1)
    · refine VL_norm km62 k62_3 (VL_at (al := [(0, vR 7 (a0)), (1, vI v1), (2, vI v2), (3, vI v3)]) (st := []) km62 k62_3 ?_)
      refine VL_norm km62 k62_4 (VL_at (al := [(0, vR 7 (a0)), (1, vI v1), (2, vI (v2 ||| ((n32 1) <<< (v3 &&& 31)))), (3, vI v3)]) (st := []) km62 k62_4 ?_)
      exact VL_norm km62 k62_1 ((h.2 c2).2.2 c1)
/-- BannerParade$Row.belowStrength, label 0 -/
theorem w63_0 {D : Nat} {a0 : Nat} {v1 : Int32} {m : XM} {Q : Int32 → XM → Prop} {E : Nat → XM → Prop}
    (h : VLI D 63 1 [(0, vR 7 (a0)), (1, vI v1), (2, vI (n32 0)), (3, vI (n32 0))] [] m Q E) :
    VI D 63 [vR 7 (a0), vI v1] m Q E := by
  refine V_of (VL_at (al := [(0, vR 7 (a0)), (1, vI v1)]) (st := []) km63 k63_0 ?_)
  exact VL_norm km63 k63_1 h
/-- BannerParade$Row.belowStrength, label 1 -/
theorem w63_1 {D : Nat} {a0 : Nat} {v1 : Int32} {v2 : Int32} {v3 : Int32} {m : XM} {Q : Int32 → XM → Prop} {E : Nat → XM → Prop}
    (h : (((m a0 0) ≤ v3 → Q v2 m) ∧ (¬ (m a0 0) ≤ v3 → (xin v3 12 = true ∧ ((v1 ≤ (m (a0 + 4) (ix v3)) → VLI D 63 1 [(0, vR 7 (a0)), (1, vI v1), (2, vI v2), (3, vI (v3 + (n32 1)))] [] m Q E) ∧ (¬ v1 ≤ (m (a0 + 4) (ix v3)) → VLI D 63 1 [(0, vR 7 (a0)), (1, vI v1), (2, vI (v2 + (n32 1))), (3, vI (v3 + (n32 1)))] [] m Q E)))))) :
    VLI D 63 1 [(0, vR 7 (a0)), (1, vI v1), (2, vI v2), (3, vI v3)] [] m Q E := by
  refine VL_at (al := [(0, vR 7 (a0)), (1, vI v1), (2, vI v2), (3, vI v3)]) (st := []) km63 k63_1 ?_
  refine And.intro (fun c2 => ?_) (fun c2 => ?_)
  · refine VL_norm km63 k63_5 (VL_at (al := [(2, vI v2)]) (st := []) km63 k63_5 ?_)
    exact (h.1 c2)
  · refine VL_norm km63 k63_2 (VL_at (al := [(0, vR 7 (a0)), (1, vI v1), (2, vI v2), (3, vI v3)]) (st := []) km63 k63_2 ?_)
    refine And.intro (h.2 c2).1 ?_
    refine And.intro (fun c1 => ?_) (fun c1 => ?_)
    · refine VL_norm km63 k63_4 (VL_at (al := [(0, vR 7 (a0)), (1, vI v1), (2, vI v2), (3, vI v3)]) (st := []) km63 k63_4 ?_)
      exact VL_norm km63 k63_1 ((h.2 c2).2.1 c1)
    · refine VL_norm km63 k63_3 (VL_at (al := [(0, vR 7 (a0)), (1, vI v1), (2, vI v2), (3, vI v3)]) (st := []) km63 k63_3 ?_)
      refine VL_norm km63 k63_4 (VL_at (al := [(0, vR 7 (a0)), (1, vI v1), (2, vI (v2 + (n32 1))), (3, vI v3)]) (st := []) km63 k63_4 ?_)
      exact VL_norm km63 k63_1 ((h.2 c2).2.2 c1)
/-- BannerParade$Row.beyond, label 0 -/
theorem w64_0 {D : Nat} {a0 : Nat} {v1 : Int32} {m : XM} {Q : Int32 → XM → Prop} {E : Nat → XM → Prop}
    (h : VLI D 64 1 [(0, vR 7 (a0)), (1, vI v1), (2, vI (n32 0)), (3, vI (n32 0))] [] m Q E) :
    VI D 64 [vR 7 (a0), vI v1] m Q E := by
  refine V_of (VL_at (al := [(0, vR 7 (a0)), (1, vI v1)]) (st := []) km64 k64_0 ?_)
  exact VL_norm km64 k64_1 h
/-- BannerParade$Row.beyond, label 1 -/
theorem w64_1 {D : Nat} {a0 : Nat} {v1 : Int32} {v2 : Int32} {v3 : Int32} {m : XM} {Q : Int32 → XM → Prop} {E : Nat → XM → Prop}
    (h : (((m a0 0) ≤ v3 → Q v2 m) ∧ (¬ (m a0 0) ≤ v3 → (xin v3 12 = true ∧ (((m (a0 + 6) (ix v3)) ≤ v1 → VLI D 64 1 [(0, vR 7 (a0)), (1, vI v1), (2, vI v2), (3, vI (v3 + (n32 1)))] [] m Q E) ∧ (¬ (m (a0 + 6) (ix v3)) ≤ v1 → VLI D 64 1 [(0, vR 7 (a0)), (1, vI v1), (2, vI (v2 + (n32 1))), (3, vI (v3 + (n32 1)))] [] m Q E)))))) :
    VLI D 64 1 [(0, vR 7 (a0)), (1, vI v1), (2, vI v2), (3, vI v3)] [] m Q E := by
  refine VL_at (al := [(0, vR 7 (a0)), (1, vI v1), (2, vI v2), (3, vI v3)]) (st := []) km64 k64_1 ?_
  refine And.intro (fun c2 => ?_) (fun c2 => ?_)
  · refine VL_norm km64 k64_5 (VL_at (al := [(2, vI v2)]) (st := []) km64 k64_5 ?_)
    exact (h.1 c2)
  · refine VL_norm km64 k64_2 (VL_at (al := [(0, vR 7 (a0)), (1, vI v1), (2, vI v2), (3, vI v3)]) (st := []) km64 k64_2 ?_)
    refine And.intro (h.2 c2).1 ?_
    refine And.intro (fun c1 => ?_) (fun c1 => ?_)
    · refine VL_norm km64 k64_4 (VL_at (al := [(0, vR 7 (a0)), (1, vI v1), (2, vI v2), (3, vI v3)]) (st := []) km64 k64_4 ?_)
      exact VL_norm km64 k64_1 ((h.2 c2).2.1 c1)
    · refine VL_norm km64 k64_3 (VL_at (al := [(0, vR 7 (a0)), (1, vI v1), (2, vI v2), (3, vI v3)]) (st := []) km64 k64_3 ?_)
      refine VL_norm km64 k64_4 (VL_at (al := [(0, vR 7 (a0)), (1, vI v1), (2, vI (v2 + (n32 1))), (3, vI v3)]) (st := []) km64 k64_4 ?_)
      exact VL_norm km64 k64_1 ((h.2 c2).2.2 c1)
/-- BannerParade$Row.shortOf, label 0 -/
theorem w65_0 {D : Nat} {a0 : Nat} {v1 : Int32} {m : XM} {Q : Int32 → XM → Prop} {E : Nat → XM → Prop}
    (h : VLI D 65 1 [(0, vR 7 (a0)), (1, vI v1), (2, vI (n32 0)), (3, vI (n32 0))] [] m Q E) :
    VI D 65 [vR 7 (a0), vI v1] m Q E := by
  refine V_of (VL_at (al := [(0, vR 7 (a0)), (1, vI v1)]) (st := []) km65 k65_0 ?_)
  exact VL_norm km65 k65_1 h
/-- BannerParade$Row.shortOf, label 1 -/
theorem w65_1 {D : Nat} {a0 : Nat} {v1 : Int32} {v2 : Int32} {v3 : Int32} {m : XM} {Q : Int32 → XM → Prop} {E : Nat → XM → Prop}
    (h : (((m a0 0) ≤ v3 → Q v2 m) ∧ (¬ (m a0 0) ≤ v3 → (xin v3 12 = true ∧ ((v1 ≤ (m (a0 + 6) (ix v3)) → VLI D 65 1 [(0, vR 7 (a0)), (1, vI v1), (2, vI v2), (3, vI (v3 + (n32 1)))] [] m Q E) ∧ (¬ v1 ≤ (m (a0 + 6) (ix v3)) → VLI D 65 1 [(0, vR 7 (a0)), (1, vI v1), (2, vI (v2 + (n32 1))), (3, vI (v3 + (n32 1)))] [] m Q E)))))) :
    VLI D 65 1 [(0, vR 7 (a0)), (1, vI v1), (2, vI v2), (3, vI v3)] [] m Q E := by
  refine VL_at (al := [(0, vR 7 (a0)), (1, vI v1), (2, vI v2), (3, vI v3)]) (st := []) km65 k65_1 ?_
  refine And.intro (fun c2 => ?_) (fun c2 => ?_)
  · refine VL_norm km65 k65_5 (VL_at (al := [(2, vI v2)]) (st := []) km65 k65_5 ?_)
    exact (h.1 c2)
  · refine VL_norm km65 k65_2 (VL_at (al := [(0, vR 7 (a0)), (1, vI v1), (2, vI v2), (3, vI v3)]) (st := []) km65 k65_2 ?_)
    refine And.intro (h.2 c2).1 ?_
    refine And.intro (fun c1 => ?_) (fun c1 => ?_)
    · refine VL_norm km65 k65_4 (VL_at (al := [(0, vR 7 (a0)), (1, vI v1), (2, vI v2), (3, vI v3)]) (st := []) km65 k65_4 ?_)
      exact VL_norm km65 k65_1 ((h.2 c2).2.1 c1)
    · refine VL_norm km65 k65_3 (VL_at (al := [(0, vR 7 (a0)), (1, vI v1), (2, vI v2), (3, vI v3)]) (st := []) km65 k65_3 ?_)
      refine VL_norm km65 k65_4 (VL_at (al := [(0, vR 7 (a0)), (1, vI v1), (2, vI (v2 + (n32 1))), (3, vI v3)]) (st := []) km65 k65_4 ?_)
      exact VL_norm km65 k65_1 ((h.2 c2).2.2 c1)
/-- BannerParade$Row.leastDifference, label 0 -/
theorem w66_0 {D : Nat} {a0 : Nat} {v1 : Int32} {m : XM} {Q : Int32 → XM → Prop} {E : Nat → XM → Prop}
    (h : VLI (D + 1) 66 1 [(0, vR 7 (a0)), (1, vI v1), (2, vI (-(n32 1))), (3, vI (n32 0))] [] m Q E) :
    VI (D + 1) 66 [vR 7 (a0), vI v1] m Q E := by
  refine V_of (VL_at (al := [(0, vR 7 (a0)), (1, vI v1)]) (st := []) km66 k66_0 ?_)
  exact VL_norm km66 k66_1 h
/-- BannerParade$Row.leastDifference, label 1 -/
theorem w66_1 {D : Nat} {a0 : Nat} {v1 : Int32} {v2 : Int32} {v3 : Int32} {m : XM} {Q : Int32 → XM → Prop} {E : Nat → XM → Prop}
    (h : (((m a0 0) ≤ v3 → Q v2 m) ∧ (¬ (m a0 0) ≤ v3 → (xin v3 12 = true ∧ VI D 384 [vI ((m (a0 + 6) (ix v3)) - v1)] m (fun x1 m1 => ((v2 = (-(n32 1)) → VLI (D + 1) 66 1 [(0, vR 7 (a0)), (1, vI v1), (2, vI x1), (3, vI (v3 + (n32 1)))] [] m1 Q E) ∧ (¬ v2 = (-(n32 1)) → ((v2 ≤ x1 → VLI (D + 1) 66 1 [(0, vR 7 (a0)), (1, vI v1), (2, vI v2), (3, vI (v3 + (n32 1)))] [] m1 Q E) ∧ (¬ v2 ≤ x1 → VLI (D + 1) 66 1 [(0, vR 7 (a0)), (1, vI v1), (2, vI x1), (3, vI (v3 + (n32 1)))] [] m1 Q E))))) E)))) :
    VLI (D + 1) 66 1 [(0, vR 7 (a0)), (1, vI v1), (2, vI v2), (3, vI v3)] [] m Q E := by
  refine VL_at (al := [(0, vR 7 (a0)), (1, vI v1), (2, vI v2), (3, vI v3)]) (st := []) km66 k66_1 ?_
  refine And.intro (fun c4 => ?_) (fun c4 => ?_)
  · refine VL_norm km66 k66_6 (VL_at (al := [(2, vI v2)]) (st := []) km66 k66_6 ?_)
    exact (h.1 c4)
  · refine VL_norm km66 k66_2 (VL_at (al := [(0, vR 7 (a0)), (1, vI v1), (2, vI v2), (3, vI v3)]) (st := []) km66 k66_2 ?_)
    refine And.intro (h.2 c4).1 ?_
    refine V_mono (h.2 c4).2 (fun u1 m1 h1 => ?_) (fun _ _ h => h)
    refine And.intro (fun c3 => ?_) (fun c3 => ?_)
    · refine VL_norm km66 k66_4 (VL_at (al := [(0, vR 7 (a0)), (1, vI v1), (3, vI v3), (4, vI (xti u1))]) (st := []) km66 k66_4 ?_)
      refine VL_norm km66 k66_5 (VL_at (al := [(0, vR 7 (a0)), (1, vI v1), (2, vI (xti u1)), (3, vI v3)]) (st := []) km66 k66_5 ?_)
      exact VL_norm km66 k66_1 (h1.1 c3)
    · refine VL_norm km66 k66_3 (VL_at (al := [(0, vR 7 (a0)), (1, vI v1), (2, vI v2), (3, vI v3), (4, vI (xti u1))]) (st := []) km66 k66_3 ?_)
      refine And.intro (fun c2 => ?_) (fun c2 => ?_)
      · refine VL_norm km66 k66_5 (VL_at (al := [(0, vR 7 (a0)), (1, vI v1), (2, vI v2), (3, vI v3)]) (st := []) km66 k66_5 ?_)
        exact VL_norm km66 k66_1 ((h1.2 c3).1 c2)
      · refine VL_norm km66 k66_4 (VL_at (al := [(0, vR 7 (a0)), (1, vI v1), (3, vI v3), (4, vI (xti u1))]) (st := []) km66 k66_4 ?_)
        refine VL_norm km66 k66_5 (VL_at (al := [(0, vR 7 (a0)), (1, vI v1), (2, vI (xti u1)), (3, vI v3)]) (st := []) km66 k66_5 ?_)
        exact VL_norm km66 k66_1 ((h1.2 c3).2 c2)
/-- BannerParade$State.copyFrom, label 0 -/
theorem w68_0 {D : Nat} {a0 : Nat} {a1 : Nat} {m : XM} {Q : XM → Prop} {E : Nat → XM → Prop}
    (h : (∀ μ1 : XM, μ1 = um (um (um (um m (a0) 0 (m a1 0)) (a0) 1 ((um m (a0) 0 (m a1 0)) a1 1)) (a0) 2 ((um (um m (a0) 0 (m a1 0)) (a0) 1 ((um m (a0) 0 (m a1 0)) a1 1)) a1 2)) (a0) 3 ((um (um (um m (a0) 0 (m a1 0)) (a0) 1 ((um m (a0) 0 (m a1 0)) a1 1)) (a0) 2 ((um (um m (a0) 0 (m a1 0)) (a0) 1 ((um m (a0) 0 (m a1 0)) a1 1)) a1 2)) a1 3) → VU (D + 1) 172 [vR 200006 (a1 + 1), vR 200006 (a0 + 1)] μ1 (fun m2 => VU (D + 1) 172 [vR 200006 (a1 + 2), vR 200006 (a0 + 2)] m2 (fun m3 => VU (D + 1) 48 [vR 7 (a0 + 3), vR 7 (a1 + 3)] m3 (fun m4 => VU (D + 1) 4 [vR 1 (a0 + 12), vR 1 (a1 + 12)] m4 (fun m5 => VU (D + 1) 28 [vR 4 (a0 + 16), vR 4 (a1 + 16)] m5 (fun m6 => Q m6) E) E) E) E) E)) :
    VU (D + 2) 68 [vR 8 (a0), vR 8 (a1)] m Q E := by
  refine V_of (VL_at (al := [(0, vR 8 (a0)), (1, vR 8 (a1))]) (st := []) km68 k68_0 ?_)
  refine V_mono (h (um (um (um (um m (a0) 0 (m a1 0)) (a0) 1 ((um m (a0) 0 (m a1 0)) a1 1)) (a0) 2 ((um (um m (a0) 0 (m a1 0)) (a0) 1 ((um m (a0) 0 (m a1 0)) a1 1)) a1 2)) (a0) 3 ((um (um (um m (a0) 0 (m a1 0)) (a0) 1 ((um m (a0) 0 (m a1 0)) a1 1)) (a0) 2 ((um (um m (a0) 0 (m a1 0)) (a0) 1 ((um m (a0) 0 (m a1 0)) a1 1)) a1 2)) a1 3)) rfl) (fun u2 m2 h2 => ?_) (fun _ _ h => h)
  refine V_mono h2 (fun u3 m3 h3 => ?_) (fun _ _ h => h)
  refine V_mono h3 (fun u4 m4 h4 => ?_) (fun _ _ h => h)
  refine V_mono h4 (fun u5 m5 h5 => ?_) (fun _ _ h => h)
  refine V_mono h5 (fun u6 m6 h6 => ?_) (fun _ _ h => h)
  exact h6
/-- BannerParade$State.clear, label 0 -/
theorem w69_0 {D : Nat} {a0 : Nat} {m : XM} {Q : XM → Prop} {E : Nat → XM → Prop}
    (h : VLU D 69 1 [(0, vR 8 (a0)), (1, vI (n32 0))] [] (um (um (um (um (um (um (um m (a0) 0 (n32 0)) (a0) 1 (n32 0)) (a0) 2 (n32 0)) (a0) 3 (n32 0)) (a0 + 3) 0 (n32 0)) (a0 + 12) 0 (n32 0)) (a0 + 16) 0 (n32 0)) Q E) :
    VU D 69 [vR 8 (a0)] m Q E := by
  refine V_of (VL_at (al := [(0, vR 8 (a0))]) (st := []) km69 k69_0 ?_)
  exact VL_norm km69 k69_1 h
/-- BannerParade$State.clear, label 1 -/
theorem w69_1 {D : Nat} {a0 : Nat} {v1 : Int32} {m : XM} {Q : XM → Prop} {E : Nat → XM → Prop}
    (h : (((n32 6) ≤ v1 → Q m) ∧ (¬ (n32 6) ≤ v1 → (xin v1 6 = true ∧ VLU D 69 1 [(0, vR 8 (a0)), (1, vI (v1 + (n32 1)))] [] (um m (a0 + 2) (ix v1) (-(n32 1))) Q E)))) :
    VLU D 69 1 [(0, vR 8 (a0)), (1, vI v1)] [] m Q E := by
  refine VL_at (al := [(0, vR 8 (a0)), (1, vI v1)]) (st := []) km69 k69_1 ?_
  refine And.intro (fun c1 => ?_) (fun c1 => ?_)
  · refine VL_norm km69 k69_3 (VL_at (al := []) (st := []) km69 k69_3 ?_)
    exact (h.1 c1)
  · refine VL_norm km69 k69_2 (VL_at (al := [(0, vR 8 (a0)), (1, vI v1)]) (st := []) km69 k69_2 ?_)
    refine And.intro (h.2 c1).1 ?_
    exact VL_norm km69 k69_1 (h.2 c1).2
/-- BannerParade$State.passTick, label 0 -/
theorem w70_0 {D : Nat} {a0 : Nat} {m : XM} {Q : XM → Prop} {E : Nat → XM → Prop}
    (h : VU (D + 3) 71 [vR 8 (a0)] (um m (a0) 0 ((m a0 0) + (n32 1))) (fun m1 => VU (D + 3) 54 [vR 7 (a0 + 3), vI (m1 (a0 + 1) (ix (n32 0))), vI (m1 (a0 + 1) (ix (n32 3)))] m1 (fun m2 => VU (D + 3) 72 [vR 8 (a0)] m2 (fun m3 => VU (D + 3) 73 [vR 8 (a0)] m3 (fun m4 => Q m4) E) E) E) E) :
    VU (D + 4) 70 [vR 8 (a0)] m Q E := by
  refine V_of (VL_at (al := [(0, vR 8 (a0))]) (st := []) km70 k70_0 ?_)
  refine V_mono h (fun u1 m1 h1 => ?_) (fun _ _ h => h)
  refine And.intro (xin_k rfl) ?_
  refine And.intro (xin_k rfl) ?_
  refine V_mono h1 (fun u2 m2 h2 => ?_) (fun _ _ h => h)
  refine V_mono h2 (fun u3 m3 h3 => ?_) (fun _ _ h => h)
  refine V_mono h3 (fun u4 m4 h4 => ?_) (fun _ _ h => h)
  exact h4
/-- BannerParade$State.doPlans, label 0 -/
theorem w71_0 {D : Nat} {a0 : Nat} {m : XM} {Q : XM → Prop} {E : Nat → XM → Prop}
    (h : VLU (D + 3) 71 1 [(0, vR 8 (a0)), (1, vI (n32 0))] [] m Q E) :
    VU (D + 3) 71 [vR 8 (a0)] m Q E := by
  refine V_of (VL_at (al := [(0, vR 8 (a0))]) (st := []) km71 k71_0 ?_)
  exact VL_norm km71 k71_1 h
/-- BannerParade$State.doPlans, label 1 -/
theorem w71_1 {D : Nat} {a0 : Nat} {v1 : Int32} {m : XM} {Q : XM → Prop} {E : Nat → XM → Prop}
    (h : (((m (a0 + 16) 0) ≤ v1 → Q m) ∧ (¬ (m (a0 + 16) 0) ≤ v1 → (xin v1 12 = true ∧ (((m (a0 + 16 + 1) (ix v1)) = (m a0 0) → VI (D + 2) 74 [vR 8 (a0), vI (m (a0 + 16 + 2) (ix v1))] m (fun x1 m1 => ((x1 = (n32 0) → VLU (D + 3) 71 1 [(0, vR 8 (a0)), (1, vI (v1 + (n32 1)))] [] (um m1 (a0 + 16 + 3) (ix v1) (n32 2)) Q E) ∧ (¬ x1 = (n32 0) → VU (D + 2) 75 [vR 8 (a0), vI ((um m1 (a0 + 16 + 3) (ix v1) (n32 1)) (a0 + 16 + 2) (ix v1))] (um m1 (a0 + 16 + 3) (ix v1) (n32 1)) (fun m2 => VLU (D + 3) 71 1 [(0, vR 8 (a0)), (1, vI (v1 + (n32 1)))] [] m2 Q E) E))) E) ∧ (¬ (m (a0 + 16 + 1) (ix v1)) = (m a0 0) → VLU (D + 3) 71 1 [(0, vR 8 (a0)), (1, vI (v1 + (n32 1)))] [] m Q E)))))) :
    VLU (D + 3) 71 1 [(0, vR 8 (a0)), (1, vI v1)] [] m Q E := by
  refine VL_at (al := [(0, vR 8 (a0)), (1, vI v1)]) (st := []) km71 k71_1 ?_
  refine And.intro (fun c5 => ?_) (fun c5 => ?_)
  · refine VL_norm km71 k71_9 (VL_at (al := []) (st := []) km71 k71_9 ?_)
    exact (h.1 c5)
  · refine VL_norm km71 k71_2 (VL_at (al := [(0, vR 8 (a0)), (1, vI v1)]) (st := []) km71 k71_2 ?_)
    refine And.intro (h.2 c5).1 ?_
    refine And.intro (fun c4 => ?_) (fun c4 => ?_)
    · refine VL_norm km71 k71_3 (VL_at (al := [(0, vR 8 (a0)), (1, vI v1)]) (st := []) km71 k71_3 ?_)
      refine And.intro (h.2 c5).1 ?_
      refine V_mono ((h.2 c5).2.1 c4) (fun u1 m1 h1 => ?_) (fun _ _ h => h)
      refine And.intro (fun c3 => ?_) (fun c3 => ?_)
      · refine VL_norm km71 k71_5 (VL_at (al := [(0, vR 8 (a0)), (1, vI v1), (2, vI (xti u1))]) (st := [vI v1, vR 200012 (a0 + 16 + 3)]) km71 k71_5 ?_)
        refine VL_norm km71 k71_6 (VL_at (al := [(0, vR 8 (a0)), (1, vI v1), (2, vI (xti u1))]) (st := [vI (n32 2), vI v1, vR 200012 (a0 + 16 + 3)]) km71 k71_6 ?_)
        refine And.intro (h.2 c5).1 ?_
        refine And.intro (fun _ => ?_) (fun c => absurd c3 c)
        refine VL_norm km71 k71_8 (VL_at (al := [(0, vR 8 (a0)), (1, vI v1)]) (st := []) km71 k71_8 ?_)
        exact VL_norm km71 k71_1 (h1.1 c3)
      · refine VL_norm km71 k71_4 (VL_at (al := [(0, vR 8 (a0)), (1, vI v1), (2, vI (xti u1))]) (st := [vI v1, vR 200012 (a0 + 16 + 3)]) km71 k71_4 ?_)
        refine VL_norm km71 k71_6 (VL_at (al := [(0, vR 8 (a0)), (1, vI v1), (2, vI (xti u1))]) (st := [vI (n32 1), vI v1, vR 200012 (a0 + 16 + 3)]) km71 k71_6 ?_)
        refine And.intro (h.2 c5).1 ?_
        refine And.intro (fun c => absurd c c3) (fun _ => ?_)
        refine VL_norm km71 k71_7 (VL_at (al := [(0, vR 8 (a0)), (1, vI v1)]) (st := []) km71 k71_7 ?_)
        refine And.intro (h.2 c5).1 ?_
        refine V_mono (h1.2 c3) (fun u2 m2 h2 => ?_) (fun _ _ h => h)
        refine VL_norm km71 k71_8 (VL_at (al := [(0, vR 8 (a0)), (1, vI v1)]) (st := []) km71 k71_8 ?_)
        exact VL_norm km71 k71_1 h2
    · refine VL_norm km71 k71_8 (VL_at (al := [(0, vR 8 (a0)), (1, vI v1)]) (st := []) km71 k71_8 ?_)
      exact VL_norm km71 k71_1 ((h.2 c5).2.2 c4)
/-- BannerParade$State.dropOfTheWeak, label 0 -/
theorem w72_0 {D : Nat} {a0 : Nat} {m : XM} {Q : XM → Prop} {E : Nat → XM → Prop}
    (h : VLU (D + 2) 72 1 [(0, vR 8 (a0)), (1, vI (n32 0))] [] m Q E) :
    VU (D + 2) 72 [vR 8 (a0)] m Q E := by
  refine V_of (VL_at (al := [(0, vR 8 (a0))]) (st := []) km72 k72_0 ?_)
  exact VL_norm km72 k72_1 h
/-- BannerParade$State.dropOfTheWeak, label 1 -/
theorem w72_1 {D : Nat} {a0 : Nat} {v1 : Int32} {m : XM} {Q : XM → Prop} {E : Nat → XM → Prop}
    (h : (((m (a0 + 3) 0) ≤ v1 → Q m) ∧ (¬ (m (a0 + 3) 0) ≤ v1 → (xin v1 12 = true ∧ (((m (a0 + 3 + 5) (ix v1)) = (n32 0) → VLU (D + 2) 72 1 [(0, vR 8 (a0)), (1, vI (v1 + (n32 1)))] [] m Q E) ∧ (¬ (m (a0 + 3 + 5) (ix v1)) = (n32 0) → (((m (a0 + 3 + 4) (ix v1)) = (n32 0) → VU (D + 1) 76 [vR 8 (a0), vI v1] m (fun m1 => VLU (D + 2) 72 1 [(0, vR 8 (a0)), (1, vI (v1 + (n32 1)))] [] m1 Q E) E) ∧ (¬ (m (a0 + 3 + 4) (ix v1)) = (n32 0) → VLU (D + 2) 72 1 [(0, vR 8 (a0)), (1, vI (v1 + (n32 1)))] [] m Q E)))))))) :
    VLU (D + 2) 72 1 [(0, vR 8 (a0)), (1, vI v1)] [] m Q E := by
  refine VL_at (al := [(0, vR 8 (a0)), (1, vI v1)]) (st := []) km72 k72_1 ?_
  refine And.intro (fun c4 => ?_) (fun c4 => ?_)
  · refine VL_norm km72 k72_6 (VL_at (al := []) (st := []) km72 k72_6 ?_)
    exact (h.1 c4)
  · refine VL_norm km72 k72_2 (VL_at (al := [(0, vR 8 (a0)), (1, vI v1)]) (st := []) km72 k72_2 ?_)
    refine And.intro (h.2 c4).1 ?_
    refine And.intro (fun c3 => ?_) (fun c3 => ?_)
    · refine VL_norm km72 k72_5 (VL_at (al := [(0, vR 8 (a0)), (1, vI v1)]) (st := []) km72 k72_5 ?_)
      exact VL_norm km72 k72_1 ((h.2 c4).2.1 c3)
    · refine VL_norm km72 k72_3 (VL_at (al := [(0, vR 8 (a0)), (1, vI v1)]) (st := []) km72 k72_3 ?_)
      refine And.intro (h.2 c4).1 ?_
      refine And.intro (fun c2 => ?_) (fun c2 => ?_)
      · refine VL_norm km72 k72_4 (VL_at (al := [(0, vR 8 (a0)), (1, vI v1)]) (st := []) km72 k72_4 ?_)
        refine V_mono (((h.2 c4).2.2 c3).1 c2) (fun u1 m1 h1 => ?_) (fun _ _ h => h)
        refine VL_norm km72 k72_5 (VL_at (al := [(0, vR 8 (a0)), (1, vI v1)]) (st := []) km72 k72_5 ?_)
        exact VL_norm km72 k72_1 h1
      · refine VL_norm km72 k72_5 (VL_at (al := [(0, vR 8 (a0)), (1, vI v1)]) (st := []) km72 k72_5 ?_)
        exact VL_norm km72 k72_1 (((h.2 c4).2.2 c3).2 c2)
/-- BannerParade$State.liftOnTheWay, label 0 -/
theorem w73_0 {D : Nat} {a0 : Nat} {m : XM} {Q : XM → Prop} {E : Nat → XM → Prop}
    (h : VLU (D + 2) 73 1 [(0, vR 8 (a0)), (1, vI (n32 0))] [] m Q E) :
    VU (D + 2) 73 [vR 8 (a0)] m Q E := by
  refine V_of (VL_at (al := [(0, vR 8 (a0))]) (st := []) km73 k73_0 ?_)
  exact VL_norm km73 k73_1 h
/-- BannerParade$State.liftOnTheWay, label 1 -/
theorem w73_1 {D : Nat} {a0 : Nat} {v1 : Int32} {m : XM} {Q : XM → Prop} {E : Nat → XM → Prop}
    (h : (((m (a0 + 3) 0) ≤ v1 → Q m) ∧ (¬ (m (a0 + 3) 0) ≤ v1 → (((m (a0 + 12) 0) ≤ (n32 0) → VLU (D + 2) 73 1 [(0, vR 8 (a0)), (1, vI (v1 + (n32 1)))] [] m Q E) ∧ (¬ (m (a0 + 12) 0) ≤ (n32 0) → (xin v1 12 = true ∧ (((m (a0 + 3 + 5) (ix v1)) = (n32 0) → (((m (a0 + 3 + 4) (ix v1)) < (m (a0 + 1) (ix (n32 4))) → VLU (D + 2) 73 1 [(0, vR 8 (a0)), (1, vI (v1 + (n32 1)))] [] m Q E) ∧ (¬ (m (a0 + 3 + 4) (ix v1)) < (m (a0 + 1) (ix (n32 4))) → VI (D + 1) 8 [vR 1 (a0 + 12), vI (m (a0 + 3 + 7) (ix v1)), vI (m (a0 + 3 + 6) (ix v1))] m (fun x1 m1 => VU (D + 1) 78 [vR 8 (a0), vI v1, vI x1] m1 (fun m2 => VLU (D + 2) 73 1 [(0, vR 8 (a0)), (1, vI (v1 + (n32 1)))] [] m2 Q E) E) E))) ∧ (¬ (m (a0 + 3 + 5) (ix v1)) = (n32 0) → VLU (D + 2) 73 1 [(0, vR 8 (a0)), (1, vI (v1 + (n32 1)))] [] m Q E)))))))) :
    VLU (D + 2) 73 1 [(0, vR 8 (a0)), (1, vI v1)] [] m Q E := by
  refine VL_at (al := [(0, vR 8 (a0)), (1, vI v1)]) (st := []) km73 k73_1 ?_
  refine And.intro (fun c6 => ?_) (fun c6 => ?_)
  · refine VL_norm km73 k73_6 (VL_at (al := []) (st := []) km73 k73_6 ?_)
    exact (h.1 c6)
  · refine VL_norm km73 k73_2 (VL_at (al := [(0, vR 8 (a0)), (1, vI v1)]) (st := []) km73 k73_2 ?_)
    refine And.intro (fun c5 => ?_) (fun c5 => ?_)
    · refine VL_norm km73 k73_5 (VL_at (al := [(0, vR 8 (a0)), (1, vI v1)]) (st := []) km73 k73_5 ?_)
      exact VL_norm km73 k73_1 ((h.2 c6).1 c5)
    · refine VL_norm km73 k73_3 (VL_at (al := [(0, vR 8 (a0)), (1, vI v1)]) (st := []) km73 k73_3 ?_)
      refine V_of ?_
      refine VL_norm km77 k77_0 (VL_at (al := [(0, vR 8 (a0)), (1, vI v1)]) (st := []) km77 k77_0 ?_)
      refine And.intro ((h.2 c6).2 c5).1 ?_
      refine And.intro (fun c4 => ?_) (fun c4 => ?_)
      · refine VL_norm km77 k77_1 (VL_at (al := [(0, vR 8 (a0)), (1, vI v1)]) (st := []) km77 k77_1 ?_)
        refine And.intro ((h.2 c6).2 c5).1 ?_
        refine And.intro (xin_k rfl) ?_
        refine And.intro (fun c3 => ?_) (fun c3 => ?_)
        · refine VL_norm km77 k77_3 (VL_at (al := []) (st := []) km77 k77_3 ?_)
          refine VL_norm km77 k77_4 (VL_at (al := []) (st := [vI (n32 0)]) km77 k77_4 ?_)
          refine And.intro xrt20 ?_
          refine And.intro (fun _ => ?_) (fun c => absurd (by decide) c)
          refine VL_norm km73 k73_5 (VL_at (al := [(0, vR 8 (a0)), (1, vI v1)]) (st := []) km73 k73_5 ?_)
          exact VL_norm km73 k73_1 ((((h.2 c6).2 c5).2.1 c4).1 c3)
        · refine VL_norm km77 k77_2 (VL_at (al := []) (st := []) km77 k77_2 ?_)
          refine VL_norm km77 k77_4 (VL_at (al := []) (st := [vI (n32 1)]) km77 k77_4 ?_)
          refine And.intro xrt21 ?_
          refine And.intro (fun c => absurd c (by decide)) (fun _ => ?_)
          refine VL_norm km73 k73_4 (VL_at (al := [(0, vR 8 (a0)), (1, vI v1)]) (st := []) km73 k73_4 ?_)
          refine And.intro ((h.2 c6).2 c5).1 ?_
          refine And.intro ((h.2 c6).2 c5).1 ?_
          refine V_mono ((((h.2 c6).2 c5).2.1 c4).2 c3) (fun u1 m1 h1 => ?_) (fun _ _ h => h)
          refine V_mono h1 (fun u2 m2 h2 => ?_) (fun _ _ h => h)
          refine VL_norm km73 k73_5 (VL_at (al := [(0, vR 8 (a0)), (1, vI v1)]) (st := []) km73 k73_5 ?_)
          exact VL_norm km73 k73_1 h2
      · refine VL_norm km77 k77_3 (VL_at (al := []) (st := []) km77 k77_3 ?_)
        refine VL_norm km77 k77_4 (VL_at (al := []) (st := [vI (n32 0)]) km77 k77_4 ?_)
        refine And.intro xrt20 ?_
        refine And.intro (fun _ => ?_) (fun c => absurd (by decide) c)
        refine VL_norm km73 k73_5 (VL_at (al := [(0, vR 8 (a0)), (1, vI v1)]) (st := []) km73 k73_5 ?_)
        exact VL_norm km73 k73_1 (((h.2 c6).2 c5).2.2 c4)
/-- BannerParade$State.maySwap, label 0 -/
theorem w74_0 {D : Nat} {a0 : Nat} {v1 : Int32} {m : XM} {Q : Int32 → XM → Prop} {E : Nat → XM → Prop}
    (h : ((v1 < (n32 0) → Q (n32 0) m) ∧ (¬ v1 < (n32 0) → (((m (a0 + 3) 0) ≤ (v1 + (n32 1)) → Q (n32 0) m) ∧ (¬ (m (a0 + 3) 0) ≤ (v1 + (n32 1)) → (((v1 + (n32 1)) ≤ (n32 0) → (((m (a0 + 1) (ix (n32 5))) < (-(n32 1)) → Q (n32 0) m) ∧ (¬ (m (a0 + 1) (ix (n32 5))) < (-(n32 1)) → (xin v1 12 = true ∧ (((m (a0 + 3 + 4) (ix v1)) < (n32 1) → Q (n32 0) m) ∧ (¬ (m (a0 + 3 + 4) (ix v1)) < (n32 1) → (xin (v1 + (n32 1)) 12 = true ∧ (((m (a0 + 3 + 4) (ix (v1 + (n32 1)))) < (n32 1) → Q (n32 0) m) ∧ (¬ (m (a0 + 3 + 4) (ix (v1 + (n32 1)))) < (n32 1) → Q (n32 1) m))))))))) ∧ (¬ (v1 + (n32 1)) ≤ (n32 0) → (xin ((v1 + (n32 1)) - (n32 1)) 12 = true ∧ (xin (v1 + (n32 1)) 12 = true ∧ (((m (a0 + 1) (ix (n32 5))) < ((m (a0 + 3 + 6) (ix ((v1 + (n32 1)) - (n32 1)))) - (m (a0 + 3 + 6) (ix (v1 + (n32 1))))) → Q (n32 0) m) ∧ (¬ (m (a0 + 1) (ix (n32 5))) < ((m (a0 + 3 + 6) (ix ((v1 + (n32 1)) - (n32 1)))) - (m (a0 + 3 + 6) (ix (v1 + (n32 1))))) → (xin v1 12 = true ∧ (((m (a0 + 3 + 4) (ix v1)) < (n32 1) → Q (n32 0) m) ∧ (¬ (m (a0 + 3 + 4) (ix v1)) < (n32 1) → (((m (a0 + 3 + 4) (ix (v1 + (n32 1)))) < (n32 1) → Q (n32 0) m) ∧ (¬ (m (a0 + 3 + 4) (ix (v1 + (n32 1)))) < (n32 1) → Q (n32 1) m)))))))))))))))) :
    VI (D + 1) 74 [vR 8 (a0), vI v1] m Q E := by
  refine V_of (VL_at (al := [(0, vR 8 (a0)), (1, vI v1)]) (st := []) km74 k74_0 ?_)
  refine And.intro (fun c9 => ?_) (fun c9 => ?_)
  · refine VL_norm km74 k74_6 (VL_at (al := []) (st := []) km74 k74_6 ?_)
    refine VL_norm km74 k74_7 (VL_at (al := []) (st := [vI (n32 0)]) km74 k74_7 ?_)
    refine And.intro xrt20 ?_
    exact (h.1 c9)
  · refine VL_norm km74 k74_1 (VL_at (al := [(0, vR 8 (a0)), (1, vI v1)]) (st := []) km74 k74_1 ?_)
    refine And.intro (fun c8 => ?_) (fun c8 => ?_)
    · refine VL_norm km74 k74_6 (VL_at (al := []) (st := []) km74 k74_6 ?_)
      refine VL_norm km74 k74_7 (VL_at (al := []) (st := [vI (n32 0)]) km74 k74_7 ?_)
      refine And.intro xrt20 ?_
      exact ((h.2 c9).1 c8)
    · refine VL_norm km74 k74_2 (VL_at (al := [(0, vR 8 (a0)), (1, vI v1)]) (st := []) km74 k74_2 ?_)
      refine V_of ?_
      refine VL_norm km51 k51_0 (VL_at (al := [(0, vR 7 (a0 + 3)), (1, vI (v1 + (n32 1)))]) (st := []) km51 k51_0 ?_)
      refine And.intro (fun c7 => ?_) (fun c7 => ?_)
      · refine VL_norm km51 k51_2 (VL_at (al := []) (st := []) km51 k51_2 ?_)
        refine VL_norm km51 k51_3 (VL_at (al := []) (st := [vI (-(n32 1))]) km51 k51_3 ?_)
        refine And.intro (xin_k rfl) ?_
        refine And.intro (fun c3 => ?_) (fun c3 => ?_)
        · refine VL_norm km74 k74_6 (VL_at (al := []) (st := []) km74 k74_6 ?_)
          refine VL_norm km74 k74_7 (VL_at (al := []) (st := [vI (n32 0)]) km74 k74_7 ?_)
          refine And.intro xrt20 ?_
          exact ((((h.2 c9).2 c8).1 c7).1 c3)
        · refine VL_norm km74 k74_3 (VL_at (al := [(0, vR 8 (a0)), (1, vI v1)]) (st := []) km74 k74_3 ?_)
          refine And.intro ((((h.2 c9).2 c8).1 c7).2 c3).1 ?_
          refine And.intro (fun c2 => ?_) (fun c2 => ?_)
          · refine VL_norm km74 k74_6 (VL_at (al := []) (st := []) km74 k74_6 ?_)
            refine VL_norm km74 k74_7 (VL_at (al := []) (st := [vI (n32 0)]) km74 k74_7 ?_)
            refine And.intro xrt20 ?_
            exact (((((h.2 c9).2 c8).1 c7).2 c3).2.1 c2)
          · refine VL_norm km74 k74_4 (VL_at (al := [(0, vR 8 (a0)), (1, vI v1)]) (st := []) km74 k74_4 ?_)
            refine And.intro (((((h.2 c9).2 c8).1 c7).2 c3).2.2 c2).1 ?_
            refine And.intro (fun c1 => ?_) (fun c1 => ?_)
            · refine VL_norm km74 k74_6 (VL_at (al := []) (st := []) km74 k74_6 ?_)
              refine VL_norm km74 k74_7 (VL_at (al := []) (st := [vI (n32 0)]) km74 k74_7 ?_)
              refine And.intro xrt20 ?_
              exact ((((((h.2 c9).2 c8).1 c7).2 c3).2.2 c2).2.1 c1)
            · refine VL_norm km74 k74_5 (VL_at (al := []) (st := []) km74 k74_5 ?_)
              refine VL_norm km74 k74_7 (VL_at (al := []) (st := [vI (n32 1)]) km74 k74_7 ?_)
              refine And.intro xrt21 ?_
              exact ((((((h.2 c9).2 c8).1 c7).2 c3).2.2 c2).2.2 c1)
      · refine VL_norm km51 k51_1 (VL_at (al := [(0, vR 7 (a0 + 3)), (1, vI (v1 + (n32 1)))]) (st := []) km51 k51_1 ?_)
        refine And.intro (((h.2 c9).2 c8).2 c7).1 ?_
        refine And.intro (((h.2 c9).2 c8).2 c7).2.1 ?_
        refine VL_norm km51 k51_3 (VL_at (al := []) (st := [vI ((m (a0 + 3 + 6) (ix ((v1 + (n32 1)) - (n32 1)))) - (m (a0 + 3 + 6) (ix (v1 + (n32 1)))))]) km51 k51_3 ?_)
        refine And.intro (xin_k rfl) ?_
        refine And.intro (fun c6 => ?_) (fun c6 => ?_)
        · refine VL_norm km74 k74_6 (VL_at (al := []) (st := []) km74 k74_6 ?_)
          refine VL_norm km74 k74_7 (VL_at (al := []) (st := [vI (n32 0)]) km74 k74_7 ?_)
          refine And.intro xrt20 ?_
          exact ((((h.2 c9).2 c8).2 c7).2.2.1 c6)
        · refine VL_norm km74 k74_3 (VL_at (al := [(0, vR 8 (a0)), (1, vI v1)]) (st := []) km74 k74_3 ?_)
          refine And.intro ((((h.2 c9).2 c8).2 c7).2.2.2 c6).1 ?_
          refine And.intro (fun c5 => ?_) (fun c5 => ?_)
          · refine VL_norm km74 k74_6 (VL_at (al := []) (st := []) km74 k74_6 ?_)
            refine VL_norm km74 k74_7 (VL_at (al := []) (st := [vI (n32 0)]) km74 k74_7 ?_)
            refine And.intro xrt20 ?_
            exact (((((h.2 c9).2 c8).2 c7).2.2.2 c6).2.1 c5)
          · refine VL_norm km74 k74_4 (VL_at (al := [(0, vR 8 (a0)), (1, vI v1)]) (st := []) km74 k74_4 ?_)
            refine And.intro (((h.2 c9).2 c8).2 c7).2.1 ?_
            refine And.intro (fun c4 => ?_) (fun c4 => ?_)
            · refine VL_norm km74 k74_6 (VL_at (al := []) (st := []) km74 k74_6 ?_)
              refine VL_norm km74 k74_7 (VL_at (al := []) (st := [vI (n32 0)]) km74 k74_7 ?_)
              refine And.intro xrt20 ?_
              exact ((((((h.2 c9).2 c8).2 c7).2.2.2 c6).2.2 c5).1 c4)
            · refine VL_norm km74 k74_5 (VL_at (al := []) (st := []) km74 k74_5 ?_)
              refine VL_norm km74 k74_7 (VL_at (al := []) (st := [vI (n32 1)]) km74 k74_7 ?_)
              refine And.intro xrt21 ?_
              exact ((((((h.2 c9).2 c8).2 c7).2.2.2 c6).2.2 c5).2 c4)
/-- BannerParade$State.swapBanners, label 0 -/
theorem w75_0 {D : Nat} {a0 : Nat} {v1 : Int32} {m : XM} {Q : XM → Prop} {E : Nat → XM → Prop}
    (h : ((v1 < (n32 0) → VU (D + 1) 52 [vR 7 (a0 + 3), vI v1, vI (-(n32 2))] m (fun m1 => VU (D + 1) 52 [vR 7 (a0 + 3), vI (v1 + (n32 1)), vI (-(n32 2))] m1 (fun m2 => Q (um m2 (a0) 1 ((m2 a0 1) + (n32 1)))) E) E) ∧ (¬ v1 < (n32 0) → (((v1 + (n32 1)) < (m (a0 + 3) 0) → (xin v1 12 = true ∧ (xin (v1 + (n32 1)) 12 = true ∧ VU (D + 1) 52 [vR 7 (a0 + 3), vI v1, vI (-(n32 2))] (um (um m (a0 + 3 + 5) (ix v1) (m (a0 + 3 + 5) (ix (v1 + (n32 1))))) (a0 + 3 + 5) (ix (v1 + (n32 1))) (m (a0 + 3 + 5) (ix v1))) (fun m3 => VU (D + 1) 52 [vR 7 (a0 + 3), vI (v1 + (n32 1)), vI (-(n32 2))] m3 (fun m4 => Q (um m4 (a0) 1 ((m4 a0 1) + (n32 1)))) E) E))) ∧ (¬ (v1 + (n32 1)) < (m (a0 + 3) 0) → VU (D + 1) 52 [vR 7 (a0 + 3), vI v1, vI (-(n32 2))] m (fun m5 => VU (D + 1) 52 [vR 7 (a0 + 3), vI (v1 + (n32 1)), vI (-(n32 2))] m5 (fun m6 => Q (um m6 (a0) 1 ((m6 a0 1) + (n32 1)))) E) E))))) :
    VU (D + 2) 75 [vR 8 (a0), vI v1] m Q E := by
  refine V_of (VL_at (al := [(0, vR 8 (a0)), (1, vI v1)]) (st := []) km75 k75_0 ?_)
  refine V_of ?_
  refine VL_norm km53 k53_0 (VL_at (al := [(0, vR 7 (a0 + 3)), (1, vI v1)]) (st := []) km53 k53_0 ?_)
  refine And.intro (fun c8 => ?_) (fun c8 => ?_)
  · refine VL_norm km53 k53_2 (VL_at (al := []) (st := []) km53 k53_2 ?_)
    refine V_mono (h.1 c8) (fun u1 m1 h1 => ?_) (fun _ _ h => h)
    refine V_mono h1 (fun u2 m2 h2 => ?_) (fun _ _ h => h)
    exact h2
  · refine VL_norm km53 k53_1 (VL_at (al := [(0, vR 7 (a0 + 3)), (1, vI v1)]) (st := []) km53 k53_1 ?_)
    refine And.intro (fun c7 => ?_) (fun c7 => ?_)
    · refine VL_norm km53 k53_3 (VL_at (al := [(0, vR 7 (a0 + 3)), (1, vI v1)]) (st := []) km53 k53_3 ?_)
      refine And.intro ((h.2 c8).1 c7).1 ?_
      refine And.intro ((h.2 c8).1 c7).2.1 ?_
      refine And.intro ((h.2 c8).1 c7).1 ?_
      refine And.intro ((h.2 c8).1 c7).2.1 ?_
      refine V_mono ((h.2 c8).1 c7).2.2 (fun u3 m3 h3 => ?_) (fun _ _ h => h)
      refine V_mono h3 (fun u4 m4 h4 => ?_) (fun _ _ h => h)
      exact h4
    · refine VL_norm km53 k53_2 (VL_at (al := []) (st := []) km53 k53_2 ?_)
      refine V_mono ((h.2 c8).2 c7) (fun u5 m5 h5 => ?_) (fun _ _ h => h)
      refine V_mono h5 (fun u6 m6 h6 => ?_) (fun _ _ h => h)
      exact h6
/-- BannerParade$State.dropBanner, label 0 -/
theorem w76_0 {D : Nat} {a0 : Nat} {v1 : Int32} {m : XM} {Q : XM → Prop} {E : Nat → XM → Prop}
    (h : (xin v1 12 = true ∧ (((m (a0 + 12) 0) < (n32 12) → (xin (m (a0 + 12) 0) 12 = true ∧ (xin ((um m (a0 + 12 + 1) (ix (m (a0 + 12) 0)) (m (a0 + 3 + 5) (ix v1))) (a0 + 12) 0) 12 = true ∧ (∀ μ1 : XM, μ1 = um (um m (a0 + 12 + 1) (ix (m (a0 + 12) 0)) (m (a0 + 3 + 5) (ix v1))) (a0 + 12 + 2) (ix ((um m (a0 + 12 + 1) (ix (m (a0 + 12) 0)) (m (a0 + 3 + 5) (ix v1))) (a0 + 12) 0)) (m (a0 + 3 + 6) (ix v1)) → (xin (μ1 (a0 + 12) 0) 12 = true ∧ (∀ μ2 : XM, μ2 = um (um (um μ1 (a0 + 12 + 3) (ix (μ1 (a0 + 12) 0)) (m a0 0)) (a0 + 12) 0 (((um μ1 (a0 + 12 + 3) (ix (μ1 (a0 + 12) 0)) (m a0 0)) (a0 + 12) 0) + (n32 1))) (a0 + 3 + 5) (ix v1) (n32 0) → Q (um μ2 (a0) 2 ((μ2 a0 2) + (n32 1))))))))) ∧ (¬ (m (a0 + 12) 0) < (n32 12) → Q (um (um m (a0 + 3 + 5) (ix v1) (n32 0)) (a0) 2 (((um m (a0 + 3 + 5) (ix v1) (n32 0)) a0 2) + (n32 1))))))) :
    VU (D + 1) 76 [vR 8 (a0), vI v1] m Q E := by
  refine V_of (VL_at (al := [(0, vR 8 (a0)), (1, vI v1)]) (st := []) km76 k76_0 ?_)
  refine And.intro h.1 ?_
  refine And.intro h.1 ?_
  refine V_of ?_
  refine VL_norm km5 k5_0 (VL_at (al := [(0, vR 1 (a0 + 12)), (1, vI (m (a0 + 3 + 5) (ix v1))), (2, vI (m (a0 + 3 + 6) (ix v1))), (3, vI (m a0 0))]) (st := []) km5 k5_0 ?_)
  refine And.intro (fun c3 => ?_) (fun c3 => ?_)
  · refine VL_norm km5 k5_2 (VL_at (al := [(0, vR 1 (a0 + 12)), (1, vI (m (a0 + 3 + 5) (ix v1))), (2, vI (m (a0 + 3 + 6) (ix v1))), (3, vI (m a0 0))]) (st := []) km5 k5_2 ?_)
    refine And.intro (h.2.1 c3).1 ?_
    refine And.intro (h.2.1 c3).2.1 ?_
    refine And.intro ((h.2.1 c3).2.2 (um (um m (a0 + 12 + 1) (ix (m (a0 + 12) 0)) (m (a0 + 3 + 5) (ix v1))) (a0 + 12 + 2) (ix ((um m (a0 + 12 + 1) (ix (m (a0 + 12) 0)) (m (a0 + 3 + 5) (ix v1))) (a0 + 12) 0)) (m (a0 + 3 + 6) (ix v1))) rfl).1 ?_
    refine And.intro h.1 ?_
    exact (((h.2.1 c3).2.2 (um (um m (a0 + 12 + 1) (ix (m (a0 + 12) 0)) (m (a0 + 3 + 5) (ix v1))) (a0 + 12 + 2) (ix ((um m (a0 + 12 + 1) (ix (m (a0 + 12) 0)) (m (a0 + 3 + 5) (ix v1))) (a0 + 12) 0)) (m (a0 + 3 + 6) (ix v1))) rfl).2 (um (um (um (um (um m (a0 + 12 + 1) (ix (m (a0 + 12) 0)) (m (a0 + 3 + 5) (ix v1))) (a0 + 12 + 2) (ix ((um m (a0 + 12 + 1) (ix (m (a0 + 12) 0)) (m (a0 + 3 + 5) (ix v1))) (a0 + 12) 0)) (m (a0 + 3 + 6) (ix v1))) (a0 + 12 + 3) (ix ((um (um m (a0 + 12 + 1) (ix (m (a0 + 12) 0)) (m (a0 + 3 + 5) (ix v1))) (a0 + 12 + 2) (ix ((um m (a0 + 12 + 1) (ix (m (a0 + 12) 0)) (m (a0 + 3 + 5) (ix v1))) (a0 + 12) 0)) (m (a0 + 3 + 6) (ix v1))) (a0 + 12) 0)) (m a0 0)) (a0 + 12) 0 (((um (um (um m (a0 + 12 + 1) (ix (m (a0 + 12) 0)) (m (a0 + 3 + 5) (ix v1))) (a0 + 12 + 2) (ix ((um m (a0 + 12 + 1) (ix (m (a0 + 12) 0)) (m (a0 + 3 + 5) (ix v1))) (a0 + 12) 0)) (m (a0 + 3 + 6) (ix v1))) (a0 + 12 + 3) (ix ((um (um m (a0 + 12 + 1) (ix (m (a0 + 12) 0)) (m (a0 + 3 + 5) (ix v1))) (a0 + 12 + 2) (ix ((um m (a0 + 12 + 1) (ix (m (a0 + 12) 0)) (m (a0 + 3 + 5) (ix v1))) (a0 + 12) 0)) (m (a0 + 3 + 6) (ix v1))) (a0 + 12) 0)) (m a0 0)) (a0 + 12) 0) + (n32 1))) (a0 + 3 + 5) (ix v1) (n32 0)) rfl)
  · refine VL_norm km5 k5_1 (VL_at (al := []) (st := []) km5 k5_1 ?_)
    refine And.intro h.1 ?_
    exact (h.2.2 c3)
/-- BannerParade$State.liftBanner, label 0 -/
theorem w78_0 {D : Nat} {a0 : Nat} {v1 : Int32} {v2 : Int32} {m : XM} {Q : XM → Prop} {E : Nat → XM → Prop}
    (h : ((v2 < (n32 0) → Q m) ∧ (¬ v2 < (n32 0) → ((v2 < (m (a0 + 12) 0) → (xin v2 12 = true ∧ (xin v1 12 = true ∧ VU D 6 [vR 1 (a0 + 12), vI v2] (um m (a0 + 3 + 5) (ix v1) (m (a0 + 12 + 1) (ix v2))) (fun m1 => Q (um m1 (a0) 3 ((m1 a0 3) + (n32 1)))) E))) ∧ (¬ v2 < (m (a0 + 12) 0) → Q m))))) :
    VU (D + 1) 78 [vR 8 (a0), vI v1, vI v2] m Q E := by
  refine V_of (VL_at (al := [(0, vR 8 (a0)), (1, vI v1), (2, vI v2)]) (st := []) km78 k78_0 ?_)
  refine And.intro (fun c3 => ?_) (fun c3 => ?_)
  · refine VL_norm km78 k78_2 (VL_at (al := []) (st := []) km78 k78_2 ?_)
    exact (h.1 c3)
  · refine VL_norm km78 k78_1 (VL_at (al := [(0, vR 8 (a0)), (1, vI v1), (2, vI v2)]) (st := []) km78 k78_1 ?_)
    refine And.intro (fun c2 => ?_) (fun c2 => ?_)
    · refine VL_norm km78 k78_3 (VL_at (al := [(0, vR 8 (a0)), (1, vI v1), (2, vI v2)]) (st := []) km78 k78_3 ?_)
      refine And.intro ((h.2 c3).1 c2).1 ?_
      refine And.intro ((h.2 c3).1 c2).2.1 ?_
      refine V_mono ((h.2 c3).1 c2).2.2 (fun u1 m1 h1 => ?_) (fun _ _ h => h)
      exact h1
    · refine VL_norm km78 k78_2 (VL_at (al := []) (st := []) km78 k78_2 ?_)
      exact ((h.2 c3).2 c2)
/-- BannerParade$State.isInSight, label 0 -/
theorem w79_0 {D : Nat} {a0 : Nat} {v1 : Int32} {v2 : Int32} {m : XM} {Q : Int32 → XM → Prop} {E : Nat → XM → Prop}
    (h : (xin v1 12 = true ∧ (((m (a0 + 3 + 5) (ix v1)) = (n32 0) → Q (n32 0) m) ∧ (¬ (m (a0 + 3 + 5) (ix v1)) = (n32 0) → VI D 384 [vI ((m (a0 + 3 + 6) (ix v1)) - v2)] m (fun x1 m1 => (((m1 (a0 + 1) (ix (n32 1))) < x1 → Q (n32 0) m1) ∧ (¬ (m1 (a0 + 1) (ix (n32 1))) < x1 → Q (n32 1) m1))) E)))) :
    VI (D + 1) 79 [vR 8 (a0), vI v1, vI v2] m Q E := by
  refine V_of (VL_at (al := [(0, vR 8 (a0)), (1, vI v1), (2, vI v2)]) (st := []) km79 k79_0 ?_)
  refine And.intro h.1 ?_
  refine And.intro (fun c3 => ?_) (fun c3 => ?_)
  · refine VL_norm km79 k79_3 (VL_at (al := []) (st := []) km79 k79_3 ?_)
    refine VL_norm km79 k79_4 (VL_at (al := []) (st := [vI (n32 0)]) km79 k79_4 ?_)
    refine And.intro xrt20 ?_
    exact (h.2.1 c3)
  · refine VL_norm km79 k79_1 (VL_at (al := [(0, vR 8 (a0)), (1, vI v1), (2, vI v2)]) (st := []) km79 k79_1 ?_)
    refine And.intro h.1 ?_
    refine V_mono (h.2.2 c3) (fun u1 m1 h1 => ?_) (fun _ _ h => h)
    refine And.intro (xin_k rfl) ?_
    refine And.intro (fun c2 => ?_) (fun c2 => ?_)
    · refine VL_norm km79 k79_3 (VL_at (al := []) (st := []) km79 k79_3 ?_)
      refine VL_norm km79 k79_4 (VL_at (al := []) (st := [vI (n32 0)]) km79 k79_4 ?_)
      refine And.intro xrt20 ?_
      exact (h1.1 c2)
    · refine VL_norm km79 k79_2 (VL_at (al := []) (st := []) km79 k79_2 ?_)
      refine VL_norm km79 k79_4 (VL_at (al := []) (st := [vI (n32 1)]) km79 k79_4 ?_)
      refine And.intro xrt21 ?_
      exact (h1.2 c2)
/-- BannerParade$Tokens.putTwenty, label 0 -/
theorem w81_0 {D : Nat} {a0 : Nat} {v1 : Int32} {v2 : Int32} {v3 : Int32} {v4 : Int32} {v5 : Int32} {m : XM} {Q : Int32 → XM → Prop} {E : Nat → XM → Prop}
    (h : ((((m a0 1) + (n32 20)) ≤ (n32 700) → VU D 82 [vR 9 (a0), vI v1] m (fun m1 => VU D 82 [vR 9 (a0), vI v2] m1 (fun m2 => VU D 82 [vR 9 (a0), vI v3] m2 (fun m3 => VU D 82 [vR 9 (a0), vI v4] m3 (fun m4 => VU D 82 [vR 9 (a0), vI v5] m4 (fun m5 => Q (m5 a0 1) m5) E) E) E) E) E) ∧ (¬ ((m a0 1) + (n32 20)) ≤ (n32 700) → Q (-(n32 1)) m))) :
    VI (D + 1) 81 [vR 9 (a0), vI v1, vI v2, vI v3, vI v4, vI v5] m Q E := by
  refine V_of (VL_at (al := [(0, vR 9 (a0)), (1, vI v1), (2, vI v2), (3, vI v3), (4, vI v4), (5, vI v5)]) (st := []) km81 k81_0 ?_)
  refine And.intro (fun c6 => ?_) (fun c6 => ?_)
  · refine VL_norm km81 k81_2 (VL_at (al := [(0, vR 9 (a0)), (1, vI v1), (2, vI v2), (3, vI v3), (4, vI v4), (5, vI v5)]) (st := []) km81 k81_2 ?_)
    refine V_mono (h.1 c6) (fun u1 m1 h1 => ?_) (fun _ _ h => h)
    refine V_mono h1 (fun u2 m2 h2 => ?_) (fun _ _ h => h)
    refine V_mono h2 (fun u3 m3 h3 => ?_) (fun _ _ h => h)
    refine V_mono h3 (fun u4 m4 h4 => ?_) (fun _ _ h => h)
    refine V_mono h4 (fun u5 m5 h5 => ?_) (fun _ _ h => h)
    exact h5
  · refine VL_norm km81 k81_1 (VL_at (al := []) (st := []) km81 k81_1 ?_)
    exact (h.2 c6)
/-- BannerParade$Tokens.putFour, label 0 -/
theorem w82_0 {D : Nat} {a0 : Nat} {v1 : Int32} {m : XM} {Q : XM → Prop} {E : Nat → XM → Prop}
    (h : VLU D 82 1 [(0, vR 9 (a0)), (1, vI v1), (2, vI (n32 24))] [] m Q E) :
    VU D 82 [vR 9 (a0), vI v1] m Q E := by
  refine V_of (VL_at (al := [(0, vR 9 (a0)), (1, vI v1)]) (st := []) km82 k82_0 ?_)
  exact VL_norm km82 k82_1 h
/-- BannerParade$Tokens.putFour, label 1 -/
theorem w82_1 {D : Nat} {a0 : Nat} {v1 : Int32} {v2 : Int32} {m : XM} {Q : XM → Prop} {E : Nat → XM → Prop}
    (h : ((v2 < (n32 0) → Q m) ∧ (¬ v2 < (n32 0) → (((n32 700) ≤ (m a0 1) → Q m) ∧ (¬ (n32 700) ≤ (m a0 1) → (xin (m a0 1) 700 = true ∧ (∀ μ1 : XM, μ1 = um (um m (a0 + 1) (ix (m a0 1)) (((v1).toUInt32 >>> ((v2).toUInt32 &&& Int32.toUInt32 31)).toInt32 &&& (n32 255))) (a0) 1 (((um m (a0 + 1) (ix (m a0 1)) (((v1).toUInt32 >>> ((v2).toUInt32 &&& Int32.toUInt32 31)).toInt32 &&& (n32 255))) a0 1) + (n32 1)) → VLU D 82 1 [(0, vR 9 (a0)), (1, vI v1), (2, vI (v2 + (-(n32 8))))] [] μ1 Q E))))))) :
    VLU D 82 1 [(0, vR 9 (a0)), (1, vI v1), (2, vI v2)] [] m Q E := by
  refine VL_at (al := [(0, vR 9 (a0)), (1, vI v1), (2, vI v2)]) (st := []) km82 k82_1 ?_
  refine And.intro (fun c3 => ?_) (fun c3 => ?_)
  · refine VL_norm km82 k82_4 (VL_at (al := []) (st := []) km82 k82_4 ?_)
    exact (h.1 c3)
  · refine VL_norm km82 k82_2 (VL_at (al := [(0, vR 9 (a0)), (1, vI v1), (2, vI v2)]) (st := []) km82 k82_2 ?_)
    refine And.intro (fun c2 => ?_) (fun c2 => ?_)
    · refine VL_norm km82 k82_4 (VL_at (al := []) (st := []) km82 k82_4 ?_)
      exact ((h.2 c3).1 c2)
    · refine VL_norm km82 k82_3 (VL_at (al := [(0, vR 9 (a0)), (1, vI v1), (2, vI v2)]) (st := []) km82 k82_3 ?_)
      refine And.intro ((h.2 c3).2 c2).1 ?_
      exact VL_norm km82 k82_1 (((h.2 c3).2 c2).2 (um (um m (a0 + 1) (ix (m a0 1)) (((v1).toUInt32 >>> ((v2).toUInt32 &&& Int32.toUInt32 31)).toInt32 &&& (n32 255))) (a0) 1 (((um m (a0 + 1) (ix (m a0 1)) (((v1).toUInt32 >>> ((v2).toUInt32 &&& Int32.toUInt32 31)).toInt32 &&& (n32 255))) a0 1) + (n32 1))) rfl)
/-- BannerParade$Tokens.begin, label 0 -/
theorem w83_0 {D : Nat} {a0 : Nat} {v1 : Int32} {m : XM} {Q : XM → Prop} {E : Nat → XM → Prop}
    (h : VI D 386 [vI v1, vI (n32 700)] m (fun x1 m1 => VI D 385 [vI (n32 0), vI x1] m1 (fun x2 m2 => Q (um (um m2 (a0) 2 x2) (a0) 4 (n32 0))) E) E) :
    VU (D + 1) 83 [vR 9 (a0), vI v1] m Q E := by
  refine V_of (VL_at (al := [(0, vR 9 (a0)), (1, vI v1)]) (st := []) km83 k83_0 ?_)
  refine V_mono h (fun u1 m1 h1 => ?_) (fun _ _ h => h)
  refine V_mono h1 (fun u2 m2 h2 => ?_) (fun _ _ h => h)
  exact h2
/-- BannerParade$Tokens.readToken, label 0 -/
theorem w84_0 {D : Nat} {a0 : Nat} {m : XM} {Q : XM → Prop} {E : Nat → XM → Prop}
    (h : (((m a0 2) ≤ (m a0 4) → ((((um m (a0) 3 (m a0 4)) a0 3) < ((um m (a0) 3 (m a0 4)) a0 2) → (xin ((um m (a0) 3 (m a0 4)) a0 3) 700 = true ∧ ((((um m (a0) 3 (m a0 4)) (a0 + 1) (ix ((um m (a0) 3 (m a0 4)) a0 3))) < (n32 97) → ((((um m (a0) 3 (m a0 4)) (a0 + 1) (ix ((um m (a0) 3 (m a0 4)) a0 3))) < (n32 48) → ((((um m (a0) 3 (m a0 4)) (a0 + 1) (ix ((um m (a0) 3 (m a0 4)) a0 3))) = (n32 59) → Q (um (um (um m (a0) 3 (m a0 4)) (a0) 5 (n32 3)) (a0) 4 (((um (um m (a0) 3 (m a0 4)) (a0) 5 (n32 3)) a0 4) + (n32 1)))) ∧ (¬ ((um m (a0) 3 (m a0 4)) (a0 + 1) (ix ((um m (a0) 3 (m a0 4)) a0 3))) = (n32 59) → Q (um (um (um m (a0) 3 (m a0 4)) (a0) 5 (n32 4)) (a0) 4 (((um (um m (a0) 3 (m a0 4)) (a0) 5 (n32 4)) a0 4) + (n32 1)))))) ∧ (¬ ((um m (a0) 3 (m a0 4)) (a0 + 1) (ix ((um m (a0) 3 (m a0 4)) a0 3))) < (n32 48) → (((n32 57) < ((um m (a0) 3 (m a0 4)) (a0 + 1) (ix ((um m (a0) 3 (m a0 4)) a0 3))) → ((((um m (a0) 3 (m a0 4)) (a0 + 1) (ix ((um m (a0) 3 (m a0 4)) a0 3))) = (n32 59) → Q (um (um (um m (a0) 3 (m a0 4)) (a0) 5 (n32 3)) (a0) 4 (((um (um m (a0) 3 (m a0 4)) (a0) 5 (n32 3)) a0 4) + (n32 1)))) ∧ (¬ ((um m (a0) 3 (m a0 4)) (a0 + 1) (ix ((um m (a0) 3 (m a0 4)) a0 3))) = (n32 59) → Q (um (um (um m (a0) 3 (m a0 4)) (a0) 5 (n32 4)) (a0) 4 (((um (um m (a0) 3 (m a0 4)) (a0) 5 (n32 4)) a0 4) + (n32 1)))))) ∧ (¬ (n32 57) < ((um m (a0) 3 (m a0 4)) (a0 + 1) (ix ((um m (a0) 3 (m a0 4)) a0 3))) → VU D 86 [vR 9 (a0)] (um m (a0) 3 (m a0 4)) (fun m3 => Q m3) E))))) ∧ (¬ ((um m (a0) 3 (m a0 4)) (a0 + 1) (ix ((um m (a0) 3 (m a0 4)) a0 3))) < (n32 97) → (((n32 122) < ((um m (a0) 3 (m a0 4)) (a0 + 1) (ix ((um m (a0) 3 (m a0 4)) a0 3))) → ((((um m (a0) 3 (m a0 4)) (a0 + 1) (ix ((um m (a0) 3 (m a0 4)) a0 3))) < (n32 48) → ((((um m (a0) 3 (m a0 4)) (a0 + 1) (ix ((um m (a0) 3 (m a0 4)) a0 3))) = (n32 59) → Q (um (um (um m (a0) 3 (m a0 4)) (a0) 5 (n32 3)) (a0) 4 (((um (um m (a0) 3 (m a0 4)) (a0) 5 (n32 3)) a0 4) + (n32 1)))) ∧ (¬ ((um m (a0) 3 (m a0 4)) (a0 + 1) (ix ((um m (a0) 3 (m a0 4)) a0 3))) = (n32 59) → Q (um (um (um m (a0) 3 (m a0 4)) (a0) 5 (n32 4)) (a0) 4 (((um (um m (a0) 3 (m a0 4)) (a0) 5 (n32 4)) a0 4) + (n32 1)))))) ∧ (¬ ((um m (a0) 3 (m a0 4)) (a0 + 1) (ix ((um m (a0) 3 (m a0 4)) a0 3))) < (n32 48) → (((n32 57) < ((um m (a0) 3 (m a0 4)) (a0 + 1) (ix ((um m (a0) 3 (m a0 4)) a0 3))) → ((((um m (a0) 3 (m a0 4)) (a0 + 1) (ix ((um m (a0) 3 (m a0 4)) a0 3))) = (n32 59) → Q (um (um (um m (a0) 3 (m a0 4)) (a0) 5 (n32 3)) (a0) 4 (((um (um m (a0) 3 (m a0 4)) (a0) 5 (n32 3)) a0 4) + (n32 1)))) ∧ (¬ ((um m (a0) 3 (m a0 4)) (a0 + 1) (ix ((um m (a0) 3 (m a0 4)) a0 3))) = (n32 59) → Q (um (um (um m (a0) 3 (m a0 4)) (a0) 5 (n32 4)) (a0) 4 (((um (um m (a0) 3 (m a0 4)) (a0) 5 (n32 4)) a0 4) + (n32 1)))))) ∧ (¬ (n32 57) < ((um m (a0) 3 (m a0 4)) (a0 + 1) (ix ((um m (a0) 3 (m a0 4)) a0 3))) → VU D 86 [vR 9 (a0)] (um m (a0) 3 (m a0 4)) (fun m8 => Q m8) E))))) ∧ (¬ (n32 122) < ((um m (a0) 3 (m a0 4)) (a0 + 1) (ix ((um m (a0) 3 (m a0 4)) a0 3))) → VU D 85 [vR 9 (a0)] (um m (a0) 3 (m a0 4)) (fun m11 => Q m11) E)))))) ∧ (¬ ((um m (a0) 3 (m a0 4)) a0 3) < ((um m (a0) 3 (m a0 4)) a0 2) → Q (um (um m (a0) 3 (m a0 4)) (a0) 5 (n32 0))))) ∧ (¬ (m a0 2) ≤ (m a0 4) → (xin (m a0 4) 700 = true ∧ (((m (a0 + 1) (ix (m a0 4))) = (n32 32) → VLU (D + 1) 84 0 [(0, vR 9 (a0))] [] (um m (a0) 4 ((m a0 4) + (n32 1))) Q E) ∧ (¬ (m (a0 + 1) (ix (m a0 4))) = (n32 32) → ((((um m (a0) 3 (m a0 4)) a0 3) < ((um m (a0) 3 (m a0 4)) a0 2) → (xin ((um m (a0) 3 (m a0 4)) a0 3) 700 = true ∧ ((((um m (a0) 3 (m a0 4)) (a0 + 1) (ix ((um m (a0) 3 (m a0 4)) a0 3))) < (n32 97) → ((((um m (a0) 3 (m a0 4)) (a0 + 1) (ix ((um m (a0) 3 (m a0 4)) a0 3))) < (n32 48) → ((((um m (a0) 3 (m a0 4)) (a0 + 1) (ix ((um m (a0) 3 (m a0 4)) a0 3))) = (n32 59) → Q (um (um (um m (a0) 3 (m a0 4)) (a0) 5 (n32 3)) (a0) 4 (((um (um m (a0) 3 (m a0 4)) (a0) 5 (n32 3)) a0 4) + (n32 1)))) ∧ (¬ ((um m (a0) 3 (m a0 4)) (a0 + 1) (ix ((um m (a0) 3 (m a0 4)) a0 3))) = (n32 59) → Q (um (um (um m (a0) 3 (m a0 4)) (a0) 5 (n32 4)) (a0) 4 (((um (um m (a0) 3 (m a0 4)) (a0) 5 (n32 4)) a0 4) + (n32 1)))))) ∧ (¬ ((um m (a0) 3 (m a0 4)) (a0 + 1) (ix ((um m (a0) 3 (m a0 4)) a0 3))) < (n32 48) → (((n32 57) < ((um m (a0) 3 (m a0 4)) (a0 + 1) (ix ((um m (a0) 3 (m a0 4)) a0 3))) → ((((um m (a0) 3 (m a0 4)) (a0 + 1) (ix ((um m (a0) 3 (m a0 4)) a0 3))) = (n32 59) → Q (um (um (um m (a0) 3 (m a0 4)) (a0) 5 (n32 3)) (a0) 4 (((um (um m (a0) 3 (m a0 4)) (a0) 5 (n32 3)) a0 4) + (n32 1)))) ∧ (¬ ((um m (a0) 3 (m a0 4)) (a0 + 1) (ix ((um m (a0) 3 (m a0 4)) a0 3))) = (n32 59) → Q (um (um (um m (a0) 3 (m a0 4)) (a0) 5 (n32 4)) (a0) 4 (((um (um m (a0) 3 (m a0 4)) (a0) 5 (n32 4)) a0 4) + (n32 1)))))) ∧ (¬ (n32 57) < ((um m (a0) 3 (m a0 4)) (a0 + 1) (ix ((um m (a0) 3 (m a0 4)) a0 3))) → VU D 86 [vR 9 (a0)] (um m (a0) 3 (m a0 4)) (fun m17 => Q m17) E))))) ∧ (¬ ((um m (a0) 3 (m a0 4)) (a0 + 1) (ix ((um m (a0) 3 (m a0 4)) a0 3))) < (n32 97) → (((n32 122) < ((um m (a0) 3 (m a0 4)) (a0 + 1) (ix ((um m (a0) 3 (m a0 4)) a0 3))) → ((((um m (a0) 3 (m a0 4)) (a0 + 1) (ix ((um m (a0) 3 (m a0 4)) a0 3))) < (n32 48) → ((((um m (a0) 3 (m a0 4)) (a0 + 1) (ix ((um m (a0) 3 (m a0 4)) a0 3))) = (n32 59) → Q (um (um (um m (a0) 3 (m a0 4)) (a0) 5 (n32 3)) (a0) 4 (((um (um m (a0) 3 (m a0 4)) (a0) 5 (n32 3)) a0 4) + (n32 1)))) ∧ (¬ ((um m (a0) 3 (m a0 4)) (a0 + 1) (ix ((um m (a0) 3 (m a0 4)) a0 3))) = (n32 59) → Q (um (um (um m (a0) 3 (m a0 4)) (a0) 5 (n32 4)) (a0) 4 (((um (um m (a0) 3 (m a0 4)) (a0) 5 (n32 4)) a0 4) + (n32 1)))))) ∧ (¬ ((um m (a0) 3 (m a0 4)) (a0 + 1) (ix ((um m (a0) 3 (m a0 4)) a0 3))) < (n32 48) → (((n32 57) < ((um m (a0) 3 (m a0 4)) (a0 + 1) (ix ((um m (a0) 3 (m a0 4)) a0 3))) → ((((um m (a0) 3 (m a0 4)) (a0 + 1) (ix ((um m (a0) 3 (m a0 4)) a0 3))) = (n32 59) → Q (um (um (um m (a0) 3 (m a0 4)) (a0) 5 (n32 3)) (a0) 4 (((um (um m (a0) 3 (m a0 4)) (a0) 5 (n32 3)) a0 4) + (n32 1)))) ∧ (¬ ((um m (a0) 3 (m a0 4)) (a0 + 1) (ix ((um m (a0) 3 (m a0 4)) a0 3))) = (n32 59) → Q (um (um (um m (a0) 3 (m a0 4)) (a0) 5 (n32 4)) (a0) 4 (((um (um m (a0) 3 (m a0 4)) (a0) 5 (n32 4)) a0 4) + (n32 1)))))) ∧ (¬ (n32 57) < ((um m (a0) 3 (m a0 4)) (a0 + 1) (ix ((um m (a0) 3 (m a0 4)) a0 3))) → VU D 86 [vR 9 (a0)] (um m (a0) 3 (m a0 4)) (fun m22 => Q m22) E))))) ∧ (¬ (n32 122) < ((um m (a0) 3 (m a0 4)) (a0 + 1) (ix ((um m (a0) 3 (m a0 4)) a0 3))) → VU D 85 [vR 9 (a0)] (um m (a0) 3 (m a0 4)) (fun m25 => Q m25) E)))))) ∧ (¬ ((um m (a0) 3 (m a0 4)) a0 3) < ((um m (a0) 3 (m a0 4)) a0 2) → Q (um (um m (a0) 3 (m a0 4)) (a0) 5 (n32 0)))))))))) :
    VU (D + 1) 84 [vR 9 (a0)] m Q E := by
  refine V_of (VL_at (al := [(0, vR 9 (a0))]) (st := []) km84 k84_0 ?_)
  refine And.intro (fun c30 => ?_) (fun c30 => ?_)
  · refine VL_norm km84 k84_3 (VL_at (al := [(0, vR 9 (a0))]) (st := []) km84 k84_3 ?_)
    refine And.intro (fun c14 => ?_) (fun c14 => ?_)
    · refine VL_norm km84 k84_5 (VL_at (al := [(0, vR 9 (a0))]) (st := []) km84 k84_5 ?_)
      refine And.intro ((h.1 c30).1 c14).1 ?_
      refine And.intro (fun c13 => ?_) (fun c13 => ?_)
      · refine VL_norm km84 k84_8 (VL_at (al := [(0, vR 9 (a0))]) (st := []) km84 k84_8 ?_)
        refine And.intro ((h.1 c30).1 c14).1 ?_
        refine And.intro (fun c5 => ?_) (fun c5 => ?_)
        · refine VL_norm km84 k84_11 (VL_at (al := [(0, vR 9 (a0))]) (st := []) km84 k84_11 ?_)
          refine And.intro ((h.1 c30).1 c14).1 ?_
          refine And.intro (fun c1 => ?_) (fun c1 => ?_)
          · refine VL_norm km84 k84_12 (VL_at (al := [(0, vR 9 (a0))]) (st := [vR 9 (a0)]) km84 k84_12 ?_)
            refine VL_norm km84 k84_14 (VL_at (al := [(0, vR 9 (a0))]) (st := [vI (n32 3), vR 9 (a0)]) km84 k84_14 ?_)
            refine VL_norm km84 k84_15 (VL_at (al := []) (st := []) km84 k84_15 ?_)
            exact (((((h.1 c30).1 c14).2.1 c13).1 c5).1 c1)
          · refine VL_norm km84 k84_13 (VL_at (al := [(0, vR 9 (a0))]) (st := [vR 9 (a0)]) km84 k84_13 ?_)
            refine VL_norm km84 k84_14 (VL_at (al := [(0, vR 9 (a0))]) (st := [vI (n32 4), vR 9 (a0)]) km84 k84_14 ?_)
            refine VL_norm km84 k84_15 (VL_at (al := []) (st := []) km84 k84_15 ?_)
            exact (((((h.1 c30).1 c14).2.1 c13).1 c5).2 c1)
        · refine VL_norm km84 k84_9 (VL_at (al := [(0, vR 9 (a0))]) (st := []) km84 k84_9 ?_)
          refine And.intro ((h.1 c30).1 c14).1 ?_
          refine And.intro (fun c4 => ?_) (fun c4 => ?_)
          · refine VL_norm km84 k84_11 (VL_at (al := [(0, vR 9 (a0))]) (st := []) km84 k84_11 ?_)
            refine And.intro ((h.1 c30).1 c14).1 ?_
            refine And.intro (fun c2 => ?_) (fun c2 => ?_)
            · refine VL_norm km84 k84_12 (VL_at (al := [(0, vR 9 (a0))]) (st := [vR 9 (a0)]) km84 k84_12 ?_)
              refine VL_norm km84 k84_14 (VL_at (al := [(0, vR 9 (a0))]) (st := [vI (n32 3), vR 9 (a0)]) km84 k84_14 ?_)
              refine VL_norm km84 k84_15 (VL_at (al := []) (st := []) km84 k84_15 ?_)
              exact ((((((h.1 c30).1 c14).2.1 c13).2 c5).1 c4).1 c2)
            · refine VL_norm km84 k84_13 (VL_at (al := [(0, vR 9 (a0))]) (st := [vR 9 (a0)]) km84 k84_13 ?_)
              refine VL_norm km84 k84_14 (VL_at (al := [(0, vR 9 (a0))]) (st := [vI (n32 4), vR 9 (a0)]) km84 k84_14 ?_)
              refine VL_norm km84 k84_15 (VL_at (al := []) (st := []) km84 k84_15 ?_)
              exact ((((((h.1 c30).1 c14).2.1 c13).2 c5).1 c4).2 c2)
          · refine VL_norm km84 k84_10 (VL_at (al := [(0, vR 9 (a0))]) (st := []) km84 k84_10 ?_)
            refine V_mono (((((h.1 c30).1 c14).2.1 c13).2 c5).2 c4) (fun u3 m3 h3 => ?_) (fun _ _ h => h)
            refine VL_norm km84 k84_15 (VL_at (al := []) (st := []) km84 k84_15 ?_)
            exact h3
      · refine VL_norm km84 k84_6 (VL_at (al := [(0, vR 9 (a0))]) (st := []) km84 k84_6 ?_)
        refine And.intro ((h.1 c30).1 c14).1 ?_
        refine And.intro (fun c12 => ?_) (fun c12 => ?_)
        · refine VL_norm km84 k84_8 (VL_at (al := [(0, vR 9 (a0))]) (st := []) km84 k84_8 ?_)
          refine And.intro ((h.1 c30).1 c14).1 ?_
          refine And.intro (fun c10 => ?_) (fun c10 => ?_)
          · refine VL_norm km84 k84_11 (VL_at (al := [(0, vR 9 (a0))]) (st := []) km84 k84_11 ?_)
            refine And.intro ((h.1 c30).1 c14).1 ?_
            refine And.intro (fun c6 => ?_) (fun c6 => ?_)
            · refine VL_norm km84 k84_12 (VL_at (al := [(0, vR 9 (a0))]) (st := [vR 9 (a0)]) km84 k84_12 ?_)
              refine VL_norm km84 k84_14 (VL_at (al := [(0, vR 9 (a0))]) (st := [vI (n32 3), vR 9 (a0)]) km84 k84_14 ?_)
              refine VL_norm km84 k84_15 (VL_at (al := []) (st := []) km84 k84_15 ?_)
              exact ((((((h.1 c30).1 c14).2.2 c13).1 c12).1 c10).1 c6)
            · refine VL_norm km84 k84_13 (VL_at (al := [(0, vR 9 (a0))]) (st := [vR 9 (a0)]) km84 k84_13 ?_)
              refine VL_norm km84 k84_14 (VL_at (al := [(0, vR 9 (a0))]) (st := [vI (n32 4), vR 9 (a0)]) km84 k84_14 ?_)
              refine VL_norm km84 k84_15 (VL_at (al := []) (st := []) km84 k84_15 ?_)
              exact ((((((h.1 c30).1 c14).2.2 c13).1 c12).1 c10).2 c6)
          · refine VL_norm km84 k84_9 (VL_at (al := [(0, vR 9 (a0))]) (st := []) km84 k84_9 ?_)
            refine And.intro ((h.1 c30).1 c14).1 ?_
            refine And.intro (fun c9 => ?_) (fun c9 => ?_)
            · refine VL_norm km84 k84_11 (VL_at (al := [(0, vR 9 (a0))]) (st := []) km84 k84_11 ?_)
              refine And.intro ((h.1 c30).1 c14).1 ?_
              refine And.intro (fun c7 => ?_) (fun c7 => ?_)
              · refine VL_norm km84 k84_12 (VL_at (al := [(0, vR 9 (a0))]) (st := [vR 9 (a0)]) km84 k84_12 ?_)
                refine VL_norm km84 k84_14 (VL_at (al := [(0, vR 9 (a0))]) (st := [vI (n32 3), vR 9 (a0)]) km84 k84_14 ?_)
                refine VL_norm km84 k84_15 (VL_at (al := []) (st := []) km84 k84_15 ?_)
                exact (((((((h.1 c30).1 c14).2.2 c13).1 c12).2 c10).1 c9).1 c7)
              · refine VL_norm km84 k84_13 (VL_at (al := [(0, vR 9 (a0))]) (st := [vR 9 (a0)]) km84 k84_13 ?_)
                refine VL_norm km84 k84_14 (VL_at (al := [(0, vR 9 (a0))]) (st := [vI (n32 4), vR 9 (a0)]) km84 k84_14 ?_)
                refine VL_norm km84 k84_15 (VL_at (al := []) (st := []) km84 k84_15 ?_)
                exact (((((((h.1 c30).1 c14).2.2 c13).1 c12).2 c10).1 c9).2 c7)
            · refine VL_norm km84 k84_10 (VL_at (al := [(0, vR 9 (a0))]) (st := []) km84 k84_10 ?_)
              refine V_mono ((((((h.1 c30).1 c14).2.2 c13).1 c12).2 c10).2 c9) (fun u8 m8 h8 => ?_) (fun _ _ h => h)
              refine VL_norm km84 k84_15 (VL_at (al := []) (st := []) km84 k84_15 ?_)
              exact h8
        · refine VL_norm km84 k84_7 (VL_at (al := [(0, vR 9 (a0))]) (st := []) km84 k84_7 ?_)
          refine V_mono ((((h.1 c30).1 c14).2.2 c13).2 c12) (fun u11 m11 h11 => ?_) (fun _ _ h => h)
          refine VL_norm km84 k84_15 (VL_at (al := []) (st := []) km84 k84_15 ?_)
          exact h11
    · refine VL_norm km84 k84_4 (VL_at (al := [(0, vR 9 (a0))]) (st := []) km84 k84_4 ?_)
      refine VL_norm km84 k84_15 (VL_at (al := []) (st := []) km84 k84_15 ?_)
      exact ((h.1 c30).2 c14)
  · refine VL_norm km84 k84_1 (VL_at (al := [(0, vR 9 (a0))]) (st := []) km84 k84_1 ?_)
    refine And.intro (h.2 c30).1 ?_
    refine And.intro (fun c29 => ?_) (fun c29 => ?_)
    · refine VL_norm km84 k84_2 (VL_at (al := [(0, vR 9 (a0))]) (st := []) km84 k84_2 ?_)
      exact VL_norm km84 k84_0 ((h.2 c30).2.1 c29)
    · refine VL_norm km84 k84_3 (VL_at (al := [(0, vR 9 (a0))]) (st := []) km84 k84_3 ?_)
      refine And.intro (fun c28 => ?_) (fun c28 => ?_)
      · refine VL_norm km84 k84_5 (VL_at (al := [(0, vR 9 (a0))]) (st := []) km84 k84_5 ?_)
        refine And.intro (((h.2 c30).2.2 c29).1 c28).1 ?_
        refine And.intro (fun c27 => ?_) (fun c27 => ?_)
        · refine VL_norm km84 k84_8 (VL_at (al := [(0, vR 9 (a0))]) (st := []) km84 k84_8 ?_)
          refine And.intro (((h.2 c30).2.2 c29).1 c28).1 ?_
          refine And.intro (fun c19 => ?_) (fun c19 => ?_)
          · refine VL_norm km84 k84_11 (VL_at (al := [(0, vR 9 (a0))]) (st := []) km84 k84_11 ?_)
            refine And.intro (((h.2 c30).2.2 c29).1 c28).1 ?_
            refine And.intro (fun c15 => ?_) (fun c15 => ?_)
            · refine VL_norm km84 k84_12 (VL_at (al := [(0, vR 9 (a0))]) (st := [vR 9 (a0)]) km84 k84_12 ?_)
              refine VL_norm km84 k84_14 (VL_at (al := [(0, vR 9 (a0))]) (st := [vI (n32 3), vR 9 (a0)]) km84 k84_14 ?_)
              refine VL_norm km84 k84_15 (VL_at (al := []) (st := []) km84 k84_15 ?_)
              exact ((((((h.2 c30).2.2 c29).1 c28).2.1 c27).1 c19).1 c15)
            · refine VL_norm km84 k84_13 (VL_at (al := [(0, vR 9 (a0))]) (st := [vR 9 (a0)]) km84 k84_13 ?_)
              refine VL_norm km84 k84_14 (VL_at (al := [(0, vR 9 (a0))]) (st := [vI (n32 4), vR 9 (a0)]) km84 k84_14 ?_)
              refine VL_norm km84 k84_15 (VL_at (al := []) (st := []) km84 k84_15 ?_)
              exact ((((((h.2 c30).2.2 c29).1 c28).2.1 c27).1 c19).2 c15)
          · refine VL_norm km84 k84_9 (VL_at (al := [(0, vR 9 (a0))]) (st := []) km84 k84_9 ?_)
            refine And.intro (((h.2 c30).2.2 c29).1 c28).1 ?_
            refine And.intro (fun c18 => ?_) (fun c18 => ?_)
            · refine VL_norm km84 k84_11 (VL_at (al := [(0, vR 9 (a0))]) (st := []) km84 k84_11 ?_)
              refine And.intro (((h.2 c30).2.2 c29).1 c28).1 ?_
              refine And.intro (fun c16 => ?_) (fun c16 => ?_)
              · refine VL_norm km84 k84_12 (VL_at (al := [(0, vR 9 (a0))]) (st := [vR 9 (a0)]) km84 k84_12 ?_)
                refine VL_norm km84 k84_14 (VL_at (al := [(0, vR 9 (a0))]) (st := [vI (n32 3), vR 9 (a0)]) km84 k84_14 ?_)
                refine VL_norm km84 k84_15 (VL_at (al := []) (st := []) km84 k84_15 ?_)
                exact (((((((h.2 c30).2.2 c29).1 c28).2.1 c27).2 c19).1 c18).1 c16)
              · refine VL_norm km84 k84_13 (VL_at (al := [(0, vR 9 (a0))]) (st := [vR 9 (a0)]) km84 k84_13 ?_)
                refine VL_norm km84 k84_14 (VL_at (al := [(0, vR 9 (a0))]) (st := [vI (n32 4), vR 9 (a0)]) km84 k84_14 ?_)
                refine VL_norm km84 k84_15 (VL_at (al := []) (st := []) km84 k84_15 ?_)
                exact (((((((h.2 c30).2.2 c29).1 c28).2.1 c27).2 c19).1 c18).2 c16)
            · refine VL_norm km84 k84_10 (VL_at (al := [(0, vR 9 (a0))]) (st := []) km84 k84_10 ?_)
              refine V_mono ((((((h.2 c30).2.2 c29).1 c28).2.1 c27).2 c19).2 c18) (fun u17 m17 h17 => ?_) (fun _ _ h => h)
              refine VL_norm km84 k84_15 (VL_at (al := []) (st := []) km84 k84_15 ?_)
              exact h17
        · refine VL_norm km84 k84_6 (VL_at (al := [(0, vR 9 (a0))]) (st := []) km84 k84_6 ?_)
          refine And.intro (((h.2 c30).2.2 c29).1 c28).1 ?_
          refine And.intro (fun c26 => ?_) (fun c26 => ?_)
          · refine VL_norm km84 k84_8 (VL_at (al := [(0, vR 9 (a0))]) (st := []) km84 k84_8 ?_)
            refine And.intro (((h.2 c30).2.2 c29).1 c28).1 ?_
            refine And.intro (fun c24 => ?_) (fun c24 => ?_)
            · refine VL_norm km84 k84_11 (VL_at (al := [(0, vR 9 (a0))]) (st := []) km84 k84_11 ?_)
              refine And.intro (((h.2 c30).2.2 c29).1 c28).1 ?_
              refine And.intro (fun c20 => ?_) (fun c20 => ?_)
              · refine VL_norm km84 k84_12 (VL_at (al := [(0, vR 9 (a0))]) (st := [vR 9 (a0)]) km84 k84_12 ?_)
                refine VL_norm km84 k84_14 (VL_at (al := [(0, vR 9 (a0))]) (st := [vI (n32 3), vR 9 (a0)]) km84 k84_14 ?_)
                refine VL_norm km84 k84_15 (VL_at (al := []) (st := []) km84 k84_15 ?_)
                exact (((((((h.2 c30).2.2 c29).1 c28).2.2 c27).1 c26).1 c24).1 c20)
              · refine VL_norm km84 k84_13 (VL_at (al := [(0, vR 9 (a0))]) (st := [vR 9 (a0)]) km84 k84_13 ?_)
                refine VL_norm km84 k84_14 (VL_at (al := [(0, vR 9 (a0))]) (st := [vI (n32 4), vR 9 (a0)]) km84 k84_14 ?_)
                refine VL_norm km84 k84_15 (VL_at (al := []) (st := []) km84 k84_15 ?_)
                exact (((((((h.2 c30).2.2 c29).1 c28).2.2 c27).1 c26).1 c24).2 c20)
            · refine VL_norm km84 k84_9 (VL_at (al := [(0, vR 9 (a0))]) (st := []) km84 k84_9 ?_)
              refine And.intro (((h.2 c30).2.2 c29).1 c28).1 ?_
              refine And.intro (fun c23 => ?_) (fun c23 => ?_)
              · refine VL_norm km84 k84_11 (VL_at (al := [(0, vR 9 (a0))]) (st := []) km84 k84_11 ?_)
                refine And.intro (((h.2 c30).2.2 c29).1 c28).1 ?_
                refine And.intro (fun c21 => ?_) (fun c21 => ?_)
                · refine VL_norm km84 k84_12 (VL_at (al := [(0, vR 9 (a0))]) (st := [vR 9 (a0)]) km84 k84_12 ?_)
                  refine VL_norm km84 k84_14 (VL_at (al := [(0, vR 9 (a0))]) (st := [vI (n32 3), vR 9 (a0)]) km84 k84_14 ?_)
                  refine VL_norm km84 k84_15 (VL_at (al := []) (st := []) km84 k84_15 ?_)
                  exact ((((((((h.2 c30).2.2 c29).1 c28).2.2 c27).1 c26).2 c24).1 c23).1 c21)
                · refine VL_norm km84 k84_13 (VL_at (al := [(0, vR 9 (a0))]) (st := [vR 9 (a0)]) km84 k84_13 ?_)
                  refine VL_norm km84 k84_14 (VL_at (al := [(0, vR 9 (a0))]) (st := [vI (n32 4), vR 9 (a0)]) km84 k84_14 ?_)
                  refine VL_norm km84 k84_15 (VL_at (al := []) (st := []) km84 k84_15 ?_)
                  exact ((((((((h.2 c30).2.2 c29).1 c28).2.2 c27).1 c26).2 c24).1 c23).2 c21)
              · refine VL_norm km84 k84_10 (VL_at (al := [(0, vR 9 (a0))]) (st := []) km84 k84_10 ?_)
                refine V_mono (((((((h.2 c30).2.2 c29).1 c28).2.2 c27).1 c26).2 c24).2 c23) (fun u22 m22 h22 => ?_) (fun _ _ h => h)
                refine VL_norm km84 k84_15 (VL_at (al := []) (st := []) km84 k84_15 ?_)
                exact h22
          · refine VL_norm km84 k84_7 (VL_at (al := [(0, vR 9 (a0))]) (st := []) km84 k84_7 ?_)
            refine V_mono (((((h.2 c30).2.2 c29).1 c28).2.2 c27).2 c26) (fun u25 m25 h25 => ?_) (fun _ _ h => h)
            refine VL_norm km84 k84_15 (VL_at (al := []) (st := []) km84 k84_15 ?_)
            exact h25
      · refine VL_norm km84 k84_4 (VL_at (al := [(0, vR 9 (a0))]) (st := []) km84 k84_4 ?_)
        refine VL_norm km84 k84_15 (VL_at (al := []) (st := []) km84 k84_15 ?_)
        exact (((h.2 c30).2.2 c29).2 c28)
/-- BannerParade$Tokens.readWord, label 0 -/
theorem w85_0 {D : Nat} {a0 : Nat} {m : XM} {Q : XM → Prop} {E : Nat → XM → Prop}
    (h : (((m a0 2) ≤ (m a0 4) → (((n32 8) < ((m a0 4) - (m a0 3)) → Q (um m (a0) 5 (n32 4))) ∧ (¬ (n32 8) < ((m a0 4) - (m a0 3)) → Q (um m (a0) 5 (n32 1))))) ∧ (¬ (m a0 2) ≤ (m a0 4) → (xin (m a0 4) 700 = true ∧ (((m (a0 + 1) (ix (m a0 4))) < (n32 97) → (((n32 8) < ((m a0 4) - (m a0 3)) → Q (um m (a0) 5 (n32 4))) ∧ (¬ (n32 8) < ((m a0 4) - (m a0 3)) → Q (um m (a0) 5 (n32 1))))) ∧ (¬ (m (a0 + 1) (ix (m a0 4))) < (n32 97) → (((n32 122) < (m (a0 + 1) (ix (m a0 4))) → (((n32 8) < ((m a0 4) - (m a0 3)) → Q (um m (a0) 5 (n32 4))) ∧ (¬ (n32 8) < ((m a0 4) - (m a0 3)) → Q (um m (a0) 5 (n32 1))))) ∧ (¬ (n32 122) < (m (a0 + 1) (ix (m a0 4))) → VLU D 85 0 [(0, vR 9 (a0))] [] (um m (a0) 4 ((m a0 4) + (n32 1))) Q E)))))))) :
    VU D 85 [vR 9 (a0)] m Q E := by
  refine V_of (VL_at (al := [(0, vR 9 (a0))]) (st := []) km85 k85_0 ?_)
  refine And.intro (fun c6 => ?_) (fun c6 => ?_)
  · refine VL_norm km85 k85_4 (VL_at (al := [(0, vR 9 (a0))]) (st := []) km85 k85_4 ?_)
    refine And.intro (fun c1 => ?_) (fun c1 => ?_)
    · refine VL_norm km85 k85_6 (VL_at (al := []) (st := [vR 9 (a0)]) km85 k85_6 ?_)
      refine VL_norm km85 k85_7 (VL_at (al := []) (st := [vI (n32 4), vR 9 (a0)]) km85 k85_7 ?_)
      exact ((h.1 c6).1 c1)
    · refine VL_norm km85 k85_5 (VL_at (al := []) (st := [vR 9 (a0)]) km85 k85_5 ?_)
      refine VL_norm km85 k85_7 (VL_at (al := []) (st := [vI (n32 1), vR 9 (a0)]) km85 k85_7 ?_)
      exact ((h.1 c6).2 c1)
  · refine VL_norm km85 k85_1 (VL_at (al := [(0, vR 9 (a0))]) (st := []) km85 k85_1 ?_)
    refine And.intro (h.2 c6).1 ?_
    refine And.intro (fun c5 => ?_) (fun c5 => ?_)
    · refine VL_norm km85 k85_4 (VL_at (al := [(0, vR 9 (a0))]) (st := []) km85 k85_4 ?_)
      refine And.intro (fun c2 => ?_) (fun c2 => ?_)
      · refine VL_norm km85 k85_6 (VL_at (al := []) (st := [vR 9 (a0)]) km85 k85_6 ?_)
        refine VL_norm km85 k85_7 (VL_at (al := []) (st := [vI (n32 4), vR 9 (a0)]) km85 k85_7 ?_)
        exact (((h.2 c6).2.1 c5).1 c2)
      · refine VL_norm km85 k85_5 (VL_at (al := []) (st := [vR 9 (a0)]) km85 k85_5 ?_)
        refine VL_norm km85 k85_7 (VL_at (al := []) (st := [vI (n32 1), vR 9 (a0)]) km85 k85_7 ?_)
        exact (((h.2 c6).2.1 c5).2 c2)
    · refine VL_norm km85 k85_2 (VL_at (al := [(0, vR 9 (a0))]) (st := []) km85 k85_2 ?_)
      refine And.intro (h.2 c6).1 ?_
      refine And.intro (fun c4 => ?_) (fun c4 => ?_)
      · refine VL_norm km85 k85_4 (VL_at (al := [(0, vR 9 (a0))]) (st := []) km85 k85_4 ?_)
        refine And.intro (fun c3 => ?_) (fun c3 => ?_)
        · refine VL_norm km85 k85_6 (VL_at (al := []) (st := [vR 9 (a0)]) km85 k85_6 ?_)
          refine VL_norm km85 k85_7 (VL_at (al := []) (st := [vI (n32 4), vR 9 (a0)]) km85 k85_7 ?_)
          exact ((((h.2 c6).2.2 c5).1 c4).1 c3)
        · refine VL_norm km85 k85_5 (VL_at (al := []) (st := [vR 9 (a0)]) km85 k85_5 ?_)
          refine VL_norm km85 k85_7 (VL_at (al := []) (st := [vI (n32 1), vR 9 (a0)]) km85 k85_7 ?_)
          exact ((((h.2 c6).2.2 c5).1 c4).2 c3)
      · refine VL_norm km85 k85_3 (VL_at (al := [(0, vR 9 (a0))]) (st := []) km85 k85_3 ?_)
        exact VL_norm km85 k85_0 (((h.2 c6).2.2 c5).2 c4)
/-- BannerParade$Tokens.readDigits, label 0 -/
theorem w86_0 {D : Nat} {a0 : Nat} {m : XM} {Q : XM → Prop} {E : Nat → XM → Prop}
    (h : VLU D 86 1 [(0, vR 9 (a0))] [] (um m (a0) 6 (n32 0)) Q E) :
    VU D 86 [vR 9 (a0)] m Q E := by
  refine V_of (VL_at (al := [(0, vR 9 (a0))]) (st := []) km86 k86_0 ?_)
  exact VL_norm km86 k86_1 h
/-- BannerParade$Tokens.readDigits, label 1 -/
theorem w86_1 {D : Nat} {a0 : Nat} {m : XM} {Q : XM → Prop} {E : Nat → XM → Prop}
    (h : (((m a0 2) ≤ (m a0 4) → (((n32 4) < ((m a0 4) - (m a0 3)) → Q (um m (a0) 5 (n32 4))) ∧ (¬ (n32 4) < ((m a0 4) - (m a0 3)) → Q (um m (a0) 5 (n32 2))))) ∧ (¬ (m a0 2) ≤ (m a0 4) → (xin (m a0 4) 700 = true ∧ (((m (a0 + 1) (ix (m a0 4))) < (n32 48) → (((n32 4) < ((m a0 4) - (m a0 3)) → Q (um m (a0) 5 (n32 4))) ∧ (¬ (n32 4) < ((m a0 4) - (m a0 3)) → Q (um m (a0) 5 (n32 2))))) ∧ (¬ (m (a0 + 1) (ix (m a0 4))) < (n32 48) → (((n32 57) < (m (a0 + 1) (ix (m a0 4))) → (((n32 4) < ((m a0 4) - (m a0 3)) → Q (um m (a0) 5 (n32 4))) ∧ (¬ (n32 4) < ((m a0 4) - (m a0 3)) → Q (um m (a0) 5 (n32 2))))) ∧ (¬ (n32 57) < (m (a0 + 1) (ix (m a0 4))) → (∀ μ4 : XM, μ4 = um (um m (a0) 6 ((((m a0 6) * (n32 10)) + (m (a0 + 1) (ix (m a0 4)))) - (n32 48))) (a0) 4 (((um m (a0) 6 ((((m a0 6) * (n32 10)) + (m (a0 + 1) (ix (m a0 4)))) - (n32 48))) a0 4) + (n32 1)) → VLU D 86 1 [(0, vR 9 (a0))] [] μ4 Q E))))))))) :
    VLU D 86 1 [(0, vR 9 (a0))] [] m Q E := by
  refine VL_at (al := [(0, vR 9 (a0))]) (st := []) km86 k86_1 ?_
  refine And.intro (fun c7 => ?_) (fun c7 => ?_)
  · refine VL_norm km86 k86_5 (VL_at (al := [(0, vR 9 (a0))]) (st := []) km86 k86_5 ?_)
    refine And.intro (fun c1 => ?_) (fun c1 => ?_)
    · refine VL_norm km86 k86_7 (VL_at (al := []) (st := [vR 9 (a0)]) km86 k86_7 ?_)
      refine VL_norm km86 k86_8 (VL_at (al := []) (st := [vI (n32 4), vR 9 (a0)]) km86 k86_8 ?_)
      exact ((h.1 c7).1 c1)
    · refine VL_norm km86 k86_6 (VL_at (al := []) (st := [vR 9 (a0)]) km86 k86_6 ?_)
      refine VL_norm km86 k86_8 (VL_at (al := []) (st := [vI (n32 2), vR 9 (a0)]) km86 k86_8 ?_)
      exact ((h.1 c7).2 c1)
  · refine VL_norm km86 k86_2 (VL_at (al := [(0, vR 9 (a0))]) (st := []) km86 k86_2 ?_)
    refine And.intro (h.2 c7).1 ?_
    refine And.intro (fun c6 => ?_) (fun c6 => ?_)
    · refine VL_norm km86 k86_5 (VL_at (al := [(0, vR 9 (a0))]) (st := []) km86 k86_5 ?_)
      refine And.intro (fun c2 => ?_) (fun c2 => ?_)
      · refine VL_norm km86 k86_7 (VL_at (al := []) (st := [vR 9 (a0)]) km86 k86_7 ?_)
        refine VL_norm km86 k86_8 (VL_at (al := []) (st := [vI (n32 4), vR 9 (a0)]) km86 k86_8 ?_)
        exact (((h.2 c7).2.1 c6).1 c2)
      · refine VL_norm km86 k86_6 (VL_at (al := []) (st := [vR 9 (a0)]) km86 k86_6 ?_)
        refine VL_norm km86 k86_8 (VL_at (al := []) (st := [vI (n32 2), vR 9 (a0)]) km86 k86_8 ?_)
        exact (((h.2 c7).2.1 c6).2 c2)
    · refine VL_norm km86 k86_3 (VL_at (al := [(0, vR 9 (a0))]) (st := []) km86 k86_3 ?_)
      refine And.intro (h.2 c7).1 ?_
      refine And.intro (fun c5 => ?_) (fun c5 => ?_)
      · refine VL_norm km86 k86_5 (VL_at (al := [(0, vR 9 (a0))]) (st := []) km86 k86_5 ?_)
        refine And.intro (fun c3 => ?_) (fun c3 => ?_)
        · refine VL_norm km86 k86_7 (VL_at (al := []) (st := [vR 9 (a0)]) km86 k86_7 ?_)
          refine VL_norm km86 k86_8 (VL_at (al := []) (st := [vI (n32 4), vR 9 (a0)]) km86 k86_8 ?_)
          exact ((((h.2 c7).2.2 c6).1 c5).1 c3)
        · refine VL_norm km86 k86_6 (VL_at (al := []) (st := [vR 9 (a0)]) km86 k86_6 ?_)
          refine VL_norm km86 k86_8 (VL_at (al := []) (st := [vI (n32 2), vR 9 (a0)]) km86 k86_8 ?_)
          exact ((((h.2 c7).2.2 c6).1 c5).2 c3)
      · refine VL_norm km86 k86_4 (VL_at (al := [(0, vR 9 (a0))]) (st := []) km86 k86_4 ?_)
        refine And.intro (h.2 c7).1 ?_
        exact VL_norm km86 k86_1 ((((h.2 c7).2.2 c6).2 c5) (um (um m (a0) 6 ((((m a0 6) * (n32 10)) + (m (a0 + 1) (ix (m a0 4)))) - (n32 48))) (a0) 4 (((um m (a0) 6 ((((m a0 6) * (n32 10)) + (m (a0 + 1) (ix (m a0 4)))) - (n32 48))) a0 4) + (n32 1))) rfl)
/-- BannerParade$Tokens.byteOfToken, label 0 -/
theorem w88_0 {D : Nat} {a0 : Nat} {v1 : Int32} {m : XM} {Q : Int32 → XM → Prop} {E : Nat → XM → Prop}
    (h : ((v1 < (n32 0) → Q (-(n32 1)) m) ∧ (¬ v1 < (n32 0) → ((((m a0 3) + v1) < (n32 0) → Q (-(n32 1)) m) ∧ (¬ ((m a0 3) + v1) < (n32 0) → (((m a0 4) ≤ ((m a0 3) + v1) → Q (-(n32 1)) m) ∧ (¬ (m a0 4) ≤ ((m a0 3) + v1) → (((n32 700) ≤ ((m a0 3) + v1) → Q (-(n32 1)) m) ∧ (¬ (n32 700) ≤ ((m a0 3) + v1) → (xin ((m a0 3) + v1) 700 = true ∧ Q (m (a0 + 1) (ix ((m a0 3) + v1))) m)))))))))) :
    VI D 88 [vR 9 (a0), vI v1] m Q E := by
  refine V_of (VL_at (al := [(0, vR 9 (a0)), (1, vI v1)]) (st := []) km88 k88_0 ?_)
  refine And.intro (fun c4 => ?_) (fun c4 => ?_)
  · refine VL_norm km88 k88_5 (VL_at (al := []) (st := []) km88 k88_5 ?_)
    refine VL_norm km88 k88_6 (VL_at (al := []) (st := [vI (-(n32 1))]) km88 k88_6 ?_)
    exact (h.1 c4)
  · refine VL_norm km88 k88_1 (VL_at (al := [(0, vR 9 (a0)), (2, vI ((m a0 3) + v1))]) (st := []) km88 k88_1 ?_)
    refine And.intro (fun c3 => ?_) (fun c3 => ?_)
    · refine VL_norm km88 k88_5 (VL_at (al := []) (st := []) km88 k88_5 ?_)
      refine VL_norm km88 k88_6 (VL_at (al := []) (st := [vI (-(n32 1))]) km88 k88_6 ?_)
      exact ((h.2 c4).1 c3)
    · refine VL_norm km88 k88_2 (VL_at (al := [(0, vR 9 (a0)), (2, vI ((m a0 3) + v1))]) (st := []) km88 k88_2 ?_)
      refine And.intro (fun c2 => ?_) (fun c2 => ?_)
      · refine VL_norm km88 k88_5 (VL_at (al := []) (st := []) km88 k88_5 ?_)
        refine VL_norm km88 k88_6 (VL_at (al := []) (st := [vI (-(n32 1))]) km88 k88_6 ?_)
        exact (((h.2 c4).2 c3).1 c2)
      · refine VL_norm km88 k88_3 (VL_at (al := [(0, vR 9 (a0)), (2, vI ((m a0 3) + v1))]) (st := []) km88 k88_3 ?_)
        refine And.intro (fun c1 => ?_) (fun c1 => ?_)
        · refine VL_norm km88 k88_5 (VL_at (al := []) (st := []) km88 k88_5 ?_)
          refine VL_norm km88 k88_6 (VL_at (al := []) (st := [vI (-(n32 1))]) km88 k88_6 ?_)
          exact ((((h.2 c4).2 c3).2 c2).1 c1)
        · refine VL_norm km88 k88_4 (VL_at (al := [(0, vR 9 (a0)), (2, vI ((m a0 3) + v1))]) (st := []) km88 k88_4 ?_)
          refine And.intro ((((h.2 c4).2 c3).2 c2).2 c1).1 ?_
          refine VL_norm km88 k88_6 (VL_at (al := []) (st := [vI (m (a0 + 1) (ix ((m a0 3) + v1)))]) km88 k88_6 ?_)
          exact ((((h.2 c4).2 c3).2 c2).2 c1).2
/-- BannerParade$Tokens.isWord, label 0 -/
theorem w89_0 {D : Nat} {a0 : Nat} {a1 : Nat} {m : XM} {Q : Int32 → XM → Prop} {E : Nat → XM → Prop}
    (h : (((m a0 5) = (n32 1) → VI (D + 3) 391 [vR 30 (a1)] m (fun x1 m1 => ((((m a0 4) - (m a0 3)) = x1 → VLI (D + 4) 89 3 [(0, vR 9 (a0)), (1, vR 30 (a1)), (2, vI (n32 0))] [] m1 Q E) ∧ (¬ ((m a0 4) - (m a0 3)) = x1 → Q (n32 0) m1))) E) ∧ (¬ (m a0 5) = (n32 1) → VI (D + 3) 391 [vR 30 (a1)] m (fun x3 m3 => (((n32 0) = x3 → VLI (D + 4) 89 3 [(0, vR 9 (a0)), (1, vR 30 (a1)), (2, vI (n32 0))] [] m3 Q E) ∧ (¬ (n32 0) = x3 → Q (n32 0) m3))) E))) :
    VI (D + 4) 89 [vR 9 (a0), vR 30 (a1)] m Q E := by
  refine V_of (VL_at (al := [(0, vR 9 (a0)), (1, vR 30 (a1))]) (st := []) km89 k89_0 ?_)
  refine V_of ?_
  refine VL_norm km87 k87_0 (VL_at (al := [(0, vR 9 (a0))]) (st := []) km87 k87_0 ?_)
  refine And.intro (fun c5 => ?_) (fun c5 => ?_)
  · refine VL_norm km87 k87_1 (VL_at (al := [(0, vR 9 (a0))]) (st := []) km87 k87_1 ?_)
    refine VL_norm km87 k87_3 (VL_at (al := []) (st := [vI ((m a0 4) - (m a0 3))]) km87 k87_3 ?_)
    refine V_mono (h.1 c5) (fun u1 m1 h1 => ?_) (fun _ _ h => h)
    refine And.intro (fun c2 => ?_) (fun c2 => ?_)
    · refine VL_norm km89 k89_2 (VL_at (al := [(0, vR 9 (a0)), (1, vR 30 (a1))]) (st := []) km89 k89_2 ?_)
      exact VL_norm km89 k89_3 (h1.1 c2)
    · refine VL_norm km89 k89_1 (VL_at (al := []) (st := []) km89 k89_1 ?_)
      refine And.intro xrt20 ?_
      exact (h1.2 c2)
  · refine VL_norm km87 k87_2 (VL_at (al := []) (st := []) km87 k87_2 ?_)
    refine VL_norm km87 k87_3 (VL_at (al := []) (st := [vI (n32 0)]) km87 k87_3 ?_)
    refine V_mono (h.2 c5) (fun u3 m3 h3 => ?_) (fun _ _ h => h)
    refine And.intro (fun c4 => ?_) (fun c4 => ?_)
    · refine VL_norm km89 k89_2 (VL_at (al := [(0, vR 9 (a0)), (1, vR 30 (a1))]) (st := []) km89 k89_2 ?_)
      exact VL_norm km89 k89_3 (h3.1 c4)
    · refine VL_norm km89 k89_1 (VL_at (al := []) (st := []) km89 k89_1 ?_)
      refine And.intro xrt20 ?_
      exact (h3.2 c4)
/-- BannerParade$Tokens.isWord, label 3 -/
theorem w89_3 {D : Nat} {a0 : Nat} {a1 : Nat} {v2 : Int32} {m : XM} {Q : Int32 → XM → Prop} {E : Nat → XM → Prop}
    (h : VI (D + 3) 391 [vR 30 (a1)] m (fun x1 m1 => ((x1 ≤ v2 → Q (n32 1) m1) ∧ (¬ x1 ≤ v2 → VI (D + 3) 88 [vR 9 (a0), vI v2] m1 (fun x2 m2 => VI (D + 3) 392 [vR 30 (a1), vI v2] m2 (fun x3 m3 => ((x2 = x3 → VLI (D + 4) 89 3 [(0, vR 9 (a0)), (1, vR 30 (a1)), (2, vI (v2 + (n32 1)))] [] m3 Q E) ∧ (¬ x2 = x3 → Q (n32 0) m3))) E) E))) E) :
    VLI (D + 4) 89 3 [(0, vR 9 (a0)), (1, vR 30 (a1)), (2, vI v2)] [] m Q E := by
  refine VL_at (al := [(0, vR 9 (a0)), (1, vR 30 (a1)), (2, vI v2)]) (st := []) km89 k89_3 ?_
  refine V_mono h (fun u1 m1 h1 => ?_) (fun _ _ h => h)
  refine And.intro (fun c5 => ?_) (fun c5 => ?_)
  · refine VL_norm km89 k89_7 (VL_at (al := []) (st := []) km89 k89_7 ?_)
    refine And.intro xrt21 ?_
    exact (h1.1 c5)
  · refine VL_norm km89 k89_4 (VL_at (al := [(0, vR 9 (a0)), (1, vR 30 (a1)), (2, vI v2)]) (st := []) km89 k89_4 ?_)
    refine V_mono (h1.2 c5) (fun u2 m2 h2 => ?_) (fun _ _ h => h)
    refine V_mono h2 (fun u3 m3 h3 => ?_) (fun _ _ h => h)
    refine And.intro (fun c4 => ?_) (fun c4 => ?_)
    · refine VL_norm km89 k89_6 (VL_at (al := [(0, vR 9 (a0)), (1, vR 30 (a1)), (2, vI v2)]) (st := []) km89 k89_6 ?_)
      exact VL_norm km89 k89_3 (h3.1 c4)
    · refine VL_norm km89 k89_5 (VL_at (al := []) (st := []) km89 k89_5 ?_)
      refine And.intro xrt20 ?_
      exact (h3.2 c4)
/-- BannerParade.append, label 0 -/
theorem w91_0 {D : Nat} {v1 : Int32} {v2 : Int32} {v3 : Int32} {v4 : Int32} {v5 : Int32} {m : XM} {Q : Int32 → XM → Prop} {E : Nat → XM → Prop}
    (h : VI (D + 1) 81 [vR 9 (1 + 1), vI v1, vI v2, vI v3, vI v4, vI v5] m (fun x1 m1 => Q x1 m1) E) :
    VI (D + 2) 91 [vR 10 (0), vI v1, vI v2, vI v3, vI v4, vI v5] m Q E := by
  refine V_of (VL_at (al := [(0, vR 10 (0)), (1, vI v1), (2, vI v2), (3, vI v3), (4, vI v4), (5, vI v5)]) (st := []) km91 k91_0 ?_)
  refine V_mono h (fun u1 m1 h1 => ?_) (fun _ _ h => h)
  exact h1
/-- BannerParade.load, label 0 -/
theorem w92_0 {D : Nat} {v1 : Int32} {m : XM} {Q : Int32 → XM → Prop} {E : Nat → XM → Prop}
    (h : ((v1 < (n32 0) → E 2 m) ∧ (¬ v1 < (n32 0) → ((v1 ≤ (m (1 + 1) 1) → VI (D + 7) 19 [vR 3 (1), vI v1] m (fun x1 m1 => ((x1 = (n32 0) → E 1 (um m1 (1 + 1) 1 (n32 0))) ∧ (¬ x1 = (n32 0) → VU (D + 7) 68 [vR 8 (29), vR 8 (1 + 3)] (um m1 (1 + 1) 1 (n32 0)) (fun m2 => VU (D + 7) 42 [vR 6 (69), vR 6 (1 + 23)] m2 (fun m3 => VU (D + 7) 12 [vR 2 (74)] (um (um m3 (74) 0 (n32 0)) (74) 1 (n32 0)) (fun m4 => Q ((um m4 (0) 7 (n32 1)) (29 + 3) 0) (um m4 (0) 7 (n32 1))) E) E) E))) E) ∧ (¬ v1 ≤ (m (1 + 1) 1) → E 2 m))))) :
    VI (D + 8) 92 [vR 10 (0), vI v1] m Q E := by
  refine V_of (VL_at (al := [(0, vR 10 (0)), (1, vI v1)]) (st := []) km92 k92_0 ?_)
  refine And.intro (fun c7 => ?_) (fun c7 => ?_)
  · refine VL_norm km92 k92_2 (VL_at (al := []) (st := []) km92 k92_2 ?_)
    exact (h.1 c7)
  · refine VL_norm km92 k92_1 (VL_at (al := [(0, vR 10 (0)), (1, vI v1)]) (st := []) km92 k92_1 ?_)
    refine And.intro (fun c6 => ?_) (fun c6 => ?_)
    · refine VL_norm km92 k92_3 (VL_at (al := [(0, vR 10 (0)), (1, vI v1)]) (st := []) km92 k92_3 ?_)
      refine V_mono ((h.2 c7).1 c6) (fun u1 m1 h1 => ?_) (fun _ _ h => h)
      refine V_of ?_
      refine VL_norm km160 k160_0 (VL_at (al := [(0, vI (xti u1))]) (st := []) km160 k160_0 ?_)
      refine And.intro (fun c5 => ?_) (fun c5 => ?_)
      · refine VL_norm km160 k160_1 (VL_at (al := []) (st := []) km160 k160_1 ?_)
        exact (h1.1 c5)
      · refine VL_norm km160 k160_2 (VL_at (al := []) (st := []) km160 k160_2 ?_)
        refine V_mono (h1.2 c5) (fun u2 m2 h2 => ?_) (fun _ _ h => h)
        refine V_mono h2 (fun u3 m3 h3 => ?_) (fun _ _ h => h)
        refine V_of ?_
        refine VL_norm km11 k11_0 (VL_at (al := [(0, vR 2 (74))]) (st := []) km11 k11_0 ?_)
        refine V_mono h3 (fun u4 m4 h4 => ?_) (fun _ _ h => h)
        refine And.intro (Or.inr rfl) ?_
        exact h4
    · refine VL_norm km92 k92_2 (VL_at (al := []) (st := []) km92 k92_2 ?_)
      exact ((h.2 c7).2 c6)
/-- BannerParade.count, label 0 -/
theorem w96_0 {D : Nat} {v1 : Int32} {m : XM} {Q : Int32 → XM → Prop} {E : Nat → XM → Prop}
    (h : (((m 0 7) = (n32 0) → E 0 m) ∧ (¬ (m 0 7) = (n32 0) → ((v1 < (n32 0) → E 1 m) ∧ (¬ v1 < (n32 0) → (((n32 16) < v1 → E 1 m) ∧ (¬ (n32 16) < v1 → ((v1 = (n32 0) → Q (m (29 + 3) 0) m) ∧ (¬ v1 = (n32 0) → ((v1 = (n32 1) → Q (m 69 0) m) ∧ (¬ v1 = (n32 1) → ((v1 = (n32 2) → Q (m (29 + 16) 0) m) ∧ (¬ v1 = (n32 2) → ((v1 = (n32 3) → Q (m 29 0) m) ∧ (¬ v1 = (n32 3) → ((v1 = (n32 4) → VI (D + 3) 55 [vR 7 (29 + 3)] m (fun x1 m1 => Q x1 m1) E) ∧ (¬ v1 = (n32 4) → ((v1 = (n32 5) → Q (m (29 + 12) 0) m) ∧ (¬ v1 = (n32 5) → ((v1 = (n32 6) → Q (m 29 1) m) ∧ (¬ v1 = (n32 6) → ((v1 = (n32 7) → VI (D + 3) 30 [vR 4 (29 + 16), vI (n32 2)] m (fun x2 m2 => Q x2 m2) E) ∧ (¬ v1 = (n32 7) → ((v1 = (n32 8) → Q (m 29 2) m) ∧ (¬ v1 = (n32 8) → ((v1 = (n32 9) → Q (m 29 3) m) ∧ (¬ v1 = (n32 9) → ((v1 = (n32 10) → VI (D + 3) 166 [vR 10 (0)] m (fun x3 m3 => Q ((((((((x3 - (((x3).toUInt32 >>> (((n32 1)).toUInt32 &&& Int32.toUInt32 31)).toInt32 &&& (n32 1431655765))) &&& (n32 858993459)) + ((((x3 - (((x3).toUInt32 >>> (((n32 1)).toUInt32 &&& Int32.toUInt32 31)).toInt32 &&& (n32 1431655765)))).toUInt32 >>> (((n32 2)).toUInt32 &&& Int32.toUInt32 31)).toInt32 &&& (n32 858993459))) + (((((x3 - (((x3).toUInt32 >>> (((n32 1)).toUInt32 &&& Int32.toUInt32 31)).toInt32 &&& (n32 1431655765))) &&& (n32 858993459)) + ((((x3 - (((x3).toUInt32 >>> (((n32 1)).toUInt32 &&& Int32.toUInt32 31)).toInt32 &&& (n32 1431655765)))).toUInt32 >>> (((n32 2)).toUInt32 &&& Int32.toUInt32 31)).toInt32 &&& (n32 858993459)))).toUInt32 >>> (((n32 4)).toUInt32 &&& Int32.toUInt32 31)).toInt32) &&& (n32 252645135)) + (((((((x3 - (((x3).toUInt32 >>> (((n32 1)).toUInt32 &&& Int32.toUInt32 31)).toInt32 &&& (n32 1431655765))) &&& (n32 858993459)) + ((((x3 - (((x3).toUInt32 >>> (((n32 1)).toUInt32 &&& Int32.toUInt32 31)).toInt32 &&& (n32 1431655765)))).toUInt32 >>> (((n32 2)).toUInt32 &&& Int32.toUInt32 31)).toInt32 &&& (n32 858993459))) + (((((x3 - (((x3).toUInt32 >>> (((n32 1)).toUInt32 &&& Int32.toUInt32 31)).toInt32 &&& (n32 1431655765))) &&& (n32 858993459)) + ((((x3 - (((x3).toUInt32 >>> (((n32 1)).toUInt32 &&& Int32.toUInt32 31)).toInt32 &&& (n32 1431655765)))).toUInt32 >>> (((n32 2)).toUInt32 &&& Int32.toUInt32 31)).toInt32 &&& (n32 858993459)))).toUInt32 >>> (((n32 4)).toUInt32 &&& Int32.toUInt32 31)).toInt32) &&& (n32 252645135))).toUInt32 >>> (((n32 8)).toUInt32 &&& Int32.toUInt32 31)).toInt32) + ((((((((x3 - (((x3).toUInt32 >>> (((n32 1)).toUInt32 &&& Int32.toUInt32 31)).toInt32 &&& (n32 1431655765))) &&& (n32 858993459)) + ((((x3 - (((x3).toUInt32 >>> (((n32 1)).toUInt32 &&& Int32.toUInt32 31)).toInt32 &&& (n32 1431655765)))).toUInt32 >>> (((n32 2)).toUInt32 &&& Int32.toUInt32 31)).toInt32 &&& (n32 858993459))) + (((((x3 - (((x3).toUInt32 >>> (((n32 1)).toUInt32 &&& Int32.toUInt32 31)).toInt32 &&& (n32 1431655765))) &&& (n32 858993459)) + ((((x3 - (((x3).toUInt32 >>> (((n32 1)).toUInt32 &&& Int32.toUInt32 31)).toInt32 &&& (n32 1431655765)))).toUInt32 >>> (((n32 2)).toUInt32 &&& Int32.toUInt32 31)).toInt32 &&& (n32 858993459)))).toUInt32 >>> (((n32 4)).toUInt32 &&& Int32.toUInt32 31)).toInt32) &&& (n32 252645135)) + (((((((x3 - (((x3).toUInt32 >>> (((n32 1)).toUInt32 &&& Int32.toUInt32 31)).toInt32 &&& (n32 1431655765))) &&& (n32 858993459)) + ((((x3 - (((x3).toUInt32 >>> (((n32 1)).toUInt32 &&& Int32.toUInt32 31)).toInt32 &&& (n32 1431655765)))).toUInt32 >>> (((n32 2)).toUInt32 &&& Int32.toUInt32 31)).toInt32 &&& (n32 858993459))) + (((((x3 - (((x3).toUInt32 >>> (((n32 1)).toUInt32 &&& Int32.toUInt32 31)).toInt32 &&& (n32 1431655765))) &&& (n32 858993459)) + ((((x3 - (((x3).toUInt32 >>> (((n32 1)).toUInt32 &&& Int32.toUInt32 31)).toInt32 &&& (n32 1431655765)))).toUInt32 >>> (((n32 2)).toUInt32 &&& Int32.toUInt32 31)).toInt32 &&& (n32 858993459)))).toUInt32 >>> (((n32 4)).toUInt32 &&& Int32.toUInt32 31)).toInt32) &&& (n32 252645135))).toUInt32 >>> (((n32 8)).toUInt32 &&& Int32.toUInt32 31)).toInt32)).toUInt32 >>> (((n32 16)).toUInt32 &&& Int32.toUInt32 31)).toInt32) &&& (n32 63)) m3) E) ∧ (¬ v1 = (n32 10) → ((v1 = (n32 11) → VI (D + 3) 30 [vR 4 (29 + 16), vI (n32 0)] m (fun x4 m4 => Q x4 m4) E) ∧ (¬ v1 = (n32 11) → ((v1 = (n32 12) → VI (D + 3) 62 [vR 7 (29 + 3), vI (n32 0)] m (fun x5 m5 => Q ((((((((x5 - (((x5).toUInt32 >>> (((n32 1)).toUInt32 &&& Int32.toUInt32 31)).toInt32 &&& (n32 1431655765))) &&& (n32 858993459)) + ((((x5 - (((x5).toUInt32 >>> (((n32 1)).toUInt32 &&& Int32.toUInt32 31)).toInt32 &&& (n32 1431655765)))).toUInt32 >>> (((n32 2)).toUInt32 &&& Int32.toUInt32 31)).toInt32 &&& (n32 858993459))) + (((((x5 - (((x5).toUInt32 >>> (((n32 1)).toUInt32 &&& Int32.toUInt32 31)).toInt32 &&& (n32 1431655765))) &&& (n32 858993459)) + ((((x5 - (((x5).toUInt32 >>> (((n32 1)).toUInt32 &&& Int32.toUInt32 31)).toInt32 &&& (n32 1431655765)))).toUInt32 >>> (((n32 2)).toUInt32 &&& Int32.toUInt32 31)).toInt32 &&& (n32 858993459)))).toUInt32 >>> (((n32 4)).toUInt32 &&& Int32.toUInt32 31)).toInt32) &&& (n32 252645135)) + (((((((x5 - (((x5).toUInt32 >>> (((n32 1)).toUInt32 &&& Int32.toUInt32 31)).toInt32 &&& (n32 1431655765))) &&& (n32 858993459)) + ((((x5 - (((x5).toUInt32 >>> (((n32 1)).toUInt32 &&& Int32.toUInt32 31)).toInt32 &&& (n32 1431655765)))).toUInt32 >>> (((n32 2)).toUInt32 &&& Int32.toUInt32 31)).toInt32 &&& (n32 858993459))) + (((((x5 - (((x5).toUInt32 >>> (((n32 1)).toUInt32 &&& Int32.toUInt32 31)).toInt32 &&& (n32 1431655765))) &&& (n32 858993459)) + ((((x5 - (((x5).toUInt32 >>> (((n32 1)).toUInt32 &&& Int32.toUInt32 31)).toInt32 &&& (n32 1431655765)))).toUInt32 >>> (((n32 2)).toUInt32 &&& Int32.toUInt32 31)).toInt32 &&& (n32 858993459)))).toUInt32 >>> (((n32 4)).toUInt32 &&& Int32.toUInt32 31)).toInt32) &&& (n32 252645135))).toUInt32 >>> (((n32 8)).toUInt32 &&& Int32.toUInt32 31)).toInt32) + ((((((((x5 - (((x5).toUInt32 >>> (((n32 1)).toUInt32 &&& Int32.toUInt32 31)).toInt32 &&& (n32 1431655765))) &&& (n32 858993459)) + ((((x5 - (((x5).toUInt32 >>> (((n32 1)).toUInt32 &&& Int32.toUInt32 31)).toInt32 &&& (n32 1431655765)))).toUInt32 >>> (((n32 2)).toUInt32 &&& Int32.toUInt32 31)).toInt32 &&& (n32 858993459))) + (((((x5 - (((x5).toUInt32 >>> (((n32 1)).toUInt32 &&& Int32.toUInt32 31)).toInt32 &&& (n32 1431655765))) &&& (n32 858993459)) + ((((x5 - (((x5).toUInt32 >>> (((n32 1)).toUInt32 &&& Int32.toUInt32 31)).toInt32 &&& (n32 1431655765)))).toUInt32 >>> (((n32 2)).toUInt32 &&& Int32.toUInt32 31)).toInt32 &&& (n32 858993459)))).toUInt32 >>> (((n32 4)).toUInt32 &&& Int32.toUInt32 31)).toInt32) &&& (n32 252645135)) + (((((((x5 - (((x5).toUInt32 >>> (((n32 1)).toUInt32 &&& Int32.toUInt32 31)).toInt32 &&& (n32 1431655765))) &&& (n32 858993459)) + ((((x5 - (((x5).toUInt32 >>> (((n32 1)).toUInt32 &&& Int32.toUInt32 31)).toInt32 &&& (n32 1431655765)))).toUInt32 >>> (((n32 2)).toUInt32 &&& Int32.toUInt32 31)).toInt32 &&& (n32 858993459))) + (((((x5 - (((x5).toUInt32 >>> (((n32 1)).toUInt32 &&& Int32.toUInt32 31)).toInt32 &&& (n32 1431655765))) &&& (n32 858993459)) + ((((x5 - (((x5).toUInt32 >>> (((n32 1)).toUInt32 &&& Int32.toUInt32 31)).toInt32 &&& (n32 1431655765)))).toUInt32 >>> (((n32 2)).toUInt32 &&& Int32.toUInt32 31)).toInt32 &&& (n32 858993459)))).toUInt32 >>> (((n32 4)).toUInt32 &&& Int32.toUInt32 31)).toInt32) &&& (n32 252645135))).toUInt32 >>> (((n32 8)).toUInt32 &&& Int32.toUInt32 31)).toInt32)).toUInt32 >>> (((n32 16)).toUInt32 &&& Int32.toUInt32 31)).toInt32) &&& (n32 63)) m5) E) ∧ (¬ v1 = (n32 12) → ((v1 = (n32 13) → VI (D + 3) 57 [vR 7 (29 + 3)] m (fun x6 m6 => Q x6 m6) E) ∧ (¬ v1 = (n32 13) → ((v1 = (n32 14) → VI (D + 3) 58 [vR 7 (29 + 3), vI (m (29 + 1) (ix (n32 0)))] m (fun x7 m7 => Q x7 m7) E) ∧ (¬ v1 = (n32 14) → ((v1 = (n32 15) → VI (D + 3) 59 [vR 7 (29 + 3)] m (fun x8 m8 => Q x8 m8) E) ∧ (¬ v1 = (n32 15) → VI (D + 3) 167 [vR 10 (0)] m (fun x9 m9 => Q x9 m9) E))))))))))))))))))))))))))))))))))))))) :
    VI (D + 4) 96 [vR 10 (0), vI v1] m Q E := by
  refine V_of (VL_at (al := [(0, vR 10 (0)), (1, vI v1)]) (st := []) km96 k96_0 ?_)
  refine V_of ?_
  refine VL_norm km155 k155_0 (VL_at (al := [(0, vR 10 (0))]) (st := []) km155 k155_0 ?_)
  refine And.intro (fun c28 => ?_) (fun c28 => ?_)
  · refine VL_norm km155 k155_1 (VL_at (al := []) (st := []) km155 k155_1 ?_)
    exact (h.1 c28)
  · refine VL_norm km155 k155_2 (VL_at (al := []) (st := []) km155 k155_2 ?_)
    refine V_of ?_
    refine VL_norm km159 k159_0 (VL_at (al := [(0, vI v1), (1, vI (n32 0)), (2, vI (n32 16))]) (st := []) km159 k159_0 ?_)
    refine And.intro (fun c27 => ?_) (fun c27 => ?_)
    · refine VL_norm km159 k159_3 (VL_at (al := []) (st := []) km159 k159_3 ?_)
      refine VL_norm km159 k159_4 (VL_at (al := []) (st := [vI (n32 0)]) km159 k159_4 ?_)
      refine V_of ?_
      refine VL_norm km160 k160_0 (VL_at (al := [(0, vI (n32 0))]) (st := []) km160 k160_0 ?_)
      refine And.intro (fun _ => ?_) (fun c => absurd (by decide) c)
      refine VL_norm km160 k160_1 (VL_at (al := []) (st := []) km160 k160_1 ?_)
      exact ((h.2 c28).1 c27)
    · refine VL_norm km159 k159_1 (VL_at (al := [(0, vI v1), (2, vI (n32 16))]) (st := []) km159 k159_1 ?_)
      refine And.intro (fun c26 => ?_) (fun c26 => ?_)
      · refine VL_norm km159 k159_3 (VL_at (al := []) (st := []) km159 k159_3 ?_)
        refine VL_norm km159 k159_4 (VL_at (al := []) (st := [vI (n32 0)]) km159 k159_4 ?_)
        refine V_of ?_
        refine VL_norm km160 k160_0 (VL_at (al := [(0, vI (n32 0))]) (st := []) km160 k160_0 ?_)
        refine And.intro (fun _ => ?_) (fun c => absurd (by decide) c)
        refine VL_norm km160 k160_1 (VL_at (al := []) (st := []) km160 k160_1 ?_)
        exact (((h.2 c28).2 c27).1 c26)
      · refine VL_norm km159 k159_2 (VL_at (al := []) (st := []) km159 k159_2 ?_)
        refine VL_norm km159 k159_4 (VL_at (al := []) (st := [vI (n32 1)]) km159 k159_4 ?_)
        refine V_of ?_
        refine VL_norm km160 k160_0 (VL_at (al := [(0, vI (n32 1))]) (st := []) km160 k160_0 ?_)
        refine And.intro (fun c => absurd c (by decide)) (fun _ => ?_)
        refine VL_norm km160 k160_2 (VL_at (al := []) (st := []) km160 k160_2 ?_)
        refine And.intro (fun c25 => ?_) (fun c25 => ?_)
        · refine VL_norm km96 k96_1 (VL_at (al := [(0, vR 10 (0))]) (st := []) km96 k96_1 ?_)
          exact ((((h.2 c28).2 c27).2 c26).1 c25)
        · refine And.intro (fun c24 => ?_) (fun c24 => ?_)
          · refine VL_norm km96 k96_2 (VL_at (al := [(0, vR 10 (0))]) (st := []) km96 k96_2 ?_)
            exact (((((h.2 c28).2 c27).2 c26).2 c25).1 c24)
          · refine And.intro (fun c23 => ?_) (fun c23 => ?_)
            · refine VL_norm km96 k96_3 (VL_at (al := [(0, vR 10 (0))]) (st := []) km96 k96_3 ?_)
              exact ((((((h.2 c28).2 c27).2 c26).2 c25).2 c24).1 c23)
            · refine And.intro (fun c22 => ?_) (fun c22 => ?_)
              · refine VL_norm km96 k96_4 (VL_at (al := [(0, vR 10 (0))]) (st := []) km96 k96_4 ?_)
                exact (((((((h.2 c28).2 c27).2 c26).2 c25).2 c24).2 c23).1 c22)
              · refine And.intro (fun c21 => ?_) (fun c21 => ?_)
                · refine VL_norm km96 k96_5 (VL_at (al := [(0, vR 10 (0))]) (st := []) km96 k96_5 ?_)
                  refine V_mono ((((((((h.2 c28).2 c27).2 c26).2 c25).2 c24).2 c23).2 c22).1 c21) (fun u1 m1 h1 => ?_) (fun _ _ h => h)
                  exact h1
                · refine And.intro (fun c20 => ?_) (fun c20 => ?_)
                  · refine VL_norm km96 k96_6 (VL_at (al := [(0, vR 10 (0))]) (st := []) km96 k96_6 ?_)
                    exact (((((((((h.2 c28).2 c27).2 c26).2 c25).2 c24).2 c23).2 c22).2 c21).1 c20)
                  · refine And.intro (fun c19 => ?_) (fun c19 => ?_)
                    · refine VL_norm km96 k96_7 (VL_at (al := [(0, vR 10 (0))]) (st := []) km96 k96_7 ?_)
                      exact ((((((((((h.2 c28).2 c27).2 c26).2 c25).2 c24).2 c23).2 c22).2 c21).2 c20).1 c19)
                    · refine And.intro (fun c18 => ?_) (fun c18 => ?_)
                      · refine VL_norm km96 k96_8 (VL_at (al := [(0, vR 10 (0))]) (st := []) km96 k96_8 ?_)
                        refine V_mono (((((((((((h.2 c28).2 c27).2 c26).2 c25).2 c24).2 c23).2 c22).2 c21).2 c20).2 c19).1 c18) (fun u2 m2 h2 => ?_) (fun _ _ h => h)
                        exact h2
                      · refine And.intro (fun c17 => ?_) (fun c17 => ?_)
                        · refine VL_norm km96 k96_9 (VL_at (al := [(0, vR 10 (0))]) (st := []) km96 k96_9 ?_)
                          exact ((((((((((((h.2 c28).2 c27).2 c26).2 c25).2 c24).2 c23).2 c22).2 c21).2 c20).2 c19).2 c18).1 c17)
                        · refine And.intro (fun c16 => ?_) (fun c16 => ?_)
                          · refine VL_norm km96 k96_10 (VL_at (al := [(0, vR 10 (0))]) (st := []) km96 k96_10 ?_)
                            exact (((((((((((((h.2 c28).2 c27).2 c26).2 c25).2 c24).2 c23).2 c22).2 c21).2 c20).2 c19).2 c18).2 c17).1 c16)
                          · refine And.intro (fun c15 => ?_) (fun c15 => ?_)
                            · refine VL_norm km96 k96_11 (VL_at (al := [(0, vR 10 (0))]) (st := []) km96 k96_11 ?_)
                              refine V_mono ((((((((((((((h.2 c28).2 c27).2 c26).2 c25).2 c24).2 c23).2 c22).2 c21).2 c20).2 c19).2 c18).2 c17).2 c16).1 c15) (fun u3 m3 h3 => ?_) (fun _ _ h => h)
                              refine V_of ?_
                              refine VL_norm km383 k383_0 (VL_at (al := [(0, vI (xti u3))]) (st := []) km383 k383_0 ?_)
                              exact h3
                            · refine And.intro (fun c14 => ?_) (fun c14 => ?_)
                              · refine VL_norm km96 k96_12 (VL_at (al := [(0, vR 10 (0))]) (st := []) km96 k96_12 ?_)
                                refine V_mono (((((((((((((((h.2 c28).2 c27).2 c26).2 c25).2 c24).2 c23).2 c22).2 c21).2 c20).2 c19).2 c18).2 c17).2 c16).2 c15).1 c14) (fun u4 m4 h4 => ?_) (fun _ _ h => h)
                                exact h4
                              · refine And.intro (fun c13 => ?_) (fun c13 => ?_)
                                · refine VL_norm km96 k96_13 (VL_at (al := [(0, vR 10 (0))]) (st := []) km96 k96_13 ?_)
                                  refine V_mono ((((((((((((((((h.2 c28).2 c27).2 c26).2 c25).2 c24).2 c23).2 c22).2 c21).2 c20).2 c19).2 c18).2 c17).2 c16).2 c15).2 c14).1 c13) (fun u5 m5 h5 => ?_) (fun _ _ h => h)
                                  refine V_of ?_
                                  refine VL_norm km383 k383_0 (VL_at (al := [(0, vI (xti u5))]) (st := []) km383 k383_0 ?_)
                                  exact h5
                                · refine And.intro (fun c12 => ?_) (fun c12 => ?_)
                                  · refine VL_norm km96 k96_14 (VL_at (al := [(0, vR 10 (0))]) (st := []) km96 k96_14 ?_)
                                    refine V_mono (((((((((((((((((h.2 c28).2 c27).2 c26).2 c25).2 c24).2 c23).2 c22).2 c21).2 c20).2 c19).2 c18).2 c17).2 c16).2 c15).2 c14).2 c13).1 c12) (fun u6 m6 h6 => ?_) (fun _ _ h => h)
                                    exact h6
                                  · refine And.intro (fun c11 => ?_) (fun c11 => ?_)
                                    · refine VL_norm km96 k96_15 (VL_at (al := [(0, vR 10 (0))]) (st := []) km96 k96_15 ?_)
                                      refine And.intro (xin_k rfl) ?_
                                      refine V_mono ((((((((((((((((((h.2 c28).2 c27).2 c26).2 c25).2 c24).2 c23).2 c22).2 c21).2 c20).2 c19).2 c18).2 c17).2 c16).2 c15).2 c14).2 c13).2 c12).1 c11) (fun u7 m7 h7 => ?_) (fun _ _ h => h)
                                      exact h7
                                    · refine And.intro (fun c10 => ?_) (fun c10 => ?_)
                                      · refine VL_norm km96 k96_16 (VL_at (al := [(0, vR 10 (0))]) (st := []) km96 k96_16 ?_)
                                        refine V_mono (((((((((((((((((((h.2 c28).2 c27).2 c26).2 c25).2 c24).2 c23).2 c22).2 c21).2 c20).2 c19).2 c18).2 c17).2 c16).2 c15).2 c14).2 c13).2 c12).2 c11).1 c10) (fun u8 m8 h8 => ?_) (fun _ _ h => h)
                                        exact h8
                                      · refine VL_norm km96 k96_17 (VL_at (al := [(0, vR 10 (0))]) (st := []) km96 k96_17 ?_)
                                        refine V_mono (((((((((((((((((((h.2 c28).2 c27).2 c26).2 c25).2 c24).2 c23).2 c22).2 c21).2 c20).2 c19).2 c18).2 c17).2 c16).2 c15).2 c14).2 c13).2 c12).2 c11).2 c10) (fun u9 m9 h9 => ?_) (fun _ _ h => h)
                                        exact h9
/-- BannerParade.setting, label 0 -/
theorem w97_0 {D : Nat} {v1 : Int32} {m : XM} {Q : Int32 → XM → Prop} {E : Nat → XM → Prop}
    (h : (((m 0 7) = (n32 0) → E 0 m) ∧ (¬ (m 0 7) = (n32 0) → ((v1 < (n32 0) → E 1 m) ∧ (¬ v1 < (n32 0) → (((n32 5) < v1 → E 1 m) ∧ (¬ (n32 5) < v1 → (xin v1 6 = true ∧ Q (m (29 + 1) (ix v1)) m)))))))) :
    VI (D + 2) 97 [vR 10 (0), vI v1] m Q E := by
  refine V_of (VL_at (al := [(0, vR 10 (0)), (1, vI v1)]) (st := []) km97 k97_0 ?_)
  refine V_of ?_
  refine VL_norm km155 k155_0 (VL_at (al := [(0, vR 10 (0))]) (st := []) km155 k155_0 ?_)
  refine And.intro (fun c3 => ?_) (fun c3 => ?_)
  · refine VL_norm km155 k155_1 (VL_at (al := []) (st := []) km155 k155_1 ?_)
    exact (h.1 c3)
  · refine VL_norm km155 k155_2 (VL_at (al := []) (st := []) km155 k155_2 ?_)
    refine V_of ?_
    refine VL_norm km159 k159_0 (VL_at (al := [(0, vI v1), (1, vI (n32 0)), (2, vI (n32 5))]) (st := []) km159 k159_0 ?_)
    refine And.intro (fun c2 => ?_) (fun c2 => ?_)
    · refine VL_norm km159 k159_3 (VL_at (al := []) (st := []) km159 k159_3 ?_)
      refine VL_norm km159 k159_4 (VL_at (al := []) (st := [vI (n32 0)]) km159 k159_4 ?_)
      refine V_of ?_
      refine VL_norm km160 k160_0 (VL_at (al := [(0, vI (n32 0))]) (st := []) km160 k160_0 ?_)
      refine And.intro (fun _ => ?_) (fun c => absurd (by decide) c)
      refine VL_norm km160 k160_1 (VL_at (al := []) (st := []) km160 k160_1 ?_)
      exact ((h.2 c3).1 c2)
    · refine VL_norm km159 k159_1 (VL_at (al := [(0, vI v1), (2, vI (n32 5))]) (st := []) km159 k159_1 ?_)
      refine And.intro (fun c1 => ?_) (fun c1 => ?_)
      · refine VL_norm km159 k159_3 (VL_at (al := []) (st := []) km159 k159_3 ?_)
        refine VL_norm km159 k159_4 (VL_at (al := []) (st := [vI (n32 0)]) km159 k159_4 ?_)
        refine V_of ?_
        refine VL_norm km160 k160_0 (VL_at (al := [(0, vI (n32 0))]) (st := []) km160 k160_0 ?_)
        refine And.intro (fun _ => ?_) (fun c => absurd (by decide) c)
        refine VL_norm km160 k160_1 (VL_at (al := []) (st := []) km160 k160_1 ?_)
        exact (((h.2 c3).2 c2).1 c1)
      · refine VL_norm km159 k159_2 (VL_at (al := []) (st := []) km159 k159_2 ?_)
        refine VL_norm km159 k159_4 (VL_at (al := []) (st := [vI (n32 1)]) km159 k159_4 ?_)
        refine V_of ?_
        refine VL_norm km160 k160_0 (VL_at (al := [(0, vI (n32 1))]) (st := []) km160 k160_0 ?_)
        refine And.intro (fun c => absurd c (by decide)) (fun _ => ?_)
        refine VL_norm km160 k160_2 (VL_at (al := []) (st := []) km160 k160_2 ?_)
        refine And.intro (((h.2 c3).2 c2).2 c1).1 ?_
        exact (((h.2 c3).2 c2).2 c1).2
/-- BannerParade.bearer, label 0 -/
theorem w98_0 {D : Nat} {v1 : Int32} {v2 : Int32} {m : XM} {Q : Int32 → XM → Prop} {E : Nat → XM → Prop}
    (h : (((m 0 7) = (n32 0) → E 0 m) ∧ (¬ (m 0 7) = (n32 0) → ((v1 < (n32 0) → E 2 m) ∧ (¬ v1 < (n32 0) → ((v1 < (m (29 + 3) 0) → ((v2 < (n32 0) → E 1 m) ∧ (¬ v2 < (n32 0) → (((n32 12) < v2 → E 1 m) ∧ (¬ (n32 12) < v2 → ((v2 = (n32 0) → (xin v1 12 = true ∧ Q (m (29 + 3 + 5) (ix v1)) m)) ∧ (¬ v2 = (n32 0) → ((v2 = (n32 1) → (xin v1 12 = true ∧ Q (m (29 + 3 + 6) (ix v1)) m)) ∧ (¬ v2 = (n32 1) → ((v2 = (n32 2) → (xin v1 12 = true ∧ Q (m (29 + 3 + 2) (ix v1)) m)) ∧ (¬ v2 = (n32 2) → ((v2 = (n32 3) → (xin v1 12 = true ∧ Q (m (29 + 3 + 3) (ix v1)) m)) ∧ (¬ v2 = (n32 3) → ((v2 = (n32 4) → (xin v1 12 = true ∧ Q (m (29 + 3 + 4) (ix v1)) m)) ∧ (¬ v2 = (n32 4) → ((v2 = (n32 5) → VI (D + 2) 50 [vR 7 (29 + 3), vI v1] m (fun x1 m1 => Q x1 m1) E) ∧ (¬ v2 = (n32 5) → ((v2 = (n32 6) → ((v1 ≤ (n32 0) → Q (-(n32 1)) m) ∧ (¬ v1 ≤ (n32 0) → (xin (v1 - (n32 1)) 12 = true ∧ (xin v1 12 = true ∧ Q ((m (29 + 3 + 6) (ix (v1 - (n32 1)))) - (m (29 + 3 + 6) (ix v1))) m))))) ∧ (¬ v2 = (n32 6) → ((v2 = (n32 7) → (xin v1 12 = true ∧ Q (m (29 + 3 + 8) (ix v1)) m)) ∧ (¬ v2 = (n32 7) → ((v2 = (n32 8) → (xin v1 12 = true ∧ Q (m (29 + 3 + 1) (ix v1)) m)) ∧ (¬ v2 = (n32 8) → ((v2 = (n32 9) → VI (D + 2) 168 [vR 10 (0), vI v1] m (fun x3 m3 => Q x3 m3) E) ∧ (¬ v2 = (n32 9) → ((v2 = (n32 10) → (xin v1 12 = true ∧ Q ((m (29 + 3 + 6) (ix (n32 0))) - (m (29 + 3 + 6) (ix v1))) m)) ∧ (¬ v2 = (n32 10) → ((v2 = (n32 11) → (xin v1 12 = true ∧ VI (D + 2) 63 [vR 7 (29 + 3), vI (m (29 + 3 + 4) (ix v1))] m (fun x4 m4 => Q x4 m4) E)) ∧ (¬ v2 = (n32 11) → (xin v1 12 = true ∧ VI (D + 2) 7 [vR 1 (29 + 12), vI (m (29 + 3 + 6) (ix v1)), vI (m (29 + 3 + 6) (ix v1))] m (fun x5 m5 => ((x5 ≤ (n32 0) → Q (n32 0) m5) ∧ (¬ x5 ≤ (n32 0) → Q (n32 1) m5))) E)))))))))))))))))))))))))))))) ∧ (¬ v1 < (m (29 + 3) 0) → E 2 m))))))) :
    VI (D + 3) 98 [vR 10 (0), vI v1, vI v2] m Q E := by
  refine V_of (VL_at (al := [(0, vR 10 (0)), (1, vI v1), (2, vI v2)]) (st := []) km98 k98_0 ?_)
  refine V_of ?_
  refine VL_norm km155 k155_0 (VL_at (al := [(0, vR 10 (0))]) (st := []) km155 k155_0 ?_)
  refine And.intro (fun c23 => ?_) (fun c23 => ?_)
  · refine VL_norm km155 k155_1 (VL_at (al := []) (st := []) km155 k155_1 ?_)
    exact (h.1 c23)
  · refine VL_norm km155 k155_2 (VL_at (al := []) (st := []) km155 k155_2 ?_)
    refine V_of ?_
    refine VL_norm km156 k156_0 (VL_at (al := [(0, vR 10 (0)), (1, vI v1)]) (st := []) km156 k156_0 ?_)
    refine V_of ?_
    refine VL_norm km158 k158_0 (VL_at (al := [(0, vI v1), (1, vI (m (29 + 3) 0))]) (st := []) km158 k158_0 ?_)
    refine And.intro (fun c22 => ?_) (fun c22 => ?_)
    · refine VL_norm km158 k158_2 (VL_at (al := []) (st := []) km158 k158_2 ?_)
      exact ((h.2 c23).1 c22)
    · refine VL_norm km158 k158_1 (VL_at (al := [(0, vI v1), (1, vI (m (29 + 3) 0))]) (st := []) km158 k158_1 ?_)
      refine And.intro (fun c21 => ?_) (fun c21 => ?_)
      · refine VL_norm km158 k158_3 (VL_at (al := []) (st := []) km158 k158_3 ?_)
        refine V_of ?_
        refine VL_norm km159 k159_0 (VL_at (al := [(0, vI v2), (1, vI (n32 0)), (2, vI (n32 12))]) (st := []) km159 k159_0 ?_)
        refine And.intro (fun c20 => ?_) (fun c20 => ?_)
        · refine VL_norm km159 k159_3 (VL_at (al := []) (st := []) km159 k159_3 ?_)
          refine VL_norm km159 k159_4 (VL_at (al := []) (st := [vI (n32 0)]) km159 k159_4 ?_)
          refine V_of ?_
          refine VL_norm km160 k160_0 (VL_at (al := [(0, vI (n32 0))]) (st := []) km160 k160_0 ?_)
          refine And.intro (fun _ => ?_) (fun c => absurd (by decide) c)
          refine VL_norm km160 k160_1 (VL_at (al := []) (st := []) km160 k160_1 ?_)
          exact ((((h.2 c23).2 c22).1 c21).1 c20)
        · refine VL_norm km159 k159_1 (VL_at (al := [(0, vI v2), (2, vI (n32 12))]) (st := []) km159 k159_1 ?_)
          refine And.intro (fun c19 => ?_) (fun c19 => ?_)
          · refine VL_norm km159 k159_3 (VL_at (al := []) (st := []) km159 k159_3 ?_)
            refine VL_norm km159 k159_4 (VL_at (al := []) (st := [vI (n32 0)]) km159 k159_4 ?_)
            refine V_of ?_
            refine VL_norm km160 k160_0 (VL_at (al := [(0, vI (n32 0))]) (st := []) km160 k160_0 ?_)
            refine And.intro (fun _ => ?_) (fun c => absurd (by decide) c)
            refine VL_norm km160 k160_1 (VL_at (al := []) (st := []) km160 k160_1 ?_)
            exact (((((h.2 c23).2 c22).1 c21).2 c20).1 c19)
          · refine VL_norm km159 k159_2 (VL_at (al := []) (st := []) km159 k159_2 ?_)
            refine VL_norm km159 k159_4 (VL_at (al := []) (st := [vI (n32 1)]) km159 k159_4 ?_)
            refine V_of ?_
            refine VL_norm km160 k160_0 (VL_at (al := [(0, vI (n32 1))]) (st := []) km160 k160_0 ?_)
            refine And.intro (fun c => absurd c (by decide)) (fun _ => ?_)
            refine VL_norm km160 k160_2 (VL_at (al := []) (st := []) km160 k160_2 ?_)
            refine And.intro (fun c18 => ?_) (fun c18 => ?_)
            · refine VL_norm km98 k98_1 (VL_at (al := [(1, vI v1), (3, vR 7 (29 + 3))]) (st := []) km98 k98_1 ?_)
              refine And.intro ((((((h.2 c23).2 c22).1 c21).2 c20).2 c19).1 c18).1 ?_
              exact ((((((h.2 c23).2 c22).1 c21).2 c20).2 c19).1 c18).2
            · refine And.intro (fun c17 => ?_) (fun c17 => ?_)
              · refine VL_norm km98 k98_2 (VL_at (al := [(1, vI v1), (3, vR 7 (29 + 3))]) (st := []) km98 k98_2 ?_)
                refine And.intro (((((((h.2 c23).2 c22).1 c21).2 c20).2 c19).2 c18).1 c17).1 ?_
                exact (((((((h.2 c23).2 c22).1 c21).2 c20).2 c19).2 c18).1 c17).2
              · refine And.intro (fun c16 => ?_) (fun c16 => ?_)
                · refine VL_norm km98 k98_3 (VL_at (al := [(1, vI v1), (3, vR 7 (29 + 3))]) (st := []) km98 k98_3 ?_)
                  refine And.intro ((((((((h.2 c23).2 c22).1 c21).2 c20).2 c19).2 c18).2 c17).1 c16).1 ?_
                  exact ((((((((h.2 c23).2 c22).1 c21).2 c20).2 c19).2 c18).2 c17).1 c16).2
                · refine And.intro (fun c15 => ?_) (fun c15 => ?_)
                  · refine VL_norm km98 k98_4 (VL_at (al := [(1, vI v1), (3, vR 7 (29 + 3))]) (st := []) km98 k98_4 ?_)
                    refine And.intro (((((((((h.2 c23).2 c22).1 c21).2 c20).2 c19).2 c18).2 c17).2 c16).1 c15).1 ?_
                    exact (((((((((h.2 c23).2 c22).1 c21).2 c20).2 c19).2 c18).2 c17).2 c16).1 c15).2
                  · refine And.intro (fun c14 => ?_) (fun c14 => ?_)
                    · refine VL_norm km98 k98_5 (VL_at (al := [(1, vI v1), (3, vR 7 (29 + 3))]) (st := []) km98 k98_5 ?_)
                      refine And.intro ((((((((((h.2 c23).2 c22).1 c21).2 c20).2 c19).2 c18).2 c17).2 c16).2 c15).1 c14).1 ?_
                      exact ((((((((((h.2 c23).2 c22).1 c21).2 c20).2 c19).2 c18).2 c17).2 c16).2 c15).1 c14).2
                    · refine And.intro (fun c13 => ?_) (fun c13 => ?_)
                      · refine VL_norm km98 k98_6 (VL_at (al := [(1, vI v1), (3, vR 7 (29 + 3))]) (st := []) km98 k98_6 ?_)
                        refine V_mono (((((((((((h.2 c23).2 c22).1 c21).2 c20).2 c19).2 c18).2 c17).2 c16).2 c15).2 c14).1 c13) (fun u1 m1 h1 => ?_) (fun _ _ h => h)
                        exact h1
                      · refine And.intro (fun c12 => ?_) (fun c12 => ?_)
                        · refine VL_norm km98 k98_7 (VL_at (al := [(1, vI v1), (3, vR 7 (29 + 3))]) (st := []) km98 k98_7 ?_)
                          refine V_of ?_
                          refine VL_norm km51 k51_0 (VL_at (al := [(0, vR 7 (29 + 3)), (1, vI v1)]) (st := []) km51 k51_0 ?_)
                          refine And.intro (fun c2 => ?_) (fun c2 => ?_)
                          · refine VL_norm km51 k51_2 (VL_at (al := []) (st := []) km51 k51_2 ?_)
                            refine VL_norm km51 k51_3 (VL_at (al := []) (st := [vI (-(n32 1))]) km51 k51_3 ?_)
                            exact (((((((((((((h.2 c23).2 c22).1 c21).2 c20).2 c19).2 c18).2 c17).2 c16).2 c15).2 c14).2 c13).1 c12).1 c2)
                          · refine VL_norm km51 k51_1 (VL_at (al := [(0, vR 7 (29 + 3)), (1, vI v1)]) (st := []) km51 k51_1 ?_)
                            refine And.intro (((((((((((((h.2 c23).2 c22).1 c21).2 c20).2 c19).2 c18).2 c17).2 c16).2 c15).2 c14).2 c13).1 c12).2 c2).1 ?_
                            refine And.intro (((((((((((((h.2 c23).2 c22).1 c21).2 c20).2 c19).2 c18).2 c17).2 c16).2 c15).2 c14).2 c13).1 c12).2 c2).2.1 ?_
                            refine VL_norm km51 k51_3 (VL_at (al := []) (st := [vI ((m (29 + 3 + 6) (ix (v1 - (n32 1)))) - (m (29 + 3 + 6) (ix v1)))]) km51 k51_3 ?_)
                            exact (((((((((((((h.2 c23).2 c22).1 c21).2 c20).2 c19).2 c18).2 c17).2 c16).2 c15).2 c14).2 c13).1 c12).2 c2).2.2
                        · refine And.intro (fun c11 => ?_) (fun c11 => ?_)
                          · refine VL_norm km98 k98_8 (VL_at (al := [(1, vI v1), (3, vR 7 (29 + 3))]) (st := []) km98 k98_8 ?_)
                            refine And.intro (((((((((((((h.2 c23).2 c22).1 c21).2 c20).2 c19).2 c18).2 c17).2 c16).2 c15).2 c14).2 c13).2 c12).1 c11).1 ?_
                            exact (((((((((((((h.2 c23).2 c22).1 c21).2 c20).2 c19).2 c18).2 c17).2 c16).2 c15).2 c14).2 c13).2 c12).1 c11).2
                          · refine And.intro (fun c10 => ?_) (fun c10 => ?_)
                            · refine VL_norm km98 k98_9 (VL_at (al := [(1, vI v1), (3, vR 7 (29 + 3))]) (st := []) km98 k98_9 ?_)
                              refine And.intro ((((((((((((((h.2 c23).2 c22).1 c21).2 c20).2 c19).2 c18).2 c17).2 c16).2 c15).2 c14).2 c13).2 c12).2 c11).1 c10).1 ?_
                              exact ((((((((((((((h.2 c23).2 c22).1 c21).2 c20).2 c19).2 c18).2 c17).2 c16).2 c15).2 c14).2 c13).2 c12).2 c11).1 c10).2
                            · refine And.intro (fun c9 => ?_) (fun c9 => ?_)
                              · refine VL_norm km98 k98_10 (VL_at (al := [(0, vR 10 (0)), (1, vI v1)]) (st := []) km98 k98_10 ?_)
                                refine V_mono (((((((((((((((h.2 c23).2 c22).1 c21).2 c20).2 c19).2 c18).2 c17).2 c16).2 c15).2 c14).2 c13).2 c12).2 c11).2 c10).1 c9) (fun u3 m3 h3 => ?_) (fun _ _ h => h)
                                exact h3
                              · refine And.intro (fun c8 => ?_) (fun c8 => ?_)
                                · refine VL_norm km98 k98_11 (VL_at (al := [(1, vI v1), (3, vR 7 (29 + 3))]) (st := []) km98 k98_11 ?_)
                                  refine And.intro (xin_k rfl) ?_
                                  refine And.intro ((((((((((((((((h.2 c23).2 c22).1 c21).2 c20).2 c19).2 c18).2 c17).2 c16).2 c15).2 c14).2 c13).2 c12).2 c11).2 c10).2 c9).1 c8).1 ?_
                                  exact ((((((((((((((((h.2 c23).2 c22).1 c21).2 c20).2 c19).2 c18).2 c17).2 c16).2 c15).2 c14).2 c13).2 c12).2 c11).2 c10).2 c9).1 c8).2
                                · refine And.intro (fun c7 => ?_) (fun c7 => ?_)
                                  · refine VL_norm km98 k98_12 (VL_at (al := [(1, vI v1), (3, vR 7 (29 + 3))]) (st := []) km98 k98_12 ?_)
                                    refine And.intro (((((((((((((((((h.2 c23).2 c22).1 c21).2 c20).2 c19).2 c18).2 c17).2 c16).2 c15).2 c14).2 c13).2 c12).2 c11).2 c10).2 c9).2 c8).1 c7).1 ?_
                                    refine V_mono (((((((((((((((((h.2 c23).2 c22).1 c21).2 c20).2 c19).2 c18).2 c17).2 c16).2 c15).2 c14).2 c13).2 c12).2 c11).2 c10).2 c9).2 c8).1 c7).2 (fun u4 m4 h4 => ?_) (fun _ _ h => h)
                                    exact h4
                                  · refine VL_norm km98 k98_13 (VL_at (al := [(0, vR 10 (0)), (1, vI v1), (3, vR 7 (29 + 3))]) (st := []) km98 k98_13 ?_)
                                    refine And.intro (((((((((((((((((h.2 c23).2 c22).1 c21).2 c20).2 c19).2 c18).2 c17).2 c16).2 c15).2 c14).2 c13).2 c12).2 c11).2 c10).2 c9).2 c8).2 c7).1 ?_
                                    refine And.intro (((((((((((((((((h.2 c23).2 c22).1 c21).2 c20).2 c19).2 c18).2 c17).2 c16).2 c15).2 c14).2 c13).2 c12).2 c11).2 c10).2 c9).2 c8).2 c7).1 ?_
                                    refine V_mono (((((((((((((((((h.2 c23).2 c22).1 c21).2 c20).2 c19).2 c18).2 c17).2 c16).2 c15).2 c14).2 c13).2 c12).2 c11).2 c10).2 c9).2 c8).2 c7).2 (fun u5 m5 h5 => ?_) (fun _ _ h => h)
                                    refine And.intro (fun c6 => ?_) (fun c6 => ?_)
                                    · refine VL_norm km98 k98_15 (VL_at (al := []) (st := []) km98 k98_15 ?_)
                                      refine VL_norm km98 k98_16 (VL_at (al := []) (st := [vI (n32 0)]) km98 k98_16 ?_)
                                      exact (h5.1 c6)
                                    · refine VL_norm km98 k98_14 (VL_at (al := []) (st := []) km98 k98_14 ?_)
                                      refine VL_norm km98 k98_16 (VL_at (al := []) (st := [vI (n32 1)]) km98 k98_16 ?_)
                                      exact (h5.2 c6)
      · refine VL_norm km158 k158_2 (VL_at (al := []) (st := []) km158 k158_2 ?_)
        exact (((h.2 c23).2 c22).2 c21)
/-- BannerParade.stand, label 0 -/
theorem w99_0 {D : Nat} {v1 : Int32} {v2 : Int32} {m : XM} {Q : Int32 → XM → Prop} {E : Nat → XM → Prop}
    (h : (((m 0 7) = (n32 0) → E 0 m) ∧ (¬ (m 0 7) = (n32 0) → ((v1 < (n32 0) → E 2 m) ∧ (¬ v1 < (n32 0) → ((v1 < (m 69 0) → ((v2 < (n32 0) → E 1 m) ∧ (¬ v2 < (n32 0) → (((n32 8) < v2 → E 1 m) ∧ (¬ (n32 8) < v2 → ((v2 = (n32 0) → (xin v1 6 = true ∧ Q (m (69 + 1) (ix v1)) m)) ∧ (¬ v2 = (n32 0) → ((v2 = (n32 1) → (xin v1 6 = true ∧ Q (m (69 + 2) (ix v1)) m)) ∧ (¬ v2 = (n32 1) → ((v2 = (n32 2) → (xin v1 6 = true ∧ Q (m (69 + 3) (ix v1)) m)) ∧ (¬ v2 = (n32 2) → ((v2 = (n32 3) → (xin v1 6 = true ∧ Q (m (29 + 2) (ix v1)) m)) ∧ (¬ v2 = (n32 3) → ((v2 = (n32 4) → VI (D + 3) 169 [vR 10 (0), vI v1] m (fun x1 m1 => Q ((((((((x1 - (((x1).toUInt32 >>> (((n32 1)).toUInt32 &&& Int32.toUInt32 31)).toInt32 &&& (n32 1431655765))) &&& (n32 858993459)) + ((((x1 - (((x1).toUInt32 >>> (((n32 1)).toUInt32 &&& Int32.toUInt32 31)).toInt32 &&& (n32 1431655765)))).toUInt32 >>> (((n32 2)).toUInt32 &&& Int32.toUInt32 31)).toInt32 &&& (n32 858993459))) + (((((x1 - (((x1).toUInt32 >>> (((n32 1)).toUInt32 &&& Int32.toUInt32 31)).toInt32 &&& (n32 1431655765))) &&& (n32 858993459)) + ((((x1 - (((x1).toUInt32 >>> (((n32 1)).toUInt32 &&& Int32.toUInt32 31)).toInt32 &&& (n32 1431655765)))).toUInt32 >>> (((n32 2)).toUInt32 &&& Int32.toUInt32 31)).toInt32 &&& (n32 858993459)))).toUInt32 >>> (((n32 4)).toUInt32 &&& Int32.toUInt32 31)).toInt32) &&& (n32 252645135)) + (((((((x1 - (((x1).toUInt32 >>> (((n32 1)).toUInt32 &&& Int32.toUInt32 31)).toInt32 &&& (n32 1431655765))) &&& (n32 858993459)) + ((((x1 - (((x1).toUInt32 >>> (((n32 1)).toUInt32 &&& Int32.toUInt32 31)).toInt32 &&& (n32 1431655765)))).toUInt32 >>> (((n32 2)).toUInt32 &&& Int32.toUInt32 31)).toInt32 &&& (n32 858993459))) + (((((x1 - (((x1).toUInt32 >>> (((n32 1)).toUInt32 &&& Int32.toUInt32 31)).toInt32 &&& (n32 1431655765))) &&& (n32 858993459)) + ((((x1 - (((x1).toUInt32 >>> (((n32 1)).toUInt32 &&& Int32.toUInt32 31)).toInt32 &&& (n32 1431655765)))).toUInt32 >>> (((n32 2)).toUInt32 &&& Int32.toUInt32 31)).toInt32 &&& (n32 858993459)))).toUInt32 >>> (((n32 4)).toUInt32 &&& Int32.toUInt32 31)).toInt32) &&& (n32 252645135))).toUInt32 >>> (((n32 8)).toUInt32 &&& Int32.toUInt32 31)).toInt32) + ((((((((x1 - (((x1).toUInt32 >>> (((n32 1)).toUInt32 &&& Int32.toUInt32 31)).toInt32 &&& (n32 1431655765))) &&& (n32 858993459)) + ((((x1 - (((x1).toUInt32 >>> (((n32 1)).toUInt32 &&& Int32.toUInt32 31)).toInt32 &&& (n32 1431655765)))).toUInt32 >>> (((n32 2)).toUInt32 &&& Int32.toUInt32 31)).toInt32 &&& (n32 858993459))) + (((((x1 - (((x1).toUInt32 >>> (((n32 1)).toUInt32 &&& Int32.toUInt32 31)).toInt32 &&& (n32 1431655765))) &&& (n32 858993459)) + ((((x1 - (((x1).toUInt32 >>> (((n32 1)).toUInt32 &&& Int32.toUInt32 31)).toInt32 &&& (n32 1431655765)))).toUInt32 >>> (((n32 2)).toUInt32 &&& Int32.toUInt32 31)).toInt32 &&& (n32 858993459)))).toUInt32 >>> (((n32 4)).toUInt32 &&& Int32.toUInt32 31)).toInt32) &&& (n32 252645135)) + (((((((x1 - (((x1).toUInt32 >>> (((n32 1)).toUInt32 &&& Int32.toUInt32 31)).toInt32 &&& (n32 1431655765))) &&& (n32 858993459)) + ((((x1 - (((x1).toUInt32 >>> (((n32 1)).toUInt32 &&& Int32.toUInt32 31)).toInt32 &&& (n32 1431655765)))).toUInt32 >>> (((n32 2)).toUInt32 &&& Int32.toUInt32 31)).toInt32 &&& (n32 858993459))) + (((((x1 - (((x1).toUInt32 >>> (((n32 1)).toUInt32 &&& Int32.toUInt32 31)).toInt32 &&& (n32 1431655765))) &&& (n32 858993459)) + ((((x1 - (((x1).toUInt32 >>> (((n32 1)).toUInt32 &&& Int32.toUInt32 31)).toInt32 &&& (n32 1431655765)))).toUInt32 >>> (((n32 2)).toUInt32 &&& Int32.toUInt32 31)).toInt32 &&& (n32 858993459)))).toUInt32 >>> (((n32 4)).toUInt32 &&& Int32.toUInt32 31)).toInt32) &&& (n32 252645135))).toUInt32 >>> (((n32 8)).toUInt32 &&& Int32.toUInt32 31)).toInt32)).toUInt32 >>> (((n32 16)).toUInt32 &&& Int32.toUInt32 31)).toInt32) &&& (n32 63)) m1) E) ∧ (¬ v2 = (n32 4) → ((v2 = (n32 5) → VA (D + 3) 161 [vR 10 (0), vI v1] m (fun x2 m2 => Q (m2 x2 0) m2) E) ∧ (¬ v2 = (n32 5) → ((v2 = (n32 6) → (xin v1 6 = true ∧ VI (D + 3) 66 [vR 7 (29 + 3), vI (m (69 + 2) (ix v1))] m (fun x3 m3 => Q x3 m3) E)) ∧ (¬ v2 = (n32 6) → ((v2 = (n32 7) → (xin v1 6 = true ∧ VI (D + 3) 64 [vR 7 (29 + 3), vI ((m (69 + 2) (ix v1)) + (m (29 + 1) (ix (n32 1))))] m (fun x4 m4 => Q x4 m4) E)) ∧ (¬ v2 = (n32 7) → (xin v1 6 = true ∧ VI (D + 3) 65 [vR 7 (29 + 3), vI ((m (69 + 2) (ix v1)) - (m (29 + 1) (ix (n32 1))))] m (fun x5 m5 => Q x5 m5) E)))))))))))))))))))))) ∧ (¬ v1 < (m 69 0) → E 2 m))))))) :
    VI (D + 4) 99 [vR 10 (0), vI v1, vI v2] m Q E := by
  refine V_of (VL_at (al := [(0, vR 10 (0)), (1, vI v1), (2, vI v2)]) (st := []) km99 k99_0 ?_)
  refine V_of ?_
  refine VL_norm km155 k155_0 (VL_at (al := [(0, vR 10 (0))]) (st := []) km155 k155_0 ?_)
  refine And.intro (fun c18 => ?_) (fun c18 => ?_)
  · refine VL_norm km155 k155_1 (VL_at (al := []) (st := []) km155 k155_1 ?_)
    exact (h.1 c18)
  · refine VL_norm km155 k155_2 (VL_at (al := []) (st := []) km155 k155_2 ?_)
    refine V_of ?_
    refine VL_norm km157 k157_0 (VL_at (al := [(0, vR 10 (0)), (1, vI v1)]) (st := []) km157 k157_0 ?_)
    refine V_of ?_
    refine VL_norm km158 k158_0 (VL_at (al := [(0, vI v1), (1, vI (m 69 0))]) (st := []) km158 k158_0 ?_)
    refine And.intro (fun c17 => ?_) (fun c17 => ?_)
    · refine VL_norm km158 k158_2 (VL_at (al := []) (st := []) km158 k158_2 ?_)
      exact ((h.2 c18).1 c17)
    · refine VL_norm km158 k158_1 (VL_at (al := [(0, vI v1), (1, vI (m 69 0))]) (st := []) km158 k158_1 ?_)
      refine And.intro (fun c16 => ?_) (fun c16 => ?_)
      · refine VL_norm km158 k158_3 (VL_at (al := []) (st := []) km158 k158_3 ?_)
        refine V_of ?_
        refine VL_norm km159 k159_0 (VL_at (al := [(0, vI v2), (1, vI (n32 0)), (2, vI (n32 8))]) (st := []) km159 k159_0 ?_)
        refine And.intro (fun c15 => ?_) (fun c15 => ?_)
        · refine VL_norm km159 k159_3 (VL_at (al := []) (st := []) km159 k159_3 ?_)
          refine VL_norm km159 k159_4 (VL_at (al := []) (st := [vI (n32 0)]) km159 k159_4 ?_)
          refine V_of ?_
          refine VL_norm km160 k160_0 (VL_at (al := [(0, vI (n32 0))]) (st := []) km160 k160_0 ?_)
          refine And.intro (fun _ => ?_) (fun c => absurd (by decide) c)
          refine VL_norm km160 k160_1 (VL_at (al := []) (st := []) km160 k160_1 ?_)
          exact ((((h.2 c18).2 c17).1 c16).1 c15)
        · refine VL_norm km159 k159_1 (VL_at (al := [(0, vI v2), (2, vI (n32 8))]) (st := []) km159 k159_1 ?_)
          refine And.intro (fun c14 => ?_) (fun c14 => ?_)
          · refine VL_norm km159 k159_3 (VL_at (al := []) (st := []) km159 k159_3 ?_)
            refine VL_norm km159 k159_4 (VL_at (al := []) (st := [vI (n32 0)]) km159 k159_4 ?_)
            refine V_of ?_
            refine VL_norm km160 k160_0 (VL_at (al := [(0, vI (n32 0))]) (st := []) km160 k160_0 ?_)
            refine And.intro (fun _ => ?_) (fun c => absurd (by decide) c)
            refine VL_norm km160 k160_1 (VL_at (al := []) (st := []) km160 k160_1 ?_)
            exact (((((h.2 c18).2 c17).1 c16).2 c15).1 c14)
          · refine VL_norm km159 k159_2 (VL_at (al := []) (st := []) km159 k159_2 ?_)
            refine VL_norm km159 k159_4 (VL_at (al := []) (st := [vI (n32 1)]) km159 k159_4 ?_)
            refine V_of ?_
            refine VL_norm km160 k160_0 (VL_at (al := [(0, vI (n32 1))]) (st := []) km160 k160_0 ?_)
            refine And.intro (fun c => absurd c (by decide)) (fun _ => ?_)
            refine VL_norm km160 k160_2 (VL_at (al := []) (st := []) km160 k160_2 ?_)
            refine And.intro (xin_k rfl) ?_
            refine And.intro (fun c13 => ?_) (fun c13 => ?_)
            · refine VL_norm km99 k99_1 (VL_at (al := [(0, vR 10 (0)), (1, vI v1)]) (st := []) km99 k99_1 ?_)
              refine And.intro ((((((h.2 c18).2 c17).1 c16).2 c15).2 c14).1 c13).1 ?_
              exact ((((((h.2 c18).2 c17).1 c16).2 c15).2 c14).1 c13).2
            · refine And.intro (fun c12 => ?_) (fun c12 => ?_)
              · refine VL_norm km99 k99_2 (VL_at (al := [(0, vR 10 (0)), (1, vI v1)]) (st := []) km99 k99_2 ?_)
                refine And.intro (((((((h.2 c18).2 c17).1 c16).2 c15).2 c14).2 c13).1 c12).1 ?_
                exact (((((((h.2 c18).2 c17).1 c16).2 c15).2 c14).2 c13).1 c12).2
              · refine And.intro (fun c11 => ?_) (fun c11 => ?_)
                · refine VL_norm km99 k99_3 (VL_at (al := [(0, vR 10 (0)), (1, vI v1)]) (st := []) km99 k99_3 ?_)
                  refine And.intro ((((((((h.2 c18).2 c17).1 c16).2 c15).2 c14).2 c13).2 c12).1 c11).1 ?_
                  exact ((((((((h.2 c18).2 c17).1 c16).2 c15).2 c14).2 c13).2 c12).1 c11).2
                · refine And.intro (fun c10 => ?_) (fun c10 => ?_)
                  · refine VL_norm km99 k99_4 (VL_at (al := [(0, vR 10 (0)), (1, vI v1)]) (st := []) km99 k99_4 ?_)
                    refine And.intro (((((((((h.2 c18).2 c17).1 c16).2 c15).2 c14).2 c13).2 c12).2 c11).1 c10).1 ?_
                    exact (((((((((h.2 c18).2 c17).1 c16).2 c15).2 c14).2 c13).2 c12).2 c11).1 c10).2
                  · refine And.intro (fun c9 => ?_) (fun c9 => ?_)
                    · refine VL_norm km99 k99_5 (VL_at (al := [(0, vR 10 (0)), (1, vI v1)]) (st := []) km99 k99_5 ?_)
                      refine V_mono ((((((((((h.2 c18).2 c17).1 c16).2 c15).2 c14).2 c13).2 c12).2 c11).2 c10).1 c9) (fun u1 m1 h1 => ?_) (fun _ _ h => h)
                      refine V_of ?_
                      refine VL_norm km383 k383_0 (VL_at (al := [(0, vI (xti u1))]) (st := []) km383 k383_0 ?_)
                      exact h1
                    · refine And.intro (fun c8 => ?_) (fun c8 => ?_)
                      · refine VL_norm km99 k99_6 (VL_at (al := [(0, vR 10 (0)), (1, vI v1)]) (st := []) km99 k99_6 ?_)
                        refine V_mono (((((((((((h.2 c18).2 c17).1 c16).2 c15).2 c14).2 c13).2 c12).2 c11).2 c10).2 c9).1 c8) (fun u2 m2 h2 => ?_) (fun _ _ h => h)
                        exact h2
                      · refine And.intro (fun c7 => ?_) (fun c7 => ?_)
                        · refine VL_norm km99 k99_7 (VL_at (al := [(0, vR 10 (0)), (1, vI v1)]) (st := []) km99 k99_7 ?_)
                          refine And.intro ((((((((((((h.2 c18).2 c17).1 c16).2 c15).2 c14).2 c13).2 c12).2 c11).2 c10).2 c9).2 c8).1 c7).1 ?_
                          refine V_mono ((((((((((((h.2 c18).2 c17).1 c16).2 c15).2 c14).2 c13).2 c12).2 c11).2 c10).2 c9).2 c8).1 c7).2 (fun u3 m3 h3 => ?_) (fun _ _ h => h)
                          exact h3
                        · refine And.intro (fun c6 => ?_) (fun c6 => ?_)
                          · refine VL_norm km99 k99_8 (VL_at (al := [(0, vR 10 (0)), (1, vI v1), (3, vI (m (29 + 1) (ix (n32 1))))]) (st := []) km99 k99_8 ?_)
                            refine And.intro (((((((((((((h.2 c18).2 c17).1 c16).2 c15).2 c14).2 c13).2 c12).2 c11).2 c10).2 c9).2 c8).2 c7).1 c6).1 ?_
                            refine V_mono (((((((((((((h.2 c18).2 c17).1 c16).2 c15).2 c14).2 c13).2 c12).2 c11).2 c10).2 c9).2 c8).2 c7).1 c6).2 (fun u4 m4 h4 => ?_) (fun _ _ h => h)
                            exact h4
                          · refine VL_norm km99 k99_9 (VL_at (al := [(0, vR 10 (0)), (1, vI v1), (3, vI (m (29 + 1) (ix (n32 1))))]) (st := []) km99 k99_9 ?_)
                            refine And.intro (((((((((((((h.2 c18).2 c17).1 c16).2 c15).2 c14).2 c13).2 c12).2 c11).2 c10).2 c9).2 c8).2 c7).2 c6).1 ?_
                            refine V_mono (((((((((((((h.2 c18).2 c17).1 c16).2 c15).2 c14).2 c13).2 c12).2 c11).2 c10).2 c9).2 c8).2 c7).2 c6).2 (fun u5 m5 h5 => ?_) (fun _ _ h => h)
                            exact h5
      · refine VL_norm km158 k158_2 (VL_at (al := []) (st := []) km158 k158_2 ?_)
        exact (((h.2 c18).2 c17).2 c16)
end
section
/-! Verification conditions (written by program: wip/whole/mkw.py). -/
/-- BannerParade.plan, label 0 -/
theorem w100_0 {D : Nat} {v1 : Int32} {v2 : Int32} {m : XM} {Q : Int32 → XM → Prop} {E : Nat → XM → Prop}
    (h : (((m 0 7) = (n32 0) → E 0 m) ∧ (¬ (m 0 7) = (n32 0) → ((v1 < (n32 0) → E 2 m) ∧ (¬ v1 < (n32 0) → ((v1 < (m (29 + 16) 0) → ((v2 < (n32 0) → E 1 m) ∧ (¬ v2 < (n32 0) → (((n32 3) < v2 → E 1 m) ∧ (¬ (n32 3) < v2 → ((v2 = (n32 0) → (xin v1 12 = true ∧ Q (m (29 + 16 + 1) (ix v1)) m)) ∧ (¬ v2 = (n32 0) → ((v2 = (n32 1) → (xin v1 12 = true ∧ Q (m (29 + 16 + 2) (ix v1)) m)) ∧ (¬ v2 = (n32 1) → ((v2 = (n32 2) → (xin v1 12 = true ∧ Q (m (29 + 16 + 3) (ix v1)) m)) ∧ (¬ v2 = (n32 2) → (xin v1 12 = true ∧ (((m (29 + 16 + 3) (ix v1)) = (n32 0) → Q ((m (29 + 16 + 1) (ix v1)) - (m 29 0)) m) ∧ (¬ (m (29 + 16 + 3) (ix v1)) = (n32 0) → Q (-(n32 1)) m)))))))))))))) ∧ (¬ v1 < (m (29 + 16) 0) → E 2 m))))))) :
    VI (D + 2) 100 [vR 10 (0), vI v1, vI v2] m Q E := by
  refine V_of (VL_at (al := [(0, vR 10 (0)), (1, vI v1), (2, vI v2)]) (st := []) km100 k100_0 ?_)
  refine V_of ?_
  refine VL_norm km155 k155_0 (VL_at (al := [(0, vR 10 (0))]) (st := []) km155 k155_0 ?_)
  refine And.intro (fun c9 => ?_) (fun c9 => ?_)
  · refine VL_norm km155 k155_1 (VL_at (al := []) (st := []) km155 k155_1 ?_)
    exact (h.1 c9)
  · refine VL_norm km155 k155_2 (VL_at (al := []) (st := []) km155 k155_2 ?_)
    refine V_of ?_
    refine VL_norm km158 k158_0 (VL_at (al := [(0, vI v1), (1, vI (m (29 + 16) 0))]) (st := []) km158 k158_0 ?_)
    refine And.intro (fun c8 => ?_) (fun c8 => ?_)
    · refine VL_norm km158 k158_2 (VL_at (al := []) (st := []) km158 k158_2 ?_)
      exact ((h.2 c9).1 c8)
    · refine VL_norm km158 k158_1 (VL_at (al := [(0, vI v1), (1, vI (m (29 + 16) 0))]) (st := []) km158 k158_1 ?_)
      refine And.intro (fun c7 => ?_) (fun c7 => ?_)
      · refine VL_norm km158 k158_3 (VL_at (al := []) (st := []) km158 k158_3 ?_)
        refine V_of ?_
        refine VL_norm km159 k159_0 (VL_at (al := [(0, vI v2), (1, vI (n32 0)), (2, vI (n32 3))]) (st := []) km159 k159_0 ?_)
        refine And.intro (fun c6 => ?_) (fun c6 => ?_)
        · refine VL_norm km159 k159_3 (VL_at (al := []) (st := []) km159 k159_3 ?_)
          refine VL_norm km159 k159_4 (VL_at (al := []) (st := [vI (n32 0)]) km159 k159_4 ?_)
          refine V_of ?_
          refine VL_norm km160 k160_0 (VL_at (al := [(0, vI (n32 0))]) (st := []) km160 k160_0 ?_)
          refine And.intro (fun _ => ?_) (fun c => absurd (by decide) c)
          refine VL_norm km160 k160_1 (VL_at (al := []) (st := []) km160 k160_1 ?_)
          exact ((((h.2 c9).2 c8).1 c7).1 c6)
        · refine VL_norm km159 k159_1 (VL_at (al := [(0, vI v2), (2, vI (n32 3))]) (st := []) km159 k159_1 ?_)
          refine And.intro (fun c5 => ?_) (fun c5 => ?_)
          · refine VL_norm km159 k159_3 (VL_at (al := []) (st := []) km159 k159_3 ?_)
            refine VL_norm km159 k159_4 (VL_at (al := []) (st := [vI (n32 0)]) km159 k159_4 ?_)
            refine V_of ?_
            refine VL_norm km160 k160_0 (VL_at (al := [(0, vI (n32 0))]) (st := []) km160 k160_0 ?_)
            refine And.intro (fun _ => ?_) (fun c => absurd (by decide) c)
            refine VL_norm km160 k160_1 (VL_at (al := []) (st := []) km160 k160_1 ?_)
            exact (((((h.2 c9).2 c8).1 c7).2 c6).1 c5)
          · refine VL_norm km159 k159_2 (VL_at (al := []) (st := []) km159 k159_2 ?_)
            refine VL_norm km159 k159_4 (VL_at (al := []) (st := [vI (n32 1)]) km159 k159_4 ?_)
            refine V_of ?_
            refine VL_norm km160 k160_0 (VL_at (al := [(0, vI (n32 1))]) (st := []) km160 k160_0 ?_)
            refine And.intro (fun c => absurd c (by decide)) (fun _ => ?_)
            refine VL_norm km160 k160_2 (VL_at (al := []) (st := []) km160 k160_2 ?_)
            refine And.intro (fun c4 => ?_) (fun c4 => ?_)
            · refine VL_norm km100 k100_1 (VL_at (al := [(1, vI v1), (3, vR 4 (29 + 16))]) (st := []) km100 k100_1 ?_)
              refine And.intro ((((((h.2 c9).2 c8).1 c7).2 c6).2 c5).1 c4).1 ?_
              exact ((((((h.2 c9).2 c8).1 c7).2 c6).2 c5).1 c4).2
            · refine And.intro (fun c3 => ?_) (fun c3 => ?_)
              · refine VL_norm km100 k100_2 (VL_at (al := [(1, vI v1), (3, vR 4 (29 + 16))]) (st := []) km100 k100_2 ?_)
                refine And.intro (((((((h.2 c9).2 c8).1 c7).2 c6).2 c5).2 c4).1 c3).1 ?_
                exact (((((((h.2 c9).2 c8).1 c7).2 c6).2 c5).2 c4).1 c3).2
              · refine And.intro (fun c2 => ?_) (fun c2 => ?_)
                · refine VL_norm km100 k100_3 (VL_at (al := [(1, vI v1), (3, vR 4 (29 + 16))]) (st := []) km100 k100_3 ?_)
                  refine And.intro ((((((((h.2 c9).2 c8).1 c7).2 c6).2 c5).2 c4).2 c3).1 c2).1 ?_
                  exact ((((((((h.2 c9).2 c8).1 c7).2 c6).2 c5).2 c4).2 c3).1 c2).2
                · refine VL_norm km100 k100_4 (VL_at (al := [(0, vR 10 (0)), (1, vI v1), (3, vR 4 (29 + 16))]) (st := []) km100 k100_4 ?_)
                  refine And.intro ((((((((h.2 c9).2 c8).1 c7).2 c6).2 c5).2 c4).2 c3).2 c2).1 ?_
                  refine And.intro (fun c1 => ?_) (fun c1 => ?_)
                  · refine VL_norm km100 k100_5 (VL_at (al := [(0, vR 10 (0)), (1, vI v1), (3, vR 4 (29 + 16))]) (st := []) km100 k100_5 ?_)
                    refine And.intro ((((((((h.2 c9).2 c8).1 c7).2 c6).2 c5).2 c4).2 c3).2 c2).1 ?_
                    refine VL_norm km100 k100_7 (VL_at (al := []) (st := [vI ((m (29 + 16 + 1) (ix v1)) - (m 29 0))]) km100 k100_7 ?_)
                    exact (((((((((h.2 c9).2 c8).1 c7).2 c6).2 c5).2 c4).2 c3).2 c2).2.1 c1)
                  · refine VL_norm km100 k100_6 (VL_at (al := []) (st := []) km100 k100_6 ?_)
                    refine VL_norm km100 k100_7 (VL_at (al := []) (st := [vI (-(n32 1))]) km100 k100_7 ?_)
                    exact (((((((((h.2 c9).2 c8).1 c7).2 c6).2 c5).2 c4).2 c3).2 c2).2.2 c1)
      · refine VL_norm km158 k158_2 (VL_at (al := []) (st := []) km158 k158_2 ?_)
        exact (((h.2 c9).2 c8).2 c7)
/-- BannerParade.lying, label 0 -/
theorem w101_0 {D : Nat} {v1 : Int32} {v2 : Int32} {m : XM} {Q : Int32 → XM → Prop} {E : Nat → XM → Prop}
    (h : (((m 0 7) = (n32 0) → E 0 m) ∧ (¬ (m 0 7) = (n32 0) → ((v1 < (n32 0) → E 2 m) ∧ (¬ v1 < (n32 0) → ((v1 < (m (29 + 12) 0) → ((v2 < (n32 0) → E 1 m) ∧ (¬ v2 < (n32 0) → (((n32 2) < v2 → E 1 m) ∧ (¬ (n32 2) < v2 → ((v2 = (n32 0) → (xin v1 12 = true ∧ Q (m (29 + 12 + 1) (ix v1)) m)) ∧ (¬ v2 = (n32 0) → ((v2 = (n32 1) → (xin v1 12 = true ∧ Q (m (29 + 12 + 2) (ix v1)) m)) ∧ (¬ v2 = (n32 1) → (xin v1 12 = true ∧ Q (m (29 + 12 + 3) (ix v1)) m)))))))))) ∧ (¬ v1 < (m (29 + 12) 0) → E 2 m))))))) :
    VI (D + 2) 101 [vR 10 (0), vI v1, vI v2] m Q E := by
  refine V_of (VL_at (al := [(0, vR 10 (0)), (1, vI v1), (2, vI v2)]) (st := []) km101 k101_0 ?_)
  refine V_of ?_
  refine VL_norm km155 k155_0 (VL_at (al := [(0, vR 10 (0))]) (st := []) km155 k155_0 ?_)
  refine And.intro (fun c7 => ?_) (fun c7 => ?_)
  · refine VL_norm km155 k155_1 (VL_at (al := []) (st := []) km155 k155_1 ?_)
    exact (h.1 c7)
  · refine VL_norm km155 k155_2 (VL_at (al := []) (st := []) km155 k155_2 ?_)
    refine V_of ?_
    refine VL_norm km158 k158_0 (VL_at (al := [(0, vI v1), (1, vI (m (29 + 12) 0))]) (st := []) km158 k158_0 ?_)
    refine And.intro (fun c6 => ?_) (fun c6 => ?_)
    · refine VL_norm km158 k158_2 (VL_at (al := []) (st := []) km158 k158_2 ?_)
      exact ((h.2 c7).1 c6)
    · refine VL_norm km158 k158_1 (VL_at (al := [(0, vI v1), (1, vI (m (29 + 12) 0))]) (st := []) km158 k158_1 ?_)
      refine And.intro (fun c5 => ?_) (fun c5 => ?_)
      · refine VL_norm km158 k158_3 (VL_at (al := []) (st := []) km158 k158_3 ?_)
        refine V_of ?_
        refine VL_norm km159 k159_0 (VL_at (al := [(0, vI v2), (1, vI (n32 0)), (2, vI (n32 2))]) (st := []) km159 k159_0 ?_)
        refine And.intro (fun c4 => ?_) (fun c4 => ?_)
        · refine VL_norm km159 k159_3 (VL_at (al := []) (st := []) km159 k159_3 ?_)
          refine VL_norm km159 k159_4 (VL_at (al := []) (st := [vI (n32 0)]) km159 k159_4 ?_)
          refine V_of ?_
          refine VL_norm km160 k160_0 (VL_at (al := [(0, vI (n32 0))]) (st := []) km160 k160_0 ?_)
          refine And.intro (fun _ => ?_) (fun c => absurd (by decide) c)
          refine VL_norm km160 k160_1 (VL_at (al := []) (st := []) km160 k160_1 ?_)
          exact ((((h.2 c7).2 c6).1 c5).1 c4)
        · refine VL_norm km159 k159_1 (VL_at (al := [(0, vI v2), (2, vI (n32 2))]) (st := []) km159 k159_1 ?_)
          refine And.intro (fun c3 => ?_) (fun c3 => ?_)
          · refine VL_norm km159 k159_3 (VL_at (al := []) (st := []) km159 k159_3 ?_)
            refine VL_norm km159 k159_4 (VL_at (al := []) (st := [vI (n32 0)]) km159 k159_4 ?_)
            refine V_of ?_
            refine VL_norm km160 k160_0 (VL_at (al := [(0, vI (n32 0))]) (st := []) km160 k160_0 ?_)
            refine And.intro (fun _ => ?_) (fun c => absurd (by decide) c)
            refine VL_norm km160 k160_1 (VL_at (al := []) (st := []) km160 k160_1 ?_)
            exact (((((h.2 c7).2 c6).1 c5).2 c4).1 c3)
          · refine VL_norm km159 k159_2 (VL_at (al := []) (st := []) km159 k159_2 ?_)
            refine VL_norm km159 k159_4 (VL_at (al := []) (st := [vI (n32 1)]) km159 k159_4 ?_)
            refine V_of ?_
            refine VL_norm km160 k160_0 (VL_at (al := [(0, vI (n32 1))]) (st := []) km160 k160_0 ?_)
            refine And.intro (fun c => absurd c (by decide)) (fun _ => ?_)
            refine VL_norm km160 k160_2 (VL_at (al := []) (st := []) km160 k160_2 ?_)
            refine And.intro (fun c2 => ?_) (fun c2 => ?_)
            · refine VL_norm km101 k101_1 (VL_at (al := [(1, vI v1), (3, vR 1 (29 + 12))]) (st := []) km101 k101_1 ?_)
              refine And.intro ((((((h.2 c7).2 c6).1 c5).2 c4).2 c3).1 c2).1 ?_
              exact ((((((h.2 c7).2 c6).1 c5).2 c4).2 c3).1 c2).2
            · refine And.intro (fun c1 => ?_) (fun c1 => ?_)
              · refine VL_norm km101 k101_2 (VL_at (al := [(1, vI v1), (3, vR 1 (29 + 12))]) (st := []) km101 k101_2 ?_)
                refine And.intro (((((((h.2 c7).2 c6).1 c5).2 c4).2 c3).2 c2).1 c1).1 ?_
                exact (((((((h.2 c7).2 c6).1 c5).2 c4).2 c3).2 c2).1 c1).2
              · refine VL_norm km101 k101_3 (VL_at (al := [(1, vI v1), (3, vR 1 (29 + 12))]) (st := []) km101 k101_3 ?_)
                refine And.intro (((((((h.2 c7).2 c6).1 c5).2 c4).2 c3).2 c2).2 c1).1 ?_
                exact (((((((h.2 c7).2 c6).1 c5).2 c4).2 c3).2 c2).2 c1).2
      · refine VL_norm km158 k158_2 (VL_at (al := []) (st := []) km158 k158_2 ?_)
        exact (((h.2 c7).2 c6).2 c5)
/-- BannerParade.seen, label 0 -/
theorem w104_0 {D : Nat} {v1 : Int32} {m : XM} {Q : Int32 → XM → Prop} {E : Nat → XM → Prop}
    (h : (((m 0 7) = (n32 0) → E 0 m) ∧ (¬ (m 0 7) = (n32 0) → ((v1 < (n32 0) → E 2 m) ∧ (¬ v1 < (n32 0) → ((v1 < (m 69 0) → VI (D + 2) 169 [vR 10 (0), vI v1] m (fun x1 m1 => Q x1 m1) E) ∧ (¬ v1 < (m 69 0) → E 2 m))))))) :
    VI (D + 3) 104 [vR 10 (0), vI v1] m Q E := by
  refine V_of (VL_at (al := [(0, vR 10 (0)), (1, vI v1)]) (st := []) km104 k104_0 ?_)
  refine V_of ?_
  refine VL_norm km155 k155_0 (VL_at (al := [(0, vR 10 (0))]) (st := []) km155 k155_0 ?_)
  refine And.intro (fun c4 => ?_) (fun c4 => ?_)
  · refine VL_norm km155 k155_1 (VL_at (al := []) (st := []) km155 k155_1 ?_)
    exact (h.1 c4)
  · refine VL_norm km155 k155_2 (VL_at (al := []) (st := []) km155 k155_2 ?_)
    refine V_of ?_
    refine VL_norm km157 k157_0 (VL_at (al := [(0, vR 10 (0)), (1, vI v1)]) (st := []) km157 k157_0 ?_)
    refine V_of ?_
    refine VL_norm km158 k158_0 (VL_at (al := [(0, vI v1), (1, vI (m 69 0))]) (st := []) km158 k158_0 ?_)
    refine And.intro (fun c3 => ?_) (fun c3 => ?_)
    · refine VL_norm km158 k158_2 (VL_at (al := []) (st := []) km158 k158_2 ?_)
      exact ((h.2 c4).1 c3)
    · refine VL_norm km158 k158_1 (VL_at (al := [(0, vI v1), (1, vI (m 69 0))]) (st := []) km158 k158_1 ?_)
      refine And.intro (fun c2 => ?_) (fun c2 => ?_)
      · refine VL_norm km158 k158_3 (VL_at (al := []) (st := []) km158 k158_3 ?_)
        refine V_mono (((h.2 c4).2 c3).1 c2) (fun u1 m1 h1 => ?_) (fun _ _ h => h)
        exact h1
      · refine VL_norm km158 k158_2 (VL_at (al := []) (st := []) km158 k158_2 ?_)
        exact (((h.2 c4).2 c3).2 c2)
/-- BannerParade.isRead, label 0 -/
theorem w106_0 {D : Nat} {v1 : Int32} {m : XM} {Q : Int32 → XM → Prop} {E : Nat → XM → Prop}
    (h : (((m 0 7) = (n32 0) → E 0 m) ∧ (¬ (m 0 7) = (n32 0) → ((v1 < (n32 0) → E 2 m) ∧ (¬ v1 < (n32 0) → ((v1 < (m 69 0) → VA (D + 3) 161 [vR 10 (0), vI v1] m (fun x1 m1 => VI (D + 3) 39 [vR 5 (x1), vR 6 (69), vI v1] m1 (fun x2 m2 => (xrt 2 x2 = true ∧ Q x2 m2)) E) E) ∧ (¬ v1 < (m 69 0) → E 2 m))))))) :
    VI (D + 4) 106 [vR 10 (0), vI v1] m Q E := by
  refine V_of (VL_at (al := [(0, vR 10 (0)), (1, vI v1)]) (st := []) km106 k106_0 ?_)
  refine V_of ?_
  refine VL_norm km155 k155_0 (VL_at (al := [(0, vR 10 (0))]) (st := []) km155 k155_0 ?_)
  refine And.intro (fun c5 => ?_) (fun c5 => ?_)
  · refine VL_norm km155 k155_1 (VL_at (al := []) (st := []) km155 k155_1 ?_)
    exact (h.1 c5)
  · refine VL_norm km155 k155_2 (VL_at (al := []) (st := []) km155 k155_2 ?_)
    refine V_of ?_
    refine VL_norm km157 k157_0 (VL_at (al := [(0, vR 10 (0)), (1, vI v1)]) (st := []) km157 k157_0 ?_)
    refine V_of ?_
    refine VL_norm km158 k158_0 (VL_at (al := [(0, vI v1), (1, vI (m 69 0))]) (st := []) km158 k158_0 ?_)
    refine And.intro (fun c4 => ?_) (fun c4 => ?_)
    · refine VL_norm km158 k158_2 (VL_at (al := []) (st := []) km158 k158_2 ?_)
      exact ((h.2 c5).1 c4)
    · refine VL_norm km158 k158_1 (VL_at (al := [(0, vI v1), (1, vI (m 69 0))]) (st := []) km158 k158_1 ?_)
      refine And.intro (fun c3 => ?_) (fun c3 => ?_)
      · refine VL_norm km158 k158_3 (VL_at (al := []) (st := []) km158 k158_3 ?_)
        refine V_mono (((h.2 c5).2 c4).1 c3) (fun u1 m1 h1 => ?_) (fun _ _ h => h)
        refine V_mono h1 (fun u2 m2 h2 => ?_) (fun _ _ h => h)
        refine And.intro h2.1 ?_
        exact h2.2
      · refine VL_norm km158 k158_2 (VL_at (al := []) (st := []) km158 k158_2 ?_)
        exact (((h.2 c5).2 c4).2 c3)
/-- BannerParade.share, label 0 -/
theorem w107_0 {D : Nat} {v1 : Int32} {m : XM} {Q : UInt32 → XM → Prop} {E : Nat → XM → Prop}
    (h : (((m 0 7) = (n32 0) → E 0 m) ∧ (¬ (m 0 7) = (n32 0) → ((v1 < (n32 0) → E 2 m) ∧ (¬ v1 < (n32 0) → ((v1 < (m 69 0) → VA (D + 3) 161 [vR 10 (0), vI v1] m (fun x1 m1 => VF (D + 3) 40 [vR 5 (x1), vR 6 (69), vI v1] m1 (fun x2 m2 => Q x2 m2) E) E) ∧ (¬ v1 < (m 69 0) → E 2 m))))))) :
    VF (D + 4) 107 [vR 10 (0), vI v1] m Q E := by
  refine V_of (VL_at (al := [(0, vR 10 (0)), (1, vI v1)]) (st := []) km107 k107_0 ?_)
  refine V_of ?_
  refine VL_norm km155 k155_0 (VL_at (al := [(0, vR 10 (0))]) (st := []) km155 k155_0 ?_)
  refine And.intro (fun c5 => ?_) (fun c5 => ?_)
  · refine VL_norm km155 k155_1 (VL_at (al := []) (st := []) km155 k155_1 ?_)
    exact (h.1 c5)
  · refine VL_norm km155 k155_2 (VL_at (al := []) (st := []) km155 k155_2 ?_)
    refine V_of ?_
    refine VL_norm km157 k157_0 (VL_at (al := [(0, vR 10 (0)), (1, vI v1)]) (st := []) km157 k157_0 ?_)
    refine V_of ?_
    refine VL_norm km158 k158_0 (VL_at (al := [(0, vI v1), (1, vI (m 69 0))]) (st := []) km158 k158_0 ?_)
    refine And.intro (fun c4 => ?_) (fun c4 => ?_)
    · refine VL_norm km158 k158_2 (VL_at (al := []) (st := []) km158 k158_2 ?_)
      exact ((h.2 c5).1 c4)
    · refine VL_norm km158 k158_1 (VL_at (al := [(0, vI v1), (1, vI (m 69 0))]) (st := []) km158 k158_1 ?_)
      refine And.intro (fun c3 => ?_) (fun c3 => ?_)
      · refine VL_norm km158 k158_3 (VL_at (al := []) (st := []) km158 k158_3 ?_)
        refine V_mono (((h.2 c5).2 c4).1 c3) (fun u1 m1 h1 => ?_) (fun _ _ h => h)
        refine V_mono h1 (fun u2 m2 h2 => ?_) (fun _ _ h => h)
        exact h2
      · refine VL_norm km158 k158_2 (VL_at (al := []) (st := []) km158 k158_2 ?_)
        exact (((h.2 c5).2 c4).2 c3)
/-- BannerParade.placeIn, label 0 -/
theorem w128_0 {D : Nat} {v1 : Int32} {v2 : Int32} {m : XM} {Q : Int32 → XM → Prop} {E : Nat → XM → Prop}
    (h : (((m 0 7) = (n32 0) → E 0 m) ∧ (¬ (m 0 7) = (n32 0) → ((v1 < (n32 0) → E 2 m) ∧ (¬ v1 < (n32 0) → ((v1 < (m (29 + 3) 0) → ((v2 < (n32 0) → E 1 m) ∧ (¬ v2 < (n32 0) → (((n32 300) < v2 → E 1 m) ∧ (¬ (n32 300) < v2 → VU (D + 5) 163 [vR 10 (0), vI v2] m (fun m1 => (xin v1 12 = true ∧ Q (m1 (49 + 3 + 6) (ix v1)) m1)) E))))) ∧ (¬ v1 < (m (29 + 3) 0) → E 2 m))))))) :
    VI (D + 6) 128 [vR 10 (0), vI v1, vI v2] m Q E := by
  refine V_of (VL_at (al := [(0, vR 10 (0)), (1, vI v1), (2, vI v2)]) (st := []) km128 k128_0 ?_)
  refine V_of ?_
  refine VL_norm km155 k155_0 (VL_at (al := [(0, vR 10 (0))]) (st := []) km155 k155_0 ?_)
  refine And.intro (fun c6 => ?_) (fun c6 => ?_)
  · refine VL_norm km155 k155_1 (VL_at (al := []) (st := []) km155 k155_1 ?_)
    exact (h.1 c6)
  · refine VL_norm km155 k155_2 (VL_at (al := []) (st := []) km155 k155_2 ?_)
    refine V_of ?_
    refine VL_norm km156 k156_0 (VL_at (al := [(0, vR 10 (0)), (1, vI v1)]) (st := []) km156 k156_0 ?_)
    refine V_of ?_
    refine VL_norm km158 k158_0 (VL_at (al := [(0, vI v1), (1, vI (m (29 + 3) 0))]) (st := []) km158 k158_0 ?_)
    refine And.intro (fun c5 => ?_) (fun c5 => ?_)
    · refine VL_norm km158 k158_2 (VL_at (al := []) (st := []) km158 k158_2 ?_)
      exact ((h.2 c6).1 c5)
    · refine VL_norm km158 k158_1 (VL_at (al := [(0, vI v1), (1, vI (m (29 + 3) 0))]) (st := []) km158 k158_1 ?_)
      refine And.intro (fun c4 => ?_) (fun c4 => ?_)
      · refine VL_norm km158 k158_3 (VL_at (al := []) (st := []) km158 k158_3 ?_)
        refine V_of ?_
        refine VL_norm km159 k159_0 (VL_at (al := [(0, vI v2), (1, vI (n32 0)), (2, vI (n32 300))]) (st := []) km159 k159_0 ?_)
        refine And.intro (fun c3 => ?_) (fun c3 => ?_)
        · refine VL_norm km159 k159_3 (VL_at (al := []) (st := []) km159 k159_3 ?_)
          refine VL_norm km159 k159_4 (VL_at (al := []) (st := [vI (n32 0)]) km159 k159_4 ?_)
          refine V_of ?_
          refine VL_norm km160 k160_0 (VL_at (al := [(0, vI (n32 0))]) (st := []) km160 k160_0 ?_)
          refine And.intro (fun _ => ?_) (fun c => absurd (by decide) c)
          refine VL_norm km160 k160_1 (VL_at (al := []) (st := []) km160 k160_1 ?_)
          exact ((((h.2 c6).2 c5).1 c4).1 c3)
        · refine VL_norm km159 k159_1 (VL_at (al := [(0, vI v2), (2, vI (n32 300))]) (st := []) km159 k159_1 ?_)
          refine And.intro (fun c2 => ?_) (fun c2 => ?_)
          · refine VL_norm km159 k159_3 (VL_at (al := []) (st := []) km159 k159_3 ?_)
            refine VL_norm km159 k159_4 (VL_at (al := []) (st := [vI (n32 0)]) km159 k159_4 ?_)
            refine V_of ?_
            refine VL_norm km160 k160_0 (VL_at (al := [(0, vI (n32 0))]) (st := []) km160 k160_0 ?_)
            refine And.intro (fun _ => ?_) (fun c => absurd (by decide) c)
            refine VL_norm km160 k160_1 (VL_at (al := []) (st := []) km160 k160_1 ?_)
            exact (((((h.2 c6).2 c5).1 c4).2 c3).1 c2)
          · refine VL_norm km159 k159_2 (VL_at (al := []) (st := []) km159 k159_2 ?_)
            refine VL_norm km159 k159_4 (VL_at (al := []) (st := [vI (n32 1)]) km159 k159_4 ?_)
            refine V_of ?_
            refine VL_norm km160 k160_0 (VL_at (al := [(0, vI (n32 1))]) (st := []) km160 k160_0 ?_)
            refine And.intro (fun c => absurd c (by decide)) (fun _ => ?_)
            refine VL_norm km160 k160_2 (VL_at (al := []) (st := []) km160 k160_2 ?_)
            refine V_mono (((((h.2 c6).2 c5).1 c4).2 c3).2 c2) (fun u1 m1 h1 => ?_) (fun _ _ h => h)
            refine And.intro h1.1 ?_
            exact h1.2
      · refine VL_norm km158 k158_2 (VL_at (al := []) (st := []) km158 k158_2 ?_)
        exact (((h.2 c6).2 c5).2 c4)
/-- BannerParade.strengthIn, label 0 -/
theorem w129_0 {D : Nat} {v1 : Int32} {v2 : Int32} {m : XM} {Q : Int32 → XM → Prop} {E : Nat → XM → Prop}
    (h : (((m 0 7) = (n32 0) → E 0 m) ∧ (¬ (m 0 7) = (n32 0) → ((v1 < (n32 0) → E 2 m) ∧ (¬ v1 < (n32 0) → ((v1 < (m (29 + 3) 0) → ((v2 < (n32 0) → E 1 m) ∧ (¬ v2 < (n32 0) → (((n32 300) < v2 → E 1 m) ∧ (¬ (n32 300) < v2 → VU (D + 5) 163 [vR 10 (0), vI v2] m (fun m1 => (xin v1 12 = true ∧ Q (m1 (49 + 3 + 4) (ix v1)) m1)) E))))) ∧ (¬ v1 < (m (29 + 3) 0) → E 2 m))))))) :
    VI (D + 6) 129 [vR 10 (0), vI v1, vI v2] m Q E := by
  refine V_of (VL_at (al := [(0, vR 10 (0)), (1, vI v1), (2, vI v2)]) (st := []) km129 k129_0 ?_)
  refine V_of ?_
  refine VL_norm km155 k155_0 (VL_at (al := [(0, vR 10 (0))]) (st := []) km155 k155_0 ?_)
  refine And.intro (fun c6 => ?_) (fun c6 => ?_)
  · refine VL_norm km155 k155_1 (VL_at (al := []) (st := []) km155 k155_1 ?_)
    exact (h.1 c6)
  · refine VL_norm km155 k155_2 (VL_at (al := []) (st := []) km155 k155_2 ?_)
    refine V_of ?_
    refine VL_norm km156 k156_0 (VL_at (al := [(0, vR 10 (0)), (1, vI v1)]) (st := []) km156 k156_0 ?_)
    refine V_of ?_
    refine VL_norm km158 k158_0 (VL_at (al := [(0, vI v1), (1, vI (m (29 + 3) 0))]) (st := []) km158 k158_0 ?_)
    refine And.intro (fun c5 => ?_) (fun c5 => ?_)
    · refine VL_norm km158 k158_2 (VL_at (al := []) (st := []) km158 k158_2 ?_)
      exact ((h.2 c6).1 c5)
    · refine VL_norm km158 k158_1 (VL_at (al := [(0, vI v1), (1, vI (m (29 + 3) 0))]) (st := []) km158 k158_1 ?_)
      refine And.intro (fun c4 => ?_) (fun c4 => ?_)
      · refine VL_norm km158 k158_3 (VL_at (al := []) (st := []) km158 k158_3 ?_)
        refine V_of ?_
        refine VL_norm km159 k159_0 (VL_at (al := [(0, vI v2), (1, vI (n32 0)), (2, vI (n32 300))]) (st := []) km159 k159_0 ?_)
        refine And.intro (fun c3 => ?_) (fun c3 => ?_)
        · refine VL_norm km159 k159_3 (VL_at (al := []) (st := []) km159 k159_3 ?_)
          refine VL_norm km159 k159_4 (VL_at (al := []) (st := [vI (n32 0)]) km159 k159_4 ?_)
          refine V_of ?_
          refine VL_norm km160 k160_0 (VL_at (al := [(0, vI (n32 0))]) (st := []) km160 k160_0 ?_)
          refine And.intro (fun _ => ?_) (fun c => absurd (by decide) c)
          refine VL_norm km160 k160_1 (VL_at (al := []) (st := []) km160 k160_1 ?_)
          exact ((((h.2 c6).2 c5).1 c4).1 c3)
        · refine VL_norm km159 k159_1 (VL_at (al := [(0, vI v2), (2, vI (n32 300))]) (st := []) km159 k159_1 ?_)
          refine And.intro (fun c2 => ?_) (fun c2 => ?_)
          · refine VL_norm km159 k159_3 (VL_at (al := []) (st := []) km159 k159_3 ?_)
            refine VL_norm km159 k159_4 (VL_at (al := []) (st := [vI (n32 0)]) km159 k159_4 ?_)
            refine V_of ?_
            refine VL_norm km160 k160_0 (VL_at (al := [(0, vI (n32 0))]) (st := []) km160 k160_0 ?_)
            refine And.intro (fun _ => ?_) (fun c => absurd (by decide) c)
            refine VL_norm km160 k160_1 (VL_at (al := []) (st := []) km160 k160_1 ?_)
            exact (((((h.2 c6).2 c5).1 c4).2 c3).1 c2)
          · refine VL_norm km159 k159_2 (VL_at (al := []) (st := []) km159 k159_2 ?_)
            refine VL_norm km159 k159_4 (VL_at (al := []) (st := [vI (n32 1)]) km159 k159_4 ?_)
            refine V_of ?_
            refine VL_norm km160 k160_0 (VL_at (al := [(0, vI (n32 1))]) (st := []) km160 k160_0 ?_)
            refine And.intro (fun c => absurd c (by decide)) (fun _ => ?_)
            refine VL_norm km160 k160_2 (VL_at (al := []) (st := []) km160 k160_2 ?_)
            refine V_mono (((((h.2 c6).2 c5).1 c4).2 c3).2 c2) (fun u1 m1 h1 => ?_) (fun _ _ h => h)
            refine And.intro h1.1 ?_
            exact h1.2
      · refine VL_norm km158 k158_2 (VL_at (al := []) (st := []) km158 k158_2 ?_)
        exact (((h.2 c6).2 c5).2 c4)
/-- BannerParade.bannerIn, label 0 -/
theorem w130_0 {D : Nat} {v1 : Int32} {v2 : Int32} {m : XM} {Q : Int32 → XM → Prop} {E : Nat → XM → Prop}
    (h : (((m 0 7) = (n32 0) → E 0 m) ∧ (¬ (m 0 7) = (n32 0) → ((v1 < (n32 0) → E 2 m) ∧ (¬ v1 < (n32 0) → ((v1 < (m (29 + 3) 0) → ((v2 < (n32 0) → E 1 m) ∧ (¬ v2 < (n32 0) → (((n32 300) < v2 → E 1 m) ∧ (¬ (n32 300) < v2 → VU (D + 5) 163 [vR 10 (0), vI v2] m (fun m1 => (xin v1 12 = true ∧ Q (m1 (49 + 3 + 5) (ix v1)) m1)) E))))) ∧ (¬ v1 < (m (29 + 3) 0) → E 2 m))))))) :
    VI (D + 6) 130 [vR 10 (0), vI v1, vI v2] m Q E := by
  refine V_of (VL_at (al := [(0, vR 10 (0)), (1, vI v1), (2, vI v2)]) (st := []) km130 k130_0 ?_)
  refine V_of ?_
  refine VL_norm km155 k155_0 (VL_at (al := [(0, vR 10 (0))]) (st := []) km155 k155_0 ?_)
  refine And.intro (fun c6 => ?_) (fun c6 => ?_)
  · refine VL_norm km155 k155_1 (VL_at (al := []) (st := []) km155 k155_1 ?_)
    exact (h.1 c6)
  · refine VL_norm km155 k155_2 (VL_at (al := []) (st := []) km155 k155_2 ?_)
    refine V_of ?_
    refine VL_norm km156 k156_0 (VL_at (al := [(0, vR 10 (0)), (1, vI v1)]) (st := []) km156 k156_0 ?_)
    refine V_of ?_
    refine VL_norm km158 k158_0 (VL_at (al := [(0, vI v1), (1, vI (m (29 + 3) 0))]) (st := []) km158 k158_0 ?_)
    refine And.intro (fun c5 => ?_) (fun c5 => ?_)
    · refine VL_norm km158 k158_2 (VL_at (al := []) (st := []) km158 k158_2 ?_)
      exact ((h.2 c6).1 c5)
    · refine VL_norm km158 k158_1 (VL_at (al := [(0, vI v1), (1, vI (m (29 + 3) 0))]) (st := []) km158 k158_1 ?_)
      refine And.intro (fun c4 => ?_) (fun c4 => ?_)
      · refine VL_norm km158 k158_3 (VL_at (al := []) (st := []) km158 k158_3 ?_)
        refine V_of ?_
        refine VL_norm km159 k159_0 (VL_at (al := [(0, vI v2), (1, vI (n32 0)), (2, vI (n32 300))]) (st := []) km159 k159_0 ?_)
        refine And.intro (fun c3 => ?_) (fun c3 => ?_)
        · refine VL_norm km159 k159_3 (VL_at (al := []) (st := []) km159 k159_3 ?_)
          refine VL_norm km159 k159_4 (VL_at (al := []) (st := [vI (n32 0)]) km159 k159_4 ?_)
          refine V_of ?_
          refine VL_norm km160 k160_0 (VL_at (al := [(0, vI (n32 0))]) (st := []) km160 k160_0 ?_)
          refine And.intro (fun _ => ?_) (fun c => absurd (by decide) c)
          refine VL_norm km160 k160_1 (VL_at (al := []) (st := []) km160 k160_1 ?_)
          exact ((((h.2 c6).2 c5).1 c4).1 c3)
        · refine VL_norm km159 k159_1 (VL_at (al := [(0, vI v2), (2, vI (n32 300))]) (st := []) km159 k159_1 ?_)
          refine And.intro (fun c2 => ?_) (fun c2 => ?_)
          · refine VL_norm km159 k159_3 (VL_at (al := []) (st := []) km159 k159_3 ?_)
            refine VL_norm km159 k159_4 (VL_at (al := []) (st := [vI (n32 0)]) km159 k159_4 ?_)
            refine V_of ?_
            refine VL_norm km160 k160_0 (VL_at (al := [(0, vI (n32 0))]) (st := []) km160 k160_0 ?_)
            refine And.intro (fun _ => ?_) (fun c => absurd (by decide) c)
            refine VL_norm km160 k160_1 (VL_at (al := []) (st := []) km160 k160_1 ?_)
            exact (((((h.2 c6).2 c5).1 c4).2 c3).1 c2)
          · refine VL_norm km159 k159_2 (VL_at (al := []) (st := []) km159 k159_2 ?_)
            refine VL_norm km159 k159_4 (VL_at (al := []) (st := [vI (n32 1)]) km159 k159_4 ?_)
            refine V_of ?_
            refine VL_norm km160 k160_0 (VL_at (al := [(0, vI (n32 1))]) (st := []) km160 k160_0 ?_)
            refine And.intro (fun c => absurd c (by decide)) (fun _ => ?_)
            refine VL_norm km160 k160_2 (VL_at (al := []) (st := []) km160 k160_2 ?_)
            refine V_mono (((((h.2 c6).2 c5).1 c4).2 c3).2 c2) (fun u1 m1 h1 => ?_) (fun _ _ h => h)
            refine And.intro h1.1 ?_
            exact h1.2
      · refine VL_norm km158 k158_2 (VL_at (al := []) (st := []) km158 k158_2 ?_)
        exact (((h.2 c6).2 c5).2 c4)
/-- BannerParade.dropsIn, label 0 -/
theorem w131_0 {D : Nat} {v1 : Int32} {m : XM} {Q : Int32 → XM → Prop} {E : Nat → XM → Prop}
    (h : (((m 0 7) = (n32 0) → E 0 m) ∧ (¬ (m 0 7) = (n32 0) → ((v1 < (n32 0) → E 1 m) ∧ (¬ v1 < (n32 0) → (((n32 300) < v1 → E 1 m) ∧ (¬ (n32 300) < v1 → VU (D + 5) 163 [vR 10 (0), vI v1] m (fun m1 => Q ((m1 49 2) - (m1 29 2)) m1) E))))))) :
    VI (D + 6) 131 [vR 10 (0), vI v1] m Q E := by
  refine V_of (VL_at (al := [(0, vR 10 (0)), (1, vI v1)]) (st := []) km131 k131_0 ?_)
  refine V_of ?_
  refine VL_norm km155 k155_0 (VL_at (al := [(0, vR 10 (0))]) (st := []) km155 k155_0 ?_)
  refine And.intro (fun c4 => ?_) (fun c4 => ?_)
  · refine VL_norm km155 k155_1 (VL_at (al := []) (st := []) km155 k155_1 ?_)
    exact (h.1 c4)
  · refine VL_norm km155 k155_2 (VL_at (al := []) (st := []) km155 k155_2 ?_)
    refine V_of ?_
    refine VL_norm km159 k159_0 (VL_at (al := [(0, vI v1), (1, vI (n32 0)), (2, vI (n32 300))]) (st := []) km159 k159_0 ?_)
    refine And.intro (fun c3 => ?_) (fun c3 => ?_)
    · refine VL_norm km159 k159_3 (VL_at (al := []) (st := []) km159 k159_3 ?_)
      refine VL_norm km159 k159_4 (VL_at (al := []) (st := [vI (n32 0)]) km159 k159_4 ?_)
      refine V_of ?_
      refine VL_norm km160 k160_0 (VL_at (al := [(0, vI (n32 0))]) (st := []) km160 k160_0 ?_)
      refine And.intro (fun _ => ?_) (fun c => absurd (by decide) c)
      refine VL_norm km160 k160_1 (VL_at (al := []) (st := []) km160 k160_1 ?_)
      exact ((h.2 c4).1 c3)
    · refine VL_norm km159 k159_1 (VL_at (al := [(0, vI v1), (2, vI (n32 300))]) (st := []) km159 k159_1 ?_)
      refine And.intro (fun c2 => ?_) (fun c2 => ?_)
      · refine VL_norm km159 k159_3 (VL_at (al := []) (st := []) km159 k159_3 ?_)
        refine VL_norm km159 k159_4 (VL_at (al := []) (st := [vI (n32 0)]) km159 k159_4 ?_)
        refine V_of ?_
        refine VL_norm km160 k160_0 (VL_at (al := [(0, vI (n32 0))]) (st := []) km160 k160_0 ?_)
        refine And.intro (fun _ => ?_) (fun c => absurd (by decide) c)
        refine VL_norm km160 k160_1 (VL_at (al := []) (st := []) km160 k160_1 ?_)
        exact (((h.2 c4).2 c3).1 c2)
      · refine VL_norm km159 k159_2 (VL_at (al := []) (st := []) km159 k159_2 ?_)
        refine VL_norm km159 k159_4 (VL_at (al := []) (st := [vI (n32 1)]) km159 k159_4 ?_)
        refine V_of ?_
        refine VL_norm km160 k160_0 (VL_at (al := [(0, vI (n32 1))]) (st := []) km160 k160_0 ?_)
        refine And.intro (fun c => absurd c (by decide)) (fun _ => ?_)
        refine VL_norm km160 k160_2 (VL_at (al := []) (st := []) km160 k160_2 ?_)
        refine V_mono (((h.2 c4).2 c3).2 c2) (fun u1 m1 h1 => ?_) (fun _ _ h => h)
        exact h1
/-- BannerParade.tick, label 0 -/
theorem w142_0 {D : Nat} {v1 : Int32} {m : XM} {Q : Int32 → XM → Prop} {E : Nat → XM → Prop}
    (h : (((m 0 7) = (n32 0) → E 0 m) ∧ (¬ (m 0 7) = (n32 0) → ((v1 < (n32 1) → E 1 m) ∧ (¬ v1 < (n32 1) → (((n32 100) < v1 → E 1 m) ∧ (¬ (n32 100) < v1 → (((n32 5000) < ((m 29 0) + v1) → E 1 m) ∧ (¬ (n32 5000) < ((m 29 0) + v1) → VU (D + 4) 13 [vR 2 (74), vR 8 (29)] m (fun m1 => VI (D + 4) 166 [vR 10 (0)] m1 (fun x2 m2 => VLI (D + 5) 142 4 [(0, vR 10 (0)), (1, vI v1), (2, vI ((((((((x2 - (((x2).toUInt32 >>> (((n32 1)).toUInt32 &&& Int32.toUInt32 31)).toInt32 &&& (n32 1431655765))) &&& (n32 858993459)) + ((((x2 - (((x2).toUInt32 >>> (((n32 1)).toUInt32 &&& Int32.toUInt32 31)).toInt32 &&& (n32 1431655765)))).toUInt32 >>> (((n32 2)).toUInt32 &&& Int32.toUInt32 31)).toInt32 &&& (n32 858993459))) + (((((x2 - (((x2).toUInt32 >>> (((n32 1)).toUInt32 &&& Int32.toUInt32 31)).toInt32 &&& (n32 1431655765))) &&& (n32 858993459)) + ((((x2 - (((x2).toUInt32 >>> (((n32 1)).toUInt32 &&& Int32.toUInt32 31)).toInt32 &&& (n32 1431655765)))).toUInt32 >>> (((n32 2)).toUInt32 &&& Int32.toUInt32 31)).toInt32 &&& (n32 858993459)))).toUInt32 >>> (((n32 4)).toUInt32 &&& Int32.toUInt32 31)).toInt32) &&& (n32 252645135)) + (((((((x2 - (((x2).toUInt32 >>> (((n32 1)).toUInt32 &&& Int32.toUInt32 31)).toInt32 &&& (n32 1431655765))) &&& (n32 858993459)) + ((((x2 - (((x2).toUInt32 >>> (((n32 1)).toUInt32 &&& Int32.toUInt32 31)).toInt32 &&& (n32 1431655765)))).toUInt32 >>> (((n32 2)).toUInt32 &&& Int32.toUInt32 31)).toInt32 &&& (n32 858993459))) + (((((x2 - (((x2).toUInt32 >>> (((n32 1)).toUInt32 &&& Int32.toUInt32 31)).toInt32 &&& (n32 1431655765))) &&& (n32 858993459)) + ((((x2 - (((x2).toUInt32 >>> (((n32 1)).toUInt32 &&& Int32.toUInt32 31)).toInt32 &&& (n32 1431655765)))).toUInt32 >>> (((n32 2)).toUInt32 &&& Int32.toUInt32 31)).toInt32 &&& (n32 858993459)))).toUInt32 >>> (((n32 4)).toUInt32 &&& Int32.toUInt32 31)).toInt32) &&& (n32 252645135))).toUInt32 >>> (((n32 8)).toUInt32 &&& Int32.toUInt32 31)).toInt32) + ((((((((x2 - (((x2).toUInt32 >>> (((n32 1)).toUInt32 &&& Int32.toUInt32 31)).toInt32 &&& (n32 1431655765))) &&& (n32 858993459)) + ((((x2 - (((x2).toUInt32 >>> (((n32 1)).toUInt32 &&& Int32.toUInt32 31)).toInt32 &&& (n32 1431655765)))).toUInt32 >>> (((n32 2)).toUInt32 &&& Int32.toUInt32 31)).toInt32 &&& (n32 858993459))) + (((((x2 - (((x2).toUInt32 >>> (((n32 1)).toUInt32 &&& Int32.toUInt32 31)).toInt32 &&& (n32 1431655765))) &&& (n32 858993459)) + ((((x2 - (((x2).toUInt32 >>> (((n32 1)).toUInt32 &&& Int32.toUInt32 31)).toInt32 &&& (n32 1431655765)))).toUInt32 >>> (((n32 2)).toUInt32 &&& Int32.toUInt32 31)).toInt32 &&& (n32 858993459)))).toUInt32 >>> (((n32 4)).toUInt32 &&& Int32.toUInt32 31)).toInt32) &&& (n32 252645135)) + (((((((x2 - (((x2).toUInt32 >>> (((n32 1)).toUInt32 &&& Int32.toUInt32 31)).toInt32 &&& (n32 1431655765))) &&& (n32 858993459)) + ((((x2 - (((x2).toUInt32 >>> (((n32 1)).toUInt32 &&& Int32.toUInt32 31)).toInt32 &&& (n32 1431655765)))).toUInt32 >>> (((n32 2)).toUInt32 &&& Int32.toUInt32 31)).toInt32 &&& (n32 858993459))) + (((((x2 - (((x2).toUInt32 >>> (((n32 1)).toUInt32 &&& Int32.toUInt32 31)).toInt32 &&& (n32 1431655765))) &&& (n32 858993459)) + ((((x2 - (((x2).toUInt32 >>> (((n32 1)).toUInt32 &&& Int32.toUInt32 31)).toInt32 &&& (n32 1431655765)))).toUInt32 >>> (((n32 2)).toUInt32 &&& Int32.toUInt32 31)).toInt32 &&& (n32 858993459)))).toUInt32 >>> (((n32 4)).toUInt32 &&& Int32.toUInt32 31)).toInt32) &&& (n32 252645135))).toUInt32 >>> (((n32 8)).toUInt32 &&& Int32.toUInt32 31)).toInt32)).toUInt32 >>> (((n32 16)).toUInt32 &&& Int32.toUInt32 31)).toInt32) &&& (n32 63))), (3, vI (n32 0))] [] m2 Q E) E) E))))))))) :
    VI (D + 5) 142 [vR 10 (0), vI v1] m Q E := by
  refine V_of (VL_at (al := [(0, vR 10 (0)), (1, vI v1)]) (st := []) km142 k142_0 ?_)
  refine V_of ?_
  refine VL_norm km155 k155_0 (VL_at (al := [(0, vR 10 (0))]) (st := []) km155 k155_0 ?_)
  refine And.intro (fun c6 => ?_) (fun c6 => ?_)
  · refine VL_norm km155 k155_1 (VL_at (al := []) (st := []) km155 k155_1 ?_)
    exact (h.1 c6)
  · refine VL_norm km155 k155_2 (VL_at (al := []) (st := []) km155 k155_2 ?_)
    refine V_of ?_
    refine VL_norm km159 k159_0 (VL_at (al := [(0, vI v1), (1, vI (n32 1)), (2, vI (n32 100))]) (st := []) km159 k159_0 ?_)
    refine And.intro (fun c5 => ?_) (fun c5 => ?_)
    · refine VL_norm km159 k159_3 (VL_at (al := []) (st := []) km159 k159_3 ?_)
      refine VL_norm km159 k159_4 (VL_at (al := []) (st := [vI (n32 0)]) km159 k159_4 ?_)
      refine V_of ?_
      refine VL_norm km160 k160_0 (VL_at (al := [(0, vI (n32 0))]) (st := []) km160 k160_0 ?_)
      refine And.intro (fun _ => ?_) (fun c => absurd (by decide) c)
      refine VL_norm km160 k160_1 (VL_at (al := []) (st := []) km160 k160_1 ?_)
      exact ((h.2 c6).1 c5)
    · refine VL_norm km159 k159_1 (VL_at (al := [(0, vI v1), (2, vI (n32 100))]) (st := []) km159 k159_1 ?_)
      refine And.intro (fun c4 => ?_) (fun c4 => ?_)
      · refine VL_norm km159 k159_3 (VL_at (al := []) (st := []) km159 k159_3 ?_)
        refine VL_norm km159 k159_4 (VL_at (al := []) (st := [vI (n32 0)]) km159 k159_4 ?_)
        refine V_of ?_
        refine VL_norm km160 k160_0 (VL_at (al := [(0, vI (n32 0))]) (st := []) km160 k160_0 ?_)
        refine And.intro (fun _ => ?_) (fun c => absurd (by decide) c)
        refine VL_norm km160 k160_1 (VL_at (al := []) (st := []) km160 k160_1 ?_)
        exact (((h.2 c6).2 c5).1 c4)
      · refine VL_norm km159 k159_2 (VL_at (al := []) (st := []) km159 k159_2 ?_)
        refine VL_norm km159 k159_4 (VL_at (al := []) (st := [vI (n32 1)]) km159 k159_4 ?_)
        refine V_of ?_
        refine VL_norm km160 k160_0 (VL_at (al := [(0, vI (n32 1))]) (st := []) km160 k160_0 ?_)
        refine And.intro (fun c => absurd c (by decide)) (fun _ => ?_)
        refine VL_norm km160 k160_2 (VL_at (al := []) (st := []) km160 k160_2 ?_)
        refine And.intro (fun c3 => ?_) (fun c3 => ?_)
        · refine VL_norm km142 k142_2 (VL_at (al := [(0, vR 10 (0)), (1, vI v1)]) (st := []) km142 k142_2 ?_)
          refine VL_norm km142 k142_3 (VL_at (al := [(0, vR 10 (0)), (1, vI v1)]) (st := [vI (n32 0)]) km142 k142_3 ?_)
          refine V_of ?_
          refine VL_norm km160 k160_0 (VL_at (al := [(0, vI (n32 0))]) (st := []) km160 k160_0 ?_)
          refine And.intro (fun _ => ?_) (fun c => absurd (by decide) c)
          refine VL_norm km160 k160_1 (VL_at (al := []) (st := []) km160 k160_1 ?_)
          exact ((((h.2 c6).2 c5).2 c4).1 c3)
        · refine VL_norm km142 k142_1 (VL_at (al := [(0, vR 10 (0)), (1, vI v1)]) (st := []) km142 k142_1 ?_)
          refine VL_norm km142 k142_3 (VL_at (al := [(0, vR 10 (0)), (1, vI v1)]) (st := [vI (n32 1)]) km142 k142_3 ?_)
          refine V_of ?_
          refine VL_norm km160 k160_0 (VL_at (al := [(0, vI (n32 1))]) (st := []) km160 k160_0 ?_)
          refine And.intro (fun c => absurd c (by decide)) (fun _ => ?_)
          refine VL_norm km160 k160_2 (VL_at (al := []) (st := []) km160 k160_2 ?_)
          refine V_mono ((((h.2 c6).2 c5).2 c4).2 c3) (fun u1 m1 h1 => ?_) (fun _ _ h => h)
          refine V_mono h1 (fun u2 m2 h2 => ?_) (fun _ _ h => h)
          refine V_of ?_
          refine VL_norm km383 k383_0 (VL_at (al := [(0, vI (xti u2))]) (st := []) km383 k383_0 ?_)
          exact VL_norm km142 k142_4 h2
end
section
/-! Verification conditions (written by program: wip/whole/mkw.py). -/
/-- BannerParade.tick, label 4 -/
theorem w142_4 {D : Nat} {v1 : Int32} {v2 : Int32} {v3 : Int32} {m : XM} {Q : Int32 → XM → Prop} {E : Nat → XM → Prop}
    (h : ((v1 ≤ v3 → VI (D + 4) 166 [vR 10 (0)] m (fun x1 m1 => Q (((((((((x1 - (((x1).toUInt32 >>> (((n32 1)).toUInt32 &&& Int32.toUInt32 31)).toInt32 &&& (n32 1431655765))) &&& (n32 858993459)) + ((((x1 - (((x1).toUInt32 >>> (((n32 1)).toUInt32 &&& Int32.toUInt32 31)).toInt32 &&& (n32 1431655765)))).toUInt32 >>> (((n32 2)).toUInt32 &&& Int32.toUInt32 31)).toInt32 &&& (n32 858993459))) + (((((x1 - (((x1).toUInt32 >>> (((n32 1)).toUInt32 &&& Int32.toUInt32 31)).toInt32 &&& (n32 1431655765))) &&& (n32 858993459)) + ((((x1 - (((x1).toUInt32 >>> (((n32 1)).toUInt32 &&& Int32.toUInt32 31)).toInt32 &&& (n32 1431655765)))).toUInt32 >>> (((n32 2)).toUInt32 &&& Int32.toUInt32 31)).toInt32 &&& (n32 858993459)))).toUInt32 >>> (((n32 4)).toUInt32 &&& Int32.toUInt32 31)).toInt32) &&& (n32 252645135)) + (((((((x1 - (((x1).toUInt32 >>> (((n32 1)).toUInt32 &&& Int32.toUInt32 31)).toInt32 &&& (n32 1431655765))) &&& (n32 858993459)) + ((((x1 - (((x1).toUInt32 >>> (((n32 1)).toUInt32 &&& Int32.toUInt32 31)).toInt32 &&& (n32 1431655765)))).toUInt32 >>> (((n32 2)).toUInt32 &&& Int32.toUInt32 31)).toInt32 &&& (n32 858993459))) + (((((x1 - (((x1).toUInt32 >>> (((n32 1)).toUInt32 &&& Int32.toUInt32 31)).toInt32 &&& (n32 1431655765))) &&& (n32 858993459)) + ((((x1 - (((x1).toUInt32 >>> (((n32 1)).toUInt32 &&& Int32.toUInt32 31)).toInt32 &&& (n32 1431655765)))).toUInt32 >>> (((n32 2)).toUInt32 &&& Int32.toUInt32 31)).toInt32 &&& (n32 858993459)))).toUInt32 >>> (((n32 4)).toUInt32 &&& Int32.toUInt32 31)).toInt32) &&& (n32 252645135))).toUInt32 >>> (((n32 8)).toUInt32 &&& Int32.toUInt32 31)).toInt32) + ((((((((x1 - (((x1).toUInt32 >>> (((n32 1)).toUInt32 &&& Int32.toUInt32 31)).toInt32 &&& (n32 1431655765))) &&& (n32 858993459)) + ((((x1 - (((x1).toUInt32 >>> (((n32 1)).toUInt32 &&& Int32.toUInt32 31)).toInt32 &&& (n32 1431655765)))).toUInt32 >>> (((n32 2)).toUInt32 &&& Int32.toUInt32 31)).toInt32 &&& (n32 858993459))) + (((((x1 - (((x1).toUInt32 >>> (((n32 1)).toUInt32 &&& Int32.toUInt32 31)).toInt32 &&& (n32 1431655765))) &&& (n32 858993459)) + ((((x1 - (((x1).toUInt32 >>> (((n32 1)).toUInt32 &&& Int32.toUInt32 31)).toInt32 &&& (n32 1431655765)))).toUInt32 >>> (((n32 2)).toUInt32 &&& Int32.toUInt32 31)).toInt32 &&& (n32 858993459)))).toUInt32 >>> (((n32 4)).toUInt32 &&& Int32.toUInt32 31)).toInt32) &&& (n32 252645135)) + (((((((x1 - (((x1).toUInt32 >>> (((n32 1)).toUInt32 &&& Int32.toUInt32 31)).toInt32 &&& (n32 1431655765))) &&& (n32 858993459)) + ((((x1 - (((x1).toUInt32 >>> (((n32 1)).toUInt32 &&& Int32.toUInt32 31)).toInt32 &&& (n32 1431655765)))).toUInt32 >>> (((n32 2)).toUInt32 &&& Int32.toUInt32 31)).toInt32 &&& (n32 858993459))) + (((((x1 - (((x1).toUInt32 >>> (((n32 1)).toUInt32 &&& Int32.toUInt32 31)).toInt32 &&& (n32 1431655765))) &&& (n32 858993459)) + ((((x1 - (((x1).toUInt32 >>> (((n32 1)).toUInt32 &&& Int32.toUInt32 31)).toInt32 &&& (n32 1431655765)))).toUInt32 >>> (((n32 2)).toUInt32 &&& Int32.toUInt32 31)).toInt32 &&& (n32 858993459)))).toUInt32 >>> (((n32 4)).toUInt32 &&& Int32.toUInt32 31)).toInt32) &&& (n32 252645135))).toUInt32 >>> (((n32 8)).toUInt32 &&& Int32.toUInt32 31)).toInt32)).toUInt32 >>> (((n32 16)).toUInt32 &&& Int32.toUInt32 31)).toInt32) &&& (n32 63)) - v2) m1) E) ∧ (¬ v1 ≤ v3 → VU (D + 4) 70 [vR 8 (29)] m (fun m2 => VU (D + 4) 165 [vR 10 (0)] m2 (fun m3 => VLI (D + 5) 142 4 [(0, vR 10 (0)), (1, vI v1), (2, vI v2), (3, vI (v3 + (n32 1)))] [] m3 Q E) E) E))) :
    VLI (D + 5) 142 4 [(0, vR 10 (0)), (1, vI v1), (2, vI v2), (3, vI v3)] [] m Q E := by
  refine VL_at (al := [(0, vR 10 (0)), (1, vI v1), (2, vI v2), (3, vI v3)]) (st := []) km142 k142_4 ?_
  refine And.intro (fun c4 => ?_) (fun c4 => ?_)
  · refine VL_norm km142 k142_6 (VL_at (al := [(0, vR 10 (0)), (2, vI v2)]) (st := []) km142 k142_6 ?_)
    refine V_mono (h.1 c4) (fun u1 m1 h1 => ?_) (fun _ _ h => h)
    refine V_of ?_
    refine VL_norm km383 k383_0 (VL_at (al := [(0, vI (xti u1))]) (st := []) km383 k383_0 ?_)
    exact h1
  · refine VL_norm km142 k142_5 (VL_at (al := [(0, vR 10 (0)), (1, vI v1), (2, vI v2), (3, vI v3)]) (st := []) km142 k142_5 ?_)
    refine V_mono (h.2 c4) (fun u2 m2 h2 => ?_) (fun _ _ h => h)
    refine V_mono h2 (fun u3 m3 h3 => ?_) (fun _ _ h => h)
    exact VL_norm km142 k142_4 h3
/-- BannerParade.drop, label 0 -/
theorem w144_0 {D : Nat} {v1 : Int32} {m : XM} {Q : Int32 → XM → Prop} {E : Nat → XM → Prop}
    (h : (((m 0 7) = (n32 0) → E 0 m) ∧ (¬ (m 0 7) = (n32 0) → ((v1 < (n32 0) → E 2 m) ∧ (¬ v1 < (n32 0) → ((v1 < (m (29 + 3) 0) → (xin v1 12 = true ∧ (((m (29 + 3 + 5) (ix v1)) = (n32 0) → E 1 m) ∧ (¬ (m (29 + 3 + 5) (ix v1)) = (n32 0) → VU (D + 4) 13 [vR 2 (74), vR 8 (29)] m (fun m1 => VU (D + 4) 76 [vR 8 (29), vI v1] m1 (fun m2 => Q (m2 (29 + 12) 0) m2) E) E)))) ∧ (¬ v1 < (m (29 + 3) 0) → E 2 m))))))) :
    VI (D + 5) 144 [vR 10 (0), vI v1] m Q E := by
  refine V_of (VL_at (al := [(0, vR 10 (0)), (1, vI v1)]) (st := []) km144 k144_0 ?_)
  refine V_of ?_
  refine VL_norm km155 k155_0 (VL_at (al := [(0, vR 10 (0))]) (st := []) km155 k155_0 ?_)
  refine And.intro (fun c6 => ?_) (fun c6 => ?_)
  · refine VL_norm km155 k155_1 (VL_at (al := []) (st := []) km155 k155_1 ?_)
    exact (h.1 c6)
  · refine VL_norm km155 k155_2 (VL_at (al := []) (st := []) km155 k155_2 ?_)
    refine V_of ?_
    refine VL_norm km156 k156_0 (VL_at (al := [(0, vR 10 (0)), (1, vI v1)]) (st := []) km156 k156_0 ?_)
    refine V_of ?_
    refine VL_norm km158 k158_0 (VL_at (al := [(0, vI v1), (1, vI (m (29 + 3) 0))]) (st := []) km158 k158_0 ?_)
    refine And.intro (fun c5 => ?_) (fun c5 => ?_)
    · refine VL_norm km158 k158_2 (VL_at (al := []) (st := []) km158 k158_2 ?_)
      exact ((h.2 c6).1 c5)
    · refine VL_norm km158 k158_1 (VL_at (al := [(0, vI v1), (1, vI (m (29 + 3) 0))]) (st := []) km158 k158_1 ?_)
      refine And.intro (fun c4 => ?_) (fun c4 => ?_)
      · refine VL_norm km158 k158_3 (VL_at (al := []) (st := []) km158 k158_3 ?_)
        refine And.intro (((h.2 c6).2 c5).1 c4).1 ?_
        refine And.intro (fun c3 => ?_) (fun c3 => ?_)
        · refine VL_norm km144 k144_2 (VL_at (al := [(0, vR 10 (0)), (1, vI v1)]) (st := []) km144 k144_2 ?_)
          refine VL_norm km144 k144_3 (VL_at (al := [(0, vR 10 (0)), (1, vI v1)]) (st := [vI (n32 0)]) km144 k144_3 ?_)
          refine V_of ?_
          refine VL_norm km160 k160_0 (VL_at (al := [(0, vI (n32 0))]) (st := []) km160 k160_0 ?_)
          refine And.intro (fun _ => ?_) (fun c => absurd (by decide) c)
          refine VL_norm km160 k160_1 (VL_at (al := []) (st := []) km160 k160_1 ?_)
          exact ((((h.2 c6).2 c5).1 c4).2.1 c3)
        · refine VL_norm km144 k144_1 (VL_at (al := [(0, vR 10 (0)), (1, vI v1)]) (st := []) km144 k144_1 ?_)
          refine VL_norm km144 k144_3 (VL_at (al := [(0, vR 10 (0)), (1, vI v1)]) (st := [vI (n32 1)]) km144 k144_3 ?_)
          refine V_of ?_
          refine VL_norm km160 k160_0 (VL_at (al := [(0, vI (n32 1))]) (st := []) km160 k160_0 ?_)
          refine And.intro (fun c => absurd c (by decide)) (fun _ => ?_)
          refine VL_norm km160 k160_2 (VL_at (al := []) (st := []) km160 k160_2 ?_)
          refine V_mono ((((h.2 c6).2 c5).1 c4).2.2 c3) (fun u1 m1 h1 => ?_) (fun _ _ h => h)
          refine V_mono h1 (fun u2 m2 h2 => ?_) (fun _ _ h => h)
          exact h2
      · refine VL_norm km158 k158_2 (VL_at (al := []) (st := []) km158 k158_2 ?_)
        exact (((h.2 c6).2 c5).2 c4)
/-- BannerParade.pick, label 0 -/
theorem w145_0 {D : Nat} {v1 : Int32} {m : XM} {Q : Int32 → XM → Prop} {E : Nat → XM → Prop}
    (h : (((m 0 7) = (n32 0) → E 0 m) ∧ (¬ (m 0 7) = (n32 0) → ((v1 < (n32 0) → E 2 m) ∧ (¬ v1 < (n32 0) → ((v1 < (m (29 + 3) 0) → (xin v1 12 = true ∧ VI (D + 4) 8 [vR 1 (29 + 12), vI (m (29 + 3 + 6) (ix v1)), vI (m (29 + 3 + 6) (ix v1))] m (fun x1 m1 => (((m1 (29 + 3 + 5) (ix v1)) = (n32 0) → (((m1 (29 + 3 + 4) (ix v1)) < (m1 (29 + 1) (ix (n32 4))) → E 1 m1) ∧ (¬ (m1 (29 + 3 + 4) (ix v1)) < (m1 (29 + 1) (ix (n32 4))) → ((x1 = (-(n32 1)) → E 1 m1) ∧ (¬ x1 = (-(n32 1)) → VU (D + 4) 13 [vR 2 (74), vR 8 (29)] m1 (fun m2 => VU (D + 4) 78 [vR 8 (29), vI v1, vI x1] m2 (fun m3 => Q (m3 (29 + 3 + 5) (ix v1)) m3) E) E))))) ∧ (¬ (m1 (29 + 3 + 5) (ix v1)) = (n32 0) → E 1 m1))) E)) ∧ (¬ v1 < (m (29 + 3) 0) → E 2 m))))))) :
    VI (D + 5) 145 [vR 10 (0), vI v1] m Q E := by
  refine V_of (VL_at (al := [(0, vR 10 (0)), (1, vI v1)]) (st := []) km145 k145_0 ?_)
  refine V_of ?_
  refine VL_norm km155 k155_0 (VL_at (al := [(0, vR 10 (0))]) (st := []) km155 k155_0 ?_)
  refine And.intro (fun c9 => ?_) (fun c9 => ?_)
  · refine VL_norm km155 k155_1 (VL_at (al := []) (st := []) km155 k155_1 ?_)
    exact (h.1 c9)
  · refine VL_norm km155 k155_2 (VL_at (al := []) (st := []) km155 k155_2 ?_)
    refine V_of ?_
    refine VL_norm km156 k156_0 (VL_at (al := [(0, vR 10 (0)), (1, vI v1)]) (st := []) km156 k156_0 ?_)
    refine V_of ?_
    refine VL_norm km158 k158_0 (VL_at (al := [(0, vI v1), (1, vI (m (29 + 3) 0))]) (st := []) km158 k158_0 ?_)
    refine And.intro (fun c8 => ?_) (fun c8 => ?_)
    · refine VL_norm km158 k158_2 (VL_at (al := []) (st := []) km158 k158_2 ?_)
      exact ((h.2 c9).1 c8)
    · refine VL_norm km158 k158_1 (VL_at (al := [(0, vI v1), (1, vI (m (29 + 3) 0))]) (st := []) km158 k158_1 ?_)
      refine And.intro (fun c7 => ?_) (fun c7 => ?_)
      · refine VL_norm km158 k158_3 (VL_at (al := []) (st := []) km158 k158_3 ?_)
        refine And.intro (((h.2 c9).2 c8).1 c7).1 ?_
        refine And.intro (((h.2 c9).2 c8).1 c7).1 ?_
        refine V_mono (((h.2 c9).2 c8).1 c7).2 (fun u1 m1 h1 => ?_) (fun _ _ h => h)
        refine V_of ?_
        refine VL_norm km77 k77_0 (VL_at (al := [(0, vR 8 (29)), (1, vI v1)]) (st := []) km77 k77_0 ?_)
        refine And.intro (((h.2 c9).2 c8).1 c7).1 ?_
        refine And.intro (fun c6 => ?_) (fun c6 => ?_)
        · refine VL_norm km77 k77_1 (VL_at (al := [(0, vR 8 (29)), (1, vI v1)]) (st := []) km77 k77_1 ?_)
          refine And.intro (((h.2 c9).2 c8).1 c7).1 ?_
          refine And.intro (xin_k rfl) ?_
          refine And.intro (fun c5 => ?_) (fun c5 => ?_)
          · refine VL_norm km77 k77_3 (VL_at (al := []) (st := []) km77 k77_3 ?_)
            refine VL_norm km77 k77_4 (VL_at (al := []) (st := [vI (n32 0)]) km77 k77_4 ?_)
            refine And.intro xrt20 ?_
            refine And.intro (fun _ => ?_) (fun c => absurd (by decide) c)
            refine VL_norm km145 k145_3 (VL_at (al := [(0, vR 10 (0)), (1, vI v1), (2, vI (xti u1))]) (st := []) km145 k145_3 ?_)
            refine VL_norm km145 k145_4 (VL_at (al := [(0, vR 10 (0)), (1, vI v1), (2, vI (xti u1))]) (st := [vI (n32 0)]) km145 k145_4 ?_)
            refine V_of ?_
            refine VL_norm km160 k160_0 (VL_at (al := [(0, vI (n32 0))]) (st := []) km160 k160_0 ?_)
            refine And.intro (fun _ => ?_) (fun c => absurd (by decide) c)
            refine VL_norm km160 k160_1 (VL_at (al := []) (st := []) km160 k160_1 ?_)
            exact ((h1.1 c6).1 c5)
          · refine VL_norm km77 k77_2 (VL_at (al := []) (st := []) km77 k77_2 ?_)
            refine VL_norm km77 k77_4 (VL_at (al := []) (st := [vI (n32 1)]) km77 k77_4 ?_)
            refine And.intro xrt21 ?_
            refine And.intro (fun c => absurd c (by decide)) (fun _ => ?_)
            refine VL_norm km145 k145_1 (VL_at (al := [(0, vR 10 (0)), (1, vI v1), (2, vI (xti u1))]) (st := []) km145 k145_1 ?_)
            refine And.intro (fun c4 => ?_) (fun c4 => ?_)
            · refine VL_norm km145 k145_3 (VL_at (al := [(0, vR 10 (0)), (1, vI v1), (2, vI (xti u1))]) (st := []) km145 k145_3 ?_)
              refine VL_norm km145 k145_4 (VL_at (al := [(0, vR 10 (0)), (1, vI v1), (2, vI (xti u1))]) (st := [vI (n32 0)]) km145 k145_4 ?_)
              refine V_of ?_
              refine VL_norm km160 k160_0 (VL_at (al := [(0, vI (n32 0))]) (st := []) km160 k160_0 ?_)
              refine And.intro (fun _ => ?_) (fun c => absurd (by decide) c)
              refine VL_norm km160 k160_1 (VL_at (al := []) (st := []) km160 k160_1 ?_)
              exact (((h1.1 c6).2 c5).1 c4)
            · refine VL_norm km145 k145_2 (VL_at (al := [(0, vR 10 (0)), (1, vI v1), (2, vI (xti u1))]) (st := []) km145 k145_2 ?_)
              refine VL_norm km145 k145_4 (VL_at (al := [(0, vR 10 (0)), (1, vI v1), (2, vI (xti u1))]) (st := [vI (n32 1)]) km145 k145_4 ?_)
              refine V_of ?_
              refine VL_norm km160 k160_0 (VL_at (al := [(0, vI (n32 1))]) (st := []) km160 k160_0 ?_)
              refine And.intro (fun c => absurd c (by decide)) (fun _ => ?_)
              refine VL_norm km160 k160_2 (VL_at (al := []) (st := []) km160 k160_2 ?_)
              refine V_mono (((h1.1 c6).2 c5).2 c4) (fun u2 m2 h2 => ?_) (fun _ _ h => h)
              refine V_mono h2 (fun u3 m3 h3 => ?_) (fun _ _ h => h)
              refine And.intro (((h.2 c9).2 c8).1 c7).1 ?_
              exact h3
        · refine VL_norm km77 k77_3 (VL_at (al := []) (st := []) km77 k77_3 ?_)
          refine VL_norm km77 k77_4 (VL_at (al := []) (st := [vI (n32 0)]) km77 k77_4 ?_)
          refine And.intro xrt20 ?_
          refine And.intro (fun _ => ?_) (fun c => absurd (by decide) c)
          refine VL_norm km145 k145_3 (VL_at (al := [(0, vR 10 (0)), (1, vI v1), (2, vI (xti u1))]) (st := []) km145 k145_3 ?_)
          refine VL_norm km145 k145_4 (VL_at (al := [(0, vR 10 (0)), (1, vI v1), (2, vI (xti u1))]) (st := [vI (n32 0)]) km145 k145_4 ?_)
          refine V_of ?_
          refine VL_norm km160 k160_0 (VL_at (al := [(0, vI (n32 0))]) (st := []) km160 k160_0 ?_)
          refine And.intro (fun _ => ?_) (fun c => absurd (by decide) c)
          refine VL_norm km160 k160_1 (VL_at (al := []) (st := []) km160 k160_1 ?_)
          exact (h1.2 c6)
      · refine VL_norm km158 k158_2 (VL_at (al := []) (st := []) km158 k158_2 ?_)
        exact (((h.2 c9).2 c8).2 c7)
/-- BannerParade.strengthen, label 0 -/
theorem w146_0 {D : Nat} {v1 : Int32} {v2 : Int32} {m : XM} {Q : Int32 → XM → Prop} {E : Nat → XM → Prop}
    (h : (((m 0 7) = (n32 0) → E 0 m) ∧ (¬ (m 0 7) = (n32 0) → ((v1 < (n32 0) → E 2 m) ∧ (¬ v1 < (n32 0) → ((v1 < (m (29 + 3) 0) → ((v2 < (-(n32 100)) → E 1 m) ∧ (¬ v2 < (-(n32 100)) → (((n32 100) < v2 → E 1 m) ∧ (¬ (n32 100) < v2 → VU (D + 4) 13 [vR 2 (74), vR 8 (29)] m (fun m1 => VU (D + 4) 52 [vR 7 (29 + 3), vI v1, vI v2] m1 (fun m2 => (xin v1 12 = true ∧ Q (m2 (29 + 3 + 4) (ix v1)) m2)) E) E))))) ∧ (¬ v1 < (m (29 + 3) 0) → E 2 m))))))) :
    VI (D + 5) 146 [vR 10 (0), vI v1, vI v2] m Q E := by
  refine V_of (VL_at (al := [(0, vR 10 (0)), (1, vI v1), (2, vI v2)]) (st := []) km146 k146_0 ?_)
  refine V_of ?_
  refine VL_norm km155 k155_0 (VL_at (al := [(0, vR 10 (0))]) (st := []) km155 k155_0 ?_)
  refine And.intro (fun c7 => ?_) (fun c7 => ?_)
  · refine VL_norm km155 k155_1 (VL_at (al := []) (st := []) km155 k155_1 ?_)
    exact (h.1 c7)
  · refine VL_norm km155 k155_2 (VL_at (al := []) (st := []) km155 k155_2 ?_)
    refine V_of ?_
    refine VL_norm km156 k156_0 (VL_at (al := [(0, vR 10 (0)), (1, vI v1)]) (st := []) km156 k156_0 ?_)
    refine V_of ?_
    refine VL_norm km158 k158_0 (VL_at (al := [(0, vI v1), (1, vI (m (29 + 3) 0))]) (st := []) km158 k158_0 ?_)
    refine And.intro (fun c6 => ?_) (fun c6 => ?_)
    · refine VL_norm km158 k158_2 (VL_at (al := []) (st := []) km158 k158_2 ?_)
      exact ((h.2 c7).1 c6)
    · refine VL_norm km158 k158_1 (VL_at (al := [(0, vI v1), (1, vI (m (29 + 3) 0))]) (st := []) km158 k158_1 ?_)
      refine And.intro (fun c5 => ?_) (fun c5 => ?_)
      · refine VL_norm km158 k158_3 (VL_at (al := []) (st := []) km158 k158_3 ?_)
        refine V_of ?_
        refine VL_norm km159 k159_0 (VL_at (al := [(0, vI v2), (1, vI (-(n32 100))), (2, vI (n32 100))]) (st := []) km159 k159_0 ?_)
        refine And.intro (fun c4 => ?_) (fun c4 => ?_)
        · refine VL_norm km159 k159_3 (VL_at (al := []) (st := []) km159 k159_3 ?_)
          refine VL_norm km159 k159_4 (VL_at (al := []) (st := [vI (n32 0)]) km159 k159_4 ?_)
          refine V_of ?_
          refine VL_norm km160 k160_0 (VL_at (al := [(0, vI (n32 0))]) (st := []) km160 k160_0 ?_)
          refine And.intro (fun _ => ?_) (fun c => absurd (by decide) c)
          refine VL_norm km160 k160_1 (VL_at (al := []) (st := []) km160 k160_1 ?_)
          exact ((((h.2 c7).2 c6).1 c5).1 c4)
        · refine VL_norm km159 k159_1 (VL_at (al := [(0, vI v2), (2, vI (n32 100))]) (st := []) km159 k159_1 ?_)
          refine And.intro (fun c3 => ?_) (fun c3 => ?_)
          · refine VL_norm km159 k159_3 (VL_at (al := []) (st := []) km159 k159_3 ?_)
            refine VL_norm km159 k159_4 (VL_at (al := []) (st := [vI (n32 0)]) km159 k159_4 ?_)
            refine V_of ?_
            refine VL_norm km160 k160_0 (VL_at (al := [(0, vI (n32 0))]) (st := []) km160 k160_0 ?_)
            refine And.intro (fun _ => ?_) (fun c => absurd (by decide) c)
            refine VL_norm km160 k160_1 (VL_at (al := []) (st := []) km160 k160_1 ?_)
            exact (((((h.2 c7).2 c6).1 c5).2 c4).1 c3)
          · refine VL_norm km159 k159_2 (VL_at (al := []) (st := []) km159 k159_2 ?_)
            refine VL_norm km159 k159_4 (VL_at (al := []) (st := [vI (n32 1)]) km159 k159_4 ?_)
            refine V_of ?_
            refine VL_norm km160 k160_0 (VL_at (al := [(0, vI (n32 1))]) (st := []) km160 k160_0 ?_)
            refine And.intro (fun c => absurd c (by decide)) (fun _ => ?_)
            refine VL_norm km160 k160_2 (VL_at (al := []) (st := []) km160 k160_2 ?_)
            refine V_mono (((((h.2 c7).2 c6).1 c5).2 c4).2 c3) (fun u1 m1 h1 => ?_) (fun _ _ h => h)
            refine V_mono h1 (fun u2 m2 h2 => ?_) (fun _ _ h => h)
            refine And.intro h2.1 ?_
            exact h2.2
      · refine VL_norm km158 k158_2 (VL_at (al := []) (st := []) km158 k158_2 ?_)
        exact (((h.2 c7).2 c6).2 c5)
/-- BannerParade.undo, label 0 -/
theorem w151_0 {D : Nat}  {m : XM} {Q : Int32 → XM → Prop} {E : Nat → XM → Prop}
    (h : (((m 74 1) = (n32 0) → E 0 m) ∧ (¬ (m 74 1) = (n32 0) → VU (D + 4) 14 [vR 2 (74), vR 8 (29)] m (fun m1 => Q (m1 74 1) m1) E))) :
    VI (D + 5) 151 [vR 10 (0)] m Q E := by
  refine V_of (VL_at (al := [(0, vR 10 (0))]) (st := []) km151 k151_0 ?_)
  refine And.intro (fun c2 => ?_) (fun c2 => ?_)
  · refine VL_norm km151 k151_1 (VL_at (al := []) (st := []) km151 k151_1 ?_)
    exact (h.1 c2)
  · refine VL_norm km151 k151_2 (VL_at (al := [(0, vR 10 (0))]) (st := []) km151 k151_2 ?_)
    refine V_mono (h.2 c2) (fun u1 m1 h1 => ?_) (fun _ _ h => h)
    exact h1
/-- BannerParade.save, label 0 -/
theorem w153_0 {D : Nat} {v1 : Int32} {m : XM} {Q : Int32 → XM → Prop} {E : Nat → XM → Prop}
    (h : (((m 0 7) = (n32 0) → E 0 m) ∧ (¬ (m 0 7) = (n32 0) → ((v1 < (n32 0) → E 2 m) ∧ (¬ v1 < (n32 0) → ((v1 < (n32 2) → VU (D + 4) 15 [vR 2 (74), vI v1, vR 8 (29)] m (fun m1 => Q (m1 29 0) m1) E) ∧ (¬ v1 < (n32 2) → E 2 m))))))) :
    VI (D + 5) 153 [vR 10 (0), vI v1] m Q E := by
  refine V_of (VL_at (al := [(0, vR 10 (0)), (1, vI v1)]) (st := []) km153 k153_0 ?_)
  refine V_of ?_
  refine VL_norm km155 k155_0 (VL_at (al := [(0, vR 10 (0))]) (st := []) km155 k155_0 ?_)
  refine And.intro (fun c4 => ?_) (fun c4 => ?_)
  · refine VL_norm km155 k155_1 (VL_at (al := []) (st := []) km155 k155_1 ?_)
    exact (h.1 c4)
  · refine VL_norm km155 k155_2 (VL_at (al := []) (st := []) km155 k155_2 ?_)
    refine V_of ?_
    refine VL_norm km158 k158_0 (VL_at (al := [(0, vI v1), (1, vI (n32 2))]) (st := []) km158 k158_0 ?_)
    refine And.intro (fun c3 => ?_) (fun c3 => ?_)
    · refine VL_norm km158 k158_2 (VL_at (al := []) (st := []) km158 k158_2 ?_)
      exact ((h.2 c4).1 c3)
    · refine VL_norm km158 k158_1 (VL_at (al := [(0, vI v1), (1, vI (n32 2))]) (st := []) km158 k158_1 ?_)
      refine And.intro (fun c2 => ?_) (fun c2 => ?_)
      · refine VL_norm km158 k158_3 (VL_at (al := []) (st := []) km158 k158_3 ?_)
        refine V_mono (((h.2 c4).2 c3).1 c2) (fun u1 m1 h1 => ?_) (fun _ _ h => h)
        exact h1
      · refine VL_norm km158 k158_2 (VL_at (al := []) (st := []) km158 k158_2 ?_)
        exact (((h.2 c4).2 c3).2 c2)
/-- BannerParade.restore, label 0 -/
theorem w154_0 {D : Nat} {v1 : Int32} {m : XM} {Q : Int32 → XM → Prop} {E : Nat → XM → Prop}
    (h : ((v1 < (n32 0) → E 2 m) ∧ (¬ v1 < (n32 0) → ((v1 < (n32 2) → (xin v1 2 = true ∧ (((m (74 + 3) (ix v1)) = (n32 0) → E 0 m) ∧ (¬ (m (74 + 3) (ix v1)) = (n32 0) → VU (D + 4) 16 [vR 2 (74), vI v1, vR 8 (29)] m (fun m1 => Q ((um (um m1 (74) 0 (n32 0)) (74) 1 (n32 0)) 29 0) (um (um m1 (74) 0 (n32 0)) (74) 1 (n32 0))) E)))) ∧ (¬ v1 < (n32 2) → E 2 m))))) :
    VI (D + 5) 154 [vR 10 (0), vI v1] m Q E := by
  refine V_of (VL_at (al := [(0, vR 10 (0)), (1, vI v1)]) (st := []) km154 k154_0 ?_)
  refine V_of ?_
  refine VL_norm km158 k158_0 (VL_at (al := [(0, vI v1), (1, vI (n32 2))]) (st := []) km158 k158_0 ?_)
  refine And.intro (fun c4 => ?_) (fun c4 => ?_)
  · refine VL_norm km158 k158_2 (VL_at (al := []) (st := []) km158 k158_2 ?_)
    exact (h.1 c4)
  · refine VL_norm km158 k158_1 (VL_at (al := [(0, vI v1), (1, vI (n32 2))]) (st := []) km158 k158_1 ?_)
    refine And.intro (fun c3 => ?_) (fun c3 => ?_)
    · refine VL_norm km158 k158_3 (VL_at (al := []) (st := []) km158 k158_3 ?_)
      refine And.intro ((h.2 c4).1 c3).1 ?_
      refine And.intro (fun c2 => ?_) (fun c2 => ?_)
      · refine VL_norm km154 k154_1 (VL_at (al := []) (st := []) km154 k154_1 ?_)
        exact (((h.2 c4).1 c3).2.1 c2)
      · refine VL_norm km154 k154_2 (VL_at (al := [(0, vR 10 (0)), (1, vI v1)]) (st := []) km154 k154_2 ?_)
        refine V_mono (((h.2 c4).1 c3).2.2 c2) (fun u1 m1 h1 => ?_) (fun _ _ h => h)
        refine V_of ?_
        refine VL_norm km11 k11_0 (VL_at (al := [(0, vR 2 (74))]) (st := []) km11 k11_0 ?_)
        exact h1
    · refine VL_norm km158 k158_2 (VL_at (al := []) (st := []) km158 k158_2 ?_)
      exact ((h.2 c4).2 c3)
/-- BannerParade.readNow, label 0 -/
theorem w161_0 {D : Nat} {v1 : Int32} {m : XM} {Q : Nat → XM → Prop} {E : Nat → XM → Prop}
    (h : VU (D + 2) 33 [vR 5 (278), vR 8 (29), vR 6 (69), vI v1] m (fun m1 => Q 278 m1) E) :
    VA (D + 3) 161 [vR 10 (0), vI v1] m Q E := by
  refine V_of (VL_at (al := [(0, vR 10 (0)), (1, vI v1)]) (st := []) km161 k161_0 ?_)
  refine V_mono h (fun u1 m1 h1 => ?_) (fun _ _ h => h)
  exact h1
/-- BannerParade.foresee, label 0 -/
theorem w163_0 {D : Nat} {v1 : Int32} {m : XM} {Q : XM → Prop} {E : Nat → XM → Prop}
    (h : VU (D + 4) 68 [vR 8 (49), vR 8 (29)] m (fun m1 => VLU (D + 5) 163 1 [(0, vR 10 (0)), (1, vI v1), (2, vI (n32 0))] [] m1 Q E) E) :
    VU (D + 5) 163 [vR 10 (0), vI v1] m Q E := by
  refine V_of (VL_at (al := [(0, vR 10 (0)), (1, vI v1)]) (st := []) km163 k163_0 ?_)
  refine V_mono h (fun u1 m1 h1 => ?_) (fun _ _ h => h)
  exact VL_norm km163 k163_1 h1
/-- BannerParade.foresee, label 1 -/
theorem w163_1 {D : Nat} {v1 : Int32} {v2 : Int32} {m : XM} {Q : XM → Prop} {E : Nat → XM → Prop}
    (h : ((v1 ≤ v2 → Q m) ∧ (¬ v1 ≤ v2 → VU (D + 4) 70 [vR 8 (49)] m (fun m1 => VLU (D + 5) 163 1 [(0, vR 10 (0)), (1, vI v1), (2, vI (v2 + (n32 1)))] [] m1 Q E) E))) :
    VLU (D + 5) 163 1 [(0, vR 10 (0)), (1, vI v1), (2, vI v2)] [] m Q E := by
  refine VL_at (al := [(0, vR 10 (0)), (1, vI v1), (2, vI v2)]) (st := []) km163 k163_1 ?_
  refine And.intro (fun c2 => ?_) (fun c2 => ?_)
  · refine VL_norm km163 k163_3 (VL_at (al := []) (st := []) km163 k163_3 ?_)
    exact (h.1 c2)
  · refine VL_norm km163 k163_2 (VL_at (al := [(0, vR 10 (0)), (1, vI v1), (2, vI v2)]) (st := []) km163 k163_2 ?_)
    refine V_mono (h.2 c2) (fun u1 m1 h1 => ?_) (fun _ _ h => h)
    exact VL_norm km163 k163_1 h1
/-- BannerParade.readWords, label 0 -/
theorem w165_0 {D : Nat}  {m : XM} {Q : XM → Prop} {E : Nat → XM → Prop}
    (h : VLU (D + 4) 165 1 [(0, vR 10 (0)), (1, vI (n32 0))] [] m Q E) :
    VU (D + 4) 165 [vR 10 (0)] m Q E := by
  refine V_of (VL_at (al := [(0, vR 10 (0))]) (st := []) km165 k165_0 ?_)
  exact VL_norm km165 k165_1 h
/-- BannerParade.readWords, label 1 -/
theorem w165_1 {D : Nat} {v1 : Int32} {m : XM} {Q : XM → Prop} {E : Nat → XM → Prop}
    (h : (((m 69 0) ≤ v1 → Q m) ∧ (¬ (m 69 0) ≤ v1 → (xin v1 6 = true ∧ (((m (29 + 2) (ix v1)) = (-(n32 1)) → VA (D + 3) 161 [vR 10 (0), vI v1] m (fun x1 m1 => VI (D + 3) 39 [vR 5 (x1), vR 6 (69), vI v1] m1 (fun x2 m2 => ((x2 = (n32 0) → VLU (D + 4) 165 1 [(0, vR 10 (0)), (1, vI (v1 + (n32 1)))] [] m2 Q E) ∧ (¬ x2 = (n32 0) → VLU (D + 4) 165 1 [(0, vR 10 (0)), (1, vI (v1 + (n32 1)))] [] (um m2 (29 + 2) (ix v1) (m2 29 0)) Q E))) E) E) ∧ (¬ (m (29 + 2) (ix v1)) = (-(n32 1)) → VLU (D + 4) 165 1 [(0, vR 10 (0)), (1, vI (v1 + (n32 1)))] [] m Q E)))))) :
    VLU (D + 4) 165 1 [(0, vR 10 (0)), (1, vI v1)] [] m Q E := by
  refine VL_at (al := [(0, vR 10 (0)), (1, vI v1)]) (st := []) km165 k165_1 ?_
  refine And.intro (fun c5 => ?_) (fun c5 => ?_)
  · refine VL_norm km165 k165_6 (VL_at (al := []) (st := []) km165 k165_6 ?_)
    exact (h.1 c5)
  · refine VL_norm km165 k165_2 (VL_at (al := [(0, vR 10 (0)), (1, vI v1)]) (st := []) km165 k165_2 ?_)
    refine And.intro (h.2 c5).1 ?_
    refine And.intro (fun c4 => ?_) (fun c4 => ?_)
    · refine VL_norm km165 k165_3 (VL_at (al := [(0, vR 10 (0)), (1, vI v1)]) (st := []) km165 k165_3 ?_)
      refine V_mono ((h.2 c5).2.1 c4) (fun u1 m1 h1 => ?_) (fun _ _ h => h)
      refine V_mono h1 (fun u2 m2 h2 => ?_) (fun _ _ h => h)
      refine And.intro (fun c3 => ?_) (fun c3 => ?_)
      · refine VL_norm km165 k165_5 (VL_at (al := [(0, vR 10 (0)), (1, vI v1)]) (st := []) km165 k165_5 ?_)
        exact VL_norm km165 k165_1 (h2.1 c3)
      · refine VL_norm km165 k165_4 (VL_at (al := [(0, vR 10 (0)), (1, vI v1)]) (st := []) km165 k165_4 ?_)
        refine And.intro (h.2 c5).1 ?_
        refine VL_norm km165 k165_5 (VL_at (al := [(0, vR 10 (0)), (1, vI v1)]) (st := []) km165 k165_5 ?_)
        exact VL_norm km165 k165_1 (h2.2 c3)
    · refine VL_norm km165 k165_5 (VL_at (al := [(0, vR 10 (0)), (1, vI v1)]) (st := []) km165 k165_5 ?_)
      exact VL_norm km165 k165_1 ((h.2 c5).2.2 c4)
/-- BannerParade.standsWithReadWord, label 0 -/
theorem w166_0 {D : Nat}  {m : XM} {Q : Int32 → XM → Prop} {E : Nat → XM → Prop}
    (h : VLI D 166 1 [(0, vR 10 (0)), (1, vI (n32 0)), (2, vI (n32 0))] [] m Q E) :
    VI D 166 [vR 10 (0)] m Q E := by
  refine V_of (VL_at (al := [(0, vR 10 (0))]) (st := []) km166 k166_0 ?_)
  exact VL_norm km166 k166_1 h
/-- BannerParade.standsWithReadWord, label 1 -/
theorem w166_1 {D : Nat} {v1 : Int32} {v2 : Int32} {m : XM} {Q : Int32 → XM → Prop} {E : Nat → XM → Prop}
    (h : (((m 69 0) ≤ v2 → Q v1 m) ∧ (¬ (m 69 0) ≤ v2 → (xin v2 6 = true ∧ (((m (29 + 2) (ix v2)) = (-(n32 1)) → VLI D 166 1 [(0, vR 10 (0)), (1, vI v1), (2, vI (v2 + (n32 1)))] [] m Q E) ∧ (¬ (m (29 + 2) (ix v2)) = (-(n32 1)) → VLI D 166 1 [(0, vR 10 (0)), (1, vI (v1 ||| ((n32 1) <<< (v2 &&& 31)))), (2, vI (v2 + (n32 1)))] [] m Q E)))))) :
    VLI D 166 1 [(0, vR 10 (0)), (1, vI v1), (2, vI v2)] [] m Q E := by
  refine VL_at (al := [(0, vR 10 (0)), (1, vI v1), (2, vI v2)]) (st := []) km166 k166_1 ?_
  refine And.intro (fun c2 => ?_) (fun c2 => ?_)
  · refine VL_norm km166 k166_5 (VL_at (al := [(1, vI v1)]) (st := []) km166 k166_5 ?_)
    exact (h.1 c2)
  · refine VL_norm km166 k166_2 (VL_at (al := [(0, vR 10 (0)), (1, vI v1), (2, vI v2)]) (st := []) km166 k166_2 ?_)
    refine And.intro (h.2 c2).1 ?_
    refine And.intro (fun c1 => ?_) (fun c1 => ?_)
    · refine VL_norm km166 k166_4 (VL_at (al := [(0, vR 10 (0)), (1, vI v1), (2, vI v2)]) (st := []) km166 k166_4 ?_)
      exact VL_norm km166 k166_1 ((h.2 c2).2.1 c1)
    · refine VL_norm km166 k166_3 (VL_at (al := [(0, vR 10 (0)), (1, vI v1), (2, vI v2)]) (st := []) km166 k166_3 ?_)
      refine VL_norm km166 k166_4 (VL_at (al := [(0, vR 10 (0)), (1, vI (v1 ||| ((n32 1) <<< (v2 &&& 31)))), (2, vI v2)]) (st := []) km166 k166_4 ?_)
      exact VL_norm km166 k166_1 ((h.2 c2).2.2 c1)
/-- BannerParade.standsThatSeeAny, label 0 -/
theorem w167_0 {D : Nat}  {m : XM} {Q : Int32 → XM → Prop} {E : Nat → XM → Prop}
    (h : VLI (D + 3) 167 1 [(0, vR 10 (0)), (1, vI (n32 0)), (2, vI (n32 0))] [] m Q E) :
    VI (D + 3) 167 [vR 10 (0)] m Q E := by
  refine V_of (VL_at (al := [(0, vR 10 (0))]) (st := []) km167 k167_0 ?_)
  exact VL_norm km167 k167_1 h
/-- BannerParade.standsThatSeeAny, label 1 -/
theorem w167_1 {D : Nat} {v1 : Int32} {v2 : Int32} {m : XM} {Q : Int32 → XM → Prop} {E : Nat → XM → Prop}
    (h : (((m 69 0) ≤ v2 → Q v1 m) ∧ (¬ (m 69 0) ≤ v2 → VI (D + 2) 169 [vR 10 (0), vI v2] m (fun x1 m1 => ((x1 = (n32 0) → VLI (D + 3) 167 1 [(0, vR 10 (0)), (1, vI v1), (2, vI (v2 + (n32 1)))] [] m1 Q E) ∧ (¬ x1 = (n32 0) → VLI (D + 3) 167 1 [(0, vR 10 (0)), (1, vI (v1 + (n32 1))), (2, vI (v2 + (n32 1)))] [] m1 Q E))) E))) :
    VLI (D + 3) 167 1 [(0, vR 10 (0)), (1, vI v1), (2, vI v2)] [] m Q E := by
  refine VL_at (al := [(0, vR 10 (0)), (1, vI v1), (2, vI v2)]) (st := []) km167 k167_1 ?_
  refine And.intro (fun c3 => ?_) (fun c3 => ?_)
  · refine VL_norm km167 k167_5 (VL_at (al := [(1, vI v1)]) (st := []) km167 k167_5 ?_)
    exact (h.1 c3)
  · refine VL_norm km167 k167_2 (VL_at (al := [(0, vR 10 (0)), (1, vI v1), (2, vI v2)]) (st := []) km167 k167_2 ?_)
    refine V_mono (h.2 c3) (fun u1 m1 h1 => ?_) (fun _ _ h => h)
    refine And.intro (fun c2 => ?_) (fun c2 => ?_)
    · refine VL_norm km167 k167_4 (VL_at (al := [(0, vR 10 (0)), (1, vI v1), (2, vI v2)]) (st := []) km167 k167_4 ?_)
      exact VL_norm km167 k167_1 (h1.1 c2)
    · refine VL_norm km167 k167_3 (VL_at (al := [(0, vR 10 (0)), (1, vI v1), (2, vI v2)]) (st := []) km167 k167_3 ?_)
      refine VL_norm km167 k167_4 (VL_at (al := [(0, vR 10 (0)), (1, vI (v1 + (n32 1))), (2, vI v2)]) (st := []) km167 k167_4 ?_)
      exact VL_norm km167 k167_1 (h1.2 c2)
/-- BannerParade.standsThatSee, label 0 -/
theorem w168_0 {D : Nat} {v1 : Int32} {m : XM} {Q : Int32 → XM → Prop} {E : Nat → XM → Prop}
    (h : VLI (D + 2) 168 1 [(0, vR 10 (0)), (1, vI v1), (2, vI (n32 0)), (3, vI (n32 0))] [] m Q E) :
    VI (D + 2) 168 [vR 10 (0), vI v1] m Q E := by
  refine V_of (VL_at (al := [(0, vR 10 (0)), (1, vI v1)]) (st := []) km168 k168_0 ?_)
  exact VL_norm km168 k168_1 h
/-- BannerParade.standsThatSee, label 1 -/
theorem w168_1 {D : Nat} {v1 : Int32} {v2 : Int32} {v3 : Int32} {m : XM} {Q : Int32 → XM → Prop} {E : Nat → XM → Prop}
    (h : (((m 69 0) ≤ v3 → Q v2 m) ∧ (¬ (m 69 0) ≤ v3 → (xin v3 6 = true ∧ VI (D + 1) 79 [vR 8 (29), vI v1, vI (m (69 + 2) (ix v3))] m (fun x1 m1 => ((x1 = (n32 0) → VLI (D + 2) 168 1 [(0, vR 10 (0)), (1, vI v1), (2, vI v2), (3, vI (v3 + (n32 1)))] [] m1 Q E) ∧ (¬ x1 = (n32 0) → VLI (D + 2) 168 1 [(0, vR 10 (0)), (1, vI v1), (2, vI (v2 + (n32 1))), (3, vI (v3 + (n32 1)))] [] m1 Q E))) E)))) :
    VLI (D + 2) 168 1 [(0, vR 10 (0)), (1, vI v1), (2, vI v2), (3, vI v3)] [] m Q E := by
  refine VL_at (al := [(0, vR 10 (0)), (1, vI v1), (2, vI v2), (3, vI v3)]) (st := []) km168 k168_1 ?_
  refine And.intro (fun c3 => ?_) (fun c3 => ?_)
  · refine VL_norm km168 k168_5 (VL_at (al := [(2, vI v2)]) (st := []) km168 k168_5 ?_)
    exact (h.1 c3)
  · refine VL_norm km168 k168_2 (VL_at (al := [(0, vR 10 (0)), (1, vI v1), (2, vI v2), (3, vI v3)]) (st := []) km168 k168_2 ?_)
    refine And.intro (h.2 c3).1 ?_
    refine V_mono (h.2 c3).2 (fun u1 m1 h1 => ?_) (fun _ _ h => h)
    refine And.intro (fun c2 => ?_) (fun c2 => ?_)
    · refine VL_norm km168 k168_4 (VL_at (al := [(0, vR 10 (0)), (1, vI v1), (2, vI v2), (3, vI v3)]) (st := []) km168 k168_4 ?_)
      exact VL_norm km168 k168_1 (h1.1 c2)
    · refine VL_norm km168 k168_3 (VL_at (al := [(0, vR 10 (0)), (1, vI v1), (2, vI v2), (3, vI v3)]) (st := []) km168 k168_3 ?_)
      refine VL_norm km168 k168_4 (VL_at (al := [(0, vR 10 (0)), (1, vI v1), (2, vI (v2 + (n32 1))), (3, vI v3)]) (st := []) km168 k168_4 ?_)
      exact VL_norm km168 k168_1 (h1.2 c2)
/-- BannerParade.bearersSeenFrom, label 0 -/
theorem w169_0 {D : Nat} {v1 : Int32} {m : XM} {Q : Int32 → XM → Prop} {E : Nat → XM → Prop}
    (h : VLI (D + 2) 169 1 [(0, vR 10 (0)), (1, vI v1), (2, vI (n32 0)), (3, vI (n32 0))] [] m Q E) :
    VI (D + 2) 169 [vR 10 (0), vI v1] m Q E := by
  refine V_of (VL_at (al := [(0, vR 10 (0)), (1, vI v1)]) (st := []) km169 k169_0 ?_)
  exact VL_norm km169 k169_1 h
/-- BannerParade.bearersSeenFrom, label 1 -/
theorem w169_1 {D : Nat} {v1 : Int32} {v2 : Int32} {v3 : Int32} {m : XM} {Q : Int32 → XM → Prop} {E : Nat → XM → Prop}
    (h : (((m (29 + 3) 0) ≤ v3 → Q v2 m) ∧ (¬ (m (29 + 3) 0) ≤ v3 → (xin v1 6 = true ∧ VI (D + 1) 79 [vR 8 (29), vI v3, vI (m (69 + 2) (ix v1))] m (fun x1 m1 => ((x1 = (n32 0) → VLI (D + 2) 169 1 [(0, vR 10 (0)), (1, vI v1), (2, vI v2), (3, vI (v3 + (n32 1)))] [] m1 Q E) ∧ (¬ x1 = (n32 0) → VLI (D + 2) 169 1 [(0, vR 10 (0)), (1, vI v1), (2, vI (v2 ||| ((n32 1) <<< (v3 &&& 31)))), (3, vI (v3 + (n32 1)))] [] m1 Q E))) E)))) :
    VLI (D + 2) 169 1 [(0, vR 10 (0)), (1, vI v1), (2, vI v2), (3, vI v3)] [] m Q E := by
  refine VL_at (al := [(0, vR 10 (0)), (1, vI v1), (2, vI v2), (3, vI v3)]) (st := []) km169 k169_1 ?_
  refine And.intro (fun c3 => ?_) (fun c3 => ?_)
  · refine VL_norm km169 k169_5 (VL_at (al := [(2, vI v2)]) (st := []) km169 k169_5 ?_)
    exact (h.1 c3)
  · refine VL_norm km169 k169_2 (VL_at (al := [(0, vR 10 (0)), (1, vI v1), (2, vI v2), (3, vI v3)]) (st := []) km169 k169_2 ?_)
    refine And.intro (h.2 c3).1 ?_
    refine V_mono (h.2 c3).2 (fun u1 m1 h1 => ?_) (fun _ _ h => h)
    refine And.intro (fun c2 => ?_) (fun c2 => ?_)
    · refine VL_norm km169 k169_4 (VL_at (al := [(0, vR 10 (0)), (1, vI v1), (2, vI v2), (3, vI v3)]) (st := []) km169 k169_4 ?_)
      exact VL_norm km169 k169_1 (h1.1 c2)
    · refine VL_norm km169 k169_3 (VL_at (al := [(0, vR 10 (0)), (1, vI v1), (2, vI v2), (3, vI v3)]) (st := []) km169 k169_3 ?_)
      refine VL_norm km169 k169_4 (VL_at (al := [(0, vR 10 (0)), (1, vI v1), (2, vI (v2 ||| ((n32 1) <<< (v3 &&& 31)))), (3, vI v3)]) (st := []) km169 k169_4 ?_)
      exact VL_norm km169 k169_1 (h1.2 c2)
/-- BannerParade.copyNumbers, label 0 -/
theorem w172n12_0 {D : Nat} {a0 : Nat} {a1 : Nat} {m : XM} {Q : XM → Prop} {E : Nat → XM → Prop}
    (h : VLU D 172 1 [(0, vR 200012 (a0)), (1, vR 200012 (a1)), (2, vI (n32 0))] [] m Q E) :
    VU D 172 [vR 200012 (a0), vR 200012 (a1)] m Q E := by
  refine V_of (VL_at (al := [(0, vR 200012 (a0)), (1, vR 200012 (a1))]) (st := []) km172 k172_0 ?_)
  exact VL_norm km172 k172_1 h
/-- BannerParade.copyNumbers, label 1 -/
theorem w172n12_1 {D : Nat} {a0 : Nat} {a1 : Nat} {v2 : Int32} {m : XM} {Q : XM → Prop} {E : Nat → XM → Prop}
    (h : (((n32 12) ≤ v2 → Q m) ∧ (¬ (n32 12) ≤ v2 → (xin v2 12 = true ∧ VLU D 172 1 [(0, vR 200012 (a0)), (1, vR 200012 (a1)), (2, vI (v2 + (n32 1)))] [] (um m (a1) (ix v2) (m a0 (ix v2))) Q E)))) :
    VLU D 172 1 [(0, vR 200012 (a0)), (1, vR 200012 (a1)), (2, vI v2)] [] m Q E := by
  refine VL_at (al := [(0, vR 200012 (a0)), (1, vR 200012 (a1)), (2, vI v2)]) (st := []) km172 k172_1 ?_
  refine And.intro (fun c1 => ?_) (fun c1 => ?_)
  · refine VL_norm km172 k172_4 (VL_at (al := []) (st := []) km172 k172_4 ?_)
    exact (h.1 c1)
  · refine VL_norm km172 k172_2 (VL_at (al := [(0, vR 200012 (a0)), (1, vR 200012 (a1)), (2, vI v2)]) (st := []) km172 k172_2 ?_)
    refine And.intro (fun c => absurd c c1) (fun _ => ?_)
    refine VL_norm km172 k172_3 (VL_at (al := [(0, vR 200012 (a0)), (1, vR 200012 (a1)), (2, vI v2)]) (st := []) km172 k172_3 ?_)
    refine And.intro (h.2 c1).1 ?_
    refine And.intro (h.2 c1).1 ?_
    exact VL_norm km172 k172_1 (h.2 c1).2
/-- BannerParade.copyNumbers, label 0 -/
theorem w172n6_0 {D : Nat} {a0 : Nat} {a1 : Nat} {m : XM} {Q : XM → Prop} {E : Nat → XM → Prop}
    (h : VLU D 172 1 [(0, vR 200006 (a0)), (1, vR 200006 (a1)), (2, vI (n32 0))] [] m Q E) :
    VU D 172 [vR 200006 (a0), vR 200006 (a1)] m Q E := by
  refine V_of (VL_at (al := [(0, vR 200006 (a0)), (1, vR 200006 (a1))]) (st := []) km172 k172_0 ?_)
  exact VL_norm km172 k172_1 h
/-- BannerParade.copyNumbers, label 1 -/
theorem w172n6_1 {D : Nat} {a0 : Nat} {a1 : Nat} {v2 : Int32} {m : XM} {Q : XM → Prop} {E : Nat → XM → Prop}
    (h : (((n32 6) ≤ v2 → Q m) ∧ (¬ (n32 6) ≤ v2 → (xin v2 6 = true ∧ VLU D 172 1 [(0, vR 200006 (a0)), (1, vR 200006 (a1)), (2, vI (v2 + (n32 1)))] [] (um m (a1) (ix v2) (m a0 (ix v2))) Q E)))) :
    VLU D 172 1 [(0, vR 200006 (a0)), (1, vR 200006 (a1)), (2, vI v2)] [] m Q E := by
  refine VL_at (al := [(0, vR 200006 (a0)), (1, vR 200006 (a1)), (2, vI v2)]) (st := []) km172 k172_1 ?_
  refine And.intro (fun c1 => ?_) (fun c1 => ?_)
  · refine VL_norm km172 k172_4 (VL_at (al := []) (st := []) km172 k172_4 ?_)
    exact (h.1 c1)
  · refine VL_norm km172 k172_2 (VL_at (al := [(0, vR 200006 (a0)), (1, vR 200006 (a1)), (2, vI v2)]) (st := []) km172 k172_2 ?_)
    refine And.intro (fun c => absurd c c1) (fun _ => ?_)
    refine VL_norm km172 k172_3 (VL_at (al := [(0, vR 200006 (a0)), (1, vR 200006 (a1)), (2, vI v2)]) (st := []) km172 k172_3 ?_)
    refine And.intro (h.2 c1).1 ?_
    refine And.intro (h.2 c1).1 ?_
    exact VL_norm km172 k172_1 (h.2 c1).2
/-- BannerParade.copyNumbers, label 0 -/
theorem w172n48_0 {D : Nat} {a0 : Nat} {a1 : Nat} {m : XM} {Q : XM → Prop} {E : Nat → XM → Prop}
    (h : VLU D 172 1 [(0, vR 200048 (a0)), (1, vR 200048 (a1)), (2, vI (n32 0))] [] m Q E) :
    VU D 172 [vR 200048 (a0), vR 200048 (a1)] m Q E := by
  refine V_of (VL_at (al := [(0, vR 200048 (a0)), (1, vR 200048 (a1))]) (st := []) km172 k172_0 ?_)
  exact VL_norm km172 k172_1 h
/-- BannerParade.copyNumbers, label 1 -/
theorem w172n48_1 {D : Nat} {a0 : Nat} {a1 : Nat} {v2 : Int32} {m : XM} {Q : XM → Prop} {E : Nat → XM → Prop}
    (h : (((n32 48) ≤ v2 → Q m) ∧ (¬ (n32 48) ≤ v2 → (xin v2 48 = true ∧ VLU D 172 1 [(0, vR 200048 (a0)), (1, vR 200048 (a1)), (2, vI (v2 + (n32 1)))] [] (um m (a1) (ix v2) (m a0 (ix v2))) Q E)))) :
    VLU D 172 1 [(0, vR 200048 (a0)), (1, vR 200048 (a1)), (2, vI v2)] [] m Q E := by
  refine VL_at (al := [(0, vR 200048 (a0)), (1, vR 200048 (a1)), (2, vI v2)]) (st := []) km172 k172_1 ?_
  refine And.intro (fun c1 => ?_) (fun c1 => ?_)
  · refine VL_norm km172 k172_4 (VL_at (al := []) (st := []) km172 k172_4 ?_)
    exact (h.1 c1)
  · refine VL_norm km172 k172_2 (VL_at (al := [(0, vR 200048 (a0)), (1, vR 200048 (a1)), (2, vI v2)]) (st := []) km172 k172_2 ?_)
    refine And.intro (fun c => absurd c c1) (fun _ => ?_)
    refine VL_norm km172 k172_3 (VL_at (al := [(0, vR 200048 (a0)), (1, vR 200048 (a1)), (2, vI v2)]) (st := []) km172 k172_3 ?_)
    refine And.intro (h.2 c1).1 ?_
    refine And.intro (h.2 c1).1 ?_
    exact VL_norm km172 k172_1 (h.2 c1).2
end
section
/-! Verification conditions (written by program: wip/whole/mkw.py). -/
/-- Math.abs, label 0 -/
theorem w384_0 {D : Nat} {v0 : Int32} {m : XM} {Q : Int32 → XM → Prop} {E : Nat → XM → Prop}
    (h : (((n32 0) ≤ v0 → Q v0 m) ∧ (¬ (n32 0) ≤ v0 → Q ((-v0)) m))) :
    VI D 384 [vI v0] m Q E := by
  refine V_of (VL_at (al := [(0, vI v0)]) (st := []) km384 k384_0 ?_)
  refine And.intro (fun c1 => ?_) (fun c1 => ?_)
  · refine VL_norm km384 k384_2 (VL_at (al := [(0, vI v0)]) (st := []) km384 k384_2 ?_)
    refine VL_norm km384 k384_3 (VL_at (al := []) (st := [vI v0]) km384 k384_3 ?_)
    exact (h.1 c1)
  · refine VL_norm km384 k384_1 (VL_at (al := [(0, vI v0)]) (st := []) km384 k384_1 ?_)
    refine VL_norm km384 k384_3 (VL_at (al := []) (st := [vI ((-v0))]) km384 k384_3 ?_)
    exact (h.2 c1)
/-- Math.max, label 0 -/
theorem w385_0 {D : Nat} {v0 : Int32} {v1 : Int32} {m : XM} {Q : Int32 → XM → Prop} {E : Nat → XM → Prop}
    (h : ((v0 < v1 → Q v1 m) ∧ (¬ v0 < v1 → Q v0 m))) :
    VI D 385 [vI v0, vI v1] m Q E := by
  refine V_of (VL_at (al := [(0, vI v0), (1, vI v1)]) (st := []) km385 k385_0 ?_)
  refine And.intro (fun c1 => ?_) (fun c1 => ?_)
  · refine VL_norm km385 k385_2 (VL_at (al := [(1, vI v1)]) (st := []) km385 k385_2 ?_)
    refine VL_norm km385 k385_3 (VL_at (al := []) (st := [vI v1]) km385 k385_3 ?_)
    exact (h.1 c1)
  · refine VL_norm km385 k385_1 (VL_at (al := [(0, vI v0)]) (st := []) km385 k385_1 ?_)
    refine VL_norm km385 k385_3 (VL_at (al := []) (st := [vI v0]) km385 k385_3 ?_)
    exact (h.2 c1)
/-- Math.min, label 0 -/
theorem w386_0 {D : Nat} {v0 : Int32} {v1 : Int32} {m : XM} {Q : Int32 → XM → Prop} {E : Nat → XM → Prop}
    (h : ((v1 < v0 → Q v1 m) ∧ (¬ v1 < v0 → Q v0 m))) :
    VI D 386 [vI v0, vI v1] m Q E := by
  refine V_of (VL_at (al := [(0, vI v0), (1, vI v1)]) (st := []) km386 k386_0 ?_)
  refine And.intro (fun c1 => ?_) (fun c1 => ?_)
  · refine VL_norm km386 k386_2 (VL_at (al := [(1, vI v1)]) (st := []) km386 k386_2 ?_)
    refine VL_norm km386 k386_3 (VL_at (al := []) (st := [vI v1]) km386 k386_3 ?_)
    exact (h.1 c1)
  · refine VL_norm km386 k386_1 (VL_at (al := [(0, vI v0)]) (st := []) km386 k386_1 ?_)
    refine VL_norm km386 k386_3 (VL_at (al := []) (st := [vI v0]) km386 k386_3 ?_)
    exact (h.2 c1)
/-- String.length, label 0 -/
theorem w391s1_0 {D : Nat}  {m : XM} {Q : Int32 → XM → Prop} {E : Nat → XM → Prop}
    (h : Q ((n32 6) >>> (0 &&& 31)) m) :
    VI (D + 1) 391 [vR 30 (1000011)] m Q E := by
  refine V_of (VL_at (al := [(0, vR 30 (1000011))]) (st := []) km391 k391_0 ?_)
  refine V_of ?_
  refine VL_norm km393 k393_0 (VL_at (al := [(0, vR 30 (1000011))]) (st := []) km393 k393_0 ?_)
  refine And.intro (fun c => absurd c (by decide)) (fun _ => ?_)
  refine VL_norm km393 k393_1 (VL_at (al := [(0, vR 30 (1000011))]) (st := []) km393 k393_1 ?_)
  refine VL_norm km393 k393_3 (VL_at (al := []) (st := [vI 0]) km393 k393_3 ?_)
  refine And.intro rfl ?_
  exact h
/-- String.charAt, label 0 -/
theorem w392s1_0 {D : Nat} {v1 : Int32} {m : XM} {Q : Int32 → XM → Prop} {E : Nat → XM → Prop}
    (h : ((v1 < (n32 0) → False) ∧ (¬ v1 < (n32 0) → ((v1 < (n32 6) → (xin v1 6 = true ∧ (xrt 4 (((((([112, 97, 114, 97, 100, 101] : List Int32).getD (ix v1) 0) &&& (n32 255))).toUInt32 % 65536).toInt32) = true ∧ (xrt 4 (((((([112, 97, 114, 97, 100, 101] : List Int32).getD (ix v1) 0) &&& (n32 255))).toUInt32 % 65536).toInt32) = true ∧ Q (((((([112, 97, 114, 97, 100, 101] : List Int32).getD (ix v1) 0) &&& (n32 255))).toUInt32 % 65536).toInt32) m)))) ∧ (¬ v1 < (n32 6) → False))))) :
    VI (D + 3) 392 [vR 30 (1000011), vI v1] m Q E := by
  refine V_of (VL_at (al := [(0, vR 30 (1000011)), (1, vI v1)]) (st := []) km392 k392_0 ?_)
  refine V_of ?_
  refine VL_norm km394 k394_0 (VL_at (al := [(0, vR 30 (1000011))]) (st := []) km394 k394_0 ?_)
  refine And.intro (fun c => absurd c (by decide)) (fun _ => ?_)
  refine VL_norm km394 k394_1 (VL_at (al := [(0, vR 30 (1000011))]) (st := []) km394 k394_1 ?_)
  refine And.intro (fun _ => ?_) (fun c => absurd (by decide) c)
  refine VL_norm km394 k394_2 (VL_at (al := []) (st := []) km394 k394_2 ?_)
  refine VL_norm km394 k394_4 (VL_at (al := []) (st := [vI (n32 1)]) km394 k394_4 ?_)
  refine And.intro xrt21 ?_
  refine And.intro (fun c => absurd c (by decide)) (fun _ => ?_)
  refine VL_norm km392 k392_1 (VL_at (al := [(0, vR 30 (1000011)), (1, vI v1)]) (st := []) km392 k392_1 ?_)
  refine V_of ?_
  refine VL_norm km396 k396_0 (VL_at (al := [(0, vR 31 (1000011 + 30)), (1, vI v1)]) (st := []) km396 k396_0 ?_)
  refine V_of ?_
  refine VL_norm km395 k395_0 (VL_at (al := [(0, vI v1), (1, vI (n32 6))]) (st := []) km395 k395_0 ?_)
  refine V_of ?_
  refine VL_norm km397 k397_0 (VL_at (al := [(0, vI v1), (1, vI (n32 6)), (2, Sum.inl (Value.retAddr 0))]) (st := []) km397 k397_0 ?_)
  refine And.intro (fun c2 => ?_) (fun c2 => ?_)
  · refine VL_norm km397 k397_2 (VL_at (al := [(0, vI v1), (1, vI (n32 6)), (2, Sum.inl (Value.retAddr 0))]) (st := []) km397 k397_2 ?_)
    exact False.elim (h.1 c2)
  · refine VL_norm km397 k397_1 (VL_at (al := [(0, vI v1), (1, vI (n32 6)), (2, Sum.inl (Value.retAddr 0))]) (st := []) km397 k397_1 ?_)
    refine And.intro (fun c1 => ?_) (fun c1 => ?_)
    · refine VL_norm km397 k397_3 (VL_at (al := [(0, vI v1)]) (st := []) km397 k397_3 ?_)
      refine And.intro ((h.2 c2).1 c1).1 ?_
      refine And.intro ((h.2 c2).1 c1).2.1 ?_
      refine And.intro ((h.2 c2).1 c1).2.2.1 ?_
      exact ((h.2 c2).1 c1).2.2.2
    · refine VL_norm km397 k397_2 (VL_at (al := [(0, vI v1), (1, vI (n32 6)), (2, Sum.inl (Value.retAddr 0))]) (st := []) km397 k397_2 ?_)
      exact False.elim ((h.2 c2).2 c1)
/-- String.length, label 0 -/
theorem w391s2_0 {D : Nat}  {m : XM} {Q : Int32 → XM → Prop} {E : Nat → XM → Prop}
    (h : Q ((n32 6) >>> (0 &&& 31)) m) :
    VI (D + 1) 391 [vR 30 (1000012)] m Q E := by
  refine V_of (VL_at (al := [(0, vR 30 (1000012))]) (st := []) km391 k391_0 ?_)
  refine V_of ?_
  refine VL_norm km393 k393_0 (VL_at (al := [(0, vR 30 (1000012))]) (st := []) km393 k393_0 ?_)
  refine And.intro (fun c => absurd c (by decide)) (fun _ => ?_)
  refine VL_norm km393 k393_1 (VL_at (al := [(0, vR 30 (1000012))]) (st := []) km393 k393_1 ?_)
  refine VL_norm km393 k393_3 (VL_at (al := []) (st := [vI 0]) km393 k393_3 ?_)
  refine And.intro rfl ?_
  exact h
/-- String.charAt, label 0 -/
theorem w392s2_0 {D : Nat} {v1 : Int32} {m : XM} {Q : Int32 → XM → Prop} {E : Nat → XM → Prop}
    (h : ((v1 < (n32 0) → False) ∧ (¬ v1 < (n32 0) → ((v1 < (n32 6) → (xin v1 6 = true ∧ (xrt 4 (((((([98, 101, 97, 114, 101, 114] : List Int32).getD (ix v1) 0) &&& (n32 255))).toUInt32 % 65536).toInt32) = true ∧ (xrt 4 (((((([98, 101, 97, 114, 101, 114] : List Int32).getD (ix v1) 0) &&& (n32 255))).toUInt32 % 65536).toInt32) = true ∧ Q (((((([98, 101, 97, 114, 101, 114] : List Int32).getD (ix v1) 0) &&& (n32 255))).toUInt32 % 65536).toInt32) m)))) ∧ (¬ v1 < (n32 6) → False))))) :
    VI (D + 3) 392 [vR 30 (1000012), vI v1] m Q E := by
  refine V_of (VL_at (al := [(0, vR 30 (1000012)), (1, vI v1)]) (st := []) km392 k392_0 ?_)
  refine V_of ?_
  refine VL_norm km394 k394_0 (VL_at (al := [(0, vR 30 (1000012))]) (st := []) km394 k394_0 ?_)
  refine And.intro (fun c => absurd c (by decide)) (fun _ => ?_)
  refine VL_norm km394 k394_1 (VL_at (al := [(0, vR 30 (1000012))]) (st := []) km394 k394_1 ?_)
  refine And.intro (fun _ => ?_) (fun c => absurd (by decide) c)
  refine VL_norm km394 k394_2 (VL_at (al := []) (st := []) km394 k394_2 ?_)
  refine VL_norm km394 k394_4 (VL_at (al := []) (st := [vI (n32 1)]) km394 k394_4 ?_)
  refine And.intro xrt21 ?_
  refine And.intro (fun c => absurd c (by decide)) (fun _ => ?_)
  refine VL_norm km392 k392_1 (VL_at (al := [(0, vR 30 (1000012)), (1, vI v1)]) (st := []) km392 k392_1 ?_)
  refine V_of ?_
  refine VL_norm km396 k396_0 (VL_at (al := [(0, vR 31 (1000012 + 30)), (1, vI v1)]) (st := []) km396 k396_0 ?_)
  refine V_of ?_
  refine VL_norm km395 k395_0 (VL_at (al := [(0, vI v1), (1, vI (n32 6))]) (st := []) km395 k395_0 ?_)
  refine V_of ?_
  refine VL_norm km397 k397_0 (VL_at (al := [(0, vI v1), (1, vI (n32 6)), (2, Sum.inl (Value.retAddr 0))]) (st := []) km397 k397_0 ?_)
  refine And.intro (fun c2 => ?_) (fun c2 => ?_)
  · refine VL_norm km397 k397_2 (VL_at (al := [(0, vI v1), (1, vI (n32 6)), (2, Sum.inl (Value.retAddr 0))]) (st := []) km397 k397_2 ?_)
    exact False.elim (h.1 c2)
  · refine VL_norm km397 k397_1 (VL_at (al := [(0, vI v1), (1, vI (n32 6)), (2, Sum.inl (Value.retAddr 0))]) (st := []) km397 k397_1 ?_)
    refine And.intro (fun c1 => ?_) (fun c1 => ?_)
    · refine VL_norm km397 k397_3 (VL_at (al := [(0, vI v1)]) (st := []) km397 k397_3 ?_)
      refine And.intro ((h.2 c2).1 c1).1 ?_
      refine And.intro ((h.2 c2).1 c1).2.1 ?_
      refine And.intro ((h.2 c2).1 c1).2.2.1 ?_
      exact ((h.2 c2).1 c1).2.2.2
    · refine VL_norm km397 k397_2 (VL_at (al := [(0, vI v1), (1, vI (n32 6)), (2, Sum.inl (Value.retAddr 0))]) (st := []) km397 k397_2 ?_)
      exact False.elim ((h.2 c2).2 c1)
/-- String.length, label 0 -/
theorem w391s3_0 {D : Nat}  {m : XM} {Q : Int32 → XM → Prop} {E : Nat → XM → Prop}
    (h : Q ((n32 5) >>> (0 &&& 31)) m) :
    VI (D + 1) 391 [vR 30 (1000013)] m Q E := by
  refine V_of (VL_at (al := [(0, vR 30 (1000013))]) (st := []) km391 k391_0 ?_)
  refine V_of ?_
  refine VL_norm km393 k393_0 (VL_at (al := [(0, vR 30 (1000013))]) (st := []) km393 k393_0 ?_)
  refine And.intro (fun c => absurd c (by decide)) (fun _ => ?_)
  refine VL_norm km393 k393_1 (VL_at (al := [(0, vR 30 (1000013))]) (st := []) km393 k393_1 ?_)
  refine VL_norm km393 k393_3 (VL_at (al := []) (st := [vI 0]) km393 k393_3 ?_)
  refine And.intro rfl ?_
  exact h
/-- String.charAt, label 0 -/
theorem w392s3_0 {D : Nat} {v1 : Int32} {m : XM} {Q : Int32 → XM → Prop} {E : Nat → XM → Prop}
    (h : ((v1 < (n32 0) → False) ∧ (¬ v1 < (n32 0) → ((v1 < (n32 5) → (xin v1 5 = true ∧ (xrt 4 (((((([115, 116, 97, 110, 100] : List Int32).getD (ix v1) 0) &&& (n32 255))).toUInt32 % 65536).toInt32) = true ∧ (xrt 4 (((((([115, 116, 97, 110, 100] : List Int32).getD (ix v1) 0) &&& (n32 255))).toUInt32 % 65536).toInt32) = true ∧ Q (((((([115, 116, 97, 110, 100] : List Int32).getD (ix v1) 0) &&& (n32 255))).toUInt32 % 65536).toInt32) m)))) ∧ (¬ v1 < (n32 5) → False))))) :
    VI (D + 3) 392 [vR 30 (1000013), vI v1] m Q E := by
  refine V_of (VL_at (al := [(0, vR 30 (1000013)), (1, vI v1)]) (st := []) km392 k392_0 ?_)
  refine V_of ?_
  refine VL_norm km394 k394_0 (VL_at (al := [(0, vR 30 (1000013))]) (st := []) km394 k394_0 ?_)
  refine And.intro (fun c => absurd c (by decide)) (fun _ => ?_)
  refine VL_norm km394 k394_1 (VL_at (al := [(0, vR 30 (1000013))]) (st := []) km394 k394_1 ?_)
  refine And.intro (fun _ => ?_) (fun c => absurd (by decide) c)
  refine VL_norm km394 k394_2 (VL_at (al := []) (st := []) km394 k394_2 ?_)
  refine VL_norm km394 k394_4 (VL_at (al := []) (st := [vI (n32 1)]) km394 k394_4 ?_)
  refine And.intro xrt21 ?_
  refine And.intro (fun c => absurd c (by decide)) (fun _ => ?_)
  refine VL_norm km392 k392_1 (VL_at (al := [(0, vR 30 (1000013)), (1, vI v1)]) (st := []) km392 k392_1 ?_)
  refine V_of ?_
  refine VL_norm km396 k396_0 (VL_at (al := [(0, vR 31 (1000013 + 30)), (1, vI v1)]) (st := []) km396 k396_0 ?_)
  refine V_of ?_
  refine VL_norm km395 k395_0 (VL_at (al := [(0, vI v1), (1, vI (n32 5))]) (st := []) km395 k395_0 ?_)
  refine V_of ?_
  refine VL_norm km397 k397_0 (VL_at (al := [(0, vI v1), (1, vI (n32 5)), (2, Sum.inl (Value.retAddr 0))]) (st := []) km397 k397_0 ?_)
  refine And.intro (fun c2 => ?_) (fun c2 => ?_)
  · refine VL_norm km397 k397_2 (VL_at (al := [(0, vI v1), (1, vI (n32 5)), (2, Sum.inl (Value.retAddr 0))]) (st := []) km397 k397_2 ?_)
    exact False.elim (h.1 c2)
  · refine VL_norm km397 k397_1 (VL_at (al := [(0, vI v1), (1, vI (n32 5)), (2, Sum.inl (Value.retAddr 0))]) (st := []) km397 k397_1 ?_)
    refine And.intro (fun c1 => ?_) (fun c1 => ?_)
    · refine VL_norm km397 k397_3 (VL_at (al := [(0, vI v1)]) (st := []) km397 k397_3 ?_)
      refine And.intro ((h.2 c2).1 c1).1 ?_
      refine And.intro ((h.2 c2).1 c1).2.1 ?_
      refine And.intro ((h.2 c2).1 c1).2.2.1 ?_
      exact ((h.2 c2).1 c1).2.2.2
    · refine VL_norm km397 k397_2 (VL_at (al := [(0, vI v1), (1, vI (n32 5)), (2, Sum.inl (Value.retAddr 0))]) (st := []) km397 k397_2 ?_)
      exact False.elim ((h.2 c2).2 c1)
/-- String.length, label 0 -/
theorem w391s4_0 {D : Nat}  {m : XM} {Q : Int32 → XM → Prop} {E : Nat → XM → Prop}
    (h : Q ((n32 5) >>> (0 &&& 31)) m) :
    VI (D + 1) 391 [vR 30 (1000014)] m Q E := by
  refine V_of (VL_at (al := [(0, vR 30 (1000014))]) (st := []) km391 k391_0 ?_)
  refine V_of ?_
  refine VL_norm km393 k393_0 (VL_at (al := [(0, vR 30 (1000014))]) (st := []) km393 k393_0 ?_)
  refine And.intro (fun c => absurd c (by decide)) (fun _ => ?_)
  refine VL_norm km393 k393_1 (VL_at (al := [(0, vR 30 (1000014))]) (st := []) km393 k393_1 ?_)
  refine VL_norm km393 k393_3 (VL_at (al := []) (st := [vI 0]) km393 k393_3 ?_)
  refine And.intro rfl ?_
  exact h
/-- String.charAt, label 0 -/
theorem w392s4_0 {D : Nat} {v1 : Int32} {m : XM} {Q : Int32 → XM → Prop} {E : Nat → XM → Prop}
    (h : ((v1 < (n32 0) → False) ∧ (¬ v1 < (n32 0) → ((v1 < (n32 5) → (xin v1 5 = true ∧ (xrt 4 (((((([114, 105, 103, 104, 116] : List Int32).getD (ix v1) 0) &&& (n32 255))).toUInt32 % 65536).toInt32) = true ∧ (xrt 4 (((((([114, 105, 103, 104, 116] : List Int32).getD (ix v1) 0) &&& (n32 255))).toUInt32 % 65536).toInt32) = true ∧ Q (((((([114, 105, 103, 104, 116] : List Int32).getD (ix v1) 0) &&& (n32 255))).toUInt32 % 65536).toInt32) m)))) ∧ (¬ v1 < (n32 5) → False))))) :
    VI (D + 3) 392 [vR 30 (1000014), vI v1] m Q E := by
  refine V_of (VL_at (al := [(0, vR 30 (1000014)), (1, vI v1)]) (st := []) km392 k392_0 ?_)
  refine V_of ?_
  refine VL_norm km394 k394_0 (VL_at (al := [(0, vR 30 (1000014))]) (st := []) km394 k394_0 ?_)
  refine And.intro (fun c => absurd c (by decide)) (fun _ => ?_)
  refine VL_norm km394 k394_1 (VL_at (al := [(0, vR 30 (1000014))]) (st := []) km394 k394_1 ?_)
  refine And.intro (fun _ => ?_) (fun c => absurd (by decide) c)
  refine VL_norm km394 k394_2 (VL_at (al := []) (st := []) km394 k394_2 ?_)
  refine VL_norm km394 k394_4 (VL_at (al := []) (st := [vI (n32 1)]) km394 k394_4 ?_)
  refine And.intro xrt21 ?_
  refine And.intro (fun c => absurd c (by decide)) (fun _ => ?_)
  refine VL_norm km392 k392_1 (VL_at (al := [(0, vR 30 (1000014)), (1, vI v1)]) (st := []) km392 k392_1 ?_)
  refine V_of ?_
  refine VL_norm km396 k396_0 (VL_at (al := [(0, vR 31 (1000014 + 30)), (1, vI v1)]) (st := []) km396 k396_0 ?_)
  refine V_of ?_
  refine VL_norm km395 k395_0 (VL_at (al := [(0, vI v1), (1, vI (n32 5))]) (st := []) km395 k395_0 ?_)
  refine V_of ?_
  refine VL_norm km397 k397_0 (VL_at (al := [(0, vI v1), (1, vI (n32 5)), (2, Sum.inl (Value.retAddr 0))]) (st := []) km397 k397_0 ?_)
  refine And.intro (fun c2 => ?_) (fun c2 => ?_)
  · refine VL_norm km397 k397_2 (VL_at (al := [(0, vI v1), (1, vI (n32 5)), (2, Sum.inl (Value.retAddr 0))]) (st := []) km397 k397_2 ?_)
    exact False.elim (h.1 c2)
  · refine VL_norm km397 k397_1 (VL_at (al := [(0, vI v1), (1, vI (n32 5)), (2, Sum.inl (Value.retAddr 0))]) (st := []) km397 k397_1 ?_)
    refine And.intro (fun c1 => ?_) (fun c1 => ?_)
    · refine VL_norm km397 k397_3 (VL_at (al := [(0, vI v1)]) (st := []) km397 k397_3 ?_)
      refine And.intro ((h.2 c2).1 c1).1 ?_
      refine And.intro ((h.2 c2).1 c1).2.1 ?_
      refine And.intro ((h.2 c2).1 c1).2.2.1 ?_
      exact ((h.2 c2).1 c1).2.2.2
    · refine VL_norm km397 k397_2 (VL_at (al := [(0, vI v1), (1, vI (n32 5)), (2, Sum.inl (Value.retAddr 0))]) (st := []) km397 k397_2 ?_)
      exact False.elim ((h.2 c2).2 c1)
/-- String.length, label 0 -/
theorem w391s5_0 {D : Nat}  {m : XM} {Q : Int32 → XM → Prop} {E : Nat → XM → Prop}
    (h : Q ((n32 4) >>> (0 &&& 31)) m) :
    VI (D + 1) 391 [vR 30 (1000015)] m Q E := by
  refine V_of (VL_at (al := [(0, vR 30 (1000015))]) (st := []) km391 k391_0 ?_)
  refine V_of ?_
  refine VL_norm km393 k393_0 (VL_at (al := [(0, vR 30 (1000015))]) (st := []) km393 k393_0 ?_)
  refine And.intro (fun c => absurd c (by decide)) (fun _ => ?_)
  refine VL_norm km393 k393_1 (VL_at (al := [(0, vR 30 (1000015))]) (st := []) km393 k393_1 ?_)
  refine VL_norm km393 k393_3 (VL_at (al := []) (st := [vI 0]) km393 k393_3 ?_)
  refine And.intro rfl ?_
  exact h
/-- String.charAt, label 0 -/
theorem w392s5_0 {D : Nat} {v1 : Int32} {m : XM} {Q : Int32 → XM → Prop} {E : Nat → XM → Prop}
    (h : ((v1 < (n32 0) → False) ∧ (¬ v1 < (n32 0) → ((v1 < (n32 4) → (xin v1 4 = true ∧ (xrt 4 (((((([108, 101, 102, 116] : List Int32).getD (ix v1) 0) &&& (n32 255))).toUInt32 % 65536).toInt32) = true ∧ (xrt 4 (((((([108, 101, 102, 116] : List Int32).getD (ix v1) 0) &&& (n32 255))).toUInt32 % 65536).toInt32) = true ∧ Q (((((([108, 101, 102, 116] : List Int32).getD (ix v1) 0) &&& (n32 255))).toUInt32 % 65536).toInt32) m)))) ∧ (¬ v1 < (n32 4) → False))))) :
    VI (D + 3) 392 [vR 30 (1000015), vI v1] m Q E := by
  refine V_of (VL_at (al := [(0, vR 30 (1000015)), (1, vI v1)]) (st := []) km392 k392_0 ?_)
  refine V_of ?_
  refine VL_norm km394 k394_0 (VL_at (al := [(0, vR 30 (1000015))]) (st := []) km394 k394_0 ?_)
  refine And.intro (fun c => absurd c (by decide)) (fun _ => ?_)
  refine VL_norm km394 k394_1 (VL_at (al := [(0, vR 30 (1000015))]) (st := []) km394 k394_1 ?_)
  refine And.intro (fun _ => ?_) (fun c => absurd (by decide) c)
  refine VL_norm km394 k394_2 (VL_at (al := []) (st := []) km394 k394_2 ?_)
  refine VL_norm km394 k394_4 (VL_at (al := []) (st := [vI (n32 1)]) km394 k394_4 ?_)
  refine And.intro xrt21 ?_
  refine And.intro (fun c => absurd c (by decide)) (fun _ => ?_)
  refine VL_norm km392 k392_1 (VL_at (al := [(0, vR 30 (1000015)), (1, vI v1)]) (st := []) km392 k392_1 ?_)
  refine V_of ?_
  refine VL_norm km396 k396_0 (VL_at (al := [(0, vR 31 (1000015 + 30)), (1, vI v1)]) (st := []) km396 k396_0 ?_)
  refine V_of ?_
  refine VL_norm km395 k395_0 (VL_at (al := [(0, vI v1), (1, vI (n32 4))]) (st := []) km395 k395_0 ?_)
  refine V_of ?_
  refine VL_norm km397 k397_0 (VL_at (al := [(0, vI v1), (1, vI (n32 4)), (2, Sum.inl (Value.retAddr 0))]) (st := []) km397 k397_0 ?_)
  refine And.intro (fun c2 => ?_) (fun c2 => ?_)
  · refine VL_norm km397 k397_2 (VL_at (al := [(0, vI v1), (1, vI (n32 4)), (2, Sum.inl (Value.retAddr 0))]) (st := []) km397 k397_2 ?_)
    exact False.elim (h.1 c2)
  · refine VL_norm km397 k397_1 (VL_at (al := [(0, vI v1), (1, vI (n32 4)), (2, Sum.inl (Value.retAddr 0))]) (st := []) km397 k397_1 ?_)
    refine And.intro (fun c1 => ?_) (fun c1 => ?_)
    · refine VL_norm km397 k397_3 (VL_at (al := [(0, vI v1)]) (st := []) km397 k397_3 ?_)
      refine And.intro ((h.2 c2).1 c1).1 ?_
      refine And.intro ((h.2 c2).1 c1).2.1 ?_
      refine And.intro ((h.2 c2).1 c1).2.2.1 ?_
      exact ((h.2 c2).1 c1).2.2.2
    · refine VL_norm km397 k397_2 (VL_at (al := [(0, vI v1), (1, vI (n32 4)), (2, Sum.inl (Value.retAddr 0))]) (st := []) km397 k397_2 ?_)
      exact False.elim ((h.2 c2).2 c1)
/-- String.length, label 0 -/
theorem w391s6_0 {D : Nat}  {m : XM} {Q : Int32 → XM → Prop} {E : Nat → XM → Prop}
    (h : Q ((n32 4) >>> (0 &&& 31)) m) :
    VI (D + 1) 391 [vR 30 (1000016)] m Q E := by
  refine V_of (VL_at (al := [(0, vR 30 (1000016))]) (st := []) km391 k391_0 ?_)
  refine V_of ?_
  refine VL_norm km393 k393_0 (VL_at (al := [(0, vR 30 (1000016))]) (st := []) km393 k393_0 ?_)
  refine And.intro (fun c => absurd c (by decide)) (fun _ => ?_)
  refine VL_norm km393 k393_1 (VL_at (al := [(0, vR 30 (1000016))]) (st := []) km393 k393_1 ?_)
  refine VL_norm km393 k393_3 (VL_at (al := []) (st := [vI 0]) km393 k393_3 ?_)
  refine And.intro rfl ?_
  exact h
/-- String.charAt, label 0 -/
theorem w392s6_0 {D : Nat} {v1 : Int32} {m : XM} {Q : Int32 → XM → Prop} {E : Nat → XM → Prop}
    (h : ((v1 < (n32 0) → False) ∧ (¬ v1 < (n32 0) → ((v1 < (n32 4) → (xin v1 4 = true ∧ (xrt 4 (((((([112, 108, 97, 110] : List Int32).getD (ix v1) 0) &&& (n32 255))).toUInt32 % 65536).toInt32) = true ∧ (xrt 4 (((((([112, 108, 97, 110] : List Int32).getD (ix v1) 0) &&& (n32 255))).toUInt32 % 65536).toInt32) = true ∧ Q (((((([112, 108, 97, 110] : List Int32).getD (ix v1) 0) &&& (n32 255))).toUInt32 % 65536).toInt32) m)))) ∧ (¬ v1 < (n32 4) → False))))) :
    VI (D + 3) 392 [vR 30 (1000016), vI v1] m Q E := by
  refine V_of (VL_at (al := [(0, vR 30 (1000016)), (1, vI v1)]) (st := []) km392 k392_0 ?_)
  refine V_of ?_
  refine VL_norm km394 k394_0 (VL_at (al := [(0, vR 30 (1000016))]) (st := []) km394 k394_0 ?_)
  refine And.intro (fun c => absurd c (by decide)) (fun _ => ?_)
  refine VL_norm km394 k394_1 (VL_at (al := [(0, vR 30 (1000016))]) (st := []) km394 k394_1 ?_)
  refine And.intro (fun _ => ?_) (fun c => absurd (by decide) c)
  refine VL_norm km394 k394_2 (VL_at (al := []) (st := []) km394 k394_2 ?_)
  refine VL_norm km394 k394_4 (VL_at (al := []) (st := [vI (n32 1)]) km394 k394_4 ?_)
  refine And.intro xrt21 ?_
  refine And.intro (fun c => absurd c (by decide)) (fun _ => ?_)
  refine VL_norm km392 k392_1 (VL_at (al := [(0, vR 30 (1000016)), (1, vI v1)]) (st := []) km392 k392_1 ?_)
  refine V_of ?_
  refine VL_norm km396 k396_0 (VL_at (al := [(0, vR 31 (1000016 + 30)), (1, vI v1)]) (st := []) km396 k396_0 ?_)
  refine V_of ?_
  refine VL_norm km395 k395_0 (VL_at (al := [(0, vI v1), (1, vI (n32 4))]) (st := []) km395 k395_0 ?_)
  refine V_of ?_
  refine VL_norm km397 k397_0 (VL_at (al := [(0, vI v1), (1, vI (n32 4)), (2, Sum.inl (Value.retAddr 0))]) (st := []) km397 k397_0 ?_)
  refine And.intro (fun c2 => ?_) (fun c2 => ?_)
  · refine VL_norm km397 k397_2 (VL_at (al := [(0, vI v1), (1, vI (n32 4)), (2, Sum.inl (Value.retAddr 0))]) (st := []) km397 k397_2 ?_)
    exact False.elim (h.1 c2)
  · refine VL_norm km397 k397_1 (VL_at (al := [(0, vI v1), (1, vI (n32 4)), (2, Sum.inl (Value.retAddr 0))]) (st := []) km397 k397_1 ?_)
    refine And.intro (fun c1 => ?_) (fun c1 => ?_)
    · refine VL_norm km397 k397_3 (VL_at (al := [(0, vI v1)]) (st := []) km397 k397_3 ?_)
      refine And.intro ((h.2 c2).1 c1).1 ?_
      refine And.intro ((h.2 c2).1 c1).2.1 ?_
      refine And.intro ((h.2 c2).1 c1).2.2.1 ?_
      exact ((h.2 c2).1 c1).2.2.2
    · refine VL_norm km397 k397_2 (VL_at (al := [(0, vI v1), (1, vI (n32 4)), (2, Sum.inl (Value.retAddr 0))]) (st := []) km397 k397_2 ?_)
      exact False.elim ((h.2 c2).2 c1)
end
section
/-! Numbers, memory, folds and loops. -/
theorem n32_0 : n32 0 = 0 := rfl
theorem n32_add (a b : Nat) : n32 a + n32 b = n32 (a + b) := (Int32.ofNat_add a b).symm
theorem n32_mul (a b : Nat) : n32 a * n32 b = n32 (a * b) := (Int32.ofNat_mul a b).symm
theorem n32_inj {a b : Nat} (ha : a < 2147483648) (hb : b < 2147483648) (h : n32 a = n32 b) : a = b := by
  have := congrArg ix h
  rw [ix_n32 ha, ix_n32 hb] at this
  exact this
theorem n32_lt {a b : Nat} (ha : a < 2147483648) (hb : b < 2147483648) : n32 a < n32 b ↔ a < b := by
  rw [Int32.lt_iff_toInt_lt, n32_toInt ha, n32_toInt hb]; omega
theorem n32_le {a b : Nat} (ha : a < 2147483648) (hb : b < 2147483648) : n32 a ≤ n32 b ↔ a ≤ b := by
  rw [Int32.le_iff_toInt_le, n32_toInt ha, n32_toInt hb]; omega
theorem n32_nm1 {a : Nat} (ha : a < 2147483648) : ¬ n32 a = -(n32 1) := by
  intro h
  have := congrArg Int32.toInt h
  rw [n32_toInt ha] at this
  have e : (-(n32 1)).toInt = -1 := by decide
  omega
theorem nm1_lt (a : Nat) (ha : a < 2147483648) : -(n32 1) < n32 a := by
  rw [Int32.lt_iff_toInt_lt, n32_toInt ha]
  have e : (-(n32 1)).toInt = -1 := by decide
  omega
theorem n32_sub {a b : Nat} (h : b ≤ a) : n32 a - n32 b = n32 (a - b) := by
  obtain ⟨c, rfl⟩ := Nat.exists_eq_add_of_le h
  rw [Nat.add_sub_cancel_left, ← n32_add, Int32.add_comm, Int32.add_sub_cancel]
theorem n32_dec {a : Nat} (h : 1 ≤ a) : n32 a + -(n32 1) = n32 (a - 1) := by
  rw [← n32_sub h, Int32.sub_eq_add_neg]
/-- an int between 0 and a bound is a natural number -/
theorem n32_of {x : Int32} {k : Nat} (h0 : n32 0 ≤ x) (h1 : x ≤ n32 k) (hk : k < 2147483648) : ∃ n, n ≤ k ∧ x = n32 n := by
  rw [Int32.le_iff_toInt_le, n32_toInt (by omega)] at h0
  rw [Int32.le_iff_toInt_le, n32_toInt hk] at h1
  refine ⟨x.toInt.toNat, by omega, ?_⟩
  apply Int32.toInt_inj.mp
  rw [n32_toInt (by omega)]; omega
theorem le_n32 {x : Int32} : n32 0 ≤ x ↔ 0 ≤ x.toInt := by
  rw [Int32.le_iff_toInt_le, n32_toInt (by omega)]; rfl
theorem um_eq (m : XM) (a k : Nat) (v : Int32) : um m a k v a k = v := if_pos ⟨rfl, rfl⟩
theorem um_a {m : XM} {a k a' k' : Nat} {v : Int32} (h : a' ≠ a) : um m a k v a' k' = m a' k' := if_neg fun e => h e.1
theorem um_k {m : XM} {a k a' k' : Nat} {v : Int32} (h : k' ≠ k) : um m a k v a' k' = m a' k' := if_neg fun e => h e.2
def itr {α : Type} : Nat → (Nat → α → α) → α → α
  | 0, _, a => a
  | n + 1, f, a => f n (itr n f a)
theorem itr_congr {α : Type} {n : Nat} {f g : Nat → α → α} {a : α} (h : ∀ i, i < n → ∀ x, f i x = g i x) : itr n f a = itr n g a := by
  induction n with
  | zero => rfl
  | succ n ih =>
    show f n (itr n f a) = g n (itr n g a)
    rw [ih fun i hi => h i (by omega), h n (by omega)]
def cnt (n : Nat) (p : Nat → Bool) : Nat := itr n (fun i c => if p i then c + 1 else c) 0
theorem cnt_succ (n : Nat) (p : Nat → Bool) : cnt (n + 1) p = if p n then cnt n p + 1 else cnt n p := rfl
theorem cnt_le (n : Nat) (p : Nat → Bool) : cnt n p ≤ n := by
  induction n with
  | zero => exact Nat.le_refl _
  | succ n ih => rw [cnt_succ]; split <;> omega
theorem cnt_congr {n : Nat} {p q : Nat → Bool} (h : ∀ i, i < n → p i = q i) : cnt n p = cnt n q :=
  itr_congr fun i hi x => by rw [h i hi]
theorem cnt_pos {n : Nat} {p : Nat → Bool} : 0 < cnt n p ↔ ∃ i, i < n ∧ p i = true := by
  induction n with
  | zero => exact ⟨fun h => absurd h (Nat.lt_irrefl 0), fun ⟨i, h, _⟩ => absurd h (by omega)⟩
  | succ n ih =>
    rw [cnt_succ]
    by_cases hp : p n = true
    · rw [if_pos hp]; exact ⟨fun _ => ⟨n, by omega, hp⟩, fun _ => by omega⟩
    · rw [if_neg hp, ih]
      constructor
      · rintro ⟨i, h1, h2⟩; exact ⟨i, by omega, h2⟩
      · rintro ⟨i, h1, h2⟩
        refine ⟨i, ?_, h2⟩
        by_cases e : i = n
        · exact absurd (e ▸ h2) hp
        · omega
def isum (n : Nat) (f : Nat → Int32) : Int32 := itr n (fun i s => s + f i) (n32 0)
theorem isum_succ (n : Nat) (f : Nat → Int32) : isum (n + 1) f = isum n f + f n := rfl
theorem isum_congr {n : Nat} {f g : Nat → Int32} (h : ∀ i, i < n → f i = g i) : isum n f = isum n g := itr_congr fun i hi x => by rw [h i hi]
def bset (n : Nat) (p : Nat → Bool) : Int32 := itr n (fun i s => if p i then s ||| (n32 1 <<< (n32 i &&& 31)) else s) (n32 0)
theorem bset_succ (n : Nat) (p : Nat → Bool) : bset (n + 1) p = if p n then bset n p ||| (n32 1 <<< (n32 n &&& 31)) else bset n p := rfl
theorem bset_congr {n : Nat} {p q : Nat → Bool} (h : ∀ i, i < n → p i = q i) : bset n p = bset n q := itr_congr fun i hi x => by rw [h i hi]
/-- the best of those that fit, as an index, or -1: 'lt k b' says that k is better than b -/
def bst (n : Nat) (p : Nat → Bool) (lt : Nat → Nat → Bool) : Int32 := itr n (fun k b => if p k && (b == -(n32 1) || lt k (ix b)) then n32 k else b) (-(n32 1))
theorem bst_succ (n : Nat) (p : Nat → Bool) (lt : Nat → Nat → Bool) : bst (n + 1) p lt = if p n && (bst n p lt == -(n32 1) || lt n (ix (bst n p lt))) then n32 n else bst n p lt := rfl
theorem bst_rng (n : Nat) (p : Nat → Bool) (lt : Nat → Nat → Bool) (hn : n < 2147483648) : bst n p lt = -(n32 1) ∨ ∃ k, k < n ∧ p k = true ∧ bst n p lt = n32 k := by
  induction n with
  | zero => exact Or.inl rfl
  | succ n ih =>
    have e : bst (n + 1) p lt = if p n && (bst n p lt == -(n32 1) || lt n (ix (bst n p lt))) then n32 n else bst n p lt := rfl
    rw [e]
    split
    · rename_i h
      rw [Bool.and_eq_true] at h
      exact Or.inr ⟨n, by omega, h.1, rfl⟩
    · rcases ih (by omega) with h | ⟨k, h1, h2, h3⟩
      · exact Or.inl h
      · exact Or.inr ⟨k, by omega, h2, h3⟩
theorem bst_congr {n : Nat} {p q : Nat → Bool} {lt lt' : Nat → Nat → Bool} (hn : n < 2147483648) (h : ∀ i, i < n → p i = q i) (hl : ∀ i j, i < n → j < n → lt i j = lt' i j) : bst n p lt = bst n q lt' := by
  induction n with
  | zero => rfl
  | succ n ih =>
    have e1 : bst (n + 1) p lt = if p n && (bst n p lt == -(n32 1) || lt n (ix (bst n p lt))) then n32 n else bst n p lt := rfl
    have e2 : bst (n + 1) q lt' = if q n && (bst n q lt' == -(n32 1) || lt' n (ix (bst n q lt'))) then n32 n else bst n q lt' := rfl
    have hi := ih (by omega) (fun i hi => h i (by omega)) (fun i j h1 h2 => hl i j (by omega) (by omega))
    rw [e1, e2, ← hi, h n (by omega)]
    rcases bst_rng n p lt (by omega) with hb | ⟨k, h1, h2, h3⟩
    · rw [hb]; simp
    · rw [h3, ix_n32 (by omega), hl n k (by omega) (by omega)]
/-- a loop that counts up, its head's claim told for each count -/
theorem up {C : Nat → Prop} {n : Nat} (step : ∀ i, i < n → C (i + 1) → C i) (last : C n) : ∀ i, i ≤ n → C i := by
  have : ∀ k i, i + k = n → C i := by
    intro k
    induction k with
    | zero => intro i h; have : i = n := by omega
              subst this; exact last
    | succ k ih => intro i h; exact step i (by omega) (ih (i + 1) (by omega))
  exact fun i hi => this (n - i) i (by omega)
/-- the same with an invariant of the memory -/
theorem upm {σ : Type} {C : Nat → σ → Prop} {Inv : Nat → σ → Prop} {n : Nat} (step : ∀ i m, i < n → Inv i m → (∀ m', Inv (i + 1) m' → C (i + 1) m') → C i m) (last : ∀ m, Inv n m → C n m) : ∀ i m, i ≤ n → Inv i m → C i m := by
  have : ∀ k i m, i + k = n → Inv i m → C i m := by
    intro k
    induction k with
    | zero => intro i m h hI; have : i = n := by omega
              subst this; exact last m hI
    | succ k ih => intro i m h hI; exact step i m (by omega) hI (fun m' hm' => ih (i + 1) m' (by omega) hm')
  exact fun i m hi => this (n - i) i m (by omega)
/-! for simp (disch := omega) -/
theorem xin_t {i n : Nat} (h : i < n) (hi : i < 2147483648) : (xin (n32 i) n = true) = True := eq_true (xin_n h hi)
theorem le_f {a b : Nat} (h : a < b) (hb : b < 2147483648) : (n32 b ≤ n32 a) = False := eq_false (fun e => absurd ((n32_le hb (by omega)).mp e) (by omega))
theorem le_t {a b : Nat} (h : a ≤ b) (hb : b < 2147483648) : (n32 a ≤ n32 b) = True := eq_true ((n32_le (by omega) hb).mpr h)
theorem lt_f {a b : Nat} (h : b ≤ a) (ha : a < 2147483648) : (n32 a < n32 b) = False := eq_false (fun e => absurd ((n32_lt ha (by omega)).mp e) (by omega))
theorem lt_t {a b : Nat} (h : a < b) (hb : b < 2147483648) : (n32 a < n32 b) = True := eq_true ((n32_lt (by omega) hb).mpr h)
theorem eq_f {a b : Nat} (h : a ≠ b) (ha : a < 2147483648) (hb : b < 2147483648) : (n32 a = n32 b) = False := eq_false (fun e => h (n32_inj ha hb e))
theorem nm1_f {a : Nat} (ha : a < 2147483648) : (n32 a = -(n32 1)) = False := eq_false (n32_nm1 ha)
theorem nm1_f' {a : Nat} (ha : a < 2147483648) : (-(n32 1) = n32 a) = False := eq_false (fun h => n32_nm1 ha h.symm)
theorem lt_nm1 {a : Nat} (ha : a < 2147483648) : (n32 a < -(n32 1)) = False := eq_false (by
  intro h
  rw [Int32.lt_iff_toInt_lt, n32_toInt ha] at h
  have e : (-(n32 1)).toInt = -1 := by decide
  omega)
theorem n32_rfl (n : Nat) : n32 n ≤ n32 n := Int32.le_refl _
end
section
/-! Questions that change nothing: the component's rows, banners and plans. -/
def iabs (v : Int32) : Int32 := if n32 0 ≤ v then v else -v
def imax (a b : Int32) : Int32 := if a < b then b else a
def imin (a b : Int32) : Int32 := if b < a then b else a
section QA
variable {D : Nat} {m : XM} {E : Nat → XM → Prop}
theorem s384 {v : Int32} {Q : Int32 → XM → Prop} (h : Q (iabs v) m) : VI D 384 [vI v] m Q E :=
  w384_0 ⟨fun c => by rw [iabs, if_pos c] at h; exact h, fun c => by rw [iabs, if_neg c] at h; exact h⟩
theorem s385 {a b : Int32} {Q : Int32 → XM → Prop} (h : Q (imax a b) m) : VI D 385 [vI a, vI b] m Q E :=
  w385_0 ⟨fun c => by rw [imax, if_pos c] at h; exact h, fun c => by rw [imax, if_neg c] at h; exact h⟩
theorem s386 {a b : Int32} {Q : Int32 → XM → Prop} (h : Q (imin a b) m) : VI D 386 [vI a, vI b] m Q E :=
  w386_0 ⟨fun c => by rw [imin, if_pos c] at h; exact h, fun c => by rw [imin, if_neg c] at h; exact h⟩
theorem s8 {a n : Nat} {v1 v2 : Int32} {Q : Int32 → XM → Prop} (hn : m a 0 = n32 n) (h12 : n ≤ 12) (h : Q (bst n (fun k => decide (¬ m (a + 2) k < v1) && decide (¬ v2 < m (a + 2) k)) (fun k b => decide (¬ m (a + 2) k ≤ m (a + 2) b))) m) : VI D 8 [vR 1 a, vI v1, vI v2] m Q E := by
  refine w8_0 (up (C := fun i => VLI D 8 1 [(0, vR 1 a), (1, vI v1), (2, vI v2), (3, vI (bst i (fun k => decide (¬ m (a + 2) k < v1) && decide (¬ v2 < m (a + 2) k)) (fun k b => decide (¬ m (a + 2) k ≤ m (a + 2) b)))), (4, vI (n32 i))] [] m Q E) (n := n) ?_ ?_ 0 (Nat.zero_le _))
  · intro i hi ih
    refine w8_1 ?_
    rw [hn]
    simp (disch := omega) only [le_f, xin_t, ix_n32, n32_add, false_implies, not_false_eq_true, true_implies, true_and]
    rcases bst_rng i (fun k => decide (¬ m (a + 2) k < v1) && decide (¬ v2 < m (a + 2) k)) (fun k b => decide (¬ m (a + 2) k ≤ m (a + 2) b)) (by omega) with hb | ⟨j, hj, -, hb⟩
    · rw [bst_succ, hb] at ih
      rw [hb]
      by_cases c1 : m (a + 2) i < v1 <;> by_cases c2 : v2 < m (a + 2) i <;> simpa [c1, c2] using ih
    · rw [bst_succ, hb] at ih
      rw [hb]
      have hne : ¬ n32 j = -(n32 1) := n32_nm1 (by omega)
      simp (disch := omega) only [nm1_f, xin_t, ix_n32] at ih ⊢
      by_cases c1 : m (a + 2) i < v1 <;> by_cases c2 : v2 < m (a + 2) i <;> by_cases c3 : m (a + 2) i ≤ m (a + 2) j <;> simpa [c1, c2, c3, hne] using ih
  · refine w8_1 ?_
    rw [hn]
    exact ⟨fun _ => h, fun c => absurd (n32_rfl n) c⟩
end QA
end
section
/-! Questions that count, sum or collect (written by program: wip/whole/mkq.py). -/
def or0 : ∀ x : Int32, x ||| n32 0 = x := fun x => Int32.or_zero
section QB
variable {D : Nat} {m : XM} {E : Nat → XM → Prop}
theorem s30 {a n : Nat}  {v1 : Int32} {Q : Int32 → XM → Prop} (hn : m a 0 = n32 n) (h12 : n ≤ 12)  (h : Q (n32 (cnt n fun k => decide (m (a + 3) k = v1))) m) : VI D 30 [vR 4 a, vI v1] m Q E := by
  refine w30_0 (up (C := fun i => VLI D 30 1 [(0, vR 4 a), (1, vI v1), (2, vI (n32 (cnt i fun k => decide (m (a + 3) k = v1)))), (3, vI (n32 i))] [] m Q E) (n := n) ?_ ?_ 0 (Nat.zero_le _))
  · intro i hi ih
    refine w30_1 ?_
    simp (disch := omega) only [le_f, xin_t, ix_n32, n32_mul, n32_add, or0, Nat.add_zero, false_implies, not_false_eq_true, true_implies, true_and, hn]
    by_cases c0 : m (a + 3) i = v1 <;> simp only [c0, cnt_succ, decide_true, decide_false, not_true_eq_false, not_false_eq_true, Bool.and_true, Bool.true_and, Bool.and_false, Bool.false_and, if_true, if_false, false_implies, true_implies, and_true, true_and, Bool.false_eq_true] at ih ⊢ <;> exact ih
  · refine w30_1 ?_
    simp (disch := omega) only [le_f, xin_t, ix_n32, n32_mul, n32_add, or0, Nat.add_zero, false_implies, not_false_eq_true, true_implies, true_and, hn]
    exact ⟨fun _ => h, fun c => absurd (n32_rfl n) c⟩
theorem s55 {a n : Nat}   {Q : Int32 → XM → Prop} (hn : m a 0 = n32 n) (h12 : n ≤ 12)  (h : Q (n32 (cnt n fun k => decide (¬ m (a + 5) k = n32 0))) m) : VI D 55 [vR 7 a] m Q E := by
  refine w55_0 (up (C := fun i => VLI D 55 1 [(0, vR 7 a), (1, vI (n32 (cnt i fun k => decide (¬ m (a + 5) k = n32 0)))), (2, vI (n32 i))] [] m Q E) (n := n) ?_ ?_ 0 (Nat.zero_le _))
  · intro i hi ih
    refine w55_1 ?_
    simp (disch := omega) only [le_f, xin_t, ix_n32, n32_mul, n32_add, or0, Nat.add_zero, false_implies, not_false_eq_true, true_implies, true_and, hn]
    by_cases c0 : m (a + 5) i = n32 0 <;> simp only [c0, cnt_succ, decide_true, decide_false, not_true_eq_false, not_false_eq_true, Bool.and_true, Bool.true_and, Bool.and_false, Bool.false_and, if_true, if_false, false_implies, true_implies, and_true, true_and, Bool.false_eq_true] at ih ⊢ <;> exact ih
  · refine w55_1 ?_
    simp (disch := omega) only [le_f, xin_t, ix_n32, n32_mul, n32_add, or0, Nat.add_zero, false_implies, not_false_eq_true, true_implies, true_and, hn]
    exact ⟨fun _ => h, fun c => absurd (n32_rfl n) c⟩
theorem s57 {a n : Nat}   {Q : Int32 → XM → Prop} (hn : m a 0 = n32 n) (h12 : n ≤ 12)  (h : Q (n32 (cnt n fun k => decide (m (a + 5) k = m (a + 1) k))) m) : VI D 57 [vR 7 a] m Q E := by
  refine w57_0 (up (C := fun i => VLI D 57 1 [(0, vR 7 a), (1, vI (n32 (cnt i fun k => decide (m (a + 5) k = m (a + 1) k)))), (2, vI (n32 i))] [] m Q E) (n := n) ?_ ?_ 0 (Nat.zero_le _))
  · intro i hi ih
    refine w57_1 ?_
    simp (disch := omega) only [le_f, xin_t, ix_n32, n32_mul, n32_add, or0, Nat.add_zero, false_implies, not_false_eq_true, true_implies, true_and, hn]
    by_cases c0 : m (a + 5) i = m (a + 1) i <;> simp only [c0, cnt_succ, decide_true, decide_false, not_true_eq_false, not_false_eq_true, Bool.and_true, Bool.true_and, Bool.and_false, Bool.false_and, if_true, if_false, false_implies, true_implies, and_true, true_and, Bool.false_eq_true] at ih ⊢ <;> exact ih
  · refine w57_1 ?_
    simp (disch := omega) only [le_f, xin_t, ix_n32, n32_mul, n32_add, or0, Nat.add_zero, false_implies, not_false_eq_true, true_implies, true_and, hn]
    exact ⟨fun _ => h, fun c => absurd (n32_rfl n) c⟩
theorem s62 {a n : Nat}  {v1 : Int32} {Q : Int32 → XM → Prop} (hn : m a 0 = n32 n) (h12 : n ≤ 12)  (h : Q (bset n fun k => decide (¬ v1 < m (a + 4) k)) m) : VI D 62 [vR 7 a, vI v1] m Q E := by
  refine w62_0 (up (C := fun i => VLI D 62 1 [(0, vR 7 a), (1, vI v1), (2, vI (bset i fun k => decide (¬ v1 < m (a + 4) k))), (3, vI (n32 i))] [] m Q E) (n := n) ?_ ?_ 0 (Nat.zero_le _))
  · intro i hi ih
    refine w62_1 ?_
    simp (disch := omega) only [le_f, xin_t, ix_n32, n32_mul, n32_add, or0, Nat.add_zero, false_implies, not_false_eq_true, true_implies, true_and, hn]
    by_cases c0 : v1 < m (a + 4) i <;> simp only [c0, bset_succ, decide_true, decide_false, not_true_eq_false, not_false_eq_true, Bool.and_true, Bool.true_and, Bool.and_false, Bool.false_and, if_true, if_false, false_implies, true_implies, and_true, true_and, Bool.false_eq_true] at ih ⊢ <;> exact ih
  · refine w62_1 ?_
    simp (disch := omega) only [le_f, xin_t, ix_n32, n32_mul, n32_add, or0, Nat.add_zero, false_implies, not_false_eq_true, true_implies, true_and, hn]
    exact ⟨fun _ => h, fun c => absurd (n32_rfl n) c⟩
theorem s63 {a n : Nat}  {v1 : Int32} {Q : Int32 → XM → Prop} (hn : m a 0 = n32 n) (h12 : n ≤ 12)  (h : Q (n32 (cnt n fun k => decide (¬ v1 ≤ m (a + 4) k))) m) : VI D 63 [vR 7 a, vI v1] m Q E := by
  refine w63_0 (up (C := fun i => VLI D 63 1 [(0, vR 7 a), (1, vI v1), (2, vI (n32 (cnt i fun k => decide (¬ v1 ≤ m (a + 4) k)))), (3, vI (n32 i))] [] m Q E) (n := n) ?_ ?_ 0 (Nat.zero_le _))
  · intro i hi ih
    refine w63_1 ?_
    simp (disch := omega) only [le_f, xin_t, ix_n32, n32_mul, n32_add, or0, Nat.add_zero, false_implies, not_false_eq_true, true_implies, true_and, hn]
    by_cases c0 : v1 ≤ m (a + 4) i <;> simp only [c0, cnt_succ, decide_true, decide_false, not_true_eq_false, not_false_eq_true, Bool.and_true, Bool.true_and, Bool.and_false, Bool.false_and, if_true, if_false, false_implies, true_implies, and_true, true_and, Bool.false_eq_true] at ih ⊢ <;> exact ih
  · refine w63_1 ?_
    simp (disch := omega) only [le_f, xin_t, ix_n32, n32_mul, n32_add, or0, Nat.add_zero, false_implies, not_false_eq_true, true_implies, true_and, hn]
    exact ⟨fun _ => h, fun c => absurd (n32_rfl n) c⟩
theorem s64 {a n : Nat}  {v1 : Int32} {Q : Int32 → XM → Prop} (hn : m a 0 = n32 n) (h12 : n ≤ 12)  (h : Q (n32 (cnt n fun k => decide (¬ m (a + 6) k ≤ v1))) m) : VI D 64 [vR 7 a, vI v1] m Q E := by
  refine w64_0 (up (C := fun i => VLI D 64 1 [(0, vR 7 a), (1, vI v1), (2, vI (n32 (cnt i fun k => decide (¬ m (a + 6) k ≤ v1)))), (3, vI (n32 i))] [] m Q E) (n := n) ?_ ?_ 0 (Nat.zero_le _))
  · intro i hi ih
    refine w64_1 ?_
    simp (disch := omega) only [le_f, xin_t, ix_n32, n32_mul, n32_add, or0, Nat.add_zero, false_implies, not_false_eq_true, true_implies, true_and, hn]
    by_cases c0 : m (a + 6) i ≤ v1 <;> simp only [c0, cnt_succ, decide_true, decide_false, not_true_eq_false, not_false_eq_true, Bool.and_true, Bool.true_and, Bool.and_false, Bool.false_and, if_true, if_false, false_implies, true_implies, and_true, true_and, Bool.false_eq_true] at ih ⊢ <;> exact ih
  · refine w64_1 ?_
    simp (disch := omega) only [le_f, xin_t, ix_n32, n32_mul, n32_add, or0, Nat.add_zero, false_implies, not_false_eq_true, true_implies, true_and, hn]
    exact ⟨fun _ => h, fun c => absurd (n32_rfl n) c⟩
theorem s65 {a n : Nat}  {v1 : Int32} {Q : Int32 → XM → Prop} (hn : m a 0 = n32 n) (h12 : n ≤ 12)  (h : Q (n32 (cnt n fun k => decide (¬ v1 ≤ m (a + 6) k))) m) : VI D 65 [vR 7 a, vI v1] m Q E := by
  refine w65_0 (up (C := fun i => VLI D 65 1 [(0, vR 7 a), (1, vI v1), (2, vI (n32 (cnt i fun k => decide (¬ v1 ≤ m (a + 6) k)))), (3, vI (n32 i))] [] m Q E) (n := n) ?_ ?_ 0 (Nat.zero_le _))
  · intro i hi ih
    refine w65_1 ?_
    simp (disch := omega) only [le_f, xin_t, ix_n32, n32_mul, n32_add, or0, Nat.add_zero, false_implies, not_false_eq_true, true_implies, true_and, hn]
    by_cases c0 : v1 ≤ m (a + 6) i <;> simp only [c0, cnt_succ, decide_true, decide_false, not_true_eq_false, not_false_eq_true, Bool.and_true, Bool.true_and, Bool.and_false, Bool.false_and, if_true, if_false, false_implies, true_implies, and_true, true_and, Bool.false_eq_true] at ih ⊢ <;> exact ih
  · refine w65_1 ?_
    simp (disch := omega) only [le_f, xin_t, ix_n32, n32_mul, n32_add, or0, Nat.add_zero, false_implies, not_false_eq_true, true_implies, true_and, hn]
    exact ⟨fun _ => h, fun c => absurd (n32_rfl n) c⟩
theorem s7 {a n : Nat}  {v1 : Int32} {v2 : Int32} {Q : Int32 → XM → Prop} (hn : m a 0 = n32 n) (h12 : n ≤ 12)  (h : Q (n32 (cnt n fun k => decide (¬ m (a + 2) k < v1) && decide (¬ v2 < m (a + 2) k))) m) : VI D 7 [vR 1 a, vI v1, vI v2] m Q E := by
  refine w7_0 (up (C := fun i => VLI D 7 1 [(0, vR 1 a), (1, vI v1), (2, vI v2), (3, vI (n32 (cnt i fun k => decide (¬ m (a + 2) k < v1) && decide (¬ v2 < m (a + 2) k)))), (4, vI (n32 i))] [] m Q E) (n := n) ?_ ?_ 0 (Nat.zero_le _))
  · intro i hi ih
    refine w7_1 ?_
    simp (disch := omega) only [le_f, xin_t, ix_n32, n32_mul, n32_add, or0, Nat.add_zero, false_implies, not_false_eq_true, true_implies, true_and, hn]
    by_cases c0 : m (a + 2) i < v1 <;> by_cases c1 : v2 < m (a + 2) i <;> simp only [c0, c1, cnt_succ, decide_true, decide_false, not_true_eq_false, not_false_eq_true, Bool.and_true, Bool.true_and, Bool.and_false, Bool.false_and, if_true, if_false, false_implies, true_implies, and_true, true_and, Bool.false_eq_true] at ih ⊢ <;> exact ih
  · refine w7_1 ?_
    simp (disch := omega) only [le_f, xin_t, ix_n32, n32_mul, n32_add, or0, Nat.add_zero, false_implies, not_false_eq_true, true_implies, true_and, hn]
    exact ⟨fun _ => h, fun c => absurd (n32_rfl n) c⟩
end QB
end
section
/-! Strides: finitely many, by the kernel. -/
def fcond (x : UInt32) : Bool := decide (x &&& 0x7fffffff ≤ 0x7f800000)
def stride (x y : Int32) : Int32 := FP.f2i (FP.fdiv (FP.fmul (FP.i2f x) (FP.i2f y)) (UInt32.ofNat 1120403456))
def strideChk (x y : Nat) : Bool := fcond (FP.fmul (FP.i2f (n32 x)) (FP.i2f (n32 y))) && fcond (FP.fdiv (FP.fmul (FP.i2f (n32 x)) (FP.i2f (n32 y))) (UInt32.ofNat 1120403456)) && decide (n32 0 ≤ stride (n32 x) (n32 y)) && decide (stride (n32 x) (n32 y) ≤ n32 200)
theorem strideChk_0 : ((List.range 30).all fun x => (List.range 101).all fun y => strideChk (0 + x) y) = true := by decide +kernel
theorem strideChk_1 : ((List.range 30).all fun x => (List.range 101).all fun y => strideChk (30 + x) y) = true := by decide +kernel
theorem strideChk_2 : ((List.range 30).all fun x => (List.range 101).all fun y => strideChk (60 + x) y) = true := by decide +kernel
theorem strideChk_3 : ((List.range 30).all fun x => (List.range 101).all fun y => strideChk (90 + x) y) = true := by decide +kernel
theorem strideChk_4 : ((List.range 30).all fun x => (List.range 101).all fun y => strideChk (120 + x) y) = true := by decide +kernel
theorem strideChk_5 : ((List.range 30).all fun x => (List.range 101).all fun y => strideChk (150 + x) y) = true := by decide +kernel
theorem strideChk_6 : ((List.range 21).all fun x => (List.range 101).all fun y => strideChk (180 + x) y) = true := by decide +kernel
theorem strideChk_ok {x y : Nat} (hx : x ≤ 200) (hy : y ≤ 100) : strideChk x y = true := by
  have go : ∀ q, q < 6 → ((List.range 30).all fun x => (List.range 101).all fun y => strideChk (30 * q + x) y) = true := by
    intro q hq
    match q, hq with
    | 0, _ => exact strideChk_0
    | 1, _ => exact strideChk_1
    | 2, _ => exact strideChk_2
    | 3, _ => exact strideChk_3
    | 4, _ => exact strideChk_4
    | 5, _ => exact strideChk_5
  by_cases h6 : x < 180
  · have h := List.all_eq_true.mp (List.all_eq_true.mp (go (x / 30) (by omega)) (x % 30) (List.mem_range.mpr (by omega))) y (List.mem_range.mpr (by omega))
    rw [Nat.div_add_mod] at h
    exact h
  · have h := List.all_eq_true.mp (List.all_eq_true.mp strideChk_6 (x - 180) (List.mem_range.mpr (by omega))) y (List.mem_range.mpr (by omega))
    rw [show 180 + (x - 180) = x by omega] at h
    exact h
end
section
/-! The picture: 243 ints laid out as the reference lays them; what a tick does to it. -/
abbrev PG : Type := Nat → Int32
def gup (g : PG) (k : Nat) (v : Int32) : PG := fun j => if j = k then v else g j
theorem gup_eq (g : PG) (k : Nat) (v : Int32) : gup g k v k = v := if_pos rfl
theorem gup_ne {g : PG} {k j : Nat} {v : Int32} (h : j ≠ k) : gup g k v j = g j := if_neg h
theorem gup_same (g : PG) (k : Nat) : gup g k (g k) = g := by
  funext j; unfold gup; split
  · rename_i h; rw [h]
  · rfl
theorem gup_comm {g : PG} {j k : Nat} {v w : Int32} (h : j ≠ k) : gup (gup g j v) k w = gup (gup g k w) j v := by
  funext i; unfold gup
  by_cases h1 : i = j <;> by_cases h2 : i = k <;> simp [h1, h2]
  · exact absurd (h1.symm.trans h2) h
  · intro h3; exact absurd h3 h
  · intro h3; exact absurd h3.symm h
/-- a memory whose reference array holds g -/
def smg (m : XM) (g : PG) : XM := fun a k => if a = 284 then g k else m a k
theorem smg_at (m : XM) (g : PG) (k : Nat) : smg m g 284 k = g k := if_pos rfl
theorem smg_ne {m : XM} {g : PG} {a k : Nat} (h : a ≠ 284) : smg m g a k = m a k := if_neg h
theorem smg_self (m : XM) : smg m (m 284) = m := by
  funext a k; unfold smg; split
  · rename_i h; rw [h]
  · rfl
theorem um_smg (m : XM) (g : PG) (k : Nat) (v : Int32) : um (smg m g) 284 k v = smg m (gup g k v) := by
  funext a j; unfold um smg gup
  by_cases h1 : a = 284 <;> by_cases h2 : j = k <;> simp [h1, h2]
theorem um_smg_ne {m : XM} {g : PG} {a k : Nat} {v : Int32} (h : a ≠ 284) : um (smg m g) a k v = smg (um m a k v) g := by
  funext b j; unfold um smg
  by_cases h1 : b = 284
  · subst h1
    rw [if_neg (fun e => h e.1.symm), if_pos rfl, if_pos rfl]
  · rw [if_neg h1, if_neg h1]
def strG (g : PG) (b : Nat) (by_ : Int32) : PG := gup g (15 + 7 * b + 4) (imax (n32 0) (imin (n32 100) (g (15 + 7 * b + 4) + by_)))
def exchG (g : PG) (b : Nat) : PG := gup (gup g (15 + 7 * b) (g (15 + 7 * (b + 1)))) (15 + 7 * (b + 1)) (g (15 + 7 * b))
def swapsG (g : PG) (b : Nat) : PG := gup (strG (strG (exchG g b) b (-(n32 2))) (b + 1) (-(n32 2))) 11 (strG (strG (exchG g b) b (-(n32 2))) (b + 1) (-(n32 2)) 11 + n32 1)
/-- may the bearers b and b + 1 swap? (both are there) -/
def mayG (g : PG) (b : Nat) : Bool := decide (¬ g 5 < g (15 + 7 * b + 1) - g (15 + 7 * (b + 1) + 1)) && decide (¬ g (15 + 7 * b + 4) ≤ n32 0) && decide (¬ g (15 + 7 * (b + 1) + 4) ≤ n32 0)
def aheadG (g : PG) (k : Nat) : Nat := ix (g (171 + 3 * k + 1))
def planG (k : Nat) (g : PG) : PG :=
  if g (171 + 3 * k) = g 9 ∧ g (171 + 3 * k + 2) = n32 0 then
    (if mayG g (aheadG g k) = true then gup (swapsG g (aheadG g k)) (171 + 3 * k + 2) (n32 1)
    else gup (gup g 12 (g 12 + n32 1)) (171 + 3 * k + 2) (n32 2))
  else g
def goalG (g : PG) (b : Nat) : Int32 :=
  if b = 0 then g (15 + 7 * b + 1) + stride (g (15 + 7 * b + 2)) (g (15 + 7 * b + 4))
  else imin (g (15 + 7 * b + 1) + stride (g (15 + 7 * b + 2)) (g (15 + 7 * b + 4))) (g (15 + 7 * (b - 1) + 1) - g 0)
def moveG (b : Nat) (g : PG) : PG :=
  if goalG g b ≤ g (15 + 7 * b + 1) then strG g b (g 3)
  else gup (strG (gup g (15 + 7 * b + 1) (goalG g b)) b (-(g (15 + 7 * b + 3)))) (15 + 7 * b + 5) (g (15 + 7 * b + 5) + n32 1)
def nL (g : PG) : Nat := ix (g 10)
def dropG (g : PG) (b : Nat) : PG :=
  gup (gup (gup (gup (gup (gup g (207 + 3 * nL g) (g (15 + 7 * b))) (207 + 3 * nL g + 1) (g (15 + 7 * b + 1))) (207 + 3 * nL g + 2) (g 9)) 10 (g 10 + n32 1)) 13 (g 13 + n32 1)) (15 + 7 * b) (n32 0)
def weakG (b : Nat) (g : PG) : PG := if ¬ g (15 + 7 * b) ≤ n32 0 ∧ g (15 + 7 * b + 4) = n32 0 then dropG g b else g
def shiftG (g : PG) (lo hi : Nat) : PG := fun i => if lo ≤ i ∧ i < hi then g (i + 3) else g i
/-- bearer b picks up the j-th banner that lies -/
def pickG (g : PG) (b j : Nat) : PG :=
  let g1 := gup (gup g (15 + 7 * b) (g (207 + 3 * j))) 10 (g 10 - n32 1)
  let g2 := shiftG g1 (207 + 3 * j) (207 + 3 * (nL g - 1))
  gup g2 14 (g2 14 + n32 1)
/-- of the banners that lie between two places the one with the greatest place -/
def lieG (g : PG) (lo hi : Int32) : Int32 := bst (nL g) (fun k => decide (¬ g (207 + 3 * k + 1) < lo) && decide (¬ hi < g (207 + 3 * k + 1))) (fun k b => decide (¬ g (207 + 3 * k + 1) ≤ g (207 + 3 * b + 1)))
/-- bearer b lifts what lies on its way from a place on -/
def liftG (bf : Nat → Int32) (b : Nat) (g : PG) : PG :=
  if n32 0 < g (15 + 7 * b) then g
  else if g 4 ≤ g (15 + 7 * b + 4) then
    (if lieG g (bf b) (g (15 + 7 * b + 1)) = -(n32 1) then g else pickG g b (ix (lieG g (bf b) (g (15 + 7 * b + 1)))))
  else g
def nBr (g : PG) : Nat := ix (g 6)
def nSt (g : PG) : Nat := ix (g 7)
def nPl (g : PG) : Nat := ix (g 8)
/-- a tick but for the reading of words -/
def plansG (g : PG) : PG := itr (nPl g) planG g
def movesG (g : PG) : PG := itr (nBr g) moveG g
def weaksG (g : PG) : PG := itr (nBr g) weakG g
def liftsG (bf : Nat → Int32) (g : PG) : PG := itr (nBr g) (liftG bf) g
def tkG (g : PG) : PG :=
  let g1 := plansG (gup g 9 (g 9 + n32 1))
  liftsG (fun b => g1 (15 + 7 * b + 1)) (weaksG (movesG g1))
end
section
/-! What holds of every picture that a run comes to. -/
def inR (x : Int32) (lo hi : Nat) : Prop := ∃ n, lo ≤ n ∧ n ≤ hi ∧ x = n32 n
theorem inR_of {x : Int32} {lo hi : Nat} (h1 : n32 lo ≤ x) (h2 : x ≤ n32 hi) (hl : lo < 2147483648) (hh : hi < 2147483648) : inR x lo hi := by
  have h0 : n32 0 ≤ x := Int32.le_trans ((n32_le (by omega) (by omega)).mpr (Nat.zero_le lo)) h1
  obtain ⟨n, h3, rfl⟩ := n32_of h0 h2 hh
  exact ⟨n, (n32_le (by omega) (by omega)).mp h1, h3, rfl⟩
theorem stride_ok {x y : Int32} (hx : inR x 0 200) (hy : inR y 0 100) : FP.fmul (FP.i2f x) (FP.i2f y) &&& 0x7fffffff ≤ 0x7f800000 ∧ FP.fdiv (FP.fmul (FP.i2f x) (FP.i2f y)) (UInt32.ofNat 1120403456) &&& 0x7fffffff ≤ 0x7f800000 ∧ inR (stride x y) 0 200 := by
  obtain ⟨a, -, ha, rfl⟩ := hx
  obtain ⟨b, -, hb, rfl⟩ := hy
  have h := strideChk_ok ha hb
  unfold strideChk fcond at h
  simp only [Bool.and_eq_true, decide_eq_true_eq] at h
  obtain ⟨⟨⟨h1, h2⟩, h3⟩, h4⟩ := h
  exact ⟨h1, h2, inR_of h3 h4 (by omega) (by omega)⟩
/-- how many bearers carry a banner -/
def carried (g : PG) : Nat := cnt (nBr g) fun b => decide (¬ g (15 + 7 * b) = n32 0)
def WF (g : PG) : Prop :=
  (g 6 = n32 (nBr g) ∧ nBr g ≤ 12) ∧ (g 7 = n32 (nSt g) ∧ nSt g ≤ 6) ∧ (g 8 = n32 (nPl g) ∧ nPl g ≤ 12) ∧ (g 10 = n32 (nL g) ∧ nL g + carried g = nBr g) ∧
  (inR (g 0) 1 999 ∧ inR (g 1) 0 9999 ∧ inR (g 2) 1 9999 ∧ inR (g 3) 0 50 ∧ inR (g 4) 1 100 ∧ inR (g 5) 0 9999) ∧
  (∀ b, b < nBr g → inR (g (15 + 7 * b)) 0 26) ∧ (∀ b, b < nBr g → inR (g (15 + 7 * b + 2)) 1 200) ∧ (∀ b, b < nBr g → inR (g (15 + 7 * b + 3)) 0 20) ∧ (∀ b, b < nBr g → inR (g (15 + 7 * b + 4)) 0 100) ∧ (∀ b, b < nBr g → inR (g (15 + 7 * b + 6)) 1 26) ∧
  (∀ k, k < nPl g → g (171 + 3 * k + 1) = n32 (aheadG g k) ∧ aheadG g k + 1 < nBr g) ∧ (∀ k, k < nL g → inR (g (207 + 3 * k)) 1 26) ∧
  (∀ s, s < nSt g → inR (g (99 + 12 * s)) 0 1 ∧ inR (g (99 + 12 * s + 2)) 1 8 ∧ ∀ i, i < ix (g (99 + 12 * s + 2)) → inR (g (99 + 12 * s + 4 + i)) 97 122)
theorem cnt_chg {n b : Nat} {p q : Nat → Bool} (hb : b < n) (h : ∀ i, i ≠ b → q i = p i) : cnt n q + (if p b then 1 else 0) = cnt n p + (if q b then 1 else 0) := by
  induction n with
  | zero => omega
  | succ n ih =>
    rw [cnt_succ, cnt_succ]
    by_cases e : b = n
    · subst e
      have : cnt b q = cnt b p := cnt_congr fun i hi => h i (by omega)
      rw [this]; split <;> split <;> omega
    · have := ih (by omega)
      rw [h n (fun e' => e e'.symm)]
      split <;> omega
theorem cnt_swap {n b : Nat} {p q : Nat → Bool} (hb : b + 1 < n) (h1 : q b = p (b + 1)) (h2 : q (b + 1) = p b) (h : ∀ i, i ≠ b → i ≠ b + 1 → q i = p i) : cnt n q = cnt n p := by
  induction n with
  | zero => omega
  | succ n ih =>
    by_cases e : b + 1 = n
    · subst e
      rw [cnt_succ, cnt_succ, cnt_succ, cnt_succ, h1, h2]
      have : cnt b q = cnt b p := cnt_congr fun i hi => h i (by omega) (by omega)
      rw [this]; split <;> split <;> omega
    · rw [cnt_succ, cnt_succ, ih (by omega), h n (by omega) (by omega)]
/-- a picture that differs in times, places, moves, outcomes, counters and such alone -/
theorem WF_of {g g' : PG} (h : WF g) (h6 : g' 6 = g 6) (h7 : g' 7 = g 7) (h8 : g' 8 = g 8) (h10 : g' 10 = n32 (nL g')) (hc : nL g' + carried g' = nBr g) (hs : ∀ k, k < 6 → g' k = g k)
    (hb0 : ∀ b, b < nBr g → inR (g' (15 + 7 * b)) 0 26) (hb2 : ∀ b, b < nBr g → g' (15 + 7 * b + 2) = g (15 + 7 * b + 2)) (hb3 : ∀ b, b < nBr g → g' (15 + 7 * b + 3) = g (15 + 7 * b + 3)) (hb4 : ∀ b, b < nBr g → inR (g' (15 + 7 * b + 4)) 0 100) (hb6 : ∀ b, b < nBr g → g' (15 + 7 * b + 6) = g (15 + 7 * b + 6))
    (hp : ∀ k, k < nPl g → g' (171 + 3 * k + 1) = g (171 + 3 * k + 1)) (hl : ∀ k, k < nL g' → inR (g' (207 + 3 * k)) 1 26) (hst : ∀ s, s < nSt g → ∀ i, i < 12 → i ≠ 3 → g' (99 + 12 * s + i) = g (99 + 12 * s + i)) : WF g' := by
  obtain ⟨⟨a1, a2⟩, ⟨a3, a4⟩, ⟨a5, a6⟩, ⟨a7, a8⟩, ⟨c0, c1, c2, c3, c4, c5⟩, b0, b2, b3, b4, b6, p1, l1, s1⟩ := h
  have n6 : nBr g' = nBr g := by unfold nBr; rw [h6]
  have n7 : nSt g' = nSt g := by unfold nSt; rw [h7]
  have n8 : nPl g' = nPl g := by unfold nPl; rw [h8]
  refine ⟨⟨by rw [n6, h6]; exact a1, by rw [n6]; exact a2⟩, ⟨by rw [n7, h7]; exact a3, by rw [n7]; exact a4⟩, ⟨by rw [n8, h8]; exact a5, by rw [n8]; exact a6⟩, ⟨h10, by rw [n6]; exact hc⟩, ⟨?_, ?_, ?_, ?_, ?_, ?_⟩, ?_, ?_, ?_, ?_, ?_, ?_, hl, ?_⟩
  · rw [hs 0 (by omega)]; exact c0
  · rw [hs 1 (by omega)]; exact c1
  · rw [hs 2 (by omega)]; exact c2
  · rw [hs 3 (by omega)]; exact c3
  · rw [hs 4 (by omega)]; exact c4
  · rw [hs 5 (by omega)]; exact c5
  · rw [n6]; exact hb0
  · rw [n6]; intro b hb; rw [hb2 b hb]; exact b2 b hb
  · rw [n6]; intro b hb; rw [hb3 b hb]; exact b3 b hb
  · rw [n6]; exact hb4
  · rw [n6]; intro b hb; rw [hb6 b hb]; exact b6 b hb
  · rw [n8, n6]; intro k hk
    have e : aheadG g' k = aheadG g k := by unfold aheadG; rw [hp k hk]
    rw [e, hp k hk]; exact p1 k hk
  · rw [n7]; intro s hs'
    have e0 := hst s hs' 0 (by omega) (by omega)
    have e2 := hst s hs' 2 (by omega) (by omega)
    rw [Nat.add_zero] at e0
    obtain ⟨q1, q2, q3⟩ := s1 s hs'
    rw [e0, e2]
    refine ⟨q1, q2, ?_⟩
    intro i hi
    obtain ⟨n, hn1, hn2, hn3⟩ := q2
    have : i < 8 := by
      rw [hn3, ix_n32 (by omega)] at hi; omega
    have e4 := hst s hs' (4 + i) (by omega) (by omega)
    rw [← Nat.add_assoc] at e4
    rw [e4]; exact q3 i hi
theorem imin_imax_R (x : Int32) : inR (imax (n32 0) (imin (n32 100) x)) 0 100 := by
  unfold imax imin
  by_cases h1 : x < n32 100
  · rw [if_pos h1]
    by_cases h2 : n32 0 < x
    · rw [if_pos h2]; exact inR_of (Int32.le_of_lt h2) (Int32.le_of_lt h1) (by omega) (by omega)
    · rw [if_neg h2]; exact ⟨0, by omega, by omega, rfl⟩
  · rw [if_neg h1]
    have h3 : n32 0 < n32 100 := (n32_lt (by omega) (by omega)).mpr (by omega)
    rw [if_pos h3]; exact ⟨100, by omega, by omega, rfl⟩
end
section
/-! The steps of a tick keep it. -/
section WS
variable {g : PG}
theorem WF.nb (h : WF g) : nBr g ≤ 12 := h.1.2
theorem WF.ns (h : WF g) : nSt g ≤ 6 := h.2.1.2
theorem WF.np (h : WF g) : nPl g ≤ 12 := h.2.2.1.2
theorem WF.nl (h : WF g) : nL g ≤ nBr g := by have := h.2.2.2.1.2; omega
theorem WF.lc (h : WF g) : nL g + carried g = nBr g := h.2.2.2.1.2
theorem WF.b0 (h : WF g) {b : Nat} (hb : b < nBr g) : inR (g (15 + 7 * b)) 0 26 := h.2.2.2.2.2.1 b hb
theorem WF.b2 (h : WF g) {b : Nat} (hb : b < nBr g) : inR (g (15 + 7 * b + 2)) 1 200 := h.2.2.2.2.2.2.1 b hb
theorem WF.b3 (h : WF g) {b : Nat} (hb : b < nBr g) : inR (g (15 + 7 * b + 3)) 0 20 := h.2.2.2.2.2.2.2.1 b hb
theorem WF.b4 (h : WF g) {b : Nat} (hb : b < nBr g) : inR (g (15 + 7 * b + 4)) 0 100 := h.2.2.2.2.2.2.2.2.1 b hb
theorem WF.b6 (h : WF g) {b : Nat} (hb : b < nBr g) : inR (g (15 + 7 * b + 6)) 1 26 := h.2.2.2.2.2.2.2.2.2.1 b hb
theorem WF.pa (h : WF g) {k : Nat} (hk : k < nPl g) : g (171 + 3 * k + 1) = n32 (aheadG g k) ∧ aheadG g k + 1 < nBr g := h.2.2.2.2.2.2.2.2.2.2.1 k hk
theorem WF.l0 (h : WF g) {k : Nat} (hk : k < nL g) : inR (g (207 + 3 * k)) 1 26 := h.2.2.2.2.2.2.2.2.2.2.2.1 k hk
theorem WF.st (h : WF g) {s : Nat} (hs : s < nSt g) : inR (g (99 + 12 * s)) 0 1 ∧ inR (g (99 + 12 * s + 2)) 1 8 ∧ ∀ i, i < ix (g (99 + 12 * s + 2)) → inR (g (99 + 12 * s + 4 + i)) 97 122 := h.2.2.2.2.2.2.2.2.2.2.2.2 s hs
theorem WF.st_b (h : WF g) {b : Nat} (hb : b < nBr g) : inR (g (15 + 7 * b + 2)) 0 200 := by
  obtain ⟨n, h1, h2, h3⟩ := h.b2 hb
  exact ⟨n, by omega, h2, h3⟩
def freeK (k : Nat) : Prop := (k = 9 ∨ 11 ≤ k ∧ k ≤ 14) ∨ (∃ b, b < 12 ∧ (k = 15 + 7 * b + 1 ∨ k = 15 + 7 * b + 5)) ∨ (∃ j, j < 12 ∧ (k = 171 + 3 * j ∨ k = 171 + 3 * j + 2)) ∨ (∃ j, j < 12 ∧ (k = 207 + 3 * j + 1 ∨ k = 207 + 3 * j + 2)) ∨ (∃ s, s < 6 ∧ k = 99 + 12 * s + 3)
theorem WF_free {k : Nat} {v : Int32} (h : WF g) (hk : freeK k) : WF (gup g k v) := by
  have a2 := h.nb
  have a4 := h.ns
  have a6 := h.np
  have a8 := h.nl
  have go : (∀ j, (j < 9 ∨ j = 10) → j ≠ k) → (∀ b w, b < 12 → (w = 0 ∨ w = 2 ∨ w = 3 ∨ w = 4 ∨ w = 6) → 15 + 7 * b + w ≠ k) → (∀ j, j < 12 → 171 + 3 * j + 1 ≠ k) → (∀ j, j < 12 → 207 + 3 * j ≠ k) → (∀ s i, s < 6 → i < 12 → i ≠ 3 → 99 + 12 * s + i ≠ k) → WF (gup g k v) := by
    intro g1 g2 g3 g4 g5
    have e10 : nL (gup g k v) = nL g := by unfold nL; rw [gup_ne (g1 10 (by omega))]
    have eb : ∀ b, b < nBr g → gup g k v (15 + 7 * b) = g (15 + 7 * b) := fun b hb => gup_ne (g2 b 0 (by omega) (by omega))
    have ec : carried (gup g k v) = carried g := by
      unfold carried
      have : nBr (gup g k v) = nBr g := by unfold nBr; rw [gup_ne (g1 6 (by omega))]
      rw [this]
      exact cnt_congr fun b hb => by rw [eb b hb]
    refine WF_of h (gup_ne (g1 6 (by omega))) (gup_ne (g1 7 (by omega))) (gup_ne (g1 8 (by omega))) ?_ ?_ (fun j hj => gup_ne (g1 j (by omega))) ?_ (fun b hb => gup_ne (g2 b 2 (by omega) (by omega))) (fun b hb => gup_ne (g2 b 3 (by omega) (by omega))) ?_ (fun b hb => gup_ne (g2 b 6 (by omega) (by omega))) (fun j hj => gup_ne (g3 j (by omega))) ?_ (fun s hs i hi h3 => gup_ne (g5 s i (by omega) hi h3))
    · rw [e10, gup_ne (g1 10 (by omega))]; exact h.2.2.2.1.1
    · rw [e10, ec]; exact h.lc
    · intro b hb; rw [eb b hb]; exact h.b0 hb
    · intro b hb; rw [gup_ne (g2 b 4 (by omega) (by omega))]; exact h.b4 hb
    · rw [e10]; intro j hj; rw [gup_ne (g4 j (by omega))]; exact h.l0 hj
  rcases hk with hk | ⟨b, hb, hk⟩ | ⟨j, hj, hk⟩ | ⟨j, hj, hk⟩ | ⟨s, hs, hk⟩
  all_goals exact go (fun j hj => by omega) (fun b w hb hw => by omega) (fun j hj => by omega) (fun j hj => by omega) (fun s i hs hi h3 => by omega)
theorem nBr_upd {k : Nat} {v : Int32} (h : 6 ≠ k) : nBr (gup g k v) = nBr g := by unfold nBr; rw [gup_ne h]
theorem nSt_upd {k : Nat} {v : Int32} (h : 7 ≠ k) : nSt (gup g k v) = nSt g := by unfold nSt; rw [gup_ne h]
theorem nPl_upd {k : Nat} {v : Int32} (h : 8 ≠ k) : nPl (gup g k v) = nPl g := by unfold nPl; rw [gup_ne h]
theorem nL_upd {k : Nat} {v : Int32} (h : 10 ≠ k) : nL (gup g k v) = nL g := by unfold nL; rw [gup_ne h]
theorem WF_strG {b : Nat} {v : Int32} (h : WF g) (hb : b < nBr g) : WF (strG g b v) ∧ nBr (strG g b v) = nBr g ∧ nSt (strG g b v) = nSt g ∧ nPl (strG g b v) = nPl g := by
  have a2 := h.nb
  have a4 := h.ns
  have a6 := h.np
  have a8 := h.nl
  have n1 : nBr (strG g b v) = nBr g := nBr_upd (by omega)
  have n2 : nL (strG g b v) = nL g := nL_upd (by omega)
  refine ⟨?_, n1, nSt_upd (by omega), nPl_upd (by omega)⟩
  have ec : carried (strG g b v) = carried g := by
    unfold carried
    rw [n1]
    exact cnt_congr fun c hc => by unfold strG; rw [gup_ne (by omega)]
  refine WF_of h (gup_ne (by omega)) (gup_ne (by omega)) (gup_ne (by omega)) ?_ (by rw [n2, ec]; exact h.lc) (fun j hj => gup_ne (by omega)) ?_ (fun c hc => gup_ne (by omega)) (fun c hc => gup_ne (by omega)) ?_ (fun c hc => gup_ne (by omega)) (fun j hj => gup_ne (by omega)) ?_ (fun s hs i hi h3 => gup_ne (by omega))
  · rw [n2]; unfold strG; rw [gup_ne (by omega)]; exact h.2.2.2.1.1
  · intro c hc; unfold strG; rw [gup_ne (by omega)]; exact h.b0 hc
  · intro c hc
    by_cases e : c = b
    · subst e; unfold strG; rw [gup_eq]; exact imin_imax_R _
    · unfold strG; rw [gup_ne (by omega)]; exact h.b4 hc
  · rw [n2]; intro j hj; unfold strG; rw [gup_ne (by omega)]; exact h.l0 hj
theorem WF_exchG {b : Nat} (h : WF g) (hb : b + 1 < nBr g) : WF (exchG g b) ∧ nBr (exchG g b) = nBr g ∧ nSt (exchG g b) = nSt g ∧ nPl (exchG g b) = nPl g := by
  have a2 := h.nb
  have a4 := h.ns
  have a6 := h.np
  have a8 := h.nl
  have u : ∀ j, j ≠ 15 + 7 * b → j ≠ 15 + 7 * (b + 1) → exchG g b j = g j := fun j h1 h2 => by unfold exchG; rw [gup_ne h2, gup_ne h1]
  have ub : exchG g b (15 + 7 * b) = g (15 + 7 * (b + 1)) := by unfold exchG; rw [gup_ne (by omega), gup_eq]
  have ub1 : exchG g b (15 + 7 * (b + 1)) = g (15 + 7 * b) := by unfold exchG; rw [gup_eq]
  have n1 : nBr (exchG g b) = nBr g := by unfold nBr; rw [u _ (by omega) (by omega)]
  have n2 : nL (exchG g b) = nL g := by unfold nL; rw [u _ (by omega) (by omega)]
  refine ⟨?_, n1, by unfold nSt; rw [u _ (by omega) (by omega)], by unfold nPl; rw [u _ (by omega) (by omega)]⟩
  have ec : carried (exchG g b) = carried g := by
    unfold carried
    rw [n1]
    refine cnt_swap (b := b) hb ?_ ?_ ?_
    · rw [ub]
    · rw [ub1]
    · intro i h1 h2; rw [u _ (by omega) (by omega)]
  refine WF_of h (u _ (by omega) (by omega)) (u _ (by omega) (by omega)) (u _ (by omega) (by omega)) ?_ (by rw [n2, ec]; exact h.lc) (fun j hj => u _ (by omega) (by omega)) ?_ (fun c hc => u _ (by omega) (by omega)) (fun c hc => u _ (by omega) (by omega)) ?_ (fun c hc => u _ (by omega) (by omega)) (fun j hj => u _ (by omega) (by omega)) ?_ (fun s hs i hi h3 => u _ (by omega) (by omega))
  · rw [n2, u _ (by omega) (by omega)]; exact h.2.2.2.1.1
  · intro c hc
    by_cases e : c = b
    · subst e; rw [ub]; exact h.b0 (by omega)
    · by_cases e1 : c = b + 1
      · subst e1; rw [ub1]; exact h.b0 (by omega)
      · rw [u _ (by omega) (by omega)]; exact h.b0 hc
  · intro c hc; rw [u _ (by omega) (by omega)]; exact h.b4 hc
  · rw [n2]; intro j hj; rw [u _ (by omega) (by omega)]; exact h.l0 hj
theorem WF_freeN {k : Nat} {v : Int32} (h : WF g) (hk : freeK k) : WF (gup g k v) ∧ nBr (gup g k v) = nBr g ∧ nSt (gup g k v) = nSt g ∧ nPl (gup g k v) = nPl g := by
  refine ⟨WF_free h hk, nBr_upd ?_, nSt_upd ?_, nPl_upd ?_⟩ <;> (rintro rfl; rcases hk with hk | ⟨b, hb, hk⟩ | ⟨j, hj, hk⟩ | ⟨j, hj, hk⟩ | ⟨s, hs, hk⟩ <;> omega)
def keeps (g g' : PG) : Prop := WF g' ∧ nBr g' = nBr g ∧ nSt g' = nSt g ∧ nPl g' = nPl g
theorem keeps.tr {g1 g2 g3 : PG} (h1 : keeps g1 g2) (h2 : keeps g2 g3) : keeps g1 g3 := ⟨h2.1, h2.2.1.trans h1.2.1, h2.2.2.1.trans h1.2.2.1, h2.2.2.2.trans h1.2.2.2⟩
theorem keeps.rf (h : WF g) : keeps g g := ⟨h, rfl, rfl, rfl⟩
theorem WF_swapsG {b : Nat} (h : WF g) (hb : b + 1 < nBr g) : keeps g (swapsG g b) := by
  have k1 : keeps g (exchG g b) := WF_exchG h hb
  have k2 : keeps g (strG (exchG g b) b (-(n32 2))) := k1.tr (WF_strG k1.1 (by rw [k1.2.1]; omega))
  have k3 : keeps g (strG (strG (exchG g b) b (-(n32 2))) (b + 1) (-(n32 2))) := k2.tr (WF_strG k2.1 (by rw [k2.2.1]; omega))
  exact k3.tr (WF_freeN k3.1 (Or.inl (by omega)))
theorem WF_planG {k : Nat} (h : WF g) (hk : k < nPl g) : keeps g (planG k g) := by
  have a6 := h.np
  unfold planG
  split
  · split
    · have k1 := WF_swapsG h (h.pa hk).2
      exact k1.tr (WF_freeN k1.1 (Or.inr (Or.inr (Or.inl ⟨k, by omega, Or.inr rfl⟩))))
    · have k1 : keeps g (gup g 12 (g 12 + n32 1)) := WF_freeN h (Or.inl (by omega))
      exact k1.tr (WF_freeN k1.1 (Or.inr (Or.inr (Or.inl ⟨k, by omega, Or.inr rfl⟩))))
  · exact keeps.rf h
theorem WF_moveG {b : Nat} (h : WF g) (hb : b < nBr g) : keeps g (moveG b g) := by
  have a2 := h.nb
  unfold moveG
  split
  · exact WF_strG h hb
  · have k1 : keeps g (gup g (15 + 7 * b + 1) (goalG g b)) := WF_freeN h (Or.inr (Or.inl ⟨b, by omega, Or.inl rfl⟩))
    have k2 : keeps g (strG (gup g (15 + 7 * b + 1) (goalG g b)) b (-(g (15 + 7 * b + 3)))) := k1.tr (WF_strG k1.1 (by rw [k1.2.1]; exact hb))
    exact k2.tr (WF_freeN k2.1 (Or.inr (Or.inl ⟨b, by omega, Or.inr rfl⟩)))
end WS
end
section
/-! Dropping and lifting keep it. -/
section WL
variable {g : PG}
theorem ban_pos (h : WF g) {b : Nat} (hb : b < nBr g) (hp : ¬ g (15 + 7 * b) ≤ n32 0) : inR (g (15 + 7 * b)) 1 26 ∧ ¬ g (15 + 7 * b) = n32 0 := by
  obtain ⟨n, h1, h2, h3⟩ := h.b0 hb
  have : n ≠ 0 := by rintro rfl; exact hp (by rw [h3]; exact n32_rfl 0)
  refine ⟨⟨n, by omega, h2, h3⟩, ?_⟩
  rw [h3]; intro e; exact this (n32_inj (by omega) (by omega) e)
theorem carried_pos (_h : WF g) {b : Nat} (hb : b < nBr g) (hp : ¬ g (15 + 7 * b) = n32 0) : 1 ≤ carried g := by
  have : 0 < carried g := cnt_pos.mpr ⟨b, hb, decide_eq_true hp⟩
  omega
theorem dropG_at (g : PG) (b : Nat) {i : Nat} (h1 : i ≠ 207 + 3 * nL g) (h2 : i ≠ 207 + 3 * nL g + 1) (h3 : i ≠ 207 + 3 * nL g + 2) (h4 : i ≠ 10) (h5 : i ≠ 13) (h6 : i ≠ 15 + 7 * b) : dropG g b i = g i := by
  unfold dropG; rw [gup_ne h6, gup_ne h5, gup_ne h4, gup_ne h3, gup_ne h2, gup_ne h1]
theorem nL_dropG (h : WF g) {b : Nat} (hb : b < nBr g) : dropG g b 10 = n32 (nL g + 1) ∧ nL (dropG g b) = nL g + 1 := by
  have a2 := h.nb
  have a8 := h.nl
  have e : dropG g b 10 = n32 (nL g + 1) := by
    unfold dropG
    rw [gup_ne (by omega), gup_ne (by omega), gup_eq, h.2.2.2.1.1, n32_add]
  exact ⟨e, by unfold nL at e ⊢; rw [e, ix_n32 (by unfold nL at a8; omega)]⟩
theorem WF_dropG {b : Nat} (h : WF g) (hb : b < nBr g) (hp : ¬ g (15 + 7 * b) ≤ n32 0) : keeps g (dropG g b) := by
  have a2 := h.nb
  have a4 := h.ns
  have a6 := h.np
  have a8 := h.lc
  obtain ⟨p1, p2⟩ := ban_pos h hb hp
  have p3 := carried_pos h hb p2
  obtain ⟨e1, e2⟩ := nL_dropG h hb
  have n1 : nBr (dropG g b) = nBr g := by unfold nBr; rw [dropG_at g b (by omega) (by omega) (by omega) (by omega) (by omega) (by omega)]
  have eb : dropG g b (15 + 7 * b) = n32 0 := by unfold dropG; rw [gup_eq]
  have ec : carried (dropG g b) + 1 = carried g := by
    unfold carried
    rw [n1]
    have e9 : cnt (nBr g) (fun c => decide (¬ dropG g b (15 + 7 * c) = n32 0)) = cnt (nBr g) (fun c => if c = b then false else decide (¬ g (15 + 7 * c) = n32 0)) := cnt_congr fun c hc => by
      by_cases e : c = b
      · subst e; rw [if_pos rfl, eb]; simp
      · rw [if_neg e, dropG_at g b (by omega) (by omega) (by omega) (by omega) (by omega) (by omega)]
    rw [e9]
    have := cnt_chg (n := nBr g) (b := b) (p := fun b => decide (¬ g (15 + 7 * b) = n32 0)) (q := fun c => if c = b then false else decide (¬ g (15 + 7 * c) = n32 0)) hb (fun i hi => if_neg hi)
    simp [p2] at this
    simpa using this
  refine ⟨?_, n1, ?_, ?_⟩
  · refine WF_of h (dropG_at g b (by omega) (by omega) (by omega) (by omega) (by omega) (by omega)) (dropG_at g b (by omega) (by omega) (by omega) (by omega) (by omega) (by omega)) (dropG_at g b (by omega) (by omega) (by omega) (by omega) (by omega) (by omega)) (by rw [e2]; exact e1) (by omega) (fun j hj => dropG_at g b (by omega) (by omega) (by omega) (by omega) (by omega) (by omega)) ?_ (fun c hc => dropG_at g b (by omega) (by omega) (by omega) (by omega) (by omega) (by omega)) (fun c hc => dropG_at g b (by omega) (by omega) (by omega) (by omega) (by omega) (by omega)) ?_ (fun c hc => dropG_at g b (by omega) (by omega) (by omega) (by omega) (by omega) (by omega)) (fun j hj => dropG_at g b (by omega) (by omega) (by omega) (by omega) (by omega) (by omega)) ?_ (fun s hs i hi h3 => dropG_at g b (by omega) (by omega) (by omega) (by omega) (by omega) (by omega))
    · intro c hc
      by_cases e : c = b
      · subst e; rw [eb]; exact ⟨0, by omega, by omega, rfl⟩
      · rw [dropG_at g b (by omega) (by omega) (by omega) (by omega) (by omega) (by omega)]; exact h.b0 hc
    · intro c hc; rw [dropG_at g b (by omega) (by omega) (by omega) (by omega) (by omega) (by omega)]; exact h.b4 hc
    · rw [e2]; intro j hj
      by_cases e : j = nL g
      · subst e
        have : dropG g b (207 + 3 * nL g) = g (15 + 7 * b) := by
          unfold dropG; rw [gup_ne (by omega), gup_ne (by omega), gup_ne (by omega), gup_ne (by omega), gup_ne (by omega), gup_eq]
        rw [this]; exact p1
      · rw [dropG_at g b (by omega) (by omega) (by omega) (by omega) (by omega) (by omega)]; exact h.l0 (by omega)
  · unfold nSt; rw [dropG_at g b (by omega) (by omega) (by omega) (by omega) (by omega) (by omega)]
  · unfold nPl; rw [dropG_at g b (by omega) (by omega) (by omega) (by omega) (by omega) (by omega)]
theorem WF_weakG {b : Nat} (h : WF g) (hb : b < nBr g) : keeps g (weakG b g) := by
  unfold weakG
  split
  · rename_i hc; exact WF_dropG h hb hc.1
  · exact keeps.rf h
theorem pickG_at (g : PG) (b j : Nat) {i : Nat} (h1 : i ≠ 14) (h2 : i ≠ 10) (h3 : i ≠ 15 + 7 * b) (h4 : i < 207 + 3 * j ∨ 207 + 3 * (nL g - 1) ≤ i) : pickG g b j i = g i := by
  unfold pickG shiftG
  try dsimp only
  rw [gup_ne h1, if_neg (by omega), gup_ne h2, gup_ne h3]
theorem pickG_sh (g : PG) {b j : Nat} {i : Nat} (hb : b < 12) (h4 : 207 + 3 * j ≤ i) (h5 : i < 207 + 3 * (nL g - 1)) : pickG g b j i = g (i + 3) := by
  unfold pickG shiftG
  try dsimp only
  rw [gup_ne (by omega), if_pos ⟨h4, h5⟩, gup_ne (by omega), gup_ne (by omega)]
theorem pickG_b (g : PG) {b j : Nat} (hb : b < 12) : pickG g b j (15 + 7 * b) = g (207 + 3 * j) := by
  unfold pickG shiftG
  try dsimp only
  rw [gup_ne (by omega), if_neg (by omega), gup_ne (by omega), gup_eq]
theorem pickG_10 (g : PG) {b j : Nat} (hb : b < 12) : pickG g b j 10 = g 10 - n32 1 := by
  unfold pickG shiftG
  try dsimp only
  rw [gup_ne (by omega), if_neg (by omega), gup_eq]
theorem WF_pickG {b j : Nat} (h : WF g) (hb : b < nBr g) (hp : g (15 + 7 * b) = n32 0) (hj : j < nL g) : keeps g (pickG g b j) := by
  have a2 := h.nb
  have a4 := h.ns
  have a6 := h.np
  have a8 := h.lc
  have a9 := h.nl
  have e1 : pickG g b j 10 = n32 (nL g - 1) := by rw [pickG_10 g (by omega), h.2.2.2.1.1, n32_sub (by omega)]
  have e2 : nL (pickG g b j) = nL g - 1 := by
    have : ix (pickG g b j 10) = nL g - 1 := by rw [e1, ix_n32 (by omega)]
    exact this
  have u : ∀ i, i ≠ 14 → i ≠ 10 → i ≠ 15 + 7 * b → i < 207 → pickG g b j i = g i := fun i h1 h2 h3 h4 => pickG_at g b j h1 h2 h3 (Or.inl (by omega))
  have n1 : nBr (pickG g b j) = nBr g := by unfold nBr; rw [u _ (by omega) (by omega) (by omega) (by omega)]
  have eb := pickG_b g (b := b) (j := j) (by omega)
  obtain ⟨q, q1, q2, q3⟩ := h.l0 hj
  have ne : ¬ pickG g b j (15 + 7 * b) = n32 0 := by
    rw [eb, q3]; intro e
    have := n32_inj (by omega) (by omega) e
    omega
  have ec : carried (pickG g b j) = carried g + 1 := by
    unfold carried
    rw [n1]
    have e9 : cnt (nBr g) (fun c => decide (¬ pickG g b j (15 + 7 * c) = n32 0)) = cnt (nBr g) (fun c => if c = b then true else decide (¬ g (15 + 7 * c) = n32 0)) := cnt_congr fun c hc => by
      by_cases e : c = b
      · subst e; rw [if_pos rfl]; exact decide_eq_true ne
      · rw [if_neg e, u _ (by omega) (by omega) (by omega) (by omega)]
    rw [e9]
    have := cnt_chg (n := nBr g) (b := b) (p := fun b => decide (¬ g (15 + 7 * b) = n32 0)) (q := fun c => if c = b then true else decide (¬ g (15 + 7 * c) = n32 0)) hb (fun i hi => if_neg hi)
    simp [hp] at this
    simpa using this
  refine ⟨?_, n1, ?_, ?_⟩
  · refine WF_of h (u _ (by omega) (by omega) (by omega) (by omega)) (u _ (by omega) (by omega) (by omega) (by omega)) (u _ (by omega) (by omega) (by omega) (by omega)) (by rw [e2]; exact e1) (by omega) (fun j hj => u _ (by omega) (by omega) (by omega) (by omega)) ?_ (fun c hc => u _ (by omega) (by omega) (by omega) (by omega)) (fun c hc => u _ (by omega) (by omega) (by omega) (by omega)) ?_ (fun c hc => u _ (by omega) (by omega) (by omega) (by omega)) (fun j hj => u _ (by omega) (by omega) (by omega) (by omega)) ?_ (fun s hs i hi h3 => u _ (by omega) (by omega) (by omega) (by omega))
    · intro c hc
      by_cases e : c = b
      · subst e; rw [eb]; exact ⟨q, by omega, q2, q3⟩
      · rw [u _ (by omega) (by omega) (by omega) (by omega)]; exact h.b0 hc
    · intro c hc; rw [u _ (by omega) (by omega) (by omega) (by omega)]; exact h.b4 hc
    · rw [e2]; intro k hk
      by_cases e : k < j
      · rw [pickG_at g b j (by omega) (by omega) (by omega) (Or.inl (by omega))]; exact h.l0 (by omega)
      · rw [pickG_sh g (by omega) (by omega) (by omega), show 207 + 3 * k + 3 = 207 + 3 * (k + 1) by omega]; exact h.l0 (by omega)
  · unfold nSt; rw [u _ (by omega) (by omega) (by omega) (by omega)]
  · unfold nPl; rw [u _ (by omega) (by omega) (by omega) (by omega)]
theorem lieG_rng (g : PG) (lo hi : Int32) (h : nL g < 2147483648) : lieG g lo hi = -(n32 1) ∨ ∃ j, j < nL g ∧ lieG g lo hi = n32 j := by
  rcases bst_rng (nL g) (fun k => decide (¬ g (207 + 3 * k + 1) < lo) && decide (¬ hi < g (207 + 3 * k + 1))) (fun k b => decide (¬ g (207 + 3 * k + 1) ≤ g (207 + 3 * b + 1))) h with h1 | ⟨k, h1, -, h2⟩
  · exact Or.inl h1
  · exact Or.inr ⟨k, h1, h2⟩
theorem ban_zero (h : WF g) {b : Nat} (hb : b < nBr g) (hp : ¬ n32 0 < g (15 + 7 * b)) : g (15 + 7 * b) = n32 0 := by
  obtain ⟨n, h1, h2, h3⟩ := h.b0 hb
  rw [h3] at hp ⊢
  by_cases e : n = 0
  · rw [e]
  · exact absurd ((n32_lt (by omega) (by omega)).mpr (by omega)) hp
theorem WF_liftG {bf : Nat → Int32} {b : Nat} (h : WF g) (hb : b < nBr g) : keeps g (liftG bf b g) := by
  have a2 := h.nb
  have a9 := h.nl
  unfold liftG
  split
  · exact keeps.rf h
  · rename_i hp
    split
    · split
      · exact keeps.rf h
      · rename_i h1 h2
        rcases lieG_rng g (bf b) (g (15 + 7 * b + 1)) (by omega) with h3 | ⟨j, h3, h4⟩
        · exact absurd h3 h2
        · rw [h4, ix_n32 (by omega)]
          exact WF_pickG h hb (ban_zero h hb hp) h3
    · exact keeps.rf h
theorem itr_inv {α : Type} {P : Nat → α → Prop} {f : Nat → α → α} {a : α} {n : Nat} (h0 : P 0 a) (h : ∀ i x, i < n → P i x → P (i + 1) (f i x)) : P n (itr n f a) := by
  induction n with
  | zero => exact h0
  | succ n ih => exact h n _ (by omega) (ih fun i x hi hx => h i x (by omega) hx)
theorem keeps_itr {f : Nat → PG → PG} {n : Nat} (hg : WF g) (h : ∀ i x, i < n → keeps g x → keeps x (f i x)) : keeps g (itr n f g) :=
  itr_inv (P := fun _ x => keeps g x) (keeps.rf hg) (fun i x hi hx => hx.tr (h i x hi hx))
theorem WF_plansG (h : WF g) : keeps g (plansG g) := keeps_itr h fun i x hi hx => WF_planG hx.1 (by rw [hx.2.2.2]; exact hi)
theorem WF_movesG (h : WF g) : keeps g (movesG g) := keeps_itr h fun i x hi hx => WF_moveG hx.1 (by rw [hx.2.1]; exact hi)
theorem WF_weaksG (h : WF g) : keeps g (weaksG g) := keeps_itr h fun i x hi hx => WF_weakG hx.1 (by rw [hx.2.1]; exact hi)
theorem WF_liftsG {bf : Nat → Int32} (h : WF g) : keeps g (liftsG bf g) := keeps_itr h fun i x hi hx => WF_liftG hx.1 (by rw [hx.2.1]; exact hi)
theorem WF_tkG (h : WF g) : keeps g (tkG g) := by
  have k0 : keeps g (gup g 9 (g 9 + n32 1)) := WF_freeN h (Or.inl (Or.inl rfl))
  have k1 := k0.tr (WF_plansG k0.1)
  have k2 := k1.tr (WF_movesG k1.1)
  have k3 := k2.tr (WF_weaksG k2.1)
  exact k3.tr (WF_liftsG k3.1)
end WL
end
section
/-! The reference's tick, over its array. -/
section RT
variable {D : Nat} {m : XM} {g : PG} {E : Nat → XM → Prop}
/-- the places before a tick, as far as they are written -/
def bfm (m : XM) (g : PG) (i : Nat) : XM := fun a k => if a = 291 ∧ k < i then g (15 + 7 * k + 1) else m a k
theorem bfm_um (m : XM) (g : PG) (i : Nat) : um (bfm m g i) 291 i (g (15 + 7 * i + 1)) = bfm m g (i + 1) := by
  funext a k
  unfold um bfm
  by_cases h1 : a = 291
  · subst h1
    by_cases h2 : k = i
    · subst h2; simp
    · by_cases h3 : k < i
      · simp [h2, h3, show k < i + 1 by omega]
      · simp [h2, h3, show ¬ k < i + 1 by omega]
  · simp [h1]
end RT
end
section
/-! The reference lifts; its tick up to the reading of words. -/
section RT2
variable {D : Nat} {m : XM} {g : PG} {E : Nat → XM → Prop}
theorem shiftG_0 (g : PG) (lo : Nat) : shiftG g lo lo = g := by
  funext i; unfold shiftG; rw [if_neg (by omega)]
theorem shiftG_succ (g : PG) {lo i : Nat} (h : lo ≤ i) : gup (shiftG g lo i) i (shiftG g lo i (i + 3)) = shiftG g lo (i + 1) := by
  funext j
  unfold gup shiftG
  by_cases h1 : j = i
  · subst h1; rw [if_pos rfl, if_neg (by omega), if_pos (by omega)]
  · rw [if_neg h1]
    by_cases h2 : lo ≤ j ∧ j < i
    · rw [if_pos h2, if_pos (by omega)]
    · rw [if_neg h2, if_neg (by omega)]
theorem place_moves (g : PG) : ∀ i j, i ≤ j → itr i moveG g (15 + 7 * j + 1) = g (15 + 7 * j + 1) := by
  intro i
  induction i with
  | zero => intro j _; rfl
  | succ i ih =>
    intro j hj
    have e : itr (i + 1) moveG g = moveG i (itr i moveG g) := rfl
    rw [e, ← ih j (by omega)]
    unfold moveG strG
    split
    · rw [gup_ne (by omega)]
    · rw [gup_ne (by omega), gup_ne (by omega), gup_ne (by omega)]
/-- what stays of a memory over a tick of the reference: all but its array, the places before and the text -/
def rfr (m m' : XM) : Prop := ∀ a k, a ≠ 284 → a ≠ 290 → a ≠ 291 → ¬ (a = 283 ∧ k = 18) → m' a k = m a k
theorem rfr.rf (m : XM) : rfr m m := fun _ _ _ _ _ _ => rfl
theorem rfr.tr {m1 m2 m3 : XM} (h1 : rfr m1 m2) (h2 : rfr m2 m3) : rfr m1 m3 := fun a k c1 c2 c3 c4 => (h2 a k c1 c2 c3 c4).trans (h1 a k c1 c2 c3 c4)
theorem bfm_fr (m : XM) (g : PG) (i : Nat) : rfr m (bfm m g i) := fun a k _ _ c _ => if_neg fun e => c e.1
end RT2
end
section
/-! A State of the component at an address, and the picture that it holds. -/
def lvn (nb nl np d k i : Nat) : Prop :=
  (d = 0 ∧ ((k = 0 ∧ i = 9) ∨ (k = 1 ∧ i = 11) ∨ (k = 2 ∧ i = 13) ∨ (k = 3 ∧ i = 14))) ∨ (d = 1 ∧ k < 6 ∧ i = k) ∨ (k = 0 ∧ ((d = 3 ∧ i = 6) ∨ (d = 12 ∧ i = 10) ∨ (d = 16 ∧ i = 8))) ∨
  (k < nb ∧ ((d = 4 ∧ i = 15 + 7 * k + 6) ∨ (d = 5 ∧ i = 15 + 7 * k + 2) ∨ (d = 6 ∧ i = 15 + 7 * k + 3) ∨ (d = 7 ∧ i = 15 + 7 * k + 4) ∨ (d = 8 ∧ i = 15 + 7 * k) ∨ (d = 9 ∧ i = 15 + 7 * k + 1) ∨ (d = 11 ∧ i = 15 + 7 * k + 5))) ∨
  (k < nl ∧ ((d = 13 ∧ i = 207 + 3 * k) ∨ (d = 14 ∧ i = 207 + 3 * k + 1) ∨ (d = 15 ∧ i = 207 + 3 * k + 2))) ∨
  (k < np ∧ ((d = 17 ∧ i = 171 + 3 * k) ∨ (d = 18 ∧ i = 171 + 3 * k + 1) ∨ (d = 19 ∧ i = 171 + 3 * k + 2)))
theorem lv_tm {nb nl np : Nat} : lvn nb nl np 0 0 9 := Or.inl (⟨rfl, Or.inl (⟨rfl, rfl⟩)⟩)
theorem lv_sw {nb nl np : Nat} : lvn nb nl np 0 1 11 := Or.inl (⟨rfl, Or.inr (Or.inl (⟨rfl, rfl⟩))⟩)
theorem lv_dr {nb nl np : Nat} : lvn nb nl np 0 2 13 := Or.inl (⟨rfl, Or.inr (Or.inr (Or.inl (⟨rfl, rfl⟩)))⟩)
theorem lv_pk {nb nl np : Nat} : lvn nb nl np 0 3 14 := Or.inl (⟨rfl, Or.inr (Or.inr (Or.inr (⟨rfl, rfl⟩)))⟩)
theorem lv_se {nb nl np k : Nat} (h : k < 6) : lvn nb nl np 1 k k := Or.inr (Or.inl (⟨rfl, h, rfl⟩))
theorem lv_nb {nb nl np : Nat} : lvn nb nl np 3 0 6 := Or.inr (Or.inr (Or.inl (⟨rfl, Or.inl (⟨rfl, rfl⟩)⟩)))
theorem lv_nl {nb nl np : Nat} : lvn nb nl np 12 0 10 := Or.inr (Or.inr (Or.inl (⟨rfl, Or.inr (Or.inl (⟨rfl, rfl⟩))⟩)))
theorem lv_np {nb nl np : Nat} : lvn nb nl np 16 0 8 := Or.inr (Or.inr (Or.inl (⟨rfl, Or.inr (Or.inr (⟨rfl, rfl⟩))⟩)))
theorem lv_own {nb nl np k : Nat} (h : k < nb) : lvn nb nl np 4 k (15 + 7 * k + 6) := Or.inr (Or.inr (Or.inr (Or.inl (⟨h, Or.inl (⟨rfl, rfl⟩)⟩))))
theorem lv_step {nb nl np k : Nat} (h : k < nb) : lvn nb nl np 5 k (15 + 7 * k + 2) := Or.inr (Or.inr (Or.inr (Or.inl (⟨h, Or.inr (Or.inl (⟨rfl, rfl⟩))⟩))))
theorem lv_lag {nb nl np k : Nat} (h : k < nb) : lvn nb nl np 6 k (15 + 7 * k + 3) := Or.inr (Or.inr (Or.inr (Or.inl (⟨h, Or.inr (Or.inr (Or.inl (⟨rfl, rfl⟩)))⟩))))
theorem lv_str {nb nl np k : Nat} (h : k < nb) : lvn nb nl np 7 k (15 + 7 * k + 4) := Or.inr (Or.inr (Or.inr (Or.inl (⟨h, Or.inr (Or.inr (Or.inr (Or.inl (⟨rfl, rfl⟩))))⟩))))
theorem lv_ban {nb nl np k : Nat} (h : k < nb) : lvn nb nl np 8 k (15 + 7 * k) := Or.inr (Or.inr (Or.inr (Or.inl (⟨h, Or.inr (Or.inr (Or.inr (Or.inr (Or.inl (⟨rfl, rfl⟩)))))⟩))))
theorem lv_pla {nb nl np k : Nat} (h : k < nb) : lvn nb nl np 9 k (15 + 7 * k + 1) := Or.inr (Or.inr (Or.inr (Or.inl (⟨h, Or.inr (Or.inr (Or.inr (Or.inr (Or.inr (Or.inl (⟨rfl, rfl⟩))))))⟩))))
theorem lv_mov {nb nl np k : Nat} (h : k < nb) : lvn nb nl np 11 k (15 + 7 * k + 5) := Or.inr (Or.inr (Or.inr (Or.inl (⟨h, Or.inr (Or.inr (Or.inr (Or.inr (Or.inr (Or.inr (⟨rfl, rfl⟩))))))⟩))))
theorem lv_ll {nb nl np k : Nat} (h : k < nl) : lvn nb nl np 13 k (207 + 3 * k) := Or.inr (Or.inr (Or.inr (Or.inr (Or.inl (⟨h, Or.inl (⟨rfl, rfl⟩)⟩)))))
theorem lv_lp {nb nl np k : Nat} (h : k < nl) : lvn nb nl np 14 k (207 + 3 * k + 1) := Or.inr (Or.inr (Or.inr (Or.inr (Or.inl (⟨h, Or.inr (Or.inl (⟨rfl, rfl⟩))⟩)))))
theorem lv_lti {nb nl np k : Nat} (h : k < nl) : lvn nb nl np 15 k (207 + 3 * k + 2) := Or.inr (Or.inr (Or.inr (Or.inr (Or.inl (⟨h, Or.inr (Or.inr (⟨rfl, rfl⟩))⟩)))))
theorem lv_pt {nb nl np k : Nat} (h : k < np) : lvn nb nl np 17 k (171 + 3 * k) := Or.inr (Or.inr (Or.inr (Or.inr (Or.inr (⟨h, Or.inl (⟨rfl, rfl⟩)⟩)))))
theorem lv_pa {nb nl np k : Nat} (h : k < np) : lvn nb nl np 18 k (171 + 3 * k + 1) := Or.inr (Or.inr (Or.inr (Or.inr (Or.inr (⟨h, Or.inr (Or.inl (⟨rfl, rfl⟩))⟩)))))
theorem lv_po {nb nl np k : Nat} (h : k < np) : lvn nb nl np 19 k (171 + 3 * k + 2) := Or.inr (Or.inr (Or.inr (Or.inr (Or.inr (⟨h, Or.inr (Or.inr (⟨rfl, rfl⟩))⟩)))))
theorem lvn_up {nb nl np nb' nl' np' d k i : Nat} (h : lvn nb nl np d k i) (h1 : nb ≤ nb') (h2 : nl ≤ nl') (h3 : np ≤ np') : lvn nb' nl' np' d k i := by
  rcases h with h | h | h | h | h | h
  · exact Or.inl h
  · exact Or.inr (Or.inl h)
  · exact Or.inr (Or.inr (Or.inl h))
  · exact Or.inr (Or.inr (Or.inr (Or.inl ⟨Nat.lt_of_lt_of_le h.1 h1, h.2⟩)))
  · exact Or.inr (Or.inr (Or.inr (Or.inr (Or.inl ⟨Nat.lt_of_lt_of_le h.1 h2, h.2⟩))))
  · exact Or.inr (Or.inr (Or.inr (Or.inr (Or.inr ⟨Nat.lt_of_lt_of_le h.1 h3, h.2⟩))))
/-- from a cell to its place in the picture, and back -/
def fwd (d k : Nat) : Nat := match d with
  | 0 => [9, 11, 13, 14].getD k 0
  | 1 => k
  | 3 => 6
  | 12 => 10
  | 16 => 8
  | 4 => 15 + 7 * k + 6
  | 5 => 15 + 7 * k + 2
  | 6 => 15 + 7 * k + 3
  | 7 => 15 + 7 * k + 4
  | 8 => 15 + 7 * k
  | 9 => 15 + 7 * k + 1
  | 11 => 15 + 7 * k + 5
  | 13 => 207 + 3 * k
  | 14 => 207 + 3 * k + 1
  | 15 => 207 + 3 * k + 2
  | 17 => 171 + 3 * k
  | 18 => 171 + 3 * k + 1
  | 19 => 171 + 3 * k + 2
  | _ => 0
def bwd (i : Nat) : Nat × Nat := if i < 15 then ([1, 1, 1, 1, 1, 1, 3, 99, 16, 0, 12, 0, 99, 0, 0].getD i 0, [0, 1, 2, 3, 4, 5, 0, 0, 0, 0, 0, 1, 0, 2, 3].getD i 0) else if i < 99 then ([8, 9, 5, 6, 7, 11, 4].getD ((i - 15) % 7) 0, (i - 15) / 7) else if i < 207 then (17 + (i - 171) % 3, (i - 171) / 3) else (13 + (i - 207) % 3, (i - 207) / 3)
theorem bwd_b {k w : Nat} (hk : k < 12) (hw : w < 7) : bwd (15 + 7 * k + w) = ([8, 9, 5, 6, 7, 11, 4].getD w 0, k) := by
  unfold bwd
  rw [if_neg (by omega), if_pos (by omega), show (15 + 7 * k + w - 15) % 7 = w by omega, show (15 + 7 * k + w - 15) / 7 = k by omega]
theorem bwd_p {k w : Nat} (hk : k < 12) (hw : w < 3) : bwd (171 + 3 * k + w) = (17 + w, k) := by
  unfold bwd
  rw [if_neg (by omega), if_neg (by omega), if_pos (by omega), show (171 + 3 * k + w - 171) % 3 = w by omega, show (171 + 3 * k + w - 171) / 3 = k by omega]
theorem bwd_l {k w : Nat} (hk : k < 12) (hw : w < 3) : bwd (207 + 3 * k + w) = (13 + w, k) := by
  unfold bwd
  rw [if_neg (by omega), if_neg (by omega), if_neg (by omega), show (207 + 3 * k + w - 207) % 3 = w by omega, show (207 + 3 * k + w - 207) / 3 = k by omega]
theorem bwd_s : ∀ k, k < 6 → bwd k = (1, k) := by decide
theorem lvn_fb {d k i : Nat} (h : lvn 12 12 12 d k i) : fwd d k = i ∧ bwd i = (d, k) := by
  rcases h with ⟨rfl, ⟨rfl, rfl⟩ | ⟨rfl, rfl⟩ | ⟨rfl, rfl⟩ | ⟨rfl, rfl⟩⟩ | ⟨rfl, h, rfl⟩ | ⟨rfl, ⟨rfl, rfl⟩ | ⟨rfl, rfl⟩ | ⟨rfl, rfl⟩⟩ | ⟨h, ⟨rfl, rfl⟩ | ⟨rfl, rfl⟩ | ⟨rfl, rfl⟩ | ⟨rfl, rfl⟩ | ⟨rfl, rfl⟩ | ⟨rfl, rfl⟩ | ⟨rfl, rfl⟩⟩ | ⟨h, ⟨rfl, rfl⟩ | ⟨rfl, rfl⟩ | ⟨rfl, rfl⟩⟩ | ⟨h, ⟨rfl, rfl⟩ | ⟨rfl, rfl⟩ | ⟨rfl, rfl⟩⟩
  · exact ⟨rfl, rfl⟩
  · exact ⟨rfl, rfl⟩
  · exact ⟨rfl, rfl⟩
  · exact ⟨rfl, rfl⟩
  · exact ⟨rfl, bwd_s _ h⟩
  · exact ⟨rfl, rfl⟩
  · exact ⟨rfl, rfl⟩
  · exact ⟨rfl, rfl⟩
  · exact ⟨rfl, bwd_b h (by omega)⟩
  · exact ⟨rfl, bwd_b h (by omega)⟩
  · exact ⟨rfl, bwd_b h (by omega)⟩
  · exact ⟨rfl, bwd_b h (by omega)⟩
  · exact ⟨rfl, bwd_b (w := 0) h (by omega)⟩
  · exact ⟨rfl, bwd_b h (by omega)⟩
  · exact ⟨rfl, bwd_b h (by omega)⟩
  · exact ⟨rfl, bwd_l (w := 0) h (by omega)⟩
  · exact ⟨rfl, bwd_l h (by omega)⟩
  · exact ⟨rfl, bwd_l h (by omega)⟩
  · exact ⟨rfl, bwd_p (w := 0) h (by omega)⟩
  · exact ⟨rfl, bwd_p h (by omega)⟩
  · exact ⟨rfl, bwd_p h (by omega)⟩
theorem lvn_inj {d k d' k' i : Nat} (h : lvn 12 12 12 d k i) (h' : lvn 12 12 12 d' k' i) : d = d' ∧ k = k' := by
  have e := (lvn_fb h).2.symm.trans (lvn_fb h').2
  exact ⟨congrArg Prod.fst e, congrArg Prod.snd e⟩
theorem lvn_fun {d k i i' : Nat} (h : lvn 12 12 12 d k i) (h' : lvn 12 12 12 d k i') : i = i' := (lvn_fb h).1.symm.trans (lvn_fb h').1
theorem lvn_d {nb nl np d k i : Nat} (h : lvn nb nl np d k i) : d < 20 ∧ d ≠ 2 ∧ d ≠ 10 := by
  rcases h with h | h | h | h | h | h <;> omega
theorem lvn_i {nb nl np d k i : Nat} (h : lvn nb nl np d k i) (h1 : nb ≤ 12) : i ≠ 12 ∧ i ≠ 7 ∧ ¬ (99 ≤ i ∧ i < 171) := by
  rcases h with h | h | h | h | h | h <;> omega
def RSn (m : XM) (a : Nat) (g : PG) (nb nl np : Nat) : Prop := ∀ d k i, lvn nb nl np d k i → m (a + d) k = g i
def RS (m : XM) (a : Nat) (g : PG) : Prop := RSn m a g (nBr g) (nL g) (nPl g)
theorem RSn_gup {m : XM} {a : Nat} {g : PG} {nb nl np d0 k0 i0 : Nat} {v : Int32} (h : RSn m a g nb nl np) (h1 : nb ≤ 12) (h2 : nl ≤ 12) (h3 : np ≤ 12) (hc : lvn 12 12 12 d0 k0 i0) : RSn (um m (a + d0) k0 v) a (gup g i0 v) nb nl np := by
  intro d k i hl
  have hl' := lvn_up hl h1 h2 h3
  by_cases e : i = i0
  · subst e
    obtain ⟨rfl, rfl⟩ := lvn_inj hl' hc
    rw [um_eq, gup_eq]
  · rw [gup_ne e]
    have : ¬ (a + d = a + d0 ∧ k = k0) := by
      rintro ⟨e1, e2⟩
      have e1 : d = d0 := by omega
      subst e1; subst e2
      exact e (lvn_fun hl' hc)
    unfold um
    rw [if_neg this]
    exact h d k i hl
theorem RSn_um {m : XM} {a : Nat} {g : PG} {nb nl np b k0 : Nat} {v : Int32} (h : RSn m a g nb nl np) (hb : b < a ∨ a + 20 ≤ b ∨ b = a + 2 ∨ b = a + 10) : RSn (um m b k0 v) a g nb nl np := by
  intro d k i hl
  have hd := lvn_d hl
  have : a + d ≠ b := by omega
  rw [um_a this]
  exact h d k i hl
theorem RSn_ign {m : XM} {a : Nat} {g : PG} {nb nl np i0 : Nat} {v : Int32} (h : RSn m a g nb nl np) (h1 : nb ≤ 12) (h2 : nl ≤ 12) (h3 : np ≤ 12) (hi : i0 = 12 ∨ (99 ≤ i0 ∧ i0 < 171) ∨ i0 = 7) : RSn m a (gup g i0 v) nb nl np := by
  intro d k i hl
  have hd := lvn_i hl h1
  have : i ≠ i0 := by omega
  rw [gup_ne this]
  exact h d k i hl
/-- nothing changes outside the State at a, nor in its two rows that a tick's steps don't touch -/
def FR (a : Nat) (m m' : XM) : Prop := ∀ b k, (b < a ∨ a + 20 ≤ b ∨ b = a + 2 ∨ b = a + 10) → m' b k = m b k
theorem FR.rf (a : Nat) (m : XM) : FR a m m := fun _ _ _ => rfl
theorem FR.tr {a : Nat} {m1 m2 m3 : XM} (h1 : FR a m1 m2) (h2 : FR a m2 m3) : FR a m1 m3 := fun b k hb => (h2 b k hb).trans (h1 b k hb)
theorem FR_um {a d k : Nat} (m : XM) (v : Int32) (hd : d < 20 ∧ d ≠ 2 ∧ d ≠ 10) : FR a m (um m (a + d) k v) := fun b j hb => um_a (by omega)
section RSR
variable {m : XM} {a : Nat} {g : PG} (r : RS m a g)
theorem RS.tm (r : RS m a g) : m a 0 = g 9 := r 0 0 9 (lv_tm)
theorem RS.sw (r : RS m a g) : m a 1 = g 11 := r 0 1 11 (lv_sw)
theorem RS.dr (r : RS m a g) : m a 2 = g 13 := r 0 2 13 (lv_dr)
theorem RS.pk (r : RS m a g) : m a 3 = g 14 := r 0 3 14 (lv_pk)
theorem RS.se (r : RS m a g) {k : Nat} (h : k < 6) : m (a + 1) k = g k := r 1 k k (lv_se h)
theorem RS.nb (r : RS m a g) : m (a + 3) 0 = g 6 := r 3 0 6 (lv_nb)
theorem RS.nl (r : RS m a g) : m (a + 12) 0 = g 10 := r 12 0 10 (lv_nl)
theorem RS.np (r : RS m a g) : m (a + 16) 0 = g 8 := r 16 0 8 (lv_np)
theorem RS.own (r : RS m a g) {b : Nat} (h : b < nBr g) : m (a + 3 + 1) b = g (15 + 7 * b + 6) := r 4 b _ (lv_own h)
theorem RS.step (r : RS m a g) {b : Nat} (h : b < nBr g) : m (a + 3 + 2) b = g (15 + 7 * b + 2) := r 5 b _ (lv_step h)
theorem RS.lag (r : RS m a g) {b : Nat} (h : b < nBr g) : m (a + 3 + 3) b = g (15 + 7 * b + 3) := r 6 b _ (lv_lag h)
theorem RS.str (r : RS m a g) {b : Nat} (h : b < nBr g) : m (a + 3 + 4) b = g (15 + 7 * b + 4) := r 7 b _ (lv_str h)
theorem RS.ban (r : RS m a g) {b : Nat} (h : b < nBr g) : m (a + 3 + 5) b = g (15 + 7 * b) := r 8 b _ (lv_ban h)
theorem RS.pla (r : RS m a g) {b : Nat} (h : b < nBr g) : m (a + 3 + 6) b = g (15 + 7 * b + 1) := r 9 b _ (lv_pla h)
theorem RS.mov (r : RS m a g) {b : Nat} (h : b < nBr g) : m (a + 3 + 8) b = g (15 + 7 * b + 5) := r 11 b _ (lv_mov h)
theorem RS.ll (r : RS m a g) {k : Nat} (h : k < nL g) : m (a + 12 + 1) k = g (207 + 3 * k) := r 13 k _ (lv_ll h)
theorem RS.lp (r : RS m a g) {k : Nat} (h : k < nL g) : m (a + 12 + 2) k = g (207 + 3 * k + 1) := r 14 k _ (lv_lp h)
theorem RS.lt (r : RS m a g) {k : Nat} (h : k < nL g) : m (a + 12 + 3) k = g (207 + 3 * k + 2) := r 15 k _ (lv_lti h)
theorem RS.pt (r : RS m a g) {k : Nat} (h : k < nPl g) : m (a + 16 + 1) k = g (171 + 3 * k) := r 17 k _ (lv_pt h)
theorem RS.pa (r : RS m a g) {k : Nat} (h : k < nPl g) : m (a + 16 + 2) k = g (171 + 3 * k + 1) := r 18 k _ (lv_pa h)
theorem RS.po (r : RS m a g) {k : Nat} (h : k < nPl g) : m (a + 16 + 3) k = g (171 + 3 * k + 2) := r 19 k _ (lv_po h)
end RSR
theorem RS_gup {m : XM} {a : Nat} {g : PG} {d0 k0 i0 : Nat} {v : Int32} (w : WF g) (h : RS m a g) (hc : lvn (nBr g) (nL g) (nPl g) d0 k0 i0) (h6 : i0 ≠ 6) (h8 : i0 ≠ 8) (h10 : i0 ≠ 10) : RS (um m (a + d0) k0 v) a (gup g i0 v) := by
  have b1 := w.nb
  have b2 := w.nl
  have b3 := w.np
  unfold RS
  rw [nBr_upd (Ne.symm h6), nL_upd (Ne.symm h10), nPl_upd (Ne.symm h8)]
  exact RSn_gup h b1 (by omega) b3 (lvn_up hc b1 (by omega) b3)
theorem RS_str {m : XM} {a b : Nat} {g : PG} {v : Int32} (w : WF g) (h : RS m a g) (hb : b < nBr g) : RS (um m (a + 3 + 4) b (imax (n32 0) (imin (n32 100) (m (a + 3 + 4) b + v)))) a (strG g b v) := by
  rw [h.str hb]
  exact RS_gup (d0 := 7) w h (lv_str hb) (by omega) (by omega) (by omega)
theorem lt1 {x : Int32} : (x < n32 1) = (x ≤ n32 0) := by
  apply propext
  rw [Int32.lt_iff_toInt_lt, Int32.le_iff_toInt_le, n32_toInt (by omega), n32_toInt (by omega)]; omega
section CT
variable {D : Nat} {m : XM} {E : Nat → XM → Prop}
theorem s50 {a b : Nat} {x y : Int32} {Q : Int32 → XM → Prop} (hb : b < 12) (hx : m (a + 2) b = x) (hy : m (a + 4) b = y) (rx : inR x 0 200) (ry : inR y 0 100) (h : Q (stride x y) m) : VI D 50 [vR 7 a, vI (n32 b)] m Q E := by
  refine w50_0 ?_
  simp (disch := omega) only [xin_t, ix_n32, hx, hy, true_and]
  obtain ⟨h1, h2, -⟩ := stride_ok rx ry
  exact ⟨h1, h2, h⟩
theorem s52 {a b : Nat} {v : Int32} {Q : XM → Prop} (hb : b < 12) (h : Q (um m (a + 4) b (imax (n32 0) (imin (n32 100) (m (a + 4) b + v))))) : VU (D + 1) 52 [vR 7 a, vI (n32 b), vI v] m Q E := by
  refine w52_0 ?_
  simp (disch := omega) only [xin_t, ix_n32, true_and]
  exact s386 (s385 h)
theorem s74 {a b : Nat} {g : PG} {Q : Int32 → XM → Prop} (w : WF g) (r : RS m a g) (hb : b + 1 < nBr g) (h : Q (if mayG g b = true then n32 1 else n32 0) m) : VI (D + 1) 74 [vR 8 a, vI (n32 b)] m Q E := by
  have a2 := w.nb
  have h6 : m (a + 3) 0 = n32 (nBr g) := by rw [r.nb]; exact w.1.1
  have e1 := r.str (b := b) (by omega)
  have e2 := r.str hb
  have e3 := r.pla (b := b) (by omega)
  have e4 := r.pla hb
  have e5 := r.se (k := 5) (by omega)
  refine w74_0 ?_
  simp (disch := omega) only [n32_add, n32_sub, Nat.add_sub_cancel, xin_t, ix_n32, h6, e1, e2, e3, e4, e5, lt1, lt_f, le_f, le_t, false_implies, true_implies, not_false_eq_true, not_true_eq_false, true_and]
  unfold mayG at h
  by_cases c1 : g 5 < g (15 + 7 * b + 1) - g (15 + 7 * (b + 1) + 1) <;> by_cases c2 : g (15 + 7 * b + 4) ≤ n32 0 <;> by_cases c3 : g (15 + 7 * (b + 1) + 4) ≤ n32 0 <;>
    simp only [c1, c2, c3, decide_true, decide_false, not_true_eq_false, not_false_eq_true, Bool.and_true, Bool.true_and, Bool.and_false, Bool.false_and, if_true, if_false, false_implies, true_implies, and_true, true_and, Bool.false_eq_true] at h ⊢ <;> exact h
theorem s75 {a b : Nat} {g : PG} {Q : XM → Prop} (w : WF g) (r : RS m a g) (hb : b + 1 < nBr g) (h : ∀ m', RS m' a (swapsG g b) → FR a m m' → Q m') : VU (D + 2) 75 [vR 8 a, vI (n32 b)] m Q E := by
  have a2 := w.nb
  have h6 : m (a + 3) 0 = n32 (nBr g) := by rw [r.nb]; exact w.1.1
  have e1 := r.ban (b := b) (by omega)
  have e2 := r.ban hb
  refine w75_0 ?_
  simp (disch := omega) only [n32_add, xin_t, ix_n32, h6, e1, e2, lt_f, lt_t, false_implies, true_implies, not_false_eq_true, not_true_eq_false, true_and, and_true]
  have r1 : RS (um m (a + 3 + 5) b (g (15 + 7 * (b + 1)))) a (gup g (15 + 7 * b) (g (15 + 7 * (b + 1)))) := RS_gup (d0 := 8) w r (lv_ban (by omega)) (by omega) (by omega) (by omega)
  have n1 : nBr (gup g (15 + 7 * b) (g (15 + 7 * (b + 1)))) = nBr g := nBr_upd (by omega)
  have n2 : nL (gup g (15 + 7 * b) (g (15 + 7 * (b + 1)))) = nL g := nL_upd (by omega)
  have n3 : nPl (gup g (15 + 7 * b) (g (15 + 7 * (b + 1)))) = nPl g := nPl_upd (by omega)
  have k2 : keeps g (exchG g b) := WF_exchG w hb
  have r2 : RS (um (um m (a + 3 + 5) b (g (15 + 7 * (b + 1)))) (a + 3 + 5) (b + 1) (g (15 + 7 * b))) a (exchG g b) := by
    have b2 := w.nl
    have b3 := w.np
    unfold RS at r1 ⊢
    have n2' : nL (exchG g b) = nL g := by unfold exchG; rw [nL_upd (by omega), nL_upd (by omega)]
    rw [n1, n2, n3] at r1
    rw [k2.2.1, n2', k2.2.2.2]
    exact RSn_gup (d0 := 8) r1 (by omega) (by omega) b3 (lv_ban (by omega))
  generalize hm2 : um (um m (a + 3 + 5) b (g (15 + 7 * (b + 1)))) (a + 3 + 5) (b + 1) (g (15 + 7 * b)) = m2 at r2
  have f2 : FR a m m2 := by
    rw [← hm2]
    exact (FR_um (d := 8) m _ (by omega)).tr (FR_um (d := 8) _ _ (by omega))
  unfold swapsG at h
  generalize exchG g b = g2 at k2 r2 h
  have k3 : keeps g2 (strG g2 b (-(n32 2))) := WF_strG k2.1 (by rw [k2.2.1]; omega)
  have r3 := RS_str (v := -(n32 2)) k2.1 r2 (b := b) (by rw [k2.2.1]; omega)
  refine s52 (by omega) ?_
  have f3 : FR a m2 (um m2 (a + 3 + 4) b (imax (n32 0) (imin (n32 100) (m2 (a + 3 + 4) b + -(n32 2))))) := FR_um (d := 7) _ _ (by omega)
  generalize um m2 (a + 3 + 4) b (imax (n32 0) (imin (n32 100) (m2 (a + 3 + 4) b + -(n32 2)))) = m3 at r3 f3
  generalize strG g2 b (-(n32 2)) = g3 at k3 r3 h
  have k4 : keeps g3 (strG g3 (b + 1) (-(n32 2))) := WF_strG k3.1 (by rw [k3.2.1, k2.2.1]; omega)
  have r4 := RS_str (v := -(n32 2)) k3.1 r3 (b := b + 1) (by rw [k3.2.1, k2.2.1]; omega)
  refine s52 (by omega) ?_
  have f4 : FR a m3 (um m3 (a + 3 + 4) (b + 1) (imax (n32 0) (imin (n32 100) (m3 (a + 3 + 4) (b + 1) + -(n32 2))))) := FR_um (d := 7) _ _ (by omega)
  generalize um m3 (a + 3 + 4) (b + 1) (imax (n32 0) (imin (n32 100) (m3 (a + 3 + 4) (b + 1) + -(n32 2)))) = m4 at r4 f4
  generalize strG g3 (b + 1) (-(n32 2)) = g4 at k4 r4 h
  rw [r4.sw]
  exact h _ (RS_gup (d0 := 0) k4.1 r4 lv_sw (by omega) (by omega) (by omega)) (((f2.tr f3).tr f4).tr (FR_um (d := 0) _ _ (by omega)))
end CT
end
section
/-! The component's tick: plans and marching. -/
theorem strG_gup {g : PG} {i b : Nat} {v u : Int32} (h : i ≠ 15 + 7 * b + 4) : strG (gup g i v) b u = gup (strG g b u) i v := by
  unfold strG; rw [gup_ne (Ne.symm h), gup_comm h]
theorem exchG_gup {g : PG} {i b : Nat} {v : Int32} (h : i ≠ 15 + 7 * b) (h1 : i ≠ 15 + 7 * (b + 1)) : exchG (gup g i v) b = gup (exchG g b) i v := by
  unfold exchG; rw [gup_ne (Ne.symm h), gup_ne (Ne.symm h1), gup_comm h, gup_comm h1]
theorem swapsG_gup {g : PG} {i b : Nat} {v : Int32} (hb : b + 1 < 12) (h : i = 12 ∨ 99 ≤ i) : swapsG (gup g i v) b = gup (swapsG g b) i v := by
  unfold swapsG
  rw [exchG_gup (by omega) (by omega), strG_gup (by omega), strG_gup (by omega), gup_ne (by omega), gup_comm (by omega)]
theorem swapsG_at {g : PG} {b j : Nat} (hb : b + 1 < 12) (h : j < 15 ∨ 99 ≤ j) (h1 : j ≠ 11) : swapsG g b j = g j := by
  unfold swapsG strG exchG
  rw [gup_ne h1, gup_ne (by omega), gup_ne (by omega), gup_ne (by omega), gup_ne (by omega)]
theorem planG_at {g : PG} {k j : Nat} (w : WF g) (hk : k < nPl g) (h : j < 15 ∨ 99 ≤ j) (h1 : j ≠ 11) (h2 : j ≠ 12) (h3 : j ≠ 171 + 3 * k + 2) : planG k g j = g j := by
  have a2 := w.nb
  have := (w.pa hk).2
  unfold planG
  split
  · split
    · rw [gup_ne h3, swapsG_at (by omega) h h1]
    · rw [gup_ne h3, gup_ne h2]
  · rfl
theorem plans_keeps {g : PG} (w : WF g) {i : Nat} (hi : i ≤ nPl g) : keeps g (itr i planG g) := keeps_itr w fun j x hj hx => WF_planG hx.1 (by rw [hx.2.2.2]; omega)
theorem plans_at {g : PG} (w : WF g) : ∀ i, i ≤ nPl g → ∀ j, (j < 15 ∨ 99 ≤ j) → j ≠ 11 → j ≠ 12 → (∀ k, k < i → j ≠ 171 + 3 * k + 2) → itr i planG g j = g j := by
  intro i
  induction i with
  | zero => intro _ j _ _ _ _; rfl
  | succ i ih =>
    intro hi j h h1 h2 h3
    have e : itr (i + 1) planG g = planG i (itr i planG g) := rfl
    have kx := plans_keeps w (show i ≤ nPl g by omega)
    rw [e, planG_at kx.1 (by rw [kx.2.2.2]; omega) h h1 h2 (h3 i (by omega))]
    exact ih (by omega) j h h1 h2 (fun k hk => h3 k (by omega))
/-- a plan that is over isn't due now -/
def PT (g : PG) : Prop := ∀ k, k < nPl g → ¬ g (171 + 3 * k + 2) = n32 0 → ¬ g (171 + 3 * k) = g 9
section CT2
variable {D : Nat} {m : XM} {E : Nat → XM → Prop}
theorem s71 {a : Nat} {g : PG} {Q : XM → Prop} (w : WF g) (p : PT g) (r : RS m a g) (h : ∀ m', RS m' a (plansG g) → FR a m m' → Q m') : VU (D + 3) 71 [vR 8 a] m Q E := by
  have a2 := w.nb
  have a6 := w.np
  refine w71_0 (upm (C := fun i m' => VLU (D + 3) 71 1 [(0, vR 8 a), (1, vI (n32 i))] [] m' Q E) (Inv := fun i m' => RS m' a (itr i planG g) ∧ FR a m m') (n := nPl g) ?_ ?_ 0 m (Nat.zero_le _) ⟨r, FR.rf _ _⟩)
  · intro i m1 hi hI ih
    obtain ⟨r1, f1⟩ := hI
    have kx := plans_keeps w (show i ≤ nPl g by omega)
    have e1 : itr (i + 1) planG g = planG i (itr i planG g) := rfl
    have x9 := plans_at w i (by omega) 9 (by omega) (by omega) (by omega) (fun k hk => by omega)
    have xt := plans_at w i (by omega) (171 + 3 * i) (by omega) (by omega) (by omega) (fun k hk => by omega)
    have xo := plans_at w i (by omega) (171 + 3 * i + 2) (by omega) (by omega) (by omega) (fun k hk => by omega)
    rw [e1] at ih
    generalize itr i planG g = x at r1 kx ih x9 xt xo
    have hix : i < nPl x := by rw [kx.2.2.2]; exact hi
    obtain ⟨p1, p2⟩ := kx.1.pa hix
    have nbx := kx.2.1
    have h8 : m1 (a + 16) 0 = n32 (nPl g) := by rw [r1.np, kx.1.2.2.1.1, kx.2.2.2]
    refine w71_1 ?_
    simp (disch := omega) only [n32_add, xin_t, ix_n32, h8, r1.pt hix, r1.tm, r1.pa hix, le_f, false_implies, true_implies, not_false_eq_true, true_and]
    refine ⟨fun c1 => ?_, fun c1 => ?_⟩
    · have c2 : x (171 + 3 * i + 2) = n32 0 := by
        by_cases c2 : x (171 + 3 * i + 2) = n32 0
        · exact c2
        · exfalso
          refine p i hi (by rw [← xo]; exact c2) ?_
          rw [← xt, ← x9]; exact c1
      rw [p1]
      refine s74 kx.1 r1 p2 ?_
      by_cases hm : mayG x (aheadG x i) = true
      · have e : planG i x = gup (swapsG x (aheadG x i)) (171 + 3 * i + 2) (n32 1) := by unfold planG; rw [if_pos ⟨c1, c2⟩, if_pos hm]
        rw [if_pos hm]
        refine ⟨fun c => absurd c (by decide), fun _ => ?_⟩
        have r2 : RS (um m1 (a + 16 + 3) i (n32 1)) a (gup x (171 + 3 * i + 2) (n32 1)) := RS_gup (d0 := 19) kx.1 r1 (lv_po hix) (by omega) (by omega) (by omega)
        have k2 : keeps x (gup x (171 + 3 * i + 2) (n32 1)) := WF_freeN kx.1 (Or.inr (Or.inr (Or.inl ⟨i, by omega, Or.inr rfl⟩)))
        have e3 : um m1 (a + 16 + 3) i (n32 1) (a + 16 + 2) i = n32 (aheadG x i) := by rw [um_a (by omega), r1.pa hix, p1]
        rw [e3]
        refine s75 k2.1 r2 (by rw [k2.2.1]; exact p2) ?_
        intro m2 r3 f3
        refine ih m2 ⟨?_, (f1.tr (FR_um (d := 19) m1 _ (by omega))).tr f3⟩
        rw [e, ← swapsG_gup (by omega) (by omega)]; exact r3
      · have e : planG i x = gup (gup x 12 (x 12 + n32 1)) (171 + 3 * i + 2) (n32 2) := by unfold planG; rw [if_pos ⟨c1, c2⟩, if_neg hm]
        rw [if_neg hm]
        refine ⟨fun _ => ?_, fun c => absurd rfl c⟩
        refine ih _ ⟨?_, f1.tr (FR_um (d := 19) m1 _ (by omega))⟩
        rw [e]
        have k2 : keeps x (gup x 12 (x 12 + n32 1)) := WF_freeN kx.1 (Or.inl (by omega))
        have r2 : RS m1 a (gup x 12 (x 12 + n32 1)) := by
          unfold RS
          rw [k2.2.1, k2.2.2.2, nL_upd (by omega)]
          have := kx.1.nl
          exact RSn_ign r1 (by omega) (by omega) kx.1.np (Or.inl rfl)
        exact RS_gup (d0 := 19) k2.1 r2 (lv_po (by rw [k2.2.2.2]; exact hix)) (by omega) (by omega) (by omega)
    · have e : planG i x = x := by unfold planG; rw [if_neg (fun h => c1 h.1)]
      rw [e] at ih
      exact ih m1 ⟨r1, f1⟩
  · intro m1 hI
    obtain ⟨r1, f1⟩ := hI
    have kx := WF_plansG w
    have h8 : m1 (a + 16) 0 = n32 (nPl g) := by
      have := r1.np
      rw [this]
      have e := kx.1.2.2.1.1
      rw [kx.2.2.2] at e; exact e
    refine w71_1 ?_
    rw [h8]
    exact ⟨fun _ => h m1 r1 f1, fun c => absurd (n32_rfl _) c⟩
/-- nothing changes outside the State at a, but for its two rows that nothing else speaks of -/
def FM (a : Nat) (m m' : XM) : Prop := ∀ b k, (b < a ∨ a + 20 ≤ b ∨ b = a + 2) → m' b k = m b k
theorem FM.rf (a : Nat) (m : XM) : FM a m m := fun _ _ _ => rfl
theorem FM.tr {a : Nat} {m1 m2 m3 : XM} (h1 : FM a m1 m2) (h2 : FM a m2 m3) : FM a m1 m3 := fun b k hb => (h2 b k hb).trans (h1 b k hb)
theorem FR.toM {a : Nat} {m m' : XM} (h : FR a m m') : FM a m m' := fun b k hb => h b k (by omega)
theorem FM_um {a b k : Nat} (m : XM) (v : Int32) (hb : a ≤ b ∧ b < a + 20 ∧ b ≠ a + 2) : FM a m (um m b k v) := fun c j hc => um_a (by omega)
theorem moveG_place {g : PG} {b j : Nat} (h : b ≠ j) : moveG b g (15 + 7 * j + 1) = g (15 + 7 * j + 1) := by
  unfold moveG strG
  split
  · rw [gup_ne (by omega)]
  · rw [gup_ne (by omega), gup_ne (by omega), gup_ne (by omega)]
theorem s54 {a : Nat} {g : PG} {Q : XM → Prop} (w : WF g) (r : RS m a g) (h : ∀ m', RS m' a (movesG g) → FM a m m' → (∀ b, b < nBr g → m' (a + 3 + 7) b = g (15 + 7 * b + 1)) → Q m') : VU (D + 2) 54 [vR 7 (a + 3), vI (g 0), vI (g 3)] m Q E := by
  have a2 := w.nb
  refine w54_0 (upm (C := fun i m' => VLU (D + 2) 54 1 [(0, vR 7 (a + 3)), (1, vI (g 0)), (2, vI (g 3)), (3, vI (n32 i))] [] m' Q E) (Inv := fun i m' => RS m' a (itr i moveG g) ∧ FM a m m' ∧ ∀ b, b < i → m' (a + 3 + 7) b = g (15 + 7 * b + 1)) (n := nBr g) ?_ ?_ 0 m (Nat.zero_le _) ⟨r, FM.rf _ _, fun b hb => absurd hb (Nat.not_lt_zero b)⟩)
  · intro i m1 hi hI ih
    obtain ⟨r1, f1, b1⟩ := hI
    have kx : keeps g (itr i moveG g) := keeps_itr w fun j x hj hx => WF_moveG hx.1 (by rw [hx.2.1]; omega)
    have e1 : itr (i + 1) moveG g = moveG i (itr i moveG g) := rfl
    have ep := place_moves g i i (Nat.le_refl _)
    have e0 : itr i moveG g 0 = g 0 := by
      clear kx ep e1 ih b1 f1 r1
      induction i with
      | zero => rfl
      | succ i ih0 =>
        have e : itr (i + 1) moveG g = moveG i (itr i moveG g) := rfl
        rw [e, ← ih0 (by omega)]
        unfold moveG strG
        split
        · rw [gup_ne (by omega)]
        · rw [gup_ne (by omega), gup_ne (by omega), gup_ne (by omega)]
    have e3 : itr i moveG g 3 = g 3 := by
      clear kx ep e1 ih b1 f1 r1 e0
      induction i with
      | zero => rfl
      | succ i ih0 =>
        have e : itr (i + 1) moveG g = moveG i (itr i moveG g) := rfl
        rw [e, ← ih0 (by omega)]
        unfold moveG strG
        split
        · rw [gup_ne (by omega)]
        · rw [gup_ne (by omega), gup_ne (by omega), gup_ne (by omega)]
    rw [e1] at ih
    generalize itr i moveG g = x at r1 kx ih ep e0 e3
    have hix : i < nBr x := by rw [kx.2.1]; exact hi
    have h6 : m1 (a + 3) 0 = n32 (nBr g) := by rw [r1.nb, kx.1.1.1, kx.2.1]
    have q1 := r1.pla hix
    refine w54_1 ?_
    simp (disch := omega) only [n32_add, xin_t, ix_n32, h6, le_f, false_implies, true_implies, not_false_eq_true, true_and]
    refine s50 (by omega) (r1.step hix) (r1.str hix) (kx.1.st_b hix) (kx.1.b4 hix) ?_
    have eu : ∀ u, um m1 (a + 3 + 7) i u (a + 3 + 6) i = m1 (a + 3 + 6) i := fun u => um_a (by omega)
    -- the row of places before
    have r2 : RS (um m1 (a + 3 + 7) i (x (15 + 7 * i + 1))) a x := RSn_um r1 (by omega)
    have f2 : FM a m (um m1 (a + 3 + 7) i (x (15 + 7 * i + 1))) := f1.tr (FM_um m1 _ (by omega))
    have b2 : ∀ b, b < i + 1 → um m1 (a + 3 + 7) i (x (15 + 7 * i + 1)) (a + 3 + 7) b = g (15 + 7 * b + 1) := by
      intro b hb
      by_cases e : b = i
      · subst e; rw [um_eq]; exact ep
      · rw [um_k e]; exact b1 b (by omega)
    -- both ways of it
    have stay : x (15 + 7 * i + 1) = x (15 + 7 * i + 1) → goalG x i ≤ x (15 + 7 * i + 1) → VU (D + 1) 52 [vR 7 (a + 3), vI (n32 i), vI (g 3)] (um m1 (a + 3 + 7) i (x (15 + 7 * i + 1))) (fun m2 => VLU (D + 2) 54 1 [(0, vR 7 (a + 3)), (1, vI (g 0)), (2, vI (g 3)), (3, vI (n32 (i + 1)))] [] m2 Q E) E := by
      intro _ c
      refine s52 (by omega) ?_
      have e : moveG i x = strG x i (g 3) := by unfold moveG; rw [if_pos c, e3]
      refine ih _ ⟨?_, f2.tr (FM_um _ _ (by omega)), fun b hb => ?_⟩
      · rw [e]; exact RS_str kx.1 r2 hix
      · rw [um_a (by omega)]; exact b2 b hb
    have go : ∀ μ, μ = um (um (um m1 (a + 3 + 7) i (x (15 + 7 * i + 1))) (a + 3 + 6) i (goalG x i)) (a + 3 + 8) i (um (um m1 (a + 3 + 7) i (x (15 + 7 * i + 1))) (a + 3 + 6) i (goalG x i) (a + 3 + 8) i + n32 1) → ¬ goalG x i ≤ x (15 + 7 * i + 1) → VU (D + 1) 52 [vR 7 (a + 3), vI (n32 i), vI (-(μ (a + 3 + 3) i))] μ (fun m4 => VLU (D + 2) 54 1 [(0, vR 7 (a + 3)), (1, vI (g 0)), (2, vI (g 3)), (3, vI (n32 (i + 1)))] [] m4 Q E) E := by
      rintro μ rfl c
      have k3 : keeps x (gup x (15 + 7 * i + 1) (goalG x i)) := WF_freeN kx.1 (Or.inr (Or.inl ⟨i, by omega, Or.inl rfl⟩))
      have r3 : RS (um (um m1 (a + 3 + 7) i (x (15 + 7 * i + 1))) (a + 3 + 6) i (goalG x i)) a (gup x (15 + 7 * i + 1) (goalG x i)) := RS_gup (d0 := 9) kx.1 r2 (lv_pla hix) (by omega) (by omega) (by omega)
      have f3 : FM a m (um (um m1 (a + 3 + 7) i (x (15 + 7 * i + 1))) (a + 3 + 6) i (goalG x i)) := f2.tr (FM_um _ _ (by omega))
      have b3 : ∀ b, b < i + 1 → um (um m1 (a + 3 + 7) i (x (15 + 7 * i + 1))) (a + 3 + 6) i (goalG x i) (a + 3 + 7) b = g (15 + 7 * b + 1) := fun b hb => by rw [um_a (by omega)]; exact b2 b hb
      have hi3 : i < nBr (gup x (15 + 7 * i + 1) (goalG x i)) := by rw [k3.2.1]; exact hix
      have e : moveG i x = gup (strG (gup x (15 + 7 * i + 1) (goalG x i)) i (-(x (15 + 7 * i + 3)))) (15 + 7 * i + 5) (x (15 + 7 * i + 5) + n32 1) := by unfold moveG; rw [if_neg c]
      rw [e] at ih
      have el : x (15 + 7 * i + 3) = gup x (15 + 7 * i + 1) (goalG x i) (15 + 7 * i + 3) := by rw [gup_ne (by omega)]
      have em : x (15 + 7 * i + 5) = gup x (15 + 7 * i + 1) (goalG x i) (15 + 7 * i + 5) := by rw [gup_ne (by omega)]
      rw [el, em] at ih
      generalize um (um m1 (a + 3 + 7) i (x (15 + 7 * i + 1))) (a + 3 + 6) i (goalG x i) = m3 at r3 f3 b3
      generalize gup x (15 + 7 * i + 1) (goalG x i) = x3 at k3 r3 hi3 ih
      have k4 : keeps x3 (gup x3 (15 + 7 * i + 5) (x3 (15 + 7 * i + 5) + n32 1)) := WF_freeN k3.1 (Or.inr (Or.inl ⟨i, by omega, Or.inr rfl⟩))
      have r4 : RS (um m3 (a + 3 + 8) i (m3 (a + 3 + 8) i + n32 1)) a (gup x3 (15 + 7 * i + 5) (x3 (15 + 7 * i + 5) + n32 1)) := by
        rw [r3.mov hi3]
        exact RS_gup (d0 := 11) k3.1 r3 (lv_mov hi3) (by omega) (by omega) (by omega)
      have e5 : um m3 (a + 3 + 8) i (m3 (a + 3 + 8) i + n32 1) (a + 3 + 3) i = x3 (15 + 7 * i + 3) := by rw [um_a (by omega), r3.lag hi3]
      rw [e5]
      refine s52 (by omega) ?_
      refine ih _ ⟨?_, (f3.tr (FM_um _ _ (by omega))).tr (FM_um _ _ (by omega)), fun b hb => ?_⟩
      · rw [← strG_gup (by omega)]
        exact RS_str k4.1 r4 (by rw [k4.2.1]; exact hi3)
      · rw [um_a (by omega), um_a (by omega)]; exact b3 b hb
    refine ⟨fun c => ?_, fun c => ?_⟩
    · have hi0 : i = 0 := by
        have := (n32_le (by omega) (by omega)).mp c
        omega
      have eg : goalG x i = x (15 + 7 * i + 1) + stride (x (15 + 7 * i + 2)) (x (15 + 7 * i + 4)) := by unfold goalG; rw [if_pos hi0]
      rw [eu, q1, ← eg]
      exact ⟨fun c1 => stay rfl c1, fun c1 μ hμ => go μ hμ c1⟩
    · have hi0 : ¬ i = 0 := by rintro rfl; exact c (n32_rfl 0)
      have eg : goalG x i = imin (x (15 + 7 * i + 1) + stride (x (15 + 7 * i + 2)) (x (15 + 7 * i + 4))) (x (15 + 7 * (i - 1) + 1) - g 0) := by unfold goalG; rw [if_neg hi0, e0]
      simp (disch := omega) only [n32_sub, xin_t, ix_n32, true_and]
      rw [q1, r1.pla (b := i - 1) (by omega)]
      refine s386 ?_
      rw [← eg, eu, q1]
      exact ⟨fun c1 => stay rfl c1, fun c1 μ hμ => go μ hμ c1⟩
  · intro m1 hI
    obtain ⟨r1, f1, b1⟩ := hI
    have kx := WF_movesG w
    have h6 : m1 (a + 3) 0 = n32 (nBr g) := by
      rw [r1.nb]
      have e := kx.1.1.1
      rw [kx.2.1] at e; exact e
    refine w54_1 ?_
    rw [h6]
    exact ⟨fun _ => h m1 r1 f1 b1, fun c => absurd (n32_rfl _) c⟩
end CT2
end
section
/-! The component's tick: dropping and lifting. -/
/-- the memory where a Ground at a has lost its j-th banner, the later ones moved up to place i -/
def rmv (m : XM) (a j i : Nat) : XM := fun b k => if (b = a + 1 ∨ b = a + 2 ∨ b = a + 3) ∧ j ≤ k ∧ k < i then m b (k + 1) else m b k
theorem rmv_0 (m : XM) (a j : Nat) : rmv m a j j = m := by
  funext b k; unfold rmv; rw [if_neg (by omega)]
theorem rmv_at {m : XM} {a j i b k : Nat} (h : ¬ (j ≤ k ∧ k < i)) : rmv m a j i b k = m b k := by
  unfold rmv; rw [if_neg (fun e => h e.2)]
theorem rmv_ne {m : XM} {a j i b k : Nat} (h : ¬ (b = a + 1 ∨ b = a + 2 ∨ b = a + 3)) : rmv m a j i b k = m b k := by
  unfold rmv; rw [if_neg (fun e => h e.1)]
theorem rmv_in {m : XM} {a j i b k : Nat} (h : b = a + 1 ∨ b = a + 2 ∨ b = a + 3) (h1 : j ≤ k) (h2 : k < i) : rmv m a j i b k = m b (k + 1) := by
  unfold rmv; rw [if_pos ⟨h, h1, h2⟩]
theorem rmv_succ {m : XM} {a j i : Nat} (hj : j ≤ i) : um (um (um (rmv m a j i) (a + 1) i (m (a + 1) (i + 1))) (a + 2) i (m (a + 2) (i + 1))) (a + 3) i (m (a + 3) (i + 1)) = rmv m a j (i + 1) := by
  funext b k
  by_cases hk : k = i
  · subst hk
    by_cases h1 : b = a + 1
    · subst h1; rw [um_a (by omega), um_a (by omega), um_eq, rmv_in (by omega) hj (by omega)]
    · by_cases h2 : b = a + 2
      · subst h2; rw [um_a (by omega), um_eq, rmv_in (by omega) hj (by omega)]
      · by_cases h3 : b = a + 3
        · subst h3; rw [um_eq, rmv_in (by omega) hj (by omega)]
        · rw [um_a h3, um_a h2, um_a h1, rmv_ne (by omega), rmv_ne (by omega)]
  · rw [um_k hk, um_k hk, um_k hk]
    unfold rmv
    by_cases h1 : (b = a + 1 ∨ b = a + 2 ∨ b = a + 3) ∧ j ≤ k ∧ k < i
    · rw [if_pos h1, if_pos ⟨h1.1, h1.2.1, by omega⟩]
    · rw [if_neg h1, if_neg (fun e => h1 ⟨e.1, e.2.1, by omega⟩)]
section CT3
variable {D : Nat} {m : XM} {E : Nat → XM → Prop}
theorem s6 {a n j : Nat} {Q : XM → Prop} (hn : m a 0 = n32 n) (h12 : n ≤ 12) (hj : j < n) (h : Q (um (rmv m a j (n - 1)) a 0 (n32 (n - 1)))) : VU D 6 [vR 1 a, vI (n32 j)] m Q E := by
  refine w6_0 ?_
  simp (disch := omega) only [hn, lt_f, lt_t, false_implies, true_implies, not_false_eq_true, not_true_eq_false, true_and, and_true]
  have key : ∀ k, j + k ≤ n - 1 → VLU D 6 4 [(0, vR 1 a), (2, vI (n32 (n - 1 - k)))] [] (rmv m a j (n - 1 - k)) Q E := by
    intro k
    induction k with
    | zero =>
      intro _
      have e0 : rmv m a j (n - 1 - 0) a 0 = n32 n := by rw [rmv_ne (by omega)]; exact hn
      refine w6_4 ?_
      simp (disch := omega) only [n32_add, n32_sub, e0, le_t, true_implies, not_true_eq_false, false_implies, and_true]
      exact h
    | succ k ih =>
      intro hk
      have ih := ih (by omega)
      generalize hi : n - 1 - (k + 1) = i
      have e : n - 1 - k = i + 1 := by omega
      rw [e] at ih
      have e0 : rmv m a j i a 0 = n32 n := by rw [rmv_ne (by omega)]; exact hn
      refine w6_4 ?_
      simp (disch := omega) only [n32_add, ix_n32, xin_t, e0, le_f, false_implies, true_implies, not_false_eq_true, true_and]
      rintro μ rfl
      have e1 : ∀ b, rmv m a j i b (i + 1) = m b (i + 1) := fun b => rmv_at (by omega)
      have e2 : ∀ (mm : XM) (c v : Nat → Int32) (x : Nat) (y : Int32), um mm x i y (a + 2) (i + 1) = mm (a + 2) (i + 1) := fun mm c v x y => um_k (by omega)
      have e3 : ∀ (mm : XM) (x : Nat) (y : Int32) (z : Nat), um mm x i y z (i + 1) = mm z (i + 1) := fun mm x y z => um_k (by omega)
      simp only [e3, e1]
      rw [rmv_succ (by omega)]
      exact ih
  have := key (n - 1 - j) (by omega)
  rw [show n - 1 - (n - 1 - j) = j by omega, rmv_0] at this
  exact this
theorem s76 {a b : Nat} {g : PG} {Q : XM → Prop} (w : WF g) (r : RS m a g) (hb : b < nBr g) (hp : ¬ g (15 + 7 * b) ≤ n32 0) (h : ∀ m', RS m' a (dropG g b) → FR a m m' → Q m') : VU (D + 1) 76 [vR 8 a, vI (n32 b)] m Q E := by
  have a2 := w.nb
  have a6 := w.np
  have a8 := w.lc
  have p3 := carried_pos w hb (ban_pos w hb hp).2
  have h10 : m (a + 12) 0 = n32 (nL g) := by rw [r.nl]; exact w.2.2.2.1.1
  have kd := WF_dropG w hb hp
  obtain ⟨d1, d2⟩ := nL_dropG w hb
  refine w76_0 ?_
  simp (disch := omega) only [xin_t, ix_n32, h10, r.ban hb, r.pla hb, r.tm, lt_t, um_a, false_implies, true_implies, not_false_eq_true, not_true_eq_false, true_and, and_true]
  rintro μ rfl
  simp (disch := omega) only [xin_t, ix_n32, h10, um_a, true_and]
  rintro μ rfl
  -- the three new cells, both sides
  have r1 : RSn (um m (a + 12 + 1) (nL g) (g (15 + 7 * b))) a (gup g (207 + 3 * nL g) (g (15 + 7 * b))) (nBr g) (nL g) (nPl g) := RSn_gup (d0 := 13) r a2 (by omega) a6 (lv_ll (by omega))
  have r2 := RSn_gup (d0 := 14) (k0 := nL g) (v := g (15 + 7 * b + 1)) r1 a2 (by omega) a6 (lv_lp (by omega))
  have r3 := RSn_gup (d0 := 15) (k0 := nL g) (v := g 9) r2 a2 (by omega) a6 (lv_lti (by omega))
  have r4 : RSn (um (um (um m (a + 12 + 1) (nL g) (g (15 + 7 * b))) (a + 14) (nL g) (g (15 + 7 * b + 1))) (a + 15) (nL g) (g 9)) a (gup (gup (gup g (207 + 3 * nL g) (g (15 + 7 * b))) (207 + 3 * nL g + 1) (g (15 + 7 * b + 1))) (207 + 3 * nL g + 2) (g 9)) (nBr g) (nL g + 1) (nPl g) := by
    intro d k i hl
    by_cases e : k = nL g ∧ (d = 13 ∨ d = 14 ∨ d = 15)
    · obtain ⟨rfl, e⟩ := e
      have hl' := (lvn_fb (lvn_up hl a2 (by omega) a6)).1
      rcases e with rfl | rfl | rfl
      · have : i = 207 + 3 * nL g := hl'.symm
        subst this
        rw [um_a (by omega), um_a (by omega), um_eq, gup_ne (by omega), gup_ne (by omega), gup_eq]
      · have : i = 207 + 3 * nL g + 1 := hl'.symm
        subst this
        rw [um_a (by omega), um_eq, gup_ne (by omega), gup_eq]
      · have : i = 207 + 3 * nL g + 2 := hl'.symm
        subst this
        rw [um_eq, gup_eq]
    · refine r3 d k i ?_
      rcases hl with hl | hl | hl | hl | hl | hl
      · exact Or.inl hl
      · exact Or.inr (Or.inl hl)
      · exact Or.inr (Or.inr (Or.inl hl))
      · exact Or.inr (Or.inr (Or.inr (Or.inl hl)))
      · exact Or.inr (Or.inr (Or.inr (Or.inr (Or.inl ⟨by omega, hl.2⟩))))
      · exact Or.inr (Or.inr (Or.inr (Or.inr (Or.inr hl))))
  have r5 := RSn_gup (d0 := 12) (k0 := 0) (v := n32 (nL g + 1)) r4 a2 (by omega) a6 lv_nl
  have r6 := RSn_gup (d0 := 8) (k0 := b) (v := n32 0) r5 a2 (by omega) a6 (lv_ban (by omega))
  have r7 := RSn_gup (d0 := 0) (k0 := 2) (v := g 13 + n32 1) r6 a2 (by omega) a6 lv_dr
  have f : FR a m (um (um (um (um (um (um m (a + 13) (nL g) (g (15 + 7 * b))) (a + 14) (nL g) (g (15 + 7 * b + 1))) (a + 15) (nL g) (g 9)) (a + 12) 0 (n32 (nL g + 1))) (a + 8) b (n32 0)) (a + 0) 2 (g 13 + n32 1)) :=
    ((((((FR_um (d := 13) m _ (by omega)).tr (FR_um (d := 14) _ _ (by omega))).tr (FR_um (d := 15) _ _ (by omega))).tr (FR_um (d := 12) _ _ (by omega))).tr (FR_um (d := 8) _ _ (by omega))).tr (FR_um (d := 0) _ _ (by omega)))
  have eg : dropG g b = gup (gup (gup (gup (gup (gup g (207 + 3 * nL g) (g (15 + 7 * b))) (207 + 3 * nL g + 1) (g (15 + 7 * b + 1))) (207 + 3 * nL g + 2) (g 9)) 10 (n32 (nL g + 1))) (15 + 7 * b) (n32 0)) 13 (g 13 + n32 1) := by
    unfold dropG
    rw [w.2.2.2.1.1, n32_add, gup_comm (by omega)]
  have r8 := h _ (by unfold RS; rw [kd.2.1, d2, kd.2.2.2, eg]; exact r7) f
  simp (disch := omega) only [um_a, um_k, h10, r.dr, n32_add]
  exact r8
theorem weak_iff {g : PG} (w : WF g) {b : Nat} (hb : b < nBr g) : g (15 + 7 * b) = n32 0 ↔ g (15 + 7 * b) ≤ n32 0 := by
  constructor
  · intro h; rw [h]; exact n32_rfl 0
  · intro h
    by_cases e : g (15 + 7 * b) = n32 0
    · exact e
    · refine ban_zero w hb (fun h2 => ?_)
      rw [Int32.lt_iff_toInt_lt] at h2
      rw [Int32.le_iff_toInt_le] at h
      omega
theorem s72 {a : Nat} {g : PG} {Q : XM → Prop} (w : WF g) (r : RS m a g) (h : ∀ m', RS m' a (weaksG g) → FR a m m' → Q m') : VU (D + 2) 72 [vR 8 a] m Q E := by
  have a2 := w.nb
  refine w72_0 (upm (C := fun i m' => VLU (D + 2) 72 1 [(0, vR 8 a), (1, vI (n32 i))] [] m' Q E) (Inv := fun i m' => RS m' a (itr i weakG g) ∧ FR a m m') (n := nBr g) ?_ ?_ 0 m (Nat.zero_le _) ⟨r, FR.rf _ _⟩)
  · intro i m1 hi hI ih
    obtain ⟨r1, f1⟩ := hI
    have kx : keeps g (itr i weakG g) := keeps_itr w fun j x hj hx => WF_weakG hx.1 (by rw [hx.2.1]; omega)
    have e1 : itr (i + 1) weakG g = weakG i (itr i weakG g) := rfl
    rw [e1] at ih
    generalize itr i weakG g = x at r1 kx ih
    have hix : i < nBr x := by rw [kx.2.1]; exact hi
    have h6 : m1 (a + 3) 0 = n32 (nBr g) := by rw [r1.nb, kx.1.1.1, kx.2.1]
    refine w72_1 ?_
    simp (disch := omega) only [n32_add, xin_t, ix_n32, h6, r1.ban hix, r1.str hix, le_f, false_implies, true_implies, not_false_eq_true, true_and]
    refine ⟨fun c => ?_, fun c => ⟨fun c1 => ?_, fun c1 => ?_⟩⟩
    · have e : weakG i x = x := by unfold weakG; rw [if_neg (fun h => h.1 ((weak_iff kx.1 hix).mp c))]
      rw [e] at ih; exact ih _ ⟨r1, f1⟩
    · have c' : ¬ x (15 + 7 * i) ≤ n32 0 := fun h => c ((weak_iff kx.1 hix).mpr h)
      have e : weakG i x = dropG x i := by unfold weakG; rw [if_pos ⟨c', c1⟩]
      rw [e] at ih
      exact s76 kx.1 r1 hix c' (fun m2 r2 f2 => ih m2 ⟨r2, f1.tr f2⟩)
    · have e : weakG i x = x := by unfold weakG; rw [if_neg (fun h => c1 h.2)]
      rw [e] at ih; exact ih _ ⟨r1, f1⟩
  · intro m1 hI
    obtain ⟨r1, f1⟩ := hI
    have kx := WF_weaksG w
    have h6 : m1 (a + 3) 0 = n32 (nBr g) := by
      rw [r1.nb]
      have e := kx.1.1.1
      rw [kx.2.1] at e; exact e
    refine w72_1 ?_
    rw [h6]
    exact ⟨fun _ => h m1 r1 f1, fun c => absurd (n32_rfl _) c⟩
theorem s8g {a : Nat} {g : PG} {v1 v2 : Int32} {Q : Int32 → XM → Prop} (w : WF g) (r : RS m a g) (h : Q (lieG g v1 v2) m) : VI D 8 [vR 1 (a + 12), vI v1, vI v2] m Q E := by
  have a2 := w.nb
  have a9 := w.nl
  refine s8 (n := nL g) (by rw [r.nl]; exact w.2.2.2.1.1) (by omega) ?_
  have e : bst (nL g) (fun k => decide (¬ m (a + 12 + 2) k < v1) && decide (¬ v2 < m (a + 12 + 2) k)) (fun k b => decide (¬ m (a + 12 + 2) k ≤ m (a + 12 + 2) b)) = lieG g v1 v2 := by
    refine bst_congr (by omega) (fun i hi => ?_) (fun i j hi hj => ?_)
    · rw [r.lp hi]
    · rw [r.lp hi, r.lp hj]
  rw [e]; exact h
theorem s78 {a b j : Nat} {g : PG} {Q : XM → Prop} (w : WF g) (r : RS m a g) (hb : b < nBr g) (hp : g (15 + 7 * b) = n32 0) (hj : j < nL g) (h : ∀ m', RS m' a (pickG g b j) → FR a m m' → Q m') : VU (D + 1) 78 [vR 8 a, vI (n32 b), vI (n32 j)] m Q E := by
  have a2 := w.nb
  have a6 := w.np
  have a8 := w.lc
  have a9 := w.nl
  have h10 : m (a + 12) 0 = n32 (nL g) := by rw [r.nl]; exact w.2.2.2.1.1
  have kd := WF_pickG w hb hp hj
  have d2 : nL (pickG g b j) = nL g - 1 := by
    have : ix (pickG g b j 10) = nL g - 1 := by rw [pickG_10 g (by omega), w.2.2.2.1.1, n32_sub (by omega), ix_n32 (by omega)]
    exact this
  refine w78_0 ?_
  simp (disch := omega) only [xin_t, ix_n32, h10, r.ll hj, lt_t, lt_f, false_implies, true_implies, not_false_eq_true, not_true_eq_false, true_and, and_true]
  refine s6 (n := nL g) (by rw [um_a (by omega)]; exact h10) (by omega) hj ?_
  have ep : um (rmv (um m (a + 3 + 5) b (g (207 + 3 * j))) (a + 12) j (nL g - 1)) (a + 12) 0 (n32 (nL g - 1)) a 3 = g 14 := by
    rw [um_a (by omega), rmv_ne (by omega), um_a (by omega), r.pk]
  rw [ep]
  refine h _ ?_ ?_
  · unfold RS
    rw [kd.2.1, d2, kd.2.2.2]
    -- every cell that isn't one of those written
    intro d k i hl
    have hl2 : lvn (nBr g) (nL g) (nPl g) d k i := lvn_up hl (Nat.le_refl _) (by omega) (Nat.le_refl _)
    have hfb := lvn_fb (lvn_up hl2 a2 (by omega) a6)
    by_cases c1 : d = 0 ∧ k = 3
    · obtain ⟨rfl, rfl⟩ := c1
      have : i = 14 := hfb.1.symm
      subst this
      rw [show a + 0 = a from rfl, um_eq]
      unfold pickG
      try dsimp only
      rw [gup_eq]
      unfold shiftG
      rw [if_neg (by omega), gup_ne (by omega), gup_ne (by omega)]
    · by_cases c2 : d = 12 ∧ k = 0
      · obtain ⟨rfl, rfl⟩ := c2
        have : i = 10 := hfb.1.symm
        subst this
        rw [um_a (by omega), um_eq, pickG_10 g (by omega), w.2.2.2.1.1, n32_sub (by omega)]
      · by_cases c3 : d = 8 ∧ k = b
        · obtain ⟨rfl, rfl⟩ := c3
          have : i = 15 + 7 * k := hfb.1.symm
          subst this
          rw [um_a (by omega), um_a (by omega), rmv_ne (by omega), show a + 8 = a + 3 + 5 from rfl, um_eq, pickG_b g (by omega)]
        · have hd := lvn_d hl
          have n1 : um (um (rmv (um m (a + 3 + 5) b (g (207 + 3 * j))) (a + 12) j (nL g - 1)) (a + 12) 0 (n32 (nL g - 1))) a 3 (g 14 + n32 1) (a + d) k = rmv (um m (a + 3 + 5) b (g (207 + 3 * j))) (a + 12) j (nL g - 1) (a + d) k := by
            unfold um
            rw [if_neg (by omega), if_neg (by omega)]
          rw [n1]
          by_cases c4 : (d = 13 ∨ d = 14 ∨ d = 15) ∧ j ≤ k
          · obtain ⟨c4, c5⟩ := c4
            have hk : k < nL g - 1 := by
              rcases hl with hl | hl | hl | hl | hl | hl
              · omega
              · omega
              · omega
              · omega
              · exact hl.1
              · omega
            rw [rmv_in (by omega) c5 hk, um_a (by omega)]
            rcases c4 with rfl | rfl | rfl
            · have : i = 207 + 3 * k := hfb.1.symm
              subst this
              rw [pickG_sh g (by omega) (by omega) (by omega)]
              exact r.ll (k := k + 1) (by omega)
            · have : i = 207 + 3 * k + 1 := hfb.1.symm
              subst this
              rw [pickG_sh g (by omega) (by omega) (by omega), show 207 + 3 * k + 1 + 3 = 207 + 3 * (k + 1) + 1 by omega]
              exact r.lp (k := k + 1) (by omega)
            · have : i = 207 + 3 * k + 2 := hfb.1.symm
              subst this
              rw [pickG_sh g (by omega) (by omega) (by omega), show 207 + 3 * k + 2 + 3 = 207 + 3 * (k + 1) + 2 by omega]
              exact r.lt (k := k + 1) (by omega)
          · have n2 : rmv (um m (a + 3 + 5) b (g (207 + 3 * j))) (a + 12) j (nL g - 1) (a + d) k = m (a + d) k := by
              unfold rmv um
              rw [if_neg (by omega), if_neg (by omega)]
            rw [n2, r d k i hl2]
            symm
            refine pickG_at g b j ?_ ?_ ?_ ?_
            · rintro rfl
              exact c1 ⟨(congrArg Prod.fst hfb.2).symm, (congrArg Prod.snd hfb.2).symm⟩
            · rintro rfl
              exact c2 ⟨(congrArg Prod.fst hfb.2).symm, (congrArg Prod.snd hfb.2).symm⟩
            · rintro rfl
              have := bwd_b (k := b) (w := 0) (by omega) (by omega)
              rw [Nat.add_zero, hfb.2] at this
              exact c3 ⟨congrArg Prod.fst this, congrArg Prod.snd this⟩
            · rcases hl with hl | hl | hl | hl | hl | hl <;> omega
  · intro c k hc
    rw [um_a (by omega), um_a (by omega), rmv_ne (by omega), um_a (by omega)]
theorem s73 {a : Nat} {g : PG} {bf : Nat → Int32} {Q : XM → Prop} (w : WF g) (r : RS m a g) (hbf : ∀ b, b < nBr g → m (a + 3 + 7) b = bf b) (h : ∀ m', RS m' a (liftsG bf g) → FR a m m' → Q m') : VU (D + 2) 73 [vR 8 a] m Q E := by
  have a2 := w.nb
  refine w73_0 (upm (C := fun i m' => VLU (D + 2) 73 1 [(0, vR 8 a), (1, vI (n32 i))] [] m' Q E) (Inv := fun i m' => RS m' a (itr i (liftG bf) g) ∧ FR a m m') (n := nBr g) ?_ ?_ 0 m (Nat.zero_le _) ⟨r, FR.rf _ _⟩)
  · intro i m1 hi hI ih
    obtain ⟨r1, f1⟩ := hI
    have kx : keeps g (itr i (liftG bf) g) := keeps_itr w fun j x hj hx => WF_liftG hx.1 (by rw [hx.2.1]; omega)
    have e1 : itr (i + 1) (liftG bf) g = liftG bf i (itr i (liftG bf) g) := rfl
    rw [e1] at ih
    generalize itr i (liftG bf) g = x at r1 kx ih
    have hix : i < nBr x := by rw [kx.2.1]; exact hi
    have a9 := kx.1.nl
    have anb := kx.1.nb
    have h6 : m1 (a + 3) 0 = n32 (nBr g) := by rw [r1.nb, kx.1.1.1, kx.2.1]
    have h10 : m1 (a + 12) 0 = n32 (nL x) := by rw [r1.nl, kx.1.2.2.2.1.1]
    have hb7 : m1 (a + 3 + 7) i = bf i := by rw [f1 _ _ (by omega)]; exact hbf i hi
    have e4 := r1.se (k := 4) (by omega)
    refine w73_1 ?_
    simp (disch := omega) only [n32_add, xin_t, ix_n32, h6, h10, hb7, e4, r1.ban hix, r1.str hix, r1.pla hix, le_f, false_implies, true_implies, not_false_eq_true, true_and]
    refine ⟨fun c => ?_, fun c => ⟨fun c1 => ⟨fun c2 => ?_, fun c2 => ?_⟩, fun c1 => ?_⟩⟩
    · have h0 : nL x = 0 := by
        have := (n32_le (by omega) (by omega)).mp c
        omega
      have e : liftG bf i x = x := by
        unfold liftG lieG
        rw [h0]
        split
        · rfl
        · split
          · rw [if_pos (show bst 0 _ _ = -(n32 1) from rfl)]
          · rfl
      rw [e] at ih; exact ih _ ⟨r1, f1⟩
    · have e : liftG bf i x = x := by
        unfold liftG
        split
        · rfl
        · rw [if_neg]
          rw [Int32.lt_iff_toInt_lt] at c2
          rw [Int32.le_iff_toInt_le]; omega
      rw [e] at ih; exact ih _ ⟨r1, f1⟩
    · have c2' : x 4 ≤ x (15 + 7 * i + 4) := by
        rw [Int32.lt_iff_toInt_lt] at c2
        rw [Int32.le_iff_toInt_le]; omega
      have c0 : ¬ n32 0 < x (15 + 7 * i) := by rw [c1]; exact fun h => absurd ((n32_lt (by omega) (by omega)).mp h) (by omega)
      unfold liftG at ih
      rw [if_neg c0, if_pos c2'] at ih
      refine s8g kx.1 r1 ?_
      rcases lieG_rng x (bf i) (x (15 + 7 * i + 1)) (by omega) with h3 | ⟨j, h3, h4⟩
      · rw [if_pos h3] at ih
        rw [h3]
        refine w78_0 ⟨fun _ => ih _ ⟨r1, f1⟩, fun c => absurd ?_ c⟩
        decide
      · have hne : ¬ n32 j = -(n32 1) := n32_nm1 (by omega)
        rw [h4, if_neg hne, ix_n32 (by omega)] at ih
        rw [h4]
        exact s78 kx.1 r1 hix c1 h3 (fun m2 r2 f2 => ih m2 ⟨r2, f1.tr f2⟩)
    · have e : liftG bf i x = x := by
        unfold liftG
        rw [if_pos]
        obtain ⟨q, q1, q2, q3⟩ := kx.1.b0 hix
        rw [q3] at c1 ⊢
        have : q ≠ 0 := by rintro rfl; exact c1 rfl
        exact (n32_lt (by omega) (by omega)).mpr (by omega)
      rw [e] at ih; exact ih _ ⟨r1, f1⟩
  · intro m1 hI
    obtain ⟨r1, f1⟩ := hI
    have kx := WF_liftsG (bf := bf) w
    have h6 : m1 (a + 3) 0 = n32 (nBr g) := by
      rw [r1.nb]
      have e := kx.1.1.1
      rw [kx.2.1] at e; exact e
    refine w73_1 ?_
    rw [h6]
    exact ⟨fun _ => h m1 r1 f1, fun c => absurd (n32_rfl _) c⟩
/-- before a tick: no plan that is over is due later -/
def PO (g : PG) : Prop := PT (gup g 9 (g 9 + n32 1))
theorem s70 {a : Nat} {g : PG} {Q : XM → Prop} (w : WF g) (p : PO g) (r : RS m a g) (h : ∀ m', RS m' a (tkG g) → FM a m m' → Q m') : VU (D + 4) 70 [vR 8 a] m Q E := by
  refine w70_0 ?_
  have k0 : keeps g (gup g 9 (g 9 + n32 1)) := WF_freeN w (Or.inl (Or.inl rfl))
  have r0 : RS (um m a 0 (m a 0 + n32 1)) a (gup g 9 (g 9 + n32 1)) := by
    rw [r.tm]
    exact RS_gup (d0 := 0) w r lv_tm (by omega) (by omega) (by omega)
  have f0 : FM a m (um m a 0 (m a 0 + n32 1)) := FM_um m _ (by omega)
  refine s71 k0.1 p r0 ?_
  intro m1 r1 f1
  unfold tkG at h
  try dsimp only at h
  have k1 := WF_plansG k0.1
  generalize plansG (gup g 9 (g 9 + n32 1)) = g1 at h k1 r1
  have e0 := r1.se (k := 0) (by omega)
  have e3 := r1.se (k := 3) (by omega)
  simp (disch := omega) only [ix_n32, e0, e3]
  refine s54 k1.1 r1 ?_
  intro m2 r2 f2 b2
  have k2 : keeps g1 (movesG g1) := WF_movesG k1.1
  refine s72 k2.1 r2 ?_
  intro m3 r3 f3
  have k3 : keeps g1 (weaksG (movesG g1)) := k2.tr (WF_weaksG k2.1)
  refine s73 (bf := fun b => g1 (15 + 7 * b + 1)) k3.1 r3 ?_ ?_
  · intro b hb
    rw [k3.2.1] at hb
    rw [f3 _ _ (by omega)]; exact b2 b hb
  · intro m4 r4 f4
    exact h m4 r4 (((f0.tr f1.toM).tr f2).tr (f3.toM.tr f4.toM))
end CT3
end
section
/-! The text that a stand reads. -/
abbrev TX : Type := Nat × Nat × (Nat → Int32) × (Nat → Nat)
def seesG (g : PG) (s b : Nat) : Bool := decide (¬ g (15 + 7 * b) ≤ n32 0) && decide (¬ g 1 < iabs (g (15 + 7 * b + 1) - g (99 + 12 * s + 1)))
def ordG (g : PG) (s k : Nat) : Nat := if g (99 + 12 * s) = n32 0 then k else nBr g - 1 - k
def tx1 (t : TX) (v : Int32) (b : Nat) : TX := (t.1 + 1, t.2.1 + 1, (fun j => if j = t.1 then v else t.2.2.1 j), fun j => if j = t.2.1 then b else t.2.2.2 j)
def tx0 (t : TX) : TX := (t.1 + 1, t.2.1, (fun j => if j = t.1 then n32 32 else t.2.2.1 j), t.2.2.2)
/-- is the bearer b too far from the one whose letter was read last? -/
def gapG (g : PG) (t : TX) (b : Nat) : Bool := decide (¬ t.2.1 = 0) && decide (¬ iabs (g (15 + 7 * b + 1) - g (15 + 7 * t.2.2.2 (t.2.1 - 1) + 1)) ≤ g 2)
def txStep (g : PG) (s k : Nat) (t : TX) : TX :=
  if seesG g s (ordG g s k) = true then
    (if gapG g t (ordG g s k) = true then tx1 (tx0 t) (n32 96 + g (15 + 7 * ordG g s k)) (ordG g s k) else tx1 t (n32 96 + g (15 + 7 * ordG g s k)) (ordG g s k))
  else t
def txG (g : PG) (s k : Nat) : TX := itr k (txStep g s) (0, 0, (fun _ => 0), fun _ => 0)
/-- the whole text -/
def txA (g : PG) (s : Nat) : TX := txG g s (nBr g)
def txOk (g : PG) (k : Nat) (t : TX) : Prop := t.2.1 ≤ k ∧ t.2.1 ≤ t.1 ∧ t.1 ≤ 2 * t.2.1 ∧ (t.2.1 ≠ 0 → t.1 + 1 ≤ 2 * t.2.1) ∧ ∀ j, j < t.2.1 → t.2.2.2 j < nBr g
theorem ordG_lt {g : PG} {s k : Nat} (h : k < nBr g) : ordG g s k < nBr g := by
  unfold ordG; split <;> omega
theorem tx1_ok {g : PG} {k b : Nat} {t : TX} {v : Int32} (h : txOk g k t) (hb : b < nBr g) : txOk g (k + 1) (tx1 t v b) := by
  obtain ⟨h1, h2, h3, h4, h5⟩ := h
  unfold tx1
  refine ⟨by dsimp only; omega, by dsimp only; omega, by dsimp only; omega, fun _ => by dsimp only; omega, ?_⟩
  intro j hj
  dsimp only at hj ⊢
  split
  · exact hb
  · exact h5 j (by omega)
theorem tx01_ok {g : PG} {k b : Nat} {t : TX} {v : Int32} (h : txOk g k t) (h0 : t.2.1 ≠ 0) (hb : b < nBr g) : txOk g (k + 1) (tx1 (tx0 t) v b) := by
  obtain ⟨h1, h2, h3, h4, h5⟩ := h
  have h4 := h4 h0
  unfold tx1 tx0
  refine ⟨by dsimp only; omega, by dsimp only; omega, by dsimp only; omega, fun _ => by dsimp only; omega, ?_⟩
  intro j hj
  dsimp only at hj ⊢
  split
  · exact hb
  · exact h5 j (by omega)
theorem gapG_ne {g : PG} {t : TX} {b : Nat} (h : gapG g t b = true) : t.2.1 ≠ 0 := by
  unfold gapG at h
  rw [Bool.and_eq_true] at h
  exact of_decide_eq_true h.1
theorem txG_ok (g : PG) (s : Nat) : ∀ k, k ≤ nBr g → txOk g k (txG g s k) := by
  intro k
  induction k with
  | zero => intro _; exact ⟨Nat.le_refl _, Nat.le_refl _, Nat.le_refl _, fun h => absurd rfl h, fun j hj => absurd hj (Nat.not_lt_zero j)⟩
  | succ k ih =>
    intro hk
    have e : txG g s (k + 1) = txStep g s k (txG g s k) := rfl
    have ih := ih (by omega)
    rw [e]
    generalize txG g s k = t at ih
    unfold txStep
    split
    · split
      · rename_i h; exact tx01_ok ih (gapG_ne h) (ordG_lt (by omega))
      · exact tx1_ok ih (ordG_lt (by omega))
    · obtain ⟨h1, h2, h3, h4, h5⟩ := ih
      exact ⟨by omega, h2, h3, h4, h5⟩
/-- how many bytes of the text are those of the word -/
def almG (g : PG) (s : Nat) : Nat := cnt (min (txA g s).1 (ix (g (99 + 12 * s + 2)))) fun i => decide ((txA g s).2.2.1 i = g (99 + 12 * s + 4 + i))
def rdG (g : PG) (s : Nat) : Bool := decide ((txA g s).1 = ix (g (99 + 12 * s + 2))) && decide (almG g s = (txA g s).1)
def shareG (g : PG) (s : Nat) : UInt32 := FP.fdiv (FP.i2f (n32 (almG g s))) (FP.i2f (n32 (max (txA g s).1 (ix (g (99 + 12 * s + 2))))))
theorem share_all : ((List.range 9).all fun n => (List.range 25).all fun d => Nat.beq d 0 || fcond (FP.fdiv (FP.i2f (n32 n)) (FP.i2f (n32 d)))) = true := by decide +kernel
theorem share_nn {n d : Nat} (h1 : n ≤ 8) (h2 : d ≤ 24) (h3 : d ≠ 0) : FP.fdiv (FP.i2f (n32 n)) (FP.i2f (n32 d)) &&& 0x7fffffff ≤ 0x7f800000 := by
  have := List.all_eq_true.mp (List.all_eq_true.mp share_all n (List.mem_range.mpr (by omega))) d (List.mem_range.mpr (by omega))
  rw [Bool.or_eq_true] at this
  rcases this with h | h
  · exact absurd (Nat.eq_of_beq_eq_true h) h3
  · exact of_decide_eq_true h
theorem imax_n {a b : Nat} (ha : a < 2147483648) (hb : b < 2147483648) : imax (n32 a) (n32 b) = n32 (max a b) := by
  unfold imax
  by_cases h : a < b
  · rw [if_pos ((n32_lt ha hb).mpr h), Nat.max_eq_right (by omega)]
  · rw [if_neg (fun e => h ((n32_lt ha hb).mp e)), Nat.max_eq_left (by omega)]
theorem imin_n {a b : Nat} (ha : a < 2147483648) (hb : b < 2147483648) : imin (n32 a) (n32 b) = n32 (min a b) := by
  unfold imin
  by_cases h : b < a
  · rw [if_pos ((n32_lt hb ha).mpr h), Nat.min_eq_right (by omega)]
  · rw [if_neg (fun e => h ((n32_lt hb ha).mp e)), Nat.min_eq_left (by omega)]
theorem iabs_neg (d : Int32) : iabs (-d) = iabs d := by
  unfold iabs
  have e := Int32.toInt_neg d
  rw [Int.bmod_def] at e
  have l1 := Int32.le_toInt d
  have l2 := Int32.toInt_lt d
  by_cases h1 : n32 0 ≤ d
  · rw [if_pos h1]
    rw [le_n32] at h1
    by_cases h2 : n32 0 ≤ -d
    · rw [if_pos h2]
      rw [le_n32] at h2
      have : d = 0 := by
        apply Int32.toInt_inj.mp
        show d.toInt = 0
        split at e <;> omega
      subst this; rfl
    · rw [if_neg h2, Int32.neg_neg]
  · rw [if_neg h1]
    rw [le_n32] at h1
    by_cases h2 : n32 0 ≤ -d
    · rw [if_pos h2]
    · rw [if_neg h2, Int32.neg_neg]
      rw [le_n32] at h2
      apply Int32.toInt_inj.mp
      split at e <;> omega
theorem iabs_comm (x y : Int32) : iabs (x - y) = iabs (y - x) := by
  rw [← Int32.neg_sub, iabs_neg]
/-- the Route at an address -/
def RT (m : XM) (a : Nat) (g : PG) : Prop := m a 0 = g 7 ∧ ∀ s, s < nSt g → m (a + 1) s = g (99 + 12 * s) ∧ m (a + 2) s = g (99 + 12 * s + 1) ∧ m (a + 3) s = g (99 + 12 * s + 2) ∧ ∀ i, i < ix (g (99 + 12 * s + 2)) → m (a + 4) (s * 8 + i) = g (99 + 12 * s + 4 + i)
/-- the Reading at an address -/
def RR (m : XM) (a : Nat) (t : TX) : Prop := m a 0 = n32 t.1 ∧ m a 1 = n32 t.2.1 ∧ (∀ j, j < t.1 → m (a + 1) j = t.2.2.1 j) ∧ ∀ j, j < t.2.1 → m (a + 2) j = n32 (t.2.2.2 j)
/-- nothing changes but the Reading at a -/
def FD (a : Nat) (m m' : XM) : Prop := ∀ b k, (b < a ∨ a + 3 ≤ b) → m' b k = m b k
theorem FD.rf (a : Nat) (m : XM) : FD a m m := fun _ _ _ => rfl
theorem FD.tr {a : Nat} {m1 m2 m3 : XM} (h1 : FD a m1 m2) (h2 : FD a m2 m3) : FD a m1 m3 := fun b k hb => (h2 b k hb).trans (h1 b k hb)
theorem RR_1 {m : XM} {a b : Nat} {t : TX} {v : Int32} (h : RR m a t) : RR (um (um (um (um m (a + 1) t.1 v) a 0 (n32 (t.1 + 1))) (a + 2) t.2.1 (n32 b)) a 1 (n32 (t.2.1 + 1))) a (tx1 t v b) ∧ FD a m (um (um (um (um m (a + 1) t.1 v) a 0 (n32 (t.1 + 1))) (a + 2) t.2.1 (n32 b)) a 1 (n32 (t.2.1 + 1))) := by
  obtain ⟨h1, h2, h3, h4⟩ := h
  refine ⟨⟨?_, ?_, ?_, ?_⟩, ?_⟩
  · rw [um_k (by omega), um_a (by omega), um_eq]; rfl
  · rw [um_eq]; rfl
  · intro j hj
    rw [um_a (by omega), um_a (by omega), um_a (by omega)]
    unfold tx1 at hj ⊢
    dsimp only at hj ⊢
    by_cases e : j = t.1
    · subst e; rw [um_eq, if_pos rfl]
    · rw [um_k e, if_neg e]; exact h3 j (by omega)
  · intro j hj
    rw [um_a (by omega)]
    unfold tx1 at hj ⊢
    dsimp only at hj ⊢
    by_cases e : j = t.2.1
    · subst e; rw [um_eq, if_pos rfl]
    · rw [um_k e, um_a (by omega), um_a (by omega), if_neg e]; exact h4 j (by omega)
  · intro c k hc
    rw [um_a (by omega), um_a (by omega), um_a (by omega), um_a (by omega)]
theorem RR_0 {m : XM} {a : Nat} {t : TX} (h : RR m a t) : RR (um (um m (a + 1) t.1 (n32 32)) a 0 (n32 (t.1 + 1))) a (tx0 t) ∧ FD a m (um (um m (a + 1) t.1 (n32 32)) a 0 (n32 (t.1 + 1))) := by
  obtain ⟨h1, h2, h3, h4⟩ := h
  refine ⟨⟨?_, ?_, ?_, ?_⟩, ?_⟩
  · rw [um_eq]; rfl
  · rw [um_k (by omega), um_a (by omega)]; exact h2
  · intro j hj
    rw [um_a (by omega)]
    unfold tx0 at hj ⊢
    dsimp only at hj ⊢
    by_cases e : j = t.1
    · subst e; rw [um_eq, if_pos rfl]
    · rw [um_k e, if_neg e]; exact h3 j (by omega)
  · intro j hj
    rw [um_a (by omega), um_a (by omega)]; exact h4 j hj
  · intro c k hc
    rw [um_a (by omega), um_a (by omega)]
end
section
/-! The component reads. -/
section RD
variable {D : Nat} {m : XM} {E : Nat → XM → Prop}
theorem s79 {a b s : Nat} {g : PG} {Q : Int32 → XM → Prop} (w : WF g) (r : RS m a g) (hb : b < nBr g) (h : Q (if seesG g s b = true then n32 1 else n32 0) m) : VI (D + 1) 79 [vR 8 a, vI (n32 b), vI (g (99 + 12 * s + 1))] m Q E := by
  have a2 := w.nb
  have e1 := r.se (k := 1) (by omega)
  refine w79_0 ?_
  simp (disch := omega) only [xin_t, ix_n32, r.ban hb, r.pla hb, true_and]
  unfold seesG at h
  refine ⟨fun c => ?_, fun c => ?_⟩
  · have c' := (weak_iff w hb).mp c
    simp only [c', decide_true, decide_false, not_true_eq_false, Bool.false_and, Bool.false_eq_true, if_false] at h
    exact h
  · have c' : ¬ g (15 + 7 * b) ≤ n32 0 := fun h => c ((weak_iff w hb).mpr h)
    refine s384 ?_
    simp (disch := omega) only [ix_n32, e1]
    by_cases c1 : g 1 < iabs (g (15 + 7 * b + 1) - g (99 + 12 * s + 1)) <;>
      simp only [c', c1, decide_true, decide_false, not_true_eq_false, not_false_eq_true, Bool.and_true, Bool.true_and, Bool.and_false, Bool.false_and, if_true, if_false, false_implies, true_implies, and_true, true_and, Bool.false_eq_true] at h ⊢ <;> exact h
theorem s34 {r a b : Nat} {g : PG} {t : TX} {Q : XM → Prop} (w : WF g) (rs : RS m a g) (hb : b < nBr g) (hT : RR m r t) (ho : txOk g 11 t) (far : r + 3 ≤ a ∨ a + 20 ≤ r)
    (h : ∀ m', RR m' r (if gapG g t b = true then tx1 (tx0 t) (n32 96 + g (15 + 7 * b)) b else tx1 t (n32 96 + g (15 + 7 * b)) b) → FD r m m' → Q m') : VU (D + 1) 34 [vR 5 r, vR 7 (a + 3), vI (n32 b), vI (g 2)] m Q E := by
  have a2 := w.nb
  obtain ⟨o1, o2, o3, o4, o5⟩ := ho
  have hT' := hT
  obtain ⟨h1, h2, h3, h4⟩ := hT
  refine w34_0 ?_
  simp (disch := omega) only [h1, h2, n32_add, le_f, lt_t, xin_t, ix_n32, rs.ban hb, rs.pla hb, um_a, um_k, um_eq, false_implies, true_implies, not_false_eq_true, not_true_eq_false, true_and, and_true]
  refine ⟨fun c => ?_, fun c => ?_⟩
  · have h0 : t.2.1 = 0 := by
      have := (n32_le (by omega) (by omega)).mp c
      omega
    have eg : gapG g t b = false := by unfold gapG; simp [h0]
    rw [eg, if_neg (by decide)] at h
    rintro μ rfl
    simp (disch := omega) only [um_a, um_k, um_eq, h2, n32_add]
    obtain ⟨p1, p2⟩ := RR_1 (b := b) (v := n32 96 + g (15 + 7 * b)) hT'
    exact h _ p1 p2
  · have h0 : ¬ t.2.1 = 0 := by
      intro e
      rw [e] at c; exact c (n32_rfl 0)
    have e4 : m (r + 2) (t.2.1 - 1) = n32 (t.2.2.2 (t.2.1 - 1)) := h4 _ (by omega)
    have e5 := o5 (t.2.1 - 1) (by omega)
    have e6 := o4 h0
    simp (disch := omega) only [n32_sub, xin_t, ix_n32, e4, rs.pla e5, true_and]
    refine s384 ?_
    unfold gapG at h
    refine ⟨fun c1 => ?_, fun c1 => ?_⟩
    · simp only [h0, c1, decide_true, decide_false, not_true_eq_false, not_false_eq_true, Bool.and_false, if_false, Bool.false_eq_true] at h
      simp (disch := omega) only [h1, rs.ban hb, xin_t, ix_n32, n32_add, true_and]
      rintro μ rfl
      simp (disch := omega) only [um_a, um_k, um_eq, h2, n32_add, xin_t, ix_n32, true_and]
      obtain ⟨p1, p2⟩ := RR_1 (b := b) (v := n32 96 + g (15 + 7 * b)) hT'
      exact h _ p1 p2
    · simp only [h0, c1, decide_true, decide_false, not_true_eq_false, not_false_eq_true, Bool.and_true, if_true] at h
      simp (disch := omega) only [h1, rs.ban hb, um_a, um_k, um_eq, xin_t, ix_n32, n32_add, true_and]
      rintro μ rfl
      simp (disch := omega) only [um_a, um_k, um_eq, h2, n32_add, xin_t, ix_n32, true_and]
      rintro μ rfl
      try simp (disch := omega) only [um_a, um_k, um_eq, h2, n32_add, xin_t, ix_n32, true_and]
      obtain ⟨q1, q2⟩ := RR_0 hT'
      obtain ⟨p1, p2⟩ := RR_1 (b := b) (v := n32 96 + g (15 + 7 * b)) q1
      exact h _ p1 (q2.tr p2)
theorem RS_fd {m m' : XM} {a r : Nat} {g : PG} (h : RS m a g) (f : FD r m m') (far : r + 3 ≤ a ∨ a + 20 ≤ r) : RS m' a g := by
  intro d k i hl
  have hd := lvn_d hl
  rw [f _ _ (by omega)]
  exact h d k i hl
theorem RT_fd {m m' : XM} {a r : Nat} {g : PG} (h : RT m a g) (f : FD r m m') (far : r + 3 ≤ a ∨ a + 5 ≤ r) : RT m' a g := by
  obtain ⟨h1, h2⟩ := h
  refine ⟨by rw [f _ _ (by omega)]; exact h1, fun s hs => ?_⟩
  obtain ⟨q1, q2, q3, q4⟩ := h2 s hs
  exact ⟨by rw [f _ _ (by omega)]; exact q1, by rw [f _ _ (by omega)]; exact q2, by rw [f _ _ (by omega)]; exact q3, fun i hi => by rw [f _ _ (by omega)]; exact q4 i hi⟩
theorem s33 {r a rt s : Nat} {g : PG} {Q : XM → Prop} (w : WF g) (rs : RS m a g) (rr : RT m rt g) (hs : s < nSt g) (far : r + 3 ≤ a ∨ a + 20 ≤ r) (far2 : r + 3 ≤ rt ∨ rt + 5 ≤ r)
    (h : ∀ m', RR m' r (txA g s) → FD r m m' → Q m') : VU (D + 2) 33 [vR 5 r, vR 8 a, vR 6 rt, vI (n32 s)] m Q E := by
  have a2 := w.nb
  have a4 := w.ns
  obtain ⟨sd, sd1, sd2, sd3⟩ := (w.st hs).1
  refine w33_0 (upm (C := fun i m' => VLU (D + 2) 33 1 [(0, vR 5 r), (1, vR 8 a), (2, vR 6 rt), (3, vI (n32 s)), (4, vR 7 (a + 3)), (5, vI (n32 i))] [] m' Q E) (Inv := fun i m' => RR m' r (txG g s i) ∧ FD r m m') (n := nBr g) ?_ ?_ 0 (um (um m r 0 (n32 0)) r 1 (n32 0)) (Nat.zero_le _) ⟨⟨?_, ?_, ?_, ?_⟩, ?_⟩)
  · intro i m1 hi hI ih
    obtain ⟨hT, f1⟩ := hI
    have ok := txG_ok g s i (by omega)
    have e1 : txG g s (i + 1) = txStep g s i (txG g s i) := rfl
    rw [e1] at ih
    generalize txG g s i = t at hT ih ok
    have rs1 := RS_fd rs f1 far
    have rr1 := RT_fd rr f1 far2
    obtain ⟨q1, q2, q3, q4⟩ := rr1.2 s hs
    have h6 : m1 (a + 3) 0 = n32 (nBr g) := by rw [rs1.nb]; exact w.1.1
    have ok' : txOk g 11 t := ⟨by have := ok.1; omega, ok.2⟩
    have key : ∀ b, b = ordG g s i → VI (D + 1) 79 [vR 8 a, vI (n32 b), vI (g (99 + 12 * s + 1))] m1 (fun x1 m2 => ((x1 = (n32 0) → VLU (D + 2) 33 1 [(0, vR 5 r), (1, vR 8 a), (2, vR 6 rt), (3, vI (n32 s)), (4, vR 7 (a + 3)), (5, vI (n32 (i + 1)))] [] m2 Q E) ∧ (¬ x1 = (n32 0) → VU (D + 1) 34 [vR 5 r, vR 7 (a + 3), vI (n32 b), vI (m2 (a + 1) 2)] m2 (fun m3 => VLU (D + 2) 33 1 [(0, vR 5 r), (1, vR 8 a), (2, vR 6 rt), (3, vI (n32 s)), (4, vR 7 (a + 3)), (5, vI (n32 (i + 1)))] [] m3 Q E) E))) E := by
      intro b hb
      have hbb : b < nBr g := by rw [hb]; exact ordG_lt hi
      unfold txStep at ih
      rw [← hb] at ih
      refine s79 (s := s) w rs1 hbb ?_
      by_cases hc : seesG g s b = true
      · rw [if_pos hc]
        rw [if_pos hc] at ih
        refine ⟨fun c => absurd c (by decide), fun _ => ?_⟩
        rw [rs1.se (k := 2) (by omega)]
        exact s34 w rs1 hbb hT ok' far (fun m2 p1 p2 => ih m2 ⟨p1, f1.tr p2⟩)
      · rw [if_neg hc]
        rw [if_neg hc] at ih
        exact ⟨fun _ => ih m1 ⟨hT, f1⟩, fun c => absurd rfl c⟩
    refine w33_1 ?_
    simp (disch := omega) only [n32_add, n32_sub, xin_t, ix_n32, h6, q1, q2, le_f, false_implies, true_implies, not_false_eq_true, true_and]
    refine ⟨fun c => key _ ?_, fun c => key _ ?_⟩
    · have : sd = 1 := by
        rw [sd3] at c
        exact n32_inj (by omega) (by omega) c
      unfold ordG
      rw [if_neg]
      rw [sd3, this]; decide
    · have : sd = 0 := by
        have : sd ≠ 1 := by rintro rfl; exact c sd3
        omega
      unfold ordG
      rw [if_pos]
      rw [sd3, this]
  · intro m1 hI
    obtain ⟨hT, f1⟩ := hI
    have rs1 := RS_fd rs f1 far
    have h6 : m1 (a + 3) 0 = n32 (nBr g) := by rw [rs1.nb]; exact w.1.1
    refine w33_1 ?_
    rw [h6]
    exact ⟨fun _ => h m1 hT f1, fun c => absurd (n32_rfl _) c⟩
  · rw [um_k (by omega), um_eq]; rfl
  · rw [um_eq]; rfl
  · intro j hj; exact absurd hj (Nat.not_lt_zero j)
  · intro j hj; exact absurd hj (Nat.not_lt_zero j)
  · intro c k hc
    rw [um_a (by omega), um_a (by omega)]
theorem tx_len {g : PG} (w : WF g) (s : Nat) : (txA g s).1 ≤ 24 := by
  have a2 := w.nb
  obtain ⟨h1, h2, h3, h4, h5⟩ := txG_ok g s (nBr g) (Nat.le_refl _)
  unfold txA; omega
theorem wl {g : PG} (w : WF g) {s : Nat} (hs : s < nSt g) : 1 ≤ ix (g (99 + 12 * s + 2)) ∧ ix (g (99 + 12 * s + 2)) ≤ 8 ∧ g (99 + 12 * s + 2) = n32 (ix (g (99 + 12 * s + 2))) := by
  obtain ⟨n, h1, h2, h3⟩ := (w.st hs).2.1
  rw [h3, ix_n32 (by omega)]
  exact ⟨h1, h2, rfl⟩
theorem s37 {r rt s : Nat} {g : PG} {Q : Int32 → XM → Prop} (w : WF g) (hT : RR m r (txA g s)) (rr : RT m rt g) (hs : s < nSt g) (h : Q (n32 (almG g s)) m) : VI (D + 1) 37 [vR 5 r, vR 6 rt, vI (n32 s)] m Q E := by
  have a4 := w.ns
  obtain ⟨h1, h2, h3, h4⟩ := hT
  obtain ⟨q1, q2, q3, q4⟩ := rr.2 s hs
  obtain ⟨l1, l2, l3⟩ := wl w hs
  have tl := tx_len w s
  unfold almG at h
  generalize txA g s = t at h h1 h2 h3 h4 tl
  rw [l3] at q3
  generalize ix (g (99 + 12 * s + 2)) = L at h l1 l2 q3 q4
  refine w37_0 (up (C := fun i => VLI (D + 1) 37 1 [(0, vR 5 r), (1, vR 6 rt), (2, vI (n32 s)), (3, vI (n32 (cnt i fun i => decide (t.2.2.1 i = g (99 + 12 * s + 4 + i))))), (4, vI (n32 i))] [] m Q E) (n := min t.1 L) ?_ ?_ 0 (Nat.zero_le _))
  · intro i hi ih
    refine w37_1 ?_
    rw [ix_n32 (show s < 2147483648 by omega), h1, q3]
    simp (disch := omega) only [n32_add, n32_mul, xin_t, ix_n32, h3 i (by omega), q4 i (by omega), le_f, lt_f, false_implies, true_implies, not_false_eq_true, true_and]
    by_cases c0 : t.2.2.1 i = g (99 + 12 * s + 4 + i) <;>
      simp only [c0, cnt_succ, decide_true, decide_false, not_true_eq_false, not_false_eq_true, if_true, if_false, false_implies, true_implies, and_true, true_and, Bool.false_eq_true] at ih ⊢ <;> exact ih
  · refine w37_1 ?_
    rw [ix_n32 (show s < 2147483648 by omega), h1, q3]
    simp (disch := omega) only [xin_t, true_and]
    by_cases c : t.1 ≤ L
    · rw [Nat.min_eq_left c] at h ⊢
      exact ⟨fun _ => h, fun c => absurd (n32_rfl _) c⟩
    · rw [Nat.min_eq_right (by omega)] at h ⊢
      exact ⟨fun _ => h, fun _ => ⟨fun _ => h, fun c => absurd (n32_rfl _) c⟩⟩
theorem s39 {r rt s : Nat} {g : PG} {Q : Int32 → XM → Prop} (w : WF g) (hT : RR m r (txA g s)) (rr : RT m rt g) (hs : s < nSt g) (h : Q (if rdG g s = true then n32 1 else n32 0) m) : VI (D + 2) 39 [vR 5 r, vR 6 rt, vI (n32 s)] m Q E := by
  have a4 := w.ns
  obtain ⟨q1, q2, q3, q4⟩ := rr.2 s hs
  obtain ⟨l1, l2, l3⟩ := wl w hs
  have tl := tx_len w s
  have al : almG g s ≤ 24 := by
    have := cnt_le (min (txA g s).1 (ix (g (99 + 12 * s + 2)))) fun i => decide ((txA g s).2.2.1 i = g (99 + 12 * s + 4 + i))
    unfold almG; omega
  refine w39_0 ?_
  rw [ix_n32 (show s < 2147483648 by omega), hT.1, q3, l3]
  simp (disch := omega) only [xin_t, true_and]
  unfold rdG at h
  by_cases c : (txA g s).1 = ix (g (99 + 12 * s + 2))
  · refine ⟨fun _ => ?_, fun c' => absurd (by rw [c]) c'⟩
    refine s37 w hT rr hs ?_
    rw [hT.1]
    by_cases c2 : almG g s = (txA g s).1
    · simp only [c, decide_true, Bool.true_and] at h
      rw [← c] at h
      simp only [c2, decide_true, if_true] at h
      exact ⟨fun _ => h, fun c' => absurd (by rw [c2]) c'⟩
    · rw [decide_eq_true c, decide_eq_false c2] at h
      exact ⟨fun c' => absurd (n32_inj (by omega) (by omega) c') c2, fun _ => h⟩
  · rw [decide_eq_false c] at h
    exact ⟨fun c' => absurd (n32_inj (by omega) (by omega) c') c, fun _ => h⟩
theorem s40 {r rt s : Nat} {g : PG} {Q : UInt32 → XM → Prop} (w : WF g) (hT : RR m r (txA g s)) (rr : RT m rt g) (hs : s < nSt g) (h : Q (shareG g s) m) : VF (D + 2) 40 [vR 5 r, vR 6 rt, vI (n32 s)] m Q E := by
  have a4 := w.ns
  obtain ⟨q1, q2, q3, q4⟩ := rr.2 s hs
  obtain ⟨l1, l2, l3⟩ := wl w hs
  have tl := tx_len w s
  have al : almG g s ≤ 8 := by
    have := cnt_le (min (txA g s).1 (ix (g (99 + 12 * s + 2)))) fun i => decide ((txA g s).2.2.1 i = g (99 + 12 * s + 4 + i))
    unfold almG; omega
  refine w40_0 ?_
  rw [ix_n32 (show s < 2147483648 by omega), hT.1, q3, l3]
  simp (disch := omega) only [xin_t, true_and]
  refine s385 ?_
  rw [imax_n (by omega) (by omega)]
  refine ⟨fun c => absurd ((n32_le (by omega) (by omega)).mp c) (by omega), fun _ => ?_⟩
  refine s37 w hT rr hs ?_
  exact ⟨share_nn al (by omega) (by omega), h⟩
end RD
end
section
/-! The reference reads; its whole tick. -/
def TXF (m : XM) (t : TX) : Prop := m 283 18 = n32 t.1 ∧ ∀ j, j < t.1 → m 290 j = t.2.2.1 j
def bfv (t : TX) : Int32 := if t.2.1 = 0 then -(n32 1) else n32 (t.2.2.2 (t.2.1 - 1))
theorem bfv_1 (t : TX) (v : Int32) (b : Nat) : bfv (tx1 t v b) = n32 b := by
  unfold bfv tx1
  dsimp only
  rw [if_neg (by omega), Nat.add_sub_cancel, if_pos rfl]
theorem TXF_1 {m : XM} {b : Nat} {t : TX} {v : Int32} (h : TXF m t) : TXF (um (um m 290 t.1 v) 283 18 (n32 (t.1 + 1))) (tx1 t v b) ∧ rfr m (um (um m 290 t.1 v) 283 18 (n32 (t.1 + 1))) := by
  obtain ⟨h1, h2⟩ := h
  refine ⟨⟨?_, ?_⟩, ?_⟩
  · rw [um_eq]; rfl
  · intro j hj
    rw [um_a (by omega)]
    unfold tx1 at hj ⊢
    dsimp only at hj ⊢
    by_cases e : j = t.1
    · subst e; rw [um_eq, if_pos rfl]
    · rw [um_k e, if_neg e]; exact h2 j (by omega)
  · intro a k c1 c2 c3 c4
    unfold um
    rw [if_neg c4, if_neg (fun e => c2 e.1)]
theorem TXF_0 {m : XM} {t : TX} (h : TXF m t) : TXF (um (um m 290 t.1 (n32 32)) 283 18 (n32 (t.1 + 1))) (tx0 t) ∧ rfr m (um (um m 290 t.1 (n32 32)) 283 18 (n32 (t.1 + 1))) := by
  obtain ⟨h1, h2⟩ := h
  refine ⟨⟨?_, ?_⟩, ?_⟩
  · rw [um_eq]; rfl
  · intro j hj
    rw [um_a (by omega)]
    unfold tx0 at hj ⊢
    dsimp only at hj ⊢
    by_cases e : j = t.1
    · subst e; rw [um_eq, if_pos rfl]
    · rw [um_k e, if_neg e]; exact h2 j (by omega)
  · intro a k c1 c2 c3 c4
    unfold um
    rw [if_neg c4, if_neg (fun e => c2 e.1)]
section RF
variable {D : Nat} {m : XM} {g : PG} {E : Nat → XM → Prop}
/-- the reading at the end of a tick -/
def rdStep (s : Nat) (g : PG) : PG := if g (99 + 12 * s + 3) = -(n32 1) ∧ rdG g s = true then gup g (99 + 12 * s + 3) (g 9) else g
def rdsG (g : PG) : PG := itr (nSt g) rdStep g
def tkR (g : PG) : PG := rdsG (tkG g)
theorem WF_rdStep {s : Nat} (h : WF g) (hs : s < nSt g) : keeps g (rdStep s g) := by
  have a4 := h.ns
  unfold rdStep
  split
  · exact WF_freeN h (Or.inr (Or.inr (Or.inr (Or.inr ⟨s, by omega, rfl⟩))))
  · exact keeps.rf h
theorem WF_rdsG (h : WF g) : keeps g (rdsG g) := keeps_itr h fun i x hi hx => WF_rdStep hx.1 (by rw [hx.2.2.1]; exact hi)
theorem WF_tkR (h : WF g) : keeps g (tkR g) := (WF_tkG h).tr (WF_rdsG (WF_tkG h).1)
end RF
end
section
/-! Copies. -/
def cpy (m : XM) (a0 a1 n : Nat) : XM := fun b k => if b = a1 ∧ k < n then m a0 k else m b k
theorem cpy_0 (m : XM) (a0 a1 : Nat) : cpy m a0 a1 0 = m := by
  funext b k; unfold cpy; rw [if_neg (fun e => absurd e.2 (Nat.not_lt_zero k))]
theorem cpy_succ {m : XM} {a0 a1 i : Nat} (h : a0 ≠ a1) : um (cpy m a0 a1 i) a1 i (cpy m a0 a1 i a0 i) = cpy m a0 a1 (i + 1) := by
  funext b k
  have e : cpy m a0 a1 i a0 i = m a0 i := by unfold cpy; rw [if_neg (fun e => h e.1)]
  rw [e]
  unfold um cpy
  by_cases h1 : b = a1
  · subst h1
    by_cases h2 : k = i
    · subst h2; rw [if_pos ⟨rfl, rfl⟩, if_pos ⟨rfl, by omega⟩]
    · rw [if_neg (fun e => h2 e.2)]
      by_cases h3 : k < i
      · rw [if_pos ⟨rfl, h3⟩, if_pos ⟨rfl, by omega⟩]
      · rw [if_neg (fun e => h3 e.2), if_neg (fun e => absurd e.2 (by omega))]
  · rw [if_neg (fun e => h1 e.1), if_neg (fun e => h1 e.1), if_neg (fun e => h1 e.1)]
/-- 243 ints from one array, from p on, into another, from q on; the first i of them -/
def lay (m : XM) (a0 p a2 q i : Nat) : XM := fun b k => if b = a2 ∧ q ≤ k ∧ k < q + i then m a0 (p + (k - q)) else m b k
theorem lay_0 (m : XM) (a0 p a2 q : Nat) : lay m a0 p a2 q 0 = m := by
  funext b k; unfold lay; rw [if_neg (by omega)]
theorem lay_succ {m : XM} {a0 p a2 q i : Nat} (h : a0 ≠ a2) : um (lay m a0 p a2 q i) a2 (q + i) (lay m a0 p a2 q i a0 (p + i)) = lay m a0 p a2 q (i + 1) := by
  funext b k
  have e : lay m a0 p a2 q i a0 (p + i) = m a0 (p + i) := by unfold lay; rw [if_neg (fun e => h e.1)]
  rw [e]
  unfold um lay
  by_cases h1 : b = a2
  · subst h1
    by_cases h2 : k = q + i
    · subst h2
      rw [if_pos ⟨rfl, rfl⟩, if_pos ⟨rfl, by omega, by omega⟩, show p + (q + i - q) = p + i by omega]
    · rw [if_neg (fun e => h2 e.2)]
      by_cases h3 : q ≤ k ∧ k < q + i
      · rw [if_pos ⟨rfl, h3⟩, if_pos ⟨rfl, h3.1, by omega⟩]
      · rw [if_neg (fun e => h3 e.2), if_neg (fun e => absurd e.2 (by omega))]
  · rw [if_neg (fun e => h1 e.1), if_neg (fun e => h1 e.1), if_neg (fun e => h1 e.1)]
section CO
variable {D : Nat} {m : XM} {E : Nat → XM → Prop} {Q : XM → Prop}
theorem s172n12 {a0 a1 : Nat} (h : a0 ≠ a1) (hq : Q (cpy m a0 a1 12)) : VU D 172 [vR 200012 a0, vR 200012 a1] m Q E := by
  have := up (C := fun i => VLU D 172 1 [(0, vR 200012 a0), (1, vR 200012 a1), (2, vI (n32 i))] [] (cpy m a0 a1 i) Q E) (n := 12) ?_ ?_ 0 (Nat.zero_le _)
  · rw [cpy_0] at this
    exact w172n12_0 this
  · intro i hi ih
    refine w172n12_1 ?_
    simp (disch := omega) only [n32_add, xin_t, ix_n32, le_f, false_implies, true_implies, not_false_eq_true, true_and]
    rw [cpy_succ h]; exact ih
  · exact w172n12_1 ⟨fun _ => hq, fun c => absurd (n32_rfl _) c⟩
theorem s172n6 {a0 a1 : Nat} (h : a0 ≠ a1) (hq : Q (cpy m a0 a1 6)) : VU D 172 [vR 200006 a0, vR 200006 a1] m Q E := by
  have := up (C := fun i => VLU D 172 1 [(0, vR 200006 a0), (1, vR 200006 a1), (2, vI (n32 i))] [] (cpy m a0 a1 i) Q E) (n := 6) ?_ ?_ 0 (Nat.zero_le _)
  · rw [cpy_0] at this
    exact w172n6_0 this
  · intro i hi ih
    refine w172n6_1 ?_
    simp (disch := omega) only [n32_add, xin_t, ix_n32, le_f, false_implies, true_implies, not_false_eq_true, true_and]
    rw [cpy_succ h]; exact ih
  · exact w172n6_1 ⟨fun _ => hq, fun c => absurd (n32_rfl _) c⟩
theorem s172n48 {a0 a1 : Nat} (h : a0 ≠ a1) (hq : Q (cpy m a0 a1 48)) : VU D 172 [vR 200048 a0, vR 200048 a1] m Q E := by
  have := up (C := fun i => VLU D 172 1 [(0, vR 200048 a0), (1, vR 200048 a1), (2, vI (n32 i))] [] (cpy m a0 a1 i) Q E) (n := 48) ?_ ?_ 0 (Nat.zero_le _)
  · rw [cpy_0] at this
    exact w172n48_0 this
  · intro i hi ih
    refine w172n48_1 ?_
    simp (disch := omega) only [n32_add, xin_t, ix_n32, le_f, false_implies, true_implies, not_false_eq_true, true_and]
    rw [cpy_succ h]; exact ih
  · exact w172n48_1 ⟨fun _ => hq, fun c => absurd (n32_rfl _) c⟩
end CO
def cpv (d k : Nat) : Prop := (d = 0 ∧ k < 4) ∨ ((d = 1 ∨ d = 2) ∧ k < 6) ∨ ((d = 3 ∨ d = 12 ∨ d = 16) ∧ k = 0) ∨ ((4 ≤ d ∧ d < 20 ∧ d ≠ 10 ∧ d ≠ 12 ∧ d ≠ 16) ∧ k < 12)
theorem lvn_cpv {d k i : Nat} (h : lvn 12 12 12 d k i) : cpv d k := by
  unfold cpv
  rcases h with h | h | h | h | h | h
  · left; omega
  · right; left; omega
  · right; right; left; omega
  · right; right; right; omega
  · right; right; right; omega
  · right; right; right; omega
/-- rows of the State at a1 that are copied to the State at a0: those in L -/
def CPs (a1 a0 : Nat) (L : List Nat) (m m' : XM) : Prop := (∀ d, d ∈ L → ∀ k, cpv d k → m' (a0 + d) k = m (a1 + d) k) ∧ ∀ b k, (∀ d, d ∈ L → b ≠ a0 + d) → m' b k = m b k
def CP (a1 a0 : Nat) (m m' : XM) : Prop := (∀ d k, cpv d k → m' (a0 + d) k = m (a1 + d) k) ∧ ∀ b k, (b < a0 ∨ a0 + 20 ≤ b) → m' b k = m b k
theorem CPs_row {a1 a0 d0 n : Nat} {L : List Nat} {m m' : XM} (h : CPs a1 a0 L m m') (hL : ∀ d, d ∈ L → d < 20) (far : a1 + 20 ≤ a0 ∨ a0 + 20 ≤ a1) (hd : d0 < 20) (hn : ∀ k, cpv d0 k → k < n) : CPs a1 a0 (d0 :: L) m (cpy m' (a1 + d0) (a0 + d0) n) := by
  obtain ⟨h1, h2⟩ := h
  constructor
  · intro d hm k hk
    unfold cpy
    by_cases e : d = d0
    · subst e
      rw [if_pos ⟨rfl, hn k hk⟩]
      exact h2 _ _ (fun d' hd' => by have := hL d' hd'; omega)
    · rw [if_neg (fun e' => e (by omega))]
      rcases List.mem_cons.mp hm with e' | hm
      · exact absurd e' e
      · exact h1 d hm k hk
  · intro b k hb
    unfold cpy
    rw [if_neg (fun e => hb d0 List.mem_cons_self e.1)]
    exact h2 b k (fun d hd => hb d (List.mem_cons_of_mem _ hd))
theorem CPs_cell {a1 a0 d0 : Nat} {L : List Nat} {m m' : XM} (h : CPs a1 a0 L m m') (hL : ∀ d, d ∈ L → d < 20) (far : a1 + 20 ≤ a0 ∨ a0 + 20 ≤ a1) (hd : d0 < 20) (hn : ∀ k, cpv d0 k → k = 0) : CPs a1 a0 (d0 :: L) m (um m' (a0 + d0) 0 (m' (a1 + d0) 0)) := by
  obtain ⟨h1, h2⟩ := h
  constructor
  · intro d hm k hk
    by_cases e : d = d0
    · subst e
      have := hn k hk
      subst this
      rw [um_eq]
      exact h2 _ _ (fun d' hd' => by have := hL d' hd'; omega)
    · rw [um_a (by omega)]
      rcases List.mem_cons.mp hm with e' | hm
      · exact absurd e' e
      · exact h1 d hm k hk
  · intro b k hb
    rw [um_a (hb d0 List.mem_cons_self)]
    exact h2 b k (fun d hd => hb d (List.mem_cons_of_mem _ hd))
theorem CPs_zero {a1 a0 : Nat} {m : XM} (far : a1 + 20 ≤ a0 ∨ a0 + 20 ≤ a1) : CPs a1 a0 [0] m (um (um (um (um m a0 0 (m a1 0)) a0 1 (m a1 1)) a0 2 (m a1 2)) a0 3 (m a1 3)) := by
  constructor
  · intro d hd k hk
    have : d = 0 := by simpa using hd
    subst this
    have hk : k < 4 := by unfold cpv at hk; omega
    show um _ a0 3 (m a1 3) a0 k = m a1 k
    match k, hk with
    | 0, _ => rw [um_k (by omega), um_k (by omega), um_k (by omega), um_eq]
    | 1, _ => rw [um_k (by omega), um_k (by omega), um_eq]
    | 2, _ => rw [um_k (by omega), um_eq]
    | 3, _ => rw [um_eq]
  · intro b k hb
    have this : b ≠ a0 := hb 0 (by simp)
    rw [um_a this, um_a this, um_a this, um_a this]
section CS
variable {D : Nat} {m : XM} {E : Nat → XM → Prop} {Q : XM → Prop}
theorem s68 {a0 a1 : Nat} (far : a1 + 20 ≤ a0 ∨ a0 + 20 ≤ a1) (h : ∀ m', CP a1 a0 m m' → Q m') : VU (D + 2) 68 [vR 8 a0, vR 8 a1] m Q E := by
  refine w68_0 ?_
  rintro μ rfl
  simp (disch := omega) only [um_a]
  have c0 := CPs_zero (m := m) far
  generalize um (um (um (um m a0 0 (m a1 0)) a0 1 (m a1 1)) a0 2 (m a1 2)) a0 3 (m a1 3) = m0 at c0
  have hn : ∀ d, (4 ≤ d ∧ d < 20 ∧ d ≠ 10 ∧ d ≠ 12 ∧ d ≠ 16) → ∀ k, cpv d k → k < 12 := fun d hd k hk => by unfold cpv at hk; omega
  refine s172n6 (by omega) ?_
  have c1 := CPs_row (d0 := 1) (n := 6) c0 (by simp) far (by omega) (fun k hk => by unfold cpv at hk; omega)
  generalize cpy m0 (a1 + 1) (a0 + 1) 6 = m1 at c1
  refine s172n6 (by omega) ?_
  have c2 := CPs_row (d0 := 2) (n := 6) c1 (by simp) far (by omega) (fun k hk => by unfold cpv at hk; omega)
  generalize cpy m1 (a1 + 2) (a0 + 2) 6 = m2 at c2
  refine w48_0 ?_
  have c3 := CPs_cell (d0 := 3) c2 (by simp) far (by omega) (fun k hk => by unfold cpv at hk; omega)
  generalize um m2 (a0 + 3) 0 (m2 (a1 + 3) 0) = m3 at c3
  refine s172n12 (by omega) ?_
  have c4 := CPs_row (d0 := 4) (n := 12) c3 (by simp) far (by omega) (hn _ (by omega))
  have e4 : cpy m3 (a1 + 3 + 1) (a0 + 3 + 1) 12 = cpy m3 (a1 + 4) (a0 + 4) 12 := rfl
  rw [e4]
  generalize cpy m3 (a1 + 4) (a0 + 4) 12 = m4 at c4
  refine s172n12 (by omega) ?_
  have c5 := CPs_row (d0 := 5) (n := 12) c4 (by simp) far (by omega) (hn _ (by omega))
  have e5 : cpy m4 (a1 + 3 + 2) (a0 + 3 + 2) 12 = cpy m4 (a1 + 5) (a0 + 5) 12 := rfl
  rw [e5]
  generalize cpy m4 (a1 + 5) (a0 + 5) 12 = m5 at c5
  refine s172n12 (by omega) ?_
  have c6 := CPs_row (d0 := 6) (n := 12) c5 (by simp) far (by omega) (hn _ (by omega))
  have e6 : cpy m5 (a1 + 3 + 3) (a0 + 3 + 3) 12 = cpy m5 (a1 + 6) (a0 + 6) 12 := rfl
  rw [e6]
  generalize cpy m5 (a1 + 6) (a0 + 6) 12 = m6 at c6
  refine s172n12 (by omega) ?_
  have c7 := CPs_row (d0 := 7) (n := 12) c6 (by simp) far (by omega) (hn _ (by omega))
  have e7 : cpy m6 (a1 + 3 + 4) (a0 + 3 + 4) 12 = cpy m6 (a1 + 7) (a0 + 7) 12 := rfl
  rw [e7]
  generalize cpy m6 (a1 + 7) (a0 + 7) 12 = m7 at c7
  refine s172n12 (by omega) ?_
  have c8 := CPs_row (d0 := 8) (n := 12) c7 (by simp) far (by omega) (hn _ (by omega))
  have e8 : cpy m7 (a1 + 3 + 5) (a0 + 3 + 5) 12 = cpy m7 (a1 + 8) (a0 + 8) 12 := rfl
  rw [e8]
  generalize cpy m7 (a1 + 8) (a0 + 8) 12 = m8 at c8
  refine s172n12 (by omega) ?_
  have c9 := CPs_row (d0 := 9) (n := 12) c8 (by simp) far (by omega) (hn _ (by omega))
  have e9 : cpy m8 (a1 + 3 + 6) (a0 + 3 + 6) 12 = cpy m8 (a1 + 9) (a0 + 9) 12 := rfl
  rw [e9]
  generalize cpy m8 (a1 + 9) (a0 + 9) 12 = m9 at c9
  refine s172n12 (by omega) ?_
  have c11 := CPs_row (d0 := 11) (n := 12) c9 (by simp) far (by omega) (hn _ (by omega))
  have e11 : cpy m9 (a1 + 3 + 8) (a0 + 3 + 8) 12 = cpy m9 (a1 + 11) (a0 + 11) 12 := rfl
  rw [e11]
  generalize cpy m9 (a1 + 11) (a0 + 11) 12 = m11 at c11
  refine w4_0 ?_
  have c12 := CPs_cell (d0 := 12) c11 (by simp) far (by omega) (fun k hk => by unfold cpv at hk; omega)
  generalize um m11 (a0 + 12) 0 (m11 (a1 + 12) 0) = m12 at c12
  refine s172n12 (by omega) ?_
  have c13 := CPs_row (d0 := 13) (n := 12) c12 (by simp) far (by omega) (hn _ (by omega))
  have e13 : cpy m12 (a1 + 12 + 1) (a0 + 12 + 1) 12 = cpy m12 (a1 + 13) (a0 + 13) 12 := rfl
  rw [e13]
  generalize cpy m12 (a1 + 13) (a0 + 13) 12 = m13 at c13
  refine s172n12 (by omega) ?_
  have c14 := CPs_row (d0 := 14) (n := 12) c13 (by simp) far (by omega) (hn _ (by omega))
  have e14 : cpy m13 (a1 + 12 + 2) (a0 + 12 + 2) 12 = cpy m13 (a1 + 14) (a0 + 14) 12 := rfl
  rw [e14]
  generalize cpy m13 (a1 + 14) (a0 + 14) 12 = m14 at c14
  refine s172n12 (by omega) ?_
  have c15 := CPs_row (d0 := 15) (n := 12) c14 (by simp) far (by omega) (hn _ (by omega))
  have e15 : cpy m14 (a1 + 12 + 3) (a0 + 12 + 3) 12 = cpy m14 (a1 + 15) (a0 + 15) 12 := rfl
  rw [e15]
  generalize cpy m14 (a1 + 15) (a0 + 15) 12 = m15 at c15
  refine w28_0 ?_
  have c16 := CPs_cell (d0 := 16) c15 (by simp) far (by omega) (fun k hk => by unfold cpv at hk; omega)
  generalize um m15 (a0 + 16) 0 (m15 (a1 + 16) 0) = m16 at c16
  refine s172n12 (by omega) ?_
  have c17 := CPs_row (d0 := 17) (n := 12) c16 (by simp) far (by omega) (hn _ (by omega))
  have e17 : cpy m16 (a1 + 16 + 1) (a0 + 16 + 1) 12 = cpy m16 (a1 + 17) (a0 + 17) 12 := rfl
  rw [e17]
  generalize cpy m16 (a1 + 17) (a0 + 17) 12 = m17 at c17
  refine s172n12 (by omega) ?_
  have c18 := CPs_row (d0 := 18) (n := 12) c17 (by simp) far (by omega) (hn _ (by omega))
  have e18 : cpy m17 (a1 + 16 + 2) (a0 + 16 + 2) 12 = cpy m17 (a1 + 18) (a0 + 18) 12 := rfl
  rw [e18]
  generalize cpy m17 (a1 + 18) (a0 + 18) 12 = m18 at c18
  refine s172n12 (by omega) ?_
  have c19 := CPs_row (d0 := 19) (n := 12) c18 (by simp) far (by omega) (hn _ (by omega))
  have e19 : cpy m18 (a1 + 16 + 3) (a0 + 16 + 3) 12 = cpy m18 (a1 + 19) (a0 + 19) 12 := rfl
  rw [e19]
  generalize cpy m18 (a1 + 19) (a0 + 19) 12 = m19 at c19
  refine h _ ⟨fun d k hk => c19.1 d ?_ k hk, fun b k hb => c19.2 b k (fun d hd => ?_)⟩
  · have hd : d = 0 ∨ d = 1 ∨ d = 2 ∨ d = 3 ∨ d = 4 ∨ d = 5 ∨ d = 6 ∨ d = 7 ∨ d = 8 ∨ d = 9 ∨ d = 11 ∨ d = 12 ∨ d = 13 ∨ d = 14 ∨ d = 15 ∨ d = 16 ∨ d = 17 ∨ d = 18 ∨ d = 19 := by
      rcases hk with hk | hk | hk | hk <;> omega
    simp only [List.mem_cons, List.not_mem_nil, or_false]
    rcases hd with rfl | rfl | rfl | rfl | rfl | rfl | rfl | rfl | rfl | rfl | rfl | rfl | rfl | rfl | rfl | rfl | rfl | rfl | rfl <;> simp
  · simp only [List.mem_cons, List.not_mem_nil, or_false] at hd
    omega
theorem RS_cp {a0 a1 : Nat} {g : PG} {m' : XM} (w : WF g) (c : CP a1 a0 m m') (r : RS m a1 g) : RS m' a0 g := by
  intro d k i hl
  have := w.nl
  have b1 := w.nb
  rw [c.1 d k (lvn_cpv (lvn_up hl b1 (by omega) w.np))]
  exact r d k i hl
end CS
end
section
/-! What holds of every picture at time T, with at most N drops. -/
def SIp (g : PG) (T : Nat) : Prop := ∀ k, k < nPl g → ∃ t o, g (171 + 3 * k) = n32 t ∧ 1 ≤ t ∧ t ≤ 5000 ∧ g (171 + 3 * k + 2) = n32 o ∧ o ≤ 2 ∧ (o ≠ 0 → t ≤ T)
def SIm (g : PG) : Prop := g 12 = n32 (cnt (nPl g) fun k => decide (g (171 + 3 * k + 2) = n32 2))
def SIx (g : PG) (T : Nat) : Prop := ∀ b, b < nBr g → -11000 ≤ (g (15 + 7 * b + 1)).toInt ∧ (g (15 + 7 * b + 1)).toInt ≤ 200 * T
def SId (g : PG) (N : Nat) : Prop := ∃ d, g 13 = n32 d ∧ d ≤ N
def SI (g : PG) (T N : Nat) : Prop := WF g ∧ g 9 = n32 T ∧ SIp g T ∧ SIm g ∧ SIx g T ∧ SId g N
theorem SI.w {g : PG} {T N : Nat} (h : SI g T N) : WF g := h.1
theorem SI.po {g : PG} {T N : Nat} (h : SI g T N) (hT : T ≤ 10000) : PO g := by
  intro k hk ho
  have e8 : nPl (gup g 9 (g 9 + n32 1)) = nPl g := nPl_upd (by omega)
  rw [e8] at hk
  have a6 := h.1.np
  rw [gup_ne (by omega)] at ho
  rw [gup_ne (by omega), gup_eq]
  obtain ⟨t, o, h1, h2, h3, h4, h5, h6⟩ := h.2.2.1 k hk
  rw [h1, h.2.1, n32_add]
  rw [h4] at ho
  have : o ≠ 0 := by rintro rfl; exact ho rfl
  have := h6 this
  intro e
  have := n32_inj (by omega) (by omega) e
  omega
theorem gup_ne' {g : PG} {k j : Nat} {v : Int32} (h : ¬ j = k) : gup g k v j = g j := gup_ne h
theorem strG_at {g : PG} {b j : Nat} {v : Int32} (h : j ≠ 15 + 7 * b + 4) : strG g b v j = g j := gup_ne h
theorem moveG_at {g : PG} {b j : Nat} (h : j < 15 ∨ 15 + 7 * b + 6 < j) : moveG b g j = g j := by
  unfold moveG
  split
  · rw [strG_at (by omega)]
  · rw [gup_ne (by omega), strG_at (by omega), gup_ne (by omega)]
theorem weakG_at {g : PG} {b j : Nat} (w : WF g) (hb : b < nBr g) (h : j < 10 ∨ j = 11 ∨ j = 12 ∨ j = 14 ∨ (99 ≤ j ∧ j < 207)) : weakG b g j = g j := by
  have a2 := w.nb
  unfold weakG
  split
  · exact dropG_at g b (by omega) (by omega) (by omega) (by omega) (by omega) (by omega)
  · rfl
theorem liftG_at {g : PG} {bf : Nat → Int32} {b j : Nat} (w : WF g) (hb : b < nBr g) (h : j < 10 ∨ j = 11 ∨ j = 12 ∨ j = 13 ∨ (99 ≤ j ∧ j < 207)) : liftG bf b g j = g j := by
  have a2 := w.nb
  unfold liftG
  split
  · rfl
  · split
    · split
      · rfl
      · exact pickG_at g b _ (by omega) (by omega) (by omega) (Or.inl (by omega))
    · rfl
theorem weakG_pl {g : PG} {b c : Nat} (w : WF g) (hb : b < nBr g) (hc : c < 12) : weakG b g (15 + 7 * c + 1) = g (15 + 7 * c + 1) := by
  have a2 := w.nb
  unfold weakG
  split
  · exact dropG_at g b (by omega) (by omega) (by omega) (by omega) (by omega) (by omega)
  · rfl
theorem liftG_pl {g : PG} {bf : Nat → Int32} {b c : Nat} (w : WF g) (hb : b < nBr g) (hc : c < 12) : liftG bf b g (15 + 7 * c + 1) = g (15 + 7 * c + 1) := by
  have a2 := w.nb
  unfold liftG
  split
  · rfl
  · split
    · split
      · rfl
      · exact pickG_at g b _ (by omega) (by omega) (by omega) (Or.inl (by omega))
    · rfl
/-- a picture with the same plans, places, counters -/
theorem SI_of {g g' : PG} {T N : Nat} (h : SI g T N) (k : keeps g g') (h9 : g' 9 = g 9) (h12 : g' 12 = g 12) (h13 : g' 13 = g 13) (hp : ∀ k, k < nPl g → g' (171 + 3 * k) = g (171 + 3 * k) ∧ g' (171 + 3 * k + 2) = g (171 + 3 * k + 2)) (hx : ∀ b, b < nBr g → g' (15 + 7 * b + 1) = g (15 + 7 * b + 1)) : SI g' T N := by
  obtain ⟨w, i9, ip, im, ix', id⟩ := h
  refine ⟨k.1, by rw [h9]; exact i9, ?_, ?_, ?_, ?_⟩
  · intro j hj
    rw [k.2.2.2] at hj
    rw [(hp j hj).1, (hp j hj).2]; exact ip j hj
  · unfold SIm
    rw [h12, k.2.2.2, im]
    congr 1
    exact cnt_congr fun j hj => by rw [(hp j hj).2]
  · intro b hb
    rw [k.2.1] at hb
    rw [hx b hb]; exact ix' b hb
  · obtain ⟨d, d1, d2⟩ := id
    exact ⟨d, by rw [h13]; exact d1, d2⟩
theorem SI_plan {g : PG} {T N k : Nat} (h : SI g T N) (hk : k < nPl g) (_hT : T ≤ 10000) : SI (planG k g) T N := by
  have w := h.1
  have a6 := w.np
  have a2 := w.nb
  have kk := WF_planG w hk
  have hb := (w.pa hk).2
  by_cases c : g (171 + 3 * k) = g 9 ∧ g (171 + 3 * k + 2) = n32 0
  · obtain ⟨w, i9, ip, im, ix', id⟩ := h
    obtain ⟨t, o, t1, t2, t3, t4, t5, t6⟩ := ip k hk
    have hT2 : t = T := by
      have := c.1
      rw [t1, i9] at this
      exact n32_inj (by omega) (by omega) this
    have pat : ∀ j, (j < 15 ∨ 99 ≤ j) → j ≠ 11 → j ≠ 12 → j ≠ 171 + 3 * k + 2 → planG k g j = g j := fun j h1 h2 h3 h4 => planG_at w hk h1 h2 h3 h4
    have ppl : ∀ b, b < 12 → planG k g (15 + 7 * b + 1) = g (15 + 7 * b + 1) := by
      intro b hb2
      unfold planG
      rw [if_pos c]
      split
      · unfold swapsG exchG
        rw [gup_ne (by omega), gup_ne (by omega), strG_at (by omega), strG_at (by omega), gup_ne (by omega), gup_ne (by omega)]
      · rw [gup_ne (by omega), gup_ne (by omega)]
    have p13 : planG k g 13 = g 13 := pat 13 (by omega) (by omega) (by omega) (by omega)
    have hout : ∃ o', (o' = 1 ∨ o' = 2) ∧ planG k g (171 + 3 * k + 2) = n32 o' ∧ planG k g 12 = if o' = 2 then g 12 + n32 1 else g 12 := by
      unfold planG
      rw [if_pos c]
      split
      · exact ⟨1, Or.inl rfl, gup_eq _ _ _, by rw [gup_ne (by omega), swapsG_at (by omega) (by omega) (by omega), if_neg (by omega)]⟩
      · exact ⟨2, Or.inr rfl, gup_eq _ _ _, by rw [gup_ne (by omega), gup_eq, if_pos rfl]⟩
    obtain ⟨o', o1, o2, o3⟩ := hout
    refine ⟨kk.1, by rw [pat 9 (by omega) (by omega) (by omega) (by omega)]; exact i9, ?_, ?_, ?_, ?_⟩
    · intro j hj
      rw [kk.2.2.2] at hj
      by_cases e : j = k
      · subst e
        exact ⟨t, o', by rw [pat _ (by omega) (by omega) (by omega) (by omega)]; exact t1, t2, t3, o2, by omega, fun _ => by omega⟩
      · rw [pat (171 + 3 * j) (by omega) (by omega) (by omega) (by omega), pat (171 + 3 * j + 2) (by omega) (by omega) (by omega) (by omega)]
        exact ip j hj
    · unfold SIm
      rw [kk.2.2.2, o3, im]
      have e1 : cnt (nPl g) (fun j => decide (planG k g (171 + 3 * j + 2) = n32 2)) = cnt (nPl g) (fun j => if j = k then decide (o' = 2) else decide (g (171 + 3 * j + 2) = n32 2)) := cnt_congr fun j hj => by
        by_cases e : j = k
        · subst e
          rw [if_pos rfl, o2]
          rcases o1 with rfl | rfl <;> decide
        · rw [if_neg e, pat _ (by omega) (by omega) (by omega) (by omega)]
      have e2 := cnt_chg (n := nPl g) (b := k) (p := fun j => decide (g (171 + 3 * j + 2) = n32 2)) (q := fun j => if j = k then decide (o' = 2) else decide (g (171 + 3 * j + 2) = n32 2)) hk (fun i hi => if_neg hi)
      rw [e1]
      have e3 : decide (g (171 + 3 * k + 2) = n32 2) = false := by rw [c.2]; decide
      simp only [e3, if_true, Bool.false_eq_true, if_false] at e2
      rcases o1 with rfl | rfl
      · rw [if_neg (by omega)]
        simp at e2
        rw [← e2]; simp
      · rw [if_pos rfl, n32_add]
        simp at e2
        rw [← e2]; simp
    · intro b hb2
      rw [kk.2.1] at hb2
      rw [ppl b (by omega)]; exact ix' b hb2
    · obtain ⟨d, d1, d2⟩ := id
      exact ⟨d, by rw [p13]; exact d1, d2⟩
  · have e : planG k g = g := by unfold planG; rw [if_neg c]
    rw [e]; exact h
theorem SI_plans {g : PG} {T N : Nat} (h : SI g T N) (hT : T ≤ 10000) : SI (plansG g) T N := by
  have := itr_inv (P := fun _ x => SI x T N ∧ nPl x = nPl g) (f := planG) (a := g) (n := nPl g) ⟨h, rfl⟩ (fun i x hi hx => ⟨SI_plan hx.1 (by rw [hx.2]; exact hi) hT, by rw [(WF_planG hx.1.1 (by rw [hx.2]; exact hi)).2.2.2]; exact hx.2⟩)
  exact this.1
theorem goalG_le {g : PG} {b : Nat} (w : WF g) (hb : b < nBr g) : goalG g b ≤ g (15 + 7 * b + 1) + stride (g (15 + 7 * b + 2)) (g (15 + 7 * b + 4)) := by
  unfold goalG
  split
  · exact Int32.le_refl _
  · unfold imin
    split
    · rename_i h; exact Int32.le_of_lt h
    · exact Int32.le_refl _
/-- the march: places before i have moved -/
def SIx2 (g : PG) (T i : Nat) : Prop := ∀ b, b < nBr g → -11000 ≤ (g (15 + 7 * b + 1)).toInt ∧ (g (15 + 7 * b + 1)).toInt ≤ 200 * T + (if b < i then 200 else 0)
theorem SIx_move {g : PG} {T i : Nat} (w : WF g) (hi : i < nBr g) (hT : T ≤ 10000) (h : SIx2 g T i) : SIx2 (moveG i g) T (i + 1) := by
  have a2 := w.nb
  intro b hb
  rw [(WF_moveG w hi).2.1] at hb
  by_cases e : b = i
  · subst e
    rw [if_pos (by omega)]
    have h0 := h b hb
    rw [if_neg (by omega)] at h0
    unfold moveG
    split
    · rw [strG_at (by omega)]; omega
    · rename_i c
      rw [gup_ne (by omega), strG_at (by omega), gup_eq]
      have g1 := goalG_le w hb
      obtain ⟨s, s1, s2, s3⟩ := (stride_ok (w.st_b hb) (w.b4 hb)).2.2
      rw [s3, Int32.le_iff_toInt_le, Int32.toInt_add, n32_toInt (by omega)] at g1
      rw [Int32.le_iff_toInt_le] at c
      have e2 : ((g (15 + 7 * b + 1)).toInt + (s : Int)).bmod (2 ^ 32) = (g (15 + 7 * b + 1)).toInt + s := by
        apply Int.bmod_eq_of_le <;> omega
      rw [e2] at g1
      omega
  · rw [moveG_place (fun e' => e e'.symm)]
    have h0 := h b hb
    split
    · split at h0 <;> omega
    · rw [if_neg (by omega)] at h0; exact h0
theorem SI_moves {g : PG} {T N : Nat} (h : SI g T N) (hT : T ≤ 10000) : WF (movesG g) ∧ SIx2 (movesG g) T (nBr g) := by
  have := itr_inv (P := fun i x => keeps g x ∧ SIx2 x T i) (f := moveG) (a := g) (n := nBr g) ⟨keeps.rf h.1, fun b hb => by rw [if_neg (by omega)]; have := h.2.2.2.2.1 b hb; omega⟩ (fun i x hi hx => by
    have kx := WF_moveG hx.1.1 (show i < nBr x by rw [hx.1.2.1]; exact hi)
    exact ⟨hx.1.tr kx, SIx_move hx.1.1 (by rw [hx.1.2.1]; exact hi) hT hx.2⟩)
  exact ⟨this.1.1, this.2⟩
theorem moves_at {g : PG} {j : Nat} (h : j < 15 ∨ 99 ≤ j) : ∀ i, i ≤ 12 → itr i moveG g j = g j := by
  intro i
  induction i with
  | zero => intro _; rfl
  | succ i ih =>
    intro hi
    have e : itr (i + 1) moveG g = moveG i (itr i moveG g) := rfl
    rw [e, moveG_at (by omega), ih (by omega)]
theorem SI_weak {g : PG} {T N b : Nat} (h : SI g T N) (hb : b < nBr g) : SI (weakG b g) T (N + 1) := by
  have w := h.1
  have a2 := w.nb
  have a6 := w.np
  have kk := WF_weakG w hb
  obtain ⟨w, i9, ip, im, ix', d, d1, d2⟩ := h
  refine ⟨kk.1, by rw [weakG_at w hb (by omega)]; exact i9, ?_, ?_, ?_, ?_⟩
  · intro j hj
    rw [kk.2.2.2] at hj
    rw [weakG_at w hb (by omega), weakG_at w hb (by omega)]; exact ip j hj
  · unfold SIm
    rw [weakG_at w hb (by omega), kk.2.2.2, im]
    congr 1
    exact cnt_congr fun j hj => by rw [weakG_at w hb (by omega)]
  · intro c hc
    rw [kk.2.1] at hc
    rw [weakG_pl w hb (by omega)]; exact ix' c hc
  · unfold weakG
    split
    · refine ⟨d + 1, ?_, by omega⟩
      unfold dropG
      rw [gup_ne (by omega), gup_eq, d1, n32_add]
    · exact ⟨d, d1, by omega⟩
theorem SI_weaks {g : PG} {T N : Nat} (h : SI g T N) : SI (weaksG g) T (N + 12) := by
  have a2 := h.1.nb
  have := itr_inv (P := fun i x => SI x T (N + i) ∧ nBr x = nBr g) (f := weakG) (a := g) (n := nBr g) ⟨h, rfl⟩ (fun i x hi hx => ⟨SI_weak hx.1 (by rw [hx.2]; exact hi), by rw [(WF_weakG hx.1.1 (by rw [hx.2]; exact hi)).2.1]; exact hx.2⟩)
  obtain ⟨w, i9, ip, im, ix', d, d1, d2⟩ := this.1
  exact ⟨w, i9, ip, im, ix', d, d1, by omega⟩
theorem SI_lifts {g : PG} {bf : Nat → Int32} {T N : Nat} (h : SI g T N) : SI (liftsG bf g) T N := by
  have := itr_inv (P := fun _ x => SI x T N ∧ nBr x = nBr g) (f := liftG bf) (a := g) (n := nBr g) ⟨h, rfl⟩ (fun i x hi hx => by
    have hi' : i < nBr x := by rw [hx.2]; exact hi
    have w := hx.1.1
    have a2 := w.nb
    have a6 := w.np
    have kk := WF_liftG (bf := bf) w hi'
    exact ⟨SI_of hx.1 kk (liftG_at w hi' (by omega)) (liftG_at w hi' (by omega)) (liftG_at w hi' (by omega)) (fun j hj => ⟨liftG_at w hi' (by omega), liftG_at w hi' (by omega)⟩) (fun c hc => liftG_pl w hi' (by omega)), by rw [kk.2.1]; exact hx.2⟩)
  exact this.1
theorem SI_rds {g : PG} {T N : Nat} (h : SI g T N) : SI (rdsG g) T N := by
  have := itr_inv (P := fun _ x => SI x T N ∧ nSt x = nSt g) (f := rdStep) (a := g) (n := nSt g) ⟨h, rfl⟩ (fun i x hi hx => by
    have hi' : i < nSt x := by rw [hx.2]; exact hi
    have w := hx.1.1
    have a2 := w.nb
    have a4 := w.ns
    have a6 := w.np
    have kk := WF_rdStep w hi'
    have at' : ∀ j, j < 99 ∨ 171 ≤ j → rdStep i x j = x j := by
      intro j hj
      unfold rdStep
      split
      · rw [gup_ne (by omega)]
      · rfl
    exact ⟨SI_of hx.1 kk (at' _ (by omega)) (at' _ (by omega)) (at' _ (by omega)) (fun j hj => ⟨at' _ (by omega), at' _ (by omega)⟩) (fun c hc => at' _ (by omega)), by rw [kk.2.2.1]; exact hx.2⟩)
  exact this.1
theorem SI_tk {g : PG} {T N : Nat} (h : SI g T N) (hT : T ≤ 9000) : SI (tkG g) (T + 1) (N + 12) := by
  have w := h.1
  have k0 : keeps g (gup g 9 (g 9 + n32 1)) := WF_freeN w (Or.inl (Or.inl rfl))
  have a6 := w.np
  obtain ⟨w, i9, ip, im, ix', d, d1, d2⟩ := h
  -- the places are those of time T until the march
  have s0 : SI (gup g 9 (g 9 + n32 1)) (T + 1) N := by
    refine ⟨k0.1, by rw [gup_eq, i9, n32_add], ?_, ?_, ?_, d, by rw [gup_ne (by omega)]; exact d1, by omega⟩
    · intro j hj
      rw [k0.2.2.2] at hj
      rw [gup_ne (by omega), gup_ne (by omega)]
      obtain ⟨t, o, h1, h2, h3, h4, h5, h6⟩ := ip j hj
      exact ⟨t, o, h1, h2, h3, h4, h5, fun e => by have := h6 e; omega⟩
    · unfold SIm
      rw [gup_ne (by omega), k0.2.2.2, im]
      congr 1
      exact cnt_congr fun j hj => by rw [gup_ne (by omega)]
    · intro b hb
      rw [k0.2.1] at hb
      have := w.nb
      rw [gup_ne (by omega)]
      have := ix' b hb
      omega
  have s1 := SI_plans s0 (by omega)
  have k1 := WF_plansG k0.1
  have kk1 := k0.tr k1
  -- places are not changed by plans
  have x1 : SIx2 (plansG (gup g 9 (g 9 + n32 1))) T 0 := by
    have := itr_inv (P := fun _ x => keeps (gup g 9 (g 9 + n32 1)) x ∧ SIx2 x T 0) (f := planG) (a := gup g 9 (g 9 + n32 1)) (n := nPl (gup g 9 (g 9 + n32 1))) ⟨keeps.rf k0.1, fun b hb => by
        rw [k0.2.1] at hb
        have a2 := w.nb
        rw [gup_ne (by omega), if_neg (by omega)]
        have := ix' b hb
        omega⟩ (fun i x hi hx => by
      have hi' : i < nPl x := by rw [hx.1.2.2.2]; exact hi
      have wx := hx.1.1
      have a2 := wx.nb
      have a6 := wx.np
      have hb := (wx.pa hi').2
      have kk := WF_planG wx hi'
      refine ⟨hx.1.tr kk, fun b hb2 => ?_⟩
      rw [kk.2.1] at hb2
      have e : planG i x (15 + 7 * b + 1) = x (15 + 7 * b + 1) := by
        unfold planG
        split
        · split
          · unfold swapsG exchG
            rw [gup_ne (by omega), gup_ne (by omega), strG_at (by omega), strG_at (by omega), gup_ne (by omega), gup_ne (by omega)]
          · rw [gup_ne (by omega), gup_ne (by omega)]
        · rfl
      rw [e]; exact hx.2 b hb2)
    exact this.2
  unfold tkG
  try dsimp only
  generalize plansG (gup g 9 (g 9 + n32 1)) = g1 at s1 k1 x1 kk1
  have a2 := k1.1.nb
  have mv := itr_inv (P := fun i x => keeps g1 x ∧ SIx2 x T i) (f := moveG) (a := g1) (n := nBr g1) ⟨keeps.rf k1.1, x1⟩ (fun i x hi hx => by
    have kx := WF_moveG hx.1.1 (show i < nBr x by rw [hx.1.2.1]; exact hi)
    exact ⟨hx.1.tr kx, SIx_move hx.1.1 (by rw [hx.1.2.1]; exact hi) (by omega) hx.2⟩)
  have s2 : SI (movesG g1) (T + 1) N := by
    obtain ⟨w1, j9, jp, jm, jx, d', e1, e2⟩ := s1
    have km := WF_movesG w1
    have at' : ∀ j, (j < 15 ∨ 99 ≤ j) → movesG g1 j = g1 j := fun j hj => moves_at hj _ a2
    have np := w1.np
    refine ⟨km.1, by rw [at' 9 (by omega)]; exact j9, ?_, ?_, ?_, d', by rw [at' 13 (by omega)]; exact e1, e2⟩
    · intro j hj
      rw [km.2.2.2] at hj
      rw [at' _ (by omega), at' _ (by omega)]; exact jp j hj
    · unfold SIm
      rw [at' 12 (by omega), km.2.2.2, jm]
      congr 1
      exact cnt_congr fun j hj => by rw [at' _ (by omega)]
    · intro b hb
      have := mv.2 b (by rw [mv.1.2.1]; rw [km.2.1] at hb; exact hb)
      have e : itr (nBr g1) moveG g1 = movesG g1 := rfl
      rw [e] at this
      rw [km.2.1] at hb
      rw [if_pos hb] at this
      omega
  have s3 := SI_weaks s2
  exact SI_lifts s3
theorem SI_tkR {g : PG} {T N : Nat} (h : SI g T N) (hT : T ≤ 9000) : SI (tkR g) (T + 1) (N + 12) := SI_rds (SI_tk h hT)
end
