/-! Rows: the methods of the law and of the JDK, their blocks. -/
theorem km173 : xmt 173 = some (1, 1, 11, 0, [], xM173.2.2.2.2.2) := xmt_at (q := 8) (r := 13) rfl rfl
set_option maxRecDepth 20000 in
theorem k173_0 : xM173.2.2.2.2.2[0]? = some ([0], [.aload 0, .monitorexit, .aload 0, .iconst 6, .newarray .int, .putfield 352, .aload 0, .iconst 12, .newarray .int, .putfield 353, .aload 0, .iconst 12, .newarray .int, .putfield 354, .aload 0, .iconst 12, .newarray .int, .putfield 355, .aload 0, .iconst 12, .newarray .int, .putfield 356, .aload 0, .iconst 12, .newarray .int, .putfield 357, .aload 0, .iconst 12, .newarray .int, .putfield 358, .aload 0, .iconst 12, .newarray .int, .putfield 359, .aload 0, .iconst 6, .newarray .int, .putfield 360, .aload 0, .iconst 6, .newarray .int, .putfield 361, .aload 0, .iconst 6, .newarray .int, .putfield 362, .aload 0, .iconst 12, .newarray .int, .putfield 363, .aload 0, .iconst 12, .newarray .int, .putfield 364, .aload 0, .iconst 12, .newarray .int, .putfield 365, .aload 0, .iconst 6, .anewarray 14, .putfield 366, .aload 0, .new 13, .dup, .invokespecial 184, .putfield 367, .return_]) := rfl
theorem km174 : xmt 174 = some (3, 4, 99, 0, [], xM174.2.2.2.2.2) := xmt_at (q := 8) (r := 14) rfl rfl
set_option maxRecDepth 20000 in
theorem k174_0 : xM174.2.2.2.2.2[0]? = some ([0, 1, 2], [.aload 1, .iconst 5, .iaload, .istore 3, .aload 1, .iload 3, .iconst 4, .idiv, .aload 1, .iload 3, .iconst 4, .idiv, .iaload, .iconst 8, .ishl, .iload 2, .ior, .iastore, .aload 1, .iconst 5, .dup2, .iaload, .iconst 1, .iadd, .iastore, .aload 1, .iconst 6, .dup2, .iaload, .iconst 1, .iadd, .iastore, .aload 1, .iconst 5, .iaload, .iconst 20, .if_icmp .ne 2, .goto_w 1]) := rfl
set_option maxRecDepth 20000 in
theorem k174_1 : xM174.2.2.2.2.2[1]? = some ([0, 1], [.aload 0, .aload 1, .invokestatic 175, .goto_w 2]) := rfl
set_option maxRecDepth 20000 in
theorem k174_2 : xM174.2.2.2.2.2[2]? = some ([], [.return_]) := rfl
theorem km175 : xmt 175 = some (2, 3, 99, 0, [], xM175.2.2.2.2.2) := xmt_at (q := 8) (r := 15) rfl rfl
set_option maxRecDepth 20000 in
theorem k175_0 : xM175.2.2.2.2.2[0]? = some ([0, 1], [.aload 0, .aload 1, .iconst 0, .iaload, .aload 1, .iconst 1, .iaload, .aload 1, .iconst 2, .iaload, .aload 1, .iconst 3, .iaload, .aload 1, .iconst 4, .iaload, .invokevirtual 91, .istore 2, .aload 1, .iconst 5, .iconst 0, .iastore, .return_]) := rfl
theorem km176 : xmt 176 = some (2, 3, 99, 1, [], xM176.2.2.2.2.2) := xmt_at (q := 8) (r := 16) rfl rfl
set_option maxRecDepth 20000 in
theorem k176_0 : xM176.2.2.2.2.2[0]? = some ([0, 1], [.aload 1, .iconst 6, .iaload, .istore 2, .goto_w 1]) := rfl
set_option maxRecDepth 20000 in
theorem k176_1 : xM176.2.2.2.2.2[1]? = some ([0, 1, 2], [.aload 1, .iconst 5, .iaload, .ifCond .le 3, .goto_w 2]) := rfl
set_option maxRecDepth 20000 in
theorem k176_2 : xM176.2.2.2.2.2[2]? = some ([0, 1, 2], [.aload 0, .aload 1, .iconst 32, .invokestatic 174, .goto 1]) := rfl
set_option maxRecDepth 20000 in
theorem k176_3 : xM176.2.2.2.2.2[3]? = some ([1, 2], [.aload 1, .iconst 6, .iconst 0, .iastore, .iload 2, .ireturn]) := rfl
theorem km177 : xmt 177 = some (2, 2, 99, 1, [], xM177.2.2.2.2.2) := xmt_at (q := 8) (r := 17) rfl rfl
set_option maxRecDepth 20000 in
theorem k177_0 : xM177.2.2.2.2.2[0]? = some ([0, 1], [.iload 1, .aload 0, .arraylength, .if_icmp .ge 2, .goto_w 1]) := rfl
set_option maxRecDepth 20000 in
theorem k177_1 : xM177.2.2.2.2.2[1]? = some ([0, 1], [.aload 0, .iload 1, .iaload, .goto 3]) := rfl
set_option maxRecDepth 20000 in
theorem k177_2 : xM177.2.2.2.2.2[2]? = some ([], [.iconst 0, .goto_w 3]) := rfl
set_option maxRecDepth 20000 in
theorem k177_3 : xM177.2.2.2.2.2[3]? = some ([], [.ireturn]) := rfl
theorem km178 : xmt 178 = some (1, 8, 99, 8, [], xM178.2.2.2.2.2) := xmt_at (q := 8) (r := 18) rfl rfl
set_option maxRecDepth 20000 in
theorem k178_0 : xM178.2.2.2.2.2[0]? = some ([0], [.new 11, .dup, .invokespecial 173, .astore 1, .aload 0, .iconst 0, .invokestatic 177, .istore 2, .iconst 6, .newarray .int, .dup, .iconst 0, .iconst 1, .iload 2, .iconst 7, .iand, .iadd, .iastore, .dup, .iconst 1, .iload 2, .iconst 3, .iushr, .iconst 63, .iand, .iastore, .dup, .iconst 2, .iconst 1, .iload 2, .iconst 9, .iushr, .iconst 7, .iand, .iadd, .iastore, .dup, .iconst 3, .iload 2, .iconst 12, .iushr, .iconst 15, .iand, .iastore, .dup, .iconst 4, .iconst 1, .iload 2, .iconst 16, .iushr, .iconst 31, .iand, .iadd, .iastore, .dup, .iconst 5, .iload 2, .iconst 21, .iushr, .iconst 31, .iand, .iastore, .astore 3, .aload 3, .iconst 0, .aload 1, .getfield 352, .iconst 0, .iconst 6, .lrem, .aload 1, .iconst 2, .iload 2, .iconst 26, .iushr, .iconst 3, .iand, .iadd, .putfield 368, .aload 1, .iconst 1, .iload 2, .iconst 28, .iushr, .iconst 1, .iand, .iadd, .putfield 369, .aload 1, .iload 2, .iconst 29, .iushr, .iconst 3, .iand, .iconst 3, .irem, .putfield 370, .iconst 0, .istore 4, .goto_w 1]) := rfl
set_option maxRecDepth 20000 in
theorem k178_1 : xM178.2.2.2.2.2[1]? = some ([0, 1, 4], [.iload 4, .aload 1, .getfield 368, .if_icmp .ge 3, .goto_w 2]) := rfl
set_option maxRecDepth 20000 in
theorem k178_2 : xM178.2.2.2.2.2[2]? = some ([0, 1, 4], [.aload 0, .iconst 1, .iload 4, .iadd, .invokestatic 177, .istore 5, .aload 1, .getfield 354, .iload 4, .iconst 1, .iload 5, .iconst 1, .iand, .iadd, .iastore, .aload 1, .getfield 353, .iload 4, .aload 1, .getfield 354, .iload 4, .iaload, .iastore, .aload 1, .getfield 356, .iload 4, .iconst 1, .iload 5, .iconst 1, .iushr, .iconst 15, .iand, .iadd, .iastore, .aload 1, .getfield 357, .iload 4, .iload 5, .iconst 5, .iushr, .iconst 31, .iand, .iconst 21, .irem, .iastore, .aload 1, .getfield 358, .iload 4, .iconst 100, .iastore, .aload 1, .getfield 355, .iload 4, .aload 1, .getfield 352, .iconst 0, .iaload, .ineg, .iload 4, .imul, .iastore, .iinc 4 1, .goto 1]) := rfl
set_option maxRecDepth 20000 in
theorem k178_3 : xM178.2.2.2.2.2[3]? = some ([0, 1], [.iconst 0, .istore 4, .goto_w 4]) := rfl
set_option maxRecDepth 20000 in
theorem k178_4 : xM178.2.2.2.2.2[4]? = some ([0, 1, 4], [.iload 4, .aload 1, .getfield 369, .if_icmp .ge 9, .goto_w 5]) := rfl
set_option maxRecDepth 20000 in
theorem k178_5 : xM178.2.2.2.2.2[5]? = some ([0, 1, 4], [.aload 0, .iconst 6, .iload 4, .iadd, .invokestatic 177, .istore 5, .aload 1, .getfield 360, .iload 4, .iload 5, .iconst 1, .iand, .iastore, .aload 1, .getfield 361, .iload 4, .iload 5, .iconst 1, .iushr, .iconst 63, .iand, .iastore, .aload 1, .getfield 362, .iload 4, .iconst (-1), .iastore, .new 12, .dup, .invokespecial 187, .astore 6, .iconst 0, .istore 7, .goto_w 6]) := rfl
set_option maxRecDepth 20000 in
theorem k178_6 : xM178.2.2.2.2.2[6]? = some ([0, 1, 4, 5, 6, 7], [.iload 7, .iload 5, .iconst 7, .iushr, .iconst 3, .iand, .if_icmp .gt 8, .goto_w 7]) := rfl
set_option maxRecDepth 20000 in
theorem k178_7 : xM178.2.2.2.2.2[7]? = some ([0, 1, 4, 5, 6, 7], [.aload 6, .iconst 97, .iload 5, .iconst 9, .iload 7, .iadd, .iushr, .iconst 1, .iand, .iadd, .i2c, .invokevirtual 191, .pop, .iinc 7 1, .goto 6]) := rfl
set_option maxRecDepth 20000 in
theorem k178_8 : xM178.2.2.2.2.2[8]? = some ([0, 1, 4, 6], [.aload 1, .getfield 366, .iload 4, .aload 6, .invokevirtual 194, .aastore, .iinc 4 1, .goto 4]) := rfl
set_option maxRecDepth 20000 in
theorem k178_9 : xM178.2.2.2.2.2[9]? = some ([0, 1], [.iconst 0, .istore 4, .goto_w 10]) := rfl
set_option maxRecDepth 20000 in
theorem k178_10 : xM178.2.2.2.2.2[10]? = some ([0, 1, 4], [.iload 4, .aload 1, .getfield 370, .if_icmp .ge 12, .goto_w 11]) := rfl
set_option maxRecDepth 20000 in
theorem k178_11 : xM178.2.2.2.2.2[11]? = some ([0, 1, 4], [.aload 1, .getfield 363, .iload 4, .iconst 1, .aload 0, .iconst 8, .invokestatic 177, .iconst 8, .iload 4, .imul, .iushr, .iconst 7, .iand, .iadd, .iastore, .aload 1, .getfield 364, .iload 4, .aload 0, .iconst 8, .invokestatic 177, .iconst 8, .iload 4, .imul, .iconst 3, .iadd, .iushr, .iconst 3, .iand, .aload 1, .getfield 368, .iconst 1, .isub, .irem, .iastore, .iinc 4 1, .goto 10]) := rfl
set_option maxRecDepth 20000 in
theorem k178_12 : xM178.2.2.2.2.2[12]? = some ([1], [.aload 1, .areturn]) := rfl
theorem km179 : xmt 179 = some (1, 6, 99, 8, [], xM179.2.2.2.2.2) := xmt_at (q := 8) (r := 19) rfl rfl
set_option maxRecDepth 20000 in
theorem k179_0 : xM179.2.2.2.2.2[0]? = some ([0], [.new 12, .dup, .ldc 12, .invokespecial 188, .astore 1, .aload 0, .getfield 352, .astore 2, .aload 2, .arraylength, .istore 3, .iconst 0, .istore 4, .goto_w 1]) := rfl
set_option maxRecDepth 20000 in
theorem k179_1 : xM179.2.2.2.2.2[1]? = some ([0, 1, 2, 3, 4], [.iload 4, .iload 3, .if_icmp .ge 3, .goto_w 2]) := rfl
set_option maxRecDepth 20000 in
theorem k179_2 : xM179.2.2.2.2.2[2]? = some ([0, 1, 2, 3, 4], [.aload 2, .iload 4, .iaload, .istore 5, .aload 1, .iconst 32, .invokevirtual 191, .iload 5, .invokevirtual 192, .pop, .iinc 4 1, .goto 1]) := rfl
set_option maxRecDepth 20000 in
theorem k179_3 : xM179.2.2.2.2.2[3]? = some ([0, 1], [.iconst 0, .istore 2, .goto_w 4]) := rfl
set_option maxRecDepth 20000 in
theorem k179_4 : xM179.2.2.2.2.2[4]? = some ([0, 1, 2], [.iload 2, .aload 0, .getfield 368, .if_icmp .ge 6, .goto_w 5]) := rfl
set_option maxRecDepth 20000 in
theorem k179_5 : xM179.2.2.2.2.2[5]? = some ([0, 1, 2], [.aload 1, .ldc 13, .invokevirtual 193, .iconst 96, .aload 0, .getfield 354, .iload 2, .iaload, .iadd, .i2c, .invokevirtual 191, .iconst 32, .invokevirtual 191, .aload 0, .getfield 356, .iload 2, .iaload, .invokevirtual 192, .iconst 32, .invokevirtual 191, .aload 0, .getfield 357, .iload 2, .iaload, .invokevirtual 192, .pop, .iinc 2 1, .goto 4]) := rfl
set_option maxRecDepth 20000 in
theorem k179_6 : xM179.2.2.2.2.2[6]? = some ([0, 1], [.iconst 0, .istore 2, .goto_w 7]) := rfl
set_option maxRecDepth 20000 in
theorem k179_7 : xM179.2.2.2.2.2[7]? = some ([0, 1, 2], [.iload 2, .aload 0, .getfield 370, .if_icmp .ge 9, .goto_w 8]) := rfl
set_option maxRecDepth 20000 in
theorem k179_8 : xM179.2.2.2.2.2[8]? = some ([0, 1, 2], [.aload 1, .ldc 14, .invokevirtual 193, .aload 0, .getfield 363, .iload 2, .iaload, .invokevirtual 192, .iconst 32, .invokevirtual 191, .aload 0, .getfield 364, .iload 2, .iaload, .invokevirtual 192, .pop, .iinc 2 1, .goto 7]) := rfl
set_option maxRecDepth 20000 in
theorem k179_9 : xM179.2.2.2.2.2[9]? = some ([0, 1], [.iconst 0, .istore 2, .goto_w 10]) := rfl
set_option maxRecDepth 20000 in
theorem k179_10 : xM179.2.2.2.2.2[10]? = some ([0, 1, 2], [.iload 2, .aload 0, .getfield 369, .if_icmp .ge 15, .goto_w 11]) := rfl
set_option maxRecDepth 20000 in
theorem k179_11 : xM179.2.2.2.2.2[11]? = some ([0, 1, 2], [.aload 1, .ldc 15, .invokevirtual 193, .aload 0, .getfield 360, .iload 2, .iaload, .ifCond .ne 13, .goto_w 12]) := rfl
set_option maxRecDepth 20000 in
theorem k179_12 : xM179.2.2.2.2.2[12]? = some ([0, 1, 2], [.ldc 16, .goto 14]) := rfl
set_option maxRecDepth 20000 in
theorem k179_13 : xM179.2.2.2.2.2[13]? = some ([0, 1, 2], [.ldc 17, .goto_w 14]) := rfl
set_option maxRecDepth 20000 in
theorem k179_14 : xM179.2.2.2.2.2[14]? = some ([0, 1, 2], [.invokevirtual 193, .aload 0, .getfield 361, .iload 2, .iaload, .invokevirtual 192, .iconst 32, .invokevirtual 191, .aload 0, .getfield 366, .iload 2, .aaload, .invokevirtual 193, .pop, .iinc 2 1, .goto 10]) := rfl
set_option maxRecDepth 20000 in
theorem k179_15 : xM179.2.2.2.2.2[15]? = some ([1], [.aload 1, .invokevirtual 194, .areturn]) := rfl
theorem km180 : xmt 180 = some (3, 5, 99, 1, [], xM180.2.2.2.2.2) := xmt_at (q := 9) (r := 0) rfl rfl
set_option maxRecDepth 20000 in
theorem k180_0 : xM180.2.2.2.2.2[0]? = some ([0, 1, 2], [.aload 2, .invokestatic 179, .astore 3, .iconst 0, .istore 4, .goto_w 1]) := rfl
set_option maxRecDepth 20000 in
theorem k180_1 : xM180.2.2.2.2.2[1]? = some ([0, 1, 3, 4], [.iload 4, .aload 3, .invokevirtual 391, .if_icmp .ge 3, .goto_w 2]) := rfl
set_option maxRecDepth 20000 in
theorem k180_2 : xM180.2.2.2.2.2[2]? = some ([0, 1, 3, 4], [.aload 0, .aload 1, .aload 3, .iload 4, .invokevirtual 392, .invokestatic 174, .iinc 4 1, .goto 1]) := rfl
set_option maxRecDepth 20000 in
theorem k180_3 : xM180.2.2.2.2.2[3]? = some ([0, 1], [.aload 0, .aload 0, .aload 1, .invokestatic 176, .invokevirtual 92, .ireturn]) := rfl
theorem km181 : xmt 181 = some (1, 16, 99, 2, [], xM181.2.2.2.2.2) := xmt_at (q := 9) (r := 1) rfl rfl
set_option maxRecDepth 20000 in
theorem k181_0 : xM181.2.2.2.2.2[0]? = some ([0], [.new 10, .dup, .invokespecial 90, .astore 1, .iconst 7, .newarray .int, .astore 2, .aload 0, .invokestatic 178, .astore 3, .aload 1, .aload 2, .aload 3, .invokestatic 180, .aload 3, .getfield 368, .if_icmp .eq 2, .goto_w 1]) := rfl
set_option maxRecDepth 20000 in
theorem k181_1 : xM181.2.2.2.2.2[1]? = some ([], [.iconst 0, .ireturn]) := rfl
set_option maxRecDepth 20000 in
theorem k181_2 : xM181.2.2.2.2.2[2]? = some ([0, 1, 3], [.iconst 0, .istore 4, .goto_w 3]) := rfl
set_option maxRecDepth 20000 in
theorem k181_3 : xM181.2.2.2.2.2[3]? = some ([0, 1, 3, 4], [.iload 4, .iconst 22, .if_icmp .ge 36, .goto_w 4]) := rfl
set_option maxRecDepth 20000 in
theorem k181_4 : xM181.2.2.2.2.2[4]? = some ([0, 1, 3, 4], [.aload 0, .iconst 10, .iload 4, .iadd, .invokestatic 177, .istore 5, .iload 5, .iconst 20, .iushr, .iconst 1, .iand, .istore 6, .aload 1, .invokestatic 183, .astore 7, .aload 1, .iload 6, .invokevirtual 153, .aload 1, .iconst 3, .invokevirtual 96, .if_icmp .ne 7, .goto_w 5]) := rfl
set_option maxRecDepth 20000 in
theorem k181_5 : xM181.2.2.2.2.2[5]? = some ([0, 1, 3, 4, 5, 6, 7], [.aload 1, .invokestatic 182, .ifCond .eq 7, .goto_w 6]) := rfl
set_option maxRecDepth 20000 in
theorem k181_6 : xM181.2.2.2.2.2[6]? = some ([0, 1, 3, 4, 5, 6, 7], [.aload 7, .aload 1, .invokestatic 183, .invokestatic 216, .ifCond .ne 8, .goto_w 7]) := rfl
set_option maxRecDepth 20000 in
theorem k181_7 : xM181.2.2.2.2.2[7]? = some ([], [.iconst 0, .ireturn]) := rfl
set_option maxRecDepth 20000 in
theorem k181_8 : xM181.2.2.2.2.2[8]? = some ([0, 1, 3, 4, 5, 6, 7], [.iload 5, .iconst 7, .iand, .aload 3, .getfield 368, .irem, .istore 8, .iconst 1, .iload 5, .iconst 3, .iushr, .iconst 7, .iand, .iadd, .istore 9, .iconst 4, .newarray .int, .dup, .iconst 0, .aload 1, .iload 8, .iload 9, .invokevirtual 128, .iastore, .dup, .iconst 1, .aload 1, .iload 8, .iload 9, .invokevirtual 129, .iastore, .dup, .iconst 2, .aload 1, .iload 8, .iload 9, .invokevirtual 130, .iastore, .dup, .iconst 3, .aload 1, .iload 9, .invokevirtual 131, .iastore, .astore 10, .aload 1, .iconst 8, .invokevirtual 96, .istore 11, .aload 1, .iload 9, .invokevirtual 142, .istore 12, .aload 1, .iload 8, .iconst 1, .invokevirtual 98, .aload 10, .iconst 0, .iaload, .if_icmp .ne 12, .goto_w 9]) := rfl
set_option maxRecDepth 20000 in
theorem k181_9 : xM181.2.2.2.2.2[9]? = some ([0, 1, 3, 4, 5, 6, 7, 8, 9, 10, 11, 12], [.aload 1, .iload 8, .iconst 4, .invokevirtual 98, .aload 10, .iconst 1, .iaload, .if_icmp .ne 12, .goto_w 10]) := rfl
set_option maxRecDepth 20000 in
theorem k181_10 : xM181.2.2.2.2.2[10]? = some ([0, 1, 3, 4, 5, 6, 7, 8, 9, 10, 11, 12], [.aload 1, .iload 8, .iconst 0, .invokevirtual 98, .aload 10, .iconst 2, .iaload, .if_icmp .ne 12, .goto_w 11]) := rfl
set_option maxRecDepth 20000 in
theorem k181_11 : xM181.2.2.2.2.2[11]? = some ([0, 1, 3, 4, 5, 6, 7, 8, 9, 10, 11, 12], [.aload 1, .iconst 8, .invokevirtual 96, .iload 11, .isub, .aload 10, .iconst 3, .iaload, .if_icmp .eq 13, .goto_w 12]) := rfl
set_option maxRecDepth 20000 in
theorem k181_12 : xM181.2.2.2.2.2[12]? = some ([], [.iconst 0, .ireturn]) := rfl
set_option maxRecDepth 20000 in
theorem k181_13 : xM181.2.2.2.2.2[13]? = some ([0, 1, 3, 4, 5, 6, 7, 8, 9, 12], [.aload 1, .invokestatic 183, .astore 13, .aload 1, .invokevirtual 151, .ifCond .lt 16, .goto_w 14]) := rfl
set_option maxRecDepth 20000 in
theorem k181_14 : xM181.2.2.2.2.2[14]? = some ([0, 1, 3, 4, 5, 6, 7, 8, 9, 12, 13], [.aload 1, .iload 9, .invokevirtual 142, .iload 12, .if_icmp .ne 16, .goto_w 15]) := rfl
set_option maxRecDepth 20000 in
theorem k181_15 : xM181.2.2.2.2.2[15]? = some ([0, 1, 3, 4, 5, 6, 7, 8, 13], [.aload 13, .aload 1, .invokestatic 183, .invokestatic 216, .ifCond .ne 17, .goto_w 16]) := rfl
set_option maxRecDepth 20000 in
theorem k181_16 : xM181.2.2.2.2.2[16]? = some ([], [.iconst 0, .ireturn]) := rfl
set_option maxRecDepth 20000 in
theorem k181_17 : xM181.2.2.2.2.2[17]? = some ([0, 1, 3, 4, 5, 6, 7, 8], [.aload 1, .iload 8, .iconst 0, .invokevirtual 98, .ifCond .le 27, .goto_w 18]) := rfl
set_option maxRecDepth 20000 in
theorem k181_18 : xM181.2.2.2.2.2[18]? = some ([0, 1, 3, 4, 5, 6, 7, 8], [.iload 5, .iconst 6, .iushr, .iconst 3, .iand, .ifCond .ne 27, .goto_w 19]) := rfl
set_option maxRecDepth 20000 in
theorem k181_19 : xM181.2.2.2.2.2[19]? = some ([0, 1, 3, 4, 5, 6, 7, 8], [.aload 1, .iconst 5, .invokevirtual 96, .istore 14, .aload 1, .iload 8, .iconst 0, .invokevirtual 98, .istore 15, .aload 1, .iload 8, .invokevirtual 144, .iload 14, .iconst 1, .iadd, .if_icmp .ne 22, .goto_w 20]) := rfl
set_option maxRecDepth 20000 in
theorem k181_20 : xM181.2.2.2.2.2[20]? = some ([0, 1, 3, 4, 5, 6, 7, 8, 14, 15], [.aload 1, .iload 14, .iconst 0, .invokevirtual 101, .iload 15, .if_icmp .ne 22, .goto_w 21]) := rfl
set_option maxRecDepth 20000 in
theorem k181_21 : xM181.2.2.2.2.2[21]? = some ([0, 1, 3, 4, 5, 6, 7, 8, 14], [.aload 1, .iload 8, .iconst 0, .invokevirtual 98, .ifCond .eq 23, .goto_w 22]) := rfl
set_option maxRecDepth 20000 in
theorem k181_22 : xM181.2.2.2.2.2[22]? = some ([], [.iconst 0, .ireturn]) := rfl
set_option maxRecDepth 20000 in
theorem k181_23 : xM181.2.2.2.2.2[23]? = some ([0, 1, 3, 4, 5, 6, 7, 8, 14], [.aload 1, .iload 8, .iconst 4, .invokevirtual 98, .aload 1, .iconst 4, .invokevirtual 97, .if_icmp .lt 27, .goto_w 24]) := rfl
set_option maxRecDepth 20000 in
theorem k181_24 : xM181.2.2.2.2.2[24]? = some ([0, 1, 3, 4, 5, 6, 7, 8, 14], [.aload 1, .iload 8, .invokevirtual 145, .ifCond .eq 26, .goto_w 25]) := rfl
set_option maxRecDepth 20000 in
theorem k181_25 : xM181.2.2.2.2.2[25]? = some ([0, 1, 3, 4, 5, 6, 7, 8, 14], [.aload 1, .iconst 5, .invokevirtual 96, .iload 14, .if_icmp .eq 27, .goto_w 26]) := rfl
set_option maxRecDepth 20000 in
theorem k181_26 : xM181.2.2.2.2.2[26]? = some ([], [.iconst 0, .ireturn]) := rfl
set_option maxRecDepth 20000 in
theorem k181_27 : xM181.2.2.2.2.2[27]? = some ([0, 1, 3, 4, 5, 6, 7, 8], [.aload 1, .iload 8, .iload 5, .iconst 8, .iushr, .iconst 127, .iand, .iconst 80, .isub, .invokevirtual 146, .istore 14, .iload 14, .aload 1, .iload 8, .iconst 4, .invokevirtual 98, .if_icmp .eq 29, .goto_w 28]) := rfl
set_option maxRecDepth 20000 in
theorem k181_28 : xM181.2.2.2.2.2[28]? = some ([], [.iconst 0, .ireturn]) := rfl
set_option maxRecDepth 20000 in
theorem k181_29 : xM181.2.2.2.2.2[29]? = some ([0, 1, 3, 4, 5, 6, 7], [.iload 5, .iconst 25, .iushr, .iconst 7, .iand, .ifCond .eq 31, .goto_w 30]) := rfl
set_option maxRecDepth 20000 in
theorem k181_30 : xM181.2.2.2.2.2[30]? = some ([0, 1, 3, 4], [.goto 35]) := rfl
set_option maxRecDepth 20000 in
theorem k181_31 : xM181.2.2.2.2.2[31]? = some ([0, 1, 3, 4, 6, 7], [.aload 1, .iload 6, .invokevirtual 154, .istore 15, .aload 1, .iconst 3, .invokevirtual 96, .iload 15, .if_icmp .ne 34, .goto_w 32]) := rfl
set_option maxRecDepth 20000 in
theorem k181_32 : xM181.2.2.2.2.2[32]? = some ([0, 1, 3, 4, 7], [.aload 1, .invokevirtual 152, .ifCond .ne 34, .goto_w 33]) := rfl
set_option maxRecDepth 20000 in
theorem k181_33 : xM181.2.2.2.2.2[33]? = some ([0, 1, 3, 4, 7], [.aload 7, .aload 1, .invokestatic 183, .invokestatic 216, .ifCond .ne 35, .goto_w 34]) := rfl
set_option maxRecDepth 20000 in
theorem k181_34 : xM181.2.2.2.2.2[34]? = some ([], [.iconst 0, .ireturn]) := rfl
set_option maxRecDepth 20000 in
theorem k181_35 : xM181.2.2.2.2.2[35]? = some ([0, 1, 3, 4], [.iinc 4 1, .goto 3]) := rfl
set_option maxRecDepth 20000 in
theorem k181_36 : xM181.2.2.2.2.2[36]? = some ([], [.iconst 1, .ireturn]) := rfl
theorem km182 : xmt 182 = some (1, 5, 99, 2, [], xM182.2.2.2.2.2) := xmt_at (q := 9) (r := 2) rfl rfl
set_option maxRecDepth 20000 in
theorem k182_0 : xM182.2.2.2.2.2[0]? = some ([0], [.iconst 27, .newarray .int, .astore 1, .iconst 27, .newarray .int, .astore 2, .iconst 0, .istore 3, .goto_w 1]) := rfl
set_option maxRecDepth 20000 in
theorem k182_1 : xM182.2.2.2.2.2[1]? = some ([0, 1, 2, 3], [.iload 3, .aload 0, .iconst 0, .invokevirtual 96, .if_icmp .ge 13, .goto_w 2]) := rfl
set_option maxRecDepth 20000 in
theorem k182_2 : xM182.2.2.2.2.2[2]? = some ([0, 1, 2, 3], [.iload 3, .ifCond .le 5, .goto_w 3]) := rfl
set_option maxRecDepth 20000 in
theorem k182_3 : xM182.2.2.2.2.2[3]? = some ([0, 1, 2, 3], [.aload 0, .iload 3, .iconst 6, .invokevirtual 98, .aload 0, .iconst 0, .invokevirtual 97, .if_icmp .ge 5, .goto_w 4]) := rfl
set_option maxRecDepth 20000 in
theorem k182_4 : xM182.2.2.2.2.2[4]? = some ([], [.iconst 0, .ireturn]) := rfl
set_option maxRecDepth 20000 in
theorem k182_5 : xM182.2.2.2.2.2[5]? = some ([0, 1, 2, 3], [.aload 0, .iload 3, .iconst 4, .invokevirtual 98, .ifCond .lt 9, .goto_w 6]) := rfl
set_option maxRecDepth 20000 in
theorem k182_6 : xM182.2.2.2.2.2[6]? = some ([0, 1, 2, 3], [.aload 0, .iload 3, .iconst 4, .invokevirtual 98, .iconst 100, .if_icmp .gt 9, .goto_w 7]) := rfl
set_option maxRecDepth 20000 in
theorem k182_7 : xM182.2.2.2.2.2[7]? = some ([0, 1, 2, 3], [.aload 0, .iload 3, .iconst 5, .invokevirtual 98, .ifCond .lt 9, .goto_w 8]) := rfl
set_option maxRecDepth 20000 in
theorem k182_8 : xM182.2.2.2.2.2[8]? = some ([0, 1, 2, 3], [.aload 0, .iload 3, .iconst 5, .invokevirtual 98, .aload 0, .iload 3, .iconst 2, .invokevirtual 98, .if_icmp .le 10, .goto_w 9]) := rfl
set_option maxRecDepth 20000 in
theorem k182_9 : xM182.2.2.2.2.2[9]? = some ([], [.iconst 0, .ireturn]) := rfl
set_option maxRecDepth 20000 in
theorem k182_10 : xM182.2.2.2.2.2[10]? = some ([0, 1, 2, 3], [.aload 1, .aload 0, .iload 3, .iconst 8, .invokevirtual 98, .dup2, .iaload, .iconst 1, .iadd, .iastore, .aload 0, .iload 3, .iconst 0, .invokevirtual 98, .ifCond .le 12, .goto_w 11]) := rfl
set_option maxRecDepth 20000 in
theorem k182_11 : xM182.2.2.2.2.2[11]? = some ([0, 1, 2, 3], [.aload 2, .aload 0, .iload 3, .iconst 0, .invokevirtual 98, .dup2, .iaload, .iconst 1, .iadd, .iastore, .goto_w 12]) := rfl
set_option maxRecDepth 20000 in
theorem k182_12 : xM182.2.2.2.2.2[12]? = some ([0, 1, 2, 3], [.iinc 3 1, .goto 1]) := rfl
set_option maxRecDepth 20000 in
theorem k182_13 : xM182.2.2.2.2.2[13]? = some ([0, 1, 2], [.iconst 0, .istore 3, .goto_w 14]) := rfl
set_option maxRecDepth 20000 in
theorem k182_14 : xM182.2.2.2.2.2[14]? = some ([0, 1, 2, 3], [.iload 3, .aload 0, .iconst 5, .invokevirtual 96, .if_icmp .ge 16, .goto_w 15]) := rfl
set_option maxRecDepth 20000 in
theorem k182_15 : xM182.2.2.2.2.2[15]? = some ([0, 1, 2, 3], [.aload 2, .aload 0, .iload 3, .iconst 0, .invokevirtual 101, .dup2, .iaload, .iconst 1, .iadd, .iastore, .iinc 3 1, .goto 14]) := rfl
set_option maxRecDepth 20000 in
theorem k182_16 : xM182.2.2.2.2.2[16]? = some ([0, 1, 2], [.aload 1, .aload 2, .invokestatic 216, .ifCond .eq 18, .goto_w 17]) := rfl
set_option maxRecDepth 20000 in
theorem k182_17 : xM182.2.2.2.2.2[17]? = some ([0], [.aload 0, .iconst 4, .invokevirtual 96, .aload 0, .iconst 5, .invokevirtual 96, .iadd, .aload 0, .iconst 0, .invokevirtual 96, .if_icmp .eq 19, .goto_w 18]) := rfl
set_option maxRecDepth 20000 in
theorem k182_18 : xM182.2.2.2.2.2[18]? = some ([], [.iconst 0, .ireturn]) := rfl
set_option maxRecDepth 20000 in
theorem k182_19 : xM182.2.2.2.2.2[19]? = some ([0], [.iconst 0, .istore 3, .goto_w 20]) := rfl
set_option maxRecDepth 20000 in
theorem k182_20 : xM182.2.2.2.2.2[20]? = some ([0, 3], [.iload 3, .aload 0, .iconst 1, .invokevirtual 96, .if_icmp .ge 37, .goto_w 21]) := rfl
set_option maxRecDepth 20000 in
theorem k182_21 : xM182.2.2.2.2.2[21]? = some ([0, 3], [.aload 0, .iload 3, .invokevirtual 107, .fconst 0, .fcmp .g, .ifCond .lt 28, .goto_w 22]) := rfl
set_option maxRecDepth 20000 in
theorem k182_22 : xM182.2.2.2.2.2[22]? = some ([0, 3], [.aload 0, .iload 3, .invokevirtual 107, .fconst 1, .fcmp .l, .ifCond .gt 28, .goto_w 23]) := rfl
set_option maxRecDepth 20000 in
theorem k182_23 : xM182.2.2.2.2.2[23]? = some ([0, 3], [.aload 0, .iload 3, .invokevirtual 106, .aload 0, .iload 3, .invokevirtual 107, .fconst 1, .fcmp .l, .ifCond .ne 25, .goto_w 24]) := rfl
set_option maxRecDepth 20000 in
theorem k182_24 : xM182.2.2.2.2.2[24]? = some ([0, 3], [.iconst 1, .goto 26]) := rfl
set_option maxRecDepth 20000 in
theorem k182_25 : xM182.2.2.2.2.2[25]? = some ([0, 3], [.iconst 0, .goto_w 26]) := rfl
set_option maxRecDepth 20000 in
theorem k182_26 : xM182.2.2.2.2.2[26]? = some ([0, 3], [.if_icmp .ne 28, .goto_w 27]) := rfl
set_option maxRecDepth 20000 in
theorem k182_27 : xM182.2.2.2.2.2[27]? = some ([0, 3], [.aload 0, .iload 3, .iconst 5, .invokevirtual 99, .aload 0, .iload 3, .iconst 4, .invokevirtual 99, .if_icmp .ge 29, .goto_w 28]) := rfl
set_option maxRecDepth 20000 in
theorem k182_28 : xM182.2.2.2.2.2[28]? = some ([], [.iconst 0, .ireturn]) := rfl
set_option maxRecDepth 20000 in
theorem k182_29 : xM182.2.2.2.2.2[29]? = some ([0, 3], [.iconst 0, .istore 4, .goto_w 30]) := rfl
set_option maxRecDepth 20000 in
theorem k182_30 : xM182.2.2.2.2.2[30]? = some ([0, 3, 4], [.iload 4, .aload 0, .iconst 0, .invokevirtual 96, .if_icmp .ge 36, .goto_w 31]) := rfl
set_option maxRecDepth 20000 in
theorem k182_31 : xM182.2.2.2.2.2[31]? = some ([0, 3, 4], [.aload 0, .iload 3, .invokevirtual 104, .iload 4, .ishr, .iconst 1, .iand, .iconst 1, .if_icmp .ne 35, .goto_w 32]) := rfl
set_option maxRecDepth 20000 in
theorem k182_32 : xM182.2.2.2.2.2[32]? = some ([0, 3, 4], [.aload 0, .iload 4, .iconst 0, .invokevirtual 98, .ifCond .eq 34, .goto_w 33]) := rfl
set_option maxRecDepth 20000 in
theorem k182_33 : xM182.2.2.2.2.2[33]? = some ([0, 3, 4], [.aload 0, .iload 4, .iconst 1, .invokevirtual 98, .aload 0, .iload 3, .iconst 1, .invokevirtual 99, .isub, .invokestatic 384, .aload 0, .iconst 1, .invokevirtual 97, .if_icmp .le 35, .goto_w 34]) := rfl
set_option maxRecDepth 20000 in
theorem k182_34 : xM182.2.2.2.2.2[34]? = some ([], [.iconst 0, .ireturn]) := rfl
set_option maxRecDepth 20000 in
theorem k182_35 : xM182.2.2.2.2.2[35]? = some ([0, 3, 4], [.iinc 4 1, .goto 30]) := rfl
set_option maxRecDepth 20000 in
theorem k182_36 : xM182.2.2.2.2.2[36]? = some ([0, 3], [.iinc 3 1, .goto 20]) := rfl
set_option maxRecDepth 20000 in
theorem k182_37 : xM182.2.2.2.2.2[37]? = some ([], [.iconst 1, .ireturn]) := rfl
theorem km183 : xmt 183 = some (1, 4, 99, 8, [], xM183.2.2.2.2.2) := xmt_at (q := 9) (r := 3) rfl rfl
set_option maxRecDepth 20000 in
theorem k183_0 : xM183.2.2.2.2.2[0]? = some ([0], [.iconst 300, .newarray .int, .astore 1, .iconst 0, .istore 2, .goto_w 1]) := rfl
set_option maxRecDepth 20000 in
theorem k183_1 : xM183.2.2.2.2.2[1]? = some ([0, 1, 2], [.iload 2, .iconst 12, .if_icmp .ge 3, .goto_w 2]) := rfl
set_option maxRecDepth 20000 in
theorem k183_2 : xM183.2.2.2.2.2[2]? = some ([0, 1, 2], [.aload 1, .iload 2, .aload 0, .iload 2, .invokevirtual 96, .iastore, .iinc 2 1, .goto 1]) := rfl
set_option maxRecDepth 20000 in
theorem k183_3 : xM183.2.2.2.2.2[3]? = some ([0, 1], [.iconst 0, .istore 2, .goto_w 4]) := rfl
set_option maxRecDepth 20000 in
theorem k183_4 : xM183.2.2.2.2.2[4]? = some ([0, 1, 2], [.iload 2, .aload 0, .iconst 0, .invokevirtual 96, .if_icmp .ge 9, .goto_w 5]) := rfl
set_option maxRecDepth 20000 in
theorem k183_5 : xM183.2.2.2.2.2[5]? = some ([0, 1, 2], [.iconst 0, .istore 3, .goto_w 6]) := rfl
set_option maxRecDepth 20000 in
theorem k183_6 : xM183.2.2.2.2.2[6]? = some ([0, 1, 2, 3], [.iload 3, .iconst 9, .if_icmp .ge 8, .goto_w 7]) := rfl
set_option maxRecDepth 20000 in
theorem k183_7 : xM183.2.2.2.2.2[7]? = some ([0, 1, 2, 3], [.aload 1, .iconst 20, .iconst 10, .iload 2, .imul, .iadd, .iload 3, .iadd, .aload 0, .iload 2, .iload 3, .invokevirtual 98, .iastore, .iinc 3 1, .goto 6]) := rfl
set_option maxRecDepth 20000 in
theorem k183_8 : xM183.2.2.2.2.2[8]? = some ([0, 1, 2], [.iinc 2 1, .goto 4]) := rfl
set_option maxRecDepth 20000 in
theorem k183_9 : xM183.2.2.2.2.2[9]? = some ([0, 1], [.iconst 0, .istore 2, .goto_w 10]) := rfl
set_option maxRecDepth 20000 in
theorem k183_10 : xM183.2.2.2.2.2[10]? = some ([0, 1, 2], [.iload 2, .aload 0, .iconst 1, .invokevirtual 96, .if_icmp .ge 15, .goto_w 11]) := rfl
set_option maxRecDepth 20000 in
theorem k183_11 : xM183.2.2.2.2.2[11]? = some ([0, 1, 2], [.iconst 0, .istore 3, .goto_w 12]) := rfl
set_option maxRecDepth 20000 in
theorem k183_12 : xM183.2.2.2.2.2[12]? = some ([0, 1, 2, 3], [.iload 3, .iconst 6, .if_icmp .ge 14, .goto_w 13]) := rfl
set_option maxRecDepth 20000 in
theorem k183_13 : xM183.2.2.2.2.2[13]? = some ([0, 1, 2, 3], [.aload 1, .iconst 150, .iconst 10, .iload 2, .imul, .iadd, .iload 3, .iadd, .aload 0, .iload 2, .iload 3, .invokevirtual 99, .iastore, .iinc 3 1, .goto 12]) := rfl
set_option maxRecDepth 20000 in
theorem k183_14 : xM183.2.2.2.2.2[14]? = some ([0, 1, 2], [.iinc 2 1, .goto 10]) := rfl
set_option maxRecDepth 20000 in
theorem k183_15 : xM183.2.2.2.2.2[15]? = some ([0, 1], [.iconst 0, .istore 2, .goto_w 16]) := rfl
set_option maxRecDepth 20000 in
theorem k183_16 : xM183.2.2.2.2.2[16]? = some ([0, 1, 2], [.iload 2, .aload 0, .iconst 5, .invokevirtual 96, .if_icmp .ge 21, .goto_w 17]) := rfl
set_option maxRecDepth 20000 in
theorem k183_17 : xM183.2.2.2.2.2[17]? = some ([0, 1, 2], [.iconst 0, .istore 3, .goto_w 18]) := rfl
set_option maxRecDepth 20000 in
theorem k183_18 : xM183.2.2.2.2.2[18]? = some ([0, 1, 2, 3], [.iload 3, .iconst 3, .if_icmp .ge 20, .goto_w 19]) := rfl
set_option maxRecDepth 20000 in
theorem k183_19 : xM183.2.2.2.2.2[19]? = some ([0, 1, 2, 3], [.aload 1, .iconst 220, .iconst 3, .iload 2, .imul, .iadd, .iload 3, .iadd, .aload 0, .iload 2, .iload 3, .invokevirtual 101, .iastore, .iinc 3 1, .goto 18]) := rfl
set_option maxRecDepth 20000 in
theorem k183_20 : xM183.2.2.2.2.2[20]? = some ([0, 1, 2], [.iinc 2 1, .goto 16]) := rfl
set_option maxRecDepth 20000 in
theorem k183_21 : xM183.2.2.2.2.2[21]? = some ([0, 1], [.iconst 0, .istore 2, .goto_w 22]) := rfl
set_option maxRecDepth 20000 in
theorem k183_22 : xM183.2.2.2.2.2[22]? = some ([0, 1, 2], [.iload 2, .aload 0, .iconst 2, .invokevirtual 96, .if_icmp .ge 24, .goto_w 23]) := rfl
set_option maxRecDepth 20000 in
theorem k183_23 : xM183.2.2.2.2.2[23]? = some ([0, 1, 2], [.aload 1, .iconst 260, .iload 2, .iadd, .aload 0, .iload 2, .iconst 2, .invokevirtual 100, .iastore, .iinc 2 1, .goto 22]) := rfl
set_option maxRecDepth 20000 in
theorem k183_24 : xM183.2.2.2.2.2[24]? = some ([1], [.aload 1, .areturn]) := rfl
theorem km184 : xmt 184 = some (1, 1, 13, 0, [], xM184.2.2.2.2.2) := xmt_at (q := 9) (r := 4) rfl rfl
set_option maxRecDepth 20000 in
theorem k184_0 : xM184.2.2.2.2.2[0]? = some ([0], [.aload 0, .invokespecial 185, .aload 0, .getstatic 7, .putfield 417, .return_]) := rfl
theorem km185 : xmt 185 = some (1, 1, 13, 0, [], xM185.2.2.2.2.2) := xmt_at (q := 9) (r := 5) rfl rfl
set_option maxRecDepth 20000 in
theorem k185_0 : xM185.2.2.2.2.2[0]? = some ([0], [.aload 0, .invokespecial 186, .aload 0, .iconst 0, .putfield 416, .return_]) := rfl
theorem km186 : xmt 186 = some (1, 1, 13, 0, [], xM186.2.2.2.2.2) := xmt_at (q := 9) (r := 6) rfl rfl
set_option maxRecDepth 20000 in
theorem k186_0 : xM186.2.2.2.2.2[0]? = some ([0], [.aload 0, .monitorexit, .return_]) := rfl
theorem km187 : xmt 187 = some (1, 1, 12, 0, [], xM187.2.2.2.2.2) := xmt_at (q := 9) (r := 7) rfl rfl
set_option maxRecDepth 20000 in
theorem k187_0 : xM187.2.2.2.2.2[0]? = some ([0], [.aload 0, .iconst 16, .invokespecial 189, .return_]) := rfl
theorem km188 : xmt 188 = some (2, 2, 12, 0, [], xM188.2.2.2.2.2) := xmt_at (q := 9) (r := 8) rfl rfl
set_option maxRecDepth 20000 in
theorem k188_0 : xM188.2.2.2.2.2[0]? = some ([0, 1], [.aload 0, .aload 1, .invokespecial 190, .return_]) := rfl
theorem km189 : xmt 189 = some (2, 2, 12, 0, [], xM189.2.2.2.2.2) := xmt_at (q := 9) (r := 9) rfl rfl
set_option maxRecDepth 20000 in
theorem k189_0 : xM189.2.2.2.2.2[0]? = some ([0, 1], [.aload 0, .monitorexit, .getstatic 2, .ifCond .eq 2, .goto_w 1]) := rfl
set_option maxRecDepth 20000 in
theorem k189_1 : xM189.2.2.2.2.2[1]? = some ([0, 1], [.aload 0, .iload 1, .newarray .byte, .putfield 384, .aload 0, .iconst 0, .putfield 385, .goto 3]) := rfl
set_option maxRecDepth 20000 in
theorem k189_2 : xM189.2.2.2.2.2[2]? = some ([0, 1], [.aload 0, .iload 1]) := rfl
set_option maxRecDepth 20000 in
theorem k189_3 : xM189.2.2.2.2.2[3]? = some ([], [.return_]) := rfl
theorem km190 : xmt 190 = some (2, 5, 12, 0, [], xM190.2.2.2.2.2) := xmt_at (q := 9) (r := 10) rfl rfl
set_option maxRecDepth 20000 in
theorem k190_0 : xM190.2.2.2.2.2[0]? = some ([0, 1], [.aload 0, .monitorexit, .aload 1, .invokevirtual 391, .istore 2, .iload 2, .iconst 2147483631, .if_icmp .ge 2, .goto_w 1]) := rfl
set_option maxRecDepth 20000 in
theorem k190_1 : xM190.2.2.2.2.2[1]? = some ([0, 1, 2], [.iload 2, .iconst 16, .iadd, .goto 3]) := rfl
set_option maxRecDepth 20000 in
theorem k190_2 : xM190.2.2.2.2.2[2]? = some ([0, 1], [.iconst 2147483647, .goto_w 3]) := rfl
set_option maxRecDepth 20000 in
theorem k190_3 : xM190.2.2.2.2.2[3]? = some ([0, 1], [.istore 3, .aload 1, .invokevirtual 393, .istore 4, .aload 0, .iload 4, .putfield 385, .aload 0, .iload 4, .ifCond .ne 5, .goto_w 4]) := rfl
set_option maxRecDepth 20000 in
theorem k190_4 : xM190.2.2.2.2.2[4]? = some ([0, 1, 3], [.iload 3, .newarray .byte, .goto 6]) := rfl
set_option maxRecDepth 20000 in
theorem k190_5 : xM190.2.2.2.2.2[5]? = some ([3], [.iload 3]) := rfl
set_option maxRecDepth 20000 in
theorem k190_6 : xM190.2.2.2.2.2[6]? = some ([0, 1], [.putfield 384, .aload 0, .aload 1, .invokevirtual 220, .pop, .return_]) := rfl
theorem km191 : xmt 191 = some (2, 2, 12, 8, [], xM191.2.2.2.2.2) := xmt_at (q := 9) (r := 11) rfl rfl
set_option maxRecDepth 20000 in
theorem k191_0 : xM191.2.2.2.2.2[0]? = some ([0, 1], [.aload 0, .iload 1, .invokespecial 195, .pop, .aload 0, .areturn]) := rfl
theorem km192 : xmt 192 = some (2, 2, 12, 8, [], xM192.2.2.2.2.2) := xmt_at (q := 9) (r := 12) rfl rfl
set_option maxRecDepth 20000 in
theorem k192_0 : xM192.2.2.2.2.2[0]? = some ([0, 1], [.aload 0, .iload 1, .invokespecial 196, .pop, .aload 0, .areturn]) := rfl
theorem km193 : xmt 193 = some (2, 2, 12, 8, [], xM193.2.2.2.2.2) := xmt_at (q := 9) (r := 13) rfl rfl
set_option maxRecDepth 20000 in
theorem k193_0 : xM193.2.2.2.2.2[0]? = some ([0, 1], [.aload 0, .aload 1, .invokespecial 197, .pop, .aload 0, .areturn]) := rfl
theorem km194 : xmt 194 = some (1, 1, 12, 8, [], xM194.2.2.2.2.2) := xmt_at (q := 9) (r := 14) rfl rfl
set_option maxRecDepth 20000 in
theorem k194_0 : xM194.2.2.2.2.2[0]? = some ([0], [.new 14, .dup, .aload 0, .invokespecial 206, .areturn]) := rfl
theorem km195 : xmt 195 = some (2, 2, 12, 8, [], xM195.2.2.2.2.2) := xmt_at (q := 9) (r := 15) rfl rfl
set_option maxRecDepth 20000 in
theorem k195_0 : xM195.2.2.2.2.2[0]? = some ([0, 1], [.aload 0, .aload 0, .getfield 387, .iconst 1, .iadd, .invokevirtual 198, .aload 0, .invokevirtual 202, .ifCond .eq 3, .goto_w 1]) := rfl
set_option maxRecDepth 20000 in
theorem k195_1 : xM195.2.2.2.2.2[1]? = some ([0, 1], [.iload 1, .invokestatic 215, .ifCond .eq 3, .goto_w 2]) := rfl
set_option maxRecDepth 20000 in
theorem k195_2 : xM195.2.2.2.2.2[2]? = some ([0, 1], [.aload 0, .getfield 384, .aload 0, .dup, .getfield 387, .dup_x1, .iconst 1, .iadd, .putfield 387, .iload 1, .i2b, .bastore, .goto 6]) := rfl
set_option maxRecDepth 20000 in
theorem k195_3 : xM195.2.2.2.2.2[3]? = some ([0, 1], [.aload 0, .invokevirtual 202, .ifCond .eq 5, .goto_w 4]) := rfl
set_option maxRecDepth 20000 in
theorem k195_4 : xM195.2.2.2.2.2[4]? = some ([0], [.aload 0]) := rfl
set_option maxRecDepth 20000 in
theorem k195_5 : xM195.2.2.2.2.2[5]? = some ([0, 1], [.aload 0, .getfield 384, .aload 0, .dup, .getfield 387, .dup_x1, .iconst 1, .iadd, .putfield 387, .iload 1]) := rfl
set_option maxRecDepth 20000 in
theorem k195_6 : xM195.2.2.2.2.2[6]? = some ([0], [.aload 0, .areturn]) := rfl
theorem km196 : xmt 196 = some (2, 4, 12, 8, [], xM196.2.2.2.2.2) := xmt_at (q := 9) (r := 16) rfl rfl
set_option maxRecDepth 20000 in
theorem k196_0 : xM196.2.2.2.2.2[0]? = some ([0, 1], [.aload 0, .getfield 387, .istore 2, .iload 2, .iload 1, .invokestatic 213, .iadd, .istore 3, .aload 0, .iload 3, .invokevirtual 198, .aload 0, .invokevirtual 202, .ifCond .eq 2, .goto_w 1]) := rfl
set_option maxRecDepth 20000 in
theorem k196_1 : xM196.2.2.2.2.2[1]? = some ([0, 1, 3], [.iload 1, .iload 3, .aload 0, .getfield 384, .invokestatic 212, .pop, .goto 3]) := rfl
set_option maxRecDepth 20000 in
theorem k196_2 : xM196.2.2.2.2.2[2]? = some ([0, 1, 2, 3], [.iload 1, .iload 2, .iload 3, .aload 0, .getfield 384]) := rfl
set_option maxRecDepth 20000 in
theorem k196_3 : xM196.2.2.2.2.2[3]? = some ([0, 3], [.aload 0, .iload 3, .putfield 387, .aload 0, .areturn]) := rfl
theorem km197 : xmt 197 = some (2, 3, 12, 8, [], xM197.2.2.2.2.2) := xmt_at (q := 9) (r := 17) rfl rfl
set_option maxRecDepth 20000 in
theorem k197_0 : xM197.2.2.2.2.2[0]? = some ([0, 1], [.aload 1, .ifnonnull 2, .goto_w 1]) := rfl
set_option maxRecDepth 20000 in
theorem k197_1 : xM197.2.2.2.2.2[1]? = some ([0], [.aload 0]) := rfl
set_option maxRecDepth 20000 in
theorem k197_2 : xM197.2.2.2.2.2[2]? = some ([0, 1], [.aload 1, .invokevirtual 391, .istore 2, .aload 0, .aload 0, .getfield 387, .iload 2, .iadd, .invokevirtual 198, .aload 0, .aload 0, .getfield 387, .aload 1, .invokevirtual 200, .aload 0, .dup, .getfield 387, .iload 2, .iadd, .putfield 387, .aload 0, .areturn]) := rfl
theorem km198 : xmt 198 = some (2, 3, 12, 0, [], xM198.2.2.2.2.2) := xmt_at (q := 9) (r := 18) rfl rfl
set_option maxRecDepth 20000 in
theorem k198_0 : xM198.2.2.2.2.2[0]? = some ([0, 1], [.aload 0, .getfield 384, .arraylength, .aload 0, .getfield 385, .ishr, .istore 2, .iload 1, .iload 2, .isub, .ifCond .le 2, .goto_w 1]) := rfl
set_option maxRecDepth 20000 in
theorem k198_1 : xM198.2.2.2.2.2[1]? = some ([0, 1], [.aload 0, .aload 0, .getfield 384, .aload 0, .iload 1, .invokevirtual 199, .aload 0, .getfield 385, .ishl, .invokestatic 208, .putfield 384, .goto_w 2]) := rfl
set_option maxRecDepth 20000 in
theorem k198_2 : xM198.2.2.2.2.2[2]? = some ([], [.return_]) := rfl
theorem km199 : xmt 199 = some (2, 6, 12, 1, [], xM199.2.2.2.2.2) := xmt_at (q := 9) (r := 19) rfl rfl
set_option maxRecDepth 20000 in
theorem k199_0 : xM199.2.2.2.2.2[0]? = some ([0, 1], [.aload 0, .getfield 384, .arraylength, .istore 2, .iload 1, .aload 0, .getfield 385, .ishl, .istore 3, .iload 3, .iload 2, .isub, .istore 4, .iload 2, .iload 4, .iload 2, .iconst 2, .aload 0, .getfield 385, .ishl, .iadd, .invokestatic 214, .istore 5, .iload 5, .iconst 2147483647, .if_icmp .ne 2, .goto_w 1]) := rfl
set_option maxRecDepth 20000 in
theorem k199_1 : xM199.2.2.2.2.2[1]? = some ([], []) := rfl
set_option maxRecDepth 20000 in
theorem k199_2 : xM199.2.2.2.2.2[2]? = some ([0, 5], [.iload 5, .aload 0, .getfield 385, .ishr, .ireturn]) := rfl
theorem km200 : xmt 200 = some (3, 3, 12, 0, [], xM200.2.2.2.2.2) := xmt_at (q := 10) (r := 0) rfl rfl
set_option maxRecDepth 20000 in
theorem k200_0 : xM200.2.2.2.2.2[0]? = some ([0, 1, 2], [.aload 0, .aload 2, .invokevirtual 201, .aload 2, .aload 0, .getfield 384, .iload 1, .aload 0, .getfield 385, .invokevirtual 205, .return_]) := rfl
theorem km201 : xmt 201 = some (2, 2, 12, 0, [], xM201.2.2.2.2.2) := xmt_at (q := 10) (r := 1) rfl rfl
set_option maxRecDepth 20000 in
theorem k201_0 : xM201.2.2.2.2.2[0]? = some ([0, 1], [.getstatic 2, .ifCond .eq 3, .goto_w 1]) := rfl
set_option maxRecDepth 20000 in
theorem k201_1 : xM201.2.2.2.2.2[1]? = some ([0, 1], [.aload 0, .getfield 385, .aload 1, .invokevirtual 393, .if_icmp .eq 3, .goto_w 2]) := rfl
set_option maxRecDepth 20000 in
theorem k201_2 : xM201.2.2.2.2.2[2]? = some ([0], [.aload 0]) := rfl
set_option maxRecDepth 20000 in
theorem k201_3 : xM201.2.2.2.2.2[3]? = some ([], [.return_]) := rfl
theorem km202 : xmt 202 = some (1, 1, 12, 2, [], xM202.2.2.2.2.2) := xmt_at (q := 10) (r := 2) rfl rfl
set_option maxRecDepth 20000 in
theorem k202_0 : xM202.2.2.2.2.2[0]? = some ([0], [.getstatic 2, .ifCond .eq 3, .goto_w 1]) := rfl
set_option maxRecDepth 20000 in
theorem k202_1 : xM202.2.2.2.2.2[1]? = some ([0], [.aload 0, .getfield 385, .ifCond .ne 3, .goto_w 2]) := rfl
set_option maxRecDepth 20000 in
theorem k202_2 : xM202.2.2.2.2.2[2]? = some ([], [.iconst 1, .goto 4]) := rfl
set_option maxRecDepth 20000 in
theorem k202_3 : xM202.2.2.2.2.2[3]? = some ([], [.iconst 0, .goto_w 4]) := rfl
set_option maxRecDepth 20000 in
theorem k202_4 : xM202.2.2.2.2.2[4]? = some ([], [.ireturn]) := rfl
theorem km203 : xmt 203 = some (1, 1, 12, 1, [], xM203.2.2.2.2.2) := xmt_at (q := 10) (r := 3) rfl rfl
set_option maxRecDepth 20000 in
theorem k203_0 : xM203.2.2.2.2.2[0]? = some ([0], [.aload 0, .getfield 387, .ireturn]) := rfl
theorem km204 : xmt 204 = some (1, 1, 12, 8, [], xM204.2.2.2.2.2) := xmt_at (q := 10) (r := 4) rfl rfl
set_option maxRecDepth 20000 in
theorem k204_0 : xM204.2.2.2.2.2[0]? = some ([0], [.aload 0, .getfield 384, .areturn]) := rfl
theorem km205 : xmt 205 = some (4, 4, 30, 0, [], xM205.2.2.2.2.2) := xmt_at (q := 10) (r := 5) rfl rfl
set_option maxRecDepth 20000 in
theorem k205_0 : xM205.2.2.2.2.2[0]? = some ([0, 1, 2, 3], [.aload 0, .invokevirtual 393, .iload 3, .if_icmp .ne 2, .goto_w 1]) := rfl
set_option maxRecDepth 20000 in
theorem k205_1 : xM205.2.2.2.2.2[1]? = some ([0, 1, 2, 3], [.aload 0, .getfield 960, .iconst 0, .aload 1, .iload 2, .iload 3, .ishl, .aload 0, .getfield 960, .arraylength, .lrem, .goto 3]) := rfl
set_option maxRecDepth 20000 in
theorem k205_2 : xM205.2.2.2.2.2[2]? = some ([0, 1, 2], [.aload 0, .getfield 960, .iconst 0, .aload 1, .iload 2, .aload 0, .getfield 960, .arraylength]) := rfl
set_option maxRecDepth 20000 in
theorem k205_3 : xM205.2.2.2.2.2[3]? = some ([], [.return_]) := rfl
theorem km206 : xmt 206 = some (2, 2, 30, 0, [], xM206.2.2.2.2.2) := xmt_at (q := 10) (r := 6) rfl rfl
set_option maxRecDepth 20000 in
theorem k206_0 : xM206.2.2.2.2.2[0]? = some ([0, 1], [.aload 0, .aload 1, .aconst_null, .invokespecial 207, .return_]) := rfl
theorem km207 : xmt 207 = some (3, 5, 30, 0, [], xM207.2.2.2.2.2) := xmt_at (q := 10) (r := 7) rfl rfl
set_option maxRecDepth 20000 in
theorem k207_0 : xM207.2.2.2.2.2[0]? = some ([0, 1], [.aload 0, .monitorexit, .aload 1, .invokevirtual 204, .astore 3, .aload 1, .invokevirtual 221, .istore 4, .aload 1, .invokevirtual 202, .ifCond .eq 2, .goto_w 1]) := rfl
set_option maxRecDepth 20000 in
theorem k207_1 : xM207.2.2.2.2.2[1]? = some ([0, 3, 4], [.aload 0, .iconst 0, .putfield 961, .aload 0, .aload 3, .iconst 0, .iload 4, .invokestatic 209, .putfield 960, .goto 6]) := rfl
set_option maxRecDepth 20000 in
theorem k207_2 : xM207.2.2.2.2.2[2]? = some ([0, 1, 3, 4], [.getstatic 2, .ifCond .eq 5, .goto_w 3]) := rfl
set_option maxRecDepth 20000 in
theorem k207_3 : xM207.2.2.2.2.2[3]? = some ([0, 1, 3, 4], [.aload 1, .getfield 386, .ifCond .eq 5, .goto_w 4]) := rfl
set_option maxRecDepth 20000 in
theorem k207_4 : xM207.2.2.2.2.2[4]? = some ([0, 3, 4], [.aload 0, .aload 3, .iconst 0, .iload 4]) := rfl
set_option maxRecDepth 20000 in
theorem k207_5 : xM207.2.2.2.2.2[5]? = some ([0, 3, 4], [.aload 0, .iconst 1, .putfield 961, .aload 0, .aload 3, .iconst 0, .iload 4, .iconst 1, .ishl, .invokestatic 209, .putfield 960, .goto_w 6]) := rfl
set_option maxRecDepth 20000 in
theorem k207_6 : xM207.2.2.2.2.2[6]? = some ([], [.return_]) := rfl
theorem km208 : xmt 208 = some (2, 3, 99, 8, [], xM208.2.2.2.2.2) := xmt_at (q := 10) (r := 8) rfl rfl
set_option maxRecDepth 20000 in
theorem k208_0 : xM208.2.2.2.2.2[0]? = some ([0, 1], [.iload 1, .aload 0, .arraylength, .if_icmp .ne 2, .goto_w 1]) := rfl
set_option maxRecDepth 20000 in
theorem k208_1 : xM208.2.2.2.2.2[1]? = some ([0], [.aload 0, .lneg, .monitorenter, .areturn]) := rfl
set_option maxRecDepth 20000 in
theorem k208_2 : xM208.2.2.2.2.2[2]? = some ([0, 1], [.iload 1, .newarray .byte, .astore 2, .aload 0, .iconst 0, .aload 2, .iconst 0, .aload 0, .arraylength, .iload 1, .invokestatic 386, .lrem, .aload 2, .areturn]) := rfl
theorem km209 : xmt 209 = some (3, 3, 99, 8, [], xM209.2.2.2.2.2) := xmt_at (q := 10) (r := 9) rfl rfl
set_option maxRecDepth 20000 in
theorem k209_0 : xM209.2.2.2.2.2[0]? = some ([0, 1, 2], [.iload 1, .ifCond .ne 2, .goto_w 1]) := rfl
set_option maxRecDepth 20000 in
theorem k209_1 : xM209.2.2.2.2.2[1]? = some ([0, 1, 2], [.iload 2, .aload 0, .arraylength, .if_icmp .eq 3, .goto_w 2]) := rfl
set_option maxRecDepth 20000 in
theorem k209_2 : xM209.2.2.2.2.2[2]? = some ([0, 1, 2], [.aload 0, .iload 1, .iload 2, .invokestatic 210, .areturn]) := rfl
set_option maxRecDepth 20000 in
theorem k209_3 : xM209.2.2.2.2.2[3]? = some ([0], [.aload 0, .lneg, .monitorenter, .areturn]) := rfl
theorem km210 : xmt 210 = some (3, 5, 99, 8, [], xM210.2.2.2.2.2) := xmt_at (q := 10) (r := 10) rfl rfl
set_option maxRecDepth 20000 in
theorem k210_0 : xM210.2.2.2.2.2[0]? = some ([0, 1, 2], [.iload 1, .iload 2, .invokestatic 211, .iload 2, .iload 1, .isub, .istore 3, .iload 3, .newarray .byte, .astore 4, .aload 0, .iload 1, .aload 4, .iconst 0, .aload 0, .arraylength, .iload 1, .isub, .iload 3, .invokestatic 386, .lrem, .aload 4, .areturn]) := rfl
theorem km211 : xmt 211 = some (2, 2, 99, 0, [], xM211.2.2.2.2.2) := xmt_at (q := 10) (r := 11) rfl rfl
set_option maxRecDepth 20000 in
theorem k211_0 : xM211.2.2.2.2.2[0]? = some ([0, 1], [.iload 1, .iload 0, .if_icmp .ge 2, .goto_w 1]) := rfl
set_option maxRecDepth 20000 in
theorem k211_1 : xM211.2.2.2.2.2[1]? = some ([], []) := rfl
set_option maxRecDepth 20000 in
theorem k211_2 : xM211.2.2.2.2.2[2]? = some ([], [.return_]) := rfl
theorem km212 : xmt 212 = some (3, 7, 99, 1, [], xM212.2.2.2.2.2) := xmt_at (q := 10) (r := 12) rfl rfl
set_option maxRecDepth 20000 in
theorem k212_0 : xM212.2.2.2.2.2[0]? = some ([0, 1, 2], [.iload 1, .istore 5, .iload 0, .ifCond .ge 2, .goto_w 1]) := rfl
set_option maxRecDepth 20000 in
theorem k212_1 : xM212.2.2.2.2.2[1]? = some ([0, 2, 5], [.iconst 1, .goto 3]) := rfl
set_option maxRecDepth 20000 in
theorem k212_2 : xM212.2.2.2.2.2[2]? = some ([0, 2, 5], [.iconst 0, .goto_w 3]) := rfl
set_option maxRecDepth 20000 in
theorem k212_3 : xM212.2.2.2.2.2[3]? = some ([0, 2, 5], [.istore 6, .iload 6, .ifCond .ne 5, .goto_w 4]) := rfl
set_option maxRecDepth 20000 in
theorem k212_4 : xM212.2.2.2.2.2[4]? = some ([0, 2, 5, 6], [.iload 0, .ineg, .istore 0, .goto_w 5]) := rfl
set_option maxRecDepth 20000 in
theorem k212_5 : xM212.2.2.2.2.2[5]? = some ([0, 2, 5, 6], [.iload 0, .iconst (-100), .if_icmp .gt 7, .goto_w 6]) := rfl
set_option maxRecDepth 20000 in
theorem k212_6 : xM212.2.2.2.2.2[6]? = some ([0, 2, 5, 6], [.iload 0, .iconst 100, .idiv, .istore 3, .iload 3, .iconst 100, .imul, .iload 0, .isub, .istore 4, .iload 3, .istore 0, .aload 2, .iinc 5 (-1), .iload 5, .getstatic 6, .iload 4, .baload, .bastore, .aload 2, .iinc 5 (-1), .iload 5, .getstatic 5, .iload 4, .baload, .bastore, .goto 5]) := rfl
set_option maxRecDepth 20000 in
theorem k212_7 : xM212.2.2.2.2.2[7]? = some ([0, 2, 5, 6], [.aload 2, .iinc 5 (-1), .iload 5, .getstatic 6, .iload 0, .ineg, .baload, .bastore, .iload 0, .iconst (-9), .if_icmp .ge 9, .goto_w 8]) := rfl
set_option maxRecDepth 20000 in
theorem k212_8 : xM212.2.2.2.2.2[8]? = some ([0, 2, 5, 6], [.aload 2, .iinc 5 (-1), .iload 5, .getstatic 5, .iload 0, .ineg, .baload, .bastore, .goto_w 9]) := rfl
set_option maxRecDepth 20000 in
theorem k212_9 : xM212.2.2.2.2.2[9]? = some ([2, 5, 6], [.iload 6, .ifCond .eq 11, .goto_w 10]) := rfl
set_option maxRecDepth 20000 in
theorem k212_10 : xM212.2.2.2.2.2[10]? = some ([2, 5], [.aload 2, .iinc 5 (-1), .iload 5, .iconst 45, .bastore, .goto_w 11]) := rfl
set_option maxRecDepth 20000 in
theorem k212_11 : xM212.2.2.2.2.2[11]? = some ([5], [.iload 5, .ireturn]) := rfl
theorem km213 : xmt 213 = some (1, 4, 99, 1, [], xM213.2.2.2.2.2) := xmt_at (q := 10) (r := 13) rfl rfl
set_option maxRecDepth 20000 in
theorem k213_0 : xM213.2.2.2.2.2[0]? = some ([0], [.iconst 1, .istore 1, .iload 0, .ifCond .lt 2, .goto_w 1]) := rfl
set_option maxRecDepth 20000 in
theorem k213_1 : xM213.2.2.2.2.2[1]? = some ([0], [.iconst 0, .istore 1, .iload 0, .ineg, .istore 0, .goto_w 2]) := rfl
set_option maxRecDepth 20000 in
theorem k213_2 : xM213.2.2.2.2.2[2]? = some ([0, 1], [.iconst (-10), .istore 2, .iconst 1, .istore 3, .goto_w 3]) := rfl
set_option maxRecDepth 20000 in
theorem k213_3 : xM213.2.2.2.2.2[3]? = some ([0, 1, 2, 3], [.iload 3, .iconst 10, .if_icmp .ge 7, .goto_w 4]) := rfl
set_option maxRecDepth 20000 in
theorem k213_4 : xM213.2.2.2.2.2[4]? = some ([0, 1, 2, 3], [.iload 0, .iload 2, .if_icmp .le 6, .goto_w 5]) := rfl
set_option maxRecDepth 20000 in
theorem k213_5 : xM213.2.2.2.2.2[5]? = some ([1, 3], [.iload 3, .iload 1, .iadd, .ireturn]) := rfl
set_option maxRecDepth 20000 in
theorem k213_6 : xM213.2.2.2.2.2[6]? = some ([0, 1, 2, 3], [.iconst 10, .iload 2, .imul, .istore 2, .iinc 3 1, .goto 3]) := rfl
set_option maxRecDepth 20000 in
theorem k213_7 : xM213.2.2.2.2.2[7]? = some ([1], [.iconst 10, .iload 1, .iadd, .ireturn]) := rfl
theorem km214 : xmt 214 = some (3, 4, 99, 1, [], xM214.2.2.2.2.2) := xmt_at (q := 10) (r := 14) rfl rfl
set_option maxRecDepth 20000 in
theorem k214_0 : xM214.2.2.2.2.2[0]? = some ([0, 1, 2], [.iload 0, .iload 1, .iload 2, .invokestatic 385, .iadd, .istore 3, .iconst 0, .iload 3, .if_icmp .ge 3, .goto_w 1]) := rfl
set_option maxRecDepth 20000 in
theorem k214_1 : xM214.2.2.2.2.2[1]? = some ([0, 1, 3], [.iload 3, .iconst 2147483639, .if_icmp .gt 3, .goto_w 2]) := rfl
set_option maxRecDepth 20000 in
theorem k214_2 : xM214.2.2.2.2.2[2]? = some ([3], [.iload 3, .ireturn]) := rfl
set_option maxRecDepth 20000 in
theorem k214_3 : xM214.2.2.2.2.2[3]? = some ([0, 1], [.iload 0, .iload 1]) := rfl
theorem km215 : xmt 215 = some (1, 1, 99, 2, [], xM215.2.2.2.2.2) := xmt_at (q := 10) (r := 15) rfl rfl
set_option maxRecDepth 20000 in
theorem k215_0 : xM215.2.2.2.2.2[0]? = some ([0], [.iload 0, .iconst 255, .if_icmp .gt 2, .goto_w 1]) := rfl
set_option maxRecDepth 20000 in
theorem k215_1 : xM215.2.2.2.2.2[1]? = some ([], [.iconst 1, .goto 3]) := rfl
set_option maxRecDepth 20000 in
theorem k215_2 : xM215.2.2.2.2.2[2]? = some ([], [.iconst 0, .goto_w 3]) := rfl
set_option maxRecDepth 20000 in
theorem k215_3 : xM215.2.2.2.2.2[3]? = some ([], [.ireturn]) := rfl
theorem km216 : xmt 216 = some (2, 3, 99, 2, [], xM216.2.2.2.2.2) := xmt_at (q := 10) (r := 16) rfl rfl
set_option maxRecDepth 20000 in
theorem k216_0 : xM216.2.2.2.2.2[0]? = some ([0, 1], [.aload 0, .aload 1, .if_acmp .ne 2, .goto_w 1]) := rfl
set_option maxRecDepth 20000 in
theorem k216_1 : xM216.2.2.2.2.2[1]? = some ([], [.iconst 1, .ireturn]) := rfl
set_option maxRecDepth 20000 in
theorem k216_2 : xM216.2.2.2.2.2[2]? = some ([0, 1], [.aload 0, .ifnull 4, .goto_w 3]) := rfl
set_option maxRecDepth 20000 in
theorem k216_3 : xM216.2.2.2.2.2[3]? = some ([0, 1], [.aload 1, .ifnonnull 5, .goto_w 4]) := rfl
set_option maxRecDepth 20000 in
theorem k216_4 : xM216.2.2.2.2.2[4]? = some ([], [.iconst 0, .ireturn]) := rfl
set_option maxRecDepth 20000 in
theorem k216_5 : xM216.2.2.2.2.2[5]? = some ([0, 1], [.aload 0, .arraylength, .istore 2, .aload 1, .arraylength, .iload 2, .if_icmp .eq 7, .goto_w 6]) := rfl
set_option maxRecDepth 20000 in
theorem k216_6 : xM216.2.2.2.2.2[6]? = some ([], [.iconst 0, .ireturn]) := rfl
set_option maxRecDepth 20000 in
theorem k216_7 : xM216.2.2.2.2.2[7]? = some ([0, 1, 2], [.aload 0, .aload 1, .iload 2, .invokestatic 217, .ifCond .ge 9, .goto_w 8]) := rfl
set_option maxRecDepth 20000 in
theorem k216_8 : xM216.2.2.2.2.2[8]? = some ([], [.iconst 1, .goto 10]) := rfl
set_option maxRecDepth 20000 in
theorem k216_9 : xM216.2.2.2.2.2[9]? = some ([], [.iconst 0, .goto_w 10]) := rfl
set_option maxRecDepth 20000 in
theorem k216_10 : xM216.2.2.2.2.2[10]? = some ([], [.ireturn]) := rfl
theorem km217 : xmt 217 = some (3, 4, 99, 1, [], xM217.2.2.2.2.2) := xmt_at (q := 10) (r := 17) rfl rfl
set_option maxRecDepth 20000 in
theorem k217_0 : xM217.2.2.2.2.2[0]? = some ([0, 1, 2], [.iconst 0, .istore 3, .iload 2, .iconst 1, .if_icmp .le 6, .goto_w 1]) := rfl
set_option maxRecDepth 20000 in
theorem k217_1 : xM217.2.2.2.2.2[1]? = some ([0, 1, 2], [.aload 0, .iconst 0, .iaload, .aload 1, .iconst 0, .iaload, .if_icmp .eq 3, .goto_w 2]) := rfl
set_option maxRecDepth 20000 in
theorem k217_2 : xM217.2.2.2.2.2[2]? = some ([], [.iconst 0, .ireturn]) := rfl
set_option maxRecDepth 20000 in
theorem k217_3 : xM217.2.2.2.2.2[3]? = some ([0, 1, 2], [.aload 0, .getstatic 9, .i2l, .aload 1, .getstatic 9, .i2l, .iload 2, .getstatic 10, .invokestatic 218, .istore 3, .iload 3, .ifCond .lt 5, .goto_w 4]) := rfl
set_option maxRecDepth 20000 in
theorem k217_4 : xM217.2.2.2.2.2[4]? = some ([3], [.iload 3, .ireturn]) := rfl
set_option maxRecDepth 20000 in
theorem k217_5 : xM217.2.2.2.2.2[5]? = some ([0, 1, 2, 3], [.iload 2, .iload 3, .iconst (-1), .ixor, .isub, .istore 3, .goto_w 6]) := rfl
set_option maxRecDepth 20000 in
theorem k217_6 : xM217.2.2.2.2.2[6]? = some ([0, 1, 2, 3], [.iload 3, .iload 2, .if_icmp .ge 10, .goto_w 7]) := rfl
set_option maxRecDepth 20000 in
theorem k217_7 : xM217.2.2.2.2.2[7]? = some ([0, 1, 2, 3], [.aload 0, .iload 3, .iaload, .aload 1, .iload 3, .iaload, .if_icmp .eq 9, .goto_w 8]) := rfl
set_option maxRecDepth 20000 in
theorem k217_8 : xM217.2.2.2.2.2[8]? = some ([3], [.iload 3, .ireturn]) := rfl
set_option maxRecDepth 20000 in
theorem k217_9 : xM217.2.2.2.2.2[9]? = some ([0, 1, 2, 3], [.iinc 3 1, .goto 6]) := rfl
set_option maxRecDepth 20000 in
theorem k217_10 : xM217.2.2.2.2.2[10]? = some ([], [.iconst (-1), .ireturn]) := rfl
theorem km218 : xmt 218 = some (6, 19, 99, 1, [], xM218.2.2.2.2.2) := xmt_at (q := 10) (r := 18) rfl rfl
set_option maxRecDepth 20000 in
theorem k218_0 : xM218.2.2.2.2.2[0]? = some ([0, 1, 3, 4, 6, 7], [.getstatic 11, .iload 7, .isub, .istore 8, .iconst 0, .istore 9, .goto_w 1]) := rfl
set_option maxRecDepth 20000 in
theorem k218_1 : xM218.2.2.2.2.2[1]? = some ([0, 1, 3, 4, 6, 7, 8, 9], [.iload 9, .iload 6, .iload 8, .ishr, .if_icmp .ge 5, .goto_w 2]) := rfl
set_option maxRecDepth 20000 in
theorem k218_2 : xM218.2.2.2.2.2[2]? = some ([0, 1, 3, 4, 6, 7, 8, 9], [.iload 9, .i2l, .getstatic 11, .lshl, .lstore 10, .getstatic 8, .aload 0, .lload 1, .lload 10, .ladd, .invokevirtual 219, .lstore 12, .getstatic 8, .aload 3, .lload 4, .lload 10, .ladd, .invokevirtual 219, .lstore 14, .lload 12, .lload 14, .lcmp, .ifCond .eq 4, .goto_w 3]) := rfl
set_option maxRecDepth 20000 in
theorem k218_3 : xM218.2.2.2.2.2[3]? = some ([12, 14], [.lload 12, .lload 14, .lxor, .lstore 16]) := rfl
set_option maxRecDepth 20000 in
theorem k218_4 : xM218.2.2.2.2.2[4]? = some ([0, 1, 3, 4, 6, 7, 8, 9], [.iinc 9 1, .goto 1]) := rfl
set_option maxRecDepth 20000 in
theorem k218_5 : xM218.2.2.2.2.2[5]? = some ([0, 1, 6, 7, 8, 9], [.iload 6, .iload 9, .iload 8, .ishl, .isub, .istore 10, .iload 7, .getstatic 10, .if_icmp .ge 9, .goto_w 6]) := rfl
set_option maxRecDepth 20000 in
theorem k218_6 : xM218.2.2.2.2.2[6]? = some ([0, 1, 7, 9, 10], [.iconst 1, .getstatic 10, .iload 7, .isub, .ishl, .istore 11, .iload 10, .iload 11, .if_icmp .lt 8, .goto_w 7]) := rfl
set_option maxRecDepth 20000 in
theorem k218_7 : xM218.2.2.2.2.2[7]? = some ([0, 1, 9], [.iload 9, .i2l, .getstatic 11, .lshl, .lstore 12, .getstatic 8, .aload 0, .lload 1, .lload 12, .ladd]) := rfl
set_option maxRecDepth 20000 in
theorem k218_8 : xM218.2.2.2.2.2[8]? = some ([10], [.iload 10, .iconst (-1), .ixor, .ireturn]) := rfl
set_option maxRecDepth 20000 in
theorem k218_9 : xM218.2.2.2.2.2[9]? = some ([10], [.iload 10, .iconst (-1), .ixor, .ireturn]) := rfl
theorem km219 : xmt 219 = some (3, 4, 31, 5, [], xM219.2.2.2.2.2) := xmt_at (q := 10) (r := 19) rfl rfl
set_option maxRecDepth 20000 in
theorem k219_0 : xM219.2.2.2.2.2[0]? = some ([0, 1, 2], [.lload 2, .jsr 7, .land, .lconst 0, .lcmp, .ifCond .ne 2, .goto_w 1]) := rfl
set_option maxRecDepth 20000 in
theorem k219_1 : xM219.2.2.2.2.2[1]? = some ([0, 1, 2], [.aload 0, .aload 1, .lload 2, .ldiv, .lreturn]) := rfl
set_option maxRecDepth 20000 in
theorem k219_2 : xM219.2.2.2.2.2[2]? = some ([0, 1, 2], [.lload 2, .jsr 3, .land, .lconst 0, .lcmp, .ifCond .ne 4, .goto_w 3]) := rfl
set_option maxRecDepth 20000 in
theorem k219_3 : xM219.2.2.2.2.2[3]? = some ([0, 1, 2], [.aload 0, .aload 1, .lload 2]) := rfl
set_option maxRecDepth 20000 in
theorem k219_4 : xM219.2.2.2.2.2[4]? = some ([0, 1, 2], [.lload 2, .lconst 1, .land, .lconst 0, .lcmp, .ifCond .ne 6, .goto_w 5]) := rfl
set_option maxRecDepth 20000 in
theorem k219_5 : xM219.2.2.2.2.2[5]? = some ([0, 1, 2], [.aload 0, .aload 1, .lload 2]) := rfl
set_option maxRecDepth 20000 in
theorem k219_6 : xM219.2.2.2.2.2[6]? = some ([0, 1, 2], [.aload 0, .aload 1, .lload 2]) := rfl
theorem km220 : xmt 220 = some (2, 2, 12, 8, [], xM220.2.2.2.2.2) := xmt_at (q := 11) (r := 0) rfl rfl
set_option maxRecDepth 20000 in
theorem k220_0 : xM220.2.2.2.2.2[0]? = some ([0, 1], [.aload 0, .aload 1, .invokevirtual 193, .areturn]) := rfl
theorem km221 : xmt 221 = some (1, 1, 12, 1, [], xM221.2.2.2.2.2) := xmt_at (q := 11) (r := 1) rfl rfl
set_option maxRecDepth 20000 in
theorem k221_0 : xM221.2.2.2.2.2[0]? = some ([0], [.aload 0, .invokespecial 203, .ireturn]) := rfl
set_option maxRecDepth 20000 in
theorem k392_2 : xM392.2.2.2.2.2[2]? = some ([0, 1], [.aload 0, .getfield 960, .iload 1]) := rfl
set_option maxRecDepth 20000 in
theorem k393_2 : xM393.2.2.2.2.2[2]? = some ([], [.iconst 1, .goto_w 3]) := rfl
set_option maxRecDepth 20000 in
theorem k394_3 : xM394.2.2.2.2.2[3]? = some ([], [.iconst 0, .goto_w 4]) := rfl
