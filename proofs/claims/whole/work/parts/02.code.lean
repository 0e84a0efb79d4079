-- kinds: 0 SC, 1 SHEET, 2 LINES, 3 WISHES, 4 IMGS, 5 PLNS, 6 PLAN, 7 PARTS, 8 QUEUE, 9 POPEN, 10 PARTAT, 11 NUMB, 12 FIRST, 13 SIZE, 14 DEPTH, 15 BRID, 16 RUN, 17 BRIDGE, 18 BRAT, 19 BOPEN, 20 GROUP, 21 KNIFE, 22 LOOPAT, 23 EDGESOF, 24 ISCUT, 25 WAY, 26 PIC, 27 TALLY, 28 STEPS, 29 ORDERS, 30 ONE, 31 OTHER, 32 SCRIPT, 33 MODEL, 34 Mstate, 35 Mimages, 36 MisKept, 37 Mmark, 38 MislandOf, 39 MholeOf, 40 MrunX, 41 MrunY, 42 MrunLong, 43 MrunDown, 44 MrunFrom, 45 MrunTo, 46 Mtie, 47 MbridgeRun, 48 MbridgeOf, 49 Mdeep, 50 MstillCut, 51 MloopOf, 52 MfirstCorner, 53 MisDone, 54 McutLoop, 55 McutAt
def shpL : List Shp := [.inr (.inl (6, [(3, 1), (6, 1), (7, 1), (28, 1), (0, 0)])), .inr (.inl (5, [(0, 0), (0, 0), (4, 0), (5, 0)])), .inl (0, 40), .inl (0, 100), .inr (.inr (.inl (2, 1, 1, 2))), .inr (.inr (.inl (4, 6, 0, 3))), .inr (.inl (4, [(9, 0), (17, 0), (23, 0), (1, 0), (1, 0)])), .inr (.inl (2, [(10, 1), (11, 0), (12, 0), (13, 0), (14, 0), (15, 0), (16, 0), (0, 0), (0, 0), (0, 0)])), .inl (0, 144), .inl (1, 144), .inl (0, 144), .inl (0, 101), .inl (0, 101), .inl (0, 101), .inl (0, 101), .inr (.inl (0, [(9, 0), (18, 0), (19, 0), (20, 0), (21, 0), (22, 0), (0, 0), (0, 0), (0, 0), (0, 0)])), .inl (0, 100), .inl (0, 100), .inl (0, 144), .inl (1, 144), .inl (0, 101), .inr (.inl (1, [(17, 0), (10, 1), (24, 0), (25, 0), (26, 0), (27, 0), (0, 0), (0, 0), (0, 0)])), .inl (0, 144), .inl (0, 36), .inl (1, 36), .inl (0, 36), .inr (.inl (3, [(29, 1), (0, 0), (0, 0), (0, 0), (0, 0), (1, 0)])), .inl (0, 80), .inr (.inr (.inr (.inl [(-12), (-1), 1, 12]))), .inr (.inr (.inr (.inl [123, 132, 213, 231, 312, 321, 1023, 1032, 1203, 1230, 1302, 1320, 2013, 2031, 2103, 2130, 2301, 2310, 3012, 3021, 3102, 3120, 3201, 3210]))), .inr (.inr (.inr (.inl [(-13), (-13), (-12), (-1)]))), .inr (.inr (.inr (.inl [(-12), (-1), 0, 0]))), .inr (.inr (.inr (.inr ()))), .inr (.inl (7, [(36, 1), (37, 1), (38, 1), (39, 1), (40, 1), (41, 1), (0, 0), (0, 0), (42, 1), (43, 1), (44, 1), (45, 1), (46, 1), (47, 1), (0, 0), (48, 1), (49, 1), (50, 1), (0, 0), (51, 1), (52, 1), (53, 1), (0, 0), (54, 1), (55, 1), (56, 1), (57, 1), (0, 0), (0, 0), (0, 0)])), .inl (0, 502), .inl (0, 1004), .inl (1, 2), .inl (0, 100), .inl (0, 100), .inl (0, 100), .inl (0, 100), .inl (0, 100), .inl (0, 100), .inl (0, 100), .inl (0, 100), .inl (0, 100), .inl (0, 101), .inl (0, 100), .inl (0, 100), .inl (0, 100), .inl (1, 400), .inl (0, 121), .inl (0, 121), .inl (1, 121), .inl (0, 121), .inl (0, 121)]
def shp (q : Nat) : Shp := (shpL[q]?).getD (.inr (.inr (.inr (.inr ()))))
def cntL : List Nat := [1, 3, 3, 3, 1, 1, 4, 4, 1, 4, 4, 4, 4, 4, 4, 4, 4, 4, 4, 4, 4, 4, 4, 4, 4, 4, 1, 1, 1, 1, 1, 1, 1, 1, 1, 1, 1, 1, 1, 1, 1, 1, 1, 1, 1, 1, 1, 1, 1, 1, 1, 1, 1, 1, 1, 1]
def cnt (q : Nat) : Nat := (cntL[q]?).getD 0
/-- StencilCuts.isWithin(III)Z: method 0, 3 locals -/
def cS_isWithin : List Ent := [(0, .iload_n 0, 1, []), (1, .iload_n 1, 1, []), (2, .if_icmp .lt 12, 3, []), (5, .iload_n 0, 1, []), (6, .iload_n 2, 1, []), (7, .if_icmp .gt 7, 3, []), (10, .iconst 1, 1, []), (11, .goto 4, 3, []),
  (14, .iconst 0, 1, []), (15, .ireturn, 1, [1])]
/-- java/util/Arrays.fill([II)V: method 1, 4 locals -/
def cJ_fill : List Ent := [(0, .iconst 0, 1, []), (1, .istore_n 2, 1, []), (2, .aload_n 0, 1, []), (3, .arraylength, 1, []), (4, .istore_n 3, 1, []), (5, .iload_n 2, 1, []), (6, .iload_n 3, 1, []), (7, .if_icmp .ge 13, 3, []),
  (10, .aload_n 0, 1, []), (11, .iload_n 2, 1, []), (12, .iload_n 1, 1, []), (13, .iastore, 1, []), (14, .iinc 2 1, 3, []), (17, .goto (-12), 3, []), (20, .return_, 1, [])]
/-- StencilCuts$Sheet.reset(II)V: method 2, 3 locals -/
def cH_reset : List Ent := [(0, .aload_n 0, 1, []), (1, .iload_n 1, 1, []), (2, .putfield 9, 3, [0, 5]), (5, .aload_n 0, 1, []), (6, .iload_n 2, 1, []), (7, .putfield 15, 3, [1, 5]), (10, .aload_n 0, 1, []), (11, .getfield 18, 3, [2, 5]),
  (14, .iconst 0, 1, []), (15, .invokestatic 25, 3, [1, 2, 4, 0]), (18, .aload_n 0, 1, []), (19, .getfield 22, 3, [3, 5]), (22, .iconst 0, 1, []), (23, .invokestatic 25, 3, [1, 2, 4, 0]), (26, .return_, 1, [])]
/-- StencilCuts$Plan.forget()V: method 3, 1 locals -/
def cL_forget : List Ent := [(0, .aload_n 0, 1, []), (1, .iconst 0, 1, []), (2, .putfield 36, 3, [3, 4]), (5, .aload_n 0, 1, []), (6, .iconst 0, 1, []), (7, .putfield 40, 3, [4, 4]), (10, .return_, 1, [])]
/-- StencilCuts.forgetLayer(I)V: method 4, 2 locals -/
def cS_forgetLayer : List Ent := [(0, .aload_n 0, 1, []), (1, .getfield 22, 3, [2, 6]), (4, .iload_n 1, 1, []), (5, .aaload, 1, []), (6, .invokevirtual 252, 3, [3, 1, 1, 0, 4]), (9, .aload_n 0, 1, []), (10, .getfield 32, 3, [3, 6]), (13, .iconst 0, 1, []),
  (14, .putfield 85, 3, [5, 3]), (17, .return_, 1, [])]
/-- StencilCuts.forgetAll()V: method 5, 2 locals -/
def cS_forgetAll : List Ent := [(0, .iconst 0, 1, []), (1, .istore_n 1, 1, []), (2, .iload_n 1, 1, []), (3, .iconst 4, 1, []), (4, .if_icmp .ge 14, 3, []), (7, .aload_n 0, 1, []), (8, .iload_n 1, 1, []), (9, .invokevirtual 63, 3, [4, 2, 2, 0, 6]),
  (12, .iinc 1 1, 3, []), (15, .goto (-13), 3, []), (18, .return_, 1, [])]
/-- StencilCuts.sheet(II)I: method 6, 3 locals -/
def cS_sheet : List Ent := [(0, .iload_n 1, 1, []), (1, .iconst 3, 1, []), (2, .bipush 10, 2, []), (4, .invokestatic 40, 3, [0, 3, 3, 1]), (7, .ifCond .eq 13, 3, []), (10, .iload_n 2, 1, []), (11, .iconst 3, 1, []), (12, .bipush 10, 2, []),
  (14, .invokestatic 40, 3, [0, 3, 3, 1]), (17, .ifCond .ne 6, 3, []), (20, .bipush (-2), 2, []), (22, .ireturn, 1, [0]), (23, .aload_n 0, 1, []), (24, .getfield 12, 3, [0, 6]), (27, .iload_n 1, 1, []), (28, .iload_n 2, 1, []),
  (29, .invokevirtual 44, 3, [2, 3, 3, 0, 5]), (32, .aload_n 0, 1, []), (33, .invokevirtual 48, 3, [5, 1, 2, 0, 6]), (36, .iload_n 1, 1, []), (37, .iload_n 2, 1, []), (38, .imul, 1, []), (39, .ireturn, 1, [0])]
/-- StencilCuts.isLayer(I)Z: method 7, 1 locals -/
def cS_isLayer : List Ent := [(0, .iload_n 0, 1, []), (1, .iconst 0, 1, []), (2, .iconst 3, 1, []), (3, .invokestatic 40, 3, [0, 3, 3, 1]), (6, .ireturn, 1, [1])]
/-- StencilCuts$Sheet.hasCell(II)Z: method 8, 3 locals -/
def cH_hasCell : List Ent := [(0, .iload_n 1, 1, []), (1, .iconst 0, 1, []), (2, .aload_n 0, 1, []), (3, .getfield 9, 3, [0, 5]), (6, .iconst 1, 1, []), (7, .isub, 1, []), (8, .invokestatic 37, 3, [0, 3, 3, 1]), (11, .ifCond .eq 21, 3, []),
  (14, .iload_n 2, 1, []), (15, .iconst 0, 1, []), (16, .aload_n 0, 1, []), (17, .getfield 15, 3, [1, 5]), (20, .iconst 1, 1, []), (21, .isub, 1, []), (22, .invokestatic 37, 3, [0, 3, 3, 1]), (25, .ifCond .eq 7, 3, []),
  (28, .iconst 1, 1, []), (29, .goto 4, 3, []), (32, .iconst 0, 1, []), (33, .ireturn, 1, [1])]
/-- StencilCuts$Sheet.setOpen(IIIZ)V: method 9, 6 locals -/
def cH_setOpen : List Ent := [(0, .iload_n 1, 1, []), (1, .bipush 10, 2, []), (3, .imul, 1, []), (4, .iload_n 3, 1, []), (5, .iadd, 1, []), (6, .istore 5, 2, []), (8, .iload 4, 2, []), (10, .ifCond .eq 19, 3, []),
  (13, .aload_n 0, 1, []), (14, .getfield 18, 3, [2, 5]), (17, .iload 5, 2, []), (19, .dup2, 1, []), (20, .iaload, 1, []), (21, .iconst 1, 1, []), (22, .iload_n 2, 1, []), (23, .ishl, 1, []),
  (24, .ior, 1, []), (25, .iastore, 1, []), (26, .goto 18, 3, []), (29, .aload_n 0, 1, []), (30, .getfield 18, 3, [2, 5]), (33, .iload 5, 2, []), (35, .dup2, 1, []), (36, .iaload, 1, []),
  (37, .iconst 1, 1, []), (38, .iload_n 2, 1, []), (39, .ishl, 1, []), (40, .iconst (-1), 1, []), (41, .ixor, 1, []), (42, .iand, 1, []), (43, .iastore, 1, []), (44, .return_, 1, [])]
/-- java/lang/Integer.bitCount(I)I: method 10, 1 locals -/
def cJ_bitCount : List Ent := [(0, .iload_n 0, 1, []), (1, .iload_n 0, 1, []), (2, .iconst 1, 1, []), (3, .iushr, 1, []), (4, .ldc_w 265, 3, [1431655765]), (7, .iand, 1, []), (8, .isub, 1, []), (9, .istore_n 0, 1, []),
  (10, .iload_n 0, 1, []), (11, .ldc_w 266, 3, [858993459]), (14, .iand, 1, []), (15, .iload_n 0, 1, []), (16, .iconst 2, 1, []), (17, .iushr, 1, []), (18, .ldc_w 266, 3, [858993459]), (21, .iand, 1, []),
  (22, .iadd, 1, []), (23, .istore_n 0, 1, []), (24, .iload_n 0, 1, []), (25, .iload_n 0, 1, []), (26, .iconst 4, 1, []), (27, .iushr, 1, []), (28, .iadd, 1, []), (29, .ldc_w 267, 3, [252645135]),
  (32, .iand, 1, []), (33, .istore_n 0, 1, []), (34, .iload_n 0, 1, []), (35, .iload_n 0, 1, []), (36, .bipush 8, 2, []), (38, .iushr, 1, []), (39, .iadd, 1, []), (40, .istore_n 0, 1, []),
  (41, .iload_n 0, 1, []), (42, .iload_n 0, 1, []), (43, .bipush 16, 2, []), (45, .iushr, 1, []), (46, .iadd, 1, []), (47, .istore_n 0, 1, []), (48, .iload_n 0, 1, []), (49, .bipush 63, 2, []),
  (51, .iand, 1, []), (52, .ireturn, 1, [0])]
/-- StencilCuts$Sheet.openCells(I)I: method 11, 4 locals -/
def cH_openCells : List Ent := [(0, .iconst 0, 1, []), (1, .istore_n 2, 1, []), (2, .iconst 0, 1, []), (3, .istore_n 3, 1, []), (4, .iload_n 3, 1, []), (5, .aload_n 0, 1, []), (6, .getfield 15, 3, [1, 5]), (9, .if_icmp .ge 26, 3, []),
  (12, .iload_n 2, 1, []), (13, .aload_n 0, 1, []), (14, .getfield 18, 3, [2, 5]), (17, .iload_n 1, 1, []), (18, .bipush 10, 2, []), (20, .imul, 1, []), (21, .iload_n 3, 1, []), (22, .iadd, 1, []),
  (23, .iaload, 1, []), (24, .invokestatic 41, 3, [10, 1, 1, 1]), (27, .iadd, 1, []), (28, .istore_n 2, 1, []), (29, .iinc 3 1, 3, []), (32, .goto (-28), 3, []), (35, .iload_n 2, 1, []), (36, .ireturn, 1, [0])]
/-- StencilCuts.cut(IIII)I: method 12, 5 locals -/
def cS_cut : List Ent := [(0, .iload_n 1, 1, []), (1, .invokestatic 51, 3, [7, 1, 1, 1]), (4, .ifCond .ne 5, 3, []), (7, .iconst (-1), 1, []), (8, .ireturn, 1, [0]), (9, .aload_n 0, 1, []), (10, .getfield 12, 3, [0, 6]), (13, .iload_n 2, 1, []),
  (14, .iload_n 3, 1, []), (15, .invokevirtual 55, 3, [8, 3, 3, 1, 5]), (18, .ifCond .eq 13, 3, []), (21, .iload 4, 2, []), (23, .iconst 0, 1, []), (24, .iconst 1, 1, []), (25, .invokestatic 40, 3, [0, 3, 3, 1]), (28, .ifCond .ne 6, 3, []),
  (31, .bipush (-2), 2, []), (33, .ireturn, 1, [0]), (34, .aload_n 0, 1, []), (35, .getfield 12, 3, [0, 6]), (38, .iload_n 1, 1, []), (39, .iload_n 2, 1, []), (40, .iload_n 3, 1, []), (41, .iload 4, 2, []),
  (43, .iconst 1, 1, []), (44, .if_icmp .ne 7, 3, []), (47, .iconst 1, 1, []), (48, .goto 4, 3, []), (51, .iconst 0, 1, []), (52, .invokevirtual 59, 3, [9, 5, 6, 0, 5]), (55, .aload_n 0, 1, []), (56, .iload_n 1, 1, []),
  (57, .invokevirtual 63, 3, [4, 2, 2, 0, 6]), (60, .aload_n 0, 1, []), (61, .getfield 12, 3, [0, 6]), (64, .iload_n 1, 1, []), (65, .invokevirtual 67, 3, [11, 2, 4, 1, 5]), (68, .ireturn, 1, [0])]
/-- StencilCuts$Sheet.setLine(III)V: method 13, 4 locals -/
def cH_setLine : List Ent := [(0, .aload_n 0, 1, []), (1, .getfield 18, 3, [2, 5]), (4, .iload_n 1, 1, []), (5, .bipush 10, 2, []), (7, .imul, 1, []), (8, .iload_n 2, 1, []), (9, .iadd, 1, []), (10, .iload_n 3, 1, []),
  (11, .iconst 1, 1, []), (12, .aload_n 0, 1, []), (13, .getfield 9, 3, [0, 5]), (16, .ishl, 1, []), (17, .iconst 1, 1, []), (18, .isub, 1, []), (19, .iand, 1, []), (20, .iastore, 1, []),
  (21, .return_, 1, [])]
/-- StencilCuts.row(III)I: method 14, 4 locals -/
def cS_row : List Ent := [(0, .iload_n 1, 1, []), (1, .invokestatic 51, 3, [7, 1, 1, 1]), (4, .ifCond .ne 5, 3, []), (7, .iconst (-1), 1, []), (8, .ireturn, 1, [0]), (9, .iload_n 2, 1, []), (10, .iconst 0, 1, []), (11, .aload_n 0, 1, []),
  (12, .getfield 12, 3, [0, 6]), (15, .getfield 71, 3, [1, 5]), (18, .iconst 1, 1, []), (19, .isub, 1, []), (20, .invokestatic 40, 3, [0, 3, 3, 1]), (23, .ifCond .eq 14, 3, []), (26, .iload_n 3, 1, []), (27, .iconst 0, 1, []),
  (28, .sipush 1023, 3, []), (31, .invokestatic 40, 3, [0, 3, 3, 1]), (34, .ifCond .ne 6, 3, []), (37, .bipush (-2), 2, []), (39, .ireturn, 1, [0]), (40, .aload_n 0, 1, []), (41, .getfield 12, 3, [0, 6]), (44, .iload_n 1, 1, []),
  (45, .iload_n 2, 1, []), (46, .iload_n 3, 1, []), (47, .invokevirtual 74, 3, [13, 4, 4, 0, 5]), (50, .aload_n 0, 1, []), (51, .iload_n 1, 1, []), (52, .invokevirtual 63, 3, [4, 2, 2, 0, 6]), (55, .aload_n 0, 1, []), (56, .getfield 12, 3, [0, 6]),
  (59, .iload_n 1, 1, []), (60, .invokevirtual 67, 3, [11, 2, 4, 1, 5]), (63, .ireturn, 1, [0])]
/-- StencilCuts$Sheet.wishAt(II)I: method 15, 3 locals -/
def cH_wishAt : List Ent := [(0, .aload_n 0, 1, []), (1, .getfield 22, 3, [3, 5]), (4, .iload_n 2, 1, []), (5, .bipush 10, 2, []), (7, .imul, 1, []), (8, .iload_n 1, 1, []), (9, .iadd, 1, []), (10, .iaload, 1, []),
  (11, .ireturn, 1, [0])]
/-- StencilCuts$Sheet.setWish(III)V: method 16, 4 locals -/
def cH_setWish : List Ent := [(0, .aload_n 0, 1, []), (1, .getfield 22, 3, [3, 5]), (4, .iload_n 2, 1, []), (5, .bipush 10, 2, []), (7, .imul, 1, []), (8, .iload_n 1, 1, []), (9, .iadd, 1, []), (10, .iload_n 3, 1, []),
  (11, .iastore, 1, []), (12, .return_, 1, [])]
/-- StencilCuts.wish(III)I: method 17, 5 locals -/
def cS_wish : List Ent := [(0, .aload_n 0, 1, []), (1, .getfield 12, 3, [0, 6]), (4, .iload_n 1, 1, []), (5, .iload_n 2, 1, []), (6, .invokevirtual 55, 3, [8, 3, 3, 1, 5]), (9, .ifCond .eq 12, 3, []), (12, .iload_n 3, 1, []), (13, .iconst 0, 1, []),
  (14, .iconst 4, 1, []), (15, .invokestatic 40, 3, [0, 3, 3, 1]), (18, .ifCond .ne 6, 3, []), (21, .bipush (-2), 2, []), (23, .ireturn, 1, [0]), (24, .aload_n 0, 1, []), (25, .getfield 12, 3, [0, 6]), (28, .iload_n 1, 1, []),
  (29, .iload_n 2, 1, []), (30, .invokevirtual 78, 3, [15, 3, 3, 1, 5]), (33, .istore 4, 2, []), (35, .aload_n 0, 1, []), (36, .getfield 12, 3, [0, 6]), (39, .iload_n 1, 1, []), (40, .iload_n 2, 1, []), (41, .iload_n 3, 1, []),
  (42, .invokevirtual 82, 3, [16, 4, 4, 0, 5]), (45, .aload_n 0, 1, []), (46, .getfield 32, 3, [3, 6]), (49, .iconst 0, 1, []), (50, .putfield 85, 3, [5, 3]), (53, .iload 4, 2, []), (55, .ireturn, 1, [0])]
/-- StencilCuts$Sheet.isOpen(III)Z: method 18, 4 locals -/
def cH_isOpen : List Ent := [(0, .aload_n 0, 1, []), (1, .getfield 18, 3, [2, 5]), (4, .iload_n 1, 1, []), (5, .bipush 10, 2, []), (7, .imul, 1, []), (8, .iload_n 3, 1, []), (9, .iadd, 1, []), (10, .iaload, 1, []),
  (11, .iload_n 2, 1, []), (12, .ishr, 1, []), (13, .iconst 1, 1, []), (14, .iand, 1, []), (15, .ifCond .eq 7, 3, []), (18, .iconst 1, 1, []), (19, .goto 4, 3, []), (22, .iconst 0, 1, []),
  (23, .ireturn, 1, [1])]
/-- StencilCuts.xOf(I)I: method 19, 1 locals -/
def cS_xOf : List Ent := [(0, .iload_n 0, 1, []), (1, .bipush 12, 2, []), (3, .irem, 1, []), (4, .iconst 1, 1, []), (5, .isub, 1, []), (6, .ireturn, 1, [0])]
/-- StencilCuts.yOf(I)I: method 20, 1 locals -/
def cS_yOf : List Ent := [(0, .iload_n 0, 1, []), (1, .bipush 12, 2, []), (3, .idiv, 1, []), (4, .iconst 1, 1, []), (5, .isub, 1, []), (6, .ireturn, 1, [0])]
/-- StencilCuts$Parts.lay(LStencilCuts$Sheet;I)V: method 21, 6 locals -/
def cP_lay : List Ent := [(0, .iconst 0, 1, []), (1, .istore_n 3, 1, []), (2, .iload_n 3, 1, []), (3, .sipush 144, 3, []), (6, .if_icmp .ge 55, 3, []), (9, .iload_n 3, 1, []), (10, .invokestatic 58, 3, [19, 1, 1, 1]), (13, .istore 4, 2, []),
  (15, .iload_n 3, 1, []), (16, .invokestatic 62, 3, [20, 1, 1, 1]), (19, .istore 5, 2, []), (21, .aload_n 0, 1, []), (22, .getfield 15, 3, [1, 2]), (25, .iload_n 3, 1, []), (26, .aload_n 1, 1, []), (27, .iload 4, 2, []),
  (29, .iload 5, 2, []), (31, .invokevirtual 65, 3, [8, 3, 3, 1, 5]), (34, .ifCond .eq 19, 3, []), (37, .aload_n 1, 1, []), (38, .iload_n 2, 1, []), (39, .iload 4, 2, []), (41, .iload 5, 2, []), (43, .invokevirtual 71, 3, [18, 4, 4, 1, 5]),
  (46, .ifCond .eq 7, 3, []), (49, .iconst 1, 1, []), (50, .goto 4, 3, []), (53, .iconst 0, 1, []), (54, .bastore, 1, []), (55, .iinc 3 1, 3, []), (58, .goto (-56), 3, []), (61, .return_, 1, [])]
/-- StencilCuts.isPlace(I)Z: method 22, 1 locals -/
def cS_isPlace : List Ent := [(0, .iload_n 0, 1, []), (1, .ifCond .lt 14, 3, []), (4, .iload_n 0, 1, []), (5, .sipush 144, 3, []), (8, .if_icmp .ge 7, 3, []), (11, .iconst 1, 1, []), (12, .goto 4, 3, []), (15, .iconst 0, 1, []),
  (16, .ireturn, 1, [1])]
/-- StencilCuts$Parts.spread(II)I: method 23, 10 locals -/
def cP_spread : List Ent := [(0, .aload_n 0, 1, []), (1, .getfield 19, 3, [2, 2]), (4, .iload_n 1, 1, []), (5, .iload_n 2, 1, []), (6, .iastore, 1, []), (7, .aload_n 0, 1, []), (8, .getfield 9, 3, [0, 2]), (11, .iconst 0, 1, []),
  (12, .iload_n 1, 1, []), (13, .iastore, 1, []), (14, .iconst 1, 1, []), (15, .istore_n 3, 1, []), (16, .iconst 0, 1, []), (17, .istore 4, 2, []), (19, .iload 4, 2, []), (21, .iload_n 3, 1, []),
  (22, .if_icmp .ge 124, 3, []), (25, .iload 4, 2, []), (27, .sipush 144, 3, []), (30, .if_icmp .ge 116, 3, []), (33, .getstatic 79, 3, [28]), (36, .astore 5, 2, []), (38, .aload 5, 2, []), (40, .arraylength, 1, []),
  (41, .istore 6, 2, []), (43, .iconst 0, 1, []), (44, .istore 7, 2, []), (46, .iload 7, 2, []), (48, .iload 6, 2, []), (50, .if_icmp .ge 90, 3, []), (53, .aload 5, 2, []), (55, .iload 7, 2, []),
  (57, .iaload, 1, []), (58, .istore 8, 2, []), (60, .aload_n 0, 1, []), (61, .getfield 9, 3, [0, 2]), (64, .iload 4, 2, []), (66, .iaload, 1, []), (67, .iload 8, 2, []), (69, .iadd, 1, []),
  (70, .istore 9, 2, []), (72, .iload 9, 2, []), (74, .invokestatic 82, 3, [22, 1, 1, 1]), (77, .ifCond .eq 57, 3, []), (80, .aload_n 0, 1, []), (81, .getfield 19, 3, [2, 2]), (84, .iload 9, 2, []), (86, .iaload, 1, []),
  (87, .bipush (-6), 2, []), (89, .if_icmp .ne 45, 3, []), (92, .aload_n 0, 1, []), (93, .getfield 15, 3, [1, 2]), (96, .iload 9, 2, []), (98, .baload, 1, []), (99, .aload_n 0, 1, []), (100, .getfield 15, 3, [1, 2]),
  (103, .iload_n 1, 1, []), (104, .baload, 1, []), (105, .if_icmp .ne 29, 3, []), (108, .iload_n 3, 1, []), (109, .sipush 144, 3, []), (112, .if_icmp .ge 22, 3, []), (115, .aload_n 0, 1, []), (116, .getfield 19, 3, [2, 2]),
  (119, .iload 9, 2, []), (121, .iload_n 2, 1, []), (122, .iastore, 1, []), (123, .aload_n 0, 1, []), (124, .getfield 9, 3, [0, 2]), (127, .iload_n 3, 1, []), (128, .iload 9, 2, []), (130, .iastore, 1, []),
  (131, .iinc 3 1, 3, []), (134, .iinc 7 1, 3, []), (137, .goto (-91), 3, []), (140, .iinc 4 1, 3, []), (143, .goto (-124), 3, []), (146, .iload_n 3, 1, []), (147, .ireturn, 1, [0])]
/-- StencilCuts$Parts.addPart(I)V: method 24, 2 locals -/
def cP_addPart : List Ent := [(0, .aload_n 0, 1, []), (1, .getfield 44, 3, [7, 2]), (4, .ifCond .ne 17, 3, []), (7, .aload_n 0, 1, []), (8, .getfield 22, 3, [3, 2]), (11, .aload_n 0, 1, []), (12, .getfield 44, 3, [7, 2]), (15, .bipush (-6), 2, []),
  (17, .iastore, 1, []), (18, .goto 61, 3, []), (21, .aload_n 0, 1, []), (22, .getfield 15, 3, [1, 2]), (25, .iload_n 1, 1, []), (26, .baload, 1, []), (27, .ifCond .eq 29, 3, []), (30, .aload_n 0, 1, []),
  (31, .getfield 22, 3, [3, 2]), (34, .aload_n 0, 1, []), (35, .getfield 44, 3, [7, 2]), (38, .aload_n 0, 1, []), (39, .getfield 51, 3, [9, 2]), (42, .iastore, 1, []), (43, .aload_n 0, 1, []), (44, .dup, 1, []),
  (45, .getfield 51, 3, [9, 2]), (48, .iconst 1, 1, []), (49, .iadd, 1, []), (50, .putfield 51, 3, [9, 2]), (53, .goto 26, 3, []), (56, .aload_n 0, 1, []), (57, .getfield 22, 3, [3, 2]), (60, .aload_n 0, 1, []),
  (61, .getfield 44, 3, [7, 2]), (64, .aload_n 0, 1, []), (65, .getfield 48, 3, [8, 2]), (68, .iastore, 1, []), (69, .aload_n 0, 1, []), (70, .dup, 1, []), (71, .getfield 48, 3, [8, 2]), (74, .iconst 1, 1, []),
  (75, .iadd, 1, []), (76, .putfield 48, 3, [8, 2]), (79, .aload_n 0, 1, []), (80, .getfield 25, 3, [4, 2]), (83, .aload_n 0, 1, []), (84, .getfield 44, 3, [7, 2]), (87, .iload_n 1, 1, []), (88, .iastore, 1, []),
  (89, .aload_n 0, 1, []), (90, .getfield 28, 3, [5, 2]), (93, .aload_n 0, 1, []), (94, .getfield 44, 3, [7, 2]), (97, .aload_n 0, 1, []), (98, .iload_n 1, 1, []), (99, .aload_n 0, 1, []), (100, .getfield 44, 3, [7, 2]),
  (103, .invokevirtual 75, 3, [23, 3, 10, 1, 2]), (106, .iastore, 1, []), (107, .aload_n 0, 1, []), (108, .dup, 1, []), (109, .getfield 44, 3, [7, 2]), (112, .iconst 1, 1, []), (113, .iadd, 1, []), (114, .putfield 44, 3, [7, 2]),
  (117, .return_, 1, [])]
/-- StencilCuts$Parts.find(LStencilCuts$Sheet;I)V: method 25, 4 locals -/
def cP_find : List Ent := [(0, .aload_n 0, 1, []), (1, .aload_n 1, 1, []), (2, .iload_n 2, 1, []), (3, .invokevirtual 34, 3, [21, 3, 6, 0, 2]), (6, .aload_n 0, 1, []), (7, .getfield 19, 3, [2, 2]), (10, .bipush (-6), 2, []), (12, .invokestatic 38, 3, [1, 2, 4, 0]),
  (15, .aload_n 0, 1, []), (16, .iconst 0, 1, []), (17, .putfield 44, 3, [7, 2]), (20, .aload_n 0, 1, []), (21, .iconst 0, 1, []), (22, .putfield 48, 3, [8, 2]), (25, .aload_n 0, 1, []), (26, .iconst 0, 1, []),
  (27, .putfield 51, 3, [9, 2]), (30, .iconst 0, 1, []), (31, .istore_n 3, 1, []), (32, .iload_n 3, 1, []), (33, .sipush 144, 3, []), (36, .if_icmp .ge 34, 3, []), (39, .aload_n 0, 1, []), (40, .getfield 19, 3, [2, 2]),
  (43, .iload_n 3, 1, []), (44, .iaload, 1, []), (45, .bipush (-6), 2, []), (47, .if_icmp .ne 17, 3, []), (50, .aload_n 0, 1, []), (51, .getfield 44, 3, [7, 2]), (54, .bipush 101, 2, []), (56, .if_icmp .ge 8, 3, []),
  (59, .aload_n 0, 1, []), (60, .iload_n 3, 1, []), (61, .invokevirtual 54, 3, [24, 2, 2, 0, 2]), (64, .iinc 3 1, 3, []), (67, .goto (-35), 3, []), (70, .return_, 1, [])]
/-- StencilCuts$Parts.partOf(I)I: method 26, 3 locals -/
def cP_partOf : List Ent := [(0, .iload_n 1, 1, []), (1, .invokestatic 82, 3, [22, 1, 1, 1]), (4, .ifCond .eq 12, 3, []), (7, .aload_n 0, 1, []), (8, .getfield 19, 3, [2, 2]), (11, .iload_n 1, 1, []), (12, .iaload, 1, []), (13, .goto 4, 3, []),
  (16, .iconst 0, 1, []), (17, .istore_n 2, 1, []), (18, .iload_n 2, 1, []), (19, .iconst 0, 1, []), (20, .aload_n 0, 1, []), (21, .getfield 44, 3, [7, 2]), (24, .iconst 1, 1, []), (25, .isub, 1, []),
  (26, .invokestatic 92, 3, [0, 3, 3, 1]), (29, .ifCond .eq 7, 3, []), (32, .iload_n 2, 1, []), (33, .goto 4, 3, []), (36, .iconst 0, 1, []), (37, .ireturn, 1, [0])]
/-- StencilCuts$Parts.reachFrom(I)Z: method 27, 9 locals -/
def cP_reachFrom : List Ent := [(0, .iconst 0, 1, []), (1, .istore_n 2, 1, []), (2, .iconst 0, 1, []), (3, .istore_n 3, 1, []), (4, .iload_n 3, 1, []), (5, .sipush 144, 3, []), (8, .if_icmp .ge 93, 3, []), (11, .aload_n 0, 1, []),
  (12, .getfield 31, 3, [6, 2]), (15, .aload_n 0, 1, []), (16, .iload_n 3, 1, []), (17, .invokevirtual 89, 3, [26, 2, 3, 1, 2]), (20, .iaload, 1, []), (21, .iload_n 1, 1, []), (22, .if_icmp .eq 6, 3, []), (25, .goto 70, 3, []),
  (28, .getstatic 79, 3, [28]), (31, .astore 4, 2, []), (33, .aload 4, 2, []), (35, .arraylength, 1, []), (36, .istore 5, 2, []), (38, .iconst 0, 1, []), (39, .istore 6, 2, []), (41, .iload 6, 2, []),
  (43, .iload 5, 2, []), (45, .if_icmp .ge 50, 3, []), (48, .aload 4, 2, []), (50, .iload 6, 2, []), (52, .iaload, 1, []), (53, .istore 7, 2, []), (55, .aload_n 0, 1, []), (56, .iload_n 3, 1, []),
  (57, .iload 7, 2, []), (59, .iadd, 1, []), (60, .invokevirtual 89, 3, [26, 2, 3, 1, 2]), (63, .istore 8, 2, []), (65, .aload_n 0, 1, []), (66, .getfield 31, 3, [6, 2]), (69, .iload 8, 2, []), (71, .iaload, 1, []),
  (72, .bipush (-6), 2, []), (74, .if_icmp .ne 15, 3, []), (77, .aload_n 0, 1, []), (78, .getfield 31, 3, [6, 2]), (81, .iload 8, 2, []), (83, .iload_n 1, 1, []), (84, .iconst 1, 1, []), (85, .iadd, 1, []),
  (86, .iastore, 1, []), (87, .iconst 1, 1, []), (88, .istore_n 2, 1, []), (89, .iinc 6 1, 3, []), (92, .goto (-51), 3, []), (95, .iinc 3 1, 3, []), (98, .goto (-94), 3, []), (101, .iload_n 2, 1, []),
  (102, .ireturn, 1, [1])]
/-- StencilCuts$Parts.findDepths()V: method 28, 3 locals -/
def cP_findDepths : List Ent := [(0, .aload_n 0, 1, []), (1, .getfield 31, 3, [6, 2]), (4, .bipush (-6), 2, []), (6, .invokestatic 38, 3, [1, 2, 4, 0]), (9, .aload_n 0, 1, []), (10, .getfield 31, 3, [6, 2]), (13, .iconst 0, 1, []), (14, .iconst 0, 1, []),
  (15, .iastore, 1, []), (16, .iconst 1, 1, []), (17, .istore_n 1, 1, []), (18, .iconst 0, 1, []), (19, .istore_n 2, 1, []), (20, .iload_n 1, 1, []), (21, .ifCond .eq 21, 3, []), (24, .iload_n 2, 1, []),
  (25, .bipush 101, 2, []), (27, .if_icmp .ge 15, 3, []), (30, .aload_n 0, 1, []), (31, .iload_n 2, 1, []), (32, .invokevirtual 86, 3, [27, 2, 9, 1, 2]), (35, .istore_n 1, 1, []), (36, .iinc 2 1, 3, []), (39, .goto (-19), 3, []),
  (42, .return_, 1, [])]
/-- StencilCuts$Bridges.lengthFrom(II)I: method 29, 5 locals -/
def cB_lengthFrom : List Ent := [(0, .iconst 0, 1, []), (1, .istore_n 3, 1, []), (2, .iload_n 1, 1, []), (3, .istore 4, 2, []), (5, .iload 4, 2, []), (7, .sipush 144, 3, []), (10, .if_icmp .ge 28, 3, []), (13, .aload_n 0, 1, []),
  (14, .getfield 9, 3, [0, 0]), (17, .getfield 42, 3, [1, 2]), (20, .iload 4, 2, []), (22, .baload, 1, []), (23, .ifCond .eq 15, 3, []), (26, .iinc 3 1, 3, []), (29, .iload 4, 2, []), (31, .iload_n 2, 1, []),
  (32, .iadd, 1, []), (33, .istore 4, 2, []), (35, .goto (-30), 3, []), (38, .iload_n 3, 1, []), (39, .ireturn, 1, [0])]
/-- StencilCuts$Bridges.startOf(I)I: method 30, 1 locals -/
def cB_startOf : List Ent := [(0, .iload_n 0, 1, []), (1, .sipush 144, 3, []), (4, .irem, 1, []), (5, .ireturn, 1, [0])]
/-- StencilCuts$Bridges.stepOf(I)I: method 31, 1 locals -/
def cB_stepOf : List Ent := [(0, .iload_n 0, 1, []), (1, .sipush 144, 3, []), (4, .idiv, 1, []), (5, .iconst 2, 1, []), (6, .irem, 1, []), (7, .iconst 1, 1, []), (8, .if_icmp .ne 8, 3, []), (11, .bipush 12, 2, []),
  (13, .goto 4, 3, []), (16, .iconst 1, 1, []), (17, .ireturn, 1, [0])]
/-- StencilCuts$Bridges.placeBefore(I)I: method 32, 1 locals -/
def cB_placeBefore : List Ent := [(0, .iload_n 0, 1, []), (1, .invokestatic 36, 3, [30, 1, 1, 1]), (4, .iload_n 0, 1, []), (5, .invokestatic 32, 3, [31, 1, 1, 1]), (8, .isub, 1, []), (9, .ireturn, 1, [0])]
/-- StencilCuts$Bridges.lengthOf(I)I: method 33, 1 locals -/
def cB_lengthOf : List Ent := [(0, .iload_n 0, 1, []), (1, .sipush 144, 3, []), (4, .idiv, 1, []), (5, .iconst 2, 1, []), (6, .idiv, 1, []), (7, .ireturn, 1, [0])]
/-- StencilCuts$Bridges.placeAfter(I)I: method 34, 1 locals -/
def cB_placeAfter : List Ent := [(0, .iload_n 0, 1, []), (1, .invokestatic 36, 3, [30, 1, 1, 1]), (4, .iload_n 0, 1, []), (5, .invokestatic 39, 3, [33, 1, 1, 1]), (8, .iload_n 0, 1, []), (9, .invokestatic 32, 3, [31, 1, 1, 1]), (12, .imul, 1, []), (13, .iadd, 1, []),
  (14, .ireturn, 1, [0])]
/-- StencilCuts$Bridges.insertRun(I)V: method 35, 3 locals -/
def cB_insertRun : List Ent := [(0, .aload_n 0, 1, []), (1, .getfield 62, 3, [6, 0]), (4, .bipush 100, 2, []), (6, .if_icmp .lt 4, 3, []), (9, .return_, 1, []), (10, .aload_n 0, 1, []), (11, .getfield 62, 3, [6, 0]), (14, .istore_n 2, 1, []),
  (15, .iload_n 2, 1, []), (16, .ifCond .le 35, 3, []), (19, .aload_n 0, 1, []), (20, .getfield 15, 3, [1, 0]), (23, .iload_n 2, 1, []), (24, .iconst 1, 1, []), (25, .isub, 1, []), (26, .iaload, 1, []),
  (27, .iload_n 1, 1, []), (28, .if_icmp .le 23, 3, []), (31, .aload_n 0, 1, []), (32, .getfield 15, 3, [1, 0]), (35, .iload_n 2, 1, []), (36, .aload_n 0, 1, []), (37, .getfield 15, 3, [1, 0]), (40, .iload_n 2, 1, []),
  (41, .iconst 1, 1, []), (42, .isub, 1, []), (43, .iaload, 1, []), (44, .iastore, 1, []), (45, .iinc 2 (-1), 3, []), (48, .goto (-33), 3, []), (51, .aload_n 0, 1, []), (52, .getfield 15, 3, [1, 0]),
  (55, .iload_n 2, 1, []), (56, .iload_n 1, 1, []), (57, .iastore, 1, []), (58, .aload_n 0, 1, []), (59, .dup, 1, []), (60, .getfield 62, 3, [6, 0]), (63, .iconst 1, 1, []), (64, .iadd, 1, []),
  (65, .putfield 62, 3, [6, 0]), (68, .return_, 1, [])]
/-- StencilCuts$Bridges.findRuns(I)V: method 36, 6 locals -/
def cB_findRuns : List Ent := [(0, .iload_n 1, 1, []), (1, .iconst 1, 1, []), (2, .if_icmp .ne 8, 3, []), (5, .bipush 12, 2, []), (7, .goto 4, 3, []), (10, .iconst 1, 1, []), (11, .istore_n 2, 1, []), (12, .iload_n 2, 1, []),
  (13, .istore_n 3, 1, []), (14, .iload_n 3, 1, []), (15, .sipush 144, 3, []), (18, .if_icmp .ge 90, 3, []), (21, .aload_n 0, 1, []), (22, .getfield 9, 3, [0, 0]), (25, .getfield 42, 3, [1, 2]), (28, .iload_n 3, 1, []),
  (29, .baload, 1, []), (30, .ifCond .eq 72, 3, []), (33, .aload_n 0, 1, []), (34, .getfield 9, 3, [0, 0]), (37, .getfield 42, 3, [1, 2]), (40, .iload_n 3, 1, []), (41, .iload_n 2, 1, []), (42, .isub, 1, []),
  (43, .baload, 1, []), (44, .ifCond .ne 58, 3, []), (47, .aload_n 0, 1, []), (48, .iload_n 3, 1, []), (49, .iload_n 2, 1, []), (50, .invokevirtual 45, 3, [29, 3, 5, 1, 0]), (53, .istore 4, 2, []), (55, .iload 4, 2, []),
  (57, .iconst 2, 1, []), (58, .imul, 1, []), (59, .iload_n 1, 1, []), (60, .iadd, 1, []), (61, .sipush 144, 3, []), (64, .imul, 1, []), (65, .iload_n 3, 1, []), (66, .iadd, 1, []),
  (67, .istore 5, 2, []), (69, .aload_n 0, 1, []), (70, .getfield 9, 3, [0, 0]), (73, .iload 5, 2, []), (75, .invokestatic 49, 3, [32, 1, 1, 1]), (78, .invokevirtual 52, 3, [26, 2, 3, 1, 2]), (81, .aload_n 0, 1, []), (82, .getfield 9, 3, [0, 0]),
  (85, .iload 5, 2, []), (87, .invokestatic 55, 3, [34, 1, 1, 1]), (90, .invokevirtual 52, 3, [26, 2, 3, 1, 2]), (93, .if_icmp .eq 9, 3, []), (96, .aload_n 0, 1, []), (97, .iload 5, 2, []), (99, .invokevirtual 58, 3, [35, 2, 3, 0, 0]), (102, .iinc 3 1, 3, []),
  (105, .goto (-91), 3, []), (108, .return_, 1, [])]
/-- StencilCuts$Bridges.untieAll()V: method 37, 2 locals -/
def cB_untieAll : List Ent := [(0, .iconst 0, 1, []), (1, .istore_n 1, 1, []), (2, .iload_n 1, 1, []), (3, .aload_n 0, 1, []), (4, .getfield 9, 3, [0, 0]), (7, .getfield 94, 3, [7, 2]), (10, .if_icmp .ge 16, 3, []), (13, .aload_n 0, 1, []),
  (14, .getfield 29, 3, [5, 0]), (17, .iload_n 1, 1, []), (18, .iload_n 1, 1, []), (19, .iastore, 1, []), (20, .iinc 1 1, 3, []), (23, .goto (-21), 3, []), (26, .return_, 1, [])]
/-- StencilCuts$Bridges.isUntied(I)Z: method 38, 4 locals -/
def cB_isUntied : List Ent := [(0, .aload_n 0, 1, []), (1, .getfield 9, 3, [0, 0]), (4, .iload_n 1, 1, []), (5, .invokestatic 49, 3, [32, 1, 1, 1]), (8, .invokevirtual 52, 3, [26, 2, 3, 1, 2]), (11, .istore_n 2, 1, []), (12, .aload_n 0, 1, []), (13, .getfield 9, 3, [0, 0]),
  (16, .iload_n 1, 1, []), (17, .invokestatic 55, 3, [34, 1, 1, 1]), (20, .invokevirtual 52, 3, [26, 2, 3, 1, 2]), (23, .istore_n 3, 1, []), (24, .aload_n 0, 1, []), (25, .getfield 29, 3, [5, 0]), (28, .iload_n 2, 1, []), (29, .iaload, 1, []),
  (30, .aload_n 0, 1, []), (31, .getfield 29, 3, [5, 0]), (34, .iload_n 3, 1, []), (35, .iaload, 1, []), (36, .if_icmp .eq 7, 3, []), (39, .iconst 1, 1, []), (40, .goto 4, 3, []), (43, .iconst 0, 1, []),
  (44, .ireturn, 1, [1])]
/-- StencilCuts$Bridges.tieEnds(I)V: method 39, 5 locals -/
def cB_tieEnds : List Ent := [(0, .aload_n 0, 1, []), (1, .getfield 29, 3, [5, 0]), (4, .aload_n 0, 1, []), (5, .getfield 9, 3, [0, 0]), (8, .iload_n 1, 1, []), (9, .invokestatic 49, 3, [32, 1, 1, 1]), (12, .invokevirtual 52, 3, [26, 2, 3, 1, 2]), (15, .iaload, 1, []),
  (16, .istore_n 2, 1, []), (17, .aload_n 0, 1, []), (18, .getfield 29, 3, [5, 0]), (21, .aload_n 0, 1, []), (22, .getfield 9, 3, [0, 0]), (25, .iload_n 1, 1, []), (26, .invokestatic 55, 3, [34, 1, 1, 1]), (29, .invokevirtual 52, 3, [26, 2, 3, 1, 2]),
  (32, .iaload, 1, []), (33, .istore_n 3, 1, []), (34, .iconst 0, 1, []), (35, .istore 4, 2, []), (37, .iload 4, 2, []), (39, .aload_n 0, 1, []), (40, .getfield 9, 3, [0, 0]), (43, .getfield 94, 3, [7, 2]),
  (46, .if_icmp .ge 28, 3, []), (49, .aload_n 0, 1, []), (50, .getfield 29, 3, [5, 0]), (53, .iload 4, 2, []), (55, .iaload, 1, []), (56, .iload_n 3, 1, []), (57, .if_icmp .ne 11, 3, []), (60, .aload_n 0, 1, []),
  (61, .getfield 29, 3, [5, 0]), (64, .iload 4, 2, []), (66, .iload_n 2, 1, []), (67, .iastore, 1, []), (68, .iinc 4 1, 3, []), (71, .goto (-34), 3, []), (74, .return_, 1, [])]
/-- StencilCuts$Bridges.findLowerBound()V: method 40, 2 locals -/
def cB_findLowerBound : List Ent := [(0, .aload_n 0, 1, []), (1, .invokevirtual 66, 3, [37, 1, 2, 0, 0]), (4, .aload_n 0, 1, []), (5, .iconst 0, 1, []), (6, .putfield 69, 3, [9, 0]), (9, .iconst 0, 1, []), (10, .istore_n 1, 1, []), (11, .iload_n 1, 1, []),
  (12, .aload_n 0, 1, []), (13, .getfield 62, 3, [6, 0]), (16, .if_icmp .ge 50, 3, []), (19, .aload_n 0, 1, []), (20, .aload_n 0, 1, []), (21, .getfield 15, 3, [1, 0]), (24, .iload_n 1, 1, []), (25, .iaload, 1, []),
  (26, .invokevirtual 72, 3, [38, 2, 4, 1, 0]), (29, .ifCond .eq 31, 3, []), (32, .aload_n 0, 1, []), (33, .aload_n 0, 1, []), (34, .getfield 15, 3, [1, 0]), (37, .iload_n 1, 1, []), (38, .iaload, 1, []), (39, .invokevirtual 76, 3, [39, 2, 5, 0, 0]),
  (42, .aload_n 0, 1, []), (43, .dup, 1, []), (44, .getfield 69, 3, [9, 0]), (47, .aload_n 0, 1, []), (48, .getfield 15, 3, [1, 0]), (51, .iload_n 1, 1, []), (52, .iaload, 1, []), (53, .invokestatic 39, 3, [33, 1, 1, 1]),
  (56, .iadd, 1, []), (57, .putfield 69, 3, [9, 0]), (60, .iinc 1 1, 3, []), (63, .goto (-52), 3, []), (66, .return_, 1, [])]
/-- StencilCuts$Bridges.removeAll()V: method 41, 2 locals -/
def cB_removeAll : List Ent := [(0, .iconst 0, 1, []), (1, .istore_n 1, 1, []), (2, .iload_n 1, 1, []), (3, .sipush 144, 3, []), (6, .if_icmp .ge 32, 3, []), (9, .aload_n 0, 1, []), (10, .getfield 25, 3, [4, 0]), (13, .iload_n 1, 1, []),
  (14, .aload_n 0, 1, []), (15, .getfield 9, 3, [0, 0]), (18, .getfield 42, 3, [1, 2]), (21, .iload_n 1, 1, []), (22, .baload, 1, []), (23, .bastore, 1, []), (24, .aload_n 0, 1, []), (25, .getfield 22, 3, [3, 0]),
  (28, .iload_n 1, 1, []), (29, .bipush (-6), 2, []), (31, .iastore, 1, []), (32, .iinc 1 1, 3, []), (35, .goto (-33), 3, []), (38, .aload_n 0, 1, []), (39, .iconst 0, 1, []), (40, .putfield 88, 3, [7, 0]),
  (43, .aload_n 0, 1, []), (44, .iconst 0, 1, []), (45, .putfield 91, 3, [8, 0]), (48, .return_, 1, [])]
/-- StencilCuts$Bridges.touchesBridge(I)Z: method 42, 7 locals -/
def cB_touchesBridge : List Ent := [(0, .iload_n 1, 1, []), (1, .invokestatic 100, 3, [22, 1, 1, 1]), (4, .ifCond .eq 16, 3, []), (7, .aload_n 0, 1, []), (8, .getfield 22, 3, [3, 0]), (11, .iload_n 1, 1, []), (12, .iaload, 1, []), (13, .bipush (-6), 2, []),
  (15, .if_icmp .eq 5, 3, []), (18, .iconst 1, 1, []), (19, .ireturn, 1, [1]), (20, .getstatic 103, 3, [28]), (23, .astore_n 2, 1, []), (24, .aload_n 2, 1, []), (25, .arraylength, 1, []), (26, .istore_n 3, 1, []),
  (27, .iconst 0, 1, []), (28, .istore 4, 2, []), (30, .iload 4, 2, []), (32, .iload_n 3, 1, []), (33, .if_icmp .ge 43, 3, []), (36, .aload_n 2, 1, []), (37, .iload 4, 2, []), (39, .iaload, 1, []),
  (40, .istore 5, 2, []), (42, .iload_n 1, 1, []), (43, .iload 5, 2, []), (45, .iadd, 1, []), (46, .istore 6, 2, []), (48, .iload 6, 2, []), (50, .invokestatic 100, 3, [22, 1, 1, 1]), (53, .ifCond .eq 17, 3, []),
  (56, .aload_n 0, 1, []), (57, .getfield 22, 3, [3, 0]), (60, .iload 6, 2, []), (62, .iaload, 1, []), (63, .bipush (-6), 2, []), (65, .if_icmp .eq 5, 3, []), (68, .iconst 1, 1, []), (69, .ireturn, 1, [1]),
  (70, .iinc 4 1, 3, []), (73, .goto (-43), 3, []), (76, .iconst 0, 1, []), (77, .ireturn, 1, [1])]
/-- StencilCuts$Bridges.isClear(I)Z: method 43, 5 locals -/
def cB_isClear : List Ent := [(0, .iload_n 1, 1, []), (1, .invokestatic 36, 3, [30, 1, 1, 1]), (4, .istore_n 2, 1, []), (5, .iload_n 1, 1, []), (6, .invokestatic 39, 3, [33, 1, 1, 1]), (9, .istore_n 3, 1, []), (10, .iconst 0, 1, []), (11, .istore 4, 2, []),
  (13, .iload 4, 2, []), (15, .iload_n 3, 1, []), (16, .if_icmp .ge 26, 3, []), (19, .aload_n 0, 1, []), (20, .iload_n 2, 1, []), (21, .invokevirtual 97, 3, [42, 2, 7, 1, 0]), (24, .ifCond .eq 5, 3, []), (27, .iconst 0, 1, []),
  (28, .ireturn, 1, [1]), (29, .iload_n 2, 1, []), (30, .iload_n 1, 1, []), (31, .invokestatic 32, 3, [31, 1, 1, 1]), (34, .iadd, 1, []), (35, .istore_n 2, 1, []), (36, .iinc 4 1, 3, []), (39, .goto (-26), 3, []),
  (42, .iconst 1, 1, []), (43, .ireturn, 1, [1])]
/-- StencilCuts$Bridges.addBridge(I)V: method 44, 5 locals -/
def cB_addBridge : List Ent := [(0, .aload_n 0, 1, []), (1, .getfield 88, 3, [7, 0]), (4, .bipush 100, 2, []), (6, .if_icmp .lt 4, 3, []), (9, .return_, 1, []), (10, .iload_n 1, 1, []), (11, .invokestatic 36, 3, [30, 1, 1, 1]), (14, .istore_n 2, 1, []),
  (15, .iload_n 1, 1, []), (16, .invokestatic 39, 3, [33, 1, 1, 1]), (19, .istore_n 3, 1, []), (20, .iconst 0, 1, []), (21, .istore 4, 2, []), (23, .iload 4, 2, []), (25, .iload_n 3, 1, []), (26, .if_icmp .ge 40, 3, []),
  (29, .iload_n 2, 1, []), (30, .invokestatic 100, 3, [22, 1, 1, 1]), (33, .ifCond .eq 33, 3, []), (36, .aload_n 0, 1, []), (37, .getfield 22, 3, [3, 0]), (40, .iload_n 2, 1, []), (41, .aload_n 0, 1, []), (42, .getfield 88, 3, [7, 0]),
  (45, .iastore, 1, []), (46, .aload_n 0, 1, []), (47, .getfield 25, 3, [4, 0]), (50, .iload_n 2, 1, []), (51, .iconst 0, 1, []), (52, .bastore, 1, []), (53, .iload_n 2, 1, []), (54, .iload_n 1, 1, []),
  (55, .invokestatic 32, 3, [31, 1, 1, 1]), (58, .iadd, 1, []), (59, .istore_n 2, 1, []), (60, .iinc 4 1, 3, []), (63, .goto (-40), 3, []), (66, .aload_n 0, 1, []), (67, .dup, 1, []), (68, .getfield 91, 3, [8, 0]),
  (71, .iload_n 3, 1, []), (72, .iadd, 1, []), (73, .putfield 91, 3, [8, 0]), (76, .aload_n 0, 1, []), (77, .getfield 19, 3, [2, 0]), (80, .aload_n 0, 1, []), (81, .getfield 88, 3, [7, 0]), (84, .iload_n 1, 1, []),
  (85, .iastore, 1, []), (86, .aload_n 0, 1, []), (87, .dup, 1, []), (88, .getfield 88, 3, [7, 0]), (91, .iconst 1, 1, []), (92, .iadd, 1, []), (93, .putfield 88, 3, [7, 0]), (96, .return_, 1, [])]
/-- StencilCuts$Bridges.build()V: method 45, 2 locals -/
def cB_build : List Ent := [(0, .aload_n 0, 1, []), (1, .invokevirtual 66, 3, [37, 1, 2, 0, 0]), (4, .aload_n 0, 1, []), (5, .invokevirtual 79, 3, [41, 1, 2, 0, 0]), (8, .iconst 0, 1, []), (9, .istore_n 1, 1, []), (10, .iload_n 1, 1, []), (11, .aload_n 0, 1, []),
  (12, .getfield 62, 3, [6, 0]), (15, .if_icmp .ge 55, 3, []), (18, .aload_n 0, 1, []), (19, .aload_n 0, 1, []), (20, .getfield 15, 3, [1, 0]), (23, .iload_n 1, 1, []), (24, .iaload, 1, []), (25, .invokevirtual 72, 3, [38, 2, 4, 1, 0]),
  (28, .ifCond .eq 36, 3, []), (31, .aload_n 0, 1, []), (32, .aload_n 0, 1, []), (33, .getfield 15, 3, [1, 0]), (36, .iload_n 1, 1, []), (37, .iaload, 1, []), (38, .invokevirtual 82, 3, [43, 2, 5, 1, 0]), (41, .ifCond .eq 23, 3, []),
  (44, .aload_n 0, 1, []), (45, .aload_n 0, 1, []), (46, .getfield 15, 3, [1, 0]), (49, .iload_n 1, 1, []), (50, .iaload, 1, []), (51, .invokevirtual 76, 3, [39, 2, 5, 0, 0]), (54, .aload_n 0, 1, []), (55, .aload_n 0, 1, []),
  (56, .getfield 15, 3, [1, 0]), (59, .iload_n 1, 1, []), (60, .iaload, 1, []), (61, .invokevirtual 85, 3, [44, 2, 5, 0, 0]), (64, .iinc 1 1, 3, []), (67, .goto (-57), 3, []), (70, .return_, 1, [])]
/-- StencilCuts$Plan.bridged(LStencilCuts$Sheet;I)LStencilCuts$Plan;: method 46, 3 locals -/
def cL_bridged : List Ent := [(0, .aload_n 0, 1, []), (1, .getfield 36, 3, [3, 4]), (4, .ifCond .ne 62, 3, []), (7, .aload_n 0, 1, []), (8, .getfield 12, 3, [0, 4]), (11, .aload_n 1, 1, []), (12, .iload_n 2, 1, []), (13, .invokevirtual 43, 3, [25, 3, 4, 0, 2]),
  (16, .aload_n 0, 1, []), (17, .getfield 12, 3, [0, 4]), (20, .invokevirtual 47, 3, [28, 1, 3, 0, 2]), (23, .aload_n 0, 1, []), (24, .getfield 23, 3, [1, 4]), (27, .iconst 0, 1, []), (28, .putfield 50, 3, [6, 0]), (31, .aload_n 0, 1, []),
  (32, .getfield 23, 3, [1, 4]), (35, .iconst 0, 1, []), (36, .invokevirtual 54, 3, [36, 2, 6, 0, 0]), (39, .aload_n 0, 1, []), (40, .getfield 23, 3, [1, 4]), (43, .iconst 1, 1, []), (44, .invokevirtual 54, 3, [36, 2, 6, 0, 0]), (47, .aload_n 0, 1, []),
  (48, .getfield 23, 3, [1, 4]), (51, .invokevirtual 58, 3, [40, 1, 2, 0, 0]), (54, .aload_n 0, 1, []), (55, .getfield 23, 3, [1, 4]), (58, .invokevirtual 61, 3, [45, 1, 2, 0, 0]), (61, .aload_n 0, 1, []), (62, .iconst 1, 1, []), (63, .putfield 36, 3, [3, 4]),
  (66, .aload_n 0, 1, []), (67, .areturn, 1, [])]
/-- StencilCuts.placeOf(II)I: method 47, 2 locals -/
def cS_placeOf : List Ent := [(0, .iload_n 1, 1, []), (1, .iconst 1, 1, []), (2, .iadd, 1, []), (3, .bipush 12, 2, []), (5, .imul, 1, []), (6, .iload_n 0, 1, []), (7, .iadd, 1, []), (8, .iconst 1, 1, []),
  (9, .iadd, 1, []), (10, .ireturn, 1, [0])]
/-- StencilCuts$Parts.isOpen(I)Z: method 48, 2 locals -/
def cP_isOpen : List Ent := [(0, .iload_n 1, 1, []), (1, .invokestatic 82, 3, [22, 1, 1, 1]), (4, .ifCond .eq 16, 3, []), (7, .aload_n 0, 1, []), (8, .getfield 15, 3, [1, 2]), (11, .iload_n 1, 1, []), (12, .baload, 1, []), (13, .ifCond .eq 7, 3, []),
  (16, .iconst 1, 1, []), (17, .goto 4, 3, []), (20, .iconst 0, 1, []), (21, .ireturn, 1, [1])]
/-- StencilCuts$Parts.islandAt(I)I: method 49, 2 locals -/
def cP_islandAt : List Ent := [(0, .aload_n 0, 1, []), (1, .iload_n 1, 1, []), (2, .invokevirtual 95, 3, [48, 2, 2, 1, 2]), (5, .ifCond .eq 8, 3, []), (8, .bipush (-6), 2, []), (10, .goto 13, 3, []), (13, .aload_n 0, 1, []), (14, .getfield 22, 3, [3, 2]),
  (17, .aload_n 0, 1, []), (18, .iload_n 1, 1, []), (19, .invokevirtual 89, 3, [26, 2, 3, 1, 2]), (22, .iaload, 1, []), (23, .ireturn, 1, [0])]
/-- StencilCuts$Parts.holeAt(I)I: method 50, 2 locals -/
def cP_holeAt : List Ent := [(0, .aload_n 0, 1, []), (1, .iload_n 1, 1, []), (2, .invokevirtual 95, 3, [48, 2, 2, 1, 2]), (5, .ifCond .eq 16, 3, []), (8, .aload_n 0, 1, []), (9, .getfield 22, 3, [3, 2]), (12, .aload_n 0, 1, []), (13, .iload_n 1, 1, []),
  (14, .invokevirtual 89, 3, [26, 2, 3, 1, 2]), (17, .iaload, 1, []), (18, .goto 5, 3, []), (21, .bipush (-6), 2, []), (23, .ireturn, 1, [0])]
/-- StencilCuts.cell(IIII)I: method 51, 7 locals -/
def cS_cell : List Ent := [(0, .iload_n 1, 1, []), (1, .invokestatic 51, 3, [7, 1, 1, 1]), (4, .ifCond .ne 5, 3, []), (7, .iconst (-1), 1, []), (8, .ireturn, 1, [0]), (9, .aload_n 0, 1, []), (10, .getfield 12, 3, [0, 6]), (13, .iload_n 2, 1, []),
  (14, .iload_n 3, 1, []), (15, .invokevirtual 55, 3, [8, 3, 3, 1, 5]), (18, .ifCond .eq 13, 3, []), (21, .iload 4, 2, []), (23, .iconst 0, 1, []), (24, .iconst 3, 1, []), (25, .invokestatic 40, 3, [0, 3, 3, 1]), (28, .ifCond .ne 6, 3, []),
  (31, .bipush (-2), 2, []), (33, .ireturn, 1, [0]), (34, .iload 4, 2, []), (36, .ifCond .ne 22, 3, []), (39, .aload_n 0, 1, []), (40, .getfield 12, 3, [0, 6]), (43, .iload_n 1, 1, []), (44, .iload_n 2, 1, []),
  (45, .iload_n 3, 1, []), (46, .invokevirtual 89, 3, [18, 4, 4, 1, 5]), (49, .ifCond .eq 7, 3, []), (52, .iconst 1, 1, []), (53, .goto 4, 3, []), (56, .iconst 0, 1, []), (57, .ireturn, 1, [0]), (58, .aload_n 0, 1, []),
  (59, .getfield 22, 3, [2, 6]), (62, .iload_n 1, 1, []), (63, .aaload, 1, []), (64, .aload_n 0, 1, []), (65, .getfield 12, 3, [0, 6]), (68, .iload_n 1, 1, []), (69, .invokevirtual 92, 3, [46, 3, 3, 8, 4]), (72, .astore 5, 2, []),
  (74, .iload_n 2, 1, []), (75, .iload_n 3, 1, []), (76, .invokestatic 96, 3, [47, 2, 2, 1]), (79, .istore 6, 2, []), (81, .iload 4, 2, []), (83, .lookupswitch 47 #[(1, 25), (2, 36)], 25, []), (108, .aload 5, 2, []), (110, .getfield 99, 3, [0, 4]),
  (113, .iload 6, 2, []), (115, .invokevirtual 103, 3, [49, 2, 2, 1, 2]), (118, .ireturn, 1, [0]), (119, .aload 5, 2, []), (121, .getfield 99, 3, [0, 4]), (124, .iload 6, 2, []), (126, .invokevirtual 108, 3, [50, 2, 2, 1, 2]), (129, .ireturn, 1, [0]),
  (130, .aload 5, 2, []), (132, .getfield 111, 3, [1, 4]), (135, .getfield 115, 3, [3, 0]), (138, .iload 6, 2, []), (140, .iaload, 1, []), (141, .ireturn, 1, [0])]
/-- StencilCuts$Parts.isIsland(I)Z: method 52, 2 locals -/
def cP_isIsland : List Ent := [(0, .iload_n 1, 1, []), (1, .ifCond .eq 34, 3, []), (4, .iload_n 1, 1, []), (5, .iconst 0, 1, []), (6, .aload_n 0, 1, []), (7, .getfield 44, 3, [7, 2]), (10, .iconst 1, 1, []), (11, .isub, 1, []),
  (12, .invokestatic 92, 3, [0, 3, 3, 1]), (15, .ifCond .eq 20, 3, []), (18, .aload_n 0, 1, []), (19, .aload_n 0, 1, []), (20, .getfield 25, 3, [4, 2]), (23, .iload_n 1, 1, []), (24, .iaload, 1, []), (25, .invokevirtual 95, 3, [48, 2, 2, 1, 2]),
  (28, .ifCond .ne 7, 3, []), (31, .iconst 1, 1, []), (32, .goto 4, 3, []), (35, .iconst 0, 1, []), (36, .ireturn, 1, [1])]
/-- StencilCuts$Bridges.isLoose(I)Z: method 53, 2 locals -/
def cB_isLoose : List Ent := [(0, .aload_n 0, 1, []), (1, .getfield 29, 3, [5, 0]), (4, .iload_n 1, 1, []), (5, .iaload, 1, []), (6, .aload_n 0, 1, []), (7, .getfield 29, 3, [5, 0]), (10, .iconst 0, 1, []), (11, .iaload, 1, []),
  (12, .if_icmp .eq 7, 3, []), (15, .iconst 1, 1, []), (16, .goto 4, 3, []), (19, .iconst 0, 1, []), (20, .ireturn, 1, [1])]
/-- StencilCuts$Bridges.looseIslands()I: method 54, 3 locals -/
def cB_looseIslands : List Ent := [(0, .iconst 0, 1, []), (1, .istore_n 1, 1, []), (2, .iconst 0, 1, []), (3, .istore_n 2, 1, []), (4, .iload_n 2, 1, []), (5, .aload_n 0, 1, []), (6, .getfield 9, 3, [0, 0]), (9, .getfield 94, 3, [7, 2]),
  (12, .if_icmp .ge 31, 3, []), (15, .aload_n 0, 1, []), (16, .getfield 9, 3, [0, 0]), (19, .iload_n 2, 1, []), (20, .invokevirtual 106, 3, [52, 2, 2, 1, 2]), (23, .ifCond .eq 14, 3, []), (26, .aload_n 0, 1, []), (27, .iload_n 2, 1, []),
  (28, .invokevirtual 109, 3, [53, 2, 2, 1, 0]), (31, .ifCond .eq 6, 3, []), (34, .iinc 1 1, 3, []), (37, .iinc 2 1, 3, []), (40, .goto (-36), 3, []), (43, .iload_n 1, 1, []), (44, .ireturn, 1, [0])]
/-- StencilCuts.layer(II)I: method 55, 4 locals -/
def cS_layer : List Ent := [(0, .iload_n 1, 1, []), (1, .invokestatic 51, 3, [7, 1, 1, 1]), (4, .ifCond .ne 5, 3, []), (7, .iconst (-1), 1, []), (8, .ireturn, 1, [0]), (9, .iload_n 2, 1, []), (10, .iconst 0, 1, []), (11, .bipush 7, 2, []),
  (13, .invokestatic 40, 3, [0, 3, 3, 1]), (16, .ifCond .ne 6, 3, []), (19, .bipush (-2), 2, []), (21, .ireturn, 1, [0]), (22, .iload_n 2, 1, []), (23, .ifCond .ne 12, 3, []), (26, .aload_n 0, 1, []), (27, .getfield 12, 3, [0, 6]),
  (30, .iload_n 1, 1, []), (31, .invokevirtual 67, 3, [11, 2, 4, 1, 5]), (34, .ireturn, 1, [0]), (35, .aload_n 0, 1, []), (36, .getfield 22, 3, [2, 6]), (39, .iload_n 1, 1, []), (40, .aaload, 1, []), (41, .aload_n 0, 1, []),
  (42, .getfield 12, 3, [0, 6]), (45, .iload_n 1, 1, []), (46, .invokevirtual 92, 3, [46, 3, 3, 8, 4]), (49, .astore_n 3, 1, []), (50, .iload_n 2, 1, []), (51, .tableswitch 85 1 6 #[37, 45, 53, 61, 69, 77], 37, []), (88, .aload_n 3, 1, []), (89, .getfield 99, 3, [0, 4]),
  (92, .getfield 121, 3, [8, 2]), (95, .ireturn, 1, [0]), (96, .aload_n 3, 1, []), (97, .getfield 99, 3, [0, 4]), (100, .getfield 124, 3, [9, 2]), (103, .ireturn, 1, [0]), (104, .aload_n 3, 1, []), (105, .getfield 111, 3, [1, 4]),
  (108, .getfield 127, 3, [7, 0]), (111, .ireturn, 1, [0]), (112, .aload_n 3, 1, []), (113, .getfield 111, 3, [1, 4]), (116, .getfield 130, 3, [8, 0]), (119, .ireturn, 1, [0]), (120, .aload_n 3, 1, []), (121, .getfield 111, 3, [1, 4]),
  (124, .invokevirtual 133, 3, [54, 1, 3, 1, 0]), (127, .ireturn, 1, [0]), (128, .aload_n 3, 1, []), (129, .getfield 111, 3, [1, 4]), (132, .getfield 137, 3, [9, 0]), (135, .ireturn, 1, [0]), (136, .aload_n 3, 1, []), (137, .getfield 111, 3, [1, 4]),
  (140, .getfield 140, 3, [6, 0]), (143, .ireturn, 1, [0])]
/-- StencilCuts$Parts.partOfIsland(I)I: method 56, 3 locals -/
def cP_partOfIsland : List Ent := [(0, .iconst 0, 1, []), (1, .istore_n 2, 1, []), (2, .iload_n 2, 1, []), (3, .aload_n 0, 1, []), (4, .getfield 44, 3, [7, 2]), (7, .if_icmp .ge 29, 3, []), (10, .aload_n 0, 1, []), (11, .iload_n 2, 1, []),
  (12, .invokevirtual 97, 3, [52, 2, 2, 1, 2]), (15, .ifCond .eq 15, 3, []), (18, .aload_n 0, 1, []), (19, .getfield 22, 3, [3, 2]), (22, .iload_n 2, 1, []), (23, .iaload, 1, []), (24, .iload_n 1, 1, []), (25, .if_icmp .ne 5, 3, []),
  (28, .iload_n 2, 1, []), (29, .ireturn, 1, [0]), (30, .iinc 2 1, 3, []), (33, .goto (-31), 3, []), (36, .bipush (-6), 2, []), (38, .ireturn, 1, [0])]
/-- StencilCuts$Bridges.bridgesOf(I)I: method 57, 4 locals -/
def cB_bridgesOf : List Ent := [(0, .iconst 0, 1, []), (1, .istore_n 2, 1, []), (2, .iconst 0, 1, []), (3, .istore_n 3, 1, []), (4, .iload_n 3, 1, []), (5, .aload_n 0, 1, []), (6, .getfield 88, 3, [7, 0]), (9, .if_icmp .ge 52, 3, []),
  (12, .aload_n 0, 1, []), (13, .getfield 9, 3, [0, 0]), (16, .aload_n 0, 1, []), (17, .getfield 19, 3, [2, 0]), (20, .iload_n 3, 1, []), (21, .iaload, 1, []), (22, .invokestatic 49, 3, [32, 1, 1, 1]), (25, .invokevirtual 52, 3, [26, 2, 3, 1, 2]),
  (28, .iload_n 1, 1, []), (29, .if_icmp .eq 23, 3, []), (32, .aload_n 0, 1, []), (33, .getfield 9, 3, [0, 0]), (36, .aload_n 0, 1, []), (37, .getfield 19, 3, [2, 0]), (40, .iload_n 3, 1, []), (41, .iaload, 1, []),
  (42, .invokestatic 55, 3, [34, 1, 1, 1]), (45, .invokevirtual 52, 3, [26, 2, 3, 1, 2]), (48, .iload_n 1, 1, []), (49, .if_icmp .ne 6, 3, []), (52, .iinc 2 1, 3, []), (55, .iinc 3 1, 3, []), (58, .goto (-54), 3, []), (61, .iload_n 2, 1, []),
  (62, .ireturn, 1, [0])]
/-- StencilCuts.island(III)I: method 58, 6 locals -/
def cS_island : List Ent := [(0, .iload_n 1, 1, []), (1, .invokestatic 51, 3, [7, 1, 1, 1]), (4, .ifCond .ne 5, 3, []), (7, .iconst (-1), 1, []), (8, .ireturn, 1, [0]), (9, .iload_n 3, 1, []), (10, .iconst 0, 1, []), (11, .iconst 5, 1, []),
  (12, .invokestatic 40, 3, [0, 3, 3, 1]), (15, .ifCond .ne 6, 3, []), (18, .bipush (-2), 2, []), (20, .ireturn, 1, [0]), (21, .aload_n 0, 1, []), (22, .getfield 22, 3, [2, 6]), (25, .iload_n 1, 1, []), (26, .aaload, 1, []),
  (27, .aload_n 0, 1, []), (28, .getfield 12, 3, [0, 6]), (31, .iload_n 1, 1, []), (32, .invokevirtual 92, 3, [46, 3, 3, 8, 4]), (35, .astore 4, 2, []), (37, .aload 4, 2, []), (39, .getfield 99, 3, [0, 4]), (42, .iload_n 2, 1, []),
  (43, .invokevirtual 143, 3, [56, 2, 3, 1, 2]), (46, .istore 5, 2, []), (48, .iload 5, 2, []), (50, .iconst 0, 1, []), (51, .aload 4, 2, []), (53, .getfield 99, 3, [0, 4]), (56, .getfield 146, 3, [7, 2]), (59, .iconst 1, 1, []),
  (60, .isub, 1, []), (61, .invokestatic 40, 3, [0, 3, 3, 1]), (64, .ifCond .ne 6, 3, []), (67, .bipush (-6), 2, []), (69, .ireturn, 1, [0]), (70, .iload_n 3, 1, []), (71, .tableswitch 106 0 4 #[33, 45, 57, 72, 87], 33, []), (104, .aload 4, 2, []),
  (106, .getfield 99, 3, [0, 4]), (109, .getfield 149, 3, [5, 2]), (112, .iload 5, 2, []), (114, .iaload, 1, []), (115, .ireturn, 1, [0]), (116, .aload 4, 2, []), (118, .getfield 99, 3, [0, 4]), (121, .getfield 152, 3, [6, 2]),
  (124, .iload 5, 2, []), (126, .iaload, 1, []), (127, .ireturn, 1, [0]), (128, .aload 4, 2, []), (130, .getfield 99, 3, [0, 4]), (133, .getfield 155, 3, [4, 2]), (136, .iload 5, 2, []), (138, .iaload, 1, []),
  (139, .invokestatic 158, 3, [19, 1, 1, 1]), (142, .ireturn, 1, [0]), (143, .aload 4, 2, []), (145, .getfield 99, 3, [0, 4]), (148, .getfield 155, 3, [4, 2]), (151, .iload 5, 2, []), (153, .iaload, 1, []), (154, .invokestatic 161, 3, [20, 1, 1, 1]),
  (157, .ireturn, 1, [0]), (158, .aload 4, 2, []), (160, .getfield 111, 3, [1, 4]), (163, .iload 5, 2, []), (165, .invokevirtual 164, 3, [53, 2, 2, 1, 0]), (168, .ifCond .eq 7, 3, []), (171, .iconst 1, 1, []), (172, .goto 4, 3, []),
  (175, .iconst 0, 1, []), (176, .ireturn, 1, [0]), (177, .aload 4, 2, []), (179, .getfield 111, 3, [1, 4]), (182, .iload 5, 2, []), (184, .invokevirtual 167, 3, [57, 2, 4, 1, 0]), (187, .ireturn, 1, [0])]
/-- StencilCuts$Bridges.isVertical(I)Z: method 59, 1 locals -/
def cB_isVertical : List Ent := [(0, .iload_n 0, 1, []), (1, .invokestatic 32, 3, [31, 1, 1, 1]), (4, .bipush 12, 2, []), (6, .if_icmp .ne 7, 3, []), (9, .iconst 1, 1, []), (10, .goto 4, 3, []), (13, .iconst 0, 1, []), (14, .ireturn, 1, [1])]
/-- StencilCuts.bridge(III)I: method 60, 6 locals -/
def cS_bridge : List Ent := [(0, .iload_n 1, 1, []), (1, .invokestatic 51, 3, [7, 1, 1, 1]), (4, .ifCond .ne 5, 3, []), (7, .iconst (-1), 1, []), (8, .ireturn, 1, [0]), (9, .iload_n 3, 1, []), (10, .iconst 0, 1, []), (11, .iconst 5, 1, []),
  (12, .invokestatic 40, 3, [0, 3, 3, 1]), (15, .ifCond .ne 6, 3, []), (18, .bipush (-2), 2, []), (20, .ireturn, 1, [0]), (21, .aload_n 0, 1, []), (22, .getfield 22, 3, [2, 6]), (25, .iload_n 1, 1, []), (26, .aaload, 1, []),
  (27, .aload_n 0, 1, []), (28, .getfield 12, 3, [0, 6]), (31, .iload_n 1, 1, []), (32, .invokevirtual 92, 3, [46, 3, 3, 8, 4]), (35, .astore 4, 2, []), (37, .iload_n 2, 1, []), (38, .iconst 0, 1, []), (39, .aload 4, 2, []),
  (41, .getfield 111, 3, [1, 4]), (44, .getfield 127, 3, [7, 0]), (47, .iconst 1, 1, []), (48, .isub, 1, []), (49, .invokestatic 40, 3, [0, 3, 3, 1]), (52, .ifCond .ne 6, 3, []), (55, .bipush (-6), 2, []), (57, .ireturn, 1, [0]),
  (58, .aload 4, 2, []), (60, .getfield 111, 3, [1, 4]), (63, .getfield 170, 3, [2, 0]), (66, .iload_n 2, 1, []), (67, .iaload, 1, []), (68, .istore 5, 2, []), (70, .iload_n 3, 1, []), (71, .tableswitch 85 0 4 #[33, 42, 51, 57, 71], 33, []),
  (104, .iload 5, 2, []), (106, .invokestatic 173, 3, [30, 1, 1, 1]), (109, .invokestatic 158, 3, [19, 1, 1, 1]), (112, .ireturn, 1, [0]), (113, .iload 5, 2, []), (115, .invokestatic 173, 3, [30, 1, 1, 1]), (118, .invokestatic 161, 3, [20, 1, 1, 1]), (121, .ireturn, 1, [0]),
  (122, .iload 5, 2, []), (124, .invokestatic 176, 3, [33, 1, 1, 1]), (127, .ireturn, 1, [0]), (128, .iload 5, 2, []), (130, .invokestatic 179, 3, [59, 1, 1, 1]), (133, .ifCond .eq 7, 3, []), (136, .iconst 1, 1, []), (137, .goto 4, 3, []),
  (140, .iconst 0, 1, []), (141, .ireturn, 1, [0]), (142, .aload 4, 2, []), (144, .getfield 99, 3, [0, 4]), (147, .iload 5, 2, []), (149, .invokestatic 182, 3, [32, 1, 1, 1]), (152, .invokevirtual 103, 3, [49, 2, 2, 1, 2]), (155, .ireturn, 1, [0]),
  (156, .aload 4, 2, []), (158, .getfield 99, 3, [0, 4]), (161, .iload 5, 2, []), (163, .invokestatic 185, 3, [34, 1, 1, 1]), (166, .invokevirtual 103, 3, [49, 2, 2, 1, 2]), (169, .ireturn, 1, [0])]
/-- StencilCuts$Knife.hasEdge(II)Z: method 61, 5 locals -/
def cK_hasEdge : List Ent := [(0, .iload_n 1, 1, []), (1, .getstatic 60, 3, [30]), (4, .iload_n 2, 1, []), (5, .iaload, 1, []), (6, .iadd, 1, []), (7, .istore_n 3, 1, []), (8, .iload_n 1, 1, []), (9, .getstatic 63, 3, [31]),
  (12, .iload_n 2, 1, []), (13, .iaload, 1, []), (14, .iadd, 1, []), (15, .istore 4, 2, []), (17, .iload_n 3, 1, []), (18, .invokestatic 66, 3, [22, 1, 1, 1]), (21, .ifCond .eq 37, 3, []), (24, .iload 4, 2, []),
  (26, .invokestatic 66, 3, [22, 1, 1, 1]), (29, .ifCond .eq 29, 3, []), (32, .aload_n 0, 1, []), (33, .getfield 9, 3, [0, 1]), (36, .getfield 69, 3, [4, 0]), (39, .iload_n 3, 1, []), (40, .baload, 1, []), (41, .aload_n 0, 1, []),
  (42, .getfield 9, 3, [0, 1]), (45, .getfield 69, 3, [4, 0]), (48, .iload 4, 2, []), (50, .baload, 1, []), (51, .if_icmp .eq 7, 3, []), (54, .iconst 1, 1, []), (55, .goto 4, 3, []), (58, .iconst 0, 1, []),
  (59, .ireturn, 1, [1])]
/-- StencilCuts$Knife.hasAnyEdge(I)Z: method 62, 3 locals -/
def cK_hasAnyEdge : List Ent := [(0, .iconst 0, 1, []), (1, .istore_n 2, 1, []), (2, .iload_n 2, 1, []), (3, .getstatic 53, 3, [28]), (6, .arraylength, 1, []), (7, .if_icmp .ge 20, 3, []), (10, .aload_n 0, 1, []), (11, .iload_n 1, 1, []),
  (12, .iload_n 2, 1, []), (13, .invokevirtual 56, 3, [61, 3, 5, 1, 1]), (16, .ifCond .eq 5, 3, []), (19, .iconst 1, 1, []), (20, .ireturn, 1, [1]), (21, .iinc 2 1, 3, []), (24, .goto (-22), 3, []), (27, .iconst 0, 1, []),
  (28, .ireturn, 1, [1])]
/-- StencilCuts$Knife.follow(II)I: method 63, 8 locals -/
def cK_follow : List Ent := [(0, .aload_n 0, 1, []), (1, .getfield 19, 3, [2, 1]), (4, .iload_n 1, 1, []), (5, .iload_n 2, 1, []), (6, .iastore, 1, []), (7, .aload_n 0, 1, []), (8, .getfield 15, 3, [1, 1]), (11, .iconst 0, 1, []),
  (12, .iload_n 1, 1, []), (13, .iastore, 1, []), (14, .iconst 1, 1, []), (15, .istore_n 3, 1, []), (16, .iconst 0, 1, []), (17, .istore 4, 2, []), (19, .iconst 0, 1, []), (20, .istore 5, 2, []),
  (22, .iload 5, 2, []), (24, .iload_n 3, 1, []), (25, .if_icmp .ge 119, 3, []), (28, .iload 5, 2, []), (30, .sipush 144, 3, []), (33, .if_icmp .ge 111, 3, []), (36, .iconst 0, 1, []), (37, .istore 6, 2, []),
  (39, .iload 6, 2, []), (41, .getstatic 53, 3, [28]), (44, .arraylength, 1, []), (45, .if_icmp .ge 93, 3, []), (48, .aload_n 0, 1, []), (49, .aload_n 0, 1, []), (50, .getfield 15, 3, [1, 1]), (53, .iload 5, 2, []),
  (55, .iaload, 1, []), (56, .iload 6, 2, []), (58, .invokevirtual 56, 3, [61, 3, 5, 1, 1]), (61, .ifCond .ne 6, 3, []), (64, .goto 68, 3, []), (67, .iinc 4 1, 3, []), (70, .aload_n 0, 1, []), (71, .getfield 15, 3, [1, 1]),
  (74, .iload 5, 2, []), (76, .iaload, 1, []), (77, .getstatic 53, 3, [28]), (80, .iload 6, 2, []), (82, .iaload, 1, []), (83, .iadd, 1, []), (84, .istore 7, 2, []), (86, .iload 7, 2, []),
  (88, .invokestatic 66, 3, [22, 1, 1, 1]), (91, .ifCond .eq 41, 3, []), (94, .aload_n 0, 1, []), (95, .getfield 19, 3, [2, 1]), (98, .iload 7, 2, []), (100, .iaload, 1, []), (101, .bipush (-6), 2, []), (103, .if_icmp .ne 29, 3, []),
  (106, .iload_n 3, 1, []), (107, .sipush 144, 3, []), (110, .if_icmp .ge 22, 3, []), (113, .aload_n 0, 1, []), (114, .getfield 19, 3, [2, 1]), (117, .iload 7, 2, []), (119, .iload_n 2, 1, []), (120, .iastore, 1, []),
  (121, .aload_n 0, 1, []), (122, .getfield 15, 3, [1, 1]), (125, .iload_n 3, 1, []), (126, .iload 7, 2, []), (128, .iastore, 1, []), (129, .iinc 3 1, 3, []), (132, .iinc 6 1, 3, []), (135, .goto (-96), 3, []),
  (138, .iinc 5 1, 3, []), (141, .goto (-119), 3, []), (144, .iload 4, 2, []), (146, .iconst 2, 1, []), (147, .idiv, 1, []), (148, .ireturn, 1, [0])]
/-- StencilCuts$Knife.findLoops()V: method 64, 2 locals -/
def cK_findLoops : List Ent := [(0, .aload_n 0, 1, []), (1, .getfield 19, 3, [2, 1]), (4, .bipush (-6), 2, []), (6, .invokestatic 32, 3, [1, 2, 4, 0]), (9, .aload_n 0, 1, []), (10, .iconst 0, 1, []), (11, .putfield 38, 3, [6, 1]), (14, .aload_n 0, 1, []),
  (15, .iconst 0, 1, []), (16, .putfield 42, 3, [7, 1]), (19, .iconst 0, 1, []), (20, .istore_n 1, 1, []), (21, .iload_n 1, 1, []), (22, .sipush 144, 3, []), (25, .if_icmp .ge 83, 3, []), (28, .aload_n 0, 1, []),
  (29, .getfield 19, 3, [2, 1]), (32, .iload_n 1, 1, []), (33, .iaload, 1, []), (34, .bipush (-6), 2, []), (36, .if_icmp .ne 66, 3, []), (39, .aload_n 0, 1, []), (40, .iload_n 1, 1, []), (41, .invokevirtual 45, 3, [62, 2, 3, 1, 1]),
  (44, .ifCond .eq 58, 3, []), (47, .aload_n 0, 1, []), (48, .getfield 42, 3, [7, 1]), (51, .bipush 36, 2, []), (53, .if_icmp .ge 49, 3, []), (56, .aload_n 0, 1, []), (57, .getfield 22, 3, [3, 1]), (60, .aload_n 0, 1, []),
  (61, .getfield 42, 3, [7, 1]), (64, .aload_n 0, 1, []), (65, .iload_n 1, 1, []), (66, .aload_n 0, 1, []), (67, .getfield 42, 3, [7, 1]), (70, .invokevirtual 49, 3, [63, 3, 8, 1, 1]), (73, .iastore, 1, []), (74, .aload_n 0, 1, []),
  (75, .dup, 1, []), (76, .getfield 38, 3, [6, 1]), (79, .aload_n 0, 1, []), (80, .getfield 22, 3, [3, 1]), (83, .aload_n 0, 1, []), (84, .getfield 42, 3, [7, 1]), (87, .iaload, 1, []), (88, .iadd, 1, []),
  (89, .putfield 38, 3, [6, 1]), (92, .aload_n 0, 1, []), (93, .dup, 1, []), (94, .getfield 42, 3, [7, 1]), (97, .iconst 1, 1, []), (98, .iadd, 1, []), (99, .putfield 42, 3, [7, 1]), (102, .iinc 1 1, 3, []),
  (105, .goto (-84), 3, []), (108, .return_, 1, [])]
/-- StencilCuts$Knife.loopOf(I)I: method 65, 3 locals -/
def cK_loopOf : List Ent := [(0, .iload_n 1, 1, []), (1, .invokestatic 66, 3, [22, 1, 1, 1]), (4, .ifCond .eq 12, 3, []), (7, .aload_n 0, 1, []), (8, .getfield 19, 3, [2, 1]), (11, .iload_n 1, 1, []), (12, .iaload, 1, []), (13, .goto 5, 3, []),
  (16, .bipush (-6), 2, []), (18, .istore_n 2, 1, []), (19, .iload_n 2, 1, []), (20, .iconst 0, 1, []), (21, .aload_n 0, 1, []), (22, .getfield 42, 3, [7, 1]), (25, .iconst 1, 1, []), (26, .isub, 1, []),
  (27, .invokestatic 90, 3, [0, 3, 3, 1]), (30, .ifCond .eq 7, 3, []), (33, .iload_n 2, 1, []), (34, .goto 5, 3, []), (37, .bipush (-6), 2, []), (39, .ireturn, 1, [0])]
/-- StencilCuts$Knife.distance(II)I: method 66, 2 locals -/
def cK_distance : List Ent := [(0, .iload_n 0, 1, []), (1, .invokestatic 94, 3, [19, 1, 1, 1]), (4, .iload_n 1, 1, []), (5, .invokestatic 94, 3, [19, 1, 1, 1]), (8, .isub, 1, []), (9, .invokestatic 97, 3, [1, 0]), (12, .iload_n 0, 1, []), (13, .invokestatic 102, 3, [20, 1, 1, 1]),
  (16, .iload_n 1, 1, []), (17, .invokestatic 102, 3, [20, 1, 1, 1]), (20, .isub, 1, []), (21, .invokestatic 97, 3, [1, 0]), (24, .iadd, 1, []), (25, .ireturn, 1, [0])]
/-- StencilCuts$Knife.nearestFrom(I)I: method 67, 8 locals -/
def cK_nearestFrom : List Ent := [(0, .bipush (-6), 2, []), (2, .istore_n 2, 1, []), (3, .sipush 144, 3, []), (6, .istore_n 3, 1, []), (7, .bipush 36, 2, []), (9, .istore 4, 2, []), (11, .iconst 0, 1, []), (12, .istore 5, 2, []),
  (14, .iload 5, 2, []), (16, .sipush 144, 3, []), (19, .if_icmp .ge 74, 3, []), (22, .aload_n 0, 1, []), (23, .iload 5, 2, []), (25, .invokevirtual 84, 3, [65, 2, 3, 1, 1]), (28, .istore 6, 2, []), (30, .iload 6, 2, []),
  (32, .bipush (-6), 2, []), (34, .if_icmp .eq 53, 3, []), (37, .aload_n 0, 1, []), (38, .getfield 25, 3, [4, 1]), (41, .iload 6, 2, []), (43, .baload, 1, []), (44, .ifCond .eq 6, 3, []), (47, .goto 40, 3, []),
  (50, .iload_n 1, 1, []), (51, .iload 5, 2, []), (53, .invokestatic 87, 3, [66, 2, 2, 1]), (56, .istore 7, 2, []), (58, .iload 7, 2, []), (60, .iload_n 3, 1, []), (61, .if_icmp .lt 16, 3, []), (64, .iload 7, 2, []),
  (66, .iload_n 3, 1, []), (67, .if_icmp .ne 20, 3, []), (70, .iload 6, 2, []), (72, .iload 4, 2, []), (74, .if_icmp .ge 13, 3, []), (77, .iload 5, 2, []), (79, .istore_n 2, 1, []), (80, .iload 7, 2, []),
  (82, .istore_n 3, 1, []), (83, .iload 6, 2, []), (85, .istore 4, 2, []), (87, .iinc 5 1, 3, []), (90, .goto (-76), 3, []), (93, .iload_n 2, 1, []), (94, .ireturn, 1, [0])]
/-- StencilCuts$Knife.planWay()V: method 68, 5 locals -/
def cK_planWay : List Ent := [(0, .iconst 0, 1, []), (1, .istore_n 1, 1, []), (2, .iload_n 1, 1, []), (3, .bipush 36, 2, []), (5, .if_icmp .ge 16, 3, []), (8, .aload_n 0, 1, []), (9, .getfield 25, 3, [4, 1]), (12, .iload_n 1, 1, []),
  (13, .iconst 0, 1, []), (14, .bastore, 1, []), (15, .iinc 1 1, 3, []), (18, .goto (-16), 3, []), (21, .aload_n 0, 1, []), (22, .iconst 0, 1, []), (23, .putfield 74, 3, [8, 1]), (26, .iconst 0, 1, []),
  (27, .iconst 0, 1, []), (28, .invokestatic 77, 3, [47, 2, 2, 1]), (31, .istore_n 1, 1, []), (32, .iconst 0, 1, []), (33, .istore_n 2, 1, []), (34, .iload_n 2, 1, []), (35, .aload_n 0, 1, []), (36, .getfield 42, 3, [7, 1]),
  (39, .if_icmp .ge 61, 3, []), (42, .aload_n 0, 1, []), (43, .iload_n 1, 1, []), (44, .invokevirtual 80, 3, [67, 2, 8, 1, 1]), (47, .istore_n 3, 1, []), (48, .aload_n 0, 1, []), (49, .iload_n 3, 1, []), (50, .invokevirtual 84, 3, [65, 2, 3, 1, 1]),
  (53, .istore 4, 2, []), (55, .iload 4, 2, []), (57, .bipush (-6), 2, []), (59, .if_icmp .ne 4, 3, []), (62, .return_, 1, []), (63, .aload_n 0, 1, []), (64, .dup, 1, []), (65, .getfield 74, 3, [8, 1]),
  (68, .iload_n 1, 1, []), (69, .iload_n 3, 1, []), (70, .invokestatic 87, 3, [66, 2, 2, 1]), (73, .iadd, 1, []), (74, .putfield 74, 3, [8, 1]), (77, .aload_n 0, 1, []), (78, .getfield 25, 3, [4, 1]), (81, .iload 4, 2, []),
  (83, .iconst 1, 1, []), (84, .bastore, 1, []), (85, .aload_n 0, 1, []), (86, .getfield 29, 3, [5, 1]), (89, .iload_n 2, 1, []), (90, .iload_n 3, 1, []), (91, .iastore, 1, []), (92, .iload_n 3, 1, []),
  (93, .istore_n 1, 1, []), (94, .iinc 2 1, 3, []), (97, .goto (-63), 3, []), (100, .return_, 1, [])]
/-- StencilCuts$Plan.routed(LStencilCuts$Sheet;I)LStencilCuts$Knife;: method 69, 3 locals -/
def cL_routed : List Ent := [(0, .aload_n 0, 1, []), (1, .aload_n 1, 1, []), (2, .iload_n 2, 1, []), (3, .invokevirtual 64, 3, [46, 3, 3, 8, 4]), (6, .pop, 1, []), (7, .aload_n 0, 1, []), (8, .getfield 40, 3, [4, 4]), (11, .ifCond .ne 22, 3, []),
  (14, .aload_n 0, 1, []), (15, .getfield 32, 3, [2, 4]), (18, .invokevirtual 68, 3, [64, 1, 2, 0, 1]), (21, .aload_n 0, 1, []), (22, .getfield 32, 3, [2, 4]), (25, .invokevirtual 71, 3, [68, 1, 5, 0, 1]), (28, .aload_n 0, 1, []), (29, .iconst 1, 1, []),
  (30, .putfield 40, 3, [4, 4]), (33, .aload_n 0, 1, []), (34, .getfield 32, 3, [2, 4]), (37, .areturn, 1, [])]
/-- StencilCuts.knife(II)I: method 70, 4 locals -/
def cS_knife : List Ent := [(0, .iload_n 1, 1, []), (1, .invokestatic 51, 3, [7, 1, 1, 1]), (4, .ifCond .ne 5, 3, []), (7, .iconst (-1), 1, []), (8, .ireturn, 1, [0]), (9, .iload_n 2, 1, []), (10, .iconst 0, 1, []), (11, .iconst 2, 1, []),
  (12, .invokestatic 40, 3, [0, 3, 3, 1]), (15, .ifCond .ne 6, 3, []), (18, .bipush (-2), 2, []), (20, .ireturn, 1, [0]), (21, .aload_n 0, 1, []), (22, .getfield 22, 3, [2, 6]), (25, .iload_n 1, 1, []), (26, .aaload, 1, []),
  (27, .aload_n 0, 1, []), (28, .getfield 12, 3, [0, 6]), (31, .iload_n 1, 1, []), (32, .invokevirtual 188, 3, [69, 3, 3, 23, 4]), (35, .astore_n 3, 1, []), (36, .iload_n 2, 1, []), (37, .lookupswitch 37 #[(0, 27), (1, 32)], 27, []), (64, .aload_n 3, 1, []),
  (65, .getfield 192, 3, [6, 1]), (68, .ireturn, 1, [0]), (69, .aload_n 3, 1, []), (70, .getfield 197, 3, [7, 1]), (73, .ireturn, 1, [0]), (74, .aload_n 3, 1, []), (75, .getfield 200, 3, [8, 1]), (78, .ireturn, 1, [0])]
/-- StencilCuts.loop(III)I: method 71, 7 locals -/
def cS_loop : List Ent := [(0, .iload_n 1, 1, []), (1, .invokestatic 51, 3, [7, 1, 1, 1]), (4, .ifCond .ne 5, 3, []), (7, .iconst (-1), 1, []), (8, .ireturn, 1, [0]), (9, .iload_n 3, 1, []), (10, .iconst 0, 1, []), (11, .iconst 3, 1, []),
  (12, .invokestatic 40, 3, [0, 3, 3, 1]), (15, .ifCond .ne 6, 3, []), (18, .bipush (-2), 2, []), (20, .ireturn, 1, [0]), (21, .aload_n 0, 1, []), (22, .getfield 22, 3, [2, 6]), (25, .iload_n 1, 1, []), (26, .aaload, 1, []),
  (27, .aload_n 0, 1, []), (28, .getfield 12, 3, [0, 6]), (31, .iload_n 1, 1, []), (32, .invokevirtual 188, 3, [69, 3, 3, 23, 4]), (35, .astore 4, 2, []), (37, .iload_n 2, 1, []), (38, .iconst 0, 1, []), (39, .aload 4, 2, []),
  (41, .getfield 197, 3, [7, 1]), (44, .iconst 1, 1, []), (45, .isub, 1, []), (46, .invokestatic 40, 3, [0, 3, 3, 1]), (49, .ifCond .ne 6, 3, []), (52, .bipush (-6), 2, []), (54, .ireturn, 1, [0]), (55, .aload 4, 2, []),
  (57, .getfield 203, 3, [5, 1]), (60, .iload_n 2, 1, []), (61, .iaload, 1, []), (62, .istore 5, 2, []), (64, .aload 4, 2, []), (66, .iload 5, 2, []), (68, .invokevirtual 206, 3, [65, 2, 3, 1, 1]), (71, .istore 6, 2, []),
  (73, .iload 6, 2, []), (75, .bipush (-6), 2, []), (77, .if_icmp .ne 6, 3, []), (80, .bipush (-6), 2, []), (82, .ireturn, 1, [0]), (83, .iload_n 3, 1, []), (84, .tableswitch 46 0 2 #[28, 31, 40], 28, []), (112, .iload 6, 2, []),
  (114, .ireturn, 1, [0]), (115, .aload 4, 2, []), (117, .getfield 209, 3, [3, 1]), (120, .iload 6, 2, []), (122, .iaload, 1, []), (123, .ireturn, 1, [0]), (124, .iload 5, 2, []), (126, .invokestatic 158, 3, [19, 1, 1, 1]),
  (129, .ireturn, 1, [0]), (130, .iload 5, 2, []), (132, .invokestatic 161, 3, [20, 1, 1, 1]), (135, .ireturn, 1, [0])]
/-- StencilCuts$Picture.clear()V: method 72, 1 locals -/
def cI_clear : List Ent := [(0, .aload_n 0, 1, []), (1, .getfield 9, 3, [0, 3]), (4, .iconst 0, 1, []), (5, .invokestatic 19, 3, [1, 2, 4, 0]), (8, .aload_n 0, 1, []), (9, .iconst 0, 1, []), (10, .putfield 25, 3, [1, 3]), (13, .return_, 1, [])]
/-- StencilCuts.openLayers(I)I: method 73, 4 locals -/
def cS_openLayers : List Ent := [(0, .iconst 0, 1, []), (1, .istore_n 2, 1, []), (2, .iconst 0, 1, []), (3, .istore_n 3, 1, []), (4, .iload_n 3, 1, []), (5, .iconst 4, 1, []), (6, .if_icmp .ge 32, 3, []), (9, .aload_n 0, 1, []),
  (10, .getfield 22, 3, [2, 6]), (13, .iload_n 3, 1, []), (14, .aaload, 1, []), (15, .getfield 111, 3, [1, 4]), (18, .getfield 264, 3, [4, 0]), (21, .iload_n 1, 1, []), (22, .baload, 1, []), (23, .ifCond .eq 9, 3, []),
  (26, .iload_n 2, 1, []), (27, .iconst 1, 1, []), (28, .iload_n 3, 1, []), (29, .ishl, 1, []), (30, .ior, 1, []), (31, .istore_n 2, 1, []), (32, .iinc 3 1, 3, []), (35, .goto (-31), 3, []),
  (38, .iload_n 2, 1, []), (39, .ireturn, 1, [0])]
/-- StencilCuts$Picture.addCell(II)V: method 74, 3 locals -/
def cI_addCell : List Ent := [(0, .aload_n 0, 1, []), (1, .getfield 9, 3, [0, 3]), (4, .iload_n 1, 1, []), (5, .iconst 5, 1, []), (6, .imul, 1, []), (7, .iload_n 2, 1, []), (8, .iadd, 1, []), (9, .dup2, 1, []),
  (10, .iaload, 1, []), (11, .iconst 1, 1, []), (12, .iadd, 1, []), (13, .iastore, 1, []), (14, .aload_n 0, 1, []), (15, .dup, 1, []), (16, .getfield 25, 3, [1, 3]), (19, .iconst 1, 1, []),
  (20, .iadd, 1, []), (21, .putfield 25, 3, [1, 3]), (24, .return_, 1, [])]
/-- StencilCuts$Picture.colourOf(II)I: method 75, 5 locals -/
def cI_colourOf : List Ent := [(0, .iload_n 0, 1, []), (1, .istore_n 2, 1, []), (2, .iconst 0, 1, []), (3, .istore_n 3, 1, []), (4, .iload_n 3, 1, []), (5, .iconst 4, 1, []), (6, .if_icmp .ge 34, 3, []), (9, .iload_n 2, 1, []),
  (10, .bipush 10, 2, []), (12, .irem, 1, []), (13, .istore 4, 2, []), (15, .iload_n 1, 1, []), (16, .iload 4, 2, []), (18, .ishr, 1, []), (19, .iconst 1, 1, []), (20, .iand, 1, []),
  (21, .ifCond .eq 8, 3, []), (24, .iload 4, 2, []), (26, .iconst 1, 1, []), (27, .iadd, 1, []), (28, .ireturn, 1, [0]), (29, .iload_n 2, 1, []), (30, .bipush 10, 2, []), (32, .idiv, 1, []),
  (33, .istore_n 2, 1, []), (34, .iinc 3 1, 3, []), (37, .goto (-33), 3, []), (40, .iconst 0, 1, []), (41, .ireturn, 1, [0])]
/-- StencilCuts$Picture.wrongBy(I)I: method 76, 4 locals -/
def cI_wrongBy : List Ent := [(0, .iconst 0, 1, []), (1, .istore_n 2, 1, []), (2, .iconst 0, 1, []), (3, .istore_n 3, 1, []), (4, .iload_n 3, 1, []), (5, .bipush 16, 2, []), (7, .if_icmp .ge 26, 3, []), (10, .iload_n 2, 1, []),
  (11, .aload_n 0, 1, []), (12, .getfield 9, 3, [0, 3]), (15, .iload_n 3, 1, []), (16, .iconst 5, 1, []), (17, .imul, 1, []), (18, .iload_n 1, 1, []), (19, .iload_n 3, 1, []), (20, .invokestatic 29, 3, [75, 2, 5, 1]),
  (23, .iadd, 1, []), (24, .iaload, 1, []), (25, .iadd, 1, []), (26, .istore_n 2, 1, []), (27, .iinc 3 1, 3, []), (30, .goto (-26), 3, []), (33, .aload_n 0, 1, []), (34, .getfield 25, 3, [1, 3]),
  (37, .iload_n 2, 1, []), (38, .isub, 1, []), (39, .ireturn, 1, [0])]
/-- StencilCuts$Picture.findBest()V: method 77, 6 locals -/
def cI_findBest : List Ent := [(0, .aload_n 0, 1, []), (1, .aload_n 0, 1, []), (2, .getfield 25, 3, [1, 3]), (5, .iconst 1, 1, []), (6, .iadd, 1, []), (7, .putfield 33, 3, [3, 3]), (10, .aload_n 0, 1, []), (11, .iconst 0, 1, []),
  (12, .putfield 36, 3, [4, 3]), (15, .getstatic 39, 3, [29]), (18, .astore_n 1, 1, []), (19, .aload_n 1, 1, []), (20, .arraylength, 1, []), (21, .istore_n 2, 1, []), (22, .iconst 0, 1, []), (23, .istore_n 3, 1, []),
  (24, .iload_n 3, 1, []), (25, .iload_n 2, 1, []), (26, .if_icmp .ge 67, 3, []), (29, .aload_n 1, 1, []), (30, .iload_n 3, 1, []), (31, .iaload, 1, []), (32, .istore 4, 2, []), (34, .aload_n 0, 1, []),
  (35, .iload 4, 2, []), (37, .invokevirtual 42, 3, [76, 2, 4, 1, 3]), (40, .istore 5, 2, []), (42, .iload 5, 2, []), (44, .aload_n 0, 1, []), (45, .getfield 33, 3, [3, 3]), (48, .if_icmp .ge 20, 3, []), (51, .aload_n 0, 1, []),
  (52, .iload 4, 2, []), (54, .putfield 46, 3, [2, 3]), (57, .aload_n 0, 1, []), (58, .iload 5, 2, []), (60, .putfield 33, 3, [3, 3]), (63, .aload_n 0, 1, []), (64, .iconst 0, 1, []), (65, .putfield 36, 3, [4, 3]),
  (68, .iload 5, 2, []), (70, .aload_n 0, 1, []), (71, .getfield 33, 3, [3, 3]), (74, .if_icmp .ne 13, 3, []), (77, .aload_n 0, 1, []), (78, .dup, 1, []), (79, .getfield 36, 3, [4, 3]), (82, .iconst 1, 1, []),
  (83, .iadd, 1, []), (84, .putfield 36, 3, [4, 3]), (87, .iinc 3 1, 3, []), (90, .goto (-66), 3, []), (93, .return_, 1, [])]
/-- StencilCuts.judgePicture()V: method 78, 3 locals -/
def cS_judgePicture : List Ent := [(0, .aload_n 0, 1, []), (1, .getfield 32, 3, [3, 6]), (4, .getfield 85, 3, [5, 3]), (7, .ifCond .eq 4, 3, []), (10, .return_, 1, []), (11, .iconst 0, 1, []), (12, .istore_n 1, 1, []), (13, .iload_n 1, 1, []),
  (14, .iconst 4, 1, []), (15, .if_icmp .ge 24, 3, []), (18, .aload_n 0, 1, []), (19, .getfield 22, 3, [2, 6]), (22, .iload_n 1, 1, []), (23, .aaload, 1, []), (24, .aload_n 0, 1, []), (25, .getfield 12, 3, [0, 6]),
  (28, .iload_n 1, 1, []), (29, .invokevirtual 92, 3, [46, 3, 3, 8, 4]), (32, .pop, 1, []), (33, .iinc 1 1, 3, []), (36, .goto (-23), 3, []), (39, .aload_n 0, 1, []), (40, .getfield 32, 3, [3, 6]), (43, .invokevirtual 255, 3, [72, 1, 1, 0, 3]),
  (46, .iconst 0, 1, []), (47, .istore_n 1, 1, []), (48, .iload_n 1, 1, []), (49, .aload_n 0, 1, []), (50, .getfield 12, 3, [0, 6]), (53, .getfield 71, 3, [1, 5]), (56, .if_icmp .ge 53, 3, []), (59, .iconst 0, 1, []),
  (60, .istore_n 2, 1, []), (61, .iload_n 2, 1, []), (62, .aload_n 0, 1, []), (63, .getfield 12, 3, [0, 6]), (66, .getfield 240, 3, [0, 5]), (69, .if_icmp .ge 34, 3, []), (72, .aload_n 0, 1, []), (73, .getfield 32, 3, [3, 6]),
  (76, .aload_n 0, 1, []), (77, .iload_n 2, 1, []), (78, .iload_n 1, 1, []), (79, .invokestatic 96, 3, [47, 2, 2, 1]), (82, .invokevirtual 218, 3, [73, 2, 4, 1, 6]), (85, .aload_n 0, 1, []), (86, .getfield 12, 3, [0, 6]), (89, .iload_n 2, 1, []),
  (90, .iload_n 1, 1, []), (91, .invokevirtual 78, 3, [15, 3, 3, 1, 5]), (94, .invokevirtual 258, 3, [74, 3, 3, 0, 3]), (97, .iinc 2 1, 3, []), (100, .goto (-39), 3, []), (103, .iinc 1 1, 3, []), (106, .goto (-58), 3, []), (109, .aload_n 0, 1, []),
  (110, .getfield 32, 3, [3, 6]), (113, .invokevirtual 261, 3, [77, 1, 6, 0, 3]), (116, .aload_n 0, 1, []), (117, .getfield 32, 3, [3, 6]), (120, .iconst 1, 1, []), (121, .putfield 85, 3, [5, 3]), (124, .return_, 1, [])]
/-- StencilCuts.paint(II)I: method 79, 3 locals -/
def cS_paint : List Ent := [(0, .aload_n 0, 1, []), (1, .getfield 12, 3, [0, 6]), (4, .iload_n 1, 1, []), (5, .iload_n 2, 1, []), (6, .invokevirtual 55, 3, [8, 3, 3, 1, 5]), (9, .ifCond .ne 6, 3, []), (12, .bipush (-2), 2, []), (14, .ireturn, 1, [0]),
  (15, .aload_n 0, 1, []), (16, .invokevirtual 212, 3, [78, 1, 3, 0, 6]), (19, .aload_n 0, 1, []), (20, .getfield 32, 3, [3, 6]), (23, .getfield 215, 3, [2, 3]), (26, .aload_n 0, 1, []), (27, .iload_n 1, 1, []), (28, .iload_n 2, 1, []),
  (29, .invokestatic 96, 3, [47, 2, 2, 1]), (32, .invokevirtual 218, 3, [73, 2, 4, 1, 6]), (35, .invokestatic 221, 3, [75, 2, 5, 1]), (38, .ireturn, 1, [0])]
/-- StencilCuts.isOrder(I)Z: method 80, 5 locals -/
def cS_isOrder : List Ent := [(0, .getstatic 268, 3, [29]), (3, .astore_n 1, 1, []), (4, .aload_n 1, 1, []), (5, .arraylength, 1, []), (6, .istore_n 2, 1, []), (7, .iconst 0, 1, []), (8, .istore_n 3, 1, []), (9, .iload_n 3, 1, []),
  (10, .iload_n 2, 1, []), (11, .if_icmp .ge 22, 3, []), (14, .aload_n 1, 1, []), (15, .iload_n 3, 1, []), (16, .iaload, 1, []), (17, .istore 4, 2, []), (19, .iload 4, 2, []), (21, .iload_n 0, 1, []),
  (22, .if_icmp .ne 5, 3, []), (25, .iconst 1, 1, []), (26, .ireturn, 1, [1]), (27, .iinc 3 1, 3, []), (30, .goto (-21), 3, []), (33, .iconst 0, 1, []), (34, .ireturn, 1, [1])]
/-- StencilCuts.wrong(I)I: method 81, 2 locals -/
def cS_wrong : List Ent := [(0, .iload_n 1, 1, []), (1, .invokestatic 224, 3, [80, 1, 5, 1]), (4, .ifCond .ne 6, 3, []), (7, .bipush (-2), 2, []), (9, .ireturn, 1, [0]), (10, .aload_n 0, 1, []), (11, .invokevirtual 212, 3, [78, 1, 3, 0, 6]), (14, .aload_n 0, 1, []),
  (15, .getfield 32, 3, [3, 6]), (18, .iload_n 1, 1, []), (19, .invokevirtual 227, 3, [76, 2, 4, 1, 3]), (22, .ireturn, 1, [0])]
/-- StencilCuts.best(I)I: method 82, 2 locals -/
def cS_best : List Ent := [(0, .iload_n 1, 1, []), (1, .iconst 0, 1, []), (2, .iconst 2, 1, []), (3, .invokestatic 40, 3, [0, 3, 3, 1]), (6, .ifCond .ne 6, 3, []), (9, .bipush (-2), 2, []), (11, .ireturn, 1, [0]), (12, .aload_n 0, 1, []),
  (13, .invokevirtual 212, 3, [78, 1, 3, 0, 6]), (16, .iload_n 1, 1, []), (17, .lookupswitch 43 #[(0, 27), (1, 35)], 27, []), (44, .aload_n 0, 1, []), (45, .getfield 32, 3, [3, 6]), (48, .getfield 215, 3, [2, 3]), (51, .ireturn, 1, [0]), (52, .aload_n 0, 1, []),
  (53, .getfield 32, 3, [3, 6]), (56, .getfield 230, 3, [3, 3]), (59, .ireturn, 1, [0]), (60, .aload_n 0, 1, []), (61, .getfield 32, 3, [3, 6]), (64, .getfield 233, 3, [4, 3]), (67, .ireturn, 1, [0])]
/-- StencilCuts$Sheet.copyFrom(LStencilCuts$Sheet;)V: method 83, 2 locals -/
def cH_copyFrom : List Ent := [(0, .aload_n 0, 1, []), (1, .aload_n 1, 1, []), (2, .getfield 9, 3, [0, 5]), (5, .putfield 9, 3, [0, 5]), (8, .aload_n 0, 1, []), (9, .aload_n 1, 1, []), (10, .getfield 15, 3, [1, 5]), (13, .putfield 15, 3, [1, 5]),
  (16, .aload_n 1, 1, []), (17, .getfield 18, 3, [2, 5]), (20, .iconst 0, 1, []), (21, .aload_n 0, 1, []), (22, .getfield 18, 3, [2, 5]), (25, .iconst 0, 1, []), (26, .aload_n 0, 1, []), (27, .getfield 18, 3, [2, 5]),
  (30, .arraylength, 1, []), (31, .invokestatic 31, 3, [0]), (34, .aload_n 1, 1, []), (35, .getfield 22, 3, [3, 5]), (38, .iconst 0, 1, []), (39, .aload_n 0, 1, []), (40, .getfield 22, 3, [3, 5]), (43, .iconst 0, 1, []),
  (44, .aload_n 0, 1, []), (45, .getfield 22, 3, [3, 5]), (48, .arraylength, 1, []), (49, .invokestatic 31, 3, [0]), (52, .return_, 1, [])]
/-- StencilCuts.image(I)I: method 84, 2 locals -/
def cS_image : List Ent := [(0, .iload_n 1, 1, []), (1, .iconst 0, 1, []), (2, .iconst 1, 1, []), (3, .invokestatic 40, 3, [0, 3, 3, 1]), (6, .ifCond .ne 6, 3, []), (9, .bipush (-2), 2, []), (11, .ireturn, 1, [0]), (12, .aload_n 0, 1, []),
  (13, .getfield 16, 3, [1, 6]), (16, .iload_n 1, 1, []), (17, .aaload, 1, []), (18, .aload_n 0, 1, []), (19, .getfield 12, 3, [0, 6]), (22, .invokevirtual 236, 3, [83, 2, 2, 0, 5]), (25, .aload_n 0, 1, []), (26, .dup, 1, []),
  (27, .getfield 36, 3, [4, 6]), (30, .iconst 1, 1, []), (31, .iload_n 1, 1, []), (32, .ishl, 1, []), (33, .ior, 1, []), (34, .putfield 36, 3, [4, 6]), (37, .iconst 1, 1, []), (38, .ireturn, 1, [0])]
/-- StencilCuts.restore(I)I: method 85, 2 locals -/
def cS_restore : List Ent := [(0, .iload_n 1, 1, []), (1, .iconst 0, 1, []), (2, .iconst 1, 1, []), (3, .invokestatic 40, 3, [0, 3, 3, 1]), (6, .ifCond .ne 6, 3, []), (9, .bipush (-2), 2, []), (11, .ireturn, 1, [0]), (12, .aload_n 0, 1, []),
  (13, .getfield 36, 3, [4, 6]), (16, .iload_n 1, 1, []), (17, .ishr, 1, []), (18, .iconst 1, 1, []), (19, .iand, 1, []), (20, .ifCond .ne 6, 3, []), (23, .bipush (-3), 2, []), (25, .ireturn, 1, [0]),
  (26, .aload_n 0, 1, []), (27, .getfield 12, 3, [0, 6]), (30, .aload_n 0, 1, []), (31, .getfield 16, 3, [1, 6]), (34, .iload_n 1, 1, []), (35, .aaload, 1, []), (36, .invokevirtual 236, 3, [83, 2, 2, 0, 5]), (39, .aload_n 0, 1, []),
  (40, .invokevirtual 48, 3, [5, 1, 2, 0, 6]), (43, .iconst 1, 1, []), (44, .ireturn, 1, [0])]
/-- StencilCuts.openCellsOfAll()I: method 86, 3 locals -/
def cS_openCellsOfAll : List Ent := [(0, .iconst 0, 1, []), (1, .istore_n 1, 1, []), (2, .iconst 0, 1, []), (3, .istore_n 2, 1, []), (4, .iload_n 2, 1, []), (5, .iconst 4, 1, []), (6, .if_icmp .ge 20, 3, []), (9, .iload_n 1, 1, []),
  (10, .aload_n 0, 1, []), (11, .getfield 12, 3, [0, 6]), (14, .iload_n 2, 1, []), (15, .invokevirtual 67, 3, [11, 2, 4, 1, 5]), (18, .iadd, 1, []), (19, .istore_n 1, 1, []), (20, .iinc 2 1, 3, []), (23, .goto (-19), 3, []),
  (26, .iload_n 1, 1, []), (27, .ireturn, 1, [0])]
/-- StencilCuts$Sheet.wishedCells()I: method 87, 6 locals -/
def cH_wishedCells : List Ent := [(0, .iconst 0, 1, []), (1, .istore_n 1, 1, []), (2, .aload_n 0, 1, []), (3, .getfield 22, 3, [3, 5]), (6, .astore_n 2, 1, []), (7, .aload_n 2, 1, []), (8, .arraylength, 1, []), (9, .istore_n 3, 1, []),
  (10, .iconst 0, 1, []), (11, .istore 4, 2, []), (13, .iload 4, 2, []), (15, .iload_n 3, 1, []), (16, .if_icmp .ge 23, 3, []), (19, .aload_n 2, 1, []), (20, .iload 4, 2, []), (22, .iaload, 1, []),
  (23, .istore 5, 2, []), (25, .iload 5, 2, []), (27, .ifCond .le 6, 3, []), (30, .iinc 1 1, 3, []), (33, .iinc 4 1, 3, []), (36, .goto (-23), 3, []), (39, .iload_n 1, 1, []), (40, .ireturn, 1, [0])]
/-- StencilCuts.looseLayers()I: method 88, 3 locals -/
def cS_looseLayers : List Ent := [(0, .iconst 0, 1, []), (1, .istore_n 1, 1, []), (2, .iconst 0, 1, []), (3, .istore_n 2, 1, []), (4, .iload_n 2, 1, []), (5, .iconst 4, 1, []), (6, .if_icmp .ge 35, 3, []), (9, .aload_n 0, 1, []),
  (10, .getfield 22, 3, [2, 6]), (13, .iload_n 2, 1, []), (14, .aaload, 1, []), (15, .aload_n 0, 1, []), (16, .getfield 12, 3, [0, 6]), (19, .iload_n 2, 1, []), (20, .invokevirtual 92, 3, [46, 3, 3, 8, 4]), (23, .getfield 111, 3, [1, 4]),
  (26, .invokevirtual 133, 3, [54, 1, 3, 1, 0]), (29, .ifCond .le 6, 3, []), (32, .iinc 1 1, 3, []), (35, .iinc 2 1, 3, []), (38, .goto (-34), 3, []), (41, .iload_n 1, 1, []), (42, .ireturn, 1, [0])]
/-- StencilCuts.count(I)I: method 89, 2 locals -/
def cS_count : List Ent := [(0, .iload_n 1, 1, []), (1, .tableswitch 78 0 5 #[39, 47, 55, 60, 68, 73], 39, []), (40, .aload_n 0, 1, []), (41, .getfield 12, 3, [0, 6]), (44, .getfield 240, 3, [0, 5]), (47, .ireturn, 1, [0]), (48, .aload_n 0, 1, []), (49, .getfield 12, 3, [0, 6]),
  (52, .getfield 71, 3, [1, 5]), (55, .ireturn, 1, [0]), (56, .aload_n 0, 1, []), (57, .invokevirtual 243, 3, [86, 1, 3, 1, 6]), (60, .ireturn, 1, [0]), (61, .aload_n 0, 1, []), (62, .getfield 12, 3, [0, 6]), (65, .invokevirtual 246, 3, [87, 1, 6, 1, 5]),
  (68, .ireturn, 1, [0]), (69, .aload_n 0, 1, []), (70, .invokevirtual 249, 3, [88, 1, 3, 1, 6]), (73, .ireturn, 1, [0]), (74, .aload_n 0, 1, []), (75, .getfield 36, 3, [4, 6]), (78, .ireturn, 1, [0]), (79, .bipush (-2), 2, []),
  (81, .ireturn, 1, [0])]
/-- StencilCutsModel.in(III)Z: method 90, 3 locals -/
def cM_in : List Ent := [(0, .iload_n 0, 1, []), (1, .iload_n 1, 1, []), (2, .if_icmp .lt 12, 3, []), (5, .iload_n 0, 1, []), (6, .iload_n 2, 1, []), (7, .if_icmp .gt 7, 3, []), (10, .iconst 1, 1, []), (11, .goto 4, 3, []),
  (14, .iconst 0, 1, []), (15, .ireturn, 1, [1])]
/-- StencilCutsModel.isLayer(I)Z: method 91, 1 locals -/
def cM_isLayer : List Ent := [(0, .iload_n 0, 1, []), (1, .iconst 0, 1, []), (2, .iconst 3, 1, []), (3, .invokestatic 77, 3, [90, 3, 3, 1]), (6, .ireturn, 1, [1])]
/-- StencilCutsModel.isCell(II)Z: method 92, 3 locals -/
def cM_isCell : List Ent := [(0, .iload_n 1, 1, []), (1, .iconst 0, 1, []), (2, .aload_n 0, 1, []), (3, .getfield 7, 3, [0, 7]), (6, .sipush 500, 3, []), (9, .iaload, 1, []), (10, .iconst 1, 1, []), (11, .isub, 1, []),
  (12, .invokestatic 77, 3, [90, 3, 3, 1]), (15, .ifCond .eq 25, 3, []), (18, .iload_n 2, 1, []), (19, .iconst 0, 1, []), (20, .aload_n 0, 1, []), (21, .getfield 7, 3, [0, 7]), (24, .sipush 501, 3, []), (27, .iaload, 1, []),
  (28, .iconst 1, 1, []), (29, .isub, 1, []), (30, .invokestatic 77, 3, [90, 3, 3, 1]), (33, .ifCond .eq 7, 3, []), (36, .iconst 1, 1, []), (37, .goto 4, 3, []), (40, .iconst 0, 1, []), (41, .ireturn, 1, [1])]
/-- StencilCutsModel.at(II)I: method 93, 2 locals -/
def cM_at : List Ent := [(0, .bipush 10, 2, []), (2, .iload_n 1, 1, []), (3, .imul, 1, []), (4, .iload_n 0, 1, []), (5, .iadd, 1, []), (6, .ireturn, 1, [0])]
/-- StencilCutsModel.isCut(III)Z: method 94, 4 locals -/
def cM_isCut : List Ent := [(0, .aload_n 0, 1, []), (1, .iload_n 2, 1, []), (2, .iload_n 3, 1, []), (3, .invokevirtual 81, 3, [92, 3, 3, 1, 7]), (6, .ifCond .eq 26, 3, []), (9, .aload_n 0, 1, []), (10, .getfield 7, 3, [0, 7]), (13, .bipush 100, 2, []),
  (15, .iload_n 1, 1, []), (16, .imul, 1, []), (17, .iload_n 2, 1, []), (18, .iload_n 3, 1, []), (19, .invokestatic 85, 3, [93, 2, 2, 1]), (22, .iadd, 1, []), (23, .iaload, 1, []), (24, .iconst 1, 1, []),
  (25, .if_icmp .ne 7, 3, []), (28, .iconst 1, 1, []), (29, .goto 4, 3, []), (32, .iconst 0, 1, []), (33, .ireturn, 1, [1])]
/-- StencilCutsModel.isRim(II)Z: method 95, 3 locals -/
def cM_isRim : List Ent := [(0, .iload_n 1, 1, []), (1, .ifCond .eq 35, 3, []), (4, .iload_n 2, 1, []), (5, .ifCond .eq 31, 3, []), (8, .iload_n 1, 1, []), (9, .aload_n 0, 1, []), (10, .getfield 7, 3, [0, 7]), (13, .sipush 500, 3, []),
  (16, .iaload, 1, []), (17, .iconst 1, 1, []), (18, .isub, 1, []), (19, .if_icmp .eq 17, 3, []), (22, .iload_n 2, 1, []), (23, .aload_n 0, 1, []), (24, .getfield 7, 3, [0, 7]), (27, .sipush 501, 3, []),
  (30, .iaload, 1, []), (31, .iconst 1, 1, []), (32, .isub, 1, []), (33, .if_icmp .ne 7, 3, []), (36, .iconst 1, 1, []), (37, .goto 4, 3, []), (40, .iconst 0, 1, []), (41, .ireturn, 1, [1])]
/-- StencilCutsModel.cuts(I)I: method 96, 4 locals -/
def cM_cuts : List Ent := [(0, .iconst 0, 1, []), (1, .istore_n 2, 1, []), (2, .iconst 0, 1, []), (3, .istore_n 3, 1, []), (4, .iload_n 3, 1, []), (5, .bipush 100, 2, []), (7, .if_icmp .ge 23, 3, []), (10, .iload_n 2, 1, []),
  (11, .aload_n 0, 1, []), (12, .getfield 7, 3, [0, 7]), (15, .bipush 100, 2, []), (17, .iload_n 1, 1, []), (18, .imul, 1, []), (19, .iload_n 3, 1, []), (20, .iadd, 1, []), (21, .iaload, 1, []),
  (22, .iadd, 1, []), (23, .istore_n 2, 1, []), (24, .iinc 3 1, 3, []), (27, .goto (-23), 3, []), (30, .iload_n 2, 1, []), (31, .ireturn, 1, [0])]
/-- StencilCutsModel.sheet(II)I: method 97, 4 locals -/
def cM_sheet : List Ent := [(0, .iload_n 1, 1, []), (1, .iconst 3, 1, []), (2, .bipush 10, 2, []), (4, .invokestatic 77, 3, [90, 3, 3, 1]), (7, .ifCond .eq 13, 3, []), (10, .iload_n 2, 1, []), (11, .iconst 3, 1, []), (12, .bipush 10, 2, []),
  (14, .invokestatic 77, 3, [90, 3, 3, 1]), (17, .ifCond .ne 6, 3, []), (20, .bipush (-2), 2, []), (22, .ireturn, 1, [0]), (23, .iconst 0, 1, []), (24, .istore_n 3, 1, []), (25, .iload_n 3, 1, []), (26, .sipush 500, 3, []),
  (29, .if_icmp .ge 16, 3, []), (32, .aload_n 0, 1, []), (33, .getfield 7, 3, [0, 7]), (36, .iload_n 3, 1, []), (37, .iconst 0, 1, []), (38, .iastore, 1, []), (39, .iinc 3 1, 3, []), (42, .goto (-17), 3, []),
  (45, .aload_n 0, 1, []), (46, .getfield 7, 3, [0, 7]), (49, .sipush 500, 3, []), (52, .iload_n 1, 1, []), (53, .iastore, 1, []), (54, .aload_n 0, 1, []), (55, .getfield 7, 3, [0, 7]), (58, .sipush 501, 3, []),
  (61, .iload_n 2, 1, []), (62, .iastore, 1, []), (63, .iload_n 1, 1, []), (64, .iload_n 2, 1, []), (65, .imul, 1, []), (66, .ireturn, 1, [0])]
/-- StencilCutsModel.cut(IIII)I: method 98, 5 locals -/
def cM_cut : List Ent := [(0, .iload_n 1, 1, []), (1, .invokestatic 89, 3, [91, 1, 1, 1]), (4, .ifCond .ne 5, 3, []), (7, .iconst (-1), 1, []), (8, .ireturn, 1, [0]), (9, .aload_n 0, 1, []), (10, .iload_n 2, 1, []), (11, .iload_n 3, 1, []),
  (12, .invokevirtual 81, 3, [92, 3, 3, 1, 7]), (15, .ifCond .eq 13, 3, []), (18, .iload 4, 2, []), (20, .iconst 0, 1, []), (21, .iconst 1, 1, []), (22, .invokestatic 77, 3, [90, 3, 3, 1]), (25, .ifCond .ne 6, 3, []), (28, .bipush (-2), 2, []),
  (30, .ireturn, 1, [0]), (31, .aload_n 0, 1, []), (32, .getfield 7, 3, [0, 7]), (35, .bipush 100, 2, []), (37, .iload_n 1, 1, []), (38, .imul, 1, []), (39, .iload_n 2, 1, []), (40, .iload_n 3, 1, []),
  (41, .invokestatic 85, 3, [93, 2, 2, 1]), (44, .iadd, 1, []), (45, .iload 4, 2, []), (47, .iastore, 1, []), (48, .aload_n 0, 1, []), (49, .iload_n 1, 1, []), (50, .invokevirtual 93, 3, [96, 2, 4, 1, 7]), (53, .ireturn, 1, [0])]
/-- StencilCutsModel.row(III)I: method 99, 5 locals -/
def cM_row : List Ent := [(0, .iload_n 1, 1, []), (1, .invokestatic 89, 3, [91, 1, 1, 1]), (4, .ifCond .ne 5, 3, []), (7, .iconst (-1), 1, []), (8, .ireturn, 1, [0]), (9, .iload_n 2, 1, []), (10, .iconst 0, 1, []), (11, .aload_n 0, 1, []),
  (12, .getfield 7, 3, [0, 7]), (15, .sipush 501, 3, []), (18, .iaload, 1, []), (19, .iconst 1, 1, []), (20, .isub, 1, []), (21, .invokestatic 77, 3, [90, 3, 3, 1]), (24, .ifCond .eq 14, 3, []), (27, .iload_n 3, 1, []),
  (28, .iconst 0, 1, []), (29, .sipush 1023, 3, []), (32, .invokestatic 77, 3, [90, 3, 3, 1]), (35, .ifCond .ne 6, 3, []), (38, .bipush (-2), 2, []), (40, .ireturn, 1, [0]), (41, .iconst 0, 1, []), (42, .istore 4, 2, []),
  (44, .iload 4, 2, []), (46, .aload_n 0, 1, []), (47, .getfield 7, 3, [0, 7]), (50, .sipush 500, 3, []), (53, .iaload, 1, []), (54, .if_icmp .ge 31, 3, []), (57, .aload_n 0, 1, []), (58, .getfield 7, 3, [0, 7]),
  (61, .bipush 100, 2, []), (63, .iload_n 1, 1, []), (64, .imul, 1, []), (65, .iload 4, 2, []), (67, .iload_n 2, 1, []), (68, .invokestatic 85, 3, [93, 2, 2, 1]), (71, .iadd, 1, []), (72, .iload_n 3, 1, []),
  (73, .iload 4, 2, []), (75, .ishr, 1, []), (76, .iconst 1, 1, []), (77, .iand, 1, []), (78, .iastore, 1, []), (79, .iinc 4 1, 3, []), (82, .goto (-38), 3, []), (85, .aload_n 0, 1, []),
  (86, .iload_n 1, 1, []), (87, .invokevirtual 93, 3, [96, 2, 4, 1, 7]), (90, .ireturn, 1, [0])]
/-- StencilCutsModel.wish(III)I: method 100, 5 locals -/
def cM_wish : List Ent := [(0, .aload_n 0, 1, []), (1, .iload_n 1, 1, []), (2, .iload_n 2, 1, []), (3, .invokevirtual 81, 3, [92, 3, 3, 1, 7]), (6, .ifCond .eq 12, 3, []), (9, .iload_n 3, 1, []), (10, .iconst 0, 1, []), (11, .iconst 4, 1, []),
  (12, .invokestatic 77, 3, [90, 3, 3, 1]), (15, .ifCond .ne 6, 3, []), (18, .bipush (-2), 2, []), (20, .ireturn, 1, [0]), (21, .aload_n 0, 1, []), (22, .getfield 7, 3, [0, 7]), (25, .sipush 400, 3, []), (28, .iload_n 1, 1, []),
  (29, .iload_n 2, 1, []), (30, .invokestatic 85, 3, [93, 2, 2, 1]), (33, .iadd, 1, []), (34, .iaload, 1, []), (35, .istore 4, 2, []), (37, .aload_n 0, 1, []), (38, .getfield 7, 3, [0, 7]), (41, .sipush 400, 3, []),
  (44, .iload_n 1, 1, []), (45, .iload_n 2, 1, []), (46, .invokestatic 85, 3, [93, 2, 2, 1]), (49, .iadd, 1, []), (50, .iload_n 3, 1, []), (51, .iastore, 1, []), (52, .iload 4, 2, []), (54, .ireturn, 1, [0])]
/-- StencilCutsModel.lesserMark(IIIII)I: method 101, 7 locals -/
def cM_lesserMark : List Ent := [(0, .aload_n 0, 1, []), (1, .iload 4, 2, []), (3, .iload 5, 2, []), (5, .invokevirtual 81, 3, [92, 3, 3, 1, 7]), (8, .ifCond .eq 26, 3, []), (11, .aload_n 0, 1, []), (12, .iload_n 1, 1, []), (13, .iload_n 2, 1, []),
  (14, .iload_n 3, 1, []), (15, .invokevirtual 97, 3, [94, 4, 4, 1, 7]), (18, .aload_n 0, 1, []), (19, .iload_n 1, 1, []), (20, .iload 4, 2, []), (22, .iload 5, 2, []), (24, .invokevirtual 97, 3, [94, 4, 4, 1, 7]), (27, .if_icmp .ne 7, 3, []),
  (30, .iconst 1, 1, []), (31, .goto 4, 3, []), (34, .iconst 0, 1, []), (35, .istore 6, 2, []), (37, .iload 6, 2, []), (39, .ifCond .eq 43, 3, []), (42, .aload_n 0, 1, []), (43, .getfield 20, 3, [3, 7]),
  (46, .iload 4, 2, []), (48, .iload 5, 2, []), (50, .invokestatic 85, 3, [93, 2, 2, 1]), (53, .iaload, 1, []), (54, .aload_n 0, 1, []), (55, .getfield 20, 3, [3, 7]), (58, .iload_n 2, 1, []), (59, .iload_n 3, 1, []),
  (60, .invokestatic 85, 3, [93, 2, 2, 1]), (63, .iaload, 1, []), (64, .if_icmp .ge 18, 3, []), (67, .aload_n 0, 1, []), (68, .getfield 20, 3, [3, 7]), (71, .iload 4, 2, []), (73, .iload 5, 2, []), (75, .invokestatic 85, 3, [93, 2, 2, 1]),
  (78, .iaload, 1, []), (79, .goto 13, 3, []), (82, .aload_n 0, 1, []), (83, .getfield 20, 3, [3, 7]), (86, .iload_n 2, 1, []), (87, .iload_n 3, 1, []), (88, .invokestatic 85, 3, [93, 2, 2, 1]), (91, .iaload, 1, []),
  (92, .ireturn, 1, [0])]
/-- StencilCutsModel.spreadOnce(I)Z: method 102, 6 locals -/
def cM_spreadOnce : List Ent := [(0, .iconst 0, 1, []), (1, .istore_n 2, 1, []), (2, .iconst 0, 1, []), (3, .istore_n 3, 1, []), (4, .iload_n 3, 1, []), (5, .aload_n 0, 1, []), (6, .getfield 7, 3, [0, 7]), (9, .sipush 501, 3, []),
  (12, .iaload, 1, []), (13, .if_icmp .ge 166, 3, []), (16, .iconst 0, 1, []), (17, .istore 4, 2, []), (19, .iload 4, 2, []), (21, .aload_n 0, 1, []), (22, .getfield 7, 3, [0, 7]), (25, .sipush 500, 3, []),
  (28, .iaload, 1, []), (29, .if_icmp .ge 144, 3, []), (32, .aload_n 0, 1, []), (33, .getfield 20, 3, [3, 7]), (36, .iload 4, 2, []), (38, .iload_n 3, 1, []), (39, .invokestatic 85, 3, [93, 2, 2, 1]), (42, .iaload, 1, []),
  (43, .istore 5, 2, []), (45, .aload_n 0, 1, []), (46, .getfield 20, 3, [3, 7]), (49, .iload 4, 2, []), (51, .iload_n 3, 1, []), (52, .invokestatic 85, 3, [93, 2, 2, 1]), (55, .aload_n 0, 1, []), (56, .iload_n 1, 1, []),
  (57, .iload 4, 2, []), (59, .iload_n 3, 1, []), (60, .iload 4, 2, []), (62, .iconst 1, 1, []), (63, .isub, 1, []), (64, .iload_n 3, 1, []), (65, .invokevirtual 100, 3, [101, 6, 7, 1, 7]), (68, .iastore, 1, []),
  (69, .aload_n 0, 1, []), (70, .getfield 20, 3, [3, 7]), (73, .iload 4, 2, []), (75, .iload_n 3, 1, []), (76, .invokestatic 85, 3, [93, 2, 2, 1]), (79, .aload_n 0, 1, []), (80, .iload_n 1, 1, []), (81, .iload 4, 2, []),
  (83, .iload_n 3, 1, []), (84, .iload 4, 2, []), (86, .iconst 1, 1, []), (87, .iadd, 1, []), (88, .iload_n 3, 1, []), (89, .invokevirtual 100, 3, [101, 6, 7, 1, 7]), (92, .iastore, 1, []), (93, .aload_n 0, 1, []),
  (94, .getfield 20, 3, [3, 7]), (97, .iload 4, 2, []), (99, .iload_n 3, 1, []), (100, .invokestatic 85, 3, [93, 2, 2, 1]), (103, .aload_n 0, 1, []), (104, .iload_n 1, 1, []), (105, .iload 4, 2, []), (107, .iload_n 3, 1, []),
  (108, .iload 4, 2, []), (110, .iload_n 3, 1, []), (111, .iconst 1, 1, []), (112, .isub, 1, []), (113, .invokevirtual 100, 3, [101, 6, 7, 1, 7]), (116, .iastore, 1, []), (117, .aload_n 0, 1, []), (118, .getfield 20, 3, [3, 7]),
  (121, .iload 4, 2, []), (123, .iload_n 3, 1, []), (124, .invokestatic 85, 3, [93, 2, 2, 1]), (127, .aload_n 0, 1, []), (128, .iload_n 1, 1, []), (129, .iload 4, 2, []), (131, .iload_n 3, 1, []), (132, .iload 4, 2, []),
  (134, .iload_n 3, 1, []), (135, .iconst 1, 1, []), (136, .iadd, 1, []), (137, .invokevirtual 100, 3, [101, 6, 7, 1, 7]), (140, .iastore, 1, []), (141, .iload_n 2, 1, []), (142, .ifCond .ne 19, 3, []), (145, .aload_n 0, 1, []),
  (146, .getfield 20, 3, [3, 7]), (149, .iload 4, 2, []), (151, .iload_n 3, 1, []), (152, .invokestatic 85, 3, [93, 2, 2, 1]), (155, .iaload, 1, []), (156, .iload 5, 2, []), (158, .if_icmp .eq 7, 3, []), (161, .iconst 1, 1, []),
  (162, .goto 4, 3, []), (165, .iconst 0, 1, []), (166, .istore_n 2, 1, []), (167, .iinc 4 1, 3, []), (170, .goto (-151), 3, []), (173, .iinc 3 1, 3, []), (176, .goto (-172), 3, []), (179, .iload_n 2, 1, []),
  (180, .ireturn, 1, [1])]
/-- StencilCutsModel.number(III)V: method 103, 5 locals -/
def cM_number : List Ent := [(0, .iload_n 2, 1, []), (1, .iload_n 3, 1, []), (2, .invokestatic 85, 3, [93, 2, 2, 1]), (5, .istore 4, 2, []), (7, .aload_n 0, 1, []), (8, .getfield 23, 3, [4, 7]), (11, .iload 4, 2, []), (13, .bipush (-6), 2, []),
  (15, .iastore, 1, []), (16, .aload_n 0, 1, []), (17, .getfield 26, 3, [5, 7]), (20, .iload 4, 2, []), (22, .bipush (-6), 2, []), (24, .iastore, 1, []), (25, .aload_n 0, 1, []), (26, .getfield 20, 3, [3, 7]),
  (29, .iload 4, 2, []), (31, .iaload, 1, []), (32, .ifCond .ge 4, 3, []), (35, .return_, 1, []), (36, .aload_n 0, 1, []), (37, .iload_n 1, 1, []), (38, .iload_n 2, 1, []), (39, .iload_n 3, 1, []),
  (40, .invokevirtual 97, 3, [94, 4, 4, 1, 7]), (43, .ifCond .eq 70, 3, []), (46, .aload_n 0, 1, []), (47, .getfield 26, 3, [5, 7]), (50, .iload 4, 2, []), (52, .aload_n 0, 1, []), (53, .getfield 20, 3, [3, 7]), (56, .iload 4, 2, []),
  (58, .iaload, 1, []), (59, .iload 4, 2, []), (61, .if_icmp .ne 10, 3, []), (64, .aload_n 0, 1, []), (65, .getfield 114, 3, [7, 7]), (68, .goto 15, 3, []), (71, .aload_n 0, 1, []), (72, .getfield 26, 3, [5, 7]),
  (75, .aload_n 0, 1, []), (76, .getfield 20, 3, [3, 7]), (79, .iload 4, 2, []), (81, .iaload, 1, []), (82, .iaload, 1, []), (83, .iastore, 1, []), (84, .aload_n 0, 1, []), (85, .dup, 1, []),
  (86, .getfield 114, 3, [7, 7]), (89, .aload_n 0, 1, []), (90, .getfield 20, 3, [3, 7]), (93, .iload 4, 2, []), (95, .iaload, 1, []), (96, .iload 4, 2, []), (98, .if_icmp .ne 7, 3, []), (101, .iconst 1, 1, []),
  (102, .goto 4, 3, []), (105, .iconst 0, 1, []), (106, .iadd, 1, []), (107, .putfield 114, 3, [7, 7]), (110, .goto 67, 3, []), (113, .aload_n 0, 1, []), (114, .getfield 23, 3, [4, 7]), (117, .iload 4, 2, []),
  (119, .aload_n 0, 1, []), (120, .getfield 20, 3, [3, 7]), (123, .iload 4, 2, []), (125, .iaload, 1, []), (126, .iload 4, 2, []), (128, .if_icmp .ne 10, 3, []), (131, .aload_n 0, 1, []), (132, .getfield 110, 3, [6, 7]),
  (135, .goto 15, 3, []), (138, .aload_n 0, 1, []), (139, .getfield 23, 3, [4, 7]), (142, .aload_n 0, 1, []), (143, .getfield 20, 3, [3, 7]), (146, .iload 4, 2, []), (148, .iaload, 1, []), (149, .iaload, 1, []),
  (150, .iastore, 1, []), (151, .aload_n 0, 1, []), (152, .dup, 1, []), (153, .getfield 110, 3, [6, 7]), (156, .aload_n 0, 1, []), (157, .getfield 20, 3, [3, 7]), (160, .iload 4, 2, []), (162, .iaload, 1, []),
  (163, .iload 4, 2, []), (165, .if_icmp .ne 7, 3, []), (168, .iconst 1, 1, []), (169, .goto 4, 3, []), (172, .iconst 0, 1, []), (173, .iadd, 1, []), (174, .putfield 110, 3, [6, 7]), (177, .return_, 1, [])]
/-- StencilCutsModel.layPieces(I)V: method 104, 5 locals -/
def cM_layPieces : List Ent := [(0, .iconst 0, 1, []), (1, .istore_n 2, 1, []), (2, .iload_n 2, 1, []), (3, .aload_n 0, 1, []), (4, .getfield 7, 3, [0, 7]), (7, .sipush 501, 3, []), (10, .iaload, 1, []), (11, .if_icmp .ge 67, 3, []),
  (14, .iconst 0, 1, []), (15, .istore_n 3, 1, []), (16, .iload_n 3, 1, []), (17, .aload_n 0, 1, []), (18, .getfield 7, 3, [0, 7]), (21, .sipush 500, 3, []), (24, .iaload, 1, []), (25, .if_icmp .ge 47, 3, []),
  (28, .aload_n 0, 1, []), (29, .getfield 20, 3, [3, 7]), (32, .iload_n 3, 1, []), (33, .iload_n 2, 1, []), (34, .invokestatic 85, 3, [93, 2, 2, 1]), (37, .aload_n 0, 1, []), (38, .iload_n 3, 1, []), (39, .iload_n 2, 1, []),
  (40, .invokevirtual 104, 3, [95, 3, 3, 1, 7]), (43, .ifCond .eq 17, 3, []), (46, .aload_n 0, 1, []), (47, .iload_n 1, 1, []), (48, .iload_n 3, 1, []), (49, .iload_n 2, 1, []), (50, .invokevirtual 97, 3, [94, 4, 4, 1, 7]), (53, .ifCond .ne 7, 3, []),
  (56, .iconst (-1), 1, []), (57, .goto 8, 3, []), (60, .iload_n 3, 1, []), (61, .iload_n 2, 1, []), (62, .invokestatic 85, 3, [93, 2, 2, 1]), (65, .iastore, 1, []), (66, .iinc 3 1, 3, []), (69, .goto (-53), 3, []),
  (72, .iinc 2 1, 3, []), (75, .goto (-73), 3, []), (78, .iconst 1, 1, []), (79, .istore_n 2, 1, []), (80, .iload_n 2, 1, []), (81, .ifCond .eq 12, 3, []), (84, .aload_n 0, 1, []), (85, .iload_n 1, 1, []),
  (86, .invokevirtual 107, 3, [102, 2, 6, 1, 7]), (89, .istore_n 2, 1, []), (90, .goto (-10), 3, []), (93, .aload_n 0, 1, []), (94, .iconst 0, 1, []), (95, .putfield 110, 3, [6, 7]), (98, .aload_n 0, 1, []), (99, .iconst 0, 1, []),
  (100, .putfield 114, 3, [7, 7]), (103, .iconst 0, 1, []), (104, .istore_n 3, 1, []), (105, .iload_n 3, 1, []), (106, .aload_n 0, 1, []), (107, .getfield 7, 3, [0, 7]), (110, .sipush 501, 3, []), (113, .iaload, 1, []),
  (114, .if_icmp .ge 39, 3, []), (117, .iconst 0, 1, []), (118, .istore 4, 2, []), (120, .iload 4, 2, []), (122, .aload_n 0, 1, []), (123, .getfield 7, 3, [0, 7]), (126, .sipush 500, 3, []), (129, .iaload, 1, []),
  (130, .if_icmp .ge 17, 3, []), (133, .aload_n 0, 1, []), (134, .iload_n 1, 1, []), (135, .iload 4, 2, []), (137, .iload_n 3, 1, []), (138, .invokevirtual 117, 3, [103, 4, 5, 0, 7]), (141, .iinc 4 1, 3, []), (144, .goto (-24), 3, []),
  (147, .iinc 3 1, 3, []), (150, .goto (-45), 3, []), (153, .return_, 1, [])]
/-- StencilCutsModel.pieceAt(II)I: method 105, 3 locals -/
def cM_pieceAt : List Ent := [(0, .aload_n 0, 1, []), (1, .iload_n 1, 1, []), (2, .iload_n 2, 1, []), (3, .invokevirtual 81, 3, [92, 3, 3, 1, 7]), (6, .ifCond .eq 16, 3, []), (9, .aload_n 0, 1, []), (10, .getfield 20, 3, [3, 7]), (13, .iload_n 1, 1, []),
  (14, .iload_n 2, 1, []), (15, .invokestatic 85, 3, [93, 2, 2, 1]), (18, .iaload, 1, []), (19, .ifCond .ge 7, 3, []), (22, .iconst 0, 1, []), (23, .goto 15, 3, []), (26, .aload_n 0, 1, []), (27, .getfield 23, 3, [4, 7]),
  (30, .iload_n 1, 1, []), (31, .iload_n 2, 1, []), (32, .invokestatic 85, 3, [93, 2, 2, 1]), (35, .iaload, 1, []), (36, .iconst 1, 1, []), (37, .iadd, 1, []), (38, .ireturn, 1, [0])]
/-- StencilCutsModel.lengthFrom(IIII)I: method 106, 7 locals -/
def cM_lengthFrom : List Ent := [(0, .iconst 1, 1, []), (1, .iload 4, 2, []), (3, .isub, 1, []), (4, .istore 5, 2, []), (6, .aload_n 0, 1, []), (7, .iload_n 1, 1, []), (8, .iload_n 2, 1, []), (9, .iload 5, 2, []),
  (11, .isub, 1, []), (12, .iload_n 3, 1, []), (13, .iload 4, 2, []), (15, .isub, 1, []), (16, .invokevirtual 97, 3, [94, 4, 4, 1, 7]), (19, .ifCond .eq 5, 3, []), (22, .iconst 0, 1, []), (23, .ireturn, 1, [0]),
  (24, .iconst 0, 1, []), (25, .istore 6, 2, []), (27, .aload_n 0, 1, []), (28, .iload_n 1, 1, []), (29, .iload_n 2, 1, []), (30, .iload 6, 2, []), (32, .iload 5, 2, []), (34, .imul, 1, []),
  (35, .iadd, 1, []), (36, .iload_n 3, 1, []), (37, .iload 6, 2, []), (39, .iload 4, 2, []), (41, .imul, 1, []), (42, .iadd, 1, []), (43, .invokevirtual 97, 3, [94, 4, 4, 1, 7]), (46, .ifCond .eq 9, 3, []),
  (49, .iinc 6 1, 3, []), (52, .goto (-25), 3, []), (55, .iload 6, 2, []), (57, .ireturn, 1, [0])]
/-- StencilCutsModel.addRun(IIII)V: method 107, 7 locals -/
def cM_addRun : List Ent := [(0, .aload_n 0, 1, []), (1, .iload_n 1, 1, []), (2, .iconst 1, 1, []), (3, .iload 4, 2, []), (5, .isub, 1, []), (6, .isub, 1, []), (7, .iload_n 2, 1, []), (8, .iload 4, 2, []),
  (10, .isub, 1, []), (11, .invokevirtual 121, 3, [105, 3, 3, 1, 7]), (14, .istore 5, 2, []), (16, .aload_n 0, 1, []), (17, .iload_n 1, 1, []), (18, .iload_n 3, 1, []), (19, .iconst 1, 1, []), (20, .iload 4, 2, []),
  (22, .isub, 1, []), (23, .imul, 1, []), (24, .iadd, 1, []), (25, .iload_n 2, 1, []), (26, .iload_n 3, 1, []), (27, .iload 4, 2, []), (29, .imul, 1, []), (30, .iadd, 1, []),
  (31, .invokevirtual 121, 3, [105, 3, 3, 1, 7]), (34, .istore 6, 2, []), (36, .iload 5, 2, []), (38, .iload 6, 2, []), (40, .if_icmp .eq 76, 3, []), (43, .aload_n 0, 1, []), (44, .getfield 29, 3, [8, 7]), (47, .aload_n 0, 1, []),
  (48, .getfield 124, 3, [14, 7]), (51, .iload_n 1, 1, []), (52, .iastore, 1, []), (53, .aload_n 0, 1, []), (54, .getfield 32, 3, [9, 7]), (57, .aload_n 0, 1, []), (58, .getfield 124, 3, [14, 7]), (61, .iload_n 2, 1, []),
  (62, .iastore, 1, []), (63, .aload_n 0, 1, []), (64, .getfield 35, 3, [10, 7]), (67, .aload_n 0, 1, []), (68, .getfield 124, 3, [14, 7]), (71, .iload_n 3, 1, []), (72, .iastore, 1, []), (73, .aload_n 0, 1, []),
  (74, .getfield 38, 3, [11, 7]), (77, .aload_n 0, 1, []), (78, .getfield 124, 3, [14, 7]), (81, .iload 4, 2, []), (83, .iastore, 1, []), (84, .aload_n 0, 1, []), (85, .getfield 41, 3, [12, 7]), (88, .aload_n 0, 1, []),
  (89, .getfield 124, 3, [14, 7]), (92, .iload 5, 2, []), (94, .iastore, 1, []), (95, .aload_n 0, 1, []), (96, .getfield 44, 3, [13, 7]), (99, .aload_n 0, 1, []), (100, .getfield 124, 3, [14, 7]), (103, .iload 6, 2, []),
  (105, .iastore, 1, []), (106, .aload_n 0, 1, []), (107, .dup, 1, []), (108, .getfield 124, 3, [14, 7]), (111, .iconst 1, 1, []), (112, .iadd, 1, []), (113, .putfield 124, 3, [14, 7]), (116, .return_, 1, [])]
/-- StencilCutsModel.layRuns(I)V: method 108, 6 locals -/
def cM_layRuns : List Ent := [(0, .aload_n 0, 1, []), (1, .iload_n 1, 1, []), (2, .invokevirtual 127, 3, [104, 2, 5, 0, 7]), (5, .aload_n 0, 1, []), (6, .iconst 0, 1, []), (7, .putfield 124, 3, [14, 7]), (10, .iconst 1, 1, []), (11, .istore_n 2, 1, []),
  (12, .iload_n 2, 1, []), (13, .bipush 10, 2, []), (15, .if_icmp .gt 90, 3, []), (18, .iconst 0, 1, []), (19, .istore_n 3, 1, []), (20, .iload_n 3, 1, []), (21, .iconst 2, 1, []), (22, .if_icmp .ge 77, 3, []),
  (25, .iconst 0, 1, []), (26, .istore 4, 2, []), (28, .iload 4, 2, []), (30, .aload_n 0, 1, []), (31, .getfield 7, 3, [0, 7]), (34, .sipush 501, 3, []), (37, .iaload, 1, []), (38, .if_icmp .ge 55, 3, []),
  (41, .iconst 0, 1, []), (42, .istore 5, 2, []), (44, .iload 5, 2, []), (46, .aload_n 0, 1, []), (47, .getfield 7, 3, [0, 7]), (50, .sipush 500, 3, []), (53, .iaload, 1, []), (54, .if_icmp .ge 33, 3, []),
  (57, .aload_n 0, 1, []), (58, .iload_n 1, 1, []), (59, .iload 5, 2, []), (61, .iload 4, 2, []), (63, .iload_n 3, 1, []), (64, .invokevirtual 131, 3, [106, 5, 7, 1, 7]), (67, .iload_n 2, 1, []), (68, .if_icmp .ne 13, 3, []),
  (71, .aload_n 0, 1, []), (72, .iload 5, 2, []), (74, .iload 4, 2, []), (76, .iload_n 2, 1, []), (77, .iload_n 3, 1, []), (78, .invokevirtual 135, 3, [107, 5, 7, 0, 7]), (81, .iinc 5 1, 3, []), (84, .goto (-40), 3, []),
  (87, .iinc 4 1, 3, []), (90, .goto (-62), 3, []), (93, .iinc 3 1, 3, []), (96, .goto (-76), 3, []), (99, .iinc 2 1, 3, []), (102, .goto (-90), 3, []), (105, .return_, 1, [])]
/-- StencilCutsModel.untie()V: method 109, 2 locals -/
def cM_untie : List Ent := [(0, .iconst 0, 1, []), (1, .istore_n 1, 1, []), (2, .iload_n 1, 1, []), (3, .aload_n 0, 1, []), (4, .getfield 110, 3, [6, 7]), (7, .if_icmp .gt 16, 3, []), (10, .aload_n 0, 1, []), (11, .getfield 47, 3, [15, 7]),
  (14, .iload_n 1, 1, []), (15, .iload_n 1, 1, []), (16, .iastore, 1, []), (17, .iinc 1 1, 3, []), (20, .goto (-18), 3, []), (23, .return_, 1, [])]
/-- StencilCutsModel.tieBoth(II)V: method 110, 6 locals -/
def cM_tieBoth : List Ent := [(0, .aload_n 0, 1, []), (1, .getfield 47, 3, [15, 7]), (4, .iload_n 1, 1, []), (5, .iaload, 1, []), (6, .istore_n 3, 1, []), (7, .aload_n 0, 1, []), (8, .getfield 47, 3, [15, 7]), (11, .iload_n 2, 1, []),
  (12, .iaload, 1, []), (13, .istore 4, 2, []), (15, .iconst 0, 1, []), (16, .istore 5, 2, []), (18, .iload 5, 2, []), (20, .aload_n 0, 1, []), (21, .getfield 110, 3, [6, 7]), (24, .if_icmp .gt 39, 3, []),
  (27, .aload_n 0, 1, []), (28, .getfield 47, 3, [15, 7]), (31, .iload 5, 2, []), (33, .aload_n 0, 1, []), (34, .getfield 47, 3, [15, 7]), (37, .iload 5, 2, []), (39, .iaload, 1, []), (40, .iload_n 3, 1, []),
  (41, .if_icmp .ne 8, 3, []), (44, .iload 4, 2, []), (46, .goto 10, 3, []), (49, .aload_n 0, 1, []), (50, .getfield 47, 3, [15, 7]), (53, .iload 5, 2, []), (55, .iaload, 1, []), (56, .iastore, 1, []),
  (57, .iinc 5 1, 3, []), (60, .goto (-42), 3, []), (63, .return_, 1, [])]
/-- StencilCutsModel.isTaken(II)Z: method 111, 3 locals -/
def cM_isTaken : List Ent := [(0, .aload_n 0, 1, []), (1, .iload_n 1, 1, []), (2, .iload_n 2, 1, []), (3, .invokevirtual 81, 3, [92, 3, 3, 1, 7]), (6, .ifCond .eq 20, 3, []), (9, .aload_n 0, 1, []), (10, .getfield 53, 3, [17, 7]), (13, .iload_n 1, 1, []),
  (14, .iload_n 2, 1, []), (15, .invokestatic 85, 3, [93, 2, 2, 1]), (18, .iaload, 1, []), (19, .ifCond .lt 7, 3, []), (22, .iconst 1, 1, []), (23, .goto 4, 3, []), (26, .iconst 0, 1, []), (27, .ireturn, 1, [1])]
/-- StencilCutsModel.touches(I)Z: method 112, 6 locals -/
def cM_touches : List Ent := [(0, .iconst 0, 1, []), (1, .istore_n 2, 1, []), (2, .iconst 0, 1, []), (3, .istore_n 3, 1, []), (4, .iload_n 3, 1, []), (5, .aload_n 0, 1, []), (6, .getfield 35, 3, [10, 7]), (9, .iload_n 1, 1, []),
  (10, .iaload, 1, []), (11, .if_icmp .ge 118, 3, []), (14, .aload_n 0, 1, []), (15, .getfield 29, 3, [8, 7]), (18, .iload_n 1, 1, []), (19, .iaload, 1, []), (20, .iload_n 3, 1, []), (21, .iconst 1, 1, []),
  (22, .aload_n 0, 1, []), (23, .getfield 38, 3, [11, 7]), (26, .iload_n 1, 1, []), (27, .iaload, 1, []), (28, .isub, 1, []), (29, .imul, 1, []), (30, .iadd, 1, []), (31, .istore 4, 2, []),
  (33, .aload_n 0, 1, []), (34, .getfield 32, 3, [9, 7]), (37, .iload_n 1, 1, []), (38, .iaload, 1, []), (39, .iload_n 3, 1, []), (40, .aload_n 0, 1, []), (41, .getfield 38, 3, [11, 7]), (44, .iload_n 1, 1, []),
  (45, .iaload, 1, []), (46, .imul, 1, []), (47, .iadd, 1, []), (48, .istore 5, 2, []), (50, .iload_n 2, 1, []), (51, .ifCond .ne 66, 3, []), (54, .aload_n 0, 1, []), (55, .iload 4, 2, []),
  (57, .iload 5, 2, []), (59, .invokevirtual 139, 3, [111, 3, 3, 1, 7]), (62, .ifCond .ne 55, 3, []), (65, .aload_n 0, 1, []), (66, .iload 4, 2, []), (68, .iconst 1, 1, []), (69, .isub, 1, []), (70, .iload 5, 2, []),
  (72, .invokevirtual 139, 3, [111, 3, 3, 1, 7]), (75, .ifCond .ne 42, 3, []), (78, .aload_n 0, 1, []), (79, .iload 4, 2, []), (81, .iconst 1, 1, []), (82, .iadd, 1, []), (83, .iload 5, 2, []), (85, .invokevirtual 139, 3, [111, 3, 3, 1, 7]),
  (88, .ifCond .ne 29, 3, []), (91, .aload_n 0, 1, []), (92, .iload 4, 2, []), (94, .iload 5, 2, []), (96, .iconst 1, 1, []), (97, .isub, 1, []), (98, .invokevirtual 139, 3, [111, 3, 3, 1, 7]), (101, .ifCond .ne 16, 3, []),
  (104, .aload_n 0, 1, []), (105, .iload 4, 2, []), (107, .iload 5, 2, []), (109, .iconst 1, 1, []), (110, .iadd, 1, []), (111, .invokevirtual 139, 3, [111, 3, 3, 1, 7]), (114, .ifCond .eq 7, 3, []), (117, .iconst 1, 1, []),
  (118, .goto 4, 3, []), (121, .iconst 0, 1, []), (122, .istore_n 2, 1, []), (123, .iinc 3 1, 3, []), (126, .goto (-122), 3, []), (129, .iload_n 2, 1, []), (130, .ireturn, 1, [1])]
/-- StencilCutsModel.take(I)V: method 113, 3 locals -/
def cM_take : List Ent := [(0, .iconst 0, 1, []), (1, .istore_n 2, 1, []), (2, .iload_n 2, 1, []), (3, .aload_n 0, 1, []), (4, .getfield 35, 3, [10, 7]), (7, .iload_n 1, 1, []), (8, .iaload, 1, []), (9, .if_icmp .ge 53, 3, []),
  (12, .aload_n 0, 1, []), (13, .getfield 53, 3, [17, 7]), (16, .aload_n 0, 1, []), (17, .getfield 29, 3, [8, 7]), (20, .iload_n 1, 1, []), (21, .iaload, 1, []), (22, .iload_n 2, 1, []), (23, .iconst 1, 1, []),
  (24, .aload_n 0, 1, []), (25, .getfield 38, 3, [11, 7]), (28, .iload_n 1, 1, []), (29, .iaload, 1, []), (30, .isub, 1, []), (31, .imul, 1, []), (32, .iadd, 1, []), (33, .aload_n 0, 1, []),
  (34, .getfield 32, 3, [9, 7]), (37, .iload_n 1, 1, []), (38, .iaload, 1, []), (39, .iload_n 2, 1, []), (40, .aload_n 0, 1, []), (41, .getfield 38, 3, [11, 7]), (44, .iload_n 1, 1, []), (45, .iaload, 1, []),
  (46, .imul, 1, []), (47, .iadd, 1, []), (48, .invokestatic 85, 3, [93, 2, 2, 1]), (51, .aload_n 0, 1, []), (52, .getfield 142, 3, [18, 7]), (55, .iastore, 1, []), (56, .iinc 2 1, 3, []), (59, .goto (-57), 3, []),
  (62, .aload_n 0, 1, []), (63, .getfield 50, 3, [16, 7]), (66, .aload_n 0, 1, []), (67, .getfield 142, 3, [18, 7]), (70, .iload_n 1, 1, []), (71, .iastore, 1, []), (72, .aload_n 0, 1, []), (73, .dup, 1, []),
  (74, .getfield 142, 3, [18, 7]), (77, .iconst 1, 1, []), (78, .iadd, 1, []), (79, .putfield 142, 3, [18, 7]), (82, .return_, 1, [])]
/-- StencilCutsModel.layBridges(I)V: method 114, 3 locals -/
def cM_layBridges : List Ent := [(0, .aload_n 0, 1, []), (1, .iload_n 1, 1, []), (2, .invokevirtual 145, 3, [108, 2, 6, 0, 7]), (5, .aload_n 0, 1, []), (6, .invokevirtual 148, 3, [109, 1, 2, 0, 7]), (9, .aload_n 0, 1, []), (10, .iconst 0, 1, []), (11, .putfield 142, 3, [18, 7]),
  (14, .iconst 0, 1, []), (15, .istore_n 2, 1, []), (16, .iload_n 2, 1, []), (17, .bipush 100, 2, []), (19, .if_icmp .ge 17, 3, []), (22, .aload_n 0, 1, []), (23, .getfield 53, 3, [17, 7]), (26, .iload_n 2, 1, []),
  (27, .bipush (-6), 2, []), (29, .iastore, 1, []), (30, .iinc 2 1, 3, []), (33, .goto (-17), 3, []), (36, .iconst 0, 1, []), (37, .istore_n 2, 1, []), (38, .iload_n 2, 1, []), (39, .aload_n 0, 1, []),
  (40, .getfield 124, 3, [14, 7]), (43, .if_icmp .ge 63, 3, []), (46, .aload_n 0, 1, []), (47, .getfield 47, 3, [15, 7]), (50, .aload_n 0, 1, []), (51, .getfield 41, 3, [12, 7]), (54, .iload_n 2, 1, []), (55, .iaload, 1, []),
  (56, .iaload, 1, []), (57, .aload_n 0, 1, []), (58, .getfield 47, 3, [15, 7]), (61, .aload_n 0, 1, []), (62, .getfield 44, 3, [13, 7]), (65, .iload_n 2, 1, []), (66, .iaload, 1, []), (67, .iaload, 1, []),
  (68, .if_icmp .eq 32, 3, []), (71, .aload_n 0, 1, []), (72, .iload_n 2, 1, []), (73, .invokevirtual 151, 3, [112, 2, 6, 1, 7]), (76, .ifCond .ne 24, 3, []), (79, .aload_n 0, 1, []), (80, .aload_n 0, 1, []), (81, .getfield 41, 3, [12, 7]),
  (84, .iload_n 2, 1, []), (85, .iaload, 1, []), (86, .aload_n 0, 1, []), (87, .getfield 44, 3, [13, 7]), (90, .iload_n 2, 1, []), (91, .iaload, 1, []), (92, .invokevirtual 154, 3, [110, 3, 6, 0, 7]), (95, .aload_n 0, 1, []),
  (96, .iload_n 2, 1, []), (97, .invokevirtual 158, 3, [113, 2, 3, 0, 7]), (100, .iinc 2 1, 3, []), (103, .goto (-65), 3, []), (106, .return_, 1, [])]
/-- StencilCutsModel.least()I: method 115, 3 locals -/
def cM_least : List Ent := [(0, .aload_n 0, 1, []), (1, .invokevirtual 148, 3, [109, 1, 2, 0, 7]), (4, .iconst 0, 1, []), (5, .istore_n 1, 1, []), (6, .iconst 0, 1, []), (7, .istore_n 2, 1, []), (8, .iload_n 2, 1, []), (9, .aload_n 0, 1, []),
  (10, .getfield 124, 3, [14, 7]), (13, .if_icmp .ge 59, 3, []), (16, .aload_n 0, 1, []), (17, .getfield 47, 3, [15, 7]), (20, .aload_n 0, 1, []), (21, .getfield 41, 3, [12, 7]), (24, .iload_n 2, 1, []), (25, .iaload, 1, []),
  (26, .iaload, 1, []), (27, .aload_n 0, 1, []), (28, .getfield 47, 3, [15, 7]), (31, .aload_n 0, 1, []), (32, .getfield 44, 3, [13, 7]), (35, .iload_n 2, 1, []), (36, .iaload, 1, []), (37, .iaload, 1, []),
  (38, .if_icmp .eq 28, 3, []), (41, .aload_n 0, 1, []), (42, .aload_n 0, 1, []), (43, .getfield 41, 3, [12, 7]), (46, .iload_n 2, 1, []), (47, .iaload, 1, []), (48, .aload_n 0, 1, []), (49, .getfield 44, 3, [13, 7]),
  (52, .iload_n 2, 1, []), (53, .iaload, 1, []), (54, .invokevirtual 154, 3, [110, 3, 6, 0, 7]), (57, .iload_n 1, 1, []), (58, .aload_n 0, 1, []), (59, .getfield 35, 3, [10, 7]), (62, .iload_n 2, 1, []), (63, .iaload, 1, []),
  (64, .iadd, 1, []), (65, .istore_n 1, 1, []), (66, .iinc 2 1, 3, []), (69, .goto (-61), 3, []), (72, .iload_n 1, 1, []), (73, .ireturn, 1, [0])]
/-- StencilCutsModel.bridgeCells()I: method 116, 3 locals -/
def cM_bridgeCells : List Ent := [(0, .iconst 0, 1, []), (1, .istore_n 1, 1, []), (2, .iconst 0, 1, []), (3, .istore_n 2, 1, []), (4, .iload_n 2, 1, []), (5, .aload_n 0, 1, []), (6, .getfield 142, 3, [18, 7]), (9, .if_icmp .ge 23, 3, []),
  (12, .iload_n 1, 1, []), (13, .aload_n 0, 1, []), (14, .getfield 35, 3, [10, 7]), (17, .aload_n 0, 1, []), (18, .getfield 50, 3, [16, 7]), (21, .iload_n 2, 1, []), (22, .iaload, 1, []), (23, .iaload, 1, []),
  (24, .iadd, 1, []), (25, .istore_n 1, 1, []), (26, .iinc 2 1, 3, []), (29, .goto (-25), 3, []), (32, .iload_n 1, 1, []), (33, .ireturn, 1, [0])]
/-- StencilCutsModel.loose()I: method 117, 3 locals -/
def cM_loose : List Ent := [(0, .iconst 0, 1, []), (1, .istore_n 1, 1, []), (2, .iconst 1, 1, []), (3, .istore_n 2, 1, []), (4, .iload_n 2, 1, []), (5, .aload_n 0, 1, []), (6, .getfield 110, 3, [6, 7]), (9, .if_icmp .gt 32, 3, []),
  (12, .iload_n 1, 1, []), (13, .aload_n 0, 1, []), (14, .getfield 47, 3, [15, 7]), (17, .iload_n 2, 1, []), (18, .iaload, 1, []), (19, .aload_n 0, 1, []), (20, .getfield 47, 3, [15, 7]), (23, .iconst 0, 1, []),
  (24, .iaload, 1, []), (25, .if_icmp .eq 7, 3, []), (28, .iconst 1, 1, []), (29, .goto 4, 3, []), (32, .iconst 0, 1, []), (33, .iadd, 1, []), (34, .istore_n 1, 1, []), (35, .iinc 2 1, 3, []),
  (38, .goto (-34), 3, []), (41, .iload_n 1, 1, []), (42, .ireturn, 1, [0])]
/-- StencilCutsModel.cell(IIII)I: method 118, 6 locals -/
def cM_cell : List Ent := [(0, .iload_n 1, 1, []), (1, .invokestatic 89, 3, [91, 1, 1, 1]), (4, .ifCond .ne 5, 3, []), (7, .iconst (-1), 1, []), (8, .ireturn, 1, [0]), (9, .aload_n 0, 1, []), (10, .iload_n 2, 1, []), (11, .iload_n 3, 1, []),
  (12, .invokevirtual 81, 3, [92, 3, 3, 1, 7]), (15, .ifCond .eq 13, 3, []), (18, .iload 4, 2, []), (20, .iconst 0, 1, []), (21, .iconst 3, 1, []), (22, .invokestatic 77, 3, [90, 3, 3, 1]), (25, .ifCond .ne 6, 3, []), (28, .bipush (-2), 2, []),
  (30, .ireturn, 1, [0]), (31, .aload_n 0, 1, []), (32, .iload_n 1, 1, []), (33, .invokevirtual 161, 3, [114, 2, 3, 0, 7]), (36, .iload_n 2, 1, []), (37, .iload_n 3, 1, []), (38, .invokestatic 85, 3, [93, 2, 2, 1]), (41, .istore 5, 2, []),
  (43, .iload 4, 2, []), (45, .ifCond .ne 18, 3, []), (48, .aload_n 0, 1, []), (49, .getfield 7, 3, [0, 7]), (52, .bipush 100, 2, []), (54, .iload_n 1, 1, []), (55, .imul, 1, []), (56, .iload 5, 2, []),
  (58, .iadd, 1, []), (59, .iaload, 1, []), (60, .goto 42, 3, []), (63, .iload 4, 2, []), (65, .iconst 1, 1, []), (66, .if_icmp .ne 13, 3, []), (69, .aload_n 0, 1, []), (70, .getfield 23, 3, [4, 7]),
  (73, .iload 5, 2, []), (75, .iaload, 1, []), (76, .goto 26, 3, []), (79, .iload 4, 2, []), (81, .iconst 2, 1, []), (82, .if_icmp .ne 13, 3, []), (85, .aload_n 0, 1, []), (86, .getfield 26, 3, [5, 7]),
  (89, .iload 5, 2, []), (91, .iaload, 1, []), (92, .goto 10, 3, []), (95, .aload_n 0, 1, []), (96, .getfield 53, 3, [17, 7]), (99, .iload 5, 2, []), (101, .iaload, 1, []), (102, .ireturn, 1, [0])]
/-- StencilCutsModel.layer(II)I: method 119, 3 locals -/
def cM_layer : List Ent := [(0, .iload_n 1, 1, []), (1, .invokestatic 89, 3, [91, 1, 1, 1]), (4, .ifCond .ne 5, 3, []), (7, .iconst (-1), 1, []), (8, .ireturn, 1, [0]), (9, .aload_n 0, 1, []), (10, .iload_n 1, 1, []), (11, .invokevirtual 161, 3, [114, 2, 3, 0, 7]),
  (14, .iload_n 2, 1, []), (15, .tableswitch 86 0 7 #[45, 51, 56, 61, 66, 71, 76, 81], 45, []), (60, .aload_n 0, 1, []), (61, .iload_n 1, 1, []), (62, .invokevirtual 93, 3, [96, 2, 4, 1, 7]), (65, .ireturn, 1, [0]), (66, .aload_n 0, 1, []), (67, .getfield 110, 3, [6, 7]),
  (70, .ireturn, 1, [0]), (71, .aload_n 0, 1, []), (72, .getfield 114, 3, [7, 7]), (75, .ireturn, 1, [0]), (76, .aload_n 0, 1, []), (77, .getfield 142, 3, [18, 7]), (80, .ireturn, 1, [0]), (81, .aload_n 0, 1, []),
  (82, .invokevirtual 164, 3, [116, 1, 3, 1, 7]), (85, .ireturn, 1, [0]), (86, .aload_n 0, 1, []), (87, .invokevirtual 168, 3, [117, 1, 3, 1, 7]), (90, .ireturn, 1, [0]), (91, .aload_n 0, 1, []), (92, .invokevirtual 171, 3, [115, 1, 3, 1, 7]), (95, .ireturn, 1, [0]),
  (96, .aload_n 0, 1, []), (97, .getfield 124, 3, [14, 7]), (100, .ireturn, 1, [0]), (101, .bipush (-2), 2, []), (103, .ireturn, 1, [0])]
/-- StencilCutsModel.lesserDepth(IIIII)I: method 120, 8 locals -/
def cM_lesserDepth : List Ent := [(0, .aload_n 0, 1, []), (1, .getfield 56, 3, [19, 7]), (4, .iload_n 2, 1, []), (5, .iload_n 3, 1, []), (6, .invokestatic 85, 3, [93, 2, 2, 1]), (9, .iaload, 1, []), (10, .istore 6, 2, []), (12, .aload_n 0, 1, []),
  (13, .iload 4, 2, []), (15, .iload 5, 2, []), (17, .invokevirtual 81, 3, [92, 3, 3, 1, 7]), (20, .ifCond .ne 6, 3, []), (23, .iload 6, 2, []), (25, .ireturn, 1, [0]), (26, .aload_n 0, 1, []), (27, .getfield 56, 3, [19, 7]),
  (30, .iload 4, 2, []), (32, .iload 5, 2, []), (34, .invokestatic 85, 3, [93, 2, 2, 1]), (37, .iaload, 1, []), (38, .aload_n 0, 1, []), (39, .iload_n 1, 1, []), (40, .iload_n 2, 1, []), (41, .iload_n 3, 1, []),
  (42, .invokevirtual 97, 3, [94, 4, 4, 1, 7]), (45, .aload_n 0, 1, []), (46, .iload_n 1, 1, []), (47, .iload 4, 2, []), (49, .iload 5, 2, []), (51, .invokevirtual 97, 3, [94, 4, 4, 1, 7]), (54, .if_icmp .ne 7, 3, []), (57, .iconst 0, 1, []),
  (58, .goto 4, 3, []), (61, .iconst 1, 1, []), (62, .iadd, 1, []), (63, .istore 7, 2, []), (65, .iload 7, 2, []), (67, .iload 6, 2, []), (69, .if_icmp .ge 8, 3, []), (72, .iload 7, 2, []),
  (74, .goto 5, 3, []), (77, .iload 6, 2, []), (79, .ireturn, 1, [0])]
/-- StencilCutsModel.deepenOnce(I)Z: method 121, 6 locals -/
def cM_deepenOnce : List Ent := [(0, .iconst 0, 1, []), (1, .istore_n 2, 1, []), (2, .iconst 0, 1, []), (3, .istore_n 3, 1, []), (4, .iload_n 3, 1, []), (5, .aload_n 0, 1, []), (6, .getfield 7, 3, [0, 7]), (9, .sipush 501, 3, []),
  (12, .iaload, 1, []), (13, .if_icmp .ge 166, 3, []), (16, .iconst 0, 1, []), (17, .istore 4, 2, []), (19, .iload 4, 2, []), (21, .aload_n 0, 1, []), (22, .getfield 7, 3, [0, 7]), (25, .sipush 500, 3, []),
  (28, .iaload, 1, []), (29, .if_icmp .ge 144, 3, []), (32, .aload_n 0, 1, []), (33, .getfield 56, 3, [19, 7]), (36, .iload 4, 2, []), (38, .iload_n 3, 1, []), (39, .invokestatic 85, 3, [93, 2, 2, 1]), (42, .iaload, 1, []),
  (43, .istore 5, 2, []), (45, .aload_n 0, 1, []), (46, .getfield 56, 3, [19, 7]), (49, .iload 4, 2, []), (51, .iload_n 3, 1, []), (52, .invokestatic 85, 3, [93, 2, 2, 1]), (55, .aload_n 0, 1, []), (56, .iload_n 1, 1, []),
  (57, .iload 4, 2, []), (59, .iload_n 3, 1, []), (60, .iload 4, 2, []), (62, .iconst 1, 1, []), (63, .isub, 1, []), (64, .iload_n 3, 1, []), (65, .invokevirtual 174, 3, [120, 6, 8, 1, 7]), (68, .iastore, 1, []),
  (69, .aload_n 0, 1, []), (70, .getfield 56, 3, [19, 7]), (73, .iload 4, 2, []), (75, .iload_n 3, 1, []), (76, .invokestatic 85, 3, [93, 2, 2, 1]), (79, .aload_n 0, 1, []), (80, .iload_n 1, 1, []), (81, .iload 4, 2, []),
  (83, .iload_n 3, 1, []), (84, .iload 4, 2, []), (86, .iconst 1, 1, []), (87, .iadd, 1, []), (88, .iload_n 3, 1, []), (89, .invokevirtual 174, 3, [120, 6, 8, 1, 7]), (92, .iastore, 1, []), (93, .aload_n 0, 1, []),
  (94, .getfield 56, 3, [19, 7]), (97, .iload 4, 2, []), (99, .iload_n 3, 1, []), (100, .invokestatic 85, 3, [93, 2, 2, 1]), (103, .aload_n 0, 1, []), (104, .iload_n 1, 1, []), (105, .iload 4, 2, []), (107, .iload_n 3, 1, []),
  (108, .iload 4, 2, []), (110, .iload_n 3, 1, []), (111, .iconst 1, 1, []), (112, .isub, 1, []), (113, .invokevirtual 174, 3, [120, 6, 8, 1, 7]), (116, .iastore, 1, []), (117, .aload_n 0, 1, []), (118, .getfield 56, 3, [19, 7]),
  (121, .iload 4, 2, []), (123, .iload_n 3, 1, []), (124, .invokestatic 85, 3, [93, 2, 2, 1]), (127, .aload_n 0, 1, []), (128, .iload_n 1, 1, []), (129, .iload 4, 2, []), (131, .iload_n 3, 1, []), (132, .iload 4, 2, []),
  (134, .iload_n 3, 1, []), (135, .iconst 1, 1, []), (136, .iadd, 1, []), (137, .invokevirtual 174, 3, [120, 6, 8, 1, 7]), (140, .iastore, 1, []), (141, .iload_n 2, 1, []), (142, .ifCond .ne 19, 3, []), (145, .aload_n 0, 1, []),
  (146, .getfield 56, 3, [19, 7]), (149, .iload 4, 2, []), (151, .iload_n 3, 1, []), (152, .invokestatic 85, 3, [93, 2, 2, 1]), (155, .iaload, 1, []), (156, .iload 5, 2, []), (158, .if_icmp .eq 7, 3, []), (161, .iconst 1, 1, []),
  (162, .goto 4, 3, []), (165, .iconst 0, 1, []), (166, .istore_n 2, 1, []), (167, .iinc 4 1, 3, []), (170, .goto (-151), 3, []), (173, .iinc 3 1, 3, []), (176, .goto (-172), 3, []), (179, .iload_n 2, 1, []),
  (180, .ireturn, 1, [1])]
/-- StencilCutsModel.layDepths(I)V: method 122, 4 locals -/
def cM_layDepths : List Ent := [(0, .iconst 0, 1, []), (1, .istore_n 2, 1, []), (2, .iload_n 2, 1, []), (3, .aload_n 0, 1, []), (4, .getfield 7, 3, [0, 7]), (7, .sipush 501, 3, []), (10, .iaload, 1, []), (11, .if_icmp .ge 69, 3, []),
  (14, .iconst 0, 1, []), (15, .istore_n 3, 1, []), (16, .iload_n 3, 1, []), (17, .aload_n 0, 1, []), (18, .getfield 7, 3, [0, 7]), (21, .sipush 500, 3, []), (24, .iaload, 1, []), (25, .if_icmp .ge 49, 3, []),
  (28, .aload_n 0, 1, []), (29, .getfield 56, 3, [19, 7]), (32, .iload_n 3, 1, []), (33, .iload_n 2, 1, []), (34, .invokestatic 85, 3, [93, 2, 2, 1]), (37, .aload_n 0, 1, []), (38, .iload_n 3, 1, []), (39, .iload_n 2, 1, []),
  (40, .invokevirtual 104, 3, [95, 3, 3, 1, 7]), (43, .ifCond .ne 9, 3, []), (46, .sipush 1000, 3, []), (49, .goto 18, 3, []), (52, .aload_n 0, 1, []), (53, .iload_n 1, 1, []), (54, .iload_n 3, 1, []), (55, .iload_n 2, 1, []),
  (56, .invokevirtual 97, 3, [94, 4, 4, 1, 7]), (59, .ifCond .eq 7, 3, []), (62, .iconst 1, 1, []), (63, .goto 4, 3, []), (66, .iconst 0, 1, []), (67, .iastore, 1, []), (68, .iinc 3 1, 3, []), (71, .goto (-55), 3, []),
  (74, .iinc 2 1, 3, []), (77, .goto (-75), 3, []), (80, .iconst 1, 1, []), (81, .istore_n 2, 1, []), (82, .iload_n 2, 1, []), (83, .ifCond .eq 12, 3, []), (86, .aload_n 0, 1, []), (87, .iload_n 1, 1, []),
  (88, .invokevirtual 177, 3, [121, 2, 6, 1, 7]), (91, .istore_n 2, 1, []), (92, .goto (-10), 3, []), (95, .return_, 1, [])]
/-- StencilCutsModel.firstOf(I)I: method 123, 5 locals -/
def cM_firstOf : List Ent := [(0, .bipush (-6), 2, []), (2, .istore_n 2, 1, []), (3, .aload_n 0, 1, []), (4, .getfield 7, 3, [0, 7]), (7, .sipush 501, 3, []), (10, .iaload, 1, []), (11, .iconst 1, 1, []), (12, .isub, 1, []),
  (13, .istore_n 3, 1, []), (14, .iload_n 3, 1, []), (15, .ifCond .lt 58, 3, []), (18, .aload_n 0, 1, []), (19, .getfield 7, 3, [0, 7]), (22, .sipush 500, 3, []), (25, .iaload, 1, []), (26, .iconst 1, 1, []),
  (27, .isub, 1, []), (28, .istore 4, 2, []), (30, .iload 4, 2, []), (32, .ifCond .lt 35, 3, []), (35, .aload_n 0, 1, []), (36, .getfield 23, 3, [4, 7]), (39, .iload 4, 2, []), (41, .iload_n 3, 1, []),
  (42, .invokestatic 85, 3, [93, 2, 2, 1]), (45, .iaload, 1, []), (46, .iload_n 1, 1, []), (47, .if_icmp .ne 12, 3, []), (50, .iload 4, 2, []), (52, .iload_n 3, 1, []), (53, .invokestatic 85, 3, [93, 2, 2, 1]), (56, .goto 4, 3, []),
  (59, .iload_n 2, 1, []), (60, .istore_n 2, 1, []), (61, .iinc 4 (-1), 3, []), (64, .goto (-34), 3, []), (67, .iinc 3 (-1), 3, []), (70, .goto (-56), 3, []), (73, .iload_n 2, 1, []), (74, .ireturn, 1, [0])]
/-- StencilCutsModel.sizeOf(I)I: method 124, 5 locals -/
def cM_sizeOf : List Ent := [(0, .iconst 0, 1, []), (1, .istore_n 2, 1, []), (2, .iconst 0, 1, []), (3, .istore_n 3, 1, []), (4, .iload_n 3, 1, []), (5, .aload_n 0, 1, []), (6, .getfield 7, 3, [0, 7]), (9, .sipush 501, 3, []),
  (12, .iaload, 1, []), (13, .if_icmp .ge 54, 3, []), (16, .iconst 0, 1, []), (17, .istore 4, 2, []), (19, .iload 4, 2, []), (21, .aload_n 0, 1, []), (22, .getfield 7, 3, [0, 7]), (25, .sipush 500, 3, []),
  (28, .iaload, 1, []), (29, .if_icmp .ge 32, 3, []), (32, .iload_n 2, 1, []), (33, .aload_n 0, 1, []), (34, .getfield 23, 3, [4, 7]), (37, .iload 4, 2, []), (39, .iload_n 3, 1, []), (40, .invokestatic 85, 3, [93, 2, 2, 1]),
  (43, .iaload, 1, []), (44, .iload_n 1, 1, []), (45, .if_icmp .ne 7, 3, []), (48, .iconst 1, 1, []), (49, .goto 4, 3, []), (52, .iconst 0, 1, []), (53, .iadd, 1, []), (54, .istore_n 2, 1, []),
  (55, .iinc 4 1, 3, []), (58, .goto (-39), 3, []), (61, .iinc 3 1, 3, []), (64, .goto (-60), 3, []), (67, .iload_n 2, 1, []), (68, .ireturn, 1, [0])]
/-- StencilCutsModel.endsAt(I)I: method 125, 4 locals -/
def cM_endsAt : List Ent := [(0, .iconst 0, 1, []), (1, .istore_n 2, 1, []), (2, .iconst 0, 1, []), (3, .istore_n 3, 1, []), (4, .iload_n 3, 1, []), (5, .aload_n 0, 1, []), (6, .getfield 142, 3, [18, 7]), (9, .if_icmp .ge 47, 3, []),
  (12, .iload_n 2, 1, []), (13, .aload_n 0, 1, []), (14, .getfield 41, 3, [12, 7]), (17, .aload_n 0, 1, []), (18, .getfield 50, 3, [16, 7]), (21, .iload_n 3, 1, []), (22, .iaload, 1, []), (23, .iaload, 1, []),
  (24, .iload_n 1, 1, []), (25, .if_icmp .eq 18, 3, []), (28, .aload_n 0, 1, []), (29, .getfield 44, 3, [13, 7]), (32, .aload_n 0, 1, []), (33, .getfield 50, 3, [16, 7]), (36, .iload_n 3, 1, []), (37, .iaload, 1, []),
  (38, .iaload, 1, []), (39, .iload_n 1, 1, []), (40, .if_icmp .ne 7, 3, []), (43, .iconst 1, 1, []), (44, .goto 4, 3, []), (47, .iconst 0, 1, []), (48, .iadd, 1, []), (49, .istore_n 2, 1, []),
  (50, .iinc 3 1, 3, []), (53, .goto (-49), 3, []), (56, .iload_n 2, 1, []), (57, .ireturn, 1, [0])]
/-- StencilCutsModel.depthOf(II)I: method 126, 3 locals -/
def cM_depthOf : List Ent := [(0, .aload_n 0, 1, []), (1, .iload_n 1, 1, []), (2, .invokevirtual 180, 3, [122, 2, 4, 0, 7]), (5, .aload_n 0, 1, []), (6, .getfield 56, 3, [19, 7]), (9, .iload_n 2, 1, []), (10, .iaload, 1, []), (11, .ireturn, 1, [0])]
/-- StencilCutsModel.island(III)I: method 127, 5 locals -/
def cM_island : List Ent := [(0, .iload_n 1, 1, []), (1, .invokestatic 89, 3, [91, 1, 1, 1]), (4, .ifCond .ne 5, 3, []), (7, .iconst (-1), 1, []), (8, .ireturn, 1, [0]), (9, .iload_n 3, 1, []), (10, .iconst 0, 1, []), (11, .iconst 5, 1, []),
  (12, .invokestatic 77, 3, [90, 3, 3, 1]), (15, .ifCond .ne 6, 3, []), (18, .bipush (-2), 2, []), (20, .ireturn, 1, [0]), (21, .aload_n 0, 1, []), (22, .iload_n 1, 1, []), (23, .invokevirtual 161, 3, [114, 2, 3, 0, 7]), (26, .iload_n 2, 1, []),
  (27, .iconst 0, 1, []), (28, .aload_n 0, 1, []), (29, .getfield 110, 3, [6, 7]), (32, .iconst 1, 1, []), (33, .isub, 1, []), (34, .invokestatic 77, 3, [90, 3, 3, 1]), (37, .ifCond .ne 6, 3, []), (40, .bipush (-6), 2, []),
  (42, .ireturn, 1, [0]), (43, .aload_n 0, 1, []), (44, .iload_n 2, 1, []), (45, .invokevirtual 183, 3, [123, 2, 5, 1, 7]), (48, .istore 4, 2, []), (50, .iload_n 3, 1, []), (51, .tableswitch 82 0 4 #[33, 39, 47, 53, 59], 33, []), (84, .aload_n 0, 1, []),
  (85, .iload_n 2, 1, []), (86, .invokevirtual 186, 3, [124, 2, 5, 1, 7]), (89, .ireturn, 1, [0]), (90, .aload_n 0, 1, []), (91, .iload_n 1, 1, []), (92, .iload 4, 2, []), (94, .invokevirtual 189, 3, [126, 3, 3, 1, 7]), (97, .ireturn, 1, [0]),
  (98, .iload 4, 2, []), (100, .bipush 10, 2, []), (102, .irem, 1, []), (103, .ireturn, 1, [0]), (104, .iload 4, 2, []), (106, .bipush 10, 2, []), (108, .idiv, 1, []), (109, .ireturn, 1, [0]),
  (110, .aload_n 0, 1, []), (111, .getfield 47, 3, [15, 7]), (114, .iload_n 2, 1, []), (115, .iconst 1, 1, []), (116, .iadd, 1, []), (117, .iaload, 1, []), (118, .aload_n 0, 1, []), (119, .getfield 47, 3, [15, 7]),
  (122, .iconst 0, 1, []), (123, .iaload, 1, []), (124, .if_icmp .ne 7, 3, []), (127, .iconst 0, 1, []), (128, .goto 4, 3, []), (131, .iconst 1, 1, []), (132, .ireturn, 1, [0]), (133, .aload_n 0, 1, []),
  (134, .iload_n 2, 1, []), (135, .iconst 1, 1, []), (136, .iadd, 1, []), (137, .invokevirtual 192, 3, [125, 2, 4, 1, 7]), (140, .ireturn, 1, [0])]
/-- StencilCutsModel.asIsland(I)I: method 128, 1 locals -/
def cM_asIsland : List Ent := [(0, .iload_n 0, 1, []), (1, .ifCond .ne 8, 3, []), (4, .bipush (-6), 2, []), (6, .goto 6, 3, []), (9, .iload_n 0, 1, []), (10, .iconst 1, 1, []), (11, .isub, 1, []), (12, .ireturn, 1, [0])]
/-- StencilCutsModel.bridge(III)I: method 129, 5 locals -/
def cM_bridge : List Ent := [(0, .iload_n 1, 1, []), (1, .invokestatic 89, 3, [91, 1, 1, 1]), (4, .ifCond .ne 5, 3, []), (7, .iconst (-1), 1, []), (8, .ireturn, 1, [0]), (9, .iload_n 3, 1, []), (10, .iconst 0, 1, []), (11, .iconst 5, 1, []),
  (12, .invokestatic 77, 3, [90, 3, 3, 1]), (15, .ifCond .ne 6, 3, []), (18, .bipush (-2), 2, []), (20, .ireturn, 1, [0]), (21, .aload_n 0, 1, []), (22, .iload_n 1, 1, []), (23, .invokevirtual 161, 3, [114, 2, 3, 0, 7]), (26, .iload_n 2, 1, []),
  (27, .iconst 0, 1, []), (28, .aload_n 0, 1, []), (29, .getfield 142, 3, [18, 7]), (32, .iconst 1, 1, []), (33, .isub, 1, []), (34, .invokestatic 77, 3, [90, 3, 3, 1]), (37, .ifCond .ne 6, 3, []), (40, .bipush (-6), 2, []),
  (42, .ireturn, 1, [0]), (43, .aload_n 0, 1, []), (44, .getfield 50, 3, [16, 7]), (47, .iload_n 2, 1, []), (48, .iaload, 1, []), (49, .istore 4, 2, []), (51, .iload_n 3, 1, []), (52, .tableswitch 79 0 4 #[36, 44, 52, 60, 68], 36, []),
  (88, .aload_n 0, 1, []), (89, .getfield 29, 3, [8, 7]), (92, .iload 4, 2, []), (94, .iaload, 1, []), (95, .ireturn, 1, [0]), (96, .aload_n 0, 1, []), (97, .getfield 32, 3, [9, 7]), (100, .iload 4, 2, []),
  (102, .iaload, 1, []), (103, .ireturn, 1, [0]), (104, .aload_n 0, 1, []), (105, .getfield 35, 3, [10, 7]), (108, .iload 4, 2, []), (110, .iaload, 1, []), (111, .ireturn, 1, [0]), (112, .aload_n 0, 1, []),
  (113, .getfield 38, 3, [11, 7]), (116, .iload 4, 2, []), (118, .iaload, 1, []), (119, .ireturn, 1, [0]), (120, .aload_n 0, 1, []), (121, .getfield 41, 3, [12, 7]), (124, .iload 4, 2, []), (126, .iaload, 1, []),
  (127, .invokestatic 195, 3, [128, 1, 1, 1]), (130, .ireturn, 1, [0]), (131, .aload_n 0, 1, []), (132, .getfield 44, 3, [13, 7]), (135, .iload 4, 2, []), (137, .iaload, 1, []), (138, .invokestatic 195, 3, [128, 1, 1, 1]), (141, .ireturn, 1, [0])]
/-- StencilCutsModel.layBridged(I)V: method 130, 3 locals -/
def cM_layBridged : List Ent := [(0, .aload_n 0, 1, []), (1, .iload_n 1, 1, []), (2, .invokevirtual 161, 3, [114, 2, 3, 0, 7]), (5, .iconst 0, 1, []), (6, .istore_n 2, 1, []), (7, .iload_n 2, 1, []), (8, .bipush 100, 2, []), (10, .if_icmp .ge 49, 3, []),
  (13, .aload_n 0, 1, []), (14, .getfield 59, 3, [20, 7]), (17, .bipush 100, 2, []), (19, .iload_n 1, 1, []), (20, .imul, 1, []), (21, .iload_n 2, 1, []), (22, .iadd, 1, []), (23, .aload_n 0, 1, []),
  (24, .getfield 7, 3, [0, 7]), (27, .bipush 100, 2, []), (29, .iload_n 1, 1, []), (30, .imul, 1, []), (31, .iload_n 2, 1, []), (32, .iadd, 1, []), (33, .iaload, 1, []), (34, .iconst 1, 1, []),
  (35, .if_icmp .ne 16, 3, []), (38, .aload_n 0, 1, []), (39, .getfield 53, 3, [17, 7]), (42, .iload_n 2, 1, []), (43, .iaload, 1, []), (44, .ifCond .ge 7, 3, []), (47, .iconst 1, 1, []), (48, .goto 4, 3, []),
  (51, .iconst 0, 1, []), (52, .bastore, 1, []), (53, .iinc 2 1, 3, []), (56, .goto (-49), 3, []), (59, .return_, 1, [])]
/-- StencilCutsModel.isStillCut(III)Z: method 131, 4 locals -/
def cM_isStillCut : List Ent := [(0, .aload_n 0, 1, []), (1, .iload_n 2, 1, []), (2, .iload_n 3, 1, []), (3, .invokevirtual 81, 3, [92, 3, 3, 1, 7]), (6, .ifCond .eq 25, 3, []), (9, .aload_n 0, 1, []), (10, .getfield 59, 3, [20, 7]), (13, .bipush 100, 2, []),
  (15, .iload_n 1, 1, []), (16, .imul, 1, []), (17, .iload_n 2, 1, []), (18, .iload_n 3, 1, []), (19, .invokestatic 85, 3, [93, 2, 2, 1]), (22, .iadd, 1, []), (23, .baload, 1, []), (24, .ifCond .eq 7, 3, []),
  (27, .iconst 1, 1, []), (28, .goto 4, 3, []), (31, .iconst 0, 1, []), (32, .ireturn, 1, [1])]
/-- StencilCutsModel.corner(II)I: method 132, 2 locals -/
def cM_corner : List Ent := [(0, .bipush 11, 2, []), (2, .iload_n 1, 1, []), (3, .imul, 1, []), (4, .iload_n 0, 1, []), (5, .iadd, 1, []), (6, .ireturn, 1, [0])]
/-- StencilCutsModel.isEdge(IIII)Z: method 133, 5 locals -/
def cM_isEdge : List Ent := [(0, .aload_n 0, 1, []), (1, .iload_n 1, 1, []), (2, .iload_n 2, 1, []), (3, .iload_n 3, 1, []), (4, .invokevirtual 198, 3, [131, 4, 4, 1, 7]), (7, .aload_n 0, 1, []), (8, .iload_n 1, 1, []), (9, .iload_n 2, 1, []),
  (10, .iload 4, 2, []), (12, .isub, 1, []), (13, .iload_n 3, 1, []), (14, .iconst 1, 1, []), (15, .iload 4, 2, []), (17, .isub, 1, []), (18, .isub, 1, []), (19, .invokevirtual 198, 3, [131, 4, 4, 1, 7]),
  (22, .if_icmp .eq 47, 3, []), (25, .iload_n 2, 1, []), (26, .iconst 0, 1, []), (27, .aload_n 0, 1, []), (28, .getfield 7, 3, [0, 7]), (31, .sipush 500, 3, []), (34, .iaload, 1, []), (35, .iconst 1, 1, []),
  (36, .iload 4, 2, []), (38, .isub, 1, []), (39, .isub, 1, []), (40, .invokestatic 77, 3, [90, 3, 3, 1]), (43, .ifCond .eq 26, 3, []), (46, .iload_n 3, 1, []), (47, .iconst 0, 1, []), (48, .aload_n 0, 1, []),
  (49, .getfield 7, 3, [0, 7]), (52, .sipush 501, 3, []), (55, .iaload, 1, []), (56, .iload 4, 2, []), (58, .isub, 1, []), (59, .invokestatic 77, 3, [90, 3, 3, 1]), (62, .ifCond .eq 7, 3, []), (65, .iconst 1, 1, []),
  (66, .goto 4, 3, []), (69, .iconst 0, 1, []), (70, .ireturn, 1, [1])]
/-- StencilCutsModel.hasEdge(III)Z: method 134, 4 locals -/
def cM_hasEdge : List Ent := [(0, .aload_n 0, 1, []), (1, .iload_n 1, 1, []), (2, .iload_n 2, 1, []), (3, .iload_n 3, 1, []), (4, .iconst 0, 1, []), (5, .invokevirtual 201, 3, [133, 5, 5, 1, 7]), (8, .ifCond .ne 40, 3, []), (11, .aload_n 0, 1, []),
  (12, .iload_n 1, 1, []), (13, .iload_n 2, 1, []), (14, .iload_n 3, 1, []), (15, .iconst 1, 1, []), (16, .invokevirtual 201, 3, [133, 5, 5, 1, 7]), (19, .ifCond .ne 29, 3, []), (22, .aload_n 0, 1, []), (23, .iload_n 1, 1, []),
  (24, .iload_n 2, 1, []), (25, .iconst 1, 1, []), (26, .isub, 1, []), (27, .iload_n 3, 1, []), (28, .iconst 0, 1, []), (29, .invokevirtual 201, 3, [133, 5, 5, 1, 7]), (32, .ifCond .ne 16, 3, []), (35, .aload_n 0, 1, []),
  (36, .iload_n 1, 1, []), (37, .iload_n 2, 1, []), (38, .iload_n 3, 1, []), (39, .iconst 1, 1, []), (40, .isub, 1, []), (41, .iconst 1, 1, []), (42, .invokevirtual 201, 3, [133, 5, 5, 1, 7]), (45, .ifCond .eq 7, 3, []),
  (48, .iconst 1, 1, []), (49, .goto 4, 3, []), (52, .iconst 0, 1, []), (53, .ireturn, 1, [1])]
/-- StencilCutsModel.joinBoth(II)Z: method 135, 5 locals -/
def cM_joinBoth : List Ent := [(0, .aload_n 0, 1, []), (1, .getfield 62, 3, [21, 7]), (4, .iload_n 1, 1, []), (5, .iaload, 1, []), (6, .aload_n 0, 1, []), (7, .getfield 62, 3, [21, 7]), (10, .iload_n 2, 1, []), (11, .iaload, 1, []),
  (12, .if_icmp .ge 12, 3, []), (15, .aload_n 0, 1, []), (16, .getfield 62, 3, [21, 7]), (19, .iload_n 1, 1, []), (20, .iaload, 1, []), (21, .goto 9, 3, []), (24, .aload_n 0, 1, []), (25, .getfield 62, 3, [21, 7]),
  (28, .iload_n 2, 1, []), (29, .iaload, 1, []), (30, .istore_n 3, 1, []), (31, .aload_n 0, 1, []), (32, .getfield 62, 3, [21, 7]), (35, .iload_n 1, 1, []), (36, .iaload, 1, []), (37, .iload_n 3, 1, []),
  (38, .if_icmp .ne 13, 3, []), (41, .aload_n 0, 1, []), (42, .getfield 62, 3, [21, 7]), (45, .iload_n 2, 1, []), (46, .iaload, 1, []), (47, .iload_n 3, 1, []), (48, .if_icmp .eq 7, 3, []), (51, .iconst 1, 1, []),
  (52, .goto 4, 3, []), (55, .iconst 0, 1, []), (56, .istore 4, 2, []), (58, .aload_n 0, 1, []), (59, .getfield 62, 3, [21, 7]), (62, .iload_n 1, 1, []), (63, .iload_n 3, 1, []), (64, .iastore, 1, []),
  (65, .aload_n 0, 1, []), (66, .getfield 62, 3, [21, 7]), (69, .iload_n 2, 1, []), (70, .iload_n 3, 1, []), (71, .iastore, 1, []), (72, .iload 4, 2, []), (74, .ireturn, 1, [1])]
/-- StencilCutsModel.joinOnce(I)Z: method 136, 5 locals -/
def cM_joinOnce : List Ent := [(0, .iconst 0, 1, []), (1, .istore_n 2, 1, []), (2, .iconst 0, 1, []), (3, .istore_n 3, 1, []), (4, .iload_n 3, 1, []), (5, .aload_n 0, 1, []), (6, .getfield 7, 3, [0, 7]), (9, .sipush 501, 3, []),
  (12, .iaload, 1, []), (13, .if_icmp .gt 117, 3, []), (16, .iconst 0, 1, []), (17, .istore 4, 2, []), (19, .iload 4, 2, []), (21, .aload_n 0, 1, []), (22, .getfield 7, 3, [0, 7]), (25, .sipush 500, 3, []),
  (28, .iaload, 1, []), (29, .if_icmp .gt 95, 3, []), (32, .aload_n 0, 1, []), (33, .iload_n 1, 1, []), (34, .iload 4, 2, []), (36, .iload_n 3, 1, []), (37, .iconst 0, 1, []), (38, .invokevirtual 201, 3, [133, 5, 5, 1, 7]),
  (41, .ifCond .eq 34, 3, []), (44, .aload_n 0, 1, []), (45, .iload 4, 2, []), (47, .iload_n 3, 1, []), (48, .invokestatic 205, 3, [132, 2, 2, 1]), (51, .iload 4, 2, []), (53, .iconst 1, 1, []), (54, .iadd, 1, []),
  (55, .iload_n 3, 1, []), (56, .invokestatic 205, 3, [132, 2, 2, 1]), (59, .invokevirtual 208, 3, [135, 3, 5, 1, 7]), (62, .ifCond .ne 7, 3, []), (65, .iload_n 2, 1, []), (66, .ifCond .eq 7, 3, []), (69, .iconst 1, 1, []), (70, .goto 4, 3, []),
  (73, .iconst 0, 1, []), (74, .istore_n 2, 1, []), (75, .aload_n 0, 1, []), (76, .iload_n 1, 1, []), (77, .iload 4, 2, []), (79, .iload_n 3, 1, []), (80, .iconst 1, 1, []), (81, .invokevirtual 201, 3, [133, 5, 5, 1, 7]),
  (84, .ifCond .eq 34, 3, []), (87, .aload_n 0, 1, []), (88, .iload 4, 2, []), (90, .iload_n 3, 1, []), (91, .invokestatic 205, 3, [132, 2, 2, 1]), (94, .iload 4, 2, []), (96, .iload_n 3, 1, []), (97, .iconst 1, 1, []),
  (98, .iadd, 1, []), (99, .invokestatic 205, 3, [132, 2, 2, 1]), (102, .invokevirtual 208, 3, [135, 3, 5, 1, 7]), (105, .ifCond .ne 7, 3, []), (108, .iload_n 2, 1, []), (109, .ifCond .eq 7, 3, []), (112, .iconst 1, 1, []), (113, .goto 4, 3, []),
  (116, .iconst 0, 1, []), (117, .istore_n 2, 1, []), (118, .iinc 4 1, 3, []), (121, .goto (-102), 3, []), (124, .iinc 3 1, 3, []), (127, .goto (-123), 3, []), (130, .iload_n 2, 1, []), (131, .ireturn, 1, [1])]
/-- StencilCutsModel.layLoops(I)V: method 137, 4 locals -/
def cM_layLoops : List Ent := [(0, .aload_n 0, 1, []), (1, .iload_n 1, 1, []), (2, .invokevirtual 211, 3, [130, 2, 3, 0, 7]), (5, .iconst 0, 1, []), (6, .istore_n 2, 1, []), (7, .iload_n 2, 1, []), (8, .bipush 121, 2, []), (10, .if_icmp .ge 17, 3, []),
  (13, .aload_n 0, 1, []), (14, .getfield 62, 3, [21, 7]), (17, .iload_n 2, 1, []), (18, .bipush (-6), 2, []), (20, .iastore, 1, []), (21, .iinc 2 1, 3, []), (24, .goto (-17), 3, []), (27, .iconst 0, 1, []),
  (28, .istore_n 2, 1, []), (29, .iload_n 2, 1, []), (30, .aload_n 0, 1, []), (31, .getfield 7, 3, [0, 7]), (34, .sipush 501, 3, []), (37, .iaload, 1, []), (38, .if_icmp .gt 59, 3, []), (41, .iconst 0, 1, []),
  (42, .istore_n 3, 1, []), (43, .iload_n 3, 1, []), (44, .aload_n 0, 1, []), (45, .getfield 7, 3, [0, 7]), (48, .sipush 500, 3, []), (51, .iaload, 1, []), (52, .if_icmp .gt 39, 3, []), (55, .aload_n 0, 1, []),
  (56, .getfield 62, 3, [21, 7]), (59, .iload_n 3, 1, []), (60, .iload_n 2, 1, []), (61, .invokestatic 205, 3, [132, 2, 2, 1]), (64, .aload_n 0, 1, []), (65, .iload_n 1, 1, []), (66, .iload_n 3, 1, []), (67, .iload_n 2, 1, []),
  (68, .invokevirtual 214, 3, [134, 4, 4, 1, 7]), (71, .ifCond .eq 11, 3, []), (74, .iload_n 3, 1, []), (75, .iload_n 2, 1, []), (76, .invokestatic 205, 3, [132, 2, 2, 1]), (79, .goto 5, 3, []), (82, .bipush (-6), 2, []), (84, .iastore, 1, []),
  (85, .iinc 3 1, 3, []), (88, .goto (-45), 3, []), (91, .iinc 2 1, 3, []), (94, .goto (-65), 3, []), (97, .iconst 1, 1, []), (98, .istore_n 2, 1, []), (99, .iload_n 2, 1, []), (100, .ifCond .eq 12, 3, []),
  (103, .aload_n 0, 1, []), (104, .iload_n 1, 1, []), (105, .invokevirtual 217, 3, [136, 2, 5, 1, 7]), (108, .istore_n 2, 1, []), (109, .goto (-10), 3, []), (112, .aload_n 0, 1, []), (113, .iconst 0, 1, []), (114, .putfield 220, 3, [22, 7]),
  (117, .iconst 0, 1, []), (118, .istore_n 3, 1, []), (119, .iload_n 3, 1, []), (120, .bipush 121, 2, []), (122, .if_icmp .ge 39, 3, []), (125, .aload_n 0, 1, []), (126, .getfield 62, 3, [21, 7]), (129, .iload_n 3, 1, []),
  (130, .iaload, 1, []), (131, .iload_n 3, 1, []), (132, .if_icmp .ne 23, 3, []), (135, .aload_n 0, 1, []), (136, .getfield 65, 3, [23, 7]), (139, .aload_n 0, 1, []), (140, .getfield 220, 3, [22, 7]), (143, .iload_n 3, 1, []),
  (144, .iastore, 1, []), (145, .aload_n 0, 1, []), (146, .dup, 1, []), (147, .getfield 220, 3, [22, 7]), (150, .iconst 1, 1, []), (151, .iadd, 1, []), (152, .putfield 220, 3, [22, 7]), (155, .iinc 3 1, 3, []),
  (158, .goto (-39), 3, []), (161, .return_, 1, [])]
/-- StencilCutsModel.edges(II)I: method 138, 7 locals -/
def cM_edges : List Ent := [(0, .iconst 0, 1, []), (1, .istore_n 3, 1, []), (2, .iconst 0, 1, []), (3, .istore 4, 2, []), (5, .iload 4, 2, []), (7, .aload_n 0, 1, []), (8, .getfield 7, 3, [0, 7]), (11, .sipush 501, 3, []),
  (14, .iaload, 1, []), (15, .if_icmp .gt 115, 3, []), (18, .iconst 0, 1, []), (19, .istore 5, 2, []), (21, .iload 5, 2, []), (23, .aload_n 0, 1, []), (24, .getfield 7, 3, [0, 7]), (27, .sipush 500, 3, []),
  (30, .iaload, 1, []), (31, .if_icmp .gt 93, 3, []), (34, .iload_n 2, 1, []), (35, .ifCond .lt 24, 3, []), (38, .aload_n 0, 1, []), (39, .getfield 62, 3, [21, 7]), (42, .iload 5, 2, []), (44, .iload 4, 2, []),
  (46, .invokestatic 205, 3, [132, 2, 2, 1]), (49, .iaload, 1, []), (50, .aload_n 0, 1, []), (51, .getfield 65, 3, [23, 7]), (54, .iload_n 2, 1, []), (55, .iaload, 1, []), (56, .if_icmp .ne 7, 3, []), (59, .iconst 1, 1, []),
  (60, .goto 4, 3, []), (63, .iconst 0, 1, []), (64, .istore 6, 2, []), (66, .iload_n 3, 1, []), (67, .iload 6, 2, []), (69, .ifCond .eq 20, 3, []), (72, .aload_n 0, 1, []), (73, .iload_n 1, 1, []),
  (74, .iload 5, 2, []), (76, .iload 4, 2, []), (78, .iconst 0, 1, []), (79, .invokevirtual 201, 3, [133, 5, 5, 1, 7]), (82, .ifCond .eq 7, 3, []), (85, .iconst 1, 1, []), (86, .goto 4, 3, []), (89, .iconst 0, 1, []),
  (90, .iadd, 1, []), (91, .istore_n 3, 1, []), (92, .iload_n 3, 1, []), (93, .iload 6, 2, []), (95, .ifCond .eq 20, 3, []), (98, .aload_n 0, 1, []), (99, .iload_n 1, 1, []), (100, .iload 5, 2, []),
  (102, .iload 4, 2, []), (104, .iconst 1, 1, []), (105, .invokevirtual 201, 3, [133, 5, 5, 1, 7]), (108, .ifCond .eq 7, 3, []), (111, .iconst 1, 1, []), (112, .goto 4, 3, []), (115, .iconst 0, 1, []), (116, .iadd, 1, []),
  (117, .istore_n 3, 1, []), (118, .iinc 5 1, 3, []), (121, .goto (-100), 3, []), (124, .iinc 4 1, 3, []), (127, .goto (-122), 3, []), (130, .iload_n 3, 1, []), (131, .ireturn, 1, [0])]
/-- StencilCutsModel.size(I)I: method 139, 1 locals -/
def cM_size : List Ent := [(0, .iload_n 0, 1, []), (1, .ifCond .ge 8, 3, []), (4, .iload_n 0, 1, []), (5, .ineg, 1, []), (6, .goto 4, 3, []), (9, .iload_n 0, 1, []), (10, .ireturn, 1, [0])]
/-- StencilCutsModel.apart(II)I: method 140, 2 locals -/
def cM_apart : List Ent := [(0, .iload_n 0, 1, []), (1, .bipush 11, 2, []), (3, .irem, 1, []), (4, .iload_n 1, 1, []), (5, .bipush 11, 2, []), (7, .irem, 1, []), (8, .isub, 1, []), (9, .invokestatic 223, 3, [139, 1, 1, 1]),
  (12, .iload_n 0, 1, []), (13, .bipush 11, 2, []), (15, .idiv, 1, []), (16, .iload_n 1, 1, []), (17, .bipush 11, 2, []), (19, .idiv, 1, []), (20, .isub, 1, []), (21, .invokestatic 223, 3, [139, 1, 1, 1]),
  (24, .iadd, 1, []), (25, .ireturn, 1, [0])]
/-- StencilCutsModel.goOn(II)V: method 141, 7 locals -/
def cM_goOn : List Ent := [(0, .bipush (-6), 2, []), (2, .istore_n 3, 1, []), (3, .bipush (-6), 2, []), (5, .istore 4, 2, []), (7, .iconst 0, 1, []), (8, .istore 5, 2, []), (10, .iload 5, 2, []), (12, .aload_n 0, 1, []),
  (13, .getfield 220, 3, [22, 7]), (16, .if_icmp .ge 77, 3, []), (19, .iconst 0, 1, []), (20, .istore 6, 2, []), (22, .iload 6, 2, []), (24, .bipush 121, 2, []), (26, .if_icmp .ge 61, 3, []), (29, .aload_n 0, 1, []),
  (30, .getfield 68, 3, [24, 7]), (33, .iload 5, 2, []), (35, .baload, 1, []), (36, .ifCond .ne 51, 3, []), (39, .aload_n 0, 1, []), (40, .getfield 62, 3, [21, 7]), (43, .iload 6, 2, []), (45, .iaload, 1, []),
  (46, .aload_n 0, 1, []), (47, .getfield 65, 3, [23, 7]), (50, .iload 5, 2, []), (52, .iaload, 1, []), (53, .if_icmp .ne 28, 3, []), (56, .iload_n 3, 1, []), (57, .ifCond .lt 17, 3, []), (60, .iload_n 2, 1, []),
  (61, .iload 6, 2, []), (63, .invokestatic 226, 3, [140, 2, 2, 1]), (66, .iload_n 2, 1, []), (67, .iload_n 3, 1, []), (68, .invokestatic 226, 3, [140, 2, 2, 1]), (71, .if_icmp .ge 10, 3, []), (74, .iload 6, 2, []), (76, .istore_n 3, 1, []),
  (77, .iload 5, 2, []), (79, .istore 4, 2, []), (81, .iinc 6 1, 3, []), (84, .goto (-62), 3, []), (87, .iinc 5 1, 3, []), (90, .goto (-80), 3, []), (93, .aload_n 0, 1, []), (94, .getfield 71, 3, [25, 7]),
  (97, .iload_n 1, 1, []), (98, .iload 4, 2, []), (100, .iastore, 1, []), (101, .aload_n 0, 1, []), (102, .getfield 74, 3, [26, 7]), (105, .iload_n 1, 1, []), (106, .iload_n 3, 1, []), (107, .iastore, 1, []),
  (108, .aload_n 0, 1, []), (109, .getfield 68, 3, [24, 7]), (112, .iload 4, 2, []), (114, .iconst 1, 1, []), (115, .bastore, 1, []), (116, .aload_n 0, 1, []), (117, .dup, 1, []), (118, .getfield 229, 3, [27, 7]),
  (121, .iload_n 2, 1, []), (122, .iload_n 3, 1, []), (123, .invokestatic 226, 3, [140, 2, 2, 1]), (126, .iadd, 1, []), (127, .putfield 229, 3, [27, 7]), (130, .return_, 1, [])]
/-- StencilCutsModel.layKnife(I)V: method 142, 3 locals -/
def cM_layKnife : List Ent := [(0, .aload_n 0, 1, []), (1, .iload_n 1, 1, []), (2, .invokevirtual 232, 3, [137, 2, 4, 0, 7]), (5, .iconst 0, 1, []), (6, .istore_n 2, 1, []), (7, .iload_n 2, 1, []), (8, .aload_n 0, 1, []), (9, .getfield 220, 3, [22, 7]),
  (12, .if_icmp .ge 16, 3, []), (15, .aload_n 0, 1, []), (16, .getfield 68, 3, [24, 7]), (19, .iload_n 2, 1, []), (20, .iconst 0, 1, []), (21, .bastore, 1, []), (22, .iinc 2 1, 3, []), (25, .goto (-18), 3, []),
  (28, .aload_n 0, 1, []), (29, .iconst 0, 1, []), (30, .putfield 229, 3, [27, 7]), (33, .iconst 0, 1, []), (34, .istore_n 2, 1, []), (35, .iload_n 2, 1, []), (36, .aload_n 0, 1, []), (37, .getfield 220, 3, [22, 7]),
  (40, .if_icmp .ge 30, 3, []), (43, .aload_n 0, 1, []), (44, .iload_n 2, 1, []), (45, .iload_n 2, 1, []), (46, .ifCond .ne 7, 3, []), (49, .iconst 0, 1, []), (50, .goto 11, 3, []), (53, .aload_n 0, 1, []),
  (54, .getfield 74, 3, [26, 7]), (57, .iload_n 2, 1, []), (58, .iconst 1, 1, []), (59, .isub, 1, []), (60, .iaload, 1, []), (61, .invokevirtual 235, 3, [141, 3, 7, 0, 7]), (64, .iinc 2 1, 3, []), (67, .goto (-32), 3, []),
  (70, .return_, 1, [])]
/-- StencilCutsModel.knife(II)I: method 143, 3 locals -/
def cM_knife : List Ent := [(0, .iload_n 1, 1, []), (1, .invokestatic 89, 3, [91, 1, 1, 1]), (4, .ifCond .ne 5, 3, []), (7, .iconst (-1), 1, []), (8, .ireturn, 1, [0]), (9, .iload_n 2, 1, []), (10, .iconst 0, 1, []), (11, .iconst 2, 1, []),
  (12, .invokestatic 77, 3, [90, 3, 3, 1]), (15, .ifCond .ne 6, 3, []), (18, .bipush (-2), 2, []), (20, .ireturn, 1, [0]), (21, .aload_n 0, 1, []), (22, .iload_n 1, 1, []), (23, .invokevirtual 238, 3, [142, 2, 3, 0, 7]), (26, .iload_n 2, 1, []),
  (27, .ifCond .ne 13, 3, []), (30, .aload_n 0, 1, []), (31, .iload_n 1, 1, []), (32, .bipush (-6), 2, []), (34, .invokevirtual 241, 3, [138, 3, 7, 1, 7]), (37, .goto 19, 3, []), (40, .iload_n 2, 1, []), (41, .iconst 1, 1, []),
  (42, .if_icmp .ne 10, 3, []), (45, .aload_n 0, 1, []), (46, .getfield 220, 3, [22, 7]), (49, .goto 7, 3, []), (52, .aload_n 0, 1, []), (53, .getfield 229, 3, [27, 7]), (56, .ireturn, 1, [0])]
/-- StencilCutsModel.loop(III)I: method 144, 4 locals -/
def cM_loop : List Ent := [(0, .iload_n 1, 1, []), (1, .invokestatic 89, 3, [91, 1, 1, 1]), (4, .ifCond .ne 5, 3, []), (7, .iconst (-1), 1, []), (8, .ireturn, 1, [0]), (9, .iload_n 3, 1, []), (10, .iconst 0, 1, []), (11, .iconst 3, 1, []),
  (12, .invokestatic 77, 3, [90, 3, 3, 1]), (15, .ifCond .ne 6, 3, []), (18, .bipush (-2), 2, []), (20, .ireturn, 1, [0]), (21, .aload_n 0, 1, []), (22, .iload_n 1, 1, []), (23, .invokevirtual 238, 3, [142, 2, 3, 0, 7]), (26, .iload_n 2, 1, []),
  (27, .iconst 0, 1, []), (28, .aload_n 0, 1, []), (29, .getfield 220, 3, [22, 7]), (32, .iconst 1, 1, []), (33, .isub, 1, []), (34, .invokestatic 77, 3, [90, 3, 3, 1]), (37, .ifCond .ne 6, 3, []), (40, .bipush (-6), 2, []),
  (42, .ireturn, 1, [0]), (43, .iload_n 3, 1, []), (44, .ifCond .ne 12, 3, []), (47, .aload_n 0, 1, []), (48, .getfield 71, 3, [25, 7]), (51, .iload_n 2, 1, []), (52, .iaload, 1, []), (53, .goto 48, 3, []),
  (56, .iload_n 3, 1, []), (57, .iconst 1, 1, []), (58, .if_icmp .ne 17, 3, []), (61, .aload_n 0, 1, []), (62, .iload_n 1, 1, []), (63, .aload_n 0, 1, []), (64, .getfield 71, 3, [25, 7]), (67, .iload_n 2, 1, []),
  (68, .iaload, 1, []), (69, .invokevirtual 241, 3, [138, 3, 7, 1, 7]), (72, .goto 29, 3, []), (75, .iload_n 3, 1, []), (76, .iconst 2, 1, []), (77, .if_icmp .ne 15, 3, []), (80, .aload_n 0, 1, []), (81, .getfield 74, 3, [26, 7]),
  (84, .iload_n 2, 1, []), (85, .iaload, 1, []), (86, .bipush 11, 2, []), (88, .irem, 1, []), (89, .goto 12, 3, []), (92, .aload_n 0, 1, []), (93, .getfield 74, 3, [26, 7]), (96, .iload_n 2, 1, []),
  (97, .iaload, 1, []), (98, .bipush 11, 2, []), (100, .idiv, 1, []), (101, .ireturn, 1, [0])]
/-- StencilCutsModel.figure(II)I: method 145, 2 locals -/
def cM_figure : List Ent := [(0, .iload_n 1, 1, []), (1, .ifCond .ne 11, 3, []), (4, .iload_n 0, 1, []), (5, .sipush 1000, 3, []), (8, .idiv, 1, []), (9, .goto 37, 3, []), (12, .iload_n 1, 1, []), (13, .iconst 1, 1, []),
  (14, .if_icmp .ne 13, 3, []), (17, .iload_n 0, 1, []), (18, .bipush 100, 2, []), (20, .idiv, 1, []), (21, .bipush 10, 2, []), (23, .irem, 1, []), (24, .goto 22, 3, []), (27, .iload_n 1, 1, []),
  (28, .iconst 2, 1, []), (29, .if_icmp .ne 13, 3, []), (32, .iload_n 0, 1, []), (33, .bipush 10, 2, []), (35, .idiv, 1, []), (36, .bipush 10, 2, []), (38, .irem, 1, []), (39, .goto 7, 3, []),
  (42, .iload_n 0, 1, []), (43, .bipush 10, 2, []), (45, .irem, 1, []), (46, .ireturn, 1, [0])]
/-- StencilCutsModel.isOrder(I)Z: method 146, 3 locals -/
def cM_isOrder : List Ent := [(0, .iload_n 0, 1, []), (1, .bipush 123, 2, []), (3, .sipush 3210, 3, []), (6, .invokestatic 77, 3, [90, 3, 3, 1]), (9, .ifCond .ne 5, 3, []), (12, .iconst 0, 1, []), (13, .ireturn, 1, [1]), (14, .iconst 0, 1, []),
  (15, .istore_n 1, 1, []), (16, .iconst 0, 1, []), (17, .istore_n 2, 1, []), (18, .iload_n 2, 1, []), (19, .iconst 4, 1, []), (20, .if_icmp .ge 19, 3, []), (23, .iload_n 1, 1, []), (24, .iconst 1, 1, []),
  (25, .iload_n 0, 1, []), (26, .iload_n 2, 1, []), (27, .invokestatic 244, 3, [145, 2, 2, 1]), (30, .ishl, 1, []), (31, .ior, 1, []), (32, .istore_n 1, 1, []), (33, .iinc 2 1, 3, []), (36, .goto (-18), 3, []),
  (39, .iload_n 1, 1, []), (40, .bipush 15, 2, []), (42, .if_icmp .ne 7, 3, []), (45, .iconst 1, 1, []), (46, .goto 4, 3, []), (49, .iconst 0, 1, []), (50, .ireturn, 1, [1])]
/-- StencilCutsModel.layAll()V: method 147, 2 locals -/
def cM_layAll : List Ent := [(0, .iconst 0, 1, []), (1, .istore_n 1, 1, []), (2, .iload_n 1, 1, []), (3, .iconst 4, 1, []), (4, .if_icmp .ge 14, 3, []), (7, .aload_n 0, 1, []), (8, .iload_n 1, 1, []), (9, .invokevirtual 211, 3, [130, 2, 3, 0, 7]),
  (12, .iinc 1 1, 3, []), (15, .goto (-13), 3, []), (18, .return_, 1, [])]
/-- StencilCutsModel.colourBy(III)I: method 148, 7 locals -/
def cM_colourBy : List Ent := [(0, .iconst 0, 1, []), (1, .istore 4, 2, []), (3, .iconst 0, 1, []), (4, .istore 5, 2, []), (6, .iload 5, 2, []), (8, .iconst 4, 1, []), (9, .if_icmp .ge 39, 3, []), (12, .iload_n 1, 1, []),
  (13, .iload 5, 2, []), (15, .invokestatic 244, 3, [145, 2, 2, 1]), (18, .istore 6, 2, []), (20, .aload_n 0, 1, []), (21, .iload 6, 2, []), (23, .iload_n 2, 1, []), (24, .iload_n 3, 1, []), (25, .invokevirtual 198, 3, [131, 4, 4, 1, 7]),
  (28, .ifCond .eq 10, 3, []), (31, .iload 6, 2, []), (33, .iconst 1, 1, []), (34, .iadd, 1, []), (35, .goto 5, 3, []), (38, .iload 4, 2, []), (40, .istore 4, 2, []), (42, .iinc 5 1, 3, []),
  (45, .goto (-39), 3, []), (48, .iload 4, 2, []), (50, .ireturn, 1, [0])]
/-- StencilCutsModel.wrongBy(I)I: method 149, 5 locals -/
def cM_wrongBy : List Ent := [(0, .iconst 0, 1, []), (1, .istore_n 2, 1, []), (2, .iconst 0, 1, []), (3, .istore_n 3, 1, []), (4, .iload_n 3, 1, []), (5, .aload_n 0, 1, []), (6, .getfield 7, 3, [0, 7]), (9, .sipush 501, 3, []),
  (12, .iaload, 1, []), (13, .if_icmp .ge 65, 3, []), (16, .iconst 0, 1, []), (17, .istore 4, 2, []), (19, .iload 4, 2, []), (21, .aload_n 0, 1, []), (22, .getfield 7, 3, [0, 7]), (25, .sipush 500, 3, []),
  (28, .iaload, 1, []), (29, .if_icmp .ge 43, 3, []), (32, .iload_n 2, 1, []), (33, .aload_n 0, 1, []), (34, .iload_n 1, 1, []), (35, .iload 4, 2, []), (37, .iload_n 3, 1, []), (38, .invokevirtual 247, 3, [148, 4, 7, 1, 7]),
  (41, .aload_n 0, 1, []), (42, .getfield 7, 3, [0, 7]), (45, .sipush 400, 3, []), (48, .iload 4, 2, []), (50, .iload_n 3, 1, []), (51, .invokestatic 85, 3, [93, 2, 2, 1]), (54, .iadd, 1, []), (55, .iaload, 1, []),
  (56, .if_icmp .ne 7, 3, []), (59, .iconst 0, 1, []), (60, .goto 4, 3, []), (63, .iconst 1, 1, []), (64, .iadd, 1, []), (65, .istore_n 2, 1, []), (66, .iinc 4 1, 3, []), (69, .goto (-50), 3, []),
  (72, .iinc 3 1, 3, []), (75, .goto (-71), 3, []), (78, .iload_n 2, 1, []), (79, .ireturn, 1, [0])]
/-- StencilCutsModel.bestOrder()I: method 150, 4 locals -/
def cM_bestOrder : List Ent := [(0, .aload_n 0, 1, []), (1, .sipush 1000, 3, []), (4, .putfield 251, 3, [28, 7]), (7, .aload_n 0, 1, []), (8, .iconst 0, 1, []), (9, .putfield 254, 3, [29, 7]), (12, .bipush (-6), 2, []), (14, .istore_n 1, 1, []),
  (15, .bipush 123, 2, []), (17, .istore_n 2, 1, []), (18, .iload_n 2, 1, []), (19, .sipush 3210, 3, []), (22, .if_icmp .gt 70, 3, []), (25, .iload_n 2, 1, []), (26, .invokestatic 257, 3, [146, 1, 3, 1]), (29, .ifCond .eq 11, 3, []),
  (32, .aload_n 0, 1, []), (33, .iload_n 2, 1, []), (34, .invokevirtual 260, 3, [149, 2, 5, 1, 7]), (37, .goto 6, 3, []), (40, .sipush 1001, 3, []), (43, .istore_n 3, 1, []), (44, .iload_n 3, 1, []), (45, .aload_n 0, 1, []),
  (46, .getfield 251, 3, [28, 7]), (49, .if_icmp .ge 15, 3, []), (52, .aload_n 0, 1, []), (53, .iload_n 3, 1, []), (54, .putfield 251, 3, [28, 7]), (57, .aload_n 0, 1, []), (58, .iconst 0, 1, []), (59, .putfield 254, 3, [29, 7]),
  (62, .iload_n 2, 1, []), (63, .istore_n 1, 1, []), (64, .aload_n 0, 1, []), (65, .dup, 1, []), (66, .getfield 254, 3, [29, 7]), (69, .iload_n 3, 1, []), (70, .aload_n 0, 1, []), (71, .getfield 251, 3, [28, 7]),
  (74, .if_icmp .ne 7, 3, []), (77, .iconst 1, 1, []), (78, .goto 4, 3, []), (81, .iconst 0, 1, []), (82, .iadd, 1, []), (83, .putfield 254, 3, [29, 7]), (86, .iinc 2 1, 3, []), (89, .goto (-71), 3, []),
  (92, .iload_n 1, 1, []), (93, .ireturn, 1, [0])]
/-- StencilCutsModel.paint(II)I: method 151, 3 locals -/
def cM_paint : List Ent := [(0, .aload_n 0, 1, []), (1, .iload_n 1, 1, []), (2, .iload_n 2, 1, []), (3, .invokevirtual 81, 3, [92, 3, 3, 1, 7]), (6, .ifCond .ne 6, 3, []), (9, .bipush (-2), 2, []), (11, .ireturn, 1, [0]), (12, .aload_n 0, 1, []),
  (13, .invokevirtual 263, 3, [147, 1, 2, 0, 7]), (16, .aload_n 0, 1, []), (17, .aload_n 0, 1, []), (18, .invokevirtual 266, 3, [150, 1, 4, 1, 7]), (21, .iload_n 1, 1, []), (22, .iload_n 2, 1, []), (23, .invokevirtual 247, 3, [148, 4, 7, 1, 7]), (26, .ireturn, 1, [0])]
/-- StencilCutsModel.wrong(I)I: method 152, 2 locals -/
def cM_wrong : List Ent := [(0, .iload_n 1, 1, []), (1, .invokestatic 257, 3, [146, 1, 3, 1]), (4, .ifCond .ne 6, 3, []), (7, .bipush (-2), 2, []), (9, .ireturn, 1, [0]), (10, .aload_n 0, 1, []), (11, .invokevirtual 263, 3, [147, 1, 2, 0, 7]), (14, .aload_n 0, 1, []),
  (15, .iload_n 1, 1, []), (16, .invokevirtual 260, 3, [149, 2, 5, 1, 7]), (19, .ireturn, 1, [0])]
/-- StencilCutsModel.best(I)I: method 153, 3 locals -/
def cM_best : List Ent := [(0, .iload_n 1, 1, []), (1, .iconst 0, 1, []), (2, .iconst 2, 1, []), (3, .invokestatic 77, 3, [90, 3, 3, 1]), (6, .ifCond .ne 6, 3, []), (9, .bipush (-2), 2, []), (11, .ireturn, 1, [0]), (12, .aload_n 0, 1, []),
  (13, .invokevirtual 263, 3, [147, 1, 2, 0, 7]), (16, .aload_n 0, 1, []), (17, .invokevirtual 266, 3, [150, 1, 4, 1, 7]), (20, .istore_n 2, 1, []), (21, .iload_n 1, 1, []), (22, .ifCond .ne 7, 3, []), (25, .iload_n 2, 1, []), (26, .goto 19, 3, []),
  (29, .iload_n 1, 1, []), (30, .iconst 1, 1, []), (31, .if_icmp .ne 10, 3, []), (34, .aload_n 0, 1, []), (35, .getfield 251, 3, [28, 7]), (38, .goto 7, 3, []), (41, .aload_n 0, 1, []), (42, .getfield 254, 3, [29, 7]),
  (45, .ireturn, 1, [0])]
/-- StencilCutsModel.wishes()I: method 154, 3 locals -/
def cM_wishes : List Ent := [(0, .iconst 0, 1, []), (1, .istore_n 1, 1, []), (2, .iconst 0, 1, []), (3, .istore_n 2, 1, []), (4, .iload_n 2, 1, []), (5, .bipush 100, 2, []), (7, .if_icmp .ge 30, 3, []), (10, .iload_n 1, 1, []),
  (11, .aload_n 0, 1, []), (12, .getfield 7, 3, [0, 7]), (15, .sipush 400, 3, []), (18, .iload_n 2, 1, []), (19, .iadd, 1, []), (20, .iaload, 1, []), (21, .ifCond .le 7, 3, []), (24, .iconst 1, 1, []),
  (25, .goto 4, 3, []), (28, .iconst 0, 1, []), (29, .iadd, 1, []), (30, .istore_n 1, 1, []), (31, .iinc 2 1, 3, []), (34, .goto (-30), 3, []), (37, .iload_n 1, 1, []), (38, .ireturn, 1, [0])]
/-- StencilCutsModel.looseLayers()I: method 155, 3 locals -/
def cM_looseLayers : List Ent := [(0, .iconst 0, 1, []), (1, .istore_n 1, 1, []), (2, .iconst 0, 1, []), (3, .istore_n 2, 1, []), (4, .iload_n 2, 1, []), (5, .iconst 4, 1, []), (6, .if_icmp .ge 29, 3, []), (9, .aload_n 0, 1, []),
  (10, .iload_n 2, 1, []), (11, .invokevirtual 161, 3, [114, 2, 3, 0, 7]), (14, .iload_n 1, 1, []), (15, .aload_n 0, 1, []), (16, .invokevirtual 168, 3, [117, 1, 3, 1, 7]), (19, .ifCond .le 7, 3, []), (22, .iconst 1, 1, []), (23, .goto 4, 3, []),
  (26, .iconst 0, 1, []), (27, .iadd, 1, []), (28, .istore_n 1, 1, []), (29, .iinc 2 1, 3, []), (32, .goto (-28), 3, []), (35, .iload_n 1, 1, []), (36, .ireturn, 1, [0])]
/-- StencilCutsModel.allCuts()I: method 156, 3 locals -/
def cM_allCuts : List Ent := [(0, .iconst 0, 1, []), (1, .istore_n 1, 1, []), (2, .iconst 0, 1, []), (3, .istore_n 2, 1, []), (4, .iload_n 2, 1, []), (5, .iconst 4, 1, []), (6, .if_icmp .ge 17, 3, []), (9, .iload_n 1, 1, []),
  (10, .aload_n 0, 1, []), (11, .iload_n 2, 1, []), (12, .invokevirtual 93, 3, [96, 2, 4, 1, 7]), (15, .iadd, 1, []), (16, .istore_n 1, 1, []), (17, .iinc 2 1, 3, []), (20, .goto (-16), 3, []), (23, .iload_n 1, 1, []),
  (24, .ireturn, 1, [0])]
/-- StencilCutsModel.count(I)I: method 157, 2 locals -/
def cM_count : List Ent := [(0, .iload_n 1, 1, []), (1, .tableswitch 102 0 5 #[39, 48, 57, 62, 67, 72], 39, []), (40, .aload_n 0, 1, []), (41, .getfield 7, 3, [0, 7]), (44, .sipush 500, 3, []), (47, .iaload, 1, []), (48, .ireturn, 1, [0]), (49, .aload_n 0, 1, []),
  (50, .getfield 7, 3, [0, 7]), (53, .sipush 501, 3, []), (56, .iaload, 1, []), (57, .ireturn, 1, [0]), (58, .aload_n 0, 1, []), (59, .invokevirtual 269, 3, [156, 1, 3, 1, 7]), (62, .ireturn, 1, [0]), (63, .aload_n 0, 1, []),
  (64, .invokevirtual 272, 3, [154, 1, 3, 1, 7]), (67, .ireturn, 1, [0]), (68, .aload_n 0, 1, []), (69, .invokevirtual 275, 3, [155, 1, 3, 1, 7]), (72, .ireturn, 1, [0]), (73, .aload_n 0, 1, []), (74, .getfield 16, 3, [2, 7]), (77, .iconst 0, 1, []),
  (78, .baload, 1, []), (79, .ifCond .eq 7, 3, []), (82, .iconst 1, 1, []), (83, .goto 4, 3, []), (86, .iconst 0, 1, []), (87, .aload_n 0, 1, []), (88, .getfield 16, 3, [2, 7]), (91, .iconst 1, 1, []),
  (92, .baload, 1, []), (93, .ifCond .eq 7, 3, []), (96, .iconst 2, 1, []), (97, .goto 4, 3, []), (100, .iconst 0, 1, []), (101, .iadd, 1, []), (102, .ireturn, 1, [0]), (103, .bipush (-2), 2, []),
  (105, .ireturn, 1, [0])]
/-- StencilCutsModel.image(I)I: method 158, 3 locals -/
def cM_image : List Ent := [(0, .iload_n 1, 1, []), (1, .iconst 0, 1, []), (2, .iconst 1, 1, []), (3, .invokestatic 77, 3, [90, 3, 3, 1]), (6, .ifCond .ne 6, 3, []), (9, .bipush (-2), 2, []), (11, .ireturn, 1, [0]), (12, .iconst 0, 1, []),
  (13, .istore_n 2, 1, []), (14, .iload_n 2, 1, []), (15, .sipush 502, 3, []), (18, .if_icmp .ge 27, 3, []), (21, .aload_n 0, 1, []), (22, .getfield 13, 3, [1, 7]), (25, .sipush 502, 3, []), (28, .iload_n 1, 1, []),
  (29, .imul, 1, []), (30, .iload_n 2, 1, []), (31, .iadd, 1, []), (32, .aload_n 0, 1, []), (33, .getfield 7, 3, [0, 7]), (36, .iload_n 2, 1, []), (37, .iaload, 1, []), (38, .iastore, 1, []),
  (39, .iinc 2 1, 3, []), (42, .goto (-28), 3, []), (45, .aload_n 0, 1, []), (46, .getfield 16, 3, [2, 7]), (49, .iload_n 1, 1, []), (50, .iconst 1, 1, []), (51, .bastore, 1, []), (52, .iconst 1, 1, []),
  (53, .ireturn, 1, [0])]
/-- StencilCutsModel.restore(I)I: method 159, 3 locals -/
def cM_restore : List Ent := [(0, .iload_n 1, 1, []), (1, .iconst 0, 1, []), (2, .iconst 1, 1, []), (3, .invokestatic 77, 3, [90, 3, 3, 1]), (6, .ifCond .ne 6, 3, []), (9, .bipush (-2), 2, []), (11, .ireturn, 1, [0]), (12, .aload_n 0, 1, []),
  (13, .getfield 16, 3, [2, 7]), (16, .iload_n 1, 1, []), (17, .baload, 1, []), (18, .ifCond .ne 6, 3, []), (21, .bipush (-3), 2, []), (23, .ireturn, 1, [0]), (24, .iconst 0, 1, []), (25, .istore_n 2, 1, []),
  (26, .iload_n 2, 1, []), (27, .sipush 502, 3, []), (30, .if_icmp .ge 27, 3, []), (33, .aload_n 0, 1, []), (34, .getfield 7, 3, [0, 7]), (37, .iload_n 2, 1, []), (38, .aload_n 0, 1, []), (39, .getfield 13, 3, [1, 7]),
  (42, .sipush 502, 3, []), (45, .iload_n 1, 1, []), (46, .imul, 1, []), (47, .iload_n 2, 1, []), (48, .iadd, 1, []), (49, .iaload, 1, []), (50, .iastore, 1, []), (51, .iinc 2 1, 3, []),
  (54, .goto (-28), 3, []), (57, .iconst 1, 1, []), (58, .ireturn, 1, [0])]
/-- StencilCutsLaw.law([I)Z: method 160, 4 locals -/
def cW_law : List Ent := [(16, .iconst 0, 1, []), (17, .istore_n 3, 1, []), (18, .iload_n 3, 1, []), (19, .aload_n 0, 1, []), (20, .arraylength, 1, []), (21, .iconst 5, 1, []), (22, .isub, 1, []), (23, .if_icmp .gt 663, 3, []),
  (26, .aload_n 0, 1, []), (27, .iload_n 3, 1, []), (28, .iaload, 1, []), (29, .bipush 15, 2, []), (31, .iand, 1, []), (32, .tableswitch 648 0 15 #[80, 113, 166, 209, 252, 305, 338, 381, 424, 457, 500, 533, 556, 579, 602, 625], 80, []), (112, .aload_n 1, 1, []), (113, .aload_n 0, 1, []),
  (114, .iload_n 3, 1, []), (115, .iconst 1, 1, []), (116, .iadd, 1, []), (117, .iaload, 1, []), (118, .aload_n 0, 1, []), (119, .iload_n 3, 1, []), (120, .iconst 2, 1, []), (121, .iadd, 1, []),
  (122, .iaload, 1, []), (123, .invokevirtual 13, 3, [6, 3, 3, 1, 6]), (126, .aload_n 2, 1, []), (127, .aload_n 0, 1, []), (128, .iload_n 3, 1, []), (129, .iconst 1, 1, []), (130, .iadd, 1, []), (131, .iaload, 1, []),
  (132, .aload_n 0, 1, []), (133, .iload_n 3, 1, []), (134, .iconst 2, 1, []), (135, .iadd, 1, []), (136, .iaload, 1, []), (137, .invokevirtual 17, 3, [97, 3, 4, 1, 7]), (140, .if_icmp .eq 540, 3, []), (143, .iconst 0, 1, []),
  (144, .ireturn, 1, [1]), (145, .aload_n 1, 1, []), (146, .aload_n 0, 1, []), (147, .iload_n 3, 1, []), (148, .iconst 1, 1, []), (149, .iadd, 1, []), (150, .iaload, 1, []), (151, .aload_n 0, 1, []),
  (152, .iload_n 3, 1, []), (153, .iconst 2, 1, []), (154, .iadd, 1, []), (155, .iaload, 1, []), (156, .aload_n 0, 1, []), (157, .iload_n 3, 1, []), (158, .iconst 3, 1, []), (159, .iadd, 1, []),
  (160, .iaload, 1, []), (161, .aload_n 0, 1, []), (162, .iload_n 3, 1, []), (163, .iconst 4, 1, []), (164, .iadd, 1, []), (165, .iaload, 1, []), (166, .invokevirtual 18, 3, [12, 5, 5, 1, 6]), (169, .aload_n 2, 1, []),
  (170, .aload_n 0, 1, []), (171, .iload_n 3, 1, []), (172, .iconst 1, 1, []), (173, .iadd, 1, []), (174, .iaload, 1, []), (175, .aload_n 0, 1, []), (176, .iload_n 3, 1, []), (177, .iconst 2, 1, []),
  (178, .iadd, 1, []), (179, .iaload, 1, []), (180, .aload_n 0, 1, []), (181, .iload_n 3, 1, []), (182, .iconst 3, 1, []), (183, .iadd, 1, []), (184, .iaload, 1, []), (185, .aload_n 0, 1, []),
  (186, .iload_n 3, 1, []), (187, .iconst 4, 1, []), (188, .iadd, 1, []), (189, .iaload, 1, []), (190, .invokevirtual 22, 3, [98, 5, 5, 1, 7]), (193, .if_icmp .eq 487, 3, []), (196, .iconst 0, 1, []), (197, .ireturn, 1, [1]),
  (198, .aload_n 1, 1, []), (199, .aload_n 0, 1, []), (200, .iload_n 3, 1, []), (201, .iconst 1, 1, []), (202, .iadd, 1, []), (203, .iaload, 1, []), (204, .aload_n 0, 1, []), (205, .iload_n 3, 1, []),
  (206, .iconst 2, 1, []), (207, .iadd, 1, []), (208, .iaload, 1, []), (209, .aload_n 0, 1, []), (210, .iload_n 3, 1, []), (211, .iconst 3, 1, []), (212, .iadd, 1, []), (213, .iaload, 1, []),
  (214, .invokevirtual 23, 3, [14, 4, 4, 1, 6]), (217, .aload_n 2, 1, []), (218, .aload_n 0, 1, []), (219, .iload_n 3, 1, []), (220, .iconst 1, 1, []), (221, .iadd, 1, []), (222, .iaload, 1, []), (223, .aload_n 0, 1, []),
  (224, .iload_n 3, 1, []), (225, .iconst 2, 1, []), (226, .iadd, 1, []), (227, .iaload, 1, []), (228, .aload_n 0, 1, []), (229, .iload_n 3, 1, []), (230, .iconst 3, 1, []), (231, .iadd, 1, []),
  (232, .iaload, 1, []), (233, .invokevirtual 27, 3, [99, 4, 5, 1, 7]), (236, .if_icmp .eq 444, 3, []), (239, .iconst 0, 1, []), (240, .ireturn, 1, [1]), (241, .aload_n 1, 1, []), (242, .aload_n 0, 1, []), (243, .iload_n 3, 1, []),
  (244, .iconst 1, 1, []), (245, .iadd, 1, []), (246, .iaload, 1, []), (247, .aload_n 0, 1, []), (248, .iload_n 3, 1, []), (249, .iconst 2, 1, []), (250, .iadd, 1, []), (251, .iaload, 1, []),
  (252, .aload_n 0, 1, []), (253, .iload_n 3, 1, []), (254, .iconst 3, 1, []), (255, .iadd, 1, []), (256, .iaload, 1, []), (257, .invokevirtual 28, 3, [17, 4, 5, 1, 6]), (260, .aload_n 2, 1, []), (261, .aload_n 0, 1, []),
  (262, .iload_n 3, 1, []), (263, .iconst 1, 1, []), (264, .iadd, 1, []), (265, .iaload, 1, []), (266, .aload_n 0, 1, []), (267, .iload_n 3, 1, []), (268, .iconst 2, 1, []), (269, .iadd, 1, []),
  (270, .iaload, 1, []), (271, .aload_n 0, 1, []), (272, .iload_n 3, 1, []), (273, .iconst 3, 1, []), (274, .iadd, 1, []), (275, .iaload, 1, []), (276, .invokevirtual 31, 3, [100, 4, 5, 1, 7]), (279, .if_icmp .eq 401, 3, []),
  (282, .iconst 0, 1, []), (283, .ireturn, 1, [1]), (284, .aload_n 1, 1, []), (285, .aload_n 0, 1, []), (286, .iload_n 3, 1, []), (287, .iconst 1, 1, []), (288, .iadd, 1, []), (289, .iaload, 1, []),
  (290, .aload_n 0, 1, []), (291, .iload_n 3, 1, []), (292, .iconst 2, 1, []), (293, .iadd, 1, []), (294, .iaload, 1, []), (295, .aload_n 0, 1, []), (296, .iload_n 3, 1, []), (297, .iconst 3, 1, []),
  (298, .iadd, 1, []), (299, .iaload, 1, []), (300, .aload_n 0, 1, []), (301, .iload_n 3, 1, []), (302, .iconst 4, 1, []), (303, .iadd, 1, []), (304, .iaload, 1, []), (305, .invokevirtual 32, 3, [51, 5, 7, 1, 6]),
  (308, .aload_n 2, 1, []), (309, .aload_n 0, 1, []), (310, .iload_n 3, 1, []), (311, .iconst 1, 1, []), (312, .iadd, 1, []), (313, .iaload, 1, []), (314, .aload_n 0, 1, []), (315, .iload_n 3, 1, []),
  (316, .iconst 2, 1, []), (317, .iadd, 1, []), (318, .iaload, 1, []), (319, .aload_n 0, 1, []), (320, .iload_n 3, 1, []), (321, .iconst 3, 1, []), (322, .iadd, 1, []), (323, .iaload, 1, []),
  (324, .aload_n 0, 1, []), (325, .iload_n 3, 1, []), (326, .iconst 4, 1, []), (327, .iadd, 1, []), (328, .iaload, 1, []), (329, .invokevirtual 35, 3, [118, 5, 6, 1, 7]), (332, .if_icmp .eq 348, 3, []), (335, .iconst 0, 1, []),
  (336, .ireturn, 1, [1]), (337, .aload_n 1, 1, []), (338, .aload_n 0, 1, []), (339, .iload_n 3, 1, []), (340, .iconst 1, 1, []), (341, .iadd, 1, []), (342, .iaload, 1, []), (343, .aload_n 0, 1, []),
  (344, .iload_n 3, 1, []), (345, .iconst 2, 1, []), (346, .iadd, 1, []), (347, .iaload, 1, []), (348, .invokevirtual 36, 3, [55, 3, 4, 1, 6]), (351, .aload_n 2, 1, []), (352, .aload_n 0, 1, []), (353, .iload_n 3, 1, []),
  (354, .iconst 1, 1, []), (355, .iadd, 1, []), (356, .iaload, 1, []), (357, .aload_n 0, 1, []), (358, .iload_n 3, 1, []), (359, .iconst 2, 1, []), (360, .iadd, 1, []), (361, .iaload, 1, []),
  (362, .invokevirtual 39, 3, [119, 3, 3, 1, 7]), (365, .if_icmp .eq 315, 3, []), (368, .iconst 0, 1, []), (369, .ireturn, 1, [1]), (370, .aload_n 1, 1, []), (371, .aload_n 0, 1, []), (372, .iload_n 3, 1, []), (373, .iconst 1, 1, []),
  (374, .iadd, 1, []), (375, .iaload, 1, []), (376, .aload_n 0, 1, []), (377, .iload_n 3, 1, []), (378, .iconst 2, 1, []), (379, .iadd, 1, []), (380, .iaload, 1, []), (381, .aload_n 0, 1, []),
  (382, .iload_n 3, 1, []), (383, .iconst 3, 1, []), (384, .iadd, 1, []), (385, .iaload, 1, []), (386, .invokevirtual 40, 3, [58, 4, 6, 1, 6]), (389, .aload_n 2, 1, []), (390, .aload_n 0, 1, []), (391, .iload_n 3, 1, []),
  (392, .iconst 1, 1, []), (393, .iadd, 1, []), (394, .iaload, 1, []), (395, .aload_n 0, 1, []), (396, .iload_n 3, 1, []), (397, .iconst 2, 1, []), (398, .iadd, 1, []), (399, .iaload, 1, []),
  (400, .aload_n 0, 1, []), (401, .iload_n 3, 1, []), (402, .iconst 3, 1, []), (403, .iadd, 1, []), (404, .iaload, 1, []), (405, .invokevirtual 43, 3, [127, 4, 5, 1, 7]), (408, .if_icmp .eq 272, 3, []), (411, .iconst 0, 1, []),
  (412, .ireturn, 1, [1]), (413, .aload_n 1, 1, []), (414, .aload_n 0, 1, []), (415, .iload_n 3, 1, []), (416, .iconst 1, 1, []), (417, .iadd, 1, []), (418, .iaload, 1, []), (419, .aload_n 0, 1, []),
  (420, .iload_n 3, 1, []), (421, .iconst 2, 1, []), (422, .iadd, 1, []), (423, .iaload, 1, []), (424, .aload_n 0, 1, []), (425, .iload_n 3, 1, []), (426, .iconst 3, 1, []), (427, .iadd, 1, []),
  (428, .iaload, 1, []), (429, .invokevirtual 44, 3, [60, 4, 6, 1, 6]), (432, .aload_n 2, 1, []), (433, .aload_n 0, 1, []), (434, .iload_n 3, 1, []), (435, .iconst 1, 1, []), (436, .iadd, 1, []), (437, .iaload, 1, []),
  (438, .aload_n 0, 1, []), (439, .iload_n 3, 1, []), (440, .iconst 2, 1, []), (441, .iadd, 1, []), (442, .iaload, 1, []), (443, .aload_n 0, 1, []), (444, .iload_n 3, 1, []), (445, .iconst 3, 1, []),
  (446, .iadd, 1, []), (447, .iaload, 1, []), (448, .invokevirtual 47, 3, [129, 4, 5, 1, 7]), (451, .if_icmp .eq 229, 3, []), (454, .iconst 0, 1, []), (455, .ireturn, 1, [1]), (456, .aload_n 1, 1, []), (457, .aload_n 0, 1, []),
  (458, .iload_n 3, 1, []), (459, .iconst 1, 1, []), (460, .iadd, 1, []), (461, .iaload, 1, []), (462, .aload_n 0, 1, []), (463, .iload_n 3, 1, []), (464, .iconst 2, 1, []), (465, .iadd, 1, []),
  (466, .iaload, 1, []), (467, .invokevirtual 48, 3, [70, 3, 4, 1, 6]), (470, .aload_n 2, 1, []), (471, .aload_n 0, 1, []), (472, .iload_n 3, 1, []), (473, .iconst 1, 1, []), (474, .iadd, 1, []), (475, .iaload, 1, []),
  (476, .aload_n 0, 1, []), (477, .iload_n 3, 1, []), (478, .iconst 2, 1, []), (479, .iadd, 1, []), (480, .iaload, 1, []), (481, .invokevirtual 51, 3, [143, 3, 3, 1, 7]), (484, .if_icmp .eq 196, 3, []), (487, .iconst 0, 1, []),
  (488, .ireturn, 1, [1]), (489, .aload_n 1, 1, []), (490, .aload_n 0, 1, []), (491, .iload_n 3, 1, []), (492, .iconst 1, 1, []), (493, .iadd, 1, []), (494, .iaload, 1, []), (495, .aload_n 0, 1, []),
  (496, .iload_n 3, 1, []), (497, .iconst 2, 1, []), (498, .iadd, 1, []), (499, .iaload, 1, []), (500, .aload_n 0, 1, []), (501, .iload_n 3, 1, []), (502, .iconst 3, 1, []), (503, .iadd, 1, []),
  (504, .iaload, 1, []), (505, .invokevirtual 52, 3, [71, 4, 7, 1, 6]), (508, .aload_n 2, 1, []), (509, .aload_n 0, 1, []), (510, .iload_n 3, 1, []), (511, .iconst 1, 1, []), (512, .iadd, 1, []), (513, .iaload, 1, []),
  (514, .aload_n 0, 1, []), (515, .iload_n 3, 1, []), (516, .iconst 2, 1, []), (517, .iadd, 1, []), (518, .iaload, 1, []), (519, .aload_n 0, 1, []), (520, .iload_n 3, 1, []), (521, .iconst 3, 1, []),
  (522, .iadd, 1, []), (523, .iaload, 1, []), (524, .invokevirtual 55, 3, [144, 4, 4, 1, 7]), (527, .if_icmp .eq 153, 3, []), (530, .iconst 0, 1, []), (531, .ireturn, 1, [1]), (532, .aload_n 1, 1, []), (533, .aload_n 0, 1, []),
  (534, .iload_n 3, 1, []), (535, .iconst 1, 1, []), (536, .iadd, 1, []), (537, .iaload, 1, []), (538, .aload_n 0, 1, []), (539, .iload_n 3, 1, []), (540, .iconst 2, 1, []), (541, .iadd, 1, []),
  (542, .iaload, 1, []), (543, .invokevirtual 56, 3, [79, 3, 3, 1, 6]), (546, .aload_n 2, 1, []), (547, .aload_n 0, 1, []), (548, .iload_n 3, 1, []), (549, .iconst 1, 1, []), (550, .iadd, 1, []), (551, .iaload, 1, []),
  (552, .aload_n 0, 1, []), (553, .iload_n 3, 1, []), (554, .iconst 2, 1, []), (555, .iadd, 1, []), (556, .iaload, 1, []), (557, .invokevirtual 59, 3, [151, 3, 3, 1, 7]), (560, .if_icmp .eq 120, 3, []), (563, .iconst 0, 1, []),
  (564, .ireturn, 1, [1]), (565, .aload_n 1, 1, []), (566, .aload_n 0, 1, []), (567, .iload_n 3, 1, []), (568, .iconst 1, 1, []), (569, .iadd, 1, []), (570, .iaload, 1, []), (571, .invokevirtual 60, 3, [81, 2, 2, 1, 6]),
  (574, .aload_n 2, 1, []), (575, .aload_n 0, 1, []), (576, .iload_n 3, 1, []), (577, .iconst 1, 1, []), (578, .iadd, 1, []), (579, .iaload, 1, []), (580, .invokevirtual 64, 3, [152, 2, 2, 1, 7]), (583, .if_icmp .eq 97, 3, []),
  (586, .iconst 0, 1, []), (587, .ireturn, 1, [1]), (588, .aload_n 1, 1, []), (589, .aload_n 0, 1, []), (590, .iload_n 3, 1, []), (591, .iconst 1, 1, []), (592, .iadd, 1, []), (593, .iaload, 1, []),
  (594, .invokevirtual 65, 3, [82, 2, 2, 1, 6]), (597, .aload_n 2, 1, []), (598, .aload_n 0, 1, []), (599, .iload_n 3, 1, []), (600, .iconst 1, 1, []), (601, .iadd, 1, []), (602, .iaload, 1, []), (603, .invokevirtual 68, 3, [153, 2, 3, 1, 7]),
  (606, .if_icmp .eq 74, 3, []), (609, .iconst 0, 1, []), (610, .ireturn, 1, [1]), (611, .aload_n 1, 1, []), (612, .aload_n 0, 1, []), (613, .iload_n 3, 1, []), (614, .iconst 1, 1, []), (615, .iadd, 1, []),
  (616, .iaload, 1, []), (617, .invokevirtual 69, 3, [84, 2, 2, 1, 6]), (620, .aload_n 2, 1, []), (621, .aload_n 0, 1, []), (622, .iload_n 3, 1, []), (623, .iconst 1, 1, []), (624, .iadd, 1, []), (625, .iaload, 1, []),
  (626, .invokevirtual 72, 3, [158, 2, 3, 1, 7]), (629, .if_icmp .eq 51, 3, []), (632, .iconst 0, 1, []), (633, .ireturn, 1, [1]), (634, .aload_n 1, 1, []), (635, .aload_n 0, 1, []), (636, .iload_n 3, 1, []), (637, .iconst 1, 1, []),
  (638, .iadd, 1, []), (639, .iaload, 1, []), (640, .invokevirtual 73, 3, [85, 2, 2, 1, 6]), (643, .aload_n 2, 1, []), (644, .aload_n 0, 1, []), (645, .iload_n 3, 1, []), (646, .iconst 1, 1, []), (647, .iadd, 1, []),
  (648, .iaload, 1, []), (649, .invokevirtual 76, 3, [159, 2, 3, 1, 7]), (652, .if_icmp .eq 28, 3, []), (655, .iconst 0, 1, []), (656, .ireturn, 1, [1]), (657, .aload_n 1, 1, []), (658, .aload_n 0, 1, []), (659, .iload_n 3, 1, []),
  (660, .iconst 1, 1, []), (661, .iadd, 1, []), (662, .iaload, 1, []), (663, .invokevirtual 77, 3, [89, 2, 2, 1, 6]), (666, .aload_n 2, 1, []), (667, .aload_n 0, 1, []), (668, .iload_n 3, 1, []), (669, .iconst 1, 1, []),
  (670, .iadd, 1, []), (671, .iaload, 1, []), (672, .invokevirtual 80, 3, [157, 2, 2, 1, 7]), (675, .if_icmp .eq 5, 3, []), (678, .iconst 0, 1, []), (679, .ireturn, 1, [1]), (680, .iinc 3 5, 3, []), (683, .goto (-665), 3, []),
  (686, .iconst 1, 1, []), (687, .ireturn, 1, [1])]
def mtab : List (List Ent) := [cS_isWithin, cJ_fill, cH_reset, cL_forget, cS_forgetLayer, cS_forgetAll, cS_sheet, cS_isLayer, cH_hasCell, cH_setOpen, cJ_bitCount, cH_openCells, cS_cut, cH_setLine, cS_row, cH_wishAt, cH_setWish, cS_wish, cH_isOpen, cS_xOf, cS_yOf, cP_lay, cS_isPlace, cP_spread, cP_addPart, cP_find, cP_partOf, cP_reachFrom, cP_findDepths, cB_lengthFrom, cB_startOf, cB_stepOf, cB_placeBefore, cB_lengthOf, cB_placeAfter, cB_insertRun, cB_findRuns, cB_untieAll, cB_isUntied, cB_tieEnds, cB_findLowerBound, cB_removeAll, cB_touchesBridge, cB_isClear, cB_addBridge, cB_build, cL_bridged, cS_placeOf, cP_isOpen, cP_islandAt, cP_holeAt, cS_cell, cP_isIsland, cB_isLoose, cB_looseIslands, cS_layer, cP_partOfIsland, cB_bridgesOf, cS_island, cB_isVertical, cS_bridge, cK_hasEdge, cK_hasAnyEdge, cK_follow, cK_findLoops, cK_loopOf, cK_distance, cK_nearestFrom, cK_planWay, cL_routed, cS_knife, cS_loop, cI_clear, cS_openLayers, cI_addCell, cI_colourOf, cI_wrongBy, cI_findBest, cS_judgePicture, cS_paint, cS_isOrder, cS_wrong, cS_best, cH_copyFrom, cS_image, cS_restore, cS_openCellsOfAll, cH_wishedCells, cS_looseLayers, cS_count, cM_in, cM_isLayer, cM_isCell, cM_at, cM_isCut, cM_isRim, cM_cuts, cM_sheet, cM_cut, cM_row, cM_wish, cM_lesserMark, cM_spreadOnce, cM_number, cM_layPieces, cM_pieceAt, cM_lengthFrom, cM_addRun, cM_layRuns, cM_untie, cM_tieBoth, cM_isTaken, cM_touches, cM_take, cM_layBridges, cM_least, cM_bridgeCells, cM_loose, cM_cell, cM_layer, cM_lesserDepth, cM_deepenOnce, cM_layDepths, cM_firstOf, cM_sizeOf, cM_endsAt, cM_depthOf, cM_island, cM_asIsland, cM_bridge, cM_layBridged, cM_isStillCut, cM_corner, cM_isEdge, cM_hasEdge, cM_joinBoth, cM_joinOnce, cM_layLoops, cM_edges, cM_size, cM_apart, cM_goOn, cM_layKnife, cM_knife, cM_loop, cM_figure, cM_isOrder, cM_layAll, cM_colourBy, cM_wrongBy, cM_bestOrder, cM_paint, cM_wrong, cM_best, cM_wishes, cM_looseLayers, cM_allCuts, cM_count, cM_image, cM_restore, cW_law]
def codeOf (M : Nat) : List Ent := (mtab[M]?).getD []
