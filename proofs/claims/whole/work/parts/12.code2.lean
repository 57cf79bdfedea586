/-! code tables: a program wrote them -/
def ct_X7_readInnermost : MJT := [
  (0, 0, .aload_n 0, 1, 0, 0, .null),
  (1, 160, .getfield 28, 3, 7, 4, .null),
  (4, 0, .aload_n 0, 1, 0, 0, .null),
  (5, 164, .getfield 41, 3, 7, 8, .int 0),
  (8, 0, .iaload, 1, 0, 0, .null),
  (9, 0, .istore_n 2, 1, 2, 0, .null),
  (10, 0, .aload_n 0, 1, 0, 0, .null),
  (11, 156, .getfield 12, 3, 7, 0, .null),
  (14, 560, .invokevirtual 134, 3, 113, 0, .null),
  (17, 0, .aload_n 0, 1, 0, 0, .null),
  (18, 168, .getfield 54, 3, 7, 12, .int 0),
  (21, 0, .ifCond .eq 4, 3, 25, 0, .null),
  (24, 0, .return_, 1, 0, 0, .null),
  (25, 0, .aload_n 0, 1, 0, 0, .null),
  (26, 159, .getfield 24, 3, 7, 3, .null),
  (29, 0, .aload_n 0, 1, 0, 0, .null),
  (30, 164, .getfield 41, 3, 7, 8, .int 0),
  (33, 0, .iaload, 1, 0, 0, .null),
  (34, 0, .iconst 1, 1, 0, 0, .int (1)),
  (35, 0, .if_icmp .ne 16, 3, 51, 0, .null),
  (38, 0, .aload_n 0, 1, 0, 0, .null),
  (39, 0, .aload_n 1, 1, 1, 0, .null),
  (40, 0, .aload_n 0, 1, 0, 0, .null),
  (41, 156, .getfield 12, 3, 7, 0, .null),
  (44, 0, .iload_n 2, 1, 2, 0, .null),
  (45, 564, .invokevirtual 135, 3, 98, 3, .null),
  (48, 0, .goto 31, 3, 79, 0, .null),
  (51, 0, .aload_n 0, 1, 0, 0, .null),
  (52, 159, .getfield 24, 3, 7, 3, .null),
  (55, 0, .aload_n 0, 1, 0, 0, .null),
  (56, 164, .getfield 41, 3, 7, 8, .int 0),
  (59, 0, .iaload, 1, 0, 0, .null),
  (60, 0, .iconst 2, 1, 0, 0, .int (2)),
  (61, 0, .if_icmp .ne 12, 3, 73, 0, .null),
  (64, 0, .aload_n 0, 1, 0, 0, .null),
  (65, 0, .aload_n 1, 1, 1, 0, .null),
  (66, 0, .iload_n 2, 1, 2, 0, .null),
  (67, 575, .invokevirtual 139, 3, 99, 2, .null),
  (70, 0, .goto 9, 3, 79, 0, .null),
  (73, 0, .aload_n 0, 1, 0, 0, .null),
  (74, 0, .aload_n 1, 1, 1, 0, .null),
  (75, 0, .iload_n 2, 1, 2, 0, .null),
  (76, 583, .invokevirtual 142, 3, 97, 2, .null),
  (79, 0, .return_, 1, 0, 0, .null)]
abbrev id_X7_readInnermost : Nat := 96
def mi_X7_readInnermost : MI := (yX7_readInnermost, cX7_readInnermost, 3, none, 7, ct_X7_readInnermost)
theorem fe_X7_readInnermost_0 : mj_f mi_X7_readInnermost 0 = some (.aload_n 0, 1, 0, 0, .null) := by decide +kernel
theorem fe_X7_readInnermost_1 : mj_f mi_X7_readInnermost 1 = some (.getfield 28, 3, 7, 4, .null) := by decide +kernel
theorem fe_X7_readInnermost_4 : mj_f mi_X7_readInnermost 4 = some (.aload_n 0, 1, 0, 0, .null) := by decide +kernel
theorem fe_X7_readInnermost_5 : mj_f mi_X7_readInnermost 5 = some (.getfield 41, 3, 7, 8, .int 0) := by decide +kernel
theorem fe_X7_readInnermost_8 : mj_f mi_X7_readInnermost 8 = some (.iaload, 1, 0, 0, .null) := by decide +kernel
theorem fe_X7_readInnermost_9 : mj_f mi_X7_readInnermost 9 = some (.istore_n 2, 1, 2, 0, .null) := by decide +kernel
theorem fe_X7_readInnermost_10 : mj_f mi_X7_readInnermost 10 = some (.aload_n 0, 1, 0, 0, .null) := by decide +kernel
theorem fe_X7_readInnermost_11 : mj_f mi_X7_readInnermost 11 = some (.getfield 12, 3, 7, 0, .null) := by decide +kernel
theorem fe_X7_readInnermost_14 : mj_f mi_X7_readInnermost 14 = some (.invokevirtual 134, 3, 113, 0, .null) := by decide +kernel
theorem fe_X7_readInnermost_17 : mj_f mi_X7_readInnermost 17 = some (.aload_n 0, 1, 0, 0, .null) := by decide +kernel
theorem fe_X7_readInnermost_18 : mj_f mi_X7_readInnermost 18 = some (.getfield 54, 3, 7, 12, .int 0) := by decide +kernel
theorem fe_X7_readInnermost_21 : mj_f mi_X7_readInnermost 21 = some (.ifCond .eq 4, 3, 25, 0, .null) := by decide +kernel
theorem fe_X7_readInnermost_24 : mj_f mi_X7_readInnermost 24 = some (.return_, 1, 0, 0, .null) := by decide +kernel
theorem fe_X7_readInnermost_25 : mj_f mi_X7_readInnermost 25 = some (.aload_n 0, 1, 0, 0, .null) := by decide +kernel
theorem fe_X7_readInnermost_26 : mj_f mi_X7_readInnermost 26 = some (.getfield 24, 3, 7, 3, .null) := by decide +kernel
theorem fe_X7_readInnermost_29 : mj_f mi_X7_readInnermost 29 = some (.aload_n 0, 1, 0, 0, .null) := by decide +kernel
theorem fe_X7_readInnermost_30 : mj_f mi_X7_readInnermost 30 = some (.getfield 41, 3, 7, 8, .int 0) := by decide +kernel
theorem fe_X7_readInnermost_33 : mj_f mi_X7_readInnermost 33 = some (.iaload, 1, 0, 0, .null) := by decide +kernel
theorem fe_X7_readInnermost_34 : mj_f mi_X7_readInnermost 34 = some (.iconst 1, 1, 0, 0, .int (1)) := by decide +kernel
theorem fe_X7_readInnermost_35 : mj_f mi_X7_readInnermost 35 = some (.if_icmp .ne 16, 3, 51, 0, .null) := by decide +kernel
theorem fe_X7_readInnermost_38 : mj_f mi_X7_readInnermost 38 = some (.aload_n 0, 1, 0, 0, .null) := by decide +kernel
theorem fe_X7_readInnermost_39 : mj_f mi_X7_readInnermost 39 = some (.aload_n 1, 1, 1, 0, .null) := by decide +kernel
theorem fe_X7_readInnermost_40 : mj_f mi_X7_readInnermost 40 = some (.aload_n 0, 1, 0, 0, .null) := by decide +kernel
theorem fe_X7_readInnermost_41 : mj_f mi_X7_readInnermost 41 = some (.getfield 12, 3, 7, 0, .null) := by decide +kernel
theorem fe_X7_readInnermost_44 : mj_f mi_X7_readInnermost 44 = some (.iload_n 2, 1, 2, 0, .null) := by decide +kernel
theorem fe_X7_readInnermost_45 : mj_f mi_X7_readInnermost 45 = some (.invokevirtual 135, 3, 98, 3, .null) := by decide +kernel
theorem fe_X7_readInnermost_48 : mj_f mi_X7_readInnermost 48 = some (.goto 31, 3, 79, 0, .null) := by decide +kernel
theorem fe_X7_readInnermost_51 : mj_f mi_X7_readInnermost 51 = some (.aload_n 0, 1, 0, 0, .null) := by decide +kernel
theorem fe_X7_readInnermost_52 : mj_f mi_X7_readInnermost 52 = some (.getfield 24, 3, 7, 3, .null) := by decide +kernel
theorem fe_X7_readInnermost_55 : mj_f mi_X7_readInnermost 55 = some (.aload_n 0, 1, 0, 0, .null) := by decide +kernel
theorem fe_X7_readInnermost_56 : mj_f mi_X7_readInnermost 56 = some (.getfield 41, 3, 7, 8, .int 0) := by decide +kernel
theorem fe_X7_readInnermost_59 : mj_f mi_X7_readInnermost 59 = some (.iaload, 1, 0, 0, .null) := by decide +kernel
theorem fe_X7_readInnermost_60 : mj_f mi_X7_readInnermost 60 = some (.iconst 2, 1, 0, 0, .int (2)) := by decide +kernel
theorem fe_X7_readInnermost_61 : mj_f mi_X7_readInnermost 61 = some (.if_icmp .ne 12, 3, 73, 0, .null) := by decide +kernel
theorem fe_X7_readInnermost_64 : mj_f mi_X7_readInnermost 64 = some (.aload_n 0, 1, 0, 0, .null) := by decide +kernel
theorem fe_X7_readInnermost_65 : mj_f mi_X7_readInnermost 65 = some (.aload_n 1, 1, 1, 0, .null) := by decide +kernel
theorem fe_X7_readInnermost_66 : mj_f mi_X7_readInnermost 66 = some (.iload_n 2, 1, 2, 0, .null) := by decide +kernel
theorem fe_X7_readInnermost_67 : mj_f mi_X7_readInnermost 67 = some (.invokevirtual 139, 3, 99, 2, .null) := by decide +kernel
theorem fe_X7_readInnermost_70 : mj_f mi_X7_readInnermost 70 = some (.goto 9, 3, 79, 0, .null) := by decide +kernel
theorem fe_X7_readInnermost_73 : mj_f mi_X7_readInnermost 73 = some (.aload_n 0, 1, 0, 0, .null) := by decide +kernel
theorem fe_X7_readInnermost_74 : mj_f mi_X7_readInnermost 74 = some (.aload_n 1, 1, 1, 0, .null) := by decide +kernel
theorem fe_X7_readInnermost_75 : mj_f mi_X7_readInnermost 75 = some (.iload_n 2, 1, 2, 0, .null) := by decide +kernel
theorem fe_X7_readInnermost_76 : mj_f mi_X7_readInnermost 76 = some (.invokevirtual 142, 3, 97, 2, .null) := by decide +kernel
theorem fe_X7_readInnermost_79 : mj_f mi_X7_readInnermost 79 = some (.return_, 1, 0, 0, .null) := by decide +kernel
def ct_X7_readPlain : MJT := [
  (0, 0, .aload_n 0, 1, 0, 0, .null),
  (1, 0, .aload_n 1, 1, 1, 0, .null),
  (2, 0, .iload_n 2, 1, 2, 0, .null),
  (3, 0, .bipush 64, 2, 0, 0, .int (64)),
  (5, 519, .invokevirtual 114, 3, 92, 3, .null),
  (8, 0, .bipush 8, 2, 0, 0, .int (8)),
  (10, 0, .idiv, 1, 0, 0, .null),
  (11, 0, .istore_n 3, 1, 3, 0, .null),
  (12, 0, .iconst 0, 1, 0, 0, .int (0)),
  (13, 0, .istore 4, 2, 4, 0, .null),
  (15, 0, .iload 4, 2, 4, 0, .null),
  (17, 0, .iload_n 2, 1, 2, 0, .null),
  (18, 0, .if_icmp .ge 67, 3, 85, 0, .null),
  (21, 0, .aload_n 0, 1, 0, 0, .null),
  (22, 168, .getfield 54, 3, 7, 12, .int 0),
  (25, 0, .ifCond .ne 60, 3, 85, 0, .null),
  (28, 0, .lconst 0, 1, 0, 0, .long 0),
  (29, 0, .lstore 5, 2, 5, 0, .null),
  (31, 0, .iconst 0, 1, 0, 0, .int (0)),
  (32, 0, .istore 7, 2, 7, 0, .null),
  (34, 0, .iload 7, 2, 7, 0, .null),
  (36, 0, .bipush 8, 2, 0, 0, .int (8)),
  (38, 0, .if_icmp .ge 32, 3, 70, 0, .null),
  (41, 0, .lload 5, 2, 5, 0, .null),
  (43, 0, .bipush 8, 2, 0, 0, .int (8)),
  (45, 0, .lshl, 1, 0, 0, .null),
  (46, 0, .aload_n 1, 1, 1, 0, .null),
  (47, 0, .iload_n 3, 1, 3, 0, .null),
  (48, 0, .bipush 8, 2, 0, 0, .int (8)),
  (50, 0, .iload 4, 2, 4, 0, .null),
  (52, 0, .imul, 1, 0, 0, .null),
  (53, 0, .iadd, 1, 0, 0, .null),
  (54, 0, .iload 7, 2, 7, 0, .null),
  (56, 0, .iadd, 1, 0, 0, .null),
  (57, 510, .invokevirtual 88, 3, 13, 1, .null),
  (60, 0, .i2l, 1, 0, 0, .null),
  (61, 0, .lor, 1, 0, 0, .null),
  (62, 0, .lstore 5, 2, 5, 0, .null),
  (64, 0, .iinc 7 1, 3, 7, 0, .int (1)),
  (67, 0, .goto (-33), 3, 34, 0, .null),
  (70, 0, .aload_n 0, 1, 0, 0, .null),
  (71, 156, .getfield 12, 3, 7, 0, .null),
  (74, 0, .lload 5, 2, 5, 0, .null),
  (76, 571, .invokevirtual 145, 3, 114, 1, .null),
  (79, 0, .iinc 4 1, 3, 4, 0, .int (1)),
  (82, 0, .goto (-67), 3, 15, 0, .null),
  (85, 0, .return_, 1, 0, 0, .null)]
abbrev id_X7_readPlain : Nat := 97
def mi_X7_readPlain : MI := (yX7_readPlain, cX7_readPlain, 8, none, 7, ct_X7_readPlain)
theorem fe_X7_readPlain_0 : mj_f mi_X7_readPlain 0 = some (.aload_n 0, 1, 0, 0, .null) := by decide +kernel
theorem fe_X7_readPlain_1 : mj_f mi_X7_readPlain 1 = some (.aload_n 1, 1, 1, 0, .null) := by decide +kernel
theorem fe_X7_readPlain_2 : mj_f mi_X7_readPlain 2 = some (.iload_n 2, 1, 2, 0, .null) := by decide +kernel
theorem fe_X7_readPlain_3 : mj_f mi_X7_readPlain 3 = some (.bipush 64, 2, 0, 0, .int (64)) := by decide +kernel
theorem fe_X7_readPlain_5 : mj_f mi_X7_readPlain 5 = some (.invokevirtual 114, 3, 92, 3, .null) := by decide +kernel
theorem fe_X7_readPlain_8 : mj_f mi_X7_readPlain 8 = some (.bipush 8, 2, 0, 0, .int (8)) := by decide +kernel
theorem fe_X7_readPlain_10 : mj_f mi_X7_readPlain 10 = some (.idiv, 1, 0, 0, .null) := by decide +kernel
theorem fe_X7_readPlain_11 : mj_f mi_X7_readPlain 11 = some (.istore_n 3, 1, 3, 0, .null) := by decide +kernel
theorem fe_X7_readPlain_12 : mj_f mi_X7_readPlain 12 = some (.iconst 0, 1, 0, 0, .int (0)) := by decide +kernel
theorem fe_X7_readPlain_13 : mj_f mi_X7_readPlain 13 = some (.istore 4, 2, 4, 0, .null) := by decide +kernel
theorem fe_X7_readPlain_15 : mj_f mi_X7_readPlain 15 = some (.iload 4, 2, 4, 0, .null) := by decide +kernel
theorem fe_X7_readPlain_17 : mj_f mi_X7_readPlain 17 = some (.iload_n 2, 1, 2, 0, .null) := by decide +kernel
theorem fe_X7_readPlain_18 : mj_f mi_X7_readPlain 18 = some (.if_icmp .ge 67, 3, 85, 0, .null) := by decide +kernel
theorem fe_X7_readPlain_21 : mj_f mi_X7_readPlain 21 = some (.aload_n 0, 1, 0, 0, .null) := by decide +kernel
theorem fe_X7_readPlain_22 : mj_f mi_X7_readPlain 22 = some (.getfield 54, 3, 7, 12, .int 0) := by decide +kernel
theorem fe_X7_readPlain_25 : mj_f mi_X7_readPlain 25 = some (.ifCond .ne 60, 3, 85, 0, .null) := by decide +kernel
theorem fe_X7_readPlain_28 : mj_f mi_X7_readPlain 28 = some (.lconst 0, 1, 0, 0, .long 0) := by decide +kernel
theorem fe_X7_readPlain_29 : mj_f mi_X7_readPlain 29 = some (.lstore 5, 2, 5, 0, .null) := by decide +kernel
theorem fe_X7_readPlain_31 : mj_f mi_X7_readPlain 31 = some (.iconst 0, 1, 0, 0, .int (0)) := by decide +kernel
theorem fe_X7_readPlain_32 : mj_f mi_X7_readPlain 32 = some (.istore 7, 2, 7, 0, .null) := by decide +kernel
theorem fe_X7_readPlain_34 : mj_f mi_X7_readPlain 34 = some (.iload 7, 2, 7, 0, .null) := by decide +kernel
theorem fe_X7_readPlain_36 : mj_f mi_X7_readPlain 36 = some (.bipush 8, 2, 0, 0, .int (8)) := by decide +kernel
theorem fe_X7_readPlain_38 : mj_f mi_X7_readPlain 38 = some (.if_icmp .ge 32, 3, 70, 0, .null) := by decide +kernel
theorem fe_X7_readPlain_41 : mj_f mi_X7_readPlain 41 = some (.lload 5, 2, 5, 0, .null) := by decide +kernel
theorem fe_X7_readPlain_43 : mj_f mi_X7_readPlain 43 = some (.bipush 8, 2, 0, 0, .int (8)) := by decide +kernel
theorem fe_X7_readPlain_45 : mj_f mi_X7_readPlain 45 = some (.lshl, 1, 0, 0, .null) := by decide +kernel
theorem fe_X7_readPlain_46 : mj_f mi_X7_readPlain 46 = some (.aload_n 1, 1, 1, 0, .null) := by decide +kernel
theorem fe_X7_readPlain_47 : mj_f mi_X7_readPlain 47 = some (.iload_n 3, 1, 3, 0, .null) := by decide +kernel
theorem fe_X7_readPlain_48 : mj_f mi_X7_readPlain 48 = some (.bipush 8, 2, 0, 0, .int (8)) := by decide +kernel
theorem fe_X7_readPlain_50 : mj_f mi_X7_readPlain 50 = some (.iload 4, 2, 4, 0, .null) := by decide +kernel
theorem fe_X7_readPlain_52 : mj_f mi_X7_readPlain 52 = some (.imul, 1, 0, 0, .null) := by decide +kernel
theorem fe_X7_readPlain_53 : mj_f mi_X7_readPlain 53 = some (.iadd, 1, 0, 0, .null) := by decide +kernel
theorem fe_X7_readPlain_54 : mj_f mi_X7_readPlain 54 = some (.iload 7, 2, 7, 0, .null) := by decide +kernel
theorem fe_X7_readPlain_56 : mj_f mi_X7_readPlain 56 = some (.iadd, 1, 0, 0, .null) := by decide +kernel
theorem fe_X7_readPlain_57 : mj_f mi_X7_readPlain 57 = some (.invokevirtual 88, 3, 13, 1, .null) := by decide +kernel
theorem fe_X7_readPlain_60 : mj_f mi_X7_readPlain 60 = some (.i2l, 1, 0, 0, .null) := by decide +kernel
theorem fe_X7_readPlain_61 : mj_f mi_X7_readPlain 61 = some (.lor, 1, 0, 0, .null) := by decide +kernel
theorem fe_X7_readPlain_62 : mj_f mi_X7_readPlain 62 = some (.lstore 5, 2, 5, 0, .null) := by decide +kernel
theorem fe_X7_readPlain_64 : mj_f mi_X7_readPlain 64 = some (.iinc 7 1, 3, 7, 0, .int (1)) := by decide +kernel
theorem fe_X7_readPlain_67 : mj_f mi_X7_readPlain 67 = some (.goto (-33), 3, 34, 0, .null) := by decide +kernel
theorem fe_X7_readPlain_70 : mj_f mi_X7_readPlain 70 = some (.aload_n 0, 1, 0, 0, .null) := by decide +kernel
theorem fe_X7_readPlain_71 : mj_f mi_X7_readPlain 71 = some (.getfield 12, 3, 7, 0, .null) := by decide +kernel
theorem fe_X7_readPlain_74 : mj_f mi_X7_readPlain 74 = some (.lload 5, 2, 5, 0, .null) := by decide +kernel
theorem fe_X7_readPlain_76 : mj_f mi_X7_readPlain 76 = some (.invokevirtual 145, 3, 114, 1, .null) := by decide +kernel
theorem fe_X7_readPlain_79 : mj_f mi_X7_readPlain 79 = some (.iinc 4 1, 3, 4, 0, .int (1)) := by decide +kernel
theorem fe_X7_readPlain_82 : mj_f mi_X7_readPlain 82 = some (.goto (-67), 3, 15, 0, .null) := by decide +kernel
theorem fe_X7_readPlain_85 : mj_f mi_X7_readPlain 85 = some (.return_, 1, 0, 0, .null) := by decide +kernel
def ct_X7_readNarrow : MJT := [
  (0, 0, .aload_n 0, 1, 0, 0, .null),
  (1, 0, .aload_n 1, 1, 1, 0, .null),
  (2, 551, .invokevirtual 130, 3, 91, 1, .null),
  (5, 568, .invokestatic 148, 3, 175, 1, .int 1),
  (8, 0, .lstore 4, 2, 4, 0, .null),
  (10, 0, .aload_n 0, 1, 0, 0, .null),
  (11, 0, .aload_n 1, 1, 1, 0, .null),
  (12, 0, .iconst 0, 1, 0, 0, .int (0)),
  (13, 0, .bipush 64, 2, 0, 0, .int (64)),
  (15, 0, .iconst 2, 1, 0, 0, .int (2)),
  (16, 506, .invokevirtual 110, 3, 90, 4, .null),
  (19, 0, .istore 6, 2, 6, 0, .null),
  (21, 0, .aload_n 0, 1, 0, 0, .null),
  (22, 0, .aload_n 1, 1, 1, 0, .null),
  (23, 0, .iload_n 3, 1, 3, 0, .null),
  (24, 0, .iload 6, 2, 6, 0, .null),
  (26, 519, .invokevirtual 114, 3, 92, 3, .null),
  (29, 0, .istore 7, 2, 7, 0, .null),
  (31, 0, .aload_n 2, 1, 2, 0, .null),
  (32, 560, .invokevirtual 134, 3, 113, 0, .null),
  (35, 0, .iconst 0, 1, 0, 0, .int (0)),
  (36, 0, .istore 8, 2, 8, 0, .null),
  (38, 0, .iload 8, 2, 8, 0, .null),
  (40, 0, .iload_n 3, 1, 3, 0, .null),
  (41, 0, .if_icmp .ge 37, 3, 78, 0, .null),
  (44, 0, .aload_n 0, 1, 0, 0, .null),
  (45, 168, .getfield 54, 3, 7, 12, .int 0),
  (48, 0, .ifCond .ne 30, 3, 78, 0, .null),
  (51, 0, .aload_n 2, 1, 2, 0, .null),
  (52, 0, .lload 4, 2, 4, 0, .null),
  (54, 0, .aload_n 1, 1, 1, 0, .null),
  (55, 0, .iload 7, 2, 7, 0, .null),
  (57, 0, .iload 8, 2, 8, 0, .null),
  (59, 0, .iload 6, 2, 6, 0, .null),
  (61, 0, .imul, 1, 0, 0, .null),
  (62, 0, .iadd, 1, 0, 0, .null),
  (63, 0, .iload 6, 2, 6, 0, .null),
  (65, 526, .invokevirtual 118, 3, 20, 2, .null),
  (68, 0, .ladd, 1, 0, 0, .null),
  (69, 571, .invokevirtual 145, 3, 114, 1, .null),
  (72, 0, .iinc 8 1, 3, 8, 0, .int (1)),
  (75, 0, .goto (-37), 3, 38, 0, .null),
  (78, 0, .return_, 1, 0, 0, .null)]
abbrev id_X7_readNarrow : Nat := 98
def mi_X7_readNarrow : MI := (yX7_readNarrow, cX7_readNarrow, 9, none, 7, ct_X7_readNarrow)
theorem fe_X7_readNarrow_0 : mj_f mi_X7_readNarrow 0 = some (.aload_n 0, 1, 0, 0, .null) := by decide +kernel
theorem fe_X7_readNarrow_1 : mj_f mi_X7_readNarrow 1 = some (.aload_n 1, 1, 1, 0, .null) := by decide +kernel
theorem fe_X7_readNarrow_2 : mj_f mi_X7_readNarrow 2 = some (.invokevirtual 130, 3, 91, 1, .null) := by decide +kernel
theorem fe_X7_readNarrow_5 : mj_f mi_X7_readNarrow 5 = some (.invokestatic 148, 3, 175, 1, .int 1) := by decide +kernel
theorem fe_X7_readNarrow_8 : mj_f mi_X7_readNarrow 8 = some (.lstore 4, 2, 4, 0, .null) := by decide +kernel
theorem fe_X7_readNarrow_10 : mj_f mi_X7_readNarrow 10 = some (.aload_n 0, 1, 0, 0, .null) := by decide +kernel
theorem fe_X7_readNarrow_11 : mj_f mi_X7_readNarrow 11 = some (.aload_n 1, 1, 1, 0, .null) := by decide +kernel
theorem fe_X7_readNarrow_12 : mj_f mi_X7_readNarrow 12 = some (.iconst 0, 1, 0, 0, .int (0)) := by decide +kernel
theorem fe_X7_readNarrow_13 : mj_f mi_X7_readNarrow 13 = some (.bipush 64, 2, 0, 0, .int (64)) := by decide +kernel
theorem fe_X7_readNarrow_15 : mj_f mi_X7_readNarrow 15 = some (.iconst 2, 1, 0, 0, .int (2)) := by decide +kernel
theorem fe_X7_readNarrow_16 : mj_f mi_X7_readNarrow 16 = some (.invokevirtual 110, 3, 90, 4, .null) := by decide +kernel
theorem fe_X7_readNarrow_19 : mj_f mi_X7_readNarrow 19 = some (.istore 6, 2, 6, 0, .null) := by decide +kernel
theorem fe_X7_readNarrow_21 : mj_f mi_X7_readNarrow 21 = some (.aload_n 0, 1, 0, 0, .null) := by decide +kernel
theorem fe_X7_readNarrow_22 : mj_f mi_X7_readNarrow 22 = some (.aload_n 1, 1, 1, 0, .null) := by decide +kernel
theorem fe_X7_readNarrow_23 : mj_f mi_X7_readNarrow 23 = some (.iload_n 3, 1, 3, 0, .null) := by decide +kernel
theorem fe_X7_readNarrow_24 : mj_f mi_X7_readNarrow 24 = some (.iload 6, 2, 6, 0, .null) := by decide +kernel
theorem fe_X7_readNarrow_26 : mj_f mi_X7_readNarrow 26 = some (.invokevirtual 114, 3, 92, 3, .null) := by decide +kernel
theorem fe_X7_readNarrow_29 : mj_f mi_X7_readNarrow 29 = some (.istore 7, 2, 7, 0, .null) := by decide +kernel
theorem fe_X7_readNarrow_31 : mj_f mi_X7_readNarrow 31 = some (.aload_n 2, 1, 2, 0, .null) := by decide +kernel
theorem fe_X7_readNarrow_32 : mj_f mi_X7_readNarrow 32 = some (.invokevirtual 134, 3, 113, 0, .null) := by decide +kernel
theorem fe_X7_readNarrow_35 : mj_f mi_X7_readNarrow 35 = some (.iconst 0, 1, 0, 0, .int (0)) := by decide +kernel
theorem fe_X7_readNarrow_36 : mj_f mi_X7_readNarrow 36 = some (.istore 8, 2, 8, 0, .null) := by decide +kernel
theorem fe_X7_readNarrow_38 : mj_f mi_X7_readNarrow 38 = some (.iload 8, 2, 8, 0, .null) := by decide +kernel
theorem fe_X7_readNarrow_40 : mj_f mi_X7_readNarrow 40 = some (.iload_n 3, 1, 3, 0, .null) := by decide +kernel
theorem fe_X7_readNarrow_41 : mj_f mi_X7_readNarrow 41 = some (.if_icmp .ge 37, 3, 78, 0, .null) := by decide +kernel
theorem fe_X7_readNarrow_44 : mj_f mi_X7_readNarrow 44 = some (.aload_n 0, 1, 0, 0, .null) := by decide +kernel
theorem fe_X7_readNarrow_45 : mj_f mi_X7_readNarrow 45 = some (.getfield 54, 3, 7, 12, .int 0) := by decide +kernel
theorem fe_X7_readNarrow_48 : mj_f mi_X7_readNarrow 48 = some (.ifCond .ne 30, 3, 78, 0, .null) := by decide +kernel
theorem fe_X7_readNarrow_51 : mj_f mi_X7_readNarrow 51 = some (.aload_n 2, 1, 2, 0, .null) := by decide +kernel
theorem fe_X7_readNarrow_52 : mj_f mi_X7_readNarrow 52 = some (.lload 4, 2, 4, 0, .null) := by decide +kernel
theorem fe_X7_readNarrow_54 : mj_f mi_X7_readNarrow 54 = some (.aload_n 1, 1, 1, 0, .null) := by decide +kernel
theorem fe_X7_readNarrow_55 : mj_f mi_X7_readNarrow 55 = some (.iload 7, 2, 7, 0, .null) := by decide +kernel
theorem fe_X7_readNarrow_57 : mj_f mi_X7_readNarrow 57 = some (.iload 8, 2, 8, 0, .null) := by decide +kernel
theorem fe_X7_readNarrow_59 : mj_f mi_X7_readNarrow 59 = some (.iload 6, 2, 6, 0, .null) := by decide +kernel
theorem fe_X7_readNarrow_61 : mj_f mi_X7_readNarrow 61 = some (.imul, 1, 0, 0, .null) := by decide +kernel
theorem fe_X7_readNarrow_62 : mj_f mi_X7_readNarrow 62 = some (.iadd, 1, 0, 0, .null) := by decide +kernel
theorem fe_X7_readNarrow_63 : mj_f mi_X7_readNarrow 63 = some (.iload 6, 2, 6, 0, .null) := by decide +kernel
theorem fe_X7_readNarrow_65 : mj_f mi_X7_readNarrow 65 = some (.invokevirtual 118, 3, 20, 2, .null) := by decide +kernel
theorem fe_X7_readNarrow_68 : mj_f mi_X7_readNarrow 68 = some (.ladd, 1, 0, 0, .null) := by decide +kernel
theorem fe_X7_readNarrow_69 : mj_f mi_X7_readNarrow 69 = some (.invokevirtual 145, 3, 114, 1, .null) := by decide +kernel
theorem fe_X7_readNarrow_72 : mj_f mi_X7_readNarrow 72 = some (.iinc 8 1, 3, 8, 0, .int (1)) := by decide +kernel
theorem fe_X7_readNarrow_75 : mj_f mi_X7_readNarrow 75 = some (.goto (-37), 3, 38, 0, .null) := by decide +kernel
theorem fe_X7_readNarrow_78 : mj_f mi_X7_readNarrow 78 = some (.return_, 1, 0, 0, .null) := by decide +kernel
def ct_X7_readPatched : MJT := [
  (0, 0, .aload_n 0, 1, 0, 0, .null),
  (1, 0, .aload_n 1, 1, 1, 0, .null),
  (2, 551, .invokevirtual 130, 3, 91, 1, .null),
  (5, 568, .invokestatic 148, 3, 175, 1, .int 1),
  (8, 0, .lstore_n 3, 1, 3, 0, .null),
  (9, 0, .aload_n 0, 1, 0, 0, .null),
  (10, 0, .aload_n 1, 1, 1, 0, .null),
  (11, 0, .iconst 0, 1, 0, 0, .int (0)),
  (12, 0, .bipush 64, 2, 0, 0, .int (64)),
  (14, 0, .iconst 2, 1, 0, 0, .int (2)),
  (15, 506, .invokevirtual 110, 3, 90, 4, .null),
  (18, 0, .istore 5, 2, 5, 0, .null),
  (20, 0, .aload_n 0, 1, 0, 0, .null),
  (21, 0, .aload_n 1, 1, 1, 0, .null),
  (22, 0, .iconst 0, 1, 0, 0, .int (0)),
  (23, 0, .iload_n 2, 1, 2, 0, .null),
  (24, 0, .iconst 2, 1, 0, 0, .int (2)),
  (25, 506, .invokevirtual 110, 3, 90, 4, .null),
  (28, 0, .istore 6, 2, 6, 0, .null),
  (30, 0, .iconst (-1), 1, 0, 0, .int (-1)),
  (31, 0, .istore 7, 2, 7, 0, .null),
  (33, 0, .iconst 0, 1, 0, 0, .int (0)),
  (34, 0, .istore 8, 2, 8, 0, .null),
  (36, 0, .iload 8, 2, 8, 0, .null),
  (38, 0, .iload 6, 2, 6, 0, .null),
  (40, 0, .if_icmp .ge 62, 3, 102, 0, .null),
  (43, 0, .iload 8, 2, 8, 0, .null),
  (45, 0, .bipush 32, 2, 0, 0, .int (32)),
  (47, 0, .if_icmp .ge 55, 3, 102, 0, .null),
  (50, 0, .aload_n 0, 1, 0, 0, .null),
  (51, 168, .getfield 54, 3, 7, 12, .int 0),
  (54, 0, .ifCond .ne 48, 3, 102, 0, .null),
  (57, 0, .aload_n 0, 1, 0, 0, .null),
  (58, 0, .aload_n 1, 1, 1, 0, .null),
  (59, 0, .iload 7, 2, 7, 0, .null),
  (61, 0, .iconst 1, 1, 0, 0, .int (1)),
  (62, 0, .iadd, 1, 0, 0, .null),
  (63, 0, .iload_n 2, 1, 2, 0, .null),
  (64, 0, .iconst 1, 1, 0, 0, .int (1)),
  (65, 0, .isub, 1, 0, 0, .null),
  (66, 0, .iconst 2, 1, 0, 0, .int (2)),
  (67, 506, .invokevirtual 110, 3, 90, 4, .null),
  (70, 0, .istore 7, 2, 7, 0, .null),
  (72, 0, .aload_n 0, 1, 0, 0, .null),
  (73, 162, .getfield 35, 3, 7, 6, .null),
  (76, 0, .iload 8, 2, 8, 0, .null),
  (78, 0, .iload 7, 2, 7, 0, .null),
  (80, 0, .iastore, 1, 0, 0, .null),
  (81, 0, .aload_n 0, 1, 0, 0, .null),
  (82, 163, .getfield 38, 3, 7, 7, .null),
  (85, 0, .iload 8, 2, 8, 0, .null),
  (87, 0, .aload_n 0, 1, 0, 0, .null),
  (88, 0, .aload_n 1, 1, 1, 0, .null),
  (89, 551, .invokevirtual 130, 3, 91, 1, .null),
  (92, 568, .invokestatic 148, 3, 175, 1, .int 1),
  (95, 0, .lastore, 1, 0, 0, .null),
  (96, 0, .iinc 8 1, 3, 8, 0, .int (1)),
  (99, 0, .goto (-63), 3, 36, 0, .null),
  (102, 0, .aload_n 0, 1, 0, 0, .null),
  (103, 0, .aload_n 1, 1, 1, 0, .null),
  (104, 0, .iload_n 2, 1, 2, 0, .null),
  (105, 0, .iload 5, 2, 5, 0, .null),
  (107, 519, .invokevirtual 114, 3, 92, 3, .null),
  (110, 0, .istore 8, 2, 8, 0, .null),
  (112, 0, .iconst 0, 1, 0, 0, .int (0)),
  (113, 0, .istore 9, 2, 9, 0, .null),
  (115, 0, .iload 9, 2, 9, 0, .null),
  (117, 0, .iload_n 2, 1, 2, 0, .null),
  (118, 0, .if_icmp .ge 39, 3, 157, 0, .null),
  (121, 0, .aload_n 0, 1, 0, 0, .null),
  (122, 168, .getfield 54, 3, 7, 12, .int 0),
  (125, 0, .ifCond .ne 32, 3, 157, 0, .null),
  (128, 0, .aload_n 0, 1, 0, 0, .null),
  (129, 156, .getfield 12, 3, 7, 0, .null),
  (132, 0, .lload_n 3, 1, 3, 0, .null),
  (133, 0, .aload_n 1, 1, 1, 0, .null),
  (134, 0, .iload 8, 2, 8, 0, .null),
  (136, 0, .iload 9, 2, 9, 0, .null),
  (138, 0, .iload 5, 2, 5, 0, .null),
  (140, 0, .imul, 1, 0, 0, .null),
  (141, 0, .iadd, 1, 0, 0, .null),
  (142, 0, .iload 5, 2, 5, 0, .null),
  (144, 526, .invokevirtual 118, 3, 20, 2, .null),
  (147, 0, .ladd, 1, 0, 0, .null),
  (148, 571, .invokevirtual 145, 3, 114, 1, .null),
  (151, 0, .iinc 9 1, 3, 9, 0, .int (1)),
  (154, 0, .goto (-39), 3, 115, 0, .null),
  (157, 0, .iconst 0, 1, 0, 0, .int (0)),
  (158, 0, .istore 9, 2, 9, 0, .null),
  (160, 0, .iload 9, 2, 9, 0, .null),
  (162, 0, .iload 6, 2, 6, 0, .null),
  (164, 0, .if_icmp .ge 44, 3, 208, 0, .null),
  (167, 0, .iload 9, 2, 9, 0, .null),
  (169, 0, .bipush 32, 2, 0, 0, .int (32)),
  (171, 0, .if_icmp .ge 37, 3, 208, 0, .null),
  (174, 0, .aload_n 0, 1, 0, 0, .null),
  (175, 168, .getfield 54, 3, 7, 12, .int 0),
  (178, 0, .ifCond .ne 30, 3, 208, 0, .null),
  (181, 0, .aload_n 0, 1, 0, 0, .null),
  (182, 156, .getfield 12, 3, 7, 0, .null),
  (185, 0, .aload_n 0, 1, 0, 0, .null),
  (186, 162, .getfield 35, 3, 7, 6, .null),
  (189, 0, .iload 9, 2, 9, 0, .null),
  (191, 0, .iaload, 1, 0, 0, .null),
  (192, 0, .aload_n 0, 1, 0, 0, .null),
  (193, 163, .getfield 38, 3, 7, 7, .null),
  (196, 0, .iload 9, 2, 9, 0, .null),
  (198, 0, .laload, 1, 0, 0, .null),
  (199, 579, .invokevirtual 152, 3, 115, 2, .null),
  (202, 0, .iinc 9 1, 3, 9, 0, .int (1)),
  (205, 0, .goto (-45), 3, 160, 0, .null),
  (208, 0, .aload_n 0, 1, 0, 0, .null),
  (209, 0, .dup, 1, 0, 0, .null),
  (210, 167, .getfield 51, 3, 7, 11, .int 0),
  (213, 0, .iload 6, 2, 6, 0, .null),
  (215, 0, .iadd, 1, 0, 0, .null),
  (216, 167, .putfield 51, 3, 7, 11, .int 0),
  (219, 0, .return_, 1, 0, 0, .null)]
abbrev id_X7_readPatched : Nat := 99
def mi_X7_readPatched : MI := (yX7_readPatched, cX7_readPatched, 10, none, 7, ct_X7_readPatched)
theorem fe_X7_readPatched_0 : mj_f mi_X7_readPatched 0 = some (.aload_n 0, 1, 0, 0, .null) := by decide +kernel
theorem fe_X7_readPatched_1 : mj_f mi_X7_readPatched 1 = some (.aload_n 1, 1, 1, 0, .null) := by decide +kernel
theorem fe_X7_readPatched_2 : mj_f mi_X7_readPatched 2 = some (.invokevirtual 130, 3, 91, 1, .null) := by decide +kernel
theorem fe_X7_readPatched_5 : mj_f mi_X7_readPatched 5 = some (.invokestatic 148, 3, 175, 1, .int 1) := by decide +kernel
theorem fe_X7_readPatched_8 : mj_f mi_X7_readPatched 8 = some (.lstore_n 3, 1, 3, 0, .null) := by decide +kernel
theorem fe_X7_readPatched_9 : mj_f mi_X7_readPatched 9 = some (.aload_n 0, 1, 0, 0, .null) := by decide +kernel
theorem fe_X7_readPatched_10 : mj_f mi_X7_readPatched 10 = some (.aload_n 1, 1, 1, 0, .null) := by decide +kernel
theorem fe_X7_readPatched_11 : mj_f mi_X7_readPatched 11 = some (.iconst 0, 1, 0, 0, .int (0)) := by decide +kernel
theorem fe_X7_readPatched_12 : mj_f mi_X7_readPatched 12 = some (.bipush 64, 2, 0, 0, .int (64)) := by decide +kernel
theorem fe_X7_readPatched_14 : mj_f mi_X7_readPatched 14 = some (.iconst 2, 1, 0, 0, .int (2)) := by decide +kernel
theorem fe_X7_readPatched_15 : mj_f mi_X7_readPatched 15 = some (.invokevirtual 110, 3, 90, 4, .null) := by decide +kernel
theorem fe_X7_readPatched_18 : mj_f mi_X7_readPatched 18 = some (.istore 5, 2, 5, 0, .null) := by decide +kernel
theorem fe_X7_readPatched_20 : mj_f mi_X7_readPatched 20 = some (.aload_n 0, 1, 0, 0, .null) := by decide +kernel
theorem fe_X7_readPatched_21 : mj_f mi_X7_readPatched 21 = some (.aload_n 1, 1, 1, 0, .null) := by decide +kernel
theorem fe_X7_readPatched_22 : mj_f mi_X7_readPatched 22 = some (.iconst 0, 1, 0, 0, .int (0)) := by decide +kernel
theorem fe_X7_readPatched_23 : mj_f mi_X7_readPatched 23 = some (.iload_n 2, 1, 2, 0, .null) := by decide +kernel
theorem fe_X7_readPatched_24 : mj_f mi_X7_readPatched 24 = some (.iconst 2, 1, 0, 0, .int (2)) := by decide +kernel
theorem fe_X7_readPatched_25 : mj_f mi_X7_readPatched 25 = some (.invokevirtual 110, 3, 90, 4, .null) := by decide +kernel
theorem fe_X7_readPatched_28 : mj_f mi_X7_readPatched 28 = some (.istore 6, 2, 6, 0, .null) := by decide +kernel
theorem fe_X7_readPatched_30 : mj_f mi_X7_readPatched 30 = some (.iconst (-1), 1, 0, 0, .int (-1)) := by decide +kernel
theorem fe_X7_readPatched_31 : mj_f mi_X7_readPatched 31 = some (.istore 7, 2, 7, 0, .null) := by decide +kernel
theorem fe_X7_readPatched_33 : mj_f mi_X7_readPatched 33 = some (.iconst 0, 1, 0, 0, .int (0)) := by decide +kernel
theorem fe_X7_readPatched_34 : mj_f mi_X7_readPatched 34 = some (.istore 8, 2, 8, 0, .null) := by decide +kernel
theorem fe_X7_readPatched_36 : mj_f mi_X7_readPatched 36 = some (.iload 8, 2, 8, 0, .null) := by decide +kernel
theorem fe_X7_readPatched_38 : mj_f mi_X7_readPatched 38 = some (.iload 6, 2, 6, 0, .null) := by decide +kernel
theorem fe_X7_readPatched_40 : mj_f mi_X7_readPatched 40 = some (.if_icmp .ge 62, 3, 102, 0, .null) := by decide +kernel
theorem fe_X7_readPatched_43 : mj_f mi_X7_readPatched 43 = some (.iload 8, 2, 8, 0, .null) := by decide +kernel
theorem fe_X7_readPatched_45 : mj_f mi_X7_readPatched 45 = some (.bipush 32, 2, 0, 0, .int (32)) := by decide +kernel
theorem fe_X7_readPatched_47 : mj_f mi_X7_readPatched 47 = some (.if_icmp .ge 55, 3, 102, 0, .null) := by decide +kernel
theorem fe_X7_readPatched_50 : mj_f mi_X7_readPatched 50 = some (.aload_n 0, 1, 0, 0, .null) := by decide +kernel
theorem fe_X7_readPatched_51 : mj_f mi_X7_readPatched 51 = some (.getfield 54, 3, 7, 12, .int 0) := by decide +kernel
theorem fe_X7_readPatched_54 : mj_f mi_X7_readPatched 54 = some (.ifCond .ne 48, 3, 102, 0, .null) := by decide +kernel
theorem fe_X7_readPatched_57 : mj_f mi_X7_readPatched 57 = some (.aload_n 0, 1, 0, 0, .null) := by decide +kernel
theorem fe_X7_readPatched_58 : mj_f mi_X7_readPatched 58 = some (.aload_n 1, 1, 1, 0, .null) := by decide +kernel
theorem fe_X7_readPatched_59 : mj_f mi_X7_readPatched 59 = some (.iload 7, 2, 7, 0, .null) := by decide +kernel
theorem fe_X7_readPatched_61 : mj_f mi_X7_readPatched 61 = some (.iconst 1, 1, 0, 0, .int (1)) := by decide +kernel
theorem fe_X7_readPatched_62 : mj_f mi_X7_readPatched 62 = some (.iadd, 1, 0, 0, .null) := by decide +kernel
theorem fe_X7_readPatched_63 : mj_f mi_X7_readPatched 63 = some (.iload_n 2, 1, 2, 0, .null) := by decide +kernel
theorem fe_X7_readPatched_64 : mj_f mi_X7_readPatched 64 = some (.iconst 1, 1, 0, 0, .int (1)) := by decide +kernel
theorem fe_X7_readPatched_65 : mj_f mi_X7_readPatched 65 = some (.isub, 1, 0, 0, .null) := by decide +kernel
theorem fe_X7_readPatched_66 : mj_f mi_X7_readPatched 66 = some (.iconst 2, 1, 0, 0, .int (2)) := by decide +kernel
theorem fe_X7_readPatched_67 : mj_f mi_X7_readPatched 67 = some (.invokevirtual 110, 3, 90, 4, .null) := by decide +kernel
theorem fe_X7_readPatched_70 : mj_f mi_X7_readPatched 70 = some (.istore 7, 2, 7, 0, .null) := by decide +kernel
theorem fe_X7_readPatched_72 : mj_f mi_X7_readPatched 72 = some (.aload_n 0, 1, 0, 0, .null) := by decide +kernel
theorem fe_X7_readPatched_73 : mj_f mi_X7_readPatched 73 = some (.getfield 35, 3, 7, 6, .null) := by decide +kernel
theorem fe_X7_readPatched_76 : mj_f mi_X7_readPatched 76 = some (.iload 8, 2, 8, 0, .null) := by decide +kernel
theorem fe_X7_readPatched_78 : mj_f mi_X7_readPatched 78 = some (.iload 7, 2, 7, 0, .null) := by decide +kernel
theorem fe_X7_readPatched_80 : mj_f mi_X7_readPatched 80 = some (.iastore, 1, 0, 0, .null) := by decide +kernel
theorem fe_X7_readPatched_81 : mj_f mi_X7_readPatched 81 = some (.aload_n 0, 1, 0, 0, .null) := by decide +kernel
theorem fe_X7_readPatched_82 : mj_f mi_X7_readPatched 82 = some (.getfield 38, 3, 7, 7, .null) := by decide +kernel
theorem fe_X7_readPatched_85 : mj_f mi_X7_readPatched 85 = some (.iload 8, 2, 8, 0, .null) := by decide +kernel
theorem fe_X7_readPatched_87 : mj_f mi_X7_readPatched 87 = some (.aload_n 0, 1, 0, 0, .null) := by decide +kernel
theorem fe_X7_readPatched_88 : mj_f mi_X7_readPatched 88 = some (.aload_n 1, 1, 1, 0, .null) := by decide +kernel
theorem fe_X7_readPatched_89 : mj_f mi_X7_readPatched 89 = some (.invokevirtual 130, 3, 91, 1, .null) := by decide +kernel
theorem fe_X7_readPatched_92 : mj_f mi_X7_readPatched 92 = some (.invokestatic 148, 3, 175, 1, .int 1) := by decide +kernel
theorem fe_X7_readPatched_95 : mj_f mi_X7_readPatched 95 = some (.lastore, 1, 0, 0, .null) := by decide +kernel
theorem fe_X7_readPatched_96 : mj_f mi_X7_readPatched 96 = some (.iinc 8 1, 3, 8, 0, .int (1)) := by decide +kernel
theorem fe_X7_readPatched_99 : mj_f mi_X7_readPatched 99 = some (.goto (-63), 3, 36, 0, .null) := by decide +kernel
theorem fe_X7_readPatched_102 : mj_f mi_X7_readPatched 102 = some (.aload_n 0, 1, 0, 0, .null) := by decide +kernel
theorem fe_X7_readPatched_103 : mj_f mi_X7_readPatched 103 = some (.aload_n 1, 1, 1, 0, .null) := by decide +kernel
theorem fe_X7_readPatched_104 : mj_f mi_X7_readPatched 104 = some (.iload_n 2, 1, 2, 0, .null) := by decide +kernel
theorem fe_X7_readPatched_105 : mj_f mi_X7_readPatched 105 = some (.iload 5, 2, 5, 0, .null) := by decide +kernel
theorem fe_X7_readPatched_107 : mj_f mi_X7_readPatched 107 = some (.invokevirtual 114, 3, 92, 3, .null) := by decide +kernel
theorem fe_X7_readPatched_110 : mj_f mi_X7_readPatched 110 = some (.istore 8, 2, 8, 0, .null) := by decide +kernel
theorem fe_X7_readPatched_112 : mj_f mi_X7_readPatched 112 = some (.iconst 0, 1, 0, 0, .int (0)) := by decide +kernel
theorem fe_X7_readPatched_113 : mj_f mi_X7_readPatched 113 = some (.istore 9, 2, 9, 0, .null) := by decide +kernel
theorem fe_X7_readPatched_115 : mj_f mi_X7_readPatched 115 = some (.iload 9, 2, 9, 0, .null) := by decide +kernel
theorem fe_X7_readPatched_117 : mj_f mi_X7_readPatched 117 = some (.iload_n 2, 1, 2, 0, .null) := by decide +kernel
theorem fe_X7_readPatched_118 : mj_f mi_X7_readPatched 118 = some (.if_icmp .ge 39, 3, 157, 0, .null) := by decide +kernel
theorem fe_X7_readPatched_121 : mj_f mi_X7_readPatched 121 = some (.aload_n 0, 1, 0, 0, .null) := by decide +kernel
theorem fe_X7_readPatched_122 : mj_f mi_X7_readPatched 122 = some (.getfield 54, 3, 7, 12, .int 0) := by decide +kernel
theorem fe_X7_readPatched_125 : mj_f mi_X7_readPatched 125 = some (.ifCond .ne 32, 3, 157, 0, .null) := by decide +kernel
theorem fe_X7_readPatched_128 : mj_f mi_X7_readPatched 128 = some (.aload_n 0, 1, 0, 0, .null) := by decide +kernel
theorem fe_X7_readPatched_129 : mj_f mi_X7_readPatched 129 = some (.getfield 12, 3, 7, 0, .null) := by decide +kernel
theorem fe_X7_readPatched_132 : mj_f mi_X7_readPatched 132 = some (.lload_n 3, 1, 3, 0, .null) := by decide +kernel
theorem fe_X7_readPatched_133 : mj_f mi_X7_readPatched 133 = some (.aload_n 1, 1, 1, 0, .null) := by decide +kernel
theorem fe_X7_readPatched_134 : mj_f mi_X7_readPatched 134 = some (.iload 8, 2, 8, 0, .null) := by decide +kernel
theorem fe_X7_readPatched_136 : mj_f mi_X7_readPatched 136 = some (.iload 9, 2, 9, 0, .null) := by decide +kernel
theorem fe_X7_readPatched_138 : mj_f mi_X7_readPatched 138 = some (.iload 5, 2, 5, 0, .null) := by decide +kernel
theorem fe_X7_readPatched_140 : mj_f mi_X7_readPatched 140 = some (.imul, 1, 0, 0, .null) := by decide +kernel
theorem fe_X7_readPatched_141 : mj_f mi_X7_readPatched 141 = some (.iadd, 1, 0, 0, .null) := by decide +kernel
theorem fe_X7_readPatched_142 : mj_f mi_X7_readPatched 142 = some (.iload 5, 2, 5, 0, .null) := by decide +kernel
theorem fe_X7_readPatched_144 : mj_f mi_X7_readPatched 144 = some (.invokevirtual 118, 3, 20, 2, .null) := by decide +kernel
theorem fe_X7_readPatched_147 : mj_f mi_X7_readPatched 147 = some (.ladd, 1, 0, 0, .null) := by decide +kernel
theorem fe_X7_readPatched_148 : mj_f mi_X7_readPatched 148 = some (.invokevirtual 145, 3, 114, 1, .null) := by decide +kernel
theorem fe_X7_readPatched_151 : mj_f mi_X7_readPatched 151 = some (.iinc 9 1, 3, 9, 0, .int (1)) := by decide +kernel
theorem fe_X7_readPatched_154 : mj_f mi_X7_readPatched 154 = some (.goto (-39), 3, 115, 0, .null) := by decide +kernel
theorem fe_X7_readPatched_157 : mj_f mi_X7_readPatched 157 = some (.iconst 0, 1, 0, 0, .int (0)) := by decide +kernel
theorem fe_X7_readPatched_158 : mj_f mi_X7_readPatched 158 = some (.istore 9, 2, 9, 0, .null) := by decide +kernel
theorem fe_X7_readPatched_160 : mj_f mi_X7_readPatched 160 = some (.iload 9, 2, 9, 0, .null) := by decide +kernel
theorem fe_X7_readPatched_162 : mj_f mi_X7_readPatched 162 = some (.iload 6, 2, 6, 0, .null) := by decide +kernel
theorem fe_X7_readPatched_164 : mj_f mi_X7_readPatched 164 = some (.if_icmp .ge 44, 3, 208, 0, .null) := by decide +kernel
theorem fe_X7_readPatched_167 : mj_f mi_X7_readPatched 167 = some (.iload 9, 2, 9, 0, .null) := by decide +kernel
theorem fe_X7_readPatched_169 : mj_f mi_X7_readPatched 169 = some (.bipush 32, 2, 0, 0, .int (32)) := by decide +kernel
theorem fe_X7_readPatched_171 : mj_f mi_X7_readPatched 171 = some (.if_icmp .ge 37, 3, 208, 0, .null) := by decide +kernel
theorem fe_X7_readPatched_174 : mj_f mi_X7_readPatched 174 = some (.aload_n 0, 1, 0, 0, .null) := by decide +kernel
theorem fe_X7_readPatched_175 : mj_f mi_X7_readPatched 175 = some (.getfield 54, 3, 7, 12, .int 0) := by decide +kernel
theorem fe_X7_readPatched_178 : mj_f mi_X7_readPatched 178 = some (.ifCond .ne 30, 3, 208, 0, .null) := by decide +kernel
theorem fe_X7_readPatched_181 : mj_f mi_X7_readPatched 181 = some (.aload_n 0, 1, 0, 0, .null) := by decide +kernel
theorem fe_X7_readPatched_182 : mj_f mi_X7_readPatched 182 = some (.getfield 12, 3, 7, 0, .null) := by decide +kernel
theorem fe_X7_readPatched_185 : mj_f mi_X7_readPatched 185 = some (.aload_n 0, 1, 0, 0, .null) := by decide +kernel
theorem fe_X7_readPatched_186 : mj_f mi_X7_readPatched 186 = some (.getfield 35, 3, 7, 6, .null) := by decide +kernel
theorem fe_X7_readPatched_189 : mj_f mi_X7_readPatched 189 = some (.iload 9, 2, 9, 0, .null) := by decide +kernel
theorem fe_X7_readPatched_191 : mj_f mi_X7_readPatched 191 = some (.iaload, 1, 0, 0, .null) := by decide +kernel
theorem fe_X7_readPatched_192 : mj_f mi_X7_readPatched 192 = some (.aload_n 0, 1, 0, 0, .null) := by decide +kernel
theorem fe_X7_readPatched_193 : mj_f mi_X7_readPatched 193 = some (.getfield 38, 3, 7, 7, .null) := by decide +kernel
theorem fe_X7_readPatched_196 : mj_f mi_X7_readPatched 196 = some (.iload 9, 2, 9, 0, .null) := by decide +kernel
theorem fe_X7_readPatched_198 : mj_f mi_X7_readPatched 198 = some (.laload, 1, 0, 0, .null) := by decide +kernel
theorem fe_X7_readPatched_199 : mj_f mi_X7_readPatched 199 = some (.invokevirtual 152, 3, 115, 2, .null) := by decide +kernel
theorem fe_X7_readPatched_202 : mj_f mi_X7_readPatched 202 = some (.iinc 9 1, 3, 9, 0, .int (1)) := by decide +kernel
theorem fe_X7_readPatched_205 : mj_f mi_X7_readPatched 205 = some (.goto (-45), 3, 160, 0, .null) := by decide +kernel
theorem fe_X7_readPatched_208 : mj_f mi_X7_readPatched 208 = some (.aload_n 0, 1, 0, 0, .null) := by decide +kernel
theorem fe_X7_readPatched_209 : mj_f mi_X7_readPatched 209 = some (.dup, 1, 0, 0, .null) := by decide +kernel
theorem fe_X7_readPatched_210 : mj_f mi_X7_readPatched 210 = some (.getfield 51, 3, 7, 11, .int 0) := by decide +kernel
theorem fe_X7_readPatched_213 : mj_f mi_X7_readPatched 213 = some (.iload 6, 2, 6, 0, .null) := by decide +kernel
theorem fe_X7_readPatched_215 : mj_f mi_X7_readPatched 215 = some (.iadd, 1, 0, 0, .null) := by decide +kernel
theorem fe_X7_readPatched_216 : mj_f mi_X7_readPatched 216 = some (.putfield 51, 3, 7, 11, .int 0) := by decide +kernel
theorem fe_X7_readPatched_219 : mj_f mi_X7_readPatched 219 = some (.return_, 1, 0, 0, .null) := by decide +kernel
def ct_X7_undo : MJT := [
  (0, 0, .iload_n 2, 1, 2, 0, .null),
  (1, 0, .ifCond .lt 10, 3, 11, 0, .null),
  (4, 0, .iload_n 2, 1, 2, 0, .null),
  (5, 0, .iconst 1, 1, 0, 0, .int (1)),
  (6, 0, .iadd, 1, 0, 0, .null),
  (7, 0, .iconst 3, 1, 0, 0, .int (3)),
  (8, 0, .if_icmp .lt 4, 3, 12, 0, .null),
  (11, 0, .return_, 1, 0, 0, .null),
  (12, 0, .aload_n 0, 1, 0, 0, .null),
  (13, 160, .getfield 28, 3, 7, 4, .null),
  (16, 0, .iload_n 2, 1, 2, 0, .null),
  (17, 0, .iaload, 1, 0, 0, .null),
  (18, 0, .istore_n 3, 1, 3, 0, .null),
  (19, 0, .aload_n 0, 1, 0, 0, .null),
  (20, 165, .getfield 45, 3, 7, 9, .int 0),
  (23, 0, .istore 4, 2, 4, 0, .null),
  (25, 0, .aload_n 0, 1, 0, 0, .null),
  (26, 159, .getfield 24, 3, 7, 3, .null),
  (29, 0, .iload_n 2, 1, 2, 0, .null),
  (30, 0, .iaload, 1, 0, 0, .null),
  (31, 0, .tableswitch 77 3 5 #[25, 32, 68], 25, 0, 0, .null),
  (56, 0, .aload_n 0, 1, 0, 0, .null),
  (57, 591, .invokevirtual 156, 3, 101, 0, .null),
  (60, 0, .goto 58, 3, 118, 0, .null),
  (63, 0, .aload_n 0, 1, 0, 0, .null),
  (64, 0, .aload_n 1, 1, 1, 0, .null),
  (65, 0, .iconst 1, 1, 0, 0, .int (1)),
  (66, 0, .iconst 1, 1, 0, 0, .int (1)),
  (67, 0, .iconst 3, 1, 0, 0, .int (3)),
  (68, 506, .invokevirtual 110, 3, 90, 4, .null),
  (71, 0, .pop, 1, 0, 0, .null),
  (72, 0, .aload_n 0, 1, 0, 0, .null),
  (73, 0, .aload_n 1, 1, 1, 0, .null),
  (74, 0, .aload_n 0, 1, 0, 0, .null),
  (75, 158, .getfield 21, 3, 7, 2, .null),
  (78, 0, .aload_n 0, 1, 0, 0, .null),
  (79, 160, .getfield 28, 3, 7, 4, .null),
  (82, 0, .iload_n 2, 1, 2, 0, .null),
  (83, 0, .iconst 1, 1, 0, 0, .int (1)),
  (84, 0, .iadd, 1, 0, 0, .null),
  (85, 0, .iaload, 1, 0, 0, .null),
  (86, 564, .invokevirtual 135, 3, 98, 3, .null),
  (89, 0, .aload_n 0, 1, 0, 0, .null),
  (90, 0, .iload_n 3, 1, 3, 0, .null),
  (91, 0, .iload 4, 2, 4, 0, .null),
  (93, 603, .invokevirtual 159, 3, 103, 2, .null),
  (96, 0, .goto 22, 3, 118, 0, .null),
  (99, 0, .aload_n 0, 1, 0, 0, .null),
  (100, 0, .aload_n 1, 1, 1, 0, .null),
  (101, 0, .iload_n 3, 1, 3, 0, .null),
  (102, 614, .invokevirtual 162, 3, 104, 2, .null),
  (105, 0, .goto 13, 3, 118, 0, .null),
  (108, 0, .aload_n 0, 1, 0, 0, .null),
  (109, 0, .aload_n 0, 1, 0, 0, .null),
  (110, 161, .getfield 31, 3, 7, 5, .null),
  (113, 0, .iload_n 2, 1, 2, 0, .null),
  (114, 0, .laload, 1, 0, 0, .null),
  (115, 628, .invokevirtual 165, 3, 102, 1, .null),
  (118, 0, .return_, 1, 0, 0, .null)]
abbrev id_X7_undo : Nat := 100
def mi_X7_undo : MI := (yX7_undo, cX7_undo, 5, none, 7, ct_X7_undo)
theorem fe_X7_undo_0 : mj_f mi_X7_undo 0 = some (.iload_n 2, 1, 2, 0, .null) := by decide +kernel
theorem fe_X7_undo_1 : mj_f mi_X7_undo 1 = some (.ifCond .lt 10, 3, 11, 0, .null) := by decide +kernel
theorem fe_X7_undo_4 : mj_f mi_X7_undo 4 = some (.iload_n 2, 1, 2, 0, .null) := by decide +kernel
theorem fe_X7_undo_5 : mj_f mi_X7_undo 5 = some (.iconst 1, 1, 0, 0, .int (1)) := by decide +kernel
theorem fe_X7_undo_6 : mj_f mi_X7_undo 6 = some (.iadd, 1, 0, 0, .null) := by decide +kernel
theorem fe_X7_undo_7 : mj_f mi_X7_undo 7 = some (.iconst 3, 1, 0, 0, .int (3)) := by decide +kernel
theorem fe_X7_undo_8 : mj_f mi_X7_undo 8 = some (.if_icmp .lt 4, 3, 12, 0, .null) := by decide +kernel
theorem fe_X7_undo_11 : mj_f mi_X7_undo 11 = some (.return_, 1, 0, 0, .null) := by decide +kernel
theorem fe_X7_undo_12 : mj_f mi_X7_undo 12 = some (.aload_n 0, 1, 0, 0, .null) := by decide +kernel
theorem fe_X7_undo_13 : mj_f mi_X7_undo 13 = some (.getfield 28, 3, 7, 4, .null) := by decide +kernel
theorem fe_X7_undo_16 : mj_f mi_X7_undo 16 = some (.iload_n 2, 1, 2, 0, .null) := by decide +kernel
theorem fe_X7_undo_17 : mj_f mi_X7_undo 17 = some (.iaload, 1, 0, 0, .null) := by decide +kernel
theorem fe_X7_undo_18 : mj_f mi_X7_undo 18 = some (.istore_n 3, 1, 3, 0, .null) := by decide +kernel
theorem fe_X7_undo_19 : mj_f mi_X7_undo 19 = some (.aload_n 0, 1, 0, 0, .null) := by decide +kernel
theorem fe_X7_undo_20 : mj_f mi_X7_undo 20 = some (.getfield 45, 3, 7, 9, .int 0) := by decide +kernel
theorem fe_X7_undo_23 : mj_f mi_X7_undo 23 = some (.istore 4, 2, 4, 0, .null) := by decide +kernel
theorem fe_X7_undo_25 : mj_f mi_X7_undo 25 = some (.aload_n 0, 1, 0, 0, .null) := by decide +kernel
theorem fe_X7_undo_26 : mj_f mi_X7_undo 26 = some (.getfield 24, 3, 7, 3, .null) := by decide +kernel
theorem fe_X7_undo_29 : mj_f mi_X7_undo 29 = some (.iload_n 2, 1, 2, 0, .null) := by decide +kernel
theorem fe_X7_undo_30 : mj_f mi_X7_undo 30 = some (.iaload, 1, 0, 0, .null) := by decide +kernel
theorem fe_X7_undo_31 : mj_f mi_X7_undo 31 = some (.tableswitch 77 3 5 #[25, 32, 68], 25, 0, 0, .null) := by decide +kernel
theorem fe_X7_undo_56 : mj_f mi_X7_undo 56 = some (.aload_n 0, 1, 0, 0, .null) := by decide +kernel
theorem fe_X7_undo_57 : mj_f mi_X7_undo 57 = some (.invokevirtual 156, 3, 101, 0, .null) := by decide +kernel
theorem fe_X7_undo_60 : mj_f mi_X7_undo 60 = some (.goto 58, 3, 118, 0, .null) := by decide +kernel
theorem fe_X7_undo_63 : mj_f mi_X7_undo 63 = some (.aload_n 0, 1, 0, 0, .null) := by decide +kernel
theorem fe_X7_undo_64 : mj_f mi_X7_undo 64 = some (.aload_n 1, 1, 1, 0, .null) := by decide +kernel
theorem fe_X7_undo_65 : mj_f mi_X7_undo 65 = some (.iconst 1, 1, 0, 0, .int (1)) := by decide +kernel
theorem fe_X7_undo_66 : mj_f mi_X7_undo 66 = some (.iconst 1, 1, 0, 0, .int (1)) := by decide +kernel
theorem fe_X7_undo_67 : mj_f mi_X7_undo 67 = some (.iconst 3, 1, 0, 0, .int (3)) := by decide +kernel
theorem fe_X7_undo_68 : mj_f mi_X7_undo 68 = some (.invokevirtual 110, 3, 90, 4, .null) := by decide +kernel
theorem fe_X7_undo_71 : mj_f mi_X7_undo 71 = some (.pop, 1, 0, 0, .null) := by decide +kernel
theorem fe_X7_undo_72 : mj_f mi_X7_undo 72 = some (.aload_n 0, 1, 0, 0, .null) := by decide +kernel
theorem fe_X7_undo_73 : mj_f mi_X7_undo 73 = some (.aload_n 1, 1, 1, 0, .null) := by decide +kernel
theorem fe_X7_undo_74 : mj_f mi_X7_undo 74 = some (.aload_n 0, 1, 0, 0, .null) := by decide +kernel
theorem fe_X7_undo_75 : mj_f mi_X7_undo 75 = some (.getfield 21, 3, 7, 2, .null) := by decide +kernel
theorem fe_X7_undo_78 : mj_f mi_X7_undo 78 = some (.aload_n 0, 1, 0, 0, .null) := by decide +kernel
theorem fe_X7_undo_79 : mj_f mi_X7_undo 79 = some (.getfield 28, 3, 7, 4, .null) := by decide +kernel
theorem fe_X7_undo_82 : mj_f mi_X7_undo 82 = some (.iload_n 2, 1, 2, 0, .null) := by decide +kernel
theorem fe_X7_undo_83 : mj_f mi_X7_undo 83 = some (.iconst 1, 1, 0, 0, .int (1)) := by decide +kernel
theorem fe_X7_undo_84 : mj_f mi_X7_undo 84 = some (.iadd, 1, 0, 0, .null) := by decide +kernel
theorem fe_X7_undo_85 : mj_f mi_X7_undo 85 = some (.iaload, 1, 0, 0, .null) := by decide +kernel
theorem fe_X7_undo_86 : mj_f mi_X7_undo 86 = some (.invokevirtual 135, 3, 98, 3, .null) := by decide +kernel
theorem fe_X7_undo_89 : mj_f mi_X7_undo 89 = some (.aload_n 0, 1, 0, 0, .null) := by decide +kernel
theorem fe_X7_undo_90 : mj_f mi_X7_undo 90 = some (.iload_n 3, 1, 3, 0, .null) := by decide +kernel
theorem fe_X7_undo_91 : mj_f mi_X7_undo 91 = some (.iload 4, 2, 4, 0, .null) := by decide +kernel
theorem fe_X7_undo_93 : mj_f mi_X7_undo 93 = some (.invokevirtual 159, 3, 103, 2, .null) := by decide +kernel
theorem fe_X7_undo_96 : mj_f mi_X7_undo 96 = some (.goto 22, 3, 118, 0, .null) := by decide +kernel
theorem fe_X7_undo_99 : mj_f mi_X7_undo 99 = some (.aload_n 0, 1, 0, 0, .null) := by decide +kernel
theorem fe_X7_undo_100 : mj_f mi_X7_undo 100 = some (.aload_n 1, 1, 1, 0, .null) := by decide +kernel
theorem fe_X7_undo_101 : mj_f mi_X7_undo 101 = some (.iload_n 3, 1, 3, 0, .null) := by decide +kernel
theorem fe_X7_undo_102 : mj_f mi_X7_undo 102 = some (.invokevirtual 162, 3, 104, 2, .null) := by decide +kernel
theorem fe_X7_undo_105 : mj_f mi_X7_undo 105 = some (.goto 13, 3, 118, 0, .null) := by decide +kernel
theorem fe_X7_undo_108 : mj_f mi_X7_undo 108 = some (.aload_n 0, 1, 0, 0, .null) := by decide +kernel
theorem fe_X7_undo_109 : mj_f mi_X7_undo 109 = some (.aload_n 0, 1, 0, 0, .null) := by decide +kernel
theorem fe_X7_undo_110 : mj_f mi_X7_undo 110 = some (.getfield 31, 3, 7, 5, .null) := by decide +kernel
theorem fe_X7_undo_113 : mj_f mi_X7_undo 113 = some (.iload_n 2, 1, 2, 0, .null) := by decide +kernel
theorem fe_X7_undo_114 : mj_f mi_X7_undo 114 = some (.laload, 1, 0, 0, .null) := by decide +kernel
theorem fe_X7_undo_115 : mj_f mi_X7_undo 115 = some (.invokevirtual 165, 3, 102, 1, .null) := by decide +kernel
theorem fe_X7_undo_118 : mj_f mi_X7_undo 118 = some (.return_, 1, 0, 0, .null) := by decide +kernel
def ct_X7_addSteps : MJT := [
  (0, 0, .iconst 1, 1, 0, 0, .int (1)),
  (1, 0, .istore_n 1, 1, 1, 0, .null),
  (2, 0, .iload_n 1, 1, 1, 0, .null),
  (3, 0, .aload_n 0, 1, 0, 0, .null),
  (4, 156, .getfield 12, 3, 7, 0, .null),
  (7, 595, .invokevirtual 168, 3, 108, 0, .null),
  (10, 0, .if_icmp .ge 36, 3, 46, 0, .null),
  (13, 0, .aload_n 0, 1, 0, 0, .null),
  (14, 156, .getfield 12, 3, 7, 0, .null),
  (17, 0, .iload_n 1, 1, 1, 0, .null),
  (18, 0, .aload_n 0, 1, 0, 0, .null),
  (19, 156, .getfield 12, 3, 7, 0, .null),
  (22, 0, .iload_n 1, 1, 1, 0, .null),
  (23, 0, .iconst 1, 1, 0, 0, .int (1)),
  (24, 0, .isub, 1, 0, 0, .null),
  (25, 599, .invokevirtual 169, 3, 109, 1, .null),
  (28, 0, .aload_n 0, 1, 0, 0, .null),
  (29, 156, .getfield 12, 3, 7, 0, .null),
  (32, 0, .iload_n 1, 1, 1, 0, .null),
  (33, 599, .invokevirtual 169, 3, 109, 1, .null),
  (36, 0, .ladd, 1, 0, 0, .null),
  (37, 579, .invokevirtual 152, 3, 115, 2, .null),
  (40, 0, .iinc 1 1, 3, 1, 0, .int (1)),
  (43, 0, .goto (-41), 3, 2, 0, .null),
  (46, 0, .return_, 1, 0, 0, .null)]
abbrev id_X7_addSteps : Nat := 101
def mi_X7_addSteps : MI := (yX7_addSteps, cX7_addSteps, 2, none, 7, ct_X7_addSteps)
theorem fe_X7_addSteps_0 : mj_f mi_X7_addSteps 0 = some (.iconst 1, 1, 0, 0, .int (1)) := by decide +kernel
theorem fe_X7_addSteps_1 : mj_f mi_X7_addSteps 1 = some (.istore_n 1, 1, 1, 0, .null) := by decide +kernel
theorem fe_X7_addSteps_2 : mj_f mi_X7_addSteps 2 = some (.iload_n 1, 1, 1, 0, .null) := by decide +kernel
theorem fe_X7_addSteps_3 : mj_f mi_X7_addSteps 3 = some (.aload_n 0, 1, 0, 0, .null) := by decide +kernel
theorem fe_X7_addSteps_4 : mj_f mi_X7_addSteps 4 = some (.getfield 12, 3, 7, 0, .null) := by decide +kernel
theorem fe_X7_addSteps_7 : mj_f mi_X7_addSteps 7 = some (.invokevirtual 168, 3, 108, 0, .null) := by decide +kernel
theorem fe_X7_addSteps_10 : mj_f mi_X7_addSteps 10 = some (.if_icmp .ge 36, 3, 46, 0, .null) := by decide +kernel
theorem fe_X7_addSteps_13 : mj_f mi_X7_addSteps 13 = some (.aload_n 0, 1, 0, 0, .null) := by decide +kernel
theorem fe_X7_addSteps_14 : mj_f mi_X7_addSteps 14 = some (.getfield 12, 3, 7, 0, .null) := by decide +kernel
theorem fe_X7_addSteps_17 : mj_f mi_X7_addSteps 17 = some (.iload_n 1, 1, 1, 0, .null) := by decide +kernel
theorem fe_X7_addSteps_18 : mj_f mi_X7_addSteps 18 = some (.aload_n 0, 1, 0, 0, .null) := by decide +kernel
theorem fe_X7_addSteps_19 : mj_f mi_X7_addSteps 19 = some (.getfield 12, 3, 7, 0, .null) := by decide +kernel
theorem fe_X7_addSteps_22 : mj_f mi_X7_addSteps 22 = some (.iload_n 1, 1, 1, 0, .null) := by decide +kernel
theorem fe_X7_addSteps_23 : mj_f mi_X7_addSteps 23 = some (.iconst 1, 1, 0, 0, .int (1)) := by decide +kernel
theorem fe_X7_addSteps_24 : mj_f mi_X7_addSteps 24 = some (.isub, 1, 0, 0, .null) := by decide +kernel
theorem fe_X7_addSteps_25 : mj_f mi_X7_addSteps 25 = some (.invokevirtual 169, 3, 109, 1, .null) := by decide +kernel
theorem fe_X7_addSteps_28 : mj_f mi_X7_addSteps 28 = some (.aload_n 0, 1, 0, 0, .null) := by decide +kernel
theorem fe_X7_addSteps_29 : mj_f mi_X7_addSteps 29 = some (.getfield 12, 3, 7, 0, .null) := by decide +kernel
theorem fe_X7_addSteps_32 : mj_f mi_X7_addSteps 32 = some (.iload_n 1, 1, 1, 0, .null) := by decide +kernel
theorem fe_X7_addSteps_33 : mj_f mi_X7_addSteps 33 = some (.invokevirtual 169, 3, 109, 1, .null) := by decide +kernel
theorem fe_X7_addSteps_36 : mj_f mi_X7_addSteps 36 = some (.ladd, 1, 0, 0, .null) := by decide +kernel
theorem fe_X7_addSteps_37 : mj_f mi_X7_addSteps 37 = some (.invokevirtual 152, 3, 115, 2, .null) := by decide +kernel
theorem fe_X7_addSteps_40 : mj_f mi_X7_addSteps 40 = some (.iinc 1 1, 3, 1, 0, .int (1)) := by decide +kernel
theorem fe_X7_addSteps_43 : mj_f mi_X7_addSteps 43 = some (.goto (-41), 3, 2, 0, .null) := by decide +kernel
theorem fe_X7_addSteps_46 : mj_f mi_X7_addSteps 46 = some (.return_, 1, 0, 0, .null) := by decide +kernel
def ct_X7_multiply : MJT := [
  (0, 0, .iconst 0, 1, 0, 0, .int (0)),
  (1, 0, .istore_n 3, 1, 3, 0, .null),
  (2, 0, .iload_n 3, 1, 3, 0, .null),
  (3, 0, .aload_n 0, 1, 0, 0, .null),
  (4, 156, .getfield 12, 3, 7, 0, .null),
  (7, 595, .invokevirtual 168, 3, 108, 0, .null),
  (10, 0, .if_icmp .ge 27, 3, 37, 0, .null),
  (13, 0, .aload_n 0, 1, 0, 0, .null),
  (14, 156, .getfield 12, 3, 7, 0, .null),
  (17, 0, .iload_n 3, 1, 3, 0, .null),
  (18, 0, .aload_n 0, 1, 0, 0, .null),
  (19, 156, .getfield 12, 3, 7, 0, .null),
  (22, 0, .iload_n 3, 1, 3, 0, .null),
  (23, 599, .invokevirtual 169, 3, 109, 1, .null),
  (26, 0, .lload_n 1, 1, 1, 0, .null),
  (27, 0, .lmul, 1, 0, 0, .null),
  (28, 579, .invokevirtual 152, 3, 115, 2, .null),
  (31, 0, .iinc 3 1, 3, 3, 0, .int (1)),
  (34, 0, .goto (-32), 3, 2, 0, .null),
  (37, 0, .return_, 1, 0, 0, .null)]
abbrev id_X7_multiply : Nat := 102
def mi_X7_multiply : MI := (yX7_multiply, cX7_multiply, 4, none, 7, ct_X7_multiply)
theorem fe_X7_multiply_0 : mj_f mi_X7_multiply 0 = some (.iconst 0, 1, 0, 0, .int (0)) := by decide +kernel
theorem fe_X7_multiply_1 : mj_f mi_X7_multiply 1 = some (.istore_n 3, 1, 3, 0, .null) := by decide +kernel
theorem fe_X7_multiply_2 : mj_f mi_X7_multiply 2 = some (.iload_n 3, 1, 3, 0, .null) := by decide +kernel
theorem fe_X7_multiply_3 : mj_f mi_X7_multiply 3 = some (.aload_n 0, 1, 0, 0, .null) := by decide +kernel
theorem fe_X7_multiply_4 : mj_f mi_X7_multiply 4 = some (.getfield 12, 3, 7, 0, .null) := by decide +kernel
theorem fe_X7_multiply_7 : mj_f mi_X7_multiply 7 = some (.invokevirtual 168, 3, 108, 0, .null) := by decide +kernel
theorem fe_X7_multiply_10 : mj_f mi_X7_multiply 10 = some (.if_icmp .ge 27, 3, 37, 0, .null) := by decide +kernel
theorem fe_X7_multiply_13 : mj_f mi_X7_multiply 13 = some (.aload_n 0, 1, 0, 0, .null) := by decide +kernel
theorem fe_X7_multiply_14 : mj_f mi_X7_multiply 14 = some (.getfield 12, 3, 7, 0, .null) := by decide +kernel
theorem fe_X7_multiply_17 : mj_f mi_X7_multiply 17 = some (.iload_n 3, 1, 3, 0, .null) := by decide +kernel
theorem fe_X7_multiply_18 : mj_f mi_X7_multiply 18 = some (.aload_n 0, 1, 0, 0, .null) := by decide +kernel
theorem fe_X7_multiply_19 : mj_f mi_X7_multiply 19 = some (.getfield 12, 3, 7, 0, .null) := by decide +kernel
theorem fe_X7_multiply_22 : mj_f mi_X7_multiply 22 = some (.iload_n 3, 1, 3, 0, .null) := by decide +kernel
theorem fe_X7_multiply_23 : mj_f mi_X7_multiply 23 = some (.invokevirtual 169, 3, 109, 1, .null) := by decide +kernel
theorem fe_X7_multiply_26 : mj_f mi_X7_multiply 26 = some (.lload_n 1, 1, 1, 0, .null) := by decide +kernel
theorem fe_X7_multiply_27 : mj_f mi_X7_multiply 27 = some (.lmul, 1, 0, 0, .null) := by decide +kernel
theorem fe_X7_multiply_28 : mj_f mi_X7_multiply 28 = some (.invokevirtual 152, 3, 115, 2, .null) := by decide +kernel
theorem fe_X7_multiply_31 : mj_f mi_X7_multiply 31 = some (.iinc 3 1, 3, 3, 0, .int (1)) := by decide +kernel
theorem fe_X7_multiply_34 : mj_f mi_X7_multiply 34 = some (.goto (-32), 3, 2, 0, .null) := by decide +kernel
theorem fe_X7_multiply_37 : mj_f mi_X7_multiply 37 = some (.return_, 1, 0, 0, .null) := by decide +kernel
def ct_X7_spreadRuns : MJT := [
  (0, 0, .iload_n 1, 1, 1, 0, .null),
  (1, 0, .istore_n 3, 1, 3, 0, .null),
  (2, 0, .aload_n 0, 1, 0, 0, .null),
  (3, 157, .getfield 18, 3, 7, 1, .null),
  (6, 560, .invokevirtual 134, 3, 113, 0, .null),
  (9, 0, .iconst 0, 1, 0, 0, .int (0)),
  (10, 0, .istore 4, 2, 4, 0, .null),
  (12, 0, .iload 4, 2, 4, 0, .null),
  (14, 0, .aload_n 0, 1, 0, 0, .null),
  (15, 156, .getfield 12, 3, 7, 0, .null),
  (18, 595, .invokevirtual 168, 3, 108, 0, .null),
  (21, 0, .if_icmp .ge 96, 3, 117, 0, .null),
  (24, 0, .aload_n 0, 1, 0, 0, .null),
  (25, 168, .getfield 54, 3, 7, 12, .int 0),
  (28, 0, .ifCond .ne 89, 3, 117, 0, .null),
  (31, 0, .aload_n 0, 1, 0, 0, .null),
  (32, 158, .getfield 21, 3, 7, 2, .null),
  (35, 0, .iload 4, 2, 4, 0, .null),
  (37, 599, .invokevirtual 169, 3, 109, 1, .null),
  (40, 0, .lstore 5, 2, 5, 0, .null),
  (42, 0, .lload 5, 2, 5, 0, .null),
  (44, 0, .lconst 1, 1, 0, 0, .long 1),
  (45, 0, .lcmp, 1, 0, 0, .null),
  (46, 0, .ifCond .lt 11, 3, 57, 0, .null),
  (49, 0, .lload 5, 2, 5, 0, .null),
  (51, 0, .iload_n 3, 1, 3, 0, .null),
  (52, 0, .i2l, 1, 0, 0, .null),
  (53, 0, .lcmp, 1, 0, 0, .null),
  (54, 0, .ifCond .le 10, 3, 64, 0, .null),
  (57, 0, .aload_n 0, 1, 0, 0, .null),
  (58, 0, .iconst 2, 1, 0, 0, .int (2)),
  (59, 0, .iload_n 2, 1, 2, 0, .null),
  (60, 515, .invokevirtual 97, 3, 89, 2, .null),
  (63, 0, .return_, 1, 0, 0, .null),
  (64, 0, .iload_n 3, 1, 3, 0, .null),
  (65, 0, .lload 5, 2, 5, 0, .null),
  (67, 0, .l2i, 1, 0, 0, .null),
  (68, 0, .isub, 1, 0, 0, .null),
  (69, 0, .istore_n 3, 1, 3, 0, .null),
  (70, 0, .iconst 0, 1, 0, 0, .int (0)),
  (71, 0, .istore 7, 2, 7, 0, .null),
  (73, 0, .iload 7, 2, 7, 0, .null),
  (75, 0, .i2l, 1, 0, 0, .null),
  (76, 0, .lload 5, 2, 5, 0, .null),
  (78, 0, .lcmp, 1, 0, 0, .null),
  (79, 0, .ifCond .ge 32, 3, 111, 0, .null),
  (82, 0, .iload 7, 2, 7, 0, .null),
  (84, 0, .bipush 32, 2, 0, 0, .int (32)),
  (86, 0, .if_icmp .ge 25, 3, 111, 0, .null),
  (89, 0, .aload_n 0, 1, 0, 0, .null),
  (90, 157, .getfield 18, 3, 7, 1, .null),
  (93, 0, .aload_n 0, 1, 0, 0, .null),
  (94, 156, .getfield 12, 3, 7, 0, .null),
  (97, 0, .iload 4, 2, 4, 0, .null),
  (99, 599, .invokevirtual 169, 3, 109, 1, .null),
  (102, 571, .invokevirtual 145, 3, 114, 1, .null),
  (105, 0, .iinc 7 1, 3, 7, 0, .int (1)),
  (108, 0, .goto (-35), 3, 73, 0, .null),
  (111, 0, .iinc 4 1, 3, 4, 0, .int (1)),
  (114, 0, .goto (-102), 3, 12, 0, .null),
  (117, 0, .iload_n 3, 1, 3, 0, .null),
  (118, 0, .ifCond .eq 9, 3, 127, 0, .null),
  (121, 0, .aload_n 0, 1, 0, 0, .null),
  (122, 0, .iconst 2, 1, 0, 0, .int (2)),
  (123, 0, .iload_n 2, 1, 2, 0, .null),
  (124, 515, .invokevirtual 97, 3, 89, 2, .null),
  (127, 0, .aload_n 0, 1, 0, 0, .null),
  (128, 156, .getfield 12, 3, 7, 0, .null),
  (131, 0, .aload_n 0, 1, 0, 0, .null),
  (132, 157, .getfield 18, 3, 7, 1, .null),
  (135, 607, .invokevirtual 173, 3, 129, 1, .null),
  (138, 0, .return_, 1, 0, 0, .null)]
abbrev id_X7_spreadRuns : Nat := 103
def mi_X7_spreadRuns : MI := (yX7_spreadRuns, cX7_spreadRuns, 8, none, 7, ct_X7_spreadRuns)
theorem fe_X7_spreadRuns_0 : mj_f mi_X7_spreadRuns 0 = some (.iload_n 1, 1, 1, 0, .null) := by decide +kernel
theorem fe_X7_spreadRuns_1 : mj_f mi_X7_spreadRuns 1 = some (.istore_n 3, 1, 3, 0, .null) := by decide +kernel
theorem fe_X7_spreadRuns_2 : mj_f mi_X7_spreadRuns 2 = some (.aload_n 0, 1, 0, 0, .null) := by decide +kernel
theorem fe_X7_spreadRuns_3 : mj_f mi_X7_spreadRuns 3 = some (.getfield 18, 3, 7, 1, .null) := by decide +kernel
theorem fe_X7_spreadRuns_6 : mj_f mi_X7_spreadRuns 6 = some (.invokevirtual 134, 3, 113, 0, .null) := by decide +kernel
theorem fe_X7_spreadRuns_9 : mj_f mi_X7_spreadRuns 9 = some (.iconst 0, 1, 0, 0, .int (0)) := by decide +kernel
theorem fe_X7_spreadRuns_10 : mj_f mi_X7_spreadRuns 10 = some (.istore 4, 2, 4, 0, .null) := by decide +kernel
theorem fe_X7_spreadRuns_12 : mj_f mi_X7_spreadRuns 12 = some (.iload 4, 2, 4, 0, .null) := by decide +kernel
theorem fe_X7_spreadRuns_14 : mj_f mi_X7_spreadRuns 14 = some (.aload_n 0, 1, 0, 0, .null) := by decide +kernel
theorem fe_X7_spreadRuns_15 : mj_f mi_X7_spreadRuns 15 = some (.getfield 12, 3, 7, 0, .null) := by decide +kernel
theorem fe_X7_spreadRuns_18 : mj_f mi_X7_spreadRuns 18 = some (.invokevirtual 168, 3, 108, 0, .null) := by decide +kernel
theorem fe_X7_spreadRuns_21 : mj_f mi_X7_spreadRuns 21 = some (.if_icmp .ge 96, 3, 117, 0, .null) := by decide +kernel
theorem fe_X7_spreadRuns_24 : mj_f mi_X7_spreadRuns 24 = some (.aload_n 0, 1, 0, 0, .null) := by decide +kernel
theorem fe_X7_spreadRuns_25 : mj_f mi_X7_spreadRuns 25 = some (.getfield 54, 3, 7, 12, .int 0) := by decide +kernel
theorem fe_X7_spreadRuns_28 : mj_f mi_X7_spreadRuns 28 = some (.ifCond .ne 89, 3, 117, 0, .null) := by decide +kernel
theorem fe_X7_spreadRuns_31 : mj_f mi_X7_spreadRuns 31 = some (.aload_n 0, 1, 0, 0, .null) := by decide +kernel
theorem fe_X7_spreadRuns_32 : mj_f mi_X7_spreadRuns 32 = some (.getfield 21, 3, 7, 2, .null) := by decide +kernel
theorem fe_X7_spreadRuns_35 : mj_f mi_X7_spreadRuns 35 = some (.iload 4, 2, 4, 0, .null) := by decide +kernel
theorem fe_X7_spreadRuns_37 : mj_f mi_X7_spreadRuns 37 = some (.invokevirtual 169, 3, 109, 1, .null) := by decide +kernel
theorem fe_X7_spreadRuns_40 : mj_f mi_X7_spreadRuns 40 = some (.lstore 5, 2, 5, 0, .null) := by decide +kernel
theorem fe_X7_spreadRuns_42 : mj_f mi_X7_spreadRuns 42 = some (.lload 5, 2, 5, 0, .null) := by decide +kernel
theorem fe_X7_spreadRuns_44 : mj_f mi_X7_spreadRuns 44 = some (.lconst 1, 1, 0, 0, .long 1) := by decide +kernel
theorem fe_X7_spreadRuns_45 : mj_f mi_X7_spreadRuns 45 = some (.lcmp, 1, 0, 0, .null) := by decide +kernel
theorem fe_X7_spreadRuns_46 : mj_f mi_X7_spreadRuns 46 = some (.ifCond .lt 11, 3, 57, 0, .null) := by decide +kernel
theorem fe_X7_spreadRuns_49 : mj_f mi_X7_spreadRuns 49 = some (.lload 5, 2, 5, 0, .null) := by decide +kernel
theorem fe_X7_spreadRuns_51 : mj_f mi_X7_spreadRuns 51 = some (.iload_n 3, 1, 3, 0, .null) := by decide +kernel
theorem fe_X7_spreadRuns_52 : mj_f mi_X7_spreadRuns 52 = some (.i2l, 1, 0, 0, .null) := by decide +kernel
theorem fe_X7_spreadRuns_53 : mj_f mi_X7_spreadRuns 53 = some (.lcmp, 1, 0, 0, .null) := by decide +kernel
theorem fe_X7_spreadRuns_54 : mj_f mi_X7_spreadRuns 54 = some (.ifCond .le 10, 3, 64, 0, .null) := by decide +kernel
theorem fe_X7_spreadRuns_57 : mj_f mi_X7_spreadRuns 57 = some (.aload_n 0, 1, 0, 0, .null) := by decide +kernel
theorem fe_X7_spreadRuns_58 : mj_f mi_X7_spreadRuns 58 = some (.iconst 2, 1, 0, 0, .int (2)) := by decide +kernel
theorem fe_X7_spreadRuns_59 : mj_f mi_X7_spreadRuns 59 = some (.iload_n 2, 1, 2, 0, .null) := by decide +kernel
theorem fe_X7_spreadRuns_60 : mj_f mi_X7_spreadRuns 60 = some (.invokevirtual 97, 3, 89, 2, .null) := by decide +kernel
theorem fe_X7_spreadRuns_63 : mj_f mi_X7_spreadRuns 63 = some (.return_, 1, 0, 0, .null) := by decide +kernel
theorem fe_X7_spreadRuns_64 : mj_f mi_X7_spreadRuns 64 = some (.iload_n 3, 1, 3, 0, .null) := by decide +kernel
theorem fe_X7_spreadRuns_65 : mj_f mi_X7_spreadRuns 65 = some (.lload 5, 2, 5, 0, .null) := by decide +kernel
theorem fe_X7_spreadRuns_67 : mj_f mi_X7_spreadRuns 67 = some (.l2i, 1, 0, 0, .null) := by decide +kernel
theorem fe_X7_spreadRuns_68 : mj_f mi_X7_spreadRuns 68 = some (.isub, 1, 0, 0, .null) := by decide +kernel
theorem fe_X7_spreadRuns_69 : mj_f mi_X7_spreadRuns 69 = some (.istore_n 3, 1, 3, 0, .null) := by decide +kernel
theorem fe_X7_spreadRuns_70 : mj_f mi_X7_spreadRuns 70 = some (.iconst 0, 1, 0, 0, .int (0)) := by decide +kernel
theorem fe_X7_spreadRuns_71 : mj_f mi_X7_spreadRuns 71 = some (.istore 7, 2, 7, 0, .null) := by decide +kernel
theorem fe_X7_spreadRuns_73 : mj_f mi_X7_spreadRuns 73 = some (.iload 7, 2, 7, 0, .null) := by decide +kernel
theorem fe_X7_spreadRuns_75 : mj_f mi_X7_spreadRuns 75 = some (.i2l, 1, 0, 0, .null) := by decide +kernel
theorem fe_X7_spreadRuns_76 : mj_f mi_X7_spreadRuns 76 = some (.lload 5, 2, 5, 0, .null) := by decide +kernel
theorem fe_X7_spreadRuns_78 : mj_f mi_X7_spreadRuns 78 = some (.lcmp, 1, 0, 0, .null) := by decide +kernel
theorem fe_X7_spreadRuns_79 : mj_f mi_X7_spreadRuns 79 = some (.ifCond .ge 32, 3, 111, 0, .null) := by decide +kernel
theorem fe_X7_spreadRuns_82 : mj_f mi_X7_spreadRuns 82 = some (.iload 7, 2, 7, 0, .null) := by decide +kernel
theorem fe_X7_spreadRuns_84 : mj_f mi_X7_spreadRuns 84 = some (.bipush 32, 2, 0, 0, .int (32)) := by decide +kernel
theorem fe_X7_spreadRuns_86 : mj_f mi_X7_spreadRuns 86 = some (.if_icmp .ge 25, 3, 111, 0, .null) := by decide +kernel
theorem fe_X7_spreadRuns_89 : mj_f mi_X7_spreadRuns 89 = some (.aload_n 0, 1, 0, 0, .null) := by decide +kernel
theorem fe_X7_spreadRuns_90 : mj_f mi_X7_spreadRuns 90 = some (.getfield 18, 3, 7, 1, .null) := by decide +kernel
theorem fe_X7_spreadRuns_93 : mj_f mi_X7_spreadRuns 93 = some (.aload_n 0, 1, 0, 0, .null) := by decide +kernel
theorem fe_X7_spreadRuns_94 : mj_f mi_X7_spreadRuns 94 = some (.getfield 12, 3, 7, 0, .null) := by decide +kernel
theorem fe_X7_spreadRuns_97 : mj_f mi_X7_spreadRuns 97 = some (.iload 4, 2, 4, 0, .null) := by decide +kernel
theorem fe_X7_spreadRuns_99 : mj_f mi_X7_spreadRuns 99 = some (.invokevirtual 169, 3, 109, 1, .null) := by decide +kernel
theorem fe_X7_spreadRuns_102 : mj_f mi_X7_spreadRuns 102 = some (.invokevirtual 145, 3, 114, 1, .null) := by decide +kernel
theorem fe_X7_spreadRuns_105 : mj_f mi_X7_spreadRuns 105 = some (.iinc 7 1, 3, 7, 0, .int (1)) := by decide +kernel
theorem fe_X7_spreadRuns_108 : mj_f mi_X7_spreadRuns 108 = some (.goto (-35), 3, 73, 0, .null) := by decide +kernel
theorem fe_X7_spreadRuns_111 : mj_f mi_X7_spreadRuns 111 = some (.iinc 4 1, 3, 4, 0, .int (1)) := by decide +kernel
theorem fe_X7_spreadRuns_114 : mj_f mi_X7_spreadRuns 114 = some (.goto (-102), 3, 12, 0, .null) := by decide +kernel
theorem fe_X7_spreadRuns_117 : mj_f mi_X7_spreadRuns 117 = some (.iload_n 3, 1, 3, 0, .null) := by decide +kernel
theorem fe_X7_spreadRuns_118 : mj_f mi_X7_spreadRuns 118 = some (.ifCond .eq 9, 3, 127, 0, .null) := by decide +kernel
theorem fe_X7_spreadRuns_121 : mj_f mi_X7_spreadRuns 121 = some (.aload_n 0, 1, 0, 0, .null) := by decide +kernel
theorem fe_X7_spreadRuns_122 : mj_f mi_X7_spreadRuns 122 = some (.iconst 2, 1, 0, 0, .int (2)) := by decide +kernel
theorem fe_X7_spreadRuns_123 : mj_f mi_X7_spreadRuns 123 = some (.iload_n 2, 1, 2, 0, .null) := by decide +kernel
theorem fe_X7_spreadRuns_124 : mj_f mi_X7_spreadRuns 124 = some (.invokevirtual 97, 3, 89, 2, .null) := by decide +kernel
theorem fe_X7_spreadRuns_127 : mj_f mi_X7_spreadRuns 127 = some (.aload_n 0, 1, 0, 0, .null) := by decide +kernel
theorem fe_X7_spreadRuns_128 : mj_f mi_X7_spreadRuns 128 = some (.getfield 12, 3, 7, 0, .null) := by decide +kernel
theorem fe_X7_spreadRuns_131 : mj_f mi_X7_spreadRuns 131 = some (.aload_n 0, 1, 0, 0, .null) := by decide +kernel
theorem fe_X7_spreadRuns_132 : mj_f mi_X7_spreadRuns 132 = some (.getfield 18, 3, 7, 1, .null) := by decide +kernel
theorem fe_X7_spreadRuns_135 : mj_f mi_X7_spreadRuns 135 = some (.invokevirtual 173, 3, 129, 1, .null) := by decide +kernel
theorem fe_X7_spreadRuns_138 : mj_f mi_X7_spreadRuns 138 = some (.return_, 1, 0, 0, .null) := by decide +kernel
def ct_X7_lookUp : MJT := [
  (0, 0, .aload_n 0, 1, 0, 0, .null),
  (1, 156, .getfield 12, 3, 7, 0, .null),
  (4, 595, .invokevirtual 168, 3, 108, 0, .null),
  (7, 0, .istore_n 3, 1, 3, 0, .null),
  (8, 0, .aload_n 0, 1, 0, 0, .null),
  (9, 165, .getfield 45, 3, 7, 9, .int 0),
  (12, 0, .istore 4, 2, 4, 0, .null),
  (14, 0, .iload_n 3, 1, 3, 0, .null),
  (15, 0, .i2l, 1, 0, 0, .null),
  (16, 0, .lconst 1, 1, 0, 0, .long 1),
  (17, 0, .lsub, 1, 0, 0, .null),
  (18, 618, .invokestatic 177, 3, 173, 1, .int 1),
  (21, 0, .istore 5, 2, 5, 0, .null),
  (23, 0, .aload_n 0, 1, 0, 0, .null),
  (24, 0, .aload_n 1, 1, 1, 0, .null),
  (25, 0, .iload_n 2, 1, 2, 0, .null),
  (26, 0, .iload 5, 2, 5, 0, .null),
  (28, 519, .invokevirtual 114, 3, 92, 3, .null),
  (31, 0, .istore 6, 2, 6, 0, .null),
  (33, 0, .aload_n 0, 1, 0, 0, .null),
  (34, 157, .getfield 18, 3, 7, 1, .null),
  (37, 560, .invokevirtual 134, 3, 113, 0, .null),
  (40, 0, .iconst 0, 1, 0, 0, .int (0)),
  (41, 0, .istore 7, 2, 7, 0, .null),
  (43, 0, .iload 7, 2, 7, 0, .null),
  (45, 0, .iload_n 2, 1, 2, 0, .null),
  (46, 0, .if_icmp .ge 62, 3, 108, 0, .null),
  (49, 0, .aload_n 0, 1, 0, 0, .null),
  (50, 168, .getfield 54, 3, 7, 12, .int 0),
  (53, 0, .ifCond .ne 55, 3, 108, 0, .null),
  (56, 0, .aload_n 1, 1, 1, 0, .null),
  (57, 0, .iload 6, 2, 6, 0, .null),
  (59, 0, .iload 7, 2, 7, 0, .null),
  (61, 0, .iload 5, 2, 5, 0, .null),
  (63, 0, .imul, 1, 0, 0, .null),
  (64, 0, .iadd, 1, 0, 0, .null),
  (65, 0, .iload 5, 2, 5, 0, .null),
  (67, 526, .invokevirtual 118, 3, 20, 2, .null),
  (70, 0, .l2i, 1, 0, 0, .null),
  (71, 0, .istore 8, 2, 8, 0, .null),
  (73, 0, .iload 8, 2, 8, 0, .null),
  (75, 0, .iload_n 3, 1, 3, 0, .null),
  (76, 0, .if_icmp .lt 10, 3, 86, 0, .null),
  (79, 0, .aload_n 0, 1, 0, 0, .null),
  (80, 0, .iconst 2, 1, 0, 0, .int (2)),
  (81, 0, .iload 4, 2, 4, 0, .null),
  (83, 515, .invokevirtual 97, 3, 89, 2, .null),
  (86, 0, .aload_n 0, 1, 0, 0, .null),
  (87, 157, .getfield 18, 3, 7, 1, .null),
  (90, 0, .aload_n 0, 1, 0, 0, .null),
  (91, 156, .getfield 12, 3, 7, 0, .null),
  (94, 0, .iload 8, 2, 8, 0, .null),
  (96, 599, .invokevirtual 169, 3, 109, 1, .null),
  (99, 571, .invokevirtual 145, 3, 114, 1, .null),
  (102, 0, .iinc 7 1, 3, 7, 0, .int (1)),
  (105, 0, .goto (-62), 3, 43, 0, .null),
  (108, 0, .aload_n 0, 1, 0, 0, .null),
  (109, 156, .getfield 12, 3, 7, 0, .null),
  (112, 0, .aload_n 0, 1, 0, 0, .null),
  (113, 157, .getfield 18, 3, 7, 1, .null),
  (116, 607, .invokevirtual 173, 3, 129, 1, .null),
  (119, 0, .return_, 1, 0, 0, .null)]
abbrev id_X7_lookUp : Nat := 104
def mi_X7_lookUp : MI := (yX7_lookUp, cX7_lookUp, 9, none, 7, ct_X7_lookUp)
theorem fe_X7_lookUp_0 : mj_f mi_X7_lookUp 0 = some (.aload_n 0, 1, 0, 0, .null) := by decide +kernel
theorem fe_X7_lookUp_1 : mj_f mi_X7_lookUp 1 = some (.getfield 12, 3, 7, 0, .null) := by decide +kernel
theorem fe_X7_lookUp_4 : mj_f mi_X7_lookUp 4 = some (.invokevirtual 168, 3, 108, 0, .null) := by decide +kernel
theorem fe_X7_lookUp_7 : mj_f mi_X7_lookUp 7 = some (.istore_n 3, 1, 3, 0, .null) := by decide +kernel
theorem fe_X7_lookUp_8 : mj_f mi_X7_lookUp 8 = some (.aload_n 0, 1, 0, 0, .null) := by decide +kernel
theorem fe_X7_lookUp_9 : mj_f mi_X7_lookUp 9 = some (.getfield 45, 3, 7, 9, .int 0) := by decide +kernel
theorem fe_X7_lookUp_12 : mj_f mi_X7_lookUp 12 = some (.istore 4, 2, 4, 0, .null) := by decide +kernel
theorem fe_X7_lookUp_14 : mj_f mi_X7_lookUp 14 = some (.iload_n 3, 1, 3, 0, .null) := by decide +kernel
theorem fe_X7_lookUp_15 : mj_f mi_X7_lookUp 15 = some (.i2l, 1, 0, 0, .null) := by decide +kernel
theorem fe_X7_lookUp_16 : mj_f mi_X7_lookUp 16 = some (.lconst 1, 1, 0, 0, .long 1) := by decide +kernel
theorem fe_X7_lookUp_17 : mj_f mi_X7_lookUp 17 = some (.lsub, 1, 0, 0, .null) := by decide +kernel
theorem fe_X7_lookUp_18 : mj_f mi_X7_lookUp 18 = some (.invokestatic 177, 3, 173, 1, .int 1) := by decide +kernel
theorem fe_X7_lookUp_21 : mj_f mi_X7_lookUp 21 = some (.istore 5, 2, 5, 0, .null) := by decide +kernel
theorem fe_X7_lookUp_23 : mj_f mi_X7_lookUp 23 = some (.aload_n 0, 1, 0, 0, .null) := by decide +kernel
theorem fe_X7_lookUp_24 : mj_f mi_X7_lookUp 24 = some (.aload_n 1, 1, 1, 0, .null) := by decide +kernel
theorem fe_X7_lookUp_25 : mj_f mi_X7_lookUp 25 = some (.iload_n 2, 1, 2, 0, .null) := by decide +kernel
theorem fe_X7_lookUp_26 : mj_f mi_X7_lookUp 26 = some (.iload 5, 2, 5, 0, .null) := by decide +kernel
theorem fe_X7_lookUp_28 : mj_f mi_X7_lookUp 28 = some (.invokevirtual 114, 3, 92, 3, .null) := by decide +kernel
theorem fe_X7_lookUp_31 : mj_f mi_X7_lookUp 31 = some (.istore 6, 2, 6, 0, .null) := by decide +kernel
theorem fe_X7_lookUp_33 : mj_f mi_X7_lookUp 33 = some (.aload_n 0, 1, 0, 0, .null) := by decide +kernel
theorem fe_X7_lookUp_34 : mj_f mi_X7_lookUp 34 = some (.getfield 18, 3, 7, 1, .null) := by decide +kernel
theorem fe_X7_lookUp_37 : mj_f mi_X7_lookUp 37 = some (.invokevirtual 134, 3, 113, 0, .null) := by decide +kernel
theorem fe_X7_lookUp_40 : mj_f mi_X7_lookUp 40 = some (.iconst 0, 1, 0, 0, .int (0)) := by decide +kernel
theorem fe_X7_lookUp_41 : mj_f mi_X7_lookUp 41 = some (.istore 7, 2, 7, 0, .null) := by decide +kernel
theorem fe_X7_lookUp_43 : mj_f mi_X7_lookUp 43 = some (.iload 7, 2, 7, 0, .null) := by decide +kernel
theorem fe_X7_lookUp_45 : mj_f mi_X7_lookUp 45 = some (.iload_n 2, 1, 2, 0, .null) := by decide +kernel
theorem fe_X7_lookUp_46 : mj_f mi_X7_lookUp 46 = some (.if_icmp .ge 62, 3, 108, 0, .null) := by decide +kernel
theorem fe_X7_lookUp_49 : mj_f mi_X7_lookUp 49 = some (.aload_n 0, 1, 0, 0, .null) := by decide +kernel
theorem fe_X7_lookUp_50 : mj_f mi_X7_lookUp 50 = some (.getfield 54, 3, 7, 12, .int 0) := by decide +kernel
theorem fe_X7_lookUp_53 : mj_f mi_X7_lookUp 53 = some (.ifCond .ne 55, 3, 108, 0, .null) := by decide +kernel
theorem fe_X7_lookUp_56 : mj_f mi_X7_lookUp 56 = some (.aload_n 1, 1, 1, 0, .null) := by decide +kernel
theorem fe_X7_lookUp_57 : mj_f mi_X7_lookUp 57 = some (.iload 6, 2, 6, 0, .null) := by decide +kernel
theorem fe_X7_lookUp_59 : mj_f mi_X7_lookUp 59 = some (.iload 7, 2, 7, 0, .null) := by decide +kernel
theorem fe_X7_lookUp_61 : mj_f mi_X7_lookUp 61 = some (.iload 5, 2, 5, 0, .null) := by decide +kernel
theorem fe_X7_lookUp_63 : mj_f mi_X7_lookUp 63 = some (.imul, 1, 0, 0, .null) := by decide +kernel
theorem fe_X7_lookUp_64 : mj_f mi_X7_lookUp 64 = some (.iadd, 1, 0, 0, .null) := by decide +kernel
theorem fe_X7_lookUp_65 : mj_f mi_X7_lookUp 65 = some (.iload 5, 2, 5, 0, .null) := by decide +kernel
theorem fe_X7_lookUp_67 : mj_f mi_X7_lookUp 67 = some (.invokevirtual 118, 3, 20, 2, .null) := by decide +kernel
theorem fe_X7_lookUp_70 : mj_f mi_X7_lookUp 70 = some (.l2i, 1, 0, 0, .null) := by decide +kernel
theorem fe_X7_lookUp_71 : mj_f mi_X7_lookUp 71 = some (.istore 8, 2, 8, 0, .null) := by decide +kernel
theorem fe_X7_lookUp_73 : mj_f mi_X7_lookUp 73 = some (.iload 8, 2, 8, 0, .null) := by decide +kernel
theorem fe_X7_lookUp_75 : mj_f mi_X7_lookUp 75 = some (.iload_n 3, 1, 3, 0, .null) := by decide +kernel
theorem fe_X7_lookUp_76 : mj_f mi_X7_lookUp 76 = some (.if_icmp .lt 10, 3, 86, 0, .null) := by decide +kernel
theorem fe_X7_lookUp_79 : mj_f mi_X7_lookUp 79 = some (.aload_n 0, 1, 0, 0, .null) := by decide +kernel
theorem fe_X7_lookUp_80 : mj_f mi_X7_lookUp 80 = some (.iconst 2, 1, 0, 0, .int (2)) := by decide +kernel
theorem fe_X7_lookUp_81 : mj_f mi_X7_lookUp 81 = some (.iload 4, 2, 4, 0, .null) := by decide +kernel
theorem fe_X7_lookUp_83 : mj_f mi_X7_lookUp 83 = some (.invokevirtual 97, 3, 89, 2, .null) := by decide +kernel
theorem fe_X7_lookUp_86 : mj_f mi_X7_lookUp 86 = some (.aload_n 0, 1, 0, 0, .null) := by decide +kernel
theorem fe_X7_lookUp_87 : mj_f mi_X7_lookUp 87 = some (.getfield 18, 3, 7, 1, .null) := by decide +kernel
theorem fe_X7_lookUp_90 : mj_f mi_X7_lookUp 90 = some (.aload_n 0, 1, 0, 0, .null) := by decide +kernel
theorem fe_X7_lookUp_91 : mj_f mi_X7_lookUp 91 = some (.getfield 12, 3, 7, 0, .null) := by decide +kernel
theorem fe_X7_lookUp_94 : mj_f mi_X7_lookUp 94 = some (.iload 8, 2, 8, 0, .null) := by decide +kernel
theorem fe_X7_lookUp_96 : mj_f mi_X7_lookUp 96 = some (.invokevirtual 169, 3, 109, 1, .null) := by decide +kernel
theorem fe_X7_lookUp_99 : mj_f mi_X7_lookUp 99 = some (.invokevirtual 145, 3, 114, 1, .null) := by decide +kernel
theorem fe_X7_lookUp_102 : mj_f mi_X7_lookUp 102 = some (.iinc 7 1, 3, 7, 0, .int (1)) := by decide +kernel
theorem fe_X7_lookUp_105 : mj_f mi_X7_lookUp 105 = some (.goto (-62), 3, 43, 0, .null) := by decide +kernel
theorem fe_X7_lookUp_108 : mj_f mi_X7_lookUp 108 = some (.aload_n 0, 1, 0, 0, .null) := by decide +kernel
theorem fe_X7_lookUp_109 : mj_f mi_X7_lookUp 109 = some (.getfield 12, 3, 7, 0, .null) := by decide +kernel
theorem fe_X7_lookUp_112 : mj_f mi_X7_lookUp 112 = some (.aload_n 0, 1, 0, 0, .null) := by decide +kernel
theorem fe_X7_lookUp_113 : mj_f mi_X7_lookUp 113 = some (.getfield 18, 3, 7, 1, .null) := by decide +kernel
theorem fe_X7_lookUp_116 : mj_f mi_X7_lookUp 116 = some (.invokevirtual 173, 3, 129, 1, .null) := by decide +kernel
theorem fe_X7_lookUp_119 : mj_f mi_X7_lookUp 119 = some (.return_, 1, 0, 0, .null) := by decide +kernel
def ct_X7_readCheck : MJT := [
  (0, 0, .aload_n 1, 1, 1, 0, .null),
  (1, 0, .aload_n 0, 1, 0, 0, .null),
  (2, 165, .getfield 45, 3, 7, 9, .int 0),
  (5, 636, .invokevirtual 181, 3, 21, 1, .null),
  (8, 0, .istore_n 2, 1, 2, 0, .null),
  (9, 0, .aload_n 0, 1, 0, 0, .null),
  (10, 0, .aload_n 1, 1, 1, 0, .null),
  (11, 0, .iload_n 2, 1, 2, 0, .null),
  (12, 0, .iload_n 2, 1, 2, 0, .null),
  (13, 0, .iconst 4, 1, 0, 0, .int (4)),
  (14, 506, .invokevirtual 110, 3, 90, 4, .null),
  (17, 0, .pop, 1, 0, 0, .null),
  (18, 0, .aload_n 0, 1, 0, 0, .null),
  (19, 165, .getfield 45, 3, 7, 9, .int 0),
  (22, 0, .aload_n 1, 1, 1, 0, .null),
  (23, 514, .invokevirtual 94, 3, 11, 0, .null),
  (26, 0, .if_icmp .ge 12, 3, 38, 0, .null),
  (29, 0, .aload_n 0, 1, 0, 0, .null),
  (30, 0, .iconst 4, 1, 0, 0, .int (4)),
  (31, 0, .aload_n 0, 1, 0, 0, .null),
  (32, 165, .getfield 45, 3, 7, 9, .int 0),
  (35, 515, .invokevirtual 97, 3, 89, 2, .null),
  (38, 0, .return_, 1, 0, 0, .null)]
abbrev id_X7_readCheck : Nat := 105
def mi_X7_readCheck : MI := (yX7_readCheck, cX7_readCheck, 3, none, 7, ct_X7_readCheck)
theorem fe_X7_readCheck_0 : mj_f mi_X7_readCheck 0 = some (.aload_n 1, 1, 1, 0, .null) := by decide +kernel
theorem fe_X7_readCheck_1 : mj_f mi_X7_readCheck 1 = some (.aload_n 0, 1, 0, 0, .null) := by decide +kernel
theorem fe_X7_readCheck_2 : mj_f mi_X7_readCheck 2 = some (.getfield 45, 3, 7, 9, .int 0) := by decide +kernel
theorem fe_X7_readCheck_5 : mj_f mi_X7_readCheck 5 = some (.invokevirtual 181, 3, 21, 1, .null) := by decide +kernel
theorem fe_X7_readCheck_8 : mj_f mi_X7_readCheck 8 = some (.istore_n 2, 1, 2, 0, .null) := by decide +kernel
theorem fe_X7_readCheck_9 : mj_f mi_X7_readCheck 9 = some (.aload_n 0, 1, 0, 0, .null) := by decide +kernel
theorem fe_X7_readCheck_10 : mj_f mi_X7_readCheck 10 = some (.aload_n 1, 1, 1, 0, .null) := by decide +kernel
theorem fe_X7_readCheck_11 : mj_f mi_X7_readCheck 11 = some (.iload_n 2, 1, 2, 0, .null) := by decide +kernel
theorem fe_X7_readCheck_12 : mj_f mi_X7_readCheck 12 = some (.iload_n 2, 1, 2, 0, .null) := by decide +kernel
theorem fe_X7_readCheck_13 : mj_f mi_X7_readCheck 13 = some (.iconst 4, 1, 0, 0, .int (4)) := by decide +kernel
theorem fe_X7_readCheck_14 : mj_f mi_X7_readCheck 14 = some (.invokevirtual 110, 3, 90, 4, .null) := by decide +kernel
theorem fe_X7_readCheck_17 : mj_f mi_X7_readCheck 17 = some (.pop, 1, 0, 0, .null) := by decide +kernel
theorem fe_X7_readCheck_18 : mj_f mi_X7_readCheck 18 = some (.aload_n 0, 1, 0, 0, .null) := by decide +kernel
theorem fe_X7_readCheck_19 : mj_f mi_X7_readCheck 19 = some (.getfield 45, 3, 7, 9, .int 0) := by decide +kernel
theorem fe_X7_readCheck_22 : mj_f mi_X7_readCheck 22 = some (.aload_n 1, 1, 1, 0, .null) := by decide +kernel
theorem fe_X7_readCheck_23 : mj_f mi_X7_readCheck 23 = some (.invokevirtual 94, 3, 11, 0, .null) := by decide +kernel
theorem fe_X7_readCheck_26 : mj_f mi_X7_readCheck 26 = some (.if_icmp .ge 12, 3, 38, 0, .null) := by decide +kernel
theorem fe_X7_readCheck_29 : mj_f mi_X7_readCheck 29 = some (.aload_n 0, 1, 0, 0, .null) := by decide +kernel
theorem fe_X7_readCheck_30 : mj_f mi_X7_readCheck 30 = some (.iconst 4, 1, 0, 0, .int (4)) := by decide +kernel
theorem fe_X7_readCheck_31 : mj_f mi_X7_readCheck 31 = some (.aload_n 0, 1, 0, 0, .null) := by decide +kernel
theorem fe_X7_readCheck_32 : mj_f mi_X7_readCheck 32 = some (.getfield 45, 3, 7, 9, .int 0) := by decide +kernel
theorem fe_X7_readCheck_35 : mj_f mi_X7_readCheck 35 = some (.invokevirtual 97, 3, 89, 2, .null) := by decide +kernel
theorem fe_X7_readCheck_38 : mj_f mi_X7_readCheck 38 = some (.return_, 1, 0, 0, .null) := by decide +kernel
def ct_X7_fill : MJT := [
  (0, 0, .iconst 0, 1, 0, 0, .int (0)),
  (1, 0, .istore_n 2, 1, 2, 0, .null),
  (2, 0, .iconst 0, 1, 0, 0, .int (0)),
  (3, 0, .istore_n 3, 1, 3, 0, .null),
  (4, 0, .iload_n 3, 1, 3, 0, .null),
  (5, 0, .aload_n 1, 1, 1, 0, .null),
  (6, 644, .invokevirtual 184, 3, 1, 0, .null),
  (9, 0, .if_icmp .ge 33, 3, 42, 0, .null),
  (12, 0, .aload_n 1, 1, 1, 0, .null),
  (13, 0, .iload_n 3, 1, 3, 0, .null),
  (14, 648, .invokevirtual 185, 3, 2, 1, .null),
  (17, 0, .ifCond .ne 19, 3, 36, 0, .null),
  (20, 0, .aload_n 1, 1, 1, 0, .null),
  (21, 0, .iload_n 3, 1, 3, 0, .null),
  (22, 0, .aload_n 0, 1, 0, 0, .null),
  (23, 156, .getfield 12, 3, 7, 0, .null),
  (26, 0, .iload_n 2, 1, 2, 0, .null),
  (27, 599, .invokevirtual 169, 3, 109, 1, .null),
  (30, 649, .invokevirtual 189, 3, 6, 2, .null),
  (33, 0, .iinc 2 1, 3, 2, 0, .int (1)),
  (36, 0, .iinc 3 1, 3, 3, 0, .int (1)),
  (39, 0, .goto (-35), 3, 4, 0, .null),
  (42, 0, .return_, 1, 0, 0, .null)]
abbrev id_X7_fill : Nat := 106
def mi_X7_fill : MI := (yX7_fill, cX7_fill, 4, none, 7, ct_X7_fill)
theorem fe_X7_fill_0 : mj_f mi_X7_fill 0 = some (.iconst 0, 1, 0, 0, .int (0)) := by decide +kernel
theorem fe_X7_fill_1 : mj_f mi_X7_fill 1 = some (.istore_n 2, 1, 2, 0, .null) := by decide +kernel
theorem fe_X7_fill_2 : mj_f mi_X7_fill 2 = some (.iconst 0, 1, 0, 0, .int (0)) := by decide +kernel
theorem fe_X7_fill_3 : mj_f mi_X7_fill 3 = some (.istore_n 3, 1, 3, 0, .null) := by decide +kernel
theorem fe_X7_fill_4 : mj_f mi_X7_fill 4 = some (.iload_n 3, 1, 3, 0, .null) := by decide +kernel
theorem fe_X7_fill_5 : mj_f mi_X7_fill 5 = some (.aload_n 1, 1, 1, 0, .null) := by decide +kernel
theorem fe_X7_fill_6 : mj_f mi_X7_fill 6 = some (.invokevirtual 184, 3, 1, 0, .null) := by decide +kernel
theorem fe_X7_fill_9 : mj_f mi_X7_fill 9 = some (.if_icmp .ge 33, 3, 42, 0, .null) := by decide +kernel
theorem fe_X7_fill_12 : mj_f mi_X7_fill 12 = some (.aload_n 1, 1, 1, 0, .null) := by decide +kernel
theorem fe_X7_fill_13 : mj_f mi_X7_fill 13 = some (.iload_n 3, 1, 3, 0, .null) := by decide +kernel
theorem fe_X7_fill_14 : mj_f mi_X7_fill 14 = some (.invokevirtual 185, 3, 2, 1, .null) := by decide +kernel
theorem fe_X7_fill_17 : mj_f mi_X7_fill 17 = some (.ifCond .ne 19, 3, 36, 0, .null) := by decide +kernel
theorem fe_X7_fill_20 : mj_f mi_X7_fill 20 = some (.aload_n 1, 1, 1, 0, .null) := by decide +kernel
theorem fe_X7_fill_21 : mj_f mi_X7_fill 21 = some (.iload_n 3, 1, 3, 0, .null) := by decide +kernel
theorem fe_X7_fill_22 : mj_f mi_X7_fill 22 = some (.aload_n 0, 1, 0, 0, .null) := by decide +kernel
theorem fe_X7_fill_23 : mj_f mi_X7_fill 23 = some (.getfield 12, 3, 7, 0, .null) := by decide +kernel
theorem fe_X7_fill_26 : mj_f mi_X7_fill 26 = some (.iload_n 2, 1, 2, 0, .null) := by decide +kernel
theorem fe_X7_fill_27 : mj_f mi_X7_fill 27 = some (.invokevirtual 169, 3, 109, 1, .null) := by decide +kernel
theorem fe_X7_fill_30 : mj_f mi_X7_fill 30 = some (.invokevirtual 189, 3, 6, 2, .null) := by decide +kernel
theorem fe_X7_fill_33 : mj_f mi_X7_fill 33 = some (.iinc 2 1, 3, 2, 0, .int (1)) := by decide +kernel
theorem fe_X7_fill_36 : mj_f mi_X7_fill 36 = some (.iinc 3 1, 3, 3, 0, .int (1)) := by decide +kernel
theorem fe_X7_fill_39 : mj_f mi_X7_fill 39 = some (.goto (-35), 3, 4, 0, .null) := by decide +kernel
theorem fe_X7_fill_42 : mj_f mi_X7_fill 42 = some (.return_, 1, 0, 0, .null) := by decide +kernel
def ct_X8_init : MJT := [
  (0, 0, .aload_n 0, 1, 0, 0, .null),
  (1, 137, .invokespecial 3, 3, 1000, 0, .null),
  (4, 0, .aload_n 0, 1, 0, 0, .null),
  (5, 0, .bipush 32, 2, 0, 0, .int (32)),
  (7, 0, .newarray .long, 2, 0, 0, .null),
  (9, 138, .putfield 9, 3, 8, 0, .null),
  (12, 0, .aload_n 0, 1, 0, 0, .null),
  (13, 0, .bipush 32, 2, 0, 0, .int (32)),
  (15, 0, .newarray .long, 2, 0, 0, .null),
  (17, 139, .putfield 15, 3, 8, 1, .null),
  (20, 0, .aload_n 0, 1, 0, 0, .null),
  (21, 0, .bipush 32, 2, 0, 0, .int (32)),
  (23, 0, .newarray .int, 2, 0, 0, .null),
  (25, 140, .putfield 18, 3, 8, 2, .null),
  (28, 0, .aload_n 0, 1, 0, 0, .null),
  (29, 0, .iconst 0, 1, 0, 0, .int (0)),
  (30, 141, .putfield 22, 3, 8, 3, .int 0),
  (33, 0, .aload_n 0, 1, 0, 0, .null),
  (34, 0, .iconst 0, 1, 0, 0, .int (0)),
  (35, 142, .putfield 26, 3, 8, 4, .int 0),
  (38, 0, .return_, 1, 0, 0, .null)]
abbrev id_X8_init : Nat := 107
def mi_X8_init : MI := (yX8_init, cX8_init, 1, none, 8, ct_X8_init)
theorem fe_X8_init_0 : mj_f mi_X8_init 0 = some (.aload_n 0, 1, 0, 0, .null) := by decide +kernel
theorem fe_X8_init_1 : mj_f mi_X8_init 1 = some (.invokespecial 3, 3, 1000, 0, .null) := by decide +kernel
theorem fe_X8_init_4 : mj_f mi_X8_init 4 = some (.aload_n 0, 1, 0, 0, .null) := by decide +kernel
theorem fe_X8_init_5 : mj_f mi_X8_init 5 = some (.bipush 32, 2, 0, 0, .int (32)) := by decide +kernel
theorem fe_X8_init_7 : mj_f mi_X8_init 7 = some (.newarray .long, 2, 0, 0, .null) := by decide +kernel
theorem fe_X8_init_9 : mj_f mi_X8_init 9 = some (.putfield 9, 3, 8, 0, .null) := by decide +kernel
theorem fe_X8_init_12 : mj_f mi_X8_init 12 = some (.aload_n 0, 1, 0, 0, .null) := by decide +kernel
theorem fe_X8_init_13 : mj_f mi_X8_init 13 = some (.bipush 32, 2, 0, 0, .int (32)) := by decide +kernel
theorem fe_X8_init_15 : mj_f mi_X8_init 15 = some (.newarray .long, 2, 0, 0, .null) := by decide +kernel
theorem fe_X8_init_17 : mj_f mi_X8_init 17 = some (.putfield 15, 3, 8, 1, .null) := by decide +kernel
theorem fe_X8_init_20 : mj_f mi_X8_init 20 = some (.aload_n 0, 1, 0, 0, .null) := by decide +kernel
theorem fe_X8_init_21 : mj_f mi_X8_init 21 = some (.bipush 32, 2, 0, 0, .int (32)) := by decide +kernel
theorem fe_X8_init_23 : mj_f mi_X8_init 23 = some (.newarray .int, 2, 0, 0, .null) := by decide +kernel
theorem fe_X8_init_25 : mj_f mi_X8_init 25 = some (.putfield 18, 3, 8, 2, .null) := by decide +kernel
theorem fe_X8_init_28 : mj_f mi_X8_init 28 = some (.aload_n 0, 1, 0, 0, .null) := by decide +kernel
theorem fe_X8_init_29 : mj_f mi_X8_init 29 = some (.iconst 0, 1, 0, 0, .int (0)) := by decide +kernel
theorem fe_X8_init_30 : mj_f mi_X8_init 30 = some (.putfield 22, 3, 8, 3, .int 0) := by decide +kernel
theorem fe_X8_init_33 : mj_f mi_X8_init 33 = some (.aload_n 0, 1, 0, 0, .null) := by decide +kernel
theorem fe_X8_init_34 : mj_f mi_X8_init 34 = some (.iconst 0, 1, 0, 0, .int (0)) := by decide +kernel
theorem fe_X8_init_35 : mj_f mi_X8_init 35 = some (.putfield 26, 3, 8, 4, .int 0) := by decide +kernel
theorem fe_X8_init_38 : mj_f mi_X8_init 38 = some (.return_, 1, 0, 0, .null) := by decide +kernel
def ct_X8_size : MJT := [
  (0, 0, .aload_n 0, 1, 0, 0, .null),
  (1, 141, .getfield 22, 3, 8, 3, .int 0),
  (4, 0, .ireturn, 1, 0, 0, .null)]
abbrev id_X8_size : Nat := 108
def mi_X8_size : MI := (yX8_size, cX8_size, 1, (some .int), 8, ct_X8_size)
theorem fe_X8_size_0 : mj_f mi_X8_size 0 = some (.aload_n 0, 1, 0, 0, .null) := by decide +kernel
theorem fe_X8_size_1 : mj_f mi_X8_size 1 = some (.getfield 22, 3, 8, 3, .int 0) := by decide +kernel
theorem fe_X8_size_4 : mj_f mi_X8_size 4 = some (.ireturn, 1, 0, 0, .null) := by decide +kernel
def ct_X8_valueAt : MJT := [
  (0, 0, .iload_n 1, 1, 1, 0, .null),
  (1, 0, .ifCond .lt 20, 3, 21, 0, .null),
  (4, 0, .iload_n 1, 1, 1, 0, .null),
  (5, 0, .aload_n 0, 1, 0, 0, .null),
  (6, 141, .getfield 22, 3, 8, 3, .int 0),
  (9, 0, .if_icmp .ge 12, 3, 21, 0, .null),
  (12, 0, .iload_n 1, 1, 1, 0, .null),
  (13, 0, .aload_n 0, 1, 0, 0, .null),
  (14, 138, .getfield 9, 3, 8, 0, .null),
  (17, 0, .arraylength, 1, 0, 0, .null),
  (18, 0, .if_icmp .lt 7, 3, 25, 0, .null),
  (21, 0, .lconst 0, 1, 0, 0, .long 0),
  (22, 0, .goto 9, 3, 31, 0, .null),
  (25, 0, .aload_n 0, 1, 0, 0, .null),
  (26, 138, .getfield 9, 3, 8, 0, .null),
  (29, 0, .iload_n 1, 1, 1, 0, .null),
  (30, 0, .laload, 1, 0, 0, .null),
  (31, 0, .lreturn, 1, 0, 0, .null)]
abbrev id_X8_valueAt : Nat := 109
def mi_X8_valueAt : MI := (yX8_valueAt, cX8_valueAt, 2, (some .long), 8, ct_X8_valueAt)
theorem fe_X8_valueAt_0 : mj_f mi_X8_valueAt 0 = some (.iload_n 1, 1, 1, 0, .null) := by decide +kernel
theorem fe_X8_valueAt_1 : mj_f mi_X8_valueAt 1 = some (.ifCond .lt 20, 3, 21, 0, .null) := by decide +kernel
theorem fe_X8_valueAt_4 : mj_f mi_X8_valueAt 4 = some (.iload_n 1, 1, 1, 0, .null) := by decide +kernel
theorem fe_X8_valueAt_5 : mj_f mi_X8_valueAt 5 = some (.aload_n 0, 1, 0, 0, .null) := by decide +kernel
theorem fe_X8_valueAt_6 : mj_f mi_X8_valueAt 6 = some (.getfield 22, 3, 8, 3, .int 0) := by decide +kernel
theorem fe_X8_valueAt_9 : mj_f mi_X8_valueAt 9 = some (.if_icmp .ge 12, 3, 21, 0, .null) := by decide +kernel
theorem fe_X8_valueAt_12 : mj_f mi_X8_valueAt 12 = some (.iload_n 1, 1, 1, 0, .null) := by decide +kernel
theorem fe_X8_valueAt_13 : mj_f mi_X8_valueAt 13 = some (.aload_n 0, 1, 0, 0, .null) := by decide +kernel
theorem fe_X8_valueAt_14 : mj_f mi_X8_valueAt 14 = some (.getfield 9, 3, 8, 0, .null) := by decide +kernel
theorem fe_X8_valueAt_17 : mj_f mi_X8_valueAt 17 = some (.arraylength, 1, 0, 0, .null) := by decide +kernel
theorem fe_X8_valueAt_18 : mj_f mi_X8_valueAt 18 = some (.if_icmp .lt 7, 3, 25, 0, .null) := by decide +kernel
theorem fe_X8_valueAt_21 : mj_f mi_X8_valueAt 21 = some (.lconst 0, 1, 0, 0, .long 0) := by decide +kernel
theorem fe_X8_valueAt_22 : mj_f mi_X8_valueAt 22 = some (.goto 9, 3, 31, 0, .null) := by decide +kernel
theorem fe_X8_valueAt_25 : mj_f mi_X8_valueAt 25 = some (.aload_n 0, 1, 0, 0, .null) := by decide +kernel
theorem fe_X8_valueAt_26 : mj_f mi_X8_valueAt 26 = some (.getfield 9, 3, 8, 0, .null) := by decide +kernel
theorem fe_X8_valueAt_29 : mj_f mi_X8_valueAt 29 = some (.iload_n 1, 1, 1, 0, .null) := by decide +kernel
theorem fe_X8_valueAt_30 : mj_f mi_X8_valueAt 30 = some (.laload, 1, 0, 0, .null) := by decide +kernel
theorem fe_X8_valueAt_31 : mj_f mi_X8_valueAt 31 = some (.lreturn, 1, 0, 0, .null) := by decide +kernel
def ct_X8_unlike : MJT := [
  (0, 0, .aload_n 0, 1, 0, 0, .null),
  (1, 142, .getfield 26, 3, 8, 4, .int 0),
  (4, 0, .ireturn, 1, 0, 0, .null)]
abbrev id_X8_unlike : Nat := 110
def mi_X8_unlike : MI := (yX8_unlike, cX8_unlike, 1, (some .int), 8, ct_X8_unlike)
theorem fe_X8_unlike_0 : mj_f mi_X8_unlike 0 = some (.aload_n 0, 1, 0, 0, .null) := by decide +kernel
theorem fe_X8_unlike_1 : mj_f mi_X8_unlike 1 = some (.getfield 26, 3, 8, 4, .int 0) := by decide +kernel
theorem fe_X8_unlike_4 : mj_f mi_X8_unlike 4 = some (.ireturn, 1, 0, 0, .null) := by decide +kernel
def ct_X8_unlikeAt : MJT := [
  (0, 0, .iload_n 1, 1, 1, 0, .null),
  (1, 0, .ifCond .lt 20, 3, 21, 0, .null),
  (4, 0, .iload_n 1, 1, 1, 0, .null),
  (5, 0, .aload_n 0, 1, 0, 0, .null),
  (6, 142, .getfield 26, 3, 8, 4, .int 0),
  (9, 0, .if_icmp .ge 12, 3, 21, 0, .null),
  (12, 0, .iload_n 1, 1, 1, 0, .null),
  (13, 0, .aload_n 0, 1, 0, 0, .null),
  (14, 139, .getfield 15, 3, 8, 1, .null),
  (17, 0, .arraylength, 1, 0, 0, .null),
  (18, 0, .if_icmp .lt 7, 3, 25, 0, .null),
  (21, 0, .lconst 0, 1, 0, 0, .long 0),
  (22, 0, .goto 9, 3, 31, 0, .null),
  (25, 0, .aload_n 0, 1, 0, 0, .null),
  (26, 139, .getfield 15, 3, 8, 1, .null),
  (29, 0, .iload_n 1, 1, 1, 0, .null),
  (30, 0, .laload, 1, 0, 0, .null),
  (31, 0, .lreturn, 1, 0, 0, .null)]
abbrev id_X8_unlikeAt : Nat := 111
def mi_X8_unlikeAt : MI := (yX8_unlikeAt, cX8_unlikeAt, 2, (some .long), 8, ct_X8_unlikeAt)
theorem fe_X8_unlikeAt_0 : mj_f mi_X8_unlikeAt 0 = some (.iload_n 1, 1, 1, 0, .null) := by decide +kernel
theorem fe_X8_unlikeAt_1 : mj_f mi_X8_unlikeAt 1 = some (.ifCond .lt 20, 3, 21, 0, .null) := by decide +kernel
theorem fe_X8_unlikeAt_4 : mj_f mi_X8_unlikeAt 4 = some (.iload_n 1, 1, 1, 0, .null) := by decide +kernel
theorem fe_X8_unlikeAt_5 : mj_f mi_X8_unlikeAt 5 = some (.aload_n 0, 1, 0, 0, .null) := by decide +kernel
theorem fe_X8_unlikeAt_6 : mj_f mi_X8_unlikeAt 6 = some (.getfield 26, 3, 8, 4, .int 0) := by decide +kernel
theorem fe_X8_unlikeAt_9 : mj_f mi_X8_unlikeAt 9 = some (.if_icmp .ge 12, 3, 21, 0, .null) := by decide +kernel
theorem fe_X8_unlikeAt_12 : mj_f mi_X8_unlikeAt 12 = some (.iload_n 1, 1, 1, 0, .null) := by decide +kernel
theorem fe_X8_unlikeAt_13 : mj_f mi_X8_unlikeAt 13 = some (.aload_n 0, 1, 0, 0, .null) := by decide +kernel
theorem fe_X8_unlikeAt_14 : mj_f mi_X8_unlikeAt 14 = some (.getfield 15, 3, 8, 1, .null) := by decide +kernel
theorem fe_X8_unlikeAt_17 : mj_f mi_X8_unlikeAt 17 = some (.arraylength, 1, 0, 0, .null) := by decide +kernel
theorem fe_X8_unlikeAt_18 : mj_f mi_X8_unlikeAt 18 = some (.if_icmp .lt 7, 3, 25, 0, .null) := by decide +kernel
theorem fe_X8_unlikeAt_21 : mj_f mi_X8_unlikeAt 21 = some (.lconst 0, 1, 0, 0, .long 0) := by decide +kernel
theorem fe_X8_unlikeAt_22 : mj_f mi_X8_unlikeAt 22 = some (.goto 9, 3, 31, 0, .null) := by decide +kernel
theorem fe_X8_unlikeAt_25 : mj_f mi_X8_unlikeAt 25 = some (.aload_n 0, 1, 0, 0, .null) := by decide +kernel
theorem fe_X8_unlikeAt_26 : mj_f mi_X8_unlikeAt 26 = some (.getfield 15, 3, 8, 1, .null) := by decide +kernel
theorem fe_X8_unlikeAt_29 : mj_f mi_X8_unlikeAt 29 = some (.iload_n 1, 1, 1, 0, .null) := by decide +kernel
theorem fe_X8_unlikeAt_30 : mj_f mi_X8_unlikeAt 30 = some (.laload, 1, 0, 0, .null) := by decide +kernel
theorem fe_X8_unlikeAt_31 : mj_f mi_X8_unlikeAt 31 = some (.lreturn, 1, 0, 0, .null) := by decide +kernel
def ct_X8_timesOf : MJT := [
  (0, 0, .iload_n 1, 1, 1, 0, .null),
  (1, 0, .ifCond .lt 20, 3, 21, 0, .null),
  (4, 0, .iload_n 1, 1, 1, 0, .null),
  (5, 0, .aload_n 0, 1, 0, 0, .null),
  (6, 142, .getfield 26, 3, 8, 4, .int 0),
  (9, 0, .if_icmp .ge 12, 3, 21, 0, .null),
  (12, 0, .iload_n 1, 1, 1, 0, .null),
  (13, 0, .aload_n 0, 1, 0, 0, .null),
  (14, 140, .getfield 18, 3, 8, 2, .null),
  (17, 0, .arraylength, 1, 0, 0, .null),
  (18, 0, .if_icmp .lt 7, 3, 25, 0, .null),
  (21, 0, .iconst 0, 1, 0, 0, .int (0)),
  (22, 0, .goto 9, 3, 31, 0, .null),
  (25, 0, .aload_n 0, 1, 0, 0, .null),
  (26, 140, .getfield 18, 3, 8, 2, .null),
  (29, 0, .iload_n 1, 1, 1, 0, .null),
  (30, 0, .iaload, 1, 0, 0, .null),
  (31, 0, .ireturn, 1, 0, 0, .null)]
abbrev id_X8_timesOf : Nat := 112
def mi_X8_timesOf : MI := (yX8_timesOf, cX8_timesOf, 2, (some .int), 8, ct_X8_timesOf)
theorem fe_X8_timesOf_0 : mj_f mi_X8_timesOf 0 = some (.iload_n 1, 1, 1, 0, .null) := by decide +kernel
theorem fe_X8_timesOf_1 : mj_f mi_X8_timesOf 1 = some (.ifCond .lt 20, 3, 21, 0, .null) := by decide +kernel
theorem fe_X8_timesOf_4 : mj_f mi_X8_timesOf 4 = some (.iload_n 1, 1, 1, 0, .null) := by decide +kernel
theorem fe_X8_timesOf_5 : mj_f mi_X8_timesOf 5 = some (.aload_n 0, 1, 0, 0, .null) := by decide +kernel
theorem fe_X8_timesOf_6 : mj_f mi_X8_timesOf 6 = some (.getfield 26, 3, 8, 4, .int 0) := by decide +kernel
theorem fe_X8_timesOf_9 : mj_f mi_X8_timesOf 9 = some (.if_icmp .ge 12, 3, 21, 0, .null) := by decide +kernel
theorem fe_X8_timesOf_12 : mj_f mi_X8_timesOf 12 = some (.iload_n 1, 1, 1, 0, .null) := by decide +kernel
theorem fe_X8_timesOf_13 : mj_f mi_X8_timesOf 13 = some (.aload_n 0, 1, 0, 0, .null) := by decide +kernel
theorem fe_X8_timesOf_14 : mj_f mi_X8_timesOf 14 = some (.getfield 18, 3, 8, 2, .null) := by decide +kernel
theorem fe_X8_timesOf_17 : mj_f mi_X8_timesOf 17 = some (.arraylength, 1, 0, 0, .null) := by decide +kernel
theorem fe_X8_timesOf_18 : mj_f mi_X8_timesOf 18 = some (.if_icmp .lt 7, 3, 25, 0, .null) := by decide +kernel
theorem fe_X8_timesOf_21 : mj_f mi_X8_timesOf 21 = some (.iconst 0, 1, 0, 0, .int (0)) := by decide +kernel
theorem fe_X8_timesOf_22 : mj_f mi_X8_timesOf 22 = some (.goto 9, 3, 31, 0, .null) := by decide +kernel
theorem fe_X8_timesOf_25 : mj_f mi_X8_timesOf 25 = some (.aload_n 0, 1, 0, 0, .null) := by decide +kernel
theorem fe_X8_timesOf_26 : mj_f mi_X8_timesOf 26 = some (.getfield 18, 3, 8, 2, .null) := by decide +kernel
theorem fe_X8_timesOf_29 : mj_f mi_X8_timesOf 29 = some (.iload_n 1, 1, 1, 0, .null) := by decide +kernel
theorem fe_X8_timesOf_30 : mj_f mi_X8_timesOf 30 = some (.iaload, 1, 0, 0, .null) := by decide +kernel
theorem fe_X8_timesOf_31 : mj_f mi_X8_timesOf 31 = some (.ireturn, 1, 0, 0, .null) := by decide +kernel
def ct_X8_empty : MJT := [
  (0, 0, .aload_n 0, 1, 0, 0, .null),
  (1, 0, .iconst 0, 1, 0, 0, .int (0)),
  (2, 141, .putfield 22, 3, 8, 3, .int 0),
  (5, 0, .aload_n 0, 1, 0, 0, .null),
  (6, 0, .iconst 0, 1, 0, 0, .int (0)),
  (7, 142, .putfield 26, 3, 8, 4, .int 0),
  (10, 0, .return_, 1, 0, 0, .null)]
abbrev id_X8_empty : Nat := 113
def mi_X8_empty : MI := (yX8_empty, cX8_empty, 1, none, 8, ct_X8_empty)
theorem fe_X8_empty_0 : mj_f mi_X8_empty 0 = some (.aload_n 0, 1, 0, 0, .null) := by decide +kernel
theorem fe_X8_empty_1 : mj_f mi_X8_empty 1 = some (.iconst 0, 1, 0, 0, .int (0)) := by decide +kernel
theorem fe_X8_empty_2 : mj_f mi_X8_empty 2 = some (.putfield 22, 3, 8, 3, .int 0) := by decide +kernel
theorem fe_X8_empty_5 : mj_f mi_X8_empty 5 = some (.aload_n 0, 1, 0, 0, .null) := by decide +kernel
theorem fe_X8_empty_6 : mj_f mi_X8_empty 6 = some (.iconst 0, 1, 0, 0, .int (0)) := by decide +kernel
theorem fe_X8_empty_7 : mj_f mi_X8_empty 7 = some (.putfield 26, 3, 8, 4, .int 0) := by decide +kernel
theorem fe_X8_empty_10 : mj_f mi_X8_empty 10 = some (.return_, 1, 0, 0, .null) := by decide +kernel
def ct_X8_add : MJT := [
  (0, 0, .aload_n 0, 1, 0, 0, .null),
  (1, 141, .getfield 22, 3, 8, 3, .int 0),
  (4, 0, .ifCond .lt 35, 3, 39, 0, .null),
  (7, 0, .aload_n 0, 1, 0, 0, .null),
  (8, 141, .getfield 22, 3, 8, 3, .int 0),
  (11, 0, .aload_n 0, 1, 0, 0, .null),
  (12, 138, .getfield 9, 3, 8, 0, .null),
  (15, 0, .arraylength, 1, 0, 0, .null),
  (16, 0, .if_icmp .ge 23, 3, 39, 0, .null),
  (19, 0, .aload_n 0, 1, 0, 0, .null),
  (20, 138, .getfield 9, 3, 8, 0, .null),
  (23, 0, .aload_n 0, 1, 0, 0, .null),
  (24, 141, .getfield 22, 3, 8, 3, .int 0),
  (27, 0, .lload_n 1, 1, 1, 0, .null),
  (28, 0, .lastore, 1, 0, 0, .null),
  (29, 0, .aload_n 0, 1, 0, 0, .null),
  (30, 0, .dup, 1, 0, 0, .null),
  (31, 141, .getfield 22, 3, 8, 3, .int 0),
  (34, 0, .iconst 1, 1, 0, 0, .int (1)),
  (35, 0, .iadd, 1, 0, 0, .null),
  (36, 141, .putfield 22, 3, 8, 3, .int 0),
  (39, 0, .return_, 1, 0, 0, .null)]
abbrev id_X8_add : Nat := 114
def mi_X8_add : MI := (yX8_add, cX8_add, 3, none, 8, ct_X8_add)
theorem fe_X8_add_0 : mj_f mi_X8_add 0 = some (.aload_n 0, 1, 0, 0, .null) := by decide +kernel
theorem fe_X8_add_1 : mj_f mi_X8_add 1 = some (.getfield 22, 3, 8, 3, .int 0) := by decide +kernel
theorem fe_X8_add_4 : mj_f mi_X8_add 4 = some (.ifCond .lt 35, 3, 39, 0, .null) := by decide +kernel
theorem fe_X8_add_7 : mj_f mi_X8_add 7 = some (.aload_n 0, 1, 0, 0, .null) := by decide +kernel
theorem fe_X8_add_8 : mj_f mi_X8_add 8 = some (.getfield 22, 3, 8, 3, .int 0) := by decide +kernel
theorem fe_X8_add_11 : mj_f mi_X8_add 11 = some (.aload_n 0, 1, 0, 0, .null) := by decide +kernel
theorem fe_X8_add_12 : mj_f mi_X8_add 12 = some (.getfield 9, 3, 8, 0, .null) := by decide +kernel
theorem fe_X8_add_15 : mj_f mi_X8_add 15 = some (.arraylength, 1, 0, 0, .null) := by decide +kernel
theorem fe_X8_add_16 : mj_f mi_X8_add 16 = some (.if_icmp .ge 23, 3, 39, 0, .null) := by decide +kernel
theorem fe_X8_add_19 : mj_f mi_X8_add 19 = some (.aload_n 0, 1, 0, 0, .null) := by decide +kernel
theorem fe_X8_add_20 : mj_f mi_X8_add 20 = some (.getfield 9, 3, 8, 0, .null) := by decide +kernel
theorem fe_X8_add_23 : mj_f mi_X8_add 23 = some (.aload_n 0, 1, 0, 0, .null) := by decide +kernel
theorem fe_X8_add_24 : mj_f mi_X8_add 24 = some (.getfield 22, 3, 8, 3, .int 0) := by decide +kernel
theorem fe_X8_add_27 : mj_f mi_X8_add 27 = some (.lload_n 1, 1, 1, 0, .null) := by decide +kernel
theorem fe_X8_add_28 : mj_f mi_X8_add 28 = some (.lastore, 1, 0, 0, .null) := by decide +kernel
theorem fe_X8_add_29 : mj_f mi_X8_add 29 = some (.aload_n 0, 1, 0, 0, .null) := by decide +kernel
theorem fe_X8_add_30 : mj_f mi_X8_add 30 = some (.dup, 1, 0, 0, .null) := by decide +kernel
theorem fe_X8_add_31 : mj_f mi_X8_add 31 = some (.getfield 22, 3, 8, 3, .int 0) := by decide +kernel
theorem fe_X8_add_34 : mj_f mi_X8_add 34 = some (.iconst 1, 1, 0, 0, .int (1)) := by decide +kernel
theorem fe_X8_add_35 : mj_f mi_X8_add 35 = some (.iadd, 1, 0, 0, .null) := by decide +kernel
theorem fe_X8_add_36 : mj_f mi_X8_add 36 = some (.putfield 22, 3, 8, 3, .int 0) := by decide +kernel
theorem fe_X8_add_39 : mj_f mi_X8_add 39 = some (.return_, 1, 0, 0, .null) := by decide +kernel
def ct_X8_put : MJT := [
  (0, 0, .iload_n 1, 1, 1, 0, .null),
  (1, 0, .ifCond .lt 27, 3, 28, 0, .null),
  (4, 0, .iload_n 1, 1, 1, 0, .null),
  (5, 0, .aload_n 0, 1, 0, 0, .null),
  (6, 141, .getfield 22, 3, 8, 3, .int 0),
  (9, 0, .if_icmp .ge 19, 3, 28, 0, .null),
  (12, 0, .iload_n 1, 1, 1, 0, .null),
  (13, 0, .aload_n 0, 1, 0, 0, .null),
  (14, 138, .getfield 9, 3, 8, 0, .null),
  (17, 0, .arraylength, 1, 0, 0, .null),
  (18, 0, .if_icmp .ge 10, 3, 28, 0, .null),
  (21, 0, .aload_n 0, 1, 0, 0, .null),
  (22, 138, .getfield 9, 3, 8, 0, .null),
  (25, 0, .iload_n 1, 1, 1, 0, .null),
  (26, 0, .lload_n 2, 1, 2, 0, .null),
  (27, 0, .lastore, 1, 0, 0, .null),
  (28, 0, .return_, 1, 0, 0, .null)]
abbrev id_X8_put : Nat := 115
def mi_X8_put : MI := (yX8_put, cX8_put, 4, none, 8, ct_X8_put)
theorem fe_X8_put_0 : mj_f mi_X8_put 0 = some (.iload_n 1, 1, 1, 0, .null) := by decide +kernel
theorem fe_X8_put_1 : mj_f mi_X8_put 1 = some (.ifCond .lt 27, 3, 28, 0, .null) := by decide +kernel
theorem fe_X8_put_4 : mj_f mi_X8_put 4 = some (.iload_n 1, 1, 1, 0, .null) := by decide +kernel
theorem fe_X8_put_5 : mj_f mi_X8_put 5 = some (.aload_n 0, 1, 0, 0, .null) := by decide +kernel
theorem fe_X8_put_6 : mj_f mi_X8_put 6 = some (.getfield 22, 3, 8, 3, .int 0) := by decide +kernel
theorem fe_X8_put_9 : mj_f mi_X8_put 9 = some (.if_icmp .ge 19, 3, 28, 0, .null) := by decide +kernel
theorem fe_X8_put_12 : mj_f mi_X8_put 12 = some (.iload_n 1, 1, 1, 0, .null) := by decide +kernel
theorem fe_X8_put_13 : mj_f mi_X8_put 13 = some (.aload_n 0, 1, 0, 0, .null) := by decide +kernel
theorem fe_X8_put_14 : mj_f mi_X8_put 14 = some (.getfield 9, 3, 8, 0, .null) := by decide +kernel
theorem fe_X8_put_17 : mj_f mi_X8_put 17 = some (.arraylength, 1, 0, 0, .null) := by decide +kernel
theorem fe_X8_put_18 : mj_f mi_X8_put 18 = some (.if_icmp .ge 10, 3, 28, 0, .null) := by decide +kernel
theorem fe_X8_put_21 : mj_f mi_X8_put 21 = some (.aload_n 0, 1, 0, 0, .null) := by decide +kernel
theorem fe_X8_put_22 : mj_f mi_X8_put 22 = some (.getfield 9, 3, 8, 0, .null) := by decide +kernel
theorem fe_X8_put_25 : mj_f mi_X8_put 25 = some (.iload_n 1, 1, 1, 0, .null) := by decide +kernel
theorem fe_X8_put_26 : mj_f mi_X8_put 26 = some (.lload_n 2, 1, 2, 0, .null) := by decide +kernel
theorem fe_X8_put_27 : mj_f mi_X8_put 27 = some (.lastore, 1, 0, 0, .null) := by decide +kernel
theorem fe_X8_put_28 : mj_f mi_X8_put 28 = some (.return_, 1, 0, 0, .null) := by decide +kernel
def ct_X8_gather : MJT := [
  (0, 0, .aload_n 0, 1, 0, 0, .null),
  (1, 611, .invokevirtual 29, 3, 113, 0, .null),
  (4, 0, .iconst 0, 1, 0, 0, .int (0)),
  (5, 0, .istore_n 2, 1, 2, 0, .null),
  (6, 0, .iload_n 2, 1, 2, 0, .null),
  (7, 0, .aload_n 1, 1, 1, 0, .null),
  (8, 686, .invokevirtual 32, 3, 1, 0, .null),
  (11, 0, .if_icmp .ge 26, 3, 37, 0, .null),
  (14, 0, .aload_n 1, 1, 1, 0, .null),
  (15, 0, .iload_n 2, 1, 2, 0, .null),
  (16, 687, .invokevirtual 37, 3, 2, 1, .null),
  (19, 0, .ifCond .ne 12, 3, 31, 0, .null),
  (22, 0, .aload_n 0, 1, 0, 0, .null),
  (23, 0, .aload_n 1, 1, 1, 0, .null),
  (24, 0, .iload_n 2, 1, 2, 0, .null),
  (25, 688, .invokevirtual 41, 3, 3, 1, .null),
  (28, 613, .invokevirtual 45, 3, 114, 1, .null),
  (31, 0, .iinc 2 1, 3, 2, 0, .int (1)),
  (34, 0, .goto (-28), 3, 6, 0, .null),
  (37, 0, .return_, 1, 0, 0, .null)]
abbrev id_X8_gather : Nat := 116
def mi_X8_gather : MI := (yX8_gather, cX8_gather, 3, none, 8, ct_X8_gather)
theorem fe_X8_gather_0 : mj_f mi_X8_gather 0 = some (.aload_n 0, 1, 0, 0, .null) := by decide +kernel
theorem fe_X8_gather_1 : mj_f mi_X8_gather 1 = some (.invokevirtual 29, 3, 113, 0, .null) := by decide +kernel
theorem fe_X8_gather_4 : mj_f mi_X8_gather 4 = some (.iconst 0, 1, 0, 0, .int (0)) := by decide +kernel
theorem fe_X8_gather_5 : mj_f mi_X8_gather 5 = some (.istore_n 2, 1, 2, 0, .null) := by decide +kernel
theorem fe_X8_gather_6 : mj_f mi_X8_gather 6 = some (.iload_n 2, 1, 2, 0, .null) := by decide +kernel
theorem fe_X8_gather_7 : mj_f mi_X8_gather 7 = some (.aload_n 1, 1, 1, 0, .null) := by decide +kernel
theorem fe_X8_gather_8 : mj_f mi_X8_gather 8 = some (.invokevirtual 32, 3, 1, 0, .null) := by decide +kernel
theorem fe_X8_gather_11 : mj_f mi_X8_gather 11 = some (.if_icmp .ge 26, 3, 37, 0, .null) := by decide +kernel
theorem fe_X8_gather_14 : mj_f mi_X8_gather 14 = some (.aload_n 1, 1, 1, 0, .null) := by decide +kernel
theorem fe_X8_gather_15 : mj_f mi_X8_gather 15 = some (.iload_n 2, 1, 2, 0, .null) := by decide +kernel
theorem fe_X8_gather_16 : mj_f mi_X8_gather 16 = some (.invokevirtual 37, 3, 2, 1, .null) := by decide +kernel
theorem fe_X8_gather_19 : mj_f mi_X8_gather 19 = some (.ifCond .ne 12, 3, 31, 0, .null) := by decide +kernel
theorem fe_X8_gather_22 : mj_f mi_X8_gather 22 = some (.aload_n 0, 1, 0, 0, .null) := by decide +kernel
theorem fe_X8_gather_23 : mj_f mi_X8_gather 23 = some (.aload_n 1, 1, 1, 0, .null) := by decide +kernel
theorem fe_X8_gather_24 : mj_f mi_X8_gather 24 = some (.iload_n 2, 1, 2, 0, .null) := by decide +kernel
theorem fe_X8_gather_25 : mj_f mi_X8_gather 25 = some (.invokevirtual 41, 3, 3, 1, .null) := by decide +kernel
theorem fe_X8_gather_28 : mj_f mi_X8_gather 28 = some (.invokevirtual 45, 3, 114, 1, .null) := by decide +kernel
theorem fe_X8_gather_31 : mj_f mi_X8_gather 31 = some (.iinc 2 1, 3, 2, 0, .int (1)) := by decide +kernel
theorem fe_X8_gather_34 : mj_f mi_X8_gather 34 = some (.goto (-28), 3, 6, 0, .null) := by decide +kernel
theorem fe_X8_gather_37 : mj_f mi_X8_gather 37 = some (.return_, 1, 0, 0, .null) := by decide +kernel
def ct_X8_arrange : MJT := [
  (0, 0, .aload_n 0, 1, 0, 0, .null),
  (1, 0, .iconst 0, 1, 0, 0, .int (0)),
  (2, 142, .putfield 26, 3, 8, 4, .int 0),
  (5, 0, .iconst 0, 1, 0, 0, .int (0)),
  (6, 0, .istore_n 1, 1, 1, 0, .null),
  (7, 0, .iload_n 1, 1, 1, 0, .null),
  (8, 0, .aload_n 0, 1, 0, 0, .null),
  (9, 141, .getfield 22, 3, 8, 3, .int 0),
  (12, 0, .if_icmp .ge 63, 3, 75, 0, .null),
  (15, 0, .aload_n 0, 1, 0, 0, .null),
  (16, 0, .iload_n 1, 1, 1, 0, .null),
  (17, 612, .invokevirtual 49, 3, 109, 1, .null),
  (20, 0, .lstore_n 2, 1, 2, 0, .null),
  (21, 0, .aload_n 0, 1, 0, 0, .null),
  (22, 0, .lload_n 2, 1, 2, 0, .null),
  (23, 705, .invokevirtual 50, 3, 118, 1, .null),
  (26, 0, .istore 4, 2, 4, 0, .null),
  (28, 0, .iload 4, 2, 4, 0, .null),
  (30, 0, .aload_n 0, 1, 0, 0, .null),
  (31, 142, .getfield 26, 3, 8, 4, .int 0),
  (34, 0, .if_icmp .ge 28, 3, 62, 0, .null),
  (37, 0, .aload_n 0, 1, 0, 0, .null),
  (38, 0, .iload 4, 2, 4, 0, .null),
  (40, 709, .invokevirtual 54, 3, 111, 1, .null),
  (43, 0, .lload_n 2, 1, 2, 0, .null),
  (44, 0, .lcmp, 1, 0, 0, .null),
  (45, 0, .ifCond .ne 17, 3, 62, 0, .null),
  (48, 0, .aload_n 0, 1, 0, 0, .null),
  (49, 140, .getfield 18, 3, 8, 2, .null),
  (52, 0, .iload 4, 2, 4, 0, .null),
  (54, 0, .dup2, 1, 0, 0, .null),
  (55, 0, .iaload, 1, 0, 0, .null),
  (56, 0, .iconst 1, 1, 0, 0, .int (1)),
  (57, 0, .iadd, 1, 0, 0, .null),
  (58, 0, .iastore, 1, 0, 0, .null),
  (59, 0, .goto 10, 3, 69, 0, .null),
  (62, 0, .aload_n 0, 1, 0, 0, .null),
  (63, 0, .iload 4, 2, 4, 0, .null),
  (65, 0, .lload_n 2, 1, 2, 0, .null),
  (66, 713, .invokevirtual 57, 3, 119, 2, .null),
  (69, 0, .iinc 1 1, 3, 1, 0, .int (1)),
  (72, 0, .goto (-65), 3, 7, 0, .null),
  (75, 0, .return_, 1, 0, 0, .null)]
abbrev id_X8_arrange : Nat := 117
def mi_X8_arrange : MI := (yX8_arrange, cX8_arrange, 5, none, 8, ct_X8_arrange)
theorem fe_X8_arrange_0 : mj_f mi_X8_arrange 0 = some (.aload_n 0, 1, 0, 0, .null) := by decide +kernel
theorem fe_X8_arrange_1 : mj_f mi_X8_arrange 1 = some (.iconst 0, 1, 0, 0, .int (0)) := by decide +kernel
theorem fe_X8_arrange_2 : mj_f mi_X8_arrange 2 = some (.putfield 26, 3, 8, 4, .int 0) := by decide +kernel
theorem fe_X8_arrange_5 : mj_f mi_X8_arrange 5 = some (.iconst 0, 1, 0, 0, .int (0)) := by decide +kernel
theorem fe_X8_arrange_6 : mj_f mi_X8_arrange 6 = some (.istore_n 1, 1, 1, 0, .null) := by decide +kernel
theorem fe_X8_arrange_7 : mj_f mi_X8_arrange 7 = some (.iload_n 1, 1, 1, 0, .null) := by decide +kernel
theorem fe_X8_arrange_8 : mj_f mi_X8_arrange 8 = some (.aload_n 0, 1, 0, 0, .null) := by decide +kernel
theorem fe_X8_arrange_9 : mj_f mi_X8_arrange 9 = some (.getfield 22, 3, 8, 3, .int 0) := by decide +kernel
theorem fe_X8_arrange_12 : mj_f mi_X8_arrange 12 = some (.if_icmp .ge 63, 3, 75, 0, .null) := by decide +kernel
theorem fe_X8_arrange_15 : mj_f mi_X8_arrange 15 = some (.aload_n 0, 1, 0, 0, .null) := by decide +kernel
theorem fe_X8_arrange_16 : mj_f mi_X8_arrange 16 = some (.iload_n 1, 1, 1, 0, .null) := by decide +kernel
theorem fe_X8_arrange_17 : mj_f mi_X8_arrange 17 = some (.invokevirtual 49, 3, 109, 1, .null) := by decide +kernel
theorem fe_X8_arrange_20 : mj_f mi_X8_arrange 20 = some (.lstore_n 2, 1, 2, 0, .null) := by decide +kernel
theorem fe_X8_arrange_21 : mj_f mi_X8_arrange 21 = some (.aload_n 0, 1, 0, 0, .null) := by decide +kernel
theorem fe_X8_arrange_22 : mj_f mi_X8_arrange 22 = some (.lload_n 2, 1, 2, 0, .null) := by decide +kernel
theorem fe_X8_arrange_23 : mj_f mi_X8_arrange 23 = some (.invokevirtual 50, 3, 118, 1, .null) := by decide +kernel
theorem fe_X8_arrange_26 : mj_f mi_X8_arrange 26 = some (.istore 4, 2, 4, 0, .null) := by decide +kernel
theorem fe_X8_arrange_28 : mj_f mi_X8_arrange 28 = some (.iload 4, 2, 4, 0, .null) := by decide +kernel
theorem fe_X8_arrange_30 : mj_f mi_X8_arrange 30 = some (.aload_n 0, 1, 0, 0, .null) := by decide +kernel
theorem fe_X8_arrange_31 : mj_f mi_X8_arrange 31 = some (.getfield 26, 3, 8, 4, .int 0) := by decide +kernel
theorem fe_X8_arrange_34 : mj_f mi_X8_arrange 34 = some (.if_icmp .ge 28, 3, 62, 0, .null) := by decide +kernel
theorem fe_X8_arrange_37 : mj_f mi_X8_arrange 37 = some (.aload_n 0, 1, 0, 0, .null) := by decide +kernel
theorem fe_X8_arrange_38 : mj_f mi_X8_arrange 38 = some (.iload 4, 2, 4, 0, .null) := by decide +kernel
theorem fe_X8_arrange_40 : mj_f mi_X8_arrange 40 = some (.invokevirtual 54, 3, 111, 1, .null) := by decide +kernel
theorem fe_X8_arrange_43 : mj_f mi_X8_arrange 43 = some (.lload_n 2, 1, 2, 0, .null) := by decide +kernel
theorem fe_X8_arrange_44 : mj_f mi_X8_arrange 44 = some (.lcmp, 1, 0, 0, .null) := by decide +kernel
theorem fe_X8_arrange_45 : mj_f mi_X8_arrange 45 = some (.ifCond .ne 17, 3, 62, 0, .null) := by decide +kernel
theorem fe_X8_arrange_48 : mj_f mi_X8_arrange 48 = some (.aload_n 0, 1, 0, 0, .null) := by decide +kernel
theorem fe_X8_arrange_49 : mj_f mi_X8_arrange 49 = some (.getfield 18, 3, 8, 2, .null) := by decide +kernel
theorem fe_X8_arrange_52 : mj_f mi_X8_arrange 52 = some (.iload 4, 2, 4, 0, .null) := by decide +kernel
theorem fe_X8_arrange_54 : mj_f mi_X8_arrange 54 = some (.dup2, 1, 0, 0, .null) := by decide +kernel
theorem fe_X8_arrange_55 : mj_f mi_X8_arrange 55 = some (.iaload, 1, 0, 0, .null) := by decide +kernel
theorem fe_X8_arrange_56 : mj_f mi_X8_arrange 56 = some (.iconst 1, 1, 0, 0, .int (1)) := by decide +kernel
theorem fe_X8_arrange_57 : mj_f mi_X8_arrange 57 = some (.iadd, 1, 0, 0, .null) := by decide +kernel
theorem fe_X8_arrange_58 : mj_f mi_X8_arrange 58 = some (.iastore, 1, 0, 0, .null) := by decide +kernel
theorem fe_X8_arrange_59 : mj_f mi_X8_arrange 59 = some (.goto 10, 3, 69, 0, .null) := by decide +kernel
theorem fe_X8_arrange_62 : mj_f mi_X8_arrange 62 = some (.aload_n 0, 1, 0, 0, .null) := by decide +kernel
theorem fe_X8_arrange_63 : mj_f mi_X8_arrange 63 = some (.iload 4, 2, 4, 0, .null) := by decide +kernel
theorem fe_X8_arrange_65 : mj_f mi_X8_arrange 65 = some (.lload_n 2, 1, 2, 0, .null) := by decide +kernel
theorem fe_X8_arrange_66 : mj_f mi_X8_arrange 66 = some (.invokevirtual 57, 3, 119, 2, .null) := by decide +kernel
theorem fe_X8_arrange_69 : mj_f mi_X8_arrange 69 = some (.iinc 1 1, 3, 1, 0, .int (1)) := by decide +kernel
theorem fe_X8_arrange_72 : mj_f mi_X8_arrange 72 = some (.goto (-65), 3, 7, 0, .null) := by decide +kernel
theorem fe_X8_arrange_75 : mj_f mi_X8_arrange 75 = some (.return_, 1, 0, 0, .null) := by decide +kernel
def ct_X8_rankOf : MJT := [
  (0, 0, .iconst 0, 1, 0, 0, .int (0)),
  (1, 0, .istore_n 3, 1, 3, 0, .null),
  (2, 0, .aload_n 0, 1, 0, 0, .null),
  (3, 142, .getfield 26, 3, 8, 4, .int 0),
  (6, 0, .istore 4, 2, 4, 0, .null),
  (8, 0, .iconst 0, 1, 0, 0, .int (0)),
  (9, 0, .istore 5, 2, 5, 0, .null),
  (11, 0, .iload 5, 2, 5, 0, .null),
  (13, 0, .bipush 32, 2, 0, 0, .int (32)),
  (15, 0, .if_icmp .ge 46, 3, 61, 0, .null),
  (18, 0, .iload_n 3, 1, 3, 0, .null),
  (19, 0, .iload 4, 2, 4, 0, .null),
  (21, 0, .if_icmp .ge 40, 3, 61, 0, .null),
  (24, 0, .iload_n 3, 1, 3, 0, .null),
  (25, 0, .iload 4, 2, 4, 0, .null),
  (27, 0, .iadd, 1, 0, 0, .null),
  (28, 0, .iconst 2, 1, 0, 0, .int (2)),
  (29, 0, .idiv, 1, 0, 0, .null),
  (30, 0, .istore 6, 2, 6, 0, .null),
  (32, 0, .aload_n 0, 1, 0, 0, .null),
  (33, 0, .iload 6, 2, 6, 0, .null),
  (35, 709, .invokevirtual 54, 3, 111, 1, .null),
  (38, 0, .lload_n 1, 1, 1, 0, .null),
  (39, 0, .lcmp, 1, 0, 0, .null),
  (40, 0, .ifCond .ge 11, 3, 51, 0, .null),
  (43, 0, .iload 6, 2, 6, 0, .null),
  (45, 0, .iconst 1, 1, 0, 0, .int (1)),
  (46, 0, .iadd, 1, 0, 0, .null),
  (47, 0, .istore_n 3, 1, 3, 0, .null),
  (48, 0, .goto 7, 3, 55, 0, .null),
  (51, 0, .iload 6, 2, 6, 0, .null),
  (53, 0, .istore 4, 2, 4, 0, .null),
  (55, 0, .iinc 5 1, 3, 5, 0, .int (1)),
  (58, 0, .goto (-47), 3, 11, 0, .null),
  (61, 0, .iload_n 3, 1, 3, 0, .null),
  (62, 0, .ireturn, 1, 0, 0, .null)]
abbrev id_X8_rankOf : Nat := 118
def mi_X8_rankOf : MI := (yX8_rankOf, cX8_rankOf, 7, (some .int), 8, ct_X8_rankOf)
theorem fe_X8_rankOf_0 : mj_f mi_X8_rankOf 0 = some (.iconst 0, 1, 0, 0, .int (0)) := by decide +kernel
theorem fe_X8_rankOf_1 : mj_f mi_X8_rankOf 1 = some (.istore_n 3, 1, 3, 0, .null) := by decide +kernel
theorem fe_X8_rankOf_2 : mj_f mi_X8_rankOf 2 = some (.aload_n 0, 1, 0, 0, .null) := by decide +kernel
theorem fe_X8_rankOf_3 : mj_f mi_X8_rankOf 3 = some (.getfield 26, 3, 8, 4, .int 0) := by decide +kernel
theorem fe_X8_rankOf_6 : mj_f mi_X8_rankOf 6 = some (.istore 4, 2, 4, 0, .null) := by decide +kernel
theorem fe_X8_rankOf_8 : mj_f mi_X8_rankOf 8 = some (.iconst 0, 1, 0, 0, .int (0)) := by decide +kernel
theorem fe_X8_rankOf_9 : mj_f mi_X8_rankOf 9 = some (.istore 5, 2, 5, 0, .null) := by decide +kernel
theorem fe_X8_rankOf_11 : mj_f mi_X8_rankOf 11 = some (.iload 5, 2, 5, 0, .null) := by decide +kernel
theorem fe_X8_rankOf_13 : mj_f mi_X8_rankOf 13 = some (.bipush 32, 2, 0, 0, .int (32)) := by decide +kernel
theorem fe_X8_rankOf_15 : mj_f mi_X8_rankOf 15 = some (.if_icmp .ge 46, 3, 61, 0, .null) := by decide +kernel
theorem fe_X8_rankOf_18 : mj_f mi_X8_rankOf 18 = some (.iload_n 3, 1, 3, 0, .null) := by decide +kernel
theorem fe_X8_rankOf_19 : mj_f mi_X8_rankOf 19 = some (.iload 4, 2, 4, 0, .null) := by decide +kernel
theorem fe_X8_rankOf_21 : mj_f mi_X8_rankOf 21 = some (.if_icmp .ge 40, 3, 61, 0, .null) := by decide +kernel
theorem fe_X8_rankOf_24 : mj_f mi_X8_rankOf 24 = some (.iload_n 3, 1, 3, 0, .null) := by decide +kernel
theorem fe_X8_rankOf_25 : mj_f mi_X8_rankOf 25 = some (.iload 4, 2, 4, 0, .null) := by decide +kernel
theorem fe_X8_rankOf_27 : mj_f mi_X8_rankOf 27 = some (.iadd, 1, 0, 0, .null) := by decide +kernel
theorem fe_X8_rankOf_28 : mj_f mi_X8_rankOf 28 = some (.iconst 2, 1, 0, 0, .int (2)) := by decide +kernel
theorem fe_X8_rankOf_29 : mj_f mi_X8_rankOf 29 = some (.idiv, 1, 0, 0, .null) := by decide +kernel
theorem fe_X8_rankOf_30 : mj_f mi_X8_rankOf 30 = some (.istore 6, 2, 6, 0, .null) := by decide +kernel
theorem fe_X8_rankOf_32 : mj_f mi_X8_rankOf 32 = some (.aload_n 0, 1, 0, 0, .null) := by decide +kernel
theorem fe_X8_rankOf_33 : mj_f mi_X8_rankOf 33 = some (.iload 6, 2, 6, 0, .null) := by decide +kernel
theorem fe_X8_rankOf_35 : mj_f mi_X8_rankOf 35 = some (.invokevirtual 54, 3, 111, 1, .null) := by decide +kernel
theorem fe_X8_rankOf_38 : mj_f mi_X8_rankOf 38 = some (.lload_n 1, 1, 1, 0, .null) := by decide +kernel
theorem fe_X8_rankOf_39 : mj_f mi_X8_rankOf 39 = some (.lcmp, 1, 0, 0, .null) := by decide +kernel
theorem fe_X8_rankOf_40 : mj_f mi_X8_rankOf 40 = some (.ifCond .ge 11, 3, 51, 0, .null) := by decide +kernel
theorem fe_X8_rankOf_43 : mj_f mi_X8_rankOf 43 = some (.iload 6, 2, 6, 0, .null) := by decide +kernel
theorem fe_X8_rankOf_45 : mj_f mi_X8_rankOf 45 = some (.iconst 1, 1, 0, 0, .int (1)) := by decide +kernel
theorem fe_X8_rankOf_46 : mj_f mi_X8_rankOf 46 = some (.iadd, 1, 0, 0, .null) := by decide +kernel
theorem fe_X8_rankOf_47 : mj_f mi_X8_rankOf 47 = some (.istore_n 3, 1, 3, 0, .null) := by decide +kernel
theorem fe_X8_rankOf_48 : mj_f mi_X8_rankOf 48 = some (.goto 7, 3, 55, 0, .null) := by decide +kernel
theorem fe_X8_rankOf_51 : mj_f mi_X8_rankOf 51 = some (.iload 6, 2, 6, 0, .null) := by decide +kernel
theorem fe_X8_rankOf_53 : mj_f mi_X8_rankOf 53 = some (.istore 4, 2, 4, 0, .null) := by decide +kernel
theorem fe_X8_rankOf_55 : mj_f mi_X8_rankOf 55 = some (.iinc 5 1, 3, 5, 0, .int (1)) := by decide +kernel
theorem fe_X8_rankOf_58 : mj_f mi_X8_rankOf 58 = some (.goto (-47), 3, 11, 0, .null) := by decide +kernel
theorem fe_X8_rankOf_61 : mj_f mi_X8_rankOf 61 = some (.iload_n 3, 1, 3, 0, .null) := by decide +kernel
theorem fe_X8_rankOf_62 : mj_f mi_X8_rankOf 62 = some (.ireturn, 1, 0, 0, .null) := by decide +kernel
def ct_X8_insert : MJT := [
  (0, 0, .iload_n 1, 1, 1, 0, .null),
  (1, 0, .ifCond .lt 35, 3, 36, 0, .null),
  (4, 0, .iload_n 1, 1, 1, 0, .null),
  (5, 0, .aload_n 0, 1, 0, 0, .null),
  (6, 142, .getfield 26, 3, 8, 4, .int 0),
  (9, 0, .if_icmp .gt 27, 3, 36, 0, .null),
  (12, 0, .aload_n 0, 1, 0, 0, .null),
  (13, 142, .getfield 26, 3, 8, 4, .int 0),
  (16, 0, .aload_n 0, 1, 0, 0, .null),
  (17, 139, .getfield 15, 3, 8, 1, .null),
  (20, 0, .arraylength, 1, 0, 0, .null),
  (21, 0, .if_icmp .ge 15, 3, 36, 0, .null),
  (24, 0, .aload_n 0, 1, 0, 0, .null),
  (25, 142, .getfield 26, 3, 8, 4, .int 0),
  (28, 0, .aload_n 0, 1, 0, 0, .null),
  (29, 140, .getfield 18, 3, 8, 2, .null),
  (32, 0, .arraylength, 1, 0, 0, .null),
  (33, 0, .if_icmp .lt 4, 3, 37, 0, .null),
  (36, 0, .return_, 1, 0, 0, .null),
  (37, 0, .aload_n 0, 1, 0, 0, .null),
  (38, 139, .getfield 15, 3, 8, 1, .null),
  (41, 0, .iload_n 1, 1, 1, 0, .null),
  (42, 0, .aload_n 0, 1, 0, 0, .null),
  (43, 139, .getfield 15, 3, 8, 1, .null),
  (46, 0, .iload_n 1, 1, 1, 0, .null),
  (47, 0, .iconst 1, 1, 0, 0, .int (1)),
  (48, 0, .iadd, 1, 0, 0, .null),
  (49, 0, .aload_n 0, 1, 0, 0, .null),
  (50, 142, .getfield 26, 3, 8, 4, .int 0),
  (53, 0, .iload_n 1, 1, 1, 0, .null),
  (54, 0, .isub, 1, 0, 0, .null),
  (55, 717, .invokestatic 61, 3, 1001, 0, .null),
  (58, 0, .aload_n 0, 1, 0, 0, .null),
  (59, 140, .getfield 18, 3, 8, 2, .null),
  (62, 0, .iload_n 1, 1, 1, 0, .null),
  (63, 0, .aload_n 0, 1, 0, 0, .null),
  (64, 140, .getfield 18, 3, 8, 2, .null),
  (67, 0, .iload_n 1, 1, 1, 0, .null),
  (68, 0, .iconst 1, 1, 0, 0, .int (1)),
  (69, 0, .iadd, 1, 0, 0, .null),
  (70, 0, .aload_n 0, 1, 0, 0, .null),
  (71, 142, .getfield 26, 3, 8, 4, .int 0),
  (74, 0, .iload_n 1, 1, 1, 0, .null),
  (75, 0, .isub, 1, 0, 0, .null),
  (76, 717, .invokestatic 61, 3, 1001, 0, .null),
  (79, 0, .aload_n 0, 1, 0, 0, .null),
  (80, 139, .getfield 15, 3, 8, 1, .null),
  (83, 0, .iload_n 1, 1, 1, 0, .null),
  (84, 0, .lload_n 2, 1, 2, 0, .null),
  (85, 0, .lastore, 1, 0, 0, .null),
  (86, 0, .aload_n 0, 1, 0, 0, .null),
  (87, 140, .getfield 18, 3, 8, 2, .null),
  (90, 0, .iload_n 1, 1, 1, 0, .null),
  (91, 0, .iconst 1, 1, 0, 0, .int (1)),
  (92, 0, .iastore, 1, 0, 0, .null),
  (93, 0, .aload_n 0, 1, 0, 0, .null),
  (94, 0, .dup, 1, 0, 0, .null),
  (95, 142, .getfield 26, 3, 8, 4, .int 0),
  (98, 0, .iconst 1, 1, 0, 0, .int (1)),
  (99, 0, .iadd, 1, 0, 0, .null),
  (100, 142, .putfield 26, 3, 8, 4, .int 0),
  (103, 0, .return_, 1, 0, 0, .null)]
abbrev id_X8_insert : Nat := 119
def mi_X8_insert : MI := (yX8_insert, cX8_insert, 4, none, 8, ct_X8_insert)
theorem fe_X8_insert_0 : mj_f mi_X8_insert 0 = some (.iload_n 1, 1, 1, 0, .null) := by decide +kernel
theorem fe_X8_insert_1 : mj_f mi_X8_insert 1 = some (.ifCond .lt 35, 3, 36, 0, .null) := by decide +kernel
theorem fe_X8_insert_4 : mj_f mi_X8_insert 4 = some (.iload_n 1, 1, 1, 0, .null) := by decide +kernel
theorem fe_X8_insert_5 : mj_f mi_X8_insert 5 = some (.aload_n 0, 1, 0, 0, .null) := by decide +kernel
theorem fe_X8_insert_6 : mj_f mi_X8_insert 6 = some (.getfield 26, 3, 8, 4, .int 0) := by decide +kernel
theorem fe_X8_insert_9 : mj_f mi_X8_insert 9 = some (.if_icmp .gt 27, 3, 36, 0, .null) := by decide +kernel
theorem fe_X8_insert_12 : mj_f mi_X8_insert 12 = some (.aload_n 0, 1, 0, 0, .null) := by decide +kernel
theorem fe_X8_insert_13 : mj_f mi_X8_insert 13 = some (.getfield 26, 3, 8, 4, .int 0) := by decide +kernel
theorem fe_X8_insert_16 : mj_f mi_X8_insert 16 = some (.aload_n 0, 1, 0, 0, .null) := by decide +kernel
theorem fe_X8_insert_17 : mj_f mi_X8_insert 17 = some (.getfield 15, 3, 8, 1, .null) := by decide +kernel
theorem fe_X8_insert_20 : mj_f mi_X8_insert 20 = some (.arraylength, 1, 0, 0, .null) := by decide +kernel
theorem fe_X8_insert_21 : mj_f mi_X8_insert 21 = some (.if_icmp .ge 15, 3, 36, 0, .null) := by decide +kernel
theorem fe_X8_insert_24 : mj_f mi_X8_insert 24 = some (.aload_n 0, 1, 0, 0, .null) := by decide +kernel
theorem fe_X8_insert_25 : mj_f mi_X8_insert 25 = some (.getfield 26, 3, 8, 4, .int 0) := by decide +kernel
theorem fe_X8_insert_28 : mj_f mi_X8_insert 28 = some (.aload_n 0, 1, 0, 0, .null) := by decide +kernel
theorem fe_X8_insert_29 : mj_f mi_X8_insert 29 = some (.getfield 18, 3, 8, 2, .null) := by decide +kernel
theorem fe_X8_insert_32 : mj_f mi_X8_insert 32 = some (.arraylength, 1, 0, 0, .null) := by decide +kernel
theorem fe_X8_insert_33 : mj_f mi_X8_insert 33 = some (.if_icmp .lt 4, 3, 37, 0, .null) := by decide +kernel
theorem fe_X8_insert_36 : mj_f mi_X8_insert 36 = some (.return_, 1, 0, 0, .null) := by decide +kernel
theorem fe_X8_insert_37 : mj_f mi_X8_insert 37 = some (.aload_n 0, 1, 0, 0, .null) := by decide +kernel
theorem fe_X8_insert_38 : mj_f mi_X8_insert 38 = some (.getfield 15, 3, 8, 1, .null) := by decide +kernel
theorem fe_X8_insert_41 : mj_f mi_X8_insert 41 = some (.iload_n 1, 1, 1, 0, .null) := by decide +kernel
theorem fe_X8_insert_42 : mj_f mi_X8_insert 42 = some (.aload_n 0, 1, 0, 0, .null) := by decide +kernel
theorem fe_X8_insert_43 : mj_f mi_X8_insert 43 = some (.getfield 15, 3, 8, 1, .null) := by decide +kernel
theorem fe_X8_insert_46 : mj_f mi_X8_insert 46 = some (.iload_n 1, 1, 1, 0, .null) := by decide +kernel
theorem fe_X8_insert_47 : mj_f mi_X8_insert 47 = some (.iconst 1, 1, 0, 0, .int (1)) := by decide +kernel
theorem fe_X8_insert_48 : mj_f mi_X8_insert 48 = some (.iadd, 1, 0, 0, .null) := by decide +kernel
theorem fe_X8_insert_49 : mj_f mi_X8_insert 49 = some (.aload_n 0, 1, 0, 0, .null) := by decide +kernel
theorem fe_X8_insert_50 : mj_f mi_X8_insert 50 = some (.getfield 26, 3, 8, 4, .int 0) := by decide +kernel
theorem fe_X8_insert_53 : mj_f mi_X8_insert 53 = some (.iload_n 1, 1, 1, 0, .null) := by decide +kernel
theorem fe_X8_insert_54 : mj_f mi_X8_insert 54 = some (.isub, 1, 0, 0, .null) := by decide +kernel
theorem fe_X8_insert_55 : mj_f mi_X8_insert 55 = some (.invokestatic 61, 3, 1001, 0, .null) := by decide +kernel
theorem fe_X8_insert_58 : mj_f mi_X8_insert 58 = some (.aload_n 0, 1, 0, 0, .null) := by decide +kernel
theorem fe_X8_insert_59 : mj_f mi_X8_insert 59 = some (.getfield 18, 3, 8, 2, .null) := by decide +kernel
theorem fe_X8_insert_62 : mj_f mi_X8_insert 62 = some (.iload_n 1, 1, 1, 0, .null) := by decide +kernel
theorem fe_X8_insert_63 : mj_f mi_X8_insert 63 = some (.aload_n 0, 1, 0, 0, .null) := by decide +kernel
theorem fe_X8_insert_64 : mj_f mi_X8_insert 64 = some (.getfield 18, 3, 8, 2, .null) := by decide +kernel
theorem fe_X8_insert_67 : mj_f mi_X8_insert 67 = some (.iload_n 1, 1, 1, 0, .null) := by decide +kernel
theorem fe_X8_insert_68 : mj_f mi_X8_insert 68 = some (.iconst 1, 1, 0, 0, .int (1)) := by decide +kernel
theorem fe_X8_insert_69 : mj_f mi_X8_insert 69 = some (.iadd, 1, 0, 0, .null) := by decide +kernel
theorem fe_X8_insert_70 : mj_f mi_X8_insert 70 = some (.aload_n 0, 1, 0, 0, .null) := by decide +kernel
theorem fe_X8_insert_71 : mj_f mi_X8_insert 71 = some (.getfield 26, 3, 8, 4, .int 0) := by decide +kernel
theorem fe_X8_insert_74 : mj_f mi_X8_insert 74 = some (.iload_n 1, 1, 1, 0, .null) := by decide +kernel
theorem fe_X8_insert_75 : mj_f mi_X8_insert 75 = some (.isub, 1, 0, 0, .null) := by decide +kernel
theorem fe_X8_insert_76 : mj_f mi_X8_insert 76 = some (.invokestatic 61, 3, 1001, 0, .null) := by decide +kernel
theorem fe_X8_insert_79 : mj_f mi_X8_insert 79 = some (.aload_n 0, 1, 0, 0, .null) := by decide +kernel
theorem fe_X8_insert_80 : mj_f mi_X8_insert 80 = some (.getfield 15, 3, 8, 1, .null) := by decide +kernel
theorem fe_X8_insert_83 : mj_f mi_X8_insert 83 = some (.iload_n 1, 1, 1, 0, .null) := by decide +kernel
theorem fe_X8_insert_84 : mj_f mi_X8_insert 84 = some (.lload_n 2, 1, 2, 0, .null) := by decide +kernel
theorem fe_X8_insert_85 : mj_f mi_X8_insert 85 = some (.lastore, 1, 0, 0, .null) := by decide +kernel
theorem fe_X8_insert_86 : mj_f mi_X8_insert 86 = some (.aload_n 0, 1, 0, 0, .null) := by decide +kernel
theorem fe_X8_insert_87 : mj_f mi_X8_insert 87 = some (.getfield 18, 3, 8, 2, .null) := by decide +kernel
theorem fe_X8_insert_90 : mj_f mi_X8_insert 90 = some (.iload_n 1, 1, 1, 0, .null) := by decide +kernel
theorem fe_X8_insert_91 : mj_f mi_X8_insert 91 = some (.iconst 1, 1, 0, 0, .int (1)) := by decide +kernel
theorem fe_X8_insert_92 : mj_f mi_X8_insert 92 = some (.iastore, 1, 0, 0, .null) := by decide +kernel
theorem fe_X8_insert_93 : mj_f mi_X8_insert 93 = some (.aload_n 0, 1, 0, 0, .null) := by decide +kernel
theorem fe_X8_insert_94 : mj_f mi_X8_insert 94 = some (.dup, 1, 0, 0, .null) := by decide +kernel
theorem fe_X8_insert_95 : mj_f mi_X8_insert 95 = some (.getfield 26, 3, 8, 4, .int 0) := by decide +kernel
theorem fe_X8_insert_98 : mj_f mi_X8_insert 98 = some (.iconst 1, 1, 0, 0, .int (1)) := by decide +kernel
theorem fe_X8_insert_99 : mj_f mi_X8_insert 99 = some (.iadd, 1, 0, 0, .null) := by decide +kernel
theorem fe_X8_insert_100 : mj_f mi_X8_insert 100 = some (.putfield 26, 3, 8, 4, .int 0) := by decide +kernel
theorem fe_X8_insert_103 : mj_f mi_X8_insert 103 = some (.return_, 1, 0, 0, .null) := by decide +kernel
def ct_X8_least : MJT := [
  (0, 0, .aload_n 0, 1, 0, 0, .null),
  (1, 141, .getfield 22, 3, 8, 3, .int 0),
  (4, 0, .ifCond .le 12, 3, 16, 0, .null),
  (7, 0, .aload_n 0, 1, 0, 0, .null),
  (8, 138, .getfield 9, 3, 8, 0, .null),
  (11, 0, .iconst 0, 1, 0, 0, .int (0)),
  (12, 0, .laload, 1, 0, 0, .null),
  (13, 0, .goto 4, 3, 17, 0, .null),
  (16, 0, .lconst 0, 1, 0, 0, .long 0),
  (17, 0, .lstore_n 1, 1, 1, 0, .null),
  (18, 0, .iconst 1, 1, 0, 0, .int (1)),
  (19, 0, .istore_n 3, 1, 3, 0, .null),
  (20, 0, .iload_n 3, 1, 3, 0, .null),
  (21, 0, .aload_n 0, 1, 0, 0, .null),
  (22, 141, .getfield 22, 3, 8, 3, .int 0),
  (25, 0, .if_icmp .ge 29, 3, 54, 0, .null),
  (28, 0, .iload_n 3, 1, 3, 0, .null),
  (29, 0, .aload_n 0, 1, 0, 0, .null),
  (30, 138, .getfield 9, 3, 8, 0, .null),
  (33, 0, .arraylength, 1, 0, 0, .null),
  (34, 0, .if_icmp .ge 20, 3, 54, 0, .null),
  (37, 0, .lload_n 1, 1, 1, 0, .null),
  (38, 0, .aload_n 0, 1, 0, 0, .null),
  (39, 138, .getfield 9, 3, 8, 0, .null),
  (42, 0, .iload_n 3, 1, 3, 0, .null),
  (43, 0, .laload, 1, 0, 0, .null),
  (44, 737, .invokestatic 67, 3, 263, 2, .null),
  (47, 0, .lstore_n 1, 1, 1, 0, .null),
  (48, 0, .iinc 3 1, 3, 3, 0, .int (1)),
  (51, 0, .goto (-31), 3, 20, 0, .null),
  (54, 0, .lload_n 1, 1, 1, 0, .null),
  (55, 0, .lreturn, 1, 0, 0, .null)]
abbrev id_X8_least : Nat := 120
def mi_X8_least : MI := (yX8_least, cX8_least, 4, (some .long), 8, ct_X8_least)
theorem fe_X8_least_0 : mj_f mi_X8_least 0 = some (.aload_n 0, 1, 0, 0, .null) := by decide +kernel
theorem fe_X8_least_1 : mj_f mi_X8_least 1 = some (.getfield 22, 3, 8, 3, .int 0) := by decide +kernel
theorem fe_X8_least_4 : mj_f mi_X8_least 4 = some (.ifCond .le 12, 3, 16, 0, .null) := by decide +kernel
theorem fe_X8_least_7 : mj_f mi_X8_least 7 = some (.aload_n 0, 1, 0, 0, .null) := by decide +kernel
theorem fe_X8_least_8 : mj_f mi_X8_least 8 = some (.getfield 9, 3, 8, 0, .null) := by decide +kernel
theorem fe_X8_least_11 : mj_f mi_X8_least 11 = some (.iconst 0, 1, 0, 0, .int (0)) := by decide +kernel
theorem fe_X8_least_12 : mj_f mi_X8_least 12 = some (.laload, 1, 0, 0, .null) := by decide +kernel
theorem fe_X8_least_13 : mj_f mi_X8_least 13 = some (.goto 4, 3, 17, 0, .null) := by decide +kernel
theorem fe_X8_least_16 : mj_f mi_X8_least 16 = some (.lconst 0, 1, 0, 0, .long 0) := by decide +kernel
theorem fe_X8_least_17 : mj_f mi_X8_least 17 = some (.lstore_n 1, 1, 1, 0, .null) := by decide +kernel
theorem fe_X8_least_18 : mj_f mi_X8_least 18 = some (.iconst 1, 1, 0, 0, .int (1)) := by decide +kernel
theorem fe_X8_least_19 : mj_f mi_X8_least 19 = some (.istore_n 3, 1, 3, 0, .null) := by decide +kernel
theorem fe_X8_least_20 : mj_f mi_X8_least 20 = some (.iload_n 3, 1, 3, 0, .null) := by decide +kernel
theorem fe_X8_least_21 : mj_f mi_X8_least 21 = some (.aload_n 0, 1, 0, 0, .null) := by decide +kernel
theorem fe_X8_least_22 : mj_f mi_X8_least 22 = some (.getfield 22, 3, 8, 3, .int 0) := by decide +kernel
theorem fe_X8_least_25 : mj_f mi_X8_least 25 = some (.if_icmp .ge 29, 3, 54, 0, .null) := by decide +kernel
theorem fe_X8_least_28 : mj_f mi_X8_least 28 = some (.iload_n 3, 1, 3, 0, .null) := by decide +kernel
theorem fe_X8_least_29 : mj_f mi_X8_least 29 = some (.aload_n 0, 1, 0, 0, .null) := by decide +kernel
theorem fe_X8_least_30 : mj_f mi_X8_least 30 = some (.getfield 9, 3, 8, 0, .null) := by decide +kernel
theorem fe_X8_least_33 : mj_f mi_X8_least 33 = some (.arraylength, 1, 0, 0, .null) := by decide +kernel
theorem fe_X8_least_34 : mj_f mi_X8_least 34 = some (.if_icmp .ge 20, 3, 54, 0, .null) := by decide +kernel
theorem fe_X8_least_37 : mj_f mi_X8_least 37 = some (.lload_n 1, 1, 1, 0, .null) := by decide +kernel
theorem fe_X8_least_38 : mj_f mi_X8_least 38 = some (.aload_n 0, 1, 0, 0, .null) := by decide +kernel
theorem fe_X8_least_39 : mj_f mi_X8_least 39 = some (.getfield 9, 3, 8, 0, .null) := by decide +kernel
theorem fe_X8_least_42 : mj_f mi_X8_least 42 = some (.iload_n 3, 1, 3, 0, .null) := by decide +kernel
theorem fe_X8_least_43 : mj_f mi_X8_least 43 = some (.laload, 1, 0, 0, .null) := by decide +kernel
theorem fe_X8_least_44 : mj_f mi_X8_least 44 = some (.invokestatic 67, 3, 263, 2, .null) := by decide +kernel
theorem fe_X8_least_47 : mj_f mi_X8_least 47 = some (.lstore_n 1, 1, 1, 0, .null) := by decide +kernel
theorem fe_X8_least_48 : mj_f mi_X8_least 48 = some (.iinc 3 1, 3, 3, 0, .int (1)) := by decide +kernel
theorem fe_X8_least_51 : mj_f mi_X8_least 51 = some (.goto (-31), 3, 20, 0, .null) := by decide +kernel
theorem fe_X8_least_54 : mj_f mi_X8_least 54 = some (.lload_n 1, 1, 1, 0, .null) := by decide +kernel
theorem fe_X8_least_55 : mj_f mi_X8_least 55 = some (.lreturn, 1, 0, 0, .null) := by decide +kernel
def ct_X8_width : MJT := [
  (0, 0, .lload_n 1, 1, 1, 0, .null),
  (1, 0, .lstore_n 3, 1, 3, 0, .null),
  (2, 0, .iconst 0, 1, 0, 0, .int (0)),
  (3, 0, .istore 5, 2, 5, 0, .null),
  (5, 0, .iload 5, 2, 5, 0, .null),
  (7, 0, .aload_n 0, 1, 0, 0, .null),
  (8, 141, .getfield 22, 3, 8, 3, .int 0),
  (11, 0, .if_icmp .ge 31, 3, 42, 0, .null),
  (14, 0, .iload 5, 2, 5, 0, .null),
  (16, 0, .aload_n 0, 1, 0, 0, .null),
  (17, 138, .getfield 9, 3, 8, 0, .null),
  (20, 0, .arraylength, 1, 0, 0, .null),
  (21, 0, .if_icmp .ge 21, 3, 42, 0, .null),
  (24, 0, .lload_n 3, 1, 3, 0, .null),
  (25, 0, .aload_n 0, 1, 0, 0, .null),
  (26, 138, .getfield 9, 3, 8, 0, .null),
  (29, 0, .iload 5, 2, 5, 0, .null),
  (31, 0, .laload, 1, 0, 0, .null),
  (32, 750, .invokestatic 73, 3, 261, 2, .null),
  (35, 0, .lstore_n 3, 1, 3, 0, .null),
  (36, 0, .iinc 5 1, 3, 5, 0, .int (1)),
  (39, 0, .goto (-34), 3, 5, 0, .null),
  (42, 0, .bipush 64, 2, 0, 0, .int (64)),
  (44, 0, .lload_n 3, 1, 3, 0, .null),
  (45, 0, .lload_n 1, 1, 1, 0, .null),
  (46, 0, .lsub, 1, 0, 0, .null),
  (47, 753, .invokestatic 76, 3, 258, 1, .null),
  (50, 0, .isub, 1, 0, 0, .null),
  (51, 0, .ireturn, 1, 0, 0, .null)]
abbrev id_X8_width : Nat := 121
def mi_X8_width : MI := (yX8_width, cX8_width, 6, (some .int), 8, ct_X8_width)
theorem fe_X8_width_0 : mj_f mi_X8_width 0 = some (.lload_n 1, 1, 1, 0, .null) := by decide +kernel
theorem fe_X8_width_1 : mj_f mi_X8_width 1 = some (.lstore_n 3, 1, 3, 0, .null) := by decide +kernel
theorem fe_X8_width_2 : mj_f mi_X8_width 2 = some (.iconst 0, 1, 0, 0, .int (0)) := by decide +kernel
theorem fe_X8_width_3 : mj_f mi_X8_width 3 = some (.istore 5, 2, 5, 0, .null) := by decide +kernel
theorem fe_X8_width_5 : mj_f mi_X8_width 5 = some (.iload 5, 2, 5, 0, .null) := by decide +kernel
theorem fe_X8_width_7 : mj_f mi_X8_width 7 = some (.aload_n 0, 1, 0, 0, .null) := by decide +kernel
theorem fe_X8_width_8 : mj_f mi_X8_width 8 = some (.getfield 22, 3, 8, 3, .int 0) := by decide +kernel
theorem fe_X8_width_11 : mj_f mi_X8_width 11 = some (.if_icmp .ge 31, 3, 42, 0, .null) := by decide +kernel
theorem fe_X8_width_14 : mj_f mi_X8_width 14 = some (.iload 5, 2, 5, 0, .null) := by decide +kernel
theorem fe_X8_width_16 : mj_f mi_X8_width 16 = some (.aload_n 0, 1, 0, 0, .null) := by decide +kernel
theorem fe_X8_width_17 : mj_f mi_X8_width 17 = some (.getfield 9, 3, 8, 0, .null) := by decide +kernel
theorem fe_X8_width_20 : mj_f mi_X8_width 20 = some (.arraylength, 1, 0, 0, .null) := by decide +kernel
theorem fe_X8_width_21 : mj_f mi_X8_width 21 = some (.if_icmp .ge 21, 3, 42, 0, .null) := by decide +kernel
theorem fe_X8_width_24 : mj_f mi_X8_width 24 = some (.lload_n 3, 1, 3, 0, .null) := by decide +kernel
theorem fe_X8_width_25 : mj_f mi_X8_width 25 = some (.aload_n 0, 1, 0, 0, .null) := by decide +kernel
theorem fe_X8_width_26 : mj_f mi_X8_width 26 = some (.getfield 9, 3, 8, 0, .null) := by decide +kernel
theorem fe_X8_width_29 : mj_f mi_X8_width 29 = some (.iload 5, 2, 5, 0, .null) := by decide +kernel
theorem fe_X8_width_31 : mj_f mi_X8_width 31 = some (.laload, 1, 0, 0, .null) := by decide +kernel
theorem fe_X8_width_32 : mj_f mi_X8_width 32 = some (.invokestatic 73, 3, 261, 2, .null) := by decide +kernel
theorem fe_X8_width_35 : mj_f mi_X8_width 35 = some (.lstore_n 3, 1, 3, 0, .null) := by decide +kernel
theorem fe_X8_width_36 : mj_f mi_X8_width 36 = some (.iinc 5 1, 3, 5, 0, .int (1)) := by decide +kernel
theorem fe_X8_width_39 : mj_f mi_X8_width 39 = some (.goto (-34), 3, 5, 0, .null) := by decide +kernel
theorem fe_X8_width_42 : mj_f mi_X8_width 42 = some (.bipush 64, 2, 0, 0, .int (64)) := by decide +kernel
theorem fe_X8_width_44 : mj_f mi_X8_width 44 = some (.lload_n 3, 1, 3, 0, .null) := by decide +kernel
theorem fe_X8_width_45 : mj_f mi_X8_width 45 = some (.lload_n 1, 1, 1, 0, .null) := by decide +kernel
theorem fe_X8_width_46 : mj_f mi_X8_width 46 = some (.lsub, 1, 0, 0, .null) := by decide +kernel
theorem fe_X8_width_47 : mj_f mi_X8_width 47 = some (.invokestatic 76, 3, 258, 1, .null) := by decide +kernel
theorem fe_X8_width_50 : mj_f mi_X8_width 50 = some (.isub, 1, 0, 0, .null) := by decide +kernel
theorem fe_X8_width_51 : mj_f mi_X8_width 51 = some (.ireturn, 1, 0, 0, .null) := by decide +kernel
def ct_X8_narrowLength : MJT := [
  (0, 0, .aload_n 0, 1, 0, 0, .null),
  (1, 733, .invokevirtual 81, 3, 120, 0, .null),
  (4, 0, .lstore_n 1, 1, 1, 0, .null),
  (5, 0, .iconst 2, 1, 0, 0, .int (2)),
  (6, 0, .lload_n 1, 1, 1, 0, .null),
  (7, 740, .invokestatic 85, 3, 174, 1, .int 1),
  (10, 743, .invokestatic 89, 3, 176, 1, .int 1),
  (13, 0, .iadd, 1, 0, 0, .null),
  (14, 0, .aload_n 0, 1, 0, 0, .null),
  (15, 141, .getfield 22, 3, 8, 3, .int 0),
  (18, 0, .aload_n 0, 1, 0, 0, .null),
  (19, 0, .lload_n 1, 1, 1, 0, .null),
  (20, 746, .invokevirtual 92, 3, 121, 1, .null),
  (23, 754, .invokestatic 95, 3, 177, 2, .int 1),
  (26, 0, .iadd, 1, 0, 0, .null),
  (27, 0, .ireturn, 1, 0, 0, .null)]
abbrev id_X8_narrowLength : Nat := 122
def mi_X8_narrowLength : MI := (yX8_narrowLength, cX8_narrowLength, 3, (some .int), 8, ct_X8_narrowLength)
theorem fe_X8_narrowLength_0 : mj_f mi_X8_narrowLength 0 = some (.aload_n 0, 1, 0, 0, .null) := by decide +kernel
theorem fe_X8_narrowLength_1 : mj_f mi_X8_narrowLength 1 = some (.invokevirtual 81, 3, 120, 0, .null) := by decide +kernel
theorem fe_X8_narrowLength_4 : mj_f mi_X8_narrowLength 4 = some (.lstore_n 1, 1, 1, 0, .null) := by decide +kernel
theorem fe_X8_narrowLength_5 : mj_f mi_X8_narrowLength 5 = some (.iconst 2, 1, 0, 0, .int (2)) := by decide +kernel
theorem fe_X8_narrowLength_6 : mj_f mi_X8_narrowLength 6 = some (.lload_n 1, 1, 1, 0, .null) := by decide +kernel
theorem fe_X8_narrowLength_7 : mj_f mi_X8_narrowLength 7 = some (.invokestatic 85, 3, 174, 1, .int 1) := by decide +kernel
theorem fe_X8_narrowLength_10 : mj_f mi_X8_narrowLength 10 = some (.invokestatic 89, 3, 176, 1, .int 1) := by decide +kernel
theorem fe_X8_narrowLength_13 : mj_f mi_X8_narrowLength 13 = some (.iadd, 1, 0, 0, .null) := by decide +kernel
theorem fe_X8_narrowLength_14 : mj_f mi_X8_narrowLength 14 = some (.aload_n 0, 1, 0, 0, .null) := by decide +kernel
theorem fe_X8_narrowLength_15 : mj_f mi_X8_narrowLength 15 = some (.getfield 22, 3, 8, 3, .int 0) := by decide +kernel
theorem fe_X8_narrowLength_18 : mj_f mi_X8_narrowLength 18 = some (.aload_n 0, 1, 0, 0, .null) := by decide +kernel
theorem fe_X8_narrowLength_19 : mj_f mi_X8_narrowLength 19 = some (.lload_n 1, 1, 1, 0, .null) := by decide +kernel
theorem fe_X8_narrowLength_20 : mj_f mi_X8_narrowLength 20 = some (.invokevirtual 92, 3, 121, 1, .null) := by decide +kernel
theorem fe_X8_narrowLength_23 : mj_f mi_X8_narrowLength 23 = some (.invokestatic 95, 3, 177, 2, .int 1) := by decide +kernel
theorem fe_X8_narrowLength_26 : mj_f mi_X8_narrowLength 26 = some (.iadd, 1, 0, 0, .null) := by decide +kernel
theorem fe_X8_narrowLength_27 : mj_f mi_X8_narrowLength 27 = some (.ireturn, 1, 0, 0, .null) := by decide +kernel
def ct_X8_isRising : MJT := [
  (0, 0, .iconst 1, 1, 0, 0, .int (1)),
  (1, 0, .istore_n 1, 1, 1, 0, .null),
  (2, 0, .iload_n 1, 1, 1, 0, .null),
  (3, 0, .aload_n 0, 1, 0, 0, .null),
  (4, 141, .getfield 22, 3, 8, 3, .int 0),
  (7, 0, .if_icmp .ge 27, 3, 34, 0, .null),
  (10, 0, .aload_n 0, 1, 0, 0, .null),
  (11, 0, .iload_n 1, 1, 1, 0, .null),
  (12, 612, .invokevirtual 49, 3, 109, 1, .null),
  (15, 0, .aload_n 0, 1, 0, 0, .null),
  (16, 0, .iload_n 1, 1, 1, 0, .null),
  (17, 0, .iconst 1, 1, 0, 0, .int (1)),
  (18, 0, .isub, 1, 0, 0, .null),
  (19, 612, .invokevirtual 49, 3, 109, 1, .null),
  (22, 0, .lcmp, 1, 0, 0, .null),
  (23, 0, .ifCond .gt 5, 3, 28, 0, .null),
  (26, 0, .iconst 0, 1, 0, 0, .int (0)),
  (27, 0, .ireturn, 1, 0, 0, .null),
  (28, 0, .iinc 1 1, 3, 1, 0, .int (1)),
  (31, 0, .goto (-29), 3, 2, 0, .null),
  (34, 0, .iconst 1, 1, 0, 0, .int (1)),
  (35, 0, .ireturn, 1, 0, 0, .null)]
abbrev id_X8_isRising : Nat := 123
def mi_X8_isRising : MI := (yX8_isRising, cX8_isRising, 2, (some .boolean), 8, ct_X8_isRising)
theorem fe_X8_isRising_0 : mj_f mi_X8_isRising 0 = some (.iconst 1, 1, 0, 0, .int (1)) := by decide +kernel
theorem fe_X8_isRising_1 : mj_f mi_X8_isRising 1 = some (.istore_n 1, 1, 1, 0, .null) := by decide +kernel
theorem fe_X8_isRising_2 : mj_f mi_X8_isRising 2 = some (.iload_n 1, 1, 1, 0, .null) := by decide +kernel
theorem fe_X8_isRising_3 : mj_f mi_X8_isRising 3 = some (.aload_n 0, 1, 0, 0, .null) := by decide +kernel
theorem fe_X8_isRising_4 : mj_f mi_X8_isRising 4 = some (.getfield 22, 3, 8, 3, .int 0) := by decide +kernel
theorem fe_X8_isRising_7 : mj_f mi_X8_isRising 7 = some (.if_icmp .ge 27, 3, 34, 0, .null) := by decide +kernel
theorem fe_X8_isRising_10 : mj_f mi_X8_isRising 10 = some (.aload_n 0, 1, 0, 0, .null) := by decide +kernel
theorem fe_X8_isRising_11 : mj_f mi_X8_isRising 11 = some (.iload_n 1, 1, 1, 0, .null) := by decide +kernel
theorem fe_X8_isRising_12 : mj_f mi_X8_isRising 12 = some (.invokevirtual 49, 3, 109, 1, .null) := by decide +kernel
theorem fe_X8_isRising_15 : mj_f mi_X8_isRising 15 = some (.aload_n 0, 1, 0, 0, .null) := by decide +kernel
theorem fe_X8_isRising_16 : mj_f mi_X8_isRising 16 = some (.iload_n 1, 1, 1, 0, .null) := by decide +kernel
theorem fe_X8_isRising_17 : mj_f mi_X8_isRising 17 = some (.iconst 1, 1, 0, 0, .int (1)) := by decide +kernel
theorem fe_X8_isRising_18 : mj_f mi_X8_isRising 18 = some (.isub, 1, 0, 0, .null) := by decide +kernel
theorem fe_X8_isRising_19 : mj_f mi_X8_isRising 19 = some (.invokevirtual 49, 3, 109, 1, .null) := by decide +kernel
theorem fe_X8_isRising_22 : mj_f mi_X8_isRising 22 = some (.lcmp, 1, 0, 0, .null) := by decide +kernel
theorem fe_X8_isRising_23 : mj_f mi_X8_isRising 23 = some (.ifCond .gt 5, 3, 28, 0, .null) := by decide +kernel
theorem fe_X8_isRising_26 : mj_f mi_X8_isRising 26 = some (.iconst 0, 1, 0, 0, .int (0)) := by decide +kernel
theorem fe_X8_isRising_27 : mj_f mi_X8_isRising 27 = some (.ireturn, 1, 0, 0, .null) := by decide +kernel
theorem fe_X8_isRising_28 : mj_f mi_X8_isRising 28 = some (.iinc 1 1, 3, 1, 0, .int (1)) := by decide +kernel
theorem fe_X8_isRising_31 : mj_f mi_X8_isRising 31 = some (.goto (-29), 3, 2, 0, .null) := by decide +kernel
theorem fe_X8_isRising_34 : mj_f mi_X8_isRising 34 = some (.iconst 1, 1, 0, 0, .int (1)) := by decide +kernel
theorem fe_X8_isRising_35 : mj_f mi_X8_isRising 35 = some (.ireturn, 1, 0, 0, .null) := by decide +kernel
def ct_X8_divisor : MJT := [
  (0, 0, .lconst 0, 1, 0, 0, .long 0),
  (1, 0, .lstore_n 1, 1, 1, 0, .null),
  (2, 0, .iconst 0, 1, 0, 0, .int (0)),
  (3, 0, .istore_n 3, 1, 3, 0, .null),
  (4, 0, .iload_n 3, 1, 3, 0, .null),
  (5, 0, .aload_n 0, 1, 0, 0, .null),
  (6, 141, .getfield 22, 3, 8, 3, .int 0),
  (9, 0, .if_icmp .ge 37, 3, 46, 0, .null),
  (12, 0, .aload_n 0, 1, 0, 0, .null),
  (13, 0, .iload_n 3, 1, 3, 0, .null),
  (14, 612, .invokevirtual 49, 3, 109, 1, .null),
  (17, 0, .lstore 4, 2, 4, 0, .null),
  (19, 0, .lload 4, 2, 4, 0, .null),
  (21, 812, .ldc2_w 99, 3, 0, 0, .long (-9223372036854775808)),
  (24, 0, .lcmp, 1, 0, 0, .null),
  (25, 0, .ifCond .ne 5, 3, 30, 0, .null),
  (28, 0, .lconst 0, 1, 0, 0, .long 0),
  (29, 0, .lreturn, 1, 0, 0, .null),
  (30, 0, .lload_n 1, 1, 1, 0, .null),
  (31, 0, .lload 4, 2, 4, 0, .null),
  (33, 813, .invokestatic 101, 3, 259, 1, .null),
  (36, 816, .invokestatic 104, 3, 125, 2, .null),
  (39, 0, .lstore_n 1, 1, 1, 0, .null),
  (40, 0, .iinc 3 1, 3, 3, 0, .int (1)),
  (43, 0, .goto (-39), 3, 4, 0, .null),
  (46, 0, .lload_n 1, 1, 1, 0, .null),
  (47, 0, .lreturn, 1, 0, 0, .null)]
abbrev id_X8_divisor : Nat := 124
def mi_X8_divisor : MI := (yX8_divisor, cX8_divisor, 6, (some .long), 8, ct_X8_divisor)
theorem fe_X8_divisor_0 : mj_f mi_X8_divisor 0 = some (.lconst 0, 1, 0, 0, .long 0) := by decide +kernel
theorem fe_X8_divisor_1 : mj_f mi_X8_divisor 1 = some (.lstore_n 1, 1, 1, 0, .null) := by decide +kernel
theorem fe_X8_divisor_2 : mj_f mi_X8_divisor 2 = some (.iconst 0, 1, 0, 0, .int (0)) := by decide +kernel
theorem fe_X8_divisor_3 : mj_f mi_X8_divisor 3 = some (.istore_n 3, 1, 3, 0, .null) := by decide +kernel
theorem fe_X8_divisor_4 : mj_f mi_X8_divisor 4 = some (.iload_n 3, 1, 3, 0, .null) := by decide +kernel
theorem fe_X8_divisor_5 : mj_f mi_X8_divisor 5 = some (.aload_n 0, 1, 0, 0, .null) := by decide +kernel
theorem fe_X8_divisor_6 : mj_f mi_X8_divisor 6 = some (.getfield 22, 3, 8, 3, .int 0) := by decide +kernel
theorem fe_X8_divisor_9 : mj_f mi_X8_divisor 9 = some (.if_icmp .ge 37, 3, 46, 0, .null) := by decide +kernel
theorem fe_X8_divisor_12 : mj_f mi_X8_divisor 12 = some (.aload_n 0, 1, 0, 0, .null) := by decide +kernel
theorem fe_X8_divisor_13 : mj_f mi_X8_divisor 13 = some (.iload_n 3, 1, 3, 0, .null) := by decide +kernel
theorem fe_X8_divisor_14 : mj_f mi_X8_divisor 14 = some (.invokevirtual 49, 3, 109, 1, .null) := by decide +kernel
theorem fe_X8_divisor_17 : mj_f mi_X8_divisor 17 = some (.lstore 4, 2, 4, 0, .null) := by decide +kernel
theorem fe_X8_divisor_19 : mj_f mi_X8_divisor 19 = some (.lload 4, 2, 4, 0, .null) := by decide +kernel
theorem fe_X8_divisor_21 : mj_f mi_X8_divisor 21 = some (.ldc2_w 99, 3, 0, 0, .long (-9223372036854775808)) := by decide +kernel
theorem fe_X8_divisor_24 : mj_f mi_X8_divisor 24 = some (.lcmp, 1, 0, 0, .null) := by decide +kernel
theorem fe_X8_divisor_25 : mj_f mi_X8_divisor 25 = some (.ifCond .ne 5, 3, 30, 0, .null) := by decide +kernel
theorem fe_X8_divisor_28 : mj_f mi_X8_divisor 28 = some (.lconst 0, 1, 0, 0, .long 0) := by decide +kernel
theorem fe_X8_divisor_29 : mj_f mi_X8_divisor 29 = some (.lreturn, 1, 0, 0, .null) := by decide +kernel
theorem fe_X8_divisor_30 : mj_f mi_X8_divisor 30 = some (.lload_n 1, 1, 1, 0, .null) := by decide +kernel
theorem fe_X8_divisor_31 : mj_f mi_X8_divisor 31 = some (.lload 4, 2, 4, 0, .null) := by decide +kernel
theorem fe_X8_divisor_33 : mj_f mi_X8_divisor 33 = some (.invokestatic 101, 3, 259, 1, .null) := by decide +kernel
theorem fe_X8_divisor_36 : mj_f mi_X8_divisor 36 = some (.invokestatic 104, 3, 125, 2, .null) := by decide +kernel
theorem fe_X8_divisor_39 : mj_f mi_X8_divisor 39 = some (.lstore_n 1, 1, 1, 0, .null) := by decide +kernel
theorem fe_X8_divisor_40 : mj_f mi_X8_divisor 40 = some (.iinc 3 1, 3, 3, 0, .int (1)) := by decide +kernel
theorem fe_X8_divisor_43 : mj_f mi_X8_divisor 43 = some (.goto (-39), 3, 4, 0, .null) := by decide +kernel
theorem fe_X8_divisor_46 : mj_f mi_X8_divisor 46 = some (.lload_n 1, 1, 1, 0, .null) := by decide +kernel
theorem fe_X8_divisor_47 : mj_f mi_X8_divisor 47 = some (.lreturn, 1, 0, 0, .null) := by decide +kernel
def ct_X8_commonOf : MJT := [
  (0, 0, .lload_n 0, 1, 0, 0, .null),
  (1, 0, .lstore 4, 2, 4, 0, .null),
  (3, 0, .lload_n 2, 1, 2, 0, .null),
  (4, 0, .lstore 6, 2, 6, 0, .null),
  (6, 0, .iconst 0, 1, 0, 0, .int (0)),
  (7, 0, .istore 8, 2, 8, 0, .null),
  (9, 0, .iload 8, 2, 8, 0, .null),
  (11, 0, .sipush 128, 3, 0, 0, .int (128)),
  (14, 0, .if_icmp .ge 31, 3, 45, 0, .null),
  (17, 0, .lload 6, 2, 6, 0, .null),
  (19, 0, .lconst 0, 1, 0, 0, .long 0),
  (20, 0, .lcmp, 1, 0, 0, .null),
  (21, 0, .ifCond .eq 24, 3, 45, 0, .null),
  (24, 0, .lload 4, 2, 4, 0, .null),
  (26, 0, .lload 6, 2, 6, 0, .null),
  (28, 0, .lrem, 1, 0, 0, .null),
  (29, 0, .lstore 9, 2, 9, 0, .null),
  (31, 0, .lload 6, 2, 6, 0, .null),
  (33, 0, .lstore 4, 2, 4, 0, .null),
  (35, 0, .lload 9, 2, 9, 0, .null),
  (37, 0, .lstore 6, 2, 6, 0, .null),
  (39, 0, .iinc 8 1, 3, 8, 0, .int (1)),
  (42, 0, .goto (-33), 3, 9, 0, .null),
  (45, 0, .lload 4, 2, 4, 0, .null),
  (47, 0, .lreturn, 1, 0, 0, .null)]
abbrev id_X8_commonOf : Nat := 125
def mi_X8_commonOf : MI := (yX8_commonOf, cX8_commonOf, 11, (some .long), 8, ct_X8_commonOf)
theorem fe_X8_commonOf_0 : mj_f mi_X8_commonOf 0 = some (.lload_n 0, 1, 0, 0, .null) := by decide +kernel
theorem fe_X8_commonOf_1 : mj_f mi_X8_commonOf 1 = some (.lstore 4, 2, 4, 0, .null) := by decide +kernel
theorem fe_X8_commonOf_3 : mj_f mi_X8_commonOf 3 = some (.lload_n 2, 1, 2, 0, .null) := by decide +kernel
theorem fe_X8_commonOf_4 : mj_f mi_X8_commonOf 4 = some (.lstore 6, 2, 6, 0, .null) := by decide +kernel
theorem fe_X8_commonOf_6 : mj_f mi_X8_commonOf 6 = some (.iconst 0, 1, 0, 0, .int (0)) := by decide +kernel
theorem fe_X8_commonOf_7 : mj_f mi_X8_commonOf 7 = some (.istore 8, 2, 8, 0, .null) := by decide +kernel
theorem fe_X8_commonOf_9 : mj_f mi_X8_commonOf 9 = some (.iload 8, 2, 8, 0, .null) := by decide +kernel
theorem fe_X8_commonOf_11 : mj_f mi_X8_commonOf 11 = some (.sipush 128, 3, 0, 0, .int (128)) := by decide +kernel
theorem fe_X8_commonOf_14 : mj_f mi_X8_commonOf 14 = some (.if_icmp .ge 31, 3, 45, 0, .null) := by decide +kernel
theorem fe_X8_commonOf_17 : mj_f mi_X8_commonOf 17 = some (.lload 6, 2, 6, 0, .null) := by decide +kernel
theorem fe_X8_commonOf_19 : mj_f mi_X8_commonOf 19 = some (.lconst 0, 1, 0, 0, .long 0) := by decide +kernel
theorem fe_X8_commonOf_20 : mj_f mi_X8_commonOf 20 = some (.lcmp, 1, 0, 0, .null) := by decide +kernel
theorem fe_X8_commonOf_21 : mj_f mi_X8_commonOf 21 = some (.ifCond .eq 24, 3, 45, 0, .null) := by decide +kernel
theorem fe_X8_commonOf_24 : mj_f mi_X8_commonOf 24 = some (.lload 4, 2, 4, 0, .null) := by decide +kernel
theorem fe_X8_commonOf_26 : mj_f mi_X8_commonOf 26 = some (.lload 6, 2, 6, 0, .null) := by decide +kernel
theorem fe_X8_commonOf_28 : mj_f mi_X8_commonOf 28 = some (.lrem, 1, 0, 0, .null) := by decide +kernel
theorem fe_X8_commonOf_29 : mj_f mi_X8_commonOf 29 = some (.lstore 9, 2, 9, 0, .null) := by decide +kernel
theorem fe_X8_commonOf_31 : mj_f mi_X8_commonOf 31 = some (.lload 6, 2, 6, 0, .null) := by decide +kernel
theorem fe_X8_commonOf_33 : mj_f mi_X8_commonOf 33 = some (.lstore 4, 2, 4, 0, .null) := by decide +kernel
theorem fe_X8_commonOf_35 : mj_f mi_X8_commonOf 35 = some (.lload 9, 2, 9, 0, .null) := by decide +kernel
theorem fe_X8_commonOf_37 : mj_f mi_X8_commonOf 37 = some (.lstore 6, 2, 6, 0, .null) := by decide +kernel
theorem fe_X8_commonOf_39 : mj_f mi_X8_commonOf 39 = some (.iinc 8 1, 3, 8, 0, .int (1)) := by decide +kernel
theorem fe_X8_commonOf_42 : mj_f mi_X8_commonOf 42 = some (.goto (-33), 3, 9, 0, .null) := by decide +kernel
theorem fe_X8_commonOf_45 : mj_f mi_X8_commonOf 45 = some (.lload 4, 2, 4, 0, .null) := by decide +kernel
theorem fe_X8_commonOf_47 : mj_f mi_X8_commonOf 47 = some (.lreturn, 1, 0, 0, .null) := by decide +kernel
def ct_X8_becomeTurned : MJT := [
  (0, 0, .aload_n 0, 1, 0, 0, .null),
  (1, 611, .invokevirtual 29, 3, 113, 0, .null),
  (4, 0, .iload_n 2, 1, 2, 0, .null),
  (5, 0, .tableswitch 139 3 5 #[27, 75, 111], 27, 0, 0, .null),
  (32, 0, .iconst 0, 1, 0, 0, .int (0)),
  (33, 0, .istore_n 3, 1, 3, 0, .null),
  (34, 0, .iload_n 3, 1, 3, 0, .null),
  (35, 0, .aload_n 1, 1, 1, 0, .null),
  (36, 141, .getfield 22, 3, 8, 3, .int 0),
  (39, 0, .if_icmp .ge 38, 3, 77, 0, .null),
  (42, 0, .aload_n 0, 1, 0, 0, .null),
  (43, 0, .iload_n 3, 1, 3, 0, .null),
  (44, 0, .ifCond .ne 11, 3, 55, 0, .null),
  (47, 0, .aload_n 1, 1, 1, 0, .null),
  (48, 0, .iconst 0, 1, 0, 0, .int (0)),
  (49, 612, .invokevirtual 49, 3, 109, 1, .null),
  (52, 0, .goto 16, 3, 68, 0, .null),
  (55, 0, .aload_n 1, 1, 1, 0, .null),
  (56, 0, .iload_n 3, 1, 3, 0, .null),
  (57, 612, .invokevirtual 49, 3, 109, 1, .null),
  (60, 0, .aload_n 1, 1, 1, 0, .null),
  (61, 0, .iload_n 3, 1, 3, 0, .null),
  (62, 0, .iconst 1, 1, 0, 0, .int (1)),
  (63, 0, .isub, 1, 0, 0, .null),
  (64, 612, .invokevirtual 49, 3, 109, 1, .null),
  (67, 0, .lsub, 1, 0, 0, .null),
  (68, 613, .invokevirtual 45, 3, 114, 1, .null),
  (71, 0, .iinc 3 1, 3, 3, 0, .int (1)),
  (74, 0, .goto (-40), 3, 34, 0, .null),
  (77, 0, .goto 76, 3, 153, 0, .null),
  (80, 0, .iconst 0, 1, 0, 0, .int (0)),
  (81, 0, .istore_n 3, 1, 3, 0, .null),
  (82, 0, .iload_n 3, 1, 3, 0, .null),
  (83, 0, .aload_n 1, 1, 1, 0, .null),
  (84, 141, .getfield 22, 3, 8, 3, .int 0),
  (87, 0, .if_icmp .ge 26, 3, 113, 0, .null),
  (90, 0, .aload_n 1, 1, 1, 0, .null),
  (91, 0, .iload_n 3, 1, 3, 0, .null),
  (92, 799, .invokevirtual 107, 3, 128, 1, .null),
  (95, 0, .ifCond .eq 12, 3, 107, 0, .null),
  (98, 0, .aload_n 0, 1, 0, 0, .null),
  (99, 0, .aload_n 1, 1, 1, 0, .null),
  (100, 0, .iload_n 3, 1, 3, 0, .null),
  (101, 612, .invokevirtual 49, 3, 109, 1, .null),
  (104, 613, .invokevirtual 45, 3, 114, 1, .null),
  (107, 0, .iinc 3 1, 3, 3, 0, .int (1)),
  (110, 0, .goto (-28), 3, 82, 0, .null),
  (113, 0, .goto 40, 3, 153, 0, .null),
  (116, 0, .iconst 0, 1, 0, 0, .int (0)),
  (117, 0, .istore_n 3, 1, 3, 0, .null),
  (118, 0, .iload_n 3, 1, 3, 0, .null),
  (119, 0, .aload_n 1, 1, 1, 0, .null),
  (120, 142, .getfield 26, 3, 8, 4, .int 0),
  (123, 0, .if_icmp .ge 18, 3, 141, 0, .null),
  (126, 0, .aload_n 0, 1, 0, 0, .null),
  (127, 0, .aload_n 1, 1, 1, 0, .null),
  (128, 0, .iload_n 3, 1, 3, 0, .null),
  (129, 709, .invokevirtual 54, 3, 111, 1, .null),
  (132, 613, .invokevirtual 45, 3, 114, 1, .null),
  (135, 0, .iinc 3 1, 3, 3, 0, .int (1)),
  (138, 0, .goto (-20), 3, 118, 0, .null),
  (141, 0, .goto 12, 3, 153, 0, .null),
  (144, 0, .aload_n 0, 1, 0, 0, .null),
  (145, 0, .aload_n 1, 1, 1, 0, .null),
  (146, 0, .aload_n 1, 1, 1, 0, .null),
  (147, 823, .invokevirtual 110, 3, 124, 0, .null),
  (150, 824, .invokevirtual 113, 3, 127, 2, .null),
  (153, 0, .return_, 1, 0, 0, .null)]
abbrev id_X8_becomeTurned : Nat := 126
def mi_X8_becomeTurned : MI := (yX8_becomeTurned, cX8_becomeTurned, 4, none, 8, ct_X8_becomeTurned)
theorem fe_X8_becomeTurned_0 : mj_f mi_X8_becomeTurned 0 = some (.aload_n 0, 1, 0, 0, .null) := by decide +kernel
theorem fe_X8_becomeTurned_1 : mj_f mi_X8_becomeTurned 1 = some (.invokevirtual 29, 3, 113, 0, .null) := by decide +kernel
theorem fe_X8_becomeTurned_4 : mj_f mi_X8_becomeTurned 4 = some (.iload_n 2, 1, 2, 0, .null) := by decide +kernel
theorem fe_X8_becomeTurned_5 : mj_f mi_X8_becomeTurned 5 = some (.tableswitch 139 3 5 #[27, 75, 111], 27, 0, 0, .null) := by decide +kernel
theorem fe_X8_becomeTurned_32 : mj_f mi_X8_becomeTurned 32 = some (.iconst 0, 1, 0, 0, .int (0)) := by decide +kernel
theorem fe_X8_becomeTurned_33 : mj_f mi_X8_becomeTurned 33 = some (.istore_n 3, 1, 3, 0, .null) := by decide +kernel
theorem fe_X8_becomeTurned_34 : mj_f mi_X8_becomeTurned 34 = some (.iload_n 3, 1, 3, 0, .null) := by decide +kernel
theorem fe_X8_becomeTurned_35 : mj_f mi_X8_becomeTurned 35 = some (.aload_n 1, 1, 1, 0, .null) := by decide +kernel
theorem fe_X8_becomeTurned_36 : mj_f mi_X8_becomeTurned 36 = some (.getfield 22, 3, 8, 3, .int 0) := by decide +kernel
theorem fe_X8_becomeTurned_39 : mj_f mi_X8_becomeTurned 39 = some (.if_icmp .ge 38, 3, 77, 0, .null) := by decide +kernel
theorem fe_X8_becomeTurned_42 : mj_f mi_X8_becomeTurned 42 = some (.aload_n 0, 1, 0, 0, .null) := by decide +kernel
theorem fe_X8_becomeTurned_43 : mj_f mi_X8_becomeTurned 43 = some (.iload_n 3, 1, 3, 0, .null) := by decide +kernel
theorem fe_X8_becomeTurned_44 : mj_f mi_X8_becomeTurned 44 = some (.ifCond .ne 11, 3, 55, 0, .null) := by decide +kernel
theorem fe_X8_becomeTurned_47 : mj_f mi_X8_becomeTurned 47 = some (.aload_n 1, 1, 1, 0, .null) := by decide +kernel
theorem fe_X8_becomeTurned_48 : mj_f mi_X8_becomeTurned 48 = some (.iconst 0, 1, 0, 0, .int (0)) := by decide +kernel
theorem fe_X8_becomeTurned_49 : mj_f mi_X8_becomeTurned 49 = some (.invokevirtual 49, 3, 109, 1, .null) := by decide +kernel
theorem fe_X8_becomeTurned_52 : mj_f mi_X8_becomeTurned 52 = some (.goto 16, 3, 68, 0, .null) := by decide +kernel
theorem fe_X8_becomeTurned_55 : mj_f mi_X8_becomeTurned 55 = some (.aload_n 1, 1, 1, 0, .null) := by decide +kernel
theorem fe_X8_becomeTurned_56 : mj_f mi_X8_becomeTurned 56 = some (.iload_n 3, 1, 3, 0, .null) := by decide +kernel
theorem fe_X8_becomeTurned_57 : mj_f mi_X8_becomeTurned 57 = some (.invokevirtual 49, 3, 109, 1, .null) := by decide +kernel
theorem fe_X8_becomeTurned_60 : mj_f mi_X8_becomeTurned 60 = some (.aload_n 1, 1, 1, 0, .null) := by decide +kernel
theorem fe_X8_becomeTurned_61 : mj_f mi_X8_becomeTurned 61 = some (.iload_n 3, 1, 3, 0, .null) := by decide +kernel
theorem fe_X8_becomeTurned_62 : mj_f mi_X8_becomeTurned 62 = some (.iconst 1, 1, 0, 0, .int (1)) := by decide +kernel
theorem fe_X8_becomeTurned_63 : mj_f mi_X8_becomeTurned 63 = some (.isub, 1, 0, 0, .null) := by decide +kernel
theorem fe_X8_becomeTurned_64 : mj_f mi_X8_becomeTurned 64 = some (.invokevirtual 49, 3, 109, 1, .null) := by decide +kernel
theorem fe_X8_becomeTurned_67 : mj_f mi_X8_becomeTurned 67 = some (.lsub, 1, 0, 0, .null) := by decide +kernel
theorem fe_X8_becomeTurned_68 : mj_f mi_X8_becomeTurned 68 = some (.invokevirtual 45, 3, 114, 1, .null) := by decide +kernel
theorem fe_X8_becomeTurned_71 : mj_f mi_X8_becomeTurned 71 = some (.iinc 3 1, 3, 3, 0, .int (1)) := by decide +kernel
theorem fe_X8_becomeTurned_74 : mj_f mi_X8_becomeTurned 74 = some (.goto (-40), 3, 34, 0, .null) := by decide +kernel
theorem fe_X8_becomeTurned_77 : mj_f mi_X8_becomeTurned 77 = some (.goto 76, 3, 153, 0, .null) := by decide +kernel
theorem fe_X8_becomeTurned_80 : mj_f mi_X8_becomeTurned 80 = some (.iconst 0, 1, 0, 0, .int (0)) := by decide +kernel
theorem fe_X8_becomeTurned_81 : mj_f mi_X8_becomeTurned 81 = some (.istore_n 3, 1, 3, 0, .null) := by decide +kernel
theorem fe_X8_becomeTurned_82 : mj_f mi_X8_becomeTurned 82 = some (.iload_n 3, 1, 3, 0, .null) := by decide +kernel
theorem fe_X8_becomeTurned_83 : mj_f mi_X8_becomeTurned 83 = some (.aload_n 1, 1, 1, 0, .null) := by decide +kernel
theorem fe_X8_becomeTurned_84 : mj_f mi_X8_becomeTurned 84 = some (.getfield 22, 3, 8, 3, .int 0) := by decide +kernel
theorem fe_X8_becomeTurned_87 : mj_f mi_X8_becomeTurned 87 = some (.if_icmp .ge 26, 3, 113, 0, .null) := by decide +kernel
theorem fe_X8_becomeTurned_90 : mj_f mi_X8_becomeTurned 90 = some (.aload_n 1, 1, 1, 0, .null) := by decide +kernel
theorem fe_X8_becomeTurned_91 : mj_f mi_X8_becomeTurned 91 = some (.iload_n 3, 1, 3, 0, .null) := by decide +kernel
theorem fe_X8_becomeTurned_92 : mj_f mi_X8_becomeTurned 92 = some (.invokevirtual 107, 3, 128, 1, .null) := by decide +kernel
theorem fe_X8_becomeTurned_95 : mj_f mi_X8_becomeTurned 95 = some (.ifCond .eq 12, 3, 107, 0, .null) := by decide +kernel
theorem fe_X8_becomeTurned_98 : mj_f mi_X8_becomeTurned 98 = some (.aload_n 0, 1, 0, 0, .null) := by decide +kernel
theorem fe_X8_becomeTurned_99 : mj_f mi_X8_becomeTurned 99 = some (.aload_n 1, 1, 1, 0, .null) := by decide +kernel
theorem fe_X8_becomeTurned_100 : mj_f mi_X8_becomeTurned 100 = some (.iload_n 3, 1, 3, 0, .null) := by decide +kernel
theorem fe_X8_becomeTurned_101 : mj_f mi_X8_becomeTurned 101 = some (.invokevirtual 49, 3, 109, 1, .null) := by decide +kernel
theorem fe_X8_becomeTurned_104 : mj_f mi_X8_becomeTurned 104 = some (.invokevirtual 45, 3, 114, 1, .null) := by decide +kernel
theorem fe_X8_becomeTurned_107 : mj_f mi_X8_becomeTurned 107 = some (.iinc 3 1, 3, 3, 0, .int (1)) := by decide +kernel
theorem fe_X8_becomeTurned_110 : mj_f mi_X8_becomeTurned 110 = some (.goto (-28), 3, 82, 0, .null) := by decide +kernel
theorem fe_X8_becomeTurned_113 : mj_f mi_X8_becomeTurned 113 = some (.goto 40, 3, 153, 0, .null) := by decide +kernel
theorem fe_X8_becomeTurned_116 : mj_f mi_X8_becomeTurned 116 = some (.iconst 0, 1, 0, 0, .int (0)) := by decide +kernel
theorem fe_X8_becomeTurned_117 : mj_f mi_X8_becomeTurned 117 = some (.istore_n 3, 1, 3, 0, .null) := by decide +kernel
theorem fe_X8_becomeTurned_118 : mj_f mi_X8_becomeTurned 118 = some (.iload_n 3, 1, 3, 0, .null) := by decide +kernel
theorem fe_X8_becomeTurned_119 : mj_f mi_X8_becomeTurned 119 = some (.aload_n 1, 1, 1, 0, .null) := by decide +kernel
theorem fe_X8_becomeTurned_120 : mj_f mi_X8_becomeTurned 120 = some (.getfield 26, 3, 8, 4, .int 0) := by decide +kernel
theorem fe_X8_becomeTurned_123 : mj_f mi_X8_becomeTurned 123 = some (.if_icmp .ge 18, 3, 141, 0, .null) := by decide +kernel
theorem fe_X8_becomeTurned_126 : mj_f mi_X8_becomeTurned 126 = some (.aload_n 0, 1, 0, 0, .null) := by decide +kernel
theorem fe_X8_becomeTurned_127 : mj_f mi_X8_becomeTurned 127 = some (.aload_n 1, 1, 1, 0, .null) := by decide +kernel
theorem fe_X8_becomeTurned_128 : mj_f mi_X8_becomeTurned 128 = some (.iload_n 3, 1, 3, 0, .null) := by decide +kernel
theorem fe_X8_becomeTurned_129 : mj_f mi_X8_becomeTurned 129 = some (.invokevirtual 54, 3, 111, 1, .null) := by decide +kernel
theorem fe_X8_becomeTurned_132 : mj_f mi_X8_becomeTurned 132 = some (.invokevirtual 45, 3, 114, 1, .null) := by decide +kernel
theorem fe_X8_becomeTurned_135 : mj_f mi_X8_becomeTurned 135 = some (.iinc 3 1, 3, 3, 0, .int (1)) := by decide +kernel
theorem fe_X8_becomeTurned_138 : mj_f mi_X8_becomeTurned 138 = some (.goto (-20), 3, 118, 0, .null) := by decide +kernel
theorem fe_X8_becomeTurned_141 : mj_f mi_X8_becomeTurned 141 = some (.goto 12, 3, 153, 0, .null) := by decide +kernel
theorem fe_X8_becomeTurned_144 : mj_f mi_X8_becomeTurned 144 = some (.aload_n 0, 1, 0, 0, .null) := by decide +kernel
theorem fe_X8_becomeTurned_145 : mj_f mi_X8_becomeTurned 145 = some (.aload_n 1, 1, 1, 0, .null) := by decide +kernel
theorem fe_X8_becomeTurned_146 : mj_f mi_X8_becomeTurned 146 = some (.aload_n 1, 1, 1, 0, .null) := by decide +kernel
theorem fe_X8_becomeTurned_147 : mj_f mi_X8_becomeTurned 147 = some (.invokevirtual 110, 3, 124, 0, .null) := by decide +kernel
theorem fe_X8_becomeTurned_150 : mj_f mi_X8_becomeTurned 150 = some (.invokevirtual 113, 3, 127, 2, .null) := by decide +kernel
theorem fe_X8_becomeTurned_153 : mj_f mi_X8_becomeTurned 153 = some (.return_, 1, 0, 0, .null) := by decide +kernel
def ct_X8_becomeShares : MJT := [
  (0, 0, .lload_n 2, 1, 2, 0, .null),
  (1, 828, .ldc2_w 117, 3, 0, 0, .long (2)),
  (4, 0, .lcmp, 1, 0, 0, .null),
  (5, 0, .ifCond .ge 4, 3, 9, 0, .null),
  (8, 0, .return_, 1, 0, 0, .null),
  (9, 0, .iconst 0, 1, 0, 0, .int (0)),
  (10, 0, .istore 4, 2, 4, 0, .null),
  (12, 0, .iload 4, 2, 4, 0, .null),
  (14, 0, .aload_n 1, 1, 1, 0, .null),
  (15, 141, .getfield 22, 3, 8, 3, .int 0),
  (18, 0, .if_icmp .ge 21, 3, 39, 0, .null),
  (21, 0, .aload_n 0, 1, 0, 0, .null),
  (22, 0, .aload_n 1, 1, 1, 0, .null),
  (23, 0, .iload 4, 2, 4, 0, .null),
  (25, 612, .invokevirtual 49, 3, 109, 1, .null),
  (28, 0, .lload_n 2, 1, 2, 0, .null),
  (29, 0, .ldiv, 1, 0, 0, .null),
  (30, 613, .invokevirtual 45, 3, 114, 1, .null),
  (33, 0, .iinc 4 1, 3, 4, 0, .int (1)),
  (36, 0, .goto (-24), 3, 12, 0, .null),
  (39, 0, .return_, 1, 0, 0, .null)]
abbrev id_X8_becomeShares : Nat := 127
def mi_X8_becomeShares : MI := (yX8_becomeShares, cX8_becomeShares, 5, none, 8, ct_X8_becomeShares)
theorem fe_X8_becomeShares_0 : mj_f mi_X8_becomeShares 0 = some (.lload_n 2, 1, 2, 0, .null) := by decide +kernel
theorem fe_X8_becomeShares_1 : mj_f mi_X8_becomeShares 1 = some (.ldc2_w 117, 3, 0, 0, .long (2)) := by decide +kernel
theorem fe_X8_becomeShares_4 : mj_f mi_X8_becomeShares 4 = some (.lcmp, 1, 0, 0, .null) := by decide +kernel
theorem fe_X8_becomeShares_5 : mj_f mi_X8_becomeShares 5 = some (.ifCond .ge 4, 3, 9, 0, .null) := by decide +kernel
theorem fe_X8_becomeShares_8 : mj_f mi_X8_becomeShares 8 = some (.return_, 1, 0, 0, .null) := by decide +kernel
theorem fe_X8_becomeShares_9 : mj_f mi_X8_becomeShares 9 = some (.iconst 0, 1, 0, 0, .int (0)) := by decide +kernel
theorem fe_X8_becomeShares_10 : mj_f mi_X8_becomeShares 10 = some (.istore 4, 2, 4, 0, .null) := by decide +kernel
theorem fe_X8_becomeShares_12 : mj_f mi_X8_becomeShares 12 = some (.iload 4, 2, 4, 0, .null) := by decide +kernel
theorem fe_X8_becomeShares_14 : mj_f mi_X8_becomeShares 14 = some (.aload_n 1, 1, 1, 0, .null) := by decide +kernel
theorem fe_X8_becomeShares_15 : mj_f mi_X8_becomeShares 15 = some (.getfield 22, 3, 8, 3, .int 0) := by decide +kernel
theorem fe_X8_becomeShares_18 : mj_f mi_X8_becomeShares 18 = some (.if_icmp .ge 21, 3, 39, 0, .null) := by decide +kernel
theorem fe_X8_becomeShares_21 : mj_f mi_X8_becomeShares 21 = some (.aload_n 0, 1, 0, 0, .null) := by decide +kernel
theorem fe_X8_becomeShares_22 : mj_f mi_X8_becomeShares 22 = some (.aload_n 1, 1, 1, 0, .null) := by decide +kernel
theorem fe_X8_becomeShares_23 : mj_f mi_X8_becomeShares 23 = some (.iload 4, 2, 4, 0, .null) := by decide +kernel
theorem fe_X8_becomeShares_25 : mj_f mi_X8_becomeShares 25 = some (.invokevirtual 49, 3, 109, 1, .null) := by decide +kernel
theorem fe_X8_becomeShares_28 : mj_f mi_X8_becomeShares 28 = some (.lload_n 2, 1, 2, 0, .null) := by decide +kernel
theorem fe_X8_becomeShares_29 : mj_f mi_X8_becomeShares 29 = some (.ldiv, 1, 0, 0, .null) := by decide +kernel
theorem fe_X8_becomeShares_30 : mj_f mi_X8_becomeShares 30 = some (.invokevirtual 45, 3, 114, 1, .null) := by decide +kernel
theorem fe_X8_becomeShares_33 : mj_f mi_X8_becomeShares 33 = some (.iinc 4 1, 3, 4, 0, .int (1)) := by decide +kernel
theorem fe_X8_becomeShares_36 : mj_f mi_X8_becomeShares 36 = some (.goto (-24), 3, 12, 0, .null) := by decide +kernel
theorem fe_X8_becomeShares_39 : mj_f mi_X8_becomeShares 39 = some (.return_, 1, 0, 0, .null) := by decide +kernel
def ct_X8_beginsRun : MJT := [
  (0, 0, .iload_n 1, 1, 1, 0, .null),
  (1, 0, .iconst 1, 1, 0, 0, .int (1)),
  (2, 0, .if_icmp .lt 38, 3, 40, 0, .null),
  (5, 0, .iload_n 1, 1, 1, 0, .null),
  (6, 0, .aload_n 0, 1, 0, 0, .null),
  (7, 141, .getfield 22, 3, 8, 3, .int 0),
  (10, 0, .if_icmp .ge 30, 3, 40, 0, .null),
  (13, 0, .iload_n 1, 1, 1, 0, .null),
  (14, 0, .aload_n 0, 1, 0, 0, .null),
  (15, 138, .getfield 9, 3, 8, 0, .null),
  (18, 0, .arraylength, 1, 0, 0, .null),
  (19, 0, .if_icmp .ge 21, 3, 40, 0, .null),
  (22, 0, .aload_n 0, 1, 0, 0, .null),
  (23, 138, .getfield 9, 3, 8, 0, .null),
  (26, 0, .iload_n 1, 1, 1, 0, .null),
  (27, 0, .laload, 1, 0, 0, .null),
  (28, 0, .aload_n 0, 1, 0, 0, .null),
  (29, 138, .getfield 9, 3, 8, 0, .null),
  (32, 0, .iload_n 1, 1, 1, 0, .null),
  (33, 0, .iconst 1, 1, 0, 0, .int (1)),
  (34, 0, .isub, 1, 0, 0, .null),
  (35, 0, .laload, 1, 0, 0, .null),
  (36, 0, .lcmp, 1, 0, 0, .null),
  (37, 0, .ifCond .eq 7, 3, 44, 0, .null),
  (40, 0, .iconst 1, 1, 0, 0, .int (1)),
  (41, 0, .goto 4, 3, 45, 0, .null),
  (44, 0, .iconst 0, 1, 0, 0, .int (0)),
  (45, 0, .ireturn, 1, 0, 0, .null)]
abbrev id_X8_beginsRun : Nat := 128
def mi_X8_beginsRun : MI := (yX8_beginsRun, cX8_beginsRun, 2, (some .boolean), 8, ct_X8_beginsRun)
theorem fe_X8_beginsRun_0 : mj_f mi_X8_beginsRun 0 = some (.iload_n 1, 1, 1, 0, .null) := by decide +kernel
theorem fe_X8_beginsRun_1 : mj_f mi_X8_beginsRun 1 = some (.iconst 1, 1, 0, 0, .int (1)) := by decide +kernel
theorem fe_X8_beginsRun_2 : mj_f mi_X8_beginsRun 2 = some (.if_icmp .lt 38, 3, 40, 0, .null) := by decide +kernel
theorem fe_X8_beginsRun_5 : mj_f mi_X8_beginsRun 5 = some (.iload_n 1, 1, 1, 0, .null) := by decide +kernel
theorem fe_X8_beginsRun_6 : mj_f mi_X8_beginsRun 6 = some (.aload_n 0, 1, 0, 0, .null) := by decide +kernel
theorem fe_X8_beginsRun_7 : mj_f mi_X8_beginsRun 7 = some (.getfield 22, 3, 8, 3, .int 0) := by decide +kernel
theorem fe_X8_beginsRun_10 : mj_f mi_X8_beginsRun 10 = some (.if_icmp .ge 30, 3, 40, 0, .null) := by decide +kernel
theorem fe_X8_beginsRun_13 : mj_f mi_X8_beginsRun 13 = some (.iload_n 1, 1, 1, 0, .null) := by decide +kernel
theorem fe_X8_beginsRun_14 : mj_f mi_X8_beginsRun 14 = some (.aload_n 0, 1, 0, 0, .null) := by decide +kernel
theorem fe_X8_beginsRun_15 : mj_f mi_X8_beginsRun 15 = some (.getfield 9, 3, 8, 0, .null) := by decide +kernel
theorem fe_X8_beginsRun_18 : mj_f mi_X8_beginsRun 18 = some (.arraylength, 1, 0, 0, .null) := by decide +kernel
theorem fe_X8_beginsRun_19 : mj_f mi_X8_beginsRun 19 = some (.if_icmp .ge 21, 3, 40, 0, .null) := by decide +kernel
theorem fe_X8_beginsRun_22 : mj_f mi_X8_beginsRun 22 = some (.aload_n 0, 1, 0, 0, .null) := by decide +kernel
theorem fe_X8_beginsRun_23 : mj_f mi_X8_beginsRun 23 = some (.getfield 9, 3, 8, 0, .null) := by decide +kernel
theorem fe_X8_beginsRun_26 : mj_f mi_X8_beginsRun 26 = some (.iload_n 1, 1, 1, 0, .null) := by decide +kernel
theorem fe_X8_beginsRun_27 : mj_f mi_X8_beginsRun 27 = some (.laload, 1, 0, 0, .null) := by decide +kernel
theorem fe_X8_beginsRun_28 : mj_f mi_X8_beginsRun 28 = some (.aload_n 0, 1, 0, 0, .null) := by decide +kernel
theorem fe_X8_beginsRun_29 : mj_f mi_X8_beginsRun 29 = some (.getfield 9, 3, 8, 0, .null) := by decide +kernel
theorem fe_X8_beginsRun_32 : mj_f mi_X8_beginsRun 32 = some (.iload_n 1, 1, 1, 0, .null) := by decide +kernel
theorem fe_X8_beginsRun_33 : mj_f mi_X8_beginsRun 33 = some (.iconst 1, 1, 0, 0, .int (1)) := by decide +kernel
theorem fe_X8_beginsRun_34 : mj_f mi_X8_beginsRun 34 = some (.isub, 1, 0, 0, .null) := by decide +kernel
theorem fe_X8_beginsRun_35 : mj_f mi_X8_beginsRun 35 = some (.laload, 1, 0, 0, .null) := by decide +kernel
theorem fe_X8_beginsRun_36 : mj_f mi_X8_beginsRun 36 = some (.lcmp, 1, 0, 0, .null) := by decide +kernel
theorem fe_X8_beginsRun_37 : mj_f mi_X8_beginsRun 37 = some (.ifCond .eq 7, 3, 44, 0, .null) := by decide +kernel
theorem fe_X8_beginsRun_40 : mj_f mi_X8_beginsRun 40 = some (.iconst 1, 1, 0, 0, .int (1)) := by decide +kernel
theorem fe_X8_beginsRun_41 : mj_f mi_X8_beginsRun 41 = some (.goto 4, 3, 45, 0, .null) := by decide +kernel
theorem fe_X8_beginsRun_44 : mj_f mi_X8_beginsRun 44 = some (.iconst 0, 1, 0, 0, .int (0)) := by decide +kernel
theorem fe_X8_beginsRun_45 : mj_f mi_X8_beginsRun 45 = some (.ireturn, 1, 0, 0, .null) := by decide +kernel
def ct_X8_become : MJT := [
  (0, 0, .aload_n 0, 1, 0, 0, .null),
  (1, 611, .invokevirtual 29, 3, 113, 0, .null),
  (4, 0, .iconst 0, 1, 0, 0, .int (0)),
  (5, 0, .istore_n 2, 1, 2, 0, .null),
  (6, 0, .iload_n 2, 1, 2, 0, .null),
  (7, 0, .aload_n 1, 1, 1, 0, .null),
  (8, 141, .getfield 22, 3, 8, 3, .int 0),
  (11, 0, .if_icmp .ge 18, 3, 29, 0, .null),
  (14, 0, .aload_n 0, 1, 0, 0, .null),
  (15, 0, .aload_n 1, 1, 1, 0, .null),
  (16, 0, .iload_n 2, 1, 2, 0, .null),
  (17, 612, .invokevirtual 49, 3, 109, 1, .null),
  (20, 613, .invokevirtual 45, 3, 114, 1, .null),
  (23, 0, .iinc 2 1, 3, 2, 0, .int (1)),
  (26, 0, .goto (-20), 3, 6, 0, .null),
  (29, 0, .return_, 1, 0, 0, .null)]
abbrev id_X8_become : Nat := 129
def mi_X8_become : MI := (yX8_become, cX8_become, 3, none, 8, ct_X8_become)
theorem fe_X8_become_0 : mj_f mi_X8_become 0 = some (.aload_n 0, 1, 0, 0, .null) := by decide +kernel
theorem fe_X8_become_1 : mj_f mi_X8_become 1 = some (.invokevirtual 29, 3, 113, 0, .null) := by decide +kernel
theorem fe_X8_become_4 : mj_f mi_X8_become 4 = some (.iconst 0, 1, 0, 0, .int (0)) := by decide +kernel
theorem fe_X8_become_5 : mj_f mi_X8_become 5 = some (.istore_n 2, 1, 2, 0, .null) := by decide +kernel
theorem fe_X8_become_6 : mj_f mi_X8_become 6 = some (.iload_n 2, 1, 2, 0, .null) := by decide +kernel
theorem fe_X8_become_7 : mj_f mi_X8_become 7 = some (.aload_n 1, 1, 1, 0, .null) := by decide +kernel
theorem fe_X8_become_8 : mj_f mi_X8_become 8 = some (.getfield 22, 3, 8, 3, .int 0) := by decide +kernel
theorem fe_X8_become_11 : mj_f mi_X8_become 11 = some (.if_icmp .ge 18, 3, 29, 0, .null) := by decide +kernel
theorem fe_X8_become_14 : mj_f mi_X8_become 14 = some (.aload_n 0, 1, 0, 0, .null) := by decide +kernel
theorem fe_X8_become_15 : mj_f mi_X8_become 15 = some (.aload_n 1, 1, 1, 0, .null) := by decide +kernel
theorem fe_X8_become_16 : mj_f mi_X8_become 16 = some (.iload_n 2, 1, 2, 0, .null) := by decide +kernel
theorem fe_X8_become_17 : mj_f mi_X8_become 17 = some (.invokevirtual 49, 3, 109, 1, .null) := by decide +kernel
theorem fe_X8_become_20 : mj_f mi_X8_become 20 = some (.invokevirtual 45, 3, 114, 1, .null) := by decide +kernel
theorem fe_X8_become_23 : mj_f mi_X8_become 23 = some (.iinc 2 1, 3, 2, 0, .int (1)) := by decide +kernel
theorem fe_X8_become_26 : mj_f mi_X8_become 26 = some (.goto (-20), 3, 6, 0, .null) := by decide +kernel
theorem fe_X8_become_29 : mj_f mi_X8_become 29 = some (.return_, 1, 0, 0, .null) := by decide +kernel
def ct_X8_becomeLengths : MJT := [
  (0, 0, .aload_n 0, 1, 0, 0, .null),
  (1, 611, .invokevirtual 29, 3, 113, 0, .null),
  (4, 0, .iconst 0, 1, 0, 0, .int (0)),
  (5, 0, .istore_n 2, 1, 2, 0, .null),
  (6, 0, .iload_n 2, 1, 2, 0, .null),
  (7, 0, .aload_n 1, 1, 1, 0, .null),
  (8, 141, .getfield 22, 3, 8, 3, .int 0),
  (11, 0, .if_icmp .ge 47, 3, 58, 0, .null),
  (14, 0, .aload_n 1, 1, 1, 0, .null),
  (15, 0, .iload_n 2, 1, 2, 0, .null),
  (16, 799, .invokevirtual 107, 3, 128, 1, .null),
  (19, 0, .ifCond .eq 11, 3, 30, 0, .null),
  (22, 0, .aload_n 0, 1, 0, 0, .null),
  (23, 0, .lconst 1, 1, 0, 0, .long 1),
  (24, 613, .invokevirtual 45, 3, 114, 1, .null),
  (27, 0, .goto 25, 3, 52, 0, .null),
  (30, 0, .aload_n 0, 1, 0, 0, .null),
  (31, 0, .aload_n 0, 1, 0, 0, .null),
  (32, 141, .getfield 22, 3, 8, 3, .int 0),
  (35, 0, .iconst 1, 1, 0, 0, .int (1)),
  (36, 0, .isub, 1, 0, 0, .null),
  (37, 0, .aload_n 0, 1, 0, 0, .null),
  (38, 0, .aload_n 0, 1, 0, 0, .null),
  (39, 141, .getfield 22, 3, 8, 3, .int 0),
  (42, 0, .iconst 1, 1, 0, 0, .int (1)),
  (43, 0, .isub, 1, 0, 0, .null),
  (44, 612, .invokevirtual 49, 3, 109, 1, .null),
  (47, 0, .lconst 1, 1, 0, 0, .long 1),
  (48, 0, .ladd, 1, 0, 0, .null),
  (49, 803, .invokevirtual 119, 3, 115, 2, .null),
  (52, 0, .iinc 2 1, 3, 2, 0, .int (1)),
  (55, 0, .goto (-49), 3, 6, 0, .null),
  (58, 0, .return_, 1, 0, 0, .null)]
abbrev id_X8_becomeLengths : Nat := 130
def mi_X8_becomeLengths : MI := (yX8_becomeLengths, cX8_becomeLengths, 3, none, 8, ct_X8_becomeLengths)
theorem fe_X8_becomeLengths_0 : mj_f mi_X8_becomeLengths 0 = some (.aload_n 0, 1, 0, 0, .null) := by decide +kernel
theorem fe_X8_becomeLengths_1 : mj_f mi_X8_becomeLengths 1 = some (.invokevirtual 29, 3, 113, 0, .null) := by decide +kernel
theorem fe_X8_becomeLengths_4 : mj_f mi_X8_becomeLengths 4 = some (.iconst 0, 1, 0, 0, .int (0)) := by decide +kernel
theorem fe_X8_becomeLengths_5 : mj_f mi_X8_becomeLengths 5 = some (.istore_n 2, 1, 2, 0, .null) := by decide +kernel
theorem fe_X8_becomeLengths_6 : mj_f mi_X8_becomeLengths 6 = some (.iload_n 2, 1, 2, 0, .null) := by decide +kernel
theorem fe_X8_becomeLengths_7 : mj_f mi_X8_becomeLengths 7 = some (.aload_n 1, 1, 1, 0, .null) := by decide +kernel
theorem fe_X8_becomeLengths_8 : mj_f mi_X8_becomeLengths 8 = some (.getfield 22, 3, 8, 3, .int 0) := by decide +kernel
theorem fe_X8_becomeLengths_11 : mj_f mi_X8_becomeLengths 11 = some (.if_icmp .ge 47, 3, 58, 0, .null) := by decide +kernel
theorem fe_X8_becomeLengths_14 : mj_f mi_X8_becomeLengths 14 = some (.aload_n 1, 1, 1, 0, .null) := by decide +kernel
theorem fe_X8_becomeLengths_15 : mj_f mi_X8_becomeLengths 15 = some (.iload_n 2, 1, 2, 0, .null) := by decide +kernel
theorem fe_X8_becomeLengths_16 : mj_f mi_X8_becomeLengths 16 = some (.invokevirtual 107, 3, 128, 1, .null) := by decide +kernel
theorem fe_X8_becomeLengths_19 : mj_f mi_X8_becomeLengths 19 = some (.ifCond .eq 11, 3, 30, 0, .null) := by decide +kernel
theorem fe_X8_becomeLengths_22 : mj_f mi_X8_becomeLengths 22 = some (.aload_n 0, 1, 0, 0, .null) := by decide +kernel
theorem fe_X8_becomeLengths_23 : mj_f mi_X8_becomeLengths 23 = some (.lconst 1, 1, 0, 0, .long 1) := by decide +kernel
theorem fe_X8_becomeLengths_24 : mj_f mi_X8_becomeLengths 24 = some (.invokevirtual 45, 3, 114, 1, .null) := by decide +kernel
theorem fe_X8_becomeLengths_27 : mj_f mi_X8_becomeLengths 27 = some (.goto 25, 3, 52, 0, .null) := by decide +kernel
theorem fe_X8_becomeLengths_30 : mj_f mi_X8_becomeLengths 30 = some (.aload_n 0, 1, 0, 0, .null) := by decide +kernel
theorem fe_X8_becomeLengths_31 : mj_f mi_X8_becomeLengths 31 = some (.aload_n 0, 1, 0, 0, .null) := by decide +kernel
theorem fe_X8_becomeLengths_32 : mj_f mi_X8_becomeLengths 32 = some (.getfield 22, 3, 8, 3, .int 0) := by decide +kernel
theorem fe_X8_becomeLengths_35 : mj_f mi_X8_becomeLengths 35 = some (.iconst 1, 1, 0, 0, .int (1)) := by decide +kernel
theorem fe_X8_becomeLengths_36 : mj_f mi_X8_becomeLengths 36 = some (.isub, 1, 0, 0, .null) := by decide +kernel
theorem fe_X8_becomeLengths_37 : mj_f mi_X8_becomeLengths 37 = some (.aload_n 0, 1, 0, 0, .null) := by decide +kernel
theorem fe_X8_becomeLengths_38 : mj_f mi_X8_becomeLengths 38 = some (.aload_n 0, 1, 0, 0, .null) := by decide +kernel
theorem fe_X8_becomeLengths_39 : mj_f mi_X8_becomeLengths 39 = some (.getfield 22, 3, 8, 3, .int 0) := by decide +kernel
theorem fe_X8_becomeLengths_42 : mj_f mi_X8_becomeLengths 42 = some (.iconst 1, 1, 0, 0, .int (1)) := by decide +kernel
theorem fe_X8_becomeLengths_43 : mj_f mi_X8_becomeLengths 43 = some (.isub, 1, 0, 0, .null) := by decide +kernel
theorem fe_X8_becomeLengths_44 : mj_f mi_X8_becomeLengths 44 = some (.invokevirtual 49, 3, 109, 1, .null) := by decide +kernel
theorem fe_X8_becomeLengths_47 : mj_f mi_X8_becomeLengths 47 = some (.lconst 1, 1, 0, 0, .long 1) := by decide +kernel
theorem fe_X8_becomeLengths_48 : mj_f mi_X8_becomeLengths 48 = some (.ladd, 1, 0, 0, .null) := by decide +kernel
theorem fe_X8_becomeLengths_49 : mj_f mi_X8_becomeLengths 49 = some (.invokevirtual 119, 3, 115, 2, .null) := by decide +kernel
theorem fe_X8_becomeLengths_52 : mj_f mi_X8_becomeLengths 52 = some (.iinc 2 1, 3, 2, 0, .int (1)) := by decide +kernel
theorem fe_X8_becomeLengths_55 : mj_f mi_X8_becomeLengths 55 = some (.goto (-49), 3, 6, 0, .null) := by decide +kernel
theorem fe_X8_becomeLengths_58 : mj_f mi_X8_becomeLengths 58 = some (.return_, 1, 0, 0, .null) := by decide +kernel
def ct_X9_init : MJT := [
  (0, 0, .aload_n 0, 1, 0, 0, .null),
  (1, 309, .invokespecial 1, 3, 1000, 0, .null),
  (4, 0, .aload_n 0, 1, 0, 0, .null),
  (5, 0, .iconst 0, 1, 0, 0, .int (0)),
  (6, 310, .putfield 7, 3, 9, 0, .int 0),
  (9, 0, .aload_n 0, 1, 0, 0, .null),
  (10, 0, .lconst 0, 1, 0, 0, .long 0),
  (11, 311, .putfield 13, 3, 9, 1, .long 0),
  (14, 0, .aload_n 0, 1, 0, 0, .null),
  (15, 0, .iconst 0, 1, 0, 0, .int (0)),
  (16, 312, .putfield 17, 3, 9, 2, .int 0),
  (19, 0, .return_, 1, 0, 0, .null)]
abbrev id_X9_init : Nat := 131
def mi_X9_init : MI := (yX9_init, cX9_init, 1, none, 9, ct_X9_init)
theorem fe_X9_init_0 : mj_f mi_X9_init 0 = some (.aload_n 0, 1, 0, 0, .null) := by decide +kernel
theorem fe_X9_init_1 : mj_f mi_X9_init 1 = some (.invokespecial 1, 3, 1000, 0, .null) := by decide +kernel
theorem fe_X9_init_4 : mj_f mi_X9_init 4 = some (.aload_n 0, 1, 0, 0, .null) := by decide +kernel
theorem fe_X9_init_5 : mj_f mi_X9_init 5 = some (.iconst 0, 1, 0, 0, .int (0)) := by decide +kernel
theorem fe_X9_init_6 : mj_f mi_X9_init 6 = some (.putfield 7, 3, 9, 0, .int 0) := by decide +kernel
theorem fe_X9_init_9 : mj_f mi_X9_init 9 = some (.aload_n 0, 1, 0, 0, .null) := by decide +kernel
theorem fe_X9_init_10 : mj_f mi_X9_init 10 = some (.lconst 0, 1, 0, 0, .long 0) := by decide +kernel
theorem fe_X9_init_11 : mj_f mi_X9_init 11 = some (.putfield 13, 3, 9, 1, .long 0) := by decide +kernel
theorem fe_X9_init_14 : mj_f mi_X9_init 14 = some (.aload_n 0, 1, 0, 0, .null) := by decide +kernel
theorem fe_X9_init_15 : mj_f mi_X9_init 15 = some (.iconst 0, 1, 0, 0, .int (0)) := by decide +kernel
theorem fe_X9_init_16 : mj_f mi_X9_init 16 = some (.putfield 17, 3, 9, 2, .int 0) := by decide +kernel
theorem fe_X9_init_19 : mj_f mi_X9_init 19 = some (.return_, 1, 0, 0, .null) := by decide +kernel
def ct_X9_found : MJT := [
  (0, 0, .aload_n 0, 1, 0, 0, .null),
  (1, 310, .getfield 7, 3, 9, 0, .int 0),
  (4, 0, .ireturn, 1, 0, 0, .null)]
abbrev id_X9_found : Nat := 132
def mi_X9_found : MI := (yX9_found, cX9_found, 1, (some .int), 9, ct_X9_found)
theorem fe_X9_found_0 : mj_f mi_X9_found 0 = some (.aload_n 0, 1, 0, 0, .null) := by decide +kernel
theorem fe_X9_found_1 : mj_f mi_X9_found 1 = some (.getfield 7, 3, 9, 0, .int 0) := by decide +kernel
theorem fe_X9_found_4 : mj_f mi_X9_found 4 = some (.ireturn, 1, 0, 0, .null) := by decide +kernel
def ct_X9_total : MJT := [
  (0, 0, .aload_n 0, 1, 0, 0, .null),
  (1, 311, .getfield 13, 3, 9, 1, .long 0),
  (4, 0, .lreturn, 1, 0, 0, .null)]
abbrev id_X9_total : Nat := 133
def mi_X9_total : MI := (yX9_total, cX9_total, 1, (some .long), 9, ct_X9_total)
theorem fe_X9_total_0 : mj_f mi_X9_total 0 = some (.aload_n 0, 1, 0, 0, .null) := by decide +kernel
theorem fe_X9_total_1 : mj_f mi_X9_total 1 = some (.getfield 13, 3, 9, 1, .long 0) := by decide +kernel
theorem fe_X9_total_4 : mj_f mi_X9_total 4 = some (.lreturn, 1, 0, 0, .null) := by decide +kernel
def ct_X9_unpacked : MJT := [
  (0, 0, .aload_n 0, 1, 0, 0, .null),
  (1, 312, .getfield 17, 3, 9, 2, .int 0),
  (4, 0, .ireturn, 1, 0, 0, .null)]
abbrev id_X9_unpacked : Nat := 134
def mi_X9_unpacked : MI := (yX9_unpacked, cX9_unpacked, 1, (some .int), 9, ct_X9_unpacked)
theorem fe_X9_unpacked_0 : mj_f mi_X9_unpacked 0 = some (.aload_n 0, 1, 0, 0, .null) := by decide +kernel
theorem fe_X9_unpacked_1 : mj_f mi_X9_unpacked 1 = some (.getfield 17, 3, 9, 2, .int 0) := by decide +kernel
theorem fe_X9_unpacked_4 : mj_f mi_X9_unpacked 4 = some (.ireturn, 1, 0, 0, .null) := by decide +kernel
def ct_X9_empty : MJT := [
  (0, 0, .aload_n 0, 1, 0, 0, .null),
  (1, 0, .iconst 0, 1, 0, 0, .int (0)),
  (2, 310, .putfield 7, 3, 9, 0, .int 0),
  (5, 0, .aload_n 0, 1, 0, 0, .null),
  (6, 0, .lconst 0, 1, 0, 0, .long 0),
  (7, 311, .putfield 13, 3, 9, 1, .long 0),
  (10, 0, .aload_n 0, 1, 0, 0, .null),
  (11, 0, .iconst 0, 1, 0, 0, .int (0)),
  (12, 312, .putfield 17, 3, 9, 2, .int 0),
  (15, 0, .return_, 1, 0, 0, .null)]
abbrev id_X9_empty : Nat := 135
def mi_X9_empty : MI := (yX9_empty, cX9_empty, 1, none, 9, ct_X9_empty)
theorem fe_X9_empty_0 : mj_f mi_X9_empty 0 = some (.aload_n 0, 1, 0, 0, .null) := by decide +kernel
theorem fe_X9_empty_1 : mj_f mi_X9_empty 1 = some (.iconst 0, 1, 0, 0, .int (0)) := by decide +kernel
theorem fe_X9_empty_2 : mj_f mi_X9_empty 2 = some (.putfield 7, 3, 9, 0, .int 0) := by decide +kernel
theorem fe_X9_empty_5 : mj_f mi_X9_empty 5 = some (.aload_n 0, 1, 0, 0, .null) := by decide +kernel
theorem fe_X9_empty_6 : mj_f mi_X9_empty 6 = some (.lconst 0, 1, 0, 0, .long 0) := by decide +kernel
theorem fe_X9_empty_7 : mj_f mi_X9_empty 7 = some (.putfield 13, 3, 9, 1, .long 0) := by decide +kernel
theorem fe_X9_empty_10 : mj_f mi_X9_empty 10 = some (.aload_n 0, 1, 0, 0, .null) := by decide +kernel
theorem fe_X9_empty_11 : mj_f mi_X9_empty 11 = some (.iconst 0, 1, 0, 0, .int (0)) := by decide +kernel
theorem fe_X9_empty_12 : mj_f mi_X9_empty 12 = some (.putfield 17, 3, 9, 2, .int 0) := by decide +kernel
theorem fe_X9_empty_15 : mj_f mi_X9_empty 15 = some (.return_, 1, 0, 0, .null) := by decide +kernel
def ct_X9_add : MJT := [
  (0, 0, .aload_n 0, 1, 0, 0, .null),
  (1, 0, .dup, 1, 0, 0, .null),
  (2, 310, .getfield 7, 3, 9, 0, .int 0),
  (5, 0, .iload_n 1, 1, 1, 0, .null),
  (6, 0, .iadd, 1, 0, 0, .null),
  (7, 310, .putfield 7, 3, 9, 0, .int 0),
  (10, 0, .aload_n 0, 1, 0, 0, .null),
  (11, 0, .dup, 1, 0, 0, .null),
  (12, 311, .getfield 13, 3, 9, 1, .long 0),
  (15, 0, .lload_n 2, 1, 2, 0, .null),
  (16, 0, .ladd, 1, 0, 0, .null),
  (17, 311, .putfield 13, 3, 9, 1, .long 0),
  (20, 0, .return_, 1, 0, 0, .null)]
abbrev id_X9_add : Nat := 136
def mi_X9_add : MI := (yX9_add, cX9_add, 4, none, 9, ct_X9_add)
theorem fe_X9_add_0 : mj_f mi_X9_add 0 = some (.aload_n 0, 1, 0, 0, .null) := by decide +kernel
theorem fe_X9_add_1 : mj_f mi_X9_add 1 = some (.dup, 1, 0, 0, .null) := by decide +kernel
theorem fe_X9_add_2 : mj_f mi_X9_add 2 = some (.getfield 7, 3, 9, 0, .int 0) := by decide +kernel
theorem fe_X9_add_5 : mj_f mi_X9_add 5 = some (.iload_n 1, 1, 1, 0, .null) := by decide +kernel
theorem fe_X9_add_6 : mj_f mi_X9_add 6 = some (.iadd, 1, 0, 0, .null) := by decide +kernel
theorem fe_X9_add_7 : mj_f mi_X9_add 7 = some (.putfield 7, 3, 9, 0, .int 0) := by decide +kernel
theorem fe_X9_add_10 : mj_f mi_X9_add 10 = some (.aload_n 0, 1, 0, 0, .null) := by decide +kernel
theorem fe_X9_add_11 : mj_f mi_X9_add 11 = some (.dup, 1, 0, 0, .null) := by decide +kernel
theorem fe_X9_add_12 : mj_f mi_X9_add 12 = some (.getfield 13, 3, 9, 1, .long 0) := by decide +kernel
theorem fe_X9_add_15 : mj_f mi_X9_add 15 = some (.lload_n 2, 1, 2, 0, .null) := by decide +kernel
theorem fe_X9_add_16 : mj_f mi_X9_add 16 = some (.ladd, 1, 0, 0, .null) := by decide +kernel
theorem fe_X9_add_17 : mj_f mi_X9_add 17 = some (.putfield 13, 3, 9, 1, .long 0) := by decide +kernel
theorem fe_X9_add_20 : mj_f mi_X9_add 20 = some (.return_, 1, 0, 0, .null) := by decide +kernel
def ct_X9_noteUnpacked : MJT := [
  (0, 0, .aload_n 0, 1, 0, 0, .null),
  (1, 0, .dup, 1, 0, 0, .null),
  (2, 312, .getfield 17, 3, 9, 2, .int 0),
  (5, 0, .iconst 1, 1, 0, 0, .int (1)),
  (6, 0, .iadd, 1, 0, 0, .null),
  (7, 312, .putfield 17, 3, 9, 2, .int 0),
  (10, 0, .return_, 1, 0, 0, .null)]
abbrev id_X9_noteUnpacked : Nat := 137
def mi_X9_noteUnpacked : MI := (yX9_noteUnpacked, cX9_noteUnpacked, 1, none, 9, ct_X9_noteUnpacked)
theorem fe_X9_noteUnpacked_0 : mj_f mi_X9_noteUnpacked 0 = some (.aload_n 0, 1, 0, 0, .null) := by decide +kernel
theorem fe_X9_noteUnpacked_1 : mj_f mi_X9_noteUnpacked 1 = some (.dup, 1, 0, 0, .null) := by decide +kernel
theorem fe_X9_noteUnpacked_2 : mj_f mi_X9_noteUnpacked 2 = some (.getfield 17, 3, 9, 2, .int 0) := by decide +kernel
theorem fe_X9_noteUnpacked_5 : mj_f mi_X9_noteUnpacked 5 = some (.iconst 1, 1, 0, 0, .int (1)) := by decide +kernel
theorem fe_X9_noteUnpacked_6 : mj_f mi_X9_noteUnpacked 6 = some (.iadd, 1, 0, 0, .null) := by decide +kernel
theorem fe_X9_noteUnpacked_7 : mj_f mi_X9_noteUnpacked 7 = some (.putfield 17, 3, 9, 2, .int 0) := by decide +kernel
theorem fe_X9_noteUnpacked_10 : mj_f mi_X9_noteUnpacked 10 = some (.return_, 1, 0, 0, .null) := by decide +kernel
def ct_X10_init : MJT := [
  (0, 0, .aload_n 0, 1, 0, 0, .null),
  (1, 254, .invokespecial 3, 3, 1000, 0, .null),
  (4, 0, .aload_n 0, 1, 0, 0, .null),
  (5, 0, .iconst 3, 1, 0, 0, .int (3)),
  (6, 255, .anewarray 9, 3, 8, 0, .null),
  (9, 259, .putfield 11, 3, 10, 0, .null),
  (12, 0, .aload_n 0, 1, 0, 0, .null),
  (13, 255, .new 9, 3, 8, 0, .null),
  (16, 0, .dup, 1, 0, 0, .null),
  (17, 256, .invokespecial 17, 3, 107, 0, .int 1),
  (20, 260, .putfield 18, 3, 10, 1, .null),
  (23, 0, .aload_n 0, 1, 0, 0, .null),
  (24, 257, .new 22, 3, 5, 0, .null),
  (27, 0, .dup, 1, 0, 0, .null),
  (28, 258, .invokespecial 24, 3, 58, 0, .int 1),
  (31, 261, .putfield 25, 3, 10, 2, .null),
  (34, 0, .iconst 0, 1, 0, 0, .int (0)),
  (35, 0, .istore_n 1, 1, 1, 0, .null),
  (36, 0, .iload_n 1, 1, 1, 0, .null),
  (37, 0, .iconst 3, 1, 0, 0, .int (3)),
  (38, 0, .if_icmp .ge 22, 3, 60, 0, .null),
  (41, 0, .aload_n 0, 1, 0, 0, .null),
  (42, 259, .getfield 11, 3, 10, 0, .null),
  (45, 0, .iload_n 1, 1, 1, 0, .null),
  (46, 255, .new 9, 3, 8, 0, .null),
  (49, 0, .dup, 1, 0, 0, .null),
  (50, 256, .invokespecial 17, 3, 107, 0, .int 1),
  (53, 0, .aastore, 1, 0, 0, .null),
  (54, 0, .iinc 1 1, 3, 1, 0, .int (1)),
  (57, 0, .goto (-21), 3, 36, 0, .null),
  (60, 0, .return_, 1, 0, 0, .null)]
abbrev id_X10_init : Nat := 138
def mi_X10_init : MI := (yX10_init, cX10_init, 2, none, 10, ct_X10_init)
theorem fe_X10_init_0 : mj_f mi_X10_init 0 = some (.aload_n 0, 1, 0, 0, .null) := by decide +kernel
theorem fe_X10_init_1 : mj_f mi_X10_init 1 = some (.invokespecial 3, 3, 1000, 0, .null) := by decide +kernel
theorem fe_X10_init_4 : mj_f mi_X10_init 4 = some (.aload_n 0, 1, 0, 0, .null) := by decide +kernel
theorem fe_X10_init_5 : mj_f mi_X10_init 5 = some (.iconst 3, 1, 0, 0, .int (3)) := by decide +kernel
theorem fe_X10_init_6 : mj_f mi_X10_init 6 = some (.anewarray 9, 3, 8, 0, .null) := by decide +kernel
theorem fe_X10_init_9 : mj_f mi_X10_init 9 = some (.putfield 11, 3, 10, 0, .null) := by decide +kernel
theorem fe_X10_init_12 : mj_f mi_X10_init 12 = some (.aload_n 0, 1, 0, 0, .null) := by decide +kernel
theorem fe_X10_init_13 : mj_f mi_X10_init 13 = some (.new 9, 3, 8, 0, .null) := by decide +kernel
theorem fe_X10_init_16 : mj_f mi_X10_init 16 = some (.dup, 1, 0, 0, .null) := by decide +kernel
theorem fe_X10_init_17 : mj_f mi_X10_init 17 = some (.invokespecial 17, 3, 107, 0, .int 1) := by decide +kernel
theorem fe_X10_init_20 : mj_f mi_X10_init 20 = some (.putfield 18, 3, 10, 1, .null) := by decide +kernel
theorem fe_X10_init_23 : mj_f mi_X10_init 23 = some (.aload_n 0, 1, 0, 0, .null) := by decide +kernel
theorem fe_X10_init_24 : mj_f mi_X10_init 24 = some (.new 22, 3, 5, 0, .null) := by decide +kernel
theorem fe_X10_init_27 : mj_f mi_X10_init 27 = some (.dup, 1, 0, 0, .null) := by decide +kernel
theorem fe_X10_init_28 : mj_f mi_X10_init 28 = some (.invokespecial 24, 3, 58, 0, .int 1) := by decide +kernel
theorem fe_X10_init_31 : mj_f mi_X10_init 31 = some (.putfield 25, 3, 10, 2, .null) := by decide +kernel
theorem fe_X10_init_34 : mj_f mi_X10_init 34 = some (.iconst 0, 1, 0, 0, .int (0)) := by decide +kernel
theorem fe_X10_init_35 : mj_f mi_X10_init 35 = some (.istore_n 1, 1, 1, 0, .null) := by decide +kernel
theorem fe_X10_init_36 : mj_f mi_X10_init 36 = some (.iload_n 1, 1, 1, 0, .null) := by decide +kernel
theorem fe_X10_init_37 : mj_f mi_X10_init 37 = some (.iconst 3, 1, 0, 0, .int (3)) := by decide +kernel
theorem fe_X10_init_38 : mj_f mi_X10_init 38 = some (.if_icmp .ge 22, 3, 60, 0, .null) := by decide +kernel
theorem fe_X10_init_41 : mj_f mi_X10_init 41 = some (.aload_n 0, 1, 0, 0, .null) := by decide +kernel
theorem fe_X10_init_42 : mj_f mi_X10_init 42 = some (.getfield 11, 3, 10, 0, .null) := by decide +kernel
theorem fe_X10_init_45 : mj_f mi_X10_init 45 = some (.iload_n 1, 1, 1, 0, .null) := by decide +kernel
theorem fe_X10_init_46 : mj_f mi_X10_init 46 = some (.new 9, 3, 8, 0, .null) := by decide +kernel
theorem fe_X10_init_49 : mj_f mi_X10_init 49 = some (.dup, 1, 0, 0, .null) := by decide +kernel
theorem fe_X10_init_50 : mj_f mi_X10_init 50 = some (.invokespecial 17, 3, 107, 0, .int 1) := by decide +kernel
theorem fe_X10_init_53 : mj_f mi_X10_init 53 = some (.aastore, 1, 0, 0, .null) := by decide +kernel
theorem fe_X10_init_54 : mj_f mi_X10_init 54 = some (.iinc 1 1, 3, 1, 0, .int (1)) := by decide +kernel
theorem fe_X10_init_57 : mj_f mi_X10_init 57 = some (.goto (-21), 3, 36, 0, .null) := by decide +kernel
theorem fe_X10_init_60 : mj_f mi_X10_init 60 = some (.return_, 1, 0, 0, .null) := by decide +kernel
