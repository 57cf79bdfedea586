/-! code tables: a program wrote them -/
def ct_X12_writeLeaf : MJT := [
  (0, 0, .aload_n 0, 1, 0, 0, .null),
  (1, 1227, .getfield 58, 3, 12, 15, .null),
  (4, 0, .iload_n 1, 1, 1, 0, .null),
  (5, 0, .iaload, 1, 0, 0, .null),
  (6, 0, .istore_n 3, 1, 3, 0, .null),
  (7, 0, .aload_n 0, 1, 0, 0, .null),
  (8, 0, .iload_n 2, 1, 2, 0, .null),
  (9, 1405, .invokevirtual 237, 3, 204, 1, .null),
  (12, 0, .iload_n 2, 1, 2, 0, .null),
  (13, 0, .ifCond .ne 49, 3, 62, 0, .null),
  (16, 0, .iconst 0, 1, 0, 0, .int (0)),
  (17, 0, .istore 4, 2, 4, 0, .null),
  (19, 0, .iload 4, 2, 4, 0, .null),
  (21, 0, .iload_n 3, 1, 3, 0, .null),
  (22, 0, .if_icmp .ge 39, 3, 61, 0, .null),
  (25, 0, .bipush 56, 2, 0, 0, .int (56)),
  (27, 0, .istore 5, 2, 5, 0, .null),
  (29, 0, .iload 5, 2, 5, 0, .null),
  (31, 0, .ifCond .lt 24, 3, 55, 0, .null),
  (34, 0, .aload_n 0, 1, 0, 0, .null),
  (35, 0, .aload_n 0, 1, 0, 0, .null),
  (36, 0, .iload_n 1, 1, 1, 0, .null),
  (37, 0, .iload 4, 2, 4, 0, .null),
  (39, 1433, .invokevirtual 168, 3, 189, 2, .null),
  (42, 0, .iload 5, 2, 5, 0, .null),
  (44, 0, .lushr, 1, 0, 0, .null),
  (45, 0, .l2i, 1, 0, 0, .null),
  (46, 1405, .invokevirtual 237, 3, 204, 1, .null),
  (49, 0, .iinc 5 (-8), 3, 5, 0, .int (-8)),
  (52, 0, .goto (-23), 3, 29, 0, .null),
  (55, 0, .iinc 4 1, 3, 4, 0, .int (1)),
  (58, 0, .goto (-39), 3, 19, 0, .null),
  (61, 0, .return_, 1, 0, 0, .null),
  (62, 0, .iload_n 2, 1, 2, 0, .null),
  (63, 0, .iconst 1, 1, 0, 0, .int (1)),
  (64, 0, .if_icmp .ne 66, 3, 130, 0, .null),
  (67, 0, .aload_n 0, 1, 0, 0, .null),
  (68, 0, .aload_n 0, 1, 0, 0, .null),
  (69, 0, .iload_n 1, 1, 1, 0, .null),
  (70, 1429, .invokevirtual 203, 3, 197, 1, .null),
  (73, 1437, .invokestatic 184, 3, 185, 1, .null),
  (76, 1495, .invokevirtual 240, 3, 205, 1, .null),
  (79, 0, .aload_n 0, 1, 0, 0, .null),
  (80, 0, .aload_n 0, 1, 0, 0, .null),
  (81, 0, .iload_n 1, 1, 1, 0, .null),
  (82, 1443, .invokevirtual 207, 3, 198, 1, .null),
  (85, 1405, .invokevirtual 237, 3, 204, 1, .null),
  (88, 0, .iconst 0, 1, 0, 0, .int (0)),
  (89, 0, .istore 4, 2, 4, 0, .null),
  (91, 0, .iload 4, 2, 4, 0, .null),
  (93, 0, .iload_n 3, 1, 3, 0, .null),
  (94, 0, .if_icmp .ge 31, 3, 125, 0, .null),
  (97, 0, .aload_n 0, 1, 0, 0, .null),
  (98, 0, .aload_n 0, 1, 0, 0, .null),
  (99, 0, .iload_n 1, 1, 1, 0, .null),
  (100, 0, .iload 4, 2, 4, 0, .null),
  (102, 1433, .invokevirtual 168, 3, 189, 2, .null),
  (105, 0, .aload_n 0, 1, 0, 0, .null),
  (106, 0, .iload_n 1, 1, 1, 0, .null),
  (107, 1429, .invokevirtual 203, 3, 197, 1, .null),
  (110, 0, .lsub, 1, 0, 0, .null),
  (111, 0, .aload_n 0, 1, 0, 0, .null),
  (112, 0, .iload_n 1, 1, 1, 0, .null),
  (113, 1443, .invokevirtual 207, 3, 198, 1, .null),
  (116, 1409, .invokevirtual 244, 3, 206, 2, .null),
  (119, 0, .iinc 4 1, 3, 4, 0, .int (1)),
  (122, 0, .goto (-31), 3, 91, 0, .null),
  (125, 0, .aload_n 0, 1, 0, 0, .null),
  (126, 1413, .invokevirtual 248, 3, 207, 0, .null),
  (129, 0, .return_, 1, 0, 0, .null),
  (130, 0, .aload_n 0, 1, 0, 0, .null),
  (131, 0, .iload_n 1, 1, 1, 0, .null),
  (132, 1453, .invokevirtual 211, 3, 196, 1, .null),
  (135, 0, .pop, 1, 0, 0, .null),
  (136, 0, .aload_n 0, 1, 0, 0, .null),
  (137, 0, .aload_n 0, 1, 0, 0, .null),
  (138, 1230, .getfield 67, 3, 12, 18, .long 0),
  (141, 1437, .invokestatic 184, 3, 185, 1, .null),
  (144, 1495, .invokevirtual 240, 3, 205, 1, .null),
  (147, 0, .aload_n 0, 1, 0, 0, .null),
  (148, 0, .aload_n 0, 1, 0, 0, .null),
  (149, 1231, .getfield 71, 3, 12, 19, .int 0),
  (152, 1405, .invokevirtual 237, 3, 204, 1, .null),
  (155, 0, .aload_n 0, 1, 0, 0, .null),
  (156, 0, .aload_n 0, 1, 0, 0, .null),
  (157, 1232, .getfield 74, 3, 12, 20, .int 0),
  (160, 1405, .invokevirtual 237, 3, 204, 1, .null),
  (163, 0, .iconst 0, 1, 0, 0, .int (0)),
  (164, 0, .istore 4, 2, 4, 0, .null),
  (166, 0, .iload 4, 2, 4, 0, .null),
  (168, 0, .iload_n 3, 1, 3, 0, .null),
  (169, 0, .if_icmp .ge 54, 3, 223, 0, .null),
  (172, 0, .aload_n 0, 1, 0, 0, .null),
  (173, 0, .aload_n 0, 1, 0, 0, .null),
  (174, 0, .iload_n 1, 1, 1, 0, .null),
  (175, 0, .iload 4, 2, 4, 0, .null),
  (177, 1433, .invokevirtual 168, 3, 189, 2, .null),
  (180, 0, .aload_n 0, 1, 0, 0, .null),
  (181, 1230, .getfield 67, 3, 12, 18, .long 0),
  (184, 0, .aload_n 0, 1, 0, 0, .null),
  (185, 1231, .getfield 71, 3, 12, 19, .int 0),
  (188, 1457, .invokevirtual 199, 3, 195, 3, .null),
  (191, 0, .ifCond .eq 6, 3, 197, 0, .null),
  (194, 0, .goto 23, 3, 217, 0, .null),
  (197, 0, .aload_n 0, 1, 0, 0, .null),
  (198, 0, .iload 4, 2, 4, 0, .null),
  (200, 1405, .invokevirtual 237, 3, 204, 1, .null),
  (203, 0, .aload_n 0, 1, 0, 0, .null),
  (204, 0, .aload_n 0, 1, 0, 0, .null),
  (205, 0, .iload_n 1, 1, 1, 0, .null),
  (206, 0, .iload 4, 2, 4, 0, .null),
  (208, 1433, .invokevirtual 168, 3, 189, 2, .null),
  (211, 1437, .invokestatic 184, 3, 185, 1, .null),
  (214, 1495, .invokevirtual 240, 3, 205, 1, .null),
  (217, 0, .iinc 4 1, 3, 4, 0, .int (1)),
  (220, 0, .goto (-54), 3, 166, 0, .null),
  (223, 0, .iconst 0, 1, 0, 0, .int (0)),
  (224, 0, .istore 4, 2, 4, 0, .null),
  (226, 0, .iload 4, 2, 4, 0, .null),
  (228, 0, .iload_n 3, 1, 3, 0, .null),
  (229, 0, .if_icmp .ge 55, 3, 284, 0, .null),
  (232, 0, .aload_n 0, 1, 0, 0, .null),
  (233, 0, .aload_n 0, 1, 0, 0, .null),
  (234, 0, .aload_n 0, 1, 0, 0, .null),
  (235, 0, .iload_n 1, 1, 1, 0, .null),
  (236, 0, .iload 4, 2, 4, 0, .null),
  (238, 1433, .invokevirtual 168, 3, 189, 2, .null),
  (241, 0, .aload_n 0, 1, 0, 0, .null),
  (242, 1230, .getfield 67, 3, 12, 18, .long 0),
  (245, 0, .aload_n 0, 1, 0, 0, .null),
  (246, 1231, .getfield 71, 3, 12, 19, .int 0),
  (249, 1457, .invokevirtual 199, 3, 195, 3, .null),
  (252, 0, .ifCond .eq 18, 3, 270, 0, .null),
  (255, 0, .aload_n 0, 1, 0, 0, .null),
  (256, 0, .iload_n 1, 1, 1, 0, .null),
  (257, 0, .iload 4, 2, 4, 0, .null),
  (259, 1433, .invokevirtual 168, 3, 189, 2, .null),
  (262, 0, .aload_n 0, 1, 0, 0, .null),
  (263, 1230, .getfield 67, 3, 12, 18, .long 0),
  (266, 0, .lsub, 1, 0, 0, .null),
  (267, 0, .goto 4, 3, 271, 0, .null),
  (270, 0, .lconst 0, 1, 0, 0, .long 0),
  (271, 0, .aload_n 0, 1, 0, 0, .null),
  (272, 1231, .getfield 71, 3, 12, 19, .int 0),
  (275, 1409, .invokevirtual 244, 3, 206, 2, .null),
  (278, 0, .iinc 4 1, 3, 4, 0, .int (1)),
  (281, 0, .goto (-55), 3, 226, 0, .null),
  (284, 0, .aload_n 0, 1, 0, 0, .null),
  (285, 1413, .invokevirtual 248, 3, 207, 0, .null),
  (288, 0, .return_, 1, 0, 0, .null)]
abbrev id_X12_writeLeaf : Nat := 210
def mi_X12_writeLeaf : MI := (yX12_writeLeaf, cX12_writeLeaf, 6, none, 12, ct_X12_writeLeaf)
theorem fe_X12_writeLeaf_0 : mj_f mi_X12_writeLeaf 0 = some (.aload_n 0, 1, 0, 0, .null) := by decide +kernel
theorem fe_X12_writeLeaf_1 : mj_f mi_X12_writeLeaf 1 = some (.getfield 58, 3, 12, 15, .null) := by decide +kernel
theorem fe_X12_writeLeaf_4 : mj_f mi_X12_writeLeaf 4 = some (.iload_n 1, 1, 1, 0, .null) := by decide +kernel
theorem fe_X12_writeLeaf_5 : mj_f mi_X12_writeLeaf 5 = some (.iaload, 1, 0, 0, .null) := by decide +kernel
theorem fe_X12_writeLeaf_6 : mj_f mi_X12_writeLeaf 6 = some (.istore_n 3, 1, 3, 0, .null) := by decide +kernel
theorem fe_X12_writeLeaf_7 : mj_f mi_X12_writeLeaf 7 = some (.aload_n 0, 1, 0, 0, .null) := by decide +kernel
theorem fe_X12_writeLeaf_8 : mj_f mi_X12_writeLeaf 8 = some (.iload_n 2, 1, 2, 0, .null) := by decide +kernel
theorem fe_X12_writeLeaf_9 : mj_f mi_X12_writeLeaf 9 = some (.invokevirtual 237, 3, 204, 1, .null) := by decide +kernel
theorem fe_X12_writeLeaf_12 : mj_f mi_X12_writeLeaf 12 = some (.iload_n 2, 1, 2, 0, .null) := by decide +kernel
theorem fe_X12_writeLeaf_13 : mj_f mi_X12_writeLeaf 13 = some (.ifCond .ne 49, 3, 62, 0, .null) := by decide +kernel
theorem fe_X12_writeLeaf_16 : mj_f mi_X12_writeLeaf 16 = some (.iconst 0, 1, 0, 0, .int (0)) := by decide +kernel
theorem fe_X12_writeLeaf_17 : mj_f mi_X12_writeLeaf 17 = some (.istore 4, 2, 4, 0, .null) := by decide +kernel
theorem fe_X12_writeLeaf_19 : mj_f mi_X12_writeLeaf 19 = some (.iload 4, 2, 4, 0, .null) := by decide +kernel
theorem fe_X12_writeLeaf_21 : mj_f mi_X12_writeLeaf 21 = some (.iload_n 3, 1, 3, 0, .null) := by decide +kernel
theorem fe_X12_writeLeaf_22 : mj_f mi_X12_writeLeaf 22 = some (.if_icmp .ge 39, 3, 61, 0, .null) := by decide +kernel
theorem fe_X12_writeLeaf_25 : mj_f mi_X12_writeLeaf 25 = some (.bipush 56, 2, 0, 0, .int (56)) := by decide +kernel
theorem fe_X12_writeLeaf_27 : mj_f mi_X12_writeLeaf 27 = some (.istore 5, 2, 5, 0, .null) := by decide +kernel
theorem fe_X12_writeLeaf_29 : mj_f mi_X12_writeLeaf 29 = some (.iload 5, 2, 5, 0, .null) := by decide +kernel
theorem fe_X12_writeLeaf_31 : mj_f mi_X12_writeLeaf 31 = some (.ifCond .lt 24, 3, 55, 0, .null) := by decide +kernel
theorem fe_X12_writeLeaf_34 : mj_f mi_X12_writeLeaf 34 = some (.aload_n 0, 1, 0, 0, .null) := by decide +kernel
theorem fe_X12_writeLeaf_35 : mj_f mi_X12_writeLeaf 35 = some (.aload_n 0, 1, 0, 0, .null) := by decide +kernel
theorem fe_X12_writeLeaf_36 : mj_f mi_X12_writeLeaf 36 = some (.iload_n 1, 1, 1, 0, .null) := by decide +kernel
theorem fe_X12_writeLeaf_37 : mj_f mi_X12_writeLeaf 37 = some (.iload 4, 2, 4, 0, .null) := by decide +kernel
theorem fe_X12_writeLeaf_39 : mj_f mi_X12_writeLeaf 39 = some (.invokevirtual 168, 3, 189, 2, .null) := by decide +kernel
theorem fe_X12_writeLeaf_42 : mj_f mi_X12_writeLeaf 42 = some (.iload 5, 2, 5, 0, .null) := by decide +kernel
theorem fe_X12_writeLeaf_44 : mj_f mi_X12_writeLeaf 44 = some (.lushr, 1, 0, 0, .null) := by decide +kernel
theorem fe_X12_writeLeaf_45 : mj_f mi_X12_writeLeaf 45 = some (.l2i, 1, 0, 0, .null) := by decide +kernel
theorem fe_X12_writeLeaf_46 : mj_f mi_X12_writeLeaf 46 = some (.invokevirtual 237, 3, 204, 1, .null) := by decide +kernel
theorem fe_X12_writeLeaf_49 : mj_f mi_X12_writeLeaf 49 = some (.iinc 5 (-8), 3, 5, 0, .int (-8)) := by decide +kernel
theorem fe_X12_writeLeaf_52 : mj_f mi_X12_writeLeaf 52 = some (.goto (-23), 3, 29, 0, .null) := by decide +kernel
theorem fe_X12_writeLeaf_55 : mj_f mi_X12_writeLeaf 55 = some (.iinc 4 1, 3, 4, 0, .int (1)) := by decide +kernel
theorem fe_X12_writeLeaf_58 : mj_f mi_X12_writeLeaf 58 = some (.goto (-39), 3, 19, 0, .null) := by decide +kernel
theorem fe_X12_writeLeaf_61 : mj_f mi_X12_writeLeaf 61 = some (.return_, 1, 0, 0, .null) := by decide +kernel
theorem fe_X12_writeLeaf_62 : mj_f mi_X12_writeLeaf 62 = some (.iload_n 2, 1, 2, 0, .null) := by decide +kernel
theorem fe_X12_writeLeaf_63 : mj_f mi_X12_writeLeaf 63 = some (.iconst 1, 1, 0, 0, .int (1)) := by decide +kernel
theorem fe_X12_writeLeaf_64 : mj_f mi_X12_writeLeaf 64 = some (.if_icmp .ne 66, 3, 130, 0, .null) := by decide +kernel
theorem fe_X12_writeLeaf_67 : mj_f mi_X12_writeLeaf 67 = some (.aload_n 0, 1, 0, 0, .null) := by decide +kernel
theorem fe_X12_writeLeaf_68 : mj_f mi_X12_writeLeaf 68 = some (.aload_n 0, 1, 0, 0, .null) := by decide +kernel
theorem fe_X12_writeLeaf_69 : mj_f mi_X12_writeLeaf 69 = some (.iload_n 1, 1, 1, 0, .null) := by decide +kernel
theorem fe_X12_writeLeaf_70 : mj_f mi_X12_writeLeaf 70 = some (.invokevirtual 203, 3, 197, 1, .null) := by decide +kernel
theorem fe_X12_writeLeaf_73 : mj_f mi_X12_writeLeaf 73 = some (.invokestatic 184, 3, 185, 1, .null) := by decide +kernel
theorem fe_X12_writeLeaf_76 : mj_f mi_X12_writeLeaf 76 = some (.invokevirtual 240, 3, 205, 1, .null) := by decide +kernel
theorem fe_X12_writeLeaf_79 : mj_f mi_X12_writeLeaf 79 = some (.aload_n 0, 1, 0, 0, .null) := by decide +kernel
theorem fe_X12_writeLeaf_80 : mj_f mi_X12_writeLeaf 80 = some (.aload_n 0, 1, 0, 0, .null) := by decide +kernel
theorem fe_X12_writeLeaf_81 : mj_f mi_X12_writeLeaf 81 = some (.iload_n 1, 1, 1, 0, .null) := by decide +kernel
theorem fe_X12_writeLeaf_82 : mj_f mi_X12_writeLeaf 82 = some (.invokevirtual 207, 3, 198, 1, .null) := by decide +kernel
theorem fe_X12_writeLeaf_85 : mj_f mi_X12_writeLeaf 85 = some (.invokevirtual 237, 3, 204, 1, .null) := by decide +kernel
theorem fe_X12_writeLeaf_88 : mj_f mi_X12_writeLeaf 88 = some (.iconst 0, 1, 0, 0, .int (0)) := by decide +kernel
theorem fe_X12_writeLeaf_89 : mj_f mi_X12_writeLeaf 89 = some (.istore 4, 2, 4, 0, .null) := by decide +kernel
theorem fe_X12_writeLeaf_91 : mj_f mi_X12_writeLeaf 91 = some (.iload 4, 2, 4, 0, .null) := by decide +kernel
theorem fe_X12_writeLeaf_93 : mj_f mi_X12_writeLeaf 93 = some (.iload_n 3, 1, 3, 0, .null) := by decide +kernel
theorem fe_X12_writeLeaf_94 : mj_f mi_X12_writeLeaf 94 = some (.if_icmp .ge 31, 3, 125, 0, .null) := by decide +kernel
theorem fe_X12_writeLeaf_97 : mj_f mi_X12_writeLeaf 97 = some (.aload_n 0, 1, 0, 0, .null) := by decide +kernel
theorem fe_X12_writeLeaf_98 : mj_f mi_X12_writeLeaf 98 = some (.aload_n 0, 1, 0, 0, .null) := by decide +kernel
theorem fe_X12_writeLeaf_99 : mj_f mi_X12_writeLeaf 99 = some (.iload_n 1, 1, 1, 0, .null) := by decide +kernel
theorem fe_X12_writeLeaf_100 : mj_f mi_X12_writeLeaf 100 = some (.iload 4, 2, 4, 0, .null) := by decide +kernel
theorem fe_X12_writeLeaf_102 : mj_f mi_X12_writeLeaf 102 = some (.invokevirtual 168, 3, 189, 2, .null) := by decide +kernel
theorem fe_X12_writeLeaf_105 : mj_f mi_X12_writeLeaf 105 = some (.aload_n 0, 1, 0, 0, .null) := by decide +kernel
theorem fe_X12_writeLeaf_106 : mj_f mi_X12_writeLeaf 106 = some (.iload_n 1, 1, 1, 0, .null) := by decide +kernel
theorem fe_X12_writeLeaf_107 : mj_f mi_X12_writeLeaf 107 = some (.invokevirtual 203, 3, 197, 1, .null) := by decide +kernel
theorem fe_X12_writeLeaf_110 : mj_f mi_X12_writeLeaf 110 = some (.lsub, 1, 0, 0, .null) := by decide +kernel
theorem fe_X12_writeLeaf_111 : mj_f mi_X12_writeLeaf 111 = some (.aload_n 0, 1, 0, 0, .null) := by decide +kernel
theorem fe_X12_writeLeaf_112 : mj_f mi_X12_writeLeaf 112 = some (.iload_n 1, 1, 1, 0, .null) := by decide +kernel
theorem fe_X12_writeLeaf_113 : mj_f mi_X12_writeLeaf 113 = some (.invokevirtual 207, 3, 198, 1, .null) := by decide +kernel
theorem fe_X12_writeLeaf_116 : mj_f mi_X12_writeLeaf 116 = some (.invokevirtual 244, 3, 206, 2, .null) := by decide +kernel
theorem fe_X12_writeLeaf_119 : mj_f mi_X12_writeLeaf 119 = some (.iinc 4 1, 3, 4, 0, .int (1)) := by decide +kernel
theorem fe_X12_writeLeaf_122 : mj_f mi_X12_writeLeaf 122 = some (.goto (-31), 3, 91, 0, .null) := by decide +kernel
theorem fe_X12_writeLeaf_125 : mj_f mi_X12_writeLeaf 125 = some (.aload_n 0, 1, 0, 0, .null) := by decide +kernel
theorem fe_X12_writeLeaf_126 : mj_f mi_X12_writeLeaf 126 = some (.invokevirtual 248, 3, 207, 0, .null) := by decide +kernel
theorem fe_X12_writeLeaf_129 : mj_f mi_X12_writeLeaf 129 = some (.return_, 1, 0, 0, .null) := by decide +kernel
theorem fe_X12_writeLeaf_130 : mj_f mi_X12_writeLeaf 130 = some (.aload_n 0, 1, 0, 0, .null) := by decide +kernel
theorem fe_X12_writeLeaf_131 : mj_f mi_X12_writeLeaf 131 = some (.iload_n 1, 1, 1, 0, .null) := by decide +kernel
theorem fe_X12_writeLeaf_132 : mj_f mi_X12_writeLeaf 132 = some (.invokevirtual 211, 3, 196, 1, .null) := by decide +kernel
theorem fe_X12_writeLeaf_135 : mj_f mi_X12_writeLeaf 135 = some (.pop, 1, 0, 0, .null) := by decide +kernel
theorem fe_X12_writeLeaf_136 : mj_f mi_X12_writeLeaf 136 = some (.aload_n 0, 1, 0, 0, .null) := by decide +kernel
theorem fe_X12_writeLeaf_137 : mj_f mi_X12_writeLeaf 137 = some (.aload_n 0, 1, 0, 0, .null) := by decide +kernel
theorem fe_X12_writeLeaf_138 : mj_f mi_X12_writeLeaf 138 = some (.getfield 67, 3, 12, 18, .long 0) := by decide +kernel
theorem fe_X12_writeLeaf_141 : mj_f mi_X12_writeLeaf 141 = some (.invokestatic 184, 3, 185, 1, .null) := by decide +kernel
theorem fe_X12_writeLeaf_144 : mj_f mi_X12_writeLeaf 144 = some (.invokevirtual 240, 3, 205, 1, .null) := by decide +kernel
theorem fe_X12_writeLeaf_147 : mj_f mi_X12_writeLeaf 147 = some (.aload_n 0, 1, 0, 0, .null) := by decide +kernel
theorem fe_X12_writeLeaf_148 : mj_f mi_X12_writeLeaf 148 = some (.aload_n 0, 1, 0, 0, .null) := by decide +kernel
theorem fe_X12_writeLeaf_149 : mj_f mi_X12_writeLeaf 149 = some (.getfield 71, 3, 12, 19, .int 0) := by decide +kernel
theorem fe_X12_writeLeaf_152 : mj_f mi_X12_writeLeaf 152 = some (.invokevirtual 237, 3, 204, 1, .null) := by decide +kernel
theorem fe_X12_writeLeaf_155 : mj_f mi_X12_writeLeaf 155 = some (.aload_n 0, 1, 0, 0, .null) := by decide +kernel
theorem fe_X12_writeLeaf_156 : mj_f mi_X12_writeLeaf 156 = some (.aload_n 0, 1, 0, 0, .null) := by decide +kernel
theorem fe_X12_writeLeaf_157 : mj_f mi_X12_writeLeaf 157 = some (.getfield 74, 3, 12, 20, .int 0) := by decide +kernel
theorem fe_X12_writeLeaf_160 : mj_f mi_X12_writeLeaf 160 = some (.invokevirtual 237, 3, 204, 1, .null) := by decide +kernel
theorem fe_X12_writeLeaf_163 : mj_f mi_X12_writeLeaf 163 = some (.iconst 0, 1, 0, 0, .int (0)) := by decide +kernel
theorem fe_X12_writeLeaf_164 : mj_f mi_X12_writeLeaf 164 = some (.istore 4, 2, 4, 0, .null) := by decide +kernel
theorem fe_X12_writeLeaf_166 : mj_f mi_X12_writeLeaf 166 = some (.iload 4, 2, 4, 0, .null) := by decide +kernel
theorem fe_X12_writeLeaf_168 : mj_f mi_X12_writeLeaf 168 = some (.iload_n 3, 1, 3, 0, .null) := by decide +kernel
theorem fe_X12_writeLeaf_169 : mj_f mi_X12_writeLeaf 169 = some (.if_icmp .ge 54, 3, 223, 0, .null) := by decide +kernel
theorem fe_X12_writeLeaf_172 : mj_f mi_X12_writeLeaf 172 = some (.aload_n 0, 1, 0, 0, .null) := by decide +kernel
theorem fe_X12_writeLeaf_173 : mj_f mi_X12_writeLeaf 173 = some (.aload_n 0, 1, 0, 0, .null) := by decide +kernel
theorem fe_X12_writeLeaf_174 : mj_f mi_X12_writeLeaf 174 = some (.iload_n 1, 1, 1, 0, .null) := by decide +kernel
theorem fe_X12_writeLeaf_175 : mj_f mi_X12_writeLeaf 175 = some (.iload 4, 2, 4, 0, .null) := by decide +kernel
theorem fe_X12_writeLeaf_177 : mj_f mi_X12_writeLeaf 177 = some (.invokevirtual 168, 3, 189, 2, .null) := by decide +kernel
theorem fe_X12_writeLeaf_180 : mj_f mi_X12_writeLeaf 180 = some (.aload_n 0, 1, 0, 0, .null) := by decide +kernel
theorem fe_X12_writeLeaf_181 : mj_f mi_X12_writeLeaf 181 = some (.getfield 67, 3, 12, 18, .long 0) := by decide +kernel
theorem fe_X12_writeLeaf_184 : mj_f mi_X12_writeLeaf 184 = some (.aload_n 0, 1, 0, 0, .null) := by decide +kernel
theorem fe_X12_writeLeaf_185 : mj_f mi_X12_writeLeaf 185 = some (.getfield 71, 3, 12, 19, .int 0) := by decide +kernel
theorem fe_X12_writeLeaf_188 : mj_f mi_X12_writeLeaf 188 = some (.invokevirtual 199, 3, 195, 3, .null) := by decide +kernel
theorem fe_X12_writeLeaf_191 : mj_f mi_X12_writeLeaf 191 = some (.ifCond .eq 6, 3, 197, 0, .null) := by decide +kernel
theorem fe_X12_writeLeaf_194 : mj_f mi_X12_writeLeaf 194 = some (.goto 23, 3, 217, 0, .null) := by decide +kernel
theorem fe_X12_writeLeaf_197 : mj_f mi_X12_writeLeaf 197 = some (.aload_n 0, 1, 0, 0, .null) := by decide +kernel
theorem fe_X12_writeLeaf_198 : mj_f mi_X12_writeLeaf 198 = some (.iload 4, 2, 4, 0, .null) := by decide +kernel
theorem fe_X12_writeLeaf_200 : mj_f mi_X12_writeLeaf 200 = some (.invokevirtual 237, 3, 204, 1, .null) := by decide +kernel
theorem fe_X12_writeLeaf_203 : mj_f mi_X12_writeLeaf 203 = some (.aload_n 0, 1, 0, 0, .null) := by decide +kernel
theorem fe_X12_writeLeaf_204 : mj_f mi_X12_writeLeaf 204 = some (.aload_n 0, 1, 0, 0, .null) := by decide +kernel
theorem fe_X12_writeLeaf_205 : mj_f mi_X12_writeLeaf 205 = some (.iload_n 1, 1, 1, 0, .null) := by decide +kernel
theorem fe_X12_writeLeaf_206 : mj_f mi_X12_writeLeaf 206 = some (.iload 4, 2, 4, 0, .null) := by decide +kernel
theorem fe_X12_writeLeaf_208 : mj_f mi_X12_writeLeaf 208 = some (.invokevirtual 168, 3, 189, 2, .null) := by decide +kernel
theorem fe_X12_writeLeaf_211 : mj_f mi_X12_writeLeaf 211 = some (.invokestatic 184, 3, 185, 1, .null) := by decide +kernel
theorem fe_X12_writeLeaf_214 : mj_f mi_X12_writeLeaf 214 = some (.invokevirtual 240, 3, 205, 1, .null) := by decide +kernel
theorem fe_X12_writeLeaf_217 : mj_f mi_X12_writeLeaf 217 = some (.iinc 4 1, 3, 4, 0, .int (1)) := by decide +kernel
theorem fe_X12_writeLeaf_220 : mj_f mi_X12_writeLeaf 220 = some (.goto (-54), 3, 166, 0, .null) := by decide +kernel
theorem fe_X12_writeLeaf_223 : mj_f mi_X12_writeLeaf 223 = some (.iconst 0, 1, 0, 0, .int (0)) := by decide +kernel
theorem fe_X12_writeLeaf_224 : mj_f mi_X12_writeLeaf 224 = some (.istore 4, 2, 4, 0, .null) := by decide +kernel
theorem fe_X12_writeLeaf_226 : mj_f mi_X12_writeLeaf 226 = some (.iload 4, 2, 4, 0, .null) := by decide +kernel
theorem fe_X12_writeLeaf_228 : mj_f mi_X12_writeLeaf 228 = some (.iload_n 3, 1, 3, 0, .null) := by decide +kernel
theorem fe_X12_writeLeaf_229 : mj_f mi_X12_writeLeaf 229 = some (.if_icmp .ge 55, 3, 284, 0, .null) := by decide +kernel
theorem fe_X12_writeLeaf_232 : mj_f mi_X12_writeLeaf 232 = some (.aload_n 0, 1, 0, 0, .null) := by decide +kernel
theorem fe_X12_writeLeaf_233 : mj_f mi_X12_writeLeaf 233 = some (.aload_n 0, 1, 0, 0, .null) := by decide +kernel
theorem fe_X12_writeLeaf_234 : mj_f mi_X12_writeLeaf 234 = some (.aload_n 0, 1, 0, 0, .null) := by decide +kernel
theorem fe_X12_writeLeaf_235 : mj_f mi_X12_writeLeaf 235 = some (.iload_n 1, 1, 1, 0, .null) := by decide +kernel
theorem fe_X12_writeLeaf_236 : mj_f mi_X12_writeLeaf 236 = some (.iload 4, 2, 4, 0, .null) := by decide +kernel
theorem fe_X12_writeLeaf_238 : mj_f mi_X12_writeLeaf 238 = some (.invokevirtual 168, 3, 189, 2, .null) := by decide +kernel
theorem fe_X12_writeLeaf_241 : mj_f mi_X12_writeLeaf 241 = some (.aload_n 0, 1, 0, 0, .null) := by decide +kernel
theorem fe_X12_writeLeaf_242 : mj_f mi_X12_writeLeaf 242 = some (.getfield 67, 3, 12, 18, .long 0) := by decide +kernel
theorem fe_X12_writeLeaf_245 : mj_f mi_X12_writeLeaf 245 = some (.aload_n 0, 1, 0, 0, .null) := by decide +kernel
theorem fe_X12_writeLeaf_246 : mj_f mi_X12_writeLeaf 246 = some (.getfield 71, 3, 12, 19, .int 0) := by decide +kernel
theorem fe_X12_writeLeaf_249 : mj_f mi_X12_writeLeaf 249 = some (.invokevirtual 199, 3, 195, 3, .null) := by decide +kernel
theorem fe_X12_writeLeaf_252 : mj_f mi_X12_writeLeaf 252 = some (.ifCond .eq 18, 3, 270, 0, .null) := by decide +kernel
theorem fe_X12_writeLeaf_255 : mj_f mi_X12_writeLeaf 255 = some (.aload_n 0, 1, 0, 0, .null) := by decide +kernel
theorem fe_X12_writeLeaf_256 : mj_f mi_X12_writeLeaf 256 = some (.iload_n 1, 1, 1, 0, .null) := by decide +kernel
theorem fe_X12_writeLeaf_257 : mj_f mi_X12_writeLeaf 257 = some (.iload 4, 2, 4, 0, .null) := by decide +kernel
theorem fe_X12_writeLeaf_259 : mj_f mi_X12_writeLeaf 259 = some (.invokevirtual 168, 3, 189, 2, .null) := by decide +kernel
theorem fe_X12_writeLeaf_262 : mj_f mi_X12_writeLeaf 262 = some (.aload_n 0, 1, 0, 0, .null) := by decide +kernel
theorem fe_X12_writeLeaf_263 : mj_f mi_X12_writeLeaf 263 = some (.getfield 67, 3, 12, 18, .long 0) := by decide +kernel
theorem fe_X12_writeLeaf_266 : mj_f mi_X12_writeLeaf 266 = some (.lsub, 1, 0, 0, .null) := by decide +kernel
theorem fe_X12_writeLeaf_267 : mj_f mi_X12_writeLeaf 267 = some (.goto 4, 3, 271, 0, .null) := by decide +kernel
theorem fe_X12_writeLeaf_270 : mj_f mi_X12_writeLeaf 270 = some (.lconst 0, 1, 0, 0, .long 0) := by decide +kernel
theorem fe_X12_writeLeaf_271 : mj_f mi_X12_writeLeaf 271 = some (.aload_n 0, 1, 0, 0, .null) := by decide +kernel
theorem fe_X12_writeLeaf_272 : mj_f mi_X12_writeLeaf 272 = some (.getfield 71, 3, 12, 19, .int 0) := by decide +kernel
theorem fe_X12_writeLeaf_275 : mj_f mi_X12_writeLeaf 275 = some (.invokevirtual 244, 3, 206, 2, .null) := by decide +kernel
theorem fe_X12_writeLeaf_278 : mj_f mi_X12_writeLeaf 278 = some (.iinc 4 1, 3, 4, 0, .int (1)) := by decide +kernel
theorem fe_X12_writeLeaf_281 : mj_f mi_X12_writeLeaf 281 = some (.goto (-55), 3, 226, 0, .null) := by decide +kernel
theorem fe_X12_writeLeaf_284 : mj_f mi_X12_writeLeaf 284 = some (.aload_n 0, 1, 0, 0, .null) := by decide +kernel
theorem fe_X12_writeLeaf_285 : mj_f mi_X12_writeLeaf 285 = some (.invokevirtual 248, 3, 207, 0, .null) := by decide +kernel
theorem fe_X12_writeLeaf_288 : mj_f mi_X12_writeLeaf 288 = some (.return_, 1, 0, 0, .null) := by decide +kernel
def ct_X12_rowsOf : MJT := [
  (0, 0, .aload_n 0, 1, 0, 0, .null),
  (1, 1212, .getfield 7, 3, 12, 0, .null),
  (4, 0, .iload_n 1, 1, 1, 0, .null),
  (5, 0, .iaload, 1, 0, 0, .null),
  (6, 0, .bipush 32, 2, 0, 0, .int (32)),
  (8, 0, .iload_n 2, 1, 2, 0, .null),
  (9, 0, .imul, 1, 0, 0, .null),
  (10, 0, .isub, 1, 0, 0, .null),
  (11, 0, .istore_n 3, 1, 3, 0, .null),
  (12, 0, .iload_n 3, 1, 3, 0, .null),
  (13, 0, .bipush 32, 2, 0, 0, .int (32)),
  (15, 0, .if_icmp .le 8, 3, 23, 0, .null),
  (18, 0, .bipush 32, 2, 0, 0, .int (32)),
  (20, 0, .goto 4, 3, 24, 0, .null),
  (23, 0, .iload_n 3, 1, 3, 0, .null),
  (24, 0, .ireturn, 1, 0, 0, .null)]
abbrev id_X12_rowsOf : Nat := 211
def mi_X12_rowsOf : MI := (yX12_rowsOf, cX12_rowsOf, 4, (some .int), 12, ct_X12_rowsOf)
theorem fe_X12_rowsOf_0 : mj_f mi_X12_rowsOf 0 = some (.aload_n 0, 1, 0, 0, .null) := by decide +kernel
theorem fe_X12_rowsOf_1 : mj_f mi_X12_rowsOf 1 = some (.getfield 7, 3, 12, 0, .null) := by decide +kernel
theorem fe_X12_rowsOf_4 : mj_f mi_X12_rowsOf 4 = some (.iload_n 1, 1, 1, 0, .null) := by decide +kernel
theorem fe_X12_rowsOf_5 : mj_f mi_X12_rowsOf 5 = some (.iaload, 1, 0, 0, .null) := by decide +kernel
theorem fe_X12_rowsOf_6 : mj_f mi_X12_rowsOf 6 = some (.bipush 32, 2, 0, 0, .int (32)) := by decide +kernel
theorem fe_X12_rowsOf_8 : mj_f mi_X12_rowsOf 8 = some (.iload_n 2, 1, 2, 0, .null) := by decide +kernel
theorem fe_X12_rowsOf_9 : mj_f mi_X12_rowsOf 9 = some (.imul, 1, 0, 0, .null) := by decide +kernel
theorem fe_X12_rowsOf_10 : mj_f mi_X12_rowsOf 10 = some (.isub, 1, 0, 0, .null) := by decide +kernel
theorem fe_X12_rowsOf_11 : mj_f mi_X12_rowsOf 11 = some (.istore_n 3, 1, 3, 0, .null) := by decide +kernel
theorem fe_X12_rowsOf_12 : mj_f mi_X12_rowsOf 12 = some (.iload_n 3, 1, 3, 0, .null) := by decide +kernel
theorem fe_X12_rowsOf_13 : mj_f mi_X12_rowsOf 13 = some (.bipush 32, 2, 0, 0, .int (32)) := by decide +kernel
theorem fe_X12_rowsOf_15 : mj_f mi_X12_rowsOf 15 = some (.if_icmp .le 8, 3, 23, 0, .null) := by decide +kernel
theorem fe_X12_rowsOf_18 : mj_f mi_X12_rowsOf 18 = some (.bipush 32, 2, 0, 0, .int (32)) := by decide +kernel
theorem fe_X12_rowsOf_20 : mj_f mi_X12_rowsOf 20 = some (.goto 4, 3, 24, 0, .null) := by decide +kernel
theorem fe_X12_rowsOf_23 : mj_f mi_X12_rowsOf 23 = some (.iload_n 3, 1, 3, 0, .null) := by decide +kernel
theorem fe_X12_rowsOf_24 : mj_f mi_X12_rowsOf 24 = some (.ireturn, 1, 0, 0, .null) := by decide +kernel
def ct_X12_gathers : MJT := [
  (0, 0, .aload_n 0, 1, 0, 0, .null),
  (1, 1227, .getfield 58, 3, 12, 15, .null),
  (4, 0, .iconst 0, 1, 0, 0, .int (0)),
  (5, 0, .iconst 0, 1, 0, 0, .int (0)),
  (6, 0, .iastore, 1, 0, 0, .null),
  (7, 0, .iconst 0, 1, 0, 0, .int (0)),
  (8, 0, .istore_n 3, 1, 3, 0, .null),
  (9, 0, .iload_n 3, 1, 3, 0, .null),
  (10, 0, .aload_n 0, 1, 0, 0, .null),
  (11, 0, .iload_n 1, 1, 1, 0, .null),
  (12, 0, .iload_n 2, 1, 2, 0, .null),
  (13, 1401, .invokevirtual 251, 3, 211, 2, .null),
  (16, 0, .if_icmp .ge 64, 3, 80, 0, .null),
  (19, 0, .sipush 160, 3, 0, 0, .int (160)),
  (22, 0, .iload_n 1, 1, 1, 0, .null),
  (23, 0, .imul, 1, 0, 0, .null),
  (24, 0, .bipush 32, 2, 0, 0, .int (32)),
  (26, 0, .iload_n 2, 1, 2, 0, .null),
  (27, 0, .imul, 1, 0, 0, .null),
  (28, 0, .iadd, 1, 0, 0, .null),
  (29, 0, .iload_n 3, 1, 3, 0, .null),
  (30, 0, .iadd, 1, 0, 0, .null),
  (31, 0, .istore 4, 2, 4, 0, .null),
  (33, 0, .aload_n 0, 1, 0, 0, .null),
  (34, 1216, .getfield 23, 3, 12, 4, .null),
  (37, 0, .iload 4, 2, 4, 0, .null),
  (39, 0, .baload, 1, 0, 0, .null),
  (40, 0, .ifCond .eq 6, 3, 46, 0, .null),
  (43, 0, .goto 31, 3, 74, 0, .null),
  (46, 0, .aload_n 0, 1, 0, 0, .null),
  (47, 1226, .getfield 55, 3, 12, 14, .null),
  (50, 0, .aload_n 0, 1, 0, 0, .null),
  (51, 1227, .getfield 58, 3, 12, 15, .null),
  (54, 0, .iconst 0, 1, 0, 0, .int (0)),
  (55, 0, .iaload, 1, 0, 0, .null),
  (56, 0, .aload_n 0, 1, 0, 0, .null),
  (57, 1215, .getfield 19, 3, 12, 3, .null),
  (60, 0, .iload 4, 2, 4, 0, .null),
  (62, 0, .laload, 1, 0, 0, .null),
  (63, 0, .lastore, 1, 0, 0, .null),
  (64, 0, .aload_n 0, 1, 0, 0, .null),
  (65, 1227, .getfield 58, 3, 12, 15, .null),
  (68, 0, .iconst 0, 1, 0, 0, .int (0)),
  (69, 0, .dup2, 1, 0, 0, .null),
  (70, 0, .iaload, 1, 0, 0, .null),
  (71, 0, .iconst 1, 1, 0, 0, .int (1)),
  (72, 0, .iadd, 1, 0, 0, .null),
  (73, 0, .iastore, 1, 0, 0, .null),
  (74, 0, .iinc 3 1, 3, 3, 0, .int (1)),
  (77, 0, .goto (-68), 3, 9, 0, .null),
  (80, 0, .return_, 1, 0, 0, .null)]
abbrev id_X12_gathers : Nat := 212
def mi_X12_gathers : MI := (yX12_gathers, cX12_gathers, 5, none, 12, ct_X12_gathers)
theorem fe_X12_gathers_0 : mj_f mi_X12_gathers 0 = some (.aload_n 0, 1, 0, 0, .null) := by decide +kernel
theorem fe_X12_gathers_1 : mj_f mi_X12_gathers 1 = some (.getfield 58, 3, 12, 15, .null) := by decide +kernel
theorem fe_X12_gathers_4 : mj_f mi_X12_gathers 4 = some (.iconst 0, 1, 0, 0, .int (0)) := by decide +kernel
theorem fe_X12_gathers_5 : mj_f mi_X12_gathers 5 = some (.iconst 0, 1, 0, 0, .int (0)) := by decide +kernel
theorem fe_X12_gathers_6 : mj_f mi_X12_gathers 6 = some (.iastore, 1, 0, 0, .null) := by decide +kernel
theorem fe_X12_gathers_7 : mj_f mi_X12_gathers 7 = some (.iconst 0, 1, 0, 0, .int (0)) := by decide +kernel
theorem fe_X12_gathers_8 : mj_f mi_X12_gathers 8 = some (.istore_n 3, 1, 3, 0, .null) := by decide +kernel
theorem fe_X12_gathers_9 : mj_f mi_X12_gathers 9 = some (.iload_n 3, 1, 3, 0, .null) := by decide +kernel
theorem fe_X12_gathers_10 : mj_f mi_X12_gathers 10 = some (.aload_n 0, 1, 0, 0, .null) := by decide +kernel
theorem fe_X12_gathers_11 : mj_f mi_X12_gathers 11 = some (.iload_n 1, 1, 1, 0, .null) := by decide +kernel
theorem fe_X12_gathers_12 : mj_f mi_X12_gathers 12 = some (.iload_n 2, 1, 2, 0, .null) := by decide +kernel
theorem fe_X12_gathers_13 : mj_f mi_X12_gathers 13 = some (.invokevirtual 251, 3, 211, 2, .null) := by decide +kernel
theorem fe_X12_gathers_16 : mj_f mi_X12_gathers 16 = some (.if_icmp .ge 64, 3, 80, 0, .null) := by decide +kernel
theorem fe_X12_gathers_19 : mj_f mi_X12_gathers 19 = some (.sipush 160, 3, 0, 0, .int (160)) := by decide +kernel
theorem fe_X12_gathers_22 : mj_f mi_X12_gathers 22 = some (.iload_n 1, 1, 1, 0, .null) := by decide +kernel
theorem fe_X12_gathers_23 : mj_f mi_X12_gathers 23 = some (.imul, 1, 0, 0, .null) := by decide +kernel
theorem fe_X12_gathers_24 : mj_f mi_X12_gathers 24 = some (.bipush 32, 2, 0, 0, .int (32)) := by decide +kernel
theorem fe_X12_gathers_26 : mj_f mi_X12_gathers 26 = some (.iload_n 2, 1, 2, 0, .null) := by decide +kernel
theorem fe_X12_gathers_27 : mj_f mi_X12_gathers 27 = some (.imul, 1, 0, 0, .null) := by decide +kernel
theorem fe_X12_gathers_28 : mj_f mi_X12_gathers 28 = some (.iadd, 1, 0, 0, .null) := by decide +kernel
theorem fe_X12_gathers_29 : mj_f mi_X12_gathers 29 = some (.iload_n 3, 1, 3, 0, .null) := by decide +kernel
theorem fe_X12_gathers_30 : mj_f mi_X12_gathers 30 = some (.iadd, 1, 0, 0, .null) := by decide +kernel
theorem fe_X12_gathers_31 : mj_f mi_X12_gathers 31 = some (.istore 4, 2, 4, 0, .null) := by decide +kernel
theorem fe_X12_gathers_33 : mj_f mi_X12_gathers 33 = some (.aload_n 0, 1, 0, 0, .null) := by decide +kernel
theorem fe_X12_gathers_34 : mj_f mi_X12_gathers 34 = some (.getfield 23, 3, 12, 4, .null) := by decide +kernel
theorem fe_X12_gathers_37 : mj_f mi_X12_gathers 37 = some (.iload 4, 2, 4, 0, .null) := by decide +kernel
theorem fe_X12_gathers_39 : mj_f mi_X12_gathers 39 = some (.baload, 1, 0, 0, .null) := by decide +kernel
theorem fe_X12_gathers_40 : mj_f mi_X12_gathers 40 = some (.ifCond .eq 6, 3, 46, 0, .null) := by decide +kernel
theorem fe_X12_gathers_43 : mj_f mi_X12_gathers 43 = some (.goto 31, 3, 74, 0, .null) := by decide +kernel
theorem fe_X12_gathers_46 : mj_f mi_X12_gathers 46 = some (.aload_n 0, 1, 0, 0, .null) := by decide +kernel
theorem fe_X12_gathers_47 : mj_f mi_X12_gathers 47 = some (.getfield 55, 3, 12, 14, .null) := by decide +kernel
theorem fe_X12_gathers_50 : mj_f mi_X12_gathers 50 = some (.aload_n 0, 1, 0, 0, .null) := by decide +kernel
theorem fe_X12_gathers_51 : mj_f mi_X12_gathers 51 = some (.getfield 58, 3, 12, 15, .null) := by decide +kernel
theorem fe_X12_gathers_54 : mj_f mi_X12_gathers 54 = some (.iconst 0, 1, 0, 0, .int (0)) := by decide +kernel
theorem fe_X12_gathers_55 : mj_f mi_X12_gathers 55 = some (.iaload, 1, 0, 0, .null) := by decide +kernel
theorem fe_X12_gathers_56 : mj_f mi_X12_gathers 56 = some (.aload_n 0, 1, 0, 0, .null) := by decide +kernel
theorem fe_X12_gathers_57 : mj_f mi_X12_gathers 57 = some (.getfield 19, 3, 12, 3, .null) := by decide +kernel
theorem fe_X12_gathers_60 : mj_f mi_X12_gathers 60 = some (.iload 4, 2, 4, 0, .null) := by decide +kernel
theorem fe_X12_gathers_62 : mj_f mi_X12_gathers 62 = some (.laload, 1, 0, 0, .null) := by decide +kernel
theorem fe_X12_gathers_63 : mj_f mi_X12_gathers 63 = some (.lastore, 1, 0, 0, .null) := by decide +kernel
theorem fe_X12_gathers_64 : mj_f mi_X12_gathers 64 = some (.aload_n 0, 1, 0, 0, .null) := by decide +kernel
theorem fe_X12_gathers_65 : mj_f mi_X12_gathers 65 = some (.getfield 58, 3, 12, 15, .null) := by decide +kernel
theorem fe_X12_gathers_68 : mj_f mi_X12_gathers 68 = some (.iconst 0, 1, 0, 0, .int (0)) := by decide +kernel
theorem fe_X12_gathers_69 : mj_f mi_X12_gathers 69 = some (.dup2, 1, 0, 0, .null) := by decide +kernel
theorem fe_X12_gathers_70 : mj_f mi_X12_gathers 70 = some (.iaload, 1, 0, 0, .null) := by decide +kernel
theorem fe_X12_gathers_71 : mj_f mi_X12_gathers 71 = some (.iconst 1, 1, 0, 0, .int (1)) := by decide +kernel
theorem fe_X12_gathers_72 : mj_f mi_X12_gathers 72 = some (.iadd, 1, 0, 0, .null) := by decide +kernel
theorem fe_X12_gathers_73 : mj_f mi_X12_gathers 73 = some (.iastore, 1, 0, 0, .null) := by decide +kernel
theorem fe_X12_gathers_74 : mj_f mi_X12_gathers 74 = some (.iinc 3 1, 3, 3, 0, .int (1)) := by decide +kernel
theorem fe_X12_gathers_77 : mj_f mi_X12_gathers 77 = some (.goto (-68), 3, 9, 0, .null) := by decide +kernel
theorem fe_X12_gathers_80 : mj_f mi_X12_gathers 80 = some (.return_, 1, 0, 0, .null) := by decide +kernel
def ct_X12_head : MJT := [
  (0, 0, .iconst 4, 1, 0, 0, .int (4)),
  (1, 0, .aload_n 0, 1, 0, 0, .null),
  (2, 0, .iload_n 1, 1, 1, 0, .null),
  (3, 0, .iload_n 2, 1, 2, 0, .null),
  (4, 1401, .invokevirtual 251, 3, 211, 2, .null),
  (7, 0, .aload_n 0, 1, 0, 0, .null),
  (8, 1227, .getfield 58, 3, 12, 15, .null),
  (11, 0, .iconst 0, 1, 0, 0, .int (0)),
  (12, 0, .iaload, 1, 0, 0, .null),
  (13, 0, .if_icmp .ne 7, 3, 20, 0, .null),
  (16, 0, .iconst 0, 1, 0, 0, .int (0)),
  (17, 0, .goto 15, 3, 32, 0, .null),
  (20, 0, .aload_n 0, 1, 0, 0, .null),
  (21, 0, .iload_n 1, 1, 1, 0, .null),
  (22, 0, .iload_n 2, 1, 2, 0, .null),
  (23, 1401, .invokevirtual 251, 3, 211, 2, .null),
  (26, 0, .bipush 7, 2, 0, 0, .int (7)),
  (28, 0, .iadd, 1, 0, 0, .null),
  (29, 0, .bipush 8, 2, 0, 0, .int (8)),
  (31, 0, .idiv, 1, 0, 0, .null),
  (32, 0, .iadd, 1, 0, 0, .null),
  (33, 0, .ireturn, 1, 0, 0, .null)]
abbrev id_X12_head : Nat := 213
def mi_X12_head : MI := (yX12_head, cX12_head, 3, (some .int), 12, ct_X12_head)
theorem fe_X12_head_0 : mj_f mi_X12_head 0 = some (.iconst 4, 1, 0, 0, .int (4)) := by decide +kernel
theorem fe_X12_head_1 : mj_f mi_X12_head 1 = some (.aload_n 0, 1, 0, 0, .null) := by decide +kernel
theorem fe_X12_head_2 : mj_f mi_X12_head 2 = some (.iload_n 1, 1, 1, 0, .null) := by decide +kernel
theorem fe_X12_head_3 : mj_f mi_X12_head 3 = some (.iload_n 2, 1, 2, 0, .null) := by decide +kernel
theorem fe_X12_head_4 : mj_f mi_X12_head 4 = some (.invokevirtual 251, 3, 211, 2, .null) := by decide +kernel
theorem fe_X12_head_7 : mj_f mi_X12_head 7 = some (.aload_n 0, 1, 0, 0, .null) := by decide +kernel
theorem fe_X12_head_8 : mj_f mi_X12_head 8 = some (.getfield 58, 3, 12, 15, .null) := by decide +kernel
theorem fe_X12_head_11 : mj_f mi_X12_head 11 = some (.iconst 0, 1, 0, 0, .int (0)) := by decide +kernel
theorem fe_X12_head_12 : mj_f mi_X12_head 12 = some (.iaload, 1, 0, 0, .null) := by decide +kernel
theorem fe_X12_head_13 : mj_f mi_X12_head 13 = some (.if_icmp .ne 7, 3, 20, 0, .null) := by decide +kernel
theorem fe_X12_head_16 : mj_f mi_X12_head 16 = some (.iconst 0, 1, 0, 0, .int (0)) := by decide +kernel
theorem fe_X12_head_17 : mj_f mi_X12_head 17 = some (.goto 15, 3, 32, 0, .null) := by decide +kernel
theorem fe_X12_head_20 : mj_f mi_X12_head 20 = some (.aload_n 0, 1, 0, 0, .null) := by decide +kernel
theorem fe_X12_head_21 : mj_f mi_X12_head 21 = some (.iload_n 1, 1, 1, 0, .null) := by decide +kernel
theorem fe_X12_head_22 : mj_f mi_X12_head 22 = some (.iload_n 2, 1, 2, 0, .null) := by decide +kernel
theorem fe_X12_head_23 : mj_f mi_X12_head 23 = some (.invokevirtual 251, 3, 211, 2, .null) := by decide +kernel
theorem fe_X12_head_26 : mj_f mi_X12_head 26 = some (.bipush 7, 2, 0, 0, .int (7)) := by decide +kernel
theorem fe_X12_head_28 : mj_f mi_X12_head 28 = some (.iadd, 1, 0, 0, .null) := by decide +kernel
theorem fe_X12_head_29 : mj_f mi_X12_head 29 = some (.bipush 8, 2, 0, 0, .int (8)) := by decide +kernel
theorem fe_X12_head_31 : mj_f mi_X12_head 31 = some (.idiv, 1, 0, 0, .null) := by decide +kernel
theorem fe_X12_head_32 : mj_f mi_X12_head 32 = some (.iadd, 1, 0, 0, .null) := by decide +kernel
theorem fe_X12_head_33 : mj_f mi_X12_head 33 = some (.ireturn, 1, 0, 0, .null) := by decide +kernel
def ct_X12_packs : MJT := [
  (0, 0, .aload_n 0, 1, 0, 0, .null),
  (1, 0, .iload_n 1, 1, 1, 0, .null),
  (2, 0, .iload_n 2, 1, 2, 0, .null),
  (3, 1397, .invokevirtual 254, 3, 212, 2, .null),
  (6, 0, .aload_n 0, 1, 0, 0, .null),
  (7, 0, .iload_n 1, 1, 1, 0, .null),
  (8, 0, .iload_n 2, 1, 2, 0, .null),
  (9, 1401, .invokevirtual 251, 3, 211, 2, .null),
  (12, 0, .istore_n 3, 1, 3, 0, .null),
  (13, 0, .aload_n 0, 1, 0, 0, .null),
  (14, 0, .iconst 0, 1, 0, 0, .int (0)),
  (15, 1239, .putfield 95, 3, 12, 27, .int 0),
  (18, 0, .aload_n 0, 1, 0, 0, .null),
  (19, 0, .sipush 193, 3, 0, 0, .int (193)),
  (22, 1405, .invokevirtual 237, 3, 204, 1, .null),
  (25, 0, .aload_n 0, 1, 0, 0, .null),
  (26, 0, .iload_n 3, 1, 3, 0, .null),
  (27, 1405, .invokevirtual 237, 3, 204, 1, .null),
  (30, 0, .aload_n 0, 1, 0, 0, .null),
  (31, 0, .aload_n 0, 1, 0, 0, .null),
  (32, 1227, .getfield 58, 3, 12, 15, .null),
  (35, 0, .iconst 0, 1, 0, 0, .int (0)),
  (36, 0, .iaload, 1, 0, 0, .null),
  (37, 0, .iload_n 3, 1, 3, 0, .null),
  (38, 0, .if_icmp .ne 7, 3, 45, 0, .null),
  (41, 0, .iconst 0, 1, 0, 0, .int (0)),
  (42, 0, .goto 4, 3, 46, 0, .null),
  (45, 0, .iconst 1, 1, 0, 0, .int (1)),
  (46, 1405, .invokevirtual 237, 3, 204, 1, .null),
  (49, 0, .iconst 0, 1, 0, 0, .int (0)),
  (50, 0, .istore 4, 2, 4, 0, .null),
  (52, 0, .iload 4, 2, 4, 0, .null),
  (54, 0, .iload_n 3, 1, 3, 0, .null),
  (55, 0, .if_icmp .ge 50, 3, 105, 0, .null),
  (58, 0, .aload_n 0, 1, 0, 0, .null),
  (59, 1227, .getfield 58, 3, 12, 15, .null),
  (62, 0, .iconst 0, 1, 0, 0, .int (0)),
  (63, 0, .iaload, 1, 0, 0, .null),
  (64, 0, .iload_n 3, 1, 3, 0, .null),
  (65, 0, .if_icmp .ge 40, 3, 105, 0, .null),
  (68, 0, .aload_n 0, 1, 0, 0, .null),
  (69, 0, .aload_n 0, 1, 0, 0, .null),
  (70, 1216, .getfield 23, 3, 12, 4, .null),
  (73, 0, .sipush 160, 3, 0, 0, .int (160)),
  (76, 0, .iload_n 1, 1, 1, 0, .null),
  (77, 0, .imul, 1, 0, 0, .null),
  (78, 0, .bipush 32, 2, 0, 0, .int (32)),
  (80, 0, .iload_n 2, 1, 2, 0, .null),
  (81, 0, .imul, 1, 0, 0, .null),
  (82, 0, .iadd, 1, 0, 0, .null),
  (83, 0, .iload 4, 2, 4, 0, .null),
  (85, 0, .iadd, 1, 0, 0, .null),
  (86, 0, .baload, 1, 0, 0, .null),
  (87, 0, .ifCond .eq 7, 3, 94, 0, .null),
  (90, 0, .lconst 1, 1, 0, 0, .long 1),
  (91, 0, .goto 4, 3, 95, 0, .null),
  (94, 0, .lconst 0, 1, 0, 0, .long 0),
  (95, 0, .iconst 1, 1, 0, 0, .int (1)),
  (96, 1409, .invokevirtual 244, 3, 206, 2, .null),
  (99, 0, .iinc 4 1, 3, 4, 0, .int (1)),
  (102, 0, .goto (-50), 3, 52, 0, .null),
  (105, 0, .aload_n 0, 1, 0, 0, .null),
  (106, 1413, .invokevirtual 248, 3, 207, 0, .null),
  (109, 0, .aload_n 0, 1, 0, 0, .null),
  (110, 0, .aload_n 0, 1, 0, 0, .null),
  (111, 1213, .getfield 13, 3, 12, 1, .null),
  (114, 0, .iload_n 1, 1, 1, 0, .null),
  (115, 0, .iaload, 1, 0, 0, .null),
  (116, 1417, .invokevirtual 258, 3, 202, 1, .null),
  (119, 0, .aload_n 0, 1, 0, 0, .null),
  (120, 0, .aload_n 0, 1, 0, 0, .null),
  (121, 1214, .getfield 16, 3, 12, 2, .null),
  (124, 0, .iload_n 1, 1, 1, 0, .null),
  (125, 0, .iaload, 1, 0, 0, .null),
  (126, 1487, .invokevirtual 261, 3, 203, 1, .null),
  (129, 0, .istore 4, 2, 4, 0, .null),
  (131, 0, .aload_n 0, 1, 0, 0, .null),
  (132, 1234, .getfield 80, 3, 12, 22, .null),
  (135, 0, .iconst 3, 1, 0, 0, .int (3)),
  (136, 0, .iload 4, 2, 4, 0, .null),
  (138, 0, .imul, 1, 0, 0, .null),
  (139, 0, .iaload, 1, 0, 0, .null),
  (140, 0, .istore 5, 2, 5, 0, .null),
  (142, 0, .aload_n 0, 1, 0, 0, .null),
  (143, 1234, .getfield 80, 3, 12, 22, .null),
  (146, 0, .iconst 3, 1, 0, 0, .int (3)),
  (147, 0, .iload 4, 2, 4, 0, .null),
  (149, 0, .imul, 1, 0, 0, .null),
  (150, 0, .iconst 1, 1, 0, 0, .int (1)),
  (151, 0, .iadd, 1, 0, 0, .null),
  (152, 0, .iaload, 1, 0, 0, .null),
  (153, 0, .istore 6, 2, 6, 0, .null),
  (155, 0, .aload_n 0, 1, 0, 0, .null),
  (156, 1235, .getfield 83, 3, 12, 23, .null),
  (159, 0, .iload 4, 2, 4, 0, .null),
  (161, 0, .iaload, 1, 0, 0, .null),
  (162, 0, .iconst 1, 1, 0, 0, .int (1)),
  (163, 0, .if_icmp .le 18, 3, 181, 0, .null),
  (166, 0, .aload_n 0, 1, 0, 0, .null),
  (167, 0, .iconst 0, 1, 0, 0, .int (0)),
  (168, 0, .iload 5, 2, 5, 0, .null),
  (170, 1465, .invokevirtual 225, 3, 190, 2, .null),
  (173, 0, .pop, 1, 0, 0, .null),
  (174, 0, .aload_n 0, 1, 0, 0, .null),
  (175, 0, .iconst 0, 1, 0, 0, .int (0)),
  (176, 0, .iload 5, 2, 5, 0, .null),
  (178, 1491, .invokevirtual 264, 3, 208, 2, .null),
  (181, 0, .aload_n 0, 1, 0, 0, .null),
  (182, 1235, .getfield 83, 3, 12, 23, .null),
  (185, 0, .iload 4, 2, 4, 0, .null),
  (187, 0, .iaload, 1, 0, 0, .null),
  (188, 0, .iconst 2, 1, 0, 0, .int (2)),
  (189, 0, .if_icmp .le 18, 3, 207, 0, .null),
  (192, 0, .aload_n 0, 1, 0, 0, .null),
  (193, 0, .iconst 1, 1, 0, 0, .int (1)),
  (194, 0, .iload 6, 2, 6, 0, .null),
  (196, 1465, .invokevirtual 225, 3, 190, 2, .null),
  (199, 0, .pop, 1, 0, 0, .null),
  (200, 0, .aload_n 0, 1, 0, 0, .null),
  (201, 0, .iconst 1, 1, 0, 0, .int (1)),
  (202, 0, .iload 6, 2, 6, 0, .null),
  (204, 1491, .invokevirtual 264, 3, 208, 2, .null),
  (207, 0, .aload_n 0, 1, 0, 0, .null),
  (208, 0, .aload_n 0, 1, 0, 0, .null),
  (209, 1235, .getfield 83, 3, 12, 23, .null),
  (212, 0, .iload 4, 2, 4, 0, .null),
  (214, 0, .iaload, 1, 0, 0, .null),
  (215, 0, .iconst 1, 1, 0, 0, .int (1)),
  (216, 0, .isub, 1, 0, 0, .null),
  (217, 0, .aload_n 0, 1, 0, 0, .null),
  (218, 1234, .getfield 80, 3, 12, 22, .null),
  (221, 0, .iconst 3, 1, 0, 0, .int (3)),
  (222, 0, .iload 4, 2, 4, 0, .null),
  (224, 0, .imul, 1, 0, 0, .null),
  (225, 0, .aload_n 0, 1, 0, 0, .null),
  (226, 1235, .getfield 83, 3, 12, 23, .null),
  (229, 0, .iload 4, 2, 4, 0, .null),
  (231, 0, .iaload, 1, 0, 0, .null),
  (232, 0, .iadd, 1, 0, 0, .null),
  (233, 0, .iconst 1, 1, 0, 0, .int (1)),
  (234, 0, .isub, 1, 0, 0, .null),
  (235, 0, .iaload, 1, 0, 0, .null),
  (236, 1500, .invokevirtual 267, 3, 210, 2, .null),
  (239, 0, .aload_n 0, 1, 0, 0, .null),
  (240, 1235, .getfield 83, 3, 12, 23, .null),
  (243, 0, .iload 4, 2, 4, 0, .null),
  (245, 0, .iaload, 1, 0, 0, .null),
  (246, 0, .iconst 2, 1, 0, 0, .int (2)),
  (247, 0, .if_icmp .le 10, 3, 257, 0, .null),
  (250, 0, .aload_n 0, 1, 0, 0, .null),
  (251, 0, .iconst 1, 1, 0, 0, .int (1)),
  (252, 0, .iload 6, 2, 6, 0, .null),
  (254, 1504, .invokevirtual 270, 3, 209, 2, .null),
  (257, 0, .aload_n 0, 1, 0, 0, .null),
  (258, 1235, .getfield 83, 3, 12, 23, .null),
  (261, 0, .iload 4, 2, 4, 0, .null),
  (263, 0, .iaload, 1, 0, 0, .null),
  (264, 0, .iconst 1, 1, 0, 0, .int (1)),
  (265, 0, .if_icmp .le 10, 3, 275, 0, .null),
  (268, 0, .aload_n 0, 1, 0, 0, .null),
  (269, 0, .iconst 0, 1, 0, 0, .int (0)),
  (270, 0, .iload 5, 2, 5, 0, .null),
  (272, 1504, .invokevirtual 270, 3, 209, 2, .null),
  (275, 0, .bipush 7, 2, 0, 0, .int (7)),
  (277, 0, .istore 7, 2, 7, 0, .null),
  (279, 0, .iconst 0, 1, 0, 0, .int (0)),
  (280, 0, .istore 8, 2, 8, 0, .null),
  (282, 0, .iload 8, 2, 8, 0, .null),
  (284, 0, .aload_n 0, 1, 0, 0, .null),
  (285, 1239, .getfield 95, 3, 12, 27, .int 0),
  (288, 0, .if_icmp .ge 28, 3, 316, 0, .null),
  (291, 0, .bipush 31, 2, 0, 0, .int (31)),
  (293, 0, .iload 7, 2, 7, 0, .null),
  (295, 0, .imul, 1, 0, 0, .null),
  (296, 0, .aload_n 0, 1, 0, 0, .null),
  (297, 1238, .getfield 92, 3, 12, 26, .null),
  (300, 0, .iload 8, 2, 8, 0, .null),
  (302, 0, .iaload, 1, 0, 0, .null),
  (303, 0, .iadd, 1, 0, 0, .null),
  (304, 0, .sipush 255, 3, 0, 0, .int (255)),
  (307, 0, .iand, 1, 0, 0, .null),
  (308, 0, .istore 7, 2, 7, 0, .null),
  (310, 0, .iinc 8 1, 3, 8, 0, .int (1)),
  (313, 0, .goto (-31), 3, 282, 0, .null),
  (316, 0, .aload_n 0, 1, 0, 0, .null),
  (317, 0, .iload 7, 2, 7, 0, .null),
  (319, 1405, .invokevirtual 237, 3, 204, 1, .null),
  (322, 0, .aload_n 0, 1, 0, 0, .null),
  (323, 0, .iload_n 1, 1, 1, 0, .null),
  (324, 0, .iload_n 2, 1, 2, 0, .null),
  (325, 1508, .invokevirtual 273, 3, 215, 2, .null),
  (328, 0, .return_, 1, 0, 0, .null)]
abbrev id_X12_packs : Nat := 214
def mi_X12_packs : MI := (yX12_packs, cX12_packs, 9, none, 12, ct_X12_packs)
theorem fe_X12_packs_0 : mj_f mi_X12_packs 0 = some (.aload_n 0, 1, 0, 0, .null) := by decide +kernel
theorem fe_X12_packs_1 : mj_f mi_X12_packs 1 = some (.iload_n 1, 1, 1, 0, .null) := by decide +kernel
theorem fe_X12_packs_2 : mj_f mi_X12_packs 2 = some (.iload_n 2, 1, 2, 0, .null) := by decide +kernel
theorem fe_X12_packs_3 : mj_f mi_X12_packs 3 = some (.invokevirtual 254, 3, 212, 2, .null) := by decide +kernel
theorem fe_X12_packs_6 : mj_f mi_X12_packs 6 = some (.aload_n 0, 1, 0, 0, .null) := by decide +kernel
theorem fe_X12_packs_7 : mj_f mi_X12_packs 7 = some (.iload_n 1, 1, 1, 0, .null) := by decide +kernel
theorem fe_X12_packs_8 : mj_f mi_X12_packs 8 = some (.iload_n 2, 1, 2, 0, .null) := by decide +kernel
theorem fe_X12_packs_9 : mj_f mi_X12_packs 9 = some (.invokevirtual 251, 3, 211, 2, .null) := by decide +kernel
theorem fe_X12_packs_12 : mj_f mi_X12_packs 12 = some (.istore_n 3, 1, 3, 0, .null) := by decide +kernel
theorem fe_X12_packs_13 : mj_f mi_X12_packs 13 = some (.aload_n 0, 1, 0, 0, .null) := by decide +kernel
theorem fe_X12_packs_14 : mj_f mi_X12_packs 14 = some (.iconst 0, 1, 0, 0, .int (0)) := by decide +kernel
theorem fe_X12_packs_15 : mj_f mi_X12_packs 15 = some (.putfield 95, 3, 12, 27, .int 0) := by decide +kernel
theorem fe_X12_packs_18 : mj_f mi_X12_packs 18 = some (.aload_n 0, 1, 0, 0, .null) := by decide +kernel
theorem fe_X12_packs_19 : mj_f mi_X12_packs 19 = some (.sipush 193, 3, 0, 0, .int (193)) := by decide +kernel
theorem fe_X12_packs_22 : mj_f mi_X12_packs 22 = some (.invokevirtual 237, 3, 204, 1, .null) := by decide +kernel
theorem fe_X12_packs_25 : mj_f mi_X12_packs 25 = some (.aload_n 0, 1, 0, 0, .null) := by decide +kernel
theorem fe_X12_packs_26 : mj_f mi_X12_packs 26 = some (.iload_n 3, 1, 3, 0, .null) := by decide +kernel
theorem fe_X12_packs_27 : mj_f mi_X12_packs 27 = some (.invokevirtual 237, 3, 204, 1, .null) := by decide +kernel
theorem fe_X12_packs_30 : mj_f mi_X12_packs 30 = some (.aload_n 0, 1, 0, 0, .null) := by decide +kernel
theorem fe_X12_packs_31 : mj_f mi_X12_packs 31 = some (.aload_n 0, 1, 0, 0, .null) := by decide +kernel
theorem fe_X12_packs_32 : mj_f mi_X12_packs 32 = some (.getfield 58, 3, 12, 15, .null) := by decide +kernel
theorem fe_X12_packs_35 : mj_f mi_X12_packs 35 = some (.iconst 0, 1, 0, 0, .int (0)) := by decide +kernel
theorem fe_X12_packs_36 : mj_f mi_X12_packs 36 = some (.iaload, 1, 0, 0, .null) := by decide +kernel
theorem fe_X12_packs_37 : mj_f mi_X12_packs 37 = some (.iload_n 3, 1, 3, 0, .null) := by decide +kernel
theorem fe_X12_packs_38 : mj_f mi_X12_packs 38 = some (.if_icmp .ne 7, 3, 45, 0, .null) := by decide +kernel
theorem fe_X12_packs_41 : mj_f mi_X12_packs 41 = some (.iconst 0, 1, 0, 0, .int (0)) := by decide +kernel
theorem fe_X12_packs_42 : mj_f mi_X12_packs 42 = some (.goto 4, 3, 46, 0, .null) := by decide +kernel
theorem fe_X12_packs_45 : mj_f mi_X12_packs 45 = some (.iconst 1, 1, 0, 0, .int (1)) := by decide +kernel
theorem fe_X12_packs_46 : mj_f mi_X12_packs 46 = some (.invokevirtual 237, 3, 204, 1, .null) := by decide +kernel
theorem fe_X12_packs_49 : mj_f mi_X12_packs 49 = some (.iconst 0, 1, 0, 0, .int (0)) := by decide +kernel
theorem fe_X12_packs_50 : mj_f mi_X12_packs 50 = some (.istore 4, 2, 4, 0, .null) := by decide +kernel
theorem fe_X12_packs_52 : mj_f mi_X12_packs 52 = some (.iload 4, 2, 4, 0, .null) := by decide +kernel
theorem fe_X12_packs_54 : mj_f mi_X12_packs 54 = some (.iload_n 3, 1, 3, 0, .null) := by decide +kernel
theorem fe_X12_packs_55 : mj_f mi_X12_packs 55 = some (.if_icmp .ge 50, 3, 105, 0, .null) := by decide +kernel
theorem fe_X12_packs_58 : mj_f mi_X12_packs 58 = some (.aload_n 0, 1, 0, 0, .null) := by decide +kernel
theorem fe_X12_packs_59 : mj_f mi_X12_packs 59 = some (.getfield 58, 3, 12, 15, .null) := by decide +kernel
theorem fe_X12_packs_62 : mj_f mi_X12_packs 62 = some (.iconst 0, 1, 0, 0, .int (0)) := by decide +kernel
theorem fe_X12_packs_63 : mj_f mi_X12_packs 63 = some (.iaload, 1, 0, 0, .null) := by decide +kernel
theorem fe_X12_packs_64 : mj_f mi_X12_packs 64 = some (.iload_n 3, 1, 3, 0, .null) := by decide +kernel
theorem fe_X12_packs_65 : mj_f mi_X12_packs 65 = some (.if_icmp .ge 40, 3, 105, 0, .null) := by decide +kernel
theorem fe_X12_packs_68 : mj_f mi_X12_packs 68 = some (.aload_n 0, 1, 0, 0, .null) := by decide +kernel
theorem fe_X12_packs_69 : mj_f mi_X12_packs 69 = some (.aload_n 0, 1, 0, 0, .null) := by decide +kernel
theorem fe_X12_packs_70 : mj_f mi_X12_packs 70 = some (.getfield 23, 3, 12, 4, .null) := by decide +kernel
theorem fe_X12_packs_73 : mj_f mi_X12_packs 73 = some (.sipush 160, 3, 0, 0, .int (160)) := by decide +kernel
theorem fe_X12_packs_76 : mj_f mi_X12_packs 76 = some (.iload_n 1, 1, 1, 0, .null) := by decide +kernel
theorem fe_X12_packs_77 : mj_f mi_X12_packs 77 = some (.imul, 1, 0, 0, .null) := by decide +kernel
theorem fe_X12_packs_78 : mj_f mi_X12_packs 78 = some (.bipush 32, 2, 0, 0, .int (32)) := by decide +kernel
theorem fe_X12_packs_80 : mj_f mi_X12_packs 80 = some (.iload_n 2, 1, 2, 0, .null) := by decide +kernel
theorem fe_X12_packs_81 : mj_f mi_X12_packs 81 = some (.imul, 1, 0, 0, .null) := by decide +kernel
theorem fe_X12_packs_82 : mj_f mi_X12_packs 82 = some (.iadd, 1, 0, 0, .null) := by decide +kernel
theorem fe_X12_packs_83 : mj_f mi_X12_packs 83 = some (.iload 4, 2, 4, 0, .null) := by decide +kernel
theorem fe_X12_packs_85 : mj_f mi_X12_packs 85 = some (.iadd, 1, 0, 0, .null) := by decide +kernel
theorem fe_X12_packs_86 : mj_f mi_X12_packs 86 = some (.baload, 1, 0, 0, .null) := by decide +kernel
theorem fe_X12_packs_87 : mj_f mi_X12_packs 87 = some (.ifCond .eq 7, 3, 94, 0, .null) := by decide +kernel
theorem fe_X12_packs_90 : mj_f mi_X12_packs 90 = some (.lconst 1, 1, 0, 0, .long 1) := by decide +kernel
theorem fe_X12_packs_91 : mj_f mi_X12_packs 91 = some (.goto 4, 3, 95, 0, .null) := by decide +kernel
theorem fe_X12_packs_94 : mj_f mi_X12_packs 94 = some (.lconst 0, 1, 0, 0, .long 0) := by decide +kernel
theorem fe_X12_packs_95 : mj_f mi_X12_packs 95 = some (.iconst 1, 1, 0, 0, .int (1)) := by decide +kernel
theorem fe_X12_packs_96 : mj_f mi_X12_packs 96 = some (.invokevirtual 244, 3, 206, 2, .null) := by decide +kernel
theorem fe_X12_packs_99 : mj_f mi_X12_packs 99 = some (.iinc 4 1, 3, 4, 0, .int (1)) := by decide +kernel
theorem fe_X12_packs_102 : mj_f mi_X12_packs 102 = some (.goto (-50), 3, 52, 0, .null) := by decide +kernel
theorem fe_X12_packs_105 : mj_f mi_X12_packs 105 = some (.aload_n 0, 1, 0, 0, .null) := by decide +kernel
theorem fe_X12_packs_106 : mj_f mi_X12_packs 106 = some (.invokevirtual 248, 3, 207, 0, .null) := by decide +kernel
theorem fe_X12_packs_109 : mj_f mi_X12_packs 109 = some (.aload_n 0, 1, 0, 0, .null) := by decide +kernel
theorem fe_X12_packs_110 : mj_f mi_X12_packs 110 = some (.aload_n 0, 1, 0, 0, .null) := by decide +kernel
theorem fe_X12_packs_111 : mj_f mi_X12_packs 111 = some (.getfield 13, 3, 12, 1, .null) := by decide +kernel
theorem fe_X12_packs_114 : mj_f mi_X12_packs 114 = some (.iload_n 1, 1, 1, 0, .null) := by decide +kernel
theorem fe_X12_packs_115 : mj_f mi_X12_packs 115 = some (.iaload, 1, 0, 0, .null) := by decide +kernel
theorem fe_X12_packs_116 : mj_f mi_X12_packs 116 = some (.invokevirtual 258, 3, 202, 1, .null) := by decide +kernel
theorem fe_X12_packs_119 : mj_f mi_X12_packs 119 = some (.aload_n 0, 1, 0, 0, .null) := by decide +kernel
theorem fe_X12_packs_120 : mj_f mi_X12_packs 120 = some (.aload_n 0, 1, 0, 0, .null) := by decide +kernel
theorem fe_X12_packs_121 : mj_f mi_X12_packs 121 = some (.getfield 16, 3, 12, 2, .null) := by decide +kernel
theorem fe_X12_packs_124 : mj_f mi_X12_packs 124 = some (.iload_n 1, 1, 1, 0, .null) := by decide +kernel
theorem fe_X12_packs_125 : mj_f mi_X12_packs 125 = some (.iaload, 1, 0, 0, .null) := by decide +kernel
theorem fe_X12_packs_126 : mj_f mi_X12_packs 126 = some (.invokevirtual 261, 3, 203, 1, .null) := by decide +kernel
theorem fe_X12_packs_129 : mj_f mi_X12_packs 129 = some (.istore 4, 2, 4, 0, .null) := by decide +kernel
theorem fe_X12_packs_131 : mj_f mi_X12_packs 131 = some (.aload_n 0, 1, 0, 0, .null) := by decide +kernel
theorem fe_X12_packs_132 : mj_f mi_X12_packs 132 = some (.getfield 80, 3, 12, 22, .null) := by decide +kernel
theorem fe_X12_packs_135 : mj_f mi_X12_packs 135 = some (.iconst 3, 1, 0, 0, .int (3)) := by decide +kernel
theorem fe_X12_packs_136 : mj_f mi_X12_packs 136 = some (.iload 4, 2, 4, 0, .null) := by decide +kernel
theorem fe_X12_packs_138 : mj_f mi_X12_packs 138 = some (.imul, 1, 0, 0, .null) := by decide +kernel
theorem fe_X12_packs_139 : mj_f mi_X12_packs 139 = some (.iaload, 1, 0, 0, .null) := by decide +kernel
theorem fe_X12_packs_140 : mj_f mi_X12_packs 140 = some (.istore 5, 2, 5, 0, .null) := by decide +kernel
theorem fe_X12_packs_142 : mj_f mi_X12_packs 142 = some (.aload_n 0, 1, 0, 0, .null) := by decide +kernel
theorem fe_X12_packs_143 : mj_f mi_X12_packs 143 = some (.getfield 80, 3, 12, 22, .null) := by decide +kernel
theorem fe_X12_packs_146 : mj_f mi_X12_packs 146 = some (.iconst 3, 1, 0, 0, .int (3)) := by decide +kernel
theorem fe_X12_packs_147 : mj_f mi_X12_packs 147 = some (.iload 4, 2, 4, 0, .null) := by decide +kernel
theorem fe_X12_packs_149 : mj_f mi_X12_packs 149 = some (.imul, 1, 0, 0, .null) := by decide +kernel
theorem fe_X12_packs_150 : mj_f mi_X12_packs 150 = some (.iconst 1, 1, 0, 0, .int (1)) := by decide +kernel
theorem fe_X12_packs_151 : mj_f mi_X12_packs 151 = some (.iadd, 1, 0, 0, .null) := by decide +kernel
theorem fe_X12_packs_152 : mj_f mi_X12_packs 152 = some (.iaload, 1, 0, 0, .null) := by decide +kernel
theorem fe_X12_packs_153 : mj_f mi_X12_packs 153 = some (.istore 6, 2, 6, 0, .null) := by decide +kernel
theorem fe_X12_packs_155 : mj_f mi_X12_packs 155 = some (.aload_n 0, 1, 0, 0, .null) := by decide +kernel
theorem fe_X12_packs_156 : mj_f mi_X12_packs 156 = some (.getfield 83, 3, 12, 23, .null) := by decide +kernel
theorem fe_X12_packs_159 : mj_f mi_X12_packs 159 = some (.iload 4, 2, 4, 0, .null) := by decide +kernel
theorem fe_X12_packs_161 : mj_f mi_X12_packs 161 = some (.iaload, 1, 0, 0, .null) := by decide +kernel
theorem fe_X12_packs_162 : mj_f mi_X12_packs 162 = some (.iconst 1, 1, 0, 0, .int (1)) := by decide +kernel
theorem fe_X12_packs_163 : mj_f mi_X12_packs 163 = some (.if_icmp .le 18, 3, 181, 0, .null) := by decide +kernel
theorem fe_X12_packs_166 : mj_f mi_X12_packs 166 = some (.aload_n 0, 1, 0, 0, .null) := by decide +kernel
theorem fe_X12_packs_167 : mj_f mi_X12_packs 167 = some (.iconst 0, 1, 0, 0, .int (0)) := by decide +kernel
theorem fe_X12_packs_168 : mj_f mi_X12_packs 168 = some (.iload 5, 2, 5, 0, .null) := by decide +kernel
theorem fe_X12_packs_170 : mj_f mi_X12_packs 170 = some (.invokevirtual 225, 3, 190, 2, .null) := by decide +kernel
theorem fe_X12_packs_173 : mj_f mi_X12_packs 173 = some (.pop, 1, 0, 0, .null) := by decide +kernel
theorem fe_X12_packs_174 : mj_f mi_X12_packs 174 = some (.aload_n 0, 1, 0, 0, .null) := by decide +kernel
theorem fe_X12_packs_175 : mj_f mi_X12_packs 175 = some (.iconst 0, 1, 0, 0, .int (0)) := by decide +kernel
theorem fe_X12_packs_176 : mj_f mi_X12_packs 176 = some (.iload 5, 2, 5, 0, .null) := by decide +kernel
theorem fe_X12_packs_178 : mj_f mi_X12_packs 178 = some (.invokevirtual 264, 3, 208, 2, .null) := by decide +kernel
theorem fe_X12_packs_181 : mj_f mi_X12_packs 181 = some (.aload_n 0, 1, 0, 0, .null) := by decide +kernel
theorem fe_X12_packs_182 : mj_f mi_X12_packs 182 = some (.getfield 83, 3, 12, 23, .null) := by decide +kernel
theorem fe_X12_packs_185 : mj_f mi_X12_packs 185 = some (.iload 4, 2, 4, 0, .null) := by decide +kernel
theorem fe_X12_packs_187 : mj_f mi_X12_packs 187 = some (.iaload, 1, 0, 0, .null) := by decide +kernel
theorem fe_X12_packs_188 : mj_f mi_X12_packs 188 = some (.iconst 2, 1, 0, 0, .int (2)) := by decide +kernel
theorem fe_X12_packs_189 : mj_f mi_X12_packs 189 = some (.if_icmp .le 18, 3, 207, 0, .null) := by decide +kernel
theorem fe_X12_packs_192 : mj_f mi_X12_packs 192 = some (.aload_n 0, 1, 0, 0, .null) := by decide +kernel
theorem fe_X12_packs_193 : mj_f mi_X12_packs 193 = some (.iconst 1, 1, 0, 0, .int (1)) := by decide +kernel
theorem fe_X12_packs_194 : mj_f mi_X12_packs 194 = some (.iload 6, 2, 6, 0, .null) := by decide +kernel
theorem fe_X12_packs_196 : mj_f mi_X12_packs 196 = some (.invokevirtual 225, 3, 190, 2, .null) := by decide +kernel
theorem fe_X12_packs_199 : mj_f mi_X12_packs 199 = some (.pop, 1, 0, 0, .null) := by decide +kernel
theorem fe_X12_packs_200 : mj_f mi_X12_packs 200 = some (.aload_n 0, 1, 0, 0, .null) := by decide +kernel
theorem fe_X12_packs_201 : mj_f mi_X12_packs 201 = some (.iconst 1, 1, 0, 0, .int (1)) := by decide +kernel
theorem fe_X12_packs_202 : mj_f mi_X12_packs 202 = some (.iload 6, 2, 6, 0, .null) := by decide +kernel
theorem fe_X12_packs_204 : mj_f mi_X12_packs 204 = some (.invokevirtual 264, 3, 208, 2, .null) := by decide +kernel
theorem fe_X12_packs_207 : mj_f mi_X12_packs 207 = some (.aload_n 0, 1, 0, 0, .null) := by decide +kernel
theorem fe_X12_packs_208 : mj_f mi_X12_packs 208 = some (.aload_n 0, 1, 0, 0, .null) := by decide +kernel
theorem fe_X12_packs_209 : mj_f mi_X12_packs 209 = some (.getfield 83, 3, 12, 23, .null) := by decide +kernel
theorem fe_X12_packs_212 : mj_f mi_X12_packs 212 = some (.iload 4, 2, 4, 0, .null) := by decide +kernel
theorem fe_X12_packs_214 : mj_f mi_X12_packs 214 = some (.iaload, 1, 0, 0, .null) := by decide +kernel
theorem fe_X12_packs_215 : mj_f mi_X12_packs 215 = some (.iconst 1, 1, 0, 0, .int (1)) := by decide +kernel
theorem fe_X12_packs_216 : mj_f mi_X12_packs 216 = some (.isub, 1, 0, 0, .null) := by decide +kernel
theorem fe_X12_packs_217 : mj_f mi_X12_packs 217 = some (.aload_n 0, 1, 0, 0, .null) := by decide +kernel
theorem fe_X12_packs_218 : mj_f mi_X12_packs 218 = some (.getfield 80, 3, 12, 22, .null) := by decide +kernel
theorem fe_X12_packs_221 : mj_f mi_X12_packs 221 = some (.iconst 3, 1, 0, 0, .int (3)) := by decide +kernel
theorem fe_X12_packs_222 : mj_f mi_X12_packs 222 = some (.iload 4, 2, 4, 0, .null) := by decide +kernel
theorem fe_X12_packs_224 : mj_f mi_X12_packs 224 = some (.imul, 1, 0, 0, .null) := by decide +kernel
theorem fe_X12_packs_225 : mj_f mi_X12_packs 225 = some (.aload_n 0, 1, 0, 0, .null) := by decide +kernel
theorem fe_X12_packs_226 : mj_f mi_X12_packs 226 = some (.getfield 83, 3, 12, 23, .null) := by decide +kernel
theorem fe_X12_packs_229 : mj_f mi_X12_packs 229 = some (.iload 4, 2, 4, 0, .null) := by decide +kernel
theorem fe_X12_packs_231 : mj_f mi_X12_packs 231 = some (.iaload, 1, 0, 0, .null) := by decide +kernel
theorem fe_X12_packs_232 : mj_f mi_X12_packs 232 = some (.iadd, 1, 0, 0, .null) := by decide +kernel
theorem fe_X12_packs_233 : mj_f mi_X12_packs 233 = some (.iconst 1, 1, 0, 0, .int (1)) := by decide +kernel
theorem fe_X12_packs_234 : mj_f mi_X12_packs 234 = some (.isub, 1, 0, 0, .null) := by decide +kernel
theorem fe_X12_packs_235 : mj_f mi_X12_packs 235 = some (.iaload, 1, 0, 0, .null) := by decide +kernel
theorem fe_X12_packs_236 : mj_f mi_X12_packs 236 = some (.invokevirtual 267, 3, 210, 2, .null) := by decide +kernel
theorem fe_X12_packs_239 : mj_f mi_X12_packs 239 = some (.aload_n 0, 1, 0, 0, .null) := by decide +kernel
theorem fe_X12_packs_240 : mj_f mi_X12_packs 240 = some (.getfield 83, 3, 12, 23, .null) := by decide +kernel
theorem fe_X12_packs_243 : mj_f mi_X12_packs 243 = some (.iload 4, 2, 4, 0, .null) := by decide +kernel
theorem fe_X12_packs_245 : mj_f mi_X12_packs 245 = some (.iaload, 1, 0, 0, .null) := by decide +kernel
theorem fe_X12_packs_246 : mj_f mi_X12_packs 246 = some (.iconst 2, 1, 0, 0, .int (2)) := by decide +kernel
theorem fe_X12_packs_247 : mj_f mi_X12_packs 247 = some (.if_icmp .le 10, 3, 257, 0, .null) := by decide +kernel
theorem fe_X12_packs_250 : mj_f mi_X12_packs 250 = some (.aload_n 0, 1, 0, 0, .null) := by decide +kernel
theorem fe_X12_packs_251 : mj_f mi_X12_packs 251 = some (.iconst 1, 1, 0, 0, .int (1)) := by decide +kernel
theorem fe_X12_packs_252 : mj_f mi_X12_packs 252 = some (.iload 6, 2, 6, 0, .null) := by decide +kernel
theorem fe_X12_packs_254 : mj_f mi_X12_packs 254 = some (.invokevirtual 270, 3, 209, 2, .null) := by decide +kernel
theorem fe_X12_packs_257 : mj_f mi_X12_packs 257 = some (.aload_n 0, 1, 0, 0, .null) := by decide +kernel
theorem fe_X12_packs_258 : mj_f mi_X12_packs 258 = some (.getfield 83, 3, 12, 23, .null) := by decide +kernel
theorem fe_X12_packs_261 : mj_f mi_X12_packs 261 = some (.iload 4, 2, 4, 0, .null) := by decide +kernel
theorem fe_X12_packs_263 : mj_f mi_X12_packs 263 = some (.iaload, 1, 0, 0, .null) := by decide +kernel
theorem fe_X12_packs_264 : mj_f mi_X12_packs 264 = some (.iconst 1, 1, 0, 0, .int (1)) := by decide +kernel
theorem fe_X12_packs_265 : mj_f mi_X12_packs 265 = some (.if_icmp .le 10, 3, 275, 0, .null) := by decide +kernel
theorem fe_X12_packs_268 : mj_f mi_X12_packs 268 = some (.aload_n 0, 1, 0, 0, .null) := by decide +kernel
theorem fe_X12_packs_269 : mj_f mi_X12_packs 269 = some (.iconst 0, 1, 0, 0, .int (0)) := by decide +kernel
theorem fe_X12_packs_270 : mj_f mi_X12_packs 270 = some (.iload 5, 2, 5, 0, .null) := by decide +kernel
theorem fe_X12_packs_272 : mj_f mi_X12_packs 272 = some (.invokevirtual 270, 3, 209, 2, .null) := by decide +kernel
theorem fe_X12_packs_275 : mj_f mi_X12_packs 275 = some (.bipush 7, 2, 0, 0, .int (7)) := by decide +kernel
theorem fe_X12_packs_277 : mj_f mi_X12_packs 277 = some (.istore 7, 2, 7, 0, .null) := by decide +kernel
theorem fe_X12_packs_279 : mj_f mi_X12_packs 279 = some (.iconst 0, 1, 0, 0, .int (0)) := by decide +kernel
theorem fe_X12_packs_280 : mj_f mi_X12_packs 280 = some (.istore 8, 2, 8, 0, .null) := by decide +kernel
theorem fe_X12_packs_282 : mj_f mi_X12_packs 282 = some (.iload 8, 2, 8, 0, .null) := by decide +kernel
theorem fe_X12_packs_284 : mj_f mi_X12_packs 284 = some (.aload_n 0, 1, 0, 0, .null) := by decide +kernel
theorem fe_X12_packs_285 : mj_f mi_X12_packs 285 = some (.getfield 95, 3, 12, 27, .int 0) := by decide +kernel
theorem fe_X12_packs_288 : mj_f mi_X12_packs 288 = some (.if_icmp .ge 28, 3, 316, 0, .null) := by decide +kernel
theorem fe_X12_packs_291 : mj_f mi_X12_packs 291 = some (.bipush 31, 2, 0, 0, .int (31)) := by decide +kernel
theorem fe_X12_packs_293 : mj_f mi_X12_packs 293 = some (.iload 7, 2, 7, 0, .null) := by decide +kernel
theorem fe_X12_packs_295 : mj_f mi_X12_packs 295 = some (.imul, 1, 0, 0, .null) := by decide +kernel
theorem fe_X12_packs_296 : mj_f mi_X12_packs 296 = some (.aload_n 0, 1, 0, 0, .null) := by decide +kernel
theorem fe_X12_packs_297 : mj_f mi_X12_packs 297 = some (.getfield 92, 3, 12, 26, .null) := by decide +kernel
theorem fe_X12_packs_300 : mj_f mi_X12_packs 300 = some (.iload 8, 2, 8, 0, .null) := by decide +kernel
theorem fe_X12_packs_302 : mj_f mi_X12_packs 302 = some (.iaload, 1, 0, 0, .null) := by decide +kernel
theorem fe_X12_packs_303 : mj_f mi_X12_packs 303 = some (.iadd, 1, 0, 0, .null) := by decide +kernel
theorem fe_X12_packs_304 : mj_f mi_X12_packs 304 = some (.sipush 255, 3, 0, 0, .int (255)) := by decide +kernel
theorem fe_X12_packs_307 : mj_f mi_X12_packs 307 = some (.iand, 1, 0, 0, .null) := by decide +kernel
theorem fe_X12_packs_308 : mj_f mi_X12_packs 308 = some (.istore 7, 2, 7, 0, .null) := by decide +kernel
theorem fe_X12_packs_310 : mj_f mi_X12_packs 310 = some (.iinc 8 1, 3, 8, 0, .int (1)) := by decide +kernel
theorem fe_X12_packs_313 : mj_f mi_X12_packs 313 = some (.goto (-31), 3, 282, 0, .null) := by decide +kernel
theorem fe_X12_packs_316 : mj_f mi_X12_packs 316 = some (.aload_n 0, 1, 0, 0, .null) := by decide +kernel
theorem fe_X12_packs_317 : mj_f mi_X12_packs 317 = some (.iload 7, 2, 7, 0, .null) := by decide +kernel
theorem fe_X12_packs_319 : mj_f mi_X12_packs 319 = some (.invokevirtual 237, 3, 204, 1, .null) := by decide +kernel
theorem fe_X12_packs_322 : mj_f mi_X12_packs 322 = some (.aload_n 0, 1, 0, 0, .null) := by decide +kernel
theorem fe_X12_packs_323 : mj_f mi_X12_packs 323 = some (.iload_n 1, 1, 1, 0, .null) := by decide +kernel
theorem fe_X12_packs_324 : mj_f mi_X12_packs 324 = some (.iload_n 2, 1, 2, 0, .null) := by decide +kernel
theorem fe_X12_packs_325 : mj_f mi_X12_packs 325 = some (.invokevirtual 273, 3, 215, 2, .null) := by decide +kernel
theorem fe_X12_packs_328 : mj_f mi_X12_packs 328 = some (.return_, 1, 0, 0, .null) := by decide +kernel
def ct_X12_keeps : MJT := [
  (0, 0, .iconst 5, 1, 0, 0, .int (5)),
  (1, 0, .iload_n 1, 1, 1, 0, .null),
  (2, 0, .imul, 1, 0, 0, .null),
  (3, 0, .iload_n 2, 1, 2, 0, .null),
  (4, 0, .iadd, 1, 0, 0, .null),
  (5, 0, .istore_n 3, 1, 3, 0, .null),
  (6, 0, .iconst 0, 1, 0, 0, .int (0)),
  (7, 0, .istore 4, 2, 4, 0, .null),
  (9, 0, .iload 4, 2, 4, 0, .null),
  (11, 0, .aload_n 0, 1, 0, 0, .null),
  (12, 1239, .getfield 95, 3, 12, 27, .int 0),
  (15, 0, .if_icmp .ge 29, 3, 44, 0, .null),
  (18, 0, .aload_n 0, 1, 0, 0, .null),
  (19, 1220, .getfield 36, 3, 12, 8, .null),
  (22, 0, .sipush 300, 3, 0, 0, .int (300)),
  (25, 0, .iload_n 3, 1, 3, 0, .null),
  (26, 0, .imul, 1, 0, 0, .null),
  (27, 0, .iload 4, 2, 4, 0, .null),
  (29, 0, .iadd, 1, 0, 0, .null),
  (30, 0, .aload_n 0, 1, 0, 0, .null),
  (31, 1238, .getfield 92, 3, 12, 26, .null),
  (34, 0, .iload 4, 2, 4, 0, .null),
  (36, 0, .iaload, 1, 0, 0, .null),
  (37, 0, .iastore, 1, 0, 0, .null),
  (38, 0, .iinc 4 1, 3, 4, 0, .int (1)),
  (41, 0, .goto (-32), 3, 9, 0, .null),
  (44, 0, .aload_n 0, 1, 0, 0, .null),
  (45, 1219, .getfield 33, 3, 12, 7, .null),
  (48, 0, .iload_n 3, 1, 3, 0, .null),
  (49, 0, .aload_n 0, 1, 0, 0, .null),
  (50, 1239, .getfield 95, 3, 12, 27, .int 0),
  (53, 0, .iastore, 1, 0, 0, .null),
  (54, 0, .aload_n 0, 1, 0, 0, .null),
  (55, 1218, .getfield 30, 3, 12, 6, .null),
  (58, 0, .iload_n 3, 1, 3, 0, .null),
  (59, 0, .iconst 1, 1, 0, 0, .int (1)),
  (60, 0, .bastore, 1, 0, 0, .null),
  (61, 0, .iconst 0, 1, 0, 0, .int (0)),
  (62, 0, .istore 4, 2, 4, 0, .null),
  (64, 0, .iload 4, 2, 4, 0, .null),
  (66, 0, .bipush 32, 2, 0, 0, .int (32)),
  (68, 0, .if_icmp .ge 28, 3, 96, 0, .null),
  (71, 0, .aload_n 0, 1, 0, 0, .null),
  (72, 1217, .getfield 27, 3, 12, 5, .null),
  (75, 0, .sipush 160, 3, 0, 0, .int (160)),
  (78, 0, .iload_n 1, 1, 1, 0, .null),
  (79, 0, .imul, 1, 0, 0, .null),
  (80, 0, .bipush 32, 2, 0, 0, .int (32)),
  (82, 0, .iload_n 2, 1, 2, 0, .null),
  (83, 0, .imul, 1, 0, 0, .null),
  (84, 0, .iadd, 1, 0, 0, .null),
  (85, 0, .iload 4, 2, 4, 0, .null),
  (87, 0, .iadd, 1, 0, 0, .null),
  (88, 0, .iconst 0, 1, 0, 0, .int (0)),
  (89, 0, .bastore, 1, 0, 0, .null),
  (90, 0, .iinc 4 1, 3, 4, 0, .int (1)),
  (93, 0, .goto (-29), 3, 64, 0, .null),
  (96, 0, .return_, 1, 0, 0, .null)]
abbrev id_X12_keeps : Nat := 215
def mi_X12_keeps : MI := (yX12_keeps, cX12_keeps, 5, none, 12, ct_X12_keeps)
theorem fe_X12_keeps_0 : mj_f mi_X12_keeps 0 = some (.iconst 5, 1, 0, 0, .int (5)) := by decide +kernel
theorem fe_X12_keeps_1 : mj_f mi_X12_keeps 1 = some (.iload_n 1, 1, 1, 0, .null) := by decide +kernel
theorem fe_X12_keeps_2 : mj_f mi_X12_keeps 2 = some (.imul, 1, 0, 0, .null) := by decide +kernel
theorem fe_X12_keeps_3 : mj_f mi_X12_keeps 3 = some (.iload_n 2, 1, 2, 0, .null) := by decide +kernel
theorem fe_X12_keeps_4 : mj_f mi_X12_keeps 4 = some (.iadd, 1, 0, 0, .null) := by decide +kernel
theorem fe_X12_keeps_5 : mj_f mi_X12_keeps 5 = some (.istore_n 3, 1, 3, 0, .null) := by decide +kernel
theorem fe_X12_keeps_6 : mj_f mi_X12_keeps 6 = some (.iconst 0, 1, 0, 0, .int (0)) := by decide +kernel
theorem fe_X12_keeps_7 : mj_f mi_X12_keeps 7 = some (.istore 4, 2, 4, 0, .null) := by decide +kernel
theorem fe_X12_keeps_9 : mj_f mi_X12_keeps 9 = some (.iload 4, 2, 4, 0, .null) := by decide +kernel
theorem fe_X12_keeps_11 : mj_f mi_X12_keeps 11 = some (.aload_n 0, 1, 0, 0, .null) := by decide +kernel
theorem fe_X12_keeps_12 : mj_f mi_X12_keeps 12 = some (.getfield 95, 3, 12, 27, .int 0) := by decide +kernel
theorem fe_X12_keeps_15 : mj_f mi_X12_keeps 15 = some (.if_icmp .ge 29, 3, 44, 0, .null) := by decide +kernel
theorem fe_X12_keeps_18 : mj_f mi_X12_keeps 18 = some (.aload_n 0, 1, 0, 0, .null) := by decide +kernel
theorem fe_X12_keeps_19 : mj_f mi_X12_keeps 19 = some (.getfield 36, 3, 12, 8, .null) := by decide +kernel
theorem fe_X12_keeps_22 : mj_f mi_X12_keeps 22 = some (.sipush 300, 3, 0, 0, .int (300)) := by decide +kernel
theorem fe_X12_keeps_25 : mj_f mi_X12_keeps 25 = some (.iload_n 3, 1, 3, 0, .null) := by decide +kernel
theorem fe_X12_keeps_26 : mj_f mi_X12_keeps 26 = some (.imul, 1, 0, 0, .null) := by decide +kernel
theorem fe_X12_keeps_27 : mj_f mi_X12_keeps 27 = some (.iload 4, 2, 4, 0, .null) := by decide +kernel
theorem fe_X12_keeps_29 : mj_f mi_X12_keeps 29 = some (.iadd, 1, 0, 0, .null) := by decide +kernel
theorem fe_X12_keeps_30 : mj_f mi_X12_keeps 30 = some (.aload_n 0, 1, 0, 0, .null) := by decide +kernel
theorem fe_X12_keeps_31 : mj_f mi_X12_keeps 31 = some (.getfield 92, 3, 12, 26, .null) := by decide +kernel
theorem fe_X12_keeps_34 : mj_f mi_X12_keeps 34 = some (.iload 4, 2, 4, 0, .null) := by decide +kernel
theorem fe_X12_keeps_36 : mj_f mi_X12_keeps 36 = some (.iaload, 1, 0, 0, .null) := by decide +kernel
theorem fe_X12_keeps_37 : mj_f mi_X12_keeps 37 = some (.iastore, 1, 0, 0, .null) := by decide +kernel
theorem fe_X12_keeps_38 : mj_f mi_X12_keeps 38 = some (.iinc 4 1, 3, 4, 0, .int (1)) := by decide +kernel
theorem fe_X12_keeps_41 : mj_f mi_X12_keeps 41 = some (.goto (-32), 3, 9, 0, .null) := by decide +kernel
theorem fe_X12_keeps_44 : mj_f mi_X12_keeps 44 = some (.aload_n 0, 1, 0, 0, .null) := by decide +kernel
theorem fe_X12_keeps_45 : mj_f mi_X12_keeps 45 = some (.getfield 33, 3, 12, 7, .null) := by decide +kernel
theorem fe_X12_keeps_48 : mj_f mi_X12_keeps 48 = some (.iload_n 3, 1, 3, 0, .null) := by decide +kernel
theorem fe_X12_keeps_49 : mj_f mi_X12_keeps 49 = some (.aload_n 0, 1, 0, 0, .null) := by decide +kernel
theorem fe_X12_keeps_50 : mj_f mi_X12_keeps 50 = some (.getfield 95, 3, 12, 27, .int 0) := by decide +kernel
theorem fe_X12_keeps_53 : mj_f mi_X12_keeps 53 = some (.iastore, 1, 0, 0, .null) := by decide +kernel
theorem fe_X12_keeps_54 : mj_f mi_X12_keeps 54 = some (.aload_n 0, 1, 0, 0, .null) := by decide +kernel
theorem fe_X12_keeps_55 : mj_f mi_X12_keeps 55 = some (.getfield 30, 3, 12, 6, .null) := by decide +kernel
theorem fe_X12_keeps_58 : mj_f mi_X12_keeps 58 = some (.iload_n 3, 1, 3, 0, .null) := by decide +kernel
theorem fe_X12_keeps_59 : mj_f mi_X12_keeps 59 = some (.iconst 1, 1, 0, 0, .int (1)) := by decide +kernel
theorem fe_X12_keeps_60 : mj_f mi_X12_keeps 60 = some (.bastore, 1, 0, 0, .null) := by decide +kernel
theorem fe_X12_keeps_61 : mj_f mi_X12_keeps 61 = some (.iconst 0, 1, 0, 0, .int (0)) := by decide +kernel
theorem fe_X12_keeps_62 : mj_f mi_X12_keeps 62 = some (.istore 4, 2, 4, 0, .null) := by decide +kernel
theorem fe_X12_keeps_64 : mj_f mi_X12_keeps 64 = some (.iload 4, 2, 4, 0, .null) := by decide +kernel
theorem fe_X12_keeps_66 : mj_f mi_X12_keeps 66 = some (.bipush 32, 2, 0, 0, .int (32)) := by decide +kernel
theorem fe_X12_keeps_68 : mj_f mi_X12_keeps 68 = some (.if_icmp .ge 28, 3, 96, 0, .null) := by decide +kernel
theorem fe_X12_keeps_71 : mj_f mi_X12_keeps 71 = some (.aload_n 0, 1, 0, 0, .null) := by decide +kernel
theorem fe_X12_keeps_72 : mj_f mi_X12_keeps 72 = some (.getfield 27, 3, 12, 5, .null) := by decide +kernel
theorem fe_X12_keeps_75 : mj_f mi_X12_keeps 75 = some (.sipush 160, 3, 0, 0, .int (160)) := by decide +kernel
theorem fe_X12_keeps_78 : mj_f mi_X12_keeps 78 = some (.iload_n 1, 1, 1, 0, .null) := by decide +kernel
theorem fe_X12_keeps_79 : mj_f mi_X12_keeps 79 = some (.imul, 1, 0, 0, .null) := by decide +kernel
theorem fe_X12_keeps_80 : mj_f mi_X12_keeps 80 = some (.bipush 32, 2, 0, 0, .int (32)) := by decide +kernel
theorem fe_X12_keeps_82 : mj_f mi_X12_keeps 82 = some (.iload_n 2, 1, 2, 0, .null) := by decide +kernel
theorem fe_X12_keeps_83 : mj_f mi_X12_keeps 83 = some (.imul, 1, 0, 0, .null) := by decide +kernel
theorem fe_X12_keeps_84 : mj_f mi_X12_keeps 84 = some (.iadd, 1, 0, 0, .null) := by decide +kernel
theorem fe_X12_keeps_85 : mj_f mi_X12_keeps 85 = some (.iload 4, 2, 4, 0, .null) := by decide +kernel
theorem fe_X12_keeps_87 : mj_f mi_X12_keeps 87 = some (.iadd, 1, 0, 0, .null) := by decide +kernel
theorem fe_X12_keeps_88 : mj_f mi_X12_keeps 88 = some (.iconst 0, 1, 0, 0, .int (0)) := by decide +kernel
theorem fe_X12_keeps_89 : mj_f mi_X12_keeps 89 = some (.bastore, 1, 0, 0, .null) := by decide +kernel
theorem fe_X12_keeps_90 : mj_f mi_X12_keeps 90 = some (.iinc 4 1, 3, 4, 0, .int (1)) := by decide +kernel
theorem fe_X12_keeps_93 : mj_f mi_X12_keeps 93 = some (.goto (-29), 3, 64, 0, .null) := by decide +kernel
theorem fe_X12_keeps_96 : mj_f mi_X12_keeps 96 = some (.return_, 1, 0, 0, .null) := by decide +kernel
def ct_X12_isColumn : MJT := [
  (0, 0, .iload_n 0, 1, 0, 0, .null),
  (1, 0, .ifCond .lt 12, 3, 13, 0, .null),
  (4, 0, .iload_n 0, 1, 0, 0, .null),
  (5, 0, .iconst 4, 1, 0, 0, .int (4)),
  (6, 0, .if_icmp .ge 7, 3, 13, 0, .null),
  (9, 0, .iconst 1, 1, 0, 0, .int (1)),
  (10, 0, .goto 4, 3, 14, 0, .null),
  (13, 0, .iconst 0, 1, 0, 0, .int (0)),
  (14, 0, .ireturn, 1, 0, 0, .null)]
abbrev id_X12_isColumn : Nat := 216
def mi_X12_isColumn : MI := (yX12_isColumn, cX12_isColumn, 1, (some .boolean), 12, ct_X12_isColumn)
theorem fe_X12_isColumn_0 : mj_f mi_X12_isColumn 0 = some (.iload_n 0, 1, 0, 0, .null) := by decide +kernel
theorem fe_X12_isColumn_1 : mj_f mi_X12_isColumn 1 = some (.ifCond .lt 12, 3, 13, 0, .null) := by decide +kernel
theorem fe_X12_isColumn_4 : mj_f mi_X12_isColumn 4 = some (.iload_n 0, 1, 0, 0, .null) := by decide +kernel
theorem fe_X12_isColumn_5 : mj_f mi_X12_isColumn 5 = some (.iconst 4, 1, 0, 0, .int (4)) := by decide +kernel
theorem fe_X12_isColumn_6 : mj_f mi_X12_isColumn 6 = some (.if_icmp .ge 7, 3, 13, 0, .null) := by decide +kernel
theorem fe_X12_isColumn_9 : mj_f mi_X12_isColumn 9 = some (.iconst 1, 1, 0, 0, .int (1)) := by decide +kernel
theorem fe_X12_isColumn_10 : mj_f mi_X12_isColumn 10 = some (.goto 4, 3, 14, 0, .null) := by decide +kernel
theorem fe_X12_isColumn_13 : mj_f mi_X12_isColumn 13 = some (.iconst 0, 1, 0, 0, .int (0)) := by decide +kernel
theorem fe_X12_isColumn_14 : mj_f mi_X12_isColumn 14 = some (.ireturn, 1, 0, 0, .null) := by decide +kernel
def ct_X12_pieces : MJT := [
  (0, 0, .aload_n 0, 1, 0, 0, .null),
  (1, 1212, .getfield 7, 3, 12, 0, .null),
  (4, 0, .iload_n 1, 1, 1, 0, .null),
  (5, 0, .iaload, 1, 0, 0, .null),
  (6, 0, .bipush 32, 2, 0, 0, .int (32)),
  (8, 0, .iadd, 1, 0, 0, .null),
  (9, 0, .iconst 1, 1, 0, 0, .int (1)),
  (10, 0, .isub, 1, 0, 0, .null),
  (11, 0, .bipush 32, 2, 0, 0, .int (32)),
  (13, 0, .idiv, 1, 0, 0, .null),
  (14, 0, .ireturn, 1, 0, 0, .null)]
abbrev id_X12_pieces : Nat := 217
def mi_X12_pieces : MI := (yX12_pieces, cX12_pieces, 2, (some .int), 12, ct_X12_pieces)
theorem fe_X12_pieces_0 : mj_f mi_X12_pieces 0 = some (.aload_n 0, 1, 0, 0, .null) := by decide +kernel
theorem fe_X12_pieces_1 : mj_f mi_X12_pieces 1 = some (.getfield 7, 3, 12, 0, .null) := by decide +kernel
theorem fe_X12_pieces_4 : mj_f mi_X12_pieces 4 = some (.iload_n 1, 1, 1, 0, .null) := by decide +kernel
theorem fe_X12_pieces_5 : mj_f mi_X12_pieces 5 = some (.iaload, 1, 0, 0, .null) := by decide +kernel
theorem fe_X12_pieces_6 : mj_f mi_X12_pieces 6 = some (.bipush 32, 2, 0, 0, .int (32)) := by decide +kernel
theorem fe_X12_pieces_8 : mj_f mi_X12_pieces 8 = some (.iadd, 1, 0, 0, .null) := by decide +kernel
theorem fe_X12_pieces_9 : mj_f mi_X12_pieces 9 = some (.iconst 1, 1, 0, 0, .int (1)) := by decide +kernel
theorem fe_X12_pieces_10 : mj_f mi_X12_pieces 10 = some (.isub, 1, 0, 0, .null) := by decide +kernel
theorem fe_X12_pieces_11 : mj_f mi_X12_pieces 11 = some (.bipush 32, 2, 0, 0, .int (32)) := by decide +kernel
theorem fe_X12_pieces_13 : mj_f mi_X12_pieces 13 = some (.idiv, 1, 0, 0, .null) := by decide +kernel
theorem fe_X12_pieces_14 : mj_f mi_X12_pieces 14 = some (.ireturn, 1, 0, 0, .null) := by decide +kernel
def ct_X12_way_ : MJT := [
  (0, 0, .iload_n 1, 1, 1, 0, .null),
  (1, 1379, .invokestatic 276, 3, 216, 1, .null),
  (4, 0, .ifCond .eq 24, 3, 28, 0, .null),
  (7, 0, .iload_n 2, 1, 2, 0, .null),
  (8, 0, .iconst 0, 1, 0, 0, .int (0)),
  (9, 0, .iconst 2, 1, 0, 0, .int (2)),
  (10, 1382, .invokestatic 280, 3, 181, 3, .null),
  (13, 0, .ifCond .eq 15, 3, 28, 0, .null),
  (16, 0, .iload_n 3, 1, 3, 0, .null),
  (17, 0, .bipush 32, 2, 0, 0, .int (32)),
  (19, 0, .sipush 1000, 3, 0, 0, .int (1000)),
  (22, 1382, .invokestatic 280, 3, 181, 3, .null),
  (25, 0, .ifCond .ne 5, 3, 30, 0, .null),
  (28, 0, .iconst 0, 1, 0, 0, .int (0)),
  (29, 0, .ireturn, 1, 0, 0, .null),
  (30, 0, .aload_n 0, 1, 0, 0, .null),
  (31, 1213, .getfield 13, 3, 12, 1, .null),
  (34, 0, .iload_n 1, 1, 1, 0, .null),
  (35, 0, .iload_n 2, 1, 2, 0, .null),
  (36, 0, .iastore, 1, 0, 0, .null),
  (37, 0, .aload_n 0, 1, 0, 0, .null),
  (38, 1214, .getfield 16, 3, 12, 2, .null),
  (41, 0, .iload_n 1, 1, 1, 0, .null),
  (42, 0, .iload_n 3, 1, 3, 0, .null),
  (43, 0, .iastore, 1, 0, 0, .null),
  (44, 0, .iconst 1, 1, 0, 0, .int (1)),
  (45, 0, .ireturn, 1, 0, 0, .null)]
abbrev id_X12_way_ : Nat := 218
def mi_X12_way_ : MI := (yX12_way_, cX12_way_, 4, (some .boolean), 12, ct_X12_way_)
theorem fe_X12_way__0 : mj_f mi_X12_way_ 0 = some (.iload_n 1, 1, 1, 0, .null) := by decide +kernel
theorem fe_X12_way__1 : mj_f mi_X12_way_ 1 = some (.invokestatic 276, 3, 216, 1, .null) := by decide +kernel
theorem fe_X12_way__4 : mj_f mi_X12_way_ 4 = some (.ifCond .eq 24, 3, 28, 0, .null) := by decide +kernel
theorem fe_X12_way__7 : mj_f mi_X12_way_ 7 = some (.iload_n 2, 1, 2, 0, .null) := by decide +kernel
theorem fe_X12_way__8 : mj_f mi_X12_way_ 8 = some (.iconst 0, 1, 0, 0, .int (0)) := by decide +kernel
theorem fe_X12_way__9 : mj_f mi_X12_way_ 9 = some (.iconst 2, 1, 0, 0, .int (2)) := by decide +kernel
theorem fe_X12_way__10 : mj_f mi_X12_way_ 10 = some (.invokestatic 280, 3, 181, 3, .null) := by decide +kernel
theorem fe_X12_way__13 : mj_f mi_X12_way_ 13 = some (.ifCond .eq 15, 3, 28, 0, .null) := by decide +kernel
theorem fe_X12_way__16 : mj_f mi_X12_way_ 16 = some (.iload_n 3, 1, 3, 0, .null) := by decide +kernel
theorem fe_X12_way__17 : mj_f mi_X12_way_ 17 = some (.bipush 32, 2, 0, 0, .int (32)) := by decide +kernel
theorem fe_X12_way__19 : mj_f mi_X12_way_ 19 = some (.sipush 1000, 3, 0, 0, .int (1000)) := by decide +kernel
theorem fe_X12_way__22 : mj_f mi_X12_way_ 22 = some (.invokestatic 280, 3, 181, 3, .null) := by decide +kernel
theorem fe_X12_way__25 : mj_f mi_X12_way_ 25 = some (.ifCond .ne 5, 3, 30, 0, .null) := by decide +kernel
theorem fe_X12_way__28 : mj_f mi_X12_way_ 28 = some (.iconst 0, 1, 0, 0, .int (0)) := by decide +kernel
theorem fe_X12_way__29 : mj_f mi_X12_way_ 29 = some (.ireturn, 1, 0, 0, .null) := by decide +kernel
theorem fe_X12_way__30 : mj_f mi_X12_way_ 30 = some (.aload_n 0, 1, 0, 0, .null) := by decide +kernel
theorem fe_X12_way__31 : mj_f mi_X12_way_ 31 = some (.getfield 13, 3, 12, 1, .null) := by decide +kernel
theorem fe_X12_way__34 : mj_f mi_X12_way_ 34 = some (.iload_n 1, 1, 1, 0, .null) := by decide +kernel
theorem fe_X12_way__35 : mj_f mi_X12_way_ 35 = some (.iload_n 2, 1, 2, 0, .null) := by decide +kernel
theorem fe_X12_way__36 : mj_f mi_X12_way_ 36 = some (.iastore, 1, 0, 0, .null) := by decide +kernel
theorem fe_X12_way__37 : mj_f mi_X12_way_ 37 = some (.aload_n 0, 1, 0, 0, .null) := by decide +kernel
theorem fe_X12_way__38 : mj_f mi_X12_way_ 38 = some (.getfield 16, 3, 12, 2, .null) := by decide +kernel
theorem fe_X12_way__41 : mj_f mi_X12_way_ 41 = some (.iload_n 1, 1, 1, 0, .null) := by decide +kernel
theorem fe_X12_way__42 : mj_f mi_X12_way_ 42 = some (.iload_n 3, 1, 3, 0, .null) := by decide +kernel
theorem fe_X12_way__43 : mj_f mi_X12_way_ 43 = some (.iastore, 1, 0, 0, .null) := by decide +kernel
theorem fe_X12_way__44 : mj_f mi_X12_way_ 44 = some (.iconst 1, 1, 0, 0, .int (1)) := by decide +kernel
theorem fe_X12_way__45 : mj_f mi_X12_way_ 45 = some (.ireturn, 1, 0, 0, .null) := by decide +kernel
def ct_X12_more : MJT := [
  (0, 0, .iload_n 1, 1, 1, 0, .null),
  (1, 1379, .invokestatic 276, 3, 216, 1, .null),
  (4, 0, .ifCond .eq 15, 3, 19, 0, .null),
  (7, 0, .aload_n 0, 1, 0, 0, .null),
  (8, 1212, .getfield 7, 3, 12, 0, .null),
  (11, 0, .iload_n 1, 1, 1, 0, .null),
  (12, 0, .iaload, 1, 0, 0, .null),
  (13, 0, .sipush 160, 3, 0, 0, .int (160)),
  (16, 0, .if_icmp .ne 5, 3, 21, 0, .null),
  (19, 0, .iconst (-1), 1, 0, 0, .int (-1)),
  (20, 0, .ireturn, 1, 0, 0, .null),
  (21, 0, .aload_n 0, 1, 0, 0, .null),
  (22, 1212, .getfield 7, 3, 12, 0, .null),
  (25, 0, .iload_n 1, 1, 1, 0, .null),
  (26, 0, .iaload, 1, 0, 0, .null),
  (27, 0, .istore 5, 2, 5, 0, .null),
  (29, 0, .iload 5, 2, 5, 0, .null),
  (31, 0, .bipush 32, 2, 0, 0, .int (32)),
  (33, 0, .idiv, 1, 0, 0, .null),
  (34, 0, .istore 6, 2, 6, 0, .null),
  (36, 0, .aload_n 0, 1, 0, 0, .null),
  (37, 1218, .getfield 30, 3, 12, 6, .null),
  (40, 0, .iconst 5, 1, 0, 0, .int (5)),
  (41, 0, .iload_n 1, 1, 1, 0, .null),
  (42, 0, .imul, 1, 0, 0, .null),
  (43, 0, .iload 6, 2, 6, 0, .null),
  (45, 0, .iadd, 1, 0, 0, .null),
  (46, 0, .iconst 0, 1, 0, 0, .int (0)),
  (47, 0, .bastore, 1, 0, 0, .null),
  (48, 0, .iconst 0, 1, 0, 0, .int (0)),
  (49, 0, .istore 7, 2, 7, 0, .null),
  (51, 0, .iload 7, 2, 7, 0, .null),
  (53, 0, .bipush 32, 2, 0, 0, .int (32)),
  (55, 0, .if_icmp .ge 29, 3, 84, 0, .null),
  (58, 0, .aload_n 0, 1, 0, 0, .null),
  (59, 1217, .getfield 27, 3, 12, 5, .null),
  (62, 0, .sipush 160, 3, 0, 0, .int (160)),
  (65, 0, .iload_n 1, 1, 1, 0, .null),
  (66, 0, .imul, 1, 0, 0, .null),
  (67, 0, .bipush 32, 2, 0, 0, .int (32)),
  (69, 0, .iload 6, 2, 6, 0, .null),
  (71, 0, .imul, 1, 0, 0, .null),
  (72, 0, .iadd, 1, 0, 0, .null),
  (73, 0, .iload 7, 2, 7, 0, .null),
  (75, 0, .iadd, 1, 0, 0, .null),
  (76, 0, .iconst 0, 1, 0, 0, .int (0)),
  (77, 0, .bastore, 1, 0, 0, .null),
  (78, 0, .iinc 7 1, 3, 7, 0, .int (1)),
  (81, 0, .goto (-30), 3, 51, 0, .null),
  (84, 0, .aload_n 0, 1, 0, 0, .null),
  (85, 1215, .getfield 19, 3, 12, 3, .null),
  (88, 0, .sipush 160, 3, 0, 0, .int (160)),
  (91, 0, .iload_n 1, 1, 1, 0, .null),
  (92, 0, .imul, 1, 0, 0, .null),
  (93, 0, .iload 5, 2, 5, 0, .null),
  (95, 0, .iadd, 1, 0, 0, .null),
  (96, 0, .iload 4, 2, 4, 0, .null),
  (98, 0, .ifCond .eq 7, 3, 105, 0, .null),
  (101, 0, .lconst 0, 1, 0, 0, .long 0),
  (102, 0, .goto 4, 3, 106, 0, .null),
  (105, 0, .lload_n 2, 1, 2, 0, .null),
  (106, 0, .lastore, 1, 0, 0, .null),
  (107, 0, .aload_n 0, 1, 0, 0, .null),
  (108, 1216, .getfield 23, 3, 12, 4, .null),
  (111, 0, .sipush 160, 3, 0, 0, .int (160)),
  (114, 0, .iload_n 1, 1, 1, 0, .null),
  (115, 0, .imul, 1, 0, 0, .null),
  (116, 0, .iload 5, 2, 5, 0, .null),
  (118, 0, .iadd, 1, 0, 0, .null),
  (119, 0, .iload 4, 2, 4, 0, .null),
  (121, 0, .bastore, 1, 0, 0, .null),
  (122, 0, .aload_n 0, 1, 0, 0, .null),
  (123, 1212, .getfield 7, 3, 12, 0, .null),
  (126, 0, .iload_n 1, 1, 1, 0, .null),
  (127, 0, .dup2, 1, 0, 0, .null),
  (128, 0, .iaload, 1, 0, 0, .null),
  (129, 0, .iconst 1, 1, 0, 0, .int (1)),
  (130, 0, .iadd, 1, 0, 0, .null),
  (131, 0, .iastore, 1, 0, 0, .null),
  (132, 0, .aload_n 0, 1, 0, 0, .null),
  (133, 1212, .getfield 7, 3, 12, 0, .null),
  (136, 0, .iload_n 1, 1, 1, 0, .null),
  (137, 0, .iaload, 1, 0, 0, .null),
  (138, 0, .bipush 32, 2, 0, 0, .int (32)),
  (140, 0, .irem, 1, 0, 0, .null),
  (141, 0, .ifCond .ne 10, 3, 151, 0, .null),
  (144, 0, .aload_n 0, 1, 0, 0, .null),
  (145, 0, .iload_n 1, 1, 1, 0, .null),
  (146, 0, .iload 6, 2, 6, 0, .null),
  (148, 1393, .invokevirtual 283, 3, 214, 2, .null),
  (151, 0, .iload 5, 2, 5, 0, .null),
  (153, 0, .ireturn, 1, 0, 0, .null)]
abbrev id_X12_more : Nat := 219
def mi_X12_more : MI := (yX12_more, cX12_more, 8, (some .int), 12, ct_X12_more)
theorem fe_X12_more_0 : mj_f mi_X12_more 0 = some (.iload_n 1, 1, 1, 0, .null) := by decide +kernel
theorem fe_X12_more_1 : mj_f mi_X12_more 1 = some (.invokestatic 276, 3, 216, 1, .null) := by decide +kernel
theorem fe_X12_more_4 : mj_f mi_X12_more 4 = some (.ifCond .eq 15, 3, 19, 0, .null) := by decide +kernel
theorem fe_X12_more_7 : mj_f mi_X12_more 7 = some (.aload_n 0, 1, 0, 0, .null) := by decide +kernel
theorem fe_X12_more_8 : mj_f mi_X12_more 8 = some (.getfield 7, 3, 12, 0, .null) := by decide +kernel
theorem fe_X12_more_11 : mj_f mi_X12_more 11 = some (.iload_n 1, 1, 1, 0, .null) := by decide +kernel
theorem fe_X12_more_12 : mj_f mi_X12_more 12 = some (.iaload, 1, 0, 0, .null) := by decide +kernel
theorem fe_X12_more_13 : mj_f mi_X12_more 13 = some (.sipush 160, 3, 0, 0, .int (160)) := by decide +kernel
theorem fe_X12_more_16 : mj_f mi_X12_more 16 = some (.if_icmp .ne 5, 3, 21, 0, .null) := by decide +kernel
theorem fe_X12_more_19 : mj_f mi_X12_more 19 = some (.iconst (-1), 1, 0, 0, .int (-1)) := by decide +kernel
theorem fe_X12_more_20 : mj_f mi_X12_more 20 = some (.ireturn, 1, 0, 0, .null) := by decide +kernel
theorem fe_X12_more_21 : mj_f mi_X12_more 21 = some (.aload_n 0, 1, 0, 0, .null) := by decide +kernel
theorem fe_X12_more_22 : mj_f mi_X12_more 22 = some (.getfield 7, 3, 12, 0, .null) := by decide +kernel
theorem fe_X12_more_25 : mj_f mi_X12_more 25 = some (.iload_n 1, 1, 1, 0, .null) := by decide +kernel
theorem fe_X12_more_26 : mj_f mi_X12_more 26 = some (.iaload, 1, 0, 0, .null) := by decide +kernel
theorem fe_X12_more_27 : mj_f mi_X12_more 27 = some (.istore 5, 2, 5, 0, .null) := by decide +kernel
theorem fe_X12_more_29 : mj_f mi_X12_more 29 = some (.iload 5, 2, 5, 0, .null) := by decide +kernel
theorem fe_X12_more_31 : mj_f mi_X12_more 31 = some (.bipush 32, 2, 0, 0, .int (32)) := by decide +kernel
theorem fe_X12_more_33 : mj_f mi_X12_more 33 = some (.idiv, 1, 0, 0, .null) := by decide +kernel
theorem fe_X12_more_34 : mj_f mi_X12_more 34 = some (.istore 6, 2, 6, 0, .null) := by decide +kernel
theorem fe_X12_more_36 : mj_f mi_X12_more 36 = some (.aload_n 0, 1, 0, 0, .null) := by decide +kernel
theorem fe_X12_more_37 : mj_f mi_X12_more 37 = some (.getfield 30, 3, 12, 6, .null) := by decide +kernel
theorem fe_X12_more_40 : mj_f mi_X12_more 40 = some (.iconst 5, 1, 0, 0, .int (5)) := by decide +kernel
theorem fe_X12_more_41 : mj_f mi_X12_more 41 = some (.iload_n 1, 1, 1, 0, .null) := by decide +kernel
theorem fe_X12_more_42 : mj_f mi_X12_more 42 = some (.imul, 1, 0, 0, .null) := by decide +kernel
theorem fe_X12_more_43 : mj_f mi_X12_more 43 = some (.iload 6, 2, 6, 0, .null) := by decide +kernel
theorem fe_X12_more_45 : mj_f mi_X12_more 45 = some (.iadd, 1, 0, 0, .null) := by decide +kernel
theorem fe_X12_more_46 : mj_f mi_X12_more 46 = some (.iconst 0, 1, 0, 0, .int (0)) := by decide +kernel
theorem fe_X12_more_47 : mj_f mi_X12_more 47 = some (.bastore, 1, 0, 0, .null) := by decide +kernel
theorem fe_X12_more_48 : mj_f mi_X12_more 48 = some (.iconst 0, 1, 0, 0, .int (0)) := by decide +kernel
theorem fe_X12_more_49 : mj_f mi_X12_more 49 = some (.istore 7, 2, 7, 0, .null) := by decide +kernel
theorem fe_X12_more_51 : mj_f mi_X12_more 51 = some (.iload 7, 2, 7, 0, .null) := by decide +kernel
theorem fe_X12_more_53 : mj_f mi_X12_more 53 = some (.bipush 32, 2, 0, 0, .int (32)) := by decide +kernel
theorem fe_X12_more_55 : mj_f mi_X12_more 55 = some (.if_icmp .ge 29, 3, 84, 0, .null) := by decide +kernel
theorem fe_X12_more_58 : mj_f mi_X12_more 58 = some (.aload_n 0, 1, 0, 0, .null) := by decide +kernel
theorem fe_X12_more_59 : mj_f mi_X12_more 59 = some (.getfield 27, 3, 12, 5, .null) := by decide +kernel
theorem fe_X12_more_62 : mj_f mi_X12_more 62 = some (.sipush 160, 3, 0, 0, .int (160)) := by decide +kernel
theorem fe_X12_more_65 : mj_f mi_X12_more 65 = some (.iload_n 1, 1, 1, 0, .null) := by decide +kernel
theorem fe_X12_more_66 : mj_f mi_X12_more 66 = some (.imul, 1, 0, 0, .null) := by decide +kernel
theorem fe_X12_more_67 : mj_f mi_X12_more 67 = some (.bipush 32, 2, 0, 0, .int (32)) := by decide +kernel
theorem fe_X12_more_69 : mj_f mi_X12_more 69 = some (.iload 6, 2, 6, 0, .null) := by decide +kernel
theorem fe_X12_more_71 : mj_f mi_X12_more 71 = some (.imul, 1, 0, 0, .null) := by decide +kernel
theorem fe_X12_more_72 : mj_f mi_X12_more 72 = some (.iadd, 1, 0, 0, .null) := by decide +kernel
theorem fe_X12_more_73 : mj_f mi_X12_more 73 = some (.iload 7, 2, 7, 0, .null) := by decide +kernel
theorem fe_X12_more_75 : mj_f mi_X12_more 75 = some (.iadd, 1, 0, 0, .null) := by decide +kernel
theorem fe_X12_more_76 : mj_f mi_X12_more 76 = some (.iconst 0, 1, 0, 0, .int (0)) := by decide +kernel
theorem fe_X12_more_77 : mj_f mi_X12_more 77 = some (.bastore, 1, 0, 0, .null) := by decide +kernel
theorem fe_X12_more_78 : mj_f mi_X12_more 78 = some (.iinc 7 1, 3, 7, 0, .int (1)) := by decide +kernel
theorem fe_X12_more_81 : mj_f mi_X12_more 81 = some (.goto (-30), 3, 51, 0, .null) := by decide +kernel
theorem fe_X12_more_84 : mj_f mi_X12_more 84 = some (.aload_n 0, 1, 0, 0, .null) := by decide +kernel
theorem fe_X12_more_85 : mj_f mi_X12_more 85 = some (.getfield 19, 3, 12, 3, .null) := by decide +kernel
theorem fe_X12_more_88 : mj_f mi_X12_more 88 = some (.sipush 160, 3, 0, 0, .int (160)) := by decide +kernel
theorem fe_X12_more_91 : mj_f mi_X12_more 91 = some (.iload_n 1, 1, 1, 0, .null) := by decide +kernel
theorem fe_X12_more_92 : mj_f mi_X12_more 92 = some (.imul, 1, 0, 0, .null) := by decide +kernel
theorem fe_X12_more_93 : mj_f mi_X12_more 93 = some (.iload 5, 2, 5, 0, .null) := by decide +kernel
theorem fe_X12_more_95 : mj_f mi_X12_more 95 = some (.iadd, 1, 0, 0, .null) := by decide +kernel
theorem fe_X12_more_96 : mj_f mi_X12_more 96 = some (.iload 4, 2, 4, 0, .null) := by decide +kernel
theorem fe_X12_more_98 : mj_f mi_X12_more 98 = some (.ifCond .eq 7, 3, 105, 0, .null) := by decide +kernel
theorem fe_X12_more_101 : mj_f mi_X12_more 101 = some (.lconst 0, 1, 0, 0, .long 0) := by decide +kernel
theorem fe_X12_more_102 : mj_f mi_X12_more 102 = some (.goto 4, 3, 106, 0, .null) := by decide +kernel
theorem fe_X12_more_105 : mj_f mi_X12_more 105 = some (.lload_n 2, 1, 2, 0, .null) := by decide +kernel
theorem fe_X12_more_106 : mj_f mi_X12_more 106 = some (.lastore, 1, 0, 0, .null) := by decide +kernel
theorem fe_X12_more_107 : mj_f mi_X12_more 107 = some (.aload_n 0, 1, 0, 0, .null) := by decide +kernel
theorem fe_X12_more_108 : mj_f mi_X12_more 108 = some (.getfield 23, 3, 12, 4, .null) := by decide +kernel
theorem fe_X12_more_111 : mj_f mi_X12_more 111 = some (.sipush 160, 3, 0, 0, .int (160)) := by decide +kernel
theorem fe_X12_more_114 : mj_f mi_X12_more 114 = some (.iload_n 1, 1, 1, 0, .null) := by decide +kernel
theorem fe_X12_more_115 : mj_f mi_X12_more 115 = some (.imul, 1, 0, 0, .null) := by decide +kernel
theorem fe_X12_more_116 : mj_f mi_X12_more 116 = some (.iload 5, 2, 5, 0, .null) := by decide +kernel
theorem fe_X12_more_118 : mj_f mi_X12_more 118 = some (.iadd, 1, 0, 0, .null) := by decide +kernel
theorem fe_X12_more_119 : mj_f mi_X12_more 119 = some (.iload 4, 2, 4, 0, .null) := by decide +kernel
theorem fe_X12_more_121 : mj_f mi_X12_more 121 = some (.bastore, 1, 0, 0, .null) := by decide +kernel
theorem fe_X12_more_122 : mj_f mi_X12_more 122 = some (.aload_n 0, 1, 0, 0, .null) := by decide +kernel
theorem fe_X12_more_123 : mj_f mi_X12_more 123 = some (.getfield 7, 3, 12, 0, .null) := by decide +kernel
theorem fe_X12_more_126 : mj_f mi_X12_more 126 = some (.iload_n 1, 1, 1, 0, .null) := by decide +kernel
theorem fe_X12_more_127 : mj_f mi_X12_more 127 = some (.dup2, 1, 0, 0, .null) := by decide +kernel
theorem fe_X12_more_128 : mj_f mi_X12_more 128 = some (.iaload, 1, 0, 0, .null) := by decide +kernel
theorem fe_X12_more_129 : mj_f mi_X12_more 129 = some (.iconst 1, 1, 0, 0, .int (1)) := by decide +kernel
theorem fe_X12_more_130 : mj_f mi_X12_more 130 = some (.iadd, 1, 0, 0, .null) := by decide +kernel
theorem fe_X12_more_131 : mj_f mi_X12_more 131 = some (.iastore, 1, 0, 0, .null) := by decide +kernel
theorem fe_X12_more_132 : mj_f mi_X12_more 132 = some (.aload_n 0, 1, 0, 0, .null) := by decide +kernel
theorem fe_X12_more_133 : mj_f mi_X12_more 133 = some (.getfield 7, 3, 12, 0, .null) := by decide +kernel
theorem fe_X12_more_136 : mj_f mi_X12_more 136 = some (.iload_n 1, 1, 1, 0, .null) := by decide +kernel
theorem fe_X12_more_137 : mj_f mi_X12_more 137 = some (.iaload, 1, 0, 0, .null) := by decide +kernel
theorem fe_X12_more_138 : mj_f mi_X12_more 138 = some (.bipush 32, 2, 0, 0, .int (32)) := by decide +kernel
theorem fe_X12_more_140 : mj_f mi_X12_more 140 = some (.irem, 1, 0, 0, .null) := by decide +kernel
theorem fe_X12_more_141 : mj_f mi_X12_more 141 = some (.ifCond .ne 10, 3, 151, 0, .null) := by decide +kernel
theorem fe_X12_more_144 : mj_f mi_X12_more 144 = some (.aload_n 0, 1, 0, 0, .null) := by decide +kernel
theorem fe_X12_more_145 : mj_f mi_X12_more 145 = some (.iload_n 1, 1, 1, 0, .null) := by decide +kernel
theorem fe_X12_more_146 : mj_f mi_X12_more 146 = some (.iload 6, 2, 6, 0, .null) := by decide +kernel
theorem fe_X12_more_148 : mj_f mi_X12_more 148 = some (.invokevirtual 283, 3, 214, 2, .null) := by decide +kernel
theorem fe_X12_more_151 : mj_f mi_X12_more 151 = some (.iload 5, 2, 5, 0, .null) := by decide +kernel
theorem fe_X12_more_153 : mj_f mi_X12_more 153 = some (.ireturn, 1, 0, 0, .null) := by decide +kernel
def ct_X12_value : MJT := [
  (0, 0, .aload_n 0, 1, 0, 0, .null),
  (1, 0, .iload_n 1, 1, 1, 0, .null),
  (2, 0, .lload_n 2, 1, 2, 0, .null),
  (3, 0, .iconst 0, 1, 0, 0, .int (0)),
  (4, 1389, .invokevirtual 286, 3, 219, 3, .null),
  (7, 0, .ireturn, 1, 0, 0, .null)]
abbrev id_X12_value : Nat := 220
def mi_X12_value : MI := (yX12_value, cX12_value, 4, (some .int), 12, ct_X12_value)
theorem fe_X12_value_0 : mj_f mi_X12_value 0 = some (.aload_n 0, 1, 0, 0, .null) := by decide +kernel
theorem fe_X12_value_1 : mj_f mi_X12_value 1 = some (.iload_n 1, 1, 1, 0, .null) := by decide +kernel
theorem fe_X12_value_2 : mj_f mi_X12_value 2 = some (.lload_n 2, 1, 2, 0, .null) := by decide +kernel
theorem fe_X12_value_3 : mj_f mi_X12_value 3 = some (.iconst 0, 1, 0, 0, .int (0)) := by decide +kernel
theorem fe_X12_value_4 : mj_f mi_X12_value 4 = some (.invokevirtual 286, 3, 219, 3, .null) := by decide +kernel
theorem fe_X12_value_7 : mj_f mi_X12_value 7 = some (.ireturn, 1, 0, 0, .null) := by decide +kernel
def ct_X12_missing : MJT := [
  (0, 0, .aload_n 0, 1, 0, 0, .null),
  (1, 0, .iload_n 1, 1, 1, 0, .null),
  (2, 0, .lconst 0, 1, 0, 0, .long 0),
  (3, 0, .iconst 1, 1, 0, 0, .int (1)),
  (4, 1389, .invokevirtual 286, 3, 219, 3, .null),
  (7, 0, .ireturn, 1, 0, 0, .null)]
abbrev id_X12_missing : Nat := 221
def mi_X12_missing : MI := (yX12_missing, cX12_missing, 2, (some .int), 12, ct_X12_missing)
theorem fe_X12_missing_0 : mj_f mi_X12_missing 0 = some (.aload_n 0, 1, 0, 0, .null) := by decide +kernel
theorem fe_X12_missing_1 : mj_f mi_X12_missing 1 = some (.iload_n 1, 1, 1, 0, .null) := by decide +kernel
theorem fe_X12_missing_2 : mj_f mi_X12_missing 2 = some (.lconst 0, 1, 0, 0, .long 0) := by decide +kernel
theorem fe_X12_missing_3 : mj_f mi_X12_missing 3 = some (.iconst 1, 1, 0, 0, .int (1)) := by decide +kernel
theorem fe_X12_missing_4 : mj_f mi_X12_missing 4 = some (.invokevirtual 286, 3, 219, 3, .null) := by decide +kernel
theorem fe_X12_missing_7 : mj_f mi_X12_missing 7 = some (.ireturn, 1, 0, 0, .null) := by decide +kernel
def ct_X12_sow : MJT := [
  (0, 0, .iload_n 1, 1, 1, 0, .null),
  (1, 1379, .invokestatic 276, 3, 216, 1, .null),
  (4, 0, .ifCond .eq 39, 3, 43, 0, .null),
  (7, 0, .iload_n 2, 1, 2, 0, .null),
  (8, 0, .iconst 1, 1, 0, 0, .int (1)),
  (9, 0, .bipush 64, 2, 0, 0, .int (64)),
  (11, 1382, .invokestatic 280, 3, 181, 3, .null),
  (14, 0, .ifCond .eq 29, 3, 43, 0, .null),
  (17, 0, .iload 8, 2, 8, 0, .null),
  (19, 0, .iconst 1, 1, 0, 0, .int (1)),
  (20, 1520, .ldc_w 290, 3, 0, 0, .int (1000000)),
  (23, 1382, .invokestatic 280, 3, 181, 3, .null),
  (26, 0, .ifCond .eq 17, 3, 43, 0, .null),
  (29, 0, .aload_n 0, 1, 0, 0, .null),
  (30, 1212, .getfield 7, 3, 12, 0, .null),
  (33, 0, .iload_n 1, 1, 1, 0, .null),
  (34, 0, .iaload, 1, 0, 0, .null),
  (35, 0, .iload_n 2, 1, 2, 0, .null),
  (36, 0, .iadd, 1, 0, 0, .null),
  (37, 0, .sipush 160, 3, 0, 0, .int (160)),
  (40, 0, .if_icmp .le 5, 3, 45, 0, .null),
  (43, 0, .iconst (-1), 1, 0, 0, .int (-1)),
  (44, 0, .ireturn, 1, 0, 0, .null),
  (45, 0, .iload_n 3, 1, 3, 0, .null),
  (46, 0, .istore 11, 2, 11, 0, .null),
  (48, 0, .iconst 0, 1, 0, 0, .int (0)),
  (49, 0, .istore 12, 2, 12, 0, .null),
  (51, 0, .iload 12, 2, 12, 0, .null),
  (53, 0, .iload_n 2, 1, 2, 0, .null),
  (54, 0, .if_icmp .ge 50, 3, 104, 0, .null),
  (57, 1521, .ldc_w 291, 3, 0, 0, .int (1103515245)),
  (60, 0, .iload 11, 2, 11, 0, .null),
  (62, 0, .imul, 1, 0, 0, .null),
  (63, 0, .sipush 12345, 3, 0, 0, .int (12345)),
  (66, 0, .iadd, 1, 0, 0, .null),
  (67, 0, .istore 11, 2, 11, 0, .null),
  (69, 0, .aload_n 0, 1, 0, 0, .null),
  (70, 0, .iload_n 1, 1, 1, 0, .null),
  (71, 0, .lload 4, 2, 4, 0, .null),
  (73, 0, .lload 6, 2, 6, 0, .null),
  (75, 0, .iload 12, 2, 12, 0, .null),
  (77, 0, .i2l, 1, 0, 0, .null),
  (78, 0, .lmul, 1, 0, 0, .null),
  (79, 0, .ladd, 1, 0, 0, .null),
  (80, 0, .iload 11, 2, 11, 0, .null),
  (82, 0, .bipush 8, 2, 0, 0, .int (8)),
  (84, 0, .iushr, 1, 0, 0, .null),
  (85, 0, .iload 8, 2, 8, 0, .null),
  (87, 0, .irem, 1, 0, 0, .null),
  (88, 0, .i2l, 1, 0, 0, .null),
  (89, 0, .lload 9, 2, 9, 0, .null),
  (91, 0, .lmul, 1, 0, 0, .null),
  (92, 0, .ladd, 1, 0, 0, .null),
  (93, 0, .iconst 0, 1, 0, 0, .int (0)),
  (94, 1389, .invokevirtual 286, 3, 219, 3, .null),
  (97, 0, .pop, 1, 0, 0, .null),
  (98, 0, .iinc 12 1, 3, 12, 0, .int (1)),
  (101, 0, .goto (-50), 3, 51, 0, .null),
  (104, 0, .aload_n 0, 1, 0, 0, .null),
  (105, 1212, .getfield 7, 3, 12, 0, .null),
  (108, 0, .iload_n 1, 1, 1, 0, .null),
  (109, 0, .iaload, 1, 0, 0, .null),
  (110, 0, .ireturn, 1, 0, 0, .null)]
abbrev id_X12_sow : Nat := 222
def mi_X12_sow : MI := (yX12_sow, cX12_sow, 13, (some .int), 12, ct_X12_sow)
theorem fe_X12_sow_0 : mj_f mi_X12_sow 0 = some (.iload_n 1, 1, 1, 0, .null) := by decide +kernel
theorem fe_X12_sow_1 : mj_f mi_X12_sow 1 = some (.invokestatic 276, 3, 216, 1, .null) := by decide +kernel
theorem fe_X12_sow_4 : mj_f mi_X12_sow 4 = some (.ifCond .eq 39, 3, 43, 0, .null) := by decide +kernel
theorem fe_X12_sow_7 : mj_f mi_X12_sow 7 = some (.iload_n 2, 1, 2, 0, .null) := by decide +kernel
theorem fe_X12_sow_8 : mj_f mi_X12_sow 8 = some (.iconst 1, 1, 0, 0, .int (1)) := by decide +kernel
theorem fe_X12_sow_9 : mj_f mi_X12_sow 9 = some (.bipush 64, 2, 0, 0, .int (64)) := by decide +kernel
theorem fe_X12_sow_11 : mj_f mi_X12_sow 11 = some (.invokestatic 280, 3, 181, 3, .null) := by decide +kernel
theorem fe_X12_sow_14 : mj_f mi_X12_sow 14 = some (.ifCond .eq 29, 3, 43, 0, .null) := by decide +kernel
theorem fe_X12_sow_17 : mj_f mi_X12_sow 17 = some (.iload 8, 2, 8, 0, .null) := by decide +kernel
theorem fe_X12_sow_19 : mj_f mi_X12_sow 19 = some (.iconst 1, 1, 0, 0, .int (1)) := by decide +kernel
theorem fe_X12_sow_20 : mj_f mi_X12_sow 20 = some (.ldc_w 290, 3, 0, 0, .int (1000000)) := by decide +kernel
theorem fe_X12_sow_23 : mj_f mi_X12_sow 23 = some (.invokestatic 280, 3, 181, 3, .null) := by decide +kernel
theorem fe_X12_sow_26 : mj_f mi_X12_sow 26 = some (.ifCond .eq 17, 3, 43, 0, .null) := by decide +kernel
theorem fe_X12_sow_29 : mj_f mi_X12_sow 29 = some (.aload_n 0, 1, 0, 0, .null) := by decide +kernel
theorem fe_X12_sow_30 : mj_f mi_X12_sow 30 = some (.getfield 7, 3, 12, 0, .null) := by decide +kernel
theorem fe_X12_sow_33 : mj_f mi_X12_sow 33 = some (.iload_n 1, 1, 1, 0, .null) := by decide +kernel
theorem fe_X12_sow_34 : mj_f mi_X12_sow 34 = some (.iaload, 1, 0, 0, .null) := by decide +kernel
theorem fe_X12_sow_35 : mj_f mi_X12_sow 35 = some (.iload_n 2, 1, 2, 0, .null) := by decide +kernel
theorem fe_X12_sow_36 : mj_f mi_X12_sow 36 = some (.iadd, 1, 0, 0, .null) := by decide +kernel
theorem fe_X12_sow_37 : mj_f mi_X12_sow 37 = some (.sipush 160, 3, 0, 0, .int (160)) := by decide +kernel
theorem fe_X12_sow_40 : mj_f mi_X12_sow 40 = some (.if_icmp .le 5, 3, 45, 0, .null) := by decide +kernel
theorem fe_X12_sow_43 : mj_f mi_X12_sow 43 = some (.iconst (-1), 1, 0, 0, .int (-1)) := by decide +kernel
theorem fe_X12_sow_44 : mj_f mi_X12_sow 44 = some (.ireturn, 1, 0, 0, .null) := by decide +kernel
theorem fe_X12_sow_45 : mj_f mi_X12_sow 45 = some (.iload_n 3, 1, 3, 0, .null) := by decide +kernel
theorem fe_X12_sow_46 : mj_f mi_X12_sow 46 = some (.istore 11, 2, 11, 0, .null) := by decide +kernel
theorem fe_X12_sow_48 : mj_f mi_X12_sow 48 = some (.iconst 0, 1, 0, 0, .int (0)) := by decide +kernel
theorem fe_X12_sow_49 : mj_f mi_X12_sow 49 = some (.istore 12, 2, 12, 0, .null) := by decide +kernel
theorem fe_X12_sow_51 : mj_f mi_X12_sow 51 = some (.iload 12, 2, 12, 0, .null) := by decide +kernel
theorem fe_X12_sow_53 : mj_f mi_X12_sow 53 = some (.iload_n 2, 1, 2, 0, .null) := by decide +kernel
theorem fe_X12_sow_54 : mj_f mi_X12_sow 54 = some (.if_icmp .ge 50, 3, 104, 0, .null) := by decide +kernel
theorem fe_X12_sow_57 : mj_f mi_X12_sow 57 = some (.ldc_w 291, 3, 0, 0, .int (1103515245)) := by decide +kernel
theorem fe_X12_sow_60 : mj_f mi_X12_sow 60 = some (.iload 11, 2, 11, 0, .null) := by decide +kernel
theorem fe_X12_sow_62 : mj_f mi_X12_sow 62 = some (.imul, 1, 0, 0, .null) := by decide +kernel
theorem fe_X12_sow_63 : mj_f mi_X12_sow 63 = some (.sipush 12345, 3, 0, 0, .int (12345)) := by decide +kernel
theorem fe_X12_sow_66 : mj_f mi_X12_sow 66 = some (.iadd, 1, 0, 0, .null) := by decide +kernel
theorem fe_X12_sow_67 : mj_f mi_X12_sow 67 = some (.istore 11, 2, 11, 0, .null) := by decide +kernel
theorem fe_X12_sow_69 : mj_f mi_X12_sow 69 = some (.aload_n 0, 1, 0, 0, .null) := by decide +kernel
theorem fe_X12_sow_70 : mj_f mi_X12_sow 70 = some (.iload_n 1, 1, 1, 0, .null) := by decide +kernel
theorem fe_X12_sow_71 : mj_f mi_X12_sow 71 = some (.lload 4, 2, 4, 0, .null) := by decide +kernel
theorem fe_X12_sow_73 : mj_f mi_X12_sow 73 = some (.lload 6, 2, 6, 0, .null) := by decide +kernel
theorem fe_X12_sow_75 : mj_f mi_X12_sow 75 = some (.iload 12, 2, 12, 0, .null) := by decide +kernel
theorem fe_X12_sow_77 : mj_f mi_X12_sow 77 = some (.i2l, 1, 0, 0, .null) := by decide +kernel
theorem fe_X12_sow_78 : mj_f mi_X12_sow 78 = some (.lmul, 1, 0, 0, .null) := by decide +kernel
theorem fe_X12_sow_79 : mj_f mi_X12_sow 79 = some (.ladd, 1, 0, 0, .null) := by decide +kernel
theorem fe_X12_sow_80 : mj_f mi_X12_sow 80 = some (.iload 11, 2, 11, 0, .null) := by decide +kernel
theorem fe_X12_sow_82 : mj_f mi_X12_sow 82 = some (.bipush 8, 2, 0, 0, .int (8)) := by decide +kernel
theorem fe_X12_sow_84 : mj_f mi_X12_sow 84 = some (.iushr, 1, 0, 0, .null) := by decide +kernel
theorem fe_X12_sow_85 : mj_f mi_X12_sow 85 = some (.iload 8, 2, 8, 0, .null) := by decide +kernel
theorem fe_X12_sow_87 : mj_f mi_X12_sow 87 = some (.irem, 1, 0, 0, .null) := by decide +kernel
theorem fe_X12_sow_88 : mj_f mi_X12_sow 88 = some (.i2l, 1, 0, 0, .null) := by decide +kernel
theorem fe_X12_sow_89 : mj_f mi_X12_sow 89 = some (.lload 9, 2, 9, 0, .null) := by decide +kernel
theorem fe_X12_sow_91 : mj_f mi_X12_sow 91 = some (.lmul, 1, 0, 0, .null) := by decide +kernel
theorem fe_X12_sow_92 : mj_f mi_X12_sow 92 = some (.ladd, 1, 0, 0, .null) := by decide +kernel
theorem fe_X12_sow_93 : mj_f mi_X12_sow 93 = some (.iconst 0, 1, 0, 0, .int (0)) := by decide +kernel
theorem fe_X12_sow_94 : mj_f mi_X12_sow 94 = some (.invokevirtual 286, 3, 219, 3, .null) := by decide +kernel
theorem fe_X12_sow_97 : mj_f mi_X12_sow 97 = some (.pop, 1, 0, 0, .null) := by decide +kernel
theorem fe_X12_sow_98 : mj_f mi_X12_sow 98 = some (.iinc 12 1, 3, 12, 0, .int (1)) := by decide +kernel
theorem fe_X12_sow_101 : mj_f mi_X12_sow 101 = some (.goto (-50), 3, 51, 0, .null) := by decide +kernel
theorem fe_X12_sow_104 : mj_f mi_X12_sow 104 = some (.aload_n 0, 1, 0, 0, .null) := by decide +kernel
theorem fe_X12_sow_105 : mj_f mi_X12_sow 105 = some (.getfield 7, 3, 12, 0, .null) := by decide +kernel
theorem fe_X12_sow_108 : mj_f mi_X12_sow 108 = some (.iload_n 1, 1, 1, 0, .null) := by decide +kernel
theorem fe_X12_sow_109 : mj_f mi_X12_sow 109 = some (.iaload, 1, 0, 0, .null) := by decide +kernel
theorem fe_X12_sow_110 : mj_f mi_X12_sow 110 = some (.ireturn, 1, 0, 0, .null) := by decide +kernel
def ct_X12_isRow : MJT := [
  (0, 0, .iload_n 1, 1, 1, 0, .null),
  (1, 1379, .invokestatic 276, 3, 216, 1, .null),
  (4, 0, .ifCond .eq 21, 3, 25, 0, .null),
  (7, 0, .iload_n 2, 1, 2, 0, .null),
  (8, 0, .ifCond .lt 17, 3, 25, 0, .null),
  (11, 0, .iload_n 2, 1, 2, 0, .null),
  (12, 0, .aload_n 0, 1, 0, 0, .null),
  (13, 1212, .getfield 7, 3, 12, 0, .null),
  (16, 0, .iload_n 1, 1, 1, 0, .null),
  (17, 0, .iaload, 1, 0, 0, .null),
  (18, 0, .if_icmp .ge 7, 3, 25, 0, .null),
  (21, 0, .iconst 1, 1, 0, 0, .int (1)),
  (22, 0, .goto 4, 3, 26, 0, .null),
  (25, 0, .iconst 0, 1, 0, 0, .int (0)),
  (26, 0, .ireturn, 1, 0, 0, .null)]
abbrev id_X12_isRow : Nat := 223
def mi_X12_isRow : MI := (yX12_isRow, cX12_isRow, 3, (some .boolean), 12, ct_X12_isRow)
theorem fe_X12_isRow_0 : mj_f mi_X12_isRow 0 = some (.iload_n 1, 1, 1, 0, .null) := by decide +kernel
theorem fe_X12_isRow_1 : mj_f mi_X12_isRow 1 = some (.invokestatic 276, 3, 216, 1, .null) := by decide +kernel
theorem fe_X12_isRow_4 : mj_f mi_X12_isRow 4 = some (.ifCond .eq 21, 3, 25, 0, .null) := by decide +kernel
theorem fe_X12_isRow_7 : mj_f mi_X12_isRow 7 = some (.iload_n 2, 1, 2, 0, .null) := by decide +kernel
theorem fe_X12_isRow_8 : mj_f mi_X12_isRow 8 = some (.ifCond .lt 17, 3, 25, 0, .null) := by decide +kernel
theorem fe_X12_isRow_11 : mj_f mi_X12_isRow 11 = some (.iload_n 2, 1, 2, 0, .null) := by decide +kernel
theorem fe_X12_isRow_12 : mj_f mi_X12_isRow 12 = some (.aload_n 0, 1, 0, 0, .null) := by decide +kernel
theorem fe_X12_isRow_13 : mj_f mi_X12_isRow 13 = some (.getfield 7, 3, 12, 0, .null) := by decide +kernel
theorem fe_X12_isRow_16 : mj_f mi_X12_isRow 16 = some (.iload_n 1, 1, 1, 0, .null) := by decide +kernel
theorem fe_X12_isRow_17 : mj_f mi_X12_isRow 17 = some (.iaload, 1, 0, 0, .null) := by decide +kernel
theorem fe_X12_isRow_18 : mj_f mi_X12_isRow 18 = some (.if_icmp .ge 7, 3, 25, 0, .null) := by decide +kernel
theorem fe_X12_isRow_21 : mj_f mi_X12_isRow 21 = some (.iconst 1, 1, 0, 0, .int (1)) := by decide +kernel
theorem fe_X12_isRow_22 : mj_f mi_X12_isRow 22 = some (.goto 4, 3, 26, 0, .null) := by decide +kernel
theorem fe_X12_isRow_25 : mj_f mi_X12_isRow 25 = some (.iconst 0, 1, 0, 0, .int (0)) := by decide +kernel
theorem fe_X12_isRow_26 : mj_f mi_X12_isRow 26 = some (.ireturn, 1, 0, 0, .null) := by decide +kernel
def ct_X12_changes : MJT := [
  (0, 0, .iconst 0, 1, 0, 0, .int (0)),
  (1, 0, .istore_n 3, 1, 3, 0, .null),
  (2, 0, .iconst 0, 1, 0, 0, .int (0)),
  (3, 0, .istore 4, 2, 4, 0, .null),
  (5, 0, .iload 4, 2, 4, 0, .null),
  (7, 0, .aload_n 0, 1, 0, 0, .null),
  (8, 0, .iload_n 1, 1, 1, 0, .null),
  (9, 0, .iload_n 2, 1, 2, 0, .null),
  (10, 1401, .invokevirtual 251, 3, 211, 2, .null),
  (13, 0, .if_icmp .ge 38, 3, 51, 0, .null),
  (16, 0, .iload_n 3, 1, 3, 0, .null),
  (17, 0, .aload_n 0, 1, 0, 0, .null),
  (18, 1217, .getfield 27, 3, 12, 5, .null),
  (21, 0, .sipush 160, 3, 0, 0, .int (160)),
  (24, 0, .iload_n 1, 1, 1, 0, .null),
  (25, 0, .imul, 1, 0, 0, .null),
  (26, 0, .bipush 32, 2, 0, 0, .int (32)),
  (28, 0, .iload_n 2, 1, 2, 0, .null),
  (29, 0, .imul, 1, 0, 0, .null),
  (30, 0, .iadd, 1, 0, 0, .null),
  (31, 0, .iload 4, 2, 4, 0, .null),
  (33, 0, .iadd, 1, 0, 0, .null),
  (34, 0, .baload, 1, 0, 0, .null),
  (35, 0, .ifCond .eq 7, 3, 42, 0, .null),
  (38, 0, .iconst 1, 1, 0, 0, .int (1)),
  (39, 0, .goto 4, 3, 43, 0, .null),
  (42, 0, .iconst 0, 1, 0, 0, .int (0)),
  (43, 0, .iadd, 1, 0, 0, .null),
  (44, 0, .istore_n 3, 1, 3, 0, .null),
  (45, 0, .iinc 4 1, 3, 4, 0, .int (1)),
  (48, 0, .goto (-43), 3, 5, 0, .null),
  (51, 0, .iload_n 3, 1, 3, 0, .null),
  (52, 0, .ireturn, 1, 0, 0, .null)]
abbrev id_X12_changes : Nat := 224
def mi_X12_changes : MI := (yX12_changes, cX12_changes, 5, (some .int), 12, ct_X12_changes)
theorem fe_X12_changes_0 : mj_f mi_X12_changes 0 = some (.iconst 0, 1, 0, 0, .int (0)) := by decide +kernel
theorem fe_X12_changes_1 : mj_f mi_X12_changes 1 = some (.istore_n 3, 1, 3, 0, .null) := by decide +kernel
theorem fe_X12_changes_2 : mj_f mi_X12_changes 2 = some (.iconst 0, 1, 0, 0, .int (0)) := by decide +kernel
theorem fe_X12_changes_3 : mj_f mi_X12_changes 3 = some (.istore 4, 2, 4, 0, .null) := by decide +kernel
theorem fe_X12_changes_5 : mj_f mi_X12_changes 5 = some (.iload 4, 2, 4, 0, .null) := by decide +kernel
theorem fe_X12_changes_7 : mj_f mi_X12_changes 7 = some (.aload_n 0, 1, 0, 0, .null) := by decide +kernel
theorem fe_X12_changes_8 : mj_f mi_X12_changes 8 = some (.iload_n 1, 1, 1, 0, .null) := by decide +kernel
theorem fe_X12_changes_9 : mj_f mi_X12_changes 9 = some (.iload_n 2, 1, 2, 0, .null) := by decide +kernel
theorem fe_X12_changes_10 : mj_f mi_X12_changes 10 = some (.invokevirtual 251, 3, 211, 2, .null) := by decide +kernel
theorem fe_X12_changes_13 : mj_f mi_X12_changes 13 = some (.if_icmp .ge 38, 3, 51, 0, .null) := by decide +kernel
theorem fe_X12_changes_16 : mj_f mi_X12_changes 16 = some (.iload_n 3, 1, 3, 0, .null) := by decide +kernel
theorem fe_X12_changes_17 : mj_f mi_X12_changes 17 = some (.aload_n 0, 1, 0, 0, .null) := by decide +kernel
theorem fe_X12_changes_18 : mj_f mi_X12_changes 18 = some (.getfield 27, 3, 12, 5, .null) := by decide +kernel
theorem fe_X12_changes_21 : mj_f mi_X12_changes 21 = some (.sipush 160, 3, 0, 0, .int (160)) := by decide +kernel
theorem fe_X12_changes_24 : mj_f mi_X12_changes 24 = some (.iload_n 1, 1, 1, 0, .null) := by decide +kernel
theorem fe_X12_changes_25 : mj_f mi_X12_changes 25 = some (.imul, 1, 0, 0, .null) := by decide +kernel
theorem fe_X12_changes_26 : mj_f mi_X12_changes 26 = some (.bipush 32, 2, 0, 0, .int (32)) := by decide +kernel
theorem fe_X12_changes_28 : mj_f mi_X12_changes 28 = some (.iload_n 2, 1, 2, 0, .null) := by decide +kernel
theorem fe_X12_changes_29 : mj_f mi_X12_changes 29 = some (.imul, 1, 0, 0, .null) := by decide +kernel
theorem fe_X12_changes_30 : mj_f mi_X12_changes 30 = some (.iadd, 1, 0, 0, .null) := by decide +kernel
theorem fe_X12_changes_31 : mj_f mi_X12_changes 31 = some (.iload 4, 2, 4, 0, .null) := by decide +kernel
theorem fe_X12_changes_33 : mj_f mi_X12_changes 33 = some (.iadd, 1, 0, 0, .null) := by decide +kernel
theorem fe_X12_changes_34 : mj_f mi_X12_changes 34 = some (.baload, 1, 0, 0, .null) := by decide +kernel
theorem fe_X12_changes_35 : mj_f mi_X12_changes 35 = some (.ifCond .eq 7, 3, 42, 0, .null) := by decide +kernel
theorem fe_X12_changes_38 : mj_f mi_X12_changes 38 = some (.iconst 1, 1, 0, 0, .int (1)) := by decide +kernel
theorem fe_X12_changes_39 : mj_f mi_X12_changes 39 = some (.goto 4, 3, 43, 0, .null) := by decide +kernel
theorem fe_X12_changes_42 : mj_f mi_X12_changes 42 = some (.iconst 0, 1, 0, 0, .int (0)) := by decide +kernel
theorem fe_X12_changes_43 : mj_f mi_X12_changes 43 = some (.iadd, 1, 0, 0, .null) := by decide +kernel
theorem fe_X12_changes_44 : mj_f mi_X12_changes 44 = some (.istore_n 3, 1, 3, 0, .null) := by decide +kernel
theorem fe_X12_changes_45 : mj_f mi_X12_changes 45 = some (.iinc 4 1, 3, 4, 0, .int (1)) := by decide +kernel
theorem fe_X12_changes_48 : mj_f mi_X12_changes 48 = some (.goto (-43), 3, 5, 0, .null) := by decide +kernel
theorem fe_X12_changes_51 : mj_f mi_X12_changes 51 = some (.iload_n 3, 1, 3, 0, .null) := by decide +kernel
theorem fe_X12_changes_52 : mj_f mi_X12_changes 52 = some (.ireturn, 1, 0, 0, .null) := by decide +kernel
def ct_X12_set : MJT := [
  (0, 0, .aload_n 0, 1, 0, 0, .null),
  (1, 0, .iload_n 1, 1, 1, 0, .null),
  (2, 0, .iload_n 2, 1, 2, 0, .null),
  (3, 1526, .invokevirtual 292, 3, 223, 2, .null),
  (6, 0, .ifCond .ne 5, 3, 11, 0, .null),
  (9, 0, .iconst (-1), 1, 0, 0, .int (-1)),
  (10, 0, .ireturn, 1, 0, 0, .null),
  (11, 0, .iload_n 2, 1, 2, 0, .null),
  (12, 0, .bipush 32, 2, 0, 0, .int (32)),
  (14, 0, .idiv, 1, 0, 0, .null),
  (15, 0, .istore 5, 2, 5, 0, .null),
  (17, 0, .aload_n 0, 1, 0, 0, .null),
  (18, 1215, .getfield 19, 3, 12, 3, .null),
  (21, 0, .sipush 160, 3, 0, 0, .int (160)),
  (24, 0, .iload_n 1, 1, 1, 0, .null),
  (25, 0, .imul, 1, 0, 0, .null),
  (26, 0, .iload_n 2, 1, 2, 0, .null),
  (27, 0, .iadd, 1, 0, 0, .null),
  (28, 0, .lload_n 3, 1, 3, 0, .null),
  (29, 0, .lastore, 1, 0, 0, .null),
  (30, 0, .aload_n 0, 1, 0, 0, .null),
  (31, 1216, .getfield 23, 3, 12, 4, .null),
  (34, 0, .sipush 160, 3, 0, 0, .int (160)),
  (37, 0, .iload_n 1, 1, 1, 0, .null),
  (38, 0, .imul, 1, 0, 0, .null),
  (39, 0, .iload_n 2, 1, 2, 0, .null),
  (40, 0, .iadd, 1, 0, 0, .null),
  (41, 0, .iconst 0, 1, 0, 0, .int (0)),
  (42, 0, .bastore, 1, 0, 0, .null),
  (43, 0, .aload_n 0, 1, 0, 0, .null),
  (44, 1218, .getfield 30, 3, 12, 6, .null),
  (47, 0, .iconst 5, 1, 0, 0, .int (5)),
  (48, 0, .iload_n 1, 1, 1, 0, .null),
  (49, 0, .imul, 1, 0, 0, .null),
  (50, 0, .iload 5, 2, 5, 0, .null),
  (52, 0, .iadd, 1, 0, 0, .null),
  (53, 0, .baload, 1, 0, 0, .null),
  (54, 0, .ifCond .ne 5, 3, 59, 0, .null),
  (57, 0, .iconst 0, 1, 0, 0, .int (0)),
  (58, 0, .ireturn, 1, 0, 0, .null),
  (59, 0, .aload_n 0, 1, 0, 0, .null),
  (60, 1217, .getfield 27, 3, 12, 5, .null),
  (63, 0, .sipush 160, 3, 0, 0, .int (160)),
  (66, 0, .iload_n 1, 1, 1, 0, .null),
  (67, 0, .imul, 1, 0, 0, .null),
  (68, 0, .iload_n 2, 1, 2, 0, .null),
  (69, 0, .iadd, 1, 0, 0, .null),
  (70, 0, .iconst 1, 1, 0, 0, .int (1)),
  (71, 0, .bastore, 1, 0, 0, .null),
  (72, 0, .aload_n 0, 1, 0, 0, .null),
  (73, 0, .iload_n 1, 1, 1, 0, .null),
  (74, 0, .iload 5, 2, 5, 0, .null),
  (76, 1530, .invokevirtual 295, 3, 224, 2, .null),
  (79, 0, .iconst 4, 1, 0, 0, .int (4)),
  (80, 0, .if_icmp .le 10, 3, 90, 0, .null),
  (83, 0, .aload_n 0, 1, 0, 0, .null),
  (84, 0, .iload_n 1, 1, 1, 0, .null),
  (85, 0, .iload 5, 2, 5, 0, .null),
  (87, 1393, .invokevirtual 283, 3, 214, 2, .null),
  (90, 0, .aload_n 0, 1, 0, 0, .null),
  (91, 0, .iload_n 1, 1, 1, 0, .null),
  (92, 0, .iload 5, 2, 5, 0, .null),
  (94, 1530, .invokevirtual 295, 3, 224, 2, .null),
  (97, 0, .ireturn, 1, 0, 0, .null)]
abbrev id_X12_set : Nat := 225
def mi_X12_set : MI := (yX12_set, cX12_set, 6, (some .int), 12, ct_X12_set)
theorem fe_X12_set_0 : mj_f mi_X12_set 0 = some (.aload_n 0, 1, 0, 0, .null) := by decide +kernel
theorem fe_X12_set_1 : mj_f mi_X12_set 1 = some (.iload_n 1, 1, 1, 0, .null) := by decide +kernel
theorem fe_X12_set_2 : mj_f mi_X12_set 2 = some (.iload_n 2, 1, 2, 0, .null) := by decide +kernel
theorem fe_X12_set_3 : mj_f mi_X12_set 3 = some (.invokevirtual 292, 3, 223, 2, .null) := by decide +kernel
theorem fe_X12_set_6 : mj_f mi_X12_set 6 = some (.ifCond .ne 5, 3, 11, 0, .null) := by decide +kernel
theorem fe_X12_set_9 : mj_f mi_X12_set 9 = some (.iconst (-1), 1, 0, 0, .int (-1)) := by decide +kernel
theorem fe_X12_set_10 : mj_f mi_X12_set 10 = some (.ireturn, 1, 0, 0, .null) := by decide +kernel
theorem fe_X12_set_11 : mj_f mi_X12_set 11 = some (.iload_n 2, 1, 2, 0, .null) := by decide +kernel
theorem fe_X12_set_12 : mj_f mi_X12_set 12 = some (.bipush 32, 2, 0, 0, .int (32)) := by decide +kernel
theorem fe_X12_set_14 : mj_f mi_X12_set 14 = some (.idiv, 1, 0, 0, .null) := by decide +kernel
theorem fe_X12_set_15 : mj_f mi_X12_set 15 = some (.istore 5, 2, 5, 0, .null) := by decide +kernel
theorem fe_X12_set_17 : mj_f mi_X12_set 17 = some (.aload_n 0, 1, 0, 0, .null) := by decide +kernel
theorem fe_X12_set_18 : mj_f mi_X12_set 18 = some (.getfield 19, 3, 12, 3, .null) := by decide +kernel
theorem fe_X12_set_21 : mj_f mi_X12_set 21 = some (.sipush 160, 3, 0, 0, .int (160)) := by decide +kernel
theorem fe_X12_set_24 : mj_f mi_X12_set 24 = some (.iload_n 1, 1, 1, 0, .null) := by decide +kernel
theorem fe_X12_set_25 : mj_f mi_X12_set 25 = some (.imul, 1, 0, 0, .null) := by decide +kernel
theorem fe_X12_set_26 : mj_f mi_X12_set 26 = some (.iload_n 2, 1, 2, 0, .null) := by decide +kernel
theorem fe_X12_set_27 : mj_f mi_X12_set 27 = some (.iadd, 1, 0, 0, .null) := by decide +kernel
theorem fe_X12_set_28 : mj_f mi_X12_set 28 = some (.lload_n 3, 1, 3, 0, .null) := by decide +kernel
theorem fe_X12_set_29 : mj_f mi_X12_set 29 = some (.lastore, 1, 0, 0, .null) := by decide +kernel
theorem fe_X12_set_30 : mj_f mi_X12_set 30 = some (.aload_n 0, 1, 0, 0, .null) := by decide +kernel
theorem fe_X12_set_31 : mj_f mi_X12_set 31 = some (.getfield 23, 3, 12, 4, .null) := by decide +kernel
theorem fe_X12_set_34 : mj_f mi_X12_set 34 = some (.sipush 160, 3, 0, 0, .int (160)) := by decide +kernel
theorem fe_X12_set_37 : mj_f mi_X12_set 37 = some (.iload_n 1, 1, 1, 0, .null) := by decide +kernel
theorem fe_X12_set_38 : mj_f mi_X12_set 38 = some (.imul, 1, 0, 0, .null) := by decide +kernel
theorem fe_X12_set_39 : mj_f mi_X12_set 39 = some (.iload_n 2, 1, 2, 0, .null) := by decide +kernel
theorem fe_X12_set_40 : mj_f mi_X12_set 40 = some (.iadd, 1, 0, 0, .null) := by decide +kernel
theorem fe_X12_set_41 : mj_f mi_X12_set 41 = some (.iconst 0, 1, 0, 0, .int (0)) := by decide +kernel
theorem fe_X12_set_42 : mj_f mi_X12_set 42 = some (.bastore, 1, 0, 0, .null) := by decide +kernel
theorem fe_X12_set_43 : mj_f mi_X12_set 43 = some (.aload_n 0, 1, 0, 0, .null) := by decide +kernel
theorem fe_X12_set_44 : mj_f mi_X12_set 44 = some (.getfield 30, 3, 12, 6, .null) := by decide +kernel
theorem fe_X12_set_47 : mj_f mi_X12_set 47 = some (.iconst 5, 1, 0, 0, .int (5)) := by decide +kernel
theorem fe_X12_set_48 : mj_f mi_X12_set 48 = some (.iload_n 1, 1, 1, 0, .null) := by decide +kernel
theorem fe_X12_set_49 : mj_f mi_X12_set 49 = some (.imul, 1, 0, 0, .null) := by decide +kernel
theorem fe_X12_set_50 : mj_f mi_X12_set 50 = some (.iload 5, 2, 5, 0, .null) := by decide +kernel
theorem fe_X12_set_52 : mj_f mi_X12_set 52 = some (.iadd, 1, 0, 0, .null) := by decide +kernel
theorem fe_X12_set_53 : mj_f mi_X12_set 53 = some (.baload, 1, 0, 0, .null) := by decide +kernel
theorem fe_X12_set_54 : mj_f mi_X12_set 54 = some (.ifCond .ne 5, 3, 59, 0, .null) := by decide +kernel
theorem fe_X12_set_57 : mj_f mi_X12_set 57 = some (.iconst 0, 1, 0, 0, .int (0)) := by decide +kernel
theorem fe_X12_set_58 : mj_f mi_X12_set 58 = some (.ireturn, 1, 0, 0, .null) := by decide +kernel
theorem fe_X12_set_59 : mj_f mi_X12_set 59 = some (.aload_n 0, 1, 0, 0, .null) := by decide +kernel
theorem fe_X12_set_60 : mj_f mi_X12_set 60 = some (.getfield 27, 3, 12, 5, .null) := by decide +kernel
theorem fe_X12_set_63 : mj_f mi_X12_set 63 = some (.sipush 160, 3, 0, 0, .int (160)) := by decide +kernel
theorem fe_X12_set_66 : mj_f mi_X12_set 66 = some (.iload_n 1, 1, 1, 0, .null) := by decide +kernel
theorem fe_X12_set_67 : mj_f mi_X12_set 67 = some (.imul, 1, 0, 0, .null) := by decide +kernel
theorem fe_X12_set_68 : mj_f mi_X12_set 68 = some (.iload_n 2, 1, 2, 0, .null) := by decide +kernel
theorem fe_X12_set_69 : mj_f mi_X12_set 69 = some (.iadd, 1, 0, 0, .null) := by decide +kernel
theorem fe_X12_set_70 : mj_f mi_X12_set 70 = some (.iconst 1, 1, 0, 0, .int (1)) := by decide +kernel
theorem fe_X12_set_71 : mj_f mi_X12_set 71 = some (.bastore, 1, 0, 0, .null) := by decide +kernel
theorem fe_X12_set_72 : mj_f mi_X12_set 72 = some (.aload_n 0, 1, 0, 0, .null) := by decide +kernel
theorem fe_X12_set_73 : mj_f mi_X12_set 73 = some (.iload_n 1, 1, 1, 0, .null) := by decide +kernel
theorem fe_X12_set_74 : mj_f mi_X12_set 74 = some (.iload 5, 2, 5, 0, .null) := by decide +kernel
theorem fe_X12_set_76 : mj_f mi_X12_set 76 = some (.invokevirtual 295, 3, 224, 2, .null) := by decide +kernel
theorem fe_X12_set_79 : mj_f mi_X12_set 79 = some (.iconst 4, 1, 0, 0, .int (4)) := by decide +kernel
theorem fe_X12_set_80 : mj_f mi_X12_set 80 = some (.if_icmp .le 10, 3, 90, 0, .null) := by decide +kernel
theorem fe_X12_set_83 : mj_f mi_X12_set 83 = some (.aload_n 0, 1, 0, 0, .null) := by decide +kernel
theorem fe_X12_set_84 : mj_f mi_X12_set 84 = some (.iload_n 1, 1, 1, 0, .null) := by decide +kernel
theorem fe_X12_set_85 : mj_f mi_X12_set 85 = some (.iload 5, 2, 5, 0, .null) := by decide +kernel
theorem fe_X12_set_87 : mj_f mi_X12_set 87 = some (.invokevirtual 283, 3, 214, 2, .null) := by decide +kernel
theorem fe_X12_set_90 : mj_f mi_X12_set 90 = some (.aload_n 0, 1, 0, 0, .null) := by decide +kernel
theorem fe_X12_set_91 : mj_f mi_X12_set 91 = some (.iload_n 1, 1, 1, 0, .null) := by decide +kernel
theorem fe_X12_set_92 : mj_f mi_X12_set 92 = some (.iload 5, 2, 5, 0, .null) := by decide +kernel
theorem fe_X12_set_94 : mj_f mi_X12_set 94 = some (.invokevirtual 295, 3, 224, 2, .null) := by decide +kernel
theorem fe_X12_set_97 : mj_f mi_X12_set 97 = some (.ireturn, 1, 0, 0, .null) := by decide +kernel
def ct_X12_pack : MJT := [
  (0, 0, .iload_n 1, 1, 1, 0, .null),
  (1, 1379, .invokestatic 276, 3, 216, 1, .null),
  (4, 0, .ifCond .ne 5, 3, 9, 0, .null),
  (7, 0, .iconst (-1), 1, 0, 0, .int (-1)),
  (8, 0, .ireturn, 1, 0, 0, .null),
  (9, 0, .iconst 0, 1, 0, 0, .int (0)),
  (10, 0, .istore_n 2, 1, 2, 0, .null),
  (11, 0, .iconst 0, 1, 0, 0, .int (0)),
  (12, 0, .istore_n 3, 1, 3, 0, .null),
  (13, 0, .iload_n 3, 1, 3, 0, .null),
  (14, 0, .aload_n 0, 1, 0, 0, .null),
  (15, 0, .iload_n 1, 1, 1, 0, .null),
  (16, 1538, .invokevirtual 298, 3, 217, 1, .null),
  (19, 0, .if_icmp .ge 28, 3, 47, 0, .null),
  (22, 0, .aload_n 0, 1, 0, 0, .null),
  (23, 0, .iload_n 1, 1, 1, 0, .null),
  (24, 0, .iload_n 3, 1, 3, 0, .null),
  (25, 1393, .invokevirtual 283, 3, 214, 2, .null),
  (28, 0, .iload_n 2, 1, 2, 0, .null),
  (29, 0, .aload_n 0, 1, 0, 0, .null),
  (30, 1219, .getfield 33, 3, 12, 7, .null),
  (33, 0, .iconst 5, 1, 0, 0, .int (5)),
  (34, 0, .iload_n 1, 1, 1, 0, .null),
  (35, 0, .imul, 1, 0, 0, .null),
  (36, 0, .iload_n 3, 1, 3, 0, .null),
  (37, 0, .iadd, 1, 0, 0, .null),
  (38, 0, .iaload, 1, 0, 0, .null),
  (39, 0, .iadd, 1, 0, 0, .null),
  (40, 0, .istore_n 2, 1, 2, 0, .null),
  (41, 0, .iinc 3 1, 3, 3, 0, .int (1)),
  (44, 0, .goto (-31), 3, 13, 0, .null),
  (47, 0, .iload_n 2, 1, 2, 0, .null),
  (48, 0, .ireturn, 1, 0, 0, .null)]
abbrev id_X12_pack : Nat := 226
def mi_X12_pack : MI := (yX12_pack, cX12_pack, 4, (some .int), 12, ct_X12_pack)
theorem fe_X12_pack_0 : mj_f mi_X12_pack 0 = some (.iload_n 1, 1, 1, 0, .null) := by decide +kernel
theorem fe_X12_pack_1 : mj_f mi_X12_pack 1 = some (.invokestatic 276, 3, 216, 1, .null) := by decide +kernel
theorem fe_X12_pack_4 : mj_f mi_X12_pack 4 = some (.ifCond .ne 5, 3, 9, 0, .null) := by decide +kernel
theorem fe_X12_pack_7 : mj_f mi_X12_pack 7 = some (.iconst (-1), 1, 0, 0, .int (-1)) := by decide +kernel
theorem fe_X12_pack_8 : mj_f mi_X12_pack 8 = some (.ireturn, 1, 0, 0, .null) := by decide +kernel
theorem fe_X12_pack_9 : mj_f mi_X12_pack 9 = some (.iconst 0, 1, 0, 0, .int (0)) := by decide +kernel
theorem fe_X12_pack_10 : mj_f mi_X12_pack 10 = some (.istore_n 2, 1, 2, 0, .null) := by decide +kernel
theorem fe_X12_pack_11 : mj_f mi_X12_pack 11 = some (.iconst 0, 1, 0, 0, .int (0)) := by decide +kernel
theorem fe_X12_pack_12 : mj_f mi_X12_pack 12 = some (.istore_n 3, 1, 3, 0, .null) := by decide +kernel
theorem fe_X12_pack_13 : mj_f mi_X12_pack 13 = some (.iload_n 3, 1, 3, 0, .null) := by decide +kernel
theorem fe_X12_pack_14 : mj_f mi_X12_pack 14 = some (.aload_n 0, 1, 0, 0, .null) := by decide +kernel
theorem fe_X12_pack_15 : mj_f mi_X12_pack 15 = some (.iload_n 1, 1, 1, 0, .null) := by decide +kernel
theorem fe_X12_pack_16 : mj_f mi_X12_pack 16 = some (.invokevirtual 298, 3, 217, 1, .null) := by decide +kernel
theorem fe_X12_pack_19 : mj_f mi_X12_pack 19 = some (.if_icmp .ge 28, 3, 47, 0, .null) := by decide +kernel
theorem fe_X12_pack_22 : mj_f mi_X12_pack 22 = some (.aload_n 0, 1, 0, 0, .null) := by decide +kernel
theorem fe_X12_pack_23 : mj_f mi_X12_pack 23 = some (.iload_n 1, 1, 1, 0, .null) := by decide +kernel
theorem fe_X12_pack_24 : mj_f mi_X12_pack 24 = some (.iload_n 3, 1, 3, 0, .null) := by decide +kernel
theorem fe_X12_pack_25 : mj_f mi_X12_pack 25 = some (.invokevirtual 283, 3, 214, 2, .null) := by decide +kernel
theorem fe_X12_pack_28 : mj_f mi_X12_pack 28 = some (.iload_n 2, 1, 2, 0, .null) := by decide +kernel
theorem fe_X12_pack_29 : mj_f mi_X12_pack 29 = some (.aload_n 0, 1, 0, 0, .null) := by decide +kernel
theorem fe_X12_pack_30 : mj_f mi_X12_pack 30 = some (.getfield 33, 3, 12, 7, .null) := by decide +kernel
theorem fe_X12_pack_33 : mj_f mi_X12_pack 33 = some (.iconst 5, 1, 0, 0, .int (5)) := by decide +kernel
theorem fe_X12_pack_34 : mj_f mi_X12_pack 34 = some (.iload_n 1, 1, 1, 0, .null) := by decide +kernel
theorem fe_X12_pack_35 : mj_f mi_X12_pack 35 = some (.imul, 1, 0, 0, .null) := by decide +kernel
theorem fe_X12_pack_36 : mj_f mi_X12_pack 36 = some (.iload_n 3, 1, 3, 0, .null) := by decide +kernel
theorem fe_X12_pack_37 : mj_f mi_X12_pack 37 = some (.iadd, 1, 0, 0, .null) := by decide +kernel
theorem fe_X12_pack_38 : mj_f mi_X12_pack 38 = some (.iaload, 1, 0, 0, .null) := by decide +kernel
theorem fe_X12_pack_39 : mj_f mi_X12_pack 39 = some (.iadd, 1, 0, 0, .null) := by decide +kernel
theorem fe_X12_pack_40 : mj_f mi_X12_pack 40 = some (.istore_n 2, 1, 2, 0, .null) := by decide +kernel
theorem fe_X12_pack_41 : mj_f mi_X12_pack 41 = some (.iinc 3 1, 3, 3, 0, .int (1)) := by decide +kernel
theorem fe_X12_pack_44 : mj_f mi_X12_pack 44 = some (.goto (-31), 3, 13, 0, .null) := by decide +kernel
theorem fe_X12_pack_47 : mj_f mi_X12_pack 47 = some (.iload_n 2, 1, 2, 0, .null) := by decide +kernel
theorem fe_X12_pack_48 : mj_f mi_X12_pack 48 = some (.ireturn, 1, 0, 0, .null) := by decide +kernel
def ct_X12_clear : MJT := [
  (0, 0, .iload_n 1, 1, 1, 0, .null),
  (1, 1379, .invokestatic 276, 3, 216, 1, .null),
  (4, 0, .ifCond .ne 5, 3, 9, 0, .null),
  (7, 0, .iconst (-1), 1, 0, 0, .int (-1)),
  (8, 0, .ireturn, 1, 0, 0, .null),
  (9, 0, .aload_n 0, 1, 0, 0, .null),
  (10, 1212, .getfield 7, 3, 12, 0, .null),
  (13, 0, .iload_n 1, 1, 1, 0, .null),
  (14, 0, .iaload, 1, 0, 0, .null),
  (15, 0, .istore_n 2, 1, 2, 0, .null),
  (16, 0, .aload_n 0, 1, 0, 0, .null),
  (17, 1212, .getfield 7, 3, 12, 0, .null),
  (20, 0, .iload_n 1, 1, 1, 0, .null),
  (21, 0, .iconst 0, 1, 0, 0, .int (0)),
  (22, 0, .iastore, 1, 0, 0, .null),
  (23, 0, .iconst 0, 1, 0, 0, .int (0)),
  (24, 0, .istore_n 3, 1, 3, 0, .null),
  (25, 0, .iload_n 3, 1, 3, 0, .null),
  (26, 0, .iconst 5, 1, 0, 0, .int (5)),
  (27, 0, .if_icmp .ge 20, 3, 47, 0, .null),
  (30, 0, .aload_n 0, 1, 0, 0, .null),
  (31, 1218, .getfield 30, 3, 12, 6, .null),
  (34, 0, .iconst 5, 1, 0, 0, .int (5)),
  (35, 0, .iload_n 1, 1, 1, 0, .null),
  (36, 0, .imul, 1, 0, 0, .null),
  (37, 0, .iload_n 3, 1, 3, 0, .null),
  (38, 0, .iadd, 1, 0, 0, .null),
  (39, 0, .iconst 0, 1, 0, 0, .int (0)),
  (40, 0, .bastore, 1, 0, 0, .null),
  (41, 0, .iinc 3 1, 3, 3, 0, .int (1)),
  (44, 0, .goto (-19), 3, 25, 0, .null),
  (47, 0, .iconst 0, 1, 0, 0, .int (0)),
  (48, 0, .istore_n 3, 1, 3, 0, .null),
  (49, 0, .iload_n 3, 1, 3, 0, .null),
  (50, 0, .sipush 160, 3, 0, 0, .int (160)),
  (53, 0, .if_icmp .ge 22, 3, 75, 0, .null),
  (56, 0, .aload_n 0, 1, 0, 0, .null),
  (57, 1217, .getfield 27, 3, 12, 5, .null),
  (60, 0, .sipush 160, 3, 0, 0, .int (160)),
  (63, 0, .iload_n 1, 1, 1, 0, .null),
  (64, 0, .imul, 1, 0, 0, .null),
  (65, 0, .iload_n 3, 1, 3, 0, .null),
  (66, 0, .iadd, 1, 0, 0, .null),
  (67, 0, .iconst 0, 1, 0, 0, .int (0)),
  (68, 0, .bastore, 1, 0, 0, .null),
  (69, 0, .iinc 3 1, 3, 3, 0, .int (1)),
  (72, 0, .goto (-23), 3, 49, 0, .null),
  (75, 0, .iload_n 2, 1, 2, 0, .null),
  (76, 0, .ireturn, 1, 0, 0, .null)]
abbrev id_X12_clear : Nat := 227
def mi_X12_clear : MI := (yX12_clear, cX12_clear, 4, (some .int), 12, ct_X12_clear)
theorem fe_X12_clear_0 : mj_f mi_X12_clear 0 = some (.iload_n 1, 1, 1, 0, .null) := by decide +kernel
theorem fe_X12_clear_1 : mj_f mi_X12_clear 1 = some (.invokestatic 276, 3, 216, 1, .null) := by decide +kernel
theorem fe_X12_clear_4 : mj_f mi_X12_clear 4 = some (.ifCond .ne 5, 3, 9, 0, .null) := by decide +kernel
theorem fe_X12_clear_7 : mj_f mi_X12_clear 7 = some (.iconst (-1), 1, 0, 0, .int (-1)) := by decide +kernel
theorem fe_X12_clear_8 : mj_f mi_X12_clear 8 = some (.ireturn, 1, 0, 0, .null) := by decide +kernel
theorem fe_X12_clear_9 : mj_f mi_X12_clear 9 = some (.aload_n 0, 1, 0, 0, .null) := by decide +kernel
theorem fe_X12_clear_10 : mj_f mi_X12_clear 10 = some (.getfield 7, 3, 12, 0, .null) := by decide +kernel
theorem fe_X12_clear_13 : mj_f mi_X12_clear 13 = some (.iload_n 1, 1, 1, 0, .null) := by decide +kernel
theorem fe_X12_clear_14 : mj_f mi_X12_clear 14 = some (.iaload, 1, 0, 0, .null) := by decide +kernel
theorem fe_X12_clear_15 : mj_f mi_X12_clear 15 = some (.istore_n 2, 1, 2, 0, .null) := by decide +kernel
theorem fe_X12_clear_16 : mj_f mi_X12_clear 16 = some (.aload_n 0, 1, 0, 0, .null) := by decide +kernel
theorem fe_X12_clear_17 : mj_f mi_X12_clear 17 = some (.getfield 7, 3, 12, 0, .null) := by decide +kernel
theorem fe_X12_clear_20 : mj_f mi_X12_clear 20 = some (.iload_n 1, 1, 1, 0, .null) := by decide +kernel
theorem fe_X12_clear_21 : mj_f mi_X12_clear 21 = some (.iconst 0, 1, 0, 0, .int (0)) := by decide +kernel
theorem fe_X12_clear_22 : mj_f mi_X12_clear 22 = some (.iastore, 1, 0, 0, .null) := by decide +kernel
theorem fe_X12_clear_23 : mj_f mi_X12_clear 23 = some (.iconst 0, 1, 0, 0, .int (0)) := by decide +kernel
theorem fe_X12_clear_24 : mj_f mi_X12_clear 24 = some (.istore_n 3, 1, 3, 0, .null) := by decide +kernel
theorem fe_X12_clear_25 : mj_f mi_X12_clear 25 = some (.iload_n 3, 1, 3, 0, .null) := by decide +kernel
theorem fe_X12_clear_26 : mj_f mi_X12_clear 26 = some (.iconst 5, 1, 0, 0, .int (5)) := by decide +kernel
theorem fe_X12_clear_27 : mj_f mi_X12_clear 27 = some (.if_icmp .ge 20, 3, 47, 0, .null) := by decide +kernel
theorem fe_X12_clear_30 : mj_f mi_X12_clear 30 = some (.aload_n 0, 1, 0, 0, .null) := by decide +kernel
theorem fe_X12_clear_31 : mj_f mi_X12_clear 31 = some (.getfield 30, 3, 12, 6, .null) := by decide +kernel
theorem fe_X12_clear_34 : mj_f mi_X12_clear 34 = some (.iconst 5, 1, 0, 0, .int (5)) := by decide +kernel
theorem fe_X12_clear_35 : mj_f mi_X12_clear 35 = some (.iload_n 1, 1, 1, 0, .null) := by decide +kernel
theorem fe_X12_clear_36 : mj_f mi_X12_clear 36 = some (.imul, 1, 0, 0, .null) := by decide +kernel
theorem fe_X12_clear_37 : mj_f mi_X12_clear 37 = some (.iload_n 3, 1, 3, 0, .null) := by decide +kernel
theorem fe_X12_clear_38 : mj_f mi_X12_clear 38 = some (.iadd, 1, 0, 0, .null) := by decide +kernel
theorem fe_X12_clear_39 : mj_f mi_X12_clear 39 = some (.iconst 0, 1, 0, 0, .int (0)) := by decide +kernel
theorem fe_X12_clear_40 : mj_f mi_X12_clear 40 = some (.bastore, 1, 0, 0, .null) := by decide +kernel
theorem fe_X12_clear_41 : mj_f mi_X12_clear 41 = some (.iinc 3 1, 3, 3, 0, .int (1)) := by decide +kernel
theorem fe_X12_clear_44 : mj_f mi_X12_clear 44 = some (.goto (-19), 3, 25, 0, .null) := by decide +kernel
theorem fe_X12_clear_47 : mj_f mi_X12_clear 47 = some (.iconst 0, 1, 0, 0, .int (0)) := by decide +kernel
theorem fe_X12_clear_48 : mj_f mi_X12_clear 48 = some (.istore_n 3, 1, 3, 0, .null) := by decide +kernel
theorem fe_X12_clear_49 : mj_f mi_X12_clear 49 = some (.iload_n 3, 1, 3, 0, .null) := by decide +kernel
theorem fe_X12_clear_50 : mj_f mi_X12_clear 50 = some (.sipush 160, 3, 0, 0, .int (160)) := by decide +kernel
theorem fe_X12_clear_53 : mj_f mi_X12_clear 53 = some (.if_icmp .ge 22, 3, 75, 0, .null) := by decide +kernel
theorem fe_X12_clear_56 : mj_f mi_X12_clear 56 = some (.aload_n 0, 1, 0, 0, .null) := by decide +kernel
theorem fe_X12_clear_57 : mj_f mi_X12_clear 57 = some (.getfield 27, 3, 12, 5, .null) := by decide +kernel
theorem fe_X12_clear_60 : mj_f mi_X12_clear 60 = some (.sipush 160, 3, 0, 0, .int (160)) := by decide +kernel
theorem fe_X12_clear_63 : mj_f mi_X12_clear 63 = some (.iload_n 1, 1, 1, 0, .null) := by decide +kernel
theorem fe_X12_clear_64 : mj_f mi_X12_clear 64 = some (.imul, 1, 0, 0, .null) := by decide +kernel
theorem fe_X12_clear_65 : mj_f mi_X12_clear 65 = some (.iload_n 3, 1, 3, 0, .null) := by decide +kernel
theorem fe_X12_clear_66 : mj_f mi_X12_clear 66 = some (.iadd, 1, 0, 0, .null) := by decide +kernel
theorem fe_X12_clear_67 : mj_f mi_X12_clear 67 = some (.iconst 0, 1, 0, 0, .int (0)) := by decide +kernel
theorem fe_X12_clear_68 : mj_f mi_X12_clear 68 = some (.bastore, 1, 0, 0, .null) := by decide +kernel
theorem fe_X12_clear_69 : mj_f mi_X12_clear 69 = some (.iinc 3 1, 3, 3, 0, .int (1)) := by decide +kernel
theorem fe_X12_clear_72 : mj_f mi_X12_clear 72 = some (.goto (-23), 3, 49, 0, .null) := by decide +kernel
theorem fe_X12_clear_75 : mj_f mi_X12_clear 75 = some (.iload_n 2, 1, 2, 0, .null) := by decide +kernel
theorem fe_X12_clear_76 : mj_f mi_X12_clear 76 = some (.ireturn, 1, 0, 0, .null) := by decide +kernel
def ct_X12_count : MJT := [
  (0, 0, .iload_n 1, 1, 1, 0, .null),
  (1, 1379, .invokestatic 276, 3, 216, 1, .null),
  (4, 0, .ifCond .ne 5, 3, 9, 0, .null),
  (7, 0, .iconst (-1), 1, 0, 0, .int (-1)),
  (8, 0, .ireturn, 1, 0, 0, .null),
  (9, 0, .iconst 0, 1, 0, 0, .int (0)),
  (10, 0, .istore_n 3, 1, 3, 0, .null),
  (11, 0, .iload_n 2, 1, 2, 0, .null),
  (12, 0, .tableswitch 144 0 3 #[32, 39, 45, 91], 32, 0, 0, .null),
  (44, 0, .aload_n 0, 1, 0, 0, .null),
  (45, 1212, .getfield 7, 3, 12, 0, .null),
  (48, 0, .iload_n 1, 1, 1, 0, .null),
  (49, 0, .iaload, 1, 0, 0, .null),
  (50, 0, .ireturn, 1, 0, 0, .null),
  (51, 0, .aload_n 0, 1, 0, 0, .null),
  (52, 0, .iload_n 1, 1, 1, 0, .null),
  (53, 1538, .invokevirtual 298, 3, 217, 1, .null),
  (56, 0, .ireturn, 1, 0, 0, .null),
  (57, 0, .iconst 0, 1, 0, 0, .int (0)),
  (58, 0, .istore 4, 2, 4, 0, .null),
  (60, 0, .iload 4, 2, 4, 0, .null),
  (62, 0, .aload_n 0, 1, 0, 0, .null),
  (63, 1212, .getfield 7, 3, 12, 0, .null),
  (66, 0, .iload_n 1, 1, 1, 0, .null),
  (67, 0, .iaload, 1, 0, 0, .null),
  (68, 0, .if_icmp .ge 33, 3, 101, 0, .null),
  (71, 0, .iload_n 3, 1, 3, 0, .null),
  (72, 0, .aload_n 0, 1, 0, 0, .null),
  (73, 1216, .getfield 23, 3, 12, 4, .null),
  (76, 0, .sipush 160, 3, 0, 0, .int (160)),
  (79, 0, .iload_n 1, 1, 1, 0, .null),
  (80, 0, .imul, 1, 0, 0, .null),
  (81, 0, .iload 4, 2, 4, 0, .null),
  (83, 0, .iadd, 1, 0, 0, .null),
  (84, 0, .baload, 1, 0, 0, .null),
  (85, 0, .ifCond .eq 7, 3, 92, 0, .null),
  (88, 0, .iconst 1, 1, 0, 0, .int (1)),
  (89, 0, .goto 4, 3, 93, 0, .null),
  (92, 0, .iconst 0, 1, 0, 0, .int (0)),
  (93, 0, .iadd, 1, 0, 0, .null),
  (94, 0, .istore_n 3, 1, 3, 0, .null),
  (95, 0, .iinc 4 1, 3, 4, 0, .int (1)),
  (98, 0, .goto (-38), 3, 60, 0, .null),
  (101, 0, .iload_n 3, 1, 3, 0, .null),
  (102, 0, .ireturn, 1, 0, 0, .null),
  (103, 0, .iconst 0, 1, 0, 0, .int (0)),
  (104, 0, .istore 4, 2, 4, 0, .null),
  (106, 0, .iload 4, 2, 4, 0, .null),
  (108, 0, .aload_n 0, 1, 0, 0, .null),
  (109, 0, .iload_n 1, 1, 1, 0, .null),
  (110, 1538, .invokevirtual 298, 3, 217, 1, .null),
  (113, 0, .if_icmp .ge 41, 3, 154, 0, .null),
  (116, 0, .iload_n 3, 1, 3, 0, .null),
  (117, 0, .aload_n 0, 1, 0, 0, .null),
  (118, 1218, .getfield 30, 3, 12, 6, .null),
  (121, 0, .iconst 5, 1, 0, 0, .int (5)),
  (122, 0, .iload_n 1, 1, 1, 0, .null),
  (123, 0, .imul, 1, 0, 0, .null),
  (124, 0, .iload 4, 2, 4, 0, .null),
  (126, 0, .iadd, 1, 0, 0, .null),
  (127, 0, .baload, 1, 0, 0, .null),
  (128, 0, .ifCond .eq 17, 3, 145, 0, .null),
  (131, 0, .aload_n 0, 1, 0, 0, .null),
  (132, 1219, .getfield 33, 3, 12, 7, .null),
  (135, 0, .iconst 5, 1, 0, 0, .int (5)),
  (136, 0, .iload_n 1, 1, 1, 0, .null),
  (137, 0, .imul, 1, 0, 0, .null),
  (138, 0, .iload 4, 2, 4, 0, .null),
  (140, 0, .iadd, 1, 0, 0, .null),
  (141, 0, .iaload, 1, 0, 0, .null),
  (142, 0, .goto 4, 3, 146, 0, .null),
  (145, 0, .iconst 0, 1, 0, 0, .int (0)),
  (146, 0, .iadd, 1, 0, 0, .null),
  (147, 0, .istore_n 3, 1, 3, 0, .null),
  (148, 0, .iinc 4 1, 3, 4, 0, .int (1)),
  (151, 0, .goto (-45), 3, 106, 0, .null),
  (154, 0, .iload_n 3, 1, 3, 0, .null),
  (155, 0, .ireturn, 1, 0, 0, .null),
  (156, 0, .iconst (-1), 1, 0, 0, .int (-1)),
  (157, 0, .ireturn, 1, 0, 0, .null)]
abbrev id_X12_count : Nat := 228
def mi_X12_count : MI := (yX12_count, cX12_count, 5, (some .int), 12, ct_X12_count)
theorem fe_X12_count_0 : mj_f mi_X12_count 0 = some (.iload_n 1, 1, 1, 0, .null) := by decide +kernel
theorem fe_X12_count_1 : mj_f mi_X12_count 1 = some (.invokestatic 276, 3, 216, 1, .null) := by decide +kernel
theorem fe_X12_count_4 : mj_f mi_X12_count 4 = some (.ifCond .ne 5, 3, 9, 0, .null) := by decide +kernel
theorem fe_X12_count_7 : mj_f mi_X12_count 7 = some (.iconst (-1), 1, 0, 0, .int (-1)) := by decide +kernel
theorem fe_X12_count_8 : mj_f mi_X12_count 8 = some (.ireturn, 1, 0, 0, .null) := by decide +kernel
theorem fe_X12_count_9 : mj_f mi_X12_count 9 = some (.iconst 0, 1, 0, 0, .int (0)) := by decide +kernel
theorem fe_X12_count_10 : mj_f mi_X12_count 10 = some (.istore_n 3, 1, 3, 0, .null) := by decide +kernel
theorem fe_X12_count_11 : mj_f mi_X12_count 11 = some (.iload_n 2, 1, 2, 0, .null) := by decide +kernel
theorem fe_X12_count_12 : mj_f mi_X12_count 12 = some (.tableswitch 144 0 3 #[32, 39, 45, 91], 32, 0, 0, .null) := by decide +kernel
theorem fe_X12_count_44 : mj_f mi_X12_count 44 = some (.aload_n 0, 1, 0, 0, .null) := by decide +kernel
theorem fe_X12_count_45 : mj_f mi_X12_count 45 = some (.getfield 7, 3, 12, 0, .null) := by decide +kernel
theorem fe_X12_count_48 : mj_f mi_X12_count 48 = some (.iload_n 1, 1, 1, 0, .null) := by decide +kernel
theorem fe_X12_count_49 : mj_f mi_X12_count 49 = some (.iaload, 1, 0, 0, .null) := by decide +kernel
theorem fe_X12_count_50 : mj_f mi_X12_count 50 = some (.ireturn, 1, 0, 0, .null) := by decide +kernel
theorem fe_X12_count_51 : mj_f mi_X12_count 51 = some (.aload_n 0, 1, 0, 0, .null) := by decide +kernel
theorem fe_X12_count_52 : mj_f mi_X12_count 52 = some (.iload_n 1, 1, 1, 0, .null) := by decide +kernel
theorem fe_X12_count_53 : mj_f mi_X12_count 53 = some (.invokevirtual 298, 3, 217, 1, .null) := by decide +kernel
theorem fe_X12_count_56 : mj_f mi_X12_count 56 = some (.ireturn, 1, 0, 0, .null) := by decide +kernel
theorem fe_X12_count_57 : mj_f mi_X12_count 57 = some (.iconst 0, 1, 0, 0, .int (0)) := by decide +kernel
theorem fe_X12_count_58 : mj_f mi_X12_count 58 = some (.istore 4, 2, 4, 0, .null) := by decide +kernel
theorem fe_X12_count_60 : mj_f mi_X12_count 60 = some (.iload 4, 2, 4, 0, .null) := by decide +kernel
theorem fe_X12_count_62 : mj_f mi_X12_count 62 = some (.aload_n 0, 1, 0, 0, .null) := by decide +kernel
theorem fe_X12_count_63 : mj_f mi_X12_count 63 = some (.getfield 7, 3, 12, 0, .null) := by decide +kernel
theorem fe_X12_count_66 : mj_f mi_X12_count 66 = some (.iload_n 1, 1, 1, 0, .null) := by decide +kernel
theorem fe_X12_count_67 : mj_f mi_X12_count 67 = some (.iaload, 1, 0, 0, .null) := by decide +kernel
theorem fe_X12_count_68 : mj_f mi_X12_count 68 = some (.if_icmp .ge 33, 3, 101, 0, .null) := by decide +kernel
theorem fe_X12_count_71 : mj_f mi_X12_count 71 = some (.iload_n 3, 1, 3, 0, .null) := by decide +kernel
theorem fe_X12_count_72 : mj_f mi_X12_count 72 = some (.aload_n 0, 1, 0, 0, .null) := by decide +kernel
theorem fe_X12_count_73 : mj_f mi_X12_count 73 = some (.getfield 23, 3, 12, 4, .null) := by decide +kernel
theorem fe_X12_count_76 : mj_f mi_X12_count 76 = some (.sipush 160, 3, 0, 0, .int (160)) := by decide +kernel
theorem fe_X12_count_79 : mj_f mi_X12_count 79 = some (.iload_n 1, 1, 1, 0, .null) := by decide +kernel
theorem fe_X12_count_80 : mj_f mi_X12_count 80 = some (.imul, 1, 0, 0, .null) := by decide +kernel
theorem fe_X12_count_81 : mj_f mi_X12_count 81 = some (.iload 4, 2, 4, 0, .null) := by decide +kernel
theorem fe_X12_count_83 : mj_f mi_X12_count 83 = some (.iadd, 1, 0, 0, .null) := by decide +kernel
theorem fe_X12_count_84 : mj_f mi_X12_count 84 = some (.baload, 1, 0, 0, .null) := by decide +kernel
theorem fe_X12_count_85 : mj_f mi_X12_count 85 = some (.ifCond .eq 7, 3, 92, 0, .null) := by decide +kernel
theorem fe_X12_count_88 : mj_f mi_X12_count 88 = some (.iconst 1, 1, 0, 0, .int (1)) := by decide +kernel
theorem fe_X12_count_89 : mj_f mi_X12_count 89 = some (.goto 4, 3, 93, 0, .null) := by decide +kernel
theorem fe_X12_count_92 : mj_f mi_X12_count 92 = some (.iconst 0, 1, 0, 0, .int (0)) := by decide +kernel
theorem fe_X12_count_93 : mj_f mi_X12_count 93 = some (.iadd, 1, 0, 0, .null) := by decide +kernel
theorem fe_X12_count_94 : mj_f mi_X12_count 94 = some (.istore_n 3, 1, 3, 0, .null) := by decide +kernel
theorem fe_X12_count_95 : mj_f mi_X12_count 95 = some (.iinc 4 1, 3, 4, 0, .int (1)) := by decide +kernel
theorem fe_X12_count_98 : mj_f mi_X12_count 98 = some (.goto (-38), 3, 60, 0, .null) := by decide +kernel
theorem fe_X12_count_101 : mj_f mi_X12_count 101 = some (.iload_n 3, 1, 3, 0, .null) := by decide +kernel
theorem fe_X12_count_102 : mj_f mi_X12_count 102 = some (.ireturn, 1, 0, 0, .null) := by decide +kernel
theorem fe_X12_count_103 : mj_f mi_X12_count 103 = some (.iconst 0, 1, 0, 0, .int (0)) := by decide +kernel
theorem fe_X12_count_104 : mj_f mi_X12_count 104 = some (.istore 4, 2, 4, 0, .null) := by decide +kernel
theorem fe_X12_count_106 : mj_f mi_X12_count 106 = some (.iload 4, 2, 4, 0, .null) := by decide +kernel
theorem fe_X12_count_108 : mj_f mi_X12_count 108 = some (.aload_n 0, 1, 0, 0, .null) := by decide +kernel
theorem fe_X12_count_109 : mj_f mi_X12_count 109 = some (.iload_n 1, 1, 1, 0, .null) := by decide +kernel
theorem fe_X12_count_110 : mj_f mi_X12_count 110 = some (.invokevirtual 298, 3, 217, 1, .null) := by decide +kernel
theorem fe_X12_count_113 : mj_f mi_X12_count 113 = some (.if_icmp .ge 41, 3, 154, 0, .null) := by decide +kernel
theorem fe_X12_count_116 : mj_f mi_X12_count 116 = some (.iload_n 3, 1, 3, 0, .null) := by decide +kernel
theorem fe_X12_count_117 : mj_f mi_X12_count 117 = some (.aload_n 0, 1, 0, 0, .null) := by decide +kernel
theorem fe_X12_count_118 : mj_f mi_X12_count 118 = some (.getfield 30, 3, 12, 6, .null) := by decide +kernel
theorem fe_X12_count_121 : mj_f mi_X12_count 121 = some (.iconst 5, 1, 0, 0, .int (5)) := by decide +kernel
theorem fe_X12_count_122 : mj_f mi_X12_count 122 = some (.iload_n 1, 1, 1, 0, .null) := by decide +kernel
theorem fe_X12_count_123 : mj_f mi_X12_count 123 = some (.imul, 1, 0, 0, .null) := by decide +kernel
theorem fe_X12_count_124 : mj_f mi_X12_count 124 = some (.iload 4, 2, 4, 0, .null) := by decide +kernel
theorem fe_X12_count_126 : mj_f mi_X12_count 126 = some (.iadd, 1, 0, 0, .null) := by decide +kernel
theorem fe_X12_count_127 : mj_f mi_X12_count 127 = some (.baload, 1, 0, 0, .null) := by decide +kernel
theorem fe_X12_count_128 : mj_f mi_X12_count 128 = some (.ifCond .eq 17, 3, 145, 0, .null) := by decide +kernel
theorem fe_X12_count_131 : mj_f mi_X12_count 131 = some (.aload_n 0, 1, 0, 0, .null) := by decide +kernel
theorem fe_X12_count_132 : mj_f mi_X12_count 132 = some (.getfield 33, 3, 12, 7, .null) := by decide +kernel
theorem fe_X12_count_135 : mj_f mi_X12_count 135 = some (.iconst 5, 1, 0, 0, .int (5)) := by decide +kernel
theorem fe_X12_count_136 : mj_f mi_X12_count 136 = some (.iload_n 1, 1, 1, 0, .null) := by decide +kernel
theorem fe_X12_count_137 : mj_f mi_X12_count 137 = some (.imul, 1, 0, 0, .null) := by decide +kernel
theorem fe_X12_count_138 : mj_f mi_X12_count 138 = some (.iload 4, 2, 4, 0, .null) := by decide +kernel
theorem fe_X12_count_140 : mj_f mi_X12_count 140 = some (.iadd, 1, 0, 0, .null) := by decide +kernel
theorem fe_X12_count_141 : mj_f mi_X12_count 141 = some (.iaload, 1, 0, 0, .null) := by decide +kernel
theorem fe_X12_count_142 : mj_f mi_X12_count 142 = some (.goto 4, 3, 146, 0, .null) := by decide +kernel
theorem fe_X12_count_145 : mj_f mi_X12_count 145 = some (.iconst 0, 1, 0, 0, .int (0)) := by decide +kernel
theorem fe_X12_count_146 : mj_f mi_X12_count 146 = some (.iadd, 1, 0, 0, .null) := by decide +kernel
theorem fe_X12_count_147 : mj_f mi_X12_count 147 = some (.istore_n 3, 1, 3, 0, .null) := by decide +kernel
theorem fe_X12_count_148 : mj_f mi_X12_count 148 = some (.iinc 4 1, 3, 4, 0, .int (1)) := by decide +kernel
theorem fe_X12_count_151 : mj_f mi_X12_count 151 = some (.goto (-45), 3, 106, 0, .null) := by decide +kernel
theorem fe_X12_count_154 : mj_f mi_X12_count 154 = some (.iload_n 3, 1, 3, 0, .null) := by decide +kernel
theorem fe_X12_count_155 : mj_f mi_X12_count 155 = some (.ireturn, 1, 0, 0, .null) := by decide +kernel
theorem fe_X12_count_156 : mj_f mi_X12_count 156 = some (.iconst (-1), 1, 0, 0, .int (-1)) := by decide +kernel
theorem fe_X12_count_157 : mj_f mi_X12_count 157 = some (.ireturn, 1, 0, 0, .null) := by decide +kernel
def ct_X12_has : MJT := [
  (0, 0, .aload_n 0, 1, 0, 0, .null),
  (1, 0, .iload_n 1, 1, 1, 0, .null),
  (2, 0, .iload_n 2, 1, 2, 0, .null),
  (3, 1526, .invokevirtual 292, 3, 223, 2, .null),
  (6, 0, .ifCond .ne 7, 3, 13, 0, .null),
  (9, 0, .iconst (-1), 1, 0, 0, .int (-1)),
  (10, 0, .goto 23, 3, 33, 0, .null),
  (13, 0, .aload_n 0, 1, 0, 0, .null),
  (14, 1216, .getfield 23, 3, 12, 4, .null),
  (17, 0, .sipush 160, 3, 0, 0, .int (160)),
  (20, 0, .iload_n 1, 1, 1, 0, .null),
  (21, 0, .imul, 1, 0, 0, .null),
  (22, 0, .iload_n 2, 1, 2, 0, .null),
  (23, 0, .iadd, 1, 0, 0, .null),
  (24, 0, .baload, 1, 0, 0, .null),
  (25, 0, .ifCond .eq 7, 3, 32, 0, .null),
  (28, 0, .iconst 0, 1, 0, 0, .int (0)),
  (29, 0, .goto 4, 3, 33, 0, .null),
  (32, 0, .iconst 1, 1, 0, 0, .int (1)),
  (33, 0, .ireturn, 1, 0, 0, .null)]
abbrev id_X12_has : Nat := 229
def mi_X12_has : MI := (yX12_has, cX12_has, 3, (some .int), 12, ct_X12_has)
theorem fe_X12_has_0 : mj_f mi_X12_has 0 = some (.aload_n 0, 1, 0, 0, .null) := by decide +kernel
theorem fe_X12_has_1 : mj_f mi_X12_has 1 = some (.iload_n 1, 1, 1, 0, .null) := by decide +kernel
theorem fe_X12_has_2 : mj_f mi_X12_has 2 = some (.iload_n 2, 1, 2, 0, .null) := by decide +kernel
theorem fe_X12_has_3 : mj_f mi_X12_has 3 = some (.invokevirtual 292, 3, 223, 2, .null) := by decide +kernel
theorem fe_X12_has_6 : mj_f mi_X12_has 6 = some (.ifCond .ne 7, 3, 13, 0, .null) := by decide +kernel
theorem fe_X12_has_9 : mj_f mi_X12_has 9 = some (.iconst (-1), 1, 0, 0, .int (-1)) := by decide +kernel
theorem fe_X12_has_10 : mj_f mi_X12_has 10 = some (.goto 23, 3, 33, 0, .null) := by decide +kernel
theorem fe_X12_has_13 : mj_f mi_X12_has 13 = some (.aload_n 0, 1, 0, 0, .null) := by decide +kernel
theorem fe_X12_has_14 : mj_f mi_X12_has 14 = some (.getfield 23, 3, 12, 4, .null) := by decide +kernel
theorem fe_X12_has_17 : mj_f mi_X12_has 17 = some (.sipush 160, 3, 0, 0, .int (160)) := by decide +kernel
theorem fe_X12_has_20 : mj_f mi_X12_has 20 = some (.iload_n 1, 1, 1, 0, .null) := by decide +kernel
theorem fe_X12_has_21 : mj_f mi_X12_has 21 = some (.imul, 1, 0, 0, .null) := by decide +kernel
theorem fe_X12_has_22 : mj_f mi_X12_has 22 = some (.iload_n 2, 1, 2, 0, .null) := by decide +kernel
theorem fe_X12_has_23 : mj_f mi_X12_has 23 = some (.iadd, 1, 0, 0, .null) := by decide +kernel
theorem fe_X12_has_24 : mj_f mi_X12_has 24 = some (.baload, 1, 0, 0, .null) := by decide +kernel
theorem fe_X12_has_25 : mj_f mi_X12_has 25 = some (.ifCond .eq 7, 3, 32, 0, .null) := by decide +kernel
theorem fe_X12_has_28 : mj_f mi_X12_has 28 = some (.iconst 0, 1, 0, 0, .int (0)) := by decide +kernel
theorem fe_X12_has_29 : mj_f mi_X12_has 29 = some (.goto 4, 3, 33, 0, .null) := by decide +kernel
theorem fe_X12_has_32 : mj_f mi_X12_has 32 = some (.iconst 1, 1, 0, 0, .int (1)) := by decide +kernel
theorem fe_X12_has_33 : mj_f mi_X12_has 33 = some (.ireturn, 1, 0, 0, .null) := by decide +kernel
def ct_X12_get : MJT := [
  (0, 0, .aload_n 0, 1, 0, 0, .null),
  (1, 0, .iload_n 1, 1, 1, 0, .null),
  (2, 0, .iload_n 2, 1, 2, 0, .null),
  (3, 1526, .invokevirtual 292, 3, 223, 2, .null),
  (6, 0, .ifCond .eq 18, 3, 24, 0, .null),
  (9, 0, .aload_n 0, 1, 0, 0, .null),
  (10, 1216, .getfield 23, 3, 12, 4, .null),
  (13, 0, .sipush 160, 3, 0, 0, .int (160)),
  (16, 0, .iload_n 1, 1, 1, 0, .null),
  (17, 0, .imul, 1, 0, 0, .null),
  (18, 0, .iload_n 2, 1, 2, 0, .null),
  (19, 0, .iadd, 1, 0, 0, .null),
  (20, 0, .baload, 1, 0, 0, .null),
  (21, 0, .ifCond .eq 7, 3, 28, 0, .null),
  (24, 0, .lconst 0, 1, 0, 0, .long 0),
  (25, 0, .goto 15, 3, 40, 0, .null),
  (28, 0, .aload_n 0, 1, 0, 0, .null),
  (29, 1215, .getfield 19, 3, 12, 3, .null),
  (32, 0, .sipush 160, 3, 0, 0, .int (160)),
  (35, 0, .iload_n 1, 1, 1, 0, .null),
  (36, 0, .imul, 1, 0, 0, .null),
  (37, 0, .iload_n 2, 1, 2, 0, .null),
  (38, 0, .iadd, 1, 0, 0, .null),
  (39, 0, .laload, 1, 0, 0, .null),
  (40, 0, .lreturn, 1, 0, 0, .null)]
abbrev id_X12_get : Nat := 230
def mi_X12_get : MI := (yX12_get, cX12_get, 3, (some .long), 12, ct_X12_get)
theorem fe_X12_get_0 : mj_f mi_X12_get 0 = some (.aload_n 0, 1, 0, 0, .null) := by decide +kernel
theorem fe_X12_get_1 : mj_f mi_X12_get 1 = some (.iload_n 1, 1, 1, 0, .null) := by decide +kernel
theorem fe_X12_get_2 : mj_f mi_X12_get 2 = some (.iload_n 2, 1, 2, 0, .null) := by decide +kernel
theorem fe_X12_get_3 : mj_f mi_X12_get 3 = some (.invokevirtual 292, 3, 223, 2, .null) := by decide +kernel
theorem fe_X12_get_6 : mj_f mi_X12_get 6 = some (.ifCond .eq 18, 3, 24, 0, .null) := by decide +kernel
theorem fe_X12_get_9 : mj_f mi_X12_get 9 = some (.aload_n 0, 1, 0, 0, .null) := by decide +kernel
theorem fe_X12_get_10 : mj_f mi_X12_get 10 = some (.getfield 23, 3, 12, 4, .null) := by decide +kernel
theorem fe_X12_get_13 : mj_f mi_X12_get 13 = some (.sipush 160, 3, 0, 0, .int (160)) := by decide +kernel
theorem fe_X12_get_16 : mj_f mi_X12_get 16 = some (.iload_n 1, 1, 1, 0, .null) := by decide +kernel
theorem fe_X12_get_17 : mj_f mi_X12_get 17 = some (.imul, 1, 0, 0, .null) := by decide +kernel
theorem fe_X12_get_18 : mj_f mi_X12_get 18 = some (.iload_n 2, 1, 2, 0, .null) := by decide +kernel
theorem fe_X12_get_19 : mj_f mi_X12_get 19 = some (.iadd, 1, 0, 0, .null) := by decide +kernel
theorem fe_X12_get_20 : mj_f mi_X12_get 20 = some (.baload, 1, 0, 0, .null) := by decide +kernel
theorem fe_X12_get_21 : mj_f mi_X12_get 21 = some (.ifCond .eq 7, 3, 28, 0, .null) := by decide +kernel
theorem fe_X12_get_24 : mj_f mi_X12_get 24 = some (.lconst 0, 1, 0, 0, .long 0) := by decide +kernel
theorem fe_X12_get_25 : mj_f mi_X12_get 25 = some (.goto 15, 3, 40, 0, .null) := by decide +kernel
theorem fe_X12_get_28 : mj_f mi_X12_get 28 = some (.aload_n 0, 1, 0, 0, .null) := by decide +kernel
theorem fe_X12_get_29 : mj_f mi_X12_get 29 = some (.getfield 19, 3, 12, 3, .null) := by decide +kernel
theorem fe_X12_get_32 : mj_f mi_X12_get 32 = some (.sipush 160, 3, 0, 0, .int (160)) := by decide +kernel
theorem fe_X12_get_35 : mj_f mi_X12_get 35 = some (.iload_n 1, 1, 1, 0, .null) := by decide +kernel
theorem fe_X12_get_36 : mj_f mi_X12_get 36 = some (.imul, 1, 0, 0, .null) := by decide +kernel
theorem fe_X12_get_37 : mj_f mi_X12_get 37 = some (.iload_n 2, 1, 2, 0, .null) := by decide +kernel
theorem fe_X12_get_38 : mj_f mi_X12_get 38 = some (.iadd, 1, 0, 0, .null) := by decide +kernel
theorem fe_X12_get_39 : mj_f mi_X12_get 39 = some (.laload, 1, 0, 0, .null) := by decide +kernel
theorem fe_X12_get_40 : mj_f mi_X12_get 40 = some (.lreturn, 1, 0, 0, .null) := by decide +kernel
def ct_X12_isPiece : MJT := [
  (0, 0, .iload_n 1, 1, 1, 0, .null),
  (1, 1379, .invokestatic 276, 3, 216, 1, .null),
  (4, 0, .ifCond .eq 20, 3, 24, 0, .null),
  (7, 0, .iload_n 2, 1, 2, 0, .null),
  (8, 0, .ifCond .lt 16, 3, 24, 0, .null),
  (11, 0, .iload_n 2, 1, 2, 0, .null),
  (12, 0, .aload_n 0, 1, 0, 0, .null),
  (13, 0, .iload_n 1, 1, 1, 0, .null),
  (14, 1538, .invokevirtual 298, 3, 217, 1, .null),
  (17, 0, .if_icmp .ge 7, 3, 24, 0, .null),
  (20, 0, .iconst 1, 1, 0, 0, .int (1)),
  (21, 0, .goto 4, 3, 25, 0, .null),
  (24, 0, .iconst 0, 1, 0, 0, .int (0)),
  (25, 0, .ireturn, 1, 0, 0, .null)]
abbrev id_X12_isPiece : Nat := 231
def mi_X12_isPiece : MI := (yX12_isPiece, cX12_isPiece, 3, (some .boolean), 12, ct_X12_isPiece)
theorem fe_X12_isPiece_0 : mj_f mi_X12_isPiece 0 = some (.iload_n 1, 1, 1, 0, .null) := by decide +kernel
theorem fe_X12_isPiece_1 : mj_f mi_X12_isPiece 1 = some (.invokestatic 276, 3, 216, 1, .null) := by decide +kernel
theorem fe_X12_isPiece_4 : mj_f mi_X12_isPiece 4 = some (.ifCond .eq 20, 3, 24, 0, .null) := by decide +kernel
theorem fe_X12_isPiece_7 : mj_f mi_X12_isPiece 7 = some (.iload_n 2, 1, 2, 0, .null) := by decide +kernel
theorem fe_X12_isPiece_8 : mj_f mi_X12_isPiece 8 = some (.ifCond .lt 16, 3, 24, 0, .null) := by decide +kernel
theorem fe_X12_isPiece_11 : mj_f mi_X12_isPiece 11 = some (.iload_n 2, 1, 2, 0, .null) := by decide +kernel
theorem fe_X12_isPiece_12 : mj_f mi_X12_isPiece 12 = some (.aload_n 0, 1, 0, 0, .null) := by decide +kernel
theorem fe_X12_isPiece_13 : mj_f mi_X12_isPiece 13 = some (.iload_n 1, 1, 1, 0, .null) := by decide +kernel
theorem fe_X12_isPiece_14 : mj_f mi_X12_isPiece 14 = some (.invokevirtual 298, 3, 217, 1, .null) := by decide +kernel
theorem fe_X12_isPiece_17 : mj_f mi_X12_isPiece 17 = some (.if_icmp .ge 7, 3, 24, 0, .null) := by decide +kernel
theorem fe_X12_isPiece_20 : mj_f mi_X12_isPiece 20 = some (.iconst 1, 1, 0, 0, .int (1)) := by decide +kernel
theorem fe_X12_isPiece_21 : mj_f mi_X12_isPiece 21 = some (.goto 4, 3, 25, 0, .null) := by decide +kernel
theorem fe_X12_isPiece_24 : mj_f mi_X12_isPiece 24 = some (.iconst 0, 1, 0, 0, .int (0)) := by decide +kernel
theorem fe_X12_isPiece_25 : mj_f mi_X12_isPiece 25 = some (.ireturn, 1, 0, 0, .null) := by decide +kernel
def ct_X12_isPacked : MJT := [
  (0, 0, .aload_n 0, 1, 0, 0, .null),
  (1, 0, .iload_n 1, 1, 1, 0, .null),
  (2, 0, .iload_n 2, 1, 2, 0, .null),
  (3, 1562, .invokevirtual 301, 3, 231, 2, .null),
  (6, 0, .ifCond .eq 20, 3, 26, 0, .null),
  (9, 0, .aload_n 0, 1, 0, 0, .null),
  (10, 1218, .getfield 30, 3, 12, 6, .null),
  (13, 0, .iconst 5, 1, 0, 0, .int (5)),
  (14, 0, .iload_n 1, 1, 1, 0, .null),
  (15, 0, .imul, 1, 0, 0, .null),
  (16, 0, .iload_n 2, 1, 2, 0, .null),
  (17, 0, .iadd, 1, 0, 0, .null),
  (18, 0, .baload, 1, 0, 0, .null),
  (19, 0, .ifCond .eq 7, 3, 26, 0, .null),
  (22, 0, .iconst 1, 1, 0, 0, .int (1)),
  (23, 0, .goto 4, 3, 27, 0, .null),
  (26, 0, .iconst 0, 1, 0, 0, .int (0)),
  (27, 0, .ireturn, 1, 0, 0, .null)]
abbrev id_X12_isPacked : Nat := 232
def mi_X12_isPacked : MI := (yX12_isPacked, cX12_isPacked, 3, (some .boolean), 12, ct_X12_isPacked)
theorem fe_X12_isPacked_0 : mj_f mi_X12_isPacked 0 = some (.aload_n 0, 1, 0, 0, .null) := by decide +kernel
theorem fe_X12_isPacked_1 : mj_f mi_X12_isPacked 1 = some (.iload_n 1, 1, 1, 0, .null) := by decide +kernel
theorem fe_X12_isPacked_2 : mj_f mi_X12_isPacked 2 = some (.iload_n 2, 1, 2, 0, .null) := by decide +kernel
theorem fe_X12_isPacked_3 : mj_f mi_X12_isPacked 3 = some (.invokevirtual 301, 3, 231, 2, .null) := by decide +kernel
theorem fe_X12_isPacked_6 : mj_f mi_X12_isPacked 6 = some (.ifCond .eq 20, 3, 26, 0, .null) := by decide +kernel
theorem fe_X12_isPacked_9 : mj_f mi_X12_isPacked 9 = some (.aload_n 0, 1, 0, 0, .null) := by decide +kernel
theorem fe_X12_isPacked_10 : mj_f mi_X12_isPacked 10 = some (.getfield 30, 3, 12, 6, .null) := by decide +kernel
theorem fe_X12_isPacked_13 : mj_f mi_X12_isPacked 13 = some (.iconst 5, 1, 0, 0, .int (5)) := by decide +kernel
theorem fe_X12_isPacked_14 : mj_f mi_X12_isPacked 14 = some (.iload_n 1, 1, 1, 0, .null) := by decide +kernel
theorem fe_X12_isPacked_15 : mj_f mi_X12_isPacked 15 = some (.imul, 1, 0, 0, .null) := by decide +kernel
theorem fe_X12_isPacked_16 : mj_f mi_X12_isPacked 16 = some (.iload_n 2, 1, 2, 0, .null) := by decide +kernel
theorem fe_X12_isPacked_17 : mj_f mi_X12_isPacked 17 = some (.iadd, 1, 0, 0, .null) := by decide +kernel
theorem fe_X12_isPacked_18 : mj_f mi_X12_isPacked 18 = some (.baload, 1, 0, 0, .null) := by decide +kernel
theorem fe_X12_isPacked_19 : mj_f mi_X12_isPacked 19 = some (.ifCond .eq 7, 3, 26, 0, .null) := by decide +kernel
theorem fe_X12_isPacked_22 : mj_f mi_X12_isPacked 22 = some (.iconst 1, 1, 0, 0, .int (1)) := by decide +kernel
theorem fe_X12_isPacked_23 : mj_f mi_X12_isPacked 23 = some (.goto 4, 3, 27, 0, .null) := by decide +kernel
theorem fe_X12_isPacked_26 : mj_f mi_X12_isPacked 26 = some (.iconst 0, 1, 0, 0, .int (0)) := by decide +kernel
theorem fe_X12_isPacked_27 : mj_f mi_X12_isPacked 27 = some (.ireturn, 1, 0, 0, .null) := by decide +kernel
def ct_X12_unpacks : MJT := [
  (0, 0, .iconst 5, 1, 0, 0, .int (5)),
  (1, 0, .iload_n 1, 1, 1, 0, .null),
  (2, 0, .imul, 1, 0, 0, .null),
  (3, 0, .iload_n 2, 1, 2, 0, .null),
  (4, 0, .iadd, 1, 0, 0, .null),
  (5, 0, .istore_n 3, 1, 3, 0, .null),
  (6, 0, .iconst 0, 1, 0, 0, .int (0)),
  (7, 0, .istore 4, 2, 4, 0, .null),
  (9, 0, .iload 4, 2, 4, 0, .null),
  (11, 0, .aload_n 0, 1, 0, 0, .null),
  (12, 1219, .getfield 33, 3, 12, 7, .null),
  (15, 0, .iload_n 3, 1, 3, 0, .null),
  (16, 0, .iaload, 1, 0, 0, .null),
  (17, 0, .if_icmp .ge 29, 3, 46, 0, .null),
  (20, 0, .aload_n 0, 1, 0, 0, .null),
  (21, 1244, .getfield 110, 3, 12, 32, .null),
  (24, 0, .iload 4, 2, 4, 0, .null),
  (26, 0, .aload_n 0, 1, 0, 0, .null),
  (27, 1220, .getfield 36, 3, 12, 8, .null),
  (30, 0, .sipush 300, 3, 0, 0, .int (300)),
  (33, 0, .iload_n 3, 1, 3, 0, .null),
  (34, 0, .imul, 1, 0, 0, .null),
  (35, 0, .iload 4, 2, 4, 0, .null),
  (37, 0, .iadd, 1, 0, 0, .null),
  (38, 0, .iaload, 1, 0, 0, .null),
  (39, 0, .iastore, 1, 0, 0, .null),
  (40, 0, .iinc 4 1, 3, 4, 0, .int (1)),
  (43, 0, .goto (-34), 3, 9, 0, .null),
  (46, 0, .aload_n 0, 1, 0, 0, .null),
  (47, 0, .aload_n 0, 1, 0, 0, .null),
  (48, 1219, .getfield 33, 3, 12, 7, .null),
  (51, 0, .iload_n 3, 1, 3, 0, .null),
  (52, 0, .iaload, 1, 0, 0, .null),
  (53, 1570, .invokevirtual 304, 3, 254, 1, .null),
  (56, 0, .return_, 1, 0, 0, .null)]
abbrev id_X12_unpacks : Nat := 233
def mi_X12_unpacks : MI := (yX12_unpacks, cX12_unpacks, 5, none, 12, ct_X12_unpacks)
theorem fe_X12_unpacks_0 : mj_f mi_X12_unpacks 0 = some (.iconst 5, 1, 0, 0, .int (5)) := by decide +kernel
theorem fe_X12_unpacks_1 : mj_f mi_X12_unpacks 1 = some (.iload_n 1, 1, 1, 0, .null) := by decide +kernel
theorem fe_X12_unpacks_2 : mj_f mi_X12_unpacks 2 = some (.imul, 1, 0, 0, .null) := by decide +kernel
theorem fe_X12_unpacks_3 : mj_f mi_X12_unpacks 3 = some (.iload_n 2, 1, 2, 0, .null) := by decide +kernel
theorem fe_X12_unpacks_4 : mj_f mi_X12_unpacks 4 = some (.iadd, 1, 0, 0, .null) := by decide +kernel
theorem fe_X12_unpacks_5 : mj_f mi_X12_unpacks 5 = some (.istore_n 3, 1, 3, 0, .null) := by decide +kernel
theorem fe_X12_unpacks_6 : mj_f mi_X12_unpacks 6 = some (.iconst 0, 1, 0, 0, .int (0)) := by decide +kernel
theorem fe_X12_unpacks_7 : mj_f mi_X12_unpacks 7 = some (.istore 4, 2, 4, 0, .null) := by decide +kernel
theorem fe_X12_unpacks_9 : mj_f mi_X12_unpacks 9 = some (.iload 4, 2, 4, 0, .null) := by decide +kernel
theorem fe_X12_unpacks_11 : mj_f mi_X12_unpacks 11 = some (.aload_n 0, 1, 0, 0, .null) := by decide +kernel
theorem fe_X12_unpacks_12 : mj_f mi_X12_unpacks 12 = some (.getfield 33, 3, 12, 7, .null) := by decide +kernel
theorem fe_X12_unpacks_15 : mj_f mi_X12_unpacks 15 = some (.iload_n 3, 1, 3, 0, .null) := by decide +kernel
theorem fe_X12_unpacks_16 : mj_f mi_X12_unpacks 16 = some (.iaload, 1, 0, 0, .null) := by decide +kernel
theorem fe_X12_unpacks_17 : mj_f mi_X12_unpacks 17 = some (.if_icmp .ge 29, 3, 46, 0, .null) := by decide +kernel
theorem fe_X12_unpacks_20 : mj_f mi_X12_unpacks 20 = some (.aload_n 0, 1, 0, 0, .null) := by decide +kernel
theorem fe_X12_unpacks_21 : mj_f mi_X12_unpacks 21 = some (.getfield 110, 3, 12, 32, .null) := by decide +kernel
theorem fe_X12_unpacks_24 : mj_f mi_X12_unpacks 24 = some (.iload 4, 2, 4, 0, .null) := by decide +kernel
theorem fe_X12_unpacks_26 : mj_f mi_X12_unpacks 26 = some (.aload_n 0, 1, 0, 0, .null) := by decide +kernel
theorem fe_X12_unpacks_27 : mj_f mi_X12_unpacks 27 = some (.getfield 36, 3, 12, 8, .null) := by decide +kernel
theorem fe_X12_unpacks_30 : mj_f mi_X12_unpacks 30 = some (.sipush 300, 3, 0, 0, .int (300)) := by decide +kernel
theorem fe_X12_unpacks_33 : mj_f mi_X12_unpacks 33 = some (.iload_n 3, 1, 3, 0, .null) := by decide +kernel
theorem fe_X12_unpacks_34 : mj_f mi_X12_unpacks 34 = some (.imul, 1, 0, 0, .null) := by decide +kernel
theorem fe_X12_unpacks_35 : mj_f mi_X12_unpacks 35 = some (.iload 4, 2, 4, 0, .null) := by decide +kernel
theorem fe_X12_unpacks_37 : mj_f mi_X12_unpacks 37 = some (.iadd, 1, 0, 0, .null) := by decide +kernel
theorem fe_X12_unpacks_38 : mj_f mi_X12_unpacks 38 = some (.iaload, 1, 0, 0, .null) := by decide +kernel
theorem fe_X12_unpacks_39 : mj_f mi_X12_unpacks 39 = some (.iastore, 1, 0, 0, .null) := by decide +kernel
theorem fe_X12_unpacks_40 : mj_f mi_X12_unpacks 40 = some (.iinc 4 1, 3, 4, 0, .int (1)) := by decide +kernel
theorem fe_X12_unpacks_43 : mj_f mi_X12_unpacks 43 = some (.goto (-34), 3, 9, 0, .null) := by decide +kernel
theorem fe_X12_unpacks_46 : mj_f mi_X12_unpacks 46 = some (.aload_n 0, 1, 0, 0, .null) := by decide +kernel
theorem fe_X12_unpacks_47 : mj_f mi_X12_unpacks 47 = some (.aload_n 0, 1, 0, 0, .null) := by decide +kernel
theorem fe_X12_unpacks_48 : mj_f mi_X12_unpacks 48 = some (.getfield 33, 3, 12, 7, .null) := by decide +kernel
theorem fe_X12_unpacks_51 : mj_f mi_X12_unpacks 51 = some (.iload_n 3, 1, 3, 0, .null) := by decide +kernel
theorem fe_X12_unpacks_52 : mj_f mi_X12_unpacks 52 = some (.iaload, 1, 0, 0, .null) := by decide +kernel
theorem fe_X12_unpacks_53 : mj_f mi_X12_unpacks 53 = some (.invokevirtual 304, 3, 254, 1, .null) := by decide +kernel
theorem fe_X12_unpacks_56 : mj_f mi_X12_unpacks 56 = some (.return_, 1, 0, 0, .null) := by decide +kernel
def ct_X12_piece : MJT := [
  (0, 0, .aload_n 0, 1, 0, 0, .null),
  (1, 0, .iload_n 1, 1, 1, 0, .null),
  (2, 0, .iload_n 2, 1, 2, 0, .null),
  (3, 1562, .invokevirtual 301, 3, 231, 2, .null),
  (6, 0, .ifCond .ne 5, 3, 11, 0, .null),
  (9, 0, .iconst (-1), 1, 0, 0, .int (-1)),
  (10, 0, .ireturn, 1, 0, 0, .null),
  (11, 0, .aload_n 0, 1, 0, 0, .null),
  (12, 1218, .getfield 30, 3, 12, 6, .null),
  (15, 0, .iconst 5, 1, 0, 0, .int (5)),
  (16, 0, .iload_n 1, 1, 1, 0, .null),
  (17, 0, .imul, 1, 0, 0, .null),
  (18, 0, .iload_n 2, 1, 2, 0, .null),
  (19, 0, .iadd, 1, 0, 0, .null),
  (20, 0, .baload, 1, 0, 0, .null),
  (21, 0, .istore 4, 2, 4, 0, .null),
  (23, 0, .iload_n 3, 1, 3, 0, .null),
  (24, 0, .tableswitch 99 0 4 #[36, 43, 63, 81, 88], 36, 0, 0, .null),
  (60, 0, .aload_n 0, 1, 0, 0, .null),
  (61, 0, .iload_n 1, 1, 1, 0, .null),
  (62, 0, .iload_n 2, 1, 2, 0, .null),
  (63, 1401, .invokevirtual 251, 3, 211, 2, .null),
  (66, 0, .ireturn, 1, 0, 0, .null),
  (67, 0, .iload 4, 2, 4, 0, .null),
  (69, 0, .ifCond .eq 16, 3, 85, 0, .null),
  (72, 0, .aload_n 0, 1, 0, 0, .null),
  (73, 1219, .getfield 33, 3, 12, 7, .null),
  (76, 0, .iconst 5, 1, 0, 0, .int (5)),
  (77, 0, .iload_n 1, 1, 1, 0, .null),
  (78, 0, .imul, 1, 0, 0, .null),
  (79, 0, .iload_n 2, 1, 2, 0, .null),
  (80, 0, .iadd, 1, 0, 0, .null),
  (81, 0, .iaload, 1, 0, 0, .null),
  (82, 0, .goto 4, 3, 86, 0, .null),
  (85, 0, .iconst 0, 1, 0, 0, .int (0)),
  (86, 0, .ireturn, 1, 0, 0, .null),
  (87, 0, .iload 4, 2, 4, 0, .null),
  (89, 0, .ifCond .ne 5, 3, 94, 0, .null),
  (92, 0, .iconst (-1), 1, 0, 0, .int (-1)),
  (93, 0, .ireturn, 1, 0, 0, .null),
  (94, 0, .aload_n 0, 1, 0, 0, .null),
  (95, 0, .iload_n 1, 1, 1, 0, .null),
  (96, 0, .iload_n 2, 1, 2, 0, .null),
  (97, 1566, .invokevirtual 307, 3, 233, 2, .null),
  (100, 0, .aload_n 0, 1, 0, 0, .null),
  (101, 1250, .getfield 128, 3, 12, 38, .int 0),
  (104, 0, .ireturn, 1, 0, 0, .null),
  (105, 0, .aload_n 0, 1, 0, 0, .null),
  (106, 0, .iload_n 1, 1, 1, 0, .null),
  (107, 0, .iload_n 2, 1, 2, 0, .null),
  (108, 1530, .invokevirtual 295, 3, 224, 2, .null),
  (111, 0, .ireturn, 1, 0, 0, .null),
  (112, 0, .iload 4, 2, 4, 0, .null),
  (114, 0, .ifCond .eq 7, 3, 121, 0, .null),
  (117, 0, .iconst 0, 1, 0, 0, .int (0)),
  (118, 0, .goto 4, 3, 122, 0, .null),
  (121, 0, .iconst 1, 1, 0, 0, .int (1)),
  (122, 0, .ireturn, 1, 0, 0, .null),
  (123, 0, .iconst (-1), 1, 0, 0, .int (-1)),
  (124, 0, .ireturn, 1, 0, 0, .null)]
abbrev id_X12_piece : Nat := 234
def mi_X12_piece : MI := (yX12_piece, cX12_piece, 5, (some .int), 12, ct_X12_piece)
theorem fe_X12_piece_0 : mj_f mi_X12_piece 0 = some (.aload_n 0, 1, 0, 0, .null) := by decide +kernel
theorem fe_X12_piece_1 : mj_f mi_X12_piece 1 = some (.iload_n 1, 1, 1, 0, .null) := by decide +kernel
theorem fe_X12_piece_2 : mj_f mi_X12_piece 2 = some (.iload_n 2, 1, 2, 0, .null) := by decide +kernel
theorem fe_X12_piece_3 : mj_f mi_X12_piece 3 = some (.invokevirtual 301, 3, 231, 2, .null) := by decide +kernel
theorem fe_X12_piece_6 : mj_f mi_X12_piece 6 = some (.ifCond .ne 5, 3, 11, 0, .null) := by decide +kernel
theorem fe_X12_piece_9 : mj_f mi_X12_piece 9 = some (.iconst (-1), 1, 0, 0, .int (-1)) := by decide +kernel
theorem fe_X12_piece_10 : mj_f mi_X12_piece 10 = some (.ireturn, 1, 0, 0, .null) := by decide +kernel
theorem fe_X12_piece_11 : mj_f mi_X12_piece 11 = some (.aload_n 0, 1, 0, 0, .null) := by decide +kernel
theorem fe_X12_piece_12 : mj_f mi_X12_piece 12 = some (.getfield 30, 3, 12, 6, .null) := by decide +kernel
theorem fe_X12_piece_15 : mj_f mi_X12_piece 15 = some (.iconst 5, 1, 0, 0, .int (5)) := by decide +kernel
theorem fe_X12_piece_16 : mj_f mi_X12_piece 16 = some (.iload_n 1, 1, 1, 0, .null) := by decide +kernel
theorem fe_X12_piece_17 : mj_f mi_X12_piece 17 = some (.imul, 1, 0, 0, .null) := by decide +kernel
theorem fe_X12_piece_18 : mj_f mi_X12_piece 18 = some (.iload_n 2, 1, 2, 0, .null) := by decide +kernel
theorem fe_X12_piece_19 : mj_f mi_X12_piece 19 = some (.iadd, 1, 0, 0, .null) := by decide +kernel
theorem fe_X12_piece_20 : mj_f mi_X12_piece 20 = some (.baload, 1, 0, 0, .null) := by decide +kernel
theorem fe_X12_piece_21 : mj_f mi_X12_piece 21 = some (.istore 4, 2, 4, 0, .null) := by decide +kernel
theorem fe_X12_piece_23 : mj_f mi_X12_piece 23 = some (.iload_n 3, 1, 3, 0, .null) := by decide +kernel
theorem fe_X12_piece_24 : mj_f mi_X12_piece 24 = some (.tableswitch 99 0 4 #[36, 43, 63, 81, 88], 36, 0, 0, .null) := by decide +kernel
theorem fe_X12_piece_60 : mj_f mi_X12_piece 60 = some (.aload_n 0, 1, 0, 0, .null) := by decide +kernel
theorem fe_X12_piece_61 : mj_f mi_X12_piece 61 = some (.iload_n 1, 1, 1, 0, .null) := by decide +kernel
theorem fe_X12_piece_62 : mj_f mi_X12_piece 62 = some (.iload_n 2, 1, 2, 0, .null) := by decide +kernel
theorem fe_X12_piece_63 : mj_f mi_X12_piece 63 = some (.invokevirtual 251, 3, 211, 2, .null) := by decide +kernel
theorem fe_X12_piece_66 : mj_f mi_X12_piece 66 = some (.ireturn, 1, 0, 0, .null) := by decide +kernel
theorem fe_X12_piece_67 : mj_f mi_X12_piece 67 = some (.iload 4, 2, 4, 0, .null) := by decide +kernel
theorem fe_X12_piece_69 : mj_f mi_X12_piece 69 = some (.ifCond .eq 16, 3, 85, 0, .null) := by decide +kernel
theorem fe_X12_piece_72 : mj_f mi_X12_piece 72 = some (.aload_n 0, 1, 0, 0, .null) := by decide +kernel
theorem fe_X12_piece_73 : mj_f mi_X12_piece 73 = some (.getfield 33, 3, 12, 7, .null) := by decide +kernel
theorem fe_X12_piece_76 : mj_f mi_X12_piece 76 = some (.iconst 5, 1, 0, 0, .int (5)) := by decide +kernel
theorem fe_X12_piece_77 : mj_f mi_X12_piece 77 = some (.iload_n 1, 1, 1, 0, .null) := by decide +kernel
theorem fe_X12_piece_78 : mj_f mi_X12_piece 78 = some (.imul, 1, 0, 0, .null) := by decide +kernel
theorem fe_X12_piece_79 : mj_f mi_X12_piece 79 = some (.iload_n 2, 1, 2, 0, .null) := by decide +kernel
theorem fe_X12_piece_80 : mj_f mi_X12_piece 80 = some (.iadd, 1, 0, 0, .null) := by decide +kernel
theorem fe_X12_piece_81 : mj_f mi_X12_piece 81 = some (.iaload, 1, 0, 0, .null) := by decide +kernel
theorem fe_X12_piece_82 : mj_f mi_X12_piece 82 = some (.goto 4, 3, 86, 0, .null) := by decide +kernel
theorem fe_X12_piece_85 : mj_f mi_X12_piece 85 = some (.iconst 0, 1, 0, 0, .int (0)) := by decide +kernel
theorem fe_X12_piece_86 : mj_f mi_X12_piece 86 = some (.ireturn, 1, 0, 0, .null) := by decide +kernel
theorem fe_X12_piece_87 : mj_f mi_X12_piece 87 = some (.iload 4, 2, 4, 0, .null) := by decide +kernel
theorem fe_X12_piece_89 : mj_f mi_X12_piece 89 = some (.ifCond .ne 5, 3, 94, 0, .null) := by decide +kernel
theorem fe_X12_piece_92 : mj_f mi_X12_piece 92 = some (.iconst (-1), 1, 0, 0, .int (-1)) := by decide +kernel
theorem fe_X12_piece_93 : mj_f mi_X12_piece 93 = some (.ireturn, 1, 0, 0, .null) := by decide +kernel
theorem fe_X12_piece_94 : mj_f mi_X12_piece 94 = some (.aload_n 0, 1, 0, 0, .null) := by decide +kernel
theorem fe_X12_piece_95 : mj_f mi_X12_piece 95 = some (.iload_n 1, 1, 1, 0, .null) := by decide +kernel
theorem fe_X12_piece_96 : mj_f mi_X12_piece 96 = some (.iload_n 2, 1, 2, 0, .null) := by decide +kernel
theorem fe_X12_piece_97 : mj_f mi_X12_piece 97 = some (.invokevirtual 307, 3, 233, 2, .null) := by decide +kernel
theorem fe_X12_piece_100 : mj_f mi_X12_piece 100 = some (.aload_n 0, 1, 0, 0, .null) := by decide +kernel
theorem fe_X12_piece_101 : mj_f mi_X12_piece 101 = some (.getfield 128, 3, 12, 38, .int 0) := by decide +kernel
theorem fe_X12_piece_104 : mj_f mi_X12_piece 104 = some (.ireturn, 1, 0, 0, .null) := by decide +kernel
theorem fe_X12_piece_105 : mj_f mi_X12_piece 105 = some (.aload_n 0, 1, 0, 0, .null) := by decide +kernel
theorem fe_X12_piece_106 : mj_f mi_X12_piece 106 = some (.iload_n 1, 1, 1, 0, .null) := by decide +kernel
theorem fe_X12_piece_107 : mj_f mi_X12_piece 107 = some (.iload_n 2, 1, 2, 0, .null) := by decide +kernel
theorem fe_X12_piece_108 : mj_f mi_X12_piece 108 = some (.invokevirtual 295, 3, 224, 2, .null) := by decide +kernel
theorem fe_X12_piece_111 : mj_f mi_X12_piece 111 = some (.ireturn, 1, 0, 0, .null) := by decide +kernel
theorem fe_X12_piece_112 : mj_f mi_X12_piece 112 = some (.iload 4, 2, 4, 0, .null) := by decide +kernel
theorem fe_X12_piece_114 : mj_f mi_X12_piece 114 = some (.ifCond .eq 7, 3, 121, 0, .null) := by decide +kernel
theorem fe_X12_piece_117 : mj_f mi_X12_piece 117 = some (.iconst 0, 1, 0, 0, .int (0)) := by decide +kernel
theorem fe_X12_piece_118 : mj_f mi_X12_piece 118 = some (.goto 4, 3, 122, 0, .null) := by decide +kernel
theorem fe_X12_piece_121 : mj_f mi_X12_piece 121 = some (.iconst 1, 1, 0, 0, .int (1)) := by decide +kernel
theorem fe_X12_piece_122 : mj_f mi_X12_piece 122 = some (.ireturn, 1, 0, 0, .null) := by decide +kernel
theorem fe_X12_piece_123 : mj_f mi_X12_piece 123 = some (.iconst (-1), 1, 0, 0, .int (-1)) := by decide +kernel
theorem fe_X12_piece_124 : mj_f mi_X12_piece 124 = some (.ireturn, 1, 0, 0, .null) := by decide +kernel
def ct_X12_at_ : MJT := [
  (0, 0, .aload_n 0, 1, 0, 0, .null),
  (1, 0, .iload_n 1, 1, 1, 0, .null),
  (2, 0, .iload_n 2, 1, 2, 0, .null),
  (3, 1614, .invokevirtual 310, 3, 232, 2, .null),
  (6, 0, .ifCond .eq 21, 3, 27, 0, .null),
  (9, 0, .iload_n 3, 1, 3, 0, .null),
  (10, 0, .ifCond .lt 17, 3, 27, 0, .null),
  (13, 0, .iload_n 3, 1, 3, 0, .null),
  (14, 0, .aload_n 0, 1, 0, 0, .null),
  (15, 1219, .getfield 33, 3, 12, 7, .null),
  (18, 0, .iconst 5, 1, 0, 0, .int (5)),
  (19, 0, .iload_n 1, 1, 1, 0, .null),
  (20, 0, .imul, 1, 0, 0, .null),
  (21, 0, .iload_n 2, 1, 2, 0, .null),
  (22, 0, .iadd, 1, 0, 0, .null),
  (23, 0, .iaload, 1, 0, 0, .null),
  (24, 0, .if_icmp .lt 7, 3, 31, 0, .null),
  (27, 0, .iconst (-1), 1, 0, 0, .int (-1)),
  (28, 0, .goto 19, 3, 47, 0, .null),
  (31, 0, .aload_n 0, 1, 0, 0, .null),
  (32, 1220, .getfield 36, 3, 12, 8, .null),
  (35, 0, .sipush 300, 3, 0, 0, .int (300)),
  (38, 0, .iconst 5, 1, 0, 0, .int (5)),
  (39, 0, .iload_n 1, 1, 1, 0, .null),
  (40, 0, .imul, 1, 0, 0, .null),
  (41, 0, .iload_n 2, 1, 2, 0, .null),
  (42, 0, .iadd, 1, 0, 0, .null),
  (43, 0, .imul, 1, 0, 0, .null),
  (44, 0, .iload_n 3, 1, 3, 0, .null),
  (45, 0, .iadd, 1, 0, 0, .null),
  (46, 0, .iaload, 1, 0, 0, .null),
  (47, 0, .ireturn, 1, 0, 0, .null)]
abbrev id_X12_at_ : Nat := 235
def mi_X12_at_ : MI := (yX12_at_, cX12_at_, 4, (some .int), 12, ct_X12_at_)
theorem fe_X12_at__0 : mj_f mi_X12_at_ 0 = some (.aload_n 0, 1, 0, 0, .null) := by decide +kernel
theorem fe_X12_at__1 : mj_f mi_X12_at_ 1 = some (.iload_n 1, 1, 1, 0, .null) := by decide +kernel
theorem fe_X12_at__2 : mj_f mi_X12_at_ 2 = some (.iload_n 2, 1, 2, 0, .null) := by decide +kernel
theorem fe_X12_at__3 : mj_f mi_X12_at_ 3 = some (.invokevirtual 310, 3, 232, 2, .null) := by decide +kernel
theorem fe_X12_at__6 : mj_f mi_X12_at_ 6 = some (.ifCond .eq 21, 3, 27, 0, .null) := by decide +kernel
theorem fe_X12_at__9 : mj_f mi_X12_at_ 9 = some (.iload_n 3, 1, 3, 0, .null) := by decide +kernel
theorem fe_X12_at__10 : mj_f mi_X12_at_ 10 = some (.ifCond .lt 17, 3, 27, 0, .null) := by decide +kernel
theorem fe_X12_at__13 : mj_f mi_X12_at_ 13 = some (.iload_n 3, 1, 3, 0, .null) := by decide +kernel
theorem fe_X12_at__14 : mj_f mi_X12_at_ 14 = some (.aload_n 0, 1, 0, 0, .null) := by decide +kernel
theorem fe_X12_at__15 : mj_f mi_X12_at_ 15 = some (.getfield 33, 3, 12, 7, .null) := by decide +kernel
theorem fe_X12_at__18 : mj_f mi_X12_at_ 18 = some (.iconst 5, 1, 0, 0, .int (5)) := by decide +kernel
theorem fe_X12_at__19 : mj_f mi_X12_at_ 19 = some (.iload_n 1, 1, 1, 0, .null) := by decide +kernel
theorem fe_X12_at__20 : mj_f mi_X12_at_ 20 = some (.imul, 1, 0, 0, .null) := by decide +kernel
theorem fe_X12_at__21 : mj_f mi_X12_at_ 21 = some (.iload_n 2, 1, 2, 0, .null) := by decide +kernel
theorem fe_X12_at__22 : mj_f mi_X12_at_ 22 = some (.iadd, 1, 0, 0, .null) := by decide +kernel
theorem fe_X12_at__23 : mj_f mi_X12_at_ 23 = some (.iaload, 1, 0, 0, .null) := by decide +kernel
theorem fe_X12_at__24 : mj_f mi_X12_at_ 24 = some (.if_icmp .lt 7, 3, 31, 0, .null) := by decide +kernel
theorem fe_X12_at__27 : mj_f mi_X12_at_ 27 = some (.iconst (-1), 1, 0, 0, .int (-1)) := by decide +kernel
theorem fe_X12_at__28 : mj_f mi_X12_at_ 28 = some (.goto 19, 3, 47, 0, .null) := by decide +kernel
theorem fe_X12_at__31 : mj_f mi_X12_at_ 31 = some (.aload_n 0, 1, 0, 0, .null) := by decide +kernel
theorem fe_X12_at__32 : mj_f mi_X12_at_ 32 = some (.getfield 36, 3, 12, 8, .null) := by decide +kernel
theorem fe_X12_at__35 : mj_f mi_X12_at_ 35 = some (.sipush 300, 3, 0, 0, .int (300)) := by decide +kernel
theorem fe_X12_at__38 : mj_f mi_X12_at_ 38 = some (.iconst 5, 1, 0, 0, .int (5)) := by decide +kernel
theorem fe_X12_at__39 : mj_f mi_X12_at_ 39 = some (.iload_n 1, 1, 1, 0, .null) := by decide +kernel
theorem fe_X12_at__40 : mj_f mi_X12_at_ 40 = some (.imul, 1, 0, 0, .null) := by decide +kernel
theorem fe_X12_at__41 : mj_f mi_X12_at_ 41 = some (.iload_n 2, 1, 2, 0, .null) := by decide +kernel
theorem fe_X12_at__42 : mj_f mi_X12_at_ 42 = some (.iadd, 1, 0, 0, .null) := by decide +kernel
theorem fe_X12_at__43 : mj_f mi_X12_at_ 43 = some (.imul, 1, 0, 0, .null) := by decide +kernel
theorem fe_X12_at__44 : mj_f mi_X12_at_ 44 = some (.iload_n 3, 1, 3, 0, .null) := by decide +kernel
theorem fe_X12_at__45 : mj_f mi_X12_at_ 45 = some (.iadd, 1, 0, 0, .null) := by decide +kernel
theorem fe_X12_at__46 : mj_f mi_X12_at_ 46 = some (.iaload, 1, 0, 0, .null) := by decide +kernel
theorem fe_X12_at__47 : mj_f mi_X12_at_ 47 = some (.ireturn, 1, 0, 0, .null) := by decide +kernel
def ct_X12_code : MJT := [
  (0, 0, .aload_n 0, 1, 0, 0, .null),
  (1, 0, .iload_n 1, 1, 1, 0, .null),
  (2, 0, .iload_n 2, 1, 2, 0, .null),
  (3, 1614, .invokevirtual 310, 3, 232, 2, .null),
  (6, 0, .ifCond .ne 5, 3, 11, 0, .null),
  (9, 0, .iconst (-1), 1, 0, 0, .int (-1)),
  (10, 0, .ireturn, 1, 0, 0, .null),
  (11, 0, .aload_n 0, 1, 0, 0, .null),
  (12, 0, .iload_n 1, 1, 1, 0, .null),
  (13, 0, .iload_n 2, 1, 2, 0, .null),
  (14, 1566, .invokevirtual 307, 3, 233, 2, .null),
  (17, 0, .iload_n 3, 1, 3, 0, .null),
  (18, 0, .ifCond .lt 11, 3, 29, 0, .null),
  (21, 0, .iload_n 3, 1, 3, 0, .null),
  (22, 0, .aload_n 0, 1, 0, 0, .null),
  (23, 1251, .getfield 131, 3, 12, 39, .int 0),
  (26, 0, .if_icmp .lt 7, 3, 33, 0, .null),
  (29, 0, .iconst (-1), 1, 0, 0, .int (-1)),
  (30, 0, .goto 9, 3, 39, 0, .null),
  (33, 0, .aload_n 0, 1, 0, 0, .null),
  (34, 1252, .getfield 134, 3, 12, 40, .null),
  (37, 0, .iload_n 3, 1, 3, 0, .null),
  (38, 0, .iaload, 1, 0, 0, .null),
  (39, 0, .ireturn, 1, 0, 0, .null)]
abbrev id_X12_code : Nat := 236
def mi_X12_code : MI := (yX12_code, cX12_code, 4, (some .int), 12, ct_X12_code)
theorem fe_X12_code_0 : mj_f mi_X12_code 0 = some (.aload_n 0, 1, 0, 0, .null) := by decide +kernel
theorem fe_X12_code_1 : mj_f mi_X12_code 1 = some (.iload_n 1, 1, 1, 0, .null) := by decide +kernel
theorem fe_X12_code_2 : mj_f mi_X12_code 2 = some (.iload_n 2, 1, 2, 0, .null) := by decide +kernel
theorem fe_X12_code_3 : mj_f mi_X12_code 3 = some (.invokevirtual 310, 3, 232, 2, .null) := by decide +kernel
theorem fe_X12_code_6 : mj_f mi_X12_code 6 = some (.ifCond .ne 5, 3, 11, 0, .null) := by decide +kernel
theorem fe_X12_code_9 : mj_f mi_X12_code 9 = some (.iconst (-1), 1, 0, 0, .int (-1)) := by decide +kernel
theorem fe_X12_code_10 : mj_f mi_X12_code 10 = some (.ireturn, 1, 0, 0, .null) := by decide +kernel
theorem fe_X12_code_11 : mj_f mi_X12_code 11 = some (.aload_n 0, 1, 0, 0, .null) := by decide +kernel
theorem fe_X12_code_12 : mj_f mi_X12_code 12 = some (.iload_n 1, 1, 1, 0, .null) := by decide +kernel
theorem fe_X12_code_13 : mj_f mi_X12_code 13 = some (.iload_n 2, 1, 2, 0, .null) := by decide +kernel
theorem fe_X12_code_14 : mj_f mi_X12_code 14 = some (.invokevirtual 307, 3, 233, 2, .null) := by decide +kernel
theorem fe_X12_code_17 : mj_f mi_X12_code 17 = some (.iload_n 3, 1, 3, 0, .null) := by decide +kernel
theorem fe_X12_code_18 : mj_f mi_X12_code 18 = some (.ifCond .lt 11, 3, 29, 0, .null) := by decide +kernel
theorem fe_X12_code_21 : mj_f mi_X12_code 21 = some (.iload_n 3, 1, 3, 0, .null) := by decide +kernel
theorem fe_X12_code_22 : mj_f mi_X12_code 22 = some (.aload_n 0, 1, 0, 0, .null) := by decide +kernel
theorem fe_X12_code_23 : mj_f mi_X12_code 23 = some (.getfield 131, 3, 12, 39, .int 0) := by decide +kernel
theorem fe_X12_code_26 : mj_f mi_X12_code 26 = some (.if_icmp .lt 7, 3, 33, 0, .null) := by decide +kernel
theorem fe_X12_code_29 : mj_f mi_X12_code 29 = some (.iconst (-1), 1, 0, 0, .int (-1)) := by decide +kernel
theorem fe_X12_code_30 : mj_f mi_X12_code 30 = some (.goto 9, 3, 39, 0, .null) := by decide +kernel
theorem fe_X12_code_33 : mj_f mi_X12_code 33 = some (.aload_n 0, 1, 0, 0, .null) := by decide +kernel
theorem fe_X12_code_34 : mj_f mi_X12_code 34 = some (.getfield 134, 3, 12, 40, .null) := by decide +kernel
theorem fe_X12_code_37 : mj_f mi_X12_code 37 = some (.iload_n 3, 1, 3, 0, .null) := by decide +kernel
theorem fe_X12_code_38 : mj_f mi_X12_code 38 = some (.iaload, 1, 0, 0, .null) := by decide +kernel
theorem fe_X12_code_39 : mj_f mi_X12_code 39 = some (.ireturn, 1, 0, 0, .null) := by decide +kernel
