/-! code tables: a program wrote them -/
def ct_X10_write : MJT := [
  (0, 0, .iload_n 2, 1, 2, 0, .null),
  (1, 848, .invokestatic 29, 3, 178, 1, .int 1),
  (4, 0, .iconst 3, 1, 0, 0, .int (3)),
  (5, 851, .invokestatic 33, 3, 262, 2, .null),
  (8, 0, .iconst 1, 1, 0, 0, .int (1)),
  (9, 0, .isub, 1, 0, 0, .null),
  (10, 0, .istore 4, 2, 4, 0, .null),
  (12, 0, .aload_n 0, 1, 0, 0, .null),
  (13, 0, .aload_n 3, 1, 3, 0, .null),
  (14, 0, .aload_n 1, 1, 1, 0, .null),
  (15, 852, .invokevirtual 39, 3, 140, 2, .null),
  (18, 0, .aload_n 0, 1, 0, 0, .null),
  (19, 259, .getfield 11, 3, 10, 0, .null),
  (22, 0, .iconst 0, 1, 0, 0, .int (0)),
  (23, 0, .aaload, 1, 0, 0, .null),
  (24, 0, .aload_n 1, 1, 1, 0, .null),
  (25, 870, .invokevirtual 43, 3, 116, 1, .null),
  (28, 0, .iconst 0, 1, 0, 0, .int (0)),
  (29, 0, .istore 5, 2, 5, 0, .null),
  (31, 0, .iload 5, 2, 5, 0, .null),
  (33, 0, .iload 4, 2, 4, 0, .null),
  (35, 0, .if_icmp .ge 71, 3, 106, 0, .null),
  (38, 0, .aload_n 0, 1, 0, 0, .null),
  (39, 259, .getfield 11, 3, 10, 0, .null),
  (42, 0, .iload 5, 2, 5, 0, .null),
  (44, 0, .aaload, 1, 0, 0, .null),
  (45, 871, .invokevirtual 47, 3, 117, 0, .null),
  (48, 0, .aload_n 0, 1, 0, 0, .null),
  (49, 259, .getfield 11, 3, 10, 0, .null),
  (52, 0, .iload 5, 2, 5, 0, .null),
  (54, 0, .iconst 1, 1, 0, 0, .int (1)),
  (55, 0, .iadd, 1, 0, 0, .null),
  (56, 0, .aaload, 1, 0, 0, .null),
  (57, 0, .aload_n 0, 1, 0, 0, .null),
  (58, 259, .getfield 11, 3, 10, 0, .null),
  (61, 0, .iload 5, 2, 5, 0, .null),
  (63, 0, .aaload, 1, 0, 0, .null),
  (64, 0, .iload_n 2, 1, 2, 0, .null),
  (65, 0, .iload 5, 2, 5, 0, .null),
  (67, 872, .invokestatic 50, 3, 179, 2, .int 1),
  (70, 876, .invokevirtual 53, 3, 126, 2, .null),
  (73, 0, .aload_n 0, 1, 0, 0, .null),
  (74, 0, .aload_n 3, 1, 3, 0, .null),
  (75, 0, .aload_n 0, 1, 0, 0, .null),
  (76, 259, .getfield 11, 3, 10, 0, .null),
  (79, 0, .iload 5, 2, 5, 0, .null),
  (81, 0, .aaload, 1, 0, 0, .null),
  (82, 0, .aload_n 0, 1, 0, 0, .null),
  (83, 259, .getfield 11, 3, 10, 0, .null),
  (86, 0, .iload 5, 2, 5, 0, .null),
  (88, 0, .iconst 1, 1, 0, 0, .int (1)),
  (89, 0, .iadd, 1, 0, 0, .null),
  (90, 0, .aaload, 1, 0, 0, .null),
  (91, 0, .iload_n 2, 1, 2, 0, .null),
  (92, 0, .iload 5, 2, 5, 0, .null),
  (94, 872, .invokestatic 50, 3, 179, 2, .int 1),
  (97, 877, .invokevirtual 57, 3, 141, 4, .null),
  (100, 0, .iinc 5 1, 3, 5, 0, .int (1)),
  (103, 0, .goto (-72), 3, 31, 0, .null),
  (106, 0, .aload_n 0, 1, 0, 0, .null),
  (107, 259, .getfield 11, 3, 10, 0, .null),
  (110, 0, .iload 4, 2, 4, 0, .null),
  (112, 0, .aaload, 1, 0, 0, .null),
  (113, 871, .invokevirtual 47, 3, 117, 0, .null),
  (116, 0, .aload_n 0, 1, 0, 0, .null),
  (117, 0, .aload_n 3, 1, 3, 0, .null),
  (118, 0, .aload_n 0, 1, 0, 0, .null),
  (119, 259, .getfield 11, 3, 10, 0, .null),
  (122, 0, .iload 4, 2, 4, 0, .null),
  (124, 0, .aaload, 1, 0, 0, .null),
  (125, 0, .iload_n 2, 1, 2, 0, .null),
  (126, 0, .iload 4, 2, 4, 0, .null),
  (128, 872, .invokestatic 50, 3, 179, 2, .int 1),
  (131, 888, .invokevirtual 61, 3, 142, 3, .null),
  (134, 0, .iload 4, 2, 4, 0, .null),
  (136, 0, .iconst 1, 1, 0, 0, .int (1)),
  (137, 0, .isub, 1, 0, 0, .null),
  (138, 0, .istore 5, 2, 5, 0, .null),
  (140, 0, .iload 5, 2, 5, 0, .null),
  (142, 0, .ifCond .lt 67, 3, 209, 0, .null),
  (145, 0, .iload_n 2, 1, 2, 0, .null),
  (146, 0, .iload 5, 2, 5, 0, .null),
  (148, 872, .invokestatic 50, 3, 179, 2, .int 1),
  (151, 0, .iconst 4, 1, 0, 0, .int (4)),
  (152, 0, .if_icmp .ne 29, 3, 181, 0, .null),
  (155, 0, .aload_n 0, 1, 0, 0, .null),
  (156, 260, .getfield 18, 3, 10, 1, .null),
  (159, 0, .aload_n 0, 1, 0, 0, .null),
  (160, 259, .getfield 11, 3, 10, 0, .null),
  (163, 0, .iload 5, 2, 5, 0, .null),
  (165, 0, .aaload, 1, 0, 0, .null),
  (166, 926, .invokevirtual 65, 3, 130, 1, .null),
  (169, 0, .aload_n 0, 1, 0, 0, .null),
  (170, 0, .aload_n 3, 1, 3, 0, .null),
  (171, 0, .aload_n 0, 1, 0, 0, .null),
  (172, 260, .getfield 18, 3, 10, 1, .null),
  (175, 892, .invokevirtual 69, 3, 144, 2, .null),
  (178, 0, .goto 25, 3, 203, 0, .null),
  (181, 0, .iload_n 2, 1, 2, 0, .null),
  (182, 0, .iload 5, 2, 5, 0, .null),
  (184, 872, .invokestatic 50, 3, 179, 2, .int 1),
  (187, 0, .iconst 5, 1, 0, 0, .int (5)),
  (188, 0, .if_icmp .ne 15, 3, 203, 0, .null),
  (191, 0, .aload_n 0, 1, 0, 0, .null),
  (192, 0, .aload_n 3, 1, 3, 0, .null),
  (193, 0, .aload_n 0, 1, 0, 0, .null),
  (194, 259, .getfield 11, 3, 10, 0, .null),
  (197, 0, .iload 5, 2, 5, 0, .null),
  (199, 0, .aaload, 1, 0, 0, .null),
  (200, 927, .invokevirtual 73, 3, 146, 2, .null),
  (203, 0, .iinc 5 (-1), 3, 5, 0, .int (-1)),
  (206, 0, .goto (-66), 3, 140, 0, .null),
  (209, 0, .aload_n 3, 1, 3, 0, .null),
  (210, 0, .aload_n 3, 1, 3, 0, .null),
  (211, 0, .aload_n 3, 1, 3, 0, .null),
  (212, 934, .invokevirtual 76, 3, 11, 0, .null),
  (215, 935, .invokevirtual 82, 3, 21, 1, .null),
  (218, 859, .invokevirtual 85, 3, 14, 1, .null),
  (221, 0, .return_, 1, 0, 0, .null)]
abbrev id_X10_write : Nat := 139
def mi_X10_write : MI := (yX10_write, cX10_write, 6, none, 10, ct_X10_write)
theorem fe_X10_write_0 : mj_f mi_X10_write 0 = some (.iload_n 2, 1, 2, 0, .null) := by decide +kernel
theorem fe_X10_write_1 : mj_f mi_X10_write 1 = some (.invokestatic 29, 3, 178, 1, .int 1) := by decide +kernel
theorem fe_X10_write_4 : mj_f mi_X10_write 4 = some (.iconst 3, 1, 0, 0, .int (3)) := by decide +kernel
theorem fe_X10_write_5 : mj_f mi_X10_write 5 = some (.invokestatic 33, 3, 262, 2, .null) := by decide +kernel
theorem fe_X10_write_8 : mj_f mi_X10_write 8 = some (.iconst 1, 1, 0, 0, .int (1)) := by decide +kernel
theorem fe_X10_write_9 : mj_f mi_X10_write 9 = some (.isub, 1, 0, 0, .null) := by decide +kernel
theorem fe_X10_write_10 : mj_f mi_X10_write 10 = some (.istore 4, 2, 4, 0, .null) := by decide +kernel
theorem fe_X10_write_12 : mj_f mi_X10_write 12 = some (.aload_n 0, 1, 0, 0, .null) := by decide +kernel
theorem fe_X10_write_13 : mj_f mi_X10_write 13 = some (.aload_n 3, 1, 3, 0, .null) := by decide +kernel
theorem fe_X10_write_14 : mj_f mi_X10_write 14 = some (.aload_n 1, 1, 1, 0, .null) := by decide +kernel
theorem fe_X10_write_15 : mj_f mi_X10_write 15 = some (.invokevirtual 39, 3, 140, 2, .null) := by decide +kernel
theorem fe_X10_write_18 : mj_f mi_X10_write 18 = some (.aload_n 0, 1, 0, 0, .null) := by decide +kernel
theorem fe_X10_write_19 : mj_f mi_X10_write 19 = some (.getfield 11, 3, 10, 0, .null) := by decide +kernel
theorem fe_X10_write_22 : mj_f mi_X10_write 22 = some (.iconst 0, 1, 0, 0, .int (0)) := by decide +kernel
theorem fe_X10_write_23 : mj_f mi_X10_write 23 = some (.aaload, 1, 0, 0, .null) := by decide +kernel
theorem fe_X10_write_24 : mj_f mi_X10_write 24 = some (.aload_n 1, 1, 1, 0, .null) := by decide +kernel
theorem fe_X10_write_25 : mj_f mi_X10_write 25 = some (.invokevirtual 43, 3, 116, 1, .null) := by decide +kernel
theorem fe_X10_write_28 : mj_f mi_X10_write 28 = some (.iconst 0, 1, 0, 0, .int (0)) := by decide +kernel
theorem fe_X10_write_29 : mj_f mi_X10_write 29 = some (.istore 5, 2, 5, 0, .null) := by decide +kernel
theorem fe_X10_write_31 : mj_f mi_X10_write 31 = some (.iload 5, 2, 5, 0, .null) := by decide +kernel
theorem fe_X10_write_33 : mj_f mi_X10_write 33 = some (.iload 4, 2, 4, 0, .null) := by decide +kernel
theorem fe_X10_write_35 : mj_f mi_X10_write 35 = some (.if_icmp .ge 71, 3, 106, 0, .null) := by decide +kernel
theorem fe_X10_write_38 : mj_f mi_X10_write 38 = some (.aload_n 0, 1, 0, 0, .null) := by decide +kernel
theorem fe_X10_write_39 : mj_f mi_X10_write 39 = some (.getfield 11, 3, 10, 0, .null) := by decide +kernel
theorem fe_X10_write_42 : mj_f mi_X10_write 42 = some (.iload 5, 2, 5, 0, .null) := by decide +kernel
theorem fe_X10_write_44 : mj_f mi_X10_write 44 = some (.aaload, 1, 0, 0, .null) := by decide +kernel
theorem fe_X10_write_45 : mj_f mi_X10_write 45 = some (.invokevirtual 47, 3, 117, 0, .null) := by decide +kernel
theorem fe_X10_write_48 : mj_f mi_X10_write 48 = some (.aload_n 0, 1, 0, 0, .null) := by decide +kernel
theorem fe_X10_write_49 : mj_f mi_X10_write 49 = some (.getfield 11, 3, 10, 0, .null) := by decide +kernel
theorem fe_X10_write_52 : mj_f mi_X10_write 52 = some (.iload 5, 2, 5, 0, .null) := by decide +kernel
theorem fe_X10_write_54 : mj_f mi_X10_write 54 = some (.iconst 1, 1, 0, 0, .int (1)) := by decide +kernel
theorem fe_X10_write_55 : mj_f mi_X10_write 55 = some (.iadd, 1, 0, 0, .null) := by decide +kernel
theorem fe_X10_write_56 : mj_f mi_X10_write 56 = some (.aaload, 1, 0, 0, .null) := by decide +kernel
theorem fe_X10_write_57 : mj_f mi_X10_write 57 = some (.aload_n 0, 1, 0, 0, .null) := by decide +kernel
theorem fe_X10_write_58 : mj_f mi_X10_write 58 = some (.getfield 11, 3, 10, 0, .null) := by decide +kernel
theorem fe_X10_write_61 : mj_f mi_X10_write 61 = some (.iload 5, 2, 5, 0, .null) := by decide +kernel
theorem fe_X10_write_63 : mj_f mi_X10_write 63 = some (.aaload, 1, 0, 0, .null) := by decide +kernel
theorem fe_X10_write_64 : mj_f mi_X10_write 64 = some (.iload_n 2, 1, 2, 0, .null) := by decide +kernel
theorem fe_X10_write_65 : mj_f mi_X10_write 65 = some (.iload 5, 2, 5, 0, .null) := by decide +kernel
theorem fe_X10_write_67 : mj_f mi_X10_write 67 = some (.invokestatic 50, 3, 179, 2, .int 1) := by decide +kernel
theorem fe_X10_write_70 : mj_f mi_X10_write 70 = some (.invokevirtual 53, 3, 126, 2, .null) := by decide +kernel
theorem fe_X10_write_73 : mj_f mi_X10_write 73 = some (.aload_n 0, 1, 0, 0, .null) := by decide +kernel
theorem fe_X10_write_74 : mj_f mi_X10_write 74 = some (.aload_n 3, 1, 3, 0, .null) := by decide +kernel
theorem fe_X10_write_75 : mj_f mi_X10_write 75 = some (.aload_n 0, 1, 0, 0, .null) := by decide +kernel
theorem fe_X10_write_76 : mj_f mi_X10_write 76 = some (.getfield 11, 3, 10, 0, .null) := by decide +kernel
theorem fe_X10_write_79 : mj_f mi_X10_write 79 = some (.iload 5, 2, 5, 0, .null) := by decide +kernel
theorem fe_X10_write_81 : mj_f mi_X10_write 81 = some (.aaload, 1, 0, 0, .null) := by decide +kernel
theorem fe_X10_write_82 : mj_f mi_X10_write 82 = some (.aload_n 0, 1, 0, 0, .null) := by decide +kernel
theorem fe_X10_write_83 : mj_f mi_X10_write 83 = some (.getfield 11, 3, 10, 0, .null) := by decide +kernel
theorem fe_X10_write_86 : mj_f mi_X10_write 86 = some (.iload 5, 2, 5, 0, .null) := by decide +kernel
theorem fe_X10_write_88 : mj_f mi_X10_write 88 = some (.iconst 1, 1, 0, 0, .int (1)) := by decide +kernel
theorem fe_X10_write_89 : mj_f mi_X10_write 89 = some (.iadd, 1, 0, 0, .null) := by decide +kernel
theorem fe_X10_write_90 : mj_f mi_X10_write 90 = some (.aaload, 1, 0, 0, .null) := by decide +kernel
theorem fe_X10_write_91 : mj_f mi_X10_write 91 = some (.iload_n 2, 1, 2, 0, .null) := by decide +kernel
theorem fe_X10_write_92 : mj_f mi_X10_write 92 = some (.iload 5, 2, 5, 0, .null) := by decide +kernel
theorem fe_X10_write_94 : mj_f mi_X10_write 94 = some (.invokestatic 50, 3, 179, 2, .int 1) := by decide +kernel
theorem fe_X10_write_97 : mj_f mi_X10_write 97 = some (.invokevirtual 57, 3, 141, 4, .null) := by decide +kernel
theorem fe_X10_write_100 : mj_f mi_X10_write 100 = some (.iinc 5 1, 3, 5, 0, .int (1)) := by decide +kernel
theorem fe_X10_write_103 : mj_f mi_X10_write 103 = some (.goto (-72), 3, 31, 0, .null) := by decide +kernel
theorem fe_X10_write_106 : mj_f mi_X10_write 106 = some (.aload_n 0, 1, 0, 0, .null) := by decide +kernel
theorem fe_X10_write_107 : mj_f mi_X10_write 107 = some (.getfield 11, 3, 10, 0, .null) := by decide +kernel
theorem fe_X10_write_110 : mj_f mi_X10_write 110 = some (.iload 4, 2, 4, 0, .null) := by decide +kernel
theorem fe_X10_write_112 : mj_f mi_X10_write 112 = some (.aaload, 1, 0, 0, .null) := by decide +kernel
theorem fe_X10_write_113 : mj_f mi_X10_write 113 = some (.invokevirtual 47, 3, 117, 0, .null) := by decide +kernel
theorem fe_X10_write_116 : mj_f mi_X10_write 116 = some (.aload_n 0, 1, 0, 0, .null) := by decide +kernel
theorem fe_X10_write_117 : mj_f mi_X10_write 117 = some (.aload_n 3, 1, 3, 0, .null) := by decide +kernel
theorem fe_X10_write_118 : mj_f mi_X10_write 118 = some (.aload_n 0, 1, 0, 0, .null) := by decide +kernel
theorem fe_X10_write_119 : mj_f mi_X10_write 119 = some (.getfield 11, 3, 10, 0, .null) := by decide +kernel
theorem fe_X10_write_122 : mj_f mi_X10_write 122 = some (.iload 4, 2, 4, 0, .null) := by decide +kernel
theorem fe_X10_write_124 : mj_f mi_X10_write 124 = some (.aaload, 1, 0, 0, .null) := by decide +kernel
theorem fe_X10_write_125 : mj_f mi_X10_write 125 = some (.iload_n 2, 1, 2, 0, .null) := by decide +kernel
theorem fe_X10_write_126 : mj_f mi_X10_write 126 = some (.iload 4, 2, 4, 0, .null) := by decide +kernel
theorem fe_X10_write_128 : mj_f mi_X10_write 128 = some (.invokestatic 50, 3, 179, 2, .int 1) := by decide +kernel
theorem fe_X10_write_131 : mj_f mi_X10_write 131 = some (.invokevirtual 61, 3, 142, 3, .null) := by decide +kernel
theorem fe_X10_write_134 : mj_f mi_X10_write 134 = some (.iload 4, 2, 4, 0, .null) := by decide +kernel
theorem fe_X10_write_136 : mj_f mi_X10_write 136 = some (.iconst 1, 1, 0, 0, .int (1)) := by decide +kernel
theorem fe_X10_write_137 : mj_f mi_X10_write 137 = some (.isub, 1, 0, 0, .null) := by decide +kernel
theorem fe_X10_write_138 : mj_f mi_X10_write 138 = some (.istore 5, 2, 5, 0, .null) := by decide +kernel
theorem fe_X10_write_140 : mj_f mi_X10_write 140 = some (.iload 5, 2, 5, 0, .null) := by decide +kernel
theorem fe_X10_write_142 : mj_f mi_X10_write 142 = some (.ifCond .lt 67, 3, 209, 0, .null) := by decide +kernel
theorem fe_X10_write_145 : mj_f mi_X10_write 145 = some (.iload_n 2, 1, 2, 0, .null) := by decide +kernel
theorem fe_X10_write_146 : mj_f mi_X10_write 146 = some (.iload 5, 2, 5, 0, .null) := by decide +kernel
theorem fe_X10_write_148 : mj_f mi_X10_write 148 = some (.invokestatic 50, 3, 179, 2, .int 1) := by decide +kernel
theorem fe_X10_write_151 : mj_f mi_X10_write 151 = some (.iconst 4, 1, 0, 0, .int (4)) := by decide +kernel
theorem fe_X10_write_152 : mj_f mi_X10_write 152 = some (.if_icmp .ne 29, 3, 181, 0, .null) := by decide +kernel
theorem fe_X10_write_155 : mj_f mi_X10_write 155 = some (.aload_n 0, 1, 0, 0, .null) := by decide +kernel
theorem fe_X10_write_156 : mj_f mi_X10_write 156 = some (.getfield 18, 3, 10, 1, .null) := by decide +kernel
theorem fe_X10_write_159 : mj_f mi_X10_write 159 = some (.aload_n 0, 1, 0, 0, .null) := by decide +kernel
theorem fe_X10_write_160 : mj_f mi_X10_write 160 = some (.getfield 11, 3, 10, 0, .null) := by decide +kernel
theorem fe_X10_write_163 : mj_f mi_X10_write 163 = some (.iload 5, 2, 5, 0, .null) := by decide +kernel
theorem fe_X10_write_165 : mj_f mi_X10_write 165 = some (.aaload, 1, 0, 0, .null) := by decide +kernel
theorem fe_X10_write_166 : mj_f mi_X10_write 166 = some (.invokevirtual 65, 3, 130, 1, .null) := by decide +kernel
theorem fe_X10_write_169 : mj_f mi_X10_write 169 = some (.aload_n 0, 1, 0, 0, .null) := by decide +kernel
theorem fe_X10_write_170 : mj_f mi_X10_write 170 = some (.aload_n 3, 1, 3, 0, .null) := by decide +kernel
theorem fe_X10_write_171 : mj_f mi_X10_write 171 = some (.aload_n 0, 1, 0, 0, .null) := by decide +kernel
theorem fe_X10_write_172 : mj_f mi_X10_write 172 = some (.getfield 18, 3, 10, 1, .null) := by decide +kernel
theorem fe_X10_write_175 : mj_f mi_X10_write 175 = some (.invokevirtual 69, 3, 144, 2, .null) := by decide +kernel
theorem fe_X10_write_178 : mj_f mi_X10_write 178 = some (.goto 25, 3, 203, 0, .null) := by decide +kernel
theorem fe_X10_write_181 : mj_f mi_X10_write 181 = some (.iload_n 2, 1, 2, 0, .null) := by decide +kernel
theorem fe_X10_write_182 : mj_f mi_X10_write 182 = some (.iload 5, 2, 5, 0, .null) := by decide +kernel
theorem fe_X10_write_184 : mj_f mi_X10_write 184 = some (.invokestatic 50, 3, 179, 2, .int 1) := by decide +kernel
theorem fe_X10_write_187 : mj_f mi_X10_write 187 = some (.iconst 5, 1, 0, 0, .int (5)) := by decide +kernel
theorem fe_X10_write_188 : mj_f mi_X10_write 188 = some (.if_icmp .ne 15, 3, 203, 0, .null) := by decide +kernel
theorem fe_X10_write_191 : mj_f mi_X10_write 191 = some (.aload_n 0, 1, 0, 0, .null) := by decide +kernel
theorem fe_X10_write_192 : mj_f mi_X10_write 192 = some (.aload_n 3, 1, 3, 0, .null) := by decide +kernel
theorem fe_X10_write_193 : mj_f mi_X10_write 193 = some (.aload_n 0, 1, 0, 0, .null) := by decide +kernel
theorem fe_X10_write_194 : mj_f mi_X10_write 194 = some (.getfield 11, 3, 10, 0, .null) := by decide +kernel
theorem fe_X10_write_197 : mj_f mi_X10_write 197 = some (.iload 5, 2, 5, 0, .null) := by decide +kernel
theorem fe_X10_write_199 : mj_f mi_X10_write 199 = some (.aaload, 1, 0, 0, .null) := by decide +kernel
theorem fe_X10_write_200 : mj_f mi_X10_write 200 = some (.invokevirtual 73, 3, 146, 2, .null) := by decide +kernel
theorem fe_X10_write_203 : mj_f mi_X10_write 203 = some (.iinc 5 (-1), 3, 5, 0, .int (-1)) := by decide +kernel
theorem fe_X10_write_206 : mj_f mi_X10_write 206 = some (.goto (-66), 3, 140, 0, .null) := by decide +kernel
theorem fe_X10_write_209 : mj_f mi_X10_write 209 = some (.aload_n 3, 1, 3, 0, .null) := by decide +kernel
theorem fe_X10_write_210 : mj_f mi_X10_write 210 = some (.aload_n 3, 1, 3, 0, .null) := by decide +kernel
theorem fe_X10_write_211 : mj_f mi_X10_write 211 = some (.aload_n 3, 1, 3, 0, .null) := by decide +kernel
theorem fe_X10_write_212 : mj_f mi_X10_write 212 = some (.invokevirtual 76, 3, 11, 0, .null) := by decide +kernel
theorem fe_X10_write_215 : mj_f mi_X10_write 215 = some (.invokevirtual 82, 3, 21, 1, .null) := by decide +kernel
theorem fe_X10_write_218 : mj_f mi_X10_write 218 = some (.invokevirtual 85, 3, 14, 1, .null) := by decide +kernel
theorem fe_X10_write_221 : mj_f mi_X10_write 221 = some (.return_, 1, 0, 0, .null) := by decide +kernel
def ct_X10_putFrame : MJT := [
  (0, 0, .aload_n 2, 1, 2, 0, .null),
  (1, 856, .invokevirtual 89, 3, 7, 0, .null),
  (4, 0, .aload_n 2, 1, 2, 0, .null),
  (5, 857, .invokevirtual 94, 3, 1, 0, .null),
  (8, 0, .if_icmp .ge 7, 3, 15, 0, .null),
  (11, 0, .iconst 1, 1, 0, 0, .int (1)),
  (12, 0, .goto 4, 3, 16, 0, .null),
  (15, 0, .iconst 0, 1, 0, 0, .int (0)),
  (16, 0, .istore_n 3, 1, 3, 0, .null),
  (17, 0, .aload_n 1, 1, 1, 0, .null),
  (18, 0, .iconst 0, 1, 0, 0, .int (0)),
  (19, 858, .invokevirtual 95, 3, 12, 1, .null),
  (22, 0, .pop, 1, 0, 0, .null),
  (23, 0, .aload_n 1, 1, 1, 0, .null),
  (24, 0, .sipush 193, 3, 0, 0, .int (193)),
  (27, 859, .invokevirtual 85, 3, 14, 1, .null),
  (30, 0, .aload_n 1, 1, 1, 0, .null),
  (31, 0, .aload_n 2, 1, 2, 0, .null),
  (32, 857, .invokevirtual 94, 3, 1, 0, .null),
  (35, 859, .invokevirtual 85, 3, 14, 1, .null),
  (38, 0, .aload_n 1, 1, 1, 0, .null),
  (39, 0, .iload_n 3, 1, 3, 0, .null),
  (40, 0, .ifCond .eq 7, 3, 47, 0, .null),
  (43, 0, .iconst 1, 1, 0, 0, .int (1)),
  (44, 0, .goto 4, 3, 48, 0, .null),
  (47, 0, .iconst 0, 1, 0, 0, .int (0)),
  (48, 859, .invokevirtual 85, 3, 14, 1, .null),
  (51, 0, .iload_n 3, 1, 3, 0, .null),
  (52, 0, .ifCond .eq 59, 3, 111, 0, .null),
  (55, 0, .aload_n 1, 1, 1, 0, .null),
  (56, 0, .aload_n 2, 1, 2, 0, .null),
  (57, 857, .invokevirtual 94, 3, 1, 0, .null),
  (60, 0, .iconst 1, 1, 0, 0, .int (1)),
  (61, 860, .invokestatic 99, 3, 177, 2, .int 1),
  (64, 861, .invokevirtual 102, 3, 18, 1, .null),
  (67, 0, .istore 4, 2, 4, 0, .null),
  (69, 0, .iconst 0, 1, 0, 0, .int (0)),
  (70, 0, .istore 5, 2, 5, 0, .null),
  (72, 0, .iload 5, 2, 5, 0, .null),
  (74, 0, .aload_n 2, 1, 2, 0, .null),
  (75, 857, .invokevirtual 94, 3, 1, 0, .null),
  (78, 0, .if_icmp .ge 33, 3, 111, 0, .null),
  (81, 0, .aload_n 1, 1, 1, 0, .null),
  (82, 0, .iload 4, 2, 4, 0, .null),
  (84, 0, .iload 5, 2, 5, 0, .null),
  (86, 0, .iadd, 1, 0, 0, .null),
  (87, 0, .iconst 1, 1, 0, 0, .int (1)),
  (88, 0, .aload_n 2, 1, 2, 0, .null),
  (89, 0, .iload 5, 2, 5, 0, .null),
  (91, 865, .invokevirtual 105, 3, 2, 1, .null),
  (94, 0, .ifCond .eq 7, 3, 101, 0, .null),
  (97, 0, .lconst 1, 1, 0, 0, .long 1),
  (98, 0, .goto 4, 3, 102, 0, .null),
  (101, 0, .lconst 0, 1, 0, 0, .long 0),
  (102, 866, .invokevirtual 108, 3, 19, 3, .null),
  (105, 0, .iinc 5 1, 3, 5, 0, .int (1)),
  (108, 0, .goto (-36), 3, 72, 0, .null),
  (111, 0, .return_, 1, 0, 0, .null)]
abbrev id_X10_putFrame : Nat := 140
def mi_X10_putFrame : MI := (yX10_putFrame, cX10_putFrame, 6, none, 10, ct_X10_putFrame)
theorem fe_X10_putFrame_0 : mj_f mi_X10_putFrame 0 = some (.aload_n 2, 1, 2, 0, .null) := by decide +kernel
theorem fe_X10_putFrame_1 : mj_f mi_X10_putFrame 1 = some (.invokevirtual 89, 3, 7, 0, .null) := by decide +kernel
theorem fe_X10_putFrame_4 : mj_f mi_X10_putFrame 4 = some (.aload_n 2, 1, 2, 0, .null) := by decide +kernel
theorem fe_X10_putFrame_5 : mj_f mi_X10_putFrame 5 = some (.invokevirtual 94, 3, 1, 0, .null) := by decide +kernel
theorem fe_X10_putFrame_8 : mj_f mi_X10_putFrame 8 = some (.if_icmp .ge 7, 3, 15, 0, .null) := by decide +kernel
theorem fe_X10_putFrame_11 : mj_f mi_X10_putFrame 11 = some (.iconst 1, 1, 0, 0, .int (1)) := by decide +kernel
theorem fe_X10_putFrame_12 : mj_f mi_X10_putFrame 12 = some (.goto 4, 3, 16, 0, .null) := by decide +kernel
theorem fe_X10_putFrame_15 : mj_f mi_X10_putFrame 15 = some (.iconst 0, 1, 0, 0, .int (0)) := by decide +kernel
theorem fe_X10_putFrame_16 : mj_f mi_X10_putFrame 16 = some (.istore_n 3, 1, 3, 0, .null) := by decide +kernel
theorem fe_X10_putFrame_17 : mj_f mi_X10_putFrame 17 = some (.aload_n 1, 1, 1, 0, .null) := by decide +kernel
theorem fe_X10_putFrame_18 : mj_f mi_X10_putFrame 18 = some (.iconst 0, 1, 0, 0, .int (0)) := by decide +kernel
theorem fe_X10_putFrame_19 : mj_f mi_X10_putFrame 19 = some (.invokevirtual 95, 3, 12, 1, .null) := by decide +kernel
theorem fe_X10_putFrame_22 : mj_f mi_X10_putFrame 22 = some (.pop, 1, 0, 0, .null) := by decide +kernel
theorem fe_X10_putFrame_23 : mj_f mi_X10_putFrame 23 = some (.aload_n 1, 1, 1, 0, .null) := by decide +kernel
theorem fe_X10_putFrame_24 : mj_f mi_X10_putFrame 24 = some (.sipush 193, 3, 0, 0, .int (193)) := by decide +kernel
theorem fe_X10_putFrame_27 : mj_f mi_X10_putFrame 27 = some (.invokevirtual 85, 3, 14, 1, .null) := by decide +kernel
theorem fe_X10_putFrame_30 : mj_f mi_X10_putFrame 30 = some (.aload_n 1, 1, 1, 0, .null) := by decide +kernel
theorem fe_X10_putFrame_31 : mj_f mi_X10_putFrame 31 = some (.aload_n 2, 1, 2, 0, .null) := by decide +kernel
theorem fe_X10_putFrame_32 : mj_f mi_X10_putFrame 32 = some (.invokevirtual 94, 3, 1, 0, .null) := by decide +kernel
theorem fe_X10_putFrame_35 : mj_f mi_X10_putFrame 35 = some (.invokevirtual 85, 3, 14, 1, .null) := by decide +kernel
theorem fe_X10_putFrame_38 : mj_f mi_X10_putFrame 38 = some (.aload_n 1, 1, 1, 0, .null) := by decide +kernel
theorem fe_X10_putFrame_39 : mj_f mi_X10_putFrame 39 = some (.iload_n 3, 1, 3, 0, .null) := by decide +kernel
theorem fe_X10_putFrame_40 : mj_f mi_X10_putFrame 40 = some (.ifCond .eq 7, 3, 47, 0, .null) := by decide +kernel
theorem fe_X10_putFrame_43 : mj_f mi_X10_putFrame 43 = some (.iconst 1, 1, 0, 0, .int (1)) := by decide +kernel
theorem fe_X10_putFrame_44 : mj_f mi_X10_putFrame 44 = some (.goto 4, 3, 48, 0, .null) := by decide +kernel
theorem fe_X10_putFrame_47 : mj_f mi_X10_putFrame 47 = some (.iconst 0, 1, 0, 0, .int (0)) := by decide +kernel
theorem fe_X10_putFrame_48 : mj_f mi_X10_putFrame 48 = some (.invokevirtual 85, 3, 14, 1, .null) := by decide +kernel
theorem fe_X10_putFrame_51 : mj_f mi_X10_putFrame 51 = some (.iload_n 3, 1, 3, 0, .null) := by decide +kernel
theorem fe_X10_putFrame_52 : mj_f mi_X10_putFrame 52 = some (.ifCond .eq 59, 3, 111, 0, .null) := by decide +kernel
theorem fe_X10_putFrame_55 : mj_f mi_X10_putFrame 55 = some (.aload_n 1, 1, 1, 0, .null) := by decide +kernel
theorem fe_X10_putFrame_56 : mj_f mi_X10_putFrame 56 = some (.aload_n 2, 1, 2, 0, .null) := by decide +kernel
theorem fe_X10_putFrame_57 : mj_f mi_X10_putFrame 57 = some (.invokevirtual 94, 3, 1, 0, .null) := by decide +kernel
theorem fe_X10_putFrame_60 : mj_f mi_X10_putFrame 60 = some (.iconst 1, 1, 0, 0, .int (1)) := by decide +kernel
theorem fe_X10_putFrame_61 : mj_f mi_X10_putFrame 61 = some (.invokestatic 99, 3, 177, 2, .int 1) := by decide +kernel
theorem fe_X10_putFrame_64 : mj_f mi_X10_putFrame 64 = some (.invokevirtual 102, 3, 18, 1, .null) := by decide +kernel
theorem fe_X10_putFrame_67 : mj_f mi_X10_putFrame 67 = some (.istore 4, 2, 4, 0, .null) := by decide +kernel
theorem fe_X10_putFrame_69 : mj_f mi_X10_putFrame 69 = some (.iconst 0, 1, 0, 0, .int (0)) := by decide +kernel
theorem fe_X10_putFrame_70 : mj_f mi_X10_putFrame 70 = some (.istore 5, 2, 5, 0, .null) := by decide +kernel
theorem fe_X10_putFrame_72 : mj_f mi_X10_putFrame 72 = some (.iload 5, 2, 5, 0, .null) := by decide +kernel
theorem fe_X10_putFrame_74 : mj_f mi_X10_putFrame 74 = some (.aload_n 2, 1, 2, 0, .null) := by decide +kernel
theorem fe_X10_putFrame_75 : mj_f mi_X10_putFrame 75 = some (.invokevirtual 94, 3, 1, 0, .null) := by decide +kernel
theorem fe_X10_putFrame_78 : mj_f mi_X10_putFrame 78 = some (.if_icmp .ge 33, 3, 111, 0, .null) := by decide +kernel
theorem fe_X10_putFrame_81 : mj_f mi_X10_putFrame 81 = some (.aload_n 1, 1, 1, 0, .null) := by decide +kernel
theorem fe_X10_putFrame_82 : mj_f mi_X10_putFrame 82 = some (.iload 4, 2, 4, 0, .null) := by decide +kernel
theorem fe_X10_putFrame_84 : mj_f mi_X10_putFrame 84 = some (.iload 5, 2, 5, 0, .null) := by decide +kernel
theorem fe_X10_putFrame_86 : mj_f mi_X10_putFrame 86 = some (.iadd, 1, 0, 0, .null) := by decide +kernel
theorem fe_X10_putFrame_87 : mj_f mi_X10_putFrame 87 = some (.iconst 1, 1, 0, 0, .int (1)) := by decide +kernel
theorem fe_X10_putFrame_88 : mj_f mi_X10_putFrame 88 = some (.aload_n 2, 1, 2, 0, .null) := by decide +kernel
theorem fe_X10_putFrame_89 : mj_f mi_X10_putFrame 89 = some (.iload 5, 2, 5, 0, .null) := by decide +kernel
theorem fe_X10_putFrame_91 : mj_f mi_X10_putFrame 91 = some (.invokevirtual 105, 3, 2, 1, .null) := by decide +kernel
theorem fe_X10_putFrame_94 : mj_f mi_X10_putFrame 94 = some (.ifCond .eq 7, 3, 101, 0, .null) := by decide +kernel
theorem fe_X10_putFrame_97 : mj_f mi_X10_putFrame 97 = some (.lconst 1, 1, 0, 0, .long 1) := by decide +kernel
theorem fe_X10_putFrame_98 : mj_f mi_X10_putFrame 98 = some (.goto 4, 3, 102, 0, .null) := by decide +kernel
theorem fe_X10_putFrame_101 : mj_f mi_X10_putFrame 101 = some (.lconst 0, 1, 0, 0, .long 0) := by decide +kernel
theorem fe_X10_putFrame_102 : mj_f mi_X10_putFrame 102 = some (.invokevirtual 108, 3, 19, 3, .null) := by decide +kernel
theorem fe_X10_putFrame_105 : mj_f mi_X10_putFrame 105 = some (.iinc 5 1, 3, 5, 0, .int (1)) := by decide +kernel
theorem fe_X10_putFrame_108 : mj_f mi_X10_putFrame 108 = some (.goto (-36), 3, 72, 0, .null) := by decide +kernel
theorem fe_X10_putFrame_111 : mj_f mi_X10_putFrame 111 = some (.return_, 1, 0, 0, .null) := by decide +kernel
def ct_X10_putHead : MJT := [
  (0, 0, .aload_n 1, 1, 1, 0, .null),
  (1, 0, .iload 4, 2, 4, 0, .null),
  (3, 859, .invokevirtual 85, 3, 14, 1, .null),
  (6, 0, .iload 4, 2, 4, 0, .null),
  (8, 0, .iconst 4, 1, 0, 0, .int (4)),
  (9, 0, .if_icmp .eq 9, 3, 18, 0, .null),
  (12, 0, .iload 4, 2, 4, 0, .null),
  (14, 0, .iconst 5, 1, 0, 0, .int (5)),
  (15, 0, .if_icmp .ne 14, 3, 29, 0, .null),
  (18, 0, .aload_n 1, 1, 1, 0, .null),
  (19, 0, .aload_n 3, 1, 3, 0, .null),
  (20, 881, .invokevirtual 112, 3, 108, 0, .null),
  (23, 859, .invokevirtual 85, 3, 14, 1, .null),
  (26, 0, .goto 18, 3, 44, 0, .null),
  (29, 0, .iload 4, 2, 4, 0, .null),
  (31, 0, .bipush 6, 2, 0, 0, .int (6)),
  (33, 0, .if_icmp .ne 11, 3, 44, 0, .null),
  (36, 0, .aload_n 1, 1, 1, 0, .null),
  (37, 0, .aload_n 2, 1, 2, 0, .null),
  (38, 882, .invokevirtual 113, 3, 124, 0, .null),
  (41, 883, .invokevirtual 117, 3, 17, 1, .null),
  (44, 0, .return_, 1, 0, 0, .null)]
abbrev id_X10_putHead : Nat := 141
def mi_X10_putHead : MI := (yX10_putHead, cX10_putHead, 5, none, 10, ct_X10_putHead)
theorem fe_X10_putHead_0 : mj_f mi_X10_putHead 0 = some (.aload_n 1, 1, 1, 0, .null) := by decide +kernel
theorem fe_X10_putHead_1 : mj_f mi_X10_putHead 1 = some (.iload 4, 2, 4, 0, .null) := by decide +kernel
theorem fe_X10_putHead_3 : mj_f mi_X10_putHead 3 = some (.invokevirtual 85, 3, 14, 1, .null) := by decide +kernel
theorem fe_X10_putHead_6 : mj_f mi_X10_putHead 6 = some (.iload 4, 2, 4, 0, .null) := by decide +kernel
theorem fe_X10_putHead_8 : mj_f mi_X10_putHead 8 = some (.iconst 4, 1, 0, 0, .int (4)) := by decide +kernel
theorem fe_X10_putHead_9 : mj_f mi_X10_putHead 9 = some (.if_icmp .eq 9, 3, 18, 0, .null) := by decide +kernel
theorem fe_X10_putHead_12 : mj_f mi_X10_putHead 12 = some (.iload 4, 2, 4, 0, .null) := by decide +kernel
theorem fe_X10_putHead_14 : mj_f mi_X10_putHead 14 = some (.iconst 5, 1, 0, 0, .int (5)) := by decide +kernel
theorem fe_X10_putHead_15 : mj_f mi_X10_putHead 15 = some (.if_icmp .ne 14, 3, 29, 0, .null) := by decide +kernel
theorem fe_X10_putHead_18 : mj_f mi_X10_putHead 18 = some (.aload_n 1, 1, 1, 0, .null) := by decide +kernel
theorem fe_X10_putHead_19 : mj_f mi_X10_putHead 19 = some (.aload_n 3, 1, 3, 0, .null) := by decide +kernel
theorem fe_X10_putHead_20 : mj_f mi_X10_putHead 20 = some (.invokevirtual 112, 3, 108, 0, .null) := by decide +kernel
theorem fe_X10_putHead_23 : mj_f mi_X10_putHead 23 = some (.invokevirtual 85, 3, 14, 1, .null) := by decide +kernel
theorem fe_X10_putHead_26 : mj_f mi_X10_putHead 26 = some (.goto 18, 3, 44, 0, .null) := by decide +kernel
theorem fe_X10_putHead_29 : mj_f mi_X10_putHead 29 = some (.iload 4, 2, 4, 0, .null) := by decide +kernel
theorem fe_X10_putHead_31 : mj_f mi_X10_putHead 31 = some (.bipush 6, 2, 0, 0, .int (6)) := by decide +kernel
theorem fe_X10_putHead_33 : mj_f mi_X10_putHead 33 = some (.if_icmp .ne 11, 3, 44, 0, .null) := by decide +kernel
theorem fe_X10_putHead_36 : mj_f mi_X10_putHead 36 = some (.aload_n 1, 1, 1, 0, .null) := by decide +kernel
theorem fe_X10_putHead_37 : mj_f mi_X10_putHead 37 = some (.aload_n 2, 1, 2, 0, .null) := by decide +kernel
theorem fe_X10_putHead_38 : mj_f mi_X10_putHead 38 = some (.invokevirtual 113, 3, 124, 0, .null) := by decide +kernel
theorem fe_X10_putHead_41 : mj_f mi_X10_putHead 41 = some (.invokevirtual 117, 3, 17, 1, .null) := by decide +kernel
theorem fe_X10_putHead_44 : mj_f mi_X10_putHead 44 = some (.return_, 1, 0, 0, .null) := by decide +kernel
def ct_X10_putInnermost : MJT := [
  (0, 0, .iload_n 3, 1, 3, 0, .null),
  (1, 0, .iconst 1, 1, 0, 0, .int (1)),
  (2, 0, .if_icmp .ne 12, 3, 14, 0, .null),
  (5, 0, .aload_n 0, 1, 0, 0, .null),
  (6, 0, .aload_n 1, 1, 1, 0, .null),
  (7, 0, .aload_n 2, 1, 2, 0, .null),
  (8, 892, .invokevirtual 69, 3, 144, 2, .null),
  (11, 0, .goto 31, 3, 42, 0, .null),
  (14, 0, .iload_n 3, 1, 3, 0, .null),
  (15, 0, .iconst 2, 1, 0, 0, .int (2)),
  (16, 0, .if_icmp .ne 20, 3, 36, 0, .null),
  (19, 0, .aload_n 0, 1, 0, 0, .null),
  (20, 261, .getfield 25, 3, 10, 2, .null),
  (23, 0, .aload_n 2, 1, 2, 0, .null),
  (24, 900, .invokevirtual 121, 3, 63, 1, .null),
  (27, 0, .aload_n 0, 1, 0, 0, .null),
  (28, 0, .aload_n 1, 1, 1, 0, .null),
  (29, 0, .aload_n 2, 1, 2, 0, .null),
  (30, 901, .invokevirtual 124, 3, 145, 2, .null),
  (33, 0, .goto 9, 3, 42, 0, .null),
  (36, 0, .aload_n 0, 1, 0, 0, .null),
  (37, 0, .aload_n 1, 1, 1, 0, .null),
  (38, 0, .aload_n 2, 1, 2, 0, .null),
  (39, 918, .invokevirtual 127, 3, 143, 2, .null),
  (42, 0, .return_, 1, 0, 0, .null)]
abbrev id_X10_putInnermost : Nat := 142
def mi_X10_putInnermost : MI := (yX10_putInnermost, cX10_putInnermost, 4, none, 10, ct_X10_putInnermost)
theorem fe_X10_putInnermost_0 : mj_f mi_X10_putInnermost 0 = some (.iload_n 3, 1, 3, 0, .null) := by decide +kernel
theorem fe_X10_putInnermost_1 : mj_f mi_X10_putInnermost 1 = some (.iconst 1, 1, 0, 0, .int (1)) := by decide +kernel
theorem fe_X10_putInnermost_2 : mj_f mi_X10_putInnermost 2 = some (.if_icmp .ne 12, 3, 14, 0, .null) := by decide +kernel
theorem fe_X10_putInnermost_5 : mj_f mi_X10_putInnermost 5 = some (.aload_n 0, 1, 0, 0, .null) := by decide +kernel
theorem fe_X10_putInnermost_6 : mj_f mi_X10_putInnermost 6 = some (.aload_n 1, 1, 1, 0, .null) := by decide +kernel
theorem fe_X10_putInnermost_7 : mj_f mi_X10_putInnermost 7 = some (.aload_n 2, 1, 2, 0, .null) := by decide +kernel
theorem fe_X10_putInnermost_8 : mj_f mi_X10_putInnermost 8 = some (.invokevirtual 69, 3, 144, 2, .null) := by decide +kernel
theorem fe_X10_putInnermost_11 : mj_f mi_X10_putInnermost 11 = some (.goto 31, 3, 42, 0, .null) := by decide +kernel
theorem fe_X10_putInnermost_14 : mj_f mi_X10_putInnermost 14 = some (.iload_n 3, 1, 3, 0, .null) := by decide +kernel
theorem fe_X10_putInnermost_15 : mj_f mi_X10_putInnermost 15 = some (.iconst 2, 1, 0, 0, .int (2)) := by decide +kernel
theorem fe_X10_putInnermost_16 : mj_f mi_X10_putInnermost 16 = some (.if_icmp .ne 20, 3, 36, 0, .null) := by decide +kernel
theorem fe_X10_putInnermost_19 : mj_f mi_X10_putInnermost 19 = some (.aload_n 0, 1, 0, 0, .null) := by decide +kernel
theorem fe_X10_putInnermost_20 : mj_f mi_X10_putInnermost 20 = some (.getfield 25, 3, 10, 2, .null) := by decide +kernel
theorem fe_X10_putInnermost_23 : mj_f mi_X10_putInnermost 23 = some (.aload_n 2, 1, 2, 0, .null) := by decide +kernel
theorem fe_X10_putInnermost_24 : mj_f mi_X10_putInnermost 24 = some (.invokevirtual 121, 3, 63, 1, .null) := by decide +kernel
theorem fe_X10_putInnermost_27 : mj_f mi_X10_putInnermost 27 = some (.aload_n 0, 1, 0, 0, .null) := by decide +kernel
theorem fe_X10_putInnermost_28 : mj_f mi_X10_putInnermost 28 = some (.aload_n 1, 1, 1, 0, .null) := by decide +kernel
theorem fe_X10_putInnermost_29 : mj_f mi_X10_putInnermost 29 = some (.aload_n 2, 1, 2, 0, .null) := by decide +kernel
theorem fe_X10_putInnermost_30 : mj_f mi_X10_putInnermost 30 = some (.invokevirtual 124, 3, 145, 2, .null) := by decide +kernel
theorem fe_X10_putInnermost_33 : mj_f mi_X10_putInnermost 33 = some (.goto 9, 3, 42, 0, .null) := by decide +kernel
theorem fe_X10_putInnermost_36 : mj_f mi_X10_putInnermost 36 = some (.aload_n 0, 1, 0, 0, .null) := by decide +kernel
theorem fe_X10_putInnermost_37 : mj_f mi_X10_putInnermost 37 = some (.aload_n 1, 1, 1, 0, .null) := by decide +kernel
theorem fe_X10_putInnermost_38 : mj_f mi_X10_putInnermost 38 = some (.aload_n 2, 1, 2, 0, .null) := by decide +kernel
theorem fe_X10_putInnermost_39 : mj_f mi_X10_putInnermost 39 = some (.invokevirtual 127, 3, 143, 2, .null) := by decide +kernel
theorem fe_X10_putInnermost_42 : mj_f mi_X10_putInnermost 42 = some (.return_, 1, 0, 0, .null) := by decide +kernel
def ct_X10_putPlain : MJT := [
  (0, 0, .aload_n 1, 1, 1, 0, .null),
  (1, 0, .iconst 0, 1, 0, 0, .int (0)),
  (2, 859, .invokevirtual 85, 3, 14, 1, .null),
  (5, 0, .iconst 0, 1, 0, 0, .int (0)),
  (6, 0, .istore_n 3, 1, 3, 0, .null),
  (7, 0, .iload_n 3, 1, 3, 0, .null),
  (8, 0, .aload_n 2, 1, 2, 0, .null),
  (9, 881, .invokevirtual 112, 3, 108, 0, .null),
  (12, 0, .if_icmp .ge 18, 3, 30, 0, .null),
  (15, 0, .aload_n 1, 1, 1, 0, .null),
  (16, 0, .aload_n 2, 1, 2, 0, .null),
  (17, 0, .iload_n 3, 1, 3, 0, .null),
  (18, 899, .invokevirtual 130, 3, 109, 1, .null),
  (21, 922, .invokevirtual 134, 3, 16, 1, .null),
  (24, 0, .iinc 3 1, 3, 3, 0, .int (1)),
  (27, 0, .goto (-20), 3, 7, 0, .null),
  (30, 0, .return_, 1, 0, 0, .null)]
abbrev id_X10_putPlain : Nat := 143
def mi_X10_putPlain : MI := (yX10_putPlain, cX10_putPlain, 4, none, 10, ct_X10_putPlain)
theorem fe_X10_putPlain_0 : mj_f mi_X10_putPlain 0 = some (.aload_n 1, 1, 1, 0, .null) := by decide +kernel
theorem fe_X10_putPlain_1 : mj_f mi_X10_putPlain 1 = some (.iconst 0, 1, 0, 0, .int (0)) := by decide +kernel
theorem fe_X10_putPlain_2 : mj_f mi_X10_putPlain 2 = some (.invokevirtual 85, 3, 14, 1, .null) := by decide +kernel
theorem fe_X10_putPlain_5 : mj_f mi_X10_putPlain 5 = some (.iconst 0, 1, 0, 0, .int (0)) := by decide +kernel
theorem fe_X10_putPlain_6 : mj_f mi_X10_putPlain 6 = some (.istore_n 3, 1, 3, 0, .null) := by decide +kernel
theorem fe_X10_putPlain_7 : mj_f mi_X10_putPlain 7 = some (.iload_n 3, 1, 3, 0, .null) := by decide +kernel
theorem fe_X10_putPlain_8 : mj_f mi_X10_putPlain 8 = some (.aload_n 2, 1, 2, 0, .null) := by decide +kernel
theorem fe_X10_putPlain_9 : mj_f mi_X10_putPlain 9 = some (.invokevirtual 112, 3, 108, 0, .null) := by decide +kernel
theorem fe_X10_putPlain_12 : mj_f mi_X10_putPlain 12 = some (.if_icmp .ge 18, 3, 30, 0, .null) := by decide +kernel
theorem fe_X10_putPlain_15 : mj_f mi_X10_putPlain 15 = some (.aload_n 1, 1, 1, 0, .null) := by decide +kernel
theorem fe_X10_putPlain_16 : mj_f mi_X10_putPlain 16 = some (.aload_n 2, 1, 2, 0, .null) := by decide +kernel
theorem fe_X10_putPlain_17 : mj_f mi_X10_putPlain 17 = some (.iload_n 3, 1, 3, 0, .null) := by decide +kernel
theorem fe_X10_putPlain_18 : mj_f mi_X10_putPlain 18 = some (.invokevirtual 130, 3, 109, 1, .null) := by decide +kernel
theorem fe_X10_putPlain_21 : mj_f mi_X10_putPlain 21 = some (.invokevirtual 134, 3, 16, 1, .null) := by decide +kernel
theorem fe_X10_putPlain_24 : mj_f mi_X10_putPlain 24 = some (.iinc 3 1, 3, 3, 0, .int (1)) := by decide +kernel
theorem fe_X10_putPlain_27 : mj_f mi_X10_putPlain 27 = some (.goto (-20), 3, 7, 0, .null) := by decide +kernel
theorem fe_X10_putPlain_30 : mj_f mi_X10_putPlain 30 = some (.return_, 1, 0, 0, .null) := by decide +kernel
def ct_X10_putNarrow : MJT := [
  (0, 0, .aload_n 2, 1, 2, 0, .null),
  (1, 896, .invokevirtual 137, 3, 120, 0, .null),
  (4, 0, .lstore_n 3, 1, 3, 0, .null),
  (5, 0, .aload_n 2, 1, 2, 0, .null),
  (6, 0, .lload_n 3, 1, 3, 0, .null),
  (7, 897, .invokevirtual 140, 3, 121, 1, .null),
  (10, 0, .istore 5, 2, 5, 0, .null),
  (12, 0, .aload_n 1, 1, 1, 0, .null),
  (13, 0, .iconst 1, 1, 0, 0, .int (1)),
  (14, 859, .invokevirtual 85, 3, 14, 1, .null),
  (17, 0, .aload_n 1, 1, 1, 0, .null),
  (18, 0, .lload_n 3, 1, 3, 0, .null),
  (19, 898, .invokestatic 144, 3, 174, 1, .int 1),
  (22, 883, .invokevirtual 117, 3, 17, 1, .null),
  (25, 0, .aload_n 1, 1, 1, 0, .null),
  (26, 0, .iload 5, 2, 5, 0, .null),
  (28, 859, .invokevirtual 85, 3, 14, 1, .null),
  (31, 0, .aload_n 1, 1, 1, 0, .null),
  (32, 0, .aload_n 2, 1, 2, 0, .null),
  (33, 881, .invokevirtual 112, 3, 108, 0, .null),
  (36, 0, .iload 5, 2, 5, 0, .null),
  (38, 860, .invokestatic 99, 3, 177, 2, .int 1),
  (41, 861, .invokevirtual 102, 3, 18, 1, .null),
  (44, 0, .istore 6, 2, 6, 0, .null),
  (46, 0, .iconst 0, 1, 0, 0, .int (0)),
  (47, 0, .istore 7, 2, 7, 0, .null),
  (49, 0, .iload 7, 2, 7, 0, .null),
  (51, 0, .aload_n 2, 1, 2, 0, .null),
  (52, 881, .invokevirtual 112, 3, 108, 0, .null),
  (55, 0, .if_icmp .ge 31, 3, 86, 0, .null),
  (58, 0, .aload_n 1, 1, 1, 0, .null),
  (59, 0, .iload 6, 2, 6, 0, .null),
  (61, 0, .iload 7, 2, 7, 0, .null),
  (63, 0, .iload 5, 2, 5, 0, .null),
  (65, 0, .imul, 1, 0, 0, .null),
  (66, 0, .iadd, 1, 0, 0, .null),
  (67, 0, .iload 5, 2, 5, 0, .null),
  (69, 0, .aload_n 2, 1, 2, 0, .null),
  (70, 0, .iload 7, 2, 7, 0, .null),
  (72, 899, .invokevirtual 130, 3, 109, 1, .null),
  (75, 0, .lload_n 3, 1, 3, 0, .null),
  (76, 0, .lsub, 1, 0, 0, .null),
  (77, 866, .invokevirtual 108, 3, 19, 3, .null),
  (80, 0, .iinc 7 1, 3, 7, 0, .int (1)),
  (83, 0, .goto (-34), 3, 49, 0, .null),
  (86, 0, .return_, 1, 0, 0, .null)]
abbrev id_X10_putNarrow : Nat := 144
def mi_X10_putNarrow : MI := (yX10_putNarrow, cX10_putNarrow, 8, none, 10, ct_X10_putNarrow)
theorem fe_X10_putNarrow_0 : mj_f mi_X10_putNarrow 0 = some (.aload_n 2, 1, 2, 0, .null) := by decide +kernel
theorem fe_X10_putNarrow_1 : mj_f mi_X10_putNarrow 1 = some (.invokevirtual 137, 3, 120, 0, .null) := by decide +kernel
theorem fe_X10_putNarrow_4 : mj_f mi_X10_putNarrow 4 = some (.lstore_n 3, 1, 3, 0, .null) := by decide +kernel
theorem fe_X10_putNarrow_5 : mj_f mi_X10_putNarrow 5 = some (.aload_n 2, 1, 2, 0, .null) := by decide +kernel
theorem fe_X10_putNarrow_6 : mj_f mi_X10_putNarrow 6 = some (.lload_n 3, 1, 3, 0, .null) := by decide +kernel
theorem fe_X10_putNarrow_7 : mj_f mi_X10_putNarrow 7 = some (.invokevirtual 140, 3, 121, 1, .null) := by decide +kernel
theorem fe_X10_putNarrow_10 : mj_f mi_X10_putNarrow 10 = some (.istore 5, 2, 5, 0, .null) := by decide +kernel
theorem fe_X10_putNarrow_12 : mj_f mi_X10_putNarrow 12 = some (.aload_n 1, 1, 1, 0, .null) := by decide +kernel
theorem fe_X10_putNarrow_13 : mj_f mi_X10_putNarrow 13 = some (.iconst 1, 1, 0, 0, .int (1)) := by decide +kernel
theorem fe_X10_putNarrow_14 : mj_f mi_X10_putNarrow 14 = some (.invokevirtual 85, 3, 14, 1, .null) := by decide +kernel
theorem fe_X10_putNarrow_17 : mj_f mi_X10_putNarrow 17 = some (.aload_n 1, 1, 1, 0, .null) := by decide +kernel
theorem fe_X10_putNarrow_18 : mj_f mi_X10_putNarrow 18 = some (.lload_n 3, 1, 3, 0, .null) := by decide +kernel
theorem fe_X10_putNarrow_19 : mj_f mi_X10_putNarrow 19 = some (.invokestatic 144, 3, 174, 1, .int 1) := by decide +kernel
theorem fe_X10_putNarrow_22 : mj_f mi_X10_putNarrow 22 = some (.invokevirtual 117, 3, 17, 1, .null) := by decide +kernel
theorem fe_X10_putNarrow_25 : mj_f mi_X10_putNarrow 25 = some (.aload_n 1, 1, 1, 0, .null) := by decide +kernel
theorem fe_X10_putNarrow_26 : mj_f mi_X10_putNarrow 26 = some (.iload 5, 2, 5, 0, .null) := by decide +kernel
theorem fe_X10_putNarrow_28 : mj_f mi_X10_putNarrow 28 = some (.invokevirtual 85, 3, 14, 1, .null) := by decide +kernel
theorem fe_X10_putNarrow_31 : mj_f mi_X10_putNarrow 31 = some (.aload_n 1, 1, 1, 0, .null) := by decide +kernel
theorem fe_X10_putNarrow_32 : mj_f mi_X10_putNarrow 32 = some (.aload_n 2, 1, 2, 0, .null) := by decide +kernel
theorem fe_X10_putNarrow_33 : mj_f mi_X10_putNarrow 33 = some (.invokevirtual 112, 3, 108, 0, .null) := by decide +kernel
theorem fe_X10_putNarrow_36 : mj_f mi_X10_putNarrow 36 = some (.iload 5, 2, 5, 0, .null) := by decide +kernel
theorem fe_X10_putNarrow_38 : mj_f mi_X10_putNarrow 38 = some (.invokestatic 99, 3, 177, 2, .int 1) := by decide +kernel
theorem fe_X10_putNarrow_41 : mj_f mi_X10_putNarrow 41 = some (.invokevirtual 102, 3, 18, 1, .null) := by decide +kernel
theorem fe_X10_putNarrow_44 : mj_f mi_X10_putNarrow 44 = some (.istore 6, 2, 6, 0, .null) := by decide +kernel
theorem fe_X10_putNarrow_46 : mj_f mi_X10_putNarrow 46 = some (.iconst 0, 1, 0, 0, .int (0)) := by decide +kernel
theorem fe_X10_putNarrow_47 : mj_f mi_X10_putNarrow 47 = some (.istore 7, 2, 7, 0, .null) := by decide +kernel
theorem fe_X10_putNarrow_49 : mj_f mi_X10_putNarrow 49 = some (.iload 7, 2, 7, 0, .null) := by decide +kernel
theorem fe_X10_putNarrow_51 : mj_f mi_X10_putNarrow 51 = some (.aload_n 2, 1, 2, 0, .null) := by decide +kernel
theorem fe_X10_putNarrow_52 : mj_f mi_X10_putNarrow 52 = some (.invokevirtual 112, 3, 108, 0, .null) := by decide +kernel
theorem fe_X10_putNarrow_55 : mj_f mi_X10_putNarrow 55 = some (.if_icmp .ge 31, 3, 86, 0, .null) := by decide +kernel
theorem fe_X10_putNarrow_58 : mj_f mi_X10_putNarrow 58 = some (.aload_n 1, 1, 1, 0, .null) := by decide +kernel
theorem fe_X10_putNarrow_59 : mj_f mi_X10_putNarrow 59 = some (.iload 6, 2, 6, 0, .null) := by decide +kernel
theorem fe_X10_putNarrow_61 : mj_f mi_X10_putNarrow 61 = some (.iload 7, 2, 7, 0, .null) := by decide +kernel
theorem fe_X10_putNarrow_63 : mj_f mi_X10_putNarrow 63 = some (.iload 5, 2, 5, 0, .null) := by decide +kernel
theorem fe_X10_putNarrow_65 : mj_f mi_X10_putNarrow 65 = some (.imul, 1, 0, 0, .null) := by decide +kernel
theorem fe_X10_putNarrow_66 : mj_f mi_X10_putNarrow 66 = some (.iadd, 1, 0, 0, .null) := by decide +kernel
theorem fe_X10_putNarrow_67 : mj_f mi_X10_putNarrow 67 = some (.iload 5, 2, 5, 0, .null) := by decide +kernel
theorem fe_X10_putNarrow_69 : mj_f mi_X10_putNarrow 69 = some (.aload_n 2, 1, 2, 0, .null) := by decide +kernel
theorem fe_X10_putNarrow_70 : mj_f mi_X10_putNarrow 70 = some (.iload 7, 2, 7, 0, .null) := by decide +kernel
theorem fe_X10_putNarrow_72 : mj_f mi_X10_putNarrow 72 = some (.invokevirtual 130, 3, 109, 1, .null) := by decide +kernel
theorem fe_X10_putNarrow_75 : mj_f mi_X10_putNarrow 75 = some (.lload_n 3, 1, 3, 0, .null) := by decide +kernel
theorem fe_X10_putNarrow_76 : mj_f mi_X10_putNarrow 76 = some (.lsub, 1, 0, 0, .null) := by decide +kernel
theorem fe_X10_putNarrow_77 : mj_f mi_X10_putNarrow 77 = some (.invokevirtual 108, 3, 19, 3, .null) := by decide +kernel
theorem fe_X10_putNarrow_80 : mj_f mi_X10_putNarrow 80 = some (.iinc 7 1, 3, 7, 0, .int (1)) := by decide +kernel
theorem fe_X10_putNarrow_83 : mj_f mi_X10_putNarrow 83 = some (.goto (-34), 3, 49, 0, .null) := by decide +kernel
theorem fe_X10_putNarrow_86 : mj_f mi_X10_putNarrow 86 = some (.return_, 1, 0, 0, .null) := by decide +kernel
def ct_X10_putPatched : MJT := [
  (0, 0, .aload_n 1, 1, 1, 0, .null),
  (1, 0, .iconst 2, 1, 0, 0, .int (2)),
  (2, 859, .invokevirtual 85, 3, 14, 1, .null),
  (5, 0, .aload_n 1, 1, 1, 0, .null),
  (6, 0, .aload_n 0, 1, 0, 0, .null),
  (7, 261, .getfield 25, 3, 10, 2, .null),
  (10, 905, .invokevirtual 148, 3, 59, 0, .null),
  (13, 898, .invokestatic 144, 3, 174, 1, .int 1),
  (16, 883, .invokevirtual 117, 3, 17, 1, .null),
  (19, 0, .aload_n 1, 1, 1, 0, .null),
  (20, 0, .aload_n 0, 1, 0, 0, .null),
  (21, 261, .getfield 25, 3, 10, 2, .null),
  (24, 909, .invokevirtual 151, 3, 60, 0, .null),
  (27, 859, .invokevirtual 85, 3, 14, 1, .null),
  (30, 0, .aload_n 1, 1, 1, 0, .null),
  (31, 0, .aload_n 0, 1, 0, 0, .null),
  (32, 261, .getfield 25, 3, 10, 2, .null),
  (35, 913, .invokevirtual 153, 3, 61, 0, .null),
  (38, 859, .invokevirtual 85, 3, 14, 1, .null),
  (41, 0, .iconst 0, 1, 0, 0, .int (0)),
  (42, 0, .istore_n 3, 1, 3, 0, .null),
  (43, 0, .iload_n 3, 1, 3, 0, .null),
  (44, 0, .aload_n 2, 1, 2, 0, .null),
  (45, 881, .invokevirtual 112, 3, 108, 0, .null),
  (48, 0, .if_icmp .ge 41, 3, 89, 0, .null),
  (51, 0, .aload_n 0, 1, 0, 0, .null),
  (52, 261, .getfield 25, 3, 10, 2, .null),
  (55, 0, .aload_n 2, 1, 2, 0, .null),
  (56, 0, .iload_n 3, 1, 3, 0, .null),
  (57, 899, .invokevirtual 130, 3, 109, 1, .null),
  (60, 914, .invokevirtual 156, 3, 66, 1, .null),
  (63, 0, .ifCond .ne 20, 3, 83, 0, .null),
  (66, 0, .aload_n 1, 1, 1, 0, .null),
  (67, 0, .iload_n 3, 1, 3, 0, .null),
  (68, 859, .invokevirtual 85, 3, 14, 1, .null),
  (71, 0, .aload_n 1, 1, 1, 0, .null),
  (72, 0, .aload_n 2, 1, 2, 0, .null),
  (73, 0, .iload_n 3, 1, 3, 0, .null),
  (74, 899, .invokevirtual 130, 3, 109, 1, .null),
  (77, 898, .invokestatic 144, 3, 174, 1, .int 1),
  (80, 883, .invokevirtual 117, 3, 17, 1, .null),
  (83, 0, .iinc 3 1, 3, 3, 0, .int (1)),
  (86, 0, .goto (-43), 3, 43, 0, .null),
  (89, 0, .aload_n 1, 1, 1, 0, .null),
  (90, 0, .aload_n 2, 1, 2, 0, .null),
  (91, 881, .invokevirtual 112, 3, 108, 0, .null),
  (94, 0, .aload_n 0, 1, 0, 0, .null),
  (95, 261, .getfield 25, 3, 10, 2, .null),
  (98, 909, .invokevirtual 151, 3, 60, 0, .null),
  (101, 860, .invokestatic 99, 3, 177, 2, .int 1),
  (104, 861, .invokevirtual 102, 3, 18, 1, .null),
  (107, 0, .istore_n 3, 1, 3, 0, .null),
  (108, 0, .iconst 0, 1, 0, 0, .int (0)),
  (109, 0, .istore 4, 2, 4, 0, .null),
  (111, 0, .iload 4, 2, 4, 0, .null),
  (113, 0, .aload_n 2, 1, 2, 0, .null),
  (114, 881, .invokevirtual 112, 3, 108, 0, .null),
  (117, 0, .if_icmp .ge 62, 3, 179, 0, .null),
  (120, 0, .aload_n 0, 1, 0, 0, .null),
  (121, 261, .getfield 25, 3, 10, 2, .null),
  (124, 0, .aload_n 2, 1, 2, 0, .null),
  (125, 0, .iload 4, 2, 4, 0, .null),
  (127, 899, .invokevirtual 130, 3, 109, 1, .null),
  (130, 914, .invokevirtual 156, 3, 66, 1, .null),
  (133, 0, .ifCond .eq 40, 3, 173, 0, .null),
  (136, 0, .aload_n 1, 1, 1, 0, .null),
  (137, 0, .iload_n 3, 1, 3, 0, .null),
  (138, 0, .iload 4, 2, 4, 0, .null),
  (140, 0, .aload_n 0, 1, 0, 0, .null),
  (141, 261, .getfield 25, 3, 10, 2, .null),
  (144, 909, .invokevirtual 151, 3, 60, 0, .null),
  (147, 0, .imul, 1, 0, 0, .null),
  (148, 0, .iadd, 1, 0, 0, .null),
  (149, 0, .aload_n 0, 1, 0, 0, .null),
  (150, 261, .getfield 25, 3, 10, 2, .null),
  (153, 909, .invokevirtual 151, 3, 60, 0, .null),
  (156, 0, .aload_n 2, 1, 2, 0, .null),
  (157, 0, .iload 4, 2, 4, 0, .null),
  (159, 899, .invokevirtual 130, 3, 109, 1, .null),
  (162, 0, .aload_n 0, 1, 0, 0, .null),
  (163, 261, .getfield 25, 3, 10, 2, .null),
  (166, 905, .invokevirtual 148, 3, 59, 0, .null),
  (169, 0, .lsub, 1, 0, 0, .null),
  (170, 866, .invokevirtual 108, 3, 19, 3, .null),
  (173, 0, .iinc 4 1, 3, 4, 0, .int (1)),
  (176, 0, .goto (-65), 3, 111, 0, .null),
  (179, 0, .return_, 1, 0, 0, .null)]
abbrev id_X10_putPatched : Nat := 145
def mi_X10_putPatched : MI := (yX10_putPatched, cX10_putPatched, 5, none, 10, ct_X10_putPatched)
theorem fe_X10_putPatched_0 : mj_f mi_X10_putPatched 0 = some (.aload_n 1, 1, 1, 0, .null) := by decide +kernel
theorem fe_X10_putPatched_1 : mj_f mi_X10_putPatched 1 = some (.iconst 2, 1, 0, 0, .int (2)) := by decide +kernel
theorem fe_X10_putPatched_2 : mj_f mi_X10_putPatched 2 = some (.invokevirtual 85, 3, 14, 1, .null) := by decide +kernel
theorem fe_X10_putPatched_5 : mj_f mi_X10_putPatched 5 = some (.aload_n 1, 1, 1, 0, .null) := by decide +kernel
theorem fe_X10_putPatched_6 : mj_f mi_X10_putPatched 6 = some (.aload_n 0, 1, 0, 0, .null) := by decide +kernel
theorem fe_X10_putPatched_7 : mj_f mi_X10_putPatched 7 = some (.getfield 25, 3, 10, 2, .null) := by decide +kernel
theorem fe_X10_putPatched_10 : mj_f mi_X10_putPatched 10 = some (.invokevirtual 148, 3, 59, 0, .null) := by decide +kernel
theorem fe_X10_putPatched_13 : mj_f mi_X10_putPatched 13 = some (.invokestatic 144, 3, 174, 1, .int 1) := by decide +kernel
theorem fe_X10_putPatched_16 : mj_f mi_X10_putPatched 16 = some (.invokevirtual 117, 3, 17, 1, .null) := by decide +kernel
theorem fe_X10_putPatched_19 : mj_f mi_X10_putPatched 19 = some (.aload_n 1, 1, 1, 0, .null) := by decide +kernel
theorem fe_X10_putPatched_20 : mj_f mi_X10_putPatched 20 = some (.aload_n 0, 1, 0, 0, .null) := by decide +kernel
theorem fe_X10_putPatched_21 : mj_f mi_X10_putPatched 21 = some (.getfield 25, 3, 10, 2, .null) := by decide +kernel
theorem fe_X10_putPatched_24 : mj_f mi_X10_putPatched 24 = some (.invokevirtual 151, 3, 60, 0, .null) := by decide +kernel
theorem fe_X10_putPatched_27 : mj_f mi_X10_putPatched 27 = some (.invokevirtual 85, 3, 14, 1, .null) := by decide +kernel
theorem fe_X10_putPatched_30 : mj_f mi_X10_putPatched 30 = some (.aload_n 1, 1, 1, 0, .null) := by decide +kernel
theorem fe_X10_putPatched_31 : mj_f mi_X10_putPatched 31 = some (.aload_n 0, 1, 0, 0, .null) := by decide +kernel
theorem fe_X10_putPatched_32 : mj_f mi_X10_putPatched 32 = some (.getfield 25, 3, 10, 2, .null) := by decide +kernel
theorem fe_X10_putPatched_35 : mj_f mi_X10_putPatched 35 = some (.invokevirtual 153, 3, 61, 0, .null) := by decide +kernel
theorem fe_X10_putPatched_38 : mj_f mi_X10_putPatched 38 = some (.invokevirtual 85, 3, 14, 1, .null) := by decide +kernel
theorem fe_X10_putPatched_41 : mj_f mi_X10_putPatched 41 = some (.iconst 0, 1, 0, 0, .int (0)) := by decide +kernel
theorem fe_X10_putPatched_42 : mj_f mi_X10_putPatched 42 = some (.istore_n 3, 1, 3, 0, .null) := by decide +kernel
theorem fe_X10_putPatched_43 : mj_f mi_X10_putPatched 43 = some (.iload_n 3, 1, 3, 0, .null) := by decide +kernel
theorem fe_X10_putPatched_44 : mj_f mi_X10_putPatched 44 = some (.aload_n 2, 1, 2, 0, .null) := by decide +kernel
theorem fe_X10_putPatched_45 : mj_f mi_X10_putPatched 45 = some (.invokevirtual 112, 3, 108, 0, .null) := by decide +kernel
theorem fe_X10_putPatched_48 : mj_f mi_X10_putPatched 48 = some (.if_icmp .ge 41, 3, 89, 0, .null) := by decide +kernel
theorem fe_X10_putPatched_51 : mj_f mi_X10_putPatched 51 = some (.aload_n 0, 1, 0, 0, .null) := by decide +kernel
theorem fe_X10_putPatched_52 : mj_f mi_X10_putPatched 52 = some (.getfield 25, 3, 10, 2, .null) := by decide +kernel
theorem fe_X10_putPatched_55 : mj_f mi_X10_putPatched 55 = some (.aload_n 2, 1, 2, 0, .null) := by decide +kernel
theorem fe_X10_putPatched_56 : mj_f mi_X10_putPatched 56 = some (.iload_n 3, 1, 3, 0, .null) := by decide +kernel
theorem fe_X10_putPatched_57 : mj_f mi_X10_putPatched 57 = some (.invokevirtual 130, 3, 109, 1, .null) := by decide +kernel
theorem fe_X10_putPatched_60 : mj_f mi_X10_putPatched 60 = some (.invokevirtual 156, 3, 66, 1, .null) := by decide +kernel
theorem fe_X10_putPatched_63 : mj_f mi_X10_putPatched 63 = some (.ifCond .ne 20, 3, 83, 0, .null) := by decide +kernel
theorem fe_X10_putPatched_66 : mj_f mi_X10_putPatched 66 = some (.aload_n 1, 1, 1, 0, .null) := by decide +kernel
theorem fe_X10_putPatched_67 : mj_f mi_X10_putPatched 67 = some (.iload_n 3, 1, 3, 0, .null) := by decide +kernel
theorem fe_X10_putPatched_68 : mj_f mi_X10_putPatched 68 = some (.invokevirtual 85, 3, 14, 1, .null) := by decide +kernel
theorem fe_X10_putPatched_71 : mj_f mi_X10_putPatched 71 = some (.aload_n 1, 1, 1, 0, .null) := by decide +kernel
theorem fe_X10_putPatched_72 : mj_f mi_X10_putPatched 72 = some (.aload_n 2, 1, 2, 0, .null) := by decide +kernel
theorem fe_X10_putPatched_73 : mj_f mi_X10_putPatched 73 = some (.iload_n 3, 1, 3, 0, .null) := by decide +kernel
theorem fe_X10_putPatched_74 : mj_f mi_X10_putPatched 74 = some (.invokevirtual 130, 3, 109, 1, .null) := by decide +kernel
theorem fe_X10_putPatched_77 : mj_f mi_X10_putPatched 77 = some (.invokestatic 144, 3, 174, 1, .int 1) := by decide +kernel
theorem fe_X10_putPatched_80 : mj_f mi_X10_putPatched 80 = some (.invokevirtual 117, 3, 17, 1, .null) := by decide +kernel
theorem fe_X10_putPatched_83 : mj_f mi_X10_putPatched 83 = some (.iinc 3 1, 3, 3, 0, .int (1)) := by decide +kernel
theorem fe_X10_putPatched_86 : mj_f mi_X10_putPatched 86 = some (.goto (-43), 3, 43, 0, .null) := by decide +kernel
theorem fe_X10_putPatched_89 : mj_f mi_X10_putPatched 89 = some (.aload_n 1, 1, 1, 0, .null) := by decide +kernel
theorem fe_X10_putPatched_90 : mj_f mi_X10_putPatched 90 = some (.aload_n 2, 1, 2, 0, .null) := by decide +kernel
theorem fe_X10_putPatched_91 : mj_f mi_X10_putPatched 91 = some (.invokevirtual 112, 3, 108, 0, .null) := by decide +kernel
theorem fe_X10_putPatched_94 : mj_f mi_X10_putPatched 94 = some (.aload_n 0, 1, 0, 0, .null) := by decide +kernel
theorem fe_X10_putPatched_95 : mj_f mi_X10_putPatched 95 = some (.getfield 25, 3, 10, 2, .null) := by decide +kernel
theorem fe_X10_putPatched_98 : mj_f mi_X10_putPatched 98 = some (.invokevirtual 151, 3, 60, 0, .null) := by decide +kernel
theorem fe_X10_putPatched_101 : mj_f mi_X10_putPatched 101 = some (.invokestatic 99, 3, 177, 2, .int 1) := by decide +kernel
theorem fe_X10_putPatched_104 : mj_f mi_X10_putPatched 104 = some (.invokevirtual 102, 3, 18, 1, .null) := by decide +kernel
theorem fe_X10_putPatched_107 : mj_f mi_X10_putPatched 107 = some (.istore_n 3, 1, 3, 0, .null) := by decide +kernel
theorem fe_X10_putPatched_108 : mj_f mi_X10_putPatched 108 = some (.iconst 0, 1, 0, 0, .int (0)) := by decide +kernel
theorem fe_X10_putPatched_109 : mj_f mi_X10_putPatched 109 = some (.istore 4, 2, 4, 0, .null) := by decide +kernel
theorem fe_X10_putPatched_111 : mj_f mi_X10_putPatched 111 = some (.iload 4, 2, 4, 0, .null) := by decide +kernel
theorem fe_X10_putPatched_113 : mj_f mi_X10_putPatched 113 = some (.aload_n 2, 1, 2, 0, .null) := by decide +kernel
theorem fe_X10_putPatched_114 : mj_f mi_X10_putPatched 114 = some (.invokevirtual 112, 3, 108, 0, .null) := by decide +kernel
theorem fe_X10_putPatched_117 : mj_f mi_X10_putPatched 117 = some (.if_icmp .ge 62, 3, 179, 0, .null) := by decide +kernel
theorem fe_X10_putPatched_120 : mj_f mi_X10_putPatched 120 = some (.aload_n 0, 1, 0, 0, .null) := by decide +kernel
theorem fe_X10_putPatched_121 : mj_f mi_X10_putPatched 121 = some (.getfield 25, 3, 10, 2, .null) := by decide +kernel
theorem fe_X10_putPatched_124 : mj_f mi_X10_putPatched 124 = some (.aload_n 2, 1, 2, 0, .null) := by decide +kernel
theorem fe_X10_putPatched_125 : mj_f mi_X10_putPatched 125 = some (.iload 4, 2, 4, 0, .null) := by decide +kernel
theorem fe_X10_putPatched_127 : mj_f mi_X10_putPatched 127 = some (.invokevirtual 130, 3, 109, 1, .null) := by decide +kernel
theorem fe_X10_putPatched_130 : mj_f mi_X10_putPatched 130 = some (.invokevirtual 156, 3, 66, 1, .null) := by decide +kernel
theorem fe_X10_putPatched_133 : mj_f mi_X10_putPatched 133 = some (.ifCond .eq 40, 3, 173, 0, .null) := by decide +kernel
theorem fe_X10_putPatched_136 : mj_f mi_X10_putPatched 136 = some (.aload_n 1, 1, 1, 0, .null) := by decide +kernel
theorem fe_X10_putPatched_137 : mj_f mi_X10_putPatched 137 = some (.iload_n 3, 1, 3, 0, .null) := by decide +kernel
theorem fe_X10_putPatched_138 : mj_f mi_X10_putPatched 138 = some (.iload 4, 2, 4, 0, .null) := by decide +kernel
theorem fe_X10_putPatched_140 : mj_f mi_X10_putPatched 140 = some (.aload_n 0, 1, 0, 0, .null) := by decide +kernel
theorem fe_X10_putPatched_141 : mj_f mi_X10_putPatched 141 = some (.getfield 25, 3, 10, 2, .null) := by decide +kernel
theorem fe_X10_putPatched_144 : mj_f mi_X10_putPatched 144 = some (.invokevirtual 151, 3, 60, 0, .null) := by decide +kernel
theorem fe_X10_putPatched_147 : mj_f mi_X10_putPatched 147 = some (.imul, 1, 0, 0, .null) := by decide +kernel
theorem fe_X10_putPatched_148 : mj_f mi_X10_putPatched 148 = some (.iadd, 1, 0, 0, .null) := by decide +kernel
theorem fe_X10_putPatched_149 : mj_f mi_X10_putPatched 149 = some (.aload_n 0, 1, 0, 0, .null) := by decide +kernel
theorem fe_X10_putPatched_150 : mj_f mi_X10_putPatched 150 = some (.getfield 25, 3, 10, 2, .null) := by decide +kernel
theorem fe_X10_putPatched_153 : mj_f mi_X10_putPatched 153 = some (.invokevirtual 151, 3, 60, 0, .null) := by decide +kernel
theorem fe_X10_putPatched_156 : mj_f mi_X10_putPatched 156 = some (.aload_n 2, 1, 2, 0, .null) := by decide +kernel
theorem fe_X10_putPatched_157 : mj_f mi_X10_putPatched 157 = some (.iload 4, 2, 4, 0, .null) := by decide +kernel
theorem fe_X10_putPatched_159 : mj_f mi_X10_putPatched 159 = some (.invokevirtual 130, 3, 109, 1, .null) := by decide +kernel
theorem fe_X10_putPatched_162 : mj_f mi_X10_putPatched 162 = some (.aload_n 0, 1, 0, 0, .null) := by decide +kernel
theorem fe_X10_putPatched_163 : mj_f mi_X10_putPatched 163 = some (.getfield 25, 3, 10, 2, .null) := by decide +kernel
theorem fe_X10_putPatched_166 : mj_f mi_X10_putPatched 166 = some (.invokevirtual 148, 3, 59, 0, .null) := by decide +kernel
theorem fe_X10_putPatched_169 : mj_f mi_X10_putPatched 169 = some (.lsub, 1, 0, 0, .null) := by decide +kernel
theorem fe_X10_putPatched_170 : mj_f mi_X10_putPatched 170 = some (.invokevirtual 108, 3, 19, 3, .null) := by decide +kernel
theorem fe_X10_putPatched_173 : mj_f mi_X10_putPatched 173 = some (.iinc 4 1, 3, 4, 0, .int (1)) := by decide +kernel
theorem fe_X10_putPatched_176 : mj_f mi_X10_putPatched 176 = some (.goto (-65), 3, 111, 0, .null) := by decide +kernel
theorem fe_X10_putPatched_179 : mj_f mi_X10_putPatched 179 = some (.return_, 1, 0, 0, .null) := by decide +kernel
def ct_X10_putRanks : MJT := [
  (0, 0, .aload_n 2, 1, 2, 0, .null),
  (1, 931, .invokevirtual 160, 3, 110, 0, .null),
  (4, 0, .i2l, 1, 0, 0, .null),
  (5, 0, .lconst 1, 1, 0, 0, .long 1),
  (6, 0, .lsub, 1, 0, 0, .null),
  (7, 932, .invokestatic 163, 3, 173, 1, .int 1),
  (10, 0, .istore_n 3, 1, 3, 0, .null),
  (11, 0, .aload_n 1, 1, 1, 0, .null),
  (12, 0, .aload_n 2, 1, 2, 0, .null),
  (13, 881, .invokevirtual 112, 3, 108, 0, .null),
  (16, 0, .iload_n 3, 1, 3, 0, .null),
  (17, 860, .invokestatic 99, 3, 177, 2, .int 1),
  (20, 861, .invokevirtual 102, 3, 18, 1, .null),
  (23, 0, .istore 4, 2, 4, 0, .null),
  (25, 0, .iconst 0, 1, 0, 0, .int (0)),
  (26, 0, .istore 5, 2, 5, 0, .null),
  (28, 0, .iload 5, 2, 5, 0, .null),
  (30, 0, .aload_n 2, 1, 2, 0, .null),
  (31, 881, .invokevirtual 112, 3, 108, 0, .null),
  (34, 0, .if_icmp .ge 32, 3, 66, 0, .null),
  (37, 0, .aload_n 1, 1, 1, 0, .null),
  (38, 0, .iload 4, 2, 4, 0, .null),
  (40, 0, .iload 5, 2, 5, 0, .null),
  (42, 0, .iload_n 3, 1, 3, 0, .null),
  (43, 0, .imul, 1, 0, 0, .null),
  (44, 0, .iadd, 1, 0, 0, .null),
  (45, 0, .iload_n 3, 1, 3, 0, .null),
  (46, 0, .aload_n 2, 1, 2, 0, .null),
  (47, 0, .aload_n 2, 1, 2, 0, .null),
  (48, 0, .iload 5, 2, 5, 0, .null),
  (50, 899, .invokevirtual 130, 3, 109, 1, .null),
  (53, 933, .invokevirtual 166, 3, 118, 1, .null),
  (56, 0, .i2l, 1, 0, 0, .null),
  (57, 866, .invokevirtual 108, 3, 19, 3, .null),
  (60, 0, .iinc 5 1, 3, 5, 0, .int (1)),
  (63, 0, .goto (-35), 3, 28, 0, .null),
  (66, 0, .return_, 1, 0, 0, .null)]
abbrev id_X10_putRanks : Nat := 146
def mi_X10_putRanks : MI := (yX10_putRanks, cX10_putRanks, 6, none, 10, ct_X10_putRanks)
theorem fe_X10_putRanks_0 : mj_f mi_X10_putRanks 0 = some (.aload_n 2, 1, 2, 0, .null) := by decide +kernel
theorem fe_X10_putRanks_1 : mj_f mi_X10_putRanks 1 = some (.invokevirtual 160, 3, 110, 0, .null) := by decide +kernel
theorem fe_X10_putRanks_4 : mj_f mi_X10_putRanks 4 = some (.i2l, 1, 0, 0, .null) := by decide +kernel
theorem fe_X10_putRanks_5 : mj_f mi_X10_putRanks 5 = some (.lconst 1, 1, 0, 0, .long 1) := by decide +kernel
theorem fe_X10_putRanks_6 : mj_f mi_X10_putRanks 6 = some (.lsub, 1, 0, 0, .null) := by decide +kernel
theorem fe_X10_putRanks_7 : mj_f mi_X10_putRanks 7 = some (.invokestatic 163, 3, 173, 1, .int 1) := by decide +kernel
theorem fe_X10_putRanks_10 : mj_f mi_X10_putRanks 10 = some (.istore_n 3, 1, 3, 0, .null) := by decide +kernel
theorem fe_X10_putRanks_11 : mj_f mi_X10_putRanks 11 = some (.aload_n 1, 1, 1, 0, .null) := by decide +kernel
theorem fe_X10_putRanks_12 : mj_f mi_X10_putRanks 12 = some (.aload_n 2, 1, 2, 0, .null) := by decide +kernel
theorem fe_X10_putRanks_13 : mj_f mi_X10_putRanks 13 = some (.invokevirtual 112, 3, 108, 0, .null) := by decide +kernel
theorem fe_X10_putRanks_16 : mj_f mi_X10_putRanks 16 = some (.iload_n 3, 1, 3, 0, .null) := by decide +kernel
theorem fe_X10_putRanks_17 : mj_f mi_X10_putRanks 17 = some (.invokestatic 99, 3, 177, 2, .int 1) := by decide +kernel
theorem fe_X10_putRanks_20 : mj_f mi_X10_putRanks 20 = some (.invokevirtual 102, 3, 18, 1, .null) := by decide +kernel
theorem fe_X10_putRanks_23 : mj_f mi_X10_putRanks 23 = some (.istore 4, 2, 4, 0, .null) := by decide +kernel
theorem fe_X10_putRanks_25 : mj_f mi_X10_putRanks 25 = some (.iconst 0, 1, 0, 0, .int (0)) := by decide +kernel
theorem fe_X10_putRanks_26 : mj_f mi_X10_putRanks 26 = some (.istore 5, 2, 5, 0, .null) := by decide +kernel
theorem fe_X10_putRanks_28 : mj_f mi_X10_putRanks 28 = some (.iload 5, 2, 5, 0, .null) := by decide +kernel
theorem fe_X10_putRanks_30 : mj_f mi_X10_putRanks 30 = some (.aload_n 2, 1, 2, 0, .null) := by decide +kernel
theorem fe_X10_putRanks_31 : mj_f mi_X10_putRanks 31 = some (.invokevirtual 112, 3, 108, 0, .null) := by decide +kernel
theorem fe_X10_putRanks_34 : mj_f mi_X10_putRanks 34 = some (.if_icmp .ge 32, 3, 66, 0, .null) := by decide +kernel
theorem fe_X10_putRanks_37 : mj_f mi_X10_putRanks 37 = some (.aload_n 1, 1, 1, 0, .null) := by decide +kernel
theorem fe_X10_putRanks_38 : mj_f mi_X10_putRanks 38 = some (.iload 4, 2, 4, 0, .null) := by decide +kernel
theorem fe_X10_putRanks_40 : mj_f mi_X10_putRanks 40 = some (.iload 5, 2, 5, 0, .null) := by decide +kernel
theorem fe_X10_putRanks_42 : mj_f mi_X10_putRanks 42 = some (.iload_n 3, 1, 3, 0, .null) := by decide +kernel
theorem fe_X10_putRanks_43 : mj_f mi_X10_putRanks 43 = some (.imul, 1, 0, 0, .null) := by decide +kernel
theorem fe_X10_putRanks_44 : mj_f mi_X10_putRanks 44 = some (.iadd, 1, 0, 0, .null) := by decide +kernel
theorem fe_X10_putRanks_45 : mj_f mi_X10_putRanks 45 = some (.iload_n 3, 1, 3, 0, .null) := by decide +kernel
theorem fe_X10_putRanks_46 : mj_f mi_X10_putRanks 46 = some (.aload_n 2, 1, 2, 0, .null) := by decide +kernel
theorem fe_X10_putRanks_47 : mj_f mi_X10_putRanks 47 = some (.aload_n 2, 1, 2, 0, .null) := by decide +kernel
theorem fe_X10_putRanks_48 : mj_f mi_X10_putRanks 48 = some (.iload 5, 2, 5, 0, .null) := by decide +kernel
theorem fe_X10_putRanks_50 : mj_f mi_X10_putRanks 50 = some (.invokevirtual 130, 3, 109, 1, .null) := by decide +kernel
theorem fe_X10_putRanks_53 : mj_f mi_X10_putRanks 53 = some (.invokevirtual 166, 3, 118, 1, .null) := by decide +kernel
theorem fe_X10_putRanks_56 : mj_f mi_X10_putRanks 56 = some (.i2l, 1, 0, 0, .null) := by decide +kernel
theorem fe_X10_putRanks_57 : mj_f mi_X10_putRanks 57 = some (.invokevirtual 108, 3, 19, 3, .null) := by decide +kernel
theorem fe_X10_putRanks_60 : mj_f mi_X10_putRanks 60 = some (.iinc 5 1, 3, 5, 0, .int (1)) := by decide +kernel
theorem fe_X10_putRanks_63 : mj_f mi_X10_putRanks 63 = some (.goto (-35), 3, 28, 0, .null) := by decide +kernel
theorem fe_X10_putRanks_66 : mj_f mi_X10_putRanks 66 = some (.return_, 1, 0, 0, .null) := by decide +kernel
def ct_X11_init : MJT := [
  (0, 0, .aload_n 0, 1, 0, 0, .null),
  (1, 107, .invokespecial 1, 3, 1000, 0, .null),
  (4, 0, .aload_n 0, 1, 0, 0, .null),
  (5, 0, .iconst 4, 1, 0, 0, .int (4)),
  (6, 110, .anewarray 9, 3, 2, 0, .null),
  (9, 395, .putfield 11, 3, 11, 0, .null),
  (12, 0, .aload_n 0, 1, 0, 0, .null),
  (13, 112, .new 15, 3, 1, 0, .null),
  (16, 0, .dup, 1, 0, 0, .null),
  (17, 114, .invokespecial 17, 3, 10, 0, .int 1),
  (20, 396, .putfield 18, 3, 11, 1, .null),
  (23, 0, .aload_n 0, 1, 0, 0, .null),
  (24, 126, .new 22, 3, 7, 0, .null),
  (27, 0, .dup, 1, 0, 0, .null),
  (28, 128, .invokespecial 24, 3, 83, 0, .int 1),
  (31, 397, .putfield 25, 3, 11, 2, .null),
  (34, 0, .aload_n 0, 1, 0, 0, .null),
  (35, 199, .new 29, 3, 4, 0, .null),
  (38, 0, .dup, 1, 0, 0, .null),
  (39, 201, .invokespecial 31, 3, 51, 0, .null),
  (42, 398, .putfield 32, 3, 11, 3, .null),
  (45, 0, .aload_n 0, 1, 0, 0, .null),
  (46, 285, .new 36, 3, 0, 0, .null),
  (49, 0, .dup, 1, 0, 0, .null),
  (50, 287, .invokespecial 38, 3, 0, 0, .int 1),
  (53, 399, .putfield 39, 3, 11, 4, .null),
  (56, 0, .aload_n 0, 1, 0, 0, .null),
  (57, 302, .new 43, 3, 3, 0, .null),
  (60, 0, .dup, 1, 0, 0, .null),
  (61, 303, .invokespecial 45, 3, 42, 0, .int 1),
  (64, 400, .putfield 46, 3, 11, 5, .null),
  (67, 0, .aload_n 0, 1, 0, 0, .null),
  (68, 304, .new 50, 3, 9, 0, .null),
  (71, 0, .dup, 1, 0, 0, .null),
  (72, 306, .invokespecial 52, 3, 131, 0, .int 1),
  (75, 401, .putfield 53, 3, 11, 6, .null),
  (78, 0, .aload_n 0, 1, 0, 0, .null),
  (79, 0, .iconst 0, 1, 0, 0, .int (0)),
  (80, 402, .putfield 57, 3, 11, 7, .int 0),
  (83, 0, .aload_n 0, 1, 0, 0, .null),
  (84, 0, .iconst (-1), 1, 0, 0, .int (-1)),
  (85, 403, .putfield 61, 3, 11, 8, .int 0),
  (88, 285, .new 36, 3, 0, 0, .null),
  (91, 0, .dup, 1, 0, 0, .null),
  (92, 287, .invokespecial 38, 3, 0, 0, .int 1),
  (95, 0, .astore_n 1, 1, 1, 0, .null),
  (96, 0, .iconst 0, 1, 0, 0, .int (0)),
  (97, 0, .istore_n 2, 1, 2, 0, .null),
  (98, 0, .iload_n 2, 1, 2, 0, .null),
  (99, 0, .iconst 4, 1, 0, 0, .int (4)),
  (100, 0, .if_icmp .ge 31, 3, 131, 0, .null),
  (103, 0, .aload_n 0, 1, 0, 0, .null),
  (104, 395, .getfield 11, 3, 11, 0, .null),
  (107, 0, .iload_n 2, 1, 2, 0, .null),
  (108, 110, .new 9, 3, 2, 0, .null),
  (111, 0, .dup, 1, 0, 0, .null),
  (112, 0, .aload_n 0, 1, 0, 0, .null),
  (113, 398, .getfield 32, 3, 11, 3, .null),
  (116, 0, .aload_n 0, 1, 0, 0, .null),
  (117, 397, .getfield 25, 3, 11, 2, .null),
  (120, 0, .aload_n 1, 1, 1, 0, .null),
  (121, 321, .invokespecial 64, 3, 23, 3, .null),
  (124, 0, .aastore, 1, 0, 0, .null),
  (125, 0, .iinc 2 1, 3, 2, 0, .int (1)),
  (128, 0, .goto (-30), 3, 98, 0, .null),
  (131, 0, .return_, 1, 0, 0, .null)]
abbrev id_X11_init : Nat := 147
def mi_X11_init : MI := (yX11_init, cX11_init, 3, none, 11, ct_X11_init)
theorem fe_X11_init_0 : mj_f mi_X11_init 0 = some (.aload_n 0, 1, 0, 0, .null) := by decide +kernel
theorem fe_X11_init_1 : mj_f mi_X11_init 1 = some (.invokespecial 1, 3, 1000, 0, .null) := by decide +kernel
theorem fe_X11_init_4 : mj_f mi_X11_init 4 = some (.aload_n 0, 1, 0, 0, .null) := by decide +kernel
theorem fe_X11_init_5 : mj_f mi_X11_init 5 = some (.iconst 4, 1, 0, 0, .int (4)) := by decide +kernel
theorem fe_X11_init_6 : mj_f mi_X11_init 6 = some (.anewarray 9, 3, 2, 0, .null) := by decide +kernel
theorem fe_X11_init_9 : mj_f mi_X11_init 9 = some (.putfield 11, 3, 11, 0, .null) := by decide +kernel
theorem fe_X11_init_12 : mj_f mi_X11_init 12 = some (.aload_n 0, 1, 0, 0, .null) := by decide +kernel
theorem fe_X11_init_13 : mj_f mi_X11_init 13 = some (.new 15, 3, 1, 0, .null) := by decide +kernel
theorem fe_X11_init_16 : mj_f mi_X11_init 16 = some (.dup, 1, 0, 0, .null) := by decide +kernel
theorem fe_X11_init_17 : mj_f mi_X11_init 17 = some (.invokespecial 17, 3, 10, 0, .int 1) := by decide +kernel
theorem fe_X11_init_20 : mj_f mi_X11_init 20 = some (.putfield 18, 3, 11, 1, .null) := by decide +kernel
theorem fe_X11_init_23 : mj_f mi_X11_init 23 = some (.aload_n 0, 1, 0, 0, .null) := by decide +kernel
theorem fe_X11_init_24 : mj_f mi_X11_init 24 = some (.new 22, 3, 7, 0, .null) := by decide +kernel
theorem fe_X11_init_27 : mj_f mi_X11_init 27 = some (.dup, 1, 0, 0, .null) := by decide +kernel
theorem fe_X11_init_28 : mj_f mi_X11_init 28 = some (.invokespecial 24, 3, 83, 0, .int 1) := by decide +kernel
theorem fe_X11_init_31 : mj_f mi_X11_init 31 = some (.putfield 25, 3, 11, 2, .null) := by decide +kernel
theorem fe_X11_init_34 : mj_f mi_X11_init 34 = some (.aload_n 0, 1, 0, 0, .null) := by decide +kernel
theorem fe_X11_init_35 : mj_f mi_X11_init 35 = some (.new 29, 3, 4, 0, .null) := by decide +kernel
theorem fe_X11_init_38 : mj_f mi_X11_init 38 = some (.dup, 1, 0, 0, .null) := by decide +kernel
theorem fe_X11_init_39 : mj_f mi_X11_init 39 = some (.invokespecial 31, 3, 51, 0, .null) := by decide +kernel
theorem fe_X11_init_42 : mj_f mi_X11_init 42 = some (.putfield 32, 3, 11, 3, .null) := by decide +kernel
theorem fe_X11_init_45 : mj_f mi_X11_init 45 = some (.aload_n 0, 1, 0, 0, .null) := by decide +kernel
theorem fe_X11_init_46 : mj_f mi_X11_init 46 = some (.new 36, 3, 0, 0, .null) := by decide +kernel
theorem fe_X11_init_49 : mj_f mi_X11_init 49 = some (.dup, 1, 0, 0, .null) := by decide +kernel
theorem fe_X11_init_50 : mj_f mi_X11_init 50 = some (.invokespecial 38, 3, 0, 0, .int 1) := by decide +kernel
theorem fe_X11_init_53 : mj_f mi_X11_init 53 = some (.putfield 39, 3, 11, 4, .null) := by decide +kernel
theorem fe_X11_init_56 : mj_f mi_X11_init 56 = some (.aload_n 0, 1, 0, 0, .null) := by decide +kernel
theorem fe_X11_init_57 : mj_f mi_X11_init 57 = some (.new 43, 3, 3, 0, .null) := by decide +kernel
theorem fe_X11_init_60 : mj_f mi_X11_init 60 = some (.dup, 1, 0, 0, .null) := by decide +kernel
theorem fe_X11_init_61 : mj_f mi_X11_init 61 = some (.invokespecial 45, 3, 42, 0, .int 1) := by decide +kernel
theorem fe_X11_init_64 : mj_f mi_X11_init 64 = some (.putfield 46, 3, 11, 5, .null) := by decide +kernel
theorem fe_X11_init_67 : mj_f mi_X11_init 67 = some (.aload_n 0, 1, 0, 0, .null) := by decide +kernel
theorem fe_X11_init_68 : mj_f mi_X11_init 68 = some (.new 50, 3, 9, 0, .null) := by decide +kernel
theorem fe_X11_init_71 : mj_f mi_X11_init 71 = some (.dup, 1, 0, 0, .null) := by decide +kernel
theorem fe_X11_init_72 : mj_f mi_X11_init 72 = some (.invokespecial 52, 3, 131, 0, .int 1) := by decide +kernel
theorem fe_X11_init_75 : mj_f mi_X11_init 75 = some (.putfield 53, 3, 11, 6, .null) := by decide +kernel
theorem fe_X11_init_78 : mj_f mi_X11_init 78 = some (.aload_n 0, 1, 0, 0, .null) := by decide +kernel
theorem fe_X11_init_79 : mj_f mi_X11_init 79 = some (.iconst 0, 1, 0, 0, .int (0)) := by decide +kernel
theorem fe_X11_init_80 : mj_f mi_X11_init 80 = some (.putfield 57, 3, 11, 7, .int 0) := by decide +kernel
theorem fe_X11_init_83 : mj_f mi_X11_init 83 = some (.aload_n 0, 1, 0, 0, .null) := by decide +kernel
theorem fe_X11_init_84 : mj_f mi_X11_init 84 = some (.iconst (-1), 1, 0, 0, .int (-1)) := by decide +kernel
theorem fe_X11_init_85 : mj_f mi_X11_init 85 = some (.putfield 61, 3, 11, 8, .int 0) := by decide +kernel
theorem fe_X11_init_88 : mj_f mi_X11_init 88 = some (.new 36, 3, 0, 0, .null) := by decide +kernel
theorem fe_X11_init_91 : mj_f mi_X11_init 91 = some (.dup, 1, 0, 0, .null) := by decide +kernel
theorem fe_X11_init_92 : mj_f mi_X11_init 92 = some (.invokespecial 38, 3, 0, 0, .int 1) := by decide +kernel
theorem fe_X11_init_95 : mj_f mi_X11_init 95 = some (.astore_n 1, 1, 1, 0, .null) := by decide +kernel
theorem fe_X11_init_96 : mj_f mi_X11_init 96 = some (.iconst 0, 1, 0, 0, .int (0)) := by decide +kernel
theorem fe_X11_init_97 : mj_f mi_X11_init 97 = some (.istore_n 2, 1, 2, 0, .null) := by decide +kernel
theorem fe_X11_init_98 : mj_f mi_X11_init 98 = some (.iload_n 2, 1, 2, 0, .null) := by decide +kernel
theorem fe_X11_init_99 : mj_f mi_X11_init 99 = some (.iconst 4, 1, 0, 0, .int (4)) := by decide +kernel
theorem fe_X11_init_100 : mj_f mi_X11_init 100 = some (.if_icmp .ge 31, 3, 131, 0, .null) := by decide +kernel
theorem fe_X11_init_103 : mj_f mi_X11_init 103 = some (.aload_n 0, 1, 0, 0, .null) := by decide +kernel
theorem fe_X11_init_104 : mj_f mi_X11_init 104 = some (.getfield 11, 3, 11, 0, .null) := by decide +kernel
theorem fe_X11_init_107 : mj_f mi_X11_init 107 = some (.iload_n 2, 1, 2, 0, .null) := by decide +kernel
theorem fe_X11_init_108 : mj_f mi_X11_init 108 = some (.new 9, 3, 2, 0, .null) := by decide +kernel
theorem fe_X11_init_111 : mj_f mi_X11_init 111 = some (.dup, 1, 0, 0, .null) := by decide +kernel
theorem fe_X11_init_112 : mj_f mi_X11_init 112 = some (.aload_n 0, 1, 0, 0, .null) := by decide +kernel
theorem fe_X11_init_113 : mj_f mi_X11_init 113 = some (.getfield 32, 3, 11, 3, .null) := by decide +kernel
theorem fe_X11_init_116 : mj_f mi_X11_init 116 = some (.aload_n 0, 1, 0, 0, .null) := by decide +kernel
theorem fe_X11_init_117 : mj_f mi_X11_init 117 = some (.getfield 25, 3, 11, 2, .null) := by decide +kernel
theorem fe_X11_init_120 : mj_f mi_X11_init 120 = some (.aload_n 1, 1, 1, 0, .null) := by decide +kernel
theorem fe_X11_init_121 : mj_f mi_X11_init 121 = some (.invokespecial 64, 3, 23, 3, .null) := by decide +kernel
theorem fe_X11_init_124 : mj_f mi_X11_init 124 = some (.aastore, 1, 0, 0, .null) := by decide +kernel
theorem fe_X11_init_125 : mj_f mi_X11_init 125 = some (.iinc 2 1, 3, 2, 0, .int (1)) := by decide +kernel
theorem fe_X11_init_128 : mj_f mi_X11_init 128 = some (.goto (-30), 3, 98, 0, .null) := by decide +kernel
theorem fe_X11_init_131 : mj_f mi_X11_init 131 = some (.return_, 1, 0, 0, .null) := by decide +kernel
def ct_X11_feed : MJT := [
  (0, 0, .aload_n 0, 1, 0, 0, .null),
  (1, 396, .getfield 18, 3, 11, 1, .null),
  (4, 427, .invokevirtual 67, 3, 11, 0, .null),
  (7, 0, .bipush 20, 2, 0, 0, .int (20)),
  (9, 0, .iadd, 1, 0, 0, .null),
  (10, 0, .sipush 300, 3, 0, 0, .int (300)),
  (13, 0, .if_icmp .le 5, 3, 18, 0, .null),
  (16, 0, .iconst (-1), 1, 0, 0, .int (-1)),
  (17, 0, .ireturn, 1, 0, 0, .null),
  (18, 0, .aload_n 0, 1, 0, 0, .null),
  (19, 396, .getfield 18, 3, 11, 1, .null),
  (22, 0, .iload_n 1, 1, 1, 0, .null),
  (23, 431, .invokevirtual 71, 3, 15, 1, .null),
  (26, 0, .aload_n 0, 1, 0, 0, .null),
  (27, 396, .getfield 18, 3, 11, 1, .null),
  (30, 0, .iload_n 2, 1, 2, 0, .null),
  (31, 431, .invokevirtual 71, 3, 15, 1, .null),
  (34, 0, .aload_n 0, 1, 0, 0, .null),
  (35, 396, .getfield 18, 3, 11, 1, .null),
  (38, 0, .iload_n 3, 1, 3, 0, .null),
  (39, 431, .invokevirtual 71, 3, 15, 1, .null),
  (42, 0, .aload_n 0, 1, 0, 0, .null),
  (43, 396, .getfield 18, 3, 11, 1, .null),
  (46, 0, .iload 4, 2, 4, 0, .null),
  (48, 431, .invokevirtual 71, 3, 15, 1, .null),
  (51, 0, .aload_n 0, 1, 0, 0, .null),
  (52, 396, .getfield 18, 3, 11, 1, .null),
  (55, 0, .iload 5, 2, 5, 0, .null),
  (57, 431, .invokevirtual 71, 3, 15, 1, .null),
  (60, 0, .aload_n 0, 1, 0, 0, .null),
  (61, 396, .getfield 18, 3, 11, 1, .null),
  (64, 427, .invokevirtual 67, 3, 11, 0, .null),
  (67, 0, .ireturn, 1, 0, 0, .null)]
abbrev id_X11_feed : Nat := 148
def mi_X11_feed : MI := (yX11_feed, cX11_feed, 6, (some .int), 11, ct_X11_feed)
theorem fe_X11_feed_0 : mj_f mi_X11_feed 0 = some (.aload_n 0, 1, 0, 0, .null) := by decide +kernel
theorem fe_X11_feed_1 : mj_f mi_X11_feed 1 = some (.getfield 18, 3, 11, 1, .null) := by decide +kernel
theorem fe_X11_feed_4 : mj_f mi_X11_feed 4 = some (.invokevirtual 67, 3, 11, 0, .null) := by decide +kernel
theorem fe_X11_feed_7 : mj_f mi_X11_feed 7 = some (.bipush 20, 2, 0, 0, .int (20)) := by decide +kernel
theorem fe_X11_feed_9 : mj_f mi_X11_feed 9 = some (.iadd, 1, 0, 0, .null) := by decide +kernel
theorem fe_X11_feed_10 : mj_f mi_X11_feed 10 = some (.sipush 300, 3, 0, 0, .int (300)) := by decide +kernel
theorem fe_X11_feed_13 : mj_f mi_X11_feed 13 = some (.if_icmp .le 5, 3, 18, 0, .null) := by decide +kernel
theorem fe_X11_feed_16 : mj_f mi_X11_feed 16 = some (.iconst (-1), 1, 0, 0, .int (-1)) := by decide +kernel
theorem fe_X11_feed_17 : mj_f mi_X11_feed 17 = some (.ireturn, 1, 0, 0, .null) := by decide +kernel
theorem fe_X11_feed_18 : mj_f mi_X11_feed 18 = some (.aload_n 0, 1, 0, 0, .null) := by decide +kernel
theorem fe_X11_feed_19 : mj_f mi_X11_feed 19 = some (.getfield 18, 3, 11, 1, .null) := by decide +kernel
theorem fe_X11_feed_22 : mj_f mi_X11_feed 22 = some (.iload_n 1, 1, 1, 0, .null) := by decide +kernel
theorem fe_X11_feed_23 : mj_f mi_X11_feed 23 = some (.invokevirtual 71, 3, 15, 1, .null) := by decide +kernel
theorem fe_X11_feed_26 : mj_f mi_X11_feed 26 = some (.aload_n 0, 1, 0, 0, .null) := by decide +kernel
theorem fe_X11_feed_27 : mj_f mi_X11_feed 27 = some (.getfield 18, 3, 11, 1, .null) := by decide +kernel
theorem fe_X11_feed_30 : mj_f mi_X11_feed 30 = some (.iload_n 2, 1, 2, 0, .null) := by decide +kernel
theorem fe_X11_feed_31 : mj_f mi_X11_feed 31 = some (.invokevirtual 71, 3, 15, 1, .null) := by decide +kernel
theorem fe_X11_feed_34 : mj_f mi_X11_feed 34 = some (.aload_n 0, 1, 0, 0, .null) := by decide +kernel
theorem fe_X11_feed_35 : mj_f mi_X11_feed 35 = some (.getfield 18, 3, 11, 1, .null) := by decide +kernel
theorem fe_X11_feed_38 : mj_f mi_X11_feed 38 = some (.iload_n 3, 1, 3, 0, .null) := by decide +kernel
theorem fe_X11_feed_39 : mj_f mi_X11_feed 39 = some (.invokevirtual 71, 3, 15, 1, .null) := by decide +kernel
theorem fe_X11_feed_42 : mj_f mi_X11_feed 42 = some (.aload_n 0, 1, 0, 0, .null) := by decide +kernel
theorem fe_X11_feed_43 : mj_f mi_X11_feed 43 = some (.getfield 18, 3, 11, 1, .null) := by decide +kernel
theorem fe_X11_feed_46 : mj_f mi_X11_feed 46 = some (.iload 4, 2, 4, 0, .null) := by decide +kernel
theorem fe_X11_feed_48 : mj_f mi_X11_feed 48 = some (.invokevirtual 71, 3, 15, 1, .null) := by decide +kernel
theorem fe_X11_feed_51 : mj_f mi_X11_feed 51 = some (.aload_n 0, 1, 0, 0, .null) := by decide +kernel
theorem fe_X11_feed_52 : mj_f mi_X11_feed 52 = some (.getfield 18, 3, 11, 1, .null) := by decide +kernel
theorem fe_X11_feed_55 : mj_f mi_X11_feed 55 = some (.iload 5, 2, 5, 0, .null) := by decide +kernel
theorem fe_X11_feed_57 : mj_f mi_X11_feed 57 = some (.invokevirtual 71, 3, 15, 1, .null) := by decide +kernel
theorem fe_X11_feed_60 : mj_f mi_X11_feed 60 = some (.aload_n 0, 1, 0, 0, .null) := by decide +kernel
theorem fe_X11_feed_61 : mj_f mi_X11_feed 61 = some (.getfield 18, 3, 11, 1, .null) := by decide +kernel
theorem fe_X11_feed_64 : mj_f mi_X11_feed 64 = some (.invokevirtual 67, 3, 11, 0, .null) := by decide +kernel
theorem fe_X11_feed_67 : mj_f mi_X11_feed 67 = some (.ireturn, 1, 0, 0, .null) := by decide +kernel
def ct_X11_end : MJT := [
  (0, 0, .aload_n 0, 1, 0, 0, .null),
  (1, 396, .getfield 18, 3, 11, 1, .null),
  (4, 0, .iload_n 1, 1, 1, 0, .null),
  (5, 443, .invokevirtual 75, 3, 12, 1, .null),
  (8, 0, .ireturn, 1, 0, 0, .null)]
abbrev id_X11_end : Nat := 149
def mi_X11_end : MI := (yX11_end, cX11_end, 2, (some .boolean), 11, ct_X11_end)
theorem fe_X11_end_0 : mj_f mi_X11_end 0 = some (.aload_n 0, 1, 0, 0, .null) := by decide +kernel
theorem fe_X11_end_1 : mj_f mi_X11_end 1 = some (.getfield 18, 3, 11, 1, .null) := by decide +kernel
theorem fe_X11_end_4 : mj_f mi_X11_end 4 = some (.iload_n 1, 1, 1, 0, .null) := by decide +kernel
theorem fe_X11_end_5 : mj_f mi_X11_end 5 = some (.invokevirtual 75, 3, 12, 1, .null) := by decide +kernel
theorem fe_X11_end_8 : mj_f mi_X11_end 8 = some (.ireturn, 1, 0, 0, .null) := by decide +kernel
def ct_X11_way : MJT := [
  (0, 0, .aload_n 0, 1, 0, 0, .null),
  (1, 0, .iload_n 1, 1, 1, 0, .null),
  (2, 451, .invokevirtual 79, 3, 171, 1, .null),
  (5, 0, .astore 4, 2, 4, 0, .null),
  (7, 0, .aload 4, 2, 4, 0, .null),
  (9, 0, .ifnull 25, 3, 34, 0, .null),
  (12, 0, .iload_n 2, 1, 2, 0, .null),
  (13, 0, .ifCond .lt 21, 3, 34, 0, .null),
  (16, 0, .iload_n 2, 1, 2, 0, .null),
  (17, 0, .iconst 2, 1, 0, 0, .int (2)),
  (18, 0, .if_icmp .gt 16, 3, 34, 0, .null),
  (21, 0, .iload_n 3, 1, 3, 0, .null),
  (22, 0, .bipush 32, 2, 0, 0, .int (32)),
  (24, 0, .if_icmp .lt 10, 3, 34, 0, .null),
  (27, 0, .iload_n 3, 1, 3, 0, .null),
  (28, 0, .sipush 1000, 3, 0, 0, .int (1000)),
  (31, 0, .if_icmp .le 5, 3, 36, 0, .null),
  (34, 0, .iconst 0, 1, 0, 0, .int (0)),
  (35, 0, .ireturn, 1, 0, 0, .null),
  (36, 0, .aload 4, 2, 4, 0, .null),
  (38, 0, .iload_n 2, 1, 2, 0, .null),
  (39, 0, .iload_n 3, 1, 3, 0, .null),
  (40, 455, .invokevirtual 83, 3, 31, 2, .null),
  (43, 0, .iconst 1, 1, 0, 0, .int (1)),
  (44, 0, .ireturn, 1, 0, 0, .null)]
abbrev id_X11_way : Nat := 150
def mi_X11_way : MI := (yX11_way, cX11_way, 5, (some .boolean), 11, ct_X11_way)
theorem fe_X11_way_0 : mj_f mi_X11_way 0 = some (.aload_n 0, 1, 0, 0, .null) := by decide +kernel
theorem fe_X11_way_1 : mj_f mi_X11_way 1 = some (.iload_n 1, 1, 1, 0, .null) := by decide +kernel
theorem fe_X11_way_2 : mj_f mi_X11_way 2 = some (.invokevirtual 79, 3, 171, 1, .null) := by decide +kernel
theorem fe_X11_way_5 : mj_f mi_X11_way 5 = some (.astore 4, 2, 4, 0, .null) := by decide +kernel
theorem fe_X11_way_7 : mj_f mi_X11_way 7 = some (.aload 4, 2, 4, 0, .null) := by decide +kernel
theorem fe_X11_way_9 : mj_f mi_X11_way 9 = some (.ifnull 25, 3, 34, 0, .null) := by decide +kernel
theorem fe_X11_way_12 : mj_f mi_X11_way 12 = some (.iload_n 2, 1, 2, 0, .null) := by decide +kernel
theorem fe_X11_way_13 : mj_f mi_X11_way 13 = some (.ifCond .lt 21, 3, 34, 0, .null) := by decide +kernel
theorem fe_X11_way_16 : mj_f mi_X11_way 16 = some (.iload_n 2, 1, 2, 0, .null) := by decide +kernel
theorem fe_X11_way_17 : mj_f mi_X11_way 17 = some (.iconst 2, 1, 0, 0, .int (2)) := by decide +kernel
theorem fe_X11_way_18 : mj_f mi_X11_way 18 = some (.if_icmp .gt 16, 3, 34, 0, .null) := by decide +kernel
theorem fe_X11_way_21 : mj_f mi_X11_way 21 = some (.iload_n 3, 1, 3, 0, .null) := by decide +kernel
theorem fe_X11_way_22 : mj_f mi_X11_way 22 = some (.bipush 32, 2, 0, 0, .int (32)) := by decide +kernel
theorem fe_X11_way_24 : mj_f mi_X11_way 24 = some (.if_icmp .lt 10, 3, 34, 0, .null) := by decide +kernel
theorem fe_X11_way_27 : mj_f mi_X11_way 27 = some (.iload_n 3, 1, 3, 0, .null) := by decide +kernel
theorem fe_X11_way_28 : mj_f mi_X11_way 28 = some (.sipush 1000, 3, 0, 0, .int (1000)) := by decide +kernel
theorem fe_X11_way_31 : mj_f mi_X11_way 31 = some (.if_icmp .le 5, 3, 36, 0, .null) := by decide +kernel
theorem fe_X11_way_34 : mj_f mi_X11_way 34 = some (.iconst 0, 1, 0, 0, .int (0)) := by decide +kernel
theorem fe_X11_way_35 : mj_f mi_X11_way 35 = some (.ireturn, 1, 0, 0, .null) := by decide +kernel
theorem fe_X11_way_36 : mj_f mi_X11_way 36 = some (.aload 4, 2, 4, 0, .null) := by decide +kernel
theorem fe_X11_way_38 : mj_f mi_X11_way 38 = some (.iload_n 2, 1, 2, 0, .null) := by decide +kernel
theorem fe_X11_way_39 : mj_f mi_X11_way 39 = some (.iload_n 3, 1, 3, 0, .null) := by decide +kernel
theorem fe_X11_way_40 : mj_f mi_X11_way 40 = some (.invokevirtual 83, 3, 31, 2, .null) := by decide +kernel
theorem fe_X11_way_43 : mj_f mi_X11_way 43 = some (.iconst 1, 1, 0, 0, .int (1)) := by decide +kernel
theorem fe_X11_way_44 : mj_f mi_X11_way 44 = some (.ireturn, 1, 0, 0, .null) := by decide +kernel
def ct_X11_value : MJT := [
  (0, 0, .aload_n 0, 1, 0, 0, .null),
  (1, 0, .iload_n 1, 1, 1, 0, .null),
  (2, 451, .invokevirtual 79, 3, 171, 1, .null),
  (5, 0, .astore 4, 2, 4, 0, .null),
  (7, 0, .aload 4, 2, 4, 0, .null),
  (9, 0, .ifnonnull 7, 3, 16, 0, .null),
  (12, 0, .iconst (-1), 1, 0, 0, .int (-1)),
  (13, 0, .goto 10, 3, 23, 0, .null),
  (16, 0, .aload 4, 2, 4, 0, .null),
  (18, 0, .iconst 0, 1, 0, 0, .int (0)),
  (19, 0, .lload_n 2, 1, 2, 0, .null),
  (20, 463, .invokevirtual 87, 3, 34, 2, .null),
  (23, 0, .ireturn, 1, 0, 0, .null)]
abbrev id_X11_value : Nat := 151
def mi_X11_value : MI := (yX11_value, cX11_value, 5, (some .int), 11, ct_X11_value)
theorem fe_X11_value_0 : mj_f mi_X11_value 0 = some (.aload_n 0, 1, 0, 0, .null) := by decide +kernel
theorem fe_X11_value_1 : mj_f mi_X11_value 1 = some (.iload_n 1, 1, 1, 0, .null) := by decide +kernel
theorem fe_X11_value_2 : mj_f mi_X11_value 2 = some (.invokevirtual 79, 3, 171, 1, .null) := by decide +kernel
theorem fe_X11_value_5 : mj_f mi_X11_value 5 = some (.astore 4, 2, 4, 0, .null) := by decide +kernel
theorem fe_X11_value_7 : mj_f mi_X11_value 7 = some (.aload 4, 2, 4, 0, .null) := by decide +kernel
theorem fe_X11_value_9 : mj_f mi_X11_value 9 = some (.ifnonnull 7, 3, 16, 0, .null) := by decide +kernel
theorem fe_X11_value_12 : mj_f mi_X11_value 12 = some (.iconst (-1), 1, 0, 0, .int (-1)) := by decide +kernel
theorem fe_X11_value_13 : mj_f mi_X11_value 13 = some (.goto 10, 3, 23, 0, .null) := by decide +kernel
theorem fe_X11_value_16 : mj_f mi_X11_value 16 = some (.aload 4, 2, 4, 0, .null) := by decide +kernel
theorem fe_X11_value_18 : mj_f mi_X11_value 18 = some (.iconst 0, 1, 0, 0, .int (0)) := by decide +kernel
theorem fe_X11_value_19 : mj_f mi_X11_value 19 = some (.lload_n 2, 1, 2, 0, .null) := by decide +kernel
theorem fe_X11_value_20 : mj_f mi_X11_value 20 = some (.invokevirtual 87, 3, 34, 2, .null) := by decide +kernel
theorem fe_X11_value_23 : mj_f mi_X11_value 23 = some (.ireturn, 1, 0, 0, .null) := by decide +kernel
def ct_X11_missing : MJT := [
  (0, 0, .aload_n 0, 1, 0, 0, .null),
  (1, 0, .iload_n 1, 1, 1, 0, .null),
  (2, 451, .invokevirtual 79, 3, 171, 1, .null),
  (5, 0, .astore_n 2, 1, 2, 0, .null),
  (6, 0, .aload_n 2, 1, 2, 0, .null),
  (7, 0, .ifnonnull 7, 3, 14, 0, .null),
  (10, 0, .iconst (-1), 1, 0, 0, .int (-1)),
  (11, 0, .goto 9, 3, 20, 0, .null),
  (14, 0, .aload_n 2, 1, 2, 0, .null),
  (15, 0, .iconst 1, 1, 0, 0, .int (1)),
  (16, 0, .lconst 0, 1, 0, 0, .long 0),
  (17, 463, .invokevirtual 87, 3, 34, 2, .null),
  (20, 0, .ireturn, 1, 0, 0, .null)]
abbrev id_X11_missing : Nat := 152
def mi_X11_missing : MI := (yX11_missing, cX11_missing, 3, (some .int), 11, ct_X11_missing)
theorem fe_X11_missing_0 : mj_f mi_X11_missing 0 = some (.aload_n 0, 1, 0, 0, .null) := by decide +kernel
theorem fe_X11_missing_1 : mj_f mi_X11_missing 1 = some (.iload_n 1, 1, 1, 0, .null) := by decide +kernel
theorem fe_X11_missing_2 : mj_f mi_X11_missing 2 = some (.invokevirtual 79, 3, 171, 1, .null) := by decide +kernel
theorem fe_X11_missing_5 : mj_f mi_X11_missing 5 = some (.astore_n 2, 1, 2, 0, .null) := by decide +kernel
theorem fe_X11_missing_6 : mj_f mi_X11_missing 6 = some (.aload_n 2, 1, 2, 0, .null) := by decide +kernel
theorem fe_X11_missing_7 : mj_f mi_X11_missing 7 = some (.ifnonnull 7, 3, 14, 0, .null) := by decide +kernel
theorem fe_X11_missing_10 : mj_f mi_X11_missing 10 = some (.iconst (-1), 1, 0, 0, .int (-1)) := by decide +kernel
theorem fe_X11_missing_11 : mj_f mi_X11_missing 11 = some (.goto 9, 3, 20, 0, .null) := by decide +kernel
theorem fe_X11_missing_14 : mj_f mi_X11_missing 14 = some (.aload_n 2, 1, 2, 0, .null) := by decide +kernel
theorem fe_X11_missing_15 : mj_f mi_X11_missing 15 = some (.iconst 1, 1, 0, 0, .int (1)) := by decide +kernel
theorem fe_X11_missing_16 : mj_f mi_X11_missing 16 = some (.lconst 0, 1, 0, 0, .long 0) := by decide +kernel
theorem fe_X11_missing_17 : mj_f mi_X11_missing 17 = some (.invokevirtual 87, 3, 34, 2, .null) := by decide +kernel
theorem fe_X11_missing_20 : mj_f mi_X11_missing 20 = some (.ireturn, 1, 0, 0, .null) := by decide +kernel
def ct_X11_sow : MJT := [
  (0, 0, .aload_n 0, 1, 0, 0, .null),
  (1, 0, .iload_n 1, 1, 1, 0, .null),
  (2, 451, .invokevirtual 79, 3, 171, 1, .null),
  (5, 0, .astore 11, 2, 11, 0, .null),
  (7, 0, .aload 11, 2, 11, 0, .null),
  (9, 0, .ifnull 40, 3, 49, 0, .null),
  (12, 0, .iload_n 2, 1, 2, 0, .null),
  (13, 0, .iconst 1, 1, 0, 0, .int (1)),
  (14, 0, .if_icmp .lt 35, 3, 49, 0, .null),
  (17, 0, .iload_n 2, 1, 2, 0, .null),
  (18, 0, .bipush 64, 2, 0, 0, .int (64)),
  (20, 0, .if_icmp .gt 29, 3, 49, 0, .null),
  (23, 0, .iload 8, 2, 8, 0, .null),
  (25, 0, .iconst 1, 1, 0, 0, .int (1)),
  (26, 0, .if_icmp .lt 23, 3, 49, 0, .null),
  (29, 0, .iload 8, 2, 8, 0, .null),
  (31, 961, .ldc 91, 2, 0, 0, .int (1000000)),
  (33, 0, .if_icmp .gt 16, 3, 49, 0, .null),
  (36, 0, .aload 11, 2, 11, 0, .null),
  (38, 962, .invokevirtual 92, 3, 24, 0, .null),
  (41, 0, .iload_n 2, 1, 2, 0, .null),
  (42, 0, .iadd, 1, 0, 0, .null),
  (43, 0, .sipush 160, 3, 0, 0, .int (160)),
  (46, 0, .if_icmp .le 5, 3, 51, 0, .null),
  (49, 0, .iconst (-1), 1, 0, 0, .int (-1)),
  (50, 0, .ireturn, 1, 0, 0, .null),
  (51, 0, .iload_n 3, 1, 3, 0, .null),
  (52, 0, .istore 12, 2, 12, 0, .null),
  (54, 0, .iconst 0, 1, 0, 0, .int (0)),
  (55, 0, .istore 13, 2, 13, 0, .null),
  (57, 0, .iload 13, 2, 13, 0, .null),
  (59, 0, .iload_n 2, 1, 2, 0, .null),
  (60, 0, .if_icmp .ge 49, 3, 109, 0, .null),
  (63, 966, .ldc 93, 2, 0, 0, .int (1103515245)),
  (65, 0, .iload 12, 2, 12, 0, .null),
  (67, 0, .imul, 1, 0, 0, .null),
  (68, 0, .sipush 12345, 3, 0, 0, .int (12345)),
  (71, 0, .iadd, 1, 0, 0, .null),
  (72, 0, .istore 12, 2, 12, 0, .null),
  (74, 0, .aload 11, 2, 11, 0, .null),
  (76, 0, .iconst 0, 1, 0, 0, .int (0)),
  (77, 0, .lload 4, 2, 4, 0, .null),
  (79, 0, .lload 6, 2, 6, 0, .null),
  (81, 0, .iload 13, 2, 13, 0, .null),
  (83, 0, .i2l, 1, 0, 0, .null),
  (84, 0, .lmul, 1, 0, 0, .null),
  (85, 0, .ladd, 1, 0, 0, .null),
  (86, 0, .iload 12, 2, 12, 0, .null),
  (88, 0, .bipush 8, 2, 0, 0, .int (8)),
  (90, 0, .iushr, 1, 0, 0, .null),
  (91, 0, .iload 8, 2, 8, 0, .null),
  (93, 0, .irem, 1, 0, 0, .null),
  (94, 0, .i2l, 1, 0, 0, .null),
  (95, 0, .lload 9, 2, 9, 0, .null),
  (97, 0, .lmul, 1, 0, 0, .null),
  (98, 0, .ladd, 1, 0, 0, .null),
  (99, 463, .invokevirtual 87, 3, 34, 2, .null),
  (102, 0, .pop, 1, 0, 0, .null),
  (103, 0, .iinc 13 1, 3, 13, 0, .int (1)),
  (106, 0, .goto (-49), 3, 57, 0, .null),
  (109, 0, .aload 11, 2, 11, 0, .null),
  (111, 962, .invokevirtual 92, 3, 24, 0, .null),
  (114, 0, .ireturn, 1, 0, 0, .null)]
abbrev id_X11_sow : Nat := 153
def mi_X11_sow : MI := (yX11_sow, cX11_sow, 14, (some .int), 11, ct_X11_sow)
theorem fe_X11_sow_0 : mj_f mi_X11_sow 0 = some (.aload_n 0, 1, 0, 0, .null) := by decide +kernel
theorem fe_X11_sow_1 : mj_f mi_X11_sow 1 = some (.iload_n 1, 1, 1, 0, .null) := by decide +kernel
theorem fe_X11_sow_2 : mj_f mi_X11_sow 2 = some (.invokevirtual 79, 3, 171, 1, .null) := by decide +kernel
theorem fe_X11_sow_5 : mj_f mi_X11_sow 5 = some (.astore 11, 2, 11, 0, .null) := by decide +kernel
theorem fe_X11_sow_7 : mj_f mi_X11_sow 7 = some (.aload 11, 2, 11, 0, .null) := by decide +kernel
theorem fe_X11_sow_9 : mj_f mi_X11_sow 9 = some (.ifnull 40, 3, 49, 0, .null) := by decide +kernel
theorem fe_X11_sow_12 : mj_f mi_X11_sow 12 = some (.iload_n 2, 1, 2, 0, .null) := by decide +kernel
theorem fe_X11_sow_13 : mj_f mi_X11_sow 13 = some (.iconst 1, 1, 0, 0, .int (1)) := by decide +kernel
theorem fe_X11_sow_14 : mj_f mi_X11_sow 14 = some (.if_icmp .lt 35, 3, 49, 0, .null) := by decide +kernel
theorem fe_X11_sow_17 : mj_f mi_X11_sow 17 = some (.iload_n 2, 1, 2, 0, .null) := by decide +kernel
theorem fe_X11_sow_18 : mj_f mi_X11_sow 18 = some (.bipush 64, 2, 0, 0, .int (64)) := by decide +kernel
theorem fe_X11_sow_20 : mj_f mi_X11_sow 20 = some (.if_icmp .gt 29, 3, 49, 0, .null) := by decide +kernel
theorem fe_X11_sow_23 : mj_f mi_X11_sow 23 = some (.iload 8, 2, 8, 0, .null) := by decide +kernel
theorem fe_X11_sow_25 : mj_f mi_X11_sow 25 = some (.iconst 1, 1, 0, 0, .int (1)) := by decide +kernel
theorem fe_X11_sow_26 : mj_f mi_X11_sow 26 = some (.if_icmp .lt 23, 3, 49, 0, .null) := by decide +kernel
theorem fe_X11_sow_29 : mj_f mi_X11_sow 29 = some (.iload 8, 2, 8, 0, .null) := by decide +kernel
theorem fe_X11_sow_31 : mj_f mi_X11_sow 31 = some (.ldc 91, 2, 0, 0, .int (1000000)) := by decide +kernel
theorem fe_X11_sow_33 : mj_f mi_X11_sow 33 = some (.if_icmp .gt 16, 3, 49, 0, .null) := by decide +kernel
theorem fe_X11_sow_36 : mj_f mi_X11_sow 36 = some (.aload 11, 2, 11, 0, .null) := by decide +kernel
theorem fe_X11_sow_38 : mj_f mi_X11_sow 38 = some (.invokevirtual 92, 3, 24, 0, .null) := by decide +kernel
theorem fe_X11_sow_41 : mj_f mi_X11_sow 41 = some (.iload_n 2, 1, 2, 0, .null) := by decide +kernel
theorem fe_X11_sow_42 : mj_f mi_X11_sow 42 = some (.iadd, 1, 0, 0, .null) := by decide +kernel
theorem fe_X11_sow_43 : mj_f mi_X11_sow 43 = some (.sipush 160, 3, 0, 0, .int (160)) := by decide +kernel
theorem fe_X11_sow_46 : mj_f mi_X11_sow 46 = some (.if_icmp .le 5, 3, 51, 0, .null) := by decide +kernel
theorem fe_X11_sow_49 : mj_f mi_X11_sow 49 = some (.iconst (-1), 1, 0, 0, .int (-1)) := by decide +kernel
theorem fe_X11_sow_50 : mj_f mi_X11_sow 50 = some (.ireturn, 1, 0, 0, .null) := by decide +kernel
theorem fe_X11_sow_51 : mj_f mi_X11_sow 51 = some (.iload_n 3, 1, 3, 0, .null) := by decide +kernel
theorem fe_X11_sow_52 : mj_f mi_X11_sow 52 = some (.istore 12, 2, 12, 0, .null) := by decide +kernel
theorem fe_X11_sow_54 : mj_f mi_X11_sow 54 = some (.iconst 0, 1, 0, 0, .int (0)) := by decide +kernel
theorem fe_X11_sow_55 : mj_f mi_X11_sow 55 = some (.istore 13, 2, 13, 0, .null) := by decide +kernel
theorem fe_X11_sow_57 : mj_f mi_X11_sow 57 = some (.iload 13, 2, 13, 0, .null) := by decide +kernel
theorem fe_X11_sow_59 : mj_f mi_X11_sow 59 = some (.iload_n 2, 1, 2, 0, .null) := by decide +kernel
theorem fe_X11_sow_60 : mj_f mi_X11_sow 60 = some (.if_icmp .ge 49, 3, 109, 0, .null) := by decide +kernel
theorem fe_X11_sow_63 : mj_f mi_X11_sow 63 = some (.ldc 93, 2, 0, 0, .int (1103515245)) := by decide +kernel
theorem fe_X11_sow_65 : mj_f mi_X11_sow 65 = some (.iload 12, 2, 12, 0, .null) := by decide +kernel
theorem fe_X11_sow_67 : mj_f mi_X11_sow 67 = some (.imul, 1, 0, 0, .null) := by decide +kernel
theorem fe_X11_sow_68 : mj_f mi_X11_sow 68 = some (.sipush 12345, 3, 0, 0, .int (12345)) := by decide +kernel
theorem fe_X11_sow_71 : mj_f mi_X11_sow 71 = some (.iadd, 1, 0, 0, .null) := by decide +kernel
theorem fe_X11_sow_72 : mj_f mi_X11_sow 72 = some (.istore 12, 2, 12, 0, .null) := by decide +kernel
theorem fe_X11_sow_74 : mj_f mi_X11_sow 74 = some (.aload 11, 2, 11, 0, .null) := by decide +kernel
theorem fe_X11_sow_76 : mj_f mi_X11_sow 76 = some (.iconst 0, 1, 0, 0, .int (0)) := by decide +kernel
theorem fe_X11_sow_77 : mj_f mi_X11_sow 77 = some (.lload 4, 2, 4, 0, .null) := by decide +kernel
theorem fe_X11_sow_79 : mj_f mi_X11_sow 79 = some (.lload 6, 2, 6, 0, .null) := by decide +kernel
theorem fe_X11_sow_81 : mj_f mi_X11_sow 81 = some (.iload 13, 2, 13, 0, .null) := by decide +kernel
theorem fe_X11_sow_83 : mj_f mi_X11_sow 83 = some (.i2l, 1, 0, 0, .null) := by decide +kernel
theorem fe_X11_sow_84 : mj_f mi_X11_sow 84 = some (.lmul, 1, 0, 0, .null) := by decide +kernel
theorem fe_X11_sow_85 : mj_f mi_X11_sow 85 = some (.ladd, 1, 0, 0, .null) := by decide +kernel
theorem fe_X11_sow_86 : mj_f mi_X11_sow 86 = some (.iload 12, 2, 12, 0, .null) := by decide +kernel
theorem fe_X11_sow_88 : mj_f mi_X11_sow 88 = some (.bipush 8, 2, 0, 0, .int (8)) := by decide +kernel
theorem fe_X11_sow_90 : mj_f mi_X11_sow 90 = some (.iushr, 1, 0, 0, .null) := by decide +kernel
theorem fe_X11_sow_91 : mj_f mi_X11_sow 91 = some (.iload 8, 2, 8, 0, .null) := by decide +kernel
theorem fe_X11_sow_93 : mj_f mi_X11_sow 93 = some (.irem, 1, 0, 0, .null) := by decide +kernel
theorem fe_X11_sow_94 : mj_f mi_X11_sow 94 = some (.i2l, 1, 0, 0, .null) := by decide +kernel
theorem fe_X11_sow_95 : mj_f mi_X11_sow 95 = some (.lload 9, 2, 9, 0, .null) := by decide +kernel
theorem fe_X11_sow_97 : mj_f mi_X11_sow 97 = some (.lmul, 1, 0, 0, .null) := by decide +kernel
theorem fe_X11_sow_98 : mj_f mi_X11_sow 98 = some (.ladd, 1, 0, 0, .null) := by decide +kernel
theorem fe_X11_sow_99 : mj_f mi_X11_sow 99 = some (.invokevirtual 87, 3, 34, 2, .null) := by decide +kernel
theorem fe_X11_sow_102 : mj_f mi_X11_sow 102 = some (.pop, 1, 0, 0, .null) := by decide +kernel
theorem fe_X11_sow_103 : mj_f mi_X11_sow 103 = some (.iinc 13 1, 3, 13, 0, .int (1)) := by decide +kernel
theorem fe_X11_sow_106 : mj_f mi_X11_sow 106 = some (.goto (-49), 3, 57, 0, .null) := by decide +kernel
theorem fe_X11_sow_109 : mj_f mi_X11_sow 109 = some (.aload 11, 2, 11, 0, .null) := by decide +kernel
theorem fe_X11_sow_111 : mj_f mi_X11_sow 111 = some (.invokevirtual 92, 3, 24, 0, .null) := by decide +kernel
theorem fe_X11_sow_114 : mj_f mi_X11_sow 114 = some (.ireturn, 1, 0, 0, .null) := by decide +kernel
def ct_X11_set : MJT := [
  (0, 0, .aload_n 0, 1, 0, 0, .null),
  (1, 0, .iload_n 1, 1, 1, 0, .null),
  (2, 451, .invokevirtual 79, 3, 171, 1, .null),
  (5, 0, .astore 5, 2, 5, 0, .null),
  (7, 0, .aload 5, 2, 5, 0, .null),
  (9, 0, .ifnull 12, 3, 21, 0, .null),
  (12, 0, .aload 5, 2, 5, 0, .null),
  (14, 0, .iload_n 2, 1, 2, 0, .null),
  (15, 971, .invokevirtual 94, 3, 25, 1, .null),
  (18, 0, .ifCond .ne 7, 3, 25, 0, .null),
  (21, 0, .iconst (-1), 1, 0, 0, .int (-1)),
  (22, 0, .goto 10, 3, 32, 0, .null),
  (25, 0, .aload 5, 2, 5, 0, .null),
  (27, 0, .iload_n 2, 1, 2, 0, .null),
  (28, 0, .lload_n 3, 1, 3, 0, .null),
  (29, 975, .invokevirtual 97, 3, 35, 2, .null),
  (32, 0, .ireturn, 1, 0, 0, .null)]
abbrev id_X11_set : Nat := 154
def mi_X11_set : MI := (yX11_set, cX11_set, 6, (some .int), 11, ct_X11_set)
theorem fe_X11_set_0 : mj_f mi_X11_set 0 = some (.aload_n 0, 1, 0, 0, .null) := by decide +kernel
theorem fe_X11_set_1 : mj_f mi_X11_set 1 = some (.iload_n 1, 1, 1, 0, .null) := by decide +kernel
theorem fe_X11_set_2 : mj_f mi_X11_set 2 = some (.invokevirtual 79, 3, 171, 1, .null) := by decide +kernel
theorem fe_X11_set_5 : mj_f mi_X11_set 5 = some (.astore 5, 2, 5, 0, .null) := by decide +kernel
theorem fe_X11_set_7 : mj_f mi_X11_set 7 = some (.aload 5, 2, 5, 0, .null) := by decide +kernel
theorem fe_X11_set_9 : mj_f mi_X11_set 9 = some (.ifnull 12, 3, 21, 0, .null) := by decide +kernel
theorem fe_X11_set_12 : mj_f mi_X11_set 12 = some (.aload 5, 2, 5, 0, .null) := by decide +kernel
theorem fe_X11_set_14 : mj_f mi_X11_set 14 = some (.iload_n 2, 1, 2, 0, .null) := by decide +kernel
theorem fe_X11_set_15 : mj_f mi_X11_set 15 = some (.invokevirtual 94, 3, 25, 1, .null) := by decide +kernel
theorem fe_X11_set_18 : mj_f mi_X11_set 18 = some (.ifCond .ne 7, 3, 25, 0, .null) := by decide +kernel
theorem fe_X11_set_21 : mj_f mi_X11_set 21 = some (.iconst (-1), 1, 0, 0, .int (-1)) := by decide +kernel
theorem fe_X11_set_22 : mj_f mi_X11_set 22 = some (.goto 10, 3, 32, 0, .null) := by decide +kernel
theorem fe_X11_set_25 : mj_f mi_X11_set 25 = some (.aload 5, 2, 5, 0, .null) := by decide +kernel
theorem fe_X11_set_27 : mj_f mi_X11_set 27 = some (.iload_n 2, 1, 2, 0, .null) := by decide +kernel
theorem fe_X11_set_28 : mj_f mi_X11_set 28 = some (.lload_n 3, 1, 3, 0, .null) := by decide +kernel
theorem fe_X11_set_29 : mj_f mi_X11_set 29 = some (.invokevirtual 97, 3, 35, 2, .null) := by decide +kernel
theorem fe_X11_set_32 : mj_f mi_X11_set 32 = some (.ireturn, 1, 0, 0, .null) := by decide +kernel
def ct_X11_pack : MJT := [
  (0, 0, .aload_n 0, 1, 0, 0, .null),
  (1, 0, .iload_n 1, 1, 1, 0, .null),
  (2, 451, .invokevirtual 79, 3, 171, 1, .null),
  (5, 0, .astore_n 2, 1, 2, 0, .null),
  (6, 0, .aload_n 2, 1, 2, 0, .null),
  (7, 0, .ifnonnull 5, 3, 12, 0, .null),
  (10, 0, .iconst (-1), 1, 0, 0, .int (-1)),
  (11, 0, .ireturn, 1, 0, 0, .null),
  (12, 0, .aload_n 2, 1, 2, 0, .null),
  (13, 994, .invokevirtual 101, 3, 36, 0, .null),
  (16, 0, .aload_n 2, 1, 2, 0, .null),
  (17, 998, .invokevirtual 104, 3, 39, 0, .null),
  (20, 0, .ireturn, 1, 0, 0, .null)]
abbrev id_X11_pack : Nat := 155
def mi_X11_pack : MI := (yX11_pack, cX11_pack, 3, (some .int), 11, ct_X11_pack)
theorem fe_X11_pack_0 : mj_f mi_X11_pack 0 = some (.aload_n 0, 1, 0, 0, .null) := by decide +kernel
theorem fe_X11_pack_1 : mj_f mi_X11_pack 1 = some (.iload_n 1, 1, 1, 0, .null) := by decide +kernel
theorem fe_X11_pack_2 : mj_f mi_X11_pack 2 = some (.invokevirtual 79, 3, 171, 1, .null) := by decide +kernel
theorem fe_X11_pack_5 : mj_f mi_X11_pack 5 = some (.astore_n 2, 1, 2, 0, .null) := by decide +kernel
theorem fe_X11_pack_6 : mj_f mi_X11_pack 6 = some (.aload_n 2, 1, 2, 0, .null) := by decide +kernel
theorem fe_X11_pack_7 : mj_f mi_X11_pack 7 = some (.ifnonnull 5, 3, 12, 0, .null) := by decide +kernel
theorem fe_X11_pack_10 : mj_f mi_X11_pack 10 = some (.iconst (-1), 1, 0, 0, .int (-1)) := by decide +kernel
theorem fe_X11_pack_11 : mj_f mi_X11_pack 11 = some (.ireturn, 1, 0, 0, .null) := by decide +kernel
theorem fe_X11_pack_12 : mj_f mi_X11_pack 12 = some (.aload_n 2, 1, 2, 0, .null) := by decide +kernel
theorem fe_X11_pack_13 : mj_f mi_X11_pack 13 = some (.invokevirtual 101, 3, 36, 0, .null) := by decide +kernel
theorem fe_X11_pack_16 : mj_f mi_X11_pack 16 = some (.aload_n 2, 1, 2, 0, .null) := by decide +kernel
theorem fe_X11_pack_17 : mj_f mi_X11_pack 17 = some (.invokevirtual 104, 3, 39, 0, .null) := by decide +kernel
theorem fe_X11_pack_20 : mj_f mi_X11_pack 20 = some (.ireturn, 1, 0, 0, .null) := by decide +kernel
def ct_X11_clear : MJT := [
  (0, 0, .aload_n 0, 1, 0, 0, .null),
  (1, 0, .iload_n 1, 1, 1, 0, .null),
  (2, 451, .invokevirtual 79, 3, 171, 1, .null),
  (5, 0, .astore_n 2, 1, 2, 0, .null),
  (6, 0, .aload_n 2, 1, 2, 0, .null),
  (7, 0, .ifnonnull 7, 3, 14, 0, .null),
  (10, 0, .iconst (-1), 1, 0, 0, .int (-1)),
  (11, 0, .goto 7, 3, 18, 0, .null),
  (14, 0, .aload_n 2, 1, 2, 0, .null),
  (15, 1011, .invokevirtual 107, 3, 32, 0, .null),
  (18, 0, .ireturn, 1, 0, 0, .null)]
abbrev id_X11_clear : Nat := 156
def mi_X11_clear : MI := (yX11_clear, cX11_clear, 3, (some .int), 11, ct_X11_clear)
theorem fe_X11_clear_0 : mj_f mi_X11_clear 0 = some (.aload_n 0, 1, 0, 0, .null) := by decide +kernel
theorem fe_X11_clear_1 : mj_f mi_X11_clear 1 = some (.iload_n 1, 1, 1, 0, .null) := by decide +kernel
theorem fe_X11_clear_2 : mj_f mi_X11_clear 2 = some (.invokevirtual 79, 3, 171, 1, .null) := by decide +kernel
theorem fe_X11_clear_5 : mj_f mi_X11_clear 5 = some (.astore_n 2, 1, 2, 0, .null) := by decide +kernel
theorem fe_X11_clear_6 : mj_f mi_X11_clear 6 = some (.aload_n 2, 1, 2, 0, .null) := by decide +kernel
theorem fe_X11_clear_7 : mj_f mi_X11_clear 7 = some (.ifnonnull 7, 3, 14, 0, .null) := by decide +kernel
theorem fe_X11_clear_10 : mj_f mi_X11_clear 10 = some (.iconst (-1), 1, 0, 0, .int (-1)) := by decide +kernel
theorem fe_X11_clear_11 : mj_f mi_X11_clear 11 = some (.goto 7, 3, 18, 0, .null) := by decide +kernel
theorem fe_X11_clear_14 : mj_f mi_X11_clear 14 = some (.aload_n 2, 1, 2, 0, .null) := by decide +kernel
theorem fe_X11_clear_15 : mj_f mi_X11_clear 15 = some (.invokevirtual 107, 3, 32, 0, .null) := by decide +kernel
theorem fe_X11_clear_18 : mj_f mi_X11_clear 18 = some (.ireturn, 1, 0, 0, .null) := by decide +kernel
def ct_X11_count : MJT := [
  (0, 0, .aload_n 0, 1, 0, 0, .null),
  (1, 0, .iload_n 1, 1, 1, 0, .null),
  (2, 451, .invokevirtual 79, 3, 171, 1, .null),
  (5, 0, .astore_n 3, 1, 3, 0, .null),
  (6, 0, .aload_n 3, 1, 3, 0, .null),
  (7, 0, .ifnonnull 5, 3, 12, 0, .null),
  (10, 0, .iconst (-1), 1, 0, 0, .int (-1)),
  (11, 0, .ireturn, 1, 0, 0, .null),
  (12, 0, .iload_n 2, 1, 2, 0, .null),
  (13, 0, .tableswitch 51 0 3 #[31, 36, 41, 46], 31, 0, 0, .null),
  (44, 0, .aload_n 3, 1, 3, 0, .null),
  (45, 962, .invokevirtual 92, 3, 24, 0, .null),
  (48, 0, .ireturn, 1, 0, 0, .null),
  (49, 0, .aload_n 3, 1, 3, 0, .null),
  (50, 1019, .invokevirtual 110, 3, 26, 0, .null),
  (53, 0, .ireturn, 1, 0, 0, .null),
  (54, 0, .aload_n 3, 1, 3, 0, .null),
  (55, 1020, .invokevirtual 113, 3, 38, 0, .null),
  (58, 0, .ireturn, 1, 0, 0, .null),
  (59, 0, .aload_n 3, 1, 3, 0, .null),
  (60, 998, .invokevirtual 104, 3, 39, 0, .null),
  (63, 0, .ireturn, 1, 0, 0, .null),
  (64, 0, .iconst (-1), 1, 0, 0, .int (-1)),
  (65, 0, .ireturn, 1, 0, 0, .null)]
abbrev id_X11_count : Nat := 157
def mi_X11_count : MI := (yX11_count, cX11_count, 4, (some .int), 11, ct_X11_count)
theorem fe_X11_count_0 : mj_f mi_X11_count 0 = some (.aload_n 0, 1, 0, 0, .null) := by decide +kernel
theorem fe_X11_count_1 : mj_f mi_X11_count 1 = some (.iload_n 1, 1, 1, 0, .null) := by decide +kernel
theorem fe_X11_count_2 : mj_f mi_X11_count 2 = some (.invokevirtual 79, 3, 171, 1, .null) := by decide +kernel
theorem fe_X11_count_5 : mj_f mi_X11_count 5 = some (.astore_n 3, 1, 3, 0, .null) := by decide +kernel
theorem fe_X11_count_6 : mj_f mi_X11_count 6 = some (.aload_n 3, 1, 3, 0, .null) := by decide +kernel
theorem fe_X11_count_7 : mj_f mi_X11_count 7 = some (.ifnonnull 5, 3, 12, 0, .null) := by decide +kernel
theorem fe_X11_count_10 : mj_f mi_X11_count 10 = some (.iconst (-1), 1, 0, 0, .int (-1)) := by decide +kernel
theorem fe_X11_count_11 : mj_f mi_X11_count 11 = some (.ireturn, 1, 0, 0, .null) := by decide +kernel
theorem fe_X11_count_12 : mj_f mi_X11_count 12 = some (.iload_n 2, 1, 2, 0, .null) := by decide +kernel
theorem fe_X11_count_13 : mj_f mi_X11_count 13 = some (.tableswitch 51 0 3 #[31, 36, 41, 46], 31, 0, 0, .null) := by decide +kernel
theorem fe_X11_count_44 : mj_f mi_X11_count 44 = some (.aload_n 3, 1, 3, 0, .null) := by decide +kernel
theorem fe_X11_count_45 : mj_f mi_X11_count 45 = some (.invokevirtual 92, 3, 24, 0, .null) := by decide +kernel
theorem fe_X11_count_48 : mj_f mi_X11_count 48 = some (.ireturn, 1, 0, 0, .null) := by decide +kernel
theorem fe_X11_count_49 : mj_f mi_X11_count 49 = some (.aload_n 3, 1, 3, 0, .null) := by decide +kernel
theorem fe_X11_count_50 : mj_f mi_X11_count 50 = some (.invokevirtual 110, 3, 26, 0, .null) := by decide +kernel
theorem fe_X11_count_53 : mj_f mi_X11_count 53 = some (.ireturn, 1, 0, 0, .null) := by decide +kernel
theorem fe_X11_count_54 : mj_f mi_X11_count 54 = some (.aload_n 3, 1, 3, 0, .null) := by decide +kernel
theorem fe_X11_count_55 : mj_f mi_X11_count 55 = some (.invokevirtual 113, 3, 38, 0, .null) := by decide +kernel
theorem fe_X11_count_58 : mj_f mi_X11_count 58 = some (.ireturn, 1, 0, 0, .null) := by decide +kernel
theorem fe_X11_count_59 : mj_f mi_X11_count 59 = some (.aload_n 3, 1, 3, 0, .null) := by decide +kernel
theorem fe_X11_count_60 : mj_f mi_X11_count 60 = some (.invokevirtual 104, 3, 39, 0, .null) := by decide +kernel
theorem fe_X11_count_63 : mj_f mi_X11_count 63 = some (.ireturn, 1, 0, 0, .null) := by decide +kernel
theorem fe_X11_count_64 : mj_f mi_X11_count 64 = some (.iconst (-1), 1, 0, 0, .int (-1)) := by decide +kernel
theorem fe_X11_count_65 : mj_f mi_X11_count 65 = some (.ireturn, 1, 0, 0, .null) := by decide +kernel
def ct_X11_has : MJT := [
  (0, 0, .aload_n 0, 1, 0, 0, .null),
  (1, 0, .iload_n 1, 1, 1, 0, .null),
  (2, 451, .invokevirtual 79, 3, 171, 1, .null),
  (5, 0, .astore_n 3, 1, 3, 0, .null),
  (6, 0, .aload_n 3, 1, 3, 0, .null),
  (7, 0, .ifnull 11, 3, 18, 0, .null),
  (10, 0, .aload_n 3, 1, 3, 0, .null),
  (11, 0, .iload_n 2, 1, 2, 0, .null),
  (12, 971, .invokevirtual 94, 3, 25, 1, .null),
  (15, 0, .ifCond .ne 5, 3, 20, 0, .null),
  (18, 0, .iconst (-1), 1, 0, 0, .int (-1)),
  (19, 0, .ireturn, 1, 0, 0, .null),
  (20, 0, .aload_n 3, 1, 3, 0, .null),
  (21, 0, .iload_n 2, 1, 2, 0, .null),
  (22, 0, .bipush 32, 2, 0, 0, .int (32)),
  (24, 0, .idiv, 1, 0, 0, .null),
  (25, 1033, .invokevirtual 116, 3, 33, 1, .null),
  (28, 0, .iload_n 2, 1, 2, 0, .null),
  (29, 0, .bipush 32, 2, 0, 0, .int (32)),
  (31, 0, .irem, 1, 0, 0, .null),
  (32, 1034, .invokevirtual 120, 3, 2, 1, .null),
  (35, 0, .ifCond .eq 7, 3, 42, 0, .null),
  (38, 0, .iconst 0, 1, 0, 0, .int (0)),
  (39, 0, .goto 4, 3, 43, 0, .null),
  (42, 0, .iconst 1, 1, 0, 0, .int (1)),
  (43, 0, .ireturn, 1, 0, 0, .null)]
abbrev id_X11_has : Nat := 158
def mi_X11_has : MI := (yX11_has, cX11_has, 4, (some .int), 11, ct_X11_has)
theorem fe_X11_has_0 : mj_f mi_X11_has 0 = some (.aload_n 0, 1, 0, 0, .null) := by decide +kernel
theorem fe_X11_has_1 : mj_f mi_X11_has 1 = some (.iload_n 1, 1, 1, 0, .null) := by decide +kernel
theorem fe_X11_has_2 : mj_f mi_X11_has 2 = some (.invokevirtual 79, 3, 171, 1, .null) := by decide +kernel
theorem fe_X11_has_5 : mj_f mi_X11_has 5 = some (.astore_n 3, 1, 3, 0, .null) := by decide +kernel
theorem fe_X11_has_6 : mj_f mi_X11_has 6 = some (.aload_n 3, 1, 3, 0, .null) := by decide +kernel
theorem fe_X11_has_7 : mj_f mi_X11_has 7 = some (.ifnull 11, 3, 18, 0, .null) := by decide +kernel
theorem fe_X11_has_10 : mj_f mi_X11_has 10 = some (.aload_n 3, 1, 3, 0, .null) := by decide +kernel
theorem fe_X11_has_11 : mj_f mi_X11_has 11 = some (.iload_n 2, 1, 2, 0, .null) := by decide +kernel
theorem fe_X11_has_12 : mj_f mi_X11_has 12 = some (.invokevirtual 94, 3, 25, 1, .null) := by decide +kernel
theorem fe_X11_has_15 : mj_f mi_X11_has 15 = some (.ifCond .ne 5, 3, 20, 0, .null) := by decide +kernel
theorem fe_X11_has_18 : mj_f mi_X11_has 18 = some (.iconst (-1), 1, 0, 0, .int (-1)) := by decide +kernel
theorem fe_X11_has_19 : mj_f mi_X11_has 19 = some (.ireturn, 1, 0, 0, .null) := by decide +kernel
theorem fe_X11_has_20 : mj_f mi_X11_has 20 = some (.aload_n 3, 1, 3, 0, .null) := by decide +kernel
theorem fe_X11_has_21 : mj_f mi_X11_has 21 = some (.iload_n 2, 1, 2, 0, .null) := by decide +kernel
theorem fe_X11_has_22 : mj_f mi_X11_has 22 = some (.bipush 32, 2, 0, 0, .int (32)) := by decide +kernel
theorem fe_X11_has_24 : mj_f mi_X11_has 24 = some (.idiv, 1, 0, 0, .null) := by decide +kernel
theorem fe_X11_has_25 : mj_f mi_X11_has 25 = some (.invokevirtual 116, 3, 33, 1, .null) := by decide +kernel
theorem fe_X11_has_28 : mj_f mi_X11_has 28 = some (.iload_n 2, 1, 2, 0, .null) := by decide +kernel
theorem fe_X11_has_29 : mj_f mi_X11_has 29 = some (.bipush 32, 2, 0, 0, .int (32)) := by decide +kernel
theorem fe_X11_has_31 : mj_f mi_X11_has 31 = some (.irem, 1, 0, 0, .null) := by decide +kernel
theorem fe_X11_has_32 : mj_f mi_X11_has 32 = some (.invokevirtual 120, 3, 2, 1, .null) := by decide +kernel
theorem fe_X11_has_35 : mj_f mi_X11_has 35 = some (.ifCond .eq 7, 3, 42, 0, .null) := by decide +kernel
theorem fe_X11_has_38 : mj_f mi_X11_has 38 = some (.iconst 0, 1, 0, 0, .int (0)) := by decide +kernel
theorem fe_X11_has_39 : mj_f mi_X11_has 39 = some (.goto 4, 3, 43, 0, .null) := by decide +kernel
theorem fe_X11_has_42 : mj_f mi_X11_has 42 = some (.iconst 1, 1, 0, 0, .int (1)) := by decide +kernel
theorem fe_X11_has_43 : mj_f mi_X11_has 43 = some (.ireturn, 1, 0, 0, .null) := by decide +kernel
def ct_X11_get : MJT := [
  (0, 0, .aload_n 0, 1, 0, 0, .null),
  (1, 0, .iload_n 1, 1, 1, 0, .null),
  (2, 451, .invokevirtual 79, 3, 171, 1, .null),
  (5, 0, .astore_n 3, 1, 3, 0, .null),
  (6, 0, .aload_n 3, 1, 3, 0, .null),
  (7, 0, .ifnull 11, 3, 18, 0, .null),
  (10, 0, .aload_n 3, 1, 3, 0, .null),
  (11, 0, .iload_n 2, 1, 2, 0, .null),
  (12, 971, .invokevirtual 94, 3, 25, 1, .null),
  (15, 0, .ifCond .ne 5, 3, 20, 0, .null),
  (18, 0, .lconst 0, 1, 0, 0, .long 0),
  (19, 0, .lreturn, 1, 0, 0, .null),
  (20, 0, .aload_n 3, 1, 3, 0, .null),
  (21, 0, .iload_n 2, 1, 2, 0, .null),
  (22, 0, .bipush 32, 2, 0, 0, .int (32)),
  (24, 0, .idiv, 1, 0, 0, .null),
  (25, 1033, .invokevirtual 116, 3, 33, 1, .null),
  (28, 0, .iload_n 2, 1, 2, 0, .null),
  (29, 0, .bipush 32, 2, 0, 0, .int (32)),
  (31, 0, .irem, 1, 0, 0, .null),
  (32, 1039, .invokevirtual 123, 3, 3, 1, .null),
  (35, 0, .lreturn, 1, 0, 0, .null)]
abbrev id_X11_get : Nat := 159
def mi_X11_get : MI := (yX11_get, cX11_get, 4, (some .long), 11, ct_X11_get)
theorem fe_X11_get_0 : mj_f mi_X11_get 0 = some (.aload_n 0, 1, 0, 0, .null) := by decide +kernel
theorem fe_X11_get_1 : mj_f mi_X11_get 1 = some (.iload_n 1, 1, 1, 0, .null) := by decide +kernel
theorem fe_X11_get_2 : mj_f mi_X11_get 2 = some (.invokevirtual 79, 3, 171, 1, .null) := by decide +kernel
theorem fe_X11_get_5 : mj_f mi_X11_get 5 = some (.astore_n 3, 1, 3, 0, .null) := by decide +kernel
theorem fe_X11_get_6 : mj_f mi_X11_get 6 = some (.aload_n 3, 1, 3, 0, .null) := by decide +kernel
theorem fe_X11_get_7 : mj_f mi_X11_get 7 = some (.ifnull 11, 3, 18, 0, .null) := by decide +kernel
theorem fe_X11_get_10 : mj_f mi_X11_get 10 = some (.aload_n 3, 1, 3, 0, .null) := by decide +kernel
theorem fe_X11_get_11 : mj_f mi_X11_get 11 = some (.iload_n 2, 1, 2, 0, .null) := by decide +kernel
theorem fe_X11_get_12 : mj_f mi_X11_get 12 = some (.invokevirtual 94, 3, 25, 1, .null) := by decide +kernel
theorem fe_X11_get_15 : mj_f mi_X11_get 15 = some (.ifCond .ne 5, 3, 20, 0, .null) := by decide +kernel
theorem fe_X11_get_18 : mj_f mi_X11_get 18 = some (.lconst 0, 1, 0, 0, .long 0) := by decide +kernel
theorem fe_X11_get_19 : mj_f mi_X11_get 19 = some (.lreturn, 1, 0, 0, .null) := by decide +kernel
theorem fe_X11_get_20 : mj_f mi_X11_get 20 = some (.aload_n 3, 1, 3, 0, .null) := by decide +kernel
theorem fe_X11_get_21 : mj_f mi_X11_get 21 = some (.iload_n 2, 1, 2, 0, .null) := by decide +kernel
theorem fe_X11_get_22 : mj_f mi_X11_get 22 = some (.bipush 32, 2, 0, 0, .int (32)) := by decide +kernel
theorem fe_X11_get_24 : mj_f mi_X11_get 24 = some (.idiv, 1, 0, 0, .null) := by decide +kernel
theorem fe_X11_get_25 : mj_f mi_X11_get 25 = some (.invokevirtual 116, 3, 33, 1, .null) := by decide +kernel
theorem fe_X11_get_28 : mj_f mi_X11_get 28 = some (.iload_n 2, 1, 2, 0, .null) := by decide +kernel
theorem fe_X11_get_29 : mj_f mi_X11_get 29 = some (.bipush 32, 2, 0, 0, .int (32)) := by decide +kernel
theorem fe_X11_get_31 : mj_f mi_X11_get 31 = some (.irem, 1, 0, 0, .null) := by decide +kernel
theorem fe_X11_get_32 : mj_f mi_X11_get 32 = some (.invokevirtual 123, 3, 3, 1, .null) := by decide +kernel
theorem fe_X11_get_35 : mj_f mi_X11_get 35 = some (.lreturn, 1, 0, 0, .null) := by decide +kernel
def ct_X11_piece : MJT := [
  (0, 0, .aload_n 0, 1, 0, 0, .null),
  (1, 0, .iload_n 1, 1, 1, 0, .null),
  (2, 451, .invokevirtual 79, 3, 171, 1, .null),
  (5, 0, .astore 4, 2, 4, 0, .null),
  (7, 0, .aload 4, 2, 4, 0, .null),
  (9, 0, .ifnull 12, 3, 21, 0, .null),
  (12, 0, .aload 4, 2, 4, 0, .null),
  (14, 0, .iload_n 2, 1, 2, 0, .null),
  (15, 1044, .invokevirtual 127, 3, 27, 1, .null),
  (18, 0, .ifCond .ne 5, 3, 23, 0, .null),
  (21, 0, .iconst (-1), 1, 0, 0, .int (-1)),
  (22, 0, .ireturn, 1, 0, 0, .null),
  (23, 0, .iload_n 3, 1, 3, 0, .null),
  (24, 0, .tableswitch 127 0 4 #[36, 43, 66, 89, 112], 36, 0, 0, .null),
  (60, 0, .aload 4, 2, 4, 0, .null),
  (62, 0, .iload_n 2, 1, 2, 0, .null),
  (63, 1048, .invokevirtual 130, 3, 29, 1, .null),
  (66, 0, .ireturn, 1, 0, 0, .null),
  (67, 0, .aload 4, 2, 4, 0, .null),
  (69, 0, .iload_n 2, 1, 2, 0, .null),
  (70, 1052, .invokevirtual 134, 3, 28, 1, .null),
  (73, 0, .ifCond .eq 7, 3, 80, 0, .null),
  (76, 0, .iconst 0, 1, 0, 0, .int (0)),
  (77, 0, .goto 12, 3, 89, 0, .null),
  (80, 0, .aload 4, 2, 4, 0, .null),
  (82, 0, .iload_n 2, 1, 2, 0, .null),
  (83, 1053, .invokevirtual 137, 3, 30, 1, .null),
  (86, 1054, .invokevirtual 141, 3, 69, 0, .null),
  (89, 0, .ireturn, 1, 0, 0, .null),
  (90, 0, .aload 4, 2, 4, 0, .null),
  (92, 0, .iload_n 2, 1, 2, 0, .null),
  (93, 1052, .invokevirtual 134, 3, 28, 1, .null),
  (96, 0, .ifCond .eq 7, 3, 103, 0, .null),
  (99, 0, .iconst (-1), 1, 0, 0, .int (-1)),
  (100, 0, .goto 12, 3, 112, 0, .null),
  (103, 0, .aload 4, 2, 4, 0, .null),
  (105, 0, .iload_n 2, 1, 2, 0, .null),
  (106, 1053, .invokevirtual 137, 3, 30, 1, .null),
  (109, 1055, .invokevirtual 144, 3, 73, 0, .null),
  (112, 0, .ireturn, 1, 0, 0, .null),
  (113, 0, .aload 4, 2, 4, 0, .null),
  (115, 0, .iload_n 2, 1, 2, 0, .null),
  (116, 1052, .invokevirtual 134, 3, 28, 1, .null),
  (119, 0, .ifCond .eq 7, 3, 126, 0, .null),
  (122, 0, .iconst 0, 1, 0, 0, .int (0)),
  (123, 0, .goto 12, 3, 135, 0, .null),
  (126, 0, .aload 4, 2, 4, 0, .null),
  (128, 0, .iload_n 2, 1, 2, 0, .null),
  (129, 1053, .invokevirtual 137, 3, 30, 1, .null),
  (132, 1059, .invokevirtual 147, 3, 71, 0, .null),
  (135, 0, .ireturn, 1, 0, 0, .null),
  (136, 0, .aload 4, 2, 4, 0, .null),
  (138, 0, .iload_n 2, 1, 2, 0, .null),
  (139, 1052, .invokevirtual 134, 3, 28, 1, .null),
  (142, 0, .ifCond .eq 7, 3, 149, 0, .null),
  (145, 0, .iconst 1, 1, 0, 0, .int (1)),
  (146, 0, .goto 4, 3, 150, 0, .null),
  (149, 0, .iconst 0, 1, 0, 0, .int (0)),
  (150, 0, .ireturn, 1, 0, 0, .null),
  (151, 0, .iconst (-1), 1, 0, 0, .int (-1)),
  (152, 0, .ireturn, 1, 0, 0, .null)]
abbrev id_X11_piece : Nat := 160
def mi_X11_piece : MI := (yX11_piece, cX11_piece, 5, (some .int), 11, ct_X11_piece)
theorem fe_X11_piece_0 : mj_f mi_X11_piece 0 = some (.aload_n 0, 1, 0, 0, .null) := by decide +kernel
theorem fe_X11_piece_1 : mj_f mi_X11_piece 1 = some (.iload_n 1, 1, 1, 0, .null) := by decide +kernel
theorem fe_X11_piece_2 : mj_f mi_X11_piece 2 = some (.invokevirtual 79, 3, 171, 1, .null) := by decide +kernel
theorem fe_X11_piece_5 : mj_f mi_X11_piece 5 = some (.astore 4, 2, 4, 0, .null) := by decide +kernel
theorem fe_X11_piece_7 : mj_f mi_X11_piece 7 = some (.aload 4, 2, 4, 0, .null) := by decide +kernel
theorem fe_X11_piece_9 : mj_f mi_X11_piece 9 = some (.ifnull 12, 3, 21, 0, .null) := by decide +kernel
theorem fe_X11_piece_12 : mj_f mi_X11_piece 12 = some (.aload 4, 2, 4, 0, .null) := by decide +kernel
theorem fe_X11_piece_14 : mj_f mi_X11_piece 14 = some (.iload_n 2, 1, 2, 0, .null) := by decide +kernel
theorem fe_X11_piece_15 : mj_f mi_X11_piece 15 = some (.invokevirtual 127, 3, 27, 1, .null) := by decide +kernel
theorem fe_X11_piece_18 : mj_f mi_X11_piece 18 = some (.ifCond .ne 5, 3, 23, 0, .null) := by decide +kernel
theorem fe_X11_piece_21 : mj_f mi_X11_piece 21 = some (.iconst (-1), 1, 0, 0, .int (-1)) := by decide +kernel
theorem fe_X11_piece_22 : mj_f mi_X11_piece 22 = some (.ireturn, 1, 0, 0, .null) := by decide +kernel
theorem fe_X11_piece_23 : mj_f mi_X11_piece 23 = some (.iload_n 3, 1, 3, 0, .null) := by decide +kernel
theorem fe_X11_piece_24 : mj_f mi_X11_piece 24 = some (.tableswitch 127 0 4 #[36, 43, 66, 89, 112], 36, 0, 0, .null) := by decide +kernel
theorem fe_X11_piece_60 : mj_f mi_X11_piece 60 = some (.aload 4, 2, 4, 0, .null) := by decide +kernel
theorem fe_X11_piece_62 : mj_f mi_X11_piece 62 = some (.iload_n 2, 1, 2, 0, .null) := by decide +kernel
theorem fe_X11_piece_63 : mj_f mi_X11_piece 63 = some (.invokevirtual 130, 3, 29, 1, .null) := by decide +kernel
theorem fe_X11_piece_66 : mj_f mi_X11_piece 66 = some (.ireturn, 1, 0, 0, .null) := by decide +kernel
theorem fe_X11_piece_67 : mj_f mi_X11_piece 67 = some (.aload 4, 2, 4, 0, .null) := by decide +kernel
theorem fe_X11_piece_69 : mj_f mi_X11_piece 69 = some (.iload_n 2, 1, 2, 0, .null) := by decide +kernel
theorem fe_X11_piece_70 : mj_f mi_X11_piece 70 = some (.invokevirtual 134, 3, 28, 1, .null) := by decide +kernel
theorem fe_X11_piece_73 : mj_f mi_X11_piece 73 = some (.ifCond .eq 7, 3, 80, 0, .null) := by decide +kernel
theorem fe_X11_piece_76 : mj_f mi_X11_piece 76 = some (.iconst 0, 1, 0, 0, .int (0)) := by decide +kernel
theorem fe_X11_piece_77 : mj_f mi_X11_piece 77 = some (.goto 12, 3, 89, 0, .null) := by decide +kernel
theorem fe_X11_piece_80 : mj_f mi_X11_piece 80 = some (.aload 4, 2, 4, 0, .null) := by decide +kernel
theorem fe_X11_piece_82 : mj_f mi_X11_piece 82 = some (.iload_n 2, 1, 2, 0, .null) := by decide +kernel
theorem fe_X11_piece_83 : mj_f mi_X11_piece 83 = some (.invokevirtual 137, 3, 30, 1, .null) := by decide +kernel
theorem fe_X11_piece_86 : mj_f mi_X11_piece 86 = some (.invokevirtual 141, 3, 69, 0, .null) := by decide +kernel
theorem fe_X11_piece_89 : mj_f mi_X11_piece 89 = some (.ireturn, 1, 0, 0, .null) := by decide +kernel
theorem fe_X11_piece_90 : mj_f mi_X11_piece 90 = some (.aload 4, 2, 4, 0, .null) := by decide +kernel
theorem fe_X11_piece_92 : mj_f mi_X11_piece 92 = some (.iload_n 2, 1, 2, 0, .null) := by decide +kernel
theorem fe_X11_piece_93 : mj_f mi_X11_piece 93 = some (.invokevirtual 134, 3, 28, 1, .null) := by decide +kernel
theorem fe_X11_piece_96 : mj_f mi_X11_piece 96 = some (.ifCond .eq 7, 3, 103, 0, .null) := by decide +kernel
theorem fe_X11_piece_99 : mj_f mi_X11_piece 99 = some (.iconst (-1), 1, 0, 0, .int (-1)) := by decide +kernel
theorem fe_X11_piece_100 : mj_f mi_X11_piece 100 = some (.goto 12, 3, 112, 0, .null) := by decide +kernel
theorem fe_X11_piece_103 : mj_f mi_X11_piece 103 = some (.aload 4, 2, 4, 0, .null) := by decide +kernel
theorem fe_X11_piece_105 : mj_f mi_X11_piece 105 = some (.iload_n 2, 1, 2, 0, .null) := by decide +kernel
theorem fe_X11_piece_106 : mj_f mi_X11_piece 106 = some (.invokevirtual 137, 3, 30, 1, .null) := by decide +kernel
theorem fe_X11_piece_109 : mj_f mi_X11_piece 109 = some (.invokevirtual 144, 3, 73, 0, .null) := by decide +kernel
theorem fe_X11_piece_112 : mj_f mi_X11_piece 112 = some (.ireturn, 1, 0, 0, .null) := by decide +kernel
theorem fe_X11_piece_113 : mj_f mi_X11_piece 113 = some (.aload 4, 2, 4, 0, .null) := by decide +kernel
theorem fe_X11_piece_115 : mj_f mi_X11_piece 115 = some (.iload_n 2, 1, 2, 0, .null) := by decide +kernel
theorem fe_X11_piece_116 : mj_f mi_X11_piece 116 = some (.invokevirtual 134, 3, 28, 1, .null) := by decide +kernel
theorem fe_X11_piece_119 : mj_f mi_X11_piece 119 = some (.ifCond .eq 7, 3, 126, 0, .null) := by decide +kernel
theorem fe_X11_piece_122 : mj_f mi_X11_piece 122 = some (.iconst 0, 1, 0, 0, .int (0)) := by decide +kernel
theorem fe_X11_piece_123 : mj_f mi_X11_piece 123 = some (.goto 12, 3, 135, 0, .null) := by decide +kernel
theorem fe_X11_piece_126 : mj_f mi_X11_piece 126 = some (.aload 4, 2, 4, 0, .null) := by decide +kernel
theorem fe_X11_piece_128 : mj_f mi_X11_piece 128 = some (.iload_n 2, 1, 2, 0, .null) := by decide +kernel
theorem fe_X11_piece_129 : mj_f mi_X11_piece 129 = some (.invokevirtual 137, 3, 30, 1, .null) := by decide +kernel
theorem fe_X11_piece_132 : mj_f mi_X11_piece 132 = some (.invokevirtual 147, 3, 71, 0, .null) := by decide +kernel
theorem fe_X11_piece_135 : mj_f mi_X11_piece 135 = some (.ireturn, 1, 0, 0, .null) := by decide +kernel
theorem fe_X11_piece_136 : mj_f mi_X11_piece 136 = some (.aload 4, 2, 4, 0, .null) := by decide +kernel
theorem fe_X11_piece_138 : mj_f mi_X11_piece 138 = some (.iload_n 2, 1, 2, 0, .null) := by decide +kernel
theorem fe_X11_piece_139 : mj_f mi_X11_piece 139 = some (.invokevirtual 134, 3, 28, 1, .null) := by decide +kernel
theorem fe_X11_piece_142 : mj_f mi_X11_piece 142 = some (.ifCond .eq 7, 3, 149, 0, .null) := by decide +kernel
theorem fe_X11_piece_145 : mj_f mi_X11_piece 145 = some (.iconst 1, 1, 0, 0, .int (1)) := by decide +kernel
theorem fe_X11_piece_146 : mj_f mi_X11_piece 146 = some (.goto 4, 3, 150, 0, .null) := by decide +kernel
theorem fe_X11_piece_149 : mj_f mi_X11_piece 149 = some (.iconst 0, 1, 0, 0, .int (0)) := by decide +kernel
theorem fe_X11_piece_150 : mj_f mi_X11_piece 150 = some (.ireturn, 1, 0, 0, .null) := by decide +kernel
theorem fe_X11_piece_151 : mj_f mi_X11_piece 151 = some (.iconst (-1), 1, 0, 0, .int (-1)) := by decide +kernel
theorem fe_X11_piece_152 : mj_f mi_X11_piece 152 = some (.ireturn, 1, 0, 0, .null) := by decide +kernel
def ct_X11_at : MJT := [
  (0, 0, .aload_n 0, 1, 0, 0, .null),
  (1, 0, .iload_n 1, 1, 1, 0, .null),
  (2, 0, .iload_n 2, 1, 2, 0, .null),
  (3, 1064, .invokevirtual 150, 3, 172, 2, .null),
  (6, 0, .astore 4, 2, 4, 0, .null),
  (8, 0, .aload 4, 2, 4, 0, .null),
  (10, 0, .ifnonnull 7, 3, 17, 0, .null),
  (13, 0, .iconst (-1), 1, 0, 0, .int (-1)),
  (14, 0, .goto 9, 3, 23, 0, .null),
  (17, 0, .aload 4, 2, 4, 0, .null),
  (19, 0, .iload_n 3, 1, 3, 0, .null),
  (20, 1068, .invokevirtual 154, 3, 70, 1, .null),
  (23, 0, .ireturn, 1, 0, 0, .null)]
abbrev id_X11_at : Nat := 161
def mi_X11_at : MI := (yX11_at, cX11_at, 5, (some .int), 11, ct_X11_at)
theorem fe_X11_at_0 : mj_f mi_X11_at 0 = some (.aload_n 0, 1, 0, 0, .null) := by decide +kernel
theorem fe_X11_at_1 : mj_f mi_X11_at 1 = some (.iload_n 1, 1, 1, 0, .null) := by decide +kernel
theorem fe_X11_at_2 : mj_f mi_X11_at 2 = some (.iload_n 2, 1, 2, 0, .null) := by decide +kernel
theorem fe_X11_at_3 : mj_f mi_X11_at 3 = some (.invokevirtual 150, 3, 172, 2, .null) := by decide +kernel
theorem fe_X11_at_6 : mj_f mi_X11_at 6 = some (.astore 4, 2, 4, 0, .null) := by decide +kernel
theorem fe_X11_at_8 : mj_f mi_X11_at 8 = some (.aload 4, 2, 4, 0, .null) := by decide +kernel
theorem fe_X11_at_10 : mj_f mi_X11_at 10 = some (.ifnonnull 7, 3, 17, 0, .null) := by decide +kernel
theorem fe_X11_at_13 : mj_f mi_X11_at 13 = some (.iconst (-1), 1, 0, 0, .int (-1)) := by decide +kernel
theorem fe_X11_at_14 : mj_f mi_X11_at 14 = some (.goto 9, 3, 23, 0, .null) := by decide +kernel
theorem fe_X11_at_17 : mj_f mi_X11_at 17 = some (.aload 4, 2, 4, 0, .null) := by decide +kernel
theorem fe_X11_at_19 : mj_f mi_X11_at 19 = some (.iload_n 3, 1, 3, 0, .null) := by decide +kernel
theorem fe_X11_at_20 : mj_f mi_X11_at 20 = some (.invokevirtual 154, 3, 70, 1, .null) := by decide +kernel
theorem fe_X11_at_23 : mj_f mi_X11_at 23 = some (.ireturn, 1, 0, 0, .null) := by decide +kernel
def ct_X11_code : MJT := [
  (0, 0, .aload_n 0, 1, 0, 0, .null),
  (1, 0, .iload_n 1, 1, 1, 0, .null),
  (2, 0, .iload_n 2, 1, 2, 0, .null),
  (3, 1064, .invokevirtual 150, 3, 172, 2, .null),
  (6, 0, .astore 4, 2, 4, 0, .null),
  (8, 0, .aload 4, 2, 4, 0, .null),
  (10, 0, .ifnonnull 7, 3, 17, 0, .null),
  (13, 0, .iconst (-1), 1, 0, 0, .int (-1)),
  (14, 0, .goto 12, 3, 26, 0, .null),
  (17, 0, .aload 4, 2, 4, 0, .null),
  (19, 1077, .invokevirtual 157, 3, 72, 0, .null),
  (22, 0, .iload_n 3, 1, 3, 0, .null),
  (23, 1081, .invokestatic 160, 3, 179, 2, .null),
  (26, 0, .ireturn, 1, 0, 0, .null)]
abbrev id_X11_code : Nat := 162
def mi_X11_code : MI := (yX11_code, cX11_code, 5, (some .int), 11, ct_X11_code)
theorem fe_X11_code_0 : mj_f mi_X11_code 0 = some (.aload_n 0, 1, 0, 0, .null) := by decide +kernel
theorem fe_X11_code_1 : mj_f mi_X11_code 1 = some (.iload_n 1, 1, 1, 0, .null) := by decide +kernel
theorem fe_X11_code_2 : mj_f mi_X11_code 2 = some (.iload_n 2, 1, 2, 0, .null) := by decide +kernel
theorem fe_X11_code_3 : mj_f mi_X11_code 3 = some (.invokevirtual 150, 3, 172, 2, .null) := by decide +kernel
theorem fe_X11_code_6 : mj_f mi_X11_code 6 = some (.astore 4, 2, 4, 0, .null) := by decide +kernel
theorem fe_X11_code_8 : mj_f mi_X11_code 8 = some (.aload 4, 2, 4, 0, .null) := by decide +kernel
theorem fe_X11_code_10 : mj_f mi_X11_code 10 = some (.ifnonnull 7, 3, 17, 0, .null) := by decide +kernel
theorem fe_X11_code_13 : mj_f mi_X11_code 13 = some (.iconst (-1), 1, 0, 0, .int (-1)) := by decide +kernel
theorem fe_X11_code_14 : mj_f mi_X11_code 14 = some (.goto 12, 3, 26, 0, .null) := by decide +kernel
theorem fe_X11_code_17 : mj_f mi_X11_code 17 = some (.aload 4, 2, 4, 0, .null) := by decide +kernel
theorem fe_X11_code_19 : mj_f mi_X11_code 19 = some (.invokevirtual 157, 3, 72, 0, .null) := by decide +kernel
theorem fe_X11_code_22 : mj_f mi_X11_code 22 = some (.iload_n 3, 1, 3, 0, .null) := by decide +kernel
theorem fe_X11_code_23 : mj_f mi_X11_code 23 = some (.invokestatic 160, 3, 179, 2, .null) := by decide +kernel
theorem fe_X11_code_26 : mj_f mi_X11_code 26 = some (.ireturn, 1, 0, 0, .null) := by decide +kernel
def ct_X11_front : MJT := [
  (0, 0, .aload_n 0, 1, 0, 0, .null),
  (1, 0, .iload_n 1, 1, 1, 0, .null),
  (2, 451, .invokevirtual 79, 3, 171, 1, .null),
  (5, 0, .astore_n 3, 1, 3, 0, .null),
  (6, 0, .aload_n 3, 1, 3, 0, .null),
  (7, 0, .ifnull 11, 3, 18, 0, .null),
  (10, 0, .aload_n 3, 1, 3, 0, .null),
  (11, 0, .iload_n 2, 1, 2, 0, .null),
  (12, 1044, .invokevirtual 127, 3, 27, 1, .null),
  (15, 0, .ifCond .ne 5, 3, 20, 0, .null),
  (18, 0, .iconst (-1), 1, 0, 0, .int (-1)),
  (19, 0, .ireturn, 1, 0, 0, .null),
  (20, 0, .aload_n 3, 1, 3, 0, .null),
  (21, 0, .iload_n 2, 1, 2, 0, .null),
  (22, 0, .aload_n 0, 1, 0, 0, .null),
  (23, 400, .getfield 46, 3, 11, 5, .null),
  (26, 1086, .invokevirtual 164, 3, 40, 2, .null),
  (29, 0, .aload_n 0, 1, 0, 0, .null),
  (30, 400, .getfield 46, 3, 11, 5, .null),
  (33, 1091, .invokevirtual 168, 3, 43, 0, .null),
  (36, 0, .ireturn, 1, 0, 0, .null)]
abbrev id_X11_front : Nat := 163
def mi_X11_front : MI := (yX11_front, cX11_front, 4, (some .int), 11, ct_X11_front)
theorem fe_X11_front_0 : mj_f mi_X11_front 0 = some (.aload_n 0, 1, 0, 0, .null) := by decide +kernel
theorem fe_X11_front_1 : mj_f mi_X11_front 1 = some (.iload_n 1, 1, 1, 0, .null) := by decide +kernel
theorem fe_X11_front_2 : mj_f mi_X11_front 2 = some (.invokevirtual 79, 3, 171, 1, .null) := by decide +kernel
theorem fe_X11_front_5 : mj_f mi_X11_front 5 = some (.astore_n 3, 1, 3, 0, .null) := by decide +kernel
theorem fe_X11_front_6 : mj_f mi_X11_front 6 = some (.aload_n 3, 1, 3, 0, .null) := by decide +kernel
theorem fe_X11_front_7 : mj_f mi_X11_front 7 = some (.ifnull 11, 3, 18, 0, .null) := by decide +kernel
theorem fe_X11_front_10 : mj_f mi_X11_front 10 = some (.aload_n 3, 1, 3, 0, .null) := by decide +kernel
theorem fe_X11_front_11 : mj_f mi_X11_front 11 = some (.iload_n 2, 1, 2, 0, .null) := by decide +kernel
theorem fe_X11_front_12 : mj_f mi_X11_front 12 = some (.invokevirtual 127, 3, 27, 1, .null) := by decide +kernel
theorem fe_X11_front_15 : mj_f mi_X11_front 15 = some (.ifCond .ne 5, 3, 20, 0, .null) := by decide +kernel
theorem fe_X11_front_18 : mj_f mi_X11_front 18 = some (.iconst (-1), 1, 0, 0, .int (-1)) := by decide +kernel
theorem fe_X11_front_19 : mj_f mi_X11_front 19 = some (.ireturn, 1, 0, 0, .null) := by decide +kernel
theorem fe_X11_front_20 : mj_f mi_X11_front 20 = some (.aload_n 3, 1, 3, 0, .null) := by decide +kernel
theorem fe_X11_front_21 : mj_f mi_X11_front 21 = some (.iload_n 2, 1, 2, 0, .null) := by decide +kernel
theorem fe_X11_front_22 : mj_f mi_X11_front 22 = some (.aload_n 0, 1, 0, 0, .null) := by decide +kernel
theorem fe_X11_front_23 : mj_f mi_X11_front 23 = some (.getfield 46, 3, 11, 5, .null) := by decide +kernel
theorem fe_X11_front_26 : mj_f mi_X11_front 26 = some (.invokevirtual 164, 3, 40, 2, .null) := by decide +kernel
theorem fe_X11_front_29 : mj_f mi_X11_front 29 = some (.aload_n 0, 1, 0, 0, .null) := by decide +kernel
theorem fe_X11_front_30 : mj_f mi_X11_front 30 = some (.getfield 46, 3, 11, 5, .null) := by decide +kernel
theorem fe_X11_front_33 : mj_f mi_X11_front 33 = some (.invokevirtual 168, 3, 43, 0, .null) := by decide +kernel
theorem fe_X11_front_36 : mj_f mi_X11_front 36 = some (.ireturn, 1, 0, 0, .null) := by decide +kernel
def ct_X11_pair : MJT := [
  (0, 0, .iload_n 2, 1, 2, 0, .null),
  (1, 0, .lookupswitch 45 #[(0, 27), (1, 36)], 27, 0, 0, .null),
  (28, 0, .aload_n 0, 1, 0, 0, .null),
  (29, 400, .getfield 46, 3, 11, 5, .null),
  (32, 0, .iload_n 1, 1, 1, 0, .null),
  (33, 1099, .invokevirtual 169, 3, 44, 1, .null),
  (36, 0, .ireturn, 1, 0, 0, .null),
  (37, 0, .aload_n 0, 1, 0, 0, .null),
  (38, 400, .getfield 46, 3, 11, 5, .null),
  (41, 0, .iload_n 1, 1, 1, 0, .null),
  (42, 1103, .invokevirtual 172, 3, 45, 1, .null),
  (45, 0, .ireturn, 1, 0, 0, .null),
  (46, 0, .iconst (-1), 1, 0, 0, .int (-1)),
  (47, 0, .ireturn, 1, 0, 0, .null)]
abbrev id_X11_pair : Nat := 164
def mi_X11_pair : MI := (yX11_pair, cX11_pair, 3, (some .int), 11, ct_X11_pair)
theorem fe_X11_pair_0 : mj_f mi_X11_pair 0 = some (.iload_n 2, 1, 2, 0, .null) := by decide +kernel
theorem fe_X11_pair_1 : mj_f mi_X11_pair 1 = some (.lookupswitch 45 #[(0, 27), (1, 36)], 27, 0, 0, .null) := by decide +kernel
theorem fe_X11_pair_28 : mj_f mi_X11_pair 28 = some (.aload_n 0, 1, 0, 0, .null) := by decide +kernel
theorem fe_X11_pair_29 : mj_f mi_X11_pair 29 = some (.getfield 46, 3, 11, 5, .null) := by decide +kernel
theorem fe_X11_pair_32 : mj_f mi_X11_pair 32 = some (.iload_n 1, 1, 1, 0, .null) := by decide +kernel
theorem fe_X11_pair_33 : mj_f mi_X11_pair 33 = some (.invokevirtual 169, 3, 44, 1, .null) := by decide +kernel
theorem fe_X11_pair_36 : mj_f mi_X11_pair 36 = some (.ireturn, 1, 0, 0, .null) := by decide +kernel
theorem fe_X11_pair_37 : mj_f mi_X11_pair 37 = some (.aload_n 0, 1, 0, 0, .null) := by decide +kernel
theorem fe_X11_pair_38 : mj_f mi_X11_pair 38 = some (.getfield 46, 3, 11, 5, .null) := by decide +kernel
theorem fe_X11_pair_41 : mj_f mi_X11_pair 41 = some (.iload_n 1, 1, 1, 0, .null) := by decide +kernel
theorem fe_X11_pair_42 : mj_f mi_X11_pair 42 = some (.invokevirtual 172, 3, 45, 1, .null) := by decide +kernel
theorem fe_X11_pair_45 : mj_f mi_X11_pair 45 = some (.ireturn, 1, 0, 0, .null) := by decide +kernel
theorem fe_X11_pair_46 : mj_f mi_X11_pair 46 = some (.iconst (-1), 1, 0, 0, .int (-1)) := by decide +kernel
theorem fe_X11_pair_47 : mj_f mi_X11_pair 47 = some (.ireturn, 1, 0, 0, .null) := by decide +kernel
def ct_X11_among : MJT := [
  (0, 0, .aload_n 0, 1, 0, 0, .null),
  (1, 0, .iload_n 1, 1, 1, 0, .null),
  (2, 451, .invokevirtual 79, 3, 171, 1, .null),
  (5, 0, .astore 6, 2, 6, 0, .null),
  (7, 0, .aload 6, 2, 6, 0, .null),
  (9, 0, .ifnonnull 5, 3, 14, 0, .null),
  (12, 0, .iconst (-1), 1, 0, 0, .int (-1)),
  (13, 0, .ireturn, 1, 0, 0, .null),
  (14, 0, .aload 6, 2, 6, 0, .null),
  (16, 0, .lload_n 2, 1, 2, 0, .null),
  (17, 0, .lload 4, 2, 4, 0, .null),
  (19, 0, .iconst 1, 1, 0, 0, .int (1)),
  (20, 0, .aload_n 0, 1, 0, 0, .null),
  (21, 401, .getfield 53, 3, 11, 6, .null),
  (24, 1108, .invokevirtual 175, 3, 41, 4, .null),
  (27, 0, .aload_n 0, 1, 0, 0, .null),
  (28, 401, .getfield 53, 3, 11, 6, .null),
  (31, 1141, .invokevirtual 179, 3, 132, 0, .null),
  (34, 0, .ireturn, 1, 0, 0, .null)]
abbrev id_X11_among : Nat := 165
def mi_X11_among : MI := (yX11_among, cX11_among, 7, (some .int), 11, ct_X11_among)
theorem fe_X11_among_0 : mj_f mi_X11_among 0 = some (.aload_n 0, 1, 0, 0, .null) := by decide +kernel
theorem fe_X11_among_1 : mj_f mi_X11_among 1 = some (.iload_n 1, 1, 1, 0, .null) := by decide +kernel
theorem fe_X11_among_2 : mj_f mi_X11_among 2 = some (.invokevirtual 79, 3, 171, 1, .null) := by decide +kernel
theorem fe_X11_among_5 : mj_f mi_X11_among 5 = some (.astore 6, 2, 6, 0, .null) := by decide +kernel
theorem fe_X11_among_7 : mj_f mi_X11_among 7 = some (.aload 6, 2, 6, 0, .null) := by decide +kernel
theorem fe_X11_among_9 : mj_f mi_X11_among 9 = some (.ifnonnull 5, 3, 14, 0, .null) := by decide +kernel
theorem fe_X11_among_12 : mj_f mi_X11_among 12 = some (.iconst (-1), 1, 0, 0, .int (-1)) := by decide +kernel
theorem fe_X11_among_13 : mj_f mi_X11_among 13 = some (.ireturn, 1, 0, 0, .null) := by decide +kernel
theorem fe_X11_among_14 : mj_f mi_X11_among 14 = some (.aload 6, 2, 6, 0, .null) := by decide +kernel
theorem fe_X11_among_16 : mj_f mi_X11_among 16 = some (.lload_n 2, 1, 2, 0, .null) := by decide +kernel
theorem fe_X11_among_17 : mj_f mi_X11_among 17 = some (.lload 4, 2, 4, 0, .null) := by decide +kernel
theorem fe_X11_among_19 : mj_f mi_X11_among 19 = some (.iconst 1, 1, 0, 0, .int (1)) := by decide +kernel
theorem fe_X11_among_20 : mj_f mi_X11_among 20 = some (.aload_n 0, 1, 0, 0, .null) := by decide +kernel
theorem fe_X11_among_21 : mj_f mi_X11_among 21 = some (.getfield 53, 3, 11, 6, .null) := by decide +kernel
theorem fe_X11_among_24 : mj_f mi_X11_among 24 = some (.invokevirtual 175, 3, 41, 4, .null) := by decide +kernel
theorem fe_X11_among_27 : mj_f mi_X11_among 27 = some (.aload_n 0, 1, 0, 0, .null) := by decide +kernel
theorem fe_X11_among_28 : mj_f mi_X11_among 28 = some (.getfield 53, 3, 11, 6, .null) := by decide +kernel
theorem fe_X11_among_31 : mj_f mi_X11_among 31 = some (.invokevirtual 179, 3, 132, 0, .null) := by decide +kernel
theorem fe_X11_among_34 : mj_f mi_X11_among 34 = some (.ireturn, 1, 0, 0, .null) := by decide +kernel
def ct_X11_sum : MJT := [
  (0, 0, .aload_n 0, 1, 0, 0, .null),
  (1, 0, .iload_n 1, 1, 1, 0, .null),
  (2, 451, .invokevirtual 79, 3, 171, 1, .null),
  (5, 0, .astore 6, 2, 6, 0, .null),
  (7, 0, .aload 6, 2, 6, 0, .null),
  (9, 0, .ifnonnull 5, 3, 14, 0, .null),
  (12, 0, .lconst 0, 1, 0, 0, .long 0),
  (13, 0, .lreturn, 1, 0, 0, .null),
  (14, 0, .aload 6, 2, 6, 0, .null),
  (16, 0, .lload_n 2, 1, 2, 0, .null),
  (17, 0, .lload 4, 2, 4, 0, .null),
  (19, 0, .iconst 0, 1, 0, 0, .int (0)),
  (20, 0, .aload_n 0, 1, 0, 0, .null),
  (21, 401, .getfield 53, 3, 11, 6, .null),
  (24, 1108, .invokevirtual 175, 3, 41, 4, .null),
  (27, 0, .aload_n 0, 1, 0, 0, .null),
  (28, 401, .getfield 53, 3, 11, 6, .null),
  (31, 1149, .invokevirtual 182, 3, 133, 0, .null),
  (34, 0, .lreturn, 1, 0, 0, .null)]
abbrev id_X11_sum : Nat := 166
def mi_X11_sum : MI := (yX11_sum, cX11_sum, 7, (some .long), 11, ct_X11_sum)
theorem fe_X11_sum_0 : mj_f mi_X11_sum 0 = some (.aload_n 0, 1, 0, 0, .null) := by decide +kernel
theorem fe_X11_sum_1 : mj_f mi_X11_sum 1 = some (.iload_n 1, 1, 1, 0, .null) := by decide +kernel
theorem fe_X11_sum_2 : mj_f mi_X11_sum 2 = some (.invokevirtual 79, 3, 171, 1, .null) := by decide +kernel
theorem fe_X11_sum_5 : mj_f mi_X11_sum 5 = some (.astore 6, 2, 6, 0, .null) := by decide +kernel
theorem fe_X11_sum_7 : mj_f mi_X11_sum 7 = some (.aload 6, 2, 6, 0, .null) := by decide +kernel
theorem fe_X11_sum_9 : mj_f mi_X11_sum 9 = some (.ifnonnull 5, 3, 14, 0, .null) := by decide +kernel
theorem fe_X11_sum_12 : mj_f mi_X11_sum 12 = some (.lconst 0, 1, 0, 0, .long 0) := by decide +kernel
theorem fe_X11_sum_13 : mj_f mi_X11_sum 13 = some (.lreturn, 1, 0, 0, .null) := by decide +kernel
theorem fe_X11_sum_14 : mj_f mi_X11_sum 14 = some (.aload 6, 2, 6, 0, .null) := by decide +kernel
theorem fe_X11_sum_16 : mj_f mi_X11_sum 16 = some (.lload_n 2, 1, 2, 0, .null) := by decide +kernel
theorem fe_X11_sum_17 : mj_f mi_X11_sum 17 = some (.lload 4, 2, 4, 0, .null) := by decide +kernel
theorem fe_X11_sum_19 : mj_f mi_X11_sum 19 = some (.iconst 0, 1, 0, 0, .int (0)) := by decide +kernel
theorem fe_X11_sum_20 : mj_f mi_X11_sum 20 = some (.aload_n 0, 1, 0, 0, .null) := by decide +kernel
theorem fe_X11_sum_21 : mj_f mi_X11_sum 21 = some (.getfield 53, 3, 11, 6, .null) := by decide +kernel
theorem fe_X11_sum_24 : mj_f mi_X11_sum 24 = some (.invokevirtual 175, 3, 41, 4, .null) := by decide +kernel
theorem fe_X11_sum_27 : mj_f mi_X11_sum 27 = some (.aload_n 0, 1, 0, 0, .null) := by decide +kernel
theorem fe_X11_sum_28 : mj_f mi_X11_sum 28 = some (.getfield 53, 3, 11, 6, .null) := by decide +kernel
theorem fe_X11_sum_31 : mj_f mi_X11_sum 31 = some (.invokevirtual 182, 3, 133, 0, .null) := by decide +kernel
theorem fe_X11_sum_34 : mj_f mi_X11_sum 34 = some (.lreturn, 1, 0, 0, .null) := by decide +kernel
def ct_X11_looked : MJT := [
  (0, 0, .aload_n 0, 1, 0, 0, .null),
  (1, 401, .getfield 53, 3, 11, 6, .null),
  (4, 1157, .invokevirtual 186, 3, 134, 0, .null),
  (7, 0, .ireturn, 1, 0, 0, .null)]
abbrev id_X11_looked : Nat := 167
def mi_X11_looked : MI := (yX11_looked, cX11_looked, 1, (some .int), 11, ct_X11_looked)
theorem fe_X11_looked_0 : mj_f mi_X11_looked 0 = some (.aload_n 0, 1, 0, 0, .null) := by decide +kernel
theorem fe_X11_looked_1 : mj_f mi_X11_looked 1 = some (.getfield 53, 3, 11, 6, .null) := by decide +kernel
theorem fe_X11_looked_4 : mj_f mi_X11_looked 4 = some (.invokevirtual 186, 3, 134, 0, .null) := by decide +kernel
theorem fe_X11_looked_7 : mj_f mi_X11_looked 7 = some (.ireturn, 1, 0, 0, .null) := by decide +kernel
def ct_X11_take : MJT := [
  (0, 0, .aload_n 0, 1, 0, 0, .null),
  (1, 0, .iload_n 1, 1, 1, 0, .null),
  (2, 0, .iload_n 2, 1, 2, 0, .null),
  (3, 1064, .invokevirtual 150, 3, 172, 2, .null),
  (6, 0, .astore_n 3, 1, 3, 0, .null),
  (7, 0, .aload_n 3, 1, 3, 0, .null),
  (8, 0, .ifnull 10, 3, 18, 0, .null),
  (11, 0, .aload_n 3, 1, 3, 0, .null),
  (12, 1059, .invokevirtual 147, 3, 71, 0, .null),
  (15, 0, .ifCond .le 5, 3, 20, 0, .null),
  (18, 0, .iconst (-1), 1, 0, 0, .int (-1)),
  (19, 0, .ireturn, 1, 0, 0, .null),
  (20, 0, .aload_n 3, 1, 3, 0, .null),
  (21, 0, .aload_n 0, 1, 0, 0, .null),
  (22, 396, .getfield 18, 3, 11, 1, .null),
  (25, 1165, .invokevirtual 189, 3, 76, 1, .null),
  (28, 0, .aload_n 0, 1, 0, 0, .null),
  (29, 396, .getfield 18, 3, 11, 1, .null),
  (32, 427, .invokevirtual 67, 3, 11, 0, .null),
  (35, 0, .ireturn, 1, 0, 0, .null)]
abbrev id_X11_take : Nat := 168
def mi_X11_take : MI := (yX11_take, cX11_take, 4, (some .int), 11, ct_X11_take)
theorem fe_X11_take_0 : mj_f mi_X11_take 0 = some (.aload_n 0, 1, 0, 0, .null) := by decide +kernel
theorem fe_X11_take_1 : mj_f mi_X11_take 1 = some (.iload_n 1, 1, 1, 0, .null) := by decide +kernel
theorem fe_X11_take_2 : mj_f mi_X11_take 2 = some (.iload_n 2, 1, 2, 0, .null) := by decide +kernel
theorem fe_X11_take_3 : mj_f mi_X11_take 3 = some (.invokevirtual 150, 3, 172, 2, .null) := by decide +kernel
theorem fe_X11_take_6 : mj_f mi_X11_take 6 = some (.astore_n 3, 1, 3, 0, .null) := by decide +kernel
theorem fe_X11_take_7 : mj_f mi_X11_take 7 = some (.aload_n 3, 1, 3, 0, .null) := by decide +kernel
theorem fe_X11_take_8 : mj_f mi_X11_take 8 = some (.ifnull 10, 3, 18, 0, .null) := by decide +kernel
theorem fe_X11_take_11 : mj_f mi_X11_take 11 = some (.aload_n 3, 1, 3, 0, .null) := by decide +kernel
theorem fe_X11_take_12 : mj_f mi_X11_take 12 = some (.invokevirtual 147, 3, 71, 0, .null) := by decide +kernel
theorem fe_X11_take_15 : mj_f mi_X11_take 15 = some (.ifCond .le 5, 3, 20, 0, .null) := by decide +kernel
theorem fe_X11_take_18 : mj_f mi_X11_take 18 = some (.iconst (-1), 1, 0, 0, .int (-1)) := by decide +kernel
theorem fe_X11_take_19 : mj_f mi_X11_take 19 = some (.ireturn, 1, 0, 0, .null) := by decide +kernel
theorem fe_X11_take_20 : mj_f mi_X11_take 20 = some (.aload_n 3, 1, 3, 0, .null) := by decide +kernel
theorem fe_X11_take_21 : mj_f mi_X11_take 21 = some (.aload_n 0, 1, 0, 0, .null) := by decide +kernel
theorem fe_X11_take_22 : mj_f mi_X11_take 22 = some (.getfield 18, 3, 11, 1, .null) := by decide +kernel
theorem fe_X11_take_25 : mj_f mi_X11_take 25 = some (.invokevirtual 189, 3, 76, 1, .null) := by decide +kernel
theorem fe_X11_take_28 : mj_f mi_X11_take 28 = some (.aload_n 0, 1, 0, 0, .null) := by decide +kernel
theorem fe_X11_take_29 : mj_f mi_X11_take 29 = some (.getfield 18, 3, 11, 1, .null) := by decide +kernel
theorem fe_X11_take_32 : mj_f mi_X11_take 32 = some (.invokevirtual 67, 3, 11, 0, .null) := by decide +kernel
theorem fe_X11_take_35 : mj_f mi_X11_take 35 = some (.ireturn, 1, 0, 0, .null) := by decide +kernel
def ct_X11_load : MJT := [
  (0, 0, .aload_n 0, 1, 0, 0, .null),
  (1, 0, .iconst 0, 1, 0, 0, .int (0)),
  (2, 402, .putfield 57, 3, 11, 7, .int 0),
  (5, 0, .aload_n 0, 1, 0, 0, .null),
  (6, 0, .iconst (-1), 1, 0, 0, .int (-1)),
  (7, 403, .putfield 61, 3, 11, 8, .int 0),
  (10, 0, .aload_n 0, 1, 0, 0, .null),
  (11, 0, .iload_n 1, 1, 1, 0, .null),
  (12, 451, .invokevirtual 79, 3, 171, 1, .null),
  (15, 0, .astore_n 2, 1, 2, 0, .null),
  (16, 0, .bipush (-2), 2, 0, 0, .int (-2)),
  (18, 0, .istore_n 3, 1, 3, 0, .null),
  (19, 0, .aload_n 0, 1, 0, 0, .null),
  (20, 397, .getfield 25, 3, 11, 2, .null),
  (23, 0, .aload_n 0, 1, 0, 0, .null),
  (24, 396, .getfield 18, 3, 11, 1, .null),
  (27, 0, .aload_n 0, 1, 0, 0, .null),
  (28, 399, .getfield 39, 3, 11, 4, .null),
  (31, 1178, .invokevirtual 193, 3, 88, 2, .null),
  (34, 0, .ifCond .ne 30, 3, 64, 0, .null),
  (37, 0, .aload_n 0, 1, 0, 0, .null),
  (38, 0, .aload_n 0, 1, 0, 0, .null),
  (39, 397, .getfield 25, 3, 11, 2, .null),
  (42, 1179, .invokevirtual 197, 3, 84, 0, .null),
  (45, 402, .putfield 57, 3, 11, 7, .int 0),
  (48, 0, .aload_n 0, 1, 0, 0, .null),
  (49, 0, .aload_n 0, 1, 0, 0, .null),
  (50, 397, .getfield 25, 3, 11, 2, .null),
  (53, 1183, .invokevirtual 200, 3, 85, 0, .null),
  (56, 403, .putfield 61, 3, 11, 8, .int 0),
  (59, 0, .iconst (-1), 1, 0, 0, .int (-1)),
  (60, 0, .istore_n 3, 1, 3, 0, .null),
  (61, 0, .goto 127, 3, 188, 0, .null),
  (64, 0, .aload_n 2, 1, 2, 0, .null),
  (65, 0, .ifnull 123, 3, 188, 0, .null),
  (68, 0, .aload_n 2, 1, 2, 0, .null),
  (69, 962, .invokevirtual 92, 3, 24, 0, .null),
  (72, 0, .aload_n 0, 1, 0, 0, .null),
  (73, 399, .getfield 39, 3, 11, 4, .null),
  (76, 1187, .invokevirtual 203, 3, 1, 0, .null),
  (79, 0, .iadd, 1, 0, 0, .null),
  (80, 0, .sipush 160, 3, 0, 0, .int (160)),
  (83, 0, .if_icmp .gt 105, 3, 188, 0, .null),
  (86, 0, .aload_n 2, 1, 2, 0, .null),
  (87, 962, .invokevirtual 92, 3, 24, 0, .null),
  (90, 0, .bipush 32, 2, 0, 0, .int (32)),
  (92, 0, .irem, 1, 0, 0, .null),
  (93, 0, .ifCond .ne 7, 3, 100, 0, .null),
  (96, 0, .iconst 1, 1, 0, 0, .int (1)),
  (97, 0, .goto 4, 3, 101, 0, .null),
  (100, 0, .iconst 0, 1, 0, 0, .int (0)),
  (101, 0, .istore 4, 2, 4, 0, .null),
  (103, 0, .iload 4, 2, 4, 0, .null),
  (105, 0, .ifCond .eq 29, 3, 134, 0, .null),
  (108, 0, .aload_n 2, 1, 2, 0, .null),
  (109, 0, .aload_n 0, 1, 0, 0, .null),
  (110, 396, .getfield 18, 3, 11, 1, .null),
  (113, 0, .aload_n 0, 1, 0, 0, .null),
  (114, 399, .getfield 39, 3, 11, 4, .null),
  (117, 0, .aload_n 0, 1, 0, 0, .null),
  (118, 397, .getfield 25, 3, 11, 2, .null),
  (121, 1188, .invokevirtual 204, 3, 86, 0, .null),
  (124, 0, .aload_n 0, 1, 0, 0, .null),
  (125, 397, .getfield 25, 3, 11, 2, .null),
  (128, 1192, .invokevirtual 207, 3, 87, 0, .null),
  (131, 1196, .invokevirtual 210, 3, 37, 4, .null),
  (134, 0, .iconst 0, 1, 0, 0, .int (0)),
  (135, 0, .istore 5, 2, 5, 0, .null),
  (137, 0, .iload 4, 2, 4, 0, .null),
  (139, 0, .ifCond .ne 44, 3, 183, 0, .null),
  (142, 0, .iload 5, 2, 5, 0, .null),
  (144, 0, .aload_n 0, 1, 0, 0, .null),
  (145, 399, .getfield 39, 3, 11, 4, .null),
  (148, 1187, .invokevirtual 203, 3, 1, 0, .null),
  (151, 0, .if_icmp .ge 32, 3, 183, 0, .null),
  (154, 0, .aload_n 2, 1, 2, 0, .null),
  (155, 0, .aload_n 0, 1, 0, 0, .null),
  (156, 399, .getfield 39, 3, 11, 4, .null),
  (159, 0, .iload 5, 2, 5, 0, .null),
  (161, 1034, .invokevirtual 120, 3, 2, 1, .null),
  (164, 0, .aload_n 0, 1, 0, 0, .null),
  (165, 399, .getfield 39, 3, 11, 4, .null),
  (168, 0, .iload 5, 2, 5, 0, .null),
  (170, 1039, .invokevirtual 123, 3, 3, 1, .null),
  (173, 463, .invokevirtual 87, 3, 34, 2, .null),
  (176, 0, .pop, 1, 0, 0, .null),
  (177, 0, .iinc 5 1, 3, 5, 0, .int (1)),
  (180, 0, .goto (-43), 3, 137, 0, .null),
  (183, 0, .aload_n 2, 1, 2, 0, .null),
  (184, 962, .invokevirtual 92, 3, 24, 0, .null),
  (187, 0, .istore_n 3, 1, 3, 0, .null),
  (188, 0, .aload_n 0, 1, 0, 0, .null),
  (189, 396, .getfield 18, 3, 11, 1, .null),
  (192, 0, .iconst 0, 1, 0, 0, .int (0)),
  (193, 443, .invokevirtual 75, 3, 12, 1, .null),
  (196, 0, .pop, 1, 0, 0, .null),
  (197, 0, .iload_n 3, 1, 3, 0, .null),
  (198, 0, .ireturn, 1, 0, 0, .null)]
abbrev id_X11_load : Nat := 169
def mi_X11_load : MI := (yX11_load, cX11_load, 6, (some .int), 11, ct_X11_load)
theorem fe_X11_load_0 : mj_f mi_X11_load 0 = some (.aload_n 0, 1, 0, 0, .null) := by decide +kernel
theorem fe_X11_load_1 : mj_f mi_X11_load 1 = some (.iconst 0, 1, 0, 0, .int (0)) := by decide +kernel
theorem fe_X11_load_2 : mj_f mi_X11_load 2 = some (.putfield 57, 3, 11, 7, .int 0) := by decide +kernel
theorem fe_X11_load_5 : mj_f mi_X11_load 5 = some (.aload_n 0, 1, 0, 0, .null) := by decide +kernel
theorem fe_X11_load_6 : mj_f mi_X11_load 6 = some (.iconst (-1), 1, 0, 0, .int (-1)) := by decide +kernel
theorem fe_X11_load_7 : mj_f mi_X11_load 7 = some (.putfield 61, 3, 11, 8, .int 0) := by decide +kernel
theorem fe_X11_load_10 : mj_f mi_X11_load 10 = some (.aload_n 0, 1, 0, 0, .null) := by decide +kernel
theorem fe_X11_load_11 : mj_f mi_X11_load 11 = some (.iload_n 1, 1, 1, 0, .null) := by decide +kernel
theorem fe_X11_load_12 : mj_f mi_X11_load 12 = some (.invokevirtual 79, 3, 171, 1, .null) := by decide +kernel
theorem fe_X11_load_15 : mj_f mi_X11_load 15 = some (.astore_n 2, 1, 2, 0, .null) := by decide +kernel
theorem fe_X11_load_16 : mj_f mi_X11_load 16 = some (.bipush (-2), 2, 0, 0, .int (-2)) := by decide +kernel
theorem fe_X11_load_18 : mj_f mi_X11_load 18 = some (.istore_n 3, 1, 3, 0, .null) := by decide +kernel
theorem fe_X11_load_19 : mj_f mi_X11_load 19 = some (.aload_n 0, 1, 0, 0, .null) := by decide +kernel
theorem fe_X11_load_20 : mj_f mi_X11_load 20 = some (.getfield 25, 3, 11, 2, .null) := by decide +kernel
theorem fe_X11_load_23 : mj_f mi_X11_load 23 = some (.aload_n 0, 1, 0, 0, .null) := by decide +kernel
theorem fe_X11_load_24 : mj_f mi_X11_load 24 = some (.getfield 18, 3, 11, 1, .null) := by decide +kernel
theorem fe_X11_load_27 : mj_f mi_X11_load 27 = some (.aload_n 0, 1, 0, 0, .null) := by decide +kernel
theorem fe_X11_load_28 : mj_f mi_X11_load 28 = some (.getfield 39, 3, 11, 4, .null) := by decide +kernel
theorem fe_X11_load_31 : mj_f mi_X11_load 31 = some (.invokevirtual 193, 3, 88, 2, .null) := by decide +kernel
theorem fe_X11_load_34 : mj_f mi_X11_load 34 = some (.ifCond .ne 30, 3, 64, 0, .null) := by decide +kernel
theorem fe_X11_load_37 : mj_f mi_X11_load 37 = some (.aload_n 0, 1, 0, 0, .null) := by decide +kernel
theorem fe_X11_load_38 : mj_f mi_X11_load 38 = some (.aload_n 0, 1, 0, 0, .null) := by decide +kernel
theorem fe_X11_load_39 : mj_f mi_X11_load 39 = some (.getfield 25, 3, 11, 2, .null) := by decide +kernel
theorem fe_X11_load_42 : mj_f mi_X11_load 42 = some (.invokevirtual 197, 3, 84, 0, .null) := by decide +kernel
theorem fe_X11_load_45 : mj_f mi_X11_load 45 = some (.putfield 57, 3, 11, 7, .int 0) := by decide +kernel
theorem fe_X11_load_48 : mj_f mi_X11_load 48 = some (.aload_n 0, 1, 0, 0, .null) := by decide +kernel
theorem fe_X11_load_49 : mj_f mi_X11_load 49 = some (.aload_n 0, 1, 0, 0, .null) := by decide +kernel
theorem fe_X11_load_50 : mj_f mi_X11_load 50 = some (.getfield 25, 3, 11, 2, .null) := by decide +kernel
theorem fe_X11_load_53 : mj_f mi_X11_load 53 = some (.invokevirtual 200, 3, 85, 0, .null) := by decide +kernel
theorem fe_X11_load_56 : mj_f mi_X11_load 56 = some (.putfield 61, 3, 11, 8, .int 0) := by decide +kernel
theorem fe_X11_load_59 : mj_f mi_X11_load 59 = some (.iconst (-1), 1, 0, 0, .int (-1)) := by decide +kernel
theorem fe_X11_load_60 : mj_f mi_X11_load 60 = some (.istore_n 3, 1, 3, 0, .null) := by decide +kernel
theorem fe_X11_load_61 : mj_f mi_X11_load 61 = some (.goto 127, 3, 188, 0, .null) := by decide +kernel
theorem fe_X11_load_64 : mj_f mi_X11_load 64 = some (.aload_n 2, 1, 2, 0, .null) := by decide +kernel
theorem fe_X11_load_65 : mj_f mi_X11_load 65 = some (.ifnull 123, 3, 188, 0, .null) := by decide +kernel
theorem fe_X11_load_68 : mj_f mi_X11_load 68 = some (.aload_n 2, 1, 2, 0, .null) := by decide +kernel
theorem fe_X11_load_69 : mj_f mi_X11_load 69 = some (.invokevirtual 92, 3, 24, 0, .null) := by decide +kernel
theorem fe_X11_load_72 : mj_f mi_X11_load 72 = some (.aload_n 0, 1, 0, 0, .null) := by decide +kernel
theorem fe_X11_load_73 : mj_f mi_X11_load 73 = some (.getfield 39, 3, 11, 4, .null) := by decide +kernel
theorem fe_X11_load_76 : mj_f mi_X11_load 76 = some (.invokevirtual 203, 3, 1, 0, .null) := by decide +kernel
theorem fe_X11_load_79 : mj_f mi_X11_load 79 = some (.iadd, 1, 0, 0, .null) := by decide +kernel
theorem fe_X11_load_80 : mj_f mi_X11_load 80 = some (.sipush 160, 3, 0, 0, .int (160)) := by decide +kernel
theorem fe_X11_load_83 : mj_f mi_X11_load 83 = some (.if_icmp .gt 105, 3, 188, 0, .null) := by decide +kernel
theorem fe_X11_load_86 : mj_f mi_X11_load 86 = some (.aload_n 2, 1, 2, 0, .null) := by decide +kernel
theorem fe_X11_load_87 : mj_f mi_X11_load 87 = some (.invokevirtual 92, 3, 24, 0, .null) := by decide +kernel
theorem fe_X11_load_90 : mj_f mi_X11_load 90 = some (.bipush 32, 2, 0, 0, .int (32)) := by decide +kernel
theorem fe_X11_load_92 : mj_f mi_X11_load 92 = some (.irem, 1, 0, 0, .null) := by decide +kernel
theorem fe_X11_load_93 : mj_f mi_X11_load 93 = some (.ifCond .ne 7, 3, 100, 0, .null) := by decide +kernel
theorem fe_X11_load_96 : mj_f mi_X11_load 96 = some (.iconst 1, 1, 0, 0, .int (1)) := by decide +kernel
theorem fe_X11_load_97 : mj_f mi_X11_load 97 = some (.goto 4, 3, 101, 0, .null) := by decide +kernel
theorem fe_X11_load_100 : mj_f mi_X11_load 100 = some (.iconst 0, 1, 0, 0, .int (0)) := by decide +kernel
theorem fe_X11_load_101 : mj_f mi_X11_load 101 = some (.istore 4, 2, 4, 0, .null) := by decide +kernel
theorem fe_X11_load_103 : mj_f mi_X11_load 103 = some (.iload 4, 2, 4, 0, .null) := by decide +kernel
theorem fe_X11_load_105 : mj_f mi_X11_load 105 = some (.ifCond .eq 29, 3, 134, 0, .null) := by decide +kernel
theorem fe_X11_load_108 : mj_f mi_X11_load 108 = some (.aload_n 2, 1, 2, 0, .null) := by decide +kernel
theorem fe_X11_load_109 : mj_f mi_X11_load 109 = some (.aload_n 0, 1, 0, 0, .null) := by decide +kernel
theorem fe_X11_load_110 : mj_f mi_X11_load 110 = some (.getfield 18, 3, 11, 1, .null) := by decide +kernel
theorem fe_X11_load_113 : mj_f mi_X11_load 113 = some (.aload_n 0, 1, 0, 0, .null) := by decide +kernel
theorem fe_X11_load_114 : mj_f mi_X11_load 114 = some (.getfield 39, 3, 11, 4, .null) := by decide +kernel
theorem fe_X11_load_117 : mj_f mi_X11_load 117 = some (.aload_n 0, 1, 0, 0, .null) := by decide +kernel
theorem fe_X11_load_118 : mj_f mi_X11_load 118 = some (.getfield 25, 3, 11, 2, .null) := by decide +kernel
theorem fe_X11_load_121 : mj_f mi_X11_load 121 = some (.invokevirtual 204, 3, 86, 0, .null) := by decide +kernel
theorem fe_X11_load_124 : mj_f mi_X11_load 124 = some (.aload_n 0, 1, 0, 0, .null) := by decide +kernel
theorem fe_X11_load_125 : mj_f mi_X11_load 125 = some (.getfield 25, 3, 11, 2, .null) := by decide +kernel
theorem fe_X11_load_128 : mj_f mi_X11_load 128 = some (.invokevirtual 207, 3, 87, 0, .null) := by decide +kernel
theorem fe_X11_load_131 : mj_f mi_X11_load 131 = some (.invokevirtual 210, 3, 37, 4, .null) := by decide +kernel
theorem fe_X11_load_134 : mj_f mi_X11_load 134 = some (.iconst 0, 1, 0, 0, .int (0)) := by decide +kernel
theorem fe_X11_load_135 : mj_f mi_X11_load 135 = some (.istore 5, 2, 5, 0, .null) := by decide +kernel
theorem fe_X11_load_137 : mj_f mi_X11_load 137 = some (.iload 4, 2, 4, 0, .null) := by decide +kernel
theorem fe_X11_load_139 : mj_f mi_X11_load 139 = some (.ifCond .ne 44, 3, 183, 0, .null) := by decide +kernel
theorem fe_X11_load_142 : mj_f mi_X11_load 142 = some (.iload 5, 2, 5, 0, .null) := by decide +kernel
theorem fe_X11_load_144 : mj_f mi_X11_load 144 = some (.aload_n 0, 1, 0, 0, .null) := by decide +kernel
theorem fe_X11_load_145 : mj_f mi_X11_load 145 = some (.getfield 39, 3, 11, 4, .null) := by decide +kernel
theorem fe_X11_load_148 : mj_f mi_X11_load 148 = some (.invokevirtual 203, 3, 1, 0, .null) := by decide +kernel
theorem fe_X11_load_151 : mj_f mi_X11_load 151 = some (.if_icmp .ge 32, 3, 183, 0, .null) := by decide +kernel
theorem fe_X11_load_154 : mj_f mi_X11_load 154 = some (.aload_n 2, 1, 2, 0, .null) := by decide +kernel
theorem fe_X11_load_155 : mj_f mi_X11_load 155 = some (.aload_n 0, 1, 0, 0, .null) := by decide +kernel
theorem fe_X11_load_156 : mj_f mi_X11_load 156 = some (.getfield 39, 3, 11, 4, .null) := by decide +kernel
theorem fe_X11_load_159 : mj_f mi_X11_load 159 = some (.iload 5, 2, 5, 0, .null) := by decide +kernel
theorem fe_X11_load_161 : mj_f mi_X11_load 161 = some (.invokevirtual 120, 3, 2, 1, .null) := by decide +kernel
theorem fe_X11_load_164 : mj_f mi_X11_load 164 = some (.aload_n 0, 1, 0, 0, .null) := by decide +kernel
theorem fe_X11_load_165 : mj_f mi_X11_load 165 = some (.getfield 39, 3, 11, 4, .null) := by decide +kernel
theorem fe_X11_load_168 : mj_f mi_X11_load 168 = some (.iload 5, 2, 5, 0, .null) := by decide +kernel
theorem fe_X11_load_170 : mj_f mi_X11_load 170 = some (.invokevirtual 123, 3, 3, 1, .null) := by decide +kernel
theorem fe_X11_load_173 : mj_f mi_X11_load 173 = some (.invokevirtual 87, 3, 34, 2, .null) := by decide +kernel
theorem fe_X11_load_176 : mj_f mi_X11_load 176 = some (.pop, 1, 0, 0, .null) := by decide +kernel
theorem fe_X11_load_177 : mj_f mi_X11_load 177 = some (.iinc 5 1, 3, 5, 0, .int (1)) := by decide +kernel
theorem fe_X11_load_180 : mj_f mi_X11_load 180 = some (.goto (-43), 3, 137, 0, .null) := by decide +kernel
theorem fe_X11_load_183 : mj_f mi_X11_load 183 = some (.aload_n 2, 1, 2, 0, .null) := by decide +kernel
theorem fe_X11_load_184 : mj_f mi_X11_load 184 = some (.invokevirtual 92, 3, 24, 0, .null) := by decide +kernel
theorem fe_X11_load_187 : mj_f mi_X11_load 187 = some (.istore_n 3, 1, 3, 0, .null) := by decide +kernel
theorem fe_X11_load_188 : mj_f mi_X11_load 188 = some (.aload_n 0, 1, 0, 0, .null) := by decide +kernel
theorem fe_X11_load_189 : mj_f mi_X11_load 189 = some (.getfield 18, 3, 11, 1, .null) := by decide +kernel
theorem fe_X11_load_192 : mj_f mi_X11_load 192 = some (.iconst 0, 1, 0, 0, .int (0)) := by decide +kernel
theorem fe_X11_load_193 : mj_f mi_X11_load 193 = some (.invokevirtual 75, 3, 12, 1, .null) := by decide +kernel
theorem fe_X11_load_196 : mj_f mi_X11_load 196 = some (.pop, 1, 0, 0, .null) := by decide +kernel
theorem fe_X11_load_197 : mj_f mi_X11_load 197 = some (.iload_n 3, 1, 3, 0, .null) := by decide +kernel
theorem fe_X11_load_198 : mj_f mi_X11_load 198 = some (.ireturn, 1, 0, 0, .null) := by decide +kernel
def ct_X11_fault : MJT := [
  (0, 0, .iload_n 1, 1, 1, 0, .null),
  (1, 0, .lookupswitch 37 #[(0, 27), (1, 32)], 27, 0, 0, .null),
  (28, 0, .aload_n 0, 1, 0, 0, .null),
  (29, 402, .getfield 57, 3, 11, 7, .int 0),
  (32, 0, .ireturn, 1, 0, 0, .null),
  (33, 0, .aload_n 0, 1, 0, 0, .null),
  (34, 403, .getfield 61, 3, 11, 8, .int 0),
  (37, 0, .ireturn, 1, 0, 0, .null),
  (38, 0, .iconst (-1), 1, 0, 0, .int (-1)),
  (39, 0, .ireturn, 1, 0, 0, .null)]
abbrev id_X11_fault : Nat := 170
def mi_X11_fault : MI := (yX11_fault, cX11_fault, 2, (some .int), 11, ct_X11_fault)
theorem fe_X11_fault_0 : mj_f mi_X11_fault 0 = some (.iload_n 1, 1, 1, 0, .null) := by decide +kernel
theorem fe_X11_fault_1 : mj_f mi_X11_fault 1 = some (.lookupswitch 37 #[(0, 27), (1, 32)], 27, 0, 0, .null) := by decide +kernel
theorem fe_X11_fault_28 : mj_f mi_X11_fault 28 = some (.aload_n 0, 1, 0, 0, .null) := by decide +kernel
theorem fe_X11_fault_29 : mj_f mi_X11_fault 29 = some (.getfield 57, 3, 11, 7, .int 0) := by decide +kernel
theorem fe_X11_fault_32 : mj_f mi_X11_fault 32 = some (.ireturn, 1, 0, 0, .null) := by decide +kernel
theorem fe_X11_fault_33 : mj_f mi_X11_fault 33 = some (.aload_n 0, 1, 0, 0, .null) := by decide +kernel
theorem fe_X11_fault_34 : mj_f mi_X11_fault 34 = some (.getfield 61, 3, 11, 8, .int 0) := by decide +kernel
theorem fe_X11_fault_37 : mj_f mi_X11_fault 37 = some (.ireturn, 1, 0, 0, .null) := by decide +kernel
theorem fe_X11_fault_38 : mj_f mi_X11_fault 38 = some (.iconst (-1), 1, 0, 0, .int (-1)) := by decide +kernel
theorem fe_X11_fault_39 : mj_f mi_X11_fault 39 = some (.ireturn, 1, 0, 0, .null) := by decide +kernel
def ct_X11_columnOf : MJT := [
  (0, 0, .iload_n 1, 1, 1, 0, .null),
  (1, 0, .ifCond .lt 8, 3, 9, 0, .null),
  (4, 0, .iload_n 1, 1, 1, 0, .null),
  (5, 0, .iconst 4, 1, 0, 0, .int (4)),
  (6, 0, .if_icmp .lt 7, 3, 13, 0, .null),
  (9, 0, .aconst_null, 1, 0, 0, .null),
  (10, 0, .goto 9, 3, 19, 0, .null),
  (13, 0, .aload_n 0, 1, 0, 0, .null),
  (14, 395, .getfield 11, 3, 11, 0, .null),
  (17, 0, .iload_n 1, 1, 1, 0, .null),
  (18, 0, .aaload, 1, 0, 0, .null),
  (19, 0, .areturn, 1, 0, 0, .null)]
abbrev id_X11_columnOf : Nat := 171
def mi_X11_columnOf : MI := (yX11_columnOf, cX11_columnOf, 2, (some (.object "PackedColumns$Column")), 11, ct_X11_columnOf)
theorem fe_X11_columnOf_0 : mj_f mi_X11_columnOf 0 = some (.iload_n 1, 1, 1, 0, .null) := by decide +kernel
theorem fe_X11_columnOf_1 : mj_f mi_X11_columnOf 1 = some (.ifCond .lt 8, 3, 9, 0, .null) := by decide +kernel
theorem fe_X11_columnOf_4 : mj_f mi_X11_columnOf 4 = some (.iload_n 1, 1, 1, 0, .null) := by decide +kernel
theorem fe_X11_columnOf_5 : mj_f mi_X11_columnOf 5 = some (.iconst 4, 1, 0, 0, .int (4)) := by decide +kernel
theorem fe_X11_columnOf_6 : mj_f mi_X11_columnOf 6 = some (.if_icmp .lt 7, 3, 13, 0, .null) := by decide +kernel
theorem fe_X11_columnOf_9 : mj_f mi_X11_columnOf 9 = some (.aconst_null, 1, 0, 0, .null) := by decide +kernel
theorem fe_X11_columnOf_10 : mj_f mi_X11_columnOf 10 = some (.goto 9, 3, 19, 0, .null) := by decide +kernel
theorem fe_X11_columnOf_13 : mj_f mi_X11_columnOf 13 = some (.aload_n 0, 1, 0, 0, .null) := by decide +kernel
theorem fe_X11_columnOf_14 : mj_f mi_X11_columnOf 14 = some (.getfield 11, 3, 11, 0, .null) := by decide +kernel
theorem fe_X11_columnOf_17 : mj_f mi_X11_columnOf 17 = some (.iload_n 1, 1, 1, 0, .null) := by decide +kernel
theorem fe_X11_columnOf_18 : mj_f mi_X11_columnOf 18 = some (.aaload, 1, 0, 0, .null) := by decide +kernel
theorem fe_X11_columnOf_19 : mj_f mi_X11_columnOf 19 = some (.areturn, 1, 0, 0, .null) := by decide +kernel
def ct_X11_packedPiece : MJT := [
  (0, 0, .aload_n 0, 1, 0, 0, .null),
  (1, 0, .iload_n 1, 1, 1, 0, .null),
  (2, 451, .invokevirtual 79, 3, 171, 1, .null),
  (5, 0, .astore_n 3, 1, 3, 0, .null),
  (6, 0, .aload_n 3, 1, 3, 0, .null),
  (7, 0, .ifnull 19, 3, 26, 0, .null),
  (10, 0, .aload_n 3, 1, 3, 0, .null),
  (11, 0, .iload_n 2, 1, 2, 0, .null),
  (12, 1044, .invokevirtual 127, 3, 27, 1, .null),
  (15, 0, .ifCond .eq 11, 3, 26, 0, .null),
  (18, 0, .aload_n 3, 1, 3, 0, .null),
  (19, 0, .iload_n 2, 1, 2, 0, .null),
  (20, 1052, .invokevirtual 134, 3, 28, 1, .null),
  (23, 0, .ifCond .eq 7, 3, 30, 0, .null),
  (26, 0, .aconst_null, 1, 0, 0, .null),
  (27, 0, .goto 8, 3, 35, 0, .null),
  (30, 0, .aload_n 3, 1, 3, 0, .null),
  (31, 0, .iload_n 2, 1, 2, 0, .null),
  (32, 1053, .invokevirtual 137, 3, 30, 1, .null),
  (35, 0, .areturn, 1, 0, 0, .null)]
abbrev id_X11_packedPiece : Nat := 172
def mi_X11_packedPiece : MI := (yX11_packedPiece, cX11_packedPiece, 4, (some (.object "PackedColumns$Piece")), 11, ct_X11_packedPiece)
theorem fe_X11_packedPiece_0 : mj_f mi_X11_packedPiece 0 = some (.aload_n 0, 1, 0, 0, .null) := by decide +kernel
theorem fe_X11_packedPiece_1 : mj_f mi_X11_packedPiece 1 = some (.iload_n 1, 1, 1, 0, .null) := by decide +kernel
theorem fe_X11_packedPiece_2 : mj_f mi_X11_packedPiece 2 = some (.invokevirtual 79, 3, 171, 1, .null) := by decide +kernel
theorem fe_X11_packedPiece_5 : mj_f mi_X11_packedPiece 5 = some (.astore_n 3, 1, 3, 0, .null) := by decide +kernel
theorem fe_X11_packedPiece_6 : mj_f mi_X11_packedPiece 6 = some (.aload_n 3, 1, 3, 0, .null) := by decide +kernel
theorem fe_X11_packedPiece_7 : mj_f mi_X11_packedPiece 7 = some (.ifnull 19, 3, 26, 0, .null) := by decide +kernel
theorem fe_X11_packedPiece_10 : mj_f mi_X11_packedPiece 10 = some (.aload_n 3, 1, 3, 0, .null) := by decide +kernel
theorem fe_X11_packedPiece_11 : mj_f mi_X11_packedPiece 11 = some (.iload_n 2, 1, 2, 0, .null) := by decide +kernel
theorem fe_X11_packedPiece_12 : mj_f mi_X11_packedPiece 12 = some (.invokevirtual 127, 3, 27, 1, .null) := by decide +kernel
theorem fe_X11_packedPiece_15 : mj_f mi_X11_packedPiece 15 = some (.ifCond .eq 11, 3, 26, 0, .null) := by decide +kernel
theorem fe_X11_packedPiece_18 : mj_f mi_X11_packedPiece 18 = some (.aload_n 3, 1, 3, 0, .null) := by decide +kernel
theorem fe_X11_packedPiece_19 : mj_f mi_X11_packedPiece 19 = some (.iload_n 2, 1, 2, 0, .null) := by decide +kernel
theorem fe_X11_packedPiece_20 : mj_f mi_X11_packedPiece 20 = some (.invokevirtual 134, 3, 28, 1, .null) := by decide +kernel
theorem fe_X11_packedPiece_23 : mj_f mi_X11_packedPiece 23 = some (.ifCond .eq 7, 3, 30, 0, .null) := by decide +kernel
theorem fe_X11_packedPiece_26 : mj_f mi_X11_packedPiece 26 = some (.aconst_null, 1, 0, 0, .null) := by decide +kernel
theorem fe_X11_packedPiece_27 : mj_f mi_X11_packedPiece 27 = some (.goto 8, 3, 35, 0, .null) := by decide +kernel
theorem fe_X11_packedPiece_30 : mj_f mi_X11_packedPiece 30 = some (.aload_n 3, 1, 3, 0, .null) := by decide +kernel
theorem fe_X11_packedPiece_31 : mj_f mi_X11_packedPiece 31 = some (.iload_n 2, 1, 2, 0, .null) := by decide +kernel
theorem fe_X11_packedPiece_32 : mj_f mi_X11_packedPiece 32 = some (.invokevirtual 137, 3, 30, 1, .null) := by decide +kernel
theorem fe_X11_packedPiece_35 : mj_f mi_X11_packedPiece 35 = some (.areturn, 1, 0, 0, .null) := by decide +kernel
def ct_X11_bitsOf : MJT := [
  (0, 0, .bipush 64, 2, 0, 0, .int (64)),
  (2, 0, .lload_n 0, 1, 0, 0, .null),
  (3, 621, .invokestatic 214, 3, 258, 1, .null),
  (6, 0, .isub, 1, 0, 0, .null),
  (7, 0, .ireturn, 1, 0, 0, .null)]
abbrev id_X11_bitsOf : Nat := 173
def mi_X11_bitsOf : MI := (yX11_bitsOf, cX11_bitsOf, 2, (some .int), 11, ct_X11_bitsOf)
theorem fe_X11_bitsOf_0 : mj_f mi_X11_bitsOf 0 = some (.bipush 64, 2, 0, 0, .int (64)) := by decide +kernel
theorem fe_X11_bitsOf_2 : mj_f mi_X11_bitsOf 2 = some (.lload_n 0, 1, 0, 0, .null) := by decide +kernel
theorem fe_X11_bitsOf_3 : mj_f mi_X11_bitsOf 3 = some (.invokestatic 214, 3, 258, 1, .null) := by decide +kernel
theorem fe_X11_bitsOf_6 : mj_f mi_X11_bitsOf 6 = some (.isub, 1, 0, 0, .null) := by decide +kernel
theorem fe_X11_bitsOf_7 : mj_f mi_X11_bitsOf 7 = some (.ireturn, 1, 0, 0, .null) := by decide +kernel
def ct_X11_unsignedOf : MJT := [
  (0, 0, .lload_n 0, 1, 0, 0, .null),
  (1, 0, .iconst 1, 1, 0, 0, .int (1)),
  (2, 0, .lshl, 1, 0, 0, .null),
  (3, 0, .lload_n 0, 1, 0, 0, .null),
  (4, 0, .bipush 63, 2, 0, 0, .int (63)),
  (6, 0, .lshr, 1, 0, 0, .null),
  (7, 0, .lxor, 1, 0, 0, .null),
  (8, 0, .lreturn, 1, 0, 0, .null)]
abbrev id_X11_unsignedOf : Nat := 174
def mi_X11_unsignedOf : MI := (yX11_unsignedOf, cX11_unsignedOf, 2, (some .long), 11, ct_X11_unsignedOf)
theorem fe_X11_unsignedOf_0 : mj_f mi_X11_unsignedOf 0 = some (.lload_n 0, 1, 0, 0, .null) := by decide +kernel
theorem fe_X11_unsignedOf_1 : mj_f mi_X11_unsignedOf 1 = some (.iconst 1, 1, 0, 0, .int (1)) := by decide +kernel
theorem fe_X11_unsignedOf_2 : mj_f mi_X11_unsignedOf 2 = some (.lshl, 1, 0, 0, .null) := by decide +kernel
theorem fe_X11_unsignedOf_3 : mj_f mi_X11_unsignedOf 3 = some (.lload_n 0, 1, 0, 0, .null) := by decide +kernel
theorem fe_X11_unsignedOf_4 : mj_f mi_X11_unsignedOf 4 = some (.bipush 63, 2, 0, 0, .int (63)) := by decide +kernel
theorem fe_X11_unsignedOf_6 : mj_f mi_X11_unsignedOf 6 = some (.lshr, 1, 0, 0, .null) := by decide +kernel
theorem fe_X11_unsignedOf_7 : mj_f mi_X11_unsignedOf 7 = some (.lxor, 1, 0, 0, .null) := by decide +kernel
theorem fe_X11_unsignedOf_8 : mj_f mi_X11_unsignedOf 8 = some (.lreturn, 1, 0, 0, .null) := by decide +kernel
def ct_X11_signedOf : MJT := [
  (0, 0, .lload_n 0, 1, 0, 0, .null),
  (1, 0, .iconst 1, 1, 0, 0, .int (1)),
  (2, 0, .lushr, 1, 0, 0, .null),
  (3, 0, .lload_n 0, 1, 0, 0, .null),
  (4, 0, .lconst 1, 1, 0, 0, .long 1),
  (5, 0, .land, 1, 0, 0, .null),
  (6, 0, .lneg, 1, 0, 0, .null),
  (7, 0, .lxor, 1, 0, 0, .null),
  (8, 0, .lreturn, 1, 0, 0, .null)]
abbrev id_X11_signedOf : Nat := 175
def mi_X11_signedOf : MI := (yX11_signedOf, cX11_signedOf, 2, (some .long), 11, ct_X11_signedOf)
theorem fe_X11_signedOf_0 : mj_f mi_X11_signedOf 0 = some (.lload_n 0, 1, 0, 0, .null) := by decide +kernel
theorem fe_X11_signedOf_1 : mj_f mi_X11_signedOf 1 = some (.iconst 1, 1, 0, 0, .int (1)) := by decide +kernel
theorem fe_X11_signedOf_2 : mj_f mi_X11_signedOf 2 = some (.lushr, 1, 0, 0, .null) := by decide +kernel
theorem fe_X11_signedOf_3 : mj_f mi_X11_signedOf 3 = some (.lload_n 0, 1, 0, 0, .null) := by decide +kernel
theorem fe_X11_signedOf_4 : mj_f mi_X11_signedOf 4 = some (.lconst 1, 1, 0, 0, .long 1) := by decide +kernel
theorem fe_X11_signedOf_5 : mj_f mi_X11_signedOf 5 = some (.land, 1, 0, 0, .null) := by decide +kernel
theorem fe_X11_signedOf_6 : mj_f mi_X11_signedOf 6 = some (.lneg, 1, 0, 0, .null) := by decide +kernel
theorem fe_X11_signedOf_7 : mj_f mi_X11_signedOf 7 = some (.lxor, 1, 0, 0, .null) := by decide +kernel
theorem fe_X11_signedOf_8 : mj_f mi_X11_signedOf 8 = some (.lreturn, 1, 0, 0, .null) := by decide +kernel
def ct_X11_varintLength : MJT := [
  (0, 0, .bipush 70, 2, 0, 0, .int (70)),
  (2, 0, .lload_n 0, 1, 0, 0, .null),
  (3, 0, .lconst 1, 1, 0, 0, .long 1),
  (4, 0, .lor, 1, 0, 0, .null),
  (5, 621, .invokestatic 214, 3, 258, 1, .null),
  (8, 0, .isub, 1, 0, 0, .null),
  (9, 0, .bipush 7, 2, 0, 0, .int (7)),
  (11, 0, .idiv, 1, 0, 0, .null),
  (12, 0, .ireturn, 1, 0, 0, .null)]
abbrev id_X11_varintLength : Nat := 176
def mi_X11_varintLength : MI := (yX11_varintLength, cX11_varintLength, 2, (some .int), 11, ct_X11_varintLength)
theorem fe_X11_varintLength_0 : mj_f mi_X11_varintLength 0 = some (.bipush 70, 2, 0, 0, .int (70)) := by decide +kernel
theorem fe_X11_varintLength_2 : mj_f mi_X11_varintLength 2 = some (.lload_n 0, 1, 0, 0, .null) := by decide +kernel
theorem fe_X11_varintLength_3 : mj_f mi_X11_varintLength 3 = some (.lconst 1, 1, 0, 0, .long 1) := by decide +kernel
theorem fe_X11_varintLength_4 : mj_f mi_X11_varintLength 4 = some (.lor, 1, 0, 0, .null) := by decide +kernel
theorem fe_X11_varintLength_5 : mj_f mi_X11_varintLength 5 = some (.invokestatic 214, 3, 258, 1, .null) := by decide +kernel
theorem fe_X11_varintLength_8 : mj_f mi_X11_varintLength 8 = some (.isub, 1, 0, 0, .null) := by decide +kernel
theorem fe_X11_varintLength_9 : mj_f mi_X11_varintLength 9 = some (.bipush 7, 2, 0, 0, .int (7)) := by decide +kernel
theorem fe_X11_varintLength_11 : mj_f mi_X11_varintLength 11 = some (.idiv, 1, 0, 0, .null) := by decide +kernel
theorem fe_X11_varintLength_12 : mj_f mi_X11_varintLength 12 = some (.ireturn, 1, 0, 0, .null) := by decide +kernel
def ct_X11_layingLength : MJT := [
  (0, 0, .iload_n 0, 1, 0, 0, .null),
  (1, 0, .iload_n 1, 1, 1, 0, .null),
  (2, 0, .imul, 1, 0, 0, .null),
  (3, 0, .bipush 7, 2, 0, 0, .int (7)),
  (5, 0, .iadd, 1, 0, 0, .null),
  (6, 0, .bipush 8, 2, 0, 0, .int (8)),
  (8, 0, .idiv, 1, 0, 0, .null),
  (9, 0, .ireturn, 1, 0, 0, .null)]
abbrev id_X11_layingLength : Nat := 177
def mi_X11_layingLength : MI := (yX11_layingLength, cX11_layingLength, 2, (some .int), 11, ct_X11_layingLength)
theorem fe_X11_layingLength_0 : mj_f mi_X11_layingLength 0 = some (.iload_n 0, 1, 0, 0, .null) := by decide +kernel
theorem fe_X11_layingLength_1 : mj_f mi_X11_layingLength 1 = some (.iload_n 1, 1, 1, 0, .null) := by decide +kernel
theorem fe_X11_layingLength_2 : mj_f mi_X11_layingLength 2 = some (.imul, 1, 0, 0, .null) := by decide +kernel
theorem fe_X11_layingLength_3 : mj_f mi_X11_layingLength 3 = some (.bipush 7, 2, 0, 0, .int (7)) := by decide +kernel
theorem fe_X11_layingLength_5 : mj_f mi_X11_layingLength 5 = some (.iadd, 1, 0, 0, .null) := by decide +kernel
theorem fe_X11_layingLength_6 : mj_f mi_X11_layingLength 6 = some (.bipush 8, 2, 0, 0, .int (8)) := by decide +kernel
theorem fe_X11_layingLength_8 : mj_f mi_X11_layingLength 8 = some (.idiv, 1, 0, 0, .null) := by decide +kernel
theorem fe_X11_layingLength_9 : mj_f mi_X11_layingLength 9 = some (.ireturn, 1, 0, 0, .null) := by decide +kernel
def ct_X11_pathLength : MJT := [
  (0, 0, .iload_n 0, 1, 0, 0, .null),
  (1, 0, .bipush 8, 2, 0, 0, .int (8)),
  (3, 0, .if_icmp .ge 5, 3, 8, 0, .null),
  (6, 0, .iconst 1, 1, 0, 0, .int (1)),
  (7, 0, .ireturn, 1, 0, 0, .null),
  (8, 0, .iload_n 0, 1, 0, 0, .null),
  (9, 0, .bipush 64, 2, 0, 0, .int (64)),
  (11, 0, .if_icmp .ge 7, 3, 18, 0, .null),
  (14, 0, .iconst 2, 1, 0, 0, .int (2)),
  (15, 0, .goto 4, 3, 19, 0, .null),
  (18, 0, .iconst 3, 1, 0, 0, .int (3)),
  (19, 0, .ireturn, 1, 0, 0, .null)]
abbrev id_X11_pathLength : Nat := 178
def mi_X11_pathLength : MI := (yX11_pathLength, cX11_pathLength, 1, (some .int), 11, ct_X11_pathLength)
theorem fe_X11_pathLength_0 : mj_f mi_X11_pathLength 0 = some (.iload_n 0, 1, 0, 0, .null) := by decide +kernel
theorem fe_X11_pathLength_1 : mj_f mi_X11_pathLength 1 = some (.bipush 8, 2, 0, 0, .int (8)) := by decide +kernel
theorem fe_X11_pathLength_3 : mj_f mi_X11_pathLength 3 = some (.if_icmp .ge 5, 3, 8, 0, .null) := by decide +kernel
theorem fe_X11_pathLength_6 : mj_f mi_X11_pathLength 6 = some (.iconst 1, 1, 0, 0, .int (1)) := by decide +kernel
theorem fe_X11_pathLength_7 : mj_f mi_X11_pathLength 7 = some (.ireturn, 1, 0, 0, .null) := by decide +kernel
theorem fe_X11_pathLength_8 : mj_f mi_X11_pathLength 8 = some (.iload_n 0, 1, 0, 0, .null) := by decide +kernel
theorem fe_X11_pathLength_9 : mj_f mi_X11_pathLength 9 = some (.bipush 64, 2, 0, 0, .int (64)) := by decide +kernel
theorem fe_X11_pathLength_11 : mj_f mi_X11_pathLength 11 = some (.if_icmp .ge 7, 3, 18, 0, .null) := by decide +kernel
theorem fe_X11_pathLength_14 : mj_f mi_X11_pathLength 14 = some (.iconst 2, 1, 0, 0, .int (2)) := by decide +kernel
theorem fe_X11_pathLength_15 : mj_f mi_X11_pathLength 15 = some (.goto 4, 3, 19, 0, .null) := by decide +kernel
theorem fe_X11_pathLength_18 : mj_f mi_X11_pathLength 18 = some (.iconst 3, 1, 0, 0, .int (3)) := by decide +kernel
theorem fe_X11_pathLength_19 : mj_f mi_X11_pathLength 19 = some (.ireturn, 1, 0, 0, .null) := by decide +kernel
def ct_X11_turnAt : MJT := [
  (0, 0, .iload_n 0, 1, 0, 0, .null),
  (1, 875, .invokestatic 220, 3, 178, 1, .null),
  (4, 0, .iconst 1, 1, 0, 0, .int (1)),
  (5, 0, .isub, 1, 0, 0, .null),
  (6, 0, .iload_n 1, 1, 1, 0, .null),
  (7, 0, .isub, 1, 0, 0, .null),
  (8, 0, .istore_n 2, 1, 2, 0, .null),
  (9, 0, .iload_n 1, 1, 1, 0, .null),
  (10, 0, .ifCond .lt 7, 3, 17, 0, .null),
  (13, 0, .iload_n 2, 1, 2, 0, .null),
  (14, 0, .ifCond .ge 5, 3, 19, 0, .null),
  (17, 0, .iconst (-1), 1, 0, 0, .int (-1)),
  (18, 0, .ireturn, 1, 0, 0, .null),
  (19, 0, .iload_n 0, 1, 0, 0, .null),
  (20, 0, .istore_n 3, 1, 3, 0, .null),
  (21, 0, .iconst 0, 1, 0, 0, .int (0)),
  (22, 0, .istore 4, 2, 4, 0, .null),
  (24, 0, .iload 4, 2, 4, 0, .null),
  (26, 0, .iload_n 2, 1, 2, 0, .null),
  (27, 0, .if_icmp .ge 14, 3, 41, 0, .null),
  (30, 0, .iload_n 3, 1, 3, 0, .null),
  (31, 0, .bipush 8, 2, 0, 0, .int (8)),
  (33, 0, .idiv, 1, 0, 0, .null),
  (34, 0, .istore_n 3, 1, 3, 0, .null),
  (35, 0, .iinc 4 1, 3, 4, 0, .int (1)),
  (38, 0, .goto (-14), 3, 24, 0, .null),
  (41, 0, .iload_n 3, 1, 3, 0, .null),
  (42, 0, .bipush 8, 2, 0, 0, .int (8)),
  (44, 0, .irem, 1, 0, 0, .null),
  (45, 0, .ireturn, 1, 0, 0, .null)]
abbrev id_X11_turnAt : Nat := 179
def mi_X11_turnAt : MI := (yX11_turnAt, cX11_turnAt, 5, (some .int), 11, ct_X11_turnAt)
theorem fe_X11_turnAt_0 : mj_f mi_X11_turnAt 0 = some (.iload_n 0, 1, 0, 0, .null) := by decide +kernel
theorem fe_X11_turnAt_1 : mj_f mi_X11_turnAt 1 = some (.invokestatic 220, 3, 178, 1, .null) := by decide +kernel
theorem fe_X11_turnAt_4 : mj_f mi_X11_turnAt 4 = some (.iconst 1, 1, 0, 0, .int (1)) := by decide +kernel
theorem fe_X11_turnAt_5 : mj_f mi_X11_turnAt 5 = some (.isub, 1, 0, 0, .null) := by decide +kernel
theorem fe_X11_turnAt_6 : mj_f mi_X11_turnAt 6 = some (.iload_n 1, 1, 1, 0, .null) := by decide +kernel
theorem fe_X11_turnAt_7 : mj_f mi_X11_turnAt 7 = some (.isub, 1, 0, 0, .null) := by decide +kernel
theorem fe_X11_turnAt_8 : mj_f mi_X11_turnAt 8 = some (.istore_n 2, 1, 2, 0, .null) := by decide +kernel
theorem fe_X11_turnAt_9 : mj_f mi_X11_turnAt 9 = some (.iload_n 1, 1, 1, 0, .null) := by decide +kernel
theorem fe_X11_turnAt_10 : mj_f mi_X11_turnAt 10 = some (.ifCond .lt 7, 3, 17, 0, .null) := by decide +kernel
theorem fe_X11_turnAt_13 : mj_f mi_X11_turnAt 13 = some (.iload_n 2, 1, 2, 0, .null) := by decide +kernel
theorem fe_X11_turnAt_14 : mj_f mi_X11_turnAt 14 = some (.ifCond .ge 5, 3, 19, 0, .null) := by decide +kernel
theorem fe_X11_turnAt_17 : mj_f mi_X11_turnAt 17 = some (.iconst (-1), 1, 0, 0, .int (-1)) := by decide +kernel
theorem fe_X11_turnAt_18 : mj_f mi_X11_turnAt 18 = some (.ireturn, 1, 0, 0, .null) := by decide +kernel
theorem fe_X11_turnAt_19 : mj_f mi_X11_turnAt 19 = some (.iload_n 0, 1, 0, 0, .null) := by decide +kernel
theorem fe_X11_turnAt_20 : mj_f mi_X11_turnAt 20 = some (.istore_n 3, 1, 3, 0, .null) := by decide +kernel
theorem fe_X11_turnAt_21 : mj_f mi_X11_turnAt 21 = some (.iconst 0, 1, 0, 0, .int (0)) := by decide +kernel
theorem fe_X11_turnAt_22 : mj_f mi_X11_turnAt 22 = some (.istore 4, 2, 4, 0, .null) := by decide +kernel
theorem fe_X11_turnAt_24 : mj_f mi_X11_turnAt 24 = some (.iload 4, 2, 4, 0, .null) := by decide +kernel
theorem fe_X11_turnAt_26 : mj_f mi_X11_turnAt 26 = some (.iload_n 2, 1, 2, 0, .null) := by decide +kernel
theorem fe_X11_turnAt_27 : mj_f mi_X11_turnAt 27 = some (.if_icmp .ge 14, 3, 41, 0, .null) := by decide +kernel
theorem fe_X11_turnAt_30 : mj_f mi_X11_turnAt 30 = some (.iload_n 3, 1, 3, 0, .null) := by decide +kernel
theorem fe_X11_turnAt_31 : mj_f mi_X11_turnAt 31 = some (.bipush 8, 2, 0, 0, .int (8)) := by decide +kernel
theorem fe_X11_turnAt_33 : mj_f mi_X11_turnAt 33 = some (.idiv, 1, 0, 0, .null) := by decide +kernel
theorem fe_X11_turnAt_34 : mj_f mi_X11_turnAt 34 = some (.istore_n 3, 1, 3, 0, .null) := by decide +kernel
theorem fe_X11_turnAt_35 : mj_f mi_X11_turnAt 35 = some (.iinc 4 1, 3, 4, 0, .int (1)) := by decide +kernel
theorem fe_X11_turnAt_38 : mj_f mi_X11_turnAt 38 = some (.goto (-14), 3, 24, 0, .null) := by decide +kernel
theorem fe_X11_turnAt_41 : mj_f mi_X11_turnAt 41 = some (.iload_n 3, 1, 3, 0, .null) := by decide +kernel
theorem fe_X11_turnAt_42 : mj_f mi_X11_turnAt 42 = some (.bipush 8, 2, 0, 0, .int (8)) := by decide +kernel
theorem fe_X11_turnAt_44 : mj_f mi_X11_turnAt 44 = some (.irem, 1, 0, 0, .null) := by decide +kernel
theorem fe_X11_turnAt_45 : mj_f mi_X11_turnAt 45 = some (.ireturn, 1, 0, 0, .null) := by decide +kernel
def ct_X12_init : MJT := [
  (0, 0, .aload_n 0, 1, 0, 0, .null),
  (1, 1211, .invokespecial 1, 3, 1000, 0, .null),
  (4, 0, .aload_n 0, 1, 0, 0, .null),
  (5, 0, .iconst 4, 1, 0, 0, .int (4)),
  (6, 0, .newarray .int, 2, 0, 0, .null),
  (8, 1212, .putfield 7, 3, 12, 0, .null),
  (11, 0, .aload_n 0, 1, 0, 0, .null),
  (12, 0, .iconst 4, 1, 0, 0, .int (4)),
  (13, 0, .newarray .int, 2, 0, 0, .null),
  (15, 1213, .putfield 13, 3, 12, 1, .null),
  (18, 0, .aload_n 0, 1, 0, 0, .null),
  (19, 0, .iconst 4, 1, 0, 0, .int (4)),
  (20, 0, .newarray .int, 2, 0, 0, .null),
  (22, 1214, .putfield 16, 3, 12, 2, .null),
  (25, 0, .aload_n 0, 1, 0, 0, .null),
  (26, 0, .sipush 640, 3, 0, 0, .int (640)),
  (29, 0, .newarray .long, 2, 0, 0, .null),
  (31, 1215, .putfield 19, 3, 12, 3, .null),
  (34, 0, .aload_n 0, 1, 0, 0, .null),
  (35, 0, .sipush 640, 3, 0, 0, .int (640)),
  (38, 0, .newarray .boolean, 2, 0, 0, .null),
  (40, 1216, .putfield 23, 3, 12, 4, .null),
  (43, 0, .aload_n 0, 1, 0, 0, .null),
  (44, 0, .sipush 640, 3, 0, 0, .int (640)),
  (47, 0, .newarray .boolean, 2, 0, 0, .null),
  (49, 1217, .putfield 27, 3, 12, 5, .null),
  (52, 0, .aload_n 0, 1, 0, 0, .null),
  (53, 0, .bipush 20, 2, 0, 0, .int (20)),
  (55, 0, .newarray .boolean, 2, 0, 0, .null),
  (57, 1218, .putfield 30, 3, 12, 6, .null),
  (60, 0, .aload_n 0, 1, 0, 0, .null),
  (61, 0, .bipush 20, 2, 0, 0, .int (20)),
  (63, 0, .newarray .int, 2, 0, 0, .null),
  (65, 1219, .putfield 33, 3, 12, 7, .null),
  (68, 0, .aload_n 0, 1, 0, 0, .null),
  (69, 0, .sipush 6000, 3, 0, 0, .int (6000)),
  (72, 0, .newarray .int, 2, 0, 0, .null),
  (74, 1220, .putfield 36, 3, 12, 8, .null),
  (77, 0, .aload_n 0, 1, 0, 0, .null),
  (78, 0, .sipush 300, 3, 0, 0, .int (300)),
  (81, 0, .newarray .int, 2, 0, 0, .null),
  (83, 1221, .putfield 39, 3, 12, 9, .null),
  (86, 0, .aload_n 0, 1, 0, 0, .null),
  (87, 0, .iconst 0, 1, 0, 0, .int (0)),
  (88, 1222, .putfield 42, 3, 12, 10, .int 0),
  (91, 0, .aload_n 0, 1, 0, 0, .null),
  (92, 0, .iconst 0, 1, 0, 0, .int (0)),
  (93, 1223, .putfield 46, 3, 12, 11, .int 0),
  (96, 0, .aload_n 0, 1, 0, 0, .null),
  (97, 0, .iconst (-1), 1, 0, 0, .int (-1)),
  (98, 1224, .putfield 49, 3, 12, 12, .int 0),
  (101, 0, .aload_n 0, 1, 0, 0, .null),
  (102, 0, .iconst 0, 1, 0, 0, .int (0)),
  (103, 1225, .putfield 52, 3, 12, 13, .int 0),
  (106, 0, .aload_n 0, 1, 0, 0, .null),
  (107, 0, .bipush 99, 2, 0, 0, .int (99)),
  (109, 0, .newarray .long, 2, 0, 0, .null),
  (111, 1226, .putfield 55, 3, 12, 14, .null),
  (114, 0, .aload_n 0, 1, 0, 0, .null),
  (115, 0, .iconst 3, 1, 0, 0, .int (3)),
  (116, 0, .newarray .int, 2, 0, 0, .null),
  (118, 1227, .putfield 58, 3, 12, 15, .null),
  (121, 0, .aload_n 0, 1, 0, 0, .null),
  (122, 0, .iconst 3, 1, 0, 0, .int (3)),
  (123, 0, .newarray .long, 2, 0, 0, .null),
  (125, 1228, .putfield 61, 3, 12, 16, .null),
  (128, 0, .aload_n 0, 1, 0, 0, .null),
  (129, 0, .bipush 99, 2, 0, 0, .int (99)),
  (131, 0, .newarray .int, 2, 0, 0, .null),
  (133, 1229, .putfield 64, 3, 12, 17, .null),
  (136, 0, .aload_n 0, 1, 0, 0, .null),
  (137, 0, .lconst 0, 1, 0, 0, .long 0),
  (138, 1230, .putfield 67, 3, 12, 18, .long 0),
  (141, 0, .aload_n 0, 1, 0, 0, .null),
  (142, 0, .iconst 0, 1, 0, 0, .int (0)),
  (143, 1231, .putfield 71, 3, 12, 19, .int 0),
  (146, 0, .aload_n 0, 1, 0, 0, .null),
  (147, 0, .iconst 0, 1, 0, 0, .int (0)),
  (148, 1232, .putfield 74, 3, 12, 20, .int 0),
  (151, 0, .aload_n 0, 1, 0, 0, .null),
  (152, 0, .iconst 0, 1, 0, 0, .int (0)),
  (153, 1233, .putfield 77, 3, 12, 21, .int 0),
  (156, 0, .aload_n 0, 1, 0, 0, .null),
  (157, 0, .sipush 400, 3, 0, 0, .int (400)),
  (160, 0, .newarray .int, 2, 0, 0, .null),
  (162, 1234, .putfield 80, 3, 12, 22, .null),
  (165, 0, .aload_n 0, 1, 0, 0, .null),
  (166, 0, .bipush 80, 2, 0, 0, .int (80)),
  (168, 0, .newarray .int, 2, 0, 0, .null),
  (170, 1235, .putfield 83, 3, 12, 23, .null),
  (173, 0, .aload_n 0, 1, 0, 0, .null),
  (174, 0, .bipush 80, 2, 0, 0, .int (80)),
  (176, 0, .newarray .int, 2, 0, 0, .null),
  (178, 1236, .putfield 86, 3, 12, 24, .null),
  (181, 0, .aload_n 0, 1, 0, 0, .null),
  (182, 0, .bipush 80, 2, 0, 0, .int (80)),
  (184, 0, .newarray .int, 2, 0, 0, .null),
  (186, 1237, .putfield 89, 3, 12, 25, .null),
  (189, 0, .aload_n 0, 1, 0, 0, .null),
  (190, 0, .sipush 400, 3, 0, 0, .int (400)),
  (193, 0, .newarray .int, 2, 0, 0, .null),
  (195, 1238, .putfield 92, 3, 12, 26, .null),
  (198, 0, .aload_n 0, 1, 0, 0, .null),
  (199, 0, .iconst 0, 1, 0, 0, .int (0)),
  (200, 1239, .putfield 95, 3, 12, 27, .int 0),
  (203, 0, .aload_n 0, 1, 0, 0, .null),
  (204, 0, .iconst 0, 1, 0, 0, .int (0)),
  (205, 1240, .putfield 98, 3, 12, 28, .int 0),
  (208, 0, .aload_n 0, 1, 0, 0, .null),
  (209, 0, .bipush 80, 2, 0, 0, .int (80)),
  (211, 0, .newarray .int, 2, 0, 0, .null),
  (213, 1241, .putfield 101, 3, 12, 29, .null),
  (216, 0, .aload_n 0, 1, 0, 0, .null),
  (217, 0, .bipush 80, 2, 0, 0, .int (80)),
  (219, 0, .newarray .int, 2, 0, 0, .null),
  (221, 1242, .putfield 104, 3, 12, 30, .null),
  (224, 0, .aload_n 0, 1, 0, 0, .null),
  (225, 0, .iconst 0, 1, 0, 0, .int (0)),
  (226, 1243, .putfield 107, 3, 12, 31, .int 0),
  (229, 0, .aload_n 0, 1, 0, 0, .null),
  (230, 0, .sipush 300, 3, 0, 0, .int (300)),
  (233, 0, .newarray .int, 2, 0, 0, .null),
  (235, 1244, .putfield 110, 3, 12, 32, .null),
  (238, 0, .aload_n 0, 1, 0, 0, .null),
  (239, 0, .iconst 0, 1, 0, 0, .int (0)),
  (240, 1245, .putfield 113, 3, 12, 33, .int 0),
  (243, 0, .aload_n 0, 1, 0, 0, .null),
  (244, 0, .iconst 0, 1, 0, 0, .int (0)),
  (245, 1246, .putfield 116, 3, 12, 34, .int 0),
  (248, 0, .aload_n 0, 1, 0, 0, .null),
  (249, 0, .iconst 0, 1, 0, 0, .int (0)),
  (250, 1247, .putfield 119, 3, 12, 35, .int 0),
  (253, 0, .aload_n 0, 1, 0, 0, .null),
  (254, 0, .iconst (-1), 1, 0, 0, .int (-1)),
  (255, 1248, .putfield 122, 3, 12, 36, .int 0),
  (258, 0, .aload_n 0, 1, 0, 0, .null),
  (259, 0, .iconst 0, 1, 0, 0, .int (0)),
  (260, 1249, .putfield 125, 3, 12, 37, .int 0),
  (263, 0, .aload_n 0, 1, 0, 0, .null),
  (264, 0, .iconst 0, 1, 0, 0, .int (0)),
  (265, 1250, .putfield 128, 3, 12, 38, .int 0),
  (268, 0, .aload_n 0, 1, 0, 0, .null),
  (269, 0, .iconst 0, 1, 0, 0, .int (0)),
  (270, 1251, .putfield 131, 3, 12, 39, .int 0),
  (273, 0, .aload_n 0, 1, 0, 0, .null),
  (274, 0, .iconst 4, 1, 0, 0, .int (4)),
  (275, 0, .newarray .int, 2, 0, 0, .null),
  (277, 1252, .putfield 134, 3, 12, 40, .null),
  (280, 0, .aload_n 0, 1, 0, 0, .null),
  (281, 0, .bipush 32, 2, 0, 0, .int (32)),
  (283, 0, .newarray .boolean, 2, 0, 0, .null),
  (285, 1253, .putfield 137, 3, 12, 41, .null),
  (288, 0, .aload_n 0, 1, 0, 0, .null),
  (289, 0, .iconst 4, 1, 0, 0, .int (4)),
  (290, 0, .newarray .int, 2, 0, 0, .null),
  (292, 1254, .putfield 140, 3, 12, 42, .null),
  (295, 0, .aload_n 0, 1, 0, 0, .null),
  (296, 0, .iconst 4, 1, 0, 0, .int (4)),
  (297, 0, .newarray .long, 2, 0, 0, .null),
  (299, 1255, .putfield 143, 3, 12, 43, .null),
  (302, 0, .aload_n 0, 1, 0, 0, .null),
  (303, 0, .bipush 32, 2, 0, 0, .int (32)),
  (305, 0, .newarray .long, 2, 0, 0, .null),
  (307, 1256, .putfield 146, 3, 12, 44, .null),
  (310, 0, .aload_n 0, 1, 0, 0, .null),
  (311, 0, .bipush 32, 2, 0, 0, .int (32)),
  (313, 0, .newarray .long, 2, 0, 0, .null),
  (315, 1257, .putfield 149, 3, 12, 45, .null),
  (318, 0, .aload_n 0, 1, 0, 0, .null),
  (319, 0, .bipush 32, 2, 0, 0, .int (32)),
  (321, 0, .newarray .long, 2, 0, 0, .null),
  (323, 1258, .putfield 152, 3, 12, 46, .null),
  (326, 0, .aload_n 0, 1, 0, 0, .null),
  (327, 0, .bipush 32, 2, 0, 0, .int (32)),
  (329, 0, .newarray .boolean, 2, 0, 0, .null),
  (331, 1259, .putfield 155, 3, 12, 47, .null),
  (334, 0, .aload_n 0, 1, 0, 0, .null),
  (335, 0, .bipush 32, 2, 0, 0, .int (32)),
  (337, 0, .newarray .long, 2, 0, 0, .null),
  (339, 1260, .putfield 158, 3, 12, 48, .null),
  (342, 0, .aload_n 0, 1, 0, 0, .null),
  (343, 0, .bipush 32, 2, 0, 0, .int (32)),
  (345, 0, .newarray .boolean, 2, 0, 0, .null),
  (347, 1261, .putfield 161, 3, 12, 49, .null),
  (350, 0, .iconst 0, 1, 0, 0, .int (0)),
  (351, 0, .istore_n 1, 1, 1, 0, .null),
  (352, 0, .iload_n 1, 1, 1, 0, .null),
  (353, 0, .iconst 4, 1, 0, 0, .int (4)),
  (354, 0, .if_icmp .ge 25, 3, 379, 0, .null),
  (357, 0, .aload_n 0, 1, 0, 0, .null),
  (358, 1213, .getfield 13, 3, 12, 1, .null),
  (361, 0, .iload_n 1, 1, 1, 0, .null),
  (362, 0, .iconst 2, 1, 0, 0, .int (2)),
  (363, 0, .iastore, 1, 0, 0, .null),
  (364, 0, .aload_n 0, 1, 0, 0, .null),
  (365, 1214, .getfield 16, 3, 12, 2, .null),
  (368, 0, .iload_n 1, 1, 1, 0, .null),
  (369, 0, .sipush 1000, 3, 0, 0, .int (1000)),
  (372, 0, .iastore, 1, 0, 0, .null),
  (373, 0, .iinc 1 1, 3, 1, 0, .int (1)),
  (376, 0, .goto (-24), 3, 352, 0, .null),
  (379, 0, .return_, 1, 0, 0, .null)]
abbrev id_X12_init : Nat := 180
def mi_X12_init : MI := (yX12_init, cX12_init, 2, none, 12, ct_X12_init)
theorem fe_X12_init_0 : mj_f mi_X12_init 0 = some (.aload_n 0, 1, 0, 0, .null) := by decide +kernel
theorem fe_X12_init_1 : mj_f mi_X12_init 1 = some (.invokespecial 1, 3, 1000, 0, .null) := by decide +kernel
theorem fe_X12_init_4 : mj_f mi_X12_init 4 = some (.aload_n 0, 1, 0, 0, .null) := by decide +kernel
theorem fe_X12_init_5 : mj_f mi_X12_init 5 = some (.iconst 4, 1, 0, 0, .int (4)) := by decide +kernel
theorem fe_X12_init_6 : mj_f mi_X12_init 6 = some (.newarray .int, 2, 0, 0, .null) := by decide +kernel
theorem fe_X12_init_8 : mj_f mi_X12_init 8 = some (.putfield 7, 3, 12, 0, .null) := by decide +kernel
theorem fe_X12_init_11 : mj_f mi_X12_init 11 = some (.aload_n 0, 1, 0, 0, .null) := by decide +kernel
theorem fe_X12_init_12 : mj_f mi_X12_init 12 = some (.iconst 4, 1, 0, 0, .int (4)) := by decide +kernel
theorem fe_X12_init_13 : mj_f mi_X12_init 13 = some (.newarray .int, 2, 0, 0, .null) := by decide +kernel
theorem fe_X12_init_15 : mj_f mi_X12_init 15 = some (.putfield 13, 3, 12, 1, .null) := by decide +kernel
theorem fe_X12_init_18 : mj_f mi_X12_init 18 = some (.aload_n 0, 1, 0, 0, .null) := by decide +kernel
theorem fe_X12_init_19 : mj_f mi_X12_init 19 = some (.iconst 4, 1, 0, 0, .int (4)) := by decide +kernel
theorem fe_X12_init_20 : mj_f mi_X12_init 20 = some (.newarray .int, 2, 0, 0, .null) := by decide +kernel
theorem fe_X12_init_22 : mj_f mi_X12_init 22 = some (.putfield 16, 3, 12, 2, .null) := by decide +kernel
theorem fe_X12_init_25 : mj_f mi_X12_init 25 = some (.aload_n 0, 1, 0, 0, .null) := by decide +kernel
theorem fe_X12_init_26 : mj_f mi_X12_init 26 = some (.sipush 640, 3, 0, 0, .int (640)) := by decide +kernel
theorem fe_X12_init_29 : mj_f mi_X12_init 29 = some (.newarray .long, 2, 0, 0, .null) := by decide +kernel
theorem fe_X12_init_31 : mj_f mi_X12_init 31 = some (.putfield 19, 3, 12, 3, .null) := by decide +kernel
theorem fe_X12_init_34 : mj_f mi_X12_init 34 = some (.aload_n 0, 1, 0, 0, .null) := by decide +kernel
theorem fe_X12_init_35 : mj_f mi_X12_init 35 = some (.sipush 640, 3, 0, 0, .int (640)) := by decide +kernel
theorem fe_X12_init_38 : mj_f mi_X12_init 38 = some (.newarray .boolean, 2, 0, 0, .null) := by decide +kernel
theorem fe_X12_init_40 : mj_f mi_X12_init 40 = some (.putfield 23, 3, 12, 4, .null) := by decide +kernel
theorem fe_X12_init_43 : mj_f mi_X12_init 43 = some (.aload_n 0, 1, 0, 0, .null) := by decide +kernel
theorem fe_X12_init_44 : mj_f mi_X12_init 44 = some (.sipush 640, 3, 0, 0, .int (640)) := by decide +kernel
theorem fe_X12_init_47 : mj_f mi_X12_init 47 = some (.newarray .boolean, 2, 0, 0, .null) := by decide +kernel
theorem fe_X12_init_49 : mj_f mi_X12_init 49 = some (.putfield 27, 3, 12, 5, .null) := by decide +kernel
theorem fe_X12_init_52 : mj_f mi_X12_init 52 = some (.aload_n 0, 1, 0, 0, .null) := by decide +kernel
theorem fe_X12_init_53 : mj_f mi_X12_init 53 = some (.bipush 20, 2, 0, 0, .int (20)) := by decide +kernel
theorem fe_X12_init_55 : mj_f mi_X12_init 55 = some (.newarray .boolean, 2, 0, 0, .null) := by decide +kernel
theorem fe_X12_init_57 : mj_f mi_X12_init 57 = some (.putfield 30, 3, 12, 6, .null) := by decide +kernel
theorem fe_X12_init_60 : mj_f mi_X12_init 60 = some (.aload_n 0, 1, 0, 0, .null) := by decide +kernel
theorem fe_X12_init_61 : mj_f mi_X12_init 61 = some (.bipush 20, 2, 0, 0, .int (20)) := by decide +kernel
theorem fe_X12_init_63 : mj_f mi_X12_init 63 = some (.newarray .int, 2, 0, 0, .null) := by decide +kernel
theorem fe_X12_init_65 : mj_f mi_X12_init 65 = some (.putfield 33, 3, 12, 7, .null) := by decide +kernel
theorem fe_X12_init_68 : mj_f mi_X12_init 68 = some (.aload_n 0, 1, 0, 0, .null) := by decide +kernel
theorem fe_X12_init_69 : mj_f mi_X12_init 69 = some (.sipush 6000, 3, 0, 0, .int (6000)) := by decide +kernel
theorem fe_X12_init_72 : mj_f mi_X12_init 72 = some (.newarray .int, 2, 0, 0, .null) := by decide +kernel
theorem fe_X12_init_74 : mj_f mi_X12_init 74 = some (.putfield 36, 3, 12, 8, .null) := by decide +kernel
theorem fe_X12_init_77 : mj_f mi_X12_init 77 = some (.aload_n 0, 1, 0, 0, .null) := by decide +kernel
theorem fe_X12_init_78 : mj_f mi_X12_init 78 = some (.sipush 300, 3, 0, 0, .int (300)) := by decide +kernel
theorem fe_X12_init_81 : mj_f mi_X12_init 81 = some (.newarray .int, 2, 0, 0, .null) := by decide +kernel
theorem fe_X12_init_83 : mj_f mi_X12_init 83 = some (.putfield 39, 3, 12, 9, .null) := by decide +kernel
theorem fe_X12_init_86 : mj_f mi_X12_init 86 = some (.aload_n 0, 1, 0, 0, .null) := by decide +kernel
theorem fe_X12_init_87 : mj_f mi_X12_init 87 = some (.iconst 0, 1, 0, 0, .int (0)) := by decide +kernel
theorem fe_X12_init_88 : mj_f mi_X12_init 88 = some (.putfield 42, 3, 12, 10, .int 0) := by decide +kernel
theorem fe_X12_init_91 : mj_f mi_X12_init 91 = some (.aload_n 0, 1, 0, 0, .null) := by decide +kernel
theorem fe_X12_init_92 : mj_f mi_X12_init 92 = some (.iconst 0, 1, 0, 0, .int (0)) := by decide +kernel
theorem fe_X12_init_93 : mj_f mi_X12_init 93 = some (.putfield 46, 3, 12, 11, .int 0) := by decide +kernel
theorem fe_X12_init_96 : mj_f mi_X12_init 96 = some (.aload_n 0, 1, 0, 0, .null) := by decide +kernel
theorem fe_X12_init_97 : mj_f mi_X12_init 97 = some (.iconst (-1), 1, 0, 0, .int (-1)) := by decide +kernel
theorem fe_X12_init_98 : mj_f mi_X12_init 98 = some (.putfield 49, 3, 12, 12, .int 0) := by decide +kernel
theorem fe_X12_init_101 : mj_f mi_X12_init 101 = some (.aload_n 0, 1, 0, 0, .null) := by decide +kernel
theorem fe_X12_init_102 : mj_f mi_X12_init 102 = some (.iconst 0, 1, 0, 0, .int (0)) := by decide +kernel
theorem fe_X12_init_103 : mj_f mi_X12_init 103 = some (.putfield 52, 3, 12, 13, .int 0) := by decide +kernel
theorem fe_X12_init_106 : mj_f mi_X12_init 106 = some (.aload_n 0, 1, 0, 0, .null) := by decide +kernel
theorem fe_X12_init_107 : mj_f mi_X12_init 107 = some (.bipush 99, 2, 0, 0, .int (99)) := by decide +kernel
theorem fe_X12_init_109 : mj_f mi_X12_init 109 = some (.newarray .long, 2, 0, 0, .null) := by decide +kernel
theorem fe_X12_init_111 : mj_f mi_X12_init 111 = some (.putfield 55, 3, 12, 14, .null) := by decide +kernel
theorem fe_X12_init_114 : mj_f mi_X12_init 114 = some (.aload_n 0, 1, 0, 0, .null) := by decide +kernel
theorem fe_X12_init_115 : mj_f mi_X12_init 115 = some (.iconst 3, 1, 0, 0, .int (3)) := by decide +kernel
theorem fe_X12_init_116 : mj_f mi_X12_init 116 = some (.newarray .int, 2, 0, 0, .null) := by decide +kernel
theorem fe_X12_init_118 : mj_f mi_X12_init 118 = some (.putfield 58, 3, 12, 15, .null) := by decide +kernel
theorem fe_X12_init_121 : mj_f mi_X12_init 121 = some (.aload_n 0, 1, 0, 0, .null) := by decide +kernel
theorem fe_X12_init_122 : mj_f mi_X12_init 122 = some (.iconst 3, 1, 0, 0, .int (3)) := by decide +kernel
theorem fe_X12_init_123 : mj_f mi_X12_init 123 = some (.newarray .long, 2, 0, 0, .null) := by decide +kernel
theorem fe_X12_init_125 : mj_f mi_X12_init 125 = some (.putfield 61, 3, 12, 16, .null) := by decide +kernel
theorem fe_X12_init_128 : mj_f mi_X12_init 128 = some (.aload_n 0, 1, 0, 0, .null) := by decide +kernel
theorem fe_X12_init_129 : mj_f mi_X12_init 129 = some (.bipush 99, 2, 0, 0, .int (99)) := by decide +kernel
theorem fe_X12_init_131 : mj_f mi_X12_init 131 = some (.newarray .int, 2, 0, 0, .null) := by decide +kernel
theorem fe_X12_init_133 : mj_f mi_X12_init 133 = some (.putfield 64, 3, 12, 17, .null) := by decide +kernel
theorem fe_X12_init_136 : mj_f mi_X12_init 136 = some (.aload_n 0, 1, 0, 0, .null) := by decide +kernel
theorem fe_X12_init_137 : mj_f mi_X12_init 137 = some (.lconst 0, 1, 0, 0, .long 0) := by decide +kernel
theorem fe_X12_init_138 : mj_f mi_X12_init 138 = some (.putfield 67, 3, 12, 18, .long 0) := by decide +kernel
theorem fe_X12_init_141 : mj_f mi_X12_init 141 = some (.aload_n 0, 1, 0, 0, .null) := by decide +kernel
theorem fe_X12_init_142 : mj_f mi_X12_init 142 = some (.iconst 0, 1, 0, 0, .int (0)) := by decide +kernel
theorem fe_X12_init_143 : mj_f mi_X12_init 143 = some (.putfield 71, 3, 12, 19, .int 0) := by decide +kernel
theorem fe_X12_init_146 : mj_f mi_X12_init 146 = some (.aload_n 0, 1, 0, 0, .null) := by decide +kernel
theorem fe_X12_init_147 : mj_f mi_X12_init 147 = some (.iconst 0, 1, 0, 0, .int (0)) := by decide +kernel
theorem fe_X12_init_148 : mj_f mi_X12_init 148 = some (.putfield 74, 3, 12, 20, .int 0) := by decide +kernel
theorem fe_X12_init_151 : mj_f mi_X12_init 151 = some (.aload_n 0, 1, 0, 0, .null) := by decide +kernel
theorem fe_X12_init_152 : mj_f mi_X12_init 152 = some (.iconst 0, 1, 0, 0, .int (0)) := by decide +kernel
theorem fe_X12_init_153 : mj_f mi_X12_init 153 = some (.putfield 77, 3, 12, 21, .int 0) := by decide +kernel
theorem fe_X12_init_156 : mj_f mi_X12_init 156 = some (.aload_n 0, 1, 0, 0, .null) := by decide +kernel
theorem fe_X12_init_157 : mj_f mi_X12_init 157 = some (.sipush 400, 3, 0, 0, .int (400)) := by decide +kernel
theorem fe_X12_init_160 : mj_f mi_X12_init 160 = some (.newarray .int, 2, 0, 0, .null) := by decide +kernel
theorem fe_X12_init_162 : mj_f mi_X12_init 162 = some (.putfield 80, 3, 12, 22, .null) := by decide +kernel
theorem fe_X12_init_165 : mj_f mi_X12_init 165 = some (.aload_n 0, 1, 0, 0, .null) := by decide +kernel
theorem fe_X12_init_166 : mj_f mi_X12_init 166 = some (.bipush 80, 2, 0, 0, .int (80)) := by decide +kernel
theorem fe_X12_init_168 : mj_f mi_X12_init 168 = some (.newarray .int, 2, 0, 0, .null) := by decide +kernel
theorem fe_X12_init_170 : mj_f mi_X12_init 170 = some (.putfield 83, 3, 12, 23, .null) := by decide +kernel
theorem fe_X12_init_173 : mj_f mi_X12_init 173 = some (.aload_n 0, 1, 0, 0, .null) := by decide +kernel
theorem fe_X12_init_174 : mj_f mi_X12_init 174 = some (.bipush 80, 2, 0, 0, .int (80)) := by decide +kernel
theorem fe_X12_init_176 : mj_f mi_X12_init 176 = some (.newarray .int, 2, 0, 0, .null) := by decide +kernel
theorem fe_X12_init_178 : mj_f mi_X12_init 178 = some (.putfield 86, 3, 12, 24, .null) := by decide +kernel
theorem fe_X12_init_181 : mj_f mi_X12_init 181 = some (.aload_n 0, 1, 0, 0, .null) := by decide +kernel
theorem fe_X12_init_182 : mj_f mi_X12_init 182 = some (.bipush 80, 2, 0, 0, .int (80)) := by decide +kernel
theorem fe_X12_init_184 : mj_f mi_X12_init 184 = some (.newarray .int, 2, 0, 0, .null) := by decide +kernel
theorem fe_X12_init_186 : mj_f mi_X12_init 186 = some (.putfield 89, 3, 12, 25, .null) := by decide +kernel
theorem fe_X12_init_189 : mj_f mi_X12_init 189 = some (.aload_n 0, 1, 0, 0, .null) := by decide +kernel
theorem fe_X12_init_190 : mj_f mi_X12_init 190 = some (.sipush 400, 3, 0, 0, .int (400)) := by decide +kernel
theorem fe_X12_init_193 : mj_f mi_X12_init 193 = some (.newarray .int, 2, 0, 0, .null) := by decide +kernel
theorem fe_X12_init_195 : mj_f mi_X12_init 195 = some (.putfield 92, 3, 12, 26, .null) := by decide +kernel
theorem fe_X12_init_198 : mj_f mi_X12_init 198 = some (.aload_n 0, 1, 0, 0, .null) := by decide +kernel
theorem fe_X12_init_199 : mj_f mi_X12_init 199 = some (.iconst 0, 1, 0, 0, .int (0)) := by decide +kernel
theorem fe_X12_init_200 : mj_f mi_X12_init 200 = some (.putfield 95, 3, 12, 27, .int 0) := by decide +kernel
theorem fe_X12_init_203 : mj_f mi_X12_init 203 = some (.aload_n 0, 1, 0, 0, .null) := by decide +kernel
theorem fe_X12_init_204 : mj_f mi_X12_init 204 = some (.iconst 0, 1, 0, 0, .int (0)) := by decide +kernel
theorem fe_X12_init_205 : mj_f mi_X12_init 205 = some (.putfield 98, 3, 12, 28, .int 0) := by decide +kernel
theorem fe_X12_init_208 : mj_f mi_X12_init 208 = some (.aload_n 0, 1, 0, 0, .null) := by decide +kernel
theorem fe_X12_init_209 : mj_f mi_X12_init 209 = some (.bipush 80, 2, 0, 0, .int (80)) := by decide +kernel
theorem fe_X12_init_211 : mj_f mi_X12_init 211 = some (.newarray .int, 2, 0, 0, .null) := by decide +kernel
theorem fe_X12_init_213 : mj_f mi_X12_init 213 = some (.putfield 101, 3, 12, 29, .null) := by decide +kernel
theorem fe_X12_init_216 : mj_f mi_X12_init 216 = some (.aload_n 0, 1, 0, 0, .null) := by decide +kernel
theorem fe_X12_init_217 : mj_f mi_X12_init 217 = some (.bipush 80, 2, 0, 0, .int (80)) := by decide +kernel
theorem fe_X12_init_219 : mj_f mi_X12_init 219 = some (.newarray .int, 2, 0, 0, .null) := by decide +kernel
theorem fe_X12_init_221 : mj_f mi_X12_init 221 = some (.putfield 104, 3, 12, 30, .null) := by decide +kernel
theorem fe_X12_init_224 : mj_f mi_X12_init 224 = some (.aload_n 0, 1, 0, 0, .null) := by decide +kernel
theorem fe_X12_init_225 : mj_f mi_X12_init 225 = some (.iconst 0, 1, 0, 0, .int (0)) := by decide +kernel
theorem fe_X12_init_226 : mj_f mi_X12_init 226 = some (.putfield 107, 3, 12, 31, .int 0) := by decide +kernel
theorem fe_X12_init_229 : mj_f mi_X12_init 229 = some (.aload_n 0, 1, 0, 0, .null) := by decide +kernel
theorem fe_X12_init_230 : mj_f mi_X12_init 230 = some (.sipush 300, 3, 0, 0, .int (300)) := by decide +kernel
theorem fe_X12_init_233 : mj_f mi_X12_init 233 = some (.newarray .int, 2, 0, 0, .null) := by decide +kernel
theorem fe_X12_init_235 : mj_f mi_X12_init 235 = some (.putfield 110, 3, 12, 32, .null) := by decide +kernel
theorem fe_X12_init_238 : mj_f mi_X12_init 238 = some (.aload_n 0, 1, 0, 0, .null) := by decide +kernel
theorem fe_X12_init_239 : mj_f mi_X12_init 239 = some (.iconst 0, 1, 0, 0, .int (0)) := by decide +kernel
theorem fe_X12_init_240 : mj_f mi_X12_init 240 = some (.putfield 113, 3, 12, 33, .int 0) := by decide +kernel
theorem fe_X12_init_243 : mj_f mi_X12_init 243 = some (.aload_n 0, 1, 0, 0, .null) := by decide +kernel
theorem fe_X12_init_244 : mj_f mi_X12_init 244 = some (.iconst 0, 1, 0, 0, .int (0)) := by decide +kernel
theorem fe_X12_init_245 : mj_f mi_X12_init 245 = some (.putfield 116, 3, 12, 34, .int 0) := by decide +kernel
theorem fe_X12_init_248 : mj_f mi_X12_init 248 = some (.aload_n 0, 1, 0, 0, .null) := by decide +kernel
theorem fe_X12_init_249 : mj_f mi_X12_init 249 = some (.iconst 0, 1, 0, 0, .int (0)) := by decide +kernel
theorem fe_X12_init_250 : mj_f mi_X12_init 250 = some (.putfield 119, 3, 12, 35, .int 0) := by decide +kernel
theorem fe_X12_init_253 : mj_f mi_X12_init 253 = some (.aload_n 0, 1, 0, 0, .null) := by decide +kernel
theorem fe_X12_init_254 : mj_f mi_X12_init 254 = some (.iconst (-1), 1, 0, 0, .int (-1)) := by decide +kernel
theorem fe_X12_init_255 : mj_f mi_X12_init 255 = some (.putfield 122, 3, 12, 36, .int 0) := by decide +kernel
theorem fe_X12_init_258 : mj_f mi_X12_init 258 = some (.aload_n 0, 1, 0, 0, .null) := by decide +kernel
theorem fe_X12_init_259 : mj_f mi_X12_init 259 = some (.iconst 0, 1, 0, 0, .int (0)) := by decide +kernel
theorem fe_X12_init_260 : mj_f mi_X12_init 260 = some (.putfield 125, 3, 12, 37, .int 0) := by decide +kernel
theorem fe_X12_init_263 : mj_f mi_X12_init 263 = some (.aload_n 0, 1, 0, 0, .null) := by decide +kernel
theorem fe_X12_init_264 : mj_f mi_X12_init 264 = some (.iconst 0, 1, 0, 0, .int (0)) := by decide +kernel
theorem fe_X12_init_265 : mj_f mi_X12_init 265 = some (.putfield 128, 3, 12, 38, .int 0) := by decide +kernel
theorem fe_X12_init_268 : mj_f mi_X12_init 268 = some (.aload_n 0, 1, 0, 0, .null) := by decide +kernel
theorem fe_X12_init_269 : mj_f mi_X12_init 269 = some (.iconst 0, 1, 0, 0, .int (0)) := by decide +kernel
theorem fe_X12_init_270 : mj_f mi_X12_init 270 = some (.putfield 131, 3, 12, 39, .int 0) := by decide +kernel
theorem fe_X12_init_273 : mj_f mi_X12_init 273 = some (.aload_n 0, 1, 0, 0, .null) := by decide +kernel
theorem fe_X12_init_274 : mj_f mi_X12_init 274 = some (.iconst 4, 1, 0, 0, .int (4)) := by decide +kernel
theorem fe_X12_init_275 : mj_f mi_X12_init 275 = some (.newarray .int, 2, 0, 0, .null) := by decide +kernel
theorem fe_X12_init_277 : mj_f mi_X12_init 277 = some (.putfield 134, 3, 12, 40, .null) := by decide +kernel
theorem fe_X12_init_280 : mj_f mi_X12_init 280 = some (.aload_n 0, 1, 0, 0, .null) := by decide +kernel
theorem fe_X12_init_281 : mj_f mi_X12_init 281 = some (.bipush 32, 2, 0, 0, .int (32)) := by decide +kernel
theorem fe_X12_init_283 : mj_f mi_X12_init 283 = some (.newarray .boolean, 2, 0, 0, .null) := by decide +kernel
theorem fe_X12_init_285 : mj_f mi_X12_init 285 = some (.putfield 137, 3, 12, 41, .null) := by decide +kernel
theorem fe_X12_init_288 : mj_f mi_X12_init 288 = some (.aload_n 0, 1, 0, 0, .null) := by decide +kernel
theorem fe_X12_init_289 : mj_f mi_X12_init 289 = some (.iconst 4, 1, 0, 0, .int (4)) := by decide +kernel
theorem fe_X12_init_290 : mj_f mi_X12_init 290 = some (.newarray .int, 2, 0, 0, .null) := by decide +kernel
theorem fe_X12_init_292 : mj_f mi_X12_init 292 = some (.putfield 140, 3, 12, 42, .null) := by decide +kernel
theorem fe_X12_init_295 : mj_f mi_X12_init 295 = some (.aload_n 0, 1, 0, 0, .null) := by decide +kernel
theorem fe_X12_init_296 : mj_f mi_X12_init 296 = some (.iconst 4, 1, 0, 0, .int (4)) := by decide +kernel
theorem fe_X12_init_297 : mj_f mi_X12_init 297 = some (.newarray .long, 2, 0, 0, .null) := by decide +kernel
theorem fe_X12_init_299 : mj_f mi_X12_init 299 = some (.putfield 143, 3, 12, 43, .null) := by decide +kernel
theorem fe_X12_init_302 : mj_f mi_X12_init 302 = some (.aload_n 0, 1, 0, 0, .null) := by decide +kernel
theorem fe_X12_init_303 : mj_f mi_X12_init 303 = some (.bipush 32, 2, 0, 0, .int (32)) := by decide +kernel
theorem fe_X12_init_305 : mj_f mi_X12_init 305 = some (.newarray .long, 2, 0, 0, .null) := by decide +kernel
theorem fe_X12_init_307 : mj_f mi_X12_init 307 = some (.putfield 146, 3, 12, 44, .null) := by decide +kernel
theorem fe_X12_init_310 : mj_f mi_X12_init 310 = some (.aload_n 0, 1, 0, 0, .null) := by decide +kernel
theorem fe_X12_init_311 : mj_f mi_X12_init 311 = some (.bipush 32, 2, 0, 0, .int (32)) := by decide +kernel
theorem fe_X12_init_313 : mj_f mi_X12_init 313 = some (.newarray .long, 2, 0, 0, .null) := by decide +kernel
theorem fe_X12_init_315 : mj_f mi_X12_init 315 = some (.putfield 149, 3, 12, 45, .null) := by decide +kernel
theorem fe_X12_init_318 : mj_f mi_X12_init 318 = some (.aload_n 0, 1, 0, 0, .null) := by decide +kernel
theorem fe_X12_init_319 : mj_f mi_X12_init 319 = some (.bipush 32, 2, 0, 0, .int (32)) := by decide +kernel
theorem fe_X12_init_321 : mj_f mi_X12_init 321 = some (.newarray .long, 2, 0, 0, .null) := by decide +kernel
theorem fe_X12_init_323 : mj_f mi_X12_init 323 = some (.putfield 152, 3, 12, 46, .null) := by decide +kernel
theorem fe_X12_init_326 : mj_f mi_X12_init 326 = some (.aload_n 0, 1, 0, 0, .null) := by decide +kernel
theorem fe_X12_init_327 : mj_f mi_X12_init 327 = some (.bipush 32, 2, 0, 0, .int (32)) := by decide +kernel
theorem fe_X12_init_329 : mj_f mi_X12_init 329 = some (.newarray .boolean, 2, 0, 0, .null) := by decide +kernel
theorem fe_X12_init_331 : mj_f mi_X12_init 331 = some (.putfield 155, 3, 12, 47, .null) := by decide +kernel
theorem fe_X12_init_334 : mj_f mi_X12_init 334 = some (.aload_n 0, 1, 0, 0, .null) := by decide +kernel
theorem fe_X12_init_335 : mj_f mi_X12_init 335 = some (.bipush 32, 2, 0, 0, .int (32)) := by decide +kernel
theorem fe_X12_init_337 : mj_f mi_X12_init 337 = some (.newarray .long, 2, 0, 0, .null) := by decide +kernel
theorem fe_X12_init_339 : mj_f mi_X12_init 339 = some (.putfield 158, 3, 12, 48, .null) := by decide +kernel
theorem fe_X12_init_342 : mj_f mi_X12_init 342 = some (.aload_n 0, 1, 0, 0, .null) := by decide +kernel
theorem fe_X12_init_343 : mj_f mi_X12_init 343 = some (.bipush 32, 2, 0, 0, .int (32)) := by decide +kernel
theorem fe_X12_init_345 : mj_f mi_X12_init 345 = some (.newarray .boolean, 2, 0, 0, .null) := by decide +kernel
theorem fe_X12_init_347 : mj_f mi_X12_init 347 = some (.putfield 161, 3, 12, 49, .null) := by decide +kernel
theorem fe_X12_init_350 : mj_f mi_X12_init 350 = some (.iconst 0, 1, 0, 0, .int (0)) := by decide +kernel
theorem fe_X12_init_351 : mj_f mi_X12_init 351 = some (.istore_n 1, 1, 1, 0, .null) := by decide +kernel
theorem fe_X12_init_352 : mj_f mi_X12_init 352 = some (.iload_n 1, 1, 1, 0, .null) := by decide +kernel
theorem fe_X12_init_353 : mj_f mi_X12_init 353 = some (.iconst 4, 1, 0, 0, .int (4)) := by decide +kernel
theorem fe_X12_init_354 : mj_f mi_X12_init 354 = some (.if_icmp .ge 25, 3, 379, 0, .null) := by decide +kernel
theorem fe_X12_init_357 : mj_f mi_X12_init 357 = some (.aload_n 0, 1, 0, 0, .null) := by decide +kernel
theorem fe_X12_init_358 : mj_f mi_X12_init 358 = some (.getfield 13, 3, 12, 1, .null) := by decide +kernel
theorem fe_X12_init_361 : mj_f mi_X12_init 361 = some (.iload_n 1, 1, 1, 0, .null) := by decide +kernel
theorem fe_X12_init_362 : mj_f mi_X12_init 362 = some (.iconst 2, 1, 0, 0, .int (2)) := by decide +kernel
theorem fe_X12_init_363 : mj_f mi_X12_init 363 = some (.iastore, 1, 0, 0, .null) := by decide +kernel
theorem fe_X12_init_364 : mj_f mi_X12_init 364 = some (.aload_n 0, 1, 0, 0, .null) := by decide +kernel
theorem fe_X12_init_365 : mj_f mi_X12_init 365 = some (.getfield 16, 3, 12, 2, .null) := by decide +kernel
theorem fe_X12_init_368 : mj_f mi_X12_init 368 = some (.iload_n 1, 1, 1, 0, .null) := by decide +kernel
theorem fe_X12_init_369 : mj_f mi_X12_init 369 = some (.sipush 1000, 3, 0, 0, .int (1000)) := by decide +kernel
theorem fe_X12_init_372 : mj_f mi_X12_init 372 = some (.iastore, 1, 0, 0, .null) := by decide +kernel
theorem fe_X12_init_373 : mj_f mi_X12_init 373 = some (.iinc 1 1, 3, 1, 0, .int (1)) := by decide +kernel
theorem fe_X12_init_376 : mj_f mi_X12_init 376 = some (.goto (-24), 3, 352, 0, .null) := by decide +kernel
theorem fe_X12_init_379 : mj_f mi_X12_init 379 = some (.return_, 1, 0, 0, .null) := by decide +kernel
