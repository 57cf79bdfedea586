/-! code tables: a program wrote them -/
def ct_X12_front : MJT := [
  (0, 0, .aload_n 0, 1, 0, 0, .null),
  (1, 0, .iload_n 1, 1, 1, 0, .null),
  (2, 0, .iload_n 2, 1, 2, 0, .null),
  (3, 1562, .invokevirtual 301, 3, 231, 2, .null),
  (6, 0, .ifCond .ne 5, 3, 11, 0, .null),
  (9, 0, .iconst (-1), 1, 0, 0, .int (-1)),
  (10, 0, .ireturn, 1, 0, 0, .null),
  (11, 0, .aload_n 0, 1, 0, 0, .null),
  (12, 0, .iload_n 1, 1, 1, 0, .null),
  (13, 0, .iload_n 2, 1, 2, 0, .null),
  (14, 1397, .invokevirtual 254, 3, 212, 2, .null),
  (17, 0, .aload_n 0, 1, 0, 0, .null),
  (18, 0, .iload_n 1, 1, 1, 0, .null),
  (19, 0, .iload_n 2, 1, 2, 0, .null),
  (20, 1626, .invokevirtual 313, 3, 213, 2, .null),
  (23, 0, .istore_n 3, 1, 3, 0, .null),
  (24, 0, .aload_n 0, 1, 0, 0, .null),
  (25, 0, .aload_n 0, 1, 0, 0, .null),
  (26, 1213, .getfield 13, 3, 12, 1, .null),
  (29, 0, .iload_n 1, 1, 1, 0, .null),
  (30, 0, .iaload, 1, 0, 0, .null),
  (31, 1417, .invokevirtual 258, 3, 202, 1, .null),
  (34, 0, .aload_n 0, 1, 0, 0, .null),
  (35, 0, .iconst 0, 1, 0, 0, .int (0)),
  (36, 1243, .putfield 107, 3, 12, 31, .int 0),
  (39, 0, .iconst 0, 1, 0, 0, .int (0)),
  (40, 0, .istore 4, 2, 4, 0, .null),
  (42, 0, .iload 4, 2, 4, 0, .null),
  (44, 0, .ifCond .lt 175, 3, 219, 0, .null),
  (47, 0, .iconst (-1), 1, 0, 0, .int (-1)),
  (48, 0, .istore 5, 2, 5, 0, .null),
  (50, 0, .iconst 0, 1, 0, 0, .int (0)),
  (51, 0, .istore 6, 2, 6, 0, .null),
  (53, 0, .iload 6, 2, 6, 0, .null),
  (55, 0, .aload_n 0, 1, 0, 0, .null),
  (56, 1233, .getfield 77, 3, 12, 21, .int 0),
  (59, 0, .if_icmp .ge 101, 3, 160, 0, .null),
  (62, 0, .aload_n 0, 1, 0, 0, .null),
  (63, 1243, .getfield 107, 3, 12, 31, .int 0),
  (66, 0, .ifCond .le 27, 3, 93, 0, .null),
  (69, 0, .aload_n 0, 1, 0, 0, .null),
  (70, 1237, .getfield 89, 3, 12, 25, .null),
  (73, 0, .iload 6, 2, 6, 0, .null),
  (75, 0, .iaload, 1, 0, 0, .null),
  (76, 0, .aload_n 0, 1, 0, 0, .null),
  (77, 1242, .getfield 104, 3, 12, 30, .null),
  (80, 0, .aload_n 0, 1, 0, 0, .null),
  (81, 1243, .getfield 107, 3, 12, 31, .int 0),
  (84, 0, .iconst 1, 1, 0, 0, .int (1)),
  (85, 0, .isub, 1, 0, 0, .null),
  (86, 0, .iaload, 1, 0, 0, .null),
  (87, 0, .if_icmp .lt 6, 3, 93, 0, .null),
  (90, 0, .goto 64, 3, 154, 0, .null),
  (93, 0, .iload 5, 2, 5, 0, .null),
  (95, 0, .iconst (-1), 1, 0, 0, .int (-1)),
  (96, 0, .if_icmp .eq 54, 3, 150, 0, .null),
  (99, 0, .aload_n 0, 1, 0, 0, .null),
  (100, 1236, .getfield 86, 3, 12, 24, .null),
  (103, 0, .iload 6, 2, 6, 0, .null),
  (105, 0, .iaload, 1, 0, 0, .null),
  (106, 0, .aload_n 0, 1, 0, 0, .null),
  (107, 1236, .getfield 86, 3, 12, 24, .null),
  (110, 0, .iload 5, 2, 5, 0, .null),
  (112, 0, .iaload, 1, 0, 0, .null),
  (113, 0, .if_icmp .lt 37, 3, 150, 0, .null),
  (116, 0, .aload_n 0, 1, 0, 0, .null),
  (117, 1236, .getfield 86, 3, 12, 24, .null),
  (120, 0, .iload 6, 2, 6, 0, .null),
  (122, 0, .iaload, 1, 0, 0, .null),
  (123, 0, .aload_n 0, 1, 0, 0, .null),
  (124, 1236, .getfield 86, 3, 12, 24, .null),
  (127, 0, .iload 5, 2, 5, 0, .null),
  (129, 0, .iaload, 1, 0, 0, .null),
  (130, 0, .if_icmp .ne 24, 3, 154, 0, .null),
  (133, 0, .aload_n 0, 1, 0, 0, .null),
  (134, 1237, .getfield 89, 3, 12, 25, .null),
  (137, 0, .iload 6, 2, 6, 0, .null),
  (139, 0, .iaload, 1, 0, 0, .null),
  (140, 0, .aload_n 0, 1, 0, 0, .null),
  (141, 1237, .getfield 89, 3, 12, 25, .null),
  (144, 0, .iload 5, 2, 5, 0, .null),
  (146, 0, .iaload, 1, 0, 0, .null),
  (147, 0, .if_icmp .ge 7, 3, 154, 0, .null),
  (150, 0, .iload 6, 2, 6, 0, .null),
  (152, 0, .istore 5, 2, 5, 0, .null),
  (154, 0, .iinc 6 1, 3, 6, 0, .int (1)),
  (157, 0, .goto (-104), 3, 53, 0, .null),
  (160, 0, .iload 5, 2, 5, 0, .null),
  (162, 0, .istore 4, 2, 4, 0, .null),
  (164, 0, .iload 5, 2, 5, 0, .null),
  (166, 0, .ifCond .ge 6, 3, 172, 0, .null),
  (169, 0, .goto (-127), 3, 42, 0, .null),
  (172, 0, .aload_n 0, 1, 0, 0, .null),
  (173, 1241, .getfield 101, 3, 12, 29, .null),
  (176, 0, .aload_n 0, 1, 0, 0, .null),
  (177, 1243, .getfield 107, 3, 12, 31, .int 0),
  (180, 0, .iload_n 3, 1, 3, 0, .null),
  (181, 0, .aload_n 0, 1, 0, 0, .null),
  (182, 1236, .getfield 86, 3, 12, 24, .null),
  (185, 0, .iload 5, 2, 5, 0, .null),
  (187, 0, .iaload, 1, 0, 0, .null),
  (188, 0, .iadd, 1, 0, 0, .null),
  (189, 0, .iastore, 1, 0, 0, .null),
  (190, 0, .aload_n 0, 1, 0, 0, .null),
  (191, 1242, .getfield 104, 3, 12, 30, .null),
  (194, 0, .aload_n 0, 1, 0, 0, .null),
  (195, 1243, .getfield 107, 3, 12, 31, .int 0),
  (198, 0, .aload_n 0, 1, 0, 0, .null),
  (199, 1237, .getfield 89, 3, 12, 25, .null),
  (202, 0, .iload 5, 2, 5, 0, .null),
  (204, 0, .iaload, 1, 0, 0, .null),
  (205, 0, .iastore, 1, 0, 0, .null),
  (206, 0, .aload_n 0, 1, 0, 0, .null),
  (207, 0, .dup, 1, 0, 0, .null),
  (208, 1243, .getfield 107, 3, 12, 31, .int 0),
  (211, 0, .iconst 1, 1, 0, 0, .int (1)),
  (212, 0, .iadd, 1, 0, 0, .null),
  (213, 1243, .putfield 107, 3, 12, 31, .int 0),
  (216, 0, .goto (-174), 3, 42, 0, .null),
  (219, 0, .aload_n 0, 1, 0, 0, .null),
  (220, 1243, .getfield 107, 3, 12, 31, .int 0),
  (223, 0, .ireturn, 1, 0, 0, .null)]
abbrev id_X12_front : Nat := 237
def mi_X12_front : MI := (yX12_front, cX12_front, 7, (some .int), 12, ct_X12_front)
theorem fe_X12_front_0 : mj_f mi_X12_front 0 = some (.aload_n 0, 1, 0, 0, .null) := by decide +kernel
theorem fe_X12_front_1 : mj_f mi_X12_front 1 = some (.iload_n 1, 1, 1, 0, .null) := by decide +kernel
theorem fe_X12_front_2 : mj_f mi_X12_front 2 = some (.iload_n 2, 1, 2, 0, .null) := by decide +kernel
theorem fe_X12_front_3 : mj_f mi_X12_front 3 = some (.invokevirtual 301, 3, 231, 2, .null) := by decide +kernel
theorem fe_X12_front_6 : mj_f mi_X12_front 6 = some (.ifCond .ne 5, 3, 11, 0, .null) := by decide +kernel
theorem fe_X12_front_9 : mj_f mi_X12_front 9 = some (.iconst (-1), 1, 0, 0, .int (-1)) := by decide +kernel
theorem fe_X12_front_10 : mj_f mi_X12_front 10 = some (.ireturn, 1, 0, 0, .null) := by decide +kernel
theorem fe_X12_front_11 : mj_f mi_X12_front 11 = some (.aload_n 0, 1, 0, 0, .null) := by decide +kernel
theorem fe_X12_front_12 : mj_f mi_X12_front 12 = some (.iload_n 1, 1, 1, 0, .null) := by decide +kernel
theorem fe_X12_front_13 : mj_f mi_X12_front 13 = some (.iload_n 2, 1, 2, 0, .null) := by decide +kernel
theorem fe_X12_front_14 : mj_f mi_X12_front 14 = some (.invokevirtual 254, 3, 212, 2, .null) := by decide +kernel
theorem fe_X12_front_17 : mj_f mi_X12_front 17 = some (.aload_n 0, 1, 0, 0, .null) := by decide +kernel
theorem fe_X12_front_18 : mj_f mi_X12_front 18 = some (.iload_n 1, 1, 1, 0, .null) := by decide +kernel
theorem fe_X12_front_19 : mj_f mi_X12_front 19 = some (.iload_n 2, 1, 2, 0, .null) := by decide +kernel
theorem fe_X12_front_20 : mj_f mi_X12_front 20 = some (.invokevirtual 313, 3, 213, 2, .null) := by decide +kernel
theorem fe_X12_front_23 : mj_f mi_X12_front 23 = some (.istore_n 3, 1, 3, 0, .null) := by decide +kernel
theorem fe_X12_front_24 : mj_f mi_X12_front 24 = some (.aload_n 0, 1, 0, 0, .null) := by decide +kernel
theorem fe_X12_front_25 : mj_f mi_X12_front 25 = some (.aload_n 0, 1, 0, 0, .null) := by decide +kernel
theorem fe_X12_front_26 : mj_f mi_X12_front 26 = some (.getfield 13, 3, 12, 1, .null) := by decide +kernel
theorem fe_X12_front_29 : mj_f mi_X12_front 29 = some (.iload_n 1, 1, 1, 0, .null) := by decide +kernel
theorem fe_X12_front_30 : mj_f mi_X12_front 30 = some (.iaload, 1, 0, 0, .null) := by decide +kernel
theorem fe_X12_front_31 : mj_f mi_X12_front 31 = some (.invokevirtual 258, 3, 202, 1, .null) := by decide +kernel
theorem fe_X12_front_34 : mj_f mi_X12_front 34 = some (.aload_n 0, 1, 0, 0, .null) := by decide +kernel
theorem fe_X12_front_35 : mj_f mi_X12_front 35 = some (.iconst 0, 1, 0, 0, .int (0)) := by decide +kernel
theorem fe_X12_front_36 : mj_f mi_X12_front 36 = some (.putfield 107, 3, 12, 31, .int 0) := by decide +kernel
theorem fe_X12_front_39 : mj_f mi_X12_front 39 = some (.iconst 0, 1, 0, 0, .int (0)) := by decide +kernel
theorem fe_X12_front_40 : mj_f mi_X12_front 40 = some (.istore 4, 2, 4, 0, .null) := by decide +kernel
theorem fe_X12_front_42 : mj_f mi_X12_front 42 = some (.iload 4, 2, 4, 0, .null) := by decide +kernel
theorem fe_X12_front_44 : mj_f mi_X12_front 44 = some (.ifCond .lt 175, 3, 219, 0, .null) := by decide +kernel
theorem fe_X12_front_47 : mj_f mi_X12_front 47 = some (.iconst (-1), 1, 0, 0, .int (-1)) := by decide +kernel
theorem fe_X12_front_48 : mj_f mi_X12_front 48 = some (.istore 5, 2, 5, 0, .null) := by decide +kernel
theorem fe_X12_front_50 : mj_f mi_X12_front 50 = some (.iconst 0, 1, 0, 0, .int (0)) := by decide +kernel
theorem fe_X12_front_51 : mj_f mi_X12_front 51 = some (.istore 6, 2, 6, 0, .null) := by decide +kernel
theorem fe_X12_front_53 : mj_f mi_X12_front 53 = some (.iload 6, 2, 6, 0, .null) := by decide +kernel
theorem fe_X12_front_55 : mj_f mi_X12_front 55 = some (.aload_n 0, 1, 0, 0, .null) := by decide +kernel
theorem fe_X12_front_56 : mj_f mi_X12_front 56 = some (.getfield 77, 3, 12, 21, .int 0) := by decide +kernel
theorem fe_X12_front_59 : mj_f mi_X12_front 59 = some (.if_icmp .ge 101, 3, 160, 0, .null) := by decide +kernel
theorem fe_X12_front_62 : mj_f mi_X12_front 62 = some (.aload_n 0, 1, 0, 0, .null) := by decide +kernel
theorem fe_X12_front_63 : mj_f mi_X12_front 63 = some (.getfield 107, 3, 12, 31, .int 0) := by decide +kernel
theorem fe_X12_front_66 : mj_f mi_X12_front 66 = some (.ifCond .le 27, 3, 93, 0, .null) := by decide +kernel
theorem fe_X12_front_69 : mj_f mi_X12_front 69 = some (.aload_n 0, 1, 0, 0, .null) := by decide +kernel
theorem fe_X12_front_70 : mj_f mi_X12_front 70 = some (.getfield 89, 3, 12, 25, .null) := by decide +kernel
theorem fe_X12_front_73 : mj_f mi_X12_front 73 = some (.iload 6, 2, 6, 0, .null) := by decide +kernel
theorem fe_X12_front_75 : mj_f mi_X12_front 75 = some (.iaload, 1, 0, 0, .null) := by decide +kernel
theorem fe_X12_front_76 : mj_f mi_X12_front 76 = some (.aload_n 0, 1, 0, 0, .null) := by decide +kernel
theorem fe_X12_front_77 : mj_f mi_X12_front 77 = some (.getfield 104, 3, 12, 30, .null) := by decide +kernel
theorem fe_X12_front_80 : mj_f mi_X12_front 80 = some (.aload_n 0, 1, 0, 0, .null) := by decide +kernel
theorem fe_X12_front_81 : mj_f mi_X12_front 81 = some (.getfield 107, 3, 12, 31, .int 0) := by decide +kernel
theorem fe_X12_front_84 : mj_f mi_X12_front 84 = some (.iconst 1, 1, 0, 0, .int (1)) := by decide +kernel
theorem fe_X12_front_85 : mj_f mi_X12_front 85 = some (.isub, 1, 0, 0, .null) := by decide +kernel
theorem fe_X12_front_86 : mj_f mi_X12_front 86 = some (.iaload, 1, 0, 0, .null) := by decide +kernel
theorem fe_X12_front_87 : mj_f mi_X12_front 87 = some (.if_icmp .lt 6, 3, 93, 0, .null) := by decide +kernel
theorem fe_X12_front_90 : mj_f mi_X12_front 90 = some (.goto 64, 3, 154, 0, .null) := by decide +kernel
theorem fe_X12_front_93 : mj_f mi_X12_front 93 = some (.iload 5, 2, 5, 0, .null) := by decide +kernel
theorem fe_X12_front_95 : mj_f mi_X12_front 95 = some (.iconst (-1), 1, 0, 0, .int (-1)) := by decide +kernel
theorem fe_X12_front_96 : mj_f mi_X12_front 96 = some (.if_icmp .eq 54, 3, 150, 0, .null) := by decide +kernel
theorem fe_X12_front_99 : mj_f mi_X12_front 99 = some (.aload_n 0, 1, 0, 0, .null) := by decide +kernel
theorem fe_X12_front_100 : mj_f mi_X12_front 100 = some (.getfield 86, 3, 12, 24, .null) := by decide +kernel
theorem fe_X12_front_103 : mj_f mi_X12_front 103 = some (.iload 6, 2, 6, 0, .null) := by decide +kernel
theorem fe_X12_front_105 : mj_f mi_X12_front 105 = some (.iaload, 1, 0, 0, .null) := by decide +kernel
theorem fe_X12_front_106 : mj_f mi_X12_front 106 = some (.aload_n 0, 1, 0, 0, .null) := by decide +kernel
theorem fe_X12_front_107 : mj_f mi_X12_front 107 = some (.getfield 86, 3, 12, 24, .null) := by decide +kernel
theorem fe_X12_front_110 : mj_f mi_X12_front 110 = some (.iload 5, 2, 5, 0, .null) := by decide +kernel
theorem fe_X12_front_112 : mj_f mi_X12_front 112 = some (.iaload, 1, 0, 0, .null) := by decide +kernel
theorem fe_X12_front_113 : mj_f mi_X12_front 113 = some (.if_icmp .lt 37, 3, 150, 0, .null) := by decide +kernel
theorem fe_X12_front_116 : mj_f mi_X12_front 116 = some (.aload_n 0, 1, 0, 0, .null) := by decide +kernel
theorem fe_X12_front_117 : mj_f mi_X12_front 117 = some (.getfield 86, 3, 12, 24, .null) := by decide +kernel
theorem fe_X12_front_120 : mj_f mi_X12_front 120 = some (.iload 6, 2, 6, 0, .null) := by decide +kernel
theorem fe_X12_front_122 : mj_f mi_X12_front 122 = some (.iaload, 1, 0, 0, .null) := by decide +kernel
theorem fe_X12_front_123 : mj_f mi_X12_front 123 = some (.aload_n 0, 1, 0, 0, .null) := by decide +kernel
theorem fe_X12_front_124 : mj_f mi_X12_front 124 = some (.getfield 86, 3, 12, 24, .null) := by decide +kernel
theorem fe_X12_front_127 : mj_f mi_X12_front 127 = some (.iload 5, 2, 5, 0, .null) := by decide +kernel
theorem fe_X12_front_129 : mj_f mi_X12_front 129 = some (.iaload, 1, 0, 0, .null) := by decide +kernel
theorem fe_X12_front_130 : mj_f mi_X12_front 130 = some (.if_icmp .ne 24, 3, 154, 0, .null) := by decide +kernel
theorem fe_X12_front_133 : mj_f mi_X12_front 133 = some (.aload_n 0, 1, 0, 0, .null) := by decide +kernel
theorem fe_X12_front_134 : mj_f mi_X12_front 134 = some (.getfield 89, 3, 12, 25, .null) := by decide +kernel
theorem fe_X12_front_137 : mj_f mi_X12_front 137 = some (.iload 6, 2, 6, 0, .null) := by decide +kernel
theorem fe_X12_front_139 : mj_f mi_X12_front 139 = some (.iaload, 1, 0, 0, .null) := by decide +kernel
theorem fe_X12_front_140 : mj_f mi_X12_front 140 = some (.aload_n 0, 1, 0, 0, .null) := by decide +kernel
theorem fe_X12_front_141 : mj_f mi_X12_front 141 = some (.getfield 89, 3, 12, 25, .null) := by decide +kernel
theorem fe_X12_front_144 : mj_f mi_X12_front 144 = some (.iload 5, 2, 5, 0, .null) := by decide +kernel
theorem fe_X12_front_146 : mj_f mi_X12_front 146 = some (.iaload, 1, 0, 0, .null) := by decide +kernel
theorem fe_X12_front_147 : mj_f mi_X12_front 147 = some (.if_icmp .ge 7, 3, 154, 0, .null) := by decide +kernel
theorem fe_X12_front_150 : mj_f mi_X12_front 150 = some (.iload 6, 2, 6, 0, .null) := by decide +kernel
theorem fe_X12_front_152 : mj_f mi_X12_front 152 = some (.istore 5, 2, 5, 0, .null) := by decide +kernel
theorem fe_X12_front_154 : mj_f mi_X12_front 154 = some (.iinc 6 1, 3, 6, 0, .int (1)) := by decide +kernel
theorem fe_X12_front_157 : mj_f mi_X12_front 157 = some (.goto (-104), 3, 53, 0, .null) := by decide +kernel
theorem fe_X12_front_160 : mj_f mi_X12_front 160 = some (.iload 5, 2, 5, 0, .null) := by decide +kernel
theorem fe_X12_front_162 : mj_f mi_X12_front 162 = some (.istore 4, 2, 4, 0, .null) := by decide +kernel
theorem fe_X12_front_164 : mj_f mi_X12_front 164 = some (.iload 5, 2, 5, 0, .null) := by decide +kernel
theorem fe_X12_front_166 : mj_f mi_X12_front 166 = some (.ifCond .ge 6, 3, 172, 0, .null) := by decide +kernel
theorem fe_X12_front_169 : mj_f mi_X12_front 169 = some (.goto (-127), 3, 42, 0, .null) := by decide +kernel
theorem fe_X12_front_172 : mj_f mi_X12_front 172 = some (.aload_n 0, 1, 0, 0, .null) := by decide +kernel
theorem fe_X12_front_173 : mj_f mi_X12_front 173 = some (.getfield 101, 3, 12, 29, .null) := by decide +kernel
theorem fe_X12_front_176 : mj_f mi_X12_front 176 = some (.aload_n 0, 1, 0, 0, .null) := by decide +kernel
theorem fe_X12_front_177 : mj_f mi_X12_front 177 = some (.getfield 107, 3, 12, 31, .int 0) := by decide +kernel
theorem fe_X12_front_180 : mj_f mi_X12_front 180 = some (.iload_n 3, 1, 3, 0, .null) := by decide +kernel
theorem fe_X12_front_181 : mj_f mi_X12_front 181 = some (.aload_n 0, 1, 0, 0, .null) := by decide +kernel
theorem fe_X12_front_182 : mj_f mi_X12_front 182 = some (.getfield 86, 3, 12, 24, .null) := by decide +kernel
theorem fe_X12_front_185 : mj_f mi_X12_front 185 = some (.iload 5, 2, 5, 0, .null) := by decide +kernel
theorem fe_X12_front_187 : mj_f mi_X12_front 187 = some (.iaload, 1, 0, 0, .null) := by decide +kernel
theorem fe_X12_front_188 : mj_f mi_X12_front 188 = some (.iadd, 1, 0, 0, .null) := by decide +kernel
theorem fe_X12_front_189 : mj_f mi_X12_front 189 = some (.iastore, 1, 0, 0, .null) := by decide +kernel
theorem fe_X12_front_190 : mj_f mi_X12_front 190 = some (.aload_n 0, 1, 0, 0, .null) := by decide +kernel
theorem fe_X12_front_191 : mj_f mi_X12_front 191 = some (.getfield 104, 3, 12, 30, .null) := by decide +kernel
theorem fe_X12_front_194 : mj_f mi_X12_front 194 = some (.aload_n 0, 1, 0, 0, .null) := by decide +kernel
theorem fe_X12_front_195 : mj_f mi_X12_front 195 = some (.getfield 107, 3, 12, 31, .int 0) := by decide +kernel
theorem fe_X12_front_198 : mj_f mi_X12_front 198 = some (.aload_n 0, 1, 0, 0, .null) := by decide +kernel
theorem fe_X12_front_199 : mj_f mi_X12_front 199 = some (.getfield 89, 3, 12, 25, .null) := by decide +kernel
theorem fe_X12_front_202 : mj_f mi_X12_front 202 = some (.iload 5, 2, 5, 0, .null) := by decide +kernel
theorem fe_X12_front_204 : mj_f mi_X12_front 204 = some (.iaload, 1, 0, 0, .null) := by decide +kernel
theorem fe_X12_front_205 : mj_f mi_X12_front 205 = some (.iastore, 1, 0, 0, .null) := by decide +kernel
theorem fe_X12_front_206 : mj_f mi_X12_front 206 = some (.aload_n 0, 1, 0, 0, .null) := by decide +kernel
theorem fe_X12_front_207 : mj_f mi_X12_front 207 = some (.dup, 1, 0, 0, .null) := by decide +kernel
theorem fe_X12_front_208 : mj_f mi_X12_front 208 = some (.getfield 107, 3, 12, 31, .int 0) := by decide +kernel
theorem fe_X12_front_211 : mj_f mi_X12_front 211 = some (.iconst 1, 1, 0, 0, .int (1)) := by decide +kernel
theorem fe_X12_front_212 : mj_f mi_X12_front 212 = some (.iadd, 1, 0, 0, .null) := by decide +kernel
theorem fe_X12_front_213 : mj_f mi_X12_front 213 = some (.putfield 107, 3, 12, 31, .int 0) := by decide +kernel
theorem fe_X12_front_216 : mj_f mi_X12_front 216 = some (.goto (-174), 3, 42, 0, .null) := by decide +kernel
theorem fe_X12_front_219 : mj_f mi_X12_front 219 = some (.aload_n 0, 1, 0, 0, .null) := by decide +kernel
theorem fe_X12_front_220 : mj_f mi_X12_front 220 = some (.getfield 107, 3, 12, 31, .int 0) := by decide +kernel
theorem fe_X12_front_223 : mj_f mi_X12_front 223 = some (.ireturn, 1, 0, 0, .null) := by decide +kernel
def ct_X12_pair : MJT := [
  (0, 0, .iload_n 1, 1, 1, 0, .null),
  (1, 0, .ifCond .lt 20, 3, 21, 0, .null),
  (4, 0, .iload_n 1, 1, 1, 0, .null),
  (5, 0, .aload_n 0, 1, 0, 0, .null),
  (6, 1243, .getfield 107, 3, 12, 31, .int 0),
  (9, 0, .if_icmp .ge 12, 3, 21, 0, .null),
  (12, 0, .iload_n 2, 1, 2, 0, .null),
  (13, 0, .iconst 0, 1, 0, 0, .int (0)),
  (14, 0, .iconst 1, 1, 0, 0, .int (1)),
  (15, 1382, .invokestatic 280, 3, 181, 3, .null),
  (18, 0, .ifCond .ne 7, 3, 25, 0, .null),
  (21, 0, .iconst (-1), 1, 0, 0, .int (-1)),
  (22, 0, .goto 22, 3, 44, 0, .null),
  (25, 0, .iload_n 2, 1, 2, 0, .null),
  (26, 0, .ifCond .ne 12, 3, 38, 0, .null),
  (29, 0, .aload_n 0, 1, 0, 0, .null),
  (30, 1241, .getfield 101, 3, 12, 29, .null),
  (33, 0, .iload_n 1, 1, 1, 0, .null),
  (34, 0, .iaload, 1, 0, 0, .null),
  (35, 0, .goto 9, 3, 44, 0, .null),
  (38, 0, .aload_n 0, 1, 0, 0, .null),
  (39, 1242, .getfield 104, 3, 12, 30, .null),
  (42, 0, .iload_n 1, 1, 1, 0, .null),
  (43, 0, .iaload, 1, 0, 0, .null),
  (44, 0, .ireturn, 1, 0, 0, .null)]
abbrev id_X12_pair : Nat := 238
def mi_X12_pair : MI := (yX12_pair, cX12_pair, 3, (some .int), 12, ct_X12_pair)
theorem fe_X12_pair_0 : mj_f mi_X12_pair 0 = some (.iload_n 1, 1, 1, 0, .null) := by decide +kernel
theorem fe_X12_pair_1 : mj_f mi_X12_pair 1 = some (.ifCond .lt 20, 3, 21, 0, .null) := by decide +kernel
theorem fe_X12_pair_4 : mj_f mi_X12_pair 4 = some (.iload_n 1, 1, 1, 0, .null) := by decide +kernel
theorem fe_X12_pair_5 : mj_f mi_X12_pair 5 = some (.aload_n 0, 1, 0, 0, .null) := by decide +kernel
theorem fe_X12_pair_6 : mj_f mi_X12_pair 6 = some (.getfield 107, 3, 12, 31, .int 0) := by decide +kernel
theorem fe_X12_pair_9 : mj_f mi_X12_pair 9 = some (.if_icmp .ge 12, 3, 21, 0, .null) := by decide +kernel
theorem fe_X12_pair_12 : mj_f mi_X12_pair 12 = some (.iload_n 2, 1, 2, 0, .null) := by decide +kernel
theorem fe_X12_pair_13 : mj_f mi_X12_pair 13 = some (.iconst 0, 1, 0, 0, .int (0)) := by decide +kernel
theorem fe_X12_pair_14 : mj_f mi_X12_pair 14 = some (.iconst 1, 1, 0, 0, .int (1)) := by decide +kernel
theorem fe_X12_pair_15 : mj_f mi_X12_pair 15 = some (.invokestatic 280, 3, 181, 3, .null) := by decide +kernel
theorem fe_X12_pair_18 : mj_f mi_X12_pair 18 = some (.ifCond .ne 7, 3, 25, 0, .null) := by decide +kernel
theorem fe_X12_pair_21 : mj_f mi_X12_pair 21 = some (.iconst (-1), 1, 0, 0, .int (-1)) := by decide +kernel
theorem fe_X12_pair_22 : mj_f mi_X12_pair 22 = some (.goto 22, 3, 44, 0, .null) := by decide +kernel
theorem fe_X12_pair_25 : mj_f mi_X12_pair 25 = some (.iload_n 2, 1, 2, 0, .null) := by decide +kernel
theorem fe_X12_pair_26 : mj_f mi_X12_pair 26 = some (.ifCond .ne 12, 3, 38, 0, .null) := by decide +kernel
theorem fe_X12_pair_29 : mj_f mi_X12_pair 29 = some (.aload_n 0, 1, 0, 0, .null) := by decide +kernel
theorem fe_X12_pair_30 : mj_f mi_X12_pair 30 = some (.getfield 101, 3, 12, 29, .null) := by decide +kernel
theorem fe_X12_pair_33 : mj_f mi_X12_pair 33 = some (.iload_n 1, 1, 1, 0, .null) := by decide +kernel
theorem fe_X12_pair_34 : mj_f mi_X12_pair 34 = some (.iaload, 1, 0, 0, .null) := by decide +kernel
theorem fe_X12_pair_35 : mj_f mi_X12_pair 35 = some (.goto 9, 3, 44, 0, .null) := by decide +kernel
theorem fe_X12_pair_38 : mj_f mi_X12_pair 38 = some (.aload_n 0, 1, 0, 0, .null) := by decide +kernel
theorem fe_X12_pair_39 : mj_f mi_X12_pair 39 = some (.getfield 104, 3, 12, 30, .null) := by decide +kernel
theorem fe_X12_pair_42 : mj_f mi_X12_pair 42 = some (.iload_n 1, 1, 1, 0, .null) := by decide +kernel
theorem fe_X12_pair_43 : mj_f mi_X12_pair 43 = some (.iaload, 1, 0, 0, .null) := by decide +kernel
theorem fe_X12_pair_44 : mj_f mi_X12_pair 44 = some (.ireturn, 1, 0, 0, .null) := by decide +kernel
def ct_X12_isLooked : MJT := [
  (0, 0, .aload_n 0, 1, 0, 0, .null),
  (1, 0, .iload_n 1, 1, 1, 0, .null),
  (2, 0, .iload_n 2, 1, 2, 0, .null),
  (3, 1397, .invokevirtual 254, 3, 212, 2, .null),
  (6, 0, .aload_n 0, 1, 0, 0, .null),
  (7, 1227, .getfield 58, 3, 12, 15, .null),
  (10, 0, .iconst 0, 1, 0, 0, .int (0)),
  (11, 0, .iaload, 1, 0, 0, .null),
  (12, 0, .ifCond .ne 5, 3, 17, 0, .null),
  (15, 0, .iconst 0, 1, 0, 0, .int (0)),
  (16, 0, .ireturn, 1, 0, 0, .null),
  (17, 0, .aload_n 0, 1, 0, 0, .null),
  (18, 0, .iconst 0, 1, 0, 0, .int (0)),
  (19, 1429, .invokevirtual 203, 3, 197, 1, .null),
  (22, 0, .lstore 8, 2, 8, 0, .null),
  (24, 0, .lload 8, 2, 8, 0, .null),
  (26, 0, .lstore 10, 2, 10, 0, .null),
  (28, 0, .iconst 0, 1, 0, 0, .int (0)),
  (29, 0, .istore 12, 2, 12, 0, .null),
  (31, 0, .iload 12, 2, 12, 0, .null),
  (33, 0, .aload_n 0, 1, 0, 0, .null),
  (34, 1227, .getfield 58, 3, 12, 15, .null),
  (37, 0, .iconst 0, 1, 0, 0, .int (0)),
  (38, 0, .iaload, 1, 0, 0, .null),
  (39, 0, .if_icmp .ge 36, 3, 75, 0, .null),
  (42, 0, .aload_n 0, 1, 0, 0, .null),
  (43, 1226, .getfield 55, 3, 12, 14, .null),
  (46, 0, .iload 12, 2, 12, 0, .null),
  (48, 0, .laload, 1, 0, 0, .null),
  (49, 0, .lload 10, 2, 10, 0, .null),
  (51, 0, .lcmp, 1, 0, 0, .null),
  (52, 0, .ifCond .le 13, 3, 65, 0, .null),
  (55, 0, .aload_n 0, 1, 0, 0, .null),
  (56, 1226, .getfield 55, 3, 12, 14, .null),
  (59, 0, .iload 12, 2, 12, 0, .null),
  (61, 0, .laload, 1, 0, 0, .null),
  (62, 0, .goto 5, 3, 67, 0, .null),
  (65, 0, .lload 10, 2, 10, 0, .null),
  (67, 0, .lstore 10, 2, 10, 0, .null),
  (69, 0, .iinc 12 1, 3, 12, 0, .int (1)),
  (72, 0, .goto (-41), 3, 31, 0, .null),
  (75, 0, .lload 10, 2, 10, 0, .null),
  (77, 0, .lload_n 3, 1, 3, 0, .null),
  (78, 0, .lcmp, 1, 0, 0, .null),
  (79, 0, .ifCond .lt 11, 3, 90, 0, .null),
  (82, 0, .lload 8, 2, 8, 0, .null),
  (84, 0, .lload 5, 2, 5, 0, .null),
  (86, 0, .lcmp, 1, 0, 0, .null),
  (87, 0, .ifCond .le 5, 3, 92, 0, .null),
  (90, 0, .iconst 0, 1, 0, 0, .int (0)),
  (91, 0, .ireturn, 1, 0, 0, .null),
  (92, 0, .iload 7, 2, 7, 0, .null),
  (94, 0, .ifCond .ne 18, 3, 112, 0, .null),
  (97, 0, .lload 8, 2, 8, 0, .null),
  (99, 0, .lload_n 3, 1, 3, 0, .null),
  (100, 0, .lcmp, 1, 0, 0, .null),
  (101, 0, .ifCond .lt 11, 3, 112, 0, .null),
  (104, 0, .lload 10, 2, 10, 0, .null),
  (106, 0, .lload 5, 2, 5, 0, .null),
  (108, 0, .lcmp, 1, 0, 0, .null),
  (109, 0, .ifCond .le 7, 3, 116, 0, .null),
  (112, 0, .iconst 1, 1, 0, 0, .int (1)),
  (113, 0, .goto 4, 3, 117, 0, .null),
  (116, 0, .iconst 0, 1, 0, 0, .int (0)),
  (117, 0, .ireturn, 1, 0, 0, .null)]
abbrev id_X12_isLooked : Nat := 239
def mi_X12_isLooked : MI := (yX12_isLooked, cX12_isLooked, 13, (some .boolean), 12, ct_X12_isLooked)
theorem fe_X12_isLooked_0 : mj_f mi_X12_isLooked 0 = some (.aload_n 0, 1, 0, 0, .null) := by decide +kernel
theorem fe_X12_isLooked_1 : mj_f mi_X12_isLooked 1 = some (.iload_n 1, 1, 1, 0, .null) := by decide +kernel
theorem fe_X12_isLooked_2 : mj_f mi_X12_isLooked 2 = some (.iload_n 2, 1, 2, 0, .null) := by decide +kernel
theorem fe_X12_isLooked_3 : mj_f mi_X12_isLooked 3 = some (.invokevirtual 254, 3, 212, 2, .null) := by decide +kernel
theorem fe_X12_isLooked_6 : mj_f mi_X12_isLooked 6 = some (.aload_n 0, 1, 0, 0, .null) := by decide +kernel
theorem fe_X12_isLooked_7 : mj_f mi_X12_isLooked 7 = some (.getfield 58, 3, 12, 15, .null) := by decide +kernel
theorem fe_X12_isLooked_10 : mj_f mi_X12_isLooked 10 = some (.iconst 0, 1, 0, 0, .int (0)) := by decide +kernel
theorem fe_X12_isLooked_11 : mj_f mi_X12_isLooked 11 = some (.iaload, 1, 0, 0, .null) := by decide +kernel
theorem fe_X12_isLooked_12 : mj_f mi_X12_isLooked 12 = some (.ifCond .ne 5, 3, 17, 0, .null) := by decide +kernel
theorem fe_X12_isLooked_15 : mj_f mi_X12_isLooked 15 = some (.iconst 0, 1, 0, 0, .int (0)) := by decide +kernel
theorem fe_X12_isLooked_16 : mj_f mi_X12_isLooked 16 = some (.ireturn, 1, 0, 0, .null) := by decide +kernel
theorem fe_X12_isLooked_17 : mj_f mi_X12_isLooked 17 = some (.aload_n 0, 1, 0, 0, .null) := by decide +kernel
theorem fe_X12_isLooked_18 : mj_f mi_X12_isLooked 18 = some (.iconst 0, 1, 0, 0, .int (0)) := by decide +kernel
theorem fe_X12_isLooked_19 : mj_f mi_X12_isLooked 19 = some (.invokevirtual 203, 3, 197, 1, .null) := by decide +kernel
theorem fe_X12_isLooked_22 : mj_f mi_X12_isLooked 22 = some (.lstore 8, 2, 8, 0, .null) := by decide +kernel
theorem fe_X12_isLooked_24 : mj_f mi_X12_isLooked 24 = some (.lload 8, 2, 8, 0, .null) := by decide +kernel
theorem fe_X12_isLooked_26 : mj_f mi_X12_isLooked 26 = some (.lstore 10, 2, 10, 0, .null) := by decide +kernel
theorem fe_X12_isLooked_28 : mj_f mi_X12_isLooked 28 = some (.iconst 0, 1, 0, 0, .int (0)) := by decide +kernel
theorem fe_X12_isLooked_29 : mj_f mi_X12_isLooked 29 = some (.istore 12, 2, 12, 0, .null) := by decide +kernel
theorem fe_X12_isLooked_31 : mj_f mi_X12_isLooked 31 = some (.iload 12, 2, 12, 0, .null) := by decide +kernel
theorem fe_X12_isLooked_33 : mj_f mi_X12_isLooked 33 = some (.aload_n 0, 1, 0, 0, .null) := by decide +kernel
theorem fe_X12_isLooked_34 : mj_f mi_X12_isLooked 34 = some (.getfield 58, 3, 12, 15, .null) := by decide +kernel
theorem fe_X12_isLooked_37 : mj_f mi_X12_isLooked 37 = some (.iconst 0, 1, 0, 0, .int (0)) := by decide +kernel
theorem fe_X12_isLooked_38 : mj_f mi_X12_isLooked 38 = some (.iaload, 1, 0, 0, .null) := by decide +kernel
theorem fe_X12_isLooked_39 : mj_f mi_X12_isLooked 39 = some (.if_icmp .ge 36, 3, 75, 0, .null) := by decide +kernel
theorem fe_X12_isLooked_42 : mj_f mi_X12_isLooked 42 = some (.aload_n 0, 1, 0, 0, .null) := by decide +kernel
theorem fe_X12_isLooked_43 : mj_f mi_X12_isLooked 43 = some (.getfield 55, 3, 12, 14, .null) := by decide +kernel
theorem fe_X12_isLooked_46 : mj_f mi_X12_isLooked 46 = some (.iload 12, 2, 12, 0, .null) := by decide +kernel
theorem fe_X12_isLooked_48 : mj_f mi_X12_isLooked 48 = some (.laload, 1, 0, 0, .null) := by decide +kernel
theorem fe_X12_isLooked_49 : mj_f mi_X12_isLooked 49 = some (.lload 10, 2, 10, 0, .null) := by decide +kernel
theorem fe_X12_isLooked_51 : mj_f mi_X12_isLooked 51 = some (.lcmp, 1, 0, 0, .null) := by decide +kernel
theorem fe_X12_isLooked_52 : mj_f mi_X12_isLooked 52 = some (.ifCond .le 13, 3, 65, 0, .null) := by decide +kernel
theorem fe_X12_isLooked_55 : mj_f mi_X12_isLooked 55 = some (.aload_n 0, 1, 0, 0, .null) := by decide +kernel
theorem fe_X12_isLooked_56 : mj_f mi_X12_isLooked 56 = some (.getfield 55, 3, 12, 14, .null) := by decide +kernel
theorem fe_X12_isLooked_59 : mj_f mi_X12_isLooked 59 = some (.iload 12, 2, 12, 0, .null) := by decide +kernel
theorem fe_X12_isLooked_61 : mj_f mi_X12_isLooked 61 = some (.laload, 1, 0, 0, .null) := by decide +kernel
theorem fe_X12_isLooked_62 : mj_f mi_X12_isLooked 62 = some (.goto 5, 3, 67, 0, .null) := by decide +kernel
theorem fe_X12_isLooked_65 : mj_f mi_X12_isLooked 65 = some (.lload 10, 2, 10, 0, .null) := by decide +kernel
theorem fe_X12_isLooked_67 : mj_f mi_X12_isLooked 67 = some (.lstore 10, 2, 10, 0, .null) := by decide +kernel
theorem fe_X12_isLooked_69 : mj_f mi_X12_isLooked 69 = some (.iinc 12 1, 3, 12, 0, .int (1)) := by decide +kernel
theorem fe_X12_isLooked_72 : mj_f mi_X12_isLooked 72 = some (.goto (-41), 3, 31, 0, .null) := by decide +kernel
theorem fe_X12_isLooked_75 : mj_f mi_X12_isLooked 75 = some (.lload 10, 2, 10, 0, .null) := by decide +kernel
theorem fe_X12_isLooked_77 : mj_f mi_X12_isLooked 77 = some (.lload_n 3, 1, 3, 0, .null) := by decide +kernel
theorem fe_X12_isLooked_78 : mj_f mi_X12_isLooked 78 = some (.lcmp, 1, 0, 0, .null) := by decide +kernel
theorem fe_X12_isLooked_79 : mj_f mi_X12_isLooked 79 = some (.ifCond .lt 11, 3, 90, 0, .null) := by decide +kernel
theorem fe_X12_isLooked_82 : mj_f mi_X12_isLooked 82 = some (.lload 8, 2, 8, 0, .null) := by decide +kernel
theorem fe_X12_isLooked_84 : mj_f mi_X12_isLooked 84 = some (.lload 5, 2, 5, 0, .null) := by decide +kernel
theorem fe_X12_isLooked_86 : mj_f mi_X12_isLooked 86 = some (.lcmp, 1, 0, 0, .null) := by decide +kernel
theorem fe_X12_isLooked_87 : mj_f mi_X12_isLooked 87 = some (.ifCond .le 5, 3, 92, 0, .null) := by decide +kernel
theorem fe_X12_isLooked_90 : mj_f mi_X12_isLooked 90 = some (.iconst 0, 1, 0, 0, .int (0)) := by decide +kernel
theorem fe_X12_isLooked_91 : mj_f mi_X12_isLooked 91 = some (.ireturn, 1, 0, 0, .null) := by decide +kernel
theorem fe_X12_isLooked_92 : mj_f mi_X12_isLooked 92 = some (.iload 7, 2, 7, 0, .null) := by decide +kernel
theorem fe_X12_isLooked_94 : mj_f mi_X12_isLooked 94 = some (.ifCond .ne 18, 3, 112, 0, .null) := by decide +kernel
theorem fe_X12_isLooked_97 : mj_f mi_X12_isLooked 97 = some (.lload 8, 2, 8, 0, .null) := by decide +kernel
theorem fe_X12_isLooked_99 : mj_f mi_X12_isLooked 99 = some (.lload_n 3, 1, 3, 0, .null) := by decide +kernel
theorem fe_X12_isLooked_100 : mj_f mi_X12_isLooked 100 = some (.lcmp, 1, 0, 0, .null) := by decide +kernel
theorem fe_X12_isLooked_101 : mj_f mi_X12_isLooked 101 = some (.ifCond .lt 11, 3, 112, 0, .null) := by decide +kernel
theorem fe_X12_isLooked_104 : mj_f mi_X12_isLooked 104 = some (.lload 10, 2, 10, 0, .null) := by decide +kernel
theorem fe_X12_isLooked_106 : mj_f mi_X12_isLooked 106 = some (.lload 5, 2, 5, 0, .null) := by decide +kernel
theorem fe_X12_isLooked_108 : mj_f mi_X12_isLooked 108 = some (.lcmp, 1, 0, 0, .null) := by decide +kernel
theorem fe_X12_isLooked_109 : mj_f mi_X12_isLooked 109 = some (.ifCond .le 7, 3, 116, 0, .null) := by decide +kernel
theorem fe_X12_isLooked_112 : mj_f mi_X12_isLooked 112 = some (.iconst 1, 1, 0, 0, .int (1)) := by decide +kernel
theorem fe_X12_isLooked_113 : mj_f mi_X12_isLooked 113 = some (.goto 4, 3, 117, 0, .null) := by decide +kernel
theorem fe_X12_isLooked_116 : mj_f mi_X12_isLooked 116 = some (.iconst 0, 1, 0, 0, .int (0)) := by decide +kernel
theorem fe_X12_isLooked_117 : mj_f mi_X12_isLooked 117 = some (.ireturn, 1, 0, 0, .null) := by decide +kernel
def ct_X12_looks : MJT := [
  (0, 0, .aload_n 0, 1, 0, 0, .null),
  (1, 0, .iconst 0, 1, 0, 0, .int (0)),
  (2, 1225, .putfield 52, 3, 12, 13, .int 0),
  (5, 0, .iconst 0, 1, 0, 0, .int (0)),
  (6, 0, .istore 7, 2, 7, 0, .null),
  (8, 0, .iload 7, 2, 7, 0, .null),
  (10, 0, .aload_n 0, 1, 0, 0, .null),
  (11, 0, .iload_n 1, 1, 1, 0, .null),
  (12, 1538, .invokevirtual 298, 3, 217, 1, .null),
  (15, 0, .if_icmp .ge 52, 3, 67, 0, .null),
  (18, 0, .aload_n 0, 1, 0, 0, .null),
  (19, 0, .dup, 1, 0, 0, .null),
  (20, 1225, .getfield 52, 3, 12, 13, .int 0),
  (23, 0, .aload_n 0, 1, 0, 0, .null),
  (24, 1218, .getfield 30, 3, 12, 6, .null),
  (27, 0, .iconst 5, 1, 0, 0, .int (5)),
  (28, 0, .iload_n 1, 1, 1, 0, .null),
  (29, 0, .imul, 1, 0, 0, .null),
  (30, 0, .iload 7, 2, 7, 0, .null),
  (32, 0, .iadd, 1, 0, 0, .null),
  (33, 0, .baload, 1, 0, 0, .null),
  (34, 0, .ifCond .eq 22, 3, 56, 0, .null),
  (37, 0, .aload_n 0, 1, 0, 0, .null),
  (38, 0, .iload_n 1, 1, 1, 0, .null),
  (39, 0, .iload 7, 2, 7, 0, .null),
  (41, 0, .lload_n 2, 1, 2, 0, .null),
  (42, 0, .lload 4, 2, 4, 0, .null),
  (44, 0, .iload 6, 2, 6, 0, .null),
  (46, 1642, .invokevirtual 316, 3, 239, 5, .null),
  (49, 0, .ifCond .eq 7, 3, 56, 0, .null),
  (52, 0, .iconst 1, 1, 0, 0, .int (1)),
  (53, 0, .goto 4, 3, 57, 0, .null),
  (56, 0, .iconst 0, 1, 0, 0, .int (0)),
  (57, 0, .iadd, 1, 0, 0, .null),
  (58, 1225, .putfield 52, 3, 12, 13, .int 0),
  (61, 0, .iinc 7 1, 3, 7, 0, .int (1)),
  (64, 0, .goto (-56), 3, 8, 0, .null),
  (67, 0, .return_, 1, 0, 0, .null)]
abbrev id_X12_looks : Nat := 240
def mi_X12_looks : MI := (yX12_looks, cX12_looks, 8, none, 12, ct_X12_looks)
theorem fe_X12_looks_0 : mj_f mi_X12_looks 0 = some (.aload_n 0, 1, 0, 0, .null) := by decide +kernel
theorem fe_X12_looks_1 : mj_f mi_X12_looks 1 = some (.iconst 0, 1, 0, 0, .int (0)) := by decide +kernel
theorem fe_X12_looks_2 : mj_f mi_X12_looks 2 = some (.putfield 52, 3, 12, 13, .int 0) := by decide +kernel
theorem fe_X12_looks_5 : mj_f mi_X12_looks 5 = some (.iconst 0, 1, 0, 0, .int (0)) := by decide +kernel
theorem fe_X12_looks_6 : mj_f mi_X12_looks 6 = some (.istore 7, 2, 7, 0, .null) := by decide +kernel
theorem fe_X12_looks_8 : mj_f mi_X12_looks 8 = some (.iload 7, 2, 7, 0, .null) := by decide +kernel
theorem fe_X12_looks_10 : mj_f mi_X12_looks 10 = some (.aload_n 0, 1, 0, 0, .null) := by decide +kernel
theorem fe_X12_looks_11 : mj_f mi_X12_looks 11 = some (.iload_n 1, 1, 1, 0, .null) := by decide +kernel
theorem fe_X12_looks_12 : mj_f mi_X12_looks 12 = some (.invokevirtual 298, 3, 217, 1, .null) := by decide +kernel
theorem fe_X12_looks_15 : mj_f mi_X12_looks 15 = some (.if_icmp .ge 52, 3, 67, 0, .null) := by decide +kernel
theorem fe_X12_looks_18 : mj_f mi_X12_looks 18 = some (.aload_n 0, 1, 0, 0, .null) := by decide +kernel
theorem fe_X12_looks_19 : mj_f mi_X12_looks 19 = some (.dup, 1, 0, 0, .null) := by decide +kernel
theorem fe_X12_looks_20 : mj_f mi_X12_looks 20 = some (.getfield 52, 3, 12, 13, .int 0) := by decide +kernel
theorem fe_X12_looks_23 : mj_f mi_X12_looks 23 = some (.aload_n 0, 1, 0, 0, .null) := by decide +kernel
theorem fe_X12_looks_24 : mj_f mi_X12_looks 24 = some (.getfield 30, 3, 12, 6, .null) := by decide +kernel
theorem fe_X12_looks_27 : mj_f mi_X12_looks 27 = some (.iconst 5, 1, 0, 0, .int (5)) := by decide +kernel
theorem fe_X12_looks_28 : mj_f mi_X12_looks 28 = some (.iload_n 1, 1, 1, 0, .null) := by decide +kernel
theorem fe_X12_looks_29 : mj_f mi_X12_looks 29 = some (.imul, 1, 0, 0, .null) := by decide +kernel
theorem fe_X12_looks_30 : mj_f mi_X12_looks 30 = some (.iload 7, 2, 7, 0, .null) := by decide +kernel
theorem fe_X12_looks_32 : mj_f mi_X12_looks 32 = some (.iadd, 1, 0, 0, .null) := by decide +kernel
theorem fe_X12_looks_33 : mj_f mi_X12_looks 33 = some (.baload, 1, 0, 0, .null) := by decide +kernel
theorem fe_X12_looks_34 : mj_f mi_X12_looks 34 = some (.ifCond .eq 22, 3, 56, 0, .null) := by decide +kernel
theorem fe_X12_looks_37 : mj_f mi_X12_looks 37 = some (.aload_n 0, 1, 0, 0, .null) := by decide +kernel
theorem fe_X12_looks_38 : mj_f mi_X12_looks 38 = some (.iload_n 1, 1, 1, 0, .null) := by decide +kernel
theorem fe_X12_looks_39 : mj_f mi_X12_looks 39 = some (.iload 7, 2, 7, 0, .null) := by decide +kernel
theorem fe_X12_looks_41 : mj_f mi_X12_looks 41 = some (.lload_n 2, 1, 2, 0, .null) := by decide +kernel
theorem fe_X12_looks_42 : mj_f mi_X12_looks 42 = some (.lload 4, 2, 4, 0, .null) := by decide +kernel
theorem fe_X12_looks_44 : mj_f mi_X12_looks 44 = some (.iload 6, 2, 6, 0, .null) := by decide +kernel
theorem fe_X12_looks_46 : mj_f mi_X12_looks 46 = some (.invokevirtual 316, 3, 239, 5, .null) := by decide +kernel
theorem fe_X12_looks_49 : mj_f mi_X12_looks 49 = some (.ifCond .eq 7, 3, 56, 0, .null) := by decide +kernel
theorem fe_X12_looks_52 : mj_f mi_X12_looks 52 = some (.iconst 1, 1, 0, 0, .int (1)) := by decide +kernel
theorem fe_X12_looks_53 : mj_f mi_X12_looks 53 = some (.goto 4, 3, 57, 0, .null) := by decide +kernel
theorem fe_X12_looks_56 : mj_f mi_X12_looks 56 = some (.iconst 0, 1, 0, 0, .int (0)) := by decide +kernel
theorem fe_X12_looks_57 : mj_f mi_X12_looks 57 = some (.iadd, 1, 0, 0, .null) := by decide +kernel
theorem fe_X12_looks_58 : mj_f mi_X12_looks 58 = some (.putfield 52, 3, 12, 13, .int 0) := by decide +kernel
theorem fe_X12_looks_61 : mj_f mi_X12_looks 61 = some (.iinc 7 1, 3, 7, 0, .int (1)) := by decide +kernel
theorem fe_X12_looks_64 : mj_f mi_X12_looks 64 = some (.goto (-56), 3, 8, 0, .null) := by decide +kernel
theorem fe_X12_looks_67 : mj_f mi_X12_looks 67 = some (.return_, 1, 0, 0, .null) := by decide +kernel
def ct_X12_among : MJT := [
  (0, 0, .iload_n 1, 1, 1, 0, .null),
  (1, 1379, .invokestatic 276, 3, 216, 1, .null),
  (4, 0, .ifCond .ne 5, 3, 9, 0, .null),
  (7, 0, .iconst (-1), 1, 0, 0, .int (-1)),
  (8, 0, .ireturn, 1, 0, 0, .null),
  (9, 0, .aload_n 0, 1, 0, 0, .null),
  (10, 0, .iload_n 1, 1, 1, 0, .null),
  (11, 0, .lload_n 2, 1, 2, 0, .null),
  (12, 0, .lload 4, 2, 4, 0, .null),
  (14, 0, .iconst 0, 1, 0, 0, .int (0)),
  (15, 1638, .invokevirtual 320, 3, 240, 4, .null),
  (18, 0, .iconst 0, 1, 0, 0, .int (0)),
  (19, 0, .istore 6, 2, 6, 0, .null),
  (21, 0, .iconst 0, 1, 0, 0, .int (0)),
  (22, 0, .istore 7, 2, 7, 0, .null),
  (24, 0, .iload 7, 2, 7, 0, .null),
  (26, 0, .aload_n 0, 1, 0, 0, .null),
  (27, 1212, .getfield 7, 3, 12, 0, .null),
  (30, 0, .iload_n 1, 1, 1, 0, .null),
  (31, 0, .iaload, 1, 0, 0, .null),
  (32, 0, .if_icmp .ge 72, 3, 104, 0, .null),
  (35, 0, .iload 6, 2, 6, 0, .null),
  (37, 0, .aload_n 0, 1, 0, 0, .null),
  (38, 1216, .getfield 23, 3, 12, 4, .null),
  (41, 0, .sipush 160, 3, 0, 0, .int (160)),
  (44, 0, .iload_n 1, 1, 1, 0, .null),
  (45, 0, .imul, 1, 0, 0, .null),
  (46, 0, .iload 7, 2, 7, 0, .null),
  (48, 0, .iadd, 1, 0, 0, .null),
  (49, 0, .baload, 1, 0, 0, .null),
  (50, 0, .ifCond .ne 44, 3, 94, 0, .null),
  (53, 0, .aload_n 0, 1, 0, 0, .null),
  (54, 1215, .getfield 19, 3, 12, 3, .null),
  (57, 0, .sipush 160, 3, 0, 0, .int (160)),
  (60, 0, .iload_n 1, 1, 1, 0, .null),
  (61, 0, .imul, 1, 0, 0, .null),
  (62, 0, .iload 7, 2, 7, 0, .null),
  (64, 0, .iadd, 1, 0, 0, .null),
  (65, 0, .laload, 1, 0, 0, .null),
  (66, 0, .lload_n 2, 1, 2, 0, .null),
  (67, 0, .lcmp, 1, 0, 0, .null),
  (68, 0, .ifCond .lt 26, 3, 94, 0, .null),
  (71, 0, .aload_n 0, 1, 0, 0, .null),
  (72, 1215, .getfield 19, 3, 12, 3, .null),
  (75, 0, .sipush 160, 3, 0, 0, .int (160)),
  (78, 0, .iload_n 1, 1, 1, 0, .null),
  (79, 0, .imul, 1, 0, 0, .null),
  (80, 0, .iload 7, 2, 7, 0, .null),
  (82, 0, .iadd, 1, 0, 0, .null),
  (83, 0, .laload, 1, 0, 0, .null),
  (84, 0, .lload 4, 2, 4, 0, .null),
  (86, 0, .lcmp, 1, 0, 0, .null),
  (87, 0, .ifCond .gt 7, 3, 94, 0, .null),
  (90, 0, .iconst 1, 1, 0, 0, .int (1)),
  (91, 0, .goto 4, 3, 95, 0, .null),
  (94, 0, .iconst 0, 1, 0, 0, .int (0)),
  (95, 0, .iadd, 1, 0, 0, .null),
  (96, 0, .istore 6, 2, 6, 0, .null),
  (98, 0, .iinc 7 1, 3, 7, 0, .int (1)),
  (101, 0, .goto (-77), 3, 24, 0, .null),
  (104, 0, .iload 6, 2, 6, 0, .null),
  (106, 0, .ireturn, 1, 0, 0, .null)]
abbrev id_X12_among : Nat := 241
def mi_X12_among : MI := (yX12_among, cX12_among, 8, (some .int), 12, ct_X12_among)
theorem fe_X12_among_0 : mj_f mi_X12_among 0 = some (.iload_n 1, 1, 1, 0, .null) := by decide +kernel
theorem fe_X12_among_1 : mj_f mi_X12_among 1 = some (.invokestatic 276, 3, 216, 1, .null) := by decide +kernel
theorem fe_X12_among_4 : mj_f mi_X12_among 4 = some (.ifCond .ne 5, 3, 9, 0, .null) := by decide +kernel
theorem fe_X12_among_7 : mj_f mi_X12_among 7 = some (.iconst (-1), 1, 0, 0, .int (-1)) := by decide +kernel
theorem fe_X12_among_8 : mj_f mi_X12_among 8 = some (.ireturn, 1, 0, 0, .null) := by decide +kernel
theorem fe_X12_among_9 : mj_f mi_X12_among 9 = some (.aload_n 0, 1, 0, 0, .null) := by decide +kernel
theorem fe_X12_among_10 : mj_f mi_X12_among 10 = some (.iload_n 1, 1, 1, 0, .null) := by decide +kernel
theorem fe_X12_among_11 : mj_f mi_X12_among 11 = some (.lload_n 2, 1, 2, 0, .null) := by decide +kernel
theorem fe_X12_among_12 : mj_f mi_X12_among 12 = some (.lload 4, 2, 4, 0, .null) := by decide +kernel
theorem fe_X12_among_14 : mj_f mi_X12_among 14 = some (.iconst 0, 1, 0, 0, .int (0)) := by decide +kernel
theorem fe_X12_among_15 : mj_f mi_X12_among 15 = some (.invokevirtual 320, 3, 240, 4, .null) := by decide +kernel
theorem fe_X12_among_18 : mj_f mi_X12_among 18 = some (.iconst 0, 1, 0, 0, .int (0)) := by decide +kernel
theorem fe_X12_among_19 : mj_f mi_X12_among 19 = some (.istore 6, 2, 6, 0, .null) := by decide +kernel
theorem fe_X12_among_21 : mj_f mi_X12_among 21 = some (.iconst 0, 1, 0, 0, .int (0)) := by decide +kernel
theorem fe_X12_among_22 : mj_f mi_X12_among 22 = some (.istore 7, 2, 7, 0, .null) := by decide +kernel
theorem fe_X12_among_24 : mj_f mi_X12_among 24 = some (.iload 7, 2, 7, 0, .null) := by decide +kernel
theorem fe_X12_among_26 : mj_f mi_X12_among 26 = some (.aload_n 0, 1, 0, 0, .null) := by decide +kernel
theorem fe_X12_among_27 : mj_f mi_X12_among 27 = some (.getfield 7, 3, 12, 0, .null) := by decide +kernel
theorem fe_X12_among_30 : mj_f mi_X12_among 30 = some (.iload_n 1, 1, 1, 0, .null) := by decide +kernel
theorem fe_X12_among_31 : mj_f mi_X12_among 31 = some (.iaload, 1, 0, 0, .null) := by decide +kernel
theorem fe_X12_among_32 : mj_f mi_X12_among 32 = some (.if_icmp .ge 72, 3, 104, 0, .null) := by decide +kernel
theorem fe_X12_among_35 : mj_f mi_X12_among 35 = some (.iload 6, 2, 6, 0, .null) := by decide +kernel
theorem fe_X12_among_37 : mj_f mi_X12_among 37 = some (.aload_n 0, 1, 0, 0, .null) := by decide +kernel
theorem fe_X12_among_38 : mj_f mi_X12_among 38 = some (.getfield 23, 3, 12, 4, .null) := by decide +kernel
theorem fe_X12_among_41 : mj_f mi_X12_among 41 = some (.sipush 160, 3, 0, 0, .int (160)) := by decide +kernel
theorem fe_X12_among_44 : mj_f mi_X12_among 44 = some (.iload_n 1, 1, 1, 0, .null) := by decide +kernel
theorem fe_X12_among_45 : mj_f mi_X12_among 45 = some (.imul, 1, 0, 0, .null) := by decide +kernel
theorem fe_X12_among_46 : mj_f mi_X12_among 46 = some (.iload 7, 2, 7, 0, .null) := by decide +kernel
theorem fe_X12_among_48 : mj_f mi_X12_among 48 = some (.iadd, 1, 0, 0, .null) := by decide +kernel
theorem fe_X12_among_49 : mj_f mi_X12_among 49 = some (.baload, 1, 0, 0, .null) := by decide +kernel
theorem fe_X12_among_50 : mj_f mi_X12_among 50 = some (.ifCond .ne 44, 3, 94, 0, .null) := by decide +kernel
theorem fe_X12_among_53 : mj_f mi_X12_among 53 = some (.aload_n 0, 1, 0, 0, .null) := by decide +kernel
theorem fe_X12_among_54 : mj_f mi_X12_among 54 = some (.getfield 19, 3, 12, 3, .null) := by decide +kernel
theorem fe_X12_among_57 : mj_f mi_X12_among 57 = some (.sipush 160, 3, 0, 0, .int (160)) := by decide +kernel
theorem fe_X12_among_60 : mj_f mi_X12_among 60 = some (.iload_n 1, 1, 1, 0, .null) := by decide +kernel
theorem fe_X12_among_61 : mj_f mi_X12_among 61 = some (.imul, 1, 0, 0, .null) := by decide +kernel
theorem fe_X12_among_62 : mj_f mi_X12_among 62 = some (.iload 7, 2, 7, 0, .null) := by decide +kernel
theorem fe_X12_among_64 : mj_f mi_X12_among 64 = some (.iadd, 1, 0, 0, .null) := by decide +kernel
theorem fe_X12_among_65 : mj_f mi_X12_among 65 = some (.laload, 1, 0, 0, .null) := by decide +kernel
theorem fe_X12_among_66 : mj_f mi_X12_among 66 = some (.lload_n 2, 1, 2, 0, .null) := by decide +kernel
theorem fe_X12_among_67 : mj_f mi_X12_among 67 = some (.lcmp, 1, 0, 0, .null) := by decide +kernel
theorem fe_X12_among_68 : mj_f mi_X12_among 68 = some (.ifCond .lt 26, 3, 94, 0, .null) := by decide +kernel
theorem fe_X12_among_71 : mj_f mi_X12_among 71 = some (.aload_n 0, 1, 0, 0, .null) := by decide +kernel
theorem fe_X12_among_72 : mj_f mi_X12_among 72 = some (.getfield 19, 3, 12, 3, .null) := by decide +kernel
theorem fe_X12_among_75 : mj_f mi_X12_among 75 = some (.sipush 160, 3, 0, 0, .int (160)) := by decide +kernel
theorem fe_X12_among_78 : mj_f mi_X12_among 78 = some (.iload_n 1, 1, 1, 0, .null) := by decide +kernel
theorem fe_X12_among_79 : mj_f mi_X12_among 79 = some (.imul, 1, 0, 0, .null) := by decide +kernel
theorem fe_X12_among_80 : mj_f mi_X12_among 80 = some (.iload 7, 2, 7, 0, .null) := by decide +kernel
theorem fe_X12_among_82 : mj_f mi_X12_among 82 = some (.iadd, 1, 0, 0, .null) := by decide +kernel
theorem fe_X12_among_83 : mj_f mi_X12_among 83 = some (.laload, 1, 0, 0, .null) := by decide +kernel
theorem fe_X12_among_84 : mj_f mi_X12_among 84 = some (.lload 4, 2, 4, 0, .null) := by decide +kernel
theorem fe_X12_among_86 : mj_f mi_X12_among 86 = some (.lcmp, 1, 0, 0, .null) := by decide +kernel
theorem fe_X12_among_87 : mj_f mi_X12_among 87 = some (.ifCond .gt 7, 3, 94, 0, .null) := by decide +kernel
theorem fe_X12_among_90 : mj_f mi_X12_among 90 = some (.iconst 1, 1, 0, 0, .int (1)) := by decide +kernel
theorem fe_X12_among_91 : mj_f mi_X12_among 91 = some (.goto 4, 3, 95, 0, .null) := by decide +kernel
theorem fe_X12_among_94 : mj_f mi_X12_among 94 = some (.iconst 0, 1, 0, 0, .int (0)) := by decide +kernel
theorem fe_X12_among_95 : mj_f mi_X12_among 95 = some (.iadd, 1, 0, 0, .null) := by decide +kernel
theorem fe_X12_among_96 : mj_f mi_X12_among 96 = some (.istore 6, 2, 6, 0, .null) := by decide +kernel
theorem fe_X12_among_98 : mj_f mi_X12_among 98 = some (.iinc 7 1, 3, 7, 0, .int (1)) := by decide +kernel
theorem fe_X12_among_101 : mj_f mi_X12_among 101 = some (.goto (-77), 3, 24, 0, .null) := by decide +kernel
theorem fe_X12_among_104 : mj_f mi_X12_among 104 = some (.iload 6, 2, 6, 0, .null) := by decide +kernel
theorem fe_X12_among_106 : mj_f mi_X12_among 106 = some (.ireturn, 1, 0, 0, .null) := by decide +kernel
def ct_X12_sum : MJT := [
  (0, 0, .iload_n 1, 1, 1, 0, .null),
  (1, 1379, .invokestatic 276, 3, 216, 1, .null),
  (4, 0, .ifCond .ne 5, 3, 9, 0, .null),
  (7, 0, .lconst 0, 1, 0, 0, .long 0),
  (8, 0, .lreturn, 1, 0, 0, .null),
  (9, 0, .aload_n 0, 1, 0, 0, .null),
  (10, 0, .iload_n 1, 1, 1, 0, .null),
  (11, 0, .lload_n 2, 1, 2, 0, .null),
  (12, 0, .lload 4, 2, 4, 0, .null),
  (14, 0, .iconst 1, 1, 0, 0, .int (1)),
  (15, 1638, .invokevirtual 320, 3, 240, 4, .null),
  (18, 0, .lconst 0, 1, 0, 0, .long 0),
  (19, 0, .lstore 6, 2, 6, 0, .null),
  (21, 0, .iconst 0, 1, 0, 0, .int (0)),
  (22, 0, .istore 8, 2, 8, 0, .null),
  (24, 0, .iload 8, 2, 8, 0, .null),
  (26, 0, .aload_n 0, 1, 0, 0, .null),
  (27, 1212, .getfield 7, 3, 12, 0, .null),
  (30, 0, .iload_n 1, 1, 1, 0, .null),
  (31, 0, .iaload, 1, 0, 0, .null),
  (32, 0, .if_icmp .ge 84, 3, 116, 0, .null),
  (35, 0, .lload 6, 2, 6, 0, .null),
  (37, 0, .aload_n 0, 1, 0, 0, .null),
  (38, 1216, .getfield 23, 3, 12, 4, .null),
  (41, 0, .sipush 160, 3, 0, 0, .int (160)),
  (44, 0, .iload_n 1, 1, 1, 0, .null),
  (45, 0, .imul, 1, 0, 0, .null),
  (46, 0, .iload 8, 2, 8, 0, .null),
  (48, 0, .iadd, 1, 0, 0, .null),
  (49, 0, .baload, 1, 0, 0, .null),
  (50, 0, .ifCond .ne 56, 3, 106, 0, .null),
  (53, 0, .aload_n 0, 1, 0, 0, .null),
  (54, 1215, .getfield 19, 3, 12, 3, .null),
  (57, 0, .sipush 160, 3, 0, 0, .int (160)),
  (60, 0, .iload_n 1, 1, 1, 0, .null),
  (61, 0, .imul, 1, 0, 0, .null),
  (62, 0, .iload 8, 2, 8, 0, .null),
  (64, 0, .iadd, 1, 0, 0, .null),
  (65, 0, .laload, 1, 0, 0, .null),
  (66, 0, .lload_n 2, 1, 2, 0, .null),
  (67, 0, .lcmp, 1, 0, 0, .null),
  (68, 0, .ifCond .lt 38, 3, 106, 0, .null),
  (71, 0, .aload_n 0, 1, 0, 0, .null),
  (72, 1215, .getfield 19, 3, 12, 3, .null),
  (75, 0, .sipush 160, 3, 0, 0, .int (160)),
  (78, 0, .iload_n 1, 1, 1, 0, .null),
  (79, 0, .imul, 1, 0, 0, .null),
  (80, 0, .iload 8, 2, 8, 0, .null),
  (82, 0, .iadd, 1, 0, 0, .null),
  (83, 0, .laload, 1, 0, 0, .null),
  (84, 0, .lload 4, 2, 4, 0, .null),
  (86, 0, .lcmp, 1, 0, 0, .null),
  (87, 0, .ifCond .gt 19, 3, 106, 0, .null),
  (90, 0, .aload_n 0, 1, 0, 0, .null),
  (91, 1215, .getfield 19, 3, 12, 3, .null),
  (94, 0, .sipush 160, 3, 0, 0, .int (160)),
  (97, 0, .iload_n 1, 1, 1, 0, .null),
  (98, 0, .imul, 1, 0, 0, .null),
  (99, 0, .iload 8, 2, 8, 0, .null),
  (101, 0, .iadd, 1, 0, 0, .null),
  (102, 0, .laload, 1, 0, 0, .null),
  (103, 0, .goto 4, 3, 107, 0, .null),
  (106, 0, .lconst 0, 1, 0, 0, .long 0),
  (107, 0, .ladd, 1, 0, 0, .null),
  (108, 0, .lstore 6, 2, 6, 0, .null),
  (110, 0, .iinc 8 1, 3, 8, 0, .int (1)),
  (113, 0, .goto (-89), 3, 24, 0, .null),
  (116, 0, .lload 6, 2, 6, 0, .null),
  (118, 0, .lreturn, 1, 0, 0, .null)]
abbrev id_X12_sum : Nat := 242
def mi_X12_sum : MI := (yX12_sum, cX12_sum, 9, (some .long), 12, ct_X12_sum)
theorem fe_X12_sum_0 : mj_f mi_X12_sum 0 = some (.iload_n 1, 1, 1, 0, .null) := by decide +kernel
theorem fe_X12_sum_1 : mj_f mi_X12_sum 1 = some (.invokestatic 276, 3, 216, 1, .null) := by decide +kernel
theorem fe_X12_sum_4 : mj_f mi_X12_sum 4 = some (.ifCond .ne 5, 3, 9, 0, .null) := by decide +kernel
theorem fe_X12_sum_7 : mj_f mi_X12_sum 7 = some (.lconst 0, 1, 0, 0, .long 0) := by decide +kernel
theorem fe_X12_sum_8 : mj_f mi_X12_sum 8 = some (.lreturn, 1, 0, 0, .null) := by decide +kernel
theorem fe_X12_sum_9 : mj_f mi_X12_sum 9 = some (.aload_n 0, 1, 0, 0, .null) := by decide +kernel
theorem fe_X12_sum_10 : mj_f mi_X12_sum 10 = some (.iload_n 1, 1, 1, 0, .null) := by decide +kernel
theorem fe_X12_sum_11 : mj_f mi_X12_sum 11 = some (.lload_n 2, 1, 2, 0, .null) := by decide +kernel
theorem fe_X12_sum_12 : mj_f mi_X12_sum 12 = some (.lload 4, 2, 4, 0, .null) := by decide +kernel
theorem fe_X12_sum_14 : mj_f mi_X12_sum 14 = some (.iconst 1, 1, 0, 0, .int (1)) := by decide +kernel
theorem fe_X12_sum_15 : mj_f mi_X12_sum 15 = some (.invokevirtual 320, 3, 240, 4, .null) := by decide +kernel
theorem fe_X12_sum_18 : mj_f mi_X12_sum 18 = some (.lconst 0, 1, 0, 0, .long 0) := by decide +kernel
theorem fe_X12_sum_19 : mj_f mi_X12_sum 19 = some (.lstore 6, 2, 6, 0, .null) := by decide +kernel
theorem fe_X12_sum_21 : mj_f mi_X12_sum 21 = some (.iconst 0, 1, 0, 0, .int (0)) := by decide +kernel
theorem fe_X12_sum_22 : mj_f mi_X12_sum 22 = some (.istore 8, 2, 8, 0, .null) := by decide +kernel
theorem fe_X12_sum_24 : mj_f mi_X12_sum 24 = some (.iload 8, 2, 8, 0, .null) := by decide +kernel
theorem fe_X12_sum_26 : mj_f mi_X12_sum 26 = some (.aload_n 0, 1, 0, 0, .null) := by decide +kernel
theorem fe_X12_sum_27 : mj_f mi_X12_sum 27 = some (.getfield 7, 3, 12, 0, .null) := by decide +kernel
theorem fe_X12_sum_30 : mj_f mi_X12_sum 30 = some (.iload_n 1, 1, 1, 0, .null) := by decide +kernel
theorem fe_X12_sum_31 : mj_f mi_X12_sum 31 = some (.iaload, 1, 0, 0, .null) := by decide +kernel
theorem fe_X12_sum_32 : mj_f mi_X12_sum 32 = some (.if_icmp .ge 84, 3, 116, 0, .null) := by decide +kernel
theorem fe_X12_sum_35 : mj_f mi_X12_sum 35 = some (.lload 6, 2, 6, 0, .null) := by decide +kernel
theorem fe_X12_sum_37 : mj_f mi_X12_sum 37 = some (.aload_n 0, 1, 0, 0, .null) := by decide +kernel
theorem fe_X12_sum_38 : mj_f mi_X12_sum 38 = some (.getfield 23, 3, 12, 4, .null) := by decide +kernel
theorem fe_X12_sum_41 : mj_f mi_X12_sum 41 = some (.sipush 160, 3, 0, 0, .int (160)) := by decide +kernel
theorem fe_X12_sum_44 : mj_f mi_X12_sum 44 = some (.iload_n 1, 1, 1, 0, .null) := by decide +kernel
theorem fe_X12_sum_45 : mj_f mi_X12_sum 45 = some (.imul, 1, 0, 0, .null) := by decide +kernel
theorem fe_X12_sum_46 : mj_f mi_X12_sum 46 = some (.iload 8, 2, 8, 0, .null) := by decide +kernel
theorem fe_X12_sum_48 : mj_f mi_X12_sum 48 = some (.iadd, 1, 0, 0, .null) := by decide +kernel
theorem fe_X12_sum_49 : mj_f mi_X12_sum 49 = some (.baload, 1, 0, 0, .null) := by decide +kernel
theorem fe_X12_sum_50 : mj_f mi_X12_sum 50 = some (.ifCond .ne 56, 3, 106, 0, .null) := by decide +kernel
theorem fe_X12_sum_53 : mj_f mi_X12_sum 53 = some (.aload_n 0, 1, 0, 0, .null) := by decide +kernel
theorem fe_X12_sum_54 : mj_f mi_X12_sum 54 = some (.getfield 19, 3, 12, 3, .null) := by decide +kernel
theorem fe_X12_sum_57 : mj_f mi_X12_sum 57 = some (.sipush 160, 3, 0, 0, .int (160)) := by decide +kernel
theorem fe_X12_sum_60 : mj_f mi_X12_sum 60 = some (.iload_n 1, 1, 1, 0, .null) := by decide +kernel
theorem fe_X12_sum_61 : mj_f mi_X12_sum 61 = some (.imul, 1, 0, 0, .null) := by decide +kernel
theorem fe_X12_sum_62 : mj_f mi_X12_sum 62 = some (.iload 8, 2, 8, 0, .null) := by decide +kernel
theorem fe_X12_sum_64 : mj_f mi_X12_sum 64 = some (.iadd, 1, 0, 0, .null) := by decide +kernel
theorem fe_X12_sum_65 : mj_f mi_X12_sum 65 = some (.laload, 1, 0, 0, .null) := by decide +kernel
theorem fe_X12_sum_66 : mj_f mi_X12_sum 66 = some (.lload_n 2, 1, 2, 0, .null) := by decide +kernel
theorem fe_X12_sum_67 : mj_f mi_X12_sum 67 = some (.lcmp, 1, 0, 0, .null) := by decide +kernel
theorem fe_X12_sum_68 : mj_f mi_X12_sum 68 = some (.ifCond .lt 38, 3, 106, 0, .null) := by decide +kernel
theorem fe_X12_sum_71 : mj_f mi_X12_sum 71 = some (.aload_n 0, 1, 0, 0, .null) := by decide +kernel
theorem fe_X12_sum_72 : mj_f mi_X12_sum 72 = some (.getfield 19, 3, 12, 3, .null) := by decide +kernel
theorem fe_X12_sum_75 : mj_f mi_X12_sum 75 = some (.sipush 160, 3, 0, 0, .int (160)) := by decide +kernel
theorem fe_X12_sum_78 : mj_f mi_X12_sum 78 = some (.iload_n 1, 1, 1, 0, .null) := by decide +kernel
theorem fe_X12_sum_79 : mj_f mi_X12_sum 79 = some (.imul, 1, 0, 0, .null) := by decide +kernel
theorem fe_X12_sum_80 : mj_f mi_X12_sum 80 = some (.iload 8, 2, 8, 0, .null) := by decide +kernel
theorem fe_X12_sum_82 : mj_f mi_X12_sum 82 = some (.iadd, 1, 0, 0, .null) := by decide +kernel
theorem fe_X12_sum_83 : mj_f mi_X12_sum 83 = some (.laload, 1, 0, 0, .null) := by decide +kernel
theorem fe_X12_sum_84 : mj_f mi_X12_sum 84 = some (.lload 4, 2, 4, 0, .null) := by decide +kernel
theorem fe_X12_sum_86 : mj_f mi_X12_sum 86 = some (.lcmp, 1, 0, 0, .null) := by decide +kernel
theorem fe_X12_sum_87 : mj_f mi_X12_sum 87 = some (.ifCond .gt 19, 3, 106, 0, .null) := by decide +kernel
theorem fe_X12_sum_90 : mj_f mi_X12_sum 90 = some (.aload_n 0, 1, 0, 0, .null) := by decide +kernel
theorem fe_X12_sum_91 : mj_f mi_X12_sum 91 = some (.getfield 19, 3, 12, 3, .null) := by decide +kernel
theorem fe_X12_sum_94 : mj_f mi_X12_sum 94 = some (.sipush 160, 3, 0, 0, .int (160)) := by decide +kernel
theorem fe_X12_sum_97 : mj_f mi_X12_sum 97 = some (.iload_n 1, 1, 1, 0, .null) := by decide +kernel
theorem fe_X12_sum_98 : mj_f mi_X12_sum 98 = some (.imul, 1, 0, 0, .null) := by decide +kernel
theorem fe_X12_sum_99 : mj_f mi_X12_sum 99 = some (.iload 8, 2, 8, 0, .null) := by decide +kernel
theorem fe_X12_sum_101 : mj_f mi_X12_sum 101 = some (.iadd, 1, 0, 0, .null) := by decide +kernel
theorem fe_X12_sum_102 : mj_f mi_X12_sum 102 = some (.laload, 1, 0, 0, .null) := by decide +kernel
theorem fe_X12_sum_103 : mj_f mi_X12_sum 103 = some (.goto 4, 3, 107, 0, .null) := by decide +kernel
theorem fe_X12_sum_106 : mj_f mi_X12_sum 106 = some (.lconst 0, 1, 0, 0, .long 0) := by decide +kernel
theorem fe_X12_sum_107 : mj_f mi_X12_sum 107 = some (.ladd, 1, 0, 0, .null) := by decide +kernel
theorem fe_X12_sum_108 : mj_f mi_X12_sum 108 = some (.lstore 6, 2, 6, 0, .null) := by decide +kernel
theorem fe_X12_sum_110 : mj_f mi_X12_sum 110 = some (.iinc 8 1, 3, 8, 0, .int (1)) := by decide +kernel
theorem fe_X12_sum_113 : mj_f mi_X12_sum 113 = some (.goto (-89), 3, 24, 0, .null) := by decide +kernel
theorem fe_X12_sum_116 : mj_f mi_X12_sum 116 = some (.lload 6, 2, 6, 0, .null) := by decide +kernel
theorem fe_X12_sum_118 : mj_f mi_X12_sum 118 = some (.lreturn, 1, 0, 0, .null) := by decide +kernel
def ct_X12_looked : MJT := [
  (0, 0, .aload_n 0, 1, 0, 0, .null),
  (1, 1225, .getfield 52, 3, 12, 13, .int 0),
  (4, 0, .ireturn, 1, 0, 0, .null)]
abbrev id_X12_looked : Nat := 243
def mi_X12_looked : MI := (yX12_looked, cX12_looked, 1, (some .int), 12, ct_X12_looked)
theorem fe_X12_looked_0 : mj_f mi_X12_looked 0 = some (.aload_n 0, 1, 0, 0, .null) := by decide +kernel
theorem fe_X12_looked_1 : mj_f mi_X12_looked 1 = some (.getfield 52, 3, 12, 13, .int 0) := by decide +kernel
theorem fe_X12_looked_4 : mj_f mi_X12_looked 4 = some (.ireturn, 1, 0, 0, .null) := by decide +kernel
def ct_X12_take : MJT := [
  (0, 0, .aload_n 0, 1, 0, 0, .null),
  (1, 0, .iload_n 1, 1, 1, 0, .null),
  (2, 0, .iload_n 2, 1, 2, 0, .null),
  (3, 1614, .invokevirtual 310, 3, 232, 2, .null),
  (6, 0, .ifCond .eq 12, 3, 18, 0, .null),
  (9, 0, .aload_n 0, 1, 0, 0, .null),
  (10, 0, .iload_n 1, 1, 1, 0, .null),
  (11, 0, .iload_n 2, 1, 2, 0, .null),
  (12, 1530, .invokevirtual 295, 3, 224, 2, .null),
  (15, 0, .ifCond .le 5, 3, 20, 0, .null),
  (18, 0, .iconst (-1), 1, 0, 0, .int (-1)),
  (19, 0, .ireturn, 1, 0, 0, .null),
  (20, 0, .iconst 5, 1, 0, 0, .int (5)),
  (21, 0, .iload_n 1, 1, 1, 0, .null),
  (22, 0, .imul, 1, 0, 0, .null),
  (23, 0, .iload_n 2, 1, 2, 0, .null),
  (24, 0, .iadd, 1, 0, 0, .null),
  (25, 0, .istore_n 3, 1, 3, 0, .null),
  (26, 0, .aload_n 0, 1, 0, 0, .null),
  (27, 0, .aload_n 0, 1, 0, 0, .null),
  (28, 1219, .getfield 33, 3, 12, 7, .null),
  (31, 0, .iload_n 3, 1, 3, 0, .null),
  (32, 0, .iaload, 1, 0, 0, .null),
  (33, 1222, .putfield 42, 3, 12, 10, .int 0),
  (36, 0, .iconst 0, 1, 0, 0, .int (0)),
  (37, 0, .istore 4, 2, 4, 0, .null),
  (39, 0, .iload 4, 2, 4, 0, .null),
  (41, 0, .aload_n 0, 1, 0, 0, .null),
  (42, 1222, .getfield 42, 3, 12, 10, .int 0),
  (45, 0, .if_icmp .ge 29, 3, 74, 0, .null),
  (48, 0, .aload_n 0, 1, 0, 0, .null),
  (49, 1221, .getfield 39, 3, 12, 9, .null),
  (52, 0, .iload 4, 2, 4, 0, .null),
  (54, 0, .aload_n 0, 1, 0, 0, .null),
  (55, 1220, .getfield 36, 3, 12, 8, .null),
  (58, 0, .sipush 300, 3, 0, 0, .int (300)),
  (61, 0, .iload_n 3, 1, 3, 0, .null),
  (62, 0, .imul, 1, 0, 0, .null),
  (63, 0, .iload 4, 2, 4, 0, .null),
  (65, 0, .iadd, 1, 0, 0, .null),
  (66, 0, .iaload, 1, 0, 0, .null),
  (67, 0, .iastore, 1, 0, 0, .null),
  (68, 0, .iinc 4 1, 3, 4, 0, .int (1)),
  (71, 0, .goto (-32), 3, 39, 0, .null),
  (74, 0, .aload_n 0, 1, 0, 0, .null),
  (75, 1222, .getfield 42, 3, 12, 10, .int 0),
  (78, 0, .ireturn, 1, 0, 0, .null)]
abbrev id_X12_take : Nat := 244
def mi_X12_take : MI := (yX12_take, cX12_take, 5, (some .int), 12, ct_X12_take)
theorem fe_X12_take_0 : mj_f mi_X12_take 0 = some (.aload_n 0, 1, 0, 0, .null) := by decide +kernel
theorem fe_X12_take_1 : mj_f mi_X12_take 1 = some (.iload_n 1, 1, 1, 0, .null) := by decide +kernel
theorem fe_X12_take_2 : mj_f mi_X12_take 2 = some (.iload_n 2, 1, 2, 0, .null) := by decide +kernel
theorem fe_X12_take_3 : mj_f mi_X12_take 3 = some (.invokevirtual 310, 3, 232, 2, .null) := by decide +kernel
theorem fe_X12_take_6 : mj_f mi_X12_take 6 = some (.ifCond .eq 12, 3, 18, 0, .null) := by decide +kernel
theorem fe_X12_take_9 : mj_f mi_X12_take 9 = some (.aload_n 0, 1, 0, 0, .null) := by decide +kernel
theorem fe_X12_take_10 : mj_f mi_X12_take 10 = some (.iload_n 1, 1, 1, 0, .null) := by decide +kernel
theorem fe_X12_take_11 : mj_f mi_X12_take 11 = some (.iload_n 2, 1, 2, 0, .null) := by decide +kernel
theorem fe_X12_take_12 : mj_f mi_X12_take 12 = some (.invokevirtual 295, 3, 224, 2, .null) := by decide +kernel
theorem fe_X12_take_15 : mj_f mi_X12_take 15 = some (.ifCond .le 5, 3, 20, 0, .null) := by decide +kernel
theorem fe_X12_take_18 : mj_f mi_X12_take 18 = some (.iconst (-1), 1, 0, 0, .int (-1)) := by decide +kernel
theorem fe_X12_take_19 : mj_f mi_X12_take 19 = some (.ireturn, 1, 0, 0, .null) := by decide +kernel
theorem fe_X12_take_20 : mj_f mi_X12_take 20 = some (.iconst 5, 1, 0, 0, .int (5)) := by decide +kernel
theorem fe_X12_take_21 : mj_f mi_X12_take 21 = some (.iload_n 1, 1, 1, 0, .null) := by decide +kernel
theorem fe_X12_take_22 : mj_f mi_X12_take 22 = some (.imul, 1, 0, 0, .null) := by decide +kernel
theorem fe_X12_take_23 : mj_f mi_X12_take 23 = some (.iload_n 2, 1, 2, 0, .null) := by decide +kernel
theorem fe_X12_take_24 : mj_f mi_X12_take 24 = some (.iadd, 1, 0, 0, .null) := by decide +kernel
theorem fe_X12_take_25 : mj_f mi_X12_take 25 = some (.istore_n 3, 1, 3, 0, .null) := by decide +kernel
theorem fe_X12_take_26 : mj_f mi_X12_take 26 = some (.aload_n 0, 1, 0, 0, .null) := by decide +kernel
theorem fe_X12_take_27 : mj_f mi_X12_take 27 = some (.aload_n 0, 1, 0, 0, .null) := by decide +kernel
theorem fe_X12_take_28 : mj_f mi_X12_take 28 = some (.getfield 33, 3, 12, 7, .null) := by decide +kernel
theorem fe_X12_take_31 : mj_f mi_X12_take 31 = some (.iload_n 3, 1, 3, 0, .null) := by decide +kernel
theorem fe_X12_take_32 : mj_f mi_X12_take 32 = some (.iaload, 1, 0, 0, .null) := by decide +kernel
theorem fe_X12_take_33 : mj_f mi_X12_take 33 = some (.putfield 42, 3, 12, 10, .int 0) := by decide +kernel
theorem fe_X12_take_36 : mj_f mi_X12_take 36 = some (.iconst 0, 1, 0, 0, .int (0)) := by decide +kernel
theorem fe_X12_take_37 : mj_f mi_X12_take 37 = some (.istore 4, 2, 4, 0, .null) := by decide +kernel
theorem fe_X12_take_39 : mj_f mi_X12_take 39 = some (.iload 4, 2, 4, 0, .null) := by decide +kernel
theorem fe_X12_take_41 : mj_f mi_X12_take 41 = some (.aload_n 0, 1, 0, 0, .null) := by decide +kernel
theorem fe_X12_take_42 : mj_f mi_X12_take 42 = some (.getfield 42, 3, 12, 10, .int 0) := by decide +kernel
theorem fe_X12_take_45 : mj_f mi_X12_take 45 = some (.if_icmp .ge 29, 3, 74, 0, .null) := by decide +kernel
theorem fe_X12_take_48 : mj_f mi_X12_take 48 = some (.aload_n 0, 1, 0, 0, .null) := by decide +kernel
theorem fe_X12_take_49 : mj_f mi_X12_take 49 = some (.getfield 39, 3, 12, 9, .null) := by decide +kernel
theorem fe_X12_take_52 : mj_f mi_X12_take 52 = some (.iload 4, 2, 4, 0, .null) := by decide +kernel
theorem fe_X12_take_54 : mj_f mi_X12_take 54 = some (.aload_n 0, 1, 0, 0, .null) := by decide +kernel
theorem fe_X12_take_55 : mj_f mi_X12_take 55 = some (.getfield 36, 3, 12, 8, .null) := by decide +kernel
theorem fe_X12_take_58 : mj_f mi_X12_take 58 = some (.sipush 300, 3, 0, 0, .int (300)) := by decide +kernel
theorem fe_X12_take_61 : mj_f mi_X12_take 61 = some (.iload_n 3, 1, 3, 0, .null) := by decide +kernel
theorem fe_X12_take_62 : mj_f mi_X12_take 62 = some (.imul, 1, 0, 0, .null) := by decide +kernel
theorem fe_X12_take_63 : mj_f mi_X12_take 63 = some (.iload 4, 2, 4, 0, .null) := by decide +kernel
theorem fe_X12_take_65 : mj_f mi_X12_take 65 = some (.iadd, 1, 0, 0, .null) := by decide +kernel
theorem fe_X12_take_66 : mj_f mi_X12_take 66 = some (.iaload, 1, 0, 0, .null) := by decide +kernel
theorem fe_X12_take_67 : mj_f mi_X12_take 67 = some (.iastore, 1, 0, 0, .null) := by decide +kernel
theorem fe_X12_take_68 : mj_f mi_X12_take 68 = some (.iinc 4 1, 3, 4, 0, .int (1)) := by decide +kernel
theorem fe_X12_take_71 : mj_f mi_X12_take 71 = some (.goto (-32), 3, 39, 0, .null) := by decide +kernel
theorem fe_X12_take_74 : mj_f mi_X12_take 74 = some (.aload_n 0, 1, 0, 0, .null) := by decide +kernel
theorem fe_X12_take_75 : mj_f mi_X12_take 75 = some (.getfield 42, 3, 12, 10, .int 0) := by decide +kernel
theorem fe_X12_take_78 : mj_f mi_X12_take 78 = some (.ireturn, 1, 0, 0, .null) := by decide +kernel
def ct_X12_fails : MJT := [
  (0, 0, .aload_n 0, 1, 0, 0, .null),
  (1, 1247, .getfield 119, 3, 12, 35, .int 0),
  (4, 0, .ifCond .le 4, 3, 8, 0, .null),
  (7, 0, .return_, 1, 0, 0, .null),
  (8, 0, .aload_n 0, 1, 0, 0, .null),
  (9, 0, .iload_n 1, 1, 1, 0, .null),
  (10, 1247, .putfield 119, 3, 12, 35, .int 0),
  (13, 0, .aload_n 0, 1, 0, 0, .null),
  (14, 0, .iload_n 2, 1, 2, 0, .null),
  (15, 1248, .putfield 122, 3, 12, 36, .int 0),
  (18, 0, .return_, 1, 0, 0, .null)]
abbrev id_X12_fails : Nat := 245
def mi_X12_fails : MI := (yX12_fails, cX12_fails, 3, none, 12, ct_X12_fails)
theorem fe_X12_fails_0 : mj_f mi_X12_fails 0 = some (.aload_n 0, 1, 0, 0, .null) := by decide +kernel
theorem fe_X12_fails_1 : mj_f mi_X12_fails 1 = some (.getfield 119, 3, 12, 35, .int 0) := by decide +kernel
theorem fe_X12_fails_4 : mj_f mi_X12_fails 4 = some (.ifCond .le 4, 3, 8, 0, .null) := by decide +kernel
theorem fe_X12_fails_7 : mj_f mi_X12_fails 7 = some (.return_, 1, 0, 0, .null) := by decide +kernel
theorem fe_X12_fails_8 : mj_f mi_X12_fails 8 = some (.aload_n 0, 1, 0, 0, .null) := by decide +kernel
theorem fe_X12_fails_9 : mj_f mi_X12_fails 9 = some (.iload_n 1, 1, 1, 0, .null) := by decide +kernel
theorem fe_X12_fails_10 : mj_f mi_X12_fails 10 = some (.putfield 119, 3, 12, 35, .int 0) := by decide +kernel
theorem fe_X12_fails_13 : mj_f mi_X12_fails 13 = some (.aload_n 0, 1, 0, 0, .null) := by decide +kernel
theorem fe_X12_fails_14 : mj_f mi_X12_fails 14 = some (.iload_n 2, 1, 2, 0, .null) := by decide +kernel
theorem fe_X12_fails_15 : mj_f mi_X12_fails 15 = some (.putfield 122, 3, 12, 36, .int 0) := by decide +kernel
theorem fe_X12_fails_18 : mj_f mi_X12_fails 18 = some (.return_, 1, 0, 0, .null) := by decide +kernel
def ct_X12_readByte : MJT := [
  (0, 0, .aload_n 0, 1, 0, 0, .null),
  (1, 1246, .getfield 116, 3, 12, 34, .int 0),
  (4, 0, .aload_n 0, 1, 0, 0, .null),
  (5, 1245, .getfield 113, 3, 12, 33, .int 0),
  (8, 0, .if_icmp .lt 12, 3, 20, 0, .null),
  (11, 0, .aload_n 0, 1, 0, 0, .null),
  (12, 0, .iconst 1, 1, 0, 0, .int (1)),
  (13, 0, .aload_n 0, 1, 0, 0, .null),
  (14, 1245, .getfield 113, 3, 12, 33, .int 0),
  (17, 1578, .invokevirtual 324, 3, 245, 2, .null),
  (20, 0, .aload_n 0, 1, 0, 0, .null),
  (21, 1247, .getfield 119, 3, 12, 35, .int 0),
  (24, 0, .ifCond .le 5, 3, 29, 0, .null),
  (27, 0, .iconst 0, 1, 0, 0, .int (0)),
  (28, 0, .ireturn, 1, 0, 0, .null),
  (29, 0, .aload_n 0, 1, 0, 0, .null),
  (30, 0, .dup, 1, 0, 0, .null),
  (31, 1246, .getfield 116, 3, 12, 34, .int 0),
  (34, 0, .iconst 1, 1, 0, 0, .int (1)),
  (35, 0, .iadd, 1, 0, 0, .null),
  (36, 1246, .putfield 116, 3, 12, 34, .int 0),
  (39, 0, .aload_n 0, 1, 0, 0, .null),
  (40, 1244, .getfield 110, 3, 12, 32, .null),
  (43, 0, .aload_n 0, 1, 0, 0, .null),
  (44, 1246, .getfield 116, 3, 12, 34, .int 0),
  (47, 0, .iconst 1, 1, 0, 0, .int (1)),
  (48, 0, .isub, 1, 0, 0, .null),
  (49, 0, .iaload, 1, 0, 0, .null),
  (50, 0, .ireturn, 1, 0, 0, .null)]
abbrev id_X12_readByte : Nat := 246
def mi_X12_readByte : MI := (yX12_readByte, cX12_readByte, 1, (some .int), 12, ct_X12_readByte)
theorem fe_X12_readByte_0 : mj_f mi_X12_readByte 0 = some (.aload_n 0, 1, 0, 0, .null) := by decide +kernel
theorem fe_X12_readByte_1 : mj_f mi_X12_readByte 1 = some (.getfield 116, 3, 12, 34, .int 0) := by decide +kernel
theorem fe_X12_readByte_4 : mj_f mi_X12_readByte 4 = some (.aload_n 0, 1, 0, 0, .null) := by decide +kernel
theorem fe_X12_readByte_5 : mj_f mi_X12_readByte 5 = some (.getfield 113, 3, 12, 33, .int 0) := by decide +kernel
theorem fe_X12_readByte_8 : mj_f mi_X12_readByte 8 = some (.if_icmp .lt 12, 3, 20, 0, .null) := by decide +kernel
theorem fe_X12_readByte_11 : mj_f mi_X12_readByte 11 = some (.aload_n 0, 1, 0, 0, .null) := by decide +kernel
theorem fe_X12_readByte_12 : mj_f mi_X12_readByte 12 = some (.iconst 1, 1, 0, 0, .int (1)) := by decide +kernel
theorem fe_X12_readByte_13 : mj_f mi_X12_readByte 13 = some (.aload_n 0, 1, 0, 0, .null) := by decide +kernel
theorem fe_X12_readByte_14 : mj_f mi_X12_readByte 14 = some (.getfield 113, 3, 12, 33, .int 0) := by decide +kernel
theorem fe_X12_readByte_17 : mj_f mi_X12_readByte 17 = some (.invokevirtual 324, 3, 245, 2, .null) := by decide +kernel
theorem fe_X12_readByte_20 : mj_f mi_X12_readByte 20 = some (.aload_n 0, 1, 0, 0, .null) := by decide +kernel
theorem fe_X12_readByte_21 : mj_f mi_X12_readByte 21 = some (.getfield 119, 3, 12, 35, .int 0) := by decide +kernel
theorem fe_X12_readByte_24 : mj_f mi_X12_readByte 24 = some (.ifCond .le 5, 3, 29, 0, .null) := by decide +kernel
theorem fe_X12_readByte_27 : mj_f mi_X12_readByte 27 = some (.iconst 0, 1, 0, 0, .int (0)) := by decide +kernel
theorem fe_X12_readByte_28 : mj_f mi_X12_readByte 28 = some (.ireturn, 1, 0, 0, .null) := by decide +kernel
theorem fe_X12_readByte_29 : mj_f mi_X12_readByte 29 = some (.aload_n 0, 1, 0, 0, .null) := by decide +kernel
theorem fe_X12_readByte_30 : mj_f mi_X12_readByte 30 = some (.dup, 1, 0, 0, .null) := by decide +kernel
theorem fe_X12_readByte_31 : mj_f mi_X12_readByte 31 = some (.getfield 116, 3, 12, 34, .int 0) := by decide +kernel
theorem fe_X12_readByte_34 : mj_f mi_X12_readByte 34 = some (.iconst 1, 1, 0, 0, .int (1)) := by decide +kernel
theorem fe_X12_readByte_35 : mj_f mi_X12_readByte 35 = some (.iadd, 1, 0, 0, .null) := by decide +kernel
theorem fe_X12_readByte_36 : mj_f mi_X12_readByte 36 = some (.putfield 116, 3, 12, 34, .int 0) := by decide +kernel
theorem fe_X12_readByte_39 : mj_f mi_X12_readByte 39 = some (.aload_n 0, 1, 0, 0, .null) := by decide +kernel
theorem fe_X12_readByte_40 : mj_f mi_X12_readByte 40 = some (.getfield 110, 3, 12, 32, .null) := by decide +kernel
theorem fe_X12_readByte_43 : mj_f mi_X12_readByte 43 = some (.aload_n 0, 1, 0, 0, .null) := by decide +kernel
theorem fe_X12_readByte_44 : mj_f mi_X12_readByte 44 = some (.getfield 116, 3, 12, 34, .int 0) := by decide +kernel
theorem fe_X12_readByte_47 : mj_f mi_X12_readByte 47 = some (.iconst 1, 1, 0, 0, .int (1)) := by decide +kernel
theorem fe_X12_readByte_48 : mj_f mi_X12_readByte 48 = some (.isub, 1, 0, 0, .null) := by decide +kernel
theorem fe_X12_readByte_49 : mj_f mi_X12_readByte 49 = some (.iaload, 1, 0, 0, .null) := by decide +kernel
theorem fe_X12_readByte_50 : mj_f mi_X12_readByte 50 = some (.ireturn, 1, 0, 0, .null) := by decide +kernel
def ct_X12_readVarint : MJT := [
  (0, 0, .aload_n 0, 1, 0, 0, .null),
  (1, 1246, .getfield 116, 3, 12, 34, .int 0),
  (4, 0, .istore_n 1, 1, 1, 0, .null),
  (5, 0, .lconst 0, 1, 0, 0, .long 0),
  (6, 0, .lstore_n 2, 1, 2, 0, .null),
  (7, 0, .iconst 0, 1, 0, 0, .int (0)),
  (8, 0, .istore 4, 2, 4, 0, .null),
  (10, 0, .iload 4, 2, 4, 0, .null),
  (12, 0, .bipush 10, 2, 0, 0, .int (10)),
  (14, 0, .if_icmp .ge 70, 3, 84, 0, .null),
  (17, 0, .aload_n 0, 1, 0, 0, .null),
  (18, 1574, .invokevirtual 327, 3, 246, 0, .null),
  (21, 0, .istore 5, 2, 5, 0, .null),
  (23, 0, .aload_n 0, 1, 0, 0, .null),
  (24, 1247, .getfield 119, 3, 12, 35, .int 0),
  (27, 0, .ifCond .le 5, 3, 32, 0, .null),
  (30, 0, .lconst 0, 1, 0, 0, .long 0),
  (31, 0, .lreturn, 1, 0, 0, .null),
  (32, 0, .iload 4, 2, 4, 0, .null),
  (34, 0, .bipush 9, 2, 0, 0, .int (9)),
  (36, 0, .if_icmp .ne 17, 3, 53, 0, .null),
  (39, 0, .iload 5, 2, 5, 0, .null),
  (41, 0, .iconst 1, 1, 0, 0, .int (1)),
  (42, 0, .if_icmp .le 11, 3, 53, 0, .null),
  (45, 0, .aload_n 0, 1, 0, 0, .null),
  (46, 0, .iconst 2, 1, 0, 0, .int (2)),
  (47, 0, .iload_n 1, 1, 1, 0, .null),
  (48, 1578, .invokevirtual 324, 3, 245, 2, .null),
  (51, 0, .lconst 0, 1, 0, 0, .long 0),
  (52, 0, .lreturn, 1, 0, 0, .null),
  (53, 0, .lload_n 2, 1, 2, 0, .null),
  (54, 0, .iload 5, 2, 5, 0, .null),
  (56, 0, .bipush 127, 2, 0, 0, .int (127)),
  (58, 0, .iand, 1, 0, 0, .null),
  (59, 0, .i2l, 1, 0, 0, .null),
  (60, 0, .bipush 7, 2, 0, 0, .int (7)),
  (62, 0, .iload 4, 2, 4, 0, .null),
  (64, 0, .imul, 1, 0, 0, .null),
  (65, 0, .lshl, 1, 0, 0, .null),
  (66, 0, .lor, 1, 0, 0, .null),
  (67, 0, .lstore_n 2, 1, 2, 0, .null),
  (68, 0, .iload 5, 2, 5, 0, .null),
  (70, 0, .sipush 128, 3, 0, 0, .int (128)),
  (73, 0, .if_icmp .ge 5, 3, 78, 0, .null),
  (76, 0, .lload_n 2, 1, 2, 0, .null),
  (77, 0, .lreturn, 1, 0, 0, .null),
  (78, 0, .iinc 4 1, 3, 4, 0, .int (1)),
  (81, 0, .goto (-71), 3, 10, 0, .null),
  (84, 0, .lload_n 2, 1, 2, 0, .null),
  (85, 0, .lreturn, 1, 0, 0, .null)]
abbrev id_X12_readVarint : Nat := 247
def mi_X12_readVarint : MI := (yX12_readVarint, cX12_readVarint, 6, (some .long), 12, ct_X12_readVarint)
theorem fe_X12_readVarint_0 : mj_f mi_X12_readVarint 0 = some (.aload_n 0, 1, 0, 0, .null) := by decide +kernel
theorem fe_X12_readVarint_1 : mj_f mi_X12_readVarint 1 = some (.getfield 116, 3, 12, 34, .int 0) := by decide +kernel
theorem fe_X12_readVarint_4 : mj_f mi_X12_readVarint 4 = some (.istore_n 1, 1, 1, 0, .null) := by decide +kernel
theorem fe_X12_readVarint_5 : mj_f mi_X12_readVarint 5 = some (.lconst 0, 1, 0, 0, .long 0) := by decide +kernel
theorem fe_X12_readVarint_6 : mj_f mi_X12_readVarint 6 = some (.lstore_n 2, 1, 2, 0, .null) := by decide +kernel
theorem fe_X12_readVarint_7 : mj_f mi_X12_readVarint 7 = some (.iconst 0, 1, 0, 0, .int (0)) := by decide +kernel
theorem fe_X12_readVarint_8 : mj_f mi_X12_readVarint 8 = some (.istore 4, 2, 4, 0, .null) := by decide +kernel
theorem fe_X12_readVarint_10 : mj_f mi_X12_readVarint 10 = some (.iload 4, 2, 4, 0, .null) := by decide +kernel
theorem fe_X12_readVarint_12 : mj_f mi_X12_readVarint 12 = some (.bipush 10, 2, 0, 0, .int (10)) := by decide +kernel
theorem fe_X12_readVarint_14 : mj_f mi_X12_readVarint 14 = some (.if_icmp .ge 70, 3, 84, 0, .null) := by decide +kernel
theorem fe_X12_readVarint_17 : mj_f mi_X12_readVarint 17 = some (.aload_n 0, 1, 0, 0, .null) := by decide +kernel
theorem fe_X12_readVarint_18 : mj_f mi_X12_readVarint 18 = some (.invokevirtual 327, 3, 246, 0, .null) := by decide +kernel
theorem fe_X12_readVarint_21 : mj_f mi_X12_readVarint 21 = some (.istore 5, 2, 5, 0, .null) := by decide +kernel
theorem fe_X12_readVarint_23 : mj_f mi_X12_readVarint 23 = some (.aload_n 0, 1, 0, 0, .null) := by decide +kernel
theorem fe_X12_readVarint_24 : mj_f mi_X12_readVarint 24 = some (.getfield 119, 3, 12, 35, .int 0) := by decide +kernel
theorem fe_X12_readVarint_27 : mj_f mi_X12_readVarint 27 = some (.ifCond .le 5, 3, 32, 0, .null) := by decide +kernel
theorem fe_X12_readVarint_30 : mj_f mi_X12_readVarint 30 = some (.lconst 0, 1, 0, 0, .long 0) := by decide +kernel
theorem fe_X12_readVarint_31 : mj_f mi_X12_readVarint 31 = some (.lreturn, 1, 0, 0, .null) := by decide +kernel
theorem fe_X12_readVarint_32 : mj_f mi_X12_readVarint 32 = some (.iload 4, 2, 4, 0, .null) := by decide +kernel
theorem fe_X12_readVarint_34 : mj_f mi_X12_readVarint 34 = some (.bipush 9, 2, 0, 0, .int (9)) := by decide +kernel
theorem fe_X12_readVarint_36 : mj_f mi_X12_readVarint 36 = some (.if_icmp .ne 17, 3, 53, 0, .null) := by decide +kernel
theorem fe_X12_readVarint_39 : mj_f mi_X12_readVarint 39 = some (.iload 5, 2, 5, 0, .null) := by decide +kernel
theorem fe_X12_readVarint_41 : mj_f mi_X12_readVarint 41 = some (.iconst 1, 1, 0, 0, .int (1)) := by decide +kernel
theorem fe_X12_readVarint_42 : mj_f mi_X12_readVarint 42 = some (.if_icmp .le 11, 3, 53, 0, .null) := by decide +kernel
theorem fe_X12_readVarint_45 : mj_f mi_X12_readVarint 45 = some (.aload_n 0, 1, 0, 0, .null) := by decide +kernel
theorem fe_X12_readVarint_46 : mj_f mi_X12_readVarint 46 = some (.iconst 2, 1, 0, 0, .int (2)) := by decide +kernel
theorem fe_X12_readVarint_47 : mj_f mi_X12_readVarint 47 = some (.iload_n 1, 1, 1, 0, .null) := by decide +kernel
theorem fe_X12_readVarint_48 : mj_f mi_X12_readVarint 48 = some (.invokevirtual 324, 3, 245, 2, .null) := by decide +kernel
theorem fe_X12_readVarint_51 : mj_f mi_X12_readVarint 51 = some (.lconst 0, 1, 0, 0, .long 0) := by decide +kernel
theorem fe_X12_readVarint_52 : mj_f mi_X12_readVarint 52 = some (.lreturn, 1, 0, 0, .null) := by decide +kernel
theorem fe_X12_readVarint_53 : mj_f mi_X12_readVarint 53 = some (.lload_n 2, 1, 2, 0, .null) := by decide +kernel
theorem fe_X12_readVarint_54 : mj_f mi_X12_readVarint 54 = some (.iload 5, 2, 5, 0, .null) := by decide +kernel
theorem fe_X12_readVarint_56 : mj_f mi_X12_readVarint 56 = some (.bipush 127, 2, 0, 0, .int (127)) := by decide +kernel
theorem fe_X12_readVarint_58 : mj_f mi_X12_readVarint 58 = some (.iand, 1, 0, 0, .null) := by decide +kernel
theorem fe_X12_readVarint_59 : mj_f mi_X12_readVarint 59 = some (.i2l, 1, 0, 0, .null) := by decide +kernel
theorem fe_X12_readVarint_60 : mj_f mi_X12_readVarint 60 = some (.bipush 7, 2, 0, 0, .int (7)) := by decide +kernel
theorem fe_X12_readVarint_62 : mj_f mi_X12_readVarint 62 = some (.iload 4, 2, 4, 0, .null) := by decide +kernel
theorem fe_X12_readVarint_64 : mj_f mi_X12_readVarint 64 = some (.imul, 1, 0, 0, .null) := by decide +kernel
theorem fe_X12_readVarint_65 : mj_f mi_X12_readVarint 65 = some (.lshl, 1, 0, 0, .null) := by decide +kernel
theorem fe_X12_readVarint_66 : mj_f mi_X12_readVarint 66 = some (.lor, 1, 0, 0, .null) := by decide +kernel
theorem fe_X12_readVarint_67 : mj_f mi_X12_readVarint 67 = some (.lstore_n 2, 1, 2, 0, .null) := by decide +kernel
theorem fe_X12_readVarint_68 : mj_f mi_X12_readVarint 68 = some (.iload 5, 2, 5, 0, .null) := by decide +kernel
theorem fe_X12_readVarint_70 : mj_f mi_X12_readVarint 70 = some (.sipush 128, 3, 0, 0, .int (128)) := by decide +kernel
theorem fe_X12_readVarint_73 : mj_f mi_X12_readVarint 73 = some (.if_icmp .ge 5, 3, 78, 0, .null) := by decide +kernel
theorem fe_X12_readVarint_76 : mj_f mi_X12_readVarint 76 = some (.lload_n 2, 1, 2, 0, .null) := by decide +kernel
theorem fe_X12_readVarint_77 : mj_f mi_X12_readVarint 77 = some (.lreturn, 1, 0, 0, .null) := by decide +kernel
theorem fe_X12_readVarint_78 : mj_f mi_X12_readVarint 78 = some (.iinc 4 1, 3, 4, 0, .int (1)) := by decide +kernel
theorem fe_X12_readVarint_81 : mj_f mi_X12_readVarint 81 = some (.goto (-71), 3, 10, 0, .null) := by decide +kernel
theorem fe_X12_readVarint_84 : mj_f mi_X12_readVarint 84 = some (.lload_n 2, 1, 2, 0, .null) := by decide +kernel
theorem fe_X12_readVarint_85 : mj_f mi_X12_readVarint 85 = some (.lreturn, 1, 0, 0, .null) := by decide +kernel
def ct_X12_readTurned : MJT := [
  (0, 0, .aload_n 0, 1, 0, 0, .null),
  (1, 1590, .invokevirtual 331, 3, 247, 0, .null),
  (4, 0, .lstore_n 1, 1, 1, 0, .null),
  (5, 0, .lload_n 1, 1, 1, 0, .null),
  (6, 0, .iconst 1, 1, 0, 0, .int (1)),
  (7, 0, .lushr, 1, 0, 0, .null),
  (8, 0, .lload_n 1, 1, 1, 0, .null),
  (9, 0, .lconst 1, 1, 0, 0, .long 1),
  (10, 0, .land, 1, 0, 0, .null),
  (11, 0, .lneg, 1, 0, 0, .null),
  (12, 0, .lxor, 1, 0, 0, .null),
  (13, 0, .lreturn, 1, 0, 0, .null)]
abbrev id_X12_readTurned : Nat := 248
def mi_X12_readTurned : MI := (yX12_readTurned, cX12_readTurned, 3, (some .long), 12, ct_X12_readTurned)
theorem fe_X12_readTurned_0 : mj_f mi_X12_readTurned 0 = some (.aload_n 0, 1, 0, 0, .null) := by decide +kernel
theorem fe_X12_readTurned_1 : mj_f mi_X12_readTurned 1 = some (.invokevirtual 331, 3, 247, 0, .null) := by decide +kernel
theorem fe_X12_readTurned_4 : mj_f mi_X12_readTurned 4 = some (.lstore_n 1, 1, 1, 0, .null) := by decide +kernel
theorem fe_X12_readTurned_5 : mj_f mi_X12_readTurned 5 = some (.lload_n 1, 1, 1, 0, .null) := by decide +kernel
theorem fe_X12_readTurned_6 : mj_f mi_X12_readTurned 6 = some (.iconst 1, 1, 0, 0, .int (1)) := by decide +kernel
theorem fe_X12_readTurned_7 : mj_f mi_X12_readTurned 7 = some (.lushr, 1, 0, 0, .null) := by decide +kernel
theorem fe_X12_readTurned_8 : mj_f mi_X12_readTurned 8 = some (.lload_n 1, 1, 1, 0, .null) := by decide +kernel
theorem fe_X12_readTurned_9 : mj_f mi_X12_readTurned 9 = some (.lconst 1, 1, 0, 0, .long 1) := by decide +kernel
theorem fe_X12_readTurned_10 : mj_f mi_X12_readTurned 10 = some (.land, 1, 0, 0, .null) := by decide +kernel
theorem fe_X12_readTurned_11 : mj_f mi_X12_readTurned 11 = some (.lneg, 1, 0, 0, .null) := by decide +kernel
theorem fe_X12_readTurned_12 : mj_f mi_X12_readTurned 12 = some (.lxor, 1, 0, 0, .null) := by decide +kernel
theorem fe_X12_readTurned_13 : mj_f mi_X12_readTurned 13 = some (.lreturn, 1, 0, 0, .null) := by decide +kernel
def ct_X12_readLaying : MJT := [
  (0, 0, .iload_n 1, 1, 1, 0, .null),
  (1, 0, .iload_n 2, 1, 2, 0, .null),
  (2, 1450, .invokestatic 195, 3, 188, 2, .null),
  (5, 0, .istore_n 3, 1, 3, 0, .null),
  (6, 0, .aload_n 0, 1, 0, 0, .null),
  (7, 1247, .getfield 119, 3, 12, 35, .int 0),
  (10, 0, .ifCond .le 4, 3, 14, 0, .null),
  (13, 0, .return_, 1, 0, 0, .null),
  (14, 0, .aload_n 0, 1, 0, 0, .null),
  (15, 1246, .getfield 116, 3, 12, 34, .int 0),
  (18, 0, .iload_n 3, 1, 3, 0, .null),
  (19, 0, .iadd, 1, 0, 0, .null),
  (20, 0, .aload_n 0, 1, 0, 0, .null),
  (21, 1245, .getfield 113, 3, 12, 33, .int 0),
  (24, 0, .if_icmp .le 13, 3, 37, 0, .null),
  (27, 0, .aload_n 0, 1, 0, 0, .null),
  (28, 0, .iconst 1, 1, 0, 0, .int (1)),
  (29, 0, .aload_n 0, 1, 0, 0, .null),
  (30, 1245, .getfield 113, 3, 12, 33, .int 0),
  (33, 1578, .invokevirtual 324, 3, 245, 2, .null),
  (36, 0, .return_, 1, 0, 0, .null),
  (37, 0, .iconst 0, 1, 0, 0, .int (0)),
  (38, 0, .istore 4, 2, 4, 0, .null),
  (40, 0, .iconst 0, 1, 0, 0, .int (0)),
  (41, 0, .istore 5, 2, 5, 0, .null),
  (43, 0, .iload 5, 2, 5, 0, .null),
  (45, 0, .iload_n 1, 1, 1, 0, .null),
  (46, 0, .if_icmp .ge 72, 3, 118, 0, .null),
  (49, 0, .aload_n 0, 1, 0, 0, .null),
  (50, 1256, .getfield 146, 3, 12, 44, .null),
  (53, 0, .iload 5, 2, 5, 0, .null),
  (55, 0, .lconst 0, 1, 0, 0, .long 0),
  (56, 0, .lastore, 1, 0, 0, .null),
  (57, 0, .iconst 0, 1, 0, 0, .int (0)),
  (58, 0, .istore 6, 2, 6, 0, .null),
  (60, 0, .iload 6, 2, 6, 0, .null),
  (62, 0, .iload_n 2, 1, 2, 0, .null),
  (63, 0, .if_icmp .ge 49, 3, 112, 0, .null),
  (66, 0, .aload_n 0, 1, 0, 0, .null),
  (67, 1256, .getfield 146, 3, 12, 44, .null),
  (70, 0, .iload 5, 2, 5, 0, .null),
  (72, 0, .dup2, 1, 0, 0, .null),
  (73, 0, .laload, 1, 0, 0, .null),
  (74, 0, .aload_n 0, 1, 0, 0, .null),
  (75, 1244, .getfield 110, 3, 12, 32, .null),
  (78, 0, .aload_n 0, 1, 0, 0, .null),
  (79, 1246, .getfield 116, 3, 12, 34, .int 0),
  (82, 0, .iload 4, 2, 4, 0, .null),
  (84, 0, .bipush 8, 2, 0, 0, .int (8)),
  (86, 0, .idiv, 1, 0, 0, .null),
  (87, 0, .iadd, 1, 0, 0, .null),
  (88, 0, .iaload, 1, 0, 0, .null),
  (89, 0, .iload 4, 2, 4, 0, .null),
  (91, 0, .bipush 8, 2, 0, 0, .int (8)),
  (93, 0, .irem, 1, 0, 0, .null),
  (94, 0, .ishr, 1, 0, 0, .null),
  (95, 0, .iconst 1, 1, 0, 0, .int (1)),
  (96, 0, .iand, 1, 0, 0, .null),
  (97, 0, .i2l, 1, 0, 0, .null),
  (98, 0, .iload 6, 2, 6, 0, .null),
  (100, 0, .lshl, 1, 0, 0, .null),
  (101, 0, .lor, 1, 0, 0, .null),
  (102, 0, .lastore, 1, 0, 0, .null),
  (103, 0, .iinc 4 1, 3, 4, 0, .int (1)),
  (106, 0, .iinc 6 1, 3, 6, 0, .int (1)),
  (109, 0, .goto (-49), 3, 60, 0, .null),
  (112, 0, .iinc 5 1, 3, 5, 0, .int (1)),
  (115, 0, .goto (-72), 3, 43, 0, .null),
  (118, 0, .aload_n 0, 1, 0, 0, .null),
  (119, 0, .dup, 1, 0, 0, .null),
  (120, 1246, .getfield 116, 3, 12, 34, .int 0),
  (123, 0, .iload_n 3, 1, 3, 0, .null),
  (124, 0, .iadd, 1, 0, 0, .null),
  (125, 1246, .putfield 116, 3, 12, 34, .int 0),
  (128, 0, .return_, 1, 0, 0, .null)]
abbrev id_X12_readLaying : Nat := 249
def mi_X12_readLaying : MI := (yX12_readLaying, cX12_readLaying, 7, none, 12, ct_X12_readLaying)
theorem fe_X12_readLaying_0 : mj_f mi_X12_readLaying 0 = some (.iload_n 1, 1, 1, 0, .null) := by decide +kernel
theorem fe_X12_readLaying_1 : mj_f mi_X12_readLaying 1 = some (.iload_n 2, 1, 2, 0, .null) := by decide +kernel
theorem fe_X12_readLaying_2 : mj_f mi_X12_readLaying 2 = some (.invokestatic 195, 3, 188, 2, .null) := by decide +kernel
theorem fe_X12_readLaying_5 : mj_f mi_X12_readLaying 5 = some (.istore_n 3, 1, 3, 0, .null) := by decide +kernel
theorem fe_X12_readLaying_6 : mj_f mi_X12_readLaying 6 = some (.aload_n 0, 1, 0, 0, .null) := by decide +kernel
theorem fe_X12_readLaying_7 : mj_f mi_X12_readLaying 7 = some (.getfield 119, 3, 12, 35, .int 0) := by decide +kernel
theorem fe_X12_readLaying_10 : mj_f mi_X12_readLaying 10 = some (.ifCond .le 4, 3, 14, 0, .null) := by decide +kernel
theorem fe_X12_readLaying_13 : mj_f mi_X12_readLaying 13 = some (.return_, 1, 0, 0, .null) := by decide +kernel
theorem fe_X12_readLaying_14 : mj_f mi_X12_readLaying 14 = some (.aload_n 0, 1, 0, 0, .null) := by decide +kernel
theorem fe_X12_readLaying_15 : mj_f mi_X12_readLaying 15 = some (.getfield 116, 3, 12, 34, .int 0) := by decide +kernel
theorem fe_X12_readLaying_18 : mj_f mi_X12_readLaying 18 = some (.iload_n 3, 1, 3, 0, .null) := by decide +kernel
theorem fe_X12_readLaying_19 : mj_f mi_X12_readLaying 19 = some (.iadd, 1, 0, 0, .null) := by decide +kernel
theorem fe_X12_readLaying_20 : mj_f mi_X12_readLaying 20 = some (.aload_n 0, 1, 0, 0, .null) := by decide +kernel
theorem fe_X12_readLaying_21 : mj_f mi_X12_readLaying 21 = some (.getfield 113, 3, 12, 33, .int 0) := by decide +kernel
theorem fe_X12_readLaying_24 : mj_f mi_X12_readLaying 24 = some (.if_icmp .le 13, 3, 37, 0, .null) := by decide +kernel
theorem fe_X12_readLaying_27 : mj_f mi_X12_readLaying 27 = some (.aload_n 0, 1, 0, 0, .null) := by decide +kernel
theorem fe_X12_readLaying_28 : mj_f mi_X12_readLaying 28 = some (.iconst 1, 1, 0, 0, .int (1)) := by decide +kernel
theorem fe_X12_readLaying_29 : mj_f mi_X12_readLaying 29 = some (.aload_n 0, 1, 0, 0, .null) := by decide +kernel
theorem fe_X12_readLaying_30 : mj_f mi_X12_readLaying 30 = some (.getfield 113, 3, 12, 33, .int 0) := by decide +kernel
theorem fe_X12_readLaying_33 : mj_f mi_X12_readLaying 33 = some (.invokevirtual 324, 3, 245, 2, .null) := by decide +kernel
theorem fe_X12_readLaying_36 : mj_f mi_X12_readLaying 36 = some (.return_, 1, 0, 0, .null) := by decide +kernel
theorem fe_X12_readLaying_37 : mj_f mi_X12_readLaying 37 = some (.iconst 0, 1, 0, 0, .int (0)) := by decide +kernel
theorem fe_X12_readLaying_38 : mj_f mi_X12_readLaying 38 = some (.istore 4, 2, 4, 0, .null) := by decide +kernel
theorem fe_X12_readLaying_40 : mj_f mi_X12_readLaying 40 = some (.iconst 0, 1, 0, 0, .int (0)) := by decide +kernel
theorem fe_X12_readLaying_41 : mj_f mi_X12_readLaying 41 = some (.istore 5, 2, 5, 0, .null) := by decide +kernel
theorem fe_X12_readLaying_43 : mj_f mi_X12_readLaying 43 = some (.iload 5, 2, 5, 0, .null) := by decide +kernel
theorem fe_X12_readLaying_45 : mj_f mi_X12_readLaying 45 = some (.iload_n 1, 1, 1, 0, .null) := by decide +kernel
theorem fe_X12_readLaying_46 : mj_f mi_X12_readLaying 46 = some (.if_icmp .ge 72, 3, 118, 0, .null) := by decide +kernel
theorem fe_X12_readLaying_49 : mj_f mi_X12_readLaying 49 = some (.aload_n 0, 1, 0, 0, .null) := by decide +kernel
theorem fe_X12_readLaying_50 : mj_f mi_X12_readLaying 50 = some (.getfield 146, 3, 12, 44, .null) := by decide +kernel
theorem fe_X12_readLaying_53 : mj_f mi_X12_readLaying 53 = some (.iload 5, 2, 5, 0, .null) := by decide +kernel
theorem fe_X12_readLaying_55 : mj_f mi_X12_readLaying 55 = some (.lconst 0, 1, 0, 0, .long 0) := by decide +kernel
theorem fe_X12_readLaying_56 : mj_f mi_X12_readLaying 56 = some (.lastore, 1, 0, 0, .null) := by decide +kernel
theorem fe_X12_readLaying_57 : mj_f mi_X12_readLaying 57 = some (.iconst 0, 1, 0, 0, .int (0)) := by decide +kernel
theorem fe_X12_readLaying_58 : mj_f mi_X12_readLaying 58 = some (.istore 6, 2, 6, 0, .null) := by decide +kernel
theorem fe_X12_readLaying_60 : mj_f mi_X12_readLaying 60 = some (.iload 6, 2, 6, 0, .null) := by decide +kernel
theorem fe_X12_readLaying_62 : mj_f mi_X12_readLaying 62 = some (.iload_n 2, 1, 2, 0, .null) := by decide +kernel
theorem fe_X12_readLaying_63 : mj_f mi_X12_readLaying 63 = some (.if_icmp .ge 49, 3, 112, 0, .null) := by decide +kernel
theorem fe_X12_readLaying_66 : mj_f mi_X12_readLaying 66 = some (.aload_n 0, 1, 0, 0, .null) := by decide +kernel
theorem fe_X12_readLaying_67 : mj_f mi_X12_readLaying 67 = some (.getfield 146, 3, 12, 44, .null) := by decide +kernel
theorem fe_X12_readLaying_70 : mj_f mi_X12_readLaying 70 = some (.iload 5, 2, 5, 0, .null) := by decide +kernel
theorem fe_X12_readLaying_72 : mj_f mi_X12_readLaying 72 = some (.dup2, 1, 0, 0, .null) := by decide +kernel
theorem fe_X12_readLaying_73 : mj_f mi_X12_readLaying 73 = some (.laload, 1, 0, 0, .null) := by decide +kernel
theorem fe_X12_readLaying_74 : mj_f mi_X12_readLaying 74 = some (.aload_n 0, 1, 0, 0, .null) := by decide +kernel
theorem fe_X12_readLaying_75 : mj_f mi_X12_readLaying 75 = some (.getfield 110, 3, 12, 32, .null) := by decide +kernel
theorem fe_X12_readLaying_78 : mj_f mi_X12_readLaying 78 = some (.aload_n 0, 1, 0, 0, .null) := by decide +kernel
theorem fe_X12_readLaying_79 : mj_f mi_X12_readLaying 79 = some (.getfield 116, 3, 12, 34, .int 0) := by decide +kernel
theorem fe_X12_readLaying_82 : mj_f mi_X12_readLaying 82 = some (.iload 4, 2, 4, 0, .null) := by decide +kernel
theorem fe_X12_readLaying_84 : mj_f mi_X12_readLaying 84 = some (.bipush 8, 2, 0, 0, .int (8)) := by decide +kernel
theorem fe_X12_readLaying_86 : mj_f mi_X12_readLaying 86 = some (.idiv, 1, 0, 0, .null) := by decide +kernel
theorem fe_X12_readLaying_87 : mj_f mi_X12_readLaying 87 = some (.iadd, 1, 0, 0, .null) := by decide +kernel
theorem fe_X12_readLaying_88 : mj_f mi_X12_readLaying 88 = some (.iaload, 1, 0, 0, .null) := by decide +kernel
theorem fe_X12_readLaying_89 : mj_f mi_X12_readLaying 89 = some (.iload 4, 2, 4, 0, .null) := by decide +kernel
theorem fe_X12_readLaying_91 : mj_f mi_X12_readLaying 91 = some (.bipush 8, 2, 0, 0, .int (8)) := by decide +kernel
theorem fe_X12_readLaying_93 : mj_f mi_X12_readLaying 93 = some (.irem, 1, 0, 0, .null) := by decide +kernel
theorem fe_X12_readLaying_94 : mj_f mi_X12_readLaying 94 = some (.ishr, 1, 0, 0, .null) := by decide +kernel
theorem fe_X12_readLaying_95 : mj_f mi_X12_readLaying 95 = some (.iconst 1, 1, 0, 0, .int (1)) := by decide +kernel
theorem fe_X12_readLaying_96 : mj_f mi_X12_readLaying 96 = some (.iand, 1, 0, 0, .null) := by decide +kernel
theorem fe_X12_readLaying_97 : mj_f mi_X12_readLaying 97 = some (.i2l, 1, 0, 0, .null) := by decide +kernel
theorem fe_X12_readLaying_98 : mj_f mi_X12_readLaying 98 = some (.iload 6, 2, 6, 0, .null) := by decide +kernel
theorem fe_X12_readLaying_100 : mj_f mi_X12_readLaying 100 = some (.lshl, 1, 0, 0, .null) := by decide +kernel
theorem fe_X12_readLaying_101 : mj_f mi_X12_readLaying 101 = some (.lor, 1, 0, 0, .null) := by decide +kernel
theorem fe_X12_readLaying_102 : mj_f mi_X12_readLaying 102 = some (.lastore, 1, 0, 0, .null) := by decide +kernel
theorem fe_X12_readLaying_103 : mj_f mi_X12_readLaying 103 = some (.iinc 4 1, 3, 4, 0, .int (1)) := by decide +kernel
theorem fe_X12_readLaying_106 : mj_f mi_X12_readLaying 106 = some (.iinc 6 1, 3, 6, 0, .int (1)) := by decide +kernel
theorem fe_X12_readLaying_109 : mj_f mi_X12_readLaying 109 = some (.goto (-49), 3, 60, 0, .null) := by decide +kernel
theorem fe_X12_readLaying_112 : mj_f mi_X12_readLaying 112 = some (.iinc 5 1, 3, 5, 0, .int (1)) := by decide +kernel
theorem fe_X12_readLaying_115 : mj_f mi_X12_readLaying 115 = some (.goto (-72), 3, 43, 0, .null) := by decide +kernel
theorem fe_X12_readLaying_118 : mj_f mi_X12_readLaying 118 = some (.aload_n 0, 1, 0, 0, .null) := by decide +kernel
theorem fe_X12_readLaying_119 : mj_f mi_X12_readLaying 119 = some (.dup, 1, 0, 0, .null) := by decide +kernel
theorem fe_X12_readLaying_120 : mj_f mi_X12_readLaying 120 = some (.getfield 116, 3, 12, 34, .int 0) := by decide +kernel
theorem fe_X12_readLaying_123 : mj_f mi_X12_readLaying 123 = some (.iload_n 3, 1, 3, 0, .null) := by decide +kernel
theorem fe_X12_readLaying_124 : mj_f mi_X12_readLaying 124 = some (.iadd, 1, 0, 0, .null) := by decide +kernel
theorem fe_X12_readLaying_125 : mj_f mi_X12_readLaying 125 = some (.putfield 116, 3, 12, 34, .int 0) := by decide +kernel
theorem fe_X12_readLaying_128 : mj_f mi_X12_readLaying 128 = some (.return_, 1, 0, 0, .null) := by decide +kernel
def ct_X12_readWide : MJT := [
  (0, 0, .aload_n 0, 1, 0, 0, .null),
  (1, 1246, .getfield 116, 3, 12, 34, .int 0),
  (4, 0, .istore_n 1, 1, 1, 0, .null),
  (5, 0, .aload_n 0, 1, 0, 0, .null),
  (6, 1574, .invokevirtual 327, 3, 246, 0, .null),
  (9, 0, .istore_n 2, 1, 2, 0, .null),
  (10, 0, .iload_n 2, 1, 2, 0, .null),
  (11, 0, .bipush 64, 2, 0, 0, .int (64)),
  (13, 0, .if_icmp .le 9, 3, 22, 0, .null),
  (16, 0, .aload_n 0, 1, 0, 0, .null),
  (17, 0, .iconst 2, 1, 0, 0, .int (2)),
  (18, 0, .iload_n 1, 1, 1, 0, .null),
  (19, 1578, .invokevirtual 324, 3, 245, 2, .null),
  (22, 0, .iload_n 2, 1, 2, 0, .null),
  (23, 0, .ireturn, 1, 0, 0, .null)]
abbrev id_X12_readWide : Nat := 250
def mi_X12_readWide : MI := (yX12_readWide, cX12_readWide, 3, (some .int), 12, ct_X12_readWide)
theorem fe_X12_readWide_0 : mj_f mi_X12_readWide 0 = some (.aload_n 0, 1, 0, 0, .null) := by decide +kernel
theorem fe_X12_readWide_1 : mj_f mi_X12_readWide 1 = some (.getfield 116, 3, 12, 34, .int 0) := by decide +kernel
theorem fe_X12_readWide_4 : mj_f mi_X12_readWide 4 = some (.istore_n 1, 1, 1, 0, .null) := by decide +kernel
theorem fe_X12_readWide_5 : mj_f mi_X12_readWide 5 = some (.aload_n 0, 1, 0, 0, .null) := by decide +kernel
theorem fe_X12_readWide_6 : mj_f mi_X12_readWide 6 = some (.invokevirtual 327, 3, 246, 0, .null) := by decide +kernel
theorem fe_X12_readWide_9 : mj_f mi_X12_readWide 9 = some (.istore_n 2, 1, 2, 0, .null) := by decide +kernel
theorem fe_X12_readWide_10 : mj_f mi_X12_readWide 10 = some (.iload_n 2, 1, 2, 0, .null) := by decide +kernel
theorem fe_X12_readWide_11 : mj_f mi_X12_readWide 11 = some (.bipush 64, 2, 0, 0, .int (64)) := by decide +kernel
theorem fe_X12_readWide_13 : mj_f mi_X12_readWide 13 = some (.if_icmp .le 9, 3, 22, 0, .null) := by decide +kernel
theorem fe_X12_readWide_16 : mj_f mi_X12_readWide 16 = some (.aload_n 0, 1, 0, 0, .null) := by decide +kernel
theorem fe_X12_readWide_17 : mj_f mi_X12_readWide 17 = some (.iconst 2, 1, 0, 0, .int (2)) := by decide +kernel
theorem fe_X12_readWide_18 : mj_f mi_X12_readWide 18 = some (.iload_n 1, 1, 1, 0, .null) := by decide +kernel
theorem fe_X12_readWide_19 : mj_f mi_X12_readWide 19 = some (.invokevirtual 324, 3, 245, 2, .null) := by decide +kernel
theorem fe_X12_readWide_22 : mj_f mi_X12_readWide 22 = some (.iload_n 2, 1, 2, 0, .null) := by decide +kernel
theorem fe_X12_readWide_23 : mj_f mi_X12_readWide 23 = some (.ireturn, 1, 0, 0, .null) := by decide +kernel
def ct_X12_readLeaf : MJT := [
  (0, 0, .aload_n 0, 1, 0, 0, .null),
  (1, 0, .dup, 1, 0, 0, .null),
  (2, 1250, .getfield 128, 3, 12, 38, .int 0),
  (5, 0, .iload_n 2, 1, 2, 0, .null),
  (6, 0, .iadd, 1, 0, 0, .null),
  (7, 1250, .putfield 128, 3, 12, 38, .int 0),
  (10, 0, .iload_n 1, 1, 1, 0, .null),
  (11, 0, .ifCond .ne 61, 3, 72, 0, .null),
  (14, 0, .iconst 0, 1, 0, 0, .int (0)),
  (15, 0, .istore_n 3, 1, 3, 0, .null),
  (16, 0, .iload_n 3, 1, 3, 0, .null),
  (17, 0, .iload_n 2, 1, 2, 0, .null),
  (18, 0, .if_icmp .ge 53, 3, 71, 0, .null),
  (21, 0, .aload_n 0, 1, 0, 0, .null),
  (22, 1257, .getfield 149, 3, 12, 45, .null),
  (25, 0, .iload_n 3, 1, 3, 0, .null),
  (26, 0, .lconst 0, 1, 0, 0, .long 0),
  (27, 0, .lastore, 1, 0, 0, .null),
  (28, 0, .iconst 0, 1, 0, 0, .int (0)),
  (29, 0, .istore 4, 2, 4, 0, .null),
  (31, 0, .iload 4, 2, 4, 0, .null),
  (33, 0, .bipush 8, 2, 0, 0, .int (8)),
  (35, 0, .if_icmp .ge 30, 3, 65, 0, .null),
  (38, 0, .aload_n 0, 1, 0, 0, .null),
  (39, 1257, .getfield 149, 3, 12, 45, .null),
  (42, 0, .iload_n 3, 1, 3, 0, .null),
  (43, 0, .aload_n 0, 1, 0, 0, .null),
  (44, 1257, .getfield 149, 3, 12, 45, .null),
  (47, 0, .iload_n 3, 1, 3, 0, .null),
  (48, 0, .laload, 1, 0, 0, .null),
  (49, 0, .bipush 8, 2, 0, 0, .int (8)),
  (51, 0, .lshl, 1, 0, 0, .null),
  (52, 0, .aload_n 0, 1, 0, 0, .null),
  (53, 1574, .invokevirtual 327, 3, 246, 0, .null),
  (56, 0, .i2l, 1, 0, 0, .null),
  (57, 0, .lor, 1, 0, 0, .null),
  (58, 0, .lastore, 1, 0, 0, .null),
  (59, 0, .iinc 4 1, 3, 4, 0, .int (1)),
  (62, 0, .goto (-31), 3, 31, 0, .null),
  (65, 0, .iinc 3 1, 3, 3, 0, .int (1)),
  (68, 0, .goto (-52), 3, 16, 0, .null),
  (71, 0, .return_, 1, 0, 0, .null),
  (72, 0, .aload_n 0, 1, 0, 0, .null),
  (73, 1598, .invokevirtual 335, 3, 248, 0, .null),
  (76, 0, .lstore_n 3, 1, 3, 0, .null),
  (77, 0, .aload_n 0, 1, 0, 0, .null),
  (78, 1602, .invokevirtual 338, 3, 250, 0, .null),
  (81, 0, .istore 5, 2, 5, 0, .null),
  (83, 0, .iconst 0, 1, 0, 0, .int (0)),
  (84, 0, .istore 6, 2, 6, 0, .null),
  (86, 0, .iconst (-1), 1, 0, 0, .int (-1)),
  (87, 0, .istore 7, 2, 7, 0, .null),
  (89, 0, .iconst 0, 1, 0, 0, .int (0)),
  (90, 0, .istore 8, 2, 8, 0, .null),
  (92, 0, .iload 8, 2, 8, 0, .null),
  (94, 0, .iload_n 2, 1, 2, 0, .null),
  (95, 0, .if_icmp .ge 17, 3, 112, 0, .null),
  (98, 0, .aload_n 0, 1, 0, 0, .null),
  (99, 1259, .getfield 155, 3, 12, 47, .null),
  (102, 0, .iload 8, 2, 8, 0, .null),
  (104, 0, .iconst 0, 1, 0, 0, .int (0)),
  (105, 0, .bastore, 1, 0, 0, .null),
  (106, 0, .iinc 8 1, 3, 8, 0, .int (1)),
  (109, 0, .goto (-17), 3, 92, 0, .null),
  (112, 0, .iload_n 1, 1, 1, 0, .null),
  (113, 0, .iconst 2, 1, 0, 0, .int (2)),
  (114, 0, .if_icmp .ne 39, 3, 153, 0, .null),
  (117, 0, .aload_n 0, 1, 0, 0, .null),
  (118, 1246, .getfield 116, 3, 12, 34, .int 0),
  (121, 0, .istore 8, 2, 8, 0, .null),
  (123, 0, .aload_n 0, 1, 0, 0, .null),
  (124, 1574, .invokevirtual 327, 3, 246, 0, .null),
  (127, 0, .istore 6, 2, 6, 0, .null),
  (129, 0, .iload 6, 2, 6, 0, .null),
  (131, 0, .iload_n 2, 1, 2, 0, .null),
  (132, 0, .if_icmp .le 10, 3, 142, 0, .null),
  (135, 0, .aload_n 0, 1, 0, 0, .null),
  (136, 0, .iconst 2, 1, 0, 0, .int (2)),
  (137, 0, .iload 8, 2, 8, 0, .null),
  (139, 1578, .invokevirtual 324, 3, 245, 2, .null),
  (142, 0, .aload_n 0, 1, 0, 0, .null),
  (143, 0, .dup, 1, 0, 0, .null),
  (144, 1250, .getfield 128, 3, 12, 38, .int 0),
  (147, 0, .iload 6, 2, 6, 0, .null),
  (149, 0, .iadd, 1, 0, 0, .null),
  (150, 1250, .putfield 128, 3, 12, 38, .int 0),
  (153, 0, .iconst 0, 1, 0, 0, .int (0)),
  (154, 0, .istore 8, 2, 8, 0, .null),
  (156, 0, .iload 8, 2, 8, 0, .null),
  (158, 0, .iload 6, 2, 6, 0, .null),
  (160, 0, .if_icmp .ge 79, 3, 239, 0, .null),
  (163, 0, .aload_n 0, 1, 0, 0, .null),
  (164, 1247, .getfield 119, 3, 12, 35, .int 0),
  (167, 0, .ifCond .ne 72, 3, 239, 0, .null),
  (170, 0, .aload_n 0, 1, 0, 0, .null),
  (171, 1246, .getfield 116, 3, 12, 34, .int 0),
  (174, 0, .istore 9, 2, 9, 0, .null),
  (176, 0, .aload_n 0, 1, 0, 0, .null),
  (177, 1574, .invokevirtual 327, 3, 246, 0, .null),
  (180, 0, .istore 10, 2, 10, 0, .null),
  (182, 0, .iload 10, 2, 10, 0, .null),
  (184, 0, .iload_n 2, 1, 2, 0, .null),
  (185, 0, .if_icmp .ge 10, 3, 195, 0, .null),
  (188, 0, .iload 10, 2, 10, 0, .null),
  (190, 0, .iload 7, 2, 7, 0, .null),
  (192, 0, .if_icmp .gt 10, 3, 202, 0, .null),
  (195, 0, .aload_n 0, 1, 0, 0, .null),
  (196, 0, .iconst 2, 1, 0, 0, .int (2)),
  (197, 0, .iload 9, 2, 9, 0, .null),
  (199, 1578, .invokevirtual 324, 3, 245, 2, .null),
  (202, 0, .aload_n 0, 1, 0, 0, .null),
  (203, 1247, .getfield 119, 3, 12, 35, .int 0),
  (206, 0, .ifCond .le 4, 3, 210, 0, .null),
  (209, 0, .return_, 1, 0, 0, .null),
  (210, 0, .iload 10, 2, 10, 0, .null),
  (212, 0, .istore 7, 2, 7, 0, .null),
  (214, 0, .aload_n 0, 1, 0, 0, .null),
  (215, 1259, .getfield 155, 3, 12, 47, .null),
  (218, 0, .iload 10, 2, 10, 0, .null),
  (220, 0, .iconst 1, 1, 0, 0, .int (1)),
  (221, 0, .bastore, 1, 0, 0, .null),
  (222, 0, .aload_n 0, 1, 0, 0, .null),
  (223, 1258, .getfield 152, 3, 12, 46, .null),
  (226, 0, .iload 10, 2, 10, 0, .null),
  (228, 0, .aload_n 0, 1, 0, 0, .null),
  (229, 1598, .invokevirtual 335, 3, 248, 0, .null),
  (232, 0, .lastore, 1, 0, 0, .null),
  (233, 0, .iinc 8 1, 3, 8, 0, .int (1)),
  (236, 0, .goto (-80), 3, 156, 0, .null),
  (239, 0, .aload_n 0, 1, 0, 0, .null),
  (240, 0, .iload_n 2, 1, 2, 0, .null),
  (241, 0, .iload 5, 2, 5, 0, .null),
  (243, 1582, .invokevirtual 341, 3, 249, 2, .null),
  (246, 0, .iconst 0, 1, 0, 0, .int (0)),
  (247, 0, .istore 8, 2, 8, 0, .null),
  (249, 0, .iload 8, 2, 8, 0, .null),
  (251, 0, .iload_n 2, 1, 2, 0, .null),
  (252, 0, .if_icmp .ge 52, 3, 304, 0, .null),
  (255, 0, .aload_n 0, 1, 0, 0, .null),
  (256, 1247, .getfield 119, 3, 12, 35, .int 0),
  (259, 0, .ifCond .ne 45, 3, 304, 0, .null),
  (262, 0, .aload_n 0, 1, 0, 0, .null),
  (263, 1257, .getfield 149, 3, 12, 45, .null),
  (266, 0, .iload 8, 2, 8, 0, .null),
  (268, 0, .aload_n 0, 1, 0, 0, .null),
  (269, 1259, .getfield 155, 3, 12, 47, .null),
  (272, 0, .iload 8, 2, 8, 0, .null),
  (274, 0, .baload, 1, 0, 0, .null),
  (275, 0, .ifCond .eq 13, 3, 288, 0, .null),
  (278, 0, .aload_n 0, 1, 0, 0, .null),
  (279, 1258, .getfield 152, 3, 12, 46, .null),
  (282, 0, .iload 8, 2, 8, 0, .null),
  (284, 0, .laload, 1, 0, 0, .null),
  (285, 0, .goto 12, 3, 297, 0, .null),
  (288, 0, .lload_n 3, 1, 3, 0, .null),
  (289, 0, .aload_n 0, 1, 0, 0, .null),
  (290, 1256, .getfield 146, 3, 12, 44, .null),
  (293, 0, .iload 8, 2, 8, 0, .null),
  (295, 0, .laload, 1, 0, 0, .null),
  (296, 0, .ladd, 1, 0, 0, .null),
  (297, 0, .lastore, 1, 0, 0, .null),
  (298, 0, .iinc 8 1, 3, 8, 0, .int (1)),
  (301, 0, .goto (-52), 3, 249, 0, .null),
  (304, 0, .return_, 1, 0, 0, .null)]
abbrev id_X12_readLeaf : Nat := 251
def mi_X12_readLeaf : MI := (yX12_readLeaf, cX12_readLeaf, 11, none, 12, ct_X12_readLeaf)
theorem fe_X12_readLeaf_0 : mj_f mi_X12_readLeaf 0 = some (.aload_n 0, 1, 0, 0, .null) := by decide +kernel
theorem fe_X12_readLeaf_1 : mj_f mi_X12_readLeaf 1 = some (.dup, 1, 0, 0, .null) := by decide +kernel
theorem fe_X12_readLeaf_2 : mj_f mi_X12_readLeaf 2 = some (.getfield 128, 3, 12, 38, .int 0) := by decide +kernel
theorem fe_X12_readLeaf_5 : mj_f mi_X12_readLeaf 5 = some (.iload_n 2, 1, 2, 0, .null) := by decide +kernel
theorem fe_X12_readLeaf_6 : mj_f mi_X12_readLeaf 6 = some (.iadd, 1, 0, 0, .null) := by decide +kernel
theorem fe_X12_readLeaf_7 : mj_f mi_X12_readLeaf 7 = some (.putfield 128, 3, 12, 38, .int 0) := by decide +kernel
theorem fe_X12_readLeaf_10 : mj_f mi_X12_readLeaf 10 = some (.iload_n 1, 1, 1, 0, .null) := by decide +kernel
theorem fe_X12_readLeaf_11 : mj_f mi_X12_readLeaf 11 = some (.ifCond .ne 61, 3, 72, 0, .null) := by decide +kernel
theorem fe_X12_readLeaf_14 : mj_f mi_X12_readLeaf 14 = some (.iconst 0, 1, 0, 0, .int (0)) := by decide +kernel
theorem fe_X12_readLeaf_15 : mj_f mi_X12_readLeaf 15 = some (.istore_n 3, 1, 3, 0, .null) := by decide +kernel
theorem fe_X12_readLeaf_16 : mj_f mi_X12_readLeaf 16 = some (.iload_n 3, 1, 3, 0, .null) := by decide +kernel
theorem fe_X12_readLeaf_17 : mj_f mi_X12_readLeaf 17 = some (.iload_n 2, 1, 2, 0, .null) := by decide +kernel
theorem fe_X12_readLeaf_18 : mj_f mi_X12_readLeaf 18 = some (.if_icmp .ge 53, 3, 71, 0, .null) := by decide +kernel
theorem fe_X12_readLeaf_21 : mj_f mi_X12_readLeaf 21 = some (.aload_n 0, 1, 0, 0, .null) := by decide +kernel
theorem fe_X12_readLeaf_22 : mj_f mi_X12_readLeaf 22 = some (.getfield 149, 3, 12, 45, .null) := by decide +kernel
theorem fe_X12_readLeaf_25 : mj_f mi_X12_readLeaf 25 = some (.iload_n 3, 1, 3, 0, .null) := by decide +kernel
theorem fe_X12_readLeaf_26 : mj_f mi_X12_readLeaf 26 = some (.lconst 0, 1, 0, 0, .long 0) := by decide +kernel
theorem fe_X12_readLeaf_27 : mj_f mi_X12_readLeaf 27 = some (.lastore, 1, 0, 0, .null) := by decide +kernel
theorem fe_X12_readLeaf_28 : mj_f mi_X12_readLeaf 28 = some (.iconst 0, 1, 0, 0, .int (0)) := by decide +kernel
theorem fe_X12_readLeaf_29 : mj_f mi_X12_readLeaf 29 = some (.istore 4, 2, 4, 0, .null) := by decide +kernel
theorem fe_X12_readLeaf_31 : mj_f mi_X12_readLeaf 31 = some (.iload 4, 2, 4, 0, .null) := by decide +kernel
theorem fe_X12_readLeaf_33 : mj_f mi_X12_readLeaf 33 = some (.bipush 8, 2, 0, 0, .int (8)) := by decide +kernel
theorem fe_X12_readLeaf_35 : mj_f mi_X12_readLeaf 35 = some (.if_icmp .ge 30, 3, 65, 0, .null) := by decide +kernel
theorem fe_X12_readLeaf_38 : mj_f mi_X12_readLeaf 38 = some (.aload_n 0, 1, 0, 0, .null) := by decide +kernel
theorem fe_X12_readLeaf_39 : mj_f mi_X12_readLeaf 39 = some (.getfield 149, 3, 12, 45, .null) := by decide +kernel
theorem fe_X12_readLeaf_42 : mj_f mi_X12_readLeaf 42 = some (.iload_n 3, 1, 3, 0, .null) := by decide +kernel
theorem fe_X12_readLeaf_43 : mj_f mi_X12_readLeaf 43 = some (.aload_n 0, 1, 0, 0, .null) := by decide +kernel
theorem fe_X12_readLeaf_44 : mj_f mi_X12_readLeaf 44 = some (.getfield 149, 3, 12, 45, .null) := by decide +kernel
theorem fe_X12_readLeaf_47 : mj_f mi_X12_readLeaf 47 = some (.iload_n 3, 1, 3, 0, .null) := by decide +kernel
theorem fe_X12_readLeaf_48 : mj_f mi_X12_readLeaf 48 = some (.laload, 1, 0, 0, .null) := by decide +kernel
theorem fe_X12_readLeaf_49 : mj_f mi_X12_readLeaf 49 = some (.bipush 8, 2, 0, 0, .int (8)) := by decide +kernel
theorem fe_X12_readLeaf_51 : mj_f mi_X12_readLeaf 51 = some (.lshl, 1, 0, 0, .null) := by decide +kernel
theorem fe_X12_readLeaf_52 : mj_f mi_X12_readLeaf 52 = some (.aload_n 0, 1, 0, 0, .null) := by decide +kernel
theorem fe_X12_readLeaf_53 : mj_f mi_X12_readLeaf 53 = some (.invokevirtual 327, 3, 246, 0, .null) := by decide +kernel
theorem fe_X12_readLeaf_56 : mj_f mi_X12_readLeaf 56 = some (.i2l, 1, 0, 0, .null) := by decide +kernel
theorem fe_X12_readLeaf_57 : mj_f mi_X12_readLeaf 57 = some (.lor, 1, 0, 0, .null) := by decide +kernel
theorem fe_X12_readLeaf_58 : mj_f mi_X12_readLeaf 58 = some (.lastore, 1, 0, 0, .null) := by decide +kernel
theorem fe_X12_readLeaf_59 : mj_f mi_X12_readLeaf 59 = some (.iinc 4 1, 3, 4, 0, .int (1)) := by decide +kernel
theorem fe_X12_readLeaf_62 : mj_f mi_X12_readLeaf 62 = some (.goto (-31), 3, 31, 0, .null) := by decide +kernel
theorem fe_X12_readLeaf_65 : mj_f mi_X12_readLeaf 65 = some (.iinc 3 1, 3, 3, 0, .int (1)) := by decide +kernel
theorem fe_X12_readLeaf_68 : mj_f mi_X12_readLeaf 68 = some (.goto (-52), 3, 16, 0, .null) := by decide +kernel
theorem fe_X12_readLeaf_71 : mj_f mi_X12_readLeaf 71 = some (.return_, 1, 0, 0, .null) := by decide +kernel
theorem fe_X12_readLeaf_72 : mj_f mi_X12_readLeaf 72 = some (.aload_n 0, 1, 0, 0, .null) := by decide +kernel
theorem fe_X12_readLeaf_73 : mj_f mi_X12_readLeaf 73 = some (.invokevirtual 335, 3, 248, 0, .null) := by decide +kernel
theorem fe_X12_readLeaf_76 : mj_f mi_X12_readLeaf 76 = some (.lstore_n 3, 1, 3, 0, .null) := by decide +kernel
theorem fe_X12_readLeaf_77 : mj_f mi_X12_readLeaf 77 = some (.aload_n 0, 1, 0, 0, .null) := by decide +kernel
theorem fe_X12_readLeaf_78 : mj_f mi_X12_readLeaf 78 = some (.invokevirtual 338, 3, 250, 0, .null) := by decide +kernel
theorem fe_X12_readLeaf_81 : mj_f mi_X12_readLeaf 81 = some (.istore 5, 2, 5, 0, .null) := by decide +kernel
theorem fe_X12_readLeaf_83 : mj_f mi_X12_readLeaf 83 = some (.iconst 0, 1, 0, 0, .int (0)) := by decide +kernel
theorem fe_X12_readLeaf_84 : mj_f mi_X12_readLeaf 84 = some (.istore 6, 2, 6, 0, .null) := by decide +kernel
theorem fe_X12_readLeaf_86 : mj_f mi_X12_readLeaf 86 = some (.iconst (-1), 1, 0, 0, .int (-1)) := by decide +kernel
theorem fe_X12_readLeaf_87 : mj_f mi_X12_readLeaf 87 = some (.istore 7, 2, 7, 0, .null) := by decide +kernel
theorem fe_X12_readLeaf_89 : mj_f mi_X12_readLeaf 89 = some (.iconst 0, 1, 0, 0, .int (0)) := by decide +kernel
theorem fe_X12_readLeaf_90 : mj_f mi_X12_readLeaf 90 = some (.istore 8, 2, 8, 0, .null) := by decide +kernel
theorem fe_X12_readLeaf_92 : mj_f mi_X12_readLeaf 92 = some (.iload 8, 2, 8, 0, .null) := by decide +kernel
theorem fe_X12_readLeaf_94 : mj_f mi_X12_readLeaf 94 = some (.iload_n 2, 1, 2, 0, .null) := by decide +kernel
theorem fe_X12_readLeaf_95 : mj_f mi_X12_readLeaf 95 = some (.if_icmp .ge 17, 3, 112, 0, .null) := by decide +kernel
theorem fe_X12_readLeaf_98 : mj_f mi_X12_readLeaf 98 = some (.aload_n 0, 1, 0, 0, .null) := by decide +kernel
theorem fe_X12_readLeaf_99 : mj_f mi_X12_readLeaf 99 = some (.getfield 155, 3, 12, 47, .null) := by decide +kernel
theorem fe_X12_readLeaf_102 : mj_f mi_X12_readLeaf 102 = some (.iload 8, 2, 8, 0, .null) := by decide +kernel
theorem fe_X12_readLeaf_104 : mj_f mi_X12_readLeaf 104 = some (.iconst 0, 1, 0, 0, .int (0)) := by decide +kernel
theorem fe_X12_readLeaf_105 : mj_f mi_X12_readLeaf 105 = some (.bastore, 1, 0, 0, .null) := by decide +kernel
theorem fe_X12_readLeaf_106 : mj_f mi_X12_readLeaf 106 = some (.iinc 8 1, 3, 8, 0, .int (1)) := by decide +kernel
theorem fe_X12_readLeaf_109 : mj_f mi_X12_readLeaf 109 = some (.goto (-17), 3, 92, 0, .null) := by decide +kernel
theorem fe_X12_readLeaf_112 : mj_f mi_X12_readLeaf 112 = some (.iload_n 1, 1, 1, 0, .null) := by decide +kernel
theorem fe_X12_readLeaf_113 : mj_f mi_X12_readLeaf 113 = some (.iconst 2, 1, 0, 0, .int (2)) := by decide +kernel
theorem fe_X12_readLeaf_114 : mj_f mi_X12_readLeaf 114 = some (.if_icmp .ne 39, 3, 153, 0, .null) := by decide +kernel
theorem fe_X12_readLeaf_117 : mj_f mi_X12_readLeaf 117 = some (.aload_n 0, 1, 0, 0, .null) := by decide +kernel
theorem fe_X12_readLeaf_118 : mj_f mi_X12_readLeaf 118 = some (.getfield 116, 3, 12, 34, .int 0) := by decide +kernel
theorem fe_X12_readLeaf_121 : mj_f mi_X12_readLeaf 121 = some (.istore 8, 2, 8, 0, .null) := by decide +kernel
theorem fe_X12_readLeaf_123 : mj_f mi_X12_readLeaf 123 = some (.aload_n 0, 1, 0, 0, .null) := by decide +kernel
theorem fe_X12_readLeaf_124 : mj_f mi_X12_readLeaf 124 = some (.invokevirtual 327, 3, 246, 0, .null) := by decide +kernel
theorem fe_X12_readLeaf_127 : mj_f mi_X12_readLeaf 127 = some (.istore 6, 2, 6, 0, .null) := by decide +kernel
theorem fe_X12_readLeaf_129 : mj_f mi_X12_readLeaf 129 = some (.iload 6, 2, 6, 0, .null) := by decide +kernel
theorem fe_X12_readLeaf_131 : mj_f mi_X12_readLeaf 131 = some (.iload_n 2, 1, 2, 0, .null) := by decide +kernel
theorem fe_X12_readLeaf_132 : mj_f mi_X12_readLeaf 132 = some (.if_icmp .le 10, 3, 142, 0, .null) := by decide +kernel
theorem fe_X12_readLeaf_135 : mj_f mi_X12_readLeaf 135 = some (.aload_n 0, 1, 0, 0, .null) := by decide +kernel
theorem fe_X12_readLeaf_136 : mj_f mi_X12_readLeaf 136 = some (.iconst 2, 1, 0, 0, .int (2)) := by decide +kernel
theorem fe_X12_readLeaf_137 : mj_f mi_X12_readLeaf 137 = some (.iload 8, 2, 8, 0, .null) := by decide +kernel
theorem fe_X12_readLeaf_139 : mj_f mi_X12_readLeaf 139 = some (.invokevirtual 324, 3, 245, 2, .null) := by decide +kernel
theorem fe_X12_readLeaf_142 : mj_f mi_X12_readLeaf 142 = some (.aload_n 0, 1, 0, 0, .null) := by decide +kernel
theorem fe_X12_readLeaf_143 : mj_f mi_X12_readLeaf 143 = some (.dup, 1, 0, 0, .null) := by decide +kernel
theorem fe_X12_readLeaf_144 : mj_f mi_X12_readLeaf 144 = some (.getfield 128, 3, 12, 38, .int 0) := by decide +kernel
theorem fe_X12_readLeaf_147 : mj_f mi_X12_readLeaf 147 = some (.iload 6, 2, 6, 0, .null) := by decide +kernel
theorem fe_X12_readLeaf_149 : mj_f mi_X12_readLeaf 149 = some (.iadd, 1, 0, 0, .null) := by decide +kernel
theorem fe_X12_readLeaf_150 : mj_f mi_X12_readLeaf 150 = some (.putfield 128, 3, 12, 38, .int 0) := by decide +kernel
theorem fe_X12_readLeaf_153 : mj_f mi_X12_readLeaf 153 = some (.iconst 0, 1, 0, 0, .int (0)) := by decide +kernel
theorem fe_X12_readLeaf_154 : mj_f mi_X12_readLeaf 154 = some (.istore 8, 2, 8, 0, .null) := by decide +kernel
theorem fe_X12_readLeaf_156 : mj_f mi_X12_readLeaf 156 = some (.iload 8, 2, 8, 0, .null) := by decide +kernel
theorem fe_X12_readLeaf_158 : mj_f mi_X12_readLeaf 158 = some (.iload 6, 2, 6, 0, .null) := by decide +kernel
theorem fe_X12_readLeaf_160 : mj_f mi_X12_readLeaf 160 = some (.if_icmp .ge 79, 3, 239, 0, .null) := by decide +kernel
theorem fe_X12_readLeaf_163 : mj_f mi_X12_readLeaf 163 = some (.aload_n 0, 1, 0, 0, .null) := by decide +kernel
theorem fe_X12_readLeaf_164 : mj_f mi_X12_readLeaf 164 = some (.getfield 119, 3, 12, 35, .int 0) := by decide +kernel
theorem fe_X12_readLeaf_167 : mj_f mi_X12_readLeaf 167 = some (.ifCond .ne 72, 3, 239, 0, .null) := by decide +kernel
theorem fe_X12_readLeaf_170 : mj_f mi_X12_readLeaf 170 = some (.aload_n 0, 1, 0, 0, .null) := by decide +kernel
theorem fe_X12_readLeaf_171 : mj_f mi_X12_readLeaf 171 = some (.getfield 116, 3, 12, 34, .int 0) := by decide +kernel
theorem fe_X12_readLeaf_174 : mj_f mi_X12_readLeaf 174 = some (.istore 9, 2, 9, 0, .null) := by decide +kernel
theorem fe_X12_readLeaf_176 : mj_f mi_X12_readLeaf 176 = some (.aload_n 0, 1, 0, 0, .null) := by decide +kernel
theorem fe_X12_readLeaf_177 : mj_f mi_X12_readLeaf 177 = some (.invokevirtual 327, 3, 246, 0, .null) := by decide +kernel
theorem fe_X12_readLeaf_180 : mj_f mi_X12_readLeaf 180 = some (.istore 10, 2, 10, 0, .null) := by decide +kernel
theorem fe_X12_readLeaf_182 : mj_f mi_X12_readLeaf 182 = some (.iload 10, 2, 10, 0, .null) := by decide +kernel
theorem fe_X12_readLeaf_184 : mj_f mi_X12_readLeaf 184 = some (.iload_n 2, 1, 2, 0, .null) := by decide +kernel
theorem fe_X12_readLeaf_185 : mj_f mi_X12_readLeaf 185 = some (.if_icmp .ge 10, 3, 195, 0, .null) := by decide +kernel
theorem fe_X12_readLeaf_188 : mj_f mi_X12_readLeaf 188 = some (.iload 10, 2, 10, 0, .null) := by decide +kernel
theorem fe_X12_readLeaf_190 : mj_f mi_X12_readLeaf 190 = some (.iload 7, 2, 7, 0, .null) := by decide +kernel
theorem fe_X12_readLeaf_192 : mj_f mi_X12_readLeaf 192 = some (.if_icmp .gt 10, 3, 202, 0, .null) := by decide +kernel
theorem fe_X12_readLeaf_195 : mj_f mi_X12_readLeaf 195 = some (.aload_n 0, 1, 0, 0, .null) := by decide +kernel
theorem fe_X12_readLeaf_196 : mj_f mi_X12_readLeaf 196 = some (.iconst 2, 1, 0, 0, .int (2)) := by decide +kernel
theorem fe_X12_readLeaf_197 : mj_f mi_X12_readLeaf 197 = some (.iload 9, 2, 9, 0, .null) := by decide +kernel
theorem fe_X12_readLeaf_199 : mj_f mi_X12_readLeaf 199 = some (.invokevirtual 324, 3, 245, 2, .null) := by decide +kernel
theorem fe_X12_readLeaf_202 : mj_f mi_X12_readLeaf 202 = some (.aload_n 0, 1, 0, 0, .null) := by decide +kernel
theorem fe_X12_readLeaf_203 : mj_f mi_X12_readLeaf 203 = some (.getfield 119, 3, 12, 35, .int 0) := by decide +kernel
theorem fe_X12_readLeaf_206 : mj_f mi_X12_readLeaf 206 = some (.ifCond .le 4, 3, 210, 0, .null) := by decide +kernel
theorem fe_X12_readLeaf_209 : mj_f mi_X12_readLeaf 209 = some (.return_, 1, 0, 0, .null) := by decide +kernel
theorem fe_X12_readLeaf_210 : mj_f mi_X12_readLeaf 210 = some (.iload 10, 2, 10, 0, .null) := by decide +kernel
theorem fe_X12_readLeaf_212 : mj_f mi_X12_readLeaf 212 = some (.istore 7, 2, 7, 0, .null) := by decide +kernel
theorem fe_X12_readLeaf_214 : mj_f mi_X12_readLeaf 214 = some (.aload_n 0, 1, 0, 0, .null) := by decide +kernel
theorem fe_X12_readLeaf_215 : mj_f mi_X12_readLeaf 215 = some (.getfield 155, 3, 12, 47, .null) := by decide +kernel
theorem fe_X12_readLeaf_218 : mj_f mi_X12_readLeaf 218 = some (.iload 10, 2, 10, 0, .null) := by decide +kernel
theorem fe_X12_readLeaf_220 : mj_f mi_X12_readLeaf 220 = some (.iconst 1, 1, 0, 0, .int (1)) := by decide +kernel
theorem fe_X12_readLeaf_221 : mj_f mi_X12_readLeaf 221 = some (.bastore, 1, 0, 0, .null) := by decide +kernel
theorem fe_X12_readLeaf_222 : mj_f mi_X12_readLeaf 222 = some (.aload_n 0, 1, 0, 0, .null) := by decide +kernel
theorem fe_X12_readLeaf_223 : mj_f mi_X12_readLeaf 223 = some (.getfield 152, 3, 12, 46, .null) := by decide +kernel
theorem fe_X12_readLeaf_226 : mj_f mi_X12_readLeaf 226 = some (.iload 10, 2, 10, 0, .null) := by decide +kernel
theorem fe_X12_readLeaf_228 : mj_f mi_X12_readLeaf 228 = some (.aload_n 0, 1, 0, 0, .null) := by decide +kernel
theorem fe_X12_readLeaf_229 : mj_f mi_X12_readLeaf 229 = some (.invokevirtual 335, 3, 248, 0, .null) := by decide +kernel
theorem fe_X12_readLeaf_232 : mj_f mi_X12_readLeaf 232 = some (.lastore, 1, 0, 0, .null) := by decide +kernel
theorem fe_X12_readLeaf_233 : mj_f mi_X12_readLeaf 233 = some (.iinc 8 1, 3, 8, 0, .int (1)) := by decide +kernel
theorem fe_X12_readLeaf_236 : mj_f mi_X12_readLeaf 236 = some (.goto (-80), 3, 156, 0, .null) := by decide +kernel
theorem fe_X12_readLeaf_239 : mj_f mi_X12_readLeaf 239 = some (.aload_n 0, 1, 0, 0, .null) := by decide +kernel
theorem fe_X12_readLeaf_240 : mj_f mi_X12_readLeaf 240 = some (.iload_n 2, 1, 2, 0, .null) := by decide +kernel
theorem fe_X12_readLeaf_241 : mj_f mi_X12_readLeaf 241 = some (.iload 5, 2, 5, 0, .null) := by decide +kernel
theorem fe_X12_readLeaf_243 : mj_f mi_X12_readLeaf 243 = some (.invokevirtual 341, 3, 249, 2, .null) := by decide +kernel
theorem fe_X12_readLeaf_246 : mj_f mi_X12_readLeaf 246 = some (.iconst 0, 1, 0, 0, .int (0)) := by decide +kernel
theorem fe_X12_readLeaf_247 : mj_f mi_X12_readLeaf 247 = some (.istore 8, 2, 8, 0, .null) := by decide +kernel
theorem fe_X12_readLeaf_249 : mj_f mi_X12_readLeaf 249 = some (.iload 8, 2, 8, 0, .null) := by decide +kernel
theorem fe_X12_readLeaf_251 : mj_f mi_X12_readLeaf 251 = some (.iload_n 2, 1, 2, 0, .null) := by decide +kernel
theorem fe_X12_readLeaf_252 : mj_f mi_X12_readLeaf 252 = some (.if_icmp .ge 52, 3, 304, 0, .null) := by decide +kernel
theorem fe_X12_readLeaf_255 : mj_f mi_X12_readLeaf 255 = some (.aload_n 0, 1, 0, 0, .null) := by decide +kernel
theorem fe_X12_readLeaf_256 : mj_f mi_X12_readLeaf 256 = some (.getfield 119, 3, 12, 35, .int 0) := by decide +kernel
theorem fe_X12_readLeaf_259 : mj_f mi_X12_readLeaf 259 = some (.ifCond .ne 45, 3, 304, 0, .null) := by decide +kernel
theorem fe_X12_readLeaf_262 : mj_f mi_X12_readLeaf 262 = some (.aload_n 0, 1, 0, 0, .null) := by decide +kernel
theorem fe_X12_readLeaf_263 : mj_f mi_X12_readLeaf 263 = some (.getfield 149, 3, 12, 45, .null) := by decide +kernel
theorem fe_X12_readLeaf_266 : mj_f mi_X12_readLeaf 266 = some (.iload 8, 2, 8, 0, .null) := by decide +kernel
theorem fe_X12_readLeaf_268 : mj_f mi_X12_readLeaf 268 = some (.aload_n 0, 1, 0, 0, .null) := by decide +kernel
theorem fe_X12_readLeaf_269 : mj_f mi_X12_readLeaf 269 = some (.getfield 155, 3, 12, 47, .null) := by decide +kernel
theorem fe_X12_readLeaf_272 : mj_f mi_X12_readLeaf 272 = some (.iload 8, 2, 8, 0, .null) := by decide +kernel
theorem fe_X12_readLeaf_274 : mj_f mi_X12_readLeaf 274 = some (.baload, 1, 0, 0, .null) := by decide +kernel
theorem fe_X12_readLeaf_275 : mj_f mi_X12_readLeaf 275 = some (.ifCond .eq 13, 3, 288, 0, .null) := by decide +kernel
theorem fe_X12_readLeaf_278 : mj_f mi_X12_readLeaf 278 = some (.aload_n 0, 1, 0, 0, .null) := by decide +kernel
theorem fe_X12_readLeaf_279 : mj_f mi_X12_readLeaf 279 = some (.getfield 152, 3, 12, 46, .null) := by decide +kernel
theorem fe_X12_readLeaf_282 : mj_f mi_X12_readLeaf 282 = some (.iload 8, 2, 8, 0, .null) := by decide +kernel
theorem fe_X12_readLeaf_284 : mj_f mi_X12_readLeaf 284 = some (.laload, 1, 0, 0, .null) := by decide +kernel
theorem fe_X12_readLeaf_285 : mj_f mi_X12_readLeaf 285 = some (.goto 12, 3, 297, 0, .null) := by decide +kernel
theorem fe_X12_readLeaf_288 : mj_f mi_X12_readLeaf 288 = some (.lload_n 3, 1, 3, 0, .null) := by decide +kernel
theorem fe_X12_readLeaf_289 : mj_f mi_X12_readLeaf 289 = some (.aload_n 0, 1, 0, 0, .null) := by decide +kernel
theorem fe_X12_readLeaf_290 : mj_f mi_X12_readLeaf 290 = some (.getfield 146, 3, 12, 44, .null) := by decide +kernel
theorem fe_X12_readLeaf_293 : mj_f mi_X12_readLeaf 293 = some (.iload 8, 2, 8, 0, .null) := by decide +kernel
theorem fe_X12_readLeaf_295 : mj_f mi_X12_readLeaf 295 = some (.laload, 1, 0, 0, .null) := by decide +kernel
theorem fe_X12_readLeaf_296 : mj_f mi_X12_readLeaf 296 = some (.ladd, 1, 0, 0, .null) := by decide +kernel
theorem fe_X12_readLeaf_297 : mj_f mi_X12_readLeaf 297 = some (.lastore, 1, 0, 0, .null) := by decide +kernel
theorem fe_X12_readLeaf_298 : mj_f mi_X12_readLeaf 298 = some (.iinc 8 1, 3, 8, 0, .int (1)) := by decide +kernel
theorem fe_X12_readLeaf_301 : mj_f mi_X12_readLeaf 301 = some (.goto (-52), 3, 249, 0, .null) := by decide +kernel
theorem fe_X12_readLeaf_304 : mj_f mi_X12_readLeaf 304 = some (.return_, 1, 0, 0, .null) := by decide +kernel
def ct_X12_readBehind : MJT := [
  (0, 0, .aload_n 0, 1, 0, 0, .null),
  (1, 1254, .getfield 140, 3, 12, 42, .null),
  (4, 0, .iload_n 2, 1, 2, 0, .null),
  (5, 0, .iaload, 1, 0, 0, .null),
  (6, 0, .istore_n 3, 1, 3, 0, .null),
  (7, 0, .aload_n 0, 1, 0, 0, .null),
  (8, 1254, .getfield 140, 3, 12, 42, .null),
  (11, 0, .iload_n 2, 1, 2, 0, .null),
  (12, 0, .iconst 1, 1, 0, 0, .int (1)),
  (13, 0, .iadd, 1, 0, 0, .null),
  (14, 0, .iaload, 1, 0, 0, .null),
  (15, 0, .istore 4, 2, 4, 0, .null),
  (17, 0, .iload_n 1, 1, 1, 0, .null),
  (18, 0, .iconst 3, 1, 0, 0, .int (3)),
  (19, 0, .if_icmp .ne 40, 3, 59, 0, .null),
  (22, 0, .iconst 1, 1, 0, 0, .int (1)),
  (23, 0, .istore 5, 2, 5, 0, .null),
  (25, 0, .iload 5, 2, 5, 0, .null),
  (27, 0, .iload_n 3, 1, 3, 0, .null),
  (28, 0, .if_icmp .ge 28, 3, 56, 0, .null),
  (31, 0, .aload_n 0, 1, 0, 0, .null),
  (32, 1257, .getfield 149, 3, 12, 45, .null),
  (35, 0, .iload 5, 2, 5, 0, .null),
  (37, 0, .dup2, 1, 0, 0, .null),
  (38, 0, .laload, 1, 0, 0, .null),
  (39, 0, .aload_n 0, 1, 0, 0, .null),
  (40, 1257, .getfield 149, 3, 12, 45, .null),
  (43, 0, .iload 5, 2, 5, 0, .null),
  (45, 0, .iconst 1, 1, 0, 0, .int (1)),
  (46, 0, .isub, 1, 0, 0, .null),
  (47, 0, .laload, 1, 0, 0, .null),
  (48, 0, .ladd, 1, 0, 0, .null),
  (49, 0, .lastore, 1, 0, 0, .null),
  (50, 0, .iinc 5 1, 3, 5, 0, .int (1)),
  (53, 0, .goto (-28), 3, 25, 0, .null),
  (56, 0, .goto 375, 3, 431, 0, .null),
  (59, 0, .iload_n 1, 1, 1, 0, .null),
  (60, 0, .bipush 6, 2, 0, 0, .int (6)),
  (62, 0, .if_icmp .ne 37, 3, 99, 0, .null),
  (65, 0, .iconst 0, 1, 0, 0, .int (0)),
  (66, 0, .istore 5, 2, 5, 0, .null),
  (68, 0, .iload 5, 2, 5, 0, .null),
  (70, 0, .iload_n 3, 1, 3, 0, .null),
  (71, 0, .if_icmp .ge 25, 3, 96, 0, .null),
  (74, 0, .aload_n 0, 1, 0, 0, .null),
  (75, 1257, .getfield 149, 3, 12, 45, .null),
  (78, 0, .iload 5, 2, 5, 0, .null),
  (80, 0, .dup2, 1, 0, 0, .null),
  (81, 0, .laload, 1, 0, 0, .null),
  (82, 0, .aload_n 0, 1, 0, 0, .null),
  (83, 1255, .getfield 143, 3, 12, 43, .null),
  (86, 0, .iload_n 2, 1, 2, 0, .null),
  (87, 0, .laload, 1, 0, 0, .null),
  (88, 0, .lmul, 1, 0, 0, .null),
  (89, 0, .lastore, 1, 0, 0, .null),
  (90, 0, .iinc 5 1, 3, 5, 0, .int (1)),
  (93, 0, .goto (-25), 3, 68, 0, .null),
  (96, 0, .goto 335, 3, 431, 0, .null),
  (99, 0, .iload_n 1, 1, 1, 0, .null),
  (100, 0, .iconst 4, 1, 0, 0, .int (4)),
  (101, 0, .if_icmp .ne 216, 3, 317, 0, .null),
  (104, 0, .aload_n 0, 1, 0, 0, .null),
  (105, 1246, .getfield 116, 3, 12, 34, .int 0),
  (108, 0, .istore 5, 2, 5, 0, .null),
  (110, 0, .aload_n 0, 1, 0, 0, .null),
  (111, 1574, .invokevirtual 327, 3, 246, 0, .null),
  (114, 0, .iconst 1, 1, 0, 0, .int (1)),
  (115, 0, .if_icmp .eq 10, 3, 125, 0, .null),
  (118, 0, .aload_n 0, 1, 0, 0, .null),
  (119, 0, .iconst 3, 1, 0, 0, .int (3)),
  (120, 0, .iload 5, 2, 5, 0, .null),
  (122, 1578, .invokevirtual 324, 3, 245, 2, .null),
  (125, 0, .aload_n 0, 1, 0, 0, .null),
  (126, 1598, .invokevirtual 335, 3, 248, 0, .null),
  (129, 0, .lstore 6, 2, 6, 0, .null),
  (131, 0, .aload_n 0, 1, 0, 0, .null),
  (132, 1602, .invokevirtual 338, 3, 250, 0, .null),
  (135, 0, .istore 8, 2, 8, 0, .null),
  (137, 0, .aload_n 0, 1, 0, 0, .null),
  (138, 0, .iload 4, 2, 4, 0, .null),
  (140, 0, .iload 8, 2, 8, 0, .null),
  (142, 1582, .invokevirtual 341, 3, 249, 2, .null),
  (145, 0, .iconst 0, 1, 0, 0, .int (0)),
  (146, 0, .istore 9, 2, 9, 0, .null),
  (148, 0, .aload_n 0, 1, 0, 0, .null),
  (149, 1247, .getfield 119, 3, 12, 35, .int 0),
  (152, 0, .ifCond .ne 7, 3, 159, 0, .null),
  (155, 0, .iconst 1, 1, 0, 0, .int (1)),
  (156, 0, .goto 4, 3, 160, 0, .null),
  (159, 0, .iconst 0, 1, 0, 0, .int (0)),
  (160, 0, .istore 10, 2, 10, 0, .null),
  (162, 0, .iconst 0, 1, 0, 0, .int (0)),
  (163, 0, .istore 11, 2, 11, 0, .null),
  (165, 0, .iload 11, 2, 11, 0, .null),
  (167, 0, .iload 4, 2, 4, 0, .null),
  (169, 0, .if_icmp .ge 91, 3, 260, 0, .null),
  (172, 0, .iload 10, 2, 10, 0, .null),
  (174, 0, .ifCond .eq 86, 3, 260, 0, .null),
  (177, 0, .lload 6, 2, 6, 0, .null),
  (179, 0, .aload_n 0, 1, 0, 0, .null),
  (180, 1256, .getfield 146, 3, 12, 44, .null),
  (183, 0, .iload 11, 2, 11, 0, .null),
  (185, 0, .laload, 1, 0, 0, .null),
  (186, 0, .ladd, 1, 0, 0, .null),
  (187, 0, .lstore 12, 2, 12, 0, .null),
  (189, 0, .lload 12, 2, 12, 0, .null),
  (191, 0, .lconst 1, 1, 0, 0, .long 1),
  (192, 0, .lcmp, 1, 0, 0, .null),
  (193, 0, .ifCond .lt 18, 3, 211, 0, .null),
  (196, 0, .lload 12, 2, 12, 0, .null),
  (198, 0, .iload_n 3, 1, 3, 0, .null),
  (199, 0, .iload 9, 2, 9, 0, .null),
  (201, 0, .isub, 1, 0, 0, .null),
  (202, 0, .i2l, 1, 0, 0, .null),
  (203, 0, .lcmp, 1, 0, 0, .null),
  (204, 0, .ifCond .gt 7, 3, 211, 0, .null),
  (207, 0, .iconst 1, 1, 0, 0, .int (1)),
  (208, 0, .goto 4, 3, 212, 0, .null),
  (211, 0, .iconst 0, 1, 0, 0, .int (0)),
  (212, 0, .istore 10, 2, 10, 0, .null),
  (214, 0, .iconst 0, 1, 0, 0, .int (0)),
  (215, 0, .istore 14, 2, 14, 0, .null),
  (217, 0, .iload 10, 2, 10, 0, .null),
  (219, 0, .ifCond .eq 35, 3, 254, 0, .null),
  (222, 0, .iload 14, 2, 14, 0, .null),
  (224, 0, .i2l, 1, 0, 0, .null),
  (225, 0, .lload 12, 2, 12, 0, .null),
  (227, 0, .lcmp, 1, 0, 0, .null),
  (228, 0, .ifCond .ge 26, 3, 254, 0, .null),
  (231, 0, .aload_n 0, 1, 0, 0, .null),
  (232, 1258, .getfield 152, 3, 12, 46, .null),
  (235, 0, .iload 9, 2, 9, 0, .null),
  (237, 0, .aload_n 0, 1, 0, 0, .null),
  (238, 1257, .getfield 149, 3, 12, 45, .null),
  (241, 0, .iload 11, 2, 11, 0, .null),
  (243, 0, .laload, 1, 0, 0, .null),
  (244, 0, .lastore, 1, 0, 0, .null),
  (245, 0, .iinc 9 1, 3, 9, 0, .int (1)),
  (248, 0, .iinc 14 1, 3, 14, 0, .int (1)),
  (251, 0, .goto (-34), 3, 217, 0, .null),
  (254, 0, .iinc 11 1, 3, 11, 0, .int (1)),
  (257, 0, .goto (-92), 3, 165, 0, .null),
  (260, 0, .aload_n 0, 1, 0, 0, .null),
  (261, 1247, .getfield 119, 3, 12, 35, .int 0),
  (264, 0, .ifCond .ne 21, 3, 285, 0, .null),
  (267, 0, .iload 10, 2, 10, 0, .null),
  (269, 0, .ifCond .eq 9, 3, 278, 0, .null),
  (272, 0, .iload 9, 2, 9, 0, .null),
  (274, 0, .iload_n 3, 1, 3, 0, .null),
  (275, 0, .if_icmp .eq 10, 3, 285, 0, .null),
  (278, 0, .aload_n 0, 1, 0, 0, .null),
  (279, 0, .iconst 2, 1, 0, 0, .int (2)),
  (280, 0, .iload 5, 2, 5, 0, .null),
  (282, 1578, .invokevirtual 324, 3, 245, 2, .null),
  (285, 0, .iconst 0, 1, 0, 0, .int (0)),
  (286, 0, .istore 11, 2, 11, 0, .null),
  (288, 0, .iload 11, 2, 11, 0, .null),
  (290, 0, .iload_n 3, 1, 3, 0, .null),
  (291, 0, .if_icmp .ge 23, 3, 314, 0, .null),
  (294, 0, .aload_n 0, 1, 0, 0, .null),
  (295, 1257, .getfield 149, 3, 12, 45, .null),
  (298, 0, .iload 11, 2, 11, 0, .null),
  (300, 0, .aload_n 0, 1, 0, 0, .null),
  (301, 1258, .getfield 152, 3, 12, 46, .null),
  (304, 0, .iload 11, 2, 11, 0, .null),
  (306, 0, .laload, 1, 0, 0, .null),
  (307, 0, .lastore, 1, 0, 0, .null),
  (308, 0, .iinc 11 1, 3, 11, 0, .int (1)),
  (311, 0, .goto (-23), 3, 288, 0, .null),
  (314, 0, .goto 117, 3, 431, 0, .null),
  (317, 0, .aload_n 0, 1, 0, 0, .null),
  (318, 1246, .getfield 116, 3, 12, 34, .int 0),
  (321, 0, .istore 5, 2, 5, 0, .null),
  (323, 0, .aload_n 0, 1, 0, 0, .null),
  (324, 0, .iload_n 3, 1, 3, 0, .null),
  (325, 0, .iload 4, 2, 4, 0, .null),
  (327, 0, .iconst 1, 1, 0, 0, .int (1)),
  (328, 0, .isub, 1, 0, 0, .null),
  (329, 0, .i2l, 1, 0, 0, .null),
  (330, 1447, .invokestatic 192, 3, 187, 1, .null),
  (333, 1582, .invokevirtual 341, 3, 249, 2, .null),
  (336, 0, .iconst 0, 1, 0, 0, .int (0)),
  (337, 0, .istore 6, 2, 6, 0, .null),
  (339, 0, .iload 6, 2, 6, 0, .null),
  (341, 0, .iload_n 3, 1, 3, 0, .null),
  (342, 0, .if_icmp .ge 60, 3, 402, 0, .null),
  (345, 0, .aload_n 0, 1, 0, 0, .null),
  (346, 1247, .getfield 119, 3, 12, 35, .int 0),
  (349, 0, .ifCond .ne 53, 3, 402, 0, .null),
  (352, 0, .aload_n 0, 1, 0, 0, .null),
  (353, 1256, .getfield 146, 3, 12, 44, .null),
  (356, 0, .iload 6, 2, 6, 0, .null),
  (358, 0, .laload, 1, 0, 0, .null),
  (359, 0, .iload 4, 2, 4, 0, .null),
  (361, 0, .i2l, 1, 0, 0, .null),
  (362, 0, .lcmp, 1, 0, 0, .null),
  (363, 0, .ifCond .lt 13, 3, 376, 0, .null),
  (366, 0, .aload_n 0, 1, 0, 0, .null),
  (367, 0, .iconst 2, 1, 0, 0, .int (2)),
  (368, 0, .iload 5, 2, 5, 0, .null),
  (370, 1578, .invokevirtual 324, 3, 245, 2, .null),
  (373, 0, .goto 23, 3, 396, 0, .null),
  (376, 0, .aload_n 0, 1, 0, 0, .null),
  (377, 1258, .getfield 152, 3, 12, 46, .null),
  (380, 0, .iload 6, 2, 6, 0, .null),
  (382, 0, .aload_n 0, 1, 0, 0, .null),
  (383, 1257, .getfield 149, 3, 12, 45, .null),
  (386, 0, .aload_n 0, 1, 0, 0, .null),
  (387, 1256, .getfield 146, 3, 12, 44, .null),
  (390, 0, .iload 6, 2, 6, 0, .null),
  (392, 0, .laload, 1, 0, 0, .null),
  (393, 0, .l2i, 1, 0, 0, .null),
  (394, 0, .laload, 1, 0, 0, .null),
  (395, 0, .lastore, 1, 0, 0, .null),
  (396, 0, .iinc 6 1, 3, 6, 0, .int (1)),
  (399, 0, .goto (-60), 3, 339, 0, .null),
  (402, 0, .iconst 0, 1, 0, 0, .int (0)),
  (403, 0, .istore 6, 2, 6, 0, .null),
  (405, 0, .iload 6, 2, 6, 0, .null),
  (407, 0, .iload_n 3, 1, 3, 0, .null),
  (408, 0, .if_icmp .ge 23, 3, 431, 0, .null),
  (411, 0, .aload_n 0, 1, 0, 0, .null),
  (412, 1257, .getfield 149, 3, 12, 45, .null),
  (415, 0, .iload 6, 2, 6, 0, .null),
  (417, 0, .aload_n 0, 1, 0, 0, .null),
  (418, 1258, .getfield 152, 3, 12, 46, .null),
  (421, 0, .iload 6, 2, 6, 0, .null),
  (423, 0, .laload, 1, 0, 0, .null),
  (424, 0, .lastore, 1, 0, 0, .null),
  (425, 0, .iinc 6 1, 3, 6, 0, .int (1)),
  (428, 0, .goto (-23), 3, 405, 0, .null),
  (431, 0, .return_, 1, 0, 0, .null)]
abbrev id_X12_readBehind : Nat := 252
def mi_X12_readBehind : MI := (yX12_readBehind, cX12_readBehind, 15, none, 12, ct_X12_readBehind)
theorem fe_X12_readBehind_0 : mj_f mi_X12_readBehind 0 = some (.aload_n 0, 1, 0, 0, .null) := by decide +kernel
theorem fe_X12_readBehind_1 : mj_f mi_X12_readBehind 1 = some (.getfield 140, 3, 12, 42, .null) := by decide +kernel
theorem fe_X12_readBehind_4 : mj_f mi_X12_readBehind 4 = some (.iload_n 2, 1, 2, 0, .null) := by decide +kernel
theorem fe_X12_readBehind_5 : mj_f mi_X12_readBehind 5 = some (.iaload, 1, 0, 0, .null) := by decide +kernel
theorem fe_X12_readBehind_6 : mj_f mi_X12_readBehind 6 = some (.istore_n 3, 1, 3, 0, .null) := by decide +kernel
theorem fe_X12_readBehind_7 : mj_f mi_X12_readBehind 7 = some (.aload_n 0, 1, 0, 0, .null) := by decide +kernel
theorem fe_X12_readBehind_8 : mj_f mi_X12_readBehind 8 = some (.getfield 140, 3, 12, 42, .null) := by decide +kernel
theorem fe_X12_readBehind_11 : mj_f mi_X12_readBehind 11 = some (.iload_n 2, 1, 2, 0, .null) := by decide +kernel
theorem fe_X12_readBehind_12 : mj_f mi_X12_readBehind 12 = some (.iconst 1, 1, 0, 0, .int (1)) := by decide +kernel
theorem fe_X12_readBehind_13 : mj_f mi_X12_readBehind 13 = some (.iadd, 1, 0, 0, .null) := by decide +kernel
theorem fe_X12_readBehind_14 : mj_f mi_X12_readBehind 14 = some (.iaload, 1, 0, 0, .null) := by decide +kernel
theorem fe_X12_readBehind_15 : mj_f mi_X12_readBehind 15 = some (.istore 4, 2, 4, 0, .null) := by decide +kernel
theorem fe_X12_readBehind_17 : mj_f mi_X12_readBehind 17 = some (.iload_n 1, 1, 1, 0, .null) := by decide +kernel
theorem fe_X12_readBehind_18 : mj_f mi_X12_readBehind 18 = some (.iconst 3, 1, 0, 0, .int (3)) := by decide +kernel
theorem fe_X12_readBehind_19 : mj_f mi_X12_readBehind 19 = some (.if_icmp .ne 40, 3, 59, 0, .null) := by decide +kernel
theorem fe_X12_readBehind_22 : mj_f mi_X12_readBehind 22 = some (.iconst 1, 1, 0, 0, .int (1)) := by decide +kernel
theorem fe_X12_readBehind_23 : mj_f mi_X12_readBehind 23 = some (.istore 5, 2, 5, 0, .null) := by decide +kernel
theorem fe_X12_readBehind_25 : mj_f mi_X12_readBehind 25 = some (.iload 5, 2, 5, 0, .null) := by decide +kernel
theorem fe_X12_readBehind_27 : mj_f mi_X12_readBehind 27 = some (.iload_n 3, 1, 3, 0, .null) := by decide +kernel
theorem fe_X12_readBehind_28 : mj_f mi_X12_readBehind 28 = some (.if_icmp .ge 28, 3, 56, 0, .null) := by decide +kernel
theorem fe_X12_readBehind_31 : mj_f mi_X12_readBehind 31 = some (.aload_n 0, 1, 0, 0, .null) := by decide +kernel
theorem fe_X12_readBehind_32 : mj_f mi_X12_readBehind 32 = some (.getfield 149, 3, 12, 45, .null) := by decide +kernel
theorem fe_X12_readBehind_35 : mj_f mi_X12_readBehind 35 = some (.iload 5, 2, 5, 0, .null) := by decide +kernel
theorem fe_X12_readBehind_37 : mj_f mi_X12_readBehind 37 = some (.dup2, 1, 0, 0, .null) := by decide +kernel
theorem fe_X12_readBehind_38 : mj_f mi_X12_readBehind 38 = some (.laload, 1, 0, 0, .null) := by decide +kernel
theorem fe_X12_readBehind_39 : mj_f mi_X12_readBehind 39 = some (.aload_n 0, 1, 0, 0, .null) := by decide +kernel
theorem fe_X12_readBehind_40 : mj_f mi_X12_readBehind 40 = some (.getfield 149, 3, 12, 45, .null) := by decide +kernel
theorem fe_X12_readBehind_43 : mj_f mi_X12_readBehind 43 = some (.iload 5, 2, 5, 0, .null) := by decide +kernel
theorem fe_X12_readBehind_45 : mj_f mi_X12_readBehind 45 = some (.iconst 1, 1, 0, 0, .int (1)) := by decide +kernel
theorem fe_X12_readBehind_46 : mj_f mi_X12_readBehind 46 = some (.isub, 1, 0, 0, .null) := by decide +kernel
theorem fe_X12_readBehind_47 : mj_f mi_X12_readBehind 47 = some (.laload, 1, 0, 0, .null) := by decide +kernel
theorem fe_X12_readBehind_48 : mj_f mi_X12_readBehind 48 = some (.ladd, 1, 0, 0, .null) := by decide +kernel
theorem fe_X12_readBehind_49 : mj_f mi_X12_readBehind 49 = some (.lastore, 1, 0, 0, .null) := by decide +kernel
theorem fe_X12_readBehind_50 : mj_f mi_X12_readBehind 50 = some (.iinc 5 1, 3, 5, 0, .int (1)) := by decide +kernel
theorem fe_X12_readBehind_53 : mj_f mi_X12_readBehind 53 = some (.goto (-28), 3, 25, 0, .null) := by decide +kernel
theorem fe_X12_readBehind_56 : mj_f mi_X12_readBehind 56 = some (.goto 375, 3, 431, 0, .null) := by decide +kernel
theorem fe_X12_readBehind_59 : mj_f mi_X12_readBehind 59 = some (.iload_n 1, 1, 1, 0, .null) := by decide +kernel
theorem fe_X12_readBehind_60 : mj_f mi_X12_readBehind 60 = some (.bipush 6, 2, 0, 0, .int (6)) := by decide +kernel
theorem fe_X12_readBehind_62 : mj_f mi_X12_readBehind 62 = some (.if_icmp .ne 37, 3, 99, 0, .null) := by decide +kernel
theorem fe_X12_readBehind_65 : mj_f mi_X12_readBehind 65 = some (.iconst 0, 1, 0, 0, .int (0)) := by decide +kernel
theorem fe_X12_readBehind_66 : mj_f mi_X12_readBehind 66 = some (.istore 5, 2, 5, 0, .null) := by decide +kernel
theorem fe_X12_readBehind_68 : mj_f mi_X12_readBehind 68 = some (.iload 5, 2, 5, 0, .null) := by decide +kernel
theorem fe_X12_readBehind_70 : mj_f mi_X12_readBehind 70 = some (.iload_n 3, 1, 3, 0, .null) := by decide +kernel
theorem fe_X12_readBehind_71 : mj_f mi_X12_readBehind 71 = some (.if_icmp .ge 25, 3, 96, 0, .null) := by decide +kernel
theorem fe_X12_readBehind_74 : mj_f mi_X12_readBehind 74 = some (.aload_n 0, 1, 0, 0, .null) := by decide +kernel
theorem fe_X12_readBehind_75 : mj_f mi_X12_readBehind 75 = some (.getfield 149, 3, 12, 45, .null) := by decide +kernel
theorem fe_X12_readBehind_78 : mj_f mi_X12_readBehind 78 = some (.iload 5, 2, 5, 0, .null) := by decide +kernel
theorem fe_X12_readBehind_80 : mj_f mi_X12_readBehind 80 = some (.dup2, 1, 0, 0, .null) := by decide +kernel
theorem fe_X12_readBehind_81 : mj_f mi_X12_readBehind 81 = some (.laload, 1, 0, 0, .null) := by decide +kernel
theorem fe_X12_readBehind_82 : mj_f mi_X12_readBehind 82 = some (.aload_n 0, 1, 0, 0, .null) := by decide +kernel
theorem fe_X12_readBehind_83 : mj_f mi_X12_readBehind 83 = some (.getfield 143, 3, 12, 43, .null) := by decide +kernel
theorem fe_X12_readBehind_86 : mj_f mi_X12_readBehind 86 = some (.iload_n 2, 1, 2, 0, .null) := by decide +kernel
theorem fe_X12_readBehind_87 : mj_f mi_X12_readBehind 87 = some (.laload, 1, 0, 0, .null) := by decide +kernel
theorem fe_X12_readBehind_88 : mj_f mi_X12_readBehind 88 = some (.lmul, 1, 0, 0, .null) := by decide +kernel
theorem fe_X12_readBehind_89 : mj_f mi_X12_readBehind 89 = some (.lastore, 1, 0, 0, .null) := by decide +kernel
theorem fe_X12_readBehind_90 : mj_f mi_X12_readBehind 90 = some (.iinc 5 1, 3, 5, 0, .int (1)) := by decide +kernel
theorem fe_X12_readBehind_93 : mj_f mi_X12_readBehind 93 = some (.goto (-25), 3, 68, 0, .null) := by decide +kernel
theorem fe_X12_readBehind_96 : mj_f mi_X12_readBehind 96 = some (.goto 335, 3, 431, 0, .null) := by decide +kernel
theorem fe_X12_readBehind_99 : mj_f mi_X12_readBehind 99 = some (.iload_n 1, 1, 1, 0, .null) := by decide +kernel
theorem fe_X12_readBehind_100 : mj_f mi_X12_readBehind 100 = some (.iconst 4, 1, 0, 0, .int (4)) := by decide +kernel
theorem fe_X12_readBehind_101 : mj_f mi_X12_readBehind 101 = some (.if_icmp .ne 216, 3, 317, 0, .null) := by decide +kernel
theorem fe_X12_readBehind_104 : mj_f mi_X12_readBehind 104 = some (.aload_n 0, 1, 0, 0, .null) := by decide +kernel
theorem fe_X12_readBehind_105 : mj_f mi_X12_readBehind 105 = some (.getfield 116, 3, 12, 34, .int 0) := by decide +kernel
theorem fe_X12_readBehind_108 : mj_f mi_X12_readBehind 108 = some (.istore 5, 2, 5, 0, .null) := by decide +kernel
theorem fe_X12_readBehind_110 : mj_f mi_X12_readBehind 110 = some (.aload_n 0, 1, 0, 0, .null) := by decide +kernel
theorem fe_X12_readBehind_111 : mj_f mi_X12_readBehind 111 = some (.invokevirtual 327, 3, 246, 0, .null) := by decide +kernel
theorem fe_X12_readBehind_114 : mj_f mi_X12_readBehind 114 = some (.iconst 1, 1, 0, 0, .int (1)) := by decide +kernel
theorem fe_X12_readBehind_115 : mj_f mi_X12_readBehind 115 = some (.if_icmp .eq 10, 3, 125, 0, .null) := by decide +kernel
theorem fe_X12_readBehind_118 : mj_f mi_X12_readBehind 118 = some (.aload_n 0, 1, 0, 0, .null) := by decide +kernel
theorem fe_X12_readBehind_119 : mj_f mi_X12_readBehind 119 = some (.iconst 3, 1, 0, 0, .int (3)) := by decide +kernel
theorem fe_X12_readBehind_120 : mj_f mi_X12_readBehind 120 = some (.iload 5, 2, 5, 0, .null) := by decide +kernel
theorem fe_X12_readBehind_122 : mj_f mi_X12_readBehind 122 = some (.invokevirtual 324, 3, 245, 2, .null) := by decide +kernel
theorem fe_X12_readBehind_125 : mj_f mi_X12_readBehind 125 = some (.aload_n 0, 1, 0, 0, .null) := by decide +kernel
theorem fe_X12_readBehind_126 : mj_f mi_X12_readBehind 126 = some (.invokevirtual 335, 3, 248, 0, .null) := by decide +kernel
theorem fe_X12_readBehind_129 : mj_f mi_X12_readBehind 129 = some (.lstore 6, 2, 6, 0, .null) := by decide +kernel
theorem fe_X12_readBehind_131 : mj_f mi_X12_readBehind 131 = some (.aload_n 0, 1, 0, 0, .null) := by decide +kernel
theorem fe_X12_readBehind_132 : mj_f mi_X12_readBehind 132 = some (.invokevirtual 338, 3, 250, 0, .null) := by decide +kernel
theorem fe_X12_readBehind_135 : mj_f mi_X12_readBehind 135 = some (.istore 8, 2, 8, 0, .null) := by decide +kernel
theorem fe_X12_readBehind_137 : mj_f mi_X12_readBehind 137 = some (.aload_n 0, 1, 0, 0, .null) := by decide +kernel
theorem fe_X12_readBehind_138 : mj_f mi_X12_readBehind 138 = some (.iload 4, 2, 4, 0, .null) := by decide +kernel
theorem fe_X12_readBehind_140 : mj_f mi_X12_readBehind 140 = some (.iload 8, 2, 8, 0, .null) := by decide +kernel
theorem fe_X12_readBehind_142 : mj_f mi_X12_readBehind 142 = some (.invokevirtual 341, 3, 249, 2, .null) := by decide +kernel
theorem fe_X12_readBehind_145 : mj_f mi_X12_readBehind 145 = some (.iconst 0, 1, 0, 0, .int (0)) := by decide +kernel
theorem fe_X12_readBehind_146 : mj_f mi_X12_readBehind 146 = some (.istore 9, 2, 9, 0, .null) := by decide +kernel
theorem fe_X12_readBehind_148 : mj_f mi_X12_readBehind 148 = some (.aload_n 0, 1, 0, 0, .null) := by decide +kernel
theorem fe_X12_readBehind_149 : mj_f mi_X12_readBehind 149 = some (.getfield 119, 3, 12, 35, .int 0) := by decide +kernel
theorem fe_X12_readBehind_152 : mj_f mi_X12_readBehind 152 = some (.ifCond .ne 7, 3, 159, 0, .null) := by decide +kernel
theorem fe_X12_readBehind_155 : mj_f mi_X12_readBehind 155 = some (.iconst 1, 1, 0, 0, .int (1)) := by decide +kernel
theorem fe_X12_readBehind_156 : mj_f mi_X12_readBehind 156 = some (.goto 4, 3, 160, 0, .null) := by decide +kernel
theorem fe_X12_readBehind_159 : mj_f mi_X12_readBehind 159 = some (.iconst 0, 1, 0, 0, .int (0)) := by decide +kernel
theorem fe_X12_readBehind_160 : mj_f mi_X12_readBehind 160 = some (.istore 10, 2, 10, 0, .null) := by decide +kernel
theorem fe_X12_readBehind_162 : mj_f mi_X12_readBehind 162 = some (.iconst 0, 1, 0, 0, .int (0)) := by decide +kernel
theorem fe_X12_readBehind_163 : mj_f mi_X12_readBehind 163 = some (.istore 11, 2, 11, 0, .null) := by decide +kernel
theorem fe_X12_readBehind_165 : mj_f mi_X12_readBehind 165 = some (.iload 11, 2, 11, 0, .null) := by decide +kernel
theorem fe_X12_readBehind_167 : mj_f mi_X12_readBehind 167 = some (.iload 4, 2, 4, 0, .null) := by decide +kernel
theorem fe_X12_readBehind_169 : mj_f mi_X12_readBehind 169 = some (.if_icmp .ge 91, 3, 260, 0, .null) := by decide +kernel
theorem fe_X12_readBehind_172 : mj_f mi_X12_readBehind 172 = some (.iload 10, 2, 10, 0, .null) := by decide +kernel
theorem fe_X12_readBehind_174 : mj_f mi_X12_readBehind 174 = some (.ifCond .eq 86, 3, 260, 0, .null) := by decide +kernel
theorem fe_X12_readBehind_177 : mj_f mi_X12_readBehind 177 = some (.lload 6, 2, 6, 0, .null) := by decide +kernel
theorem fe_X12_readBehind_179 : mj_f mi_X12_readBehind 179 = some (.aload_n 0, 1, 0, 0, .null) := by decide +kernel
theorem fe_X12_readBehind_180 : mj_f mi_X12_readBehind 180 = some (.getfield 146, 3, 12, 44, .null) := by decide +kernel
theorem fe_X12_readBehind_183 : mj_f mi_X12_readBehind 183 = some (.iload 11, 2, 11, 0, .null) := by decide +kernel
theorem fe_X12_readBehind_185 : mj_f mi_X12_readBehind 185 = some (.laload, 1, 0, 0, .null) := by decide +kernel
theorem fe_X12_readBehind_186 : mj_f mi_X12_readBehind 186 = some (.ladd, 1, 0, 0, .null) := by decide +kernel
theorem fe_X12_readBehind_187 : mj_f mi_X12_readBehind 187 = some (.lstore 12, 2, 12, 0, .null) := by decide +kernel
theorem fe_X12_readBehind_189 : mj_f mi_X12_readBehind 189 = some (.lload 12, 2, 12, 0, .null) := by decide +kernel
theorem fe_X12_readBehind_191 : mj_f mi_X12_readBehind 191 = some (.lconst 1, 1, 0, 0, .long 1) := by decide +kernel
theorem fe_X12_readBehind_192 : mj_f mi_X12_readBehind 192 = some (.lcmp, 1, 0, 0, .null) := by decide +kernel
theorem fe_X12_readBehind_193 : mj_f mi_X12_readBehind 193 = some (.ifCond .lt 18, 3, 211, 0, .null) := by decide +kernel
theorem fe_X12_readBehind_196 : mj_f mi_X12_readBehind 196 = some (.lload 12, 2, 12, 0, .null) := by decide +kernel
theorem fe_X12_readBehind_198 : mj_f mi_X12_readBehind 198 = some (.iload_n 3, 1, 3, 0, .null) := by decide +kernel
theorem fe_X12_readBehind_199 : mj_f mi_X12_readBehind 199 = some (.iload 9, 2, 9, 0, .null) := by decide +kernel
theorem fe_X12_readBehind_201 : mj_f mi_X12_readBehind 201 = some (.isub, 1, 0, 0, .null) := by decide +kernel
theorem fe_X12_readBehind_202 : mj_f mi_X12_readBehind 202 = some (.i2l, 1, 0, 0, .null) := by decide +kernel
theorem fe_X12_readBehind_203 : mj_f mi_X12_readBehind 203 = some (.lcmp, 1, 0, 0, .null) := by decide +kernel
theorem fe_X12_readBehind_204 : mj_f mi_X12_readBehind 204 = some (.ifCond .gt 7, 3, 211, 0, .null) := by decide +kernel
theorem fe_X12_readBehind_207 : mj_f mi_X12_readBehind 207 = some (.iconst 1, 1, 0, 0, .int (1)) := by decide +kernel
theorem fe_X12_readBehind_208 : mj_f mi_X12_readBehind 208 = some (.goto 4, 3, 212, 0, .null) := by decide +kernel
theorem fe_X12_readBehind_211 : mj_f mi_X12_readBehind 211 = some (.iconst 0, 1, 0, 0, .int (0)) := by decide +kernel
theorem fe_X12_readBehind_212 : mj_f mi_X12_readBehind 212 = some (.istore 10, 2, 10, 0, .null) := by decide +kernel
theorem fe_X12_readBehind_214 : mj_f mi_X12_readBehind 214 = some (.iconst 0, 1, 0, 0, .int (0)) := by decide +kernel
theorem fe_X12_readBehind_215 : mj_f mi_X12_readBehind 215 = some (.istore 14, 2, 14, 0, .null) := by decide +kernel
theorem fe_X12_readBehind_217 : mj_f mi_X12_readBehind 217 = some (.iload 10, 2, 10, 0, .null) := by decide +kernel
theorem fe_X12_readBehind_219 : mj_f mi_X12_readBehind 219 = some (.ifCond .eq 35, 3, 254, 0, .null) := by decide +kernel
theorem fe_X12_readBehind_222 : mj_f mi_X12_readBehind 222 = some (.iload 14, 2, 14, 0, .null) := by decide +kernel
theorem fe_X12_readBehind_224 : mj_f mi_X12_readBehind 224 = some (.i2l, 1, 0, 0, .null) := by decide +kernel
theorem fe_X12_readBehind_225 : mj_f mi_X12_readBehind 225 = some (.lload 12, 2, 12, 0, .null) := by decide +kernel
theorem fe_X12_readBehind_227 : mj_f mi_X12_readBehind 227 = some (.lcmp, 1, 0, 0, .null) := by decide +kernel
theorem fe_X12_readBehind_228 : mj_f mi_X12_readBehind 228 = some (.ifCond .ge 26, 3, 254, 0, .null) := by decide +kernel
theorem fe_X12_readBehind_231 : mj_f mi_X12_readBehind 231 = some (.aload_n 0, 1, 0, 0, .null) := by decide +kernel
theorem fe_X12_readBehind_232 : mj_f mi_X12_readBehind 232 = some (.getfield 152, 3, 12, 46, .null) := by decide +kernel
theorem fe_X12_readBehind_235 : mj_f mi_X12_readBehind 235 = some (.iload 9, 2, 9, 0, .null) := by decide +kernel
theorem fe_X12_readBehind_237 : mj_f mi_X12_readBehind 237 = some (.aload_n 0, 1, 0, 0, .null) := by decide +kernel
theorem fe_X12_readBehind_238 : mj_f mi_X12_readBehind 238 = some (.getfield 149, 3, 12, 45, .null) := by decide +kernel
theorem fe_X12_readBehind_241 : mj_f mi_X12_readBehind 241 = some (.iload 11, 2, 11, 0, .null) := by decide +kernel
theorem fe_X12_readBehind_243 : mj_f mi_X12_readBehind 243 = some (.laload, 1, 0, 0, .null) := by decide +kernel
theorem fe_X12_readBehind_244 : mj_f mi_X12_readBehind 244 = some (.lastore, 1, 0, 0, .null) := by decide +kernel
theorem fe_X12_readBehind_245 : mj_f mi_X12_readBehind 245 = some (.iinc 9 1, 3, 9, 0, .int (1)) := by decide +kernel
theorem fe_X12_readBehind_248 : mj_f mi_X12_readBehind 248 = some (.iinc 14 1, 3, 14, 0, .int (1)) := by decide +kernel
theorem fe_X12_readBehind_251 : mj_f mi_X12_readBehind 251 = some (.goto (-34), 3, 217, 0, .null) := by decide +kernel
theorem fe_X12_readBehind_254 : mj_f mi_X12_readBehind 254 = some (.iinc 11 1, 3, 11, 0, .int (1)) := by decide +kernel
theorem fe_X12_readBehind_257 : mj_f mi_X12_readBehind 257 = some (.goto (-92), 3, 165, 0, .null) := by decide +kernel
theorem fe_X12_readBehind_260 : mj_f mi_X12_readBehind 260 = some (.aload_n 0, 1, 0, 0, .null) := by decide +kernel
theorem fe_X12_readBehind_261 : mj_f mi_X12_readBehind 261 = some (.getfield 119, 3, 12, 35, .int 0) := by decide +kernel
theorem fe_X12_readBehind_264 : mj_f mi_X12_readBehind 264 = some (.ifCond .ne 21, 3, 285, 0, .null) := by decide +kernel
theorem fe_X12_readBehind_267 : mj_f mi_X12_readBehind 267 = some (.iload 10, 2, 10, 0, .null) := by decide +kernel
theorem fe_X12_readBehind_269 : mj_f mi_X12_readBehind 269 = some (.ifCond .eq 9, 3, 278, 0, .null) := by decide +kernel
theorem fe_X12_readBehind_272 : mj_f mi_X12_readBehind 272 = some (.iload 9, 2, 9, 0, .null) := by decide +kernel
theorem fe_X12_readBehind_274 : mj_f mi_X12_readBehind 274 = some (.iload_n 3, 1, 3, 0, .null) := by decide +kernel
theorem fe_X12_readBehind_275 : mj_f mi_X12_readBehind 275 = some (.if_icmp .eq 10, 3, 285, 0, .null) := by decide +kernel
theorem fe_X12_readBehind_278 : mj_f mi_X12_readBehind 278 = some (.aload_n 0, 1, 0, 0, .null) := by decide +kernel
theorem fe_X12_readBehind_279 : mj_f mi_X12_readBehind 279 = some (.iconst 2, 1, 0, 0, .int (2)) := by decide +kernel
theorem fe_X12_readBehind_280 : mj_f mi_X12_readBehind 280 = some (.iload 5, 2, 5, 0, .null) := by decide +kernel
theorem fe_X12_readBehind_282 : mj_f mi_X12_readBehind 282 = some (.invokevirtual 324, 3, 245, 2, .null) := by decide +kernel
theorem fe_X12_readBehind_285 : mj_f mi_X12_readBehind 285 = some (.iconst 0, 1, 0, 0, .int (0)) := by decide +kernel
theorem fe_X12_readBehind_286 : mj_f mi_X12_readBehind 286 = some (.istore 11, 2, 11, 0, .null) := by decide +kernel
theorem fe_X12_readBehind_288 : mj_f mi_X12_readBehind 288 = some (.iload 11, 2, 11, 0, .null) := by decide +kernel
theorem fe_X12_readBehind_290 : mj_f mi_X12_readBehind 290 = some (.iload_n 3, 1, 3, 0, .null) := by decide +kernel
theorem fe_X12_readBehind_291 : mj_f mi_X12_readBehind 291 = some (.if_icmp .ge 23, 3, 314, 0, .null) := by decide +kernel
theorem fe_X12_readBehind_294 : mj_f mi_X12_readBehind 294 = some (.aload_n 0, 1, 0, 0, .null) := by decide +kernel
theorem fe_X12_readBehind_295 : mj_f mi_X12_readBehind 295 = some (.getfield 149, 3, 12, 45, .null) := by decide +kernel
theorem fe_X12_readBehind_298 : mj_f mi_X12_readBehind 298 = some (.iload 11, 2, 11, 0, .null) := by decide +kernel
theorem fe_X12_readBehind_300 : mj_f mi_X12_readBehind 300 = some (.aload_n 0, 1, 0, 0, .null) := by decide +kernel
theorem fe_X12_readBehind_301 : mj_f mi_X12_readBehind 301 = some (.getfield 152, 3, 12, 46, .null) := by decide +kernel
theorem fe_X12_readBehind_304 : mj_f mi_X12_readBehind 304 = some (.iload 11, 2, 11, 0, .null) := by decide +kernel
theorem fe_X12_readBehind_306 : mj_f mi_X12_readBehind 306 = some (.laload, 1, 0, 0, .null) := by decide +kernel
theorem fe_X12_readBehind_307 : mj_f mi_X12_readBehind 307 = some (.lastore, 1, 0, 0, .null) := by decide +kernel
theorem fe_X12_readBehind_308 : mj_f mi_X12_readBehind 308 = some (.iinc 11 1, 3, 11, 0, .int (1)) := by decide +kernel
theorem fe_X12_readBehind_311 : mj_f mi_X12_readBehind 311 = some (.goto (-23), 3, 288, 0, .null) := by decide +kernel
theorem fe_X12_readBehind_314 : mj_f mi_X12_readBehind 314 = some (.goto 117, 3, 431, 0, .null) := by decide +kernel
theorem fe_X12_readBehind_317 : mj_f mi_X12_readBehind 317 = some (.aload_n 0, 1, 0, 0, .null) := by decide +kernel
theorem fe_X12_readBehind_318 : mj_f mi_X12_readBehind 318 = some (.getfield 116, 3, 12, 34, .int 0) := by decide +kernel
theorem fe_X12_readBehind_321 : mj_f mi_X12_readBehind 321 = some (.istore 5, 2, 5, 0, .null) := by decide +kernel
theorem fe_X12_readBehind_323 : mj_f mi_X12_readBehind 323 = some (.aload_n 0, 1, 0, 0, .null) := by decide +kernel
theorem fe_X12_readBehind_324 : mj_f mi_X12_readBehind 324 = some (.iload_n 3, 1, 3, 0, .null) := by decide +kernel
theorem fe_X12_readBehind_325 : mj_f mi_X12_readBehind 325 = some (.iload 4, 2, 4, 0, .null) := by decide +kernel
theorem fe_X12_readBehind_327 : mj_f mi_X12_readBehind 327 = some (.iconst 1, 1, 0, 0, .int (1)) := by decide +kernel
theorem fe_X12_readBehind_328 : mj_f mi_X12_readBehind 328 = some (.isub, 1, 0, 0, .null) := by decide +kernel
theorem fe_X12_readBehind_329 : mj_f mi_X12_readBehind 329 = some (.i2l, 1, 0, 0, .null) := by decide +kernel
theorem fe_X12_readBehind_330 : mj_f mi_X12_readBehind 330 = some (.invokestatic 192, 3, 187, 1, .null) := by decide +kernel
theorem fe_X12_readBehind_333 : mj_f mi_X12_readBehind 333 = some (.invokevirtual 341, 3, 249, 2, .null) := by decide +kernel
theorem fe_X12_readBehind_336 : mj_f mi_X12_readBehind 336 = some (.iconst 0, 1, 0, 0, .int (0)) := by decide +kernel
theorem fe_X12_readBehind_337 : mj_f mi_X12_readBehind 337 = some (.istore 6, 2, 6, 0, .null) := by decide +kernel
theorem fe_X12_readBehind_339 : mj_f mi_X12_readBehind 339 = some (.iload 6, 2, 6, 0, .null) := by decide +kernel
theorem fe_X12_readBehind_341 : mj_f mi_X12_readBehind 341 = some (.iload_n 3, 1, 3, 0, .null) := by decide +kernel
theorem fe_X12_readBehind_342 : mj_f mi_X12_readBehind 342 = some (.if_icmp .ge 60, 3, 402, 0, .null) := by decide +kernel
theorem fe_X12_readBehind_345 : mj_f mi_X12_readBehind 345 = some (.aload_n 0, 1, 0, 0, .null) := by decide +kernel
theorem fe_X12_readBehind_346 : mj_f mi_X12_readBehind 346 = some (.getfield 119, 3, 12, 35, .int 0) := by decide +kernel
theorem fe_X12_readBehind_349 : mj_f mi_X12_readBehind 349 = some (.ifCond .ne 53, 3, 402, 0, .null) := by decide +kernel
theorem fe_X12_readBehind_352 : mj_f mi_X12_readBehind 352 = some (.aload_n 0, 1, 0, 0, .null) := by decide +kernel
theorem fe_X12_readBehind_353 : mj_f mi_X12_readBehind 353 = some (.getfield 146, 3, 12, 44, .null) := by decide +kernel
theorem fe_X12_readBehind_356 : mj_f mi_X12_readBehind 356 = some (.iload 6, 2, 6, 0, .null) := by decide +kernel
theorem fe_X12_readBehind_358 : mj_f mi_X12_readBehind 358 = some (.laload, 1, 0, 0, .null) := by decide +kernel
theorem fe_X12_readBehind_359 : mj_f mi_X12_readBehind 359 = some (.iload 4, 2, 4, 0, .null) := by decide +kernel
theorem fe_X12_readBehind_361 : mj_f mi_X12_readBehind 361 = some (.i2l, 1, 0, 0, .null) := by decide +kernel
theorem fe_X12_readBehind_362 : mj_f mi_X12_readBehind 362 = some (.lcmp, 1, 0, 0, .null) := by decide +kernel
theorem fe_X12_readBehind_363 : mj_f mi_X12_readBehind 363 = some (.ifCond .lt 13, 3, 376, 0, .null) := by decide +kernel
theorem fe_X12_readBehind_366 : mj_f mi_X12_readBehind 366 = some (.aload_n 0, 1, 0, 0, .null) := by decide +kernel
theorem fe_X12_readBehind_367 : mj_f mi_X12_readBehind 367 = some (.iconst 2, 1, 0, 0, .int (2)) := by decide +kernel
theorem fe_X12_readBehind_368 : mj_f mi_X12_readBehind 368 = some (.iload 5, 2, 5, 0, .null) := by decide +kernel
theorem fe_X12_readBehind_370 : mj_f mi_X12_readBehind 370 = some (.invokevirtual 324, 3, 245, 2, .null) := by decide +kernel
theorem fe_X12_readBehind_373 : mj_f mi_X12_readBehind 373 = some (.goto 23, 3, 396, 0, .null) := by decide +kernel
theorem fe_X12_readBehind_376 : mj_f mi_X12_readBehind 376 = some (.aload_n 0, 1, 0, 0, .null) := by decide +kernel
theorem fe_X12_readBehind_377 : mj_f mi_X12_readBehind 377 = some (.getfield 152, 3, 12, 46, .null) := by decide +kernel
theorem fe_X12_readBehind_380 : mj_f mi_X12_readBehind 380 = some (.iload 6, 2, 6, 0, .null) := by decide +kernel
theorem fe_X12_readBehind_382 : mj_f mi_X12_readBehind 382 = some (.aload_n 0, 1, 0, 0, .null) := by decide +kernel
theorem fe_X12_readBehind_383 : mj_f mi_X12_readBehind 383 = some (.getfield 149, 3, 12, 45, .null) := by decide +kernel
theorem fe_X12_readBehind_386 : mj_f mi_X12_readBehind 386 = some (.aload_n 0, 1, 0, 0, .null) := by decide +kernel
theorem fe_X12_readBehind_387 : mj_f mi_X12_readBehind 387 = some (.getfield 146, 3, 12, 44, .null) := by decide +kernel
theorem fe_X12_readBehind_390 : mj_f mi_X12_readBehind 390 = some (.iload 6, 2, 6, 0, .null) := by decide +kernel
theorem fe_X12_readBehind_392 : mj_f mi_X12_readBehind 392 = some (.laload, 1, 0, 0, .null) := by decide +kernel
theorem fe_X12_readBehind_393 : mj_f mi_X12_readBehind 393 = some (.l2i, 1, 0, 0, .null) := by decide +kernel
theorem fe_X12_readBehind_394 : mj_f mi_X12_readBehind 394 = some (.laload, 1, 0, 0, .null) := by decide +kernel
theorem fe_X12_readBehind_395 : mj_f mi_X12_readBehind 395 = some (.lastore, 1, 0, 0, .null) := by decide +kernel
theorem fe_X12_readBehind_396 : mj_f mi_X12_readBehind 396 = some (.iinc 6 1, 3, 6, 0, .int (1)) := by decide +kernel
theorem fe_X12_readBehind_399 : mj_f mi_X12_readBehind 399 = some (.goto (-60), 3, 339, 0, .null) := by decide +kernel
theorem fe_X12_readBehind_402 : mj_f mi_X12_readBehind 402 = some (.iconst 0, 1, 0, 0, .int (0)) := by decide +kernel
theorem fe_X12_readBehind_403 : mj_f mi_X12_readBehind 403 = some (.istore 6, 2, 6, 0, .null) := by decide +kernel
theorem fe_X12_readBehind_405 : mj_f mi_X12_readBehind 405 = some (.iload 6, 2, 6, 0, .null) := by decide +kernel
theorem fe_X12_readBehind_407 : mj_f mi_X12_readBehind 407 = some (.iload_n 3, 1, 3, 0, .null) := by decide +kernel
theorem fe_X12_readBehind_408 : mj_f mi_X12_readBehind 408 = some (.if_icmp .ge 23, 3, 431, 0, .null) := by decide +kernel
theorem fe_X12_readBehind_411 : mj_f mi_X12_readBehind 411 = some (.aload_n 0, 1, 0, 0, .null) := by decide +kernel
theorem fe_X12_readBehind_412 : mj_f mi_X12_readBehind 412 = some (.getfield 149, 3, 12, 45, .null) := by decide +kernel
theorem fe_X12_readBehind_415 : mj_f mi_X12_readBehind 415 = some (.iload 6, 2, 6, 0, .null) := by decide +kernel
theorem fe_X12_readBehind_417 : mj_f mi_X12_readBehind 417 = some (.aload_n 0, 1, 0, 0, .null) := by decide +kernel
theorem fe_X12_readBehind_418 : mj_f mi_X12_readBehind 418 = some (.getfield 152, 3, 12, 46, .null) := by decide +kernel
theorem fe_X12_readBehind_421 : mj_f mi_X12_readBehind 421 = some (.iload 6, 2, 6, 0, .null) := by decide +kernel
theorem fe_X12_readBehind_423 : mj_f mi_X12_readBehind 423 = some (.laload, 1, 0, 0, .null) := by decide +kernel
theorem fe_X12_readBehind_424 : mj_f mi_X12_readBehind 424 = some (.lastore, 1, 0, 0, .null) := by decide +kernel
theorem fe_X12_readBehind_425 : mj_f mi_X12_readBehind 425 = some (.iinc 6 1, 3, 6, 0, .int (1)) := by decide +kernel
theorem fe_X12_readBehind_428 : mj_f mi_X12_readBehind 428 = some (.goto (-23), 3, 405, 0, .null) := by decide +kernel
theorem fe_X12_readBehind_431 : mj_f mi_X12_readBehind 431 = some (.return_, 1, 0, 0, .null) := by decide +kernel
def ct_X12_readBefore : MJT := [
  (0, 0, .aload_n 0, 1, 0, 0, .null),
  (1, 1254, .getfield 140, 3, 12, 42, .null),
  (4, 0, .iload_n 2, 1, 2, 0, .null),
  (5, 0, .iaload, 1, 0, 0, .null),
  (6, 0, .istore_n 3, 1, 3, 0, .null),
  (7, 0, .aload_n 0, 1, 0, 0, .null),
  (8, 1246, .getfield 116, 3, 12, 34, .int 0),
  (11, 0, .istore 4, 2, 4, 0, .null),
  (13, 0, .aload_n 0, 1, 0, 0, .null),
  (14, 1254, .getfield 140, 3, 12, 42, .null),
  (17, 0, .iload_n 2, 1, 2, 0, .null),
  (18, 0, .iconst 1, 1, 0, 0, .int (1)),
  (19, 0, .iadd, 1, 0, 0, .null),
  (20, 0, .iload_n 3, 1, 3, 0, .null),
  (21, 0, .iastore, 1, 0, 0, .null),
  (22, 0, .aload_n 0, 1, 0, 0, .null),
  (23, 0, .dup, 1, 0, 0, .null),
  (24, 1250, .getfield 128, 3, 12, 38, .int 0),
  (27, 0, .iload_n 3, 1, 3, 0, .null),
  (28, 0, .iadd, 1, 0, 0, .null),
  (29, 1250, .putfield 128, 3, 12, 38, .int 0),
  (32, 0, .iload_n 1, 1, 1, 0, .null),
  (33, 0, .iconst 4, 1, 0, 0, .int (4)),
  (34, 0, .if_icmp .eq 8, 3, 42, 0, .null),
  (37, 0, .iload_n 1, 1, 1, 0, .null),
  (38, 0, .iconst 5, 1, 0, 0, .int (5)),
  (39, 0, .if_icmp .ne 58, 3, 97, 0, .null),
  (42, 0, .aload_n 0, 1, 0, 0, .null),
  (43, 1574, .invokevirtual 327, 3, 246, 0, .null),
  (46, 0, .istore 5, 2, 5, 0, .null),
  (48, 0, .iload 5, 2, 5, 0, .null),
  (50, 0, .iconst 1, 1, 0, 0, .int (1)),
  (51, 0, .if_icmp .lt 9, 3, 60, 0, .null),
  (54, 0, .iload 5, 2, 5, 0, .null),
  (56, 0, .iload_n 3, 1, 3, 0, .null),
  (57, 0, .if_icmp .le 10, 3, 67, 0, .null),
  (60, 0, .aload_n 0, 1, 0, 0, .null),
  (61, 0, .iconst 2, 1, 0, 0, .int (2)),
  (62, 0, .iload 4, 2, 4, 0, .null),
  (64, 1578, .invokevirtual 324, 3, 245, 2, .null),
  (67, 0, .aload_n 0, 1, 0, 0, .null),
  (68, 1254, .getfield 140, 3, 12, 42, .null),
  (71, 0, .iload_n 2, 1, 2, 0, .null),
  (72, 0, .iconst 1, 1, 0, 0, .int (1)),
  (73, 0, .iadd, 1, 0, 0, .null),
  (74, 0, .iload 5, 2, 5, 0, .null),
  (76, 0, .iastore, 1, 0, 0, .null),
  (77, 0, .aload_n 0, 1, 0, 0, .null),
  (78, 0, .dup, 1, 0, 0, .null),
  (79, 1250, .getfield 128, 3, 12, 38, .int 0),
  (82, 0, .iload_n 1, 1, 1, 0, .null),
  (83, 0, .iconst 4, 1, 0, 0, .int (4)),
  (84, 0, .if_icmp .ne 8, 3, 92, 0, .null),
  (87, 0, .iload 5, 2, 5, 0, .null),
  (89, 0, .goto 4, 3, 93, 0, .null),
  (92, 0, .iconst 0, 1, 0, 0, .int (0)),
  (93, 0, .iadd, 1, 0, 0, .null),
  (94, 1250, .putfield 128, 3, 12, 38, .int 0),
  (97, 0, .iload_n 1, 1, 1, 0, .null),
  (98, 0, .bipush 6, 2, 0, 0, .int (6)),
  (100, 0, .if_icmp .eq 4, 3, 104, 0, .null),
  (103, 0, .return_, 1, 0, 0, .null),
  (104, 0, .aload_n 0, 1, 0, 0, .null),
  (105, 1255, .getfield 143, 3, 12, 43, .null),
  (108, 0, .iload_n 2, 1, 2, 0, .null),
  (109, 0, .aload_n 0, 1, 0, 0, .null),
  (110, 1590, .invokevirtual 331, 3, 247, 0, .null),
  (113, 0, .lastore, 1, 0, 0, .null),
  (114, 0, .aload_n 0, 1, 0, 0, .null),
  (115, 1255, .getfield 143, 3, 12, 43, .null),
  (118, 0, .iload_n 2, 1, 2, 0, .null),
  (119, 0, .laload, 1, 0, 0, .null),
  (120, 0, .lconst 0, 1, 0, 0, .long 0),
  (121, 0, .lcmp, 1, 0, 0, .null),
  (122, 0, .ifCond .eq 14, 3, 136, 0, .null),
  (125, 0, .aload_n 0, 1, 0, 0, .null),
  (126, 1255, .getfield 143, 3, 12, 43, .null),
  (129, 0, .iload_n 2, 1, 2, 0, .null),
  (130, 0, .laload, 1, 0, 0, .null),
  (131, 0, .lconst 1, 1, 0, 0, .long 1),
  (132, 0, .lcmp, 1, 0, 0, .null),
  (133, 0, .ifCond .ne 10, 3, 143, 0, .null),
  (136, 0, .aload_n 0, 1, 0, 0, .null),
  (137, 0, .iconst 2, 1, 0, 0, .int (2)),
  (138, 0, .iload 4, 2, 4, 0, .null),
  (140, 1578, .invokevirtual 324, 3, 245, 2, .null),
  (143, 0, .return_, 1, 0, 0, .null)]
abbrev id_X12_readBefore : Nat := 253
def mi_X12_readBefore : MI := (yX12_readBefore, cX12_readBefore, 6, none, 12, ct_X12_readBefore)
theorem fe_X12_readBefore_0 : mj_f mi_X12_readBefore 0 = some (.aload_n 0, 1, 0, 0, .null) := by decide +kernel
theorem fe_X12_readBefore_1 : mj_f mi_X12_readBefore 1 = some (.getfield 140, 3, 12, 42, .null) := by decide +kernel
theorem fe_X12_readBefore_4 : mj_f mi_X12_readBefore 4 = some (.iload_n 2, 1, 2, 0, .null) := by decide +kernel
theorem fe_X12_readBefore_5 : mj_f mi_X12_readBefore 5 = some (.iaload, 1, 0, 0, .null) := by decide +kernel
theorem fe_X12_readBefore_6 : mj_f mi_X12_readBefore 6 = some (.istore_n 3, 1, 3, 0, .null) := by decide +kernel
theorem fe_X12_readBefore_7 : mj_f mi_X12_readBefore 7 = some (.aload_n 0, 1, 0, 0, .null) := by decide +kernel
theorem fe_X12_readBefore_8 : mj_f mi_X12_readBefore 8 = some (.getfield 116, 3, 12, 34, .int 0) := by decide +kernel
theorem fe_X12_readBefore_11 : mj_f mi_X12_readBefore 11 = some (.istore 4, 2, 4, 0, .null) := by decide +kernel
theorem fe_X12_readBefore_13 : mj_f mi_X12_readBefore 13 = some (.aload_n 0, 1, 0, 0, .null) := by decide +kernel
theorem fe_X12_readBefore_14 : mj_f mi_X12_readBefore 14 = some (.getfield 140, 3, 12, 42, .null) := by decide +kernel
theorem fe_X12_readBefore_17 : mj_f mi_X12_readBefore 17 = some (.iload_n 2, 1, 2, 0, .null) := by decide +kernel
theorem fe_X12_readBefore_18 : mj_f mi_X12_readBefore 18 = some (.iconst 1, 1, 0, 0, .int (1)) := by decide +kernel
theorem fe_X12_readBefore_19 : mj_f mi_X12_readBefore 19 = some (.iadd, 1, 0, 0, .null) := by decide +kernel
theorem fe_X12_readBefore_20 : mj_f mi_X12_readBefore 20 = some (.iload_n 3, 1, 3, 0, .null) := by decide +kernel
theorem fe_X12_readBefore_21 : mj_f mi_X12_readBefore 21 = some (.iastore, 1, 0, 0, .null) := by decide +kernel
theorem fe_X12_readBefore_22 : mj_f mi_X12_readBefore 22 = some (.aload_n 0, 1, 0, 0, .null) := by decide +kernel
theorem fe_X12_readBefore_23 : mj_f mi_X12_readBefore 23 = some (.dup, 1, 0, 0, .null) := by decide +kernel
theorem fe_X12_readBefore_24 : mj_f mi_X12_readBefore 24 = some (.getfield 128, 3, 12, 38, .int 0) := by decide +kernel
theorem fe_X12_readBefore_27 : mj_f mi_X12_readBefore 27 = some (.iload_n 3, 1, 3, 0, .null) := by decide +kernel
theorem fe_X12_readBefore_28 : mj_f mi_X12_readBefore 28 = some (.iadd, 1, 0, 0, .null) := by decide +kernel
theorem fe_X12_readBefore_29 : mj_f mi_X12_readBefore 29 = some (.putfield 128, 3, 12, 38, .int 0) := by decide +kernel
theorem fe_X12_readBefore_32 : mj_f mi_X12_readBefore 32 = some (.iload_n 1, 1, 1, 0, .null) := by decide +kernel
theorem fe_X12_readBefore_33 : mj_f mi_X12_readBefore 33 = some (.iconst 4, 1, 0, 0, .int (4)) := by decide +kernel
theorem fe_X12_readBefore_34 : mj_f mi_X12_readBefore 34 = some (.if_icmp .eq 8, 3, 42, 0, .null) := by decide +kernel
theorem fe_X12_readBefore_37 : mj_f mi_X12_readBefore 37 = some (.iload_n 1, 1, 1, 0, .null) := by decide +kernel
theorem fe_X12_readBefore_38 : mj_f mi_X12_readBefore 38 = some (.iconst 5, 1, 0, 0, .int (5)) := by decide +kernel
theorem fe_X12_readBefore_39 : mj_f mi_X12_readBefore 39 = some (.if_icmp .ne 58, 3, 97, 0, .null) := by decide +kernel
theorem fe_X12_readBefore_42 : mj_f mi_X12_readBefore 42 = some (.aload_n 0, 1, 0, 0, .null) := by decide +kernel
theorem fe_X12_readBefore_43 : mj_f mi_X12_readBefore 43 = some (.invokevirtual 327, 3, 246, 0, .null) := by decide +kernel
theorem fe_X12_readBefore_46 : mj_f mi_X12_readBefore 46 = some (.istore 5, 2, 5, 0, .null) := by decide +kernel
theorem fe_X12_readBefore_48 : mj_f mi_X12_readBefore 48 = some (.iload 5, 2, 5, 0, .null) := by decide +kernel
theorem fe_X12_readBefore_50 : mj_f mi_X12_readBefore 50 = some (.iconst 1, 1, 0, 0, .int (1)) := by decide +kernel
theorem fe_X12_readBefore_51 : mj_f mi_X12_readBefore 51 = some (.if_icmp .lt 9, 3, 60, 0, .null) := by decide +kernel
theorem fe_X12_readBefore_54 : mj_f mi_X12_readBefore 54 = some (.iload 5, 2, 5, 0, .null) := by decide +kernel
theorem fe_X12_readBefore_56 : mj_f mi_X12_readBefore 56 = some (.iload_n 3, 1, 3, 0, .null) := by decide +kernel
theorem fe_X12_readBefore_57 : mj_f mi_X12_readBefore 57 = some (.if_icmp .le 10, 3, 67, 0, .null) := by decide +kernel
theorem fe_X12_readBefore_60 : mj_f mi_X12_readBefore 60 = some (.aload_n 0, 1, 0, 0, .null) := by decide +kernel
theorem fe_X12_readBefore_61 : mj_f mi_X12_readBefore 61 = some (.iconst 2, 1, 0, 0, .int (2)) := by decide +kernel
theorem fe_X12_readBefore_62 : mj_f mi_X12_readBefore 62 = some (.iload 4, 2, 4, 0, .null) := by decide +kernel
theorem fe_X12_readBefore_64 : mj_f mi_X12_readBefore 64 = some (.invokevirtual 324, 3, 245, 2, .null) := by decide +kernel
theorem fe_X12_readBefore_67 : mj_f mi_X12_readBefore 67 = some (.aload_n 0, 1, 0, 0, .null) := by decide +kernel
theorem fe_X12_readBefore_68 : mj_f mi_X12_readBefore 68 = some (.getfield 140, 3, 12, 42, .null) := by decide +kernel
theorem fe_X12_readBefore_71 : mj_f mi_X12_readBefore 71 = some (.iload_n 2, 1, 2, 0, .null) := by decide +kernel
theorem fe_X12_readBefore_72 : mj_f mi_X12_readBefore 72 = some (.iconst 1, 1, 0, 0, .int (1)) := by decide +kernel
theorem fe_X12_readBefore_73 : mj_f mi_X12_readBefore 73 = some (.iadd, 1, 0, 0, .null) := by decide +kernel
theorem fe_X12_readBefore_74 : mj_f mi_X12_readBefore 74 = some (.iload 5, 2, 5, 0, .null) := by decide +kernel
theorem fe_X12_readBefore_76 : mj_f mi_X12_readBefore 76 = some (.iastore, 1, 0, 0, .null) := by decide +kernel
theorem fe_X12_readBefore_77 : mj_f mi_X12_readBefore 77 = some (.aload_n 0, 1, 0, 0, .null) := by decide +kernel
theorem fe_X12_readBefore_78 : mj_f mi_X12_readBefore 78 = some (.dup, 1, 0, 0, .null) := by decide +kernel
theorem fe_X12_readBefore_79 : mj_f mi_X12_readBefore 79 = some (.getfield 128, 3, 12, 38, .int 0) := by decide +kernel
theorem fe_X12_readBefore_82 : mj_f mi_X12_readBefore 82 = some (.iload_n 1, 1, 1, 0, .null) := by decide +kernel
theorem fe_X12_readBefore_83 : mj_f mi_X12_readBefore 83 = some (.iconst 4, 1, 0, 0, .int (4)) := by decide +kernel
theorem fe_X12_readBefore_84 : mj_f mi_X12_readBefore 84 = some (.if_icmp .ne 8, 3, 92, 0, .null) := by decide +kernel
theorem fe_X12_readBefore_87 : mj_f mi_X12_readBefore 87 = some (.iload 5, 2, 5, 0, .null) := by decide +kernel
theorem fe_X12_readBefore_89 : mj_f mi_X12_readBefore 89 = some (.goto 4, 3, 93, 0, .null) := by decide +kernel
theorem fe_X12_readBefore_92 : mj_f mi_X12_readBefore 92 = some (.iconst 0, 1, 0, 0, .int (0)) := by decide +kernel
theorem fe_X12_readBefore_93 : mj_f mi_X12_readBefore 93 = some (.iadd, 1, 0, 0, .null) := by decide +kernel
theorem fe_X12_readBefore_94 : mj_f mi_X12_readBefore 94 = some (.putfield 128, 3, 12, 38, .int 0) := by decide +kernel
theorem fe_X12_readBefore_97 : mj_f mi_X12_readBefore 97 = some (.iload_n 1, 1, 1, 0, .null) := by decide +kernel
theorem fe_X12_readBefore_98 : mj_f mi_X12_readBefore 98 = some (.bipush 6, 2, 0, 0, .int (6)) := by decide +kernel
theorem fe_X12_readBefore_100 : mj_f mi_X12_readBefore 100 = some (.if_icmp .eq 4, 3, 104, 0, .null) := by decide +kernel
theorem fe_X12_readBefore_103 : mj_f mi_X12_readBefore 103 = some (.return_, 1, 0, 0, .null) := by decide +kernel
theorem fe_X12_readBefore_104 : mj_f mi_X12_readBefore 104 = some (.aload_n 0, 1, 0, 0, .null) := by decide +kernel
theorem fe_X12_readBefore_105 : mj_f mi_X12_readBefore 105 = some (.getfield 143, 3, 12, 43, .null) := by decide +kernel
theorem fe_X12_readBefore_108 : mj_f mi_X12_readBefore 108 = some (.iload_n 2, 1, 2, 0, .null) := by decide +kernel
theorem fe_X12_readBefore_109 : mj_f mi_X12_readBefore 109 = some (.aload_n 0, 1, 0, 0, .null) := by decide +kernel
theorem fe_X12_readBefore_110 : mj_f mi_X12_readBefore 110 = some (.invokevirtual 331, 3, 247, 0, .null) := by decide +kernel
theorem fe_X12_readBefore_113 : mj_f mi_X12_readBefore 113 = some (.lastore, 1, 0, 0, .null) := by decide +kernel
theorem fe_X12_readBefore_114 : mj_f mi_X12_readBefore 114 = some (.aload_n 0, 1, 0, 0, .null) := by decide +kernel
theorem fe_X12_readBefore_115 : mj_f mi_X12_readBefore 115 = some (.getfield 143, 3, 12, 43, .null) := by decide +kernel
theorem fe_X12_readBefore_118 : mj_f mi_X12_readBefore 118 = some (.iload_n 2, 1, 2, 0, .null) := by decide +kernel
theorem fe_X12_readBefore_119 : mj_f mi_X12_readBefore 119 = some (.laload, 1, 0, 0, .null) := by decide +kernel
theorem fe_X12_readBefore_120 : mj_f mi_X12_readBefore 120 = some (.lconst 0, 1, 0, 0, .long 0) := by decide +kernel
theorem fe_X12_readBefore_121 : mj_f mi_X12_readBefore 121 = some (.lcmp, 1, 0, 0, .null) := by decide +kernel
theorem fe_X12_readBefore_122 : mj_f mi_X12_readBefore 122 = some (.ifCond .eq 14, 3, 136, 0, .null) := by decide +kernel
theorem fe_X12_readBefore_125 : mj_f mi_X12_readBefore 125 = some (.aload_n 0, 1, 0, 0, .null) := by decide +kernel
theorem fe_X12_readBefore_126 : mj_f mi_X12_readBefore 126 = some (.getfield 143, 3, 12, 43, .null) := by decide +kernel
theorem fe_X12_readBefore_129 : mj_f mi_X12_readBefore 129 = some (.iload_n 2, 1, 2, 0, .null) := by decide +kernel
theorem fe_X12_readBefore_130 : mj_f mi_X12_readBefore 130 = some (.laload, 1, 0, 0, .null) := by decide +kernel
theorem fe_X12_readBefore_131 : mj_f mi_X12_readBefore 131 = some (.lconst 1, 1, 0, 0, .long 1) := by decide +kernel
theorem fe_X12_readBefore_132 : mj_f mi_X12_readBefore 132 = some (.lcmp, 1, 0, 0, .null) := by decide +kernel
theorem fe_X12_readBefore_133 : mj_f mi_X12_readBefore 133 = some (.ifCond .ne 10, 3, 143, 0, .null) := by decide +kernel
theorem fe_X12_readBefore_136 : mj_f mi_X12_readBefore 136 = some (.aload_n 0, 1, 0, 0, .null) := by decide +kernel
theorem fe_X12_readBefore_137 : mj_f mi_X12_readBefore 137 = some (.iconst 2, 1, 0, 0, .int (2)) := by decide +kernel
theorem fe_X12_readBefore_138 : mj_f mi_X12_readBefore 138 = some (.iload 4, 2, 4, 0, .null) := by decide +kernel
theorem fe_X12_readBefore_140 : mj_f mi_X12_readBefore 140 = some (.invokevirtual 324, 3, 245, 2, .null) := by decide +kernel
theorem fe_X12_readBefore_143 : mj_f mi_X12_readBefore 143 = some (.return_, 1, 0, 0, .null) := by decide +kernel
def ct_X12_reads : MJT := [
  (0, 0, .aload_n 0, 1, 0, 0, .null),
  (1, 0, .iload_n 1, 1, 1, 0, .null),
  (2, 1245, .putfield 113, 3, 12, 33, .int 0),
  (5, 0, .aload_n 0, 1, 0, 0, .null),
  (6, 0, .iconst 0, 1, 0, 0, .int (0)),
  (7, 1246, .putfield 116, 3, 12, 34, .int 0),
  (10, 0, .aload_n 0, 1, 0, 0, .null),
  (11, 0, .iconst 0, 1, 0, 0, .int (0)),
  (12, 1247, .putfield 119, 3, 12, 35, .int 0),
  (15, 0, .aload_n 0, 1, 0, 0, .null),
  (16, 0, .iconst (-1), 1, 0, 0, .int (-1)),
  (17, 1248, .putfield 122, 3, 12, 36, .int 0),
  (20, 0, .aload_n 0, 1, 0, 0, .null),
  (21, 0, .iconst 0, 1, 0, 0, .int (0)),
  (22, 1250, .putfield 128, 3, 12, 38, .int 0),
  (25, 0, .aload_n 0, 1, 0, 0, .null),
  (26, 0, .iconst 0, 1, 0, 0, .int (0)),
  (27, 1251, .putfield 131, 3, 12, 39, .int 0),
  (30, 0, .aload_n 0, 1, 0, 0, .null),
  (31, 1574, .invokevirtual 327, 3, 246, 0, .null),
  (34, 0, .sipush 193, 3, 0, 0, .int (193)),
  (37, 0, .if_icmp .eq 9, 3, 46, 0, .null),
  (40, 0, .aload_n 0, 1, 0, 0, .null),
  (41, 0, .iconst 2, 1, 0, 0, .int (2)),
  (42, 0, .iconst 0, 1, 0, 0, .int (0)),
  (43, 1578, .invokevirtual 324, 3, 245, 2, .null),
  (46, 0, .aload_n 0, 1, 0, 0, .null),
  (47, 0, .aload_n 0, 1, 0, 0, .null),
  (48, 1574, .invokevirtual 327, 3, 246, 0, .null),
  (51, 1249, .putfield 125, 3, 12, 37, .int 0),
  (54, 0, .aload_n 0, 1, 0, 0, .null),
  (55, 1249, .getfield 125, 3, 12, 37, .int 0),
  (58, 0, .iconst 1, 1, 0, 0, .int (1)),
  (59, 0, .bipush 32, 2, 0, 0, .int (32)),
  (61, 1382, .invokestatic 280, 3, 181, 3, .null),
  (64, 0, .ifCond .ne 9, 3, 73, 0, .null),
  (67, 0, .aload_n 0, 1, 0, 0, .null),
  (68, 0, .iconst 2, 1, 0, 0, .int (2)),
  (69, 0, .iconst 1, 1, 0, 0, .int (1)),
  (70, 1578, .invokevirtual 324, 3, 245, 2, .null),
  (73, 0, .aload_n 0, 1, 0, 0, .null),
  (74, 1247, .getfield 119, 3, 12, 35, .int 0),
  (77, 0, .ifCond .le 4, 3, 81, 0, .null),
  (80, 0, .return_, 1, 0, 0, .null),
  (81, 0, .aload_n 0, 1, 0, 0, .null),
  (82, 1574, .invokevirtual 327, 3, 246, 0, .null),
  (85, 0, .istore_n 2, 1, 2, 0, .null),
  (86, 0, .iload_n 2, 1, 2, 0, .null),
  (87, 0, .iconst 1, 1, 0, 0, .int (1)),
  (88, 0, .if_icmp .le 9, 3, 97, 0, .null),
  (91, 0, .aload_n 0, 1, 0, 0, .null),
  (92, 0, .iconst 2, 1, 0, 0, .int (2)),
  (93, 0, .iconst 2, 1, 0, 0, .int (2)),
  (94, 1578, .invokevirtual 324, 3, 245, 2, .null),
  (97, 0, .aload_n 0, 1, 0, 0, .null),
  (98, 1247, .getfield 119, 3, 12, 35, .int 0),
  (101, 0, .ifCond .le 4, 3, 105, 0, .null),
  (104, 0, .return_, 1, 0, 0, .null),
  (105, 0, .aload_n 0, 1, 0, 0, .null),
  (106, 1254, .getfield 140, 3, 12, 42, .null),
  (109, 0, .iconst 0, 1, 0, 0, .int (0)),
  (110, 0, .aload_n 0, 1, 0, 0, .null),
  (111, 1249, .getfield 125, 3, 12, 37, .int 0),
  (114, 0, .iastore, 1, 0, 0, .null),
  (115, 0, .iconst 0, 1, 0, 0, .int (0)),
  (116, 0, .istore_n 3, 1, 3, 0, .null),
  (117, 0, .iload_n 3, 1, 3, 0, .null),
  (118, 0, .aload_n 0, 1, 0, 0, .null),
  (119, 1249, .getfield 125, 3, 12, 37, .int 0),
  (122, 0, .if_icmp .ge 16, 3, 138, 0, .null),
  (125, 0, .aload_n 0, 1, 0, 0, .null),
  (126, 1253, .getfield 137, 3, 12, 41, .null),
  (129, 0, .iload_n 3, 1, 3, 0, .null),
  (130, 0, .iconst 0, 1, 0, 0, .int (0)),
  (131, 0, .bastore, 1, 0, 0, .null),
  (132, 0, .iinc 3 1, 3, 3, 0, .int (1)),
  (135, 0, .goto (-18), 3, 117, 0, .null),
  (138, 0, .iload_n 2, 1, 2, 0, .null),
  (139, 0, .iconst 1, 1, 0, 0, .int (1)),
  (140, 0, .if_icmp .ne 12, 3, 152, 0, .null),
  (143, 0, .aload_n 0, 1, 0, 0, .null),
  (144, 0, .aload_n 0, 1, 0, 0, .null),
  (145, 1249, .getfield 125, 3, 12, 37, .int 0),
  (148, 0, .iconst 1, 1, 0, 0, .int (1)),
  (149, 1582, .invokevirtual 341, 3, 249, 2, .null),
  (152, 0, .iconst 0, 1, 0, 0, .int (0)),
  (153, 0, .istore_n 3, 1, 3, 0, .null),
  (154, 0, .iload_n 3, 1, 3, 0, .null),
  (155, 0, .aload_n 0, 1, 0, 0, .null),
  (156, 1249, .getfield 125, 3, 12, 37, .int 0),
  (159, 0, .if_icmp .ge 66, 3, 225, 0, .null),
  (162, 0, .iload_n 2, 1, 2, 0, .null),
  (163, 0, .iconst 1, 1, 0, 0, .int (1)),
  (164, 0, .if_icmp .ne 61, 3, 225, 0, .null),
  (167, 0, .aload_n 0, 1, 0, 0, .null),
  (168, 1247, .getfield 119, 3, 12, 35, .int 0),
  (171, 0, .ifCond .ne 54, 3, 225, 0, .null),
  (174, 0, .aload_n 0, 1, 0, 0, .null),
  (175, 1253, .getfield 137, 3, 12, 41, .null),
  (178, 0, .iload_n 3, 1, 3, 0, .null),
  (179, 0, .aload_n 0, 1, 0, 0, .null),
  (180, 1256, .getfield 146, 3, 12, 44, .null),
  (183, 0, .iload_n 3, 1, 3, 0, .null),
  (184, 0, .laload, 1, 0, 0, .null),
  (185, 0, .lconst 1, 1, 0, 0, .long 1),
  (186, 0, .lcmp, 1, 0, 0, .null),
  (187, 0, .ifCond .ne 7, 3, 194, 0, .null),
  (190, 0, .iconst 1, 1, 0, 0, .int (1)),
  (191, 0, .goto 4, 3, 195, 0, .null),
  (194, 0, .iconst 0, 1, 0, 0, .int (0)),
  (195, 0, .bastore, 1, 0, 0, .null),
  (196, 0, .aload_n 0, 1, 0, 0, .null),
  (197, 1254, .getfield 140, 3, 12, 42, .null),
  (200, 0, .iconst 0, 1, 0, 0, .int (0)),
  (201, 0, .dup2, 1, 0, 0, .null),
  (202, 0, .iaload, 1, 0, 0, .null),
  (203, 0, .aload_n 0, 1, 0, 0, .null),
  (204, 1253, .getfield 137, 3, 12, 41, .null),
  (207, 0, .iload_n 3, 1, 3, 0, .null),
  (208, 0, .baload, 1, 0, 0, .null),
  (209, 0, .ifCond .eq 7, 3, 216, 0, .null),
  (212, 0, .iconst 1, 1, 0, 0, .int (1)),
  (213, 0, .goto 4, 3, 217, 0, .null),
  (216, 0, .iconst 0, 1, 0, 0, .int (0)),
  (217, 0, .isub, 1, 0, 0, .null),
  (218, 0, .iastore, 1, 0, 0, .null),
  (219, 0, .iinc 3 1, 3, 3, 0, .int (1)),
  (222, 0, .goto (-68), 3, 154, 0, .null),
  (225, 0, .iconst 1, 1, 0, 0, .int (1)),
  (226, 0, .istore_n 3, 1, 3, 0, .null),
  (227, 0, .iload_n 3, 1, 3, 0, .null),
  (228, 0, .ifCond .eq 124, 3, 352, 0, .null),
  (231, 0, .aload_n 0, 1, 0, 0, .null),
  (232, 1247, .getfield 119, 3, 12, 35, .int 0),
  (235, 0, .ifCond .ne 117, 3, 352, 0, .null),
  (238, 0, .aload_n 0, 1, 0, 0, .null),
  (239, 1246, .getfield 116, 3, 12, 34, .int 0),
  (242, 0, .istore 4, 2, 4, 0, .null),
  (244, 0, .aload_n 0, 1, 0, 0, .null),
  (245, 1574, .invokevirtual 327, 3, 246, 0, .null),
  (248, 0, .istore 5, 2, 5, 0, .null),
  (250, 0, .iload 5, 2, 5, 0, .null),
  (252, 0, .bipush 6, 2, 0, 0, .int (6)),
  (254, 0, .if_icmp .gt 11, 3, 265, 0, .null),
  (257, 0, .aload_n 0, 1, 0, 0, .null),
  (258, 1251, .getfield 131, 3, 12, 39, .int 0),
  (261, 0, .iconst 3, 1, 0, 0, .int (3)),
  (262, 0, .if_icmp .ne 10, 3, 272, 0, .null),
  (265, 0, .aload_n 0, 1, 0, 0, .null),
  (266, 0, .iconst 3, 1, 0, 0, .int (3)),
  (267, 0, .iload 4, 2, 4, 0, .null),
  (269, 1578, .invokevirtual 324, 3, 245, 2, .null),
  (272, 0, .aload_n 0, 1, 0, 0, .null),
  (273, 1247, .getfield 119, 3, 12, 35, .int 0),
  (276, 0, .ifCond .le 4, 3, 280, 0, .null),
  (279, 0, .return_, 1, 0, 0, .null),
  (280, 0, .aload_n 0, 1, 0, 0, .null),
  (281, 1252, .getfield 134, 3, 12, 40, .null),
  (284, 0, .aload_n 0, 1, 0, 0, .null),
  (285, 1251, .getfield 131, 3, 12, 39, .int 0),
  (288, 0, .iload 5, 2, 5, 0, .null),
  (290, 0, .iastore, 1, 0, 0, .null),
  (291, 0, .aload_n 0, 1, 0, 0, .null),
  (292, 0, .dup, 1, 0, 0, .null),
  (293, 1251, .getfield 131, 3, 12, 39, .int 0),
  (296, 0, .iconst 1, 1, 0, 0, .int (1)),
  (297, 0, .iadd, 1, 0, 0, .null),
  (298, 1251, .putfield 131, 3, 12, 39, .int 0),
  (301, 0, .iload 5, 2, 5, 0, .null),
  (303, 0, .iconst 2, 1, 0, 0, .int (2)),
  (304, 0, .if_icmp .le 7, 3, 311, 0, .null),
  (307, 0, .iconst 1, 1, 0, 0, .int (1)),
  (308, 0, .goto 4, 3, 312, 0, .null),
  (311, 0, .iconst 0, 1, 0, 0, .int (0)),
  (312, 0, .istore_n 3, 1, 3, 0, .null),
  (313, 0, .iload_n 3, 1, 3, 0, .null),
  (314, 0, .ifCond .eq 18, 3, 332, 0, .null),
  (317, 0, .aload_n 0, 1, 0, 0, .null),
  (318, 0, .iload 5, 2, 5, 0, .null),
  (320, 0, .aload_n 0, 1, 0, 0, .null),
  (321, 1251, .getfield 131, 3, 12, 39, .int 0),
  (324, 0, .iconst 1, 1, 0, 0, .int (1)),
  (325, 0, .isub, 1, 0, 0, .null),
  (326, 1586, .invokevirtual 344, 3, 253, 2, .null),
  (329, 0, .goto 20, 3, 349, 0, .null),
  (332, 0, .aload_n 0, 1, 0, 0, .null),
  (333, 0, .iload 5, 2, 5, 0, .null),
  (335, 0, .aload_n 0, 1, 0, 0, .null),
  (336, 1254, .getfield 140, 3, 12, 42, .null),
  (339, 0, .aload_n 0, 1, 0, 0, .null),
  (340, 1251, .getfield 131, 3, 12, 39, .int 0),
  (343, 0, .iconst 1, 1, 0, 0, .int (1)),
  (344, 0, .isub, 1, 0, 0, .null),
  (345, 0, .iaload, 1, 0, 0, .null),
  (346, 1594, .invokevirtual 347, 3, 251, 2, .null),
  (349, 0, .goto (-122), 3, 227, 0, .null),
  (352, 0, .aload_n 0, 1, 0, 0, .null),
  (353, 1251, .getfield 131, 3, 12, 39, .int 0),
  (356, 0, .iconst 2, 1, 0, 0, .int (2)),
  (357, 0, .isub, 1, 0, 0, .null),
  (358, 0, .istore 4, 2, 4, 0, .null),
  (360, 0, .iload 4, 2, 4, 0, .null),
  (362, 0, .ifCond .lt 29, 3, 391, 0, .null),
  (365, 0, .aload_n 0, 1, 0, 0, .null),
  (366, 1247, .getfield 119, 3, 12, 35, .int 0),
  (369, 0, .ifCond .ne 22, 3, 391, 0, .null),
  (372, 0, .aload_n 0, 1, 0, 0, .null),
  (373, 0, .aload_n 0, 1, 0, 0, .null),
  (374, 1252, .getfield 134, 3, 12, 40, .null),
  (377, 0, .iload 4, 2, 4, 0, .null),
  (379, 0, .iaload, 1, 0, 0, .null),
  (380, 0, .iload 4, 2, 4, 0, .null),
  (382, 1606, .invokevirtual 350, 3, 252, 2, .null),
  (385, 0, .iinc 4 (-1), 3, 4, 0, .int (-1)),
  (388, 0, .goto (-28), 3, 360, 0, .null),
  (391, 0, .aload_n 0, 1, 0, 0, .null),
  (392, 1247, .getfield 119, 3, 12, 35, .int 0),
  (395, 0, .ifCond .le 4, 3, 399, 0, .null),
  (398, 0, .return_, 1, 0, 0, .null),
  (399, 0, .bipush 7, 2, 0, 0, .int (7)),
  (401, 0, .istore 4, 2, 4, 0, .null),
  (403, 0, .iconst 0, 1, 0, 0, .int (0)),
  (404, 0, .istore 5, 2, 5, 0, .null),
  (406, 0, .iload 5, 2, 5, 0, .null),
  (408, 0, .aload_n 0, 1, 0, 0, .null),
  (409, 1246, .getfield 116, 3, 12, 34, .int 0),
  (412, 0, .if_icmp .ge 28, 3, 440, 0, .null),
  (415, 0, .bipush 31, 2, 0, 0, .int (31)),
  (417, 0, .iload 4, 2, 4, 0, .null),
  (419, 0, .imul, 1, 0, 0, .null),
  (420, 0, .aload_n 0, 1, 0, 0, .null),
  (421, 1244, .getfield 110, 3, 12, 32, .null),
  (424, 0, .iload 5, 2, 5, 0, .null),
  (426, 0, .iaload, 1, 0, 0, .null),
  (427, 0, .iadd, 1, 0, 0, .null),
  (428, 0, .sipush 255, 3, 0, 0, .int (255)),
  (431, 0, .iand, 1, 0, 0, .null),
  (432, 0, .istore 4, 2, 4, 0, .null),
  (434, 0, .iinc 5 1, 3, 5, 0, .int (1)),
  (437, 0, .goto (-31), 3, 406, 0, .null),
  (440, 0, .aload_n 0, 1, 0, 0, .null),
  (441, 1246, .getfield 116, 3, 12, 34, .int 0),
  (444, 0, .istore 5, 2, 5, 0, .null),
  (446, 0, .aload_n 0, 1, 0, 0, .null),
  (447, 1574, .invokevirtual 327, 3, 246, 0, .null),
  (450, 0, .iload 4, 2, 4, 0, .null),
  (452, 0, .if_icmp .eq 10, 3, 462, 0, .null),
  (455, 0, .aload_n 0, 1, 0, 0, .null),
  (456, 0, .iconst 4, 1, 0, 0, .int (4)),
  (457, 0, .iload 5, 2, 5, 0, .null),
  (459, 1578, .invokevirtual 324, 3, 245, 2, .null),
  (462, 0, .aload_n 0, 1, 0, 0, .null),
  (463, 1246, .getfield 116, 3, 12, 34, .int 0),
  (466, 0, .aload_n 0, 1, 0, 0, .null),
  (467, 1245, .getfield 113, 3, 12, 33, .int 0),
  (470, 0, .if_icmp .ge 12, 3, 482, 0, .null),
  (473, 0, .aload_n 0, 1, 0, 0, .null),
  (474, 0, .iconst 4, 1, 0, 0, .int (4)),
  (475, 0, .aload_n 0, 1, 0, 0, .null),
  (476, 1246, .getfield 116, 3, 12, 34, .int 0),
  (479, 1578, .invokevirtual 324, 3, 245, 2, .null),
  (482, 0, .return_, 1, 0, 0, .null)]
abbrev id_X12_reads : Nat := 254
def mi_X12_reads : MI := (yX12_reads, cX12_reads, 6, none, 12, ct_X12_reads)
theorem fe_X12_reads_0 : mj_f mi_X12_reads 0 = some (.aload_n 0, 1, 0, 0, .null) := by decide +kernel
theorem fe_X12_reads_1 : mj_f mi_X12_reads 1 = some (.iload_n 1, 1, 1, 0, .null) := by decide +kernel
theorem fe_X12_reads_2 : mj_f mi_X12_reads 2 = some (.putfield 113, 3, 12, 33, .int 0) := by decide +kernel
theorem fe_X12_reads_5 : mj_f mi_X12_reads 5 = some (.aload_n 0, 1, 0, 0, .null) := by decide +kernel
theorem fe_X12_reads_6 : mj_f mi_X12_reads 6 = some (.iconst 0, 1, 0, 0, .int (0)) := by decide +kernel
theorem fe_X12_reads_7 : mj_f mi_X12_reads 7 = some (.putfield 116, 3, 12, 34, .int 0) := by decide +kernel
theorem fe_X12_reads_10 : mj_f mi_X12_reads 10 = some (.aload_n 0, 1, 0, 0, .null) := by decide +kernel
theorem fe_X12_reads_11 : mj_f mi_X12_reads 11 = some (.iconst 0, 1, 0, 0, .int (0)) := by decide +kernel
theorem fe_X12_reads_12 : mj_f mi_X12_reads 12 = some (.putfield 119, 3, 12, 35, .int 0) := by decide +kernel
theorem fe_X12_reads_15 : mj_f mi_X12_reads 15 = some (.aload_n 0, 1, 0, 0, .null) := by decide +kernel
theorem fe_X12_reads_16 : mj_f mi_X12_reads 16 = some (.iconst (-1), 1, 0, 0, .int (-1)) := by decide +kernel
theorem fe_X12_reads_17 : mj_f mi_X12_reads 17 = some (.putfield 122, 3, 12, 36, .int 0) := by decide +kernel
theorem fe_X12_reads_20 : mj_f mi_X12_reads 20 = some (.aload_n 0, 1, 0, 0, .null) := by decide +kernel
theorem fe_X12_reads_21 : mj_f mi_X12_reads 21 = some (.iconst 0, 1, 0, 0, .int (0)) := by decide +kernel
theorem fe_X12_reads_22 : mj_f mi_X12_reads 22 = some (.putfield 128, 3, 12, 38, .int 0) := by decide +kernel
theorem fe_X12_reads_25 : mj_f mi_X12_reads 25 = some (.aload_n 0, 1, 0, 0, .null) := by decide +kernel
theorem fe_X12_reads_26 : mj_f mi_X12_reads 26 = some (.iconst 0, 1, 0, 0, .int (0)) := by decide +kernel
theorem fe_X12_reads_27 : mj_f mi_X12_reads 27 = some (.putfield 131, 3, 12, 39, .int 0) := by decide +kernel
theorem fe_X12_reads_30 : mj_f mi_X12_reads 30 = some (.aload_n 0, 1, 0, 0, .null) := by decide +kernel
theorem fe_X12_reads_31 : mj_f mi_X12_reads 31 = some (.invokevirtual 327, 3, 246, 0, .null) := by decide +kernel
theorem fe_X12_reads_34 : mj_f mi_X12_reads 34 = some (.sipush 193, 3, 0, 0, .int (193)) := by decide +kernel
theorem fe_X12_reads_37 : mj_f mi_X12_reads 37 = some (.if_icmp .eq 9, 3, 46, 0, .null) := by decide +kernel
theorem fe_X12_reads_40 : mj_f mi_X12_reads 40 = some (.aload_n 0, 1, 0, 0, .null) := by decide +kernel
theorem fe_X12_reads_41 : mj_f mi_X12_reads 41 = some (.iconst 2, 1, 0, 0, .int (2)) := by decide +kernel
theorem fe_X12_reads_42 : mj_f mi_X12_reads 42 = some (.iconst 0, 1, 0, 0, .int (0)) := by decide +kernel
theorem fe_X12_reads_43 : mj_f mi_X12_reads 43 = some (.invokevirtual 324, 3, 245, 2, .null) := by decide +kernel
theorem fe_X12_reads_46 : mj_f mi_X12_reads 46 = some (.aload_n 0, 1, 0, 0, .null) := by decide +kernel
theorem fe_X12_reads_47 : mj_f mi_X12_reads 47 = some (.aload_n 0, 1, 0, 0, .null) := by decide +kernel
theorem fe_X12_reads_48 : mj_f mi_X12_reads 48 = some (.invokevirtual 327, 3, 246, 0, .null) := by decide +kernel
theorem fe_X12_reads_51 : mj_f mi_X12_reads 51 = some (.putfield 125, 3, 12, 37, .int 0) := by decide +kernel
theorem fe_X12_reads_54 : mj_f mi_X12_reads 54 = some (.aload_n 0, 1, 0, 0, .null) := by decide +kernel
theorem fe_X12_reads_55 : mj_f mi_X12_reads 55 = some (.getfield 125, 3, 12, 37, .int 0) := by decide +kernel
theorem fe_X12_reads_58 : mj_f mi_X12_reads 58 = some (.iconst 1, 1, 0, 0, .int (1)) := by decide +kernel
theorem fe_X12_reads_59 : mj_f mi_X12_reads 59 = some (.bipush 32, 2, 0, 0, .int (32)) := by decide +kernel
theorem fe_X12_reads_61 : mj_f mi_X12_reads 61 = some (.invokestatic 280, 3, 181, 3, .null) := by decide +kernel
theorem fe_X12_reads_64 : mj_f mi_X12_reads 64 = some (.ifCond .ne 9, 3, 73, 0, .null) := by decide +kernel
theorem fe_X12_reads_67 : mj_f mi_X12_reads 67 = some (.aload_n 0, 1, 0, 0, .null) := by decide +kernel
theorem fe_X12_reads_68 : mj_f mi_X12_reads 68 = some (.iconst 2, 1, 0, 0, .int (2)) := by decide +kernel
theorem fe_X12_reads_69 : mj_f mi_X12_reads 69 = some (.iconst 1, 1, 0, 0, .int (1)) := by decide +kernel
theorem fe_X12_reads_70 : mj_f mi_X12_reads 70 = some (.invokevirtual 324, 3, 245, 2, .null) := by decide +kernel
theorem fe_X12_reads_73 : mj_f mi_X12_reads 73 = some (.aload_n 0, 1, 0, 0, .null) := by decide +kernel
theorem fe_X12_reads_74 : mj_f mi_X12_reads 74 = some (.getfield 119, 3, 12, 35, .int 0) := by decide +kernel
theorem fe_X12_reads_77 : mj_f mi_X12_reads 77 = some (.ifCond .le 4, 3, 81, 0, .null) := by decide +kernel
theorem fe_X12_reads_80 : mj_f mi_X12_reads 80 = some (.return_, 1, 0, 0, .null) := by decide +kernel
theorem fe_X12_reads_81 : mj_f mi_X12_reads 81 = some (.aload_n 0, 1, 0, 0, .null) := by decide +kernel
theorem fe_X12_reads_82 : mj_f mi_X12_reads 82 = some (.invokevirtual 327, 3, 246, 0, .null) := by decide +kernel
theorem fe_X12_reads_85 : mj_f mi_X12_reads 85 = some (.istore_n 2, 1, 2, 0, .null) := by decide +kernel
theorem fe_X12_reads_86 : mj_f mi_X12_reads 86 = some (.iload_n 2, 1, 2, 0, .null) := by decide +kernel
theorem fe_X12_reads_87 : mj_f mi_X12_reads 87 = some (.iconst 1, 1, 0, 0, .int (1)) := by decide +kernel
theorem fe_X12_reads_88 : mj_f mi_X12_reads 88 = some (.if_icmp .le 9, 3, 97, 0, .null) := by decide +kernel
theorem fe_X12_reads_91 : mj_f mi_X12_reads 91 = some (.aload_n 0, 1, 0, 0, .null) := by decide +kernel
theorem fe_X12_reads_92 : mj_f mi_X12_reads 92 = some (.iconst 2, 1, 0, 0, .int (2)) := by decide +kernel
theorem fe_X12_reads_93 : mj_f mi_X12_reads 93 = some (.iconst 2, 1, 0, 0, .int (2)) := by decide +kernel
theorem fe_X12_reads_94 : mj_f mi_X12_reads 94 = some (.invokevirtual 324, 3, 245, 2, .null) := by decide +kernel
theorem fe_X12_reads_97 : mj_f mi_X12_reads 97 = some (.aload_n 0, 1, 0, 0, .null) := by decide +kernel
theorem fe_X12_reads_98 : mj_f mi_X12_reads 98 = some (.getfield 119, 3, 12, 35, .int 0) := by decide +kernel
theorem fe_X12_reads_101 : mj_f mi_X12_reads 101 = some (.ifCond .le 4, 3, 105, 0, .null) := by decide +kernel
theorem fe_X12_reads_104 : mj_f mi_X12_reads 104 = some (.return_, 1, 0, 0, .null) := by decide +kernel
theorem fe_X12_reads_105 : mj_f mi_X12_reads 105 = some (.aload_n 0, 1, 0, 0, .null) := by decide +kernel
theorem fe_X12_reads_106 : mj_f mi_X12_reads 106 = some (.getfield 140, 3, 12, 42, .null) := by decide +kernel
theorem fe_X12_reads_109 : mj_f mi_X12_reads 109 = some (.iconst 0, 1, 0, 0, .int (0)) := by decide +kernel
theorem fe_X12_reads_110 : mj_f mi_X12_reads 110 = some (.aload_n 0, 1, 0, 0, .null) := by decide +kernel
theorem fe_X12_reads_111 : mj_f mi_X12_reads 111 = some (.getfield 125, 3, 12, 37, .int 0) := by decide +kernel
theorem fe_X12_reads_114 : mj_f mi_X12_reads 114 = some (.iastore, 1, 0, 0, .null) := by decide +kernel
theorem fe_X12_reads_115 : mj_f mi_X12_reads 115 = some (.iconst 0, 1, 0, 0, .int (0)) := by decide +kernel
theorem fe_X12_reads_116 : mj_f mi_X12_reads 116 = some (.istore_n 3, 1, 3, 0, .null) := by decide +kernel
theorem fe_X12_reads_117 : mj_f mi_X12_reads 117 = some (.iload_n 3, 1, 3, 0, .null) := by decide +kernel
theorem fe_X12_reads_118 : mj_f mi_X12_reads 118 = some (.aload_n 0, 1, 0, 0, .null) := by decide +kernel
theorem fe_X12_reads_119 : mj_f mi_X12_reads 119 = some (.getfield 125, 3, 12, 37, .int 0) := by decide +kernel
theorem fe_X12_reads_122 : mj_f mi_X12_reads 122 = some (.if_icmp .ge 16, 3, 138, 0, .null) := by decide +kernel
theorem fe_X12_reads_125 : mj_f mi_X12_reads 125 = some (.aload_n 0, 1, 0, 0, .null) := by decide +kernel
theorem fe_X12_reads_126 : mj_f mi_X12_reads 126 = some (.getfield 137, 3, 12, 41, .null) := by decide +kernel
theorem fe_X12_reads_129 : mj_f mi_X12_reads 129 = some (.iload_n 3, 1, 3, 0, .null) := by decide +kernel
theorem fe_X12_reads_130 : mj_f mi_X12_reads 130 = some (.iconst 0, 1, 0, 0, .int (0)) := by decide +kernel
theorem fe_X12_reads_131 : mj_f mi_X12_reads 131 = some (.bastore, 1, 0, 0, .null) := by decide +kernel
theorem fe_X12_reads_132 : mj_f mi_X12_reads 132 = some (.iinc 3 1, 3, 3, 0, .int (1)) := by decide +kernel
theorem fe_X12_reads_135 : mj_f mi_X12_reads 135 = some (.goto (-18), 3, 117, 0, .null) := by decide +kernel
theorem fe_X12_reads_138 : mj_f mi_X12_reads 138 = some (.iload_n 2, 1, 2, 0, .null) := by decide +kernel
theorem fe_X12_reads_139 : mj_f mi_X12_reads 139 = some (.iconst 1, 1, 0, 0, .int (1)) := by decide +kernel
theorem fe_X12_reads_140 : mj_f mi_X12_reads 140 = some (.if_icmp .ne 12, 3, 152, 0, .null) := by decide +kernel
theorem fe_X12_reads_143 : mj_f mi_X12_reads 143 = some (.aload_n 0, 1, 0, 0, .null) := by decide +kernel
theorem fe_X12_reads_144 : mj_f mi_X12_reads 144 = some (.aload_n 0, 1, 0, 0, .null) := by decide +kernel
theorem fe_X12_reads_145 : mj_f mi_X12_reads 145 = some (.getfield 125, 3, 12, 37, .int 0) := by decide +kernel
theorem fe_X12_reads_148 : mj_f mi_X12_reads 148 = some (.iconst 1, 1, 0, 0, .int (1)) := by decide +kernel
theorem fe_X12_reads_149 : mj_f mi_X12_reads 149 = some (.invokevirtual 341, 3, 249, 2, .null) := by decide +kernel
theorem fe_X12_reads_152 : mj_f mi_X12_reads 152 = some (.iconst 0, 1, 0, 0, .int (0)) := by decide +kernel
theorem fe_X12_reads_153 : mj_f mi_X12_reads 153 = some (.istore_n 3, 1, 3, 0, .null) := by decide +kernel
theorem fe_X12_reads_154 : mj_f mi_X12_reads 154 = some (.iload_n 3, 1, 3, 0, .null) := by decide +kernel
theorem fe_X12_reads_155 : mj_f mi_X12_reads 155 = some (.aload_n 0, 1, 0, 0, .null) := by decide +kernel
theorem fe_X12_reads_156 : mj_f mi_X12_reads 156 = some (.getfield 125, 3, 12, 37, .int 0) := by decide +kernel
theorem fe_X12_reads_159 : mj_f mi_X12_reads 159 = some (.if_icmp .ge 66, 3, 225, 0, .null) := by decide +kernel
theorem fe_X12_reads_162 : mj_f mi_X12_reads 162 = some (.iload_n 2, 1, 2, 0, .null) := by decide +kernel
theorem fe_X12_reads_163 : mj_f mi_X12_reads 163 = some (.iconst 1, 1, 0, 0, .int (1)) := by decide +kernel
theorem fe_X12_reads_164 : mj_f mi_X12_reads 164 = some (.if_icmp .ne 61, 3, 225, 0, .null) := by decide +kernel
theorem fe_X12_reads_167 : mj_f mi_X12_reads 167 = some (.aload_n 0, 1, 0, 0, .null) := by decide +kernel
theorem fe_X12_reads_168 : mj_f mi_X12_reads 168 = some (.getfield 119, 3, 12, 35, .int 0) := by decide +kernel
theorem fe_X12_reads_171 : mj_f mi_X12_reads 171 = some (.ifCond .ne 54, 3, 225, 0, .null) := by decide +kernel
theorem fe_X12_reads_174 : mj_f mi_X12_reads 174 = some (.aload_n 0, 1, 0, 0, .null) := by decide +kernel
theorem fe_X12_reads_175 : mj_f mi_X12_reads 175 = some (.getfield 137, 3, 12, 41, .null) := by decide +kernel
theorem fe_X12_reads_178 : mj_f mi_X12_reads 178 = some (.iload_n 3, 1, 3, 0, .null) := by decide +kernel
theorem fe_X12_reads_179 : mj_f mi_X12_reads 179 = some (.aload_n 0, 1, 0, 0, .null) := by decide +kernel
theorem fe_X12_reads_180 : mj_f mi_X12_reads 180 = some (.getfield 146, 3, 12, 44, .null) := by decide +kernel
theorem fe_X12_reads_183 : mj_f mi_X12_reads 183 = some (.iload_n 3, 1, 3, 0, .null) := by decide +kernel
theorem fe_X12_reads_184 : mj_f mi_X12_reads 184 = some (.laload, 1, 0, 0, .null) := by decide +kernel
theorem fe_X12_reads_185 : mj_f mi_X12_reads 185 = some (.lconst 1, 1, 0, 0, .long 1) := by decide +kernel
theorem fe_X12_reads_186 : mj_f mi_X12_reads 186 = some (.lcmp, 1, 0, 0, .null) := by decide +kernel
theorem fe_X12_reads_187 : mj_f mi_X12_reads 187 = some (.ifCond .ne 7, 3, 194, 0, .null) := by decide +kernel
theorem fe_X12_reads_190 : mj_f mi_X12_reads 190 = some (.iconst 1, 1, 0, 0, .int (1)) := by decide +kernel
theorem fe_X12_reads_191 : mj_f mi_X12_reads 191 = some (.goto 4, 3, 195, 0, .null) := by decide +kernel
theorem fe_X12_reads_194 : mj_f mi_X12_reads 194 = some (.iconst 0, 1, 0, 0, .int (0)) := by decide +kernel
theorem fe_X12_reads_195 : mj_f mi_X12_reads 195 = some (.bastore, 1, 0, 0, .null) := by decide +kernel
theorem fe_X12_reads_196 : mj_f mi_X12_reads 196 = some (.aload_n 0, 1, 0, 0, .null) := by decide +kernel
theorem fe_X12_reads_197 : mj_f mi_X12_reads 197 = some (.getfield 140, 3, 12, 42, .null) := by decide +kernel
theorem fe_X12_reads_200 : mj_f mi_X12_reads 200 = some (.iconst 0, 1, 0, 0, .int (0)) := by decide +kernel
theorem fe_X12_reads_201 : mj_f mi_X12_reads 201 = some (.dup2, 1, 0, 0, .null) := by decide +kernel
theorem fe_X12_reads_202 : mj_f mi_X12_reads 202 = some (.iaload, 1, 0, 0, .null) := by decide +kernel
theorem fe_X12_reads_203 : mj_f mi_X12_reads 203 = some (.aload_n 0, 1, 0, 0, .null) := by decide +kernel
theorem fe_X12_reads_204 : mj_f mi_X12_reads 204 = some (.getfield 137, 3, 12, 41, .null) := by decide +kernel
theorem fe_X12_reads_207 : mj_f mi_X12_reads 207 = some (.iload_n 3, 1, 3, 0, .null) := by decide +kernel
theorem fe_X12_reads_208 : mj_f mi_X12_reads 208 = some (.baload, 1, 0, 0, .null) := by decide +kernel
theorem fe_X12_reads_209 : mj_f mi_X12_reads 209 = some (.ifCond .eq 7, 3, 216, 0, .null) := by decide +kernel
theorem fe_X12_reads_212 : mj_f mi_X12_reads 212 = some (.iconst 1, 1, 0, 0, .int (1)) := by decide +kernel
theorem fe_X12_reads_213 : mj_f mi_X12_reads 213 = some (.goto 4, 3, 217, 0, .null) := by decide +kernel
theorem fe_X12_reads_216 : mj_f mi_X12_reads 216 = some (.iconst 0, 1, 0, 0, .int (0)) := by decide +kernel
theorem fe_X12_reads_217 : mj_f mi_X12_reads 217 = some (.isub, 1, 0, 0, .null) := by decide +kernel
theorem fe_X12_reads_218 : mj_f mi_X12_reads 218 = some (.iastore, 1, 0, 0, .null) := by decide +kernel
theorem fe_X12_reads_219 : mj_f mi_X12_reads 219 = some (.iinc 3 1, 3, 3, 0, .int (1)) := by decide +kernel
theorem fe_X12_reads_222 : mj_f mi_X12_reads 222 = some (.goto (-68), 3, 154, 0, .null) := by decide +kernel
theorem fe_X12_reads_225 : mj_f mi_X12_reads 225 = some (.iconst 1, 1, 0, 0, .int (1)) := by decide +kernel
theorem fe_X12_reads_226 : mj_f mi_X12_reads 226 = some (.istore_n 3, 1, 3, 0, .null) := by decide +kernel
theorem fe_X12_reads_227 : mj_f mi_X12_reads 227 = some (.iload_n 3, 1, 3, 0, .null) := by decide +kernel
theorem fe_X12_reads_228 : mj_f mi_X12_reads 228 = some (.ifCond .eq 124, 3, 352, 0, .null) := by decide +kernel
theorem fe_X12_reads_231 : mj_f mi_X12_reads 231 = some (.aload_n 0, 1, 0, 0, .null) := by decide +kernel
theorem fe_X12_reads_232 : mj_f mi_X12_reads 232 = some (.getfield 119, 3, 12, 35, .int 0) := by decide +kernel
theorem fe_X12_reads_235 : mj_f mi_X12_reads 235 = some (.ifCond .ne 117, 3, 352, 0, .null) := by decide +kernel
theorem fe_X12_reads_238 : mj_f mi_X12_reads 238 = some (.aload_n 0, 1, 0, 0, .null) := by decide +kernel
theorem fe_X12_reads_239 : mj_f mi_X12_reads 239 = some (.getfield 116, 3, 12, 34, .int 0) := by decide +kernel
theorem fe_X12_reads_242 : mj_f mi_X12_reads 242 = some (.istore 4, 2, 4, 0, .null) := by decide +kernel
theorem fe_X12_reads_244 : mj_f mi_X12_reads 244 = some (.aload_n 0, 1, 0, 0, .null) := by decide +kernel
theorem fe_X12_reads_245 : mj_f mi_X12_reads 245 = some (.invokevirtual 327, 3, 246, 0, .null) := by decide +kernel
theorem fe_X12_reads_248 : mj_f mi_X12_reads 248 = some (.istore 5, 2, 5, 0, .null) := by decide +kernel
theorem fe_X12_reads_250 : mj_f mi_X12_reads 250 = some (.iload 5, 2, 5, 0, .null) := by decide +kernel
theorem fe_X12_reads_252 : mj_f mi_X12_reads 252 = some (.bipush 6, 2, 0, 0, .int (6)) := by decide +kernel
theorem fe_X12_reads_254 : mj_f mi_X12_reads 254 = some (.if_icmp .gt 11, 3, 265, 0, .null) := by decide +kernel
theorem fe_X12_reads_257 : mj_f mi_X12_reads 257 = some (.aload_n 0, 1, 0, 0, .null) := by decide +kernel
theorem fe_X12_reads_258 : mj_f mi_X12_reads 258 = some (.getfield 131, 3, 12, 39, .int 0) := by decide +kernel
theorem fe_X12_reads_261 : mj_f mi_X12_reads 261 = some (.iconst 3, 1, 0, 0, .int (3)) := by decide +kernel
theorem fe_X12_reads_262 : mj_f mi_X12_reads 262 = some (.if_icmp .ne 10, 3, 272, 0, .null) := by decide +kernel
theorem fe_X12_reads_265 : mj_f mi_X12_reads 265 = some (.aload_n 0, 1, 0, 0, .null) := by decide +kernel
theorem fe_X12_reads_266 : mj_f mi_X12_reads 266 = some (.iconst 3, 1, 0, 0, .int (3)) := by decide +kernel
theorem fe_X12_reads_267 : mj_f mi_X12_reads 267 = some (.iload 4, 2, 4, 0, .null) := by decide +kernel
theorem fe_X12_reads_269 : mj_f mi_X12_reads 269 = some (.invokevirtual 324, 3, 245, 2, .null) := by decide +kernel
theorem fe_X12_reads_272 : mj_f mi_X12_reads 272 = some (.aload_n 0, 1, 0, 0, .null) := by decide +kernel
theorem fe_X12_reads_273 : mj_f mi_X12_reads 273 = some (.getfield 119, 3, 12, 35, .int 0) := by decide +kernel
theorem fe_X12_reads_276 : mj_f mi_X12_reads 276 = some (.ifCond .le 4, 3, 280, 0, .null) := by decide +kernel
theorem fe_X12_reads_279 : mj_f mi_X12_reads 279 = some (.return_, 1, 0, 0, .null) := by decide +kernel
theorem fe_X12_reads_280 : mj_f mi_X12_reads 280 = some (.aload_n 0, 1, 0, 0, .null) := by decide +kernel
theorem fe_X12_reads_281 : mj_f mi_X12_reads 281 = some (.getfield 134, 3, 12, 40, .null) := by decide +kernel
theorem fe_X12_reads_284 : mj_f mi_X12_reads 284 = some (.aload_n 0, 1, 0, 0, .null) := by decide +kernel
theorem fe_X12_reads_285 : mj_f mi_X12_reads 285 = some (.getfield 131, 3, 12, 39, .int 0) := by decide +kernel
theorem fe_X12_reads_288 : mj_f mi_X12_reads 288 = some (.iload 5, 2, 5, 0, .null) := by decide +kernel
theorem fe_X12_reads_290 : mj_f mi_X12_reads 290 = some (.iastore, 1, 0, 0, .null) := by decide +kernel
theorem fe_X12_reads_291 : mj_f mi_X12_reads 291 = some (.aload_n 0, 1, 0, 0, .null) := by decide +kernel
theorem fe_X12_reads_292 : mj_f mi_X12_reads 292 = some (.dup, 1, 0, 0, .null) := by decide +kernel
theorem fe_X12_reads_293 : mj_f mi_X12_reads 293 = some (.getfield 131, 3, 12, 39, .int 0) := by decide +kernel
theorem fe_X12_reads_296 : mj_f mi_X12_reads 296 = some (.iconst 1, 1, 0, 0, .int (1)) := by decide +kernel
theorem fe_X12_reads_297 : mj_f mi_X12_reads 297 = some (.iadd, 1, 0, 0, .null) := by decide +kernel
theorem fe_X12_reads_298 : mj_f mi_X12_reads 298 = some (.putfield 131, 3, 12, 39, .int 0) := by decide +kernel
theorem fe_X12_reads_301 : mj_f mi_X12_reads 301 = some (.iload 5, 2, 5, 0, .null) := by decide +kernel
theorem fe_X12_reads_303 : mj_f mi_X12_reads 303 = some (.iconst 2, 1, 0, 0, .int (2)) := by decide +kernel
theorem fe_X12_reads_304 : mj_f mi_X12_reads 304 = some (.if_icmp .le 7, 3, 311, 0, .null) := by decide +kernel
theorem fe_X12_reads_307 : mj_f mi_X12_reads 307 = some (.iconst 1, 1, 0, 0, .int (1)) := by decide +kernel
theorem fe_X12_reads_308 : mj_f mi_X12_reads 308 = some (.goto 4, 3, 312, 0, .null) := by decide +kernel
theorem fe_X12_reads_311 : mj_f mi_X12_reads 311 = some (.iconst 0, 1, 0, 0, .int (0)) := by decide +kernel
theorem fe_X12_reads_312 : mj_f mi_X12_reads 312 = some (.istore_n 3, 1, 3, 0, .null) := by decide +kernel
theorem fe_X12_reads_313 : mj_f mi_X12_reads 313 = some (.iload_n 3, 1, 3, 0, .null) := by decide +kernel
theorem fe_X12_reads_314 : mj_f mi_X12_reads 314 = some (.ifCond .eq 18, 3, 332, 0, .null) := by decide +kernel
theorem fe_X12_reads_317 : mj_f mi_X12_reads 317 = some (.aload_n 0, 1, 0, 0, .null) := by decide +kernel
theorem fe_X12_reads_318 : mj_f mi_X12_reads 318 = some (.iload 5, 2, 5, 0, .null) := by decide +kernel
theorem fe_X12_reads_320 : mj_f mi_X12_reads 320 = some (.aload_n 0, 1, 0, 0, .null) := by decide +kernel
theorem fe_X12_reads_321 : mj_f mi_X12_reads 321 = some (.getfield 131, 3, 12, 39, .int 0) := by decide +kernel
theorem fe_X12_reads_324 : mj_f mi_X12_reads 324 = some (.iconst 1, 1, 0, 0, .int (1)) := by decide +kernel
theorem fe_X12_reads_325 : mj_f mi_X12_reads 325 = some (.isub, 1, 0, 0, .null) := by decide +kernel
theorem fe_X12_reads_326 : mj_f mi_X12_reads 326 = some (.invokevirtual 344, 3, 253, 2, .null) := by decide +kernel
theorem fe_X12_reads_329 : mj_f mi_X12_reads 329 = some (.goto 20, 3, 349, 0, .null) := by decide +kernel
theorem fe_X12_reads_332 : mj_f mi_X12_reads 332 = some (.aload_n 0, 1, 0, 0, .null) := by decide +kernel
theorem fe_X12_reads_333 : mj_f mi_X12_reads 333 = some (.iload 5, 2, 5, 0, .null) := by decide +kernel
theorem fe_X12_reads_335 : mj_f mi_X12_reads 335 = some (.aload_n 0, 1, 0, 0, .null) := by decide +kernel
theorem fe_X12_reads_336 : mj_f mi_X12_reads 336 = some (.getfield 140, 3, 12, 42, .null) := by decide +kernel
theorem fe_X12_reads_339 : mj_f mi_X12_reads 339 = some (.aload_n 0, 1, 0, 0, .null) := by decide +kernel
theorem fe_X12_reads_340 : mj_f mi_X12_reads 340 = some (.getfield 131, 3, 12, 39, .int 0) := by decide +kernel
theorem fe_X12_reads_343 : mj_f mi_X12_reads 343 = some (.iconst 1, 1, 0, 0, .int (1)) := by decide +kernel
theorem fe_X12_reads_344 : mj_f mi_X12_reads 344 = some (.isub, 1, 0, 0, .null) := by decide +kernel
theorem fe_X12_reads_345 : mj_f mi_X12_reads 345 = some (.iaload, 1, 0, 0, .null) := by decide +kernel
theorem fe_X12_reads_346 : mj_f mi_X12_reads 346 = some (.invokevirtual 347, 3, 251, 2, .null) := by decide +kernel
theorem fe_X12_reads_349 : mj_f mi_X12_reads 349 = some (.goto (-122), 3, 227, 0, .null) := by decide +kernel
theorem fe_X12_reads_352 : mj_f mi_X12_reads 352 = some (.aload_n 0, 1, 0, 0, .null) := by decide +kernel
theorem fe_X12_reads_353 : mj_f mi_X12_reads 353 = some (.getfield 131, 3, 12, 39, .int 0) := by decide +kernel
theorem fe_X12_reads_356 : mj_f mi_X12_reads 356 = some (.iconst 2, 1, 0, 0, .int (2)) := by decide +kernel
theorem fe_X12_reads_357 : mj_f mi_X12_reads 357 = some (.isub, 1, 0, 0, .null) := by decide +kernel
theorem fe_X12_reads_358 : mj_f mi_X12_reads 358 = some (.istore 4, 2, 4, 0, .null) := by decide +kernel
theorem fe_X12_reads_360 : mj_f mi_X12_reads 360 = some (.iload 4, 2, 4, 0, .null) := by decide +kernel
theorem fe_X12_reads_362 : mj_f mi_X12_reads 362 = some (.ifCond .lt 29, 3, 391, 0, .null) := by decide +kernel
theorem fe_X12_reads_365 : mj_f mi_X12_reads 365 = some (.aload_n 0, 1, 0, 0, .null) := by decide +kernel
theorem fe_X12_reads_366 : mj_f mi_X12_reads 366 = some (.getfield 119, 3, 12, 35, .int 0) := by decide +kernel
theorem fe_X12_reads_369 : mj_f mi_X12_reads 369 = some (.ifCond .ne 22, 3, 391, 0, .null) := by decide +kernel
theorem fe_X12_reads_372 : mj_f mi_X12_reads 372 = some (.aload_n 0, 1, 0, 0, .null) := by decide +kernel
theorem fe_X12_reads_373 : mj_f mi_X12_reads 373 = some (.aload_n 0, 1, 0, 0, .null) := by decide +kernel
theorem fe_X12_reads_374 : mj_f mi_X12_reads 374 = some (.getfield 134, 3, 12, 40, .null) := by decide +kernel
theorem fe_X12_reads_377 : mj_f mi_X12_reads 377 = some (.iload 4, 2, 4, 0, .null) := by decide +kernel
theorem fe_X12_reads_379 : mj_f mi_X12_reads 379 = some (.iaload, 1, 0, 0, .null) := by decide +kernel
theorem fe_X12_reads_380 : mj_f mi_X12_reads 380 = some (.iload 4, 2, 4, 0, .null) := by decide +kernel
theorem fe_X12_reads_382 : mj_f mi_X12_reads 382 = some (.invokevirtual 350, 3, 252, 2, .null) := by decide +kernel
theorem fe_X12_reads_385 : mj_f mi_X12_reads 385 = some (.iinc 4 (-1), 3, 4, 0, .int (-1)) := by decide +kernel
theorem fe_X12_reads_388 : mj_f mi_X12_reads 388 = some (.goto (-28), 3, 360, 0, .null) := by decide +kernel
theorem fe_X12_reads_391 : mj_f mi_X12_reads 391 = some (.aload_n 0, 1, 0, 0, .null) := by decide +kernel
theorem fe_X12_reads_392 : mj_f mi_X12_reads 392 = some (.getfield 119, 3, 12, 35, .int 0) := by decide +kernel
theorem fe_X12_reads_395 : mj_f mi_X12_reads 395 = some (.ifCond .le 4, 3, 399, 0, .null) := by decide +kernel
theorem fe_X12_reads_398 : mj_f mi_X12_reads 398 = some (.return_, 1, 0, 0, .null) := by decide +kernel
theorem fe_X12_reads_399 : mj_f mi_X12_reads 399 = some (.bipush 7, 2, 0, 0, .int (7)) := by decide +kernel
theorem fe_X12_reads_401 : mj_f mi_X12_reads 401 = some (.istore 4, 2, 4, 0, .null) := by decide +kernel
theorem fe_X12_reads_403 : mj_f mi_X12_reads 403 = some (.iconst 0, 1, 0, 0, .int (0)) := by decide +kernel
theorem fe_X12_reads_404 : mj_f mi_X12_reads 404 = some (.istore 5, 2, 5, 0, .null) := by decide +kernel
theorem fe_X12_reads_406 : mj_f mi_X12_reads 406 = some (.iload 5, 2, 5, 0, .null) := by decide +kernel
theorem fe_X12_reads_408 : mj_f mi_X12_reads 408 = some (.aload_n 0, 1, 0, 0, .null) := by decide +kernel
theorem fe_X12_reads_409 : mj_f mi_X12_reads 409 = some (.getfield 116, 3, 12, 34, .int 0) := by decide +kernel
theorem fe_X12_reads_412 : mj_f mi_X12_reads 412 = some (.if_icmp .ge 28, 3, 440, 0, .null) := by decide +kernel
theorem fe_X12_reads_415 : mj_f mi_X12_reads 415 = some (.bipush 31, 2, 0, 0, .int (31)) := by decide +kernel
theorem fe_X12_reads_417 : mj_f mi_X12_reads 417 = some (.iload 4, 2, 4, 0, .null) := by decide +kernel
theorem fe_X12_reads_419 : mj_f mi_X12_reads 419 = some (.imul, 1, 0, 0, .null) := by decide +kernel
theorem fe_X12_reads_420 : mj_f mi_X12_reads 420 = some (.aload_n 0, 1, 0, 0, .null) := by decide +kernel
theorem fe_X12_reads_421 : mj_f mi_X12_reads 421 = some (.getfield 110, 3, 12, 32, .null) := by decide +kernel
theorem fe_X12_reads_424 : mj_f mi_X12_reads 424 = some (.iload 5, 2, 5, 0, .null) := by decide +kernel
theorem fe_X12_reads_426 : mj_f mi_X12_reads 426 = some (.iaload, 1, 0, 0, .null) := by decide +kernel
theorem fe_X12_reads_427 : mj_f mi_X12_reads 427 = some (.iadd, 1, 0, 0, .null) := by decide +kernel
theorem fe_X12_reads_428 : mj_f mi_X12_reads 428 = some (.sipush 255, 3, 0, 0, .int (255)) := by decide +kernel
theorem fe_X12_reads_431 : mj_f mi_X12_reads 431 = some (.iand, 1, 0, 0, .null) := by decide +kernel
theorem fe_X12_reads_432 : mj_f mi_X12_reads 432 = some (.istore 4, 2, 4, 0, .null) := by decide +kernel
theorem fe_X12_reads_434 : mj_f mi_X12_reads 434 = some (.iinc 5 1, 3, 5, 0, .int (1)) := by decide +kernel
theorem fe_X12_reads_437 : mj_f mi_X12_reads 437 = some (.goto (-31), 3, 406, 0, .null) := by decide +kernel
theorem fe_X12_reads_440 : mj_f mi_X12_reads 440 = some (.aload_n 0, 1, 0, 0, .null) := by decide +kernel
theorem fe_X12_reads_441 : mj_f mi_X12_reads 441 = some (.getfield 116, 3, 12, 34, .int 0) := by decide +kernel
theorem fe_X12_reads_444 : mj_f mi_X12_reads 444 = some (.istore 5, 2, 5, 0, .null) := by decide +kernel
theorem fe_X12_reads_446 : mj_f mi_X12_reads 446 = some (.aload_n 0, 1, 0, 0, .null) := by decide +kernel
theorem fe_X12_reads_447 : mj_f mi_X12_reads 447 = some (.invokevirtual 327, 3, 246, 0, .null) := by decide +kernel
theorem fe_X12_reads_450 : mj_f mi_X12_reads 450 = some (.iload 4, 2, 4, 0, .null) := by decide +kernel
theorem fe_X12_reads_452 : mj_f mi_X12_reads 452 = some (.if_icmp .eq 10, 3, 462, 0, .null) := by decide +kernel
theorem fe_X12_reads_455 : mj_f mi_X12_reads 455 = some (.aload_n 0, 1, 0, 0, .null) := by decide +kernel
theorem fe_X12_reads_456 : mj_f mi_X12_reads 456 = some (.iconst 4, 1, 0, 0, .int (4)) := by decide +kernel
theorem fe_X12_reads_457 : mj_f mi_X12_reads 457 = some (.iload 5, 2, 5, 0, .null) := by decide +kernel
theorem fe_X12_reads_459 : mj_f mi_X12_reads 459 = some (.invokevirtual 324, 3, 245, 2, .null) := by decide +kernel
theorem fe_X12_reads_462 : mj_f mi_X12_reads 462 = some (.aload_n 0, 1, 0, 0, .null) := by decide +kernel
theorem fe_X12_reads_463 : mj_f mi_X12_reads 463 = some (.getfield 116, 3, 12, 34, .int 0) := by decide +kernel
theorem fe_X12_reads_466 : mj_f mi_X12_reads 466 = some (.aload_n 0, 1, 0, 0, .null) := by decide +kernel
theorem fe_X12_reads_467 : mj_f mi_X12_reads 467 = some (.getfield 113, 3, 12, 33, .int 0) := by decide +kernel
theorem fe_X12_reads_470 : mj_f mi_X12_reads 470 = some (.if_icmp .ge 12, 3, 482, 0, .null) := by decide +kernel
theorem fe_X12_reads_473 : mj_f mi_X12_reads 473 = some (.aload_n 0, 1, 0, 0, .null) := by decide +kernel
theorem fe_X12_reads_474 : mj_f mi_X12_reads 474 = some (.iconst 4, 1, 0, 0, .int (4)) := by decide +kernel
theorem fe_X12_reads_475 : mj_f mi_X12_reads 475 = some (.aload_n 0, 1, 0, 0, .null) := by decide +kernel
theorem fe_X12_reads_476 : mj_f mi_X12_reads 476 = some (.getfield 116, 3, 12, 34, .int 0) := by decide +kernel
theorem fe_X12_reads_479 : mj_f mi_X12_reads 479 = some (.invokevirtual 324, 3, 245, 2, .null) := by decide +kernel
theorem fe_X12_reads_482 : mj_f mi_X12_reads 482 = some (.return_, 1, 0, 0, .null) := by decide +kernel
