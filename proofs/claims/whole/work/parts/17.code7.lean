/-! code tables: a program wrote them -/
def ct_X12_load : MJT := [
  (0, 0, .aload_n 0, 1, 0, 0, .null),
  (1, 1222, .getfield 42, 3, 12, 10, .int 0),
  (4, 0, .istore_n 2, 1, 2, 0, .null),
  (5, 0, .aload_n 0, 1, 0, 0, .null),
  (6, 0, .iconst 0, 1, 0, 0, .int (0)),
  (7, 1222, .putfield 42, 3, 12, 10, .int 0),
  (10, 0, .aload_n 0, 1, 0, 0, .null),
  (11, 0, .iconst 0, 1, 0, 0, .int (0)),
  (12, 1223, .putfield 46, 3, 12, 11, .int 0),
  (15, 0, .aload_n 0, 1, 0, 0, .null),
  (16, 0, .iconst (-1), 1, 0, 0, .int (-1)),
  (17, 1224, .putfield 49, 3, 12, 12, .int 0),
  (20, 0, .iconst 0, 1, 0, 0, .int (0)),
  (21, 0, .istore_n 3, 1, 3, 0, .null),
  (22, 0, .iload_n 3, 1, 3, 0, .null),
  (23, 0, .iload_n 2, 1, 2, 0, .null),
  (24, 0, .if_icmp .ge 21, 3, 45, 0, .null),
  (27, 0, .aload_n 0, 1, 0, 0, .null),
  (28, 1244, .getfield 110, 3, 12, 32, .null),
  (31, 0, .iload_n 3, 1, 3, 0, .null),
  (32, 0, .aload_n 0, 1, 0, 0, .null),
  (33, 1221, .getfield 39, 3, 12, 9, .null),
  (36, 0, .iload_n 3, 1, 3, 0, .null),
  (37, 0, .iaload, 1, 0, 0, .null),
  (38, 0, .iastore, 1, 0, 0, .null),
  (39, 0, .iinc 3 1, 3, 3, 0, .int (1)),
  (42, 0, .goto (-20), 3, 22, 0, .null),
  (45, 0, .aload_n 0, 1, 0, 0, .null),
  (46, 0, .iload_n 2, 1, 2, 0, .null),
  (47, 1570, .invokevirtual 304, 3, 254, 1, .null),
  (50, 0, .aload_n 0, 1, 0, 0, .null),
  (51, 1247, .getfield 119, 3, 12, 35, .int 0),
  (54, 0, .ifCond .le 21, 3, 75, 0, .null),
  (57, 0, .aload_n 0, 1, 0, 0, .null),
  (58, 0, .aload_n 0, 1, 0, 0, .null),
  (59, 1247, .getfield 119, 3, 12, 35, .int 0),
  (62, 1223, .putfield 46, 3, 12, 11, .int 0),
  (65, 0, .aload_n 0, 1, 0, 0, .null),
  (66, 0, .aload_n 0, 1, 0, 0, .null),
  (67, 1248, .getfield 122, 3, 12, 36, .int 0),
  (70, 1224, .putfield 49, 3, 12, 12, .int 0),
  (73, 0, .iconst (-1), 1, 0, 0, .int (-1)),
  (74, 0, .ireturn, 1, 0, 0, .null),
  (75, 0, .iload_n 1, 1, 1, 0, .null),
  (76, 1379, .invokestatic 276, 3, 216, 1, .null),
  (79, 0, .ifCond .eq 20, 3, 99, 0, .null),
  (82, 0, .aload_n 0, 1, 0, 0, .null),
  (83, 1212, .getfield 7, 3, 12, 0, .null),
  (86, 0, .iload_n 1, 1, 1, 0, .null),
  (87, 0, .iaload, 1, 0, 0, .null),
  (88, 0, .aload_n 0, 1, 0, 0, .null),
  (89, 1249, .getfield 125, 3, 12, 37, .int 0),
  (92, 0, .iadd, 1, 0, 0, .null),
  (93, 0, .sipush 160, 3, 0, 0, .int (160)),
  (96, 0, .if_icmp .le 6, 3, 102, 0, .null),
  (99, 0, .bipush (-2), 2, 0, 0, .int (-2)),
  (101, 0, .ireturn, 1, 0, 0, .null),
  (102, 0, .aload_n 0, 1, 0, 0, .null),
  (103, 1212, .getfield 7, 3, 12, 0, .null),
  (106, 0, .iload_n 1, 1, 1, 0, .null),
  (107, 0, .iaload, 1, 0, 0, .null),
  (108, 0, .bipush 32, 2, 0, 0, .int (32)),
  (110, 0, .irem, 1, 0, 0, .null),
  (111, 0, .ifCond .ne 7, 3, 118, 0, .null),
  (114, 0, .iconst 1, 1, 0, 0, .int (1)),
  (115, 0, .goto 4, 3, 119, 0, .null),
  (118, 0, .iconst 0, 1, 0, 0, .int (0)),
  (119, 0, .istore_n 3, 1, 3, 0, .null),
  (120, 0, .aload_n 0, 1, 0, 0, .null),
  (121, 1212, .getfield 7, 3, 12, 0, .null),
  (124, 0, .iload_n 1, 1, 1, 0, .null),
  (125, 0, .iaload, 1, 0, 0, .null),
  (126, 0, .bipush 32, 2, 0, 0, .int (32)),
  (128, 0, .idiv, 1, 0, 0, .null),
  (129, 0, .istore 4, 2, 4, 0, .null),
  (131, 0, .iconst 0, 1, 0, 0, .int (0)),
  (132, 0, .istore 5, 2, 5, 0, .null),
  (134, 0, .iconst 0, 1, 0, 0, .int (0)),
  (135, 0, .istore 6, 2, 6, 0, .null),
  (137, 0, .iload 6, 2, 6, 0, .null),
  (139, 0, .aload_n 0, 1, 0, 0, .null),
  (140, 1249, .getfield 125, 3, 12, 37, .int 0),
  (143, 0, .if_icmp .ge 40, 3, 183, 0, .null),
  (146, 0, .aload_n 0, 1, 0, 0, .null),
  (147, 1260, .getfield 158, 3, 12, 48, .null),
  (150, 0, .iload 6, 2, 6, 0, .null),
  (152, 0, .aload_n 0, 1, 0, 0, .null),
  (153, 1253, .getfield 137, 3, 12, 41, .null),
  (156, 0, .iload 6, 2, 6, 0, .null),
  (158, 0, .baload, 1, 0, 0, .null),
  (159, 0, .ifCond .eq 7, 3, 166, 0, .null),
  (162, 0, .lconst 0, 1, 0, 0, .long 0),
  (163, 0, .goto 13, 3, 176, 0, .null),
  (166, 0, .aload_n 0, 1, 0, 0, .null),
  (167, 1257, .getfield 149, 3, 12, 45, .null),
  (170, 0, .iload 5, 2, 5, 0, .null),
  (172, 0, .iinc 5 1, 3, 5, 0, .int (1)),
  (175, 0, .laload, 1, 0, 0, .null),
  (176, 0, .lastore, 1, 0, 0, .null),
  (177, 0, .iinc 6 1, 3, 6, 0, .int (1)),
  (180, 0, .goto (-43), 3, 137, 0, .null),
  (183, 0, .aload_n 0, 1, 0, 0, .null),
  (184, 1249, .getfield 125, 3, 12, 37, .int 0),
  (187, 0, .istore 6, 2, 6, 0, .null),
  (189, 0, .iconst 0, 1, 0, 0, .int (0)),
  (190, 0, .istore 7, 2, 7, 0, .null),
  (192, 0, .iload 7, 2, 7, 0, .null),
  (194, 0, .iload 6, 2, 6, 0, .null),
  (196, 0, .if_icmp .ge 23, 3, 219, 0, .null),
  (199, 0, .aload_n 0, 1, 0, 0, .null),
  (200, 1261, .getfield 161, 3, 12, 49, .null),
  (203, 0, .iload 7, 2, 7, 0, .null),
  (205, 0, .aload_n 0, 1, 0, 0, .null),
  (206, 1253, .getfield 137, 3, 12, 41, .null),
  (209, 0, .iload 7, 2, 7, 0, .null),
  (211, 0, .baload, 1, 0, 0, .null),
  (212, 0, .bastore, 1, 0, 0, .null),
  (213, 0, .iinc 7 1, 3, 7, 0, .int (1)),
  (216, 0, .goto (-24), 3, 192, 0, .null),
  (219, 0, .iload_n 3, 1, 3, 0, .null),
  (220, 0, .ifCond .eq 132, 3, 352, 0, .null),
  (223, 0, .iconst 0, 1, 0, 0, .int (0)),
  (224, 0, .istore 7, 2, 7, 0, .null),
  (226, 0, .iload 7, 2, 7, 0, .null),
  (228, 0, .iload 6, 2, 6, 0, .null),
  (230, 0, .if_icmp .ge 63, 3, 293, 0, .null),
  (233, 0, .aload_n 0, 1, 0, 0, .null),
  (234, 1215, .getfield 19, 3, 12, 3, .null),
  (237, 0, .sipush 160, 3, 0, 0, .int (160)),
  (240, 0, .iload_n 1, 1, 1, 0, .null),
  (241, 0, .imul, 1, 0, 0, .null),
  (242, 0, .aload_n 0, 1, 0, 0, .null),
  (243, 1212, .getfield 7, 3, 12, 0, .null),
  (246, 0, .iload_n 1, 1, 1, 0, .null),
  (247, 0, .iaload, 1, 0, 0, .null),
  (248, 0, .iadd, 1, 0, 0, .null),
  (249, 0, .iload 7, 2, 7, 0, .null),
  (251, 0, .iadd, 1, 0, 0, .null),
  (252, 0, .aload_n 0, 1, 0, 0, .null),
  (253, 1260, .getfield 158, 3, 12, 48, .null),
  (256, 0, .iload 7, 2, 7, 0, .null),
  (258, 0, .laload, 1, 0, 0, .null),
  (259, 0, .lastore, 1, 0, 0, .null),
  (260, 0, .aload_n 0, 1, 0, 0, .null),
  (261, 1216, .getfield 23, 3, 12, 4, .null),
  (264, 0, .sipush 160, 3, 0, 0, .int (160)),
  (267, 0, .iload_n 1, 1, 1, 0, .null),
  (268, 0, .imul, 1, 0, 0, .null),
  (269, 0, .aload_n 0, 1, 0, 0, .null),
  (270, 1212, .getfield 7, 3, 12, 0, .null),
  (273, 0, .iload_n 1, 1, 1, 0, .null),
  (274, 0, .iaload, 1, 0, 0, .null),
  (275, 0, .iadd, 1, 0, 0, .null),
  (276, 0, .iload 7, 2, 7, 0, .null),
  (278, 0, .iadd, 1, 0, 0, .null),
  (279, 0, .aload_n 0, 1, 0, 0, .null),
  (280, 1261, .getfield 161, 3, 12, 49, .null),
  (283, 0, .iload 7, 2, 7, 0, .null),
  (285, 0, .baload, 1, 0, 0, .null),
  (286, 0, .bastore, 1, 0, 0, .null),
  (287, 0, .iinc 7 1, 3, 7, 0, .int (1)),
  (290, 0, .goto (-64), 3, 226, 0, .null),
  (293, 0, .aload_n 0, 1, 0, 0, .null),
  (294, 1212, .getfield 7, 3, 12, 0, .null),
  (297, 0, .iload_n 1, 1, 1, 0, .null),
  (298, 0, .dup2, 1, 0, 0, .null),
  (299, 0, .iaload, 1, 0, 0, .null),
  (300, 0, .iload 6, 2, 6, 0, .null),
  (302, 0, .iadd, 1, 0, 0, .null),
  (303, 0, .iastore, 1, 0, 0, .null),
  (304, 0, .aload_n 0, 1, 0, 0, .null),
  (305, 0, .iload_n 2, 1, 2, 0, .null),
  (306, 1239, .putfield 95, 3, 12, 27, .int 0),
  (309, 0, .iconst 0, 1, 0, 0, .int (0)),
  (310, 0, .istore 7, 2, 7, 0, .null),
  (312, 0, .iload 7, 2, 7, 0, .null),
  (314, 0, .iload_n 2, 1, 2, 0, .null),
  (315, 0, .if_icmp .ge 23, 3, 338, 0, .null),
  (318, 0, .aload_n 0, 1, 0, 0, .null),
  (319, 1238, .getfield 92, 3, 12, 26, .null),
  (322, 0, .iload 7, 2, 7, 0, .null),
  (324, 0, .aload_n 0, 1, 0, 0, .null),
  (325, 1244, .getfield 110, 3, 12, 32, .null),
  (328, 0, .iload 7, 2, 7, 0, .null),
  (330, 0, .iaload, 1, 0, 0, .null),
  (331, 0, .iastore, 1, 0, 0, .null),
  (332, 0, .iinc 7 1, 3, 7, 0, .int (1)),
  (335, 0, .goto (-23), 3, 312, 0, .null),
  (338, 0, .aload_n 0, 1, 0, 0, .null),
  (339, 0, .iload_n 1, 1, 1, 0, .null),
  (340, 0, .iload 4, 2, 4, 0, .null),
  (342, 1508, .invokevirtual 273, 3, 215, 2, .null),
  (345, 0, .aload_n 0, 1, 0, 0, .null),
  (346, 1212, .getfield 7, 3, 12, 0, .null),
  (349, 0, .iload_n 1, 1, 1, 0, .null),
  (350, 0, .iaload, 1, 0, 0, .null),
  (351, 0, .ireturn, 1, 0, 0, .null),
  (352, 0, .iconst 0, 1, 0, 0, .int (0)),
  (353, 0, .istore 7, 2, 7, 0, .null),
  (355, 0, .iload 7, 2, 7, 0, .null),
  (357, 0, .iload 6, 2, 6, 0, .null),
  (359, 0, .if_icmp .ge 29, 3, 388, 0, .null),
  (362, 0, .aload_n 0, 1, 0, 0, .null),
  (363, 0, .iload_n 1, 1, 1, 0, .null),
  (364, 0, .aload_n 0, 1, 0, 0, .null),
  (365, 1260, .getfield 158, 3, 12, 48, .null),
  (368, 0, .iload 7, 2, 7, 0, .null),
  (370, 0, .laload, 1, 0, 0, .null),
  (371, 0, .aload_n 0, 1, 0, 0, .null),
  (372, 1261, .getfield 161, 3, 12, 49, .null),
  (375, 0, .iload 7, 2, 7, 0, .null),
  (377, 0, .baload, 1, 0, 0, .null),
  (378, 1389, .invokevirtual 286, 3, 219, 3, .null),
  (381, 0, .pop, 1, 0, 0, .null),
  (382, 0, .iinc 7 1, 3, 7, 0, .int (1)),
  (385, 0, .goto (-30), 3, 355, 0, .null),
  (388, 0, .aload_n 0, 1, 0, 0, .null),
  (389, 1212, .getfield 7, 3, 12, 0, .null),
  (392, 0, .iload_n 1, 1, 1, 0, .null),
  (393, 0, .iaload, 1, 0, 0, .null),
  (394, 0, .ireturn, 1, 0, 0, .null)]
abbrev id_X12_load : Nat := 255
def mi_X12_load : MI := (yX12_load, cX12_load, 8, (some .int), 12, ct_X12_load)
theorem fe_X12_load_0 : mj_f mi_X12_load 0 = some (.aload_n 0, 1, 0, 0, .null) := by decide +kernel
theorem fe_X12_load_1 : mj_f mi_X12_load 1 = some (.getfield 42, 3, 12, 10, .int 0) := by decide +kernel
theorem fe_X12_load_4 : mj_f mi_X12_load 4 = some (.istore_n 2, 1, 2, 0, .null) := by decide +kernel
theorem fe_X12_load_5 : mj_f mi_X12_load 5 = some (.aload_n 0, 1, 0, 0, .null) := by decide +kernel
theorem fe_X12_load_6 : mj_f mi_X12_load 6 = some (.iconst 0, 1, 0, 0, .int (0)) := by decide +kernel
theorem fe_X12_load_7 : mj_f mi_X12_load 7 = some (.putfield 42, 3, 12, 10, .int 0) := by decide +kernel
theorem fe_X12_load_10 : mj_f mi_X12_load 10 = some (.aload_n 0, 1, 0, 0, .null) := by decide +kernel
theorem fe_X12_load_11 : mj_f mi_X12_load 11 = some (.iconst 0, 1, 0, 0, .int (0)) := by decide +kernel
theorem fe_X12_load_12 : mj_f mi_X12_load 12 = some (.putfield 46, 3, 12, 11, .int 0) := by decide +kernel
theorem fe_X12_load_15 : mj_f mi_X12_load 15 = some (.aload_n 0, 1, 0, 0, .null) := by decide +kernel
theorem fe_X12_load_16 : mj_f mi_X12_load 16 = some (.iconst (-1), 1, 0, 0, .int (-1)) := by decide +kernel
theorem fe_X12_load_17 : mj_f mi_X12_load 17 = some (.putfield 49, 3, 12, 12, .int 0) := by decide +kernel
theorem fe_X12_load_20 : mj_f mi_X12_load 20 = some (.iconst 0, 1, 0, 0, .int (0)) := by decide +kernel
theorem fe_X12_load_21 : mj_f mi_X12_load 21 = some (.istore_n 3, 1, 3, 0, .null) := by decide +kernel
theorem fe_X12_load_22 : mj_f mi_X12_load 22 = some (.iload_n 3, 1, 3, 0, .null) := by decide +kernel
theorem fe_X12_load_23 : mj_f mi_X12_load 23 = some (.iload_n 2, 1, 2, 0, .null) := by decide +kernel
theorem fe_X12_load_24 : mj_f mi_X12_load 24 = some (.if_icmp .ge 21, 3, 45, 0, .null) := by decide +kernel
theorem fe_X12_load_27 : mj_f mi_X12_load 27 = some (.aload_n 0, 1, 0, 0, .null) := by decide +kernel
theorem fe_X12_load_28 : mj_f mi_X12_load 28 = some (.getfield 110, 3, 12, 32, .null) := by decide +kernel
theorem fe_X12_load_31 : mj_f mi_X12_load 31 = some (.iload_n 3, 1, 3, 0, .null) := by decide +kernel
theorem fe_X12_load_32 : mj_f mi_X12_load 32 = some (.aload_n 0, 1, 0, 0, .null) := by decide +kernel
theorem fe_X12_load_33 : mj_f mi_X12_load 33 = some (.getfield 39, 3, 12, 9, .null) := by decide +kernel
theorem fe_X12_load_36 : mj_f mi_X12_load 36 = some (.iload_n 3, 1, 3, 0, .null) := by decide +kernel
theorem fe_X12_load_37 : mj_f mi_X12_load 37 = some (.iaload, 1, 0, 0, .null) := by decide +kernel
theorem fe_X12_load_38 : mj_f mi_X12_load 38 = some (.iastore, 1, 0, 0, .null) := by decide +kernel
theorem fe_X12_load_39 : mj_f mi_X12_load 39 = some (.iinc 3 1, 3, 3, 0, .int (1)) := by decide +kernel
theorem fe_X12_load_42 : mj_f mi_X12_load 42 = some (.goto (-20), 3, 22, 0, .null) := by decide +kernel
theorem fe_X12_load_45 : mj_f mi_X12_load 45 = some (.aload_n 0, 1, 0, 0, .null) := by decide +kernel
theorem fe_X12_load_46 : mj_f mi_X12_load 46 = some (.iload_n 2, 1, 2, 0, .null) := by decide +kernel
theorem fe_X12_load_47 : mj_f mi_X12_load 47 = some (.invokevirtual 304, 3, 254, 1, .null) := by decide +kernel
theorem fe_X12_load_50 : mj_f mi_X12_load 50 = some (.aload_n 0, 1, 0, 0, .null) := by decide +kernel
theorem fe_X12_load_51 : mj_f mi_X12_load 51 = some (.getfield 119, 3, 12, 35, .int 0) := by decide +kernel
theorem fe_X12_load_54 : mj_f mi_X12_load 54 = some (.ifCond .le 21, 3, 75, 0, .null) := by decide +kernel
theorem fe_X12_load_57 : mj_f mi_X12_load 57 = some (.aload_n 0, 1, 0, 0, .null) := by decide +kernel
theorem fe_X12_load_58 : mj_f mi_X12_load 58 = some (.aload_n 0, 1, 0, 0, .null) := by decide +kernel
theorem fe_X12_load_59 : mj_f mi_X12_load 59 = some (.getfield 119, 3, 12, 35, .int 0) := by decide +kernel
theorem fe_X12_load_62 : mj_f mi_X12_load 62 = some (.putfield 46, 3, 12, 11, .int 0) := by decide +kernel
theorem fe_X12_load_65 : mj_f mi_X12_load 65 = some (.aload_n 0, 1, 0, 0, .null) := by decide +kernel
theorem fe_X12_load_66 : mj_f mi_X12_load 66 = some (.aload_n 0, 1, 0, 0, .null) := by decide +kernel
theorem fe_X12_load_67 : mj_f mi_X12_load 67 = some (.getfield 122, 3, 12, 36, .int 0) := by decide +kernel
theorem fe_X12_load_70 : mj_f mi_X12_load 70 = some (.putfield 49, 3, 12, 12, .int 0) := by decide +kernel
theorem fe_X12_load_73 : mj_f mi_X12_load 73 = some (.iconst (-1), 1, 0, 0, .int (-1)) := by decide +kernel
theorem fe_X12_load_74 : mj_f mi_X12_load 74 = some (.ireturn, 1, 0, 0, .null) := by decide +kernel
theorem fe_X12_load_75 : mj_f mi_X12_load 75 = some (.iload_n 1, 1, 1, 0, .null) := by decide +kernel
theorem fe_X12_load_76 : mj_f mi_X12_load 76 = some (.invokestatic 276, 3, 216, 1, .null) := by decide +kernel
theorem fe_X12_load_79 : mj_f mi_X12_load 79 = some (.ifCond .eq 20, 3, 99, 0, .null) := by decide +kernel
theorem fe_X12_load_82 : mj_f mi_X12_load 82 = some (.aload_n 0, 1, 0, 0, .null) := by decide +kernel
theorem fe_X12_load_83 : mj_f mi_X12_load 83 = some (.getfield 7, 3, 12, 0, .null) := by decide +kernel
theorem fe_X12_load_86 : mj_f mi_X12_load 86 = some (.iload_n 1, 1, 1, 0, .null) := by decide +kernel
theorem fe_X12_load_87 : mj_f mi_X12_load 87 = some (.iaload, 1, 0, 0, .null) := by decide +kernel
theorem fe_X12_load_88 : mj_f mi_X12_load 88 = some (.aload_n 0, 1, 0, 0, .null) := by decide +kernel
theorem fe_X12_load_89 : mj_f mi_X12_load 89 = some (.getfield 125, 3, 12, 37, .int 0) := by decide +kernel
theorem fe_X12_load_92 : mj_f mi_X12_load 92 = some (.iadd, 1, 0, 0, .null) := by decide +kernel
theorem fe_X12_load_93 : mj_f mi_X12_load 93 = some (.sipush 160, 3, 0, 0, .int (160)) := by decide +kernel
theorem fe_X12_load_96 : mj_f mi_X12_load 96 = some (.if_icmp .le 6, 3, 102, 0, .null) := by decide +kernel
theorem fe_X12_load_99 : mj_f mi_X12_load 99 = some (.bipush (-2), 2, 0, 0, .int (-2)) := by decide +kernel
theorem fe_X12_load_101 : mj_f mi_X12_load 101 = some (.ireturn, 1, 0, 0, .null) := by decide +kernel
theorem fe_X12_load_102 : mj_f mi_X12_load 102 = some (.aload_n 0, 1, 0, 0, .null) := by decide +kernel
theorem fe_X12_load_103 : mj_f mi_X12_load 103 = some (.getfield 7, 3, 12, 0, .null) := by decide +kernel
theorem fe_X12_load_106 : mj_f mi_X12_load 106 = some (.iload_n 1, 1, 1, 0, .null) := by decide +kernel
theorem fe_X12_load_107 : mj_f mi_X12_load 107 = some (.iaload, 1, 0, 0, .null) := by decide +kernel
theorem fe_X12_load_108 : mj_f mi_X12_load 108 = some (.bipush 32, 2, 0, 0, .int (32)) := by decide +kernel
theorem fe_X12_load_110 : mj_f mi_X12_load 110 = some (.irem, 1, 0, 0, .null) := by decide +kernel
theorem fe_X12_load_111 : mj_f mi_X12_load 111 = some (.ifCond .ne 7, 3, 118, 0, .null) := by decide +kernel
theorem fe_X12_load_114 : mj_f mi_X12_load 114 = some (.iconst 1, 1, 0, 0, .int (1)) := by decide +kernel
theorem fe_X12_load_115 : mj_f mi_X12_load 115 = some (.goto 4, 3, 119, 0, .null) := by decide +kernel
theorem fe_X12_load_118 : mj_f mi_X12_load 118 = some (.iconst 0, 1, 0, 0, .int (0)) := by decide +kernel
theorem fe_X12_load_119 : mj_f mi_X12_load 119 = some (.istore_n 3, 1, 3, 0, .null) := by decide +kernel
theorem fe_X12_load_120 : mj_f mi_X12_load 120 = some (.aload_n 0, 1, 0, 0, .null) := by decide +kernel
theorem fe_X12_load_121 : mj_f mi_X12_load 121 = some (.getfield 7, 3, 12, 0, .null) := by decide +kernel
theorem fe_X12_load_124 : mj_f mi_X12_load 124 = some (.iload_n 1, 1, 1, 0, .null) := by decide +kernel
theorem fe_X12_load_125 : mj_f mi_X12_load 125 = some (.iaload, 1, 0, 0, .null) := by decide +kernel
theorem fe_X12_load_126 : mj_f mi_X12_load 126 = some (.bipush 32, 2, 0, 0, .int (32)) := by decide +kernel
theorem fe_X12_load_128 : mj_f mi_X12_load 128 = some (.idiv, 1, 0, 0, .null) := by decide +kernel
theorem fe_X12_load_129 : mj_f mi_X12_load 129 = some (.istore 4, 2, 4, 0, .null) := by decide +kernel
theorem fe_X12_load_131 : mj_f mi_X12_load 131 = some (.iconst 0, 1, 0, 0, .int (0)) := by decide +kernel
theorem fe_X12_load_132 : mj_f mi_X12_load 132 = some (.istore 5, 2, 5, 0, .null) := by decide +kernel
theorem fe_X12_load_134 : mj_f mi_X12_load 134 = some (.iconst 0, 1, 0, 0, .int (0)) := by decide +kernel
theorem fe_X12_load_135 : mj_f mi_X12_load 135 = some (.istore 6, 2, 6, 0, .null) := by decide +kernel
theorem fe_X12_load_137 : mj_f mi_X12_load 137 = some (.iload 6, 2, 6, 0, .null) := by decide +kernel
theorem fe_X12_load_139 : mj_f mi_X12_load 139 = some (.aload_n 0, 1, 0, 0, .null) := by decide +kernel
theorem fe_X12_load_140 : mj_f mi_X12_load 140 = some (.getfield 125, 3, 12, 37, .int 0) := by decide +kernel
theorem fe_X12_load_143 : mj_f mi_X12_load 143 = some (.if_icmp .ge 40, 3, 183, 0, .null) := by decide +kernel
theorem fe_X12_load_146 : mj_f mi_X12_load 146 = some (.aload_n 0, 1, 0, 0, .null) := by decide +kernel
theorem fe_X12_load_147 : mj_f mi_X12_load 147 = some (.getfield 158, 3, 12, 48, .null) := by decide +kernel
theorem fe_X12_load_150 : mj_f mi_X12_load 150 = some (.iload 6, 2, 6, 0, .null) := by decide +kernel
theorem fe_X12_load_152 : mj_f mi_X12_load 152 = some (.aload_n 0, 1, 0, 0, .null) := by decide +kernel
theorem fe_X12_load_153 : mj_f mi_X12_load 153 = some (.getfield 137, 3, 12, 41, .null) := by decide +kernel
theorem fe_X12_load_156 : mj_f mi_X12_load 156 = some (.iload 6, 2, 6, 0, .null) := by decide +kernel
theorem fe_X12_load_158 : mj_f mi_X12_load 158 = some (.baload, 1, 0, 0, .null) := by decide +kernel
theorem fe_X12_load_159 : mj_f mi_X12_load 159 = some (.ifCond .eq 7, 3, 166, 0, .null) := by decide +kernel
theorem fe_X12_load_162 : mj_f mi_X12_load 162 = some (.lconst 0, 1, 0, 0, .long 0) := by decide +kernel
theorem fe_X12_load_163 : mj_f mi_X12_load 163 = some (.goto 13, 3, 176, 0, .null) := by decide +kernel
theorem fe_X12_load_166 : mj_f mi_X12_load 166 = some (.aload_n 0, 1, 0, 0, .null) := by decide +kernel
theorem fe_X12_load_167 : mj_f mi_X12_load 167 = some (.getfield 149, 3, 12, 45, .null) := by decide +kernel
theorem fe_X12_load_170 : mj_f mi_X12_load 170 = some (.iload 5, 2, 5, 0, .null) := by decide +kernel
theorem fe_X12_load_172 : mj_f mi_X12_load 172 = some (.iinc 5 1, 3, 5, 0, .int (1)) := by decide +kernel
theorem fe_X12_load_175 : mj_f mi_X12_load 175 = some (.laload, 1, 0, 0, .null) := by decide +kernel
theorem fe_X12_load_176 : mj_f mi_X12_load 176 = some (.lastore, 1, 0, 0, .null) := by decide +kernel
theorem fe_X12_load_177 : mj_f mi_X12_load 177 = some (.iinc 6 1, 3, 6, 0, .int (1)) := by decide +kernel
theorem fe_X12_load_180 : mj_f mi_X12_load 180 = some (.goto (-43), 3, 137, 0, .null) := by decide +kernel
theorem fe_X12_load_183 : mj_f mi_X12_load 183 = some (.aload_n 0, 1, 0, 0, .null) := by decide +kernel
theorem fe_X12_load_184 : mj_f mi_X12_load 184 = some (.getfield 125, 3, 12, 37, .int 0) := by decide +kernel
theorem fe_X12_load_187 : mj_f mi_X12_load 187 = some (.istore 6, 2, 6, 0, .null) := by decide +kernel
theorem fe_X12_load_189 : mj_f mi_X12_load 189 = some (.iconst 0, 1, 0, 0, .int (0)) := by decide +kernel
theorem fe_X12_load_190 : mj_f mi_X12_load 190 = some (.istore 7, 2, 7, 0, .null) := by decide +kernel
theorem fe_X12_load_192 : mj_f mi_X12_load 192 = some (.iload 7, 2, 7, 0, .null) := by decide +kernel
theorem fe_X12_load_194 : mj_f mi_X12_load 194 = some (.iload 6, 2, 6, 0, .null) := by decide +kernel
theorem fe_X12_load_196 : mj_f mi_X12_load 196 = some (.if_icmp .ge 23, 3, 219, 0, .null) := by decide +kernel
theorem fe_X12_load_199 : mj_f mi_X12_load 199 = some (.aload_n 0, 1, 0, 0, .null) := by decide +kernel
theorem fe_X12_load_200 : mj_f mi_X12_load 200 = some (.getfield 161, 3, 12, 49, .null) := by decide +kernel
theorem fe_X12_load_203 : mj_f mi_X12_load 203 = some (.iload 7, 2, 7, 0, .null) := by decide +kernel
theorem fe_X12_load_205 : mj_f mi_X12_load 205 = some (.aload_n 0, 1, 0, 0, .null) := by decide +kernel
theorem fe_X12_load_206 : mj_f mi_X12_load 206 = some (.getfield 137, 3, 12, 41, .null) := by decide +kernel
theorem fe_X12_load_209 : mj_f mi_X12_load 209 = some (.iload 7, 2, 7, 0, .null) := by decide +kernel
theorem fe_X12_load_211 : mj_f mi_X12_load 211 = some (.baload, 1, 0, 0, .null) := by decide +kernel
theorem fe_X12_load_212 : mj_f mi_X12_load 212 = some (.bastore, 1, 0, 0, .null) := by decide +kernel
theorem fe_X12_load_213 : mj_f mi_X12_load 213 = some (.iinc 7 1, 3, 7, 0, .int (1)) := by decide +kernel
theorem fe_X12_load_216 : mj_f mi_X12_load 216 = some (.goto (-24), 3, 192, 0, .null) := by decide +kernel
theorem fe_X12_load_219 : mj_f mi_X12_load 219 = some (.iload_n 3, 1, 3, 0, .null) := by decide +kernel
theorem fe_X12_load_220 : mj_f mi_X12_load 220 = some (.ifCond .eq 132, 3, 352, 0, .null) := by decide +kernel
theorem fe_X12_load_223 : mj_f mi_X12_load 223 = some (.iconst 0, 1, 0, 0, .int (0)) := by decide +kernel
theorem fe_X12_load_224 : mj_f mi_X12_load 224 = some (.istore 7, 2, 7, 0, .null) := by decide +kernel
theorem fe_X12_load_226 : mj_f mi_X12_load 226 = some (.iload 7, 2, 7, 0, .null) := by decide +kernel
theorem fe_X12_load_228 : mj_f mi_X12_load 228 = some (.iload 6, 2, 6, 0, .null) := by decide +kernel
theorem fe_X12_load_230 : mj_f mi_X12_load 230 = some (.if_icmp .ge 63, 3, 293, 0, .null) := by decide +kernel
theorem fe_X12_load_233 : mj_f mi_X12_load 233 = some (.aload_n 0, 1, 0, 0, .null) := by decide +kernel
theorem fe_X12_load_234 : mj_f mi_X12_load 234 = some (.getfield 19, 3, 12, 3, .null) := by decide +kernel
theorem fe_X12_load_237 : mj_f mi_X12_load 237 = some (.sipush 160, 3, 0, 0, .int (160)) := by decide +kernel
theorem fe_X12_load_240 : mj_f mi_X12_load 240 = some (.iload_n 1, 1, 1, 0, .null) := by decide +kernel
theorem fe_X12_load_241 : mj_f mi_X12_load 241 = some (.imul, 1, 0, 0, .null) := by decide +kernel
theorem fe_X12_load_242 : mj_f mi_X12_load 242 = some (.aload_n 0, 1, 0, 0, .null) := by decide +kernel
theorem fe_X12_load_243 : mj_f mi_X12_load 243 = some (.getfield 7, 3, 12, 0, .null) := by decide +kernel
theorem fe_X12_load_246 : mj_f mi_X12_load 246 = some (.iload_n 1, 1, 1, 0, .null) := by decide +kernel
theorem fe_X12_load_247 : mj_f mi_X12_load 247 = some (.iaload, 1, 0, 0, .null) := by decide +kernel
theorem fe_X12_load_248 : mj_f mi_X12_load 248 = some (.iadd, 1, 0, 0, .null) := by decide +kernel
theorem fe_X12_load_249 : mj_f mi_X12_load 249 = some (.iload 7, 2, 7, 0, .null) := by decide +kernel
theorem fe_X12_load_251 : mj_f mi_X12_load 251 = some (.iadd, 1, 0, 0, .null) := by decide +kernel
theorem fe_X12_load_252 : mj_f mi_X12_load 252 = some (.aload_n 0, 1, 0, 0, .null) := by decide +kernel
theorem fe_X12_load_253 : mj_f mi_X12_load 253 = some (.getfield 158, 3, 12, 48, .null) := by decide +kernel
theorem fe_X12_load_256 : mj_f mi_X12_load 256 = some (.iload 7, 2, 7, 0, .null) := by decide +kernel
theorem fe_X12_load_258 : mj_f mi_X12_load 258 = some (.laload, 1, 0, 0, .null) := by decide +kernel
theorem fe_X12_load_259 : mj_f mi_X12_load 259 = some (.lastore, 1, 0, 0, .null) := by decide +kernel
theorem fe_X12_load_260 : mj_f mi_X12_load 260 = some (.aload_n 0, 1, 0, 0, .null) := by decide +kernel
theorem fe_X12_load_261 : mj_f mi_X12_load 261 = some (.getfield 23, 3, 12, 4, .null) := by decide +kernel
theorem fe_X12_load_264 : mj_f mi_X12_load 264 = some (.sipush 160, 3, 0, 0, .int (160)) := by decide +kernel
theorem fe_X12_load_267 : mj_f mi_X12_load 267 = some (.iload_n 1, 1, 1, 0, .null) := by decide +kernel
theorem fe_X12_load_268 : mj_f mi_X12_load 268 = some (.imul, 1, 0, 0, .null) := by decide +kernel
theorem fe_X12_load_269 : mj_f mi_X12_load 269 = some (.aload_n 0, 1, 0, 0, .null) := by decide +kernel
theorem fe_X12_load_270 : mj_f mi_X12_load 270 = some (.getfield 7, 3, 12, 0, .null) := by decide +kernel
theorem fe_X12_load_273 : mj_f mi_X12_load 273 = some (.iload_n 1, 1, 1, 0, .null) := by decide +kernel
theorem fe_X12_load_274 : mj_f mi_X12_load 274 = some (.iaload, 1, 0, 0, .null) := by decide +kernel
theorem fe_X12_load_275 : mj_f mi_X12_load 275 = some (.iadd, 1, 0, 0, .null) := by decide +kernel
theorem fe_X12_load_276 : mj_f mi_X12_load 276 = some (.iload 7, 2, 7, 0, .null) := by decide +kernel
theorem fe_X12_load_278 : mj_f mi_X12_load 278 = some (.iadd, 1, 0, 0, .null) := by decide +kernel
theorem fe_X12_load_279 : mj_f mi_X12_load 279 = some (.aload_n 0, 1, 0, 0, .null) := by decide +kernel
theorem fe_X12_load_280 : mj_f mi_X12_load 280 = some (.getfield 161, 3, 12, 49, .null) := by decide +kernel
theorem fe_X12_load_283 : mj_f mi_X12_load 283 = some (.iload 7, 2, 7, 0, .null) := by decide +kernel
theorem fe_X12_load_285 : mj_f mi_X12_load 285 = some (.baload, 1, 0, 0, .null) := by decide +kernel
theorem fe_X12_load_286 : mj_f mi_X12_load 286 = some (.bastore, 1, 0, 0, .null) := by decide +kernel
theorem fe_X12_load_287 : mj_f mi_X12_load 287 = some (.iinc 7 1, 3, 7, 0, .int (1)) := by decide +kernel
theorem fe_X12_load_290 : mj_f mi_X12_load 290 = some (.goto (-64), 3, 226, 0, .null) := by decide +kernel
theorem fe_X12_load_293 : mj_f mi_X12_load 293 = some (.aload_n 0, 1, 0, 0, .null) := by decide +kernel
theorem fe_X12_load_294 : mj_f mi_X12_load 294 = some (.getfield 7, 3, 12, 0, .null) := by decide +kernel
theorem fe_X12_load_297 : mj_f mi_X12_load 297 = some (.iload_n 1, 1, 1, 0, .null) := by decide +kernel
theorem fe_X12_load_298 : mj_f mi_X12_load 298 = some (.dup2, 1, 0, 0, .null) := by decide +kernel
theorem fe_X12_load_299 : mj_f mi_X12_load 299 = some (.iaload, 1, 0, 0, .null) := by decide +kernel
theorem fe_X12_load_300 : mj_f mi_X12_load 300 = some (.iload 6, 2, 6, 0, .null) := by decide +kernel
theorem fe_X12_load_302 : mj_f mi_X12_load 302 = some (.iadd, 1, 0, 0, .null) := by decide +kernel
theorem fe_X12_load_303 : mj_f mi_X12_load 303 = some (.iastore, 1, 0, 0, .null) := by decide +kernel
theorem fe_X12_load_304 : mj_f mi_X12_load 304 = some (.aload_n 0, 1, 0, 0, .null) := by decide +kernel
theorem fe_X12_load_305 : mj_f mi_X12_load 305 = some (.iload_n 2, 1, 2, 0, .null) := by decide +kernel
theorem fe_X12_load_306 : mj_f mi_X12_load 306 = some (.putfield 95, 3, 12, 27, .int 0) := by decide +kernel
theorem fe_X12_load_309 : mj_f mi_X12_load 309 = some (.iconst 0, 1, 0, 0, .int (0)) := by decide +kernel
theorem fe_X12_load_310 : mj_f mi_X12_load 310 = some (.istore 7, 2, 7, 0, .null) := by decide +kernel
theorem fe_X12_load_312 : mj_f mi_X12_load 312 = some (.iload 7, 2, 7, 0, .null) := by decide +kernel
theorem fe_X12_load_314 : mj_f mi_X12_load 314 = some (.iload_n 2, 1, 2, 0, .null) := by decide +kernel
theorem fe_X12_load_315 : mj_f mi_X12_load 315 = some (.if_icmp .ge 23, 3, 338, 0, .null) := by decide +kernel
theorem fe_X12_load_318 : mj_f mi_X12_load 318 = some (.aload_n 0, 1, 0, 0, .null) := by decide +kernel
theorem fe_X12_load_319 : mj_f mi_X12_load 319 = some (.getfield 92, 3, 12, 26, .null) := by decide +kernel
theorem fe_X12_load_322 : mj_f mi_X12_load 322 = some (.iload 7, 2, 7, 0, .null) := by decide +kernel
theorem fe_X12_load_324 : mj_f mi_X12_load 324 = some (.aload_n 0, 1, 0, 0, .null) := by decide +kernel
theorem fe_X12_load_325 : mj_f mi_X12_load 325 = some (.getfield 110, 3, 12, 32, .null) := by decide +kernel
theorem fe_X12_load_328 : mj_f mi_X12_load 328 = some (.iload 7, 2, 7, 0, .null) := by decide +kernel
theorem fe_X12_load_330 : mj_f mi_X12_load 330 = some (.iaload, 1, 0, 0, .null) := by decide +kernel
theorem fe_X12_load_331 : mj_f mi_X12_load 331 = some (.iastore, 1, 0, 0, .null) := by decide +kernel
theorem fe_X12_load_332 : mj_f mi_X12_load 332 = some (.iinc 7 1, 3, 7, 0, .int (1)) := by decide +kernel
theorem fe_X12_load_335 : mj_f mi_X12_load 335 = some (.goto (-23), 3, 312, 0, .null) := by decide +kernel
theorem fe_X12_load_338 : mj_f mi_X12_load 338 = some (.aload_n 0, 1, 0, 0, .null) := by decide +kernel
theorem fe_X12_load_339 : mj_f mi_X12_load 339 = some (.iload_n 1, 1, 1, 0, .null) := by decide +kernel
theorem fe_X12_load_340 : mj_f mi_X12_load 340 = some (.iload 4, 2, 4, 0, .null) := by decide +kernel
theorem fe_X12_load_342 : mj_f mi_X12_load 342 = some (.invokevirtual 273, 3, 215, 2, .null) := by decide +kernel
theorem fe_X12_load_345 : mj_f mi_X12_load 345 = some (.aload_n 0, 1, 0, 0, .null) := by decide +kernel
theorem fe_X12_load_346 : mj_f mi_X12_load 346 = some (.getfield 7, 3, 12, 0, .null) := by decide +kernel
theorem fe_X12_load_349 : mj_f mi_X12_load 349 = some (.iload_n 1, 1, 1, 0, .null) := by decide +kernel
theorem fe_X12_load_350 : mj_f mi_X12_load 350 = some (.iaload, 1, 0, 0, .null) := by decide +kernel
theorem fe_X12_load_351 : mj_f mi_X12_load 351 = some (.ireturn, 1, 0, 0, .null) := by decide +kernel
theorem fe_X12_load_352 : mj_f mi_X12_load 352 = some (.iconst 0, 1, 0, 0, .int (0)) := by decide +kernel
theorem fe_X12_load_353 : mj_f mi_X12_load 353 = some (.istore 7, 2, 7, 0, .null) := by decide +kernel
theorem fe_X12_load_355 : mj_f mi_X12_load 355 = some (.iload 7, 2, 7, 0, .null) := by decide +kernel
theorem fe_X12_load_357 : mj_f mi_X12_load 357 = some (.iload 6, 2, 6, 0, .null) := by decide +kernel
theorem fe_X12_load_359 : mj_f mi_X12_load 359 = some (.if_icmp .ge 29, 3, 388, 0, .null) := by decide +kernel
theorem fe_X12_load_362 : mj_f mi_X12_load 362 = some (.aload_n 0, 1, 0, 0, .null) := by decide +kernel
theorem fe_X12_load_363 : mj_f mi_X12_load 363 = some (.iload_n 1, 1, 1, 0, .null) := by decide +kernel
theorem fe_X12_load_364 : mj_f mi_X12_load 364 = some (.aload_n 0, 1, 0, 0, .null) := by decide +kernel
theorem fe_X12_load_365 : mj_f mi_X12_load 365 = some (.getfield 158, 3, 12, 48, .null) := by decide +kernel
theorem fe_X12_load_368 : mj_f mi_X12_load 368 = some (.iload 7, 2, 7, 0, .null) := by decide +kernel
theorem fe_X12_load_370 : mj_f mi_X12_load 370 = some (.laload, 1, 0, 0, .null) := by decide +kernel
theorem fe_X12_load_371 : mj_f mi_X12_load 371 = some (.aload_n 0, 1, 0, 0, .null) := by decide +kernel
theorem fe_X12_load_372 : mj_f mi_X12_load 372 = some (.getfield 161, 3, 12, 49, .null) := by decide +kernel
theorem fe_X12_load_375 : mj_f mi_X12_load 375 = some (.iload 7, 2, 7, 0, .null) := by decide +kernel
theorem fe_X12_load_377 : mj_f mi_X12_load 377 = some (.baload, 1, 0, 0, .null) := by decide +kernel
theorem fe_X12_load_378 : mj_f mi_X12_load 378 = some (.invokevirtual 286, 3, 219, 3, .null) := by decide +kernel
theorem fe_X12_load_381 : mj_f mi_X12_load 381 = some (.pop, 1, 0, 0, .null) := by decide +kernel
theorem fe_X12_load_382 : mj_f mi_X12_load 382 = some (.iinc 7 1, 3, 7, 0, .int (1)) := by decide +kernel
theorem fe_X12_load_385 : mj_f mi_X12_load 385 = some (.goto (-30), 3, 355, 0, .null) := by decide +kernel
theorem fe_X12_load_388 : mj_f mi_X12_load 388 = some (.aload_n 0, 1, 0, 0, .null) := by decide +kernel
theorem fe_X12_load_389 : mj_f mi_X12_load 389 = some (.getfield 7, 3, 12, 0, .null) := by decide +kernel
theorem fe_X12_load_392 : mj_f mi_X12_load 392 = some (.iload_n 1, 1, 1, 0, .null) := by decide +kernel
theorem fe_X12_load_393 : mj_f mi_X12_load 393 = some (.iaload, 1, 0, 0, .null) := by decide +kernel
theorem fe_X12_load_394 : mj_f mi_X12_load 394 = some (.ireturn, 1, 0, 0, .null) := by decide +kernel
def ct_X12_fault : MJT := [
  (0, 0, .iload_n 1, 1, 1, 0, .null),
  (1, 0, .ifCond .ne 10, 3, 11, 0, .null),
  (4, 0, .aload_n 0, 1, 0, 0, .null),
  (5, 1223, .getfield 46, 3, 12, 11, .int 0),
  (8, 0, .goto 16, 3, 24, 0, .null),
  (11, 0, .iload_n 1, 1, 1, 0, .null),
  (12, 0, .iconst 1, 1, 0, 0, .int (1)),
  (13, 0, .if_icmp .ne 10, 3, 23, 0, .null),
  (16, 0, .aload_n 0, 1, 0, 0, .null),
  (17, 1224, .getfield 49, 3, 12, 12, .int 0),
  (20, 0, .goto 4, 3, 24, 0, .null),
  (23, 0, .iconst (-1), 1, 0, 0, .int (-1)),
  (24, 0, .ireturn, 1, 0, 0, .null)]
abbrev id_X12_fault : Nat := 256
def mi_X12_fault : MI := (yX12_fault, cX12_fault, 2, (some .int), 12, ct_X12_fault)
theorem fe_X12_fault_0 : mj_f mi_X12_fault 0 = some (.iload_n 1, 1, 1, 0, .null) := by decide +kernel
theorem fe_X12_fault_1 : mj_f mi_X12_fault 1 = some (.ifCond .ne 10, 3, 11, 0, .null) := by decide +kernel
theorem fe_X12_fault_4 : mj_f mi_X12_fault 4 = some (.aload_n 0, 1, 0, 0, .null) := by decide +kernel
theorem fe_X12_fault_5 : mj_f mi_X12_fault 5 = some (.getfield 46, 3, 12, 11, .int 0) := by decide +kernel
theorem fe_X12_fault_8 : mj_f mi_X12_fault 8 = some (.goto 16, 3, 24, 0, .null) := by decide +kernel
theorem fe_X12_fault_11 : mj_f mi_X12_fault 11 = some (.iload_n 1, 1, 1, 0, .null) := by decide +kernel
theorem fe_X12_fault_12 : mj_f mi_X12_fault 12 = some (.iconst 1, 1, 0, 0, .int (1)) := by decide +kernel
theorem fe_X12_fault_13 : mj_f mi_X12_fault 13 = some (.if_icmp .ne 10, 3, 23, 0, .null) := by decide +kernel
theorem fe_X12_fault_16 : mj_f mi_X12_fault 16 = some (.aload_n 0, 1, 0, 0, .null) := by decide +kernel
theorem fe_X12_fault_17 : mj_f mi_X12_fault 17 = some (.getfield 49, 3, 12, 12, .int 0) := by decide +kernel
theorem fe_X12_fault_20 : mj_f mi_X12_fault 20 = some (.goto 4, 3, 24, 0, .null) := by decide +kernel
theorem fe_X12_fault_23 : mj_f mi_X12_fault 23 = some (.iconst (-1), 1, 0, 0, .int (-1)) := by decide +kernel
theorem fe_X12_fault_24 : mj_f mi_X12_fault 24 = some (.ireturn, 1, 0, 0, .null) := by decide +kernel
def ct_J6_numberOfLeadingZeros_0f7a4 : MJT := [
  (0, 0, .iload_n 0, 1, 0, 0, .null),
  (1, 0, .ifCond .gt 14, 3, 15, 0, .null),
  (4, 0, .iload_n 0, 1, 0, 0, .null),
  (5, 0, .ifCond .ne 8, 3, 13, 0, .null),
  (8, 0, .bipush 32, 2, 0, 0, .int (32)),
  (10, 0, .goto 4, 3, 14, 0, .null),
  (13, 0, .iconst 0, 1, 0, 0, .int (0)),
  (14, 0, .ireturn, 1, 0, 0, .null),
  (15, 0, .bipush 31, 2, 0, 0, .int (31)),
  (17, 0, .istore_n 1, 1, 1, 0, .null),
  (18, 0, .iload_n 0, 1, 0, 0, .null),
  (19, 627, .ldc_w 264, 3, 0, 0, .int (65536)),
  (22, 0, .if_icmp .lt 11, 3, 33, 0, .null),
  (25, 0, .iinc 1 (-16), 3, 1, 0, .int (-16)),
  (28, 0, .iload_n 0, 1, 0, 0, .null),
  (29, 0, .bipush 16, 2, 0, 0, .int (16)),
  (31, 0, .iushr, 1, 0, 0, .null),
  (32, 0, .istore_n 0, 1, 0, 0, .null),
  (33, 0, .iload_n 0, 1, 0, 0, .null),
  (34, 0, .sipush 256, 3, 0, 0, .int (256)),
  (37, 0, .if_icmp .lt 11, 3, 48, 0, .null),
  (40, 0, .iinc 1 (-8), 3, 1, 0, .int (-8)),
  (43, 0, .iload_n 0, 1, 0, 0, .null),
  (44, 0, .bipush 8, 2, 0, 0, .int (8)),
  (46, 0, .iushr, 1, 0, 0, .null),
  (47, 0, .istore_n 0, 1, 0, 0, .null),
  (48, 0, .iload_n 0, 1, 0, 0, .null),
  (49, 0, .bipush 16, 2, 0, 0, .int (16)),
  (51, 0, .if_icmp .lt 10, 3, 61, 0, .null),
  (54, 0, .iinc 1 (-4), 3, 1, 0, .int (-4)),
  (57, 0, .iload_n 0, 1, 0, 0, .null),
  (58, 0, .iconst 4, 1, 0, 0, .int (4)),
  (59, 0, .iushr, 1, 0, 0, .null),
  (60, 0, .istore_n 0, 1, 0, 0, .null),
  (61, 0, .iload_n 0, 1, 0, 0, .null),
  (62, 0, .iconst 4, 1, 0, 0, .int (4)),
  (63, 0, .if_icmp .lt 10, 3, 73, 0, .null),
  (66, 0, .iinc 1 (-2), 3, 1, 0, .int (-2)),
  (69, 0, .iload_n 0, 1, 0, 0, .null),
  (70, 0, .iconst 2, 1, 0, 0, .int (2)),
  (71, 0, .iushr, 1, 0, 0, .null),
  (72, 0, .istore_n 0, 1, 0, 0, .null),
  (73, 0, .iload_n 1, 1, 1, 0, .null),
  (74, 0, .iload_n 0, 1, 0, 0, .null),
  (75, 0, .iconst 1, 1, 0, 0, .int (1)),
  (76, 0, .iushr, 1, 0, 0, .null),
  (77, 0, .isub, 1, 0, 0, .null),
  (78, 0, .ireturn, 1, 0, 0, .null)]
abbrev id_J6_numberOfLeadingZeros_0f7a4 : Nat := 257
def mi_J6_numberOfLeadingZeros_0f7a4 : MI := (yJ6_numberOfLeadingZeros_0f7a4, cJ6_numberOfLeadingZeros_0f7a4, 2, (some .int), 13, ct_J6_numberOfLeadingZeros_0f7a4)
theorem fe_J6_numberOfLeadingZeros_0f7a4_0 : mj_f mi_J6_numberOfLeadingZeros_0f7a4 0 = some (.iload_n 0, 1, 0, 0, .null) := by decide +kernel
theorem fe_J6_numberOfLeadingZeros_0f7a4_1 : mj_f mi_J6_numberOfLeadingZeros_0f7a4 1 = some (.ifCond .gt 14, 3, 15, 0, .null) := by decide +kernel
theorem fe_J6_numberOfLeadingZeros_0f7a4_4 : mj_f mi_J6_numberOfLeadingZeros_0f7a4 4 = some (.iload_n 0, 1, 0, 0, .null) := by decide +kernel
theorem fe_J6_numberOfLeadingZeros_0f7a4_5 : mj_f mi_J6_numberOfLeadingZeros_0f7a4 5 = some (.ifCond .ne 8, 3, 13, 0, .null) := by decide +kernel
theorem fe_J6_numberOfLeadingZeros_0f7a4_8 : mj_f mi_J6_numberOfLeadingZeros_0f7a4 8 = some (.bipush 32, 2, 0, 0, .int (32)) := by decide +kernel
theorem fe_J6_numberOfLeadingZeros_0f7a4_10 : mj_f mi_J6_numberOfLeadingZeros_0f7a4 10 = some (.goto 4, 3, 14, 0, .null) := by decide +kernel
theorem fe_J6_numberOfLeadingZeros_0f7a4_13 : mj_f mi_J6_numberOfLeadingZeros_0f7a4 13 = some (.iconst 0, 1, 0, 0, .int (0)) := by decide +kernel
theorem fe_J6_numberOfLeadingZeros_0f7a4_14 : mj_f mi_J6_numberOfLeadingZeros_0f7a4 14 = some (.ireturn, 1, 0, 0, .null) := by decide +kernel
theorem fe_J6_numberOfLeadingZeros_0f7a4_15 : mj_f mi_J6_numberOfLeadingZeros_0f7a4 15 = some (.bipush 31, 2, 0, 0, .int (31)) := by decide +kernel
theorem fe_J6_numberOfLeadingZeros_0f7a4_17 : mj_f mi_J6_numberOfLeadingZeros_0f7a4 17 = some (.istore_n 1, 1, 1, 0, .null) := by decide +kernel
theorem fe_J6_numberOfLeadingZeros_0f7a4_18 : mj_f mi_J6_numberOfLeadingZeros_0f7a4 18 = some (.iload_n 0, 1, 0, 0, .null) := by decide +kernel
theorem fe_J6_numberOfLeadingZeros_0f7a4_19 : mj_f mi_J6_numberOfLeadingZeros_0f7a4 19 = some (.ldc_w 264, 3, 0, 0, .int (65536)) := by decide +kernel
theorem fe_J6_numberOfLeadingZeros_0f7a4_22 : mj_f mi_J6_numberOfLeadingZeros_0f7a4 22 = some (.if_icmp .lt 11, 3, 33, 0, .null) := by decide +kernel
theorem fe_J6_numberOfLeadingZeros_0f7a4_25 : mj_f mi_J6_numberOfLeadingZeros_0f7a4 25 = some (.iinc 1 (-16), 3, 1, 0, .int (-16)) := by decide +kernel
theorem fe_J6_numberOfLeadingZeros_0f7a4_28 : mj_f mi_J6_numberOfLeadingZeros_0f7a4 28 = some (.iload_n 0, 1, 0, 0, .null) := by decide +kernel
theorem fe_J6_numberOfLeadingZeros_0f7a4_29 : mj_f mi_J6_numberOfLeadingZeros_0f7a4 29 = some (.bipush 16, 2, 0, 0, .int (16)) := by decide +kernel
theorem fe_J6_numberOfLeadingZeros_0f7a4_31 : mj_f mi_J6_numberOfLeadingZeros_0f7a4 31 = some (.iushr, 1, 0, 0, .null) := by decide +kernel
theorem fe_J6_numberOfLeadingZeros_0f7a4_32 : mj_f mi_J6_numberOfLeadingZeros_0f7a4 32 = some (.istore_n 0, 1, 0, 0, .null) := by decide +kernel
theorem fe_J6_numberOfLeadingZeros_0f7a4_33 : mj_f mi_J6_numberOfLeadingZeros_0f7a4 33 = some (.iload_n 0, 1, 0, 0, .null) := by decide +kernel
theorem fe_J6_numberOfLeadingZeros_0f7a4_34 : mj_f mi_J6_numberOfLeadingZeros_0f7a4 34 = some (.sipush 256, 3, 0, 0, .int (256)) := by decide +kernel
theorem fe_J6_numberOfLeadingZeros_0f7a4_37 : mj_f mi_J6_numberOfLeadingZeros_0f7a4 37 = some (.if_icmp .lt 11, 3, 48, 0, .null) := by decide +kernel
theorem fe_J6_numberOfLeadingZeros_0f7a4_40 : mj_f mi_J6_numberOfLeadingZeros_0f7a4 40 = some (.iinc 1 (-8), 3, 1, 0, .int (-8)) := by decide +kernel
theorem fe_J6_numberOfLeadingZeros_0f7a4_43 : mj_f mi_J6_numberOfLeadingZeros_0f7a4 43 = some (.iload_n 0, 1, 0, 0, .null) := by decide +kernel
theorem fe_J6_numberOfLeadingZeros_0f7a4_44 : mj_f mi_J6_numberOfLeadingZeros_0f7a4 44 = some (.bipush 8, 2, 0, 0, .int (8)) := by decide +kernel
theorem fe_J6_numberOfLeadingZeros_0f7a4_46 : mj_f mi_J6_numberOfLeadingZeros_0f7a4 46 = some (.iushr, 1, 0, 0, .null) := by decide +kernel
theorem fe_J6_numberOfLeadingZeros_0f7a4_47 : mj_f mi_J6_numberOfLeadingZeros_0f7a4 47 = some (.istore_n 0, 1, 0, 0, .null) := by decide +kernel
theorem fe_J6_numberOfLeadingZeros_0f7a4_48 : mj_f mi_J6_numberOfLeadingZeros_0f7a4 48 = some (.iload_n 0, 1, 0, 0, .null) := by decide +kernel
theorem fe_J6_numberOfLeadingZeros_0f7a4_49 : mj_f mi_J6_numberOfLeadingZeros_0f7a4 49 = some (.bipush 16, 2, 0, 0, .int (16)) := by decide +kernel
theorem fe_J6_numberOfLeadingZeros_0f7a4_51 : mj_f mi_J6_numberOfLeadingZeros_0f7a4 51 = some (.if_icmp .lt 10, 3, 61, 0, .null) := by decide +kernel
theorem fe_J6_numberOfLeadingZeros_0f7a4_54 : mj_f mi_J6_numberOfLeadingZeros_0f7a4 54 = some (.iinc 1 (-4), 3, 1, 0, .int (-4)) := by decide +kernel
theorem fe_J6_numberOfLeadingZeros_0f7a4_57 : mj_f mi_J6_numberOfLeadingZeros_0f7a4 57 = some (.iload_n 0, 1, 0, 0, .null) := by decide +kernel
theorem fe_J6_numberOfLeadingZeros_0f7a4_58 : mj_f mi_J6_numberOfLeadingZeros_0f7a4 58 = some (.iconst 4, 1, 0, 0, .int (4)) := by decide +kernel
theorem fe_J6_numberOfLeadingZeros_0f7a4_59 : mj_f mi_J6_numberOfLeadingZeros_0f7a4 59 = some (.iushr, 1, 0, 0, .null) := by decide +kernel
theorem fe_J6_numberOfLeadingZeros_0f7a4_60 : mj_f mi_J6_numberOfLeadingZeros_0f7a4 60 = some (.istore_n 0, 1, 0, 0, .null) := by decide +kernel
theorem fe_J6_numberOfLeadingZeros_0f7a4_61 : mj_f mi_J6_numberOfLeadingZeros_0f7a4 61 = some (.iload_n 0, 1, 0, 0, .null) := by decide +kernel
theorem fe_J6_numberOfLeadingZeros_0f7a4_62 : mj_f mi_J6_numberOfLeadingZeros_0f7a4 62 = some (.iconst 4, 1, 0, 0, .int (4)) := by decide +kernel
theorem fe_J6_numberOfLeadingZeros_0f7a4_63 : mj_f mi_J6_numberOfLeadingZeros_0f7a4 63 = some (.if_icmp .lt 10, 3, 73, 0, .null) := by decide +kernel
theorem fe_J6_numberOfLeadingZeros_0f7a4_66 : mj_f mi_J6_numberOfLeadingZeros_0f7a4 66 = some (.iinc 1 (-2), 3, 1, 0, .int (-2)) := by decide +kernel
theorem fe_J6_numberOfLeadingZeros_0f7a4_69 : mj_f mi_J6_numberOfLeadingZeros_0f7a4 69 = some (.iload_n 0, 1, 0, 0, .null) := by decide +kernel
theorem fe_J6_numberOfLeadingZeros_0f7a4_70 : mj_f mi_J6_numberOfLeadingZeros_0f7a4 70 = some (.iconst 2, 1, 0, 0, .int (2)) := by decide +kernel
theorem fe_J6_numberOfLeadingZeros_0f7a4_71 : mj_f mi_J6_numberOfLeadingZeros_0f7a4 71 = some (.iushr, 1, 0, 0, .null) := by decide +kernel
theorem fe_J6_numberOfLeadingZeros_0f7a4_72 : mj_f mi_J6_numberOfLeadingZeros_0f7a4 72 = some (.istore_n 0, 1, 0, 0, .null) := by decide +kernel
theorem fe_J6_numberOfLeadingZeros_0f7a4_73 : mj_f mi_J6_numberOfLeadingZeros_0f7a4 73 = some (.iload_n 1, 1, 1, 0, .null) := by decide +kernel
theorem fe_J6_numberOfLeadingZeros_0f7a4_74 : mj_f mi_J6_numberOfLeadingZeros_0f7a4 74 = some (.iload_n 0, 1, 0, 0, .null) := by decide +kernel
theorem fe_J6_numberOfLeadingZeros_0f7a4_75 : mj_f mi_J6_numberOfLeadingZeros_0f7a4 75 = some (.iconst 1, 1, 0, 0, .int (1)) := by decide +kernel
theorem fe_J6_numberOfLeadingZeros_0f7a4_76 : mj_f mi_J6_numberOfLeadingZeros_0f7a4 76 = some (.iushr, 1, 0, 0, .null) := by decide +kernel
theorem fe_J6_numberOfLeadingZeros_0f7a4_77 : mj_f mi_J6_numberOfLeadingZeros_0f7a4 77 = some (.isub, 1, 0, 0, .null) := by decide +kernel
theorem fe_J6_numberOfLeadingZeros_0f7a4_78 : mj_f mi_J6_numberOfLeadingZeros_0f7a4 78 = some (.ireturn, 1, 0, 0, .null) := by decide +kernel
def ct_J13_numberOfLeadingZeros_95d88 : MJT := [
  (0, 0, .lload_n 0, 1, 0, 0, .null),
  (1, 0, .bipush 32, 2, 0, 0, .int (32)),
  (3, 0, .lushr, 1, 0, 0, .null),
  (4, 0, .l2i, 1, 0, 0, .null),
  (5, 0, .istore_n 2, 1, 2, 0, .null),
  (6, 0, .iload_n 2, 1, 2, 0, .null),
  (7, 0, .ifCond .ne 14, 3, 21, 0, .null),
  (10, 0, .bipush 32, 2, 0, 0, .int (32)),
  (12, 0, .lload_n 0, 1, 0, 0, .null),
  (13, 0, .l2i, 1, 0, 0, .null),
  (14, 624, .invokestatic 308, 3, 257, 1, .null),
  (17, 0, .iadd, 1, 0, 0, .null),
  (18, 0, .goto 7, 3, 25, 0, .null),
  (21, 0, .iload_n 2, 1, 2, 0, .null),
  (22, 624, .invokestatic 308, 3, 257, 1, .null),
  (25, 0, .ireturn, 1, 0, 0, .null)]
abbrev id_J13_numberOfLeadingZeros_95d88 : Nat := 258
def mi_J13_numberOfLeadingZeros_95d88 : MI := (yJ13_numberOfLeadingZeros_95d88, cJ13_numberOfLeadingZeros_95d88, 3, (some .int), 14, ct_J13_numberOfLeadingZeros_95d88)
theorem fe_J13_numberOfLeadingZeros_95d88_0 : mj_f mi_J13_numberOfLeadingZeros_95d88 0 = some (.lload_n 0, 1, 0, 0, .null) := by decide +kernel
theorem fe_J13_numberOfLeadingZeros_95d88_1 : mj_f mi_J13_numberOfLeadingZeros_95d88 1 = some (.bipush 32, 2, 0, 0, .int (32)) := by decide +kernel
theorem fe_J13_numberOfLeadingZeros_95d88_3 : mj_f mi_J13_numberOfLeadingZeros_95d88 3 = some (.lushr, 1, 0, 0, .null) := by decide +kernel
theorem fe_J13_numberOfLeadingZeros_95d88_4 : mj_f mi_J13_numberOfLeadingZeros_95d88 4 = some (.l2i, 1, 0, 0, .null) := by decide +kernel
theorem fe_J13_numberOfLeadingZeros_95d88_5 : mj_f mi_J13_numberOfLeadingZeros_95d88 5 = some (.istore_n 2, 1, 2, 0, .null) := by decide +kernel
theorem fe_J13_numberOfLeadingZeros_95d88_6 : mj_f mi_J13_numberOfLeadingZeros_95d88 6 = some (.iload_n 2, 1, 2, 0, .null) := by decide +kernel
theorem fe_J13_numberOfLeadingZeros_95d88_7 : mj_f mi_J13_numberOfLeadingZeros_95d88 7 = some (.ifCond .ne 14, 3, 21, 0, .null) := by decide +kernel
theorem fe_J13_numberOfLeadingZeros_95d88_10 : mj_f mi_J13_numberOfLeadingZeros_95d88 10 = some (.bipush 32, 2, 0, 0, .int (32)) := by decide +kernel
theorem fe_J13_numberOfLeadingZeros_95d88_12 : mj_f mi_J13_numberOfLeadingZeros_95d88 12 = some (.lload_n 0, 1, 0, 0, .null) := by decide +kernel
theorem fe_J13_numberOfLeadingZeros_95d88_13 : mj_f mi_J13_numberOfLeadingZeros_95d88 13 = some (.l2i, 1, 0, 0, .null) := by decide +kernel
theorem fe_J13_numberOfLeadingZeros_95d88_14 : mj_f mi_J13_numberOfLeadingZeros_95d88 14 = some (.invokestatic 308, 3, 257, 1, .null) := by decide +kernel
theorem fe_J13_numberOfLeadingZeros_95d88_17 : mj_f mi_J13_numberOfLeadingZeros_95d88 17 = some (.iadd, 1, 0, 0, .null) := by decide +kernel
theorem fe_J13_numberOfLeadingZeros_95d88_18 : mj_f mi_J13_numberOfLeadingZeros_95d88 18 = some (.goto 7, 3, 25, 0, .null) := by decide +kernel
theorem fe_J13_numberOfLeadingZeros_95d88_21 : mj_f mi_J13_numberOfLeadingZeros_95d88 21 = some (.iload_n 2, 1, 2, 0, .null) := by decide +kernel
theorem fe_J13_numberOfLeadingZeros_95d88_22 : mj_f mi_J13_numberOfLeadingZeros_95d88 22 = some (.invokestatic 308, 3, 257, 1, .null) := by decide +kernel
theorem fe_J13_numberOfLeadingZeros_95d88_25 : mj_f mi_J13_numberOfLeadingZeros_95d88 25 = some (.ireturn, 1, 0, 0, .null) := by decide +kernel
def ct_J9_abs_067f4 : MJT := [
  (0, 0, .lload_n 0, 1, 0, 0, .null),
  (1, 0, .lconst 0, 1, 0, 0, .long 0),
  (2, 0, .lcmp, 1, 0, 0, .null),
  (3, 0, .ifCond .ge 8, 3, 11, 0, .null),
  (6, 0, .lload_n 0, 1, 0, 0, .null),
  (7, 0, .lneg, 1, 0, 0, .null),
  (8, 0, .goto 4, 3, 12, 0, .null),
  (11, 0, .lload_n 0, 1, 0, 0, .null),
  (12, 0, .lreturn, 1, 0, 0, .null)]
abbrev id_J9_abs_067f4 : Nat := 259
def mi_J9_abs_067f4 : MI := (yJ9_abs_067f4, cJ9_abs_067f4, 2, (some .long), 15, ct_J9_abs_067f4)
theorem fe_J9_abs_067f4_0 : mj_f mi_J9_abs_067f4 0 = some (.lload_n 0, 1, 0, 0, .null) := by decide +kernel
theorem fe_J9_abs_067f4_1 : mj_f mi_J9_abs_067f4 1 = some (.lconst 0, 1, 0, 0, .long 0) := by decide +kernel
theorem fe_J9_abs_067f4_2 : mj_f mi_J9_abs_067f4 2 = some (.lcmp, 1, 0, 0, .null) := by decide +kernel
theorem fe_J9_abs_067f4_3 : mj_f mi_J9_abs_067f4 3 = some (.ifCond .ge 8, 3, 11, 0, .null) := by decide +kernel
theorem fe_J9_abs_067f4_6 : mj_f mi_J9_abs_067f4 6 = some (.lload_n 0, 1, 0, 0, .null) := by decide +kernel
theorem fe_J9_abs_067f4_7 : mj_f mi_J9_abs_067f4 7 = some (.lneg, 1, 0, 0, .null) := by decide +kernel
theorem fe_J9_abs_067f4_8 : mj_f mi_J9_abs_067f4 8 = some (.goto 4, 3, 12, 0, .null) := by decide +kernel
theorem fe_J9_abs_067f4_11 : mj_f mi_J9_abs_067f4 11 = some (.lload_n 0, 1, 0, 0, .null) := by decide +kernel
theorem fe_J9_abs_067f4_12 : mj_f mi_J9_abs_067f4 12 = some (.lreturn, 1, 0, 0, .null) := by decide +kernel
def ct_J9_max_7cf53 : MJT := [
  (0, 0, .iload_n 0, 1, 0, 0, .null),
  (1, 0, .iload_n 1, 1, 1, 0, .null),
  (2, 0, .if_icmp .lt 7, 3, 9, 0, .null),
  (5, 0, .iload_n 0, 1, 0, 0, .null),
  (6, 0, .goto 4, 3, 10, 0, .null),
  (9, 0, .iload_n 1, 1, 1, 0, .null),
  (10, 0, .ireturn, 1, 0, 0, .null)]
abbrev id_J9_max_7cf53 : Nat := 260
def mi_J9_max_7cf53 : MI := (yJ9_max_7cf53, cJ9_max_7cf53, 2, (some .int), 15, ct_J9_max_7cf53)
theorem fe_J9_max_7cf53_0 : mj_f mi_J9_max_7cf53 0 = some (.iload_n 0, 1, 0, 0, .null) := by decide +kernel
theorem fe_J9_max_7cf53_1 : mj_f mi_J9_max_7cf53 1 = some (.iload_n 1, 1, 1, 0, .null) := by decide +kernel
theorem fe_J9_max_7cf53_2 : mj_f mi_J9_max_7cf53 2 = some (.if_icmp .lt 7, 3, 9, 0, .null) := by decide +kernel
theorem fe_J9_max_7cf53_5 : mj_f mi_J9_max_7cf53 5 = some (.iload_n 0, 1, 0, 0, .null) := by decide +kernel
theorem fe_J9_max_7cf53_6 : mj_f mi_J9_max_7cf53 6 = some (.goto 4, 3, 10, 0, .null) := by decide +kernel
theorem fe_J9_max_7cf53_9 : mj_f mi_J9_max_7cf53 9 = some (.iload_n 1, 1, 1, 0, .null) := by decide +kernel
theorem fe_J9_max_7cf53_10 : mj_f mi_J9_max_7cf53 10 = some (.ireturn, 1, 0, 0, .null) := by decide +kernel
def ct_J9_max_f86c9 : MJT := [
  (0, 0, .lload_n 0, 1, 0, 0, .null),
  (1, 0, .lload_n 2, 1, 2, 0, .null),
  (2, 0, .lcmp, 1, 0, 0, .null),
  (3, 0, .ifCond .lt 7, 3, 10, 0, .null),
  (6, 0, .lload_n 0, 1, 0, 0, .null),
  (7, 0, .goto 4, 3, 11, 0, .null),
  (10, 0, .lload_n 2, 1, 2, 0, .null),
  (11, 0, .lreturn, 1, 0, 0, .null)]
abbrev id_J9_max_f86c9 : Nat := 261
def mi_J9_max_f86c9 : MI := (yJ9_max_f86c9, cJ9_max_f86c9, 4, (some .long), 15, ct_J9_max_f86c9)
theorem fe_J9_max_f86c9_0 : mj_f mi_J9_max_f86c9 0 = some (.lload_n 0, 1, 0, 0, .null) := by decide +kernel
theorem fe_J9_max_f86c9_1 : mj_f mi_J9_max_f86c9 1 = some (.lload_n 2, 1, 2, 0, .null) := by decide +kernel
theorem fe_J9_max_f86c9_2 : mj_f mi_J9_max_f86c9 2 = some (.lcmp, 1, 0, 0, .null) := by decide +kernel
theorem fe_J9_max_f86c9_3 : mj_f mi_J9_max_f86c9 3 = some (.ifCond .lt 7, 3, 10, 0, .null) := by decide +kernel
theorem fe_J9_max_f86c9_6 : mj_f mi_J9_max_f86c9 6 = some (.lload_n 0, 1, 0, 0, .null) := by decide +kernel
theorem fe_J9_max_f86c9_7 : mj_f mi_J9_max_f86c9 7 = some (.goto 4, 3, 11, 0, .null) := by decide +kernel
theorem fe_J9_max_f86c9_10 : mj_f mi_J9_max_f86c9 10 = some (.lload_n 2, 1, 2, 0, .null) := by decide +kernel
theorem fe_J9_max_f86c9_11 : mj_f mi_J9_max_f86c9 11 = some (.lreturn, 1, 0, 0, .null) := by decide +kernel
def ct_J9_min_7cf53 : MJT := [
  (0, 0, .iload_n 0, 1, 0, 0, .null),
  (1, 0, .iload_n 1, 1, 1, 0, .null),
  (2, 0, .if_icmp .gt 7, 3, 9, 0, .null),
  (5, 0, .iload_n 0, 1, 0, 0, .null),
  (6, 0, .goto 4, 3, 10, 0, .null),
  (9, 0, .iload_n 1, 1, 1, 0, .null),
  (10, 0, .ireturn, 1, 0, 0, .null)]
abbrev id_J9_min_7cf53 : Nat := 262
def mi_J9_min_7cf53 : MI := (yJ9_min_7cf53, cJ9_min_7cf53, 2, (some .int), 15, ct_J9_min_7cf53)
theorem fe_J9_min_7cf53_0 : mj_f mi_J9_min_7cf53 0 = some (.iload_n 0, 1, 0, 0, .null) := by decide +kernel
theorem fe_J9_min_7cf53_1 : mj_f mi_J9_min_7cf53 1 = some (.iload_n 1, 1, 1, 0, .null) := by decide +kernel
theorem fe_J9_min_7cf53_2 : mj_f mi_J9_min_7cf53 2 = some (.if_icmp .gt 7, 3, 9, 0, .null) := by decide +kernel
theorem fe_J9_min_7cf53_5 : mj_f mi_J9_min_7cf53 5 = some (.iload_n 0, 1, 0, 0, .null) := by decide +kernel
theorem fe_J9_min_7cf53_6 : mj_f mi_J9_min_7cf53 6 = some (.goto 4, 3, 10, 0, .null) := by decide +kernel
theorem fe_J9_min_7cf53_9 : mj_f mi_J9_min_7cf53 9 = some (.iload_n 1, 1, 1, 0, .null) := by decide +kernel
theorem fe_J9_min_7cf53_10 : mj_f mi_J9_min_7cf53 10 = some (.ireturn, 1, 0, 0, .null) := by decide +kernel
def ct_J9_min_f86c9 : MJT := [
  (0, 0, .lload_n 0, 1, 0, 0, .null),
  (1, 0, .lload_n 2, 1, 2, 0, .null),
  (2, 0, .lcmp, 1, 0, 0, .null),
  (3, 0, .ifCond .gt 7, 3, 10, 0, .null),
  (6, 0, .lload_n 0, 1, 0, 0, .null),
  (7, 0, .goto 4, 3, 11, 0, .null),
  (10, 0, .lload_n 2, 1, 2, 0, .null),
  (11, 0, .lreturn, 1, 0, 0, .null)]
abbrev id_J9_min_f86c9 : Nat := 263
def mi_J9_min_f86c9 : MI := (yJ9_min_f86c9, cJ9_min_f86c9, 4, (some .long), 15, ct_J9_min_f86c9)
theorem fe_J9_min_f86c9_0 : mj_f mi_J9_min_f86c9 0 = some (.lload_n 0, 1, 0, 0, .null) := by decide +kernel
theorem fe_J9_min_f86c9_1 : mj_f mi_J9_min_f86c9 1 = some (.lload_n 2, 1, 2, 0, .null) := by decide +kernel
theorem fe_J9_min_f86c9_2 : mj_f mi_J9_min_f86c9 2 = some (.lcmp, 1, 0, 0, .null) := by decide +kernel
theorem fe_J9_min_f86c9_3 : mj_f mi_J9_min_f86c9 3 = some (.ifCond .gt 7, 3, 10, 0, .null) := by decide +kernel
theorem fe_J9_min_f86c9_6 : mj_f mi_J9_min_f86c9 6 = some (.lload_n 0, 1, 0, 0, .null) := by decide +kernel
theorem fe_J9_min_f86c9_7 : mj_f mi_J9_min_f86c9 7 = some (.goto 4, 3, 11, 0, .null) := by decide +kernel
theorem fe_J9_min_f86c9_10 : mj_f mi_J9_min_f86c9 10 = some (.lload_n 2, 1, 2, 0, .null) := by decide +kernel
theorem fe_J9_min_f86c9_11 : mj_f mi_J9_min_f86c9 11 = some (.lreturn, 1, 0, 0, .null) := by decide +kernel
def ct_L_law : MJT := [
  (0, 102, .new 7, 3, 11, 0, .null),
  (3, 0, .dup, 1, 0, 0, .null),
  (4, 104, .invokespecial 9, 3, 147, 0, .null),
  (7, 0, .astore_n 1, 1, 1, 0, .null),
  (8, 1206, .new 10, 3, 12, 0, .null),
  (11, 0, .dup, 1, 0, 0, .null),
  (12, 1208, .invokespecial 12, 3, 180, 0, .null),
  (15, 0, .astore_n 2, 1, 2, 0, .null),
  (16, 0, .iconst 0, 1, 0, 0, .int (0)),
  (17, 0, .istore_n 3, 1, 3, 0, .null),
  (18, 0, .iload_n 3, 1, 3, 0, .null),
  (19, 0, .aload_n 0, 1, 0, 0, .null),
  (20, 0, .arraylength, 1, 0, 0, .null),
  (21, 0, .bipush 11, 2, 0, 0, .int (11)),
  (23, 0, .isub, 1, 0, 0, .null),
  (24, 0, .if_icmp .gt 1233, 3, 1257, 0, .null),
  (27, 0, .aload_n 0, 1, 0, 0, .null),
  (28, 0, .iload_n 3, 1, 3, 0, .null),
  (29, 0, .iaload, 1, 0, 0, .null),
  (30, 0, .bipush 31, 2, 0, 0, .int (31)),
  (32, 0, .iand, 1, 0, 0, .null),
  (33, 0, .tableswitch 1218 0 22 #[107, 170, 193, 236, 299, 322, 505, 578, 601, 624, 657, 690, 724, 767, 810, 853, 886, 919, 1022, 1126, 1139, 1172, 1195], 107, 0, 0, .null),
  (140, 0, .aload_n 1, 1, 1, 0, .null),
  (141, 0, .aload_n 0, 1, 0, 0, .null),
  (142, 0, .iload_n 3, 1, 3, 0, .null),
  (143, 0, .iconst 1, 1, 0, 0, .int (1)),
  (144, 0, .iadd, 1, 0, 0, .null),
  (145, 0, .iaload, 1, 0, 0, .null),
  (146, 0, .aload_n 0, 1, 0, 0, .null),
  (147, 0, .iload_n 3, 1, 3, 0, .null),
  (148, 0, .iconst 2, 1, 0, 0, .int (2)),
  (149, 0, .iadd, 1, 0, 0, .null),
  (150, 0, .iaload, 1, 0, 0, .null),
  (151, 0, .aload_n 0, 1, 0, 0, .null),
  (152, 0, .iload_n 3, 1, 3, 0, .null),
  (153, 0, .iconst 3, 1, 0, 0, .int (3)),
  (154, 0, .iadd, 1, 0, 0, .null),
  (155, 0, .iaload, 1, 0, 0, .null),
  (156, 0, .aload_n 0, 1, 0, 0, .null),
  (157, 0, .iload_n 3, 1, 3, 0, .null),
  (158, 0, .iconst 4, 1, 0, 0, .int (4)),
  (159, 0, .iadd, 1, 0, 0, .null),
  (160, 0, .iaload, 1, 0, 0, .null),
  (161, 0, .aload_n 0, 1, 0, 0, .null),
  (162, 0, .iload_n 3, 1, 3, 0, .null),
  (163, 0, .iconst 5, 1, 0, 0, .int (5)),
  (164, 0, .iadd, 1, 0, 0, .null),
  (165, 0, .iaload, 1, 0, 0, .null),
  (166, 423, .invokevirtual 13, 3, 148, 5, .null),
  (169, 0, .aload_n 2, 1, 2, 0, .null),
  (170, 0, .aload_n 0, 1, 0, 0, .null),
  (171, 0, .iload_n 3, 1, 3, 0, .null),
  (172, 0, .iconst 1, 1, 0, 0, .int (1)),
  (173, 0, .iadd, 1, 0, 0, .null),
  (174, 0, .iaload, 1, 0, 0, .null),
  (175, 0, .aload_n 0, 1, 0, 0, .null),
  (176, 0, .iload_n 3, 1, 3, 0, .null),
  (177, 0, .iconst 2, 1, 0, 0, .int (2)),
  (178, 0, .iadd, 1, 0, 0, .null),
  (179, 0, .iaload, 1, 0, 0, .null),
  (180, 0, .aload_n 0, 1, 0, 0, .null),
  (181, 0, .iload_n 3, 1, 3, 0, .null),
  (182, 0, .iconst 3, 1, 0, 0, .int (3)),
  (183, 0, .iadd, 1, 0, 0, .null),
  (184, 0, .iaload, 1, 0, 0, .null),
  (185, 0, .aload_n 0, 1, 0, 0, .null),
  (186, 0, .iload_n 3, 1, 3, 0, .null),
  (187, 0, .iconst 4, 1, 0, 0, .int (4)),
  (188, 0, .iadd, 1, 0, 0, .null),
  (189, 0, .iaload, 1, 0, 0, .null),
  (190, 0, .aload_n 0, 1, 0, 0, .null),
  (191, 0, .iload_n 3, 1, 3, 0, .null),
  (192, 0, .iconst 5, 1, 0, 0, .int (5)),
  (193, 0, .iadd, 1, 0, 0, .null),
  (194, 0, .iaload, 1, 0, 0, .null),
  (195, 1363, .invokevirtual 17, 3, 183, 5, .null),
  (198, 0, .if_icmp .eq 1053, 3, 1251, 0, .null),
  (201, 0, .iconst 0, 1, 0, 0, .int (0)),
  (202, 0, .ireturn, 1, 0, 0, .null),
  (203, 0, .aload_n 1, 1, 1, 0, .null),
  (204, 0, .aload_n 0, 1, 0, 0, .null),
  (205, 0, .iload_n 3, 1, 3, 0, .null),
  (206, 0, .iconst 1, 1, 0, 0, .int (1)),
  (207, 0, .iadd, 1, 0, 0, .null),
  (208, 0, .iaload, 1, 0, 0, .null),
  (209, 439, .invokevirtual 18, 3, 149, 1, .null),
  (212, 0, .aload_n 2, 1, 2, 0, .null),
  (213, 0, .aload_n 0, 1, 0, 0, .null),
  (214, 0, .iload_n 3, 1, 3, 0, .null),
  (215, 0, .iconst 1, 1, 0, 0, .int (1)),
  (216, 0, .iadd, 1, 0, 0, .null),
  (217, 0, .iaload, 1, 0, 0, .null),
  (218, 1371, .invokevirtual 22, 3, 184, 1, .null),
  (221, 0, .if_icmp .eq 1030, 3, 1251, 0, .null),
  (224, 0, .iconst 0, 1, 0, 0, .int (0)),
  (225, 0, .ireturn, 1, 0, 0, .null),
  (226, 0, .aload_n 1, 1, 1, 0, .null),
  (227, 0, .aload_n 0, 1, 0, 0, .null),
  (228, 0, .iload_n 3, 1, 3, 0, .null),
  (229, 0, .iconst 1, 1, 0, 0, .int (1)),
  (230, 0, .iadd, 1, 0, 0, .null),
  (231, 0, .iaload, 1, 0, 0, .null),
  (232, 0, .aload_n 0, 1, 0, 0, .null),
  (233, 0, .iload_n 3, 1, 3, 0, .null),
  (234, 0, .iconst 2, 1, 0, 0, .int (2)),
  (235, 0, .iadd, 1, 0, 0, .null),
  (236, 0, .iaload, 1, 0, 0, .null),
  (237, 0, .aload_n 0, 1, 0, 0, .null),
  (238, 0, .iload_n 3, 1, 3, 0, .null),
  (239, 0, .iconst 3, 1, 0, 0, .int (3)),
  (240, 0, .iadd, 1, 0, 0, .null),
  (241, 0, .iaload, 1, 0, 0, .null),
  (242, 447, .invokevirtual 23, 3, 150, 3, .null),
  (245, 0, .aload_n 2, 1, 2, 0, .null),
  (246, 0, .aload_n 0, 1, 0, 0, .null),
  (247, 0, .iload_n 3, 1, 3, 0, .null),
  (248, 0, .iconst 1, 1, 0, 0, .int (1)),
  (249, 0, .iadd, 1, 0, 0, .null),
  (250, 0, .iaload, 1, 0, 0, .null),
  (251, 0, .aload_n 0, 1, 0, 0, .null),
  (252, 0, .iload_n 3, 1, 3, 0, .null),
  (253, 0, .iconst 2, 1, 0, 0, .int (2)),
  (254, 0, .iadd, 1, 0, 0, .null),
  (255, 0, .iaload, 1, 0, 0, .null),
  (256, 0, .aload_n 0, 1, 0, 0, .null),
  (257, 0, .iload_n 3, 1, 3, 0, .null),
  (258, 0, .iconst 3, 1, 0, 0, .int (3)),
  (259, 0, .iadd, 1, 0, 0, .null),
  (260, 0, .iaload, 1, 0, 0, .null),
  (261, 1375, .invokevirtual 27, 3, 218, 3, .null),
  (264, 0, .if_icmp .eq 987, 3, 1251, 0, .null),
  (267, 0, .iconst 0, 1, 0, 0, .int (0)),
  (268, 0, .ireturn, 1, 0, 0, .null),
  (269, 0, .aload_n 1, 1, 1, 0, .null),
  (270, 0, .aload_n 0, 1, 0, 0, .null),
  (271, 0, .iload_n 3, 1, 3, 0, .null),
  (272, 0, .iconst 1, 1, 0, 0, .int (1)),
  (273, 0, .iadd, 1, 0, 0, .null),
  (274, 0, .iaload, 1, 0, 0, .null),
  (275, 0, .aload_n 0, 1, 0, 0, .null),
  (276, 0, .iload_n 3, 1, 3, 0, .null),
  (277, 0, .iconst 2, 1, 0, 0, .int (2)),
  (278, 0, .iadd, 1, 0, 0, .null),
  (279, 0, .iaload, 1, 0, 0, .null),
  (280, 0, .i2l, 1, 0, 0, .null),
  (281, 0, .bipush 32, 2, 0, 0, .int (32)),
  (283, 0, .lshl, 1, 0, 0, .null),
  (284, 0, .aload_n 0, 1, 0, 0, .null),
  (285, 0, .iload_n 3, 1, 3, 0, .null),
  (286, 0, .iconst 3, 1, 0, 0, .int (3)),
  (287, 0, .iadd, 1, 0, 0, .null),
  (288, 0, .iaload, 1, 0, 0, .null),
  (289, 0, .i2l, 1, 0, 0, .null),
  (290, 1666, .ldc2_w 28, 3, 0, 0, .long (4294967295)),
  (293, 0, .land, 1, 0, 0, .null),
  (294, 0, .lor, 1, 0, 0, .null),
  (295, 459, .invokevirtual 30, 3, 151, 2, .null),
  (298, 0, .aload_n 2, 1, 2, 0, .null),
  (299, 0, .aload_n 0, 1, 0, 0, .null),
  (300, 0, .iload_n 3, 1, 3, 0, .null),
  (301, 0, .iconst 1, 1, 0, 0, .int (1)),
  (302, 0, .iadd, 1, 0, 0, .null),
  (303, 0, .iaload, 1, 0, 0, .null),
  (304, 0, .aload_n 0, 1, 0, 0, .null),
  (305, 0, .iload_n 3, 1, 3, 0, .null),
  (306, 0, .iconst 2, 1, 0, 0, .int (2)),
  (307, 0, .iadd, 1, 0, 0, .null),
  (308, 0, .iaload, 1, 0, 0, .null),
  (309, 0, .i2l, 1, 0, 0, .null),
  (310, 0, .bipush 32, 2, 0, 0, .int (32)),
  (312, 0, .lshl, 1, 0, 0, .null),
  (313, 0, .aload_n 0, 1, 0, 0, .null),
  (314, 0, .iload_n 3, 1, 3, 0, .null),
  (315, 0, .iconst 3, 1, 0, 0, .int (3)),
  (316, 0, .iadd, 1, 0, 0, .null),
  (317, 0, .iaload, 1, 0, 0, .null),
  (318, 0, .i2l, 1, 0, 0, .null),
  (319, 1666, .ldc2_w 28, 3, 0, 0, .long (4294967295)),
  (322, 0, .land, 1, 0, 0, .null),
  (323, 0, .lor, 1, 0, 0, .null),
  (324, 1385, .invokevirtual 34, 3, 220, 2, .null),
  (327, 0, .if_icmp .eq 924, 3, 1251, 0, .null),
  (330, 0, .iconst 0, 1, 0, 0, .int (0)),
  (331, 0, .ireturn, 1, 0, 0, .null),
  (332, 0, .aload_n 1, 1, 1, 0, .null),
  (333, 0, .aload_n 0, 1, 0, 0, .null),
  (334, 0, .iload_n 3, 1, 3, 0, .null),
  (335, 0, .iconst 1, 1, 0, 0, .int (1)),
  (336, 0, .iadd, 1, 0, 0, .null),
  (337, 0, .iaload, 1, 0, 0, .null),
  (338, 953, .invokevirtual 35, 3, 152, 1, .null),
  (341, 0, .aload_n 2, 1, 2, 0, .null),
  (342, 0, .aload_n 0, 1, 0, 0, .null),
  (343, 0, .iload_n 3, 1, 3, 0, .null),
  (344, 0, .iconst 1, 1, 0, 0, .int (1)),
  (345, 0, .iadd, 1, 0, 0, .null),
  (346, 0, .iaload, 1, 0, 0, .null),
  (347, 1512, .invokevirtual 39, 3, 221, 1, .null),
  (350, 0, .if_icmp .eq 901, 3, 1251, 0, .null),
  (353, 0, .iconst 0, 1, 0, 0, .int (0)),
  (354, 0, .ireturn, 1, 0, 0, .null),
  (355, 0, .aload_n 1, 1, 1, 0, .null),
  (356, 0, .aload_n 0, 1, 0, 0, .null),
  (357, 0, .iload_n 3, 1, 3, 0, .null),
  (358, 0, .iconst 1, 1, 0, 0, .int (1)),
  (359, 0, .iadd, 1, 0, 0, .null),
  (360, 0, .iaload, 1, 0, 0, .null),
  (361, 0, .aload_n 0, 1, 0, 0, .null),
  (362, 0, .iload_n 3, 1, 3, 0, .null),
  (363, 0, .iconst 2, 1, 0, 0, .int (2)),
  (364, 0, .iadd, 1, 0, 0, .null),
  (365, 0, .iaload, 1, 0, 0, .null),
  (366, 0, .aload_n 0, 1, 0, 0, .null),
  (367, 0, .iload_n 3, 1, 3, 0, .null),
  (368, 0, .iconst 3, 1, 0, 0, .int (3)),
  (369, 0, .iadd, 1, 0, 0, .null),
  (370, 0, .iaload, 1, 0, 0, .null),
  (371, 0, .aload_n 0, 1, 0, 0, .null),
  (372, 0, .iload_n 3, 1, 3, 0, .null),
  (373, 0, .iconst 4, 1, 0, 0, .int (4)),
  (374, 0, .iadd, 1, 0, 0, .null),
  (375, 0, .iaload, 1, 0, 0, .null),
  (376, 0, .i2l, 1, 0, 0, .null),
  (377, 0, .bipush 32, 2, 0, 0, .int (32)),
  (379, 0, .lshl, 1, 0, 0, .null),
  (380, 0, .aload_n 0, 1, 0, 0, .null),
  (381, 0, .iload_n 3, 1, 3, 0, .null),
  (382, 0, .iconst 5, 1, 0, 0, .int (5)),
  (383, 0, .iadd, 1, 0, 0, .null),
  (384, 0, .iaload, 1, 0, 0, .null),
  (385, 0, .i2l, 1, 0, 0, .null),
  (386, 1666, .ldc2_w 28, 3, 0, 0, .long (4294967295)),
  (389, 0, .land, 1, 0, 0, .null),
  (390, 0, .lor, 1, 0, 0, .null),
  (391, 0, .aload_n 0, 1, 0, 0, .null),
  (392, 0, .iload_n 3, 1, 3, 0, .null),
  (393, 0, .bipush 6, 2, 0, 0, .int (6)),
  (395, 0, .iadd, 1, 0, 0, .null),
  (396, 0, .iaload, 1, 0, 0, .null),
  (397, 0, .i2l, 1, 0, 0, .null),
  (398, 0, .bipush 32, 2, 0, 0, .int (32)),
  (400, 0, .lshl, 1, 0, 0, .null),
  (401, 0, .aload_n 0, 1, 0, 0, .null),
  (402, 0, .iload_n 3, 1, 3, 0, .null),
  (403, 0, .bipush 7, 2, 0, 0, .int (7)),
  (405, 0, .iadd, 1, 0, 0, .null),
  (406, 0, .iaload, 1, 0, 0, .null),
  (407, 0, .i2l, 1, 0, 0, .null),
  (408, 1666, .ldc2_w 28, 3, 0, 0, .long (4294967295)),
  (411, 0, .land, 1, 0, 0, .null),
  (412, 0, .lor, 1, 0, 0, .null),
  (413, 0, .aload_n 0, 1, 0, 0, .null),
  (414, 0, .iload_n 3, 1, 3, 0, .null),
  (415, 0, .bipush 8, 2, 0, 0, .int (8)),
  (417, 0, .iadd, 1, 0, 0, .null),
  (418, 0, .iaload, 1, 0, 0, .null),
  (419, 0, .aload_n 0, 1, 0, 0, .null),
  (420, 0, .iload_n 3, 1, 3, 0, .null),
  (421, 0, .bipush 9, 2, 0, 0, .int (9)),
  (423, 0, .iadd, 1, 0, 0, .null),
  (424, 0, .iaload, 1, 0, 0, .null),
  (425, 0, .i2l, 1, 0, 0, .null),
  (426, 0, .bipush 32, 2, 0, 0, .int (32)),
  (428, 0, .lshl, 1, 0, 0, .null),
  (429, 0, .aload_n 0, 1, 0, 0, .null),
  (430, 0, .iload_n 3, 1, 3, 0, .null),
  (431, 0, .bipush 10, 2, 0, 0, .int (10)),
  (433, 0, .iadd, 1, 0, 0, .null),
  (434, 0, .iaload, 1, 0, 0, .null),
  (435, 0, .i2l, 1, 0, 0, .null),
  (436, 1666, .ldc2_w 28, 3, 0, 0, .long (4294967295)),
  (439, 0, .land, 1, 0, 0, .null),
  (440, 0, .lor, 1, 0, 0, .null),
  (441, 957, .invokevirtual 40, 3, 153, 7, .null),
  (444, 0, .aload_n 2, 1, 2, 0, .null),
  (445, 0, .aload_n 0, 1, 0, 0, .null),
  (446, 0, .iload_n 3, 1, 3, 0, .null),
  (447, 0, .iconst 1, 1, 0, 0, .int (1)),
  (448, 0, .iadd, 1, 0, 0, .null),
  (449, 0, .iaload, 1, 0, 0, .null),
  (450, 0, .aload_n 0, 1, 0, 0, .null),
  (451, 0, .iload_n 3, 1, 3, 0, .null),
  (452, 0, .iconst 2, 1, 0, 0, .int (2)),
  (453, 0, .iadd, 1, 0, 0, .null),
  (454, 0, .iaload, 1, 0, 0, .null),
  (455, 0, .aload_n 0, 1, 0, 0, .null),
  (456, 0, .iload_n 3, 1, 3, 0, .null),
  (457, 0, .iconst 3, 1, 0, 0, .int (3)),
  (458, 0, .iadd, 1, 0, 0, .null),
  (459, 0, .iaload, 1, 0, 0, .null),
  (460, 0, .aload_n 0, 1, 0, 0, .null),
  (461, 0, .iload_n 3, 1, 3, 0, .null),
  (462, 0, .iconst 4, 1, 0, 0, .int (4)),
  (463, 0, .iadd, 1, 0, 0, .null),
  (464, 0, .iaload, 1, 0, 0, .null),
  (465, 0, .i2l, 1, 0, 0, .null),
  (466, 0, .bipush 32, 2, 0, 0, .int (32)),
  (468, 0, .lshl, 1, 0, 0, .null),
  (469, 0, .aload_n 0, 1, 0, 0, .null),
  (470, 0, .iload_n 3, 1, 3, 0, .null),
  (471, 0, .iconst 5, 1, 0, 0, .int (5)),
  (472, 0, .iadd, 1, 0, 0, .null),
  (473, 0, .iaload, 1, 0, 0, .null),
  (474, 0, .i2l, 1, 0, 0, .null),
  (475, 1666, .ldc2_w 28, 3, 0, 0, .long (4294967295)),
  (478, 0, .land, 1, 0, 0, .null),
  (479, 0, .lor, 1, 0, 0, .null),
  (480, 0, .aload_n 0, 1, 0, 0, .null),
  (481, 0, .iload_n 3, 1, 3, 0, .null),
  (482, 0, .bipush 6, 2, 0, 0, .int (6)),
  (484, 0, .iadd, 1, 0, 0, .null),
  (485, 0, .iaload, 1, 0, 0, .null),
  (486, 0, .i2l, 1, 0, 0, .null),
  (487, 0, .bipush 32, 2, 0, 0, .int (32)),
  (489, 0, .lshl, 1, 0, 0, .null),
  (490, 0, .aload_n 0, 1, 0, 0, .null),
  (491, 0, .iload_n 3, 1, 3, 0, .null),
  (492, 0, .bipush 7, 2, 0, 0, .int (7)),
  (494, 0, .iadd, 1, 0, 0, .null),
  (495, 0, .iaload, 1, 0, 0, .null),
  (496, 0, .i2l, 1, 0, 0, .null),
  (497, 1666, .ldc2_w 28, 3, 0, 0, .long (4294967295)),
  (500, 0, .land, 1, 0, 0, .null),
  (501, 0, .lor, 1, 0, 0, .null),
  (502, 0, .aload_n 0, 1, 0, 0, .null),
  (503, 0, .iload_n 3, 1, 3, 0, .null),
  (504, 0, .bipush 8, 2, 0, 0, .int (8)),
  (506, 0, .iadd, 1, 0, 0, .null),
  (507, 0, .iaload, 1, 0, 0, .null),
  (508, 0, .aload_n 0, 1, 0, 0, .null),
  (509, 0, .iload_n 3, 1, 3, 0, .null),
  (510, 0, .bipush 9, 2, 0, 0, .int (9)),
  (512, 0, .iadd, 1, 0, 0, .null),
  (513, 0, .iaload, 1, 0, 0, .null),
  (514, 0, .i2l, 1, 0, 0, .null),
  (515, 0, .bipush 32, 2, 0, 0, .int (32)),
  (517, 0, .lshl, 1, 0, 0, .null),
  (518, 0, .aload_n 0, 1, 0, 0, .null),
  (519, 0, .iload_n 3, 1, 3, 0, .null),
  (520, 0, .bipush 10, 2, 0, 0, .int (10)),
  (522, 0, .iadd, 1, 0, 0, .null),
  (523, 0, .iaload, 1, 0, 0, .null),
  (524, 0, .i2l, 1, 0, 0, .null),
  (525, 1666, .ldc2_w 28, 3, 0, 0, .long (4294967295)),
  (528, 0, .land, 1, 0, 0, .null),
  (529, 0, .lor, 1, 0, 0, .null),
  (530, 1516, .invokevirtual 44, 3, 222, 7, .null),
  (533, 0, .if_icmp .eq 718, 3, 1251, 0, .null),
  (536, 0, .iconst 0, 1, 0, 0, .int (0)),
  (537, 0, .ireturn, 1, 0, 0, .null),
  (538, 0, .aload_n 1, 1, 1, 0, .null),
  (539, 0, .aload_n 0, 1, 0, 0, .null),
  (540, 0, .iload_n 3, 1, 3, 0, .null),
  (541, 0, .iconst 1, 1, 0, 0, .int (1)),
  (542, 0, .iadd, 1, 0, 0, .null),
  (543, 0, .iaload, 1, 0, 0, .null),
  (544, 0, .aload_n 0, 1, 0, 0, .null),
  (545, 0, .iload_n 3, 1, 3, 0, .null),
  (546, 0, .iconst 2, 1, 0, 0, .int (2)),
  (547, 0, .iadd, 1, 0, 0, .null),
  (548, 0, .iaload, 1, 0, 0, .null),
  (549, 0, .aload_n 0, 1, 0, 0, .null),
  (550, 0, .iload_n 3, 1, 3, 0, .null),
  (551, 0, .iconst 3, 1, 0, 0, .int (3)),
  (552, 0, .iadd, 1, 0, 0, .null),
  (553, 0, .iaload, 1, 0, 0, .null),
  (554, 0, .i2l, 1, 0, 0, .null),
  (555, 0, .bipush 32, 2, 0, 0, .int (32)),
  (557, 0, .lshl, 1, 0, 0, .null),
  (558, 0, .aload_n 0, 1, 0, 0, .null),
  (559, 0, .iload_n 3, 1, 3, 0, .null),
  (560, 0, .iconst 4, 1, 0, 0, .int (4)),
  (561, 0, .iadd, 1, 0, 0, .null),
  (562, 0, .iaload, 1, 0, 0, .null),
  (563, 0, .i2l, 1, 0, 0, .null),
  (564, 1666, .ldc2_w 28, 3, 0, 0, .long (4294967295)),
  (567, 0, .land, 1, 0, 0, .null),
  (568, 0, .lor, 1, 0, 0, .null),
  (569, 967, .invokevirtual 45, 3, 154, 3, .null),
  (572, 0, .aload_n 2, 1, 2, 0, .null),
  (573, 0, .aload_n 0, 1, 0, 0, .null),
  (574, 0, .iload_n 3, 1, 3, 0, .null),
  (575, 0, .iconst 1, 1, 0, 0, .int (1)),
  (576, 0, .iadd, 1, 0, 0, .null),
  (577, 0, .iaload, 1, 0, 0, .null),
  (578, 0, .aload_n 0, 1, 0, 0, .null),
  (579, 0, .iload_n 3, 1, 3, 0, .null),
  (580, 0, .iconst 2, 1, 0, 0, .int (2)),
  (581, 0, .iadd, 1, 0, 0, .null),
  (582, 0, .iaload, 1, 0, 0, .null),
  (583, 0, .aload_n 0, 1, 0, 0, .null),
  (584, 0, .iload_n 3, 1, 3, 0, .null),
  (585, 0, .iconst 3, 1, 0, 0, .int (3)),
  (586, 0, .iadd, 1, 0, 0, .null),
  (587, 0, .iaload, 1, 0, 0, .null),
  (588, 0, .i2l, 1, 0, 0, .null),
  (589, 0, .bipush 32, 2, 0, 0, .int (32)),
  (591, 0, .lshl, 1, 0, 0, .null),
  (592, 0, .aload_n 0, 1, 0, 0, .null),
  (593, 0, .iload_n 3, 1, 3, 0, .null),
  (594, 0, .iconst 4, 1, 0, 0, .int (4)),
  (595, 0, .iadd, 1, 0, 0, .null),
  (596, 0, .iaload, 1, 0, 0, .null),
  (597, 0, .i2l, 1, 0, 0, .null),
  (598, 1666, .ldc2_w 28, 3, 0, 0, .long (4294967295)),
  (601, 0, .land, 1, 0, 0, .null),
  (602, 0, .lor, 1, 0, 0, .null),
  (603, 1522, .invokevirtual 49, 3, 225, 3, .null),
  (606, 0, .if_icmp .eq 645, 3, 1251, 0, .null),
  (609, 0, .iconst 0, 1, 0, 0, .int (0)),
  (610, 0, .ireturn, 1, 0, 0, .null),
  (611, 0, .aload_n 1, 1, 1, 0, .null),
  (612, 0, .aload_n 0, 1, 0, 0, .null),
  (613, 0, .iload_n 3, 1, 3, 0, .null),
  (614, 0, .iconst 1, 1, 0, 0, .int (1)),
  (615, 0, .iadd, 1, 0, 0, .null),
  (616, 0, .iaload, 1, 0, 0, .null),
  (617, 990, .invokevirtual 50, 3, 155, 1, .null),
  (620, 0, .aload_n 2, 1, 2, 0, .null),
  (621, 0, .aload_n 0, 1, 0, 0, .null),
  (622, 0, .iload_n 3, 1, 3, 0, .null),
  (623, 0, .iconst 1, 1, 0, 0, .int (1)),
  (624, 0, .iadd, 1, 0, 0, .null),
  (625, 0, .iaload, 1, 0, 0, .null),
  (626, 1534, .invokevirtual 53, 3, 226, 1, .null),
  (629, 0, .if_icmp .eq 622, 3, 1251, 0, .null),
  (632, 0, .iconst 0, 1, 0, 0, .int (0)),
  (633, 0, .ireturn, 1, 0, 0, .null),
  (634, 0, .aload_n 1, 1, 1, 0, .null),
  (635, 0, .aload_n 0, 1, 0, 0, .null),
  (636, 0, .iload_n 3, 1, 3, 0, .null),
  (637, 0, .iconst 1, 1, 0, 0, .int (1)),
  (638, 0, .iadd, 1, 0, 0, .null),
  (639, 0, .iaload, 1, 0, 0, .null),
  (640, 1007, .invokevirtual 54, 3, 156, 1, .null),
  (643, 0, .aload_n 2, 1, 2, 0, .null),
  (644, 0, .aload_n 0, 1, 0, 0, .null),
  (645, 0, .iload_n 3, 1, 3, 0, .null),
  (646, 0, .iconst 1, 1, 0, 0, .int (1)),
  (647, 0, .iadd, 1, 0, 0, .null),
  (648, 0, .iaload, 1, 0, 0, .null),
  (649, 1542, .invokevirtual 57, 3, 227, 1, .null),
  (652, 0, .if_icmp .eq 599, 3, 1251, 0, .null),
  (655, 0, .iconst 0, 1, 0, 0, .int (0)),
  (656, 0, .ireturn, 1, 0, 0, .null),
  (657, 0, .aload_n 1, 1, 1, 0, .null),
  (658, 0, .aload_n 0, 1, 0, 0, .null),
  (659, 0, .iload_n 3, 1, 3, 0, .null),
  (660, 0, .iconst 1, 1, 0, 0, .int (1)),
  (661, 0, .iadd, 1, 0, 0, .null),
  (662, 0, .iaload, 1, 0, 0, .null),
  (663, 0, .aload_n 0, 1, 0, 0, .null),
  (664, 0, .iload_n 3, 1, 3, 0, .null),
  (665, 0, .iconst 2, 1, 0, 0, .int (2)),
  (666, 0, .iadd, 1, 0, 0, .null),
  (667, 0, .iaload, 1, 0, 0, .null),
  (668, 1015, .invokevirtual 58, 3, 157, 2, .null),
  (671, 0, .aload_n 2, 1, 2, 0, .null),
  (672, 0, .aload_n 0, 1, 0, 0, .null),
  (673, 0, .iload_n 3, 1, 3, 0, .null),
  (674, 0, .iconst 1, 1, 0, 0, .int (1)),
  (675, 0, .iadd, 1, 0, 0, .null),
  (676, 0, .iaload, 1, 0, 0, .null),
  (677, 0, .aload_n 0, 1, 0, 0, .null),
  (678, 0, .iload_n 3, 1, 3, 0, .null),
  (679, 0, .iconst 2, 1, 0, 0, .int (2)),
  (680, 0, .iadd, 1, 0, 0, .null),
  (681, 0, .iaload, 1, 0, 0, .null),
  (682, 1546, .invokevirtual 62, 3, 228, 2, .null),
  (685, 0, .if_icmp .eq 566, 3, 1251, 0, .null),
  (688, 0, .iconst 0, 1, 0, 0, .int (0)),
  (689, 0, .ireturn, 1, 0, 0, .null),
  (690, 0, .aload_n 1, 1, 1, 0, .null),
  (691, 0, .aload_n 0, 1, 0, 0, .null),
  (692, 0, .iload_n 3, 1, 3, 0, .null),
  (693, 0, .iconst 1, 1, 0, 0, .int (1)),
  (694, 0, .iadd, 1, 0, 0, .null),
  (695, 0, .iaload, 1, 0, 0, .null),
  (696, 0, .aload_n 0, 1, 0, 0, .null),
  (697, 0, .iload_n 3, 1, 3, 0, .null),
  (698, 0, .iconst 2, 1, 0, 0, .int (2)),
  (699, 0, .iadd, 1, 0, 0, .null),
  (700, 0, .iaload, 1, 0, 0, .null),
  (701, 1029, .invokevirtual 63, 3, 158, 2, .null),
  (704, 0, .aload_n 2, 1, 2, 0, .null),
  (705, 0, .aload_n 0, 1, 0, 0, .null),
  (706, 0, .iload_n 3, 1, 3, 0, .null),
  (707, 0, .iconst 1, 1, 0, 0, .int (1)),
  (708, 0, .iadd, 1, 0, 0, .null),
  (709, 0, .iaload, 1, 0, 0, .null),
  (710, 0, .aload_n 0, 1, 0, 0, .null),
  (711, 0, .iload_n 3, 1, 3, 0, .null),
  (712, 0, .iconst 2, 1, 0, 0, .int (2)),
  (713, 0, .iadd, 1, 0, 0, .null),
  (714, 0, .iaload, 1, 0, 0, .null),
  (715, 1550, .invokevirtual 66, 3, 229, 2, .null),
  (718, 0, .if_icmp .eq 533, 3, 1251, 0, .null),
  (721, 0, .iconst 0, 1, 0, 0, .int (0)),
  (722, 0, .ireturn, 1, 0, 0, .null),
  (723, 0, .aload_n 1, 1, 1, 0, .null),
  (724, 0, .aload_n 0, 1, 0, 0, .null),
  (725, 0, .iload_n 3, 1, 3, 0, .null),
  (726, 0, .iconst 1, 1, 0, 0, .int (1)),
  (727, 0, .iadd, 1, 0, 0, .null),
  (728, 0, .iaload, 1, 0, 0, .null),
  (729, 0, .aload_n 0, 1, 0, 0, .null),
  (730, 0, .iload_n 3, 1, 3, 0, .null),
  (731, 0, .iconst 2, 1, 0, 0, .int (2)),
  (732, 0, .iadd, 1, 0, 0, .null),
  (733, 0, .iaload, 1, 0, 0, .null),
  (734, 1035, .invokevirtual 67, 3, 159, 2, .null),
  (737, 0, .aload_n 2, 1, 2, 0, .null),
  (738, 0, .aload_n 0, 1, 0, 0, .null),
  (739, 0, .iload_n 3, 1, 3, 0, .null),
  (740, 0, .iconst 1, 1, 0, 0, .int (1)),
  (741, 0, .iadd, 1, 0, 0, .null),
  (742, 0, .iaload, 1, 0, 0, .null),
  (743, 0, .aload_n 0, 1, 0, 0, .null),
  (744, 0, .iload_n 3, 1, 3, 0, .null),
  (745, 0, .iconst 2, 1, 0, 0, .int (2)),
  (746, 0, .iadd, 1, 0, 0, .null),
  (747, 0, .iaload, 1, 0, 0, .null),
  (748, 1554, .invokevirtual 71, 3, 230, 2, .null),
  (751, 0, .lcmp, 1, 0, 0, .null),
  (752, 0, .ifCond .eq 499, 3, 1251, 0, .null),
  (755, 0, .iconst 0, 1, 0, 0, .int (0)),
  (756, 0, .ireturn, 1, 0, 0, .null),
  (757, 0, .aload_n 1, 1, 1, 0, .null),
  (758, 0, .aload_n 0, 1, 0, 0, .null),
  (759, 0, .iload_n 3, 1, 3, 0, .null),
  (760, 0, .iconst 1, 1, 0, 0, .int (1)),
  (761, 0, .iadd, 1, 0, 0, .null),
  (762, 0, .iaload, 1, 0, 0, .null),
  (763, 0, .aload_n 0, 1, 0, 0, .null),
  (764, 0, .iload_n 3, 1, 3, 0, .null),
  (765, 0, .iconst 2, 1, 0, 0, .int (2)),
  (766, 0, .iadd, 1, 0, 0, .null),
  (767, 0, .iaload, 1, 0, 0, .null),
  (768, 0, .aload_n 0, 1, 0, 0, .null),
  (769, 0, .iload_n 3, 1, 3, 0, .null),
  (770, 0, .iconst 3, 1, 0, 0, .int (3)),
  (771, 0, .iadd, 1, 0, 0, .null),
  (772, 0, .iaload, 1, 0, 0, .null),
  (773, 1040, .invokevirtual 72, 3, 160, 3, .null),
  (776, 0, .aload_n 2, 1, 2, 0, .null),
  (777, 0, .aload_n 0, 1, 0, 0, .null),
  (778, 0, .iload_n 3, 1, 3, 0, .null),
  (779, 0, .iconst 1, 1, 0, 0, .int (1)),
  (780, 0, .iadd, 1, 0, 0, .null),
  (781, 0, .iaload, 1, 0, 0, .null),
  (782, 0, .aload_n 0, 1, 0, 0, .null),
  (783, 0, .iload_n 3, 1, 3, 0, .null),
  (784, 0, .iconst 2, 1, 0, 0, .int (2)),
  (785, 0, .iadd, 1, 0, 0, .null),
  (786, 0, .iaload, 1, 0, 0, .null),
  (787, 0, .aload_n 0, 1, 0, 0, .null),
  (788, 0, .iload_n 3, 1, 3, 0, .null),
  (789, 0, .iconst 3, 1, 0, 0, .int (3)),
  (790, 0, .iadd, 1, 0, 0, .null),
  (791, 0, .iaload, 1, 0, 0, .null),
  (792, 1558, .invokevirtual 76, 3, 234, 3, .null),
  (795, 0, .if_icmp .eq 456, 3, 1251, 0, .null),
  (798, 0, .iconst 0, 1, 0, 0, .int (0)),
  (799, 0, .ireturn, 1, 0, 0, .null),
  (800, 0, .aload_n 1, 1, 1, 0, .null),
  (801, 0, .aload_n 0, 1, 0, 0, .null),
  (802, 0, .iload_n 3, 1, 3, 0, .null),
  (803, 0, .iconst 1, 1, 0, 0, .int (1)),
  (804, 0, .iadd, 1, 0, 0, .null),
  (805, 0, .iaload, 1, 0, 0, .null),
  (806, 0, .aload_n 0, 1, 0, 0, .null),
  (807, 0, .iload_n 3, 1, 3, 0, .null),
  (808, 0, .iconst 2, 1, 0, 0, .int (2)),
  (809, 0, .iadd, 1, 0, 0, .null),
  (810, 0, .iaload, 1, 0, 0, .null),
  (811, 0, .aload_n 0, 1, 0, 0, .null),
  (812, 0, .iload_n 3, 1, 3, 0, .null),
  (813, 0, .iconst 3, 1, 0, 0, .int (3)),
  (814, 0, .iadd, 1, 0, 0, .null),
  (815, 0, .iaload, 1, 0, 0, .null),
  (816, 1060, .invokevirtual 77, 3, 161, 3, .null),
  (819, 0, .aload_n 2, 1, 2, 0, .null),
  (820, 0, .aload_n 0, 1, 0, 0, .null),
  (821, 0, .iload_n 3, 1, 3, 0, .null),
  (822, 0, .iconst 1, 1, 0, 0, .int (1)),
  (823, 0, .iadd, 1, 0, 0, .null),
  (824, 0, .iaload, 1, 0, 0, .null),
  (825, 0, .aload_n 0, 1, 0, 0, .null),
  (826, 0, .iload_n 3, 1, 3, 0, .null),
  (827, 0, .iconst 2, 1, 0, 0, .int (2)),
  (828, 0, .iadd, 1, 0, 0, .null),
  (829, 0, .iaload, 1, 0, 0, .null),
  (830, 0, .aload_n 0, 1, 0, 0, .null),
  (831, 0, .iload_n 3, 1, 3, 0, .null),
  (832, 0, .iconst 3, 1, 0, 0, .int (3)),
  (833, 0, .iadd, 1, 0, 0, .null),
  (834, 0, .iaload, 1, 0, 0, .null),
  (835, 1610, .invokevirtual 80, 3, 235, 3, .null),
  (838, 0, .if_icmp .eq 413, 3, 1251, 0, .null),
  (841, 0, .iconst 0, 1, 0, 0, .int (0)),
  (842, 0, .ireturn, 1, 0, 0, .null),
  (843, 0, .aload_n 1, 1, 1, 0, .null),
  (844, 0, .aload_n 0, 1, 0, 0, .null),
  (845, 0, .iload_n 3, 1, 3, 0, .null),
  (846, 0, .iconst 1, 1, 0, 0, .int (1)),
  (847, 0, .iadd, 1, 0, 0, .null),
  (848, 0, .iaload, 1, 0, 0, .null),
  (849, 0, .aload_n 0, 1, 0, 0, .null),
  (850, 0, .iload_n 3, 1, 3, 0, .null),
  (851, 0, .iconst 2, 1, 0, 0, .int (2)),
  (852, 0, .iadd, 1, 0, 0, .null),
  (853, 0, .iaload, 1, 0, 0, .null),
  (854, 0, .aload_n 0, 1, 0, 0, .null),
  (855, 0, .iload_n 3, 1, 3, 0, .null),
  (856, 0, .iconst 3, 1, 0, 0, .int (3)),
  (857, 0, .iadd, 1, 0, 0, .null),
  (858, 0, .iaload, 1, 0, 0, .null),
  (859, 1073, .invokevirtual 81, 3, 162, 3, .null),
  (862, 0, .aload_n 2, 1, 2, 0, .null),
  (863, 0, .aload_n 0, 1, 0, 0, .null),
  (864, 0, .iload_n 3, 1, 3, 0, .null),
  (865, 0, .iconst 1, 1, 0, 0, .int (1)),
  (866, 0, .iadd, 1, 0, 0, .null),
  (867, 0, .iaload, 1, 0, 0, .null),
  (868, 0, .aload_n 0, 1, 0, 0, .null),
  (869, 0, .iload_n 3, 1, 3, 0, .null),
  (870, 0, .iconst 2, 1, 0, 0, .int (2)),
  (871, 0, .iadd, 1, 0, 0, .null),
  (872, 0, .iaload, 1, 0, 0, .null),
  (873, 0, .aload_n 0, 1, 0, 0, .null),
  (874, 0, .iload_n 3, 1, 3, 0, .null),
  (875, 0, .iconst 3, 1, 0, 0, .int (3)),
  (876, 0, .iadd, 1, 0, 0, .null),
  (877, 0, .iaload, 1, 0, 0, .null),
  (878, 1618, .invokevirtual 84, 3, 236, 3, .null),
  (881, 0, .if_icmp .eq 370, 3, 1251, 0, .null),
  (884, 0, .iconst 0, 1, 0, 0, .int (0)),
  (885, 0, .ireturn, 1, 0, 0, .null),
  (886, 0, .aload_n 1, 1, 1, 0, .null),
  (887, 0, .aload_n 0, 1, 0, 0, .null),
  (888, 0, .iload_n 3, 1, 3, 0, .null),
  (889, 0, .iconst 1, 1, 0, 0, .int (1)),
  (890, 0, .iadd, 1, 0, 0, .null),
  (891, 0, .iaload, 1, 0, 0, .null),
  (892, 0, .aload_n 0, 1, 0, 0, .null),
  (893, 0, .iload_n 3, 1, 3, 0, .null),
  (894, 0, .iconst 2, 1, 0, 0, .int (2)),
  (895, 0, .iadd, 1, 0, 0, .null),
  (896, 0, .iaload, 1, 0, 0, .null),
  (897, 1082, .invokevirtual 85, 3, 163, 2, .null),
  (900, 0, .aload_n 2, 1, 2, 0, .null),
  (901, 0, .aload_n 0, 1, 0, 0, .null),
  (902, 0, .iload_n 3, 1, 3, 0, .null),
  (903, 0, .iconst 1, 1, 0, 0, .int (1)),
  (904, 0, .iadd, 1, 0, 0, .null),
  (905, 0, .iaload, 1, 0, 0, .null),
  (906, 0, .aload_n 0, 1, 0, 0, .null),
  (907, 0, .iload_n 3, 1, 3, 0, .null),
  (908, 0, .iconst 2, 1, 0, 0, .int (2)),
  (909, 0, .iadd, 1, 0, 0, .null),
  (910, 0, .iaload, 1, 0, 0, .null),
  (911, 1622, .invokevirtual 88, 3, 237, 2, .null),
  (914, 0, .if_icmp .eq 337, 3, 1251, 0, .null),
  (917, 0, .iconst 0, 1, 0, 0, .int (0)),
  (918, 0, .ireturn, 1, 0, 0, .null),
  (919, 0, .aload_n 1, 1, 1, 0, .null),
  (920, 0, .aload_n 0, 1, 0, 0, .null),
  (921, 0, .iload_n 3, 1, 3, 0, .null),
  (922, 0, .iconst 1, 1, 0, 0, .int (1)),
  (923, 0, .iadd, 1, 0, 0, .null),
  (924, 0, .iaload, 1, 0, 0, .null),
  (925, 0, .aload_n 0, 1, 0, 0, .null),
  (926, 0, .iload_n 3, 1, 3, 0, .null),
  (927, 0, .iconst 2, 1, 0, 0, .int (2)),
  (928, 0, .iadd, 1, 0, 0, .null),
  (929, 0, .iaload, 1, 0, 0, .null),
  (930, 1095, .invokevirtual 89, 3, 164, 2, .null),
  (933, 0, .aload_n 2, 1, 2, 0, .null),
  (934, 0, .aload_n 0, 1, 0, 0, .null),
  (935, 0, .iload_n 3, 1, 3, 0, .null),
  (936, 0, .iconst 1, 1, 0, 0, .int (1)),
  (937, 0, .iadd, 1, 0, 0, .null),
  (938, 0, .iaload, 1, 0, 0, .null),
  (939, 0, .aload_n 0, 1, 0, 0, .null),
  (940, 0, .iload_n 3, 1, 3, 0, .null),
  (941, 0, .iconst 2, 1, 0, 0, .int (2)),
  (942, 0, .iadd, 1, 0, 0, .null),
  (943, 0, .iaload, 1, 0, 0, .null),
  (944, 1630, .invokevirtual 92, 3, 238, 2, .null),
  (947, 0, .if_icmp .eq 304, 3, 1251, 0, .null),
  (950, 0, .iconst 0, 1, 0, 0, .int (0)),
  (951, 0, .ireturn, 1, 0, 0, .null),
  (952, 0, .aload_n 1, 1, 1, 0, .null),
  (953, 0, .aload_n 0, 1, 0, 0, .null),
  (954, 0, .iload_n 3, 1, 3, 0, .null),
  (955, 0, .iconst 1, 1, 0, 0, .int (1)),
  (956, 0, .iadd, 1, 0, 0, .null),
  (957, 0, .iaload, 1, 0, 0, .null),
  (958, 0, .aload_n 0, 1, 0, 0, .null),
  (959, 0, .iload_n 3, 1, 3, 0, .null),
  (960, 0, .iconst 2, 1, 0, 0, .int (2)),
  (961, 0, .iadd, 1, 0, 0, .null),
  (962, 0, .iaload, 1, 0, 0, .null),
  (963, 0, .i2l, 1, 0, 0, .null),
  (964, 0, .bipush 32, 2, 0, 0, .int (32)),
  (966, 0, .lshl, 1, 0, 0, .null),
  (967, 0, .aload_n 0, 1, 0, 0, .null),
  (968, 0, .iload_n 3, 1, 3, 0, .null),
  (969, 0, .iconst 3, 1, 0, 0, .int (3)),
  (970, 0, .iadd, 1, 0, 0, .null),
  (971, 0, .iaload, 1, 0, 0, .null),
  (972, 0, .i2l, 1, 0, 0, .null),
  (973, 1666, .ldc2_w 28, 3, 0, 0, .long (4294967295)),
  (976, 0, .land, 1, 0, 0, .null),
  (977, 0, .lor, 1, 0, 0, .null),
  (978, 0, .aload_n 0, 1, 0, 0, .null),
  (979, 0, .iload_n 3, 1, 3, 0, .null),
  (980, 0, .iconst 4, 1, 0, 0, .int (4)),
  (981, 0, .iadd, 1, 0, 0, .null),
  (982, 0, .iaload, 1, 0, 0, .null),
  (983, 0, .i2l, 1, 0, 0, .null),
  (984, 0, .bipush 32, 2, 0, 0, .int (32)),
  (986, 0, .lshl, 1, 0, 0, .null),
  (987, 0, .aload_n 0, 1, 0, 0, .null),
  (988, 0, .iload_n 3, 1, 3, 0, .null),
  (989, 0, .iconst 5, 1, 0, 0, .int (5)),
  (990, 0, .iadd, 1, 0, 0, .null),
  (991, 0, .iaload, 1, 0, 0, .null),
  (992, 0, .i2l, 1, 0, 0, .null),
  (993, 1666, .ldc2_w 28, 3, 0, 0, .long (4294967295)),
  (996, 0, .land, 1, 0, 0, .null),
  (997, 0, .lor, 1, 0, 0, .null),
  (998, 1104, .invokevirtual 93, 3, 165, 3, .null),
  (1001, 0, .aload_n 2, 1, 2, 0, .null),
  (1002, 0, .aload_n 0, 1, 0, 0, .null),
  (1003, 0, .iload_n 3, 1, 3, 0, .null),
  (1004, 0, .iconst 1, 1, 0, 0, .int (1)),
  (1005, 0, .iadd, 1, 0, 0, .null),
  (1006, 0, .iaload, 1, 0, 0, .null),
  (1007, 0, .aload_n 0, 1, 0, 0, .null),
  (1008, 0, .iload_n 3, 1, 3, 0, .null),
  (1009, 0, .iconst 2, 1, 0, 0, .int (2)),
  (1010, 0, .iadd, 1, 0, 0, .null),
  (1011, 0, .iaload, 1, 0, 0, .null),
  (1012, 0, .i2l, 1, 0, 0, .null),
  (1013, 0, .bipush 32, 2, 0, 0, .int (32)),
  (1015, 0, .lshl, 1, 0, 0, .null),
  (1016, 0, .aload_n 0, 1, 0, 0, .null),
  (1017, 0, .iload_n 3, 1, 3, 0, .null),
  (1018, 0, .iconst 3, 1, 0, 0, .int (3)),
  (1019, 0, .iadd, 1, 0, 0, .null),
  (1020, 0, .iaload, 1, 0, 0, .null),
  (1021, 0, .i2l, 1, 0, 0, .null),
  (1022, 1666, .ldc2_w 28, 3, 0, 0, .long (4294967295)),
  (1025, 0, .land, 1, 0, 0, .null),
  (1026, 0, .lor, 1, 0, 0, .null),
  (1027, 0, .aload_n 0, 1, 0, 0, .null),
  (1028, 0, .iload_n 3, 1, 3, 0, .null),
  (1029, 0, .iconst 4, 1, 0, 0, .int (4)),
  (1030, 0, .iadd, 1, 0, 0, .null),
  (1031, 0, .iaload, 1, 0, 0, .null),
  (1032, 0, .i2l, 1, 0, 0, .null),
  (1033, 0, .bipush 32, 2, 0, 0, .int (32)),
  (1035, 0, .lshl, 1, 0, 0, .null),
  (1036, 0, .aload_n 0, 1, 0, 0, .null),
  (1037, 0, .iload_n 3, 1, 3, 0, .null),
  (1038, 0, .iconst 5, 1, 0, 0, .int (5)),
  (1039, 0, .iadd, 1, 0, 0, .null),
  (1040, 0, .iaload, 1, 0, 0, .null),
  (1041, 0, .i2l, 1, 0, 0, .null),
  (1042, 1666, .ldc2_w 28, 3, 0, 0, .long (4294967295)),
  (1045, 0, .land, 1, 0, 0, .null),
  (1046, 0, .lor, 1, 0, 0, .null),
  (1047, 1634, .invokevirtual 97, 3, 241, 3, .null),
  (1050, 0, .if_icmp .eq 201, 3, 1251, 0, .null),
  (1053, 0, .iconst 0, 1, 0, 0, .int (0)),
  (1054, 0, .ireturn, 1, 0, 0, .null),
  (1055, 0, .aload_n 1, 1, 1, 0, .null),
  (1056, 0, .aload_n 0, 1, 0, 0, .null),
  (1057, 0, .iload_n 3, 1, 3, 0, .null),
  (1058, 0, .iconst 1, 1, 0, 0, .int (1)),
  (1059, 0, .iadd, 1, 0, 0, .null),
  (1060, 0, .iaload, 1, 0, 0, .null),
  (1061, 0, .aload_n 0, 1, 0, 0, .null),
  (1062, 0, .iload_n 3, 1, 3, 0, .null),
  (1063, 0, .iconst 2, 1, 0, 0, .int (2)),
  (1064, 0, .iadd, 1, 0, 0, .null),
  (1065, 0, .iaload, 1, 0, 0, .null),
  (1066, 0, .i2l, 1, 0, 0, .null),
  (1067, 0, .bipush 32, 2, 0, 0, .int (32)),
  (1069, 0, .lshl, 1, 0, 0, .null),
  (1070, 0, .aload_n 0, 1, 0, 0, .null),
  (1071, 0, .iload_n 3, 1, 3, 0, .null),
  (1072, 0, .iconst 3, 1, 0, 0, .int (3)),
  (1073, 0, .iadd, 1, 0, 0, .null),
  (1074, 0, .iaload, 1, 0, 0, .null),
  (1075, 0, .i2l, 1, 0, 0, .null),
  (1076, 1666, .ldc2_w 28, 3, 0, 0, .long (4294967295)),
  (1079, 0, .land, 1, 0, 0, .null),
  (1080, 0, .lor, 1, 0, 0, .null),
  (1081, 0, .aload_n 0, 1, 0, 0, .null),
  (1082, 0, .iload_n 3, 1, 3, 0, .null),
  (1083, 0, .iconst 4, 1, 0, 0, .int (4)),
  (1084, 0, .iadd, 1, 0, 0, .null),
  (1085, 0, .iaload, 1, 0, 0, .null),
  (1086, 0, .i2l, 1, 0, 0, .null),
  (1087, 0, .bipush 32, 2, 0, 0, .int (32)),
  (1089, 0, .lshl, 1, 0, 0, .null),
  (1090, 0, .aload_n 0, 1, 0, 0, .null),
  (1091, 0, .iload_n 3, 1, 3, 0, .null),
  (1092, 0, .iconst 5, 1, 0, 0, .int (5)),
  (1093, 0, .iadd, 1, 0, 0, .null),
  (1094, 0, .iaload, 1, 0, 0, .null),
  (1095, 0, .i2l, 1, 0, 0, .null),
  (1096, 1666, .ldc2_w 28, 3, 0, 0, .long (4294967295)),
  (1099, 0, .land, 1, 0, 0, .null),
  (1100, 0, .lor, 1, 0, 0, .null),
  (1101, 1145, .invokevirtual 98, 3, 166, 3, .null),
  (1104, 0, .aload_n 2, 1, 2, 0, .null),
  (1105, 0, .aload_n 0, 1, 0, 0, .null),
  (1106, 0, .iload_n 3, 1, 3, 0, .null),
  (1107, 0, .iconst 1, 1, 0, 0, .int (1)),
  (1108, 0, .iadd, 1, 0, 0, .null),
  (1109, 0, .iaload, 1, 0, 0, .null),
  (1110, 0, .aload_n 0, 1, 0, 0, .null),
  (1111, 0, .iload_n 3, 1, 3, 0, .null),
  (1112, 0, .iconst 2, 1, 0, 0, .int (2)),
  (1113, 0, .iadd, 1, 0, 0, .null),
  (1114, 0, .iaload, 1, 0, 0, .null),
  (1115, 0, .i2l, 1, 0, 0, .null),
  (1116, 0, .bipush 32, 2, 0, 0, .int (32)),
  (1118, 0, .lshl, 1, 0, 0, .null),
  (1119, 0, .aload_n 0, 1, 0, 0, .null),
  (1120, 0, .iload_n 3, 1, 3, 0, .null),
  (1121, 0, .iconst 3, 1, 0, 0, .int (3)),
  (1122, 0, .iadd, 1, 0, 0, .null),
  (1123, 0, .iaload, 1, 0, 0, .null),
  (1124, 0, .i2l, 1, 0, 0, .null),
  (1125, 1666, .ldc2_w 28, 3, 0, 0, .long (4294967295)),
  (1128, 0, .land, 1, 0, 0, .null),
  (1129, 0, .lor, 1, 0, 0, .null),
  (1130, 0, .aload_n 0, 1, 0, 0, .null),
  (1131, 0, .iload_n 3, 1, 3, 0, .null),
  (1132, 0, .iconst 4, 1, 0, 0, .int (4)),
  (1133, 0, .iadd, 1, 0, 0, .null),
  (1134, 0, .iaload, 1, 0, 0, .null),
  (1135, 0, .i2l, 1, 0, 0, .null),
  (1136, 0, .bipush 32, 2, 0, 0, .int (32)),
  (1138, 0, .lshl, 1, 0, 0, .null),
  (1139, 0, .aload_n 0, 1, 0, 0, .null),
  (1140, 0, .iload_n 3, 1, 3, 0, .null),
  (1141, 0, .iconst 5, 1, 0, 0, .int (5)),
  (1142, 0, .iadd, 1, 0, 0, .null),
  (1143, 0, .iaload, 1, 0, 0, .null),
  (1144, 0, .i2l, 1, 0, 0, .null),
  (1145, 1666, .ldc2_w 28, 3, 0, 0, .long (4294967295)),
  (1148, 0, .land, 1, 0, 0, .null),
  (1149, 0, .lor, 1, 0, 0, .null),
  (1150, 1646, .invokevirtual 102, 3, 242, 3, .null),
  (1153, 0, .lcmp, 1, 0, 0, .null),
  (1154, 0, .ifCond .eq 97, 3, 1251, 0, .null),
  (1157, 0, .iconst 0, 1, 0, 0, .int (0)),
  (1158, 0, .ireturn, 1, 0, 0, .null),
  (1159, 0, .aload_n 1, 1, 1, 0, .null),
  (1160, 1153, .invokevirtual 103, 3, 167, 0, .null),
  (1163, 0, .aload_n 2, 1, 2, 0, .null),
  (1164, 1650, .invokevirtual 107, 3, 243, 0, .null),
  (1167, 0, .if_icmp .eq 84, 3, 1251, 0, .null),
  (1170, 0, .iconst 0, 1, 0, 0, .int (0)),
  (1171, 0, .ireturn, 1, 0, 0, .null),
  (1172, 0, .aload_n 1, 1, 1, 0, .null),
  (1173, 0, .aload_n 0, 1, 0, 0, .null),
  (1174, 0, .iload_n 3, 1, 3, 0, .null),
  (1175, 0, .iconst 1, 1, 0, 0, .int (1)),
  (1176, 0, .iadd, 1, 0, 0, .null),
  (1177, 0, .iaload, 1, 0, 0, .null),
  (1178, 0, .aload_n 0, 1, 0, 0, .null),
  (1179, 0, .iload_n 3, 1, 3, 0, .null),
  (1180, 0, .iconst 2, 1, 0, 0, .int (2)),
  (1181, 0, .iadd, 1, 0, 0, .null),
  (1182, 0, .iaload, 1, 0, 0, .null),
  (1183, 1161, .invokevirtual 108, 3, 168, 2, .null),
  (1186, 0, .aload_n 2, 1, 2, 0, .null),
  (1187, 0, .aload_n 0, 1, 0, 0, .null),
  (1188, 0, .iload_n 3, 1, 3, 0, .null),
  (1189, 0, .iconst 1, 1, 0, 0, .int (1)),
  (1190, 0, .iadd, 1, 0, 0, .null),
  (1191, 0, .iaload, 1, 0, 0, .null),
  (1192, 0, .aload_n 0, 1, 0, 0, .null),
  (1193, 0, .iload_n 3, 1, 3, 0, .null),
  (1194, 0, .iconst 2, 1, 0, 0, .int (2)),
  (1195, 0, .iadd, 1, 0, 0, .null),
  (1196, 0, .iaload, 1, 0, 0, .null),
  (1197, 1654, .invokevirtual 111, 3, 244, 2, .null),
  (1200, 0, .if_icmp .eq 51, 3, 1251, 0, .null),
  (1203, 0, .iconst 0, 1, 0, 0, .int (0)),
  (1204, 0, .ireturn, 1, 0, 0, .null),
  (1205, 0, .aload_n 1, 1, 1, 0, .null),
  (1206, 0, .aload_n 0, 1, 0, 0, .null),
  (1207, 0, .iload_n 3, 1, 3, 0, .null),
  (1208, 0, .iconst 1, 1, 0, 0, .int (1)),
  (1209, 0, .iadd, 1, 0, 0, .null),
  (1210, 0, .iaload, 1, 0, 0, .null),
  (1211, 1174, .invokevirtual 112, 3, 169, 1, .null),
  (1214, 0, .aload_n 2, 1, 2, 0, .null),
  (1215, 0, .aload_n 0, 1, 0, 0, .null),
  (1216, 0, .iload_n 3, 1, 3, 0, .null),
  (1217, 0, .iconst 1, 1, 0, 0, .int (1)),
  (1218, 0, .iadd, 1, 0, 0, .null),
  (1219, 0, .iaload, 1, 0, 0, .null),
  (1220, 1658, .invokevirtual 115, 3, 255, 1, .null),
  (1223, 0, .if_icmp .eq 28, 3, 1251, 0, .null),
  (1226, 0, .iconst 0, 1, 0, 0, .int (0)),
  (1227, 0, .ireturn, 1, 0, 0, .null),
  (1228, 0, .aload_n 1, 1, 1, 0, .null),
  (1229, 0, .aload_n 0, 1, 0, 0, .null),
  (1230, 0, .iload_n 3, 1, 3, 0, .null),
  (1231, 0, .iconst 1, 1, 0, 0, .int (1)),
  (1232, 0, .iadd, 1, 0, 0, .null),
  (1233, 0, .iaload, 1, 0, 0, .null),
  (1234, 1202, .invokevirtual 116, 3, 170, 1, .null),
  (1237, 0, .aload_n 2, 1, 2, 0, .null),
  (1238, 0, .aload_n 0, 1, 0, 0, .null),
  (1239, 0, .iload_n 3, 1, 3, 0, .null),
  (1240, 0, .iconst 1, 1, 0, 0, .int (1)),
  (1241, 0, .iadd, 1, 0, 0, .null),
  (1242, 0, .iaload, 1, 0, 0, .null),
  (1243, 1662, .invokevirtual 119, 3, 256, 1, .null),
  (1246, 0, .if_icmp .eq 5, 3, 1251, 0, .null),
  (1249, 0, .iconst 0, 1, 0, 0, .int (0)),
  (1250, 0, .ireturn, 1, 0, 0, .null),
  (1251, 0, .iinc 3 11, 3, 3, 0, .int (11)),
  (1254, 0, .goto (-1236), 3, 18, 0, .null),
  (1257, 0, .iconst 1, 1, 0, 0, .int (1)),
  (1258, 0, .ireturn, 1, 0, 0, .null)]
abbrev id_L_law : Nat := 264
def mi_L_law : MI := (yL_law, cL_law, 4, (some .boolean), 16, ct_L_law)
theorem fe_L_law_0 : mj_f mi_L_law 0 = some (.new 7, 3, 11, 0, .null) := by decide +kernel
theorem fe_L_law_3 : mj_f mi_L_law 3 = some (.dup, 1, 0, 0, .null) := by decide +kernel
theorem fe_L_law_4 : mj_f mi_L_law 4 = some (.invokespecial 9, 3, 147, 0, .null) := by decide +kernel
theorem fe_L_law_7 : mj_f mi_L_law 7 = some (.astore_n 1, 1, 1, 0, .null) := by decide +kernel
theorem fe_L_law_8 : mj_f mi_L_law 8 = some (.new 10, 3, 12, 0, .null) := by decide +kernel
theorem fe_L_law_11 : mj_f mi_L_law 11 = some (.dup, 1, 0, 0, .null) := by decide +kernel
theorem fe_L_law_12 : mj_f mi_L_law 12 = some (.invokespecial 12, 3, 180, 0, .null) := by decide +kernel
theorem fe_L_law_15 : mj_f mi_L_law 15 = some (.astore_n 2, 1, 2, 0, .null) := by decide +kernel
theorem fe_L_law_16 : mj_f mi_L_law 16 = some (.iconst 0, 1, 0, 0, .int (0)) := by decide +kernel
theorem fe_L_law_17 : mj_f mi_L_law 17 = some (.istore_n 3, 1, 3, 0, .null) := by decide +kernel
theorem fe_L_law_18 : mj_f mi_L_law 18 = some (.iload_n 3, 1, 3, 0, .null) := by decide +kernel
theorem fe_L_law_19 : mj_f mi_L_law 19 = some (.aload_n 0, 1, 0, 0, .null) := by decide +kernel
theorem fe_L_law_20 : mj_f mi_L_law 20 = some (.arraylength, 1, 0, 0, .null) := by decide +kernel
theorem fe_L_law_21 : mj_f mi_L_law 21 = some (.bipush 11, 2, 0, 0, .int (11)) := by decide +kernel
theorem fe_L_law_23 : mj_f mi_L_law 23 = some (.isub, 1, 0, 0, .null) := by decide +kernel
theorem fe_L_law_24 : mj_f mi_L_law 24 = some (.if_icmp .gt 1233, 3, 1257, 0, .null) := by decide +kernel
theorem fe_L_law_27 : mj_f mi_L_law 27 = some (.aload_n 0, 1, 0, 0, .null) := by decide +kernel
theorem fe_L_law_28 : mj_f mi_L_law 28 = some (.iload_n 3, 1, 3, 0, .null) := by decide +kernel
theorem fe_L_law_29 : mj_f mi_L_law 29 = some (.iaload, 1, 0, 0, .null) := by decide +kernel
theorem fe_L_law_30 : mj_f mi_L_law 30 = some (.bipush 31, 2, 0, 0, .int (31)) := by decide +kernel
theorem fe_L_law_32 : mj_f mi_L_law 32 = some (.iand, 1, 0, 0, .null) := by decide +kernel
theorem fe_L_law_33 : mj_f mi_L_law 33 = some (.tableswitch 1218 0 22 #[107, 170, 193, 236, 299, 322, 505, 578, 601, 624, 657, 690, 724, 767, 810, 853, 886, 919, 1022, 1126, 1139, 1172, 1195], 107, 0, 0, .null) := by decide +kernel
theorem fe_L_law_140 : mj_f mi_L_law 140 = some (.aload_n 1, 1, 1, 0, .null) := by decide +kernel
theorem fe_L_law_141 : mj_f mi_L_law 141 = some (.aload_n 0, 1, 0, 0, .null) := by decide +kernel
theorem fe_L_law_142 : mj_f mi_L_law 142 = some (.iload_n 3, 1, 3, 0, .null) := by decide +kernel
theorem fe_L_law_143 : mj_f mi_L_law 143 = some (.iconst 1, 1, 0, 0, .int (1)) := by decide +kernel
theorem fe_L_law_144 : mj_f mi_L_law 144 = some (.iadd, 1, 0, 0, .null) := by decide +kernel
theorem fe_L_law_145 : mj_f mi_L_law 145 = some (.iaload, 1, 0, 0, .null) := by decide +kernel
theorem fe_L_law_146 : mj_f mi_L_law 146 = some (.aload_n 0, 1, 0, 0, .null) := by decide +kernel
theorem fe_L_law_147 : mj_f mi_L_law 147 = some (.iload_n 3, 1, 3, 0, .null) := by decide +kernel
theorem fe_L_law_148 : mj_f mi_L_law 148 = some (.iconst 2, 1, 0, 0, .int (2)) := by decide +kernel
theorem fe_L_law_149 : mj_f mi_L_law 149 = some (.iadd, 1, 0, 0, .null) := by decide +kernel
theorem fe_L_law_150 : mj_f mi_L_law 150 = some (.iaload, 1, 0, 0, .null) := by decide +kernel
theorem fe_L_law_151 : mj_f mi_L_law 151 = some (.aload_n 0, 1, 0, 0, .null) := by decide +kernel
theorem fe_L_law_152 : mj_f mi_L_law 152 = some (.iload_n 3, 1, 3, 0, .null) := by decide +kernel
theorem fe_L_law_153 : mj_f mi_L_law 153 = some (.iconst 3, 1, 0, 0, .int (3)) := by decide +kernel
theorem fe_L_law_154 : mj_f mi_L_law 154 = some (.iadd, 1, 0, 0, .null) := by decide +kernel
theorem fe_L_law_155 : mj_f mi_L_law 155 = some (.iaload, 1, 0, 0, .null) := by decide +kernel
theorem fe_L_law_156 : mj_f mi_L_law 156 = some (.aload_n 0, 1, 0, 0, .null) := by decide +kernel
theorem fe_L_law_157 : mj_f mi_L_law 157 = some (.iload_n 3, 1, 3, 0, .null) := by decide +kernel
theorem fe_L_law_158 : mj_f mi_L_law 158 = some (.iconst 4, 1, 0, 0, .int (4)) := by decide +kernel
theorem fe_L_law_159 : mj_f mi_L_law 159 = some (.iadd, 1, 0, 0, .null) := by decide +kernel
theorem fe_L_law_160 : mj_f mi_L_law 160 = some (.iaload, 1, 0, 0, .null) := by decide +kernel
theorem fe_L_law_161 : mj_f mi_L_law 161 = some (.aload_n 0, 1, 0, 0, .null) := by decide +kernel
theorem fe_L_law_162 : mj_f mi_L_law 162 = some (.iload_n 3, 1, 3, 0, .null) := by decide +kernel
theorem fe_L_law_163 : mj_f mi_L_law 163 = some (.iconst 5, 1, 0, 0, .int (5)) := by decide +kernel
theorem fe_L_law_164 : mj_f mi_L_law 164 = some (.iadd, 1, 0, 0, .null) := by decide +kernel
theorem fe_L_law_165 : mj_f mi_L_law 165 = some (.iaload, 1, 0, 0, .null) := by decide +kernel
theorem fe_L_law_166 : mj_f mi_L_law 166 = some (.invokevirtual 13, 3, 148, 5, .null) := by decide +kernel
theorem fe_L_law_169 : mj_f mi_L_law 169 = some (.aload_n 2, 1, 2, 0, .null) := by decide +kernel
theorem fe_L_law_170 : mj_f mi_L_law 170 = some (.aload_n 0, 1, 0, 0, .null) := by decide +kernel
theorem fe_L_law_171 : mj_f mi_L_law 171 = some (.iload_n 3, 1, 3, 0, .null) := by decide +kernel
theorem fe_L_law_172 : mj_f mi_L_law 172 = some (.iconst 1, 1, 0, 0, .int (1)) := by decide +kernel
theorem fe_L_law_173 : mj_f mi_L_law 173 = some (.iadd, 1, 0, 0, .null) := by decide +kernel
theorem fe_L_law_174 : mj_f mi_L_law 174 = some (.iaload, 1, 0, 0, .null) := by decide +kernel
theorem fe_L_law_175 : mj_f mi_L_law 175 = some (.aload_n 0, 1, 0, 0, .null) := by decide +kernel
theorem fe_L_law_176 : mj_f mi_L_law 176 = some (.iload_n 3, 1, 3, 0, .null) := by decide +kernel
theorem fe_L_law_177 : mj_f mi_L_law 177 = some (.iconst 2, 1, 0, 0, .int (2)) := by decide +kernel
theorem fe_L_law_178 : mj_f mi_L_law 178 = some (.iadd, 1, 0, 0, .null) := by decide +kernel
theorem fe_L_law_179 : mj_f mi_L_law 179 = some (.iaload, 1, 0, 0, .null) := by decide +kernel
theorem fe_L_law_180 : mj_f mi_L_law 180 = some (.aload_n 0, 1, 0, 0, .null) := by decide +kernel
theorem fe_L_law_181 : mj_f mi_L_law 181 = some (.iload_n 3, 1, 3, 0, .null) := by decide +kernel
theorem fe_L_law_182 : mj_f mi_L_law 182 = some (.iconst 3, 1, 0, 0, .int (3)) := by decide +kernel
theorem fe_L_law_183 : mj_f mi_L_law 183 = some (.iadd, 1, 0, 0, .null) := by decide +kernel
theorem fe_L_law_184 : mj_f mi_L_law 184 = some (.iaload, 1, 0, 0, .null) := by decide +kernel
theorem fe_L_law_185 : mj_f mi_L_law 185 = some (.aload_n 0, 1, 0, 0, .null) := by decide +kernel
theorem fe_L_law_186 : mj_f mi_L_law 186 = some (.iload_n 3, 1, 3, 0, .null) := by decide +kernel
theorem fe_L_law_187 : mj_f mi_L_law 187 = some (.iconst 4, 1, 0, 0, .int (4)) := by decide +kernel
theorem fe_L_law_188 : mj_f mi_L_law 188 = some (.iadd, 1, 0, 0, .null) := by decide +kernel
theorem fe_L_law_189 : mj_f mi_L_law 189 = some (.iaload, 1, 0, 0, .null) := by decide +kernel
theorem fe_L_law_190 : mj_f mi_L_law 190 = some (.aload_n 0, 1, 0, 0, .null) := by decide +kernel
theorem fe_L_law_191 : mj_f mi_L_law 191 = some (.iload_n 3, 1, 3, 0, .null) := by decide +kernel
theorem fe_L_law_192 : mj_f mi_L_law 192 = some (.iconst 5, 1, 0, 0, .int (5)) := by decide +kernel
theorem fe_L_law_193 : mj_f mi_L_law 193 = some (.iadd, 1, 0, 0, .null) := by decide +kernel
theorem fe_L_law_194 : mj_f mi_L_law 194 = some (.iaload, 1, 0, 0, .null) := by decide +kernel
theorem fe_L_law_195 : mj_f mi_L_law 195 = some (.invokevirtual 17, 3, 183, 5, .null) := by decide +kernel
theorem fe_L_law_198 : mj_f mi_L_law 198 = some (.if_icmp .eq 1053, 3, 1251, 0, .null) := by decide +kernel
theorem fe_L_law_201 : mj_f mi_L_law 201 = some (.iconst 0, 1, 0, 0, .int (0)) := by decide +kernel
theorem fe_L_law_202 : mj_f mi_L_law 202 = some (.ireturn, 1, 0, 0, .null) := by decide +kernel
theorem fe_L_law_203 : mj_f mi_L_law 203 = some (.aload_n 1, 1, 1, 0, .null) := by decide +kernel
theorem fe_L_law_204 : mj_f mi_L_law 204 = some (.aload_n 0, 1, 0, 0, .null) := by decide +kernel
theorem fe_L_law_205 : mj_f mi_L_law 205 = some (.iload_n 3, 1, 3, 0, .null) := by decide +kernel
theorem fe_L_law_206 : mj_f mi_L_law 206 = some (.iconst 1, 1, 0, 0, .int (1)) := by decide +kernel
theorem fe_L_law_207 : mj_f mi_L_law 207 = some (.iadd, 1, 0, 0, .null) := by decide +kernel
theorem fe_L_law_208 : mj_f mi_L_law 208 = some (.iaload, 1, 0, 0, .null) := by decide +kernel
theorem fe_L_law_209 : mj_f mi_L_law 209 = some (.invokevirtual 18, 3, 149, 1, .null) := by decide +kernel
theorem fe_L_law_212 : mj_f mi_L_law 212 = some (.aload_n 2, 1, 2, 0, .null) := by decide +kernel
theorem fe_L_law_213 : mj_f mi_L_law 213 = some (.aload_n 0, 1, 0, 0, .null) := by decide +kernel
theorem fe_L_law_214 : mj_f mi_L_law 214 = some (.iload_n 3, 1, 3, 0, .null) := by decide +kernel
theorem fe_L_law_215 : mj_f mi_L_law 215 = some (.iconst 1, 1, 0, 0, .int (1)) := by decide +kernel
theorem fe_L_law_216 : mj_f mi_L_law 216 = some (.iadd, 1, 0, 0, .null) := by decide +kernel
theorem fe_L_law_217 : mj_f mi_L_law 217 = some (.iaload, 1, 0, 0, .null) := by decide +kernel
theorem fe_L_law_218 : mj_f mi_L_law 218 = some (.invokevirtual 22, 3, 184, 1, .null) := by decide +kernel
theorem fe_L_law_221 : mj_f mi_L_law 221 = some (.if_icmp .eq 1030, 3, 1251, 0, .null) := by decide +kernel
theorem fe_L_law_224 : mj_f mi_L_law 224 = some (.iconst 0, 1, 0, 0, .int (0)) := by decide +kernel
theorem fe_L_law_225 : mj_f mi_L_law 225 = some (.ireturn, 1, 0, 0, .null) := by decide +kernel
theorem fe_L_law_226 : mj_f mi_L_law 226 = some (.aload_n 1, 1, 1, 0, .null) := by decide +kernel
theorem fe_L_law_227 : mj_f mi_L_law 227 = some (.aload_n 0, 1, 0, 0, .null) := by decide +kernel
theorem fe_L_law_228 : mj_f mi_L_law 228 = some (.iload_n 3, 1, 3, 0, .null) := by decide +kernel
theorem fe_L_law_229 : mj_f mi_L_law 229 = some (.iconst 1, 1, 0, 0, .int (1)) := by decide +kernel
theorem fe_L_law_230 : mj_f mi_L_law 230 = some (.iadd, 1, 0, 0, .null) := by decide +kernel
theorem fe_L_law_231 : mj_f mi_L_law 231 = some (.iaload, 1, 0, 0, .null) := by decide +kernel
theorem fe_L_law_232 : mj_f mi_L_law 232 = some (.aload_n 0, 1, 0, 0, .null) := by decide +kernel
theorem fe_L_law_233 : mj_f mi_L_law 233 = some (.iload_n 3, 1, 3, 0, .null) := by decide +kernel
theorem fe_L_law_234 : mj_f mi_L_law 234 = some (.iconst 2, 1, 0, 0, .int (2)) := by decide +kernel
theorem fe_L_law_235 : mj_f mi_L_law 235 = some (.iadd, 1, 0, 0, .null) := by decide +kernel
theorem fe_L_law_236 : mj_f mi_L_law 236 = some (.iaload, 1, 0, 0, .null) := by decide +kernel
theorem fe_L_law_237 : mj_f mi_L_law 237 = some (.aload_n 0, 1, 0, 0, .null) := by decide +kernel
theorem fe_L_law_238 : mj_f mi_L_law 238 = some (.iload_n 3, 1, 3, 0, .null) := by decide +kernel
theorem fe_L_law_239 : mj_f mi_L_law 239 = some (.iconst 3, 1, 0, 0, .int (3)) := by decide +kernel
theorem fe_L_law_240 : mj_f mi_L_law 240 = some (.iadd, 1, 0, 0, .null) := by decide +kernel
theorem fe_L_law_241 : mj_f mi_L_law 241 = some (.iaload, 1, 0, 0, .null) := by decide +kernel
theorem fe_L_law_242 : mj_f mi_L_law 242 = some (.invokevirtual 23, 3, 150, 3, .null) := by decide +kernel
theorem fe_L_law_245 : mj_f mi_L_law 245 = some (.aload_n 2, 1, 2, 0, .null) := by decide +kernel
theorem fe_L_law_246 : mj_f mi_L_law 246 = some (.aload_n 0, 1, 0, 0, .null) := by decide +kernel
theorem fe_L_law_247 : mj_f mi_L_law 247 = some (.iload_n 3, 1, 3, 0, .null) := by decide +kernel
theorem fe_L_law_248 : mj_f mi_L_law 248 = some (.iconst 1, 1, 0, 0, .int (1)) := by decide +kernel
theorem fe_L_law_249 : mj_f mi_L_law 249 = some (.iadd, 1, 0, 0, .null) := by decide +kernel
theorem fe_L_law_250 : mj_f mi_L_law 250 = some (.iaload, 1, 0, 0, .null) := by decide +kernel
theorem fe_L_law_251 : mj_f mi_L_law 251 = some (.aload_n 0, 1, 0, 0, .null) := by decide +kernel
theorem fe_L_law_252 : mj_f mi_L_law 252 = some (.iload_n 3, 1, 3, 0, .null) := by decide +kernel
theorem fe_L_law_253 : mj_f mi_L_law 253 = some (.iconst 2, 1, 0, 0, .int (2)) := by decide +kernel
theorem fe_L_law_254 : mj_f mi_L_law 254 = some (.iadd, 1, 0, 0, .null) := by decide +kernel
theorem fe_L_law_255 : mj_f mi_L_law 255 = some (.iaload, 1, 0, 0, .null) := by decide +kernel
theorem fe_L_law_256 : mj_f mi_L_law 256 = some (.aload_n 0, 1, 0, 0, .null) := by decide +kernel
theorem fe_L_law_257 : mj_f mi_L_law 257 = some (.iload_n 3, 1, 3, 0, .null) := by decide +kernel
theorem fe_L_law_258 : mj_f mi_L_law 258 = some (.iconst 3, 1, 0, 0, .int (3)) := by decide +kernel
theorem fe_L_law_259 : mj_f mi_L_law 259 = some (.iadd, 1, 0, 0, .null) := by decide +kernel
theorem fe_L_law_260 : mj_f mi_L_law 260 = some (.iaload, 1, 0, 0, .null) := by decide +kernel
theorem fe_L_law_261 : mj_f mi_L_law 261 = some (.invokevirtual 27, 3, 218, 3, .null) := by decide +kernel
theorem fe_L_law_264 : mj_f mi_L_law 264 = some (.if_icmp .eq 987, 3, 1251, 0, .null) := by decide +kernel
theorem fe_L_law_267 : mj_f mi_L_law 267 = some (.iconst 0, 1, 0, 0, .int (0)) := by decide +kernel
theorem fe_L_law_268 : mj_f mi_L_law 268 = some (.ireturn, 1, 0, 0, .null) := by decide +kernel
theorem fe_L_law_269 : mj_f mi_L_law 269 = some (.aload_n 1, 1, 1, 0, .null) := by decide +kernel
theorem fe_L_law_270 : mj_f mi_L_law 270 = some (.aload_n 0, 1, 0, 0, .null) := by decide +kernel
theorem fe_L_law_271 : mj_f mi_L_law 271 = some (.iload_n 3, 1, 3, 0, .null) := by decide +kernel
theorem fe_L_law_272 : mj_f mi_L_law 272 = some (.iconst 1, 1, 0, 0, .int (1)) := by decide +kernel
theorem fe_L_law_273 : mj_f mi_L_law 273 = some (.iadd, 1, 0, 0, .null) := by decide +kernel
theorem fe_L_law_274 : mj_f mi_L_law 274 = some (.iaload, 1, 0, 0, .null) := by decide +kernel
theorem fe_L_law_275 : mj_f mi_L_law 275 = some (.aload_n 0, 1, 0, 0, .null) := by decide +kernel
theorem fe_L_law_276 : mj_f mi_L_law 276 = some (.iload_n 3, 1, 3, 0, .null) := by decide +kernel
theorem fe_L_law_277 : mj_f mi_L_law 277 = some (.iconst 2, 1, 0, 0, .int (2)) := by decide +kernel
theorem fe_L_law_278 : mj_f mi_L_law 278 = some (.iadd, 1, 0, 0, .null) := by decide +kernel
theorem fe_L_law_279 : mj_f mi_L_law 279 = some (.iaload, 1, 0, 0, .null) := by decide +kernel
theorem fe_L_law_280 : mj_f mi_L_law 280 = some (.i2l, 1, 0, 0, .null) := by decide +kernel
theorem fe_L_law_281 : mj_f mi_L_law 281 = some (.bipush 32, 2, 0, 0, .int (32)) := by decide +kernel
theorem fe_L_law_283 : mj_f mi_L_law 283 = some (.lshl, 1, 0, 0, .null) := by decide +kernel
theorem fe_L_law_284 : mj_f mi_L_law 284 = some (.aload_n 0, 1, 0, 0, .null) := by decide +kernel
theorem fe_L_law_285 : mj_f mi_L_law 285 = some (.iload_n 3, 1, 3, 0, .null) := by decide +kernel
theorem fe_L_law_286 : mj_f mi_L_law 286 = some (.iconst 3, 1, 0, 0, .int (3)) := by decide +kernel
theorem fe_L_law_287 : mj_f mi_L_law 287 = some (.iadd, 1, 0, 0, .null) := by decide +kernel
theorem fe_L_law_288 : mj_f mi_L_law 288 = some (.iaload, 1, 0, 0, .null) := by decide +kernel
theorem fe_L_law_289 : mj_f mi_L_law 289 = some (.i2l, 1, 0, 0, .null) := by decide +kernel
theorem fe_L_law_290 : mj_f mi_L_law 290 = some (.ldc2_w 28, 3, 0, 0, .long (4294967295)) := by decide +kernel
theorem fe_L_law_293 : mj_f mi_L_law 293 = some (.land, 1, 0, 0, .null) := by decide +kernel
theorem fe_L_law_294 : mj_f mi_L_law 294 = some (.lor, 1, 0, 0, .null) := by decide +kernel
theorem fe_L_law_295 : mj_f mi_L_law 295 = some (.invokevirtual 30, 3, 151, 2, .null) := by decide +kernel
theorem fe_L_law_298 : mj_f mi_L_law 298 = some (.aload_n 2, 1, 2, 0, .null) := by decide +kernel
theorem fe_L_law_299 : mj_f mi_L_law 299 = some (.aload_n 0, 1, 0, 0, .null) := by decide +kernel
theorem fe_L_law_300 : mj_f mi_L_law 300 = some (.iload_n 3, 1, 3, 0, .null) := by decide +kernel
theorem fe_L_law_301 : mj_f mi_L_law 301 = some (.iconst 1, 1, 0, 0, .int (1)) := by decide +kernel
theorem fe_L_law_302 : mj_f mi_L_law 302 = some (.iadd, 1, 0, 0, .null) := by decide +kernel
theorem fe_L_law_303 : mj_f mi_L_law 303 = some (.iaload, 1, 0, 0, .null) := by decide +kernel
theorem fe_L_law_304 : mj_f mi_L_law 304 = some (.aload_n 0, 1, 0, 0, .null) := by decide +kernel
theorem fe_L_law_305 : mj_f mi_L_law 305 = some (.iload_n 3, 1, 3, 0, .null) := by decide +kernel
theorem fe_L_law_306 : mj_f mi_L_law 306 = some (.iconst 2, 1, 0, 0, .int (2)) := by decide +kernel
theorem fe_L_law_307 : mj_f mi_L_law 307 = some (.iadd, 1, 0, 0, .null) := by decide +kernel
theorem fe_L_law_308 : mj_f mi_L_law 308 = some (.iaload, 1, 0, 0, .null) := by decide +kernel
theorem fe_L_law_309 : mj_f mi_L_law 309 = some (.i2l, 1, 0, 0, .null) := by decide +kernel
theorem fe_L_law_310 : mj_f mi_L_law 310 = some (.bipush 32, 2, 0, 0, .int (32)) := by decide +kernel
theorem fe_L_law_312 : mj_f mi_L_law 312 = some (.lshl, 1, 0, 0, .null) := by decide +kernel
theorem fe_L_law_313 : mj_f mi_L_law 313 = some (.aload_n 0, 1, 0, 0, .null) := by decide +kernel
theorem fe_L_law_314 : mj_f mi_L_law 314 = some (.iload_n 3, 1, 3, 0, .null) := by decide +kernel
theorem fe_L_law_315 : mj_f mi_L_law 315 = some (.iconst 3, 1, 0, 0, .int (3)) := by decide +kernel
theorem fe_L_law_316 : mj_f mi_L_law 316 = some (.iadd, 1, 0, 0, .null) := by decide +kernel
theorem fe_L_law_317 : mj_f mi_L_law 317 = some (.iaload, 1, 0, 0, .null) := by decide +kernel
theorem fe_L_law_318 : mj_f mi_L_law 318 = some (.i2l, 1, 0, 0, .null) := by decide +kernel
theorem fe_L_law_319 : mj_f mi_L_law 319 = some (.ldc2_w 28, 3, 0, 0, .long (4294967295)) := by decide +kernel
theorem fe_L_law_322 : mj_f mi_L_law 322 = some (.land, 1, 0, 0, .null) := by decide +kernel
theorem fe_L_law_323 : mj_f mi_L_law 323 = some (.lor, 1, 0, 0, .null) := by decide +kernel
theorem fe_L_law_324 : mj_f mi_L_law 324 = some (.invokevirtual 34, 3, 220, 2, .null) := by decide +kernel
theorem fe_L_law_327 : mj_f mi_L_law 327 = some (.if_icmp .eq 924, 3, 1251, 0, .null) := by decide +kernel
theorem fe_L_law_330 : mj_f mi_L_law 330 = some (.iconst 0, 1, 0, 0, .int (0)) := by decide +kernel
theorem fe_L_law_331 : mj_f mi_L_law 331 = some (.ireturn, 1, 0, 0, .null) := by decide +kernel
theorem fe_L_law_332 : mj_f mi_L_law 332 = some (.aload_n 1, 1, 1, 0, .null) := by decide +kernel
theorem fe_L_law_333 : mj_f mi_L_law 333 = some (.aload_n 0, 1, 0, 0, .null) := by decide +kernel
theorem fe_L_law_334 : mj_f mi_L_law 334 = some (.iload_n 3, 1, 3, 0, .null) := by decide +kernel
theorem fe_L_law_335 : mj_f mi_L_law 335 = some (.iconst 1, 1, 0, 0, .int (1)) := by decide +kernel
theorem fe_L_law_336 : mj_f mi_L_law 336 = some (.iadd, 1, 0, 0, .null) := by decide +kernel
theorem fe_L_law_337 : mj_f mi_L_law 337 = some (.iaload, 1, 0, 0, .null) := by decide +kernel
theorem fe_L_law_338 : mj_f mi_L_law 338 = some (.invokevirtual 35, 3, 152, 1, .null) := by decide +kernel
theorem fe_L_law_341 : mj_f mi_L_law 341 = some (.aload_n 2, 1, 2, 0, .null) := by decide +kernel
theorem fe_L_law_342 : mj_f mi_L_law 342 = some (.aload_n 0, 1, 0, 0, .null) := by decide +kernel
theorem fe_L_law_343 : mj_f mi_L_law 343 = some (.iload_n 3, 1, 3, 0, .null) := by decide +kernel
theorem fe_L_law_344 : mj_f mi_L_law 344 = some (.iconst 1, 1, 0, 0, .int (1)) := by decide +kernel
theorem fe_L_law_345 : mj_f mi_L_law 345 = some (.iadd, 1, 0, 0, .null) := by decide +kernel
theorem fe_L_law_346 : mj_f mi_L_law 346 = some (.iaload, 1, 0, 0, .null) := by decide +kernel
theorem fe_L_law_347 : mj_f mi_L_law 347 = some (.invokevirtual 39, 3, 221, 1, .null) := by decide +kernel
theorem fe_L_law_350 : mj_f mi_L_law 350 = some (.if_icmp .eq 901, 3, 1251, 0, .null) := by decide +kernel
theorem fe_L_law_353 : mj_f mi_L_law 353 = some (.iconst 0, 1, 0, 0, .int (0)) := by decide +kernel
theorem fe_L_law_354 : mj_f mi_L_law 354 = some (.ireturn, 1, 0, 0, .null) := by decide +kernel
theorem fe_L_law_355 : mj_f mi_L_law 355 = some (.aload_n 1, 1, 1, 0, .null) := by decide +kernel
theorem fe_L_law_356 : mj_f mi_L_law 356 = some (.aload_n 0, 1, 0, 0, .null) := by decide +kernel
theorem fe_L_law_357 : mj_f mi_L_law 357 = some (.iload_n 3, 1, 3, 0, .null) := by decide +kernel
theorem fe_L_law_358 : mj_f mi_L_law 358 = some (.iconst 1, 1, 0, 0, .int (1)) := by decide +kernel
theorem fe_L_law_359 : mj_f mi_L_law 359 = some (.iadd, 1, 0, 0, .null) := by decide +kernel
theorem fe_L_law_360 : mj_f mi_L_law 360 = some (.iaload, 1, 0, 0, .null) := by decide +kernel
theorem fe_L_law_361 : mj_f mi_L_law 361 = some (.aload_n 0, 1, 0, 0, .null) := by decide +kernel
theorem fe_L_law_362 : mj_f mi_L_law 362 = some (.iload_n 3, 1, 3, 0, .null) := by decide +kernel
theorem fe_L_law_363 : mj_f mi_L_law 363 = some (.iconst 2, 1, 0, 0, .int (2)) := by decide +kernel
theorem fe_L_law_364 : mj_f mi_L_law 364 = some (.iadd, 1, 0, 0, .null) := by decide +kernel
theorem fe_L_law_365 : mj_f mi_L_law 365 = some (.iaload, 1, 0, 0, .null) := by decide +kernel
theorem fe_L_law_366 : mj_f mi_L_law 366 = some (.aload_n 0, 1, 0, 0, .null) := by decide +kernel
theorem fe_L_law_367 : mj_f mi_L_law 367 = some (.iload_n 3, 1, 3, 0, .null) := by decide +kernel
theorem fe_L_law_368 : mj_f mi_L_law 368 = some (.iconst 3, 1, 0, 0, .int (3)) := by decide +kernel
theorem fe_L_law_369 : mj_f mi_L_law 369 = some (.iadd, 1, 0, 0, .null) := by decide +kernel
theorem fe_L_law_370 : mj_f mi_L_law 370 = some (.iaload, 1, 0, 0, .null) := by decide +kernel
theorem fe_L_law_371 : mj_f mi_L_law 371 = some (.aload_n 0, 1, 0, 0, .null) := by decide +kernel
theorem fe_L_law_372 : mj_f mi_L_law 372 = some (.iload_n 3, 1, 3, 0, .null) := by decide +kernel
theorem fe_L_law_373 : mj_f mi_L_law 373 = some (.iconst 4, 1, 0, 0, .int (4)) := by decide +kernel
theorem fe_L_law_374 : mj_f mi_L_law 374 = some (.iadd, 1, 0, 0, .null) := by decide +kernel
theorem fe_L_law_375 : mj_f mi_L_law 375 = some (.iaload, 1, 0, 0, .null) := by decide +kernel
theorem fe_L_law_376 : mj_f mi_L_law 376 = some (.i2l, 1, 0, 0, .null) := by decide +kernel
theorem fe_L_law_377 : mj_f mi_L_law 377 = some (.bipush 32, 2, 0, 0, .int (32)) := by decide +kernel
theorem fe_L_law_379 : mj_f mi_L_law 379 = some (.lshl, 1, 0, 0, .null) := by decide +kernel
theorem fe_L_law_380 : mj_f mi_L_law 380 = some (.aload_n 0, 1, 0, 0, .null) := by decide +kernel
theorem fe_L_law_381 : mj_f mi_L_law 381 = some (.iload_n 3, 1, 3, 0, .null) := by decide +kernel
theorem fe_L_law_382 : mj_f mi_L_law 382 = some (.iconst 5, 1, 0, 0, .int (5)) := by decide +kernel
theorem fe_L_law_383 : mj_f mi_L_law 383 = some (.iadd, 1, 0, 0, .null) := by decide +kernel
theorem fe_L_law_384 : mj_f mi_L_law 384 = some (.iaload, 1, 0, 0, .null) := by decide +kernel
theorem fe_L_law_385 : mj_f mi_L_law 385 = some (.i2l, 1, 0, 0, .null) := by decide +kernel
theorem fe_L_law_386 : mj_f mi_L_law 386 = some (.ldc2_w 28, 3, 0, 0, .long (4294967295)) := by decide +kernel
theorem fe_L_law_389 : mj_f mi_L_law 389 = some (.land, 1, 0, 0, .null) := by decide +kernel
theorem fe_L_law_390 : mj_f mi_L_law 390 = some (.lor, 1, 0, 0, .null) := by decide +kernel
theorem fe_L_law_391 : mj_f mi_L_law 391 = some (.aload_n 0, 1, 0, 0, .null) := by decide +kernel
theorem fe_L_law_392 : mj_f mi_L_law 392 = some (.iload_n 3, 1, 3, 0, .null) := by decide +kernel
theorem fe_L_law_393 : mj_f mi_L_law 393 = some (.bipush 6, 2, 0, 0, .int (6)) := by decide +kernel
theorem fe_L_law_395 : mj_f mi_L_law 395 = some (.iadd, 1, 0, 0, .null) := by decide +kernel
theorem fe_L_law_396 : mj_f mi_L_law 396 = some (.iaload, 1, 0, 0, .null) := by decide +kernel
theorem fe_L_law_397 : mj_f mi_L_law 397 = some (.i2l, 1, 0, 0, .null) := by decide +kernel
theorem fe_L_law_398 : mj_f mi_L_law 398 = some (.bipush 32, 2, 0, 0, .int (32)) := by decide +kernel
theorem fe_L_law_400 : mj_f mi_L_law 400 = some (.lshl, 1, 0, 0, .null) := by decide +kernel
theorem fe_L_law_401 : mj_f mi_L_law 401 = some (.aload_n 0, 1, 0, 0, .null) := by decide +kernel
theorem fe_L_law_402 : mj_f mi_L_law 402 = some (.iload_n 3, 1, 3, 0, .null) := by decide +kernel
theorem fe_L_law_403 : mj_f mi_L_law 403 = some (.bipush 7, 2, 0, 0, .int (7)) := by decide +kernel
theorem fe_L_law_405 : mj_f mi_L_law 405 = some (.iadd, 1, 0, 0, .null) := by decide +kernel
theorem fe_L_law_406 : mj_f mi_L_law 406 = some (.iaload, 1, 0, 0, .null) := by decide +kernel
theorem fe_L_law_407 : mj_f mi_L_law 407 = some (.i2l, 1, 0, 0, .null) := by decide +kernel
theorem fe_L_law_408 : mj_f mi_L_law 408 = some (.ldc2_w 28, 3, 0, 0, .long (4294967295)) := by decide +kernel
theorem fe_L_law_411 : mj_f mi_L_law 411 = some (.land, 1, 0, 0, .null) := by decide +kernel
theorem fe_L_law_412 : mj_f mi_L_law 412 = some (.lor, 1, 0, 0, .null) := by decide +kernel
theorem fe_L_law_413 : mj_f mi_L_law 413 = some (.aload_n 0, 1, 0, 0, .null) := by decide +kernel
theorem fe_L_law_414 : mj_f mi_L_law 414 = some (.iload_n 3, 1, 3, 0, .null) := by decide +kernel
theorem fe_L_law_415 : mj_f mi_L_law 415 = some (.bipush 8, 2, 0, 0, .int (8)) := by decide +kernel
theorem fe_L_law_417 : mj_f mi_L_law 417 = some (.iadd, 1, 0, 0, .null) := by decide +kernel
theorem fe_L_law_418 : mj_f mi_L_law 418 = some (.iaload, 1, 0, 0, .null) := by decide +kernel
theorem fe_L_law_419 : mj_f mi_L_law 419 = some (.aload_n 0, 1, 0, 0, .null) := by decide +kernel
theorem fe_L_law_420 : mj_f mi_L_law 420 = some (.iload_n 3, 1, 3, 0, .null) := by decide +kernel
theorem fe_L_law_421 : mj_f mi_L_law 421 = some (.bipush 9, 2, 0, 0, .int (9)) := by decide +kernel
theorem fe_L_law_423 : mj_f mi_L_law 423 = some (.iadd, 1, 0, 0, .null) := by decide +kernel
theorem fe_L_law_424 : mj_f mi_L_law 424 = some (.iaload, 1, 0, 0, .null) := by decide +kernel
theorem fe_L_law_425 : mj_f mi_L_law 425 = some (.i2l, 1, 0, 0, .null) := by decide +kernel
theorem fe_L_law_426 : mj_f mi_L_law 426 = some (.bipush 32, 2, 0, 0, .int (32)) := by decide +kernel
theorem fe_L_law_428 : mj_f mi_L_law 428 = some (.lshl, 1, 0, 0, .null) := by decide +kernel
theorem fe_L_law_429 : mj_f mi_L_law 429 = some (.aload_n 0, 1, 0, 0, .null) := by decide +kernel
theorem fe_L_law_430 : mj_f mi_L_law 430 = some (.iload_n 3, 1, 3, 0, .null) := by decide +kernel
theorem fe_L_law_431 : mj_f mi_L_law 431 = some (.bipush 10, 2, 0, 0, .int (10)) := by decide +kernel
theorem fe_L_law_433 : mj_f mi_L_law 433 = some (.iadd, 1, 0, 0, .null) := by decide +kernel
theorem fe_L_law_434 : mj_f mi_L_law 434 = some (.iaload, 1, 0, 0, .null) := by decide +kernel
theorem fe_L_law_435 : mj_f mi_L_law 435 = some (.i2l, 1, 0, 0, .null) := by decide +kernel
theorem fe_L_law_436 : mj_f mi_L_law 436 = some (.ldc2_w 28, 3, 0, 0, .long (4294967295)) := by decide +kernel
theorem fe_L_law_439 : mj_f mi_L_law 439 = some (.land, 1, 0, 0, .null) := by decide +kernel
theorem fe_L_law_440 : mj_f mi_L_law 440 = some (.lor, 1, 0, 0, .null) := by decide +kernel
theorem fe_L_law_441 : mj_f mi_L_law 441 = some (.invokevirtual 40, 3, 153, 7, .null) := by decide +kernel
theorem fe_L_law_444 : mj_f mi_L_law 444 = some (.aload_n 2, 1, 2, 0, .null) := by decide +kernel
theorem fe_L_law_445 : mj_f mi_L_law 445 = some (.aload_n 0, 1, 0, 0, .null) := by decide +kernel
theorem fe_L_law_446 : mj_f mi_L_law 446 = some (.iload_n 3, 1, 3, 0, .null) := by decide +kernel
theorem fe_L_law_447 : mj_f mi_L_law 447 = some (.iconst 1, 1, 0, 0, .int (1)) := by decide +kernel
theorem fe_L_law_448 : mj_f mi_L_law 448 = some (.iadd, 1, 0, 0, .null) := by decide +kernel
theorem fe_L_law_449 : mj_f mi_L_law 449 = some (.iaload, 1, 0, 0, .null) := by decide +kernel
theorem fe_L_law_450 : mj_f mi_L_law 450 = some (.aload_n 0, 1, 0, 0, .null) := by decide +kernel
theorem fe_L_law_451 : mj_f mi_L_law 451 = some (.iload_n 3, 1, 3, 0, .null) := by decide +kernel
theorem fe_L_law_452 : mj_f mi_L_law 452 = some (.iconst 2, 1, 0, 0, .int (2)) := by decide +kernel
theorem fe_L_law_453 : mj_f mi_L_law 453 = some (.iadd, 1, 0, 0, .null) := by decide +kernel
theorem fe_L_law_454 : mj_f mi_L_law 454 = some (.iaload, 1, 0, 0, .null) := by decide +kernel
theorem fe_L_law_455 : mj_f mi_L_law 455 = some (.aload_n 0, 1, 0, 0, .null) := by decide +kernel
theorem fe_L_law_456 : mj_f mi_L_law 456 = some (.iload_n 3, 1, 3, 0, .null) := by decide +kernel
theorem fe_L_law_457 : mj_f mi_L_law 457 = some (.iconst 3, 1, 0, 0, .int (3)) := by decide +kernel
theorem fe_L_law_458 : mj_f mi_L_law 458 = some (.iadd, 1, 0, 0, .null) := by decide +kernel
theorem fe_L_law_459 : mj_f mi_L_law 459 = some (.iaload, 1, 0, 0, .null) := by decide +kernel
theorem fe_L_law_460 : mj_f mi_L_law 460 = some (.aload_n 0, 1, 0, 0, .null) := by decide +kernel
theorem fe_L_law_461 : mj_f mi_L_law 461 = some (.iload_n 3, 1, 3, 0, .null) := by decide +kernel
theorem fe_L_law_462 : mj_f mi_L_law 462 = some (.iconst 4, 1, 0, 0, .int (4)) := by decide +kernel
theorem fe_L_law_463 : mj_f mi_L_law 463 = some (.iadd, 1, 0, 0, .null) := by decide +kernel
theorem fe_L_law_464 : mj_f mi_L_law 464 = some (.iaload, 1, 0, 0, .null) := by decide +kernel
theorem fe_L_law_465 : mj_f mi_L_law 465 = some (.i2l, 1, 0, 0, .null) := by decide +kernel
theorem fe_L_law_466 : mj_f mi_L_law 466 = some (.bipush 32, 2, 0, 0, .int (32)) := by decide +kernel
theorem fe_L_law_468 : mj_f mi_L_law 468 = some (.lshl, 1, 0, 0, .null) := by decide +kernel
theorem fe_L_law_469 : mj_f mi_L_law 469 = some (.aload_n 0, 1, 0, 0, .null) := by decide +kernel
theorem fe_L_law_470 : mj_f mi_L_law 470 = some (.iload_n 3, 1, 3, 0, .null) := by decide +kernel
theorem fe_L_law_471 : mj_f mi_L_law 471 = some (.iconst 5, 1, 0, 0, .int (5)) := by decide +kernel
theorem fe_L_law_472 : mj_f mi_L_law 472 = some (.iadd, 1, 0, 0, .null) := by decide +kernel
theorem fe_L_law_473 : mj_f mi_L_law 473 = some (.iaload, 1, 0, 0, .null) := by decide +kernel
theorem fe_L_law_474 : mj_f mi_L_law 474 = some (.i2l, 1, 0, 0, .null) := by decide +kernel
theorem fe_L_law_475 : mj_f mi_L_law 475 = some (.ldc2_w 28, 3, 0, 0, .long (4294967295)) := by decide +kernel
theorem fe_L_law_478 : mj_f mi_L_law 478 = some (.land, 1, 0, 0, .null) := by decide +kernel
theorem fe_L_law_479 : mj_f mi_L_law 479 = some (.lor, 1, 0, 0, .null) := by decide +kernel
theorem fe_L_law_480 : mj_f mi_L_law 480 = some (.aload_n 0, 1, 0, 0, .null) := by decide +kernel
theorem fe_L_law_481 : mj_f mi_L_law 481 = some (.iload_n 3, 1, 3, 0, .null) := by decide +kernel
theorem fe_L_law_482 : mj_f mi_L_law 482 = some (.bipush 6, 2, 0, 0, .int (6)) := by decide +kernel
theorem fe_L_law_484 : mj_f mi_L_law 484 = some (.iadd, 1, 0, 0, .null) := by decide +kernel
theorem fe_L_law_485 : mj_f mi_L_law 485 = some (.iaload, 1, 0, 0, .null) := by decide +kernel
theorem fe_L_law_486 : mj_f mi_L_law 486 = some (.i2l, 1, 0, 0, .null) := by decide +kernel
theorem fe_L_law_487 : mj_f mi_L_law 487 = some (.bipush 32, 2, 0, 0, .int (32)) := by decide +kernel
theorem fe_L_law_489 : mj_f mi_L_law 489 = some (.lshl, 1, 0, 0, .null) := by decide +kernel
theorem fe_L_law_490 : mj_f mi_L_law 490 = some (.aload_n 0, 1, 0, 0, .null) := by decide +kernel
theorem fe_L_law_491 : mj_f mi_L_law 491 = some (.iload_n 3, 1, 3, 0, .null) := by decide +kernel
theorem fe_L_law_492 : mj_f mi_L_law 492 = some (.bipush 7, 2, 0, 0, .int (7)) := by decide +kernel
theorem fe_L_law_494 : mj_f mi_L_law 494 = some (.iadd, 1, 0, 0, .null) := by decide +kernel
theorem fe_L_law_495 : mj_f mi_L_law 495 = some (.iaload, 1, 0, 0, .null) := by decide +kernel
theorem fe_L_law_496 : mj_f mi_L_law 496 = some (.i2l, 1, 0, 0, .null) := by decide +kernel
theorem fe_L_law_497 : mj_f mi_L_law 497 = some (.ldc2_w 28, 3, 0, 0, .long (4294967295)) := by decide +kernel
theorem fe_L_law_500 : mj_f mi_L_law 500 = some (.land, 1, 0, 0, .null) := by decide +kernel
theorem fe_L_law_501 : mj_f mi_L_law 501 = some (.lor, 1, 0, 0, .null) := by decide +kernel
theorem fe_L_law_502 : mj_f mi_L_law 502 = some (.aload_n 0, 1, 0, 0, .null) := by decide +kernel
theorem fe_L_law_503 : mj_f mi_L_law 503 = some (.iload_n 3, 1, 3, 0, .null) := by decide +kernel
theorem fe_L_law_504 : mj_f mi_L_law 504 = some (.bipush 8, 2, 0, 0, .int (8)) := by decide +kernel
theorem fe_L_law_506 : mj_f mi_L_law 506 = some (.iadd, 1, 0, 0, .null) := by decide +kernel
theorem fe_L_law_507 : mj_f mi_L_law 507 = some (.iaload, 1, 0, 0, .null) := by decide +kernel
theorem fe_L_law_508 : mj_f mi_L_law 508 = some (.aload_n 0, 1, 0, 0, .null) := by decide +kernel
theorem fe_L_law_509 : mj_f mi_L_law 509 = some (.iload_n 3, 1, 3, 0, .null) := by decide +kernel
theorem fe_L_law_510 : mj_f mi_L_law 510 = some (.bipush 9, 2, 0, 0, .int (9)) := by decide +kernel
theorem fe_L_law_512 : mj_f mi_L_law 512 = some (.iadd, 1, 0, 0, .null) := by decide +kernel
theorem fe_L_law_513 : mj_f mi_L_law 513 = some (.iaload, 1, 0, 0, .null) := by decide +kernel
theorem fe_L_law_514 : mj_f mi_L_law 514 = some (.i2l, 1, 0, 0, .null) := by decide +kernel
theorem fe_L_law_515 : mj_f mi_L_law 515 = some (.bipush 32, 2, 0, 0, .int (32)) := by decide +kernel
theorem fe_L_law_517 : mj_f mi_L_law 517 = some (.lshl, 1, 0, 0, .null) := by decide +kernel
theorem fe_L_law_518 : mj_f mi_L_law 518 = some (.aload_n 0, 1, 0, 0, .null) := by decide +kernel
theorem fe_L_law_519 : mj_f mi_L_law 519 = some (.iload_n 3, 1, 3, 0, .null) := by decide +kernel
theorem fe_L_law_520 : mj_f mi_L_law 520 = some (.bipush 10, 2, 0, 0, .int (10)) := by decide +kernel
theorem fe_L_law_522 : mj_f mi_L_law 522 = some (.iadd, 1, 0, 0, .null) := by decide +kernel
theorem fe_L_law_523 : mj_f mi_L_law 523 = some (.iaload, 1, 0, 0, .null) := by decide +kernel
theorem fe_L_law_524 : mj_f mi_L_law 524 = some (.i2l, 1, 0, 0, .null) := by decide +kernel
theorem fe_L_law_525 : mj_f mi_L_law 525 = some (.ldc2_w 28, 3, 0, 0, .long (4294967295)) := by decide +kernel
theorem fe_L_law_528 : mj_f mi_L_law 528 = some (.land, 1, 0, 0, .null) := by decide +kernel
theorem fe_L_law_529 : mj_f mi_L_law 529 = some (.lor, 1, 0, 0, .null) := by decide +kernel
theorem fe_L_law_530 : mj_f mi_L_law 530 = some (.invokevirtual 44, 3, 222, 7, .null) := by decide +kernel
theorem fe_L_law_533 : mj_f mi_L_law 533 = some (.if_icmp .eq 718, 3, 1251, 0, .null) := by decide +kernel
theorem fe_L_law_536 : mj_f mi_L_law 536 = some (.iconst 0, 1, 0, 0, .int (0)) := by decide +kernel
theorem fe_L_law_537 : mj_f mi_L_law 537 = some (.ireturn, 1, 0, 0, .null) := by decide +kernel
theorem fe_L_law_538 : mj_f mi_L_law 538 = some (.aload_n 1, 1, 1, 0, .null) := by decide +kernel
theorem fe_L_law_539 : mj_f mi_L_law 539 = some (.aload_n 0, 1, 0, 0, .null) := by decide +kernel
theorem fe_L_law_540 : mj_f mi_L_law 540 = some (.iload_n 3, 1, 3, 0, .null) := by decide +kernel
theorem fe_L_law_541 : mj_f mi_L_law 541 = some (.iconst 1, 1, 0, 0, .int (1)) := by decide +kernel
theorem fe_L_law_542 : mj_f mi_L_law 542 = some (.iadd, 1, 0, 0, .null) := by decide +kernel
theorem fe_L_law_543 : mj_f mi_L_law 543 = some (.iaload, 1, 0, 0, .null) := by decide +kernel
theorem fe_L_law_544 : mj_f mi_L_law 544 = some (.aload_n 0, 1, 0, 0, .null) := by decide +kernel
theorem fe_L_law_545 : mj_f mi_L_law 545 = some (.iload_n 3, 1, 3, 0, .null) := by decide +kernel
theorem fe_L_law_546 : mj_f mi_L_law 546 = some (.iconst 2, 1, 0, 0, .int (2)) := by decide +kernel
theorem fe_L_law_547 : mj_f mi_L_law 547 = some (.iadd, 1, 0, 0, .null) := by decide +kernel
theorem fe_L_law_548 : mj_f mi_L_law 548 = some (.iaload, 1, 0, 0, .null) := by decide +kernel
theorem fe_L_law_549 : mj_f mi_L_law 549 = some (.aload_n 0, 1, 0, 0, .null) := by decide +kernel
theorem fe_L_law_550 : mj_f mi_L_law 550 = some (.iload_n 3, 1, 3, 0, .null) := by decide +kernel
theorem fe_L_law_551 : mj_f mi_L_law 551 = some (.iconst 3, 1, 0, 0, .int (3)) := by decide +kernel
theorem fe_L_law_552 : mj_f mi_L_law 552 = some (.iadd, 1, 0, 0, .null) := by decide +kernel
theorem fe_L_law_553 : mj_f mi_L_law 553 = some (.iaload, 1, 0, 0, .null) := by decide +kernel
theorem fe_L_law_554 : mj_f mi_L_law 554 = some (.i2l, 1, 0, 0, .null) := by decide +kernel
theorem fe_L_law_555 : mj_f mi_L_law 555 = some (.bipush 32, 2, 0, 0, .int (32)) := by decide +kernel
theorem fe_L_law_557 : mj_f mi_L_law 557 = some (.lshl, 1, 0, 0, .null) := by decide +kernel
theorem fe_L_law_558 : mj_f mi_L_law 558 = some (.aload_n 0, 1, 0, 0, .null) := by decide +kernel
theorem fe_L_law_559 : mj_f mi_L_law 559 = some (.iload_n 3, 1, 3, 0, .null) := by decide +kernel
theorem fe_L_law_560 : mj_f mi_L_law 560 = some (.iconst 4, 1, 0, 0, .int (4)) := by decide +kernel
theorem fe_L_law_561 : mj_f mi_L_law 561 = some (.iadd, 1, 0, 0, .null) := by decide +kernel
theorem fe_L_law_562 : mj_f mi_L_law 562 = some (.iaload, 1, 0, 0, .null) := by decide +kernel
theorem fe_L_law_563 : mj_f mi_L_law 563 = some (.i2l, 1, 0, 0, .null) := by decide +kernel
theorem fe_L_law_564 : mj_f mi_L_law 564 = some (.ldc2_w 28, 3, 0, 0, .long (4294967295)) := by decide +kernel
theorem fe_L_law_567 : mj_f mi_L_law 567 = some (.land, 1, 0, 0, .null) := by decide +kernel
theorem fe_L_law_568 : mj_f mi_L_law 568 = some (.lor, 1, 0, 0, .null) := by decide +kernel
theorem fe_L_law_569 : mj_f mi_L_law 569 = some (.invokevirtual 45, 3, 154, 3, .null) := by decide +kernel
theorem fe_L_law_572 : mj_f mi_L_law 572 = some (.aload_n 2, 1, 2, 0, .null) := by decide +kernel
theorem fe_L_law_573 : mj_f mi_L_law 573 = some (.aload_n 0, 1, 0, 0, .null) := by decide +kernel
theorem fe_L_law_574 : mj_f mi_L_law 574 = some (.iload_n 3, 1, 3, 0, .null) := by decide +kernel
theorem fe_L_law_575 : mj_f mi_L_law 575 = some (.iconst 1, 1, 0, 0, .int (1)) := by decide +kernel
theorem fe_L_law_576 : mj_f mi_L_law 576 = some (.iadd, 1, 0, 0, .null) := by decide +kernel
theorem fe_L_law_577 : mj_f mi_L_law 577 = some (.iaload, 1, 0, 0, .null) := by decide +kernel
theorem fe_L_law_578 : mj_f mi_L_law 578 = some (.aload_n 0, 1, 0, 0, .null) := by decide +kernel
theorem fe_L_law_579 : mj_f mi_L_law 579 = some (.iload_n 3, 1, 3, 0, .null) := by decide +kernel
theorem fe_L_law_580 : mj_f mi_L_law 580 = some (.iconst 2, 1, 0, 0, .int (2)) := by decide +kernel
theorem fe_L_law_581 : mj_f mi_L_law 581 = some (.iadd, 1, 0, 0, .null) := by decide +kernel
theorem fe_L_law_582 : mj_f mi_L_law 582 = some (.iaload, 1, 0, 0, .null) := by decide +kernel
theorem fe_L_law_583 : mj_f mi_L_law 583 = some (.aload_n 0, 1, 0, 0, .null) := by decide +kernel
theorem fe_L_law_584 : mj_f mi_L_law 584 = some (.iload_n 3, 1, 3, 0, .null) := by decide +kernel
theorem fe_L_law_585 : mj_f mi_L_law 585 = some (.iconst 3, 1, 0, 0, .int (3)) := by decide +kernel
theorem fe_L_law_586 : mj_f mi_L_law 586 = some (.iadd, 1, 0, 0, .null) := by decide +kernel
theorem fe_L_law_587 : mj_f mi_L_law 587 = some (.iaload, 1, 0, 0, .null) := by decide +kernel
theorem fe_L_law_588 : mj_f mi_L_law 588 = some (.i2l, 1, 0, 0, .null) := by decide +kernel
theorem fe_L_law_589 : mj_f mi_L_law 589 = some (.bipush 32, 2, 0, 0, .int (32)) := by decide +kernel
theorem fe_L_law_591 : mj_f mi_L_law 591 = some (.lshl, 1, 0, 0, .null) := by decide +kernel
theorem fe_L_law_592 : mj_f mi_L_law 592 = some (.aload_n 0, 1, 0, 0, .null) := by decide +kernel
theorem fe_L_law_593 : mj_f mi_L_law 593 = some (.iload_n 3, 1, 3, 0, .null) := by decide +kernel
theorem fe_L_law_594 : mj_f mi_L_law 594 = some (.iconst 4, 1, 0, 0, .int (4)) := by decide +kernel
theorem fe_L_law_595 : mj_f mi_L_law 595 = some (.iadd, 1, 0, 0, .null) := by decide +kernel
theorem fe_L_law_596 : mj_f mi_L_law 596 = some (.iaload, 1, 0, 0, .null) := by decide +kernel
theorem fe_L_law_597 : mj_f mi_L_law 597 = some (.i2l, 1, 0, 0, .null) := by decide +kernel
theorem fe_L_law_598 : mj_f mi_L_law 598 = some (.ldc2_w 28, 3, 0, 0, .long (4294967295)) := by decide +kernel
theorem fe_L_law_601 : mj_f mi_L_law 601 = some (.land, 1, 0, 0, .null) := by decide +kernel
theorem fe_L_law_602 : mj_f mi_L_law 602 = some (.lor, 1, 0, 0, .null) := by decide +kernel
theorem fe_L_law_603 : mj_f mi_L_law 603 = some (.invokevirtual 49, 3, 225, 3, .null) := by decide +kernel
theorem fe_L_law_606 : mj_f mi_L_law 606 = some (.if_icmp .eq 645, 3, 1251, 0, .null) := by decide +kernel
theorem fe_L_law_609 : mj_f mi_L_law 609 = some (.iconst 0, 1, 0, 0, .int (0)) := by decide +kernel
theorem fe_L_law_610 : mj_f mi_L_law 610 = some (.ireturn, 1, 0, 0, .null) := by decide +kernel
theorem fe_L_law_611 : mj_f mi_L_law 611 = some (.aload_n 1, 1, 1, 0, .null) := by decide +kernel
theorem fe_L_law_612 : mj_f mi_L_law 612 = some (.aload_n 0, 1, 0, 0, .null) := by decide +kernel
theorem fe_L_law_613 : mj_f mi_L_law 613 = some (.iload_n 3, 1, 3, 0, .null) := by decide +kernel
theorem fe_L_law_614 : mj_f mi_L_law 614 = some (.iconst 1, 1, 0, 0, .int (1)) := by decide +kernel
theorem fe_L_law_615 : mj_f mi_L_law 615 = some (.iadd, 1, 0, 0, .null) := by decide +kernel
theorem fe_L_law_616 : mj_f mi_L_law 616 = some (.iaload, 1, 0, 0, .null) := by decide +kernel
theorem fe_L_law_617 : mj_f mi_L_law 617 = some (.invokevirtual 50, 3, 155, 1, .null) := by decide +kernel
theorem fe_L_law_620 : mj_f mi_L_law 620 = some (.aload_n 2, 1, 2, 0, .null) := by decide +kernel
theorem fe_L_law_621 : mj_f mi_L_law 621 = some (.aload_n 0, 1, 0, 0, .null) := by decide +kernel
theorem fe_L_law_622 : mj_f mi_L_law 622 = some (.iload_n 3, 1, 3, 0, .null) := by decide +kernel
theorem fe_L_law_623 : mj_f mi_L_law 623 = some (.iconst 1, 1, 0, 0, .int (1)) := by decide +kernel
theorem fe_L_law_624 : mj_f mi_L_law 624 = some (.iadd, 1, 0, 0, .null) := by decide +kernel
theorem fe_L_law_625 : mj_f mi_L_law 625 = some (.iaload, 1, 0, 0, .null) := by decide +kernel
theorem fe_L_law_626 : mj_f mi_L_law 626 = some (.invokevirtual 53, 3, 226, 1, .null) := by decide +kernel
theorem fe_L_law_629 : mj_f mi_L_law 629 = some (.if_icmp .eq 622, 3, 1251, 0, .null) := by decide +kernel
theorem fe_L_law_632 : mj_f mi_L_law 632 = some (.iconst 0, 1, 0, 0, .int (0)) := by decide +kernel
theorem fe_L_law_633 : mj_f mi_L_law 633 = some (.ireturn, 1, 0, 0, .null) := by decide +kernel
theorem fe_L_law_634 : mj_f mi_L_law 634 = some (.aload_n 1, 1, 1, 0, .null) := by decide +kernel
theorem fe_L_law_635 : mj_f mi_L_law 635 = some (.aload_n 0, 1, 0, 0, .null) := by decide +kernel
theorem fe_L_law_636 : mj_f mi_L_law 636 = some (.iload_n 3, 1, 3, 0, .null) := by decide +kernel
theorem fe_L_law_637 : mj_f mi_L_law 637 = some (.iconst 1, 1, 0, 0, .int (1)) := by decide +kernel
theorem fe_L_law_638 : mj_f mi_L_law 638 = some (.iadd, 1, 0, 0, .null) := by decide +kernel
theorem fe_L_law_639 : mj_f mi_L_law 639 = some (.iaload, 1, 0, 0, .null) := by decide +kernel
theorem fe_L_law_640 : mj_f mi_L_law 640 = some (.invokevirtual 54, 3, 156, 1, .null) := by decide +kernel
theorem fe_L_law_643 : mj_f mi_L_law 643 = some (.aload_n 2, 1, 2, 0, .null) := by decide +kernel
theorem fe_L_law_644 : mj_f mi_L_law 644 = some (.aload_n 0, 1, 0, 0, .null) := by decide +kernel
theorem fe_L_law_645 : mj_f mi_L_law 645 = some (.iload_n 3, 1, 3, 0, .null) := by decide +kernel
theorem fe_L_law_646 : mj_f mi_L_law 646 = some (.iconst 1, 1, 0, 0, .int (1)) := by decide +kernel
theorem fe_L_law_647 : mj_f mi_L_law 647 = some (.iadd, 1, 0, 0, .null) := by decide +kernel
theorem fe_L_law_648 : mj_f mi_L_law 648 = some (.iaload, 1, 0, 0, .null) := by decide +kernel
theorem fe_L_law_649 : mj_f mi_L_law 649 = some (.invokevirtual 57, 3, 227, 1, .null) := by decide +kernel
theorem fe_L_law_652 : mj_f mi_L_law 652 = some (.if_icmp .eq 599, 3, 1251, 0, .null) := by decide +kernel
theorem fe_L_law_655 : mj_f mi_L_law 655 = some (.iconst 0, 1, 0, 0, .int (0)) := by decide +kernel
theorem fe_L_law_656 : mj_f mi_L_law 656 = some (.ireturn, 1, 0, 0, .null) := by decide +kernel
theorem fe_L_law_657 : mj_f mi_L_law 657 = some (.aload_n 1, 1, 1, 0, .null) := by decide +kernel
theorem fe_L_law_658 : mj_f mi_L_law 658 = some (.aload_n 0, 1, 0, 0, .null) := by decide +kernel
theorem fe_L_law_659 : mj_f mi_L_law 659 = some (.iload_n 3, 1, 3, 0, .null) := by decide +kernel
theorem fe_L_law_660 : mj_f mi_L_law 660 = some (.iconst 1, 1, 0, 0, .int (1)) := by decide +kernel
theorem fe_L_law_661 : mj_f mi_L_law 661 = some (.iadd, 1, 0, 0, .null) := by decide +kernel
theorem fe_L_law_662 : mj_f mi_L_law 662 = some (.iaload, 1, 0, 0, .null) := by decide +kernel
theorem fe_L_law_663 : mj_f mi_L_law 663 = some (.aload_n 0, 1, 0, 0, .null) := by decide +kernel
theorem fe_L_law_664 : mj_f mi_L_law 664 = some (.iload_n 3, 1, 3, 0, .null) := by decide +kernel
theorem fe_L_law_665 : mj_f mi_L_law 665 = some (.iconst 2, 1, 0, 0, .int (2)) := by decide +kernel
theorem fe_L_law_666 : mj_f mi_L_law 666 = some (.iadd, 1, 0, 0, .null) := by decide +kernel
theorem fe_L_law_667 : mj_f mi_L_law 667 = some (.iaload, 1, 0, 0, .null) := by decide +kernel
theorem fe_L_law_668 : mj_f mi_L_law 668 = some (.invokevirtual 58, 3, 157, 2, .null) := by decide +kernel
theorem fe_L_law_671 : mj_f mi_L_law 671 = some (.aload_n 2, 1, 2, 0, .null) := by decide +kernel
theorem fe_L_law_672 : mj_f mi_L_law 672 = some (.aload_n 0, 1, 0, 0, .null) := by decide +kernel
theorem fe_L_law_673 : mj_f mi_L_law 673 = some (.iload_n 3, 1, 3, 0, .null) := by decide +kernel
theorem fe_L_law_674 : mj_f mi_L_law 674 = some (.iconst 1, 1, 0, 0, .int (1)) := by decide +kernel
theorem fe_L_law_675 : mj_f mi_L_law 675 = some (.iadd, 1, 0, 0, .null) := by decide +kernel
theorem fe_L_law_676 : mj_f mi_L_law 676 = some (.iaload, 1, 0, 0, .null) := by decide +kernel
theorem fe_L_law_677 : mj_f mi_L_law 677 = some (.aload_n 0, 1, 0, 0, .null) := by decide +kernel
theorem fe_L_law_678 : mj_f mi_L_law 678 = some (.iload_n 3, 1, 3, 0, .null) := by decide +kernel
theorem fe_L_law_679 : mj_f mi_L_law 679 = some (.iconst 2, 1, 0, 0, .int (2)) := by decide +kernel
theorem fe_L_law_680 : mj_f mi_L_law 680 = some (.iadd, 1, 0, 0, .null) := by decide +kernel
theorem fe_L_law_681 : mj_f mi_L_law 681 = some (.iaload, 1, 0, 0, .null) := by decide +kernel
theorem fe_L_law_682 : mj_f mi_L_law 682 = some (.invokevirtual 62, 3, 228, 2, .null) := by decide +kernel
theorem fe_L_law_685 : mj_f mi_L_law 685 = some (.if_icmp .eq 566, 3, 1251, 0, .null) := by decide +kernel
theorem fe_L_law_688 : mj_f mi_L_law 688 = some (.iconst 0, 1, 0, 0, .int (0)) := by decide +kernel
theorem fe_L_law_689 : mj_f mi_L_law 689 = some (.ireturn, 1, 0, 0, .null) := by decide +kernel
theorem fe_L_law_690 : mj_f mi_L_law 690 = some (.aload_n 1, 1, 1, 0, .null) := by decide +kernel
theorem fe_L_law_691 : mj_f mi_L_law 691 = some (.aload_n 0, 1, 0, 0, .null) := by decide +kernel
theorem fe_L_law_692 : mj_f mi_L_law 692 = some (.iload_n 3, 1, 3, 0, .null) := by decide +kernel
theorem fe_L_law_693 : mj_f mi_L_law 693 = some (.iconst 1, 1, 0, 0, .int (1)) := by decide +kernel
theorem fe_L_law_694 : mj_f mi_L_law 694 = some (.iadd, 1, 0, 0, .null) := by decide +kernel
theorem fe_L_law_695 : mj_f mi_L_law 695 = some (.iaload, 1, 0, 0, .null) := by decide +kernel
theorem fe_L_law_696 : mj_f mi_L_law 696 = some (.aload_n 0, 1, 0, 0, .null) := by decide +kernel
theorem fe_L_law_697 : mj_f mi_L_law 697 = some (.iload_n 3, 1, 3, 0, .null) := by decide +kernel
theorem fe_L_law_698 : mj_f mi_L_law 698 = some (.iconst 2, 1, 0, 0, .int (2)) := by decide +kernel
theorem fe_L_law_699 : mj_f mi_L_law 699 = some (.iadd, 1, 0, 0, .null) := by decide +kernel
theorem fe_L_law_700 : mj_f mi_L_law 700 = some (.iaload, 1, 0, 0, .null) := by decide +kernel
theorem fe_L_law_701 : mj_f mi_L_law 701 = some (.invokevirtual 63, 3, 158, 2, .null) := by decide +kernel
theorem fe_L_law_704 : mj_f mi_L_law 704 = some (.aload_n 2, 1, 2, 0, .null) := by decide +kernel
theorem fe_L_law_705 : mj_f mi_L_law 705 = some (.aload_n 0, 1, 0, 0, .null) := by decide +kernel
theorem fe_L_law_706 : mj_f mi_L_law 706 = some (.iload_n 3, 1, 3, 0, .null) := by decide +kernel
theorem fe_L_law_707 : mj_f mi_L_law 707 = some (.iconst 1, 1, 0, 0, .int (1)) := by decide +kernel
theorem fe_L_law_708 : mj_f mi_L_law 708 = some (.iadd, 1, 0, 0, .null) := by decide +kernel
theorem fe_L_law_709 : mj_f mi_L_law 709 = some (.iaload, 1, 0, 0, .null) := by decide +kernel
theorem fe_L_law_710 : mj_f mi_L_law 710 = some (.aload_n 0, 1, 0, 0, .null) := by decide +kernel
theorem fe_L_law_711 : mj_f mi_L_law 711 = some (.iload_n 3, 1, 3, 0, .null) := by decide +kernel
theorem fe_L_law_712 : mj_f mi_L_law 712 = some (.iconst 2, 1, 0, 0, .int (2)) := by decide +kernel
theorem fe_L_law_713 : mj_f mi_L_law 713 = some (.iadd, 1, 0, 0, .null) := by decide +kernel
theorem fe_L_law_714 : mj_f mi_L_law 714 = some (.iaload, 1, 0, 0, .null) := by decide +kernel
theorem fe_L_law_715 : mj_f mi_L_law 715 = some (.invokevirtual 66, 3, 229, 2, .null) := by decide +kernel
theorem fe_L_law_718 : mj_f mi_L_law 718 = some (.if_icmp .eq 533, 3, 1251, 0, .null) := by decide +kernel
theorem fe_L_law_721 : mj_f mi_L_law 721 = some (.iconst 0, 1, 0, 0, .int (0)) := by decide +kernel
theorem fe_L_law_722 : mj_f mi_L_law 722 = some (.ireturn, 1, 0, 0, .null) := by decide +kernel
theorem fe_L_law_723 : mj_f mi_L_law 723 = some (.aload_n 1, 1, 1, 0, .null) := by decide +kernel
theorem fe_L_law_724 : mj_f mi_L_law 724 = some (.aload_n 0, 1, 0, 0, .null) := by decide +kernel
theorem fe_L_law_725 : mj_f mi_L_law 725 = some (.iload_n 3, 1, 3, 0, .null) := by decide +kernel
theorem fe_L_law_726 : mj_f mi_L_law 726 = some (.iconst 1, 1, 0, 0, .int (1)) := by decide +kernel
theorem fe_L_law_727 : mj_f mi_L_law 727 = some (.iadd, 1, 0, 0, .null) := by decide +kernel
theorem fe_L_law_728 : mj_f mi_L_law 728 = some (.iaload, 1, 0, 0, .null) := by decide +kernel
theorem fe_L_law_729 : mj_f mi_L_law 729 = some (.aload_n 0, 1, 0, 0, .null) := by decide +kernel
theorem fe_L_law_730 : mj_f mi_L_law 730 = some (.iload_n 3, 1, 3, 0, .null) := by decide +kernel
theorem fe_L_law_731 : mj_f mi_L_law 731 = some (.iconst 2, 1, 0, 0, .int (2)) := by decide +kernel
theorem fe_L_law_732 : mj_f mi_L_law 732 = some (.iadd, 1, 0, 0, .null) := by decide +kernel
theorem fe_L_law_733 : mj_f mi_L_law 733 = some (.iaload, 1, 0, 0, .null) := by decide +kernel
theorem fe_L_law_734 : mj_f mi_L_law 734 = some (.invokevirtual 67, 3, 159, 2, .null) := by decide +kernel
theorem fe_L_law_737 : mj_f mi_L_law 737 = some (.aload_n 2, 1, 2, 0, .null) := by decide +kernel
theorem fe_L_law_738 : mj_f mi_L_law 738 = some (.aload_n 0, 1, 0, 0, .null) := by decide +kernel
theorem fe_L_law_739 : mj_f mi_L_law 739 = some (.iload_n 3, 1, 3, 0, .null) := by decide +kernel
theorem fe_L_law_740 : mj_f mi_L_law 740 = some (.iconst 1, 1, 0, 0, .int (1)) := by decide +kernel
theorem fe_L_law_741 : mj_f mi_L_law 741 = some (.iadd, 1, 0, 0, .null) := by decide +kernel
theorem fe_L_law_742 : mj_f mi_L_law 742 = some (.iaload, 1, 0, 0, .null) := by decide +kernel
theorem fe_L_law_743 : mj_f mi_L_law 743 = some (.aload_n 0, 1, 0, 0, .null) := by decide +kernel
theorem fe_L_law_744 : mj_f mi_L_law 744 = some (.iload_n 3, 1, 3, 0, .null) := by decide +kernel
theorem fe_L_law_745 : mj_f mi_L_law 745 = some (.iconst 2, 1, 0, 0, .int (2)) := by decide +kernel
theorem fe_L_law_746 : mj_f mi_L_law 746 = some (.iadd, 1, 0, 0, .null) := by decide +kernel
theorem fe_L_law_747 : mj_f mi_L_law 747 = some (.iaload, 1, 0, 0, .null) := by decide +kernel
theorem fe_L_law_748 : mj_f mi_L_law 748 = some (.invokevirtual 71, 3, 230, 2, .null) := by decide +kernel
theorem fe_L_law_751 : mj_f mi_L_law 751 = some (.lcmp, 1, 0, 0, .null) := by decide +kernel
theorem fe_L_law_752 : mj_f mi_L_law 752 = some (.ifCond .eq 499, 3, 1251, 0, .null) := by decide +kernel
theorem fe_L_law_755 : mj_f mi_L_law 755 = some (.iconst 0, 1, 0, 0, .int (0)) := by decide +kernel
theorem fe_L_law_756 : mj_f mi_L_law 756 = some (.ireturn, 1, 0, 0, .null) := by decide +kernel
theorem fe_L_law_757 : mj_f mi_L_law 757 = some (.aload_n 1, 1, 1, 0, .null) := by decide +kernel
theorem fe_L_law_758 : mj_f mi_L_law 758 = some (.aload_n 0, 1, 0, 0, .null) := by decide +kernel
theorem fe_L_law_759 : mj_f mi_L_law 759 = some (.iload_n 3, 1, 3, 0, .null) := by decide +kernel
theorem fe_L_law_760 : mj_f mi_L_law 760 = some (.iconst 1, 1, 0, 0, .int (1)) := by decide +kernel
theorem fe_L_law_761 : mj_f mi_L_law 761 = some (.iadd, 1, 0, 0, .null) := by decide +kernel
theorem fe_L_law_762 : mj_f mi_L_law 762 = some (.iaload, 1, 0, 0, .null) := by decide +kernel
theorem fe_L_law_763 : mj_f mi_L_law 763 = some (.aload_n 0, 1, 0, 0, .null) := by decide +kernel
theorem fe_L_law_764 : mj_f mi_L_law 764 = some (.iload_n 3, 1, 3, 0, .null) := by decide +kernel
theorem fe_L_law_765 : mj_f mi_L_law 765 = some (.iconst 2, 1, 0, 0, .int (2)) := by decide +kernel
theorem fe_L_law_766 : mj_f mi_L_law 766 = some (.iadd, 1, 0, 0, .null) := by decide +kernel
theorem fe_L_law_767 : mj_f mi_L_law 767 = some (.iaload, 1, 0, 0, .null) := by decide +kernel
theorem fe_L_law_768 : mj_f mi_L_law 768 = some (.aload_n 0, 1, 0, 0, .null) := by decide +kernel
theorem fe_L_law_769 : mj_f mi_L_law 769 = some (.iload_n 3, 1, 3, 0, .null) := by decide +kernel
theorem fe_L_law_770 : mj_f mi_L_law 770 = some (.iconst 3, 1, 0, 0, .int (3)) := by decide +kernel
theorem fe_L_law_771 : mj_f mi_L_law 771 = some (.iadd, 1, 0, 0, .null) := by decide +kernel
theorem fe_L_law_772 : mj_f mi_L_law 772 = some (.iaload, 1, 0, 0, .null) := by decide +kernel
theorem fe_L_law_773 : mj_f mi_L_law 773 = some (.invokevirtual 72, 3, 160, 3, .null) := by decide +kernel
theorem fe_L_law_776 : mj_f mi_L_law 776 = some (.aload_n 2, 1, 2, 0, .null) := by decide +kernel
theorem fe_L_law_777 : mj_f mi_L_law 777 = some (.aload_n 0, 1, 0, 0, .null) := by decide +kernel
theorem fe_L_law_778 : mj_f mi_L_law 778 = some (.iload_n 3, 1, 3, 0, .null) := by decide +kernel
theorem fe_L_law_779 : mj_f mi_L_law 779 = some (.iconst 1, 1, 0, 0, .int (1)) := by decide +kernel
theorem fe_L_law_780 : mj_f mi_L_law 780 = some (.iadd, 1, 0, 0, .null) := by decide +kernel
theorem fe_L_law_781 : mj_f mi_L_law 781 = some (.iaload, 1, 0, 0, .null) := by decide +kernel
theorem fe_L_law_782 : mj_f mi_L_law 782 = some (.aload_n 0, 1, 0, 0, .null) := by decide +kernel
theorem fe_L_law_783 : mj_f mi_L_law 783 = some (.iload_n 3, 1, 3, 0, .null) := by decide +kernel
theorem fe_L_law_784 : mj_f mi_L_law 784 = some (.iconst 2, 1, 0, 0, .int (2)) := by decide +kernel
theorem fe_L_law_785 : mj_f mi_L_law 785 = some (.iadd, 1, 0, 0, .null) := by decide +kernel
theorem fe_L_law_786 : mj_f mi_L_law 786 = some (.iaload, 1, 0, 0, .null) := by decide +kernel
theorem fe_L_law_787 : mj_f mi_L_law 787 = some (.aload_n 0, 1, 0, 0, .null) := by decide +kernel
theorem fe_L_law_788 : mj_f mi_L_law 788 = some (.iload_n 3, 1, 3, 0, .null) := by decide +kernel
theorem fe_L_law_789 : mj_f mi_L_law 789 = some (.iconst 3, 1, 0, 0, .int (3)) := by decide +kernel
theorem fe_L_law_790 : mj_f mi_L_law 790 = some (.iadd, 1, 0, 0, .null) := by decide +kernel
theorem fe_L_law_791 : mj_f mi_L_law 791 = some (.iaload, 1, 0, 0, .null) := by decide +kernel
theorem fe_L_law_792 : mj_f mi_L_law 792 = some (.invokevirtual 76, 3, 234, 3, .null) := by decide +kernel
theorem fe_L_law_795 : mj_f mi_L_law 795 = some (.if_icmp .eq 456, 3, 1251, 0, .null) := by decide +kernel
theorem fe_L_law_798 : mj_f mi_L_law 798 = some (.iconst 0, 1, 0, 0, .int (0)) := by decide +kernel
theorem fe_L_law_799 : mj_f mi_L_law 799 = some (.ireturn, 1, 0, 0, .null) := by decide +kernel
theorem fe_L_law_800 : mj_f mi_L_law 800 = some (.aload_n 1, 1, 1, 0, .null) := by decide +kernel
theorem fe_L_law_801 : mj_f mi_L_law 801 = some (.aload_n 0, 1, 0, 0, .null) := by decide +kernel
theorem fe_L_law_802 : mj_f mi_L_law 802 = some (.iload_n 3, 1, 3, 0, .null) := by decide +kernel
theorem fe_L_law_803 : mj_f mi_L_law 803 = some (.iconst 1, 1, 0, 0, .int (1)) := by decide +kernel
theorem fe_L_law_804 : mj_f mi_L_law 804 = some (.iadd, 1, 0, 0, .null) := by decide +kernel
theorem fe_L_law_805 : mj_f mi_L_law 805 = some (.iaload, 1, 0, 0, .null) := by decide +kernel
theorem fe_L_law_806 : mj_f mi_L_law 806 = some (.aload_n 0, 1, 0, 0, .null) := by decide +kernel
theorem fe_L_law_807 : mj_f mi_L_law 807 = some (.iload_n 3, 1, 3, 0, .null) := by decide +kernel
theorem fe_L_law_808 : mj_f mi_L_law 808 = some (.iconst 2, 1, 0, 0, .int (2)) := by decide +kernel
theorem fe_L_law_809 : mj_f mi_L_law 809 = some (.iadd, 1, 0, 0, .null) := by decide +kernel
theorem fe_L_law_810 : mj_f mi_L_law 810 = some (.iaload, 1, 0, 0, .null) := by decide +kernel
theorem fe_L_law_811 : mj_f mi_L_law 811 = some (.aload_n 0, 1, 0, 0, .null) := by decide +kernel
theorem fe_L_law_812 : mj_f mi_L_law 812 = some (.iload_n 3, 1, 3, 0, .null) := by decide +kernel
theorem fe_L_law_813 : mj_f mi_L_law 813 = some (.iconst 3, 1, 0, 0, .int (3)) := by decide +kernel
theorem fe_L_law_814 : mj_f mi_L_law 814 = some (.iadd, 1, 0, 0, .null) := by decide +kernel
theorem fe_L_law_815 : mj_f mi_L_law 815 = some (.iaload, 1, 0, 0, .null) := by decide +kernel
theorem fe_L_law_816 : mj_f mi_L_law 816 = some (.invokevirtual 77, 3, 161, 3, .null) := by decide +kernel
theorem fe_L_law_819 : mj_f mi_L_law 819 = some (.aload_n 2, 1, 2, 0, .null) := by decide +kernel
theorem fe_L_law_820 : mj_f mi_L_law 820 = some (.aload_n 0, 1, 0, 0, .null) := by decide +kernel
theorem fe_L_law_821 : mj_f mi_L_law 821 = some (.iload_n 3, 1, 3, 0, .null) := by decide +kernel
theorem fe_L_law_822 : mj_f mi_L_law 822 = some (.iconst 1, 1, 0, 0, .int (1)) := by decide +kernel
theorem fe_L_law_823 : mj_f mi_L_law 823 = some (.iadd, 1, 0, 0, .null) := by decide +kernel
theorem fe_L_law_824 : mj_f mi_L_law 824 = some (.iaload, 1, 0, 0, .null) := by decide +kernel
theorem fe_L_law_825 : mj_f mi_L_law 825 = some (.aload_n 0, 1, 0, 0, .null) := by decide +kernel
theorem fe_L_law_826 : mj_f mi_L_law 826 = some (.iload_n 3, 1, 3, 0, .null) := by decide +kernel
theorem fe_L_law_827 : mj_f mi_L_law 827 = some (.iconst 2, 1, 0, 0, .int (2)) := by decide +kernel
theorem fe_L_law_828 : mj_f mi_L_law 828 = some (.iadd, 1, 0, 0, .null) := by decide +kernel
theorem fe_L_law_829 : mj_f mi_L_law 829 = some (.iaload, 1, 0, 0, .null) := by decide +kernel
theorem fe_L_law_830 : mj_f mi_L_law 830 = some (.aload_n 0, 1, 0, 0, .null) := by decide +kernel
theorem fe_L_law_831 : mj_f mi_L_law 831 = some (.iload_n 3, 1, 3, 0, .null) := by decide +kernel
theorem fe_L_law_832 : mj_f mi_L_law 832 = some (.iconst 3, 1, 0, 0, .int (3)) := by decide +kernel
theorem fe_L_law_833 : mj_f mi_L_law 833 = some (.iadd, 1, 0, 0, .null) := by decide +kernel
theorem fe_L_law_834 : mj_f mi_L_law 834 = some (.iaload, 1, 0, 0, .null) := by decide +kernel
theorem fe_L_law_835 : mj_f mi_L_law 835 = some (.invokevirtual 80, 3, 235, 3, .null) := by decide +kernel
theorem fe_L_law_838 : mj_f mi_L_law 838 = some (.if_icmp .eq 413, 3, 1251, 0, .null) := by decide +kernel
theorem fe_L_law_841 : mj_f mi_L_law 841 = some (.iconst 0, 1, 0, 0, .int (0)) := by decide +kernel
theorem fe_L_law_842 : mj_f mi_L_law 842 = some (.ireturn, 1, 0, 0, .null) := by decide +kernel
theorem fe_L_law_843 : mj_f mi_L_law 843 = some (.aload_n 1, 1, 1, 0, .null) := by decide +kernel
theorem fe_L_law_844 : mj_f mi_L_law 844 = some (.aload_n 0, 1, 0, 0, .null) := by decide +kernel
theorem fe_L_law_845 : mj_f mi_L_law 845 = some (.iload_n 3, 1, 3, 0, .null) := by decide +kernel
theorem fe_L_law_846 : mj_f mi_L_law 846 = some (.iconst 1, 1, 0, 0, .int (1)) := by decide +kernel
theorem fe_L_law_847 : mj_f mi_L_law 847 = some (.iadd, 1, 0, 0, .null) := by decide +kernel
theorem fe_L_law_848 : mj_f mi_L_law 848 = some (.iaload, 1, 0, 0, .null) := by decide +kernel
theorem fe_L_law_849 : mj_f mi_L_law 849 = some (.aload_n 0, 1, 0, 0, .null) := by decide +kernel
theorem fe_L_law_850 : mj_f mi_L_law 850 = some (.iload_n 3, 1, 3, 0, .null) := by decide +kernel
theorem fe_L_law_851 : mj_f mi_L_law 851 = some (.iconst 2, 1, 0, 0, .int (2)) := by decide +kernel
theorem fe_L_law_852 : mj_f mi_L_law 852 = some (.iadd, 1, 0, 0, .null) := by decide +kernel
theorem fe_L_law_853 : mj_f mi_L_law 853 = some (.iaload, 1, 0, 0, .null) := by decide +kernel
theorem fe_L_law_854 : mj_f mi_L_law 854 = some (.aload_n 0, 1, 0, 0, .null) := by decide +kernel
theorem fe_L_law_855 : mj_f mi_L_law 855 = some (.iload_n 3, 1, 3, 0, .null) := by decide +kernel
theorem fe_L_law_856 : mj_f mi_L_law 856 = some (.iconst 3, 1, 0, 0, .int (3)) := by decide +kernel
theorem fe_L_law_857 : mj_f mi_L_law 857 = some (.iadd, 1, 0, 0, .null) := by decide +kernel
theorem fe_L_law_858 : mj_f mi_L_law 858 = some (.iaload, 1, 0, 0, .null) := by decide +kernel
theorem fe_L_law_859 : mj_f mi_L_law 859 = some (.invokevirtual 81, 3, 162, 3, .null) := by decide +kernel
theorem fe_L_law_862 : mj_f mi_L_law 862 = some (.aload_n 2, 1, 2, 0, .null) := by decide +kernel
theorem fe_L_law_863 : mj_f mi_L_law 863 = some (.aload_n 0, 1, 0, 0, .null) := by decide +kernel
theorem fe_L_law_864 : mj_f mi_L_law 864 = some (.iload_n 3, 1, 3, 0, .null) := by decide +kernel
theorem fe_L_law_865 : mj_f mi_L_law 865 = some (.iconst 1, 1, 0, 0, .int (1)) := by decide +kernel
theorem fe_L_law_866 : mj_f mi_L_law 866 = some (.iadd, 1, 0, 0, .null) := by decide +kernel
theorem fe_L_law_867 : mj_f mi_L_law 867 = some (.iaload, 1, 0, 0, .null) := by decide +kernel
theorem fe_L_law_868 : mj_f mi_L_law 868 = some (.aload_n 0, 1, 0, 0, .null) := by decide +kernel
theorem fe_L_law_869 : mj_f mi_L_law 869 = some (.iload_n 3, 1, 3, 0, .null) := by decide +kernel
theorem fe_L_law_870 : mj_f mi_L_law 870 = some (.iconst 2, 1, 0, 0, .int (2)) := by decide +kernel
theorem fe_L_law_871 : mj_f mi_L_law 871 = some (.iadd, 1, 0, 0, .null) := by decide +kernel
theorem fe_L_law_872 : mj_f mi_L_law 872 = some (.iaload, 1, 0, 0, .null) := by decide +kernel
theorem fe_L_law_873 : mj_f mi_L_law 873 = some (.aload_n 0, 1, 0, 0, .null) := by decide +kernel
theorem fe_L_law_874 : mj_f mi_L_law 874 = some (.iload_n 3, 1, 3, 0, .null) := by decide +kernel
theorem fe_L_law_875 : mj_f mi_L_law 875 = some (.iconst 3, 1, 0, 0, .int (3)) := by decide +kernel
theorem fe_L_law_876 : mj_f mi_L_law 876 = some (.iadd, 1, 0, 0, .null) := by decide +kernel
theorem fe_L_law_877 : mj_f mi_L_law 877 = some (.iaload, 1, 0, 0, .null) := by decide +kernel
theorem fe_L_law_878 : mj_f mi_L_law 878 = some (.invokevirtual 84, 3, 236, 3, .null) := by decide +kernel
theorem fe_L_law_881 : mj_f mi_L_law 881 = some (.if_icmp .eq 370, 3, 1251, 0, .null) := by decide +kernel
theorem fe_L_law_884 : mj_f mi_L_law 884 = some (.iconst 0, 1, 0, 0, .int (0)) := by decide +kernel
theorem fe_L_law_885 : mj_f mi_L_law 885 = some (.ireturn, 1, 0, 0, .null) := by decide +kernel
theorem fe_L_law_886 : mj_f mi_L_law 886 = some (.aload_n 1, 1, 1, 0, .null) := by decide +kernel
theorem fe_L_law_887 : mj_f mi_L_law 887 = some (.aload_n 0, 1, 0, 0, .null) := by decide +kernel
theorem fe_L_law_888 : mj_f mi_L_law 888 = some (.iload_n 3, 1, 3, 0, .null) := by decide +kernel
theorem fe_L_law_889 : mj_f mi_L_law 889 = some (.iconst 1, 1, 0, 0, .int (1)) := by decide +kernel
theorem fe_L_law_890 : mj_f mi_L_law 890 = some (.iadd, 1, 0, 0, .null) := by decide +kernel
theorem fe_L_law_891 : mj_f mi_L_law 891 = some (.iaload, 1, 0, 0, .null) := by decide +kernel
theorem fe_L_law_892 : mj_f mi_L_law 892 = some (.aload_n 0, 1, 0, 0, .null) := by decide +kernel
theorem fe_L_law_893 : mj_f mi_L_law 893 = some (.iload_n 3, 1, 3, 0, .null) := by decide +kernel
theorem fe_L_law_894 : mj_f mi_L_law 894 = some (.iconst 2, 1, 0, 0, .int (2)) := by decide +kernel
theorem fe_L_law_895 : mj_f mi_L_law 895 = some (.iadd, 1, 0, 0, .null) := by decide +kernel
theorem fe_L_law_896 : mj_f mi_L_law 896 = some (.iaload, 1, 0, 0, .null) := by decide +kernel
theorem fe_L_law_897 : mj_f mi_L_law 897 = some (.invokevirtual 85, 3, 163, 2, .null) := by decide +kernel
theorem fe_L_law_900 : mj_f mi_L_law 900 = some (.aload_n 2, 1, 2, 0, .null) := by decide +kernel
theorem fe_L_law_901 : mj_f mi_L_law 901 = some (.aload_n 0, 1, 0, 0, .null) := by decide +kernel
theorem fe_L_law_902 : mj_f mi_L_law 902 = some (.iload_n 3, 1, 3, 0, .null) := by decide +kernel
theorem fe_L_law_903 : mj_f mi_L_law 903 = some (.iconst 1, 1, 0, 0, .int (1)) := by decide +kernel
theorem fe_L_law_904 : mj_f mi_L_law 904 = some (.iadd, 1, 0, 0, .null) := by decide +kernel
theorem fe_L_law_905 : mj_f mi_L_law 905 = some (.iaload, 1, 0, 0, .null) := by decide +kernel
theorem fe_L_law_906 : mj_f mi_L_law 906 = some (.aload_n 0, 1, 0, 0, .null) := by decide +kernel
theorem fe_L_law_907 : mj_f mi_L_law 907 = some (.iload_n 3, 1, 3, 0, .null) := by decide +kernel
theorem fe_L_law_908 : mj_f mi_L_law 908 = some (.iconst 2, 1, 0, 0, .int (2)) := by decide +kernel
theorem fe_L_law_909 : mj_f mi_L_law 909 = some (.iadd, 1, 0, 0, .null) := by decide +kernel
theorem fe_L_law_910 : mj_f mi_L_law 910 = some (.iaload, 1, 0, 0, .null) := by decide +kernel
theorem fe_L_law_911 : mj_f mi_L_law 911 = some (.invokevirtual 88, 3, 237, 2, .null) := by decide +kernel
theorem fe_L_law_914 : mj_f mi_L_law 914 = some (.if_icmp .eq 337, 3, 1251, 0, .null) := by decide +kernel
theorem fe_L_law_917 : mj_f mi_L_law 917 = some (.iconst 0, 1, 0, 0, .int (0)) := by decide +kernel
theorem fe_L_law_918 : mj_f mi_L_law 918 = some (.ireturn, 1, 0, 0, .null) := by decide +kernel
theorem fe_L_law_919 : mj_f mi_L_law 919 = some (.aload_n 1, 1, 1, 0, .null) := by decide +kernel
theorem fe_L_law_920 : mj_f mi_L_law 920 = some (.aload_n 0, 1, 0, 0, .null) := by decide +kernel
theorem fe_L_law_921 : mj_f mi_L_law 921 = some (.iload_n 3, 1, 3, 0, .null) := by decide +kernel
theorem fe_L_law_922 : mj_f mi_L_law 922 = some (.iconst 1, 1, 0, 0, .int (1)) := by decide +kernel
theorem fe_L_law_923 : mj_f mi_L_law 923 = some (.iadd, 1, 0, 0, .null) := by decide +kernel
theorem fe_L_law_924 : mj_f mi_L_law 924 = some (.iaload, 1, 0, 0, .null) := by decide +kernel
theorem fe_L_law_925 : mj_f mi_L_law 925 = some (.aload_n 0, 1, 0, 0, .null) := by decide +kernel
theorem fe_L_law_926 : mj_f mi_L_law 926 = some (.iload_n 3, 1, 3, 0, .null) := by decide +kernel
theorem fe_L_law_927 : mj_f mi_L_law 927 = some (.iconst 2, 1, 0, 0, .int (2)) := by decide +kernel
theorem fe_L_law_928 : mj_f mi_L_law 928 = some (.iadd, 1, 0, 0, .null) := by decide +kernel
theorem fe_L_law_929 : mj_f mi_L_law 929 = some (.iaload, 1, 0, 0, .null) := by decide +kernel
theorem fe_L_law_930 : mj_f mi_L_law 930 = some (.invokevirtual 89, 3, 164, 2, .null) := by decide +kernel
theorem fe_L_law_933 : mj_f mi_L_law 933 = some (.aload_n 2, 1, 2, 0, .null) := by decide +kernel
theorem fe_L_law_934 : mj_f mi_L_law 934 = some (.aload_n 0, 1, 0, 0, .null) := by decide +kernel
theorem fe_L_law_935 : mj_f mi_L_law 935 = some (.iload_n 3, 1, 3, 0, .null) := by decide +kernel
theorem fe_L_law_936 : mj_f mi_L_law 936 = some (.iconst 1, 1, 0, 0, .int (1)) := by decide +kernel
theorem fe_L_law_937 : mj_f mi_L_law 937 = some (.iadd, 1, 0, 0, .null) := by decide +kernel
theorem fe_L_law_938 : mj_f mi_L_law 938 = some (.iaload, 1, 0, 0, .null) := by decide +kernel
theorem fe_L_law_939 : mj_f mi_L_law 939 = some (.aload_n 0, 1, 0, 0, .null) := by decide +kernel
theorem fe_L_law_940 : mj_f mi_L_law 940 = some (.iload_n 3, 1, 3, 0, .null) := by decide +kernel
theorem fe_L_law_941 : mj_f mi_L_law 941 = some (.iconst 2, 1, 0, 0, .int (2)) := by decide +kernel
theorem fe_L_law_942 : mj_f mi_L_law 942 = some (.iadd, 1, 0, 0, .null) := by decide +kernel
theorem fe_L_law_943 : mj_f mi_L_law 943 = some (.iaload, 1, 0, 0, .null) := by decide +kernel
theorem fe_L_law_944 : mj_f mi_L_law 944 = some (.invokevirtual 92, 3, 238, 2, .null) := by decide +kernel
theorem fe_L_law_947 : mj_f mi_L_law 947 = some (.if_icmp .eq 304, 3, 1251, 0, .null) := by decide +kernel
theorem fe_L_law_950 : mj_f mi_L_law 950 = some (.iconst 0, 1, 0, 0, .int (0)) := by decide +kernel
theorem fe_L_law_951 : mj_f mi_L_law 951 = some (.ireturn, 1, 0, 0, .null) := by decide +kernel
theorem fe_L_law_952 : mj_f mi_L_law 952 = some (.aload_n 1, 1, 1, 0, .null) := by decide +kernel
theorem fe_L_law_953 : mj_f mi_L_law 953 = some (.aload_n 0, 1, 0, 0, .null) := by decide +kernel
theorem fe_L_law_954 : mj_f mi_L_law 954 = some (.iload_n 3, 1, 3, 0, .null) := by decide +kernel
theorem fe_L_law_955 : mj_f mi_L_law 955 = some (.iconst 1, 1, 0, 0, .int (1)) := by decide +kernel
theorem fe_L_law_956 : mj_f mi_L_law 956 = some (.iadd, 1, 0, 0, .null) := by decide +kernel
theorem fe_L_law_957 : mj_f mi_L_law 957 = some (.iaload, 1, 0, 0, .null) := by decide +kernel
theorem fe_L_law_958 : mj_f mi_L_law 958 = some (.aload_n 0, 1, 0, 0, .null) := by decide +kernel
theorem fe_L_law_959 : mj_f mi_L_law 959 = some (.iload_n 3, 1, 3, 0, .null) := by decide +kernel
theorem fe_L_law_960 : mj_f mi_L_law 960 = some (.iconst 2, 1, 0, 0, .int (2)) := by decide +kernel
theorem fe_L_law_961 : mj_f mi_L_law 961 = some (.iadd, 1, 0, 0, .null) := by decide +kernel
theorem fe_L_law_962 : mj_f mi_L_law 962 = some (.iaload, 1, 0, 0, .null) := by decide +kernel
theorem fe_L_law_963 : mj_f mi_L_law 963 = some (.i2l, 1, 0, 0, .null) := by decide +kernel
theorem fe_L_law_964 : mj_f mi_L_law 964 = some (.bipush 32, 2, 0, 0, .int (32)) := by decide +kernel
theorem fe_L_law_966 : mj_f mi_L_law 966 = some (.lshl, 1, 0, 0, .null) := by decide +kernel
theorem fe_L_law_967 : mj_f mi_L_law 967 = some (.aload_n 0, 1, 0, 0, .null) := by decide +kernel
theorem fe_L_law_968 : mj_f mi_L_law 968 = some (.iload_n 3, 1, 3, 0, .null) := by decide +kernel
theorem fe_L_law_969 : mj_f mi_L_law 969 = some (.iconst 3, 1, 0, 0, .int (3)) := by decide +kernel
theorem fe_L_law_970 : mj_f mi_L_law 970 = some (.iadd, 1, 0, 0, .null) := by decide +kernel
theorem fe_L_law_971 : mj_f mi_L_law 971 = some (.iaload, 1, 0, 0, .null) := by decide +kernel
theorem fe_L_law_972 : mj_f mi_L_law 972 = some (.i2l, 1, 0, 0, .null) := by decide +kernel
theorem fe_L_law_973 : mj_f mi_L_law 973 = some (.ldc2_w 28, 3, 0, 0, .long (4294967295)) := by decide +kernel
theorem fe_L_law_976 : mj_f mi_L_law 976 = some (.land, 1, 0, 0, .null) := by decide +kernel
theorem fe_L_law_977 : mj_f mi_L_law 977 = some (.lor, 1, 0, 0, .null) := by decide +kernel
theorem fe_L_law_978 : mj_f mi_L_law 978 = some (.aload_n 0, 1, 0, 0, .null) := by decide +kernel
theorem fe_L_law_979 : mj_f mi_L_law 979 = some (.iload_n 3, 1, 3, 0, .null) := by decide +kernel
theorem fe_L_law_980 : mj_f mi_L_law 980 = some (.iconst 4, 1, 0, 0, .int (4)) := by decide +kernel
theorem fe_L_law_981 : mj_f mi_L_law 981 = some (.iadd, 1, 0, 0, .null) := by decide +kernel
theorem fe_L_law_982 : mj_f mi_L_law 982 = some (.iaload, 1, 0, 0, .null) := by decide +kernel
theorem fe_L_law_983 : mj_f mi_L_law 983 = some (.i2l, 1, 0, 0, .null) := by decide +kernel
theorem fe_L_law_984 : mj_f mi_L_law 984 = some (.bipush 32, 2, 0, 0, .int (32)) := by decide +kernel
theorem fe_L_law_986 : mj_f mi_L_law 986 = some (.lshl, 1, 0, 0, .null) := by decide +kernel
theorem fe_L_law_987 : mj_f mi_L_law 987 = some (.aload_n 0, 1, 0, 0, .null) := by decide +kernel
theorem fe_L_law_988 : mj_f mi_L_law 988 = some (.iload_n 3, 1, 3, 0, .null) := by decide +kernel
theorem fe_L_law_989 : mj_f mi_L_law 989 = some (.iconst 5, 1, 0, 0, .int (5)) := by decide +kernel
theorem fe_L_law_990 : mj_f mi_L_law 990 = some (.iadd, 1, 0, 0, .null) := by decide +kernel
theorem fe_L_law_991 : mj_f mi_L_law 991 = some (.iaload, 1, 0, 0, .null) := by decide +kernel
theorem fe_L_law_992 : mj_f mi_L_law 992 = some (.i2l, 1, 0, 0, .null) := by decide +kernel
theorem fe_L_law_993 : mj_f mi_L_law 993 = some (.ldc2_w 28, 3, 0, 0, .long (4294967295)) := by decide +kernel
theorem fe_L_law_996 : mj_f mi_L_law 996 = some (.land, 1, 0, 0, .null) := by decide +kernel
theorem fe_L_law_997 : mj_f mi_L_law 997 = some (.lor, 1, 0, 0, .null) := by decide +kernel
theorem fe_L_law_998 : mj_f mi_L_law 998 = some (.invokevirtual 93, 3, 165, 3, .null) := by decide +kernel
theorem fe_L_law_1001 : mj_f mi_L_law 1001 = some (.aload_n 2, 1, 2, 0, .null) := by decide +kernel
theorem fe_L_law_1002 : mj_f mi_L_law 1002 = some (.aload_n 0, 1, 0, 0, .null) := by decide +kernel
theorem fe_L_law_1003 : mj_f mi_L_law 1003 = some (.iload_n 3, 1, 3, 0, .null) := by decide +kernel
theorem fe_L_law_1004 : mj_f mi_L_law 1004 = some (.iconst 1, 1, 0, 0, .int (1)) := by decide +kernel
theorem fe_L_law_1005 : mj_f mi_L_law 1005 = some (.iadd, 1, 0, 0, .null) := by decide +kernel
theorem fe_L_law_1006 : mj_f mi_L_law 1006 = some (.iaload, 1, 0, 0, .null) := by decide +kernel
theorem fe_L_law_1007 : mj_f mi_L_law 1007 = some (.aload_n 0, 1, 0, 0, .null) := by decide +kernel
theorem fe_L_law_1008 : mj_f mi_L_law 1008 = some (.iload_n 3, 1, 3, 0, .null) := by decide +kernel
theorem fe_L_law_1009 : mj_f mi_L_law 1009 = some (.iconst 2, 1, 0, 0, .int (2)) := by decide +kernel
theorem fe_L_law_1010 : mj_f mi_L_law 1010 = some (.iadd, 1, 0, 0, .null) := by decide +kernel
theorem fe_L_law_1011 : mj_f mi_L_law 1011 = some (.iaload, 1, 0, 0, .null) := by decide +kernel
theorem fe_L_law_1012 : mj_f mi_L_law 1012 = some (.i2l, 1, 0, 0, .null) := by decide +kernel
theorem fe_L_law_1013 : mj_f mi_L_law 1013 = some (.bipush 32, 2, 0, 0, .int (32)) := by decide +kernel
theorem fe_L_law_1015 : mj_f mi_L_law 1015 = some (.lshl, 1, 0, 0, .null) := by decide +kernel
theorem fe_L_law_1016 : mj_f mi_L_law 1016 = some (.aload_n 0, 1, 0, 0, .null) := by decide +kernel
theorem fe_L_law_1017 : mj_f mi_L_law 1017 = some (.iload_n 3, 1, 3, 0, .null) := by decide +kernel
theorem fe_L_law_1018 : mj_f mi_L_law 1018 = some (.iconst 3, 1, 0, 0, .int (3)) := by decide +kernel
theorem fe_L_law_1019 : mj_f mi_L_law 1019 = some (.iadd, 1, 0, 0, .null) := by decide +kernel
theorem fe_L_law_1020 : mj_f mi_L_law 1020 = some (.iaload, 1, 0, 0, .null) := by decide +kernel
theorem fe_L_law_1021 : mj_f mi_L_law 1021 = some (.i2l, 1, 0, 0, .null) := by decide +kernel
theorem fe_L_law_1022 : mj_f mi_L_law 1022 = some (.ldc2_w 28, 3, 0, 0, .long (4294967295)) := by decide +kernel
theorem fe_L_law_1025 : mj_f mi_L_law 1025 = some (.land, 1, 0, 0, .null) := by decide +kernel
theorem fe_L_law_1026 : mj_f mi_L_law 1026 = some (.lor, 1, 0, 0, .null) := by decide +kernel
theorem fe_L_law_1027 : mj_f mi_L_law 1027 = some (.aload_n 0, 1, 0, 0, .null) := by decide +kernel
theorem fe_L_law_1028 : mj_f mi_L_law 1028 = some (.iload_n 3, 1, 3, 0, .null) := by decide +kernel
theorem fe_L_law_1029 : mj_f mi_L_law 1029 = some (.iconst 4, 1, 0, 0, .int (4)) := by decide +kernel
theorem fe_L_law_1030 : mj_f mi_L_law 1030 = some (.iadd, 1, 0, 0, .null) := by decide +kernel
theorem fe_L_law_1031 : mj_f mi_L_law 1031 = some (.iaload, 1, 0, 0, .null) := by decide +kernel
theorem fe_L_law_1032 : mj_f mi_L_law 1032 = some (.i2l, 1, 0, 0, .null) := by decide +kernel
theorem fe_L_law_1033 : mj_f mi_L_law 1033 = some (.bipush 32, 2, 0, 0, .int (32)) := by decide +kernel
theorem fe_L_law_1035 : mj_f mi_L_law 1035 = some (.lshl, 1, 0, 0, .null) := by decide +kernel
theorem fe_L_law_1036 : mj_f mi_L_law 1036 = some (.aload_n 0, 1, 0, 0, .null) := by decide +kernel
theorem fe_L_law_1037 : mj_f mi_L_law 1037 = some (.iload_n 3, 1, 3, 0, .null) := by decide +kernel
theorem fe_L_law_1038 : mj_f mi_L_law 1038 = some (.iconst 5, 1, 0, 0, .int (5)) := by decide +kernel
theorem fe_L_law_1039 : mj_f mi_L_law 1039 = some (.iadd, 1, 0, 0, .null) := by decide +kernel
theorem fe_L_law_1040 : mj_f mi_L_law 1040 = some (.iaload, 1, 0, 0, .null) := by decide +kernel
theorem fe_L_law_1041 : mj_f mi_L_law 1041 = some (.i2l, 1, 0, 0, .null) := by decide +kernel
theorem fe_L_law_1042 : mj_f mi_L_law 1042 = some (.ldc2_w 28, 3, 0, 0, .long (4294967295)) := by decide +kernel
theorem fe_L_law_1045 : mj_f mi_L_law 1045 = some (.land, 1, 0, 0, .null) := by decide +kernel
theorem fe_L_law_1046 : mj_f mi_L_law 1046 = some (.lor, 1, 0, 0, .null) := by decide +kernel
theorem fe_L_law_1047 : mj_f mi_L_law 1047 = some (.invokevirtual 97, 3, 241, 3, .null) := by decide +kernel
theorem fe_L_law_1050 : mj_f mi_L_law 1050 = some (.if_icmp .eq 201, 3, 1251, 0, .null) := by decide +kernel
theorem fe_L_law_1053 : mj_f mi_L_law 1053 = some (.iconst 0, 1, 0, 0, .int (0)) := by decide +kernel
theorem fe_L_law_1054 : mj_f mi_L_law 1054 = some (.ireturn, 1, 0, 0, .null) := by decide +kernel
theorem fe_L_law_1055 : mj_f mi_L_law 1055 = some (.aload_n 1, 1, 1, 0, .null) := by decide +kernel
theorem fe_L_law_1056 : mj_f mi_L_law 1056 = some (.aload_n 0, 1, 0, 0, .null) := by decide +kernel
theorem fe_L_law_1057 : mj_f mi_L_law 1057 = some (.iload_n 3, 1, 3, 0, .null) := by decide +kernel
theorem fe_L_law_1058 : mj_f mi_L_law 1058 = some (.iconst 1, 1, 0, 0, .int (1)) := by decide +kernel
theorem fe_L_law_1059 : mj_f mi_L_law 1059 = some (.iadd, 1, 0, 0, .null) := by decide +kernel
theorem fe_L_law_1060 : mj_f mi_L_law 1060 = some (.iaload, 1, 0, 0, .null) := by decide +kernel
theorem fe_L_law_1061 : mj_f mi_L_law 1061 = some (.aload_n 0, 1, 0, 0, .null) := by decide +kernel
theorem fe_L_law_1062 : mj_f mi_L_law 1062 = some (.iload_n 3, 1, 3, 0, .null) := by decide +kernel
theorem fe_L_law_1063 : mj_f mi_L_law 1063 = some (.iconst 2, 1, 0, 0, .int (2)) := by decide +kernel
theorem fe_L_law_1064 : mj_f mi_L_law 1064 = some (.iadd, 1, 0, 0, .null) := by decide +kernel
theorem fe_L_law_1065 : mj_f mi_L_law 1065 = some (.iaload, 1, 0, 0, .null) := by decide +kernel
theorem fe_L_law_1066 : mj_f mi_L_law 1066 = some (.i2l, 1, 0, 0, .null) := by decide +kernel
theorem fe_L_law_1067 : mj_f mi_L_law 1067 = some (.bipush 32, 2, 0, 0, .int (32)) := by decide +kernel
theorem fe_L_law_1069 : mj_f mi_L_law 1069 = some (.lshl, 1, 0, 0, .null) := by decide +kernel
theorem fe_L_law_1070 : mj_f mi_L_law 1070 = some (.aload_n 0, 1, 0, 0, .null) := by decide +kernel
theorem fe_L_law_1071 : mj_f mi_L_law 1071 = some (.iload_n 3, 1, 3, 0, .null) := by decide +kernel
theorem fe_L_law_1072 : mj_f mi_L_law 1072 = some (.iconst 3, 1, 0, 0, .int (3)) := by decide +kernel
theorem fe_L_law_1073 : mj_f mi_L_law 1073 = some (.iadd, 1, 0, 0, .null) := by decide +kernel
theorem fe_L_law_1074 : mj_f mi_L_law 1074 = some (.iaload, 1, 0, 0, .null) := by decide +kernel
theorem fe_L_law_1075 : mj_f mi_L_law 1075 = some (.i2l, 1, 0, 0, .null) := by decide +kernel
theorem fe_L_law_1076 : mj_f mi_L_law 1076 = some (.ldc2_w 28, 3, 0, 0, .long (4294967295)) := by decide +kernel
theorem fe_L_law_1079 : mj_f mi_L_law 1079 = some (.land, 1, 0, 0, .null) := by decide +kernel
theorem fe_L_law_1080 : mj_f mi_L_law 1080 = some (.lor, 1, 0, 0, .null) := by decide +kernel
theorem fe_L_law_1081 : mj_f mi_L_law 1081 = some (.aload_n 0, 1, 0, 0, .null) := by decide +kernel
theorem fe_L_law_1082 : mj_f mi_L_law 1082 = some (.iload_n 3, 1, 3, 0, .null) := by decide +kernel
theorem fe_L_law_1083 : mj_f mi_L_law 1083 = some (.iconst 4, 1, 0, 0, .int (4)) := by decide +kernel
theorem fe_L_law_1084 : mj_f mi_L_law 1084 = some (.iadd, 1, 0, 0, .null) := by decide +kernel
theorem fe_L_law_1085 : mj_f mi_L_law 1085 = some (.iaload, 1, 0, 0, .null) := by decide +kernel
theorem fe_L_law_1086 : mj_f mi_L_law 1086 = some (.i2l, 1, 0, 0, .null) := by decide +kernel
theorem fe_L_law_1087 : mj_f mi_L_law 1087 = some (.bipush 32, 2, 0, 0, .int (32)) := by decide +kernel
theorem fe_L_law_1089 : mj_f mi_L_law 1089 = some (.lshl, 1, 0, 0, .null) := by decide +kernel
theorem fe_L_law_1090 : mj_f mi_L_law 1090 = some (.aload_n 0, 1, 0, 0, .null) := by decide +kernel
theorem fe_L_law_1091 : mj_f mi_L_law 1091 = some (.iload_n 3, 1, 3, 0, .null) := by decide +kernel
theorem fe_L_law_1092 : mj_f mi_L_law 1092 = some (.iconst 5, 1, 0, 0, .int (5)) := by decide +kernel
theorem fe_L_law_1093 : mj_f mi_L_law 1093 = some (.iadd, 1, 0, 0, .null) := by decide +kernel
theorem fe_L_law_1094 : mj_f mi_L_law 1094 = some (.iaload, 1, 0, 0, .null) := by decide +kernel
theorem fe_L_law_1095 : mj_f mi_L_law 1095 = some (.i2l, 1, 0, 0, .null) := by decide +kernel
theorem fe_L_law_1096 : mj_f mi_L_law 1096 = some (.ldc2_w 28, 3, 0, 0, .long (4294967295)) := by decide +kernel
theorem fe_L_law_1099 : mj_f mi_L_law 1099 = some (.land, 1, 0, 0, .null) := by decide +kernel
theorem fe_L_law_1100 : mj_f mi_L_law 1100 = some (.lor, 1, 0, 0, .null) := by decide +kernel
theorem fe_L_law_1101 : mj_f mi_L_law 1101 = some (.invokevirtual 98, 3, 166, 3, .null) := by decide +kernel
theorem fe_L_law_1104 : mj_f mi_L_law 1104 = some (.aload_n 2, 1, 2, 0, .null) := by decide +kernel
theorem fe_L_law_1105 : mj_f mi_L_law 1105 = some (.aload_n 0, 1, 0, 0, .null) := by decide +kernel
theorem fe_L_law_1106 : mj_f mi_L_law 1106 = some (.iload_n 3, 1, 3, 0, .null) := by decide +kernel
theorem fe_L_law_1107 : mj_f mi_L_law 1107 = some (.iconst 1, 1, 0, 0, .int (1)) := by decide +kernel
theorem fe_L_law_1108 : mj_f mi_L_law 1108 = some (.iadd, 1, 0, 0, .null) := by decide +kernel
theorem fe_L_law_1109 : mj_f mi_L_law 1109 = some (.iaload, 1, 0, 0, .null) := by decide +kernel
theorem fe_L_law_1110 : mj_f mi_L_law 1110 = some (.aload_n 0, 1, 0, 0, .null) := by decide +kernel
theorem fe_L_law_1111 : mj_f mi_L_law 1111 = some (.iload_n 3, 1, 3, 0, .null) := by decide +kernel
theorem fe_L_law_1112 : mj_f mi_L_law 1112 = some (.iconst 2, 1, 0, 0, .int (2)) := by decide +kernel
theorem fe_L_law_1113 : mj_f mi_L_law 1113 = some (.iadd, 1, 0, 0, .null) := by decide +kernel
theorem fe_L_law_1114 : mj_f mi_L_law 1114 = some (.iaload, 1, 0, 0, .null) := by decide +kernel
theorem fe_L_law_1115 : mj_f mi_L_law 1115 = some (.i2l, 1, 0, 0, .null) := by decide +kernel
theorem fe_L_law_1116 : mj_f mi_L_law 1116 = some (.bipush 32, 2, 0, 0, .int (32)) := by decide +kernel
theorem fe_L_law_1118 : mj_f mi_L_law 1118 = some (.lshl, 1, 0, 0, .null) := by decide +kernel
theorem fe_L_law_1119 : mj_f mi_L_law 1119 = some (.aload_n 0, 1, 0, 0, .null) := by decide +kernel
theorem fe_L_law_1120 : mj_f mi_L_law 1120 = some (.iload_n 3, 1, 3, 0, .null) := by decide +kernel
theorem fe_L_law_1121 : mj_f mi_L_law 1121 = some (.iconst 3, 1, 0, 0, .int (3)) := by decide +kernel
theorem fe_L_law_1122 : mj_f mi_L_law 1122 = some (.iadd, 1, 0, 0, .null) := by decide +kernel
theorem fe_L_law_1123 : mj_f mi_L_law 1123 = some (.iaload, 1, 0, 0, .null) := by decide +kernel
theorem fe_L_law_1124 : mj_f mi_L_law 1124 = some (.i2l, 1, 0, 0, .null) := by decide +kernel
theorem fe_L_law_1125 : mj_f mi_L_law 1125 = some (.ldc2_w 28, 3, 0, 0, .long (4294967295)) := by decide +kernel
theorem fe_L_law_1128 : mj_f mi_L_law 1128 = some (.land, 1, 0, 0, .null) := by decide +kernel
theorem fe_L_law_1129 : mj_f mi_L_law 1129 = some (.lor, 1, 0, 0, .null) := by decide +kernel
theorem fe_L_law_1130 : mj_f mi_L_law 1130 = some (.aload_n 0, 1, 0, 0, .null) := by decide +kernel
theorem fe_L_law_1131 : mj_f mi_L_law 1131 = some (.iload_n 3, 1, 3, 0, .null) := by decide +kernel
theorem fe_L_law_1132 : mj_f mi_L_law 1132 = some (.iconst 4, 1, 0, 0, .int (4)) := by decide +kernel
theorem fe_L_law_1133 : mj_f mi_L_law 1133 = some (.iadd, 1, 0, 0, .null) := by decide +kernel
theorem fe_L_law_1134 : mj_f mi_L_law 1134 = some (.iaload, 1, 0, 0, .null) := by decide +kernel
theorem fe_L_law_1135 : mj_f mi_L_law 1135 = some (.i2l, 1, 0, 0, .null) := by decide +kernel
theorem fe_L_law_1136 : mj_f mi_L_law 1136 = some (.bipush 32, 2, 0, 0, .int (32)) := by decide +kernel
theorem fe_L_law_1138 : mj_f mi_L_law 1138 = some (.lshl, 1, 0, 0, .null) := by decide +kernel
theorem fe_L_law_1139 : mj_f mi_L_law 1139 = some (.aload_n 0, 1, 0, 0, .null) := by decide +kernel
theorem fe_L_law_1140 : mj_f mi_L_law 1140 = some (.iload_n 3, 1, 3, 0, .null) := by decide +kernel
theorem fe_L_law_1141 : mj_f mi_L_law 1141 = some (.iconst 5, 1, 0, 0, .int (5)) := by decide +kernel
theorem fe_L_law_1142 : mj_f mi_L_law 1142 = some (.iadd, 1, 0, 0, .null) := by decide +kernel
theorem fe_L_law_1143 : mj_f mi_L_law 1143 = some (.iaload, 1, 0, 0, .null) := by decide +kernel
theorem fe_L_law_1144 : mj_f mi_L_law 1144 = some (.i2l, 1, 0, 0, .null) := by decide +kernel
theorem fe_L_law_1145 : mj_f mi_L_law 1145 = some (.ldc2_w 28, 3, 0, 0, .long (4294967295)) := by decide +kernel
theorem fe_L_law_1148 : mj_f mi_L_law 1148 = some (.land, 1, 0, 0, .null) := by decide +kernel
theorem fe_L_law_1149 : mj_f mi_L_law 1149 = some (.lor, 1, 0, 0, .null) := by decide +kernel
theorem fe_L_law_1150 : mj_f mi_L_law 1150 = some (.invokevirtual 102, 3, 242, 3, .null) := by decide +kernel
theorem fe_L_law_1153 : mj_f mi_L_law 1153 = some (.lcmp, 1, 0, 0, .null) := by decide +kernel
theorem fe_L_law_1154 : mj_f mi_L_law 1154 = some (.ifCond .eq 97, 3, 1251, 0, .null) := by decide +kernel
theorem fe_L_law_1157 : mj_f mi_L_law 1157 = some (.iconst 0, 1, 0, 0, .int (0)) := by decide +kernel
theorem fe_L_law_1158 : mj_f mi_L_law 1158 = some (.ireturn, 1, 0, 0, .null) := by decide +kernel
theorem fe_L_law_1159 : mj_f mi_L_law 1159 = some (.aload_n 1, 1, 1, 0, .null) := by decide +kernel
theorem fe_L_law_1160 : mj_f mi_L_law 1160 = some (.invokevirtual 103, 3, 167, 0, .null) := by decide +kernel
theorem fe_L_law_1163 : mj_f mi_L_law 1163 = some (.aload_n 2, 1, 2, 0, .null) := by decide +kernel
theorem fe_L_law_1164 : mj_f mi_L_law 1164 = some (.invokevirtual 107, 3, 243, 0, .null) := by decide +kernel
theorem fe_L_law_1167 : mj_f mi_L_law 1167 = some (.if_icmp .eq 84, 3, 1251, 0, .null) := by decide +kernel
theorem fe_L_law_1170 : mj_f mi_L_law 1170 = some (.iconst 0, 1, 0, 0, .int (0)) := by decide +kernel
theorem fe_L_law_1171 : mj_f mi_L_law 1171 = some (.ireturn, 1, 0, 0, .null) := by decide +kernel
theorem fe_L_law_1172 : mj_f mi_L_law 1172 = some (.aload_n 1, 1, 1, 0, .null) := by decide +kernel
theorem fe_L_law_1173 : mj_f mi_L_law 1173 = some (.aload_n 0, 1, 0, 0, .null) := by decide +kernel
theorem fe_L_law_1174 : mj_f mi_L_law 1174 = some (.iload_n 3, 1, 3, 0, .null) := by decide +kernel
theorem fe_L_law_1175 : mj_f mi_L_law 1175 = some (.iconst 1, 1, 0, 0, .int (1)) := by decide +kernel
theorem fe_L_law_1176 : mj_f mi_L_law 1176 = some (.iadd, 1, 0, 0, .null) := by decide +kernel
theorem fe_L_law_1177 : mj_f mi_L_law 1177 = some (.iaload, 1, 0, 0, .null) := by decide +kernel
theorem fe_L_law_1178 : mj_f mi_L_law 1178 = some (.aload_n 0, 1, 0, 0, .null) := by decide +kernel
theorem fe_L_law_1179 : mj_f mi_L_law 1179 = some (.iload_n 3, 1, 3, 0, .null) := by decide +kernel
theorem fe_L_law_1180 : mj_f mi_L_law 1180 = some (.iconst 2, 1, 0, 0, .int (2)) := by decide +kernel
theorem fe_L_law_1181 : mj_f mi_L_law 1181 = some (.iadd, 1, 0, 0, .null) := by decide +kernel
theorem fe_L_law_1182 : mj_f mi_L_law 1182 = some (.iaload, 1, 0, 0, .null) := by decide +kernel
theorem fe_L_law_1183 : mj_f mi_L_law 1183 = some (.invokevirtual 108, 3, 168, 2, .null) := by decide +kernel
theorem fe_L_law_1186 : mj_f mi_L_law 1186 = some (.aload_n 2, 1, 2, 0, .null) := by decide +kernel
theorem fe_L_law_1187 : mj_f mi_L_law 1187 = some (.aload_n 0, 1, 0, 0, .null) := by decide +kernel
theorem fe_L_law_1188 : mj_f mi_L_law 1188 = some (.iload_n 3, 1, 3, 0, .null) := by decide +kernel
theorem fe_L_law_1189 : mj_f mi_L_law 1189 = some (.iconst 1, 1, 0, 0, .int (1)) := by decide +kernel
theorem fe_L_law_1190 : mj_f mi_L_law 1190 = some (.iadd, 1, 0, 0, .null) := by decide +kernel
theorem fe_L_law_1191 : mj_f mi_L_law 1191 = some (.iaload, 1, 0, 0, .null) := by decide +kernel
theorem fe_L_law_1192 : mj_f mi_L_law 1192 = some (.aload_n 0, 1, 0, 0, .null) := by decide +kernel
theorem fe_L_law_1193 : mj_f mi_L_law 1193 = some (.iload_n 3, 1, 3, 0, .null) := by decide +kernel
theorem fe_L_law_1194 : mj_f mi_L_law 1194 = some (.iconst 2, 1, 0, 0, .int (2)) := by decide +kernel
theorem fe_L_law_1195 : mj_f mi_L_law 1195 = some (.iadd, 1, 0, 0, .null) := by decide +kernel
theorem fe_L_law_1196 : mj_f mi_L_law 1196 = some (.iaload, 1, 0, 0, .null) := by decide +kernel
theorem fe_L_law_1197 : mj_f mi_L_law 1197 = some (.invokevirtual 111, 3, 244, 2, .null) := by decide +kernel
theorem fe_L_law_1200 : mj_f mi_L_law 1200 = some (.if_icmp .eq 51, 3, 1251, 0, .null) := by decide +kernel
theorem fe_L_law_1203 : mj_f mi_L_law 1203 = some (.iconst 0, 1, 0, 0, .int (0)) := by decide +kernel
theorem fe_L_law_1204 : mj_f mi_L_law 1204 = some (.ireturn, 1, 0, 0, .null) := by decide +kernel
theorem fe_L_law_1205 : mj_f mi_L_law 1205 = some (.aload_n 1, 1, 1, 0, .null) := by decide +kernel
theorem fe_L_law_1206 : mj_f mi_L_law 1206 = some (.aload_n 0, 1, 0, 0, .null) := by decide +kernel
theorem fe_L_law_1207 : mj_f mi_L_law 1207 = some (.iload_n 3, 1, 3, 0, .null) := by decide +kernel
theorem fe_L_law_1208 : mj_f mi_L_law 1208 = some (.iconst 1, 1, 0, 0, .int (1)) := by decide +kernel
theorem fe_L_law_1209 : mj_f mi_L_law 1209 = some (.iadd, 1, 0, 0, .null) := by decide +kernel
theorem fe_L_law_1210 : mj_f mi_L_law 1210 = some (.iaload, 1, 0, 0, .null) := by decide +kernel
theorem fe_L_law_1211 : mj_f mi_L_law 1211 = some (.invokevirtual 112, 3, 169, 1, .null) := by decide +kernel
theorem fe_L_law_1214 : mj_f mi_L_law 1214 = some (.aload_n 2, 1, 2, 0, .null) := by decide +kernel
theorem fe_L_law_1215 : mj_f mi_L_law 1215 = some (.aload_n 0, 1, 0, 0, .null) := by decide +kernel
theorem fe_L_law_1216 : mj_f mi_L_law 1216 = some (.iload_n 3, 1, 3, 0, .null) := by decide +kernel
theorem fe_L_law_1217 : mj_f mi_L_law 1217 = some (.iconst 1, 1, 0, 0, .int (1)) := by decide +kernel
theorem fe_L_law_1218 : mj_f mi_L_law 1218 = some (.iadd, 1, 0, 0, .null) := by decide +kernel
theorem fe_L_law_1219 : mj_f mi_L_law 1219 = some (.iaload, 1, 0, 0, .null) := by decide +kernel
theorem fe_L_law_1220 : mj_f mi_L_law 1220 = some (.invokevirtual 115, 3, 255, 1, .null) := by decide +kernel
theorem fe_L_law_1223 : mj_f mi_L_law 1223 = some (.if_icmp .eq 28, 3, 1251, 0, .null) := by decide +kernel
theorem fe_L_law_1226 : mj_f mi_L_law 1226 = some (.iconst 0, 1, 0, 0, .int (0)) := by decide +kernel
theorem fe_L_law_1227 : mj_f mi_L_law 1227 = some (.ireturn, 1, 0, 0, .null) := by decide +kernel
theorem fe_L_law_1228 : mj_f mi_L_law 1228 = some (.aload_n 1, 1, 1, 0, .null) := by decide +kernel
theorem fe_L_law_1229 : mj_f mi_L_law 1229 = some (.aload_n 0, 1, 0, 0, .null) := by decide +kernel
theorem fe_L_law_1230 : mj_f mi_L_law 1230 = some (.iload_n 3, 1, 3, 0, .null) := by decide +kernel
theorem fe_L_law_1231 : mj_f mi_L_law 1231 = some (.iconst 1, 1, 0, 0, .int (1)) := by decide +kernel
theorem fe_L_law_1232 : mj_f mi_L_law 1232 = some (.iadd, 1, 0, 0, .null) := by decide +kernel
theorem fe_L_law_1233 : mj_f mi_L_law 1233 = some (.iaload, 1, 0, 0, .null) := by decide +kernel
theorem fe_L_law_1234 : mj_f mi_L_law 1234 = some (.invokevirtual 116, 3, 170, 1, .null) := by decide +kernel
theorem fe_L_law_1237 : mj_f mi_L_law 1237 = some (.aload_n 2, 1, 2, 0, .null) := by decide +kernel
theorem fe_L_law_1238 : mj_f mi_L_law 1238 = some (.aload_n 0, 1, 0, 0, .null) := by decide +kernel
theorem fe_L_law_1239 : mj_f mi_L_law 1239 = some (.iload_n 3, 1, 3, 0, .null) := by decide +kernel
theorem fe_L_law_1240 : mj_f mi_L_law 1240 = some (.iconst 1, 1, 0, 0, .int (1)) := by decide +kernel
theorem fe_L_law_1241 : mj_f mi_L_law 1241 = some (.iadd, 1, 0, 0, .null) := by decide +kernel
theorem fe_L_law_1242 : mj_f mi_L_law 1242 = some (.iaload, 1, 0, 0, .null) := by decide +kernel
theorem fe_L_law_1243 : mj_f mi_L_law 1243 = some (.invokevirtual 119, 3, 256, 1, .null) := by decide +kernel
theorem fe_L_law_1246 : mj_f mi_L_law 1246 = some (.if_icmp .eq 5, 3, 1251, 0, .null) := by decide +kernel
theorem fe_L_law_1249 : mj_f mi_L_law 1249 = some (.iconst 0, 1, 0, 0, .int (0)) := by decide +kernel
theorem fe_L_law_1250 : mj_f mi_L_law 1250 = some (.ireturn, 1, 0, 0, .null) := by decide +kernel
theorem fe_L_law_1251 : mj_f mi_L_law 1251 = some (.iinc 3 11, 3, 3, 0, .int (11)) := by decide +kernel
theorem fe_L_law_1254 : mj_f mi_L_law 1254 = some (.goto (-1236), 3, 18, 0, .null) := by decide +kernel
theorem fe_L_law_1257 : mj_f mi_L_law 1257 = some (.iconst 1, 1, 0, 0, .int (1)) := by decide +kernel
theorem fe_L_law_1258 : mj_f mi_L_law 1258 = some (.ireturn, 1, 0, 0, .null) := by decide +kernel
def mj_list : List MI := [mi_X0_init, mi_X0_size, mi_X0_isGap, mi_X0_valueAt, mi_X0_empty, mi_X0_add, mi_X0_change, mi_X0_present, mi_X0_become, mi_X0_tellTo, mi_X1_init, mi_X1_size, mi_X1_cutTo, mi_X1_byteAt, mi_X1_put, mi_X1_putInt, mi_X1_putLong, mi_X1_putVarint, mi_X1_reserve, mi_X1_putBits, mi_X1_bitsAt, mi_X1_checkOf, mi_X1_become, mi_X2_init, mi_X2_size, mi_X2_holds, mi_X2_pieceTotal, mi_X2_holdsPiece, mi_X2_isOpen, mi_X2_rowsOf, mi_X2_pieceAt, mi_X2_choose, mi_X2_empty, mi_X2_blockOf, mi_X2_append, mi_X2_change, mi_X2_packAll, mi_X2_keep, mi_X2_gapTotal, mi_X2_byteTotal, mi_X2_survey, mi_X2_ask, mi_X3_init, mi_X3_size, mi_X3_bytesAt, mi_X3_workAt, mi_X3_pathAt, mi_X3_empty, mi_X3_offer, mi_X3_put, mi_X3_firstWithin, mi_X4_init, mi_X4_packInto, mi_X4_survey, mi_X4_bytesAround, mi_X4_explore, mi_X4_isWorthTurning, mi_X4_costOf, mi_X5_init, mi_X5_base, mi_X5_width, mi_X5_outside, mi_X5_size, mi_X5_fit, mi_X5_tryBase, mi_X5_keepIfBetter, mi_X5_covers, mi_X6_init, mi_X6_bytes, mi_X6_size, mi_X6_byteAt, mi_X6_changeTotal, mi_X6_pathWritten, mi_X6_workToRead, mi_X6_gapTotal, mi_X6_present, mi_X6_copyTo, mi_X6_describe, mi_X6_measure, mi_X6_note, mi_X6_changeIn, mi_X6_isApart, mi_X6_isWithin, mi_X7_init, mi_X7_kindOfFault, mi_X7_placeOfFault, mi_X7_pathRead, mi_X7_workRead, mi_X7_read, mi_X7_fail, mi_X7_byteWithin, mi_X7_readVarint, mi_X7_passLaying, mi_X7_readFrame, mi_X7_readHeads, mi_X7_readHead, mi_X7_readInnermost, mi_X7_readPlain, mi_X7_readNarrow, mi_X7_readPatched, mi_X7_undo, mi_X7_addSteps, mi_X7_multiply, mi_X7_spreadRuns, mi_X7_lookUp, mi_X7_readCheck, mi_X7_fill, mi_X8_init, mi_X8_size, mi_X8_valueAt, mi_X8_unlike, mi_X8_unlikeAt, mi_X8_timesOf, mi_X8_empty, mi_X8_add, mi_X8_put, mi_X8_gather, mi_X8_arrange, mi_X8_rankOf, mi_X8_insert, mi_X8_least, mi_X8_width, mi_X8_narrowLength, mi_X8_isRising, mi_X8_divisor, mi_X8_commonOf, mi_X8_becomeTurned, mi_X8_becomeShares, mi_X8_beginsRun, mi_X8_become, mi_X8_becomeLengths, mi_X9_init, mi_X9_found, mi_X9_total, mi_X9_unpacked, mi_X9_empty, mi_X9_add, mi_X9_noteUnpacked, mi_X10_init, mi_X10_write, mi_X10_putFrame, mi_X10_putHead, mi_X10_putInnermost, mi_X10_putPlain, mi_X10_putNarrow, mi_X10_putPatched, mi_X10_putRanks, mi_X11_init, mi_X11_feed, mi_X11_end, mi_X11_way, mi_X11_value, mi_X11_missing, mi_X11_sow, mi_X11_set, mi_X11_pack, mi_X11_clear, mi_X11_count, mi_X11_has, mi_X11_get, mi_X11_piece, mi_X11_at, mi_X11_code, mi_X11_front, mi_X11_pair, mi_X11_among, mi_X11_sum, mi_X11_looked, mi_X11_take, mi_X11_load, mi_X11_fault, mi_X11_columnOf, mi_X11_packedPiece, mi_X11_bitsOf, mi_X11_unsignedOf, mi_X11_signedOf, mi_X11_varintLength, mi_X11_layingLength, mi_X11_pathLength, mi_X11_turnAt, mi_X12_init, mi_X12_is, mi_X12_put, mi_X12_feed, mi_X12_end, mi_X12_turned, mi_X12_varint, mi_X12_bits, mi_X12_laying, mi_X12_at, mi_X12_turns, mi_X12_sorted, mi_X12_divides, mi_X12_beside, mi_X12_work, mi_X12_isIn, mi_X12_patches, mi_X12_least, mi_X12_wideOf, mi_X12_leaf, mi_X12_way, mi_X12_leaves, mi_X12_all, mi_X12_best, mi_X12_write, mi_X12_writeVarint, mi_X12_lay, mi_X12_ends, mi_X12_before, mi_X12_behind, mi_X12_writeLeaf, mi_X12_rowsOf, mi_X12_gathers, mi_X12_head, mi_X12_packs, mi_X12_keeps, mi_X12_isColumn, mi_X12_pieces, mi_X12_way_, mi_X12_more, mi_X12_value, mi_X12_missing, mi_X12_sow, mi_X12_isRow, mi_X12_changes, mi_X12_set, mi_X12_pack, mi_X12_clear, mi_X12_count, mi_X12_has, mi_X12_get, mi_X12_isPiece, mi_X12_isPacked, mi_X12_unpacks, mi_X12_piece, mi_X12_at_, mi_X12_code, mi_X12_front, mi_X12_pair, mi_X12_isLooked, mi_X12_looks, mi_X12_among, mi_X12_sum, mi_X12_looked, mi_X12_take, mi_X12_fails, mi_X12_readByte, mi_X12_readVarint, mi_X12_readTurned, mi_X12_readLaying, mi_X12_readWide, mi_X12_readLeaf, mi_X12_readBehind, mi_X12_readBefore, mi_X12_reads, mi_X12_load, mi_X12_fault, mi_J6_numberOfLeadingZeros_0f7a4, mi_J13_numberOfLeadingZeros_95d88, mi_J9_abs_067f4, mi_J9_max_7cf53, mi_J9_max_f86c9, mi_J9_min_7cf53, mi_J9_min_f86c9, mi_L_law]
def mj_tab (y : Nat) : MI := mj_list.getD y mi_X0_init
theorem mt_X0_init : mj_tab 0 = mi_X0_init := rfl
theorem mt_X0_size : mj_tab 1 = mi_X0_size := rfl
theorem mt_X0_isGap : mj_tab 2 = mi_X0_isGap := rfl
theorem mt_X0_valueAt : mj_tab 3 = mi_X0_valueAt := rfl
theorem mt_X0_empty : mj_tab 4 = mi_X0_empty := rfl
theorem mt_X0_add : mj_tab 5 = mi_X0_add := rfl
theorem mt_X0_change : mj_tab 6 = mi_X0_change := rfl
theorem mt_X0_present : mj_tab 7 = mi_X0_present := rfl
theorem mt_X0_become : mj_tab 8 = mi_X0_become := rfl
theorem mt_X0_tellTo : mj_tab 9 = mi_X0_tellTo := rfl
theorem mt_X1_init : mj_tab 10 = mi_X1_init := rfl
theorem mt_X1_size : mj_tab 11 = mi_X1_size := rfl
theorem mt_X1_cutTo : mj_tab 12 = mi_X1_cutTo := rfl
theorem mt_X1_byteAt : mj_tab 13 = mi_X1_byteAt := rfl
theorem mt_X1_put : mj_tab 14 = mi_X1_put := rfl
theorem mt_X1_putInt : mj_tab 15 = mi_X1_putInt := rfl
theorem mt_X1_putLong : mj_tab 16 = mi_X1_putLong := rfl
theorem mt_X1_putVarint : mj_tab 17 = mi_X1_putVarint := rfl
theorem mt_X1_reserve : mj_tab 18 = mi_X1_reserve := rfl
theorem mt_X1_putBits : mj_tab 19 = mi_X1_putBits := rfl
theorem mt_X1_bitsAt : mj_tab 20 = mi_X1_bitsAt := rfl
theorem mt_X1_checkOf : mj_tab 21 = mi_X1_checkOf := rfl
theorem mt_X1_become : mj_tab 22 = mi_X1_become := rfl
theorem mt_X2_init : mj_tab 23 = mi_X2_init := rfl
theorem mt_X2_size : mj_tab 24 = mi_X2_size := rfl
theorem mt_X2_holds : mj_tab 25 = mi_X2_holds := rfl
theorem mt_X2_pieceTotal : mj_tab 26 = mi_X2_pieceTotal := rfl
theorem mt_X2_holdsPiece : mj_tab 27 = mi_X2_holdsPiece := rfl
theorem mt_X2_isOpen : mj_tab 28 = mi_X2_isOpen := rfl
theorem mt_X2_rowsOf : mj_tab 29 = mi_X2_rowsOf := rfl
theorem mt_X2_pieceAt : mj_tab 30 = mi_X2_pieceAt := rfl
theorem mt_X2_choose : mj_tab 31 = mi_X2_choose := rfl
theorem mt_X2_empty : mj_tab 32 = mi_X2_empty := rfl
theorem mt_X2_blockOf : mj_tab 33 = mi_X2_blockOf := rfl
theorem mt_X2_append : mj_tab 34 = mi_X2_append := rfl
theorem mt_X2_change : mj_tab 35 = mi_X2_change := rfl
theorem mt_X2_packAll : mj_tab 36 = mi_X2_packAll := rfl
theorem mt_X2_keep : mj_tab 37 = mi_X2_keep := rfl
theorem mt_X2_gapTotal : mj_tab 38 = mi_X2_gapTotal := rfl
theorem mt_X2_byteTotal : mj_tab 39 = mi_X2_byteTotal := rfl
theorem mt_X2_survey : mj_tab 40 = mi_X2_survey := rfl
theorem mt_X2_ask : mj_tab 41 = mi_X2_ask := rfl
theorem mt_X3_init : mj_tab 42 = mi_X3_init := rfl
theorem mt_X3_size : mj_tab 43 = mi_X3_size := rfl
theorem mt_X3_bytesAt : mj_tab 44 = mi_X3_bytesAt := rfl
theorem mt_X3_workAt : mj_tab 45 = mi_X3_workAt := rfl
theorem mt_X3_pathAt : mj_tab 46 = mi_X3_pathAt := rfl
theorem mt_X3_empty : mj_tab 47 = mi_X3_empty := rfl
theorem mt_X3_offer : mj_tab 48 = mi_X3_offer := rfl
theorem mt_X3_put : mj_tab 49 = mi_X3_put := rfl
theorem mt_X3_firstWithin : mj_tab 50 = mi_X3_firstWithin := rfl
theorem mt_X4_init : mj_tab 51 = mi_X4_init := rfl
theorem mt_X4_packInto : mj_tab 52 = mi_X4_packInto := rfl
theorem mt_X4_survey : mj_tab 53 = mi_X4_survey := rfl
theorem mt_X4_bytesAround : mj_tab 54 = mi_X4_bytesAround := rfl
theorem mt_X4_explore : mj_tab 55 = mi_X4_explore := rfl
theorem mt_X4_isWorthTurning : mj_tab 56 = mi_X4_isWorthTurning := rfl
theorem mt_X4_costOf : mj_tab 57 = mi_X4_costOf := rfl
theorem mt_X5_init : mj_tab 58 = mi_X5_init := rfl
theorem mt_X5_base : mj_tab 59 = mi_X5_base := rfl
theorem mt_X5_width : mj_tab 60 = mi_X5_width := rfl
theorem mt_X5_outside : mj_tab 61 = mi_X5_outside := rfl
theorem mt_X5_size : mj_tab 62 = mi_X5_size := rfl
theorem mt_X5_fit : mj_tab 63 = mi_X5_fit := rfl
theorem mt_X5_tryBase : mj_tab 64 = mi_X5_tryBase := rfl
theorem mt_X5_keepIfBetter : mj_tab 65 = mi_X5_keepIfBetter := rfl
theorem mt_X5_covers : mj_tab 66 = mi_X5_covers := rfl
theorem mt_X6_init : mj_tab 67 = mi_X6_init := rfl
theorem mt_X6_bytes : mj_tab 68 = mi_X6_bytes := rfl
theorem mt_X6_size : mj_tab 69 = mi_X6_size := rfl
theorem mt_X6_byteAt : mj_tab 70 = mi_X6_byteAt := rfl
theorem mt_X6_changeTotal : mj_tab 71 = mi_X6_changeTotal := rfl
theorem mt_X6_pathWritten : mj_tab 72 = mi_X6_pathWritten := rfl
theorem mt_X6_workToRead : mj_tab 73 = mi_X6_workToRead := rfl
theorem mt_X6_gapTotal : mj_tab 74 = mi_X6_gapTotal := rfl
theorem mt_X6_present : mj_tab 75 = mi_X6_present := rfl
theorem mt_X6_copyTo : mj_tab 76 = mi_X6_copyTo := rfl
theorem mt_X6_describe : mj_tab 77 = mi_X6_describe := rfl
theorem mt_X6_measure : mj_tab 78 = mi_X6_measure := rfl
theorem mt_X6_note : mj_tab 79 = mi_X6_note := rfl
theorem mt_X6_changeIn : mj_tab 80 = mi_X6_changeIn := rfl
theorem mt_X6_isApart : mj_tab 81 = mi_X6_isApart := rfl
theorem mt_X6_isWithin : mj_tab 82 = mi_X6_isWithin := rfl
theorem mt_X7_init : mj_tab 83 = mi_X7_init := rfl
theorem mt_X7_kindOfFault : mj_tab 84 = mi_X7_kindOfFault := rfl
theorem mt_X7_placeOfFault : mj_tab 85 = mi_X7_placeOfFault := rfl
theorem mt_X7_pathRead : mj_tab 86 = mi_X7_pathRead := rfl
theorem mt_X7_workRead : mj_tab 87 = mi_X7_workRead := rfl
theorem mt_X7_read : mj_tab 88 = mi_X7_read := rfl
theorem mt_X7_fail : mj_tab 89 = mi_X7_fail := rfl
theorem mt_X7_byteWithin : mj_tab 90 = mi_X7_byteWithin := rfl
theorem mt_X7_readVarint : mj_tab 91 = mi_X7_readVarint := rfl
theorem mt_X7_passLaying : mj_tab 92 = mi_X7_passLaying := rfl
theorem mt_X7_readFrame : mj_tab 93 = mi_X7_readFrame := rfl
theorem mt_X7_readHeads : mj_tab 94 = mi_X7_readHeads := rfl
theorem mt_X7_readHead : mj_tab 95 = mi_X7_readHead := rfl
theorem mt_X7_readInnermost : mj_tab 96 = mi_X7_readInnermost := rfl
theorem mt_X7_readPlain : mj_tab 97 = mi_X7_readPlain := rfl
theorem mt_X7_readNarrow : mj_tab 98 = mi_X7_readNarrow := rfl
theorem mt_X7_readPatched : mj_tab 99 = mi_X7_readPatched := rfl
theorem mt_X7_undo : mj_tab 100 = mi_X7_undo := rfl
theorem mt_X7_addSteps : mj_tab 101 = mi_X7_addSteps := rfl
theorem mt_X7_multiply : mj_tab 102 = mi_X7_multiply := rfl
theorem mt_X7_spreadRuns : mj_tab 103 = mi_X7_spreadRuns := rfl
theorem mt_X7_lookUp : mj_tab 104 = mi_X7_lookUp := rfl
theorem mt_X7_readCheck : mj_tab 105 = mi_X7_readCheck := rfl
theorem mt_X7_fill : mj_tab 106 = mi_X7_fill := rfl
theorem mt_X8_init : mj_tab 107 = mi_X8_init := rfl
theorem mt_X8_size : mj_tab 108 = mi_X8_size := rfl
theorem mt_X8_valueAt : mj_tab 109 = mi_X8_valueAt := rfl
theorem mt_X8_unlike : mj_tab 110 = mi_X8_unlike := rfl
theorem mt_X8_unlikeAt : mj_tab 111 = mi_X8_unlikeAt := rfl
theorem mt_X8_timesOf : mj_tab 112 = mi_X8_timesOf := rfl
theorem mt_X8_empty : mj_tab 113 = mi_X8_empty := rfl
theorem mt_X8_add : mj_tab 114 = mi_X8_add := rfl
theorem mt_X8_put : mj_tab 115 = mi_X8_put := rfl
theorem mt_X8_gather : mj_tab 116 = mi_X8_gather := rfl
theorem mt_X8_arrange : mj_tab 117 = mi_X8_arrange := rfl
theorem mt_X8_rankOf : mj_tab 118 = mi_X8_rankOf := rfl
theorem mt_X8_insert : mj_tab 119 = mi_X8_insert := rfl
theorem mt_X8_least : mj_tab 120 = mi_X8_least := rfl
theorem mt_X8_width : mj_tab 121 = mi_X8_width := rfl
theorem mt_X8_narrowLength : mj_tab 122 = mi_X8_narrowLength := rfl
theorem mt_X8_isRising : mj_tab 123 = mi_X8_isRising := rfl
theorem mt_X8_divisor : mj_tab 124 = mi_X8_divisor := rfl
theorem mt_X8_commonOf : mj_tab 125 = mi_X8_commonOf := rfl
theorem mt_X8_becomeTurned : mj_tab 126 = mi_X8_becomeTurned := rfl
theorem mt_X8_becomeShares : mj_tab 127 = mi_X8_becomeShares := rfl
theorem mt_X8_beginsRun : mj_tab 128 = mi_X8_beginsRun := rfl
theorem mt_X8_become : mj_tab 129 = mi_X8_become := rfl
theorem mt_X8_becomeLengths : mj_tab 130 = mi_X8_becomeLengths := rfl
theorem mt_X9_init : mj_tab 131 = mi_X9_init := rfl
theorem mt_X9_found : mj_tab 132 = mi_X9_found := rfl
theorem mt_X9_total : mj_tab 133 = mi_X9_total := rfl
theorem mt_X9_unpacked : mj_tab 134 = mi_X9_unpacked := rfl
theorem mt_X9_empty : mj_tab 135 = mi_X9_empty := rfl
theorem mt_X9_add : mj_tab 136 = mi_X9_add := rfl
theorem mt_X9_noteUnpacked : mj_tab 137 = mi_X9_noteUnpacked := rfl
theorem mt_X10_init : mj_tab 138 = mi_X10_init := rfl
theorem mt_X10_write : mj_tab 139 = mi_X10_write := rfl
theorem mt_X10_putFrame : mj_tab 140 = mi_X10_putFrame := rfl
theorem mt_X10_putHead : mj_tab 141 = mi_X10_putHead := rfl
theorem mt_X10_putInnermost : mj_tab 142 = mi_X10_putInnermost := rfl
theorem mt_X10_putPlain : mj_tab 143 = mi_X10_putPlain := rfl
theorem mt_X10_putNarrow : mj_tab 144 = mi_X10_putNarrow := rfl
theorem mt_X10_putPatched : mj_tab 145 = mi_X10_putPatched := rfl
theorem mt_X10_putRanks : mj_tab 146 = mi_X10_putRanks := rfl
theorem mt_X11_init : mj_tab 147 = mi_X11_init := rfl
theorem mt_X11_feed : mj_tab 148 = mi_X11_feed := rfl
theorem mt_X11_end : mj_tab 149 = mi_X11_end := rfl
theorem mt_X11_way : mj_tab 150 = mi_X11_way := rfl
theorem mt_X11_value : mj_tab 151 = mi_X11_value := rfl
theorem mt_X11_missing : mj_tab 152 = mi_X11_missing := rfl
theorem mt_X11_sow : mj_tab 153 = mi_X11_sow := rfl
theorem mt_X11_set : mj_tab 154 = mi_X11_set := rfl
theorem mt_X11_pack : mj_tab 155 = mi_X11_pack := rfl
theorem mt_X11_clear : mj_tab 156 = mi_X11_clear := rfl
theorem mt_X11_count : mj_tab 157 = mi_X11_count := rfl
theorem mt_X11_has : mj_tab 158 = mi_X11_has := rfl
theorem mt_X11_get : mj_tab 159 = mi_X11_get := rfl
theorem mt_X11_piece : mj_tab 160 = mi_X11_piece := rfl
theorem mt_X11_at : mj_tab 161 = mi_X11_at := rfl
theorem mt_X11_code : mj_tab 162 = mi_X11_code := rfl
theorem mt_X11_front : mj_tab 163 = mi_X11_front := rfl
theorem mt_X11_pair : mj_tab 164 = mi_X11_pair := rfl
theorem mt_X11_among : mj_tab 165 = mi_X11_among := rfl
theorem mt_X11_sum : mj_tab 166 = mi_X11_sum := rfl
theorem mt_X11_looked : mj_tab 167 = mi_X11_looked := rfl
theorem mt_X11_take : mj_tab 168 = mi_X11_take := rfl
theorem mt_X11_load : mj_tab 169 = mi_X11_load := rfl
theorem mt_X11_fault : mj_tab 170 = mi_X11_fault := rfl
theorem mt_X11_columnOf : mj_tab 171 = mi_X11_columnOf := rfl
theorem mt_X11_packedPiece : mj_tab 172 = mi_X11_packedPiece := rfl
theorem mt_X11_bitsOf : mj_tab 173 = mi_X11_bitsOf := rfl
theorem mt_X11_unsignedOf : mj_tab 174 = mi_X11_unsignedOf := rfl
theorem mt_X11_signedOf : mj_tab 175 = mi_X11_signedOf := rfl
theorem mt_X11_varintLength : mj_tab 176 = mi_X11_varintLength := rfl
theorem mt_X11_layingLength : mj_tab 177 = mi_X11_layingLength := rfl
theorem mt_X11_pathLength : mj_tab 178 = mi_X11_pathLength := rfl
theorem mt_X11_turnAt : mj_tab 179 = mi_X11_turnAt := rfl
theorem mt_X12_init : mj_tab 180 = mi_X12_init := rfl
theorem mt_X12_is : mj_tab 181 = mi_X12_is := rfl
theorem mt_X12_put : mj_tab 182 = mi_X12_put := rfl
theorem mt_X12_feed : mj_tab 183 = mi_X12_feed := rfl
theorem mt_X12_end : mj_tab 184 = mi_X12_end := rfl
theorem mt_X12_turned : mj_tab 185 = mi_X12_turned := rfl
theorem mt_X12_varint : mj_tab 186 = mi_X12_varint := rfl
theorem mt_X12_bits : mj_tab 187 = mi_X12_bits := rfl
theorem mt_X12_laying : mj_tab 188 = mi_X12_laying := rfl
theorem mt_X12_at : mj_tab 189 = mi_X12_at := rfl
theorem mt_X12_turns : mj_tab 190 = mi_X12_turns := rfl
theorem mt_X12_sorted : mj_tab 191 = mi_X12_sorted := rfl
theorem mt_X12_divides : mj_tab 192 = mi_X12_divides := rfl
theorem mt_X12_beside : mj_tab 193 = mi_X12_beside := rfl
theorem mt_X12_work : mj_tab 194 = mi_X12_work := rfl
theorem mt_X12_isIn : mj_tab 195 = mi_X12_isIn := rfl
theorem mt_X12_patches : mj_tab 196 = mi_X12_patches := rfl
theorem mt_X12_least : mj_tab 197 = mi_X12_least := rfl
theorem mt_X12_wideOf : mj_tab 198 = mi_X12_wideOf := rfl
theorem mt_X12_leaf : mj_tab 199 = mi_X12_leaf := rfl
theorem mt_X12_way : mj_tab 200 = mi_X12_way := rfl
theorem mt_X12_leaves : mj_tab 201 = mi_X12_leaves := rfl
theorem mt_X12_all : mj_tab 202 = mi_X12_all := rfl
theorem mt_X12_best : mj_tab 203 = mi_X12_best := rfl
theorem mt_X12_write : mj_tab 204 = mi_X12_write := rfl
theorem mt_X12_writeVarint : mj_tab 205 = mi_X12_writeVarint := rfl
theorem mt_X12_lay : mj_tab 206 = mi_X12_lay := rfl
theorem mt_X12_ends : mj_tab 207 = mi_X12_ends := rfl
theorem mt_X12_before : mj_tab 208 = mi_X12_before := rfl
theorem mt_X12_behind : mj_tab 209 = mi_X12_behind := rfl
theorem mt_X12_writeLeaf : mj_tab 210 = mi_X12_writeLeaf := rfl
theorem mt_X12_rowsOf : mj_tab 211 = mi_X12_rowsOf := rfl
theorem mt_X12_gathers : mj_tab 212 = mi_X12_gathers := rfl
theorem mt_X12_head : mj_tab 213 = mi_X12_head := rfl
theorem mt_X12_packs : mj_tab 214 = mi_X12_packs := rfl
theorem mt_X12_keeps : mj_tab 215 = mi_X12_keeps := rfl
theorem mt_X12_isColumn : mj_tab 216 = mi_X12_isColumn := rfl
theorem mt_X12_pieces : mj_tab 217 = mi_X12_pieces := rfl
theorem mt_X12_way_ : mj_tab 218 = mi_X12_way_ := rfl
theorem mt_X12_more : mj_tab 219 = mi_X12_more := rfl
theorem mt_X12_value : mj_tab 220 = mi_X12_value := rfl
theorem mt_X12_missing : mj_tab 221 = mi_X12_missing := rfl
theorem mt_X12_sow : mj_tab 222 = mi_X12_sow := rfl
theorem mt_X12_isRow : mj_tab 223 = mi_X12_isRow := rfl
theorem mt_X12_changes : mj_tab 224 = mi_X12_changes := rfl
theorem mt_X12_set : mj_tab 225 = mi_X12_set := rfl
theorem mt_X12_pack : mj_tab 226 = mi_X12_pack := rfl
theorem mt_X12_clear : mj_tab 227 = mi_X12_clear := rfl
theorem mt_X12_count : mj_tab 228 = mi_X12_count := rfl
theorem mt_X12_has : mj_tab 229 = mi_X12_has := rfl
theorem mt_X12_get : mj_tab 230 = mi_X12_get := rfl
theorem mt_X12_isPiece : mj_tab 231 = mi_X12_isPiece := rfl
theorem mt_X12_isPacked : mj_tab 232 = mi_X12_isPacked := rfl
theorem mt_X12_unpacks : mj_tab 233 = mi_X12_unpacks := rfl
theorem mt_X12_piece : mj_tab 234 = mi_X12_piece := rfl
theorem mt_X12_at_ : mj_tab 235 = mi_X12_at_ := rfl
theorem mt_X12_code : mj_tab 236 = mi_X12_code := rfl
theorem mt_X12_front : mj_tab 237 = mi_X12_front := rfl
theorem mt_X12_pair : mj_tab 238 = mi_X12_pair := rfl
theorem mt_X12_isLooked : mj_tab 239 = mi_X12_isLooked := rfl
theorem mt_X12_looks : mj_tab 240 = mi_X12_looks := rfl
theorem mt_X12_among : mj_tab 241 = mi_X12_among := rfl
theorem mt_X12_sum : mj_tab 242 = mi_X12_sum := rfl
theorem mt_X12_looked : mj_tab 243 = mi_X12_looked := rfl
theorem mt_X12_take : mj_tab 244 = mi_X12_take := rfl
theorem mt_X12_fails : mj_tab 245 = mi_X12_fails := rfl
theorem mt_X12_readByte : mj_tab 246 = mi_X12_readByte := rfl
theorem mt_X12_readVarint : mj_tab 247 = mi_X12_readVarint := rfl
theorem mt_X12_readTurned : mj_tab 248 = mi_X12_readTurned := rfl
theorem mt_X12_readLaying : mj_tab 249 = mi_X12_readLaying := rfl
theorem mt_X12_readWide : mj_tab 250 = mi_X12_readWide := rfl
theorem mt_X12_readLeaf : mj_tab 251 = mi_X12_readLeaf := rfl
theorem mt_X12_readBehind : mj_tab 252 = mi_X12_readBehind := rfl
theorem mt_X12_readBefore : mj_tab 253 = mi_X12_readBefore := rfl
theorem mt_X12_reads : mj_tab 254 = mi_X12_reads := rfl
theorem mt_X12_load : mj_tab 255 = mi_X12_load := rfl
theorem mt_X12_fault : mj_tab 256 = mi_X12_fault := rfl
theorem mt_J6_numberOfLeadingZeros_0f7a4 : mj_tab 257 = mi_J6_numberOfLeadingZeros_0f7a4 := rfl
theorem mt_J13_numberOfLeadingZeros_95d88 : mj_tab 258 = mi_J13_numberOfLeadingZeros_95d88 := rfl
theorem mt_J9_abs_067f4 : mj_tab 259 = mi_J9_abs_067f4 := rfl
theorem mt_J9_max_7cf53 : mj_tab 260 = mi_J9_max_7cf53 := rfl
theorem mt_J9_max_f86c9 : mj_tab 261 = mi_J9_max_f86c9 := rfl
theorem mt_J9_min_7cf53 : mj_tab 262 = mi_J9_min_7cf53 := rfl
theorem mt_J9_min_f86c9 : mj_tab 263 = mi_J9_min_f86c9 := rfl
theorem mt_L_law : mj_tab 264 = mi_L_law := rfl
