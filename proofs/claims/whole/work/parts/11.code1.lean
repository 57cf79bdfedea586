/-! code tables: a program wrote them -/
def ct_X4_init : MJT := [
  (0, 0, .aload_n 0, 1, 0, 0, .null),
  (1, 204, .invokespecial 3, 3, 1000, 0, .null),
  (4, 0, .aload_n 0, 1, 0, 0, .null),
  (5, 0, .iconst 3, 1, 0, 0, .int (3)),
  (6, 205, .anewarray 9, 3, 8, 0, .null),
  (9, 269, .putfield 11, 3, 4, 0, .null),
  (12, 0, .aload_n 0, 1, 0, 0, .null),
  (13, 205, .new 9, 3, 8, 0, .null),
  (16, 0, .dup, 1, 0, 0, .null),
  (17, 207, .invokespecial 17, 3, 107, 0, .int 1),
  (20, 270, .putfield 18, 3, 4, 1, .null),
  (23, 0, .aload_n 0, 1, 0, 0, .null),
  (24, 208, .new 22, 3, 5, 0, .null),
  (27, 0, .dup, 1, 0, 0, .null),
  (28, 210, .invokespecial 24, 3, 58, 0, .int 1),
  (31, 271, .putfield 25, 3, 4, 2, .null),
  (34, 0, .aload_n 0, 1, 0, 0, .null),
  (35, 230, .new 29, 3, 3, 0, .null),
  (38, 0, .dup, 1, 0, 0, .null),
  (39, 232, .invokespecial 31, 3, 42, 0, .int 1),
  (42, 272, .putfield 32, 3, 4, 3, .null),
  (45, 0, .aload_n 0, 1, 0, 0, .null),
  (46, 249, .new 36, 3, 10, 0, .null),
  (49, 0, .dup, 1, 0, 0, .null),
  (50, 251, .invokespecial 38, 3, 138, 0, .null),
  (53, 273, .putfield 39, 3, 4, 4, .null),
  (56, 0, .iconst 0, 1, 0, 0, .int (0)),
  (57, 0, .istore_n 1, 1, 1, 0, .null),
  (58, 0, .iload_n 1, 1, 1, 0, .null),
  (59, 0, .iconst 3, 1, 0, 0, .int (3)),
  (60, 0, .if_icmp .ge 22, 3, 82, 0, .null),
  (63, 0, .aload_n 0, 1, 0, 0, .null),
  (64, 269, .getfield 11, 3, 4, 0, .null),
  (67, 0, .iload_n 1, 1, 1, 0, .null),
  (68, 205, .new 9, 3, 8, 0, .null),
  (71, 0, .dup, 1, 0, 0, .null),
  (72, 207, .invokespecial 17, 3, 107, 0, .int 1),
  (75, 0, .aastore, 1, 0, 0, .null),
  (76, 0, .iinc 1 1, 3, 1, 0, .int (1)),
  (79, 0, .goto (-21), 3, 58, 0, .null),
  (82, 0, .return_, 1, 0, 0, .null)]
abbrev id_X4_init : Nat := 51
def mi_X4_init : MI := (yX4_init, cX4_init, 2, none, 4, ct_X4_init)
theorem fe_X4_init_0 : mj_f mi_X4_init 0 = some (.aload_n 0, 1, 0, 0, .null) := by decide +kernel
theorem fe_X4_init_1 : mj_f mi_X4_init 1 = some (.invokespecial 3, 3, 1000, 0, .null) := by decide +kernel
theorem fe_X4_init_4 : mj_f mi_X4_init 4 = some (.aload_n 0, 1, 0, 0, .null) := by decide +kernel
theorem fe_X4_init_5 : mj_f mi_X4_init 5 = some (.iconst 3, 1, 0, 0, .int (3)) := by decide +kernel
theorem fe_X4_init_6 : mj_f mi_X4_init 6 = some (.anewarray 9, 3, 8, 0, .null) := by decide +kernel
theorem fe_X4_init_9 : mj_f mi_X4_init 9 = some (.putfield 11, 3, 4, 0, .null) := by decide +kernel
theorem fe_X4_init_12 : mj_f mi_X4_init 12 = some (.aload_n 0, 1, 0, 0, .null) := by decide +kernel
theorem fe_X4_init_13 : mj_f mi_X4_init 13 = some (.new 9, 3, 8, 0, .null) := by decide +kernel
theorem fe_X4_init_16 : mj_f mi_X4_init 16 = some (.dup, 1, 0, 0, .null) := by decide +kernel
theorem fe_X4_init_17 : mj_f mi_X4_init 17 = some (.invokespecial 17, 3, 107, 0, .int 1) := by decide +kernel
theorem fe_X4_init_20 : mj_f mi_X4_init 20 = some (.putfield 18, 3, 4, 1, .null) := by decide +kernel
theorem fe_X4_init_23 : mj_f mi_X4_init 23 = some (.aload_n 0, 1, 0, 0, .null) := by decide +kernel
theorem fe_X4_init_24 : mj_f mi_X4_init 24 = some (.new 22, 3, 5, 0, .null) := by decide +kernel
theorem fe_X4_init_27 : mj_f mi_X4_init 27 = some (.dup, 1, 0, 0, .null) := by decide +kernel
theorem fe_X4_init_28 : mj_f mi_X4_init 28 = some (.invokespecial 24, 3, 58, 0, .int 1) := by decide +kernel
theorem fe_X4_init_31 : mj_f mi_X4_init 31 = some (.putfield 25, 3, 4, 2, .null) := by decide +kernel
theorem fe_X4_init_34 : mj_f mi_X4_init 34 = some (.aload_n 0, 1, 0, 0, .null) := by decide +kernel
theorem fe_X4_init_35 : mj_f mi_X4_init 35 = some (.new 29, 3, 3, 0, .null) := by decide +kernel
theorem fe_X4_init_38 : mj_f mi_X4_init 38 = some (.dup, 1, 0, 0, .null) := by decide +kernel
theorem fe_X4_init_39 : mj_f mi_X4_init 39 = some (.invokespecial 31, 3, 42, 0, .int 1) := by decide +kernel
theorem fe_X4_init_42 : mj_f mi_X4_init 42 = some (.putfield 32, 3, 4, 3, .null) := by decide +kernel
theorem fe_X4_init_45 : mj_f mi_X4_init 45 = some (.aload_n 0, 1, 0, 0, .null) := by decide +kernel
theorem fe_X4_init_46 : mj_f mi_X4_init 46 = some (.new 36, 3, 10, 0, .null) := by decide +kernel
theorem fe_X4_init_49 : mj_f mi_X4_init 49 = some (.dup, 1, 0, 0, .null) := by decide +kernel
theorem fe_X4_init_50 : mj_f mi_X4_init 50 = some (.invokespecial 38, 3, 138, 0, .null) := by decide +kernel
theorem fe_X4_init_53 : mj_f mi_X4_init 53 = some (.putfield 39, 3, 4, 4, .null) := by decide +kernel
theorem fe_X4_init_56 : mj_f mi_X4_init 56 = some (.iconst 0, 1, 0, 0, .int (0)) := by decide +kernel
theorem fe_X4_init_57 : mj_f mi_X4_init 57 = some (.istore_n 1, 1, 1, 0, .null) := by decide +kernel
theorem fe_X4_init_58 : mj_f mi_X4_init 58 = some (.iload_n 1, 1, 1, 0, .null) := by decide +kernel
theorem fe_X4_init_59 : mj_f mi_X4_init 59 = some (.iconst 3, 1, 0, 0, .int (3)) := by decide +kernel
theorem fe_X4_init_60 : mj_f mi_X4_init 60 = some (.if_icmp .ge 22, 3, 82, 0, .null) := by decide +kernel
theorem fe_X4_init_63 : mj_f mi_X4_init 63 = some (.aload_n 0, 1, 0, 0, .null) := by decide +kernel
theorem fe_X4_init_64 : mj_f mi_X4_init 64 = some (.getfield 11, 3, 4, 0, .null) := by decide +kernel
theorem fe_X4_init_67 : mj_f mi_X4_init 67 = some (.iload_n 1, 1, 1, 0, .null) := by decide +kernel
theorem fe_X4_init_68 : mj_f mi_X4_init 68 = some (.new 9, 3, 8, 0, .null) := by decide +kernel
theorem fe_X4_init_71 : mj_f mi_X4_init 71 = some (.dup, 1, 0, 0, .null) := by decide +kernel
theorem fe_X4_init_72 : mj_f mi_X4_init 72 = some (.invokespecial 17, 3, 107, 0, .int 1) := by decide +kernel
theorem fe_X4_init_75 : mj_f mi_X4_init 75 = some (.aastore, 1, 0, 0, .null) := by decide +kernel
theorem fe_X4_init_76 : mj_f mi_X4_init 76 = some (.iinc 1 1, 3, 1, 0, .int (1)) := by decide +kernel
theorem fe_X4_init_79 : mj_f mi_X4_init 79 = some (.goto (-21), 3, 58, 0, .null) := by decide +kernel
theorem fe_X4_init_82 : mj_f mi_X4_init 82 = some (.return_, 1, 0, 0, .null) := by decide +kernel
def ct_X4_packInto : MJT := [
  (0, 0, .aload_n 0, 1, 0, 0, .null),
  (1, 0, .aload_n 0, 1, 0, 0, .null),
  (2, 272, .getfield 32, 3, 4, 3, .null),
  (5, 0, .aload_n 2, 1, 2, 0, .null),
  (6, 0, .iload_n 3, 1, 3, 0, .null),
  (7, 674, .invokevirtual 43, 3, 53, 3, .null),
  (10, 0, .aload_n 0, 1, 0, 0, .null),
  (11, 272, .getfield 32, 3, 4, 3, .null),
  (14, 0, .iload 4, 2, 4, 0, .null),
  (16, 835, .invokevirtual 47, 3, 50, 1, .null),
  (19, 0, .istore 5, 2, 5, 0, .null),
  (21, 0, .aload_n 0, 1, 0, 0, .null),
  (22, 273, .getfield 39, 3, 4, 4, .null),
  (25, 0, .aload_n 2, 1, 2, 0, .null),
  (26, 0, .aload_n 0, 1, 0, 0, .null),
  (27, 272, .getfield 32, 3, 4, 3, .null),
  (30, 0, .iload 5, 2, 5, 0, .null),
  (32, 839, .invokevirtual 51, 3, 46, 1, .null),
  (35, 0, .aload_n 1, 1, 1, 0, .null),
  (36, 843, .invokevirtual 54, 3, 68, 0, .null),
  (39, 844, .invokevirtual 60, 3, 139, 3, .null),
  (42, 0, .aload_n 1, 1, 1, 0, .null),
  (43, 0, .aload_n 2, 1, 2, 0, .null),
  (44, 0, .aload_n 0, 1, 0, 0, .null),
  (45, 272, .getfield 32, 3, 4, 3, .null),
  (48, 0, .iload 5, 2, 5, 0, .null),
  (50, 839, .invokevirtual 51, 3, 46, 1, .null),
  (53, 0, .aload_n 0, 1, 0, 0, .null),
  (54, 272, .getfield 32, 3, 4, 3, .null),
  (57, 0, .iload 5, 2, 5, 0, .null),
  (59, 936, .invokevirtual 64, 3, 45, 1, .null),
  (62, 940, .invokevirtual 67, 3, 77, 3, .null),
  (65, 0, .return_, 1, 0, 0, .null)]
abbrev id_X4_packInto : Nat := 52
def mi_X4_packInto : MI := (yX4_packInto, cX4_packInto, 6, none, 4, ct_X4_packInto)
theorem fe_X4_packInto_0 : mj_f mi_X4_packInto 0 = some (.aload_n 0, 1, 0, 0, .null) := by decide +kernel
theorem fe_X4_packInto_1 : mj_f mi_X4_packInto 1 = some (.aload_n 0, 1, 0, 0, .null) := by decide +kernel
theorem fe_X4_packInto_2 : mj_f mi_X4_packInto 2 = some (.getfield 32, 3, 4, 3, .null) := by decide +kernel
theorem fe_X4_packInto_5 : mj_f mi_X4_packInto 5 = some (.aload_n 2, 1, 2, 0, .null) := by decide +kernel
theorem fe_X4_packInto_6 : mj_f mi_X4_packInto 6 = some (.iload_n 3, 1, 3, 0, .null) := by decide +kernel
theorem fe_X4_packInto_7 : mj_f mi_X4_packInto 7 = some (.invokevirtual 43, 3, 53, 3, .null) := by decide +kernel
theorem fe_X4_packInto_10 : mj_f mi_X4_packInto 10 = some (.aload_n 0, 1, 0, 0, .null) := by decide +kernel
theorem fe_X4_packInto_11 : mj_f mi_X4_packInto 11 = some (.getfield 32, 3, 4, 3, .null) := by decide +kernel
theorem fe_X4_packInto_14 : mj_f mi_X4_packInto 14 = some (.iload 4, 2, 4, 0, .null) := by decide +kernel
theorem fe_X4_packInto_16 : mj_f mi_X4_packInto 16 = some (.invokevirtual 47, 3, 50, 1, .null) := by decide +kernel
theorem fe_X4_packInto_19 : mj_f mi_X4_packInto 19 = some (.istore 5, 2, 5, 0, .null) := by decide +kernel
theorem fe_X4_packInto_21 : mj_f mi_X4_packInto 21 = some (.aload_n 0, 1, 0, 0, .null) := by decide +kernel
theorem fe_X4_packInto_22 : mj_f mi_X4_packInto 22 = some (.getfield 39, 3, 4, 4, .null) := by decide +kernel
theorem fe_X4_packInto_25 : mj_f mi_X4_packInto 25 = some (.aload_n 2, 1, 2, 0, .null) := by decide +kernel
theorem fe_X4_packInto_26 : mj_f mi_X4_packInto 26 = some (.aload_n 0, 1, 0, 0, .null) := by decide +kernel
theorem fe_X4_packInto_27 : mj_f mi_X4_packInto 27 = some (.getfield 32, 3, 4, 3, .null) := by decide +kernel
theorem fe_X4_packInto_30 : mj_f mi_X4_packInto 30 = some (.iload 5, 2, 5, 0, .null) := by decide +kernel
theorem fe_X4_packInto_32 : mj_f mi_X4_packInto 32 = some (.invokevirtual 51, 3, 46, 1, .null) := by decide +kernel
theorem fe_X4_packInto_35 : mj_f mi_X4_packInto 35 = some (.aload_n 1, 1, 1, 0, .null) := by decide +kernel
theorem fe_X4_packInto_36 : mj_f mi_X4_packInto 36 = some (.invokevirtual 54, 3, 68, 0, .null) := by decide +kernel
theorem fe_X4_packInto_39 : mj_f mi_X4_packInto 39 = some (.invokevirtual 60, 3, 139, 3, .null) := by decide +kernel
theorem fe_X4_packInto_42 : mj_f mi_X4_packInto 42 = some (.aload_n 1, 1, 1, 0, .null) := by decide +kernel
theorem fe_X4_packInto_43 : mj_f mi_X4_packInto 43 = some (.aload_n 2, 1, 2, 0, .null) := by decide +kernel
theorem fe_X4_packInto_44 : mj_f mi_X4_packInto 44 = some (.aload_n 0, 1, 0, 0, .null) := by decide +kernel
theorem fe_X4_packInto_45 : mj_f mi_X4_packInto 45 = some (.getfield 32, 3, 4, 3, .null) := by decide +kernel
theorem fe_X4_packInto_48 : mj_f mi_X4_packInto 48 = some (.iload 5, 2, 5, 0, .null) := by decide +kernel
theorem fe_X4_packInto_50 : mj_f mi_X4_packInto 50 = some (.invokevirtual 51, 3, 46, 1, .null) := by decide +kernel
theorem fe_X4_packInto_53 : mj_f mi_X4_packInto 53 = some (.aload_n 0, 1, 0, 0, .null) := by decide +kernel
theorem fe_X4_packInto_54 : mj_f mi_X4_packInto 54 = some (.getfield 32, 3, 4, 3, .null) := by decide +kernel
theorem fe_X4_packInto_57 : mj_f mi_X4_packInto 57 = some (.iload 5, 2, 5, 0, .null) := by decide +kernel
theorem fe_X4_packInto_59 : mj_f mi_X4_packInto 59 = some (.invokevirtual 64, 3, 45, 1, .null) := by decide +kernel
theorem fe_X4_packInto_62 : mj_f mi_X4_packInto 62 = some (.invokevirtual 67, 3, 77, 3, .null) := by decide +kernel
theorem fe_X4_packInto_65 : mj_f mi_X4_packInto 65 = some (.return_, 1, 0, 0, .null) := by decide +kernel
def ct_X4_survey : MJT := [
  (0, 0, .aload_n 1, 1, 1, 0, .null),
  (1, 678, .invokevirtual 71, 3, 47, 0, .null),
  (4, 0, .aload_n 0, 1, 0, 0, .null),
  (5, 269, .getfield 11, 3, 4, 0, .null),
  (8, 0, .iconst 0, 1, 0, 0, .int (0)),
  (9, 0, .aaload, 1, 0, 0, .null),
  (10, 0, .aload_n 2, 1, 2, 0, .null),
  (11, 682, .invokevirtual 74, 3, 116, 1, .null),
  (14, 0, .aload_n 0, 1, 0, 0, .null),
  (15, 0, .aload_n 1, 1, 1, 0, .null),
  (16, 0, .iconst 0, 1, 0, 0, .int (0)),
  (17, 0, .iload_n 3, 1, 3, 0, .null),
  (18, 0, .iconst 0, 1, 0, 0, .int (0)),
  (19, 0, .aload_n 0, 1, 0, 0, .null),
  (20, 0, .aload_n 2, 1, 2, 0, .null),
  (21, 689, .invokevirtual 78, 3, 54, 1, .null),
  (24, 0, .iconst 0, 1, 0, 0, .int (0)),
  (25, 696, .invokevirtual 82, 3, 55, 6, .null),
  (28, 0, .return_, 1, 0, 0, .null)]
abbrev id_X4_survey : Nat := 53
def mi_X4_survey : MI := (yX4_survey, cX4_survey, 4, none, 4, ct_X4_survey)
theorem fe_X4_survey_0 : mj_f mi_X4_survey 0 = some (.aload_n 1, 1, 1, 0, .null) := by decide +kernel
theorem fe_X4_survey_1 : mj_f mi_X4_survey 1 = some (.invokevirtual 71, 3, 47, 0, .null) := by decide +kernel
theorem fe_X4_survey_4 : mj_f mi_X4_survey 4 = some (.aload_n 0, 1, 0, 0, .null) := by decide +kernel
theorem fe_X4_survey_5 : mj_f mi_X4_survey 5 = some (.getfield 11, 3, 4, 0, .null) := by decide +kernel
theorem fe_X4_survey_8 : mj_f mi_X4_survey 8 = some (.iconst 0, 1, 0, 0, .int (0)) := by decide +kernel
theorem fe_X4_survey_9 : mj_f mi_X4_survey 9 = some (.aaload, 1, 0, 0, .null) := by decide +kernel
theorem fe_X4_survey_10 : mj_f mi_X4_survey 10 = some (.aload_n 2, 1, 2, 0, .null) := by decide +kernel
theorem fe_X4_survey_11 : mj_f mi_X4_survey 11 = some (.invokevirtual 74, 3, 116, 1, .null) := by decide +kernel
theorem fe_X4_survey_14 : mj_f mi_X4_survey 14 = some (.aload_n 0, 1, 0, 0, .null) := by decide +kernel
theorem fe_X4_survey_15 : mj_f mi_X4_survey 15 = some (.aload_n 1, 1, 1, 0, .null) := by decide +kernel
theorem fe_X4_survey_16 : mj_f mi_X4_survey 16 = some (.iconst 0, 1, 0, 0, .int (0)) := by decide +kernel
theorem fe_X4_survey_17 : mj_f mi_X4_survey 17 = some (.iload_n 3, 1, 3, 0, .null) := by decide +kernel
theorem fe_X4_survey_18 : mj_f mi_X4_survey 18 = some (.iconst 0, 1, 0, 0, .int (0)) := by decide +kernel
theorem fe_X4_survey_19 : mj_f mi_X4_survey 19 = some (.aload_n 0, 1, 0, 0, .null) := by decide +kernel
theorem fe_X4_survey_20 : mj_f mi_X4_survey 20 = some (.aload_n 2, 1, 2, 0, .null) := by decide +kernel
theorem fe_X4_survey_21 : mj_f mi_X4_survey 21 = some (.invokevirtual 78, 3, 54, 1, .null) := by decide +kernel
theorem fe_X4_survey_24 : mj_f mi_X4_survey 24 = some (.iconst 0, 1, 0, 0, .int (0)) := by decide +kernel
theorem fe_X4_survey_25 : mj_f mi_X4_survey 25 = some (.invokevirtual 82, 3, 55, 6, .null) := by decide +kernel
theorem fe_X4_survey_28 : mj_f mi_X4_survey 28 = some (.return_, 1, 0, 0, .null) := by decide +kernel
def ct_X4_bytesAround : MJT := [
  (0, 0, .iconst 4, 1, 0, 0, .int (4)),
  (1, 0, .aload_n 1, 1, 1, 0, .null),
  (2, 693, .invokevirtual 86, 3, 7, 0, .null),
  (5, 0, .aload_n 1, 1, 1, 0, .null),
  (6, 694, .invokevirtual 92, 3, 1, 0, .null),
  (9, 0, .if_icmp .ge 14, 3, 23, 0, .null),
  (12, 0, .aload_n 1, 1, 1, 0, .null),
  (13, 694, .invokevirtual 92, 3, 1, 0, .null),
  (16, 0, .iconst 1, 1, 0, 0, .int (1)),
  (17, 695, .invokestatic 95, 3, 177, 2, .int 1),
  (20, 0, .goto 4, 3, 24, 0, .null),
  (23, 0, .iconst 0, 1, 0, 0, .int (0)),
  (24, 0, .iadd, 1, 0, 0, .null),
  (25, 0, .ireturn, 1, 0, 0, .null)]
abbrev id_X4_bytesAround : Nat := 54
def mi_X4_bytesAround : MI := (yX4_bytesAround, cX4_bytesAround, 2, (some .int), 4, ct_X4_bytesAround)
theorem fe_X4_bytesAround_0 : mj_f mi_X4_bytesAround 0 = some (.iconst 4, 1, 0, 0, .int (4)) := by decide +kernel
theorem fe_X4_bytesAround_1 : mj_f mi_X4_bytesAround 1 = some (.aload_n 1, 1, 1, 0, .null) := by decide +kernel
theorem fe_X4_bytesAround_2 : mj_f mi_X4_bytesAround 2 = some (.invokevirtual 86, 3, 7, 0, .null) := by decide +kernel
theorem fe_X4_bytesAround_5 : mj_f mi_X4_bytesAround 5 = some (.aload_n 1, 1, 1, 0, .null) := by decide +kernel
theorem fe_X4_bytesAround_6 : mj_f mi_X4_bytesAround 6 = some (.invokevirtual 92, 3, 1, 0, .null) := by decide +kernel
theorem fe_X4_bytesAround_9 : mj_f mi_X4_bytesAround 9 = some (.if_icmp .ge 14, 3, 23, 0, .null) := by decide +kernel
theorem fe_X4_bytesAround_12 : mj_f mi_X4_bytesAround 12 = some (.aload_n 1, 1, 1, 0, .null) := by decide +kernel
theorem fe_X4_bytesAround_13 : mj_f mi_X4_bytesAround 13 = some (.invokevirtual 92, 3, 1, 0, .null) := by decide +kernel
theorem fe_X4_bytesAround_16 : mj_f mi_X4_bytesAround 16 = some (.iconst 1, 1, 0, 0, .int (1)) := by decide +kernel
theorem fe_X4_bytesAround_17 : mj_f mi_X4_bytesAround 17 = some (.invokestatic 95, 3, 177, 2, .int 1) := by decide +kernel
theorem fe_X4_bytesAround_20 : mj_f mi_X4_bytesAround 20 = some (.goto 4, 3, 24, 0, .null) := by decide +kernel
theorem fe_X4_bytesAround_23 : mj_f mi_X4_bytesAround 23 = some (.iconst 0, 1, 0, 0, .int (0)) := by decide +kernel
theorem fe_X4_bytesAround_24 : mj_f mi_X4_bytesAround 24 = some (.iadd, 1, 0, 0, .null) := by decide +kernel
theorem fe_X4_bytesAround_25 : mj_f mi_X4_bytesAround 25 = some (.ireturn, 1, 0, 0, .null) := by decide +kernel
def ct_X4_explore : MJT := [
  (0, 0, .iload_n 2, 1, 2, 0, .null),
  (1, 0, .ifCond .lt 8, 3, 9, 0, .null),
  (4, 0, .iload_n 2, 1, 2, 0, .null),
  (5, 0, .iconst 3, 1, 0, 0, .int (3)),
  (6, 0, .if_icmp .lt 4, 3, 10, 0, .null),
  (9, 0, .return_, 1, 0, 0, .null),
  (10, 0, .aload_n 0, 1, 0, 0, .null),
  (11, 269, .getfield 11, 3, 4, 0, .null),
  (14, 0, .iload_n 2, 1, 2, 0, .null),
  (15, 0, .aaload, 1, 0, 0, .null),
  (16, 0, .astore 7, 2, 7, 0, .null),
  (18, 0, .aload 7, 2, 7, 0, .null),
  (20, 700, .invokevirtual 99, 3, 108, 0, .null),
  (23, 0, .istore 8, 2, 8, 0, .null),
  (25, 0, .aload 7, 2, 7, 0, .null),
  (27, 701, .invokevirtual 100, 3, 117, 0, .null),
  (30, 0, .aload_n 1, 1, 1, 0, .null),
  (31, 0, .iload 5, 2, 5, 0, .null),
  (33, 0, .iconst 1, 1, 0, 0, .int (1)),
  (34, 0, .iadd, 1, 0, 0, .null),
  (35, 0, .bipush 8, 2, 0, 0, .int (8)),
  (37, 0, .iload 8, 2, 8, 0, .null),
  (39, 0, .imul, 1, 0, 0, .null),
  (40, 0, .iadd, 1, 0, 0, .null),
  (41, 0, .iload 6, 2, 6, 0, .null),
  (43, 0, .iload 8, 2, 8, 0, .null),
  (45, 0, .iadd, 1, 0, 0, .null),
  (46, 0, .iload 4, 2, 4, 0, .null),
  (48, 0, .bipush 8, 2, 0, 0, .int (8)),
  (50, 0, .imul, 1, 0, 0, .null),
  (51, 0, .iconst 0, 1, 0, 0, .int (0)),
  (52, 0, .iadd, 1, 0, 0, .null),
  (53, 720, .invokevirtual 103, 3, 48, 3, .null),
  (56, 0, .aload_n 1, 1, 1, 0, .null),
  (57, 0, .iload 5, 2, 5, 0, .null),
  (59, 0, .aload 7, 2, 7, 0, .null),
  (61, 729, .invokevirtual 107, 3, 122, 0, .null),
  (64, 0, .iadd, 1, 0, 0, .null),
  (65, 0, .iload 6, 2, 6, 0, .null),
  (67, 0, .iload 8, 2, 8, 0, .null),
  (69, 0, .iadd, 1, 0, 0, .null),
  (70, 0, .iload 4, 2, 4, 0, .null),
  (72, 0, .bipush 8, 2, 0, 0, .int (8)),
  (74, 0, .imul, 1, 0, 0, .null),
  (75, 0, .iconst 1, 1, 0, 0, .int (1)),
  (76, 0, .iadd, 1, 0, 0, .null),
  (77, 720, .invokevirtual 103, 3, 48, 3, .null),
  (80, 0, .iload 8, 2, 8, 0, .null),
  (82, 0, .ifCond .le 46, 3, 128, 0, .null),
  (85, 0, .aload_n 0, 1, 0, 0, .null),
  (86, 271, .getfield 25, 3, 4, 2, .null),
  (89, 0, .aload 7, 2, 7, 0, .null),
  (91, 755, .invokevirtual 110, 3, 63, 1, .null),
  (94, 0, .aload_n 1, 1, 1, 0, .null),
  (95, 0, .iload 5, 2, 5, 0, .null),
  (97, 0, .aload_n 0, 1, 0, 0, .null),
  (98, 271, .getfield 25, 3, 4, 2, .null),
  (101, 783, .invokevirtual 114, 3, 62, 0, .null),
  (104, 0, .iadd, 1, 0, 0, .null),
  (105, 0, .iload 6, 2, 6, 0, .null),
  (107, 0, .iload 8, 2, 8, 0, .null),
  (109, 0, .iadd, 1, 0, 0, .null),
  (110, 0, .aload_n 0, 1, 0, 0, .null),
  (111, 271, .getfield 25, 3, 4, 2, .null),
  (114, 787, .invokevirtual 115, 3, 61, 0, .null),
  (117, 0, .iadd, 1, 0, 0, .null),
  (118, 0, .iload 4, 2, 4, 0, .null),
  (120, 0, .bipush 8, 2, 0, 0, .int (8)),
  (122, 0, .imul, 1, 0, 0, .null),
  (123, 0, .iconst 2, 1, 0, 0, .int (2)),
  (124, 0, .iadd, 1, 0, 0, .null),
  (125, 720, .invokevirtual 103, 3, 48, 3, .null),
  (128, 0, .iload_n 2, 1, 2, 0, .null),
  (129, 0, .iload_n 3, 1, 3, 0, .null),
  (130, 0, .if_icmp .ge 10, 3, 140, 0, .null),
  (133, 0, .iload_n 2, 1, 2, 0, .null),
  (134, 0, .iconst 1, 1, 0, 0, .int (1)),
  (135, 0, .iadd, 1, 0, 0, .null),
  (136, 0, .iconst 3, 1, 0, 0, .int (3)),
  (137, 0, .if_icmp .lt 4, 3, 141, 0, .null),
  (140, 0, .return_, 1, 0, 0, .null),
  (141, 0, .aload_n 0, 1, 0, 0, .null),
  (142, 269, .getfield 11, 3, 4, 0, .null),
  (145, 0, .iload_n 2, 1, 2, 0, .null),
  (146, 0, .iconst 1, 1, 0, 0, .int (1)),
  (147, 0, .iadd, 1, 0, 0, .null),
  (148, 0, .aaload, 1, 0, 0, .null),
  (149, 0, .astore 9, 2, 9, 0, .null),
  (151, 0, .iconst 3, 1, 0, 0, .int (3)),
  (152, 0, .istore 10, 2, 10, 0, .null),
  (154, 0, .iload 10, 2, 10, 0, .null),
  (156, 0, .bipush 6, 2, 0, 0, .int (6)),
  (158, 0, .if_icmp .gt 84, 3, 242, 0, .null),
  (161, 0, .aload_n 0, 1, 0, 0, .null),
  (162, 0, .aload 7, 2, 7, 0, .null),
  (164, 0, .iload 10, 2, 10, 0, .null),
  (166, 791, .invokevirtual 118, 3, 56, 2, .null),
  (169, 0, .ifCond .eq 67, 3, 236, 0, .null),
  (172, 0, .aload 9, 2, 9, 0, .null),
  (174, 0, .aload 7, 2, 7, 0, .null),
  (176, 0, .iload 10, 2, 10, 0, .null),
  (178, 819, .invokevirtual 122, 3, 126, 2, .null),
  (181, 0, .iload 10, 2, 10, 0, .null),
  (183, 0, .iconst 4, 1, 0, 0, .int (4)),
  (184, 0, .if_icmp .ne 11, 3, 195, 0, .null),
  (187, 0, .aload 9, 2, 9, 0, .null),
  (189, 700, .invokevirtual 99, 3, 108, 0, .null),
  (192, 0, .goto 4, 3, 196, 0, .null),
  (195, 0, .iconst 0, 1, 0, 0, .int (0)),
  (196, 0, .istore 11, 2, 11, 0, .null),
  (198, 0, .aload_n 0, 1, 0, 0, .null),
  (199, 0, .aload_n 1, 1, 1, 0, .null),
  (200, 0, .iload_n 2, 1, 2, 0, .null),
  (201, 0, .iconst 1, 1, 0, 0, .int (1)),
  (202, 0, .iadd, 1, 0, 0, .null),
  (203, 0, .iload_n 3, 1, 3, 0, .null),
  (204, 0, .iload 4, 2, 4, 0, .null),
  (206, 0, .bipush 8, 2, 0, 0, .int (8)),
  (208, 0, .imul, 1, 0, 0, .null),
  (209, 0, .iload 10, 2, 10, 0, .null),
  (211, 0, .iadd, 1, 0, 0, .null),
  (212, 0, .iload 5, 2, 5, 0, .null),
  (214, 0, .aload_n 0, 1, 0, 0, .null),
  (215, 0, .aload 7, 2, 7, 0, .null),
  (217, 0, .aload 9, 2, 9, 0, .null),
  (219, 0, .iload 10, 2, 10, 0, .null),
  (221, 829, .invokevirtual 126, 3, 57, 3, .null),
  (224, 0, .iadd, 1, 0, 0, .null),
  (225, 0, .iload 6, 2, 6, 0, .null),
  (227, 0, .iload 8, 2, 8, 0, .null),
  (229, 0, .iadd, 1, 0, 0, .null),
  (230, 0, .iload 11, 2, 11, 0, .null),
  (232, 0, .iadd, 1, 0, 0, .null),
  (233, 696, .invokevirtual 82, 3, 55, 6, .null),
  (236, 0, .iinc 10 1, 3, 10, 0, .int (1)),
  (239, 0, .goto (-85), 3, 154, 0, .null),
  (242, 0, .return_, 1, 0, 0, .null)]
abbrev id_X4_explore : Nat := 55
def mi_X4_explore : MI := (yX4_explore, cX4_explore, 12, none, 4, ct_X4_explore)
theorem fe_X4_explore_0 : mj_f mi_X4_explore 0 = some (.iload_n 2, 1, 2, 0, .null) := by decide +kernel
theorem fe_X4_explore_1 : mj_f mi_X4_explore 1 = some (.ifCond .lt 8, 3, 9, 0, .null) := by decide +kernel
theorem fe_X4_explore_4 : mj_f mi_X4_explore 4 = some (.iload_n 2, 1, 2, 0, .null) := by decide +kernel
theorem fe_X4_explore_5 : mj_f mi_X4_explore 5 = some (.iconst 3, 1, 0, 0, .int (3)) := by decide +kernel
theorem fe_X4_explore_6 : mj_f mi_X4_explore 6 = some (.if_icmp .lt 4, 3, 10, 0, .null) := by decide +kernel
theorem fe_X4_explore_9 : mj_f mi_X4_explore 9 = some (.return_, 1, 0, 0, .null) := by decide +kernel
theorem fe_X4_explore_10 : mj_f mi_X4_explore 10 = some (.aload_n 0, 1, 0, 0, .null) := by decide +kernel
theorem fe_X4_explore_11 : mj_f mi_X4_explore 11 = some (.getfield 11, 3, 4, 0, .null) := by decide +kernel
theorem fe_X4_explore_14 : mj_f mi_X4_explore 14 = some (.iload_n 2, 1, 2, 0, .null) := by decide +kernel
theorem fe_X4_explore_15 : mj_f mi_X4_explore 15 = some (.aaload, 1, 0, 0, .null) := by decide +kernel
theorem fe_X4_explore_16 : mj_f mi_X4_explore 16 = some (.astore 7, 2, 7, 0, .null) := by decide +kernel
theorem fe_X4_explore_18 : mj_f mi_X4_explore 18 = some (.aload 7, 2, 7, 0, .null) := by decide +kernel
theorem fe_X4_explore_20 : mj_f mi_X4_explore 20 = some (.invokevirtual 99, 3, 108, 0, .null) := by decide +kernel
theorem fe_X4_explore_23 : mj_f mi_X4_explore 23 = some (.istore 8, 2, 8, 0, .null) := by decide +kernel
theorem fe_X4_explore_25 : mj_f mi_X4_explore 25 = some (.aload 7, 2, 7, 0, .null) := by decide +kernel
theorem fe_X4_explore_27 : mj_f mi_X4_explore 27 = some (.invokevirtual 100, 3, 117, 0, .null) := by decide +kernel
theorem fe_X4_explore_30 : mj_f mi_X4_explore 30 = some (.aload_n 1, 1, 1, 0, .null) := by decide +kernel
theorem fe_X4_explore_31 : mj_f mi_X4_explore 31 = some (.iload 5, 2, 5, 0, .null) := by decide +kernel
theorem fe_X4_explore_33 : mj_f mi_X4_explore 33 = some (.iconst 1, 1, 0, 0, .int (1)) := by decide +kernel
theorem fe_X4_explore_34 : mj_f mi_X4_explore 34 = some (.iadd, 1, 0, 0, .null) := by decide +kernel
theorem fe_X4_explore_35 : mj_f mi_X4_explore 35 = some (.bipush 8, 2, 0, 0, .int (8)) := by decide +kernel
theorem fe_X4_explore_37 : mj_f mi_X4_explore 37 = some (.iload 8, 2, 8, 0, .null) := by decide +kernel
theorem fe_X4_explore_39 : mj_f mi_X4_explore 39 = some (.imul, 1, 0, 0, .null) := by decide +kernel
theorem fe_X4_explore_40 : mj_f mi_X4_explore 40 = some (.iadd, 1, 0, 0, .null) := by decide +kernel
theorem fe_X4_explore_41 : mj_f mi_X4_explore 41 = some (.iload 6, 2, 6, 0, .null) := by decide +kernel
theorem fe_X4_explore_43 : mj_f mi_X4_explore 43 = some (.iload 8, 2, 8, 0, .null) := by decide +kernel
theorem fe_X4_explore_45 : mj_f mi_X4_explore 45 = some (.iadd, 1, 0, 0, .null) := by decide +kernel
theorem fe_X4_explore_46 : mj_f mi_X4_explore 46 = some (.iload 4, 2, 4, 0, .null) := by decide +kernel
theorem fe_X4_explore_48 : mj_f mi_X4_explore 48 = some (.bipush 8, 2, 0, 0, .int (8)) := by decide +kernel
theorem fe_X4_explore_50 : mj_f mi_X4_explore 50 = some (.imul, 1, 0, 0, .null) := by decide +kernel
theorem fe_X4_explore_51 : mj_f mi_X4_explore 51 = some (.iconst 0, 1, 0, 0, .int (0)) := by decide +kernel
theorem fe_X4_explore_52 : mj_f mi_X4_explore 52 = some (.iadd, 1, 0, 0, .null) := by decide +kernel
theorem fe_X4_explore_53 : mj_f mi_X4_explore 53 = some (.invokevirtual 103, 3, 48, 3, .null) := by decide +kernel
theorem fe_X4_explore_56 : mj_f mi_X4_explore 56 = some (.aload_n 1, 1, 1, 0, .null) := by decide +kernel
theorem fe_X4_explore_57 : mj_f mi_X4_explore 57 = some (.iload 5, 2, 5, 0, .null) := by decide +kernel
theorem fe_X4_explore_59 : mj_f mi_X4_explore 59 = some (.aload 7, 2, 7, 0, .null) := by decide +kernel
theorem fe_X4_explore_61 : mj_f mi_X4_explore 61 = some (.invokevirtual 107, 3, 122, 0, .null) := by decide +kernel
theorem fe_X4_explore_64 : mj_f mi_X4_explore 64 = some (.iadd, 1, 0, 0, .null) := by decide +kernel
theorem fe_X4_explore_65 : mj_f mi_X4_explore 65 = some (.iload 6, 2, 6, 0, .null) := by decide +kernel
theorem fe_X4_explore_67 : mj_f mi_X4_explore 67 = some (.iload 8, 2, 8, 0, .null) := by decide +kernel
theorem fe_X4_explore_69 : mj_f mi_X4_explore 69 = some (.iadd, 1, 0, 0, .null) := by decide +kernel
theorem fe_X4_explore_70 : mj_f mi_X4_explore 70 = some (.iload 4, 2, 4, 0, .null) := by decide +kernel
theorem fe_X4_explore_72 : mj_f mi_X4_explore 72 = some (.bipush 8, 2, 0, 0, .int (8)) := by decide +kernel
theorem fe_X4_explore_74 : mj_f mi_X4_explore 74 = some (.imul, 1, 0, 0, .null) := by decide +kernel
theorem fe_X4_explore_75 : mj_f mi_X4_explore 75 = some (.iconst 1, 1, 0, 0, .int (1)) := by decide +kernel
theorem fe_X4_explore_76 : mj_f mi_X4_explore 76 = some (.iadd, 1, 0, 0, .null) := by decide +kernel
theorem fe_X4_explore_77 : mj_f mi_X4_explore 77 = some (.invokevirtual 103, 3, 48, 3, .null) := by decide +kernel
theorem fe_X4_explore_80 : mj_f mi_X4_explore 80 = some (.iload 8, 2, 8, 0, .null) := by decide +kernel
theorem fe_X4_explore_82 : mj_f mi_X4_explore 82 = some (.ifCond .le 46, 3, 128, 0, .null) := by decide +kernel
theorem fe_X4_explore_85 : mj_f mi_X4_explore 85 = some (.aload_n 0, 1, 0, 0, .null) := by decide +kernel
theorem fe_X4_explore_86 : mj_f mi_X4_explore 86 = some (.getfield 25, 3, 4, 2, .null) := by decide +kernel
theorem fe_X4_explore_89 : mj_f mi_X4_explore 89 = some (.aload 7, 2, 7, 0, .null) := by decide +kernel
theorem fe_X4_explore_91 : mj_f mi_X4_explore 91 = some (.invokevirtual 110, 3, 63, 1, .null) := by decide +kernel
theorem fe_X4_explore_94 : mj_f mi_X4_explore 94 = some (.aload_n 1, 1, 1, 0, .null) := by decide +kernel
theorem fe_X4_explore_95 : mj_f mi_X4_explore 95 = some (.iload 5, 2, 5, 0, .null) := by decide +kernel
theorem fe_X4_explore_97 : mj_f mi_X4_explore 97 = some (.aload_n 0, 1, 0, 0, .null) := by decide +kernel
theorem fe_X4_explore_98 : mj_f mi_X4_explore 98 = some (.getfield 25, 3, 4, 2, .null) := by decide +kernel
theorem fe_X4_explore_101 : mj_f mi_X4_explore 101 = some (.invokevirtual 114, 3, 62, 0, .null) := by decide +kernel
theorem fe_X4_explore_104 : mj_f mi_X4_explore 104 = some (.iadd, 1, 0, 0, .null) := by decide +kernel
theorem fe_X4_explore_105 : mj_f mi_X4_explore 105 = some (.iload 6, 2, 6, 0, .null) := by decide +kernel
theorem fe_X4_explore_107 : mj_f mi_X4_explore 107 = some (.iload 8, 2, 8, 0, .null) := by decide +kernel
theorem fe_X4_explore_109 : mj_f mi_X4_explore 109 = some (.iadd, 1, 0, 0, .null) := by decide +kernel
theorem fe_X4_explore_110 : mj_f mi_X4_explore 110 = some (.aload_n 0, 1, 0, 0, .null) := by decide +kernel
theorem fe_X4_explore_111 : mj_f mi_X4_explore 111 = some (.getfield 25, 3, 4, 2, .null) := by decide +kernel
theorem fe_X4_explore_114 : mj_f mi_X4_explore 114 = some (.invokevirtual 115, 3, 61, 0, .null) := by decide +kernel
theorem fe_X4_explore_117 : mj_f mi_X4_explore 117 = some (.iadd, 1, 0, 0, .null) := by decide +kernel
theorem fe_X4_explore_118 : mj_f mi_X4_explore 118 = some (.iload 4, 2, 4, 0, .null) := by decide +kernel
theorem fe_X4_explore_120 : mj_f mi_X4_explore 120 = some (.bipush 8, 2, 0, 0, .int (8)) := by decide +kernel
theorem fe_X4_explore_122 : mj_f mi_X4_explore 122 = some (.imul, 1, 0, 0, .null) := by decide +kernel
theorem fe_X4_explore_123 : mj_f mi_X4_explore 123 = some (.iconst 2, 1, 0, 0, .int (2)) := by decide +kernel
theorem fe_X4_explore_124 : mj_f mi_X4_explore 124 = some (.iadd, 1, 0, 0, .null) := by decide +kernel
theorem fe_X4_explore_125 : mj_f mi_X4_explore 125 = some (.invokevirtual 103, 3, 48, 3, .null) := by decide +kernel
theorem fe_X4_explore_128 : mj_f mi_X4_explore 128 = some (.iload_n 2, 1, 2, 0, .null) := by decide +kernel
theorem fe_X4_explore_129 : mj_f mi_X4_explore 129 = some (.iload_n 3, 1, 3, 0, .null) := by decide +kernel
theorem fe_X4_explore_130 : mj_f mi_X4_explore 130 = some (.if_icmp .ge 10, 3, 140, 0, .null) := by decide +kernel
theorem fe_X4_explore_133 : mj_f mi_X4_explore 133 = some (.iload_n 2, 1, 2, 0, .null) := by decide +kernel
theorem fe_X4_explore_134 : mj_f mi_X4_explore 134 = some (.iconst 1, 1, 0, 0, .int (1)) := by decide +kernel
theorem fe_X4_explore_135 : mj_f mi_X4_explore 135 = some (.iadd, 1, 0, 0, .null) := by decide +kernel
theorem fe_X4_explore_136 : mj_f mi_X4_explore 136 = some (.iconst 3, 1, 0, 0, .int (3)) := by decide +kernel
theorem fe_X4_explore_137 : mj_f mi_X4_explore 137 = some (.if_icmp .lt 4, 3, 141, 0, .null) := by decide +kernel
theorem fe_X4_explore_140 : mj_f mi_X4_explore 140 = some (.return_, 1, 0, 0, .null) := by decide +kernel
theorem fe_X4_explore_141 : mj_f mi_X4_explore 141 = some (.aload_n 0, 1, 0, 0, .null) := by decide +kernel
theorem fe_X4_explore_142 : mj_f mi_X4_explore 142 = some (.getfield 11, 3, 4, 0, .null) := by decide +kernel
theorem fe_X4_explore_145 : mj_f mi_X4_explore 145 = some (.iload_n 2, 1, 2, 0, .null) := by decide +kernel
theorem fe_X4_explore_146 : mj_f mi_X4_explore 146 = some (.iconst 1, 1, 0, 0, .int (1)) := by decide +kernel
theorem fe_X4_explore_147 : mj_f mi_X4_explore 147 = some (.iadd, 1, 0, 0, .null) := by decide +kernel
theorem fe_X4_explore_148 : mj_f mi_X4_explore 148 = some (.aaload, 1, 0, 0, .null) := by decide +kernel
theorem fe_X4_explore_149 : mj_f mi_X4_explore 149 = some (.astore 9, 2, 9, 0, .null) := by decide +kernel
theorem fe_X4_explore_151 : mj_f mi_X4_explore 151 = some (.iconst 3, 1, 0, 0, .int (3)) := by decide +kernel
theorem fe_X4_explore_152 : mj_f mi_X4_explore 152 = some (.istore 10, 2, 10, 0, .null) := by decide +kernel
theorem fe_X4_explore_154 : mj_f mi_X4_explore 154 = some (.iload 10, 2, 10, 0, .null) := by decide +kernel
theorem fe_X4_explore_156 : mj_f mi_X4_explore 156 = some (.bipush 6, 2, 0, 0, .int (6)) := by decide +kernel
theorem fe_X4_explore_158 : mj_f mi_X4_explore 158 = some (.if_icmp .gt 84, 3, 242, 0, .null) := by decide +kernel
theorem fe_X4_explore_161 : mj_f mi_X4_explore 161 = some (.aload_n 0, 1, 0, 0, .null) := by decide +kernel
theorem fe_X4_explore_162 : mj_f mi_X4_explore 162 = some (.aload 7, 2, 7, 0, .null) := by decide +kernel
theorem fe_X4_explore_164 : mj_f mi_X4_explore 164 = some (.iload 10, 2, 10, 0, .null) := by decide +kernel
theorem fe_X4_explore_166 : mj_f mi_X4_explore 166 = some (.invokevirtual 118, 3, 56, 2, .null) := by decide +kernel
theorem fe_X4_explore_169 : mj_f mi_X4_explore 169 = some (.ifCond .eq 67, 3, 236, 0, .null) := by decide +kernel
theorem fe_X4_explore_172 : mj_f mi_X4_explore 172 = some (.aload 9, 2, 9, 0, .null) := by decide +kernel
theorem fe_X4_explore_174 : mj_f mi_X4_explore 174 = some (.aload 7, 2, 7, 0, .null) := by decide +kernel
theorem fe_X4_explore_176 : mj_f mi_X4_explore 176 = some (.iload 10, 2, 10, 0, .null) := by decide +kernel
theorem fe_X4_explore_178 : mj_f mi_X4_explore 178 = some (.invokevirtual 122, 3, 126, 2, .null) := by decide +kernel
theorem fe_X4_explore_181 : mj_f mi_X4_explore 181 = some (.iload 10, 2, 10, 0, .null) := by decide +kernel
theorem fe_X4_explore_183 : mj_f mi_X4_explore 183 = some (.iconst 4, 1, 0, 0, .int (4)) := by decide +kernel
theorem fe_X4_explore_184 : mj_f mi_X4_explore 184 = some (.if_icmp .ne 11, 3, 195, 0, .null) := by decide +kernel
theorem fe_X4_explore_187 : mj_f mi_X4_explore 187 = some (.aload 9, 2, 9, 0, .null) := by decide +kernel
theorem fe_X4_explore_189 : mj_f mi_X4_explore 189 = some (.invokevirtual 99, 3, 108, 0, .null) := by decide +kernel
theorem fe_X4_explore_192 : mj_f mi_X4_explore 192 = some (.goto 4, 3, 196, 0, .null) := by decide +kernel
theorem fe_X4_explore_195 : mj_f mi_X4_explore 195 = some (.iconst 0, 1, 0, 0, .int (0)) := by decide +kernel
theorem fe_X4_explore_196 : mj_f mi_X4_explore 196 = some (.istore 11, 2, 11, 0, .null) := by decide +kernel
theorem fe_X4_explore_198 : mj_f mi_X4_explore 198 = some (.aload_n 0, 1, 0, 0, .null) := by decide +kernel
theorem fe_X4_explore_199 : mj_f mi_X4_explore 199 = some (.aload_n 1, 1, 1, 0, .null) := by decide +kernel
theorem fe_X4_explore_200 : mj_f mi_X4_explore 200 = some (.iload_n 2, 1, 2, 0, .null) := by decide +kernel
theorem fe_X4_explore_201 : mj_f mi_X4_explore 201 = some (.iconst 1, 1, 0, 0, .int (1)) := by decide +kernel
theorem fe_X4_explore_202 : mj_f mi_X4_explore 202 = some (.iadd, 1, 0, 0, .null) := by decide +kernel
theorem fe_X4_explore_203 : mj_f mi_X4_explore 203 = some (.iload_n 3, 1, 3, 0, .null) := by decide +kernel
theorem fe_X4_explore_204 : mj_f mi_X4_explore 204 = some (.iload 4, 2, 4, 0, .null) := by decide +kernel
theorem fe_X4_explore_206 : mj_f mi_X4_explore 206 = some (.bipush 8, 2, 0, 0, .int (8)) := by decide +kernel
theorem fe_X4_explore_208 : mj_f mi_X4_explore 208 = some (.imul, 1, 0, 0, .null) := by decide +kernel
theorem fe_X4_explore_209 : mj_f mi_X4_explore 209 = some (.iload 10, 2, 10, 0, .null) := by decide +kernel
theorem fe_X4_explore_211 : mj_f mi_X4_explore 211 = some (.iadd, 1, 0, 0, .null) := by decide +kernel
theorem fe_X4_explore_212 : mj_f mi_X4_explore 212 = some (.iload 5, 2, 5, 0, .null) := by decide +kernel
theorem fe_X4_explore_214 : mj_f mi_X4_explore 214 = some (.aload_n 0, 1, 0, 0, .null) := by decide +kernel
theorem fe_X4_explore_215 : mj_f mi_X4_explore 215 = some (.aload 7, 2, 7, 0, .null) := by decide +kernel
theorem fe_X4_explore_217 : mj_f mi_X4_explore 217 = some (.aload 9, 2, 9, 0, .null) := by decide +kernel
theorem fe_X4_explore_219 : mj_f mi_X4_explore 219 = some (.iload 10, 2, 10, 0, .null) := by decide +kernel
theorem fe_X4_explore_221 : mj_f mi_X4_explore 221 = some (.invokevirtual 126, 3, 57, 3, .null) := by decide +kernel
theorem fe_X4_explore_224 : mj_f mi_X4_explore 224 = some (.iadd, 1, 0, 0, .null) := by decide +kernel
theorem fe_X4_explore_225 : mj_f mi_X4_explore 225 = some (.iload 6, 2, 6, 0, .null) := by decide +kernel
theorem fe_X4_explore_227 : mj_f mi_X4_explore 227 = some (.iload 8, 2, 8, 0, .null) := by decide +kernel
theorem fe_X4_explore_229 : mj_f mi_X4_explore 229 = some (.iadd, 1, 0, 0, .null) := by decide +kernel
theorem fe_X4_explore_230 : mj_f mi_X4_explore 230 = some (.iload 11, 2, 11, 0, .null) := by decide +kernel
theorem fe_X4_explore_232 : mj_f mi_X4_explore 232 = some (.iadd, 1, 0, 0, .null) := by decide +kernel
theorem fe_X4_explore_233 : mj_f mi_X4_explore 233 = some (.invokevirtual 82, 3, 55, 6, .null) := by decide +kernel
theorem fe_X4_explore_236 : mj_f mi_X4_explore 236 = some (.iinc 10 1, 3, 10, 0, .int (1)) := by decide +kernel
theorem fe_X4_explore_239 : mj_f mi_X4_explore 239 = some (.goto (-85), 3, 154, 0, .null) := by decide +kernel
theorem fe_X4_explore_242 : mj_f mi_X4_explore 242 = some (.return_, 1, 0, 0, .null) := by decide +kernel
def ct_X4_isWorthTurning : MJT := [
  (0, 0, .iload_n 2, 1, 2, 0, .null),
  (1, 0, .tableswitch 90 3 5 #[27, 41, 69], 27, 0, 0, .null),
  (28, 0, .aload_n 1, 1, 1, 0, .null),
  (29, 700, .invokevirtual 99, 3, 108, 0, .null),
  (32, 0, .iconst 1, 1, 0, 0, .int (1)),
  (33, 0, .if_icmp .le 7, 3, 40, 0, .null),
  (36, 0, .iconst 1, 1, 0, 0, .int (1)),
  (37, 0, .goto 4, 3, 41, 0, .null),
  (40, 0, .iconst 0, 1, 0, 0, .int (0)),
  (41, 0, .ireturn, 1, 0, 0, .null),
  (42, 0, .aload_n 0, 1, 0, 0, .null),
  (43, 270, .getfield 18, 3, 4, 1, .null),
  (46, 0, .aload_n 1, 1, 1, 0, .null),
  (47, 795, .invokevirtual 130, 3, 130, 1, .null),
  (50, 0, .aload_n 0, 1, 0, 0, .null),
  (51, 270, .getfield 18, 3, 4, 1, .null),
  (54, 700, .invokevirtual 99, 3, 108, 0, .null),
  (57, 0, .aload_n 1, 1, 1, 0, .null),
  (58, 700, .invokevirtual 99, 3, 108, 0, .null),
  (61, 0, .if_icmp .ge 7, 3, 68, 0, .null),
  (64, 0, .iconst 1, 1, 0, 0, .int (1)),
  (65, 0, .goto 4, 3, 69, 0, .null),
  (68, 0, .iconst 0, 1, 0, 0, .int (0)),
  (69, 0, .ireturn, 1, 0, 0, .null),
  (70, 0, .aload_n 1, 1, 1, 0, .null),
  (71, 700, .invokevirtual 99, 3, 108, 0, .null),
  (74, 0, .iconst 1, 1, 0, 0, .int (1)),
  (75, 0, .if_icmp .le 14, 3, 89, 0, .null),
  (78, 0, .aload_n 1, 1, 1, 0, .null),
  (79, 804, .invokevirtual 133, 3, 123, 0, .null),
  (82, 0, .ifCond .ne 7, 3, 89, 0, .null),
  (85, 0, .iconst 1, 1, 0, 0, .int (1)),
  (86, 0, .goto 4, 3, 90, 0, .null),
  (89, 0, .iconst 0, 1, 0, 0, .int (0)),
  (90, 0, .ireturn, 1, 0, 0, .null),
  (91, 0, .aload_n 1, 1, 1, 0, .null),
  (92, 808, .invokevirtual 137, 3, 124, 0, .null),
  (95, 0, .lconst 1, 1, 0, 0, .long 1),
  (96, 0, .lcmp, 1, 0, 0, .null),
  (97, 0, .ifCond .le 7, 3, 104, 0, .null),
  (100, 0, .iconst 1, 1, 0, 0, .int (1)),
  (101, 0, .goto 4, 3, 105, 0, .null),
  (104, 0, .iconst 0, 1, 0, 0, .int (0)),
  (105, 0, .ireturn, 1, 0, 0, .null)]
abbrev id_X4_isWorthTurning : Nat := 56
def mi_X4_isWorthTurning : MI := (yX4_isWorthTurning, cX4_isWorthTurning, 3, (some .boolean), 4, ct_X4_isWorthTurning)
theorem fe_X4_isWorthTurning_0 : mj_f mi_X4_isWorthTurning 0 = some (.iload_n 2, 1, 2, 0, .null) := by decide +kernel
theorem fe_X4_isWorthTurning_1 : mj_f mi_X4_isWorthTurning 1 = some (.tableswitch 90 3 5 #[27, 41, 69], 27, 0, 0, .null) := by decide +kernel
theorem fe_X4_isWorthTurning_28 : mj_f mi_X4_isWorthTurning 28 = some (.aload_n 1, 1, 1, 0, .null) := by decide +kernel
theorem fe_X4_isWorthTurning_29 : mj_f mi_X4_isWorthTurning 29 = some (.invokevirtual 99, 3, 108, 0, .null) := by decide +kernel
theorem fe_X4_isWorthTurning_32 : mj_f mi_X4_isWorthTurning 32 = some (.iconst 1, 1, 0, 0, .int (1)) := by decide +kernel
theorem fe_X4_isWorthTurning_33 : mj_f mi_X4_isWorthTurning 33 = some (.if_icmp .le 7, 3, 40, 0, .null) := by decide +kernel
theorem fe_X4_isWorthTurning_36 : mj_f mi_X4_isWorthTurning 36 = some (.iconst 1, 1, 0, 0, .int (1)) := by decide +kernel
theorem fe_X4_isWorthTurning_37 : mj_f mi_X4_isWorthTurning 37 = some (.goto 4, 3, 41, 0, .null) := by decide +kernel
theorem fe_X4_isWorthTurning_40 : mj_f mi_X4_isWorthTurning 40 = some (.iconst 0, 1, 0, 0, .int (0)) := by decide +kernel
theorem fe_X4_isWorthTurning_41 : mj_f mi_X4_isWorthTurning 41 = some (.ireturn, 1, 0, 0, .null) := by decide +kernel
theorem fe_X4_isWorthTurning_42 : mj_f mi_X4_isWorthTurning 42 = some (.aload_n 0, 1, 0, 0, .null) := by decide +kernel
theorem fe_X4_isWorthTurning_43 : mj_f mi_X4_isWorthTurning 43 = some (.getfield 18, 3, 4, 1, .null) := by decide +kernel
theorem fe_X4_isWorthTurning_46 : mj_f mi_X4_isWorthTurning 46 = some (.aload_n 1, 1, 1, 0, .null) := by decide +kernel
theorem fe_X4_isWorthTurning_47 : mj_f mi_X4_isWorthTurning 47 = some (.invokevirtual 130, 3, 130, 1, .null) := by decide +kernel
theorem fe_X4_isWorthTurning_50 : mj_f mi_X4_isWorthTurning 50 = some (.aload_n 0, 1, 0, 0, .null) := by decide +kernel
theorem fe_X4_isWorthTurning_51 : mj_f mi_X4_isWorthTurning 51 = some (.getfield 18, 3, 4, 1, .null) := by decide +kernel
theorem fe_X4_isWorthTurning_54 : mj_f mi_X4_isWorthTurning 54 = some (.invokevirtual 99, 3, 108, 0, .null) := by decide +kernel
theorem fe_X4_isWorthTurning_57 : mj_f mi_X4_isWorthTurning 57 = some (.aload_n 1, 1, 1, 0, .null) := by decide +kernel
theorem fe_X4_isWorthTurning_58 : mj_f mi_X4_isWorthTurning 58 = some (.invokevirtual 99, 3, 108, 0, .null) := by decide +kernel
theorem fe_X4_isWorthTurning_61 : mj_f mi_X4_isWorthTurning 61 = some (.if_icmp .ge 7, 3, 68, 0, .null) := by decide +kernel
theorem fe_X4_isWorthTurning_64 : mj_f mi_X4_isWorthTurning 64 = some (.iconst 1, 1, 0, 0, .int (1)) := by decide +kernel
theorem fe_X4_isWorthTurning_65 : mj_f mi_X4_isWorthTurning 65 = some (.goto 4, 3, 69, 0, .null) := by decide +kernel
theorem fe_X4_isWorthTurning_68 : mj_f mi_X4_isWorthTurning 68 = some (.iconst 0, 1, 0, 0, .int (0)) := by decide +kernel
theorem fe_X4_isWorthTurning_69 : mj_f mi_X4_isWorthTurning 69 = some (.ireturn, 1, 0, 0, .null) := by decide +kernel
theorem fe_X4_isWorthTurning_70 : mj_f mi_X4_isWorthTurning 70 = some (.aload_n 1, 1, 1, 0, .null) := by decide +kernel
theorem fe_X4_isWorthTurning_71 : mj_f mi_X4_isWorthTurning 71 = some (.invokevirtual 99, 3, 108, 0, .null) := by decide +kernel
theorem fe_X4_isWorthTurning_74 : mj_f mi_X4_isWorthTurning 74 = some (.iconst 1, 1, 0, 0, .int (1)) := by decide +kernel
theorem fe_X4_isWorthTurning_75 : mj_f mi_X4_isWorthTurning 75 = some (.if_icmp .le 14, 3, 89, 0, .null) := by decide +kernel
theorem fe_X4_isWorthTurning_78 : mj_f mi_X4_isWorthTurning 78 = some (.aload_n 1, 1, 1, 0, .null) := by decide +kernel
theorem fe_X4_isWorthTurning_79 : mj_f mi_X4_isWorthTurning 79 = some (.invokevirtual 133, 3, 123, 0, .null) := by decide +kernel
theorem fe_X4_isWorthTurning_82 : mj_f mi_X4_isWorthTurning 82 = some (.ifCond .ne 7, 3, 89, 0, .null) := by decide +kernel
theorem fe_X4_isWorthTurning_85 : mj_f mi_X4_isWorthTurning 85 = some (.iconst 1, 1, 0, 0, .int (1)) := by decide +kernel
theorem fe_X4_isWorthTurning_86 : mj_f mi_X4_isWorthTurning 86 = some (.goto 4, 3, 90, 0, .null) := by decide +kernel
theorem fe_X4_isWorthTurning_89 : mj_f mi_X4_isWorthTurning 89 = some (.iconst 0, 1, 0, 0, .int (0)) := by decide +kernel
theorem fe_X4_isWorthTurning_90 : mj_f mi_X4_isWorthTurning 90 = some (.ireturn, 1, 0, 0, .null) := by decide +kernel
theorem fe_X4_isWorthTurning_91 : mj_f mi_X4_isWorthTurning 91 = some (.aload_n 1, 1, 1, 0, .null) := by decide +kernel
theorem fe_X4_isWorthTurning_92 : mj_f mi_X4_isWorthTurning 92 = some (.invokevirtual 137, 3, 124, 0, .null) := by decide +kernel
theorem fe_X4_isWorthTurning_95 : mj_f mi_X4_isWorthTurning 95 = some (.lconst 1, 1, 0, 0, .long 1) := by decide +kernel
theorem fe_X4_isWorthTurning_96 : mj_f mi_X4_isWorthTurning 96 = some (.lcmp, 1, 0, 0, .null) := by decide +kernel
theorem fe_X4_isWorthTurning_97 : mj_f mi_X4_isWorthTurning 97 = some (.ifCond .le 7, 3, 104, 0, .null) := by decide +kernel
theorem fe_X4_isWorthTurning_100 : mj_f mi_X4_isWorthTurning 100 = some (.iconst 1, 1, 0, 0, .int (1)) := by decide +kernel
theorem fe_X4_isWorthTurning_101 : mj_f mi_X4_isWorthTurning 101 = some (.goto 4, 3, 105, 0, .null) := by decide +kernel
theorem fe_X4_isWorthTurning_104 : mj_f mi_X4_isWorthTurning 104 = some (.iconst 0, 1, 0, 0, .int (0)) := by decide +kernel
theorem fe_X4_isWorthTurning_105 : mj_f mi_X4_isWorthTurning 105 = some (.ireturn, 1, 0, 0, .null) := by decide +kernel
def ct_X4_costOf : MJT := [
  (0, 0, .iload_n 3, 1, 3, 0, .null),
  (1, 0, .tableswitch 59 3 5 #[27, 29, 39], 27, 0, 0, .null),
  (28, 0, .iconst 1, 1, 0, 0, .int (1)),
  (29, 0, .ireturn, 1, 0, 0, .null),
  (30, 0, .iconst 2, 1, 0, 0, .int (2)),
  (31, 0, .aload_n 0, 1, 0, 0, .null),
  (32, 270, .getfield 18, 3, 4, 1, .null),
  (35, 729, .invokevirtual 107, 3, 122, 0, .null),
  (38, 0, .iadd, 1, 0, 0, .null),
  (39, 0, .ireturn, 1, 0, 0, .null),
  (40, 0, .iconst 2, 1, 0, 0, .int (2)),
  (41, 0, .aload_n 1, 1, 1, 0, .null),
  (42, 700, .invokevirtual 99, 3, 108, 0, .null),
  (45, 0, .aload_n 2, 1, 2, 0, .null),
  (46, 700, .invokevirtual 99, 3, 108, 0, .null),
  (49, 0, .i2l, 1, 0, 0, .null),
  (50, 0, .lconst 1, 1, 0, 0, .long 1),
  (51, 0, .lsub, 1, 0, 0, .null),
  (52, 833, .invokestatic 141, 3, 173, 1, .int 1),
  (55, 695, .invokestatic 95, 3, 177, 2, .int 1),
  (58, 0, .iadd, 1, 0, 0, .null),
  (59, 0, .ireturn, 1, 0, 0, .null),
  (60, 0, .iconst 1, 1, 0, 0, .int (1)),
  (61, 0, .aload_n 1, 1, 1, 0, .null),
  (62, 808, .invokevirtual 137, 3, 124, 0, .null),
  (65, 834, .invokestatic 145, 3, 176, 1, .int 1),
  (68, 0, .iadd, 1, 0, 0, .null),
  (69, 0, .ireturn, 1, 0, 0, .null)]
abbrev id_X4_costOf : Nat := 57
def mi_X4_costOf : MI := (yX4_costOf, cX4_costOf, 4, (some .int), 4, ct_X4_costOf)
theorem fe_X4_costOf_0 : mj_f mi_X4_costOf 0 = some (.iload_n 3, 1, 3, 0, .null) := by decide +kernel
theorem fe_X4_costOf_1 : mj_f mi_X4_costOf 1 = some (.tableswitch 59 3 5 #[27, 29, 39], 27, 0, 0, .null) := by decide +kernel
theorem fe_X4_costOf_28 : mj_f mi_X4_costOf 28 = some (.iconst 1, 1, 0, 0, .int (1)) := by decide +kernel
theorem fe_X4_costOf_29 : mj_f mi_X4_costOf 29 = some (.ireturn, 1, 0, 0, .null) := by decide +kernel
theorem fe_X4_costOf_30 : mj_f mi_X4_costOf 30 = some (.iconst 2, 1, 0, 0, .int (2)) := by decide +kernel
theorem fe_X4_costOf_31 : mj_f mi_X4_costOf 31 = some (.aload_n 0, 1, 0, 0, .null) := by decide +kernel
theorem fe_X4_costOf_32 : mj_f mi_X4_costOf 32 = some (.getfield 18, 3, 4, 1, .null) := by decide +kernel
theorem fe_X4_costOf_35 : mj_f mi_X4_costOf 35 = some (.invokevirtual 107, 3, 122, 0, .null) := by decide +kernel
theorem fe_X4_costOf_38 : mj_f mi_X4_costOf 38 = some (.iadd, 1, 0, 0, .null) := by decide +kernel
theorem fe_X4_costOf_39 : mj_f mi_X4_costOf 39 = some (.ireturn, 1, 0, 0, .null) := by decide +kernel
theorem fe_X4_costOf_40 : mj_f mi_X4_costOf 40 = some (.iconst 2, 1, 0, 0, .int (2)) := by decide +kernel
theorem fe_X4_costOf_41 : mj_f mi_X4_costOf 41 = some (.aload_n 1, 1, 1, 0, .null) := by decide +kernel
theorem fe_X4_costOf_42 : mj_f mi_X4_costOf 42 = some (.invokevirtual 99, 3, 108, 0, .null) := by decide +kernel
theorem fe_X4_costOf_45 : mj_f mi_X4_costOf 45 = some (.aload_n 2, 1, 2, 0, .null) := by decide +kernel
theorem fe_X4_costOf_46 : mj_f mi_X4_costOf 46 = some (.invokevirtual 99, 3, 108, 0, .null) := by decide +kernel
theorem fe_X4_costOf_49 : mj_f mi_X4_costOf 49 = some (.i2l, 1, 0, 0, .null) := by decide +kernel
theorem fe_X4_costOf_50 : mj_f mi_X4_costOf 50 = some (.lconst 1, 1, 0, 0, .long 1) := by decide +kernel
theorem fe_X4_costOf_51 : mj_f mi_X4_costOf 51 = some (.lsub, 1, 0, 0, .null) := by decide +kernel
theorem fe_X4_costOf_52 : mj_f mi_X4_costOf 52 = some (.invokestatic 141, 3, 173, 1, .int 1) := by decide +kernel
theorem fe_X4_costOf_55 : mj_f mi_X4_costOf 55 = some (.invokestatic 95, 3, 177, 2, .int 1) := by decide +kernel
theorem fe_X4_costOf_58 : mj_f mi_X4_costOf 58 = some (.iadd, 1, 0, 0, .null) := by decide +kernel
theorem fe_X4_costOf_59 : mj_f mi_X4_costOf 59 = some (.ireturn, 1, 0, 0, .null) := by decide +kernel
theorem fe_X4_costOf_60 : mj_f mi_X4_costOf 60 = some (.iconst 1, 1, 0, 0, .int (1)) := by decide +kernel
theorem fe_X4_costOf_61 : mj_f mi_X4_costOf 61 = some (.aload_n 1, 1, 1, 0, .null) := by decide +kernel
theorem fe_X4_costOf_62 : mj_f mi_X4_costOf 62 = some (.invokevirtual 137, 3, 124, 0, .null) := by decide +kernel
theorem fe_X4_costOf_65 : mj_f mi_X4_costOf 65 = some (.invokestatic 145, 3, 176, 1, .int 1) := by decide +kernel
theorem fe_X4_costOf_68 : mj_f mi_X4_costOf 68 = some (.iadd, 1, 0, 0, .null) := by decide +kernel
theorem fe_X4_costOf_69 : mj_f mi_X4_costOf 69 = some (.ireturn, 1, 0, 0, .null) := by decide +kernel
def ct_X5_init : MJT := [
  (0, 0, .aload_n 0, 1, 0, 0, .null),
  (1, 213, .invokespecial 3, 3, 1000, 0, .null),
  (4, 0, .aload_n 0, 1, 0, 0, .null),
  (5, 0, .bipush 32, 2, 0, 0, .int (32)),
  (7, 0, .newarray .int, 2, 0, 0, .null),
  (9, 214, .putfield 9, 3, 5, 0, .null),
  (12, 0, .aload_n 0, 1, 0, 0, .null),
  (13, 0, .lconst 0, 1, 0, 0, .long 0),
  (14, 215, .putfield 15, 3, 5, 1, .long 0),
  (17, 0, .aload_n 0, 1, 0, 0, .null),
  (18, 0, .iconst 0, 1, 0, 0, .int (0)),
  (19, 216, .putfield 19, 3, 5, 2, .int 0),
  (22, 0, .aload_n 0, 1, 0, 0, .null),
  (23, 0, .iconst 0, 1, 0, 0, .int (0)),
  (24, 217, .putfield 23, 3, 5, 3, .int 0),
  (27, 0, .aload_n 0, 1, 0, 0, .null),
  (28, 0, .iconst 0, 1, 0, 0, .int (0)),
  (29, 218, .putfield 26, 3, 5, 4, .int 0),
  (32, 0, .return_, 1, 0, 0, .null)]
abbrev id_X5_init : Nat := 58
def mi_X5_init : MI := (yX5_init, cX5_init, 1, none, 5, ct_X5_init)
theorem fe_X5_init_0 : mj_f mi_X5_init 0 = some (.aload_n 0, 1, 0, 0, .null) := by decide +kernel
theorem fe_X5_init_1 : mj_f mi_X5_init 1 = some (.invokespecial 3, 3, 1000, 0, .null) := by decide +kernel
theorem fe_X5_init_4 : mj_f mi_X5_init 4 = some (.aload_n 0, 1, 0, 0, .null) := by decide +kernel
theorem fe_X5_init_5 : mj_f mi_X5_init 5 = some (.bipush 32, 2, 0, 0, .int (32)) := by decide +kernel
theorem fe_X5_init_7 : mj_f mi_X5_init 7 = some (.newarray .int, 2, 0, 0, .null) := by decide +kernel
theorem fe_X5_init_9 : mj_f mi_X5_init 9 = some (.putfield 9, 3, 5, 0, .null) := by decide +kernel
theorem fe_X5_init_12 : mj_f mi_X5_init 12 = some (.aload_n 0, 1, 0, 0, .null) := by decide +kernel
theorem fe_X5_init_13 : mj_f mi_X5_init 13 = some (.lconst 0, 1, 0, 0, .long 0) := by decide +kernel
theorem fe_X5_init_14 : mj_f mi_X5_init 14 = some (.putfield 15, 3, 5, 1, .long 0) := by decide +kernel
theorem fe_X5_init_17 : mj_f mi_X5_init 17 = some (.aload_n 0, 1, 0, 0, .null) := by decide +kernel
theorem fe_X5_init_18 : mj_f mi_X5_init 18 = some (.iconst 0, 1, 0, 0, .int (0)) := by decide +kernel
theorem fe_X5_init_19 : mj_f mi_X5_init 19 = some (.putfield 19, 3, 5, 2, .int 0) := by decide +kernel
theorem fe_X5_init_22 : mj_f mi_X5_init 22 = some (.aload_n 0, 1, 0, 0, .null) := by decide +kernel
theorem fe_X5_init_23 : mj_f mi_X5_init 23 = some (.iconst 0, 1, 0, 0, .int (0)) := by decide +kernel
theorem fe_X5_init_24 : mj_f mi_X5_init 24 = some (.putfield 23, 3, 5, 3, .int 0) := by decide +kernel
theorem fe_X5_init_27 : mj_f mi_X5_init 27 = some (.aload_n 0, 1, 0, 0, .null) := by decide +kernel
theorem fe_X5_init_28 : mj_f mi_X5_init 28 = some (.iconst 0, 1, 0, 0, .int (0)) := by decide +kernel
theorem fe_X5_init_29 : mj_f mi_X5_init 29 = some (.putfield 26, 3, 5, 4, .int 0) := by decide +kernel
theorem fe_X5_init_32 : mj_f mi_X5_init 32 = some (.return_, 1, 0, 0, .null) := by decide +kernel
def ct_X5_base : MJT := [
  (0, 0, .aload_n 0, 1, 0, 0, .null),
  (1, 215, .getfield 15, 3, 5, 1, .long 0),
  (4, 0, .lreturn, 1, 0, 0, .null)]
abbrev id_X5_base : Nat := 59
def mi_X5_base : MI := (yX5_base, cX5_base, 1, (some .long), 5, ct_X5_base)
theorem fe_X5_base_0 : mj_f mi_X5_base 0 = some (.aload_n 0, 1, 0, 0, .null) := by decide +kernel
theorem fe_X5_base_1 : mj_f mi_X5_base 1 = some (.getfield 15, 3, 5, 1, .long 0) := by decide +kernel
theorem fe_X5_base_4 : mj_f mi_X5_base 4 = some (.lreturn, 1, 0, 0, .null) := by decide +kernel
def ct_X5_width : MJT := [
  (0, 0, .aload_n 0, 1, 0, 0, .null),
  (1, 216, .getfield 19, 3, 5, 2, .int 0),
  (4, 0, .ireturn, 1, 0, 0, .null)]
abbrev id_X5_width : Nat := 60
def mi_X5_width : MI := (yX5_width, cX5_width, 1, (some .int), 5, ct_X5_width)
theorem fe_X5_width_0 : mj_f mi_X5_width 0 = some (.aload_n 0, 1, 0, 0, .null) := by decide +kernel
theorem fe_X5_width_1 : mj_f mi_X5_width 1 = some (.getfield 19, 3, 5, 2, .int 0) := by decide +kernel
theorem fe_X5_width_4 : mj_f mi_X5_width 4 = some (.ireturn, 1, 0, 0, .null) := by decide +kernel
def ct_X5_outside : MJT := [
  (0, 0, .aload_n 0, 1, 0, 0, .null),
  (1, 217, .getfield 23, 3, 5, 3, .int 0),
  (4, 0, .ireturn, 1, 0, 0, .null)]
abbrev id_X5_outside : Nat := 61
def mi_X5_outside : MI := (yX5_outside, cX5_outside, 1, (some .int), 5, ct_X5_outside)
theorem fe_X5_outside_0 : mj_f mi_X5_outside 0 = some (.aload_n 0, 1, 0, 0, .null) := by decide +kernel
theorem fe_X5_outside_1 : mj_f mi_X5_outside 1 = some (.getfield 23, 3, 5, 3, .int 0) := by decide +kernel
theorem fe_X5_outside_4 : mj_f mi_X5_outside 4 = some (.ireturn, 1, 0, 0, .null) := by decide +kernel
def ct_X5_size : MJT := [
  (0, 0, .aload_n 0, 1, 0, 0, .null),
  (1, 218, .getfield 26, 3, 5, 4, .int 0),
  (4, 0, .ireturn, 1, 0, 0, .null)]
abbrev id_X5_size : Nat := 62
def mi_X5_size : MI := (yX5_size, cX5_size, 1, (some .int), 5, ct_X5_size)
theorem fe_X5_size_0 : mj_f mi_X5_size 0 = some (.aload_n 0, 1, 0, 0, .null) := by decide +kernel
theorem fe_X5_size_1 : mj_f mi_X5_size 1 = some (.getfield 26, 3, 5, 4, .int 0) := by decide +kernel
theorem fe_X5_size_4 : mj_f mi_X5_size 4 = some (.ireturn, 1, 0, 0, .null) := by decide +kernel
def ct_X5_fit : MJT := [
  (0, 0, .aload_n 0, 1, 0, 0, .null),
  (1, 759, .ldc 31, 2, 0, 0, .int (2147483647)),
  (3, 218, .putfield 26, 3, 5, 4, .int 0),
  (6, 0, .iconst 0, 1, 0, 0, .int (0)),
  (7, 0, .istore_n 2, 1, 2, 0, .null),
  (8, 0, .iload_n 2, 1, 2, 0, .null),
  (9, 0, .aload_n 1, 1, 1, 0, .null),
  (10, 760, .invokevirtual 32, 3, 110, 0, .null),
  (13, 0, .if_icmp .ge 35, 3, 48, 0, .null),
  (16, 0, .iload_n 2, 1, 2, 0, .null),
  (17, 0, .aload_n 0, 1, 0, 0, .null),
  (18, 214, .getfield 9, 3, 5, 0, .null),
  (21, 0, .arraylength, 1, 0, 0, .null),
  (22, 0, .if_icmp .ge 26, 3, 48, 0, .null),
  (25, 0, .aload_n 0, 1, 0, 0, .null),
  (26, 214, .getfield 9, 3, 5, 0, .null),
  (29, 0, .iload_n 2, 1, 2, 0, .null),
  (30, 0, .aload_n 1, 1, 1, 0, .null),
  (31, 0, .iload_n 2, 1, 2, 0, .null),
  (32, 764, .invokevirtual 38, 3, 111, 1, .null),
  (35, 765, .invokestatic 42, 3, 174, 1, .int 1),
  (38, 766, .invokestatic 46, 3, 176, 1, .int 1),
  (41, 0, .iastore, 1, 0, 0, .null),
  (42, 0, .iinc 2 1, 3, 2, 0, .int (1)),
  (45, 0, .goto (-37), 3, 8, 0, .null),
  (48, 0, .iconst 0, 1, 0, 0, .int (0)),
  (49, 0, .istore_n 2, 1, 2, 0, .null),
  (50, 0, .iconst 0, 1, 0, 0, .int (0)),
  (51, 0, .istore_n 3, 1, 3, 0, .null),
  (52, 0, .iconst 0, 1, 0, 0, .int (0)),
  (53, 0, .istore 4, 2, 4, 0, .null),
  (55, 0, .iload 4, 2, 4, 0, .null),
  (57, 0, .aload_n 1, 1, 1, 0, .null),
  (58, 760, .invokevirtual 32, 3, 110, 0, .null),
  (61, 0, .if_icmp .ge 66, 3, 127, 0, .null),
  (64, 0, .iload 4, 2, 4, 0, .null),
  (66, 0, .aload_n 0, 1, 0, 0, .null),
  (67, 214, .getfield 9, 3, 5, 0, .null),
  (70, 0, .arraylength, 1, 0, 0, .null),
  (71, 0, .if_icmp .ge 56, 3, 127, 0, .null),
  (74, 0, .iconst 4, 1, 0, 0, .int (4)),
  (75, 0, .iload_n 2, 1, 2, 0, .null),
  (76, 0, .iadd, 1, 0, 0, .null),
  (77, 0, .aload_n 0, 1, 0, 0, .null),
  (78, 218, .getfield 26, 3, 5, 4, .int 0),
  (81, 0, .if_icmp .gt 46, 3, 127, 0, .null),
  (84, 0, .aload_n 0, 1, 0, 0, .null),
  (85, 0, .aload_n 1, 1, 1, 0, .null),
  (86, 0, .iload 4, 2, 4, 0, .null),
  (88, 0, .iload_n 2, 1, 2, 0, .null),
  (89, 0, .iload_n 3, 1, 3, 0, .null),
  (90, 767, .invokevirtual 50, 3, 64, 4, .null),
  (93, 0, .iload_n 2, 1, 2, 0, .null),
  (94, 0, .aload_n 1, 1, 1, 0, .null),
  (95, 0, .iload 4, 2, 4, 0, .null),
  (97, 779, .invokevirtual 54, 3, 112, 1, .null),
  (100, 0, .iconst 1, 1, 0, 0, .int (1)),
  (101, 0, .aload_n 0, 1, 0, 0, .null),
  (102, 214, .getfield 9, 3, 5, 0, .null),
  (105, 0, .iload 4, 2, 4, 0, .null),
  (107, 0, .iaload, 1, 0, 0, .null),
  (108, 0, .iadd, 1, 0, 0, .null),
  (109, 0, .imul, 1, 0, 0, .null),
  (110, 0, .iadd, 1, 0, 0, .null),
  (111, 0, .istore_n 2, 1, 2, 0, .null),
  (112, 0, .iload_n 3, 1, 3, 0, .null),
  (113, 0, .aload_n 1, 1, 1, 0, .null),
  (114, 0, .iload 4, 2, 4, 0, .null),
  (116, 779, .invokevirtual 54, 3, 112, 1, .null),
  (119, 0, .iadd, 1, 0, 0, .null),
  (120, 0, .istore_n 3, 1, 3, 0, .null),
  (121, 0, .iinc 4 1, 3, 4, 0, .int (1)),
  (124, 0, .goto (-69), 3, 55, 0, .null),
  (127, 0, .return_, 1, 0, 0, .null)]
abbrev id_X5_fit : Nat := 63
def mi_X5_fit : MI := (yX5_fit, cX5_fit, 5, none, 5, ct_X5_fit)
theorem fe_X5_fit_0 : mj_f mi_X5_fit 0 = some (.aload_n 0, 1, 0, 0, .null) := by decide +kernel
theorem fe_X5_fit_1 : mj_f mi_X5_fit 1 = some (.ldc 31, 2, 0, 0, .int (2147483647)) := by decide +kernel
theorem fe_X5_fit_3 : mj_f mi_X5_fit 3 = some (.putfield 26, 3, 5, 4, .int 0) := by decide +kernel
theorem fe_X5_fit_6 : mj_f mi_X5_fit 6 = some (.iconst 0, 1, 0, 0, .int (0)) := by decide +kernel
theorem fe_X5_fit_7 : mj_f mi_X5_fit 7 = some (.istore_n 2, 1, 2, 0, .null) := by decide +kernel
theorem fe_X5_fit_8 : mj_f mi_X5_fit 8 = some (.iload_n 2, 1, 2, 0, .null) := by decide +kernel
theorem fe_X5_fit_9 : mj_f mi_X5_fit 9 = some (.aload_n 1, 1, 1, 0, .null) := by decide +kernel
theorem fe_X5_fit_10 : mj_f mi_X5_fit 10 = some (.invokevirtual 32, 3, 110, 0, .null) := by decide +kernel
theorem fe_X5_fit_13 : mj_f mi_X5_fit 13 = some (.if_icmp .ge 35, 3, 48, 0, .null) := by decide +kernel
theorem fe_X5_fit_16 : mj_f mi_X5_fit 16 = some (.iload_n 2, 1, 2, 0, .null) := by decide +kernel
theorem fe_X5_fit_17 : mj_f mi_X5_fit 17 = some (.aload_n 0, 1, 0, 0, .null) := by decide +kernel
theorem fe_X5_fit_18 : mj_f mi_X5_fit 18 = some (.getfield 9, 3, 5, 0, .null) := by decide +kernel
theorem fe_X5_fit_21 : mj_f mi_X5_fit 21 = some (.arraylength, 1, 0, 0, .null) := by decide +kernel
theorem fe_X5_fit_22 : mj_f mi_X5_fit 22 = some (.if_icmp .ge 26, 3, 48, 0, .null) := by decide +kernel
theorem fe_X5_fit_25 : mj_f mi_X5_fit 25 = some (.aload_n 0, 1, 0, 0, .null) := by decide +kernel
theorem fe_X5_fit_26 : mj_f mi_X5_fit 26 = some (.getfield 9, 3, 5, 0, .null) := by decide +kernel
theorem fe_X5_fit_29 : mj_f mi_X5_fit 29 = some (.iload_n 2, 1, 2, 0, .null) := by decide +kernel
theorem fe_X5_fit_30 : mj_f mi_X5_fit 30 = some (.aload_n 1, 1, 1, 0, .null) := by decide +kernel
theorem fe_X5_fit_31 : mj_f mi_X5_fit 31 = some (.iload_n 2, 1, 2, 0, .null) := by decide +kernel
theorem fe_X5_fit_32 : mj_f mi_X5_fit 32 = some (.invokevirtual 38, 3, 111, 1, .null) := by decide +kernel
theorem fe_X5_fit_35 : mj_f mi_X5_fit 35 = some (.invokestatic 42, 3, 174, 1, .int 1) := by decide +kernel
theorem fe_X5_fit_38 : mj_f mi_X5_fit 38 = some (.invokestatic 46, 3, 176, 1, .int 1) := by decide +kernel
theorem fe_X5_fit_41 : mj_f mi_X5_fit 41 = some (.iastore, 1, 0, 0, .null) := by decide +kernel
theorem fe_X5_fit_42 : mj_f mi_X5_fit 42 = some (.iinc 2 1, 3, 2, 0, .int (1)) := by decide +kernel
theorem fe_X5_fit_45 : mj_f mi_X5_fit 45 = some (.goto (-37), 3, 8, 0, .null) := by decide +kernel
theorem fe_X5_fit_48 : mj_f mi_X5_fit 48 = some (.iconst 0, 1, 0, 0, .int (0)) := by decide +kernel
theorem fe_X5_fit_49 : mj_f mi_X5_fit 49 = some (.istore_n 2, 1, 2, 0, .null) := by decide +kernel
theorem fe_X5_fit_50 : mj_f mi_X5_fit 50 = some (.iconst 0, 1, 0, 0, .int (0)) := by decide +kernel
theorem fe_X5_fit_51 : mj_f mi_X5_fit 51 = some (.istore_n 3, 1, 3, 0, .null) := by decide +kernel
theorem fe_X5_fit_52 : mj_f mi_X5_fit 52 = some (.iconst 0, 1, 0, 0, .int (0)) := by decide +kernel
theorem fe_X5_fit_53 : mj_f mi_X5_fit 53 = some (.istore 4, 2, 4, 0, .null) := by decide +kernel
theorem fe_X5_fit_55 : mj_f mi_X5_fit 55 = some (.iload 4, 2, 4, 0, .null) := by decide +kernel
theorem fe_X5_fit_57 : mj_f mi_X5_fit 57 = some (.aload_n 1, 1, 1, 0, .null) := by decide +kernel
theorem fe_X5_fit_58 : mj_f mi_X5_fit 58 = some (.invokevirtual 32, 3, 110, 0, .null) := by decide +kernel
theorem fe_X5_fit_61 : mj_f mi_X5_fit 61 = some (.if_icmp .ge 66, 3, 127, 0, .null) := by decide +kernel
theorem fe_X5_fit_64 : mj_f mi_X5_fit 64 = some (.iload 4, 2, 4, 0, .null) := by decide +kernel
theorem fe_X5_fit_66 : mj_f mi_X5_fit 66 = some (.aload_n 0, 1, 0, 0, .null) := by decide +kernel
theorem fe_X5_fit_67 : mj_f mi_X5_fit 67 = some (.getfield 9, 3, 5, 0, .null) := by decide +kernel
theorem fe_X5_fit_70 : mj_f mi_X5_fit 70 = some (.arraylength, 1, 0, 0, .null) := by decide +kernel
theorem fe_X5_fit_71 : mj_f mi_X5_fit 71 = some (.if_icmp .ge 56, 3, 127, 0, .null) := by decide +kernel
theorem fe_X5_fit_74 : mj_f mi_X5_fit 74 = some (.iconst 4, 1, 0, 0, .int (4)) := by decide +kernel
theorem fe_X5_fit_75 : mj_f mi_X5_fit 75 = some (.iload_n 2, 1, 2, 0, .null) := by decide +kernel
theorem fe_X5_fit_76 : mj_f mi_X5_fit 76 = some (.iadd, 1, 0, 0, .null) := by decide +kernel
theorem fe_X5_fit_77 : mj_f mi_X5_fit 77 = some (.aload_n 0, 1, 0, 0, .null) := by decide +kernel
theorem fe_X5_fit_78 : mj_f mi_X5_fit 78 = some (.getfield 26, 3, 5, 4, .int 0) := by decide +kernel
theorem fe_X5_fit_81 : mj_f mi_X5_fit 81 = some (.if_icmp .gt 46, 3, 127, 0, .null) := by decide +kernel
theorem fe_X5_fit_84 : mj_f mi_X5_fit 84 = some (.aload_n 0, 1, 0, 0, .null) := by decide +kernel
theorem fe_X5_fit_85 : mj_f mi_X5_fit 85 = some (.aload_n 1, 1, 1, 0, .null) := by decide +kernel
theorem fe_X5_fit_86 : mj_f mi_X5_fit 86 = some (.iload 4, 2, 4, 0, .null) := by decide +kernel
theorem fe_X5_fit_88 : mj_f mi_X5_fit 88 = some (.iload_n 2, 1, 2, 0, .null) := by decide +kernel
theorem fe_X5_fit_89 : mj_f mi_X5_fit 89 = some (.iload_n 3, 1, 3, 0, .null) := by decide +kernel
theorem fe_X5_fit_90 : mj_f mi_X5_fit 90 = some (.invokevirtual 50, 3, 64, 4, .null) := by decide +kernel
theorem fe_X5_fit_93 : mj_f mi_X5_fit 93 = some (.iload_n 2, 1, 2, 0, .null) := by decide +kernel
theorem fe_X5_fit_94 : mj_f mi_X5_fit 94 = some (.aload_n 1, 1, 1, 0, .null) := by decide +kernel
theorem fe_X5_fit_95 : mj_f mi_X5_fit 95 = some (.iload 4, 2, 4, 0, .null) := by decide +kernel
theorem fe_X5_fit_97 : mj_f mi_X5_fit 97 = some (.invokevirtual 54, 3, 112, 1, .null) := by decide +kernel
theorem fe_X5_fit_100 : mj_f mi_X5_fit 100 = some (.iconst 1, 1, 0, 0, .int (1)) := by decide +kernel
theorem fe_X5_fit_101 : mj_f mi_X5_fit 101 = some (.aload_n 0, 1, 0, 0, .null) := by decide +kernel
theorem fe_X5_fit_102 : mj_f mi_X5_fit 102 = some (.getfield 9, 3, 5, 0, .null) := by decide +kernel
theorem fe_X5_fit_105 : mj_f mi_X5_fit 105 = some (.iload 4, 2, 4, 0, .null) := by decide +kernel
theorem fe_X5_fit_107 : mj_f mi_X5_fit 107 = some (.iaload, 1, 0, 0, .null) := by decide +kernel
theorem fe_X5_fit_108 : mj_f mi_X5_fit 108 = some (.iadd, 1, 0, 0, .null) := by decide +kernel
theorem fe_X5_fit_109 : mj_f mi_X5_fit 109 = some (.imul, 1, 0, 0, .null) := by decide +kernel
theorem fe_X5_fit_110 : mj_f mi_X5_fit 110 = some (.iadd, 1, 0, 0, .null) := by decide +kernel
theorem fe_X5_fit_111 : mj_f mi_X5_fit 111 = some (.istore_n 2, 1, 2, 0, .null) := by decide +kernel
theorem fe_X5_fit_112 : mj_f mi_X5_fit 112 = some (.iload_n 3, 1, 3, 0, .null) := by decide +kernel
theorem fe_X5_fit_113 : mj_f mi_X5_fit 113 = some (.aload_n 1, 1, 1, 0, .null) := by decide +kernel
theorem fe_X5_fit_114 : mj_f mi_X5_fit 114 = some (.iload 4, 2, 4, 0, .null) := by decide +kernel
theorem fe_X5_fit_116 : mj_f mi_X5_fit 116 = some (.invokevirtual 54, 3, 112, 1, .null) := by decide +kernel
theorem fe_X5_fit_119 : mj_f mi_X5_fit 119 = some (.iadd, 1, 0, 0, .null) := by decide +kernel
theorem fe_X5_fit_120 : mj_f mi_X5_fit 120 = some (.istore_n 3, 1, 3, 0, .null) := by decide +kernel
theorem fe_X5_fit_121 : mj_f mi_X5_fit 121 = some (.iinc 4 1, 3, 4, 0, .int (1)) := by decide +kernel
theorem fe_X5_fit_124 : mj_f mi_X5_fit 124 = some (.goto (-69), 3, 55, 0, .null) := by decide +kernel
theorem fe_X5_fit_127 : mj_f mi_X5_fit 127 = some (.return_, 1, 0, 0, .null) := by decide +kernel
def ct_X5_tryBase : MJT := [
  (0, 0, .iload_n 2, 1, 2, 0, .null),
  (1, 0, .ifCond .lt 12, 3, 13, 0, .null),
  (4, 0, .iload_n 2, 1, 2, 0, .null),
  (5, 0, .aload_n 0, 1, 0, 0, .null),
  (6, 214, .getfield 9, 3, 5, 0, .null),
  (9, 0, .arraylength, 1, 0, 0, .null),
  (10, 0, .if_icmp .lt 4, 3, 14, 0, .null),
  (13, 0, .return_, 1, 0, 0, .null),
  (14, 0, .aload_n 1, 1, 1, 0, .null),
  (15, 0, .iload_n 2, 1, 2, 0, .null),
  (16, 764, .invokevirtual 38, 3, 111, 1, .null),
  (19, 0, .lstore 5, 2, 5, 0, .null),
  (21, 0, .iconst 3, 1, 0, 0, .int (3)),
  (22, 0, .aload_n 0, 1, 0, 0, .null),
  (23, 214, .getfield 9, 3, 5, 0, .null),
  (26, 0, .iload_n 2, 1, 2, 0, .null),
  (27, 0, .iaload, 1, 0, 0, .null),
  (28, 0, .iadd, 1, 0, 0, .null),
  (29, 0, .iload_n 3, 1, 3, 0, .null),
  (30, 0, .iadd, 1, 0, 0, .null),
  (31, 0, .istore 7, 2, 7, 0, .null),
  (33, 0, .iload 4, 2, 4, 0, .null),
  (35, 0, .istore 8, 2, 8, 0, .null),
  (37, 0, .bipush 64, 2, 0, 0, .int (64)),
  (39, 0, .istore 9, 2, 9, 0, .null),
  (41, 0, .aload_n 1, 1, 1, 0, .null),
  (42, 760, .invokevirtual 32, 3, 110, 0, .null),
  (45, 0, .aload_n 0, 1, 0, 0, .null),
  (46, 214, .getfield 9, 3, 5, 0, .null),
  (49, 0, .arraylength, 1, 0, 0, .null),
  (50, 771, .invokestatic 58, 3, 262, 2, .null),
  (53, 0, .iconst 1, 1, 0, 0, .int (1)),
  (54, 0, .isub, 1, 0, 0, .null),
  (55, 0, .istore 10, 2, 10, 0, .null),
  (57, 0, .iload 10, 2, 10, 0, .null),
  (59, 0, .iload_n 2, 1, 2, 0, .null),
  (60, 0, .if_icmp .lt 97, 3, 157, 0, .null),
  (63, 0, .iload 7, 2, 7, 0, .null),
  (65, 0, .aload_n 0, 1, 0, 0, .null),
  (66, 218, .getfield 26, 3, 5, 4, .int 0),
  (69, 0, .if_icmp .gt 88, 3, 157, 0, .null),
  (72, 0, .aload_n 1, 1, 1, 0, .null),
  (73, 0, .iload 10, 2, 10, 0, .null),
  (75, 764, .invokevirtual 38, 3, 111, 1, .null),
  (78, 0, .lload 5, 2, 5, 0, .null),
  (80, 0, .lsub, 1, 0, 0, .null),
  (81, 772, .invokestatic 64, 3, 173, 1, .int 1),
  (84, 0, .istore 11, 2, 11, 0, .null),
  (86, 0, .iload 11, 2, 11, 0, .null),
  (88, 0, .iload 9, 2, 9, 0, .null),
  (90, 0, .if_icmp .ge 29, 3, 119, 0, .null),
  (93, 0, .iload 11, 2, 11, 0, .null),
  (95, 0, .istore 9, 2, 9, 0, .null),
  (97, 0, .aload_n 0, 1, 0, 0, .null),
  (98, 0, .lload 5, 2, 5, 0, .null),
  (100, 0, .iload 11, 2, 11, 0, .null),
  (102, 0, .iload 8, 2, 8, 0, .null),
  (104, 0, .iload 7, 2, 7, 0, .null),
  (106, 0, .aload_n 1, 1, 1, 0, .null),
  (107, 773, .invokevirtual 67, 3, 108, 0, .null),
  (110, 0, .iload 11, 2, 11, 0, .null),
  (112, 774, .invokestatic 70, 3, 177, 2, .int 1),
  (115, 0, .iadd, 1, 0, 0, .null),
  (116, 775, .invokevirtual 73, 3, 65, 4, .null),
  (119, 0, .iload 7, 2, 7, 0, .null),
  (121, 0, .aload_n 1, 1, 1, 0, .null),
  (122, 0, .iload 10, 2, 10, 0, .null),
  (124, 779, .invokevirtual 54, 3, 112, 1, .null),
  (127, 0, .iconst 1, 1, 0, 0, .int (1)),
  (128, 0, .aload_n 0, 1, 0, 0, .null),
  (129, 214, .getfield 9, 3, 5, 0, .null),
  (132, 0, .iload 10, 2, 10, 0, .null),
  (134, 0, .iaload, 1, 0, 0, .null),
  (135, 0, .iadd, 1, 0, 0, .null),
  (136, 0, .imul, 1, 0, 0, .null),
  (137, 0, .iadd, 1, 0, 0, .null),
  (138, 0, .istore 7, 2, 7, 0, .null),
  (140, 0, .iload 8, 2, 8, 0, .null),
  (142, 0, .aload_n 1, 1, 1, 0, .null),
  (143, 0, .iload 10, 2, 10, 0, .null),
  (145, 779, .invokevirtual 54, 3, 112, 1, .null),
  (148, 0, .iadd, 1, 0, 0, .null),
  (149, 0, .istore 8, 2, 8, 0, .null),
  (151, 0, .iinc 10 (-1), 3, 10, 0, .int (-1)),
  (154, 0, .goto (-97), 3, 57, 0, .null),
  (157, 0, .return_, 1, 0, 0, .null)]
abbrev id_X5_tryBase : Nat := 64
def mi_X5_tryBase : MI := (yX5_tryBase, cX5_tryBase, 12, none, 5, ct_X5_tryBase)
theorem fe_X5_tryBase_0 : mj_f mi_X5_tryBase 0 = some (.iload_n 2, 1, 2, 0, .null) := by decide +kernel
theorem fe_X5_tryBase_1 : mj_f mi_X5_tryBase 1 = some (.ifCond .lt 12, 3, 13, 0, .null) := by decide +kernel
theorem fe_X5_tryBase_4 : mj_f mi_X5_tryBase 4 = some (.iload_n 2, 1, 2, 0, .null) := by decide +kernel
theorem fe_X5_tryBase_5 : mj_f mi_X5_tryBase 5 = some (.aload_n 0, 1, 0, 0, .null) := by decide +kernel
theorem fe_X5_tryBase_6 : mj_f mi_X5_tryBase 6 = some (.getfield 9, 3, 5, 0, .null) := by decide +kernel
theorem fe_X5_tryBase_9 : mj_f mi_X5_tryBase 9 = some (.arraylength, 1, 0, 0, .null) := by decide +kernel
theorem fe_X5_tryBase_10 : mj_f mi_X5_tryBase 10 = some (.if_icmp .lt 4, 3, 14, 0, .null) := by decide +kernel
theorem fe_X5_tryBase_13 : mj_f mi_X5_tryBase 13 = some (.return_, 1, 0, 0, .null) := by decide +kernel
theorem fe_X5_tryBase_14 : mj_f mi_X5_tryBase 14 = some (.aload_n 1, 1, 1, 0, .null) := by decide +kernel
theorem fe_X5_tryBase_15 : mj_f mi_X5_tryBase 15 = some (.iload_n 2, 1, 2, 0, .null) := by decide +kernel
theorem fe_X5_tryBase_16 : mj_f mi_X5_tryBase 16 = some (.invokevirtual 38, 3, 111, 1, .null) := by decide +kernel
theorem fe_X5_tryBase_19 : mj_f mi_X5_tryBase 19 = some (.lstore 5, 2, 5, 0, .null) := by decide +kernel
theorem fe_X5_tryBase_21 : mj_f mi_X5_tryBase 21 = some (.iconst 3, 1, 0, 0, .int (3)) := by decide +kernel
theorem fe_X5_tryBase_22 : mj_f mi_X5_tryBase 22 = some (.aload_n 0, 1, 0, 0, .null) := by decide +kernel
theorem fe_X5_tryBase_23 : mj_f mi_X5_tryBase 23 = some (.getfield 9, 3, 5, 0, .null) := by decide +kernel
theorem fe_X5_tryBase_26 : mj_f mi_X5_tryBase 26 = some (.iload_n 2, 1, 2, 0, .null) := by decide +kernel
theorem fe_X5_tryBase_27 : mj_f mi_X5_tryBase 27 = some (.iaload, 1, 0, 0, .null) := by decide +kernel
theorem fe_X5_tryBase_28 : mj_f mi_X5_tryBase 28 = some (.iadd, 1, 0, 0, .null) := by decide +kernel
theorem fe_X5_tryBase_29 : mj_f mi_X5_tryBase 29 = some (.iload_n 3, 1, 3, 0, .null) := by decide +kernel
theorem fe_X5_tryBase_30 : mj_f mi_X5_tryBase 30 = some (.iadd, 1, 0, 0, .null) := by decide +kernel
theorem fe_X5_tryBase_31 : mj_f mi_X5_tryBase 31 = some (.istore 7, 2, 7, 0, .null) := by decide +kernel
theorem fe_X5_tryBase_33 : mj_f mi_X5_tryBase 33 = some (.iload 4, 2, 4, 0, .null) := by decide +kernel
theorem fe_X5_tryBase_35 : mj_f mi_X5_tryBase 35 = some (.istore 8, 2, 8, 0, .null) := by decide +kernel
theorem fe_X5_tryBase_37 : mj_f mi_X5_tryBase 37 = some (.bipush 64, 2, 0, 0, .int (64)) := by decide +kernel
theorem fe_X5_tryBase_39 : mj_f mi_X5_tryBase 39 = some (.istore 9, 2, 9, 0, .null) := by decide +kernel
theorem fe_X5_tryBase_41 : mj_f mi_X5_tryBase 41 = some (.aload_n 1, 1, 1, 0, .null) := by decide +kernel
theorem fe_X5_tryBase_42 : mj_f mi_X5_tryBase 42 = some (.invokevirtual 32, 3, 110, 0, .null) := by decide +kernel
theorem fe_X5_tryBase_45 : mj_f mi_X5_tryBase 45 = some (.aload_n 0, 1, 0, 0, .null) := by decide +kernel
theorem fe_X5_tryBase_46 : mj_f mi_X5_tryBase 46 = some (.getfield 9, 3, 5, 0, .null) := by decide +kernel
theorem fe_X5_tryBase_49 : mj_f mi_X5_tryBase 49 = some (.arraylength, 1, 0, 0, .null) := by decide +kernel
theorem fe_X5_tryBase_50 : mj_f mi_X5_tryBase 50 = some (.invokestatic 58, 3, 262, 2, .null) := by decide +kernel
theorem fe_X5_tryBase_53 : mj_f mi_X5_tryBase 53 = some (.iconst 1, 1, 0, 0, .int (1)) := by decide +kernel
theorem fe_X5_tryBase_54 : mj_f mi_X5_tryBase 54 = some (.isub, 1, 0, 0, .null) := by decide +kernel
theorem fe_X5_tryBase_55 : mj_f mi_X5_tryBase 55 = some (.istore 10, 2, 10, 0, .null) := by decide +kernel
theorem fe_X5_tryBase_57 : mj_f mi_X5_tryBase 57 = some (.iload 10, 2, 10, 0, .null) := by decide +kernel
theorem fe_X5_tryBase_59 : mj_f mi_X5_tryBase 59 = some (.iload_n 2, 1, 2, 0, .null) := by decide +kernel
theorem fe_X5_tryBase_60 : mj_f mi_X5_tryBase 60 = some (.if_icmp .lt 97, 3, 157, 0, .null) := by decide +kernel
theorem fe_X5_tryBase_63 : mj_f mi_X5_tryBase 63 = some (.iload 7, 2, 7, 0, .null) := by decide +kernel
theorem fe_X5_tryBase_65 : mj_f mi_X5_tryBase 65 = some (.aload_n 0, 1, 0, 0, .null) := by decide +kernel
theorem fe_X5_tryBase_66 : mj_f mi_X5_tryBase 66 = some (.getfield 26, 3, 5, 4, .int 0) := by decide +kernel
theorem fe_X5_tryBase_69 : mj_f mi_X5_tryBase 69 = some (.if_icmp .gt 88, 3, 157, 0, .null) := by decide +kernel
theorem fe_X5_tryBase_72 : mj_f mi_X5_tryBase 72 = some (.aload_n 1, 1, 1, 0, .null) := by decide +kernel
theorem fe_X5_tryBase_73 : mj_f mi_X5_tryBase 73 = some (.iload 10, 2, 10, 0, .null) := by decide +kernel
theorem fe_X5_tryBase_75 : mj_f mi_X5_tryBase 75 = some (.invokevirtual 38, 3, 111, 1, .null) := by decide +kernel
theorem fe_X5_tryBase_78 : mj_f mi_X5_tryBase 78 = some (.lload 5, 2, 5, 0, .null) := by decide +kernel
theorem fe_X5_tryBase_80 : mj_f mi_X5_tryBase 80 = some (.lsub, 1, 0, 0, .null) := by decide +kernel
theorem fe_X5_tryBase_81 : mj_f mi_X5_tryBase 81 = some (.invokestatic 64, 3, 173, 1, .int 1) := by decide +kernel
theorem fe_X5_tryBase_84 : mj_f mi_X5_tryBase 84 = some (.istore 11, 2, 11, 0, .null) := by decide +kernel
theorem fe_X5_tryBase_86 : mj_f mi_X5_tryBase 86 = some (.iload 11, 2, 11, 0, .null) := by decide +kernel
theorem fe_X5_tryBase_88 : mj_f mi_X5_tryBase 88 = some (.iload 9, 2, 9, 0, .null) := by decide +kernel
theorem fe_X5_tryBase_90 : mj_f mi_X5_tryBase 90 = some (.if_icmp .ge 29, 3, 119, 0, .null) := by decide +kernel
theorem fe_X5_tryBase_93 : mj_f mi_X5_tryBase 93 = some (.iload 11, 2, 11, 0, .null) := by decide +kernel
theorem fe_X5_tryBase_95 : mj_f mi_X5_tryBase 95 = some (.istore 9, 2, 9, 0, .null) := by decide +kernel
theorem fe_X5_tryBase_97 : mj_f mi_X5_tryBase 97 = some (.aload_n 0, 1, 0, 0, .null) := by decide +kernel
theorem fe_X5_tryBase_98 : mj_f mi_X5_tryBase 98 = some (.lload 5, 2, 5, 0, .null) := by decide +kernel
theorem fe_X5_tryBase_100 : mj_f mi_X5_tryBase 100 = some (.iload 11, 2, 11, 0, .null) := by decide +kernel
theorem fe_X5_tryBase_102 : mj_f mi_X5_tryBase 102 = some (.iload 8, 2, 8, 0, .null) := by decide +kernel
theorem fe_X5_tryBase_104 : mj_f mi_X5_tryBase 104 = some (.iload 7, 2, 7, 0, .null) := by decide +kernel
theorem fe_X5_tryBase_106 : mj_f mi_X5_tryBase 106 = some (.aload_n 1, 1, 1, 0, .null) := by decide +kernel
theorem fe_X5_tryBase_107 : mj_f mi_X5_tryBase 107 = some (.invokevirtual 67, 3, 108, 0, .null) := by decide +kernel
theorem fe_X5_tryBase_110 : mj_f mi_X5_tryBase 110 = some (.iload 11, 2, 11, 0, .null) := by decide +kernel
theorem fe_X5_tryBase_112 : mj_f mi_X5_tryBase 112 = some (.invokestatic 70, 3, 177, 2, .int 1) := by decide +kernel
theorem fe_X5_tryBase_115 : mj_f mi_X5_tryBase 115 = some (.iadd, 1, 0, 0, .null) := by decide +kernel
theorem fe_X5_tryBase_116 : mj_f mi_X5_tryBase 116 = some (.invokevirtual 73, 3, 65, 4, .null) := by decide +kernel
theorem fe_X5_tryBase_119 : mj_f mi_X5_tryBase 119 = some (.iload 7, 2, 7, 0, .null) := by decide +kernel
theorem fe_X5_tryBase_121 : mj_f mi_X5_tryBase 121 = some (.aload_n 1, 1, 1, 0, .null) := by decide +kernel
theorem fe_X5_tryBase_122 : mj_f mi_X5_tryBase 122 = some (.iload 10, 2, 10, 0, .null) := by decide +kernel
theorem fe_X5_tryBase_124 : mj_f mi_X5_tryBase 124 = some (.invokevirtual 54, 3, 112, 1, .null) := by decide +kernel
theorem fe_X5_tryBase_127 : mj_f mi_X5_tryBase 127 = some (.iconst 1, 1, 0, 0, .int (1)) := by decide +kernel
theorem fe_X5_tryBase_128 : mj_f mi_X5_tryBase 128 = some (.aload_n 0, 1, 0, 0, .null) := by decide +kernel
theorem fe_X5_tryBase_129 : mj_f mi_X5_tryBase 129 = some (.getfield 9, 3, 5, 0, .null) := by decide +kernel
theorem fe_X5_tryBase_132 : mj_f mi_X5_tryBase 132 = some (.iload 10, 2, 10, 0, .null) := by decide +kernel
theorem fe_X5_tryBase_134 : mj_f mi_X5_tryBase 134 = some (.iaload, 1, 0, 0, .null) := by decide +kernel
theorem fe_X5_tryBase_135 : mj_f mi_X5_tryBase 135 = some (.iadd, 1, 0, 0, .null) := by decide +kernel
theorem fe_X5_tryBase_136 : mj_f mi_X5_tryBase 136 = some (.imul, 1, 0, 0, .null) := by decide +kernel
theorem fe_X5_tryBase_137 : mj_f mi_X5_tryBase 137 = some (.iadd, 1, 0, 0, .null) := by decide +kernel
theorem fe_X5_tryBase_138 : mj_f mi_X5_tryBase 138 = some (.istore 7, 2, 7, 0, .null) := by decide +kernel
theorem fe_X5_tryBase_140 : mj_f mi_X5_tryBase 140 = some (.iload 8, 2, 8, 0, .null) := by decide +kernel
theorem fe_X5_tryBase_142 : mj_f mi_X5_tryBase 142 = some (.aload_n 1, 1, 1, 0, .null) := by decide +kernel
theorem fe_X5_tryBase_143 : mj_f mi_X5_tryBase 143 = some (.iload 10, 2, 10, 0, .null) := by decide +kernel
theorem fe_X5_tryBase_145 : mj_f mi_X5_tryBase 145 = some (.invokevirtual 54, 3, 112, 1, .null) := by decide +kernel
theorem fe_X5_tryBase_148 : mj_f mi_X5_tryBase 148 = some (.iadd, 1, 0, 0, .null) := by decide +kernel
theorem fe_X5_tryBase_149 : mj_f mi_X5_tryBase 149 = some (.istore 8, 2, 8, 0, .null) := by decide +kernel
theorem fe_X5_tryBase_151 : mj_f mi_X5_tryBase 151 = some (.iinc 10 (-1), 3, 10, 0, .int (-1)) := by decide +kernel
theorem fe_X5_tryBase_154 : mj_f mi_X5_tryBase 154 = some (.goto (-97), 3, 57, 0, .null) := by decide +kernel
theorem fe_X5_tryBase_157 : mj_f mi_X5_tryBase 157 = some (.return_, 1, 0, 0, .null) := by decide +kernel
def ct_X5_keepIfBetter : MJT := [
  (0, 0, .iload 5, 2, 5, 0, .null),
  (2, 0, .aload_n 0, 1, 0, 0, .null),
  (3, 218, .getfield 26, 3, 5, 4, .int 0),
  (6, 0, .if_icmp .lt 20, 3, 26, 0, .null),
  (9, 0, .iload 5, 2, 5, 0, .null),
  (11, 0, .aload_n 0, 1, 0, 0, .null),
  (12, 218, .getfield 26, 3, 5, 4, .int 0),
  (15, 0, .if_icmp .ne 33, 3, 48, 0, .null),
  (18, 0, .iload_n 3, 1, 3, 0, .null),
  (19, 0, .aload_n 0, 1, 0, 0, .null),
  (20, 216, .getfield 19, 3, 5, 2, .int 0),
  (23, 0, .if_icmp .ge 25, 3, 48, 0, .null),
  (26, 0, .aload_n 0, 1, 0, 0, .null),
  (27, 0, .lload_n 1, 1, 1, 0, .null),
  (28, 215, .putfield 15, 3, 5, 1, .long 0),
  (31, 0, .aload_n 0, 1, 0, 0, .null),
  (32, 0, .iload_n 3, 1, 3, 0, .null),
  (33, 216, .putfield 19, 3, 5, 2, .int 0),
  (36, 0, .aload_n 0, 1, 0, 0, .null),
  (37, 0, .iload 4, 2, 4, 0, .null),
  (39, 217, .putfield 23, 3, 5, 3, .int 0),
  (42, 0, .aload_n 0, 1, 0, 0, .null),
  (43, 0, .iload 5, 2, 5, 0, .null),
  (45, 218, .putfield 26, 3, 5, 4, .int 0),
  (48, 0, .return_, 1, 0, 0, .null)]
abbrev id_X5_keepIfBetter : Nat := 65
def mi_X5_keepIfBetter : MI := (yX5_keepIfBetter, cX5_keepIfBetter, 6, none, 5, ct_X5_keepIfBetter)
theorem fe_X5_keepIfBetter_0 : mj_f mi_X5_keepIfBetter 0 = some (.iload 5, 2, 5, 0, .null) := by decide +kernel
theorem fe_X5_keepIfBetter_2 : mj_f mi_X5_keepIfBetter 2 = some (.aload_n 0, 1, 0, 0, .null) := by decide +kernel
theorem fe_X5_keepIfBetter_3 : mj_f mi_X5_keepIfBetter 3 = some (.getfield 26, 3, 5, 4, .int 0) := by decide +kernel
theorem fe_X5_keepIfBetter_6 : mj_f mi_X5_keepIfBetter 6 = some (.if_icmp .lt 20, 3, 26, 0, .null) := by decide +kernel
theorem fe_X5_keepIfBetter_9 : mj_f mi_X5_keepIfBetter 9 = some (.iload 5, 2, 5, 0, .null) := by decide +kernel
theorem fe_X5_keepIfBetter_11 : mj_f mi_X5_keepIfBetter 11 = some (.aload_n 0, 1, 0, 0, .null) := by decide +kernel
theorem fe_X5_keepIfBetter_12 : mj_f mi_X5_keepIfBetter 12 = some (.getfield 26, 3, 5, 4, .int 0) := by decide +kernel
theorem fe_X5_keepIfBetter_15 : mj_f mi_X5_keepIfBetter 15 = some (.if_icmp .ne 33, 3, 48, 0, .null) := by decide +kernel
theorem fe_X5_keepIfBetter_18 : mj_f mi_X5_keepIfBetter 18 = some (.iload_n 3, 1, 3, 0, .null) := by decide +kernel
theorem fe_X5_keepIfBetter_19 : mj_f mi_X5_keepIfBetter 19 = some (.aload_n 0, 1, 0, 0, .null) := by decide +kernel
theorem fe_X5_keepIfBetter_20 : mj_f mi_X5_keepIfBetter 20 = some (.getfield 19, 3, 5, 2, .int 0) := by decide +kernel
theorem fe_X5_keepIfBetter_23 : mj_f mi_X5_keepIfBetter 23 = some (.if_icmp .ge 25, 3, 48, 0, .null) := by decide +kernel
theorem fe_X5_keepIfBetter_26 : mj_f mi_X5_keepIfBetter 26 = some (.aload_n 0, 1, 0, 0, .null) := by decide +kernel
theorem fe_X5_keepIfBetter_27 : mj_f mi_X5_keepIfBetter 27 = some (.lload_n 1, 1, 1, 0, .null) := by decide +kernel
theorem fe_X5_keepIfBetter_28 : mj_f mi_X5_keepIfBetter 28 = some (.putfield 15, 3, 5, 1, .long 0) := by decide +kernel
theorem fe_X5_keepIfBetter_31 : mj_f mi_X5_keepIfBetter 31 = some (.aload_n 0, 1, 0, 0, .null) := by decide +kernel
theorem fe_X5_keepIfBetter_32 : mj_f mi_X5_keepIfBetter 32 = some (.iload_n 3, 1, 3, 0, .null) := by decide +kernel
theorem fe_X5_keepIfBetter_33 : mj_f mi_X5_keepIfBetter 33 = some (.putfield 19, 3, 5, 2, .int 0) := by decide +kernel
theorem fe_X5_keepIfBetter_36 : mj_f mi_X5_keepIfBetter 36 = some (.aload_n 0, 1, 0, 0, .null) := by decide +kernel
theorem fe_X5_keepIfBetter_37 : mj_f mi_X5_keepIfBetter 37 = some (.iload 4, 2, 4, 0, .null) := by decide +kernel
theorem fe_X5_keepIfBetter_39 : mj_f mi_X5_keepIfBetter 39 = some (.putfield 23, 3, 5, 3, .int 0) := by decide +kernel
theorem fe_X5_keepIfBetter_42 : mj_f mi_X5_keepIfBetter 42 = some (.aload_n 0, 1, 0, 0, .null) := by decide +kernel
theorem fe_X5_keepIfBetter_43 : mj_f mi_X5_keepIfBetter 43 = some (.iload 5, 2, 5, 0, .null) := by decide +kernel
theorem fe_X5_keepIfBetter_45 : mj_f mi_X5_keepIfBetter 45 = some (.putfield 26, 3, 5, 4, .int 0) := by decide +kernel
theorem fe_X5_keepIfBetter_48 : mj_f mi_X5_keepIfBetter 48 = some (.return_, 1, 0, 0, .null) := by decide +kernel
def ct_X5_covers : MJT := [
  (0, 0, .lload_n 1, 1, 1, 0, .null),
  (1, 0, .aload_n 0, 1, 0, 0, .null),
  (2, 215, .getfield 15, 3, 5, 1, .long 0),
  (5, 0, .lcmp, 1, 0, 0, .null),
  (6, 0, .ifCond .lt 23, 3, 29, 0, .null),
  (9, 0, .lload_n 1, 1, 1, 0, .null),
  (10, 0, .aload_n 0, 1, 0, 0, .null),
  (11, 215, .getfield 15, 3, 5, 1, .long 0),
  (14, 0, .lsub, 1, 0, 0, .null),
  (15, 772, .invokestatic 64, 3, 173, 1, .int 1),
  (18, 0, .aload_n 0, 1, 0, 0, .null),
  (19, 216, .getfield 19, 3, 5, 2, .int 0),
  (22, 0, .if_icmp .gt 7, 3, 29, 0, .null),
  (25, 0, .iconst 1, 1, 0, 0, .int (1)),
  (26, 0, .goto 4, 3, 30, 0, .null),
  (29, 0, .iconst 0, 1, 0, 0, .int (0)),
  (30, 0, .ireturn, 1, 0, 0, .null)]
abbrev id_X5_covers : Nat := 66
def mi_X5_covers : MI := (yX5_covers, cX5_covers, 3, (some .boolean), 5, ct_X5_covers)
theorem fe_X5_covers_0 : mj_f mi_X5_covers 0 = some (.lload_n 1, 1, 1, 0, .null) := by decide +kernel
theorem fe_X5_covers_1 : mj_f mi_X5_covers 1 = some (.aload_n 0, 1, 0, 0, .null) := by decide +kernel
theorem fe_X5_covers_2 : mj_f mi_X5_covers 2 = some (.getfield 15, 3, 5, 1, .long 0) := by decide +kernel
theorem fe_X5_covers_5 : mj_f mi_X5_covers 5 = some (.lcmp, 1, 0, 0, .null) := by decide +kernel
theorem fe_X5_covers_6 : mj_f mi_X5_covers 6 = some (.ifCond .lt 23, 3, 29, 0, .null) := by decide +kernel
theorem fe_X5_covers_9 : mj_f mi_X5_covers 9 = some (.lload_n 1, 1, 1, 0, .null) := by decide +kernel
theorem fe_X5_covers_10 : mj_f mi_X5_covers 10 = some (.aload_n 0, 1, 0, 0, .null) := by decide +kernel
theorem fe_X5_covers_11 : mj_f mi_X5_covers 11 = some (.getfield 15, 3, 5, 1, .long 0) := by decide +kernel
theorem fe_X5_covers_14 : mj_f mi_X5_covers 14 = some (.lsub, 1, 0, 0, .null) := by decide +kernel
theorem fe_X5_covers_15 : mj_f mi_X5_covers 15 = some (.invokestatic 64, 3, 173, 1, .int 1) := by decide +kernel
theorem fe_X5_covers_18 : mj_f mi_X5_covers 18 = some (.aload_n 0, 1, 0, 0, .null) := by decide +kernel
theorem fe_X5_covers_19 : mj_f mi_X5_covers 19 = some (.getfield 19, 3, 5, 2, .int 0) := by decide +kernel
theorem fe_X5_covers_22 : mj_f mi_X5_covers 22 = some (.if_icmp .gt 7, 3, 29, 0, .null) := by decide +kernel
theorem fe_X5_covers_25 : mj_f mi_X5_covers 25 = some (.iconst 1, 1, 0, 0, .int (1)) := by decide +kernel
theorem fe_X5_covers_26 : mj_f mi_X5_covers 26 = some (.goto 4, 3, 30, 0, .null) := by decide +kernel
theorem fe_X5_covers_29 : mj_f mi_X5_covers 29 = some (.iconst 0, 1, 0, 0, .int (0)) := by decide +kernel
theorem fe_X5_covers_30 : mj_f mi_X5_covers 30 = some (.ireturn, 1, 0, 0, .null) := by decide +kernel
def ct_X6_init : MJT := [
  (0, 0, .aload_n 0, 1, 0, 0, .null),
  (1, 333, .invokespecial 3, 3, 1000, 0, .null),
  (4, 0, .aload_n 0, 1, 0, 0, .null),
  (5, 334, .new 9, 3, 1, 0, .null),
  (8, 0, .dup, 1, 0, 0, .null),
  (9, 335, .invokespecial 11, 3, 10, 0, .int 1),
  (12, 336, .putfield 12, 3, 6, 0, .null),
  (15, 0, .aload_n 0, 1, 0, 0, .null),
  (16, 0, .iconst 4, 1, 0, 0, .int (4)),
  (17, 0, .newarray .int, 2, 0, 0, .null),
  (19, 337, .putfield 18, 3, 6, 1, .null),
  (22, 0, .aload_n 0, 1, 0, 0, .null),
  (23, 0, .iconst 4, 1, 0, 0, .int (4)),
  (24, 0, .newarray .long, 2, 0, 0, .null),
  (26, 338, .putfield 22, 3, 6, 2, .null),
  (29, 0, .aload_n 0, 1, 0, 0, .null),
  (30, 0, .iconst 0, 1, 0, 0, .int (0)),
  (31, 339, .putfield 26, 3, 6, 3, .int 0),
  (34, 0, .aload_n 0, 1, 0, 0, .null),
  (35, 0, .iconst 0, 1, 0, 0, .int (0)),
  (36, 340, .putfield 30, 3, 6, 4, .int 0),
  (39, 0, .aload_n 0, 1, 0, 0, .null),
  (40, 0, .iconst 0, 1, 0, 0, .int (0)),
  (41, 341, .putfield 33, 3, 6, 5, .int 0),
  (44, 0, .aload_n 0, 1, 0, 0, .null),
  (45, 0, .iconst 0, 1, 0, 0, .int (0)),
  (46, 342, .putfield 36, 3, 6, 6, .int 0),
  (49, 0, .aload_n 0, 1, 0, 0, .null),
  (50, 0, .iconst 0, 1, 0, 0, .int (0)),
  (51, 343, .putfield 39, 3, 6, 7, .int 0),
  (54, 0, .aload_n 0, 1, 0, 0, .null),
  (55, 0, .lconst 0, 1, 0, 0, .long 0),
  (56, 344, .putfield 42, 3, 6, 8, .long 0),
  (59, 0, .aload_n 0, 1, 0, 0, .null),
  (60, 0, .lconst 0, 1, 0, 0, .long 0),
  (61, 345, .putfield 46, 3, 6, 9, .long 0),
  (64, 0, .return_, 1, 0, 0, .null)]
abbrev id_X6_init : Nat := 67
def mi_X6_init : MI := (yX6_init, cX6_init, 1, none, 6, ct_X6_init)
theorem fe_X6_init_0 : mj_f mi_X6_init 0 = some (.aload_n 0, 1, 0, 0, .null) := by decide +kernel
theorem fe_X6_init_1 : mj_f mi_X6_init 1 = some (.invokespecial 3, 3, 1000, 0, .null) := by decide +kernel
theorem fe_X6_init_4 : mj_f mi_X6_init 4 = some (.aload_n 0, 1, 0, 0, .null) := by decide +kernel
theorem fe_X6_init_5 : mj_f mi_X6_init 5 = some (.new 9, 3, 1, 0, .null) := by decide +kernel
theorem fe_X6_init_8 : mj_f mi_X6_init 8 = some (.dup, 1, 0, 0, .null) := by decide +kernel
theorem fe_X6_init_9 : mj_f mi_X6_init 9 = some (.invokespecial 11, 3, 10, 0, .int 1) := by decide +kernel
theorem fe_X6_init_12 : mj_f mi_X6_init 12 = some (.putfield 12, 3, 6, 0, .null) := by decide +kernel
theorem fe_X6_init_15 : mj_f mi_X6_init 15 = some (.aload_n 0, 1, 0, 0, .null) := by decide +kernel
theorem fe_X6_init_16 : mj_f mi_X6_init 16 = some (.iconst 4, 1, 0, 0, .int (4)) := by decide +kernel
theorem fe_X6_init_17 : mj_f mi_X6_init 17 = some (.newarray .int, 2, 0, 0, .null) := by decide +kernel
theorem fe_X6_init_19 : mj_f mi_X6_init 19 = some (.putfield 18, 3, 6, 1, .null) := by decide +kernel
theorem fe_X6_init_22 : mj_f mi_X6_init 22 = some (.aload_n 0, 1, 0, 0, .null) := by decide +kernel
theorem fe_X6_init_23 : mj_f mi_X6_init 23 = some (.iconst 4, 1, 0, 0, .int (4)) := by decide +kernel
theorem fe_X6_init_24 : mj_f mi_X6_init 24 = some (.newarray .long, 2, 0, 0, .null) := by decide +kernel
theorem fe_X6_init_26 : mj_f mi_X6_init 26 = some (.putfield 22, 3, 6, 2, .null) := by decide +kernel
theorem fe_X6_init_29 : mj_f mi_X6_init 29 = some (.aload_n 0, 1, 0, 0, .null) := by decide +kernel
theorem fe_X6_init_30 : mj_f mi_X6_init 30 = some (.iconst 0, 1, 0, 0, .int (0)) := by decide +kernel
theorem fe_X6_init_31 : mj_f mi_X6_init 31 = some (.putfield 26, 3, 6, 3, .int 0) := by decide +kernel
theorem fe_X6_init_34 : mj_f mi_X6_init 34 = some (.aload_n 0, 1, 0, 0, .null) := by decide +kernel
theorem fe_X6_init_35 : mj_f mi_X6_init 35 = some (.iconst 0, 1, 0, 0, .int (0)) := by decide +kernel
theorem fe_X6_init_36 : mj_f mi_X6_init 36 = some (.putfield 30, 3, 6, 4, .int 0) := by decide +kernel
theorem fe_X6_init_39 : mj_f mi_X6_init 39 = some (.aload_n 0, 1, 0, 0, .null) := by decide +kernel
theorem fe_X6_init_40 : mj_f mi_X6_init 40 = some (.iconst 0, 1, 0, 0, .int (0)) := by decide +kernel
theorem fe_X6_init_41 : mj_f mi_X6_init 41 = some (.putfield 33, 3, 6, 5, .int 0) := by decide +kernel
theorem fe_X6_init_44 : mj_f mi_X6_init 44 = some (.aload_n 0, 1, 0, 0, .null) := by decide +kernel
theorem fe_X6_init_45 : mj_f mi_X6_init 45 = some (.iconst 0, 1, 0, 0, .int (0)) := by decide +kernel
theorem fe_X6_init_46 : mj_f mi_X6_init 46 = some (.putfield 36, 3, 6, 6, .int 0) := by decide +kernel
theorem fe_X6_init_49 : mj_f mi_X6_init 49 = some (.aload_n 0, 1, 0, 0, .null) := by decide +kernel
theorem fe_X6_init_50 : mj_f mi_X6_init 50 = some (.iconst 0, 1, 0, 0, .int (0)) := by decide +kernel
theorem fe_X6_init_51 : mj_f mi_X6_init 51 = some (.putfield 39, 3, 6, 7, .int 0) := by decide +kernel
theorem fe_X6_init_54 : mj_f mi_X6_init 54 = some (.aload_n 0, 1, 0, 0, .null) := by decide +kernel
theorem fe_X6_init_55 : mj_f mi_X6_init 55 = some (.lconst 0, 1, 0, 0, .long 0) := by decide +kernel
theorem fe_X6_init_56 : mj_f mi_X6_init 56 = some (.putfield 42, 3, 6, 8, .long 0) := by decide +kernel
theorem fe_X6_init_59 : mj_f mi_X6_init 59 = some (.aload_n 0, 1, 0, 0, .null) := by decide +kernel
theorem fe_X6_init_60 : mj_f mi_X6_init 60 = some (.lconst 0, 1, 0, 0, .long 0) := by decide +kernel
theorem fe_X6_init_61 : mj_f mi_X6_init 61 = some (.putfield 46, 3, 6, 9, .long 0) := by decide +kernel
theorem fe_X6_init_64 : mj_f mi_X6_init 64 = some (.return_, 1, 0, 0, .null) := by decide +kernel
def ct_X6_bytes : MJT := [
  (0, 0, .aload_n 0, 1, 0, 0, .null),
  (1, 336, .getfield 12, 3, 6, 0, .null),
  (4, 0, .areturn, 1, 0, 0, .null)]
abbrev id_X6_bytes : Nat := 68
def mi_X6_bytes : MI := (yX6_bytes, cX6_bytes, 1, (some (.object "PackedColumns$Bytes")), 6, ct_X6_bytes)
theorem fe_X6_bytes_0 : mj_f mi_X6_bytes 0 = some (.aload_n 0, 1, 0, 0, .null) := by decide +kernel
theorem fe_X6_bytes_1 : mj_f mi_X6_bytes 1 = some (.getfield 12, 3, 6, 0, .null) := by decide +kernel
theorem fe_X6_bytes_4 : mj_f mi_X6_bytes 4 = some (.areturn, 1, 0, 0, .null) := by decide +kernel
def ct_X6_size : MJT := [
  (0, 0, .aload_n 0, 1, 0, 0, .null),
  (1, 336, .getfield 12, 3, 6, 0, .null),
  (4, 1006, .invokevirtual 49, 3, 11, 0, .null),
  (7, 0, .ireturn, 1, 0, 0, .null)]
abbrev id_X6_size : Nat := 69
def mi_X6_size : MI := (yX6_size, cX6_size, 1, (some .int), 6, ct_X6_size)
theorem fe_X6_size_0 : mj_f mi_X6_size 0 = some (.aload_n 0, 1, 0, 0, .null) := by decide +kernel
theorem fe_X6_size_1 : mj_f mi_X6_size 1 = some (.getfield 12, 3, 6, 0, .null) := by decide +kernel
theorem fe_X6_size_4 : mj_f mi_X6_size 4 = some (.invokevirtual 49, 3, 11, 0, .null) := by decide +kernel
theorem fe_X6_size_7 : mj_f mi_X6_size 7 = some (.ireturn, 1, 0, 0, .null) := by decide +kernel
def ct_X6_byteAt : MJT := [
  (0, 0, .aload_n 0, 1, 0, 0, .null),
  (1, 336, .getfield 12, 3, 6, 0, .null),
  (4, 0, .iload_n 1, 1, 1, 0, .null),
  (5, 1072, .invokevirtual 53, 3, 13, 1, .null),
  (8, 0, .ireturn, 1, 0, 0, .null)]
abbrev id_X6_byteAt : Nat := 70
def mi_X6_byteAt : MI := (yX6_byteAt, cX6_byteAt, 2, (some .int), 6, ct_X6_byteAt)
theorem fe_X6_byteAt_0 : mj_f mi_X6_byteAt 0 = some (.aload_n 0, 1, 0, 0, .null) := by decide +kernel
theorem fe_X6_byteAt_1 : mj_f mi_X6_byteAt 1 = some (.getfield 12, 3, 6, 0, .null) := by decide +kernel
theorem fe_X6_byteAt_4 : mj_f mi_X6_byteAt 4 = some (.iload_n 1, 1, 1, 0, .null) := by decide +kernel
theorem fe_X6_byteAt_5 : mj_f mi_X6_byteAt 5 = some (.invokevirtual 53, 3, 13, 1, .null) := by decide +kernel
theorem fe_X6_byteAt_8 : mj_f mi_X6_byteAt 8 = some (.ireturn, 1, 0, 0, .null) := by decide +kernel
def ct_X6_changeTotal : MJT := [
  (0, 0, .aload_n 0, 1, 0, 0, .null),
  (1, 339, .getfield 26, 3, 6, 3, .int 0),
  (4, 0, .ireturn, 1, 0, 0, .null)]
abbrev id_X6_changeTotal : Nat := 71
def mi_X6_changeTotal : MI := (yX6_changeTotal, cX6_changeTotal, 1, (some .int), 6, ct_X6_changeTotal)
theorem fe_X6_changeTotal_0 : mj_f mi_X6_changeTotal 0 = some (.aload_n 0, 1, 0, 0, .null) := by decide +kernel
theorem fe_X6_changeTotal_1 : mj_f mi_X6_changeTotal 1 = some (.getfield 26, 3, 6, 3, .int 0) := by decide +kernel
theorem fe_X6_changeTotal_4 : mj_f mi_X6_changeTotal 4 = some (.ireturn, 1, 0, 0, .null) := by decide +kernel
def ct_X6_pathWritten : MJT := [
  (0, 0, .aload_n 0, 1, 0, 0, .null),
  (1, 341, .getfield 33, 3, 6, 5, .int 0),
  (4, 0, .ireturn, 1, 0, 0, .null)]
abbrev id_X6_pathWritten : Nat := 72
def mi_X6_pathWritten : MI := (yX6_pathWritten, cX6_pathWritten, 1, (some .int), 6, ct_X6_pathWritten)
theorem fe_X6_pathWritten_0 : mj_f mi_X6_pathWritten 0 = some (.aload_n 0, 1, 0, 0, .null) := by decide +kernel
theorem fe_X6_pathWritten_1 : mj_f mi_X6_pathWritten 1 = some (.getfield 33, 3, 6, 5, .int 0) := by decide +kernel
theorem fe_X6_pathWritten_4 : mj_f mi_X6_pathWritten 4 = some (.ireturn, 1, 0, 0, .null) := by decide +kernel
def ct_X6_workToRead : MJT := [
  (0, 0, .aload_n 0, 1, 0, 0, .null),
  (1, 342, .getfield 36, 3, 6, 6, .int 0),
  (4, 0, .ireturn, 1, 0, 0, .null)]
abbrev id_X6_workToRead : Nat := 73
def mi_X6_workToRead : MI := (yX6_workToRead, cX6_workToRead, 1, (some .int), 6, ct_X6_workToRead)
theorem fe_X6_workToRead_0 : mj_f mi_X6_workToRead 0 = some (.aload_n 0, 1, 0, 0, .null) := by decide +kernel
theorem fe_X6_workToRead_1 : mj_f mi_X6_workToRead 1 = some (.getfield 36, 3, 6, 6, .int 0) := by decide +kernel
theorem fe_X6_workToRead_4 : mj_f mi_X6_workToRead 4 = some (.ireturn, 1, 0, 0, .null) := by decide +kernel
def ct_X6_gapTotal : MJT := [
  (0, 0, .aload_n 0, 1, 0, 0, .null),
  (1, 340, .getfield 30, 3, 6, 4, .int 0),
  (4, 0, .aload_n 0, 1, 0, 0, .null),
  (5, 343, .getfield 39, 3, 6, 7, .int 0),
  (8, 0, .isub, 1, 0, 0, .null),
  (9, 0, .ireturn, 1, 0, 0, .null)]
abbrev id_X6_gapTotal : Nat := 74
def mi_X6_gapTotal : MI := (yX6_gapTotal, cX6_gapTotal, 1, (some .int), 6, ct_X6_gapTotal)
theorem fe_X6_gapTotal_0 : mj_f mi_X6_gapTotal 0 = some (.aload_n 0, 1, 0, 0, .null) := by decide +kernel
theorem fe_X6_gapTotal_1 : mj_f mi_X6_gapTotal 1 = some (.getfield 30, 3, 6, 4, .int 0) := by decide +kernel
theorem fe_X6_gapTotal_4 : mj_f mi_X6_gapTotal 4 = some (.aload_n 0, 1, 0, 0, .null) := by decide +kernel
theorem fe_X6_gapTotal_5 : mj_f mi_X6_gapTotal 5 = some (.getfield 39, 3, 6, 7, .int 0) := by decide +kernel
theorem fe_X6_gapTotal_8 : mj_f mi_X6_gapTotal 8 = some (.isub, 1, 0, 0, .null) := by decide +kernel
theorem fe_X6_gapTotal_9 : mj_f mi_X6_gapTotal 9 = some (.ireturn, 1, 0, 0, .null) := by decide +kernel
def ct_X6_present : MJT := [
  (0, 0, .aload_n 0, 1, 0, 0, .null),
  (1, 343, .getfield 39, 3, 6, 7, .int 0),
  (4, 0, .ireturn, 1, 0, 0, .null)]
abbrev id_X6_present : Nat := 75
def mi_X6_present : MI := (yX6_present, cX6_present, 1, (some .int), 6, ct_X6_present)
theorem fe_X6_present_0 : mj_f mi_X6_present 0 = some (.aload_n 0, 1, 0, 0, .null) := by decide +kernel
theorem fe_X6_present_1 : mj_f mi_X6_present 1 = some (.getfield 39, 3, 6, 7, .int 0) := by decide +kernel
theorem fe_X6_present_4 : mj_f mi_X6_present 4 = some (.ireturn, 1, 0, 0, .null) := by decide +kernel
def ct_X6_copyTo : MJT := [
  (0, 0, .aload_n 1, 1, 1, 0, .null),
  (1, 0, .aload_n 0, 1, 0, 0, .null),
  (2, 336, .getfield 12, 3, 6, 0, .null),
  (5, 1169, .invokevirtual 57, 3, 22, 1, .null),
  (8, 0, .return_, 1, 0, 0, .null)]
abbrev id_X6_copyTo : Nat := 76
def mi_X6_copyTo : MI := (yX6_copyTo, cX6_copyTo, 2, none, 6, ct_X6_copyTo)
theorem fe_X6_copyTo_0 : mj_f mi_X6_copyTo 0 = some (.aload_n 1, 1, 1, 0, .null) := by decide +kernel
theorem fe_X6_copyTo_1 : mj_f mi_X6_copyTo 1 = some (.aload_n 0, 1, 0, 0, .null) := by decide +kernel
theorem fe_X6_copyTo_2 : mj_f mi_X6_copyTo 2 = some (.getfield 12, 3, 6, 0, .null) := by decide +kernel
theorem fe_X6_copyTo_5 : mj_f mi_X6_copyTo 5 = some (.invokevirtual 57, 3, 22, 1, .null) := by decide +kernel
theorem fe_X6_copyTo_8 : mj_f mi_X6_copyTo 8 = some (.return_, 1, 0, 0, .null) := by decide +kernel
def ct_X6_describe : MJT := [
  (0, 0, .aload_n 0, 1, 0, 0, .null),
  (1, 0, .iload_n 2, 1, 2, 0, .null),
  (2, 341, .putfield 33, 3, 6, 5, .int 0),
  (5, 0, .aload_n 0, 1, 0, 0, .null),
  (6, 0, .iload_n 3, 1, 3, 0, .null),
  (7, 342, .putfield 36, 3, 6, 6, .int 0),
  (10, 0, .aload_n 0, 1, 0, 0, .null),
  (11, 0, .iconst 0, 1, 0, 0, .int (0)),
  (12, 339, .putfield 26, 3, 6, 3, .int 0),
  (15, 0, .aload_n 0, 1, 0, 0, .null),
  (16, 0, .aload_n 1, 1, 1, 0, .null),
  (17, 944, .invokevirtual 61, 3, 78, 1, .null),
  (20, 0, .return_, 1, 0, 0, .null)]
abbrev id_X6_describe : Nat := 77
def mi_X6_describe : MI := (yX6_describe, cX6_describe, 4, none, 6, ct_X6_describe)
theorem fe_X6_describe_0 : mj_f mi_X6_describe 0 = some (.aload_n 0, 1, 0, 0, .null) := by decide +kernel
theorem fe_X6_describe_1 : mj_f mi_X6_describe 1 = some (.iload_n 2, 1, 2, 0, .null) := by decide +kernel
theorem fe_X6_describe_2 : mj_f mi_X6_describe 2 = some (.putfield 33, 3, 6, 5, .int 0) := by decide +kernel
theorem fe_X6_describe_5 : mj_f mi_X6_describe 5 = some (.aload_n 0, 1, 0, 0, .null) := by decide +kernel
theorem fe_X6_describe_6 : mj_f mi_X6_describe 6 = some (.iload_n 3, 1, 3, 0, .null) := by decide +kernel
theorem fe_X6_describe_7 : mj_f mi_X6_describe 7 = some (.putfield 36, 3, 6, 6, .int 0) := by decide +kernel
theorem fe_X6_describe_10 : mj_f mi_X6_describe 10 = some (.aload_n 0, 1, 0, 0, .null) := by decide +kernel
theorem fe_X6_describe_11 : mj_f mi_X6_describe 11 = some (.iconst 0, 1, 0, 0, .int (0)) := by decide +kernel
theorem fe_X6_describe_12 : mj_f mi_X6_describe 12 = some (.putfield 26, 3, 6, 3, .int 0) := by decide +kernel
theorem fe_X6_describe_15 : mj_f mi_X6_describe 15 = some (.aload_n 0, 1, 0, 0, .null) := by decide +kernel
theorem fe_X6_describe_16 : mj_f mi_X6_describe 16 = some (.aload_n 1, 1, 1, 0, .null) := by decide +kernel
theorem fe_X6_describe_17 : mj_f mi_X6_describe 17 = some (.invokevirtual 61, 3, 78, 1, .null) := by decide +kernel
theorem fe_X6_describe_20 : mj_f mi_X6_describe 20 = some (.return_, 1, 0, 0, .null) := by decide +kernel
def ct_X6_measure : MJT := [
  (0, 0, .aload_n 0, 1, 0, 0, .null),
  (1, 0, .aload_n 1, 1, 1, 0, .null),
  (2, 948, .invokevirtual 65, 3, 1, 0, .null),
  (5, 340, .putfield 30, 3, 6, 4, .int 0),
  (8, 0, .aload_n 0, 1, 0, 0, .null),
  (9, 0, .iconst 0, 1, 0, 0, .int (0)),
  (10, 343, .putfield 39, 3, 6, 7, .int 0),
  (13, 0, .iconst 0, 1, 0, 0, .int (0)),
  (14, 0, .istore_n 2, 1, 2, 0, .null),
  (15, 0, .iload_n 2, 1, 2, 0, .null),
  (16, 0, .aload_n 0, 1, 0, 0, .null),
  (17, 340, .getfield 30, 3, 6, 4, .int 0),
  (20, 0, .if_icmp .ge 79, 3, 99, 0, .null),
  (23, 0, .aload_n 1, 1, 1, 0, .null),
  (24, 0, .iload_n 2, 1, 2, 0, .null),
  (25, 949, .invokevirtual 68, 3, 2, 1, .null),
  (28, 0, .ifCond .ne 65, 3, 93, 0, .null),
  (31, 0, .aload_n 1, 1, 1, 0, .null),
  (32, 0, .iload_n 2, 1, 2, 0, .null),
  (33, 950, .invokevirtual 72, 3, 3, 1, .null),
  (36, 0, .lstore_n 3, 1, 3, 0, .null),
  (37, 0, .aload_n 0, 1, 0, 0, .null),
  (38, 0, .aload_n 0, 1, 0, 0, .null),
  (39, 343, .getfield 39, 3, 6, 7, .int 0),
  (42, 0, .ifCond .ne 7, 3, 49, 0, .null),
  (45, 0, .lload_n 3, 1, 3, 0, .null),
  (46, 0, .goto 11, 3, 57, 0, .null),
  (49, 0, .aload_n 0, 1, 0, 0, .null),
  (50, 344, .getfield 42, 3, 6, 8, .long 0),
  (53, 0, .lload_n 3, 1, 3, 0, .null),
  (54, 951, .invokestatic 76, 3, 263, 2, .null),
  (57, 344, .putfield 42, 3, 6, 8, .long 0),
  (60, 0, .aload_n 0, 1, 0, 0, .null),
  (61, 0, .aload_n 0, 1, 0, 0, .null),
  (62, 343, .getfield 39, 3, 6, 7, .int 0),
  (65, 0, .ifCond .ne 7, 3, 72, 0, .null),
  (68, 0, .lload_n 3, 1, 3, 0, .null),
  (69, 0, .goto 11, 3, 80, 0, .null),
  (72, 0, .aload_n 0, 1, 0, 0, .null),
  (73, 345, .getfield 46, 3, 6, 9, .long 0),
  (76, 0, .lload_n 3, 1, 3, 0, .null),
  (77, 952, .invokestatic 82, 3, 261, 2, .null),
  (80, 345, .putfield 46, 3, 6, 9, .long 0),
  (83, 0, .aload_n 0, 1, 0, 0, .null),
  (84, 0, .dup, 1, 0, 0, .null),
  (85, 343, .getfield 39, 3, 6, 7, .int 0),
  (88, 0, .iconst 1, 1, 0, 0, .int (1)),
  (89, 0, .iadd, 1, 0, 0, .null),
  (90, 343, .putfield 39, 3, 6, 7, .int 0),
  (93, 0, .iinc 2 1, 3, 2, 0, .int (1)),
  (96, 0, .goto (-81), 3, 15, 0, .null),
  (99, 0, .return_, 1, 0, 0, .null)]
abbrev id_X6_measure : Nat := 78
def mi_X6_measure : MI := (yX6_measure, cX6_measure, 5, none, 6, ct_X6_measure)
theorem fe_X6_measure_0 : mj_f mi_X6_measure 0 = some (.aload_n 0, 1, 0, 0, .null) := by decide +kernel
theorem fe_X6_measure_1 : mj_f mi_X6_measure 1 = some (.aload_n 1, 1, 1, 0, .null) := by decide +kernel
theorem fe_X6_measure_2 : mj_f mi_X6_measure 2 = some (.invokevirtual 65, 3, 1, 0, .null) := by decide +kernel
theorem fe_X6_measure_5 : mj_f mi_X6_measure 5 = some (.putfield 30, 3, 6, 4, .int 0) := by decide +kernel
theorem fe_X6_measure_8 : mj_f mi_X6_measure 8 = some (.aload_n 0, 1, 0, 0, .null) := by decide +kernel
theorem fe_X6_measure_9 : mj_f mi_X6_measure 9 = some (.iconst 0, 1, 0, 0, .int (0)) := by decide +kernel
theorem fe_X6_measure_10 : mj_f mi_X6_measure 10 = some (.putfield 39, 3, 6, 7, .int 0) := by decide +kernel
theorem fe_X6_measure_13 : mj_f mi_X6_measure 13 = some (.iconst 0, 1, 0, 0, .int (0)) := by decide +kernel
theorem fe_X6_measure_14 : mj_f mi_X6_measure 14 = some (.istore_n 2, 1, 2, 0, .null) := by decide +kernel
theorem fe_X6_measure_15 : mj_f mi_X6_measure 15 = some (.iload_n 2, 1, 2, 0, .null) := by decide +kernel
theorem fe_X6_measure_16 : mj_f mi_X6_measure 16 = some (.aload_n 0, 1, 0, 0, .null) := by decide +kernel
theorem fe_X6_measure_17 : mj_f mi_X6_measure 17 = some (.getfield 30, 3, 6, 4, .int 0) := by decide +kernel
theorem fe_X6_measure_20 : mj_f mi_X6_measure 20 = some (.if_icmp .ge 79, 3, 99, 0, .null) := by decide +kernel
theorem fe_X6_measure_23 : mj_f mi_X6_measure 23 = some (.aload_n 1, 1, 1, 0, .null) := by decide +kernel
theorem fe_X6_measure_24 : mj_f mi_X6_measure 24 = some (.iload_n 2, 1, 2, 0, .null) := by decide +kernel
theorem fe_X6_measure_25 : mj_f mi_X6_measure 25 = some (.invokevirtual 68, 3, 2, 1, .null) := by decide +kernel
theorem fe_X6_measure_28 : mj_f mi_X6_measure 28 = some (.ifCond .ne 65, 3, 93, 0, .null) := by decide +kernel
theorem fe_X6_measure_31 : mj_f mi_X6_measure 31 = some (.aload_n 1, 1, 1, 0, .null) := by decide +kernel
theorem fe_X6_measure_32 : mj_f mi_X6_measure 32 = some (.iload_n 2, 1, 2, 0, .null) := by decide +kernel
theorem fe_X6_measure_33 : mj_f mi_X6_measure 33 = some (.invokevirtual 72, 3, 3, 1, .null) := by decide +kernel
theorem fe_X6_measure_36 : mj_f mi_X6_measure 36 = some (.lstore_n 3, 1, 3, 0, .null) := by decide +kernel
theorem fe_X6_measure_37 : mj_f mi_X6_measure 37 = some (.aload_n 0, 1, 0, 0, .null) := by decide +kernel
theorem fe_X6_measure_38 : mj_f mi_X6_measure 38 = some (.aload_n 0, 1, 0, 0, .null) := by decide +kernel
theorem fe_X6_measure_39 : mj_f mi_X6_measure 39 = some (.getfield 39, 3, 6, 7, .int 0) := by decide +kernel
theorem fe_X6_measure_42 : mj_f mi_X6_measure 42 = some (.ifCond .ne 7, 3, 49, 0, .null) := by decide +kernel
theorem fe_X6_measure_45 : mj_f mi_X6_measure 45 = some (.lload_n 3, 1, 3, 0, .null) := by decide +kernel
theorem fe_X6_measure_46 : mj_f mi_X6_measure 46 = some (.goto 11, 3, 57, 0, .null) := by decide +kernel
theorem fe_X6_measure_49 : mj_f mi_X6_measure 49 = some (.aload_n 0, 1, 0, 0, .null) := by decide +kernel
theorem fe_X6_measure_50 : mj_f mi_X6_measure 50 = some (.getfield 42, 3, 6, 8, .long 0) := by decide +kernel
theorem fe_X6_measure_53 : mj_f mi_X6_measure 53 = some (.lload_n 3, 1, 3, 0, .null) := by decide +kernel
theorem fe_X6_measure_54 : mj_f mi_X6_measure 54 = some (.invokestatic 76, 3, 263, 2, .null) := by decide +kernel
theorem fe_X6_measure_57 : mj_f mi_X6_measure 57 = some (.putfield 42, 3, 6, 8, .long 0) := by decide +kernel
theorem fe_X6_measure_60 : mj_f mi_X6_measure 60 = some (.aload_n 0, 1, 0, 0, .null) := by decide +kernel
theorem fe_X6_measure_61 : mj_f mi_X6_measure 61 = some (.aload_n 0, 1, 0, 0, .null) := by decide +kernel
theorem fe_X6_measure_62 : mj_f mi_X6_measure 62 = some (.getfield 39, 3, 6, 7, .int 0) := by decide +kernel
theorem fe_X6_measure_65 : mj_f mi_X6_measure 65 = some (.ifCond .ne 7, 3, 72, 0, .null) := by decide +kernel
theorem fe_X6_measure_68 : mj_f mi_X6_measure 68 = some (.lload_n 3, 1, 3, 0, .null) := by decide +kernel
theorem fe_X6_measure_69 : mj_f mi_X6_measure 69 = some (.goto 11, 3, 80, 0, .null) := by decide +kernel
theorem fe_X6_measure_72 : mj_f mi_X6_measure 72 = some (.aload_n 0, 1, 0, 0, .null) := by decide +kernel
theorem fe_X6_measure_73 : mj_f mi_X6_measure 73 = some (.getfield 46, 3, 6, 9, .long 0) := by decide +kernel
theorem fe_X6_measure_76 : mj_f mi_X6_measure 76 = some (.lload_n 3, 1, 3, 0, .null) := by decide +kernel
theorem fe_X6_measure_77 : mj_f mi_X6_measure 77 = some (.invokestatic 82, 3, 261, 2, .null) := by decide +kernel
theorem fe_X6_measure_80 : mj_f mi_X6_measure 80 = some (.putfield 46, 3, 6, 9, .long 0) := by decide +kernel
theorem fe_X6_measure_83 : mj_f mi_X6_measure 83 = some (.aload_n 0, 1, 0, 0, .null) := by decide +kernel
theorem fe_X6_measure_84 : mj_f mi_X6_measure 84 = some (.dup, 1, 0, 0, .null) := by decide +kernel
theorem fe_X6_measure_85 : mj_f mi_X6_measure 85 = some (.getfield 39, 3, 6, 7, .int 0) := by decide +kernel
theorem fe_X6_measure_88 : mj_f mi_X6_measure 88 = some (.iconst 1, 1, 0, 0, .int (1)) := by decide +kernel
theorem fe_X6_measure_89 : mj_f mi_X6_measure 89 = some (.iadd, 1, 0, 0, .null) := by decide +kernel
theorem fe_X6_measure_90 : mj_f mi_X6_measure 90 = some (.putfield 39, 3, 6, 7, .int 0) := by decide +kernel
theorem fe_X6_measure_93 : mj_f mi_X6_measure 93 = some (.iinc 2 1, 3, 2, 0, .int (1)) := by decide +kernel
theorem fe_X6_measure_96 : mj_f mi_X6_measure 96 = some (.goto (-81), 3, 15, 0, .null) := by decide +kernel
theorem fe_X6_measure_99 : mj_f mi_X6_measure 99 = some (.return_, 1, 0, 0, .null) := by decide +kernel
def ct_X6_note : MJT := [
  (0, 0, .iconst 0, 1, 0, 0, .int (0)),
  (1, 0, .istore 4, 2, 4, 0, .null),
  (3, 0, .iload 4, 2, 4, 0, .null),
  (5, 0, .aload_n 0, 1, 0, 0, .null),
  (6, 339, .getfield 26, 3, 6, 3, .int 0),
  (9, 0, .if_icmp .ge 26, 3, 35, 0, .null),
  (12, 0, .iload 4, 2, 4, 0, .null),
  (14, 0, .iconst 4, 1, 0, 0, .int (4)),
  (15, 0, .if_icmp .ge 20, 3, 35, 0, .null),
  (18, 0, .aload_n 0, 1, 0, 0, .null),
  (19, 337, .getfield 18, 3, 6, 1, .null),
  (22, 0, .iload 4, 2, 4, 0, .null),
  (24, 0, .iaload, 1, 0, 0, .null),
  (25, 0, .iload_n 1, 1, 1, 0, .null),
  (26, 0, .if_icmp .eq 9, 3, 35, 0, .null),
  (29, 0, .iinc 4 1, 3, 4, 0, .int (1)),
  (32, 0, .goto (-29), 3, 3, 0, .null),
  (35, 0, .iload 4, 2, 4, 0, .null),
  (37, 0, .ifCond .lt 9, 3, 46, 0, .null),
  (40, 0, .iload 4, 2, 4, 0, .null),
  (42, 0, .iconst 4, 1, 0, 0, .int (4)),
  (43, 0, .if_icmp .lt 5, 3, 48, 0, .null),
  (46, 0, .iconst 0, 1, 0, 0, .int (0)),
  (47, 0, .ireturn, 1, 0, 0, .null),
  (48, 0, .aload_n 0, 1, 0, 0, .null),
  (49, 337, .getfield 18, 3, 6, 1, .null),
  (52, 0, .iload 4, 2, 4, 0, .null),
  (54, 0, .iload_n 1, 1, 1, 0, .null),
  (55, 0, .iastore, 1, 0, 0, .null),
  (56, 0, .aload_n 0, 1, 0, 0, .null),
  (57, 338, .getfield 22, 3, 6, 2, .null),
  (60, 0, .iload 4, 2, 4, 0, .null),
  (62, 0, .lload_n 2, 1, 2, 0, .null),
  (63, 0, .lastore, 1, 0, 0, .null),
  (64, 0, .aload_n 0, 1, 0, 0, .null),
  (65, 0, .aload_n 0, 1, 0, 0, .null),
  (66, 339, .getfield 26, 3, 6, 3, .int 0),
  (69, 0, .iload 4, 2, 4, 0, .null),
  (71, 0, .iconst 1, 1, 0, 0, .int (1)),
  (72, 0, .iadd, 1, 0, 0, .null),
  (73, 984, .invokestatic 85, 3, 260, 2, .null),
  (76, 339, .putfield 26, 3, 6, 3, .int 0),
  (79, 0, .iconst 1, 1, 0, 0, .int (1)),
  (80, 0, .ireturn, 1, 0, 0, .null)]
abbrev id_X6_note : Nat := 79
def mi_X6_note : MI := (yX6_note, cX6_note, 5, (some .boolean), 6, ct_X6_note)
theorem fe_X6_note_0 : mj_f mi_X6_note 0 = some (.iconst 0, 1, 0, 0, .int (0)) := by decide +kernel
theorem fe_X6_note_1 : mj_f mi_X6_note 1 = some (.istore 4, 2, 4, 0, .null) := by decide +kernel
theorem fe_X6_note_3 : mj_f mi_X6_note 3 = some (.iload 4, 2, 4, 0, .null) := by decide +kernel
theorem fe_X6_note_5 : mj_f mi_X6_note 5 = some (.aload_n 0, 1, 0, 0, .null) := by decide +kernel
theorem fe_X6_note_6 : mj_f mi_X6_note 6 = some (.getfield 26, 3, 6, 3, .int 0) := by decide +kernel
theorem fe_X6_note_9 : mj_f mi_X6_note 9 = some (.if_icmp .ge 26, 3, 35, 0, .null) := by decide +kernel
theorem fe_X6_note_12 : mj_f mi_X6_note 12 = some (.iload 4, 2, 4, 0, .null) := by decide +kernel
theorem fe_X6_note_14 : mj_f mi_X6_note 14 = some (.iconst 4, 1, 0, 0, .int (4)) := by decide +kernel
theorem fe_X6_note_15 : mj_f mi_X6_note 15 = some (.if_icmp .ge 20, 3, 35, 0, .null) := by decide +kernel
theorem fe_X6_note_18 : mj_f mi_X6_note 18 = some (.aload_n 0, 1, 0, 0, .null) := by decide +kernel
theorem fe_X6_note_19 : mj_f mi_X6_note 19 = some (.getfield 18, 3, 6, 1, .null) := by decide +kernel
theorem fe_X6_note_22 : mj_f mi_X6_note 22 = some (.iload 4, 2, 4, 0, .null) := by decide +kernel
theorem fe_X6_note_24 : mj_f mi_X6_note 24 = some (.iaload, 1, 0, 0, .null) := by decide +kernel
theorem fe_X6_note_25 : mj_f mi_X6_note 25 = some (.iload_n 1, 1, 1, 0, .null) := by decide +kernel
theorem fe_X6_note_26 : mj_f mi_X6_note 26 = some (.if_icmp .eq 9, 3, 35, 0, .null) := by decide +kernel
theorem fe_X6_note_29 : mj_f mi_X6_note 29 = some (.iinc 4 1, 3, 4, 0, .int (1)) := by decide +kernel
theorem fe_X6_note_32 : mj_f mi_X6_note 32 = some (.goto (-29), 3, 3, 0, .null) := by decide +kernel
theorem fe_X6_note_35 : mj_f mi_X6_note 35 = some (.iload 4, 2, 4, 0, .null) := by decide +kernel
theorem fe_X6_note_37 : mj_f mi_X6_note 37 = some (.ifCond .lt 9, 3, 46, 0, .null) := by decide +kernel
theorem fe_X6_note_40 : mj_f mi_X6_note 40 = some (.iload 4, 2, 4, 0, .null) := by decide +kernel
theorem fe_X6_note_42 : mj_f mi_X6_note 42 = some (.iconst 4, 1, 0, 0, .int (4)) := by decide +kernel
theorem fe_X6_note_43 : mj_f mi_X6_note 43 = some (.if_icmp .lt 5, 3, 48, 0, .null) := by decide +kernel
theorem fe_X6_note_46 : mj_f mi_X6_note 46 = some (.iconst 0, 1, 0, 0, .int (0)) := by decide +kernel
theorem fe_X6_note_47 : mj_f mi_X6_note 47 = some (.ireturn, 1, 0, 0, .null) := by decide +kernel
theorem fe_X6_note_48 : mj_f mi_X6_note 48 = some (.aload_n 0, 1, 0, 0, .null) := by decide +kernel
theorem fe_X6_note_49 : mj_f mi_X6_note 49 = some (.getfield 18, 3, 6, 1, .null) := by decide +kernel
theorem fe_X6_note_52 : mj_f mi_X6_note 52 = some (.iload 4, 2, 4, 0, .null) := by decide +kernel
theorem fe_X6_note_54 : mj_f mi_X6_note 54 = some (.iload_n 1, 1, 1, 0, .null) := by decide +kernel
theorem fe_X6_note_55 : mj_f mi_X6_note 55 = some (.iastore, 1, 0, 0, .null) := by decide +kernel
theorem fe_X6_note_56 : mj_f mi_X6_note 56 = some (.aload_n 0, 1, 0, 0, .null) := by decide +kernel
theorem fe_X6_note_57 : mj_f mi_X6_note 57 = some (.getfield 22, 3, 6, 2, .null) := by decide +kernel
theorem fe_X6_note_60 : mj_f mi_X6_note 60 = some (.iload 4, 2, 4, 0, .null) := by decide +kernel
theorem fe_X6_note_62 : mj_f mi_X6_note 62 = some (.lload_n 2, 1, 2, 0, .null) := by decide +kernel
theorem fe_X6_note_63 : mj_f mi_X6_note 63 = some (.lastore, 1, 0, 0, .null) := by decide +kernel
theorem fe_X6_note_64 : mj_f mi_X6_note 64 = some (.aload_n 0, 1, 0, 0, .null) := by decide +kernel
theorem fe_X6_note_65 : mj_f mi_X6_note 65 = some (.aload_n 0, 1, 0, 0, .null) := by decide +kernel
theorem fe_X6_note_66 : mj_f mi_X6_note 66 = some (.getfield 26, 3, 6, 3, .int 0) := by decide +kernel
theorem fe_X6_note_69 : mj_f mi_X6_note 69 = some (.iload 4, 2, 4, 0, .null) := by decide +kernel
theorem fe_X6_note_71 : mj_f mi_X6_note 71 = some (.iconst 1, 1, 0, 0, .int (1)) := by decide +kernel
theorem fe_X6_note_72 : mj_f mi_X6_note 72 = some (.iadd, 1, 0, 0, .null) := by decide +kernel
theorem fe_X6_note_73 : mj_f mi_X6_note 73 = some (.invokestatic 85, 3, 260, 2, .null) := by decide +kernel
theorem fe_X6_note_76 : mj_f mi_X6_note 76 = some (.putfield 26, 3, 6, 3, .int 0) := by decide +kernel
theorem fe_X6_note_79 : mj_f mi_X6_note 79 = some (.iconst 1, 1, 0, 0, .int (1)) := by decide +kernel
theorem fe_X6_note_80 : mj_f mi_X6_note 80 = some (.ireturn, 1, 0, 0, .null) := by decide +kernel
def ct_X6_changeIn : MJT := [
  (0, 0, .iconst 0, 1, 0, 0, .int (0)),
  (1, 0, .istore_n 2, 1, 2, 0, .null),
  (2, 0, .iload_n 2, 1, 2, 0, .null),
  (3, 0, .aload_n 0, 1, 0, 0, .null),
  (4, 339, .getfield 26, 3, 6, 3, .int 0),
  (7, 0, .if_icmp .ge 30, 3, 37, 0, .null),
  (10, 0, .iload_n 2, 1, 2, 0, .null),
  (11, 0, .iconst 4, 1, 0, 0, .int (4)),
  (12, 0, .if_icmp .ge 25, 3, 37, 0, .null),
  (15, 0, .aload_n 1, 1, 1, 0, .null),
  (16, 0, .aload_n 0, 1, 0, 0, .null),
  (17, 337, .getfield 18, 3, 6, 1, .null),
  (20, 0, .iload_n 2, 1, 2, 0, .null),
  (21, 0, .iaload, 1, 0, 0, .null),
  (22, 0, .aload_n 0, 1, 0, 0, .null),
  (23, 338, .getfield 22, 3, 6, 2, .null),
  (26, 0, .iload_n 2, 1, 2, 0, .null),
  (27, 0, .laload, 1, 0, 0, .null),
  (28, 657, .invokevirtual 88, 3, 6, 2, .null),
  (31, 0, .iinc 2 1, 3, 2, 0, .int (1)),
  (34, 0, .goto (-32), 3, 2, 0, .null),
  (37, 0, .return_, 1, 0, 0, .null)]
abbrev id_X6_changeIn : Nat := 80
def mi_X6_changeIn : MI := (yX6_changeIn, cX6_changeIn, 3, none, 6, ct_X6_changeIn)
theorem fe_X6_changeIn_0 : mj_f mi_X6_changeIn 0 = some (.iconst 0, 1, 0, 0, .int (0)) := by decide +kernel
theorem fe_X6_changeIn_1 : mj_f mi_X6_changeIn 1 = some (.istore_n 2, 1, 2, 0, .null) := by decide +kernel
theorem fe_X6_changeIn_2 : mj_f mi_X6_changeIn 2 = some (.iload_n 2, 1, 2, 0, .null) := by decide +kernel
theorem fe_X6_changeIn_3 : mj_f mi_X6_changeIn 3 = some (.aload_n 0, 1, 0, 0, .null) := by decide +kernel
theorem fe_X6_changeIn_4 : mj_f mi_X6_changeIn 4 = some (.getfield 26, 3, 6, 3, .int 0) := by decide +kernel
theorem fe_X6_changeIn_7 : mj_f mi_X6_changeIn 7 = some (.if_icmp .ge 30, 3, 37, 0, .null) := by decide +kernel
theorem fe_X6_changeIn_10 : mj_f mi_X6_changeIn 10 = some (.iload_n 2, 1, 2, 0, .null) := by decide +kernel
theorem fe_X6_changeIn_11 : mj_f mi_X6_changeIn 11 = some (.iconst 4, 1, 0, 0, .int (4)) := by decide +kernel
theorem fe_X6_changeIn_12 : mj_f mi_X6_changeIn 12 = some (.if_icmp .ge 25, 3, 37, 0, .null) := by decide +kernel
theorem fe_X6_changeIn_15 : mj_f mi_X6_changeIn 15 = some (.aload_n 1, 1, 1, 0, .null) := by decide +kernel
theorem fe_X6_changeIn_16 : mj_f mi_X6_changeIn 16 = some (.aload_n 0, 1, 0, 0, .null) := by decide +kernel
theorem fe_X6_changeIn_17 : mj_f mi_X6_changeIn 17 = some (.getfield 18, 3, 6, 1, .null) := by decide +kernel
theorem fe_X6_changeIn_20 : mj_f mi_X6_changeIn 20 = some (.iload_n 2, 1, 2, 0, .null) := by decide +kernel
theorem fe_X6_changeIn_21 : mj_f mi_X6_changeIn 21 = some (.iaload, 1, 0, 0, .null) := by decide +kernel
theorem fe_X6_changeIn_22 : mj_f mi_X6_changeIn 22 = some (.aload_n 0, 1, 0, 0, .null) := by decide +kernel
theorem fe_X6_changeIn_23 : mj_f mi_X6_changeIn 23 = some (.getfield 22, 3, 6, 2, .null) := by decide +kernel
theorem fe_X6_changeIn_26 : mj_f mi_X6_changeIn 26 = some (.iload_n 2, 1, 2, 0, .null) := by decide +kernel
theorem fe_X6_changeIn_27 : mj_f mi_X6_changeIn 27 = some (.laload, 1, 0, 0, .null) := by decide +kernel
theorem fe_X6_changeIn_28 : mj_f mi_X6_changeIn 28 = some (.invokevirtual 88, 3, 6, 2, .null) := by decide +kernel
theorem fe_X6_changeIn_31 : mj_f mi_X6_changeIn 31 = some (.iinc 2 1, 3, 2, 0, .int (1)) := by decide +kernel
theorem fe_X6_changeIn_34 : mj_f mi_X6_changeIn 34 = some (.goto (-32), 3, 2, 0, .null) := by decide +kernel
theorem fe_X6_changeIn_37 : mj_f mi_X6_changeIn 37 = some (.return_, 1, 0, 0, .null) := by decide +kernel
def ct_X6_isApart : MJT := [
  (0, 0, .aload_n 0, 1, 0, 0, .null),
  (1, 343, .getfield 39, 3, 6, 7, .int 0),
  (4, 0, .ifCond .eq 21, 3, 25, 0, .null),
  (7, 0, .aload_n 0, 1, 0, 0, .null),
  (8, 345, .getfield 46, 3, 6, 9, .long 0),
  (11, 0, .lload_n 1, 1, 1, 0, .null),
  (12, 0, .lcmp, 1, 0, 0, .null),
  (13, 0, .ifCond .lt 12, 3, 25, 0, .null),
  (16, 0, .aload_n 0, 1, 0, 0, .null),
  (17, 344, .getfield 42, 3, 6, 8, .long 0),
  (20, 0, .lload_n 3, 1, 3, 0, .null),
  (21, 0, .lcmp, 1, 0, 0, .null),
  (22, 0, .ifCond .le 7, 3, 29, 0, .null),
  (25, 0, .iconst 1, 1, 0, 0, .int (1)),
  (26, 0, .goto 4, 3, 30, 0, .null),
  (29, 0, .iconst 0, 1, 0, 0, .int (0)),
  (30, 0, .ireturn, 1, 0, 0, .null)]
abbrev id_X6_isApart : Nat := 81
def mi_X6_isApart : MI := (yX6_isApart, cX6_isApart, 5, (some .boolean), 6, ct_X6_isApart)
theorem fe_X6_isApart_0 : mj_f mi_X6_isApart 0 = some (.aload_n 0, 1, 0, 0, .null) := by decide +kernel
theorem fe_X6_isApart_1 : mj_f mi_X6_isApart 1 = some (.getfield 39, 3, 6, 7, .int 0) := by decide +kernel
theorem fe_X6_isApart_4 : mj_f mi_X6_isApart 4 = some (.ifCond .eq 21, 3, 25, 0, .null) := by decide +kernel
theorem fe_X6_isApart_7 : mj_f mi_X6_isApart 7 = some (.aload_n 0, 1, 0, 0, .null) := by decide +kernel
theorem fe_X6_isApart_8 : mj_f mi_X6_isApart 8 = some (.getfield 46, 3, 6, 9, .long 0) := by decide +kernel
theorem fe_X6_isApart_11 : mj_f mi_X6_isApart 11 = some (.lload_n 1, 1, 1, 0, .null) := by decide +kernel
theorem fe_X6_isApart_12 : mj_f mi_X6_isApart 12 = some (.lcmp, 1, 0, 0, .null) := by decide +kernel
theorem fe_X6_isApart_13 : mj_f mi_X6_isApart 13 = some (.ifCond .lt 12, 3, 25, 0, .null) := by decide +kernel
theorem fe_X6_isApart_16 : mj_f mi_X6_isApart 16 = some (.aload_n 0, 1, 0, 0, .null) := by decide +kernel
theorem fe_X6_isApart_17 : mj_f mi_X6_isApart 17 = some (.getfield 42, 3, 6, 8, .long 0) := by decide +kernel
theorem fe_X6_isApart_20 : mj_f mi_X6_isApart 20 = some (.lload_n 3, 1, 3, 0, .null) := by decide +kernel
theorem fe_X6_isApart_21 : mj_f mi_X6_isApart 21 = some (.lcmp, 1, 0, 0, .null) := by decide +kernel
theorem fe_X6_isApart_22 : mj_f mi_X6_isApart 22 = some (.ifCond .le 7, 3, 29, 0, .null) := by decide +kernel
theorem fe_X6_isApart_25 : mj_f mi_X6_isApart 25 = some (.iconst 1, 1, 0, 0, .int (1)) := by decide +kernel
theorem fe_X6_isApart_26 : mj_f mi_X6_isApart 26 = some (.goto 4, 3, 30, 0, .null) := by decide +kernel
theorem fe_X6_isApart_29 : mj_f mi_X6_isApart 29 = some (.iconst 0, 1, 0, 0, .int (0)) := by decide +kernel
theorem fe_X6_isApart_30 : mj_f mi_X6_isApart 30 = some (.ireturn, 1, 0, 0, .null) := by decide +kernel
def ct_X6_isWithin : MJT := [
  (0, 0, .aload_n 0, 1, 0, 0, .null),
  (1, 344, .getfield 42, 3, 6, 8, .long 0),
  (4, 0, .lload_n 1, 1, 1, 0, .null),
  (5, 0, .lcmp, 1, 0, 0, .null),
  (6, 0, .ifCond .lt 16, 3, 22, 0, .null),
  (9, 0, .aload_n 0, 1, 0, 0, .null),
  (10, 345, .getfield 46, 3, 6, 9, .long 0),
  (13, 0, .lload_n 3, 1, 3, 0, .null),
  (14, 0, .lcmp, 1, 0, 0, .null),
  (15, 0, .ifCond .gt 7, 3, 22, 0, .null),
  (18, 0, .iconst 1, 1, 0, 0, .int (1)),
  (19, 0, .goto 4, 3, 23, 0, .null),
  (22, 0, .iconst 0, 1, 0, 0, .int (0)),
  (23, 0, .ireturn, 1, 0, 0, .null)]
abbrev id_X6_isWithin : Nat := 82
def mi_X6_isWithin : MI := (yX6_isWithin, cX6_isWithin, 5, (some .boolean), 6, ct_X6_isWithin)
theorem fe_X6_isWithin_0 : mj_f mi_X6_isWithin 0 = some (.aload_n 0, 1, 0, 0, .null) := by decide +kernel
theorem fe_X6_isWithin_1 : mj_f mi_X6_isWithin 1 = some (.getfield 42, 3, 6, 8, .long 0) := by decide +kernel
theorem fe_X6_isWithin_4 : mj_f mi_X6_isWithin 4 = some (.lload_n 1, 1, 1, 0, .null) := by decide +kernel
theorem fe_X6_isWithin_5 : mj_f mi_X6_isWithin 5 = some (.lcmp, 1, 0, 0, .null) := by decide +kernel
theorem fe_X6_isWithin_6 : mj_f mi_X6_isWithin 6 = some (.ifCond .lt 16, 3, 22, 0, .null) := by decide +kernel
theorem fe_X6_isWithin_9 : mj_f mi_X6_isWithin 9 = some (.aload_n 0, 1, 0, 0, .null) := by decide +kernel
theorem fe_X6_isWithin_10 : mj_f mi_X6_isWithin 10 = some (.getfield 46, 3, 6, 9, .long 0) := by decide +kernel
theorem fe_X6_isWithin_13 : mj_f mi_X6_isWithin 13 = some (.lload_n 3, 1, 3, 0, .null) := by decide +kernel
theorem fe_X6_isWithin_14 : mj_f mi_X6_isWithin 14 = some (.lcmp, 1, 0, 0, .null) := by decide +kernel
theorem fe_X6_isWithin_15 : mj_f mi_X6_isWithin 15 = some (.ifCond .gt 7, 3, 22, 0, .null) := by decide +kernel
theorem fe_X6_isWithin_18 : mj_f mi_X6_isWithin 18 = some (.iconst 1, 1, 0, 0, .int (1)) := by decide +kernel
theorem fe_X6_isWithin_19 : mj_f mi_X6_isWithin 19 = some (.goto 4, 3, 23, 0, .null) := by decide +kernel
theorem fe_X6_isWithin_22 : mj_f mi_X6_isWithin 22 = some (.iconst 0, 1, 0, 0, .int (0)) := by decide +kernel
theorem fe_X6_isWithin_23 : mj_f mi_X6_isWithin 23 = some (.ireturn, 1, 0, 0, .null) := by decide +kernel
def ct_X7_init : MJT := [
  (0, 0, .aload_n 0, 1, 0, 0, .null),
  (1, 131, .invokespecial 3, 3, 1000, 0, .null),
  (4, 0, .aload_n 0, 1, 0, 0, .null),
  (5, 132, .new 9, 3, 8, 0, .null),
  (8, 0, .dup, 1, 0, 0, .null),
  (9, 134, .invokespecial 11, 3, 107, 0, .int 1),
  (12, 156, .putfield 12, 3, 7, 0, .null),
  (15, 0, .aload_n 0, 1, 0, 0, .null),
  (16, 132, .new 9, 3, 8, 0, .null),
  (19, 0, .dup, 1, 0, 0, .null),
  (20, 134, .invokespecial 11, 3, 107, 0, .int 1),
  (23, 157, .putfield 18, 3, 7, 1, .null),
  (26, 0, .aload_n 0, 1, 0, 0, .null),
  (27, 132, .new 9, 3, 8, 0, .null),
  (30, 0, .dup, 1, 0, 0, .null),
  (31, 134, .invokespecial 11, 3, 107, 0, .int 1),
  (34, 158, .putfield 21, 3, 7, 2, .null),
  (37, 0, .aload_n 0, 1, 0, 0, .null),
  (38, 0, .iconst 3, 1, 0, 0, .int (3)),
  (39, 0, .newarray .int, 2, 0, 0, .null),
  (41, 159, .putfield 24, 3, 7, 3, .null),
  (44, 0, .aload_n 0, 1, 0, 0, .null),
  (45, 0, .iconst 3, 1, 0, 0, .int (3)),
  (46, 0, .newarray .int, 2, 0, 0, .null),
  (48, 160, .putfield 28, 3, 7, 4, .null),
  (51, 0, .aload_n 0, 1, 0, 0, .null),
  (52, 0, .iconst 3, 1, 0, 0, .int (3)),
  (53, 0, .newarray .long, 2, 0, 0, .null),
  (55, 161, .putfield 31, 3, 7, 5, .null),
  (58, 0, .aload_n 0, 1, 0, 0, .null),
  (59, 0, .bipush 32, 2, 0, 0, .int (32)),
  (61, 0, .newarray .int, 2, 0, 0, .null),
  (63, 162, .putfield 35, 3, 7, 6, .null),
  (66, 0, .aload_n 0, 1, 0, 0, .null),
  (67, 0, .bipush 32, 2, 0, 0, .int (32)),
  (69, 0, .newarray .long, 2, 0, 0, .null),
  (71, 163, .putfield 38, 3, 7, 7, .null),
  (74, 0, .aload_n 0, 1, 0, 0, .null),
  (75, 0, .iconst 0, 1, 0, 0, .int (0)),
  (76, 164, .putfield 41, 3, 7, 8, .int 0),
  (79, 0, .aload_n 0, 1, 0, 0, .null),
  (80, 0, .iconst 0, 1, 0, 0, .int (0)),
  (81, 165, .putfield 45, 3, 7, 9, .int 0),
  (84, 0, .aload_n 0, 1, 0, 0, .null),
  (85, 0, .iconst 0, 1, 0, 0, .int (0)),
  (86, 166, .putfield 48, 3, 7, 10, .int 0),
  (89, 0, .aload_n 0, 1, 0, 0, .null),
  (90, 0, .iconst 0, 1, 0, 0, .int (0)),
  (91, 167, .putfield 51, 3, 7, 11, .int 0),
  (94, 0, .aload_n 0, 1, 0, 0, .null),
  (95, 0, .iconst 0, 1, 0, 0, .int (0)),
  (96, 168, .putfield 54, 3, 7, 12, .int 0),
  (99, 0, .aload_n 0, 1, 0, 0, .null),
  (100, 0, .iconst (-1), 1, 0, 0, .int (-1)),
  (101, 169, .putfield 57, 3, 7, 13, .int 0),
  (104, 0, .return_, 1, 0, 0, .null)]
abbrev id_X7_init : Nat := 83
def mi_X7_init : MI := (yX7_init, cX7_init, 1, none, 7, ct_X7_init)
theorem fe_X7_init_0 : mj_f mi_X7_init 0 = some (.aload_n 0, 1, 0, 0, .null) := by decide +kernel
theorem fe_X7_init_1 : mj_f mi_X7_init 1 = some (.invokespecial 3, 3, 1000, 0, .null) := by decide +kernel
theorem fe_X7_init_4 : mj_f mi_X7_init 4 = some (.aload_n 0, 1, 0, 0, .null) := by decide +kernel
theorem fe_X7_init_5 : mj_f mi_X7_init 5 = some (.new 9, 3, 8, 0, .null) := by decide +kernel
theorem fe_X7_init_8 : mj_f mi_X7_init 8 = some (.dup, 1, 0, 0, .null) := by decide +kernel
theorem fe_X7_init_9 : mj_f mi_X7_init 9 = some (.invokespecial 11, 3, 107, 0, .int 1) := by decide +kernel
theorem fe_X7_init_12 : mj_f mi_X7_init 12 = some (.putfield 12, 3, 7, 0, .null) := by decide +kernel
theorem fe_X7_init_15 : mj_f mi_X7_init 15 = some (.aload_n 0, 1, 0, 0, .null) := by decide +kernel
theorem fe_X7_init_16 : mj_f mi_X7_init 16 = some (.new 9, 3, 8, 0, .null) := by decide +kernel
theorem fe_X7_init_19 : mj_f mi_X7_init 19 = some (.dup, 1, 0, 0, .null) := by decide +kernel
theorem fe_X7_init_20 : mj_f mi_X7_init 20 = some (.invokespecial 11, 3, 107, 0, .int 1) := by decide +kernel
theorem fe_X7_init_23 : mj_f mi_X7_init 23 = some (.putfield 18, 3, 7, 1, .null) := by decide +kernel
theorem fe_X7_init_26 : mj_f mi_X7_init 26 = some (.aload_n 0, 1, 0, 0, .null) := by decide +kernel
theorem fe_X7_init_27 : mj_f mi_X7_init 27 = some (.new 9, 3, 8, 0, .null) := by decide +kernel
theorem fe_X7_init_30 : mj_f mi_X7_init 30 = some (.dup, 1, 0, 0, .null) := by decide +kernel
theorem fe_X7_init_31 : mj_f mi_X7_init 31 = some (.invokespecial 11, 3, 107, 0, .int 1) := by decide +kernel
theorem fe_X7_init_34 : mj_f mi_X7_init 34 = some (.putfield 21, 3, 7, 2, .null) := by decide +kernel
theorem fe_X7_init_37 : mj_f mi_X7_init 37 = some (.aload_n 0, 1, 0, 0, .null) := by decide +kernel
theorem fe_X7_init_38 : mj_f mi_X7_init 38 = some (.iconst 3, 1, 0, 0, .int (3)) := by decide +kernel
theorem fe_X7_init_39 : mj_f mi_X7_init 39 = some (.newarray .int, 2, 0, 0, .null) := by decide +kernel
theorem fe_X7_init_41 : mj_f mi_X7_init 41 = some (.putfield 24, 3, 7, 3, .null) := by decide +kernel
theorem fe_X7_init_44 : mj_f mi_X7_init 44 = some (.aload_n 0, 1, 0, 0, .null) := by decide +kernel
theorem fe_X7_init_45 : mj_f mi_X7_init 45 = some (.iconst 3, 1, 0, 0, .int (3)) := by decide +kernel
theorem fe_X7_init_46 : mj_f mi_X7_init 46 = some (.newarray .int, 2, 0, 0, .null) := by decide +kernel
theorem fe_X7_init_48 : mj_f mi_X7_init 48 = some (.putfield 28, 3, 7, 4, .null) := by decide +kernel
theorem fe_X7_init_51 : mj_f mi_X7_init 51 = some (.aload_n 0, 1, 0, 0, .null) := by decide +kernel
theorem fe_X7_init_52 : mj_f mi_X7_init 52 = some (.iconst 3, 1, 0, 0, .int (3)) := by decide +kernel
theorem fe_X7_init_53 : mj_f mi_X7_init 53 = some (.newarray .long, 2, 0, 0, .null) := by decide +kernel
theorem fe_X7_init_55 : mj_f mi_X7_init 55 = some (.putfield 31, 3, 7, 5, .null) := by decide +kernel
theorem fe_X7_init_58 : mj_f mi_X7_init 58 = some (.aload_n 0, 1, 0, 0, .null) := by decide +kernel
theorem fe_X7_init_59 : mj_f mi_X7_init 59 = some (.bipush 32, 2, 0, 0, .int (32)) := by decide +kernel
theorem fe_X7_init_61 : mj_f mi_X7_init 61 = some (.newarray .int, 2, 0, 0, .null) := by decide +kernel
theorem fe_X7_init_63 : mj_f mi_X7_init 63 = some (.putfield 35, 3, 7, 6, .null) := by decide +kernel
theorem fe_X7_init_66 : mj_f mi_X7_init 66 = some (.aload_n 0, 1, 0, 0, .null) := by decide +kernel
theorem fe_X7_init_67 : mj_f mi_X7_init 67 = some (.bipush 32, 2, 0, 0, .int (32)) := by decide +kernel
theorem fe_X7_init_69 : mj_f mi_X7_init 69 = some (.newarray .long, 2, 0, 0, .null) := by decide +kernel
theorem fe_X7_init_71 : mj_f mi_X7_init 71 = some (.putfield 38, 3, 7, 7, .null) := by decide +kernel
theorem fe_X7_init_74 : mj_f mi_X7_init 74 = some (.aload_n 0, 1, 0, 0, .null) := by decide +kernel
theorem fe_X7_init_75 : mj_f mi_X7_init 75 = some (.iconst 0, 1, 0, 0, .int (0)) := by decide +kernel
theorem fe_X7_init_76 : mj_f mi_X7_init 76 = some (.putfield 41, 3, 7, 8, .int 0) := by decide +kernel
theorem fe_X7_init_79 : mj_f mi_X7_init 79 = some (.aload_n 0, 1, 0, 0, .null) := by decide +kernel
theorem fe_X7_init_80 : mj_f mi_X7_init 80 = some (.iconst 0, 1, 0, 0, .int (0)) := by decide +kernel
theorem fe_X7_init_81 : mj_f mi_X7_init 81 = some (.putfield 45, 3, 7, 9, .int 0) := by decide +kernel
theorem fe_X7_init_84 : mj_f mi_X7_init 84 = some (.aload_n 0, 1, 0, 0, .null) := by decide +kernel
theorem fe_X7_init_85 : mj_f mi_X7_init 85 = some (.iconst 0, 1, 0, 0, .int (0)) := by decide +kernel
theorem fe_X7_init_86 : mj_f mi_X7_init 86 = some (.putfield 48, 3, 7, 10, .int 0) := by decide +kernel
theorem fe_X7_init_89 : mj_f mi_X7_init 89 = some (.aload_n 0, 1, 0, 0, .null) := by decide +kernel
theorem fe_X7_init_90 : mj_f mi_X7_init 90 = some (.iconst 0, 1, 0, 0, .int (0)) := by decide +kernel
theorem fe_X7_init_91 : mj_f mi_X7_init 91 = some (.putfield 51, 3, 7, 11, .int 0) := by decide +kernel
theorem fe_X7_init_94 : mj_f mi_X7_init 94 = some (.aload_n 0, 1, 0, 0, .null) := by decide +kernel
theorem fe_X7_init_95 : mj_f mi_X7_init 95 = some (.iconst 0, 1, 0, 0, .int (0)) := by decide +kernel
theorem fe_X7_init_96 : mj_f mi_X7_init 96 = some (.putfield 54, 3, 7, 12, .int 0) := by decide +kernel
theorem fe_X7_init_99 : mj_f mi_X7_init 99 = some (.aload_n 0, 1, 0, 0, .null) := by decide +kernel
theorem fe_X7_init_100 : mj_f mi_X7_init 100 = some (.iconst (-1), 1, 0, 0, .int (-1)) := by decide +kernel
theorem fe_X7_init_101 : mj_f mi_X7_init 101 = some (.putfield 57, 3, 7, 13, .int 0) := by decide +kernel
theorem fe_X7_init_104 : mj_f mi_X7_init 104 = some (.return_, 1, 0, 0, .null) := by decide +kernel
def ct_X7_kindOfFault : MJT := [
  (0, 0, .aload_n 0, 1, 0, 0, .null),
  (1, 168, .getfield 54, 3, 7, 12, .int 0),
  (4, 0, .ireturn, 1, 0, 0, .null)]
abbrev id_X7_kindOfFault : Nat := 84
def mi_X7_kindOfFault : MI := (yX7_kindOfFault, cX7_kindOfFault, 1, (some .int), 7, ct_X7_kindOfFault)
theorem fe_X7_kindOfFault_0 : mj_f mi_X7_kindOfFault 0 = some (.aload_n 0, 1, 0, 0, .null) := by decide +kernel
theorem fe_X7_kindOfFault_1 : mj_f mi_X7_kindOfFault 1 = some (.getfield 54, 3, 7, 12, .int 0) := by decide +kernel
theorem fe_X7_kindOfFault_4 : mj_f mi_X7_kindOfFault 4 = some (.ireturn, 1, 0, 0, .null) := by decide +kernel
def ct_X7_placeOfFault : MJT := [
  (0, 0, .aload_n 0, 1, 0, 0, .null),
  (1, 169, .getfield 57, 3, 7, 13, .int 0),
  (4, 0, .ireturn, 1, 0, 0, .null)]
abbrev id_X7_placeOfFault : Nat := 85
def mi_X7_placeOfFault : MI := (yX7_placeOfFault, cX7_placeOfFault, 1, (some .int), 7, ct_X7_placeOfFault)
theorem fe_X7_placeOfFault_0 : mj_f mi_X7_placeOfFault 0 = some (.aload_n 0, 1, 0, 0, .null) := by decide +kernel
theorem fe_X7_placeOfFault_1 : mj_f mi_X7_placeOfFault 1 = some (.getfield 57, 3, 7, 13, .int 0) := by decide +kernel
theorem fe_X7_placeOfFault_4 : mj_f mi_X7_placeOfFault 4 = some (.ireturn, 1, 0, 0, .null) := by decide +kernel
def ct_X7_pathRead : MJT := [
  (0, 0, .aload_n 0, 1, 0, 0, .null),
  (1, 166, .getfield 48, 3, 7, 10, .int 0),
  (4, 0, .ireturn, 1, 0, 0, .null)]
abbrev id_X7_pathRead : Nat := 86
def mi_X7_pathRead : MI := (yX7_pathRead, cX7_pathRead, 1, (some .int), 7, ct_X7_pathRead)
theorem fe_X7_pathRead_0 : mj_f mi_X7_pathRead 0 = some (.aload_n 0, 1, 0, 0, .null) := by decide +kernel
theorem fe_X7_pathRead_1 : mj_f mi_X7_pathRead 1 = some (.getfield 48, 3, 7, 10, .int 0) := by decide +kernel
theorem fe_X7_pathRead_4 : mj_f mi_X7_pathRead 4 = some (.ireturn, 1, 0, 0, .null) := by decide +kernel
def ct_X7_workRead : MJT := [
  (0, 0, .aload_n 0, 1, 0, 0, .null),
  (1, 167, .getfield 51, 3, 7, 11, .int 0),
  (4, 0, .ireturn, 1, 0, 0, .null)]
abbrev id_X7_workRead : Nat := 87
def mi_X7_workRead : MI := (yX7_workRead, cX7_workRead, 1, (some .int), 7, ct_X7_workRead)
theorem fe_X7_workRead_0 : mj_f mi_X7_workRead 0 = some (.aload_n 0, 1, 0, 0, .null) := by decide +kernel
theorem fe_X7_workRead_1 : mj_f mi_X7_workRead 1 = some (.getfield 51, 3, 7, 11, .int 0) := by decide +kernel
theorem fe_X7_workRead_4 : mj_f mi_X7_workRead 4 = some (.ireturn, 1, 0, 0, .null) := by decide +kernel
def ct_X7_read : MJT := [
  (0, 0, .aload_n 0, 1, 0, 0, .null),
  (1, 0, .iconst 0, 1, 0, 0, .int (0)),
  (2, 165, .putfield 45, 3, 7, 9, .int 0),
  (5, 0, .aload_n 0, 1, 0, 0, .null),
  (6, 0, .iconst 0, 1, 0, 0, .int (0)),
  (7, 166, .putfield 48, 3, 7, 10, .int 0),
  (10, 0, .aload_n 0, 1, 0, 0, .null),
  (11, 0, .iconst 0, 1, 0, 0, .int (0)),
  (12, 167, .putfield 51, 3, 7, 11, .int 0),
  (15, 0, .aload_n 0, 1, 0, 0, .null),
  (16, 0, .iconst 0, 1, 0, 0, .int (0)),
  (17, 168, .putfield 54, 3, 7, 12, .int 0),
  (20, 0, .aload_n 0, 1, 0, 0, .null),
  (21, 0, .iconst (-1), 1, 0, 0, .int (-1)),
  (22, 169, .putfield 57, 3, 7, 13, .int 0),
  (25, 0, .aload_n 0, 1, 0, 0, .null),
  (26, 0, .aload_n 1, 1, 1, 0, .null),
  (27, 0, .aload_n 2, 1, 2, 0, .null),
  (28, 501, .invokevirtual 60, 3, 93, 2, .null),
  (31, 0, .aload_n 0, 1, 0, 0, .null),
  (32, 0, .aload_n 1, 1, 1, 0, .null),
  (33, 0, .aload_n 2, 1, 2, 0, .null),
  (34, 535, .invokevirtual 64, 3, 7, 0, .null),
  (37, 543, .invokevirtual 70, 3, 94, 2, .null),
  (40, 0, .aload_n 0, 1, 0, 0, .null),
  (41, 0, .aload_n 1, 1, 1, 0, .null),
  (42, 556, .invokevirtual 74, 3, 96, 1, .null),
  (45, 0, .aload_n 0, 1, 0, 0, .null),
  (46, 164, .getfield 41, 3, 7, 8, .int 0),
  (49, 0, .iconst 1, 1, 0, 0, .int (1)),
  (50, 0, .isub, 1, 0, 0, .null),
  (51, 0, .istore_n 3, 1, 3, 0, .null),
  (52, 0, .iload_n 3, 1, 3, 0, .null),
  (53, 0, .ifCond .lt 22, 3, 75, 0, .null),
  (56, 0, .aload_n 0, 1, 0, 0, .null),
  (57, 168, .getfield 54, 3, 7, 12, .int 0),
  (60, 0, .ifCond .ne 15, 3, 75, 0, .null),
  (63, 0, .aload_n 0, 1, 0, 0, .null),
  (64, 0, .aload_n 1, 1, 1, 0, .null),
  (65, 0, .iload_n 3, 1, 3, 0, .null),
  (66, 587, .invokevirtual 78, 3, 100, 2, .null),
  (69, 0, .iinc 3 (-1), 3, 3, 0, .int (-1)),
  (72, 0, .goto (-20), 3, 52, 0, .null),
  (75, 0, .aload_n 0, 1, 0, 0, .null),
  (76, 0, .aload_n 1, 1, 1, 0, .null),
  (77, 632, .invokevirtual 81, 3, 105, 1, .null),
  (80, 0, .aload_n 0, 1, 0, 0, .null),
  (81, 168, .getfield 54, 3, 7, 12, .int 0),
  (84, 0, .ifCond .ne 8, 3, 92, 0, .null),
  (87, 0, .aload_n 0, 1, 0, 0, .null),
  (88, 0, .aload_n 2, 1, 2, 0, .null),
  (89, 640, .invokevirtual 84, 3, 106, 1, .null),
  (92, 0, .aload_n 0, 1, 0, 0, .null),
  (93, 168, .getfield 54, 3, 7, 12, .int 0),
  (96, 0, .ifCond .ne 7, 3, 103, 0, .null),
  (99, 0, .iconst 1, 1, 0, 0, .int (1)),
  (100, 0, .goto 4, 3, 104, 0, .null),
  (103, 0, .iconst 0, 1, 0, 0, .int (0)),
  (104, 0, .ireturn, 1, 0, 0, .null)]
abbrev id_X7_read : Nat := 88
def mi_X7_read : MI := (yX7_read, cX7_read, 4, (some .boolean), 7, ct_X7_read)
theorem fe_X7_read_0 : mj_f mi_X7_read 0 = some (.aload_n 0, 1, 0, 0, .null) := by decide +kernel
theorem fe_X7_read_1 : mj_f mi_X7_read 1 = some (.iconst 0, 1, 0, 0, .int (0)) := by decide +kernel
theorem fe_X7_read_2 : mj_f mi_X7_read 2 = some (.putfield 45, 3, 7, 9, .int 0) := by decide +kernel
theorem fe_X7_read_5 : mj_f mi_X7_read 5 = some (.aload_n 0, 1, 0, 0, .null) := by decide +kernel
theorem fe_X7_read_6 : mj_f mi_X7_read 6 = some (.iconst 0, 1, 0, 0, .int (0)) := by decide +kernel
theorem fe_X7_read_7 : mj_f mi_X7_read 7 = some (.putfield 48, 3, 7, 10, .int 0) := by decide +kernel
theorem fe_X7_read_10 : mj_f mi_X7_read 10 = some (.aload_n 0, 1, 0, 0, .null) := by decide +kernel
theorem fe_X7_read_11 : mj_f mi_X7_read 11 = some (.iconst 0, 1, 0, 0, .int (0)) := by decide +kernel
theorem fe_X7_read_12 : mj_f mi_X7_read 12 = some (.putfield 51, 3, 7, 11, .int 0) := by decide +kernel
theorem fe_X7_read_15 : mj_f mi_X7_read 15 = some (.aload_n 0, 1, 0, 0, .null) := by decide +kernel
theorem fe_X7_read_16 : mj_f mi_X7_read 16 = some (.iconst 0, 1, 0, 0, .int (0)) := by decide +kernel
theorem fe_X7_read_17 : mj_f mi_X7_read 17 = some (.putfield 54, 3, 7, 12, .int 0) := by decide +kernel
theorem fe_X7_read_20 : mj_f mi_X7_read 20 = some (.aload_n 0, 1, 0, 0, .null) := by decide +kernel
theorem fe_X7_read_21 : mj_f mi_X7_read 21 = some (.iconst (-1), 1, 0, 0, .int (-1)) := by decide +kernel
theorem fe_X7_read_22 : mj_f mi_X7_read 22 = some (.putfield 57, 3, 7, 13, .int 0) := by decide +kernel
theorem fe_X7_read_25 : mj_f mi_X7_read 25 = some (.aload_n 0, 1, 0, 0, .null) := by decide +kernel
theorem fe_X7_read_26 : mj_f mi_X7_read 26 = some (.aload_n 1, 1, 1, 0, .null) := by decide +kernel
theorem fe_X7_read_27 : mj_f mi_X7_read 27 = some (.aload_n 2, 1, 2, 0, .null) := by decide +kernel
theorem fe_X7_read_28 : mj_f mi_X7_read 28 = some (.invokevirtual 60, 3, 93, 2, .null) := by decide +kernel
theorem fe_X7_read_31 : mj_f mi_X7_read 31 = some (.aload_n 0, 1, 0, 0, .null) := by decide +kernel
theorem fe_X7_read_32 : mj_f mi_X7_read 32 = some (.aload_n 1, 1, 1, 0, .null) := by decide +kernel
theorem fe_X7_read_33 : mj_f mi_X7_read 33 = some (.aload_n 2, 1, 2, 0, .null) := by decide +kernel
theorem fe_X7_read_34 : mj_f mi_X7_read 34 = some (.invokevirtual 64, 3, 7, 0, .null) := by decide +kernel
theorem fe_X7_read_37 : mj_f mi_X7_read 37 = some (.invokevirtual 70, 3, 94, 2, .null) := by decide +kernel
theorem fe_X7_read_40 : mj_f mi_X7_read 40 = some (.aload_n 0, 1, 0, 0, .null) := by decide +kernel
theorem fe_X7_read_41 : mj_f mi_X7_read 41 = some (.aload_n 1, 1, 1, 0, .null) := by decide +kernel
theorem fe_X7_read_42 : mj_f mi_X7_read 42 = some (.invokevirtual 74, 3, 96, 1, .null) := by decide +kernel
theorem fe_X7_read_45 : mj_f mi_X7_read 45 = some (.aload_n 0, 1, 0, 0, .null) := by decide +kernel
theorem fe_X7_read_46 : mj_f mi_X7_read 46 = some (.getfield 41, 3, 7, 8, .int 0) := by decide +kernel
theorem fe_X7_read_49 : mj_f mi_X7_read 49 = some (.iconst 1, 1, 0, 0, .int (1)) := by decide +kernel
theorem fe_X7_read_50 : mj_f mi_X7_read 50 = some (.isub, 1, 0, 0, .null) := by decide +kernel
theorem fe_X7_read_51 : mj_f mi_X7_read 51 = some (.istore_n 3, 1, 3, 0, .null) := by decide +kernel
theorem fe_X7_read_52 : mj_f mi_X7_read 52 = some (.iload_n 3, 1, 3, 0, .null) := by decide +kernel
theorem fe_X7_read_53 : mj_f mi_X7_read 53 = some (.ifCond .lt 22, 3, 75, 0, .null) := by decide +kernel
theorem fe_X7_read_56 : mj_f mi_X7_read 56 = some (.aload_n 0, 1, 0, 0, .null) := by decide +kernel
theorem fe_X7_read_57 : mj_f mi_X7_read 57 = some (.getfield 54, 3, 7, 12, .int 0) := by decide +kernel
theorem fe_X7_read_60 : mj_f mi_X7_read 60 = some (.ifCond .ne 15, 3, 75, 0, .null) := by decide +kernel
theorem fe_X7_read_63 : mj_f mi_X7_read 63 = some (.aload_n 0, 1, 0, 0, .null) := by decide +kernel
theorem fe_X7_read_64 : mj_f mi_X7_read 64 = some (.aload_n 1, 1, 1, 0, .null) := by decide +kernel
theorem fe_X7_read_65 : mj_f mi_X7_read 65 = some (.iload_n 3, 1, 3, 0, .null) := by decide +kernel
theorem fe_X7_read_66 : mj_f mi_X7_read 66 = some (.invokevirtual 78, 3, 100, 2, .null) := by decide +kernel
theorem fe_X7_read_69 : mj_f mi_X7_read 69 = some (.iinc 3 (-1), 3, 3, 0, .int (-1)) := by decide +kernel
theorem fe_X7_read_72 : mj_f mi_X7_read 72 = some (.goto (-20), 3, 52, 0, .null) := by decide +kernel
theorem fe_X7_read_75 : mj_f mi_X7_read 75 = some (.aload_n 0, 1, 0, 0, .null) := by decide +kernel
theorem fe_X7_read_76 : mj_f mi_X7_read 76 = some (.aload_n 1, 1, 1, 0, .null) := by decide +kernel
theorem fe_X7_read_77 : mj_f mi_X7_read 77 = some (.invokevirtual 81, 3, 105, 1, .null) := by decide +kernel
theorem fe_X7_read_80 : mj_f mi_X7_read 80 = some (.aload_n 0, 1, 0, 0, .null) := by decide +kernel
theorem fe_X7_read_81 : mj_f mi_X7_read 81 = some (.getfield 54, 3, 7, 12, .int 0) := by decide +kernel
theorem fe_X7_read_84 : mj_f mi_X7_read 84 = some (.ifCond .ne 8, 3, 92, 0, .null) := by decide +kernel
theorem fe_X7_read_87 : mj_f mi_X7_read 87 = some (.aload_n 0, 1, 0, 0, .null) := by decide +kernel
theorem fe_X7_read_88 : mj_f mi_X7_read 88 = some (.aload_n 2, 1, 2, 0, .null) := by decide +kernel
theorem fe_X7_read_89 : mj_f mi_X7_read 89 = some (.invokevirtual 84, 3, 106, 1, .null) := by decide +kernel
theorem fe_X7_read_92 : mj_f mi_X7_read 92 = some (.aload_n 0, 1, 0, 0, .null) := by decide +kernel
theorem fe_X7_read_93 : mj_f mi_X7_read 93 = some (.getfield 54, 3, 7, 12, .int 0) := by decide +kernel
theorem fe_X7_read_96 : mj_f mi_X7_read 96 = some (.ifCond .ne 7, 3, 103, 0, .null) := by decide +kernel
theorem fe_X7_read_99 : mj_f mi_X7_read 99 = some (.iconst 1, 1, 0, 0, .int (1)) := by decide +kernel
theorem fe_X7_read_100 : mj_f mi_X7_read 100 = some (.goto 4, 3, 104, 0, .null) := by decide +kernel
theorem fe_X7_read_103 : mj_f mi_X7_read 103 = some (.iconst 0, 1, 0, 0, .int (0)) := by decide +kernel
theorem fe_X7_read_104 : mj_f mi_X7_read 104 = some (.ireturn, 1, 0, 0, .null) := by decide +kernel
def ct_X7_fail : MJT := [
  (0, 0, .aload_n 0, 1, 0, 0, .null),
  (1, 168, .getfield 54, 3, 7, 12, .int 0),
  (4, 0, .ifCond .ne 13, 3, 17, 0, .null),
  (7, 0, .aload_n 0, 1, 0, 0, .null),
  (8, 0, .iload_n 1, 1, 1, 0, .null),
  (9, 168, .putfield 54, 3, 7, 12, .int 0),
  (12, 0, .aload_n 0, 1, 0, 0, .null),
  (13, 0, .iload_n 2, 1, 2, 0, .null),
  (14, 169, .putfield 57, 3, 7, 13, .int 0),
  (17, 0, .return_, 1, 0, 0, .null)]
abbrev id_X7_fail : Nat := 89
def mi_X7_fail : MI := (yX7_fail, cX7_fail, 3, none, 7, ct_X7_fail)
theorem fe_X7_fail_0 : mj_f mi_X7_fail 0 = some (.aload_n 0, 1, 0, 0, .null) := by decide +kernel
theorem fe_X7_fail_1 : mj_f mi_X7_fail 1 = some (.getfield 54, 3, 7, 12, .int 0) := by decide +kernel
theorem fe_X7_fail_4 : mj_f mi_X7_fail 4 = some (.ifCond .ne 13, 3, 17, 0, .null) := by decide +kernel
theorem fe_X7_fail_7 : mj_f mi_X7_fail 7 = some (.aload_n 0, 1, 0, 0, .null) := by decide +kernel
theorem fe_X7_fail_8 : mj_f mi_X7_fail 8 = some (.iload_n 1, 1, 1, 0, .null) := by decide +kernel
theorem fe_X7_fail_9 : mj_f mi_X7_fail 9 = some (.putfield 54, 3, 7, 12, .int 0) := by decide +kernel
theorem fe_X7_fail_12 : mj_f mi_X7_fail 12 = some (.aload_n 0, 1, 0, 0, .null) := by decide +kernel
theorem fe_X7_fail_13 : mj_f mi_X7_fail 13 = some (.iload_n 2, 1, 2, 0, .null) := by decide +kernel
theorem fe_X7_fail_14 : mj_f mi_X7_fail 14 = some (.putfield 57, 3, 7, 13, .int 0) := by decide +kernel
theorem fe_X7_fail_17 : mj_f mi_X7_fail 17 = some (.return_, 1, 0, 0, .null) := by decide +kernel
def ct_X7_byteWithin : MJT := [
  (0, 0, .aload_n 1, 1, 1, 0, .null),
  (1, 0, .aload_n 0, 1, 0, 0, .null),
  (2, 165, .getfield 45, 3, 7, 9, .int 0),
  (5, 510, .invokevirtual 88, 3, 13, 1, .null),
  (8, 0, .istore 5, 2, 5, 0, .null),
  (10, 0, .aload_n 0, 1, 0, 0, .null),
  (11, 168, .getfield 54, 3, 7, 12, .int 0),
  (14, 0, .ifCond .eq 5, 3, 19, 0, .null),
  (17, 0, .iconst 0, 1, 0, 0, .int (0)),
  (18, 0, .ireturn, 1, 0, 0, .null),
  (19, 0, .iload 5, 2, 5, 0, .null),
  (21, 0, .iconst (-1), 1, 0, 0, .int (-1)),
  (22, 0, .if_icmp .ne 14, 3, 36, 0, .null),
  (25, 0, .aload_n 0, 1, 0, 0, .null),
  (26, 0, .iconst 1, 1, 0, 0, .int (1)),
  (27, 0, .aload_n 1, 1, 1, 0, .null),
  (28, 514, .invokevirtual 94, 3, 11, 0, .null),
  (31, 515, .invokevirtual 97, 3, 89, 2, .null),
  (34, 0, .iconst 0, 1, 0, 0, .int (0)),
  (35, 0, .ireturn, 1, 0, 0, .null),
  (36, 0, .iload 5, 2, 5, 0, .null),
  (38, 0, .iload_n 2, 1, 2, 0, .null),
  (39, 0, .if_icmp .lt 9, 3, 48, 0, .null),
  (42, 0, .iload 5, 2, 5, 0, .null),
  (44, 0, .iload_n 3, 1, 3, 0, .null),
  (45, 0, .if_icmp .le 15, 3, 60, 0, .null),
  (48, 0, .aload_n 0, 1, 0, 0, .null),
  (49, 0, .iload 4, 2, 4, 0, .null),
  (51, 0, .aload_n 0, 1, 0, 0, .null),
  (52, 165, .getfield 45, 3, 7, 9, .int 0),
  (55, 515, .invokevirtual 97, 3, 89, 2, .null),
  (58, 0, .iconst 0, 1, 0, 0, .int (0)),
  (59, 0, .ireturn, 1, 0, 0, .null),
  (60, 0, .aload_n 0, 1, 0, 0, .null),
  (61, 0, .dup, 1, 0, 0, .null),
  (62, 165, .getfield 45, 3, 7, 9, .int 0),
  (65, 0, .iconst 1, 1, 0, 0, .int (1)),
  (66, 0, .iadd, 1, 0, 0, .null),
  (67, 165, .putfield 45, 3, 7, 9, .int 0),
  (70, 0, .iload 5, 2, 5, 0, .null),
  (72, 0, .ireturn, 1, 0, 0, .null)]
abbrev id_X7_byteWithin : Nat := 90
def mi_X7_byteWithin : MI := (yX7_byteWithin, cX7_byteWithin, 6, (some .int), 7, ct_X7_byteWithin)
theorem fe_X7_byteWithin_0 : mj_f mi_X7_byteWithin 0 = some (.aload_n 1, 1, 1, 0, .null) := by decide +kernel
theorem fe_X7_byteWithin_1 : mj_f mi_X7_byteWithin 1 = some (.aload_n 0, 1, 0, 0, .null) := by decide +kernel
theorem fe_X7_byteWithin_2 : mj_f mi_X7_byteWithin 2 = some (.getfield 45, 3, 7, 9, .int 0) := by decide +kernel
theorem fe_X7_byteWithin_5 : mj_f mi_X7_byteWithin 5 = some (.invokevirtual 88, 3, 13, 1, .null) := by decide +kernel
theorem fe_X7_byteWithin_8 : mj_f mi_X7_byteWithin 8 = some (.istore 5, 2, 5, 0, .null) := by decide +kernel
theorem fe_X7_byteWithin_10 : mj_f mi_X7_byteWithin 10 = some (.aload_n 0, 1, 0, 0, .null) := by decide +kernel
theorem fe_X7_byteWithin_11 : mj_f mi_X7_byteWithin 11 = some (.getfield 54, 3, 7, 12, .int 0) := by decide +kernel
theorem fe_X7_byteWithin_14 : mj_f mi_X7_byteWithin 14 = some (.ifCond .eq 5, 3, 19, 0, .null) := by decide +kernel
theorem fe_X7_byteWithin_17 : mj_f mi_X7_byteWithin 17 = some (.iconst 0, 1, 0, 0, .int (0)) := by decide +kernel
theorem fe_X7_byteWithin_18 : mj_f mi_X7_byteWithin 18 = some (.ireturn, 1, 0, 0, .null) := by decide +kernel
theorem fe_X7_byteWithin_19 : mj_f mi_X7_byteWithin 19 = some (.iload 5, 2, 5, 0, .null) := by decide +kernel
theorem fe_X7_byteWithin_21 : mj_f mi_X7_byteWithin 21 = some (.iconst (-1), 1, 0, 0, .int (-1)) := by decide +kernel
theorem fe_X7_byteWithin_22 : mj_f mi_X7_byteWithin 22 = some (.if_icmp .ne 14, 3, 36, 0, .null) := by decide +kernel
theorem fe_X7_byteWithin_25 : mj_f mi_X7_byteWithin 25 = some (.aload_n 0, 1, 0, 0, .null) := by decide +kernel
theorem fe_X7_byteWithin_26 : mj_f mi_X7_byteWithin 26 = some (.iconst 1, 1, 0, 0, .int (1)) := by decide +kernel
theorem fe_X7_byteWithin_27 : mj_f mi_X7_byteWithin 27 = some (.aload_n 1, 1, 1, 0, .null) := by decide +kernel
theorem fe_X7_byteWithin_28 : mj_f mi_X7_byteWithin 28 = some (.invokevirtual 94, 3, 11, 0, .null) := by decide +kernel
theorem fe_X7_byteWithin_31 : mj_f mi_X7_byteWithin 31 = some (.invokevirtual 97, 3, 89, 2, .null) := by decide +kernel
theorem fe_X7_byteWithin_34 : mj_f mi_X7_byteWithin 34 = some (.iconst 0, 1, 0, 0, .int (0)) := by decide +kernel
theorem fe_X7_byteWithin_35 : mj_f mi_X7_byteWithin 35 = some (.ireturn, 1, 0, 0, .null) := by decide +kernel
theorem fe_X7_byteWithin_36 : mj_f mi_X7_byteWithin 36 = some (.iload 5, 2, 5, 0, .null) := by decide +kernel
theorem fe_X7_byteWithin_38 : mj_f mi_X7_byteWithin 38 = some (.iload_n 2, 1, 2, 0, .null) := by decide +kernel
theorem fe_X7_byteWithin_39 : mj_f mi_X7_byteWithin 39 = some (.if_icmp .lt 9, 3, 48, 0, .null) := by decide +kernel
theorem fe_X7_byteWithin_42 : mj_f mi_X7_byteWithin 42 = some (.iload 5, 2, 5, 0, .null) := by decide +kernel
theorem fe_X7_byteWithin_44 : mj_f mi_X7_byteWithin 44 = some (.iload_n 3, 1, 3, 0, .null) := by decide +kernel
theorem fe_X7_byteWithin_45 : mj_f mi_X7_byteWithin 45 = some (.if_icmp .le 15, 3, 60, 0, .null) := by decide +kernel
theorem fe_X7_byteWithin_48 : mj_f mi_X7_byteWithin 48 = some (.aload_n 0, 1, 0, 0, .null) := by decide +kernel
theorem fe_X7_byteWithin_49 : mj_f mi_X7_byteWithin 49 = some (.iload 4, 2, 4, 0, .null) := by decide +kernel
theorem fe_X7_byteWithin_51 : mj_f mi_X7_byteWithin 51 = some (.aload_n 0, 1, 0, 0, .null) := by decide +kernel
theorem fe_X7_byteWithin_52 : mj_f mi_X7_byteWithin 52 = some (.getfield 45, 3, 7, 9, .int 0) := by decide +kernel
theorem fe_X7_byteWithin_55 : mj_f mi_X7_byteWithin 55 = some (.invokevirtual 97, 3, 89, 2, .null) := by decide +kernel
theorem fe_X7_byteWithin_58 : mj_f mi_X7_byteWithin 58 = some (.iconst 0, 1, 0, 0, .int (0)) := by decide +kernel
theorem fe_X7_byteWithin_59 : mj_f mi_X7_byteWithin 59 = some (.ireturn, 1, 0, 0, .null) := by decide +kernel
theorem fe_X7_byteWithin_60 : mj_f mi_X7_byteWithin 60 = some (.aload_n 0, 1, 0, 0, .null) := by decide +kernel
theorem fe_X7_byteWithin_61 : mj_f mi_X7_byteWithin 61 = some (.dup, 1, 0, 0, .null) := by decide +kernel
theorem fe_X7_byteWithin_62 : mj_f mi_X7_byteWithin 62 = some (.getfield 45, 3, 7, 9, .int 0) := by decide +kernel
theorem fe_X7_byteWithin_65 : mj_f mi_X7_byteWithin 65 = some (.iconst 1, 1, 0, 0, .int (1)) := by decide +kernel
theorem fe_X7_byteWithin_66 : mj_f mi_X7_byteWithin 66 = some (.iadd, 1, 0, 0, .null) := by decide +kernel
theorem fe_X7_byteWithin_67 : mj_f mi_X7_byteWithin 67 = some (.putfield 45, 3, 7, 9, .int 0) := by decide +kernel
theorem fe_X7_byteWithin_70 : mj_f mi_X7_byteWithin 70 = some (.iload 5, 2, 5, 0, .null) := by decide +kernel
theorem fe_X7_byteWithin_72 : mj_f mi_X7_byteWithin 72 = some (.ireturn, 1, 0, 0, .null) := by decide +kernel
def ct_X7_readVarint : MJT := [
  (0, 0, .lconst 0, 1, 0, 0, .long 0),
  (1, 0, .lstore_n 2, 1, 2, 0, .null),
  (2, 0, .iconst 0, 1, 0, 0, .int (0)),
  (3, 0, .istore 4, 2, 4, 0, .null),
  (5, 0, .iload 4, 2, 4, 0, .null),
  (7, 0, .bipush 10, 2, 0, 0, .int (10)),
  (9, 0, .if_icmp .ge 111, 3, 120, 0, .null),
  (12, 0, .aload_n 0, 1, 0, 0, .null),
  (13, 168, .getfield 54, 3, 7, 12, .int 0),
  (16, 0, .ifCond .ne 104, 3, 120, 0, .null),
  (19, 0, .aload_n 1, 1, 1, 0, .null),
  (20, 0, .aload_n 0, 1, 0, 0, .null),
  (21, 165, .getfield 45, 3, 7, 9, .int 0),
  (24, 0, .iload 4, 2, 4, 0, .null),
  (26, 0, .iadd, 1, 0, 0, .null),
  (27, 510, .invokevirtual 88, 3, 13, 1, .null),
  (30, 0, .istore 5, 2, 5, 0, .null),
  (32, 0, .iload 5, 2, 5, 0, .null),
  (34, 0, .iconst (-1), 1, 0, 0, .int (-1)),
  (35, 0, .if_icmp .ne 15, 3, 50, 0, .null),
  (38, 0, .aload_n 0, 1, 0, 0, .null),
  (39, 0, .iconst 1, 1, 0, 0, .int (1)),
  (40, 0, .aload_n 1, 1, 1, 0, .null),
  (41, 514, .invokevirtual 94, 3, 11, 0, .null),
  (44, 515, .invokevirtual 97, 3, 89, 2, .null),
  (47, 0, .goto 67, 3, 114, 0, .null),
  (50, 0, .iload 4, 2, 4, 0, .null),
  (52, 0, .bipush 9, 2, 0, 0, .int (9)),
  (54, 0, .if_icmp .ne 21, 3, 75, 0, .null),
  (57, 0, .iload 5, 2, 5, 0, .null),
  (59, 0, .iconst 1, 1, 0, 0, .int (1)),
  (60, 0, .if_icmp .le 15, 3, 75, 0, .null),
  (63, 0, .aload_n 0, 1, 0, 0, .null),
  (64, 0, .iconst 2, 1, 0, 0, .int (2)),
  (65, 0, .aload_n 0, 1, 0, 0, .null),
  (66, 165, .getfield 45, 3, 7, 9, .int 0),
  (69, 515, .invokevirtual 97, 3, 89, 2, .null),
  (72, 0, .goto 42, 3, 114, 0, .null),
  (75, 0, .lload_n 2, 1, 2, 0, .null),
  (76, 0, .iload 5, 2, 5, 0, .null),
  (78, 0, .i2l, 1, 0, 0, .null),
  (79, 555, .ldc2_w 101, 3, 0, 0, .long (127)),
  (82, 0, .land, 1, 0, 0, .null),
  (83, 0, .bipush 7, 2, 0, 0, .int (7)),
  (85, 0, .iload 4, 2, 4, 0, .null),
  (87, 0, .imul, 1, 0, 0, .null),
  (88, 0, .lshl, 1, 0, 0, .null),
  (89, 0, .lor, 1, 0, 0, .null),
  (90, 0, .lstore_n 2, 1, 2, 0, .null),
  (91, 0, .iload 5, 2, 5, 0, .null),
  (93, 0, .sipush 128, 3, 0, 0, .int (128)),
  (96, 0, .if_icmp .ge 18, 3, 114, 0, .null),
  (99, 0, .aload_n 0, 1, 0, 0, .null),
  (100, 0, .dup, 1, 0, 0, .null),
  (101, 165, .getfield 45, 3, 7, 9, .int 0),
  (104, 0, .iload 4, 2, 4, 0, .null),
  (106, 0, .iconst 1, 1, 0, 0, .int (1)),
  (107, 0, .iadd, 1, 0, 0, .null),
  (108, 0, .iadd, 1, 0, 0, .null),
  (109, 165, .putfield 45, 3, 7, 9, .int 0),
  (112, 0, .lload_n 2, 1, 2, 0, .null),
  (113, 0, .lreturn, 1, 0, 0, .null),
  (114, 0, .iinc 4 1, 3, 4, 0, .int (1)),
  (117, 0, .goto (-112), 3, 5, 0, .null),
  (120, 0, .lconst 0, 1, 0, 0, .long 0),
  (121, 0, .lreturn, 1, 0, 0, .null)]
abbrev id_X7_readVarint : Nat := 91
def mi_X7_readVarint : MI := (yX7_readVarint, cX7_readVarint, 6, (some .long), 7, ct_X7_readVarint)
theorem fe_X7_readVarint_0 : mj_f mi_X7_readVarint 0 = some (.lconst 0, 1, 0, 0, .long 0) := by decide +kernel
theorem fe_X7_readVarint_1 : mj_f mi_X7_readVarint 1 = some (.lstore_n 2, 1, 2, 0, .null) := by decide +kernel
theorem fe_X7_readVarint_2 : mj_f mi_X7_readVarint 2 = some (.iconst 0, 1, 0, 0, .int (0)) := by decide +kernel
theorem fe_X7_readVarint_3 : mj_f mi_X7_readVarint 3 = some (.istore 4, 2, 4, 0, .null) := by decide +kernel
theorem fe_X7_readVarint_5 : mj_f mi_X7_readVarint 5 = some (.iload 4, 2, 4, 0, .null) := by decide +kernel
theorem fe_X7_readVarint_7 : mj_f mi_X7_readVarint 7 = some (.bipush 10, 2, 0, 0, .int (10)) := by decide +kernel
theorem fe_X7_readVarint_9 : mj_f mi_X7_readVarint 9 = some (.if_icmp .ge 111, 3, 120, 0, .null) := by decide +kernel
theorem fe_X7_readVarint_12 : mj_f mi_X7_readVarint 12 = some (.aload_n 0, 1, 0, 0, .null) := by decide +kernel
theorem fe_X7_readVarint_13 : mj_f mi_X7_readVarint 13 = some (.getfield 54, 3, 7, 12, .int 0) := by decide +kernel
theorem fe_X7_readVarint_16 : mj_f mi_X7_readVarint 16 = some (.ifCond .ne 104, 3, 120, 0, .null) := by decide +kernel
theorem fe_X7_readVarint_19 : mj_f mi_X7_readVarint 19 = some (.aload_n 1, 1, 1, 0, .null) := by decide +kernel
theorem fe_X7_readVarint_20 : mj_f mi_X7_readVarint 20 = some (.aload_n 0, 1, 0, 0, .null) := by decide +kernel
theorem fe_X7_readVarint_21 : mj_f mi_X7_readVarint 21 = some (.getfield 45, 3, 7, 9, .int 0) := by decide +kernel
theorem fe_X7_readVarint_24 : mj_f mi_X7_readVarint 24 = some (.iload 4, 2, 4, 0, .null) := by decide +kernel
theorem fe_X7_readVarint_26 : mj_f mi_X7_readVarint 26 = some (.iadd, 1, 0, 0, .null) := by decide +kernel
theorem fe_X7_readVarint_27 : mj_f mi_X7_readVarint 27 = some (.invokevirtual 88, 3, 13, 1, .null) := by decide +kernel
theorem fe_X7_readVarint_30 : mj_f mi_X7_readVarint 30 = some (.istore 5, 2, 5, 0, .null) := by decide +kernel
theorem fe_X7_readVarint_32 : mj_f mi_X7_readVarint 32 = some (.iload 5, 2, 5, 0, .null) := by decide +kernel
theorem fe_X7_readVarint_34 : mj_f mi_X7_readVarint 34 = some (.iconst (-1), 1, 0, 0, .int (-1)) := by decide +kernel
theorem fe_X7_readVarint_35 : mj_f mi_X7_readVarint 35 = some (.if_icmp .ne 15, 3, 50, 0, .null) := by decide +kernel
theorem fe_X7_readVarint_38 : mj_f mi_X7_readVarint 38 = some (.aload_n 0, 1, 0, 0, .null) := by decide +kernel
theorem fe_X7_readVarint_39 : mj_f mi_X7_readVarint 39 = some (.iconst 1, 1, 0, 0, .int (1)) := by decide +kernel
theorem fe_X7_readVarint_40 : mj_f mi_X7_readVarint 40 = some (.aload_n 1, 1, 1, 0, .null) := by decide +kernel
theorem fe_X7_readVarint_41 : mj_f mi_X7_readVarint 41 = some (.invokevirtual 94, 3, 11, 0, .null) := by decide +kernel
theorem fe_X7_readVarint_44 : mj_f mi_X7_readVarint 44 = some (.invokevirtual 97, 3, 89, 2, .null) := by decide +kernel
theorem fe_X7_readVarint_47 : mj_f mi_X7_readVarint 47 = some (.goto 67, 3, 114, 0, .null) := by decide +kernel
theorem fe_X7_readVarint_50 : mj_f mi_X7_readVarint 50 = some (.iload 4, 2, 4, 0, .null) := by decide +kernel
theorem fe_X7_readVarint_52 : mj_f mi_X7_readVarint 52 = some (.bipush 9, 2, 0, 0, .int (9)) := by decide +kernel
theorem fe_X7_readVarint_54 : mj_f mi_X7_readVarint 54 = some (.if_icmp .ne 21, 3, 75, 0, .null) := by decide +kernel
theorem fe_X7_readVarint_57 : mj_f mi_X7_readVarint 57 = some (.iload 5, 2, 5, 0, .null) := by decide +kernel
theorem fe_X7_readVarint_59 : mj_f mi_X7_readVarint 59 = some (.iconst 1, 1, 0, 0, .int (1)) := by decide +kernel
theorem fe_X7_readVarint_60 : mj_f mi_X7_readVarint 60 = some (.if_icmp .le 15, 3, 75, 0, .null) := by decide +kernel
theorem fe_X7_readVarint_63 : mj_f mi_X7_readVarint 63 = some (.aload_n 0, 1, 0, 0, .null) := by decide +kernel
theorem fe_X7_readVarint_64 : mj_f mi_X7_readVarint 64 = some (.iconst 2, 1, 0, 0, .int (2)) := by decide +kernel
theorem fe_X7_readVarint_65 : mj_f mi_X7_readVarint 65 = some (.aload_n 0, 1, 0, 0, .null) := by decide +kernel
theorem fe_X7_readVarint_66 : mj_f mi_X7_readVarint 66 = some (.getfield 45, 3, 7, 9, .int 0) := by decide +kernel
theorem fe_X7_readVarint_69 : mj_f mi_X7_readVarint 69 = some (.invokevirtual 97, 3, 89, 2, .null) := by decide +kernel
theorem fe_X7_readVarint_72 : mj_f mi_X7_readVarint 72 = some (.goto 42, 3, 114, 0, .null) := by decide +kernel
theorem fe_X7_readVarint_75 : mj_f mi_X7_readVarint 75 = some (.lload_n 2, 1, 2, 0, .null) := by decide +kernel
theorem fe_X7_readVarint_76 : mj_f mi_X7_readVarint 76 = some (.iload 5, 2, 5, 0, .null) := by decide +kernel
theorem fe_X7_readVarint_78 : mj_f mi_X7_readVarint 78 = some (.i2l, 1, 0, 0, .null) := by decide +kernel
theorem fe_X7_readVarint_79 : mj_f mi_X7_readVarint 79 = some (.ldc2_w 101, 3, 0, 0, .long (127)) := by decide +kernel
theorem fe_X7_readVarint_82 : mj_f mi_X7_readVarint 82 = some (.land, 1, 0, 0, .null) := by decide +kernel
theorem fe_X7_readVarint_83 : mj_f mi_X7_readVarint 83 = some (.bipush 7, 2, 0, 0, .int (7)) := by decide +kernel
theorem fe_X7_readVarint_85 : mj_f mi_X7_readVarint 85 = some (.iload 4, 2, 4, 0, .null) := by decide +kernel
theorem fe_X7_readVarint_87 : mj_f mi_X7_readVarint 87 = some (.imul, 1, 0, 0, .null) := by decide +kernel
theorem fe_X7_readVarint_88 : mj_f mi_X7_readVarint 88 = some (.lshl, 1, 0, 0, .null) := by decide +kernel
theorem fe_X7_readVarint_89 : mj_f mi_X7_readVarint 89 = some (.lor, 1, 0, 0, .null) := by decide +kernel
theorem fe_X7_readVarint_90 : mj_f mi_X7_readVarint 90 = some (.lstore_n 2, 1, 2, 0, .null) := by decide +kernel
theorem fe_X7_readVarint_91 : mj_f mi_X7_readVarint 91 = some (.iload 5, 2, 5, 0, .null) := by decide +kernel
theorem fe_X7_readVarint_93 : mj_f mi_X7_readVarint 93 = some (.sipush 128, 3, 0, 0, .int (128)) := by decide +kernel
theorem fe_X7_readVarint_96 : mj_f mi_X7_readVarint 96 = some (.if_icmp .ge 18, 3, 114, 0, .null) := by decide +kernel
theorem fe_X7_readVarint_99 : mj_f mi_X7_readVarint 99 = some (.aload_n 0, 1, 0, 0, .null) := by decide +kernel
theorem fe_X7_readVarint_100 : mj_f mi_X7_readVarint 100 = some (.dup, 1, 0, 0, .null) := by decide +kernel
theorem fe_X7_readVarint_101 : mj_f mi_X7_readVarint 101 = some (.getfield 45, 3, 7, 9, .int 0) := by decide +kernel
theorem fe_X7_readVarint_104 : mj_f mi_X7_readVarint 104 = some (.iload 4, 2, 4, 0, .null) := by decide +kernel
theorem fe_X7_readVarint_106 : mj_f mi_X7_readVarint 106 = some (.iconst 1, 1, 0, 0, .int (1)) := by decide +kernel
theorem fe_X7_readVarint_107 : mj_f mi_X7_readVarint 107 = some (.iadd, 1, 0, 0, .null) := by decide +kernel
theorem fe_X7_readVarint_108 : mj_f mi_X7_readVarint 108 = some (.iadd, 1, 0, 0, .null) := by decide +kernel
theorem fe_X7_readVarint_109 : mj_f mi_X7_readVarint 109 = some (.putfield 45, 3, 7, 9, .int 0) := by decide +kernel
theorem fe_X7_readVarint_112 : mj_f mi_X7_readVarint 112 = some (.lload_n 2, 1, 2, 0, .null) := by decide +kernel
theorem fe_X7_readVarint_113 : mj_f mi_X7_readVarint 113 = some (.lreturn, 1, 0, 0, .null) := by decide +kernel
theorem fe_X7_readVarint_114 : mj_f mi_X7_readVarint 114 = some (.iinc 4 1, 3, 4, 0, .int (1)) := by decide +kernel
theorem fe_X7_readVarint_117 : mj_f mi_X7_readVarint 117 = some (.goto (-112), 3, 5, 0, .null) := by decide +kernel
theorem fe_X7_readVarint_120 : mj_f mi_X7_readVarint 120 = some (.lconst 0, 1, 0, 0, .long 0) := by decide +kernel
theorem fe_X7_readVarint_121 : mj_f mi_X7_readVarint 121 = some (.lreturn, 1, 0, 0, .null) := by decide +kernel
def ct_X7_passLaying : MJT := [
  (0, 0, .aload_n 0, 1, 0, 0, .null),
  (1, 165, .getfield 45, 3, 7, 9, .int 0),
  (4, 0, .bipush 8, 2, 0, 0, .int (8)),
  (6, 0, .imul, 1, 0, 0, .null),
  (7, 0, .istore 4, 2, 4, 0, .null),
  (9, 0, .iload_n 2, 1, 2, 0, .null),
  (10, 0, .iload_n 3, 1, 3, 0, .null),
  (11, 523, .invokestatic 103, 3, 177, 2, .int 1),
  (14, 0, .istore 5, 2, 5, 0, .null),
  (16, 0, .aload_n 0, 1, 0, 0, .null),
  (17, 168, .getfield 54, 3, 7, 12, .int 0),
  (20, 0, .ifCond .ne 26, 3, 46, 0, .null),
  (23, 0, .aload_n 0, 1, 0, 0, .null),
  (24, 165, .getfield 45, 3, 7, 9, .int 0),
  (27, 0, .iload 5, 2, 5, 0, .null),
  (29, 0, .iadd, 1, 0, 0, .null),
  (30, 0, .aload_n 1, 1, 1, 0, .null),
  (31, 514, .invokevirtual 94, 3, 11, 0, .null),
  (34, 0, .if_icmp .le 12, 3, 46, 0, .null),
  (37, 0, .aload_n 0, 1, 0, 0, .null),
  (38, 0, .iconst 1, 1, 0, 0, .int (1)),
  (39, 0, .aload_n 1, 1, 1, 0, .null),
  (40, 514, .invokevirtual 94, 3, 11, 0, .null),
  (43, 515, .invokevirtual 97, 3, 89, 2, .null),
  (46, 0, .aload_n 0, 1, 0, 0, .null),
  (47, 168, .getfield 54, 3, 7, 12, .int 0),
  (50, 0, .ifCond .ne 14, 3, 64, 0, .null),
  (53, 0, .aload_n 0, 1, 0, 0, .null),
  (54, 0, .dup, 1, 0, 0, .null),
  (55, 165, .getfield 45, 3, 7, 9, .int 0),
  (58, 0, .iload 5, 2, 5, 0, .null),
  (60, 0, .iadd, 1, 0, 0, .null),
  (61, 165, .putfield 45, 3, 7, 9, .int 0),
  (64, 0, .iload 4, 2, 4, 0, .null),
  (66, 0, .ireturn, 1, 0, 0, .null)]
abbrev id_X7_passLaying : Nat := 92
def mi_X7_passLaying : MI := (yX7_passLaying, cX7_passLaying, 6, (some .int), 7, ct_X7_passLaying)
theorem fe_X7_passLaying_0 : mj_f mi_X7_passLaying 0 = some (.aload_n 0, 1, 0, 0, .null) := by decide +kernel
theorem fe_X7_passLaying_1 : mj_f mi_X7_passLaying 1 = some (.getfield 45, 3, 7, 9, .int 0) := by decide +kernel
theorem fe_X7_passLaying_4 : mj_f mi_X7_passLaying 4 = some (.bipush 8, 2, 0, 0, .int (8)) := by decide +kernel
theorem fe_X7_passLaying_6 : mj_f mi_X7_passLaying 6 = some (.imul, 1, 0, 0, .null) := by decide +kernel
theorem fe_X7_passLaying_7 : mj_f mi_X7_passLaying 7 = some (.istore 4, 2, 4, 0, .null) := by decide +kernel
theorem fe_X7_passLaying_9 : mj_f mi_X7_passLaying 9 = some (.iload_n 2, 1, 2, 0, .null) := by decide +kernel
theorem fe_X7_passLaying_10 : mj_f mi_X7_passLaying 10 = some (.iload_n 3, 1, 3, 0, .null) := by decide +kernel
theorem fe_X7_passLaying_11 : mj_f mi_X7_passLaying 11 = some (.invokestatic 103, 3, 177, 2, .int 1) := by decide +kernel
theorem fe_X7_passLaying_14 : mj_f mi_X7_passLaying 14 = some (.istore 5, 2, 5, 0, .null) := by decide +kernel
theorem fe_X7_passLaying_16 : mj_f mi_X7_passLaying 16 = some (.aload_n 0, 1, 0, 0, .null) := by decide +kernel
theorem fe_X7_passLaying_17 : mj_f mi_X7_passLaying 17 = some (.getfield 54, 3, 7, 12, .int 0) := by decide +kernel
theorem fe_X7_passLaying_20 : mj_f mi_X7_passLaying 20 = some (.ifCond .ne 26, 3, 46, 0, .null) := by decide +kernel
theorem fe_X7_passLaying_23 : mj_f mi_X7_passLaying 23 = some (.aload_n 0, 1, 0, 0, .null) := by decide +kernel
theorem fe_X7_passLaying_24 : mj_f mi_X7_passLaying 24 = some (.getfield 45, 3, 7, 9, .int 0) := by decide +kernel
theorem fe_X7_passLaying_27 : mj_f mi_X7_passLaying 27 = some (.iload 5, 2, 5, 0, .null) := by decide +kernel
theorem fe_X7_passLaying_29 : mj_f mi_X7_passLaying 29 = some (.iadd, 1, 0, 0, .null) := by decide +kernel
theorem fe_X7_passLaying_30 : mj_f mi_X7_passLaying 30 = some (.aload_n 1, 1, 1, 0, .null) := by decide +kernel
theorem fe_X7_passLaying_31 : mj_f mi_X7_passLaying 31 = some (.invokevirtual 94, 3, 11, 0, .null) := by decide +kernel
theorem fe_X7_passLaying_34 : mj_f mi_X7_passLaying 34 = some (.if_icmp .le 12, 3, 46, 0, .null) := by decide +kernel
theorem fe_X7_passLaying_37 : mj_f mi_X7_passLaying 37 = some (.aload_n 0, 1, 0, 0, .null) := by decide +kernel
theorem fe_X7_passLaying_38 : mj_f mi_X7_passLaying 38 = some (.iconst 1, 1, 0, 0, .int (1)) := by decide +kernel
theorem fe_X7_passLaying_39 : mj_f mi_X7_passLaying 39 = some (.aload_n 1, 1, 1, 0, .null) := by decide +kernel
theorem fe_X7_passLaying_40 : mj_f mi_X7_passLaying 40 = some (.invokevirtual 94, 3, 11, 0, .null) := by decide +kernel
theorem fe_X7_passLaying_43 : mj_f mi_X7_passLaying 43 = some (.invokevirtual 97, 3, 89, 2, .null) := by decide +kernel
theorem fe_X7_passLaying_46 : mj_f mi_X7_passLaying 46 = some (.aload_n 0, 1, 0, 0, .null) := by decide +kernel
theorem fe_X7_passLaying_47 : mj_f mi_X7_passLaying 47 = some (.getfield 54, 3, 7, 12, .int 0) := by decide +kernel
theorem fe_X7_passLaying_50 : mj_f mi_X7_passLaying 50 = some (.ifCond .ne 14, 3, 64, 0, .null) := by decide +kernel
theorem fe_X7_passLaying_53 : mj_f mi_X7_passLaying 53 = some (.aload_n 0, 1, 0, 0, .null) := by decide +kernel
theorem fe_X7_passLaying_54 : mj_f mi_X7_passLaying 54 = some (.dup, 1, 0, 0, .null) := by decide +kernel
theorem fe_X7_passLaying_55 : mj_f mi_X7_passLaying 55 = some (.getfield 45, 3, 7, 9, .int 0) := by decide +kernel
theorem fe_X7_passLaying_58 : mj_f mi_X7_passLaying 58 = some (.iload 5, 2, 5, 0, .null) := by decide +kernel
theorem fe_X7_passLaying_60 : mj_f mi_X7_passLaying 60 = some (.iadd, 1, 0, 0, .null) := by decide +kernel
theorem fe_X7_passLaying_61 : mj_f mi_X7_passLaying 61 = some (.putfield 45, 3, 7, 9, .int 0) := by decide +kernel
theorem fe_X7_passLaying_64 : mj_f mi_X7_passLaying 64 = some (.iload 4, 2, 4, 0, .null) := by decide +kernel
theorem fe_X7_passLaying_66 : mj_f mi_X7_passLaying 66 = some (.ireturn, 1, 0, 0, .null) := by decide +kernel
def ct_X7_readFrame : MJT := [
  (0, 0, .aload_n 2, 1, 2, 0, .null),
  (1, 505, .invokevirtual 107, 3, 4, 0, .null),
  (4, 0, .aload_n 0, 1, 0, 0, .null),
  (5, 0, .aload_n 1, 1, 1, 0, .null),
  (6, 0, .sipush 193, 3, 0, 0, .int (193)),
  (9, 0, .sipush 193, 3, 0, 0, .int (193)),
  (12, 0, .iconst 2, 1, 0, 0, .int (2)),
  (13, 506, .invokevirtual 110, 3, 90, 4, .null),
  (16, 0, .pop, 1, 0, 0, .null),
  (17, 0, .aload_n 0, 1, 0, 0, .null),
  (18, 0, .aload_n 1, 1, 1, 0, .null),
  (19, 0, .iconst 1, 1, 0, 0, .int (1)),
  (20, 0, .bipush 32, 2, 0, 0, .int (32)),
  (22, 0, .iconst 2, 1, 0, 0, .int (2)),
  (23, 506, .invokevirtual 110, 3, 90, 4, .null),
  (26, 0, .istore_n 3, 1, 3, 0, .null),
  (27, 0, .aload_n 0, 1, 0, 0, .null),
  (28, 0, .aload_n 1, 1, 1, 0, .null),
  (29, 0, .iconst 0, 1, 0, 0, .int (0)),
  (30, 0, .iconst 1, 1, 0, 0, .int (1)),
  (31, 0, .iconst 2, 1, 0, 0, .int (2)),
  (32, 506, .invokevirtual 110, 3, 90, 4, .null),
  (35, 0, .istore 4, 2, 4, 0, .null),
  (37, 0, .aload_n 0, 1, 0, 0, .null),
  (38, 0, .aload_n 1, 1, 1, 0, .null),
  (39, 0, .iload 4, 2, 4, 0, .null),
  (41, 0, .iconst 1, 1, 0, 0, .int (1)),
  (42, 0, .if_icmp .ne 7, 3, 49, 0, .null),
  (45, 0, .iload_n 3, 1, 3, 0, .null),
  (46, 0, .goto 4, 3, 50, 0, .null),
  (49, 0, .iconst 0, 1, 0, 0, .int (0)),
  (50, 0, .iconst 1, 1, 0, 0, .int (1)),
  (51, 519, .invokevirtual 114, 3, 92, 3, .null),
  (54, 0, .istore 5, 2, 5, 0, .null),
  (56, 0, .iconst 0, 1, 0, 0, .int (0)),
  (57, 0, .istore 6, 2, 6, 0, .null),
  (59, 0, .iload 6, 2, 6, 0, .null),
  (61, 0, .iload_n 3, 1, 3, 0, .null),
  (62, 0, .if_icmp .ge 47, 3, 109, 0, .null),
  (65, 0, .aload_n 0, 1, 0, 0, .null),
  (66, 168, .getfield 54, 3, 7, 12, .int 0),
  (69, 0, .ifCond .ne 40, 3, 109, 0, .null),
  (72, 0, .aload_n 2, 1, 2, 0, .null),
  (73, 0, .iload 4, 2, 4, 0, .null),
  (75, 0, .iconst 1, 1, 0, 0, .int (1)),
  (76, 0, .if_icmp .ne 22, 3, 98, 0, .null),
  (79, 0, .aload_n 1, 1, 1, 0, .null),
  (80, 0, .iload 5, 2, 5, 0, .null),
  (82, 0, .iload 6, 2, 6, 0, .null),
  (84, 0, .iadd, 1, 0, 0, .null),
  (85, 0, .iconst 1, 1, 0, 0, .int (1)),
  (86, 526, .invokevirtual 118, 3, 20, 2, .null),
  (89, 0, .lconst 1, 1, 0, 0, .long 1),
  (90, 0, .lcmp, 1, 0, 0, .null),
  (91, 0, .ifCond .ne 7, 3, 98, 0, .null),
  (94, 0, .iconst 1, 1, 0, 0, .int (1)),
  (95, 0, .goto 4, 3, 99, 0, .null),
  (98, 0, .iconst 0, 1, 0, 0, .int (0)),
  (99, 0, .lconst 0, 1, 0, 0, .long 0),
  (100, 531, .invokevirtual 122, 3, 5, 2, .null),
  (103, 0, .iinc 6 1, 3, 6, 0, .int (1)),
  (106, 0, .goto (-47), 3, 59, 0, .null),
  (109, 0, .return_, 1, 0, 0, .null)]
abbrev id_X7_readFrame : Nat := 93
def mi_X7_readFrame : MI := (yX7_readFrame, cX7_readFrame, 7, none, 7, ct_X7_readFrame)
theorem fe_X7_readFrame_0 : mj_f mi_X7_readFrame 0 = some (.aload_n 2, 1, 2, 0, .null) := by decide +kernel
theorem fe_X7_readFrame_1 : mj_f mi_X7_readFrame 1 = some (.invokevirtual 107, 3, 4, 0, .null) := by decide +kernel
theorem fe_X7_readFrame_4 : mj_f mi_X7_readFrame 4 = some (.aload_n 0, 1, 0, 0, .null) := by decide +kernel
theorem fe_X7_readFrame_5 : mj_f mi_X7_readFrame 5 = some (.aload_n 1, 1, 1, 0, .null) := by decide +kernel
theorem fe_X7_readFrame_6 : mj_f mi_X7_readFrame 6 = some (.sipush 193, 3, 0, 0, .int (193)) := by decide +kernel
theorem fe_X7_readFrame_9 : mj_f mi_X7_readFrame 9 = some (.sipush 193, 3, 0, 0, .int (193)) := by decide +kernel
theorem fe_X7_readFrame_12 : mj_f mi_X7_readFrame 12 = some (.iconst 2, 1, 0, 0, .int (2)) := by decide +kernel
theorem fe_X7_readFrame_13 : mj_f mi_X7_readFrame 13 = some (.invokevirtual 110, 3, 90, 4, .null) := by decide +kernel
theorem fe_X7_readFrame_16 : mj_f mi_X7_readFrame 16 = some (.pop, 1, 0, 0, .null) := by decide +kernel
theorem fe_X7_readFrame_17 : mj_f mi_X7_readFrame 17 = some (.aload_n 0, 1, 0, 0, .null) := by decide +kernel
theorem fe_X7_readFrame_18 : mj_f mi_X7_readFrame 18 = some (.aload_n 1, 1, 1, 0, .null) := by decide +kernel
theorem fe_X7_readFrame_19 : mj_f mi_X7_readFrame 19 = some (.iconst 1, 1, 0, 0, .int (1)) := by decide +kernel
theorem fe_X7_readFrame_20 : mj_f mi_X7_readFrame 20 = some (.bipush 32, 2, 0, 0, .int (32)) := by decide +kernel
theorem fe_X7_readFrame_22 : mj_f mi_X7_readFrame 22 = some (.iconst 2, 1, 0, 0, .int (2)) := by decide +kernel
theorem fe_X7_readFrame_23 : mj_f mi_X7_readFrame 23 = some (.invokevirtual 110, 3, 90, 4, .null) := by decide +kernel
theorem fe_X7_readFrame_26 : mj_f mi_X7_readFrame 26 = some (.istore_n 3, 1, 3, 0, .null) := by decide +kernel
theorem fe_X7_readFrame_27 : mj_f mi_X7_readFrame 27 = some (.aload_n 0, 1, 0, 0, .null) := by decide +kernel
theorem fe_X7_readFrame_28 : mj_f mi_X7_readFrame 28 = some (.aload_n 1, 1, 1, 0, .null) := by decide +kernel
theorem fe_X7_readFrame_29 : mj_f mi_X7_readFrame 29 = some (.iconst 0, 1, 0, 0, .int (0)) := by decide +kernel
theorem fe_X7_readFrame_30 : mj_f mi_X7_readFrame 30 = some (.iconst 1, 1, 0, 0, .int (1)) := by decide +kernel
theorem fe_X7_readFrame_31 : mj_f mi_X7_readFrame 31 = some (.iconst 2, 1, 0, 0, .int (2)) := by decide +kernel
theorem fe_X7_readFrame_32 : mj_f mi_X7_readFrame 32 = some (.invokevirtual 110, 3, 90, 4, .null) := by decide +kernel
theorem fe_X7_readFrame_35 : mj_f mi_X7_readFrame 35 = some (.istore 4, 2, 4, 0, .null) := by decide +kernel
theorem fe_X7_readFrame_37 : mj_f mi_X7_readFrame 37 = some (.aload_n 0, 1, 0, 0, .null) := by decide +kernel
theorem fe_X7_readFrame_38 : mj_f mi_X7_readFrame 38 = some (.aload_n 1, 1, 1, 0, .null) := by decide +kernel
theorem fe_X7_readFrame_39 : mj_f mi_X7_readFrame 39 = some (.iload 4, 2, 4, 0, .null) := by decide +kernel
theorem fe_X7_readFrame_41 : mj_f mi_X7_readFrame 41 = some (.iconst 1, 1, 0, 0, .int (1)) := by decide +kernel
theorem fe_X7_readFrame_42 : mj_f mi_X7_readFrame 42 = some (.if_icmp .ne 7, 3, 49, 0, .null) := by decide +kernel
theorem fe_X7_readFrame_45 : mj_f mi_X7_readFrame 45 = some (.iload_n 3, 1, 3, 0, .null) := by decide +kernel
theorem fe_X7_readFrame_46 : mj_f mi_X7_readFrame 46 = some (.goto 4, 3, 50, 0, .null) := by decide +kernel
theorem fe_X7_readFrame_49 : mj_f mi_X7_readFrame 49 = some (.iconst 0, 1, 0, 0, .int (0)) := by decide +kernel
theorem fe_X7_readFrame_50 : mj_f mi_X7_readFrame 50 = some (.iconst 1, 1, 0, 0, .int (1)) := by decide +kernel
theorem fe_X7_readFrame_51 : mj_f mi_X7_readFrame 51 = some (.invokevirtual 114, 3, 92, 3, .null) := by decide +kernel
theorem fe_X7_readFrame_54 : mj_f mi_X7_readFrame 54 = some (.istore 5, 2, 5, 0, .null) := by decide +kernel
theorem fe_X7_readFrame_56 : mj_f mi_X7_readFrame 56 = some (.iconst 0, 1, 0, 0, .int (0)) := by decide +kernel
theorem fe_X7_readFrame_57 : mj_f mi_X7_readFrame 57 = some (.istore 6, 2, 6, 0, .null) := by decide +kernel
theorem fe_X7_readFrame_59 : mj_f mi_X7_readFrame 59 = some (.iload 6, 2, 6, 0, .null) := by decide +kernel
theorem fe_X7_readFrame_61 : mj_f mi_X7_readFrame 61 = some (.iload_n 3, 1, 3, 0, .null) := by decide +kernel
theorem fe_X7_readFrame_62 : mj_f mi_X7_readFrame 62 = some (.if_icmp .ge 47, 3, 109, 0, .null) := by decide +kernel
theorem fe_X7_readFrame_65 : mj_f mi_X7_readFrame 65 = some (.aload_n 0, 1, 0, 0, .null) := by decide +kernel
theorem fe_X7_readFrame_66 : mj_f mi_X7_readFrame 66 = some (.getfield 54, 3, 7, 12, .int 0) := by decide +kernel
theorem fe_X7_readFrame_69 : mj_f mi_X7_readFrame 69 = some (.ifCond .ne 40, 3, 109, 0, .null) := by decide +kernel
theorem fe_X7_readFrame_72 : mj_f mi_X7_readFrame 72 = some (.aload_n 2, 1, 2, 0, .null) := by decide +kernel
theorem fe_X7_readFrame_73 : mj_f mi_X7_readFrame 73 = some (.iload 4, 2, 4, 0, .null) := by decide +kernel
theorem fe_X7_readFrame_75 : mj_f mi_X7_readFrame 75 = some (.iconst 1, 1, 0, 0, .int (1)) := by decide +kernel
theorem fe_X7_readFrame_76 : mj_f mi_X7_readFrame 76 = some (.if_icmp .ne 22, 3, 98, 0, .null) := by decide +kernel
theorem fe_X7_readFrame_79 : mj_f mi_X7_readFrame 79 = some (.aload_n 1, 1, 1, 0, .null) := by decide +kernel
theorem fe_X7_readFrame_80 : mj_f mi_X7_readFrame 80 = some (.iload 5, 2, 5, 0, .null) := by decide +kernel
theorem fe_X7_readFrame_82 : mj_f mi_X7_readFrame 82 = some (.iload 6, 2, 6, 0, .null) := by decide +kernel
theorem fe_X7_readFrame_84 : mj_f mi_X7_readFrame 84 = some (.iadd, 1, 0, 0, .null) := by decide +kernel
theorem fe_X7_readFrame_85 : mj_f mi_X7_readFrame 85 = some (.iconst 1, 1, 0, 0, .int (1)) := by decide +kernel
theorem fe_X7_readFrame_86 : mj_f mi_X7_readFrame 86 = some (.invokevirtual 118, 3, 20, 2, .null) := by decide +kernel
theorem fe_X7_readFrame_89 : mj_f mi_X7_readFrame 89 = some (.lconst 1, 1, 0, 0, .long 1) := by decide +kernel
theorem fe_X7_readFrame_90 : mj_f mi_X7_readFrame 90 = some (.lcmp, 1, 0, 0, .null) := by decide +kernel
theorem fe_X7_readFrame_91 : mj_f mi_X7_readFrame 91 = some (.ifCond .ne 7, 3, 98, 0, .null) := by decide +kernel
theorem fe_X7_readFrame_94 : mj_f mi_X7_readFrame 94 = some (.iconst 1, 1, 0, 0, .int (1)) := by decide +kernel
theorem fe_X7_readFrame_95 : mj_f mi_X7_readFrame 95 = some (.goto 4, 3, 99, 0, .null) := by decide +kernel
theorem fe_X7_readFrame_98 : mj_f mi_X7_readFrame 98 = some (.iconst 0, 1, 0, 0, .int (0)) := by decide +kernel
theorem fe_X7_readFrame_99 : mj_f mi_X7_readFrame 99 = some (.lconst 0, 1, 0, 0, .long 0) := by decide +kernel
theorem fe_X7_readFrame_100 : mj_f mi_X7_readFrame 100 = some (.invokevirtual 122, 3, 5, 2, .null) := by decide +kernel
theorem fe_X7_readFrame_103 : mj_f mi_X7_readFrame 103 = some (.iinc 6 1, 3, 6, 0, .int (1)) := by decide +kernel
theorem fe_X7_readFrame_106 : mj_f mi_X7_readFrame 106 = some (.goto (-47), 3, 59, 0, .null) := by decide +kernel
theorem fe_X7_readFrame_109 : mj_f mi_X7_readFrame 109 = some (.return_, 1, 0, 0, .null) := by decide +kernel
def ct_X7_readHeads : MJT := [
  (0, 0, .iload_n 2, 1, 2, 0, .null),
  (1, 0, .istore_n 3, 1, 3, 0, .null),
  (2, 0, .aload_n 0, 1, 0, 0, .null),
  (3, 0, .iconst 0, 1, 0, 0, .int (0)),
  (4, 164, .putfield 41, 3, 7, 8, .int 0),
  (7, 0, .iconst 0, 1, 0, 0, .int (0)),
  (8, 0, .istore 4, 2, 4, 0, .null),
  (10, 0, .iload 4, 2, 4, 0, .null),
  (12, 0, .iconst 3, 1, 0, 0, .int (3)),
  (13, 0, .if_icmp .gt 113, 3, 126, 0, .null),
  (16, 0, .aload_n 0, 1, 0, 0, .null),
  (17, 168, .getfield 54, 3, 7, 12, .int 0),
  (20, 0, .ifCond .ne 106, 3, 126, 0, .null),
  (23, 0, .aload_n 0, 1, 0, 0, .null),
  (24, 0, .aload_n 1, 1, 1, 0, .null),
  (25, 0, .iconst 0, 1, 0, 0, .int (0)),
  (26, 0, .iload 4, 2, 4, 0, .null),
  (28, 0, .iconst 3, 1, 0, 0, .int (3)),
  (29, 0, .if_icmp .ge 8, 3, 37, 0, .null),
  (32, 0, .bipush 6, 2, 0, 0, .int (6)),
  (34, 0, .goto 4, 3, 38, 0, .null),
  (37, 0, .iconst (-1), 1, 0, 0, .int (-1)),
  (38, 0, .iconst 3, 1, 0, 0, .int (3)),
  (39, 506, .invokevirtual 110, 3, 90, 4, .null),
  (42, 0, .istore 5, 2, 5, 0, .null),
  (44, 0, .aload_n 0, 1, 0, 0, .null),
  (45, 168, .getfield 54, 3, 7, 12, .int 0),
  (48, 0, .ifCond .ne 9, 3, 57, 0, .null),
  (51, 0, .iload 4, 2, 4, 0, .null),
  (53, 0, .iconst 3, 1, 0, 0, .int (3)),
  (54, 0, .if_icmp .lt 4, 3, 58, 0, .null),
  (57, 0, .return_, 1, 0, 0, .null),
  (58, 0, .aload_n 0, 1, 0, 0, .null),
  (59, 0, .iload 4, 2, 4, 0, .null),
  (61, 164, .putfield 41, 3, 7, 8, .int 0),
  (64, 0, .aload_n 0, 1, 0, 0, .null),
  (65, 0, .aload_n 0, 1, 0, 0, .null),
  (66, 166, .getfield 48, 3, 7, 10, .int 0),
  (69, 0, .bipush 8, 2, 0, 0, .int (8)),
  (71, 0, .imul, 1, 0, 0, .null),
  (72, 0, .iload 5, 2, 5, 0, .null),
  (74, 0, .iadd, 1, 0, 0, .null),
  (75, 166, .putfield 48, 3, 7, 10, .int 0),
  (78, 0, .aload_n 0, 1, 0, 0, .null),
  (79, 0, .dup, 1, 0, 0, .null),
  (80, 167, .getfield 51, 3, 7, 11, .int 0),
  (83, 0, .iload_n 3, 1, 3, 0, .null),
  (84, 0, .iadd, 1, 0, 0, .null),
  (85, 167, .putfield 51, 3, 7, 11, .int 0),
  (88, 0, .aload_n 0, 1, 0, 0, .null),
  (89, 159, .getfield 24, 3, 7, 3, .null),
  (92, 0, .iload 4, 2, 4, 0, .null),
  (94, 0, .iload 5, 2, 5, 0, .null),
  (96, 0, .iastore, 1, 0, 0, .null),
  (97, 0, .aload_n 0, 1, 0, 0, .null),
  (98, 160, .getfield 28, 3, 7, 4, .null),
  (101, 0, .iload 4, 2, 4, 0, .null),
  (103, 0, .iload_n 3, 1, 3, 0, .null),
  (104, 0, .iastore, 1, 0, 0, .null),
  (105, 0, .iload 5, 2, 5, 0, .null),
  (107, 0, .iconst 3, 1, 0, 0, .int (3)),
  (108, 0, .if_icmp .ge 4, 3, 112, 0, .null),
  (111, 0, .return_, 1, 0, 0, .null),
  (112, 0, .aload_n 0, 1, 0, 0, .null),
  (113, 0, .aload_n 1, 1, 1, 0, .null),
  (114, 0, .iload 4, 2, 4, 0, .null),
  (116, 547, .invokevirtual 126, 3, 95, 2, .null),
  (119, 0, .istore_n 3, 1, 3, 0, .null),
  (120, 0, .iinc 4 1, 3, 4, 0, .int (1)),
  (123, 0, .goto (-113), 3, 10, 0, .null),
  (126, 0, .return_, 1, 0, 0, .null)]
abbrev id_X7_readHeads : Nat := 94
def mi_X7_readHeads : MI := (yX7_readHeads, cX7_readHeads, 6, none, 7, ct_X7_readHeads)
theorem fe_X7_readHeads_0 : mj_f mi_X7_readHeads 0 = some (.iload_n 2, 1, 2, 0, .null) := by decide +kernel
theorem fe_X7_readHeads_1 : mj_f mi_X7_readHeads 1 = some (.istore_n 3, 1, 3, 0, .null) := by decide +kernel
theorem fe_X7_readHeads_2 : mj_f mi_X7_readHeads 2 = some (.aload_n 0, 1, 0, 0, .null) := by decide +kernel
theorem fe_X7_readHeads_3 : mj_f mi_X7_readHeads 3 = some (.iconst 0, 1, 0, 0, .int (0)) := by decide +kernel
theorem fe_X7_readHeads_4 : mj_f mi_X7_readHeads 4 = some (.putfield 41, 3, 7, 8, .int 0) := by decide +kernel
theorem fe_X7_readHeads_7 : mj_f mi_X7_readHeads 7 = some (.iconst 0, 1, 0, 0, .int (0)) := by decide +kernel
theorem fe_X7_readHeads_8 : mj_f mi_X7_readHeads 8 = some (.istore 4, 2, 4, 0, .null) := by decide +kernel
theorem fe_X7_readHeads_10 : mj_f mi_X7_readHeads 10 = some (.iload 4, 2, 4, 0, .null) := by decide +kernel
theorem fe_X7_readHeads_12 : mj_f mi_X7_readHeads 12 = some (.iconst 3, 1, 0, 0, .int (3)) := by decide +kernel
theorem fe_X7_readHeads_13 : mj_f mi_X7_readHeads 13 = some (.if_icmp .gt 113, 3, 126, 0, .null) := by decide +kernel
theorem fe_X7_readHeads_16 : mj_f mi_X7_readHeads 16 = some (.aload_n 0, 1, 0, 0, .null) := by decide +kernel
theorem fe_X7_readHeads_17 : mj_f mi_X7_readHeads 17 = some (.getfield 54, 3, 7, 12, .int 0) := by decide +kernel
theorem fe_X7_readHeads_20 : mj_f mi_X7_readHeads 20 = some (.ifCond .ne 106, 3, 126, 0, .null) := by decide +kernel
theorem fe_X7_readHeads_23 : mj_f mi_X7_readHeads 23 = some (.aload_n 0, 1, 0, 0, .null) := by decide +kernel
theorem fe_X7_readHeads_24 : mj_f mi_X7_readHeads 24 = some (.aload_n 1, 1, 1, 0, .null) := by decide +kernel
theorem fe_X7_readHeads_25 : mj_f mi_X7_readHeads 25 = some (.iconst 0, 1, 0, 0, .int (0)) := by decide +kernel
theorem fe_X7_readHeads_26 : mj_f mi_X7_readHeads 26 = some (.iload 4, 2, 4, 0, .null) := by decide +kernel
theorem fe_X7_readHeads_28 : mj_f mi_X7_readHeads 28 = some (.iconst 3, 1, 0, 0, .int (3)) := by decide +kernel
theorem fe_X7_readHeads_29 : mj_f mi_X7_readHeads 29 = some (.if_icmp .ge 8, 3, 37, 0, .null) := by decide +kernel
theorem fe_X7_readHeads_32 : mj_f mi_X7_readHeads 32 = some (.bipush 6, 2, 0, 0, .int (6)) := by decide +kernel
theorem fe_X7_readHeads_34 : mj_f mi_X7_readHeads 34 = some (.goto 4, 3, 38, 0, .null) := by decide +kernel
theorem fe_X7_readHeads_37 : mj_f mi_X7_readHeads 37 = some (.iconst (-1), 1, 0, 0, .int (-1)) := by decide +kernel
theorem fe_X7_readHeads_38 : mj_f mi_X7_readHeads 38 = some (.iconst 3, 1, 0, 0, .int (3)) := by decide +kernel
theorem fe_X7_readHeads_39 : mj_f mi_X7_readHeads 39 = some (.invokevirtual 110, 3, 90, 4, .null) := by decide +kernel
theorem fe_X7_readHeads_42 : mj_f mi_X7_readHeads 42 = some (.istore 5, 2, 5, 0, .null) := by decide +kernel
theorem fe_X7_readHeads_44 : mj_f mi_X7_readHeads 44 = some (.aload_n 0, 1, 0, 0, .null) := by decide +kernel
theorem fe_X7_readHeads_45 : mj_f mi_X7_readHeads 45 = some (.getfield 54, 3, 7, 12, .int 0) := by decide +kernel
theorem fe_X7_readHeads_48 : mj_f mi_X7_readHeads 48 = some (.ifCond .ne 9, 3, 57, 0, .null) := by decide +kernel
theorem fe_X7_readHeads_51 : mj_f mi_X7_readHeads 51 = some (.iload 4, 2, 4, 0, .null) := by decide +kernel
theorem fe_X7_readHeads_53 : mj_f mi_X7_readHeads 53 = some (.iconst 3, 1, 0, 0, .int (3)) := by decide +kernel
theorem fe_X7_readHeads_54 : mj_f mi_X7_readHeads 54 = some (.if_icmp .lt 4, 3, 58, 0, .null) := by decide +kernel
theorem fe_X7_readHeads_57 : mj_f mi_X7_readHeads 57 = some (.return_, 1, 0, 0, .null) := by decide +kernel
theorem fe_X7_readHeads_58 : mj_f mi_X7_readHeads 58 = some (.aload_n 0, 1, 0, 0, .null) := by decide +kernel
theorem fe_X7_readHeads_59 : mj_f mi_X7_readHeads 59 = some (.iload 4, 2, 4, 0, .null) := by decide +kernel
theorem fe_X7_readHeads_61 : mj_f mi_X7_readHeads 61 = some (.putfield 41, 3, 7, 8, .int 0) := by decide +kernel
theorem fe_X7_readHeads_64 : mj_f mi_X7_readHeads 64 = some (.aload_n 0, 1, 0, 0, .null) := by decide +kernel
theorem fe_X7_readHeads_65 : mj_f mi_X7_readHeads 65 = some (.aload_n 0, 1, 0, 0, .null) := by decide +kernel
theorem fe_X7_readHeads_66 : mj_f mi_X7_readHeads 66 = some (.getfield 48, 3, 7, 10, .int 0) := by decide +kernel
theorem fe_X7_readHeads_69 : mj_f mi_X7_readHeads 69 = some (.bipush 8, 2, 0, 0, .int (8)) := by decide +kernel
theorem fe_X7_readHeads_71 : mj_f mi_X7_readHeads 71 = some (.imul, 1, 0, 0, .null) := by decide +kernel
theorem fe_X7_readHeads_72 : mj_f mi_X7_readHeads 72 = some (.iload 5, 2, 5, 0, .null) := by decide +kernel
theorem fe_X7_readHeads_74 : mj_f mi_X7_readHeads 74 = some (.iadd, 1, 0, 0, .null) := by decide +kernel
theorem fe_X7_readHeads_75 : mj_f mi_X7_readHeads 75 = some (.putfield 48, 3, 7, 10, .int 0) := by decide +kernel
theorem fe_X7_readHeads_78 : mj_f mi_X7_readHeads 78 = some (.aload_n 0, 1, 0, 0, .null) := by decide +kernel
theorem fe_X7_readHeads_79 : mj_f mi_X7_readHeads 79 = some (.dup, 1, 0, 0, .null) := by decide +kernel
theorem fe_X7_readHeads_80 : mj_f mi_X7_readHeads 80 = some (.getfield 51, 3, 7, 11, .int 0) := by decide +kernel
theorem fe_X7_readHeads_83 : mj_f mi_X7_readHeads 83 = some (.iload_n 3, 1, 3, 0, .null) := by decide +kernel
theorem fe_X7_readHeads_84 : mj_f mi_X7_readHeads 84 = some (.iadd, 1, 0, 0, .null) := by decide +kernel
theorem fe_X7_readHeads_85 : mj_f mi_X7_readHeads 85 = some (.putfield 51, 3, 7, 11, .int 0) := by decide +kernel
theorem fe_X7_readHeads_88 : mj_f mi_X7_readHeads 88 = some (.aload_n 0, 1, 0, 0, .null) := by decide +kernel
theorem fe_X7_readHeads_89 : mj_f mi_X7_readHeads 89 = some (.getfield 24, 3, 7, 3, .null) := by decide +kernel
theorem fe_X7_readHeads_92 : mj_f mi_X7_readHeads 92 = some (.iload 4, 2, 4, 0, .null) := by decide +kernel
theorem fe_X7_readHeads_94 : mj_f mi_X7_readHeads 94 = some (.iload 5, 2, 5, 0, .null) := by decide +kernel
theorem fe_X7_readHeads_96 : mj_f mi_X7_readHeads 96 = some (.iastore, 1, 0, 0, .null) := by decide +kernel
theorem fe_X7_readHeads_97 : mj_f mi_X7_readHeads 97 = some (.aload_n 0, 1, 0, 0, .null) := by decide +kernel
theorem fe_X7_readHeads_98 : mj_f mi_X7_readHeads 98 = some (.getfield 28, 3, 7, 4, .null) := by decide +kernel
theorem fe_X7_readHeads_101 : mj_f mi_X7_readHeads 101 = some (.iload 4, 2, 4, 0, .null) := by decide +kernel
theorem fe_X7_readHeads_103 : mj_f mi_X7_readHeads 103 = some (.iload_n 3, 1, 3, 0, .null) := by decide +kernel
theorem fe_X7_readHeads_104 : mj_f mi_X7_readHeads 104 = some (.iastore, 1, 0, 0, .null) := by decide +kernel
theorem fe_X7_readHeads_105 : mj_f mi_X7_readHeads 105 = some (.iload 5, 2, 5, 0, .null) := by decide +kernel
theorem fe_X7_readHeads_107 : mj_f mi_X7_readHeads 107 = some (.iconst 3, 1, 0, 0, .int (3)) := by decide +kernel
theorem fe_X7_readHeads_108 : mj_f mi_X7_readHeads 108 = some (.if_icmp .ge 4, 3, 112, 0, .null) := by decide +kernel
theorem fe_X7_readHeads_111 : mj_f mi_X7_readHeads 111 = some (.return_, 1, 0, 0, .null) := by decide +kernel
theorem fe_X7_readHeads_112 : mj_f mi_X7_readHeads 112 = some (.aload_n 0, 1, 0, 0, .null) := by decide +kernel
theorem fe_X7_readHeads_113 : mj_f mi_X7_readHeads 113 = some (.aload_n 1, 1, 1, 0, .null) := by decide +kernel
theorem fe_X7_readHeads_114 : mj_f mi_X7_readHeads 114 = some (.iload 4, 2, 4, 0, .null) := by decide +kernel
theorem fe_X7_readHeads_116 : mj_f mi_X7_readHeads 116 = some (.invokevirtual 126, 3, 95, 2, .null) := by decide +kernel
theorem fe_X7_readHeads_119 : mj_f mi_X7_readHeads 119 = some (.istore_n 3, 1, 3, 0, .null) := by decide +kernel
theorem fe_X7_readHeads_120 : mj_f mi_X7_readHeads 120 = some (.iinc 4 1, 3, 4, 0, .int (1)) := by decide +kernel
theorem fe_X7_readHeads_123 : mj_f mi_X7_readHeads 123 = some (.goto (-113), 3, 10, 0, .null) := by decide +kernel
theorem fe_X7_readHeads_126 : mj_f mi_X7_readHeads 126 = some (.return_, 1, 0, 0, .null) := by decide +kernel
def ct_X7_readHead : MJT := [
  (0, 0, .aload_n 0, 1, 0, 0, .null),
  (1, 160, .getfield 28, 3, 7, 4, .null),
  (4, 0, .iload_n 2, 1, 2, 0, .null),
  (5, 0, .iaload, 1, 0, 0, .null),
  (6, 0, .istore_n 3, 1, 3, 0, .null),
  (7, 0, .aload_n 0, 1, 0, 0, .null),
  (8, 159, .getfield 24, 3, 7, 3, .null),
  (11, 0, .iload_n 2, 1, 2, 0, .null),
  (12, 0, .iaload, 1, 0, 0, .null),
  (13, 0, .istore 4, 2, 4, 0, .null),
  (15, 0, .iload 4, 2, 4, 0, .null),
  (17, 0, .iconst 4, 1, 0, 0, .int (4)),
  (18, 0, .if_icmp .eq 9, 3, 27, 0, .null),
  (21, 0, .iload 4, 2, 4, 0, .null),
  (23, 0, .iconst 5, 1, 0, 0, .int (5)),
  (24, 0, .if_icmp .ne 37, 3, 61, 0, .null),
  (27, 0, .aload_n 0, 1, 0, 0, .null),
  (28, 0, .aload_n 1, 1, 1, 0, .null),
  (29, 0, .iconst 1, 1, 0, 0, .int (1)),
  (30, 0, .iload_n 3, 1, 3, 0, .null),
  (31, 0, .iconst 2, 1, 0, 0, .int (2)),
  (32, 506, .invokevirtual 110, 3, 90, 4, .null),
  (35, 0, .istore 5, 2, 5, 0, .null),
  (37, 0, .aload_n 0, 1, 0, 0, .null),
  (38, 0, .dup, 1, 0, 0, .null),
  (39, 167, .getfield 51, 3, 7, 11, .int 0),
  (42, 0, .iload 4, 2, 4, 0, .null),
  (44, 0, .iconst 4, 1, 0, 0, .int (4)),
  (45, 0, .if_icmp .ne 8, 3, 53, 0, .null),
  (48, 0, .iload 5, 2, 5, 0, .null),
  (50, 0, .goto 4, 3, 54, 0, .null),
  (53, 0, .iconst 0, 1, 0, 0, .int (0)),
  (54, 0, .iadd, 1, 0, 0, .null),
  (55, 167, .putfield 51, 3, 7, 11, .int 0),
  (58, 0, .iload 5, 2, 5, 0, .null),
  (60, 0, .ireturn, 1, 0, 0, .null),
  (61, 0, .iload 4, 2, 4, 0, .null),
  (63, 0, .bipush 6, 2, 0, 0, .int (6)),
  (65, 0, .if_icmp .ne 49, 3, 114, 0, .null),
  (68, 0, .aload_n 0, 1, 0, 0, .null),
  (69, 165, .getfield 45, 3, 7, 9, .int 0),
  (72, 0, .istore 5, 2, 5, 0, .null),
  (74, 0, .aload_n 0, 1, 0, 0, .null),
  (75, 161, .getfield 31, 3, 7, 5, .null),
  (78, 0, .iload_n 2, 1, 2, 0, .null),
  (79, 0, .aload_n 0, 1, 0, 0, .null),
  (80, 0, .aload_n 1, 1, 1, 0, .null),
  (81, 551, .invokevirtual 130, 3, 91, 1, .null),
  (84, 0, .lastore, 1, 0, 0, .null),
  (85, 0, .aload_n 0, 1, 0, 0, .null),
  (86, 161, .getfield 31, 3, 7, 5, .null),
  (89, 0, .iload_n 2, 1, 2, 0, .null),
  (90, 0, .laload, 1, 0, 0, .null),
  (91, 0, .lconst 0, 1, 0, 0, .long 0),
  (92, 0, .lcmp, 1, 0, 0, .null),
  (93, 0, .ifCond .eq 14, 3, 107, 0, .null),
  (96, 0, .aload_n 0, 1, 0, 0, .null),
  (97, 161, .getfield 31, 3, 7, 5, .null),
  (100, 0, .iload_n 2, 1, 2, 0, .null),
  (101, 0, .laload, 1, 0, 0, .null),
  (102, 0, .lconst 1, 1, 0, 0, .long 1),
  (103, 0, .lcmp, 1, 0, 0, .null),
  (104, 0, .ifCond .ne 10, 3, 114, 0, .null),
  (107, 0, .aload_n 0, 1, 0, 0, .null),
  (108, 0, .iconst 2, 1, 0, 0, .int (2)),
  (109, 0, .iload 5, 2, 5, 0, .null),
  (111, 515, .invokevirtual 97, 3, 89, 2, .null),
  (114, 0, .iload_n 3, 1, 3, 0, .null),
  (115, 0, .ireturn, 1, 0, 0, .null)]
abbrev id_X7_readHead : Nat := 95
def mi_X7_readHead : MI := (yX7_readHead, cX7_readHead, 6, (some .int), 7, ct_X7_readHead)
theorem fe_X7_readHead_0 : mj_f mi_X7_readHead 0 = some (.aload_n 0, 1, 0, 0, .null) := by decide +kernel
theorem fe_X7_readHead_1 : mj_f mi_X7_readHead 1 = some (.getfield 28, 3, 7, 4, .null) := by decide +kernel
theorem fe_X7_readHead_4 : mj_f mi_X7_readHead 4 = some (.iload_n 2, 1, 2, 0, .null) := by decide +kernel
theorem fe_X7_readHead_5 : mj_f mi_X7_readHead 5 = some (.iaload, 1, 0, 0, .null) := by decide +kernel
theorem fe_X7_readHead_6 : mj_f mi_X7_readHead 6 = some (.istore_n 3, 1, 3, 0, .null) := by decide +kernel
theorem fe_X7_readHead_7 : mj_f mi_X7_readHead 7 = some (.aload_n 0, 1, 0, 0, .null) := by decide +kernel
theorem fe_X7_readHead_8 : mj_f mi_X7_readHead 8 = some (.getfield 24, 3, 7, 3, .null) := by decide +kernel
theorem fe_X7_readHead_11 : mj_f mi_X7_readHead 11 = some (.iload_n 2, 1, 2, 0, .null) := by decide +kernel
theorem fe_X7_readHead_12 : mj_f mi_X7_readHead 12 = some (.iaload, 1, 0, 0, .null) := by decide +kernel
theorem fe_X7_readHead_13 : mj_f mi_X7_readHead 13 = some (.istore 4, 2, 4, 0, .null) := by decide +kernel
theorem fe_X7_readHead_15 : mj_f mi_X7_readHead 15 = some (.iload 4, 2, 4, 0, .null) := by decide +kernel
theorem fe_X7_readHead_17 : mj_f mi_X7_readHead 17 = some (.iconst 4, 1, 0, 0, .int (4)) := by decide +kernel
theorem fe_X7_readHead_18 : mj_f mi_X7_readHead 18 = some (.if_icmp .eq 9, 3, 27, 0, .null) := by decide +kernel
theorem fe_X7_readHead_21 : mj_f mi_X7_readHead 21 = some (.iload 4, 2, 4, 0, .null) := by decide +kernel
theorem fe_X7_readHead_23 : mj_f mi_X7_readHead 23 = some (.iconst 5, 1, 0, 0, .int (5)) := by decide +kernel
theorem fe_X7_readHead_24 : mj_f mi_X7_readHead 24 = some (.if_icmp .ne 37, 3, 61, 0, .null) := by decide +kernel
theorem fe_X7_readHead_27 : mj_f mi_X7_readHead 27 = some (.aload_n 0, 1, 0, 0, .null) := by decide +kernel
theorem fe_X7_readHead_28 : mj_f mi_X7_readHead 28 = some (.aload_n 1, 1, 1, 0, .null) := by decide +kernel
theorem fe_X7_readHead_29 : mj_f mi_X7_readHead 29 = some (.iconst 1, 1, 0, 0, .int (1)) := by decide +kernel
theorem fe_X7_readHead_30 : mj_f mi_X7_readHead 30 = some (.iload_n 3, 1, 3, 0, .null) := by decide +kernel
theorem fe_X7_readHead_31 : mj_f mi_X7_readHead 31 = some (.iconst 2, 1, 0, 0, .int (2)) := by decide +kernel
theorem fe_X7_readHead_32 : mj_f mi_X7_readHead 32 = some (.invokevirtual 110, 3, 90, 4, .null) := by decide +kernel
theorem fe_X7_readHead_35 : mj_f mi_X7_readHead 35 = some (.istore 5, 2, 5, 0, .null) := by decide +kernel
theorem fe_X7_readHead_37 : mj_f mi_X7_readHead 37 = some (.aload_n 0, 1, 0, 0, .null) := by decide +kernel
theorem fe_X7_readHead_38 : mj_f mi_X7_readHead 38 = some (.dup, 1, 0, 0, .null) := by decide +kernel
theorem fe_X7_readHead_39 : mj_f mi_X7_readHead 39 = some (.getfield 51, 3, 7, 11, .int 0) := by decide +kernel
theorem fe_X7_readHead_42 : mj_f mi_X7_readHead 42 = some (.iload 4, 2, 4, 0, .null) := by decide +kernel
theorem fe_X7_readHead_44 : mj_f mi_X7_readHead 44 = some (.iconst 4, 1, 0, 0, .int (4)) := by decide +kernel
theorem fe_X7_readHead_45 : mj_f mi_X7_readHead 45 = some (.if_icmp .ne 8, 3, 53, 0, .null) := by decide +kernel
theorem fe_X7_readHead_48 : mj_f mi_X7_readHead 48 = some (.iload 5, 2, 5, 0, .null) := by decide +kernel
theorem fe_X7_readHead_50 : mj_f mi_X7_readHead 50 = some (.goto 4, 3, 54, 0, .null) := by decide +kernel
theorem fe_X7_readHead_53 : mj_f mi_X7_readHead 53 = some (.iconst 0, 1, 0, 0, .int (0)) := by decide +kernel
theorem fe_X7_readHead_54 : mj_f mi_X7_readHead 54 = some (.iadd, 1, 0, 0, .null) := by decide +kernel
theorem fe_X7_readHead_55 : mj_f mi_X7_readHead 55 = some (.putfield 51, 3, 7, 11, .int 0) := by decide +kernel
theorem fe_X7_readHead_58 : mj_f mi_X7_readHead 58 = some (.iload 5, 2, 5, 0, .null) := by decide +kernel
theorem fe_X7_readHead_60 : mj_f mi_X7_readHead 60 = some (.ireturn, 1, 0, 0, .null) := by decide +kernel
theorem fe_X7_readHead_61 : mj_f mi_X7_readHead 61 = some (.iload 4, 2, 4, 0, .null) := by decide +kernel
theorem fe_X7_readHead_63 : mj_f mi_X7_readHead 63 = some (.bipush 6, 2, 0, 0, .int (6)) := by decide +kernel
theorem fe_X7_readHead_65 : mj_f mi_X7_readHead 65 = some (.if_icmp .ne 49, 3, 114, 0, .null) := by decide +kernel
theorem fe_X7_readHead_68 : mj_f mi_X7_readHead 68 = some (.aload_n 0, 1, 0, 0, .null) := by decide +kernel
theorem fe_X7_readHead_69 : mj_f mi_X7_readHead 69 = some (.getfield 45, 3, 7, 9, .int 0) := by decide +kernel
theorem fe_X7_readHead_72 : mj_f mi_X7_readHead 72 = some (.istore 5, 2, 5, 0, .null) := by decide +kernel
theorem fe_X7_readHead_74 : mj_f mi_X7_readHead 74 = some (.aload_n 0, 1, 0, 0, .null) := by decide +kernel
theorem fe_X7_readHead_75 : mj_f mi_X7_readHead 75 = some (.getfield 31, 3, 7, 5, .null) := by decide +kernel
theorem fe_X7_readHead_78 : mj_f mi_X7_readHead 78 = some (.iload_n 2, 1, 2, 0, .null) := by decide +kernel
theorem fe_X7_readHead_79 : mj_f mi_X7_readHead 79 = some (.aload_n 0, 1, 0, 0, .null) := by decide +kernel
theorem fe_X7_readHead_80 : mj_f mi_X7_readHead 80 = some (.aload_n 1, 1, 1, 0, .null) := by decide +kernel
theorem fe_X7_readHead_81 : mj_f mi_X7_readHead 81 = some (.invokevirtual 130, 3, 91, 1, .null) := by decide +kernel
theorem fe_X7_readHead_84 : mj_f mi_X7_readHead 84 = some (.lastore, 1, 0, 0, .null) := by decide +kernel
theorem fe_X7_readHead_85 : mj_f mi_X7_readHead 85 = some (.aload_n 0, 1, 0, 0, .null) := by decide +kernel
theorem fe_X7_readHead_86 : mj_f mi_X7_readHead 86 = some (.getfield 31, 3, 7, 5, .null) := by decide +kernel
theorem fe_X7_readHead_89 : mj_f mi_X7_readHead 89 = some (.iload_n 2, 1, 2, 0, .null) := by decide +kernel
theorem fe_X7_readHead_90 : mj_f mi_X7_readHead 90 = some (.laload, 1, 0, 0, .null) := by decide +kernel
theorem fe_X7_readHead_91 : mj_f mi_X7_readHead 91 = some (.lconst 0, 1, 0, 0, .long 0) := by decide +kernel
theorem fe_X7_readHead_92 : mj_f mi_X7_readHead 92 = some (.lcmp, 1, 0, 0, .null) := by decide +kernel
theorem fe_X7_readHead_93 : mj_f mi_X7_readHead 93 = some (.ifCond .eq 14, 3, 107, 0, .null) := by decide +kernel
theorem fe_X7_readHead_96 : mj_f mi_X7_readHead 96 = some (.aload_n 0, 1, 0, 0, .null) := by decide +kernel
theorem fe_X7_readHead_97 : mj_f mi_X7_readHead 97 = some (.getfield 31, 3, 7, 5, .null) := by decide +kernel
theorem fe_X7_readHead_100 : mj_f mi_X7_readHead 100 = some (.iload_n 2, 1, 2, 0, .null) := by decide +kernel
theorem fe_X7_readHead_101 : mj_f mi_X7_readHead 101 = some (.laload, 1, 0, 0, .null) := by decide +kernel
theorem fe_X7_readHead_102 : mj_f mi_X7_readHead 102 = some (.lconst 1, 1, 0, 0, .long 1) := by decide +kernel
theorem fe_X7_readHead_103 : mj_f mi_X7_readHead 103 = some (.lcmp, 1, 0, 0, .null) := by decide +kernel
theorem fe_X7_readHead_104 : mj_f mi_X7_readHead 104 = some (.ifCond .ne 10, 3, 114, 0, .null) := by decide +kernel
theorem fe_X7_readHead_107 : mj_f mi_X7_readHead 107 = some (.aload_n 0, 1, 0, 0, .null) := by decide +kernel
theorem fe_X7_readHead_108 : mj_f mi_X7_readHead 108 = some (.iconst 2, 1, 0, 0, .int (2)) := by decide +kernel
theorem fe_X7_readHead_109 : mj_f mi_X7_readHead 109 = some (.iload 5, 2, 5, 0, .null) := by decide +kernel
theorem fe_X7_readHead_111 : mj_f mi_X7_readHead 111 = some (.invokevirtual 97, 3, 89, 2, .null) := by decide +kernel
theorem fe_X7_readHead_114 : mj_f mi_X7_readHead 114 = some (.iload_n 3, 1, 3, 0, .null) := by decide +kernel
theorem fe_X7_readHead_115 : mj_f mi_X7_readHead 115 = some (.ireturn, 1, 0, 0, .null) := by decide +kernel
