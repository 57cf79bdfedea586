/-! code tables: a program wrote them -/
def ct_X0_init : MJT := [
  (0, 0, .aload_n 0, 1, 0, 0, .null),
  (1, 290, .invokespecial 3, 3, 1000, 0, .null),
  (4, 0, .aload_n 0, 1, 0, 0, .null),
  (5, 0, .bipush 32, 2, 0, 0, .int (32)),
  (7, 0, .newarray .long, 2, 0, 0, .null),
  (9, 291, .putfield 9, 3, 0, 0, .null),
  (12, 0, .aload_n 0, 1, 0, 0, .null),
  (13, 0, .bipush 32, 2, 0, 0, .int (32)),
  (15, 0, .newarray .boolean, 2, 0, 0, .null),
  (17, 292, .putfield 15, 3, 0, 1, .null),
  (20, 0, .aload_n 0, 1, 0, 0, .null),
  (21, 0, .iconst 0, 1, 0, 0, .int (0)),
  (22, 293, .putfield 19, 3, 0, 2, .int 0),
  (25, 0, .return_, 1, 0, 0, .null)]
abbrev id_X0_init : Nat := 0
def mi_X0_init : MI := (yX0_init, cX0_init, 1, none, 0, ct_X0_init)
theorem fe_X0_init_0 : mj_f mi_X0_init 0 = some (.aload_n 0, 1, 0, 0, .null) := by decide +kernel
theorem fe_X0_init_1 : mj_f mi_X0_init 1 = some (.invokespecial 3, 3, 1000, 0, .null) := by decide +kernel
theorem fe_X0_init_4 : mj_f mi_X0_init 4 = some (.aload_n 0, 1, 0, 0, .null) := by decide +kernel
theorem fe_X0_init_5 : mj_f mi_X0_init 5 = some (.bipush 32, 2, 0, 0, .int (32)) := by decide +kernel
theorem fe_X0_init_7 : mj_f mi_X0_init 7 = some (.newarray .long, 2, 0, 0, .null) := by decide +kernel
theorem fe_X0_init_9 : mj_f mi_X0_init 9 = some (.putfield 9, 3, 0, 0, .null) := by decide +kernel
theorem fe_X0_init_12 : mj_f mi_X0_init 12 = some (.aload_n 0, 1, 0, 0, .null) := by decide +kernel
theorem fe_X0_init_13 : mj_f mi_X0_init 13 = some (.bipush 32, 2, 0, 0, .int (32)) := by decide +kernel
theorem fe_X0_init_15 : mj_f mi_X0_init 15 = some (.newarray .boolean, 2, 0, 0, .null) := by decide +kernel
theorem fe_X0_init_17 : mj_f mi_X0_init 17 = some (.putfield 15, 3, 0, 1, .null) := by decide +kernel
theorem fe_X0_init_20 : mj_f mi_X0_init 20 = some (.aload_n 0, 1, 0, 0, .null) := by decide +kernel
theorem fe_X0_init_21 : mj_f mi_X0_init 21 = some (.iconst 0, 1, 0, 0, .int (0)) := by decide +kernel
theorem fe_X0_init_22 : mj_f mi_X0_init 22 = some (.putfield 19, 3, 0, 2, .int 0) := by decide +kernel
theorem fe_X0_init_25 : mj_f mi_X0_init 25 = some (.return_, 1, 0, 0, .null) := by decide +kernel
def ct_X0_size : MJT := [
  (0, 0, .aload_n 0, 1, 0, 0, .null),
  (1, 293, .getfield 19, 3, 0, 2, .int 0),
  (4, 0, .ireturn, 1, 0, 0, .null)]
abbrev id_X0_size : Nat := 1
def mi_X0_size : MI := (yX0_size, cX0_size, 1, (some .int), 0, ct_X0_size)
theorem fe_X0_size_0 : mj_f mi_X0_size 0 = some (.aload_n 0, 1, 0, 0, .null) := by decide +kernel
theorem fe_X0_size_1 : mj_f mi_X0_size 1 = some (.getfield 19, 3, 0, 2, .int 0) := by decide +kernel
theorem fe_X0_size_4 : mj_f mi_X0_size 4 = some (.ireturn, 1, 0, 0, .null) := by decide +kernel
def ct_X0_isGap : MJT := [
  (0, 0, .iload_n 1, 1, 1, 0, .null),
  (1, 0, .ifCond .lt 29, 3, 30, 0, .null),
  (4, 0, .iload_n 1, 1, 1, 0, .null),
  (5, 0, .aload_n 0, 1, 0, 0, .null),
  (6, 293, .getfield 19, 3, 0, 2, .int 0),
  (9, 0, .if_icmp .ge 21, 3, 30, 0, .null),
  (12, 0, .iload_n 1, 1, 1, 0, .null),
  (13, 0, .aload_n 0, 1, 0, 0, .null),
  (14, 292, .getfield 15, 3, 0, 1, .null),
  (17, 0, .arraylength, 1, 0, 0, .null),
  (18, 0, .if_icmp .ge 12, 3, 30, 0, .null),
  (21, 0, .aload_n 0, 1, 0, 0, .null),
  (22, 292, .getfield 15, 3, 0, 1, .null),
  (25, 0, .iload_n 1, 1, 1, 0, .null),
  (26, 0, .baload, 1, 0, 0, .null),
  (27, 0, .ifCond .eq 7, 3, 34, 0, .null),
  (30, 0, .iconst 1, 1, 0, 0, .int (1)),
  (31, 0, .goto 4, 3, 35, 0, .null),
  (34, 0, .iconst 0, 1, 0, 0, .int (0)),
  (35, 0, .ireturn, 1, 0, 0, .null)]
abbrev id_X0_isGap : Nat := 2
def mi_X0_isGap : MI := (yX0_isGap, cX0_isGap, 2, (some .boolean), 0, ct_X0_isGap)
theorem fe_X0_isGap_0 : mj_f mi_X0_isGap 0 = some (.iload_n 1, 1, 1, 0, .null) := by decide +kernel
theorem fe_X0_isGap_1 : mj_f mi_X0_isGap 1 = some (.ifCond .lt 29, 3, 30, 0, .null) := by decide +kernel
theorem fe_X0_isGap_4 : mj_f mi_X0_isGap 4 = some (.iload_n 1, 1, 1, 0, .null) := by decide +kernel
theorem fe_X0_isGap_5 : mj_f mi_X0_isGap 5 = some (.aload_n 0, 1, 0, 0, .null) := by decide +kernel
theorem fe_X0_isGap_6 : mj_f mi_X0_isGap 6 = some (.getfield 19, 3, 0, 2, .int 0) := by decide +kernel
theorem fe_X0_isGap_9 : mj_f mi_X0_isGap 9 = some (.if_icmp .ge 21, 3, 30, 0, .null) := by decide +kernel
theorem fe_X0_isGap_12 : mj_f mi_X0_isGap 12 = some (.iload_n 1, 1, 1, 0, .null) := by decide +kernel
theorem fe_X0_isGap_13 : mj_f mi_X0_isGap 13 = some (.aload_n 0, 1, 0, 0, .null) := by decide +kernel
theorem fe_X0_isGap_14 : mj_f mi_X0_isGap 14 = some (.getfield 15, 3, 0, 1, .null) := by decide +kernel
theorem fe_X0_isGap_17 : mj_f mi_X0_isGap 17 = some (.arraylength, 1, 0, 0, .null) := by decide +kernel
theorem fe_X0_isGap_18 : mj_f mi_X0_isGap 18 = some (.if_icmp .ge 12, 3, 30, 0, .null) := by decide +kernel
theorem fe_X0_isGap_21 : mj_f mi_X0_isGap 21 = some (.aload_n 0, 1, 0, 0, .null) := by decide +kernel
theorem fe_X0_isGap_22 : mj_f mi_X0_isGap 22 = some (.getfield 15, 3, 0, 1, .null) := by decide +kernel
theorem fe_X0_isGap_25 : mj_f mi_X0_isGap 25 = some (.iload_n 1, 1, 1, 0, .null) := by decide +kernel
theorem fe_X0_isGap_26 : mj_f mi_X0_isGap 26 = some (.baload, 1, 0, 0, .null) := by decide +kernel
theorem fe_X0_isGap_27 : mj_f mi_X0_isGap 27 = some (.ifCond .eq 7, 3, 34, 0, .null) := by decide +kernel
theorem fe_X0_isGap_30 : mj_f mi_X0_isGap 30 = some (.iconst 1, 1, 0, 0, .int (1)) := by decide +kernel
theorem fe_X0_isGap_31 : mj_f mi_X0_isGap 31 = some (.goto 4, 3, 35, 0, .null) := by decide +kernel
theorem fe_X0_isGap_34 : mj_f mi_X0_isGap 34 = some (.iconst 0, 1, 0, 0, .int (0)) := by decide +kernel
theorem fe_X0_isGap_35 : mj_f mi_X0_isGap 35 = some (.ireturn, 1, 0, 0, .null) := by decide +kernel
def ct_X0_valueAt : MJT := [
  (0, 0, .aload_n 0, 1, 0, 0, .null),
  (1, 0, .iload_n 1, 1, 1, 0, .null),
  (2, 539, .invokevirtual 23, 3, 2, 1, .null),
  (5, 0, .ifCond .eq 7, 3, 12, 0, .null),
  (8, 0, .lconst 0, 1, 0, 0, .long 0),
  (9, 0, .goto 9, 3, 18, 0, .null),
  (12, 0, .aload_n 0, 1, 0, 0, .null),
  (13, 291, .getfield 9, 3, 0, 0, .null),
  (16, 0, .iload_n 1, 1, 1, 0, .null),
  (17, 0, .laload, 1, 0, 0, .null),
  (18, 0, .lreturn, 1, 0, 0, .null)]
abbrev id_X0_valueAt : Nat := 3
def mi_X0_valueAt : MI := (yX0_valueAt, cX0_valueAt, 2, (some .long), 0, ct_X0_valueAt)
theorem fe_X0_valueAt_0 : mj_f mi_X0_valueAt 0 = some (.aload_n 0, 1, 0, 0, .null) := by decide +kernel
theorem fe_X0_valueAt_1 : mj_f mi_X0_valueAt 1 = some (.iload_n 1, 1, 1, 0, .null) := by decide +kernel
theorem fe_X0_valueAt_2 : mj_f mi_X0_valueAt 2 = some (.invokevirtual 23, 3, 2, 1, .null) := by decide +kernel
theorem fe_X0_valueAt_5 : mj_f mi_X0_valueAt 5 = some (.ifCond .eq 7, 3, 12, 0, .null) := by decide +kernel
theorem fe_X0_valueAt_8 : mj_f mi_X0_valueAt 8 = some (.lconst 0, 1, 0, 0, .long 0) := by decide +kernel
theorem fe_X0_valueAt_9 : mj_f mi_X0_valueAt 9 = some (.goto 9, 3, 18, 0, .null) := by decide +kernel
theorem fe_X0_valueAt_12 : mj_f mi_X0_valueAt 12 = some (.aload_n 0, 1, 0, 0, .null) := by decide +kernel
theorem fe_X0_valueAt_13 : mj_f mi_X0_valueAt 13 = some (.getfield 9, 3, 0, 0, .null) := by decide +kernel
theorem fe_X0_valueAt_16 : mj_f mi_X0_valueAt 16 = some (.iload_n 1, 1, 1, 0, .null) := by decide +kernel
theorem fe_X0_valueAt_17 : mj_f mi_X0_valueAt 17 = some (.laload, 1, 0, 0, .null) := by decide +kernel
theorem fe_X0_valueAt_18 : mj_f mi_X0_valueAt 18 = some (.lreturn, 1, 0, 0, .null) := by decide +kernel
def ct_X0_empty : MJT := [
  (0, 0, .aload_n 0, 1, 0, 0, .null),
  (1, 0, .iconst 0, 1, 0, 0, .int (0)),
  (2, 293, .putfield 19, 3, 0, 2, .int 0),
  (5, 0, .return_, 1, 0, 0, .null)]
abbrev id_X0_empty : Nat := 4
def mi_X0_empty : MI := (yX0_empty, cX0_empty, 1, none, 0, ct_X0_empty)
theorem fe_X0_empty_0 : mj_f mi_X0_empty 0 = some (.aload_n 0, 1, 0, 0, .null) := by decide +kernel
theorem fe_X0_empty_1 : mj_f mi_X0_empty 1 = some (.iconst 0, 1, 0, 0, .int (0)) := by decide +kernel
theorem fe_X0_empty_2 : mj_f mi_X0_empty 2 = some (.putfield 19, 3, 0, 2, .int 0) := by decide +kernel
theorem fe_X0_empty_5 : mj_f mi_X0_empty 5 = some (.return_, 1, 0, 0, .null) := by decide +kernel
def ct_X0_add : MJT := [
  (0, 0, .aload_n 0, 1, 0, 0, .null),
  (1, 293, .getfield 19, 3, 0, 2, .int 0),
  (4, 0, .ifCond .lt 65, 3, 69, 0, .null),
  (7, 0, .aload_n 0, 1, 0, 0, .null),
  (8, 293, .getfield 19, 3, 0, 2, .int 0),
  (11, 0, .aload_n 0, 1, 0, 0, .null),
  (12, 291, .getfield 9, 3, 0, 0, .null),
  (15, 0, .arraylength, 1, 0, 0, .null),
  (16, 0, .if_icmp .ge 53, 3, 69, 0, .null),
  (19, 0, .aload_n 0, 1, 0, 0, .null),
  (20, 293, .getfield 19, 3, 0, 2, .int 0),
  (23, 0, .aload_n 0, 1, 0, 0, .null),
  (24, 292, .getfield 15, 3, 0, 1, .null),
  (27, 0, .arraylength, 1, 0, 0, .null),
  (28, 0, .if_icmp .ge 41, 3, 69, 0, .null),
  (31, 0, .aload_n 0, 1, 0, 0, .null),
  (32, 292, .getfield 15, 3, 0, 1, .null),
  (35, 0, .aload_n 0, 1, 0, 0, .null),
  (36, 293, .getfield 19, 3, 0, 2, .int 0),
  (39, 0, .iload_n 1, 1, 1, 0, .null),
  (40, 0, .bastore, 1, 0, 0, .null),
  (41, 0, .aload_n 0, 1, 0, 0, .null),
  (42, 291, .getfield 9, 3, 0, 0, .null),
  (45, 0, .aload_n 0, 1, 0, 0, .null),
  (46, 293, .getfield 19, 3, 0, 2, .int 0),
  (49, 0, .iload_n 1, 1, 1, 0, .null),
  (50, 0, .ifCond .eq 7, 3, 57, 0, .null),
  (53, 0, .lconst 0, 1, 0, 0, .long 0),
  (54, 0, .goto 4, 3, 58, 0, .null),
  (57, 0, .lload_n 2, 1, 2, 0, .null),
  (58, 0, .lastore, 1, 0, 0, .null),
  (59, 0, .aload_n 0, 1, 0, 0, .null),
  (60, 0, .dup, 1, 0, 0, .null),
  (61, 293, .getfield 19, 3, 0, 2, .int 0),
  (64, 0, .iconst 1, 1, 0, 0, .int (1)),
  (65, 0, .iadd, 1, 0, 0, .null),
  (66, 293, .putfield 19, 3, 0, 2, .int 0),
  (69, 0, .return_, 1, 0, 0, .null)]
abbrev id_X0_add : Nat := 5
def mi_X0_add : MI := (yX0_add, cX0_add, 4, none, 0, ct_X0_add)
theorem fe_X0_add_0 : mj_f mi_X0_add 0 = some (.aload_n 0, 1, 0, 0, .null) := by decide +kernel
theorem fe_X0_add_1 : mj_f mi_X0_add 1 = some (.getfield 19, 3, 0, 2, .int 0) := by decide +kernel
theorem fe_X0_add_4 : mj_f mi_X0_add 4 = some (.ifCond .lt 65, 3, 69, 0, .null) := by decide +kernel
theorem fe_X0_add_7 : mj_f mi_X0_add 7 = some (.aload_n 0, 1, 0, 0, .null) := by decide +kernel
theorem fe_X0_add_8 : mj_f mi_X0_add 8 = some (.getfield 19, 3, 0, 2, .int 0) := by decide +kernel
theorem fe_X0_add_11 : mj_f mi_X0_add 11 = some (.aload_n 0, 1, 0, 0, .null) := by decide +kernel
theorem fe_X0_add_12 : mj_f mi_X0_add 12 = some (.getfield 9, 3, 0, 0, .null) := by decide +kernel
theorem fe_X0_add_15 : mj_f mi_X0_add 15 = some (.arraylength, 1, 0, 0, .null) := by decide +kernel
theorem fe_X0_add_16 : mj_f mi_X0_add 16 = some (.if_icmp .ge 53, 3, 69, 0, .null) := by decide +kernel
theorem fe_X0_add_19 : mj_f mi_X0_add 19 = some (.aload_n 0, 1, 0, 0, .null) := by decide +kernel
theorem fe_X0_add_20 : mj_f mi_X0_add 20 = some (.getfield 19, 3, 0, 2, .int 0) := by decide +kernel
theorem fe_X0_add_23 : mj_f mi_X0_add 23 = some (.aload_n 0, 1, 0, 0, .null) := by decide +kernel
theorem fe_X0_add_24 : mj_f mi_X0_add 24 = some (.getfield 15, 3, 0, 1, .null) := by decide +kernel
theorem fe_X0_add_27 : mj_f mi_X0_add 27 = some (.arraylength, 1, 0, 0, .null) := by decide +kernel
theorem fe_X0_add_28 : mj_f mi_X0_add 28 = some (.if_icmp .ge 41, 3, 69, 0, .null) := by decide +kernel
theorem fe_X0_add_31 : mj_f mi_X0_add 31 = some (.aload_n 0, 1, 0, 0, .null) := by decide +kernel
theorem fe_X0_add_32 : mj_f mi_X0_add 32 = some (.getfield 15, 3, 0, 1, .null) := by decide +kernel
theorem fe_X0_add_35 : mj_f mi_X0_add 35 = some (.aload_n 0, 1, 0, 0, .null) := by decide +kernel
theorem fe_X0_add_36 : mj_f mi_X0_add 36 = some (.getfield 19, 3, 0, 2, .int 0) := by decide +kernel
theorem fe_X0_add_39 : mj_f mi_X0_add 39 = some (.iload_n 1, 1, 1, 0, .null) := by decide +kernel
theorem fe_X0_add_40 : mj_f mi_X0_add 40 = some (.bastore, 1, 0, 0, .null) := by decide +kernel
theorem fe_X0_add_41 : mj_f mi_X0_add 41 = some (.aload_n 0, 1, 0, 0, .null) := by decide +kernel
theorem fe_X0_add_42 : mj_f mi_X0_add 42 = some (.getfield 9, 3, 0, 0, .null) := by decide +kernel
theorem fe_X0_add_45 : mj_f mi_X0_add 45 = some (.aload_n 0, 1, 0, 0, .null) := by decide +kernel
theorem fe_X0_add_46 : mj_f mi_X0_add 46 = some (.getfield 19, 3, 0, 2, .int 0) := by decide +kernel
theorem fe_X0_add_49 : mj_f mi_X0_add 49 = some (.iload_n 1, 1, 1, 0, .null) := by decide +kernel
theorem fe_X0_add_50 : mj_f mi_X0_add 50 = some (.ifCond .eq 7, 3, 57, 0, .null) := by decide +kernel
theorem fe_X0_add_53 : mj_f mi_X0_add 53 = some (.lconst 0, 1, 0, 0, .long 0) := by decide +kernel
theorem fe_X0_add_54 : mj_f mi_X0_add 54 = some (.goto 4, 3, 58, 0, .null) := by decide +kernel
theorem fe_X0_add_57 : mj_f mi_X0_add 57 = some (.lload_n 2, 1, 2, 0, .null) := by decide +kernel
theorem fe_X0_add_58 : mj_f mi_X0_add 58 = some (.lastore, 1, 0, 0, .null) := by decide +kernel
theorem fe_X0_add_59 : mj_f mi_X0_add 59 = some (.aload_n 0, 1, 0, 0, .null) := by decide +kernel
theorem fe_X0_add_60 : mj_f mi_X0_add 60 = some (.dup, 1, 0, 0, .null) := by decide +kernel
theorem fe_X0_add_61 : mj_f mi_X0_add 61 = some (.getfield 19, 3, 0, 2, .int 0) := by decide +kernel
theorem fe_X0_add_64 : mj_f mi_X0_add 64 = some (.iconst 1, 1, 0, 0, .int (1)) := by decide +kernel
theorem fe_X0_add_65 : mj_f mi_X0_add 65 = some (.iadd, 1, 0, 0, .null) := by decide +kernel
theorem fe_X0_add_66 : mj_f mi_X0_add 66 = some (.putfield 19, 3, 0, 2, .int 0) := by decide +kernel
theorem fe_X0_add_69 : mj_f mi_X0_add 69 = some (.return_, 1, 0, 0, .null) := by decide +kernel
def ct_X0_change : MJT := [
  (0, 0, .iload_n 1, 1, 1, 0, .null),
  (1, 0, .ifCond .lt 43, 3, 44, 0, .null),
  (4, 0, .iload_n 1, 1, 1, 0, .null),
  (5, 0, .aload_n 0, 1, 0, 0, .null),
  (6, 293, .getfield 19, 3, 0, 2, .int 0),
  (9, 0, .if_icmp .ge 35, 3, 44, 0, .null),
  (12, 0, .iload_n 1, 1, 1, 0, .null),
  (13, 0, .aload_n 0, 1, 0, 0, .null),
  (14, 291, .getfield 9, 3, 0, 0, .null),
  (17, 0, .arraylength, 1, 0, 0, .null),
  (18, 0, .if_icmp .ge 26, 3, 44, 0, .null),
  (21, 0, .iload_n 1, 1, 1, 0, .null),
  (22, 0, .aload_n 0, 1, 0, 0, .null),
  (23, 292, .getfield 15, 3, 0, 1, .null),
  (26, 0, .arraylength, 1, 0, 0, .null),
  (27, 0, .if_icmp .ge 17, 3, 44, 0, .null),
  (30, 0, .aload_n 0, 1, 0, 0, .null),
  (31, 292, .getfield 15, 3, 0, 1, .null),
  (34, 0, .iload_n 1, 1, 1, 0, .null),
  (35, 0, .iconst 0, 1, 0, 0, .int (0)),
  (36, 0, .bastore, 1, 0, 0, .null),
  (37, 0, .aload_n 0, 1, 0, 0, .null),
  (38, 291, .getfield 9, 3, 0, 0, .null),
  (41, 0, .iload_n 1, 1, 1, 0, .null),
  (42, 0, .lload_n 2, 1, 2, 0, .null),
  (43, 0, .lastore, 1, 0, 0, .null),
  (44, 0, .return_, 1, 0, 0, .null)]
abbrev id_X0_change : Nat := 6
def mi_X0_change : MI := (yX0_change, cX0_change, 4, none, 0, ct_X0_change)
theorem fe_X0_change_0 : mj_f mi_X0_change 0 = some (.iload_n 1, 1, 1, 0, .null) := by decide +kernel
theorem fe_X0_change_1 : mj_f mi_X0_change 1 = some (.ifCond .lt 43, 3, 44, 0, .null) := by decide +kernel
theorem fe_X0_change_4 : mj_f mi_X0_change 4 = some (.iload_n 1, 1, 1, 0, .null) := by decide +kernel
theorem fe_X0_change_5 : mj_f mi_X0_change 5 = some (.aload_n 0, 1, 0, 0, .null) := by decide +kernel
theorem fe_X0_change_6 : mj_f mi_X0_change 6 = some (.getfield 19, 3, 0, 2, .int 0) := by decide +kernel
theorem fe_X0_change_9 : mj_f mi_X0_change 9 = some (.if_icmp .ge 35, 3, 44, 0, .null) := by decide +kernel
theorem fe_X0_change_12 : mj_f mi_X0_change 12 = some (.iload_n 1, 1, 1, 0, .null) := by decide +kernel
theorem fe_X0_change_13 : mj_f mi_X0_change 13 = some (.aload_n 0, 1, 0, 0, .null) := by decide +kernel
theorem fe_X0_change_14 : mj_f mi_X0_change 14 = some (.getfield 9, 3, 0, 0, .null) := by decide +kernel
theorem fe_X0_change_17 : mj_f mi_X0_change 17 = some (.arraylength, 1, 0, 0, .null) := by decide +kernel
theorem fe_X0_change_18 : mj_f mi_X0_change 18 = some (.if_icmp .ge 26, 3, 44, 0, .null) := by decide +kernel
theorem fe_X0_change_21 : mj_f mi_X0_change 21 = some (.iload_n 1, 1, 1, 0, .null) := by decide +kernel
theorem fe_X0_change_22 : mj_f mi_X0_change 22 = some (.aload_n 0, 1, 0, 0, .null) := by decide +kernel
theorem fe_X0_change_23 : mj_f mi_X0_change 23 = some (.getfield 15, 3, 0, 1, .null) := by decide +kernel
theorem fe_X0_change_26 : mj_f mi_X0_change 26 = some (.arraylength, 1, 0, 0, .null) := by decide +kernel
theorem fe_X0_change_27 : mj_f mi_X0_change 27 = some (.if_icmp .ge 17, 3, 44, 0, .null) := by decide +kernel
theorem fe_X0_change_30 : mj_f mi_X0_change 30 = some (.aload_n 0, 1, 0, 0, .null) := by decide +kernel
theorem fe_X0_change_31 : mj_f mi_X0_change 31 = some (.getfield 15, 3, 0, 1, .null) := by decide +kernel
theorem fe_X0_change_34 : mj_f mi_X0_change 34 = some (.iload_n 1, 1, 1, 0, .null) := by decide +kernel
theorem fe_X0_change_35 : mj_f mi_X0_change 35 = some (.iconst 0, 1, 0, 0, .int (0)) := by decide +kernel
theorem fe_X0_change_36 : mj_f mi_X0_change 36 = some (.bastore, 1, 0, 0, .null) := by decide +kernel
theorem fe_X0_change_37 : mj_f mi_X0_change 37 = some (.aload_n 0, 1, 0, 0, .null) := by decide +kernel
theorem fe_X0_change_38 : mj_f mi_X0_change 38 = some (.getfield 9, 3, 0, 0, .null) := by decide +kernel
theorem fe_X0_change_41 : mj_f mi_X0_change 41 = some (.iload_n 1, 1, 1, 0, .null) := by decide +kernel
theorem fe_X0_change_42 : mj_f mi_X0_change 42 = some (.lload_n 2, 1, 2, 0, .null) := by decide +kernel
theorem fe_X0_change_43 : mj_f mi_X0_change 43 = some (.lastore, 1, 0, 0, .null) := by decide +kernel
theorem fe_X0_change_44 : mj_f mi_X0_change 44 = some (.return_, 1, 0, 0, .null) := by decide +kernel
def ct_X0_present : MJT := [
  (0, 0, .iconst 0, 1, 0, 0, .int (0)),
  (1, 0, .istore_n 1, 1, 1, 0, .null),
  (2, 0, .iconst 0, 1, 0, 0, .int (0)),
  (3, 0, .istore_n 2, 1, 2, 0, .null),
  (4, 0, .iload_n 2, 1, 2, 0, .null),
  (5, 0, .aload_n 0, 1, 0, 0, .null),
  (6, 293, .getfield 19, 3, 0, 2, .int 0),
  (9, 0, .if_icmp .ge 25, 3, 34, 0, .null),
  (12, 0, .iload_n 1, 1, 1, 0, .null),
  (13, 0, .aload_n 0, 1, 0, 0, .null),
  (14, 0, .iload_n 2, 1, 2, 0, .null),
  (15, 539, .invokevirtual 23, 3, 2, 1, .null),
  (18, 0, .ifCond .eq 7, 3, 25, 0, .null),
  (21, 0, .iconst 0, 1, 0, 0, .int (0)),
  (22, 0, .goto 4, 3, 26, 0, .null),
  (25, 0, .iconst 1, 1, 0, 0, .int (1)),
  (26, 0, .iadd, 1, 0, 0, .null),
  (27, 0, .istore_n 1, 1, 1, 0, .null),
  (28, 0, .iinc 2 1, 3, 2, 0, .int (1)),
  (31, 0, .goto (-27), 3, 4, 0, .null),
  (34, 0, .iload_n 1, 1, 1, 0, .null),
  (35, 0, .ireturn, 1, 0, 0, .null)]
abbrev id_X0_present : Nat := 7
def mi_X0_present : MI := (yX0_present, cX0_present, 3, (some .int), 0, ct_X0_present)
theorem fe_X0_present_0 : mj_f mi_X0_present 0 = some (.iconst 0, 1, 0, 0, .int (0)) := by decide +kernel
theorem fe_X0_present_1 : mj_f mi_X0_present 1 = some (.istore_n 1, 1, 1, 0, .null) := by decide +kernel
theorem fe_X0_present_2 : mj_f mi_X0_present 2 = some (.iconst 0, 1, 0, 0, .int (0)) := by decide +kernel
theorem fe_X0_present_3 : mj_f mi_X0_present 3 = some (.istore_n 2, 1, 2, 0, .null) := by decide +kernel
theorem fe_X0_present_4 : mj_f mi_X0_present 4 = some (.iload_n 2, 1, 2, 0, .null) := by decide +kernel
theorem fe_X0_present_5 : mj_f mi_X0_present 5 = some (.aload_n 0, 1, 0, 0, .null) := by decide +kernel
theorem fe_X0_present_6 : mj_f mi_X0_present 6 = some (.getfield 19, 3, 0, 2, .int 0) := by decide +kernel
theorem fe_X0_present_9 : mj_f mi_X0_present 9 = some (.if_icmp .ge 25, 3, 34, 0, .null) := by decide +kernel
theorem fe_X0_present_12 : mj_f mi_X0_present 12 = some (.iload_n 1, 1, 1, 0, .null) := by decide +kernel
theorem fe_X0_present_13 : mj_f mi_X0_present 13 = some (.aload_n 0, 1, 0, 0, .null) := by decide +kernel
theorem fe_X0_present_14 : mj_f mi_X0_present 14 = some (.iload_n 2, 1, 2, 0, .null) := by decide +kernel
theorem fe_X0_present_15 : mj_f mi_X0_present 15 = some (.invokevirtual 23, 3, 2, 1, .null) := by decide +kernel
theorem fe_X0_present_18 : mj_f mi_X0_present 18 = some (.ifCond .eq 7, 3, 25, 0, .null) := by decide +kernel
theorem fe_X0_present_21 : mj_f mi_X0_present 21 = some (.iconst 0, 1, 0, 0, .int (0)) := by decide +kernel
theorem fe_X0_present_22 : mj_f mi_X0_present 22 = some (.goto 4, 3, 26, 0, .null) := by decide +kernel
theorem fe_X0_present_25 : mj_f mi_X0_present 25 = some (.iconst 1, 1, 0, 0, .int (1)) := by decide +kernel
theorem fe_X0_present_26 : mj_f mi_X0_present 26 = some (.iadd, 1, 0, 0, .null) := by decide +kernel
theorem fe_X0_present_27 : mj_f mi_X0_present 27 = some (.istore_n 1, 1, 1, 0, .null) := by decide +kernel
theorem fe_X0_present_28 : mj_f mi_X0_present 28 = some (.iinc 2 1, 3, 2, 0, .int (1)) := by decide +kernel
theorem fe_X0_present_31 : mj_f mi_X0_present 31 = some (.goto (-27), 3, 4, 0, .null) := by decide +kernel
theorem fe_X0_present_34 : mj_f mi_X0_present 34 = some (.iload_n 1, 1, 1, 0, .null) := by decide +kernel
theorem fe_X0_present_35 : mj_f mi_X0_present 35 = some (.ireturn, 1, 0, 0, .null) := by decide +kernel
def ct_X0_become : MJT := [
  (0, 0, .aload_n 0, 1, 0, 0, .null),
  (1, 662, .invokevirtual 27, 3, 4, 0, .null),
  (4, 0, .iconst 0, 1, 0, 0, .int (0)),
  (5, 0, .istore_n 2, 1, 2, 0, .null),
  (6, 0, .iload_n 2, 1, 2, 0, .null),
  (7, 0, .aload_n 1, 1, 1, 0, .null),
  (8, 293, .getfield 19, 3, 0, 2, .int 0),
  (11, 0, .if_icmp .ge 23, 3, 34, 0, .null),
  (14, 0, .aload_n 0, 1, 0, 0, .null),
  (15, 0, .aload_n 1, 1, 1, 0, .null),
  (16, 0, .iload_n 2, 1, 2, 0, .null),
  (17, 539, .invokevirtual 23, 3, 2, 1, .null),
  (20, 0, .aload_n 1, 1, 1, 0, .null),
  (21, 0, .iload_n 2, 1, 2, 0, .null),
  (22, 663, .invokevirtual 30, 3, 3, 1, .null),
  (25, 667, .invokevirtual 34, 3, 5, 2, .null),
  (28, 0, .iinc 2 1, 3, 2, 0, .int (1)),
  (31, 0, .goto (-25), 3, 6, 0, .null),
  (34, 0, .return_, 1, 0, 0, .null)]
abbrev id_X0_become : Nat := 8
def mi_X0_become : MI := (yX0_become, cX0_become, 3, none, 0, ct_X0_become)
theorem fe_X0_become_0 : mj_f mi_X0_become 0 = some (.aload_n 0, 1, 0, 0, .null) := by decide +kernel
theorem fe_X0_become_1 : mj_f mi_X0_become 1 = some (.invokevirtual 27, 3, 4, 0, .null) := by decide +kernel
theorem fe_X0_become_4 : mj_f mi_X0_become 4 = some (.iconst 0, 1, 0, 0, .int (0)) := by decide +kernel
theorem fe_X0_become_5 : mj_f mi_X0_become 5 = some (.istore_n 2, 1, 2, 0, .null) := by decide +kernel
theorem fe_X0_become_6 : mj_f mi_X0_become 6 = some (.iload_n 2, 1, 2, 0, .null) := by decide +kernel
theorem fe_X0_become_7 : mj_f mi_X0_become 7 = some (.aload_n 1, 1, 1, 0, .null) := by decide +kernel
theorem fe_X0_become_8 : mj_f mi_X0_become 8 = some (.getfield 19, 3, 0, 2, .int 0) := by decide +kernel
theorem fe_X0_become_11 : mj_f mi_X0_become 11 = some (.if_icmp .ge 23, 3, 34, 0, .null) := by decide +kernel
theorem fe_X0_become_14 : mj_f mi_X0_become 14 = some (.aload_n 0, 1, 0, 0, .null) := by decide +kernel
theorem fe_X0_become_15 : mj_f mi_X0_become 15 = some (.aload_n 1, 1, 1, 0, .null) := by decide +kernel
theorem fe_X0_become_16 : mj_f mi_X0_become 16 = some (.iload_n 2, 1, 2, 0, .null) := by decide +kernel
theorem fe_X0_become_17 : mj_f mi_X0_become 17 = some (.invokevirtual 23, 3, 2, 1, .null) := by decide +kernel
theorem fe_X0_become_20 : mj_f mi_X0_become 20 = some (.aload_n 1, 1, 1, 0, .null) := by decide +kernel
theorem fe_X0_become_21 : mj_f mi_X0_become 21 = some (.iload_n 2, 1, 2, 0, .null) := by decide +kernel
theorem fe_X0_become_22 : mj_f mi_X0_become 22 = some (.invokevirtual 30, 3, 3, 1, .null) := by decide +kernel
theorem fe_X0_become_25 : mj_f mi_X0_become 25 = some (.invokevirtual 34, 3, 5, 2, .null) := by decide +kernel
theorem fe_X0_become_28 : mj_f mi_X0_become 28 = some (.iinc 2 1, 3, 2, 0, .int (1)) := by decide +kernel
theorem fe_X0_become_31 : mj_f mi_X0_become 31 = some (.goto (-25), 3, 6, 0, .null) := by decide +kernel
theorem fe_X0_become_34 : mj_f mi_X0_become 34 = some (.return_, 1, 0, 0, .null) := by decide +kernel
def ct_X0_tellTo : MJT := [
  (0, 0, .iconst 0, 1, 0, 0, .int (0)),
  (1, 0, .istore 6, 2, 6, 0, .null),
  (3, 0, .iload 6, 2, 6, 0, .null),
  (5, 0, .aload_n 0, 1, 0, 0, .null),
  (6, 293, .getfield 19, 3, 0, 2, .int 0),
  (9, 0, .if_icmp .ge 48, 3, 57, 0, .null),
  (12, 0, .aload_n 0, 1, 0, 0, .null),
  (13, 0, .iload 6, 2, 6, 0, .null),
  (15, 663, .invokevirtual 30, 3, 3, 1, .null),
  (18, 0, .lstore 7, 2, 7, 0, .null),
  (20, 0, .aload_n 0, 1, 0, 0, .null),
  (21, 0, .iload 6, 2, 6, 0, .null),
  (23, 539, .invokevirtual 23, 3, 2, 1, .null),
  (26, 0, .ifCond .ne 25, 3, 51, 0, .null),
  (29, 0, .lload 7, 2, 7, 0, .null),
  (31, 0, .lload_n 2, 1, 2, 0, .null),
  (32, 0, .lcmp, 1, 0, 0, .null),
  (33, 0, .ifCond .lt 18, 3, 51, 0, .null),
  (36, 0, .lload 7, 2, 7, 0, .null),
  (38, 0, .lload 4, 2, 4, 0, .null),
  (40, 0, .lcmp, 1, 0, 0, .null),
  (41, 0, .ifCond .gt 10, 3, 51, 0, .null),
  (44, 0, .aload_n 1, 1, 1, 0, .null),
  (45, 0, .iconst 1, 1, 0, 0, .int (1)),
  (46, 0, .lload 7, 2, 7, 0, .null),
  (48, 1120, .invokevirtual 38, 3, 136, 2, .null),
  (51, 0, .iinc 6 1, 3, 6, 0, .int (1)),
  (54, 0, .goto (-51), 3, 3, 0, .null),
  (57, 0, .return_, 1, 0, 0, .null)]
abbrev id_X0_tellTo : Nat := 9
def mi_X0_tellTo : MI := (yX0_tellTo, cX0_tellTo, 9, none, 0, ct_X0_tellTo)
theorem fe_X0_tellTo_0 : mj_f mi_X0_tellTo 0 = some (.iconst 0, 1, 0, 0, .int (0)) := by decide +kernel
theorem fe_X0_tellTo_1 : mj_f mi_X0_tellTo 1 = some (.istore 6, 2, 6, 0, .null) := by decide +kernel
theorem fe_X0_tellTo_3 : mj_f mi_X0_tellTo 3 = some (.iload 6, 2, 6, 0, .null) := by decide +kernel
theorem fe_X0_tellTo_5 : mj_f mi_X0_tellTo 5 = some (.aload_n 0, 1, 0, 0, .null) := by decide +kernel
theorem fe_X0_tellTo_6 : mj_f mi_X0_tellTo 6 = some (.getfield 19, 3, 0, 2, .int 0) := by decide +kernel
theorem fe_X0_tellTo_9 : mj_f mi_X0_tellTo 9 = some (.if_icmp .ge 48, 3, 57, 0, .null) := by decide +kernel
theorem fe_X0_tellTo_12 : mj_f mi_X0_tellTo 12 = some (.aload_n 0, 1, 0, 0, .null) := by decide +kernel
theorem fe_X0_tellTo_13 : mj_f mi_X0_tellTo 13 = some (.iload 6, 2, 6, 0, .null) := by decide +kernel
theorem fe_X0_tellTo_15 : mj_f mi_X0_tellTo 15 = some (.invokevirtual 30, 3, 3, 1, .null) := by decide +kernel
theorem fe_X0_tellTo_18 : mj_f mi_X0_tellTo 18 = some (.lstore 7, 2, 7, 0, .null) := by decide +kernel
theorem fe_X0_tellTo_20 : mj_f mi_X0_tellTo 20 = some (.aload_n 0, 1, 0, 0, .null) := by decide +kernel
theorem fe_X0_tellTo_21 : mj_f mi_X0_tellTo 21 = some (.iload 6, 2, 6, 0, .null) := by decide +kernel
theorem fe_X0_tellTo_23 : mj_f mi_X0_tellTo 23 = some (.invokevirtual 23, 3, 2, 1, .null) := by decide +kernel
theorem fe_X0_tellTo_26 : mj_f mi_X0_tellTo 26 = some (.ifCond .ne 25, 3, 51, 0, .null) := by decide +kernel
theorem fe_X0_tellTo_29 : mj_f mi_X0_tellTo 29 = some (.lload 7, 2, 7, 0, .null) := by decide +kernel
theorem fe_X0_tellTo_31 : mj_f mi_X0_tellTo 31 = some (.lload_n 2, 1, 2, 0, .null) := by decide +kernel
theorem fe_X0_tellTo_32 : mj_f mi_X0_tellTo 32 = some (.lcmp, 1, 0, 0, .null) := by decide +kernel
theorem fe_X0_tellTo_33 : mj_f mi_X0_tellTo 33 = some (.ifCond .lt 18, 3, 51, 0, .null) := by decide +kernel
theorem fe_X0_tellTo_36 : mj_f mi_X0_tellTo 36 = some (.lload 7, 2, 7, 0, .null) := by decide +kernel
theorem fe_X0_tellTo_38 : mj_f mi_X0_tellTo 38 = some (.lload 4, 2, 4, 0, .null) := by decide +kernel
theorem fe_X0_tellTo_40 : mj_f mi_X0_tellTo 40 = some (.lcmp, 1, 0, 0, .null) := by decide +kernel
theorem fe_X0_tellTo_41 : mj_f mi_X0_tellTo 41 = some (.ifCond .gt 10, 3, 51, 0, .null) := by decide +kernel
theorem fe_X0_tellTo_44 : mj_f mi_X0_tellTo 44 = some (.aload_n 1, 1, 1, 0, .null) := by decide +kernel
theorem fe_X0_tellTo_45 : mj_f mi_X0_tellTo 45 = some (.iconst 1, 1, 0, 0, .int (1)) := by decide +kernel
theorem fe_X0_tellTo_46 : mj_f mi_X0_tellTo 46 = some (.lload 7, 2, 7, 0, .null) := by decide +kernel
theorem fe_X0_tellTo_48 : mj_f mi_X0_tellTo 48 = some (.invokevirtual 38, 3, 136, 2, .null) := by decide +kernel
theorem fe_X0_tellTo_51 : mj_f mi_X0_tellTo 51 = some (.iinc 6 1, 3, 6, 0, .int (1)) := by decide +kernel
theorem fe_X0_tellTo_54 : mj_f mi_X0_tellTo 54 = some (.goto (-51), 3, 3, 0, .null) := by decide +kernel
theorem fe_X0_tellTo_57 : mj_f mi_X0_tellTo 57 = some (.return_, 1, 0, 0, .null) := by decide +kernel
def ct_X1_init : MJT := [
  (0, 0, .aload_n 0, 1, 0, 0, .null),
  (1, 117, .invokespecial 3, 3, 1000, 0, .null),
  (4, 0, .aload_n 0, 1, 0, 0, .null),
  (5, 0, .sipush 300, 3, 0, 0, .int (300)),
  (8, 0, .newarray .byte, 2, 0, 0, .null),
  (10, 118, .putfield 9, 3, 1, 0, .null),
  (13, 0, .aload_n 0, 1, 0, 0, .null),
  (14, 0, .iconst 0, 1, 0, 0, .int (0)),
  (15, 119, .putfield 15, 3, 1, 1, .int 0),
  (18, 0, .return_, 1, 0, 0, .null)]
abbrev id_X1_init : Nat := 10
def mi_X1_init : MI := (yX1_init, cX1_init, 1, none, 1, ct_X1_init)
theorem fe_X1_init_0 : mj_f mi_X1_init 0 = some (.aload_n 0, 1, 0, 0, .null) := by decide +kernel
theorem fe_X1_init_1 : mj_f mi_X1_init 1 = some (.invokespecial 3, 3, 1000, 0, .null) := by decide +kernel
theorem fe_X1_init_4 : mj_f mi_X1_init 4 = some (.aload_n 0, 1, 0, 0, .null) := by decide +kernel
theorem fe_X1_init_5 : mj_f mi_X1_init 5 = some (.sipush 300, 3, 0, 0, .int (300)) := by decide +kernel
theorem fe_X1_init_8 : mj_f mi_X1_init 8 = some (.newarray .byte, 2, 0, 0, .null) := by decide +kernel
theorem fe_X1_init_10 : mj_f mi_X1_init 10 = some (.putfield 9, 3, 1, 0, .null) := by decide +kernel
theorem fe_X1_init_13 : mj_f mi_X1_init 13 = some (.aload_n 0, 1, 0, 0, .null) := by decide +kernel
theorem fe_X1_init_14 : mj_f mi_X1_init 14 = some (.iconst 0, 1, 0, 0, .int (0)) := by decide +kernel
theorem fe_X1_init_15 : mj_f mi_X1_init 15 = some (.putfield 15, 3, 1, 1, .int 0) := by decide +kernel
theorem fe_X1_init_18 : mj_f mi_X1_init 18 = some (.return_, 1, 0, 0, .null) := by decide +kernel
def ct_X1_size : MJT := [
  (0, 0, .aload_n 0, 1, 0, 0, .null),
  (1, 119, .getfield 15, 3, 1, 1, .int 0),
  (4, 0, .ireturn, 1, 0, 0, .null)]
abbrev id_X1_size : Nat := 11
def mi_X1_size : MI := (yX1_size, cX1_size, 1, (some .int), 1, ct_X1_size)
theorem fe_X1_size_0 : mj_f mi_X1_size 0 = some (.aload_n 0, 1, 0, 0, .null) := by decide +kernel
theorem fe_X1_size_1 : mj_f mi_X1_size 1 = some (.getfield 15, 3, 1, 1, .int 0) := by decide +kernel
theorem fe_X1_size_4 : mj_f mi_X1_size 4 = some (.ireturn, 1, 0, 0, .null) := by decide +kernel
def ct_X1_cutTo : MJT := [
  (0, 0, .iload_n 1, 1, 1, 0, .null),
  (1, 0, .ifCond .lt 11, 3, 12, 0, .null),
  (4, 0, .iload_n 1, 1, 1, 0, .null),
  (5, 0, .aload_n 0, 1, 0, 0, .null),
  (6, 119, .getfield 15, 3, 1, 1, .int 0),
  (9, 0, .if_icmp .le 5, 3, 14, 0, .null),
  (12, 0, .iconst 0, 1, 0, 0, .int (0)),
  (13, 0, .ireturn, 1, 0, 0, .null),
  (14, 0, .aload_n 0, 1, 0, 0, .null),
  (15, 0, .iload_n 1, 1, 1, 0, .null),
  (16, 119, .putfield 15, 3, 1, 1, .int 0),
  (19, 0, .iconst 1, 1, 0, 0, .int (1)),
  (20, 0, .ireturn, 1, 0, 0, .null)]
abbrev id_X1_cutTo : Nat := 12
def mi_X1_cutTo : MI := (yX1_cutTo, cX1_cutTo, 2, (some .boolean), 1, ct_X1_cutTo)
theorem fe_X1_cutTo_0 : mj_f mi_X1_cutTo 0 = some (.iload_n 1, 1, 1, 0, .null) := by decide +kernel
theorem fe_X1_cutTo_1 : mj_f mi_X1_cutTo 1 = some (.ifCond .lt 11, 3, 12, 0, .null) := by decide +kernel
theorem fe_X1_cutTo_4 : mj_f mi_X1_cutTo 4 = some (.iload_n 1, 1, 1, 0, .null) := by decide +kernel
theorem fe_X1_cutTo_5 : mj_f mi_X1_cutTo 5 = some (.aload_n 0, 1, 0, 0, .null) := by decide +kernel
theorem fe_X1_cutTo_6 : mj_f mi_X1_cutTo 6 = some (.getfield 15, 3, 1, 1, .int 0) := by decide +kernel
theorem fe_X1_cutTo_9 : mj_f mi_X1_cutTo 9 = some (.if_icmp .le 5, 3, 14, 0, .null) := by decide +kernel
theorem fe_X1_cutTo_12 : mj_f mi_X1_cutTo 12 = some (.iconst 0, 1, 0, 0, .int (0)) := by decide +kernel
theorem fe_X1_cutTo_13 : mj_f mi_X1_cutTo 13 = some (.ireturn, 1, 0, 0, .null) := by decide +kernel
theorem fe_X1_cutTo_14 : mj_f mi_X1_cutTo 14 = some (.aload_n 0, 1, 0, 0, .null) := by decide +kernel
theorem fe_X1_cutTo_15 : mj_f mi_X1_cutTo 15 = some (.iload_n 1, 1, 1, 0, .null) := by decide +kernel
theorem fe_X1_cutTo_16 : mj_f mi_X1_cutTo 16 = some (.putfield 15, 3, 1, 1, .int 0) := by decide +kernel
theorem fe_X1_cutTo_19 : mj_f mi_X1_cutTo 19 = some (.iconst 1, 1, 0, 0, .int (1)) := by decide +kernel
theorem fe_X1_cutTo_20 : mj_f mi_X1_cutTo 20 = some (.ireturn, 1, 0, 0, .null) := by decide +kernel
def ct_X1_byteAt : MJT := [
  (0, 0, .iload_n 1, 1, 1, 0, .null),
  (1, 0, .ifCond .lt 20, 3, 21, 0, .null),
  (4, 0, .iload_n 1, 1, 1, 0, .null),
  (5, 0, .aload_n 0, 1, 0, 0, .null),
  (6, 119, .getfield 15, 3, 1, 1, .int 0),
  (9, 0, .if_icmp .ge 12, 3, 21, 0, .null),
  (12, 0, .iload_n 1, 1, 1, 0, .null),
  (13, 0, .aload_n 0, 1, 0, 0, .null),
  (14, 118, .getfield 9, 3, 1, 0, .null),
  (17, 0, .arraylength, 1, 0, 0, .null),
  (18, 0, .if_icmp .lt 7, 3, 25, 0, .null),
  (21, 0, .iconst (-1), 1, 0, 0, .int (-1)),
  (22, 0, .goto 13, 3, 35, 0, .null),
  (25, 0, .aload_n 0, 1, 0, 0, .null),
  (26, 118, .getfield 9, 3, 1, 0, .null),
  (29, 0, .iload_n 1, 1, 1, 0, .null),
  (30, 0, .baload, 1, 0, 0, .null),
  (31, 0, .sipush 255, 3, 0, 0, .int (255)),
  (34, 0, .iand, 1, 0, 0, .null),
  (35, 0, .ireturn, 1, 0, 0, .null)]
abbrev id_X1_byteAt : Nat := 13
def mi_X1_byteAt : MI := (yX1_byteAt, cX1_byteAt, 2, (some .int), 1, ct_X1_byteAt)
theorem fe_X1_byteAt_0 : mj_f mi_X1_byteAt 0 = some (.iload_n 1, 1, 1, 0, .null) := by decide +kernel
theorem fe_X1_byteAt_1 : mj_f mi_X1_byteAt 1 = some (.ifCond .lt 20, 3, 21, 0, .null) := by decide +kernel
theorem fe_X1_byteAt_4 : mj_f mi_X1_byteAt 4 = some (.iload_n 1, 1, 1, 0, .null) := by decide +kernel
theorem fe_X1_byteAt_5 : mj_f mi_X1_byteAt 5 = some (.aload_n 0, 1, 0, 0, .null) := by decide +kernel
theorem fe_X1_byteAt_6 : mj_f mi_X1_byteAt 6 = some (.getfield 15, 3, 1, 1, .int 0) := by decide +kernel
theorem fe_X1_byteAt_9 : mj_f mi_X1_byteAt 9 = some (.if_icmp .ge 12, 3, 21, 0, .null) := by decide +kernel
theorem fe_X1_byteAt_12 : mj_f mi_X1_byteAt 12 = some (.iload_n 1, 1, 1, 0, .null) := by decide +kernel
theorem fe_X1_byteAt_13 : mj_f mi_X1_byteAt 13 = some (.aload_n 0, 1, 0, 0, .null) := by decide +kernel
theorem fe_X1_byteAt_14 : mj_f mi_X1_byteAt 14 = some (.getfield 9, 3, 1, 0, .null) := by decide +kernel
theorem fe_X1_byteAt_17 : mj_f mi_X1_byteAt 17 = some (.arraylength, 1, 0, 0, .null) := by decide +kernel
theorem fe_X1_byteAt_18 : mj_f mi_X1_byteAt 18 = some (.if_icmp .lt 7, 3, 25, 0, .null) := by decide +kernel
theorem fe_X1_byteAt_21 : mj_f mi_X1_byteAt 21 = some (.iconst (-1), 1, 0, 0, .int (-1)) := by decide +kernel
theorem fe_X1_byteAt_22 : mj_f mi_X1_byteAt 22 = some (.goto 13, 3, 35, 0, .null) := by decide +kernel
theorem fe_X1_byteAt_25 : mj_f mi_X1_byteAt 25 = some (.aload_n 0, 1, 0, 0, .null) := by decide +kernel
theorem fe_X1_byteAt_26 : mj_f mi_X1_byteAt 26 = some (.getfield 9, 3, 1, 0, .null) := by decide +kernel
theorem fe_X1_byteAt_29 : mj_f mi_X1_byteAt 29 = some (.iload_n 1, 1, 1, 0, .null) := by decide +kernel
theorem fe_X1_byteAt_30 : mj_f mi_X1_byteAt 30 = some (.baload, 1, 0, 0, .null) := by decide +kernel
theorem fe_X1_byteAt_31 : mj_f mi_X1_byteAt 31 = some (.sipush 255, 3, 0, 0, .int (255)) := by decide +kernel
theorem fe_X1_byteAt_34 : mj_f mi_X1_byteAt 34 = some (.iand, 1, 0, 0, .null) := by decide +kernel
theorem fe_X1_byteAt_35 : mj_f mi_X1_byteAt 35 = some (.ireturn, 1, 0, 0, .null) := by decide +kernel
def ct_X1_put : MJT := [
  (0, 0, .aload_n 0, 1, 0, 0, .null),
  (1, 119, .getfield 15, 3, 1, 1, .int 0),
  (4, 0, .ifCond .lt 36, 3, 40, 0, .null),
  (7, 0, .aload_n 0, 1, 0, 0, .null),
  (8, 119, .getfield 15, 3, 1, 1, .int 0),
  (11, 0, .aload_n 0, 1, 0, 0, .null),
  (12, 118, .getfield 9, 3, 1, 0, .null),
  (15, 0, .arraylength, 1, 0, 0, .null),
  (16, 0, .if_icmp .ge 24, 3, 40, 0, .null),
  (19, 0, .aload_n 0, 1, 0, 0, .null),
  (20, 118, .getfield 9, 3, 1, 0, .null),
  (23, 0, .aload_n 0, 1, 0, 0, .null),
  (24, 119, .getfield 15, 3, 1, 1, .int 0),
  (27, 0, .iload_n 1, 1, 1, 0, .null),
  (28, 0, .i2b, 1, 0, 0, .null),
  (29, 0, .bastore, 1, 0, 0, .null),
  (30, 0, .aload_n 0, 1, 0, 0, .null),
  (31, 0, .dup, 1, 0, 0, .null),
  (32, 119, .getfield 15, 3, 1, 1, .int 0),
  (35, 0, .iconst 1, 1, 0, 0, .int (1)),
  (36, 0, .iadd, 1, 0, 0, .null),
  (37, 119, .putfield 15, 3, 1, 1, .int 0),
  (40, 0, .return_, 1, 0, 0, .null)]
abbrev id_X1_put : Nat := 14
def mi_X1_put : MI := (yX1_put, cX1_put, 2, none, 1, ct_X1_put)
theorem fe_X1_put_0 : mj_f mi_X1_put 0 = some (.aload_n 0, 1, 0, 0, .null) := by decide +kernel
theorem fe_X1_put_1 : mj_f mi_X1_put 1 = some (.getfield 15, 3, 1, 1, .int 0) := by decide +kernel
theorem fe_X1_put_4 : mj_f mi_X1_put 4 = some (.ifCond .lt 36, 3, 40, 0, .null) := by decide +kernel
theorem fe_X1_put_7 : mj_f mi_X1_put 7 = some (.aload_n 0, 1, 0, 0, .null) := by decide +kernel
theorem fe_X1_put_8 : mj_f mi_X1_put 8 = some (.getfield 15, 3, 1, 1, .int 0) := by decide +kernel
theorem fe_X1_put_11 : mj_f mi_X1_put 11 = some (.aload_n 0, 1, 0, 0, .null) := by decide +kernel
theorem fe_X1_put_12 : mj_f mi_X1_put 12 = some (.getfield 9, 3, 1, 0, .null) := by decide +kernel
theorem fe_X1_put_15 : mj_f mi_X1_put 15 = some (.arraylength, 1, 0, 0, .null) := by decide +kernel
theorem fe_X1_put_16 : mj_f mi_X1_put 16 = some (.if_icmp .ge 24, 3, 40, 0, .null) := by decide +kernel
theorem fe_X1_put_19 : mj_f mi_X1_put 19 = some (.aload_n 0, 1, 0, 0, .null) := by decide +kernel
theorem fe_X1_put_20 : mj_f mi_X1_put 20 = some (.getfield 9, 3, 1, 0, .null) := by decide +kernel
theorem fe_X1_put_23 : mj_f mi_X1_put 23 = some (.aload_n 0, 1, 0, 0, .null) := by decide +kernel
theorem fe_X1_put_24 : mj_f mi_X1_put 24 = some (.getfield 15, 3, 1, 1, .int 0) := by decide +kernel
theorem fe_X1_put_27 : mj_f mi_X1_put 27 = some (.iload_n 1, 1, 1, 0, .null) := by decide +kernel
theorem fe_X1_put_28 : mj_f mi_X1_put 28 = some (.i2b, 1, 0, 0, .null) := by decide +kernel
theorem fe_X1_put_29 : mj_f mi_X1_put 29 = some (.bastore, 1, 0, 0, .null) := by decide +kernel
theorem fe_X1_put_30 : mj_f mi_X1_put 30 = some (.aload_n 0, 1, 0, 0, .null) := by decide +kernel
theorem fe_X1_put_31 : mj_f mi_X1_put 31 = some (.dup, 1, 0, 0, .null) := by decide +kernel
theorem fe_X1_put_32 : mj_f mi_X1_put 32 = some (.getfield 15, 3, 1, 1, .int 0) := by decide +kernel
theorem fe_X1_put_35 : mj_f mi_X1_put 35 = some (.iconst 1, 1, 0, 0, .int (1)) := by decide +kernel
theorem fe_X1_put_36 : mj_f mi_X1_put 36 = some (.iadd, 1, 0, 0, .null) := by decide +kernel
theorem fe_X1_put_37 : mj_f mi_X1_put 37 = some (.putfield 15, 3, 1, 1, .int 0) := by decide +kernel
theorem fe_X1_put_40 : mj_f mi_X1_put 40 = some (.return_, 1, 0, 0, .null) := by decide +kernel
def ct_X1_putInt : MJT := [
  (0, 0, .bipush 24, 2, 0, 0, .int (24)),
  (2, 0, .istore_n 2, 1, 2, 0, .null),
  (3, 0, .iload_n 2, 1, 2, 0, .null),
  (4, 0, .ifCond .lt 16, 3, 20, 0, .null),
  (7, 0, .aload_n 0, 1, 0, 0, .null),
  (8, 0, .iload_n 1, 1, 1, 0, .null),
  (9, 0, .iload_n 2, 1, 2, 0, .null),
  (10, 0, .iushr, 1, 0, 0, .null),
  (11, 435, .invokevirtual 19, 3, 14, 1, .null),
  (14, 0, .iinc 2 (-8), 3, 2, 0, .int (-8)),
  (17, 0, .goto (-14), 3, 3, 0, .null),
  (20, 0, .return_, 1, 0, 0, .null)]
abbrev id_X1_putInt : Nat := 15
def mi_X1_putInt : MI := (yX1_putInt, cX1_putInt, 3, none, 1, ct_X1_putInt)
theorem fe_X1_putInt_0 : mj_f mi_X1_putInt 0 = some (.bipush 24, 2, 0, 0, .int (24)) := by decide +kernel
theorem fe_X1_putInt_2 : mj_f mi_X1_putInt 2 = some (.istore_n 2, 1, 2, 0, .null) := by decide +kernel
theorem fe_X1_putInt_3 : mj_f mi_X1_putInt 3 = some (.iload_n 2, 1, 2, 0, .null) := by decide +kernel
theorem fe_X1_putInt_4 : mj_f mi_X1_putInt 4 = some (.ifCond .lt 16, 3, 20, 0, .null) := by decide +kernel
theorem fe_X1_putInt_7 : mj_f mi_X1_putInt 7 = some (.aload_n 0, 1, 0, 0, .null) := by decide +kernel
theorem fe_X1_putInt_8 : mj_f mi_X1_putInt 8 = some (.iload_n 1, 1, 1, 0, .null) := by decide +kernel
theorem fe_X1_putInt_9 : mj_f mi_X1_putInt 9 = some (.iload_n 2, 1, 2, 0, .null) := by decide +kernel
theorem fe_X1_putInt_10 : mj_f mi_X1_putInt 10 = some (.iushr, 1, 0, 0, .null) := by decide +kernel
theorem fe_X1_putInt_11 : mj_f mi_X1_putInt 11 = some (.invokevirtual 19, 3, 14, 1, .null) := by decide +kernel
theorem fe_X1_putInt_14 : mj_f mi_X1_putInt 14 = some (.iinc 2 (-8), 3, 2, 0, .int (-8)) := by decide +kernel
theorem fe_X1_putInt_17 : mj_f mi_X1_putInt 17 = some (.goto (-14), 3, 3, 0, .null) := by decide +kernel
theorem fe_X1_putInt_20 : mj_f mi_X1_putInt 20 = some (.return_, 1, 0, 0, .null) := by decide +kernel
def ct_X1_putLong : MJT := [
  (0, 0, .bipush 56, 2, 0, 0, .int (56)),
  (2, 0, .istore_n 3, 1, 3, 0, .null),
  (3, 0, .iload_n 3, 1, 3, 0, .null),
  (4, 0, .ifCond .lt 17, 3, 21, 0, .null),
  (7, 0, .aload_n 0, 1, 0, 0, .null),
  (8, 0, .lload_n 1, 1, 1, 0, .null),
  (9, 0, .iload_n 3, 1, 3, 0, .null),
  (10, 0, .lushr, 1, 0, 0, .null),
  (11, 0, .l2i, 1, 0, 0, .null),
  (12, 435, .invokevirtual 19, 3, 14, 1, .null),
  (15, 0, .iinc 3 (-8), 3, 3, 0, .int (-8)),
  (18, 0, .goto (-15), 3, 3, 0, .null),
  (21, 0, .return_, 1, 0, 0, .null)]
abbrev id_X1_putLong : Nat := 16
def mi_X1_putLong : MI := (yX1_putLong, cX1_putLong, 4, none, 1, ct_X1_putLong)
theorem fe_X1_putLong_0 : mj_f mi_X1_putLong 0 = some (.bipush 56, 2, 0, 0, .int (56)) := by decide +kernel
theorem fe_X1_putLong_2 : mj_f mi_X1_putLong 2 = some (.istore_n 3, 1, 3, 0, .null) := by decide +kernel
theorem fe_X1_putLong_3 : mj_f mi_X1_putLong 3 = some (.iload_n 3, 1, 3, 0, .null) := by decide +kernel
theorem fe_X1_putLong_4 : mj_f mi_X1_putLong 4 = some (.ifCond .lt 17, 3, 21, 0, .null) := by decide +kernel
theorem fe_X1_putLong_7 : mj_f mi_X1_putLong 7 = some (.aload_n 0, 1, 0, 0, .null) := by decide +kernel
theorem fe_X1_putLong_8 : mj_f mi_X1_putLong 8 = some (.lload_n 1, 1, 1, 0, .null) := by decide +kernel
theorem fe_X1_putLong_9 : mj_f mi_X1_putLong 9 = some (.iload_n 3, 1, 3, 0, .null) := by decide +kernel
theorem fe_X1_putLong_10 : mj_f mi_X1_putLong 10 = some (.lushr, 1, 0, 0, .null) := by decide +kernel
theorem fe_X1_putLong_11 : mj_f mi_X1_putLong 11 = some (.l2i, 1, 0, 0, .null) := by decide +kernel
theorem fe_X1_putLong_12 : mj_f mi_X1_putLong 12 = some (.invokevirtual 19, 3, 14, 1, .null) := by decide +kernel
theorem fe_X1_putLong_15 : mj_f mi_X1_putLong 15 = some (.iinc 3 (-8), 3, 3, 0, .int (-8)) := by decide +kernel
theorem fe_X1_putLong_18 : mj_f mi_X1_putLong 18 = some (.goto (-15), 3, 3, 0, .null) := by decide +kernel
theorem fe_X1_putLong_21 : mj_f mi_X1_putLong 21 = some (.return_, 1, 0, 0, .null) := by decide +kernel
def ct_X1_putVarint : MJT := [
  (0, 0, .lload_n 1, 1, 1, 0, .null),
  (1, 887, .invokestatic 23, 3, 176, 1, .int 1),
  (4, 0, .iconst 1, 1, 0, 0, .int (1)),
  (5, 0, .isub, 1, 0, 0, .null),
  (6, 0, .istore_n 3, 1, 3, 0, .null),
  (7, 0, .iconst 0, 1, 0, 0, .int (0)),
  (8, 0, .istore 4, 2, 4, 0, .null),
  (10, 0, .iload 4, 2, 4, 0, .null),
  (12, 0, .iload_n 3, 1, 3, 0, .null),
  (13, 0, .if_icmp .ge 28, 3, 41, 0, .null),
  (16, 0, .aload_n 0, 1, 0, 0, .null),
  (17, 0, .lload_n 1, 1, 1, 0, .null),
  (18, 0, .bipush 7, 2, 0, 0, .int (7)),
  (20, 0, .iload 4, 2, 4, 0, .null),
  (22, 0, .imul, 1, 0, 0, .null),
  (23, 0, .lushr, 1, 0, 0, .null),
  (24, 0, .l2i, 1, 0, 0, .null),
  (25, 0, .bipush 127, 2, 0, 0, .int (127)),
  (27, 0, .iand, 1, 0, 0, .null),
  (28, 0, .sipush 128, 3, 0, 0, .int (128)),
  (31, 0, .ior, 1, 0, 0, .null),
  (32, 435, .invokevirtual 19, 3, 14, 1, .null),
  (35, 0, .iinc 4 1, 3, 4, 0, .int (1)),
  (38, 0, .goto (-28), 3, 10, 0, .null),
  (41, 0, .aload_n 0, 1, 0, 0, .null),
  (42, 0, .lload_n 1, 1, 1, 0, .null),
  (43, 0, .bipush 7, 2, 0, 0, .int (7)),
  (45, 0, .iload_n 3, 1, 3, 0, .null),
  (46, 0, .imul, 1, 0, 0, .null),
  (47, 0, .lushr, 1, 0, 0, .null),
  (48, 0, .l2i, 1, 0, 0, .null),
  (49, 0, .bipush 127, 2, 0, 0, .int (127)),
  (51, 0, .iand, 1, 0, 0, .null),
  (52, 435, .invokevirtual 19, 3, 14, 1, .null),
  (55, 0, .return_, 1, 0, 0, .null)]
abbrev id_X1_putVarint : Nat := 17
def mi_X1_putVarint : MI := (yX1_putVarint, cX1_putVarint, 5, none, 1, ct_X1_putVarint)
theorem fe_X1_putVarint_0 : mj_f mi_X1_putVarint 0 = some (.lload_n 1, 1, 1, 0, .null) := by decide +kernel
theorem fe_X1_putVarint_1 : mj_f mi_X1_putVarint 1 = some (.invokestatic 23, 3, 176, 1, .int 1) := by decide +kernel
theorem fe_X1_putVarint_4 : mj_f mi_X1_putVarint 4 = some (.iconst 1, 1, 0, 0, .int (1)) := by decide +kernel
theorem fe_X1_putVarint_5 : mj_f mi_X1_putVarint 5 = some (.isub, 1, 0, 0, .null) := by decide +kernel
theorem fe_X1_putVarint_6 : mj_f mi_X1_putVarint 6 = some (.istore_n 3, 1, 3, 0, .null) := by decide +kernel
theorem fe_X1_putVarint_7 : mj_f mi_X1_putVarint 7 = some (.iconst 0, 1, 0, 0, .int (0)) := by decide +kernel
theorem fe_X1_putVarint_8 : mj_f mi_X1_putVarint 8 = some (.istore 4, 2, 4, 0, .null) := by decide +kernel
theorem fe_X1_putVarint_10 : mj_f mi_X1_putVarint 10 = some (.iload 4, 2, 4, 0, .null) := by decide +kernel
theorem fe_X1_putVarint_12 : mj_f mi_X1_putVarint 12 = some (.iload_n 3, 1, 3, 0, .null) := by decide +kernel
theorem fe_X1_putVarint_13 : mj_f mi_X1_putVarint 13 = some (.if_icmp .ge 28, 3, 41, 0, .null) := by decide +kernel
theorem fe_X1_putVarint_16 : mj_f mi_X1_putVarint 16 = some (.aload_n 0, 1, 0, 0, .null) := by decide +kernel
theorem fe_X1_putVarint_17 : mj_f mi_X1_putVarint 17 = some (.lload_n 1, 1, 1, 0, .null) := by decide +kernel
theorem fe_X1_putVarint_18 : mj_f mi_X1_putVarint 18 = some (.bipush 7, 2, 0, 0, .int (7)) := by decide +kernel
theorem fe_X1_putVarint_20 : mj_f mi_X1_putVarint 20 = some (.iload 4, 2, 4, 0, .null) := by decide +kernel
theorem fe_X1_putVarint_22 : mj_f mi_X1_putVarint 22 = some (.imul, 1, 0, 0, .null) := by decide +kernel
theorem fe_X1_putVarint_23 : mj_f mi_X1_putVarint 23 = some (.lushr, 1, 0, 0, .null) := by decide +kernel
theorem fe_X1_putVarint_24 : mj_f mi_X1_putVarint 24 = some (.l2i, 1, 0, 0, .null) := by decide +kernel
theorem fe_X1_putVarint_25 : mj_f mi_X1_putVarint 25 = some (.bipush 127, 2, 0, 0, .int (127)) := by decide +kernel
theorem fe_X1_putVarint_27 : mj_f mi_X1_putVarint 27 = some (.iand, 1, 0, 0, .null) := by decide +kernel
theorem fe_X1_putVarint_28 : mj_f mi_X1_putVarint 28 = some (.sipush 128, 3, 0, 0, .int (128)) := by decide +kernel
theorem fe_X1_putVarint_31 : mj_f mi_X1_putVarint 31 = some (.ior, 1, 0, 0, .null) := by decide +kernel
theorem fe_X1_putVarint_32 : mj_f mi_X1_putVarint 32 = some (.invokevirtual 19, 3, 14, 1, .null) := by decide +kernel
theorem fe_X1_putVarint_35 : mj_f mi_X1_putVarint 35 = some (.iinc 4 1, 3, 4, 0, .int (1)) := by decide +kernel
theorem fe_X1_putVarint_38 : mj_f mi_X1_putVarint 38 = some (.goto (-28), 3, 10, 0, .null) := by decide +kernel
theorem fe_X1_putVarint_41 : mj_f mi_X1_putVarint 41 = some (.aload_n 0, 1, 0, 0, .null) := by decide +kernel
theorem fe_X1_putVarint_42 : mj_f mi_X1_putVarint 42 = some (.lload_n 1, 1, 1, 0, .null) := by decide +kernel
theorem fe_X1_putVarint_43 : mj_f mi_X1_putVarint 43 = some (.bipush 7, 2, 0, 0, .int (7)) := by decide +kernel
theorem fe_X1_putVarint_45 : mj_f mi_X1_putVarint 45 = some (.iload_n 3, 1, 3, 0, .null) := by decide +kernel
theorem fe_X1_putVarint_46 : mj_f mi_X1_putVarint 46 = some (.imul, 1, 0, 0, .null) := by decide +kernel
theorem fe_X1_putVarint_47 : mj_f mi_X1_putVarint 47 = some (.lushr, 1, 0, 0, .null) := by decide +kernel
theorem fe_X1_putVarint_48 : mj_f mi_X1_putVarint 48 = some (.l2i, 1, 0, 0, .null) := by decide +kernel
theorem fe_X1_putVarint_49 : mj_f mi_X1_putVarint 49 = some (.bipush 127, 2, 0, 0, .int (127)) := by decide +kernel
theorem fe_X1_putVarint_51 : mj_f mi_X1_putVarint 51 = some (.iand, 1, 0, 0, .null) := by decide +kernel
theorem fe_X1_putVarint_52 : mj_f mi_X1_putVarint 52 = some (.invokevirtual 19, 3, 14, 1, .null) := by decide +kernel
theorem fe_X1_putVarint_55 : mj_f mi_X1_putVarint 55 = some (.return_, 1, 0, 0, .null) := by decide +kernel
def ct_X1_reserve : MJT := [
  (0, 0, .aload_n 0, 1, 0, 0, .null),
  (1, 119, .getfield 15, 3, 1, 1, .int 0),
  (4, 0, .bipush 8, 2, 0, 0, .int (8)),
  (6, 0, .imul, 1, 0, 0, .null),
  (7, 0, .istore_n 2, 1, 2, 0, .null),
  (8, 0, .iconst 0, 1, 0, 0, .int (0)),
  (9, 0, .istore_n 3, 1, 3, 0, .null),
  (10, 0, .iload_n 3, 1, 3, 0, .null),
  (11, 0, .iload_n 1, 1, 1, 0, .null),
  (12, 0, .if_icmp .ge 14, 3, 26, 0, .null),
  (15, 0, .aload_n 0, 1, 0, 0, .null),
  (16, 0, .iconst 0, 1, 0, 0, .int (0)),
  (17, 435, .invokevirtual 19, 3, 14, 1, .null),
  (20, 0, .iinc 3 1, 3, 3, 0, .int (1)),
  (23, 0, .goto (-13), 3, 10, 0, .null),
  (26, 0, .iload_n 2, 1, 2, 0, .null),
  (27, 0, .ireturn, 1, 0, 0, .null)]
abbrev id_X1_reserve : Nat := 18
def mi_X1_reserve : MI := (yX1_reserve, cX1_reserve, 4, (some .int), 1, ct_X1_reserve)
theorem fe_X1_reserve_0 : mj_f mi_X1_reserve 0 = some (.aload_n 0, 1, 0, 0, .null) := by decide +kernel
theorem fe_X1_reserve_1 : mj_f mi_X1_reserve 1 = some (.getfield 15, 3, 1, 1, .int 0) := by decide +kernel
theorem fe_X1_reserve_4 : mj_f mi_X1_reserve 4 = some (.bipush 8, 2, 0, 0, .int (8)) := by decide +kernel
theorem fe_X1_reserve_6 : mj_f mi_X1_reserve 6 = some (.imul, 1, 0, 0, .null) := by decide +kernel
theorem fe_X1_reserve_7 : mj_f mi_X1_reserve 7 = some (.istore_n 2, 1, 2, 0, .null) := by decide +kernel
theorem fe_X1_reserve_8 : mj_f mi_X1_reserve 8 = some (.iconst 0, 1, 0, 0, .int (0)) := by decide +kernel
theorem fe_X1_reserve_9 : mj_f mi_X1_reserve 9 = some (.istore_n 3, 1, 3, 0, .null) := by decide +kernel
theorem fe_X1_reserve_10 : mj_f mi_X1_reserve 10 = some (.iload_n 3, 1, 3, 0, .null) := by decide +kernel
theorem fe_X1_reserve_11 : mj_f mi_X1_reserve 11 = some (.iload_n 1, 1, 1, 0, .null) := by decide +kernel
theorem fe_X1_reserve_12 : mj_f mi_X1_reserve 12 = some (.if_icmp .ge 14, 3, 26, 0, .null) := by decide +kernel
theorem fe_X1_reserve_15 : mj_f mi_X1_reserve 15 = some (.aload_n 0, 1, 0, 0, .null) := by decide +kernel
theorem fe_X1_reserve_16 : mj_f mi_X1_reserve 16 = some (.iconst 0, 1, 0, 0, .int (0)) := by decide +kernel
theorem fe_X1_reserve_17 : mj_f mi_X1_reserve 17 = some (.invokevirtual 19, 3, 14, 1, .null) := by decide +kernel
theorem fe_X1_reserve_20 : mj_f mi_X1_reserve 20 = some (.iinc 3 1, 3, 3, 0, .int (1)) := by decide +kernel
theorem fe_X1_reserve_23 : mj_f mi_X1_reserve 23 = some (.goto (-13), 3, 10, 0, .null) := by decide +kernel
theorem fe_X1_reserve_26 : mj_f mi_X1_reserve 26 = some (.iload_n 2, 1, 2, 0, .null) := by decide +kernel
theorem fe_X1_reserve_27 : mj_f mi_X1_reserve 27 = some (.ireturn, 1, 0, 0, .null) := by decide +kernel
def ct_X1_putBits : MJT := [
  (0, 0, .iconst 0, 1, 0, 0, .int (0)),
  (1, 0, .istore 5, 2, 5, 0, .null),
  (3, 0, .iconst 0, 1, 0, 0, .int (0)),
  (4, 0, .istore 6, 2, 6, 0, .null),
  (6, 0, .iload 6, 2, 6, 0, .null),
  (8, 0, .bipush 9, 2, 0, 0, .int (9)),
  (10, 0, .if_icmp .ge 113, 3, 123, 0, .null),
  (13, 0, .iload 5, 2, 5, 0, .null),
  (15, 0, .iload_n 2, 1, 2, 0, .null),
  (16, 0, .if_icmp .ge 107, 3, 123, 0, .null),
  (19, 0, .iload_n 1, 1, 1, 0, .null),
  (20, 0, .iload 5, 2, 5, 0, .null),
  (22, 0, .iadd, 1, 0, 0, .null),
  (23, 0, .bipush 8, 2, 0, 0, .int (8)),
  (25, 0, .idiv, 1, 0, 0, .null),
  (26, 0, .istore 7, 2, 7, 0, .null),
  (28, 0, .iload_n 1, 1, 1, 0, .null),
  (29, 0, .iload 5, 2, 5, 0, .null),
  (31, 0, .iadd, 1, 0, 0, .null),
  (32, 0, .bipush 8, 2, 0, 0, .int (8)),
  (34, 0, .irem, 1, 0, 0, .null),
  (35, 0, .istore 8, 2, 8, 0, .null),
  (37, 0, .bipush 8, 2, 0, 0, .int (8)),
  (39, 0, .iload 8, 2, 8, 0, .null),
  (41, 0, .isub, 1, 0, 0, .null),
  (42, 0, .iload_n 2, 1, 2, 0, .null),
  (43, 0, .iload 5, 2, 5, 0, .null),
  (45, 0, .isub, 1, 0, 0, .null),
  (46, 530, .invokestatic 27, 3, 262, 2, .null),
  (49, 0, .istore 9, 2, 9, 0, .null),
  (51, 0, .iload 7, 2, 7, 0, .null),
  (53, 0, .ifCond .lt 57, 3, 110, 0, .null),
  (56, 0, .iload 7, 2, 7, 0, .null),
  (58, 0, .aload_n 0, 1, 0, 0, .null),
  (59, 119, .getfield 15, 3, 1, 1, .int 0),
  (62, 0, .if_icmp .ge 48, 3, 110, 0, .null),
  (65, 0, .iload 7, 2, 7, 0, .null),
  (67, 0, .aload_n 0, 1, 0, 0, .null),
  (68, 118, .getfield 9, 3, 1, 0, .null),
  (71, 0, .arraylength, 1, 0, 0, .null),
  (72, 0, .if_icmp .ge 38, 3, 110, 0, .null),
  (75, 0, .lload_n 3, 1, 3, 0, .null),
  (76, 0, .iload 5, 2, 5, 0, .null),
  (78, 0, .lushr, 1, 0, 0, .null),
  (79, 0, .l2i, 1, 0, 0, .null),
  (80, 0, .iconst 1, 1, 0, 0, .int (1)),
  (81, 0, .iload 9, 2, 9, 0, .null),
  (83, 0, .ishl, 1, 0, 0, .null),
  (84, 0, .iconst 1, 1, 0, 0, .int (1)),
  (85, 0, .isub, 1, 0, 0, .null),
  (86, 0, .iand, 1, 0, 0, .null),
  (87, 0, .istore 10, 2, 10, 0, .null),
  (89, 0, .aload_n 0, 1, 0, 0, .null),
  (90, 118, .getfield 9, 3, 1, 0, .null),
  (93, 0, .iload 7, 2, 7, 0, .null),
  (95, 0, .aload_n 0, 1, 0, 0, .null),
  (96, 118, .getfield 9, 3, 1, 0, .null),
  (99, 0, .iload 7, 2, 7, 0, .null),
  (101, 0, .baload, 1, 0, 0, .null),
  (102, 0, .iload 10, 2, 10, 0, .null),
  (104, 0, .iload 8, 2, 8, 0, .null),
  (106, 0, .ishl, 1, 0, 0, .null),
  (107, 0, .ior, 1, 0, 0, .null),
  (108, 0, .i2b, 1, 0, 0, .null),
  (109, 0, .bastore, 1, 0, 0, .null),
  (110, 0, .iload 5, 2, 5, 0, .null),
  (112, 0, .iload 9, 2, 9, 0, .null),
  (114, 0, .iadd, 1, 0, 0, .null),
  (115, 0, .istore 5, 2, 5, 0, .null),
  (117, 0, .iinc 6 1, 3, 6, 0, .int (1)),
  (120, 0, .goto (-114), 3, 6, 0, .null),
  (123, 0, .return_, 1, 0, 0, .null)]
abbrev id_X1_putBits : Nat := 19
def mi_X1_putBits : MI := (yX1_putBits, cX1_putBits, 11, none, 1, ct_X1_putBits)
theorem fe_X1_putBits_0 : mj_f mi_X1_putBits 0 = some (.iconst 0, 1, 0, 0, .int (0)) := by decide +kernel
theorem fe_X1_putBits_1 : mj_f mi_X1_putBits 1 = some (.istore 5, 2, 5, 0, .null) := by decide +kernel
theorem fe_X1_putBits_3 : mj_f mi_X1_putBits 3 = some (.iconst 0, 1, 0, 0, .int (0)) := by decide +kernel
theorem fe_X1_putBits_4 : mj_f mi_X1_putBits 4 = some (.istore 6, 2, 6, 0, .null) := by decide +kernel
theorem fe_X1_putBits_6 : mj_f mi_X1_putBits 6 = some (.iload 6, 2, 6, 0, .null) := by decide +kernel
theorem fe_X1_putBits_8 : mj_f mi_X1_putBits 8 = some (.bipush 9, 2, 0, 0, .int (9)) := by decide +kernel
theorem fe_X1_putBits_10 : mj_f mi_X1_putBits 10 = some (.if_icmp .ge 113, 3, 123, 0, .null) := by decide +kernel
theorem fe_X1_putBits_13 : mj_f mi_X1_putBits 13 = some (.iload 5, 2, 5, 0, .null) := by decide +kernel
theorem fe_X1_putBits_15 : mj_f mi_X1_putBits 15 = some (.iload_n 2, 1, 2, 0, .null) := by decide +kernel
theorem fe_X1_putBits_16 : mj_f mi_X1_putBits 16 = some (.if_icmp .ge 107, 3, 123, 0, .null) := by decide +kernel
theorem fe_X1_putBits_19 : mj_f mi_X1_putBits 19 = some (.iload_n 1, 1, 1, 0, .null) := by decide +kernel
theorem fe_X1_putBits_20 : mj_f mi_X1_putBits 20 = some (.iload 5, 2, 5, 0, .null) := by decide +kernel
theorem fe_X1_putBits_22 : mj_f mi_X1_putBits 22 = some (.iadd, 1, 0, 0, .null) := by decide +kernel
theorem fe_X1_putBits_23 : mj_f mi_X1_putBits 23 = some (.bipush 8, 2, 0, 0, .int (8)) := by decide +kernel
theorem fe_X1_putBits_25 : mj_f mi_X1_putBits 25 = some (.idiv, 1, 0, 0, .null) := by decide +kernel
theorem fe_X1_putBits_26 : mj_f mi_X1_putBits 26 = some (.istore 7, 2, 7, 0, .null) := by decide +kernel
theorem fe_X1_putBits_28 : mj_f mi_X1_putBits 28 = some (.iload_n 1, 1, 1, 0, .null) := by decide +kernel
theorem fe_X1_putBits_29 : mj_f mi_X1_putBits 29 = some (.iload 5, 2, 5, 0, .null) := by decide +kernel
theorem fe_X1_putBits_31 : mj_f mi_X1_putBits 31 = some (.iadd, 1, 0, 0, .null) := by decide +kernel
theorem fe_X1_putBits_32 : mj_f mi_X1_putBits 32 = some (.bipush 8, 2, 0, 0, .int (8)) := by decide +kernel
theorem fe_X1_putBits_34 : mj_f mi_X1_putBits 34 = some (.irem, 1, 0, 0, .null) := by decide +kernel
theorem fe_X1_putBits_35 : mj_f mi_X1_putBits 35 = some (.istore 8, 2, 8, 0, .null) := by decide +kernel
theorem fe_X1_putBits_37 : mj_f mi_X1_putBits 37 = some (.bipush 8, 2, 0, 0, .int (8)) := by decide +kernel
theorem fe_X1_putBits_39 : mj_f mi_X1_putBits 39 = some (.iload 8, 2, 8, 0, .null) := by decide +kernel
theorem fe_X1_putBits_41 : mj_f mi_X1_putBits 41 = some (.isub, 1, 0, 0, .null) := by decide +kernel
theorem fe_X1_putBits_42 : mj_f mi_X1_putBits 42 = some (.iload_n 2, 1, 2, 0, .null) := by decide +kernel
theorem fe_X1_putBits_43 : mj_f mi_X1_putBits 43 = some (.iload 5, 2, 5, 0, .null) := by decide +kernel
theorem fe_X1_putBits_45 : mj_f mi_X1_putBits 45 = some (.isub, 1, 0, 0, .null) := by decide +kernel
theorem fe_X1_putBits_46 : mj_f mi_X1_putBits 46 = some (.invokestatic 27, 3, 262, 2, .null) := by decide +kernel
theorem fe_X1_putBits_49 : mj_f mi_X1_putBits 49 = some (.istore 9, 2, 9, 0, .null) := by decide +kernel
theorem fe_X1_putBits_51 : mj_f mi_X1_putBits 51 = some (.iload 7, 2, 7, 0, .null) := by decide +kernel
theorem fe_X1_putBits_53 : mj_f mi_X1_putBits 53 = some (.ifCond .lt 57, 3, 110, 0, .null) := by decide +kernel
theorem fe_X1_putBits_56 : mj_f mi_X1_putBits 56 = some (.iload 7, 2, 7, 0, .null) := by decide +kernel
theorem fe_X1_putBits_58 : mj_f mi_X1_putBits 58 = some (.aload_n 0, 1, 0, 0, .null) := by decide +kernel
theorem fe_X1_putBits_59 : mj_f mi_X1_putBits 59 = some (.getfield 15, 3, 1, 1, .int 0) := by decide +kernel
theorem fe_X1_putBits_62 : mj_f mi_X1_putBits 62 = some (.if_icmp .ge 48, 3, 110, 0, .null) := by decide +kernel
theorem fe_X1_putBits_65 : mj_f mi_X1_putBits 65 = some (.iload 7, 2, 7, 0, .null) := by decide +kernel
theorem fe_X1_putBits_67 : mj_f mi_X1_putBits 67 = some (.aload_n 0, 1, 0, 0, .null) := by decide +kernel
theorem fe_X1_putBits_68 : mj_f mi_X1_putBits 68 = some (.getfield 9, 3, 1, 0, .null) := by decide +kernel
theorem fe_X1_putBits_71 : mj_f mi_X1_putBits 71 = some (.arraylength, 1, 0, 0, .null) := by decide +kernel
theorem fe_X1_putBits_72 : mj_f mi_X1_putBits 72 = some (.if_icmp .ge 38, 3, 110, 0, .null) := by decide +kernel
theorem fe_X1_putBits_75 : mj_f mi_X1_putBits 75 = some (.lload_n 3, 1, 3, 0, .null) := by decide +kernel
theorem fe_X1_putBits_76 : mj_f mi_X1_putBits 76 = some (.iload 5, 2, 5, 0, .null) := by decide +kernel
theorem fe_X1_putBits_78 : mj_f mi_X1_putBits 78 = some (.lushr, 1, 0, 0, .null) := by decide +kernel
theorem fe_X1_putBits_79 : mj_f mi_X1_putBits 79 = some (.l2i, 1, 0, 0, .null) := by decide +kernel
theorem fe_X1_putBits_80 : mj_f mi_X1_putBits 80 = some (.iconst 1, 1, 0, 0, .int (1)) := by decide +kernel
theorem fe_X1_putBits_81 : mj_f mi_X1_putBits 81 = some (.iload 9, 2, 9, 0, .null) := by decide +kernel
theorem fe_X1_putBits_83 : mj_f mi_X1_putBits 83 = some (.ishl, 1, 0, 0, .null) := by decide +kernel
theorem fe_X1_putBits_84 : mj_f mi_X1_putBits 84 = some (.iconst 1, 1, 0, 0, .int (1)) := by decide +kernel
theorem fe_X1_putBits_85 : mj_f mi_X1_putBits 85 = some (.isub, 1, 0, 0, .null) := by decide +kernel
theorem fe_X1_putBits_86 : mj_f mi_X1_putBits 86 = some (.iand, 1, 0, 0, .null) := by decide +kernel
theorem fe_X1_putBits_87 : mj_f mi_X1_putBits 87 = some (.istore 10, 2, 10, 0, .null) := by decide +kernel
theorem fe_X1_putBits_89 : mj_f mi_X1_putBits 89 = some (.aload_n 0, 1, 0, 0, .null) := by decide +kernel
theorem fe_X1_putBits_90 : mj_f mi_X1_putBits 90 = some (.getfield 9, 3, 1, 0, .null) := by decide +kernel
theorem fe_X1_putBits_93 : mj_f mi_X1_putBits 93 = some (.iload 7, 2, 7, 0, .null) := by decide +kernel
theorem fe_X1_putBits_95 : mj_f mi_X1_putBits 95 = some (.aload_n 0, 1, 0, 0, .null) := by decide +kernel
theorem fe_X1_putBits_96 : mj_f mi_X1_putBits 96 = some (.getfield 9, 3, 1, 0, .null) := by decide +kernel
theorem fe_X1_putBits_99 : mj_f mi_X1_putBits 99 = some (.iload 7, 2, 7, 0, .null) := by decide +kernel
theorem fe_X1_putBits_101 : mj_f mi_X1_putBits 101 = some (.baload, 1, 0, 0, .null) := by decide +kernel
theorem fe_X1_putBits_102 : mj_f mi_X1_putBits 102 = some (.iload 10, 2, 10, 0, .null) := by decide +kernel
theorem fe_X1_putBits_104 : mj_f mi_X1_putBits 104 = some (.iload 8, 2, 8, 0, .null) := by decide +kernel
theorem fe_X1_putBits_106 : mj_f mi_X1_putBits 106 = some (.ishl, 1, 0, 0, .null) := by decide +kernel
theorem fe_X1_putBits_107 : mj_f mi_X1_putBits 107 = some (.ior, 1, 0, 0, .null) := by decide +kernel
theorem fe_X1_putBits_108 : mj_f mi_X1_putBits 108 = some (.i2b, 1, 0, 0, .null) := by decide +kernel
theorem fe_X1_putBits_109 : mj_f mi_X1_putBits 109 = some (.bastore, 1, 0, 0, .null) := by decide +kernel
theorem fe_X1_putBits_110 : mj_f mi_X1_putBits 110 = some (.iload 5, 2, 5, 0, .null) := by decide +kernel
theorem fe_X1_putBits_112 : mj_f mi_X1_putBits 112 = some (.iload 9, 2, 9, 0, .null) := by decide +kernel
theorem fe_X1_putBits_114 : mj_f mi_X1_putBits 114 = some (.iadd, 1, 0, 0, .null) := by decide +kernel
theorem fe_X1_putBits_115 : mj_f mi_X1_putBits 115 = some (.istore 5, 2, 5, 0, .null) := by decide +kernel
theorem fe_X1_putBits_117 : mj_f mi_X1_putBits 117 = some (.iinc 6 1, 3, 6, 0, .int (1)) := by decide +kernel
theorem fe_X1_putBits_120 : mj_f mi_X1_putBits 120 = some (.goto (-114), 3, 6, 0, .null) := by decide +kernel
theorem fe_X1_putBits_123 : mj_f mi_X1_putBits 123 = some (.return_, 1, 0, 0, .null) := by decide +kernel
def ct_X1_bitsAt : MJT := [
  (0, 0, .lconst 0, 1, 0, 0, .long 0),
  (1, 0, .lstore_n 3, 1, 3, 0, .null),
  (2, 0, .iconst 0, 1, 0, 0, .int (0)),
  (3, 0, .istore 5, 2, 5, 0, .null),
  (5, 0, .iconst 0, 1, 0, 0, .int (0)),
  (6, 0, .istore 6, 2, 6, 0, .null),
  (8, 0, .iload 6, 2, 6, 0, .null),
  (10, 0, .bipush 9, 2, 0, 0, .int (9)),
  (12, 0, .if_icmp .ge 110, 3, 122, 0, .null),
  (15, 0, .iload 5, 2, 5, 0, .null),
  (17, 0, .iload_n 2, 1, 2, 0, .null),
  (18, 0, .if_icmp .ge 104, 3, 122, 0, .null),
  (21, 0, .iload_n 1, 1, 1, 0, .null),
  (22, 0, .iload 5, 2, 5, 0, .null),
  (24, 0, .iadd, 1, 0, 0, .null),
  (25, 0, .bipush 8, 2, 0, 0, .int (8)),
  (27, 0, .idiv, 1, 0, 0, .null),
  (28, 0, .istore 7, 2, 7, 0, .null),
  (30, 0, .iload_n 1, 1, 1, 0, .null),
  (31, 0, .iload 5, 2, 5, 0, .null),
  (33, 0, .iadd, 1, 0, 0, .null),
  (34, 0, .bipush 8, 2, 0, 0, .int (8)),
  (36, 0, .irem, 1, 0, 0, .null),
  (37, 0, .istore 8, 2, 8, 0, .null),
  (39, 0, .bipush 8, 2, 0, 0, .int (8)),
  (41, 0, .iload 8, 2, 8, 0, .null),
  (43, 0, .isub, 1, 0, 0, .null),
  (44, 0, .iload_n 2, 1, 2, 0, .null),
  (45, 0, .iload 5, 2, 5, 0, .null),
  (47, 0, .isub, 1, 0, 0, .null),
  (48, 530, .invokestatic 27, 3, 262, 2, .null),
  (51, 0, .istore 9, 2, 9, 0, .null),
  (53, 0, .iload 7, 2, 7, 0, .null),
  (55, 0, .ifCond .lt 54, 3, 109, 0, .null),
  (58, 0, .iload 7, 2, 7, 0, .null),
  (60, 0, .aload_n 0, 1, 0, 0, .null),
  (61, 119, .getfield 15, 3, 1, 1, .int 0),
  (64, 0, .if_icmp .ge 45, 3, 109, 0, .null),
  (67, 0, .iload 7, 2, 7, 0, .null),
  (69, 0, .aload_n 0, 1, 0, 0, .null),
  (70, 118, .getfield 9, 3, 1, 0, .null),
  (73, 0, .arraylength, 1, 0, 0, .null),
  (74, 0, .if_icmp .ge 35, 3, 109, 0, .null),
  (77, 0, .aload_n 0, 1, 0, 0, .null),
  (78, 118, .getfield 9, 3, 1, 0, .null),
  (81, 0, .iload 7, 2, 7, 0, .null),
  (83, 0, .baload, 1, 0, 0, .null),
  (84, 0, .sipush 255, 3, 0, 0, .int (255)),
  (87, 0, .iand, 1, 0, 0, .null),
  (88, 0, .iload 8, 2, 8, 0, .null),
  (90, 0, .iushr, 1, 0, 0, .null),
  (91, 0, .iconst 1, 1, 0, 0, .int (1)),
  (92, 0, .iload 9, 2, 9, 0, .null),
  (94, 0, .ishl, 1, 0, 0, .null),
  (95, 0, .iconst 1, 1, 0, 0, .int (1)),
  (96, 0, .isub, 1, 0, 0, .null),
  (97, 0, .iand, 1, 0, 0, .null),
  (98, 0, .i2l, 1, 0, 0, .null),
  (99, 0, .lstore 10, 2, 10, 0, .null),
  (101, 0, .lload_n 3, 1, 3, 0, .null),
  (102, 0, .lload 10, 2, 10, 0, .null),
  (104, 0, .iload 5, 2, 5, 0, .null),
  (106, 0, .lshl, 1, 0, 0, .null),
  (107, 0, .lor, 1, 0, 0, .null),
  (108, 0, .lstore_n 3, 1, 3, 0, .null),
  (109, 0, .iload 5, 2, 5, 0, .null),
  (111, 0, .iload 9, 2, 9, 0, .null),
  (113, 0, .iadd, 1, 0, 0, .null),
  (114, 0, .istore 5, 2, 5, 0, .null),
  (116, 0, .iinc 6 1, 3, 6, 0, .int (1)),
  (119, 0, .goto (-111), 3, 8, 0, .null),
  (122, 0, .lload_n 3, 1, 3, 0, .null),
  (123, 0, .lreturn, 1, 0, 0, .null)]
abbrev id_X1_bitsAt : Nat := 20
def mi_X1_bitsAt : MI := (yX1_bitsAt, cX1_bitsAt, 12, (some .long), 1, ct_X1_bitsAt)
theorem fe_X1_bitsAt_0 : mj_f mi_X1_bitsAt 0 = some (.lconst 0, 1, 0, 0, .long 0) := by decide +kernel
theorem fe_X1_bitsAt_1 : mj_f mi_X1_bitsAt 1 = some (.lstore_n 3, 1, 3, 0, .null) := by decide +kernel
theorem fe_X1_bitsAt_2 : mj_f mi_X1_bitsAt 2 = some (.iconst 0, 1, 0, 0, .int (0)) := by decide +kernel
theorem fe_X1_bitsAt_3 : mj_f mi_X1_bitsAt 3 = some (.istore 5, 2, 5, 0, .null) := by decide +kernel
theorem fe_X1_bitsAt_5 : mj_f mi_X1_bitsAt 5 = some (.iconst 0, 1, 0, 0, .int (0)) := by decide +kernel
theorem fe_X1_bitsAt_6 : mj_f mi_X1_bitsAt 6 = some (.istore 6, 2, 6, 0, .null) := by decide +kernel
theorem fe_X1_bitsAt_8 : mj_f mi_X1_bitsAt 8 = some (.iload 6, 2, 6, 0, .null) := by decide +kernel
theorem fe_X1_bitsAt_10 : mj_f mi_X1_bitsAt 10 = some (.bipush 9, 2, 0, 0, .int (9)) := by decide +kernel
theorem fe_X1_bitsAt_12 : mj_f mi_X1_bitsAt 12 = some (.if_icmp .ge 110, 3, 122, 0, .null) := by decide +kernel
theorem fe_X1_bitsAt_15 : mj_f mi_X1_bitsAt 15 = some (.iload 5, 2, 5, 0, .null) := by decide +kernel
theorem fe_X1_bitsAt_17 : mj_f mi_X1_bitsAt 17 = some (.iload_n 2, 1, 2, 0, .null) := by decide +kernel
theorem fe_X1_bitsAt_18 : mj_f mi_X1_bitsAt 18 = some (.if_icmp .ge 104, 3, 122, 0, .null) := by decide +kernel
theorem fe_X1_bitsAt_21 : mj_f mi_X1_bitsAt 21 = some (.iload_n 1, 1, 1, 0, .null) := by decide +kernel
theorem fe_X1_bitsAt_22 : mj_f mi_X1_bitsAt 22 = some (.iload 5, 2, 5, 0, .null) := by decide +kernel
theorem fe_X1_bitsAt_24 : mj_f mi_X1_bitsAt 24 = some (.iadd, 1, 0, 0, .null) := by decide +kernel
theorem fe_X1_bitsAt_25 : mj_f mi_X1_bitsAt 25 = some (.bipush 8, 2, 0, 0, .int (8)) := by decide +kernel
theorem fe_X1_bitsAt_27 : mj_f mi_X1_bitsAt 27 = some (.idiv, 1, 0, 0, .null) := by decide +kernel
theorem fe_X1_bitsAt_28 : mj_f mi_X1_bitsAt 28 = some (.istore 7, 2, 7, 0, .null) := by decide +kernel
theorem fe_X1_bitsAt_30 : mj_f mi_X1_bitsAt 30 = some (.iload_n 1, 1, 1, 0, .null) := by decide +kernel
theorem fe_X1_bitsAt_31 : mj_f mi_X1_bitsAt 31 = some (.iload 5, 2, 5, 0, .null) := by decide +kernel
theorem fe_X1_bitsAt_33 : mj_f mi_X1_bitsAt 33 = some (.iadd, 1, 0, 0, .null) := by decide +kernel
theorem fe_X1_bitsAt_34 : mj_f mi_X1_bitsAt 34 = some (.bipush 8, 2, 0, 0, .int (8)) := by decide +kernel
theorem fe_X1_bitsAt_36 : mj_f mi_X1_bitsAt 36 = some (.irem, 1, 0, 0, .null) := by decide +kernel
theorem fe_X1_bitsAt_37 : mj_f mi_X1_bitsAt 37 = some (.istore 8, 2, 8, 0, .null) := by decide +kernel
theorem fe_X1_bitsAt_39 : mj_f mi_X1_bitsAt 39 = some (.bipush 8, 2, 0, 0, .int (8)) := by decide +kernel
theorem fe_X1_bitsAt_41 : mj_f mi_X1_bitsAt 41 = some (.iload 8, 2, 8, 0, .null) := by decide +kernel
theorem fe_X1_bitsAt_43 : mj_f mi_X1_bitsAt 43 = some (.isub, 1, 0, 0, .null) := by decide +kernel
theorem fe_X1_bitsAt_44 : mj_f mi_X1_bitsAt 44 = some (.iload_n 2, 1, 2, 0, .null) := by decide +kernel
theorem fe_X1_bitsAt_45 : mj_f mi_X1_bitsAt 45 = some (.iload 5, 2, 5, 0, .null) := by decide +kernel
theorem fe_X1_bitsAt_47 : mj_f mi_X1_bitsAt 47 = some (.isub, 1, 0, 0, .null) := by decide +kernel
theorem fe_X1_bitsAt_48 : mj_f mi_X1_bitsAt 48 = some (.invokestatic 27, 3, 262, 2, .null) := by decide +kernel
theorem fe_X1_bitsAt_51 : mj_f mi_X1_bitsAt 51 = some (.istore 9, 2, 9, 0, .null) := by decide +kernel
theorem fe_X1_bitsAt_53 : mj_f mi_X1_bitsAt 53 = some (.iload 7, 2, 7, 0, .null) := by decide +kernel
theorem fe_X1_bitsAt_55 : mj_f mi_X1_bitsAt 55 = some (.ifCond .lt 54, 3, 109, 0, .null) := by decide +kernel
theorem fe_X1_bitsAt_58 : mj_f mi_X1_bitsAt 58 = some (.iload 7, 2, 7, 0, .null) := by decide +kernel
theorem fe_X1_bitsAt_60 : mj_f mi_X1_bitsAt 60 = some (.aload_n 0, 1, 0, 0, .null) := by decide +kernel
theorem fe_X1_bitsAt_61 : mj_f mi_X1_bitsAt 61 = some (.getfield 15, 3, 1, 1, .int 0) := by decide +kernel
theorem fe_X1_bitsAt_64 : mj_f mi_X1_bitsAt 64 = some (.if_icmp .ge 45, 3, 109, 0, .null) := by decide +kernel
theorem fe_X1_bitsAt_67 : mj_f mi_X1_bitsAt 67 = some (.iload 7, 2, 7, 0, .null) := by decide +kernel
theorem fe_X1_bitsAt_69 : mj_f mi_X1_bitsAt 69 = some (.aload_n 0, 1, 0, 0, .null) := by decide +kernel
theorem fe_X1_bitsAt_70 : mj_f mi_X1_bitsAt 70 = some (.getfield 9, 3, 1, 0, .null) := by decide +kernel
theorem fe_X1_bitsAt_73 : mj_f mi_X1_bitsAt 73 = some (.arraylength, 1, 0, 0, .null) := by decide +kernel
theorem fe_X1_bitsAt_74 : mj_f mi_X1_bitsAt 74 = some (.if_icmp .ge 35, 3, 109, 0, .null) := by decide +kernel
theorem fe_X1_bitsAt_77 : mj_f mi_X1_bitsAt 77 = some (.aload_n 0, 1, 0, 0, .null) := by decide +kernel
theorem fe_X1_bitsAt_78 : mj_f mi_X1_bitsAt 78 = some (.getfield 9, 3, 1, 0, .null) := by decide +kernel
theorem fe_X1_bitsAt_81 : mj_f mi_X1_bitsAt 81 = some (.iload 7, 2, 7, 0, .null) := by decide +kernel
theorem fe_X1_bitsAt_83 : mj_f mi_X1_bitsAt 83 = some (.baload, 1, 0, 0, .null) := by decide +kernel
theorem fe_X1_bitsAt_84 : mj_f mi_X1_bitsAt 84 = some (.sipush 255, 3, 0, 0, .int (255)) := by decide +kernel
theorem fe_X1_bitsAt_87 : mj_f mi_X1_bitsAt 87 = some (.iand, 1, 0, 0, .null) := by decide +kernel
theorem fe_X1_bitsAt_88 : mj_f mi_X1_bitsAt 88 = some (.iload 8, 2, 8, 0, .null) := by decide +kernel
theorem fe_X1_bitsAt_90 : mj_f mi_X1_bitsAt 90 = some (.iushr, 1, 0, 0, .null) := by decide +kernel
theorem fe_X1_bitsAt_91 : mj_f mi_X1_bitsAt 91 = some (.iconst 1, 1, 0, 0, .int (1)) := by decide +kernel
theorem fe_X1_bitsAt_92 : mj_f mi_X1_bitsAt 92 = some (.iload 9, 2, 9, 0, .null) := by decide +kernel
theorem fe_X1_bitsAt_94 : mj_f mi_X1_bitsAt 94 = some (.ishl, 1, 0, 0, .null) := by decide +kernel
theorem fe_X1_bitsAt_95 : mj_f mi_X1_bitsAt 95 = some (.iconst 1, 1, 0, 0, .int (1)) := by decide +kernel
theorem fe_X1_bitsAt_96 : mj_f mi_X1_bitsAt 96 = some (.isub, 1, 0, 0, .null) := by decide +kernel
theorem fe_X1_bitsAt_97 : mj_f mi_X1_bitsAt 97 = some (.iand, 1, 0, 0, .null) := by decide +kernel
theorem fe_X1_bitsAt_98 : mj_f mi_X1_bitsAt 98 = some (.i2l, 1, 0, 0, .null) := by decide +kernel
theorem fe_X1_bitsAt_99 : mj_f mi_X1_bitsAt 99 = some (.lstore 10, 2, 10, 0, .null) := by decide +kernel
theorem fe_X1_bitsAt_101 : mj_f mi_X1_bitsAt 101 = some (.lload_n 3, 1, 3, 0, .null) := by decide +kernel
theorem fe_X1_bitsAt_102 : mj_f mi_X1_bitsAt 102 = some (.lload 10, 2, 10, 0, .null) := by decide +kernel
theorem fe_X1_bitsAt_104 : mj_f mi_X1_bitsAt 104 = some (.iload 5, 2, 5, 0, .null) := by decide +kernel
theorem fe_X1_bitsAt_106 : mj_f mi_X1_bitsAt 106 = some (.lshl, 1, 0, 0, .null) := by decide +kernel
theorem fe_X1_bitsAt_107 : mj_f mi_X1_bitsAt 107 = some (.lor, 1, 0, 0, .null) := by decide +kernel
theorem fe_X1_bitsAt_108 : mj_f mi_X1_bitsAt 108 = some (.lstore_n 3, 1, 3, 0, .null) := by decide +kernel
theorem fe_X1_bitsAt_109 : mj_f mi_X1_bitsAt 109 = some (.iload 5, 2, 5, 0, .null) := by decide +kernel
theorem fe_X1_bitsAt_111 : mj_f mi_X1_bitsAt 111 = some (.iload 9, 2, 9, 0, .null) := by decide +kernel
theorem fe_X1_bitsAt_113 : mj_f mi_X1_bitsAt 113 = some (.iadd, 1, 0, 0, .null) := by decide +kernel
theorem fe_X1_bitsAt_114 : mj_f mi_X1_bitsAt 114 = some (.istore 5, 2, 5, 0, .null) := by decide +kernel
theorem fe_X1_bitsAt_116 : mj_f mi_X1_bitsAt 116 = some (.iinc 6 1, 3, 6, 0, .int (1)) := by decide +kernel
theorem fe_X1_bitsAt_119 : mj_f mi_X1_bitsAt 119 = some (.goto (-111), 3, 8, 0, .null) := by decide +kernel
theorem fe_X1_bitsAt_122 : mj_f mi_X1_bitsAt 122 = some (.lload_n 3, 1, 3, 0, .null) := by decide +kernel
theorem fe_X1_bitsAt_123 : mj_f mi_X1_bitsAt 123 = some (.lreturn, 1, 0, 0, .null) := by decide +kernel
def ct_X1_checkOf : MJT := [
  (0, 0, .bipush 7, 2, 0, 0, .int (7)),
  (2, 0, .istore_n 2, 1, 2, 0, .null),
  (3, 0, .iconst 0, 1, 0, 0, .int (0)),
  (4, 0, .istore_n 3, 1, 3, 0, .null),
  (5, 0, .iload_n 3, 1, 3, 0, .null),
  (6, 0, .iload_n 1, 1, 1, 0, .null),
  (7, 0, .if_icmp .ge 46, 3, 53, 0, .null),
  (10, 0, .iload_n 3, 1, 3, 0, .null),
  (11, 0, .aload_n 0, 1, 0, 0, .null),
  (12, 119, .getfield 15, 3, 1, 1, .int 0),
  (15, 0, .if_icmp .ge 38, 3, 53, 0, .null),
  (18, 0, .iload_n 3, 1, 3, 0, .null),
  (19, 0, .aload_n 0, 1, 0, 0, .null),
  (20, 118, .getfield 9, 3, 1, 0, .null),
  (23, 0, .arraylength, 1, 0, 0, .null),
  (24, 0, .if_icmp .ge 29, 3, 53, 0, .null),
  (27, 0, .bipush 31, 2, 0, 0, .int (31)),
  (29, 0, .iload_n 2, 1, 2, 0, .null),
  (30, 0, .imul, 1, 0, 0, .null),
  (31, 0, .aload_n 0, 1, 0, 0, .null),
  (32, 118, .getfield 9, 3, 1, 0, .null),
  (35, 0, .iload_n 3, 1, 3, 0, .null),
  (36, 0, .baload, 1, 0, 0, .null),
  (37, 0, .sipush 255, 3, 0, 0, .int (255)),
  (40, 0, .iand, 1, 0, 0, .null),
  (41, 0, .iadd, 1, 0, 0, .null),
  (42, 0, .sipush 255, 3, 0, 0, .int (255)),
  (45, 0, .iand, 1, 0, 0, .null),
  (46, 0, .istore_n 2, 1, 2, 0, .null),
  (47, 0, .iinc 3 1, 3, 3, 0, .int (1)),
  (50, 0, .goto (-45), 3, 5, 0, .null),
  (53, 0, .iload_n 2, 1, 2, 0, .null),
  (54, 0, .ireturn, 1, 0, 0, .null)]
abbrev id_X1_checkOf : Nat := 21
def mi_X1_checkOf : MI := (yX1_checkOf, cX1_checkOf, 4, (some .int), 1, ct_X1_checkOf)
theorem fe_X1_checkOf_0 : mj_f mi_X1_checkOf 0 = some (.bipush 7, 2, 0, 0, .int (7)) := by decide +kernel
theorem fe_X1_checkOf_2 : mj_f mi_X1_checkOf 2 = some (.istore_n 2, 1, 2, 0, .null) := by decide +kernel
theorem fe_X1_checkOf_3 : mj_f mi_X1_checkOf 3 = some (.iconst 0, 1, 0, 0, .int (0)) := by decide +kernel
theorem fe_X1_checkOf_4 : mj_f mi_X1_checkOf 4 = some (.istore_n 3, 1, 3, 0, .null) := by decide +kernel
theorem fe_X1_checkOf_5 : mj_f mi_X1_checkOf 5 = some (.iload_n 3, 1, 3, 0, .null) := by decide +kernel
theorem fe_X1_checkOf_6 : mj_f mi_X1_checkOf 6 = some (.iload_n 1, 1, 1, 0, .null) := by decide +kernel
theorem fe_X1_checkOf_7 : mj_f mi_X1_checkOf 7 = some (.if_icmp .ge 46, 3, 53, 0, .null) := by decide +kernel
theorem fe_X1_checkOf_10 : mj_f mi_X1_checkOf 10 = some (.iload_n 3, 1, 3, 0, .null) := by decide +kernel
theorem fe_X1_checkOf_11 : mj_f mi_X1_checkOf 11 = some (.aload_n 0, 1, 0, 0, .null) := by decide +kernel
theorem fe_X1_checkOf_12 : mj_f mi_X1_checkOf 12 = some (.getfield 15, 3, 1, 1, .int 0) := by decide +kernel
theorem fe_X1_checkOf_15 : mj_f mi_X1_checkOf 15 = some (.if_icmp .ge 38, 3, 53, 0, .null) := by decide +kernel
theorem fe_X1_checkOf_18 : mj_f mi_X1_checkOf 18 = some (.iload_n 3, 1, 3, 0, .null) := by decide +kernel
theorem fe_X1_checkOf_19 : mj_f mi_X1_checkOf 19 = some (.aload_n 0, 1, 0, 0, .null) := by decide +kernel
theorem fe_X1_checkOf_20 : mj_f mi_X1_checkOf 20 = some (.getfield 9, 3, 1, 0, .null) := by decide +kernel
theorem fe_X1_checkOf_23 : mj_f mi_X1_checkOf 23 = some (.arraylength, 1, 0, 0, .null) := by decide +kernel
theorem fe_X1_checkOf_24 : mj_f mi_X1_checkOf 24 = some (.if_icmp .ge 29, 3, 53, 0, .null) := by decide +kernel
theorem fe_X1_checkOf_27 : mj_f mi_X1_checkOf 27 = some (.bipush 31, 2, 0, 0, .int (31)) := by decide +kernel
theorem fe_X1_checkOf_29 : mj_f mi_X1_checkOf 29 = some (.iload_n 2, 1, 2, 0, .null) := by decide +kernel
theorem fe_X1_checkOf_30 : mj_f mi_X1_checkOf 30 = some (.imul, 1, 0, 0, .null) := by decide +kernel
theorem fe_X1_checkOf_31 : mj_f mi_X1_checkOf 31 = some (.aload_n 0, 1, 0, 0, .null) := by decide +kernel
theorem fe_X1_checkOf_32 : mj_f mi_X1_checkOf 32 = some (.getfield 9, 3, 1, 0, .null) := by decide +kernel
theorem fe_X1_checkOf_35 : mj_f mi_X1_checkOf 35 = some (.iload_n 3, 1, 3, 0, .null) := by decide +kernel
theorem fe_X1_checkOf_36 : mj_f mi_X1_checkOf 36 = some (.baload, 1, 0, 0, .null) := by decide +kernel
theorem fe_X1_checkOf_37 : mj_f mi_X1_checkOf 37 = some (.sipush 255, 3, 0, 0, .int (255)) := by decide +kernel
theorem fe_X1_checkOf_40 : mj_f mi_X1_checkOf 40 = some (.iand, 1, 0, 0, .null) := by decide +kernel
theorem fe_X1_checkOf_41 : mj_f mi_X1_checkOf 41 = some (.iadd, 1, 0, 0, .null) := by decide +kernel
theorem fe_X1_checkOf_42 : mj_f mi_X1_checkOf 42 = some (.sipush 255, 3, 0, 0, .int (255)) := by decide +kernel
theorem fe_X1_checkOf_45 : mj_f mi_X1_checkOf 45 = some (.iand, 1, 0, 0, .null) := by decide +kernel
theorem fe_X1_checkOf_46 : mj_f mi_X1_checkOf 46 = some (.istore_n 2, 1, 2, 0, .null) := by decide +kernel
theorem fe_X1_checkOf_47 : mj_f mi_X1_checkOf 47 = some (.iinc 3 1, 3, 3, 0, .int (1)) := by decide +kernel
theorem fe_X1_checkOf_50 : mj_f mi_X1_checkOf 50 = some (.goto (-45), 3, 5, 0, .null) := by decide +kernel
theorem fe_X1_checkOf_53 : mj_f mi_X1_checkOf 53 = some (.iload_n 2, 1, 2, 0, .null) := by decide +kernel
theorem fe_X1_checkOf_54 : mj_f mi_X1_checkOf 54 = some (.ireturn, 1, 0, 0, .null) := by decide +kernel
def ct_X1_become : MJT := [
  (0, 0, .aload_n 0, 1, 0, 0, .null),
  (1, 0, .aload_n 1, 1, 1, 0, .null),
  (2, 119, .getfield 15, 3, 1, 1, .int 0),
  (5, 0, .aload_n 0, 1, 0, 0, .null),
  (6, 118, .getfield 9, 3, 1, 0, .null),
  (9, 0, .arraylength, 1, 0, 0, .null),
  (10, 530, .invokestatic 27, 3, 262, 2, .null),
  (13, 119, .putfield 15, 3, 1, 1, .int 0),
  (16, 0, .aload_n 1, 1, 1, 0, .null),
  (17, 118, .getfield 9, 3, 1, 0, .null),
  (20, 0, .iconst 0, 1, 0, 0, .int (0)),
  (21, 0, .aload_n 0, 1, 0, 0, .null),
  (22, 118, .getfield 9, 3, 1, 0, .null),
  (25, 0, .iconst 0, 1, 0, 0, .int (0)),
  (26, 0, .aload_n 0, 1, 0, 0, .null),
  (27, 119, .getfield 15, 3, 1, 1, .int 0),
  (30, 1173, .invokestatic 33, 3, 1001, 0, .null),
  (33, 0, .return_, 1, 0, 0, .null)]
abbrev id_X1_become : Nat := 22
def mi_X1_become : MI := (yX1_become, cX1_become, 2, none, 1, ct_X1_become)
theorem fe_X1_become_0 : mj_f mi_X1_become 0 = some (.aload_n 0, 1, 0, 0, .null) := by decide +kernel
theorem fe_X1_become_1 : mj_f mi_X1_become 1 = some (.aload_n 1, 1, 1, 0, .null) := by decide +kernel
theorem fe_X1_become_2 : mj_f mi_X1_become 2 = some (.getfield 15, 3, 1, 1, .int 0) := by decide +kernel
theorem fe_X1_become_5 : mj_f mi_X1_become 5 = some (.aload_n 0, 1, 0, 0, .null) := by decide +kernel
theorem fe_X1_become_6 : mj_f mi_X1_become 6 = some (.getfield 9, 3, 1, 0, .null) := by decide +kernel
theorem fe_X1_become_9 : mj_f mi_X1_become 9 = some (.arraylength, 1, 0, 0, .null) := by decide +kernel
theorem fe_X1_become_10 : mj_f mi_X1_become 10 = some (.invokestatic 27, 3, 262, 2, .null) := by decide +kernel
theorem fe_X1_become_13 : mj_f mi_X1_become 13 = some (.putfield 15, 3, 1, 1, .int 0) := by decide +kernel
theorem fe_X1_become_16 : mj_f mi_X1_become 16 = some (.aload_n 1, 1, 1, 0, .null) := by decide +kernel
theorem fe_X1_become_17 : mj_f mi_X1_become 17 = some (.getfield 9, 3, 1, 0, .null) := by decide +kernel
theorem fe_X1_become_20 : mj_f mi_X1_become 20 = some (.iconst 0, 1, 0, 0, .int (0)) := by decide +kernel
theorem fe_X1_become_21 : mj_f mi_X1_become 21 = some (.aload_n 0, 1, 0, 0, .null) := by decide +kernel
theorem fe_X1_become_22 : mj_f mi_X1_become 22 = some (.getfield 9, 3, 1, 0, .null) := by decide +kernel
theorem fe_X1_become_25 : mj_f mi_X1_become 25 = some (.iconst 0, 1, 0, 0, .int (0)) := by decide +kernel
theorem fe_X1_become_26 : mj_f mi_X1_become 26 = some (.aload_n 0, 1, 0, 0, .null) := by decide +kernel
theorem fe_X1_become_27 : mj_f mi_X1_become 27 = some (.getfield 15, 3, 1, 1, .int 0) := by decide +kernel
theorem fe_X1_become_30 : mj_f mi_X1_become 30 = some (.invokestatic 33, 3, 1001, 0, .null) := by decide +kernel
theorem fe_X1_become_33 : mj_f mi_X1_become 33 = some (.return_, 1, 0, 0, .null) := by decide +kernel
def ct_X2_init : MJT := [
  (0, 0, .aload_n 0, 1, 0, 0, .null),
  (1, 324, .invokespecial 3, 3, 1000, 0, .null),
  (4, 0, .aload_n 0, 1, 0, 0, .null),
  (5, 325, .new 9, 3, 0, 0, .null),
  (8, 0, .dup, 1, 0, 0, .null),
  (9, 326, .invokespecial 11, 3, 0, 0, .int 1),
  (12, 370, .putfield 12, 3, 2, 3, .null),
  (15, 0, .aload_n 0, 1, 0, 0, .null),
  (16, 0, .iconst 5, 1, 0, 0, .int (5)),
  (17, 327, .anewarray 18, 3, 6, 0, .null),
  (20, 371, .putfield 20, 3, 2, 4, .null),
  (23, 0, .aload_n 0, 1, 0, 0, .null),
  (24, 0, .iconst 0, 1, 0, 0, .int (0)),
  (25, 372, .putfield 24, 3, 2, 5, .int 1),
  (28, 0, .aload_n 0, 1, 0, 0, .null),
  (29, 0, .iconst 0, 1, 0, 0, .int (0)),
  (30, 373, .putfield 28, 3, 2, 6, .int 0),
  (33, 0, .aload_n 0, 1, 0, 0, .null),
  (34, 0, .iconst 2, 1, 0, 0, .int (2)),
  (35, 374, .putfield 32, 3, 2, 7, .int 0),
  (38, 0, .aload_n 0, 1, 0, 0, .null),
  (39, 0, .sipush 1000, 3, 0, 0, .int (1000)),
  (42, 375, .putfield 35, 3, 2, 8, .int 0),
  (45, 0, .aload_n 0, 1, 0, 0, .null),
  (46, 0, .aload_n 1, 1, 1, 0, .null),
  (47, 367, .putfield 38, 3, 2, 0, .null),
  (50, 0, .aload_n 0, 1, 0, 0, .null),
  (51, 0, .aload_n 2, 1, 2, 0, .null),
  (52, 368, .putfield 42, 3, 2, 1, .null),
  (55, 0, .aload_n 0, 1, 0, 0, .null),
  (56, 0, .aload_n 3, 1, 3, 0, .null),
  (57, 369, .putfield 46, 3, 2, 2, .null),
  (60, 0, .iconst 0, 1, 0, 0, .int (0)),
  (61, 0, .istore 4, 2, 4, 0, .null),
  (63, 0, .iload 4, 2, 4, 0, .null),
  (65, 0, .iconst 5, 1, 0, 0, .int (5)),
  (66, 0, .if_icmp .ge 23, 3, 89, 0, .null),
  (69, 0, .aload_n 0, 1, 0, 0, .null),
  (70, 371, .getfield 20, 3, 2, 4, .null),
  (73, 0, .iload 4, 2, 4, 0, .null),
  (75, 327, .new 18, 3, 6, 0, .null),
  (78, 0, .dup, 1, 0, 0, .null),
  (79, 330, .invokespecial 49, 3, 67, 0, .int 1),
  (82, 0, .aastore, 1, 0, 0, .null),
  (83, 0, .iinc 4 1, 3, 4, 0, .int (1)),
  (86, 0, .goto (-23), 3, 63, 0, .null),
  (89, 0, .return_, 1, 0, 0, .null)]
abbrev id_X2_init : Nat := 23
def mi_X2_init : MI := (yX2_init, cX2_init, 5, none, 2, ct_X2_init)
theorem fe_X2_init_0 : mj_f mi_X2_init 0 = some (.aload_n 0, 1, 0, 0, .null) := by decide +kernel
theorem fe_X2_init_1 : mj_f mi_X2_init 1 = some (.invokespecial 3, 3, 1000, 0, .null) := by decide +kernel
theorem fe_X2_init_4 : mj_f mi_X2_init 4 = some (.aload_n 0, 1, 0, 0, .null) := by decide +kernel
theorem fe_X2_init_5 : mj_f mi_X2_init 5 = some (.new 9, 3, 0, 0, .null) := by decide +kernel
theorem fe_X2_init_8 : mj_f mi_X2_init 8 = some (.dup, 1, 0, 0, .null) := by decide +kernel
theorem fe_X2_init_9 : mj_f mi_X2_init 9 = some (.invokespecial 11, 3, 0, 0, .int 1) := by decide +kernel
theorem fe_X2_init_12 : mj_f mi_X2_init 12 = some (.putfield 12, 3, 2, 3, .null) := by decide +kernel
theorem fe_X2_init_15 : mj_f mi_X2_init 15 = some (.aload_n 0, 1, 0, 0, .null) := by decide +kernel
theorem fe_X2_init_16 : mj_f mi_X2_init 16 = some (.iconst 5, 1, 0, 0, .int (5)) := by decide +kernel
theorem fe_X2_init_17 : mj_f mi_X2_init 17 = some (.anewarray 18, 3, 6, 0, .null) := by decide +kernel
theorem fe_X2_init_20 : mj_f mi_X2_init 20 = some (.putfield 20, 3, 2, 4, .null) := by decide +kernel
theorem fe_X2_init_23 : mj_f mi_X2_init 23 = some (.aload_n 0, 1, 0, 0, .null) := by decide +kernel
theorem fe_X2_init_24 : mj_f mi_X2_init 24 = some (.iconst 0, 1, 0, 0, .int (0)) := by decide +kernel
theorem fe_X2_init_25 : mj_f mi_X2_init 25 = some (.putfield 24, 3, 2, 5, .int 1) := by decide +kernel
theorem fe_X2_init_28 : mj_f mi_X2_init 28 = some (.aload_n 0, 1, 0, 0, .null) := by decide +kernel
theorem fe_X2_init_29 : mj_f mi_X2_init 29 = some (.iconst 0, 1, 0, 0, .int (0)) := by decide +kernel
theorem fe_X2_init_30 : mj_f mi_X2_init 30 = some (.putfield 28, 3, 2, 6, .int 0) := by decide +kernel
theorem fe_X2_init_33 : mj_f mi_X2_init 33 = some (.aload_n 0, 1, 0, 0, .null) := by decide +kernel
theorem fe_X2_init_34 : mj_f mi_X2_init 34 = some (.iconst 2, 1, 0, 0, .int (2)) := by decide +kernel
theorem fe_X2_init_35 : mj_f mi_X2_init 35 = some (.putfield 32, 3, 2, 7, .int 0) := by decide +kernel
theorem fe_X2_init_38 : mj_f mi_X2_init 38 = some (.aload_n 0, 1, 0, 0, .null) := by decide +kernel
theorem fe_X2_init_39 : mj_f mi_X2_init 39 = some (.sipush 1000, 3, 0, 0, .int (1000)) := by decide +kernel
theorem fe_X2_init_42 : mj_f mi_X2_init 42 = some (.putfield 35, 3, 2, 8, .int 0) := by decide +kernel
theorem fe_X2_init_45 : mj_f mi_X2_init 45 = some (.aload_n 0, 1, 0, 0, .null) := by decide +kernel
theorem fe_X2_init_46 : mj_f mi_X2_init 46 = some (.aload_n 1, 1, 1, 0, .null) := by decide +kernel
theorem fe_X2_init_47 : mj_f mi_X2_init 47 = some (.putfield 38, 3, 2, 0, .null) := by decide +kernel
theorem fe_X2_init_50 : mj_f mi_X2_init 50 = some (.aload_n 0, 1, 0, 0, .null) := by decide +kernel
theorem fe_X2_init_51 : mj_f mi_X2_init 51 = some (.aload_n 2, 1, 2, 0, .null) := by decide +kernel
theorem fe_X2_init_52 : mj_f mi_X2_init 52 = some (.putfield 42, 3, 2, 1, .null) := by decide +kernel
theorem fe_X2_init_55 : mj_f mi_X2_init 55 = some (.aload_n 0, 1, 0, 0, .null) := by decide +kernel
theorem fe_X2_init_56 : mj_f mi_X2_init 56 = some (.aload_n 3, 1, 3, 0, .null) := by decide +kernel
theorem fe_X2_init_57 : mj_f mi_X2_init 57 = some (.putfield 46, 3, 2, 2, .null) := by decide +kernel
theorem fe_X2_init_60 : mj_f mi_X2_init 60 = some (.iconst 0, 1, 0, 0, .int (0)) := by decide +kernel
theorem fe_X2_init_61 : mj_f mi_X2_init 61 = some (.istore 4, 2, 4, 0, .null) := by decide +kernel
theorem fe_X2_init_63 : mj_f mi_X2_init 63 = some (.iload 4, 2, 4, 0, .null) := by decide +kernel
theorem fe_X2_init_65 : mj_f mi_X2_init 65 = some (.iconst 5, 1, 0, 0, .int (5)) := by decide +kernel
theorem fe_X2_init_66 : mj_f mi_X2_init 66 = some (.if_icmp .ge 23, 3, 89, 0, .null) := by decide +kernel
theorem fe_X2_init_69 : mj_f mi_X2_init 69 = some (.aload_n 0, 1, 0, 0, .null) := by decide +kernel
theorem fe_X2_init_70 : mj_f mi_X2_init 70 = some (.getfield 20, 3, 2, 4, .null) := by decide +kernel
theorem fe_X2_init_73 : mj_f mi_X2_init 73 = some (.iload 4, 2, 4, 0, .null) := by decide +kernel
theorem fe_X2_init_75 : mj_f mi_X2_init 75 = some (.new 18, 3, 6, 0, .null) := by decide +kernel
theorem fe_X2_init_78 : mj_f mi_X2_init 78 = some (.dup, 1, 0, 0, .null) := by decide +kernel
theorem fe_X2_init_79 : mj_f mi_X2_init 79 = some (.invokespecial 49, 3, 67, 0, .int 1) := by decide +kernel
theorem fe_X2_init_82 : mj_f mi_X2_init 82 = some (.aastore, 1, 0, 0, .null) := by decide +kernel
theorem fe_X2_init_83 : mj_f mi_X2_init 83 = some (.iinc 4 1, 3, 4, 0, .int (1)) := by decide +kernel
theorem fe_X2_init_86 : mj_f mi_X2_init 86 = some (.goto (-23), 3, 63, 0, .null) := by decide +kernel
theorem fe_X2_init_89 : mj_f mi_X2_init 89 = some (.return_, 1, 0, 0, .null) := by decide +kernel
def ct_X2_size : MJT := [
  (0, 0, .aload_n 0, 1, 0, 0, .null),
  (1, 373, .getfield 28, 3, 2, 6, .int 0),
  (4, 0, .ireturn, 1, 0, 0, .null)]
abbrev id_X2_size : Nat := 24
def mi_X2_size : MI := (yX2_size, cX2_size, 1, (some .int), 2, ct_X2_size)
theorem fe_X2_size_0 : mj_f mi_X2_size 0 = some (.aload_n 0, 1, 0, 0, .null) := by decide +kernel
theorem fe_X2_size_1 : mj_f mi_X2_size 1 = some (.getfield 28, 3, 2, 6, .int 0) := by decide +kernel
theorem fe_X2_size_4 : mj_f mi_X2_size 4 = some (.ireturn, 1, 0, 0, .null) := by decide +kernel
def ct_X2_holds : MJT := [
  (0, 0, .iload_n 1, 1, 1, 0, .null),
  (1, 0, .ifCond .lt 15, 3, 16, 0, .null),
  (4, 0, .iload_n 1, 1, 1, 0, .null),
  (5, 0, .aload_n 0, 1, 0, 0, .null),
  (6, 373, .getfield 28, 3, 2, 6, .int 0),
  (9, 0, .if_icmp .ge 7, 3, 16, 0, .null),
  (12, 0, .iconst 1, 1, 0, 0, .int (1)),
  (13, 0, .goto 4, 3, 17, 0, .null),
  (16, 0, .iconst 0, 1, 0, 0, .int (0)),
  (17, 0, .ireturn, 1, 0, 0, .null)]
abbrev id_X2_holds : Nat := 25
def mi_X2_holds : MI := (yX2_holds, cX2_holds, 2, (some .boolean), 2, ct_X2_holds)
theorem fe_X2_holds_0 : mj_f mi_X2_holds 0 = some (.iload_n 1, 1, 1, 0, .null) := by decide +kernel
theorem fe_X2_holds_1 : mj_f mi_X2_holds 1 = some (.ifCond .lt 15, 3, 16, 0, .null) := by decide +kernel
theorem fe_X2_holds_4 : mj_f mi_X2_holds 4 = some (.iload_n 1, 1, 1, 0, .null) := by decide +kernel
theorem fe_X2_holds_5 : mj_f mi_X2_holds 5 = some (.aload_n 0, 1, 0, 0, .null) := by decide +kernel
theorem fe_X2_holds_6 : mj_f mi_X2_holds 6 = some (.getfield 28, 3, 2, 6, .int 0) := by decide +kernel
theorem fe_X2_holds_9 : mj_f mi_X2_holds 9 = some (.if_icmp .ge 7, 3, 16, 0, .null) := by decide +kernel
theorem fe_X2_holds_12 : mj_f mi_X2_holds 12 = some (.iconst 1, 1, 0, 0, .int (1)) := by decide +kernel
theorem fe_X2_holds_13 : mj_f mi_X2_holds 13 = some (.goto 4, 3, 17, 0, .null) := by decide +kernel
theorem fe_X2_holds_16 : mj_f mi_X2_holds 16 = some (.iconst 0, 1, 0, 0, .int (0)) := by decide +kernel
theorem fe_X2_holds_17 : mj_f mi_X2_holds 17 = some (.ireturn, 1, 0, 0, .null) := by decide +kernel
def ct_X2_pieceTotal : MJT := [
  (0, 0, .aload_n 0, 1, 0, 0, .null),
  (1, 373, .getfield 28, 3, 2, 6, .int 0),
  (4, 0, .bipush 32, 2, 0, 0, .int (32)),
  (6, 0, .iadd, 1, 0, 0, .null),
  (7, 0, .iconst 1, 1, 0, 0, .int (1)),
  (8, 0, .isub, 1, 0, 0, .null),
  (9, 0, .bipush 32, 2, 0, 0, .int (32)),
  (11, 0, .idiv, 1, 0, 0, .null),
  (12, 0, .ireturn, 1, 0, 0, .null)]
abbrev id_X2_pieceTotal : Nat := 26
def mi_X2_pieceTotal : MI := (yX2_pieceTotal, cX2_pieceTotal, 1, (some .int), 2, ct_X2_pieceTotal)
theorem fe_X2_pieceTotal_0 : mj_f mi_X2_pieceTotal 0 = some (.aload_n 0, 1, 0, 0, .null) := by decide +kernel
theorem fe_X2_pieceTotal_1 : mj_f mi_X2_pieceTotal 1 = some (.getfield 28, 3, 2, 6, .int 0) := by decide +kernel
theorem fe_X2_pieceTotal_4 : mj_f mi_X2_pieceTotal 4 = some (.bipush 32, 2, 0, 0, .int (32)) := by decide +kernel
theorem fe_X2_pieceTotal_6 : mj_f mi_X2_pieceTotal 6 = some (.iadd, 1, 0, 0, .null) := by decide +kernel
theorem fe_X2_pieceTotal_7 : mj_f mi_X2_pieceTotal 7 = some (.iconst 1, 1, 0, 0, .int (1)) := by decide +kernel
theorem fe_X2_pieceTotal_8 : mj_f mi_X2_pieceTotal 8 = some (.isub, 1, 0, 0, .null) := by decide +kernel
theorem fe_X2_pieceTotal_9 : mj_f mi_X2_pieceTotal 9 = some (.bipush 32, 2, 0, 0, .int (32)) := by decide +kernel
theorem fe_X2_pieceTotal_11 : mj_f mi_X2_pieceTotal 11 = some (.idiv, 1, 0, 0, .null) := by decide +kernel
theorem fe_X2_pieceTotal_12 : mj_f mi_X2_pieceTotal 12 = some (.ireturn, 1, 0, 0, .null) := by decide +kernel
def ct_X2_holdsPiece : MJT := [
  (0, 0, .iload_n 1, 1, 1, 0, .null),
  (1, 0, .ifCond .lt 15, 3, 16, 0, .null),
  (4, 0, .iload_n 1, 1, 1, 0, .null),
  (5, 0, .aload_n 0, 1, 0, 0, .null),
  (6, 479, .invokevirtual 50, 3, 26, 0, .null),
  (9, 0, .if_icmp .ge 7, 3, 16, 0, .null),
  (12, 0, .iconst 1, 1, 0, 0, .int (1)),
  (13, 0, .goto 4, 3, 17, 0, .null),
  (16, 0, .iconst 0, 1, 0, 0, .int (0)),
  (17, 0, .ireturn, 1, 0, 0, .null)]
abbrev id_X2_holdsPiece : Nat := 27
def mi_X2_holdsPiece : MI := (yX2_holdsPiece, cX2_holdsPiece, 2, (some .boolean), 2, ct_X2_holdsPiece)
theorem fe_X2_holdsPiece_0 : mj_f mi_X2_holdsPiece 0 = some (.iload_n 1, 1, 1, 0, .null) := by decide +kernel
theorem fe_X2_holdsPiece_1 : mj_f mi_X2_holdsPiece 1 = some (.ifCond .lt 15, 3, 16, 0, .null) := by decide +kernel
theorem fe_X2_holdsPiece_4 : mj_f mi_X2_holdsPiece 4 = some (.iload_n 1, 1, 1, 0, .null) := by decide +kernel
theorem fe_X2_holdsPiece_5 : mj_f mi_X2_holdsPiece 5 = some (.aload_n 0, 1, 0, 0, .null) := by decide +kernel
theorem fe_X2_holdsPiece_6 : mj_f mi_X2_holdsPiece 6 = some (.invokevirtual 50, 3, 26, 0, .null) := by decide +kernel
theorem fe_X2_holdsPiece_9 : mj_f mi_X2_holdsPiece 9 = some (.if_icmp .ge 7, 3, 16, 0, .null) := by decide +kernel
theorem fe_X2_holdsPiece_12 : mj_f mi_X2_holdsPiece 12 = some (.iconst 1, 1, 0, 0, .int (1)) := by decide +kernel
theorem fe_X2_holdsPiece_13 : mj_f mi_X2_holdsPiece 13 = some (.goto 4, 3, 17, 0, .null) := by decide +kernel
theorem fe_X2_holdsPiece_16 : mj_f mi_X2_holdsPiece 16 = some (.iconst 0, 1, 0, 0, .int (0)) := by decide +kernel
theorem fe_X2_holdsPiece_17 : mj_f mi_X2_holdsPiece 17 = some (.ireturn, 1, 0, 0, .null) := by decide +kernel
def ct_X2_isOpen : MJT := [
  (0, 0, .aload_n 0, 1, 0, 0, .null),
  (1, 372, .getfield 24, 3, 2, 5, .int 1),
  (4, 0, .ifCond .eq 17, 3, 21, 0, .null),
  (7, 0, .iload_n 1, 1, 1, 0, .null),
  (8, 0, .aload_n 0, 1, 0, 0, .null),
  (9, 479, .invokevirtual 50, 3, 26, 0, .null),
  (12, 0, .iconst 1, 1, 0, 0, .int (1)),
  (13, 0, .isub, 1, 0, 0, .null),
  (14, 0, .if_icmp .ne 7, 3, 21, 0, .null),
  (17, 0, .iconst 1, 1, 0, 0, .int (1)),
  (18, 0, .goto 4, 3, 22, 0, .null),
  (21, 0, .iconst 0, 1, 0, 0, .int (0)),
  (22, 0, .ireturn, 1, 0, 0, .null)]
abbrev id_X2_isOpen : Nat := 28
def mi_X2_isOpen : MI := (yX2_isOpen, cX2_isOpen, 2, (some .boolean), 2, ct_X2_isOpen)
theorem fe_X2_isOpen_0 : mj_f mi_X2_isOpen 0 = some (.aload_n 0, 1, 0, 0, .null) := by decide +kernel
theorem fe_X2_isOpen_1 : mj_f mi_X2_isOpen 1 = some (.getfield 24, 3, 2, 5, .int 1) := by decide +kernel
theorem fe_X2_isOpen_4 : mj_f mi_X2_isOpen 4 = some (.ifCond .eq 17, 3, 21, 0, .null) := by decide +kernel
theorem fe_X2_isOpen_7 : mj_f mi_X2_isOpen 7 = some (.iload_n 1, 1, 1, 0, .null) := by decide +kernel
theorem fe_X2_isOpen_8 : mj_f mi_X2_isOpen 8 = some (.aload_n 0, 1, 0, 0, .null) := by decide +kernel
theorem fe_X2_isOpen_9 : mj_f mi_X2_isOpen 9 = some (.invokevirtual 50, 3, 26, 0, .null) := by decide +kernel
theorem fe_X2_isOpen_12 : mj_f mi_X2_isOpen 12 = some (.iconst 1, 1, 0, 0, .int (1)) := by decide +kernel
theorem fe_X2_isOpen_13 : mj_f mi_X2_isOpen 13 = some (.isub, 1, 0, 0, .null) := by decide +kernel
theorem fe_X2_isOpen_14 : mj_f mi_X2_isOpen 14 = some (.if_icmp .ne 7, 3, 21, 0, .null) := by decide +kernel
theorem fe_X2_isOpen_17 : mj_f mi_X2_isOpen 17 = some (.iconst 1, 1, 0, 0, .int (1)) := by decide +kernel
theorem fe_X2_isOpen_18 : mj_f mi_X2_isOpen 18 = some (.goto 4, 3, 22, 0, .null) := by decide +kernel
theorem fe_X2_isOpen_21 : mj_f mi_X2_isOpen 21 = some (.iconst 0, 1, 0, 0, .int (0)) := by decide +kernel
theorem fe_X2_isOpen_22 : mj_f mi_X2_isOpen 22 = some (.ireturn, 1, 0, 0, .null) := by decide +kernel
def ct_X2_rowsOf : MJT := [
  (0, 0, .bipush 32, 2, 0, 0, .int (32)),
  (2, 0, .aload_n 0, 1, 0, 0, .null),
  (3, 373, .getfield 28, 3, 2, 6, .int 0),
  (6, 0, .iload_n 1, 1, 1, 0, .null),
  (7, 0, .bipush 32, 2, 0, 0, .int (32)),
  (9, 0, .imul, 1, 0, 0, .null),
  (10, 0, .isub, 1, 0, 0, .null),
  (11, 487, .invokestatic 54, 3, 262, 2, .null),
  (14, 0, .ireturn, 1, 0, 0, .null)]
abbrev id_X2_rowsOf : Nat := 29
def mi_X2_rowsOf : MI := (yX2_rowsOf, cX2_rowsOf, 2, (some .int), 2, ct_X2_rowsOf)
theorem fe_X2_rowsOf_0 : mj_f mi_X2_rowsOf 0 = some (.bipush 32, 2, 0, 0, .int (32)) := by decide +kernel
theorem fe_X2_rowsOf_2 : mj_f mi_X2_rowsOf 2 = some (.aload_n 0, 1, 0, 0, .null) := by decide +kernel
theorem fe_X2_rowsOf_3 : mj_f mi_X2_rowsOf 3 = some (.getfield 28, 3, 2, 6, .int 0) := by decide +kernel
theorem fe_X2_rowsOf_6 : mj_f mi_X2_rowsOf 6 = some (.iload_n 1, 1, 1, 0, .null) := by decide +kernel
theorem fe_X2_rowsOf_7 : mj_f mi_X2_rowsOf 7 = some (.bipush 32, 2, 0, 0, .int (32)) := by decide +kernel
theorem fe_X2_rowsOf_9 : mj_f mi_X2_rowsOf 9 = some (.imul, 1, 0, 0, .null) := by decide +kernel
theorem fe_X2_rowsOf_10 : mj_f mi_X2_rowsOf 10 = some (.isub, 1, 0, 0, .null) := by decide +kernel
theorem fe_X2_rowsOf_11 : mj_f mi_X2_rowsOf 11 = some (.invokestatic 54, 3, 262, 2, .null) := by decide +kernel
theorem fe_X2_rowsOf_14 : mj_f mi_X2_rowsOf 14 = some (.ireturn, 1, 0, 0, .null) := by decide +kernel
def ct_X2_pieceAt : MJT := [
  (0, 0, .aload_n 0, 1, 0, 0, .null),
  (1, 371, .getfield 20, 3, 2, 4, .null),
  (4, 0, .iconst 0, 1, 0, 0, .int (0)),
  (5, 0, .iload_n 1, 1, 1, 0, .null),
  (6, 0, .iconst 4, 1, 0, 0, .int (4)),
  (7, 487, .invokestatic 54, 3, 262, 2, .null),
  (10, 490, .invokestatic 60, 3, 260, 2, .null),
  (13, 0, .aaload, 1, 0, 0, .null),
  (14, 0, .areturn, 1, 0, 0, .null)]
abbrev id_X2_pieceAt : Nat := 30
def mi_X2_pieceAt : MI := (yX2_pieceAt, cX2_pieceAt, 2, (some (.object "PackedColumns$Piece")), 2, ct_X2_pieceAt)
theorem fe_X2_pieceAt_0 : mj_f mi_X2_pieceAt 0 = some (.aload_n 0, 1, 0, 0, .null) := by decide +kernel
theorem fe_X2_pieceAt_1 : mj_f mi_X2_pieceAt 1 = some (.getfield 20, 3, 2, 4, .null) := by decide +kernel
theorem fe_X2_pieceAt_4 : mj_f mi_X2_pieceAt 4 = some (.iconst 0, 1, 0, 0, .int (0)) := by decide +kernel
theorem fe_X2_pieceAt_5 : mj_f mi_X2_pieceAt 5 = some (.iload_n 1, 1, 1, 0, .null) := by decide +kernel
theorem fe_X2_pieceAt_6 : mj_f mi_X2_pieceAt 6 = some (.iconst 4, 1, 0, 0, .int (4)) := by decide +kernel
theorem fe_X2_pieceAt_7 : mj_f mi_X2_pieceAt 7 = some (.invokestatic 54, 3, 262, 2, .null) := by decide +kernel
theorem fe_X2_pieceAt_10 : mj_f mi_X2_pieceAt 10 = some (.invokestatic 60, 3, 260, 2, .null) := by decide +kernel
theorem fe_X2_pieceAt_13 : mj_f mi_X2_pieceAt 13 = some (.aaload, 1, 0, 0, .null) := by decide +kernel
theorem fe_X2_pieceAt_14 : mj_f mi_X2_pieceAt 14 = some (.areturn, 1, 0, 0, .null) := by decide +kernel
def ct_X2_choose : MJT := [
  (0, 0, .aload_n 0, 1, 0, 0, .null),
  (1, 0, .iload_n 1, 1, 1, 0, .null),
  (2, 374, .putfield 32, 3, 2, 7, .int 0),
  (5, 0, .aload_n 0, 1, 0, 0, .null),
  (6, 0, .iload_n 2, 1, 2, 0, .null),
  (7, 375, .putfield 35, 3, 2, 8, .int 0),
  (10, 0, .return_, 1, 0, 0, .null)]
abbrev id_X2_choose : Nat := 31
def mi_X2_choose : MI := (yX2_choose, cX2_choose, 3, none, 2, ct_X2_choose)
theorem fe_X2_choose_0 : mj_f mi_X2_choose 0 = some (.aload_n 0, 1, 0, 0, .null) := by decide +kernel
theorem fe_X2_choose_1 : mj_f mi_X2_choose 1 = some (.iload_n 1, 1, 1, 0, .null) := by decide +kernel
theorem fe_X2_choose_2 : mj_f mi_X2_choose 2 = some (.putfield 32, 3, 2, 7, .int 0) := by decide +kernel
theorem fe_X2_choose_5 : mj_f mi_X2_choose 5 = some (.aload_n 0, 1, 0, 0, .null) := by decide +kernel
theorem fe_X2_choose_6 : mj_f mi_X2_choose 6 = some (.iload_n 2, 1, 2, 0, .null) := by decide +kernel
theorem fe_X2_choose_7 : mj_f mi_X2_choose 7 = some (.putfield 35, 3, 2, 8, .int 0) := by decide +kernel
theorem fe_X2_choose_10 : mj_f mi_X2_choose 10 = some (.return_, 1, 0, 0, .null) := by decide +kernel
def ct_X2_empty : MJT := [
  (0, 0, .aload_n 0, 1, 0, 0, .null),
  (1, 373, .getfield 28, 3, 2, 6, .int 0),
  (4, 0, .istore_n 1, 1, 1, 0, .null),
  (5, 0, .aload_n 0, 1, 0, 0, .null),
  (6, 0, .iconst 0, 1, 0, 0, .int (0)),
  (7, 373, .putfield 28, 3, 2, 6, .int 0),
  (10, 0, .aload_n 0, 1, 0, 0, .null),
  (11, 0, .iconst 0, 1, 0, 0, .int (0)),
  (12, 372, .putfield 24, 3, 2, 5, .int 1),
  (15, 0, .aload_n 0, 1, 0, 0, .null),
  (16, 370, .getfield 12, 3, 2, 3, .null),
  (19, 467, .invokevirtual 63, 3, 4, 0, .null),
  (22, 0, .iload_n 1, 1, 1, 0, .null),
  (23, 0, .ireturn, 1, 0, 0, .null)]
abbrev id_X2_empty : Nat := 32
def mi_X2_empty : MI := (yX2_empty, cX2_empty, 2, (some .int), 2, ct_X2_empty)
theorem fe_X2_empty_0 : mj_f mi_X2_empty 0 = some (.aload_n 0, 1, 0, 0, .null) := by decide +kernel
theorem fe_X2_empty_1 : mj_f mi_X2_empty 1 = some (.getfield 28, 3, 2, 6, .int 0) := by decide +kernel
theorem fe_X2_empty_4 : mj_f mi_X2_empty 4 = some (.istore_n 1, 1, 1, 0, .null) := by decide +kernel
theorem fe_X2_empty_5 : mj_f mi_X2_empty 5 = some (.aload_n 0, 1, 0, 0, .null) := by decide +kernel
theorem fe_X2_empty_6 : mj_f mi_X2_empty 6 = some (.iconst 0, 1, 0, 0, .int (0)) := by decide +kernel
theorem fe_X2_empty_7 : mj_f mi_X2_empty 7 = some (.putfield 28, 3, 2, 6, .int 0) := by decide +kernel
theorem fe_X2_empty_10 : mj_f mi_X2_empty 10 = some (.aload_n 0, 1, 0, 0, .null) := by decide +kernel
theorem fe_X2_empty_11 : mj_f mi_X2_empty 11 = some (.iconst 0, 1, 0, 0, .int (0)) := by decide +kernel
theorem fe_X2_empty_12 : mj_f mi_X2_empty 12 = some (.putfield 24, 3, 2, 5, .int 1) := by decide +kernel
theorem fe_X2_empty_15 : mj_f mi_X2_empty 15 = some (.aload_n 0, 1, 0, 0, .null) := by decide +kernel
theorem fe_X2_empty_16 : mj_f mi_X2_empty 16 = some (.getfield 12, 3, 2, 3, .null) := by decide +kernel
theorem fe_X2_empty_19 : mj_f mi_X2_empty 19 = some (.invokevirtual 63, 3, 4, 0, .null) := by decide +kernel
theorem fe_X2_empty_22 : mj_f mi_X2_empty 22 = some (.iload_n 1, 1, 1, 0, .null) := by decide +kernel
theorem fe_X2_empty_23 : mj_f mi_X2_empty 23 = some (.ireturn, 1, 0, 0, .null) := by decide +kernel
def ct_X2_blockOf : MJT := [
  (0, 0, .aload_n 0, 1, 0, 0, .null),
  (1, 0, .iload_n 1, 1, 1, 0, .null),
  (2, 475, .invokevirtual 66, 3, 28, 1, .null),
  (5, 0, .ifCond .eq 8, 3, 13, 0, .null),
  (8, 0, .aload_n 0, 1, 0, 0, .null),
  (9, 370, .getfield 12, 3, 2, 3, .null),
  (12, 0, .areturn, 1, 0, 0, .null),
  (13, 0, .aload_n 0, 1, 0, 0, .null),
  (14, 0, .iload_n 1, 1, 1, 0, .null),
  (15, 483, .invokevirtual 70, 3, 30, 1, .null),
  (18, 0, .astore_n 2, 1, 2, 0, .null),
  (19, 0, .aload_n 0, 1, 0, 0, .null),
  (20, 368, .getfield 42, 3, 2, 1, .null),
  (23, 0, .aload_n 2, 1, 2, 0, .null),
  (24, 493, .invokevirtual 74, 3, 68, 0, .null),
  (27, 0, .aload_n 0, 1, 0, 0, .null),
  (28, 369, .getfield 46, 3, 2, 2, .null),
  (31, 497, .invokevirtual 78, 3, 88, 2, .null),
  (34, 0, .pop, 1, 0, 0, .null),
  (35, 0, .aload_n 2, 1, 2, 0, .null),
  (36, 0, .aload_n 0, 1, 0, 0, .null),
  (37, 369, .getfield 46, 3, 2, 2, .null),
  (40, 653, .invokevirtual 84, 3, 80, 1, .null),
  (43, 0, .aload_n 0, 1, 0, 0, .null),
  (44, 369, .getfield 46, 3, 2, 2, .null),
  (47, 0, .areturn, 1, 0, 0, .null)]
abbrev id_X2_blockOf : Nat := 33
def mi_X2_blockOf : MI := (yX2_blockOf, cX2_blockOf, 3, (some (.object "PackedColumns$Block")), 2, ct_X2_blockOf)
theorem fe_X2_blockOf_0 : mj_f mi_X2_blockOf 0 = some (.aload_n 0, 1, 0, 0, .null) := by decide +kernel
theorem fe_X2_blockOf_1 : mj_f mi_X2_blockOf 1 = some (.iload_n 1, 1, 1, 0, .null) := by decide +kernel
theorem fe_X2_blockOf_2 : mj_f mi_X2_blockOf 2 = some (.invokevirtual 66, 3, 28, 1, .null) := by decide +kernel
theorem fe_X2_blockOf_5 : mj_f mi_X2_blockOf 5 = some (.ifCond .eq 8, 3, 13, 0, .null) := by decide +kernel
theorem fe_X2_blockOf_8 : mj_f mi_X2_blockOf 8 = some (.aload_n 0, 1, 0, 0, .null) := by decide +kernel
theorem fe_X2_blockOf_9 : mj_f mi_X2_blockOf 9 = some (.getfield 12, 3, 2, 3, .null) := by decide +kernel
theorem fe_X2_blockOf_12 : mj_f mi_X2_blockOf 12 = some (.areturn, 1, 0, 0, .null) := by decide +kernel
theorem fe_X2_blockOf_13 : mj_f mi_X2_blockOf 13 = some (.aload_n 0, 1, 0, 0, .null) := by decide +kernel
theorem fe_X2_blockOf_14 : mj_f mi_X2_blockOf 14 = some (.iload_n 1, 1, 1, 0, .null) := by decide +kernel
theorem fe_X2_blockOf_15 : mj_f mi_X2_blockOf 15 = some (.invokevirtual 70, 3, 30, 1, .null) := by decide +kernel
theorem fe_X2_blockOf_18 : mj_f mi_X2_blockOf 18 = some (.astore_n 2, 1, 2, 0, .null) := by decide +kernel
theorem fe_X2_blockOf_19 : mj_f mi_X2_blockOf 19 = some (.aload_n 0, 1, 0, 0, .null) := by decide +kernel
theorem fe_X2_blockOf_20 : mj_f mi_X2_blockOf 20 = some (.getfield 42, 3, 2, 1, .null) := by decide +kernel
theorem fe_X2_blockOf_23 : mj_f mi_X2_blockOf 23 = some (.aload_n 2, 1, 2, 0, .null) := by decide +kernel
theorem fe_X2_blockOf_24 : mj_f mi_X2_blockOf 24 = some (.invokevirtual 74, 3, 68, 0, .null) := by decide +kernel
theorem fe_X2_blockOf_27 : mj_f mi_X2_blockOf 27 = some (.aload_n 0, 1, 0, 0, .null) := by decide +kernel
theorem fe_X2_blockOf_28 : mj_f mi_X2_blockOf 28 = some (.getfield 46, 3, 2, 2, .null) := by decide +kernel
theorem fe_X2_blockOf_31 : mj_f mi_X2_blockOf 31 = some (.invokevirtual 78, 3, 88, 2, .null) := by decide +kernel
theorem fe_X2_blockOf_34 : mj_f mi_X2_blockOf 34 = some (.pop, 1, 0, 0, .null) := by decide +kernel
theorem fe_X2_blockOf_35 : mj_f mi_X2_blockOf 35 = some (.aload_n 2, 1, 2, 0, .null) := by decide +kernel
theorem fe_X2_blockOf_36 : mj_f mi_X2_blockOf 36 = some (.aload_n 0, 1, 0, 0, .null) := by decide +kernel
theorem fe_X2_blockOf_37 : mj_f mi_X2_blockOf 37 = some (.getfield 46, 3, 2, 2, .null) := by decide +kernel
theorem fe_X2_blockOf_40 : mj_f mi_X2_blockOf 40 = some (.invokevirtual 84, 3, 80, 1, .null) := by decide +kernel
theorem fe_X2_blockOf_43 : mj_f mi_X2_blockOf 43 = some (.aload_n 0, 1, 0, 0, .null) := by decide +kernel
theorem fe_X2_blockOf_44 : mj_f mi_X2_blockOf 44 = some (.getfield 46, 3, 2, 2, .null) := by decide +kernel
theorem fe_X2_blockOf_47 : mj_f mi_X2_blockOf 47 = some (.areturn, 1, 0, 0, .null) := by decide +kernel
def ct_X2_append : MJT := [
  (0, 0, .aload_n 0, 1, 0, 0, .null),
  (1, 373, .getfield 28, 3, 2, 6, .int 0),
  (4, 0, .sipush 160, 3, 0, 0, .int (160)),
  (7, 0, .if_icmp .lt 5, 3, 12, 0, .null),
  (10, 0, .iconst (-1), 1, 0, 0, .int (-1)),
  (11, 0, .ireturn, 1, 0, 0, .null),
  (12, 0, .aload_n 0, 1, 0, 0, .null),
  (13, 373, .getfield 28, 3, 2, 6, .int 0),
  (16, 0, .bipush 32, 2, 0, 0, .int (32)),
  (18, 0, .idiv, 1, 0, 0, .null),
  (19, 0, .istore 4, 2, 4, 0, .null),
  (21, 0, .aload_n 0, 1, 0, 0, .null),
  (22, 373, .getfield 28, 3, 2, 6, .int 0),
  (25, 0, .bipush 32, 2, 0, 0, .int (32)),
  (27, 0, .irem, 1, 0, 0, .null),
  (28, 0, .ifCond .ne 13, 3, 41, 0, .null),
  (31, 0, .aload_n 0, 1, 0, 0, .null),
  (32, 370, .getfield 12, 3, 2, 3, .null),
  (35, 467, .invokevirtual 63, 3, 4, 0, .null),
  (38, 0, .goto 23, 3, 61, 0, .null),
  (41, 0, .aload_n 0, 1, 0, 0, .null),
  (42, 372, .getfield 24, 3, 2, 5, .int 1),
  (45, 0, .ifCond .ne 16, 3, 61, 0, .null),
  (48, 0, .aload_n 0, 1, 0, 0, .null),
  (49, 370, .getfield 12, 3, 2, 3, .null),
  (52, 0, .aload_n 0, 1, 0, 0, .null),
  (53, 0, .iload 4, 2, 4, 0, .null),
  (55, 471, .invokevirtual 88, 3, 33, 1, .null),
  (58, 658, .invokevirtual 92, 3, 8, 1, .null),
  (61, 0, .aload_n 0, 1, 0, 0, .null),
  (62, 0, .iconst 1, 1, 0, 0, .int (1)),
  (63, 372, .putfield 24, 3, 2, 5, .int 1),
  (66, 0, .aload_n 0, 1, 0, 0, .null),
  (67, 370, .getfield 12, 3, 2, 3, .null),
  (70, 0, .iload_n 1, 1, 1, 0, .null),
  (71, 0, .lload_n 2, 1, 2, 0, .null),
  (72, 668, .invokevirtual 95, 3, 5, 2, .null),
  (75, 0, .aload_n 0, 1, 0, 0, .null),
  (76, 0, .dup, 1, 0, 0, .null),
  (77, 373, .getfield 28, 3, 2, 6, .int 0),
  (80, 0, .iconst 1, 1, 0, 0, .int (1)),
  (81, 0, .iadd, 1, 0, 0, .null),
  (82, 373, .putfield 28, 3, 2, 6, .int 0),
  (85, 0, .aload_n 0, 1, 0, 0, .null),
  (86, 370, .getfield 12, 3, 2, 3, .null),
  (89, 669, .invokevirtual 99, 3, 1, 0, .null),
  (92, 0, .bipush 32, 2, 0, 0, .int (32)),
  (94, 0, .if_icmp .ne 33, 3, 127, 0, .null),
  (97, 0, .aload_n 0, 1, 0, 0, .null),
  (98, 367, .getfield 38, 3, 2, 0, .null),
  (101, 0, .aload_n 0, 1, 0, 0, .null),
  (102, 0, .iload 4, 2, 4, 0, .null),
  (104, 483, .invokevirtual 70, 3, 30, 1, .null),
  (107, 0, .aload_n 0, 1, 0, 0, .null),
  (108, 370, .getfield 12, 3, 2, 3, .null),
  (111, 0, .aload_n 0, 1, 0, 0, .null),
  (112, 374, .getfield 32, 3, 2, 7, .int 0),
  (115, 0, .aload_n 0, 1, 0, 0, .null),
  (116, 375, .getfield 35, 3, 2, 8, .int 0),
  (119, 670, .invokevirtual 102, 3, 52, 4, .null),
  (122, 0, .aload_n 0, 1, 0, 0, .null),
  (123, 0, .iconst 0, 1, 0, 0, .int (0)),
  (124, 372, .putfield 24, 3, 2, 5, .int 1),
  (127, 0, .aload_n 0, 1, 0, 0, .null),
  (128, 373, .getfield 28, 3, 2, 6, .int 0),
  (131, 0, .iconst 1, 1, 0, 0, .int (1)),
  (132, 0, .isub, 1, 0, 0, .null),
  (133, 0, .ireturn, 1, 0, 0, .null)]
abbrev id_X2_append : Nat := 34
def mi_X2_append : MI := (yX2_append, cX2_append, 5, (some .int), 2, ct_X2_append)
theorem fe_X2_append_0 : mj_f mi_X2_append 0 = some (.aload_n 0, 1, 0, 0, .null) := by decide +kernel
theorem fe_X2_append_1 : mj_f mi_X2_append 1 = some (.getfield 28, 3, 2, 6, .int 0) := by decide +kernel
theorem fe_X2_append_4 : mj_f mi_X2_append 4 = some (.sipush 160, 3, 0, 0, .int (160)) := by decide +kernel
theorem fe_X2_append_7 : mj_f mi_X2_append 7 = some (.if_icmp .lt 5, 3, 12, 0, .null) := by decide +kernel
theorem fe_X2_append_10 : mj_f mi_X2_append 10 = some (.iconst (-1), 1, 0, 0, .int (-1)) := by decide +kernel
theorem fe_X2_append_11 : mj_f mi_X2_append 11 = some (.ireturn, 1, 0, 0, .null) := by decide +kernel
theorem fe_X2_append_12 : mj_f mi_X2_append 12 = some (.aload_n 0, 1, 0, 0, .null) := by decide +kernel
theorem fe_X2_append_13 : mj_f mi_X2_append 13 = some (.getfield 28, 3, 2, 6, .int 0) := by decide +kernel
theorem fe_X2_append_16 : mj_f mi_X2_append 16 = some (.bipush 32, 2, 0, 0, .int (32)) := by decide +kernel
theorem fe_X2_append_18 : mj_f mi_X2_append 18 = some (.idiv, 1, 0, 0, .null) := by decide +kernel
theorem fe_X2_append_19 : mj_f mi_X2_append 19 = some (.istore 4, 2, 4, 0, .null) := by decide +kernel
theorem fe_X2_append_21 : mj_f mi_X2_append 21 = some (.aload_n 0, 1, 0, 0, .null) := by decide +kernel
theorem fe_X2_append_22 : mj_f mi_X2_append 22 = some (.getfield 28, 3, 2, 6, .int 0) := by decide +kernel
theorem fe_X2_append_25 : mj_f mi_X2_append 25 = some (.bipush 32, 2, 0, 0, .int (32)) := by decide +kernel
theorem fe_X2_append_27 : mj_f mi_X2_append 27 = some (.irem, 1, 0, 0, .null) := by decide +kernel
theorem fe_X2_append_28 : mj_f mi_X2_append 28 = some (.ifCond .ne 13, 3, 41, 0, .null) := by decide +kernel
theorem fe_X2_append_31 : mj_f mi_X2_append 31 = some (.aload_n 0, 1, 0, 0, .null) := by decide +kernel
theorem fe_X2_append_32 : mj_f mi_X2_append 32 = some (.getfield 12, 3, 2, 3, .null) := by decide +kernel
theorem fe_X2_append_35 : mj_f mi_X2_append 35 = some (.invokevirtual 63, 3, 4, 0, .null) := by decide +kernel
theorem fe_X2_append_38 : mj_f mi_X2_append 38 = some (.goto 23, 3, 61, 0, .null) := by decide +kernel
theorem fe_X2_append_41 : mj_f mi_X2_append 41 = some (.aload_n 0, 1, 0, 0, .null) := by decide +kernel
theorem fe_X2_append_42 : mj_f mi_X2_append 42 = some (.getfield 24, 3, 2, 5, .int 1) := by decide +kernel
theorem fe_X2_append_45 : mj_f mi_X2_append 45 = some (.ifCond .ne 16, 3, 61, 0, .null) := by decide +kernel
theorem fe_X2_append_48 : mj_f mi_X2_append 48 = some (.aload_n 0, 1, 0, 0, .null) := by decide +kernel
theorem fe_X2_append_49 : mj_f mi_X2_append 49 = some (.getfield 12, 3, 2, 3, .null) := by decide +kernel
theorem fe_X2_append_52 : mj_f mi_X2_append 52 = some (.aload_n 0, 1, 0, 0, .null) := by decide +kernel
theorem fe_X2_append_53 : mj_f mi_X2_append 53 = some (.iload 4, 2, 4, 0, .null) := by decide +kernel
theorem fe_X2_append_55 : mj_f mi_X2_append 55 = some (.invokevirtual 88, 3, 33, 1, .null) := by decide +kernel
theorem fe_X2_append_58 : mj_f mi_X2_append 58 = some (.invokevirtual 92, 3, 8, 1, .null) := by decide +kernel
theorem fe_X2_append_61 : mj_f mi_X2_append 61 = some (.aload_n 0, 1, 0, 0, .null) := by decide +kernel
theorem fe_X2_append_62 : mj_f mi_X2_append 62 = some (.iconst 1, 1, 0, 0, .int (1)) := by decide +kernel
theorem fe_X2_append_63 : mj_f mi_X2_append 63 = some (.putfield 24, 3, 2, 5, .int 1) := by decide +kernel
theorem fe_X2_append_66 : mj_f mi_X2_append 66 = some (.aload_n 0, 1, 0, 0, .null) := by decide +kernel
theorem fe_X2_append_67 : mj_f mi_X2_append 67 = some (.getfield 12, 3, 2, 3, .null) := by decide +kernel
theorem fe_X2_append_70 : mj_f mi_X2_append 70 = some (.iload_n 1, 1, 1, 0, .null) := by decide +kernel
theorem fe_X2_append_71 : mj_f mi_X2_append 71 = some (.lload_n 2, 1, 2, 0, .null) := by decide +kernel
theorem fe_X2_append_72 : mj_f mi_X2_append 72 = some (.invokevirtual 95, 3, 5, 2, .null) := by decide +kernel
theorem fe_X2_append_75 : mj_f mi_X2_append 75 = some (.aload_n 0, 1, 0, 0, .null) := by decide +kernel
theorem fe_X2_append_76 : mj_f mi_X2_append 76 = some (.dup, 1, 0, 0, .null) := by decide +kernel
theorem fe_X2_append_77 : mj_f mi_X2_append 77 = some (.getfield 28, 3, 2, 6, .int 0) := by decide +kernel
theorem fe_X2_append_80 : mj_f mi_X2_append 80 = some (.iconst 1, 1, 0, 0, .int (1)) := by decide +kernel
theorem fe_X2_append_81 : mj_f mi_X2_append 81 = some (.iadd, 1, 0, 0, .null) := by decide +kernel
theorem fe_X2_append_82 : mj_f mi_X2_append 82 = some (.putfield 28, 3, 2, 6, .int 0) := by decide +kernel
theorem fe_X2_append_85 : mj_f mi_X2_append 85 = some (.aload_n 0, 1, 0, 0, .null) := by decide +kernel
theorem fe_X2_append_86 : mj_f mi_X2_append 86 = some (.getfield 12, 3, 2, 3, .null) := by decide +kernel
theorem fe_X2_append_89 : mj_f mi_X2_append 89 = some (.invokevirtual 99, 3, 1, 0, .null) := by decide +kernel
theorem fe_X2_append_92 : mj_f mi_X2_append 92 = some (.bipush 32, 2, 0, 0, .int (32)) := by decide +kernel
theorem fe_X2_append_94 : mj_f mi_X2_append 94 = some (.if_icmp .ne 33, 3, 127, 0, .null) := by decide +kernel
theorem fe_X2_append_97 : mj_f mi_X2_append 97 = some (.aload_n 0, 1, 0, 0, .null) := by decide +kernel
theorem fe_X2_append_98 : mj_f mi_X2_append 98 = some (.getfield 38, 3, 2, 0, .null) := by decide +kernel
theorem fe_X2_append_101 : mj_f mi_X2_append 101 = some (.aload_n 0, 1, 0, 0, .null) := by decide +kernel
theorem fe_X2_append_102 : mj_f mi_X2_append 102 = some (.iload 4, 2, 4, 0, .null) := by decide +kernel
theorem fe_X2_append_104 : mj_f mi_X2_append 104 = some (.invokevirtual 70, 3, 30, 1, .null) := by decide +kernel
theorem fe_X2_append_107 : mj_f mi_X2_append 107 = some (.aload_n 0, 1, 0, 0, .null) := by decide +kernel
theorem fe_X2_append_108 : mj_f mi_X2_append 108 = some (.getfield 12, 3, 2, 3, .null) := by decide +kernel
theorem fe_X2_append_111 : mj_f mi_X2_append 111 = some (.aload_n 0, 1, 0, 0, .null) := by decide +kernel
theorem fe_X2_append_112 : mj_f mi_X2_append 112 = some (.getfield 32, 3, 2, 7, .int 0) := by decide +kernel
theorem fe_X2_append_115 : mj_f mi_X2_append 115 = some (.aload_n 0, 1, 0, 0, .null) := by decide +kernel
theorem fe_X2_append_116 : mj_f mi_X2_append 116 = some (.getfield 35, 3, 2, 8, .int 0) := by decide +kernel
theorem fe_X2_append_119 : mj_f mi_X2_append 119 = some (.invokevirtual 102, 3, 52, 4, .null) := by decide +kernel
theorem fe_X2_append_122 : mj_f mi_X2_append 122 = some (.aload_n 0, 1, 0, 0, .null) := by decide +kernel
theorem fe_X2_append_123 : mj_f mi_X2_append 123 = some (.iconst 0, 1, 0, 0, .int (0)) := by decide +kernel
theorem fe_X2_append_124 : mj_f mi_X2_append 124 = some (.putfield 24, 3, 2, 5, .int 1) := by decide +kernel
theorem fe_X2_append_127 : mj_f mi_X2_append 127 = some (.aload_n 0, 1, 0, 0, .null) := by decide +kernel
theorem fe_X2_append_128 : mj_f mi_X2_append 128 = some (.getfield 28, 3, 2, 6, .int 0) := by decide +kernel
theorem fe_X2_append_131 : mj_f mi_X2_append 131 = some (.iconst 1, 1, 0, 0, .int (1)) := by decide +kernel
theorem fe_X2_append_132 : mj_f mi_X2_append 132 = some (.isub, 1, 0, 0, .null) := by decide +kernel
theorem fe_X2_append_133 : mj_f mi_X2_append 133 = some (.ireturn, 1, 0, 0, .null) := by decide +kernel
def ct_X2_change : MJT := [
  (0, 0, .iload_n 1, 1, 1, 0, .null),
  (1, 0, .bipush 32, 2, 0, 0, .int (32)),
  (3, 0, .idiv, 1, 0, 0, .null),
  (4, 0, .istore 4, 2, 4, 0, .null),
  (6, 0, .iload_n 1, 1, 1, 0, .null),
  (7, 0, .bipush 32, 2, 0, 0, .int (32)),
  (9, 0, .irem, 1, 0, 0, .null),
  (10, 0, .istore 5, 2, 5, 0, .null),
  (12, 0, .aload_n 0, 1, 0, 0, .null),
  (13, 0, .iload 4, 2, 4, 0, .null),
  (15, 471, .invokevirtual 88, 3, 33, 1, .null),
  (18, 0, .astore 6, 2, 6, 0, .null),
  (20, 0, .aload 6, 2, 6, 0, .null),
  (22, 0, .iload 5, 2, 5, 0, .null),
  (24, 0, .lload_n 2, 1, 2, 0, .null),
  (25, 979, .invokevirtual 108, 3, 6, 2, .null),
  (28, 0, .aload_n 0, 1, 0, 0, .null),
  (29, 0, .iload 4, 2, 4, 0, .null),
  (31, 475, .invokevirtual 66, 3, 28, 1, .null),
  (34, 0, .ifCond .eq 5, 3, 39, 0, .null),
  (37, 0, .iconst 0, 1, 0, 0, .int (0)),
  (38, 0, .ireturn, 1, 0, 0, .null),
  (39, 0, .aload_n 0, 1, 0, 0, .null),
  (40, 0, .iload 4, 2, 4, 0, .null),
  (42, 483, .invokevirtual 70, 3, 30, 1, .null),
  (45, 0, .astore 7, 2, 7, 0, .null),
  (47, 0, .aload 7, 2, 7, 0, .null),
  (49, 0, .iload 5, 2, 5, 0, .null),
  (51, 0, .lload_n 2, 1, 2, 0, .null),
  (52, 980, .invokevirtual 112, 3, 79, 2, .null),
  (55, 0, .ifCond .eq 13, 3, 68, 0, .null),
  (58, 0, .aload 7, 2, 7, 0, .null),
  (60, 0, .aload 6, 2, 6, 0, .null),
  (62, 985, .invokevirtual 116, 3, 78, 1, .null),
  (65, 0, .goto 22, 3, 87, 0, .null),
  (68, 0, .aload_n 0, 1, 0, 0, .null),
  (69, 367, .getfield 38, 3, 2, 0, .null),
  (72, 0, .aload 7, 2, 7, 0, .null),
  (74, 0, .aload 6, 2, 6, 0, .null),
  (76, 0, .aload_n 0, 1, 0, 0, .null),
  (77, 374, .getfield 32, 3, 2, 7, .int 0),
  (80, 0, .aload_n 0, 1, 0, 0, .null),
  (81, 375, .getfield 35, 3, 2, 8, .int 0),
  (84, 670, .invokevirtual 102, 3, 52, 4, .null),
  (87, 0, .aload 7, 2, 7, 0, .null),
  (89, 986, .invokevirtual 119, 3, 71, 0, .null),
  (92, 0, .ireturn, 1, 0, 0, .null)]
abbrev id_X2_change : Nat := 35
def mi_X2_change : MI := (yX2_change, cX2_change, 8, (some .int), 2, ct_X2_change)
theorem fe_X2_change_0 : mj_f mi_X2_change 0 = some (.iload_n 1, 1, 1, 0, .null) := by decide +kernel
theorem fe_X2_change_1 : mj_f mi_X2_change 1 = some (.bipush 32, 2, 0, 0, .int (32)) := by decide +kernel
theorem fe_X2_change_3 : mj_f mi_X2_change 3 = some (.idiv, 1, 0, 0, .null) := by decide +kernel
theorem fe_X2_change_4 : mj_f mi_X2_change 4 = some (.istore 4, 2, 4, 0, .null) := by decide +kernel
theorem fe_X2_change_6 : mj_f mi_X2_change 6 = some (.iload_n 1, 1, 1, 0, .null) := by decide +kernel
theorem fe_X2_change_7 : mj_f mi_X2_change 7 = some (.bipush 32, 2, 0, 0, .int (32)) := by decide +kernel
theorem fe_X2_change_9 : mj_f mi_X2_change 9 = some (.irem, 1, 0, 0, .null) := by decide +kernel
theorem fe_X2_change_10 : mj_f mi_X2_change 10 = some (.istore 5, 2, 5, 0, .null) := by decide +kernel
theorem fe_X2_change_12 : mj_f mi_X2_change 12 = some (.aload_n 0, 1, 0, 0, .null) := by decide +kernel
theorem fe_X2_change_13 : mj_f mi_X2_change 13 = some (.iload 4, 2, 4, 0, .null) := by decide +kernel
theorem fe_X2_change_15 : mj_f mi_X2_change 15 = some (.invokevirtual 88, 3, 33, 1, .null) := by decide +kernel
theorem fe_X2_change_18 : mj_f mi_X2_change 18 = some (.astore 6, 2, 6, 0, .null) := by decide +kernel
theorem fe_X2_change_20 : mj_f mi_X2_change 20 = some (.aload 6, 2, 6, 0, .null) := by decide +kernel
theorem fe_X2_change_22 : mj_f mi_X2_change 22 = some (.iload 5, 2, 5, 0, .null) := by decide +kernel
theorem fe_X2_change_24 : mj_f mi_X2_change 24 = some (.lload_n 2, 1, 2, 0, .null) := by decide +kernel
theorem fe_X2_change_25 : mj_f mi_X2_change 25 = some (.invokevirtual 108, 3, 6, 2, .null) := by decide +kernel
theorem fe_X2_change_28 : mj_f mi_X2_change 28 = some (.aload_n 0, 1, 0, 0, .null) := by decide +kernel
theorem fe_X2_change_29 : mj_f mi_X2_change 29 = some (.iload 4, 2, 4, 0, .null) := by decide +kernel
theorem fe_X2_change_31 : mj_f mi_X2_change 31 = some (.invokevirtual 66, 3, 28, 1, .null) := by decide +kernel
theorem fe_X2_change_34 : mj_f mi_X2_change 34 = some (.ifCond .eq 5, 3, 39, 0, .null) := by decide +kernel
theorem fe_X2_change_37 : mj_f mi_X2_change 37 = some (.iconst 0, 1, 0, 0, .int (0)) := by decide +kernel
theorem fe_X2_change_38 : mj_f mi_X2_change 38 = some (.ireturn, 1, 0, 0, .null) := by decide +kernel
theorem fe_X2_change_39 : mj_f mi_X2_change 39 = some (.aload_n 0, 1, 0, 0, .null) := by decide +kernel
theorem fe_X2_change_40 : mj_f mi_X2_change 40 = some (.iload 4, 2, 4, 0, .null) := by decide +kernel
theorem fe_X2_change_42 : mj_f mi_X2_change 42 = some (.invokevirtual 70, 3, 30, 1, .null) := by decide +kernel
theorem fe_X2_change_45 : mj_f mi_X2_change 45 = some (.astore 7, 2, 7, 0, .null) := by decide +kernel
theorem fe_X2_change_47 : mj_f mi_X2_change 47 = some (.aload 7, 2, 7, 0, .null) := by decide +kernel
theorem fe_X2_change_49 : mj_f mi_X2_change 49 = some (.iload 5, 2, 5, 0, .null) := by decide +kernel
theorem fe_X2_change_51 : mj_f mi_X2_change 51 = some (.lload_n 2, 1, 2, 0, .null) := by decide +kernel
theorem fe_X2_change_52 : mj_f mi_X2_change 52 = some (.invokevirtual 112, 3, 79, 2, .null) := by decide +kernel
theorem fe_X2_change_55 : mj_f mi_X2_change 55 = some (.ifCond .eq 13, 3, 68, 0, .null) := by decide +kernel
theorem fe_X2_change_58 : mj_f mi_X2_change 58 = some (.aload 7, 2, 7, 0, .null) := by decide +kernel
theorem fe_X2_change_60 : mj_f mi_X2_change 60 = some (.aload 6, 2, 6, 0, .null) := by decide +kernel
theorem fe_X2_change_62 : mj_f mi_X2_change 62 = some (.invokevirtual 116, 3, 78, 1, .null) := by decide +kernel
theorem fe_X2_change_65 : mj_f mi_X2_change 65 = some (.goto 22, 3, 87, 0, .null) := by decide +kernel
theorem fe_X2_change_68 : mj_f mi_X2_change 68 = some (.aload_n 0, 1, 0, 0, .null) := by decide +kernel
theorem fe_X2_change_69 : mj_f mi_X2_change 69 = some (.getfield 38, 3, 2, 0, .null) := by decide +kernel
theorem fe_X2_change_72 : mj_f mi_X2_change 72 = some (.aload 7, 2, 7, 0, .null) := by decide +kernel
theorem fe_X2_change_74 : mj_f mi_X2_change 74 = some (.aload 6, 2, 6, 0, .null) := by decide +kernel
theorem fe_X2_change_76 : mj_f mi_X2_change 76 = some (.aload_n 0, 1, 0, 0, .null) := by decide +kernel
theorem fe_X2_change_77 : mj_f mi_X2_change 77 = some (.getfield 32, 3, 2, 7, .int 0) := by decide +kernel
theorem fe_X2_change_80 : mj_f mi_X2_change 80 = some (.aload_n 0, 1, 0, 0, .null) := by decide +kernel
theorem fe_X2_change_81 : mj_f mi_X2_change 81 = some (.getfield 35, 3, 2, 8, .int 0) := by decide +kernel
theorem fe_X2_change_84 : mj_f mi_X2_change 84 = some (.invokevirtual 102, 3, 52, 4, .null) := by decide +kernel
theorem fe_X2_change_87 : mj_f mi_X2_change 87 = some (.aload 7, 2, 7, 0, .null) := by decide +kernel
theorem fe_X2_change_89 : mj_f mi_X2_change 89 = some (.invokevirtual 119, 3, 71, 0, .null) := by decide +kernel
theorem fe_X2_change_92 : mj_f mi_X2_change 92 = some (.ireturn, 1, 0, 0, .null) := by decide +kernel
def ct_X2_packAll : MJT := [
  (0, 0, .iconst 0, 1, 0, 0, .int (0)),
  (1, 0, .istore_n 1, 1, 1, 0, .null),
  (2, 0, .iload_n 1, 1, 1, 0, .null),
  (3, 0, .aload_n 0, 1, 0, 0, .null),
  (4, 479, .invokevirtual 50, 3, 26, 0, .null),
  (7, 0, .if_icmp .ge 34, 3, 41, 0, .null),
  (10, 0, .aload_n 0, 1, 0, 0, .null),
  (11, 367, .getfield 38, 3, 2, 0, .null),
  (14, 0, .aload_n 0, 1, 0, 0, .null),
  (15, 0, .iload_n 1, 1, 1, 0, .null),
  (16, 483, .invokevirtual 70, 3, 30, 1, .null),
  (19, 0, .aload_n 0, 1, 0, 0, .null),
  (20, 0, .iload_n 1, 1, 1, 0, .null),
  (21, 471, .invokevirtual 88, 3, 33, 1, .null),
  (24, 0, .aload_n 0, 1, 0, 0, .null),
  (25, 374, .getfield 32, 3, 2, 7, .int 0),
  (28, 0, .aload_n 0, 1, 0, 0, .null),
  (29, 375, .getfield 35, 3, 2, 8, .int 0),
  (32, 670, .invokevirtual 102, 3, 52, 4, .null),
  (35, 0, .iinc 1 1, 3, 1, 0, .int (1)),
  (38, 0, .goto (-36), 3, 2, 0, .null),
  (41, 0, .aload_n 0, 1, 0, 0, .null),
  (42, 0, .iconst 0, 1, 0, 0, .int (0)),
  (43, 372, .putfield 24, 3, 2, 5, .int 1),
  (46, 0, .return_, 1, 0, 0, .null)]
abbrev id_X2_packAll : Nat := 36
def mi_X2_packAll : MI := (yX2_packAll, cX2_packAll, 2, none, 2, ct_X2_packAll)
theorem fe_X2_packAll_0 : mj_f mi_X2_packAll 0 = some (.iconst 0, 1, 0, 0, .int (0)) := by decide +kernel
theorem fe_X2_packAll_1 : mj_f mi_X2_packAll 1 = some (.istore_n 1, 1, 1, 0, .null) := by decide +kernel
theorem fe_X2_packAll_2 : mj_f mi_X2_packAll 2 = some (.iload_n 1, 1, 1, 0, .null) := by decide +kernel
theorem fe_X2_packAll_3 : mj_f mi_X2_packAll 3 = some (.aload_n 0, 1, 0, 0, .null) := by decide +kernel
theorem fe_X2_packAll_4 : mj_f mi_X2_packAll 4 = some (.invokevirtual 50, 3, 26, 0, .null) := by decide +kernel
theorem fe_X2_packAll_7 : mj_f mi_X2_packAll 7 = some (.if_icmp .ge 34, 3, 41, 0, .null) := by decide +kernel
theorem fe_X2_packAll_10 : mj_f mi_X2_packAll 10 = some (.aload_n 0, 1, 0, 0, .null) := by decide +kernel
theorem fe_X2_packAll_11 : mj_f mi_X2_packAll 11 = some (.getfield 38, 3, 2, 0, .null) := by decide +kernel
theorem fe_X2_packAll_14 : mj_f mi_X2_packAll 14 = some (.aload_n 0, 1, 0, 0, .null) := by decide +kernel
theorem fe_X2_packAll_15 : mj_f mi_X2_packAll 15 = some (.iload_n 1, 1, 1, 0, .null) := by decide +kernel
theorem fe_X2_packAll_16 : mj_f mi_X2_packAll 16 = some (.invokevirtual 70, 3, 30, 1, .null) := by decide +kernel
theorem fe_X2_packAll_19 : mj_f mi_X2_packAll 19 = some (.aload_n 0, 1, 0, 0, .null) := by decide +kernel
theorem fe_X2_packAll_20 : mj_f mi_X2_packAll 20 = some (.iload_n 1, 1, 1, 0, .null) := by decide +kernel
theorem fe_X2_packAll_21 : mj_f mi_X2_packAll 21 = some (.invokevirtual 88, 3, 33, 1, .null) := by decide +kernel
theorem fe_X2_packAll_24 : mj_f mi_X2_packAll 24 = some (.aload_n 0, 1, 0, 0, .null) := by decide +kernel
theorem fe_X2_packAll_25 : mj_f mi_X2_packAll 25 = some (.getfield 32, 3, 2, 7, .int 0) := by decide +kernel
theorem fe_X2_packAll_28 : mj_f mi_X2_packAll 28 = some (.aload_n 0, 1, 0, 0, .null) := by decide +kernel
theorem fe_X2_packAll_29 : mj_f mi_X2_packAll 29 = some (.getfield 35, 3, 2, 8, .int 0) := by decide +kernel
theorem fe_X2_packAll_32 : mj_f mi_X2_packAll 32 = some (.invokevirtual 102, 3, 52, 4, .null) := by decide +kernel
theorem fe_X2_packAll_35 : mj_f mi_X2_packAll 35 = some (.iinc 1 1, 3, 1, 0, .int (1)) := by decide +kernel
theorem fe_X2_packAll_38 : mj_f mi_X2_packAll 38 = some (.goto (-36), 3, 2, 0, .null) := by decide +kernel
theorem fe_X2_packAll_41 : mj_f mi_X2_packAll 41 = some (.aload_n 0, 1, 0, 0, .null) := by decide +kernel
theorem fe_X2_packAll_42 : mj_f mi_X2_packAll 42 = some (.iconst 0, 1, 0, 0, .int (0)) := by decide +kernel
theorem fe_X2_packAll_43 : mj_f mi_X2_packAll 43 = some (.putfield 24, 3, 2, 5, .int 1) := by decide +kernel
theorem fe_X2_packAll_46 : mj_f mi_X2_packAll 46 = some (.return_, 1, 0, 0, .null) := by decide +kernel
def ct_X2_keep : MJT := [
  (0, 0, .aload_n 0, 1, 0, 0, .null),
  (1, 0, .aload_n 0, 1, 0, 0, .null),
  (2, 373, .getfield 28, 3, 2, 6, .int 0),
  (5, 0, .bipush 32, 2, 0, 0, .int (32)),
  (7, 0, .idiv, 1, 0, 0, .null),
  (8, 483, .invokevirtual 70, 3, 30, 1, .null),
  (11, 0, .astore 5, 2, 5, 0, .null),
  (13, 0, .aload 5, 2, 5, 0, .null),
  (15, 493, .invokevirtual 74, 3, 68, 0, .null),
  (18, 0, .aload_n 1, 1, 1, 0, .null),
  (19, 1200, .invokevirtual 122, 3, 22, 1, .null),
  (22, 0, .aload 5, 2, 5, 0, .null),
  (24, 0, .aload_n 2, 1, 2, 0, .null),
  (25, 0, .iload_n 3, 1, 3, 0, .null),
  (26, 0, .iload 4, 2, 4, 0, .null),
  (28, 1201, .invokevirtual 127, 3, 77, 3, .null),
  (31, 0, .aload_n 0, 1, 0, 0, .null),
  (32, 0, .dup, 1, 0, 0, .null),
  (33, 373, .getfield 28, 3, 2, 6, .int 0),
  (36, 0, .aload_n 2, 1, 2, 0, .null),
  (37, 669, .invokevirtual 99, 3, 1, 0, .null),
  (40, 0, .iadd, 1, 0, 0, .null),
  (41, 373, .putfield 28, 3, 2, 6, .int 0),
  (44, 0, .aload_n 0, 1, 0, 0, .null),
  (45, 0, .iconst 0, 1, 0, 0, .int (0)),
  (46, 372, .putfield 24, 3, 2, 5, .int 1),
  (49, 0, .return_, 1, 0, 0, .null)]
abbrev id_X2_keep : Nat := 37
def mi_X2_keep : MI := (yX2_keep, cX2_keep, 6, none, 2, ct_X2_keep)
theorem fe_X2_keep_0 : mj_f mi_X2_keep 0 = some (.aload_n 0, 1, 0, 0, .null) := by decide +kernel
theorem fe_X2_keep_1 : mj_f mi_X2_keep 1 = some (.aload_n 0, 1, 0, 0, .null) := by decide +kernel
theorem fe_X2_keep_2 : mj_f mi_X2_keep 2 = some (.getfield 28, 3, 2, 6, .int 0) := by decide +kernel
theorem fe_X2_keep_5 : mj_f mi_X2_keep 5 = some (.bipush 32, 2, 0, 0, .int (32)) := by decide +kernel
theorem fe_X2_keep_7 : mj_f mi_X2_keep 7 = some (.idiv, 1, 0, 0, .null) := by decide +kernel
theorem fe_X2_keep_8 : mj_f mi_X2_keep 8 = some (.invokevirtual 70, 3, 30, 1, .null) := by decide +kernel
theorem fe_X2_keep_11 : mj_f mi_X2_keep 11 = some (.astore 5, 2, 5, 0, .null) := by decide +kernel
theorem fe_X2_keep_13 : mj_f mi_X2_keep 13 = some (.aload 5, 2, 5, 0, .null) := by decide +kernel
theorem fe_X2_keep_15 : mj_f mi_X2_keep 15 = some (.invokevirtual 74, 3, 68, 0, .null) := by decide +kernel
theorem fe_X2_keep_18 : mj_f mi_X2_keep 18 = some (.aload_n 1, 1, 1, 0, .null) := by decide +kernel
theorem fe_X2_keep_19 : mj_f mi_X2_keep 19 = some (.invokevirtual 122, 3, 22, 1, .null) := by decide +kernel
theorem fe_X2_keep_22 : mj_f mi_X2_keep 22 = some (.aload 5, 2, 5, 0, .null) := by decide +kernel
theorem fe_X2_keep_24 : mj_f mi_X2_keep 24 = some (.aload_n 2, 1, 2, 0, .null) := by decide +kernel
theorem fe_X2_keep_25 : mj_f mi_X2_keep 25 = some (.iload_n 3, 1, 3, 0, .null) := by decide +kernel
theorem fe_X2_keep_26 : mj_f mi_X2_keep 26 = some (.iload 4, 2, 4, 0, .null) := by decide +kernel
theorem fe_X2_keep_28 : mj_f mi_X2_keep 28 = some (.invokevirtual 127, 3, 77, 3, .null) := by decide +kernel
theorem fe_X2_keep_31 : mj_f mi_X2_keep 31 = some (.aload_n 0, 1, 0, 0, .null) := by decide +kernel
theorem fe_X2_keep_32 : mj_f mi_X2_keep 32 = some (.dup, 1, 0, 0, .null) := by decide +kernel
theorem fe_X2_keep_33 : mj_f mi_X2_keep 33 = some (.getfield 28, 3, 2, 6, .int 0) := by decide +kernel
theorem fe_X2_keep_36 : mj_f mi_X2_keep 36 = some (.aload_n 2, 1, 2, 0, .null) := by decide +kernel
theorem fe_X2_keep_37 : mj_f mi_X2_keep 37 = some (.invokevirtual 99, 3, 1, 0, .null) := by decide +kernel
theorem fe_X2_keep_40 : mj_f mi_X2_keep 40 = some (.iadd, 1, 0, 0, .null) := by decide +kernel
theorem fe_X2_keep_41 : mj_f mi_X2_keep 41 = some (.putfield 28, 3, 2, 6, .int 0) := by decide +kernel
theorem fe_X2_keep_44 : mj_f mi_X2_keep 44 = some (.aload_n 0, 1, 0, 0, .null) := by decide +kernel
theorem fe_X2_keep_45 : mj_f mi_X2_keep 45 = some (.iconst 0, 1, 0, 0, .int (0)) := by decide +kernel
theorem fe_X2_keep_46 : mj_f mi_X2_keep 46 = some (.putfield 24, 3, 2, 5, .int 1) := by decide +kernel
theorem fe_X2_keep_49 : mj_f mi_X2_keep 49 = some (.return_, 1, 0, 0, .null) := by decide +kernel
def ct_X2_gapTotal : MJT := [
  (0, 0, .iconst 0, 1, 0, 0, .int (0)),
  (1, 0, .istore_n 1, 1, 1, 0, .null),
  (2, 0, .iconst 0, 1, 0, 0, .int (0)),
  (3, 0, .istore_n 2, 1, 2, 0, .null),
  (4, 0, .iload_n 2, 1, 2, 0, .null),
  (5, 0, .aload_n 0, 1, 0, 0, .null),
  (6, 479, .invokevirtual 50, 3, 26, 0, .null),
  (9, 0, .if_icmp .ge 46, 3, 55, 0, .null),
  (12, 0, .iload_n 1, 1, 1, 0, .null),
  (13, 0, .aload_n 0, 1, 0, 0, .null),
  (14, 0, .iload_n 2, 1, 2, 0, .null),
  (15, 475, .invokevirtual 66, 3, 28, 1, .null),
  (18, 0, .ifCond .eq 21, 3, 39, 0, .null),
  (21, 0, .aload_n 0, 1, 0, 0, .null),
  (22, 370, .getfield 12, 3, 2, 3, .null),
  (25, 669, .invokevirtual 99, 3, 1, 0, .null),
  (28, 0, .aload_n 0, 1, 0, 0, .null),
  (29, 370, .getfield 12, 3, 2, 3, .null),
  (32, 1024, .invokevirtual 131, 3, 7, 0, .null),
  (35, 0, .isub, 1, 0, 0, .null),
  (36, 0, .goto 11, 3, 47, 0, .null),
  (39, 0, .aload_n 0, 1, 0, 0, .null),
  (40, 0, .iload_n 2, 1, 2, 0, .null),
  (41, 483, .invokevirtual 70, 3, 30, 1, .null),
  (44, 1025, .invokevirtual 134, 3, 74, 0, .null),
  (47, 0, .iadd, 1, 0, 0, .null),
  (48, 0, .istore_n 1, 1, 1, 0, .null),
  (49, 0, .iinc 2 1, 3, 2, 0, .int (1)),
  (52, 0, .goto (-48), 3, 4, 0, .null),
  (55, 0, .iload_n 1, 1, 1, 0, .null),
  (56, 0, .ireturn, 1, 0, 0, .null)]
abbrev id_X2_gapTotal : Nat := 38
def mi_X2_gapTotal : MI := (yX2_gapTotal, cX2_gapTotal, 3, (some .int), 2, ct_X2_gapTotal)
theorem fe_X2_gapTotal_0 : mj_f mi_X2_gapTotal 0 = some (.iconst 0, 1, 0, 0, .int (0)) := by decide +kernel
theorem fe_X2_gapTotal_1 : mj_f mi_X2_gapTotal 1 = some (.istore_n 1, 1, 1, 0, .null) := by decide +kernel
theorem fe_X2_gapTotal_2 : mj_f mi_X2_gapTotal 2 = some (.iconst 0, 1, 0, 0, .int (0)) := by decide +kernel
theorem fe_X2_gapTotal_3 : mj_f mi_X2_gapTotal 3 = some (.istore_n 2, 1, 2, 0, .null) := by decide +kernel
theorem fe_X2_gapTotal_4 : mj_f mi_X2_gapTotal 4 = some (.iload_n 2, 1, 2, 0, .null) := by decide +kernel
theorem fe_X2_gapTotal_5 : mj_f mi_X2_gapTotal 5 = some (.aload_n 0, 1, 0, 0, .null) := by decide +kernel
theorem fe_X2_gapTotal_6 : mj_f mi_X2_gapTotal 6 = some (.invokevirtual 50, 3, 26, 0, .null) := by decide +kernel
theorem fe_X2_gapTotal_9 : mj_f mi_X2_gapTotal 9 = some (.if_icmp .ge 46, 3, 55, 0, .null) := by decide +kernel
theorem fe_X2_gapTotal_12 : mj_f mi_X2_gapTotal 12 = some (.iload_n 1, 1, 1, 0, .null) := by decide +kernel
theorem fe_X2_gapTotal_13 : mj_f mi_X2_gapTotal 13 = some (.aload_n 0, 1, 0, 0, .null) := by decide +kernel
theorem fe_X2_gapTotal_14 : mj_f mi_X2_gapTotal 14 = some (.iload_n 2, 1, 2, 0, .null) := by decide +kernel
theorem fe_X2_gapTotal_15 : mj_f mi_X2_gapTotal 15 = some (.invokevirtual 66, 3, 28, 1, .null) := by decide +kernel
theorem fe_X2_gapTotal_18 : mj_f mi_X2_gapTotal 18 = some (.ifCond .eq 21, 3, 39, 0, .null) := by decide +kernel
theorem fe_X2_gapTotal_21 : mj_f mi_X2_gapTotal 21 = some (.aload_n 0, 1, 0, 0, .null) := by decide +kernel
theorem fe_X2_gapTotal_22 : mj_f mi_X2_gapTotal 22 = some (.getfield 12, 3, 2, 3, .null) := by decide +kernel
theorem fe_X2_gapTotal_25 : mj_f mi_X2_gapTotal 25 = some (.invokevirtual 99, 3, 1, 0, .null) := by decide +kernel
theorem fe_X2_gapTotal_28 : mj_f mi_X2_gapTotal 28 = some (.aload_n 0, 1, 0, 0, .null) := by decide +kernel
theorem fe_X2_gapTotal_29 : mj_f mi_X2_gapTotal 29 = some (.getfield 12, 3, 2, 3, .null) := by decide +kernel
theorem fe_X2_gapTotal_32 : mj_f mi_X2_gapTotal 32 = some (.invokevirtual 131, 3, 7, 0, .null) := by decide +kernel
theorem fe_X2_gapTotal_35 : mj_f mi_X2_gapTotal 35 = some (.isub, 1, 0, 0, .null) := by decide +kernel
theorem fe_X2_gapTotal_36 : mj_f mi_X2_gapTotal 36 = some (.goto 11, 3, 47, 0, .null) := by decide +kernel
theorem fe_X2_gapTotal_39 : mj_f mi_X2_gapTotal 39 = some (.aload_n 0, 1, 0, 0, .null) := by decide +kernel
theorem fe_X2_gapTotal_40 : mj_f mi_X2_gapTotal 40 = some (.iload_n 2, 1, 2, 0, .null) := by decide +kernel
theorem fe_X2_gapTotal_41 : mj_f mi_X2_gapTotal 41 = some (.invokevirtual 70, 3, 30, 1, .null) := by decide +kernel
theorem fe_X2_gapTotal_44 : mj_f mi_X2_gapTotal 44 = some (.invokevirtual 134, 3, 74, 0, .null) := by decide +kernel
theorem fe_X2_gapTotal_47 : mj_f mi_X2_gapTotal 47 = some (.iadd, 1, 0, 0, .null) := by decide +kernel
theorem fe_X2_gapTotal_48 : mj_f mi_X2_gapTotal 48 = some (.istore_n 1, 1, 1, 0, .null) := by decide +kernel
theorem fe_X2_gapTotal_49 : mj_f mi_X2_gapTotal 49 = some (.iinc 2 1, 3, 2, 0, .int (1)) := by decide +kernel
theorem fe_X2_gapTotal_52 : mj_f mi_X2_gapTotal 52 = some (.goto (-48), 3, 4, 0, .null) := by decide +kernel
theorem fe_X2_gapTotal_55 : mj_f mi_X2_gapTotal 55 = some (.iload_n 1, 1, 1, 0, .null) := by decide +kernel
theorem fe_X2_gapTotal_56 : mj_f mi_X2_gapTotal 56 = some (.ireturn, 1, 0, 0, .null) := by decide +kernel
def ct_X2_byteTotal : MJT := [
  (0, 0, .iconst 0, 1, 0, 0, .int (0)),
  (1, 0, .istore_n 1, 1, 1, 0, .null),
  (2, 0, .iconst 0, 1, 0, 0, .int (0)),
  (3, 0, .istore_n 2, 1, 2, 0, .null),
  (4, 0, .iload_n 2, 1, 2, 0, .null),
  (5, 0, .aload_n 0, 1, 0, 0, .null),
  (6, 479, .invokevirtual 50, 3, 26, 0, .null),
  (9, 0, .if_icmp .ge 32, 3, 41, 0, .null),
  (12, 0, .iload_n 1, 1, 1, 0, .null),
  (13, 0, .aload_n 0, 1, 0, 0, .null),
  (14, 0, .iload_n 2, 1, 2, 0, .null),
  (15, 475, .invokevirtual 66, 3, 28, 1, .null),
  (18, 0, .ifCond .eq 7, 3, 25, 0, .null),
  (21, 0, .iconst 0, 1, 0, 0, .int (0)),
  (22, 0, .goto 11, 3, 33, 0, .null),
  (25, 0, .aload_n 0, 1, 0, 0, .null),
  (26, 0, .iload_n 2, 1, 2, 0, .null),
  (27, 483, .invokevirtual 70, 3, 30, 1, .null),
  (30, 1002, .invokevirtual 137, 3, 69, 0, .null),
  (33, 0, .iadd, 1, 0, 0, .null),
  (34, 0, .istore_n 1, 1, 1, 0, .null),
  (35, 0, .iinc 2 1, 3, 2, 0, .int (1)),
  (38, 0, .goto (-34), 3, 4, 0, .null),
  (41, 0, .iload_n 1, 1, 1, 0, .null),
  (42, 0, .ireturn, 1, 0, 0, .null)]
abbrev id_X2_byteTotal : Nat := 39
def mi_X2_byteTotal : MI := (yX2_byteTotal, cX2_byteTotal, 3, (some .int), 2, ct_X2_byteTotal)
theorem fe_X2_byteTotal_0 : mj_f mi_X2_byteTotal 0 = some (.iconst 0, 1, 0, 0, .int (0)) := by decide +kernel
theorem fe_X2_byteTotal_1 : mj_f mi_X2_byteTotal 1 = some (.istore_n 1, 1, 1, 0, .null) := by decide +kernel
theorem fe_X2_byteTotal_2 : mj_f mi_X2_byteTotal 2 = some (.iconst 0, 1, 0, 0, .int (0)) := by decide +kernel
theorem fe_X2_byteTotal_3 : mj_f mi_X2_byteTotal 3 = some (.istore_n 2, 1, 2, 0, .null) := by decide +kernel
theorem fe_X2_byteTotal_4 : mj_f mi_X2_byteTotal 4 = some (.iload_n 2, 1, 2, 0, .null) := by decide +kernel
theorem fe_X2_byteTotal_5 : mj_f mi_X2_byteTotal 5 = some (.aload_n 0, 1, 0, 0, .null) := by decide +kernel
theorem fe_X2_byteTotal_6 : mj_f mi_X2_byteTotal 6 = some (.invokevirtual 50, 3, 26, 0, .null) := by decide +kernel
theorem fe_X2_byteTotal_9 : mj_f mi_X2_byteTotal 9 = some (.if_icmp .ge 32, 3, 41, 0, .null) := by decide +kernel
theorem fe_X2_byteTotal_12 : mj_f mi_X2_byteTotal 12 = some (.iload_n 1, 1, 1, 0, .null) := by decide +kernel
theorem fe_X2_byteTotal_13 : mj_f mi_X2_byteTotal 13 = some (.aload_n 0, 1, 0, 0, .null) := by decide +kernel
theorem fe_X2_byteTotal_14 : mj_f mi_X2_byteTotal 14 = some (.iload_n 2, 1, 2, 0, .null) := by decide +kernel
theorem fe_X2_byteTotal_15 : mj_f mi_X2_byteTotal 15 = some (.invokevirtual 66, 3, 28, 1, .null) := by decide +kernel
theorem fe_X2_byteTotal_18 : mj_f mi_X2_byteTotal 18 = some (.ifCond .eq 7, 3, 25, 0, .null) := by decide +kernel
theorem fe_X2_byteTotal_21 : mj_f mi_X2_byteTotal 21 = some (.iconst 0, 1, 0, 0, .int (0)) := by decide +kernel
theorem fe_X2_byteTotal_22 : mj_f mi_X2_byteTotal 22 = some (.goto 11, 3, 33, 0, .null) := by decide +kernel
theorem fe_X2_byteTotal_25 : mj_f mi_X2_byteTotal 25 = some (.aload_n 0, 1, 0, 0, .null) := by decide +kernel
theorem fe_X2_byteTotal_26 : mj_f mi_X2_byteTotal 26 = some (.iload_n 2, 1, 2, 0, .null) := by decide +kernel
theorem fe_X2_byteTotal_27 : mj_f mi_X2_byteTotal 27 = some (.invokevirtual 70, 3, 30, 1, .null) := by decide +kernel
theorem fe_X2_byteTotal_30 : mj_f mi_X2_byteTotal 30 = some (.invokevirtual 137, 3, 69, 0, .null) := by decide +kernel
theorem fe_X2_byteTotal_33 : mj_f mi_X2_byteTotal 33 = some (.iadd, 1, 0, 0, .null) := by decide +kernel
theorem fe_X2_byteTotal_34 : mj_f mi_X2_byteTotal 34 = some (.istore_n 1, 1, 1, 0, .null) := by decide +kernel
theorem fe_X2_byteTotal_35 : mj_f mi_X2_byteTotal 35 = some (.iinc 2 1, 3, 2, 0, .int (1)) := by decide +kernel
theorem fe_X2_byteTotal_38 : mj_f mi_X2_byteTotal 38 = some (.goto (-34), 3, 4, 0, .null) := by decide +kernel
theorem fe_X2_byteTotal_41 : mj_f mi_X2_byteTotal 41 = some (.iload_n 1, 1, 1, 0, .null) := by decide +kernel
theorem fe_X2_byteTotal_42 : mj_f mi_X2_byteTotal 42 = some (.ireturn, 1, 0, 0, .null) := by decide +kernel
def ct_X2_survey : MJT := [
  (0, 0, .aload_n 0, 1, 0, 0, .null),
  (1, 367, .getfield 38, 3, 2, 0, .null),
  (4, 0, .aload_n 2, 1, 2, 0, .null),
  (5, 0, .aload_n 0, 1, 0, 0, .null),
  (6, 0, .iload_n 1, 1, 1, 0, .null),
  (7, 471, .invokevirtual 88, 3, 33, 1, .null),
  (10, 0, .aload_n 0, 1, 0, 0, .null),
  (11, 374, .getfield 32, 3, 2, 7, .int 0),
  (14, 1090, .invokevirtual 138, 3, 53, 3, .null),
  (17, 0, .return_, 1, 0, 0, .null)]
abbrev id_X2_survey : Nat := 40
def mi_X2_survey : MI := (yX2_survey, cX2_survey, 3, none, 2, ct_X2_survey)
theorem fe_X2_survey_0 : mj_f mi_X2_survey 0 = some (.aload_n 0, 1, 0, 0, .null) := by decide +kernel
theorem fe_X2_survey_1 : mj_f mi_X2_survey 1 = some (.getfield 38, 3, 2, 0, .null) := by decide +kernel
theorem fe_X2_survey_4 : mj_f mi_X2_survey 4 = some (.aload_n 2, 1, 2, 0, .null) := by decide +kernel
theorem fe_X2_survey_5 : mj_f mi_X2_survey 5 = some (.aload_n 0, 1, 0, 0, .null) := by decide +kernel
theorem fe_X2_survey_6 : mj_f mi_X2_survey 6 = some (.iload_n 1, 1, 1, 0, .null) := by decide +kernel
theorem fe_X2_survey_7 : mj_f mi_X2_survey 7 = some (.invokevirtual 88, 3, 33, 1, .null) := by decide +kernel
theorem fe_X2_survey_10 : mj_f mi_X2_survey 10 = some (.aload_n 0, 1, 0, 0, .null) := by decide +kernel
theorem fe_X2_survey_11 : mj_f mi_X2_survey 11 = some (.getfield 32, 3, 2, 7, .int 0) := by decide +kernel
theorem fe_X2_survey_14 : mj_f mi_X2_survey 14 = some (.invokevirtual 138, 3, 53, 3, .null) := by decide +kernel
theorem fe_X2_survey_17 : mj_f mi_X2_survey 17 = some (.return_, 1, 0, 0, .null) := by decide +kernel
def ct_X2_ask : MJT := [
  (0, 0, .aload 6, 2, 6, 0, .null),
  (2, 1112, .invokevirtual 142, 3, 135, 0, .null),
  (5, 0, .iconst 0, 1, 0, 0, .int (0)),
  (6, 0, .istore 7, 2, 7, 0, .null),
  (8, 0, .iload 7, 2, 7, 0, .null),
  (10, 0, .aload_n 0, 1, 0, 0, .null),
  (11, 479, .invokevirtual 50, 3, 26, 0, .null),
  (14, 0, .if_icmp .ge 97, 3, 111, 0, .null),
  (17, 0, .aload_n 0, 1, 0, 0, .null),
  (18, 0, .iload 7, 2, 7, 0, .null),
  (20, 483, .invokevirtual 70, 3, 30, 1, .null),
  (23, 0, .astore 8, 2, 8, 0, .null),
  (25, 0, .aload_n 0, 1, 0, 0, .null),
  (26, 0, .iload 7, 2, 7, 0, .null),
  (28, 475, .invokevirtual 66, 3, 28, 1, .null),
  (31, 0, .ifCond .eq 17, 3, 48, 0, .null),
  (34, 0, .aload_n 0, 1, 0, 0, .null),
  (35, 370, .getfield 12, 3, 2, 3, .null),
  (38, 0, .aload 6, 2, 6, 0, .null),
  (40, 0, .lload_n 1, 1, 1, 0, .null),
  (41, 0, .lload_n 3, 1, 3, 0, .null),
  (42, 1116, .invokevirtual 145, 3, 9, 3, .null),
  (45, 0, .goto 60, 3, 105, 0, .null),
  (48, 0, .iload 5, 2, 5, 0, .null),
  (50, 0, .ifCond .eq 27, 3, 77, 0, .null),
  (53, 0, .aload 8, 2, 8, 0, .null),
  (55, 0, .lload_n 1, 1, 1, 0, .null),
  (56, 0, .lload_n 3, 1, 3, 0, .null),
  (57, 1124, .invokevirtual 149, 3, 82, 2, .null),
  (60, 0, .ifCond .eq 17, 3, 77, 0, .null),
  (63, 0, .aload 6, 2, 6, 0, .null),
  (65, 0, .aload 8, 2, 8, 0, .null),
  (67, 1128, .invokevirtual 153, 3, 75, 0, .null),
  (70, 0, .lconst 0, 1, 0, 0, .long 0),
  (71, 1132, .invokevirtual 154, 3, 136, 2, .null),
  (74, 0, .goto 31, 3, 105, 0, .null),
  (77, 0, .aload 8, 2, 8, 0, .null),
  (79, 0, .lload_n 1, 1, 1, 0, .null),
  (80, 0, .lload_n 3, 1, 3, 0, .null),
  (81, 1133, .invokevirtual 156, 3, 81, 2, .null),
  (84, 0, .ifCond .ne 21, 3, 105, 0, .null),
  (87, 0, .aload_n 0, 1, 0, 0, .null),
  (88, 0, .iload 7, 2, 7, 0, .null),
  (90, 471, .invokevirtual 88, 3, 33, 1, .null),
  (93, 0, .aload 6, 2, 6, 0, .null),
  (95, 0, .lload_n 1, 1, 1, 0, .null),
  (96, 0, .lload_n 3, 1, 3, 0, .null),
  (97, 1116, .invokevirtual 145, 3, 9, 3, .null),
  (100, 0, .aload 6, 2, 6, 0, .null),
  (102, 1137, .invokevirtual 159, 3, 137, 0, .null),
  (105, 0, .iinc 7 1, 3, 7, 0, .int (1)),
  (108, 0, .goto (-100), 3, 8, 0, .null),
  (111, 0, .return_, 1, 0, 0, .null)]
abbrev id_X2_ask : Nat := 41
def mi_X2_ask : MI := (yX2_ask, cX2_ask, 9, none, 2, ct_X2_ask)
theorem fe_X2_ask_0 : mj_f mi_X2_ask 0 = some (.aload 6, 2, 6, 0, .null) := by decide +kernel
theorem fe_X2_ask_2 : mj_f mi_X2_ask 2 = some (.invokevirtual 142, 3, 135, 0, .null) := by decide +kernel
theorem fe_X2_ask_5 : mj_f mi_X2_ask 5 = some (.iconst 0, 1, 0, 0, .int (0)) := by decide +kernel
theorem fe_X2_ask_6 : mj_f mi_X2_ask 6 = some (.istore 7, 2, 7, 0, .null) := by decide +kernel
theorem fe_X2_ask_8 : mj_f mi_X2_ask 8 = some (.iload 7, 2, 7, 0, .null) := by decide +kernel
theorem fe_X2_ask_10 : mj_f mi_X2_ask 10 = some (.aload_n 0, 1, 0, 0, .null) := by decide +kernel
theorem fe_X2_ask_11 : mj_f mi_X2_ask 11 = some (.invokevirtual 50, 3, 26, 0, .null) := by decide +kernel
theorem fe_X2_ask_14 : mj_f mi_X2_ask 14 = some (.if_icmp .ge 97, 3, 111, 0, .null) := by decide +kernel
theorem fe_X2_ask_17 : mj_f mi_X2_ask 17 = some (.aload_n 0, 1, 0, 0, .null) := by decide +kernel
theorem fe_X2_ask_18 : mj_f mi_X2_ask 18 = some (.iload 7, 2, 7, 0, .null) := by decide +kernel
theorem fe_X2_ask_20 : mj_f mi_X2_ask 20 = some (.invokevirtual 70, 3, 30, 1, .null) := by decide +kernel
theorem fe_X2_ask_23 : mj_f mi_X2_ask 23 = some (.astore 8, 2, 8, 0, .null) := by decide +kernel
theorem fe_X2_ask_25 : mj_f mi_X2_ask 25 = some (.aload_n 0, 1, 0, 0, .null) := by decide +kernel
theorem fe_X2_ask_26 : mj_f mi_X2_ask 26 = some (.iload 7, 2, 7, 0, .null) := by decide +kernel
theorem fe_X2_ask_28 : mj_f mi_X2_ask 28 = some (.invokevirtual 66, 3, 28, 1, .null) := by decide +kernel
theorem fe_X2_ask_31 : mj_f mi_X2_ask 31 = some (.ifCond .eq 17, 3, 48, 0, .null) := by decide +kernel
theorem fe_X2_ask_34 : mj_f mi_X2_ask 34 = some (.aload_n 0, 1, 0, 0, .null) := by decide +kernel
theorem fe_X2_ask_35 : mj_f mi_X2_ask 35 = some (.getfield 12, 3, 2, 3, .null) := by decide +kernel
theorem fe_X2_ask_38 : mj_f mi_X2_ask 38 = some (.aload 6, 2, 6, 0, .null) := by decide +kernel
theorem fe_X2_ask_40 : mj_f mi_X2_ask 40 = some (.lload_n 1, 1, 1, 0, .null) := by decide +kernel
theorem fe_X2_ask_41 : mj_f mi_X2_ask 41 = some (.lload_n 3, 1, 3, 0, .null) := by decide +kernel
theorem fe_X2_ask_42 : mj_f mi_X2_ask 42 = some (.invokevirtual 145, 3, 9, 3, .null) := by decide +kernel
theorem fe_X2_ask_45 : mj_f mi_X2_ask 45 = some (.goto 60, 3, 105, 0, .null) := by decide +kernel
theorem fe_X2_ask_48 : mj_f mi_X2_ask 48 = some (.iload 5, 2, 5, 0, .null) := by decide +kernel
theorem fe_X2_ask_50 : mj_f mi_X2_ask 50 = some (.ifCond .eq 27, 3, 77, 0, .null) := by decide +kernel
theorem fe_X2_ask_53 : mj_f mi_X2_ask 53 = some (.aload 8, 2, 8, 0, .null) := by decide +kernel
theorem fe_X2_ask_55 : mj_f mi_X2_ask 55 = some (.lload_n 1, 1, 1, 0, .null) := by decide +kernel
theorem fe_X2_ask_56 : mj_f mi_X2_ask 56 = some (.lload_n 3, 1, 3, 0, .null) := by decide +kernel
theorem fe_X2_ask_57 : mj_f mi_X2_ask 57 = some (.invokevirtual 149, 3, 82, 2, .null) := by decide +kernel
theorem fe_X2_ask_60 : mj_f mi_X2_ask 60 = some (.ifCond .eq 17, 3, 77, 0, .null) := by decide +kernel
theorem fe_X2_ask_63 : mj_f mi_X2_ask 63 = some (.aload 6, 2, 6, 0, .null) := by decide +kernel
theorem fe_X2_ask_65 : mj_f mi_X2_ask 65 = some (.aload 8, 2, 8, 0, .null) := by decide +kernel
theorem fe_X2_ask_67 : mj_f mi_X2_ask 67 = some (.invokevirtual 153, 3, 75, 0, .null) := by decide +kernel
theorem fe_X2_ask_70 : mj_f mi_X2_ask 70 = some (.lconst 0, 1, 0, 0, .long 0) := by decide +kernel
theorem fe_X2_ask_71 : mj_f mi_X2_ask 71 = some (.invokevirtual 154, 3, 136, 2, .null) := by decide +kernel
theorem fe_X2_ask_74 : mj_f mi_X2_ask 74 = some (.goto 31, 3, 105, 0, .null) := by decide +kernel
theorem fe_X2_ask_77 : mj_f mi_X2_ask 77 = some (.aload 8, 2, 8, 0, .null) := by decide +kernel
theorem fe_X2_ask_79 : mj_f mi_X2_ask 79 = some (.lload_n 1, 1, 1, 0, .null) := by decide +kernel
theorem fe_X2_ask_80 : mj_f mi_X2_ask 80 = some (.lload_n 3, 1, 3, 0, .null) := by decide +kernel
theorem fe_X2_ask_81 : mj_f mi_X2_ask 81 = some (.invokevirtual 156, 3, 81, 2, .null) := by decide +kernel
theorem fe_X2_ask_84 : mj_f mi_X2_ask 84 = some (.ifCond .ne 21, 3, 105, 0, .null) := by decide +kernel
theorem fe_X2_ask_87 : mj_f mi_X2_ask 87 = some (.aload_n 0, 1, 0, 0, .null) := by decide +kernel
theorem fe_X2_ask_88 : mj_f mi_X2_ask 88 = some (.iload 7, 2, 7, 0, .null) := by decide +kernel
theorem fe_X2_ask_90 : mj_f mi_X2_ask 90 = some (.invokevirtual 88, 3, 33, 1, .null) := by decide +kernel
theorem fe_X2_ask_93 : mj_f mi_X2_ask 93 = some (.aload 6, 2, 6, 0, .null) := by decide +kernel
theorem fe_X2_ask_95 : mj_f mi_X2_ask 95 = some (.lload_n 1, 1, 1, 0, .null) := by decide +kernel
theorem fe_X2_ask_96 : mj_f mi_X2_ask 96 = some (.lload_n 3, 1, 3, 0, .null) := by decide +kernel
theorem fe_X2_ask_97 : mj_f mi_X2_ask 97 = some (.invokevirtual 145, 3, 9, 3, .null) := by decide +kernel
theorem fe_X2_ask_100 : mj_f mi_X2_ask 100 = some (.aload 6, 2, 6, 0, .null) := by decide +kernel
theorem fe_X2_ask_102 : mj_f mi_X2_ask 102 = some (.invokevirtual 159, 3, 137, 0, .null) := by decide +kernel
theorem fe_X2_ask_105 : mj_f mi_X2_ask 105 = some (.iinc 7 1, 3, 7, 0, .int (1)) := by decide +kernel
theorem fe_X2_ask_108 : mj_f mi_X2_ask 108 = some (.goto (-100), 3, 8, 0, .null) := by decide +kernel
theorem fe_X2_ask_111 : mj_f mi_X2_ask 111 = some (.return_, 1, 0, 0, .null) := by decide +kernel
def ct_X3_init : MJT := [
  (0, 0, .aload_n 0, 1, 0, 0, .null),
  (1, 235, .invokespecial 3, 3, 1000, 0, .null),
  (4, 0, .aload_n 0, 1, 0, 0, .null),
  (5, 0, .bipush 64, 2, 0, 0, .int (64)),
  (7, 0, .newarray .int, 2, 0, 0, .null),
  (9, 236, .putfield 9, 3, 3, 0, .null),
  (12, 0, .aload_n 0, 1, 0, 0, .null),
  (13, 0, .bipush 64, 2, 0, 0, .int (64)),
  (15, 0, .newarray .int, 2, 0, 0, .null),
  (17, 237, .putfield 15, 3, 3, 1, .null),
  (20, 0, .aload_n 0, 1, 0, 0, .null),
  (21, 0, .bipush 64, 2, 0, 0, .int (64)),
  (23, 0, .newarray .int, 2, 0, 0, .null),
  (25, 238, .putfield 18, 3, 3, 2, .null),
  (28, 0, .aload_n 0, 1, 0, 0, .null),
  (29, 0, .iconst 0, 1, 0, 0, .int (0)),
  (30, 239, .putfield 21, 3, 3, 3, .int 0),
  (33, 0, .return_, 1, 0, 0, .null)]
abbrev id_X3_init : Nat := 42
def mi_X3_init : MI := (yX3_init, cX3_init, 1, none, 3, ct_X3_init)
theorem fe_X3_init_0 : mj_f mi_X3_init 0 = some (.aload_n 0, 1, 0, 0, .null) := by decide +kernel
theorem fe_X3_init_1 : mj_f mi_X3_init 1 = some (.invokespecial 3, 3, 1000, 0, .null) := by decide +kernel
theorem fe_X3_init_4 : mj_f mi_X3_init 4 = some (.aload_n 0, 1, 0, 0, .null) := by decide +kernel
theorem fe_X3_init_5 : mj_f mi_X3_init 5 = some (.bipush 64, 2, 0, 0, .int (64)) := by decide +kernel
theorem fe_X3_init_7 : mj_f mi_X3_init 7 = some (.newarray .int, 2, 0, 0, .null) := by decide +kernel
theorem fe_X3_init_9 : mj_f mi_X3_init 9 = some (.putfield 9, 3, 3, 0, .null) := by decide +kernel
theorem fe_X3_init_12 : mj_f mi_X3_init 12 = some (.aload_n 0, 1, 0, 0, .null) := by decide +kernel
theorem fe_X3_init_13 : mj_f mi_X3_init 13 = some (.bipush 64, 2, 0, 0, .int (64)) := by decide +kernel
theorem fe_X3_init_15 : mj_f mi_X3_init 15 = some (.newarray .int, 2, 0, 0, .null) := by decide +kernel
theorem fe_X3_init_17 : mj_f mi_X3_init 17 = some (.putfield 15, 3, 3, 1, .null) := by decide +kernel
theorem fe_X3_init_20 : mj_f mi_X3_init 20 = some (.aload_n 0, 1, 0, 0, .null) := by decide +kernel
theorem fe_X3_init_21 : mj_f mi_X3_init 21 = some (.bipush 64, 2, 0, 0, .int (64)) := by decide +kernel
theorem fe_X3_init_23 : mj_f mi_X3_init 23 = some (.newarray .int, 2, 0, 0, .null) := by decide +kernel
theorem fe_X3_init_25 : mj_f mi_X3_init 25 = some (.putfield 18, 3, 3, 2, .null) := by decide +kernel
theorem fe_X3_init_28 : mj_f mi_X3_init 28 = some (.aload_n 0, 1, 0, 0, .null) := by decide +kernel
theorem fe_X3_init_29 : mj_f mi_X3_init 29 = some (.iconst 0, 1, 0, 0, .int (0)) := by decide +kernel
theorem fe_X3_init_30 : mj_f mi_X3_init 30 = some (.putfield 21, 3, 3, 3, .int 0) := by decide +kernel
theorem fe_X3_init_33 : mj_f mi_X3_init 33 = some (.return_, 1, 0, 0, .null) := by decide +kernel
def ct_X3_size : MJT := [
  (0, 0, .aload_n 0, 1, 0, 0, .null),
  (1, 239, .getfield 21, 3, 3, 3, .int 0),
  (4, 0, .ireturn, 1, 0, 0, .null)]
abbrev id_X3_size : Nat := 43
def mi_X3_size : MI := (yX3_size, cX3_size, 1, (some .int), 3, ct_X3_size)
theorem fe_X3_size_0 : mj_f mi_X3_size 0 = some (.aload_n 0, 1, 0, 0, .null) := by decide +kernel
theorem fe_X3_size_1 : mj_f mi_X3_size 1 = some (.getfield 21, 3, 3, 3, .int 0) := by decide +kernel
theorem fe_X3_size_4 : mj_f mi_X3_size 4 = some (.ireturn, 1, 0, 0, .null) := by decide +kernel
def ct_X3_bytesAt : MJT := [
  (0, 0, .iload_n 1, 1, 1, 0, .null),
  (1, 0, .ifCond .lt 20, 3, 21, 0, .null),
  (4, 0, .iload_n 1, 1, 1, 0, .null),
  (5, 0, .aload_n 0, 1, 0, 0, .null),
  (6, 239, .getfield 21, 3, 3, 3, .int 0),
  (9, 0, .if_icmp .ge 12, 3, 21, 0, .null),
  (12, 0, .iload_n 1, 1, 1, 0, .null),
  (13, 0, .aload_n 0, 1, 0, 0, .null),
  (14, 236, .getfield 9, 3, 3, 0, .null),
  (17, 0, .arraylength, 1, 0, 0, .null),
  (18, 0, .if_icmp .lt 7, 3, 25, 0, .null),
  (21, 0, .iconst (-1), 1, 0, 0, .int (-1)),
  (22, 0, .goto 9, 3, 31, 0, .null),
  (25, 0, .aload_n 0, 1, 0, 0, .null),
  (26, 236, .getfield 9, 3, 3, 0, .null),
  (29, 0, .iload_n 1, 1, 1, 0, .null),
  (30, 0, .iaload, 1, 0, 0, .null),
  (31, 0, .ireturn, 1, 0, 0, .null)]
abbrev id_X3_bytesAt : Nat := 44
def mi_X3_bytesAt : MI := (yX3_bytesAt, cX3_bytesAt, 2, (some .int), 3, ct_X3_bytesAt)
theorem fe_X3_bytesAt_0 : mj_f mi_X3_bytesAt 0 = some (.iload_n 1, 1, 1, 0, .null) := by decide +kernel
theorem fe_X3_bytesAt_1 : mj_f mi_X3_bytesAt 1 = some (.ifCond .lt 20, 3, 21, 0, .null) := by decide +kernel
theorem fe_X3_bytesAt_4 : mj_f mi_X3_bytesAt 4 = some (.iload_n 1, 1, 1, 0, .null) := by decide +kernel
theorem fe_X3_bytesAt_5 : mj_f mi_X3_bytesAt 5 = some (.aload_n 0, 1, 0, 0, .null) := by decide +kernel
theorem fe_X3_bytesAt_6 : mj_f mi_X3_bytesAt 6 = some (.getfield 21, 3, 3, 3, .int 0) := by decide +kernel
theorem fe_X3_bytesAt_9 : mj_f mi_X3_bytesAt 9 = some (.if_icmp .ge 12, 3, 21, 0, .null) := by decide +kernel
theorem fe_X3_bytesAt_12 : mj_f mi_X3_bytesAt 12 = some (.iload_n 1, 1, 1, 0, .null) := by decide +kernel
theorem fe_X3_bytesAt_13 : mj_f mi_X3_bytesAt 13 = some (.aload_n 0, 1, 0, 0, .null) := by decide +kernel
theorem fe_X3_bytesAt_14 : mj_f mi_X3_bytesAt 14 = some (.getfield 9, 3, 3, 0, .null) := by decide +kernel
theorem fe_X3_bytesAt_17 : mj_f mi_X3_bytesAt 17 = some (.arraylength, 1, 0, 0, .null) := by decide +kernel
theorem fe_X3_bytesAt_18 : mj_f mi_X3_bytesAt 18 = some (.if_icmp .lt 7, 3, 25, 0, .null) := by decide +kernel
theorem fe_X3_bytesAt_21 : mj_f mi_X3_bytesAt 21 = some (.iconst (-1), 1, 0, 0, .int (-1)) := by decide +kernel
theorem fe_X3_bytesAt_22 : mj_f mi_X3_bytesAt 22 = some (.goto 9, 3, 31, 0, .null) := by decide +kernel
theorem fe_X3_bytesAt_25 : mj_f mi_X3_bytesAt 25 = some (.aload_n 0, 1, 0, 0, .null) := by decide +kernel
theorem fe_X3_bytesAt_26 : mj_f mi_X3_bytesAt 26 = some (.getfield 9, 3, 3, 0, .null) := by decide +kernel
theorem fe_X3_bytesAt_29 : mj_f mi_X3_bytesAt 29 = some (.iload_n 1, 1, 1, 0, .null) := by decide +kernel
theorem fe_X3_bytesAt_30 : mj_f mi_X3_bytesAt 30 = some (.iaload, 1, 0, 0, .null) := by decide +kernel
theorem fe_X3_bytesAt_31 : mj_f mi_X3_bytesAt 31 = some (.ireturn, 1, 0, 0, .null) := by decide +kernel
def ct_X3_workAt : MJT := [
  (0, 0, .iload_n 1, 1, 1, 0, .null),
  (1, 0, .ifCond .lt 20, 3, 21, 0, .null),
  (4, 0, .iload_n 1, 1, 1, 0, .null),
  (5, 0, .aload_n 0, 1, 0, 0, .null),
  (6, 239, .getfield 21, 3, 3, 3, .int 0),
  (9, 0, .if_icmp .ge 12, 3, 21, 0, .null),
  (12, 0, .iload_n 1, 1, 1, 0, .null),
  (13, 0, .aload_n 0, 1, 0, 0, .null),
  (14, 237, .getfield 15, 3, 3, 1, .null),
  (17, 0, .arraylength, 1, 0, 0, .null),
  (18, 0, .if_icmp .lt 7, 3, 25, 0, .null),
  (21, 0, .iconst (-1), 1, 0, 0, .int (-1)),
  (22, 0, .goto 9, 3, 31, 0, .null),
  (25, 0, .aload_n 0, 1, 0, 0, .null),
  (26, 237, .getfield 15, 3, 3, 1, .null),
  (29, 0, .iload_n 1, 1, 1, 0, .null),
  (30, 0, .iaload, 1, 0, 0, .null),
  (31, 0, .ireturn, 1, 0, 0, .null)]
abbrev id_X3_workAt : Nat := 45
def mi_X3_workAt : MI := (yX3_workAt, cX3_workAt, 2, (some .int), 3, ct_X3_workAt)
theorem fe_X3_workAt_0 : mj_f mi_X3_workAt 0 = some (.iload_n 1, 1, 1, 0, .null) := by decide +kernel
theorem fe_X3_workAt_1 : mj_f mi_X3_workAt 1 = some (.ifCond .lt 20, 3, 21, 0, .null) := by decide +kernel
theorem fe_X3_workAt_4 : mj_f mi_X3_workAt 4 = some (.iload_n 1, 1, 1, 0, .null) := by decide +kernel
theorem fe_X3_workAt_5 : mj_f mi_X3_workAt 5 = some (.aload_n 0, 1, 0, 0, .null) := by decide +kernel
theorem fe_X3_workAt_6 : mj_f mi_X3_workAt 6 = some (.getfield 21, 3, 3, 3, .int 0) := by decide +kernel
theorem fe_X3_workAt_9 : mj_f mi_X3_workAt 9 = some (.if_icmp .ge 12, 3, 21, 0, .null) := by decide +kernel
theorem fe_X3_workAt_12 : mj_f mi_X3_workAt 12 = some (.iload_n 1, 1, 1, 0, .null) := by decide +kernel
theorem fe_X3_workAt_13 : mj_f mi_X3_workAt 13 = some (.aload_n 0, 1, 0, 0, .null) := by decide +kernel
theorem fe_X3_workAt_14 : mj_f mi_X3_workAt 14 = some (.getfield 15, 3, 3, 1, .null) := by decide +kernel
theorem fe_X3_workAt_17 : mj_f mi_X3_workAt 17 = some (.arraylength, 1, 0, 0, .null) := by decide +kernel
theorem fe_X3_workAt_18 : mj_f mi_X3_workAt 18 = some (.if_icmp .lt 7, 3, 25, 0, .null) := by decide +kernel
theorem fe_X3_workAt_21 : mj_f mi_X3_workAt 21 = some (.iconst (-1), 1, 0, 0, .int (-1)) := by decide +kernel
theorem fe_X3_workAt_22 : mj_f mi_X3_workAt 22 = some (.goto 9, 3, 31, 0, .null) := by decide +kernel
theorem fe_X3_workAt_25 : mj_f mi_X3_workAt 25 = some (.aload_n 0, 1, 0, 0, .null) := by decide +kernel
theorem fe_X3_workAt_26 : mj_f mi_X3_workAt 26 = some (.getfield 15, 3, 3, 1, .null) := by decide +kernel
theorem fe_X3_workAt_29 : mj_f mi_X3_workAt 29 = some (.iload_n 1, 1, 1, 0, .null) := by decide +kernel
theorem fe_X3_workAt_30 : mj_f mi_X3_workAt 30 = some (.iaload, 1, 0, 0, .null) := by decide +kernel
theorem fe_X3_workAt_31 : mj_f mi_X3_workAt 31 = some (.ireturn, 1, 0, 0, .null) := by decide +kernel
def ct_X3_pathAt : MJT := [
  (0, 0, .iload_n 1, 1, 1, 0, .null),
  (1, 0, .ifCond .lt 20, 3, 21, 0, .null),
  (4, 0, .iload_n 1, 1, 1, 0, .null),
  (5, 0, .aload_n 0, 1, 0, 0, .null),
  (6, 239, .getfield 21, 3, 3, 3, .int 0),
  (9, 0, .if_icmp .ge 12, 3, 21, 0, .null),
  (12, 0, .iload_n 1, 1, 1, 0, .null),
  (13, 0, .aload_n 0, 1, 0, 0, .null),
  (14, 238, .getfield 18, 3, 3, 2, .null),
  (17, 0, .arraylength, 1, 0, 0, .null),
  (18, 0, .if_icmp .lt 7, 3, 25, 0, .null),
  (21, 0, .iconst (-1), 1, 0, 0, .int (-1)),
  (22, 0, .goto 9, 3, 31, 0, .null),
  (25, 0, .aload_n 0, 1, 0, 0, .null),
  (26, 238, .getfield 18, 3, 3, 2, .null),
  (29, 0, .iload_n 1, 1, 1, 0, .null),
  (30, 0, .iaload, 1, 0, 0, .null),
  (31, 0, .ireturn, 1, 0, 0, .null)]
abbrev id_X3_pathAt : Nat := 46
def mi_X3_pathAt : MI := (yX3_pathAt, cX3_pathAt, 2, (some .int), 3, ct_X3_pathAt)
theorem fe_X3_pathAt_0 : mj_f mi_X3_pathAt 0 = some (.iload_n 1, 1, 1, 0, .null) := by decide +kernel
theorem fe_X3_pathAt_1 : mj_f mi_X3_pathAt 1 = some (.ifCond .lt 20, 3, 21, 0, .null) := by decide +kernel
theorem fe_X3_pathAt_4 : mj_f mi_X3_pathAt 4 = some (.iload_n 1, 1, 1, 0, .null) := by decide +kernel
theorem fe_X3_pathAt_5 : mj_f mi_X3_pathAt 5 = some (.aload_n 0, 1, 0, 0, .null) := by decide +kernel
theorem fe_X3_pathAt_6 : mj_f mi_X3_pathAt 6 = some (.getfield 21, 3, 3, 3, .int 0) := by decide +kernel
theorem fe_X3_pathAt_9 : mj_f mi_X3_pathAt 9 = some (.if_icmp .ge 12, 3, 21, 0, .null) := by decide +kernel
theorem fe_X3_pathAt_12 : mj_f mi_X3_pathAt 12 = some (.iload_n 1, 1, 1, 0, .null) := by decide +kernel
theorem fe_X3_pathAt_13 : mj_f mi_X3_pathAt 13 = some (.aload_n 0, 1, 0, 0, .null) := by decide +kernel
theorem fe_X3_pathAt_14 : mj_f mi_X3_pathAt 14 = some (.getfield 18, 3, 3, 2, .null) := by decide +kernel
theorem fe_X3_pathAt_17 : mj_f mi_X3_pathAt 17 = some (.arraylength, 1, 0, 0, .null) := by decide +kernel
theorem fe_X3_pathAt_18 : mj_f mi_X3_pathAt 18 = some (.if_icmp .lt 7, 3, 25, 0, .null) := by decide +kernel
theorem fe_X3_pathAt_21 : mj_f mi_X3_pathAt 21 = some (.iconst (-1), 1, 0, 0, .int (-1)) := by decide +kernel
theorem fe_X3_pathAt_22 : mj_f mi_X3_pathAt 22 = some (.goto 9, 3, 31, 0, .null) := by decide +kernel
theorem fe_X3_pathAt_25 : mj_f mi_X3_pathAt 25 = some (.aload_n 0, 1, 0, 0, .null) := by decide +kernel
theorem fe_X3_pathAt_26 : mj_f mi_X3_pathAt 26 = some (.getfield 18, 3, 3, 2, .null) := by decide +kernel
theorem fe_X3_pathAt_29 : mj_f mi_X3_pathAt 29 = some (.iload_n 1, 1, 1, 0, .null) := by decide +kernel
theorem fe_X3_pathAt_30 : mj_f mi_X3_pathAt 30 = some (.iaload, 1, 0, 0, .null) := by decide +kernel
theorem fe_X3_pathAt_31 : mj_f mi_X3_pathAt 31 = some (.ireturn, 1, 0, 0, .null) := by decide +kernel
def ct_X3_empty : MJT := [
  (0, 0, .aload_n 0, 1, 0, 0, .null),
  (1, 0, .iconst 0, 1, 0, 0, .int (0)),
  (2, 239, .putfield 21, 3, 3, 3, .int 0),
  (5, 0, .return_, 1, 0, 0, .null)]
abbrev id_X3_empty : Nat := 47
def mi_X3_empty : MI := (yX3_empty, cX3_empty, 1, none, 3, ct_X3_empty)
theorem fe_X3_empty_0 : mj_f mi_X3_empty 0 = some (.aload_n 0, 1, 0, 0, .null) := by decide +kernel
theorem fe_X3_empty_1 : mj_f mi_X3_empty 1 = some (.iconst 0, 1, 0, 0, .int (0)) := by decide +kernel
theorem fe_X3_empty_2 : mj_f mi_X3_empty 2 = some (.putfield 21, 3, 3, 3, .int 0) := by decide +kernel
theorem fe_X3_empty_5 : mj_f mi_X3_empty 5 = some (.return_, 1, 0, 0, .null) := by decide +kernel
def ct_X3_offer : MJT := [
  (0, 0, .iconst 0, 1, 0, 0, .int (0)),
  (1, 0, .istore 4, 2, 4, 0, .null),
  (3, 0, .iconst 0, 1, 0, 0, .int (0)),
  (4, 0, .istore 5, 2, 5, 0, .null),
  (6, 0, .iconst 0, 1, 0, 0, .int (0)),
  (7, 0, .istore 6, 2, 6, 0, .null),
  (9, 0, .iload 6, 2, 6, 0, .null),
  (11, 0, .aload_n 0, 1, 0, 0, .null),
  (12, 239, .getfield 21, 3, 3, 3, .int 0),
  (15, 0, .if_icmp .ge 111, 3, 126, 0, .null),
  (18, 0, .iload 6, 2, 6, 0, .null),
  (20, 0, .bipush 64, 2, 0, 0, .int (64)),
  (22, 0, .if_icmp .ge 104, 3, 126, 0, .null),
  (25, 0, .aload_n 0, 1, 0, 0, .null),
  (26, 236, .getfield 9, 3, 3, 0, .null),
  (29, 0, .iload 6, 2, 6, 0, .null),
  (31, 0, .iaload, 1, 0, 0, .null),
  (32, 0, .iload_n 1, 1, 1, 0, .null),
  (33, 0, .if_icmp .gt 15, 3, 48, 0, .null),
  (36, 0, .aload_n 0, 1, 0, 0, .null),
  (37, 237, .getfield 15, 3, 3, 1, .null),
  (40, 0, .iload 6, 2, 6, 0, .null),
  (42, 0, .iaload, 1, 0, 0, .null),
  (43, 0, .iload_n 2, 1, 2, 0, .null),
  (44, 0, .if_icmp .gt 4, 3, 48, 0, .null),
  (47, 0, .return_, 1, 0, 0, .null),
  (48, 0, .aload_n 0, 1, 0, 0, .null),
  (49, 236, .getfield 9, 3, 3, 0, .null),
  (52, 0, .iload 6, 2, 6, 0, .null),
  (54, 0, .iaload, 1, 0, 0, .null),
  (55, 0, .iload_n 1, 1, 1, 0, .null),
  (56, 0, .if_icmp .lt 14, 3, 70, 0, .null),
  (59, 0, .aload_n 0, 1, 0, 0, .null),
  (60, 237, .getfield 15, 3, 3, 1, .null),
  (63, 0, .iload 6, 2, 6, 0, .null),
  (65, 0, .iaload, 1, 0, 0, .null),
  (66, 0, .iload_n 2, 1, 2, 0, .null),
  (67, 0, .if_icmp .ge 53, 3, 120, 0, .null),
  (70, 0, .aload_n 0, 1, 0, 0, .null),
  (71, 0, .iload 4, 2, 4, 0, .null),
  (73, 0, .aload_n 0, 1, 0, 0, .null),
  (74, 236, .getfield 9, 3, 3, 0, .null),
  (77, 0, .iload 6, 2, 6, 0, .null),
  (79, 0, .iaload, 1, 0, 0, .null),
  (80, 0, .aload_n 0, 1, 0, 0, .null),
  (81, 237, .getfield 15, 3, 3, 1, .null),
  (84, 0, .iload 6, 2, 6, 0, .null),
  (86, 0, .iaload, 1, 0, 0, .null),
  (87, 0, .aload_n 0, 1, 0, 0, .null),
  (88, 238, .getfield 18, 3, 3, 2, .null),
  (91, 0, .iload 6, 2, 6, 0, .null),
  (93, 0, .iaload, 1, 0, 0, .null),
  (94, 724, .invokevirtual 25, 3, 49, 4, .null),
  (97, 0, .iinc 4 1, 3, 4, 0, .int (1)),
  (100, 0, .aload_n 0, 1, 0, 0, .null),
  (101, 236, .getfield 9, 3, 3, 0, .null),
  (104, 0, .iload 6, 2, 6, 0, .null),
  (106, 0, .iaload, 1, 0, 0, .null),
  (107, 0, .iload_n 1, 1, 1, 0, .null),
  (108, 0, .if_icmp .ge 8, 3, 116, 0, .null),
  (111, 0, .iload 4, 2, 4, 0, .null),
  (113, 0, .goto 5, 3, 118, 0, .null),
  (116, 0, .iload 5, 2, 5, 0, .null),
  (118, 0, .istore 5, 2, 5, 0, .null),
  (120, 0, .iinc 6 1, 3, 6, 0, .int (1)),
  (123, 0, .goto (-114), 3, 9, 0, .null),
  (126, 0, .aload_n 0, 1, 0, 0, .null),
  (127, 0, .iload 4, 2, 4, 0, .null),
  (129, 0, .bipush 63, 2, 0, 0, .int (63)),
  (131, 728, .invokestatic 29, 3, 262, 2, .null),
  (134, 239, .putfield 21, 3, 3, 3, .int 0),
  (137, 0, .aload_n 0, 1, 0, 0, .null),
  (138, 239, .getfield 21, 3, 3, 3, .int 0),
  (141, 0, .istore 6, 2, 6, 0, .null),
  (143, 0, .iload 6, 2, 6, 0, .null),
  (145, 0, .iload 5, 2, 5, 0, .null),
  (147, 0, .if_icmp .le 47, 3, 194, 0, .null),
  (150, 0, .iload 6, 2, 6, 0, .null),
  (152, 0, .ifCond .le 42, 3, 194, 0, .null),
  (155, 0, .aload_n 0, 1, 0, 0, .null),
  (156, 0, .iload 6, 2, 6, 0, .null),
  (158, 0, .aload_n 0, 1, 0, 0, .null),
  (159, 236, .getfield 9, 3, 3, 0, .null),
  (162, 0, .iload 6, 2, 6, 0, .null),
  (164, 0, .iconst 1, 1, 0, 0, .int (1)),
  (165, 0, .isub, 1, 0, 0, .null),
  (166, 0, .iaload, 1, 0, 0, .null),
  (167, 0, .aload_n 0, 1, 0, 0, .null),
  (168, 237, .getfield 15, 3, 3, 1, .null),
  (171, 0, .iload 6, 2, 6, 0, .null),
  (173, 0, .iconst 1, 1, 0, 0, .int (1)),
  (174, 0, .isub, 1, 0, 0, .null),
  (175, 0, .iaload, 1, 0, 0, .null),
  (176, 0, .aload_n 0, 1, 0, 0, .null),
  (177, 238, .getfield 18, 3, 3, 2, .null),
  (180, 0, .iload 6, 2, 6, 0, .null),
  (182, 0, .iconst 1, 1, 0, 0, .int (1)),
  (183, 0, .isub, 1, 0, 0, .null),
  (184, 0, .iaload, 1, 0, 0, .null),
  (185, 724, .invokevirtual 25, 3, 49, 4, .null),
  (188, 0, .iinc 6 (-1), 3, 6, 0, .int (-1)),
  (191, 0, .goto (-48), 3, 143, 0, .null),
  (194, 0, .aload_n 0, 1, 0, 0, .null),
  (195, 0, .iload 5, 2, 5, 0, .null),
  (197, 0, .iload_n 1, 1, 1, 0, .null),
  (198, 0, .iload_n 2, 1, 2, 0, .null),
  (199, 0, .iload_n 3, 1, 3, 0, .null),
  (200, 724, .invokevirtual 25, 3, 49, 4, .null),
  (203, 0, .aload_n 0, 1, 0, 0, .null),
  (204, 0, .dup, 1, 0, 0, .null),
  (205, 239, .getfield 21, 3, 3, 3, .int 0),
  (208, 0, .iconst 1, 1, 0, 0, .int (1)),
  (209, 0, .iadd, 1, 0, 0, .null),
  (210, 239, .putfield 21, 3, 3, 3, .int 0),
  (213, 0, .return_, 1, 0, 0, .null)]
abbrev id_X3_offer : Nat := 48
def mi_X3_offer : MI := (yX3_offer, cX3_offer, 7, none, 3, ct_X3_offer)
theorem fe_X3_offer_0 : mj_f mi_X3_offer 0 = some (.iconst 0, 1, 0, 0, .int (0)) := by decide +kernel
theorem fe_X3_offer_1 : mj_f mi_X3_offer 1 = some (.istore 4, 2, 4, 0, .null) := by decide +kernel
theorem fe_X3_offer_3 : mj_f mi_X3_offer 3 = some (.iconst 0, 1, 0, 0, .int (0)) := by decide +kernel
theorem fe_X3_offer_4 : mj_f mi_X3_offer 4 = some (.istore 5, 2, 5, 0, .null) := by decide +kernel
theorem fe_X3_offer_6 : mj_f mi_X3_offer 6 = some (.iconst 0, 1, 0, 0, .int (0)) := by decide +kernel
theorem fe_X3_offer_7 : mj_f mi_X3_offer 7 = some (.istore 6, 2, 6, 0, .null) := by decide +kernel
theorem fe_X3_offer_9 : mj_f mi_X3_offer 9 = some (.iload 6, 2, 6, 0, .null) := by decide +kernel
theorem fe_X3_offer_11 : mj_f mi_X3_offer 11 = some (.aload_n 0, 1, 0, 0, .null) := by decide +kernel
theorem fe_X3_offer_12 : mj_f mi_X3_offer 12 = some (.getfield 21, 3, 3, 3, .int 0) := by decide +kernel
theorem fe_X3_offer_15 : mj_f mi_X3_offer 15 = some (.if_icmp .ge 111, 3, 126, 0, .null) := by decide +kernel
theorem fe_X3_offer_18 : mj_f mi_X3_offer 18 = some (.iload 6, 2, 6, 0, .null) := by decide +kernel
theorem fe_X3_offer_20 : mj_f mi_X3_offer 20 = some (.bipush 64, 2, 0, 0, .int (64)) := by decide +kernel
theorem fe_X3_offer_22 : mj_f mi_X3_offer 22 = some (.if_icmp .ge 104, 3, 126, 0, .null) := by decide +kernel
theorem fe_X3_offer_25 : mj_f mi_X3_offer 25 = some (.aload_n 0, 1, 0, 0, .null) := by decide +kernel
theorem fe_X3_offer_26 : mj_f mi_X3_offer 26 = some (.getfield 9, 3, 3, 0, .null) := by decide +kernel
theorem fe_X3_offer_29 : mj_f mi_X3_offer 29 = some (.iload 6, 2, 6, 0, .null) := by decide +kernel
theorem fe_X3_offer_31 : mj_f mi_X3_offer 31 = some (.iaload, 1, 0, 0, .null) := by decide +kernel
theorem fe_X3_offer_32 : mj_f mi_X3_offer 32 = some (.iload_n 1, 1, 1, 0, .null) := by decide +kernel
theorem fe_X3_offer_33 : mj_f mi_X3_offer 33 = some (.if_icmp .gt 15, 3, 48, 0, .null) := by decide +kernel
theorem fe_X3_offer_36 : mj_f mi_X3_offer 36 = some (.aload_n 0, 1, 0, 0, .null) := by decide +kernel
theorem fe_X3_offer_37 : mj_f mi_X3_offer 37 = some (.getfield 15, 3, 3, 1, .null) := by decide +kernel
theorem fe_X3_offer_40 : mj_f mi_X3_offer 40 = some (.iload 6, 2, 6, 0, .null) := by decide +kernel
theorem fe_X3_offer_42 : mj_f mi_X3_offer 42 = some (.iaload, 1, 0, 0, .null) := by decide +kernel
theorem fe_X3_offer_43 : mj_f mi_X3_offer 43 = some (.iload_n 2, 1, 2, 0, .null) := by decide +kernel
theorem fe_X3_offer_44 : mj_f mi_X3_offer 44 = some (.if_icmp .gt 4, 3, 48, 0, .null) := by decide +kernel
theorem fe_X3_offer_47 : mj_f mi_X3_offer 47 = some (.return_, 1, 0, 0, .null) := by decide +kernel
theorem fe_X3_offer_48 : mj_f mi_X3_offer 48 = some (.aload_n 0, 1, 0, 0, .null) := by decide +kernel
theorem fe_X3_offer_49 : mj_f mi_X3_offer 49 = some (.getfield 9, 3, 3, 0, .null) := by decide +kernel
theorem fe_X3_offer_52 : mj_f mi_X3_offer 52 = some (.iload 6, 2, 6, 0, .null) := by decide +kernel
theorem fe_X3_offer_54 : mj_f mi_X3_offer 54 = some (.iaload, 1, 0, 0, .null) := by decide +kernel
theorem fe_X3_offer_55 : mj_f mi_X3_offer 55 = some (.iload_n 1, 1, 1, 0, .null) := by decide +kernel
theorem fe_X3_offer_56 : mj_f mi_X3_offer 56 = some (.if_icmp .lt 14, 3, 70, 0, .null) := by decide +kernel
theorem fe_X3_offer_59 : mj_f mi_X3_offer 59 = some (.aload_n 0, 1, 0, 0, .null) := by decide +kernel
theorem fe_X3_offer_60 : mj_f mi_X3_offer 60 = some (.getfield 15, 3, 3, 1, .null) := by decide +kernel
theorem fe_X3_offer_63 : mj_f mi_X3_offer 63 = some (.iload 6, 2, 6, 0, .null) := by decide +kernel
theorem fe_X3_offer_65 : mj_f mi_X3_offer 65 = some (.iaload, 1, 0, 0, .null) := by decide +kernel
theorem fe_X3_offer_66 : mj_f mi_X3_offer 66 = some (.iload_n 2, 1, 2, 0, .null) := by decide +kernel
theorem fe_X3_offer_67 : mj_f mi_X3_offer 67 = some (.if_icmp .ge 53, 3, 120, 0, .null) := by decide +kernel
theorem fe_X3_offer_70 : mj_f mi_X3_offer 70 = some (.aload_n 0, 1, 0, 0, .null) := by decide +kernel
theorem fe_X3_offer_71 : mj_f mi_X3_offer 71 = some (.iload 4, 2, 4, 0, .null) := by decide +kernel
theorem fe_X3_offer_73 : mj_f mi_X3_offer 73 = some (.aload_n 0, 1, 0, 0, .null) := by decide +kernel
theorem fe_X3_offer_74 : mj_f mi_X3_offer 74 = some (.getfield 9, 3, 3, 0, .null) := by decide +kernel
theorem fe_X3_offer_77 : mj_f mi_X3_offer 77 = some (.iload 6, 2, 6, 0, .null) := by decide +kernel
theorem fe_X3_offer_79 : mj_f mi_X3_offer 79 = some (.iaload, 1, 0, 0, .null) := by decide +kernel
theorem fe_X3_offer_80 : mj_f mi_X3_offer 80 = some (.aload_n 0, 1, 0, 0, .null) := by decide +kernel
theorem fe_X3_offer_81 : mj_f mi_X3_offer 81 = some (.getfield 15, 3, 3, 1, .null) := by decide +kernel
theorem fe_X3_offer_84 : mj_f mi_X3_offer 84 = some (.iload 6, 2, 6, 0, .null) := by decide +kernel
theorem fe_X3_offer_86 : mj_f mi_X3_offer 86 = some (.iaload, 1, 0, 0, .null) := by decide +kernel
theorem fe_X3_offer_87 : mj_f mi_X3_offer 87 = some (.aload_n 0, 1, 0, 0, .null) := by decide +kernel
theorem fe_X3_offer_88 : mj_f mi_X3_offer 88 = some (.getfield 18, 3, 3, 2, .null) := by decide +kernel
theorem fe_X3_offer_91 : mj_f mi_X3_offer 91 = some (.iload 6, 2, 6, 0, .null) := by decide +kernel
theorem fe_X3_offer_93 : mj_f mi_X3_offer 93 = some (.iaload, 1, 0, 0, .null) := by decide +kernel
theorem fe_X3_offer_94 : mj_f mi_X3_offer 94 = some (.invokevirtual 25, 3, 49, 4, .null) := by decide +kernel
theorem fe_X3_offer_97 : mj_f mi_X3_offer 97 = some (.iinc 4 1, 3, 4, 0, .int (1)) := by decide +kernel
theorem fe_X3_offer_100 : mj_f mi_X3_offer 100 = some (.aload_n 0, 1, 0, 0, .null) := by decide +kernel
theorem fe_X3_offer_101 : mj_f mi_X3_offer 101 = some (.getfield 9, 3, 3, 0, .null) := by decide +kernel
theorem fe_X3_offer_104 : mj_f mi_X3_offer 104 = some (.iload 6, 2, 6, 0, .null) := by decide +kernel
theorem fe_X3_offer_106 : mj_f mi_X3_offer 106 = some (.iaload, 1, 0, 0, .null) := by decide +kernel
theorem fe_X3_offer_107 : mj_f mi_X3_offer 107 = some (.iload_n 1, 1, 1, 0, .null) := by decide +kernel
theorem fe_X3_offer_108 : mj_f mi_X3_offer 108 = some (.if_icmp .ge 8, 3, 116, 0, .null) := by decide +kernel
theorem fe_X3_offer_111 : mj_f mi_X3_offer 111 = some (.iload 4, 2, 4, 0, .null) := by decide +kernel
theorem fe_X3_offer_113 : mj_f mi_X3_offer 113 = some (.goto 5, 3, 118, 0, .null) := by decide +kernel
theorem fe_X3_offer_116 : mj_f mi_X3_offer 116 = some (.iload 5, 2, 5, 0, .null) := by decide +kernel
theorem fe_X3_offer_118 : mj_f mi_X3_offer 118 = some (.istore 5, 2, 5, 0, .null) := by decide +kernel
theorem fe_X3_offer_120 : mj_f mi_X3_offer 120 = some (.iinc 6 1, 3, 6, 0, .int (1)) := by decide +kernel
theorem fe_X3_offer_123 : mj_f mi_X3_offer 123 = some (.goto (-114), 3, 9, 0, .null) := by decide +kernel
theorem fe_X3_offer_126 : mj_f mi_X3_offer 126 = some (.aload_n 0, 1, 0, 0, .null) := by decide +kernel
theorem fe_X3_offer_127 : mj_f mi_X3_offer 127 = some (.iload 4, 2, 4, 0, .null) := by decide +kernel
theorem fe_X3_offer_129 : mj_f mi_X3_offer 129 = some (.bipush 63, 2, 0, 0, .int (63)) := by decide +kernel
theorem fe_X3_offer_131 : mj_f mi_X3_offer 131 = some (.invokestatic 29, 3, 262, 2, .null) := by decide +kernel
theorem fe_X3_offer_134 : mj_f mi_X3_offer 134 = some (.putfield 21, 3, 3, 3, .int 0) := by decide +kernel
theorem fe_X3_offer_137 : mj_f mi_X3_offer 137 = some (.aload_n 0, 1, 0, 0, .null) := by decide +kernel
theorem fe_X3_offer_138 : mj_f mi_X3_offer 138 = some (.getfield 21, 3, 3, 3, .int 0) := by decide +kernel
theorem fe_X3_offer_141 : mj_f mi_X3_offer 141 = some (.istore 6, 2, 6, 0, .null) := by decide +kernel
theorem fe_X3_offer_143 : mj_f mi_X3_offer 143 = some (.iload 6, 2, 6, 0, .null) := by decide +kernel
theorem fe_X3_offer_145 : mj_f mi_X3_offer 145 = some (.iload 5, 2, 5, 0, .null) := by decide +kernel
theorem fe_X3_offer_147 : mj_f mi_X3_offer 147 = some (.if_icmp .le 47, 3, 194, 0, .null) := by decide +kernel
theorem fe_X3_offer_150 : mj_f mi_X3_offer 150 = some (.iload 6, 2, 6, 0, .null) := by decide +kernel
theorem fe_X3_offer_152 : mj_f mi_X3_offer 152 = some (.ifCond .le 42, 3, 194, 0, .null) := by decide +kernel
theorem fe_X3_offer_155 : mj_f mi_X3_offer 155 = some (.aload_n 0, 1, 0, 0, .null) := by decide +kernel
theorem fe_X3_offer_156 : mj_f mi_X3_offer 156 = some (.iload 6, 2, 6, 0, .null) := by decide +kernel
theorem fe_X3_offer_158 : mj_f mi_X3_offer 158 = some (.aload_n 0, 1, 0, 0, .null) := by decide +kernel
theorem fe_X3_offer_159 : mj_f mi_X3_offer 159 = some (.getfield 9, 3, 3, 0, .null) := by decide +kernel
theorem fe_X3_offer_162 : mj_f mi_X3_offer 162 = some (.iload 6, 2, 6, 0, .null) := by decide +kernel
theorem fe_X3_offer_164 : mj_f mi_X3_offer 164 = some (.iconst 1, 1, 0, 0, .int (1)) := by decide +kernel
theorem fe_X3_offer_165 : mj_f mi_X3_offer 165 = some (.isub, 1, 0, 0, .null) := by decide +kernel
theorem fe_X3_offer_166 : mj_f mi_X3_offer 166 = some (.iaload, 1, 0, 0, .null) := by decide +kernel
theorem fe_X3_offer_167 : mj_f mi_X3_offer 167 = some (.aload_n 0, 1, 0, 0, .null) := by decide +kernel
theorem fe_X3_offer_168 : mj_f mi_X3_offer 168 = some (.getfield 15, 3, 3, 1, .null) := by decide +kernel
theorem fe_X3_offer_171 : mj_f mi_X3_offer 171 = some (.iload 6, 2, 6, 0, .null) := by decide +kernel
theorem fe_X3_offer_173 : mj_f mi_X3_offer 173 = some (.iconst 1, 1, 0, 0, .int (1)) := by decide +kernel
theorem fe_X3_offer_174 : mj_f mi_X3_offer 174 = some (.isub, 1, 0, 0, .null) := by decide +kernel
theorem fe_X3_offer_175 : mj_f mi_X3_offer 175 = some (.iaload, 1, 0, 0, .null) := by decide +kernel
theorem fe_X3_offer_176 : mj_f mi_X3_offer 176 = some (.aload_n 0, 1, 0, 0, .null) := by decide +kernel
theorem fe_X3_offer_177 : mj_f mi_X3_offer 177 = some (.getfield 18, 3, 3, 2, .null) := by decide +kernel
theorem fe_X3_offer_180 : mj_f mi_X3_offer 180 = some (.iload 6, 2, 6, 0, .null) := by decide +kernel
theorem fe_X3_offer_182 : mj_f mi_X3_offer 182 = some (.iconst 1, 1, 0, 0, .int (1)) := by decide +kernel
theorem fe_X3_offer_183 : mj_f mi_X3_offer 183 = some (.isub, 1, 0, 0, .null) := by decide +kernel
theorem fe_X3_offer_184 : mj_f mi_X3_offer 184 = some (.iaload, 1, 0, 0, .null) := by decide +kernel
theorem fe_X3_offer_185 : mj_f mi_X3_offer 185 = some (.invokevirtual 25, 3, 49, 4, .null) := by decide +kernel
theorem fe_X3_offer_188 : mj_f mi_X3_offer 188 = some (.iinc 6 (-1), 3, 6, 0, .int (-1)) := by decide +kernel
theorem fe_X3_offer_191 : mj_f mi_X3_offer 191 = some (.goto (-48), 3, 143, 0, .null) := by decide +kernel
theorem fe_X3_offer_194 : mj_f mi_X3_offer 194 = some (.aload_n 0, 1, 0, 0, .null) := by decide +kernel
theorem fe_X3_offer_195 : mj_f mi_X3_offer 195 = some (.iload 5, 2, 5, 0, .null) := by decide +kernel
theorem fe_X3_offer_197 : mj_f mi_X3_offer 197 = some (.iload_n 1, 1, 1, 0, .null) := by decide +kernel
theorem fe_X3_offer_198 : mj_f mi_X3_offer 198 = some (.iload_n 2, 1, 2, 0, .null) := by decide +kernel
theorem fe_X3_offer_199 : mj_f mi_X3_offer 199 = some (.iload_n 3, 1, 3, 0, .null) := by decide +kernel
theorem fe_X3_offer_200 : mj_f mi_X3_offer 200 = some (.invokevirtual 25, 3, 49, 4, .null) := by decide +kernel
theorem fe_X3_offer_203 : mj_f mi_X3_offer 203 = some (.aload_n 0, 1, 0, 0, .null) := by decide +kernel
theorem fe_X3_offer_204 : mj_f mi_X3_offer 204 = some (.dup, 1, 0, 0, .null) := by decide +kernel
theorem fe_X3_offer_205 : mj_f mi_X3_offer 205 = some (.getfield 21, 3, 3, 3, .int 0) := by decide +kernel
theorem fe_X3_offer_208 : mj_f mi_X3_offer 208 = some (.iconst 1, 1, 0, 0, .int (1)) := by decide +kernel
theorem fe_X3_offer_209 : mj_f mi_X3_offer 209 = some (.iadd, 1, 0, 0, .null) := by decide +kernel
theorem fe_X3_offer_210 : mj_f mi_X3_offer 210 = some (.putfield 21, 3, 3, 3, .int 0) := by decide +kernel
theorem fe_X3_offer_213 : mj_f mi_X3_offer 213 = some (.return_, 1, 0, 0, .null) := by decide +kernel
def ct_X3_put : MJT := [
  (0, 0, .iload_n 1, 1, 1, 0, .null),
  (1, 0, .ifCond .lt 31, 3, 32, 0, .null),
  (4, 0, .iload_n 1, 1, 1, 0, .null),
  (5, 0, .bipush 64, 2, 0, 0, .int (64)),
  (7, 0, .if_icmp .ge 25, 3, 32, 0, .null),
  (10, 0, .aload_n 0, 1, 0, 0, .null),
  (11, 236, .getfield 9, 3, 3, 0, .null),
  (14, 0, .iload_n 1, 1, 1, 0, .null),
  (15, 0, .iload_n 2, 1, 2, 0, .null),
  (16, 0, .iastore, 1, 0, 0, .null),
  (17, 0, .aload_n 0, 1, 0, 0, .null),
  (18, 237, .getfield 15, 3, 3, 1, .null),
  (21, 0, .iload_n 1, 1, 1, 0, .null),
  (22, 0, .iload_n 3, 1, 3, 0, .null),
  (23, 0, .iastore, 1, 0, 0, .null),
  (24, 0, .aload_n 0, 1, 0, 0, .null),
  (25, 238, .getfield 18, 3, 3, 2, .null),
  (28, 0, .iload_n 1, 1, 1, 0, .null),
  (29, 0, .iload 4, 2, 4, 0, .null),
  (31, 0, .iastore, 1, 0, 0, .null),
  (32, 0, .return_, 1, 0, 0, .null)]
abbrev id_X3_put : Nat := 49
def mi_X3_put : MI := (yX3_put, cX3_put, 5, none, 3, ct_X3_put)
theorem fe_X3_put_0 : mj_f mi_X3_put 0 = some (.iload_n 1, 1, 1, 0, .null) := by decide +kernel
theorem fe_X3_put_1 : mj_f mi_X3_put 1 = some (.ifCond .lt 31, 3, 32, 0, .null) := by decide +kernel
theorem fe_X3_put_4 : mj_f mi_X3_put 4 = some (.iload_n 1, 1, 1, 0, .null) := by decide +kernel
theorem fe_X3_put_5 : mj_f mi_X3_put 5 = some (.bipush 64, 2, 0, 0, .int (64)) := by decide +kernel
theorem fe_X3_put_7 : mj_f mi_X3_put 7 = some (.if_icmp .ge 25, 3, 32, 0, .null) := by decide +kernel
theorem fe_X3_put_10 : mj_f mi_X3_put 10 = some (.aload_n 0, 1, 0, 0, .null) := by decide +kernel
theorem fe_X3_put_11 : mj_f mi_X3_put 11 = some (.getfield 9, 3, 3, 0, .null) := by decide +kernel
theorem fe_X3_put_14 : mj_f mi_X3_put 14 = some (.iload_n 1, 1, 1, 0, .null) := by decide +kernel
theorem fe_X3_put_15 : mj_f mi_X3_put 15 = some (.iload_n 2, 1, 2, 0, .null) := by decide +kernel
theorem fe_X3_put_16 : mj_f mi_X3_put 16 = some (.iastore, 1, 0, 0, .null) := by decide +kernel
theorem fe_X3_put_17 : mj_f mi_X3_put 17 = some (.aload_n 0, 1, 0, 0, .null) := by decide +kernel
theorem fe_X3_put_18 : mj_f mi_X3_put 18 = some (.getfield 15, 3, 3, 1, .null) := by decide +kernel
theorem fe_X3_put_21 : mj_f mi_X3_put 21 = some (.iload_n 1, 1, 1, 0, .null) := by decide +kernel
theorem fe_X3_put_22 : mj_f mi_X3_put 22 = some (.iload_n 3, 1, 3, 0, .null) := by decide +kernel
theorem fe_X3_put_23 : mj_f mi_X3_put 23 = some (.iastore, 1, 0, 0, .null) := by decide +kernel
theorem fe_X3_put_24 : mj_f mi_X3_put 24 = some (.aload_n 0, 1, 0, 0, .null) := by decide +kernel
theorem fe_X3_put_25 : mj_f mi_X3_put 25 = some (.getfield 18, 3, 3, 2, .null) := by decide +kernel
theorem fe_X3_put_28 : mj_f mi_X3_put 28 = some (.iload_n 1, 1, 1, 0, .null) := by decide +kernel
theorem fe_X3_put_29 : mj_f mi_X3_put 29 = some (.iload 4, 2, 4, 0, .null) := by decide +kernel
theorem fe_X3_put_31 : mj_f mi_X3_put 31 = some (.iastore, 1, 0, 0, .null) := by decide +kernel
theorem fe_X3_put_32 : mj_f mi_X3_put 32 = some (.return_, 1, 0, 0, .null) := by decide +kernel
def ct_X3_firstWithin : MJT := [
  (0, 0, .iconst 0, 1, 0, 0, .int (0)),
  (1, 0, .istore_n 2, 1, 2, 0, .null),
  (2, 0, .iload_n 2, 1, 2, 0, .null),
  (3, 0, .aload_n 0, 1, 0, 0, .null),
  (4, 239, .getfield 21, 3, 3, 3, .int 0),
  (7, 0, .if_icmp .ge 27, 3, 34, 0, .null),
  (10, 0, .iload_n 2, 1, 2, 0, .null),
  (11, 0, .bipush 64, 2, 0, 0, .int (64)),
  (13, 0, .if_icmp .ge 21, 3, 34, 0, .null),
  (16, 0, .aload_n 0, 1, 0, 0, .null),
  (17, 237, .getfield 15, 3, 3, 1, .null),
  (20, 0, .iload_n 2, 1, 2, 0, .null),
  (21, 0, .iaload, 1, 0, 0, .null),
  (22, 0, .iload_n 1, 1, 1, 0, .null),
  (23, 0, .if_icmp .gt 5, 3, 28, 0, .null),
  (26, 0, .iload_n 2, 1, 2, 0, .null),
  (27, 0, .ireturn, 1, 0, 0, .null),
  (28, 0, .iinc 2 1, 3, 2, 0, .int (1)),
  (31, 0, .goto (-29), 3, 2, 0, .null),
  (34, 0, .iconst (-1), 1, 0, 0, .int (-1)),
  (35, 0, .ireturn, 1, 0, 0, .null)]
abbrev id_X3_firstWithin : Nat := 50
def mi_X3_firstWithin : MI := (yX3_firstWithin, cX3_firstWithin, 3, (some .int), 3, ct_X3_firstWithin)
theorem fe_X3_firstWithin_0 : mj_f mi_X3_firstWithin 0 = some (.iconst 0, 1, 0, 0, .int (0)) := by decide +kernel
theorem fe_X3_firstWithin_1 : mj_f mi_X3_firstWithin 1 = some (.istore_n 2, 1, 2, 0, .null) := by decide +kernel
theorem fe_X3_firstWithin_2 : mj_f mi_X3_firstWithin 2 = some (.iload_n 2, 1, 2, 0, .null) := by decide +kernel
theorem fe_X3_firstWithin_3 : mj_f mi_X3_firstWithin 3 = some (.aload_n 0, 1, 0, 0, .null) := by decide +kernel
theorem fe_X3_firstWithin_4 : mj_f mi_X3_firstWithin 4 = some (.getfield 21, 3, 3, 3, .int 0) := by decide +kernel
theorem fe_X3_firstWithin_7 : mj_f mi_X3_firstWithin 7 = some (.if_icmp .ge 27, 3, 34, 0, .null) := by decide +kernel
theorem fe_X3_firstWithin_10 : mj_f mi_X3_firstWithin 10 = some (.iload_n 2, 1, 2, 0, .null) := by decide +kernel
theorem fe_X3_firstWithin_11 : mj_f mi_X3_firstWithin 11 = some (.bipush 64, 2, 0, 0, .int (64)) := by decide +kernel
theorem fe_X3_firstWithin_13 : mj_f mi_X3_firstWithin 13 = some (.if_icmp .ge 21, 3, 34, 0, .null) := by decide +kernel
theorem fe_X3_firstWithin_16 : mj_f mi_X3_firstWithin 16 = some (.aload_n 0, 1, 0, 0, .null) := by decide +kernel
theorem fe_X3_firstWithin_17 : mj_f mi_X3_firstWithin 17 = some (.getfield 15, 3, 3, 1, .null) := by decide +kernel
theorem fe_X3_firstWithin_20 : mj_f mi_X3_firstWithin 20 = some (.iload_n 2, 1, 2, 0, .null) := by decide +kernel
theorem fe_X3_firstWithin_21 : mj_f mi_X3_firstWithin 21 = some (.iaload, 1, 0, 0, .null) := by decide +kernel
theorem fe_X3_firstWithin_22 : mj_f mi_X3_firstWithin 22 = some (.iload_n 1, 1, 1, 0, .null) := by decide +kernel
theorem fe_X3_firstWithin_23 : mj_f mi_X3_firstWithin 23 = some (.if_icmp .gt 5, 3, 28, 0, .null) := by decide +kernel
theorem fe_X3_firstWithin_26 : mj_f mi_X3_firstWithin 26 = some (.iload_n 2, 1, 2, 0, .null) := by decide +kernel
theorem fe_X3_firstWithin_27 : mj_f mi_X3_firstWithin 27 = some (.ireturn, 1, 0, 0, .null) := by decide +kernel
theorem fe_X3_firstWithin_28 : mj_f mi_X3_firstWithin 28 = some (.iinc 2 1, 3, 2, 0, .int (1)) := by decide +kernel
theorem fe_X3_firstWithin_31 : mj_f mi_X3_firstWithin 31 = some (.goto (-29), 3, 2, 0, .null) := by decide +kernel
theorem fe_X3_firstWithin_34 : mj_f mi_X3_firstWithin 34 = some (.iconst (-1), 1, 0, 0, .int (-1)) := by decide +kernel
theorem fe_X3_firstWithin_35 : mj_f mi_X3_firstWithin 35 = some (.ireturn, 1, 0, 0, .null) := by decide +kernel
