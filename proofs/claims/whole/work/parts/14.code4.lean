/-! code tables: a program wrote them -/
def ct_X12_is : MJT := [
  (0, 0, .iload_n 0, 1, 0, 0, .null),
  (1, 0, .iload_n 1, 1, 1, 0, .null),
  (2, 0, .if_icmp .lt 12, 3, 14, 0, .null),
  (5, 0, .iload_n 0, 1, 0, 0, .null),
  (6, 0, .iload_n 2, 1, 2, 0, .null),
  (7, 0, .if_icmp .gt 7, 3, 14, 0, .null),
  (10, 0, .iconst 1, 1, 0, 0, .int (1)),
  (11, 0, .goto 4, 3, 15, 0, .null),
  (14, 0, .iconst 0, 1, 0, 0, .int (0)),
  (15, 0, .ireturn, 1, 0, 0, .null)]
abbrev id_X12_is : Nat := 181
def mi_X12_is : MI := (yX12_is, cX12_is, 3, (some .boolean), 12, ct_X12_is)
theorem fe_X12_is_0 : mj_f mi_X12_is 0 = some (.iload_n 0, 1, 0, 0, .null) := by decide +kernel
theorem fe_X12_is_1 : mj_f mi_X12_is 1 = some (.iload_n 1, 1, 1, 0, .null) := by decide +kernel
theorem fe_X12_is_2 : mj_f mi_X12_is 2 = some (.if_icmp .lt 12, 3, 14, 0, .null) := by decide +kernel
theorem fe_X12_is_5 : mj_f mi_X12_is 5 = some (.iload_n 0, 1, 0, 0, .null) := by decide +kernel
theorem fe_X12_is_6 : mj_f mi_X12_is 6 = some (.iload_n 2, 1, 2, 0, .null) := by decide +kernel
theorem fe_X12_is_7 : mj_f mi_X12_is 7 = some (.if_icmp .gt 7, 3, 14, 0, .null) := by decide +kernel
theorem fe_X12_is_10 : mj_f mi_X12_is 10 = some (.iconst 1, 1, 0, 0, .int (1)) := by decide +kernel
theorem fe_X12_is_11 : mj_f mi_X12_is 11 = some (.goto 4, 3, 15, 0, .null) := by decide +kernel
theorem fe_X12_is_14 : mj_f mi_X12_is 14 = some (.iconst 0, 1, 0, 0, .int (0)) := by decide +kernel
theorem fe_X12_is_15 : mj_f mi_X12_is 15 = some (.ireturn, 1, 0, 0, .null) := by decide +kernel
def ct_X12_put : MJT := [
  (0, 0, .bipush 24, 2, 0, 0, .int (24)),
  (2, 0, .istore_n 2, 1, 2, 0, .null),
  (3, 0, .iload_n 2, 1, 2, 0, .null),
  (4, 0, .ifCond .lt 35, 3, 39, 0, .null),
  (7, 0, .aload_n 0, 1, 0, 0, .null),
  (8, 1221, .getfield 39, 3, 12, 9, .null),
  (11, 0, .aload_n 0, 1, 0, 0, .null),
  (12, 1222, .getfield 42, 3, 12, 10, .int 0),
  (15, 0, .iload_n 1, 1, 1, 0, .null),
  (16, 0, .iload_n 2, 1, 2, 0, .null),
  (17, 0, .ishr, 1, 0, 0, .null),
  (18, 0, .sipush 255, 3, 0, 0, .int (255)),
  (21, 0, .iand, 1, 0, 0, .null),
  (22, 0, .iastore, 1, 0, 0, .null),
  (23, 0, .aload_n 0, 1, 0, 0, .null),
  (24, 0, .dup, 1, 0, 0, .null),
  (25, 1222, .getfield 42, 3, 12, 10, .int 0),
  (28, 0, .iconst 1, 1, 0, 0, .int (1)),
  (29, 0, .iadd, 1, 0, 0, .null),
  (30, 1222, .putfield 42, 3, 12, 10, .int 0),
  (33, 0, .iinc 2 (-8), 3, 2, 0, .int (-8)),
  (36, 0, .goto (-33), 3, 3, 0, .null),
  (39, 0, .return_, 1, 0, 0, .null)]
abbrev id_X12_put : Nat := 182
def mi_X12_put : MI := (yX12_put, cX12_put, 3, none, 12, ct_X12_put)
theorem fe_X12_put_0 : mj_f mi_X12_put 0 = some (.bipush 24, 2, 0, 0, .int (24)) := by decide +kernel
theorem fe_X12_put_2 : mj_f mi_X12_put 2 = some (.istore_n 2, 1, 2, 0, .null) := by decide +kernel
theorem fe_X12_put_3 : mj_f mi_X12_put 3 = some (.iload_n 2, 1, 2, 0, .null) := by decide +kernel
theorem fe_X12_put_4 : mj_f mi_X12_put 4 = some (.ifCond .lt 35, 3, 39, 0, .null) := by decide +kernel
theorem fe_X12_put_7 : mj_f mi_X12_put 7 = some (.aload_n 0, 1, 0, 0, .null) := by decide +kernel
theorem fe_X12_put_8 : mj_f mi_X12_put 8 = some (.getfield 39, 3, 12, 9, .null) := by decide +kernel
theorem fe_X12_put_11 : mj_f mi_X12_put 11 = some (.aload_n 0, 1, 0, 0, .null) := by decide +kernel
theorem fe_X12_put_12 : mj_f mi_X12_put 12 = some (.getfield 42, 3, 12, 10, .int 0) := by decide +kernel
theorem fe_X12_put_15 : mj_f mi_X12_put 15 = some (.iload_n 1, 1, 1, 0, .null) := by decide +kernel
theorem fe_X12_put_16 : mj_f mi_X12_put 16 = some (.iload_n 2, 1, 2, 0, .null) := by decide +kernel
theorem fe_X12_put_17 : mj_f mi_X12_put 17 = some (.ishr, 1, 0, 0, .null) := by decide +kernel
theorem fe_X12_put_18 : mj_f mi_X12_put 18 = some (.sipush 255, 3, 0, 0, .int (255)) := by decide +kernel
theorem fe_X12_put_21 : mj_f mi_X12_put 21 = some (.iand, 1, 0, 0, .null) := by decide +kernel
theorem fe_X12_put_22 : mj_f mi_X12_put 22 = some (.iastore, 1, 0, 0, .null) := by decide +kernel
theorem fe_X12_put_23 : mj_f mi_X12_put 23 = some (.aload_n 0, 1, 0, 0, .null) := by decide +kernel
theorem fe_X12_put_24 : mj_f mi_X12_put 24 = some (.dup, 1, 0, 0, .null) := by decide +kernel
theorem fe_X12_put_25 : mj_f mi_X12_put 25 = some (.getfield 42, 3, 12, 10, .int 0) := by decide +kernel
theorem fe_X12_put_28 : mj_f mi_X12_put 28 = some (.iconst 1, 1, 0, 0, .int (1)) := by decide +kernel
theorem fe_X12_put_29 : mj_f mi_X12_put 29 = some (.iadd, 1, 0, 0, .null) := by decide +kernel
theorem fe_X12_put_30 : mj_f mi_X12_put 30 = some (.putfield 42, 3, 12, 10, .int 0) := by decide +kernel
theorem fe_X12_put_33 : mj_f mi_X12_put 33 = some (.iinc 2 (-8), 3, 2, 0, .int (-8)) := by decide +kernel
theorem fe_X12_put_36 : mj_f mi_X12_put 36 = some (.goto (-33), 3, 3, 0, .null) := by decide +kernel
theorem fe_X12_put_39 : mj_f mi_X12_put 39 = some (.return_, 1, 0, 0, .null) := by decide +kernel
def ct_X12_feed : MJT := [
  (0, 0, .aload_n 0, 1, 0, 0, .null),
  (1, 1222, .getfield 42, 3, 12, 10, .int 0),
  (4, 0, .bipush 20, 2, 0, 0, .int (20)),
  (6, 0, .iadd, 1, 0, 0, .null),
  (7, 0, .sipush 300, 3, 0, 0, .int (300)),
  (10, 0, .if_icmp .le 5, 3, 15, 0, .null),
  (13, 0, .iconst (-1), 1, 0, 0, .int (-1)),
  (14, 0, .ireturn, 1, 0, 0, .null),
  (15, 0, .aload_n 0, 1, 0, 0, .null),
  (16, 0, .iload_n 1, 1, 1, 0, .null),
  (17, 1367, .invokevirtual 164, 3, 182, 1, .null),
  (20, 0, .aload_n 0, 1, 0, 0, .null),
  (21, 0, .iload_n 2, 1, 2, 0, .null),
  (22, 1367, .invokevirtual 164, 3, 182, 1, .null),
  (25, 0, .aload_n 0, 1, 0, 0, .null),
  (26, 0, .iload_n 3, 1, 3, 0, .null),
  (27, 1367, .invokevirtual 164, 3, 182, 1, .null),
  (30, 0, .aload_n 0, 1, 0, 0, .null),
  (31, 0, .iload 4, 2, 4, 0, .null),
  (33, 1367, .invokevirtual 164, 3, 182, 1, .null),
  (36, 0, .aload_n 0, 1, 0, 0, .null),
  (37, 0, .iload 5, 2, 5, 0, .null),
  (39, 1367, .invokevirtual 164, 3, 182, 1, .null),
  (42, 0, .aload_n 0, 1, 0, 0, .null),
  (43, 1222, .getfield 42, 3, 12, 10, .int 0),
  (46, 0, .ireturn, 1, 0, 0, .null)]
abbrev id_X12_feed : Nat := 183
def mi_X12_feed : MI := (yX12_feed, cX12_feed, 6, (some .int), 12, ct_X12_feed)
theorem fe_X12_feed_0 : mj_f mi_X12_feed 0 = some (.aload_n 0, 1, 0, 0, .null) := by decide +kernel
theorem fe_X12_feed_1 : mj_f mi_X12_feed 1 = some (.getfield 42, 3, 12, 10, .int 0) := by decide +kernel
theorem fe_X12_feed_4 : mj_f mi_X12_feed 4 = some (.bipush 20, 2, 0, 0, .int (20)) := by decide +kernel
theorem fe_X12_feed_6 : mj_f mi_X12_feed 6 = some (.iadd, 1, 0, 0, .null) := by decide +kernel
theorem fe_X12_feed_7 : mj_f mi_X12_feed 7 = some (.sipush 300, 3, 0, 0, .int (300)) := by decide +kernel
theorem fe_X12_feed_10 : mj_f mi_X12_feed 10 = some (.if_icmp .le 5, 3, 15, 0, .null) := by decide +kernel
theorem fe_X12_feed_13 : mj_f mi_X12_feed 13 = some (.iconst (-1), 1, 0, 0, .int (-1)) := by decide +kernel
theorem fe_X12_feed_14 : mj_f mi_X12_feed 14 = some (.ireturn, 1, 0, 0, .null) := by decide +kernel
theorem fe_X12_feed_15 : mj_f mi_X12_feed 15 = some (.aload_n 0, 1, 0, 0, .null) := by decide +kernel
theorem fe_X12_feed_16 : mj_f mi_X12_feed 16 = some (.iload_n 1, 1, 1, 0, .null) := by decide +kernel
theorem fe_X12_feed_17 : mj_f mi_X12_feed 17 = some (.invokevirtual 164, 3, 182, 1, .null) := by decide +kernel
theorem fe_X12_feed_20 : mj_f mi_X12_feed 20 = some (.aload_n 0, 1, 0, 0, .null) := by decide +kernel
theorem fe_X12_feed_21 : mj_f mi_X12_feed 21 = some (.iload_n 2, 1, 2, 0, .null) := by decide +kernel
theorem fe_X12_feed_22 : mj_f mi_X12_feed 22 = some (.invokevirtual 164, 3, 182, 1, .null) := by decide +kernel
theorem fe_X12_feed_25 : mj_f mi_X12_feed 25 = some (.aload_n 0, 1, 0, 0, .null) := by decide +kernel
theorem fe_X12_feed_26 : mj_f mi_X12_feed 26 = some (.iload_n 3, 1, 3, 0, .null) := by decide +kernel
theorem fe_X12_feed_27 : mj_f mi_X12_feed 27 = some (.invokevirtual 164, 3, 182, 1, .null) := by decide +kernel
theorem fe_X12_feed_30 : mj_f mi_X12_feed 30 = some (.aload_n 0, 1, 0, 0, .null) := by decide +kernel
theorem fe_X12_feed_31 : mj_f mi_X12_feed 31 = some (.iload 4, 2, 4, 0, .null) := by decide +kernel
theorem fe_X12_feed_33 : mj_f mi_X12_feed 33 = some (.invokevirtual 164, 3, 182, 1, .null) := by decide +kernel
theorem fe_X12_feed_36 : mj_f mi_X12_feed 36 = some (.aload_n 0, 1, 0, 0, .null) := by decide +kernel
theorem fe_X12_feed_37 : mj_f mi_X12_feed 37 = some (.iload 5, 2, 5, 0, .null) := by decide +kernel
theorem fe_X12_feed_39 : mj_f mi_X12_feed 39 = some (.invokevirtual 164, 3, 182, 1, .null) := by decide +kernel
theorem fe_X12_feed_42 : mj_f mi_X12_feed 42 = some (.aload_n 0, 1, 0, 0, .null) := by decide +kernel
theorem fe_X12_feed_43 : mj_f mi_X12_feed 43 = some (.getfield 42, 3, 12, 10, .int 0) := by decide +kernel
theorem fe_X12_feed_46 : mj_f mi_X12_feed 46 = some (.ireturn, 1, 0, 0, .null) := by decide +kernel
def ct_X12_end : MJT := [
  (0, 0, .iload_n 1, 1, 1, 0, .null),
  (1, 0, .ifCond .lt 11, 3, 12, 0, .null),
  (4, 0, .iload_n 1, 1, 1, 0, .null),
  (5, 0, .aload_n 0, 1, 0, 0, .null),
  (6, 1222, .getfield 42, 3, 12, 10, .int 0),
  (9, 0, .if_icmp .le 5, 3, 14, 0, .null),
  (12, 0, .iconst 0, 1, 0, 0, .int (0)),
  (13, 0, .ireturn, 1, 0, 0, .null),
  (14, 0, .aload_n 0, 1, 0, 0, .null),
  (15, 0, .iload_n 1, 1, 1, 0, .null),
  (16, 1222, .putfield 42, 3, 12, 10, .int 0),
  (19, 0, .iconst 1, 1, 0, 0, .int (1)),
  (20, 0, .ireturn, 1, 0, 0, .null)]
abbrev id_X12_end : Nat := 184
def mi_X12_end : MI := (yX12_end, cX12_end, 2, (some .boolean), 12, ct_X12_end)
theorem fe_X12_end_0 : mj_f mi_X12_end 0 = some (.iload_n 1, 1, 1, 0, .null) := by decide +kernel
theorem fe_X12_end_1 : mj_f mi_X12_end 1 = some (.ifCond .lt 11, 3, 12, 0, .null) := by decide +kernel
theorem fe_X12_end_4 : mj_f mi_X12_end 4 = some (.iload_n 1, 1, 1, 0, .null) := by decide +kernel
theorem fe_X12_end_5 : mj_f mi_X12_end 5 = some (.aload_n 0, 1, 0, 0, .null) := by decide +kernel
theorem fe_X12_end_6 : mj_f mi_X12_end 6 = some (.getfield 42, 3, 12, 10, .int 0) := by decide +kernel
theorem fe_X12_end_9 : mj_f mi_X12_end 9 = some (.if_icmp .le 5, 3, 14, 0, .null) := by decide +kernel
theorem fe_X12_end_12 : mj_f mi_X12_end 12 = some (.iconst 0, 1, 0, 0, .int (0)) := by decide +kernel
theorem fe_X12_end_13 : mj_f mi_X12_end 13 = some (.ireturn, 1, 0, 0, .null) := by decide +kernel
theorem fe_X12_end_14 : mj_f mi_X12_end 14 = some (.aload_n 0, 1, 0, 0, .null) := by decide +kernel
theorem fe_X12_end_15 : mj_f mi_X12_end 15 = some (.iload_n 1, 1, 1, 0, .null) := by decide +kernel
theorem fe_X12_end_16 : mj_f mi_X12_end 16 = some (.putfield 42, 3, 12, 10, .int 0) := by decide +kernel
theorem fe_X12_end_19 : mj_f mi_X12_end 19 = some (.iconst 1, 1, 0, 0, .int (1)) := by decide +kernel
theorem fe_X12_end_20 : mj_f mi_X12_end 20 = some (.ireturn, 1, 0, 0, .null) := by decide +kernel
def ct_X12_turned : MJT := [
  (0, 0, .lload_n 0, 1, 0, 0, .null),
  (1, 0, .iconst 1, 1, 0, 0, .int (1)),
  (2, 0, .lshl, 1, 0, 0, .null),
  (3, 0, .lload_n 0, 1, 0, 0, .null),
  (4, 0, .bipush 63, 2, 0, 0, .int (63)),
  (6, 0, .lshr, 1, 0, 0, .null),
  (7, 0, .lxor, 1, 0, 0, .null),
  (8, 0, .lreturn, 1, 0, 0, .null)]
abbrev id_X12_turned : Nat := 185
def mi_X12_turned : MI := (yX12_turned, cX12_turned, 2, (some .long), 12, ct_X12_turned)
theorem fe_X12_turned_0 : mj_f mi_X12_turned 0 = some (.lload_n 0, 1, 0, 0, .null) := by decide +kernel
theorem fe_X12_turned_1 : mj_f mi_X12_turned 1 = some (.iconst 1, 1, 0, 0, .int (1)) := by decide +kernel
theorem fe_X12_turned_2 : mj_f mi_X12_turned 2 = some (.lshl, 1, 0, 0, .null) := by decide +kernel
theorem fe_X12_turned_3 : mj_f mi_X12_turned 3 = some (.lload_n 0, 1, 0, 0, .null) := by decide +kernel
theorem fe_X12_turned_4 : mj_f mi_X12_turned 4 = some (.bipush 63, 2, 0, 0, .int (63)) := by decide +kernel
theorem fe_X12_turned_6 : mj_f mi_X12_turned 6 = some (.lshr, 1, 0, 0, .null) := by decide +kernel
theorem fe_X12_turned_7 : mj_f mi_X12_turned 7 = some (.lxor, 1, 0, 0, .null) := by decide +kernel
theorem fe_X12_turned_8 : mj_f mi_X12_turned 8 = some (.lreturn, 1, 0, 0, .null) := by decide +kernel
def ct_X12_varint : MJT := [
  (0, 0, .iconst 1, 1, 0, 0, .int (1)),
  (1, 0, .istore_n 2, 1, 2, 0, .null),
  (2, 0, .lload_n 0, 1, 0, 0, .null),
  (3, 0, .bipush 7, 2, 0, 0, .int (7)),
  (5, 0, .lushr, 1, 0, 0, .null),
  (6, 0, .lstore_n 3, 1, 3, 0, .null),
  (7, 0, .lload_n 3, 1, 3, 0, .null),
  (8, 0, .lconst 0, 1, 0, 0, .long 0),
  (9, 0, .lcmp, 1, 0, 0, .null),
  (10, 0, .ifCond .eq 14, 3, 24, 0, .null),
  (13, 0, .iinc 2 1, 3, 2, 0, .int (1)),
  (16, 0, .lload_n 3, 1, 3, 0, .null),
  (17, 0, .bipush 7, 2, 0, 0, .int (7)),
  (19, 0, .lushr, 1, 0, 0, .null),
  (20, 0, .lstore_n 3, 1, 3, 0, .null),
  (21, 0, .goto (-14), 3, 7, 0, .null),
  (24, 0, .iload_n 2, 1, 2, 0, .null),
  (25, 0, .ireturn, 1, 0, 0, .null)]
abbrev id_X12_varint : Nat := 186
def mi_X12_varint : MI := (yX12_varint, cX12_varint, 5, (some .int), 12, ct_X12_varint)
theorem fe_X12_varint_0 : mj_f mi_X12_varint 0 = some (.iconst 1, 1, 0, 0, .int (1)) := by decide +kernel
theorem fe_X12_varint_1 : mj_f mi_X12_varint 1 = some (.istore_n 2, 1, 2, 0, .null) := by decide +kernel
theorem fe_X12_varint_2 : mj_f mi_X12_varint 2 = some (.lload_n 0, 1, 0, 0, .null) := by decide +kernel
theorem fe_X12_varint_3 : mj_f mi_X12_varint 3 = some (.bipush 7, 2, 0, 0, .int (7)) := by decide +kernel
theorem fe_X12_varint_5 : mj_f mi_X12_varint 5 = some (.lushr, 1, 0, 0, .null) := by decide +kernel
theorem fe_X12_varint_6 : mj_f mi_X12_varint 6 = some (.lstore_n 3, 1, 3, 0, .null) := by decide +kernel
theorem fe_X12_varint_7 : mj_f mi_X12_varint 7 = some (.lload_n 3, 1, 3, 0, .null) := by decide +kernel
theorem fe_X12_varint_8 : mj_f mi_X12_varint 8 = some (.lconst 0, 1, 0, 0, .long 0) := by decide +kernel
theorem fe_X12_varint_9 : mj_f mi_X12_varint 9 = some (.lcmp, 1, 0, 0, .null) := by decide +kernel
theorem fe_X12_varint_10 : mj_f mi_X12_varint 10 = some (.ifCond .eq 14, 3, 24, 0, .null) := by decide +kernel
theorem fe_X12_varint_13 : mj_f mi_X12_varint 13 = some (.iinc 2 1, 3, 2, 0, .int (1)) := by decide +kernel
theorem fe_X12_varint_16 : mj_f mi_X12_varint 16 = some (.lload_n 3, 1, 3, 0, .null) := by decide +kernel
theorem fe_X12_varint_17 : mj_f mi_X12_varint 17 = some (.bipush 7, 2, 0, 0, .int (7)) := by decide +kernel
theorem fe_X12_varint_19 : mj_f mi_X12_varint 19 = some (.lushr, 1, 0, 0, .null) := by decide +kernel
theorem fe_X12_varint_20 : mj_f mi_X12_varint 20 = some (.lstore_n 3, 1, 3, 0, .null) := by decide +kernel
theorem fe_X12_varint_21 : mj_f mi_X12_varint 21 = some (.goto (-14), 3, 7, 0, .null) := by decide +kernel
theorem fe_X12_varint_24 : mj_f mi_X12_varint 24 = some (.iload_n 2, 1, 2, 0, .null) := by decide +kernel
theorem fe_X12_varint_25 : mj_f mi_X12_varint 25 = some (.ireturn, 1, 0, 0, .null) := by decide +kernel
def ct_X12_bits : MJT := [
  (0, 0, .iconst 0, 1, 0, 0, .int (0)),
  (1, 0, .istore_n 2, 1, 2, 0, .null),
  (2, 0, .lload_n 0, 1, 0, 0, .null),
  (3, 0, .lstore_n 3, 1, 3, 0, .null),
  (4, 0, .lload_n 3, 1, 3, 0, .null),
  (5, 0, .lconst 0, 1, 0, 0, .long 0),
  (6, 0, .lcmp, 1, 0, 0, .null),
  (7, 0, .ifCond .eq 13, 3, 20, 0, .null),
  (10, 0, .iinc 2 1, 3, 2, 0, .int (1)),
  (13, 0, .lload_n 3, 1, 3, 0, .null),
  (14, 0, .iconst 1, 1, 0, 0, .int (1)),
  (15, 0, .lushr, 1, 0, 0, .null),
  (16, 0, .lstore_n 3, 1, 3, 0, .null),
  (17, 0, .goto (-13), 3, 4, 0, .null),
  (20, 0, .iload_n 2, 1, 2, 0, .null),
  (21, 0, .ireturn, 1, 0, 0, .null)]
abbrev id_X12_bits : Nat := 187
def mi_X12_bits : MI := (yX12_bits, cX12_bits, 5, (some .int), 12, ct_X12_bits)
theorem fe_X12_bits_0 : mj_f mi_X12_bits 0 = some (.iconst 0, 1, 0, 0, .int (0)) := by decide +kernel
theorem fe_X12_bits_1 : mj_f mi_X12_bits 1 = some (.istore_n 2, 1, 2, 0, .null) := by decide +kernel
theorem fe_X12_bits_2 : mj_f mi_X12_bits 2 = some (.lload_n 0, 1, 0, 0, .null) := by decide +kernel
theorem fe_X12_bits_3 : mj_f mi_X12_bits 3 = some (.lstore_n 3, 1, 3, 0, .null) := by decide +kernel
theorem fe_X12_bits_4 : mj_f mi_X12_bits 4 = some (.lload_n 3, 1, 3, 0, .null) := by decide +kernel
theorem fe_X12_bits_5 : mj_f mi_X12_bits 5 = some (.lconst 0, 1, 0, 0, .long 0) := by decide +kernel
theorem fe_X12_bits_6 : mj_f mi_X12_bits 6 = some (.lcmp, 1, 0, 0, .null) := by decide +kernel
theorem fe_X12_bits_7 : mj_f mi_X12_bits 7 = some (.ifCond .eq 13, 3, 20, 0, .null) := by decide +kernel
theorem fe_X12_bits_10 : mj_f mi_X12_bits 10 = some (.iinc 2 1, 3, 2, 0, .int (1)) := by decide +kernel
theorem fe_X12_bits_13 : mj_f mi_X12_bits 13 = some (.lload_n 3, 1, 3, 0, .null) := by decide +kernel
theorem fe_X12_bits_14 : mj_f mi_X12_bits 14 = some (.iconst 1, 1, 0, 0, .int (1)) := by decide +kernel
theorem fe_X12_bits_15 : mj_f mi_X12_bits 15 = some (.lushr, 1, 0, 0, .null) := by decide +kernel
theorem fe_X12_bits_16 : mj_f mi_X12_bits 16 = some (.lstore_n 3, 1, 3, 0, .null) := by decide +kernel
theorem fe_X12_bits_17 : mj_f mi_X12_bits 17 = some (.goto (-13), 3, 4, 0, .null) := by decide +kernel
theorem fe_X12_bits_20 : mj_f mi_X12_bits 20 = some (.iload_n 2, 1, 2, 0, .null) := by decide +kernel
theorem fe_X12_bits_21 : mj_f mi_X12_bits 21 = some (.ireturn, 1, 0, 0, .null) := by decide +kernel
def ct_X12_laying : MJT := [
  (0, 0, .iload_n 0, 1, 0, 0, .null),
  (1, 0, .iload_n 1, 1, 1, 0, .null),
  (2, 0, .imul, 1, 0, 0, .null),
  (3, 0, .bipush 7, 2, 0, 0, .int (7)),
  (5, 0, .iadd, 1, 0, 0, .null),
  (6, 0, .bipush 8, 2, 0, 0, .int (8)),
  (8, 0, .idiv, 1, 0, 0, .null),
  (9, 0, .ireturn, 1, 0, 0, .null)]
abbrev id_X12_laying : Nat := 188
def mi_X12_laying : MI := (yX12_laying, cX12_laying, 2, (some .int), 12, ct_X12_laying)
theorem fe_X12_laying_0 : mj_f mi_X12_laying 0 = some (.iload_n 0, 1, 0, 0, .null) := by decide +kernel
theorem fe_X12_laying_1 : mj_f mi_X12_laying 1 = some (.iload_n 1, 1, 1, 0, .null) := by decide +kernel
theorem fe_X12_laying_2 : mj_f mi_X12_laying 2 = some (.imul, 1, 0, 0, .null) := by decide +kernel
theorem fe_X12_laying_3 : mj_f mi_X12_laying 3 = some (.bipush 7, 2, 0, 0, .int (7)) := by decide +kernel
theorem fe_X12_laying_5 : mj_f mi_X12_laying 5 = some (.iadd, 1, 0, 0, .null) := by decide +kernel
theorem fe_X12_laying_6 : mj_f mi_X12_laying 6 = some (.bipush 8, 2, 0, 0, .int (8)) := by decide +kernel
theorem fe_X12_laying_8 : mj_f mi_X12_laying 8 = some (.idiv, 1, 0, 0, .null) := by decide +kernel
theorem fe_X12_laying_9 : mj_f mi_X12_laying 9 = some (.ireturn, 1, 0, 0, .null) := by decide +kernel
def ct_X12_at : MJT := [
  (0, 0, .aload_n 0, 1, 0, 0, .null),
  (1, 1226, .getfield 55, 3, 12, 14, .null),
  (4, 0, .bipush 33, 2, 0, 0, .int (33)),
  (6, 0, .iload_n 1, 1, 1, 0, .null),
  (7, 0, .imul, 1, 0, 0, .null),
  (8, 0, .iload_n 2, 1, 2, 0, .null),
  (9, 0, .iadd, 1, 0, 0, .null),
  (10, 0, .laload, 1, 0, 0, .null),
  (11, 0, .lreturn, 1, 0, 0, .null)]
abbrev id_X12_at : Nat := 189
def mi_X12_at : MI := (yX12_at, cX12_at, 3, (some .long), 12, ct_X12_at)
theorem fe_X12_at_0 : mj_f mi_X12_at 0 = some (.aload_n 0, 1, 0, 0, .null) := by decide +kernel
theorem fe_X12_at_1 : mj_f mi_X12_at 1 = some (.getfield 55, 3, 12, 14, .null) := by decide +kernel
theorem fe_X12_at_4 : mj_f mi_X12_at 4 = some (.bipush 33, 2, 0, 0, .int (33)) := by decide +kernel
theorem fe_X12_at_6 : mj_f mi_X12_at 6 = some (.iload_n 1, 1, 1, 0, .null) := by decide +kernel
theorem fe_X12_at_7 : mj_f mi_X12_at 7 = some (.imul, 1, 0, 0, .null) := by decide +kernel
theorem fe_X12_at_8 : mj_f mi_X12_at 8 = some (.iload_n 2, 1, 2, 0, .null) := by decide +kernel
theorem fe_X12_at_9 : mj_f mi_X12_at 9 = some (.iadd, 1, 0, 0, .null) := by decide +kernel
theorem fe_X12_at_10 : mj_f mi_X12_at 10 = some (.laload, 1, 0, 0, .null) := by decide +kernel
theorem fe_X12_at_11 : mj_f mi_X12_at 11 = some (.lreturn, 1, 0, 0, .null) := by decide +kernel
def ct_X12_turns : MJT := [
  (0, 0, .aload_n 0, 1, 0, 0, .null),
  (1, 1227, .getfield 58, 3, 12, 15, .null),
  (4, 0, .iload_n 1, 1, 1, 0, .null),
  (5, 0, .iaload, 1, 0, 0, .null),
  (6, 0, .istore_n 3, 1, 3, 0, .null),
  (7, 0, .iload_n 2, 1, 2, 0, .null),
  (8, 0, .bipush 6, 2, 0, 0, .int (6)),
  (10, 0, .if_icmp .ge 10, 3, 20, 0, .null),
  (13, 0, .iload_n 3, 1, 3, 0, .null),
  (14, 0, .iconst 2, 1, 0, 0, .int (2)),
  (15, 0, .if_icmp .ge 5, 3, 20, 0, .null),
  (18, 0, .iconst 0, 1, 0, 0, .int (0)),
  (19, 0, .ireturn, 1, 0, 0, .null),
  (20, 0, .bipush 33, 2, 0, 0, .int (33)),
  (22, 0, .iload_n 1, 1, 1, 0, .null),
  (23, 0, .iconst 1, 1, 0, 0, .int (1)),
  (24, 0, .iadd, 1, 0, 0, .null),
  (25, 0, .imul, 1, 0, 0, .null),
  (26, 0, .istore 4, 2, 4, 0, .null),
  (28, 0, .iconst 0, 1, 0, 0, .int (0)),
  (29, 0, .istore 5, 2, 5, 0, .null),
  (31, 0, .iload_n 2, 1, 2, 0, .null),
  (32, 0, .tableswitch 242 3 5 #[28, 95, 198], 28, 0, 0, .null),
  (60, 0, .iconst 0, 1, 0, 0, .int (0)),
  (61, 0, .istore 6, 2, 6, 0, .null),
  (63, 0, .iload 6, 2, 6, 0, .null),
  (65, 0, .iload_n 3, 1, 3, 0, .null),
  (66, 0, .if_icmp .ge 50, 3, 116, 0, .null),
  (69, 0, .aload_n 0, 1, 0, 0, .null),
  (70, 1226, .getfield 55, 3, 12, 14, .null),
  (73, 0, .iload 4, 2, 4, 0, .null),
  (75, 0, .iload 6, 2, 6, 0, .null),
  (77, 0, .iadd, 1, 0, 0, .null),
  (78, 0, .iload 6, 2, 6, 0, .null),
  (80, 0, .ifCond .ne 12, 3, 92, 0, .null),
  (83, 0, .aload_n 0, 1, 0, 0, .null),
  (84, 0, .iload_n 1, 1, 1, 0, .null),
  (85, 0, .iconst 0, 1, 0, 0, .int (0)),
  (86, 1433, .invokevirtual 168, 3, 189, 2, .null),
  (89, 0, .goto 20, 3, 109, 0, .null),
  (92, 0, .aload_n 0, 1, 0, 0, .null),
  (93, 0, .iload_n 1, 1, 1, 0, .null),
  (94, 0, .iload 6, 2, 6, 0, .null),
  (96, 1433, .invokevirtual 168, 3, 189, 2, .null),
  (99, 0, .aload_n 0, 1, 0, 0, .null),
  (100, 0, .iload_n 1, 1, 1, 0, .null),
  (101, 0, .iload 6, 2, 6, 0, .null),
  (103, 0, .iconst 1, 1, 0, 0, .int (1)),
  (104, 0, .isub, 1, 0, 0, .null),
  (105, 1433, .invokevirtual 168, 3, 189, 2, .null),
  (108, 0, .lsub, 1, 0, 0, .null),
  (109, 0, .lastore, 1, 0, 0, .null),
  (110, 0, .iinc 6 1, 3, 6, 0, .int (1)),
  (113, 0, .goto (-50), 3, 63, 0, .null),
  (116, 0, .aload_n 0, 1, 0, 0, .null),
  (117, 1227, .getfield 58, 3, 12, 15, .null),
  (120, 0, .iload_n 1, 1, 1, 0, .null),
  (121, 0, .iconst 1, 1, 0, 0, .int (1)),
  (122, 0, .iadd, 1, 0, 0, .null),
  (123, 0, .iload_n 3, 1, 3, 0, .null),
  (124, 0, .iastore, 1, 0, 0, .null),
  (125, 0, .iconst 1, 1, 0, 0, .int (1)),
  (126, 0, .ireturn, 1, 0, 0, .null),
  (127, 0, .iconst 0, 1, 0, 0, .int (0)),
  (128, 0, .istore 6, 2, 6, 0, .null),
  (130, 0, .iload 6, 2, 6, 0, .null),
  (132, 0, .iload_n 3, 1, 3, 0, .null),
  (133, 0, .if_icmp .ge 85, 3, 218, 0, .null),
  (136, 0, .iload 6, 2, 6, 0, .null),
  (138, 0, .ifCond .eq 23, 3, 161, 0, .null),
  (141, 0, .aload_n 0, 1, 0, 0, .null),
  (142, 0, .iload_n 1, 1, 1, 0, .null),
  (143, 0, .iload 6, 2, 6, 0, .null),
  (145, 1433, .invokevirtual 168, 3, 189, 2, .null),
  (148, 0, .aload_n 0, 1, 0, 0, .null),
  (149, 0, .iload_n 1, 1, 1, 0, .null),
  (150, 0, .iload 6, 2, 6, 0, .null),
  (152, 0, .iconst 1, 1, 0, 0, .int (1)),
  (153, 0, .isub, 1, 0, 0, .null),
  (154, 1433, .invokevirtual 168, 3, 189, 2, .null),
  (157, 0, .lcmp, 1, 0, 0, .null),
  (158, 0, .ifCond .eq 36, 3, 194, 0, .null),
  (161, 0, .aload_n 0, 1, 0, 0, .null),
  (162, 1226, .getfield 55, 3, 12, 14, .null),
  (165, 0, .iload 4, 2, 4, 0, .null),
  (167, 0, .iload 5, 2, 5, 0, .null),
  (169, 0, .iadd, 1, 0, 0, .null),
  (170, 0, .aload_n 0, 1, 0, 0, .null),
  (171, 0, .iload_n 1, 1, 1, 0, .null),
  (172, 0, .iload 6, 2, 6, 0, .null),
  (174, 1433, .invokevirtual 168, 3, 189, 2, .null),
  (177, 0, .lastore, 1, 0, 0, .null),
  (178, 0, .aload_n 0, 1, 0, 0, .null),
  (179, 1229, .getfield 64, 3, 12, 17, .null),
  (182, 0, .bipush 33, 2, 0, 0, .int (33)),
  (184, 0, .iload_n 1, 1, 1, 0, .null),
  (185, 0, .imul, 1, 0, 0, .null),
  (186, 0, .iload 5, 2, 5, 0, .null),
  (188, 0, .iadd, 1, 0, 0, .null),
  (189, 0, .iconst 0, 1, 0, 0, .int (0)),
  (190, 0, .iastore, 1, 0, 0, .null),
  (191, 0, .iinc 5 1, 3, 5, 0, .int (1)),
  (194, 0, .aload_n 0, 1, 0, 0, .null),
  (195, 1229, .getfield 64, 3, 12, 17, .null),
  (198, 0, .bipush 33, 2, 0, 0, .int (33)),
  (200, 0, .iload_n 1, 1, 1, 0, .null),
  (201, 0, .imul, 1, 0, 0, .null),
  (202, 0, .iload 5, 2, 5, 0, .null),
  (204, 0, .iadd, 1, 0, 0, .null),
  (205, 0, .iconst 1, 1, 0, 0, .int (1)),
  (206, 0, .isub, 1, 0, 0, .null),
  (207, 0, .dup2, 1, 0, 0, .null),
  (208, 0, .iaload, 1, 0, 0, .null),
  (209, 0, .iconst 1, 1, 0, 0, .int (1)),
  (210, 0, .iadd, 1, 0, 0, .null),
  (211, 0, .iastore, 1, 0, 0, .null),
  (212, 0, .iinc 6 1, 3, 6, 0, .int (1)),
  (215, 0, .goto (-85), 3, 130, 0, .null),
  (218, 0, .aload_n 0, 1, 0, 0, .null),
  (219, 1227, .getfield 58, 3, 12, 15, .null),
  (222, 0, .iload_n 1, 1, 1, 0, .null),
  (223, 0, .iconst 1, 1, 0, 0, .int (1)),
  (224, 0, .iadd, 1, 0, 0, .null),
  (225, 0, .iload 5, 2, 5, 0, .null),
  (227, 0, .iastore, 1, 0, 0, .null),
  (228, 0, .iconst 1, 1, 0, 0, .int (1)),
  (229, 0, .ireturn, 1, 0, 0, .null),
  (230, 0, .iconst 0, 1, 0, 0, .int (0)),
  (231, 0, .istore 6, 2, 6, 0, .null),
  (233, 0, .iload 6, 2, 6, 0, .null),
  (235, 0, .iload_n 3, 1, 3, 0, .null),
  (236, 0, .if_icmp .ge 26, 3, 262, 0, .null),
  (239, 0, .aload_n 0, 1, 0, 0, .null),
  (240, 0, .iload 4, 2, 4, 0, .null),
  (242, 0, .iload 5, 2, 5, 0, .null),
  (244, 0, .aload_n 0, 1, 0, 0, .null),
  (245, 0, .iload_n 1, 1, 1, 0, .null),
  (246, 0, .iload 6, 2, 6, 0, .null),
  (248, 1433, .invokevirtual 168, 3, 189, 2, .null),
  (251, 1469, .invokevirtual 172, 3, 191, 3, .null),
  (254, 0, .istore 5, 2, 5, 0, .null),
  (256, 0, .iinc 6 1, 3, 6, 0, .int (1)),
  (259, 0, .goto (-26), 3, 233, 0, .null),
  (262, 0, .aload_n 0, 1, 0, 0, .null),
  (263, 1227, .getfield 58, 3, 12, 15, .null),
  (266, 0, .iload_n 1, 1, 1, 0, .null),
  (267, 0, .iconst 1, 1, 0, 0, .int (1)),
  (268, 0, .iadd, 1, 0, 0, .null),
  (269, 0, .iload 5, 2, 5, 0, .null),
  (271, 0, .iastore, 1, 0, 0, .null),
  (272, 0, .iconst 1, 1, 0, 0, .int (1)),
  (273, 0, .ireturn, 1, 0, 0, .null),
  (274, 0, .aload_n 0, 1, 0, 0, .null),
  (275, 0, .iload_n 1, 1, 1, 0, .null),
  (276, 0, .iload_n 3, 1, 3, 0, .null),
  (277, 0, .iload 4, 2, 4, 0, .null),
  (279, 1473, .invokevirtual 176, 3, 192, 3, .null),
  (282, 0, .ireturn, 1, 0, 0, .null)]
abbrev id_X12_turns : Nat := 190
def mi_X12_turns : MI := (yX12_turns, cX12_turns, 7, (some .boolean), 12, ct_X12_turns)
theorem fe_X12_turns_0 : mj_f mi_X12_turns 0 = some (.aload_n 0, 1, 0, 0, .null) := by decide +kernel
theorem fe_X12_turns_1 : mj_f mi_X12_turns 1 = some (.getfield 58, 3, 12, 15, .null) := by decide +kernel
theorem fe_X12_turns_4 : mj_f mi_X12_turns 4 = some (.iload_n 1, 1, 1, 0, .null) := by decide +kernel
theorem fe_X12_turns_5 : mj_f mi_X12_turns 5 = some (.iaload, 1, 0, 0, .null) := by decide +kernel
theorem fe_X12_turns_6 : mj_f mi_X12_turns 6 = some (.istore_n 3, 1, 3, 0, .null) := by decide +kernel
theorem fe_X12_turns_7 : mj_f mi_X12_turns 7 = some (.iload_n 2, 1, 2, 0, .null) := by decide +kernel
theorem fe_X12_turns_8 : mj_f mi_X12_turns 8 = some (.bipush 6, 2, 0, 0, .int (6)) := by decide +kernel
theorem fe_X12_turns_10 : mj_f mi_X12_turns 10 = some (.if_icmp .ge 10, 3, 20, 0, .null) := by decide +kernel
theorem fe_X12_turns_13 : mj_f mi_X12_turns 13 = some (.iload_n 3, 1, 3, 0, .null) := by decide +kernel
theorem fe_X12_turns_14 : mj_f mi_X12_turns 14 = some (.iconst 2, 1, 0, 0, .int (2)) := by decide +kernel
theorem fe_X12_turns_15 : mj_f mi_X12_turns 15 = some (.if_icmp .ge 5, 3, 20, 0, .null) := by decide +kernel
theorem fe_X12_turns_18 : mj_f mi_X12_turns 18 = some (.iconst 0, 1, 0, 0, .int (0)) := by decide +kernel
theorem fe_X12_turns_19 : mj_f mi_X12_turns 19 = some (.ireturn, 1, 0, 0, .null) := by decide +kernel
theorem fe_X12_turns_20 : mj_f mi_X12_turns 20 = some (.bipush 33, 2, 0, 0, .int (33)) := by decide +kernel
theorem fe_X12_turns_22 : mj_f mi_X12_turns 22 = some (.iload_n 1, 1, 1, 0, .null) := by decide +kernel
theorem fe_X12_turns_23 : mj_f mi_X12_turns 23 = some (.iconst 1, 1, 0, 0, .int (1)) := by decide +kernel
theorem fe_X12_turns_24 : mj_f mi_X12_turns 24 = some (.iadd, 1, 0, 0, .null) := by decide +kernel
theorem fe_X12_turns_25 : mj_f mi_X12_turns 25 = some (.imul, 1, 0, 0, .null) := by decide +kernel
theorem fe_X12_turns_26 : mj_f mi_X12_turns 26 = some (.istore 4, 2, 4, 0, .null) := by decide +kernel
theorem fe_X12_turns_28 : mj_f mi_X12_turns 28 = some (.iconst 0, 1, 0, 0, .int (0)) := by decide +kernel
theorem fe_X12_turns_29 : mj_f mi_X12_turns 29 = some (.istore 5, 2, 5, 0, .null) := by decide +kernel
theorem fe_X12_turns_31 : mj_f mi_X12_turns 31 = some (.iload_n 2, 1, 2, 0, .null) := by decide +kernel
theorem fe_X12_turns_32 : mj_f mi_X12_turns 32 = some (.tableswitch 242 3 5 #[28, 95, 198], 28, 0, 0, .null) := by decide +kernel
theorem fe_X12_turns_60 : mj_f mi_X12_turns 60 = some (.iconst 0, 1, 0, 0, .int (0)) := by decide +kernel
theorem fe_X12_turns_61 : mj_f mi_X12_turns 61 = some (.istore 6, 2, 6, 0, .null) := by decide +kernel
theorem fe_X12_turns_63 : mj_f mi_X12_turns 63 = some (.iload 6, 2, 6, 0, .null) := by decide +kernel
theorem fe_X12_turns_65 : mj_f mi_X12_turns 65 = some (.iload_n 3, 1, 3, 0, .null) := by decide +kernel
theorem fe_X12_turns_66 : mj_f mi_X12_turns 66 = some (.if_icmp .ge 50, 3, 116, 0, .null) := by decide +kernel
theorem fe_X12_turns_69 : mj_f mi_X12_turns 69 = some (.aload_n 0, 1, 0, 0, .null) := by decide +kernel
theorem fe_X12_turns_70 : mj_f mi_X12_turns 70 = some (.getfield 55, 3, 12, 14, .null) := by decide +kernel
theorem fe_X12_turns_73 : mj_f mi_X12_turns 73 = some (.iload 4, 2, 4, 0, .null) := by decide +kernel
theorem fe_X12_turns_75 : mj_f mi_X12_turns 75 = some (.iload 6, 2, 6, 0, .null) := by decide +kernel
theorem fe_X12_turns_77 : mj_f mi_X12_turns 77 = some (.iadd, 1, 0, 0, .null) := by decide +kernel
theorem fe_X12_turns_78 : mj_f mi_X12_turns 78 = some (.iload 6, 2, 6, 0, .null) := by decide +kernel
theorem fe_X12_turns_80 : mj_f mi_X12_turns 80 = some (.ifCond .ne 12, 3, 92, 0, .null) := by decide +kernel
theorem fe_X12_turns_83 : mj_f mi_X12_turns 83 = some (.aload_n 0, 1, 0, 0, .null) := by decide +kernel
theorem fe_X12_turns_84 : mj_f mi_X12_turns 84 = some (.iload_n 1, 1, 1, 0, .null) := by decide +kernel
theorem fe_X12_turns_85 : mj_f mi_X12_turns 85 = some (.iconst 0, 1, 0, 0, .int (0)) := by decide +kernel
theorem fe_X12_turns_86 : mj_f mi_X12_turns 86 = some (.invokevirtual 168, 3, 189, 2, .null) := by decide +kernel
theorem fe_X12_turns_89 : mj_f mi_X12_turns 89 = some (.goto 20, 3, 109, 0, .null) := by decide +kernel
theorem fe_X12_turns_92 : mj_f mi_X12_turns 92 = some (.aload_n 0, 1, 0, 0, .null) := by decide +kernel
theorem fe_X12_turns_93 : mj_f mi_X12_turns 93 = some (.iload_n 1, 1, 1, 0, .null) := by decide +kernel
theorem fe_X12_turns_94 : mj_f mi_X12_turns 94 = some (.iload 6, 2, 6, 0, .null) := by decide +kernel
theorem fe_X12_turns_96 : mj_f mi_X12_turns 96 = some (.invokevirtual 168, 3, 189, 2, .null) := by decide +kernel
theorem fe_X12_turns_99 : mj_f mi_X12_turns 99 = some (.aload_n 0, 1, 0, 0, .null) := by decide +kernel
theorem fe_X12_turns_100 : mj_f mi_X12_turns 100 = some (.iload_n 1, 1, 1, 0, .null) := by decide +kernel
theorem fe_X12_turns_101 : mj_f mi_X12_turns 101 = some (.iload 6, 2, 6, 0, .null) := by decide +kernel
theorem fe_X12_turns_103 : mj_f mi_X12_turns 103 = some (.iconst 1, 1, 0, 0, .int (1)) := by decide +kernel
theorem fe_X12_turns_104 : mj_f mi_X12_turns 104 = some (.isub, 1, 0, 0, .null) := by decide +kernel
theorem fe_X12_turns_105 : mj_f mi_X12_turns 105 = some (.invokevirtual 168, 3, 189, 2, .null) := by decide +kernel
theorem fe_X12_turns_108 : mj_f mi_X12_turns 108 = some (.lsub, 1, 0, 0, .null) := by decide +kernel
theorem fe_X12_turns_109 : mj_f mi_X12_turns 109 = some (.lastore, 1, 0, 0, .null) := by decide +kernel
theorem fe_X12_turns_110 : mj_f mi_X12_turns 110 = some (.iinc 6 1, 3, 6, 0, .int (1)) := by decide +kernel
theorem fe_X12_turns_113 : mj_f mi_X12_turns 113 = some (.goto (-50), 3, 63, 0, .null) := by decide +kernel
theorem fe_X12_turns_116 : mj_f mi_X12_turns 116 = some (.aload_n 0, 1, 0, 0, .null) := by decide +kernel
theorem fe_X12_turns_117 : mj_f mi_X12_turns 117 = some (.getfield 58, 3, 12, 15, .null) := by decide +kernel
theorem fe_X12_turns_120 : mj_f mi_X12_turns 120 = some (.iload_n 1, 1, 1, 0, .null) := by decide +kernel
theorem fe_X12_turns_121 : mj_f mi_X12_turns 121 = some (.iconst 1, 1, 0, 0, .int (1)) := by decide +kernel
theorem fe_X12_turns_122 : mj_f mi_X12_turns 122 = some (.iadd, 1, 0, 0, .null) := by decide +kernel
theorem fe_X12_turns_123 : mj_f mi_X12_turns 123 = some (.iload_n 3, 1, 3, 0, .null) := by decide +kernel
theorem fe_X12_turns_124 : mj_f mi_X12_turns 124 = some (.iastore, 1, 0, 0, .null) := by decide +kernel
theorem fe_X12_turns_125 : mj_f mi_X12_turns 125 = some (.iconst 1, 1, 0, 0, .int (1)) := by decide +kernel
theorem fe_X12_turns_126 : mj_f mi_X12_turns 126 = some (.ireturn, 1, 0, 0, .null) := by decide +kernel
theorem fe_X12_turns_127 : mj_f mi_X12_turns 127 = some (.iconst 0, 1, 0, 0, .int (0)) := by decide +kernel
theorem fe_X12_turns_128 : mj_f mi_X12_turns 128 = some (.istore 6, 2, 6, 0, .null) := by decide +kernel
theorem fe_X12_turns_130 : mj_f mi_X12_turns 130 = some (.iload 6, 2, 6, 0, .null) := by decide +kernel
theorem fe_X12_turns_132 : mj_f mi_X12_turns 132 = some (.iload_n 3, 1, 3, 0, .null) := by decide +kernel
theorem fe_X12_turns_133 : mj_f mi_X12_turns 133 = some (.if_icmp .ge 85, 3, 218, 0, .null) := by decide +kernel
theorem fe_X12_turns_136 : mj_f mi_X12_turns 136 = some (.iload 6, 2, 6, 0, .null) := by decide +kernel
theorem fe_X12_turns_138 : mj_f mi_X12_turns 138 = some (.ifCond .eq 23, 3, 161, 0, .null) := by decide +kernel
theorem fe_X12_turns_141 : mj_f mi_X12_turns 141 = some (.aload_n 0, 1, 0, 0, .null) := by decide +kernel
theorem fe_X12_turns_142 : mj_f mi_X12_turns 142 = some (.iload_n 1, 1, 1, 0, .null) := by decide +kernel
theorem fe_X12_turns_143 : mj_f mi_X12_turns 143 = some (.iload 6, 2, 6, 0, .null) := by decide +kernel
theorem fe_X12_turns_145 : mj_f mi_X12_turns 145 = some (.invokevirtual 168, 3, 189, 2, .null) := by decide +kernel
theorem fe_X12_turns_148 : mj_f mi_X12_turns 148 = some (.aload_n 0, 1, 0, 0, .null) := by decide +kernel
theorem fe_X12_turns_149 : mj_f mi_X12_turns 149 = some (.iload_n 1, 1, 1, 0, .null) := by decide +kernel
theorem fe_X12_turns_150 : mj_f mi_X12_turns 150 = some (.iload 6, 2, 6, 0, .null) := by decide +kernel
theorem fe_X12_turns_152 : mj_f mi_X12_turns 152 = some (.iconst 1, 1, 0, 0, .int (1)) := by decide +kernel
theorem fe_X12_turns_153 : mj_f mi_X12_turns 153 = some (.isub, 1, 0, 0, .null) := by decide +kernel
theorem fe_X12_turns_154 : mj_f mi_X12_turns 154 = some (.invokevirtual 168, 3, 189, 2, .null) := by decide +kernel
theorem fe_X12_turns_157 : mj_f mi_X12_turns 157 = some (.lcmp, 1, 0, 0, .null) := by decide +kernel
theorem fe_X12_turns_158 : mj_f mi_X12_turns 158 = some (.ifCond .eq 36, 3, 194, 0, .null) := by decide +kernel
theorem fe_X12_turns_161 : mj_f mi_X12_turns 161 = some (.aload_n 0, 1, 0, 0, .null) := by decide +kernel
theorem fe_X12_turns_162 : mj_f mi_X12_turns 162 = some (.getfield 55, 3, 12, 14, .null) := by decide +kernel
theorem fe_X12_turns_165 : mj_f mi_X12_turns 165 = some (.iload 4, 2, 4, 0, .null) := by decide +kernel
theorem fe_X12_turns_167 : mj_f mi_X12_turns 167 = some (.iload 5, 2, 5, 0, .null) := by decide +kernel
theorem fe_X12_turns_169 : mj_f mi_X12_turns 169 = some (.iadd, 1, 0, 0, .null) := by decide +kernel
theorem fe_X12_turns_170 : mj_f mi_X12_turns 170 = some (.aload_n 0, 1, 0, 0, .null) := by decide +kernel
theorem fe_X12_turns_171 : mj_f mi_X12_turns 171 = some (.iload_n 1, 1, 1, 0, .null) := by decide +kernel
theorem fe_X12_turns_172 : mj_f mi_X12_turns 172 = some (.iload 6, 2, 6, 0, .null) := by decide +kernel
theorem fe_X12_turns_174 : mj_f mi_X12_turns 174 = some (.invokevirtual 168, 3, 189, 2, .null) := by decide +kernel
theorem fe_X12_turns_177 : mj_f mi_X12_turns 177 = some (.lastore, 1, 0, 0, .null) := by decide +kernel
theorem fe_X12_turns_178 : mj_f mi_X12_turns 178 = some (.aload_n 0, 1, 0, 0, .null) := by decide +kernel
theorem fe_X12_turns_179 : mj_f mi_X12_turns 179 = some (.getfield 64, 3, 12, 17, .null) := by decide +kernel
theorem fe_X12_turns_182 : mj_f mi_X12_turns 182 = some (.bipush 33, 2, 0, 0, .int (33)) := by decide +kernel
theorem fe_X12_turns_184 : mj_f mi_X12_turns 184 = some (.iload_n 1, 1, 1, 0, .null) := by decide +kernel
theorem fe_X12_turns_185 : mj_f mi_X12_turns 185 = some (.imul, 1, 0, 0, .null) := by decide +kernel
theorem fe_X12_turns_186 : mj_f mi_X12_turns 186 = some (.iload 5, 2, 5, 0, .null) := by decide +kernel
theorem fe_X12_turns_188 : mj_f mi_X12_turns 188 = some (.iadd, 1, 0, 0, .null) := by decide +kernel
theorem fe_X12_turns_189 : mj_f mi_X12_turns 189 = some (.iconst 0, 1, 0, 0, .int (0)) := by decide +kernel
theorem fe_X12_turns_190 : mj_f mi_X12_turns 190 = some (.iastore, 1, 0, 0, .null) := by decide +kernel
theorem fe_X12_turns_191 : mj_f mi_X12_turns 191 = some (.iinc 5 1, 3, 5, 0, .int (1)) := by decide +kernel
theorem fe_X12_turns_194 : mj_f mi_X12_turns 194 = some (.aload_n 0, 1, 0, 0, .null) := by decide +kernel
theorem fe_X12_turns_195 : mj_f mi_X12_turns 195 = some (.getfield 64, 3, 12, 17, .null) := by decide +kernel
theorem fe_X12_turns_198 : mj_f mi_X12_turns 198 = some (.bipush 33, 2, 0, 0, .int (33)) := by decide +kernel
theorem fe_X12_turns_200 : mj_f mi_X12_turns 200 = some (.iload_n 1, 1, 1, 0, .null) := by decide +kernel
theorem fe_X12_turns_201 : mj_f mi_X12_turns 201 = some (.imul, 1, 0, 0, .null) := by decide +kernel
theorem fe_X12_turns_202 : mj_f mi_X12_turns 202 = some (.iload 5, 2, 5, 0, .null) := by decide +kernel
theorem fe_X12_turns_204 : mj_f mi_X12_turns 204 = some (.iadd, 1, 0, 0, .null) := by decide +kernel
theorem fe_X12_turns_205 : mj_f mi_X12_turns 205 = some (.iconst 1, 1, 0, 0, .int (1)) := by decide +kernel
theorem fe_X12_turns_206 : mj_f mi_X12_turns 206 = some (.isub, 1, 0, 0, .null) := by decide +kernel
theorem fe_X12_turns_207 : mj_f mi_X12_turns 207 = some (.dup2, 1, 0, 0, .null) := by decide +kernel
theorem fe_X12_turns_208 : mj_f mi_X12_turns 208 = some (.iaload, 1, 0, 0, .null) := by decide +kernel
theorem fe_X12_turns_209 : mj_f mi_X12_turns 209 = some (.iconst 1, 1, 0, 0, .int (1)) := by decide +kernel
theorem fe_X12_turns_210 : mj_f mi_X12_turns 210 = some (.iadd, 1, 0, 0, .null) := by decide +kernel
theorem fe_X12_turns_211 : mj_f mi_X12_turns 211 = some (.iastore, 1, 0, 0, .null) := by decide +kernel
theorem fe_X12_turns_212 : mj_f mi_X12_turns 212 = some (.iinc 6 1, 3, 6, 0, .int (1)) := by decide +kernel
theorem fe_X12_turns_215 : mj_f mi_X12_turns 215 = some (.goto (-85), 3, 130, 0, .null) := by decide +kernel
theorem fe_X12_turns_218 : mj_f mi_X12_turns 218 = some (.aload_n 0, 1, 0, 0, .null) := by decide +kernel
theorem fe_X12_turns_219 : mj_f mi_X12_turns 219 = some (.getfield 58, 3, 12, 15, .null) := by decide +kernel
theorem fe_X12_turns_222 : mj_f mi_X12_turns 222 = some (.iload_n 1, 1, 1, 0, .null) := by decide +kernel
theorem fe_X12_turns_223 : mj_f mi_X12_turns 223 = some (.iconst 1, 1, 0, 0, .int (1)) := by decide +kernel
theorem fe_X12_turns_224 : mj_f mi_X12_turns 224 = some (.iadd, 1, 0, 0, .null) := by decide +kernel
theorem fe_X12_turns_225 : mj_f mi_X12_turns 225 = some (.iload 5, 2, 5, 0, .null) := by decide +kernel
theorem fe_X12_turns_227 : mj_f mi_X12_turns 227 = some (.iastore, 1, 0, 0, .null) := by decide +kernel
theorem fe_X12_turns_228 : mj_f mi_X12_turns 228 = some (.iconst 1, 1, 0, 0, .int (1)) := by decide +kernel
theorem fe_X12_turns_229 : mj_f mi_X12_turns 229 = some (.ireturn, 1, 0, 0, .null) := by decide +kernel
theorem fe_X12_turns_230 : mj_f mi_X12_turns 230 = some (.iconst 0, 1, 0, 0, .int (0)) := by decide +kernel
theorem fe_X12_turns_231 : mj_f mi_X12_turns 231 = some (.istore 6, 2, 6, 0, .null) := by decide +kernel
theorem fe_X12_turns_233 : mj_f mi_X12_turns 233 = some (.iload 6, 2, 6, 0, .null) := by decide +kernel
theorem fe_X12_turns_235 : mj_f mi_X12_turns 235 = some (.iload_n 3, 1, 3, 0, .null) := by decide +kernel
theorem fe_X12_turns_236 : mj_f mi_X12_turns 236 = some (.if_icmp .ge 26, 3, 262, 0, .null) := by decide +kernel
theorem fe_X12_turns_239 : mj_f mi_X12_turns 239 = some (.aload_n 0, 1, 0, 0, .null) := by decide +kernel
theorem fe_X12_turns_240 : mj_f mi_X12_turns 240 = some (.iload 4, 2, 4, 0, .null) := by decide +kernel
theorem fe_X12_turns_242 : mj_f mi_X12_turns 242 = some (.iload 5, 2, 5, 0, .null) := by decide +kernel
theorem fe_X12_turns_244 : mj_f mi_X12_turns 244 = some (.aload_n 0, 1, 0, 0, .null) := by decide +kernel
theorem fe_X12_turns_245 : mj_f mi_X12_turns 245 = some (.iload_n 1, 1, 1, 0, .null) := by decide +kernel
theorem fe_X12_turns_246 : mj_f mi_X12_turns 246 = some (.iload 6, 2, 6, 0, .null) := by decide +kernel
theorem fe_X12_turns_248 : mj_f mi_X12_turns 248 = some (.invokevirtual 168, 3, 189, 2, .null) := by decide +kernel
theorem fe_X12_turns_251 : mj_f mi_X12_turns 251 = some (.invokevirtual 172, 3, 191, 3, .null) := by decide +kernel
theorem fe_X12_turns_254 : mj_f mi_X12_turns 254 = some (.istore 5, 2, 5, 0, .null) := by decide +kernel
theorem fe_X12_turns_256 : mj_f mi_X12_turns 256 = some (.iinc 6 1, 3, 6, 0, .int (1)) := by decide +kernel
theorem fe_X12_turns_259 : mj_f mi_X12_turns 259 = some (.goto (-26), 3, 233, 0, .null) := by decide +kernel
theorem fe_X12_turns_262 : mj_f mi_X12_turns 262 = some (.aload_n 0, 1, 0, 0, .null) := by decide +kernel
theorem fe_X12_turns_263 : mj_f mi_X12_turns 263 = some (.getfield 58, 3, 12, 15, .null) := by decide +kernel
theorem fe_X12_turns_266 : mj_f mi_X12_turns 266 = some (.iload_n 1, 1, 1, 0, .null) := by decide +kernel
theorem fe_X12_turns_267 : mj_f mi_X12_turns 267 = some (.iconst 1, 1, 0, 0, .int (1)) := by decide +kernel
theorem fe_X12_turns_268 : mj_f mi_X12_turns 268 = some (.iadd, 1, 0, 0, .null) := by decide +kernel
theorem fe_X12_turns_269 : mj_f mi_X12_turns 269 = some (.iload 5, 2, 5, 0, .null) := by decide +kernel
theorem fe_X12_turns_271 : mj_f mi_X12_turns 271 = some (.iastore, 1, 0, 0, .null) := by decide +kernel
theorem fe_X12_turns_272 : mj_f mi_X12_turns 272 = some (.iconst 1, 1, 0, 0, .int (1)) := by decide +kernel
theorem fe_X12_turns_273 : mj_f mi_X12_turns 273 = some (.ireturn, 1, 0, 0, .null) := by decide +kernel
theorem fe_X12_turns_274 : mj_f mi_X12_turns 274 = some (.aload_n 0, 1, 0, 0, .null) := by decide +kernel
theorem fe_X12_turns_275 : mj_f mi_X12_turns 275 = some (.iload_n 1, 1, 1, 0, .null) := by decide +kernel
theorem fe_X12_turns_276 : mj_f mi_X12_turns 276 = some (.iload_n 3, 1, 3, 0, .null) := by decide +kernel
theorem fe_X12_turns_277 : mj_f mi_X12_turns 277 = some (.iload 4, 2, 4, 0, .null) := by decide +kernel
theorem fe_X12_turns_279 : mj_f mi_X12_turns 279 = some (.invokevirtual 176, 3, 192, 3, .null) := by decide +kernel
theorem fe_X12_turns_282 : mj_f mi_X12_turns 282 = some (.ireturn, 1, 0, 0, .null) := by decide +kernel
def ct_X12_sorted : MJT := [
  (0, 0, .iload_n 2, 1, 2, 0, .null),
  (1, 0, .istore 5, 2, 5, 0, .null),
  (3, 0, .iconst 0, 1, 0, 0, .int (0)),
  (4, 0, .istore 6, 2, 6, 0, .null),
  (6, 0, .iload 6, 2, 6, 0, .null),
  (8, 0, .iload_n 2, 1, 2, 0, .null),
  (9, 0, .if_icmp .ge 25, 3, 34, 0, .null),
  (12, 0, .aload_n 0, 1, 0, 0, .null),
  (13, 1226, .getfield 55, 3, 12, 14, .null),
  (16, 0, .iload_n 1, 1, 1, 0, .null),
  (17, 0, .iload 6, 2, 6, 0, .null),
  (19, 0, .iadd, 1, 0, 0, .null),
  (20, 0, .laload, 1, 0, 0, .null),
  (21, 0, .lload_n 3, 1, 3, 0, .null),
  (22, 0, .lcmp, 1, 0, 0, .null),
  (23, 0, .ifCond .ne 5, 3, 28, 0, .null),
  (26, 0, .iload_n 2, 1, 2, 0, .null),
  (27, 0, .ireturn, 1, 0, 0, .null),
  (28, 0, .iinc 6 1, 3, 6, 0, .int (1)),
  (31, 0, .goto (-25), 3, 6, 0, .null),
  (34, 0, .iload 5, 2, 5, 0, .null),
  (36, 0, .ifCond .le 45, 3, 81, 0, .null),
  (39, 0, .aload_n 0, 1, 0, 0, .null),
  (40, 1226, .getfield 55, 3, 12, 14, .null),
  (43, 0, .iload_n 1, 1, 1, 0, .null),
  (44, 0, .iload 5, 2, 5, 0, .null),
  (46, 0, .iadd, 1, 0, 0, .null),
  (47, 0, .iconst 1, 1, 0, 0, .int (1)),
  (48, 0, .isub, 1, 0, 0, .null),
  (49, 0, .laload, 1, 0, 0, .null),
  (50, 0, .lload_n 3, 1, 3, 0, .null),
  (51, 0, .lcmp, 1, 0, 0, .null),
  (52, 0, .ifCond .le 29, 3, 81, 0, .null),
  (55, 0, .aload_n 0, 1, 0, 0, .null),
  (56, 1226, .getfield 55, 3, 12, 14, .null),
  (59, 0, .iload_n 1, 1, 1, 0, .null),
  (60, 0, .iload 5, 2, 5, 0, .null),
  (62, 0, .iadd, 1, 0, 0, .null),
  (63, 0, .aload_n 0, 1, 0, 0, .null),
  (64, 1226, .getfield 55, 3, 12, 14, .null),
  (67, 0, .iload_n 1, 1, 1, 0, .null),
  (68, 0, .iload 5, 2, 5, 0, .null),
  (70, 0, .iadd, 1, 0, 0, .null),
  (71, 0, .iconst 1, 1, 0, 0, .int (1)),
  (72, 0, .isub, 1, 0, 0, .null),
  (73, 0, .laload, 1, 0, 0, .null),
  (74, 0, .lastore, 1, 0, 0, .null),
  (75, 0, .iinc 5 (-1), 3, 5, 0, .int (-1)),
  (78, 0, .goto (-44), 3, 34, 0, .null),
  (81, 0, .aload_n 0, 1, 0, 0, .null),
  (82, 1226, .getfield 55, 3, 12, 14, .null),
  (85, 0, .iload_n 1, 1, 1, 0, .null),
  (86, 0, .iload 5, 2, 5, 0, .null),
  (88, 0, .iadd, 1, 0, 0, .null),
  (89, 0, .lload_n 3, 1, 3, 0, .null),
  (90, 0, .lastore, 1, 0, 0, .null),
  (91, 0, .iload_n 2, 1, 2, 0, .null),
  (92, 0, .iconst 1, 1, 0, 0, .int (1)),
  (93, 0, .iadd, 1, 0, 0, .null),
  (94, 0, .ireturn, 1, 0, 0, .null)]
abbrev id_X12_sorted : Nat := 191
def mi_X12_sorted : MI := (yX12_sorted, cX12_sorted, 7, (some .int), 12, ct_X12_sorted)
theorem fe_X12_sorted_0 : mj_f mi_X12_sorted 0 = some (.iload_n 2, 1, 2, 0, .null) := by decide +kernel
theorem fe_X12_sorted_1 : mj_f mi_X12_sorted 1 = some (.istore 5, 2, 5, 0, .null) := by decide +kernel
theorem fe_X12_sorted_3 : mj_f mi_X12_sorted 3 = some (.iconst 0, 1, 0, 0, .int (0)) := by decide +kernel
theorem fe_X12_sorted_4 : mj_f mi_X12_sorted 4 = some (.istore 6, 2, 6, 0, .null) := by decide +kernel
theorem fe_X12_sorted_6 : mj_f mi_X12_sorted 6 = some (.iload 6, 2, 6, 0, .null) := by decide +kernel
theorem fe_X12_sorted_8 : mj_f mi_X12_sorted 8 = some (.iload_n 2, 1, 2, 0, .null) := by decide +kernel
theorem fe_X12_sorted_9 : mj_f mi_X12_sorted 9 = some (.if_icmp .ge 25, 3, 34, 0, .null) := by decide +kernel
theorem fe_X12_sorted_12 : mj_f mi_X12_sorted 12 = some (.aload_n 0, 1, 0, 0, .null) := by decide +kernel
theorem fe_X12_sorted_13 : mj_f mi_X12_sorted 13 = some (.getfield 55, 3, 12, 14, .null) := by decide +kernel
theorem fe_X12_sorted_16 : mj_f mi_X12_sorted 16 = some (.iload_n 1, 1, 1, 0, .null) := by decide +kernel
theorem fe_X12_sorted_17 : mj_f mi_X12_sorted 17 = some (.iload 6, 2, 6, 0, .null) := by decide +kernel
theorem fe_X12_sorted_19 : mj_f mi_X12_sorted 19 = some (.iadd, 1, 0, 0, .null) := by decide +kernel
theorem fe_X12_sorted_20 : mj_f mi_X12_sorted 20 = some (.laload, 1, 0, 0, .null) := by decide +kernel
theorem fe_X12_sorted_21 : mj_f mi_X12_sorted 21 = some (.lload_n 3, 1, 3, 0, .null) := by decide +kernel
theorem fe_X12_sorted_22 : mj_f mi_X12_sorted 22 = some (.lcmp, 1, 0, 0, .null) := by decide +kernel
theorem fe_X12_sorted_23 : mj_f mi_X12_sorted 23 = some (.ifCond .ne 5, 3, 28, 0, .null) := by decide +kernel
theorem fe_X12_sorted_26 : mj_f mi_X12_sorted 26 = some (.iload_n 2, 1, 2, 0, .null) := by decide +kernel
theorem fe_X12_sorted_27 : mj_f mi_X12_sorted 27 = some (.ireturn, 1, 0, 0, .null) := by decide +kernel
theorem fe_X12_sorted_28 : mj_f mi_X12_sorted 28 = some (.iinc 6 1, 3, 6, 0, .int (1)) := by decide +kernel
theorem fe_X12_sorted_31 : mj_f mi_X12_sorted 31 = some (.goto (-25), 3, 6, 0, .null) := by decide +kernel
theorem fe_X12_sorted_34 : mj_f mi_X12_sorted 34 = some (.iload 5, 2, 5, 0, .null) := by decide +kernel
theorem fe_X12_sorted_36 : mj_f mi_X12_sorted 36 = some (.ifCond .le 45, 3, 81, 0, .null) := by decide +kernel
theorem fe_X12_sorted_39 : mj_f mi_X12_sorted 39 = some (.aload_n 0, 1, 0, 0, .null) := by decide +kernel
theorem fe_X12_sorted_40 : mj_f mi_X12_sorted 40 = some (.getfield 55, 3, 12, 14, .null) := by decide +kernel
theorem fe_X12_sorted_43 : mj_f mi_X12_sorted 43 = some (.iload_n 1, 1, 1, 0, .null) := by decide +kernel
theorem fe_X12_sorted_44 : mj_f mi_X12_sorted 44 = some (.iload 5, 2, 5, 0, .null) := by decide +kernel
theorem fe_X12_sorted_46 : mj_f mi_X12_sorted 46 = some (.iadd, 1, 0, 0, .null) := by decide +kernel
theorem fe_X12_sorted_47 : mj_f mi_X12_sorted 47 = some (.iconst 1, 1, 0, 0, .int (1)) := by decide +kernel
theorem fe_X12_sorted_48 : mj_f mi_X12_sorted 48 = some (.isub, 1, 0, 0, .null) := by decide +kernel
theorem fe_X12_sorted_49 : mj_f mi_X12_sorted 49 = some (.laload, 1, 0, 0, .null) := by decide +kernel
theorem fe_X12_sorted_50 : mj_f mi_X12_sorted 50 = some (.lload_n 3, 1, 3, 0, .null) := by decide +kernel
theorem fe_X12_sorted_51 : mj_f mi_X12_sorted 51 = some (.lcmp, 1, 0, 0, .null) := by decide +kernel
theorem fe_X12_sorted_52 : mj_f mi_X12_sorted 52 = some (.ifCond .le 29, 3, 81, 0, .null) := by decide +kernel
theorem fe_X12_sorted_55 : mj_f mi_X12_sorted 55 = some (.aload_n 0, 1, 0, 0, .null) := by decide +kernel
theorem fe_X12_sorted_56 : mj_f mi_X12_sorted 56 = some (.getfield 55, 3, 12, 14, .null) := by decide +kernel
theorem fe_X12_sorted_59 : mj_f mi_X12_sorted 59 = some (.iload_n 1, 1, 1, 0, .null) := by decide +kernel
theorem fe_X12_sorted_60 : mj_f mi_X12_sorted 60 = some (.iload 5, 2, 5, 0, .null) := by decide +kernel
theorem fe_X12_sorted_62 : mj_f mi_X12_sorted 62 = some (.iadd, 1, 0, 0, .null) := by decide +kernel
theorem fe_X12_sorted_63 : mj_f mi_X12_sorted 63 = some (.aload_n 0, 1, 0, 0, .null) := by decide +kernel
theorem fe_X12_sorted_64 : mj_f mi_X12_sorted 64 = some (.getfield 55, 3, 12, 14, .null) := by decide +kernel
theorem fe_X12_sorted_67 : mj_f mi_X12_sorted 67 = some (.iload_n 1, 1, 1, 0, .null) := by decide +kernel
theorem fe_X12_sorted_68 : mj_f mi_X12_sorted 68 = some (.iload 5, 2, 5, 0, .null) := by decide +kernel
theorem fe_X12_sorted_70 : mj_f mi_X12_sorted 70 = some (.iadd, 1, 0, 0, .null) := by decide +kernel
theorem fe_X12_sorted_71 : mj_f mi_X12_sorted 71 = some (.iconst 1, 1, 0, 0, .int (1)) := by decide +kernel
theorem fe_X12_sorted_72 : mj_f mi_X12_sorted 72 = some (.isub, 1, 0, 0, .null) := by decide +kernel
theorem fe_X12_sorted_73 : mj_f mi_X12_sorted 73 = some (.laload, 1, 0, 0, .null) := by decide +kernel
theorem fe_X12_sorted_74 : mj_f mi_X12_sorted 74 = some (.lastore, 1, 0, 0, .null) := by decide +kernel
theorem fe_X12_sorted_75 : mj_f mi_X12_sorted 75 = some (.iinc 5 (-1), 3, 5, 0, .int (-1)) := by decide +kernel
theorem fe_X12_sorted_78 : mj_f mi_X12_sorted 78 = some (.goto (-44), 3, 34, 0, .null) := by decide +kernel
theorem fe_X12_sorted_81 : mj_f mi_X12_sorted 81 = some (.aload_n 0, 1, 0, 0, .null) := by decide +kernel
theorem fe_X12_sorted_82 : mj_f mi_X12_sorted 82 = some (.getfield 55, 3, 12, 14, .null) := by decide +kernel
theorem fe_X12_sorted_85 : mj_f mi_X12_sorted 85 = some (.iload_n 1, 1, 1, 0, .null) := by decide +kernel
theorem fe_X12_sorted_86 : mj_f mi_X12_sorted 86 = some (.iload 5, 2, 5, 0, .null) := by decide +kernel
theorem fe_X12_sorted_88 : mj_f mi_X12_sorted 88 = some (.iadd, 1, 0, 0, .null) := by decide +kernel
theorem fe_X12_sorted_89 : mj_f mi_X12_sorted 89 = some (.lload_n 3, 1, 3, 0, .null) := by decide +kernel
theorem fe_X12_sorted_90 : mj_f mi_X12_sorted 90 = some (.lastore, 1, 0, 0, .null) := by decide +kernel
theorem fe_X12_sorted_91 : mj_f mi_X12_sorted 91 = some (.iload_n 2, 1, 2, 0, .null) := by decide +kernel
theorem fe_X12_sorted_92 : mj_f mi_X12_sorted 92 = some (.iconst 1, 1, 0, 0, .int (1)) := by decide +kernel
theorem fe_X12_sorted_93 : mj_f mi_X12_sorted 93 = some (.iadd, 1, 0, 0, .null) := by decide +kernel
theorem fe_X12_sorted_94 : mj_f mi_X12_sorted 94 = some (.ireturn, 1, 0, 0, .null) := by decide +kernel
def ct_X12_divides : MJT := [
  (0, 0, .lconst 0, 1, 0, 0, .long 0),
  (1, 0, .lstore 4, 2, 4, 0, .null),
  (3, 0, .iconst 0, 1, 0, 0, .int (0)),
  (4, 0, .istore 6, 2, 6, 0, .null),
  (6, 0, .iload 6, 2, 6, 0, .null),
  (8, 0, .iload_n 2, 1, 2, 0, .null),
  (9, 0, .if_icmp .ge 82, 3, 91, 0, .null),
  (12, 0, .aload_n 0, 1, 0, 0, .null),
  (13, 0, .iload_n 1, 1, 1, 0, .null),
  (14, 0, .iload 6, 2, 6, 0, .null),
  (16, 1433, .invokevirtual 168, 3, 189, 2, .null),
  (19, 1477, .ldc2_w 180, 3, 0, 0, .long (-9223372036854775808)),
  (22, 0, .lcmp, 1, 0, 0, .null),
  (23, 0, .ifCond .ne 5, 3, 28, 0, .null),
  (26, 0, .iconst 0, 1, 0, 0, .int (0)),
  (27, 0, .ireturn, 1, 0, 0, .null),
  (28, 0, .aload_n 0, 1, 0, 0, .null),
  (29, 0, .iload_n 1, 1, 1, 0, .null),
  (30, 0, .iload 6, 2, 6, 0, .null),
  (32, 1433, .invokevirtual 168, 3, 189, 2, .null),
  (35, 0, .lconst 0, 1, 0, 0, .long 0),
  (36, 0, .lcmp, 1, 0, 0, .null),
  (37, 0, .ifCond .ge 14, 3, 51, 0, .null),
  (40, 0, .aload_n 0, 1, 0, 0, .null),
  (41, 0, .iload_n 1, 1, 1, 0, .null),
  (42, 0, .iload 6, 2, 6, 0, .null),
  (44, 1433, .invokevirtual 168, 3, 189, 2, .null),
  (47, 0, .lneg, 1, 0, 0, .null),
  (48, 0, .goto 10, 3, 58, 0, .null),
  (51, 0, .aload_n 0, 1, 0, 0, .null),
  (52, 0, .iload_n 1, 1, 1, 0, .null),
  (53, 0, .iload 6, 2, 6, 0, .null),
  (55, 1433, .invokevirtual 168, 3, 189, 2, .null),
  (58, 0, .lstore 7, 2, 7, 0, .null),
  (60, 0, .lload 7, 2, 7, 0, .null),
  (62, 0, .lconst 0, 1, 0, 0, .long 0),
  (63, 0, .lcmp, 1, 0, 0, .null),
  (64, 0, .ifCond .eq 21, 3, 85, 0, .null),
  (67, 0, .lload 4, 2, 4, 0, .null),
  (69, 0, .lload 7, 2, 7, 0, .null),
  (71, 0, .lrem, 1, 0, 0, .null),
  (72, 0, .lstore 9, 2, 9, 0, .null),
  (74, 0, .lload 7, 2, 7, 0, .null),
  (76, 0, .lstore 4, 2, 4, 0, .null),
  (78, 0, .lload 9, 2, 9, 0, .null),
  (80, 0, .lstore 7, 2, 7, 0, .null),
  (82, 0, .goto (-22), 3, 60, 0, .null),
  (85, 0, .iinc 6 1, 3, 6, 0, .int (1)),
  (88, 0, .goto (-82), 3, 6, 0, .null),
  (91, 0, .lload 4, 2, 4, 0, .null),
  (93, 1478, .ldc2_w 182, 3, 0, 0, .long (2)),
  (96, 0, .lcmp, 1, 0, 0, .null),
  (97, 0, .ifCond .ge 5, 3, 102, 0, .null),
  (100, 0, .iconst 0, 1, 0, 0, .int (0)),
  (101, 0, .ireturn, 1, 0, 0, .null),
  (102, 0, .aload_n 0, 1, 0, 0, .null),
  (103, 1228, .getfield 61, 3, 12, 16, .null),
  (106, 0, .iload_n 1, 1, 1, 0, .null),
  (107, 0, .lload 4, 2, 4, 0, .null),
  (109, 0, .lastore, 1, 0, 0, .null),
  (110, 0, .iconst 0, 1, 0, 0, .int (0)),
  (111, 0, .istore 6, 2, 6, 0, .null),
  (113, 0, .iload 6, 2, 6, 0, .null),
  (115, 0, .iload_n 2, 1, 2, 0, .null),
  (116, 0, .if_icmp .ge 28, 3, 144, 0, .null),
  (119, 0, .aload_n 0, 1, 0, 0, .null),
  (120, 1226, .getfield 55, 3, 12, 14, .null),
  (123, 0, .iload_n 3, 1, 3, 0, .null),
  (124, 0, .iload 6, 2, 6, 0, .null),
  (126, 0, .iadd, 1, 0, 0, .null),
  (127, 0, .aload_n 0, 1, 0, 0, .null),
  (128, 0, .iload_n 1, 1, 1, 0, .null),
  (129, 0, .iload 6, 2, 6, 0, .null),
  (131, 1433, .invokevirtual 168, 3, 189, 2, .null),
  (134, 0, .lload 4, 2, 4, 0, .null),
  (136, 0, .ldiv, 1, 0, 0, .null),
  (137, 0, .lastore, 1, 0, 0, .null),
  (138, 0, .iinc 6 1, 3, 6, 0, .int (1)),
  (141, 0, .goto (-28), 3, 113, 0, .null),
  (144, 0, .aload_n 0, 1, 0, 0, .null),
  (145, 1227, .getfield 58, 3, 12, 15, .null),
  (148, 0, .iload_n 1, 1, 1, 0, .null),
  (149, 0, .iconst 1, 1, 0, 0, .int (1)),
  (150, 0, .iadd, 1, 0, 0, .null),
  (151, 0, .iload_n 2, 1, 2, 0, .null),
  (152, 0, .iastore, 1, 0, 0, .null),
  (153, 0, .iconst 1, 1, 0, 0, .int (1)),
  (154, 0, .ireturn, 1, 0, 0, .null)]
abbrev id_X12_divides : Nat := 192
def mi_X12_divides : MI := (yX12_divides, cX12_divides, 11, (some .boolean), 12, ct_X12_divides)
theorem fe_X12_divides_0 : mj_f mi_X12_divides 0 = some (.lconst 0, 1, 0, 0, .long 0) := by decide +kernel
theorem fe_X12_divides_1 : mj_f mi_X12_divides 1 = some (.lstore 4, 2, 4, 0, .null) := by decide +kernel
theorem fe_X12_divides_3 : mj_f mi_X12_divides 3 = some (.iconst 0, 1, 0, 0, .int (0)) := by decide +kernel
theorem fe_X12_divides_4 : mj_f mi_X12_divides 4 = some (.istore 6, 2, 6, 0, .null) := by decide +kernel
theorem fe_X12_divides_6 : mj_f mi_X12_divides 6 = some (.iload 6, 2, 6, 0, .null) := by decide +kernel
theorem fe_X12_divides_8 : mj_f mi_X12_divides 8 = some (.iload_n 2, 1, 2, 0, .null) := by decide +kernel
theorem fe_X12_divides_9 : mj_f mi_X12_divides 9 = some (.if_icmp .ge 82, 3, 91, 0, .null) := by decide +kernel
theorem fe_X12_divides_12 : mj_f mi_X12_divides 12 = some (.aload_n 0, 1, 0, 0, .null) := by decide +kernel
theorem fe_X12_divides_13 : mj_f mi_X12_divides 13 = some (.iload_n 1, 1, 1, 0, .null) := by decide +kernel
theorem fe_X12_divides_14 : mj_f mi_X12_divides 14 = some (.iload 6, 2, 6, 0, .null) := by decide +kernel
theorem fe_X12_divides_16 : mj_f mi_X12_divides 16 = some (.invokevirtual 168, 3, 189, 2, .null) := by decide +kernel
theorem fe_X12_divides_19 : mj_f mi_X12_divides 19 = some (.ldc2_w 180, 3, 0, 0, .long (-9223372036854775808)) := by decide +kernel
theorem fe_X12_divides_22 : mj_f mi_X12_divides 22 = some (.lcmp, 1, 0, 0, .null) := by decide +kernel
theorem fe_X12_divides_23 : mj_f mi_X12_divides 23 = some (.ifCond .ne 5, 3, 28, 0, .null) := by decide +kernel
theorem fe_X12_divides_26 : mj_f mi_X12_divides 26 = some (.iconst 0, 1, 0, 0, .int (0)) := by decide +kernel
theorem fe_X12_divides_27 : mj_f mi_X12_divides 27 = some (.ireturn, 1, 0, 0, .null) := by decide +kernel
theorem fe_X12_divides_28 : mj_f mi_X12_divides 28 = some (.aload_n 0, 1, 0, 0, .null) := by decide +kernel
theorem fe_X12_divides_29 : mj_f mi_X12_divides 29 = some (.iload_n 1, 1, 1, 0, .null) := by decide +kernel
theorem fe_X12_divides_30 : mj_f mi_X12_divides 30 = some (.iload 6, 2, 6, 0, .null) := by decide +kernel
theorem fe_X12_divides_32 : mj_f mi_X12_divides 32 = some (.invokevirtual 168, 3, 189, 2, .null) := by decide +kernel
theorem fe_X12_divides_35 : mj_f mi_X12_divides 35 = some (.lconst 0, 1, 0, 0, .long 0) := by decide +kernel
theorem fe_X12_divides_36 : mj_f mi_X12_divides 36 = some (.lcmp, 1, 0, 0, .null) := by decide +kernel
theorem fe_X12_divides_37 : mj_f mi_X12_divides 37 = some (.ifCond .ge 14, 3, 51, 0, .null) := by decide +kernel
theorem fe_X12_divides_40 : mj_f mi_X12_divides 40 = some (.aload_n 0, 1, 0, 0, .null) := by decide +kernel
theorem fe_X12_divides_41 : mj_f mi_X12_divides 41 = some (.iload_n 1, 1, 1, 0, .null) := by decide +kernel
theorem fe_X12_divides_42 : mj_f mi_X12_divides 42 = some (.iload 6, 2, 6, 0, .null) := by decide +kernel
theorem fe_X12_divides_44 : mj_f mi_X12_divides 44 = some (.invokevirtual 168, 3, 189, 2, .null) := by decide +kernel
theorem fe_X12_divides_47 : mj_f mi_X12_divides 47 = some (.lneg, 1, 0, 0, .null) := by decide +kernel
theorem fe_X12_divides_48 : mj_f mi_X12_divides 48 = some (.goto 10, 3, 58, 0, .null) := by decide +kernel
theorem fe_X12_divides_51 : mj_f mi_X12_divides 51 = some (.aload_n 0, 1, 0, 0, .null) := by decide +kernel
theorem fe_X12_divides_52 : mj_f mi_X12_divides 52 = some (.iload_n 1, 1, 1, 0, .null) := by decide +kernel
theorem fe_X12_divides_53 : mj_f mi_X12_divides 53 = some (.iload 6, 2, 6, 0, .null) := by decide +kernel
theorem fe_X12_divides_55 : mj_f mi_X12_divides 55 = some (.invokevirtual 168, 3, 189, 2, .null) := by decide +kernel
theorem fe_X12_divides_58 : mj_f mi_X12_divides 58 = some (.lstore 7, 2, 7, 0, .null) := by decide +kernel
theorem fe_X12_divides_60 : mj_f mi_X12_divides 60 = some (.lload 7, 2, 7, 0, .null) := by decide +kernel
theorem fe_X12_divides_62 : mj_f mi_X12_divides 62 = some (.lconst 0, 1, 0, 0, .long 0) := by decide +kernel
theorem fe_X12_divides_63 : mj_f mi_X12_divides 63 = some (.lcmp, 1, 0, 0, .null) := by decide +kernel
theorem fe_X12_divides_64 : mj_f mi_X12_divides 64 = some (.ifCond .eq 21, 3, 85, 0, .null) := by decide +kernel
theorem fe_X12_divides_67 : mj_f mi_X12_divides 67 = some (.lload 4, 2, 4, 0, .null) := by decide +kernel
theorem fe_X12_divides_69 : mj_f mi_X12_divides 69 = some (.lload 7, 2, 7, 0, .null) := by decide +kernel
theorem fe_X12_divides_71 : mj_f mi_X12_divides 71 = some (.lrem, 1, 0, 0, .null) := by decide +kernel
theorem fe_X12_divides_72 : mj_f mi_X12_divides 72 = some (.lstore 9, 2, 9, 0, .null) := by decide +kernel
theorem fe_X12_divides_74 : mj_f mi_X12_divides 74 = some (.lload 7, 2, 7, 0, .null) := by decide +kernel
theorem fe_X12_divides_76 : mj_f mi_X12_divides 76 = some (.lstore 4, 2, 4, 0, .null) := by decide +kernel
theorem fe_X12_divides_78 : mj_f mi_X12_divides 78 = some (.lload 9, 2, 9, 0, .null) := by decide +kernel
theorem fe_X12_divides_80 : mj_f mi_X12_divides 80 = some (.lstore 7, 2, 7, 0, .null) := by decide +kernel
theorem fe_X12_divides_82 : mj_f mi_X12_divides 82 = some (.goto (-22), 3, 60, 0, .null) := by decide +kernel
theorem fe_X12_divides_85 : mj_f mi_X12_divides 85 = some (.iinc 6 1, 3, 6, 0, .int (1)) := by decide +kernel
theorem fe_X12_divides_88 : mj_f mi_X12_divides 88 = some (.goto (-82), 3, 6, 0, .null) := by decide +kernel
theorem fe_X12_divides_91 : mj_f mi_X12_divides 91 = some (.lload 4, 2, 4, 0, .null) := by decide +kernel
theorem fe_X12_divides_93 : mj_f mi_X12_divides 93 = some (.ldc2_w 182, 3, 0, 0, .long (2)) := by decide +kernel
theorem fe_X12_divides_96 : mj_f mi_X12_divides 96 = some (.lcmp, 1, 0, 0, .null) := by decide +kernel
theorem fe_X12_divides_97 : mj_f mi_X12_divides 97 = some (.ifCond .ge 5, 3, 102, 0, .null) := by decide +kernel
theorem fe_X12_divides_100 : mj_f mi_X12_divides 100 = some (.iconst 0, 1, 0, 0, .int (0)) := by decide +kernel
theorem fe_X12_divides_101 : mj_f mi_X12_divides 101 = some (.ireturn, 1, 0, 0, .null) := by decide +kernel
theorem fe_X12_divides_102 : mj_f mi_X12_divides 102 = some (.aload_n 0, 1, 0, 0, .null) := by decide +kernel
theorem fe_X12_divides_103 : mj_f mi_X12_divides 103 = some (.getfield 61, 3, 12, 16, .null) := by decide +kernel
theorem fe_X12_divides_106 : mj_f mi_X12_divides 106 = some (.iload_n 1, 1, 1, 0, .null) := by decide +kernel
theorem fe_X12_divides_107 : mj_f mi_X12_divides 107 = some (.lload 4, 2, 4, 0, .null) := by decide +kernel
theorem fe_X12_divides_109 : mj_f mi_X12_divides 109 = some (.lastore, 1, 0, 0, .null) := by decide +kernel
theorem fe_X12_divides_110 : mj_f mi_X12_divides 110 = some (.iconst 0, 1, 0, 0, .int (0)) := by decide +kernel
theorem fe_X12_divides_111 : mj_f mi_X12_divides 111 = some (.istore 6, 2, 6, 0, .null) := by decide +kernel
theorem fe_X12_divides_113 : mj_f mi_X12_divides 113 = some (.iload 6, 2, 6, 0, .null) := by decide +kernel
theorem fe_X12_divides_115 : mj_f mi_X12_divides 115 = some (.iload_n 2, 1, 2, 0, .null) := by decide +kernel
theorem fe_X12_divides_116 : mj_f mi_X12_divides 116 = some (.if_icmp .ge 28, 3, 144, 0, .null) := by decide +kernel
theorem fe_X12_divides_119 : mj_f mi_X12_divides 119 = some (.aload_n 0, 1, 0, 0, .null) := by decide +kernel
theorem fe_X12_divides_120 : mj_f mi_X12_divides 120 = some (.getfield 55, 3, 12, 14, .null) := by decide +kernel
theorem fe_X12_divides_123 : mj_f mi_X12_divides 123 = some (.iload_n 3, 1, 3, 0, .null) := by decide +kernel
theorem fe_X12_divides_124 : mj_f mi_X12_divides 124 = some (.iload 6, 2, 6, 0, .null) := by decide +kernel
theorem fe_X12_divides_126 : mj_f mi_X12_divides 126 = some (.iadd, 1, 0, 0, .null) := by decide +kernel
theorem fe_X12_divides_127 : mj_f mi_X12_divides 127 = some (.aload_n 0, 1, 0, 0, .null) := by decide +kernel
theorem fe_X12_divides_128 : mj_f mi_X12_divides 128 = some (.iload_n 1, 1, 1, 0, .null) := by decide +kernel
theorem fe_X12_divides_129 : mj_f mi_X12_divides 129 = some (.iload 6, 2, 6, 0, .null) := by decide +kernel
theorem fe_X12_divides_131 : mj_f mi_X12_divides 131 = some (.invokevirtual 168, 3, 189, 2, .null) := by decide +kernel
theorem fe_X12_divides_134 : mj_f mi_X12_divides 134 = some (.lload 4, 2, 4, 0, .null) := by decide +kernel
theorem fe_X12_divides_136 : mj_f mi_X12_divides 136 = some (.ldiv, 1, 0, 0, .null) := by decide +kernel
theorem fe_X12_divides_137 : mj_f mi_X12_divides 137 = some (.lastore, 1, 0, 0, .null) := by decide +kernel
theorem fe_X12_divides_138 : mj_f mi_X12_divides 138 = some (.iinc 6 1, 3, 6, 0, .int (1)) := by decide +kernel
theorem fe_X12_divides_141 : mj_f mi_X12_divides 141 = some (.goto (-28), 3, 113, 0, .null) := by decide +kernel
theorem fe_X12_divides_144 : mj_f mi_X12_divides 144 = some (.aload_n 0, 1, 0, 0, .null) := by decide +kernel
theorem fe_X12_divides_145 : mj_f mi_X12_divides 145 = some (.getfield 58, 3, 12, 15, .null) := by decide +kernel
theorem fe_X12_divides_148 : mj_f mi_X12_divides 148 = some (.iload_n 1, 1, 1, 0, .null) := by decide +kernel
theorem fe_X12_divides_149 : mj_f mi_X12_divides 149 = some (.iconst 1, 1, 0, 0, .int (1)) := by decide +kernel
theorem fe_X12_divides_150 : mj_f mi_X12_divides 150 = some (.iadd, 1, 0, 0, .null) := by decide +kernel
theorem fe_X12_divides_151 : mj_f mi_X12_divides 151 = some (.iload_n 2, 1, 2, 0, .null) := by decide +kernel
theorem fe_X12_divides_152 : mj_f mi_X12_divides 152 = some (.iastore, 1, 0, 0, .null) := by decide +kernel
theorem fe_X12_divides_153 : mj_f mi_X12_divides 153 = some (.iconst 1, 1, 0, 0, .int (1)) := by decide +kernel
theorem fe_X12_divides_154 : mj_f mi_X12_divides 154 = some (.ireturn, 1, 0, 0, .null) := by decide +kernel
def ct_X12_beside : MJT := [
  (0, 0, .aload_n 0, 1, 0, 0, .null),
  (1, 1227, .getfield 58, 3, 12, 15, .null),
  (4, 0, .iload_n 1, 1, 1, 0, .null),
  (5, 0, .iaload, 1, 0, 0, .null),
  (6, 0, .istore_n 3, 1, 3, 0, .null),
  (7, 0, .aload_n 0, 1, 0, 0, .null),
  (8, 1227, .getfield 58, 3, 12, 15, .null),
  (11, 0, .iload_n 1, 1, 1, 0, .null),
  (12, 0, .iconst 1, 1, 0, 0, .int (1)),
  (13, 0, .iadd, 1, 0, 0, .null),
  (14, 0, .iaload, 1, 0, 0, .null),
  (15, 0, .istore 4, 2, 4, 0, .null),
  (17, 0, .iload_n 2, 1, 2, 0, .null),
  (18, 0, .tableswitch 175 3 5 #[26, 28, 160], 26, 0, 0, .null),
  (44, 0, .iconst 1, 1, 0, 0, .int (1)),
  (45, 0, .ireturn, 1, 0, 0, .null),
  (46, 0, .aload_n 0, 1, 0, 0, .null),
  (47, 1229, .getfield 64, 3, 12, 17, .null),
  (50, 0, .bipush 33, 2, 0, 0, .int (33)),
  (52, 0, .iload_n 1, 1, 1, 0, .null),
  (53, 0, .imul, 1, 0, 0, .null),
  (54, 0, .iaload, 1, 0, 0, .null),
  (55, 0, .istore 5, 2, 5, 0, .null),
  (57, 0, .iload 5, 2, 5, 0, .null),
  (59, 0, .istore 6, 2, 6, 0, .null),
  (61, 0, .iconst 1, 1, 0, 0, .int (1)),
  (62, 0, .istore 7, 2, 7, 0, .null),
  (64, 0, .iload 7, 2, 7, 0, .null),
  (66, 0, .iload 4, 2, 4, 0, .null),
  (68, 0, .if_icmp .ge 81, 3, 149, 0, .null),
  (71, 0, .aload_n 0, 1, 0, 0, .null),
  (72, 1229, .getfield 64, 3, 12, 17, .null),
  (75, 0, .bipush 33, 2, 0, 0, .int (33)),
  (77, 0, .iload_n 1, 1, 1, 0, .null),
  (78, 0, .imul, 1, 0, 0, .null),
  (79, 0, .iload 7, 2, 7, 0, .null),
  (81, 0, .iadd, 1, 0, 0, .null),
  (82, 0, .iaload, 1, 0, 0, .null),
  (83, 0, .iload 5, 2, 5, 0, .null),
  (85, 0, .if_icmp .ge 18, 3, 103, 0, .null),
  (88, 0, .aload_n 0, 1, 0, 0, .null),
  (89, 1229, .getfield 64, 3, 12, 17, .null),
  (92, 0, .bipush 33, 2, 0, 0, .int (33)),
  (94, 0, .iload_n 1, 1, 1, 0, .null),
  (95, 0, .imul, 1, 0, 0, .null),
  (96, 0, .iload 7, 2, 7, 0, .null),
  (98, 0, .iadd, 1, 0, 0, .null),
  (99, 0, .iaload, 1, 0, 0, .null),
  (100, 0, .goto 5, 3, 105, 0, .null),
  (103, 0, .iload 5, 2, 5, 0, .null),
  (105, 0, .istore 5, 2, 5, 0, .null),
  (107, 0, .aload_n 0, 1, 0, 0, .null),
  (108, 1229, .getfield 64, 3, 12, 17, .null),
  (111, 0, .bipush 33, 2, 0, 0, .int (33)),
  (113, 0, .iload_n 1, 1, 1, 0, .null),
  (114, 0, .imul, 1, 0, 0, .null),
  (115, 0, .iload 7, 2, 7, 0, .null),
  (117, 0, .iadd, 1, 0, 0, .null),
  (118, 0, .iaload, 1, 0, 0, .null),
  (119, 0, .iload 6, 2, 6, 0, .null),
  (121, 0, .if_icmp .le 18, 3, 139, 0, .null),
  (124, 0, .aload_n 0, 1, 0, 0, .null),
  (125, 1229, .getfield 64, 3, 12, 17, .null),
  (128, 0, .bipush 33, 2, 0, 0, .int (33)),
  (130, 0, .iload_n 1, 1, 1, 0, .null),
  (131, 0, .imul, 1, 0, 0, .null),
  (132, 0, .iload 7, 2, 7, 0, .null),
  (134, 0, .iadd, 1, 0, 0, .null),
  (135, 0, .iaload, 1, 0, 0, .null),
  (136, 0, .goto 5, 3, 141, 0, .null),
  (139, 0, .iload 6, 2, 6, 0, .null),
  (141, 0, .istore 6, 2, 6, 0, .null),
  (143, 0, .iinc 7 1, 3, 7, 0, .int (1)),
  (146, 0, .goto (-82), 3, 64, 0, .null),
  (149, 0, .iconst 3, 1, 0, 0, .int (3)),
  (150, 0, .iload 5, 2, 5, 0, .null),
  (152, 0, .i2l, 1, 0, 0, .null),
  (153, 1437, .invokestatic 184, 3, 185, 1, .null),
  (156, 1440, .invokestatic 188, 3, 186, 1, .null),
  (159, 0, .iadd, 1, 0, 0, .null),
  (160, 0, .iconst 1, 1, 0, 0, .int (1)),
  (161, 0, .iadd, 1, 0, 0, .null),
  (162, 0, .iload 4, 2, 4, 0, .null),
  (164, 0, .iload 6, 2, 6, 0, .null),
  (166, 0, .iload 5, 2, 5, 0, .null),
  (168, 0, .isub, 1, 0, 0, .null),
  (169, 0, .i2l, 1, 0, 0, .null),
  (170, 1447, .invokestatic 192, 3, 187, 1, .null),
  (173, 1450, .invokestatic 195, 3, 188, 2, .null),
  (176, 0, .iadd, 1, 0, 0, .null),
  (177, 0, .ireturn, 1, 0, 0, .null),
  (178, 0, .iconst 2, 1, 0, 0, .int (2)),
  (179, 0, .iload_n 3, 1, 3, 0, .null),
  (180, 0, .iload 4, 2, 4, 0, .null),
  (182, 0, .iconst 1, 1, 0, 0, .int (1)),
  (183, 0, .isub, 1, 0, 0, .null),
  (184, 0, .i2l, 1, 0, 0, .null),
  (185, 1447, .invokestatic 192, 3, 187, 1, .null),
  (188, 1450, .invokestatic 195, 3, 188, 2, .null),
  (191, 0, .iadd, 1, 0, 0, .null),
  (192, 0, .ireturn, 1, 0, 0, .null),
  (193, 0, .iconst 1, 1, 0, 0, .int (1)),
  (194, 0, .aload_n 0, 1, 0, 0, .null),
  (195, 1228, .getfield 61, 3, 12, 16, .null),
  (198, 0, .iload_n 1, 1, 1, 0, .null),
  (199, 0, .laload, 1, 0, 0, .null),
  (200, 1440, .invokestatic 188, 3, 186, 1, .null),
  (203, 0, .iadd, 1, 0, 0, .null),
  (204, 0, .ireturn, 1, 0, 0, .null)]
abbrev id_X12_beside : Nat := 193
def mi_X12_beside : MI := (yX12_beside, cX12_beside, 8, (some .int), 12, ct_X12_beside)
theorem fe_X12_beside_0 : mj_f mi_X12_beside 0 = some (.aload_n 0, 1, 0, 0, .null) := by decide +kernel
theorem fe_X12_beside_1 : mj_f mi_X12_beside 1 = some (.getfield 58, 3, 12, 15, .null) := by decide +kernel
theorem fe_X12_beside_4 : mj_f mi_X12_beside 4 = some (.iload_n 1, 1, 1, 0, .null) := by decide +kernel
theorem fe_X12_beside_5 : mj_f mi_X12_beside 5 = some (.iaload, 1, 0, 0, .null) := by decide +kernel
theorem fe_X12_beside_6 : mj_f mi_X12_beside 6 = some (.istore_n 3, 1, 3, 0, .null) := by decide +kernel
theorem fe_X12_beside_7 : mj_f mi_X12_beside 7 = some (.aload_n 0, 1, 0, 0, .null) := by decide +kernel
theorem fe_X12_beside_8 : mj_f mi_X12_beside 8 = some (.getfield 58, 3, 12, 15, .null) := by decide +kernel
theorem fe_X12_beside_11 : mj_f mi_X12_beside 11 = some (.iload_n 1, 1, 1, 0, .null) := by decide +kernel
theorem fe_X12_beside_12 : mj_f mi_X12_beside 12 = some (.iconst 1, 1, 0, 0, .int (1)) := by decide +kernel
theorem fe_X12_beside_13 : mj_f mi_X12_beside 13 = some (.iadd, 1, 0, 0, .null) := by decide +kernel
theorem fe_X12_beside_14 : mj_f mi_X12_beside 14 = some (.iaload, 1, 0, 0, .null) := by decide +kernel
theorem fe_X12_beside_15 : mj_f mi_X12_beside 15 = some (.istore 4, 2, 4, 0, .null) := by decide +kernel
theorem fe_X12_beside_17 : mj_f mi_X12_beside 17 = some (.iload_n 2, 1, 2, 0, .null) := by decide +kernel
theorem fe_X12_beside_18 : mj_f mi_X12_beside 18 = some (.tableswitch 175 3 5 #[26, 28, 160], 26, 0, 0, .null) := by decide +kernel
theorem fe_X12_beside_44 : mj_f mi_X12_beside 44 = some (.iconst 1, 1, 0, 0, .int (1)) := by decide +kernel
theorem fe_X12_beside_45 : mj_f mi_X12_beside 45 = some (.ireturn, 1, 0, 0, .null) := by decide +kernel
theorem fe_X12_beside_46 : mj_f mi_X12_beside 46 = some (.aload_n 0, 1, 0, 0, .null) := by decide +kernel
theorem fe_X12_beside_47 : mj_f mi_X12_beside 47 = some (.getfield 64, 3, 12, 17, .null) := by decide +kernel
theorem fe_X12_beside_50 : mj_f mi_X12_beside 50 = some (.bipush 33, 2, 0, 0, .int (33)) := by decide +kernel
theorem fe_X12_beside_52 : mj_f mi_X12_beside 52 = some (.iload_n 1, 1, 1, 0, .null) := by decide +kernel
theorem fe_X12_beside_53 : mj_f mi_X12_beside 53 = some (.imul, 1, 0, 0, .null) := by decide +kernel
theorem fe_X12_beside_54 : mj_f mi_X12_beside 54 = some (.iaload, 1, 0, 0, .null) := by decide +kernel
theorem fe_X12_beside_55 : mj_f mi_X12_beside 55 = some (.istore 5, 2, 5, 0, .null) := by decide +kernel
theorem fe_X12_beside_57 : mj_f mi_X12_beside 57 = some (.iload 5, 2, 5, 0, .null) := by decide +kernel
theorem fe_X12_beside_59 : mj_f mi_X12_beside 59 = some (.istore 6, 2, 6, 0, .null) := by decide +kernel
theorem fe_X12_beside_61 : mj_f mi_X12_beside 61 = some (.iconst 1, 1, 0, 0, .int (1)) := by decide +kernel
theorem fe_X12_beside_62 : mj_f mi_X12_beside 62 = some (.istore 7, 2, 7, 0, .null) := by decide +kernel
theorem fe_X12_beside_64 : mj_f mi_X12_beside 64 = some (.iload 7, 2, 7, 0, .null) := by decide +kernel
theorem fe_X12_beside_66 : mj_f mi_X12_beside 66 = some (.iload 4, 2, 4, 0, .null) := by decide +kernel
theorem fe_X12_beside_68 : mj_f mi_X12_beside 68 = some (.if_icmp .ge 81, 3, 149, 0, .null) := by decide +kernel
theorem fe_X12_beside_71 : mj_f mi_X12_beside 71 = some (.aload_n 0, 1, 0, 0, .null) := by decide +kernel
theorem fe_X12_beside_72 : mj_f mi_X12_beside 72 = some (.getfield 64, 3, 12, 17, .null) := by decide +kernel
theorem fe_X12_beside_75 : mj_f mi_X12_beside 75 = some (.bipush 33, 2, 0, 0, .int (33)) := by decide +kernel
theorem fe_X12_beside_77 : mj_f mi_X12_beside 77 = some (.iload_n 1, 1, 1, 0, .null) := by decide +kernel
theorem fe_X12_beside_78 : mj_f mi_X12_beside 78 = some (.imul, 1, 0, 0, .null) := by decide +kernel
theorem fe_X12_beside_79 : mj_f mi_X12_beside 79 = some (.iload 7, 2, 7, 0, .null) := by decide +kernel
theorem fe_X12_beside_81 : mj_f mi_X12_beside 81 = some (.iadd, 1, 0, 0, .null) := by decide +kernel
theorem fe_X12_beside_82 : mj_f mi_X12_beside 82 = some (.iaload, 1, 0, 0, .null) := by decide +kernel
theorem fe_X12_beside_83 : mj_f mi_X12_beside 83 = some (.iload 5, 2, 5, 0, .null) := by decide +kernel
theorem fe_X12_beside_85 : mj_f mi_X12_beside 85 = some (.if_icmp .ge 18, 3, 103, 0, .null) := by decide +kernel
theorem fe_X12_beside_88 : mj_f mi_X12_beside 88 = some (.aload_n 0, 1, 0, 0, .null) := by decide +kernel
theorem fe_X12_beside_89 : mj_f mi_X12_beside 89 = some (.getfield 64, 3, 12, 17, .null) := by decide +kernel
theorem fe_X12_beside_92 : mj_f mi_X12_beside 92 = some (.bipush 33, 2, 0, 0, .int (33)) := by decide +kernel
theorem fe_X12_beside_94 : mj_f mi_X12_beside 94 = some (.iload_n 1, 1, 1, 0, .null) := by decide +kernel
theorem fe_X12_beside_95 : mj_f mi_X12_beside 95 = some (.imul, 1, 0, 0, .null) := by decide +kernel
theorem fe_X12_beside_96 : mj_f mi_X12_beside 96 = some (.iload 7, 2, 7, 0, .null) := by decide +kernel
theorem fe_X12_beside_98 : mj_f mi_X12_beside 98 = some (.iadd, 1, 0, 0, .null) := by decide +kernel
theorem fe_X12_beside_99 : mj_f mi_X12_beside 99 = some (.iaload, 1, 0, 0, .null) := by decide +kernel
theorem fe_X12_beside_100 : mj_f mi_X12_beside 100 = some (.goto 5, 3, 105, 0, .null) := by decide +kernel
theorem fe_X12_beside_103 : mj_f mi_X12_beside 103 = some (.iload 5, 2, 5, 0, .null) := by decide +kernel
theorem fe_X12_beside_105 : mj_f mi_X12_beside 105 = some (.istore 5, 2, 5, 0, .null) := by decide +kernel
theorem fe_X12_beside_107 : mj_f mi_X12_beside 107 = some (.aload_n 0, 1, 0, 0, .null) := by decide +kernel
theorem fe_X12_beside_108 : mj_f mi_X12_beside 108 = some (.getfield 64, 3, 12, 17, .null) := by decide +kernel
theorem fe_X12_beside_111 : mj_f mi_X12_beside 111 = some (.bipush 33, 2, 0, 0, .int (33)) := by decide +kernel
theorem fe_X12_beside_113 : mj_f mi_X12_beside 113 = some (.iload_n 1, 1, 1, 0, .null) := by decide +kernel
theorem fe_X12_beside_114 : mj_f mi_X12_beside 114 = some (.imul, 1, 0, 0, .null) := by decide +kernel
theorem fe_X12_beside_115 : mj_f mi_X12_beside 115 = some (.iload 7, 2, 7, 0, .null) := by decide +kernel
theorem fe_X12_beside_117 : mj_f mi_X12_beside 117 = some (.iadd, 1, 0, 0, .null) := by decide +kernel
theorem fe_X12_beside_118 : mj_f mi_X12_beside 118 = some (.iaload, 1, 0, 0, .null) := by decide +kernel
theorem fe_X12_beside_119 : mj_f mi_X12_beside 119 = some (.iload 6, 2, 6, 0, .null) := by decide +kernel
theorem fe_X12_beside_121 : mj_f mi_X12_beside 121 = some (.if_icmp .le 18, 3, 139, 0, .null) := by decide +kernel
theorem fe_X12_beside_124 : mj_f mi_X12_beside 124 = some (.aload_n 0, 1, 0, 0, .null) := by decide +kernel
theorem fe_X12_beside_125 : mj_f mi_X12_beside 125 = some (.getfield 64, 3, 12, 17, .null) := by decide +kernel
theorem fe_X12_beside_128 : mj_f mi_X12_beside 128 = some (.bipush 33, 2, 0, 0, .int (33)) := by decide +kernel
theorem fe_X12_beside_130 : mj_f mi_X12_beside 130 = some (.iload_n 1, 1, 1, 0, .null) := by decide +kernel
theorem fe_X12_beside_131 : mj_f mi_X12_beside 131 = some (.imul, 1, 0, 0, .null) := by decide +kernel
theorem fe_X12_beside_132 : mj_f mi_X12_beside 132 = some (.iload 7, 2, 7, 0, .null) := by decide +kernel
theorem fe_X12_beside_134 : mj_f mi_X12_beside 134 = some (.iadd, 1, 0, 0, .null) := by decide +kernel
theorem fe_X12_beside_135 : mj_f mi_X12_beside 135 = some (.iaload, 1, 0, 0, .null) := by decide +kernel
theorem fe_X12_beside_136 : mj_f mi_X12_beside 136 = some (.goto 5, 3, 141, 0, .null) := by decide +kernel
theorem fe_X12_beside_139 : mj_f mi_X12_beside 139 = some (.iload 6, 2, 6, 0, .null) := by decide +kernel
theorem fe_X12_beside_141 : mj_f mi_X12_beside 141 = some (.istore 6, 2, 6, 0, .null) := by decide +kernel
theorem fe_X12_beside_143 : mj_f mi_X12_beside 143 = some (.iinc 7 1, 3, 7, 0, .int (1)) := by decide +kernel
theorem fe_X12_beside_146 : mj_f mi_X12_beside 146 = some (.goto (-82), 3, 64, 0, .null) := by decide +kernel
theorem fe_X12_beside_149 : mj_f mi_X12_beside 149 = some (.iconst 3, 1, 0, 0, .int (3)) := by decide +kernel
theorem fe_X12_beside_150 : mj_f mi_X12_beside 150 = some (.iload 5, 2, 5, 0, .null) := by decide +kernel
theorem fe_X12_beside_152 : mj_f mi_X12_beside 152 = some (.i2l, 1, 0, 0, .null) := by decide +kernel
theorem fe_X12_beside_153 : mj_f mi_X12_beside 153 = some (.invokestatic 184, 3, 185, 1, .null) := by decide +kernel
theorem fe_X12_beside_156 : mj_f mi_X12_beside 156 = some (.invokestatic 188, 3, 186, 1, .null) := by decide +kernel
theorem fe_X12_beside_159 : mj_f mi_X12_beside 159 = some (.iadd, 1, 0, 0, .null) := by decide +kernel
theorem fe_X12_beside_160 : mj_f mi_X12_beside 160 = some (.iconst 1, 1, 0, 0, .int (1)) := by decide +kernel
theorem fe_X12_beside_161 : mj_f mi_X12_beside 161 = some (.iadd, 1, 0, 0, .null) := by decide +kernel
theorem fe_X12_beside_162 : mj_f mi_X12_beside 162 = some (.iload 4, 2, 4, 0, .null) := by decide +kernel
theorem fe_X12_beside_164 : mj_f mi_X12_beside 164 = some (.iload 6, 2, 6, 0, .null) := by decide +kernel
theorem fe_X12_beside_166 : mj_f mi_X12_beside 166 = some (.iload 5, 2, 5, 0, .null) := by decide +kernel
theorem fe_X12_beside_168 : mj_f mi_X12_beside 168 = some (.isub, 1, 0, 0, .null) := by decide +kernel
theorem fe_X12_beside_169 : mj_f mi_X12_beside 169 = some (.i2l, 1, 0, 0, .null) := by decide +kernel
theorem fe_X12_beside_170 : mj_f mi_X12_beside 170 = some (.invokestatic 192, 3, 187, 1, .null) := by decide +kernel
theorem fe_X12_beside_173 : mj_f mi_X12_beside 173 = some (.invokestatic 195, 3, 188, 2, .null) := by decide +kernel
theorem fe_X12_beside_176 : mj_f mi_X12_beside 176 = some (.iadd, 1, 0, 0, .null) := by decide +kernel
theorem fe_X12_beside_177 : mj_f mi_X12_beside 177 = some (.ireturn, 1, 0, 0, .null) := by decide +kernel
theorem fe_X12_beside_178 : mj_f mi_X12_beside 178 = some (.iconst 2, 1, 0, 0, .int (2)) := by decide +kernel
theorem fe_X12_beside_179 : mj_f mi_X12_beside 179 = some (.iload_n 3, 1, 3, 0, .null) := by decide +kernel
theorem fe_X12_beside_180 : mj_f mi_X12_beside 180 = some (.iload 4, 2, 4, 0, .null) := by decide +kernel
theorem fe_X12_beside_182 : mj_f mi_X12_beside 182 = some (.iconst 1, 1, 0, 0, .int (1)) := by decide +kernel
theorem fe_X12_beside_183 : mj_f mi_X12_beside 183 = some (.isub, 1, 0, 0, .null) := by decide +kernel
theorem fe_X12_beside_184 : mj_f mi_X12_beside 184 = some (.i2l, 1, 0, 0, .null) := by decide +kernel
theorem fe_X12_beside_185 : mj_f mi_X12_beside 185 = some (.invokestatic 192, 3, 187, 1, .null) := by decide +kernel
theorem fe_X12_beside_188 : mj_f mi_X12_beside 188 = some (.invokestatic 195, 3, 188, 2, .null) := by decide +kernel
theorem fe_X12_beside_191 : mj_f mi_X12_beside 191 = some (.iadd, 1, 0, 0, .null) := by decide +kernel
theorem fe_X12_beside_192 : mj_f mi_X12_beside 192 = some (.ireturn, 1, 0, 0, .null) := by decide +kernel
theorem fe_X12_beside_193 : mj_f mi_X12_beside 193 = some (.iconst 1, 1, 0, 0, .int (1)) := by decide +kernel
theorem fe_X12_beside_194 : mj_f mi_X12_beside 194 = some (.aload_n 0, 1, 0, 0, .null) := by decide +kernel
theorem fe_X12_beside_195 : mj_f mi_X12_beside 195 = some (.getfield 61, 3, 12, 16, .null) := by decide +kernel
theorem fe_X12_beside_198 : mj_f mi_X12_beside 198 = some (.iload_n 1, 1, 1, 0, .null) := by decide +kernel
theorem fe_X12_beside_199 : mj_f mi_X12_beside 199 = some (.laload, 1, 0, 0, .null) := by decide +kernel
theorem fe_X12_beside_200 : mj_f mi_X12_beside 200 = some (.invokestatic 188, 3, 186, 1, .null) := by decide +kernel
theorem fe_X12_beside_203 : mj_f mi_X12_beside 203 = some (.iadd, 1, 0, 0, .null) := by decide +kernel
theorem fe_X12_beside_204 : mj_f mi_X12_beside 204 = some (.ireturn, 1, 0, 0, .null) := by decide +kernel
def ct_X12_work : MJT := [
  (0, 0, .iload_n 2, 1, 2, 0, .null),
  (1, 0, .iconst 4, 1, 0, 0, .int (4)),
  (2, 0, .if_icmp .ne 21, 3, 23, 0, .null),
  (5, 0, .aload_n 0, 1, 0, 0, .null),
  (6, 1227, .getfield 58, 3, 12, 15, .null),
  (9, 0, .iload_n 1, 1, 1, 0, .null),
  (10, 0, .iaload, 1, 0, 0, .null),
  (11, 0, .aload_n 0, 1, 0, 0, .null),
  (12, 1227, .getfield 58, 3, 12, 15, .null),
  (15, 0, .iload_n 1, 1, 1, 0, .null),
  (16, 0, .iconst 1, 1, 0, 0, .int (1)),
  (17, 0, .iadd, 1, 0, 0, .null),
  (18, 0, .iaload, 1, 0, 0, .null),
  (19, 0, .iadd, 1, 0, 0, .null),
  (20, 0, .goto 9, 3, 29, 0, .null),
  (23, 0, .aload_n 0, 1, 0, 0, .null),
  (24, 1227, .getfield 58, 3, 12, 15, .null),
  (27, 0, .iload_n 1, 1, 1, 0, .null),
  (28, 0, .iaload, 1, 0, 0, .null),
  (29, 0, .ireturn, 1, 0, 0, .null)]
abbrev id_X12_work : Nat := 194
def mi_X12_work : MI := (yX12_work, cX12_work, 3, (some .int), 12, ct_X12_work)
theorem fe_X12_work_0 : mj_f mi_X12_work 0 = some (.iload_n 2, 1, 2, 0, .null) := by decide +kernel
theorem fe_X12_work_1 : mj_f mi_X12_work 1 = some (.iconst 4, 1, 0, 0, .int (4)) := by decide +kernel
theorem fe_X12_work_2 : mj_f mi_X12_work 2 = some (.if_icmp .ne 21, 3, 23, 0, .null) := by decide +kernel
theorem fe_X12_work_5 : mj_f mi_X12_work 5 = some (.aload_n 0, 1, 0, 0, .null) := by decide +kernel
theorem fe_X12_work_6 : mj_f mi_X12_work 6 = some (.getfield 58, 3, 12, 15, .null) := by decide +kernel
theorem fe_X12_work_9 : mj_f mi_X12_work 9 = some (.iload_n 1, 1, 1, 0, .null) := by decide +kernel
theorem fe_X12_work_10 : mj_f mi_X12_work 10 = some (.iaload, 1, 0, 0, .null) := by decide +kernel
theorem fe_X12_work_11 : mj_f mi_X12_work 11 = some (.aload_n 0, 1, 0, 0, .null) := by decide +kernel
theorem fe_X12_work_12 : mj_f mi_X12_work 12 = some (.getfield 58, 3, 12, 15, .null) := by decide +kernel
theorem fe_X12_work_15 : mj_f mi_X12_work 15 = some (.iload_n 1, 1, 1, 0, .null) := by decide +kernel
theorem fe_X12_work_16 : mj_f mi_X12_work 16 = some (.iconst 1, 1, 0, 0, .int (1)) := by decide +kernel
theorem fe_X12_work_17 : mj_f mi_X12_work 17 = some (.iadd, 1, 0, 0, .null) := by decide +kernel
theorem fe_X12_work_18 : mj_f mi_X12_work 18 = some (.iaload, 1, 0, 0, .null) := by decide +kernel
theorem fe_X12_work_19 : mj_f mi_X12_work 19 = some (.iadd, 1, 0, 0, .null) := by decide +kernel
theorem fe_X12_work_20 : mj_f mi_X12_work 20 = some (.goto 9, 3, 29, 0, .null) := by decide +kernel
theorem fe_X12_work_23 : mj_f mi_X12_work 23 = some (.aload_n 0, 1, 0, 0, .null) := by decide +kernel
theorem fe_X12_work_24 : mj_f mi_X12_work 24 = some (.getfield 58, 3, 12, 15, .null) := by decide +kernel
theorem fe_X12_work_27 : mj_f mi_X12_work 27 = some (.iload_n 1, 1, 1, 0, .null) := by decide +kernel
theorem fe_X12_work_28 : mj_f mi_X12_work 28 = some (.iaload, 1, 0, 0, .null) := by decide +kernel
theorem fe_X12_work_29 : mj_f mi_X12_work 29 = some (.ireturn, 1, 0, 0, .null) := by decide +kernel
def ct_X12_isIn : MJT := [
  (0, 0, .lload_n 1, 1, 1, 0, .null),
  (1, 0, .lload_n 3, 1, 3, 0, .null),
  (2, 0, .lcmp, 1, 0, 0, .null),
  (3, 0, .ifCond .lt 22, 3, 25, 0, .null),
  (6, 0, .lload_n 1, 1, 1, 0, .null),
  (7, 0, .lload_n 3, 1, 3, 0, .null),
  (8, 0, .lsub, 1, 0, 0, .null),
  (9, 0, .lconst 0, 1, 0, 0, .long 0),
  (10, 0, .lcmp, 1, 0, 0, .null),
  (11, 0, .ifCond .lt 14, 3, 25, 0, .null),
  (14, 0, .lload_n 1, 1, 1, 0, .null),
  (15, 0, .lload_n 3, 1, 3, 0, .null),
  (16, 0, .lsub, 1, 0, 0, .null),
  (17, 0, .lconst 1, 1, 0, 0, .long 1),
  (18, 0, .iload 5, 2, 5, 0, .null),
  (20, 0, .lshl, 1, 0, 0, .null),
  (21, 0, .lcmp, 1, 0, 0, .null),
  (22, 0, .ifCond .lt 24, 3, 46, 0, .null),
  (25, 0, .lload_n 1, 1, 1, 0, .null),
  (26, 0, .lload_n 3, 1, 3, 0, .null),
  (27, 0, .lcmp, 1, 0, 0, .null),
  (28, 0, .ifCond .lt 22, 3, 50, 0, .null),
  (31, 0, .iload 5, 2, 5, 0, .null),
  (33, 0, .bipush 63, 2, 0, 0, .int (63)),
  (35, 0, .if_icmp .ne 15, 3, 50, 0, .null),
  (38, 0, .lload_n 1, 1, 1, 0, .null),
  (39, 0, .lload_n 3, 1, 3, 0, .null),
  (40, 0, .lsub, 1, 0, 0, .null),
  (41, 0, .lconst 0, 1, 0, 0, .long 0),
  (42, 0, .lcmp, 1, 0, 0, .null),
  (43, 0, .ifCond .lt 7, 3, 50, 0, .null),
  (46, 0, .iconst 1, 1, 0, 0, .int (1)),
  (47, 0, .goto 4, 3, 51, 0, .null),
  (50, 0, .iconst 0, 1, 0, 0, .int (0)),
  (51, 0, .ireturn, 1, 0, 0, .null)]
abbrev id_X12_isIn : Nat := 195
def mi_X12_isIn : MI := (yX12_isIn, cX12_isIn, 6, (some .boolean), 12, ct_X12_isIn)
theorem fe_X12_isIn_0 : mj_f mi_X12_isIn 0 = some (.lload_n 1, 1, 1, 0, .null) := by decide +kernel
theorem fe_X12_isIn_1 : mj_f mi_X12_isIn 1 = some (.lload_n 3, 1, 3, 0, .null) := by decide +kernel
theorem fe_X12_isIn_2 : mj_f mi_X12_isIn 2 = some (.lcmp, 1, 0, 0, .null) := by decide +kernel
theorem fe_X12_isIn_3 : mj_f mi_X12_isIn 3 = some (.ifCond .lt 22, 3, 25, 0, .null) := by decide +kernel
theorem fe_X12_isIn_6 : mj_f mi_X12_isIn 6 = some (.lload_n 1, 1, 1, 0, .null) := by decide +kernel
theorem fe_X12_isIn_7 : mj_f mi_X12_isIn 7 = some (.lload_n 3, 1, 3, 0, .null) := by decide +kernel
theorem fe_X12_isIn_8 : mj_f mi_X12_isIn 8 = some (.lsub, 1, 0, 0, .null) := by decide +kernel
theorem fe_X12_isIn_9 : mj_f mi_X12_isIn 9 = some (.lconst 0, 1, 0, 0, .long 0) := by decide +kernel
theorem fe_X12_isIn_10 : mj_f mi_X12_isIn 10 = some (.lcmp, 1, 0, 0, .null) := by decide +kernel
theorem fe_X12_isIn_11 : mj_f mi_X12_isIn 11 = some (.ifCond .lt 14, 3, 25, 0, .null) := by decide +kernel
theorem fe_X12_isIn_14 : mj_f mi_X12_isIn 14 = some (.lload_n 1, 1, 1, 0, .null) := by decide +kernel
theorem fe_X12_isIn_15 : mj_f mi_X12_isIn 15 = some (.lload_n 3, 1, 3, 0, .null) := by decide +kernel
theorem fe_X12_isIn_16 : mj_f mi_X12_isIn 16 = some (.lsub, 1, 0, 0, .null) := by decide +kernel
theorem fe_X12_isIn_17 : mj_f mi_X12_isIn 17 = some (.lconst 1, 1, 0, 0, .long 1) := by decide +kernel
theorem fe_X12_isIn_18 : mj_f mi_X12_isIn 18 = some (.iload 5, 2, 5, 0, .null) := by decide +kernel
theorem fe_X12_isIn_20 : mj_f mi_X12_isIn 20 = some (.lshl, 1, 0, 0, .null) := by decide +kernel
theorem fe_X12_isIn_21 : mj_f mi_X12_isIn 21 = some (.lcmp, 1, 0, 0, .null) := by decide +kernel
theorem fe_X12_isIn_22 : mj_f mi_X12_isIn 22 = some (.ifCond .lt 24, 3, 46, 0, .null) := by decide +kernel
theorem fe_X12_isIn_25 : mj_f mi_X12_isIn 25 = some (.lload_n 1, 1, 1, 0, .null) := by decide +kernel
theorem fe_X12_isIn_26 : mj_f mi_X12_isIn 26 = some (.lload_n 3, 1, 3, 0, .null) := by decide +kernel
theorem fe_X12_isIn_27 : mj_f mi_X12_isIn 27 = some (.lcmp, 1, 0, 0, .null) := by decide +kernel
theorem fe_X12_isIn_28 : mj_f mi_X12_isIn 28 = some (.ifCond .lt 22, 3, 50, 0, .null) := by decide +kernel
theorem fe_X12_isIn_31 : mj_f mi_X12_isIn 31 = some (.iload 5, 2, 5, 0, .null) := by decide +kernel
theorem fe_X12_isIn_33 : mj_f mi_X12_isIn 33 = some (.bipush 63, 2, 0, 0, .int (63)) := by decide +kernel
theorem fe_X12_isIn_35 : mj_f mi_X12_isIn 35 = some (.if_icmp .ne 15, 3, 50, 0, .null) := by decide +kernel
theorem fe_X12_isIn_38 : mj_f mi_X12_isIn 38 = some (.lload_n 1, 1, 1, 0, .null) := by decide +kernel
theorem fe_X12_isIn_39 : mj_f mi_X12_isIn 39 = some (.lload_n 3, 1, 3, 0, .null) := by decide +kernel
theorem fe_X12_isIn_40 : mj_f mi_X12_isIn 40 = some (.lsub, 1, 0, 0, .null) := by decide +kernel
theorem fe_X12_isIn_41 : mj_f mi_X12_isIn 41 = some (.lconst 0, 1, 0, 0, .long 0) := by decide +kernel
theorem fe_X12_isIn_42 : mj_f mi_X12_isIn 42 = some (.lcmp, 1, 0, 0, .null) := by decide +kernel
theorem fe_X12_isIn_43 : mj_f mi_X12_isIn 43 = some (.ifCond .lt 7, 3, 50, 0, .null) := by decide +kernel
theorem fe_X12_isIn_46 : mj_f mi_X12_isIn 46 = some (.iconst 1, 1, 0, 0, .int (1)) := by decide +kernel
theorem fe_X12_isIn_47 : mj_f mi_X12_isIn 47 = some (.goto 4, 3, 51, 0, .null) := by decide +kernel
theorem fe_X12_isIn_50 : mj_f mi_X12_isIn 50 = some (.iconst 0, 1, 0, 0, .int (0)) := by decide +kernel
theorem fe_X12_isIn_51 : mj_f mi_X12_isIn 51 = some (.ireturn, 1, 0, 0, .null) := by decide +kernel
def ct_X12_patches : MJT := [
  (0, 0, .aload_n 0, 1, 0, 0, .null),
  (1, 1227, .getfield 58, 3, 12, 15, .null),
  (4, 0, .iload_n 1, 1, 1, 0, .null),
  (5, 0, .iaload, 1, 0, 0, .null),
  (6, 0, .istore_n 2, 1, 2, 0, .null),
  (7, 0, .iconst (-1), 1, 0, 0, .int (-1)),
  (8, 0, .istore_n 3, 1, 3, 0, .null),
  (9, 0, .iconst 0, 1, 0, 0, .int (0)),
  (10, 0, .istore 4, 2, 4, 0, .null),
  (12, 0, .iload 4, 2, 4, 0, .null),
  (14, 0, .bipush 64, 2, 0, 0, .int (64)),
  (16, 0, .if_icmp .ge 174, 3, 190, 0, .null),
  (19, 0, .iconst 0, 1, 0, 0, .int (0)),
  (20, 0, .istore 5, 2, 5, 0, .null),
  (22, 0, .iload 5, 2, 5, 0, .null),
  (24, 0, .iload_n 2, 1, 2, 0, .null),
  (25, 0, .if_icmp .ge 159, 3, 184, 0, .null),
  (28, 0, .aload_n 0, 1, 0, 0, .null),
  (29, 0, .iload_n 1, 1, 1, 0, .null),
  (30, 0, .iload 5, 2, 5, 0, .null),
  (32, 1433, .invokevirtual 168, 3, 189, 2, .null),
  (35, 0, .lstore 6, 2, 6, 0, .null),
  (37, 0, .iconst 3, 1, 0, 0, .int (3)),
  (38, 0, .lload 6, 2, 6, 0, .null),
  (40, 1437, .invokestatic 184, 3, 185, 1, .null),
  (43, 1440, .invokestatic 188, 3, 186, 1, .null),
  (46, 0, .iadd, 1, 0, 0, .null),
  (47, 0, .iload_n 2, 1, 2, 0, .null),
  (48, 0, .iload 4, 2, 4, 0, .null),
  (50, 1450, .invokestatic 195, 3, 188, 2, .null),
  (53, 0, .iadd, 1, 0, 0, .null),
  (54, 0, .istore 8, 2, 8, 0, .null),
  (56, 0, .iconst 0, 1, 0, 0, .int (0)),
  (57, 0, .istore 9, 2, 9, 0, .null),
  (59, 0, .iconst 0, 1, 0, 0, .int (0)),
  (60, 0, .istore 10, 2, 10, 0, .null),
  (62, 0, .iload 10, 2, 10, 0, .null),
  (64, 0, .iload_n 2, 1, 2, 0, .null),
  (65, 0, .if_icmp .ge 53, 3, 118, 0, .null),
  (68, 0, .aload_n 0, 1, 0, 0, .null),
  (69, 0, .aload_n 0, 1, 0, 0, .null),
  (70, 0, .iload_n 1, 1, 1, 0, .null),
  (71, 0, .iload 10, 2, 10, 0, .null),
  (73, 1433, .invokevirtual 168, 3, 189, 2, .null),
  (76, 0, .lload 6, 2, 6, 0, .null),
  (78, 0, .iload 4, 2, 4, 0, .null),
  (80, 1457, .invokevirtual 199, 3, 195, 3, .null),
  (83, 0, .ifCond .eq 6, 3, 89, 0, .null),
  (86, 0, .goto 26, 3, 112, 0, .null),
  (89, 0, .iinc 9 1, 3, 9, 0, .int (1)),
  (92, 0, .iload 8, 2, 8, 0, .null),
  (94, 0, .iconst 1, 1, 0, 0, .int (1)),
  (95, 0, .aload_n 0, 1, 0, 0, .null),
  (96, 0, .iload_n 1, 1, 1, 0, .null),
  (97, 0, .iload 10, 2, 10, 0, .null),
  (99, 1433, .invokevirtual 168, 3, 189, 2, .null),
  (102, 1437, .invokestatic 184, 3, 185, 1, .null),
  (105, 1440, .invokestatic 188, 3, 186, 1, .null),
  (108, 0, .iadd, 1, 0, 0, .null),
  (109, 0, .iadd, 1, 0, 0, .null),
  (110, 0, .istore 8, 2, 8, 0, .null),
  (112, 0, .iinc 10 1, 3, 10, 0, .int (1)),
  (115, 0, .goto (-53), 3, 62, 0, .null),
  (118, 0, .iload_n 3, 1, 3, 0, .null),
  (119, 0, .iconst (-1), 1, 0, 0, .int (-1)),
  (120, 0, .if_icmp .eq 37, 3, 157, 0, .null),
  (123, 0, .iload 8, 2, 8, 0, .null),
  (125, 0, .iload_n 3, 1, 3, 0, .null),
  (126, 0, .if_icmp .gt 52, 3, 178, 0, .null),
  (129, 0, .iload 8, 2, 8, 0, .null),
  (131, 0, .iload_n 3, 1, 3, 0, .null),
  (132, 0, .if_icmp .ne 25, 3, 157, 0, .null),
  (135, 0, .iload 4, 2, 4, 0, .null),
  (137, 0, .aload_n 0, 1, 0, 0, .null),
  (138, 1231, .getfield 71, 3, 12, 19, .int 0),
  (141, 0, .if_icmp .gt 37, 3, 178, 0, .null),
  (144, 0, .lload 6, 2, 6, 0, .null),
  (146, 0, .aload_n 0, 1, 0, 0, .null),
  (147, 1230, .getfield 67, 3, 12, 18, .long 0),
  (150, 0, .lcmp, 1, 0, 0, .null),
  (151, 0, .ifCond .lt 6, 3, 157, 0, .null),
  (154, 0, .goto 24, 3, 178, 0, .null),
  (157, 0, .iload 8, 2, 8, 0, .null),
  (159, 0, .istore_n 3, 1, 3, 0, .null),
  (160, 0, .aload_n 0, 1, 0, 0, .null),
  (161, 0, .lload 6, 2, 6, 0, .null),
  (163, 1230, .putfield 67, 3, 12, 18, .long 0),
  (166, 0, .aload_n 0, 1, 0, 0, .null),
  (167, 0, .iload 4, 2, 4, 0, .null),
  (169, 1231, .putfield 71, 3, 12, 19, .int 0),
  (172, 0, .aload_n 0, 1, 0, 0, .null),
  (173, 0, .iload 9, 2, 9, 0, .null),
  (175, 1232, .putfield 74, 3, 12, 20, .int 0),
  (178, 0, .iinc 5 1, 3, 5, 0, .int (1)),
  (181, 0, .goto (-159), 3, 22, 0, .null),
  (184, 0, .iinc 4 1, 3, 4, 0, .int (1)),
  (187, 0, .goto (-175), 3, 12, 0, .null),
  (190, 0, .iload_n 3, 1, 3, 0, .null),
  (191, 0, .ireturn, 1, 0, 0, .null)]
abbrev id_X12_patches : Nat := 196
def mi_X12_patches : MI := (yX12_patches, cX12_patches, 11, (some .int), 12, ct_X12_patches)
theorem fe_X12_patches_0 : mj_f mi_X12_patches 0 = some (.aload_n 0, 1, 0, 0, .null) := by decide +kernel
theorem fe_X12_patches_1 : mj_f mi_X12_patches 1 = some (.getfield 58, 3, 12, 15, .null) := by decide +kernel
theorem fe_X12_patches_4 : mj_f mi_X12_patches 4 = some (.iload_n 1, 1, 1, 0, .null) := by decide +kernel
theorem fe_X12_patches_5 : mj_f mi_X12_patches 5 = some (.iaload, 1, 0, 0, .null) := by decide +kernel
theorem fe_X12_patches_6 : mj_f mi_X12_patches 6 = some (.istore_n 2, 1, 2, 0, .null) := by decide +kernel
theorem fe_X12_patches_7 : mj_f mi_X12_patches 7 = some (.iconst (-1), 1, 0, 0, .int (-1)) := by decide +kernel
theorem fe_X12_patches_8 : mj_f mi_X12_patches 8 = some (.istore_n 3, 1, 3, 0, .null) := by decide +kernel
theorem fe_X12_patches_9 : mj_f mi_X12_patches 9 = some (.iconst 0, 1, 0, 0, .int (0)) := by decide +kernel
theorem fe_X12_patches_10 : mj_f mi_X12_patches 10 = some (.istore 4, 2, 4, 0, .null) := by decide +kernel
theorem fe_X12_patches_12 : mj_f mi_X12_patches 12 = some (.iload 4, 2, 4, 0, .null) := by decide +kernel
theorem fe_X12_patches_14 : mj_f mi_X12_patches 14 = some (.bipush 64, 2, 0, 0, .int (64)) := by decide +kernel
theorem fe_X12_patches_16 : mj_f mi_X12_patches 16 = some (.if_icmp .ge 174, 3, 190, 0, .null) := by decide +kernel
theorem fe_X12_patches_19 : mj_f mi_X12_patches 19 = some (.iconst 0, 1, 0, 0, .int (0)) := by decide +kernel
theorem fe_X12_patches_20 : mj_f mi_X12_patches 20 = some (.istore 5, 2, 5, 0, .null) := by decide +kernel
theorem fe_X12_patches_22 : mj_f mi_X12_patches 22 = some (.iload 5, 2, 5, 0, .null) := by decide +kernel
theorem fe_X12_patches_24 : mj_f mi_X12_patches 24 = some (.iload_n 2, 1, 2, 0, .null) := by decide +kernel
theorem fe_X12_patches_25 : mj_f mi_X12_patches 25 = some (.if_icmp .ge 159, 3, 184, 0, .null) := by decide +kernel
theorem fe_X12_patches_28 : mj_f mi_X12_patches 28 = some (.aload_n 0, 1, 0, 0, .null) := by decide +kernel
theorem fe_X12_patches_29 : mj_f mi_X12_patches 29 = some (.iload_n 1, 1, 1, 0, .null) := by decide +kernel
theorem fe_X12_patches_30 : mj_f mi_X12_patches 30 = some (.iload 5, 2, 5, 0, .null) := by decide +kernel
theorem fe_X12_patches_32 : mj_f mi_X12_patches 32 = some (.invokevirtual 168, 3, 189, 2, .null) := by decide +kernel
theorem fe_X12_patches_35 : mj_f mi_X12_patches 35 = some (.lstore 6, 2, 6, 0, .null) := by decide +kernel
theorem fe_X12_patches_37 : mj_f mi_X12_patches 37 = some (.iconst 3, 1, 0, 0, .int (3)) := by decide +kernel
theorem fe_X12_patches_38 : mj_f mi_X12_patches 38 = some (.lload 6, 2, 6, 0, .null) := by decide +kernel
theorem fe_X12_patches_40 : mj_f mi_X12_patches 40 = some (.invokestatic 184, 3, 185, 1, .null) := by decide +kernel
theorem fe_X12_patches_43 : mj_f mi_X12_patches 43 = some (.invokestatic 188, 3, 186, 1, .null) := by decide +kernel
theorem fe_X12_patches_46 : mj_f mi_X12_patches 46 = some (.iadd, 1, 0, 0, .null) := by decide +kernel
theorem fe_X12_patches_47 : mj_f mi_X12_patches 47 = some (.iload_n 2, 1, 2, 0, .null) := by decide +kernel
theorem fe_X12_patches_48 : mj_f mi_X12_patches 48 = some (.iload 4, 2, 4, 0, .null) := by decide +kernel
theorem fe_X12_patches_50 : mj_f mi_X12_patches 50 = some (.invokestatic 195, 3, 188, 2, .null) := by decide +kernel
theorem fe_X12_patches_53 : mj_f mi_X12_patches 53 = some (.iadd, 1, 0, 0, .null) := by decide +kernel
theorem fe_X12_patches_54 : mj_f mi_X12_patches 54 = some (.istore 8, 2, 8, 0, .null) := by decide +kernel
theorem fe_X12_patches_56 : mj_f mi_X12_patches 56 = some (.iconst 0, 1, 0, 0, .int (0)) := by decide +kernel
theorem fe_X12_patches_57 : mj_f mi_X12_patches 57 = some (.istore 9, 2, 9, 0, .null) := by decide +kernel
theorem fe_X12_patches_59 : mj_f mi_X12_patches 59 = some (.iconst 0, 1, 0, 0, .int (0)) := by decide +kernel
theorem fe_X12_patches_60 : mj_f mi_X12_patches 60 = some (.istore 10, 2, 10, 0, .null) := by decide +kernel
theorem fe_X12_patches_62 : mj_f mi_X12_patches 62 = some (.iload 10, 2, 10, 0, .null) := by decide +kernel
theorem fe_X12_patches_64 : mj_f mi_X12_patches 64 = some (.iload_n 2, 1, 2, 0, .null) := by decide +kernel
theorem fe_X12_patches_65 : mj_f mi_X12_patches 65 = some (.if_icmp .ge 53, 3, 118, 0, .null) := by decide +kernel
theorem fe_X12_patches_68 : mj_f mi_X12_patches 68 = some (.aload_n 0, 1, 0, 0, .null) := by decide +kernel
theorem fe_X12_patches_69 : mj_f mi_X12_patches 69 = some (.aload_n 0, 1, 0, 0, .null) := by decide +kernel
theorem fe_X12_patches_70 : mj_f mi_X12_patches 70 = some (.iload_n 1, 1, 1, 0, .null) := by decide +kernel
theorem fe_X12_patches_71 : mj_f mi_X12_patches 71 = some (.iload 10, 2, 10, 0, .null) := by decide +kernel
theorem fe_X12_patches_73 : mj_f mi_X12_patches 73 = some (.invokevirtual 168, 3, 189, 2, .null) := by decide +kernel
theorem fe_X12_patches_76 : mj_f mi_X12_patches 76 = some (.lload 6, 2, 6, 0, .null) := by decide +kernel
theorem fe_X12_patches_78 : mj_f mi_X12_patches 78 = some (.iload 4, 2, 4, 0, .null) := by decide +kernel
theorem fe_X12_patches_80 : mj_f mi_X12_patches 80 = some (.invokevirtual 199, 3, 195, 3, .null) := by decide +kernel
theorem fe_X12_patches_83 : mj_f mi_X12_patches 83 = some (.ifCond .eq 6, 3, 89, 0, .null) := by decide +kernel
theorem fe_X12_patches_86 : mj_f mi_X12_patches 86 = some (.goto 26, 3, 112, 0, .null) := by decide +kernel
theorem fe_X12_patches_89 : mj_f mi_X12_patches 89 = some (.iinc 9 1, 3, 9, 0, .int (1)) := by decide +kernel
theorem fe_X12_patches_92 : mj_f mi_X12_patches 92 = some (.iload 8, 2, 8, 0, .null) := by decide +kernel
theorem fe_X12_patches_94 : mj_f mi_X12_patches 94 = some (.iconst 1, 1, 0, 0, .int (1)) := by decide +kernel
theorem fe_X12_patches_95 : mj_f mi_X12_patches 95 = some (.aload_n 0, 1, 0, 0, .null) := by decide +kernel
theorem fe_X12_patches_96 : mj_f mi_X12_patches 96 = some (.iload_n 1, 1, 1, 0, .null) := by decide +kernel
theorem fe_X12_patches_97 : mj_f mi_X12_patches 97 = some (.iload 10, 2, 10, 0, .null) := by decide +kernel
theorem fe_X12_patches_99 : mj_f mi_X12_patches 99 = some (.invokevirtual 168, 3, 189, 2, .null) := by decide +kernel
theorem fe_X12_patches_102 : mj_f mi_X12_patches 102 = some (.invokestatic 184, 3, 185, 1, .null) := by decide +kernel
theorem fe_X12_patches_105 : mj_f mi_X12_patches 105 = some (.invokestatic 188, 3, 186, 1, .null) := by decide +kernel
theorem fe_X12_patches_108 : mj_f mi_X12_patches 108 = some (.iadd, 1, 0, 0, .null) := by decide +kernel
theorem fe_X12_patches_109 : mj_f mi_X12_patches 109 = some (.iadd, 1, 0, 0, .null) := by decide +kernel
theorem fe_X12_patches_110 : mj_f mi_X12_patches 110 = some (.istore 8, 2, 8, 0, .null) := by decide +kernel
theorem fe_X12_patches_112 : mj_f mi_X12_patches 112 = some (.iinc 10 1, 3, 10, 0, .int (1)) := by decide +kernel
theorem fe_X12_patches_115 : mj_f mi_X12_patches 115 = some (.goto (-53), 3, 62, 0, .null) := by decide +kernel
theorem fe_X12_patches_118 : mj_f mi_X12_patches 118 = some (.iload_n 3, 1, 3, 0, .null) := by decide +kernel
theorem fe_X12_patches_119 : mj_f mi_X12_patches 119 = some (.iconst (-1), 1, 0, 0, .int (-1)) := by decide +kernel
theorem fe_X12_patches_120 : mj_f mi_X12_patches 120 = some (.if_icmp .eq 37, 3, 157, 0, .null) := by decide +kernel
theorem fe_X12_patches_123 : mj_f mi_X12_patches 123 = some (.iload 8, 2, 8, 0, .null) := by decide +kernel
theorem fe_X12_patches_125 : mj_f mi_X12_patches 125 = some (.iload_n 3, 1, 3, 0, .null) := by decide +kernel
theorem fe_X12_patches_126 : mj_f mi_X12_patches 126 = some (.if_icmp .gt 52, 3, 178, 0, .null) := by decide +kernel
theorem fe_X12_patches_129 : mj_f mi_X12_patches 129 = some (.iload 8, 2, 8, 0, .null) := by decide +kernel
theorem fe_X12_patches_131 : mj_f mi_X12_patches 131 = some (.iload_n 3, 1, 3, 0, .null) := by decide +kernel
theorem fe_X12_patches_132 : mj_f mi_X12_patches 132 = some (.if_icmp .ne 25, 3, 157, 0, .null) := by decide +kernel
theorem fe_X12_patches_135 : mj_f mi_X12_patches 135 = some (.iload 4, 2, 4, 0, .null) := by decide +kernel
theorem fe_X12_patches_137 : mj_f mi_X12_patches 137 = some (.aload_n 0, 1, 0, 0, .null) := by decide +kernel
theorem fe_X12_patches_138 : mj_f mi_X12_patches 138 = some (.getfield 71, 3, 12, 19, .int 0) := by decide +kernel
theorem fe_X12_patches_141 : mj_f mi_X12_patches 141 = some (.if_icmp .gt 37, 3, 178, 0, .null) := by decide +kernel
theorem fe_X12_patches_144 : mj_f mi_X12_patches 144 = some (.lload 6, 2, 6, 0, .null) := by decide +kernel
theorem fe_X12_patches_146 : mj_f mi_X12_patches 146 = some (.aload_n 0, 1, 0, 0, .null) := by decide +kernel
theorem fe_X12_patches_147 : mj_f mi_X12_patches 147 = some (.getfield 67, 3, 12, 18, .long 0) := by decide +kernel
theorem fe_X12_patches_150 : mj_f mi_X12_patches 150 = some (.lcmp, 1, 0, 0, .null) := by decide +kernel
theorem fe_X12_patches_151 : mj_f mi_X12_patches 151 = some (.ifCond .lt 6, 3, 157, 0, .null) := by decide +kernel
theorem fe_X12_patches_154 : mj_f mi_X12_patches 154 = some (.goto 24, 3, 178, 0, .null) := by decide +kernel
theorem fe_X12_patches_157 : mj_f mi_X12_patches 157 = some (.iload 8, 2, 8, 0, .null) := by decide +kernel
theorem fe_X12_patches_159 : mj_f mi_X12_patches 159 = some (.istore_n 3, 1, 3, 0, .null) := by decide +kernel
theorem fe_X12_patches_160 : mj_f mi_X12_patches 160 = some (.aload_n 0, 1, 0, 0, .null) := by decide +kernel
theorem fe_X12_patches_161 : mj_f mi_X12_patches 161 = some (.lload 6, 2, 6, 0, .null) := by decide +kernel
theorem fe_X12_patches_163 : mj_f mi_X12_patches 163 = some (.putfield 67, 3, 12, 18, .long 0) := by decide +kernel
theorem fe_X12_patches_166 : mj_f mi_X12_patches 166 = some (.aload_n 0, 1, 0, 0, .null) := by decide +kernel
theorem fe_X12_patches_167 : mj_f mi_X12_patches 167 = some (.iload 4, 2, 4, 0, .null) := by decide +kernel
theorem fe_X12_patches_169 : mj_f mi_X12_patches 169 = some (.putfield 71, 3, 12, 19, .int 0) := by decide +kernel
theorem fe_X12_patches_172 : mj_f mi_X12_patches 172 = some (.aload_n 0, 1, 0, 0, .null) := by decide +kernel
theorem fe_X12_patches_173 : mj_f mi_X12_patches 173 = some (.iload 9, 2, 9, 0, .null) := by decide +kernel
theorem fe_X12_patches_175 : mj_f mi_X12_patches 175 = some (.putfield 74, 3, 12, 20, .int 0) := by decide +kernel
theorem fe_X12_patches_178 : mj_f mi_X12_patches 178 = some (.iinc 5 1, 3, 5, 0, .int (1)) := by decide +kernel
theorem fe_X12_patches_181 : mj_f mi_X12_patches 181 = some (.goto (-159), 3, 22, 0, .null) := by decide +kernel
theorem fe_X12_patches_184 : mj_f mi_X12_patches 184 = some (.iinc 4 1, 3, 4, 0, .int (1)) := by decide +kernel
theorem fe_X12_patches_187 : mj_f mi_X12_patches 187 = some (.goto (-175), 3, 12, 0, .null) := by decide +kernel
theorem fe_X12_patches_190 : mj_f mi_X12_patches 190 = some (.iload_n 3, 1, 3, 0, .null) := by decide +kernel
theorem fe_X12_patches_191 : mj_f mi_X12_patches 191 = some (.ireturn, 1, 0, 0, .null) := by decide +kernel
def ct_X12_least : MJT := [
  (0, 0, .aload_n 0, 1, 0, 0, .null),
  (1, 1227, .getfield 58, 3, 12, 15, .null),
  (4, 0, .iload_n 1, 1, 1, 0, .null),
  (5, 0, .iaload, 1, 0, 0, .null),
  (6, 0, .ifCond .ne 7, 3, 13, 0, .null),
  (9, 0, .lconst 0, 1, 0, 0, .long 0),
  (10, 0, .goto 9, 3, 19, 0, .null),
  (13, 0, .aload_n 0, 1, 0, 0, .null),
  (14, 0, .iload_n 1, 1, 1, 0, .null),
  (15, 0, .iconst 0, 1, 0, 0, .int (0)),
  (16, 1433, .invokevirtual 168, 3, 189, 2, .null),
  (19, 0, .lstore_n 2, 1, 2, 0, .null),
  (20, 0, .iconst 1, 1, 0, 0, .int (1)),
  (21, 0, .istore 4, 2, 4, 0, .null),
  (23, 0, .iload 4, 2, 4, 0, .null),
  (25, 0, .aload_n 0, 1, 0, 0, .null),
  (26, 1227, .getfield 58, 3, 12, 15, .null),
  (29, 0, .iload_n 1, 1, 1, 0, .null),
  (30, 0, .iaload, 1, 0, 0, .null),
  (31, 0, .if_icmp .ge 33, 3, 64, 0, .null),
  (34, 0, .aload_n 0, 1, 0, 0, .null),
  (35, 0, .iload_n 1, 1, 1, 0, .null),
  (36, 0, .iload 4, 2, 4, 0, .null),
  (38, 1433, .invokevirtual 168, 3, 189, 2, .null),
  (41, 0, .lload_n 2, 1, 2, 0, .null),
  (42, 0, .lcmp, 1, 0, 0, .null),
  (43, 0, .ifCond .ge 13, 3, 56, 0, .null),
  (46, 0, .aload_n 0, 1, 0, 0, .null),
  (47, 0, .iload_n 1, 1, 1, 0, .null),
  (48, 0, .iload 4, 2, 4, 0, .null),
  (50, 1433, .invokevirtual 168, 3, 189, 2, .null),
  (53, 0, .goto 4, 3, 57, 0, .null),
  (56, 0, .lload_n 2, 1, 2, 0, .null),
  (57, 0, .lstore_n 2, 1, 2, 0, .null),
  (58, 0, .iinc 4 1, 3, 4, 0, .int (1)),
  (61, 0, .goto (-38), 3, 23, 0, .null),
  (64, 0, .lload_n 2, 1, 2, 0, .null),
  (65, 0, .lreturn, 1, 0, 0, .null)]
abbrev id_X12_least : Nat := 197
def mi_X12_least : MI := (yX12_least, cX12_least, 5, (some .long), 12, ct_X12_least)
theorem fe_X12_least_0 : mj_f mi_X12_least 0 = some (.aload_n 0, 1, 0, 0, .null) := by decide +kernel
theorem fe_X12_least_1 : mj_f mi_X12_least 1 = some (.getfield 58, 3, 12, 15, .null) := by decide +kernel
theorem fe_X12_least_4 : mj_f mi_X12_least 4 = some (.iload_n 1, 1, 1, 0, .null) := by decide +kernel
theorem fe_X12_least_5 : mj_f mi_X12_least 5 = some (.iaload, 1, 0, 0, .null) := by decide +kernel
theorem fe_X12_least_6 : mj_f mi_X12_least 6 = some (.ifCond .ne 7, 3, 13, 0, .null) := by decide +kernel
theorem fe_X12_least_9 : mj_f mi_X12_least 9 = some (.lconst 0, 1, 0, 0, .long 0) := by decide +kernel
theorem fe_X12_least_10 : mj_f mi_X12_least 10 = some (.goto 9, 3, 19, 0, .null) := by decide +kernel
theorem fe_X12_least_13 : mj_f mi_X12_least 13 = some (.aload_n 0, 1, 0, 0, .null) := by decide +kernel
theorem fe_X12_least_14 : mj_f mi_X12_least 14 = some (.iload_n 1, 1, 1, 0, .null) := by decide +kernel
theorem fe_X12_least_15 : mj_f mi_X12_least 15 = some (.iconst 0, 1, 0, 0, .int (0)) := by decide +kernel
theorem fe_X12_least_16 : mj_f mi_X12_least 16 = some (.invokevirtual 168, 3, 189, 2, .null) := by decide +kernel
theorem fe_X12_least_19 : mj_f mi_X12_least 19 = some (.lstore_n 2, 1, 2, 0, .null) := by decide +kernel
theorem fe_X12_least_20 : mj_f mi_X12_least 20 = some (.iconst 1, 1, 0, 0, .int (1)) := by decide +kernel
theorem fe_X12_least_21 : mj_f mi_X12_least 21 = some (.istore 4, 2, 4, 0, .null) := by decide +kernel
theorem fe_X12_least_23 : mj_f mi_X12_least 23 = some (.iload 4, 2, 4, 0, .null) := by decide +kernel
theorem fe_X12_least_25 : mj_f mi_X12_least 25 = some (.aload_n 0, 1, 0, 0, .null) := by decide +kernel
theorem fe_X12_least_26 : mj_f mi_X12_least 26 = some (.getfield 58, 3, 12, 15, .null) := by decide +kernel
theorem fe_X12_least_29 : mj_f mi_X12_least 29 = some (.iload_n 1, 1, 1, 0, .null) := by decide +kernel
theorem fe_X12_least_30 : mj_f mi_X12_least 30 = some (.iaload, 1, 0, 0, .null) := by decide +kernel
theorem fe_X12_least_31 : mj_f mi_X12_least 31 = some (.if_icmp .ge 33, 3, 64, 0, .null) := by decide +kernel
theorem fe_X12_least_34 : mj_f mi_X12_least 34 = some (.aload_n 0, 1, 0, 0, .null) := by decide +kernel
theorem fe_X12_least_35 : mj_f mi_X12_least 35 = some (.iload_n 1, 1, 1, 0, .null) := by decide +kernel
theorem fe_X12_least_36 : mj_f mi_X12_least 36 = some (.iload 4, 2, 4, 0, .null) := by decide +kernel
theorem fe_X12_least_38 : mj_f mi_X12_least 38 = some (.invokevirtual 168, 3, 189, 2, .null) := by decide +kernel
theorem fe_X12_least_41 : mj_f mi_X12_least 41 = some (.lload_n 2, 1, 2, 0, .null) := by decide +kernel
theorem fe_X12_least_42 : mj_f mi_X12_least 42 = some (.lcmp, 1, 0, 0, .null) := by decide +kernel
theorem fe_X12_least_43 : mj_f mi_X12_least 43 = some (.ifCond .ge 13, 3, 56, 0, .null) := by decide +kernel
theorem fe_X12_least_46 : mj_f mi_X12_least 46 = some (.aload_n 0, 1, 0, 0, .null) := by decide +kernel
theorem fe_X12_least_47 : mj_f mi_X12_least 47 = some (.iload_n 1, 1, 1, 0, .null) := by decide +kernel
theorem fe_X12_least_48 : mj_f mi_X12_least 48 = some (.iload 4, 2, 4, 0, .null) := by decide +kernel
theorem fe_X12_least_50 : mj_f mi_X12_least 50 = some (.invokevirtual 168, 3, 189, 2, .null) := by decide +kernel
theorem fe_X12_least_53 : mj_f mi_X12_least 53 = some (.goto 4, 3, 57, 0, .null) := by decide +kernel
theorem fe_X12_least_56 : mj_f mi_X12_least 56 = some (.lload_n 2, 1, 2, 0, .null) := by decide +kernel
theorem fe_X12_least_57 : mj_f mi_X12_least 57 = some (.lstore_n 2, 1, 2, 0, .null) := by decide +kernel
theorem fe_X12_least_58 : mj_f mi_X12_least 58 = some (.iinc 4 1, 3, 4, 0, .int (1)) := by decide +kernel
theorem fe_X12_least_61 : mj_f mi_X12_least 61 = some (.goto (-38), 3, 23, 0, .null) := by decide +kernel
theorem fe_X12_least_64 : mj_f mi_X12_least 64 = some (.lload_n 2, 1, 2, 0, .null) := by decide +kernel
theorem fe_X12_least_65 : mj_f mi_X12_least 65 = some (.lreturn, 1, 0, 0, .null) := by decide +kernel
def ct_X12_wideOf : MJT := [
  (0, 0, .aload_n 0, 1, 0, 0, .null),
  (1, 0, .iload_n 1, 1, 1, 0, .null),
  (2, 1429, .invokevirtual 203, 3, 197, 1, .null),
  (5, 0, .lstore_n 2, 1, 2, 0, .null),
  (6, 0, .lload_n 2, 1, 2, 0, .null),
  (7, 0, .lstore 4, 2, 4, 0, .null),
  (9, 0, .iconst 0, 1, 0, 0, .int (0)),
  (10, 0, .istore 6, 2, 6, 0, .null),
  (12, 0, .iload 6, 2, 6, 0, .null),
  (14, 0, .aload_n 0, 1, 0, 0, .null),
  (15, 1227, .getfield 58, 3, 12, 15, .null),
  (18, 0, .iload_n 1, 1, 1, 0, .null),
  (19, 0, .iaload, 1, 0, 0, .null),
  (20, 0, .if_icmp .ge 36, 3, 56, 0, .null),
  (23, 0, .aload_n 0, 1, 0, 0, .null),
  (24, 0, .iload_n 1, 1, 1, 0, .null),
  (25, 0, .iload 6, 2, 6, 0, .null),
  (27, 1433, .invokevirtual 168, 3, 189, 2, .null),
  (30, 0, .lload 4, 2, 4, 0, .null),
  (32, 0, .lcmp, 1, 0, 0, .null),
  (33, 0, .ifCond .le 13, 3, 46, 0, .null),
  (36, 0, .aload_n 0, 1, 0, 0, .null),
  (37, 0, .iload_n 1, 1, 1, 0, .null),
  (38, 0, .iload 6, 2, 6, 0, .null),
  (40, 1433, .invokevirtual 168, 3, 189, 2, .null),
  (43, 0, .goto 5, 3, 48, 0, .null),
  (46, 0, .lload 4, 2, 4, 0, .null),
  (48, 0, .lstore 4, 2, 4, 0, .null),
  (50, 0, .iinc 6 1, 3, 6, 0, .int (1)),
  (53, 0, .goto (-41), 3, 12, 0, .null),
  (56, 0, .lload 4, 2, 4, 0, .null),
  (58, 0, .lload_n 2, 1, 2, 0, .null),
  (59, 0, .lsub, 1, 0, 0, .null),
  (60, 1447, .invokestatic 192, 3, 187, 1, .null),
  (63, 0, .ireturn, 1, 0, 0, .null)]
abbrev id_X12_wideOf : Nat := 198
def mi_X12_wideOf : MI := (yX12_wideOf, cX12_wideOf, 7, (some .int), 12, ct_X12_wideOf)
theorem fe_X12_wideOf_0 : mj_f mi_X12_wideOf 0 = some (.aload_n 0, 1, 0, 0, .null) := by decide +kernel
theorem fe_X12_wideOf_1 : mj_f mi_X12_wideOf 1 = some (.iload_n 1, 1, 1, 0, .null) := by decide +kernel
theorem fe_X12_wideOf_2 : mj_f mi_X12_wideOf 2 = some (.invokevirtual 203, 3, 197, 1, .null) := by decide +kernel
theorem fe_X12_wideOf_5 : mj_f mi_X12_wideOf 5 = some (.lstore_n 2, 1, 2, 0, .null) := by decide +kernel
theorem fe_X12_wideOf_6 : mj_f mi_X12_wideOf 6 = some (.lload_n 2, 1, 2, 0, .null) := by decide +kernel
theorem fe_X12_wideOf_7 : mj_f mi_X12_wideOf 7 = some (.lstore 4, 2, 4, 0, .null) := by decide +kernel
theorem fe_X12_wideOf_9 : mj_f mi_X12_wideOf 9 = some (.iconst 0, 1, 0, 0, .int (0)) := by decide +kernel
theorem fe_X12_wideOf_10 : mj_f mi_X12_wideOf 10 = some (.istore 6, 2, 6, 0, .null) := by decide +kernel
theorem fe_X12_wideOf_12 : mj_f mi_X12_wideOf 12 = some (.iload 6, 2, 6, 0, .null) := by decide +kernel
theorem fe_X12_wideOf_14 : mj_f mi_X12_wideOf 14 = some (.aload_n 0, 1, 0, 0, .null) := by decide +kernel
theorem fe_X12_wideOf_15 : mj_f mi_X12_wideOf 15 = some (.getfield 58, 3, 12, 15, .null) := by decide +kernel
theorem fe_X12_wideOf_18 : mj_f mi_X12_wideOf 18 = some (.iload_n 1, 1, 1, 0, .null) := by decide +kernel
theorem fe_X12_wideOf_19 : mj_f mi_X12_wideOf 19 = some (.iaload, 1, 0, 0, .null) := by decide +kernel
theorem fe_X12_wideOf_20 : mj_f mi_X12_wideOf 20 = some (.if_icmp .ge 36, 3, 56, 0, .null) := by decide +kernel
theorem fe_X12_wideOf_23 : mj_f mi_X12_wideOf 23 = some (.aload_n 0, 1, 0, 0, .null) := by decide +kernel
theorem fe_X12_wideOf_24 : mj_f mi_X12_wideOf 24 = some (.iload_n 1, 1, 1, 0, .null) := by decide +kernel
theorem fe_X12_wideOf_25 : mj_f mi_X12_wideOf 25 = some (.iload 6, 2, 6, 0, .null) := by decide +kernel
theorem fe_X12_wideOf_27 : mj_f mi_X12_wideOf 27 = some (.invokevirtual 168, 3, 189, 2, .null) := by decide +kernel
theorem fe_X12_wideOf_30 : mj_f mi_X12_wideOf 30 = some (.lload 4, 2, 4, 0, .null) := by decide +kernel
theorem fe_X12_wideOf_32 : mj_f mi_X12_wideOf 32 = some (.lcmp, 1, 0, 0, .null) := by decide +kernel
theorem fe_X12_wideOf_33 : mj_f mi_X12_wideOf 33 = some (.ifCond .le 13, 3, 46, 0, .null) := by decide +kernel
theorem fe_X12_wideOf_36 : mj_f mi_X12_wideOf 36 = some (.aload_n 0, 1, 0, 0, .null) := by decide +kernel
theorem fe_X12_wideOf_37 : mj_f mi_X12_wideOf 37 = some (.iload_n 1, 1, 1, 0, .null) := by decide +kernel
theorem fe_X12_wideOf_38 : mj_f mi_X12_wideOf 38 = some (.iload 6, 2, 6, 0, .null) := by decide +kernel
theorem fe_X12_wideOf_40 : mj_f mi_X12_wideOf 40 = some (.invokevirtual 168, 3, 189, 2, .null) := by decide +kernel
theorem fe_X12_wideOf_43 : mj_f mi_X12_wideOf 43 = some (.goto 5, 3, 48, 0, .null) := by decide +kernel
theorem fe_X12_wideOf_46 : mj_f mi_X12_wideOf 46 = some (.lload 4, 2, 4, 0, .null) := by decide +kernel
theorem fe_X12_wideOf_48 : mj_f mi_X12_wideOf 48 = some (.lstore 4, 2, 4, 0, .null) := by decide +kernel
theorem fe_X12_wideOf_50 : mj_f mi_X12_wideOf 50 = some (.iinc 6 1, 3, 6, 0, .int (1)) := by decide +kernel
theorem fe_X12_wideOf_53 : mj_f mi_X12_wideOf 53 = some (.goto (-41), 3, 12, 0, .null) := by decide +kernel
theorem fe_X12_wideOf_56 : mj_f mi_X12_wideOf 56 = some (.lload 4, 2, 4, 0, .null) := by decide +kernel
theorem fe_X12_wideOf_58 : mj_f mi_X12_wideOf 58 = some (.lload_n 2, 1, 2, 0, .null) := by decide +kernel
theorem fe_X12_wideOf_59 : mj_f mi_X12_wideOf 59 = some (.lsub, 1, 0, 0, .null) := by decide +kernel
theorem fe_X12_wideOf_60 : mj_f mi_X12_wideOf 60 = some (.invokestatic 192, 3, 187, 1, .null) := by decide +kernel
theorem fe_X12_wideOf_63 : mj_f mi_X12_wideOf 63 = some (.ireturn, 1, 0, 0, .null) := by decide +kernel
def ct_X12_leaf : MJT := [
  (0, 0, .aload_n 0, 1, 0, 0, .null),
  (1, 1227, .getfield 58, 3, 12, 15, .null),
  (4, 0, .iload_n 1, 1, 1, 0, .null),
  (5, 0, .iaload, 1, 0, 0, .null),
  (6, 0, .istore_n 3, 1, 3, 0, .null),
  (7, 0, .iload_n 2, 1, 2, 0, .null),
  (8, 0, .ifCond .ne 10, 3, 18, 0, .null),
  (11, 0, .iconst 1, 1, 0, 0, .int (1)),
  (12, 0, .bipush 8, 2, 0, 0, .int (8)),
  (14, 0, .iload_n 3, 1, 3, 0, .null),
  (15, 0, .imul, 1, 0, 0, .null),
  (16, 0, .iadd, 1, 0, 0, .null),
  (17, 0, .ireturn, 1, 0, 0, .null),
  (18, 0, .iload_n 2, 1, 2, 0, .null),
  (19, 0, .iconst 1, 1, 0, 0, .int (1)),
  (20, 0, .if_icmp .ne 27, 3, 47, 0, .null),
  (23, 0, .iconst 2, 1, 0, 0, .int (2)),
  (24, 0, .aload_n 0, 1, 0, 0, .null),
  (25, 0, .iload_n 1, 1, 1, 0, .null),
  (26, 1429, .invokevirtual 203, 3, 197, 1, .null),
  (29, 1437, .invokestatic 184, 3, 185, 1, .null),
  (32, 1440, .invokestatic 188, 3, 186, 1, .null),
  (35, 0, .iadd, 1, 0, 0, .null),
  (36, 0, .iload_n 3, 1, 3, 0, .null),
  (37, 0, .aload_n 0, 1, 0, 0, .null),
  (38, 0, .iload_n 1, 1, 1, 0, .null),
  (39, 1443, .invokevirtual 207, 3, 198, 1, .null),
  (42, 1450, .invokestatic 195, 3, 188, 2, .null),
  (45, 0, .iadd, 1, 0, 0, .null),
  (46, 0, .ireturn, 1, 0, 0, .null),
  (47, 0, .iload_n 3, 1, 3, 0, .null),
  (48, 0, .ifCond .ne 7, 3, 55, 0, .null),
  (51, 0, .iconst (-1), 1, 0, 0, .int (-1)),
  (52, 0, .goto 8, 3, 60, 0, .null),
  (55, 0, .aload_n 0, 1, 0, 0, .null),
  (56, 0, .iload_n 1, 1, 1, 0, .null),
  (57, 1453, .invokevirtual 211, 3, 196, 1, .null),
  (60, 0, .ireturn, 1, 0, 0, .null)]
abbrev id_X12_leaf : Nat := 199
def mi_X12_leaf : MI := (yX12_leaf, cX12_leaf, 4, (some .int), 12, ct_X12_leaf)
theorem fe_X12_leaf_0 : mj_f mi_X12_leaf 0 = some (.aload_n 0, 1, 0, 0, .null) := by decide +kernel
theorem fe_X12_leaf_1 : mj_f mi_X12_leaf 1 = some (.getfield 58, 3, 12, 15, .null) := by decide +kernel
theorem fe_X12_leaf_4 : mj_f mi_X12_leaf 4 = some (.iload_n 1, 1, 1, 0, .null) := by decide +kernel
theorem fe_X12_leaf_5 : mj_f mi_X12_leaf 5 = some (.iaload, 1, 0, 0, .null) := by decide +kernel
theorem fe_X12_leaf_6 : mj_f mi_X12_leaf 6 = some (.istore_n 3, 1, 3, 0, .null) := by decide +kernel
theorem fe_X12_leaf_7 : mj_f mi_X12_leaf 7 = some (.iload_n 2, 1, 2, 0, .null) := by decide +kernel
theorem fe_X12_leaf_8 : mj_f mi_X12_leaf 8 = some (.ifCond .ne 10, 3, 18, 0, .null) := by decide +kernel
theorem fe_X12_leaf_11 : mj_f mi_X12_leaf 11 = some (.iconst 1, 1, 0, 0, .int (1)) := by decide +kernel
theorem fe_X12_leaf_12 : mj_f mi_X12_leaf 12 = some (.bipush 8, 2, 0, 0, .int (8)) := by decide +kernel
theorem fe_X12_leaf_14 : mj_f mi_X12_leaf 14 = some (.iload_n 3, 1, 3, 0, .null) := by decide +kernel
theorem fe_X12_leaf_15 : mj_f mi_X12_leaf 15 = some (.imul, 1, 0, 0, .null) := by decide +kernel
theorem fe_X12_leaf_16 : mj_f mi_X12_leaf 16 = some (.iadd, 1, 0, 0, .null) := by decide +kernel
theorem fe_X12_leaf_17 : mj_f mi_X12_leaf 17 = some (.ireturn, 1, 0, 0, .null) := by decide +kernel
theorem fe_X12_leaf_18 : mj_f mi_X12_leaf 18 = some (.iload_n 2, 1, 2, 0, .null) := by decide +kernel
theorem fe_X12_leaf_19 : mj_f mi_X12_leaf 19 = some (.iconst 1, 1, 0, 0, .int (1)) := by decide +kernel
theorem fe_X12_leaf_20 : mj_f mi_X12_leaf 20 = some (.if_icmp .ne 27, 3, 47, 0, .null) := by decide +kernel
theorem fe_X12_leaf_23 : mj_f mi_X12_leaf 23 = some (.iconst 2, 1, 0, 0, .int (2)) := by decide +kernel
theorem fe_X12_leaf_24 : mj_f mi_X12_leaf 24 = some (.aload_n 0, 1, 0, 0, .null) := by decide +kernel
theorem fe_X12_leaf_25 : mj_f mi_X12_leaf 25 = some (.iload_n 1, 1, 1, 0, .null) := by decide +kernel
theorem fe_X12_leaf_26 : mj_f mi_X12_leaf 26 = some (.invokevirtual 203, 3, 197, 1, .null) := by decide +kernel
theorem fe_X12_leaf_29 : mj_f mi_X12_leaf 29 = some (.invokestatic 184, 3, 185, 1, .null) := by decide +kernel
theorem fe_X12_leaf_32 : mj_f mi_X12_leaf 32 = some (.invokestatic 188, 3, 186, 1, .null) := by decide +kernel
theorem fe_X12_leaf_35 : mj_f mi_X12_leaf 35 = some (.iadd, 1, 0, 0, .null) := by decide +kernel
theorem fe_X12_leaf_36 : mj_f mi_X12_leaf 36 = some (.iload_n 3, 1, 3, 0, .null) := by decide +kernel
theorem fe_X12_leaf_37 : mj_f mi_X12_leaf 37 = some (.aload_n 0, 1, 0, 0, .null) := by decide +kernel
theorem fe_X12_leaf_38 : mj_f mi_X12_leaf 38 = some (.iload_n 1, 1, 1, 0, .null) := by decide +kernel
theorem fe_X12_leaf_39 : mj_f mi_X12_leaf 39 = some (.invokevirtual 207, 3, 198, 1, .null) := by decide +kernel
theorem fe_X12_leaf_42 : mj_f mi_X12_leaf 42 = some (.invokestatic 195, 3, 188, 2, .null) := by decide +kernel
theorem fe_X12_leaf_45 : mj_f mi_X12_leaf 45 = some (.iadd, 1, 0, 0, .null) := by decide +kernel
theorem fe_X12_leaf_46 : mj_f mi_X12_leaf 46 = some (.ireturn, 1, 0, 0, .null) := by decide +kernel
theorem fe_X12_leaf_47 : mj_f mi_X12_leaf 47 = some (.iload_n 3, 1, 3, 0, .null) := by decide +kernel
theorem fe_X12_leaf_48 : mj_f mi_X12_leaf 48 = some (.ifCond .ne 7, 3, 55, 0, .null) := by decide +kernel
theorem fe_X12_leaf_51 : mj_f mi_X12_leaf 51 = some (.iconst (-1), 1, 0, 0, .int (-1)) := by decide +kernel
theorem fe_X12_leaf_52 : mj_f mi_X12_leaf 52 = some (.goto 8, 3, 60, 0, .null) := by decide +kernel
theorem fe_X12_leaf_55 : mj_f mi_X12_leaf 55 = some (.aload_n 0, 1, 0, 0, .null) := by decide +kernel
theorem fe_X12_leaf_56 : mj_f mi_X12_leaf 56 = some (.iload_n 1, 1, 1, 0, .null) := by decide +kernel
theorem fe_X12_leaf_57 : mj_f mi_X12_leaf 57 = some (.invokevirtual 211, 3, 196, 1, .null) := by decide +kernel
theorem fe_X12_leaf_60 : mj_f mi_X12_leaf 60 = some (.ireturn, 1, 0, 0, .null) := by decide +kernel
def ct_X12_way : MJT := [
  (0, 0, .aload_n 0, 1, 0, 0, .null),
  (1, 1234, .getfield 80, 3, 12, 22, .null),
  (4, 0, .iconst 3, 1, 0, 0, .int (3)),
  (5, 0, .aload_n 0, 1, 0, 0, .null),
  (6, 1233, .getfield 77, 3, 12, 21, .int 0),
  (9, 0, .imul, 1, 0, 0, .null),
  (10, 0, .iload_n 2, 1, 2, 0, .null),
  (11, 0, .iastore, 1, 0, 0, .null),
  (12, 0, .aload_n 0, 1, 0, 0, .null),
  (13, 1234, .getfield 80, 3, 12, 22, .null),
  (16, 0, .iconst 3, 1, 0, 0, .int (3)),
  (17, 0, .aload_n 0, 1, 0, 0, .null),
  (18, 1233, .getfield 77, 3, 12, 21, .int 0),
  (21, 0, .imul, 1, 0, 0, .null),
  (22, 0, .iconst 1, 1, 0, 0, .int (1)),
  (23, 0, .iadd, 1, 0, 0, .null),
  (24, 0, .iload_n 3, 1, 3, 0, .null),
  (25, 0, .iastore, 1, 0, 0, .null),
  (26, 0, .aload_n 0, 1, 0, 0, .null),
  (27, 1234, .getfield 80, 3, 12, 22, .null),
  (30, 0, .iconst 3, 1, 0, 0, .int (3)),
  (31, 0, .aload_n 0, 1, 0, 0, .null),
  (32, 1233, .getfield 77, 3, 12, 21, .int 0),
  (35, 0, .imul, 1, 0, 0, .null),
  (36, 0, .iconst 2, 1, 0, 0, .int (2)),
  (37, 0, .iadd, 1, 0, 0, .null),
  (38, 0, .iload 4, 2, 4, 0, .null),
  (40, 0, .iastore, 1, 0, 0, .null),
  (41, 0, .aload_n 0, 1, 0, 0, .null),
  (42, 1235, .getfield 83, 3, 12, 23, .null),
  (45, 0, .aload_n 0, 1, 0, 0, .null),
  (46, 1233, .getfield 77, 3, 12, 21, .int 0),
  (49, 0, .iload_n 1, 1, 1, 0, .null),
  (50, 0, .iastore, 1, 0, 0, .null),
  (51, 0, .aload_n 0, 1, 0, 0, .null),
  (52, 1236, .getfield 86, 3, 12, 24, .null),
  (55, 0, .aload_n 0, 1, 0, 0, .null),
  (56, 1233, .getfield 77, 3, 12, 21, .int 0),
  (59, 0, .iload 5, 2, 5, 0, .null),
  (61, 0, .iastore, 1, 0, 0, .null),
  (62, 0, .aload_n 0, 1, 0, 0, .null),
  (63, 1237, .getfield 89, 3, 12, 25, .null),
  (66, 0, .aload_n 0, 1, 0, 0, .null),
  (67, 1233, .getfield 77, 3, 12, 21, .int 0),
  (70, 0, .iload 6, 2, 6, 0, .null),
  (72, 0, .iastore, 1, 0, 0, .null),
  (73, 0, .aload_n 0, 1, 0, 0, .null),
  (74, 0, .dup, 1, 0, 0, .null),
  (75, 1233, .getfield 77, 3, 12, 21, .int 0),
  (78, 0, .iconst 1, 1, 0, 0, .int (1)),
  (79, 0, .iadd, 1, 0, 0, .null),
  (80, 1233, .putfield 77, 3, 12, 21, .int 0),
  (83, 0, .return_, 1, 0, 0, .null)]
abbrev id_X12_way : Nat := 200
def mi_X12_way : MI := (yX12_way, cX12_way, 7, none, 12, ct_X12_way)
theorem fe_X12_way_0 : mj_f mi_X12_way 0 = some (.aload_n 0, 1, 0, 0, .null) := by decide +kernel
theorem fe_X12_way_1 : mj_f mi_X12_way 1 = some (.getfield 80, 3, 12, 22, .null) := by decide +kernel
theorem fe_X12_way_4 : mj_f mi_X12_way 4 = some (.iconst 3, 1, 0, 0, .int (3)) := by decide +kernel
theorem fe_X12_way_5 : mj_f mi_X12_way 5 = some (.aload_n 0, 1, 0, 0, .null) := by decide +kernel
theorem fe_X12_way_6 : mj_f mi_X12_way 6 = some (.getfield 77, 3, 12, 21, .int 0) := by decide +kernel
theorem fe_X12_way_9 : mj_f mi_X12_way 9 = some (.imul, 1, 0, 0, .null) := by decide +kernel
theorem fe_X12_way_10 : mj_f mi_X12_way 10 = some (.iload_n 2, 1, 2, 0, .null) := by decide +kernel
theorem fe_X12_way_11 : mj_f mi_X12_way 11 = some (.iastore, 1, 0, 0, .null) := by decide +kernel
theorem fe_X12_way_12 : mj_f mi_X12_way 12 = some (.aload_n 0, 1, 0, 0, .null) := by decide +kernel
theorem fe_X12_way_13 : mj_f mi_X12_way 13 = some (.getfield 80, 3, 12, 22, .null) := by decide +kernel
theorem fe_X12_way_16 : mj_f mi_X12_way 16 = some (.iconst 3, 1, 0, 0, .int (3)) := by decide +kernel
theorem fe_X12_way_17 : mj_f mi_X12_way 17 = some (.aload_n 0, 1, 0, 0, .null) := by decide +kernel
theorem fe_X12_way_18 : mj_f mi_X12_way 18 = some (.getfield 77, 3, 12, 21, .int 0) := by decide +kernel
theorem fe_X12_way_21 : mj_f mi_X12_way 21 = some (.imul, 1, 0, 0, .null) := by decide +kernel
theorem fe_X12_way_22 : mj_f mi_X12_way 22 = some (.iconst 1, 1, 0, 0, .int (1)) := by decide +kernel
theorem fe_X12_way_23 : mj_f mi_X12_way 23 = some (.iadd, 1, 0, 0, .null) := by decide +kernel
theorem fe_X12_way_24 : mj_f mi_X12_way 24 = some (.iload_n 3, 1, 3, 0, .null) := by decide +kernel
theorem fe_X12_way_25 : mj_f mi_X12_way 25 = some (.iastore, 1, 0, 0, .null) := by decide +kernel
theorem fe_X12_way_26 : mj_f mi_X12_way 26 = some (.aload_n 0, 1, 0, 0, .null) := by decide +kernel
theorem fe_X12_way_27 : mj_f mi_X12_way 27 = some (.getfield 80, 3, 12, 22, .null) := by decide +kernel
theorem fe_X12_way_30 : mj_f mi_X12_way 30 = some (.iconst 3, 1, 0, 0, .int (3)) := by decide +kernel
theorem fe_X12_way_31 : mj_f mi_X12_way 31 = some (.aload_n 0, 1, 0, 0, .null) := by decide +kernel
theorem fe_X12_way_32 : mj_f mi_X12_way 32 = some (.getfield 77, 3, 12, 21, .int 0) := by decide +kernel
theorem fe_X12_way_35 : mj_f mi_X12_way 35 = some (.imul, 1, 0, 0, .null) := by decide +kernel
theorem fe_X12_way_36 : mj_f mi_X12_way 36 = some (.iconst 2, 1, 0, 0, .int (2)) := by decide +kernel
theorem fe_X12_way_37 : mj_f mi_X12_way 37 = some (.iadd, 1, 0, 0, .null) := by decide +kernel
theorem fe_X12_way_38 : mj_f mi_X12_way 38 = some (.iload 4, 2, 4, 0, .null) := by decide +kernel
theorem fe_X12_way_40 : mj_f mi_X12_way 40 = some (.iastore, 1, 0, 0, .null) := by decide +kernel
theorem fe_X12_way_41 : mj_f mi_X12_way 41 = some (.aload_n 0, 1, 0, 0, .null) := by decide +kernel
theorem fe_X12_way_42 : mj_f mi_X12_way 42 = some (.getfield 83, 3, 12, 23, .null) := by decide +kernel
theorem fe_X12_way_45 : mj_f mi_X12_way 45 = some (.aload_n 0, 1, 0, 0, .null) := by decide +kernel
theorem fe_X12_way_46 : mj_f mi_X12_way 46 = some (.getfield 77, 3, 12, 21, .int 0) := by decide +kernel
theorem fe_X12_way_49 : mj_f mi_X12_way 49 = some (.iload_n 1, 1, 1, 0, .null) := by decide +kernel
theorem fe_X12_way_50 : mj_f mi_X12_way 50 = some (.iastore, 1, 0, 0, .null) := by decide +kernel
theorem fe_X12_way_51 : mj_f mi_X12_way 51 = some (.aload_n 0, 1, 0, 0, .null) := by decide +kernel
theorem fe_X12_way_52 : mj_f mi_X12_way 52 = some (.getfield 86, 3, 12, 24, .null) := by decide +kernel
theorem fe_X12_way_55 : mj_f mi_X12_way 55 = some (.aload_n 0, 1, 0, 0, .null) := by decide +kernel
theorem fe_X12_way_56 : mj_f mi_X12_way 56 = some (.getfield 77, 3, 12, 21, .int 0) := by decide +kernel
theorem fe_X12_way_59 : mj_f mi_X12_way 59 = some (.iload 5, 2, 5, 0, .null) := by decide +kernel
theorem fe_X12_way_61 : mj_f mi_X12_way 61 = some (.iastore, 1, 0, 0, .null) := by decide +kernel
theorem fe_X12_way_62 : mj_f mi_X12_way 62 = some (.aload_n 0, 1, 0, 0, .null) := by decide +kernel
theorem fe_X12_way_63 : mj_f mi_X12_way 63 = some (.getfield 89, 3, 12, 25, .null) := by decide +kernel
theorem fe_X12_way_66 : mj_f mi_X12_way 66 = some (.aload_n 0, 1, 0, 0, .null) := by decide +kernel
theorem fe_X12_way_67 : mj_f mi_X12_way 67 = some (.getfield 77, 3, 12, 21, .int 0) := by decide +kernel
theorem fe_X12_way_70 : mj_f mi_X12_way 70 = some (.iload 6, 2, 6, 0, .null) := by decide +kernel
theorem fe_X12_way_72 : mj_f mi_X12_way 72 = some (.iastore, 1, 0, 0, .null) := by decide +kernel
theorem fe_X12_way_73 : mj_f mi_X12_way 73 = some (.aload_n 0, 1, 0, 0, .null) := by decide +kernel
theorem fe_X12_way_74 : mj_f mi_X12_way 74 = some (.dup, 1, 0, 0, .null) := by decide +kernel
theorem fe_X12_way_75 : mj_f mi_X12_way 75 = some (.getfield 77, 3, 12, 21, .int 0) := by decide +kernel
theorem fe_X12_way_78 : mj_f mi_X12_way 78 = some (.iconst 1, 1, 0, 0, .int (1)) := by decide +kernel
theorem fe_X12_way_79 : mj_f mi_X12_way 79 = some (.iadd, 1, 0, 0, .null) := by decide +kernel
theorem fe_X12_way_80 : mj_f mi_X12_way 80 = some (.putfield 77, 3, 12, 21, .int 0) := by decide +kernel
theorem fe_X12_way_83 : mj_f mi_X12_way 83 = some (.return_, 1, 0, 0, .null) := by decide +kernel
def ct_X12_leaves : MJT := [
  (0, 0, .iconst 0, 1, 0, 0, .int (0)),
  (1, 0, .istore 6, 2, 6, 0, .null),
  (3, 0, .iload 6, 2, 6, 0, .null),
  (5, 0, .iconst 3, 1, 0, 0, .int (3)),
  (6, 0, .if_icmp .ge 98, 3, 104, 0, .null),
  (9, 0, .aload_n 0, 1, 0, 0, .null),
  (10, 0, .iload_n 1, 1, 1, 0, .null),
  (11, 0, .iload 6, 2, 6, 0, .null),
  (13, 1425, .invokevirtual 214, 3, 199, 2, .null),
  (16, 0, .istore 7, 2, 7, 0, .null),
  (18, 0, .iload 7, 2, 7, 0, .null),
  (20, 0, .ifCond .ge 6, 3, 26, 0, .null),
  (23, 0, .goto 75, 3, 98, 0, .null),
  (26, 0, .iload 5, 2, 5, 0, .null),
  (28, 0, .aload_n 0, 1, 0, 0, .null),
  (29, 1227, .getfield 58, 3, 12, 15, .null),
  (32, 0, .iload_n 1, 1, 1, 0, .null),
  (33, 0, .iaload, 1, 0, 0, .null),
  (34, 0, .iadd, 1, 0, 0, .null),
  (35, 0, .iload 6, 2, 6, 0, .null),
  (37, 0, .iconst 2, 1, 0, 0, .int (2)),
  (38, 0, .if_icmp .ne 10, 3, 48, 0, .null),
  (41, 0, .aload_n 0, 1, 0, 0, .null),
  (42, 1232, .getfield 74, 3, 12, 20, .int 0),
  (45, 0, .goto 4, 3, 49, 0, .null),
  (48, 0, .iconst 0, 1, 0, 0, .int (0)),
  (49, 0, .iadd, 1, 0, 0, .null),
  (50, 0, .istore 8, 2, 8, 0, .null),
  (52, 0, .aload_n 0, 1, 0, 0, .null),
  (53, 0, .iload_n 1, 1, 1, 0, .null),
  (54, 0, .iconst 1, 1, 0, 0, .int (1)),
  (55, 0, .iadd, 1, 0, 0, .null),
  (56, 0, .iload_n 1, 1, 1, 0, .null),
  (57, 0, .ifCond .ne 8, 3, 65, 0, .null),
  (60, 0, .iload 6, 2, 6, 0, .null),
  (62, 0, .goto 4, 3, 66, 0, .null),
  (65, 0, .iload_n 2, 1, 2, 0, .null),
  (66, 0, .iload_n 1, 1, 1, 0, .null),
  (67, 0, .iconst 1, 1, 0, 0, .int (1)),
  (68, 0, .if_icmp .ne 8, 3, 76, 0, .null),
  (71, 0, .iload 6, 2, 6, 0, .null),
  (73, 0, .goto 4, 3, 77, 0, .null),
  (76, 0, .iload_n 3, 1, 3, 0, .null),
  (77, 0, .iload_n 1, 1, 1, 0, .null),
  (78, 0, .iconst 2, 1, 0, 0, .int (2)),
  (79, 0, .if_icmp .ne 8, 3, 87, 0, .null),
  (82, 0, .iload 6, 2, 6, 0, .null),
  (84, 0, .goto 4, 3, 88, 0, .null),
  (87, 0, .iconst 0, 1, 0, 0, .int (0)),
  (88, 0, .iload 4, 2, 4, 0, .null),
  (90, 0, .iload 7, 2, 7, 0, .null),
  (92, 0, .iadd, 1, 0, 0, .null),
  (93, 0, .iload 8, 2, 8, 0, .null),
  (95, 1461, .invokevirtual 217, 3, 200, 6, .null),
  (98, 0, .iinc 6 1, 3, 6, 0, .int (1)),
  (101, 0, .goto (-98), 3, 3, 0, .null),
  (104, 0, .return_, 1, 0, 0, .null)]
abbrev id_X12_leaves : Nat := 201
def mi_X12_leaves : MI := (yX12_leaves, cX12_leaves, 9, none, 12, ct_X12_leaves)
theorem fe_X12_leaves_0 : mj_f mi_X12_leaves 0 = some (.iconst 0, 1, 0, 0, .int (0)) := by decide +kernel
theorem fe_X12_leaves_1 : mj_f mi_X12_leaves 1 = some (.istore 6, 2, 6, 0, .null) := by decide +kernel
theorem fe_X12_leaves_3 : mj_f mi_X12_leaves 3 = some (.iload 6, 2, 6, 0, .null) := by decide +kernel
theorem fe_X12_leaves_5 : mj_f mi_X12_leaves 5 = some (.iconst 3, 1, 0, 0, .int (3)) := by decide +kernel
theorem fe_X12_leaves_6 : mj_f mi_X12_leaves 6 = some (.if_icmp .ge 98, 3, 104, 0, .null) := by decide +kernel
theorem fe_X12_leaves_9 : mj_f mi_X12_leaves 9 = some (.aload_n 0, 1, 0, 0, .null) := by decide +kernel
theorem fe_X12_leaves_10 : mj_f mi_X12_leaves 10 = some (.iload_n 1, 1, 1, 0, .null) := by decide +kernel
theorem fe_X12_leaves_11 : mj_f mi_X12_leaves 11 = some (.iload 6, 2, 6, 0, .null) := by decide +kernel
theorem fe_X12_leaves_13 : mj_f mi_X12_leaves 13 = some (.invokevirtual 214, 3, 199, 2, .null) := by decide +kernel
theorem fe_X12_leaves_16 : mj_f mi_X12_leaves 16 = some (.istore 7, 2, 7, 0, .null) := by decide +kernel
theorem fe_X12_leaves_18 : mj_f mi_X12_leaves 18 = some (.iload 7, 2, 7, 0, .null) := by decide +kernel
theorem fe_X12_leaves_20 : mj_f mi_X12_leaves 20 = some (.ifCond .ge 6, 3, 26, 0, .null) := by decide +kernel
theorem fe_X12_leaves_23 : mj_f mi_X12_leaves 23 = some (.goto 75, 3, 98, 0, .null) := by decide +kernel
theorem fe_X12_leaves_26 : mj_f mi_X12_leaves 26 = some (.iload 5, 2, 5, 0, .null) := by decide +kernel
theorem fe_X12_leaves_28 : mj_f mi_X12_leaves 28 = some (.aload_n 0, 1, 0, 0, .null) := by decide +kernel
theorem fe_X12_leaves_29 : mj_f mi_X12_leaves 29 = some (.getfield 58, 3, 12, 15, .null) := by decide +kernel
theorem fe_X12_leaves_32 : mj_f mi_X12_leaves 32 = some (.iload_n 1, 1, 1, 0, .null) := by decide +kernel
theorem fe_X12_leaves_33 : mj_f mi_X12_leaves 33 = some (.iaload, 1, 0, 0, .null) := by decide +kernel
theorem fe_X12_leaves_34 : mj_f mi_X12_leaves 34 = some (.iadd, 1, 0, 0, .null) := by decide +kernel
theorem fe_X12_leaves_35 : mj_f mi_X12_leaves 35 = some (.iload 6, 2, 6, 0, .null) := by decide +kernel
theorem fe_X12_leaves_37 : mj_f mi_X12_leaves 37 = some (.iconst 2, 1, 0, 0, .int (2)) := by decide +kernel
theorem fe_X12_leaves_38 : mj_f mi_X12_leaves 38 = some (.if_icmp .ne 10, 3, 48, 0, .null) := by decide +kernel
theorem fe_X12_leaves_41 : mj_f mi_X12_leaves 41 = some (.aload_n 0, 1, 0, 0, .null) := by decide +kernel
theorem fe_X12_leaves_42 : mj_f mi_X12_leaves 42 = some (.getfield 74, 3, 12, 20, .int 0) := by decide +kernel
theorem fe_X12_leaves_45 : mj_f mi_X12_leaves 45 = some (.goto 4, 3, 49, 0, .null) := by decide +kernel
theorem fe_X12_leaves_48 : mj_f mi_X12_leaves 48 = some (.iconst 0, 1, 0, 0, .int (0)) := by decide +kernel
theorem fe_X12_leaves_49 : mj_f mi_X12_leaves 49 = some (.iadd, 1, 0, 0, .null) := by decide +kernel
theorem fe_X12_leaves_50 : mj_f mi_X12_leaves 50 = some (.istore 8, 2, 8, 0, .null) := by decide +kernel
theorem fe_X12_leaves_52 : mj_f mi_X12_leaves 52 = some (.aload_n 0, 1, 0, 0, .null) := by decide +kernel
theorem fe_X12_leaves_53 : mj_f mi_X12_leaves 53 = some (.iload_n 1, 1, 1, 0, .null) := by decide +kernel
theorem fe_X12_leaves_54 : mj_f mi_X12_leaves 54 = some (.iconst 1, 1, 0, 0, .int (1)) := by decide +kernel
theorem fe_X12_leaves_55 : mj_f mi_X12_leaves 55 = some (.iadd, 1, 0, 0, .null) := by decide +kernel
theorem fe_X12_leaves_56 : mj_f mi_X12_leaves 56 = some (.iload_n 1, 1, 1, 0, .null) := by decide +kernel
theorem fe_X12_leaves_57 : mj_f mi_X12_leaves 57 = some (.ifCond .ne 8, 3, 65, 0, .null) := by decide +kernel
theorem fe_X12_leaves_60 : mj_f mi_X12_leaves 60 = some (.iload 6, 2, 6, 0, .null) := by decide +kernel
theorem fe_X12_leaves_62 : mj_f mi_X12_leaves 62 = some (.goto 4, 3, 66, 0, .null) := by decide +kernel
theorem fe_X12_leaves_65 : mj_f mi_X12_leaves 65 = some (.iload_n 2, 1, 2, 0, .null) := by decide +kernel
theorem fe_X12_leaves_66 : mj_f mi_X12_leaves 66 = some (.iload_n 1, 1, 1, 0, .null) := by decide +kernel
theorem fe_X12_leaves_67 : mj_f mi_X12_leaves 67 = some (.iconst 1, 1, 0, 0, .int (1)) := by decide +kernel
theorem fe_X12_leaves_68 : mj_f mi_X12_leaves 68 = some (.if_icmp .ne 8, 3, 76, 0, .null) := by decide +kernel
theorem fe_X12_leaves_71 : mj_f mi_X12_leaves 71 = some (.iload 6, 2, 6, 0, .null) := by decide +kernel
theorem fe_X12_leaves_73 : mj_f mi_X12_leaves 73 = some (.goto 4, 3, 77, 0, .null) := by decide +kernel
theorem fe_X12_leaves_76 : mj_f mi_X12_leaves 76 = some (.iload_n 3, 1, 3, 0, .null) := by decide +kernel
theorem fe_X12_leaves_77 : mj_f mi_X12_leaves 77 = some (.iload_n 1, 1, 1, 0, .null) := by decide +kernel
theorem fe_X12_leaves_78 : mj_f mi_X12_leaves 78 = some (.iconst 2, 1, 0, 0, .int (2)) := by decide +kernel
theorem fe_X12_leaves_79 : mj_f mi_X12_leaves 79 = some (.if_icmp .ne 8, 3, 87, 0, .null) := by decide +kernel
theorem fe_X12_leaves_82 : mj_f mi_X12_leaves 82 = some (.iload 6, 2, 6, 0, .null) := by decide +kernel
theorem fe_X12_leaves_84 : mj_f mi_X12_leaves 84 = some (.goto 4, 3, 88, 0, .null) := by decide +kernel
theorem fe_X12_leaves_87 : mj_f mi_X12_leaves 87 = some (.iconst 0, 1, 0, 0, .int (0)) := by decide +kernel
theorem fe_X12_leaves_88 : mj_f mi_X12_leaves 88 = some (.iload 4, 2, 4, 0, .null) := by decide +kernel
theorem fe_X12_leaves_90 : mj_f mi_X12_leaves 90 = some (.iload 7, 2, 7, 0, .null) := by decide +kernel
theorem fe_X12_leaves_92 : mj_f mi_X12_leaves 92 = some (.iadd, 1, 0, 0, .null) := by decide +kernel
theorem fe_X12_leaves_93 : mj_f mi_X12_leaves 93 = some (.iload 8, 2, 8, 0, .null) := by decide +kernel
theorem fe_X12_leaves_95 : mj_f mi_X12_leaves 95 = some (.invokevirtual 217, 3, 200, 6, .null) := by decide +kernel
theorem fe_X12_leaves_98 : mj_f mi_X12_leaves 98 = some (.iinc 6 1, 3, 6, 0, .int (1)) := by decide +kernel
theorem fe_X12_leaves_101 : mj_f mi_X12_leaves 101 = some (.goto (-98), 3, 3, 0, .null) := by decide +kernel
theorem fe_X12_leaves_104 : mj_f mi_X12_leaves 104 = some (.return_, 1, 0, 0, .null) := by decide +kernel
def ct_X12_all : MJT := [
  (0, 0, .aload_n 0, 1, 0, 0, .null),
  (1, 0, .iconst 0, 1, 0, 0, .int (0)),
  (2, 1233, .putfield 77, 3, 12, 21, .int 0),
  (5, 0, .aload_n 0, 1, 0, 0, .null),
  (6, 0, .iconst 0, 1, 0, 0, .int (0)),
  (7, 0, .iconst 0, 1, 0, 0, .int (0)),
  (8, 0, .iconst 0, 1, 0, 0, .int (0)),
  (9, 0, .iconst 0, 1, 0, 0, .int (0)),
  (10, 0, .iconst 0, 1, 0, 0, .int (0)),
  (11, 1421, .invokevirtual 221, 3, 201, 5, .null),
  (14, 0, .iconst 3, 1, 0, 0, .int (3)),
  (15, 0, .istore_n 2, 1, 2, 0, .null),
  (16, 0, .iload_n 2, 1, 2, 0, .null),
  (17, 0, .bipush 7, 2, 0, 0, .int (7)),
  (19, 0, .if_icmp .ge 111, 3, 130, 0, .null),
  (22, 0, .iload_n 1, 1, 1, 0, .null),
  (23, 0, .ifCond .le 107, 3, 130, 0, .null),
  (26, 0, .aload_n 0, 1, 0, 0, .null),
  (27, 0, .iconst 0, 1, 0, 0, .int (0)),
  (28, 0, .iload_n 2, 1, 2, 0, .null),
  (29, 1465, .invokevirtual 225, 3, 190, 2, .null),
  (32, 0, .ifCond .ne 6, 3, 38, 0, .null),
  (35, 0, .goto 89, 3, 124, 0, .null),
  (38, 0, .aload_n 0, 1, 0, 0, .null),
  (39, 0, .iconst 0, 1, 0, 0, .int (0)),
  (40, 0, .iload_n 2, 1, 2, 0, .null),
  (41, 1479, .invokevirtual 229, 3, 193, 2, .null),
  (44, 0, .istore_n 3, 1, 3, 0, .null),
  (45, 0, .aload_n 0, 1, 0, 0, .null),
  (46, 0, .iconst 0, 1, 0, 0, .int (0)),
  (47, 0, .iload_n 2, 1, 2, 0, .null),
  (48, 1483, .invokevirtual 232, 3, 194, 2, .null),
  (51, 0, .istore 4, 2, 4, 0, .null),
  (53, 0, .aload_n 0, 1, 0, 0, .null),
  (54, 0, .iconst 1, 1, 0, 0, .int (1)),
  (55, 0, .iload_n 2, 1, 2, 0, .null),
  (56, 0, .iconst 0, 1, 0, 0, .int (0)),
  (57, 0, .iload_n 3, 1, 3, 0, .null),
  (58, 0, .iload 4, 2, 4, 0, .null),
  (60, 1421, .invokevirtual 221, 3, 201, 5, .null),
  (63, 0, .iconst 3, 1, 0, 0, .int (3)),
  (64, 0, .istore 5, 2, 5, 0, .null),
  (66, 0, .iload 5, 2, 5, 0, .null),
  (68, 0, .bipush 7, 2, 0, 0, .int (7)),
  (70, 0, .if_icmp .ge 54, 3, 124, 0, .null),
  (73, 0, .iload_n 1, 1, 1, 0, .null),
  (74, 0, .iconst 1, 1, 0, 0, .int (1)),
  (75, 0, .if_icmp .le 49, 3, 124, 0, .null),
  (78, 0, .aload_n 0, 1, 0, 0, .null),
  (79, 0, .iconst 1, 1, 0, 0, .int (1)),
  (80, 0, .iload 5, 2, 5, 0, .null),
  (82, 1465, .invokevirtual 225, 3, 190, 2, .null),
  (85, 0, .ifCond .ne 6, 3, 91, 0, .null),
  (88, 0, .goto 30, 3, 118, 0, .null),
  (91, 0, .aload_n 0, 1, 0, 0, .null),
  (92, 0, .iconst 2, 1, 0, 0, .int (2)),
  (93, 0, .iload_n 2, 1, 2, 0, .null),
  (94, 0, .iload 5, 2, 5, 0, .null),
  (96, 0, .iload_n 3, 1, 3, 0, .null),
  (97, 0, .aload_n 0, 1, 0, 0, .null),
  (98, 0, .iconst 1, 1, 0, 0, .int (1)),
  (99, 0, .iload 5, 2, 5, 0, .null),
  (101, 1479, .invokevirtual 229, 3, 193, 2, .null),
  (104, 0, .iadd, 1, 0, 0, .null),
  (105, 0, .iload 4, 2, 4, 0, .null),
  (107, 0, .aload_n 0, 1, 0, 0, .null),
  (108, 0, .iconst 1, 1, 0, 0, .int (1)),
  (109, 0, .iload 5, 2, 5, 0, .null),
  (111, 1483, .invokevirtual 232, 3, 194, 2, .null),
  (114, 0, .iadd, 1, 0, 0, .null),
  (115, 1421, .invokevirtual 221, 3, 201, 5, .null),
  (118, 0, .iinc 5 1, 3, 5, 0, .int (1)),
  (121, 0, .goto (-55), 3, 66, 0, .null),
  (124, 0, .iinc 2 1, 3, 2, 0, .int (1)),
  (127, 0, .goto (-111), 3, 16, 0, .null),
  (130, 0, .return_, 1, 0, 0, .null)]
abbrev id_X12_all : Nat := 202
def mi_X12_all : MI := (yX12_all, cX12_all, 6, none, 12, ct_X12_all)
theorem fe_X12_all_0 : mj_f mi_X12_all 0 = some (.aload_n 0, 1, 0, 0, .null) := by decide +kernel
theorem fe_X12_all_1 : mj_f mi_X12_all 1 = some (.iconst 0, 1, 0, 0, .int (0)) := by decide +kernel
theorem fe_X12_all_2 : mj_f mi_X12_all 2 = some (.putfield 77, 3, 12, 21, .int 0) := by decide +kernel
theorem fe_X12_all_5 : mj_f mi_X12_all 5 = some (.aload_n 0, 1, 0, 0, .null) := by decide +kernel
theorem fe_X12_all_6 : mj_f mi_X12_all 6 = some (.iconst 0, 1, 0, 0, .int (0)) := by decide +kernel
theorem fe_X12_all_7 : mj_f mi_X12_all 7 = some (.iconst 0, 1, 0, 0, .int (0)) := by decide +kernel
theorem fe_X12_all_8 : mj_f mi_X12_all 8 = some (.iconst 0, 1, 0, 0, .int (0)) := by decide +kernel
theorem fe_X12_all_9 : mj_f mi_X12_all 9 = some (.iconst 0, 1, 0, 0, .int (0)) := by decide +kernel
theorem fe_X12_all_10 : mj_f mi_X12_all 10 = some (.iconst 0, 1, 0, 0, .int (0)) := by decide +kernel
theorem fe_X12_all_11 : mj_f mi_X12_all 11 = some (.invokevirtual 221, 3, 201, 5, .null) := by decide +kernel
theorem fe_X12_all_14 : mj_f mi_X12_all 14 = some (.iconst 3, 1, 0, 0, .int (3)) := by decide +kernel
theorem fe_X12_all_15 : mj_f mi_X12_all 15 = some (.istore_n 2, 1, 2, 0, .null) := by decide +kernel
theorem fe_X12_all_16 : mj_f mi_X12_all 16 = some (.iload_n 2, 1, 2, 0, .null) := by decide +kernel
theorem fe_X12_all_17 : mj_f mi_X12_all 17 = some (.bipush 7, 2, 0, 0, .int (7)) := by decide +kernel
theorem fe_X12_all_19 : mj_f mi_X12_all 19 = some (.if_icmp .ge 111, 3, 130, 0, .null) := by decide +kernel
theorem fe_X12_all_22 : mj_f mi_X12_all 22 = some (.iload_n 1, 1, 1, 0, .null) := by decide +kernel
theorem fe_X12_all_23 : mj_f mi_X12_all 23 = some (.ifCond .le 107, 3, 130, 0, .null) := by decide +kernel
theorem fe_X12_all_26 : mj_f mi_X12_all 26 = some (.aload_n 0, 1, 0, 0, .null) := by decide +kernel
theorem fe_X12_all_27 : mj_f mi_X12_all 27 = some (.iconst 0, 1, 0, 0, .int (0)) := by decide +kernel
theorem fe_X12_all_28 : mj_f mi_X12_all 28 = some (.iload_n 2, 1, 2, 0, .null) := by decide +kernel
theorem fe_X12_all_29 : mj_f mi_X12_all 29 = some (.invokevirtual 225, 3, 190, 2, .null) := by decide +kernel
theorem fe_X12_all_32 : mj_f mi_X12_all 32 = some (.ifCond .ne 6, 3, 38, 0, .null) := by decide +kernel
theorem fe_X12_all_35 : mj_f mi_X12_all 35 = some (.goto 89, 3, 124, 0, .null) := by decide +kernel
theorem fe_X12_all_38 : mj_f mi_X12_all 38 = some (.aload_n 0, 1, 0, 0, .null) := by decide +kernel
theorem fe_X12_all_39 : mj_f mi_X12_all 39 = some (.iconst 0, 1, 0, 0, .int (0)) := by decide +kernel
theorem fe_X12_all_40 : mj_f mi_X12_all 40 = some (.iload_n 2, 1, 2, 0, .null) := by decide +kernel
theorem fe_X12_all_41 : mj_f mi_X12_all 41 = some (.invokevirtual 229, 3, 193, 2, .null) := by decide +kernel
theorem fe_X12_all_44 : mj_f mi_X12_all 44 = some (.istore_n 3, 1, 3, 0, .null) := by decide +kernel
theorem fe_X12_all_45 : mj_f mi_X12_all 45 = some (.aload_n 0, 1, 0, 0, .null) := by decide +kernel
theorem fe_X12_all_46 : mj_f mi_X12_all 46 = some (.iconst 0, 1, 0, 0, .int (0)) := by decide +kernel
theorem fe_X12_all_47 : mj_f mi_X12_all 47 = some (.iload_n 2, 1, 2, 0, .null) := by decide +kernel
theorem fe_X12_all_48 : mj_f mi_X12_all 48 = some (.invokevirtual 232, 3, 194, 2, .null) := by decide +kernel
theorem fe_X12_all_51 : mj_f mi_X12_all 51 = some (.istore 4, 2, 4, 0, .null) := by decide +kernel
theorem fe_X12_all_53 : mj_f mi_X12_all 53 = some (.aload_n 0, 1, 0, 0, .null) := by decide +kernel
theorem fe_X12_all_54 : mj_f mi_X12_all 54 = some (.iconst 1, 1, 0, 0, .int (1)) := by decide +kernel
theorem fe_X12_all_55 : mj_f mi_X12_all 55 = some (.iload_n 2, 1, 2, 0, .null) := by decide +kernel
theorem fe_X12_all_56 : mj_f mi_X12_all 56 = some (.iconst 0, 1, 0, 0, .int (0)) := by decide +kernel
theorem fe_X12_all_57 : mj_f mi_X12_all 57 = some (.iload_n 3, 1, 3, 0, .null) := by decide +kernel
theorem fe_X12_all_58 : mj_f mi_X12_all 58 = some (.iload 4, 2, 4, 0, .null) := by decide +kernel
theorem fe_X12_all_60 : mj_f mi_X12_all 60 = some (.invokevirtual 221, 3, 201, 5, .null) := by decide +kernel
theorem fe_X12_all_63 : mj_f mi_X12_all 63 = some (.iconst 3, 1, 0, 0, .int (3)) := by decide +kernel
theorem fe_X12_all_64 : mj_f mi_X12_all 64 = some (.istore 5, 2, 5, 0, .null) := by decide +kernel
theorem fe_X12_all_66 : mj_f mi_X12_all 66 = some (.iload 5, 2, 5, 0, .null) := by decide +kernel
theorem fe_X12_all_68 : mj_f mi_X12_all 68 = some (.bipush 7, 2, 0, 0, .int (7)) := by decide +kernel
theorem fe_X12_all_70 : mj_f mi_X12_all 70 = some (.if_icmp .ge 54, 3, 124, 0, .null) := by decide +kernel
theorem fe_X12_all_73 : mj_f mi_X12_all 73 = some (.iload_n 1, 1, 1, 0, .null) := by decide +kernel
theorem fe_X12_all_74 : mj_f mi_X12_all 74 = some (.iconst 1, 1, 0, 0, .int (1)) := by decide +kernel
theorem fe_X12_all_75 : mj_f mi_X12_all 75 = some (.if_icmp .le 49, 3, 124, 0, .null) := by decide +kernel
theorem fe_X12_all_78 : mj_f mi_X12_all 78 = some (.aload_n 0, 1, 0, 0, .null) := by decide +kernel
theorem fe_X12_all_79 : mj_f mi_X12_all 79 = some (.iconst 1, 1, 0, 0, .int (1)) := by decide +kernel
theorem fe_X12_all_80 : mj_f mi_X12_all 80 = some (.iload 5, 2, 5, 0, .null) := by decide +kernel
theorem fe_X12_all_82 : mj_f mi_X12_all 82 = some (.invokevirtual 225, 3, 190, 2, .null) := by decide +kernel
theorem fe_X12_all_85 : mj_f mi_X12_all 85 = some (.ifCond .ne 6, 3, 91, 0, .null) := by decide +kernel
theorem fe_X12_all_88 : mj_f mi_X12_all 88 = some (.goto 30, 3, 118, 0, .null) := by decide +kernel
theorem fe_X12_all_91 : mj_f mi_X12_all 91 = some (.aload_n 0, 1, 0, 0, .null) := by decide +kernel
theorem fe_X12_all_92 : mj_f mi_X12_all 92 = some (.iconst 2, 1, 0, 0, .int (2)) := by decide +kernel
theorem fe_X12_all_93 : mj_f mi_X12_all 93 = some (.iload_n 2, 1, 2, 0, .null) := by decide +kernel
theorem fe_X12_all_94 : mj_f mi_X12_all 94 = some (.iload 5, 2, 5, 0, .null) := by decide +kernel
theorem fe_X12_all_96 : mj_f mi_X12_all 96 = some (.iload_n 3, 1, 3, 0, .null) := by decide +kernel
theorem fe_X12_all_97 : mj_f mi_X12_all 97 = some (.aload_n 0, 1, 0, 0, .null) := by decide +kernel
theorem fe_X12_all_98 : mj_f mi_X12_all 98 = some (.iconst 1, 1, 0, 0, .int (1)) := by decide +kernel
theorem fe_X12_all_99 : mj_f mi_X12_all 99 = some (.iload 5, 2, 5, 0, .null) := by decide +kernel
theorem fe_X12_all_101 : mj_f mi_X12_all 101 = some (.invokevirtual 229, 3, 193, 2, .null) := by decide +kernel
theorem fe_X12_all_104 : mj_f mi_X12_all 104 = some (.iadd, 1, 0, 0, .null) := by decide +kernel
theorem fe_X12_all_105 : mj_f mi_X12_all 105 = some (.iload 4, 2, 4, 0, .null) := by decide +kernel
theorem fe_X12_all_107 : mj_f mi_X12_all 107 = some (.aload_n 0, 1, 0, 0, .null) := by decide +kernel
theorem fe_X12_all_108 : mj_f mi_X12_all 108 = some (.iconst 1, 1, 0, 0, .int (1)) := by decide +kernel
theorem fe_X12_all_109 : mj_f mi_X12_all 109 = some (.iload 5, 2, 5, 0, .null) := by decide +kernel
theorem fe_X12_all_111 : mj_f mi_X12_all 111 = some (.invokevirtual 232, 3, 194, 2, .null) := by decide +kernel
theorem fe_X12_all_114 : mj_f mi_X12_all 114 = some (.iadd, 1, 0, 0, .null) := by decide +kernel
theorem fe_X12_all_115 : mj_f mi_X12_all 115 = some (.invokevirtual 221, 3, 201, 5, .null) := by decide +kernel
theorem fe_X12_all_118 : mj_f mi_X12_all 118 = some (.iinc 5 1, 3, 5, 0, .int (1)) := by decide +kernel
theorem fe_X12_all_121 : mj_f mi_X12_all 121 = some (.goto (-55), 3, 66, 0, .null) := by decide +kernel
theorem fe_X12_all_124 : mj_f mi_X12_all 124 = some (.iinc 2 1, 3, 2, 0, .int (1)) := by decide +kernel
theorem fe_X12_all_127 : mj_f mi_X12_all 127 = some (.goto (-111), 3, 16, 0, .null) := by decide +kernel
theorem fe_X12_all_130 : mj_f mi_X12_all 130 = some (.return_, 1, 0, 0, .null) := by decide +kernel
def ct_X12_best : MJT := [
  (0, 0, .iconst (-1), 1, 0, 0, .int (-1)),
  (1, 0, .istore_n 2, 1, 2, 0, .null),
  (2, 0, .iconst 0, 1, 0, 0, .int (0)),
  (3, 0, .istore_n 3, 1, 3, 0, .null),
  (4, 0, .iload_n 3, 1, 3, 0, .null),
  (5, 0, .aload_n 0, 1, 0, 0, .null),
  (6, 1233, .getfield 77, 3, 12, 21, .int 0),
  (9, 0, .if_icmp .ge 74, 3, 83, 0, .null),
  (12, 0, .aload_n 0, 1, 0, 0, .null),
  (13, 1237, .getfield 89, 3, 12, 25, .null),
  (16, 0, .iload_n 3, 1, 3, 0, .null),
  (17, 0, .iaload, 1, 0, 0, .null),
  (18, 0, .iload_n 1, 1, 1, 0, .null),
  (19, 0, .if_icmp .le 6, 3, 25, 0, .null),
  (22, 0, .goto 55, 3, 77, 0, .null),
  (25, 0, .iload_n 2, 1, 2, 0, .null),
  (26, 0, .iconst (-1), 1, 0, 0, .int (-1)),
  (27, 0, .if_icmp .eq 48, 3, 75, 0, .null),
  (30, 0, .aload_n 0, 1, 0, 0, .null),
  (31, 1236, .getfield 86, 3, 12, 24, .null),
  (34, 0, .iload_n 3, 1, 3, 0, .null),
  (35, 0, .iaload, 1, 0, 0, .null),
  (36, 0, .aload_n 0, 1, 0, 0, .null),
  (37, 1236, .getfield 86, 3, 12, 24, .null),
  (40, 0, .iload_n 2, 1, 2, 0, .null),
  (41, 0, .iaload, 1, 0, 0, .null),
  (42, 0, .if_icmp .lt 33, 3, 75, 0, .null),
  (45, 0, .aload_n 0, 1, 0, 0, .null),
  (46, 1236, .getfield 86, 3, 12, 24, .null),
  (49, 0, .iload_n 3, 1, 3, 0, .null),
  (50, 0, .iaload, 1, 0, 0, .null),
  (51, 0, .aload_n 0, 1, 0, 0, .null),
  (52, 1236, .getfield 86, 3, 12, 24, .null),
  (55, 0, .iload_n 2, 1, 2, 0, .null),
  (56, 0, .iaload, 1, 0, 0, .null),
  (57, 0, .if_icmp .ne 20, 3, 77, 0, .null),
  (60, 0, .aload_n 0, 1, 0, 0, .null),
  (61, 1237, .getfield 89, 3, 12, 25, .null),
  (64, 0, .iload_n 3, 1, 3, 0, .null),
  (65, 0, .iaload, 1, 0, 0, .null),
  (66, 0, .aload_n 0, 1, 0, 0, .null),
  (67, 1237, .getfield 89, 3, 12, 25, .null),
  (70, 0, .iload_n 2, 1, 2, 0, .null),
  (71, 0, .iaload, 1, 0, 0, .null),
  (72, 0, .if_icmp .ge 5, 3, 77, 0, .null),
  (75, 0, .iload_n 3, 1, 3, 0, .null),
  (76, 0, .istore_n 2, 1, 2, 0, .null),
  (77, 0, .iinc 3 1, 3, 3, 0, .int (1)),
  (80, 0, .goto (-76), 3, 4, 0, .null),
  (83, 0, .iload_n 2, 1, 2, 0, .null),
  (84, 0, .ireturn, 1, 0, 0, .null)]
abbrev id_X12_best : Nat := 203
def mi_X12_best : MI := (yX12_best, cX12_best, 4, (some .int), 12, ct_X12_best)
theorem fe_X12_best_0 : mj_f mi_X12_best 0 = some (.iconst (-1), 1, 0, 0, .int (-1)) := by decide +kernel
theorem fe_X12_best_1 : mj_f mi_X12_best 1 = some (.istore_n 2, 1, 2, 0, .null) := by decide +kernel
theorem fe_X12_best_2 : mj_f mi_X12_best 2 = some (.iconst 0, 1, 0, 0, .int (0)) := by decide +kernel
theorem fe_X12_best_3 : mj_f mi_X12_best 3 = some (.istore_n 3, 1, 3, 0, .null) := by decide +kernel
theorem fe_X12_best_4 : mj_f mi_X12_best 4 = some (.iload_n 3, 1, 3, 0, .null) := by decide +kernel
theorem fe_X12_best_5 : mj_f mi_X12_best 5 = some (.aload_n 0, 1, 0, 0, .null) := by decide +kernel
theorem fe_X12_best_6 : mj_f mi_X12_best 6 = some (.getfield 77, 3, 12, 21, .int 0) := by decide +kernel
theorem fe_X12_best_9 : mj_f mi_X12_best 9 = some (.if_icmp .ge 74, 3, 83, 0, .null) := by decide +kernel
theorem fe_X12_best_12 : mj_f mi_X12_best 12 = some (.aload_n 0, 1, 0, 0, .null) := by decide +kernel
theorem fe_X12_best_13 : mj_f mi_X12_best 13 = some (.getfield 89, 3, 12, 25, .null) := by decide +kernel
theorem fe_X12_best_16 : mj_f mi_X12_best 16 = some (.iload_n 3, 1, 3, 0, .null) := by decide +kernel
theorem fe_X12_best_17 : mj_f mi_X12_best 17 = some (.iaload, 1, 0, 0, .null) := by decide +kernel
theorem fe_X12_best_18 : mj_f mi_X12_best 18 = some (.iload_n 1, 1, 1, 0, .null) := by decide +kernel
theorem fe_X12_best_19 : mj_f mi_X12_best 19 = some (.if_icmp .le 6, 3, 25, 0, .null) := by decide +kernel
theorem fe_X12_best_22 : mj_f mi_X12_best 22 = some (.goto 55, 3, 77, 0, .null) := by decide +kernel
theorem fe_X12_best_25 : mj_f mi_X12_best 25 = some (.iload_n 2, 1, 2, 0, .null) := by decide +kernel
theorem fe_X12_best_26 : mj_f mi_X12_best 26 = some (.iconst (-1), 1, 0, 0, .int (-1)) := by decide +kernel
theorem fe_X12_best_27 : mj_f mi_X12_best 27 = some (.if_icmp .eq 48, 3, 75, 0, .null) := by decide +kernel
theorem fe_X12_best_30 : mj_f mi_X12_best 30 = some (.aload_n 0, 1, 0, 0, .null) := by decide +kernel
theorem fe_X12_best_31 : mj_f mi_X12_best 31 = some (.getfield 86, 3, 12, 24, .null) := by decide +kernel
theorem fe_X12_best_34 : mj_f mi_X12_best 34 = some (.iload_n 3, 1, 3, 0, .null) := by decide +kernel
theorem fe_X12_best_35 : mj_f mi_X12_best 35 = some (.iaload, 1, 0, 0, .null) := by decide +kernel
theorem fe_X12_best_36 : mj_f mi_X12_best 36 = some (.aload_n 0, 1, 0, 0, .null) := by decide +kernel
theorem fe_X12_best_37 : mj_f mi_X12_best 37 = some (.getfield 86, 3, 12, 24, .null) := by decide +kernel
theorem fe_X12_best_40 : mj_f mi_X12_best 40 = some (.iload_n 2, 1, 2, 0, .null) := by decide +kernel
theorem fe_X12_best_41 : mj_f mi_X12_best 41 = some (.iaload, 1, 0, 0, .null) := by decide +kernel
theorem fe_X12_best_42 : mj_f mi_X12_best 42 = some (.if_icmp .lt 33, 3, 75, 0, .null) := by decide +kernel
theorem fe_X12_best_45 : mj_f mi_X12_best 45 = some (.aload_n 0, 1, 0, 0, .null) := by decide +kernel
theorem fe_X12_best_46 : mj_f mi_X12_best 46 = some (.getfield 86, 3, 12, 24, .null) := by decide +kernel
theorem fe_X12_best_49 : mj_f mi_X12_best 49 = some (.iload_n 3, 1, 3, 0, .null) := by decide +kernel
theorem fe_X12_best_50 : mj_f mi_X12_best 50 = some (.iaload, 1, 0, 0, .null) := by decide +kernel
theorem fe_X12_best_51 : mj_f mi_X12_best 51 = some (.aload_n 0, 1, 0, 0, .null) := by decide +kernel
theorem fe_X12_best_52 : mj_f mi_X12_best 52 = some (.getfield 86, 3, 12, 24, .null) := by decide +kernel
theorem fe_X12_best_55 : mj_f mi_X12_best 55 = some (.iload_n 2, 1, 2, 0, .null) := by decide +kernel
theorem fe_X12_best_56 : mj_f mi_X12_best 56 = some (.iaload, 1, 0, 0, .null) := by decide +kernel
theorem fe_X12_best_57 : mj_f mi_X12_best 57 = some (.if_icmp .ne 20, 3, 77, 0, .null) := by decide +kernel
theorem fe_X12_best_60 : mj_f mi_X12_best 60 = some (.aload_n 0, 1, 0, 0, .null) := by decide +kernel
theorem fe_X12_best_61 : mj_f mi_X12_best 61 = some (.getfield 89, 3, 12, 25, .null) := by decide +kernel
theorem fe_X12_best_64 : mj_f mi_X12_best 64 = some (.iload_n 3, 1, 3, 0, .null) := by decide +kernel
theorem fe_X12_best_65 : mj_f mi_X12_best 65 = some (.iaload, 1, 0, 0, .null) := by decide +kernel
theorem fe_X12_best_66 : mj_f mi_X12_best 66 = some (.aload_n 0, 1, 0, 0, .null) := by decide +kernel
theorem fe_X12_best_67 : mj_f mi_X12_best 67 = some (.getfield 89, 3, 12, 25, .null) := by decide +kernel
theorem fe_X12_best_70 : mj_f mi_X12_best 70 = some (.iload_n 2, 1, 2, 0, .null) := by decide +kernel
theorem fe_X12_best_71 : mj_f mi_X12_best 71 = some (.iaload, 1, 0, 0, .null) := by decide +kernel
theorem fe_X12_best_72 : mj_f mi_X12_best 72 = some (.if_icmp .ge 5, 3, 77, 0, .null) := by decide +kernel
theorem fe_X12_best_75 : mj_f mi_X12_best 75 = some (.iload_n 3, 1, 3, 0, .null) := by decide +kernel
theorem fe_X12_best_76 : mj_f mi_X12_best 76 = some (.istore_n 2, 1, 2, 0, .null) := by decide +kernel
theorem fe_X12_best_77 : mj_f mi_X12_best 77 = some (.iinc 3 1, 3, 3, 0, .int (1)) := by decide +kernel
theorem fe_X12_best_80 : mj_f mi_X12_best 80 = some (.goto (-76), 3, 4, 0, .null) := by decide +kernel
theorem fe_X12_best_83 : mj_f mi_X12_best 83 = some (.iload_n 2, 1, 2, 0, .null) := by decide +kernel
theorem fe_X12_best_84 : mj_f mi_X12_best 84 = some (.ireturn, 1, 0, 0, .null) := by decide +kernel
def ct_X12_write : MJT := [
  (0, 0, .aload_n 0, 1, 0, 0, .null),
  (1, 1238, .getfield 92, 3, 12, 26, .null),
  (4, 0, .aload_n 0, 1, 0, 0, .null),
  (5, 1239, .getfield 95, 3, 12, 27, .int 0),
  (8, 0, .iload_n 1, 1, 1, 0, .null),
  (9, 0, .sipush 255, 3, 0, 0, .int (255)),
  (12, 0, .iand, 1, 0, 0, .null),
  (13, 0, .iastore, 1, 0, 0, .null),
  (14, 0, .aload_n 0, 1, 0, 0, .null),
  (15, 0, .dup, 1, 0, 0, .null),
  (16, 1239, .getfield 95, 3, 12, 27, .int 0),
  (19, 0, .iconst 1, 1, 0, 0, .int (1)),
  (20, 0, .iadd, 1, 0, 0, .null),
  (21, 1239, .putfield 95, 3, 12, 27, .int 0),
  (24, 0, .return_, 1, 0, 0, .null)]
abbrev id_X12_write : Nat := 204
def mi_X12_write : MI := (yX12_write, cX12_write, 2, none, 12, ct_X12_write)
theorem fe_X12_write_0 : mj_f mi_X12_write 0 = some (.aload_n 0, 1, 0, 0, .null) := by decide +kernel
theorem fe_X12_write_1 : mj_f mi_X12_write 1 = some (.getfield 92, 3, 12, 26, .null) := by decide +kernel
theorem fe_X12_write_4 : mj_f mi_X12_write 4 = some (.aload_n 0, 1, 0, 0, .null) := by decide +kernel
theorem fe_X12_write_5 : mj_f mi_X12_write 5 = some (.getfield 95, 3, 12, 27, .int 0) := by decide +kernel
theorem fe_X12_write_8 : mj_f mi_X12_write 8 = some (.iload_n 1, 1, 1, 0, .null) := by decide +kernel
theorem fe_X12_write_9 : mj_f mi_X12_write 9 = some (.sipush 255, 3, 0, 0, .int (255)) := by decide +kernel
theorem fe_X12_write_12 : mj_f mi_X12_write 12 = some (.iand, 1, 0, 0, .null) := by decide +kernel
theorem fe_X12_write_13 : mj_f mi_X12_write 13 = some (.iastore, 1, 0, 0, .null) := by decide +kernel
theorem fe_X12_write_14 : mj_f mi_X12_write 14 = some (.aload_n 0, 1, 0, 0, .null) := by decide +kernel
theorem fe_X12_write_15 : mj_f mi_X12_write 15 = some (.dup, 1, 0, 0, .null) := by decide +kernel
theorem fe_X12_write_16 : mj_f mi_X12_write 16 = some (.getfield 95, 3, 12, 27, .int 0) := by decide +kernel
theorem fe_X12_write_19 : mj_f mi_X12_write 19 = some (.iconst 1, 1, 0, 0, .int (1)) := by decide +kernel
theorem fe_X12_write_20 : mj_f mi_X12_write 20 = some (.iadd, 1, 0, 0, .null) := by decide +kernel
theorem fe_X12_write_21 : mj_f mi_X12_write 21 = some (.putfield 95, 3, 12, 27, .int 0) := by decide +kernel
theorem fe_X12_write_24 : mj_f mi_X12_write 24 = some (.return_, 1, 0, 0, .null) := by decide +kernel
def ct_X12_writeVarint : MJT := [
  (0, 0, .lload_n 1, 1, 1, 0, .null),
  (1, 0, .lstore_n 3, 1, 3, 0, .null),
  (2, 0, .lload_n 3, 1, 3, 0, .null),
  (3, 0, .bipush 7, 2, 0, 0, .int (7)),
  (5, 0, .lushr, 1, 0, 0, .null),
  (6, 0, .lconst 0, 1, 0, 0, .long 0),
  (7, 0, .lcmp, 1, 0, 0, .null),
  (8, 0, .ifCond .eq 25, 3, 33, 0, .null),
  (11, 0, .aload_n 0, 1, 0, 0, .null),
  (12, 0, .lload_n 3, 1, 3, 0, .null),
  (13, 1499, .ldc2_w 235, 3, 0, 0, .long (127)),
  (16, 0, .land, 1, 0, 0, .null),
  (17, 0, .l2i, 1, 0, 0, .null),
  (18, 0, .sipush 128, 3, 0, 0, .int (128)),
  (21, 0, .ior, 1, 0, 0, .null),
  (22, 1405, .invokevirtual 237, 3, 204, 1, .null),
  (25, 0, .lload_n 3, 1, 3, 0, .null),
  (26, 0, .bipush 7, 2, 0, 0, .int (7)),
  (28, 0, .lushr, 1, 0, 0, .null),
  (29, 0, .lstore_n 3, 1, 3, 0, .null),
  (30, 0, .goto (-28), 3, 2, 0, .null),
  (33, 0, .aload_n 0, 1, 0, 0, .null),
  (34, 0, .lload_n 3, 1, 3, 0, .null),
  (35, 0, .l2i, 1, 0, 0, .null),
  (36, 1405, .invokevirtual 237, 3, 204, 1, .null),
  (39, 0, .return_, 1, 0, 0, .null)]
abbrev id_X12_writeVarint : Nat := 205
def mi_X12_writeVarint : MI := (yX12_writeVarint, cX12_writeVarint, 5, none, 12, ct_X12_writeVarint)
theorem fe_X12_writeVarint_0 : mj_f mi_X12_writeVarint 0 = some (.lload_n 1, 1, 1, 0, .null) := by decide +kernel
theorem fe_X12_writeVarint_1 : mj_f mi_X12_writeVarint 1 = some (.lstore_n 3, 1, 3, 0, .null) := by decide +kernel
theorem fe_X12_writeVarint_2 : mj_f mi_X12_writeVarint 2 = some (.lload_n 3, 1, 3, 0, .null) := by decide +kernel
theorem fe_X12_writeVarint_3 : mj_f mi_X12_writeVarint 3 = some (.bipush 7, 2, 0, 0, .int (7)) := by decide +kernel
theorem fe_X12_writeVarint_5 : mj_f mi_X12_writeVarint 5 = some (.lushr, 1, 0, 0, .null) := by decide +kernel
theorem fe_X12_writeVarint_6 : mj_f mi_X12_writeVarint 6 = some (.lconst 0, 1, 0, 0, .long 0) := by decide +kernel
theorem fe_X12_writeVarint_7 : mj_f mi_X12_writeVarint 7 = some (.lcmp, 1, 0, 0, .null) := by decide +kernel
theorem fe_X12_writeVarint_8 : mj_f mi_X12_writeVarint 8 = some (.ifCond .eq 25, 3, 33, 0, .null) := by decide +kernel
theorem fe_X12_writeVarint_11 : mj_f mi_X12_writeVarint 11 = some (.aload_n 0, 1, 0, 0, .null) := by decide +kernel
theorem fe_X12_writeVarint_12 : mj_f mi_X12_writeVarint 12 = some (.lload_n 3, 1, 3, 0, .null) := by decide +kernel
theorem fe_X12_writeVarint_13 : mj_f mi_X12_writeVarint 13 = some (.ldc2_w 235, 3, 0, 0, .long (127)) := by decide +kernel
theorem fe_X12_writeVarint_16 : mj_f mi_X12_writeVarint 16 = some (.land, 1, 0, 0, .null) := by decide +kernel
theorem fe_X12_writeVarint_17 : mj_f mi_X12_writeVarint 17 = some (.l2i, 1, 0, 0, .null) := by decide +kernel
theorem fe_X12_writeVarint_18 : mj_f mi_X12_writeVarint 18 = some (.sipush 128, 3, 0, 0, .int (128)) := by decide +kernel
theorem fe_X12_writeVarint_21 : mj_f mi_X12_writeVarint 21 = some (.ior, 1, 0, 0, .null) := by decide +kernel
theorem fe_X12_writeVarint_22 : mj_f mi_X12_writeVarint 22 = some (.invokevirtual 237, 3, 204, 1, .null) := by decide +kernel
theorem fe_X12_writeVarint_25 : mj_f mi_X12_writeVarint 25 = some (.lload_n 3, 1, 3, 0, .null) := by decide +kernel
theorem fe_X12_writeVarint_26 : mj_f mi_X12_writeVarint 26 = some (.bipush 7, 2, 0, 0, .int (7)) := by decide +kernel
theorem fe_X12_writeVarint_28 : mj_f mi_X12_writeVarint 28 = some (.lushr, 1, 0, 0, .null) := by decide +kernel
theorem fe_X12_writeVarint_29 : mj_f mi_X12_writeVarint 29 = some (.lstore_n 3, 1, 3, 0, .null) := by decide +kernel
theorem fe_X12_writeVarint_30 : mj_f mi_X12_writeVarint 30 = some (.goto (-28), 3, 2, 0, .null) := by decide +kernel
theorem fe_X12_writeVarint_33 : mj_f mi_X12_writeVarint 33 = some (.aload_n 0, 1, 0, 0, .null) := by decide +kernel
theorem fe_X12_writeVarint_34 : mj_f mi_X12_writeVarint 34 = some (.lload_n 3, 1, 3, 0, .null) := by decide +kernel
theorem fe_X12_writeVarint_35 : mj_f mi_X12_writeVarint 35 = some (.l2i, 1, 0, 0, .null) := by decide +kernel
theorem fe_X12_writeVarint_36 : mj_f mi_X12_writeVarint 36 = some (.invokevirtual 237, 3, 204, 1, .null) := by decide +kernel
theorem fe_X12_writeVarint_39 : mj_f mi_X12_writeVarint 39 = some (.return_, 1, 0, 0, .null) := by decide +kernel
def ct_X12_lay : MJT := [
  (0, 0, .iconst 0, 1, 0, 0, .int (0)),
  (1, 0, .istore 4, 2, 4, 0, .null),
  (3, 0, .iload 4, 2, 4, 0, .null),
  (5, 0, .iload_n 3, 1, 3, 0, .null),
  (6, 0, .if_icmp .ge 76, 3, 82, 0, .null),
  (9, 0, .aload_n 0, 1, 0, 0, .null),
  (10, 1239, .getfield 95, 3, 12, 27, .int 0),
  (13, 0, .aload_n 0, 1, 0, 0, .null),
  (14, 1240, .getfield 98, 3, 12, 28, .int 0),
  (17, 0, .bipush 8, 2, 0, 0, .int (8)),
  (19, 0, .idiv, 1, 0, 0, .null),
  (20, 0, .iadd, 1, 0, 0, .null),
  (21, 0, .istore 5, 2, 5, 0, .null),
  (23, 0, .aload_n 0, 1, 0, 0, .null),
  (24, 1240, .getfield 98, 3, 12, 28, .int 0),
  (27, 0, .bipush 8, 2, 0, 0, .int (8)),
  (29, 0, .irem, 1, 0, 0, .null),
  (30, 0, .ifCond .ne 11, 3, 41, 0, .null),
  (33, 0, .aload_n 0, 1, 0, 0, .null),
  (34, 1238, .getfield 92, 3, 12, 26, .null),
  (37, 0, .iload 5, 2, 5, 0, .null),
  (39, 0, .iconst 0, 1, 0, 0, .int (0)),
  (40, 0, .iastore, 1, 0, 0, .null),
  (41, 0, .aload_n 0, 1, 0, 0, .null),
  (42, 1238, .getfield 92, 3, 12, 26, .null),
  (45, 0, .iload 5, 2, 5, 0, .null),
  (47, 0, .dup2, 1, 0, 0, .null),
  (48, 0, .iaload, 1, 0, 0, .null),
  (49, 0, .lload_n 1, 1, 1, 0, .null),
  (50, 0, .iload 4, 2, 4, 0, .null),
  (52, 0, .lushr, 1, 0, 0, .null),
  (53, 0, .lconst 1, 1, 0, 0, .long 1),
  (54, 0, .land, 1, 0, 0, .null),
  (55, 0, .l2i, 1, 0, 0, .null),
  (56, 0, .aload_n 0, 1, 0, 0, .null),
  (57, 1240, .getfield 98, 3, 12, 28, .int 0),
  (60, 0, .bipush 8, 2, 0, 0, .int (8)),
  (62, 0, .irem, 1, 0, 0, .null),
  (63, 0, .ishl, 1, 0, 0, .null),
  (64, 0, .ior, 1, 0, 0, .null),
  (65, 0, .iastore, 1, 0, 0, .null),
  (66, 0, .aload_n 0, 1, 0, 0, .null),
  (67, 0, .dup, 1, 0, 0, .null),
  (68, 1240, .getfield 98, 3, 12, 28, .int 0),
  (71, 0, .iconst 1, 1, 0, 0, .int (1)),
  (72, 0, .iadd, 1, 0, 0, .null),
  (73, 1240, .putfield 98, 3, 12, 28, .int 0),
  (76, 0, .iinc 4 1, 3, 4, 0, .int (1)),
  (79, 0, .goto (-76), 3, 3, 0, .null),
  (82, 0, .return_, 1, 0, 0, .null)]
abbrev id_X12_lay : Nat := 206
def mi_X12_lay : MI := (yX12_lay, cX12_lay, 6, none, 12, ct_X12_lay)
theorem fe_X12_lay_0 : mj_f mi_X12_lay 0 = some (.iconst 0, 1, 0, 0, .int (0)) := by decide +kernel
theorem fe_X12_lay_1 : mj_f mi_X12_lay 1 = some (.istore 4, 2, 4, 0, .null) := by decide +kernel
theorem fe_X12_lay_3 : mj_f mi_X12_lay 3 = some (.iload 4, 2, 4, 0, .null) := by decide +kernel
theorem fe_X12_lay_5 : mj_f mi_X12_lay 5 = some (.iload_n 3, 1, 3, 0, .null) := by decide +kernel
theorem fe_X12_lay_6 : mj_f mi_X12_lay 6 = some (.if_icmp .ge 76, 3, 82, 0, .null) := by decide +kernel
theorem fe_X12_lay_9 : mj_f mi_X12_lay 9 = some (.aload_n 0, 1, 0, 0, .null) := by decide +kernel
theorem fe_X12_lay_10 : mj_f mi_X12_lay 10 = some (.getfield 95, 3, 12, 27, .int 0) := by decide +kernel
theorem fe_X12_lay_13 : mj_f mi_X12_lay 13 = some (.aload_n 0, 1, 0, 0, .null) := by decide +kernel
theorem fe_X12_lay_14 : mj_f mi_X12_lay 14 = some (.getfield 98, 3, 12, 28, .int 0) := by decide +kernel
theorem fe_X12_lay_17 : mj_f mi_X12_lay 17 = some (.bipush 8, 2, 0, 0, .int (8)) := by decide +kernel
theorem fe_X12_lay_19 : mj_f mi_X12_lay 19 = some (.idiv, 1, 0, 0, .null) := by decide +kernel
theorem fe_X12_lay_20 : mj_f mi_X12_lay 20 = some (.iadd, 1, 0, 0, .null) := by decide +kernel
theorem fe_X12_lay_21 : mj_f mi_X12_lay 21 = some (.istore 5, 2, 5, 0, .null) := by decide +kernel
theorem fe_X12_lay_23 : mj_f mi_X12_lay 23 = some (.aload_n 0, 1, 0, 0, .null) := by decide +kernel
theorem fe_X12_lay_24 : mj_f mi_X12_lay 24 = some (.getfield 98, 3, 12, 28, .int 0) := by decide +kernel
theorem fe_X12_lay_27 : mj_f mi_X12_lay 27 = some (.bipush 8, 2, 0, 0, .int (8)) := by decide +kernel
theorem fe_X12_lay_29 : mj_f mi_X12_lay 29 = some (.irem, 1, 0, 0, .null) := by decide +kernel
theorem fe_X12_lay_30 : mj_f mi_X12_lay 30 = some (.ifCond .ne 11, 3, 41, 0, .null) := by decide +kernel
theorem fe_X12_lay_33 : mj_f mi_X12_lay 33 = some (.aload_n 0, 1, 0, 0, .null) := by decide +kernel
theorem fe_X12_lay_34 : mj_f mi_X12_lay 34 = some (.getfield 92, 3, 12, 26, .null) := by decide +kernel
theorem fe_X12_lay_37 : mj_f mi_X12_lay 37 = some (.iload 5, 2, 5, 0, .null) := by decide +kernel
theorem fe_X12_lay_39 : mj_f mi_X12_lay 39 = some (.iconst 0, 1, 0, 0, .int (0)) := by decide +kernel
theorem fe_X12_lay_40 : mj_f mi_X12_lay 40 = some (.iastore, 1, 0, 0, .null) := by decide +kernel
theorem fe_X12_lay_41 : mj_f mi_X12_lay 41 = some (.aload_n 0, 1, 0, 0, .null) := by decide +kernel
theorem fe_X12_lay_42 : mj_f mi_X12_lay 42 = some (.getfield 92, 3, 12, 26, .null) := by decide +kernel
theorem fe_X12_lay_45 : mj_f mi_X12_lay 45 = some (.iload 5, 2, 5, 0, .null) := by decide +kernel
theorem fe_X12_lay_47 : mj_f mi_X12_lay 47 = some (.dup2, 1, 0, 0, .null) := by decide +kernel
theorem fe_X12_lay_48 : mj_f mi_X12_lay 48 = some (.iaload, 1, 0, 0, .null) := by decide +kernel
theorem fe_X12_lay_49 : mj_f mi_X12_lay 49 = some (.lload_n 1, 1, 1, 0, .null) := by decide +kernel
theorem fe_X12_lay_50 : mj_f mi_X12_lay 50 = some (.iload 4, 2, 4, 0, .null) := by decide +kernel
theorem fe_X12_lay_52 : mj_f mi_X12_lay 52 = some (.lushr, 1, 0, 0, .null) := by decide +kernel
theorem fe_X12_lay_53 : mj_f mi_X12_lay 53 = some (.lconst 1, 1, 0, 0, .long 1) := by decide +kernel
theorem fe_X12_lay_54 : mj_f mi_X12_lay 54 = some (.land, 1, 0, 0, .null) := by decide +kernel
theorem fe_X12_lay_55 : mj_f mi_X12_lay 55 = some (.l2i, 1, 0, 0, .null) := by decide +kernel
theorem fe_X12_lay_56 : mj_f mi_X12_lay 56 = some (.aload_n 0, 1, 0, 0, .null) := by decide +kernel
theorem fe_X12_lay_57 : mj_f mi_X12_lay 57 = some (.getfield 98, 3, 12, 28, .int 0) := by decide +kernel
theorem fe_X12_lay_60 : mj_f mi_X12_lay 60 = some (.bipush 8, 2, 0, 0, .int (8)) := by decide +kernel
theorem fe_X12_lay_62 : mj_f mi_X12_lay 62 = some (.irem, 1, 0, 0, .null) := by decide +kernel
theorem fe_X12_lay_63 : mj_f mi_X12_lay 63 = some (.ishl, 1, 0, 0, .null) := by decide +kernel
theorem fe_X12_lay_64 : mj_f mi_X12_lay 64 = some (.ior, 1, 0, 0, .null) := by decide +kernel
theorem fe_X12_lay_65 : mj_f mi_X12_lay 65 = some (.iastore, 1, 0, 0, .null) := by decide +kernel
theorem fe_X12_lay_66 : mj_f mi_X12_lay 66 = some (.aload_n 0, 1, 0, 0, .null) := by decide +kernel
theorem fe_X12_lay_67 : mj_f mi_X12_lay 67 = some (.dup, 1, 0, 0, .null) := by decide +kernel
theorem fe_X12_lay_68 : mj_f mi_X12_lay 68 = some (.getfield 98, 3, 12, 28, .int 0) := by decide +kernel
theorem fe_X12_lay_71 : mj_f mi_X12_lay 71 = some (.iconst 1, 1, 0, 0, .int (1)) := by decide +kernel
theorem fe_X12_lay_72 : mj_f mi_X12_lay 72 = some (.iadd, 1, 0, 0, .null) := by decide +kernel
theorem fe_X12_lay_73 : mj_f mi_X12_lay 73 = some (.putfield 98, 3, 12, 28, .int 0) := by decide +kernel
theorem fe_X12_lay_76 : mj_f mi_X12_lay 76 = some (.iinc 4 1, 3, 4, 0, .int (1)) := by decide +kernel
theorem fe_X12_lay_79 : mj_f mi_X12_lay 79 = some (.goto (-76), 3, 3, 0, .null) := by decide +kernel
theorem fe_X12_lay_82 : mj_f mi_X12_lay 82 = some (.return_, 1, 0, 0, .null) := by decide +kernel
def ct_X12_ends : MJT := [
  (0, 0, .aload_n 0, 1, 0, 0, .null),
  (1, 0, .dup, 1, 0, 0, .null),
  (2, 1239, .getfield 95, 3, 12, 27, .int 0),
  (5, 0, .aload_n 0, 1, 0, 0, .null),
  (6, 1240, .getfield 98, 3, 12, 28, .int 0),
  (9, 0, .bipush 7, 2, 0, 0, .int (7)),
  (11, 0, .iadd, 1, 0, 0, .null),
  (12, 0, .bipush 8, 2, 0, 0, .int (8)),
  (14, 0, .idiv, 1, 0, 0, .null),
  (15, 0, .iadd, 1, 0, 0, .null),
  (16, 1239, .putfield 95, 3, 12, 27, .int 0),
  (19, 0, .aload_n 0, 1, 0, 0, .null),
  (20, 0, .iconst 0, 1, 0, 0, .int (0)),
  (21, 1240, .putfield 98, 3, 12, 28, .int 0),
  (24, 0, .return_, 1, 0, 0, .null)]
abbrev id_X12_ends : Nat := 207
def mi_X12_ends : MI := (yX12_ends, cX12_ends, 1, none, 12, ct_X12_ends)
theorem fe_X12_ends_0 : mj_f mi_X12_ends 0 = some (.aload_n 0, 1, 0, 0, .null) := by decide +kernel
theorem fe_X12_ends_1 : mj_f mi_X12_ends 1 = some (.dup, 1, 0, 0, .null) := by decide +kernel
theorem fe_X12_ends_2 : mj_f mi_X12_ends 2 = some (.getfield 95, 3, 12, 27, .int 0) := by decide +kernel
theorem fe_X12_ends_5 : mj_f mi_X12_ends 5 = some (.aload_n 0, 1, 0, 0, .null) := by decide +kernel
theorem fe_X12_ends_6 : mj_f mi_X12_ends 6 = some (.getfield 98, 3, 12, 28, .int 0) := by decide +kernel
theorem fe_X12_ends_9 : mj_f mi_X12_ends 9 = some (.bipush 7, 2, 0, 0, .int (7)) := by decide +kernel
theorem fe_X12_ends_11 : mj_f mi_X12_ends 11 = some (.iadd, 1, 0, 0, .null) := by decide +kernel
theorem fe_X12_ends_12 : mj_f mi_X12_ends 12 = some (.bipush 8, 2, 0, 0, .int (8)) := by decide +kernel
theorem fe_X12_ends_14 : mj_f mi_X12_ends 14 = some (.idiv, 1, 0, 0, .null) := by decide +kernel
theorem fe_X12_ends_15 : mj_f mi_X12_ends 15 = some (.iadd, 1, 0, 0, .null) := by decide +kernel
theorem fe_X12_ends_16 : mj_f mi_X12_ends 16 = some (.putfield 95, 3, 12, 27, .int 0) := by decide +kernel
theorem fe_X12_ends_19 : mj_f mi_X12_ends 19 = some (.aload_n 0, 1, 0, 0, .null) := by decide +kernel
theorem fe_X12_ends_20 : mj_f mi_X12_ends 20 = some (.iconst 0, 1, 0, 0, .int (0)) := by decide +kernel
theorem fe_X12_ends_21 : mj_f mi_X12_ends 21 = some (.putfield 98, 3, 12, 28, .int 0) := by decide +kernel
theorem fe_X12_ends_24 : mj_f mi_X12_ends 24 = some (.return_, 1, 0, 0, .null) := by decide +kernel
def ct_X12_before : MJT := [
  (0, 0, .aload_n 0, 1, 0, 0, .null),
  (1, 0, .iload_n 2, 1, 2, 0, .null),
  (2, 1405, .invokevirtual 237, 3, 204, 1, .null),
  (5, 0, .iload_n 2, 1, 2, 0, .null),
  (6, 0, .iconst 4, 1, 0, 0, .int (4)),
  (7, 0, .if_icmp .eq 8, 3, 15, 0, .null),
  (10, 0, .iload_n 2, 1, 2, 0, .null),
  (11, 0, .iconst 5, 1, 0, 0, .int (5)),
  (12, 0, .if_icmp .ne 15, 3, 27, 0, .null),
  (15, 0, .aload_n 0, 1, 0, 0, .null),
  (16, 0, .aload_n 0, 1, 0, 0, .null),
  (17, 1227, .getfield 58, 3, 12, 15, .null),
  (20, 0, .iload_n 1, 1, 1, 0, .null),
  (21, 0, .iconst 1, 1, 0, 0, .int (1)),
  (22, 0, .iadd, 1, 0, 0, .null),
  (23, 0, .iaload, 1, 0, 0, .null),
  (24, 1405, .invokevirtual 237, 3, 204, 1, .null),
  (27, 0, .iload_n 2, 1, 2, 0, .null),
  (28, 0, .bipush 6, 2, 0, 0, .int (6)),
  (30, 0, .if_icmp .ne 13, 3, 43, 0, .null),
  (33, 0, .aload_n 0, 1, 0, 0, .null),
  (34, 0, .aload_n 0, 1, 0, 0, .null),
  (35, 1228, .getfield 61, 3, 12, 16, .null),
  (38, 0, .iload_n 1, 1, 1, 0, .null),
  (39, 0, .laload, 1, 0, 0, .null),
  (40, 1495, .invokevirtual 240, 3, 205, 1, .null),
  (43, 0, .return_, 1, 0, 0, .null)]
abbrev id_X12_before : Nat := 208
def mi_X12_before : MI := (yX12_before, cX12_before, 3, none, 12, ct_X12_before)
theorem fe_X12_before_0 : mj_f mi_X12_before 0 = some (.aload_n 0, 1, 0, 0, .null) := by decide +kernel
theorem fe_X12_before_1 : mj_f mi_X12_before 1 = some (.iload_n 2, 1, 2, 0, .null) := by decide +kernel
theorem fe_X12_before_2 : mj_f mi_X12_before 2 = some (.invokevirtual 237, 3, 204, 1, .null) := by decide +kernel
theorem fe_X12_before_5 : mj_f mi_X12_before 5 = some (.iload_n 2, 1, 2, 0, .null) := by decide +kernel
theorem fe_X12_before_6 : mj_f mi_X12_before 6 = some (.iconst 4, 1, 0, 0, .int (4)) := by decide +kernel
theorem fe_X12_before_7 : mj_f mi_X12_before 7 = some (.if_icmp .eq 8, 3, 15, 0, .null) := by decide +kernel
theorem fe_X12_before_10 : mj_f mi_X12_before 10 = some (.iload_n 2, 1, 2, 0, .null) := by decide +kernel
theorem fe_X12_before_11 : mj_f mi_X12_before 11 = some (.iconst 5, 1, 0, 0, .int (5)) := by decide +kernel
theorem fe_X12_before_12 : mj_f mi_X12_before 12 = some (.if_icmp .ne 15, 3, 27, 0, .null) := by decide +kernel
theorem fe_X12_before_15 : mj_f mi_X12_before 15 = some (.aload_n 0, 1, 0, 0, .null) := by decide +kernel
theorem fe_X12_before_16 : mj_f mi_X12_before 16 = some (.aload_n 0, 1, 0, 0, .null) := by decide +kernel
theorem fe_X12_before_17 : mj_f mi_X12_before 17 = some (.getfield 58, 3, 12, 15, .null) := by decide +kernel
theorem fe_X12_before_20 : mj_f mi_X12_before 20 = some (.iload_n 1, 1, 1, 0, .null) := by decide +kernel
theorem fe_X12_before_21 : mj_f mi_X12_before 21 = some (.iconst 1, 1, 0, 0, .int (1)) := by decide +kernel
theorem fe_X12_before_22 : mj_f mi_X12_before 22 = some (.iadd, 1, 0, 0, .null) := by decide +kernel
theorem fe_X12_before_23 : mj_f mi_X12_before 23 = some (.iaload, 1, 0, 0, .null) := by decide +kernel
theorem fe_X12_before_24 : mj_f mi_X12_before 24 = some (.invokevirtual 237, 3, 204, 1, .null) := by decide +kernel
theorem fe_X12_before_27 : mj_f mi_X12_before 27 = some (.iload_n 2, 1, 2, 0, .null) := by decide +kernel
theorem fe_X12_before_28 : mj_f mi_X12_before 28 = some (.bipush 6, 2, 0, 0, .int (6)) := by decide +kernel
theorem fe_X12_before_30 : mj_f mi_X12_before 30 = some (.if_icmp .ne 13, 3, 43, 0, .null) := by decide +kernel
theorem fe_X12_before_33 : mj_f mi_X12_before 33 = some (.aload_n 0, 1, 0, 0, .null) := by decide +kernel
theorem fe_X12_before_34 : mj_f mi_X12_before 34 = some (.aload_n 0, 1, 0, 0, .null) := by decide +kernel
theorem fe_X12_before_35 : mj_f mi_X12_before 35 = some (.getfield 61, 3, 12, 16, .null) := by decide +kernel
theorem fe_X12_before_38 : mj_f mi_X12_before 38 = some (.iload_n 1, 1, 1, 0, .null) := by decide +kernel
theorem fe_X12_before_39 : mj_f mi_X12_before 39 = some (.laload, 1, 0, 0, .null) := by decide +kernel
theorem fe_X12_before_40 : mj_f mi_X12_before 40 = some (.invokevirtual 240, 3, 205, 1, .null) := by decide +kernel
theorem fe_X12_before_43 : mj_f mi_X12_before 43 = some (.return_, 1, 0, 0, .null) := by decide +kernel
def ct_X12_behind : MJT := [
  (0, 0, .aload_n 0, 1, 0, 0, .null),
  (1, 1227, .getfield 58, 3, 12, 15, .null),
  (4, 0, .iload_n 1, 1, 1, 0, .null),
  (5, 0, .iconst 1, 1, 0, 0, .int (1)),
  (6, 0, .iadd, 1, 0, 0, .null),
  (7, 0, .iaload, 1, 0, 0, .null),
  (8, 0, .istore_n 3, 1, 3, 0, .null),
  (9, 0, .iload_n 2, 1, 2, 0, .null),
  (10, 0, .iconst 4, 1, 0, 0, .int (4)),
  (11, 0, .if_icmp .ne 181, 3, 192, 0, .null),
  (14, 0, .aload_n 0, 1, 0, 0, .null),
  (15, 1229, .getfield 64, 3, 12, 17, .null),
  (18, 0, .bipush 33, 2, 0, 0, .int (33)),
  (20, 0, .iload_n 1, 1, 1, 0, .null),
  (21, 0, .imul, 1, 0, 0, .null),
  (22, 0, .iaload, 1, 0, 0, .null),
  (23, 0, .istore 4, 2, 4, 0, .null),
  (25, 0, .iload 4, 2, 4, 0, .null),
  (27, 0, .istore 5, 2, 5, 0, .null),
  (29, 0, .iconst 1, 1, 0, 0, .int (1)),
  (30, 0, .istore 6, 2, 6, 0, .null),
  (32, 0, .iload 6, 2, 6, 0, .null),
  (34, 0, .iload_n 3, 1, 3, 0, .null),
  (35, 0, .if_icmp .ge 81, 3, 116, 0, .null),
  (38, 0, .aload_n 0, 1, 0, 0, .null),
  (39, 1229, .getfield 64, 3, 12, 17, .null),
  (42, 0, .bipush 33, 2, 0, 0, .int (33)),
  (44, 0, .iload_n 1, 1, 1, 0, .null),
  (45, 0, .imul, 1, 0, 0, .null),
  (46, 0, .iload 6, 2, 6, 0, .null),
  (48, 0, .iadd, 1, 0, 0, .null),
  (49, 0, .iaload, 1, 0, 0, .null),
  (50, 0, .iload 4, 2, 4, 0, .null),
  (52, 0, .if_icmp .ge 18, 3, 70, 0, .null),
  (55, 0, .aload_n 0, 1, 0, 0, .null),
  (56, 1229, .getfield 64, 3, 12, 17, .null),
  (59, 0, .bipush 33, 2, 0, 0, .int (33)),
  (61, 0, .iload_n 1, 1, 1, 0, .null),
  (62, 0, .imul, 1, 0, 0, .null),
  (63, 0, .iload 6, 2, 6, 0, .null),
  (65, 0, .iadd, 1, 0, 0, .null),
  (66, 0, .iaload, 1, 0, 0, .null),
  (67, 0, .goto 5, 3, 72, 0, .null),
  (70, 0, .iload 4, 2, 4, 0, .null),
  (72, 0, .istore 4, 2, 4, 0, .null),
  (74, 0, .aload_n 0, 1, 0, 0, .null),
  (75, 1229, .getfield 64, 3, 12, 17, .null),
  (78, 0, .bipush 33, 2, 0, 0, .int (33)),
  (80, 0, .iload_n 1, 1, 1, 0, .null),
  (81, 0, .imul, 1, 0, 0, .null),
  (82, 0, .iload 6, 2, 6, 0, .null),
  (84, 0, .iadd, 1, 0, 0, .null),
  (85, 0, .iaload, 1, 0, 0, .null),
  (86, 0, .iload 5, 2, 5, 0, .null),
  (88, 0, .if_icmp .le 18, 3, 106, 0, .null),
  (91, 0, .aload_n 0, 1, 0, 0, .null),
  (92, 1229, .getfield 64, 3, 12, 17, .null),
  (95, 0, .bipush 33, 2, 0, 0, .int (33)),
  (97, 0, .iload_n 1, 1, 1, 0, .null),
  (98, 0, .imul, 1, 0, 0, .null),
  (99, 0, .iload 6, 2, 6, 0, .null),
  (101, 0, .iadd, 1, 0, 0, .null),
  (102, 0, .iaload, 1, 0, 0, .null),
  (103, 0, .goto 5, 3, 108, 0, .null),
  (106, 0, .iload 5, 2, 5, 0, .null),
  (108, 0, .istore 5, 2, 5, 0, .null),
  (110, 0, .iinc 6 1, 3, 6, 0, .int (1)),
  (113, 0, .goto (-81), 3, 32, 0, .null),
  (116, 0, .aload_n 0, 1, 0, 0, .null),
  (117, 0, .iconst 1, 1, 0, 0, .int (1)),
  (118, 1405, .invokevirtual 237, 3, 204, 1, .null),
  (121, 0, .aload_n 0, 1, 0, 0, .null),
  (122, 0, .iload 4, 2, 4, 0, .null),
  (124, 0, .i2l, 1, 0, 0, .null),
  (125, 1437, .invokestatic 184, 3, 185, 1, .null),
  (128, 1495, .invokevirtual 240, 3, 205, 1, .null),
  (131, 0, .aload_n 0, 1, 0, 0, .null),
  (132, 0, .iload 5, 2, 5, 0, .null),
  (134, 0, .iload 4, 2, 4, 0, .null),
  (136, 0, .isub, 1, 0, 0, .null),
  (137, 0, .i2l, 1, 0, 0, .null),
  (138, 1447, .invokestatic 192, 3, 187, 1, .null),
  (141, 1405, .invokevirtual 237, 3, 204, 1, .null),
  (144, 0, .iconst 0, 1, 0, 0, .int (0)),
  (145, 0, .istore 6, 2, 6, 0, .null),
  (147, 0, .iload 6, 2, 6, 0, .null),
  (149, 0, .iload_n 3, 1, 3, 0, .null),
  (150, 0, .if_icmp .ge 38, 3, 188, 0, .null),
  (153, 0, .aload_n 0, 1, 0, 0, .null),
  (154, 0, .aload_n 0, 1, 0, 0, .null),
  (155, 1229, .getfield 64, 3, 12, 17, .null),
  (158, 0, .bipush 33, 2, 0, 0, .int (33)),
  (160, 0, .iload_n 1, 1, 1, 0, .null),
  (161, 0, .imul, 1, 0, 0, .null),
  (162, 0, .iload 6, 2, 6, 0, .null),
  (164, 0, .iadd, 1, 0, 0, .null),
  (165, 0, .iaload, 1, 0, 0, .null),
  (166, 0, .iload 4, 2, 4, 0, .null),
  (168, 0, .isub, 1, 0, 0, .null),
  (169, 0, .i2l, 1, 0, 0, .null),
  (170, 0, .iload 5, 2, 5, 0, .null),
  (172, 0, .iload 4, 2, 4, 0, .null),
  (174, 0, .isub, 1, 0, 0, .null),
  (175, 0, .i2l, 1, 0, 0, .null),
  (176, 1447, .invokestatic 192, 3, 187, 1, .null),
  (179, 1409, .invokevirtual 244, 3, 206, 2, .null),
  (182, 0, .iinc 6 1, 3, 6, 0, .int (1)),
  (185, 0, .goto (-38), 3, 147, 0, .null),
  (188, 0, .aload_n 0, 1, 0, 0, .null),
  (189, 1413, .invokevirtual 248, 3, 207, 0, .null),
  (192, 0, .iload_n 2, 1, 2, 0, .null),
  (193, 0, .iconst 5, 1, 0, 0, .int (5)),
  (194, 0, .if_icmp .eq 4, 3, 198, 0, .null),
  (197, 0, .return_, 1, 0, 0, .null),
  (198, 0, .iconst 0, 1, 0, 0, .int (0)),
  (199, 0, .istore 4, 2, 4, 0, .null),
  (201, 0, .iload 4, 2, 4, 0, .null),
  (203, 0, .aload_n 0, 1, 0, 0, .null),
  (204, 1227, .getfield 58, 3, 12, 15, .null),
  (207, 0, .iload_n 1, 1, 1, 0, .null),
  (208, 0, .iaload, 1, 0, 0, .null),
  (209, 0, .if_icmp .ge 57, 3, 266, 0, .null),
  (212, 0, .iconst 0, 1, 0, 0, .int (0)),
  (213, 0, .istore 5, 2, 5, 0, .null),
  (215, 0, .aload_n 0, 1, 0, 0, .null),
  (216, 1226, .getfield 55, 3, 12, 14, .null),
  (219, 0, .bipush 33, 2, 0, 0, .int (33)),
  (221, 0, .iload_n 1, 1, 1, 0, .null),
  (222, 0, .iconst 1, 1, 0, 0, .int (1)),
  (223, 0, .iadd, 1, 0, 0, .null),
  (224, 0, .imul, 1, 0, 0, .null),
  (225, 0, .iload 5, 2, 5, 0, .null),
  (227, 0, .iadd, 1, 0, 0, .null),
  (228, 0, .laload, 1, 0, 0, .null),
  (229, 0, .aload_n 0, 1, 0, 0, .null),
  (230, 0, .iload_n 1, 1, 1, 0, .null),
  (231, 0, .iload 4, 2, 4, 0, .null),
  (233, 1433, .invokevirtual 168, 3, 189, 2, .null),
  (236, 0, .lcmp, 1, 0, 0, .null),
  (237, 0, .ifCond .eq 9, 3, 246, 0, .null),
  (240, 0, .iinc 5 1, 3, 5, 0, .int (1)),
  (243, 0, .goto (-28), 3, 215, 0, .null),
  (246, 0, .aload_n 0, 1, 0, 0, .null),
  (247, 0, .iload 5, 2, 5, 0, .null),
  (249, 0, .i2l, 1, 0, 0, .null),
  (250, 0, .iload_n 3, 1, 3, 0, .null),
  (251, 0, .iconst 1, 1, 0, 0, .int (1)),
  (252, 0, .isub, 1, 0, 0, .null),
  (253, 0, .i2l, 1, 0, 0, .null),
  (254, 1447, .invokestatic 192, 3, 187, 1, .null),
  (257, 1409, .invokevirtual 244, 3, 206, 2, .null),
  (260, 0, .iinc 4 1, 3, 4, 0, .int (1)),
  (263, 0, .goto (-62), 3, 201, 0, .null),
  (266, 0, .aload_n 0, 1, 0, 0, .null),
  (267, 1413, .invokevirtual 248, 3, 207, 0, .null),
  (270, 0, .return_, 1, 0, 0, .null)]
abbrev id_X12_behind : Nat := 209
def mi_X12_behind : MI := (yX12_behind, cX12_behind, 7, none, 12, ct_X12_behind)
theorem fe_X12_behind_0 : mj_f mi_X12_behind 0 = some (.aload_n 0, 1, 0, 0, .null) := by decide +kernel
theorem fe_X12_behind_1 : mj_f mi_X12_behind 1 = some (.getfield 58, 3, 12, 15, .null) := by decide +kernel
theorem fe_X12_behind_4 : mj_f mi_X12_behind 4 = some (.iload_n 1, 1, 1, 0, .null) := by decide +kernel
theorem fe_X12_behind_5 : mj_f mi_X12_behind 5 = some (.iconst 1, 1, 0, 0, .int (1)) := by decide +kernel
theorem fe_X12_behind_6 : mj_f mi_X12_behind 6 = some (.iadd, 1, 0, 0, .null) := by decide +kernel
theorem fe_X12_behind_7 : mj_f mi_X12_behind 7 = some (.iaload, 1, 0, 0, .null) := by decide +kernel
theorem fe_X12_behind_8 : mj_f mi_X12_behind 8 = some (.istore_n 3, 1, 3, 0, .null) := by decide +kernel
theorem fe_X12_behind_9 : mj_f mi_X12_behind 9 = some (.iload_n 2, 1, 2, 0, .null) := by decide +kernel
theorem fe_X12_behind_10 : mj_f mi_X12_behind 10 = some (.iconst 4, 1, 0, 0, .int (4)) := by decide +kernel
theorem fe_X12_behind_11 : mj_f mi_X12_behind 11 = some (.if_icmp .ne 181, 3, 192, 0, .null) := by decide +kernel
theorem fe_X12_behind_14 : mj_f mi_X12_behind 14 = some (.aload_n 0, 1, 0, 0, .null) := by decide +kernel
theorem fe_X12_behind_15 : mj_f mi_X12_behind 15 = some (.getfield 64, 3, 12, 17, .null) := by decide +kernel
theorem fe_X12_behind_18 : mj_f mi_X12_behind 18 = some (.bipush 33, 2, 0, 0, .int (33)) := by decide +kernel
theorem fe_X12_behind_20 : mj_f mi_X12_behind 20 = some (.iload_n 1, 1, 1, 0, .null) := by decide +kernel
theorem fe_X12_behind_21 : mj_f mi_X12_behind 21 = some (.imul, 1, 0, 0, .null) := by decide +kernel
theorem fe_X12_behind_22 : mj_f mi_X12_behind 22 = some (.iaload, 1, 0, 0, .null) := by decide +kernel
theorem fe_X12_behind_23 : mj_f mi_X12_behind 23 = some (.istore 4, 2, 4, 0, .null) := by decide +kernel
theorem fe_X12_behind_25 : mj_f mi_X12_behind 25 = some (.iload 4, 2, 4, 0, .null) := by decide +kernel
theorem fe_X12_behind_27 : mj_f mi_X12_behind 27 = some (.istore 5, 2, 5, 0, .null) := by decide +kernel
theorem fe_X12_behind_29 : mj_f mi_X12_behind 29 = some (.iconst 1, 1, 0, 0, .int (1)) := by decide +kernel
theorem fe_X12_behind_30 : mj_f mi_X12_behind 30 = some (.istore 6, 2, 6, 0, .null) := by decide +kernel
theorem fe_X12_behind_32 : mj_f mi_X12_behind 32 = some (.iload 6, 2, 6, 0, .null) := by decide +kernel
theorem fe_X12_behind_34 : mj_f mi_X12_behind 34 = some (.iload_n 3, 1, 3, 0, .null) := by decide +kernel
theorem fe_X12_behind_35 : mj_f mi_X12_behind 35 = some (.if_icmp .ge 81, 3, 116, 0, .null) := by decide +kernel
theorem fe_X12_behind_38 : mj_f mi_X12_behind 38 = some (.aload_n 0, 1, 0, 0, .null) := by decide +kernel
theorem fe_X12_behind_39 : mj_f mi_X12_behind 39 = some (.getfield 64, 3, 12, 17, .null) := by decide +kernel
theorem fe_X12_behind_42 : mj_f mi_X12_behind 42 = some (.bipush 33, 2, 0, 0, .int (33)) := by decide +kernel
theorem fe_X12_behind_44 : mj_f mi_X12_behind 44 = some (.iload_n 1, 1, 1, 0, .null) := by decide +kernel
theorem fe_X12_behind_45 : mj_f mi_X12_behind 45 = some (.imul, 1, 0, 0, .null) := by decide +kernel
theorem fe_X12_behind_46 : mj_f mi_X12_behind 46 = some (.iload 6, 2, 6, 0, .null) := by decide +kernel
theorem fe_X12_behind_48 : mj_f mi_X12_behind 48 = some (.iadd, 1, 0, 0, .null) := by decide +kernel
theorem fe_X12_behind_49 : mj_f mi_X12_behind 49 = some (.iaload, 1, 0, 0, .null) := by decide +kernel
theorem fe_X12_behind_50 : mj_f mi_X12_behind 50 = some (.iload 4, 2, 4, 0, .null) := by decide +kernel
theorem fe_X12_behind_52 : mj_f mi_X12_behind 52 = some (.if_icmp .ge 18, 3, 70, 0, .null) := by decide +kernel
theorem fe_X12_behind_55 : mj_f mi_X12_behind 55 = some (.aload_n 0, 1, 0, 0, .null) := by decide +kernel
theorem fe_X12_behind_56 : mj_f mi_X12_behind 56 = some (.getfield 64, 3, 12, 17, .null) := by decide +kernel
theorem fe_X12_behind_59 : mj_f mi_X12_behind 59 = some (.bipush 33, 2, 0, 0, .int (33)) := by decide +kernel
theorem fe_X12_behind_61 : mj_f mi_X12_behind 61 = some (.iload_n 1, 1, 1, 0, .null) := by decide +kernel
theorem fe_X12_behind_62 : mj_f mi_X12_behind 62 = some (.imul, 1, 0, 0, .null) := by decide +kernel
theorem fe_X12_behind_63 : mj_f mi_X12_behind 63 = some (.iload 6, 2, 6, 0, .null) := by decide +kernel
theorem fe_X12_behind_65 : mj_f mi_X12_behind 65 = some (.iadd, 1, 0, 0, .null) := by decide +kernel
theorem fe_X12_behind_66 : mj_f mi_X12_behind 66 = some (.iaload, 1, 0, 0, .null) := by decide +kernel
theorem fe_X12_behind_67 : mj_f mi_X12_behind 67 = some (.goto 5, 3, 72, 0, .null) := by decide +kernel
theorem fe_X12_behind_70 : mj_f mi_X12_behind 70 = some (.iload 4, 2, 4, 0, .null) := by decide +kernel
theorem fe_X12_behind_72 : mj_f mi_X12_behind 72 = some (.istore 4, 2, 4, 0, .null) := by decide +kernel
theorem fe_X12_behind_74 : mj_f mi_X12_behind 74 = some (.aload_n 0, 1, 0, 0, .null) := by decide +kernel
theorem fe_X12_behind_75 : mj_f mi_X12_behind 75 = some (.getfield 64, 3, 12, 17, .null) := by decide +kernel
theorem fe_X12_behind_78 : mj_f mi_X12_behind 78 = some (.bipush 33, 2, 0, 0, .int (33)) := by decide +kernel
theorem fe_X12_behind_80 : mj_f mi_X12_behind 80 = some (.iload_n 1, 1, 1, 0, .null) := by decide +kernel
theorem fe_X12_behind_81 : mj_f mi_X12_behind 81 = some (.imul, 1, 0, 0, .null) := by decide +kernel
theorem fe_X12_behind_82 : mj_f mi_X12_behind 82 = some (.iload 6, 2, 6, 0, .null) := by decide +kernel
theorem fe_X12_behind_84 : mj_f mi_X12_behind 84 = some (.iadd, 1, 0, 0, .null) := by decide +kernel
theorem fe_X12_behind_85 : mj_f mi_X12_behind 85 = some (.iaload, 1, 0, 0, .null) := by decide +kernel
theorem fe_X12_behind_86 : mj_f mi_X12_behind 86 = some (.iload 5, 2, 5, 0, .null) := by decide +kernel
theorem fe_X12_behind_88 : mj_f mi_X12_behind 88 = some (.if_icmp .le 18, 3, 106, 0, .null) := by decide +kernel
theorem fe_X12_behind_91 : mj_f mi_X12_behind 91 = some (.aload_n 0, 1, 0, 0, .null) := by decide +kernel
theorem fe_X12_behind_92 : mj_f mi_X12_behind 92 = some (.getfield 64, 3, 12, 17, .null) := by decide +kernel
theorem fe_X12_behind_95 : mj_f mi_X12_behind 95 = some (.bipush 33, 2, 0, 0, .int (33)) := by decide +kernel
theorem fe_X12_behind_97 : mj_f mi_X12_behind 97 = some (.iload_n 1, 1, 1, 0, .null) := by decide +kernel
theorem fe_X12_behind_98 : mj_f mi_X12_behind 98 = some (.imul, 1, 0, 0, .null) := by decide +kernel
theorem fe_X12_behind_99 : mj_f mi_X12_behind 99 = some (.iload 6, 2, 6, 0, .null) := by decide +kernel
theorem fe_X12_behind_101 : mj_f mi_X12_behind 101 = some (.iadd, 1, 0, 0, .null) := by decide +kernel
theorem fe_X12_behind_102 : mj_f mi_X12_behind 102 = some (.iaload, 1, 0, 0, .null) := by decide +kernel
theorem fe_X12_behind_103 : mj_f mi_X12_behind 103 = some (.goto 5, 3, 108, 0, .null) := by decide +kernel
theorem fe_X12_behind_106 : mj_f mi_X12_behind 106 = some (.iload 5, 2, 5, 0, .null) := by decide +kernel
theorem fe_X12_behind_108 : mj_f mi_X12_behind 108 = some (.istore 5, 2, 5, 0, .null) := by decide +kernel
theorem fe_X12_behind_110 : mj_f mi_X12_behind 110 = some (.iinc 6 1, 3, 6, 0, .int (1)) := by decide +kernel
theorem fe_X12_behind_113 : mj_f mi_X12_behind 113 = some (.goto (-81), 3, 32, 0, .null) := by decide +kernel
theorem fe_X12_behind_116 : mj_f mi_X12_behind 116 = some (.aload_n 0, 1, 0, 0, .null) := by decide +kernel
theorem fe_X12_behind_117 : mj_f mi_X12_behind 117 = some (.iconst 1, 1, 0, 0, .int (1)) := by decide +kernel
theorem fe_X12_behind_118 : mj_f mi_X12_behind 118 = some (.invokevirtual 237, 3, 204, 1, .null) := by decide +kernel
theorem fe_X12_behind_121 : mj_f mi_X12_behind 121 = some (.aload_n 0, 1, 0, 0, .null) := by decide +kernel
theorem fe_X12_behind_122 : mj_f mi_X12_behind 122 = some (.iload 4, 2, 4, 0, .null) := by decide +kernel
theorem fe_X12_behind_124 : mj_f mi_X12_behind 124 = some (.i2l, 1, 0, 0, .null) := by decide +kernel
theorem fe_X12_behind_125 : mj_f mi_X12_behind 125 = some (.invokestatic 184, 3, 185, 1, .null) := by decide +kernel
theorem fe_X12_behind_128 : mj_f mi_X12_behind 128 = some (.invokevirtual 240, 3, 205, 1, .null) := by decide +kernel
theorem fe_X12_behind_131 : mj_f mi_X12_behind 131 = some (.aload_n 0, 1, 0, 0, .null) := by decide +kernel
theorem fe_X12_behind_132 : mj_f mi_X12_behind 132 = some (.iload 5, 2, 5, 0, .null) := by decide +kernel
theorem fe_X12_behind_134 : mj_f mi_X12_behind 134 = some (.iload 4, 2, 4, 0, .null) := by decide +kernel
theorem fe_X12_behind_136 : mj_f mi_X12_behind 136 = some (.isub, 1, 0, 0, .null) := by decide +kernel
theorem fe_X12_behind_137 : mj_f mi_X12_behind 137 = some (.i2l, 1, 0, 0, .null) := by decide +kernel
theorem fe_X12_behind_138 : mj_f mi_X12_behind 138 = some (.invokestatic 192, 3, 187, 1, .null) := by decide +kernel
theorem fe_X12_behind_141 : mj_f mi_X12_behind 141 = some (.invokevirtual 237, 3, 204, 1, .null) := by decide +kernel
theorem fe_X12_behind_144 : mj_f mi_X12_behind 144 = some (.iconst 0, 1, 0, 0, .int (0)) := by decide +kernel
theorem fe_X12_behind_145 : mj_f mi_X12_behind 145 = some (.istore 6, 2, 6, 0, .null) := by decide +kernel
theorem fe_X12_behind_147 : mj_f mi_X12_behind 147 = some (.iload 6, 2, 6, 0, .null) := by decide +kernel
theorem fe_X12_behind_149 : mj_f mi_X12_behind 149 = some (.iload_n 3, 1, 3, 0, .null) := by decide +kernel
theorem fe_X12_behind_150 : mj_f mi_X12_behind 150 = some (.if_icmp .ge 38, 3, 188, 0, .null) := by decide +kernel
theorem fe_X12_behind_153 : mj_f mi_X12_behind 153 = some (.aload_n 0, 1, 0, 0, .null) := by decide +kernel
theorem fe_X12_behind_154 : mj_f mi_X12_behind 154 = some (.aload_n 0, 1, 0, 0, .null) := by decide +kernel
theorem fe_X12_behind_155 : mj_f mi_X12_behind 155 = some (.getfield 64, 3, 12, 17, .null) := by decide +kernel
theorem fe_X12_behind_158 : mj_f mi_X12_behind 158 = some (.bipush 33, 2, 0, 0, .int (33)) := by decide +kernel
theorem fe_X12_behind_160 : mj_f mi_X12_behind 160 = some (.iload_n 1, 1, 1, 0, .null) := by decide +kernel
theorem fe_X12_behind_161 : mj_f mi_X12_behind 161 = some (.imul, 1, 0, 0, .null) := by decide +kernel
theorem fe_X12_behind_162 : mj_f mi_X12_behind 162 = some (.iload 6, 2, 6, 0, .null) := by decide +kernel
theorem fe_X12_behind_164 : mj_f mi_X12_behind 164 = some (.iadd, 1, 0, 0, .null) := by decide +kernel
theorem fe_X12_behind_165 : mj_f mi_X12_behind 165 = some (.iaload, 1, 0, 0, .null) := by decide +kernel
theorem fe_X12_behind_166 : mj_f mi_X12_behind 166 = some (.iload 4, 2, 4, 0, .null) := by decide +kernel
theorem fe_X12_behind_168 : mj_f mi_X12_behind 168 = some (.isub, 1, 0, 0, .null) := by decide +kernel
theorem fe_X12_behind_169 : mj_f mi_X12_behind 169 = some (.i2l, 1, 0, 0, .null) := by decide +kernel
theorem fe_X12_behind_170 : mj_f mi_X12_behind 170 = some (.iload 5, 2, 5, 0, .null) := by decide +kernel
theorem fe_X12_behind_172 : mj_f mi_X12_behind 172 = some (.iload 4, 2, 4, 0, .null) := by decide +kernel
theorem fe_X12_behind_174 : mj_f mi_X12_behind 174 = some (.isub, 1, 0, 0, .null) := by decide +kernel
theorem fe_X12_behind_175 : mj_f mi_X12_behind 175 = some (.i2l, 1, 0, 0, .null) := by decide +kernel
theorem fe_X12_behind_176 : mj_f mi_X12_behind 176 = some (.invokestatic 192, 3, 187, 1, .null) := by decide +kernel
theorem fe_X12_behind_179 : mj_f mi_X12_behind 179 = some (.invokevirtual 244, 3, 206, 2, .null) := by decide +kernel
theorem fe_X12_behind_182 : mj_f mi_X12_behind 182 = some (.iinc 6 1, 3, 6, 0, .int (1)) := by decide +kernel
theorem fe_X12_behind_185 : mj_f mi_X12_behind 185 = some (.goto (-38), 3, 147, 0, .null) := by decide +kernel
theorem fe_X12_behind_188 : mj_f mi_X12_behind 188 = some (.aload_n 0, 1, 0, 0, .null) := by decide +kernel
theorem fe_X12_behind_189 : mj_f mi_X12_behind 189 = some (.invokevirtual 248, 3, 207, 0, .null) := by decide +kernel
theorem fe_X12_behind_192 : mj_f mi_X12_behind 192 = some (.iload_n 2, 1, 2, 0, .null) := by decide +kernel
theorem fe_X12_behind_193 : mj_f mi_X12_behind 193 = some (.iconst 5, 1, 0, 0, .int (5)) := by decide +kernel
theorem fe_X12_behind_194 : mj_f mi_X12_behind 194 = some (.if_icmp .eq 4, 3, 198, 0, .null) := by decide +kernel
theorem fe_X12_behind_197 : mj_f mi_X12_behind 197 = some (.return_, 1, 0, 0, .null) := by decide +kernel
theorem fe_X12_behind_198 : mj_f mi_X12_behind 198 = some (.iconst 0, 1, 0, 0, .int (0)) := by decide +kernel
theorem fe_X12_behind_199 : mj_f mi_X12_behind 199 = some (.istore 4, 2, 4, 0, .null) := by decide +kernel
theorem fe_X12_behind_201 : mj_f mi_X12_behind 201 = some (.iload 4, 2, 4, 0, .null) := by decide +kernel
theorem fe_X12_behind_203 : mj_f mi_X12_behind 203 = some (.aload_n 0, 1, 0, 0, .null) := by decide +kernel
theorem fe_X12_behind_204 : mj_f mi_X12_behind 204 = some (.getfield 58, 3, 12, 15, .null) := by decide +kernel
theorem fe_X12_behind_207 : mj_f mi_X12_behind 207 = some (.iload_n 1, 1, 1, 0, .null) := by decide +kernel
theorem fe_X12_behind_208 : mj_f mi_X12_behind 208 = some (.iaload, 1, 0, 0, .null) := by decide +kernel
theorem fe_X12_behind_209 : mj_f mi_X12_behind 209 = some (.if_icmp .ge 57, 3, 266, 0, .null) := by decide +kernel
theorem fe_X12_behind_212 : mj_f mi_X12_behind 212 = some (.iconst 0, 1, 0, 0, .int (0)) := by decide +kernel
theorem fe_X12_behind_213 : mj_f mi_X12_behind 213 = some (.istore 5, 2, 5, 0, .null) := by decide +kernel
theorem fe_X12_behind_215 : mj_f mi_X12_behind 215 = some (.aload_n 0, 1, 0, 0, .null) := by decide +kernel
theorem fe_X12_behind_216 : mj_f mi_X12_behind 216 = some (.getfield 55, 3, 12, 14, .null) := by decide +kernel
theorem fe_X12_behind_219 : mj_f mi_X12_behind 219 = some (.bipush 33, 2, 0, 0, .int (33)) := by decide +kernel
theorem fe_X12_behind_221 : mj_f mi_X12_behind 221 = some (.iload_n 1, 1, 1, 0, .null) := by decide +kernel
theorem fe_X12_behind_222 : mj_f mi_X12_behind 222 = some (.iconst 1, 1, 0, 0, .int (1)) := by decide +kernel
theorem fe_X12_behind_223 : mj_f mi_X12_behind 223 = some (.iadd, 1, 0, 0, .null) := by decide +kernel
theorem fe_X12_behind_224 : mj_f mi_X12_behind 224 = some (.imul, 1, 0, 0, .null) := by decide +kernel
theorem fe_X12_behind_225 : mj_f mi_X12_behind 225 = some (.iload 5, 2, 5, 0, .null) := by decide +kernel
theorem fe_X12_behind_227 : mj_f mi_X12_behind 227 = some (.iadd, 1, 0, 0, .null) := by decide +kernel
theorem fe_X12_behind_228 : mj_f mi_X12_behind 228 = some (.laload, 1, 0, 0, .null) := by decide +kernel
theorem fe_X12_behind_229 : mj_f mi_X12_behind 229 = some (.aload_n 0, 1, 0, 0, .null) := by decide +kernel
theorem fe_X12_behind_230 : mj_f mi_X12_behind 230 = some (.iload_n 1, 1, 1, 0, .null) := by decide +kernel
theorem fe_X12_behind_231 : mj_f mi_X12_behind 231 = some (.iload 4, 2, 4, 0, .null) := by decide +kernel
theorem fe_X12_behind_233 : mj_f mi_X12_behind 233 = some (.invokevirtual 168, 3, 189, 2, .null) := by decide +kernel
theorem fe_X12_behind_236 : mj_f mi_X12_behind 236 = some (.lcmp, 1, 0, 0, .null) := by decide +kernel
theorem fe_X12_behind_237 : mj_f mi_X12_behind 237 = some (.ifCond .eq 9, 3, 246, 0, .null) := by decide +kernel
theorem fe_X12_behind_240 : mj_f mi_X12_behind 240 = some (.iinc 5 1, 3, 5, 0, .int (1)) := by decide +kernel
theorem fe_X12_behind_243 : mj_f mi_X12_behind 243 = some (.goto (-28), 3, 215, 0, .null) := by decide +kernel
theorem fe_X12_behind_246 : mj_f mi_X12_behind 246 = some (.aload_n 0, 1, 0, 0, .null) := by decide +kernel
theorem fe_X12_behind_247 : mj_f mi_X12_behind 247 = some (.iload 5, 2, 5, 0, .null) := by decide +kernel
theorem fe_X12_behind_249 : mj_f mi_X12_behind 249 = some (.i2l, 1, 0, 0, .null) := by decide +kernel
theorem fe_X12_behind_250 : mj_f mi_X12_behind 250 = some (.iload_n 3, 1, 3, 0, .null) := by decide +kernel
theorem fe_X12_behind_251 : mj_f mi_X12_behind 251 = some (.iconst 1, 1, 0, 0, .int (1)) := by decide +kernel
theorem fe_X12_behind_252 : mj_f mi_X12_behind 252 = some (.isub, 1, 0, 0, .null) := by decide +kernel
theorem fe_X12_behind_253 : mj_f mi_X12_behind 253 = some (.i2l, 1, 0, 0, .null) := by decide +kernel
theorem fe_X12_behind_254 : mj_f mi_X12_behind 254 = some (.invokestatic 192, 3, 187, 1, .null) := by decide +kernel
theorem fe_X12_behind_257 : mj_f mi_X12_behind 257 = some (.invokevirtual 244, 3, 206, 2, .null) := by decide +kernel
theorem fe_X12_behind_260 : mj_f mi_X12_behind 260 = some (.iinc 4 1, 3, 4, 0, .int (1)) := by decide +kernel
theorem fe_X12_behind_263 : mj_f mi_X12_behind 263 = some (.goto (-62), 3, 201, 0, .null) := by decide +kernel
theorem fe_X12_behind_266 : mj_f mi_X12_behind 266 = some (.aload_n 0, 1, 0, 0, .null) := by decide +kernel
theorem fe_X12_behind_267 : mj_f mi_X12_behind 267 = some (.invokevirtual 248, 3, 207, 0, .null) := by decide +kernel
theorem fe_X12_behind_270 : mj_f mi_X12_behind 270 = some (.return_, 1, 0, 0, .null) := by decide +kernel
