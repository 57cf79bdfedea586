/-! every method's own words -/
theorem mj_tb1 {w : Jvm.Cond} (h : w ∈ tables_1_1) : w ∈ lw_tbl := List.mem_append_right _ (List.mem_append_left _ h)
theorem mj_tb2 {w : Jvm.Cond} (h : w ∈ tables_1_2) : w ∈ lw_tbl := List.mem_append_right _ (List.mem_append_right _ (List.mem_append_left _ h))
theorem mj_tb3 {w : Jvm.Cond} (h : w ∈ tables_1_3) : w ∈ lw_tbl := List.mem_append_right _ (List.mem_append_right _ (List.mem_append_right _ (List.mem_append_left _ h)))
theorem mj_tb4 {w : Jvm.Cond} (h : w ∈ tables_1_4) : w ∈ lw_tbl := List.mem_append_right _ (List.mem_append_right _ (List.mem_append_right _ (List.mem_append_right _ (List.mem_append_left _ h))))
theorem mj_tb5 {w : Jvm.Cond} (h : w ∈ tables_1_5) : w ∈ lw_tbl := List.mem_append_right _ (List.mem_append_right _ (List.mem_append_right _ (List.mem_append_right _ (List.mem_append_right _ (List.mem_append_left _ h)))))
theorem mj_tb6 {w : Jvm.Cond} (h : w ∈ tables_1_6) : w ∈ lw_tbl := List.mem_append_right _ (List.mem_append_right _ (List.mem_append_right _ (List.mem_append_right _ (List.mem_append_right _ (List.mem_append_right _ (List.mem_append_left _ h))))))
theorem mj_tb7 {w : Jvm.Cond} (h : w ∈ tables_1_7) : w ∈ lw_tbl := List.mem_append_right _ (List.mem_append_right _ (List.mem_append_right _ (List.mem_append_right _ (List.mem_append_right _ (List.mem_append_right _ (List.mem_append_right _ (h)))))))
set_option maxRecDepth 20000 in
theorem mc_X0_init : Cond.code yX0_init cX0_init 1 none ∈ lw_tbl := mj_tb1 (List.mem_of_getElem? (i := 205) rfl)
set_option maxRecDepth 20000 in
theorem mc_X0_size : Cond.code yX0_size cX0_size 1 (some .int) ∈ lw_tbl := mj_tb3 (List.mem_of_getElem? (i := 83) rfl)
set_option maxRecDepth 20000 in
theorem mc_X0_isGap : Cond.code yX0_isGap cX0_isGap 2 (some .boolean) ∈ lw_tbl := mj_tb2 (List.mem_of_getElem? (i := 218) rfl)
set_option maxRecDepth 20000 in
theorem mc_X0_valueAt : Cond.code yX0_valueAt cX0_valueAt 2 (some .long) ∈ lw_tbl := mj_tb3 (List.mem_of_getElem? (i := 102) rfl)
set_option maxRecDepth 20000 in
theorem mc_X0_empty : Cond.code yX0_empty cX0_empty 1 none ∈ lw_tbl := mj_tb2 (List.mem_of_getElem? (i := 146) rfl)
set_option maxRecDepth 20000 in
theorem mc_X0_add : Cond.code yX0_add cX0_add 4 none ∈ lw_tbl := mj_tb2 (List.mem_of_getElem? (i := 210) rfl)
set_option maxRecDepth 20000 in
theorem mc_X0_change : Cond.code yX0_change cX0_change 4 none ∈ lw_tbl := mj_tb3 (List.mem_of_getElem? (i := 88) rfl)
set_option maxRecDepth 20000 in
theorem mc_X0_present : Cond.code yX0_present cX0_present 3 (some .int) ∈ lw_tbl := mj_tb2 (List.mem_of_getElem? (i := 214) rfl)
set_option maxRecDepth 20000 in
theorem mc_X0_become : Cond.code yX0_become cX0_become 3 none ∈ lw_tbl := mj_tb3 (List.mem_of_getElem? (i := 97) rfl)
set_option maxRecDepth 20000 in
theorem mc_X0_tellTo : Cond.code yX0_tellTo cX0_tellTo 9 none ∈ lw_tbl := mj_tb5 (List.mem_of_getElem? (i := 75) rfl)
set_option maxRecDepth 20000 in
theorem mc_X1_init : Cond.code yX1_init cX1_init 1 none ∈ lw_tbl := mj_tb1 (List.mem_of_getElem? (i := 32) rfl)
set_option maxRecDepth 20000 in
theorem mc_X1_size : Cond.code yX1_size cX1_size 1 (some .int) ∈ lw_tbl := mj_tb2 (List.mem_of_getElem? (i := 106) rfl)
set_option maxRecDepth 20000 in
theorem mc_X1_cutTo : Cond.code yX1_cutTo cX1_cutTo 2 (some .boolean) ∈ lw_tbl := mj_tb2 (List.mem_of_getElem? (i := 122) rfl)
set_option maxRecDepth 20000 in
theorem mc_X1_byteAt : Cond.code yX1_byteAt cX1_byteAt 2 (some .int) ∈ lw_tbl := mj_tb2 (List.mem_of_getElem? (i := 189) rfl)
set_option maxRecDepth 20000 in
theorem mc_X1_put : Cond.code yX1_put cX1_put 2 none ∈ lw_tbl := mj_tb2 (List.mem_of_getElem? (i := 114) rfl)
set_option maxRecDepth 20000 in
theorem mc_X1_putInt : Cond.code yX1_putInt cX1_putInt 3 none ∈ lw_tbl := mj_tb2 (List.mem_of_getElem? (i := 110) rfl)
set_option maxRecDepth 20000 in
theorem mc_X1_putLong : Cond.code yX1_putLong cX1_putLong 4 none ∈ lw_tbl := mj_tb4 (List.mem_of_getElem? (i := 121) rfl)
set_option maxRecDepth 20000 in
theorem mc_X1_putVarint : Cond.code yX1_putVarint cX1_putVarint 5 none ∈ lw_tbl := mj_tb4 (List.mem_of_getElem? (i := 82) rfl)
set_option maxRecDepth 20000 in
theorem mc_X1_reserve : Cond.code yX1_reserve cX1_reserve 4 (some .int) ∈ lw_tbl := mj_tb4 (List.mem_of_getElem? (i := 60) rfl)
set_option maxRecDepth 20000 in
theorem mc_X1_putBits : Cond.code yX1_putBits cX1_putBits 11 none ∈ lw_tbl := mj_tb4 (List.mem_of_getElem? (i := 65) rfl)
set_option maxRecDepth 20000 in
theorem mc_X1_bitsAt : Cond.code yX1_bitsAt cX1_bitsAt 12 (some .long) ∈ lw_tbl := mj_tb2 (List.mem_of_getElem? (i := 205) rfl)
set_option maxRecDepth 20000 in
theorem mc_X1_checkOf : Cond.code yX1_checkOf cX1_checkOf 4 (some .int) ∈ lw_tbl := mj_tb3 (List.mem_of_getElem? (i := 75) rfl)
set_option maxRecDepth 20000 in
theorem mc_X1_become : Cond.code yX1_become cX1_become 2 none ∈ lw_tbl := mj_tb5 (List.mem_of_getElem? (i := 128) rfl)
set_option maxRecDepth 20000 in
theorem mc_X2_init : Cond.code yX2_init cX2_init 5 none ∈ lw_tbl := mj_tb1 (List.mem_of_getElem? (i := 239) rfl)
set_option maxRecDepth 20000 in
theorem mc_X2_size : Cond.code yX2_size cX2_size 1 (some .int) ∈ lw_tbl := mj_tb4 (List.mem_of_getElem? (i := 161) rfl)
set_option maxRecDepth 20000 in
theorem mc_X2_holds : Cond.code yX2_holds cX2_holds 2 (some .boolean) ∈ lw_tbl := mj_tb4 (List.mem_of_getElem? (i := 170) rfl)
set_option maxRecDepth 20000 in
theorem mc_X2_pieceTotal : Cond.code yX2_pieceTotal cX2_pieceTotal 1 (some .int) ∈ lw_tbl := mj_tb2 (List.mem_of_getElem? (i := 158) rfl)
set_option maxRecDepth 20000 in
theorem mc_X2_holdsPiece : Cond.code yX2_holdsPiece cX2_holdsPiece 2 (some .boolean) ∈ lw_tbl := mj_tb5 (List.mem_of_getElem? (i := 3) rfl)
set_option maxRecDepth 20000 in
theorem mc_X2_isOpen : Cond.code yX2_isOpen cX2_isOpen 2 (some .boolean) ∈ lw_tbl := mj_tb2 (List.mem_of_getElem? (i := 154) rfl)
set_option maxRecDepth 20000 in
theorem mc_X2_rowsOf : Cond.code yX2_rowsOf cX2_rowsOf 2 (some .int) ∈ lw_tbl := mj_tb5 (List.mem_of_getElem? (i := 7) rfl)
set_option maxRecDepth 20000 in
theorem mc_X2_pieceAt : Cond.code yX2_pieceAt cX2_pieceAt 2 (some (.object "PackedColumns$Piece")) ∈ lw_tbl := mj_tb2 (List.mem_of_getElem? (i := 162) rfl)
set_option maxRecDepth 20000 in
theorem mc_X2_choose : Cond.code yX2_choose cX2_choose 3 none ∈ lw_tbl := mj_tb2 (List.mem_of_getElem? (i := 134) rfl)
set_option maxRecDepth 20000 in
theorem mc_X2_empty : Cond.code yX2_empty cX2_empty 2 (some .int) ∈ lw_tbl := mj_tb4 (List.mem_of_getElem? (i := 210) rfl)
set_option maxRecDepth 20000 in
theorem mc_X2_blockOf : Cond.code yX2_blockOf cX2_blockOf 3 (some (.object "PackedColumns$Block")) ∈ lw_tbl := mj_tb2 (List.mem_of_getElem? (i := 150) rfl)
set_option maxRecDepth 20000 in
theorem mc_X2_append : Cond.code yX2_append cX2_append 5 (some .int) ∈ lw_tbl := mj_tb2 (List.mem_of_getElem? (i := 142) rfl)
set_option maxRecDepth 20000 in
theorem mc_X2_change : Cond.code yX2_change cX2_change 8 (some .int) ∈ lw_tbl := mj_tb4 (List.mem_of_getElem? (i := 174) rfl)
set_option maxRecDepth 20000 in
theorem mc_X2_packAll : Cond.code yX2_packAll cX2_packAll 2 none ∈ lw_tbl := mj_tb4 (List.mem_of_getElem? (i := 193) rfl)
set_option maxRecDepth 20000 in
theorem mc_X2_keep : Cond.code yX2_keep cX2_keep 6 none ∈ lw_tbl := mj_tb5 (List.mem_of_getElem? (i := 155) rfl)
set_option maxRecDepth 20000 in
theorem mc_X2_gapTotal : Cond.code yX2_gapTotal cX2_gapTotal 3 (some .int) ∈ lw_tbl := mj_tb4 (List.mem_of_getElem? (i := 219) rfl)
set_option maxRecDepth 20000 in
theorem mc_X2_byteTotal : Cond.code yX2_byteTotal cX2_byteTotal 3 (some .int) ∈ lw_tbl := mj_tb4 (List.mem_of_getElem? (i := 197) rfl)
set_option maxRecDepth 20000 in
theorem mc_X2_survey : Cond.code yX2_survey cX2_survey 3 none ∈ lw_tbl := mj_tb5 (List.mem_of_getElem? (i := 45) rfl)
set_option maxRecDepth 20000 in
theorem mc_X2_ask : Cond.code yX2_ask cX2_ask 9 none ∈ lw_tbl := mj_tb5 (List.mem_of_getElem? (i := 67) rfl)
set_option maxRecDepth 20000 in
theorem mc_X3_init : Cond.code yX3_init cX3_init 1 none ∈ lw_tbl := mj_tb1 (List.mem_of_getElem? (i := 150) rfl)
set_option maxRecDepth 20000 in
theorem mc_X3_size : Cond.code yX3_size cX3_size 1 (some .int) ∈ lw_tbl := mj_tb5 (List.mem_of_getElem? (i := 50) rfl)
set_option maxRecDepth 20000 in
theorem mc_X3_bytesAt : Cond.code yX3_bytesAt cX3_bytesAt 2 (some .int) ∈ lw_tbl := mj_tb5 (List.mem_of_getElem? (i := 58) rfl)
set_option maxRecDepth 20000 in
theorem mc_X3_workAt : Cond.code yX3_workAt cX3_workAt 2 (some .int) ∈ lw_tbl := mj_tb4 (List.mem_of_getElem? (i := 135) rfl)
set_option maxRecDepth 20000 in
theorem mc_X3_pathAt : Cond.code yX3_pathAt cX3_pathAt 2 (some .int) ∈ lw_tbl := mj_tb4 (List.mem_of_getElem? (i := 38) rfl)
set_option maxRecDepth 20000 in
theorem mc_X3_empty : Cond.code yX3_empty cX3_empty 1 none ∈ lw_tbl := mj_tb3 (List.mem_of_getElem? (i := 117) rfl)
set_option maxRecDepth 20000 in
theorem mc_X3_offer : Cond.code yX3_offer cX3_offer 7 none ∈ lw_tbl := mj_tb3 (List.mem_of_getElem? (i := 159) rfl)
set_option maxRecDepth 20000 in
theorem mc_X3_put : Cond.code yX3_put cX3_put 5 none ∈ lw_tbl := mj_tb3 (List.mem_of_getElem? (i := 163) rfl)
set_option maxRecDepth 20000 in
theorem mc_X3_firstWithin : Cond.code yX3_firstWithin cX3_firstWithin 3 (some .int) ∈ lw_tbl := mj_tb4 (List.mem_of_getElem? (i := 34) rfl)
set_option maxRecDepth 20000 in
theorem mc_X4_init : Cond.code yX4_init cX4_init 2 none ∈ lw_tbl := mj_tb1 (List.mem_of_getElem? (i := 119) rfl)
set_option maxRecDepth 20000 in
theorem mc_X4_packInto : Cond.code yX4_packInto cX4_packInto 6 none ∈ lw_tbl := mj_tb3 (List.mem_of_getElem? (i := 109) rfl)
set_option maxRecDepth 20000 in
theorem mc_X4_survey : Cond.code yX4_survey cX4_survey 4 none ∈ lw_tbl := mj_tb3 (List.mem_of_getElem? (i := 113) rfl)
set_option maxRecDepth 20000 in
theorem mc_X4_bytesAround : Cond.code yX4_bytesAround cX4_bytesAround 2 (some .int) ∈ lw_tbl := mj_tb3 (List.mem_of_getElem? (i := 128) rfl)
set_option maxRecDepth 20000 in
theorem mc_X4_explore : Cond.code yX4_explore cX4_explore 12 none ∈ lw_tbl := mj_tb3 (List.mem_of_getElem? (i := 135) rfl)
set_option maxRecDepth 20000 in
theorem mc_X4_isWorthTurning : Cond.code yX4_isWorthTurning cX4_isWorthTurning 3 (some .boolean) ∈ lw_tbl := mj_tb3 (List.mem_of_getElem? (i := 230) rfl)
set_option maxRecDepth 20000 in
theorem mc_X4_costOf : Cond.code yX4_costOf cX4_costOf 4 (some .int) ∈ lw_tbl := mj_tb4 (List.mem_of_getElem? (i := 28) rfl)
set_option maxRecDepth 20000 in
theorem mc_X5_init : Cond.code yX5_init cX5_init 1 none ∈ lw_tbl := mj_tb1 (List.mem_of_getElem? (i := 128) rfl)
set_option maxRecDepth 20000 in
theorem mc_X5_base : Cond.code yX5_base cX5_base 1 (some .long) ∈ lw_tbl := mj_tb4 (List.mem_of_getElem? (i := 104) rfl)
set_option maxRecDepth 20000 in
theorem mc_X5_width : Cond.code yX5_width cX5_width 1 (some .int) ∈ lw_tbl := mj_tb4 (List.mem_of_getElem? (i := 108) rfl)
set_option maxRecDepth 20000 in
theorem mc_X5_outside : Cond.code yX5_outside cX5_outside 1 (some .int) ∈ lw_tbl := mj_tb3 (List.mem_of_getElem? (i := 226) rfl)
set_option maxRecDepth 20000 in
theorem mc_X5_size : Cond.code yX5_size cX5_size 1 (some .int) ∈ lw_tbl := mj_tb3 (List.mem_of_getElem? (i := 222) rfl)
set_option maxRecDepth 20000 in
theorem mc_X5_fit : Cond.code yX5_fit cX5_fit 5 none ∈ lw_tbl := mj_tb3 (List.mem_of_getElem? (i := 194) rfl)
set_option maxRecDepth 20000 in
theorem mc_X5_tryBase : Cond.code yX5_tryBase cX5_tryBase 12 none ∈ lw_tbl := mj_tb3 (List.mem_of_getElem? (i := 206) rfl)
set_option maxRecDepth 20000 in
theorem mc_X5_keepIfBetter : Cond.code yX5_keepIfBetter cX5_keepIfBetter 6 none ∈ lw_tbl := mj_tb3 (List.mem_of_getElem? (i := 214) rfl)
set_option maxRecDepth 20000 in
theorem mc_X5_covers : Cond.code yX5_covers cX5_covers 3 (some .boolean) ∈ lw_tbl := mj_tb4 (List.mem_of_getElem? (i := 113) rfl)
set_option maxRecDepth 20000 in
theorem mc_X6_init : Cond.code yX6_init cX6_init 1 none ∈ lw_tbl := mj_tb2 (List.mem_of_getElem? (i := 8) rfl)
set_option maxRecDepth 20000 in
theorem mc_X6_bytes : Cond.code yX6_bytes cX6_bytes 1 (some (.object "PackedColumns$Bytes")) ∈ lw_tbl := mj_tb2 (List.mem_of_getElem? (i := 172) rfl)
set_option maxRecDepth 20000 in
theorem mc_X6_size : Cond.code yX6_size cX6_size 1 (some .int) ∈ lw_tbl := mj_tb4 (List.mem_of_getElem? (i := 201) rfl)
set_option maxRecDepth 20000 in
theorem mc_X6_byteAt : Cond.code yX6_byteAt cX6_byteAt 2 (some .int) ∈ lw_tbl := mj_tb5 (List.mem_of_getElem? (i := 27) rfl)
set_option maxRecDepth 20000 in
theorem mc_X6_changeTotal : Cond.code yX6_changeTotal cX6_changeTotal 1 (some .int) ∈ lw_tbl := mj_tb4 (List.mem_of_getElem? (i := 185) rfl)
set_option maxRecDepth 20000 in
theorem mc_X6_pathWritten : Cond.code yX6_pathWritten cX6_pathWritten 1 (some .int) ∈ lw_tbl := mj_tb5 (List.mem_of_getElem? (i := 36) rfl)
set_option maxRecDepth 20000 in
theorem mc_X6_workToRead : Cond.code yX6_workToRead cX6_workToRead 1 (some .int) ∈ lw_tbl := mj_tb5 (List.mem_of_getElem? (i := 14) rfl)
set_option maxRecDepth 20000 in
theorem mc_X6_gapTotal : Cond.code yX6_gapTotal cX6_gapTotal 1 (some .int) ∈ lw_tbl := mj_tb4 (List.mem_of_getElem? (i := 224) rfl)
set_option maxRecDepth 20000 in
theorem mc_X6_present : Cond.code yX6_present cX6_present 1 (some .int) ∈ lw_tbl := mj_tb5 (List.mem_of_getElem? (i := 87) rfl)
set_option maxRecDepth 20000 in
theorem mc_X6_copyTo : Cond.code yX6_copyTo cX6_copyTo 2 none ∈ lw_tbl := mj_tb5 (List.mem_of_getElem? (i := 124) rfl)
set_option maxRecDepth 20000 in
theorem mc_X6_describe : Cond.code yX6_describe cX6_describe 4 none ∈ lw_tbl := mj_tb4 (List.mem_of_getElem? (i := 139) rfl)
set_option maxRecDepth 20000 in
theorem mc_X6_measure : Cond.code yX6_measure cX6_measure 5 none ∈ lw_tbl := mj_tb4 (List.mem_of_getElem? (i := 143) rfl)
set_option maxRecDepth 20000 in
theorem mc_X6_note : Cond.code yX6_note cX6_note 5 (some .boolean) ∈ lw_tbl := mj_tb4 (List.mem_of_getElem? (i := 179) rfl)
set_option maxRecDepth 20000 in
theorem mc_X6_changeIn : Cond.code yX6_changeIn cX6_changeIn 3 none ∈ lw_tbl := mj_tb3 (List.mem_of_getElem? (i := 92) rfl)
set_option maxRecDepth 20000 in
theorem mc_X6_isApart : Cond.code yX6_isApart cX6_isApart 5 (some .boolean) ∈ lw_tbl := mj_tb5 (List.mem_of_getElem? (i := 92) rfl)
set_option maxRecDepth 20000 in
theorem mc_X6_isWithin : Cond.code yX6_isWithin cX6_isWithin 5 (some .boolean) ∈ lw_tbl := mj_tb5 (List.mem_of_getElem? (i := 83) rfl)
set_option maxRecDepth 20000 in
theorem mc_X7_init : Cond.code yX7_init cX7_init 1 none ∈ lw_tbl := mj_tb1 (List.mem_of_getElem? (i := 46) rfl)
set_option maxRecDepth 20000 in
theorem mc_X7_kindOfFault : Cond.code yX7_kindOfFault cX7_kindOfFault 1 (some .int) ∈ lw_tbl := mj_tb5 (List.mem_of_getElem? (i := 138) rfl)
set_option maxRecDepth 20000 in
theorem mc_X7_placeOfFault : Cond.code yX7_placeOfFault cX7_placeOfFault 1 (some .int) ∈ lw_tbl := mj_tb5 (List.mem_of_getElem? (i := 142) rfl)
set_option maxRecDepth 20000 in
theorem mc_X7_pathRead : Cond.code yX7_pathRead cX7_pathRead 1 (some .int) ∈ lw_tbl := mj_tb5 (List.mem_of_getElem? (i := 147) rfl)
set_option maxRecDepth 20000 in
theorem mc_X7_workRead : Cond.code yX7_workRead cX7_workRead 1 (some .int) ∈ lw_tbl := mj_tb5 (List.mem_of_getElem? (i := 151) rfl)
set_option maxRecDepth 20000 in
theorem mc_X7_read : Cond.code yX7_read cX7_read 4 (some .boolean) ∈ lw_tbl := mj_tb2 (List.mem_of_getElem? (i := 176) rfl)
set_option maxRecDepth 20000 in
theorem mc_X7_fail : Cond.code yX7_fail cX7_fail 3 none ∈ lw_tbl := mj_tb2 (List.mem_of_getElem? (i := 194) rfl)
set_option maxRecDepth 20000 in
theorem mc_X7_byteWithin : Cond.code yX7_byteWithin cX7_byteWithin 6 (some .int) ∈ lw_tbl := mj_tb2 (List.mem_of_getElem? (i := 185) rfl)
set_option maxRecDepth 20000 in
theorem mc_X7_readVarint : Cond.code yX7_readVarint cX7_readVarint 6 (some .long) ∈ lw_tbl := mj_tb2 (List.mem_of_getElem? (i := 230) rfl)
set_option maxRecDepth 20000 in
theorem mc_X7_passLaying : Cond.code yX7_passLaying cX7_passLaying 6 (some .int) ∈ lw_tbl := mj_tb2 (List.mem_of_getElem? (i := 198) rfl)
set_option maxRecDepth 20000 in
theorem mc_X7_readFrame : Cond.code yX7_readFrame cX7_readFrame 7 none ∈ lw_tbl := mj_tb2 (List.mem_of_getElem? (i := 180) rfl)
set_option maxRecDepth 20000 in
theorem mc_X7_readHeads : Cond.code yX7_readHeads cX7_readHeads 6 none ∈ lw_tbl := mj_tb2 (List.mem_of_getElem? (i := 222) rfl)
set_option maxRecDepth 20000 in
theorem mc_X7_readHead : Cond.code yX7_readHead cX7_readHead 6 (some .int) ∈ lw_tbl := mj_tb2 (List.mem_of_getElem? (i := 226) rfl)
set_option maxRecDepth 20000 in
theorem mc_X7_readInnermost : Cond.code yX7_readInnermost cX7_readInnermost 3 none ∈ lw_tbl := mj_tb2 (List.mem_of_getElem? (i := 235) rfl)
set_option maxRecDepth 20000 in
theorem mc_X7_readPlain : Cond.code yX7_readPlain cX7_readPlain 8 none ∈ lw_tbl := mj_tb3 (List.mem_of_getElem? (i := 22) rfl)
set_option maxRecDepth 20000 in
theorem mc_X7_readNarrow : Cond.code yX7_readNarrow cX7_readNarrow 9 none ∈ lw_tbl := mj_tb3 (List.mem_of_getElem? (i := 3) rfl)
set_option maxRecDepth 20000 in
theorem mc_X7_readPatched : Cond.code yX7_readPatched cX7_readPatched 10 none ∈ lw_tbl := mj_tb3 (List.mem_of_getElem? (i := 14) rfl)
set_option maxRecDepth 20000 in
theorem mc_X7_undo : Cond.code yX7_undo cX7_undo 5 none ∈ lw_tbl := mj_tb3 (List.mem_of_getElem? (i := 26) rfl)
set_option maxRecDepth 20000 in
theorem mc_X7_addSteps : Cond.code yX7_addSteps cX7_addSteps 2 none ∈ lw_tbl := mj_tb3 (List.mem_of_getElem? (i := 30) rfl)
set_option maxRecDepth 20000 in
theorem mc_X7_multiply : Cond.code yX7_multiply cX7_multiply 4 none ∈ lw_tbl := mj_tb3 (List.mem_of_getElem? (i := 67) rfl)
set_option maxRecDepth 20000 in
theorem mc_X7_spreadRuns : Cond.code yX7_spreadRuns cX7_spreadRuns 8 none ∈ lw_tbl := mj_tb3 (List.mem_of_getElem? (i := 42) rfl)
set_option maxRecDepth 20000 in
theorem mc_X7_lookUp : Cond.code yX7_lookUp cX7_lookUp 9 none ∈ lw_tbl := mj_tb3 (List.mem_of_getElem? (i := 53) rfl)
set_option maxRecDepth 20000 in
theorem mc_X7_readCheck : Cond.code yX7_readCheck cX7_readCheck 3 none ∈ lw_tbl := mj_tb3 (List.mem_of_getElem? (i := 71) rfl)
set_option maxRecDepth 20000 in
theorem mc_X7_fill : Cond.code yX7_fill cX7_fill 4 none ∈ lw_tbl := mj_tb3 (List.mem_of_getElem? (i := 79) rfl)
set_option maxRecDepth 20000 in
theorem mc_X8_init : Cond.code yX8_init cX8_init 1 none ∈ lw_tbl := mj_tb1 (List.mem_of_getElem? (i := 52) rfl)
set_option maxRecDepth 20000 in
theorem mc_X8_size : Cond.code yX8_size cX8_size 1 (some .int) ∈ lw_tbl := mj_tb3 (List.mem_of_getElem? (i := 34) rfl)
set_option maxRecDepth 20000 in
theorem mc_X8_valueAt : Cond.code yX8_valueAt cX8_valueAt 2 (some .long) ∈ lw_tbl := mj_tb3 (List.mem_of_getElem? (i := 38) rfl)
set_option maxRecDepth 20000 in
theorem mc_X8_unlike : Cond.code yX8_unlike cX8_unlike 1 (some .int) ∈ lw_tbl := mj_tb3 (List.mem_of_getElem? (i := 199) rfl)
set_option maxRecDepth 20000 in
theorem mc_X8_unlikeAt : Cond.code yX8_unlikeAt cX8_unlikeAt 2 (some .long) ∈ lw_tbl := mj_tb3 (List.mem_of_getElem? (i := 148) rfl)
set_option maxRecDepth 20000 in
theorem mc_X8_timesOf : Cond.code yX8_timesOf cX8_timesOf 2 (some .int) ∈ lw_tbl := mj_tb3 (List.mem_of_getElem? (i := 218) rfl)
set_option maxRecDepth 20000 in
theorem mc_X8_empty : Cond.code yX8_empty cX8_empty 1 none ∈ lw_tbl := mj_tb2 (List.mem_of_getElem? (i := 239) rfl)
set_option maxRecDepth 20000 in
theorem mc_X8_add : Cond.code yX8_add cX8_add 3 none ∈ lw_tbl := mj_tb3 (List.mem_of_getElem? (i := 10) rfl)
set_option maxRecDepth 20000 in
theorem mc_X8_put : Cond.code yX8_put cX8_put 4 none ∈ lw_tbl := mj_tb3 (List.mem_of_getElem? (i := 18) rfl)
set_option maxRecDepth 20000 in
theorem mc_X8_gather : Cond.code yX8_gather cX8_gather 3 none ∈ lw_tbl := mj_tb3 (List.mem_of_getElem? (i := 121) rfl)
set_option maxRecDepth 20000 in
theorem mc_X8_arrange : Cond.code yX8_arrange cX8_arrange 5 none ∈ lw_tbl := mj_tb3 (List.mem_of_getElem? (i := 140) rfl)
set_option maxRecDepth 20000 in
theorem mc_X8_rankOf : Cond.code yX8_rankOf cX8_rankOf 7 (some .int) ∈ lw_tbl := mj_tb3 (List.mem_of_getElem? (i := 144) rfl)
set_option maxRecDepth 20000 in
theorem mc_X8_insert : Cond.code yX8_insert cX8_insert 4 none ∈ lw_tbl := mj_tb3 (List.mem_of_getElem? (i := 152) rfl)
set_option maxRecDepth 20000 in
theorem mc_X8_least : Cond.code yX8_least cX8_least 4 (some .long) ∈ lw_tbl := mj_tb3 (List.mem_of_getElem? (i := 172) rfl)
set_option maxRecDepth 20000 in
theorem mc_X8_width : Cond.code yX8_width cX8_width 6 (some .int) ∈ lw_tbl := mj_tb3 (List.mem_of_getElem? (i := 185) rfl)
set_option maxRecDepth 20000 in
theorem mc_X8_narrowLength : Cond.code yX8_narrowLength cX8_narrowLength 3 (some .int) ∈ lw_tbl := mj_tb3 (List.mem_of_getElem? (i := 168) rfl)
set_option maxRecDepth 20000 in
theorem mc_X8_isRising : Cond.code yX8_isRising cX8_isRising 2 (some .boolean) ∈ lw_tbl := mj_tb4 (List.mem_of_getElem? (i := 3) rfl)
set_option maxRecDepth 20000 in
theorem mc_X8_divisor : Cond.code yX8_divisor cX8_divisor 6 (some .long) ∈ lw_tbl := mj_tb4 (List.mem_of_getElem? (i := 7) rfl)
set_option maxRecDepth 20000 in
theorem mc_X8_commonOf : Cond.code yX8_commonOf cX8_commonOf 11 (some .long) ∈ lw_tbl := mj_tb4 (List.mem_of_getElem? (i := 14) rfl)
set_option maxRecDepth 20000 in
theorem mc_X8_becomeTurned : Cond.code yX8_becomeTurned cX8_becomeTurned 4 none ∈ lw_tbl := mj_tb4 (List.mem_of_getElem? (i := 18) rfl)
set_option maxRecDepth 20000 in
theorem mc_X8_becomeShares : Cond.code yX8_becomeShares cX8_becomeShares 5 none ∈ lw_tbl := mj_tb4 (List.mem_of_getElem? (i := 23) rfl)
set_option maxRecDepth 20000 in
theorem mc_X8_beginsRun : Cond.code yX8_beginsRun cX8_beginsRun 2 (some .boolean) ∈ lw_tbl := mj_tb3 (List.mem_of_getElem? (i := 238) rfl)
set_option maxRecDepth 20000 in
theorem mc_X8_become : Cond.code yX8_become cX8_become 3 none ∈ lw_tbl := mj_tb3 (List.mem_of_getElem? (i := 46) rfl)
set_option maxRecDepth 20000 in
theorem mc_X8_becomeLengths : Cond.code yX8_becomeLengths cX8_becomeLengths 3 none ∈ lw_tbl := mj_tb3 (List.mem_of_getElem? (i := 234) rfl)
set_option maxRecDepth 20000 in
theorem mc_X9_init : Cond.code yX9_init cX9_init 1 none ∈ lw_tbl := mj_tb1 (List.mem_of_getElem? (i := 224) rfl)
set_option maxRecDepth 20000 in
theorem mc_X9_found : Cond.code yX9_found cX9_found 1 (some .int) ∈ lw_tbl := mj_tb5 (List.mem_of_getElem? (i := 100) rfl)
set_option maxRecDepth 20000 in
theorem mc_X9_total : Cond.code yX9_total cX9_total 1 (some .long) ∈ lw_tbl := mj_tb5 (List.mem_of_getElem? (i := 108) rfl)
set_option maxRecDepth 20000 in
theorem mc_X9_unpacked : Cond.code yX9_unpacked cX9_unpacked 1 (some .int) ∈ lw_tbl := mj_tb5 (List.mem_of_getElem? (i := 116) rfl)
set_option maxRecDepth 20000 in
theorem mc_X9_empty : Cond.code yX9_empty cX9_empty 1 none ∈ lw_tbl := mj_tb5 (List.mem_of_getElem? (i := 71) rfl)
set_option maxRecDepth 20000 in
theorem mc_X9_add : Cond.code yX9_add cX9_add 4 none ∈ lw_tbl := mj_tb5 (List.mem_of_getElem? (i := 79) rfl)
set_option maxRecDepth 20000 in
theorem mc_X9_noteUnpacked : Cond.code yX9_noteUnpacked cX9_noteUnpacked 1 none ∈ lw_tbl := mj_tb5 (List.mem_of_getElem? (i := 96) rfl)
set_option maxRecDepth 20000 in
theorem mc_X10_init : Cond.code yX10_init cX10_init 2 none ∈ lw_tbl := mj_tb1 (List.mem_of_getElem? (i := 169) rfl)
set_option maxRecDepth 20000 in
theorem mc_X10_write : Cond.code yX10_write cX10_write 6 none ∈ lw_tbl := mj_tb4 (List.mem_of_getElem? (i := 43) rfl)
set_option maxRecDepth 20000 in
theorem mc_X10_putFrame : Cond.code yX10_putFrame cX10_putFrame 6 none ∈ lw_tbl := mj_tb4 (List.mem_of_getElem? (i := 51) rfl)
set_option maxRecDepth 20000 in
theorem mc_X10_putHead : Cond.code yX10_putHead cX10_putHead 5 none ∈ lw_tbl := mj_tb4 (List.mem_of_getElem? (i := 76) rfl)
set_option maxRecDepth 20000 in
theorem mc_X10_putInnermost : Cond.code yX10_putInnermost cX10_putInnermost 4 none ∈ lw_tbl := mj_tb4 (List.mem_of_getElem? (i := 87) rfl)
set_option maxRecDepth 20000 in
theorem mc_X10_putPlain : Cond.code yX10_putPlain cX10_putPlain 4 none ∈ lw_tbl := mj_tb4 (List.mem_of_getElem? (i := 117) rfl)
set_option maxRecDepth 20000 in
theorem mc_X10_putNarrow : Cond.code yX10_putNarrow cX10_putNarrow 8 none ∈ lw_tbl := mj_tb4 (List.mem_of_getElem? (i := 91) rfl)
set_option maxRecDepth 20000 in
theorem mc_X10_putPatched : Cond.code yX10_putPatched cX10_putPatched 5 none ∈ lw_tbl := mj_tb4 (List.mem_of_getElem? (i := 100) rfl)
set_option maxRecDepth 20000 in
theorem mc_X10_putRanks : Cond.code yX10_putRanks cX10_putRanks 6 none ∈ lw_tbl := mj_tb4 (List.mem_of_getElem? (i := 126) rfl)
set_option maxRecDepth 20000 in
theorem mc_X11_init : Cond.code yX11_init cX11_init 3 none ∈ lw_tbl := mj_tb1 (List.mem_of_getElem? (i := 22) rfl)
set_option maxRecDepth 20000 in
theorem mc_X11_feed : Cond.code yX11_feed cX11_feed 6 (some .int) ∈ lw_tbl := mj_tb2 (List.mem_of_getElem? (i := 102) rfl)
set_option maxRecDepth 20000 in
theorem mc_X11_end : Cond.code yX11_end cX11_end 2 (some .boolean) ∈ lw_tbl := mj_tb2 (List.mem_of_getElem? (i := 118) rfl)
set_option maxRecDepth 20000 in
theorem mc_X11_way : Cond.code yX11_way cX11_way 5 (some .boolean) ∈ lw_tbl := mj_tb2 (List.mem_of_getElem? (i := 126) rfl)
set_option maxRecDepth 20000 in
theorem mc_X11_value : Cond.code yX11_value cX11_value 5 (some .int) ∈ lw_tbl := mj_tb2 (List.mem_of_getElem? (i := 138) rfl)
set_option maxRecDepth 20000 in
theorem mc_X11_missing : Cond.code yX11_missing cX11_missing 3 (some .int) ∈ lw_tbl := mj_tb4 (List.mem_of_getElem? (i := 152) rfl)
set_option maxRecDepth 20000 in
theorem mc_X11_sow : Cond.code yX11_sow cX11_sow 14 (some .int) ∈ lw_tbl := mj_tb4 (List.mem_of_getElem? (i := 156) rfl)
set_option maxRecDepth 20000 in
theorem mc_X11_set : Cond.code yX11_set cX11_set 6 (some .int) ∈ lw_tbl := mj_tb4 (List.mem_of_getElem? (i := 166) rfl)
set_option maxRecDepth 20000 in
theorem mc_X11_pack : Cond.code yX11_pack cX11_pack 3 (some .int) ∈ lw_tbl := mj_tb4 (List.mem_of_getElem? (i := 189) rfl)
set_option maxRecDepth 20000 in
theorem mc_X11_clear : Cond.code yX11_clear cX11_clear 3 (some .int) ∈ lw_tbl := mj_tb4 (List.mem_of_getElem? (i := 206) rfl)
set_option maxRecDepth 20000 in
theorem mc_X11_count : Cond.code yX11_count cX11_count 4 (some .int) ∈ lw_tbl := mj_tb4 (List.mem_of_getElem? (i := 214) rfl)
set_option maxRecDepth 20000 in
theorem mc_X11_has : Cond.code yX11_has cX11_has 4 (some .int) ∈ lw_tbl := mj_tb4 (List.mem_of_getElem? (i := 228) rfl)
set_option maxRecDepth 20000 in
theorem mc_X11_get : Cond.code yX11_get cX11_get 4 (some .long) ∈ lw_tbl := mj_tb4 (List.mem_of_getElem? (i := 234) rfl)
set_option maxRecDepth 20000 in
theorem mc_X11_piece : Cond.code yX11_piece cX11_piece 5 (some .int) ∈ lw_tbl := mj_tb4 (List.mem_of_getElem? (i := 239) rfl)
set_option maxRecDepth 20000 in
theorem mc_X11_at : Cond.code yX11_at cX11_at 5 (some .int) ∈ lw_tbl := mj_tb5 (List.mem_of_getElem? (i := 19) rfl)
set_option maxRecDepth 20000 in
theorem mc_X11_code : Cond.code yX11_code cX11_code 5 (some .int) ∈ lw_tbl := mj_tb5 (List.mem_of_getElem? (i := 32) rfl)
set_option maxRecDepth 20000 in
theorem mc_X11_front : Cond.code yX11_front cX11_front 4 (some .int) ∈ lw_tbl := mj_tb5 (List.mem_of_getElem? (i := 41) rfl)
set_option maxRecDepth 20000 in
theorem mc_X11_pair : Cond.code yX11_pair cX11_pair 3 (some .int) ∈ lw_tbl := mj_tb5 (List.mem_of_getElem? (i := 54) rfl)
set_option maxRecDepth 20000 in
theorem mc_X11_among : Cond.code yX11_among cX11_among 7 (some .int) ∈ lw_tbl := mj_tb5 (List.mem_of_getElem? (i := 63) rfl)
set_option maxRecDepth 20000 in
theorem mc_X11_sum : Cond.code yX11_sum cX11_sum 7 (some .long) ∈ lw_tbl := mj_tb5 (List.mem_of_getElem? (i := 104) rfl)
set_option maxRecDepth 20000 in
theorem mc_X11_looked : Cond.code yX11_looked cX11_looked 1 (some .int) ∈ lw_tbl := mj_tb5 (List.mem_of_getElem? (i := 112) rfl)
set_option maxRecDepth 20000 in
theorem mc_X11_take : Cond.code yX11_take cX11_take 4 (some .int) ∈ lw_tbl := mj_tb5 (List.mem_of_getElem? (i := 120) rfl)
set_option maxRecDepth 20000 in
theorem mc_X11_load : Cond.code yX11_load cX11_load 6 (some .int) ∈ lw_tbl := mj_tb5 (List.mem_of_getElem? (i := 133) rfl)
set_option maxRecDepth 20000 in
theorem mc_X11_fault : Cond.code yX11_fault cX11_fault 2 (some .int) ∈ lw_tbl := mj_tb5 (List.mem_of_getElem? (i := 161) rfl)
set_option maxRecDepth 20000 in
theorem mc_X11_columnOf : Cond.code yX11_columnOf cX11_columnOf 2 (some (.object "PackedColumns$Column")) ∈ lw_tbl := mj_tb2 (List.mem_of_getElem? (i := 130) rfl)
set_option maxRecDepth 20000 in
theorem mc_X11_packedPiece : Cond.code yX11_packedPiece cX11_packedPiece 4 (some (.object "PackedColumns$Piece")) ∈ lw_tbl := mj_tb5 (List.mem_of_getElem? (i := 23) rfl)
set_option maxRecDepth 20000 in
theorem mc_X11_bitsOf : Cond.code yX11_bitsOf cX11_bitsOf 2 (some .int) ∈ lw_tbl := mj_tb3 (List.mem_of_getElem? (i := 56) rfl)
set_option maxRecDepth 20000 in
theorem mc_X11_unsignedOf : Cond.code yX11_unsignedOf cX11_unsignedOf 2 (some .long) ∈ lw_tbl := mj_tb3 (List.mem_of_getElem? (i := 178) rfl)
set_option maxRecDepth 20000 in
theorem mc_X11_signedOf : Cond.code yX11_signedOf cX11_signedOf 2 (some .long) ∈ lw_tbl := mj_tb3 (List.mem_of_getElem? (i := 6) rfl)
set_option maxRecDepth 20000 in
theorem mc_X11_varintLength : Cond.code yX11_varintLength cX11_varintLength 2 (some .int) ∈ lw_tbl := mj_tb3 (List.mem_of_getElem? (i := 181) rfl)
set_option maxRecDepth 20000 in
theorem mc_X11_layingLength : Cond.code yX11_layingLength cX11_layingLength 2 (some .int) ∈ lw_tbl := mj_tb2 (List.mem_of_getElem? (i := 201) rfl)
set_option maxRecDepth 20000 in
theorem mc_X11_pathLength : Cond.code yX11_pathLength cX11_pathLength 1 (some .int) ∈ lw_tbl := mj_tb4 (List.mem_of_getElem? (i := 46) rfl)
set_option maxRecDepth 20000 in
theorem mc_X11_turnAt : Cond.code yX11_turnAt cX11_turnAt 5 (some .int) ∈ lw_tbl := mj_tb4 (List.mem_of_getElem? (i := 70) rfl)
set_option maxRecDepth 20000 in
theorem mc_X12_init : Cond.code yX12_init cX12_init 2 none ∈ lw_tbl := mj_tb5 (List.mem_of_getElem? (i := 166) rfl)
set_option maxRecDepth 20000 in
theorem mc_X12_is : Cond.code yX12_is cX12_is 3 (some .boolean) ∈ lw_tbl := mj_tb6 (List.mem_of_getElem? (i := 100) rfl)
set_option maxRecDepth 20000 in
theorem mc_X12_put : Cond.code yX12_put cX12_put 3 none ∈ lw_tbl := mj_tb6 (List.mem_of_getElem? (i := 86) rfl)
set_option maxRecDepth 20000 in
theorem mc_X12_feed : Cond.code yX12_feed cX12_feed 6 (some .int) ∈ lw_tbl := mj_tb6 (List.mem_of_getElem? (i := 82) rfl)
set_option maxRecDepth 20000 in
theorem mc_X12_end : Cond.code yX12_end cX12_end 2 (some .boolean) ∈ lw_tbl := mj_tb6 (List.mem_of_getElem? (i := 90) rfl)
set_option maxRecDepth 20000 in
theorem mc_X12_turned : Cond.code yX12_turned cX12_turned 2 (some .long) ∈ lw_tbl := mj_tb6 (List.mem_of_getElem? (i := 155) rfl)
set_option maxRecDepth 20000 in
theorem mc_X12_varint : Cond.code yX12_varint cX12_varint 5 (some .int) ∈ lw_tbl := mj_tb6 (List.mem_of_getElem? (i := 158) rfl)
set_option maxRecDepth 20000 in
theorem mc_X12_bits : Cond.code yX12_bits cX12_bits 5 (some .int) ∈ lw_tbl := mj_tb6 (List.mem_of_getElem? (i := 165) rfl)
set_option maxRecDepth 20000 in
theorem mc_X12_laying : Cond.code yX12_laying cX12_laying 2 (some .int) ∈ lw_tbl := mj_tb6 (List.mem_of_getElem? (i := 168) rfl)
set_option maxRecDepth 20000 in
theorem mc_X12_at : Cond.code yX12_at cX12_at 3 (some .long) ∈ lw_tbl := mj_tb6 (List.mem_of_getElem? (i := 152) rfl)
set_option maxRecDepth 20000 in
theorem mc_X12_turns : Cond.code yX12_turns cX12_turns 7 (some .boolean) ∈ lw_tbl := mj_tb6 (List.mem_of_getElem? (i := 184) rfl)
set_option maxRecDepth 20000 in
theorem mc_X12_sorted : Cond.code yX12_sorted cX12_sorted 7 (some .int) ∈ lw_tbl := mj_tb6 (List.mem_of_getElem? (i := 188) rfl)
set_option maxRecDepth 20000 in
theorem mc_X12_divides : Cond.code yX12_divides cX12_divides 11 (some .boolean) ∈ lw_tbl := mj_tb6 (List.mem_of_getElem? (i := 192) rfl)
set_option maxRecDepth 20000 in
theorem mc_X12_beside : Cond.code yX12_beside cX12_beside 8 (some .int) ∈ lw_tbl := mj_tb6 (List.mem_of_getElem? (i := 198) rfl)
set_option maxRecDepth 20000 in
theorem mc_X12_work : Cond.code yX12_work cX12_work 3 (some .int) ∈ lw_tbl := mj_tb6 (List.mem_of_getElem? (i := 202) rfl)
set_option maxRecDepth 20000 in
theorem mc_X12_isIn : Cond.code yX12_isIn cX12_isIn 6 (some .boolean) ∈ lw_tbl := mj_tb6 (List.mem_of_getElem? (i := 176) rfl)
set_option maxRecDepth 20000 in
theorem mc_X12_patches : Cond.code yX12_patches cX12_patches 11 (some .int) ∈ lw_tbl := mj_tb6 (List.mem_of_getElem? (i := 172) rfl)
set_option maxRecDepth 20000 in
theorem mc_X12_least : Cond.code yX12_least cX12_least 5 (some .long) ∈ lw_tbl := mj_tb6 (List.mem_of_getElem? (i := 148) rfl)
set_option maxRecDepth 20000 in
theorem mc_X12_wideOf : Cond.code yX12_wideOf cX12_wideOf 7 (some .int) ∈ lw_tbl := mj_tb6 (List.mem_of_getElem? (i := 162) rfl)
set_option maxRecDepth 20000 in
theorem mc_X12_leaf : Cond.code yX12_leaf cX12_leaf 4 (some .int) ∈ lw_tbl := mj_tb6 (List.mem_of_getElem? (i := 144) rfl)
set_option maxRecDepth 20000 in
theorem mc_X12_way : Cond.code yX12_way cX12_way 7 none ∈ lw_tbl := mj_tb6 (List.mem_of_getElem? (i := 180) rfl)
set_option maxRecDepth 20000 in
theorem mc_X12_leaves : Cond.code yX12_leaves cX12_leaves 9 none ∈ lw_tbl := mj_tb6 (List.mem_of_getElem? (i := 140) rfl)
set_option maxRecDepth 20000 in
theorem mc_X12_all : Cond.code yX12_all cX12_all 6 none ∈ lw_tbl := mj_tb6 (List.mem_of_getElem? (i := 136) rfl)
set_option maxRecDepth 20000 in
theorem mc_X12_best : Cond.code yX12_best cX12_best 4 (some .int) ∈ lw_tbl := mj_tb6 (List.mem_of_getElem? (i := 206) rfl)
set_option maxRecDepth 20000 in
theorem mc_X12_write : Cond.code yX12_write cX12_write 2 none ∈ lw_tbl := mj_tb6 (List.mem_of_getElem? (i := 124) rfl)
set_option maxRecDepth 20000 in
theorem mc_X12_writeVarint : Cond.code yX12_writeVarint cX12_writeVarint 5 none ∈ lw_tbl := mj_tb6 (List.mem_of_getElem? (i := 214) rfl)
set_option maxRecDepth 20000 in
theorem mc_X12_lay : Cond.code yX12_lay cX12_lay 6 none ∈ lw_tbl := mj_tb6 (List.mem_of_getElem? (i := 128) rfl)
set_option maxRecDepth 20000 in
theorem mc_X12_ends : Cond.code yX12_ends cX12_ends 1 none ∈ lw_tbl := mj_tb6 (List.mem_of_getElem? (i := 132) rfl)
set_option maxRecDepth 20000 in
theorem mc_X12_before : Cond.code yX12_before cX12_before 3 none ∈ lw_tbl := mj_tb6 (List.mem_of_getElem? (i := 210) rfl)
set_option maxRecDepth 20000 in
theorem mc_X12_behind : Cond.code yX12_behind cX12_behind 7 none ∈ lw_tbl := mj_tb6 (List.mem_of_getElem? (i := 223) rfl)
set_option maxRecDepth 20000 in
theorem mc_X12_writeLeaf : Cond.code yX12_writeLeaf cX12_writeLeaf 6 none ∈ lw_tbl := mj_tb6 (List.mem_of_getElem? (i := 219) rfl)
set_option maxRecDepth 20000 in
theorem mc_X12_rowsOf : Cond.code yX12_rowsOf cX12_rowsOf 4 (some .int) ∈ lw_tbl := mj_tb6 (List.mem_of_getElem? (i := 120) rfl)
set_option maxRecDepth 20000 in
theorem mc_X12_gathers : Cond.code yX12_gathers cX12_gathers 5 none ∈ lw_tbl := mj_tb6 (List.mem_of_getElem? (i := 116) rfl)
set_option maxRecDepth 20000 in
theorem mc_X12_head : Cond.code yX12_head cX12_head 3 (some .int) ∈ lw_tbl := mj_tb7 (List.mem_of_getElem? (i := 105) rfl)
set_option maxRecDepth 20000 in
theorem mc_X12_packs : Cond.code yX12_packs cX12_packs 9 none ∈ lw_tbl := mj_tb6 (List.mem_of_getElem? (i := 112) rfl)
set_option maxRecDepth 20000 in
theorem mc_X12_keeps : Cond.code yX12_keeps cX12_keeps 5 none ∈ lw_tbl := mj_tb6 (List.mem_of_getElem? (i := 227) rfl)
set_option maxRecDepth 20000 in
theorem mc_X12_isColumn : Cond.code yX12_isColumn cX12_isColumn 1 (some .boolean) ∈ lw_tbl := mj_tb6 (List.mem_of_getElem? (i := 97) rfl)
set_option maxRecDepth 20000 in
theorem mc_X12_pieces : Cond.code yX12_pieces cX12_pieces 2 (some .int) ∈ lw_tbl := mj_tb7 (List.mem_of_getElem? (i := 17) rfl)
set_option maxRecDepth 20000 in
theorem mc_X12_way_ : Cond.code yX12_way_ cX12_way_ 4 (some .boolean) ∈ lw_tbl := mj_tb6 (List.mem_of_getElem? (i := 94) rfl)
set_option maxRecDepth 20000 in
theorem mc_X12_more : Cond.code yX12_more cX12_more 8 (some .int) ∈ lw_tbl := mj_tb6 (List.mem_of_getElem? (i := 108) rfl)
set_option maxRecDepth 20000 in
theorem mc_X12_value : Cond.code yX12_value cX12_value 4 (some .int) ∈ lw_tbl := mj_tb6 (List.mem_of_getElem? (i := 104) rfl)
set_option maxRecDepth 20000 in
theorem mc_X12_missing : Cond.code yX12_missing cX12_missing 2 (some .int) ∈ lw_tbl := mj_tb6 (List.mem_of_getElem? (i := 231) rfl)
set_option maxRecDepth 20000 in
theorem mc_X12_sow : Cond.code yX12_sow cX12_sow 13 (some .int) ∈ lw_tbl := mj_tb6 (List.mem_of_getElem? (i := 235) rfl)
set_option maxRecDepth 20000 in
theorem mc_X12_isRow : Cond.code yX12_isRow cX12_isRow 3 (some .boolean) ∈ lw_tbl := mj_tb7 (List.mem_of_getElem? (i := 5) rfl)
set_option maxRecDepth 20000 in
theorem mc_X12_changes : Cond.code yX12_changes cX12_changes 5 (some .int) ∈ lw_tbl := mj_tb7 (List.mem_of_getElem? (i := 9) rfl)
set_option maxRecDepth 20000 in
theorem mc_X12_set : Cond.code yX12_set cX12_set 6 (some .int) ∈ lw_tbl := mj_tb7 (List.mem_of_getElem? (i := 1) rfl)
set_option maxRecDepth 20000 in
theorem mc_X12_pack : Cond.code yX12_pack cX12_pack 4 (some .int) ∈ lw_tbl := mj_tb7 (List.mem_of_getElem? (i := 13) rfl)
set_option maxRecDepth 20000 in
theorem mc_X12_clear : Cond.code yX12_clear cX12_clear 4 (some .int) ∈ lw_tbl := mj_tb7 (List.mem_of_getElem? (i := 21) rfl)
set_option maxRecDepth 20000 in
theorem mc_X12_count : Cond.code yX12_count cX12_count 5 (some .int) ∈ lw_tbl := mj_tb7 (List.mem_of_getElem? (i := 25) rfl)
set_option maxRecDepth 20000 in
theorem mc_X12_has : Cond.code yX12_has cX12_has 3 (some .int) ∈ lw_tbl := mj_tb7 (List.mem_of_getElem? (i := 29) rfl)
set_option maxRecDepth 20000 in
theorem mc_X12_get : Cond.code yX12_get cX12_get 3 (some .long) ∈ lw_tbl := mj_tb7 (List.mem_of_getElem? (i := 33) rfl)
set_option maxRecDepth 20000 in
theorem mc_X12_isPiece : Cond.code yX12_isPiece cX12_isPiece 3 (some .boolean) ∈ lw_tbl := mj_tb7 (List.mem_of_getElem? (i := 41) rfl)
set_option maxRecDepth 20000 in
theorem mc_X12_isPacked : Cond.code yX12_isPacked cX12_isPacked 3 (some .boolean) ∈ lw_tbl := mj_tb7 (List.mem_of_getElem? (i := 93) rfl)
set_option maxRecDepth 20000 in
theorem mc_X12_unpacks : Cond.code yX12_unpacks cX12_unpacks 5 none ∈ lw_tbl := mj_tb7 (List.mem_of_getElem? (i := 45) rfl)
set_option maxRecDepth 20000 in
theorem mc_X12_piece : Cond.code yX12_piece cX12_piece 5 (some .int) ∈ lw_tbl := mj_tb7 (List.mem_of_getElem? (i := 37) rfl)
set_option maxRecDepth 20000 in
theorem mc_X12_at_ : Cond.code yX12_at_ cX12_at_ 4 (some .int) ∈ lw_tbl := mj_tb7 (List.mem_of_getElem? (i := 89) rfl)
set_option maxRecDepth 20000 in
theorem mc_X12_code : Cond.code yX12_code cX12_code 4 (some .int) ∈ lw_tbl := mj_tb7 (List.mem_of_getElem? (i := 97) rfl)
set_option maxRecDepth 20000 in
theorem mc_X12_front : Cond.code yX12_front cX12_front 7 (some .int) ∈ lw_tbl := mj_tb7 (List.mem_of_getElem? (i := 101) rfl)
set_option maxRecDepth 20000 in
theorem mc_X12_pair : Cond.code yX12_pair cX12_pair 3 (some .int) ∈ lw_tbl := mj_tb7 (List.mem_of_getElem? (i := 109) rfl)
set_option maxRecDepth 20000 in
theorem mc_X12_isLooked : Cond.code yX12_isLooked cX12_isLooked 13 (some .boolean) ∈ lw_tbl := mj_tb7 (List.mem_of_getElem? (i := 121) rfl)
set_option maxRecDepth 20000 in
theorem mc_X12_looks : Cond.code yX12_looks cX12_looks 8 none ∈ lw_tbl := mj_tb7 (List.mem_of_getElem? (i := 117) rfl)
set_option maxRecDepth 20000 in
theorem mc_X12_among : Cond.code yX12_among cX12_among 8 (some .int) ∈ lw_tbl := mj_tb7 (List.mem_of_getElem? (i := 113) rfl)
set_option maxRecDepth 20000 in
theorem mc_X12_sum : Cond.code yX12_sum cX12_sum 9 (some .long) ∈ lw_tbl := mj_tb7 (List.mem_of_getElem? (i := 125) rfl)
set_option maxRecDepth 20000 in
theorem mc_X12_looked : Cond.code yX12_looked cX12_looked 1 (some .int) ∈ lw_tbl := mj_tb7 (List.mem_of_getElem? (i := 129) rfl)
set_option maxRecDepth 20000 in
theorem mc_X12_take : Cond.code yX12_take cX12_take 5 (some .int) ∈ lw_tbl := mj_tb7 (List.mem_of_getElem? (i := 133) rfl)
set_option maxRecDepth 20000 in
theorem mc_X12_fails : Cond.code yX12_fails cX12_fails 3 none ∈ lw_tbl := mj_tb7 (List.mem_of_getElem? (i := 57) rfl)
set_option maxRecDepth 20000 in
theorem mc_X12_readByte : Cond.code yX12_readByte cX12_readByte 1 (some .int) ∈ lw_tbl := mj_tb7 (List.mem_of_getElem? (i := 53) rfl)
set_option maxRecDepth 20000 in
theorem mc_X12_readVarint : Cond.code yX12_readVarint cX12_readVarint 6 (some .long) ∈ lw_tbl := mj_tb7 (List.mem_of_getElem? (i := 69) rfl)
set_option maxRecDepth 20000 in
theorem mc_X12_readTurned : Cond.code yX12_readTurned cX12_readTurned 3 (some .long) ∈ lw_tbl := mj_tb7 (List.mem_of_getElem? (i := 77) rfl)
set_option maxRecDepth 20000 in
theorem mc_X12_readLaying : Cond.code yX12_readLaying cX12_readLaying 7 none ∈ lw_tbl := mj_tb7 (List.mem_of_getElem? (i := 61) rfl)
set_option maxRecDepth 20000 in
theorem mc_X12_readWide : Cond.code yX12_readWide cX12_readWide 3 (some .int) ∈ lw_tbl := mj_tb7 (List.mem_of_getElem? (i := 81) rfl)
set_option maxRecDepth 20000 in
theorem mc_X12_readLeaf : Cond.code yX12_readLeaf cX12_readLeaf 11 none ∈ lw_tbl := mj_tb7 (List.mem_of_getElem? (i := 73) rfl)
set_option maxRecDepth 20000 in
theorem mc_X12_readBehind : Cond.code yX12_readBehind cX12_readBehind 15 none ∈ lw_tbl := mj_tb7 (List.mem_of_getElem? (i := 85) rfl)
set_option maxRecDepth 20000 in
theorem mc_X12_readBefore : Cond.code yX12_readBefore cX12_readBefore 6 none ∈ lw_tbl := mj_tb7 (List.mem_of_getElem? (i := 65) rfl)
set_option maxRecDepth 20000 in
theorem mc_X12_reads : Cond.code yX12_reads cX12_reads 6 none ∈ lw_tbl := mj_tb7 (List.mem_of_getElem? (i := 49) rfl)
set_option maxRecDepth 20000 in
theorem mc_X12_load : Cond.code yX12_load cX12_load 8 (some .int) ∈ lw_tbl := mj_tb7 (List.mem_of_getElem? (i := 137) rfl)
set_option maxRecDepth 20000 in
theorem mc_X12_fault : Cond.code yX12_fault cX12_fault 2 (some .int) ∈ lw_tbl := mj_tb7 (List.mem_of_getElem? (i := 141) rfl)
set_option maxRecDepth 20000 in
theorem mc_J6_numberOfLeadingZeros_0f7a4 : Cond.code yJ6_numberOfLeadingZeros_0f7a4 cJ6_numberOfLeadingZeros_0f7a4 2 (some .int) ∈ lw_tbl := mj_tb3 (List.mem_of_getElem? (i := 62) rfl)
set_option maxRecDepth 20000 in
theorem mc_J13_numberOfLeadingZeros_95d88 : Cond.code yJ13_numberOfLeadingZeros_95d88 cJ13_numberOfLeadingZeros_95d88 3 (some .int) ∈ lw_tbl := mj_tb3 (List.mem_of_getElem? (i := 59) rfl)
set_option maxRecDepth 20000 in
theorem mc_J9_abs_067f4 : Cond.code yJ9_abs_067f4 cJ9_abs_067f4 2 (some .long) ∈ lw_tbl := mj_tb4 (List.mem_of_getElem? (i := 11) rfl)
set_option maxRecDepth 20000 in
theorem mc_J9_max_7cf53 : Cond.code yJ9_max_7cf53 cJ9_max_7cf53 2 (some .int) ∈ lw_tbl := mj_tb2 (List.mem_of_getElem? (i := 168) rfl)
set_option maxRecDepth 20000 in
theorem mc_J9_max_f86c9 : Cond.code yJ9_max_f86c9 cJ9_max_f86c9 4 (some .long) ∈ lw_tbl := mj_tb3 (List.mem_of_getElem? (i := 188) rfl)
set_option maxRecDepth 20000 in
theorem mc_J9_min_7cf53 : Cond.code yJ9_min_7cf53 cJ9_min_7cf53 2 (some .int) ∈ lw_tbl := mj_tb2 (List.mem_of_getElem? (i := 165) rfl)
set_option maxRecDepth 20000 in
theorem mc_J9_min_f86c9 : Cond.code yJ9_min_f86c9 cJ9_min_f86c9 4 (some .long) ∈ lw_tbl := mj_tb3 (List.mem_of_getElem? (i := 175) rfl)
theorem mj_cod_0 : ∀ c ∈ ([mi_X0_init, mi_X0_size, mi_X0_isGap, mi_X0_valueAt, mi_X0_empty, mi_X0_add, mi_X0_change, mi_X0_present, mi_X0_become, mi_X0_tellTo, mi_X1_init, mi_X1_size, mi_X1_cutTo, mi_X1_byteAt, mi_X1_put, mi_X1_putInt, mi_X1_putLong, mi_X1_putVarint, mi_X1_reserve, mi_X1_putBits] : List MI), Cond.code c.1 c.2.1 c.2.2.1 c.2.2.2.1 ∈ lw_tbl := (List.forall_mem_cons.mpr ⟨mc_X0_init, (List.forall_mem_cons.mpr ⟨mc_X0_size, (List.forall_mem_cons.mpr ⟨mc_X0_isGap, (List.forall_mem_cons.mpr ⟨mc_X0_valueAt, (List.forall_mem_cons.mpr ⟨mc_X0_empty, (List.forall_mem_cons.mpr ⟨mc_X0_add, (List.forall_mem_cons.mpr ⟨mc_X0_change, (List.forall_mem_cons.mpr ⟨mc_X0_present, (List.forall_mem_cons.mpr ⟨mc_X0_become, (List.forall_mem_cons.mpr ⟨mc_X0_tellTo, (List.forall_mem_cons.mpr ⟨mc_X1_init, (List.forall_mem_cons.mpr ⟨mc_X1_size, (List.forall_mem_cons.mpr ⟨mc_X1_cutTo, (List.forall_mem_cons.mpr ⟨mc_X1_byteAt, (List.forall_mem_cons.mpr ⟨mc_X1_put, (List.forall_mem_cons.mpr ⟨mc_X1_putInt, (List.forall_mem_cons.mpr ⟨mc_X1_putLong, (List.forall_mem_cons.mpr ⟨mc_X1_putVarint, (List.forall_mem_cons.mpr ⟨mc_X1_reserve, (List.forall_mem_cons.mpr ⟨mc_X1_putBits, (fun _ h => absurd h List.not_mem_nil)⟩)⟩)⟩)⟩)⟩)⟩)⟩)⟩)⟩)⟩)⟩)⟩)⟩)⟩)⟩)⟩)⟩)⟩)⟩)⟩)
theorem mj_cod_1 : ∀ c ∈ ([mi_X1_bitsAt, mi_X1_checkOf, mi_X1_become, mi_X2_init, mi_X2_size, mi_X2_holds, mi_X2_pieceTotal, mi_X2_holdsPiece, mi_X2_isOpen, mi_X2_rowsOf, mi_X2_pieceAt, mi_X2_choose, mi_X2_empty, mi_X2_blockOf, mi_X2_append, mi_X2_change, mi_X2_packAll, mi_X2_keep, mi_X2_gapTotal, mi_X2_byteTotal] : List MI), Cond.code c.1 c.2.1 c.2.2.1 c.2.2.2.1 ∈ lw_tbl := (List.forall_mem_cons.mpr ⟨mc_X1_bitsAt, (List.forall_mem_cons.mpr ⟨mc_X1_checkOf, (List.forall_mem_cons.mpr ⟨mc_X1_become, (List.forall_mem_cons.mpr ⟨mc_X2_init, (List.forall_mem_cons.mpr ⟨mc_X2_size, (List.forall_mem_cons.mpr ⟨mc_X2_holds, (List.forall_mem_cons.mpr ⟨mc_X2_pieceTotal, (List.forall_mem_cons.mpr ⟨mc_X2_holdsPiece, (List.forall_mem_cons.mpr ⟨mc_X2_isOpen, (List.forall_mem_cons.mpr ⟨mc_X2_rowsOf, (List.forall_mem_cons.mpr ⟨mc_X2_pieceAt, (List.forall_mem_cons.mpr ⟨mc_X2_choose, (List.forall_mem_cons.mpr ⟨mc_X2_empty, (List.forall_mem_cons.mpr ⟨mc_X2_blockOf, (List.forall_mem_cons.mpr ⟨mc_X2_append, (List.forall_mem_cons.mpr ⟨mc_X2_change, (List.forall_mem_cons.mpr ⟨mc_X2_packAll, (List.forall_mem_cons.mpr ⟨mc_X2_keep, (List.forall_mem_cons.mpr ⟨mc_X2_gapTotal, (List.forall_mem_cons.mpr ⟨mc_X2_byteTotal, (fun _ h => absurd h List.not_mem_nil)⟩)⟩)⟩)⟩)⟩)⟩)⟩)⟩)⟩)⟩)⟩)⟩)⟩)⟩)⟩)⟩)⟩)⟩)⟩)⟩)
theorem mj_cod_2 : ∀ c ∈ ([mi_X2_survey, mi_X2_ask, mi_X3_init, mi_X3_size, mi_X3_bytesAt, mi_X3_workAt, mi_X3_pathAt, mi_X3_empty, mi_X3_offer, mi_X3_put, mi_X3_firstWithin, mi_X4_init, mi_X4_packInto, mi_X4_survey, mi_X4_bytesAround, mi_X4_explore, mi_X4_isWorthTurning, mi_X4_costOf, mi_X5_init, mi_X5_base] : List MI), Cond.code c.1 c.2.1 c.2.2.1 c.2.2.2.1 ∈ lw_tbl := (List.forall_mem_cons.mpr ⟨mc_X2_survey, (List.forall_mem_cons.mpr ⟨mc_X2_ask, (List.forall_mem_cons.mpr ⟨mc_X3_init, (List.forall_mem_cons.mpr ⟨mc_X3_size, (List.forall_mem_cons.mpr ⟨mc_X3_bytesAt, (List.forall_mem_cons.mpr ⟨mc_X3_workAt, (List.forall_mem_cons.mpr ⟨mc_X3_pathAt, (List.forall_mem_cons.mpr ⟨mc_X3_empty, (List.forall_mem_cons.mpr ⟨mc_X3_offer, (List.forall_mem_cons.mpr ⟨mc_X3_put, (List.forall_mem_cons.mpr ⟨mc_X3_firstWithin, (List.forall_mem_cons.mpr ⟨mc_X4_init, (List.forall_mem_cons.mpr ⟨mc_X4_packInto, (List.forall_mem_cons.mpr ⟨mc_X4_survey, (List.forall_mem_cons.mpr ⟨mc_X4_bytesAround, (List.forall_mem_cons.mpr ⟨mc_X4_explore, (List.forall_mem_cons.mpr ⟨mc_X4_isWorthTurning, (List.forall_mem_cons.mpr ⟨mc_X4_costOf, (List.forall_mem_cons.mpr ⟨mc_X5_init, (List.forall_mem_cons.mpr ⟨mc_X5_base, (fun _ h => absurd h List.not_mem_nil)⟩)⟩)⟩)⟩)⟩)⟩)⟩)⟩)⟩)⟩)⟩)⟩)⟩)⟩)⟩)⟩)⟩)⟩)⟩)⟩)
theorem mj_cod_3 : ∀ c ∈ ([mi_X5_width, mi_X5_outside, mi_X5_size, mi_X5_fit, mi_X5_tryBase, mi_X5_keepIfBetter, mi_X5_covers, mi_X6_init, mi_X6_bytes, mi_X6_size, mi_X6_byteAt, mi_X6_changeTotal, mi_X6_pathWritten, mi_X6_workToRead, mi_X6_gapTotal, mi_X6_present, mi_X6_copyTo, mi_X6_describe, mi_X6_measure, mi_X6_note] : List MI), Cond.code c.1 c.2.1 c.2.2.1 c.2.2.2.1 ∈ lw_tbl := (List.forall_mem_cons.mpr ⟨mc_X5_width, (List.forall_mem_cons.mpr ⟨mc_X5_outside, (List.forall_mem_cons.mpr ⟨mc_X5_size, (List.forall_mem_cons.mpr ⟨mc_X5_fit, (List.forall_mem_cons.mpr ⟨mc_X5_tryBase, (List.forall_mem_cons.mpr ⟨mc_X5_keepIfBetter, (List.forall_mem_cons.mpr ⟨mc_X5_covers, (List.forall_mem_cons.mpr ⟨mc_X6_init, (List.forall_mem_cons.mpr ⟨mc_X6_bytes, (List.forall_mem_cons.mpr ⟨mc_X6_size, (List.forall_mem_cons.mpr ⟨mc_X6_byteAt, (List.forall_mem_cons.mpr ⟨mc_X6_changeTotal, (List.forall_mem_cons.mpr ⟨mc_X6_pathWritten, (List.forall_mem_cons.mpr ⟨mc_X6_workToRead, (List.forall_mem_cons.mpr ⟨mc_X6_gapTotal, (List.forall_mem_cons.mpr ⟨mc_X6_present, (List.forall_mem_cons.mpr ⟨mc_X6_copyTo, (List.forall_mem_cons.mpr ⟨mc_X6_describe, (List.forall_mem_cons.mpr ⟨mc_X6_measure, (List.forall_mem_cons.mpr ⟨mc_X6_note, (fun _ h => absurd h List.not_mem_nil)⟩)⟩)⟩)⟩)⟩)⟩)⟩)⟩)⟩)⟩)⟩)⟩)⟩)⟩)⟩)⟩)⟩)⟩)⟩)⟩)
theorem mj_cod_4 : ∀ c ∈ ([mi_X6_changeIn, mi_X6_isApart, mi_X6_isWithin, mi_X7_init, mi_X7_kindOfFault, mi_X7_placeOfFault, mi_X7_pathRead, mi_X7_workRead, mi_X7_read, mi_X7_fail, mi_X7_byteWithin, mi_X7_readVarint, mi_X7_passLaying, mi_X7_readFrame, mi_X7_readHeads, mi_X7_readHead, mi_X7_readInnermost, mi_X7_readPlain, mi_X7_readNarrow, mi_X7_readPatched] : List MI), Cond.code c.1 c.2.1 c.2.2.1 c.2.2.2.1 ∈ lw_tbl := (List.forall_mem_cons.mpr ⟨mc_X6_changeIn, (List.forall_mem_cons.mpr ⟨mc_X6_isApart, (List.forall_mem_cons.mpr ⟨mc_X6_isWithin, (List.forall_mem_cons.mpr ⟨mc_X7_init, (List.forall_mem_cons.mpr ⟨mc_X7_kindOfFault, (List.forall_mem_cons.mpr ⟨mc_X7_placeOfFault, (List.forall_mem_cons.mpr ⟨mc_X7_pathRead, (List.forall_mem_cons.mpr ⟨mc_X7_workRead, (List.forall_mem_cons.mpr ⟨mc_X7_read, (List.forall_mem_cons.mpr ⟨mc_X7_fail, (List.forall_mem_cons.mpr ⟨mc_X7_byteWithin, (List.forall_mem_cons.mpr ⟨mc_X7_readVarint, (List.forall_mem_cons.mpr ⟨mc_X7_passLaying, (List.forall_mem_cons.mpr ⟨mc_X7_readFrame, (List.forall_mem_cons.mpr ⟨mc_X7_readHeads, (List.forall_mem_cons.mpr ⟨mc_X7_readHead, (List.forall_mem_cons.mpr ⟨mc_X7_readInnermost, (List.forall_mem_cons.mpr ⟨mc_X7_readPlain, (List.forall_mem_cons.mpr ⟨mc_X7_readNarrow, (List.forall_mem_cons.mpr ⟨mc_X7_readPatched, (fun _ h => absurd h List.not_mem_nil)⟩)⟩)⟩)⟩)⟩)⟩)⟩)⟩)⟩)⟩)⟩)⟩)⟩)⟩)⟩)⟩)⟩)⟩)⟩)⟩)
theorem mj_cod_5 : ∀ c ∈ ([mi_X7_undo, mi_X7_addSteps, mi_X7_multiply, mi_X7_spreadRuns, mi_X7_lookUp, mi_X7_readCheck, mi_X7_fill, mi_X8_init, mi_X8_size, mi_X8_valueAt, mi_X8_unlike, mi_X8_unlikeAt, mi_X8_timesOf, mi_X8_empty, mi_X8_add, mi_X8_put, mi_X8_gather, mi_X8_arrange, mi_X8_rankOf, mi_X8_insert] : List MI), Cond.code c.1 c.2.1 c.2.2.1 c.2.2.2.1 ∈ lw_tbl := (List.forall_mem_cons.mpr ⟨mc_X7_undo, (List.forall_mem_cons.mpr ⟨mc_X7_addSteps, (List.forall_mem_cons.mpr ⟨mc_X7_multiply, (List.forall_mem_cons.mpr ⟨mc_X7_spreadRuns, (List.forall_mem_cons.mpr ⟨mc_X7_lookUp, (List.forall_mem_cons.mpr ⟨mc_X7_readCheck, (List.forall_mem_cons.mpr ⟨mc_X7_fill, (List.forall_mem_cons.mpr ⟨mc_X8_init, (List.forall_mem_cons.mpr ⟨mc_X8_size, (List.forall_mem_cons.mpr ⟨mc_X8_valueAt, (List.forall_mem_cons.mpr ⟨mc_X8_unlike, (List.forall_mem_cons.mpr ⟨mc_X8_unlikeAt, (List.forall_mem_cons.mpr ⟨mc_X8_timesOf, (List.forall_mem_cons.mpr ⟨mc_X8_empty, (List.forall_mem_cons.mpr ⟨mc_X8_add, (List.forall_mem_cons.mpr ⟨mc_X8_put, (List.forall_mem_cons.mpr ⟨mc_X8_gather, (List.forall_mem_cons.mpr ⟨mc_X8_arrange, (List.forall_mem_cons.mpr ⟨mc_X8_rankOf, (List.forall_mem_cons.mpr ⟨mc_X8_insert, (fun _ h => absurd h List.not_mem_nil)⟩)⟩)⟩)⟩)⟩)⟩)⟩)⟩)⟩)⟩)⟩)⟩)⟩)⟩)⟩)⟩)⟩)⟩)⟩)⟩)
theorem mj_cod_6 : ∀ c ∈ ([mi_X8_least, mi_X8_width, mi_X8_narrowLength, mi_X8_isRising, mi_X8_divisor, mi_X8_commonOf, mi_X8_becomeTurned, mi_X8_becomeShares, mi_X8_beginsRun, mi_X8_become, mi_X8_becomeLengths, mi_X9_init, mi_X9_found, mi_X9_total, mi_X9_unpacked, mi_X9_empty, mi_X9_add, mi_X9_noteUnpacked, mi_X10_init, mi_X10_write] : List MI), Cond.code c.1 c.2.1 c.2.2.1 c.2.2.2.1 ∈ lw_tbl := (List.forall_mem_cons.mpr ⟨mc_X8_least, (List.forall_mem_cons.mpr ⟨mc_X8_width, (List.forall_mem_cons.mpr ⟨mc_X8_narrowLength, (List.forall_mem_cons.mpr ⟨mc_X8_isRising, (List.forall_mem_cons.mpr ⟨mc_X8_divisor, (List.forall_mem_cons.mpr ⟨mc_X8_commonOf, (List.forall_mem_cons.mpr ⟨mc_X8_becomeTurned, (List.forall_mem_cons.mpr ⟨mc_X8_becomeShares, (List.forall_mem_cons.mpr ⟨mc_X8_beginsRun, (List.forall_mem_cons.mpr ⟨mc_X8_become, (List.forall_mem_cons.mpr ⟨mc_X8_becomeLengths, (List.forall_mem_cons.mpr ⟨mc_X9_init, (List.forall_mem_cons.mpr ⟨mc_X9_found, (List.forall_mem_cons.mpr ⟨mc_X9_total, (List.forall_mem_cons.mpr ⟨mc_X9_unpacked, (List.forall_mem_cons.mpr ⟨mc_X9_empty, (List.forall_mem_cons.mpr ⟨mc_X9_add, (List.forall_mem_cons.mpr ⟨mc_X9_noteUnpacked, (List.forall_mem_cons.mpr ⟨mc_X10_init, (List.forall_mem_cons.mpr ⟨mc_X10_write, (fun _ h => absurd h List.not_mem_nil)⟩)⟩)⟩)⟩)⟩)⟩)⟩)⟩)⟩)⟩)⟩)⟩)⟩)⟩)⟩)⟩)⟩)⟩)⟩)⟩)
theorem mj_cod_7 : ∀ c ∈ ([mi_X10_putFrame, mi_X10_putHead, mi_X10_putInnermost, mi_X10_putPlain, mi_X10_putNarrow, mi_X10_putPatched, mi_X10_putRanks, mi_X11_init, mi_X11_feed, mi_X11_end, mi_X11_way, mi_X11_value, mi_X11_missing, mi_X11_sow, mi_X11_set, mi_X11_pack, mi_X11_clear, mi_X11_count, mi_X11_has, mi_X11_get] : List MI), Cond.code c.1 c.2.1 c.2.2.1 c.2.2.2.1 ∈ lw_tbl := (List.forall_mem_cons.mpr ⟨mc_X10_putFrame, (List.forall_mem_cons.mpr ⟨mc_X10_putHead, (List.forall_mem_cons.mpr ⟨mc_X10_putInnermost, (List.forall_mem_cons.mpr ⟨mc_X10_putPlain, (List.forall_mem_cons.mpr ⟨mc_X10_putNarrow, (List.forall_mem_cons.mpr ⟨mc_X10_putPatched, (List.forall_mem_cons.mpr ⟨mc_X10_putRanks, (List.forall_mem_cons.mpr ⟨mc_X11_init, (List.forall_mem_cons.mpr ⟨mc_X11_feed, (List.forall_mem_cons.mpr ⟨mc_X11_end, (List.forall_mem_cons.mpr ⟨mc_X11_way, (List.forall_mem_cons.mpr ⟨mc_X11_value, (List.forall_mem_cons.mpr ⟨mc_X11_missing, (List.forall_mem_cons.mpr ⟨mc_X11_sow, (List.forall_mem_cons.mpr ⟨mc_X11_set, (List.forall_mem_cons.mpr ⟨mc_X11_pack, (List.forall_mem_cons.mpr ⟨mc_X11_clear, (List.forall_mem_cons.mpr ⟨mc_X11_count, (List.forall_mem_cons.mpr ⟨mc_X11_has, (List.forall_mem_cons.mpr ⟨mc_X11_get, (fun _ h => absurd h List.not_mem_nil)⟩)⟩)⟩)⟩)⟩)⟩)⟩)⟩)⟩)⟩)⟩)⟩)⟩)⟩)⟩)⟩)⟩)⟩)⟩)⟩)
theorem mj_cod_8 : ∀ c ∈ ([mi_X11_piece, mi_X11_at, mi_X11_code, mi_X11_front, mi_X11_pair, mi_X11_among, mi_X11_sum, mi_X11_looked, mi_X11_take, mi_X11_load, mi_X11_fault, mi_X11_columnOf, mi_X11_packedPiece, mi_X11_bitsOf, mi_X11_unsignedOf, mi_X11_signedOf, mi_X11_varintLength, mi_X11_layingLength, mi_X11_pathLength, mi_X11_turnAt] : List MI), Cond.code c.1 c.2.1 c.2.2.1 c.2.2.2.1 ∈ lw_tbl := (List.forall_mem_cons.mpr ⟨mc_X11_piece, (List.forall_mem_cons.mpr ⟨mc_X11_at, (List.forall_mem_cons.mpr ⟨mc_X11_code, (List.forall_mem_cons.mpr ⟨mc_X11_front, (List.forall_mem_cons.mpr ⟨mc_X11_pair, (List.forall_mem_cons.mpr ⟨mc_X11_among, (List.forall_mem_cons.mpr ⟨mc_X11_sum, (List.forall_mem_cons.mpr ⟨mc_X11_looked, (List.forall_mem_cons.mpr ⟨mc_X11_take, (List.forall_mem_cons.mpr ⟨mc_X11_load, (List.forall_mem_cons.mpr ⟨mc_X11_fault, (List.forall_mem_cons.mpr ⟨mc_X11_columnOf, (List.forall_mem_cons.mpr ⟨mc_X11_packedPiece, (List.forall_mem_cons.mpr ⟨mc_X11_bitsOf, (List.forall_mem_cons.mpr ⟨mc_X11_unsignedOf, (List.forall_mem_cons.mpr ⟨mc_X11_signedOf, (List.forall_mem_cons.mpr ⟨mc_X11_varintLength, (List.forall_mem_cons.mpr ⟨mc_X11_layingLength, (List.forall_mem_cons.mpr ⟨mc_X11_pathLength, (List.forall_mem_cons.mpr ⟨mc_X11_turnAt, (fun _ h => absurd h List.not_mem_nil)⟩)⟩)⟩)⟩)⟩)⟩)⟩)⟩)⟩)⟩)⟩)⟩)⟩)⟩)⟩)⟩)⟩)⟩)⟩)⟩)
theorem mj_cod_9 : ∀ c ∈ ([mi_X12_init, mi_X12_is, mi_X12_put, mi_X12_feed, mi_X12_end, mi_X12_turned, mi_X12_varint, mi_X12_bits, mi_X12_laying, mi_X12_at, mi_X12_turns, mi_X12_sorted, mi_X12_divides, mi_X12_beside, mi_X12_work, mi_X12_isIn, mi_X12_patches, mi_X12_least, mi_X12_wideOf, mi_X12_leaf] : List MI), Cond.code c.1 c.2.1 c.2.2.1 c.2.2.2.1 ∈ lw_tbl := (List.forall_mem_cons.mpr ⟨mc_X12_init, (List.forall_mem_cons.mpr ⟨mc_X12_is, (List.forall_mem_cons.mpr ⟨mc_X12_put, (List.forall_mem_cons.mpr ⟨mc_X12_feed, (List.forall_mem_cons.mpr ⟨mc_X12_end, (List.forall_mem_cons.mpr ⟨mc_X12_turned, (List.forall_mem_cons.mpr ⟨mc_X12_varint, (List.forall_mem_cons.mpr ⟨mc_X12_bits, (List.forall_mem_cons.mpr ⟨mc_X12_laying, (List.forall_mem_cons.mpr ⟨mc_X12_at, (List.forall_mem_cons.mpr ⟨mc_X12_turns, (List.forall_mem_cons.mpr ⟨mc_X12_sorted, (List.forall_mem_cons.mpr ⟨mc_X12_divides, (List.forall_mem_cons.mpr ⟨mc_X12_beside, (List.forall_mem_cons.mpr ⟨mc_X12_work, (List.forall_mem_cons.mpr ⟨mc_X12_isIn, (List.forall_mem_cons.mpr ⟨mc_X12_patches, (List.forall_mem_cons.mpr ⟨mc_X12_least, (List.forall_mem_cons.mpr ⟨mc_X12_wideOf, (List.forall_mem_cons.mpr ⟨mc_X12_leaf, (fun _ h => absurd h List.not_mem_nil)⟩)⟩)⟩)⟩)⟩)⟩)⟩)⟩)⟩)⟩)⟩)⟩)⟩)⟩)⟩)⟩)⟩)⟩)⟩)⟩)
theorem mj_cod_10 : ∀ c ∈ ([mi_X12_way, mi_X12_leaves, mi_X12_all, mi_X12_best, mi_X12_write, mi_X12_writeVarint, mi_X12_lay, mi_X12_ends, mi_X12_before, mi_X12_behind, mi_X12_writeLeaf, mi_X12_rowsOf, mi_X12_gathers, mi_X12_head, mi_X12_packs, mi_X12_keeps, mi_X12_isColumn, mi_X12_pieces, mi_X12_way_, mi_X12_more] : List MI), Cond.code c.1 c.2.1 c.2.2.1 c.2.2.2.1 ∈ lw_tbl := (List.forall_mem_cons.mpr ⟨mc_X12_way, (List.forall_mem_cons.mpr ⟨mc_X12_leaves, (List.forall_mem_cons.mpr ⟨mc_X12_all, (List.forall_mem_cons.mpr ⟨mc_X12_best, (List.forall_mem_cons.mpr ⟨mc_X12_write, (List.forall_mem_cons.mpr ⟨mc_X12_writeVarint, (List.forall_mem_cons.mpr ⟨mc_X12_lay, (List.forall_mem_cons.mpr ⟨mc_X12_ends, (List.forall_mem_cons.mpr ⟨mc_X12_before, (List.forall_mem_cons.mpr ⟨mc_X12_behind, (List.forall_mem_cons.mpr ⟨mc_X12_writeLeaf, (List.forall_mem_cons.mpr ⟨mc_X12_rowsOf, (List.forall_mem_cons.mpr ⟨mc_X12_gathers, (List.forall_mem_cons.mpr ⟨mc_X12_head, (List.forall_mem_cons.mpr ⟨mc_X12_packs, (List.forall_mem_cons.mpr ⟨mc_X12_keeps, (List.forall_mem_cons.mpr ⟨mc_X12_isColumn, (List.forall_mem_cons.mpr ⟨mc_X12_pieces, (List.forall_mem_cons.mpr ⟨mc_X12_way_, (List.forall_mem_cons.mpr ⟨mc_X12_more, (fun _ h => absurd h List.not_mem_nil)⟩)⟩)⟩)⟩)⟩)⟩)⟩)⟩)⟩)⟩)⟩)⟩)⟩)⟩)⟩)⟩)⟩)⟩)⟩)⟩)
theorem mj_cod_11 : ∀ c ∈ ([mi_X12_value, mi_X12_missing, mi_X12_sow, mi_X12_isRow, mi_X12_changes, mi_X12_set, mi_X12_pack, mi_X12_clear, mi_X12_count, mi_X12_has, mi_X12_get, mi_X12_isPiece, mi_X12_isPacked, mi_X12_unpacks, mi_X12_piece, mi_X12_at_, mi_X12_code, mi_X12_front, mi_X12_pair, mi_X12_isLooked] : List MI), Cond.code c.1 c.2.1 c.2.2.1 c.2.2.2.1 ∈ lw_tbl := (List.forall_mem_cons.mpr ⟨mc_X12_value, (List.forall_mem_cons.mpr ⟨mc_X12_missing, (List.forall_mem_cons.mpr ⟨mc_X12_sow, (List.forall_mem_cons.mpr ⟨mc_X12_isRow, (List.forall_mem_cons.mpr ⟨mc_X12_changes, (List.forall_mem_cons.mpr ⟨mc_X12_set, (List.forall_mem_cons.mpr ⟨mc_X12_pack, (List.forall_mem_cons.mpr ⟨mc_X12_clear, (List.forall_mem_cons.mpr ⟨mc_X12_count, (List.forall_mem_cons.mpr ⟨mc_X12_has, (List.forall_mem_cons.mpr ⟨mc_X12_get, (List.forall_mem_cons.mpr ⟨mc_X12_isPiece, (List.forall_mem_cons.mpr ⟨mc_X12_isPacked, (List.forall_mem_cons.mpr ⟨mc_X12_unpacks, (List.forall_mem_cons.mpr ⟨mc_X12_piece, (List.forall_mem_cons.mpr ⟨mc_X12_at_, (List.forall_mem_cons.mpr ⟨mc_X12_code, (List.forall_mem_cons.mpr ⟨mc_X12_front, (List.forall_mem_cons.mpr ⟨mc_X12_pair, (List.forall_mem_cons.mpr ⟨mc_X12_isLooked, (fun _ h => absurd h List.not_mem_nil)⟩)⟩)⟩)⟩)⟩)⟩)⟩)⟩)⟩)⟩)⟩)⟩)⟩)⟩)⟩)⟩)⟩)⟩)⟩)⟩)
theorem mj_cod_12 : ∀ c ∈ ([mi_X12_looks, mi_X12_among, mi_X12_sum, mi_X12_looked, mi_X12_take, mi_X12_fails, mi_X12_readByte, mi_X12_readVarint, mi_X12_readTurned, mi_X12_readLaying, mi_X12_readWide, mi_X12_readLeaf, mi_X12_readBehind, mi_X12_readBefore, mi_X12_reads, mi_X12_load, mi_X12_fault, mi_J6_numberOfLeadingZeros_0f7a4, mi_J13_numberOfLeadingZeros_95d88, mi_J9_abs_067f4] : List MI), Cond.code c.1 c.2.1 c.2.2.1 c.2.2.2.1 ∈ lw_tbl := (List.forall_mem_cons.mpr ⟨mc_X12_looks, (List.forall_mem_cons.mpr ⟨mc_X12_among, (List.forall_mem_cons.mpr ⟨mc_X12_sum, (List.forall_mem_cons.mpr ⟨mc_X12_looked, (List.forall_mem_cons.mpr ⟨mc_X12_take, (List.forall_mem_cons.mpr ⟨mc_X12_fails, (List.forall_mem_cons.mpr ⟨mc_X12_readByte, (List.forall_mem_cons.mpr ⟨mc_X12_readVarint, (List.forall_mem_cons.mpr ⟨mc_X12_readTurned, (List.forall_mem_cons.mpr ⟨mc_X12_readLaying, (List.forall_mem_cons.mpr ⟨mc_X12_readWide, (List.forall_mem_cons.mpr ⟨mc_X12_readLeaf, (List.forall_mem_cons.mpr ⟨mc_X12_readBehind, (List.forall_mem_cons.mpr ⟨mc_X12_readBefore, (List.forall_mem_cons.mpr ⟨mc_X12_reads, (List.forall_mem_cons.mpr ⟨mc_X12_load, (List.forall_mem_cons.mpr ⟨mc_X12_fault, (List.forall_mem_cons.mpr ⟨mc_J6_numberOfLeadingZeros_0f7a4, (List.forall_mem_cons.mpr ⟨mc_J13_numberOfLeadingZeros_95d88, (List.forall_mem_cons.mpr ⟨mc_J9_abs_067f4, (fun _ h => absurd h List.not_mem_nil)⟩)⟩)⟩)⟩)⟩)⟩)⟩)⟩)⟩)⟩)⟩)⟩)⟩)⟩)⟩)⟩)⟩)⟩)⟩)⟩)
theorem mj_cod_13 : ∀ c ∈ ([mi_J9_max_7cf53, mi_J9_max_f86c9, mi_J9_min_7cf53, mi_J9_min_f86c9] : List MI), Cond.code c.1 c.2.1 c.2.2.1 c.2.2.2.1 ∈ lw_tbl := (List.forall_mem_cons.mpr ⟨mc_J9_max_7cf53, (List.forall_mem_cons.mpr ⟨mc_J9_max_f86c9, (List.forall_mem_cons.mpr ⟨mc_J9_min_7cf53, (List.forall_mem_cons.mpr ⟨mc_J9_min_f86c9, (fun _ h => absurd h List.not_mem_nil)⟩)⟩)⟩)⟩)
set_option maxRecDepth 20000 in
theorem mj_cods : ∀ c ∈ mj_list.take 264, Cond.code c.1 c.2.1 c.2.2.1 c.2.2.2.1 ∈ lw_tbl := (List.forall_mem_append.mpr ⟨mj_cod_0, (List.forall_mem_append.mpr ⟨mj_cod_1, (List.forall_mem_append.mpr ⟨mj_cod_2, (List.forall_mem_append.mpr ⟨mj_cod_3, (List.forall_mem_append.mpr ⟨mj_cod_4, (List.forall_mem_append.mpr ⟨mj_cod_5, (List.forall_mem_append.mpr ⟨mj_cod_6, (List.forall_mem_append.mpr ⟨mj_cod_7, (List.forall_mem_append.mpr ⟨mj_cod_8, (List.forall_mem_append.mpr ⟨mj_cod_9, (List.forall_mem_append.mpr ⟨mj_cod_10, (List.forall_mem_append.mpr ⟨mj_cod_11, (List.forall_mem_append.mpr ⟨mj_cod_12, mj_cod_13⟩)⟩)⟩)⟩)⟩)⟩)⟩)⟩)⟩)⟩)⟩)⟩)⟩)
