/-! the classes of the world -/
theorem mj_in_GW {ws : List Jvm.Cond} {ps : List Nat} (h1 : ws = ps.filterMap (fun i => lw_tbl[i]?)) (h2 : ws.all goodWord = true) : ∀ w ∈ ws, w ∈ mj_GW := by
  intro w hw
  have h3 := List.all_eq_true.mp h2 w hw
  rw [h1] at hw
  obtain ⟨i, -, hi⟩ := List.mem_filterMap.mp hw
  exact List.mem_filter.mpr ⟨List.mem_of_getElem? hi, h3⟩
theorem mj_uw0 : ∀ w ∈ u_ws RX0 TX0 3, w ∈ mj_GW := mj_in_GW (ps := [294, 296, 298]) (by decide +kernel) (by decide +kernel)
theorem mj_uw1 : ∀ w ∈ u_ws RX1 TX1 2, w ∈ mj_GW := mj_in_GW (ps := [120, 122]) (by decide +kernel) (by decide +kernel)
theorem mj_uw2 : ∀ w ∈ u_ws RX2 TX2 9, w ∈ mj_GW := mj_in_GW (ps := [376, 378, 380, 382, 384, 386, 388, 390, 392]) (by decide +kernel) (by decide +kernel)
theorem mj_uw3 : ∀ w ∈ u_ws RX3 TX3 4, w ∈ mj_GW := mj_in_GW (ps := [240, 242, 244, 246]) (by decide +kernel) (by decide +kernel)
theorem mj_uw4 : ∀ w ∈ u_ws RX4 TX4 5, w ∈ mj_GW := mj_in_GW (ps := [274, 276, 278, 280, 282]) (by decide +kernel) (by decide +kernel)
theorem mj_uw5 : ∀ w ∈ u_ws RX5 TX5 5, w ∈ mj_GW := mj_in_GW (ps := [219, 221, 223, 225, 227]) (by decide +kernel) (by decide +kernel)
theorem mj_uw6 : ∀ w ∈ u_ws RX6 TX6 10, w ∈ mj_GW := mj_in_GW (ps := [346, 348, 350, 352, 354, 356, 358, 360, 362, 364]) (by decide +kernel) (by decide +kernel)
theorem mj_uw7 : ∀ w ∈ u_ws RX7 TX7 14, w ∈ mj_GW := mj_in_GW (ps := [170, 172, 174, 176, 178, 180, 182, 184, 186, 188, 190, 192, 194, 196]) (by decide +kernel) (by decide +kernel)
theorem mj_uw8 : ∀ w ∈ u_ws RX8 TX8 5, w ∈ mj_GW := mj_in_GW (ps := [143, 145, 147, 149, 151]) (by decide +kernel) (by decide +kernel)
theorem mj_uw9 : ∀ w ∈ u_ws RX9 TX9 3, w ∈ mj_GW := mj_in_GW (ps := [313, 315, 317]) (by decide +kernel) (by decide +kernel)
theorem mj_uw10 : ∀ w ∈ u_ws RX10 TX10 3, w ∈ mj_GW := mj_in_GW (ps := [262, 264, 266]) (by decide +kernel) (by decide +kernel)
theorem mj_uw11 : ∀ w ∈ u_ws RX11 TX11 9, w ∈ mj_GW := mj_in_GW (ps := [404, 406, 408, 410, 412, 414, 416, 418, 420]) (by decide +kernel) (by decide +kernel)
theorem mj_uw12 : ∀ w ∈ u_ws RX12 TX12 50, w ∈ mj_GW := mj_in_GW (ps := [1262, 1264, 1266, 1268, 1270, 1272, 1274, 1276, 1278, 1280, 1282, 1284, 1286, 1288, 1290, 1292, 1294, 1296, 1298, 1300, 1302, 1304, 1306, 1308, 1310, 1312, 1314, 1316, 1318, 1320, 1322, 1324, 1326, 1328, 1330, 1332, 1334, 1336, 1338, 1340, 1342, 1344, 1346, 1348, 1350, 1352, 1354, 1356, 1358, 1360]) (by decide +kernel) (by decide +kernel)
theorem mj_cls : ∀ (a : Nat) (C : String) (T : u_T) (N : Nat), vwCl[a]? = some (C, T, N) → (∀ w ∈ u_ws C T N, w ∈ mj_GW) ∧ (∃ t : Nat → FieldType, mj_ty[a]? = some t ∧ (∀ k, k < N → parseFieldDescriptor (T k).2.2.1 = some (t k)) ∧ mj_new[a]? = some ((List.range N).map (fun k => mj_dv (t k)))) ∧ (∀ x, x < N → ∀ y, y < N → x ≠ y → (T x).2.1 ≠ (T y).2.1) ∧ Cond.instantiable C N ∈ mj_GW ∧ Cond.initialized C ∈ mj_GW ∧ mj_cn a = C
  | 0, C, T, N, h => by
    cases h
    exact ⟨mj_uw0, ⟨tyX0, rfl, tyX0_ok, rfl⟩, nmX0, mj_has_GW (pos := 286) (by decide +kernel) (by decide +kernel), mj_has_GW (pos := 93) (by decide +kernel) (by decide +kernel), rfl⟩
  | 1, C, T, N, h => by
    cases h
    exact ⟨mj_uw1, ⟨tyX1, rfl, tyX1_ok, rfl⟩, nmX1, mj_has_GW (pos := 113) (by decide +kernel) (by decide +kernel), mj_has_GW (pos := 86) (by decide +kernel) (by decide +kernel), rfl⟩
  | 2, C, T, N, h => by
    cases h
    exact ⟨mj_uw2, ⟨tyX2, rfl, tyX2_ok, rfl⟩, nmX2, mj_has_GW (pos := 320) (by decide +kernel) (by decide +kernel), mj_has_GW (pos := 95) (by decide +kernel) (by decide +kernel), rfl⟩
  | 3, C, T, N, h => by
    cases h
    exact ⟨mj_uw3, ⟨tyX3, rfl, tyX3_ok, rfl⟩, nmX3, mj_has_GW (pos := 231) (by decide +kernel) (by decide +kernel), mj_has_GW (pos := 91) (by decide +kernel) (by decide +kernel), rfl⟩
  | 4, C, T, N, h => by
    cases h
    exact ⟨mj_uw4, ⟨tyX4, rfl, tyX4_ok, rfl⟩, nmX4, mj_has_GW (pos := 200) (by decide +kernel) (by decide +kernel), mj_has_GW (pos := 89) (by decide +kernel) (by decide +kernel), rfl⟩
  | 5, C, T, N, h => by
    cases h
    exact ⟨mj_uw5, ⟨tyX5, rfl, tyX5_ok, rfl⟩, nmX5, mj_has_GW (pos := 209) (by decide +kernel) (by decide +kernel), mj_has_GW (pos := 90) (by decide +kernel) (by decide +kernel), rfl⟩
  | 6, C, T, N, h => by
    cases h
    exact ⟨mj_uw6, ⟨tyX6, rfl, tyX6_ok, rfl⟩, nmX6, mj_has_GW (pos := 329) (by decide +kernel) (by decide +kernel), mj_has_GW (pos := 96) (by decide +kernel) (by decide +kernel), rfl⟩
  | 7, C, T, N, h => by
    cases h
    exact ⟨mj_uw7, ⟨tyX7, rfl, tyX7_ok, rfl⟩, nmX7, mj_has_GW (pos := 127) (by decide +kernel) (by decide +kernel), mj_has_GW (pos := 87) (by decide +kernel) (by decide +kernel), rfl⟩
  | 8, C, T, N, h => by
    cases h
    exact ⟨mj_uw8, ⟨tyX8, rfl, tyX8_ok, rfl⟩, nmX8, mj_has_GW (pos := 133) (by decide +kernel) (by decide +kernel), mj_has_GW (pos := 88) (by decide +kernel) (by decide +kernel), rfl⟩
  | 9, C, T, N, h => by
    cases h
    exact ⟨mj_uw9, ⟨tyX9, rfl, tyX9_ok, rfl⟩, nmX9, mj_has_GW (pos := 305) (by decide +kernel) (by decide +kernel), mj_has_GW (pos := 94) (by decide +kernel) (by decide +kernel), rfl⟩
  | 10, C, T, N, h => by
    cases h
    exact ⟨mj_uw10, ⟨tyX10, rfl, tyX10_ok, rfl⟩, nmX10, mj_has_GW (pos := 250) (by decide +kernel) (by decide +kernel), mj_has_GW (pos := 92) (by decide +kernel) (by decide +kernel), rfl⟩
  | 11, C, T, N, h => by
    cases h
    exact ⟨mj_uw11, ⟨tyX11, rfl, tyX11_ok, rfl⟩, nmX11, mj_has_GW (pos := 103) (by decide +kernel) (by decide +kernel), mj_has_GW (pos := 85) (by decide +kernel) (by decide +kernel), rfl⟩
  | 12, C, T, N, h => by
    cases h
    exact ⟨mj_uw12, ⟨tyX12, rfl, tyX12_ok, rfl⟩, nmX12, mj_has_GW (pos := 1207) (by decide +kernel) (by decide +kernel), mj_has_GW (pos := 97) (by decide +kernel) (by decide +kernel), rfl⟩
  | k + 13, C, T, N, h => by simp [vwCl] at h
theorem mj_ac_boolean : Cond.arrayClass .boolean ∈ mj_GW := mj_has_GW (pos := 301) (by decide +kernel) (by decide +kernel)
theorem mj_ac_byte : Cond.arrayClass .byte ∈ mj_GW := mj_has_GW (pos := 125) (by decide +kernel) (by decide +kernel)
theorem mj_ac_int : Cond.arrayClass .int ∈ mj_GW := mj_has_GW (pos := 155) (by decide +kernel) (by decide +kernel)
theorem mj_ac_long : Cond.arrayClass .long ∈ mj_GW := mj_has_GW (pos := 154) (by decide +kernel) (by decide +kernel)
theorem mj_ao_2 : Cond.arrayOver (.object (mj_cn 2)) ∈ mj_EW := List.mem_filter.mpr ⟨mj_has_mem (pos := 111) (by decide +kernel), by decide +kernel⟩
theorem mj_ao_6 : Cond.arrayOver (.object (mj_cn 6)) ∈ mj_EW := List.mem_filter.mpr ⟨mj_has_mem (pos := 328) (by decide +kernel), by decide +kernel⟩
theorem mj_ao_8 : Cond.arrayOver (.object (mj_cn 8)) ∈ mj_EW := List.mem_filter.mpr ⟨mj_has_mem (pos := 206) (by decide +kernel), by decide +kernel⟩
theorem mj_oi_inst : Cond.instanceMethod objectInit ∈ mj_GW := mj_has_GW (pos := 108) (by decide +kernel) (by decide +kernel)
theorem mj_oi_code : Cond.code objectInit ⟨#[0xb1]⟩ 1 none ∈ mj_GW := mj_has_GW (pos := 109) (by decide +kernel) (by decide +kernel)
theorem mj_acp_nat : Cond.native arraycopyName ∈ mj_GW := mj_has_GW (pos := 719) (by decide +kernel) (by decide +kernel)
theorem mj_acp_stat : Cond.static arraycopyName ∈ mj_GW := mj_has_GW (pos := 718) (by decide +kernel) (by decide +kernel)
theorem mj_acp_ini : Cond.initialized "java/lang/System" ∈ mj_GW := mj_has_GW (pos := 101) (by decide +kernel) (by decide +kernel)
theorem mj_math_ini : Cond.initialized "java/lang/Math" ∈ mj_GW := mj_has_GW (pos := 98) (by decide +kernel) (by decide +kernel)
theorem mj_math_smaxi : Cond.static Lib.Math.max.name ∈ mj_GW := mj_has_GW (pos := 491) (by decide +kernel) (by decide +kernel)
theorem mj_math_smini : Cond.static Lib.Math.min.name ∈ mj_GW := mj_has_GW (pos := 488) (by decide +kernel) (by decide +kernel)
theorem mj_math_smaxl : Cond.static Lib.MathLoose.max_long.x ∈ mj_GW := mj_has_GW (pos := 751) (by decide +kernel) (by decide +kernel)
theorem mj_math_sminl : Cond.static Lib.MathLoose.min_long.x ∈ mj_GW := mj_has_GW (pos := 738) (by decide +kernel) (by decide +kernel)
theorem mj_math_sabsl : Cond.static Lib.MathLoose.abs_long.x ∈ mj_GW := mj_has_GW (pos := 814) (by decide +kernel) (by decide +kernel)
theorem mj_math_maxi : Cond.code Lib.Math.max.name Lib.Math.max.code 2 (some .int) ∈ mj_GW := List.mem_filter.mpr ⟨mc_J9_max_7cf53, rfl⟩
theorem mj_math_mini : Cond.code Lib.Math.min.name Lib.Math.min.code 2 (some .int) ∈ mj_GW := List.mem_filter.mpr ⟨mc_J9_min_7cf53, rfl⟩
theorem mj_math_maxl : Cond.code Lib.MathLoose.max_long.x Lib.MathLoose.max_long.code 4 (some .long) ∈ mj_GW := List.mem_filter.mpr ⟨mc_J9_max_f86c9, rfl⟩
theorem mj_math_minl : Cond.code Lib.MathLoose.min_long.x Lib.MathLoose.min_long.code 4 (some .long) ∈ mj_GW := List.mem_filter.mpr ⟨mc_J9_min_f86c9, rfl⟩
theorem mj_math_absl : Cond.code Lib.MathLoose.abs_long.x Lib.MathLoose.abs_long.code 2 (some .long) ∈ mj_GW := List.mem_filter.mpr ⟨mc_J9_abs_067f4, rfl⟩
