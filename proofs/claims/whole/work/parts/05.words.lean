theorem v_w1 {w : Cond} (i : Nat) (h : tables_1_1[i]? = some w) (g : goodWord w = true) : w ∈ v_T := by
  have h := List.mem_of_getElem? h
  exact List.mem_filter.mpr ⟨List.mem_append_right _ (List.mem_append_left _ h), g⟩
theorem v_w2 {w : Cond} (i : Nat) (h : tables_1_2[i]? = some w) (g : goodWord w = true) : w ∈ v_T := by
  have h := List.mem_of_getElem? h
  exact List.mem_filter.mpr ⟨List.mem_append_right _ (List.mem_append_right _ (List.mem_append_left _ h)), g⟩
theorem v_w3 {w : Cond} (i : Nat) (h : tables_1_3[i]? = some w) (g : goodWord w = true) : w ∈ v_T := by
  have h := List.mem_of_getElem? h
  exact List.mem_filter.mpr ⟨List.mem_append_right _ (List.mem_append_right _ (List.mem_append_right _ (List.mem_append_left _ h))), g⟩
theorem v_w4 {w : Cond} (i : Nat) (h : tables_1_4[i]? = some w) (g : goodWord w = true) : w ∈ v_T := by
  have h := List.mem_of_getElem? h
  exact List.mem_filter.mpr ⟨List.mem_append_right _ (List.mem_append_right _ (List.mem_append_right _ (List.mem_append_right _ (List.mem_append_left _ h)))), g⟩
theorem v_w5 {w : Cond} (i : Nat) (h : tables_1_5[i]? = some w) (g : goodWord w = true) : w ∈ v_T := by
  have h := List.mem_of_getElem? h
  exact List.mem_filter.mpr ⟨List.mem_append_right _ (List.mem_append_right _ (List.mem_append_right _ (List.mem_append_right _ (List.mem_append_right _ (List.mem_append_left _ h))))), g⟩
theorem v_w6 {w : Cond} (i : Nat) (h : tables_1_6[i]? = some w) (g : goodWord w = true) : w ∈ v_T := by
  have h := List.mem_of_getElem? h
  exact List.mem_filter.mpr ⟨List.mem_append_right _ (List.mem_append_right _ (List.mem_append_right _ (List.mem_append_right _ (List.mem_append_right _ (List.mem_append_right _ (List.mem_append_left _ h)))))), g⟩
theorem v_w7 {w : Cond} (i : Nat) (h : tables_1_7[i]? = some w) (g : goodWord w = true) : w ∈ v_T := by
  have h := List.mem_of_getElem? h
  exact List.mem_filter.mpr ⟨List.mem_append_right _ (List.mem_append_right _ (List.mem_append_right _ (List.mem_append_right _ (List.mem_append_right _ (List.mem_append_right _ (List.mem_append_right _ (List.mem_append_left _ h))))))), g⟩
theorem v_w8 {w : Cond} (i : Nat) (h : tables_1_8[i]? = some w) (g : goodWord w = true) : w ∈ v_T := by
  have h := List.mem_of_getElem? h
  exact List.mem_filter.mpr ⟨List.mem_append_right _ (List.mem_append_right _ (List.mem_append_right _ (List.mem_append_right _ (List.mem_append_right _ (List.mem_append_right _ (List.mem_append_right _ (List.mem_append_right _ (h)))))))), g⟩
set_option maxRecDepth 20000 in
theorem kc_0 : v_cls 0 RX0 TX0 := ⟨by decide, rfl, v_ins [218, 220, 222, 224, 226, 228, 230, 232, 234, 236, 238, 240, 242] (by decide +kernel) (by decide +kernel), tyX0_ok, nmX0⟩
set_option maxRecDepth 20000 in
theorem kk_0 : 0 < 20 ∧ ∃ T : u_T, vwCl[0]? = some (RX0, T, v_n 0) := ⟨by decide, _, rfl⟩
set_option maxRecDepth 20000 in
theorem kdf_0 : ∀ j, j < v_n 0 → defaultValue (v_fty 0 j) = if v_isR 0 j = true then .null else .int 0 := by decide +kernel
set_option maxRecDepth 20000 in
theorem kni_0 : Cond.initialized RX0 ∈ v_T := (v_w1 2 rfl rfl)
set_option maxRecDepth 20000 in
theorem knt_0 : Cond.instantiable RX0 (v_n 0) ∈ v_T := (v_w1 29 rfl rfl)
set_option maxRecDepth 20000 in
theorem kc_1 : v_cls 1 RX1 TX1 := ⟨by decide, rfl, v_ins [296, 298, 300, 302] (by decide +kernel) (by decide +kernel), tyX1_ok, nmX1⟩
set_option maxRecDepth 20000 in
theorem kk_1 : 1 < 20 ∧ ∃ T : u_T, vwCl[1]? = some (RX1, T, v_n 1) := ⟨by decide, _, rfl⟩
set_option maxRecDepth 20000 in
theorem kdf_1 : ∀ j, j < v_n 1 → defaultValue (v_fty 1 j) = if v_isR 1 j = true then .null else .int 0 := by decide +kernel
set_option maxRecDepth 20000 in
theorem kni_1 : Cond.initialized RX1 ∈ v_T := (v_w1 5 rfl rfl)
set_option maxRecDepth 20000 in
theorem knt_1 : Cond.instantiable RX1 (v_n 1) ∈ v_T := (v_w1 152 rfl rfl)
set_option maxRecDepth 20000 in
theorem kc_2 : v_cls 2 RX2 TX2 := ⟨by decide, rfl, v_ins [423, 425, 427] (by decide +kernel) (by decide +kernel), tyX2_ok, nmX2⟩
set_option maxRecDepth 20000 in
theorem kk_2 : 2 < 20 ∧ ∃ T : u_T, vwCl[2]? = some (RX2, T, v_n 2) := ⟨by decide, _, rfl⟩
set_option maxRecDepth 20000 in
theorem kdf_2 : ∀ j, j < v_n 2 → defaultValue (v_fty 2 j) = if v_isR 2 j = true then .null else .int 0 := by decide +kernel
set_option maxRecDepth 20000 in
theorem kni_2 : Cond.initialized RX2 ∈ v_T := (v_w1 10 rfl rfl)
set_option maxRecDepth 20000 in
theorem knt_2 : Cond.instantiable RX2 (v_n 2) ∈ v_T := (v_w2 55 rfl rfl)
set_option maxRecDepth 20000 in
theorem kc_3 : v_cls 3 RX3 TX3 := ⟨by decide, rfl, v_ins [174, 176, 178, 180] (by decide +kernel) (by decide +kernel), tyX3_ok, nmX3⟩
set_option maxRecDepth 20000 in
theorem kk_3 : 3 < 20 ∧ ∃ T : u_T, vwCl[3]? = some (RX3, T, v_n 3) := ⟨by decide, _, rfl⟩
set_option maxRecDepth 20000 in
theorem kdf_3 : ∀ j, j < v_n 3 → defaultValue (v_fty 3 j) = if v_isR 3 j = true then .null else .int 0 := by decide +kernel
set_option maxRecDepth 20000 in
theorem kni_3 : Cond.initialized RX3 ∈ v_T := (v_w1 3 rfl rfl)
set_option maxRecDepth 20000 in
theorem knt_3 : Cond.instantiable RX3 (v_n 3) ∈ v_T := (v_w1 35 rfl rfl)
set_option maxRecDepth 20000 in
theorem kc_4 : v_cls 4 RX4 TX4 := ⟨by decide, rfl, v_ins [259, 261, 263, 265] (by decide +kernel) (by decide +kernel), tyX4_ok, nmX4⟩
set_option maxRecDepth 20000 in
theorem kk_4 : 4 < 20 ∧ ∃ T : u_T, vwCl[4]? = some (RX4, T, v_n 4) := ⟨by decide, _, rfl⟩
set_option maxRecDepth 20000 in
theorem kdf_4 : ∀ j, j < v_n 4 → defaultValue (v_fty 4 j) = if v_isR 4 j = true then .null else .int 0 := by decide +kernel
set_option maxRecDepth 20000 in
theorem kni_4 : Cond.initialized RX4 ∈ v_T := (v_w1 4 rfl rfl)
set_option maxRecDepth 20000 in
theorem knt_4 : Cond.instantiable RX4 (v_n 4) ∈ v_T := (v_w1 130 rfl rfl)
set_option maxRecDepth 20000 in
theorem kc_5 : v_cls 5 RX5 TX5 := ⟨by decide, rfl, v_ins [313, 315] (by decide +kernel) (by decide +kernel), tyX5_ok, nmX5⟩
set_option maxRecDepth 20000 in
theorem kk_5 : 5 < 20 ∧ ∃ T : u_T, vwCl[5]? = some (RX5, T, v_n 5) := ⟨by decide, _, rfl⟩
set_option maxRecDepth 20000 in
theorem kdf_5 : ∀ j, j < v_n 5 → defaultValue (v_fty 5 j) = if v_isR 5 j = true then .null else .int 0 := by decide +kernel
set_option maxRecDepth 20000 in
theorem kni_5 : Cond.initialized RX5 ∈ v_T := (v_w1 7 rfl rfl)
set_option maxRecDepth 20000 in
theorem knt_5 : Cond.instantiable RX5 (v_n 5) ∈ v_T := (v_w1 189 rfl rfl)
set_option maxRecDepth 20000 in
theorem kc_6 : v_cls 6 RX6 TX6 := ⟨by decide, rfl, v_ins [390, 392, 394, 396, 398, 400, 402, 404, 406, 408] (by decide +kernel) (by decide +kernel), tyX6_ok, nmX6⟩
set_option maxRecDepth 20000 in
theorem kk_6 : 6 < 20 ∧ ∃ T : u_T, vwCl[6]? = some (RX6, T, v_n 6) := ⟨by decide, _, rfl⟩
set_option maxRecDepth 20000 in
theorem kdf_6 : ∀ j, j < v_n 6 → defaultValue (v_fty 6 j) = if v_isR 6 j = true then .null else .int 0 := by decide +kernel
set_option maxRecDepth 20000 in
theorem kni_6 : Cond.initialized RX6 ∈ v_T := (v_w1 8 rfl rfl)
set_option maxRecDepth 20000 in
theorem knt_6 : Cond.instantiable RX6 (v_n 6) ∈ v_T := (v_w1 204 rfl rfl)
set_option maxRecDepth 20000 in
theorem kc_7 : v_cls 7 RX7 TX7 := ⟨by decide, rfl, v_ins [284, 286] (by decide +kernel) (by decide +kernel), tyX7_ok, nmX7⟩
set_option maxRecDepth 20000 in
theorem kk_7 : 7 < 20 ∧ ∃ T : u_T, vwCl[7]? = some (RX7, T, v_n 7) := ⟨by decide, _, rfl⟩
set_option maxRecDepth 20000 in
theorem kdf_7 : ∀ j, j < v_n 7 → defaultValue (v_fty 7 j) = if v_isR 7 j = true then .null else .int 0 := by decide +kernel
set_option maxRecDepth 20000 in
theorem kni_7 : Cond.initialized RX7 ∈ v_T := (v_w1 6 rfl rfl)
set_option maxRecDepth 20000 in
theorem knt_7 : Cond.instantiable RX7 (v_n 7) ∈ v_T := (v_w1 158 rfl rfl)
set_option maxRecDepth 20000 in
theorem kc_8 : v_cls 8 RX8 TX8 := ⟨by decide, rfl, v_ins [360, 362, 364, 366, 368, 370, 372, 374, 376] (by decide +kernel) (by decide +kernel), tyX8_ok, nmX8⟩
set_option maxRecDepth 20000 in
theorem kk_8 : 8 < 20 ∧ ∃ T : u_T, vwCl[8]? = some (RX8, T, v_n 8) := ⟨by decide, _, rfl⟩
set_option maxRecDepth 20000 in
theorem kdf_8 : ∀ j, j < v_n 8 → defaultValue (v_fty 8 j) = if v_isR 8 j = true then .null else .int 0 := by decide +kernel
set_option maxRecDepth 20000 in
theorem kni_8 : Cond.initialized RX8 ∈ v_T := (v_w1 9 rfl rfl)
set_option maxRecDepth 20000 in
theorem knt_8 : Cond.instantiable RX8 (v_n 8) ∈ v_T := (v_w1 210 rfl rfl)
set_option maxRecDepth 20000 in
theorem kc_9 : v_cls 9 RX9 TX9 := ⟨by decide, rfl, v_ins [448, 450, 452, 454, 456, 458, 460, 462, 464, 466, 468, 470, 472, 474, 476, 478, 480, 482] (by decide +kernel) (by decide +kernel), tyX9_ok, nmX9⟩
set_option maxRecDepth 20000 in
theorem kk_9 : 9 < 20 ∧ ∃ T : u_T, vwCl[9]? = some (RX9, T, v_n 9) := ⟨by decide, _, rfl⟩
set_option maxRecDepth 20000 in
theorem kdf_9 : ∀ j, j < v_n 9 → defaultValue (v_fty 9 j) = if v_isR 9 j = true then .null else .int 0 := by decide +kernel
set_option maxRecDepth 20000 in
theorem kni_9 : Cond.initialized RX9 ∈ v_T := (v_w1 1 rfl rfl)
set_option maxRecDepth 20000 in
theorem knt_9 : Cond.instantiable RX9 (v_n 9) ∈ v_T := (v_w1 21 rfl rfl)
set_option maxRecDepth 20000 in
theorem kc_10 : v_cls 10 RX10 TX10 := ⟨by decide, rfl, v_ins [1185, 1187, 1189, 1191, 1193, 1195, 1197, 1199, 1201, 1203, 1205, 1207, 1209, 1211, 1213, 1215, 1217, 1219, 1221, 1223, 1225, 1227, 1229, 1231, 1233, 1235, 1237, 1239, 1241, 1243, 1245, 1247, 1249, 1251, 1253, 1255, 1257, 1259, 1261, 1263, 1265, 1267, 1269, 1271, 1273, 1275, 1277, 1279] (by decide +kernel) (by decide +kernel), tyX10_ok, nmX10⟩
set_option maxRecDepth 20000 in
theorem kk_10 : 10 < 20 ∧ ∃ T : u_T, vwCl[10]? = some (RX10, T, v_n 10) := ⟨by decide, _, rfl⟩
set_option maxRecDepth 20000 in
theorem kdf_10 : ∀ j, j < v_n 10 → defaultValue (v_fty 10 j) = if v_isR 10 j = true then .null else .int 0 := by decide +kernel
set_option maxRecDepth 20000 in
theorem kni_10 : Cond.initialized RX10 ∈ v_T := (v_w1 11 rfl rfl)
set_option maxRecDepth 20000 in
theorem knt_10 : Cond.instantiable RX10 (v_n 10) ∈ v_T := (v_w5 55 rfl rfl)
set_option maxRecDepth 20000 in
theorem fl_X3_9 : v_fld RX3 9 3 0 false := ⟨RX3, TX3, kc_3, by decide, rfl, rfl, (v_w1 40 rfl rfl)⟩
set_option maxRecDepth 20000 in
theorem fl_X1_56 : v_fld RX1 56 3 0 false := ⟨RX3, TX3, kc_3, by decide, rfl, rfl, (v_w1 41 rfl rfl)⟩
set_option maxRecDepth 20000 in
theorem fl_X2_103 : v_fld RX2 103 3 0 false := ⟨RX3, TX3, kc_3, by decide, rfl, rfl, (v_w1 42 rfl rfl)⟩
set_option maxRecDepth 20000 in
theorem fl_X9_209 : v_fld RX9 209 3 0 false := ⟨RX3, TX3, kc_3, by decide, rfl, rfl, (v_w1 43 rfl rfl)⟩
set_option maxRecDepth 20000 in
theorem fl_X3_15 : v_fld RX3 15 3 1 false := ⟨RX3, TX3, kc_3, by decide, rfl, rfl, (v_w1 44 rfl rfl)⟩
set_option maxRecDepth 20000 in
theorem fl_X1_108 : v_fld RX1 108 3 1 false := ⟨RX3, TX3, kc_3, by decide, rfl, rfl, (v_w1 45 rfl rfl)⟩
set_option maxRecDepth 20000 in
theorem fl_X2_84 : v_fld RX2 84 3 1 false := ⟨RX3, TX3, kc_3, by decide, rfl, rfl, (v_w1 46 rfl rfl)⟩
set_option maxRecDepth 20000 in
theorem fl_X0_82 : v_fld RX0 82 3 1 false := ⟨RX3, TX3, kc_3, by decide, rfl, rfl, (v_w1 47 rfl rfl)⟩
set_option maxRecDepth 20000 in
theorem fl_X3_18 : v_fld RX3 18 3 2 true := ⟨RX3, TX3, kc_3, by decide, rfl, rfl, (v_w1 48 rfl rfl)⟩
set_option maxRecDepth 20000 in
theorem fl_X1_45 : v_fld RX1 45 3 2 true := ⟨RX3, TX3, kc_3, by decide, rfl, rfl, (v_w1 49 rfl rfl)⟩
set_option maxRecDepth 20000 in
theorem fl_X9_126 : v_fld RX9 126 3 2 true := ⟨RX3, TX3, kc_3, by decide, rfl, rfl, (v_w1 50 rfl rfl)⟩
set_option maxRecDepth 20000 in
theorem fl_X0_71 : v_fld RX0 71 3 2 true := ⟨RX3, TX3, kc_3, by decide, rfl, rfl, (v_w1 51 rfl rfl)⟩
set_option maxRecDepth 20000 in
theorem fl_X2_97 : v_fld RX2 97 3 2 true := ⟨RX3, TX3, kc_3, by decide, rfl, rfl, (v_w1 52 rfl rfl)⟩
set_option maxRecDepth 20000 in
theorem fl_X3_22 : v_fld RX3 22 3 3 true := ⟨RX3, TX3, kc_3, by decide, rfl, rfl, (v_w1 53 rfl rfl)⟩
set_option maxRecDepth 20000 in
theorem fl_X9_139 : v_fld RX9 139 3 3 true := ⟨RX3, TX3, kc_3, by decide, rfl, rfl, (v_w1 54 rfl rfl)⟩
set_option maxRecDepth 20000 in
theorem fl_X1_100 : v_fld RX1 100 3 3 true := ⟨RX3, TX3, kc_3, by decide, rfl, rfl, (v_w1 55 rfl rfl)⟩
set_option maxRecDepth 20000 in
theorem fl_X2_100 : v_fld RX2 100 3 3 true := ⟨RX3, TX3, kc_3, by decide, rfl, rfl, (v_w1 56 rfl rfl)⟩
set_option maxRecDepth 20000 in
theorem fl_X0_9 : v_fld RX0 9 0 0 false := ⟨RX0, TX0, kc_0, by decide, rfl, rfl, (v_w1 69 rfl rfl)⟩
set_option maxRecDepth 20000 in
theorem fl_X9_103 : v_fld RX9 103 0 0 false := ⟨RX0, TX0, kc_0, by decide, rfl, rfl, (v_w1 70 rfl rfl)⟩
set_option maxRecDepth 20000 in
theorem fl_X1_90 : v_fld RX1 90 0 0 false := ⟨RX0, TX0, kc_0, by decide, rfl, rfl, (v_w1 71 rfl rfl)⟩
set_option maxRecDepth 20000 in
theorem fl_X5_35 : v_fld RX5 35 0 0 false := ⟨RX0, TX0, kc_0, by decide, rfl, rfl, (v_w1 72 rfl rfl)⟩
set_option maxRecDepth 20000 in
theorem fl_X0_18 : v_fld RX0 18 0 1 true := ⟨RX0, TX0, kc_0, by decide, rfl, rfl, (v_w1 73 rfl rfl)⟩
set_option maxRecDepth 20000 in
theorem fl_X1_42 : v_fld RX1 42 0 1 true := ⟨RX0, TX0, kc_0, by decide, rfl, rfl, (v_w1 74 rfl rfl)⟩
set_option maxRecDepth 20000 in
theorem fl_X9_123 : v_fld RX9 123 0 1 true := ⟨RX0, TX0, kc_0, by decide, rfl, rfl, (v_w1 75 rfl rfl)⟩
set_option maxRecDepth 20000 in
theorem fl_X0_22 : v_fld RX0 22 0 2 true := ⟨RX0, TX0, kc_0, by decide, rfl, rfl, (v_w1 76 rfl rfl)⟩
set_option maxRecDepth 20000 in
theorem fl_X9_129 : v_fld RX9 129 0 2 true := ⟨RX0, TX0, kc_0, by decide, rfl, rfl, (v_w1 77 rfl rfl)⟩
set_option maxRecDepth 20000 in
theorem fl_X1_111 : v_fld RX1 111 0 2 true := ⟨RX0, TX0, kc_0, by decide, rfl, rfl, (v_w1 78 rfl rfl)⟩
set_option maxRecDepth 20000 in
theorem fl_X0_26 : v_fld RX0 26 0 3 true := ⟨RX0, TX0, kc_0, by decide, rfl, rfl, (v_w1 79 rfl rfl)⟩
set_option maxRecDepth 20000 in
theorem fl_X5_26 : v_fld RX5 26 0 3 true := ⟨RX0, TX0, kc_0, by decide, rfl, rfl, (v_w1 80 rfl rfl)⟩
set_option maxRecDepth 20000 in
theorem fl_X9_132 : v_fld RX9 132 0 3 true := ⟨RX0, TX0, kc_0, by decide, rfl, rfl, (v_w1 81 rfl rfl)⟩
set_option maxRecDepth 20000 in
theorem fl_X1_114 : v_fld RX1 114 0 3 true := ⟨RX0, TX0, kc_0, by decide, rfl, rfl, (v_w1 82 rfl rfl)⟩
set_option maxRecDepth 20000 in
theorem fl_X0_29 : v_fld RX0 29 0 4 false := ⟨RX0, TX0, kc_0, by decide, rfl, rfl, (v_w1 83 rfl rfl)⟩
set_option maxRecDepth 20000 in
theorem fl_X9_284 : v_fld RX9 284 0 4 false := ⟨RX0, TX0, kc_0, by decide, rfl, rfl, (v_w1 84 rfl rfl)⟩
set_option maxRecDepth 20000 in
theorem fl_X0_32 : v_fld RX0 32 0 5 false := ⟨RX0, TX0, kc_0, by decide, rfl, rfl, (v_w1 85 rfl rfl)⟩
set_option maxRecDepth 20000 in
theorem fl_X1_122 : v_fld RX1 122 0 5 false := ⟨RX0, TX0, kc_0, by decide, rfl, rfl, (v_w1 86 rfl rfl)⟩
set_option maxRecDepth 20000 in
theorem fl_X0_35 : v_fld RX0 35 0 6 false := ⟨RX0, TX0, kc_0, by decide, rfl, rfl, (v_w1 87 rfl rfl)⟩
set_option maxRecDepth 20000 in
theorem fl_X1_125 : v_fld RX1 125 0 6 false := ⟨RX0, TX0, kc_0, by decide, rfl, rfl, (v_w1 88 rfl rfl)⟩
set_option maxRecDepth 20000 in
theorem fl_X0_38 : v_fld RX0 38 0 7 false := ⟨RX0, TX0, kc_0, by decide, rfl, rfl, (v_w1 89 rfl rfl)⟩
set_option maxRecDepth 20000 in
theorem fl_X1_173 : v_fld RX1 173 0 7 false := ⟨RX0, TX0, kc_0, by decide, rfl, rfl, (v_w1 90 rfl rfl)⟩
set_option maxRecDepth 20000 in
theorem fl_X9_259 : v_fld RX9 259 0 7 false := ⟨RX0, TX0, kc_0, by decide, rfl, rfl, (v_w1 91 rfl rfl)⟩
set_option maxRecDepth 20000 in
theorem fl_X0_41 : v_fld RX0 41 0 8 true := ⟨RX0, TX0, kc_0, by decide, rfl, rfl, (v_w1 92 rfl rfl)⟩
set_option maxRecDepth 20000 in
theorem fl_X1_176 : v_fld RX1 176 0 8 true := ⟨RX0, TX0, kc_0, by decide, rfl, rfl, (v_w1 93 rfl rfl)⟩
set_option maxRecDepth 20000 in
theorem fl_X0_44 : v_fld RX0 44 0 9 true := ⟨RX0, TX0, kc_0, by decide, rfl, rfl, (v_w1 94 rfl rfl)⟩
set_option maxRecDepth 20000 in
theorem fl_X1_179 : v_fld RX1 179 0 9 true := ⟨RX0, TX0, kc_0, by decide, rfl, rfl, (v_w1 95 rfl rfl)⟩
set_option maxRecDepth 20000 in
theorem fl_X0_47 : v_fld RX0 47 0 10 false := ⟨RX0, TX0, kc_0, by decide, rfl, rfl, (v_w1 96 rfl rfl)⟩
set_option maxRecDepth 20000 in
theorem fl_X9_163 : v_fld RX9 163 0 10 false := ⟨RX0, TX0, kc_0, by decide, rfl, rfl, (v_w1 97 rfl rfl)⟩
set_option maxRecDepth 20000 in
theorem fl_X0_52 : v_fld RX0 52 0 11 true := ⟨RX0, TX0, kc_0, by decide, rfl, rfl, (v_w1 98 rfl rfl)⟩
set_option maxRecDepth 20000 in
theorem fl_X0_56 : v_fld RX0 56 0 12 false := ⟨RX0, TX0, kc_0, by decide, rfl, rfl, (v_w1 99 rfl rfl)⟩
set_option maxRecDepth 20000 in
theorem fl_X9_199 : v_fld RX9 199 0 12 false := ⟨RX0, TX0, kc_0, by decide, rfl, rfl, (v_w1 100 rfl rfl)⟩
set_option maxRecDepth 20000 in
theorem fl_X4_9 : v_fld RX4 9 4 0 false := ⟨RX4, TX4, kc_4, by decide, rfl, rfl, (v_w1 137 rfl rfl)⟩
set_option maxRecDepth 20000 in
theorem fl_X9_303 : v_fld RX9 303 4 0 false := ⟨RX4, TX4, kc_4, by decide, rfl, rfl, (v_w1 138 rfl rfl)⟩
set_option maxRecDepth 20000 in
theorem fl_X4_15 : v_fld RX4 15 4 1 false := ⟨RX4, TX4, kc_4, by decide, rfl, rfl, (v_w1 139 rfl rfl)⟩
set_option maxRecDepth 20000 in
theorem fl_X4_18 : v_fld RX4 18 4 2 true := ⟨RX4, TX4, kc_4, by decide, rfl, rfl, (v_w1 140 rfl rfl)⟩
set_option maxRecDepth 20000 in
theorem fl_X4_24 : v_fld RX4 24 4 3 true := ⟨RX4, TX4, kc_4, by decide, rfl, rfl, (v_w1 141 rfl rfl)⟩
set_option maxRecDepth 20000 in
theorem fl_X7_9 : v_fld RX7 9 7 0 true := ⟨RX7, TX7, kc_7, by decide, rfl, rfl, (v_w1 163 rfl rfl)⟩
set_option maxRecDepth 20000 in
theorem fl_X1_97 : v_fld RX1 97 7 0 true := ⟨RX7, TX7, kc_7, by decide, rfl, rfl, (v_w1 164 rfl rfl)⟩
set_option maxRecDepth 20000 in
theorem fl_X2_81 : v_fld RX2 81 7 0 true := ⟨RX7, TX7, kc_7, by decide, rfl, rfl, (v_w1 165 rfl rfl)⟩
set_option maxRecDepth 20000 in
theorem fl_X7_15 : v_fld RX7 15 7 1 true := ⟨RX7, TX7, kc_7, by decide, rfl, rfl, (v_w1 166 rfl rfl)⟩
set_option maxRecDepth 20000 in
theorem fl_X1_12 : v_fld RX1 12 1 0 true := ⟨RX1, TX1, kc_1, by decide, rfl, rfl, (v_w1 175 rfl rfl)⟩
set_option maxRecDepth 20000 in
theorem fl_X1_21 : v_fld RX1 21 1 1 true := ⟨RX1, TX1, kc_1, by decide, rfl, rfl, (v_w1 176 rfl rfl)⟩
set_option maxRecDepth 20000 in
theorem fl_X1_25 : v_fld RX1 25 1 2 true := ⟨RX1, TX1, kc_1, by decide, rfl, rfl, (v_w1 177 rfl rfl)⟩
set_option maxRecDepth 20000 in
theorem fl_X1_29 : v_fld RX1 29 1 3 true := ⟨RX1, TX1, kc_1, by decide, rfl, rfl, (v_w1 178 rfl rfl)⟩
set_option maxRecDepth 20000 in
theorem fl_X5_9 : v_fld RX5 9 5 0 true := ⟨RX5, TX5, kc_5, by decide, rfl, rfl, (v_w1 194 rfl rfl)⟩
set_option maxRecDepth 20000 in
theorem fl_X5_15 : v_fld RX5 15 5 1 true := ⟨RX5, TX5, kc_5, by decide, rfl, rfl, (v_w1 195 rfl rfl)⟩
set_option maxRecDepth 20000 in
theorem fl_X8_9 : v_fld RX8 9 8 0 false := ⟨RX8, TX8, kc_8, by decide, rfl, rfl, (v_w1 215 rfl rfl)⟩
set_option maxRecDepth 20000 in
theorem fl_X2_25 : v_fld RX2 25 8 0 false := ⟨RX8, TX8, kc_8, by decide, rfl, rfl, (v_w1 216 rfl rfl)⟩
set_option maxRecDepth 20000 in
theorem fl_X1_128 : v_fld RX1 128 8 0 false := ⟨RX8, TX8, kc_8, by decide, rfl, rfl, (v_w1 217 rfl rfl)⟩
set_option maxRecDepth 20000 in
theorem fl_X6_112 : v_fld RX6 112 8 0 false := ⟨RX8, TX8, kc_8, by decide, rfl, rfl, (v_w1 218 rfl rfl)⟩
set_option maxRecDepth 20000 in
theorem fl_X8_15 : v_fld RX8 15 8 1 false := ⟨RX8, TX8, kc_8, by decide, rfl, rfl, (v_w1 219 rfl rfl)⟩
set_option maxRecDepth 20000 in
theorem fl_X6_128 : v_fld RX6 128 8 1 false := ⟨RX8, TX8, kc_8, by decide, rfl, rfl, (v_w1 220 rfl rfl)⟩
set_option maxRecDepth 20000 in
theorem fl_X8_18 : v_fld RX8 18 8 2 false := ⟨RX8, TX8, kc_8, by decide, rfl, rfl, (v_w1 221 rfl rfl)⟩
set_option maxRecDepth 20000 in
theorem fl_X1_84 : v_fld RX1 84 8 2 false := ⟨RX8, TX8, kc_8, by decide, rfl, rfl, (v_w1 222 rfl rfl)⟩
set_option maxRecDepth 20000 in
theorem fl_X6_185 : v_fld RX6 185 8 2 false := ⟨RX8, TX8, kc_8, by decide, rfl, rfl, (v_w1 223 rfl rfl)⟩
set_option maxRecDepth 20000 in
theorem fl_X8_22 : v_fld RX8 22 8 3 true := ⟨RX8, TX8, kc_8, by decide, rfl, rfl, (v_w1 224 rfl rfl)⟩
set_option maxRecDepth 20000 in
theorem fl_X2_49 : v_fld RX2 49 8 3 true := ⟨RX8, TX8, kc_8, by decide, rfl, rfl, (v_w1 225 rfl rfl)⟩
set_option maxRecDepth 20000 in
theorem fl_X1_131 : v_fld RX1 131 8 3 true := ⟨RX8, TX8, kc_8, by decide, rfl, rfl, (v_w1 226 rfl rfl)⟩
set_option maxRecDepth 20000 in
theorem fl_X8_26 : v_fld RX8 26 8 4 true := ⟨RX8, TX8, kc_8, by decide, rfl, rfl, (v_w1 227 rfl rfl)⟩
set_option maxRecDepth 20000 in
theorem fl_X2_52 : v_fld RX2 52 8 4 true := ⟨RX8, TX8, kc_8, by decide, rfl, rfl, (v_w1 228 rfl rfl)⟩
set_option maxRecDepth 20000 in
theorem fl_X1_141 : v_fld RX1 141 8 4 true := ⟨RX8, TX8, kc_8, by decide, rfl, rfl, (v_w1 229 rfl rfl)⟩
set_option maxRecDepth 20000 in
theorem fl_X6_137 : v_fld RX6 137 8 4 true := ⟨RX8, TX8, kc_8, by decide, rfl, rfl, (v_w1 230 rfl rfl)⟩
set_option maxRecDepth 20000 in
theorem fl_X8_29 : v_fld RX8 29 8 5 true := ⟨RX8, TX8, kc_8, by decide, rfl, rfl, (v_w1 231 rfl rfl)⟩
set_option maxRecDepth 20000 in
theorem fl_X2_58 : v_fld RX2 58 8 5 true := ⟨RX8, TX8, kc_8, by decide, rfl, rfl, (v_w1 232 rfl rfl)⟩
set_option maxRecDepth 20000 in
theorem fl_X6_143 : v_fld RX6 143 8 5 true := ⟨RX8, TX8, kc_8, by decide, rfl, rfl, (v_w1 233 rfl rfl)⟩
set_option maxRecDepth 20000 in
theorem fl_X8_32 : v_fld RX8 32 8 6 true := ⟨RX8, TX8, kc_8, by decide, rfl, rfl, (v_w1 234 rfl rfl)⟩
set_option maxRecDepth 20000 in
theorem fl_X2_42 : v_fld RX2 42 8 6 true := ⟨RX8, TX8, kc_8, by decide, rfl, rfl, (v_w1 235 rfl rfl)⟩
set_option maxRecDepth 20000 in
theorem fl_X1_134 : v_fld RX1 134 8 6 true := ⟨RX8, TX8, kc_8, by decide, rfl, rfl, (v_w1 236 rfl rfl)⟩
set_option maxRecDepth 20000 in
theorem fl_X6_125 : v_fld RX6 125 8 6 true := ⟨RX8, TX8, kc_8, by decide, rfl, rfl, (v_w1 237 rfl rfl)⟩
set_option maxRecDepth 20000 in
theorem fl_X8_35 : v_fld RX8 35 8 7 true := ⟨RX8, TX8, kc_8, by decide, rfl, rfl, (v_w1 238 rfl rfl)⟩
set_option maxRecDepth 20000 in
theorem fl_X2_30 : v_fld RX2 30 8 7 true := ⟨RX8, TX8, kc_8, by decide, rfl, rfl, (v_w1 239 rfl rfl)⟩
set_option maxRecDepth 20000 in
theorem fl_X6_150 : v_fld RX6 150 8 7 true := ⟨RX8, TX8, kc_8, by decide, rfl, rfl, (v_w2 0 rfl rfl)⟩
set_option maxRecDepth 20000 in
theorem fl_X8_38 : v_fld RX8 38 8 8 true := ⟨RX8, TX8, kc_8, by decide, rfl, rfl, (v_w2 1 rfl rfl)⟩
set_option maxRecDepth 20000 in
theorem fl_X7_19 : v_fld RX7 19 8 8 true := ⟨RX8, TX8, kc_8, by decide, rfl, rfl, (v_w2 2 rfl rfl)⟩
set_option maxRecDepth 20000 in
theorem fl_X6_14 : v_fld RX6 14 6 0 true := ⟨RX6, TX6, kc_6, by decide, rfl, rfl, (v_w2 22 rfl rfl)⟩
set_option maxRecDepth 20000 in
theorem fl_X9_170 : v_fld RX9 170 6 0 true := ⟨RX6, TX6, kc_6, by decide, rfl, rfl, (v_w2 23 rfl rfl)⟩
set_option maxRecDepth 20000 in
theorem fl_X6_20 : v_fld RX6 20 6 1 true := ⟨RX6, TX6, kc_6, by decide, rfl, rfl, (v_w2 24 rfl rfl)⟩
set_option maxRecDepth 20000 in
theorem fl_X6_24 : v_fld RX6 24 6 2 true := ⟨RX6, TX6, kc_6, by decide, rfl, rfl, (v_w2 25 rfl rfl)⟩
set_option maxRecDepth 20000 in
theorem fl_X6_27 : v_fld RX6 27 6 3 false := ⟨RX6, TX6, kc_6, by decide, rfl, rfl, (v_w2 26 rfl rfl)⟩
set_option maxRecDepth 20000 in
theorem fl_X6_31 : v_fld RX6 31 6 4 false := ⟨RX6, TX6, kc_6, by decide, rfl, rfl, (v_w2 27 rfl rfl)⟩
set_option maxRecDepth 20000 in
theorem fl_X6_34 : v_fld RX6 34 6 5 false := ⟨RX6, TX6, kc_6, by decide, rfl, rfl, (v_w2 28 rfl rfl)⟩
set_option maxRecDepth 20000 in
theorem fl_X6_37 : v_fld RX6 37 6 6 false := ⟨RX6, TX6, kc_6, by decide, rfl, rfl, (v_w2 29 rfl rfl)⟩
set_option maxRecDepth 20000 in
theorem fl_X6_41 : v_fld RX6 41 6 7 false := ⟨RX6, TX6, kc_6, by decide, rfl, rfl, (v_w2 30 rfl rfl)⟩
set_option maxRecDepth 20000 in
theorem fl_X6_44 : v_fld RX6 44 6 8 false := ⟨RX6, TX6, kc_6, by decide, rfl, rfl, (v_w2 31 rfl rfl)⟩
set_option maxRecDepth 20000 in
theorem fl_X6_47 : v_fld RX6 47 6 9 false := ⟨RX6, TX6, kc_6, by decide, rfl, rfl, (v_w2 32 rfl rfl)⟩
set_option maxRecDepth 20000 in
theorem fl_X2_9 : v_fld RX2 9 2 0 false := ⟨RX2, TX2, kc_2, by decide, rfl, rfl, (v_w2 62 rfl rfl)⟩
set_option maxRecDepth 20000 in
theorem fl_X9_192 : v_fld RX9 192 2 0 false := ⟨RX2, TX2, kc_2, by decide, rfl, rfl, (v_w2 63 rfl rfl)⟩
set_option maxRecDepth 20000 in
theorem fl_X2_15 : v_fld RX2 15 2 1 false := ⟨RX2, TX2, kc_2, by decide, rfl, rfl, (v_w2 64 rfl rfl)⟩
set_option maxRecDepth 20000 in
theorem fl_X2_21 : v_fld RX2 21 2 2 true := ⟨RX2, TX2, kc_2, by decide, rfl, rfl, (v_w2 65 rfl rfl)⟩
set_option maxRecDepth 20000 in
theorem fl_X9_12 : v_fld RX9 12 9 0 true := ⟨RX9, TX9, kc_9, by decide, rfl, rfl, (v_w2 73 rfl rfl)⟩
set_option maxRecDepth 20000 in
theorem fl_X9_16 : v_fld RX9 16 9 1 true := ⟨RX9, TX9, kc_9, by decide, rfl, rfl, (v_w2 74 rfl rfl)⟩
set_option maxRecDepth 20000 in
theorem fl_X9_23 : v_fld RX9 23 9 2 true := ⟨RX9, TX9, kc_9, by decide, rfl, rfl, (v_w2 75 rfl rfl)⟩
set_option maxRecDepth 20000 in
theorem fl_X9_30 : v_fld RX9 30 9 3 true := ⟨RX9, TX9, kc_9, by decide, rfl, rfl, (v_w2 76 rfl rfl)⟩
set_option maxRecDepth 20000 in
theorem fl_X9_37 : v_fld RX9 37 9 4 true := ⟨RX9, TX9, kc_9, by decide, rfl, rfl, (v_w2 77 rfl rfl)⟩
set_option maxRecDepth 20000 in
theorem fl_X9_44 : v_fld RX9 44 9 5 true := ⟨RX9, TX9, kc_9, by decide, rfl, rfl, (v_w2 78 rfl rfl)⟩
set_option maxRecDepth 20000 in
theorem fl_X9_48 : v_fld RX9 48 9 6 false := ⟨RX9, TX9, kc_9, by decide, rfl, rfl, (v_w2 79 rfl rfl)⟩
set_option maxRecDepth 20000 in
theorem fl_X9_52 : v_fld RX9 52 9 7 true := ⟨RX9, TX9, kc_9, by decide, rfl, rfl, (v_w2 80 rfl rfl)⟩
set_option maxRecDepth 20000 in
theorem fl_X9_56 : v_fld RX9 56 9 8 false := ⟨RX9, TX9, kc_9, by decide, rfl, rfl, (v_w2 81 rfl rfl)⟩
set_option maxRecDepth 20000 in
theorem fl_X9_62 : v_fld RX9 62 9 9 true := ⟨RX9, TX9, kc_9, by decide, rfl, rfl, (v_w2 82 rfl rfl)⟩
set_option maxRecDepth 20000 in
theorem fl_X9_69 : v_fld RX9 69 9 10 true := ⟨RX9, TX9, kc_9, by decide, rfl, rfl, (v_w2 83 rfl rfl)⟩
set_option maxRecDepth 20000 in
theorem fl_X9_73 : v_fld RX9 73 9 11 true := ⟨RX9, TX9, kc_9, by decide, rfl, rfl, (v_w2 84 rfl rfl)⟩
set_option maxRecDepth 20000 in
theorem fl_X9_76 : v_fld RX9 76 9 12 true := ⟨RX9, TX9, kc_9, by decide, rfl, rfl, (v_w2 85 rfl rfl)⟩
set_option maxRecDepth 20000 in
theorem fl_X9_80 : v_fld RX9 80 9 13 true := ⟨RX9, TX9, kc_9, by decide, rfl, rfl, (v_w2 86 rfl rfl)⟩
set_option maxRecDepth 20000 in
theorem fl_X9_83 : v_fld RX9 83 9 14 false := ⟨RX9, TX9, kc_9, by decide, rfl, rfl, (v_w2 87 rfl rfl)⟩
set_option maxRecDepth 20000 in
theorem fl_X9_86 : v_fld RX9 86 9 15 false := ⟨RX9, TX9, kc_9, by decide, rfl, rfl, (v_w2 88 rfl rfl)⟩
set_option maxRecDepth 20000 in
theorem fl_X9_89 : v_fld RX9 89 9 16 false := ⟨RX9, TX9, kc_9, by decide, rfl, rfl, (v_w2 89 rfl rfl)⟩
set_option maxRecDepth 20000 in
theorem fl_X9_92 : v_fld RX9 92 9 17 false := ⟨RX9, TX9, kc_9, by decide, rfl, rfl, (v_w2 90 rfl rfl)⟩
set_option maxRecDepth 20000 in
theorem fl_X10_3 : v_fld RX10 3 10 0 false := ⟨RX10, TX10, kc_10, by decide, rfl, rfl, (v_w5 60 rfl rfl)⟩
set_option maxRecDepth 20000 in
theorem fl_X10_7 : v_fld RX10 7 10 1 true := ⟨RX10, TX10, kc_10, by decide, rfl, rfl, (v_w5 61 rfl rfl)⟩
set_option maxRecDepth 20000 in
theorem fl_X10_28 : v_fld RX10 28 10 2 true := ⟨RX10, TX10, kc_10, by decide, rfl, rfl, (v_w5 62 rfl rfl)⟩
set_option maxRecDepth 20000 in
theorem fl_X10_31 : v_fld RX10 31 10 3 true := ⟨RX10, TX10, kc_10, by decide, rfl, rfl, (v_w5 63 rfl rfl)⟩
set_option maxRecDepth 20000 in
theorem fl_X10_34 : v_fld RX10 34 10 4 true := ⟨RX10, TX10, kc_10, by decide, rfl, rfl, (v_w5 64 rfl rfl)⟩
set_option maxRecDepth 20000 in
theorem fl_X10_38 : v_fld RX10 38 10 5 true := ⟨RX10, TX10, kc_10, by decide, rfl, rfl, (v_w5 65 rfl rfl)⟩
set_option maxRecDepth 20000 in
theorem fl_X10_171 : v_fld RX10 171 10 6 false := ⟨RX10, TX10, kc_10, by decide, rfl, rfl, (v_w5 66 rfl rfl)⟩
set_option maxRecDepth 20000 in
theorem fl_X10_41 : v_fld RX10 41 10 7 true := ⟨RX10, TX10, kc_10, by decide, rfl, rfl, (v_w5 67 rfl rfl)⟩
set_option maxRecDepth 20000 in
theorem fl_X10_246 : v_fld RX10 246 10 8 false := ⟨RX10, TX10, kc_10, by decide, rfl, rfl, (v_w5 68 rfl rfl)⟩
set_option maxRecDepth 20000 in
theorem fl_X10_249 : v_fld RX10 249 10 9 false := ⟨RX10, TX10, kc_10, by decide, rfl, rfl, (v_w5 69 rfl rfl)⟩
set_option maxRecDepth 20000 in
theorem fl_X10_220 : v_fld RX10 220 10 10 false := ⟨RX10, TX10, kc_10, by decide, rfl, rfl, (v_w5 70 rfl rfl)⟩
set_option maxRecDepth 20000 in
theorem fl_X10_45 : v_fld RX10 45 10 11 true := ⟨RX10, TX10, kc_10, by decide, rfl, rfl, (v_w5 71 rfl rfl)⟩
set_option maxRecDepth 20000 in
theorem fl_X10_48 : v_fld RX10 48 10 12 true := ⟨RX10, TX10, kc_10, by decide, rfl, rfl, (v_w5 72 rfl rfl)⟩
set_option maxRecDepth 20000 in
theorem fl_X10_165 : v_fld RX10 165 10 13 false := ⟨RX10, TX10, kc_10, by decide, rfl, rfl, (v_w5 73 rfl rfl)⟩
set_option maxRecDepth 20000 in
theorem fl_X10_51 : v_fld RX10 51 10 14 false := ⟨RX10, TX10, kc_10, by decide, rfl, rfl, (v_w5 74 rfl rfl)⟩
set_option maxRecDepth 20000 in
theorem fl_X10_54 : v_fld RX10 54 10 15 true := ⟨RX10, TX10, kc_10, by decide, rfl, rfl, (v_w5 75 rfl rfl)⟩
set_option maxRecDepth 20000 in
theorem fl_X10_57 : v_fld RX10 57 10 16 true := ⟨RX10, TX10, kc_10, by decide, rfl, rfl, (v_w5 76 rfl rfl)⟩
set_option maxRecDepth 20000 in
theorem fl_X10_60 : v_fld RX10 60 10 17 true := ⟨RX10, TX10, kc_10, by decide, rfl, rfl, (v_w5 77 rfl rfl)⟩
set_option maxRecDepth 20000 in
theorem fl_X10_174 : v_fld RX10 174 10 18 false := ⟨RX10, TX10, kc_10, by decide, rfl, rfl, (v_w5 78 rfl rfl)⟩
set_option maxRecDepth 20000 in
theorem fl_X10_194 : v_fld RX10 194 10 19 false := ⟨RX10, TX10, kc_10, by decide, rfl, rfl, (v_w5 79 rfl rfl)⟩
set_option maxRecDepth 20000 in
theorem fl_X10_203 : v_fld RX10 203 10 20 false := ⟨RX10, TX10, kc_10, by decide, rfl, rfl, (v_w5 80 rfl rfl)⟩
set_option maxRecDepth 20000 in
theorem fl_X10_187 : v_fld RX10 187 10 21 false := ⟨RX10, TX10, kc_10, by decide, rfl, rfl, (v_w5 81 rfl rfl)⟩
set_option maxRecDepth 20000 in
theorem fl_X10_277 : v_fld RX10 277 10 22 false := ⟨RX10, TX10, kc_10, by decide, rfl, rfl, (v_w5 82 rfl rfl)⟩
set_option maxRecDepth 20000 in
theorem fl_X10_274 : v_fld RX10 274 10 23 false := ⟨RX10, TX10, kc_10, by decide, rfl, rfl, (v_w5 83 rfl rfl)⟩
set_option maxRecDepth 20000 in
theorem fl_X10_287 : v_fld RX10 287 10 24 false := ⟨RX10, TX10, kc_10, by decide, rfl, rfl, (v_w5 84 rfl rfl)⟩
set_option maxRecDepth 20000 in
theorem fl_X10_307 : v_fld RX10 307 10 25 false := ⟨RX10, TX10, kc_10, by decide, rfl, rfl, (v_w5 85 rfl rfl)⟩
set_option maxRecDepth 20000 in
theorem fl_X10_63 : v_fld RX10 63 10 26 true := ⟨RX10, TX10, kc_10, by decide, rfl, rfl, (v_w5 86 rfl rfl)⟩
set_option maxRecDepth 20000 in
theorem fl_X10_316 : v_fld RX10 316 10 27 false := ⟨RX10, TX10, kc_10, by decide, rfl, rfl, (v_w5 87 rfl rfl)⟩
set_option maxRecDepth 20000 in
theorem fl_X10_319 : v_fld RX10 319 10 28 false := ⟨RX10, TX10, kc_10, by decide, rfl, rfl, (v_w5 88 rfl rfl)⟩
set_option maxRecDepth 20000 in
theorem fl_X10_66 : v_fld RX10 66 10 29 true := ⟨RX10, TX10, kc_10, by decide, rfl, rfl, (v_w5 89 rfl rfl)⟩
set_option maxRecDepth 20000 in
theorem fl_X10_69 : v_fld RX10 69 10 30 true := ⟨RX10, TX10, kc_10, by decide, rfl, rfl, (v_w5 90 rfl rfl)⟩
set_option maxRecDepth 20000 in
theorem fl_X10_72 : v_fld RX10 72 10 31 true := ⟨RX10, TX10, kc_10, by decide, rfl, rfl, (v_w5 91 rfl rfl)⟩
set_option maxRecDepth 20000 in
theorem fl_X10_11 : v_fld RX10 11 10 32 false := ⟨RX10, TX10, kc_10, by decide, rfl, rfl, (v_w5 92 rfl rfl)⟩
set_option maxRecDepth 20000 in
theorem fl_X10_75 : v_fld RX10 75 10 33 true := ⟨RX10, TX10, kc_10, by decide, rfl, rfl, (v_w5 93 rfl rfl)⟩
set_option maxRecDepth 20000 in
theorem fl_X10_78 : v_fld RX10 78 10 34 true := ⟨RX10, TX10, kc_10, by decide, rfl, rfl, (v_w5 94 rfl rfl)⟩
set_option maxRecDepth 20000 in
theorem fl_X10_81 : v_fld RX10 81 10 35 true := ⟨RX10, TX10, kc_10, by decide, rfl, rfl, (v_w5 95 rfl rfl)⟩
set_option maxRecDepth 20000 in
theorem fl_X10_84 : v_fld RX10 84 10 36 true := ⟨RX10, TX10, kc_10, by decide, rfl, rfl, (v_w5 96 rfl rfl)⟩
set_option maxRecDepth 20000 in
theorem fl_X10_87 : v_fld RX10 87 10 37 true := ⟨RX10, TX10, kc_10, by decide, rfl, rfl, (v_w5 97 rfl rfl)⟩
set_option maxRecDepth 20000 in
theorem fl_X10_91 : v_fld RX10 91 10 38 false := ⟨RX10, TX10, kc_10, by decide, rfl, rfl, (v_w5 98 rfl rfl)⟩
set_option maxRecDepth 20000 in
theorem fl_X10_449 : v_fld RX10 449 10 39 false := ⟨RX10, TX10, kc_10, by decide, rfl, rfl, (v_w5 99 rfl rfl)⟩
set_option maxRecDepth 20000 in
theorem fl_X10_461 : v_fld RX10 461 10 40 false := ⟨RX10, TX10, kc_10, by decide, rfl, rfl, (v_w5 100 rfl rfl)⟩
set_option maxRecDepth 20000 in
theorem fl_X10_455 : v_fld RX10 455 10 41 false := ⟨RX10, TX10, kc_10, by decide, rfl, rfl, (v_w5 101 rfl rfl)⟩
set_option maxRecDepth 20000 in
theorem fl_X10_458 : v_fld RX10 458 10 42 false := ⟨RX10, TX10, kc_10, by decide, rfl, rfl, (v_w5 102 rfl rfl)⟩
set_option maxRecDepth 20000 in
theorem fl_X10_464 : v_fld RX10 464 10 43 false := ⟨RX10, TX10, kc_10, by decide, rfl, rfl, (v_w5 103 rfl rfl)⟩
set_option maxRecDepth 20000 in
theorem fl_X10_94 : v_fld RX10 94 10 44 true := ⟨RX10, TX10, kc_10, by decide, rfl, rfl, (v_w5 104 rfl rfl)⟩
set_option maxRecDepth 20000 in
theorem fl_X10_97 : v_fld RX10 97 10 45 true := ⟨RX10, TX10, kc_10, by decide, rfl, rfl, (v_w5 105 rfl rfl)⟩
set_option maxRecDepth 20000 in
theorem fl_X10_100 : v_fld RX10 100 10 46 false := ⟨RX10, TX10, kc_10, by decide, rfl, rfl, (v_w5 106 rfl rfl)⟩
set_option maxRecDepth 20000 in
theorem fl_X10_482 : v_fld RX10 482 10 47 false := ⟨RX10, TX10, kc_10, by decide, rfl, rfl, (v_w5 107 rfl rfl)⟩
set_option maxRecDepth 20000 in
theorem cal_X9_init : v_cal yX9_init cX9_init 1 none 0 := v_cal.mk (v_w1 24 rfl rfl) (v_w1 1 rfl rfl) (by decide +kernel)
set_option maxRecDepth 20000 in
theorem ins_X9_init : Cond.instanceMethod yX9_init ∈ v_T := (v_w1 23 rfl rfl)
set_option maxRecDepth 20000 in
theorem cal_X0_init : v_cal yX0_init cX0_init 1 none 0 := v_cal.mk (v_w1 32 rfl rfl) (v_w1 2 rfl rfl) (by decide +kernel)
set_option maxRecDepth 20000 in
theorem ins_X0_init : Cond.instanceMethod yX0_init ∈ v_T := (v_w1 31 rfl rfl)
set_option maxRecDepth 20000 in
theorem cal_X3_init : v_cal yX3_init cX3_init 1 none 0 := v_cal.mk (v_w1 38 rfl rfl) (v_w1 3 rfl rfl) (by decide +kernel)
set_option maxRecDepth 20000 in
theorem ins_X3_init : Cond.instanceMethod yX3_init ∈ v_T := (v_w1 37 rfl rfl)
set_option maxRecDepth 20000 in
theorem cal_X4_init : v_cal yX4_init cX4_init 1 none 0 := v_cal.mk (v_w1 133 rfl rfl) (v_w1 4 rfl rfl) (by decide +kernel)
set_option maxRecDepth 20000 in
theorem ins_X4_init : Cond.instanceMethod yX4_init ∈ v_T := (v_w1 132 rfl rfl)
set_option maxRecDepth 20000 in
theorem cal_X1_init : v_cal yX1_init cX1_init 1 none 0 := v_cal.mk (v_w1 155 rfl rfl) (v_w1 5 rfl rfl) (by decide +kernel)
set_option maxRecDepth 20000 in
theorem ins_X1_init : Cond.instanceMethod yX1_init ∈ v_T := (v_w1 154 rfl rfl)
set_option maxRecDepth 20000 in
theorem cal_X7_init : v_cal yX7_init cX7_init 1 none 0 := v_cal.mk (v_w1 161 rfl rfl) (v_w1 6 rfl rfl) (by decide +kernel)
set_option maxRecDepth 20000 in
theorem ins_X7_init : Cond.instanceMethod yX7_init ∈ v_T := (v_w1 160 rfl rfl)
set_option maxRecDepth 20000 in
theorem cal_X5_init : v_cal yX5_init cX5_init 1 none 0 := v_cal.mk (v_w1 192 rfl rfl) (v_w1 7 rfl rfl) (by decide +kernel)
set_option maxRecDepth 20000 in
theorem ins_X5_init : Cond.instanceMethod yX5_init ∈ v_T := (v_w1 191 rfl rfl)
set_option maxRecDepth 20000 in
theorem cal_X6_init : v_cal yX6_init cX6_init 1 none 0 := v_cal.mk (v_w1 207 rfl rfl) (v_w1 8 rfl rfl) (by decide +kernel)
set_option maxRecDepth 20000 in
theorem ins_X6_init : Cond.instanceMethod yX6_init ∈ v_T := (v_w1 206 rfl rfl)
set_option maxRecDepth 20000 in
theorem cal_X8_init : v_cal yX8_init cX8_init 3 none 2 := v_cal.mk (v_w1 213 rfl rfl) (v_w1 9 rfl rfl) (by decide +kernel)
set_option maxRecDepth 20000 in
theorem ins_X8_init : Cond.instanceMethod yX8_init ∈ v_T := (v_w1 212 rfl rfl)
set_option maxRecDepth 20000 in
theorem cal_X2_init : v_cal yX2_init cX2_init 1 none 0 := v_cal.mk (v_w2 58 rfl rfl) (v_w1 10 rfl rfl) (by decide +kernel)
set_option maxRecDepth 20000 in
theorem ins_X2_init : Cond.instanceMethod yX2_init ∈ v_T := (v_w2 57 rfl rfl)
set_option maxRecDepth 20000 in
theorem cal_X9_hedgehog : v_cal yX9_hedgehog cX9_hedgehog 3 (some .int) 2 := v_cal.mk (v_w2 131 rfl rfl) (v_w1 1 rfl rfl) (by decide +kernel)
set_option maxRecDepth 20000 in
theorem sel_X9_hedgehog : Cond.instanceMethod yX9_hedgehog ∈ v_T ∧ Cond.selects yX9_hedgehog.cls yX9_hedgehog yX9_hedgehog ∈ v_T := ⟨(v_w2 129 rfl rfl), (v_w2 130 rfl rfl)⟩
set_option maxRecDepth 20000 in
theorem cal_X9_isUpTo : v_cal yX9_isUpTo cX9_isUpTo 3 (some .boolean) 2 := v_cal.mk (v_w2 134 rfl rfl) (v_w1 1 rfl rfl) (by decide +kernel)
set_option maxRecDepth 20000 in
theorem sta_X9_isUpTo : Cond.static yX9_isUpTo ∈ v_T := (v_w2 133 rfl rfl)
set_option maxRecDepth 20000 in
theorem cal_X9_refuse : v_cal yX9_refuse cX9_refuse 3 (some .int) 1 := v_cal.mk (v_w2 138 rfl rfl) (v_w1 1 rfl rfl) (by decide +kernel)
set_option maxRecDepth 20000 in
theorem sel_X9_refuse : Cond.instanceMethod yX9_refuse ∈ v_T ∧ Cond.selects yX9_refuse.cls yX9_refuse yX9_refuse ∈ v_T := ⟨(v_w2 137 rfl rfl), (v_w 0 (by decide +kernel) rfl)⟩
set_option maxRecDepth 20000 in
theorem cal_X4_clear : v_cal yX4_clear cX4_clear 1 none 0 := v_cal.mk (v_w2 142 rfl rfl) (v_w1 4 rfl rfl) (by decide +kernel)
set_option maxRecDepth 20000 in
theorem sel_X4_clear : Cond.instanceMethod yX4_clear ∈ v_T ∧ Cond.selects yX4_clear.cls yX4_clear yX4_clear ∈ v_T := ⟨(v_w2 140 rfl rfl), (v_w2 141 rfl rfl)⟩
set_option maxRecDepth 20000 in
theorem cal_X0_add : v_cal yX0_add cX0_add 5 (some .int) 3 := v_cal.mk (v_w2 146 rfl rfl) (v_w1 2 rfl rfl) (by decide +kernel)
set_option maxRecDepth 20000 in
theorem sel_X0_add : Cond.instanceMethod yX0_add ∈ v_T ∧ Cond.selects yX0_add.cls yX0_add yX0_add ∈ v_T := ⟨(v_w2 144 rfl rfl), (v_w2 145 rfl rfl)⟩
set_option maxRecDepth 20000 in
theorem cal_X3_shutOne : v_cal yX3_shutOne cX3_shutOne 3 (some .int) 1 := v_cal.mk (v_w2 150 rfl rfl) (v_w1 3 rfl rfl) (by decide +kernel)
set_option maxRecDepth 20000 in
theorem sel_X3_shutOne : Cond.instanceMethod yX3_shutOne ∈ v_T ∧ Cond.selects yX3_shutOne.cls yX3_shutOne yX3_shutOne ∈ v_T := ⟨(v_w2 148 rfl rfl), (v_w2 149 rfl rfl)⟩
set_option maxRecDepth 20000 in
theorem cal_X3_isOpen : v_cal yX3_isOpen cX3_isOpen 2 (some .boolean) 1 := v_cal.mk (v_w2 154 rfl rfl) (v_w1 3 rfl rfl) (by decide +kernel)
set_option maxRecDepth 20000 in
theorem sel_X3_isOpen : Cond.instanceMethod yX3_isOpen ∈ v_T ∧ Cond.selects yX3_isOpen.cls yX3_isOpen yX3_isOpen ∈ v_T := ⟨(v_w2 152 rfl rfl), (v_w2 153 rfl rfl)⟩
set_option maxRecDepth 20000 in
theorem cal_X9_accept : v_cal yX9_accept cX9_accept 2 (some .int) 1 := v_cal.mk (v_w2 158 rfl rfl) (v_w1 1 rfl rfl) (by decide +kernel)
set_option maxRecDepth 20000 in
theorem sel_X9_accept : Cond.instanceMethod yX9_accept ∈ v_T ∧ Cond.selects yX9_accept.cls yX9_accept yX9_accept ∈ v_T := ⟨(v_w2 157 rfl rfl), (v_w 1 (by decide +kernel) rfl)⟩
set_option maxRecDepth 20000 in
theorem cal_X9_watch : v_cal yX9_watch cX9_watch 4 (some .int) 3 := v_cal.mk (v_w2 162 rfl rfl) (v_w1 1 rfl rfl) (by decide +kernel)
set_option maxRecDepth 20000 in
theorem sel_X9_watch : Cond.instanceMethod yX9_watch ∈ v_T ∧ Cond.selects yX9_watch.cls yX9_watch yX9_watch ∈ v_T := ⟨(v_w2 160 rfl rfl), (v_w2 161 rfl rfl)⟩
set_option maxRecDepth 20000 in
theorem cal_X0_has : v_cal yX0_has cX0_has 3 (some .boolean) 1 := v_cal.mk (v_w2 166 rfl rfl) (v_w1 2 rfl rfl) (by decide +kernel)
set_option maxRecDepth 20000 in
theorem sel_X0_has : Cond.instanceMethod yX0_has ∈ v_T ∧ Cond.selects yX0_has.cls yX0_has yX0_has ∈ v_T := ⟨(v_w2 164 rfl rfl), (v_w2 165 rfl rfl)⟩
set_option maxRecDepth 20000 in
theorem cal_X0_setWatching : v_cal yX0_setWatching cX0_setWatching 5 (some .int) 3 := v_cal.mk (v_w2 171 rfl rfl) (v_w1 2 rfl rfl) (by decide +kernel)
set_option maxRecDepth 20000 in
theorem sel_X0_setWatching : Cond.instanceMethod yX0_setWatching ∈ v_T ∧ Cond.selects yX0_setWatching.cls yX0_setWatching yX0_setWatching ∈ v_T := ⟨(v_w2 169 rfl rfl), (v_w2 170 rfl rfl)⟩
set_option maxRecDepth 20000 in
theorem cal_X9_of : v_cal yX9_of cX9_of 4 (some .int) 2 := v_cal.mk (v_w2 176 rfl rfl) (v_w1 1 rfl rfl) (by decide +kernel)
set_option maxRecDepth 20000 in
theorem sel_X9_of : Cond.instanceMethod yX9_of ∈ v_T ∧ Cond.selects yX9_of.cls yX9_of yX9_of ∈ v_T := ⟨(v_w2 174 rfl rfl), (v_w2 175 rfl rfl)⟩
set_option maxRecDepth 20000 in
theorem cal_X1_ask : v_cal yX1_ask cX1_ask 6 (some .int) 3 := v_cal.mk (v_w2 181 rfl rfl) (v_w1 5 rfl rfl) (by decide +kernel)
set_option maxRecDepth 20000 in
theorem sel_X1_ask : Cond.instanceMethod yX1_ask ∈ v_T ∧ Cond.selects yX1_ask.cls yX1_ask yX1_ask ∈ v_T := ⟨(v_w2 179 rfl rfl), (v_w2 180 rfl rfl)⟩
set_option maxRecDepth 20000 in
theorem cal_X0_lawInForce : v_cal yX0_lawInForce cX0_lawInForce 1 (some (.object "HedgeCouncil$Text")) 0 := v_cal.mk (v_w2 186 rfl rfl) (v_w1 2 rfl rfl) (by decide +kernel)
set_option maxRecDepth 20000 in
theorem sel_X0_lawInForce : Cond.instanceMethod yX0_lawInForce ∈ v_T ∧ Cond.selects yX0_lawInForce.cls yX0_lawInForce yX0_lawInForce ∈ v_T := ⟨(v_w2 184 rfl rfl), (v_w2 185 rfl rfl)⟩
set_option maxRecDepth 20000 in
theorem cal_X0_lawAt : v_cal yX0_lawAt cX0_lawAt 2 (some (.object "HedgeCouncil$Text")) 1 := v_cal.mk (v_w2 190 rfl rfl) (v_w1 2 rfl rfl) (by decide +kernel)
set_option maxRecDepth 20000 in
theorem sel_X0_lawAt : Cond.instanceMethod yX0_lawAt ∈ v_T ∧ Cond.selects yX0_lawAt.cls yX0_lawAt yX0_lawAt ∈ v_T := ⟨(v_w2 188 rfl rfl), (v_w2 189 rfl rfl)⟩
set_option maxRecDepth 20000 in
theorem cal_X1_hear : v_cal yX1_hear cX1_hear 5 none 3 := v_cal.mk (v_w2 194 rfl rfl) (v_w1 5 rfl rfl) (by decide +kernel)
set_option maxRecDepth 20000 in
theorem sel_X1_hear : Cond.instanceMethod yX1_hear ∈ v_T ∧ Cond.selects yX1_hear.cls yX1_hear yX1_hear ∈ v_T := ⟨(v_w2 193 rfl rfl), (v_w 2 (by decide +kernel) rfl)⟩
set_option maxRecDepth 20000 in
theorem cal_J6_bitCount_0f7a4 : v_cal yJ6_bitCount_0f7a4 cJ6_bitCount_0f7a4 1 (some .int) 1 := v_cal.mk (v_w2 197 rfl rfl) (v_w1 12 rfl rfl) (by decide +kernel)
set_option maxRecDepth 20000 in
theorem sta_J6_bitCount_0f7a4 : Cond.static yJ6_bitCount_0f7a4 ∈ v_T := (v_w2 196 rfl rfl)
set_option maxRecDepth 20000 in
theorem cal_X3_openMany : v_cal yX3_openMany cX3_openMany 1 (some .int) 0 := v_cal.mk (v_w2 204 rfl rfl) (v_w1 3 rfl rfl) (by decide +kernel)
set_option maxRecDepth 20000 in
theorem sel_X3_openMany : Cond.instanceMethod yX3_openMany ∈ v_T ∧ Cond.selects yX3_openMany.cls yX3_openMany yX3_openMany ∈ v_T := ⟨(v_w2 202 rfl rfl), (v_w2 203 rfl rfl)⟩
set_option maxRecDepth 20000 in
theorem cal_X1_told : v_cal yX1_told cX1_told 7 (some .int) 3 := v_cal.mk (v_w2 209 rfl rfl) (v_w1 5 rfl rfl) (by decide +kernel)
set_option maxRecDepth 20000 in
theorem sel_X1_told : Cond.instanceMethod yX1_told ∈ v_T ∧ Cond.selects yX1_told.cls yX1_told yX1_told ∈ v_T := ⟨(v_w2 208 rfl rfl), (v_w 3 (by decide +kernel) rfl)⟩
set_option maxRecDepth 20000 in
theorem cal_X7_reckon : v_cal yX7_reckon cX7_reckon 9 (some .long) 2 := v_cal.mk (v_w2 213 rfl rfl) (v_w1 6 rfl rfl) (by decide +kernel)
set_option maxRecDepth 20000 in
theorem sel_X7_reckon : Cond.instanceMethod yX7_reckon ∈ v_T ∧ Cond.selects yX7_reckon.cls yX7_reckon yX7_reckon ∈ v_T := ⟨(v_w2 211 rfl rfl), (v_w2 212 rfl rfl)⟩
set_option maxRecDepth 20000 in
theorem cal_X7_join : v_cal yX7_join cX7_join 7 (some .long) 3 := v_cal.mk (v_w2 217 rfl rfl) (v_w1 6 rfl rfl) (by decide +kernel)
set_option maxRecDepth 20000 in
theorem sta_X7_join : Cond.static yX7_join ∈ v_T := (v_w2 216 rfl rfl)
set_option maxRecDepth 20000 in
theorem cal_J9_min_f86c9 : v_cal yJ9_min_f86c9 cJ9_min_f86c9 4 (some .long) 2 := v_cal.mk (v_w2 224 rfl rfl) (v_w1 13 rfl rfl) (by decide +kernel)
set_option maxRecDepth 20000 in
theorem sta_J9_min_f86c9 : Cond.static yJ9_min_f86c9 ∈ v_T := (v_w2 223 rfl rfl)
set_option maxRecDepth 20000 in
theorem cal_J9_max_f86c9 : v_cal yJ9_max_f86c9 cJ9_max_f86c9 4 (some .long) 2 := v_cal.mk (v_w2 227 rfl rfl) (v_w1 13 rfl rfl) (by decide +kernel)
set_option maxRecDepth 20000 in
theorem sta_J9_max_f86c9 : Cond.static yJ9_max_f86c9 ∈ v_T := (v_w2 226 rfl rfl)
set_option maxRecDepth 20000 in
theorem cal_X1_openBehind : v_cal yX1_openBehind cX1_openBehind 7 (some .int) 3 := v_cal.mk (v_w2 231 rfl rfl) (v_w1 5 rfl rfl) (by decide +kernel)
set_option maxRecDepth 20000 in
theorem sel_X1_openBehind : Cond.instanceMethod yX1_openBehind ∈ v_T ∧ Cond.selects yX1_openBehind.cls yX1_openBehind yX1_openBehind ∈ v_T := ⟨(v_w2 229 rfl rfl), (v_w2 230 rfl rfl)⟩
set_option maxRecDepth 20000 in
theorem cal_X1_begin : v_cal yX1_begin cX1_begin 3 none 2 := v_cal.mk (v_w2 235 rfl rfl) (v_w1 5 rfl rfl) (by decide +kernel)
set_option maxRecDepth 20000 in
theorem sel_X1_begin : Cond.instanceMethod yX1_begin ∈ v_T ∧ Cond.selects yX1_begin.cls yX1_begin yX1_begin ∈ v_T := ⟨(v_w2 234 rfl rfl), (v_w 4 (by decide +kernel) rfl)⟩
set_option maxRecDepth 20000 in
theorem cal_X3_copyFrom : v_cal yX3_copyFrom cX3_copyFrom 2 none 1 := v_cal.mk (v_w2 239 rfl rfl) (v_w1 3 rfl rfl) (by decide +kernel)
set_option maxRecDepth 20000 in
theorem sel_X3_copyFrom : Cond.instanceMethod yX3_copyFrom ∈ v_T ∧ Cond.selects yX3_copyFrom.cls yX3_copyFrom yX3_copyFrom ∈ v_T := ⟨(v_w2 237 rfl rfl), (v_w2 238 rfl rfl)⟩
set_option maxRecDepth 20000 in
theorem cal_X1_passMinute : v_cal yX1_passMinute cX1_passMinute 10 (some .boolean) 4 := v_cal.mk (v_w3 6 rfl rfl) (v_w1 5 rfl rfl) (by decide +kernel)
set_option maxRecDepth 20000 in
theorem sel_X1_passMinute : Cond.instanceMethod yX1_passMinute ∈ v_T ∧ Cond.selects yX1_passMinute.cls yX1_passMinute yX1_passMinute ∈ v_T := ⟨(v_w3 5 rfl rfl), (v_w 5 (by decide +kernel) rfl)⟩
set_option maxRecDepth 20000 in
theorem cal_J9_min_7cf53 : v_cal yJ9_min_7cf53 cJ9_min_7cf53 2 (some .int) 2 := v_cal.mk (v_w3 10 rfl rfl) (v_w1 13 rfl rfl) (by decide +kernel)
set_option maxRecDepth 20000 in
theorem sta_J9_min_7cf53 : Cond.static yJ9_min_7cf53 ∈ v_T := (v_w3 9 rfl rfl)
set_option maxRecDepth 20000 in
theorem cal_X9_terms : v_cal yX9_terms cX9_terms 4 (some .int) 2 := v_cal.mk (v_w3 14 rfl rfl) (v_w1 1 rfl rfl) (by decide +kernel)
set_option maxRecDepth 20000 in
theorem sel_X9_terms : Cond.instanceMethod yX9_terms ∈ v_T ∧ Cond.selects yX9_terms.cls yX9_terms yX9_terms ∈ v_T := ⟨(v_w3 12 rfl rfl), (v_w3 13 rfl rfl)⟩
set_option maxRecDepth 20000 in
theorem cal_X0_term : v_cal yX0_term cX0_term 2 (some .int) 1 := v_cal.mk (v_w3 20 rfl rfl) (v_w1 2 rfl rfl) (by decide +kernel)
set_option maxRecDepth 20000 in
theorem sel_X0_term : Cond.instanceMethod yX0_term ∈ v_T ∧ Cond.selects yX0_term.cls yX0_term yX0_term ∈ v_T := ⟨(v_w3 18 rfl rfl), (v_w3 19 rfl rfl)⟩
set_option maxRecDepth 20000 in
theorem cal_X0_setTerm : v_cal yX0_setTerm cX0_setTerm 3 none 2 := v_cal.mk (v_w3 24 rfl rfl) (v_w1 2 rfl rfl) (by decide +kernel)
set_option maxRecDepth 20000 in
theorem sel_X0_setTerm : Cond.instanceMethod yX0_setTerm ∈ v_T ∧ Cond.selects yX0_setTerm.cls yX0_setTerm yX0_setTerm ∈ v_T := ⟨(v_w3 22 rfl rfl), (v_w3 23 rfl rfl)⟩
set_option maxRecDepth 20000 in
theorem cal_X9_feed : v_cal yX9_feed cX9_feed 6 (some .int) 5 := v_cal.mk (v_w3 28 rfl rfl) (v_w1 1 rfl rfl) (by decide +kernel)
set_option maxRecDepth 20000 in
theorem sel_X9_feed : Cond.instanceMethod yX9_feed ∈ v_T ∧ Cond.selects yX9_feed.cls yX9_feed yX9_feed ∈ v_T := ⟨(v_w3 26 rfl rfl), (v_w3 27 rfl rfl)⟩
set_option maxRecDepth 20000 in
theorem cal_X9_putFour : v_cal yX9_putFour cX9_putFour 3 none 1 := v_cal.mk (v_w3 32 rfl rfl) (v_w1 1 rfl rfl) (by decide +kernel)
set_option maxRecDepth 20000 in
theorem sel_X9_putFour : Cond.instanceMethod yX9_putFour ∈ v_T ∧ Cond.selects yX9_putFour.cls yX9_putFour yX9_putFour ∈ v_T := ⟨(v_w3 31 rfl rfl), (v_w 6 (by decide +kernel) rfl)⟩
set_option maxRecDepth 20000 in
theorem cal_X9_end : v_cal yX9_end cX9_end 2 (some .int) 1 := v_cal.mk (v_w3 36 rfl rfl) (v_w1 1 rfl rfl) (by decide +kernel)
set_option maxRecDepth 20000 in
theorem sel_X9_end : Cond.instanceMethod yX9_end ∈ v_T ∧ Cond.selects yX9_end.cls yX9_end yX9_end ∈ v_T := ⟨(v_w3 34 rfl rfl), (v_w3 35 rfl rfl)⟩
set_option maxRecDepth 20000 in
theorem cal_X9_row : v_cal yX9_row cX9_row 4 (some .int) 0 := v_cal.mk (v_w3 40 rfl rfl) (v_w1 1 rfl rfl) (by decide +kernel)
set_option maxRecDepth 20000 in
theorem sel_X9_row : Cond.instanceMethod yX9_row ∈ v_T ∧ Cond.selects yX9_row.cls yX9_row yX9_row ∈ v_T := ⟨(v_w3 38 rfl rfl), (v_w3 39 rfl rfl)⟩
set_option maxRecDepth 20000 in
theorem cal_X9_addFromTape : v_cal yX9_addFromTape cX9_addFromTape 5 (some .boolean) 1 := v_cal.mk (v_w3 44 rfl rfl) (v_w1 1 rfl rfl) (by decide +kernel)
set_option maxRecDepth 20000 in
theorem sel_X9_addFromTape : Cond.instanceMethod yX9_addFromTape ∈ v_T ∧ Cond.selects yX9_addFromTape.cls yX9_addFromTape yX9_addFromTape ∈ v_T := ⟨(v_w3 43 rfl rfl), (v_w 7 (by decide +kernel) rfl)⟩
set_option maxRecDepth 20000 in
theorem cal_X0_everyone : v_cal yX0_everyone cX0_everyone 1 (some .int) 0 := v_cal.mk (v_w3 48 rfl rfl) (v_w1 2 rfl rfl) (by decide +kernel)
set_option maxRecDepth 20000 in
theorem sel_X0_everyone : Cond.instanceMethod yX0_everyone ∈ v_T ∧ Cond.selects yX0_everyone.cls yX0_everyone yX0_everyone ∈ v_T := ⟨(v_w3 46 rfl rfl), (v_w3 47 rfl rfl)⟩
set_option maxRecDepth 20000 in
theorem cal_X9_burrs : v_cal yX9_burrs cX9_burrs 1 (some .int) 0 := v_cal.mk (v_w3 52 rfl rfl) (v_w1 1 rfl rfl) (by decide +kernel)
set_option maxRecDepth 20000 in
theorem sel_X9_burrs : Cond.instanceMethod yX9_burrs ∈ v_T ∧ Cond.selects yX9_burrs.cls yX9_burrs yX9_burrs ∈ v_T := ⟨(v_w3 50 rfl rfl), (v_w3 51 rfl rfl)⟩
set_option maxRecDepth 20000 in
theorem cal_X9_law : v_cal yX9_law cX9_law 1 (some .int) 0 := v_cal.mk (v_w3 56 rfl rfl) (v_w1 1 rfl rfl) (by decide +kernel)
set_option maxRecDepth 20000 in
theorem sel_X9_law : Cond.instanceMethod yX9_law ∈ v_T ∧ Cond.selects yX9_law.cls yX9_law yX9_law ∈ v_T := ⟨(v_w3 54 rfl rfl), (v_w3 55 rfl rfl)⟩
set_option maxRecDepth 20000 in
theorem cal_X6_read : v_cal yX6_read cX6_read 7 (some .int) 3 := v_cal.mk (v_w3 60 rfl rfl) (v_w1 8 rfl rfl) (by decide +kernel)
set_option maxRecDepth 20000 in
theorem sel_X6_read : Cond.instanceMethod yX6_read ∈ v_T ∧ Cond.selects yX6_read.cls yX6_read yX6_read ∈ v_T := ⟨(v_w3 58 rfl rfl), (v_w3 59 rfl rfl)⟩
set_option maxRecDepth 20000 in
theorem cal_J9_max_7cf53 : v_cal yJ9_max_7cf53 cJ9_max_7cf53 2 (some .int) 2 := v_cal.mk (v_w3 64 rfl rfl) (v_w1 13 rfl rfl) (by decide +kernel)
set_option maxRecDepth 20000 in
theorem sta_J9_max_7cf53 : Cond.static yJ9_max_7cf53 ∈ v_T := (v_w3 63 rfl rfl)
set_option maxRecDepth 20000 in
theorem cal_X6_splitTokens : v_cal yX6_splitTokens cX6_splitTokens 5 none 2 := v_cal.mk (v_w3 68 rfl rfl) (v_w1 8 rfl rfl) (by decide +kernel)
set_option maxRecDepth 20000 in
theorem sel_X6_splitTokens : Cond.instanceMethod yX6_splitTokens ∈ v_T ∧ Cond.selects yX6_splitTokens.cls yX6_splitTokens yX6_splitTokens ∈ v_T := ⟨(v_w3 67 rfl rfl), (v_w 8 (by decide +kernel) rfl)⟩
set_option maxRecDepth 20000 in
theorem cal_X6_isLetter : v_cal yX6_isLetter cX6_isLetter 1 (some .boolean) 1 := v_cal.mk (v_w3 71 rfl rfl) (v_w1 8 rfl rfl) (by decide +kernel)
set_option maxRecDepth 20000 in
theorem sta_X6_isLetter : Cond.static yX6_isLetter ∈ v_T := (v_w3 70 rfl rfl)
set_option maxRecDepth 20000 in
theorem cal_X6_wordToken : v_cal yX6_wordToken cX6_wordToken 6 (some .int) 3 := v_cal.mk (v_w3 74 rfl rfl) (v_w1 8 rfl rfl) (by decide +kernel)
set_option maxRecDepth 20000 in
theorem sta_X6_wordToken : Cond.static yX6_wordToken ∈ v_T := (v_w3 73 rfl rfl)
set_option maxRecDepth 20000 in
theorem cal_J0_length_8abf5 : v_cal yJ0_length_8abf5 cJ0_length_8abf5 1 (some .int) 0 := v_cal.mk (v_w3 79 rfl rfl) (v_w1 15 rfl rfl) (by decide +kernel)
set_option maxRecDepth 20000 in
theorem sel_J0_length_8abf5 : Cond.instanceMethod yJ0_length_8abf5 ∈ v_T ∧ Cond.selects yJ0_length_8abf5.cls yJ0_length_8abf5 yJ0_length_8abf5 ∈ v_T := ⟨(v_w3 77 rfl rfl), (v_w3 78 rfl rfl)⟩
set_option maxRecDepth 20000 in
theorem cal_J0_coder_7d493 : v_cal yJ0_coder_7d493 cJ0_coder_7d493 1 (some .byte) 0 := v_cal.mk (v_w3 83 rfl rfl) (v_w1 15 rfl rfl) (by decide +kernel)
set_option maxRecDepth 20000 in
theorem sel_J0_coder_7d493 : Cond.instanceMethod yJ0_coder_7d493 ∈ v_T ∧ Cond.selects yJ0_coder_7d493.cls yJ0_coder_7d493 yJ0_coder_7d493 ∈ v_T := ⟨(v_w3 81 rfl rfl), (v_w3 82 rfl rfl)⟩
set_option maxRecDepth 20000 in
theorem cal_J0_charAt_5068e : v_cal yJ0_charAt_5068e cJ0_charAt_5068e 2 (some .char) 1 := v_cal.mk (v_w3 89 rfl rfl) (v_w1 15 rfl rfl) (by decide +kernel)
set_option maxRecDepth 20000 in
theorem sel_J0_charAt_5068e : Cond.instanceMethod yJ0_charAt_5068e ∈ v_T ∧ Cond.selects yJ0_charAt_5068e.cls yJ0_charAt_5068e yJ0_charAt_5068e ∈ v_T := ⟨(v_w3 87 rfl rfl), (v_w3 88 rfl rfl)⟩
set_option maxRecDepth 20000 in
theorem cal_J0_isLatin1_aae02 : v_cal yJ0_isLatin1_aae02 cJ0_isLatin1_aae02 1 (some .boolean) 0 := v_cal.mk (v_w3 93 rfl rfl) (v_w1 15 rfl rfl) (by decide +kernel)
set_option maxRecDepth 20000 in
theorem sel_J0_isLatin1_aae02 : Cond.instanceMethod yJ0_isLatin1_aae02 ∈ v_T ∧ Cond.selects yJ0_isLatin1_aae02.cls yJ0_isLatin1_aae02 yJ0_isLatin1_aae02 ∈ v_T := ⟨(v_w3 91 rfl rfl), (v_w3 92 rfl rfl)⟩
set_option maxRecDepth 20000 in
theorem cal_J1_charAt_3b067 : v_cal yJ1_charAt_3b067 cJ1_charAt_3b067 2 (some .char) 2 := v_cal.mk (v_w3 96 rfl rfl) (v_w1 16 rfl rfl) (by decide +kernel)
set_option maxRecDepth 20000 in
theorem sta_J1_charAt_3b067 : Cond.static yJ1_charAt_3b067 ∈ v_T := (v_w3 95 rfl rfl)
set_option maxRecDepth 20000 in
theorem cal_J0_checkIndex_df160 : v_cal yJ0_checkIndex_df160 cJ0_checkIndex_df160 2 none 2 := v_cal.mk (v_w3 99 rfl rfl) (v_w1 15 rfl rfl) (by decide +kernel)
set_option maxRecDepth 20000 in
theorem sta_J0_checkIndex_df160 : Cond.static yJ0_checkIndex_df160 ∈ v_T := (v_w3 98 rfl rfl)
set_option maxRecDepth 20000 in
theorem cal_J3_checkIndex_8e157 : v_cal yJ3_checkIndex_8e157 cJ3_checkIndex_8e157 3 (some .int) 3 := v_cal.mk (v_w3 104 rfl rfl) (v_w1 17 rfl rfl) (by decide +kernel)
set_option maxRecDepth 20000 in
theorem sta_J3_checkIndex_8e157 : Cond.static yJ3_checkIndex_8e157 ∈ v_T := (v_w3 103 rfl rfl)
set_option maxRecDepth 20000 in
theorem cal_J2_charAt_3b067 : v_cal yJ2_charAt_3b067 cJ2_charAt_3b067 2 (some .char) 2 := v_cal.mk (v_w3 107 rfl rfl) (v_w1 18 rfl rfl) (by decide +kernel)
set_option maxRecDepth 20000 in
theorem sta_J2_charAt_3b067 : Cond.static yJ2_charAt_3b067 ∈ v_T := (v_w3 106 rfl rfl)
set_option maxRecDepth 20000 in
theorem cal_J2_checkIndex_2214a : v_cal yJ2_checkIndex_2214a cJ2_checkIndex_2214a 2 none 2 := v_cal.mk (v_w3 110 rfl rfl) (v_w1 18 rfl rfl) (by decide +kernel)
set_option maxRecDepth 20000 in
theorem sta_J2_checkIndex_2214a : Cond.static yJ2_checkIndex_2214a ∈ v_T := (v_w3 109 rfl rfl)
set_option maxRecDepth 20000 in
theorem cal_J2_length_9d52b : v_cal yJ2_length_9d52b cJ2_length_9d52b 1 (some .int) 1 := v_cal.mk (v_w3 113 rfl rfl) (v_w1 18 rfl rfl) (by decide +kernel)
set_option maxRecDepth 20000 in
theorem sta_J2_length_9d52b : Cond.static yJ2_length_9d52b ∈ v_T := (v_w3 112 rfl rfl)
set_option maxRecDepth 20000 in
theorem cal_J2_getChar_3b067 : v_cal yJ2_getChar_3b067 cJ2_getChar_3b067 2 (some .char) 2 := v_cal.mk (v_w3 117 rfl rfl) (v_w1 18 rfl rfl) (by decide +kernel)
set_option maxRecDepth 20000 in
theorem sta_J2_getChar_3b067 : Cond.static yJ2_getChar_3b067 ∈ v_T := (v_w3 116 rfl rfl)
set_option maxRecDepth 20000 in
theorem cal_X6_isSpelledAt : v_cal yX6_isSpelledAt cX6_isSpelledAt 5 (some .boolean) 4 := v_cal.mk (v_w3 126 rfl rfl) (v_w1 8 rfl rfl) (by decide +kernel)
set_option maxRecDepth 20000 in
theorem sta_X6_isSpelledAt : Cond.static yX6_isSpelledAt ∈ v_T := (v_w3 125 rfl rfl)
set_option maxRecDepth 20000 in
theorem cal_X6_addToken : v_cal yX6_addToken cX6_addToken 3 none 2 := v_cal.mk (v_w3 130 rfl rfl) (v_w1 8 rfl rfl) (by decide +kernel)
set_option maxRecDepth 20000 in
theorem sel_X6_addToken : Cond.instanceMethod yX6_addToken ∈ v_T ∧ Cond.selects yX6_addToken.cls yX6_addToken yX6_addToken ∈ v_T := ⟨(v_w3 129 rfl rfl), (v_w 9 (by decide +kernel) rfl)⟩
set_option maxRecDepth 20000 in
theorem cal_X6_isDigit : v_cal yX6_isDigit cX6_isDigit 1 (some .boolean) 1 := v_cal.mk (v_w3 133 rfl rfl) (v_w1 8 rfl rfl) (by decide +kernel)
set_option maxRecDepth 20000 in
theorem sta_X6_isDigit : Cond.static yX6_isDigit ∈ v_T := (v_w3 132 rfl rfl)
set_option maxRecDepth 20000 in
theorem cal_X6_numberToken : v_cal yX6_numberToken cX6_numberToken 5 (some .int) 3 := v_cal.mk (v_w3 136 rfl rfl) (v_w1 8 rfl rfl) (by decide +kernel)
set_option maxRecDepth 20000 in
theorem sta_X6_numberToken : Cond.static yX6_numberToken ∈ v_T := (v_w3 135 rfl rfl)
set_option maxRecDepth 20000 in
theorem cal_X8_clear : v_cal yX8_clear cX8_clear 1 none 0 := v_cal.mk (v_w3 140 rfl rfl) (v_w1 9 rfl rfl) (by decide +kernel)
set_option maxRecDepth 20000 in
theorem sel_X8_clear : Cond.instanceMethod yX8_clear ∈ v_T ∧ Cond.selects yX8_clear.cls yX8_clear yX8_clear ∈ v_T := ⟨(v_w3 138 rfl rfl), (v_w3 139 rfl rfl)⟩
set_option maxRecDepth 20000 in
theorem cal_X6_readClause : v_cal yX6_readClause cX6_readClause 6 (some .boolean) 0 := v_cal.mk (v_w3 144 rfl rfl) (v_w1 8 rfl rfl) (by decide +kernel)
set_option maxRecDepth 20000 in
theorem sel_X6_readClause : Cond.instanceMethod yX6_readClause ∈ v_T ∧ Cond.selects yX6_readClause.cls yX6_readClause yX6_readClause ∈ v_T := ⟨(v_w3 143 rfl rfl), (v_w 10 (by decide +kernel) rfl)⟩
set_option maxRecDepth 20000 in
theorem cal_X8_addClause : v_cal yX8_addClause cX8_addClause 2 (some .boolean) 1 := v_cal.mk (v_w3 148 rfl rfl) (v_w1 9 rfl rfl) (by decide +kernel)
set_option maxRecDepth 20000 in
theorem sel_X8_addClause : Cond.instanceMethod yX8_addClause ∈ v_T ∧ Cond.selects yX8_addClause.cls yX8_addClause yX8_addClause ∈ v_T := ⟨(v_w3 146 rfl rfl), (v_w3 147 rfl rfl)⟩
set_option maxRecDepth 20000 in
theorem cal_X6_faultHere : v_cal yX6_faultHere cX6_faultHere 1 (some .boolean) 0 := v_cal.mk (v_w3 152 rfl rfl) (v_w1 8 rfl rfl) (by decide +kernel)
set_option maxRecDepth 20000 in
theorem sel_X6_faultHere : Cond.instanceMethod yX6_faultHere ∈ v_T ∧ Cond.selects yX6_faultHere.cls yX6_faultHere yX6_faultHere ∈ v_T := ⟨(v_w3 151 rfl rfl), (v_w 11 (by decide +kernel) rfl)⟩
set_option maxRecDepth 20000 in
theorem cal_X6_nextToken : v_cal yX6_nextToken cX6_nextToken 1 none 0 := v_cal.mk (v_w3 156 rfl rfl) (v_w1 8 rfl rfl) (by decide +kernel)
set_option maxRecDepth 20000 in
theorem sel_X6_nextToken : Cond.instanceMethod yX6_nextToken ∈ v_T ∧ Cond.selects yX6_nextToken.cls yX6_nextToken yX6_nextToken ∈ v_T := ⟨(v_w3 155 rfl rfl), (v_w 12 (by decide +kernel) rfl)⟩
set_option maxRecDepth 20000 in
theorem cal_X6_readOrder : v_cal yX6_readOrder cX6_readOrder 5 (some .boolean) 2 := v_cal.mk (v_w3 160 rfl rfl) (v_w1 8 rfl rfl) (by decide +kernel)
set_option maxRecDepth 20000 in
theorem sel_X6_readOrder : Cond.instanceMethod yX6_readOrder ∈ v_T ∧ Cond.selects yX6_readOrder.cls yX6_readOrder yX6_readOrder ∈ v_T := ⟨(v_w3 159 rfl rfl), (v_w 13 (by decide +kernel) rfl)⟩
set_option maxRecDepth 20000 in
theorem cal_X6_readSum : v_cal yX6_readSum cX6_readSum 4 (some .boolean) 0 := v_cal.mk (v_w3 164 rfl rfl) (v_w1 8 rfl rfl) (by decide +kernel)
set_option maxRecDepth 20000 in
theorem sel_X6_readSum : Cond.instanceMethod yX6_readSum ∈ v_T ∧ Cond.selects yX6_readSum.cls yX6_readSum yX6_readSum ∈ v_T := ⟨(v_w3 163 rfl rfl), (v_w 14 (by decide +kernel) rfl)⟩
set_option maxRecDepth 20000 in
theorem cal_X6_readTerm : v_cal yX6_readTerm cX6_readTerm 4 (some .boolean) 0 := v_cal.mk (v_w3 168 rfl rfl) (v_w1 8 rfl rfl) (by decide +kernel)
set_option maxRecDepth 20000 in
theorem sel_X6_readTerm : Cond.instanceMethod yX6_readTerm ∈ v_T ∧ Cond.selects yX6_readTerm.cls yX6_readTerm yX6_readTerm ∈ v_T := ⟨(v_w3 167 rfl rfl), (v_w 15 (by decide +kernel) rfl)⟩
set_option maxRecDepth 20000 in
theorem cal_X6_readPart : v_cal yX6_readPart cX6_readPart 4 (some .boolean) 0 := v_cal.mk (v_w3 172 rfl rfl) (v_w1 8 rfl rfl) (by decide +kernel)
set_option maxRecDepth 20000 in
theorem sel_X6_readPart : Cond.instanceMethod yX6_readPart ∈ v_T ∧ Cond.selects yX6_readPart.cls yX6_readPart yX6_readPart ∈ v_T := ⟨(v_w3 171 rfl rfl), (v_w 16 (by decide +kernel) rfl)⟩
set_option maxRecDepth 20000 in
theorem cal_X6_readBrackets : v_cal yX6_readBrackets cX6_readBrackets 2 (some .boolean) 1 := v_cal.mk (v_w3 176 rfl rfl) (v_w1 8 rfl rfl) (by decide +kernel)
set_option maxRecDepth 20000 in
theorem sel_X6_readBrackets : Cond.instanceMethod yX6_readBrackets ∈ v_T ∧ Cond.selects yX6_readBrackets.cls yX6_readBrackets yX6_readBrackets ∈ v_T := ⟨(v_w3 175 rfl rfl), (v_w 17 (by decide +kernel) rfl)⟩
set_option maxRecDepth 20000 in
theorem cal_X6_readTest : v_cal yX6_readTest cX6_readTest 4 (some .boolean) 0 := v_cal.mk (v_w3 180 rfl rfl) (v_w1 8 rfl rfl) (by decide +kernel)
set_option maxRecDepth 20000 in
theorem sel_X6_readTest : Cond.instanceMethod yX6_readTest ∈ v_T ∧ Cond.selects yX6_readTest.cls yX6_readTest yX6_readTest ∈ v_T := ⟨(v_w3 179 rfl rfl), (v_w 18 (by decide +kernel) rfl)⟩
set_option maxRecDepth 20000 in
theorem cal_X6_readBoth : v_cal yX6_readBoth cX6_readBoth 4 (some .boolean) 0 := v_cal.mk (v_w3 184 rfl rfl) (v_w1 8 rfl rfl) (by decide +kernel)
set_option maxRecDepth 20000 in
theorem sel_X6_readBoth : Cond.instanceMethod yX6_readBoth ∈ v_T ∧ Cond.selects yX6_readBoth.cls yX6_readBoth yX6_readBoth ∈ v_T := ⟨(v_w3 183 rfl rfl), (v_w 19 (by decide +kernel) rfl)⟩
set_option maxRecDepth 20000 in
theorem cal_X6_readPlain : v_cal yX6_readPlain cX6_readPlain 3 (some .boolean) 0 := v_cal.mk (v_w3 188 rfl rfl) (v_w1 8 rfl rfl) (by decide +kernel)
set_option maxRecDepth 20000 in
theorem sel_X6_readPlain : Cond.instanceMethod yX6_readPlain ∈ v_T ∧ Cond.selects yX6_readPlain.cls yX6_readPlain yX6_readPlain ∈ v_T := ⟨(v_w3 187 rfl rfl), (v_w 20 (by decide +kernel) rfl)⟩
set_option maxRecDepth 20000 in
theorem cal_X6_take : v_cal yX6_take cX6_take 2 (some .boolean) 1 := v_cal.mk (v_w3 192 rfl rfl) (v_w1 8 rfl rfl) (by decide +kernel)
set_option maxRecDepth 20000 in
theorem sel_X6_take : Cond.instanceMethod yX6_take ∈ v_T ∧ Cond.selects yX6_take.cls yX6_take yX6_take ∈ v_T := ⟨(v_w3 191 rfl rfl), (v_w 21 (by decide +kernel) rfl)⟩
set_option maxRecDepth 20000 in
theorem cal_X6_readComparison : v_cal yX6_readComparison cX6_readComparison 3 (some .boolean) 0 := v_cal.mk (v_w3 196 rfl rfl) (v_w1 8 rfl rfl) (by decide +kernel)
set_option maxRecDepth 20000 in
theorem sel_X6_readComparison : Cond.instanceMethod yX6_readComparison ∈ v_T ∧ Cond.selects yX6_readComparison.cls yX6_readComparison yX6_readComparison ∈ v_T := ⟨(v_w3 195 rfl rfl), (v_w 22 (by decide +kernel) rfl)⟩
set_option maxRecDepth 20000 in
theorem cal_X8_addStep : v_cal yX8_addStep cX8_addStep 4 (some .int) 2 := v_cal.mk (v_w3 200 rfl rfl) (v_w1 9 rfl rfl) (by decide +kernel)
set_option maxRecDepth 20000 in
theorem sel_X8_addStep : Cond.instanceMethod yX8_addStep ∈ v_T ∧ Cond.selects yX8_addStep.cls yX8_addStep yX8_addStep ∈ v_T := ⟨(v_w3 198 rfl rfl), (v_w3 199 rfl rfl)⟩
set_option maxRecDepth 20000 in
theorem cal_X8_aimHere : v_cal yX8_aimHere cX8_aimHere 2 none 1 := v_cal.mk (v_w3 204 rfl rfl) (v_w1 9 rfl rfl) (by decide +kernel)
set_option maxRecDepth 20000 in
theorem sel_X8_aimHere : Cond.instanceMethod yX8_aimHere ∈ v_T ∧ Cond.selects yX8_aimHere.cls yX8_aimHere yX8_aimHere ∈ v_T := ⟨(v_w3 202 rfl rfl), (v_w3 203 rfl rfl)⟩
set_option maxRecDepth 20000 in
theorem cal_X6_numberAtHand : v_cal yX6_numberAtHand cX6_numberAtHand 2 (some .int) 1 := v_cal.mk (v_w3 208 rfl rfl) (v_w1 8 rfl rfl) (by decide +kernel)
set_option maxRecDepth 20000 in
theorem sel_X6_numberAtHand : Cond.instanceMethod yX6_numberAtHand ∈ v_T ∧ Cond.selects yX6_numberAtHand.cls yX6_numberAtHand yX6_numberAtHand ∈ v_T := ⟨(v_w3 207 rfl rfl), (v_w 23 (by decide +kernel) rfl)⟩
set_option maxRecDepth 20000 in
theorem cal_X6_isOrderWord : v_cal yX6_isOrderWord cX6_isOrderWord 1 (some .boolean) 1 := v_cal.mk (v_w3 211 rfl rfl) (v_w1 8 rfl rfl) (by decide +kernel)
set_option maxRecDepth 20000 in
theorem sta_X6_isOrderWord : Cond.static yX6_isOrderWord ∈ v_T := (v_w3 210 rfl rfl)
set_option maxRecDepth 20000 in
theorem cal_X6_firstOf : v_cal yX6_firstOf cX6_firstOf 1 (some .int) 1 := v_cal.mk (v_w3 214 rfl rfl) (v_w1 8 rfl rfl) (by decide +kernel)
set_option maxRecDepth 20000 in
theorem sta_X6_firstOf : Cond.static yX6_firstOf ∈ v_T := (v_w3 213 rfl rfl)
set_option maxRecDepth 20000 in
theorem cal_X6_readOne : v_cal yX6_readOne cX6_readOne 3 (some .boolean) 1 := v_cal.mk (v_w3 218 rfl rfl) (v_w1 8 rfl rfl) (by decide +kernel)
set_option maxRecDepth 20000 in
theorem sel_X6_readOne : Cond.instanceMethod yX6_readOne ∈ v_T ∧ Cond.selects yX6_readOne.cls yX6_readOne yX6_readOne ∈ v_T := ⟨(v_w3 217 rfl rfl), (v_w 24 (by decide +kernel) rfl)⟩
set_option maxRecDepth 20000 in
theorem cal_X6_readLaw : v_cal yX6_readLaw cX6_readLaw 4 (some .boolean) 2 := v_cal.mk (v_w3 222 rfl rfl) (v_w1 8 rfl rfl) (by decide +kernel)
set_option maxRecDepth 20000 in
theorem sel_X6_readLaw : Cond.instanceMethod yX6_readLaw ∈ v_T ∧ Cond.selects yX6_readLaw.cls yX6_readLaw yX6_readLaw ∈ v_T := ⟨(v_w3 221 rfl rfl), (v_w 25 (by decide +kernel) rfl)⟩
set_option maxRecDepth 20000 in
theorem cal_X8_trimmed : v_cal yX8_trimmed cX8_trimmed 4 (some (.object "HedgeCouncil$Text")) 0 := v_cal.mk (v_w3 226 rfl rfl) (v_w1 9 rfl rfl) (by decide +kernel)
set_option maxRecDepth 20000 in
theorem sel_X8_trimmed : Cond.instanceMethod yX8_trimmed ∈ v_T ∧ Cond.selects yX8_trimmed.cls yX8_trimmed yX8_trimmed ∈ v_T := ⟨(v_w3 224 rfl rfl), (v_w3 225 rfl rfl)⟩
set_option maxRecDepth 20000 in
theorem cal_X0_addLaw : v_cal yX0_addLaw cX0_addLaw 3 (some .int) 1 := v_cal.mk (v_w3 235 rfl rfl) (v_w1 2 rfl rfl) (by decide +kernel)
set_option maxRecDepth 20000 in
theorem sel_X0_addLaw : Cond.instanceMethod yX0_addLaw ∈ v_T ∧ Cond.selects yX0_addLaw.cls yX0_addLaw yX0_addLaw ∈ v_T := ⟨(v_w3 233 rfl rfl), (v_w3 234 rfl rfl)⟩
set_option maxRecDepth 20000 in
theorem cal_X9_orders : v_cal yX9_orders cX9_orders 1 (some .int) 0 := v_cal.mk (v_w4 0 rfl rfl) (v_w1 1 rfl rfl) (by decide +kernel)
set_option maxRecDepth 20000 in
theorem sel_X9_orders : Cond.instanceMethod yX9_orders ∈ v_T ∧ Cond.selects yX9_orders.cls yX9_orders yX9_orders ∈ v_T := ⟨(v_w3 238 rfl rfl), (v_w3 239 rfl rfl)⟩
set_option maxRecDepth 20000 in
theorem cal_X2_runAll : v_cal yX2_runAll cX2_runAll 8 (some .int) 5 := v_cal.mk (v_w4 5 rfl rfl) (v_w1 10 rfl rfl) (by decide +kernel)
set_option maxRecDepth 20000 in
theorem sel_X2_runAll : Cond.instanceMethod yX2_runAll ∈ v_T ∧ Cond.selects yX2_runAll.cls yX2_runAll yX2_runAll ∈ v_T := ⟨(v_w4 3 rfl rfl), (v_w4 4 rfl rfl)⟩
set_option maxRecDepth 20000 in
theorem cal_X2_runOnce : v_cal yX2_runOnce cX2_runOnce 13 (some .boolean) 6 := v_cal.mk (v_w4 9 rfl rfl) (v_w1 10 rfl rfl) (by decide +kernel)
set_option maxRecDepth 20000 in
theorem sel_X2_runOnce : Cond.instanceMethod yX2_runOnce ∈ v_T ∧ Cond.selects yX2_runOnce.cls yX2_runOnce yX2_runOnce ∈ v_T := ⟨(v_w4 8 rfl rfl), (v_w 26 (by decide +kernel) rfl)⟩
set_option maxRecDepth 20000 in
theorem cal_X2_hear : v_cal yX2_hear cX2_hear 6 none 2 := v_cal.mk (v_w4 13 rfl rfl) (v_w1 10 rfl rfl) (by decide +kernel)
set_option maxRecDepth 20000 in
theorem sel_X2_hear : Cond.instanceMethod yX2_hear ∈ v_T ∧ Cond.selects yX2_hear.cls yX2_hear yX2_hear ∈ v_T := ⟨(v_w4 12 rfl rfl), (v_w 27 (by decide +kernel) rfl)⟩
set_option maxRecDepth 20000 in
theorem cal_X2_sumAt : v_cal yX2_sumAt cX2_sumAt 3 (some .long) 2 := v_cal.mk (v_w4 20 rfl rfl) (v_w1 10 rfl rfl) (by decide +kernel)
set_option maxRecDepth 20000 in
theorem sel_X2_sumAt : Cond.instanceMethod yX2_sumAt ∈ v_T ∧ Cond.selects yX2_sumAt.cls yX2_sumAt yX2_sumAt ∈ v_T := ⟨(v_w4 19 rfl rfl), (v_w 28 (by decide +kernel) rfl)⟩
set_option maxRecDepth 20000 in
theorem cal_X0_whyNot : v_cal yX0_whyNot cX0_whyNot 8 (some .int) 4 := v_cal.mk (v_w4 25 rfl rfl) (v_w1 2 rfl rfl) (by decide +kernel)
set_option maxRecDepth 20000 in
theorem sel_X0_whyNot : Cond.instanceMethod yX0_whyNot ∈ v_T ∧ Cond.selects yX0_whyNot.cls yX0_whyNot yX0_whyNot ∈ v_T := ⟨(v_w4 23 rfl rfl), (v_w4 24 rfl rfl)⟩
set_option maxRecDepth 20000 in
theorem cal_X4_keep : v_cal yX4_keep cX4_keep 4 none 2 := v_cal.mk (v_w4 31 rfl rfl) (v_w1 4 rfl rfl) (by decide +kernel)
set_option maxRecDepth 20000 in
theorem sel_X4_keep : Cond.instanceMethod yX4_keep ∈ v_T ∧ Cond.selects yX4_keep.cls yX4_keep yX4_keep ∈ v_T := ⟨(v_w4 29 rfl rfl), (v_w4 30 rfl rfl)⟩
set_option maxRecDepth 20000 in
theorem cal_X1_perform : v_cal yX1_perform cX1_perform 6 (some .int) 5 := v_cal.mk (v_w4 38 rfl rfl) (v_w1 5 rfl rfl) (by decide +kernel)
set_option maxRecDepth 20000 in
theorem sel_X1_perform : Cond.instanceMethod yX1_perform ∈ v_T ∧ Cond.selects yX1_perform.cls yX1_perform yX1_perform ∈ v_T := ⟨(v_w4 36 rfl rfl), (v_w4 37 rfl rfl)⟩
set_option maxRecDepth 20000 in
theorem cal_X3_openOne : v_cal yX3_openOne cX3_openOne 2 none 1 := v_cal.mk (v_w4 43 rfl rfl) (v_w1 3 rfl rfl) (by decide +kernel)
set_option maxRecDepth 20000 in
theorem sel_X3_openOne : Cond.instanceMethod yX3_openOne ∈ v_T ∧ Cond.selects yX3_openOne.cls yX3_openOne yX3_openOne ∈ v_T := ⟨(v_w4 41 rfl rfl), (v_w4 42 rfl rfl)⟩
set_option maxRecDepth 20000 in
theorem cal_X3_changeWant : v_cal yX3_changeWant cX3_changeWant 4 (some .int) 2 := v_cal.mk (v_w4 47 rfl rfl) (v_w1 3 rfl rfl) (by decide +kernel)
set_option maxRecDepth 20000 in
theorem sel_X3_changeWant : Cond.instanceMethod yX3_changeWant ∈ v_T ∧ Cond.selects yX3_changeWant.cls yX3_changeWant yX3_changeWant ∈ v_T := ⟨(v_w4 45 rfl rfl), (v_w4 46 rfl rfl)⟩
set_option maxRecDepth 20000 in
theorem cal_X9_fault : v_cal yX9_fault cX9_fault 1 (some .int) 0 := v_cal.mk (v_w4 51 rfl rfl) (v_w1 1 rfl rfl) (by decide +kernel)
set_option maxRecDepth 20000 in
theorem sel_X9_fault : Cond.instanceMethod yX9_fault ∈ v_T ∧ Cond.selects yX9_fault.cls yX9_fault yX9_fault ∈ v_T := ⟨(v_w4 49 rfl rfl), (v_w4 50 rfl rfl)⟩
set_option maxRecDepth 20000 in
theorem cal_X9_stopped : v_cal yX9_stopped cX9_stopped 1 (some .int) 0 := v_cal.mk (v_w4 55 rfl rfl) (v_w1 1 rfl rfl) (by decide +kernel)
set_option maxRecDepth 20000 in
theorem sel_X9_stopped : Cond.instanceMethod yX9_stopped ∈ v_T ∧ Cond.selects yX9_stopped.cls yX9_stopped yX9_stopped ∈ v_T := ⟨(v_w4 53 rfl rfl), (v_w4 54 rfl rfl)⟩
set_option maxRecDepth 20000 in
theorem cal_X9_force : v_cal yX9_force cX9_force 3 (some .int) 1 := v_cal.mk (v_w4 59 rfl rfl) (v_w1 1 rfl rfl) (by decide +kernel)
set_option maxRecDepth 20000 in
theorem sel_X9_force : Cond.instanceMethod yX9_force ∈ v_T ∧ Cond.selects yX9_force.cls yX9_force yX9_force ∈ v_T := ⟨(v_w4 57 rfl rfl), (v_w4 58 rfl rfl)⟩
set_option maxRecDepth 20000 in
theorem cal_X9_touch : v_cal yX9_touch cX9_touch 2 (some .int) 1 := v_cal.mk (v_w4 64 rfl rfl) (v_w1 1 rfl rfl) (by decide +kernel)
set_option maxRecDepth 20000 in
theorem sel_X9_touch : Cond.instanceMethod yX9_touch ∈ v_T ∧ Cond.selects yX9_touch.cls yX9_touch yX9_touch ∈ v_T := ⟨(v_w4 62 rfl rfl), (v_w4 63 rfl rfl)⟩
set_option maxRecDepth 20000 in
theorem cal_X9_act : v_cal yX9_act cX9_act 5 (some .int) 3 := v_cal.mk (v_w4 68 rfl rfl) (v_w1 1 rfl rfl) (by decide +kernel)
set_option maxRecDepth 20000 in
theorem sel_X9_act : Cond.instanceMethod yX9_act ∈ v_T ∧ Cond.selects yX9_act.cls yX9_act yX9_act ∈ v_T := ⟨(v_w4 67 rfl rfl), (v_w 29 (by decide +kernel) rfl)⟩
set_option maxRecDepth 20000 in
theorem cal_X9_coax : v_cal yX9_coax cX9_coax 2 (some .int) 1 := v_cal.mk (v_w4 75 rfl rfl) (v_w1 1 rfl rfl) (by decide +kernel)
set_option maxRecDepth 20000 in
theorem sel_X9_coax : Cond.instanceMethod yX9_coax ∈ v_T ∧ Cond.selects yX9_coax.cls yX9_coax yX9_coax ∈ v_T := ⟨(v_w4 73 rfl rfl), (v_w4 74 rfl rfl)⟩
set_option maxRecDepth 20000 in
theorem cal_X9_tempt : v_cal yX9_tempt cX9_tempt 3 (some .int) 2 := v_cal.mk (v_w4 79 rfl rfl) (v_w1 1 rfl rfl) (by decide +kernel)
set_option maxRecDepth 20000 in
theorem sel_X9_tempt : Cond.instanceMethod yX9_tempt ∈ v_T ∧ Cond.selects yX9_tempt.cls yX9_tempt yX9_tempt ∈ v_T := ⟨(v_w4 77 rfl rfl), (v_w4 78 rfl rfl)⟩
set_option maxRecDepth 20000 in
theorem cal_X9_pass : v_cal yX9_pass cX9_pass 1 (some .int) 0 := v_cal.mk (v_w4 83 rfl rfl) (v_w1 1 rfl rfl) (by decide +kernel)
set_option maxRecDepth 20000 in
theorem sel_X9_pass : Cond.instanceMethod yX9_pass ∈ v_T ∧ Cond.selects yX9_pass.cls yX9_pass yX9_pass ∈ v_T := ⟨(v_w4 81 rfl rfl), (v_w4 82 rfl rfl)⟩
set_option maxRecDepth 20000 in
theorem cal_X9_undo : v_cal yX9_undo cX9_undo 2 (some .int) 0 := v_cal.mk (v_w4 87 rfl rfl) (v_w1 1 rfl rfl) (by decide +kernel)
set_option maxRecDepth 20000 in
theorem sel_X9_undo : Cond.instanceMethod yX9_undo ∈ v_T ∧ Cond.selects yX9_undo.cls yX9_undo yX9_undo ∈ v_T := ⟨(v_w4 85 rfl rfl), (v_w4 86 rfl rfl)⟩
set_option maxRecDepth 20000 in
theorem cal_X4_takeBack : v_cal yX4_takeBack cX4_takeBack 3 (some .int) 1 := v_cal.mk (v_w4 91 rfl rfl) (v_w1 4 rfl rfl) (by decide +kernel)
set_option maxRecDepth 20000 in
theorem sel_X4_takeBack : Cond.instanceMethod yX4_takeBack ∈ v_T ∧ Cond.selects yX4_takeBack.cls yX4_takeBack yX4_takeBack ∈ v_T := ⟨(v_w4 89 rfl rfl), (v_w4 90 rfl rfl)⟩
set_option maxRecDepth 20000 in
theorem cal_X9_later : v_cal yX9_later cX9_later 2 (some .int) 1 := v_cal.mk (v_w4 95 rfl rfl) (v_w1 1 rfl rfl) (by decide +kernel)
set_option maxRecDepth 20000 in
theorem sel_X9_later : Cond.instanceMethod yX9_later ∈ v_T ∧ Cond.selects yX9_later.cls yX9_later yX9_later ∈ v_T := ⟨(v_w4 93 rfl rfl), (v_w4 94 rfl rfl)⟩
set_option maxRecDepth 20000 in
theorem cal_X9_opens : v_cal yX9_opens cX9_opens 2 (some .int) 1 := v_cal.mk (v_w4 100 rfl rfl) (v_w1 1 rfl rfl) (by decide +kernel)
set_option maxRecDepth 20000 in
theorem sel_X9_opens : Cond.instanceMethod yX9_opens ∈ v_T ∧ Cond.selects yX9_opens.cls yX9_opens yX9_opens ∈ v_T := ⟨(v_w4 98 rfl rfl), (v_w4 99 rfl rfl)⟩
set_option maxRecDepth 20000 in
theorem cal_X1_firstMinute : v_cal yX1_firstMinute cX1_firstMinute 8 (some .int) 4 := v_cal.mk (v_w4 104 rfl rfl) (v_w1 5 rfl rfl) (by decide +kernel)
set_option maxRecDepth 20000 in
theorem sel_X1_firstMinute : Cond.instanceMethod yX1_firstMinute ∈ v_T ∧ Cond.selects yX1_firstMinute.cls yX1_firstMinute yX1_firstMinute ∈ v_T := ⟨(v_w4 102 rfl rfl), (v_w4 103 rfl rfl)⟩
set_option maxRecDepth 20000 in
theorem cal_X9_together : v_cal yX9_together cX9_together 1 (some .int) 0 := v_cal.mk (v_w4 108 rfl rfl) (v_w1 1 rfl rfl) (by decide +kernel)
set_option maxRecDepth 20000 in
theorem sel_X9_together : Cond.instanceMethod yX9_together ∈ v_T ∧ Cond.selects yX9_together.cls yX9_together yX9_together ∈ v_T := ⟨(v_w4 106 rfl rfl), (v_w4 107 rfl rfl)⟩
set_option maxRecDepth 20000 in
theorem cal_X9_again : v_cal yX9_again cX9_again 1 (some .int) 0 := v_cal.mk (v_w4 112 rfl rfl) (v_w1 1 rfl rfl) (by decide +kernel)
set_option maxRecDepth 20000 in
theorem sel_X9_again : Cond.instanceMethod yX9_again ∈ v_T ∧ Cond.selects yX9_again.cls yX9_again yX9_again ∈ v_T := ⟨(v_w4 110 rfl rfl), (v_w4 111 rfl rfl)⟩
set_option maxRecDepth 20000 in
theorem cal_X1_follow : v_cal yX1_follow cX1_follow 4 none 1 := v_cal.mk (v_w4 116 rfl rfl) (v_w1 5 rfl rfl) (by decide +kernel)
set_option maxRecDepth 20000 in
theorem sel_X1_follow : Cond.instanceMethod yX1_follow ∈ v_T ∧ Cond.selects yX1_follow.cls yX1_follow yX1_follow ∈ v_T := ⟨(v_w4 114 rfl rfl), (v_w4 115 rfl rfl)⟩
set_option maxRecDepth 20000 in
theorem cal_X1_firstReturn : v_cal yX1_firstReturn cX1_firstReturn 2 (some .int) 0 := v_cal.mk (v_w4 120 rfl rfl) (v_w1 5 rfl rfl) (by decide +kernel)
set_option maxRecDepth 20000 in
theorem sel_X1_firstReturn : Cond.instanceMethod yX1_firstReturn ∈ v_T ∧ Cond.selects yX1_firstReturn.cls yX1_firstReturn yX1_firstReturn ∈ v_T := ⟨(v_w4 118 rfl rfl), (v_w4 119 rfl rfl)⟩
set_option maxRecDepth 20000 in
theorem cal_X9_seeds : v_cal yX9_seeds cX9_seeds 3 (some .int) 1 := v_cal.mk (v_w4 124 rfl rfl) (v_w1 1 rfl rfl) (by decide +kernel)
set_option maxRecDepth 20000 in
theorem sel_X9_seeds : Cond.instanceMethod yX9_seeds ∈ v_T ∧ Cond.selects yX9_seeds.cls yX9_seeds yX9_seeds ∈ v_T := ⟨(v_w4 122 rfl rfl), (v_w4 123 rfl rfl)⟩
set_option maxRecDepth 20000 in
theorem cal_X1_fewestCoaxed : v_cal yX1_fewestCoaxed cX1_fewestCoaxed 6 (some .int) 3 := v_cal.mk (v_w4 128 rfl rfl) (v_w1 5 rfl rfl) (by decide +kernel)
set_option maxRecDepth 20000 in
theorem sel_X1_fewestCoaxed : Cond.instanceMethod yX1_fewestCoaxed ∈ v_T ∧ Cond.selects yX1_fewestCoaxed.cls yX1_fewestCoaxed yX1_fewestCoaxed ∈ v_T := ⟨(v_w4 126 rfl rfl), (v_w4 127 rfl rfl)⟩
set_option maxRecDepth 20000 in
theorem cal_X1_isPart : v_cal yX1_isPart cX1_isPart 3 (some .boolean) 3 := v_cal.mk (v_w4 131 rfl rfl) (v_w1 5 rfl rfl) (by decide +kernel)
set_option maxRecDepth 20000 in
theorem sta_X1_isPart : Cond.static yX1_isPart ∈ v_T := (v_w4 130 rfl rfl)
set_option maxRecDepth 20000 in
theorem cal_X9_tellSet : v_cal yX9_tellSet cX9_tellSet 2 (some .int) 2 := v_cal.mk (v_w4 135 rfl rfl) (v_w1 1 rfl rfl) (by decide +kernel)
set_option maxRecDepth 20000 in
theorem sta_X9_tellSet : Cond.static yX9_tellSet ∈ v_T := (v_w4 134 rfl rfl)
set_option maxRecDepth 20000 in
theorem cal_X9_seedsFor : v_cal yX9_seedsFor cX9_seedsFor 4 (some .int) 2 := v_cal.mk (v_w4 140 rfl rfl) (v_w1 1 rfl rfl) (by decide +kernel)
set_option maxRecDepth 20000 in
theorem sel_X9_seedsFor : Cond.instanceMethod yX9_seedsFor ∈ v_T ∧ Cond.selects yX9_seedsFor.cls yX9_seedsFor yX9_seedsFor ∈ v_T := ⟨(v_w4 138 rfl rfl), (v_w4 139 rfl rfl)⟩
set_option maxRecDepth 20000 in
theorem cal_X9_spread : v_cal yX9_spread cX9_spread 5 (some .int) 1 := v_cal.mk (v_w4 144 rfl rfl) (v_w1 1 rfl rfl) (by decide +kernel)
set_option maxRecDepth 20000 in
theorem sel_X9_spread : Cond.instanceMethod yX9_spread ∈ v_T ∧ Cond.selects yX9_spread.cls yX9_spread yX9_spread ∈ v_T := ⟨(v_w4 142 rfl rfl), (v_w4 143 rfl rfl)⟩
set_option maxRecDepth 20000 in
theorem cal_X9_held : v_cal yX9_held cX9_held 3 (some .int) 2 := v_cal.mk (v_w4 148 rfl rfl) (v_w1 1 rfl rfl) (by decide +kernel)
set_option maxRecDepth 20000 in
theorem sel_X9_held : Cond.instanceMethod yX9_held ∈ v_T ∧ Cond.selects yX9_held.cls yX9_held yX9_held ∈ v_T := ⟨(v_w4 146 rfl rfl), (v_w4 147 rfl rfl)⟩
set_option maxRecDepth 20000 in
theorem cal_X1_fewestHeld : v_cal yX1_fewestHeld cX1_fewestHeld 6 (some .int) 2 := v_cal.mk (v_w4 152 rfl rfl) (v_w1 5 rfl rfl) (by decide +kernel)
set_option maxRecDepth 20000 in
theorem sel_X1_fewestHeld : Cond.instanceMethod yX1_fewestHeld ∈ v_T ∧ Cond.selects yX1_fewestHeld.cls yX1_fewestHeld yX1_fewestHeld ∈ v_T := ⟨(v_w4 150 rfl rfl), (v_w4 151 rfl rfl)⟩
set_option maxRecDepth 20000 in
theorem cal_X9_chain : v_cal yX9_chain cX9_chain 5 (some .int) 3 := v_cal.mk (v_w4 157 rfl rfl) (v_w1 1 rfl rfl) (by decide +kernel)
set_option maxRecDepth 20000 in
theorem sel_X9_chain : Cond.instanceMethod yX9_chain ∈ v_T ∧ Cond.selects yX9_chain.cls yX9_chain yX9_chain ∈ v_T := ⟨(v_w4 155 rfl rfl), (v_w4 156 rfl rfl)⟩
set_option maxRecDepth 20000 in
theorem cal_X5_measure : v_cal yX5_measure cX5_measure 7 (some .int) 3 := v_cal.mk (v_w4 161 rfl rfl) (v_w1 7 rfl rfl) (by decide +kernel)
set_option maxRecDepth 20000 in
theorem sel_X5_measure : Cond.instanceMethod yX5_measure ∈ v_T ∧ Cond.selects yX5_measure.cls yX5_measure yX5_measure ∈ v_T := ⟨(v_w4 159 rfl rfl), (v_w4 160 rfl rfl)⟩
set_option maxRecDepth 20000 in
theorem cal_X5_watchedBy : v_cal yX5_watchedBy cX5_watchedBy 4 (some .int) 2 := v_cal.mk (v_w4 164 rfl rfl) (v_w1 7 rfl rfl) (by decide +kernel)
set_option maxRecDepth 20000 in
theorem sta_X5_watchedBy : Cond.static yX5_watchedBy ∈ v_T := (v_w4 163 rfl rfl)
set_option maxRecDepth 20000 in
theorem cal_X5_member : v_cal yX5_member cX5_member 7 (some .int) 4 := v_cal.mk (v_w4 168 rfl rfl) (v_w1 7 rfl rfl) (by decide +kernel)
set_option maxRecDepth 20000 in
theorem sel_X5_member : Cond.instanceMethod yX5_member ∈ v_T ∧ Cond.selects yX5_member.cls yX5_member yX5_member ∈ v_T := ⟨(v_w4 166 rfl rfl), (v_w4 167 rfl rfl)⟩
set_option maxRecDepth 20000 in
theorem cal_X5_lowestWatcher : v_cal yX5_lowestWatcher cX5_lowestWatcher 4 (some .int) 3 := v_cal.mk (v_w4 171 rfl rfl) (v_w1 7 rfl rfl) (by decide +kernel)
set_option maxRecDepth 20000 in
theorem sta_X5_lowestWatcher : Cond.static yX5_lowestWatcher ∈ v_T := (v_w4 170 rfl rfl)
set_option maxRecDepth 20000 in
theorem cal_X9_knots : v_cal yX9_knots cX9_knots 1 (some .int) 0 := v_cal.mk (v_w4 175 rfl rfl) (v_w1 1 rfl rfl) (by decide +kernel)
set_option maxRecDepth 20000 in
theorem sel_X9_knots : Cond.instanceMethod yX9_knots ∈ v_T ∧ Cond.selects yX9_knots.cls yX9_knots yX9_knots ∈ v_T := ⟨(v_w4 173 rfl rfl), (v_w4 174 rfl rfl)⟩
set_option maxRecDepth 20000 in
theorem cal_X5_lowestOfKnots : v_cal yX5_lowestOfKnots cX5_lowestOfKnots 4 (some .int) 1 := v_cal.mk (v_w4 179 rfl rfl) (v_w1 7 rfl rfl) (by decide +kernel)
set_option maxRecDepth 20000 in
theorem sel_X5_lowestOfKnots : Cond.instanceMethod yX5_lowestOfKnots ∈ v_T ∧ Cond.selects yX5_lowestOfKnots.cls yX5_lowestOfKnots yX5_lowestOfKnots ∈ v_T := ⟨(v_w4 177 rfl rfl), (v_w4 178 rfl rfl)⟩
set_option maxRecDepth 20000 in
theorem cal_X5_findSources : v_cal yX5_findSources cX5_findSources 5 none 1 := v_cal.mk (v_w4 183 rfl rfl) (v_w1 7 rfl rfl) (by decide +kernel)
set_option maxRecDepth 20000 in
theorem sel_X5_findSources : Cond.instanceMethod yX5_findSources ∈ v_T ∧ Cond.selects yX5_findSources.cls yX5_findSources yX5_findSources ∈ v_T := ⟨(v_w4 182 rfl rfl), (v_w 30 (by decide +kernel) rfl)⟩
set_option maxRecDepth 20000 in
theorem cal_X5_knotOf : v_cal yX5_knotOf cX5_knotOf 4 (some .int) 1 := v_cal.mk (v_w4 187 rfl rfl) (v_w1 7 rfl rfl) (by decide +kernel)
set_option maxRecDepth 20000 in
theorem sel_X5_knotOf : Cond.instanceMethod yX5_knotOf ∈ v_T ∧ Cond.selects yX5_knotOf.cls yX5_knotOf yX5_knotOf ∈ v_T := ⟨(v_w4 186 rfl rfl), (v_w 31 (by decide +kernel) rfl)⟩
set_option maxRecDepth 20000 in
theorem cal_J6_lowestOneBit_0f7a4 : v_cal yJ6_lowestOneBit_0f7a4 cJ6_lowestOneBit_0f7a4 1 (some .int) 1 := v_cal.mk (v_w4 190 rfl rfl) (v_w1 12 rfl rfl) (by decide +kernel)
set_option maxRecDepth 20000 in
theorem sta_J6_lowestOneBit_0f7a4 : Cond.static yJ6_lowestOneBit_0f7a4 ∈ v_T := (v_w4 189 rfl rfl)
set_option maxRecDepth 20000 in
theorem cal_X9_heads : v_cal yX9_heads cX9_heads 2 (some .int) 1 := v_cal.mk (v_w4 194 rfl rfl) (v_w1 1 rfl rfl) (by decide +kernel)
set_option maxRecDepth 20000 in
theorem sel_X9_heads : Cond.instanceMethod yX9_heads ∈ v_T ∧ Cond.selects yX9_heads.cls yX9_heads yX9_heads ∈ v_T := ⟨(v_w4 192 rfl rfl), (v_w4 193 rfl rfl)⟩
set_option maxRecDepth 20000 in
theorem cal_X5_fewestHeads : v_cal yX5_fewestHeads cX5_fewestHeads 5 (some .int) 1 := v_cal.mk (v_w4 198 rfl rfl) (v_w1 7 rfl rfl) (by decide +kernel)
set_option maxRecDepth 20000 in
theorem sel_X5_fewestHeads : Cond.instanceMethod yX5_fewestHeads ∈ v_T ∧ Cond.selects yX5_fewestHeads.cls yX5_fewestHeads yX5_fewestHeads ∈ v_T := ⟨(v_w4 196 rfl rfl), (v_w4 197 rfl rfl)⟩
set_option maxRecDepth 20000 in
theorem cal_X9_seen : v_cal yX9_seen cX9_seen 3 (some .int) 2 := v_cal.mk (v_w4 203 rfl rfl) (v_w1 1 rfl rfl) (by decide +kernel)
set_option maxRecDepth 20000 in
theorem sel_X9_seen : Cond.instanceMethod yX9_seen ∈ v_T ∧ Cond.selects yX9_seen.cls yX9_seen yX9_seen ∈ v_T := ⟨(v_w4 201 rfl rfl), (v_w4 202 rfl rfl)⟩
set_option maxRecDepth 20000 in
theorem cal_X0_addSeen : v_cal yX0_addSeen cX0_addSeen 3 (some .int) 2 := v_cal.mk (v_w4 207 rfl rfl) (v_w1 2 rfl rfl) (by decide +kernel)
set_option maxRecDepth 20000 in
theorem sel_X0_addSeen : Cond.instanceMethod yX0_addSeen ∈ v_T ∧ Cond.selects yX0_addSeen.cls yX0_addSeen yX0_addSeen ∈ v_T := ⟨(v_w4 205 rfl rfl), (v_w4 206 rfl rfl)⟩
set_option maxRecDepth 20000 in
theorem cal_X9_forget : v_cal yX9_forget cX9_forget 2 (some .int) 0 := v_cal.mk (v_w4 211 rfl rfl) (v_w1 1 rfl rfl) (by decide +kernel)
set_option maxRecDepth 20000 in
theorem sel_X9_forget : Cond.instanceMethod yX9_forget ∈ v_T ∧ Cond.selects yX9_forget.cls yX9_forget yX9_forget ∈ v_T := ⟨(v_w4 209 rfl rfl), (v_w4 210 rfl rfl)⟩
set_option maxRecDepth 20000 in
theorem cal_X9_canBe : v_cal yX9_canBe cX9_canBe 1 (some .int) 0 := v_cal.mk (v_w4 215 rfl rfl) (v_w1 1 rfl rfl) (by decide +kernel)
set_option maxRecDepth 20000 in
theorem sel_X9_canBe : Cond.instanceMethod yX9_canBe ∈ v_T ∧ Cond.selects yX9_canBe.cls yX9_canBe yX9_canBe ∈ v_T := ⟨(v_w4 213 rfl rfl), (v_w4 214 rfl rfl)⟩
set_option maxRecDepth 20000 in
theorem cal_X1_likeSeen : v_cal yX1_likeSeen cX1_likeSeen 6 (some .int) 1 := v_cal.mk (v_w4 219 rfl rfl) (v_w1 5 rfl rfl) (by decide +kernel)
set_option maxRecDepth 20000 in
theorem sel_X1_likeSeen : Cond.instanceMethod yX1_likeSeen ∈ v_T ∧ Cond.selects yX1_likeSeen.cls yX1_likeSeen yX1_likeSeen ∈ v_T := ⟨(v_w4 217 rfl rfl), (v_w4 218 rfl rfl)⟩
set_option maxRecDepth 20000 in
theorem cal_X9_look : v_cal yX9_look cX9_look 4 (some .int) 1 := v_cal.mk (v_w4 223 rfl rfl) (v_w1 1 rfl rfl) (by decide +kernel)
set_option maxRecDepth 20000 in
theorem sel_X9_look : Cond.instanceMethod yX9_look ∈ v_T ∧ Cond.selects yX9_look.cls yX9_look yX9_look ∈ v_T := ⟨(v_w4 221 rfl rfl), (v_w4 222 rfl rfl)⟩
set_option maxRecDepth 20000 in
theorem cal_X1_bestLook : v_cal yX1_bestLook cX1_bestLook 4 (some .int) 1 := v_cal.mk (v_w4 227 rfl rfl) (v_w1 5 rfl rfl) (by decide +kernel)
set_option maxRecDepth 20000 in
theorem sel_X1_bestLook : Cond.instanceMethod yX1_bestLook ∈ v_T ∧ Cond.selects yX1_bestLook.cls yX1_bestLook yX1_bestLook ∈ v_T := ⟨(v_w4 225 rfl rfl), (v_w4 226 rfl rfl)⟩
set_option maxRecDepth 20000 in
theorem cal_X1_leftAt : v_cal yX1_leftAt cX1_leftAt 3 (some .int) 2 := v_cal.mk (v_w4 231 rfl rfl) (v_w1 5 rfl rfl) (by decide +kernel)
set_option maxRecDepth 20000 in
theorem sel_X1_leftAt : Cond.instanceMethod yX1_leftAt ∈ v_T ∧ Cond.selects yX1_leftAt.cls yX1_leftAt yX1_leftAt ∈ v_T := ⟨(v_w4 229 rfl rfl), (v_w4 230 rfl rfl)⟩
set_option maxRecDepth 20000 in
theorem cal_X9_few : v_cal yX9_few cX9_few 8 (some .long) 2 := v_cal.mk (v_w4 237 rfl rfl) (v_w1 1 rfl rfl) (by decide +kernel)
set_option maxRecDepth 20000 in
theorem sel_X9_few : Cond.instanceMethod yX9_few ∈ v_T ∧ Cond.selects yX9_few.cls yX9_few yX9_few ∈ v_T := ⟨(v_w4 235 rfl rfl), (v_w4 236 rfl rfl)⟩
set_option maxRecDepth 20000 in
theorem cal_J7_fill_d0a16 : v_cal yJ7_fill_d0a16 cJ7_fill_d0a16 5 none 2 := v_cal.mk (v_w5 1 rfl rfl) (v_w1 19 rfl rfl) (by decide +kernel)
set_option maxRecDepth 20000 in
theorem sta_J7_fill_d0a16 : Cond.static yJ7_fill_d0a16 ∈ v_T := (v_w5 0 rfl rfl)
set_option maxRecDepth 20000 in
theorem cal_X9_compare : v_cal yX9_compare cX9_compare 3 (some .int) 1 := v_cal.mk (v_w5 7 rfl rfl) (v_w1 1 rfl rfl) (by decide +kernel)
set_option maxRecDepth 20000 in
theorem sel_X9_compare : Cond.instanceMethod yX9_compare ∈ v_T ∧ Cond.selects yX9_compare.cls yX9_compare yX9_compare ∈ v_T := ⟨(v_w5 5 rfl rfl), (v_w5 6 rfl rfl)⟩
set_option maxRecDepth 20000 in
theorem cal_X1_openByLaw : v_cal yX1_openByLaw cX1_openByLaw 3 (some .int) 2 := v_cal.mk (v_w5 11 rfl rfl) (v_w1 5 rfl rfl) (by decide +kernel)
set_option maxRecDepth 20000 in
theorem sel_X1_openByLaw : Cond.instanceMethod yX1_openByLaw ∈ v_T ∧ Cond.selects yX1_openByLaw.cls yX1_openByLaw yX1_openByLaw ∈ v_T := ⟨(v_w5 9 rfl rfl), (v_w5 10 rfl rfl)⟩
set_option maxRecDepth 20000 in
theorem cal_X9_councils : v_cal yX9_councils cX9_councils 3 (some .int) 2 := v_cal.mk (v_w5 15 rfl rfl) (v_w1 1 rfl rfl) (by decide +kernel)
set_option maxRecDepth 20000 in
theorem sel_X9_councils : Cond.instanceMethod yX9_councils ∈ v_T ∧ Cond.selects yX9_councils.cls yX9_councils yX9_councils ∈ v_T := ⟨(v_w5 13 rfl rfl), (v_w5 14 rfl rfl)⟩
set_option maxRecDepth 20000 in
theorem cal_X1_holdCouncils : v_cal yX1_holdCouncils cX1_holdCouncils 10 none 4 := v_cal.mk (v_w5 20 rfl rfl) (v_w1 5 rfl rfl) (by decide +kernel)
set_option maxRecDepth 20000 in
theorem sel_X1_holdCouncils : Cond.instanceMethod yX1_holdCouncils ∈ v_T ∧ Cond.selects yX1_holdCouncils.cls yX1_holdCouncils yX1_holdCouncils ∈ v_T := ⟨(v_w5 18 rfl rfl), (v_w5 19 rfl rfl)⟩
set_option maxRecDepth 20000 in
theorem cal_X1_nextDraw : v_cal yX1_nextDraw cX1_nextDraw 1 (some .int) 1 := v_cal.mk (v_w5 23 rfl rfl) (v_w1 5 rfl rfl) (by decide +kernel)
set_option maxRecDepth 20000 in
theorem sta_X1_nextDraw : Cond.static yX1_nextDraw ∈ v_T := (v_w5 22 rfl rfl)
set_option maxRecDepth 20000 in
theorem cal_X9_drawn : v_cal yX9_drawn cX9_drawn 3 (some .int) 2 := v_cal.mk (v_w5 30 rfl rfl) (v_w1 1 rfl rfl) (by decide +kernel)
set_option maxRecDepth 20000 in
theorem sel_X9_drawn : Cond.instanceMethod yX9_drawn ∈ v_T ∧ Cond.selects yX9_drawn.cls yX9_drawn yX9_drawn ∈ v_T := ⟨(v_w5 28 rfl rfl), (v_w5 29 rfl rfl)⟩
set_option maxRecDepth 20000 in
theorem cal_X9_image : v_cal yX9_image cX9_image 3 (some .int) 1 := v_cal.mk (v_w5 34 rfl rfl) (v_w1 1 rfl rfl) (by decide +kernel)
set_option maxRecDepth 20000 in
theorem sel_X9_image : Cond.instanceMethod yX9_image ∈ v_T ∧ Cond.selects yX9_image.cls yX9_image yX9_image ∈ v_T := ⟨(v_w5 32 rfl rfl), (v_w5 33 rfl rfl)⟩
set_option maxRecDepth 20000 in
theorem cal_X0_copyFrom : v_cal yX0_copyFrom cX0_copyFrom 3 none 1 := v_cal.mk (v_w5 38 rfl rfl) (v_w1 2 rfl rfl) (by decide +kernel)
set_option maxRecDepth 20000 in
theorem sel_X0_copyFrom : Cond.instanceMethod yX0_copyFrom ∈ v_T ∧ Cond.selects yX0_copyFrom.cls yX0_copyFrom yX0_copyFrom ∈ v_T := ⟨(v_w5 36 rfl rfl), (v_w5 37 rfl rfl)⟩
set_option maxRecDepth 20000 in
theorem cal_X9_back : v_cal yX9_back cX9_back 3 (some .int) 1 := v_cal.mk (v_w5 44 rfl rfl) (v_w1 1 rfl rfl) (by decide +kernel)
set_option maxRecDepth 20000 in
theorem sel_X9_back : Cond.instanceMethod yX9_back ∈ v_T ∧ Cond.selects yX9_back.cls yX9_back yX9_back ∈ v_T := ⟨(v_w5 42 rfl rfl), (v_w5 43 rfl rfl)⟩
set_option maxRecDepth 20000 in
theorem cal_X9_count : v_cal yX9_count cX9_count 2 (some .int) 1 := v_cal.mk (v_w5 48 rfl rfl) (v_w1 1 rfl rfl) (by decide +kernel)
set_option maxRecDepth 20000 in
theorem sel_X9_count : Cond.instanceMethod yX9_count ∈ v_T ∧ Cond.selects yX9_count.cls yX9_count yX9_count ∈ v_T := ⟨(v_w5 46 rfl rfl), (v_w5 47 rfl rfl)⟩
set_option maxRecDepth 20000 in
theorem cal_X9_status : v_cal yX9_status cX9_status 1 (some .int) 0 := v_cal.mk (v_w5 53 rfl rfl) (v_w1 1 rfl rfl) (by decide +kernel)
set_option maxRecDepth 20000 in
theorem sel_X9_status : Cond.instanceMethod yX9_status ∈ v_T ∧ Cond.selects yX9_status.cls yX9_status yX9_status ∈ v_T := ⟨(v_w5 51 rfl rfl), (v_w5 52 rfl rfl)⟩
set_option maxRecDepth 20000 in
theorem cal_X10_init : v_cal yX10_init cX10_init 1 none 0 := v_cal.mk (v_w5 58 rfl rfl) (v_w1 11 rfl rfl) (by decide +kernel)
set_option maxRecDepth 20000 in
theorem ins_X10_init : Cond.instanceMethod yX10_init ∈ v_T := (v_w5 57 rfl rfl)
set_option maxRecDepth 20000 in
theorem cal_X10_image : v_cal yX10_image cX10_image 3 (some .int) 1 := v_cal.mk (v_w5 209 rfl rfl) (v_w1 11 rfl rfl) (by decide +kernel)
set_option maxRecDepth 20000 in
theorem sel_X10_image : Cond.instanceMethod yX10_image ∈ v_T ∧ Cond.selects yX10_image.cls yX10_image yX10_image ∈ v_T := ⟨(v_w5 207 rfl rfl), (v_w5 208 rfl rfl)⟩
set_option maxRecDepth 20000 in
theorem cal_X10_lies : v_cal yX10_lies cX10_lies 3 (some .boolean) 3 := v_cal.mk (v_w5 212 rfl rfl) (v_w1 11 rfl rfl) (by decide +kernel)
set_option maxRecDepth 20000 in
theorem sta_X10_lies : Cond.static yX10_lies ∈ v_T := (v_w5 211 rfl rfl)
set_option maxRecDepth 20000 in
theorem cal_X10_refuses : v_cal yX10_refuses cX10_refuses 2 (some .int) 1 := v_cal.mk (v_w5 216 rfl rfl) (v_w1 11 rfl rfl) (by decide +kernel)
set_option maxRecDepth 20000 in
theorem sel_X10_refuses : Cond.instanceMethod yX10_refuses ∈ v_T ∧ Cond.selects yX10_refuses.cls yX10_refuses yX10_refuses ∈ v_T := ⟨(v_w5 215 rfl rfl), (v_w 32 (by decide +kernel) rfl)⟩
set_option maxRecDepth 20000 in
theorem cal_X10_good : v_cal yX10_good cX10_good 2 (some .int) 1 := v_cal.mk (v_w5 220 rfl rfl) (v_w1 11 rfl rfl) (by decide +kernel)
set_option maxRecDepth 20000 in
theorem sel_X10_good : Cond.instanceMethod yX10_good ∈ v_T ∧ Cond.selects yX10_good.cls yX10_good yX10_good ∈ v_T := ⟨(v_w5 219 rfl rfl), (v_w 33 (by decide +kernel) rfl)⟩
set_option maxRecDepth 20000 in
theorem cal_X10_back : v_cal yX10_back cX10_back 3 (some .int) 1 := v_cal.mk (v_w5 224 rfl rfl) (v_w1 11 rfl rfl) (by decide +kernel)
set_option maxRecDepth 20000 in
theorem sel_X10_back : Cond.instanceMethod yX10_back ∈ v_T ∧ Cond.selects yX10_back.cls yX10_back yX10_back ∈ v_T := ⟨(v_w5 222 rfl rfl), (v_w5 223 rfl rfl)⟩
set_option maxRecDepth 20000 in
theorem cal_X10_settled : v_cal yX10_settled cX10_settled 2 (some .int) 1 := v_cal.mk (v_w5 228 rfl rfl) (v_w1 11 rfl rfl) (by decide +kernel)
set_option maxRecDepth 20000 in
theorem sel_X10_settled : Cond.instanceMethod yX10_settled ∈ v_T ∧ Cond.selects yX10_settled.cls yX10_settled yX10_settled ∈ v_T := ⟨(v_w5 227 rfl rfl), (v_w 34 (by decide +kernel) rfl)⟩
set_option maxRecDepth 20000 in
theorem cal_X10_hedgehog : v_cal yX10_hedgehog cX10_hedgehog 3 (some .int) 2 := v_cal.mk (v_w5 232 rfl rfl) (v_w1 11 rfl rfl) (by decide +kernel)
set_option maxRecDepth 20000 in
theorem sel_X10_hedgehog : Cond.instanceMethod yX10_hedgehog ∈ v_T ∧ Cond.selects yX10_hedgehog.cls yX10_hedgehog yX10_hedgehog ∈ v_T := ⟨(v_w5 230 rfl rfl), (v_w5 231 rfl rfl)⟩
set_option maxRecDepth 20000 in
theorem cal_X10_isNine : v_cal yX10_isNine cX10_isNine 1 (some .boolean) 1 := v_cal.mk (v_w5 235 rfl rfl) (v_w1 11 rfl rfl) (by decide +kernel)
set_option maxRecDepth 20000 in
theorem sta_X10_isNine : Cond.static yX10_isNine ∈ v_T := (v_w5 234 rfl rfl)
set_option maxRecDepth 20000 in
theorem cal_X10_many : v_cal yX10_many cX10_many 1 (some .int) 0 := v_cal.mk (v_w5 239 rfl rfl) (v_w1 11 rfl rfl) (by decide +kernel)
set_option maxRecDepth 20000 in
theorem sel_X10_many : Cond.instanceMethod yX10_many ∈ v_T ∧ Cond.selects yX10_many.cls yX10_many yX10_many ∈ v_T := ⟨(v_w5 238 rfl rfl), (v_w 35 (by decide +kernel) rfl)⟩
set_option maxRecDepth 20000 in
theorem cal_X10_adds : v_cal yX10_adds cX10_adds 5 (some .int) 3 := v_cal.mk (v_w6 3 rfl rfl) (v_w1 11 rfl rfl) (by decide +kernel)
set_option maxRecDepth 20000 in
theorem sel_X10_adds : Cond.instanceMethod yX10_adds ∈ v_T ∧ Cond.selects yX10_adds.cls yX10_adds yX10_adds ∈ v_T := ⟨(v_w6 2 rfl rfl), (v_w 36 (by decide +kernel) rfl)⟩
set_option maxRecDepth 20000 in
theorem cal_X10_watch : v_cal yX10_watch cX10_watch 5 (some .int) 3 := v_cal.mk (v_w6 7 rfl rfl) (v_w1 11 rfl rfl) (by decide +kernel)
set_option maxRecDepth 20000 in
theorem sel_X10_watch : Cond.instanceMethod yX10_watch ∈ v_T ∧ Cond.selects yX10_watch.cls yX10_watch yX10_watch ∈ v_T := ⟨(v_w6 5 rfl rfl), (v_w6 6 rfl rfl)⟩
set_option maxRecDepth 20000 in
theorem cal_X10_isBit : v_cal yX10_isBit cX10_isBit 1 (some .boolean) 1 := v_cal.mk (v_w6 10 rfl rfl) (v_w1 11 rfl rfl) (by decide +kernel)
set_option maxRecDepth 20000 in
theorem sta_X10_isBit : Cond.static yX10_isBit ∈ v_T := (v_w6 9 rfl rfl)
set_option maxRecDepth 20000 in
theorem cal_X10_isOne : v_cal yX10_isOne cX10_isOne 2 (some .boolean) 1 := v_cal.mk (v_w6 14 rfl rfl) (v_w1 11 rfl rfl) (by decide +kernel)
set_option maxRecDepth 20000 in
theorem sel_X10_isOne : Cond.instanceMethod yX10_isOne ∈ v_T ∧ Cond.selects yX10_isOne.cls yX10_isOne yX10_isOne ∈ v_T := ⟨(v_w6 13 rfl rfl), (v_w 37 (by decide +kernel) rfl)⟩
set_option maxRecDepth 20000 in
theorem cal_X10_of : v_cal yX10_of cX10_of 3 (some .int) 2 := v_cal.mk (v_w6 18 rfl rfl) (v_w1 11 rfl rfl) (by decide +kernel)
set_option maxRecDepth 20000 in
theorem sel_X10_of : Cond.instanceMethod yX10_of ∈ v_T ∧ Cond.selects yX10_of.cls yX10_of yX10_of ∈ v_T := ⟨(v_w6 16 rfl rfl), (v_w6 17 rfl rfl)⟩
set_option maxRecDepth 20000 in
theorem cal_X10_toldBare : v_cal yX10_toldBare cX10_toldBare 3 (some .int) 2 := v_cal.mk (v_w6 22 rfl rfl) (v_w1 11 rfl rfl) (by decide +kernel)
set_option maxRecDepth 20000 in
theorem sel_X10_toldBare : Cond.instanceMethod yX10_toldBare ∈ v_T ∧ Cond.selects yX10_toldBare.cls yX10_toldBare yX10_toldBare ∈ v_T := ⟨(v_w6 21 rfl rfl), (v_w 38 (by decide +kernel) rfl)⟩
set_option maxRecDepth 20000 in
theorem cal_X10_isOpen : v_cal yX10_isOpen cX10_isOpen 2 (some .boolean) 1 := v_cal.mk (v_w6 26 rfl rfl) (v_w1 11 rfl rfl) (by decide +kernel)
set_option maxRecDepth 20000 in
theorem sel_X10_isOpen : Cond.instanceMethod yX10_isOpen ∈ v_T ∧ Cond.selects yX10_isOpen.cls yX10_isOpen yX10_isOpen ∈ v_T := ⟨(v_w6 25 rfl rfl), (v_w 39 (by decide +kernel) rfl)⟩
set_option maxRecDepth 20000 in
theorem cal_X10_isIn : v_cal yX10_isIn cX10_isIn 2 (some .boolean) 2 := v_cal.mk (v_w6 29 rfl rfl) (v_w1 11 rfl rfl) (by decide +kernel)
set_option maxRecDepth 20000 in
theorem sta_X10_isIn : Cond.static yX10_isIn ∈ v_T := (v_w6 28 rfl rfl)
set_option maxRecDepth 20000 in
theorem cal_X10_toldByLaw : v_cal yX10_toldByLaw cX10_toldByLaw 3 (some .int) 2 := v_cal.mk (v_w6 33 rfl rfl) (v_w1 11 rfl rfl) (by decide +kernel)
set_option maxRecDepth 20000 in
theorem sel_X10_toldByLaw : Cond.instanceMethod yX10_toldByLaw ∈ v_T ∧ Cond.selects yX10_toldByLaw.cls yX10_toldByLaw yX10_toldByLaw ∈ v_T := ⟨(v_w6 32 rfl rfl), (v_w 40 (by decide +kernel) rfl)⟩
set_option maxRecDepth 20000 in
theorem cal_X10_needsNow : v_cal yX10_needsNow cX10_needsNow 2 (some .int) 1 := v_cal.mk (v_w6 37 rfl rfl) (v_w1 11 rfl rfl) (by decide +kernel)
set_option maxRecDepth 20000 in
theorem sel_X10_needsNow : Cond.instanceMethod yX10_needsNow ∈ v_T ∧ Cond.selects yX10_needsNow.cls yX10_needsNow yX10_needsNow ∈ v_T := ⟨(v_w6 36 rfl rfl), (v_w 41 (by decide +kernel) rfl)⟩
set_option maxRecDepth 20000 in
theorem cal_X10_tells : v_cal yX10_tells cX10_tells 11 (some .int) 3 := v_cal.mk (v_w6 41 rfl rfl) (v_w1 11 rfl rfl) (by decide +kernel)
set_option maxRecDepth 20000 in
theorem sel_X10_tells : Cond.instanceMethod yX10_tells ∈ v_T ∧ Cond.selects yX10_tells.cls yX10_tells yX10_tells ∈ v_T := ⟨(v_w6 40 rfl rfl), (v_w 42 (by decide +kernel) rfl)⟩
set_option maxRecDepth 20000 in
theorem cal_X10_setsAsked : v_cal yX10_setsAsked cX10_setsAsked 2 none 1 := v_cal.mk (v_w6 45 rfl rfl) (v_w1 11 rfl rfl) (by decide +kernel)
set_option maxRecDepth 20000 in
theorem sel_X10_setsAsked : Cond.instanceMethod yX10_setsAsked ∈ v_T ∧ Cond.selects yX10_setsAsked.cls yX10_setsAsked yX10_setsAsked ∈ v_T := ⟨(v_w6 44 rfl rfl), (v_w 43 (by decide +kernel) rfl)⟩
set_option maxRecDepth 20000 in
theorem cal_X10_nearOf : v_cal yX10_nearOf cX10_nearOf 2 (some .int) 1 := v_cal.mk (v_w6 49 rfl rfl) (v_w1 11 rfl rfl) (by decide +kernel)
set_option maxRecDepth 20000 in
theorem sel_X10_nearOf : Cond.instanceMethod yX10_nearOf ∈ v_T ∧ Cond.selects yX10_nearOf.cls yX10_nearOf yX10_nearOf ∈ v_T := ⟨(v_w6 48 rfl rfl), (v_w 44 (by decide +kernel) rfl)⟩
set_option maxRecDepth 20000 in
theorem cal_X10_ones : v_cal yX10_ones cX10_ones 3 (some .int) 1 := v_cal.mk (v_w6 52 rfl rfl) (v_w1 11 rfl rfl) (by decide +kernel)
set_option maxRecDepth 20000 in
theorem sta_X10_ones : Cond.static yX10_ones ∈ v_T := (v_w6 51 rfl rfl)
set_option maxRecDepth 20000 in
theorem cal_X10_codeAt : v_cal yX10_codeAt cX10_codeAt 2 (some .int) 1 := v_cal.mk (v_w6 56 rfl rfl) (v_w1 11 rfl rfl) (by decide +kernel)
set_option maxRecDepth 20000 in
theorem sel_X10_codeAt : Cond.instanceMethod yX10_codeAt ∈ v_T ∧ Cond.selects yX10_codeAt.cls yX10_codeAt yX10_codeAt ∈ v_T := ⟨(v_w6 55 rfl rfl), (v_w 45 (by decide +kernel) rfl)⟩
set_option maxRecDepth 20000 in
theorem cal_X10_sumOf : v_cal yX10_sumOf cX10_sumOf 7 (some .long) 1 := v_cal.mk (v_w6 60 rfl rfl) (v_w1 11 rfl rfl) (by decide +kernel)
set_option maxRecDepth 20000 in
theorem sel_X10_sumOf : Cond.instanceMethod yX10_sumOf ∈ v_T ∧ Cond.selects yX10_sumOf.cls yX10_sumOf yX10_sumOf ∈ v_T := ⟨(v_w6 59 rfl rfl), (v_w 46 (by decide +kernel) rfl)⟩
set_option maxRecDepth 20000 in
theorem cal_X10_termOf : v_cal yX10_termOf cX10_termOf 7 (some .long) 1 := v_cal.mk (v_w6 64 rfl rfl) (v_w1 11 rfl rfl) (by decide +kernel)
set_option maxRecDepth 20000 in
theorem sel_X10_termOf : Cond.instanceMethod yX10_termOf ∈ v_T ∧ Cond.selects yX10_termOf.cls yX10_termOf yX10_termOf ∈ v_T := ⟨(v_w6 63 rfl rfl), (v_w 47 (by decide +kernel) rfl)⟩
set_option maxRecDepth 20000 in
theorem cal_X10_partOf : v_cal yX10_partOf cX10_partOf 4 (some .long) 1 := v_cal.mk (v_w6 68 rfl rfl) (v_w1 11 rfl rfl) (by decide +kernel)
set_option maxRecDepth 20000 in
theorem sel_X10_partOf : Cond.instanceMethod yX10_partOf ∈ v_T ∧ Cond.selects yX10_partOf.cls yX10_partOf yX10_partOf ∈ v_T := ⟨(v_w6 67 rfl rfl), (v_w 48 (by decide +kernel) rfl)⟩
set_option maxRecDepth 20000 in
theorem cal_X10_sign : v_cal yX10_sign cX10_sign 1 (some .int) 1 := v_cal.mk (v_w6 71 rfl rfl) (v_w1 11 rfl rfl) (by decide +kernel)
set_option maxRecDepth 20000 in
theorem sta_X10_sign : Cond.static yX10_sign ∈ v_T := (v_w6 70 rfl rfl)
set_option maxRecDepth 20000 in
theorem cal_X10_passes0 : v_cal yX10_passes0 cX10_passes0 3 (some .boolean) 1 := v_cal.mk (v_w6 75 rfl rfl) (v_w1 11 rfl rfl) (by decide +kernel)
set_option maxRecDepth 20000 in
theorem sel_X10_passes0 : Cond.instanceMethod yX10_passes0 ∈ v_T ∧ Cond.selects yX10_passes0.cls yX10_passes0 yX10_passes0 ∈ v_T := ⟨(v_w6 74 rfl rfl), (v_w 49 (by decide +kernel) rfl)⟩
set_option maxRecDepth 20000 in
theorem cal_X10_orderValue : v_cal yX10_orderValue cX10_orderValue 3 (some .int) 2 := v_cal.mk (v_w6 79 rfl rfl) (v_w1 11 rfl rfl) (by decide +kernel)
set_option maxRecDepth 20000 in
theorem sel_X10_orderValue : Cond.instanceMethod yX10_orderValue ∈ v_T ∧ Cond.selects yX10_orderValue.cls yX10_orderValue yX10_orderValue ∈ v_T := ⟨(v_w6 78 rfl rfl), (v_w 50 (by decide +kernel) rfl)⟩
set_option maxRecDepth 20000 in
theorem cal_X10_bounded : v_cal yX10_bounded cX10_bounded 4 (some .long) 2 := v_cal.mk (v_w6 83 rfl rfl) (v_w1 11 rfl rfl) (by decide +kernel)
set_option maxRecDepth 20000 in
theorem sel_X10_bounded : Cond.instanceMethod yX10_bounded ∈ v_T ∧ Cond.selects yX10_bounded.cls yX10_bounded yX10_bounded ∈ v_T := ⟨(v_w6 82 rfl rfl), (v_w 51 (by decide +kernel) rfl)⟩
set_option maxRecDepth 20000 in
theorem cal_X10_testOf : v_cal yX10_testOf cX10_testOf 4 (some .boolean) 1 := v_cal.mk (v_w6 89 rfl rfl) (v_w1 11 rfl rfl) (by decide +kernel)
set_option maxRecDepth 20000 in
theorem sel_X10_testOf : Cond.instanceMethod yX10_testOf ∈ v_T ∧ Cond.selects yX10_testOf.cls yX10_testOf yX10_testOf ∈ v_T := ⟨(v_w6 88 rfl rfl), (v_w 52 (by decide +kernel) rfl)⟩
set_option maxRecDepth 20000 in
theorem cal_X10_bothOf : v_cal yX10_bothOf cX10_bothOf 4 (some .boolean) 1 := v_cal.mk (v_w6 93 rfl rfl) (v_w1 11 rfl rfl) (by decide +kernel)
set_option maxRecDepth 20000 in
theorem sel_X10_bothOf : Cond.instanceMethod yX10_bothOf ∈ v_T ∧ Cond.selects yX10_bothOf.cls yX10_bothOf yX10_bothOf ∈ v_T := ⟨(v_w6 92 rfl rfl), (v_w 53 (by decide +kernel) rfl)⟩
set_option maxRecDepth 20000 in
theorem cal_X10_plainOf : v_cal yX10_plainOf cX10_plainOf 3 (some .boolean) 1 := v_cal.mk (v_w6 97 rfl rfl) (v_w1 11 rfl rfl) (by decide +kernel)
set_option maxRecDepth 20000 in
theorem sel_X10_plainOf : Cond.instanceMethod yX10_plainOf ∈ v_T ∧ Cond.selects yX10_plainOf.cls yX10_plainOf yX10_plainOf ∈ v_T := ⟨(v_w6 96 rfl rfl), (v_w 54 (by decide +kernel) rfl)⟩
set_option maxRecDepth 20000 in
theorem cal_X10_positiveOf : v_cal yX10_positiveOf cX10_positiveOf 7 (some .boolean) 1 := v_cal.mk (v_w6 101 rfl rfl) (v_w1 11 rfl rfl) (by decide +kernel)
set_option maxRecDepth 20000 in
theorem sel_X10_positiveOf : Cond.instanceMethod yX10_positiveOf ∈ v_T ∧ Cond.selects yX10_positiveOf.cls yX10_positiveOf yX10_positiveOf ∈ v_T := ⟨(v_w6 100 rfl rfl), (v_w 55 (by decide +kernel) rfl)⟩
set_option maxRecDepth 20000 in
theorem cal_X10_wantsNow : v_cal yX10_wantsNow cX10_wantsNow 2 (some .int) 1 := v_cal.mk (v_w6 106 rfl rfl) (v_w1 11 rfl rfl) (by decide +kernel)
set_option maxRecDepth 20000 in
theorem sel_X10_wantsNow : Cond.instanceMethod yX10_wantsNow ∈ v_T ∧ Cond.selects yX10_wantsNow.cls yX10_wantsNow yX10_wantsNow ∈ v_T := ⟨(v_w6 105 rfl rfl), (v_w 56 (by decide +kernel) rfl)⟩
set_option maxRecDepth 20000 in
theorem cal_X10_shutsNow : v_cal yX10_shutsNow cX10_shutsNow 2 (some .boolean) 1 := v_cal.mk (v_w6 110 rfl rfl) (v_w1 11 rfl rfl) (by decide +kernel)
set_option maxRecDepth 20000 in
theorem sel_X10_shutsNow : Cond.instanceMethod yX10_shutsNow ∈ v_T ∧ Cond.selects yX10_shutsNow.cls yX10_shutsNow yX10_shutsNow ∈ v_T := ⟨(v_w6 109 rfl rfl), (v_w 57 (by decide +kernel) rfl)⟩
set_option maxRecDepth 20000 in
theorem cal_X10_opensNext : v_cal yX10_opensNext cX10_opensNext 2 (some .boolean) 1 := v_cal.mk (v_w6 114 rfl rfl) (v_w1 11 rfl rfl) (by decide +kernel)
set_option maxRecDepth 20000 in
theorem sel_X10_opensNext : Cond.instanceMethod yX10_opensNext ∈ v_T ∧ Cond.selects yX10_opensNext.cls yX10_opensNext yX10_opensNext ∈ v_T := ⟨(v_w6 113 rfl rfl), (v_w 58 (by decide +kernel) rfl)⟩
set_option maxRecDepth 20000 in
theorem cal_X10_terms : v_cal yX10_terms cX10_terms 4 (some .int) 2 := v_cal.mk (v_w6 118 rfl rfl) (v_w1 11 rfl rfl) (by decide +kernel)
set_option maxRecDepth 20000 in
theorem sel_X10_terms : Cond.instanceMethod yX10_terms ∈ v_T ∧ Cond.selects yX10_terms.cls yX10_terms yX10_terms ∈ v_T := ⟨(v_w6 116 rfl rfl), (v_w6 117 rfl rfl)⟩
set_option maxRecDepth 20000 in
theorem cal_X10_isTerm : v_cal yX10_isTerm cX10_isTerm 2 (some .boolean) 2 := v_cal.mk (v_w6 121 rfl rfl) (v_w1 11 rfl rfl) (by decide +kernel)
set_option maxRecDepth 20000 in
theorem sta_X10_isTerm : Cond.static yX10_isTerm ∈ v_T := (v_w6 120 rfl rfl)
set_option maxRecDepth 20000 in
theorem cal_X10_termAt : v_cal yX10_termAt cX10_termAt 1 (some .int) 1 := v_cal.mk (v_w6 124 rfl rfl) (v_w1 11 rfl rfl) (by decide +kernel)
set_option maxRecDepth 20000 in
theorem sta_X10_termAt : Cond.static yX10_termAt ∈ v_T := (v_w6 123 rfl rfl)
set_option maxRecDepth 20000 in
theorem cal_X10_row : v_cal yX10_row cX10_row 5 (some .int) 0 := v_cal.mk (v_w6 128 rfl rfl) (v_w1 11 rfl rfl) (by decide +kernel)
set_option maxRecDepth 20000 in
theorem sel_X10_row : Cond.instanceMethod yX10_row ∈ v_T ∧ Cond.selects yX10_row.cls yX10_row yX10_row ∈ v_T := ⟨(v_w6 126 rfl rfl), (v_w6 127 rfl rfl)⟩
set_option maxRecDepth 20000 in
theorem cal_X10_canRow : v_cal yX10_canRow cX10_canRow 2 (some .boolean) 1 := v_cal.mk (v_w6 132 rfl rfl) (v_w1 11 rfl rfl) (by decide +kernel)
set_option maxRecDepth 20000 in
theorem sel_X10_canRow : Cond.instanceMethod yX10_canRow ∈ v_T ∧ Cond.selects yX10_canRow.cls yX10_canRow yX10_canRow ∈ v_T := ⟨(v_w6 131 rfl rfl), (v_w 59 (by decide +kernel) rfl)⟩
set_option maxRecDepth 20000 in
theorem cal_X10_watchAt : v_cal yX10_watchAt cX10_watchAt 2 (some .int) 1 := v_cal.mk (v_w6 136 rfl rfl) (v_w1 11 rfl rfl) (by decide +kernel)
set_option maxRecDepth 20000 in
theorem sel_X10_watchAt : Cond.instanceMethod yX10_watchAt ∈ v_T ∧ Cond.selects yX10_watchAt.cls yX10_watchAt yX10_watchAt ∈ v_T := ⟨(v_w6 135 rfl rfl), (v_w 60 (by decide +kernel) rfl)⟩
set_option maxRecDepth 20000 in
theorem cal_X10_everybody : v_cal yX10_everybody cX10_everybody 1 (some .int) 0 := v_cal.mk (v_w6 140 rfl rfl) (v_w1 11 rfl rfl) (by decide +kernel)
set_option maxRecDepth 20000 in
theorem sel_X10_everybody : Cond.instanceMethod yX10_everybody ∈ v_T ∧ Cond.selects yX10_everybody.cls yX10_everybody yX10_everybody ∈ v_T := ⟨(v_w6 139 rfl rfl), (v_w 61 (by decide +kernel) rfl)⟩
set_option maxRecDepth 20000 in
theorem cal_X10_burrs : v_cal yX10_burrs cX10_burrs 1 (some .int) 0 := v_cal.mk (v_w6 144 rfl rfl) (v_w1 11 rfl rfl) (by decide +kernel)
set_option maxRecDepth 20000 in
theorem sel_X10_burrs : Cond.instanceMethod yX10_burrs ∈ v_T ∧ Cond.selects yX10_burrs.cls yX10_burrs yX10_burrs ∈ v_T := ⟨(v_w6 142 rfl rfl), (v_w6 143 rfl rfl)⟩
set_option maxRecDepth 20000 in
theorem cal_X10_feed : v_cal yX10_feed cX10_feed 7 (some .int) 5 := v_cal.mk (v_w6 148 rfl rfl) (v_w1 11 rfl rfl) (by decide +kernel)
set_option maxRecDepth 20000 in
theorem sel_X10_feed : Cond.instanceMethod yX10_feed ∈ v_T ∧ Cond.selects yX10_feed.cls yX10_feed yX10_feed ∈ v_T := ⟨(v_w6 146 rfl rfl), (v_w6 147 rfl rfl)⟩
set_option maxRecDepth 20000 in
theorem cal_X10_end : v_cal yX10_end cX10_end 2 (some .int) 1 := v_cal.mk (v_w6 152 rfl rfl) (v_w1 11 rfl rfl) (by decide +kernel)
set_option maxRecDepth 20000 in
theorem sel_X10_end : Cond.instanceMethod yX10_end ∈ v_T ∧ Cond.selects yX10_end.cls yX10_end yX10_end ∈ v_T := ⟨(v_w6 150 rfl rfl), (v_w6 151 rfl rfl)⟩
set_option maxRecDepth 20000 in
theorem cal_X10_law : v_cal yX10_law cX10_law 1 (some .int) 0 := v_cal.mk (v_w6 156 rfl rfl) (v_w1 11 rfl rfl) (by decide +kernel)
set_option maxRecDepth 20000 in
theorem sel_X10_law : Cond.instanceMethod yX10_law ∈ v_T ∧ Cond.selects yX10_law.cls yX10_law yX10_law ∈ v_T := ⟨(v_w6 154 rfl rfl), (v_w6 155 rfl rfl)⟩
set_option maxRecDepth 20000 in
theorem cal_X10_readsAs : v_cal yX10_readsAs cX10_readsAs 2 (some .boolean) 1 := v_cal.mk (v_w6 160 rfl rfl) (v_w1 11 rfl rfl) (by decide +kernel)
set_option maxRecDepth 20000 in
theorem sel_X10_readsAs : Cond.instanceMethod yX10_readsAs ∈ v_T ∧ Cond.selects yX10_readsAs.cls yX10_readsAs yX10_readsAs ∈ v_T := ⟨(v_w6 159 rfl rfl), (v_w 62 (by decide +kernel) rfl)⟩
set_option maxRecDepth 20000 in
theorem cal_X10_reads : v_cal yX10_reads cX10_reads 2 (some .boolean) 0 := v_cal.mk (v_w6 164 rfl rfl) (v_w1 11 rfl rfl) (by decide +kernel)
set_option maxRecDepth 20000 in
theorem sel_X10_reads : Cond.instanceMethod yX10_reads ∈ v_T ∧ Cond.selects yX10_reads.cls yX10_reads yX10_reads ∈ v_T := ⟨(v_w6 163 rfl rfl), (v_w 63 (by decide +kernel) rfl)⟩
set_option maxRecDepth 20000 in
theorem cal_X10_splits : v_cal yX10_splits cX10_splits 6 none 1 := v_cal.mk (v_w6 168 rfl rfl) (v_w1 11 rfl rfl) (by decide +kernel)
set_option maxRecDepth 20000 in
theorem sel_X10_splits : Cond.instanceMethod yX10_splits ∈ v_T ∧ Cond.selects yX10_splits.cls yX10_splits yX10_splits ∈ v_T := ⟨(v_w6 167 rfl rfl), (v_w 64 (by decide +kernel) rfl)⟩
set_option maxRecDepth 20000 in
theorem cal_X10_isSmall : v_cal yX10_isSmall cX10_isSmall 1 (some .boolean) 1 := v_cal.mk (v_w6 171 rfl rfl) (v_w1 11 rfl rfl) (by decide +kernel)
set_option maxRecDepth 20000 in
theorem sta_X10_isSmall : Cond.static yX10_isSmall ∈ v_T := (v_w6 170 rfl rfl)
set_option maxRecDepth 20000 in
theorem cal_X10_isDigit : v_cal yX10_isDigit cX10_isDigit 1 (some .boolean) 1 := v_cal.mk (v_w6 174 rfl rfl) (v_w1 11 rfl rfl) (by decide +kernel)
set_option maxRecDepth 20000 in
theorem sta_X10_isDigit : Cond.static yX10_isDigit ∈ v_T := (v_w6 173 rfl rfl)
set_option maxRecDepth 20000 in
theorem cal_X10_wordOf : v_cal yX10_wordOf cX10_wordOf 8 (some .int) 2 := v_cal.mk (v_w6 178 rfl rfl) (v_w1 11 rfl rfl) (by decide +kernel)
set_option maxRecDepth 20000 in
theorem sel_X10_wordOf : Cond.instanceMethod yX10_wordOf ∈ v_T ∧ Cond.selects yX10_wordOf.cls yX10_wordOf yX10_wordOf ∈ v_T := ⟨(v_w6 177 rfl rfl), (v_w 65 (by decide +kernel) rfl)⟩
set_option maxRecDepth 20000 in
theorem cal_X10_readOne : v_cal yX10_readOne cX10_readOne 1 none 0 := v_cal.mk (v_w6 183 rfl rfl) (v_w1 11 rfl rfl) (by decide +kernel)
set_option maxRecDepth 20000 in
theorem sel_X10_readOne : Cond.instanceMethod yX10_readOne ∈ v_T ∧ Cond.selects yX10_readOne.cls yX10_readOne yX10_readOne ∈ v_T := ⟨(v_w6 182 rfl rfl), (v_w 66 (by decide +kernel) rfl)⟩
set_option maxRecDepth 20000 in
theorem cal_X10_readOrder : v_cal yX10_readOrder cX10_readOrder 1 none 0 := v_cal.mk (v_w6 187 rfl rfl) (v_w1 11 rfl rfl) (by decide +kernel)
set_option maxRecDepth 20000 in
theorem sel_X10_readOrder : Cond.instanceMethod yX10_readOrder ∈ v_T ∧ Cond.selects yX10_readOrder.cls yX10_readOrder yX10_readOrder ∈ v_T := ⟨(v_w6 186 rfl rfl), (v_w 67 (by decide +kernel) rfl)⟩
set_option maxRecDepth 20000 in
theorem cal_X10_takes0 : v_cal yX10_takes0 cX10_takes0 3 (some .boolean) 1 := v_cal.mk (v_w6 191 rfl rfl) (v_w1 11 rfl rfl) (by decide +kernel)
set_option maxRecDepth 20000 in
theorem sel_X10_takes0 : Cond.instanceMethod yX10_takes0 ∈ v_T ∧ Cond.selects yX10_takes0.cls yX10_takes0 yX10_takes0 ∈ v_T := ⟨(v_w6 190 rfl rfl), (v_w 68 (by decide +kernel) rfl)⟩
set_option maxRecDepth 20000 in
theorem cal_X10_fine : v_cal yX10_fine cX10_fine 1 (some .boolean) 0 := v_cal.mk (v_w6 195 rfl rfl) (v_w1 11 rfl rfl) (by decide +kernel)
set_option maxRecDepth 20000 in
theorem sel_X10_fine : Cond.instanceMethod yX10_fine ∈ v_T ∧ Cond.selects yX10_fine.cls yX10_fine yX10_fine ∈ v_T := ⟨(v_w6 194 rfl rfl), (v_w 69 (by decide +kernel) rfl)⟩
set_option maxRecDepth 20000 in
theorem cal_X10_readSum : v_cal yX10_readSum cX10_readSum 2 none 1 := v_cal.mk (v_w6 199 rfl rfl) (v_w1 11 rfl rfl) (by decide +kernel)
set_option maxRecDepth 20000 in
theorem sel_X10_readSum : Cond.instanceMethod yX10_readSum ∈ v_T ∧ Cond.selects yX10_readSum.cls yX10_readSum yX10_readSum ∈ v_T := ⟨(v_w6 198 rfl rfl), (v_w 70 (by decide +kernel) rfl)⟩
set_option maxRecDepth 20000 in
theorem cal_X10_readTerm : v_cal yX10_readTerm cX10_readTerm 2 none 1 := v_cal.mk (v_w6 203 rfl rfl) (v_w1 11 rfl rfl) (by decide +kernel)
set_option maxRecDepth 20000 in
theorem sel_X10_readTerm : Cond.instanceMethod yX10_readTerm ∈ v_T ∧ Cond.selects yX10_readTerm.cls yX10_readTerm yX10_readTerm ∈ v_T := ⟨(v_w6 202 rfl rfl), (v_w 71 (by decide +kernel) rfl)⟩
set_option maxRecDepth 20000 in
theorem cal_X10_readPart : v_cal yX10_readPart cX10_readPart 3 none 1 := v_cal.mk (v_w6 207 rfl rfl) (v_w1 11 rfl rfl) (by decide +kernel)
set_option maxRecDepth 20000 in
theorem sel_X10_readPart : Cond.instanceMethod yX10_readPart ∈ v_T ∧ Cond.selects yX10_readPart.cls yX10_readPart yX10_readPart ∈ v_T := ⟨(v_w6 206 rfl rfl), (v_w 72 (by decide +kernel) rfl)⟩
set_option maxRecDepth 20000 in
theorem cal_X10_faults : v_cal yX10_faults cX10_faults 1 none 0 := v_cal.mk (v_w6 211 rfl rfl) (v_w1 11 rfl rfl) (by decide +kernel)
set_option maxRecDepth 20000 in
theorem sel_X10_faults : Cond.instanceMethod yX10_faults ∈ v_T ∧ Cond.selects yX10_faults.cls yX10_faults yX10_faults ∈ v_T := ⟨(v_w6 210 rfl rfl), (v_w 73 (by decide +kernel) rfl)⟩
set_option maxRecDepth 20000 in
theorem cal_X10_must : v_cal yX10_must cX10_must 2 none 1 := v_cal.mk (v_w6 215 rfl rfl) (v_w1 11 rfl rfl) (by decide +kernel)
set_option maxRecDepth 20000 in
theorem sel_X10_must : Cond.instanceMethod yX10_must ∈ v_T ∧ Cond.selects yX10_must.cls yX10_must yX10_must ∈ v_T := ⟨(v_w6 214 rfl rfl), (v_w 74 (by decide +kernel) rfl)⟩
set_option maxRecDepth 20000 in
theorem cal_X10_leaf : v_cal yX10_leaf cX10_leaf 1 none 0 := v_cal.mk (v_w6 219 rfl rfl) (v_w1 11 rfl rfl) (by decide +kernel)
set_option maxRecDepth 20000 in
theorem sel_X10_leaf : Cond.instanceMethod yX10_leaf ∈ v_T ∧ Cond.selects yX10_leaf.cls yX10_leaf yX10_leaf ∈ v_T := ⟨(v_w6 218 rfl rfl), (v_w 75 (by decide +kernel) rfl)⟩
set_option maxRecDepth 20000 in
theorem cal_X10_mustNumber : v_cal yX10_mustNumber cX10_mustNumber 3 none 2 := v_cal.mk (v_w6 223 rfl rfl) (v_w1 11 rfl rfl) (by decide +kernel)
set_option maxRecDepth 20000 in
theorem sel_X10_mustNumber : Cond.instanceMethod yX10_mustNumber ∈ v_T ∧ Cond.selects yX10_mustNumber.cls yX10_mustNumber yX10_mustNumber ∈ v_T := ⟨(v_w6 222 rfl rfl), (v_w 76 (by decide +kernel) rfl)⟩
set_option maxRecDepth 20000 in
theorem cal_X10_readTest : v_cal yX10_readTest cX10_readTest 2 none 1 := v_cal.mk (v_w6 227 rfl rfl) (v_w1 11 rfl rfl) (by decide +kernel)
set_option maxRecDepth 20000 in
theorem sel_X10_readTest : Cond.instanceMethod yX10_readTest ∈ v_T ∧ Cond.selects yX10_readTest.cls yX10_readTest yX10_readTest ∈ v_T := ⟨(v_w6 226 rfl rfl), (v_w 77 (by decide +kernel) rfl)⟩
set_option maxRecDepth 20000 in
theorem cal_X10_readBoth : v_cal yX10_readBoth cX10_readBoth 2 none 1 := v_cal.mk (v_w6 231 rfl rfl) (v_w1 11 rfl rfl) (by decide +kernel)
set_option maxRecDepth 20000 in
theorem sel_X10_readBoth : Cond.instanceMethod yX10_readBoth ∈ v_T ∧ Cond.selects yX10_readBoth.cls yX10_readBoth yX10_readBoth ∈ v_T := ⟨(v_w6 230 rfl rfl), (v_w 78 (by decide +kernel) rfl)⟩
set_option maxRecDepth 20000 in
theorem cal_X10_readPlain : v_cal yX10_readPlain cX10_readPlain 4 none 1 := v_cal.mk (v_w6 235 rfl rfl) (v_w1 11 rfl rfl) (by decide +kernel)
set_option maxRecDepth 20000 in
theorem sel_X10_readPlain : Cond.instanceMethod yX10_readPlain ∈ v_T ∧ Cond.selects yX10_readPlain.cls yX10_readPlain yX10_readPlain ∈ v_T := ⟨(v_w6 234 rfl rfl), (v_w 79 (by decide +kernel) rfl)⟩
set_option maxRecDepth 20000 in
theorem cal_X10_readClause : v_cal yX10_readClause cX10_readClause 1 none 0 := v_cal.mk (v_w6 239 rfl rfl) (v_w1 11 rfl rfl) (by decide +kernel)
set_option maxRecDepth 20000 in
theorem sel_X10_readClause : Cond.instanceMethod yX10_readClause ∈ v_T ∧ Cond.selects yX10_readClause.cls yX10_readClause yX10_readClause ∈ v_T := ⟨(v_w6 238 rfl rfl), (v_w 80 (by decide +kernel) rfl)⟩
set_option maxRecDepth 20000 in
theorem cal_X10_lays : v_cal yX10_lays cX10_lays 3 none 1 := v_cal.mk (v_w7 3 rfl rfl) (v_w1 11 rfl rfl) (by decide +kernel)
set_option maxRecDepth 20000 in
theorem sel_X10_lays : Cond.instanceMethod yX10_lays ∈ v_T ∧ Cond.selects yX10_lays.cls yX10_lays yX10_lays ∈ v_T := ⟨(v_w7 2 rfl rfl), (v_w 81 (by decide +kernel) rfl)⟩
set_option maxRecDepth 20000 in
theorem cal_X10_fault : v_cal yX10_fault cX10_fault 1 (some .int) 0 := v_cal.mk (v_w7 7 rfl rfl) (v_w1 11 rfl rfl) (by decide +kernel)
set_option maxRecDepth 20000 in
theorem sel_X10_fault : Cond.instanceMethod yX10_fault ∈ v_T ∧ Cond.selects yX10_fault.cls yX10_fault yX10_fault ∈ v_T := ⟨(v_w7 5 rfl rfl), (v_w7 6 rfl rfl)⟩
set_option maxRecDepth 20000 in
theorem cal_X10_force : v_cal yX10_force cX10_force 3 (some .int) 1 := v_cal.mk (v_w7 11 rfl rfl) (v_w1 11 rfl rfl) (by decide +kernel)
set_option maxRecDepth 20000 in
theorem sel_X10_force : Cond.instanceMethod yX10_force ∈ v_T ∧ Cond.selects yX10_force.cls yX10_force yX10_force ∈ v_T := ⟨(v_w7 9 rfl rfl), (v_w7 10 rfl rfl)⟩
set_option maxRecDepth 20000 in
theorem cal_X10_isLaw : v_cal yX10_isLaw cX10_isLaw 2 (some .boolean) 1 := v_cal.mk (v_w7 15 rfl rfl) (v_w1 11 rfl rfl) (by decide +kernel)
set_option maxRecDepth 20000 in
theorem sel_X10_isLaw : Cond.instanceMethod yX10_isLaw ∈ v_T ∧ Cond.selects yX10_isLaw.cls yX10_isLaw yX10_isLaw ∈ v_T := ⟨(v_w7 14 rfl rfl), (v_w 82 (by decide +kernel) rfl)⟩
set_option maxRecDepth 20000 in
theorem cal_X10_undo : v_cal yX10_undo cX10_undo 3 (some .int) 0 := v_cal.mk (v_w7 19 rfl rfl) (v_w1 11 rfl rfl) (by decide +kernel)
set_option maxRecDepth 20000 in
theorem sel_X10_undo : Cond.instanceMethod yX10_undo ∈ v_T ∧ Cond.selects yX10_undo.cls yX10_undo yX10_undo ∈ v_T := ⟨(v_w7 17 rfl rfl), (v_w7 18 rfl rfl)⟩
set_option maxRecDepth 20000 in
theorem cal_X10_touch : v_cal yX10_touch cX10_touch 2 (some .int) 1 := v_cal.mk (v_w7 23 rfl rfl) (v_w1 11 rfl rfl) (by decide +kernel)
set_option maxRecDepth 20000 in
theorem sel_X10_touch : Cond.instanceMethod yX10_touch ∈ v_T ∧ Cond.selects yX10_touch.cls yX10_touch yX10_touch ∈ v_T := ⟨(v_w7 21 rfl rfl), (v_w7 22 rfl rfl)⟩
set_option maxRecDepth 20000 in
theorem cal_X10_touchesKept : v_cal yX10_touchesKept cX10_touchesKept 3 (some .int) 1 := v_cal.mk (v_w7 27 rfl rfl) (v_w1 11 rfl rfl) (by decide +kernel)
set_option maxRecDepth 20000 in
theorem sel_X10_touchesKept : Cond.instanceMethod yX10_touchesKept ∈ v_T ∧ Cond.selects yX10_touchesKept.cls yX10_touchesKept yX10_touchesKept ∈ v_T := ⟨(v_w7 26 rfl rfl), (v_w 83 (by decide +kernel) rfl)⟩
set_option maxRecDepth 20000 in
theorem cal_X10_keeps : v_cal yX10_keeps cX10_keeps 4 none 1 := v_cal.mk (v_w7 31 rfl rfl) (v_w1 11 rfl rfl) (by decide +kernel)
set_option maxRecDepth 20000 in
theorem sel_X10_keeps : Cond.instanceMethod yX10_keeps ∈ v_T ∧ Cond.selects yX10_keeps.cls yX10_keeps yX10_keeps ∈ v_T := ⟨(v_w7 30 rfl rfl), (v_w 84 (by decide +kernel) rfl)⟩
set_option maxRecDepth 20000 in
theorem cal_X10_touches : v_cal yX10_touches cX10_touches 2 none 1 := v_cal.mk (v_w7 35 rfl rfl) (v_w1 11 rfl rfl) (by decide +kernel)
set_option maxRecDepth 20000 in
theorem sel_X10_touches : Cond.instanceMethod yX10_touches ∈ v_T ∧ Cond.selects yX10_touches.cls yX10_touches yX10_touches ∈ v_T := ⟨(v_w7 34 rfl rfl), (v_w 85 (by decide +kernel) rfl)⟩
set_option maxRecDepth 20000 in
theorem cal_X10_goodOr : v_cal yX10_goodOr cX10_goodOr 2 (some .int) 1 := v_cal.mk (v_w7 39 rfl rfl) (v_w1 11 rfl rfl) (by decide +kernel)
set_option maxRecDepth 20000 in
theorem sel_X10_goodOr : Cond.instanceMethod yX10_goodOr ∈ v_T ∧ Cond.selects yX10_goodOr.cls yX10_goodOr yX10_goodOr ∈ v_T := ⟨(v_w7 38 rfl rfl), (v_w 86 (by decide +kernel) rfl)⟩
set_option maxRecDepth 20000 in
theorem cal_X10_coax : v_cal yX10_coax cX10_coax 2 (some .int) 1 := v_cal.mk (v_w7 43 rfl rfl) (v_w1 11 rfl rfl) (by decide +kernel)
set_option maxRecDepth 20000 in
theorem sel_X10_coax : Cond.instanceMethod yX10_coax ∈ v_T ∧ Cond.selects yX10_coax.cls yX10_coax yX10_coax ∈ v_T := ⟨(v_w7 41 rfl rfl), (v_w7 42 rfl rfl)⟩
set_option maxRecDepth 20000 in
theorem cal_X10_coaxesKept : v_cal yX10_coaxesKept cX10_coaxesKept 2 (some .int) 1 := v_cal.mk (v_w7 47 rfl rfl) (v_w1 11 rfl rfl) (by decide +kernel)
set_option maxRecDepth 20000 in
theorem sel_X10_coaxesKept : Cond.instanceMethod yX10_coaxesKept ∈ v_T ∧ Cond.selects yX10_coaxesKept.cls yX10_coaxesKept yX10_coaxesKept ∈ v_T := ⟨(v_w7 46 rfl rfl), (v_w 87 (by decide +kernel) rfl)⟩
set_option maxRecDepth 20000 in
theorem cal_X10_tempt : v_cal yX10_tempt cX10_tempt 3 (some .int) 2 := v_cal.mk (v_w7 51 rfl rfl) (v_w1 11 rfl rfl) (by decide +kernel)
set_option maxRecDepth 20000 in
theorem sel_X10_tempt : Cond.instanceMethod yX10_tempt ∈ v_T ∧ Cond.selects yX10_tempt.cls yX10_tempt yX10_tempt ∈ v_T := ⟨(v_w7 49 rfl rfl), (v_w7 50 rfl rfl)⟩
set_option maxRecDepth 20000 in
theorem cal_X10_temptsKept : v_cal yX10_temptsKept cX10_temptsKept 4 (some .int) 2 := v_cal.mk (v_w7 55 rfl rfl) (v_w1 11 rfl rfl) (by decide +kernel)
set_option maxRecDepth 20000 in
theorem sel_X10_temptsKept : Cond.instanceMethod yX10_temptsKept ∈ v_T ∧ Cond.selects yX10_temptsKept.cls yX10_temptsKept yX10_temptsKept ∈ v_T := ⟨(v_w7 54 rfl rfl), (v_w 88 (by decide +kernel) rfl)⟩
set_option maxRecDepth 20000 in
theorem cal_X10_pass : v_cal yX10_pass cX10_pass 1 (some .int) 0 := v_cal.mk (v_w7 59 rfl rfl) (v_w1 11 rfl rfl) (by decide +kernel)
set_option maxRecDepth 20000 in
theorem sel_X10_pass : Cond.instanceMethod yX10_pass ∈ v_T ∧ Cond.selects yX10_pass.cls yX10_pass yX10_pass ∈ v_T := ⟨(v_w7 57 rfl rfl), (v_w7 58 rfl rfl)⟩
set_option maxRecDepth 20000 in
theorem cal_X10_passesKept : v_cal yX10_passesKept cX10_passesKept 1 (some .int) 0 := v_cal.mk (v_w7 63 rfl rfl) (v_w1 11 rfl rfl) (by decide +kernel)
set_option maxRecDepth 20000 in
theorem sel_X10_passesKept : Cond.instanceMethod yX10_passesKept ∈ v_T ∧ Cond.selects yX10_passesKept.cls yX10_passesKept yX10_passesKept ∈ v_T := ⟨(v_w7 62 rfl rfl), (v_w 89 (by decide +kernel) rfl)⟩
set_option maxRecDepth 20000 in
theorem cal_X10_minutePasses : v_cal yX10_minutePasses cX10_minutePasses 4 (some .int) 1 := v_cal.mk (v_w7 67 rfl rfl) (v_w1 11 rfl rfl) (by decide +kernel)
set_option maxRecDepth 20000 in
theorem sel_X10_minutePasses : Cond.instanceMethod yX10_minutePasses ∈ v_T ∧ Cond.selects yX10_minutePasses.cls yX10_minutePasses yX10_minutePasses ∈ v_T := ⟨(v_w7 66 rfl rfl), (v_w 90 (by decide +kernel) rfl)⟩
set_option maxRecDepth 20000 in
theorem cal_X10_lesser : v_cal yX10_lesser cX10_lesser 2 (some .int) 2 := v_cal.mk (v_w7 70 rfl rfl) (v_w1 11 rfl rfl) (by decide +kernel)
set_option maxRecDepth 20000 in
theorem sta_X10_lesser : Cond.static yX10_lesser ∈ v_T := (v_w7 69 rfl rfl)
set_option maxRecDepth 20000 in
theorem cal_X10_later : v_cal yX10_later cX10_later 2 (some .int) 1 := v_cal.mk (v_w7 74 rfl rfl) (v_w1 11 rfl rfl) (by decide +kernel)
set_option maxRecDepth 20000 in
theorem sel_X10_later : Cond.instanceMethod yX10_later ∈ v_T ∧ Cond.selects yX10_later.cls yX10_later yX10_later ∈ v_T := ⟨(v_w7 72 rfl rfl), (v_w7 73 rfl rfl)⟩
set_option maxRecDepth 20000 in
theorem cal_X10_laysAllMinutes : v_cal yX10_laysAllMinutes cX10_laysAllMinutes 4 none 3 := v_cal.mk (v_w7 78 rfl rfl) (v_w1 11 rfl rfl) (by decide +kernel)
set_option maxRecDepth 20000 in
theorem sel_X10_laysAllMinutes : Cond.instanceMethod yX10_laysAllMinutes ∈ v_T ∧ Cond.selects yX10_laysAllMinutes.cls yX10_laysAllMinutes yX10_laysAllMinutes ∈ v_T := ⟨(v_w7 77 rfl rfl), (v_w 91 (by decide +kernel) rfl)⟩
set_option maxRecDepth 20000 in
theorem cal_X10_laysMinutes : v_cal yX10_laysMinutes cX10_laysMinutes 7 (some .int) 4 := v_cal.mk (v_w7 82 rfl rfl) (v_w1 11 rfl rfl) (by decide +kernel)
set_option maxRecDepth 20000 in
theorem sel_X10_laysMinutes : Cond.instanceMethod yX10_laysMinutes ∈ v_T ∧ Cond.selects yX10_laysMinutes.cls yX10_laysMinutes yX10_laysMinutes ∈ v_T := ⟨(v_w7 81 rfl rfl), (v_w 92 (by decide +kernel) rfl)⟩
set_option maxRecDepth 20000 in
theorem cal_X10_laysAside : v_cal yX10_laysAside cX10_laysAside 3 none 1 := v_cal.mk (v_w7 86 rfl rfl) (v_w1 11 rfl rfl) (by decide +kernel)
set_option maxRecDepth 20000 in
theorem sel_X10_laysAside : Cond.instanceMethod yX10_laysAside ∈ v_T ∧ Cond.selects yX10_laysAside.cls yX10_laysAside yX10_laysAside ∈ v_T := ⟨(v_w7 85 rfl rfl), (v_w 93 (by decide +kernel) rfl)⟩
set_option maxRecDepth 20000 in
theorem cal_X10_isSettled : v_cal yX10_isSettled cX10_isSettled 2 (some .boolean) 1 := v_cal.mk (v_w7 90 rfl rfl) (v_w1 11 rfl rfl) (by decide +kernel)
set_option maxRecDepth 20000 in
theorem sel_X10_isSettled : Cond.instanceMethod yX10_isSettled ∈ v_T ∧ Cond.selects yX10_isSettled.cls yX10_isSettled yX10_isSettled ∈ v_T := ⟨(v_w7 89 rfl rfl), (v_w 94 (by decide +kernel) rfl)⟩
set_option maxRecDepth 20000 in
theorem cal_X10_takesBack : v_cal yX10_takesBack cX10_takesBack 3 none 1 := v_cal.mk (v_w7 94 rfl rfl) (v_w1 11 rfl rfl) (by decide +kernel)
set_option maxRecDepth 20000 in
theorem sel_X10_takesBack : Cond.instanceMethod yX10_takesBack ∈ v_T ∧ Cond.selects yX10_takesBack.cls yX10_takesBack yX10_takesBack ∈ v_T := ⟨(v_w7 93 rfl rfl), (v_w 95 (by decide +kernel) rfl)⟩
set_option maxRecDepth 20000 in
theorem cal_X10_opens : v_cal yX10_opens cX10_opens 2 (some .int) 1 := v_cal.mk (v_w7 98 rfl rfl) (v_w1 11 rfl rfl) (by decide +kernel)
set_option maxRecDepth 20000 in
theorem sel_X10_opens : Cond.instanceMethod yX10_opens ∈ v_T ∧ Cond.selects yX10_opens.cls yX10_opens yX10_opens ∈ v_T := ⟨(v_w7 96 rfl rfl), (v_w7 97 rfl rfl)⟩
set_option maxRecDepth 20000 in
theorem cal_X10_opensBy : v_cal yX10_opensBy cX10_opensBy 4 (some .int) 2 := v_cal.mk (v_w7 102 rfl rfl) (v_w1 11 rfl rfl) (by decide +kernel)
set_option maxRecDepth 20000 in
theorem sel_X10_opensBy : Cond.instanceMethod yX10_opensBy ∈ v_T ∧ Cond.selects yX10_opensBy.cls yX10_opensBy yX10_opensBy ∈ v_T := ⟨(v_w7 101 rfl rfl), (v_w 96 (by decide +kernel) rfl)⟩
set_option maxRecDepth 20000 in
theorem cal_X10_together : v_cal yX10_together cX10_together 1 (some .int) 0 := v_cal.mk (v_w7 106 rfl rfl) (v_w1 11 rfl rfl) (by decide +kernel)
set_option maxRecDepth 20000 in
theorem sel_X10_together : Cond.instanceMethod yX10_together ∈ v_T ∧ Cond.selects yX10_together.cls yX10_together yX10_together ∈ v_T := ⟨(v_w7 104 rfl rfl), (v_w7 105 rfl rfl)⟩
set_option maxRecDepth 20000 in
theorem cal_X10_again : v_cal yX10_again cX10_again 2 (some .int) 0 := v_cal.mk (v_w7 110 rfl rfl) (v_w1 11 rfl rfl) (by decide +kernel)
set_option maxRecDepth 20000 in
theorem sel_X10_again : Cond.instanceMethod yX10_again ∈ v_T ∧ Cond.selects yX10_again.cls yX10_again yX10_again ∈ v_T := ⟨(v_w7 108 rfl rfl), (v_w7 109 rfl rfl)⟩
set_option maxRecDepth 20000 in
theorem cal_X10_seeds : v_cal yX10_seeds cX10_seeds 2 (some .int) 1 := v_cal.mk (v_w7 114 rfl rfl) (v_w1 11 rfl rfl) (by decide +kernel)
set_option maxRecDepth 20000 in
theorem sel_X10_seeds : Cond.instanceMethod yX10_seeds ∈ v_T ∧ Cond.selects yX10_seeds.cls yX10_seeds yX10_seeds ∈ v_T := ⟨(v_w7 112 rfl rfl), (v_w7 113 rfl rfl)⟩
set_option maxRecDepth 20000 in
theorem cal_X10_shutNow : v_cal yX10_shutNow cX10_shutNow 1 (some .int) 0 := v_cal.mk (v_w7 118 rfl rfl) (v_w1 11 rfl rfl) (by decide +kernel)
set_option maxRecDepth 20000 in
theorem sel_X10_shutNow : Cond.instanceMethod yX10_shutNow ∈ v_T ∧ Cond.selects yX10_shutNow.cls yX10_shutNow yX10_shutNow ∈ v_T := ⟨(v_w7 117 rfl rfl), (v_w 97 (by decide +kernel) rfl)⟩
set_option maxRecDepth 20000 in
theorem cal_X10_fewestFor : v_cal yX10_fewestFor cX10_fewestFor 5 (some .int) 2 := v_cal.mk (v_w7 122 rfl rfl) (v_w1 11 rfl rfl) (by decide +kernel)
set_option maxRecDepth 20000 in
theorem sel_X10_fewestFor : Cond.instanceMethod yX10_fewestFor ∈ v_T ∧ Cond.selects yX10_fewestFor.cls yX10_fewestFor yX10_fewestFor ∈ v_T := ⟨(v_w7 121 rfl rfl), (v_w 98 (by decide +kernel) rfl)⟩
set_option maxRecDepth 20000 in
theorem cal_X10_toldOf : v_cal yX10_toldOf cX10_toldOf 2 (some .int) 2 := v_cal.mk (v_w7 125 rfl rfl) (v_w1 11 rfl rfl) (by decide +kernel)
set_option maxRecDepth 20000 in
theorem sta_X10_toldOf : Cond.static yX10_toldOf ∈ v_T := (v_w7 124 rfl rfl)
set_option maxRecDepth 20000 in
theorem cal_X10_seedsFor : v_cal yX10_seedsFor cX10_seedsFor 3 (some .int) 2 := v_cal.mk (v_w7 129 rfl rfl) (v_w1 11 rfl rfl) (by decide +kernel)
set_option maxRecDepth 20000 in
theorem sel_X10_seedsFor : Cond.instanceMethod yX10_seedsFor ∈ v_T ∧ Cond.selects yX10_seedsFor.cls yX10_seedsFor yX10_seedsFor ∈ v_T := ⟨(v_w7 127 rfl rfl), (v_w7 128 rfl rfl)⟩
set_option maxRecDepth 20000 in
theorem cal_X10_spread : v_cal yX10_spread cX10_spread 4 (some .int) 1 := v_cal.mk (v_w7 133 rfl rfl) (v_w1 11 rfl rfl) (by decide +kernel)
set_option maxRecDepth 20000 in
theorem sel_X10_spread : Cond.instanceMethod yX10_spread ∈ v_T ∧ Cond.selects yX10_spread.cls yX10_spread yX10_spread ∈ v_T := ⟨(v_w7 131 rfl rfl), (v_w7 132 rfl rfl)⟩
set_option maxRecDepth 20000 in
theorem cal_X10_openLast : v_cal yX10_openLast cX10_openLast 3 (some .int) 2 := v_cal.mk (v_w7 137 rfl rfl) (v_w1 11 rfl rfl) (by decide +kernel)
set_option maxRecDepth 20000 in
theorem sel_X10_openLast : Cond.instanceMethod yX10_openLast ∈ v_T ∧ Cond.selects yX10_openLast.cls yX10_openLast yX10_openLast ∈ v_T := ⟨(v_w7 136 rfl rfl), (v_w 99 (by decide +kernel) rfl)⟩
set_option maxRecDepth 20000 in
theorem cal_X10_held : v_cal yX10_held cX10_held 3 (some .int) 2 := v_cal.mk (v_w7 141 rfl rfl) (v_w1 11 rfl rfl) (by decide +kernel)
set_option maxRecDepth 20000 in
theorem sel_X10_held : Cond.instanceMethod yX10_held ∈ v_T ∧ Cond.selects yX10_held.cls yX10_held yX10_held ∈ v_T := ⟨(v_w7 139 rfl rfl), (v_w7 140 rfl rfl)⟩
set_option maxRecDepth 20000 in
theorem cal_X10_fewestHeld : v_cal yX10_fewestHeld cX10_fewestHeld 5 (some .int) 1 := v_cal.mk (v_w7 145 rfl rfl) (v_w1 11 rfl rfl) (by decide +kernel)
set_option maxRecDepth 20000 in
theorem sel_X10_fewestHeld : Cond.instanceMethod yX10_fewestHeld ∈ v_T ∧ Cond.selects yX10_fewestHeld.cls yX10_fewestHeld yX10_fewestHeld ∈ v_T := ⟨(v_w7 144 rfl rfl), (v_w 100 (by decide +kernel) rfl)⟩
set_option maxRecDepth 20000 in
theorem cal_X10_staysShut : v_cal yX10_staysShut cX10_staysShut 4 (some .boolean) 2 := v_cal.mk (v_w7 149 rfl rfl) (v_w1 11 rfl rfl) (by decide +kernel)
set_option maxRecDepth 20000 in
theorem sel_X10_staysShut : Cond.instanceMethod yX10_staysShut ∈ v_T ∧ Cond.selects yX10_staysShut.cls yX10_staysShut yX10_staysShut ∈ v_T := ⟨(v_w7 148 rfl rfl), (v_w 101 (by decide +kernel) rfl)⟩
set_option maxRecDepth 20000 in
theorem cal_X10_compare : v_cal yX10_compare cX10_compare 4 (some .int) 1 := v_cal.mk (v_w7 153 rfl rfl) (v_w1 11 rfl rfl) (by decide +kernel)
set_option maxRecDepth 20000 in
theorem sel_X10_compare : Cond.instanceMethod yX10_compare ∈ v_T ∧ Cond.selects yX10_compare.cls yX10_compare yX10_compare ∈ v_T := ⟨(v_w7 151 rfl rfl), (v_w7 152 rfl rfl)⟩
set_option maxRecDepth 20000 in
theorem cal_X10_openNext : v_cal yX10_openNext cX10_openNext 3 (some .int) 0 := v_cal.mk (v_w7 157 rfl rfl) (v_w1 11 rfl rfl) (by decide +kernel)
set_option maxRecDepth 20000 in
theorem sel_X10_openNext : Cond.instanceMethod yX10_openNext ∈ v_T ∧ Cond.selects yX10_openNext.cls yX10_openNext yX10_openNext ∈ v_T := ⟨(v_w7 156 rfl rfl), (v_w 102 (by decide +kernel) rfl)⟩
set_option maxRecDepth 20000 in
theorem cal_X10_chain : v_cal yX10_chain cX10_chain 6 (some .int) 3 := v_cal.mk (v_w7 161 rfl rfl) (v_w1 11 rfl rfl) (by decide +kernel)
set_option maxRecDepth 20000 in
theorem sel_X10_chain : Cond.instanceMethod yX10_chain ∈ v_T ∧ Cond.selects yX10_chain.cls yX10_chain yX10_chain ∈ v_T := ⟨(v_w7 159 rfl rfl), (v_w7 160 rfl rfl)⟩
set_option maxRecDepth 20000 in
theorem cal_X10_laysLeft : v_cal yX10_laysLeft cX10_laysLeft 5 none 1 := v_cal.mk (v_w7 165 rfl rfl) (v_w1 11 rfl rfl) (by decide +kernel)
set_option maxRecDepth 20000 in
theorem sel_X10_laysLeft : Cond.instanceMethod yX10_laysLeft ∈ v_T ∧ Cond.selects yX10_laysLeft.cls yX10_laysLeft yX10_laysLeft ∈ v_T := ⟨(v_w7 164 rfl rfl), (v_w 103 (by decide +kernel) rfl)⟩
set_option maxRecDepth 20000 in
theorem cal_X10_watches : v_cal yX10_watches cX10_watches 3 (some .boolean) 2 := v_cal.mk (v_w7 169 rfl rfl) (v_w1 11 rfl rfl) (by decide +kernel)
set_option maxRecDepth 20000 in
theorem sel_X10_watches : Cond.instanceMethod yX10_watches ∈ v_T ∧ Cond.selects yX10_watches.cls yX10_watches yX10_watches ∈ v_T := ⟨(v_w7 168 rfl rfl), (v_w 104 (by decide +kernel) rfl)⟩
set_option maxRecDepth 20000 in
theorem cal_X10_nextInChain : v_cal yX10_nextInChain cX10_nextInChain 3 (some .int) 1 := v_cal.mk (v_w7 173 rfl rfl) (v_w1 11 rfl rfl) (by decide +kernel)
set_option maxRecDepth 20000 in
theorem sel_X10_nextInChain : Cond.instanceMethod yX10_nextInChain ∈ v_T ∧ Cond.selects yX10_nextInChain.cls yX10_nextInChain yX10_nextInChain ∈ v_T := ⟨(v_w7 172 rfl rfl), (v_w 105 (by decide +kernel) rfl)⟩
set_option maxRecDepth 20000 in
theorem cal_X10_knots : v_cal yX10_knots cX10_knots 3 (some .int) 0 := v_cal.mk (v_w7 177 rfl rfl) (v_w1 11 rfl rfl) (by decide +kernel)
set_option maxRecDepth 20000 in
theorem sel_X10_knots : Cond.instanceMethod yX10_knots ∈ v_T ∧ Cond.selects yX10_knots.cls yX10_knots yX10_knots ∈ v_T := ⟨(v_w7 175 rfl rfl), (v_w7 176 rfl rfl)⟩
set_option maxRecDepth 20000 in
theorem cal_X10_laysKnots : v_cal yX10_laysKnots cX10_laysKnots 3 none 0 := v_cal.mk (v_w7 181 rfl rfl) (v_w1 11 rfl rfl) (by decide +kernel)
set_option maxRecDepth 20000 in
theorem sel_X10_laysKnots : Cond.instanceMethod yX10_laysKnots ∈ v_T ∧ Cond.selects yX10_laysKnots.cls yX10_laysKnots yX10_laysKnots ∈ v_T := ⟨(v_w7 180 rfl rfl), (v_w 106 (by decide +kernel) rfl)⟩
set_option maxRecDepth 20000 in
theorem cal_X10_reached : v_cal yX10_reached cX10_reached 5 (some .int) 1 := v_cal.mk (v_w7 185 rfl rfl) (v_w1 11 rfl rfl) (by decide +kernel)
set_option maxRecDepth 20000 in
theorem sel_X10_reached : Cond.instanceMethod yX10_reached ∈ v_T ∧ Cond.selects yX10_reached.cls yX10_reached yX10_reached ∈ v_T := ⟨(v_w7 184 rfl rfl), (v_w 107 (by decide +kernel) rfl)⟩
set_option maxRecDepth 20000 in
theorem cal_X10_isLowest : v_cal yX10_isLowest cX10_isLowest 2 (some .boolean) 1 := v_cal.mk (v_w7 189 rfl rfl) (v_w1 11 rfl rfl) (by decide +kernel)
set_option maxRecDepth 20000 in
theorem sel_X10_isLowest : Cond.instanceMethod yX10_isLowest ∈ v_T ∧ Cond.selects yX10_isLowest.cls yX10_isLowest yX10_isLowest ∈ v_T := ⟨(v_w7 188 rfl rfl), (v_w 108 (by decide +kernel) rfl)⟩
set_option maxRecDepth 20000 in
theorem cal_X10_heads : v_cal yX10_heads cX10_heads 4 (some .int) 1 := v_cal.mk (v_w7 193 rfl rfl) (v_w1 11 rfl rfl) (by decide +kernel)
set_option maxRecDepth 20000 in
theorem sel_X10_heads : Cond.instanceMethod yX10_heads ∈ v_T ∧ Cond.selects yX10_heads.cls yX10_heads yX10_heads ∈ v_T := ⟨(v_w7 191 rfl rfl), (v_w7 192 rfl rfl)⟩
set_option maxRecDepth 20000 in
theorem cal_X10_isReached : v_cal yX10_isReached cX10_isReached 4 (some .boolean) 1 := v_cal.mk (v_w7 197 rfl rfl) (v_w1 11 rfl rfl) (by decide +kernel)
set_option maxRecDepth 20000 in
theorem sel_X10_isReached : Cond.instanceMethod yX10_isReached ∈ v_T ∧ Cond.selects yX10_isReached.cls yX10_isReached yX10_isReached ∈ v_T := ⟨(v_w7 196 rfl rfl), (v_w 109 (by decide +kernel) rfl)⟩
set_option maxRecDepth 20000 in
theorem cal_X10_seen : v_cal yX10_seen cX10_seen 4 (some .int) 2 := v_cal.mk (v_w7 201 rfl rfl) (v_w1 11 rfl rfl) (by decide +kernel)
set_option maxRecDepth 20000 in
theorem sel_X10_seen : Cond.instanceMethod yX10_seen ∈ v_T ∧ Cond.selects yX10_seen.cls yX10_seen yX10_seen ∈ v_T := ⟨(v_w7 199 rfl rfl), (v_w7 200 rfl rfl)⟩
set_option maxRecDepth 20000 in
theorem cal_X10_forget : v_cal yX10_forget cX10_forget 2 (some .int) 0 := v_cal.mk (v_w7 205 rfl rfl) (v_w1 11 rfl rfl) (by decide +kernel)
set_option maxRecDepth 20000 in
theorem sel_X10_forget : Cond.instanceMethod yX10_forget ∈ v_T ∧ Cond.selects yX10_forget.cls yX10_forget yX10_forget ∈ v_T := ⟨(v_w7 203 rfl rfl), (v_w7 204 rfl rfl)⟩
set_option maxRecDepth 20000 in
theorem cal_X10_canBe : v_cal yX10_canBe cX10_canBe 3 (some .int) 0 := v_cal.mk (v_w7 209 rfl rfl) (v_w1 11 rfl rfl) (by decide +kernel)
set_option maxRecDepth 20000 in
theorem sel_X10_canBe : Cond.instanceMethod yX10_canBe ∈ v_T ∧ Cond.selects yX10_canBe.cls yX10_canBe yX10_canBe ∈ v_T := ⟨(v_w7 207 rfl rfl), (v_w7 208 rfl rfl)⟩
set_option maxRecDepth 20000 in
theorem cal_X10_asSeen : v_cal yX10_asSeen cX10_asSeen 3 (some .int) 1 := v_cal.mk (v_w7 213 rfl rfl) (v_w1 11 rfl rfl) (by decide +kernel)
set_option maxRecDepth 20000 in
theorem sel_X10_asSeen : Cond.instanceMethod yX10_asSeen ∈ v_T ∧ Cond.selects yX10_asSeen.cls yX10_asSeen yX10_asSeen ∈ v_T := ⟨(v_w7 212 rfl rfl), (v_w 110 (by decide +kernel) rfl)⟩
set_option maxRecDepth 20000 in
theorem cal_X10_look : v_cal yX10_look cX10_look 7 (some .int) 1 := v_cal.mk (v_w7 217 rfl rfl) (v_w1 11 rfl rfl) (by decide +kernel)
set_option maxRecDepth 20000 in
theorem sel_X10_look : Cond.instanceMethod yX10_look ∈ v_T ∧ Cond.selects yX10_look.cls yX10_look yX10_look ∈ v_T := ⟨(v_w7 215 rfl rfl), (v_w7 216 rfl rfl)⟩
set_option maxRecDepth 20000 in
theorem cal_X10_greater : v_cal yX10_greater cX10_greater 2 (some .int) 2 := v_cal.mk (v_w7 221 rfl rfl) (v_w1 11 rfl rfl) (by decide +kernel)
set_option maxRecDepth 20000 in
theorem sta_X10_greater : Cond.static yX10_greater ∈ v_T := (v_w7 220 rfl rfl)
set_option maxRecDepth 20000 in
theorem cal_X10_few : v_cal yX10_few cX10_few 6 (some .long) 2 := v_cal.mk (v_w7 225 rfl rfl) (v_w1 11 rfl rfl) (by decide +kernel)
set_option maxRecDepth 20000 in
theorem sel_X10_few : Cond.instanceMethod yX10_few ∈ v_T ∧ Cond.selects yX10_few.cls yX10_few yX10_few ∈ v_T := ⟨(v_w7 223 rfl rfl), (v_w7 224 rfl rfl)⟩
set_option maxRecDepth 20000 in
theorem cal_X10_stopped : v_cal yX10_stopped cX10_stopped 1 (some .int) 0 := v_cal.mk (v_w7 232 rfl rfl) (v_w1 11 rfl rfl) (by decide +kernel)
set_option maxRecDepth 20000 in
theorem sel_X10_stopped : Cond.instanceMethod yX10_stopped ∈ v_T ∧ Cond.selects yX10_stopped.cls yX10_stopped yX10_stopped ∈ v_T := ⟨(v_w7 230 rfl rfl), (v_w7 231 rfl rfl)⟩
set_option maxRecDepth 20000 in
theorem cal_X10_orders : v_cal yX10_orders cX10_orders 5 (some .int) 0 := v_cal.mk (v_w7 236 rfl rfl) (v_w1 11 rfl rfl) (by decide +kernel)
set_option maxRecDepth 20000 in
theorem sel_X10_orders : Cond.instanceMethod yX10_orders ∈ v_T ∧ Cond.selects yX10_orders.cls yX10_orders yX10_orders ∈ v_T := ⟨(v_w7 234 rfl rfl), (v_w7 235 rfl rfl)⟩
set_option maxRecDepth 20000 in
theorem cal_X10_runs : v_cal yX10_runs cX10_runs 5 (some .boolean) 1 := v_cal.mk (v_w8 0 rfl rfl) (v_w1 11 rfl rfl) (by decide +kernel)
set_option maxRecDepth 20000 in
theorem sel_X10_runs : Cond.instanceMethod yX10_runs ∈ v_T ∧ Cond.selects yX10_runs.cls yX10_runs yX10_runs ∈ v_T := ⟨(v_w7 239 rfl rfl), (v_w 111 (by decide +kernel) rfl)⟩
set_option maxRecDepth 20000 in
theorem cal_X10_goesAlong : v_cal yX10_goesAlong cX10_goesAlong 5 none 2 := v_cal.mk (v_w8 4 rfl rfl) (v_w1 11 rfl rfl) (by decide +kernel)
set_option maxRecDepth 20000 in
theorem sel_X10_goesAlong : Cond.instanceMethod yX10_goesAlong ∈ v_T ∧ Cond.selects yX10_goesAlong.cls yX10_goesAlong yX10_goesAlong ∈ v_T := ⟨(v_w8 3 rfl rfl), (v_w 112 (by decide +kernel) rfl)⟩
set_option maxRecDepth 20000 in
theorem cal_X10_obeys : v_cal yX10_obeys cX10_obeys 3 (some .int) 0 := v_cal.mk (v_w8 8 rfl rfl) (v_w1 11 rfl rfl) (by decide +kernel)
set_option maxRecDepth 20000 in
theorem sel_X10_obeys : Cond.instanceMethod yX10_obeys ∈ v_T ∧ Cond.selects yX10_obeys.cls yX10_obeys yX10_obeys ∈ v_T := ⟨(v_w8 7 rfl rfl), (v_w 113 (by decide +kernel) rfl)⟩
set_option maxRecDepth 20000 in
theorem cal_X10_small : v_cal yX10_small cX10_small 2 (some .int) 1 := v_cal.mk (v_w8 11 rfl rfl) (v_w1 11 rfl rfl) (by decide +kernel)
set_option maxRecDepth 20000 in
theorem sta_X10_small : Cond.static yX10_small ∈ v_T := (v_w8 10 rfl rfl)
set_option maxRecDepth 20000 in
theorem cal_X10_councils : v_cal yX10_councils cX10_councils 5 (some .int) 2 := v_cal.mk (v_w8 16 rfl rfl) (v_w1 11 rfl rfl) (by decide +kernel)
set_option maxRecDepth 20000 in
theorem sel_X10_councils : Cond.instanceMethod yX10_councils ∈ v_T ∧ Cond.selects yX10_councils.cls yX10_councils yX10_councils ∈ v_T := ⟨(v_w8 14 rfl rfl), (v_w8 15 rfl rfl)⟩
set_option maxRecDepth 20000 in
theorem cal_X10_drawnAct : v_cal yX10_drawnAct cX10_drawnAct 3 none 0 := v_cal.mk (v_w8 20 rfl rfl) (v_w1 11 rfl rfl) (by decide +kernel)
set_option maxRecDepth 20000 in
theorem sel_X10_drawnAct : Cond.instanceMethod yX10_drawnAct ∈ v_T ∧ Cond.selects yX10_drawnAct.cls yX10_drawnAct yX10_drawnAct ∈ v_T := ⟨(v_w8 19 rfl rfl), (v_w 114 (by decide +kernel) rfl)⟩
set_option maxRecDepth 20000 in
theorem cal_X10_draws : v_cal yX10_draws cX10_draws 2 (some .int) 1 := v_cal.mk (v_w8 24 rfl rfl) (v_w1 11 rfl rfl) (by decide +kernel)
set_option maxRecDepth 20000 in
theorem sel_X10_draws : Cond.instanceMethod yX10_draws ∈ v_T ∧ Cond.selects yX10_draws.cls yX10_draws yX10_draws ∈ v_T := ⟨(v_w8 23 rfl rfl), (v_w 115 (by decide +kernel) rfl)⟩
set_option maxRecDepth 20000 in
theorem cal_X10_drawn : v_cal yX10_drawn cX10_drawn 3 (some .int) 2 := v_cal.mk (v_w8 31 rfl rfl) (v_w1 11 rfl rfl) (by decide +kernel)
set_option maxRecDepth 20000 in
theorem sel_X10_drawn : Cond.instanceMethod yX10_drawn ∈ v_T ∧ Cond.selects yX10_drawn.cls yX10_drawn yX10_drawn ∈ v_T := ⟨(v_w8 29 rfl rfl), (v_w8 30 rfl rfl)⟩
set_option maxRecDepth 20000 in
theorem cal_X10_count : v_cal yX10_count cX10_count 2 (some .int) 1 := v_cal.mk (v_w8 35 rfl rfl) (v_w1 11 rfl rfl) (by decide +kernel)
set_option maxRecDepth 20000 in
theorem sel_X10_count : Cond.instanceMethod yX10_count ∈ v_T ∧ Cond.selects yX10_count.cls yX10_count yX10_count ∈ v_T := ⟨(v_w8 33 rfl rfl), (v_w8 34 rfl rfl)⟩
set_option maxRecDepth 20000 in
theorem cal_X10_refusals : v_cal yX10_refusals cX10_refusals 2 (some .int) 1 := v_cal.mk (v_w8 39 rfl rfl) (v_w1 11 rfl rfl) (by decide +kernel)
set_option maxRecDepth 20000 in
theorem sel_X10_refusals : Cond.instanceMethod yX10_refusals ∈ v_T ∧ Cond.selects yX10_refusals.cls yX10_refusals yX10_refusals ∈ v_T := ⟨(v_w8 38 rfl rfl), (v_w 116 (by decide +kernel) rfl)⟩
set_option maxRecDepth 20000 in
theorem cal_X10_status : v_cal yX10_status cX10_status 1 (some .int) 0 := v_cal.mk (v_w8 43 rfl rfl) (v_w1 11 rfl rfl) (by decide +kernel)
set_option maxRecDepth 20000 in
theorem sel_X10_status : Cond.instanceMethod yX10_status ∈ v_T ∧ Cond.selects yX10_status.cls yX10_status yX10_status ∈ v_T := ⟨(v_w8 41 rfl rfl), (v_w8 42 rfl rfl)⟩
set_option maxRecDepth 20000 in
theorem oi_i : Cond.instanceMethod Lib.objectInit ∈ v_T := (v_w1 26 rfl rfl)
set_option maxRecDepth 20000 in
theorem oi_c : Cond.code Lib.objectInit ⟨#[0xb1]⟩ 1 none ∈ v_T := (v_w1 27 rfl rfl)
set_option maxRecDepth 20000 in
theorem cl_L_7 : Cond.classLink RL 7 RX9 ∈ v_T := (v_w1 20 rfl rfl)
set_option maxRecDepth 20000 in
theorem ml_L_9 : Cond.methodLink RL 9 yX9_init ∈ v_T := (v_w1 22 rfl rfl)
set_option maxRecDepth 20000 in
theorem ml_X9_3 : Cond.methodLink RX9 3 Lib.objectInit ∈ v_T := (v_w1 25 rfl rfl)
set_option maxRecDepth 20000 in
theorem cl_X9_9 : Cond.classLink RX9 9 RX0 ∈ v_T := (v_w1 28 rfl rfl)
set_option maxRecDepth 20000 in
theorem ml_X0_3 : Cond.methodLink RX0 3 Lib.objectInit ∈ v_T := (v_w1 33 rfl rfl)
set_option maxRecDepth 20000 in
theorem cl_X0_15 : Cond.classLink RX0 15 RX3 ∈ v_T := (v_w1 34 rfl rfl)
set_option maxRecDepth 20000 in
theorem ml_X3_3 : Cond.methodLink RX3 3 Lib.objectInit ∈ v_T := (v_w1 39 rfl rfl)
set_option maxRecDepth 20000 in
theorem ka_int : Cond.arrayClass .int ∈ v_T := (v_w1 66 rfl rfl)
set_option maxRecDepth 20000 in
theorem cl_X0_50 : Cond.classLink RX0 50 RX8 ∈ v_T := (v_w1 67 rfl rfl)
set_option maxRecDepth 20000 in
theorem cl_X9_20 : Cond.classLink RX9 20 RX4 ∈ v_T := (v_w1 129 rfl rfl)
set_option maxRecDepth 20000 in
theorem ml_X4_3 : Cond.methodLink RX4 3 Lib.objectInit ∈ v_T := (v_w1 134 rfl rfl)
set_option maxRecDepth 20000 in
theorem cl_X4_22 : Cond.classLink RX4 22 RX3 ∈ v_T := (v_w1 135 rfl rfl)
set_option maxRecDepth 20000 in
theorem cl_X9_27 : Cond.classLink RX9 27 RX1 ∈ v_T := (v_w1 151 rfl rfl)
set_option maxRecDepth 20000 in
theorem ml_X1_3 : Cond.methodLink RX1 3 Lib.objectInit ∈ v_T := (v_w1 156 rfl rfl)
set_option maxRecDepth 20000 in
theorem cl_X1_9 : Cond.classLink RX1 9 RX7 ∈ v_T := (v_w1 157 rfl rfl)
set_option maxRecDepth 20000 in
theorem ml_X7_3 : Cond.methodLink RX7 3 Lib.objectInit ∈ v_T := (v_w1 162 rfl rfl)
set_option maxRecDepth 20000 in
theorem ka_long : Cond.arrayClass .long ∈ v_T := (v_w1 172 rfl rfl)
set_option maxRecDepth 20000 in
theorem cl_X1_18 : Cond.classLink RX1 18 RX3 ∈ v_T := (v_w1 173 rfl rfl)
set_option maxRecDepth 20000 in
theorem cl_X9_34 : Cond.classLink RX9 34 RX5 ∈ v_T := (v_w1 188 rfl rfl)
set_option maxRecDepth 20000 in
theorem ml_X5_3 : Cond.methodLink RX5 3 Lib.objectInit ∈ v_T := (v_w1 193 rfl rfl)
set_option maxRecDepth 20000 in
theorem cl_X9_41 : Cond.classLink RX9 41 RX3 ∈ v_T := (v_w1 201 rfl rfl)
set_option maxRecDepth 20000 in
theorem cl_X9_59 : Cond.classLink RX9 59 RX6 ∈ v_T := (v_w1 203 rfl rfl)
set_option maxRecDepth 20000 in
theorem ml_X6_3 : Cond.methodLink RX6 3 Lib.objectInit ∈ v_T := (v_w1 208 rfl rfl)
set_option maxRecDepth 20000 in
theorem cl_X6_9 : Cond.classLink RX6 9 RX8 ∈ v_T := (v_w1 209 rfl rfl)
set_option maxRecDepth 20000 in
theorem ml_X6_11 : Cond.methodLink RX6 11 yX8_init ∈ v_T := (v_w1 211 rfl rfl)
set_option maxRecDepth 20000 in
theorem ml_X8_3 : Cond.methodLink RX8 3 Lib.objectInit ∈ v_T := (v_w1 214 rfl rfl)
set_option maxRecDepth 20000 in
theorem cl_X9_66 : Cond.classLink RX9 66 RX2 ∈ v_T := (v_w2 54 rfl rfl)
set_option maxRecDepth 20000 in
theorem ml_X2_3 : Cond.methodLink RX2 3 Lib.objectInit ∈ v_T := (v_w2 59 rfl rfl)
set_option maxRecDepth 20000 in
theorem cl_X2_18 : Cond.classLink RX2 18 RX7 ∈ v_T := (v_w2 60 rfl rfl)
set_option maxRecDepth 20000 in
theorem ml_L_13 : Cond.methodLink RL 13 yX9_hedgehog ∈ v_T := (v_w2 128 rfl rfl)
set_option maxRecDepth 20000 in
theorem ml_X9_95 : Cond.methodLink RX9 95 yX9_isUpTo ∈ v_T := (v_w2 132 rfl rfl)
set_option maxRecDepth 20000 in
theorem ml_X9_99 : Cond.methodLink RX9 99 yX9_refuse ∈ v_T := (v_w2 135 rfl rfl)
set_option maxRecDepth 20000 in
theorem ml_X9_106 : Cond.methodLink RX9 106 yX4_clear ∈ v_T := (v_w2 139 rfl rfl)
set_option maxRecDepth 20000 in
theorem ml_X9_109 : Cond.methodLink RX9 109 yX0_add ∈ v_T := (v_w2 143 rfl rfl)
set_option maxRecDepth 20000 in
theorem ml_X0_74 : Cond.methodLink RX0 74 yX3_shutOne ∈ v_T := (v_w2 147 rfl rfl)
set_option maxRecDepth 20000 in
theorem ml_X3_37 : Cond.methodLink RX3 37 yX3_isOpen ∈ v_T := (v_w2 151 rfl rfl)
set_option maxRecDepth 20000 in
theorem ml_X9_113 : Cond.methodLink RX9 113 yX9_accept ∈ v_T := (v_w2 155 rfl rfl)
set_option maxRecDepth 20000 in
theorem ml_L_18 : Cond.methodLink RL 18 yX9_watch ∈ v_T := (v_w2 159 rfl rfl)
set_option maxRecDepth 20000 in
theorem ml_X9_116 : Cond.methodLink RX9 116 yX0_has ∈ v_T := (v_w2 163 rfl rfl)
set_option maxRecDepth 20000 in
theorem kn_X0_69 : Cond.constantLong RX0 69 (8) ∈ v_T := (v_w2 167 rfl rfl)
set_option maxRecDepth 20000 in
theorem ml_X9_120 : Cond.methodLink RX9 120 yX0_setWatching ∈ v_T := (v_w2 168 rfl rfl)
set_option maxRecDepth 20000 in
theorem ml_X0_78 : Cond.methodLink RX0 78 yX0_has ∈ v_T := (v_w2 172 rfl rfl)
set_option maxRecDepth 20000 in
theorem ml_L_23 : Cond.methodLink RL 23 yX9_of ∈ v_T := (v_w2 173 rfl rfl)
set_option maxRecDepth 20000 in
theorem ml_X9_135 : Cond.methodLink RX9 135 yX3_isOpen ∈ v_T := (v_w2 177 rfl rfl)
set_option maxRecDepth 20000 in
theorem ml_X9_142 : Cond.methodLink RX9 142 yX1_ask ∈ v_T := (v_w2 178 rfl rfl)
set_option maxRecDepth 20000 in
theorem ml_X1_32 : Cond.methodLink RX1 32 yX0_has ∈ v_T := (v_w2 182 rfl rfl)
set_option maxRecDepth 20000 in
theorem ml_X1_38 : Cond.methodLink RX1 38 yX0_lawInForce ∈ v_T := (v_w2 183 rfl rfl)
set_option maxRecDepth 20000 in
theorem ml_X0_85 : Cond.methodLink RX0 85 yX0_lawAt ∈ v_T := (v_w2 187 rfl rfl)
set_option maxRecDepth 20000 in
theorem ml_X1_48 : Cond.methodLink RX1 48 yX1_hear ∈ v_T := (v_w2 191 rfl rfl)
set_option maxRecDepth 20000 in
theorem ml_X1_117 : Cond.methodLink RX1 117 yJ6_bitCount_0f7a4 ∈ v_T := (v_w2 195 rfl rfl)
set_option maxRecDepth 20000 in
theorem kn_J6_265 : Cond.constant RJ6 265 (1431655765) ∈ v_T := (v_w2 198 rfl rfl)
set_option maxRecDepth 20000 in
theorem kn_J6_266 : Cond.constant RJ6 266 (858993459) ∈ v_T := (v_w2 199 rfl rfl)
set_option maxRecDepth 20000 in
theorem kn_J6_267 : Cond.constant RJ6 267 (252645135) ∈ v_T := (v_w2 200 rfl rfl)
set_option maxRecDepth 20000 in
theorem ml_X1_72 : Cond.methodLink RX1 72 yX3_openMany ∈ v_T := (v_w2 201 rfl rfl)
set_option maxRecDepth 20000 in
theorem ml_X3_31 : Cond.methodLink RX3 31 yJ6_bitCount_0f7a4 ∈ v_T := (v_w2 205 rfl rfl)
set_option maxRecDepth 20000 in
theorem ml_X1_52 : Cond.methodLink RX1 52 yX1_told ∈ v_T := (v_w2 206 rfl rfl)
set_option maxRecDepth 20000 in
theorem ml_X1_137 : Cond.methodLink RX1 137 yX7_reckon ∈ v_T := (v_w2 210 rfl rfl)
set_option maxRecDepth 20000 in
theorem kn_X7_24 : Cond.constantLong RX7 24 (-1000000000000000) ∈ v_T := (v_w2 214 rfl rfl)
set_option maxRecDepth 20000 in
theorem ml_X7_26 : Cond.methodLink RX7 26 yX7_join ∈ v_T := (v_w2 215 rfl rfl)
set_option maxRecDepth 20000 in
theorem kn_X7_30 : Cond.constantLong RX7 30 (1000000000) ∈ v_T := (v_w2 218 rfl rfl)
set_option maxRecDepth 20000 in
theorem kn_X7_32 : Cond.constantLong RX7 32 (-1000000000) ∈ v_T := (v_w2 219 rfl rfl)
set_option maxRecDepth 20000 in
theorem kn_X1_144 : Cond.constantLong RX1 144 (-1000000000000000) ∈ v_T := (v_w2 220 rfl rfl)
set_option maxRecDepth 20000 in
theorem kn_X1_146 : Cond.constantLong RX1 146 (9) ∈ v_T := (v_w2 221 rfl rfl)
set_option maxRecDepth 20000 in
theorem ml_X1_148 : Cond.methodLink RX1 148 yJ9_min_f86c9 ∈ v_T := (v_w2 222 rfl rfl)
set_option maxRecDepth 20000 in
theorem ml_X1_151 : Cond.methodLink RX1 151 yJ9_max_f86c9 ∈ v_T := (v_w2 225 rfl rfl)
set_option maxRecDepth 20000 in
theorem ml_X1_60 : Cond.methodLink RX1 60 yX1_openBehind ∈ v_T := (v_w2 228 rfl rfl)
set_option maxRecDepth 20000 in
theorem ml_X1_158 : Cond.methodLink RX1 158 yX1_begin ∈ v_T := (v_w2 232 rfl rfl)
set_option maxRecDepth 20000 in
theorem ml_X1_154 : Cond.methodLink RX1 154 yX3_copyFrom ∈ v_T := (v_w2 236 rfl rfl)
set_option maxRecDepth 20000 in
theorem ml_X3_25 : Cond.methodLink RX3 25 arraycopyName ∈ v_T := (v_w3 0 rfl rfl)
set_option maxRecDepth 20000 in
theorem ml_X1_80 : Cond.methodLink RX1 80 yX1_passMinute ∈ v_T := (v_w3 3 rfl rfl)
set_option maxRecDepth 20000 in
theorem ml_X1_93 : Cond.methodLink RX1 93 yX3_isOpen ∈ v_T := (v_w3 7 rfl rfl)
set_option maxRecDepth 20000 in
theorem ml_X1_103 : Cond.methodLink RX1 103 yJ9_min_7cf53 ∈ v_T := (v_w3 8 rfl rfl)
set_option maxRecDepth 20000 in
theorem ml_L_27 : Cond.methodLink RL 27 yX9_terms ∈ v_T := (v_w3 11 rfl rfl)
set_option maxRecDepth 20000 in
theorem ml_X9_149 : Cond.methodLink RX9 149 yX0_term ∈ v_T := (v_w3 17 rfl rfl)
set_option maxRecDepth 20000 in
theorem ml_X9_152 : Cond.methodLink RX9 152 yX0_setTerm ∈ v_T := (v_w3 21 rfl rfl)
set_option maxRecDepth 20000 in
theorem ml_L_31 : Cond.methodLink RL 31 yX9_feed ∈ v_T := (v_w3 25 rfl rfl)
set_option maxRecDepth 20000 in
theorem ml_X9_156 : Cond.methodLink RX9 156 yX9_putFour ∈ v_T := (v_w3 29 rfl rfl)
set_option maxRecDepth 20000 in
theorem ml_L_36 : Cond.methodLink RL 36 yX9_end ∈ v_T := (v_w3 33 rfl rfl)
set_option maxRecDepth 20000 in
theorem ml_L_41 : Cond.methodLink RL 41 yX9_row ∈ v_T := (v_w3 37 rfl rfl)
set_option maxRecDepth 20000 in
theorem ml_X9_160 : Cond.methodLink RX9 160 yX9_addFromTape ∈ v_T := (v_w3 41 rfl rfl)
set_option maxRecDepth 20000 in
theorem ml_X9_219 : Cond.methodLink RX9 219 yX0_everyone ∈ v_T := (v_w3 45 rfl rfl)
set_option maxRecDepth 20000 in
theorem ml_L_46 : Cond.methodLink RL 46 yX9_burrs ∈ v_T := (v_w3 49 rfl rfl)
set_option maxRecDepth 20000 in
theorem ml_L_50 : Cond.methodLink RL 50 yX9_law ∈ v_T := (v_w3 53 rfl rfl)
set_option maxRecDepth 20000 in
theorem ml_X9_166 : Cond.methodLink RX9 166 yX6_read ∈ v_T := (v_w3 57 rfl rfl)
set_option maxRecDepth 20000 in
theorem ml_X6_50 : Cond.methodLink RX6 50 yJ9_min_7cf53 ∈ v_T := (v_w3 61 rfl rfl)
set_option maxRecDepth 20000 in
theorem ml_X6_56 : Cond.methodLink RX6 56 yJ9_max_7cf53 ∈ v_T := (v_w3 62 rfl rfl)
set_option maxRecDepth 20000 in
theorem ml_X6_59 : Cond.methodLink RX6 59 yX6_splitTokens ∈ v_T := (v_w3 65 rfl rfl)
set_option maxRecDepth 20000 in
theorem ml_X6_76 : Cond.methodLink RX6 76 yX6_isLetter ∈ v_T := (v_w3 69 rfl rfl)
set_option maxRecDepth 20000 in
theorem ml_X6_80 : Cond.methodLink RX6 80 yX6_wordToken ∈ v_T := (v_w3 72 rfl rfl)
set_option maxRecDepth 20000 in
theorem ml_X6_95 : Cond.methodLink RX6 95 yJ0_length_8abf5 ∈ v_T := (v_w3 76 rfl rfl)
set_option maxRecDepth 20000 in
theorem ml_J0_335 : Cond.methodLink RJ0 335 yJ0_coder_7d493 ∈ v_T := (v_w3 80 rfl rfl)
set_option maxRecDepth 20000 in
theorem ml_X6_101 : Cond.methodLink RX6 101 yJ0_charAt_5068e ∈ v_T := (v_w3 86 rfl rfl)
set_option maxRecDepth 20000 in
theorem ml_J0_492 : Cond.methodLink RJ0 492 yJ0_isLatin1_aae02 ∈ v_T := (v_w3 90 rfl rfl)
set_option maxRecDepth 20000 in
theorem ml_J0_495 : Cond.methodLink RJ0 495 yJ1_charAt_3b067 ∈ v_T := (v_w3 94 rfl rfl)
set_option maxRecDepth 20000 in
theorem ml_J1_9 : Cond.methodLink RJ1 9 yJ0_checkIndex_df160 ∈ v_T := (v_w3 97 rfl rfl)
set_option maxRecDepth 20000 in
theorem ml_J0_1059 : Cond.methodLink RJ0 1059 yJ3_checkIndex_8e157 ∈ v_T := (v_w3 102 rfl rfl)
set_option maxRecDepth 20000 in
theorem ml_J0_498 : Cond.methodLink RJ0 498 yJ2_charAt_3b067 ∈ v_T := (v_w3 105 rfl rfl)
set_option maxRecDepth 20000 in
theorem ml_J2_67 : Cond.methodLink RJ2 67 yJ2_checkIndex_2214a ∈ v_T := (v_w3 108 rfl rfl)
set_option maxRecDepth 20000 in
theorem ml_J2_48 : Cond.methodLink RJ2 48 yJ2_length_9d52b ∈ v_T := (v_w3 111 rfl rfl)
set_option maxRecDepth 20000 in
theorem ml_J2_414 : Cond.methodLink RJ2 414 yJ0_checkIndex_df160 ∈ v_T := (v_w3 114 rfl rfl)
set_option maxRecDepth 20000 in
theorem ml_J2_71 : Cond.methodLink RJ2 71 yJ2_getChar_3b067 ∈ v_T := (v_w3 115 rfl rfl)
set_option maxRecDepth 20000 in
theorem ml_X6_105 : Cond.methodLink RX6 105 yX6_isSpelledAt ∈ v_T := (v_w3 124 rfl rfl)
set_option maxRecDepth 20000 in
theorem ml_X6_84 : Cond.methodLink RX6 84 yX6_addToken ∈ v_T := (v_w3 127 rfl rfl)
set_option maxRecDepth 20000 in
theorem ml_X6_87 : Cond.methodLink RX6 87 yX6_isDigit ∈ v_T := (v_w3 131 rfl rfl)
set_option maxRecDepth 20000 in
theorem ml_X6_90 : Cond.methodLink RX6 90 yX6_numberToken ∈ v_T := (v_w3 134 rfl rfl)
set_option maxRecDepth 20000 in
theorem ml_X6_63 : Cond.methodLink RX6 63 yX8_clear ∈ v_T := (v_w3 137 rfl rfl)
set_option maxRecDepth 20000 in
theorem ml_X6_66 : Cond.methodLink RX6 66 yX6_readClause ∈ v_T := (v_w3 141 rfl rfl)
set_option maxRecDepth 20000 in
theorem ml_X6_109 : Cond.methodLink RX6 109 yX8_addClause ∈ v_T := (v_w3 145 rfl rfl)
set_option maxRecDepth 20000 in
theorem ml_X6_73 : Cond.methodLink RX6 73 yX6_faultHere ∈ v_T := (v_w3 149 rfl rfl)
set_option maxRecDepth 20000 in
theorem ml_X6_70 : Cond.methodLink RX6 70 yX6_nextToken ∈ v_T := (v_w3 153 rfl rfl)
set_option maxRecDepth 20000 in
theorem ml_X6_115 : Cond.methodLink RX6 115 yX6_readOrder ∈ v_T := (v_w3 157 rfl rfl)
set_option maxRecDepth 20000 in
theorem ml_X6_140 : Cond.methodLink RX6 140 yX6_readSum ∈ v_T := (v_w3 161 rfl rfl)
set_option maxRecDepth 20000 in
theorem ml_X6_170 : Cond.methodLink RX6 170 yX6_readTerm ∈ v_T := (v_w3 165 rfl rfl)
set_option maxRecDepth 20000 in
theorem ml_X6_173 : Cond.methodLink RX6 173 yX6_readPart ∈ v_T := (v_w3 169 rfl rfl)
set_option maxRecDepth 20000 in
theorem ml_X6_163 : Cond.methodLink RX6 163 yX6_readBrackets ∈ v_T := (v_w3 173 rfl rfl)
set_option maxRecDepth 20000 in
theorem ml_X6_131 : Cond.methodLink RX6 131 yX6_readTest ∈ v_T := (v_w3 177 rfl rfl)
set_option maxRecDepth 20000 in
theorem ml_X6_153 : Cond.methodLink RX6 153 yX6_readBoth ∈ v_T := (v_w3 181 rfl rfl)
set_option maxRecDepth 20000 in
theorem ml_X6_160 : Cond.methodLink RX6 160 yX6_readPlain ∈ v_T := (v_w3 185 rfl rfl)
set_option maxRecDepth 20000 in
theorem ml_X6_122 : Cond.methodLink RX6 122 yX6_take ∈ v_T := (v_w3 189 rfl rfl)
set_option maxRecDepth 20000 in
theorem ml_X6_167 : Cond.methodLink RX6 167 yX6_readComparison ∈ v_T := (v_w3 193 rfl rfl)
set_option maxRecDepth 20000 in
theorem ml_X6_134 : Cond.methodLink RX6 134 yX8_addStep ∈ v_T := (v_w3 197 rfl rfl)
set_option maxRecDepth 20000 in
theorem ml_X6_156 : Cond.methodLink RX6 156 yX8_aimHere ∈ v_T := (v_w3 201 rfl rfl)
set_option maxRecDepth 20000 in
theorem ml_X6_146 : Cond.methodLink RX6 146 yX6_numberAtHand ∈ v_T := (v_w3 205 rfl rfl)
set_option maxRecDepth 20000 in
theorem ml_X6_176 : Cond.methodLink RX6 176 yX6_isOrderWord ∈ v_T := (v_w3 209 rfl rfl)
set_option maxRecDepth 20000 in
theorem ml_X6_179 : Cond.methodLink RX6 179 yX6_firstOf ∈ v_T := (v_w3 212 rfl rfl)
set_option maxRecDepth 20000 in
theorem ml_X6_182 : Cond.methodLink RX6 182 yX6_readOne ∈ v_T := (v_w3 215 rfl rfl)
set_option maxRecDepth 20000 in
theorem ml_X6_119 : Cond.methodLink RX6 119 yX6_readLaw ∈ v_T := (v_w3 219 rfl rfl)
set_option maxRecDepth 20000 in
theorem ml_X9_174 : Cond.methodLink RX9 174 yX8_trimmed ∈ v_T := (v_w3 223 rfl rfl)
set_option maxRecDepth 20000 in
theorem ml_X8_41 : Cond.methodLink RX8 41 yJ9_min_7cf53 ∈ v_T := (v_w3 227 rfl rfl)
set_option maxRecDepth 20000 in
theorem ml_X8_47 : Cond.methodLink RX8 47 yJ9_max_7cf53 ∈ v_T := (v_w3 228 rfl rfl)
set_option maxRecDepth 20000 in
theorem cl_X8_10 : Cond.classLink RX8 10 RX8 ∈ v_T := (v_w3 229 rfl rfl)
set_option maxRecDepth 20000 in
theorem ml_X8_50 : Cond.methodLink RX8 50 yX8_init ∈ v_T := (v_w3 230 rfl rfl)
set_option maxRecDepth 20000 in
theorem ml_X8_53 : Cond.methodLink RX8 53 arraycopyName ∈ v_T := (v_w3 231 rfl rfl)
set_option maxRecDepth 20000 in
theorem ml_X9_180 : Cond.methodLink RX9 180 yX0_addLaw ∈ v_T := (v_w3 232 rfl rfl)
set_option maxRecDepth 20000 in
theorem ka_byte : Cond.arrayClass .byte ∈ v_T := (v_w3 236 rfl rfl)
set_option maxRecDepth 20000 in
theorem ml_L_54 : Cond.methodLink RL 54 yX9_orders ∈ v_T := (v_w3 237 rfl rfl)
set_option maxRecDepth 20000 in
theorem ml_X9_184 : Cond.methodLink RX9 184 yX3_copyFrom ∈ v_T := (v_w4 1 rfl rfl)
set_option maxRecDepth 20000 in
theorem ml_X9_188 : Cond.methodLink RX9 188 yX2_runAll ∈ v_T := (v_w4 2 rfl rfl)
set_option maxRecDepth 20000 in
theorem ml_X2_34 : Cond.methodLink RX2 34 yX2_runOnce ∈ v_T := (v_w4 6 rfl rfl)
set_option maxRecDepth 20000 in
theorem ml_X2_38 : Cond.methodLink RX2 38 yX2_hear ∈ v_T := (v_w4 10 rfl rfl)
set_option maxRecDepth 20000 in
theorem ml_X2_89 : Cond.methodLink RX2 89 yX3_openMany ∈ v_T := (v_w4 14 rfl rfl)
set_option maxRecDepth 20000 in
theorem ml_X2_93 : Cond.methodLink RX2 93 yX0_has ∈ v_T := (v_w4 15 rfl rfl)
set_option maxRecDepth 20000 in
theorem ml_X2_45 : Cond.methodLink RX2 45 yX7_reckon ∈ v_T := (v_w4 16 rfl rfl)
set_option maxRecDepth 20000 in
theorem ml_X2_55 : Cond.methodLink RX2 55 yX2_sumAt ∈ v_T := (v_w4 17 rfl rfl)
set_option maxRecDepth 20000 in
theorem kn_X2_61 : Cond.constantLong RX2 61 (-1000000000000000) ∈ v_T := (v_w4 21 rfl rfl)
set_option maxRecDepth 20000 in
theorem ml_X2_63 : Cond.methodLink RX2 63 yX0_whyNot ∈ v_T := (v_w4 22 rfl rfl)
set_option maxRecDepth 20000 in
theorem ml_X0_93 : Cond.methodLink RX0 93 yX3_isOpen ∈ v_T := (v_w4 27 rfl rfl)
set_option maxRecDepth 20000 in
theorem ml_X2_69 : Cond.methodLink RX2 69 yX4_keep ∈ v_T := (v_w4 28 rfl rfl)
set_option maxRecDepth 20000 in
theorem ml_X4_29 : Cond.methodLink RX4 29 yX3_copyFrom ∈ v_T := (v_w4 33 rfl rfl)
set_option maxRecDepth 20000 in
theorem ml_X4_33 : Cond.methodLink RX4 33 yJ9_min_7cf53 ∈ v_T := (v_w4 34 rfl rfl)
set_option maxRecDepth 20000 in
theorem ml_X2_75 : Cond.methodLink RX2 75 yX1_perform ∈ v_T := (v_w4 35 rfl rfl)
set_option maxRecDepth 20000 in
theorem ml_X1_64 : Cond.methodLink RX1 64 yX3_shutOne ∈ v_T := (v_w4 39 rfl rfl)
set_option maxRecDepth 20000 in
theorem ml_X1_68 : Cond.methodLink RX1 68 yX3_openOne ∈ v_T := (v_w4 40 rfl rfl)
set_option maxRecDepth 20000 in
theorem ml_X1_76 : Cond.methodLink RX1 76 yX3_changeWant ∈ v_T := (v_w4 44 rfl rfl)
set_option maxRecDepth 20000 in
theorem ml_L_58 : Cond.methodLink RL 58 yX9_fault ∈ v_T := (v_w4 48 rfl rfl)
set_option maxRecDepth 20000 in
theorem ml_L_62 : Cond.methodLink RL 62 yX9_stopped ∈ v_T := (v_w4 52 rfl rfl)
set_option maxRecDepth 20000 in
theorem ml_L_66 : Cond.methodLink RL 66 yX9_force ∈ v_T := (v_w4 56 rfl rfl)
set_option maxRecDepth 20000 in
theorem ml_X9_195 : Cond.methodLink RX9 195 yX0_lawAt ∈ v_T := (v_w4 60 rfl rfl)
set_option maxRecDepth 20000 in
theorem ml_L_70 : Cond.methodLink RL 70 yX9_touch ∈ v_T := (v_w4 61 rfl rfl)
set_option maxRecDepth 20000 in
theorem ml_X9_202 : Cond.methodLink RX9 202 yX9_act ∈ v_T := (v_w4 65 rfl rfl)
set_option maxRecDepth 20000 in
theorem ml_X9_306 : Cond.methodLink RX9 306 yX0_whyNot ∈ v_T := (v_w4 69 rfl rfl)
set_option maxRecDepth 20000 in
theorem ml_X9_310 : Cond.methodLink RX9 310 yX4_keep ∈ v_T := (v_w4 70 rfl rfl)
set_option maxRecDepth 20000 in
theorem ml_X9_314 : Cond.methodLink RX9 314 yX1_perform ∈ v_T := (v_w4 71 rfl rfl)
set_option maxRecDepth 20000 in
theorem ml_L_74 : Cond.methodLink RL 74 yX9_coax ∈ v_T := (v_w4 72 rfl rfl)
set_option maxRecDepth 20000 in
theorem ml_L_78 : Cond.methodLink RL 78 yX9_tempt ∈ v_T := (v_w4 76 rfl rfl)
set_option maxRecDepth 20000 in
theorem ml_L_82 : Cond.methodLink RL 82 yX9_pass ∈ v_T := (v_w4 80 rfl rfl)
set_option maxRecDepth 20000 in
theorem ml_L_86 : Cond.methodLink RL 86 yX9_undo ∈ v_T := (v_w4 84 rfl rfl)
set_option maxRecDepth 20000 in
theorem ml_X9_205 : Cond.methodLink RX9 205 yX4_takeBack ∈ v_T := (v_w4 88 rfl rfl)
set_option maxRecDepth 20000 in
theorem ml_L_90 : Cond.methodLink RL 90 yX9_later ∈ v_T := (v_w4 92 rfl rfl)
set_option maxRecDepth 20000 in
theorem ml_X9_212 : Cond.methodLink RX9 212 yX1_openBehind ∈ v_T := (v_w4 96 rfl rfl)
set_option maxRecDepth 20000 in
theorem ml_L_94 : Cond.methodLink RL 94 yX9_opens ∈ v_T := (v_w4 97 rfl rfl)
set_option maxRecDepth 20000 in
theorem ml_X9_215 : Cond.methodLink RX9 215 yX1_firstMinute ∈ v_T := (v_w4 101 rfl rfl)
set_option maxRecDepth 20000 in
theorem ml_L_98 : Cond.methodLink RL 98 yX9_together ∈ v_T := (v_w4 105 rfl rfl)
set_option maxRecDepth 20000 in
theorem ml_L_102 : Cond.methodLink RL 102 yX9_again ∈ v_T := (v_w4 109 rfl rfl)
set_option maxRecDepth 20000 in
theorem ml_X9_223 : Cond.methodLink RX9 223 yX1_follow ∈ v_T := (v_w4 113 rfl rfl)
set_option maxRecDepth 20000 in
theorem ml_X9_227 : Cond.methodLink RX9 227 yX1_firstReturn ∈ v_T := (v_w4 117 rfl rfl)
set_option maxRecDepth 20000 in
theorem ml_L_106 : Cond.methodLink RL 106 yX9_seeds ∈ v_T := (v_w4 121 rfl rfl)
set_option maxRecDepth 20000 in
theorem ml_X9_230 : Cond.methodLink RX9 230 yX1_fewestCoaxed ∈ v_T := (v_w4 125 rfl rfl)
set_option maxRecDepth 20000 in
theorem ml_X1_162 : Cond.methodLink RX1 162 yX1_isPart ∈ v_T := (v_w4 129 rfl rfl)
set_option maxRecDepth 20000 in
theorem ml_X1_166 : Cond.methodLink RX1 166 yX1_firstMinute ∈ v_T := (v_w4 132 rfl rfl)
set_option maxRecDepth 20000 in
theorem ml_X9_233 : Cond.methodLink RX9 233 yX9_tellSet ∈ v_T := (v_w4 133 rfl rfl)
set_option maxRecDepth 20000 in
theorem ml_X9_251 : Cond.methodLink RX9 251 yJ6_bitCount_0f7a4 ∈ v_T := (v_w4 136 rfl rfl)
set_option maxRecDepth 20000 in
theorem ml_L_110 : Cond.methodLink RL 110 yX9_seedsFor ∈ v_T := (v_w4 137 rfl rfl)
set_option maxRecDepth 20000 in
theorem ml_L_114 : Cond.methodLink RL 114 yX9_spread ∈ v_T := (v_w4 141 rfl rfl)
set_option maxRecDepth 20000 in
theorem ml_L_118 : Cond.methodLink RL 118 yX9_held ∈ v_T := (v_w4 145 rfl rfl)
set_option maxRecDepth 20000 in
theorem ml_X9_237 : Cond.methodLink RX9 237 yX1_fewestHeld ∈ v_T := (v_w4 149 rfl rfl)
set_option maxRecDepth 20000 in
theorem ml_X1_170 : Cond.methodLink RX1 170 yX0_everyone ∈ v_T := (v_w4 153 rfl rfl)
set_option maxRecDepth 20000 in
theorem ml_L_122 : Cond.methodLink RL 122 yX9_chain ∈ v_T := (v_w4 154 rfl rfl)
set_option maxRecDepth 20000 in
theorem ml_X9_241 : Cond.methodLink RX9 241 yX5_measure ∈ v_T := (v_w4 158 rfl rfl)
set_option maxRecDepth 20000 in
theorem ml_X5_18 : Cond.methodLink RX5 18 yX5_watchedBy ∈ v_T := (v_w4 162 rfl rfl)
set_option maxRecDepth 20000 in
theorem ml_X9_244 : Cond.methodLink RX9 244 yX5_member ∈ v_T := (v_w4 165 rfl rfl)
set_option maxRecDepth 20000 in
theorem ml_X5_22 : Cond.methodLink RX5 22 yX5_lowestWatcher ∈ v_T := (v_w4 169 rfl rfl)
set_option maxRecDepth 20000 in
theorem ml_L_126 : Cond.methodLink RL 126 yX9_knots ∈ v_T := (v_w4 172 rfl rfl)
set_option maxRecDepth 20000 in
theorem ml_X9_247 : Cond.methodLink RX9 247 yX5_lowestOfKnots ∈ v_T := (v_w4 176 rfl rfl)
set_option maxRecDepth 20000 in
theorem ml_X5_31 : Cond.methodLink RX5 31 yX5_findSources ∈ v_T := (v_w4 180 rfl rfl)
set_option maxRecDepth 20000 in
theorem ml_X5_39 : Cond.methodLink RX5 39 yX5_knotOf ∈ v_T := (v_w4 184 rfl rfl)
set_option maxRecDepth 20000 in
theorem ml_X5_43 : Cond.methodLink RX5 43 yJ6_lowestOneBit_0f7a4 ∈ v_T := (v_w4 188 rfl rfl)
set_option maxRecDepth 20000 in
theorem ml_L_130 : Cond.methodLink RL 130 yX9_heads ∈ v_T := (v_w4 191 rfl rfl)
set_option maxRecDepth 20000 in
theorem ml_X9_256 : Cond.methodLink RX9 256 yX5_fewestHeads ∈ v_T := (v_w4 195 rfl rfl)
set_option maxRecDepth 20000 in
theorem ml_X5_48 : Cond.methodLink RX5 48 yX5_lowestOfKnots ∈ v_T := (v_w4 199 rfl rfl)
set_option maxRecDepth 20000 in
theorem ml_L_134 : Cond.methodLink RL 134 yX9_seen ∈ v_T := (v_w4 200 rfl rfl)
set_option maxRecDepth 20000 in
theorem ml_X9_262 : Cond.methodLink RX9 262 yX0_addSeen ∈ v_T := (v_w4 204 rfl rfl)
set_option maxRecDepth 20000 in
theorem ml_L_138 : Cond.methodLink RL 138 yX9_forget ∈ v_T := (v_w4 208 rfl rfl)
set_option maxRecDepth 20000 in
theorem ml_L_142 : Cond.methodLink RL 142 yX9_canBe ∈ v_T := (v_w4 212 rfl rfl)
set_option maxRecDepth 20000 in
theorem ml_X9_265 : Cond.methodLink RX9 265 yX1_likeSeen ∈ v_T := (v_w4 216 rfl rfl)
set_option maxRecDepth 20000 in
theorem ml_L_146 : Cond.methodLink RL 146 yX9_look ∈ v_T := (v_w4 220 rfl rfl)
set_option maxRecDepth 20000 in
theorem ml_X9_268 : Cond.methodLink RX9 268 yX1_bestLook ∈ v_T := (v_w4 224 rfl rfl)
set_option maxRecDepth 20000 in
theorem ml_X1_182 : Cond.methodLink RX1 182 yX1_leftAt ∈ v_T := (v_w4 228 rfl rfl)
set_option maxRecDepth 20000 in
theorem ml_X1_185 : Cond.methodLink RX1 185 yJ9_max_7cf53 ∈ v_T := (v_w4 232 rfl rfl)
set_option maxRecDepth 20000 in
theorem ml_X9_271 : Cond.methodLink RX9 271 yX1_leftAt ∈ v_T := (v_w4 233 rfl rfl)
set_option maxRecDepth 20000 in
theorem ml_L_150 : Cond.methodLink RL 150 yX9_few ∈ v_T := (v_w4 234 rfl rfl)
set_option maxRecDepth 20000 in
theorem kn_X9_274 : Cond.constantLong RX9 274 (-1) ∈ v_T := (v_w4 238 rfl rfl)
set_option maxRecDepth 20000 in
theorem ml_X9_276 : Cond.methodLink RX9 276 yJ7_fill_d0a16 ∈ v_T := (v_w4 239 rfl rfl)
set_option maxRecDepth 20000 in
theorem kn_X9_282 : Cond.constantLong RX9 282 (1000000000000) ∈ v_T := (v_w5 2 rfl rfl)
set_option maxRecDepth 20000 in
theorem kn_X9_287 : Cond.constantLong RX9 287 (10) ∈ v_T := (v_w5 3 rfl rfl)
set_option maxRecDepth 20000 in
theorem ml_L_155 : Cond.methodLink RL 155 yX9_compare ∈ v_T := (v_w5 4 rfl rfl)
set_option maxRecDepth 20000 in
theorem ml_X9_289 : Cond.methodLink RX9 289 yX1_openByLaw ∈ v_T := (v_w5 8 rfl rfl)
set_option maxRecDepth 20000 in
theorem ml_L_159 : Cond.methodLink RL 159 yX9_councils ∈ v_T := (v_w5 12 rfl rfl)
set_option maxRecDepth 20000 in
theorem kn_X9_293 : Cond.constant RX9 293 (1000000) ∈ v_T := (v_w5 16 rfl rfl)
set_option maxRecDepth 20000 in
theorem ml_X9_294 : Cond.methodLink RX9 294 yX1_holdCouncils ∈ v_T := (v_w5 17 rfl rfl)
set_option maxRecDepth 20000 in
theorem ml_X1_187 : Cond.methodLink RX1 187 yX1_nextDraw ∈ v_T := (v_w5 21 rfl rfl)
set_option maxRecDepth 20000 in
theorem kn_X1_190 : Cond.constantLong RX1 190 (1103) ∈ v_T := (v_w5 24 rfl rfl)
set_option maxRecDepth 20000 in
theorem kn_X1_192 : Cond.constantLong RX1 192 (12345) ∈ v_T := (v_w5 25 rfl rfl)
set_option maxRecDepth 20000 in
theorem kn_X1_194 : Cond.constantLong RX1 194 (1000003) ∈ v_T := (v_w5 26 rfl rfl)
set_option maxRecDepth 20000 in
theorem ml_L_163 : Cond.methodLink RL 163 yX9_drawn ∈ v_T := (v_w5 27 rfl rfl)
set_option maxRecDepth 20000 in
theorem ml_L_167 : Cond.methodLink RL 167 yX9_image ∈ v_T := (v_w5 31 rfl rfl)
set_option maxRecDepth 20000 in
theorem ml_X9_298 : Cond.methodLink RX9 298 yX0_copyFrom ∈ v_T := (v_w5 35 rfl rfl)
set_option maxRecDepth 20000 in
theorem ml_X0_59 : Cond.methodLink RX0 59 yX3_copyFrom ∈ v_T := (v_w5 39 rfl rfl)
set_option maxRecDepth 20000 in
theorem ml_X0_63 : Cond.methodLink RX0 63 arraycopyName ∈ v_T := (v_w5 40 rfl rfl)
set_option maxRecDepth 20000 in
theorem ml_L_171 : Cond.methodLink RL 171 yX9_back ∈ v_T := (v_w5 41 rfl rfl)
set_option maxRecDepth 20000 in
theorem ml_L_175 : Cond.methodLink RL 175 yX9_count ∈ v_T := (v_w5 45 rfl rfl)
set_option maxRecDepth 20000 in
theorem ml_X9_300 : Cond.methodLink RX9 300 yX3_openMany ∈ v_T := (v_w5 49 rfl rfl)
set_option maxRecDepth 20000 in
theorem ml_L_179 : Cond.methodLink RL 179 yX9_status ∈ v_T := (v_w5 50 rfl rfl)
set_option maxRecDepth 20000 in
theorem cl_L_10 : Cond.classLink RL 10 RX10 ∈ v_T := (v_w5 54 rfl rfl)
set_option maxRecDepth 20000 in
theorem ml_L_12 : Cond.methodLink RL 12 yX10_init ∈ v_T := (v_w5 56 rfl rfl)
set_option maxRecDepth 20000 in
theorem ml_X10_22 : Cond.methodLink RX10 22 Lib.objectInit ∈ v_T := (v_w5 59 rfl rfl)
set_option maxRecDepth 20000 in
theorem ka_boolean : Cond.arrayClass .boolean ∈ v_T := (v_w5 205 rfl rfl)
set_option maxRecDepth 20000 in
theorem ml_L_170 : Cond.methodLink RL 170 yX10_image ∈ v_T := (v_w5 206 rfl rfl)
set_option maxRecDepth 20000 in
theorem ml_X10_18 : Cond.methodLink RX10 18 yX10_lies ∈ v_T := (v_w5 210 rfl rfl)
set_option maxRecDepth 20000 in
theorem ml_X10_103 : Cond.methodLink RX10 103 yX10_refuses ∈ v_T := (v_w5 213 rfl rfl)
set_option maxRecDepth 20000 in
theorem ml_X10_14 : Cond.methodLink RX10 14 yX10_good ∈ v_T := (v_w5 217 rfl rfl)
set_option maxRecDepth 20000 in
theorem ml_L_174 : Cond.methodLink RL 174 yX10_back ∈ v_T := (v_w5 221 rfl rfl)
set_option maxRecDepth 20000 in
theorem ml_X10_106 : Cond.methodLink RX10 106 yX10_settled ∈ v_T := (v_w5 225 rfl rfl)
set_option maxRecDepth 20000 in
theorem ml_L_17 : Cond.methodLink RL 17 yX10_hedgehog ∈ v_T := (v_w5 229 rfl rfl)
set_option maxRecDepth 20000 in
theorem ml_X10_117 : Cond.methodLink RX10 117 yX10_isNine ∈ v_T := (v_w5 233 rfl rfl)
set_option maxRecDepth 20000 in
theorem ml_X10_109 : Cond.methodLink RX10 109 yX10_many ∈ v_T := (v_w5 236 rfl rfl)
set_option maxRecDepth 20000 in
theorem ml_X10_121 : Cond.methodLink RX10 121 yX10_adds ∈ v_T := (v_w6 0 rfl rfl)
set_option maxRecDepth 20000 in
theorem ml_L_22 : Cond.methodLink RL 22 yX10_watch ∈ v_T := (v_w6 4 rfl rfl)
set_option maxRecDepth 20000 in
theorem ml_X10_125 : Cond.methodLink RX10 125 yX10_isBit ∈ v_T := (v_w6 8 rfl rfl)
set_option maxRecDepth 20000 in
theorem ml_X10_128 : Cond.methodLink RX10 128 yX10_isOne ∈ v_T := (v_w6 11 rfl rfl)
set_option maxRecDepth 20000 in
theorem ml_L_26 : Cond.methodLink RL 26 yX10_of ∈ v_T := (v_w6 15 rfl rfl)
set_option maxRecDepth 20000 in
theorem ml_X10_146 : Cond.methodLink RX10 146 yX10_toldBare ∈ v_T := (v_w6 19 rfl rfl)
set_option maxRecDepth 20000 in
theorem ml_X10_131 : Cond.methodLink RX10 131 yX10_isOpen ∈ v_T := (v_w6 23 rfl rfl)
set_option maxRecDepth 20000 in
theorem ml_X10_113 : Cond.methodLink RX10 113 yX10_isIn ∈ v_T := (v_w6 27 rfl rfl)
set_option maxRecDepth 20000 in
theorem ml_X10_150 : Cond.methodLink RX10 150 yX10_toldByLaw ∈ v_T := (v_w6 30 rfl rfl)
set_option maxRecDepth 20000 in
theorem ml_X10_134 : Cond.methodLink RX10 134 yX10_needsNow ∈ v_T := (v_w6 34 rfl rfl)
set_option maxRecDepth 20000 in
theorem ml_X10_342 : Cond.methodLink RX10 342 yX10_tells ∈ v_T := (v_w6 38 rfl rfl)
set_option maxRecDepth 20000 in
theorem ml_X10_337 : Cond.methodLink RX10 337 yX10_setsAsked ∈ v_T := (v_w6 42 rfl rfl)
set_option maxRecDepth 20000 in
theorem ml_X10_334 : Cond.methodLink RX10 334 yX10_nearOf ∈ v_T := (v_w6 46 rfl rfl)
set_option maxRecDepth 20000 in
theorem ml_X10_313 : Cond.methodLink RX10 313 yX10_ones ∈ v_T := (v_w6 50 rfl rfl)
set_option maxRecDepth 20000 in
theorem ml_X10_280 : Cond.methodLink RX10 280 yX10_codeAt ∈ v_T := (v_w6 53 rfl rfl)
set_option maxRecDepth 20000 in
theorem ml_X10_304 : Cond.methodLink RX10 304 yX10_sumOf ∈ v_T := (v_w6 57 rfl rfl)
set_option maxRecDepth 20000 in
theorem ml_X10_290 : Cond.methodLink RX10 290 yX10_termOf ∈ v_T := (v_w6 61 rfl rfl)
set_option maxRecDepth 20000 in
theorem ml_X10_298 : Cond.methodLink RX10 298 yX10_partOf ∈ v_T := (v_w6 65 rfl rfl)
set_option maxRecDepth 20000 in
theorem ml_X10_236 : Cond.methodLink RX10 236 yX10_sign ∈ v_T := (v_w6 69 rfl rfl)
set_option maxRecDepth 20000 in
theorem ml_X10_301 : Cond.methodLink RX10 301 yX10_passes0 ∈ v_T := (v_w6 72 rfl rfl)
set_option maxRecDepth 20000 in
theorem ml_X10_310 : Cond.methodLink RX10 310 yX10_orderValue ∈ v_T := (v_w6 76 rfl rfl)
set_option maxRecDepth 20000 in
theorem ml_X10_294 : Cond.methodLink RX10 294 yX10_bounded ∈ v_T := (v_w6 80 rfl rfl)
set_option maxRecDepth 20000 in
theorem kn_X10_283 : Cond.constantLong RX10 283 (1000000000) ∈ v_T := (v_w6 84 rfl rfl)
set_option maxRecDepth 20000 in
theorem kn_X10_285 : Cond.constantLong RX10 285 (-1000000000) ∈ v_T := (v_w6 85 rfl rfl)
set_option maxRecDepth 20000 in
theorem ml_X10_331 : Cond.methodLink RX10 331 yX10_testOf ∈ v_T := (v_w6 86 rfl rfl)
set_option maxRecDepth 20000 in
theorem ml_X10_322 : Cond.methodLink RX10 322 yX10_bothOf ∈ v_T := (v_w6 90 rfl rfl)
set_option maxRecDepth 20000 in
theorem ml_X10_325 : Cond.methodLink RX10 325 yX10_plainOf ∈ v_T := (v_w6 94 rfl rfl)
set_option maxRecDepth 20000 in
theorem ml_X10_328 : Cond.methodLink RX10 328 yX10_positiveOf ∈ v_T := (v_w6 98 rfl rfl)
set_option maxRecDepth 20000 in
theorem kn_X10_340 : Cond.constantLong RX10 340 (9) ∈ v_T := (v_w6 102 rfl rfl)
set_option maxRecDepth 20000 in
theorem ml_X10_137 : Cond.methodLink RX10 137 yX10_wantsNow ∈ v_T := (v_w6 103 rfl rfl)
set_option maxRecDepth 20000 in
theorem ml_X10_140 : Cond.methodLink RX10 140 yX10_shutsNow ∈ v_T := (v_w6 107 rfl rfl)
set_option maxRecDepth 20000 in
theorem ml_X10_143 : Cond.methodLink RX10 143 yX10_opensNext ∈ v_T := (v_w6 111 rfl rfl)
set_option maxRecDepth 20000 in
theorem ml_L_30 : Cond.methodLink RL 30 yX10_terms ∈ v_T := (v_w6 115 rfl rfl)
set_option maxRecDepth 20000 in
theorem ml_X10_153 : Cond.methodLink RX10 153 yX10_isTerm ∈ v_T := (v_w6 119 rfl rfl)
set_option maxRecDepth 20000 in
theorem ml_X10_156 : Cond.methodLink RX10 156 yX10_termAt ∈ v_T := (v_w6 122 rfl rfl)
set_option maxRecDepth 20000 in
theorem ml_L_45 : Cond.methodLink RL 45 yX10_row ∈ v_T := (v_w6 125 rfl rfl)
set_option maxRecDepth 20000 in
theorem ml_X10_168 : Cond.methodLink RX10 168 yX10_canRow ∈ v_T := (v_w6 129 rfl rfl)
set_option maxRecDepth 20000 in
theorem ml_X10_159 : Cond.methodLink RX10 159 yX10_watchAt ∈ v_T := (v_w6 133 rfl rfl)
set_option maxRecDepth 20000 in
theorem ml_X10_162 : Cond.methodLink RX10 162 yX10_everybody ∈ v_T := (v_w6 137 rfl rfl)
set_option maxRecDepth 20000 in
theorem ml_L_49 : Cond.methodLink RL 49 yX10_burrs ∈ v_T := (v_w6 141 rfl rfl)
set_option maxRecDepth 20000 in
theorem ml_L_35 : Cond.methodLink RL 35 yX10_feed ∈ v_T := (v_w6 145 rfl rfl)
set_option maxRecDepth 20000 in
theorem ml_L_40 : Cond.methodLink RL 40 yX10_end ∈ v_T := (v_w6 149 rfl rfl)
set_option maxRecDepth 20000 in
theorem ml_L_53 : Cond.methodLink RL 53 yX10_law ∈ v_T := (v_w6 153 rfl rfl)
set_option maxRecDepth 20000 in
theorem ml_X10_264 : Cond.methodLink RX10 264 yX10_readsAs ∈ v_T := (v_w6 157 rfl rfl)
set_option maxRecDepth 20000 in
theorem ml_X10_261 : Cond.methodLink RX10 261 yX10_reads ∈ v_T := (v_w6 161 rfl rfl)
set_option maxRecDepth 20000 in
theorem ml_X10_255 : Cond.methodLink RX10 255 yX10_splits ∈ v_T := (v_w6 165 rfl rfl)
set_option maxRecDepth 20000 in
theorem ml_X10_177 : Cond.methodLink RX10 177 yX10_isSmall ∈ v_T := (v_w6 169 rfl rfl)
set_option maxRecDepth 20000 in
theorem ml_X10_180 : Cond.methodLink RX10 180 yX10_isDigit ∈ v_T := (v_w6 172 rfl rfl)
set_option maxRecDepth 20000 in
theorem ml_X10_183 : Cond.methodLink RX10 183 yX10_wordOf ∈ v_T := (v_w6 175 rfl rfl)
set_option maxRecDepth 20000 in
theorem kn_X10_186 : Cond.constant RX10 186 (1000000) ∈ v_T := (v_w6 179 rfl rfl)
set_option maxRecDepth 20000 in
theorem ml_X10_258 : Cond.methodLink RX10 258 yX10_readOne ∈ v_T := (v_w6 180 rfl rfl)
set_option maxRecDepth 20000 in
theorem ml_X10_224 : Cond.methodLink RX10 224 yX10_readOrder ∈ v_T := (v_w6 184 rfl rfl)
set_option maxRecDepth 20000 in
theorem ml_X10_197 : Cond.methodLink RX10 197 yX10_takes0 ∈ v_T := (v_w6 188 rfl rfl)
set_option maxRecDepth 20000 in
theorem ml_X10_190 : Cond.methodLink RX10 190 yX10_fine ∈ v_T := (v_w6 192 rfl rfl)
set_option maxRecDepth 20000 in
theorem ml_X10_206 : Cond.methodLink RX10 206 yX10_readSum ∈ v_T := (v_w6 196 rfl rfl)
set_option maxRecDepth 20000 in
theorem ml_X10_240 : Cond.methodLink RX10 240 yX10_readTerm ∈ v_T := (v_w6 200 rfl rfl)
set_option maxRecDepth 20000 in
theorem ml_X10_243 : Cond.methodLink RX10 243 yX10_readPart ∈ v_T := (v_w6 204 rfl rfl)
set_option maxRecDepth 20000 in
theorem ml_X10_200 : Cond.methodLink RX10 200 yX10_faults ∈ v_T := (v_w6 208 rfl rfl)
set_option maxRecDepth 20000 in
theorem ml_X10_210 : Cond.methodLink RX10 210 yX10_must ∈ v_T := (v_w6 212 rfl rfl)
set_option maxRecDepth 20000 in
theorem ml_X10_252 : Cond.methodLink RX10 252 yX10_leaf ∈ v_T := (v_w6 216 rfl rfl)
set_option maxRecDepth 20000 in
theorem ml_X10_216 : Cond.methodLink RX10 216 yX10_mustNumber ∈ v_T := (v_w6 220 rfl rfl)
set_option maxRecDepth 20000 in
theorem ml_X10_213 : Cond.methodLink RX10 213 yX10_readTest ∈ v_T := (v_w6 224 rfl rfl)
set_option maxRecDepth 20000 in
theorem ml_X10_230 : Cond.methodLink RX10 230 yX10_readBoth ∈ v_T := (v_w6 228 rfl rfl)
set_option maxRecDepth 20000 in
theorem ml_X10_233 : Cond.methodLink RX10 233 yX10_readPlain ∈ v_T := (v_w6 232 rfl rfl)
set_option maxRecDepth 20000 in
theorem ml_X10_227 : Cond.methodLink RX10 227 yX10_readClause ∈ v_T := (v_w6 236 rfl rfl)
set_option maxRecDepth 20000 in
theorem ml_X10_268 : Cond.methodLink RX10 268 yX10_lays ∈ v_T := (v_w7 0 rfl rfl)
set_option maxRecDepth 20000 in
theorem ml_L_61 : Cond.methodLink RL 61 yX10_fault ∈ v_T := (v_w7 4 rfl rfl)
set_option maxRecDepth 20000 in
theorem ml_L_69 : Cond.methodLink RL 69 yX10_force ∈ v_T := (v_w7 8 rfl rfl)
set_option maxRecDepth 20000 in
theorem ml_X10_271 : Cond.methodLink RX10 271 yX10_isLaw ∈ v_T := (v_w7 12 rfl rfl)
set_option maxRecDepth 20000 in
theorem ml_L_89 : Cond.methodLink RL 89 yX10_undo ∈ v_T := (v_w7 16 rfl rfl)
set_option maxRecDepth 20000 in
theorem ml_L_73 : Cond.methodLink RL 73 yX10_touch ∈ v_T := (v_w7 20 rfl rfl)
set_option maxRecDepth 20000 in
theorem ml_X10_357 : Cond.methodLink RX10 357 yX10_touchesKept ∈ v_T := (v_w7 24 rfl rfl)
set_option maxRecDepth 20000 in
theorem ml_X10_348 : Cond.methodLink RX10 348 yX10_keeps ∈ v_T := (v_w7 28 rfl rfl)
set_option maxRecDepth 20000 in
theorem ml_X10_351 : Cond.methodLink RX10 351 yX10_touches ∈ v_T := (v_w7 32 rfl rfl)
set_option maxRecDepth 20000 in
theorem ml_X10_360 : Cond.methodLink RX10 360 yX10_goodOr ∈ v_T := (v_w7 36 rfl rfl)
set_option maxRecDepth 20000 in
theorem ml_L_77 : Cond.methodLink RL 77 yX10_coax ∈ v_T := (v_w7 40 rfl rfl)
set_option maxRecDepth 20000 in
theorem ml_X10_363 : Cond.methodLink RX10 363 yX10_coaxesKept ∈ v_T := (v_w7 44 rfl rfl)
set_option maxRecDepth 20000 in
theorem ml_L_81 : Cond.methodLink RL 81 yX10_tempt ∈ v_T := (v_w7 48 rfl rfl)
set_option maxRecDepth 20000 in
theorem ml_X10_366 : Cond.methodLink RX10 366 yX10_temptsKept ∈ v_T := (v_w7 52 rfl rfl)
set_option maxRecDepth 20000 in
theorem ml_L_85 : Cond.methodLink RL 85 yX10_pass ∈ v_T := (v_w7 56 rfl rfl)
set_option maxRecDepth 20000 in
theorem ml_X10_369 : Cond.methodLink RX10 369 yX10_passesKept ∈ v_T := (v_w7 60 rfl rfl)
set_option maxRecDepth 20000 in
theorem ml_X10_354 : Cond.methodLink RX10 354 yX10_minutePasses ∈ v_T := (v_w7 64 rfl rfl)
set_option maxRecDepth 20000 in
theorem ml_X10_345 : Cond.methodLink RX10 345 yX10_lesser ∈ v_T := (v_w7 68 rfl rfl)
set_option maxRecDepth 20000 in
theorem ml_L_93 : Cond.methodLink RL 93 yX10_later ∈ v_T := (v_w7 71 rfl rfl)
set_option maxRecDepth 20000 in
theorem ml_X10_385 : Cond.methodLink RX10 385 yX10_laysAllMinutes ∈ v_T := (v_w7 75 rfl rfl)
set_option maxRecDepth 20000 in
theorem ml_X10_381 : Cond.methodLink RX10 381 yX10_laysMinutes ∈ v_T := (v_w7 79 rfl rfl)
set_option maxRecDepth 20000 in
theorem ml_X10_372 : Cond.methodLink RX10 372 yX10_laysAside ∈ v_T := (v_w7 83 rfl rfl)
set_option maxRecDepth 20000 in
theorem ml_X10_375 : Cond.methodLink RX10 375 yX10_isSettled ∈ v_T := (v_w7 87 rfl rfl)
set_option maxRecDepth 20000 in
theorem ml_X10_378 : Cond.methodLink RX10 378 yX10_takesBack ∈ v_T := (v_w7 91 rfl rfl)
set_option maxRecDepth 20000 in
theorem ml_L_97 : Cond.methodLink RL 97 yX10_opens ∈ v_T := (v_w7 95 rfl rfl)
set_option maxRecDepth 20000 in
theorem ml_X10_389 : Cond.methodLink RX10 389 yX10_opensBy ∈ v_T := (v_w7 99 rfl rfl)
set_option maxRecDepth 20000 in
theorem ml_L_101 : Cond.methodLink RL 101 yX10_together ∈ v_T := (v_w7 103 rfl rfl)
set_option maxRecDepth 20000 in
theorem ml_L_105 : Cond.methodLink RL 105 yX10_again ∈ v_T := (v_w7 107 rfl rfl)
set_option maxRecDepth 20000 in
theorem ml_L_109 : Cond.methodLink RL 109 yX10_seeds ∈ v_T := (v_w7 111 rfl rfl)
set_option maxRecDepth 20000 in
theorem ml_X10_392 : Cond.methodLink RX10 392 yX10_shutNow ∈ v_T := (v_w7 115 rfl rfl)
set_option maxRecDepth 20000 in
theorem ml_X10_395 : Cond.methodLink RX10 395 yX10_fewestFor ∈ v_T := (v_w7 119 rfl rfl)
set_option maxRecDepth 20000 in
theorem ml_X10_398 : Cond.methodLink RX10 398 yX10_toldOf ∈ v_T := (v_w7 123 rfl rfl)
set_option maxRecDepth 20000 in
theorem ml_L_113 : Cond.methodLink RL 113 yX10_seedsFor ∈ v_T := (v_w7 126 rfl rfl)
set_option maxRecDepth 20000 in
theorem ml_L_117 : Cond.methodLink RL 117 yX10_spread ∈ v_T := (v_w7 130 rfl rfl)
set_option maxRecDepth 20000 in
theorem ml_X10_401 : Cond.methodLink RX10 401 yX10_openLast ∈ v_T := (v_w7 134 rfl rfl)
set_option maxRecDepth 20000 in
theorem ml_L_121 : Cond.methodLink RL 121 yX10_held ∈ v_T := (v_w7 138 rfl rfl)
set_option maxRecDepth 20000 in
theorem ml_X10_404 : Cond.methodLink RX10 404 yX10_fewestHeld ∈ v_T := (v_w7 142 rfl rfl)
set_option maxRecDepth 20000 in
theorem ml_X10_407 : Cond.methodLink RX10 407 yX10_staysShut ∈ v_T := (v_w7 146 rfl rfl)
set_option maxRecDepth 20000 in
theorem ml_L_158 : Cond.methodLink RL 158 yX10_compare ∈ v_T := (v_w7 150 rfl rfl)
set_option maxRecDepth 20000 in
theorem ml_X10_410 : Cond.methodLink RX10 410 yX10_openNext ∈ v_T := (v_w7 154 rfl rfl)
set_option maxRecDepth 20000 in
theorem ml_L_125 : Cond.methodLink RL 125 yX10_chain ∈ v_T := (v_w7 158 rfl rfl)
set_option maxRecDepth 20000 in
theorem ml_X10_416 : Cond.methodLink RX10 416 yX10_laysLeft ∈ v_T := (v_w7 162 rfl rfl)
set_option maxRecDepth 20000 in
theorem ml_X10_413 : Cond.methodLink RX10 413 yX10_watches ∈ v_T := (v_w7 166 rfl rfl)
set_option maxRecDepth 20000 in
theorem ml_X10_419 : Cond.methodLink RX10 419 yX10_nextInChain ∈ v_T := (v_w7 170 rfl rfl)
set_option maxRecDepth 20000 in
theorem ml_L_129 : Cond.methodLink RL 129 yX10_knots ∈ v_T := (v_w7 174 rfl rfl)
set_option maxRecDepth 20000 in
theorem ml_X10_425 : Cond.methodLink RX10 425 yX10_laysKnots ∈ v_T := (v_w7 178 rfl rfl)
set_option maxRecDepth 20000 in
theorem ml_X10_422 : Cond.methodLink RX10 422 yX10_reached ∈ v_T := (v_w7 182 rfl rfl)
set_option maxRecDepth 20000 in
theorem ml_X10_428 : Cond.methodLink RX10 428 yX10_isLowest ∈ v_T := (v_w7 186 rfl rfl)
set_option maxRecDepth 20000 in
theorem ml_L_133 : Cond.methodLink RL 133 yX10_heads ∈ v_T := (v_w7 190 rfl rfl)
set_option maxRecDepth 20000 in
theorem ml_X10_431 : Cond.methodLink RX10 431 yX10_isReached ∈ v_T := (v_w7 194 rfl rfl)
set_option maxRecDepth 20000 in
theorem ml_L_137 : Cond.methodLink RL 137 yX10_seen ∈ v_T := (v_w7 198 rfl rfl)
set_option maxRecDepth 20000 in
theorem ml_L_141 : Cond.methodLink RL 141 yX10_forget ∈ v_T := (v_w7 202 rfl rfl)
set_option maxRecDepth 20000 in
theorem ml_L_145 : Cond.methodLink RL 145 yX10_canBe ∈ v_T := (v_w7 206 rfl rfl)
set_option maxRecDepth 20000 in
theorem ml_X10_434 : Cond.methodLink RX10 434 yX10_asSeen ∈ v_T := (v_w7 210 rfl rfl)
set_option maxRecDepth 20000 in
theorem ml_L_149 : Cond.methodLink RL 149 yX10_look ∈ v_T := (v_w7 214 rfl rfl)
set_option maxRecDepth 20000 in
theorem ml_X10_437 : Cond.methodLink RX10 437 yX10_canBe ∈ v_T := (v_w7 218 rfl rfl)
set_option maxRecDepth 20000 in
theorem ml_X10_440 : Cond.methodLink RX10 440 yX10_greater ∈ v_T := (v_w7 219 rfl rfl)
set_option maxRecDepth 20000 in
theorem ml_L_154 : Cond.methodLink RL 154 yX10_few ∈ v_T := (v_w7 222 rfl rfl)
set_option maxRecDepth 20000 in
theorem kn_X10_443 : Cond.constantLong RX10 443 (-1) ∈ v_T := (v_w7 226 rfl rfl)
set_option maxRecDepth 20000 in
theorem kn_X10_445 : Cond.constantLong RX10 445 (1000000000000) ∈ v_T := (v_w7 227 rfl rfl)
set_option maxRecDepth 20000 in
theorem kn_X10_447 : Cond.constantLong RX10 447 (10) ∈ v_T := (v_w7 228 rfl rfl)
set_option maxRecDepth 20000 in
theorem ml_L_65 : Cond.methodLink RL 65 yX10_stopped ∈ v_T := (v_w7 229 rfl rfl)
set_option maxRecDepth 20000 in
theorem ml_L_57 : Cond.methodLink RL 57 yX10_orders ∈ v_T := (v_w7 233 rfl rfl)
set_option maxRecDepth 20000 in
theorem ml_X10_452 : Cond.methodLink RX10 452 yX10_runs ∈ v_T := (v_w7 237 rfl rfl)
set_option maxRecDepth 20000 in
theorem ml_X10_473 : Cond.methodLink RX10 473 yX10_goesAlong ∈ v_T := (v_w8 1 rfl rfl)
set_option maxRecDepth 20000 in
theorem ml_X10_477 : Cond.methodLink RX10 477 yX10_obeys ∈ v_T := (v_w8 5 rfl rfl)
set_option maxRecDepth 20000 in
theorem ml_X10_469 : Cond.methodLink RX10 469 yX10_small ∈ v_T := (v_w8 9 rfl rfl)
set_option maxRecDepth 20000 in
theorem kn_X10_467 : Cond.constantLong RX10 467 (1000000) ∈ v_T := (v_w8 12 rfl rfl)
set_option maxRecDepth 20000 in
theorem ml_L_162 : Cond.methodLink RL 162 yX10_councils ∈ v_T := (v_w8 13 rfl rfl)
set_option maxRecDepth 20000 in
theorem ml_X10_492 : Cond.methodLink RX10 492 yX10_drawnAct ∈ v_T := (v_w8 17 rfl rfl)
set_option maxRecDepth 20000 in
theorem ml_X10_489 : Cond.methodLink RX10 489 yX10_draws ∈ v_T := (v_w8 21 rfl rfl)
set_option maxRecDepth 20000 in
theorem kn_X10_480 : Cond.constantLong RX10 480 (1103) ∈ v_T := (v_w8 25 rfl rfl)
set_option maxRecDepth 20000 in
theorem kn_X10_485 : Cond.constantLong RX10 485 (12345) ∈ v_T := (v_w8 26 rfl rfl)
set_option maxRecDepth 20000 in
theorem kn_X10_487 : Cond.constantLong RX10 487 (1000003) ∈ v_T := (v_w8 27 rfl rfl)
set_option maxRecDepth 20000 in
theorem ml_L_166 : Cond.methodLink RL 166 yX10_drawn ∈ v_T := (v_w8 28 rfl rfl)
set_option maxRecDepth 20000 in
theorem ml_L_178 : Cond.methodLink RL 178 yX10_count ∈ v_T := (v_w8 32 rfl rfl)
set_option maxRecDepth 20000 in
theorem ml_X10_495 : Cond.methodLink RX10 495 yX10_refusals ∈ v_T := (v_w8 36 rfl rfl)
set_option maxRecDepth 20000 in
theorem ml_L_182 : Cond.methodLink RL 182 yX10_status ∈ v_T := (v_w8 40 rfl rfl)
