theorem tb_in {i : Nat} {c : Cond} (h : tables_1[i]? = some c) (ho : okWord c = true) : c ∈ wtbl := List.mem_filter.mpr ⟨List.mem_append_right _ (List.mem_of_getElem? h), ho⟩
theorem tb_ps {i : Nat} {c : Cond} (h : (k2_sels lw_privs)[i]? = some c) (ho : okWord c = true) : c ∈ wtbl := List.mem_filter.mpr ⟨List.mem_append_left _ (List.mem_of_getElem? h), ho⟩
theorem tb_all {ws : List Cond} (ps : List Nat) (hp : ws = ps.filterMap (fun i => tables_1[i]?)) (h : ws.all okWord = true) : ∀ c ∈ ws, c ∈ wtbl := by
  intro c hc
  have h1 := List.all_eq_true.mp h c hc
  rw [hp] at hc
  obtain ⟨i, -, hi⟩ := List.mem_filterMap.mp hc
  exact tb_in hi h1

set_option maxRecDepth 100000 in
theorem ci_0 : CI 0 RX0 TX0 := ⟨rfl, by decide, tb_all [297, 299, 301, 303, 305] (by decide +kernel) (by decide +kernel), tyX0_ok, nmX0, by decide +kernel⟩
set_option maxRecDepth 100000 in
theorem ci_1 : CI 1 RX1 TX1 := ⟨rfl, by decide, tb_all [85, 87, 89, 91, 93, 95, 97] (by decide +kernel) (by decide +kernel), tyX1_ok, nmX1, by decide +kernel⟩
set_option maxRecDepth 100000 in
theorem ci_2 : CI 2 RX2 TX2 := ⟨rfl, by decide, tb_all [331, 333, 335] (by decide +kernel) (by decide +kernel), tyX2_ok, nmX2, by decide +kernel⟩
set_option maxRecDepth 100000 in
theorem ci_3 : CI 3 RX3 TX3 := ⟨rfl, by decide, tb_all [45, 47, 49, 51, 53, 55, 57] (by decide +kernel) (by decide +kernel), tyX3_ok, nmX3, by decide +kernel⟩
set_option maxRecDepth 100000 in
theorem ci_4 : CI 4 RX4 TX4 := ⟨rfl, by decide, tb_all [152, 154, 156, 158, 160, 162, 164, 166, 168, 170] (by decide +kernel) (by decide +kernel), tyX4_ok, nmX4, by decide +kernel⟩
set_option maxRecDepth 100000 in
theorem ci_5 : CI 5 RX5 TX5 := ⟨rfl, by decide, tb_all [243, 245] (by decide +kernel) (by decide +kernel), tyX5_ok, nmX5, by decide +kernel⟩
set_option maxRecDepth 100000 in
theorem ci_6 : CI 6 RX6 TX6 := ⟨rfl, by decide, tb_all [267, 269, 271, 273, 275, 277, 279, 281, 283] (by decide +kernel) (by decide +kernel), tyX6_ok, nmX6, by decide +kernel⟩
set_option maxRecDepth 100000 in
theorem ci_7 : CI 7 RX7 TX7 := ⟨rfl, by decide, tb_all [191, 193, 195, 197, 199, 201, 203, 205, 207, 209] (by decide +kernel) (by decide +kernel), tyX7_ok, nmX7, by decide +kernel⟩
set_option maxRecDepth 100000 in
theorem ci_8 : CI 8 RX8 TX8 := ⟨rfl, by decide, tb_all [114, 116, 118, 120, 122] (by decide +kernel) (by decide +kernel), tyX8_ok, nmX8, by decide +kernel⟩
set_option maxRecDepth 100000 in
theorem ci_9 : CI 9 RX9 TX9 := ⟨rfl, by decide, tb_all [219, 221, 223, 225, 227, 229] (by decide +kernel) (by decide +kernel), tyX9_ok, nmX9, by decide +kernel⟩
set_option maxRecDepth 100000 in
theorem ci_10 : CI 10 RX10 TX10 := ⟨rfl, by decide, tb_all [317, 319] (by decide +kernel) (by decide +kernel), tyX10_ok, nmX10, by decide +kernel⟩
set_option maxRecDepth 100000 in
theorem ci_11 : CI 11 RX11 TX11 := ⟨rfl, by decide, tb_all [348, 350, 352, 354, 356, 358, 360, 362, 364, 366] (by decide +kernel) (by decide +kernel), tyX11_ok, nmX11, by decide +kernel⟩
set_option maxRecDepth 100000 in
theorem ci_12 : CI 12 RX12 TX12 := ⟨rfl, by decide, tb_all [1016, 1018, 1020, 1022, 1024, 1026, 1028, 1030, 1032, 1034, 1036, 1038, 1040, 1042, 1044, 1046, 1048, 1050, 1052, 1054, 1056, 1058, 1060, 1062, 1064, 1066, 1068, 1070, 1072, 1074, 1076, 1078, 1080, 1082, 1084, 1086, 1088, 1090, 1092, 1094, 1096, 1098, 1100, 1102, 1104, 1106, 1108, 1110, 1112, 1114, 1116, 1118, 1120, 1122, 1124, 1126, 1128, 1130, 1132, 1134, 1136, 1138, 1140, 1142] (by decide +kernel) (by decide +kernel), tyX12_ok, nmX12, by decide +kernel⟩
theorem in_System : Cond.initialized "java/lang/System" ∈ wtbl := tb_in (i := 14) (by decide +kernel) rfl
theorem cl_L_7 : Cond.classLink RL 7 "WordYear" ∈ wtbl := tb_in (i := 17) (by decide +kernel) rfl
theorem CL_L_7 : CL RL 7 11 := ⟨_, _, ci_11, tb_in (i := 17) (by decide +kernel) rfl, tb_in (i := 18) (by decide +kernel) rfl, tb_in (i := 1) (by decide +kernel) rfl⟩
theorem lk_L_9 : Cond.methodLink RL 9 yX11_init ∈ wtbl := tb_in (i := 19) (by decide +kernel) rfl
theorem im_X11_init : Cond.instanceMethod yX11_init ∈ wtbl := tb_in (i := 20) (by decide +kernel) rfl
theorem mw_X11_init : MW yX11_init cX11_init 2 none 0 := ⟨tb_in (i := 1) (by decide +kernel) rfl, tb_in (i := 21) (by decide +kernel) rfl, ⟨by decide, by decide⟩, by decide +kernel, by decide⟩
theorem lk_X11_1 : Cond.methodLink RX11 1 Lib.objectInit ∈ wtbl := tb_in (i := 22) (by decide +kernel) rfl
theorem im_obj : Cond.instanceMethod Lib.objectInit ∈ wtbl := tb_in (i := 23) (by decide +kernel) rfl
theorem cd_obj : Cond.code Lib.objectInit ⟨#[0xb1]⟩ 1 none ∈ wtbl := tb_in (i := 24) (by decide +kernel) rfl
theorem cl_X11_7 : Cond.classLink RX11 7 "WordYear$Lexicon" ∈ wtbl := tb_in (i := 25) (by decide +kernel) rfl
theorem CL_X11_7 : CL RX11 7 3 := ⟨_, _, ci_3, tb_in (i := 25) (by decide +kernel) rfl, tb_in (i := 26) (by decide +kernel) rfl, tb_in (i := 2) (by decide +kernel) rfl⟩
theorem lk_X11_9 : Cond.methodLinkNest RX11 9 yX3_init "WordYear" ∈ wtbl := tb_in (i := 27) (by decide +kernel) rfl
theorem im_X3_init : Cond.instanceMethod yX3_init ∈ wtbl := tb_in (i := 28) (by decide +kernel) rfl
theorem mw_X3_init : MW yX3_init cX3_init 1 none 0 := ⟨tb_in (i := 2) (by decide +kernel) rfl, tb_in (i := 29) (by decide +kernel) rfl, ⟨by decide, by decide⟩, by decide +kernel, by decide⟩
theorem lk_X3_3 : Cond.methodLink RX3 3 Lib.objectInit ∈ wtbl := tb_in (i := 30) (by decide +kernel) rfl
theorem fl_X3_9 : FL RX3 9 3 0 true := ⟨_, _, ci_3, by decide, tb_in (i := 31) (by decide +kernel) rfl, rfl, rfl⟩
theorem fl_X3_15 : FL RX3 15 3 1 true := ⟨_, _, ci_3, by decide, tb_in (i := 32) (by decide +kernel) rfl, rfl, rfl⟩
theorem fl_X3_18 : FL RX3 18 3 2 true := ⟨_, _, ci_3, by decide, tb_in (i := 33) (by decide +kernel) rfl, rfl, rfl⟩
theorem fl_X3_21 : FL RX3 21 3 3 true := ⟨_, _, ci_3, by decide, tb_in (i := 34) (by decide +kernel) rfl, rfl, rfl⟩
theorem fl_X3_24 : FL RX3 24 3 4 false := ⟨_, _, ci_3, by decide, tb_in (i := 35) (by decide +kernel) rfl, rfl, rfl⟩
theorem fl_X11_217 : FL RX11 217 3 4 false := ⟨_, _, ci_3, by decide, tb_in (i := 36) (by decide +kernel) rfl, rfl, rfl⟩
theorem fl_X2_23 : FL RX2 23 3 5 false := ⟨_, _, ci_3, by decide, tb_in (i := 37) (by decide +kernel) rfl, rfl, rfl⟩
theorem fl_X0_31 : FL RX0 31 3 5 false := ⟨_, _, ci_3, by decide, tb_in (i := 38) (by decide +kernel) rfl, rfl, rfl⟩
theorem fl_X3_28 : FL RX3 28 3 5 false := ⟨_, _, ci_3, by decide, tb_in (i := 39) (by decide +kernel) rfl, rfl, rfl⟩
theorem fl_X10_41 : FL RX10 41 3 5 false := ⟨_, _, ci_3, by decide, tb_in (i := 40) (by decide +kernel) rfl, rfl, rfl⟩
theorem fl_X9_105 : FL RX9 105 3 5 false := ⟨_, _, ci_3, by decide, tb_in (i := 41) (by decide +kernel) rfl, rfl, rfl⟩
theorem fl_X11_171 : FL RX11 171 3 5 false := ⟨_, _, ci_3, by decide, tb_in (i := 42) (by decide +kernel) rfl, rfl, rfl⟩
theorem fl_X3_35 : FL RX3 35 3 6 false := ⟨_, _, ci_3, by decide, tb_in (i := 43) (by decide +kernel) rfl, rfl, rfl⟩
theorem fl_X11_272 : FL RX11 272 3 6 false := ⟨_, _, ci_3, by decide, tb_in (i := 44) (by decide +kernel) rfl, rfl, rfl⟩
theorem ac_int : Cond.arrayClass .int ∈ wtbl := tb_in (i := 60) (by decide +kernel) rfl
theorem cl_X11_16 : Cond.classLink RX11 16 "WordYear$Demand" ∈ wtbl := tb_in (i := 61) (by decide +kernel) rfl
theorem CL_X11_16 : CL RX11 16 1 := ⟨_, _, ci_1, tb_in (i := 61) (by decide +kernel) rfl, tb_in (i := 62) (by decide +kernel) rfl, tb_in (i := 3) (by decide +kernel) rfl⟩
theorem lk_X11_18 : Cond.methodLinkNest RX11 18 yX1_init "WordYear" ∈ wtbl := tb_in (i := 63) (by decide +kernel) rfl
theorem im_X1_init : Cond.instanceMethod yX1_init ∈ wtbl := tb_in (i := 64) (by decide +kernel) rfl
theorem mw_X1_init : MW yX1_init cX1_init 1 none 0 := ⟨tb_in (i := 3) (by decide +kernel) rfl, tb_in (i := 65) (by decide +kernel) rfl, ⟨by decide, by decide⟩, by decide +kernel, by decide⟩
theorem lk_X1_3 : Cond.methodLink RX1 3 Lib.objectInit ∈ wtbl := tb_in (i := 66) (by decide +kernel) rfl
theorem fl_X1_9 : FL RX1 9 1 0 true := ⟨_, _, ci_1, by decide, tb_in (i := 67) (by decide +kernel) rfl, rfl, rfl⟩
theorem fl_X11_94 : FL RX11 94 1 0 true := ⟨_, _, ci_1, by decide, tb_in (i := 68) (by decide +kernel) rfl, rfl, rfl⟩
theorem fl_X0_78 : FL RX0 78 1 0 true := ⟨_, _, ci_1, by decide, tb_in (i := 69) (by decide +kernel) rfl, rfl, rfl⟩
theorem fl_X1_15 : FL RX1 15 1 1 true := ⟨_, _, ci_1, by decide, tb_in (i := 70) (by decide +kernel) rfl, rfl, rfl⟩
theorem fl_X9_76 : FL RX9 76 1 1 true := ⟨_, _, ci_1, by decide, tb_in (i := 71) (by decide +kernel) rfl, rfl, rfl⟩
theorem fl_X1_18 : FL RX1 18 1 2 true := ⟨_, _, ci_1, by decide, tb_in (i := 72) (by decide +kernel) rfl, rfl, rfl⟩
theorem fl_X9_82 : FL RX9 82 1 2 true := ⟨_, _, ci_1, by decide, tb_in (i := 73) (by decide +kernel) rfl, rfl, rfl⟩
theorem fl_X1_21 : FL RX1 21 1 3 true := ⟨_, _, ci_1, by decide, tb_in (i := 74) (by decide +kernel) rfl, rfl, rfl⟩
theorem fl_X11_105 : FL RX11 105 1 3 true := ⟨_, _, ci_1, by decide, tb_in (i := 75) (by decide +kernel) rfl, rfl, rfl⟩
theorem fl_X9_79 : FL RX9 79 1 3 true := ⟨_, _, ci_1, by decide, tb_in (i := 76) (by decide +kernel) rfl, rfl, rfl⟩
theorem fl_X1_24 : FL RX1 24 1 4 true := ⟨_, _, ci_1, by decide, tb_in (i := 77) (by decide +kernel) rfl, rfl, rfl⟩
theorem fl_X9_102 : FL RX9 102 1 4 true := ⟨_, _, ci_1, by decide, tb_in (i := 78) (by decide +kernel) rfl, rfl, rfl⟩
theorem fl_X1_31 : FL RX1 31 1 5 false := ⟨_, _, ci_1, by decide, tb_in (i := 79) (by decide +kernel) rfl, rfl, rfl⟩
theorem fl_X11_101 : FL RX11 101 1 5 false := ⟨_, _, ci_1, by decide, tb_in (i := 80) (by decide +kernel) rfl, rfl, rfl⟩
theorem fl_X9_71 : FL RX9 71 1 5 false := ⟨_, _, ci_1, by decide, tb_in (i := 81) (by decide +kernel) rfl, rfl, rfl⟩
theorem fl_X1_27 : FL RX1 27 1 6 false := ⟨_, _, ci_1, by decide, tb_in (i := 82) (by decide +kernel) rfl, rfl, rfl⟩
theorem fl_X9_89 : FL RX9 89 1 6 false := ⟨_, _, ci_1, by decide, tb_in (i := 83) (by decide +kernel) rfl, rfl, rfl⟩
theorem fl_X11_108 : FL RX11 108 1 6 false := ⟨_, _, ci_1, by decide, tb_in (i := 84) (by decide +kernel) rfl, rfl, rfl⟩
theorem cl_X11_23 : Cond.classLink RX11 23 "WordYear$Tape" ∈ wtbl := tb_in (i := 100) (by decide +kernel) rfl
theorem CL_X11_23 : CL RX11 23 8 := ⟨_, _, ci_8, tb_in (i := 100) (by decide +kernel) rfl, tb_in (i := 101) (by decide +kernel) rfl, tb_in (i := 4) (by decide +kernel) rfl⟩
theorem lk_X11_25 : Cond.methodLinkNest RX11 25 yX8_init "WordYear" ∈ wtbl := tb_in (i := 102) (by decide +kernel) rfl
theorem im_X8_init : Cond.instanceMethod yX8_init ∈ wtbl := tb_in (i := 103) (by decide +kernel) rfl
theorem mw_X8_init : MW yX8_init cX8_init 1 none 0 := ⟨tb_in (i := 4) (by decide +kernel) rfl, tb_in (i := 104) (by decide +kernel) rfl, ⟨by decide, by decide⟩, by decide +kernel, by decide⟩
theorem lk_X8_3 : Cond.methodLink RX8 3 Lib.objectInit ∈ wtbl := tb_in (i := 105) (by decide +kernel) rfl
theorem fl_X8_9 : FL RX8 9 8 0 true := ⟨_, _, ci_8, by decide, tb_in (i := 106) (by decide +kernel) rfl, rfl, rfl⟩
theorem fl_X8_15 : FL RX8 15 8 1 false := ⟨_, _, ci_8, by decide, tb_in (i := 107) (by decide +kernel) rfl, rfl, rfl⟩
theorem fl_X11_111 : FL RX11 111 8 1 false := ⟨_, _, ci_8, by decide, tb_in (i := 108) (by decide +kernel) rfl, rfl, rfl⟩
theorem fl_X8_23 : FL RX8 23 8 2 false := ⟨_, _, ci_8, by decide, tb_in (i := 109) (by decide +kernel) rfl, rfl, rfl⟩
theorem fl_X8_26 : FL RX8 26 8 3 false := ⟨_, _, ci_8, by decide, tb_in (i := 110) (by decide +kernel) rfl, rfl, rfl⟩
theorem fl_X5_31 : FL RX5 31 8 4 false := ⟨_, _, ci_8, by decide, tb_in (i := 111) (by decide +kernel) rfl, rfl, rfl⟩
theorem fl_X6_55 : FL RX6 55 8 4 false := ⟨_, _, ci_8, by decide, tb_in (i := 112) (by decide +kernel) rfl, rfl, rfl⟩
theorem fl_X8_29 : FL RX8 29 8 4 false := ⟨_, _, ci_8, by decide, tb_in (i := 113) (by decide +kernel) rfl, rfl, rfl⟩
theorem cl_X11_30 : Cond.classLink RX11 30 "WordYear$Tongues" ∈ wtbl := tb_in (i := 125) (by decide +kernel) rfl
theorem CL_X11_30 : CL RX11 30 9 := ⟨_, _, ci_9, tb_in (i := 125) (by decide +kernel) rfl, tb_in (i := 126) (by decide +kernel) rfl, tb_in (i := 5) (by decide +kernel) rfl⟩
theorem lk_X11_32 : Cond.methodLink RX11 32 yX9_init ∈ wtbl := tb_in (i := 127) (by decide +kernel) rfl
theorem im_X9_init : Cond.instanceMethod yX9_init ∈ wtbl := tb_in (i := 128) (by decide +kernel) rfl
theorem mw_X9_init : MW yX9_init cX9_init 3 none 2 := ⟨tb_in (i := 5) (by decide +kernel) rfl, tb_in (i := 129) (by decide +kernel) rfl, ⟨by decide, by decide⟩, by decide +kernel, by decide⟩
theorem lk_X9_3 : Cond.methodLink RX9 3 Lib.objectInit ∈ wtbl := tb_in (i := 130) (by decide +kernel) rfl
theorem cl_X9_9 : Cond.classLink RX9 9 "WordYear$Speech" ∈ wtbl := tb_in (i := 131) (by decide +kernel) rfl
theorem CL_X9_9 : CL RX9 9 7 := ⟨_, _, ci_7, tb_in (i := 131) (by decide +kernel) rfl, tb_in (i := 173) (by decide +kernel) rfl, tb_in (i := 7) (by decide +kernel) rfl⟩
theorem ao_7 : Cond.arrayOver (.object "WordYear$Speech") ∈ wtbl := tb_in (i := 132) (by decide +kernel) rfl
theorem cl_X9_17 : Cond.classLink RX9 17 "WordYear$NearLaw" ∈ wtbl := tb_in (i := 133) (by decide +kernel) rfl
theorem CL_X9_17 : CL RX9 17 4 := ⟨_, _, ci_4, tb_in (i := 133) (by decide +kernel) rfl, tb_in (i := 134) (by decide +kernel) rfl, tb_in (i := 6) (by decide +kernel) rfl⟩
theorem lk_X9_19 : Cond.methodLinkNest RX9 19 yX4_init "WordYear" ∈ wtbl := tb_in (i := 135) (by decide +kernel) rfl
theorem im_X4_init : Cond.instanceMethod yX4_init ∈ wtbl := tb_in (i := 136) (by decide +kernel) rfl
theorem mw_X4_init : MW yX4_init cX4_init 1 none 0 := ⟨tb_in (i := 6) (by decide +kernel) rfl, tb_in (i := 137) (by decide +kernel) rfl, ⟨by decide, by decide⟩, by decide +kernel, by decide⟩
theorem lk_X4_3 : Cond.methodLink RX4 3 Lib.objectInit ∈ wtbl := tb_in (i := 138) (by decide +kernel) rfl
theorem fl_X4_11 : FL RX4 11 4 0 true := ⟨_, _, ci_4, by decide, tb_in (i := 139) (by decide +kernel) rfl, rfl, rfl⟩
theorem fl_X4_15 : FL RX4 15 4 1 true := ⟨_, _, ci_4, by decide, tb_in (i := 140) (by decide +kernel) rfl, rfl, rfl⟩
theorem fl_X4_18 : FL RX4 18 4 2 true := ⟨_, _, ci_4, by decide, tb_in (i := 141) (by decide +kernel) rfl, rfl, rfl⟩
theorem fl_X4_21 : FL RX4 21 4 3 true := ⟨_, _, ci_4, by decide, tb_in (i := 142) (by decide +kernel) rfl, rfl, rfl⟩
theorem fl_X4_24 : FL RX4 24 4 4 true := ⟨_, _, ci_4, by decide, tb_in (i := 143) (by decide +kernel) rfl, rfl, rfl⟩
theorem fl_X4_27 : FL RX4 27 4 5 true := ⟨_, _, ci_4, by decide, tb_in (i := 144) (by decide +kernel) rfl, rfl, rfl⟩
theorem fl_X4_30 : FL RX4 30 4 6 true := ⟨_, _, ci_4, by decide, tb_in (i := 145) (by decide +kernel) rfl, rfl, rfl⟩
theorem fl_X4_33 : FL RX4 33 4 7 false := ⟨_, _, ci_4, by decide, tb_in (i := 146) (by decide +kernel) rfl, rfl, rfl⟩
theorem fl_X4_56 : FL RX4 56 4 8 false := ⟨_, _, ci_4, by decide, tb_in (i := 147) (by decide +kernel) rfl, rfl, rfl⟩
theorem fl_X4_37 : FL RX4 37 4 9 false := ⟨_, _, ci_4, by decide, tb_in (i := 148) (by decide +kernel) rfl, rfl, rfl⟩
theorem fl_X5_65 : FL RX5 65 4 9 false := ⟨_, _, ci_4, by decide, tb_in (i := 149) (by decide +kernel) rfl, rfl, rfl⟩
theorem fl_X9_64 : FL RX9 64 4 9 false := ⟨_, _, ci_4, by decide, tb_in (i := 150) (by decide +kernel) rfl, rfl, rfl⟩
theorem fl_X11_278 : FL RX11 278 4 9 false := ⟨_, _, ci_4, by decide, tb_in (i := 151) (by decide +kernel) rfl, rfl, rfl⟩
theorem lk_X9_32 : Cond.methodLink RX9 32 yX7_init ∈ wtbl := tb_in (i := 174) (by decide +kernel) rfl
theorem im_X7_init : Cond.instanceMethod yX7_init ∈ wtbl := tb_in (i := 175) (by decide +kernel) rfl
theorem mw_X7_init : MW yX7_init cX7_init 2 none 1 := ⟨tb_in (i := 7) (by decide +kernel) rfl, tb_in (i := 176) (by decide +kernel) rfl, ⟨by decide, by decide⟩, by decide +kernel, by decide⟩
theorem lk_X7_3 : Cond.methodLink RX7 3 Lib.objectInit ∈ wtbl := tb_in (i := 177) (by decide +kernel) rfl
theorem fl_X7_18 : FL RX7 18 7 0 true := ⟨_, _, ci_7, by decide, tb_in (i := 178) (by decide +kernel) rfl, rfl, rfl⟩
theorem fl_X7_9 : FL RX7 9 7 1 true := ⟨_, _, ci_7, by decide, tb_in (i := 179) (by decide +kernel) rfl, rfl, rfl⟩
theorem fl_X9_52 : FL RX9 52 7 1 true := ⟨_, _, ci_7, by decide, tb_in (i := 180) (by decide +kernel) rfl, rfl, rfl⟩
theorem fl_X7_22 : FL RX7 22 7 2 false := ⟨_, _, ci_7, by decide, tb_in (i := 181) (by decide +kernel) rfl, rfl, rfl⟩
theorem fl_X7_56 : FL RX7 56 7 3 false := ⟨_, _, ci_7, by decide, tb_in (i := 182) (by decide +kernel) rfl, rfl, rfl⟩
theorem fl_X7_59 : FL RX7 59 7 4 false := ⟨_, _, ci_7, by decide, tb_in (i := 183) (by decide +kernel) rfl, rfl, rfl⟩
theorem fl_X7_62 : FL RX7 62 7 5 false := ⟨_, _, ci_7, by decide, tb_in (i := 184) (by decide +kernel) rfl, rfl, rfl⟩
theorem fl_X7_15 : FL RX7 15 7 6 false := ⟨_, _, ci_7, by decide, tb_in (i := 185) (by decide +kernel) rfl, rfl, rfl⟩
theorem fl_X9_61 : FL RX9 61 7 6 false := ⟨_, _, ci_7, by decide, tb_in (i := 186) (by decide +kernel) rfl, rfl, rfl⟩
theorem fl_X7_26 : FL RX7 26 7 7 false := ⟨_, _, ci_7, by decide, tb_in (i := 187) (by decide +kernel) rfl, rfl, rfl⟩
theorem fl_X9_57 : FL RX9 57 7 7 false := ⟨_, _, ci_7, by decide, tb_in (i := 188) (by decide +kernel) rfl, rfl, rfl⟩
theorem fl_X9_56 : FL RX9 56 7 8 false := ⟨_, _, ci_7, by decide, tb_in (i := 189) (by decide +kernel) rfl, rfl, rfl⟩
theorem fl_X10_53 : FL RX10 53 7 9 false := ⟨_, _, ci_7, by decide, tb_in (i := 190) (by decide +kernel) rfl, rfl, rfl⟩
theorem fl_X9_24 : FL RX9 24 9 0 true := ⟨_, _, ci_9, by decide, tb_in (i := 212) (by decide +kernel) rfl, rfl, rfl⟩
theorem fl_X9_28 : FL RX9 28 9 1 true := ⟨_, _, ci_9, by decide, tb_in (i := 213) (by decide +kernel) rfl, rfl, rfl⟩
theorem fl_X9_11 : FL RX9 11 9 2 true := ⟨_, _, ci_9, by decide, tb_in (i := 214) (by decide +kernel) rfl, rfl, rfl⟩
theorem fl_X9_35 : FL RX9 35 9 3 true := ⟨_, _, ci_9, by decide, tb_in (i := 215) (by decide +kernel) rfl, rfl, rfl⟩
theorem fl_X9_20 : FL RX9 20 9 4 true := ⟨_, _, ci_9, by decide, tb_in (i := 216) (by decide +kernel) rfl, rfl, rfl⟩
theorem fl_X11_275 : FL RX11 275 9 4 true := ⟨_, _, ci_9, by decide, tb_in (i := 217) (by decide +kernel) rfl, rfl, rfl⟩
theorem fl_X9_43 : FL RX9 43 9 5 false := ⟨_, _, ci_9, by decide, tb_in (i := 218) (by decide +kernel) rfl, rfl, rfl⟩
theorem cl_X11_39 : Cond.classLink RX11 39 "WordYear$NearReader" ∈ wtbl := tb_in (i := 232) (by decide +kernel) rfl
theorem CL_X11_39 : CL RX11 39 5 := ⟨_, _, ci_5, tb_in (i := 232) (by decide +kernel) rfl, tb_in (i := 233) (by decide +kernel) rfl, tb_in (i := 8) (by decide +kernel) rfl⟩
theorem lk_X11_41 : Cond.methodLink RX11 41 yX5_init ∈ wtbl := tb_in (i := 234) (by decide +kernel) rfl
theorem im_X5_init : Cond.instanceMethod yX5_init ∈ wtbl := tb_in (i := 235) (by decide +kernel) rfl
theorem mw_X5_init : MW yX5_init cX5_init 2 none 1 := ⟨tb_in (i := 8) (by decide +kernel) rfl, tb_in (i := 236) (by decide +kernel) rfl, ⟨by decide, by decide⟩, by decide +kernel, by decide⟩
theorem lk_X5_3 : Cond.methodLink RX5 3 Lib.objectInit ∈ wtbl := tb_in (i := 237) (by decide +kernel) rfl
theorem cl_X5_9 : Cond.classLink RX5 9 "WordYear$NearLaw" ∈ wtbl := tb_in (i := 238) (by decide +kernel) rfl
theorem CL_X5_9 : CL RX5 9 4 := ⟨_, _, ci_4, tb_in (i := 238) (by decide +kernel) rfl, tb_in (i := 134) (by decide +kernel) rfl, tb_in (i := 6) (by decide +kernel) rfl⟩
theorem lk_X5_11 : Cond.methodLinkNest RX5 11 yX4_init "WordYear" ∈ wtbl := tb_in (i := 239) (by decide +kernel) rfl
theorem fl_X5_18 : FL RX5 18 5 0 true := ⟨_, _, ci_5, by decide, tb_in (i := 240) (by decide +kernel) rfl, rfl, rfl⟩
theorem fl_X5_12 : FL RX5 12 5 1 true := ⟨_, _, ci_5, by decide, tb_in (i := 241) (by decide +kernel) rfl, rfl, rfl⟩
theorem fl_X11_123 : FL RX11 123 5 1 true := ⟨_, _, ci_5, by decide, tb_in (i := 242) (by decide +kernel) rfl, rfl, rfl⟩
theorem cl_X11_48 : Cond.classLink RX11 48 "WordYear$Rule" ∈ wtbl := tb_in (i := 248) (by decide +kernel) rfl
theorem CL_X11_48 : CL RX11 48 6 := ⟨_, _, ci_6, tb_in (i := 248) (by decide +kernel) rfl, tb_in (i := 250) (by decide +kernel) rfl, tb_in (i := 9) (by decide +kernel) rfl⟩
theorem ao_6 : Cond.arrayOver (.object "WordYear$Rule") ∈ wtbl := tb_in (i := 249) (by decide +kernel) rfl
theorem lk_X11_54 : Cond.methodLink RX11 54 yX6_init ∈ wtbl := tb_in (i := 251) (by decide +kernel) rfl
theorem im_X6_init : Cond.instanceMethod yX6_init ∈ wtbl := tb_in (i := 252) (by decide +kernel) rfl
theorem mw_X6_init : MW yX6_init cX6_init 3 none 2 := ⟨tb_in (i := 9) (by decide +kernel) rfl, tb_in (i := 253) (by decide +kernel) rfl, ⟨by decide, by decide⟩, by decide +kernel, by decide⟩
theorem lk_X6_3 : Cond.methodLink RX6 3 Lib.objectInit ∈ wtbl := tb_in (i := 254) (by decide +kernel) rfl
theorem fl_X6_9 : FL RX6 9 6 0 true := ⟨_, _, ci_6, by decide, tb_in (i := 255) (by decide +kernel) rfl, rfl, rfl⟩
theorem fl_X6_15 : FL RX6 15 6 1 true := ⟨_, _, ci_6, by decide, tb_in (i := 256) (by decide +kernel) rfl, rfl, rfl⟩
theorem fl_X6_58 : FL RX6 58 6 2 false := ⟨_, _, ci_6, by decide, tb_in (i := 257) (by decide +kernel) rfl, rfl, rfl⟩
theorem fl_X11_252 : FL RX11 252 6 2 false := ⟨_, _, ci_6, by decide, tb_in (i := 258) (by decide +kernel) rfl, rfl, rfl⟩
theorem fl_X6_45 : FL RX6 45 6 3 false := ⟨_, _, ci_6, by decide, tb_in (i := 259) (by decide +kernel) rfl, rfl, rfl⟩
theorem fl_X11_256 : FL RX11 256 6 3 false := ⟨_, _, ci_6, by decide, tb_in (i := 260) (by decide +kernel) rfl, rfl, rfl⟩
theorem fl_X6_19 : FL RX6 19 6 4 false := ⟨_, _, ci_6, by decide, tb_in (i := 261) (by decide +kernel) rfl, rfl, rfl⟩
theorem fl_X11_262 : FL RX11 262 6 4 false := ⟨_, _, ci_6, by decide, tb_in (i := 262) (by decide +kernel) rfl, rfl, rfl⟩
theorem fl_X6_23 : FL RX6 23 6 5 false := ⟨_, _, ci_6, by decide, tb_in (i := 263) (by decide +kernel) rfl, rfl, rfl⟩
theorem fl_X6_26 : FL RX6 26 6 6 false := ⟨_, _, ci_6, by decide, tb_in (i := 264) (by decide +kernel) rfl, rfl, rfl⟩
theorem fl_X6_29 : FL RX6 29 6 7 false := ⟨_, _, ci_6, by decide, tb_in (i := 265) (by decide +kernel) rfl, rfl, rfl⟩
theorem fl_X6_32 : FL RX6 32 6 8 false := ⟨_, _, ci_6, by decide, tb_in (i := 266) (by decide +kernel) rfl, rfl, rfl⟩
theorem cl_X11_61 : Cond.classLink RX11 61 "WordYear$Ballot" ∈ wtbl := tb_in (i := 286) (by decide +kernel) rfl
theorem CL_X11_61 : CL RX11 61 0 := ⟨_, _, ci_0, tb_in (i := 286) (by decide +kernel) rfl, tb_in (i := 287) (by decide +kernel) rfl, tb_in (i := 10) (by decide +kernel) rfl⟩
theorem lk_X11_63 : Cond.methodLink RX11 63 yX0_init ∈ wtbl := tb_in (i := 288) (by decide +kernel) rfl
theorem im_X0_init : Cond.instanceMethod yX0_init ∈ wtbl := tb_in (i := 289) (by decide +kernel) rfl
theorem mw_X0_init : MW yX0_init cX0_init 4 none 3 := ⟨tb_in (i := 10) (by decide +kernel) rfl, tb_in (i := 290) (by decide +kernel) rfl, ⟨by decide, by decide⟩, by decide +kernel, by decide⟩
theorem lk_X0_3 : Cond.methodLink RX0 3 Lib.objectInit ∈ wtbl := tb_in (i := 291) (by decide +kernel) rfl
theorem fl_X0_19 : FL RX0 19 0 0 true := ⟨_, _, ci_0, by decide, tb_in (i := 292) (by decide +kernel) rfl, rfl, rfl⟩
theorem fl_X0_23 : FL RX0 23 0 1 true := ⟨_, _, ci_0, by decide, tb_in (i := 293) (by decide +kernel) rfl, rfl, rfl⟩
theorem fl_X0_27 : FL RX0 27 0 2 true := ⟨_, _, ci_0, by decide, tb_in (i := 294) (by decide +kernel) rfl, rfl, rfl⟩
theorem fl_X0_9 : FL RX0 9 0 3 true := ⟨_, _, ci_0, by decide, tb_in (i := 295) (by decide +kernel) rfl, rfl, rfl⟩
theorem fl_X0_15 : FL RX0 15 0 4 true := ⟨_, _, ci_0, by decide, tb_in (i := 296) (by decide +kernel) rfl, rfl, rfl⟩
theorem ac_long : Cond.arrayClass .long ∈ wtbl := tb_in (i := 308) (by decide +kernel) rfl
theorem cl_X11_70 : Cond.classLink RX11 70 "WordYear$Years" ∈ wtbl := tb_in (i := 309) (by decide +kernel) rfl
theorem CL_X11_70 : CL RX11 70 10 := ⟨_, _, ci_10, tb_in (i := 309) (by decide +kernel) rfl, tb_in (i := 310) (by decide +kernel) rfl, tb_in (i := 11) (by decide +kernel) rfl⟩
theorem lk_X11_72 : Cond.methodLink RX11 72 yX10_init ∈ wtbl := tb_in (i := 311) (by decide +kernel) rfl
theorem im_X10_init : Cond.instanceMethod yX10_init ∈ wtbl := tb_in (i := 312) (by decide +kernel) rfl
theorem mw_X10_init : MW yX10_init cX10_init 3 none 2 := ⟨tb_in (i := 11) (by decide +kernel) rfl, tb_in (i := 313) (by decide +kernel) rfl, ⟨by decide, by decide⟩, by decide +kernel, by decide⟩
theorem lk_X10_3 : Cond.methodLink RX10 3 Lib.objectInit ∈ wtbl := tb_in (i := 314) (by decide +kernel) rfl
theorem fl_X10_9 : FL RX10 9 10 0 true := ⟨_, _, ci_10, by decide, tb_in (i := 315) (by decide +kernel) rfl, rfl, rfl⟩
theorem fl_X10_15 : FL RX10 15 10 1 true := ⟨_, _, ci_10, by decide, tb_in (i := 316) (by decide +kernel) rfl, rfl, rfl⟩
theorem cl_X11_79 : Cond.classLink RX11 79 "WordYear$Dictionary" ∈ wtbl := tb_in (i := 322) (by decide +kernel) rfl
theorem CL_X11_79 : CL RX11 79 2 := ⟨_, _, ci_2, tb_in (i := 322) (by decide +kernel) rfl, tb_in (i := 323) (by decide +kernel) rfl, tb_in (i := 12) (by decide +kernel) rfl⟩
theorem lk_X11_81 : Cond.methodLink RX11 81 yX2_init ∈ wtbl := tb_in (i := 324) (by decide +kernel) rfl
theorem im_X2_init : Cond.instanceMethod yX2_init ∈ wtbl := tb_in (i := 325) (by decide +kernel) rfl
theorem mw_X2_init : MW yX2_init cX2_init 3 none 2 := ⟨tb_in (i := 12) (by decide +kernel) rfl, tb_in (i := 326) (by decide +kernel) rfl, ⟨by decide, by decide⟩, by decide +kernel, by decide⟩
theorem lk_X2_3 : Cond.methodLink RX2 3 Lib.objectInit ∈ wtbl := tb_in (i := 327) (by decide +kernel) rfl
theorem fl_X2_15 : FL RX2 15 2 0 true := ⟨_, _, ci_2, by decide, tb_in (i := 328) (by decide +kernel) rfl, rfl, rfl⟩
theorem fl_X2_19 : FL RX2 19 2 1 true := ⟨_, _, ci_2, by decide, tb_in (i := 329) (by decide +kernel) rfl, rfl, rfl⟩
theorem fl_X2_9 : FL RX2 9 2 2 true := ⟨_, _, ci_2, by decide, tb_in (i := 330) (by decide +kernel) rfl, rfl, rfl⟩
theorem fl_X11_10 : FL RX11 10 11 0 true := ⟨_, _, ci_11, by decide, tb_in (i := 338) (by decide +kernel) rfl, rfl, rfl⟩
theorem fl_X11_19 : FL RX11 19 11 1 true := ⟨_, _, ci_11, by decide, tb_in (i := 339) (by decide +kernel) rfl, rfl, rfl⟩
theorem fl_X11_26 : FL RX11 26 11 2 true := ⟨_, _, ci_11, by decide, tb_in (i := 340) (by decide +kernel) rfl, rfl, rfl⟩
theorem fl_X11_35 : FL RX11 35 11 3 true := ⟨_, _, ci_11, by decide, tb_in (i := 341) (by decide +kernel) rfl, rfl, rfl⟩
theorem fl_X11_44 : FL RX11 44 11 4 true := ⟨_, _, ci_11, by decide, tb_in (i := 342) (by decide +kernel) rfl, rfl, rfl⟩
theorem fl_X11_50 : FL RX11 50 11 5 true := ⟨_, _, ci_11, by decide, tb_in (i := 343) (by decide +kernel) rfl, rfl, rfl⟩
theorem fl_X11_57 : FL RX11 57 11 6 true := ⟨_, _, ci_11, by decide, tb_in (i := 344) (by decide +kernel) rfl, rfl, rfl⟩
theorem fl_X11_66 : FL RX11 66 11 7 true := ⟨_, _, ci_11, by decide, tb_in (i := 345) (by decide +kernel) rfl, rfl, rfl⟩
theorem fl_X11_75 : FL RX11 75 11 8 true := ⟨_, _, ci_11, by decide, tb_in (i := 346) (by decide +kernel) rfl, rfl, rfl⟩
theorem fl_X11_82 : FL RX11 82 11 9 true := ⟨_, _, ci_11, by decide, tb_in (i := 347) (by decide +kernel) rfl, rfl, rfl⟩
theorem lk_L_13 : Cond.methodLink RL 13 yX11_word ∈ wtbl := tb_in (i := 369) (by decide +kernel) rfl
theorem im_X11_word : Cond.instanceMethod yX11_word ∈ wtbl := tb_in (i := 370) (by decide +kernel) rfl
theorem se_X11_word : Cond.selects RX11 yX11_word yX11_word ∈ wtbl := tb_in (i := 371) (by decide +kernel) rfl
theorem mw_X11_word : MW yX11_word cX11_word 4 (some .int) 3 := ⟨tb_in (i := 1) (by decide +kernel) rfl, tb_in (i := 372) (by decide +kernel) rfl, ⟨by decide, by decide⟩, by decide +kernel, by decide⟩
theorem lk_X11_86 : Cond.methodLink RX11 86 yX11_within ∈ wtbl := tb_in (i := 373) (by decide +kernel) rfl
theorem im_X11_within : Cond.static yX11_within ∈ wtbl := tb_in (i := 374) (by decide +kernel) rfl
theorem mw_X11_within : MW yX11_within cX11_within 3 (some .boolean) 3 := ⟨tb_in (i := 1) (by decide +kernel) rfl, tb_in (i := 375) (by decide +kernel) rfl, ⟨by decide, by decide⟩, by decide +kernel, by decide⟩
theorem lk_X11_90 : Cond.methodLink RX11 90 yX3_add ∈ wtbl := tb_in (i := 376) (by decide +kernel) rfl
theorem im_X3_add : Cond.instanceMethod yX3_add ∈ wtbl := tb_in (i := 377) (by decide +kernel) rfl
theorem se_X3_add : Cond.selects RX3 yX3_add yX3_add ∈ wtbl := tb_in (i := 378) (by decide +kernel) rfl
theorem mw_X3_add : MW yX3_add cX3_add 4 (some .int) 3 := ⟨tb_in (i := 2) (by decide +kernel) rfl, tb_in (i := 379) (by decide +kernel) rfl, ⟨by decide, by decide⟩, by decide +kernel, by decide⟩
theorem lk_L_18 : Cond.methodLink RL 18 yX11_people ∈ wtbl := tb_in (i := 380) (by decide +kernel) rfl
theorem im_X11_people : Cond.instanceMethod yX11_people ∈ wtbl := tb_in (i := 381) (by decide +kernel) rfl
theorem se_X11_people : Cond.selects RX11 yX11_people yX11_people ∈ wtbl := tb_in (i := 382) (by decide +kernel) rfl
theorem mw_X11_people : MW yX11_people cX11_people 3 (some .boolean) 2 := ⟨tb_in (i := 1) (by decide +kernel) rfl, tb_in (i := 383) (by decide +kernel) rfl, ⟨by decide, by decide⟩, by decide +kernel, by decide⟩
theorem lk_L_23 : Cond.methodLink RL 23 yX11_want ∈ wtbl := tb_in (i := 384) (by decide +kernel) rfl
theorem im_X11_want : Cond.instanceMethod yX11_want ∈ wtbl := tb_in (i := 385) (by decide +kernel) rfl
theorem se_X11_want : Cond.selects RX11 yX11_want yX11_want ∈ wtbl := tb_in (i := 386) (by decide +kernel) rfl
theorem mw_X11_want : MW yX11_want cX11_want 5 (some .int) 4 := ⟨tb_in (i := 1) (by decide +kernel) rfl, tb_in (i := 387) (by decide +kernel) rfl, ⟨by decide, by decide⟩, by decide +kernel, by decide⟩
theorem lk_X11_98 : Cond.methodLink RX11 98 yX1_add ∈ wtbl := tb_in (i := 388) (by decide +kernel) rfl
theorem im_X1_add : Cond.instanceMethod yX1_add ∈ wtbl := tb_in (i := 389) (by decide +kernel) rfl
theorem se_X1_add : Cond.selects RX1 yX1_add yX1_add ∈ wtbl := tb_in (i := 390) (by decide +kernel) rfl
theorem mw_X1_add : MW yX1_add cX1_add 5 (some .int) 4 := ⟨tb_in (i := 3) (by decide +kernel) rfl, tb_in (i := 391) (by decide +kernel) rfl, ⟨by decide, by decide⟩, by decide +kernel, by decide⟩
theorem lk_L_28 : Cond.methodLink RL 28 yX11_often ∈ wtbl := tb_in (i := 392) (by decide +kernel) rfl
theorem im_X11_often : Cond.instanceMethod yX11_often ∈ wtbl := tb_in (i := 393) (by decide +kernel) rfl
theorem se_X11_often : Cond.selects RX11 yX11_often yX11_often ∈ wtbl := tb_in (i := 394) (by decide +kernel) rfl
theorem mw_X11_often : MW yX11_often cX11_often 3 (some .boolean) 2 := ⟨tb_in (i := 1) (by decide +kernel) rfl, tb_in (i := 395) (by decide +kernel) rfl, ⟨by decide, by decide⟩, by decide +kernel, by decide⟩
theorem lk_L_32 : Cond.methodLink RL 32 yX11_silence ∈ wtbl := tb_in (i := 396) (by decide +kernel) rfl
theorem im_X11_silence : Cond.instanceMethod yX11_silence ∈ wtbl := tb_in (i := 397) (by decide +kernel) rfl
theorem se_X11_silence : Cond.selects RX11 yX11_silence yX11_silence ∈ wtbl := tb_in (i := 398) (by decide +kernel) rfl
theorem mw_X11_silence : MW yX11_silence cX11_silence 2 (some .boolean) 1 := ⟨tb_in (i := 1) (by decide +kernel) rfl, tb_in (i := 399) (by decide +kernel) rfl, ⟨by decide, by decide⟩, by decide +kernel, by decide⟩
theorem lk_L_37 : Cond.methodLink RL 37 yX11_feed ∈ wtbl := tb_in (i := 400) (by decide +kernel) rfl
theorem im_X11_feed : Cond.instanceMethod yX11_feed ∈ wtbl := tb_in (i := 401) (by decide +kernel) rfl
theorem se_X11_feed : Cond.selects RX11 yX11_feed yX11_feed ∈ wtbl := tb_in (i := 402) (by decide +kernel) rfl
theorem mw_X11_feed : MW yX11_feed cX11_feed 6 (some .int) 5 := ⟨tb_in (i := 1) (by decide +kernel) rfl, tb_in (i := 403) (by decide +kernel) rfl, ⟨by decide, by decide⟩, by decide +kernel, by decide⟩
theorem lk_X11_112 : Cond.methodLink RX11 112 yX8_push ∈ wtbl := tb_in (i := 404) (by decide +kernel) rfl
theorem im_X8_push : Cond.instanceMethod yX8_push ∈ wtbl := tb_in (i := 405) (by decide +kernel) rfl
theorem se_X8_push : Cond.selects RX8 yX8_push yX8_push ∈ wtbl := tb_in (i := 406) (by decide +kernel) rfl
theorem mw_X8_push : MW yX8_push cX8_push 3 none 1 := ⟨tb_in (i := 4) (by decide +kernel) rfl, tb_in (i := 407) (by decide +kernel) rfl, ⟨by decide, by decide⟩, by decide +kernel, by decide⟩
theorem lk_L_42 : Cond.methodLink RL 42 yX11_near ∈ wtbl := tb_in (i := 408) (by decide +kernel) rfl
theorem im_X11_near : Cond.instanceMethod yX11_near ∈ wtbl := tb_in (i := 409) (by decide +kernel) rfl
theorem se_X11_near : Cond.selects RX11 yX11_near yX11_near ∈ wtbl := tb_in (i := 410) (by decide +kernel) rfl
theorem mw_X11_near : MW yX11_near cX11_near 3 (some .int) 1 := ⟨tb_in (i := 1) (by decide +kernel) rfl, tb_in (i := 411) (by decide +kernel) rfl, ⟨by decide, by decide⟩, by decide +kernel, by decide⟩
theorem lk_X11_116 : Cond.methodLink RX11 116 yX5_read ∈ wtbl := tb_in (i := 412) (by decide +kernel) rfl
theorem im_X5_read : Cond.instanceMethod yX5_read ∈ wtbl := tb_in (i := 413) (by decide +kernel) rfl
theorem se_X5_read : Cond.selects RX5 yX5_read yX5_read ∈ wtbl := tb_in (i := 414) (by decide +kernel) rfl
theorem mw_X5_read : MW yX5_read cX5_read 3 (some .int) 1 := ⟨tb_in (i := 8) (by decide +kernel) rfl, tb_in (i := 415) (by decide +kernel) rfl, ⟨by decide, by decide⟩, by decide +kernel, by decide⟩
theorem lk_X5_22 : Cond.methodLink RX5 22 yX8_startText ∈ wtbl := tb_in (i := 416) (by decide +kernel) rfl
theorem im_X8_startText : Cond.instanceMethod yX8_startText ∈ wtbl := tb_in (i := 417) (by decide +kernel) rfl
theorem se_X8_startText : Cond.selects RX8 yX8_startText yX8_startText ∈ wtbl := tb_in (i := 418) (by decide +kernel) rfl
theorem mw_X8_startText : MW yX8_startText cX8_startText 2 none 1 := ⟨tb_in (i := 4) (by decide +kernel) rfl, tb_in (i := 419) (by decide +kernel) rfl, ⟨by decide, by decide⟩, by decide +kernel, by decide⟩
theorem lk_X5_28 : Cond.methodLink RX5 28 yX4_clear ∈ wtbl := tb_in (i := 420) (by decide +kernel) rfl
theorem im_X4_clear : Cond.instanceMethod yX4_clear ∈ wtbl := tb_in (i := 421) (by decide +kernel) rfl
theorem se_X4_clear : Cond.selects RX4 yX4_clear yX4_clear ∈ wtbl := tb_in (i := 422) (by decide +kernel) rfl
theorem mw_X4_clear : MW yX4_clear cX4_clear 1 none 0 := ⟨tb_in (i := 6) (by decide +kernel) rfl, tb_in (i := 423) (by decide +kernel) rfl, ⟨by decide, by decide⟩, by decide +kernel, by decide⟩
theorem lk_X5_35 : Cond.methodLink RX5 35 yX8_sign ∈ wtbl := tb_in (i := 424) (by decide +kernel) rfl
theorem im_X8_sign : Cond.instanceMethod yX8_sign ∈ wtbl := tb_in (i := 425) (by decide +kernel) rfl
theorem se_X8_sign : Cond.selects RX8 yX8_sign yX8_sign ∈ wtbl := tb_in (i := 426) (by decide +kernel) rfl
theorem mw_X8_sign : MW yX8_sign cX8_sign 2 (some .int) 0 := ⟨tb_in (i := 4) (by decide +kernel) rfl, tb_in (i := 427) (by decide +kernel) rfl, ⟨by decide, by decide⟩, by decide +kernel, by decide⟩
theorem lk_X5_39 : Cond.methodLink RX5 39 yX8_fail ∈ wtbl := tb_in (i := 428) (by decide +kernel) rfl
theorem im_X8_fail : Cond.instanceMethod yX8_fail ∈ wtbl := tb_in (i := 429) (by decide +kernel) rfl
theorem se_X8_fail : Cond.selects RX8 yX8_fail yX8_fail ∈ wtbl := tb_in (i := 430) (by decide +kernel) rfl
theorem mw_X8_fail : MW yX8_fail cX8_fail 2 none 1 := ⟨tb_in (i := 4) (by decide +kernel) rfl, tb_in (i := 431) (by decide +kernel) rfl, ⟨by decide, by decide⟩, by decide +kernel, by decide⟩
theorem lk_X5_42 : Cond.methodLink RX5 42 yX8_pass ∈ wtbl := tb_in (i := 432) (by decide +kernel) rfl
theorem im_X8_pass : Cond.instanceMethod yX8_pass ∈ wtbl := tb_in (i := 433) (by decide +kernel) rfl
theorem se_X8_pass : Cond.selects RX8 yX8_pass yX8_pass ∈ wtbl := tb_in (i := 434) (by decide +kernel) rfl
theorem mw_X8_pass : MW yX8_pass cX8_pass 2 none 1 := ⟨tb_in (i := 4) (by decide +kernel) rfl, tb_in (i := 435) (by decide +kernel) rfl, ⟨by decide, by decide⟩, by decide +kernel, by decide⟩
theorem lk_X8_32 : Cond.methodLink RX8 32 yX8_sign ∈ wtbl := tb_in (i := 436) (by decide +kernel) rfl
theorem lk_X8_36 : Cond.methodLink RX8 36 yX8_fail ∈ wtbl := tb_in (i := 437) (by decide +kernel) rfl
theorem lk_X5_45 : Cond.methodLink RX5 45 yX4_startPrice ∈ wtbl := tb_in (i := 438) (by decide +kernel) rfl
theorem im_X4_startPrice : Cond.instanceMethod yX4_startPrice ∈ wtbl := tb_in (i := 439) (by decide +kernel) rfl
theorem se_X4_startPrice : Cond.selects RX4 yX4_startPrice yX4_startPrice ∈ wtbl := tb_in (i := 440) (by decide +kernel) rfl
theorem mw_X4_startPrice : MW yX4_startPrice cX4_startPrice 1 none 0 := ⟨tb_in (i := 6) (by decide +kernel) rfl, tb_in (i := 441) (by decide +kernel) rfl, ⟨by decide, by decide⟩, by decide +kernel, by decide⟩
theorem lk_X5_48 : Cond.methodLink RX5 48 yX5_sum ∈ wtbl := tb_in (i := 442) (by decide +kernel) rfl
theorem im_X5_sum : Cond.instanceMethod yX5_sum ∈ wtbl := tb_in (i := 444) (by decide +kernel) rfl
theorem mw_X5_sum : MW yX5_sum cX5_sum 6 none 2 := ⟨tb_in (i := 8) (by decide +kernel) rfl, tb_in (i := 445) (by decide +kernel) rfl, ⟨by decide, by decide⟩, by decide +kernel, by decide⟩
theorem lk_X5_85 : Cond.methodLink RX5 85 yX5_factor ∈ wtbl := tb_in (i := 446) (by decide +kernel) rfl
theorem im_X5_factor : Cond.instanceMethod yX5_factor ∈ wtbl := tb_in (i := 448) (by decide +kernel) rfl
theorem mw_X5_factor : MW yX5_factor cX5_factor 4 none 1 := ⟨tb_in (i := 8) (by decide +kernel) rfl, tb_in (i := 449) (by decide +kernel) rfl, ⟨by decide, by decide⟩, by decide +kernel, by decide⟩
theorem lk_X5_95 : Cond.methodLink RX5 95 yX5_letterOf ∈ wtbl := tb_in (i := 450) (by decide +kernel) rfl
theorem im_X5_letterOf : Cond.static yX5_letterOf ∈ wtbl := tb_in (i := 451) (by decide +kernel) rfl
theorem mw_X5_letterOf : MW yX5_letterOf cX5_letterOf 1 (some .int) 1 := ⟨tb_in (i := 8) (by decide +kernel) rfl, tb_in (i := 452) (by decide +kernel) rfl, ⟨by decide, by decide⟩, by decide +kernel, by decide⟩
theorem lk_X5_81 : Cond.methodLink RX5 81 yX8_opens ∈ wtbl := tb_in (i := 453) (by decide +kernel) rfl
theorem im_X8_opens : Cond.instanceMethod yX8_opens ∈ wtbl := tb_in (i := 454) (by decide +kernel) rfl
theorem se_X8_opens : Cond.selects RX8 yX8_opens yX8_opens ∈ wtbl := tb_in (i := 455) (by decide +kernel) rfl
theorem mw_X8_opens : MW yX8_opens cX8_opens 2 (some .boolean) 1 := ⟨tb_in (i := 4) (by decide +kernel) rfl, tb_in (i := 456) (by decide +kernel) rfl, ⟨by decide, by decide⟩, by decide +kernel, by decide⟩
theorem lk_X5_98 : Cond.methodLink RX5 98 yX5_isDigit ∈ wtbl := tb_in (i := 457) (by decide +kernel) rfl
theorem im_X5_isDigit : Cond.static yX5_isDigit ∈ wtbl := tb_in (i := 458) (by decide +kernel) rfl
theorem mw_X5_isDigit : MW yX5_isDigit cX5_isDigit 1 (some .boolean) 1 := ⟨tb_in (i := 8) (by decide +kernel) rfl, tb_in (i := 459) (by decide +kernel) rfl, ⟨by decide, by decide⟩, by decide +kernel, by decide⟩
theorem lk_X5_101 : Cond.methodLink RX5 101 yX5_number ∈ wtbl := tb_in (i := 460) (by decide +kernel) rfl
theorem im_X5_number : Cond.instanceMethod yX5_number ∈ wtbl := tb_in (i := 462) (by decide +kernel) rfl
theorem mw_X5_number : MW yX5_number cX5_number 3 none 0 := ⟨tb_in (i := 8) (by decide +kernel) rfl, tb_in (i := 463) (by decide +kernel) rfl, ⟨by decide, by decide⟩, by decide +kernel, by decide⟩
theorem lk_X5_74 : Cond.methodLink RX5 74 yX8_step ∈ wtbl := tb_in (i := 464) (by decide +kernel) rfl
theorem im_X8_step : Cond.instanceMethod yX8_step ∈ wtbl := tb_in (i := 465) (by decide +kernel) rfl
theorem se_X8_step : Cond.selects RX8 yX8_step yX8_step ∈ wtbl := tb_in (i := 466) (by decide +kernel) rfl
theorem mw_X8_step : MW yX8_step cX8_step 1 none 0 := ⟨tb_in (i := 4) (by decide +kernel) rfl, tb_in (i := 467) (by decide +kernel) rfl, ⟨by decide, by decide⟩, by decide +kernel, by decide⟩
theorem lk_X5_77 : Cond.methodLink RX5 77 yX4_put ∈ wtbl := tb_in (i := 468) (by decide +kernel) rfl
theorem im_X4_put : Cond.instanceMethod yX4_put ∈ wtbl := tb_in (i := 469) (by decide +kernel) rfl
theorem se_X4_put : Cond.selects RX4 yX4_put yX4_put ∈ wtbl := tb_in (i := 470) (by decide +kernel) rfl
theorem mw_X4_put : MW yX4_put cX4_put 3 (some .int) 2 := ⟨tb_in (i := 6) (by decide +kernel) rfl, tb_in (i := 471) (by decide +kernel) rfl, ⟨by decide, by decide⟩, by decide +kernel, by decide⟩
theorem lk_X5_88 : Cond.methodLink RX5 88 yX5_sumStep ∈ wtbl := tb_in (i := 472) (by decide +kernel) rfl
theorem im_X5_sumStep : Cond.static yX5_sumStep ∈ wtbl := tb_in (i := 473) (by decide +kernel) rfl
theorem mw_X5_sumStep : MW yX5_sumStep cX5_sumStep 1 (some .int) 1 := ⟨tb_in (i := 8) (by decide +kernel) rfl, tb_in (i := 474) (by decide +kernel) rfl, ⟨by decide, by decide⟩, by decide +kernel, by decide⟩
theorem lk_X5_92 : Cond.methodLink RX5 92 yX5_productStep ∈ wtbl := tb_in (i := 475) (by decide +kernel) rfl
theorem im_X5_productStep : Cond.static yX5_productStep ∈ wtbl := tb_in (i := 476) (by decide +kernel) rfl
theorem mw_X5_productStep : MW yX5_productStep cX5_productStep 1 (some .int) 1 := ⟨tb_in (i := 8) (by decide +kernel) rfl, tb_in (i := 477) (by decide +kernel) rfl, ⟨by decide, by decide⟩, by decide +kernel, by decide⟩
theorem lk_X5_52 : Cond.methodLink RX5 52 yX4_startCondition ∈ wtbl := tb_in (i := 478) (by decide +kernel) rfl
theorem im_X4_startCondition : Cond.instanceMethod yX4_startCondition ∈ wtbl := tb_in (i := 479) (by decide +kernel) rfl
theorem se_X4_startCondition : Cond.selects RX4 yX4_startCondition yX4_startCondition ∈ wtbl := tb_in (i := 480) (by decide +kernel) rfl
theorem mw_X4_startCondition : MW yX4_startCondition cX4_startCondition 1 none 0 := ⟨tb_in (i := 6) (by decide +kernel) rfl, tb_in (i := 481) (by decide +kernel) rfl, ⟨by decide, by decide⟩, by decide +kernel, by decide⟩
theorem lk_X5_55 : Cond.methodLink RX5 55 yX5_condition ∈ wtbl := tb_in (i := 482) (by decide +kernel) rfl
theorem im_X5_condition : Cond.instanceMethod yX5_condition ∈ wtbl := tb_in (i := 484) (by decide +kernel) rfl
theorem mw_X5_condition : MW yX5_condition cX5_condition 7 none 2 := ⟨tb_in (i := 8) (by decide +kernel) rfl, tb_in (i := 485) (by decide +kernel) rfl, ⟨by decide, by decide⟩, by decide +kernel, by decide⟩
theorem lk_X5_68 : Cond.methodLink RX5 68 yX5_piece ∈ wtbl := tb_in (i := 486) (by decide +kernel) rfl
theorem im_X5_piece : Cond.instanceMethod yX5_piece ∈ wtbl := tb_in (i := 488) (by decide +kernel) rfl
theorem mw_X5_piece : MW yX5_piece cX5_piece 5 none 1 := ⟨tb_in (i := 8) (by decide +kernel) rfl, tb_in (i := 489) (by decide +kernel) rfl, ⟨by decide, by decide⟩, by decide +kernel, by decide⟩
theorem lk_X5_71 : Cond.methodLink RX5 71 yX4_land ∈ wtbl := tb_in (i := 490) (by decide +kernel) rfl
theorem im_X4_land : Cond.instanceMethod yX4_land ∈ wtbl := tb_in (i := 491) (by decide +kernel) rfl
theorem se_X4_land : Cond.selects RX4 yX4_land yX4_land ∈ wtbl := tb_in (i := 492) (by decide +kernel) rfl
theorem mw_X4_land : MW yX4_land cX4_land 2 none 1 := ⟨tb_in (i := 6) (by decide +kernel) rfl, tb_in (i := 493) (by decide +kernel) rfl, ⟨by decide, by decide⟩, by decide +kernel, by decide⟩
theorem lk_X5_58 : Cond.methodLink RX5 58 yX4_endClause ∈ wtbl := tb_in (i := 494) (by decide +kernel) rfl
theorem im_X4_endClause : Cond.instanceMethod yX4_endClause ∈ wtbl := tb_in (i := 495) (by decide +kernel) rfl
theorem se_X4_endClause : Cond.selects RX4 yX4_endClause yX4_endClause ∈ wtbl := tb_in (i := 496) (by decide +kernel) rfl
theorem mw_X4_endClause : MW yX4_endClause cX4_endClause 1 none 0 := ⟨tb_in (i := 6) (by decide +kernel) rfl, tb_in (i := 497) (by decide +kernel) rfl, ⟨by decide, by decide⟩, by decide +kernel, by decide⟩
theorem lk_X5_61 : Cond.methodLink RX5 61 yX8_isAtEnd ∈ wtbl := tb_in (i := 498) (by decide +kernel) rfl
theorem im_X8_isAtEnd : Cond.instanceMethod yX8_isAtEnd ∈ wtbl := tb_in (i := 499) (by decide +kernel) rfl
theorem se_X8_isAtEnd : Cond.selects RX8 yX8_isAtEnd yX8_isAtEnd ∈ wtbl := tb_in (i := 500) (by decide +kernel) rfl
theorem mw_X8_isAtEnd : MW yX8_isAtEnd cX8_isAtEnd 1 (some .boolean) 0 := ⟨tb_in (i := 4) (by decide +kernel) rfl, tb_in (i := 501) (by decide +kernel) rfl, ⟨by decide, by decide⟩, by decide +kernel, by decide⟩
theorem lk_X11_120 : Cond.methodLink RX11 120 yX8_wipe ∈ wtbl := tb_in (i := 502) (by decide +kernel) rfl
theorem im_X8_wipe : Cond.instanceMethod yX8_wipe ∈ wtbl := tb_in (i := 503) (by decide +kernel) rfl
theorem se_X8_wipe : Cond.selects RX8 yX8_wipe yX8_wipe ∈ wtbl := tb_in (i := 504) (by decide +kernel) rfl
theorem mw_X8_wipe : MW yX8_wipe cX8_wipe 1 none 0 := ⟨tb_in (i := 4) (by decide +kernel) rfl, tb_in (i := 505) (by decide +kernel) rfl, ⟨by decide, by decide⟩, by decide +kernel, by decide⟩
theorem lk_X11_126 : Cond.methodLink RX11 126 yX9_takeLaw ∈ wtbl := tb_in (i := 506) (by decide +kernel) rfl
theorem im_X9_takeLaw : Cond.instanceMethod yX9_takeLaw ∈ wtbl := tb_in (i := 507) (by decide +kernel) rfl
theorem se_X9_takeLaw : Cond.selects RX9 yX9_takeLaw yX9_takeLaw ∈ wtbl := tb_in (i := 508) (by decide +kernel) rfl
theorem mw_X9_takeLaw : MW yX9_takeLaw cX9_takeLaw 2 none 1 := ⟨tb_in (i := 5) (by decide +kernel) rfl, tb_in (i := 509) (by decide +kernel) rfl, ⟨by decide, by decide⟩, by decide +kernel, by decide⟩
theorem lk_X9_39 : Cond.methodLink RX9 39 yX4_takeOver ∈ wtbl := tb_in (i := 510) (by decide +kernel) rfl
theorem im_X4_takeOver : Cond.instanceMethod yX4_takeOver ∈ wtbl := tb_in (i := 511) (by decide +kernel) rfl
theorem se_X4_takeOver : Cond.selects RX4 yX4_takeOver yX4_takeOver ∈ wtbl := tb_in (i := 512) (by decide +kernel) rfl
theorem mw_X4_takeOver : MW yX4_takeOver cX4_takeOver 2 none 1 := ⟨tb_in (i := 6) (by decide +kernel) rfl, tb_in (i := 513) (by decide +kernel) rfl, ⟨by decide, by decide⟩, by decide +kernel, by decide⟩
theorem lk_X4_40 : Cond.methodLink RX4 40 arraycopyName ∈ wtbl := tb_in (i := 514) (by decide +kernel) rfl
theorem im_copy_static : Cond.static arraycopyName ∈ wtbl := tb_in (i := 515) (by decide +kernel) rfl
theorem im_copy_native : Cond.native arraycopyName ∈ wtbl := tb_in (i := 516) (by decide +kernel) rfl
theorem lk_L_47 : Cond.methodLink RL 47 yX11_brief ∈ wtbl := tb_in (i := 517) (by decide +kernel) rfl
theorem im_X11_brief : Cond.instanceMethod yX11_brief ∈ wtbl := tb_in (i := 518) (by decide +kernel) rfl
theorem se_X11_brief : Cond.selects RX11 yX11_brief yX11_brief ∈ wtbl := tb_in (i := 519) (by decide +kernel) rfl
theorem mw_X11_brief : MW yX11_brief cX11_brief 3 (some .int) 2 := ⟨tb_in (i := 1) (by decide +kernel) rfl, tb_in (i := 520) (by decide +kernel) rfl, ⟨by decide, by decide⟩, by decide +kernel, by decide⟩
theorem lk_X11_130 : Cond.methodLink RX11 130 yX3_isTongue ∈ wtbl := tb_in (i := 521) (by decide +kernel) rfl
theorem im_X3_isTongue : Cond.instanceMethod yX3_isTongue ∈ wtbl := tb_in (i := 522) (by decide +kernel) rfl
theorem se_X3_isTongue : Cond.selects RX3 yX3_isTongue yX3_isTongue ∈ wtbl := tb_in (i := 523) (by decide +kernel) rfl
theorem mw_X3_isTongue : MW yX3_isTongue cX3_isTongue 2 (some .boolean) 1 := ⟨tb_in (i := 2) (by decide +kernel) rfl, tb_in (i := 524) (by decide +kernel) rfl, ⟨by decide, by decide⟩, by decide +kernel, by decide⟩
theorem lk_X3_42 : Cond.methodLink RX3 42 yX3_all ∈ wtbl := tb_in (i := 525) (by decide +kernel) rfl
theorem im_X3_all : Cond.instanceMethod yX3_all ∈ wtbl := tb_in (i := 526) (by decide +kernel) rfl
theorem se_X3_all : Cond.selects RX3 yX3_all yX3_all ∈ wtbl := tb_in (i := 527) (by decide +kernel) rfl
theorem mw_X3_all : MW yX3_all cX3_all 1 (some .int) 0 := ⟨tb_in (i := 2) (by decide +kernel) rfl, tb_in (i := 528) (by decide +kernel) rfl, ⟨by decide, by decide⟩, by decide +kernel, by decide⟩
theorem lk_X3_46 : Cond.methodLinkNest RX3 46 yX11_within "WordYear" ∈ wtbl := tb_in (i := 529) (by decide +kernel) rfl
theorem lk_X11_134 : Cond.methodLink RX11 134 yX9_speech ∈ wtbl := tb_in (i := 530) (by decide +kernel) rfl
theorem im_X9_speech : Cond.instanceMethod yX9_speech ∈ wtbl := tb_in (i := 531) (by decide +kernel) rfl
theorem se_X9_speech : Cond.selects RX9 yX9_speech yX9_speech ∈ wtbl := tb_in (i := 532) (by decide +kernel) rfl
theorem mw_X9_speech : MW yX9_speech cX9_speech 5 (some (.object "WordYear$Speech")) 1 := ⟨tb_in (i := 5) (by decide +kernel) rfl, tb_in (i := 533) (by decide +kernel) rfl, ⟨by decide, by decide⟩, by decide +kernel, by decide⟩
theorem kc_X9_47 : Jvm.Cond.constant RX9 47 (268435456) ∈ wtbl := tb_in (i := 534) (by decide +kernel) rfl
theorem lk_X9_48 : Cond.methodLink RX9 48 yX7_solve ∈ wtbl := tb_in (i := 535) (by decide +kernel) rfl
theorem im_X7_solve : Cond.instanceMethod yX7_solve ∈ wtbl := tb_in (i := 536) (by decide +kernel) rfl
theorem se_X7_solve : Cond.selects RX7 yX7_solve yX7_solve ∈ wtbl := tb_in (i := 537) (by decide +kernel) rfl
theorem mw_X7_solve : MW yX7_solve cX7_solve 5 none 3 := ⟨tb_in (i := 7) (by decide +kernel) rfl, tb_in (i := 538) (by decide +kernel) rfl, ⟨by decide, by decide⟩, by decide +kernel, by decide⟩
theorem kc_X7_30 : Jvm.Cond.constant RX7 30 (268435456) ∈ wtbl := tb_in (i := 539) (by decide +kernel) rfl
theorem lk_X7_31 : Cond.methodLinkNest RX7 31 yX11_contains "WordYear" ∈ wtbl := tb_in (i := 540) (by decide +kernel) rfl
theorem im_X11_contains : Cond.static yX11_contains ∈ wtbl := tb_in (i := 541) (by decide +kernel) rfl
theorem mw_X11_contains : MW yX11_contains cX11_contains 2 (some .boolean) 2 := ⟨tb_in (i := 1) (by decide +kernel) rfl, tb_in (i := 542) (by decide +kernel) rfl, ⟨by decide, by decide⟩, by decide +kernel, by decide⟩
theorem lk_X7_35 : Cond.methodLink RX7 35 yX3_isPlain ∈ wtbl := tb_in (i := 543) (by decide +kernel) rfl
theorem im_X3_isPlain : Cond.instanceMethod yX3_isPlain ∈ wtbl := tb_in (i := 544) (by decide +kernel) rfl
theorem se_X3_isPlain : Cond.selects RX3 yX3_isPlain yX3_isPlain ∈ wtbl := tb_in (i := 545) (by decide +kernel) rfl
theorem mw_X3_isPlain : MW yX3_isPlain cX3_isPlain 2 (some .boolean) 1 := ⟨tb_in (i := 2) (by decide +kernel) rfl, tb_in (i := 546) (by decide +kernel) rfl, ⟨by decide, by decide⟩, by decide +kernel, by decide⟩
theorem lk_X3_31 : Cond.methodLinkNest RX3 31 yX11_contains "WordYear" ∈ wtbl := tb_in (i := 547) (by decide +kernel) rfl
theorem lk_X7_41 : Cond.methodLink RX7 41 yX3_meaningOf ∈ wtbl := tb_in (i := 548) (by decide +kernel) rfl
theorem im_X3_meaningOf : Cond.instanceMethod yX3_meaningOf ∈ wtbl := tb_in (i := 549) (by decide +kernel) rfl
theorem se_X3_meaningOf : Cond.selects RX3 yX3_meaningOf yX3_meaningOf ∈ wtbl := tb_in (i := 550) (by decide +kernel) rfl
theorem mw_X3_meaningOf : MW yX3_meaningOf cX3_meaningOf 2 (some .int) 1 := ⟨tb_in (i := 2) (by decide +kernel) rfl, tb_in (i := 551) (by decide +kernel) rfl, ⟨by decide, by decide⟩, by decide +kernel, by decide⟩
theorem lk_X7_45 : Cond.methodLink RX7 45 yX3_lengthOf ∈ wtbl := tb_in (i := 552) (by decide +kernel) rfl
theorem im_X3_lengthOf : Cond.instanceMethod yX3_lengthOf ∈ wtbl := tb_in (i := 553) (by decide +kernel) rfl
theorem se_X3_lengthOf : Cond.selects RX3 yX3_lengthOf yX3_lengthOf ∈ wtbl := tb_in (i := 554) (by decide +kernel) rfl
theorem mw_X3_lengthOf : MW yX3_lengthOf cX3_lengthOf 2 (some .int) 1 := ⟨tb_in (i := 2) (by decide +kernel) rfl, tb_in (i := 555) (by decide +kernel) rfl, ⟨by decide, by decide⟩, by decide +kernel, by decide⟩
theorem lk_X7_48 : Cond.methodLink RX7 48 yX7_offer ∈ wtbl := tb_in (i := 556) (by decide +kernel) rfl
theorem im_X7_offer : Cond.instanceMethod yX7_offer ∈ wtbl := tb_in (i := 558) (by decide +kernel) rfl
theorem mw_X7_offer : MW yX7_offer cX7_offer 3 none 2 := ⟨tb_in (i := 7) (by decide +kernel) rfl, tb_in (i := 559) (by decide +kernel) rfl, ⟨by decide, by decide⟩, by decide +kernel, by decide⟩
theorem lk_X7_52 : Cond.methodLink RX7 52 yX3_joinLength ∈ wtbl := tb_in (i := 560) (by decide +kernel) rfl
theorem im_X3_joinLength : Cond.instanceMethod yX3_joinLength ∈ wtbl := tb_in (i := 561) (by decide +kernel) rfl
theorem se_X3_joinLength : Cond.selects RX3 yX3_joinLength yX3_joinLength ∈ wtbl := tb_in (i := 562) (by decide +kernel) rfl
theorem mw_X3_joinLength : MW yX3_joinLength cX3_joinLength 3 (some .int) 2 := ⟨tb_in (i := 2) (by decide +kernel) rfl, tb_in (i := 563) (by decide +kernel) rfl, ⟨by decide, by decide⟩, by decide +kernel, by decide⟩
theorem lk_X3_51 : Cond.methodLink RX3 51 yX3_shortestOf ∈ wtbl := tb_in (i := 564) (by decide +kernel) rfl
theorem im_X3_shortestOf : Cond.instanceMethod yX3_shortestOf ∈ wtbl := tb_in (i := 565) (by decide +kernel) rfl
theorem se_X3_shortestOf : Cond.selects RX3 yX3_shortestOf yX3_shortestOf ∈ wtbl := tb_in (i := 566) (by decide +kernel) rfl
theorem mw_X3_shortestOf : MW yX3_shortestOf cX3_shortestOf 6 (some .int) 2 := ⟨tb_in (i := 2) (by decide +kernel) rfl, tb_in (i := 567) (by decide +kernel) rfl, ⟨by decide, by decide⟩, by decide +kernel, by decide⟩
theorem kc_X3_50 : Jvm.Cond.constant RX3 50 (268435456) ∈ wtbl := tb_in (i := 568) (by decide +kernel) rfl
theorem lk_X3_54 : Cond.methodLink RX3 54 yX3_lengthOf ∈ wtbl := tb_in (i := 569) (by decide +kernel) rfl
theorem lk_X7_65 : Cond.methodLink RX7 65 yX7_settle ∈ wtbl := tb_in (i := 570) (by decide +kernel) rfl
theorem im_X7_settle : Cond.instanceMethod yX7_settle ∈ wtbl := tb_in (i := 572) (by decide +kernel) rfl
theorem mw_X7_settle : MW yX7_settle cX7_settle 8 none 0 := ⟨tb_in (i := 7) (by decide +kernel) rfl, tb_in (i := 573) (by decide +kernel) rfl, ⟨by decide, by decide⟩, by decide +kernel, by decide⟩
theorem lk_X11_138 : Cond.methodLink RX11 138 yX7_shortest ∈ wtbl := tb_in (i := 574) (by decide +kernel) rfl
theorem im_X7_shortest : Cond.instanceMethod yX7_shortest ∈ wtbl := tb_in (i := 575) (by decide +kernel) rfl
theorem se_X7_shortest : Cond.selects RX7 yX7_shortest yX7_shortest ∈ wtbl := tb_in (i := 576) (by decide +kernel) rfl
theorem mw_X7_shortest : MW yX7_shortest cX7_shortest 3 (some .int) 1 := ⟨tb_in (i := 7) (by decide +kernel) rfl, tb_in (i := 577) (by decide +kernel) rfl, ⟨by decide, by decide⟩, by decide +kernel, by decide⟩
theorem lk_L_52 : Cond.methodLink RL 52 yX11_how ∈ wtbl := tb_in (i := 578) (by decide +kernel) rfl
theorem im_X11_how : Cond.instanceMethod yX11_how ∈ wtbl := tb_in (i := 579) (by decide +kernel) rfl
theorem se_X11_how : Cond.selects RX11 yX11_how yX11_how ∈ wtbl := tb_in (i := 580) (by decide +kernel) rfl
theorem mw_X11_how : MW yX11_how cX11_how 7 (some .int) 3 := ⟨tb_in (i := 1) (by decide +kernel) rfl, tb_in (i := 581) (by decide +kernel) rfl, ⟨by decide, by decide⟩, by decide +kernel, by decide⟩
theorem lk_X11_143 : Cond.methodLink RX11 143 yX7_manner ∈ wtbl := tb_in (i := 582) (by decide +kernel) rfl
theorem im_X7_manner : Cond.instanceMethod yX7_manner ∈ wtbl := tb_in (i := 583) (by decide +kernel) rfl
theorem se_X7_manner : Cond.selects RX7 yX7_manner yX7_manner ∈ wtbl := tb_in (i := 584) (by decide +kernel) rfl
theorem mw_X7_manner : MW yX7_manner cX7_manner 5 (some .int) 1 := ⟨tb_in (i := 7) (by decide +kernel) rfl, tb_in (i := 585) (by decide +kernel) rfl, ⟨by decide, by decide⟩, by decide +kernel, by decide⟩
theorem lk_X7_68 : Cond.methodLinkNest RX7 68 yX11_packManner "WordYear" ∈ wtbl := tb_in (i := 586) (by decide +kernel) rfl
theorem im_X11_packManner : Cond.static yX11_packManner ∈ wtbl := tb_in (i := 587) (by decide +kernel) rfl
theorem mw_X11_packManner : MW yX11_packManner cX11_packManner 3 (some .int) 3 := ⟨tb_in (i := 1) (by decide +kernel) rfl, tb_in (i := 588) (by decide +kernel) rfl, ⟨by decide, by decide⟩, by decide +kernel, by decide⟩
theorem lk_X7_72 : Cond.methodLink RX7 72 yX7_pairOf ∈ wtbl := tb_in (i := 589) (by decide +kernel) rfl
theorem im_X7_pairOf : Cond.instanceMethod yX7_pairOf ∈ wtbl := tb_in (i := 591) (by decide +kernel) rfl
theorem mw_X7_pairOf : MW yX7_pairOf cX7_pairOf 8 (some .int) 3 := ⟨tb_in (i := 7) (by decide +kernel) rfl, tb_in (i := 592) (by decide +kernel) rfl, ⟨by decide, by decide⟩, by decide +kernel, by decide⟩
theorem lk_X11_146 : Cond.methodLink RX11 146 yX11_mannerKind ∈ wtbl := tb_in (i := 593) (by decide +kernel) rfl
theorem im_X11_mannerKind : Cond.static yX11_mannerKind ∈ wtbl := tb_in (i := 594) (by decide +kernel) rfl
theorem mw_X11_mannerKind : MW yX11_mannerKind cX11_mannerKind 1 (some .int) 1 := ⟨tb_in (i := 1) (by decide +kernel) rfl, tb_in (i := 595) (by decide +kernel) rfl, ⟨by decide, by decide⟩, by decide +kernel, by decide⟩
theorem lk_X11_149 : Cond.methodLink RX11 149 yX11_mannerFirst ∈ wtbl := tb_in (i := 596) (by decide +kernel) rfl
theorem im_X11_mannerFirst : Cond.static yX11_mannerFirst ∈ wtbl := tb_in (i := 597) (by decide +kernel) rfl
theorem mw_X11_mannerFirst : MW yX11_mannerFirst cX11_mannerFirst 1 (some .int) 1 := ⟨tb_in (i := 1) (by decide +kernel) rfl, tb_in (i := 598) (by decide +kernel) rfl, ⟨by decide, by decide⟩, by decide +kernel, by decide⟩
theorem lk_X11_152 : Cond.methodLink RX11 152 yX11_mannerSecond ∈ wtbl := tb_in (i := 599) (by decide +kernel) rfl
theorem im_X11_mannerSecond : Cond.static yX11_mannerSecond ∈ wtbl := tb_in (i := 600) (by decide +kernel) rfl
theorem mw_X11_mannerSecond : MW yX11_mannerSecond cX11_mannerSecond 1 (some .int) 1 := ⟨tb_in (i := 1) (by decide +kernel) rfl, tb_in (i := 601) (by decide +kernel) rfl, ⟨by decide, by decide⟩, by decide +kernel, by decide⟩
theorem lk_L_56 : Cond.methodLink RL 56 yX11_sayable ∈ wtbl := tb_in (i := 602) (by decide +kernel) rfl
theorem im_X11_sayable : Cond.instanceMethod yX11_sayable ∈ wtbl := tb_in (i := 603) (by decide +kernel) rfl
theorem se_X11_sayable : Cond.selects RX11 yX11_sayable yX11_sayable ∈ wtbl := tb_in (i := 604) (by decide +kernel) rfl
theorem mw_X11_sayable : MW yX11_sayable cX11_sayable 5 (some .int) 3 := ⟨tb_in (i := 1) (by decide +kernel) rfl, tb_in (i := 605) (by decide +kernel) rfl, ⟨by decide, by decide⟩, by decide +kernel, by decide⟩
theorem lk_X11_155 : Cond.methodLink RX11 155 yX9_price ∈ wtbl := tb_in (i := 606) (by decide +kernel) rfl
theorem im_X9_price : Cond.instanceMethod yX9_price ∈ wtbl := tb_in (i := 607) (by decide +kernel) rfl
theorem se_X9_price : Cond.selects RX9 yX9_price yX9_price ∈ wtbl := tb_in (i := 608) (by decide +kernel) rfl
theorem mw_X9_price : MW yX9_price cX9_price 10 (some .int) 2 := ⟨tb_in (i := 5) (by decide +kernel) rfl, tb_in (i := 609) (by decide +kernel) rfl, ⟨by decide, by decide⟩, by decide +kernel, by decide⟩
theorem lk_X9_67 : Cond.methodLink RX9 67 yX4_extraFor ∈ wtbl := tb_in (i := 610) (by decide +kernel) rfl
theorem im_X4_extraFor : Cond.instanceMethod yX4_extraFor ∈ wtbl := tb_in (i := 611) (by decide +kernel) rfl
theorem se_X4_extraFor : Cond.selects RX4 yX4_extraFor yX4_extraFor ∈ wtbl := tb_in (i := 612) (by decide +kernel) rfl
theorem mw_X4_extraFor : MW yX4_extraFor cX4_extraFor 6 (some .int) 3 := ⟨tb_in (i := 6) (by decide +kernel) rfl, tb_in (i := 613) (by decide +kernel) rfl, ⟨by decide, by decide⟩, by decide +kernel, by decide⟩
theorem lk_X4_46 : Cond.methodLink RX4 46 yJ6_bitCount_0f7a4 ∈ wtbl := tb_in (i := 614) (by decide +kernel) rfl
theorem im_J6_bitCount_0f7a4 : Cond.static yJ6_bitCount_0f7a4 ∈ wtbl := tb_in (i := 615) (by decide +kernel) rfl
theorem mw_J6_bitCount_0f7a4 : MW yJ6_bitCount_0f7a4 cJ6_bitCount_0f7a4 1 (some .int) 1 := ⟨tb_in (i := 15) (by decide +kernel) rfl, tb_in (i := 616) (by decide +kernel) rfl, ⟨by decide, by decide⟩, by decide +kernel, by decide⟩
theorem kc_J6_265 : Jvm.Cond.constant RJ6 265 (1431655765) ∈ wtbl := tb_in (i := 617) (by decide +kernel) rfl
theorem kc_J6_266 : Jvm.Cond.constant RJ6 266 (858993459) ∈ wtbl := tb_in (i := 618) (by decide +kernel) rfl
theorem kc_J6_267 : Jvm.Cond.constant RJ6 267 (252645135) ∈ wtbl := tb_in (i := 619) (by decide +kernel) rfl
theorem lk_X4_52 : Cond.methodLink RX4 52 yX4_run ∈ wtbl := tb_in (i := 620) (by decide +kernel) rfl
theorem im_X4_run : Cond.instanceMethod yX4_run ∈ wtbl := tb_in (i := 622) (by decide +kernel) rfl
theorem mw_X4_run : MW yX4_run cX4_run 9 (some .int) 2 := ⟨tb_in (i := 6) (by decide +kernel) rfl, tb_in (i := 623) (by decide +kernel) rfl, ⟨by decide, by decide⟩, by decide +kernel, by decide⟩
theorem lk_X4_60 : Cond.methodLink RX4 60 yX4_joined ∈ wtbl := tb_in (i := 624) (by decide +kernel) rfl
theorem im_X4_joined : Cond.instanceMethod yX4_joined ∈ wtbl := tb_in (i := 626) (by decide +kernel) rfl
theorem mw_X4_joined : MW yX4_joined cX4_joined 4 (some .int) 3 := ⟨tb_in (i := 6) (by decide +kernel) rfl, tb_in (i := 627) (by decide +kernel) rfl, ⟨by decide, by decide⟩, by decide +kernel, by decide⟩
theorem lk_L_60 : Cond.methodLink RL 60 yX11_talk ∈ wtbl := tb_in (i := 628) (by decide +kernel) rfl
theorem im_X11_talk : Cond.instanceMethod yX11_talk ∈ wtbl := tb_in (i := 629) (by decide +kernel) rfl
theorem se_X11_talk : Cond.selects RX11 yX11_talk yX11_talk ∈ wtbl := tb_in (i := 630) (by decide +kernel) rfl
theorem mw_X11_talk : MW yX11_talk cX11_talk 3 (some .long) 2 := ⟨tb_in (i := 1) (by decide +kernel) rfl, tb_in (i := 631) (by decide +kernel) rfl, ⟨by decide, by decide⟩, by decide +kernel, by decide⟩
theorem kl_X11_159 : Jvm.Cond.constantLong RX11 159 (-1) ∈ wtbl := tb_in (i := 632) (by decide +kernel) rfl
theorem lk_X11_161 : Cond.methodLink RX11 161 yX9_yearly ∈ wtbl := tb_in (i := 633) (by decide +kernel) rfl
theorem im_X9_yearly : Cond.instanceMethod yX9_yearly ∈ wtbl := tb_in (i := 634) (by decide +kernel) rfl
theorem se_X9_yearly : Cond.selects RX9 yX9_yearly yX9_yearly ∈ wtbl := tb_in (i := 635) (by decide +kernel) rfl
theorem mw_X9_yearly : MW yX9_yearly cX9_yearly 8 (some .long) 2 := ⟨tb_in (i := 5) (by decide +kernel) rfl, tb_in (i := 636) (by decide +kernel) rfl, ⟨by decide, by decide⟩, by decide +kernel, by decide⟩
theorem lk_X9_85 : Cond.methodLink RX9 85 yX9_price ∈ wtbl := tb_in (i := 637) (by decide +kernel) rfl
theorem lk_X9_92 : Cond.methodLink RX9 92 yJ9_min_7cf53 ∈ wtbl := tb_in (i := 638) (by decide +kernel) rfl
theorem im_J9_min_7cf53 : Cond.static yJ9_min_7cf53 ∈ wtbl := tb_in (i := 639) (by decide +kernel) rfl
theorem mw_J9_min_7cf53 : MW yJ9_min_7cf53 cJ9_min_7cf53 2 (some .int) 2 := ⟨tb_in (i := 16) (by decide +kernel) rfl, tb_in (i := 640) (by decide +kernel) rfl, ⟨by decide, by decide⟩, by decide +kernel, by decide⟩
theorem lk_L_65 : Cond.methodLink RL 65 yX11_musts ∈ wtbl := tb_in (i := 641) (by decide +kernel) rfl
theorem im_X11_musts : Cond.instanceMethod yX11_musts ∈ wtbl := tb_in (i := 642) (by decide +kernel) rfl
theorem se_X11_musts : Cond.selects RX11 yX11_musts yX11_musts ∈ wtbl := tb_in (i := 643) (by decide +kernel) rfl
theorem mw_X11_musts : MW yX11_musts cX11_musts 2 (some .int) 1 := ⟨tb_in (i := 1) (by decide +kernel) rfl, tb_in (i := 644) (by decide +kernel) rfl, ⟨by decide, by decide⟩, by decide +kernel, by decide⟩
theorem lk_X11_165 : Cond.methodLink RX11 165 yX9_missed ∈ wtbl := tb_in (i := 645) (by decide +kernel) rfl
theorem im_X9_missed : Cond.instanceMethod yX9_missed ∈ wtbl := tb_in (i := 646) (by decide +kernel) rfl
theorem se_X9_missed : Cond.selects RX9 yX9_missed yX9_missed ∈ wtbl := tb_in (i := 647) (by decide +kernel) rfl
theorem mw_X9_missed : MW yX9_missed cX9_missed 6 (some .int) 1 := ⟨tb_in (i := 5) (by decide +kernel) rfl, tb_in (i := 648) (by decide +kernel) rfl, ⟨by decide, by decide⟩, by decide +kernel, by decide⟩
theorem lk_X9_98 : Cond.methodLink RX9 98 yX9_speech ∈ wtbl := tb_in (i := 649) (by decide +kernel) rfl
theorem lk_L_69 : Cond.methodLink RL 69 yX11_strike ∈ wtbl := tb_in (i := 650) (by decide +kernel) rfl
theorem im_X11_strike : Cond.instanceMethod yX11_strike ∈ wtbl := tb_in (i := 651) (by decide +kernel) rfl
theorem se_X11_strike : Cond.selects RX11 yX11_strike yX11_strike ∈ wtbl := tb_in (i := 652) (by decide +kernel) rfl
theorem mw_X11_strike : MW yX11_strike cX11_strike 2 (some .int) 1 := ⟨tb_in (i := 1) (by decide +kernel) rfl, tb_in (i := 653) (by decide +kernel) rfl, ⟨by decide, by decide⟩, by decide +kernel, by decide⟩
theorem lk_X11_168 : Cond.methodLink RX11 168 yX3_strikeOut ∈ wtbl := tb_in (i := 654) (by decide +kernel) rfl
theorem im_X3_strikeOut : Cond.instanceMethod yX3_strikeOut ∈ wtbl := tb_in (i := 655) (by decide +kernel) rfl
theorem se_X3_strikeOut : Cond.selects RX3 yX3_strikeOut yX3_strikeOut ∈ wtbl := tb_in (i := 656) (by decide +kernel) rfl
theorem mw_X3_strikeOut : MW yX3_strikeOut cX3_strikeOut 2 (some .int) 1 := ⟨tb_in (i := 2) (by decide +kernel) rfl, tb_in (i := 657) (by decide +kernel) rfl, ⟨by decide, by decide⟩, by decide +kernel, by decide⟩
theorem lk_X3_38 : Cond.methodLinkNest RX3 38 yX11_without "WordYear" ∈ wtbl := tb_in (i := 658) (by decide +kernel) rfl
theorem im_X11_without : Cond.static yX11_without ∈ wtbl := tb_in (i := 659) (by decide +kernel) rfl
theorem mw_X11_without : MW yX11_without cX11_without 2 (some .int) 2 := ⟨tb_in (i := 1) (by decide +kernel) rfl, tb_in (i := 660) (by decide +kernel) rfl, ⟨by decide, by decide⟩, by decide +kernel, by decide⟩
theorem lk_L_73 : Cond.methodLink RL 73 yX11_costs ∈ wtbl := tb_in (i := 661) (by decide +kernel) rfl
theorem im_X11_costs : Cond.instanceMethod yX11_costs ∈ wtbl := tb_in (i := 662) (by decide +kernel) rfl
theorem se_X11_costs : Cond.selects RX11 yX11_costs yX11_costs ∈ wtbl := tb_in (i := 663) (by decide +kernel) rfl
theorem mw_X11_costs : MW yX11_costs cX11_costs 2 (some .long) 1 := ⟨tb_in (i := 1) (by decide +kernel) rfl, tb_in (i := 664) (by decide +kernel) rfl, ⟨by decide, by decide⟩, by decide +kernel, by decide⟩
theorem lk_X11_174 : Cond.methodLink RX11 174 yX11_contains ∈ wtbl := tb_in (i := 665) (by decide +kernel) rfl
theorem kl_X11_178 : Jvm.Cond.constantLong RX11 178 (-1000000000) ∈ wtbl := tb_in (i := 666) (by decide +kernel) rfl
theorem lk_X11_180 : Cond.methodLink RX11 180 yX11_without ∈ wtbl := tb_in (i := 667) (by decide +kernel) rfl
theorem lk_L_78 : Cond.methodLink RL 78 yX11_least ∈ wtbl := tb_in (i := 668) (by decide +kernel) rfl
theorem im_X11_least : Cond.instanceMethod yX11_least ∈ wtbl := tb_in (i := 669) (by decide +kernel) rfl
theorem se_X11_least : Cond.selects RX11 yX11_least yX11_least ∈ wtbl := tb_in (i := 670) (by decide +kernel) rfl
theorem mw_X11_least : MW yX11_least cX11_least 1 (some .int) 0 := ⟨tb_in (i := 1) (by decide +kernel) rfl, tb_in (i := 671) (by decide +kernel) rfl, ⟨by decide, by decide⟩, by decide +kernel, by decide⟩
theorem lk_X11_184 : Cond.methodLink RX11 184 yX10_cheapest ∈ wtbl := tb_in (i := 672) (by decide +kernel) rfl
theorem im_X10_cheapest : Cond.instanceMethod yX10_cheapest ∈ wtbl := tb_in (i := 673) (by decide +kernel) rfl
theorem se_X10_cheapest : Cond.selects RX10 yX10_cheapest yX10_cheapest ∈ wtbl := tb_in (i := 674) (by decide +kernel) rfl
theorem mw_X10_cheapest : MW yX10_cheapest cX10_cheapest 8 (some .int) 1 := ⟨tb_in (i := 11) (by decide +kernel) rfl, tb_in (i := 675) (by decide +kernel) rfl, ⟨by decide, by decide⟩, by decide +kernel, by decide⟩
theorem lk_X10_19 : Cond.methodLinkNest RX10 19 yX11_contains "WordYear" ∈ wtbl := tb_in (i := 676) (by decide +kernel) rfl
theorem lk_X10_23 : Cond.methodLinkNest RX10 23 yX11_without "WordYear" ∈ wtbl := tb_in (i := 677) (by decide +kernel) rfl
theorem lk_X10_27 : Cond.methodLink RX10 27 yX9_speech ∈ wtbl := tb_in (i := 678) (by decide +kernel) rfl
theorem lk_X10_33 : Cond.methodLink RX10 33 yX9_yearly ∈ wtbl := tb_in (i := 679) (by decide +kernel) rfl
theorem lk_L_83 : Cond.methodLink RL 83 yX11_spite ∈ wtbl := tb_in (i := 680) (by decide +kernel) rfl
theorem im_X11_spite : Cond.instanceMethod yX11_spite ∈ wtbl := tb_in (i := 681) (by decide +kernel) rfl
theorem se_X11_spite : Cond.selects RX11 yX11_spite yX11_spite ∈ wtbl := tb_in (i := 682) (by decide +kernel) rfl
theorem mw_X11_spite : MW yX11_spite cX11_spite 2 (some .int) 1 := ⟨tb_in (i := 1) (by decide +kernel) rfl, tb_in (i := 683) (by decide +kernel) rfl, ⟨by decide, by decide⟩, by decide +kernel, by decide⟩
theorem lk_X11_187 : Cond.methodLink RX11 187 yX0_spiteful ∈ wtbl := tb_in (i := 684) (by decide +kernel) rfl
theorem im_X0_spiteful : Cond.instanceMethod yX0_spiteful ∈ wtbl := tb_in (i := 685) (by decide +kernel) rfl
theorem se_X0_spiteful : Cond.selects RX0 yX0_spiteful yX0_spiteful ∈ wtbl := tb_in (i := 686) (by decide +kernel) rfl
theorem mw_X0_spiteful : MW yX0_spiteful cX0_spiteful 18 (some .int) 1 := ⟨tb_in (i := 10) (by decide +kernel) rfl, tb_in (i := 687) (by decide +kernel) rfl, ⟨by decide, by decide⟩, by decide +kernel, by decide⟩
theorem lk_X0_37 : Cond.methodLink RX0 37 yX9_speech ∈ wtbl := tb_in (i := 688) (by decide +kernel) rfl
theorem lk_X0_43 : Cond.methodLink RX0 43 yX9_yearly ∈ wtbl := tb_in (i := 689) (by decide +kernel) rfl
theorem lk_X0_47 : Cond.methodLinkNest RX0 47 yX11_contains "WordYear" ∈ wtbl := tb_in (i := 690) (by decide +kernel) rfl
theorem lk_X0_51 : Cond.methodLinkNest RX0 51 yX11_without "WordYear" ∈ wtbl := tb_in (i := 691) (by decide +kernel) rfl
theorem kl_X0_55 : Jvm.Cond.constantLong RX0 55 (3) ∈ wtbl := tb_in (i := 692) (by decide +kernel) rfl
theorem lk_L_87 : Cond.methodLink RL 87 yX11_vote ∈ wtbl := tb_in (i := 693) (by decide +kernel) rfl
theorem im_X11_vote : Cond.instanceMethod yX11_vote ∈ wtbl := tb_in (i := 694) (by decide +kernel) rfl
theorem se_X11_vote : Cond.selects RX11 yX11_vote yX11_vote ∈ wtbl := tb_in (i := 695) (by decide +kernel) rfl
theorem mw_X11_vote : MW yX11_vote cX11_vote 2 (some .int) 1 := ⟨tb_in (i := 1) (by decide +kernel) rfl, tb_in (i := 696) (by decide +kernel) rfl, ⟨by decide, by decide⟩, by decide +kernel, by decide⟩
theorem lk_X11_190 : Cond.methodLink RX11 190 yX1_voters ∈ wtbl := tb_in (i := 697) (by decide +kernel) rfl
theorem im_X1_voters : Cond.instanceMethod yX1_voters ∈ wtbl := tb_in (i := 698) (by decide +kernel) rfl
theorem se_X1_voters : Cond.selects RX1 yX1_voters yX1_voters ∈ wtbl := tb_in (i := 699) (by decide +kernel) rfl
theorem mw_X1_voters : MW yX1_voters cX1_voters 3 (some .int) 0 := ⟨tb_in (i := 3) (by decide +kernel) rfl, tb_in (i := 700) (by decide +kernel) rfl, ⟨by decide, by decide⟩, by decide +kernel, by decide⟩
theorem lk_X11_194 : Cond.methodLink RX11 194 yX0_elect ∈ wtbl := tb_in (i := 701) (by decide +kernel) rfl
theorem im_X0_elect : Cond.instanceMethod yX0_elect ∈ wtbl := tb_in (i := 702) (by decide +kernel) rfl
theorem se_X0_elect : Cond.selects RX0 yX0_elect yX0_elect ∈ wtbl := tb_in (i := 703) (by decide +kernel) rfl
theorem mw_X0_elect : MW yX0_elect cX0_elect 3 (some .int) 1 := ⟨tb_in (i := 10) (by decide +kernel) rfl, tb_in (i := 704) (by decide +kernel) rfl, ⟨by decide, by decide⟩, by decide +kernel, by decide⟩
theorem lk_X0_57 : Cond.methodLink RX0 57 yX0_rank ∈ wtbl := tb_in (i := 705) (by decide +kernel) rfl
theorem im_X0_rank : Cond.instanceMethod yX0_rank ∈ wtbl := tb_in (i := 707) (by decide +kernel) rfl
theorem mw_X0_rank : MW yX0_rank cX0_rank 7 none 1 := ⟨tb_in (i := 10) (by decide +kernel) rfl, tb_in (i := 708) (by decide +kernel) rfl, ⟨by decide, by decide⟩, by decide +kernel, by decide⟩
theorem lk_X0_61 : Cond.methodLink RX0 61 yX0_firstWithMost ∈ wtbl := tb_in (i := 709) (by decide +kernel) rfl
theorem im_X0_firstWithMost : Cond.instanceMethod yX0_firstWithMost ∈ wtbl := tb_in (i := 711) (by decide +kernel) rfl
theorem mw_X0_firstWithMost : MW yX0_firstWithMost cX0_firstWithMost 7 (some .int) 1 := ⟨tb_in (i := 10) (by decide +kernel) rfl, tb_in (i := 712) (by decide +kernel) rfl, ⟨by decide, by decide⟩, by decide +kernel, by decide⟩
theorem lk_X0_75 : Cond.methodLink RX0 75 yX0_placeOf ∈ wtbl := tb_in (i := 713) (by decide +kernel) rfl
theorem im_X0_placeOf : Cond.instanceMethod yX0_placeOf ∈ wtbl := tb_in (i := 715) (by decide +kernel) rfl
theorem mw_X0_placeOf : MW yX0_placeOf cX0_placeOf 4 (some .int) 2 := ⟨tb_in (i := 10) (by decide +kernel) rfl, tb_in (i := 716) (by decide +kernel) rfl, ⟨by decide, by decide⟩, by decide +kernel, by decide⟩
theorem lk_X0_65 : Cond.methodLink RX0 65 yX0_runoff ∈ wtbl := tb_in (i := 717) (by decide +kernel) rfl
theorem im_X0_runoff : Cond.instanceMethod yX0_runoff ∈ wtbl := tb_in (i := 719) (by decide +kernel) rfl
theorem mw_X0_runoff : MW yX0_runoff cX0_runoff 3 (some .int) 0 := ⟨tb_in (i := 10) (by decide +kernel) rfl, tb_in (i := 720) (by decide +kernel) rfl, ⟨by decide, by decide⟩, by decide +kernel, by decide⟩
theorem lk_X0_83 : Cond.methodLink RX0 83 yX0_votersFor ∈ wtbl := tb_in (i := 721) (by decide +kernel) rfl
theorem im_X0_votersFor : Cond.instanceMethod yX0_votersFor ∈ wtbl := tb_in (i := 723) (by decide +kernel) rfl
theorem mw_X0_votersFor : MW yX0_votersFor cX0_votersFor 5 (some .int) 2 := ⟨tb_in (i := 10) (by decide +kernel) rfl, tb_in (i := 724) (by decide +kernel) rfl, ⟨by decide, by decide⟩, by decide +kernel, by decide⟩
theorem lk_X0_69 : Cond.methodLink RX0 69 yX0_withMostPoints ∈ wtbl := tb_in (i := 725) (by decide +kernel) rfl
theorem im_X0_withMostPoints : Cond.instanceMethod yX0_withMostPoints ∈ wtbl := tb_in (i := 727) (by decide +kernel) rfl
theorem mw_X0_withMostPoints : MW yX0_withMostPoints cX0_withMostPoints 7 (some .int) 0 := ⟨tb_in (i := 10) (by decide +kernel) rfl, tb_in (i := 728) (by decide +kernel) rfl, ⟨by decide, by decide⟩, by decide +kernel, by decide⟩
theorem lk_X0_86 : Cond.methodLink RX0 86 yJ6_bitCount_0f7a4 ∈ wtbl := tb_in (i := 729) (by decide +kernel) rfl
theorem lk_X0_72 : Cond.methodLink RX0 72 yX0_aheadOfAll ∈ wtbl := tb_in (i := 730) (by decide +kernel) rfl
theorem im_X0_aheadOfAll : Cond.instanceMethod yX0_aheadOfAll ∈ wtbl := tb_in (i := 732) (by decide +kernel) rfl
theorem mw_X0_aheadOfAll : MW yX0_aheadOfAll cX0_aheadOfAll 5 (some .int) 0 := ⟨tb_in (i := 10) (by decide +kernel) rfl, tb_in (i := 733) (by decide +kernel) rfl, ⟨by decide, by decide⟩, by decide +kernel, by decide⟩
theorem lk_X0_91 : Cond.methodLink RX0 91 yX1_voters ∈ wtbl := tb_in (i := 734) (by decide +kernel) rfl
theorem lk_L_91 : Cond.methodLink RL 91 yX11_order ∈ wtbl := tb_in (i := 735) (by decide +kernel) rfl
theorem im_X11_order : Cond.instanceMethod yX11_order ∈ wtbl := tb_in (i := 736) (by decide +kernel) rfl
theorem se_X11_order : Cond.selects RX11 yX11_order yX11_order ∈ wtbl := tb_in (i := 737) (by decide +kernel) rfl
theorem mw_X11_order : MW yX11_order cX11_order 5 (some .long) 2 := ⟨tb_in (i := 1) (by decide +kernel) rfl, tb_in (i := 738) (by decide +kernel) rfl, ⟨by decide, by decide⟩, by decide +kernel, by decide⟩
theorem lk_X11_197 : Cond.methodLink RX11 197 yX10_canStrike ∈ wtbl := tb_in (i := 739) (by decide +kernel) rfl
theorem im_X10_canStrike : Cond.instanceMethod yX10_canStrike ∈ wtbl := tb_in (i := 740) (by decide +kernel) rfl
theorem se_X10_canStrike : Cond.selects RX10 yX10_canStrike yX10_canStrike ∈ wtbl := tb_in (i := 741) (by decide +kernel) rfl
theorem mw_X10_canStrike : MW yX10_canStrike cX10_canStrike 2 (some .boolean) 1 := ⟨tb_in (i := 11) (by decide +kernel) rfl, tb_in (i := 742) (by decide +kernel) rfl, ⟨by decide, by decide⟩, by decide +kernel, by decide⟩
theorem lk_X10_37 : Cond.methodLinkNest RX10 37 yX11_within "WordYear" ∈ wtbl := tb_in (i := 743) (by decide +kernel) rfl
theorem lk_X10_47 : Cond.methodLink RX10 47 yJ6_bitCount_0f7a4 ∈ wtbl := tb_in (i := 744) (by decide +kernel) rfl
theorem lk_X11_200 : Cond.methodLink RX11 200 yX10_plan ∈ wtbl := tb_in (i := 745) (by decide +kernel) rfl
theorem im_X10_plan : Cond.instanceMethod yX10_plan ∈ wtbl := tb_in (i := 746) (by decide +kernel) rfl
theorem se_X10_plan : Cond.selects RX10 yX10_plan yX10_plan ∈ wtbl := tb_in (i := 747) (by decide +kernel) rfl
theorem mw_X10_plan : MW yX10_plan cX10_plan 8 (some .long) 1 := ⟨tb_in (i := 11) (by decide +kernel) rfl, tb_in (i := 748) (by decide +kernel) rfl, ⟨by decide, by decide⟩, by decide +kernel, by decide⟩
theorem lk_X10_59 : Cond.methodLink RX10 59 yX10_bestNext ∈ wtbl := tb_in (i := 749) (by decide +kernel) rfl
theorem im_X10_bestNext : Cond.instanceMethod yX10_bestNext ∈ wtbl := tb_in (i := 751) (by decide +kernel) rfl
theorem mw_X10_bestNext : MW yX10_bestNext cX10_bestNext 8 (some .int) 1 := ⟨tb_in (i := 11) (by decide +kernel) rfl, tb_in (i := 752) (by decide +kernel) rfl, ⟨by decide, by decide⟩, by decide +kernel, by decide⟩
theorem lk_X11_204 : Cond.methodLink RX11 204 yX10_planned ∈ wtbl := tb_in (i := 753) (by decide +kernel) rfl
theorem im_X10_planned : Cond.instanceMethod yX10_planned ∈ wtbl := tb_in (i := 754) (by decide +kernel) rfl
theorem se_X10_planned : Cond.selects RX10 yX10_planned yX10_planned ∈ wtbl := tb_in (i := 755) (by decide +kernel) rfl
theorem mw_X10_planned : MW yX10_planned cX10_planned 5 (some .int) 1 := ⟨tb_in (i := 11) (by decide +kernel) rfl, tb_in (i := 756) (by decide +kernel) rfl, ⟨by decide, by decide⟩, by decide +kernel, by decide⟩
theorem lk_L_95 : Cond.methodLink RL 95 yX11_gap ∈ wtbl := tb_in (i := 757) (by decide +kernel) rfl
theorem im_X11_gap : Cond.instanceMethod yX11_gap ∈ wtbl := tb_in (i := 758) (by decide +kernel) rfl
theorem se_X11_gap : Cond.selects RX11 yX11_gap yX11_gap ∈ wtbl := tb_in (i := 759) (by decide +kernel) rfl
theorem mw_X11_gap : MW yX11_gap cX11_gap 2 (some .long) 1 := ⟨tb_in (i := 1) (by decide +kernel) rfl, tb_in (i := 760) (by decide +kernel) rfl, ⟨by decide, by decide⟩, by decide +kernel, by decide⟩
theorem lk_X11_207 : Cond.methodLink RX11 207 yX10_greedy ∈ wtbl := tb_in (i := 761) (by decide +kernel) rfl
theorem im_X10_greedy : Cond.instanceMethod yX10_greedy ∈ wtbl := tb_in (i := 762) (by decide +kernel) rfl
theorem se_X10_greedy : Cond.selects RX10 yX10_greedy yX10_greedy ∈ wtbl := tb_in (i := 763) (by decide +kernel) rfl
theorem mw_X10_greedy : MW yX10_greedy cX10_greedy 7 (some .long) 1 := ⟨tb_in (i := 11) (by decide +kernel) rfl, tb_in (i := 764) (by decide +kernel) rfl, ⟨by decide, by decide⟩, by decide +kernel, by decide⟩
theorem lk_X10_62 : Cond.methodLink RX10 62 yX10_cheapest ∈ wtbl := tb_in (i := 765) (by decide +kernel) rfl
theorem lk_L_99 : Cond.methodLink RL 99 yX11_row ∈ wtbl := tb_in (i := 766) (by decide +kernel) rfl
theorem im_X11_row : Cond.instanceMethod yX11_row ∈ wtbl := tb_in (i := 767) (by decide +kernel) rfl
theorem se_X11_row : Cond.selects RX11 yX11_row yX11_row ∈ wtbl := tb_in (i := 768) (by decide +kernel) rfl
theorem mw_X11_row : MW yX11_row cX11_row 5 (some .long) 2 := ⟨tb_in (i := 1) (by decide +kernel) rfl, tb_in (i := 769) (by decide +kernel) rfl, ⟨by decide, by decide⟩, by decide +kernel, by decide⟩
theorem lk_X11_210 : Cond.methodLink RX11 210 yX10_follow ∈ wtbl := tb_in (i := 770) (by decide +kernel) rfl
theorem im_X10_follow : Cond.instanceMethod yX10_follow ∈ wtbl := tb_in (i := 771) (by decide +kernel) rfl
theorem se_X10_follow : Cond.selects RX10 yX10_follow yX10_follow ∈ wtbl := tb_in (i := 772) (by decide +kernel) rfl
theorem mw_X10_follow : MW yX10_follow cX10_follow 10 (some .long) 3 := ⟨tb_in (i := 11) (by decide +kernel) rfl, tb_in (i := 773) (by decide +kernel) rfl, ⟨by decide, by decide⟩, by decide +kernel, by decide⟩
theorem lk_X10_65 : Cond.methodLink RX10 65 yX8_byteAt ∈ wtbl := tb_in (i := 774) (by decide +kernel) rfl
theorem im_X8_byteAt : Cond.instanceMethod yX8_byteAt ∈ wtbl := tb_in (i := 775) (by decide +kernel) rfl
theorem se_X8_byteAt : Cond.selects RX8 yX8_byteAt yX8_byteAt ∈ wtbl := tb_in (i := 776) (by decide +kernel) rfl
theorem mw_X8_byteAt : MW yX8_byteAt cX8_byteAt 2 (some .int) 1 := ⟨tb_in (i := 4) (by decide +kernel) rfl, tb_in (i := 777) (by decide +kernel) rfl, ⟨by decide, by decide⟩, by decide +kernel, by decide⟩
theorem kl_X10_70 : Jvm.Cond.constantLong RX10 70 (-2) ∈ wtbl := tb_in (i := 778) (by decide +kernel) rfl
theorem lk_X10_72 : Cond.methodLink RX10 72 yX9_missed ∈ wtbl := tb_in (i := 779) (by decide +kernel) rfl
theorem lk_L_103 : Cond.methodLink RL 103 yX11_till ∈ wtbl := tb_in (i := 780) (by decide +kernel) rfl
theorem im_X11_till : Cond.instanceMethod yX11_till ∈ wtbl := tb_in (i := 781) (by decide +kernel) rfl
theorem se_X11_till : Cond.selects RX11 yX11_till yX11_till ∈ wtbl := tb_in (i := 782) (by decide +kernel) rfl
theorem mw_X11_till : MW yX11_till cX11_till 1 (some .int) 0 := ⟨tb_in (i := 1) (by decide +kernel) rfl, tb_in (i := 783) (by decide +kernel) rfl, ⟨by decide, by decide⟩, by decide +kernel, by decide⟩
theorem lk_X11_214 : Cond.methodLink RX11 214 yX10_bearable ∈ wtbl := tb_in (i := 784) (by decide +kernel) rfl
theorem im_X10_bearable : Cond.instanceMethod yX10_bearable ∈ wtbl := tb_in (i := 785) (by decide +kernel) rfl
theorem se_X10_bearable : Cond.selects RX10 yX10_bearable yX10_bearable ∈ wtbl := tb_in (i := 786) (by decide +kernel) rfl
theorem mw_X10_bearable : MW yX10_bearable cX10_bearable 5 (some .int) 0 := ⟨tb_in (i := 11) (by decide +kernel) rfl, tb_in (i := 787) (by decide +kernel) rfl, ⟨by decide, by decide⟩, by decide +kernel, by decide⟩
theorem lk_L_107 : Cond.methodLink RL 107 yX11_kept ∈ wtbl := tb_in (i := 788) (by decide +kernel) rfl
theorem im_X11_kept : Cond.instanceMethod yX11_kept ∈ wtbl := tb_in (i := 789) (by decide +kernel) rfl
theorem se_X11_kept : Cond.selects RX11 yX11_kept yX11_kept ∈ wtbl := tb_in (i := 790) (by decide +kernel) rfl
theorem mw_X11_kept : MW yX11_kept cX11_kept 4 (some .long) 2 := ⟨tb_in (i := 1) (by decide +kernel) rfl, tb_in (i := 791) (by decide +kernel) rfl, ⟨by decide, by decide⟩, by decide +kernel, by decide⟩
theorem lk_X11_218 : Cond.methodLink RX11 218 yX10_bestOf ∈ wtbl := tb_in (i := 792) (by decide +kernel) rfl
theorem im_X10_bestOf : Cond.instanceMethod yX10_bestOf ∈ wtbl := tb_in (i := 793) (by decide +kernel) rfl
theorem se_X10_bestOf : Cond.selects RX10 yX10_bestOf yX10_bestOf ∈ wtbl := tb_in (i := 794) (by decide +kernel) rfl
theorem mw_X10_bestOf : MW yX10_bestOf cX10_bestOf 8 (some .int) 1 := ⟨tb_in (i := 11) (by decide +kernel) rfl, tb_in (i := 795) (by decide +kernel) rfl, ⟨by decide, by decide⟩, by decide +kernel, by decide⟩
theorem lk_X10_75 : Cond.methodLink RX10 75 yX3_isTongue ∈ wtbl := tb_in (i := 796) (by decide +kernel) rfl
theorem lk_L_111 : Cond.methodLink RL 111 yX11_back ∈ wtbl := tb_in (i := 797) (by decide +kernel) rfl
theorem im_X11_back : Cond.instanceMethod yX11_back ∈ wtbl := tb_in (i := 798) (by decide +kernel) rfl
theorem se_X11_back : Cond.selects RX11 yX11_back yX11_back ∈ wtbl := tb_in (i := 799) (by decide +kernel) rfl
theorem mw_X11_back : MW yX11_back cX11_back 2 (some .long) 1 := ⟨tb_in (i := 1) (by decide +kernel) rfl, tb_in (i := 800) (by decide +kernel) rfl, ⟨by decide, by decide⟩, by decide +kernel, by decide⟩
theorem lk_X11_221 : Cond.methodLink RX11 221 yX3_all ∈ wtbl := tb_in (i := 801) (by decide +kernel) rfl
theorem lk_X11_224 : Cond.methodLink RX11 224 yJ6_bitCount_0f7a4 ∈ wtbl := tb_in (i := 802) (by decide +kernel) rfl
theorem lk_X11_229 : Cond.methodLink RX11 229 yX10_exchange ∈ wtbl := tb_in (i := 803) (by decide +kernel) rfl
theorem im_X10_exchange : Cond.instanceMethod yX10_exchange ∈ wtbl := tb_in (i := 804) (by decide +kernel) rfl
theorem se_X10_exchange : Cond.selects RX10 yX10_exchange yX10_exchange ∈ wtbl := tb_in (i := 805) (by decide +kernel) rfl
theorem mw_X10_exchange : MW yX10_exchange cX10_exchange 13 (some .long) 1 := ⟨tb_in (i := 11) (by decide +kernel) rfl, tb_in (i := 806) (by decide +kernel) rfl, ⟨by decide, by decide⟩, by decide +kernel, by decide⟩
theorem lk_X10_79 : Cond.methodLink RX10 79 yX3_all ∈ wtbl := tb_in (i := 807) (by decide +kernel) rfl
theorem lk_L_115 : Cond.methodLink RL 115 yX11_told ∈ wtbl := tb_in (i := 808) (by decide +kernel) rfl
theorem im_X11_told : Cond.instanceMethod yX11_told ∈ wtbl := tb_in (i := 809) (by decide +kernel) rfl
theorem se_X11_told : Cond.selects RX11 yX11_told yX11_told ∈ wtbl := tb_in (i := 810) (by decide +kernel) rfl
theorem mw_X11_told : MW yX11_told cX11_told 2 (some .int) 1 := ⟨tb_in (i := 1) (by decide +kernel) rfl, tb_in (i := 811) (by decide +kernel) rfl, ⟨by decide, by decide⟩, by decide +kernel, by decide⟩
theorem lk_X11_232 : Cond.methodLink RX11 232 yX3_isPlainInUse ∈ wtbl := tb_in (i := 812) (by decide +kernel) rfl
theorem im_X3_isPlainInUse : Cond.instanceMethod yX3_isPlainInUse ∈ wtbl := tb_in (i := 813) (by decide +kernel) rfl
theorem se_X3_isPlainInUse : Cond.selects RX3 yX3_isPlainInUse yX3_isPlainInUse ∈ wtbl := tb_in (i := 814) (by decide +kernel) rfl
theorem mw_X3_isPlainInUse : MW yX3_isPlainInUse cX3_isPlainInUse 2 (some .boolean) 1 := ⟨tb_in (i := 2) (by decide +kernel) rfl, tb_in (i := 815) (by decide +kernel) rfl, ⟨by decide, by decide⟩, by decide +kernel, by decide⟩
theorem lk_X11_235 : Cond.methodLink RX11 235 yX3_meaningOf ∈ wtbl := tb_in (i := 816) (by decide +kernel) rfl
theorem lk_L_119 : Cond.methodLink RL 119 yX11_leads ∈ wtbl := tb_in (i := 817) (by decide +kernel) rfl
theorem im_X11_leads : Cond.instanceMethod yX11_leads ∈ wtbl := tb_in (i := 818) (by decide +kernel) rfl
theorem se_X11_leads : Cond.selects RX11 yX11_leads yX11_leads ∈ wtbl := tb_in (i := 819) (by decide +kernel) rfl
theorem mw_X11_leads : MW yX11_leads cX11_leads 2 (some .int) 1 := ⟨tb_in (i := 1) (by decide +kernel) rfl, tb_in (i := 820) (by decide +kernel) rfl, ⟨by decide, by decide⟩, by decide +kernel, by decide⟩
theorem lk_X11_238 : Cond.methodLink RX11 238 yX2_entry ∈ wtbl := tb_in (i := 821) (by decide +kernel) rfl
theorem im_X2_entry : Cond.instanceMethod yX2_entry ∈ wtbl := tb_in (i := 822) (by decide +kernel) rfl
theorem se_X2_entry : Cond.selects RX2 yX2_entry yX2_entry ∈ wtbl := tb_in (i := 823) (by decide +kernel) rfl
theorem mw_X2_entry : MW yX2_entry cX2_entry 13 (some .int) 1 := ⟨tb_in (i := 12) (by decide +kernel) rfl, tb_in (i := 824) (by decide +kernel) rfl, ⟨by decide, by decide⟩, by decide +kernel, by decide⟩
theorem lk_X2_29 : Cond.methodLinkNest RX2 29 yX11_without "WordYear" ∈ wtbl := tb_in (i := 825) (by decide +kernel) rfl
theorem lk_X2_33 : Cond.methodLink RX2 33 yX9_speech ∈ wtbl := tb_in (i := 826) (by decide +kernel) rfl
theorem lk_X2_39 : Cond.methodLink RX2 39 yX3_meaningOf ∈ wtbl := tb_in (i := 827) (by decide +kernel) rfl
theorem lk_X2_43 : Cond.methodLink RX2 43 yX7_shortest ∈ wtbl := tb_in (i := 828) (by decide +kernel) rfl
theorem kl_X2_48 : Jvm.Cond.constantLong RX2 48 (-1) ∈ wtbl := tb_in (i := 829) (by decide +kernel) rfl
theorem lk_X2_50 : Cond.methodLink RX2 50 yX2_lowestOf ∈ wtbl := tb_in (i := 830) (by decide +kernel) rfl
theorem im_X2_lowestOf : Cond.static yX2_lowestOf ∈ wtbl := tb_in (i := 831) (by decide +kernel) rfl
theorem mw_X2_lowestOf : MW yX2_lowestOf cX2_lowestOf 3 (some .int) 1 := ⟨tb_in (i := 12) (by decide +kernel) rfl, tb_in (i := 832) (by decide +kernel) rfl, ⟨by decide, by decide⟩, by decide +kernel, by decide⟩
theorem lk_X2_54 : Cond.methodLink RX2 54 yX7_manner ∈ wtbl := tb_in (i := 833) (by decide +kernel) rfl
theorem lk_X2_57 : Cond.methodLinkNest RX2 57 yX11_mannerKind "WordYear" ∈ wtbl := tb_in (i := 834) (by decide +kernel) rfl
theorem lk_X2_60 : Cond.methodLinkNest RX2 60 yX11_mannerFirst "WordYear" ∈ wtbl := tb_in (i := 835) (by decide +kernel) rfl
theorem lk_X2_63 : Cond.methodLink RX2 63 yX3_shortestOf ∈ wtbl := tb_in (i := 836) (by decide +kernel) rfl
theorem lk_X2_66 : Cond.methodLinkNest RX2 66 yX11_mannerSecond "WordYear" ∈ wtbl := tb_in (i := 837) (by decide +kernel) rfl
theorem lk_L_123 : Cond.methodLink RL 123 yX11_round ∈ wtbl := tb_in (i := 838) (by decide +kernel) rfl
theorem im_X11_round : Cond.instanceMethod yX11_round ∈ wtbl := tb_in (i := 839) (by decide +kernel) rfl
theorem se_X11_round : Cond.selects RX11 yX11_round yX11_round ∈ wtbl := tb_in (i := 840) (by decide +kernel) rfl
theorem mw_X11_round : MW yX11_round cX11_round 1 (some .int) 0 := ⟨tb_in (i := 1) (by decide +kernel) rfl, tb_in (i := 841) (by decide +kernel) rfl, ⟨by decide, by decide⟩, by decide +kernel, by decide⟩
theorem lk_X11_241 : Cond.methodLink RX11 241 yX2_circles ∈ wtbl := tb_in (i := 842) (by decide +kernel) rfl
theorem im_X2_circles : Cond.instanceMethod yX2_circles ∈ wtbl := tb_in (i := 843) (by decide +kernel) rfl
theorem se_X2_circles : Cond.selects RX2 yX2_circles yX2_circles ∈ wtbl := tb_in (i := 844) (by decide +kernel) rfl
theorem mw_X2_circles : MW yX2_circles cX2_circles 3 (some .int) 0 := ⟨tb_in (i := 12) (by decide +kernel) rfl, tb_in (i := 845) (by decide +kernel) rfl, ⟨by decide, by decide⟩, by decide +kernel, by decide⟩
theorem lk_X2_69 : Cond.methodLink RX2 69 yX3_isPlainInUse ∈ wtbl := tb_in (i := 846) (by decide +kernel) rfl
theorem lk_X2_73 : Cond.methodLink RX2 73 yX2_entry ∈ wtbl := tb_in (i := 847) (by decide +kernel) rfl
theorem lk_X2_76 : Cond.methodLinkNest RX2 76 yX11_contains "WordYear" ∈ wtbl := tb_in (i := 848) (by decide +kernel) rfl
theorem lk_L_127 : Cond.methodLink RL 127 yX11_fewest ∈ wtbl := tb_in (i := 849) (by decide +kernel) rfl
theorem im_X11_fewest : Cond.instanceMethod yX11_fewest ∈ wtbl := tb_in (i := 850) (by decide +kernel) rfl
theorem se_X11_fewest : Cond.selects RX11 yX11_fewest yX11_fewest ∈ wtbl := tb_in (i := 851) (by decide +kernel) rfl
theorem mw_X11_fewest : MW yX11_fewest cX11_fewest 1 (some .int) 0 := ⟨tb_in (i := 1) (by decide +kernel) rfl, tb_in (i := 852) (by decide +kernel) rfl, ⟨by decide, by decide⟩, by decide +kernel, by decide⟩
theorem lk_X11_244 : Cond.methodLink RX11 244 yX2_smallestKey ∈ wtbl := tb_in (i := 853) (by decide +kernel) rfl
theorem im_X2_smallestKey : Cond.instanceMethod yX2_smallestKey ∈ wtbl := tb_in (i := 854) (by decide +kernel) rfl
theorem se_X2_smallestKey : Cond.selects RX2 yX2_smallestKey yX2_smallestKey ∈ wtbl := tb_in (i := 855) (by decide +kernel) rfl
theorem mw_X2_smallestKey : MW yX2_smallestKey cX2_smallestKey 3 (some .int) 0 := ⟨tb_in (i := 12) (by decide +kernel) rfl, tb_in (i := 856) (by decide +kernel) rfl, ⟨by decide, by decide⟩, by decide +kernel, by decide⟩
theorem lk_X2_80 : Cond.methodLink RX2 80 yJ6_bitCount_0f7a4 ∈ wtbl := tb_in (i := 857) (by decide +kernel) rfl
theorem lk_X2_85 : Cond.methodLink RX2 85 yX2_tellsAll ∈ wtbl := tb_in (i := 858) (by decide +kernel) rfl
theorem im_X2_tellsAll : Cond.instanceMethod yX2_tellsAll ∈ wtbl := tb_in (i := 860) (by decide +kernel) rfl
theorem mw_X2_tellsAll : MW yX2_tellsAll cX2_tellsAll 3 (some .boolean) 1 := ⟨tb_in (i := 12) (by decide +kernel) rfl, tb_in (i := 861) (by decide +kernel) rfl, ⟨by decide, by decide⟩, by decide +kernel, by decide⟩
theorem lk_L_131 : Cond.methodLink RL 131 yX11_law ∈ wtbl := tb_in (i := 862) (by decide +kernel) rfl
theorem im_X11_law : Cond.instanceMethod yX11_law ∈ wtbl := tb_in (i := 863) (by decide +kernel) rfl
theorem se_X11_law : Cond.selects RX11 yX11_law yX11_law ∈ wtbl := tb_in (i := 864) (by decide +kernel) rfl
theorem mw_X11_law : MW yX11_law cX11_law 4 (some .int) 2 := ⟨tb_in (i := 1) (by decide +kernel) rfl, tb_in (i := 865) (by decide +kernel) rfl, ⟨by decide, by decide⟩, by decide +kernel, by decide⟩
theorem lk_X11_247 : Cond.methodLink RX11 247 yX6_read ∈ wtbl := tb_in (i := 866) (by decide +kernel) rfl
theorem im_X6_read : Cond.instanceMethod yX6_read ∈ wtbl := tb_in (i := 867) (by decide +kernel) rfl
theorem se_X6_read : Cond.selects RX6 yX6_read yX6_read ∈ wtbl := tb_in (i := 868) (by decide +kernel) rfl
theorem mw_X6_read : MW yX6_read cX6_read 2 (some .int) 1 := ⟨tb_in (i := 9) (by decide +kernel) rfl, tb_in (i := 869) (by decide +kernel) rfl, ⟨by decide, by decide⟩, by decide +kernel, by decide⟩
theorem lk_X6_35 : Cond.methodLink RX6 35 yX8_startText ∈ wtbl := tb_in (i := 870) (by decide +kernel) rfl
theorem lk_X6_41 : Cond.methodLink RX6 41 yX6_either ∈ wtbl := tb_in (i := 871) (by decide +kernel) rfl
theorem im_X6_either : Cond.instanceMethod yX6_either ∈ wtbl := tb_in (i := 873) (by decide +kernel) rfl
theorem mw_X6_either : MW yX6_either cX6_either 4 (some .int) 1 := ⟨tb_in (i := 9) (by decide +kernel) rfl, tb_in (i := 874) (by decide +kernel) rfl, ⟨by decide, by decide⟩, by decide +kernel, by decide⟩
theorem lk_X6_72 : Cond.methodLink RX6 72 yX6_both ∈ wtbl := tb_in (i := 875) (by decide +kernel) rfl
theorem im_X6_both : Cond.instanceMethod yX6_both ∈ wtbl := tb_in (i := 877) (by decide +kernel) rfl
theorem mw_X6_both : MW yX6_both cX6_both 4 (some .int) 1 := ⟨tb_in (i := 9) (by decide +kernel) rfl, tb_in (i := 878) (by decide +kernel) rfl, ⟨by decide, by decide⟩, by decide +kernel, by decide⟩
theorem lk_X6_81 : Cond.methodLink RX6 81 yX6_single ∈ wtbl := tb_in (i := 879) (by decide +kernel) rfl
theorem im_X6_single : Cond.instanceMethod yX6_single ∈ wtbl := tb_in (i := 881) (by decide +kernel) rfl
theorem mw_X6_single : MW yX6_single cX6_single 4 (some .int) 1 := ⟨tb_in (i := 9) (by decide +kernel) rfl, tb_in (i := 882) (by decide +kernel) rfl, ⟨by decide, by decide⟩, by decide +kernel, by decide⟩
theorem lk_X6_75 : Cond.methodLink RX6 75 yX8_sign ∈ wtbl := tb_in (i := 883) (by decide +kernel) rfl
theorem lk_X6_88 : Cond.methodLink RX6 88 yX6_isLetter ∈ wtbl := tb_in (i := 884) (by decide +kernel) rfl
theorem im_X6_isLetter : Cond.static yX6_isLetter ∈ wtbl := tb_in (i := 885) (by decide +kernel) rfl
theorem mw_X6_isLetter : MW yX6_isLetter cX6_isLetter 1 (some .boolean) 1 := ⟨tb_in (i := 9) (by decide +kernel) rfl, tb_in (i := 886) (by decide +kernel) rfl, ⟨by decide, by decide⟩, by decide +kernel, by decide⟩
theorem lk_X6_91 : Cond.methodLink RX6 91 yX6_letter ∈ wtbl := tb_in (i := 887) (by decide +kernel) rfl
theorem im_X6_letter : Cond.instanceMethod yX6_letter ∈ wtbl := tb_in (i := 889) (by decide +kernel) rfl
theorem mw_X6_letter : MW yX6_letter cX6_letter 2 (some .int) 1 := ⟨tb_in (i := 9) (by decide +kernel) rfl, tb_in (i := 890) (by decide +kernel) rfl, ⟨by decide, by decide⟩, by decide +kernel, by decide⟩
theorem lk_X6_100 : Cond.methodLink RX6 100 yX3_isPlain ∈ wtbl := tb_in (i := 891) (by decide +kernel) rfl
theorem lk_X6_52 : Cond.methodLink RX6 52 yX8_fail ∈ wtbl := tb_in (i := 892) (by decide +kernel) rfl
theorem lk_X6_78 : Cond.methodLink RX6 78 yX8_step ∈ wtbl := tb_in (i := 893) (by decide +kernel) rfl
theorem lk_X6_103 : Cond.methodLink RX6 103 yX3_lengthOf ∈ wtbl := tb_in (i := 894) (by decide +kernel) rfl
theorem lk_X6_106 : Cond.methodLink RX6 106 yX3_meaningOf ∈ wtbl := tb_in (i := 895) (by decide +kernel) rfl
theorem lk_X6_84 : Cond.methodLink RX6 84 yX6_startsSingle ∈ wtbl := tb_in (i := 896) (by decide +kernel) rfl
theorem im_X6_startsSingle : Cond.static yX6_startsSingle ∈ wtbl := tb_in (i := 897) (by decide +kernel) rfl
theorem mw_X6_startsSingle : MW yX6_startsSingle cX6_startsSingle 1 (some .boolean) 1 := ⟨tb_in (i := 9) (by decide +kernel) rfl, tb_in (i := 898) (by decide +kernel) rfl, ⟨by decide, by decide⟩, by decide +kernel, by decide⟩
theorem lk_X6_94 : Cond.methodLink RX6 94 yX8_opens ∈ wtbl := tb_in (i := 899) (by decide +kernel) rfl
theorem lk_X6_97 : Cond.methodLink RX6 97 yX8_pass ∈ wtbl := tb_in (i := 900) (by decide +kernel) rfl
theorem lk_X6_48 : Cond.methodLink RX6 48 yX8_isAtEnd ∈ wtbl := tb_in (i := 901) (by decide +kernel) rfl
theorem lk_X11_248 : Cond.methodLink RX11 248 yX6_takeOver ∈ wtbl := tb_in (i := 902) (by decide +kernel) rfl
theorem im_X6_takeOver : Cond.instanceMethod yX6_takeOver ∈ wtbl := tb_in (i := 903) (by decide +kernel) rfl
theorem se_X6_takeOver : Cond.selects RX6 yX6_takeOver yX6_takeOver ∈ wtbl := tb_in (i := 904) (by decide +kernel) rfl
theorem mw_X6_takeOver : MW yX6_takeOver cX6_takeOver 2 none 1 := ⟨tb_in (i := 9) (by decide +kernel) rfl, tb_in (i := 905) (by decide +kernel) rfl, ⟨by decide, by decide⟩, by decide +kernel, by decide⟩
theorem lk_L_135 : Cond.methodLink RL 135 yX11_lawIs ∈ wtbl := tb_in (i := 906) (by decide +kernel) rfl
theorem im_X11_lawIs : Cond.instanceMethod yX11_lawIs ∈ wtbl := tb_in (i := 907) (by decide +kernel) rfl
theorem se_X11_lawIs : Cond.selects RX11 yX11_lawIs yX11_lawIs ∈ wtbl := tb_in (i := 908) (by decide +kernel) rfl
theorem mw_X11_lawIs : MW yX11_lawIs cX11_lawIs 4 (some .int) 2 := ⟨tb_in (i := 1) (by decide +kernel) rfl, tb_in (i := 909) (by decide +kernel) rfl, ⟨by decide, by decide⟩, by decide +kernel, by decide⟩
theorem lk_X11_259 : Cond.methodLink RX11 259 yX6_fullLength ∈ wtbl := tb_in (i := 910) (by decide +kernel) rfl
theorem im_X6_fullLength : Cond.instanceMethod yX6_fullLength ∈ wtbl := tb_in (i := 911) (by decide +kernel) rfl
theorem se_X6_fullLength : Cond.selects RX6 yX6_fullLength yX6_fullLength ∈ wtbl := tb_in (i := 912) (by decide +kernel) rfl
theorem mw_X6_fullLength : MW yX6_fullLength cX6_fullLength 2 (some .int) 0 := ⟨tb_in (i := 9) (by decide +kernel) rfl, tb_in (i := 913) (by decide +kernel) rfl, ⟨by decide, by decide⟩, by decide +kernel, by decide⟩
theorem lk_X6_62 : Cond.methodLink RX6 62 yX3_all ∈ wtbl := tb_in (i := 914) (by decide +kernel) rfl
theorem lk_X6_68 : Cond.methodLink RX6 68 yX3_joinLength ∈ wtbl := tb_in (i := 915) (by decide +kernel) rfl
theorem lk_L_139 : Cond.methodLink RL 139 yX11_madeUp ∈ wtbl := tb_in (i := 916) (by decide +kernel) rfl
theorem im_X11_madeUp : Cond.instanceMethod yX11_madeUp ∈ wtbl := tb_in (i := 917) (by decide +kernel) rfl
theorem se_X11_madeUp : Cond.selects RX11 yX11_madeUp yX11_madeUp ∈ wtbl := tb_in (i := 918) (by decide +kernel) rfl
theorem mw_X11_madeUp : MW yX11_madeUp cX11_madeUp 3 (some .long) 2 := ⟨tb_in (i := 1) (by decide +kernel) rfl, tb_in (i := 919) (by decide +kernel) rfl, ⟨by decide, by decide⟩, by decide +kernel, by decide⟩
theorem lk_X11_265 : Cond.methodLink RX11 265 yX9_childsWord ∈ wtbl := tb_in (i := 920) (by decide +kernel) rfl
theorem im_X9_childsWord : Cond.instanceMethod yX9_childsWord ∈ wtbl := tb_in (i := 921) (by decide +kernel) rfl
theorem se_X9_childsWord : Cond.selects RX9 yX9_childsWord yX9_childsWord ∈ wtbl := tb_in (i := 922) (by decide +kernel) rfl
theorem mw_X9_childsWord : MW yX9_childsWord cX9_childsWord 12 (some .long) 2 := ⟨tb_in (i := 5) (by decide +kernel) rfl, tb_in (i := 923) (by decide +kernel) rfl, ⟨by decide, by decide⟩, by decide +kernel, by decide⟩
theorem lk_X9_110 : Cond.methodLink RX9 110 yX9_yearly ∈ wtbl := tb_in (i := 924) (by decide +kernel) rfl
theorem lk_L_143 : Cond.methodLink RL 143 yX11_check ∈ wtbl := tb_in (i := 925) (by decide +kernel) rfl
theorem im_X11_check : Cond.instanceMethod yX11_check ∈ wtbl := tb_in (i := 926) (by decide +kernel) rfl
theorem se_X11_check : Cond.selects RX11 yX11_check yX11_check ∈ wtbl := tb_in (i := 927) (by decide +kernel) rfl
theorem mw_X11_check : MW yX11_check cX11_check 6 (some .int) 2 := ⟨tb_in (i := 1) (by decide +kernel) rfl, tb_in (i := 928) (by decide +kernel) rfl, ⟨by decide, by decide⟩, by decide +kernel, by decide⟩
theorem lk_X11_269 : Cond.methodLink RX11 269 yX8_numberAt ∈ wtbl := tb_in (i := 929) (by decide +kernel) rfl
theorem im_X8_numberAt : Cond.instanceMethod yX8_numberAt ∈ wtbl := tb_in (i := 930) (by decide +kernel) rfl
theorem se_X8_numberAt : Cond.selects RX8 yX8_numberAt yX8_numberAt ∈ wtbl := tb_in (i := 931) (by decide +kernel) rfl
theorem mw_X8_numberAt : MW yX8_numberAt cX8_numberAt 4 (some .int) 1 := ⟨tb_in (i := 4) (by decide +kernel) rfl, tb_in (i := 932) (by decide +kernel) rfl, ⟨by decide, by decide⟩, by decide +kernel, by decide⟩
theorem lk_X8_19 : Cond.methodLink RX8 19 yX8_byteAt ∈ wtbl := tb_in (i := 933) (by decide +kernel) rfl
theorem lk_L_147 : Cond.methodLink RL 147 yX11_count ∈ wtbl := tb_in (i := 934) (by decide +kernel) rfl
theorem im_X11_count : Cond.instanceMethod yX11_count ∈ wtbl := tb_in (i := 935) (by decide +kernel) rfl
theorem se_X11_count : Cond.selects RX11 yX11_count yX11_count ∈ wtbl := tb_in (i := 936) (by decide +kernel) rfl
theorem mw_X11_count : MW yX11_count cX11_count 2 (some .int) 1 := ⟨tb_in (i := 1) (by decide +kernel) rfl, tb_in (i := 937) (by decide +kernel) rfl, ⟨by decide, by decide⟩, by decide +kernel, by decide⟩
theorem lk_X11_283 : Cond.methodLink RX11 283 yX11_toldLaws ∈ wtbl := tb_in (i := 938) (by decide +kernel) rfl
theorem im_X11_toldLaws : Cond.instanceMethod yX11_toldLaws ∈ wtbl := tb_in (i := 940) (by decide +kernel) rfl
theorem mw_X11_toldLaws : MW yX11_toldLaws cX11_toldLaws 4 (some .int) 0 := ⟨tb_in (i := 1) (by decide +kernel) rfl, tb_in (i := 941) (by decide +kernel) rfl, ⟨by decide, by decide⟩, by decide +kernel, by decide⟩
theorem lk_X11_286 : Cond.methodLink RX11 286 yX3_yearOf ∈ wtbl := tb_in (i := 942) (by decide +kernel) rfl
theorem im_X3_yearOf : Cond.instanceMethod yX3_yearOf ∈ wtbl := tb_in (i := 943) (by decide +kernel) rfl
theorem se_X3_yearOf : Cond.selects RX3 yX3_yearOf yX3_yearOf ∈ wtbl := tb_in (i := 944) (by decide +kernel) rfl
theorem mw_X3_yearOf : MW yX3_yearOf cX3_yearOf 2 (some .int) 1 := ⟨tb_in (i := 2) (by decide +kernel) rfl, tb_in (i := 945) (by decide +kernel) rfl, ⟨by decide, by decide⟩, by decide +kernel, by decide⟩
theorem cl_L_10 : Cond.classLink RL 10 "WordYearModel" ∈ wtbl := tb_in (i := 946) (by decide +kernel) rfl
theorem CL_L_10 : CL RL 10 12 := ⟨_, _, ci_12, tb_in (i := 946) (by decide +kernel) rfl, tb_in (i := 947) (by decide +kernel) rfl, tb_in (i := 13) (by decide +kernel) rfl⟩
theorem lk_L_12 : Cond.methodLink RL 12 yX12_init ∈ wtbl := tb_in (i := 948) (by decide +kernel) rfl
theorem im_X12_init : Cond.instanceMethod yX12_init ∈ wtbl := tb_in (i := 949) (by decide +kernel) rfl
theorem mw_X12_init : MW yX12_init cX12_init 1 none 0 := ⟨tb_in (i := 13) (by decide +kernel) rfl, tb_in (i := 950) (by decide +kernel) rfl, ⟨by decide, by decide⟩, by decide +kernel, by decide⟩
theorem lk_X12_1 : Cond.methodLink RX12 1 Lib.objectInit ∈ wtbl := tb_in (i := 951) (by decide +kernel) rfl
theorem kc_X12_88 : Jvm.Cond.constant RX12 88 (65536) ∈ wtbl := tb_in (i := 952) (by decide +kernel) rfl
theorem fl_X12_7 : FL RX12 7 12 0 true := ⟨_, _, ci_12, by decide, tb_in (i := 953) (by decide +kernel) rfl, rfl, rfl⟩
theorem fl_X12_174 : FL RX12 174 12 1 false := ⟨_, _, ci_12, by decide, tb_in (i := 954) (by decide +kernel) rfl, rfl, rfl⟩
theorem fl_X12_135 : FL RX12 135 12 2 false := ⟨_, _, ci_12, by decide, tb_in (i := 955) (by decide +kernel) rfl, rfl, rfl⟩
theorem fl_X12_167 : FL RX12 167 12 3 false := ⟨_, _, ci_12, by decide, tb_in (i := 956) (by decide +kernel) rfl, rfl, rfl⟩
theorem fl_X12_386 : FL RX12 386 12 4 false := ⟨_, _, ci_12, by decide, tb_in (i := 957) (by decide +kernel) rfl, rfl, rfl⟩
theorem fl_X12_13 : FL RX12 13 12 5 false := ⟨_, _, ci_12, by decide, tb_in (i := 958) (by decide +kernel) rfl, rfl, rfl⟩
theorem fl_X12_146 : FL RX12 146 12 6 false := ⟨_, _, ci_12, by decide, tb_in (i := 959) (by decide +kernel) rfl, rfl, rfl⟩
theorem fl_X12_17 : FL RX12 17 12 8 true := ⟨_, _, ci_12, by decide, tb_in (i := 960) (by decide +kernel) rfl, rfl, rfl⟩
theorem fl_X12_21 : FL RX12 21 12 9 true := ⟨_, _, ci_12, by decide, tb_in (i := 961) (by decide +kernel) rfl, rfl, rfl⟩
theorem fl_X12_24 : FL RX12 24 12 10 true := ⟨_, _, ci_12, by decide, tb_in (i := 962) (by decide +kernel) rfl, rfl, rfl⟩
theorem fl_X12_27 : FL RX12 27 12 11 true := ⟨_, _, ci_12, by decide, tb_in (i := 963) (by decide +kernel) rfl, rfl, rfl⟩
theorem fl_X12_30 : FL RX12 30 12 12 true := ⟨_, _, ci_12, by decide, tb_in (i := 964) (by decide +kernel) rfl, rfl, rfl⟩
theorem fl_X12_33 : FL RX12 33 12 13 true := ⟨_, _, ci_12, by decide, tb_in (i := 965) (by decide +kernel) rfl, rfl, rfl⟩
theorem fl_X12_36 : FL RX12 36 12 14 true := ⟨_, _, ci_12, by decide, tb_in (i := 966) (by decide +kernel) rfl, rfl, rfl⟩
theorem fl_X12_39 : FL RX12 39 12 15 true := ⟨_, _, ci_12, by decide, tb_in (i := 967) (by decide +kernel) rfl, rfl, rfl⟩
theorem fl_X12_42 : FL RX12 42 12 16 true := ⟨_, _, ci_12, by decide, tb_in (i := 968) (by decide +kernel) rfl, rfl, rfl⟩
theorem fl_X12_291 : FL RX12 291 12 17 false := ⟨_, _, ci_12, by decide, tb_in (i := 969) (by decide +kernel) rfl, rfl, rfl⟩
theorem fl_X12_45 : FL RX12 45 12 18 true := ⟨_, _, ci_12, by decide, tb_in (i := 970) (by decide +kernel) rfl, rfl, rfl⟩
theorem fl_X12_48 : FL RX12 48 12 19 true := ⟨_, _, ci_12, by decide, tb_in (i := 971) (by decide +kernel) rfl, rfl, rfl⟩
theorem fl_X12_51 : FL RX12 51 12 20 true := ⟨_, _, ci_12, by decide, tb_in (i := 972) (by decide +kernel) rfl, rfl, rfl⟩
theorem fl_X12_54 : FL RX12 54 12 21 true := ⟨_, _, ci_12, by decide, tb_in (i := 973) (by decide +kernel) rfl, rfl, rfl⟩
theorem fl_X12_57 : FL RX12 57 12 22 true := ⟨_, _, ci_12, by decide, tb_in (i := 974) (by decide +kernel) rfl, rfl, rfl⟩
theorem fl_X12_60 : FL RX12 60 12 23 true := ⟨_, _, ci_12, by decide, tb_in (i := 975) (by decide +kernel) rfl, rfl, rfl⟩
theorem fl_X12_63 : FL RX12 63 12 24 true := ⟨_, _, ci_12, by decide, tb_in (i := 976) (by decide +kernel) rfl, rfl, rfl⟩
theorem fl_X12_66 : FL RX12 66 12 25 true := ⟨_, _, ci_12, by decide, tb_in (i := 977) (by decide +kernel) rfl, rfl, rfl⟩
theorem fl_X12_69 : FL RX12 69 12 26 true := ⟨_, _, ci_12, by decide, tb_in (i := 978) (by decide +kernel) rfl, rfl, rfl⟩
theorem fl_X12_72 : FL RX12 72 12 27 true := ⟨_, _, ci_12, by decide, tb_in (i := 979) (by decide +kernel) rfl, rfl, rfl⟩
theorem fl_X12_181 : FL RX12 181 12 28 false := ⟨_, _, ci_12, by decide, tb_in (i := 980) (by decide +kernel) rfl, rfl, rfl⟩
theorem fl_X12_184 : FL RX12 184 12 29 false := ⟨_, _, ci_12, by decide, tb_in (i := 981) (by decide +kernel) rfl, rfl, rfl⟩
theorem fl_X12_187 : FL RX12 187 12 30 false := ⟨_, _, ci_12, by decide, tb_in (i := 982) (by decide +kernel) rfl, rfl, rfl⟩
theorem fl_X12_277 : FL RX12 277 12 31 false := ⟨_, _, ci_12, by decide, tb_in (i := 983) (by decide +kernel) rfl, rfl, rfl⟩
theorem fl_X12_194 : FL RX12 194 12 32 false := ⟨_, _, ci_12, by decide, tb_in (i := 984) (by decide +kernel) rfl, rfl, rfl⟩
theorem fl_X12_200 : FL RX12 200 12 33 false := ⟨_, _, ci_12, by decide, tb_in (i := 985) (by decide +kernel) rfl, rfl, rfl⟩
theorem fl_X12_197 : FL RX12 197 12 34 false := ⟨_, _, ci_12, by decide, tb_in (i := 986) (by decide +kernel) rfl, rfl, rfl⟩
theorem fl_X12_268 : FL RX12 268 12 35 false := ⟨_, _, ci_12, by decide, tb_in (i := 987) (by decide +kernel) rfl, rfl, rfl⟩
theorem fl_X12_246 : FL RX12 246 12 36 false := ⟨_, _, ci_12, by decide, tb_in (i := 988) (by decide +kernel) rfl, rfl, rfl⟩
theorem fl_X12_75 : FL RX12 75 12 37 true := ⟨_, _, ci_12, by decide, tb_in (i := 989) (by decide +kernel) rfl, rfl, rfl⟩
theorem fl_X12_294 : FL RX12 294 12 38 false := ⟨_, _, ci_12, by decide, tb_in (i := 990) (by decide +kernel) rfl, rfl, rfl⟩
theorem fl_X12_301 : FL RX12 301 12 39 false := ⟨_, _, ci_12, by decide, tb_in (i := 991) (by decide +kernel) rfl, rfl, rfl⟩
theorem fl_X12_304 : FL RX12 304 12 40 false := ⟨_, _, ci_12, by decide, tb_in (i := 992) (by decide +kernel) rfl, rfl, rfl⟩
theorem fl_X12_78 : FL RX12 78 12 41 true := ⟨_, _, ci_12, by decide, tb_in (i := 993) (by decide +kernel) rfl, rfl, rfl⟩
theorem fl_X12_81 : FL RX12 81 12 42 true := ⟨_, _, ci_12, by decide, tb_in (i := 994) (by decide +kernel) rfl, rfl, rfl⟩
theorem fl_X12_85 : FL RX12 85 12 43 true := ⟨_, _, ci_12, by decide, tb_in (i := 995) (by decide +kernel) rfl, rfl, rfl⟩
theorem fl_X12_89 : FL RX12 89 12 44 true := ⟨_, _, ci_12, by decide, tb_in (i := 996) (by decide +kernel) rfl, rfl, rfl⟩
theorem fl_X12_341 : FL RX12 341 12 45 false := ⟨_, _, ci_12, by decide, tb_in (i := 997) (by decide +kernel) rfl, rfl, rfl⟩
theorem fl_X12_344 : FL RX12 344 12 46 false := ⟨_, _, ci_12, by decide, tb_in (i := 998) (by decide +kernel) rfl, rfl, rfl⟩
theorem fl_X12_347 : FL RX12 347 12 47 false := ⟨_, _, ci_12, by decide, tb_in (i := 999) (by decide +kernel) rfl, rfl, rfl⟩
theorem fl_X12_358 : FL RX12 358 12 48 false := ⟨_, _, ci_12, by decide, tb_in (i := 1000) (by decide +kernel) rfl, rfl, rfl⟩
theorem fl_X12_92 : FL RX12 92 12 49 true := ⟨_, _, ci_12, by decide, tb_in (i := 1001) (by decide +kernel) rfl, rfl, rfl⟩
theorem fl_X12_95 : FL RX12 95 12 50 true := ⟨_, _, ci_12, by decide, tb_in (i := 1002) (by decide +kernel) rfl, rfl, rfl⟩
theorem fl_X12_99 : FL RX12 99 12 51 true := ⟨_, _, ci_12, by decide, tb_in (i := 1003) (by decide +kernel) rfl, rfl, rfl⟩
theorem fl_X12_102 : FL RX12 102 12 52 true := ⟨_, _, ci_12, by decide, tb_in (i := 1004) (by decide +kernel) rfl, rfl, rfl⟩
theorem fl_X12_105 : FL RX12 105 12 53 true := ⟨_, _, ci_12, by decide, tb_in (i := 1005) (by decide +kernel) rfl, rfl, rfl⟩
theorem fl_X12_108 : FL RX12 108 12 54 true := ⟨_, _, ci_12, by decide, tb_in (i := 1006) (by decide +kernel) rfl, rfl, rfl⟩
theorem fl_X12_111 : FL RX12 111 12 55 true := ⟨_, _, ci_12, by decide, tb_in (i := 1007) (by decide +kernel) rfl, rfl, rfl⟩
theorem fl_X12_114 : FL RX12 114 12 56 true := ⟨_, _, ci_12, by decide, tb_in (i := 1008) (by decide +kernel) rfl, rfl, rfl⟩
theorem fl_X12_117 : FL RX12 117 12 57 true := ⟨_, _, ci_12, by decide, tb_in (i := 1009) (by decide +kernel) rfl, rfl, rfl⟩
theorem fl_X12_120 : FL RX12 120 12 58 true := ⟨_, _, ci_12, by decide, tb_in (i := 1010) (by decide +kernel) rfl, rfl, rfl⟩
theorem fl_X12_123 : FL RX12 123 12 59 true := ⟨_, _, ci_12, by decide, tb_in (i := 1011) (by decide +kernel) rfl, rfl, rfl⟩
theorem fl_X12_126 : FL RX12 126 12 60 true := ⟨_, _, ci_12, by decide, tb_in (i := 1012) (by decide +kernel) rfl, rfl, rfl⟩
theorem fl_X12_129 : FL RX12 129 12 61 true := ⟨_, _, ci_12, by decide, tb_in (i := 1013) (by decide +kernel) rfl, rfl, rfl⟩
theorem fl_X12_447 : FL RX12 447 12 62 false := ⟨_, _, ci_12, by decide, tb_in (i := 1014) (by decide +kernel) rfl, rfl, rfl⟩
theorem fl_X12_132 : FL RX12 132 12 63 true := ⟨_, _, ci_12, by decide, tb_in (i := 1015) (by decide +kernel) rfl, rfl, rfl⟩
theorem ac_byte : Cond.arrayClass .byte ∈ wtbl := tb_in (i := 1145) (by decide +kernel) rfl
theorem ac_boolean : Cond.arrayClass .boolean ∈ wtbl := tb_in (i := 1146) (by decide +kernel) rfl
theorem lk_L_17 : Cond.methodLink RL 17 yX12_word ∈ wtbl := tb_in (i := 1147) (by decide +kernel) rfl
theorem im_X12_word : Cond.instanceMethod yX12_word ∈ wtbl := tb_in (i := 1148) (by decide +kernel) rfl
theorem se_X12_word : Cond.selects RX12 yX12_word yX12_word ∈ wtbl := tb_in (i := 1149) (by decide +kernel) rfl
theorem mw_X12_word : MW yX12_word cX12_word 5 (some .int) 3 := ⟨tb_in (i := 13) (by decide +kernel) rfl, tb_in (i := 1150) (by decide +kernel) rfl, ⟨by decide, by decide⟩, by decide +kernel, by decide⟩
theorem kl_X12_144 : Jvm.Cond.constantLong RX12 144 (3) ∈ wtbl := tb_in (i := 1151) (by decide +kernel) rfl
theorem lk_X12_138 : Cond.methodLink RX12 138 yX12_lies ∈ wtbl := tb_in (i := 1152) (by decide +kernel) rfl
theorem im_X12_lies : Cond.static yX12_lies ∈ wtbl := tb_in (i := 1153) (by decide +kernel) rfl
theorem mw_X12_lies : MW yX12_lies cX12_lies 6 (some .boolean) 3 := ⟨tb_in (i := 13) (by decide +kernel) rfl, tb_in (i := 1154) (by decide +kernel) rfl, ⟨by decide, by decide⟩, by decide +kernel, by decide⟩
theorem lk_X12_153 : Cond.methodLink RX12 153 yX12_isMeaning ∈ wtbl := tb_in (i := 1155) (by decide +kernel) rfl
theorem im_X12_isMeaning : Cond.static yX12_isMeaning ∈ wtbl := tb_in (i := 1156) (by decide +kernel) rfl
theorem mw_X12_isMeaning : MW yX12_isMeaning cX12_isMeaning 1 (some .boolean) 1 := ⟨tb_in (i := 13) (by decide +kernel) rfl, tb_in (i := 1157) (by decide +kernel) rfl, ⟨by decide, by decide⟩, by decide +kernel, by decide⟩
theorem kl_X12_142 : Jvm.Cond.constantLong RX12 142 (63) ∈ wtbl := tb_in (i := 1158) (by decide +kernel) rfl
theorem kl_X12_157 : Jvm.Cond.constantLong RX12 157 (9) ∈ wtbl := tb_in (i := 1159) (by decide +kernel) rfl
theorem lk_X12_159 : Cond.methodLink RX12 159 yX12_changes ∈ wtbl := tb_in (i := 1160) (by decide +kernel) rfl
theorem im_X12_changes : Cond.instanceMethod yX12_changes ∈ wtbl := tb_in (i := 1162) (by decide +kernel) rfl
theorem mw_X12_changes : MW yX12_changes cX12_changes 2 none 0 := ⟨tb_in (i := 13) (by decide +kernel) rfl, tb_in (i := 1163) (by decide +kernel) rfl, ⟨by decide, by decide⟩, by decide +kernel, by decide⟩
theorem lk_L_22 : Cond.methodLink RL 22 yX12_people ∈ wtbl := tb_in (i := 1164) (by decide +kernel) rfl
theorem im_X12_people : Cond.instanceMethod yX12_people ∈ wtbl := tb_in (i := 1165) (by decide +kernel) rfl
theorem se_X12_people : Cond.selects RX12 yX12_people yX12_people ∈ wtbl := tb_in (i := 1166) (by decide +kernel) rfl
theorem mw_X12_people : MW yX12_people cX12_people 3 (some .boolean) 2 := ⟨tb_in (i := 13) (by decide +kernel) rfl, tb_in (i := 1167) (by decide +kernel) rfl, ⟨by decide, by decide⟩, by decide +kernel, by decide⟩
theorem lk_X12_162 : Cond.methodLink RX12 162 yX12_isSort ∈ wtbl := tb_in (i := 1168) (by decide +kernel) rfl
theorem im_X12_isSort : Cond.static yX12_isSort ∈ wtbl := tb_in (i := 1169) (by decide +kernel) rfl
theorem mw_X12_isSort : MW yX12_isSort cX12_isSort 1 (some .boolean) 1 := ⟨tb_in (i := 13) (by decide +kernel) rfl, tb_in (i := 1170) (by decide +kernel) rfl, ⟨by decide, by decide⟩, by decide +kernel, by decide⟩
theorem kl_X12_165 : Jvm.Cond.constantLong RX12 165 (1000) ∈ wtbl := tb_in (i := 1171) (by decide +kernel) rfl
theorem lk_L_27 : Cond.methodLink RL 27 yX12_want ∈ wtbl := tb_in (i := 1172) (by decide +kernel) rfl
theorem im_X12_want : Cond.instanceMethod yX12_want ∈ wtbl := tb_in (i := 1173) (by decide +kernel) rfl
theorem se_X12_want : Cond.selects RX12 yX12_want yX12_want ∈ wtbl := tb_in (i := 1174) (by decide +kernel) rfl
theorem mw_X12_want : MW yX12_want cX12_want 5 (some .int) 4 := ⟨tb_in (i := 13) (by decide +kernel) rfl, tb_in (i := 1175) (by decide +kernel) rfl, ⟨by decide, by decide⟩, by decide +kernel, by decide⟩
theorem kl_X12_170 : Jvm.Cond.constantLong RX12 170 (2000) ∈ wtbl := tb_in (i := 1176) (by decide +kernel) rfl
theorem lk_L_31 : Cond.methodLink RL 31 yX12_often ∈ wtbl := tb_in (i := 1177) (by decide +kernel) rfl
theorem im_X12_often : Cond.instanceMethod yX12_often ∈ wtbl := tb_in (i := 1178) (by decide +kernel) rfl
theorem se_X12_often : Cond.selects RX12 yX12_often yX12_often ∈ wtbl := tb_in (i := 1179) (by decide +kernel) rfl
theorem mw_X12_often : MW yX12_often cX12_often 3 (some .boolean) 2 := ⟨tb_in (i := 13) (by decide +kernel) rfl, tb_in (i := 1180) (by decide +kernel) rfl, ⟨by decide, by decide⟩, by decide +kernel, by decide⟩
theorem lk_L_36 : Cond.methodLink RL 36 yX12_silence ∈ wtbl := tb_in (i := 1181) (by decide +kernel) rfl
theorem im_X12_silence : Cond.instanceMethod yX12_silence ∈ wtbl := tb_in (i := 1182) (by decide +kernel) rfl
theorem se_X12_silence : Cond.selects RX12 yX12_silence yX12_silence ∈ wtbl := tb_in (i := 1183) (by decide +kernel) rfl
theorem mw_X12_silence : MW yX12_silence cX12_silence 2 (some .boolean) 1 := ⟨tb_in (i := 13) (by decide +kernel) rfl, tb_in (i := 1184) (by decide +kernel) rfl, ⟨by decide, by decide⟩, by decide +kernel, by decide⟩
theorem kl_X12_172 : Jvm.Cond.constantLong RX12 172 (5000) ∈ wtbl := tb_in (i := 1185) (by decide +kernel) rfl
theorem lk_L_41 : Cond.methodLink RL 41 yX12_feed ∈ wtbl := tb_in (i := 1186) (by decide +kernel) rfl
theorem im_X12_feed : Cond.instanceMethod yX12_feed ∈ wtbl := tb_in (i := 1187) (by decide +kernel) rfl
theorem se_X12_feed : Cond.selects RX12 yX12_feed yX12_feed ∈ wtbl := tb_in (i := 1188) (by decide +kernel) rfl
theorem mw_X12_feed : MW yX12_feed cX12_feed 6 (some .int) 5 := ⟨tb_in (i := 13) (by decide +kernel) rfl, tb_in (i := 1189) (by decide +kernel) rfl, ⟨by decide, by decide⟩, by decide +kernel, by decide⟩
theorem lk_X12_177 : Cond.methodLink RX12 177 yX12_push ∈ wtbl := tb_in (i := 1190) (by decide +kernel) rfl
theorem im_X12_push : Cond.instanceMethod yX12_push ∈ wtbl := tb_in (i := 1192) (by decide +kernel) rfl
theorem mw_X12_push : MW yX12_push cX12_push 3 none 1 := ⟨tb_in (i := 13) (by decide +kernel) rfl, tb_in (i := 1193) (by decide +kernel) rfl, ⟨by decide, by decide⟩, by decide +kernel, by decide⟩
theorem lk_L_46 : Cond.methodLink RL 46 yX12_near ∈ wtbl := tb_in (i := 1194) (by decide +kernel) rfl
theorem im_X12_near : Cond.instanceMethod yX12_near ∈ wtbl := tb_in (i := 1195) (by decide +kernel) rfl
theorem se_X12_near : Cond.selects RX12 yX12_near yX12_near ∈ wtbl := tb_in (i := 1196) (by decide +kernel) rfl
theorem mw_X12_near : MW yX12_near cX12_near 4 (some .int) 1 := ⟨tb_in (i := 13) (by decide +kernel) rfl, tb_in (i := 1197) (by decide +kernel) rfl, ⟨by decide, by decide⟩, by decide +kernel, by decide⟩
theorem kl_X12_283 : Jvm.Cond.constantLong RX12 283 (160) ∈ wtbl := tb_in (i := 1198) (by decide +kernel) rfl
theorem lk_X12_285 : Cond.methodLink RX12 285 yX12_begins ∈ wtbl := tb_in (i := 1199) (by decide +kernel) rfl
theorem im_X12_begins : Cond.instanceMethod yX12_begins ∈ wtbl := tb_in (i := 1201) (by decide +kernel) rfl
theorem mw_X12_begins : MW yX12_begins cX12_begins 2 none 1 := ⟨tb_in (i := 13) (by decide +kernel) rfl, tb_in (i := 1202) (by decide +kernel) rfl, ⟨by decide, by decide⟩, by decide +kernel, by decide⟩
theorem lk_X12_190 : Cond.methodLink RX12 190 yX12_isGood ∈ wtbl := tb_in (i := 1203) (by decide +kernel) rfl
theorem im_X12_isGood : Cond.instanceMethod yX12_isGood ∈ wtbl := tb_in (i := 1205) (by decide +kernel) rfl
theorem mw_X12_isGood : MW yX12_isGood cX12_isGood 1 (some .boolean) 0 := ⟨tb_in (i := 13) (by decide +kernel) rfl, tb_in (i := 1206) (by decide +kernel) rfl, ⟨by decide, by decide⟩, by decide +kernel, by decide⟩
theorem lk_X12_288 : Cond.methodLink RX12 288 yX12_clause ∈ wtbl := tb_in (i := 1207) (by decide +kernel) rfl
theorem im_X12_clause : Cond.instanceMethod yX12_clause ∈ wtbl := tb_in (i := 1209) (by decide +kernel) rfl
theorem mw_X12_clause : MW yX12_clause cX12_clause 1 none 0 := ⟨tb_in (i := 13) (by decide +kernel) rfl, tb_in (i := 1210) (by decide +kernel) rfl, ⟨by decide, by decide⟩, by decide +kernel, by decide⟩
theorem lk_X12_207 : Cond.methodLink RX12 207 yX12_here ∈ wtbl := tb_in (i := 1211) (by decide +kernel) rfl
theorem im_X12_here : Cond.instanceMethod yX12_here ∈ wtbl := tb_in (i := 1213) (by decide +kernel) rfl
theorem mw_X12_here : MW yX12_here cX12_here 1 (some .int) 0 := ⟨tb_in (i := 13) (by decide +kernel) rfl, tb_in (i := 1214) (by decide +kernel) rfl, ⟨by decide, by decide⟩, by decide +kernel, by decide⟩
theorem lk_X12_203 : Cond.methodLink RX12 203 yX12_wrongs ∈ wtbl := tb_in (i := 1215) (by decide +kernel) rfl
theorem im_X12_wrongs : Cond.instanceMethod yX12_wrongs ∈ wtbl := tb_in (i := 1217) (by decide +kernel) rfl
theorem mw_X12_wrongs : MW yX12_wrongs cX12_wrongs 3 none 2 := ⟨tb_in (i := 13) (by decide +kernel) rfl, tb_in (i := 1218) (by decide +kernel) rfl, ⟨by decide, by decide⟩, by decide +kernel, by decide⟩
theorem lk_X12_256 : Cond.methodLink RX12 256 yX12_value ∈ wtbl := tb_in (i := 1219) (by decide +kernel) rfl
theorem im_X12_value : Cond.instanceMethod yX12_value ∈ wtbl := tb_in (i := 1221) (by decide +kernel) rfl
theorem mw_X12_value : MW yX12_value cX12_value 2 none 0 := ⟨tb_in (i := 13) (by decide +kernel) rfl, tb_in (i := 1222) (by decide +kernel) rfl, ⟨by decide, by decide⟩, by decide +kernel, by decide⟩
theorem lk_X12_250 : Cond.methodLink RX12 250 yX12_factor ∈ wtbl := tb_in (i := 1223) (by decide +kernel) rfl
theorem im_X12_factor : Cond.instanceMethod yX12_factor ∈ wtbl := tb_in (i := 1225) (by decide +kernel) rfl
theorem mw_X12_factor : MW yX12_factor cX12_factor 1 none 0 := ⟨tb_in (i := 13) (by decide +kernel) rfl, tb_in (i := 1226) (by decide +kernel) rfl, ⟨by decide, by decide⟩, by decide +kernel, by decide⟩
theorem lk_X12_233 : Cond.methodLink RX12 233 yX12_opens ∈ wtbl := tb_in (i := 1227) (by decide +kernel) rfl
theorem im_X12_opens : Cond.instanceMethod yX12_opens ∈ wtbl := tb_in (i := 1229) (by decide +kernel) rfl
theorem mw_X12_opens : MW yX12_opens cX12_opens 1 none 0 := ⟨tb_in (i := 13) (by decide +kernel) rfl, tb_in (i := 1230) (by decide +kernel) rfl, ⟨by decide, by decide⟩, by decide +kernel, by decide⟩
theorem lk_X12_211 : Cond.methodLink RX12 211 yX12_puts ∈ wtbl := tb_in (i := 1231) (by decide +kernel) rfl
theorem im_X12_puts : Cond.instanceMethod yX12_puts ∈ wtbl := tb_in (i := 1233) (by decide +kernel) rfl
theorem mw_X12_puts : MW yX12_puts cX12_puts 2 none 1 := ⟨tb_in (i := 13) (by decide +kernel) rfl, tb_in (i := 1234) (by decide +kernel) rfl, ⟨by decide, by decide⟩, by decide +kernel, by decide⟩
theorem lk_X12_218 : Cond.methodLink RX12 218 yX12_seesDigit ∈ wtbl := tb_in (i := 1235) (by decide +kernel) rfl
theorem im_X12_seesDigit : Cond.instanceMethod yX12_seesDigit ∈ wtbl := tb_in (i := 1237) (by decide +kernel) rfl
theorem mw_X12_seesDigit : MW yX12_seesDigit cX12_seesDigit 1 (some .boolean) 0 := ⟨tb_in (i := 13) (by decide +kernel) rfl, tb_in (i := 1238) (by decide +kernel) rfl, ⟨by decide, by decide⟩, by decide +kernel, by decide⟩
theorem kl_X12_214 : Jvm.Cond.constantLong RX12 214 (48) ∈ wtbl := tb_in (i := 1239) (by decide +kernel) rfl
theorem kl_X12_216 : Jvm.Cond.constantLong RX12 216 (57) ∈ wtbl := tb_in (i := 1240) (by decide +kernel) rfl
theorem lk_X12_236 : Cond.methodLink RX12 236 yX12_reads ∈ wtbl := tb_in (i := 1241) (by decide +kernel) rfl
theorem im_X12_reads : Cond.instanceMethod yX12_reads ∈ wtbl := tb_in (i := 1243) (by decide +kernel) rfl
theorem mw_X12_reads : MW yX12_reads cX12_reads 3 (some .int) 0 := ⟨tb_in (i := 13) (by decide +kernel) rfl, tb_in (i := 1244) (by decide +kernel) rfl, ⟨by decide, by decide⟩, by decide +kernel, by decide⟩
theorem lk_X12_230 : Cond.methodLink RX12 230 yX12_emit ∈ wtbl := tb_in (i := 1245) (by decide +kernel) rfl
theorem im_X12_emit : Cond.instanceMethod yX12_emit ∈ wtbl := tb_in (i := 1247) (by decide +kernel) rfl
theorem mw_X12_emit : MW yX12_emit cX12_emit 3 none 2 := ⟨tb_in (i := 13) (by decide +kernel) rfl, tb_in (i := 1248) (by decide +kernel) rfl, ⟨by decide, by decide⟩, by decide +kernel, by decide⟩
theorem lk_X12_239 : Cond.methodLink RX12 239 yX12_isValue ∈ wtbl := tb_in (i := 1249) (by decide +kernel) rfl
theorem im_X12_isValue : Cond.static yX12_isValue ∈ wtbl := tb_in (i := 1250) (by decide +kernel) rfl
theorem mw_X12_isValue : MW yX12_isValue cX12_isValue 1 (some .boolean) 1 := ⟨tb_in (i := 13) (by decide +kernel) rfl, tb_in (i := 1251) (by decide +kernel) rfl, ⟨by decide, by decide⟩, by decide +kernel, by decide⟩
theorem lk_X12_253 : Cond.methodLink RX12 253 yX12_stays ∈ wtbl := tb_in (i := 1252) (by decide +kernel) rfl
theorem im_X12_stays : Cond.instanceMethod yX12_stays ∈ wtbl := tb_in (i := 1254) (by decide +kernel) rfl
theorem mw_X12_stays : MW yX12_stays cX12_stays 2 (some .boolean) 0 := ⟨tb_in (i := 13) (by decide +kernel) rfl, tb_in (i := 1255) (by decide +kernel) rfl, ⟨by decide, by decide⟩, by decide +kernel, by decide⟩
theorem lk_X12_224 : Cond.methodLink RX12 224 yX12_isTimes ∈ wtbl := tb_in (i := 1256) (by decide +kernel) rfl
theorem im_X12_isTimes : Cond.static yX12_isTimes ∈ wtbl := tb_in (i := 1257) (by decide +kernel) rfl
theorem mw_X12_isTimes : MW yX12_isTimes cX12_isTimes 1 (some .boolean) 1 := ⟨tb_in (i := 13) (by decide +kernel) rfl, tb_in (i := 1258) (by decide +kernel) rfl, ⟨by decide, by decide⟩, by decide +kernel, by decide⟩
theorem lk_X12_227 : Cond.methodLink RX12 227 yX12_isPlus ∈ wtbl := tb_in (i := 1259) (by decide +kernel) rfl
theorem im_X12_isPlus : Cond.static yX12_isPlus ∈ wtbl := tb_in (i := 1260) (by decide +kernel) rfl
theorem mw_X12_isPlus : MW yX12_isPlus cX12_isPlus 1 (some .boolean) 1 := ⟨tb_in (i := 13) (by decide +kernel) rfl, tb_in (i := 1261) (by decide +kernel) rfl, ⟨by decide, by decide⟩, by decide +kernel, by decide⟩
theorem lk_X12_242 : Cond.methodLink RX12 242 yX12_sums ∈ wtbl := tb_in (i := 1262) (by decide +kernel) rfl
theorem im_X12_sums : Cond.instanceMethod yX12_sums ∈ wtbl := tb_in (i := 1264) (by decide +kernel) rfl
theorem mw_X12_sums : MW yX12_sums cX12_sums 2 none 1 := ⟨tb_in (i := 13) (by decide +kernel) rfl, tb_in (i := 1265) (by decide +kernel) rfl, ⟨by decide, by decide⟩, by decide +kernel, by decide⟩
theorem lk_X12_221 : Cond.methodLink RX12 221 yX12_top ∈ wtbl := tb_in (i := 1266) (by decide +kernel) rfl
theorem im_X12_top : Cond.instanceMethod yX12_top ∈ wtbl := tb_in (i := 1268) (by decide +kernel) rfl
theorem mw_X12_top : MW yX12_top cX12_top 1 (some .int) 0 := ⟨tb_in (i := 13) (by decide +kernel) rfl, tb_in (i := 1269) (by decide +kernel) rfl, ⟨by decide, by decide⟩, by decide +kernel, by decide⟩
theorem lk_X12_280 : Cond.methodLink RX12 280 yX12_condition ∈ wtbl := tb_in (i := 1270) (by decide +kernel) rfl
theorem im_X12_condition : Cond.instanceMethod yX12_condition ∈ wtbl := tb_in (i := 1272) (by decide +kernel) rfl
theorem mw_X12_condition : MW yX12_condition cX12_condition 2 none 0 := ⟨tb_in (i := 13) (by decide +kernel) rfl, tb_in (i := 1273) (by decide +kernel) rfl, ⟨by decide, by decide⟩, by decide +kernel, by decide⟩
theorem lk_X12_271 : Cond.methodLink RX12 271 yX12_pieceOfC ∈ wtbl := tb_in (i := 1274) (by decide +kernel) rfl
theorem im_X12_pieceOfC : Cond.instanceMethod yX12_pieceOfC ∈ wtbl := tb_in (i := 1276) (by decide +kernel) rfl
theorem mw_X12_pieceOfC : MW yX12_pieceOfC cX12_pieceOfC 2 none 0 := ⟨tb_in (i := 13) (by decide +kernel) rfl, tb_in (i := 1277) (by decide +kernel) rfl, ⟨by decide, by decide⟩, by decide +kernel, by decide⟩
theorem lk_X12_259 : Cond.methodLink RX12 259 yX12_isSign ∈ wtbl := tb_in (i := 1278) (by decide +kernel) rfl
theorem im_X12_isSign : Cond.static yX12_isSign ∈ wtbl := tb_in (i := 1279) (by decide +kernel) rfl
theorem mw_X12_isSign : MW yX12_isSign cX12_isSign 1 (some .boolean) 1 := ⟨tb_in (i := 13) (by decide +kernel) rfl, tb_in (i := 1280) (by decide +kernel) rfl, ⟨by decide, by decide⟩, by decide +kernel, by decide⟩
theorem lk_X12_262 : Cond.methodLink RX12 262 yX12_ends ∈ wtbl := tb_in (i := 1281) (by decide +kernel) rfl
theorem im_X12_ends : Cond.instanceMethod yX12_ends ∈ wtbl := tb_in (i := 1283) (by decide +kernel) rfl
theorem mw_X12_ends : MW yX12_ends cX12_ends 1 none 0 := ⟨tb_in (i := 13) (by decide +kernel) rfl, tb_in (i := 1284) (by decide +kernel) rfl, ⟨by decide, by decide⟩, by decide +kernel, by decide⟩
theorem lk_X12_274 : Cond.methodLink RX12 274 yX12_goesBehind ∈ wtbl := tb_in (i := 1285) (by decide +kernel) rfl
theorem im_X12_goesBehind : Cond.instanceMethod yX12_goesBehind ∈ wtbl := tb_in (i := 1287) (by decide +kernel) rfl
theorem mw_X12_goesBehind : MW yX12_goesBehind cX12_goesBehind 2 (some .boolean) 0 := ⟨tb_in (i := 13) (by decide +kernel) rfl, tb_in (i := 1288) (by decide +kernel) rfl, ⟨by decide, by decide⟩, by decide +kernel, by decide⟩
theorem lk_X12_265 : Cond.methodLink RX12 265 yX12_joins ∈ wtbl := tb_in (i := 1289) (by decide +kernel) rfl
theorem im_X12_joins : Cond.instanceMethod yX12_joins ∈ wtbl := tb_in (i := 1291) (by decide +kernel) rfl
theorem mw_X12_joins : MW yX12_joins cX12_joins 2 none 1 := ⟨tb_in (i := 13) (by decide +kernel) rfl, tb_in (i := 1292) (by decide +kernel) rfl, ⟨by decide, by decide⟩, by decide +kernel, by decide⟩
theorem lk_L_51 : Cond.methodLink RL 51 yX12_brief ∈ wtbl := tb_in (i := 1293) (by decide +kernel) rfl
theorem im_X12_brief : Cond.instanceMethod yX12_brief ∈ wtbl := tb_in (i := 1294) (by decide +kernel) rfl
theorem se_X12_brief : Cond.selects RX12 yX12_brief yX12_brief ∈ wtbl := tb_in (i := 1295) (by decide +kernel) rfl
theorem mw_X12_brief : MW yX12_brief cX12_brief 4 (some .int) 2 := ⟨tb_in (i := 13) (by decide +kernel) rfl, tb_in (i := 1296) (by decide +kernel) rfl, ⟨by decide, by decide⟩, by decide +kernel, by decide⟩
theorem lk_X12_335 : Cond.methodLink RX12 335 yX12_isTongue ∈ wtbl := tb_in (i := 1297) (by decide +kernel) rfl
theorem im_X12_isTongue : Cond.instanceMethod yX12_isTongue ∈ wtbl := tb_in (i := 1299) (by decide +kernel) rfl
theorem mw_X12_isTongue : MW yX12_isTongue cX12_isTongue 2 (some .boolean) 1 := ⟨tb_in (i := 13) (by decide +kernel) rfl, tb_in (i := 1300) (by decide +kernel) rfl, ⟨by decide, by decide⟩, by decide +kernel, by decide⟩
theorem lk_X12_338 : Cond.methodLink RX12 338 yX12_briefOf ∈ wtbl := tb_in (i := 1301) (by decide +kernel) rfl
theorem im_X12_briefOf : Cond.instanceMethod yX12_briefOf ∈ wtbl := tb_in (i := 1303) (by decide +kernel) rfl
theorem mw_X12_briefOf : MW yX12_briefOf cX12_briefOf 3 (some .int) 2 := ⟨tb_in (i := 13) (by decide +kernel) rfl, tb_in (i := 1304) (by decide +kernel) rfl, ⟨by decide, by decide⟩, by decide +kernel, by decide⟩
theorem lk_X12_332 : Cond.methodLink RX12 332 yX12_lays ∈ wtbl := tb_in (i := 1305) (by decide +kernel) rfl
theorem im_X12_lays : Cond.instanceMethod yX12_lays ∈ wtbl := tb_in (i := 1307) (by decide +kernel) rfl
theorem mw_X12_lays : MW yX12_lays cX12_lays 10 none 1 := ⟨tb_in (i := 13) (by decide +kernel) rfl, tb_in (i := 1308) (by decide +kernel) rfl, ⟨by decide, by decide⟩, by decide +kernel, by decide⟩
theorem kc_X12_324 : Jvm.Cond.constant RX12 324 (1000000) ∈ wtbl := tb_in (i := 1309) (by decide +kernel) rfl
theorem lk_X12_149 : Cond.methodLink RX12 149 yX12_has ∈ wtbl := tb_in (i := 1310) (by decide +kernel) rfl
theorem im_X12_has : Cond.static yX12_has ∈ wtbl := tb_in (i := 1311) (by decide +kernel) rfl
theorem mw_X12_has : MW yX12_has cX12_has 2 (some .boolean) 2 := ⟨tb_in (i := 13) (by decide +kernel) rfl, tb_in (i := 1312) (by decide +kernel) rfl, ⟨by decide, by decide⟩, by decide +kernel, by decide⟩
theorem lk_X12_325 : Cond.methodLink RX12 325 yX12_joinOf ∈ wtbl := tb_in (i := 1313) (by decide +kernel) rfl
theorem im_X12_joinOf : Cond.instanceMethod yX12_joinOf ∈ wtbl := tb_in (i := 1315) (by decide +kernel) rfl
theorem mw_X12_joinOf : MW yX12_joinOf cX12_joinOf 4 (some .int) 2 := ⟨tb_in (i := 13) (by decide +kernel) rfl, tb_in (i := 1316) (by decide +kernel) rfl, ⟨by decide, by decide⟩, by decide +kernel, by decide⟩
theorem lk_X12_320 : Cond.methodLink RX12 320 yX12_joinerOf ∈ wtbl := tb_in (i := 1317) (by decide +kernel) rfl
theorem im_X12_joinerOf : Cond.instanceMethod yX12_joinerOf ∈ wtbl := tb_in (i := 1319) (by decide +kernel) rfl
theorem mw_X12_joinerOf : MW yX12_joinerOf cX12_joinerOf 5 (some .int) 2 := ⟨tb_in (i := 13) (by decide +kernel) rfl, tb_in (i := 1320) (by decide +kernel) rfl, ⟨by decide, by decide⟩, by decide +kernel, by decide⟩
theorem lk_X12_328 : Cond.methodLink RX12 328 yX12_shortens ∈ wtbl := tb_in (i := 1321) (by decide +kernel) rfl
theorem im_X12_shortens : Cond.instanceMethod yX12_shortens ∈ wtbl := tb_in (i := 1323) (by decide +kernel) rfl
theorem mw_X12_shortens : MW yX12_shortens cX12_shortens 4 (some .boolean) 3 := ⟨tb_in (i := 13) (by decide +kernel) rfl, tb_in (i := 1324) (by decide +kernel) rfl, ⟨by decide, by decide⟩, by decide +kernel, by decide⟩
theorem lk_L_55 : Cond.methodLink RL 55 yX12_how ∈ wtbl := tb_in (i := 1325) (by decide +kernel) rfl
theorem im_X12_how : Cond.instanceMethod yX12_how ∈ wtbl := tb_in (i := 1326) (by decide +kernel) rfl
theorem se_X12_how : Cond.selects RX12 yX12_how yX12_how ∈ wtbl := tb_in (i := 1327) (by decide +kernel) rfl
theorem mw_X12_how : MW yX12_how cX12_how 4 (some .int) 3 := ⟨tb_in (i := 13) (by decide +kernel) rfl, tb_in (i := 1328) (by decide +kernel) rfl, ⟨by decide, by decide⟩, by decide +kernel, by decide⟩
theorem kl_X12_353 : Jvm.Cond.constantLong RX12 353 (2) ∈ wtbl := tb_in (i := 1329) (by decide +kernel) rfl
theorem lk_X12_355 : Cond.methodLink RX12 355 yX12_says ∈ wtbl := tb_in (i := 1330) (by decide +kernel) rfl
theorem im_X12_says : Cond.instanceMethod yX12_says ∈ wtbl := tb_in (i := 1332) (by decide +kernel) rfl
theorem mw_X12_says : MW yX12_says cX12_says 4 none 2 := ⟨tb_in (i := 13) (by decide +kernel) rfl, tb_in (i := 1333) (by decide +kernel) rfl, ⟨by decide, by decide⟩, by decide +kernel, by decide⟩
theorem lk_X12_350 : Cond.methodLink RX12 350 yX12_findsPair ∈ wtbl := tb_in (i := 1334) (by decide +kernel) rfl
theorem im_X12_findsPair : Cond.instanceMethod yX12_findsPair ∈ wtbl := tb_in (i := 1336) (by decide +kernel) rfl
theorem mw_X12_findsPair : MW yX12_findsPair cX12_findsPair 7 (some .boolean) 3 := ⟨tb_in (i := 13) (by decide +kernel) rfl, tb_in (i := 1337) (by decide +kernel) rfl, ⟨by decide, by decide⟩, by decide +kernel, by decide⟩
theorem lk_L_59 : Cond.methodLink RL 59 yX12_sayable ∈ wtbl := tb_in (i := 1338) (by decide +kernel) rfl
theorem im_X12_sayable : Cond.instanceMethod yX12_sayable ∈ wtbl := tb_in (i := 1339) (by decide +kernel) rfl
theorem se_X12_sayable : Cond.selects RX12 yX12_sayable yX12_sayable ∈ wtbl := tb_in (i := 1340) (by decide +kernel) rfl
theorem mw_X12_sayable : MW yX12_sayable cX12_sayable 5 (some .int) 3 := ⟨tb_in (i := 13) (by decide +kernel) rfl, tb_in (i := 1341) (by decide +kernel) rfl, ⟨by decide, by decide⟩, by decide +kernel, by decide⟩
theorem lk_X12_364 : Cond.methodLink RX12 364 yX12_sayableOf ∈ wtbl := tb_in (i := 1342) (by decide +kernel) rfl
theorem im_X12_sayableOf : Cond.instanceMethod yX12_sayableOf ∈ wtbl := tb_in (i := 1344) (by decide +kernel) rfl
theorem mw_X12_sayableOf : MW yX12_sayableOf cX12_sayableOf 7 (some .int) 2 := ⟨tb_in (i := 13) (by decide +kernel) rfl, tb_in (i := 1345) (by decide +kernel) rfl, ⟨by decide, by decide⟩, by decide +kernel, by decide⟩
theorem lk_X12_361 : Cond.methodLink RX12 361 yX12_costOf ∈ wtbl := tb_in (i := 1346) (by decide +kernel) rfl
theorem im_X12_costOf : Cond.instanceMethod yX12_costOf ∈ wtbl := tb_in (i := 1348) (by decide +kernel) rfl
theorem mw_X12_costOf : MW yX12_costOf cX12_costOf 6 (some .int) 3 := ⟨tb_in (i := 13) (by decide +kernel) rfl, tb_in (i := 1349) (by decide +kernel) rfl, ⟨by decide, by decide⟩, by decide +kernel, by decide⟩
theorem lk_X12_317 : Cond.methodLink RX12 317 yX12_works ∈ wtbl := tb_in (i := 1350) (by decide +kernel) rfl
theorem im_X12_works : Cond.instanceMethod yX12_works ∈ wtbl := tb_in (i := 1352) (by decide +kernel) rfl
theorem mw_X12_works : MW yX12_works cX12_works 5 none 2 := ⟨tb_in (i := 13) (by decide +kernel) rfl, tb_in (i := 1353) (by decide +kernel) rfl, ⟨by decide, by decide⟩, by decide +kernel, by decide⟩
theorem lk_X12_311 : Cond.methodLink RX12 311 yX12_does ∈ wtbl := tb_in (i := 1354) (by decide +kernel) rfl
theorem im_X12_does : Cond.instanceMethod yX12_does ∈ wtbl := tb_in (i := 1356) (by decide +kernel) rfl
theorem mw_X12_does : MW yX12_does cX12_does 4 none 2 := ⟨tb_in (i := 13) (by decide +kernel) rfl, tb_in (i := 1357) (by decide +kernel) rfl, ⟨by decide, by decide⟩, by decide +kernel, by decide⟩
theorem lk_X12_307 : Cond.methodLink RX12 307 yX12_worked ∈ wtbl := tb_in (i := 1358) (by decide +kernel) rfl
theorem im_X12_worked : Cond.static yX12_worked ∈ wtbl := tb_in (i := 1359) (by decide +kernel) rfl
theorem mw_X12_worked : MW yX12_worked cX12_worked 3 (some .int) 3 := ⟨tb_in (i := 13) (by decide +kernel) rfl, tb_in (i := 1360) (by decide +kernel) rfl, ⟨by decide, by decide⟩, by decide +kernel, by decide⟩
theorem lk_X12_314 : Cond.methodLink RX12 314 yX12_valueOf ∈ wtbl := tb_in (i := 1361) (by decide +kernel) rfl
theorem im_X12_valueOf : Cond.instanceMethod yX12_valueOf ∈ wtbl := tb_in (i := 1363) (by decide +kernel) rfl
theorem mw_X12_valueOf : MW yX12_valueOf cX12_valueOf 2 (some .int) 1 := ⟨tb_in (i := 13) (by decide +kernel) rfl, tb_in (i := 1364) (by decide +kernel) rfl, ⟨by decide, by decide⟩, by decide +kernel, by decide⟩
theorem lk_X12_297 : Cond.methodLink RX12 297 yX12_sizeOf ∈ wtbl := tb_in (i := 1365) (by decide +kernel) rfl
theorem im_X12_sizeOf : Cond.static yX12_sizeOf ∈ wtbl := tb_in (i := 1366) (by decide +kernel) rfl
theorem mw_X12_sizeOf : MW yX12_sizeOf cX12_sizeOf 3 (some .int) 1 := ⟨tb_in (i := 13) (by decide +kernel) rfl, tb_in (i := 1367) (by decide +kernel) rfl, ⟨by decide, by decide⟩, by decide +kernel, by decide⟩
theorem lk_L_64 : Cond.methodLink RL 64 yX12_talk ∈ wtbl := tb_in (i := 1368) (by decide +kernel) rfl
theorem im_X12_talk : Cond.instanceMethod yX12_talk ∈ wtbl := tb_in (i := 1369) (by decide +kernel) rfl
theorem se_X12_talk : Cond.selects RX12 yX12_talk yX12_talk ∈ wtbl := tb_in (i := 1370) (by decide +kernel) rfl
theorem mw_X12_talk : MW yX12_talk cX12_talk 3 (some .long) 2 := ⟨tb_in (i := 13) (by decide +kernel) rfl, tb_in (i := 1371) (by decide +kernel) rfl, ⟨by decide, by decide⟩, by decide +kernel, by decide⟩
theorem kl_X12_374 : Jvm.Cond.constantLong RX12 374 (-1) ∈ wtbl := tb_in (i := 1372) (by decide +kernel) rfl
theorem lk_X12_376 : Cond.methodLink RX12 376 yX12_talkOf ∈ wtbl := tb_in (i := 1373) (by decide +kernel) rfl
theorem im_X12_talkOf : Cond.instanceMethod yX12_talkOf ∈ wtbl := tb_in (i := 1375) (by decide +kernel) rfl
theorem mw_X12_talkOf : MW yX12_talkOf cX12_talkOf 5 (some .long) 1 := ⟨tb_in (i := 13) (by decide +kernel) rfl, tb_in (i := 1376) (by decide +kernel) rfl, ⟨by decide, by decide⟩, by decide +kernel, by decide⟩
theorem lk_X12_370 : Cond.methodLink RX12 370 yX12_talkBy ∈ wtbl := tb_in (i := 1377) (by decide +kernel) rfl
theorem im_X12_talkBy : Cond.instanceMethod yX12_talkBy ∈ wtbl := tb_in (i := 1379) (by decide +kernel) rfl
theorem mw_X12_talkBy : MW yX12_talkBy cX12_talkBy 3 (some .long) 2 := ⟨tb_in (i := 13) (by decide +kernel) rfl, tb_in (i := 1380) (by decide +kernel) rfl, ⟨by decide, by decide⟩, by decide +kernel, by decide⟩
theorem lk_X12_367 : Cond.methodLink RX12 367 yX12_talksBy ∈ wtbl := tb_in (i := 1381) (by decide +kernel) rfl
theorem im_X12_talksBy : Cond.instanceMethod yX12_talksBy ∈ wtbl := tb_in (i := 1383) (by decide +kernel) rfl
theorem mw_X12_talksBy : MW yX12_talksBy cX12_talksBy 4 none 1 := ⟨tb_in (i := 13) (by decide +kernel) rfl, tb_in (i := 1384) (by decide +kernel) rfl, ⟨by decide, by decide⟩, by decide +kernel, by decide⟩
theorem lk_L_68 : Cond.methodLink RL 68 yX12_musts ∈ wtbl := tb_in (i := 1385) (by decide +kernel) rfl
theorem im_X12_musts : Cond.instanceMethod yX12_musts ∈ wtbl := tb_in (i := 1386) (by decide +kernel) rfl
theorem se_X12_musts : Cond.selects RX12 yX12_musts yX12_musts ∈ wtbl := tb_in (i := 1387) (by decide +kernel) rfl
theorem mw_X12_musts : MW yX12_musts cX12_musts 2 (some .int) 1 := ⟨tb_in (i := 13) (by decide +kernel) rfl, tb_in (i := 1388) (by decide +kernel) rfl, ⟨by decide, by decide⟩, by decide +kernel, by decide⟩
theorem lk_X12_380 : Cond.methodLink RX12 380 yX12_mustsOf ∈ wtbl := tb_in (i := 1389) (by decide +kernel) rfl
theorem im_X12_mustsOf : Cond.instanceMethod yX12_mustsOf ∈ wtbl := tb_in (i := 1391) (by decide +kernel) rfl
theorem mw_X12_mustsOf : MW yX12_mustsOf cX12_mustsOf 2 (some .int) 1 := ⟨tb_in (i := 13) (by decide +kernel) rfl, tb_in (i := 1392) (by decide +kernel) rfl, ⟨by decide, by decide⟩, by decide +kernel, by decide⟩
theorem lk_L_72 : Cond.methodLink RL 72 yX12_strike ∈ wtbl := tb_in (i := 1393) (by decide +kernel) rfl
theorem im_X12_strike : Cond.instanceMethod yX12_strike ∈ wtbl := tb_in (i := 1394) (by decide +kernel) rfl
theorem se_X12_strike : Cond.selects RX12 yX12_strike yX12_strike ∈ wtbl := tb_in (i := 1395) (by decide +kernel) rfl
theorem mw_X12_strike : MW yX12_strike cX12_strike 2 (some .int) 1 := ⟨tb_in (i := 13) (by decide +kernel) rfl, tb_in (i := 1396) (by decide +kernel) rfl, ⟨by decide, by decide⟩, by decide +kernel, by decide⟩
theorem lk_X12_383 : Cond.methodLink RX12 383 yX12_isUsed ∈ wtbl := tb_in (i := 1397) (by decide +kernel) rfl
theorem im_X12_isUsed : Cond.instanceMethod yX12_isUsed ∈ wtbl := tb_in (i := 1399) (by decide +kernel) rfl
theorem mw_X12_isUsed : MW yX12_isUsed cX12_isUsed 2 (some .boolean) 1 := ⟨tb_in (i := 13) (by decide +kernel) rfl, tb_in (i := 1400) (by decide +kernel) rfl, ⟨by decide, by decide⟩, by decide +kernel, by decide⟩
theorem lk_L_77 : Cond.methodLink RL 77 yX12_costs ∈ wtbl := tb_in (i := 1401) (by decide +kernel) rfl
theorem im_X12_costs : Cond.instanceMethod yX12_costs ∈ wtbl := tb_in (i := 1402) (by decide +kernel) rfl
theorem se_X12_costs : Cond.selects RX12 yX12_costs yX12_costs ∈ wtbl := tb_in (i := 1403) (by decide +kernel) rfl
theorem mw_X12_costs : MW yX12_costs cX12_costs 2 (some .long) 1 := ⟨tb_in (i := 13) (by decide +kernel) rfl, tb_in (i := 1404) (by decide +kernel) rfl, ⟨by decide, by decide⟩, by decide +kernel, by decide⟩
theorem kl_X12_389 : Jvm.Cond.constantLong RX12 389 (-1000000000) ∈ wtbl := tb_in (i := 1405) (by decide +kernel) rfl
theorem lk_L_82 : Cond.methodLink RL 82 yX12_least ∈ wtbl := tb_in (i := 1406) (by decide +kernel) rfl
theorem im_X12_least : Cond.instanceMethod yX12_least ∈ wtbl := tb_in (i := 1407) (by decide +kernel) rfl
theorem se_X12_least : Cond.selects RX12 yX12_least yX12_least ∈ wtbl := tb_in (i := 1408) (by decide +kernel) rfl
theorem mw_X12_least : MW yX12_least cX12_least 1 (some .int) 0 := ⟨tb_in (i := 13) (by decide +kernel) rfl, tb_in (i := 1409) (by decide +kernel) rfl, ⟨by decide, by decide⟩, by decide +kernel, by decide⟩
theorem lk_X12_391 : Cond.methodLink RX12 391 yX12_leastOf ∈ wtbl := tb_in (i := 1410) (by decide +kernel) rfl
theorem im_X12_leastOf : Cond.instanceMethod yX12_leastOf ∈ wtbl := tb_in (i := 1412) (by decide +kernel) rfl
theorem mw_X12_leastOf : MW yX12_leastOf cX12_leastOf 8 (some .int) 1 := ⟨tb_in (i := 13) (by decide +kernel) rfl, tb_in (i := 1413) (by decide +kernel) rfl, ⟨by decide, by decide⟩, by decide +kernel, by decide⟩
theorem lk_L_86 : Cond.methodLink RL 86 yX12_spite ∈ wtbl := tb_in (i := 1414) (by decide +kernel) rfl
theorem im_X12_spite : Cond.instanceMethod yX12_spite ∈ wtbl := tb_in (i := 1415) (by decide +kernel) rfl
theorem se_X12_spite : Cond.selects RX12 yX12_spite yX12_spite ∈ wtbl := tb_in (i := 1416) (by decide +kernel) rfl
theorem mw_X12_spite : MW yX12_spite cX12_spite 10 (some .int) 1 := ⟨tb_in (i := 13) (by decide +kernel) rfl, tb_in (i := 1417) (by decide +kernel) rfl, ⟨by decide, by decide⟩, by decide +kernel, by decide⟩
theorem lk_X12_394 : Cond.methodLink RX12 394 yX12_growsBy ∈ wtbl := tb_in (i := 1418) (by decide +kernel) rfl
theorem im_X12_growsBy : Cond.instanceMethod yX12_growsBy ∈ wtbl := tb_in (i := 1420) (by decide +kernel) rfl
theorem mw_X12_growsBy : MW yX12_growsBy cX12_growsBy 3 (some .long) 2 := ⟨tb_in (i := 13) (by decide +kernel) rfl, tb_in (i := 1421) (by decide +kernel) rfl, ⟨by decide, by decide⟩, by decide +kernel, by decide⟩
theorem lk_L_90 : Cond.methodLink RL 90 yX12_vote ∈ wtbl := tb_in (i := 1422) (by decide +kernel) rfl
theorem im_X12_vote : Cond.instanceMethod yX12_vote ∈ wtbl := tb_in (i := 1423) (by decide +kernel) rfl
theorem se_X12_vote : Cond.selects RX12 yX12_vote yX12_vote ∈ wtbl := tb_in (i := 1424) (by decide +kernel) rfl
theorem mw_X12_vote : MW yX12_vote cX12_vote 4 (some .int) 1 := ⟨tb_in (i := 13) (by decide +kernel) rfl, tb_in (i := 1425) (by decide +kernel) rfl, ⟨by decide, by decide⟩, by decide +kernel, by decide⟩
theorem lk_X12_409 : Cond.methodLink RX12 409 yX12_voters ∈ wtbl := tb_in (i := 1426) (by decide +kernel) rfl
theorem im_X12_voters : Cond.instanceMethod yX12_voters ∈ wtbl := tb_in (i := 1428) (by decide +kernel) rfl
theorem mw_X12_voters : MW yX12_voters cX12_voters 3 (some .int) 0 := ⟨tb_in (i := 13) (by decide +kernel) rfl, tb_in (i := 1429) (by decide +kernel) rfl, ⟨by decide, by decide⟩, by decide +kernel, by decide⟩
theorem lk_X12_412 : Cond.methodLink RX12 412 yX12_firstOf ∈ wtbl := tb_in (i := 1430) (by decide +kernel) rfl
theorem im_X12_firstOf : Cond.instanceMethod yX12_firstOf ∈ wtbl := tb_in (i := 1432) (by decide +kernel) rfl
theorem mw_X12_firstOf : MW yX12_firstOf cX12_firstOf 4 (some .int) 1 := ⟨tb_in (i := 13) (by decide +kernel) rfl, tb_in (i := 1433) (by decide +kernel) rfl, ⟨by decide, by decide⟩, by decide +kernel, by decide⟩
theorem lk_X12_403 : Cond.methodLink RX12 403 yX12_firstVotes ∈ wtbl := tb_in (i := 1434) (by decide +kernel) rfl
theorem im_X12_firstVotes : Cond.instanceMethod yX12_firstVotes ∈ wtbl := tb_in (i := 1436) (by decide +kernel) rfl
theorem mw_X12_firstVotes : MW yX12_firstVotes cX12_firstVotes 4 (some .int) 1 := ⟨tb_in (i := 13) (by decide +kernel) rfl, tb_in (i := 1437) (by decide +kernel) rfl, ⟨by decide, by decide⟩, by decide +kernel, by decide⟩
theorem lk_X12_400 : Cond.methodLink RX12 400 yX12_behind ∈ wtbl := tb_in (i := 1438) (by decide +kernel) rfl
theorem im_X12_behind : Cond.instanceMethod yX12_behind ∈ wtbl := tb_in (i := 1440) (by decide +kernel) rfl
theorem mw_X12_behind : MW yX12_behind cX12_behind 5 (some .int) 2 := ⟨tb_in (i := 13) (by decide +kernel) rfl, tb_in (i := 1441) (by decide +kernel) rfl, ⟨by decide, by decide⟩, by decide +kernel, by decide⟩
theorem lk_X12_397 : Cond.methodLink RX12 397 yX12_isAhead ∈ wtbl := tb_in (i := 1442) (by decide +kernel) rfl
theorem im_X12_isAhead : Cond.instanceMethod yX12_isAhead ∈ wtbl := tb_in (i := 1444) (by decide +kernel) rfl
theorem mw_X12_isAhead : MW yX12_isAhead cX12_isAhead 8 (some .boolean) 3 := ⟨tb_in (i := 13) (by decide +kernel) rfl, tb_in (i := 1445) (by decide +kernel) rfl, ⟨by decide, by decide⟩, by decide +kernel, by decide⟩
theorem lk_X12_415 : Cond.methodLink RX12 415 yX12_byPoints ∈ wtbl := tb_in (i := 1446) (by decide +kernel) rfl
theorem im_X12_byPoints : Cond.instanceMethod yX12_byPoints ∈ wtbl := tb_in (i := 1448) (by decide +kernel) rfl
theorem mw_X12_byPoints : MW yX12_byPoints cX12_byPoints 6 (some .int) 0 := ⟨tb_in (i := 13) (by decide +kernel) rfl, tb_in (i := 1449) (by decide +kernel) rfl, ⟨by decide, by decide⟩, by decide +kernel, by decide⟩
theorem lk_X12_418 : Cond.methodLink RX12 418 yX12_aheadOfAll ∈ wtbl := tb_in (i := 1450) (by decide +kernel) rfl
theorem im_X12_aheadOfAll : Cond.instanceMethod yX12_aheadOfAll ∈ wtbl := tb_in (i := 1452) (by decide +kernel) rfl
theorem mw_X12_aheadOfAll : MW yX12_aheadOfAll cX12_aheadOfAll 4 (some .int) 0 := ⟨tb_in (i := 13) (by decide +kernel) rfl, tb_in (i := 1453) (by decide +kernel) rfl, ⟨by decide, by decide⟩, by decide +kernel, by decide⟩
theorem lk_X12_406 : Cond.methodLink RX12 406 yX12_aheadVotes ∈ wtbl := tb_in (i := 1454) (by decide +kernel) rfl
theorem im_X12_aheadVotes : Cond.instanceMethod yX12_aheadVotes ∈ wtbl := tb_in (i := 1456) (by decide +kernel) rfl
theorem mw_X12_aheadVotes : MW yX12_aheadVotes cX12_aheadVotes 5 (some .int) 2 := ⟨tb_in (i := 13) (by decide +kernel) rfl, tb_in (i := 1457) (by decide +kernel) rfl, ⟨by decide, by decide⟩, by decide +kernel, by decide⟩
theorem lk_L_94 : Cond.methodLink RL 94 yX12_order ∈ wtbl := tb_in (i := 1458) (by decide +kernel) rfl
theorem im_X12_order : Cond.instanceMethod yX12_order ∈ wtbl := tb_in (i := 1459) (by decide +kernel) rfl
theorem se_X12_order : Cond.selects RX12 yX12_order yX12_order ∈ wtbl := tb_in (i := 1460) (by decide +kernel) rfl
theorem mw_X12_order : MW yX12_order cX12_order 6 (some .long) 2 := ⟨tb_in (i := 13) (by decide +kernel) rfl, tb_in (i := 1461) (by decide +kernel) rfl, ⟨by decide, by decide⟩, by decide +kernel, by decide⟩
theorem lk_X12_425 : Cond.methodLink RX12 425 yX12_isOrder ∈ wtbl := tb_in (i := 1462) (by decide +kernel) rfl
theorem im_X12_isOrder : Cond.instanceMethod yX12_isOrder ∈ wtbl := tb_in (i := 1464) (by decide +kernel) rfl
theorem mw_X12_isOrder : MW yX12_isOrder cX12_isOrder 2 (some .boolean) 1 := ⟨tb_in (i := 13) (by decide +kernel) rfl, tb_in (i := 1465) (by decide +kernel) rfl, ⟨by decide, by decide⟩, by decide +kernel, by decide⟩
theorem kl_X12_423 : Jvm.Cond.constantLong RX12 423 (6) ∈ wtbl := tb_in (i := 1466) (by decide +kernel) rfl
theorem lk_X12_428 : Cond.methodLink RX12 428 yX12_laysOrder ∈ wtbl := tb_in (i := 1467) (by decide +kernel) rfl
theorem im_X12_laysOrder : Cond.instanceMethod yX12_laysOrder ∈ wtbl := tb_in (i := 1469) (by decide +kernel) rfl
theorem mw_X12_laysOrder : MW yX12_laysOrder cX12_laysOrder 7 none 1 := ⟨tb_in (i := 13) (by decide +kernel) rfl, tb_in (i := 1470) (by decide +kernel) rfl, ⟨by decide, by decide⟩, by decide +kernel, by decide⟩
theorem kl_X12_421 : Jvm.Cond.constantLong RX12 421 (1000000000000000) ∈ wtbl := tb_in (i := 1471) (by decide +kernel) rfl
theorem lk_L_98 : Cond.methodLink RL 98 yX12_gap ∈ wtbl := tb_in (i := 1472) (by decide +kernel) rfl
theorem im_X12_gap : Cond.instanceMethod yX12_gap ∈ wtbl := tb_in (i := 1473) (by decide +kernel) rfl
theorem se_X12_gap : Cond.selects RX12 yX12_gap yX12_gap ∈ wtbl := tb_in (i := 1474) (by decide +kernel) rfl
theorem mw_X12_gap : MW yX12_gap cX12_gap 6 (some .long) 1 := ⟨tb_in (i := 13) (by decide +kernel) rfl, tb_in (i := 1475) (by decide +kernel) rfl, ⟨by decide, by decide⟩, by decide +kernel, by decide⟩
theorem lk_L_102 : Cond.methodLink RL 102 yX12_row ∈ wtbl := tb_in (i := 1476) (by decide +kernel) rfl
theorem im_X12_row : Cond.instanceMethod yX12_row ∈ wtbl := tb_in (i := 1477) (by decide +kernel) rfl
theorem se_X12_row : Cond.selects RX12 yX12_row yX12_row ∈ wtbl := tb_in (i := 1478) (by decide +kernel) rfl
theorem mw_X12_row : MW yX12_row cX12_row 8 (some .long) 2 := ⟨tb_in (i := 13) (by decide +kernel) rfl, tb_in (i := 1479) (by decide +kernel) rfl, ⟨by decide, by decide⟩, by decide +kernel, by decide⟩
theorem kl_X12_431 : Jvm.Cond.constantLong RX12 431 (10) ∈ wtbl := tb_in (i := 1480) (by decide +kernel) rfl
theorem kl_X12_433 : Jvm.Cond.constantLong RX12 433 (-2) ∈ wtbl := tb_in (i := 1481) (by decide +kernel) rfl
theorem lk_L_106 : Cond.methodLink RL 106 yX12_till ∈ wtbl := tb_in (i := 1482) (by decide +kernel) rfl
theorem im_X12_till : Cond.instanceMethod yX12_till ∈ wtbl := tb_in (i := 1483) (by decide +kernel) rfl
theorem se_X12_till : Cond.selects RX12 yX12_till yX12_till ∈ wtbl := tb_in (i := 1484) (by decide +kernel) rfl
theorem mw_X12_till : MW yX12_till cX12_till 3 (some .int) 0 := ⟨tb_in (i := 13) (by decide +kernel) rfl, tb_in (i := 1485) (by decide +kernel) rfl, ⟨by decide, by decide⟩, by decide +kernel, by decide⟩
theorem lk_L_110 : Cond.methodLink RL 110 yX12_kept ∈ wtbl := tb_in (i := 1486) (by decide +kernel) rfl
theorem im_X12_kept : Cond.instanceMethod yX12_kept ∈ wtbl := tb_in (i := 1487) (by decide +kernel) rfl
theorem se_X12_kept : Cond.selects RX12 yX12_kept yX12_kept ∈ wtbl := tb_in (i := 1488) (by decide +kernel) rfl
theorem mw_X12_kept : MW yX12_kept cX12_kept 5 (some .long) 2 := ⟨tb_in (i := 13) (by decide +kernel) rfl, tb_in (i := 1489) (by decide +kernel) rfl, ⟨by decide, by decide⟩, by decide +kernel, by decide⟩
theorem lk_L_114 : Cond.methodLink RL 114 yX12_back ∈ wtbl := tb_in (i := 1490) (by decide +kernel) rfl
theorem im_X12_back : Cond.instanceMethod yX12_back ∈ wtbl := tb_in (i := 1491) (by decide +kernel) rfl
theorem se_X12_back : Cond.selects RX12 yX12_back yX12_back ∈ wtbl := tb_in (i := 1492) (by decide +kernel) rfl
theorem mw_X12_back : MW yX12_back cX12_back 13 (some .long) 1 := ⟨tb_in (i := 13) (by decide +kernel) rfl, tb_in (i := 1493) (by decide +kernel) rfl, ⟨by decide, by decide⟩, by decide +kernel, by decide⟩
theorem lk_L_118 : Cond.methodLink RL 118 yX12_told ∈ wtbl := tb_in (i := 1494) (by decide +kernel) rfl
theorem im_X12_told : Cond.instanceMethod yX12_told ∈ wtbl := tb_in (i := 1495) (by decide +kernel) rfl
theorem se_X12_told : Cond.selects RX12 yX12_told yX12_told ∈ wtbl := tb_in (i := 1496) (by decide +kernel) rfl
theorem mw_X12_told : MW yX12_told cX12_told 3 (some .int) 1 := ⟨tb_in (i := 13) (by decide +kernel) rfl, tb_in (i := 1497) (by decide +kernel) rfl, ⟨by decide, by decide⟩, by decide +kernel, by decide⟩
theorem lk_X12_435 : Cond.methodLink RX12 435 yX12_isMeant ∈ wtbl := tb_in (i := 1498) (by decide +kernel) rfl
theorem im_X12_isMeant : Cond.instanceMethod yX12_isMeant ∈ wtbl := tb_in (i := 1500) (by decide +kernel) rfl
theorem mw_X12_isMeant : MW yX12_isMeant cX12_isMeant 2 (some .boolean) 1 := ⟨tb_in (i := 13) (by decide +kernel) rfl, tb_in (i := 1501) (by decide +kernel) rfl, ⟨by decide, by decide⟩, by decide +kernel, by decide⟩
theorem lk_L_122 : Cond.methodLink RL 122 yX12_leads ∈ wtbl := tb_in (i := 1502) (by decide +kernel) rfl
theorem im_X12_leads : Cond.instanceMethod yX12_leads ∈ wtbl := tb_in (i := 1503) (by decide +kernel) rfl
theorem se_X12_leads : Cond.selects RX12 yX12_leads yX12_leads ∈ wtbl := tb_in (i := 1504) (by decide +kernel) rfl
theorem mw_X12_leads : MW yX12_leads cX12_leads 2 (some .int) 1 := ⟨tb_in (i := 13) (by decide +kernel) rfl, tb_in (i := 1505) (by decide +kernel) rfl, ⟨by decide, by decide⟩, by decide +kernel, by decide⟩
theorem lk_X12_441 : Cond.methodLink RX12 441 yX12_leadsTo ∈ wtbl := tb_in (i := 1506) (by decide +kernel) rfl
theorem im_X12_leadsTo : Cond.instanceMethod yX12_leadsTo ∈ wtbl := tb_in (i := 1508) (by decide +kernel) rfl
theorem mw_X12_leadsTo : MW yX12_leadsTo cX12_leadsTo 3 (some .int) 1 := ⟨tb_in (i := 13) (by decide +kernel) rfl, tb_in (i := 1509) (by decide +kernel) rfl, ⟨by decide, by decide⟩, by decide +kernel, by decide⟩
theorem lk_X12_438 : Cond.methodLink RX12 438 yX12_wordsFor ∈ wtbl := tb_in (i := 1510) (by decide +kernel) rfl
theorem im_X12_wordsFor : Cond.instanceMethod yX12_wordsFor ∈ wtbl := tb_in (i := 1512) (by decide +kernel) rfl
theorem mw_X12_wordsFor : MW yX12_wordsFor cX12_wordsFor 8 (some .int) 2 := ⟨tb_in (i := 13) (by decide +kernel) rfl, tb_in (i := 1513) (by decide +kernel) rfl, ⟨by decide, by decide⟩, by decide +kernel, by decide⟩
theorem lk_L_126 : Cond.methodLink RL 126 yX12_round ∈ wtbl := tb_in (i := 1514) (by decide +kernel) rfl
theorem im_X12_round : Cond.instanceMethod yX12_round ∈ wtbl := tb_in (i := 1515) (by decide +kernel) rfl
theorem se_X12_round : Cond.selects RX12 yX12_round yX12_round ∈ wtbl := tb_in (i := 1516) (by decide +kernel) rfl
theorem mw_X12_round : MW yX12_round cX12_round 6 (some .int) 0 := ⟨tb_in (i := 13) (by decide +kernel) rfl, tb_in (i := 1517) (by decide +kernel) rfl, ⟨by decide, by decide⟩, by decide +kernel, by decide⟩
theorem lk_L_130 : Cond.methodLink RL 130 yX12_fewest ∈ wtbl := tb_in (i := 1518) (by decide +kernel) rfl
theorem im_X12_fewest : Cond.instanceMethod yX12_fewest ∈ wtbl := tb_in (i := 1519) (by decide +kernel) rfl
theorem se_X12_fewest : Cond.selects RX12 yX12_fewest yX12_fewest ∈ wtbl := tb_in (i := 1520) (by decide +kernel) rfl
theorem mw_X12_fewest : MW yX12_fewest cX12_fewest 3 (some .int) 0 := ⟨tb_in (i := 13) (by decide +kernel) rfl, tb_in (i := 1521) (by decide +kernel) rfl, ⟨by decide, by decide⟩, by decide +kernel, by decide⟩
theorem lk_X12_444 : Cond.methodLink RX12 444 yX12_tellsAll ∈ wtbl := tb_in (i := 1522) (by decide +kernel) rfl
theorem im_X12_tellsAll : Cond.instanceMethod yX12_tellsAll ∈ wtbl := tb_in (i := 1524) (by decide +kernel) rfl
theorem mw_X12_tellsAll : MW yX12_tellsAll cX12_tellsAll 3 (some .boolean) 1 := ⟨tb_in (i := 13) (by decide +kernel) rfl, tb_in (i := 1525) (by decide +kernel) rfl, ⟨by decide, by decide⟩, by decide +kernel, by decide⟩
theorem lk_L_134 : Cond.methodLink RL 134 yX12_law ∈ wtbl := tb_in (i := 1526) (by decide +kernel) rfl
theorem im_X12_law : Cond.instanceMethod yX12_law ∈ wtbl := tb_in (i := 1527) (by decide +kernel) rfl
theorem se_X12_law : Cond.selects RX12 yX12_law yX12_law ∈ wtbl := tb_in (i := 1528) (by decide +kernel) rfl
theorem mw_X12_law : MW yX12_law cX12_law 5 (some .int) 2 := ⟨tb_in (i := 13) (by decide +kernel) rfl, tb_in (i := 1529) (by decide +kernel) rfl, ⟨by decide, by decide⟩, by decide +kernel, by decide⟩
theorem kl_X12_459 : Jvm.Cond.constantLong RX12 459 (60) ∈ wtbl := tb_in (i := 1530) (by decide +kernel) rfl
theorem lk_X12_461 : Cond.methodLink RX12 461 yX12_readsD ∈ wtbl := tb_in (i := 1531) (by decide +kernel) rfl
theorem im_X12_readsD : Cond.instanceMethod yX12_readsD ∈ wtbl := tb_in (i := 1533) (by decide +kernel) rfl
theorem mw_X12_readsD : MW yX12_readsD cX12_readsD 2 none 0 := ⟨tb_in (i := 13) (by decide +kernel) rfl, tb_in (i := 1534) (by decide +kernel) rfl, ⟨by decide, by decide⟩, by decide +kernel, by decide⟩
theorem lk_X12_450 : Cond.methodLink RX12 450 yX12_endsD ∈ wtbl := tb_in (i := 1535) (by decide +kernel) rfl
theorem im_X12_endsD : Cond.instanceMethod yX12_endsD ∈ wtbl := tb_in (i := 1537) (by decide +kernel) rfl
theorem mw_X12_endsD : MW yX12_endsD cX12_endsD 1 none 0 := ⟨tb_in (i := 13) (by decide +kernel) rfl, tb_in (i := 1538) (by decide +kernel) rfl, ⟨by decide, by decide⟩, by decide +kernel, by decide⟩
theorem lk_X12_464 : Cond.methodLink RX12 464 yX12_followsD ∈ wtbl := tb_in (i := 1539) (by decide +kernel) rfl
theorem im_X12_followsD : Cond.instanceMethod yX12_followsD ∈ wtbl := tb_in (i := 1541) (by decide +kernel) rfl
theorem mw_X12_followsD : MW yX12_followsD cX12_followsD 3 (some .boolean) 0 := ⟨tb_in (i := 13) (by decide +kernel) rfl, tb_in (i := 1542) (by decide +kernel) rfl, ⟨by decide, by decide⟩, by decide +kernel, by decide⟩
theorem lk_X12_453 : Cond.methodLink RX12 453 yX12_joinsValues ∈ wtbl := tb_in (i := 1543) (by decide +kernel) rfl
theorem im_X12_joinsValues : Cond.instanceMethod yX12_joinsValues ∈ wtbl := tb_in (i := 1545) (by decide +kernel) rfl
theorem mw_X12_joinsValues : MW yX12_joinsValues cX12_joinsValues 3 none 1 := ⟨tb_in (i := 13) (by decide +kernel) rfl, tb_in (i := 1546) (by decide +kernel) rfl, ⟨by decide, by decide⟩, by decide +kernel, by decide⟩
theorem lk_X12_456 : Cond.methodLink RX12 456 yX12_startsD ∈ wtbl := tb_in (i := 1547) (by decide +kernel) rfl
theorem im_X12_startsD : Cond.static yX12_startsD ∈ wtbl := tb_in (i := 1548) (by decide +kernel) rfl
theorem mw_X12_startsD : MW yX12_startsD cX12_startsD 1 (some .boolean) 1 := ⟨tb_in (i := 13) (by decide +kernel) rfl, tb_in (i := 1549) (by decide +kernel) rfl, ⟨by decide, by decide⟩, by decide +kernel, by decide⟩
theorem lk_L_138 : Cond.methodLink RL 138 yX12_lawIs ∈ wtbl := tb_in (i := 1550) (by decide +kernel) rfl
theorem im_X12_lawIs : Cond.instanceMethod yX12_lawIs ∈ wtbl := tb_in (i := 1551) (by decide +kernel) rfl
theorem se_X12_lawIs : Cond.selects RX12 yX12_lawIs yX12_lawIs ∈ wtbl := tb_in (i := 1552) (by decide +kernel) rfl
theorem mw_X12_lawIs : MW yX12_lawIs cX12_lawIs 5 (some .int) 2 := ⟨tb_in (i := 13) (by decide +kernel) rfl, tb_in (i := 1553) (by decide +kernel) rfl, ⟨by decide, by decide⟩, by decide +kernel, by decide⟩
theorem lk_X12_467 : Cond.methodLink RX12 467 yX12_lawLength ∈ wtbl := tb_in (i := 1554) (by decide +kernel) rfl
theorem im_X12_lawLength : Cond.instanceMethod yX12_lawLength ∈ wtbl := tb_in (i := 1556) (by decide +kernel) rfl
theorem mw_X12_lawLength : MW yX12_lawLength cX12_lawLength 5 (some .int) 1 := ⟨tb_in (i := 13) (by decide +kernel) rfl, tb_in (i := 1557) (by decide +kernel) rfl, ⟨by decide, by decide⟩, by decide +kernel, by decide⟩
theorem lk_L_142 : Cond.methodLink RL 142 yX12_madeUp ∈ wtbl := tb_in (i := 1558) (by decide +kernel) rfl
theorem im_X12_madeUp : Cond.instanceMethod yX12_madeUp ∈ wtbl := tb_in (i := 1559) (by decide +kernel) rfl
theorem se_X12_madeUp : Cond.selects RX12 yX12_madeUp yX12_madeUp ∈ wtbl := tb_in (i := 1560) (by decide +kernel) rfl
theorem mw_X12_madeUp : MW yX12_madeUp cX12_madeUp 11 (some .long) 2 := ⟨tb_in (i := 13) (by decide +kernel) rfl, tb_in (i := 1561) (by decide +kernel) rfl, ⟨by decide, by decide⟩, by decide +kernel, by decide⟩
theorem lk_X12_470 : Cond.methodLink RX12 470 yX12_talkWith ∈ wtbl := tb_in (i := 1562) (by decide +kernel) rfl
theorem im_X12_talkWith : Cond.instanceMethod yX12_talkWith ∈ wtbl := tb_in (i := 1564) (by decide +kernel) rfl
theorem mw_X12_talkWith : MW yX12_talkWith cX12_talkWith 12 (some .long) 2 := ⟨tb_in (i := 13) (by decide +kernel) rfl, tb_in (i := 1565) (by decide +kernel) rfl, ⟨by decide, by decide⟩, by decide +kernel, by decide⟩
theorem lk_L_146 : Cond.methodLink RL 146 yX12_check ∈ wtbl := tb_in (i := 1566) (by decide +kernel) rfl
theorem im_X12_check : Cond.instanceMethod yX12_check ∈ wtbl := tb_in (i := 1567) (by decide +kernel) rfl
theorem se_X12_check : Cond.selects RX12 yX12_check yX12_check ∈ wtbl := tb_in (i := 1568) (by decide +kernel) rfl
theorem mw_X12_check : MW yX12_check cX12_check 4 (some .int) 2 := ⟨tb_in (i := 13) (by decide +kernel) rfl, tb_in (i := 1569) (by decide +kernel) rfl, ⟨by decide, by decide⟩, by decide +kernel, by decide⟩
theorem kl_X12_473 : Jvm.Cond.constantLong RX12 473 (64) ∈ wtbl := tb_in (i := 1570) (by decide +kernel) rfl
theorem lk_X12_475 : Cond.methodLink RX12 475 yX12_numberAt ∈ wtbl := tb_in (i := 1571) (by decide +kernel) rfl
theorem im_X12_numberAt : Cond.instanceMethod yX12_numberAt ∈ wtbl := tb_in (i := 1573) (by decide +kernel) rfl
theorem mw_X12_numberAt : MW yX12_numberAt cX12_numberAt 4 (some .int) 1 := ⟨tb_in (i := 13) (by decide +kernel) rfl, tb_in (i := 1574) (by decide +kernel) rfl, ⟨by decide, by decide⟩, by decide +kernel, by decide⟩
theorem lk_X12_478 : Cond.methodLink RX12 478 yX12_brief ∈ wtbl := tb_in (i := 1575) (by decide +kernel) rfl
theorem lk_L_150 : Cond.methodLink RL 150 yX12_count ∈ wtbl := tb_in (i := 1576) (by decide +kernel) rfl
theorem im_X12_count : Cond.instanceMethod yX12_count ∈ wtbl := tb_in (i := 1577) (by decide +kernel) rfl
theorem se_X12_count : Cond.selects RX12 yX12_count yX12_count ∈ wtbl := tb_in (i := 1578) (by decide +kernel) rfl
theorem mw_X12_count : MW yX12_count cX12_count 2 (some .int) 1 := ⟨tb_in (i := 13) (by decide +kernel) rfl, tb_in (i := 1579) (by decide +kernel) rfl, ⟨by decide, by decide⟩, by decide +kernel, by decide⟩
theorem lk_X12_481 : Cond.methodLink RX12 481 yX12_lawsTold ∈ wtbl := tb_in (i := 1580) (by decide +kernel) rfl
theorem im_X12_lawsTold : Cond.instanceMethod yX12_lawsTold ∈ wtbl := tb_in (i := 1582) (by decide +kernel) rfl
theorem mw_X12_lawsTold : MW yX12_lawsTold cX12_lawsTold 3 (some .int) 0 := ⟨tb_in (i := 13) (by decide +kernel) rfl, tb_in (i := 1583) (by decide +kernel) rfl, ⟨by decide, by decide⟩, by decide +kernel, by decide⟩
theorem se_X5_sum : Cond.selects RX5 yX5_sum yX5_sum ∈ wtbl := tb_ps (i := 0) (by decide +kernel) rfl
theorem se_X5_factor : Cond.selects RX5 yX5_factor yX5_factor ∈ wtbl := tb_ps (i := 1) (by decide +kernel) rfl
theorem se_X5_number : Cond.selects RX5 yX5_number yX5_number ∈ wtbl := tb_ps (i := 2) (by decide +kernel) rfl
theorem se_X5_condition : Cond.selects RX5 yX5_condition yX5_condition ∈ wtbl := tb_ps (i := 3) (by decide +kernel) rfl
theorem se_X5_piece : Cond.selects RX5 yX5_piece yX5_piece ∈ wtbl := tb_ps (i := 4) (by decide +kernel) rfl
theorem se_X7_offer : Cond.selects RX7 yX7_offer yX7_offer ∈ wtbl := tb_ps (i := 5) (by decide +kernel) rfl
theorem se_X7_settle : Cond.selects RX7 yX7_settle yX7_settle ∈ wtbl := tb_ps (i := 6) (by decide +kernel) rfl
theorem se_X7_pairOf : Cond.selects RX7 yX7_pairOf yX7_pairOf ∈ wtbl := tb_ps (i := 7) (by decide +kernel) rfl
theorem se_X4_run : Cond.selects RX4 yX4_run yX4_run ∈ wtbl := tb_ps (i := 8) (by decide +kernel) rfl
theorem se_X4_joined : Cond.selects RX4 yX4_joined yX4_joined ∈ wtbl := tb_ps (i := 9) (by decide +kernel) rfl
theorem se_X0_rank : Cond.selects RX0 yX0_rank yX0_rank ∈ wtbl := tb_ps (i := 10) (by decide +kernel) rfl
theorem se_X0_firstWithMost : Cond.selects RX0 yX0_firstWithMost yX0_firstWithMost ∈ wtbl := tb_ps (i := 11) (by decide +kernel) rfl
theorem se_X0_placeOf : Cond.selects RX0 yX0_placeOf yX0_placeOf ∈ wtbl := tb_ps (i := 12) (by decide +kernel) rfl
theorem se_X0_runoff : Cond.selects RX0 yX0_runoff yX0_runoff ∈ wtbl := tb_ps (i := 13) (by decide +kernel) rfl
theorem se_X0_votersFor : Cond.selects RX0 yX0_votersFor yX0_votersFor ∈ wtbl := tb_ps (i := 14) (by decide +kernel) rfl
theorem se_X0_withMostPoints : Cond.selects RX0 yX0_withMostPoints yX0_withMostPoints ∈ wtbl := tb_ps (i := 15) (by decide +kernel) rfl
theorem se_X0_aheadOfAll : Cond.selects RX0 yX0_aheadOfAll yX0_aheadOfAll ∈ wtbl := tb_ps (i := 16) (by decide +kernel) rfl
theorem se_X10_bestNext : Cond.selects RX10 yX10_bestNext yX10_bestNext ∈ wtbl := tb_ps (i := 17) (by decide +kernel) rfl
theorem se_X2_tellsAll : Cond.selects RX2 yX2_tellsAll yX2_tellsAll ∈ wtbl := tb_ps (i := 18) (by decide +kernel) rfl
theorem se_X6_either : Cond.selects RX6 yX6_either yX6_either ∈ wtbl := tb_ps (i := 19) (by decide +kernel) rfl
theorem se_X6_both : Cond.selects RX6 yX6_both yX6_both ∈ wtbl := tb_ps (i := 20) (by decide +kernel) rfl
theorem se_X6_single : Cond.selects RX6 yX6_single yX6_single ∈ wtbl := tb_ps (i := 21) (by decide +kernel) rfl
theorem se_X6_letter : Cond.selects RX6 yX6_letter yX6_letter ∈ wtbl := tb_ps (i := 22) (by decide +kernel) rfl
theorem se_X11_toldLaws : Cond.selects RX11 yX11_toldLaws yX11_toldLaws ∈ wtbl := tb_ps (i := 23) (by decide +kernel) rfl
theorem se_X12_changes : Cond.selects RX12 yX12_changes yX12_changes ∈ wtbl := tb_ps (i := 24) (by decide +kernel) rfl
theorem se_X12_push : Cond.selects RX12 yX12_push yX12_push ∈ wtbl := tb_ps (i := 25) (by decide +kernel) rfl
theorem se_X12_begins : Cond.selects RX12 yX12_begins yX12_begins ∈ wtbl := tb_ps (i := 26) (by decide +kernel) rfl
theorem se_X12_isGood : Cond.selects RX12 yX12_isGood yX12_isGood ∈ wtbl := tb_ps (i := 27) (by decide +kernel) rfl
theorem se_X12_clause : Cond.selects RX12 yX12_clause yX12_clause ∈ wtbl := tb_ps (i := 28) (by decide +kernel) rfl
theorem se_X12_here : Cond.selects RX12 yX12_here yX12_here ∈ wtbl := tb_ps (i := 29) (by decide +kernel) rfl
theorem se_X12_wrongs : Cond.selects RX12 yX12_wrongs yX12_wrongs ∈ wtbl := tb_ps (i := 30) (by decide +kernel) rfl
theorem se_X12_value : Cond.selects RX12 yX12_value yX12_value ∈ wtbl := tb_ps (i := 31) (by decide +kernel) rfl
theorem se_X12_factor : Cond.selects RX12 yX12_factor yX12_factor ∈ wtbl := tb_ps (i := 32) (by decide +kernel) rfl
theorem se_X12_opens : Cond.selects RX12 yX12_opens yX12_opens ∈ wtbl := tb_ps (i := 33) (by decide +kernel) rfl
theorem se_X12_puts : Cond.selects RX12 yX12_puts yX12_puts ∈ wtbl := tb_ps (i := 34) (by decide +kernel) rfl
theorem se_X12_seesDigit : Cond.selects RX12 yX12_seesDigit yX12_seesDigit ∈ wtbl := tb_ps (i := 35) (by decide +kernel) rfl
theorem se_X12_reads : Cond.selects RX12 yX12_reads yX12_reads ∈ wtbl := tb_ps (i := 36) (by decide +kernel) rfl
theorem se_X12_emit : Cond.selects RX12 yX12_emit yX12_emit ∈ wtbl := tb_ps (i := 37) (by decide +kernel) rfl
theorem se_X12_stays : Cond.selects RX12 yX12_stays yX12_stays ∈ wtbl := tb_ps (i := 38) (by decide +kernel) rfl
theorem se_X12_sums : Cond.selects RX12 yX12_sums yX12_sums ∈ wtbl := tb_ps (i := 39) (by decide +kernel) rfl
theorem se_X12_top : Cond.selects RX12 yX12_top yX12_top ∈ wtbl := tb_ps (i := 40) (by decide +kernel) rfl
theorem se_X12_condition : Cond.selects RX12 yX12_condition yX12_condition ∈ wtbl := tb_ps (i := 41) (by decide +kernel) rfl
theorem se_X12_pieceOfC : Cond.selects RX12 yX12_pieceOfC yX12_pieceOfC ∈ wtbl := tb_ps (i := 42) (by decide +kernel) rfl
theorem se_X12_ends : Cond.selects RX12 yX12_ends yX12_ends ∈ wtbl := tb_ps (i := 43) (by decide +kernel) rfl
theorem se_X12_goesBehind : Cond.selects RX12 yX12_goesBehind yX12_goesBehind ∈ wtbl := tb_ps (i := 44) (by decide +kernel) rfl
theorem se_X12_joins : Cond.selects RX12 yX12_joins yX12_joins ∈ wtbl := tb_ps (i := 45) (by decide +kernel) rfl
theorem se_X12_isTongue : Cond.selects RX12 yX12_isTongue yX12_isTongue ∈ wtbl := tb_ps (i := 46) (by decide +kernel) rfl
theorem se_X12_briefOf : Cond.selects RX12 yX12_briefOf yX12_briefOf ∈ wtbl := tb_ps (i := 47) (by decide +kernel) rfl
theorem se_X12_lays : Cond.selects RX12 yX12_lays yX12_lays ∈ wtbl := tb_ps (i := 48) (by decide +kernel) rfl
theorem se_X12_joinOf : Cond.selects RX12 yX12_joinOf yX12_joinOf ∈ wtbl := tb_ps (i := 49) (by decide +kernel) rfl
theorem se_X12_joinerOf : Cond.selects RX12 yX12_joinerOf yX12_joinerOf ∈ wtbl := tb_ps (i := 50) (by decide +kernel) rfl
theorem se_X12_shortens : Cond.selects RX12 yX12_shortens yX12_shortens ∈ wtbl := tb_ps (i := 51) (by decide +kernel) rfl
theorem se_X12_says : Cond.selects RX12 yX12_says yX12_says ∈ wtbl := tb_ps (i := 52) (by decide +kernel) rfl
theorem se_X12_findsPair : Cond.selects RX12 yX12_findsPair yX12_findsPair ∈ wtbl := tb_ps (i := 53) (by decide +kernel) rfl
theorem se_X12_sayableOf : Cond.selects RX12 yX12_sayableOf yX12_sayableOf ∈ wtbl := tb_ps (i := 54) (by decide +kernel) rfl
theorem se_X12_costOf : Cond.selects RX12 yX12_costOf yX12_costOf ∈ wtbl := tb_ps (i := 55) (by decide +kernel) rfl
theorem se_X12_works : Cond.selects RX12 yX12_works yX12_works ∈ wtbl := tb_ps (i := 56) (by decide +kernel) rfl
theorem se_X12_does : Cond.selects RX12 yX12_does yX12_does ∈ wtbl := tb_ps (i := 57) (by decide +kernel) rfl
theorem se_X12_valueOf : Cond.selects RX12 yX12_valueOf yX12_valueOf ∈ wtbl := tb_ps (i := 58) (by decide +kernel) rfl
theorem se_X12_talkOf : Cond.selects RX12 yX12_talkOf yX12_talkOf ∈ wtbl := tb_ps (i := 59) (by decide +kernel) rfl
theorem se_X12_talkBy : Cond.selects RX12 yX12_talkBy yX12_talkBy ∈ wtbl := tb_ps (i := 60) (by decide +kernel) rfl
theorem se_X12_talksBy : Cond.selects RX12 yX12_talksBy yX12_talksBy ∈ wtbl := tb_ps (i := 61) (by decide +kernel) rfl
theorem se_X12_mustsOf : Cond.selects RX12 yX12_mustsOf yX12_mustsOf ∈ wtbl := tb_ps (i := 62) (by decide +kernel) rfl
theorem se_X12_isUsed : Cond.selects RX12 yX12_isUsed yX12_isUsed ∈ wtbl := tb_ps (i := 63) (by decide +kernel) rfl
theorem se_X12_leastOf : Cond.selects RX12 yX12_leastOf yX12_leastOf ∈ wtbl := tb_ps (i := 64) (by decide +kernel) rfl
theorem se_X12_growsBy : Cond.selects RX12 yX12_growsBy yX12_growsBy ∈ wtbl := tb_ps (i := 65) (by decide +kernel) rfl
theorem se_X12_voters : Cond.selects RX12 yX12_voters yX12_voters ∈ wtbl := tb_ps (i := 66) (by decide +kernel) rfl
theorem se_X12_firstOf : Cond.selects RX12 yX12_firstOf yX12_firstOf ∈ wtbl := tb_ps (i := 67) (by decide +kernel) rfl
theorem se_X12_firstVotes : Cond.selects RX12 yX12_firstVotes yX12_firstVotes ∈ wtbl := tb_ps (i := 68) (by decide +kernel) rfl
theorem se_X12_behind : Cond.selects RX12 yX12_behind yX12_behind ∈ wtbl := tb_ps (i := 69) (by decide +kernel) rfl
theorem se_X12_isAhead : Cond.selects RX12 yX12_isAhead yX12_isAhead ∈ wtbl := tb_ps (i := 70) (by decide +kernel) rfl
theorem se_X12_byPoints : Cond.selects RX12 yX12_byPoints yX12_byPoints ∈ wtbl := tb_ps (i := 71) (by decide +kernel) rfl
theorem se_X12_aheadOfAll : Cond.selects RX12 yX12_aheadOfAll yX12_aheadOfAll ∈ wtbl := tb_ps (i := 72) (by decide +kernel) rfl
theorem se_X12_aheadVotes : Cond.selects RX12 yX12_aheadVotes yX12_aheadVotes ∈ wtbl := tb_ps (i := 73) (by decide +kernel) rfl
theorem se_X12_isOrder : Cond.selects RX12 yX12_isOrder yX12_isOrder ∈ wtbl := tb_ps (i := 74) (by decide +kernel) rfl
theorem se_X12_laysOrder : Cond.selects RX12 yX12_laysOrder yX12_laysOrder ∈ wtbl := tb_ps (i := 75) (by decide +kernel) rfl
theorem se_X12_isMeant : Cond.selects RX12 yX12_isMeant yX12_isMeant ∈ wtbl := tb_ps (i := 76) (by decide +kernel) rfl
theorem se_X12_leadsTo : Cond.selects RX12 yX12_leadsTo yX12_leadsTo ∈ wtbl := tb_ps (i := 77) (by decide +kernel) rfl
theorem se_X12_wordsFor : Cond.selects RX12 yX12_wordsFor yX12_wordsFor ∈ wtbl := tb_ps (i := 78) (by decide +kernel) rfl
theorem se_X12_tellsAll : Cond.selects RX12 yX12_tellsAll yX12_tellsAll ∈ wtbl := tb_ps (i := 79) (by decide +kernel) rfl
theorem se_X12_readsD : Cond.selects RX12 yX12_readsD yX12_readsD ∈ wtbl := tb_ps (i := 80) (by decide +kernel) rfl
theorem se_X12_endsD : Cond.selects RX12 yX12_endsD yX12_endsD ∈ wtbl := tb_ps (i := 81) (by decide +kernel) rfl
theorem se_X12_followsD : Cond.selects RX12 yX12_followsD yX12_followsD ∈ wtbl := tb_ps (i := 82) (by decide +kernel) rfl
theorem se_X12_joinsValues : Cond.selects RX12 yX12_joinsValues yX12_joinsValues ∈ wtbl := tb_ps (i := 83) (by decide +kernel) rfl
theorem se_X12_lawLength : Cond.selects RX12 yX12_lawLength yX12_lawLength ∈ wtbl := tb_ps (i := 84) (by decide +kernel) rfl
theorem se_X12_talkWith : Cond.selects RX12 yX12_talkWith yX12_talkWith ∈ wtbl := tb_ps (i := 85) (by decide +kernel) rfl
theorem se_X12_numberAt : Cond.selects RX12 yX12_numberAt yX12_numberAt ∈ wtbl := tb_ps (i := 86) (by decide +kernel) rfl
theorem se_X12_lawsTold : Cond.selects RX12 yX12_lawsTold yX12_lawsTold ∈ wtbl := tb_ps (i := 87) (by decide +kernel) rfl
