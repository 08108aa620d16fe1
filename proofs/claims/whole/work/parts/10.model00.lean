theorem iu_10 : ∀ w ∈ u_ws RX12 TX12 53, w ∈ lw_tbl ∧ goodWord w = true := k_inU _ [1149, 1151, 1153, 1155, 1157, 1159, 1161, 1163, 1165, 1167, 1169, 1171, 1173, 1175, 1177, 1179, 1181, 1183, 1185, 1187, 1189, 1191, 1193, 1195, 1197, 1199, 1201, 1203, 1205, 1207, 1209, 1211, 1213, 1215, 1217, 1219, 1221, 1223, 1225, 1227, 1229, 1231, 1233, 1235, 1237, 1239, 1241, 1243, 1245, 1247, 1249, 1251, 1253] (by decide +kernel) (by decide +kernel)
theorem tb_10 : k_tbs 10 := fun r hr => by cases hr; exact ⟨⟨tyX12, tyX12_ok⟩, nmX12⟩
theorem fl_RX12_103 : k_FL RX12 103 10 2 := ⟨(RX12, TX12, 53), "WheelCityModel", rfl, by decide, iu_10, Or.inl (List.mem_of_getElem? (i := 1098) (by decide +kernel)), Or.inl rfl⟩
theorem fl_RX12_110 : k_FL RX12 110 10 12 := ⟨(RX12, TX12, 53), "WheelCityModel", rfl, by decide, iu_10, Or.inl (List.mem_of_getElem? (i := 1108) (by decide +kernel)), Or.inl rfl⟩
theorem fl_RX12_115 : k_FL RX12 115 10 15 := ⟨(RX12, TX12, 53), "WheelCityModel", rfl, by decide, iu_10, Or.inl (List.mem_of_getElem? (i := 1111) (by decide +kernel)), Or.inl rfl⟩
theorem fl_RX12_118 : k_FL RX12 118 10 14 := ⟨(RX12, TX12, 53), "WheelCityModel", rfl, by decide, iu_10, Or.inl (List.mem_of_getElem? (i := 1110) (by decide +kernel)), Or.inl rfl⟩
theorem fl_RX12_13 : k_FL RX12 13 10 3 := ⟨(RX12, TX12, 53), "WheelCityModel", rfl, by decide, iu_10, Or.inl (List.mem_of_getElem? (i := 1099) (by decide +kernel)), Or.inl rfl⟩
theorem fl_RX12_132 : k_FL RX12 132 10 13 := ⟨(RX12, TX12, 53), "WheelCityModel", rfl, by decide, iu_10, Or.inl (List.mem_of_getElem? (i := 1109) (by decide +kernel)), Or.inl rfl⟩
theorem fl_RX12_135 : k_FL RX12 135 10 16 := ⟨(RX12, TX12, 53), "WheelCityModel", rfl, by decide, iu_10, Or.inl (List.mem_of_getElem? (i := 1112) (by decide +kernel)), Or.inl rfl⟩
theorem fl_RX12_139 : k_FL RX12 139 10 17 := ⟨(RX12, TX12, 53), "WheelCityModel", rfl, by decide, iu_10, Or.inl (List.mem_of_getElem? (i := 1113) (by decide +kernel)), Or.inl rfl⟩
theorem fl_RX12_164 : k_FL RX12 164 10 18 := ⟨(RX12, TX12, 53), "WheelCityModel", rfl, by decide, iu_10, Or.inl (List.mem_of_getElem? (i := 1114) (by decide +kernel)), Or.inl rfl⟩
theorem fl_RX12_175 : k_FL RX12 175 10 19 := ⟨(RX12, TX12, 53), "WheelCityModel", rfl, by decide, iu_10, Or.inl (List.mem_of_getElem? (i := 1115) (by decide +kernel)), Or.inl rfl⟩
theorem fl_RX12_187 : k_FL RX12 187 10 20 := ⟨(RX12, TX12, 53), "WheelCityModel", rfl, by decide, iu_10, Or.inl (List.mem_of_getElem? (i := 1116) (by decide +kernel)), Or.inl rfl⟩
theorem fl_RX12_25 : k_FL RX12 25 10 10 := ⟨(RX12, TX12, 53), "WheelCityModel", rfl, by decide, iu_10, Or.inl (List.mem_of_getElem? (i := 1106) (by decide +kernel)), Or.inl rfl⟩
theorem fl_RX12_28 : k_FL RX12 28 10 11 := ⟨(RX12, TX12, 53), "WheelCityModel", rfl, by decide, iu_10, Or.inl (List.mem_of_getElem? (i := 1107) (by decide +kernel)), Or.inl rfl⟩
theorem fl_RX12_31 : k_FL RX12 31 10 21 := ⟨(RX12, TX12, 53), "WheelCityModel", rfl, by decide, iu_10, Or.inl (List.mem_of_getElem? (i := 1117) (by decide +kernel)), Or.inl rfl⟩
theorem fl_RX12_34 : k_FL RX12 34 10 22 := ⟨(RX12, TX12, 53), "WheelCityModel", rfl, by decide, iu_10, Or.inl (List.mem_of_getElem? (i := 1118) (by decide +kernel)), Or.inl rfl⟩
theorem fl_RX12_37 : k_FL RX12 37 10 23 := ⟨(RX12, TX12, 53), "WheelCityModel", rfl, by decide, iu_10, Or.inl (List.mem_of_getElem? (i := 1119) (by decide +kernel)), Or.inl rfl⟩
theorem fl_RX12_7 : k_FL RX12 7 10 1 := ⟨(RX12, TX12, 53), "WheelCityModel", rfl, by decide, iu_10, Or.inl (List.mem_of_getElem? (i := 1097) (by decide +kernel)), Or.inl rfl⟩
theorem fl_RX12_95 : k_FL RX12 95 10 0 := ⟨(RX12, TX12, 53), "WheelCityModel", rfl, by decide, iu_10, Or.inl (List.mem_of_getElem? (i := 1096) (by decide +kernel)), Or.inl rfl⟩
theorem pt_10_12 : k_cls 10 12 .int := fun r hr => by cases hr; exact ⟨rfl, by decide +kernel⟩
theorem pt_10_13 : k_cls 10 13 .int := fun r hr => by cases hr; exact ⟨rfl, by decide +kernel⟩
theorem pt_10_14 : k_cls 10 14 .int := fun r hr => by cases hr; exact ⟨rfl, by decide +kernel⟩
theorem pt_10_15 : k_cls 10 15 .int := fun r hr => by cases hr; exact ⟨rfl, by decide +kernel⟩
theorem pt_10_16 : k_cls 10 16 .long := fun r hr => by cases hr; exact ⟨rfl, by decide +kernel⟩
theorem pt_10_17 : k_cls 10 17 .int := fun r hr => by cases hr; exact ⟨rfl, by decide +kernel⟩
theorem pt_10_18 : k_cls 10 18 .boolean := fun r hr => by cases hr; exact ⟨rfl, by decide +kernel⟩
theorem pt_10_19 : k_cls 10 19 .int := fun r hr => by cases hr; exact ⟨rfl, by decide +kernel⟩
theorem pt_10_20 : k_cls 10 20 .int := fun r hr => by cases hr; exact ⟨rfl, by decide +kernel⟩
theorem cy_X12_advance : k_cy yX12_advance cX12_advance 2 none 0 := ⟨List.mem_of_getElem? (i := 1271) (by decide +kernel), List.mem_of_getElem? (i := 112) (by decide +kernel), ⟨by decide +kernel, by decide +kernel⟩, by decide +kernel⟩
theorem cy_X12_byteAt : k_cy yX12_byteAt cX12_byteAt 2 (some .int) 1 := ⟨List.mem_of_getElem? (i := 1275) (by decide +kernel), List.mem_of_getElem? (i := 112) (by decide +kernel), ⟨by decide +kernel, by decide +kernel⟩, by decide +kernel⟩
theorem cy_X12_in : k_cy yX12_in cX12_in 3 (some .boolean) 3 := ⟨List.mem_of_getElem? (i := 1262) (by decide +kernel), List.mem_of_getElem? (i := 112) (by decide +kernel), ⟨by decide +kernel, by decide +kernel⟩, by decide +kernel⟩
theorem cy_X12_isDigit : k_cy yX12_isDigit cX12_isDigit 1 (some .boolean) 1 := ⟨List.mem_of_getElem? (i := 1281) (by decide +kernel), List.mem_of_getElem? (i := 112) (by decide +kernel), ⟨by decide +kernel, by decide +kernel⟩, by decide +kernel⟩
theorem cy_X12_isEndless : k_cy yX12_isEndless cX12_isEndless 1 (some .boolean) 1 := ⟨List.mem_of_getElem? (i := 1309) (by decide +kernel), List.mem_of_getElem? (i := 112) (by decide +kernel), ⟨by decide +kernel, by decide +kernel⟩, by decide +kernel⟩
theorem cy_X12_isLetter : k_cy yX12_isLetter cX12_isLetter 1 (some .boolean) 1 := ⟨List.mem_of_getElem? (i := 1278) (by decide +kernel), List.mem_of_getElem? (i := 112) (by decide +kernel), ⟨by decide +kernel, by decide +kernel⟩, by decide +kernel⟩
theorem cy_X12_isWord : k_cy yX12_isWord cX12_isWord 3 (some .boolean) 1 := ⟨List.mem_of_getElem? (i := 1293) (by decide +kernel), List.mem_of_getElem? (i := 112) (by decide +kernel), ⟨by decide +kernel, by decide +kernel⟩, by decide +kernel⟩
theorem cy_X12_its : k_cy yX12_its cX12_its 3 (some .int) 2 := ⟨List.mem_of_getElem? (i := 1332) (by decide +kernel), List.mem_of_getElem? (i := 112) (by decide +kernel), ⟨by decide +kernel, by decide +kernel⟩, by decide +kernel⟩
theorem cy_X12_kindHere : k_cy yX12_kindHere cX12_kindHere 1 (some .int) 0 := ⟨List.mem_of_getElem? (i := 1288) (by decide +kernel), List.mem_of_getElem? (i := 112) (by decide +kernel), ⟨by decide +kernel, by decide +kernel⟩, by decide +kernel⟩
theorem cy_X12_wantEnd : k_cy yX12_wantEnd cX12_wantEnd 1 none 0 := ⟨List.mem_of_getElem? (i := 1313) (by decide +kernel), List.mem_of_getElem? (i := 112) (by decide +kernel), ⟨by decide +kernel, by decide +kernel⟩, by decide +kernel⟩
theorem cy_X12_wantNumber : k_cy yX12_wantNumber cX12_wantNumber 4 (some .int) 2 := ⟨List.mem_of_getElem? (i := 1306) (by decide +kernel), List.mem_of_getElem? (i := 112) (by decide +kernel), ⟨by decide +kernel, by decide +kernel⟩, by decide +kernel⟩
theorem cy_X12_wantOne : k_cy yX12_wantOne cX12_wantOne 2 (some .int) 1 := ⟨List.mem_of_getElem? (i := 1322) (by decide +kernel), List.mem_of_getElem? (i := 112) (by decide +kernel), ⟨by decide +kernel, by decide +kernel⟩, by decide +kernel⟩
theorem cy_X12_wayIts : k_cy yX12_wayIts cX12_wayIts 3 (some .int) 2 := ⟨List.mem_of_getElem? (i := 1336) (by decide +kernel), List.mem_of_getElem? (i := 112) (by decide +kernel), ⟨by decide +kernel, by decide +kernel⟩, by decide +kernel⟩
theorem lk_RX12_99 : k_lk RX12 99 yX12_in := Or.inl (List.mem_of_getElem? (i := 1260) (by decide +kernel))
theorem lk_RX12_106 : k_lk RX12 106 yX12_wayIts := Or.inl (List.mem_of_getElem? (i := 1333) (by decide +kernel))
theorem lk_RX12_121 : k_lk RX12 121 yX12_byteAt := Or.inl (List.mem_of_getElem? (i := 1272) (by decide +kernel))
theorem lk_RX12_125 : k_lk RX12 125 yX12_isLetter := Or.inl (List.mem_of_getElem? (i := 1276) (by decide +kernel))
theorem lk_RX12_129 : k_lk RX12 129 yX12_isDigit := Or.inl (List.mem_of_getElem? (i := 1279) (by decide +kernel))
theorem lk_RX12_150 : k_lk RX12 150 yX12_isWord := Or.inl (List.mem_of_getElem? (i := 1290) (by decide +kernel))
theorem lk_RX12_168 : k_lk RX12 168 yX12_advance := Or.inl (List.mem_of_getElem? (i := 1268) (by decide +kernel))
theorem lk_RX12_171 : k_lk RX12 171 yX12_kindHere := Or.inl (List.mem_of_getElem? (i := 1285) (by decide +kernel))
theorem lk_RX12_178 : k_lk RX12 178 yX12_wantNumber := Or.inl (List.mem_of_getElem? (i := 1303) (by decide +kernel))
theorem lk_RX12_181 : k_lk RX12 181 yX12_isEndless := Or.inl (List.mem_of_getElem? (i := 1307) (by decide +kernel))
theorem lk_RX12_184 : k_lk RX12 184 yX12_wantEnd := Or.inl (List.mem_of_getElem? (i := 1310) (by decide +kernel))
theorem lk_RX12_190 : k_lk RX12 190 yX12_wantOne := Or.inl (List.mem_of_getElem? (i := 1319) (by decide +kernel))
theorem lk_RX12_214 : k_lk RX12 214 yX12_its := Or.inl (List.mem_of_getElem? (i := 1329) (by decide +kernel))
theorem im_X12_advance : Cond.instanceMethod yX12_advance ∈ lw_tbl := List.mem_of_getElem? (i := 1270) (by decide +kernel)
theorem im_X12_byteAt : Cond.instanceMethod yX12_byteAt ∈ lw_tbl := List.mem_of_getElem? (i := 1274) (by decide +kernel)
theorem im_X12_isWord : Cond.instanceMethod yX12_isWord ∈ lw_tbl := List.mem_of_getElem? (i := 1292) (by decide +kernel)
theorem im_X12_its : Cond.instanceMethod yX12_its ∈ lw_tbl := List.mem_of_getElem? (i := 1331) (by decide +kernel)
theorem im_X12_kindHere : Cond.instanceMethod yX12_kindHere ∈ lw_tbl := List.mem_of_getElem? (i := 1287) (by decide +kernel)
theorem im_X12_wantEnd : Cond.instanceMethod yX12_wantEnd ∈ lw_tbl := List.mem_of_getElem? (i := 1312) (by decide +kernel)
theorem im_X12_wantNumber : Cond.instanceMethod yX12_wantNumber ∈ lw_tbl := List.mem_of_getElem? (i := 1305) (by decide +kernel)
theorem im_X12_wantOne : Cond.instanceMethod yX12_wantOne ∈ lw_tbl := List.mem_of_getElem? (i := 1321) (by decide +kernel)
theorem im_X12_wayIts : Cond.instanceMethod yX12_wayIts ∈ lw_tbl := List.mem_of_getElem? (i := 1335) (by decide +kernel)
theorem se_X12_advance : Cond.selects yX12_advance.cls yX12_advance yX12_advance ∈ lw_tbl := List.mem_of_getElem? (i := 54) (by decide +kernel)
theorem se_X12_byteAt : Cond.selects yX12_byteAt.cls yX12_byteAt yX12_byteAt ∈ lw_tbl := List.mem_of_getElem? (i := 55) (by decide +kernel)
theorem se_X12_isWord : Cond.selects yX12_isWord.cls yX12_isWord yX12_isWord ∈ lw_tbl := List.mem_of_getElem? (i := 57) (by decide +kernel)
theorem se_X12_its : Cond.selects yX12_its.cls yX12_its yX12_its ∈ lw_tbl := List.mem_of_getElem? (i := 64) (by decide +kernel)
theorem se_X12_kindHere : Cond.selects yX12_kindHere.cls yX12_kindHere yX12_kindHere ∈ lw_tbl := List.mem_of_getElem? (i := 56) (by decide +kernel)
theorem se_X12_wantEnd : Cond.selects yX12_wantEnd.cls yX12_wantEnd yX12_wantEnd ∈ lw_tbl := List.mem_of_getElem? (i := 60) (by decide +kernel)
theorem se_X12_wantNumber : Cond.selects yX12_wantNumber.cls yX12_wantNumber yX12_wantNumber ∈ lw_tbl := List.mem_of_getElem? (i := 59) (by decide +kernel)
theorem se_X12_wantOne : Cond.selects yX12_wantOne.cls yX12_wantOne yX12_wantOne ∈ lw_tbl := List.mem_of_getElem? (i := 62) (by decide +kernel)
theorem se_X12_wayIts : Cond.selects yX12_wayIts.cls yX12_wayIts yX12_wayIts ∈ lw_tbl := List.mem_of_getElem? (i := 65) (by decide +kernel)
theorem stt_X12_in : Cond.static yX12_in ∈ lw_tbl := List.mem_of_getElem? (i := 1261) (by decide +kernel)
theorem stt_X12_isDigit : Cond.static yX12_isDigit ∈ lw_tbl := List.mem_of_getElem? (i := 1280) (by decide +kernel)
theorem stt_X12_isEndless : Cond.static yX12_isEndless ∈ lw_tbl := List.mem_of_getElem? (i := 1308) (by decide +kernel)
theorem stt_X12_isLetter : Cond.static yX12_isLetter ∈ lw_tbl := List.mem_of_getElem? (i := 1277) (by decide +kernel)
theorem ct_RX12_113 : Cond.constantLong RX12 113 255 ∈ lw_tbl := List.mem_of_getElem? (i := 1263) (by decide +kernel)
theorem ct_RX12_142 : Cond.constantLong RX12 142 27 ∈ lw_tbl := List.mem_of_getElem? (i := 1282) (by decide +kernel)
theorem ct_RX12_144 : Cond.constantLong RX12 144 96 ∈ lw_tbl := List.mem_of_getElem? (i := 1283) (by decide +kernel)
theorem ct_RX12_146 : Cond.constantLong RX12 146 (-1) ∈ lw_tbl := List.mem_of_getElem? (i := 1284) (by decide +kernel)
theorem ct_RX12_148 : Cond.constantLong RX12 148 8740067 ∈ lw_tbl := List.mem_of_getElem? (i := 1289) (by decide +kernel)
theorem ct_RX12_154 : Cond.constantLong RX12 154 456690 ∈ lw_tbl := List.mem_of_getElem? (i := 1294) (by decide +kernel)
theorem ct_RX12_156 : Cond.constantLong RX12 156 262823 ∈ lw_tbl := List.mem_of_getElem? (i := 1295) (by decide +kernel)
theorem ct_RX12_158 : Cond.constantLong RX12 158 189216023 ∈ lw_tbl := List.mem_of_getElem? (i := 1296) (by decide +kernel)
theorem ct_RX12_160 : Cond.constantLong RX12 160 281493529 ∈ lw_tbl := List.mem_of_getElem? (i := 1297) (by decide +kernel)
theorem ct_RX12_162 : Cond.constantLong RX12 162 11927 ∈ lw_tbl := List.mem_of_getElem? (i := 1298) (by decide +kernel)
theorem ct_RX12_193 : Cond.constantLong RX12 193 257 ∈ lw_tbl := List.mem_of_getElem? (i := 1323) (by decide +kernel)
theorem ct_RX12_195 : Cond.constantLong RX12 195 1111 ∈ lw_tbl := List.mem_of_getElem? (i := 1324) (by decide +kernel)
theorem dt_X12_in_0 : k_dec cX12_in [(0, .iload_n 0, 1), (1, .iload_n 1, 1), (2, .if_icmp .lt 12, 3), (5, .iload_n 0, 1), (6, .iload_n 2, 1), (7, .if_icmp .gt 7, 3), (10, .iconst 1, 1), (11, .goto 4, 3), (14, .iconst 0, 1), (15, .ireturn, 1)] = true := by decide +kernel
def f_X12_in (p1 : Int32) (p2 : Int32) (p3 : Int32) (M : k_M) : Option (Int32 × k_M) := if p1 < p2 then some (0, M) else if p3 < p1 then some (0, M) else some (1, M)
theorem m_X12_in_0 {Z : k_Z} {G : k_G} (C : k_C Z G RX12 cX12_in (true, 3, 1, 0, 0) (some .boolean) "in") (p1 : Int32) (p2 : Int32) (p3 : Int32) (M : k_M) : Sm Z G emI (true, 3, 1, 0, 0) (0, 0) 0 [(0, Value.int p1), (1, Value.int p2), (2, Value.int p3)] [] M (f_X12_in p1 p2 p3 M) := by
  show Sm Z G emI _ _ _ _ _ _ (if p1 < p2 then some (0, M) else if p3 < p1 then some (0, M) else some (1, M))
  refine x_iload_n C (k_dg dt_X12_in_0 0 0 (.iload_n 0) 1 rfl) 0 rfl ?_
  refine x_iload_n C (k_dg dt_X12_in_0 1 1 (.iload_n 1) 1 rfl) 1 rfl ?_
  refine x_icmp_lt C (tgt := 14) (k_dg dt_X12_in_0 2 2 (.if_icmp .lt 12) 3 rfl) (by decide) (fun _ => ?_) (fun _ => ?_)
  · refine x_iconst C (v := 0) (k_dg dt_X12_in_0 8 14 (.iconst 0) 1 rfl) (by decide) ?_
    exact x_zret C (by decide) (by decide) rfl (k_dg dt_X12_in_0 9 15 (.ireturn) 1 rfl)
  · refine x_iload_n C (k_dg dt_X12_in_0 3 5 (.iload_n 0) 1 rfl) 0 rfl ?_
    refine x_iload_n C (k_dg dt_X12_in_0 4 6 (.iload_n 2) 1 rfl) 2 rfl ?_
    refine x_icmp_gt C (tgt := 14) (k_dg dt_X12_in_0 5 7 (.if_icmp .gt 7) 3 rfl) (by decide) (fun _ => ?_) (fun _ => ?_)
    · refine x_iconst C (v := 0) (k_dg dt_X12_in_0 8 14 (.iconst 0) 1 rfl) (by decide) ?_
      exact x_zret C (by decide) (by decide) rfl (k_dg dt_X12_in_0 9 15 (.ireturn) 1 rfl)
    · refine x_iconst C (v := 1) (k_dg dt_X12_in_0 6 10 (.iconst 1) 1 rfl) (by decide) ?_
      refine x_goto C (tgt := 15) (k_dg dt_X12_in_0 7 11 (.goto 4) 3 rfl) (by decide) ?_
      exact x_zret C (by decide) (by decide) rfl (k_dg dt_X12_in_0 9 15 (.ireturn) 1 rfl)
theorem c_X12_in {Z : k_Z} (hg : k_Gd Z) (l : Launch) (p1 : Int32) (p2 : Int32) (p3 : Int32) (M : k_M) : Con true Z l yX12_in cX12_in 3 (some .boolean) 1 0 0 emI [Value.int p1, Value.int p2, Value.int p3] M (f_X12_in p1 p2 p3 M) := k_con hg (by decide) (Nat.le_of_ble_eq_true rfl) (fun G hl C => m_X12_in_0 C p1 p2 p3 M)
theorem dt_X12_isPlace_0 : k_dec cX12_isPlace [(0, .iload_n 1, 1), (1, .iconst 0, 1), (2, .aload_n 0, 1), (3, .getfield 95, 3), (6, .iconst 1, 1), (7, .isub, 1), (8, .invokestatic 99, 3), (11, .ireturn, 1)] = true := by decide +kernel
def f_X12_isPlace (p1 : Int32) (M : k_M) : Option (Int32 × k_M) := bd (f_X12_in p1 0 ((M.1 76 0) - 1) M) (fun r1 M2 => ckZ r1 (some (r1, M2)))
theorem m_X12_isPlace_0 {Z : k_Z} {G : k_G} (C : k_C Z G RX12 cX12_isPlace (true, 2, 2, 0, 0) (some .boolean) "isPlace") (p1 : Int32) (M : k_M) : Sm Z G emI (true, 2, 2, 0, 0) (0, 0) 0 [(0, k_ra Z 76), (1, Value.int p1)] [] M (f_X12_isPlace p1 M) := by
  show Sm Z G emI _ _ _ _ _ _ (bd (f_X12_in p1 0 ((M.1 76 0) - 1) M) (fun r1 M2 => ckZ r1 (some (r1, M2))))
  refine x_iload_n C (k_dg dt_X12_isPlace_0 0 0 (.iload_n 1) 1 rfl) 1 rfl ?_
  refine x_iconst C (v := 0) (k_dg dt_X12_isPlace_0 1 1 (.iconst 0) 1 rfl) (by decide) ?_
  refine x_aload_n C (k_dg dt_X12_isPlace_0 2 2 (.aload_n 0) 1 rfl) 0 rfl ?_
  refine x_getI C (a := 76) (j := 0) rfl rfl (by decide) fl_RX12_95 rfl (k_dg dt_X12_isPlace_0 3 3 (.getfield 95) 3 rfl) ?_
  refine x_iconst C (v := 1) (k_dg dt_X12_isPlace_0 4 6 (.iconst 1) 1 rfl) (by decide) ?_
  refine x_isub C (k_dg dt_X12_isPlace_0 5 7 (.isub) 1 rfl) ?_
  refine x_callS C (vs := [Value.int p1, Value.int 0, Value.int ((M.1 76 0) - 1)]) (rest := []) (c_X12_in C.2.2.2.2.2.2.2.2.2 G.2.1 p1 0 ((M.1 76 0) - 1) M) cy_X12_in lk_RX12_99 stt_X12_in (by decide) (by decide) (by decide) (by decide) rfl rfl (Nat.le_of_ble_eq_true rfl) (k_dg dt_X12_isPlace_0 6 8 (.invokestatic 99) 3 rfl) (fun r1 M2 => ?_)
  show Sm Z G _ _ _ _ [(0, k_ra Z 76), (1, Value.int p1)] [Value.int r1] _ _
  refine x_ckZ (fun h3 => ?_)
  exact x_zret C (by decide) (by decide) (k_nz h3) (k_dg dt_X12_isPlace_0 7 11 (.ireturn) 1 rfl)
theorem c_X12_isPlace {Z : k_Z} (hg : k_Gd Z) (l : Launch) (p1 : Int32) (M : k_M) : Con true Z l yX12_isPlace cX12_isPlace 2 (some .boolean) 2 0 0 emI [k_ra Z 76, Value.int p1] M (f_X12_isPlace p1 M) := k_con hg (by decide) (Nat.le_of_ble_eq_true rfl) (fun G hl C => m_X12_isPlace_0 C p1 M)
theorem dt_X12_isWay_0 : k_dec cX12_isWay [(0, .iload_n 1, 1), (1, .iconst 0, 1), (2, .aload_n 0, 1), (3, .getfield 103, 3), (6, .iconst 1, 1), (7, .isub, 1), (8, .invokestatic 99, 3), (11, .ireturn, 1)] = true := by decide +kernel
def f_X12_isWay (p1 : Int32) (M : k_M) : Option (Int32 × k_M) := bd (f_X12_in p1 0 ((M.1 76 2) - 1) M) (fun r1 M2 => ckZ r1 (some (r1, M2)))
theorem m_X12_isWay_0 {Z : k_Z} {G : k_G} (C : k_C Z G RX12 cX12_isWay (true, 2, 2, 0, 0) (some .boolean) "isWay") (p1 : Int32) (M : k_M) : Sm Z G emI (true, 2, 2, 0, 0) (0, 0) 0 [(0, k_ra Z 76), (1, Value.int p1)] [] M (f_X12_isWay p1 M) := by
  show Sm Z G emI _ _ _ _ _ _ (bd (f_X12_in p1 0 ((M.1 76 2) - 1) M) (fun r1 M2 => ckZ r1 (some (r1, M2))))
  refine x_iload_n C (k_dg dt_X12_isWay_0 0 0 (.iload_n 1) 1 rfl) 1 rfl ?_
  refine x_iconst C (v := 0) (k_dg dt_X12_isWay_0 1 1 (.iconst 0) 1 rfl) (by decide) ?_
  refine x_aload_n C (k_dg dt_X12_isWay_0 2 2 (.aload_n 0) 1 rfl) 0 rfl ?_
  refine x_getI C (a := 76) (j := 2) rfl rfl (by decide) fl_RX12_103 rfl (k_dg dt_X12_isWay_0 3 3 (.getfield 103) 3 rfl) ?_
  refine x_iconst C (v := 1) (k_dg dt_X12_isWay_0 4 6 (.iconst 1) 1 rfl) (by decide) ?_
  refine x_isub C (k_dg dt_X12_isWay_0 5 7 (.isub) 1 rfl) ?_
  refine x_callS C (vs := [Value.int p1, Value.int 0, Value.int ((M.1 76 2) - 1)]) (rest := []) (c_X12_in C.2.2.2.2.2.2.2.2.2 G.2.1 p1 0 ((M.1 76 2) - 1) M) cy_X12_in lk_RX12_99 stt_X12_in (by decide) (by decide) (by decide) (by decide) rfl rfl (Nat.le_of_ble_eq_true rfl) (k_dg dt_X12_isWay_0 6 8 (.invokestatic 99) 3 rfl) (fun r1 M2 => ?_)
  show Sm Z G _ _ _ _ [(0, k_ra Z 76), (1, Value.int p1)] [Value.int r1] _ _
  refine x_ckZ (fun h3 => ?_)
  exact x_zret C (by decide) (by decide) (k_nz h3) (k_dg dt_X12_isWay_0 7 11 (.ireturn) 1 rfl)
theorem c_X12_isWay {Z : k_Z} (hg : k_Gd Z) (l : Launch) (p1 : Int32) (M : k_M) : Con true Z l yX12_isWay cX12_isWay 2 (some .boolean) 2 0 0 emI [k_ra Z 76, Value.int p1] M (f_X12_isWay p1 M) := k_con hg (by decide) (Nat.le_of_ble_eq_true rfl) (fun G hl C => m_X12_isWay_0 C p1 M)
theorem dt_X12_isSide_0 : k_dec cX12_isSide [(0, .iload_n 0, 1), (1, .iconst 0, 1), (2, .iconst 1, 1), (3, .invokestatic 99, 3), (6, .ireturn, 1)] = true := by decide +kernel
def f_X12_isSide (p1 : Int32) (M : k_M) : Option (Int32 × k_M) := bd (f_X12_in p1 0 1 M) (fun r1 M2 => ckZ r1 (some (r1, M2)))
theorem m_X12_isSide_0 {Z : k_Z} {G : k_G} (C : k_C Z G RX12 cX12_isSide (true, 1, 2, 0, 0) (some .boolean) "isSide") (p1 : Int32) (M : k_M) : Sm Z G emI (true, 1, 2, 0, 0) (0, 0) 0 [(0, Value.int p1)] [] M (f_X12_isSide p1 M) := by
  show Sm Z G emI _ _ _ _ _ _ (bd (f_X12_in p1 0 1 M) (fun r1 M2 => ckZ r1 (some (r1, M2))))
  refine x_iload_n C (k_dg dt_X12_isSide_0 0 0 (.iload_n 0) 1 rfl) 0 rfl ?_
  refine x_iconst C (v := 0) (k_dg dt_X12_isSide_0 1 1 (.iconst 0) 1 rfl) (by decide) ?_
  refine x_iconst C (v := 1) (k_dg dt_X12_isSide_0 2 2 (.iconst 1) 1 rfl) (by decide) ?_
  refine x_callS C (vs := [Value.int p1, Value.int 0, Value.int 1]) (rest := []) (c_X12_in C.2.2.2.2.2.2.2.2.2 G.2.1 p1 0 1 M) cy_X12_in lk_RX12_99 stt_X12_in (by decide) (by decide) (by decide) (by decide) rfl rfl (Nat.le_of_ble_eq_true rfl) (k_dg dt_X12_isSide_0 3 3 (.invokestatic 99) 3 rfl) (fun r1 M2 => ?_)
  show Sm Z G _ _ _ _ [(0, Value.int p1)] [Value.int r1] _ _
  refine x_ckZ (fun h3 => ?_)
  exact x_zret C (by decide) (by decide) (k_nz h3) (k_dg dt_X12_isSide_0 4 6 (.ireturn) 1 rfl)
theorem c_X12_isSide {Z : k_Z} (hg : k_Gd Z) (l : Launch) (p1 : Int32) (M : k_M) : Con true Z l yX12_isSide cX12_isSide 1 (some .boolean) 2 0 0 emI [Value.int p1] M (f_X12_isSide p1 M) := k_con hg (by decide) (Nat.le_of_ble_eq_true rfl) (fun G hl C => m_X12_isSide_0 C p1 M)
theorem dt_X12_its_0 : k_dec cX12_its [(0, .aload_n 0, 1), (1, .getfield 7, 3), (4, .iconst 3, 1), (5, .iload_n 1, 1), (6, .imul, 1), (7, .iload_n 2, 1), (8, .iadd, 1), (9, .iaload, 1), (10, .ireturn, 1)] = true := by decide +kernel
def f_X12_its (p1 : Int32) (p2 : Int32) (M : k_M) : Option (Int32 × k_M) := rdI M 77 24 ((3 * p1) + p2) (fun v1 => some (v1, M))
theorem m_X12_its_0 {Z : k_Z} {G : k_G} (C : k_C Z G RX12 cX12_its (true, 3, 1, 0, 0) (some .int) "its") (p1 : Int32) (p2 : Int32) (M : k_M) : Sm Z G emI (true, 3, 1, 0, 0) (0, 0) 0 [(0, k_ra Z 76), (1, Value.int p1), (2, Value.int p2)] [] M (f_X12_its p1 p2 M) := by
  show Sm Z G emI _ _ _ _ _ _ (rdI M 77 24 ((3 * p1) + p2) (fun v1 => some (v1, M)))
  refine x_aload_n C (k_dg dt_X12_its_0 0 0 (.aload_n 0) 1 rfl) 0 rfl ?_
  refine x_getR C (a := 76) (j := 1) 77 rfl rfl (by decide) fl_RX12_7 rfl rfl rfl (k_dg dt_X12_its_0 1 1 (.getfield 7) 3 rfl) ?_
  refine x_iconst C (v := 3) (k_dg dt_X12_its_0 2 4 (.iconst 3) 1 rfl) (by decide) ?_
  refine x_iload_n C (k_dg dt_X12_its_0 3 5 (.iload_n 1) 1 rfl) 1 rfl ?_
  refine x_imul C (k_dg dt_X12_its_0 4 6 (.imul) 1 rfl) ?_
  refine x_iload_n C (k_dg dt_X12_its_0 5 7 (.iload_n 2) 1 rfl) 2 rfl ?_
  refine x_iadd C (k_dg dt_X12_its_0 6 8 (.iadd) 1 rfl) ?_
  refine x_iald C (a := 77) (n := 24) rfl rfl (k_dg dt_X12_its_0 7 9 (.iaload) 1 rfl) (fun v1 => ?_)
  exact x_iret C (by decide) (by decide) (k_dg dt_X12_its_0 8 10 (.ireturn) 1 rfl)
theorem c_X12_its {Z : k_Z} (hg : k_Gd Z) (l : Launch) (p1 : Int32) (p2 : Int32) (M : k_M) : Con true Z l yX12_its cX12_its 3 (some .int) 1 0 0 emI [k_ra Z 76, Value.int p1, Value.int p2] M (f_X12_its p1 p2 M) := k_con hg (by decide) (Nat.le_of_ble_eq_true rfl) (fun G hl C => m_X12_its_0 C p1 p2 M)
theorem dt_X12_wayIts_0 : k_dec cX12_wayIts [(0, .aload_n 0, 1), (1, .getfield 13, 3), (4, .iconst 5, 1), (5, .iload_n 1, 1), (6, .imul, 1), (7, .iload_n 2, 1), (8, .iadd, 1), (9, .iaload, 1), (10, .ireturn, 1)] = true := by decide +kernel
def f_X12_wayIts (p1 : Int32) (p2 : Int32) (M : k_M) : Option (Int32 × k_M) := rdI M 78 60 ((5 * p1) + p2) (fun v1 => some (v1, M))
theorem m_X12_wayIts_0 {Z : k_Z} {G : k_G} (C : k_C Z G RX12 cX12_wayIts (true, 3, 1, 0, 0) (some .int) "wayIts") (p1 : Int32) (p2 : Int32) (M : k_M) : Sm Z G emI (true, 3, 1, 0, 0) (0, 0) 0 [(0, k_ra Z 76), (1, Value.int p1), (2, Value.int p2)] [] M (f_X12_wayIts p1 p2 M) := by
  show Sm Z G emI _ _ _ _ _ _ (rdI M 78 60 ((5 * p1) + p2) (fun v1 => some (v1, M)))
  refine x_aload_n C (k_dg dt_X12_wayIts_0 0 0 (.aload_n 0) 1 rfl) 0 rfl ?_
  refine x_getR C (a := 76) (j := 3) 78 rfl rfl (by decide) fl_RX12_13 rfl rfl rfl (k_dg dt_X12_wayIts_0 1 1 (.getfield 13) 3 rfl) ?_
  refine x_iconst C (v := 5) (k_dg dt_X12_wayIts_0 2 4 (.iconst 5) 1 rfl) (by decide) ?_
  refine x_iload_n C (k_dg dt_X12_wayIts_0 3 5 (.iload_n 1) 1 rfl) 1 rfl ?_
  refine x_imul C (k_dg dt_X12_wayIts_0 4 6 (.imul) 1 rfl) ?_
  refine x_iload_n C (k_dg dt_X12_wayIts_0 5 7 (.iload_n 2) 1 rfl) 2 rfl ?_
  refine x_iadd C (k_dg dt_X12_wayIts_0 6 8 (.iadd) 1 rfl) ?_
  refine x_iald C (a := 78) (n := 60) rfl rfl (k_dg dt_X12_wayIts_0 7 9 (.iaload) 1 rfl) (fun v1 => ?_)
  exact x_iret C (by decide) (by decide) (k_dg dt_X12_wayIts_0 8 10 (.ireturn) 1 rfl)
theorem c_X12_wayIts {Z : k_Z} (hg : k_Gd Z) (l : Launch) (p1 : Int32) (p2 : Int32) (M : k_M) : Con true Z l yX12_wayIts cX12_wayIts 3 (some .int) 1 0 0 emI [k_ra Z 76, Value.int p1, Value.int p2] M (f_X12_wayIts p1 p2 M) := k_con hg (by decide) (Nat.le_of_ble_eq_true rfl) (fun G hl C => m_X12_wayIts_0 C p1 p2 M)
theorem dt_X12_waysAt_0 : k_dec cX12_waysAt [(0, .iconst 0, 1), (1, .istore_n 2, 1), (2, .iconst 0, 1), (3, .istore_n 3, 1), (4, .iload_n 3, 1), (5, .aload_n 0, 1), (6, .getfield 103, 3), (9, .if_icmp .ge 37, 3), (12, .iload_n 2, 1), (13, .aload_n 0, 1), (14, .iload_n 3, 1), (15, .iconst 0, 1), (16, .invokevirtual 106, 3), (19, .iload_n 1, 1), (20, .if_icmp .eq 13, 3), (23, .aload_n 0, 1), (24, .iload_n 3, 1), (25, .iconst 1, 1), (26, .invokevirtual 106, 3), (29, .iload_n 1, 1), (30, .if_icmp .ne 7, 3), (33, .iconst 1, 1), (34, .goto 4, 3), (37, .iconst 0, 1), (38, .iadd, 1), (39, .istore_n 2, 1), (40, .iinc 3 1, 3), (43, .goto (-39), 3), (46, .iload_n 2, 1), (47, .ireturn, 1)] = true := by decide +kernel
def f_X12_waysAt_38 (l1 : Int32) (l3 : Int32) (t0 : Int32) (t1 : Int32) (M : k_M) (kb : Int32 → Int32 → Int32 → k_M → Option (Int32 × k_M)) (kx46 : Int32 → k_M → Option (Int32 × k_M)) : Option (Int32 × k_M) := bN (t0 + t1) (fun v1 => kb l1 v1 (l3 + 1) M)
theorem m_X12_waysAt_38 {Z : k_Z} {G : k_G} (C : k_C Z G RX12 cX12_waysAt (true, 4, 2, 0, 0) (some .int) "waysAt") (kb : Int32 → Int32 → Int32 → k_M → Option (Int32 × k_M)) (kx46 : Int32 → k_M → Option (Int32 × k_M)) (Hb : ∀ (l1 : Int32) (l2 : Int32) (l3 : Int32) (M : k_M), Sm Z G emI (true, 4, 2, 0, 0) (0, 0) 4 [(0, k_ra Z 76), (1, Value.int l1), (2, Value.int l2), (3, Value.int l3)] [] M (kb l1 l2 l3 M)) (Hx46 : ∀ (l2 : Int32) (M : k_M), Sm Z G emI (true, 4, 2, 0, 0) (0, 0) 46 [(2, Value.int l2)] [] M (kx46 l2 M)) (l1 : Int32) (l3 : Int32) (t0 : Int32) (t1 : Int32) (M : k_M) : Sm Z G emI (true, 4, 2, 0, 0) (0, 0) 38 [(0, k_ra Z 76), (1, Value.int l1), (3, Value.int l3)] [Value.int t1, Value.int t0] M (f_X12_waysAt_38 l1 l3 t0 t1 M kb kx46) := by
  show Sm Z G emI _ _ _ _ _ _ (bN (t0 + t1) (fun v1 => kb l1 v1 (l3 + 1) M))
  refine x_iadd C (k_dg dt_X12_waysAt_0 24 38 (.iadd) 1 rfl) ?_
  refine x_nm (w := Value.int) (fun v1 _ => ?_)
  refine x_istore_n C (lv' := [(2, Value.int v1), (0, k_ra Z 76), (1, Value.int l1), (3, Value.int l3)]) (k_dg dt_X12_waysAt_0 25 39 (.istore_n 2) 1 rfl) (by decide) rfl ?_
  refine x_iinc C (v := 1) (lv' := [(3, Value.int (l3 + 1)), (2, Value.int v1), (0, k_ra Z 76), (1, Value.int l1)]) (k_dg dt_X12_waysAt_0 26 40 (.iinc 3 1) 3 rfl) 3 rfl (by decide) (by decide) rfl ?_
  refine x_goto C (tgt := 4) (k_dg dt_X12_waysAt_0 27 43 (.goto (-39)) 3 rfl) (by decide) ?_
  refine x_lv [2, 3, 1, 0] rfl ?_
  exact Hb l1 v1 (l3 + 1) M
def f_X12_waysAt_33 (l1 : Int32) (l3 : Int32) (t0 : Int32) (M : k_M) (kb : Int32 → Int32 → Int32 → k_M → Option (Int32 × k_M)) (kx46 : Int32 → k_M → Option (Int32 × k_M)) : Option (Int32 × k_M) := f_X12_waysAt_38 l1 l3 t0 1 M kb kx46
theorem m_X12_waysAt_33 {Z : k_Z} {G : k_G} (C : k_C Z G RX12 cX12_waysAt (true, 4, 2, 0, 0) (some .int) "waysAt") (kb : Int32 → Int32 → Int32 → k_M → Option (Int32 × k_M)) (kx46 : Int32 → k_M → Option (Int32 × k_M)) (Hb : ∀ (l1 : Int32) (l2 : Int32) (l3 : Int32) (M : k_M), Sm Z G emI (true, 4, 2, 0, 0) (0, 0) 4 [(0, k_ra Z 76), (1, Value.int l1), (2, Value.int l2), (3, Value.int l3)] [] M (kb l1 l2 l3 M)) (Hx46 : ∀ (l2 : Int32) (M : k_M), Sm Z G emI (true, 4, 2, 0, 0) (0, 0) 46 [(2, Value.int l2)] [] M (kx46 l2 M)) (l1 : Int32) (l3 : Int32) (t0 : Int32) (M : k_M) : Sm Z G emI (true, 4, 2, 0, 0) (0, 0) 33 [(0, k_ra Z 76), (1, Value.int l1), (3, Value.int l3)] [Value.int t0] M (f_X12_waysAt_33 l1 l3 t0 M kb kx46) := by
  show Sm Z G emI _ _ _ _ _ _ (f_X12_waysAt_38 l1 l3 t0 1 M kb kx46)
  refine x_iconst C (v := 1) (k_dg dt_X12_waysAt_0 21 33 (.iconst 1) 1 rfl) (by decide) ?_
  refine x_goto C (tgt := 38) (k_dg dt_X12_waysAt_0 22 34 (.goto 4) 3 rfl) (by decide) ?_
  exact m_X12_waysAt_38 C kb kx46 Hb Hx46 l1 l3 t0 1 M
def f_X12_waysAt_4 : Nat → Int32 → Int32 → Int32 → k_M → (Int32 → k_M → Option (Int32 × k_M)) → Option (Int32 × k_M)
  | 0, _, _, _, _, _ => none
  | n + 1, l1, l2, l3, M, kx46 => if (M.1 76 2) ≤ l3 then kx46 l2 M else bd (f_X12_wayIts l3 0 M) (fun r1 M2 => if r1 = l1 then f_X12_waysAt_33 l1 l3 l2 M2 ((fun l1_ l2_ l3_ M_ => f_X12_waysAt_4 n l1_ l2_ l3_ M_ kx46)) kx46 else bd (f_X12_wayIts l3 1 M2) (fun r3 M4 => if r3 = l1 then f_X12_waysAt_33 l1 l3 l2 M4 ((fun l1_ l2_ l3_ M_ => f_X12_waysAt_4 n l1_ l2_ l3_ M_ kx46)) kx46 else f_X12_waysAt_38 l1 l3 l2 0 M4 ((fun l1_ l2_ l3_ M_ => f_X12_waysAt_4 n l1_ l2_ l3_ M_ kx46)) kx46))
theorem m_X12_waysAt_4 {Z : k_Z} {G : k_G} (C : k_C Z G RX12 cX12_waysAt (true, 4, 2, 0, 0) (some .int) "waysAt") (kx46 : Int32 → k_M → Option (Int32 × k_M)) (Hx46 : ∀ (l2 : Int32) (M : k_M), Sm Z G emI (true, 4, 2, 0, 0) (0, 0) 46 [(2, Value.int l2)] [] M (kx46 l2 M)) : ∀ (n : Nat) (l1 : Int32) (l2 : Int32) (l3 : Int32) (M : k_M), Sm Z G emI (true, 4, 2, 0, 0) (0, 0) 4 [(0, k_ra Z 76), (1, Value.int l1), (2, Value.int l2), (3, Value.int l3)] [] M (f_X12_waysAt_4 n l1 l2 l3 M kx46)
  | 0, _, _, _, _ => x_none
  | n + 1, l1, l2, l3, M => by
    have ih := m_X12_waysAt_4 C kx46 Hx46 n
    show Sm Z G emI _ _ _ _ _ _ (if (M.1 76 2) ≤ l3 then kx46 l2 M else bd (f_X12_wayIts l3 0 M) (fun r1 M2 => if r1 = l1 then f_X12_waysAt_33 l1 l3 l2 M2 ((fun l1_ l2_ l3_ M_ => f_X12_waysAt_4 n l1_ l2_ l3_ M_ kx46)) kx46 else bd (f_X12_wayIts l3 1 M2) (fun r3 M4 => if r3 = l1 then f_X12_waysAt_33 l1 l3 l2 M4 ((fun l1_ l2_ l3_ M_ => f_X12_waysAt_4 n l1_ l2_ l3_ M_ kx46)) kx46 else f_X12_waysAt_38 l1 l3 l2 0 M4 ((fun l1_ l2_ l3_ M_ => f_X12_waysAt_4 n l1_ l2_ l3_ M_ kx46)) kx46)))
    refine x_iload_n C (k_dg dt_X12_waysAt_0 4 4 (.iload_n 3) 1 rfl) 3 rfl ?_
    refine x_aload_n C (k_dg dt_X12_waysAt_0 5 5 (.aload_n 0) 1 rfl) 0 rfl ?_
    refine x_getI C (a := 76) (j := 2) rfl rfl (by decide) fl_RX12_103 rfl (k_dg dt_X12_waysAt_0 6 6 (.getfield 103) 3 rfl) ?_
    refine x_icmp_ge C (tgt := 46) (k_dg dt_X12_waysAt_0 7 9 (.if_icmp .ge 37) 3 rfl) (by decide) (fun _ => ?_) (fun _ => ?_)
    · refine x_lv [2] rfl ?_
      exact Hx46 l2 M
    · refine x_iload_n C (k_dg dt_X12_waysAt_0 8 12 (.iload_n 2) 1 rfl) 2 rfl ?_
      refine x_aload_n C (k_dg dt_X12_waysAt_0 9 13 (.aload_n 0) 1 rfl) 0 rfl ?_
      refine x_iload_n C (k_dg dt_X12_waysAt_0 10 14 (.iload_n 3) 1 rfl) 3 rfl ?_
      refine x_iconst C (v := 0) (k_dg dt_X12_waysAt_0 11 15 (.iconst 0) 1 rfl) (by decide) ?_
      refine x_callV C (a := 76) (kd := 10) (vs := [Value.int l3, Value.int 0]) (rest := [Value.int l2]) rfl rfl (by decide) (fun r hr => by cases hr; rfl) (c_X12_wayIts C.2.2.2.2.2.2.2.2.2 G.2.1 l3 0 M) cy_X12_wayIts lk_RX12_106 im_X12_wayIts se_X12_wayIts (by decide) (by decide) (by decide) (by decide) rfl rfl (Nat.le_of_ble_eq_true rfl) (k_dg dt_X12_waysAt_0 12 16 (.invokevirtual 106) 3 rfl) (fun r1 M2 => ?_)
      show Sm Z G _ _ _ _ [(0, k_ra Z 76), (1, Value.int l1), (2, Value.int l2), (3, Value.int l3)] [Value.int r1, Value.int l2] _ _
      refine x_iload_n C (k_dg dt_X12_waysAt_0 13 19 (.iload_n 1) 1 rfl) 1 rfl ?_
      refine x_icmp_eq C (tgt := 33) (k_dg dt_X12_waysAt_0 14 20 (.if_icmp .eq 13) 3 rfl) (by decide) (fun _ => ?_) (fun _ => ?_)
      · refine x_lv [0, 1, 3] rfl ?_
        exact m_X12_waysAt_33 C ((fun l1_ l2_ l3_ M_ => f_X12_waysAt_4 n l1_ l2_ l3_ M_ kx46)) kx46 ih Hx46 l1 l3 l2 M2
      · refine x_aload_n C (k_dg dt_X12_waysAt_0 15 23 (.aload_n 0) 1 rfl) 0 rfl ?_
        refine x_iload_n C (k_dg dt_X12_waysAt_0 16 24 (.iload_n 3) 1 rfl) 3 rfl ?_
        refine x_iconst C (v := 1) (k_dg dt_X12_waysAt_0 17 25 (.iconst 1) 1 rfl) (by decide) ?_
        refine x_callV C (a := 76) (kd := 10) (vs := [Value.int l3, Value.int 1]) (rest := [Value.int l2]) rfl rfl (by decide) (fun r hr => by cases hr; rfl) (c_X12_wayIts C.2.2.2.2.2.2.2.2.2 G.2.1 l3 1 M2) cy_X12_wayIts lk_RX12_106 im_X12_wayIts se_X12_wayIts (by decide) (by decide) (by decide) (by decide) rfl rfl (Nat.le_of_ble_eq_true rfl) (k_dg dt_X12_waysAt_0 18 26 (.invokevirtual 106) 3 rfl) (fun r3 M4 => ?_)
        show Sm Z G _ _ _ _ [(0, k_ra Z 76), (1, Value.int l1), (2, Value.int l2), (3, Value.int l3)] [Value.int r3, Value.int l2] _ _
        refine x_iload_n C (k_dg dt_X12_waysAt_0 19 29 (.iload_n 1) 1 rfl) 1 rfl ?_
        refine x_icmp_ne C (tgt := 37) (k_dg dt_X12_waysAt_0 20 30 (.if_icmp .ne 7) 3 rfl) (by decide) (fun _ => ?_) (fun _ => ?_)
        · refine x_lv [0, 1, 3] rfl ?_
          exact m_X12_waysAt_33 C ((fun l1_ l2_ l3_ M_ => f_X12_waysAt_4 n l1_ l2_ l3_ M_ kx46)) kx46 ih Hx46 l1 l3 l2 M4
        · refine x_iconst C (v := 0) (k_dg dt_X12_waysAt_0 23 37 (.iconst 0) 1 rfl) (by decide) ?_
          refine x_lv [0, 1, 3] rfl ?_
          exact m_X12_waysAt_38 C ((fun l1_ l2_ l3_ M_ => f_X12_waysAt_4 n l1_ l2_ l3_ M_ kx46)) kx46 ih Hx46 l1 l3 l2 0 M4
def f_X12_waysAt_46 (l2 : Int32) (M : k_M) : Option (Int32 × k_M) := some (l2, M)
theorem m_X12_waysAt_46 {Z : k_Z} {G : k_G} (C : k_C Z G RX12 cX12_waysAt (true, 4, 2, 0, 0) (some .int) "waysAt") (l2 : Int32) (M : k_M) : Sm Z G emI (true, 4, 2, 0, 0) (0, 0) 46 [(2, Value.int l2)] [] M (f_X12_waysAt_46 l2 M) := by
  show Sm Z G emI _ _ _ _ _ _ (some (l2, M))
  refine x_iload_n C (k_dg dt_X12_waysAt_0 28 46 (.iload_n 2) 1 rfl) 0 rfl ?_
  exact x_iret C (by decide) (by decide) (k_dg dt_X12_waysAt_0 29 47 (.ireturn) 1 rfl)
def f_X12_waysAt (p1 : Int32) (M : k_M) : Option (Int32 × k_M) := f_X12_waysAt_4 k_fu p1 0 0 M (fun l2_ M_ => f_X12_waysAt_46 l2_ M_)
theorem m_X12_waysAt_0 {Z : k_Z} {G : k_G} (C : k_C Z G RX12 cX12_waysAt (true, 4, 2, 0, 0) (some .int) "waysAt") (p1 : Int32) (M : k_M) : Sm Z G emI (true, 4, 2, 0, 0) (0, 0) 0 [(0, k_ra Z 76), (1, Value.int p1)] [] M (f_X12_waysAt p1 M) := by
  show Sm Z G emI _ _ _ _ _ _ (f_X12_waysAt_4 k_fu p1 0 0 M (fun l2_ M_ => f_X12_waysAt_46 l2_ M_))
  refine x_iconst C (v := 0) (k_dg dt_X12_waysAt_0 0 0 (.iconst 0) 1 rfl) (by decide) ?_
  refine x_istore_n C (lv' := [(2, Value.int 0), (0, k_ra Z 76), (1, Value.int p1)]) (k_dg dt_X12_waysAt_0 1 1 (.istore_n 2) 1 rfl) (by decide) rfl ?_
  refine x_iconst C (v := 0) (k_dg dt_X12_waysAt_0 2 2 (.iconst 0) 1 rfl) (by decide) ?_
  refine x_istore_n C (lv' := [(3, Value.int 0), (2, Value.int 0), (0, k_ra Z 76), (1, Value.int p1)]) (k_dg dt_X12_waysAt_0 3 3 (.istore_n 3) 1 rfl) (by decide) rfl ?_
  refine x_lv [2, 3, 1, 0] rfl ?_
  exact m_X12_waysAt_4 C (fun l2_ M_ => f_X12_waysAt_46 l2_ M_) (fun l2_ M_ => m_X12_waysAt_46 C l2_ M_) k_fu p1 0 0 M
theorem c_X12_waysAt {Z : k_Z} (hg : k_Gd Z) (l : Launch) (p1 : Int32) (M : k_M) : Con true Z l yX12_waysAt cX12_waysAt 4 (some .int) 2 0 0 emI [k_ra Z 76, Value.int p1] M (f_X12_waysAt p1 M) := k_con hg (by decide) (Nat.le_of_ble_eq_true rfl) (fun G hl C => m_X12_waysAt_0 C p1 M)
theorem dt_X12_feed_0 : k_dec cX12_feed [(0, .iload_n 3, 1), (1, .iconst 1, 1), (2, .bipush 8, 2), (4, .invokestatic 99, 3), (7, .ifCond .ne 5, 3), (10, .iconst (-1), 1), (11, .ireturn, 1), (12, .aload_n 0, 1), (13, .getfield 110, 3), (16, .iload_n 3, 1), (17, .iadd, 1), (18, .sipush 200, 3), (21, .if_icmp .le 6, 3), (24, .bipush (-2), 2), (26, .ireturn, 1), (27, .iconst 0, 1), (28, .istore 4, 2), (30, .iload 4, 2), (32, .iload_n 3, 1), (33, .if_icmp .ge 40, 3), (36, .aload_n 0, 1), (37, .getfield 28, 3), (40, .aload_n 0, 1), (41, .getfield 110, 3), (44, .lload_n 1, 1), (45, .bipush 8, 2), (47, .iload 4, 2), (49, .imul, 1), (50, .lshr, 1), (51, .ldc2_w 113, 3), (54, .land, 1), (55, .l2i, 1), (56, .iastore, 1), (57, .aload_n 0, 1), (58, .dup, 1), (59, .getfield 110, 3), (62, .iconst 1, 1), (63, .iadd, 1), (64, .putfield 110, 3), (67, .iinc 4 1, 3)] = true := by decide +kernel
theorem dt_X12_feed_1 : k_dec cX12_feed [(70, .goto (-40), 3), (73, .aload_n 0, 1), (74, .getfield 110, 3), (77, .ireturn, 1)] = true := by decide +kernel
def f_X12_feed_30 : Nat → Int64 → Int32 → Int32 → k_M → (k_M → Option (Int32 × k_M)) → Option (Int32 × k_M)
  | 0, _, _, _, _, _ => none
  | n + 1, l1, l3, l4, M, kx73 => if l3 ≤ l4 then kx73 M else wrI M 83 200 (M.1 76 12) (((l1 >>> ((8 * l4).toInt64 &&& 63)) &&& 255).toInt32) (fun M1 => bN (sI M1 76 12 ((M1.1 76 12) + 1)) (fun M2 => f_X12_feed_30 n l1 l3 (l4 + 1) M2 kx73))
theorem m_X12_feed_30 {Z : k_Z} {G : k_G} (C : k_C Z G RX12 cX12_feed (true, 5, 2, 0, 0) (some .int) "feed") (kx73 : k_M → Option (Int32 × k_M)) (Hx73 : ∀ (M : k_M), Sm Z G emI (true, 5, 2, 0, 0) (0, 0) 73 [(0, k_ra Z 76)] [] M (kx73 M)) : ∀ (n : Nat) (l1 : Int64) (l3 : Int32) (l4 : Int32) (M : k_M), Sm Z G emI (true, 5, 2, 0, 0) (0, 0) 30 [(0, k_ra Z 76), (1, Value.long l1), (3, Value.int l3), (4, Value.int l4)] [] M (f_X12_feed_30 n l1 l3 l4 M kx73)
  | 0, _, _, _, _ => x_none
  | n + 1, l1, l3, l4, M => by
    have ih := m_X12_feed_30 C kx73 Hx73 n
    show Sm Z G emI _ _ _ _ _ _ (if l3 ≤ l4 then kx73 M else wrI M 83 200 (M.1 76 12) (((l1 >>> ((8 * l4).toInt64 &&& 63)) &&& 255).toInt32) (fun M1 => bN (sI M1 76 12 ((M1.1 76 12) + 1)) (fun M2 => f_X12_feed_30 n l1 l3 (l4 + 1) M2 kx73)))
    refine x_iload C (k_dg dt_X12_feed_0 17 30 (.iload 4) 2 rfl) 3 rfl ?_
    refine x_iload_n C (k_dg dt_X12_feed_0 18 32 (.iload_n 3) 1 rfl) 2 rfl ?_
    refine x_icmp_ge C (tgt := 73) (k_dg dt_X12_feed_0 19 33 (.if_icmp .ge 40) 3 rfl) (by decide) (fun _ => ?_) (fun _ => ?_)
    · refine x_lv [0] rfl ?_
      exact Hx73 M
    · refine x_aload_n C (k_dg dt_X12_feed_0 20 36 (.aload_n 0) 1 rfl) 0 rfl ?_
      refine x_getR C (a := 76) (j := 11) 83 rfl rfl (by decide) fl_RX12_28 rfl rfl rfl (k_dg dt_X12_feed_0 21 37 (.getfield 28) 3 rfl) ?_
      refine x_aload_n C (k_dg dt_X12_feed_0 22 40 (.aload_n 0) 1 rfl) 0 rfl ?_
      refine x_getI C (a := 76) (j := 12) rfl rfl (by decide) fl_RX12_110 rfl (k_dg dt_X12_feed_0 23 41 (.getfield 110) 3 rfl) ?_
      refine x_lload_n C (k_dg dt_X12_feed_0 24 44 (.lload_n 1) 1 rfl) 1 rfl ?_
      refine x_bipush C (v := 8) (k_dg dt_X12_feed_0 25 45 (.bipush 8) 2 rfl) (by decide) ?_
      refine x_iload C (k_dg dt_X12_feed_0 26 47 (.iload 4) 2 rfl) 3 rfl ?_
      refine x_imul C (k_dg dt_X12_feed_0 27 49 (.imul) 1 rfl) ?_
      refine x_lshr C (k_dg dt_X12_feed_0 28 50 (.lshr) 1 rfl) ?_
      refine x_ldc2 C (v := 255) ct_RX12_113 (k_dg dt_X12_feed_0 29 51 (.ldc2_w 113) 3 rfl) ?_
      refine x_land C (k_dg dt_X12_feed_0 30 54 (.land) 1 rfl) ?_
      refine x_l2i C (k_dg dt_X12_feed_0 31 55 (.l2i) 1 rfl) ?_
      refine x_iast C (a := 83) (n := 200) rfl rfl (k_dg dt_X12_feed_0 32 56 (.iastore) 1 rfl) (fun M1 => ?_)
      refine x_aload_n C (k_dg dt_X12_feed_0 33 57 (.aload_n 0) 1 rfl) 0 rfl ?_
      refine x_dup C (k_dg dt_X12_feed_0 34 58 (.dup) 1 rfl) rfl ?_
      refine x_getI C (a := 76) (j := 12) rfl rfl (by decide) fl_RX12_110 rfl (k_dg dt_X12_feed_0 35 59 (.getfield 110) 3 rfl) ?_
      refine x_iconst C (v := 1) (k_dg dt_X12_feed_0 36 62 (.iconst 1) 1 rfl) (by decide) ?_
      refine x_iadd C (k_dg dt_X12_feed_0 37 63 (.iadd) 1 rfl) ?_
      refine x_putI C (a := 76) (j := 12) rfl rfl (by decide) fl_RX12_110 rfl pt_10_12 tb_10 rfl rfl (k_dg dt_X12_feed_0 38 64 (.putfield 110) 3 rfl) (fun M2 => ?_)
      refine x_iinc C (v := 1) (lv' := [(4, Value.int (l4 + 1)), (0, k_ra Z 76), (1, Value.long l1), (3, Value.int l3)]) (k_dg dt_X12_feed_0 39 67 (.iinc 4 1) 3 rfl) 3 rfl (by decide) (by decide) rfl ?_
      refine x_goto C (tgt := 30) (k_dg dt_X12_feed_1 0 70 (.goto (-40)) 3 rfl) (by decide) ?_
      refine x_lv [1, 2, 3, 0] rfl ?_
      exact ih l1 l3 (l4 + 1) M2
def f_X12_feed_73 (M : k_M) : Option (Int32 × k_M) := some (M.1 76 12, M)
theorem m_X12_feed_73 {Z : k_Z} {G : k_G} (C : k_C Z G RX12 cX12_feed (true, 5, 2, 0, 0) (some .int) "feed") (M : k_M) : Sm Z G emI (true, 5, 2, 0, 0) (0, 0) 73 [(0, k_ra Z 76)] [] M (f_X12_feed_73 M) := by
  show Sm Z G emI _ _ _ _ _ _ (some (M.1 76 12, M))
  refine x_aload_n C (k_dg dt_X12_feed_1 1 73 (.aload_n 0) 1 rfl) 0 rfl ?_
  refine x_getI C (a := 76) (j := 12) rfl rfl (by decide) fl_RX12_110 rfl (k_dg dt_X12_feed_1 2 74 (.getfield 110) 3 rfl) ?_
  exact x_iret C (by decide) (by decide) (k_dg dt_X12_feed_1 3 77 (.ireturn) 1 rfl)
def f_X12_feed (p1 : Int64) (p2 : Int32) (M : k_M) : Option (Int32 × k_M) := bd (f_X12_in p2 1 8 M) (fun r1 M2 => if r1 = 0 then some (-1, M2) else if ((M2.1 76 12) + p2) ≤ 200 then f_X12_feed_30 k_fu p1 p2 0 M2 (fun M_ => f_X12_feed_73 M_) else some (-2, M2))
theorem m_X12_feed_0 {Z : k_Z} {G : k_G} (C : k_C Z G RX12 cX12_feed (true, 5, 2, 0, 0) (some .int) "feed") (p1 : Int64) (p2 : Int32) (M : k_M) : Sm Z G emI (true, 5, 2, 0, 0) (0, 0) 0 [(0, k_ra Z 76), (1, Value.long p1), (3, Value.int p2)] [] M (f_X12_feed p1 p2 M) := by
  show Sm Z G emI _ _ _ _ _ _ (bd (f_X12_in p2 1 8 M) (fun r1 M2 => if r1 = 0 then some (-1, M2) else if ((M2.1 76 12) + p2) ≤ 200 then f_X12_feed_30 k_fu p1 p2 0 M2 (fun M_ => f_X12_feed_73 M_) else some (-2, M2)))
  refine x_iload_n C (k_dg dt_X12_feed_0 0 0 (.iload_n 3) 1 rfl) 2 rfl ?_
  refine x_iconst C (v := 1) (k_dg dt_X12_feed_0 1 1 (.iconst 1) 1 rfl) (by decide) ?_
  refine x_bipush C (v := 8) (k_dg dt_X12_feed_0 2 2 (.bipush 8) 2 rfl) (by decide) ?_
  refine x_callS C (vs := [Value.int p2, Value.int 1, Value.int 8]) (rest := []) (c_X12_in C.2.2.2.2.2.2.2.2.2 G.2.1 p2 1 8 M) cy_X12_in lk_RX12_99 stt_X12_in (by decide) (by decide) (by decide) (by decide) rfl rfl (Nat.le_of_ble_eq_true rfl) (k_dg dt_X12_feed_0 3 4 (.invokestatic 99) 3 rfl) (fun r1 M2 => ?_)
  show Sm Z G _ _ _ _ [(0, k_ra Z 76), (1, Value.long p1), (3, Value.int p2)] [Value.int r1] _ _
  refine x_if_ne C (tgt := 12) (k_dg dt_X12_feed_0 4 7 (.ifCond .ne 5) 3 rfl) (by decide) (fun _ => ?_) (fun _ => ?_)
  · refine x_iconst C (v := -1) (k_dg dt_X12_feed_0 5 10 (.iconst (-1)) 1 rfl) (by decide) ?_
    exact x_iret C (by decide) (by decide) (k_dg dt_X12_feed_0 6 11 (.ireturn) 1 rfl)
  · refine x_aload_n C (k_dg dt_X12_feed_0 7 12 (.aload_n 0) 1 rfl) 0 rfl ?_
    refine x_getI C (a := 76) (j := 12) rfl rfl (by decide) fl_RX12_110 rfl (k_dg dt_X12_feed_0 8 13 (.getfield 110) 3 rfl) ?_
    refine x_iload_n C (k_dg dt_X12_feed_0 9 16 (.iload_n 3) 1 rfl) 2 rfl ?_
    refine x_iadd C (k_dg dt_X12_feed_0 10 17 (.iadd) 1 rfl) ?_
    refine x_sipush C (v := 200) (k_dg dt_X12_feed_0 11 18 (.sipush 200) 3 rfl) (by decide) ?_
    refine x_icmp_le C (tgt := 27) (k_dg dt_X12_feed_0 12 21 (.if_icmp .le 6) 3 rfl) (by decide) (fun _ => ?_) (fun _ => ?_)
    · refine x_iconst C (v := 0) (k_dg dt_X12_feed_0 15 27 (.iconst 0) 1 rfl) (by decide) ?_
      refine x_istore C (lv' := [(4, Value.int 0), (0, k_ra Z 76), (1, Value.long p1), (3, Value.int p2)]) (k_dg dt_X12_feed_0 16 28 (.istore 4) 2 rfl) (by decide) rfl ?_
      refine x_lv [1, 2, 3, 0] rfl ?_
      exact m_X12_feed_30 C (fun M_ => f_X12_feed_73 M_) (fun M_ => m_X12_feed_73 C M_) k_fu p1 p2 0 M2
    · refine x_bipush C (v := -2) (k_dg dt_X12_feed_0 13 24 (.bipush (-2)) 2 rfl) (by decide) ?_
      exact x_iret C (by decide) (by decide) (k_dg dt_X12_feed_0 14 26 (.ireturn) 1 rfl)
theorem c_X12_feed {Z : k_Z} (hg : k_Gd Z) (l : Launch) (p1 : Int64) (p2 : Int32) (M : k_M) : Con true Z l yX12_feed cX12_feed 5 (some .int) 2 0 0 emI [k_ra Z 76, Value.long p1, Value.int p2] M (f_X12_feed p1 p2 M) := k_con hg (by decide) (Nat.le_of_ble_eq_true rfl) (fun G hl C => m_X12_feed_0 C p1 p2 M)
theorem dt_X12_byteAt_0 : k_dec cX12_byteAt [(0, .iload_n 1, 1), (1, .aload_n 0, 1), (2, .getfield 110, 3), (5, .if_icmp .ge 12, 3), (8, .aload_n 0, 1), (9, .getfield 28, 3), (12, .iload_n 1, 1), (13, .iaload, 1), (14, .goto 4, 3), (17, .iconst (-1), 1), (18, .ireturn, 1)] = true := by decide +kernel
def f_X12_byteAt (p1 : Int32) (M : k_M) : Option (Int32 × k_M) := if (M.1 76 12) ≤ p1 then some (-1, M) else rdI M 83 200 p1 (fun v1 => some (v1, M))
theorem m_X12_byteAt_0 {Z : k_Z} {G : k_G} (C : k_C Z G RX12 cX12_byteAt (true, 2, 1, 0, 0) (some .int) "byteAt") (p1 : Int32) (M : k_M) : Sm Z G emI (true, 2, 1, 0, 0) (0, 0) 0 [(0, k_ra Z 76), (1, Value.int p1)] [] M (f_X12_byteAt p1 M) := by
  show Sm Z G emI _ _ _ _ _ _ (if (M.1 76 12) ≤ p1 then some (-1, M) else rdI M 83 200 p1 (fun v1 => some (v1, M)))
  refine x_iload_n C (k_dg dt_X12_byteAt_0 0 0 (.iload_n 1) 1 rfl) 1 rfl ?_
  refine x_aload_n C (k_dg dt_X12_byteAt_0 1 1 (.aload_n 0) 1 rfl) 0 rfl ?_
  refine x_getI C (a := 76) (j := 12) rfl rfl (by decide) fl_RX12_110 rfl (k_dg dt_X12_byteAt_0 2 2 (.getfield 110) 3 rfl) ?_
  refine x_icmp_ge C (tgt := 17) (k_dg dt_X12_byteAt_0 3 5 (.if_icmp .ge 12) 3 rfl) (by decide) (fun _ => ?_) (fun _ => ?_)
  · refine x_iconst C (v := -1) (k_dg dt_X12_byteAt_0 9 17 (.iconst (-1)) 1 rfl) (by decide) ?_
    exact x_iret C (by decide) (by decide) (k_dg dt_X12_byteAt_0 10 18 (.ireturn) 1 rfl)
  · refine x_aload_n C (k_dg dt_X12_byteAt_0 4 8 (.aload_n 0) 1 rfl) 0 rfl ?_
    refine x_getR C (a := 76) (j := 11) 83 rfl rfl (by decide) fl_RX12_28 rfl rfl rfl (k_dg dt_X12_byteAt_0 5 9 (.getfield 28) 3 rfl) ?_
    refine x_iload_n C (k_dg dt_X12_byteAt_0 6 12 (.iload_n 1) 1 rfl) 1 rfl ?_
    refine x_iald C (a := 83) (n := 200) rfl rfl (k_dg dt_X12_byteAt_0 7 13 (.iaload) 1 rfl) (fun v1 => ?_)
    refine x_goto C (tgt := 18) (k_dg dt_X12_byteAt_0 8 14 (.goto 4) 3 rfl) (by decide) ?_
    exact x_iret C (by decide) (by decide) (k_dg dt_X12_byteAt_0 10 18 (.ireturn) 1 rfl)
theorem c_X12_byteAt {Z : k_Z} (hg : k_Gd Z) (l : Launch) (p1 : Int32) (M : k_M) : Con true Z l yX12_byteAt cX12_byteAt 2 (some .int) 1 0 0 emI [k_ra Z 76, Value.int p1] M (f_X12_byteAt p1 M) := k_con hg (by decide) (Nat.le_of_ble_eq_true rfl) (fun G hl C => m_X12_byteAt_0 C p1 M)
theorem dt_X12_isLetter_0 : k_dec cX12_isLetter [(0, .iload_n 0, 1), (1, .bipush 97, 2), (3, .bipush 122, 2), (5, .invokestatic 99, 3), (8, .ireturn, 1)] = true := by decide +kernel
def f_X12_isLetter (p1 : Int32) (M : k_M) : Option (Int32 × k_M) := bd (f_X12_in p1 97 122 M) (fun r1 M2 => ckZ r1 (some (r1, M2)))
theorem m_X12_isLetter_0 {Z : k_Z} {G : k_G} (C : k_C Z G RX12 cX12_isLetter (true, 1, 2, 0, 0) (some .boolean) "isLetter") (p1 : Int32) (M : k_M) : Sm Z G emI (true, 1, 2, 0, 0) (0, 0) 0 [(0, Value.int p1)] [] M (f_X12_isLetter p1 M) := by
  show Sm Z G emI _ _ _ _ _ _ (bd (f_X12_in p1 97 122 M) (fun r1 M2 => ckZ r1 (some (r1, M2))))
  refine x_iload_n C (k_dg dt_X12_isLetter_0 0 0 (.iload_n 0) 1 rfl) 0 rfl ?_
  refine x_bipush C (v := 97) (k_dg dt_X12_isLetter_0 1 1 (.bipush 97) 2 rfl) (by decide) ?_
  refine x_bipush C (v := 122) (k_dg dt_X12_isLetter_0 2 3 (.bipush 122) 2 rfl) (by decide) ?_
  refine x_callS C (vs := [Value.int p1, Value.int 97, Value.int 122]) (rest := []) (c_X12_in C.2.2.2.2.2.2.2.2.2 G.2.1 p1 97 122 M) cy_X12_in lk_RX12_99 stt_X12_in (by decide) (by decide) (by decide) (by decide) rfl rfl (Nat.le_of_ble_eq_true rfl) (k_dg dt_X12_isLetter_0 3 5 (.invokestatic 99) 3 rfl) (fun r1 M2 => ?_)
  show Sm Z G _ _ _ _ [(0, Value.int p1)] [Value.int r1] _ _
  refine x_ckZ (fun h3 => ?_)
  exact x_zret C (by decide) (by decide) (k_nz h3) (k_dg dt_X12_isLetter_0 4 8 (.ireturn) 1 rfl)
theorem c_X12_isLetter {Z : k_Z} (hg : k_Gd Z) (l : Launch) (p1 : Int32) (M : k_M) : Con true Z l yX12_isLetter cX12_isLetter 1 (some .boolean) 2 0 0 emI [Value.int p1] M (f_X12_isLetter p1 M) := k_con hg (by decide) (Nat.le_of_ble_eq_true rfl) (fun G hl C => m_X12_isLetter_0 C p1 M)
theorem dt_X12_isDigit_0 : k_dec cX12_isDigit [(0, .iload_n 0, 1), (1, .bipush 48, 2), (3, .bipush 57, 2), (5, .invokestatic 99, 3), (8, .ireturn, 1)] = true := by decide +kernel
def f_X12_isDigit (p1 : Int32) (M : k_M) : Option (Int32 × k_M) := bd (f_X12_in p1 48 57 M) (fun r1 M2 => ckZ r1 (some (r1, M2)))
theorem m_X12_isDigit_0 {Z : k_Z} {G : k_G} (C : k_C Z G RX12 cX12_isDigit (true, 1, 2, 0, 0) (some .boolean) "isDigit") (p1 : Int32) (M : k_M) : Sm Z G emI (true, 1, 2, 0, 0) (0, 0) 0 [(0, Value.int p1)] [] M (f_X12_isDigit p1 M) := by
  show Sm Z G emI _ _ _ _ _ _ (bd (f_X12_in p1 48 57 M) (fun r1 M2 => ckZ r1 (some (r1, M2))))
  refine x_iload_n C (k_dg dt_X12_isDigit_0 0 0 (.iload_n 0) 1 rfl) 0 rfl ?_
  refine x_bipush C (v := 48) (k_dg dt_X12_isDigit_0 1 1 (.bipush 48) 2 rfl) (by decide) ?_
  refine x_bipush C (v := 57) (k_dg dt_X12_isDigit_0 2 3 (.bipush 57) 2 rfl) (by decide) ?_
  refine x_callS C (vs := [Value.int p1, Value.int 48, Value.int 57]) (rest := []) (c_X12_in C.2.2.2.2.2.2.2.2.2 G.2.1 p1 48 57 M) cy_X12_in lk_RX12_99 stt_X12_in (by decide) (by decide) (by decide) (by decide) rfl rfl (Nat.le_of_ble_eq_true rfl) (k_dg dt_X12_isDigit_0 3 5 (.invokestatic 99) 3 rfl) (fun r1 M2 => ?_)
  show Sm Z G _ _ _ _ [(0, Value.int p1)] [Value.int r1] _ _
  refine x_ckZ (fun h3 => ?_)
  exact x_zret C (by decide) (by decide) (k_nz h3) (k_dg dt_X12_isDigit_0 4 8 (.ireturn) 1 rfl)
theorem c_X12_isDigit {Z : k_Z} (hg : k_Gd Z) (l : Launch) (p1 : Int32) (M : k_M) : Con true Z l yX12_isDigit cX12_isDigit 1 (some .boolean) 2 0 0 emI [Value.int p1] M (f_X12_isDigit p1 M) := k_con hg (by decide) (Nat.le_of_ble_eq_true rfl) (fun G hl C => m_X12_isDigit_0 C p1 M)
theorem dt_X12_advance_0 : k_dec cX12_advance [(0, .aload_n 0, 1), (1, .aload_n 0, 1), (2, .getfield 115, 3), (5, .putfield 118, 3), (8, .aload_n 0, 1), (9, .aload_n 0, 1), (10, .getfield 118, 3), (13, .invokevirtual 121, 3), (16, .bipush 32, 2), (18, .if_icmp .ne 16, 3), (21, .aload_n 0, 1), (22, .dup, 1), (23, .getfield 118, 3), (26, .iconst 1, 1), (27, .iadd, 1), (28, .putfield 118, 3), (31, .goto (-23), 3), (34, .aload_n 0, 1), (35, .aload_n 0, 1), (36, .getfield 118, 3), (39, .putfield 115, 3), (42, .aload_n 0, 1), (43, .aload_n 0, 1), (44, .getfield 118, 3), (47, .invokevirtual 121, 3), (50, .istore_n 1, 1), (51, .aload_n 0, 1), (52, .iload_n 1, 1), (53, .ifCond .ge 7, 3), (56, .iconst 0, 1), (57, .goto 26, 3), (60, .iload_n 1, 1), (61, .invokestatic 125, 3), (64, .ifCond .eq 7, 3), (67, .iconst 1, 1), (68, .goto 15, 3), (71, .iload_n 1, 1), (72, .invokestatic 129, 3), (75, .ifCond .eq 7, 3), (78, .iconst 2, 1)] = true := by decide +kernel
theorem dt_X12_advance_1 : k_dec cX12_advance [(79, .goto 4, 3), (82, .iconst 3, 1), (83, .putfield 132, 3), (86, .aload_n 0, 1), (87, .lconst 0, 1), (88, .putfield 135, 3), (91, .aload_n 0, 1), (92, .aload_n 0, 1), (93, .getfield 132, 3), (96, .iconst 2, 1), (97, .if_icmp .ne 7, 3), (100, .iconst 0, 1), (101, .goto 4, 3), (104, .iload_n 1, 1), (105, .putfield 139, 3), (108, .aload_n 0, 1), (109, .getfield 132, 3), (112, .iconst 3, 1), (113, .if_icmp .ne 13, 3), (116, .aload_n 0, 1), (117, .dup, 1), (118, .getfield 115, 3), (121, .iconst 1, 1), (122, .iadd, 1), (123, .putfield 115, 3), (126, .aload_n 0, 1), (127, .getfield 132, 3), (130, .iconst 1, 1), (131, .if_icmp .ne 76, 3), (134, .aload_n 0, 1), (135, .aload_n 0, 1), (136, .getfield 115, 3), (139, .invokevirtual 121, 3), (142, .invokestatic 125, 3), (145, .ifCond .eq 62, 3), (148, .aload_n 0, 1), (149, .aload_n 0, 1), (150, .getfield 115, 3), (153, .aload_n 0, 1), (154, .getfield 118, 3)] = true := by decide +kernel
theorem dt_X12_advance_2 : k_dec cX12_advance [(157, .isub, 1), (158, .bipush 8, 2), (160, .if_icmp .ge 28, 3), (163, .ldc2_w 142, 3), (166, .aload_n 0, 1), (167, .getfield 135, 3), (170, .lmul, 1), (171, .aload_n 0, 1), (172, .aload_n 0, 1), (173, .getfield 115, 3), (176, .invokevirtual 121, 3), (179, .i2l, 1), (180, .ladd, 1), (181, .ldc2_w 144, 3), (184, .lsub, 1), (185, .goto 6, 3), (188, .ldc2_w 146, 3), (191, .putfield 135, 3), (194, .aload_n 0, 1), (195, .dup, 1), (196, .getfield 115, 3), (199, .iconst 1, 1), (200, .iadd, 1), (201, .putfield 115, 3), (204, .goto (-78), 3), (207, .aload_n 0, 1), (208, .getfield 132, 3), (211, .iconst 2, 1), (212, .if_icmp .ne 70, 3), (215, .aload_n 0, 1), (216, .aload_n 0, 1), (217, .getfield 115, 3), (220, .invokevirtual 121, 3), (223, .invokestatic 129, 3), (226, .ifCond .eq 56, 3), (229, .aload_n 0, 1), (230, .aload_n 0, 1), (231, .getfield 115, 3), (234, .aload_n 0, 1), (235, .getfield 118, 3)] = true := by decide +kernel
theorem dt_X12_advance_3 : k_dec cX12_advance [(238, .isub, 1), (239, .iconst 2, 1), (240, .if_icmp .ge 25, 3), (243, .bipush 10, 2), (245, .aload_n 0, 1), (246, .getfield 139, 3), (249, .imul, 1), (250, .aload_n 0, 1), (251, .aload_n 0, 1), (252, .getfield 115, 3), (255, .invokevirtual 121, 3), (258, .iadd, 1), (259, .bipush 48, 2), (261, .isub, 1), (262, .goto 4, 3), (265, .iconst (-1), 1), (266, .putfield 139, 3), (269, .aload_n 0, 1), (270, .dup, 1), (271, .getfield 115, 3), (274, .iconst 1, 1), (275, .iadd, 1), (276, .putfield 115, 3), (279, .goto (-72), 3), (282, .return_, 1)] = true := by decide +kernel
def f_X12_advance_8 : Nat → k_M → (k_M → Option (Unit × k_M)) → Option (Unit × k_M)
  | 0, _, _ => none
  | n + 1, M, kx34 => bd (f_X12_byteAt (M.1 76 14) M) (fun r1 M2 => if r1 = 32 then bN (sI M2 76 14 ((M2.1 76 14) + 1)) (fun M3 => f_X12_advance_8 n M3 kx34) else kx34 M2)
theorem m_X12_advance_8 {Z : k_Z} {G : k_G} (C : k_C Z G RX12 cX12_advance (true, 2, 3, 0, 0) none "advance") (kx34 : k_M → Option (Unit × k_M)) (Hx34 : ∀ (M : k_M), Sm Z G emV (true, 2, 3, 0, 0) (0, 0) 34 [(0, k_ra Z 76)] [] M (kx34 M)) : ∀ (n : Nat) (M : k_M), Sm Z G emV (true, 2, 3, 0, 0) (0, 0) 8 [(0, k_ra Z 76)] [] M (f_X12_advance_8 n M kx34)
  | 0, _ => x_none
  | n + 1, M => by
    have ih := m_X12_advance_8 C kx34 Hx34 n
    show Sm Z G emV _ _ _ _ _ _ (bd (f_X12_byteAt (M.1 76 14) M) (fun r1 M2 => if r1 = 32 then bN (sI M2 76 14 ((M2.1 76 14) + 1)) (fun M3 => f_X12_advance_8 n M3 kx34) else kx34 M2))
    refine x_aload_n C (k_dg dt_X12_advance_0 4 8 (.aload_n 0) 1 rfl) 0 rfl ?_
    refine x_aload_n C (k_dg dt_X12_advance_0 5 9 (.aload_n 0) 1 rfl) 0 rfl ?_
    refine x_getI C (a := 76) (j := 14) rfl rfl (by decide) fl_RX12_118 rfl (k_dg dt_X12_advance_0 6 10 (.getfield 118) 3 rfl) ?_
    refine x_callV C (a := 76) (kd := 10) (vs := [Value.int (M.1 76 14)]) (rest := []) rfl rfl (by decide) (fun r hr => by cases hr; rfl) (c_X12_byteAt C.2.2.2.2.2.2.2.2.2 G.2.1 (M.1 76 14) M) cy_X12_byteAt lk_RX12_121 im_X12_byteAt se_X12_byteAt (by decide) (by decide) (by decide) (by decide) rfl rfl (Nat.le_of_ble_eq_true rfl) (k_dg dt_X12_advance_0 7 13 (.invokevirtual 121) 3 rfl) (fun r1 M2 => ?_)
    show Sm Z G _ _ _ _ [(0, k_ra Z 76)] [Value.int r1] _ _
    refine x_bipush C (v := 32) (k_dg dt_X12_advance_0 8 16 (.bipush 32) 2 rfl) (by decide) ?_
    refine x_icmp_ne C (tgt := 34) (k_dg dt_X12_advance_0 9 18 (.if_icmp .ne 16) 3 rfl) (by decide) (fun _ => ?_) (fun _ => ?_)
    · refine x_aload_n C (k_dg dt_X12_advance_0 10 21 (.aload_n 0) 1 rfl) 0 rfl ?_
      refine x_dup C (k_dg dt_X12_advance_0 11 22 (.dup) 1 rfl) rfl ?_
      refine x_getI C (a := 76) (j := 14) rfl rfl (by decide) fl_RX12_118 rfl (k_dg dt_X12_advance_0 12 23 (.getfield 118) 3 rfl) ?_
      refine x_iconst C (v := 1) (k_dg dt_X12_advance_0 13 26 (.iconst 1) 1 rfl) (by decide) ?_
      refine x_iadd C (k_dg dt_X12_advance_0 14 27 (.iadd) 1 rfl) ?_
      refine x_putI C (a := 76) (j := 14) rfl rfl (by decide) fl_RX12_118 rfl pt_10_14 tb_10 rfl rfl (k_dg dt_X12_advance_0 15 28 (.putfield 118) 3 rfl) (fun M3 => ?_)
      refine x_goto C (tgt := 8) (k_dg dt_X12_advance_0 16 31 (.goto (-23)) 3 rfl) (by decide) ?_
      exact ih M3
    · exact Hx34 M2
def f_X12_advance_191 (t1 : Int64) (M : k_M) (kb : k_M → Option (Unit × k_M)) (kx207 : k_M → Option (Unit × k_M)) : Option (Unit × k_M) := bN (sJ M 76 16 t1) (fun M1 => bN (sI M1 76 15 ((M1.1 76 15) + 1)) (fun M2 => kb M2))
theorem m_X12_advance_191 {Z : k_Z} {G : k_G} (C : k_C Z G RX12 cX12_advance (true, 2, 3, 0, 0) none "advance") (kb : k_M → Option (Unit × k_M)) (kx207 : k_M → Option (Unit × k_M)) (Hb : ∀ (M : k_M), Sm Z G emV (true, 2, 3, 0, 0) (0, 0) 126 [(0, k_ra Z 76)] [] M (kb M)) (Hx207 : ∀ (M : k_M), Sm Z G emV (true, 2, 3, 0, 0) (0, 0) 207 [(0, k_ra Z 76)] [] M (kx207 M)) (t1 : Int64) (M : k_M) : Sm Z G emV (true, 2, 3, 0, 0) (0, 0) 191 [(0, k_ra Z 76)] [Value.long t1, k_ra Z 76] M (f_X12_advance_191 t1 M kb kx207) := by
  show Sm Z G emV _ _ _ _ _ _ (bN (sJ M 76 16 t1) (fun M1 => bN (sI M1 76 15 ((M1.1 76 15) + 1)) (fun M2 => kb M2)))
  refine x_putJ C (a := 76) (j := 16) rfl rfl (by decide) fl_RX12_135 rfl pt_10_16 tb_10 (k_dg dt_X12_advance_2 17 191 (.putfield 135) 3 rfl) (fun M1 => ?_)
  refine x_aload_n C (k_dg dt_X12_advance_2 18 194 (.aload_n 0) 1 rfl) 0 rfl ?_
  refine x_dup C (k_dg dt_X12_advance_2 19 195 (.dup) 1 rfl) rfl ?_
  refine x_getI C (a := 76) (j := 15) rfl rfl (by decide) fl_RX12_115 rfl (k_dg dt_X12_advance_2 20 196 (.getfield 115) 3 rfl) ?_
  refine x_iconst C (v := 1) (k_dg dt_X12_advance_2 21 199 (.iconst 1) 1 rfl) (by decide) ?_
  refine x_iadd C (k_dg dt_X12_advance_2 22 200 (.iadd) 1 rfl) ?_
  refine x_putI C (a := 76) (j := 15) rfl rfl (by decide) fl_RX12_115 rfl pt_10_15 tb_10 rfl rfl (k_dg dt_X12_advance_2 23 201 (.putfield 115) 3 rfl) (fun M2 => ?_)
  refine x_goto C (tgt := 126) (k_dg dt_X12_advance_2 24 204 (.goto (-78)) 3 rfl) (by decide) ?_
  exact Hb M2
def f_X12_advance_126 : Nat → k_M → (k_M → Option (Unit × k_M)) → Option (Unit × k_M)
  | 0, _, _ => none
  | n + 1, M, kx207 => if (M.1 76 13) = 1 then bd (f_X12_byteAt (M.1 76 15) M) (fun r1 M2 => bd (f_X12_isLetter r1 M2) (fun r3 M4 => if r3 = 0 then kx207 M4 else if 8 ≤ ((M4.1 76 15) - (M4.1 76 14)) then f_X12_advance_191 (-1) M4 ((fun M_ => f_X12_advance_126 n M_ kx207)) kx207 else bd (f_X12_byteAt (M4.1 76 15) M4) (fun r5 M6 => f_X12_advance_191 (((27 * (M4.2.1 76 16)) + r5.toInt64) - 96) M6 ((fun M_ => f_X12_advance_126 n M_ kx207)) kx207))) else kx207 M
theorem m_X12_advance_126 {Z : k_Z} {G : k_G} (C : k_C Z G RX12 cX12_advance (true, 2, 3, 0, 0) none "advance") (kx207 : k_M → Option (Unit × k_M)) (Hx207 : ∀ (M : k_M), Sm Z G emV (true, 2, 3, 0, 0) (0, 0) 207 [(0, k_ra Z 76)] [] M (kx207 M)) : ∀ (n : Nat) (M : k_M), Sm Z G emV (true, 2, 3, 0, 0) (0, 0) 126 [(0, k_ra Z 76)] [] M (f_X12_advance_126 n M kx207)
  | 0, _ => x_none
  | n + 1, M => by
    have ih := m_X12_advance_126 C kx207 Hx207 n
    show Sm Z G emV _ _ _ _ _ _ (if (M.1 76 13) = 1 then bd (f_X12_byteAt (M.1 76 15) M) (fun r1 M2 => bd (f_X12_isLetter r1 M2) (fun r3 M4 => if r3 = 0 then kx207 M4 else if 8 ≤ ((M4.1 76 15) - (M4.1 76 14)) then f_X12_advance_191 (-1) M4 ((fun M_ => f_X12_advance_126 n M_ kx207)) kx207 else bd (f_X12_byteAt (M4.1 76 15) M4) (fun r5 M6 => f_X12_advance_191 (((27 * (M4.2.1 76 16)) + r5.toInt64) - 96) M6 ((fun M_ => f_X12_advance_126 n M_ kx207)) kx207))) else kx207 M)
    refine x_aload_n C (k_dg dt_X12_advance_1 25 126 (.aload_n 0) 1 rfl) 0 rfl ?_
    refine x_getI C (a := 76) (j := 13) rfl rfl (by decide) fl_RX12_132 rfl (k_dg dt_X12_advance_1 26 127 (.getfield 132) 3 rfl) ?_
    refine x_iconst C (v := 1) (k_dg dt_X12_advance_1 27 130 (.iconst 1) 1 rfl) (by decide) ?_
    refine x_icmp_ne C (tgt := 207) (k_dg dt_X12_advance_1 28 131 (.if_icmp .ne 76) 3 rfl) (by decide) (fun _ => ?_) (fun _ => ?_)
    · refine x_aload_n C (k_dg dt_X12_advance_1 29 134 (.aload_n 0) 1 rfl) 0 rfl ?_
      refine x_aload_n C (k_dg dt_X12_advance_1 30 135 (.aload_n 0) 1 rfl) 0 rfl ?_
      refine x_getI C (a := 76) (j := 15) rfl rfl (by decide) fl_RX12_115 rfl (k_dg dt_X12_advance_1 31 136 (.getfield 115) 3 rfl) ?_
      refine x_callV C (a := 76) (kd := 10) (vs := [Value.int (M.1 76 15)]) (rest := []) rfl rfl (by decide) (fun r hr => by cases hr; rfl) (c_X12_byteAt C.2.2.2.2.2.2.2.2.2 G.2.1 (M.1 76 15) M) cy_X12_byteAt lk_RX12_121 im_X12_byteAt se_X12_byteAt (by decide) (by decide) (by decide) (by decide) rfl rfl (Nat.le_of_ble_eq_true rfl) (k_dg dt_X12_advance_1 32 139 (.invokevirtual 121) 3 rfl) (fun r1 M2 => ?_)
      show Sm Z G _ _ _ _ [(0, k_ra Z 76)] [Value.int r1] _ _
      refine x_callS C (vs := [Value.int r1]) (rest := []) (c_X12_isLetter C.2.2.2.2.2.2.2.2.2 G.2.1 r1 M2) cy_X12_isLetter lk_RX12_125 stt_X12_isLetter (by decide) (by decide) (by decide) (by decide) rfl rfl (Nat.le_of_ble_eq_true rfl) (k_dg dt_X12_advance_1 33 142 (.invokestatic 125) 3 rfl) (fun r3 M4 => ?_)
      show Sm Z G _ _ _ _ [(0, k_ra Z 76)] [Value.int r3] _ _
      refine x_if_eq C (tgt := 207) (k_dg dt_X12_advance_1 34 145 (.ifCond .eq 62) 3 rfl) (by decide) (fun _ => ?_) (fun _ => ?_)
      · exact Hx207 M4
      · refine x_aload_n C (k_dg dt_X12_advance_1 35 148 (.aload_n 0) 1 rfl) 0 rfl ?_
        refine x_aload_n C (k_dg dt_X12_advance_1 36 149 (.aload_n 0) 1 rfl) 0 rfl ?_
        refine x_getI C (a := 76) (j := 15) rfl rfl (by decide) fl_RX12_115 rfl (k_dg dt_X12_advance_1 37 150 (.getfield 115) 3 rfl) ?_
        refine x_aload_n C (k_dg dt_X12_advance_1 38 153 (.aload_n 0) 1 rfl) 0 rfl ?_
        refine x_getI C (a := 76) (j := 14) rfl rfl (by decide) fl_RX12_118 rfl (k_dg dt_X12_advance_1 39 154 (.getfield 118) 3 rfl) ?_
        refine x_isub C (k_dg dt_X12_advance_2 0 157 (.isub) 1 rfl) ?_
        refine x_bipush C (v := 8) (k_dg dt_X12_advance_2 1 158 (.bipush 8) 2 rfl) (by decide) ?_
        refine x_icmp_ge C (tgt := 188) (k_dg dt_X12_advance_2 2 160 (.if_icmp .ge 28) 3 rfl) (by decide) (fun _ => ?_) (fun _ => ?_)
        · refine x_ldc2 C (v := -1) ct_RX12_146 (k_dg dt_X12_advance_2 16 188 (.ldc2_w 146) 3 rfl) ?_
          exact m_X12_advance_191 C ((fun M_ => f_X12_advance_126 n M_ kx207)) kx207 ih Hx207 (-1) M4
        · refine x_ldc2 C (v := 27) ct_RX12_142 (k_dg dt_X12_advance_2 3 163 (.ldc2_w 142) 3 rfl) ?_
          refine x_aload_n C (k_dg dt_X12_advance_2 4 166 (.aload_n 0) 1 rfl) 0 rfl ?_
          refine x_getJ C (a := 76) (j := 16) rfl rfl (by decide) fl_RX12_135 rfl (k_dg dt_X12_advance_2 5 167 (.getfield 135) 3 rfl) ?_
          refine x_lmul C (k_dg dt_X12_advance_2 6 170 (.lmul) 1 rfl) ?_
          refine x_aload_n C (k_dg dt_X12_advance_2 7 171 (.aload_n 0) 1 rfl) 0 rfl ?_
          refine x_aload_n C (k_dg dt_X12_advance_2 8 172 (.aload_n 0) 1 rfl) 0 rfl ?_
          refine x_getI C (a := 76) (j := 15) rfl rfl (by decide) fl_RX12_115 rfl (k_dg dt_X12_advance_2 9 173 (.getfield 115) 3 rfl) ?_
          refine x_callV C (a := 76) (kd := 10) (vs := [Value.int (M4.1 76 15)]) (rest := [Value.long (27 * (M4.2.1 76 16)), k_ra Z 76]) rfl rfl (by decide) (fun r hr => by cases hr; rfl) (c_X12_byteAt C.2.2.2.2.2.2.2.2.2 G.2.1 (M4.1 76 15) M4) cy_X12_byteAt lk_RX12_121 im_X12_byteAt se_X12_byteAt (by decide) (by decide) (by decide) (by decide) rfl rfl (Nat.le_of_ble_eq_true rfl) (k_dg dt_X12_advance_2 10 176 (.invokevirtual 121) 3 rfl) (fun r5 M6 => ?_)
          show Sm Z G _ _ _ _ [(0, k_ra Z 76)] [Value.int r5, Value.long (27 * (M4.2.1 76 16)), k_ra Z 76] _ _
          refine x_i2l C (k_dg dt_X12_advance_2 11 179 (.i2l) 1 rfl) ?_
          refine x_ladd C (k_dg dt_X12_advance_2 12 180 (.ladd) 1 rfl) ?_
          refine x_ldc2 C (v := 96) ct_RX12_144 (k_dg dt_X12_advance_2 13 181 (.ldc2_w 144) 3 rfl) ?_
          refine x_lsub C (k_dg dt_X12_advance_2 14 184 (.lsub) 1 rfl) ?_
          refine x_goto C (tgt := 191) (k_dg dt_X12_advance_2 15 185 (.goto 6) 3 rfl) (by decide) ?_
          exact m_X12_advance_191 C ((fun M_ => f_X12_advance_126 n M_ kx207)) kx207 ih Hx207 (((27 * (M4.2.1 76 16)) + r5.toInt64) - 96) M6
    · exact Hx207 M
def f_X12_advance_266 (t1 : Int32) (M : k_M) (kb : k_M → Option (Unit × k_M)) (kx282 : k_M → Option (Unit × k_M)) : Option (Unit × k_M) := bN (sI M 76 17 t1) (fun M1 => bN (sI M1 76 15 ((M1.1 76 15) + 1)) (fun M2 => kb M2))
theorem m_X12_advance_266 {Z : k_Z} {G : k_G} (C : k_C Z G RX12 cX12_advance (true, 2, 3, 0, 0) none "advance") (kb : k_M → Option (Unit × k_M)) (kx282 : k_M → Option (Unit × k_M)) (Hb : ∀ (M : k_M), Sm Z G emV (true, 2, 3, 0, 0) (0, 0) 207 [(0, k_ra Z 76)] [] M (kb M)) (Hx282 : ∀ (M : k_M), Sm Z G emV (true, 2, 3, 0, 0) (0, 0) 282 [] [] M (kx282 M)) (t1 : Int32) (M : k_M) : Sm Z G emV (true, 2, 3, 0, 0) (0, 0) 266 [(0, k_ra Z 76)] [Value.int t1, k_ra Z 76] M (f_X12_advance_266 t1 M kb kx282) := by
  show Sm Z G emV _ _ _ _ _ _ (bN (sI M 76 17 t1) (fun M1 => bN (sI M1 76 15 ((M1.1 76 15) + 1)) (fun M2 => kb M2)))
  refine x_putI C (a := 76) (j := 17) rfl rfl (by decide) fl_RX12_139 rfl pt_10_17 tb_10 rfl rfl (k_dg dt_X12_advance_3 16 266 (.putfield 139) 3 rfl) (fun M1 => ?_)
  refine x_aload_n C (k_dg dt_X12_advance_3 17 269 (.aload_n 0) 1 rfl) 0 rfl ?_
  refine x_dup C (k_dg dt_X12_advance_3 18 270 (.dup) 1 rfl) rfl ?_
  refine x_getI C (a := 76) (j := 15) rfl rfl (by decide) fl_RX12_115 rfl (k_dg dt_X12_advance_3 19 271 (.getfield 115) 3 rfl) ?_
  refine x_iconst C (v := 1) (k_dg dt_X12_advance_3 20 274 (.iconst 1) 1 rfl) (by decide) ?_
  refine x_iadd C (k_dg dt_X12_advance_3 21 275 (.iadd) 1 rfl) ?_
  refine x_putI C (a := 76) (j := 15) rfl rfl (by decide) fl_RX12_115 rfl pt_10_15 tb_10 rfl rfl (k_dg dt_X12_advance_3 22 276 (.putfield 115) 3 rfl) (fun M2 => ?_)
  refine x_goto C (tgt := 207) (k_dg dt_X12_advance_3 23 279 (.goto (-72)) 3 rfl) (by decide) ?_
  exact Hb M2
def f_X12_advance_207 : Nat → k_M → (k_M → Option (Unit × k_M)) → Option (Unit × k_M)
  | 0, _, _ => none
  | n + 1, M, kx282 => if (M.1 76 13) = 2 then bd (f_X12_byteAt (M.1 76 15) M) (fun r1 M2 => bd (f_X12_isDigit r1 M2) (fun r3 M4 => if r3 = 0 then kx282 M4 else if 2 ≤ ((M4.1 76 15) - (M4.1 76 14)) then f_X12_advance_266 (-1) M4 ((fun M_ => f_X12_advance_207 n M_ kx282)) kx282 else bd (f_X12_byteAt (M4.1 76 15) M4) (fun r5 M6 => f_X12_advance_266 (((10 * (M4.1 76 17)) + r5) - 48) M6 ((fun M_ => f_X12_advance_207 n M_ kx282)) kx282))) else kx282 M
theorem m_X12_advance_207 {Z : k_Z} {G : k_G} (C : k_C Z G RX12 cX12_advance (true, 2, 3, 0, 0) none "advance") (kx282 : k_M → Option (Unit × k_M)) (Hx282 : ∀ (M : k_M), Sm Z G emV (true, 2, 3, 0, 0) (0, 0) 282 [] [] M (kx282 M)) : ∀ (n : Nat) (M : k_M), Sm Z G emV (true, 2, 3, 0, 0) (0, 0) 207 [(0, k_ra Z 76)] [] M (f_X12_advance_207 n M kx282)
  | 0, _ => x_none
  | n + 1, M => by
    have ih := m_X12_advance_207 C kx282 Hx282 n
    show Sm Z G emV _ _ _ _ _ _ (if (M.1 76 13) = 2 then bd (f_X12_byteAt (M.1 76 15) M) (fun r1 M2 => bd (f_X12_isDigit r1 M2) (fun r3 M4 => if r3 = 0 then kx282 M4 else if 2 ≤ ((M4.1 76 15) - (M4.1 76 14)) then f_X12_advance_266 (-1) M4 ((fun M_ => f_X12_advance_207 n M_ kx282)) kx282 else bd (f_X12_byteAt (M4.1 76 15) M4) (fun r5 M6 => f_X12_advance_266 (((10 * (M4.1 76 17)) + r5) - 48) M6 ((fun M_ => f_X12_advance_207 n M_ kx282)) kx282))) else kx282 M)
    refine x_aload_n C (k_dg dt_X12_advance_2 25 207 (.aload_n 0) 1 rfl) 0 rfl ?_
    refine x_getI C (a := 76) (j := 13) rfl rfl (by decide) fl_RX12_132 rfl (k_dg dt_X12_advance_2 26 208 (.getfield 132) 3 rfl) ?_
    refine x_iconst C (v := 2) (k_dg dt_X12_advance_2 27 211 (.iconst 2) 1 rfl) (by decide) ?_
    refine x_icmp_ne C (tgt := 282) (k_dg dt_X12_advance_2 28 212 (.if_icmp .ne 70) 3 rfl) (by decide) (fun _ => ?_) (fun _ => ?_)
    · refine x_aload_n C (k_dg dt_X12_advance_2 29 215 (.aload_n 0) 1 rfl) 0 rfl ?_
      refine x_aload_n C (k_dg dt_X12_advance_2 30 216 (.aload_n 0) 1 rfl) 0 rfl ?_
      refine x_getI C (a := 76) (j := 15) rfl rfl (by decide) fl_RX12_115 rfl (k_dg dt_X12_advance_2 31 217 (.getfield 115) 3 rfl) ?_
      refine x_callV C (a := 76) (kd := 10) (vs := [Value.int (M.1 76 15)]) (rest := []) rfl rfl (by decide) (fun r hr => by cases hr; rfl) (c_X12_byteAt C.2.2.2.2.2.2.2.2.2 G.2.1 (M.1 76 15) M) cy_X12_byteAt lk_RX12_121 im_X12_byteAt se_X12_byteAt (by decide) (by decide) (by decide) (by decide) rfl rfl (Nat.le_of_ble_eq_true rfl) (k_dg dt_X12_advance_2 32 220 (.invokevirtual 121) 3 rfl) (fun r1 M2 => ?_)
      show Sm Z G _ _ _ _ [(0, k_ra Z 76)] [Value.int r1] _ _
      refine x_callS C (vs := [Value.int r1]) (rest := []) (c_X12_isDigit C.2.2.2.2.2.2.2.2.2 G.2.1 r1 M2) cy_X12_isDigit lk_RX12_129 stt_X12_isDigit (by decide) (by decide) (by decide) (by decide) rfl rfl (Nat.le_of_ble_eq_true rfl) (k_dg dt_X12_advance_2 33 223 (.invokestatic 129) 3 rfl) (fun r3 M4 => ?_)
      show Sm Z G _ _ _ _ [(0, k_ra Z 76)] [Value.int r3] _ _
      refine x_if_eq C (tgt := 282) (k_dg dt_X12_advance_2 34 226 (.ifCond .eq 56) 3 rfl) (by decide) (fun _ => ?_) (fun _ => ?_)
      · refine x_lv [] rfl ?_
        exact Hx282 M4
      · refine x_aload_n C (k_dg dt_X12_advance_2 35 229 (.aload_n 0) 1 rfl) 0 rfl ?_
        refine x_aload_n C (k_dg dt_X12_advance_2 36 230 (.aload_n 0) 1 rfl) 0 rfl ?_
        refine x_getI C (a := 76) (j := 15) rfl rfl (by decide) fl_RX12_115 rfl (k_dg dt_X12_advance_2 37 231 (.getfield 115) 3 rfl) ?_
        refine x_aload_n C (k_dg dt_X12_advance_2 38 234 (.aload_n 0) 1 rfl) 0 rfl ?_
        refine x_getI C (a := 76) (j := 14) rfl rfl (by decide) fl_RX12_118 rfl (k_dg dt_X12_advance_2 39 235 (.getfield 118) 3 rfl) ?_
        refine x_isub C (k_dg dt_X12_advance_3 0 238 (.isub) 1 rfl) ?_
        refine x_iconst C (v := 2) (k_dg dt_X12_advance_3 1 239 (.iconst 2) 1 rfl) (by decide) ?_
        refine x_icmp_ge C (tgt := 265) (k_dg dt_X12_advance_3 2 240 (.if_icmp .ge 25) 3 rfl) (by decide) (fun _ => ?_) (fun _ => ?_)
        · refine x_iconst C (v := -1) (k_dg dt_X12_advance_3 15 265 (.iconst (-1)) 1 rfl) (by decide) ?_
          exact m_X12_advance_266 C ((fun M_ => f_X12_advance_207 n M_ kx282)) kx282 ih Hx282 (-1) M4
        · refine x_bipush C (v := 10) (k_dg dt_X12_advance_3 3 243 (.bipush 10) 2 rfl) (by decide) ?_
          refine x_aload_n C (k_dg dt_X12_advance_3 4 245 (.aload_n 0) 1 rfl) 0 rfl ?_
          refine x_getI C (a := 76) (j := 17) rfl rfl (by decide) fl_RX12_139 rfl (k_dg dt_X12_advance_3 5 246 (.getfield 139) 3 rfl) ?_
          refine x_imul C (k_dg dt_X12_advance_3 6 249 (.imul) 1 rfl) ?_
          refine x_aload_n C (k_dg dt_X12_advance_3 7 250 (.aload_n 0) 1 rfl) 0 rfl ?_
          refine x_aload_n C (k_dg dt_X12_advance_3 8 251 (.aload_n 0) 1 rfl) 0 rfl ?_
          refine x_getI C (a := 76) (j := 15) rfl rfl (by decide) fl_RX12_115 rfl (k_dg dt_X12_advance_3 9 252 (.getfield 115) 3 rfl) ?_
          refine x_callV C (a := 76) (kd := 10) (vs := [Value.int (M4.1 76 15)]) (rest := [Value.int (10 * (M4.1 76 17)), k_ra Z 76]) rfl rfl (by decide) (fun r hr => by cases hr; rfl) (c_X12_byteAt C.2.2.2.2.2.2.2.2.2 G.2.1 (M4.1 76 15) M4) cy_X12_byteAt lk_RX12_121 im_X12_byteAt se_X12_byteAt (by decide) (by decide) (by decide) (by decide) rfl rfl (Nat.le_of_ble_eq_true rfl) (k_dg dt_X12_advance_3 10 255 (.invokevirtual 121) 3 rfl) (fun r5 M6 => ?_)
          show Sm Z G _ _ _ _ [(0, k_ra Z 76)] [Value.int r5, Value.int (10 * (M4.1 76 17)), k_ra Z 76] _ _
          refine x_iadd C (k_dg dt_X12_advance_3 11 258 (.iadd) 1 rfl) ?_
          refine x_bipush C (v := 48) (k_dg dt_X12_advance_3 12 259 (.bipush 48) 2 rfl) (by decide) ?_
          refine x_isub C (k_dg dt_X12_advance_3 13 261 (.isub) 1 rfl) ?_
          refine x_goto C (tgt := 266) (k_dg dt_X12_advance_3 14 262 (.goto 4) 3 rfl) (by decide) ?_
          exact m_X12_advance_266 C ((fun M_ => f_X12_advance_207 n M_ kx282)) kx282 ih Hx282 (((10 * (M4.1 76 17)) + r5) - 48) M6
    · refine x_lv [] rfl ?_
      exact Hx282 M
def f_X12_advance_282 (M : k_M) : Option (Unit × k_M) := some ((), M)
theorem m_X12_advance_282 {Z : k_Z} {G : k_G} (C : k_C Z G RX12 cX12_advance (true, 2, 3, 0, 0) none "advance") (M : k_M) : Sm Z G emV (true, 2, 3, 0, 0) (0, 0) 282 [] [] M (f_X12_advance_282 M) := by
  show Sm Z G emV _ _ _ _ _ _ (some ((), M))
  exact x_vret C (by decide) (by decide) (k_dg dt_X12_advance_3 24 282 (.return_) 1 rfl)
def f_X12_advance_105 (t1 : Int32) (M : k_M) : Option (Unit × k_M) := bN (sI M 76 17 t1) (fun M1 => if (M1.1 76 13) = 3 then bN (sI M1 76 15 ((M1.1 76 15) + 1)) (fun M2 => f_X12_advance_126 k_fu M2 (fun M_ => f_X12_advance_207 k_fu M_ (fun M_ => f_X12_advance_282 M_))) else f_X12_advance_126 k_fu M1 (fun M_ => f_X12_advance_207 k_fu M_ (fun M_ => f_X12_advance_282 M_)))
theorem m_X12_advance_105 {Z : k_Z} {G : k_G} (C : k_C Z G RX12 cX12_advance (true, 2, 3, 0, 0) none "advance") (t1 : Int32) (M : k_M) : Sm Z G emV (true, 2, 3, 0, 0) (0, 0) 105 [(0, k_ra Z 76)] [Value.int t1, k_ra Z 76] M (f_X12_advance_105 t1 M) := by
  show Sm Z G emV _ _ _ _ _ _ (bN (sI M 76 17 t1) (fun M1 => if (M1.1 76 13) = 3 then bN (sI M1 76 15 ((M1.1 76 15) + 1)) (fun M2 => f_X12_advance_126 k_fu M2 (fun M_ => f_X12_advance_207 k_fu M_ (fun M_ => f_X12_advance_282 M_))) else f_X12_advance_126 k_fu M1 (fun M_ => f_X12_advance_207 k_fu M_ (fun M_ => f_X12_advance_282 M_))))
  refine x_putI C (a := 76) (j := 17) rfl rfl (by decide) fl_RX12_139 rfl pt_10_17 tb_10 rfl rfl (k_dg dt_X12_advance_1 14 105 (.putfield 139) 3 rfl) (fun M1 => ?_)
  refine x_aload_n C (k_dg dt_X12_advance_1 15 108 (.aload_n 0) 1 rfl) 0 rfl ?_
  refine x_getI C (a := 76) (j := 13) rfl rfl (by decide) fl_RX12_132 rfl (k_dg dt_X12_advance_1 16 109 (.getfield 132) 3 rfl) ?_
  refine x_iconst C (v := 3) (k_dg dt_X12_advance_1 17 112 (.iconst 3) 1 rfl) (by decide) ?_
  refine x_icmp_ne C (tgt := 126) (k_dg dt_X12_advance_1 18 113 (.if_icmp .ne 13) 3 rfl) (by decide) (fun _ => ?_) (fun _ => ?_)
  · refine x_aload_n C (k_dg dt_X12_advance_1 19 116 (.aload_n 0) 1 rfl) 0 rfl ?_
    refine x_dup C (k_dg dt_X12_advance_1 20 117 (.dup) 1 rfl) rfl ?_
    refine x_getI C (a := 76) (j := 15) rfl rfl (by decide) fl_RX12_115 rfl (k_dg dt_X12_advance_1 21 118 (.getfield 115) 3 rfl) ?_
    refine x_iconst C (v := 1) (k_dg dt_X12_advance_1 22 121 (.iconst 1) 1 rfl) (by decide) ?_
    refine x_iadd C (k_dg dt_X12_advance_1 23 122 (.iadd) 1 rfl) ?_
    refine x_putI C (a := 76) (j := 15) rfl rfl (by decide) fl_RX12_115 rfl pt_10_15 tb_10 rfl rfl (k_dg dt_X12_advance_1 24 123 (.putfield 115) 3 rfl) (fun M2 => ?_)
    exact m_X12_advance_126 C (fun M_ => f_X12_advance_207 k_fu M_ (fun M_ => f_X12_advance_282 M_)) (fun M_ => m_X12_advance_207 C (fun M_ => f_X12_advance_282 M_) (fun M_ => m_X12_advance_282 C M_) k_fu M_) k_fu M2
  · exact m_X12_advance_126 C (fun M_ => f_X12_advance_207 k_fu M_ (fun M_ => f_X12_advance_282 M_)) (fun M_ => m_X12_advance_207 C (fun M_ => f_X12_advance_282 M_) (fun M_ => m_X12_advance_282 C M_) k_fu M_) k_fu M1
def f_X12_advance_83 (l1 : Int32) (t1 : Int32) (M : k_M) : Option (Unit × k_M) := bN (sI M 76 13 t1) (fun M1 => bN (sJ M1 76 16 0) (fun M2 => if (M2.1 76 13) = 2 then f_X12_advance_105 0 M2 else f_X12_advance_105 l1 M2))
theorem m_X12_advance_83 {Z : k_Z} {G : k_G} (C : k_C Z G RX12 cX12_advance (true, 2, 3, 0, 0) none "advance") (l1 : Int32) (t1 : Int32) (M : k_M) : Sm Z G emV (true, 2, 3, 0, 0) (0, 0) 83 [(0, k_ra Z 76), (1, Value.int l1)] [Value.int t1, k_ra Z 76] M (f_X12_advance_83 l1 t1 M) := by
  show Sm Z G emV _ _ _ _ _ _ (bN (sI M 76 13 t1) (fun M1 => bN (sJ M1 76 16 0) (fun M2 => if (M2.1 76 13) = 2 then f_X12_advance_105 0 M2 else f_X12_advance_105 l1 M2)))
  refine x_putI C (a := 76) (j := 13) rfl rfl (by decide) fl_RX12_132 rfl pt_10_13 tb_10 rfl rfl (k_dg dt_X12_advance_1 2 83 (.putfield 132) 3 rfl) (fun M1 => ?_)
  refine x_aload_n C (k_dg dt_X12_advance_1 3 86 (.aload_n 0) 1 rfl) 0 rfl ?_
  refine x_lconst C (v := 0) (k_dg dt_X12_advance_1 4 87 (.lconst 0) 1 rfl) (by decide) ?_
  refine x_putJ C (a := 76) (j := 16) rfl rfl (by decide) fl_RX12_135 rfl pt_10_16 tb_10 (k_dg dt_X12_advance_1 5 88 (.putfield 135) 3 rfl) (fun M2 => ?_)
  refine x_aload_n C (k_dg dt_X12_advance_1 6 91 (.aload_n 0) 1 rfl) 0 rfl ?_
  refine x_aload_n C (k_dg dt_X12_advance_1 7 92 (.aload_n 0) 1 rfl) 0 rfl ?_
  refine x_getI C (a := 76) (j := 13) rfl rfl (by decide) fl_RX12_132 rfl (k_dg dt_X12_advance_1 8 93 (.getfield 132) 3 rfl) ?_
  refine x_iconst C (v := 2) (k_dg dt_X12_advance_1 9 96 (.iconst 2) 1 rfl) (by decide) ?_
  refine x_icmp_ne C (tgt := 104) (k_dg dt_X12_advance_1 10 97 (.if_icmp .ne 7) 3 rfl) (by decide) (fun _ => ?_) (fun _ => ?_)
  · refine x_iconst C (v := 0) (k_dg dt_X12_advance_1 11 100 (.iconst 0) 1 rfl) (by decide) ?_
    refine x_goto C (tgt := 105) (k_dg dt_X12_advance_1 12 101 (.goto 4) 3 rfl) (by decide) ?_
    refine x_lv [0] rfl ?_
    exact m_X12_advance_105 C 0 M2
  · refine x_iload_n C (k_dg dt_X12_advance_1 13 104 (.iload_n 1) 1 rfl) 1 rfl ?_
    refine x_lv [0] rfl ?_
    exact m_X12_advance_105 C l1 M2
def f_X12_advance_34 (M : k_M) : Option (Unit × k_M) := bN (sI M 76 15 (M.1 76 14)) (fun M1 => bd (f_X12_byteAt (M1.1 76 14) M1) (fun r2 M3 => if 0 ≤ r2 then bd (f_X12_isLetter r2 M3) (fun r4 M5 => if r4 = 0 then bd (f_X12_isDigit r2 M5) (fun r6 M7 => if r6 = 0 then f_X12_advance_83 r2 3 M7 else f_X12_advance_83 r2 2 M7) else f_X12_advance_83 r2 1 M5) else f_X12_advance_83 r2 0 M3))
theorem m_X12_advance_34 {Z : k_Z} {G : k_G} (C : k_C Z G RX12 cX12_advance (true, 2, 3, 0, 0) none "advance") (M : k_M) : Sm Z G emV (true, 2, 3, 0, 0) (0, 0) 34 [(0, k_ra Z 76)] [] M (f_X12_advance_34 M) := by
  show Sm Z G emV _ _ _ _ _ _ (bN (sI M 76 15 (M.1 76 14)) (fun M1 => bd (f_X12_byteAt (M1.1 76 14) M1) (fun r2 M3 => if 0 ≤ r2 then bd (f_X12_isLetter r2 M3) (fun r4 M5 => if r4 = 0 then bd (f_X12_isDigit r2 M5) (fun r6 M7 => if r6 = 0 then f_X12_advance_83 r2 3 M7 else f_X12_advance_83 r2 2 M7) else f_X12_advance_83 r2 1 M5) else f_X12_advance_83 r2 0 M3)))
  refine x_aload_n C (k_dg dt_X12_advance_0 17 34 (.aload_n 0) 1 rfl) 0 rfl ?_
  refine x_aload_n C (k_dg dt_X12_advance_0 18 35 (.aload_n 0) 1 rfl) 0 rfl ?_
  refine x_getI C (a := 76) (j := 14) rfl rfl (by decide) fl_RX12_118 rfl (k_dg dt_X12_advance_0 19 36 (.getfield 118) 3 rfl) ?_
  refine x_putI C (a := 76) (j := 15) rfl rfl (by decide) fl_RX12_115 rfl pt_10_15 tb_10 rfl rfl (k_dg dt_X12_advance_0 20 39 (.putfield 115) 3 rfl) (fun M1 => ?_)
  refine x_aload_n C (k_dg dt_X12_advance_0 21 42 (.aload_n 0) 1 rfl) 0 rfl ?_
  refine x_aload_n C (k_dg dt_X12_advance_0 22 43 (.aload_n 0) 1 rfl) 0 rfl ?_
  refine x_getI C (a := 76) (j := 14) rfl rfl (by decide) fl_RX12_118 rfl (k_dg dt_X12_advance_0 23 44 (.getfield 118) 3 rfl) ?_
  refine x_callV C (a := 76) (kd := 10) (vs := [Value.int (M1.1 76 14)]) (rest := []) rfl rfl (by decide) (fun r hr => by cases hr; rfl) (c_X12_byteAt C.2.2.2.2.2.2.2.2.2 G.2.1 (M1.1 76 14) M1) cy_X12_byteAt lk_RX12_121 im_X12_byteAt se_X12_byteAt (by decide) (by decide) (by decide) (by decide) rfl rfl (Nat.le_of_ble_eq_true rfl) (k_dg dt_X12_advance_0 24 47 (.invokevirtual 121) 3 rfl) (fun r2 M3 => ?_)
  show Sm Z G _ _ _ _ [(0, k_ra Z 76)] [Value.int r2] _ _
  refine x_istore_n C (lv' := [(1, Value.int r2), (0, k_ra Z 76)]) (k_dg dt_X12_advance_0 25 50 (.istore_n 1) 1 rfl) (by decide) rfl ?_
  refine x_aload_n C (k_dg dt_X12_advance_0 26 51 (.aload_n 0) 1 rfl) 1 rfl ?_
  refine x_iload_n C (k_dg dt_X12_advance_0 27 52 (.iload_n 1) 1 rfl) 0 rfl ?_
  refine x_if_ge C (tgt := 60) (k_dg dt_X12_advance_0 28 53 (.ifCond .ge 7) 3 rfl) (by decide) (fun _ => ?_) (fun _ => ?_)
  · refine x_iload_n C (k_dg dt_X12_advance_0 31 60 (.iload_n 1) 1 rfl) 0 rfl ?_
    refine x_callS C (vs := [Value.int r2]) (rest := [k_ra Z 76]) (c_X12_isLetter C.2.2.2.2.2.2.2.2.2 G.2.1 r2 M3) cy_X12_isLetter lk_RX12_125 stt_X12_isLetter (by decide) (by decide) (by decide) (by decide) rfl rfl (Nat.le_of_ble_eq_true rfl) (k_dg dt_X12_advance_0 32 61 (.invokestatic 125) 3 rfl) (fun r4 M5 => ?_)
    show Sm Z G _ _ _ _ [(1, Value.int r2), (0, k_ra Z 76)] [Value.int r4, k_ra Z 76] _ _
    refine x_if_eq C (tgt := 71) (k_dg dt_X12_advance_0 33 64 (.ifCond .eq 7) 3 rfl) (by decide) (fun _ => ?_) (fun _ => ?_)
    · refine x_iload_n C (k_dg dt_X12_advance_0 36 71 (.iload_n 1) 1 rfl) 0 rfl ?_
      refine x_callS C (vs := [Value.int r2]) (rest := [k_ra Z 76]) (c_X12_isDigit C.2.2.2.2.2.2.2.2.2 G.2.1 r2 M5) cy_X12_isDigit lk_RX12_129 stt_X12_isDigit (by decide) (by decide) (by decide) (by decide) rfl rfl (Nat.le_of_ble_eq_true rfl) (k_dg dt_X12_advance_0 37 72 (.invokestatic 129) 3 rfl) (fun r6 M7 => ?_)
      show Sm Z G _ _ _ _ [(1, Value.int r2), (0, k_ra Z 76)] [Value.int r6, k_ra Z 76] _ _
      refine x_if_eq C (tgt := 82) (k_dg dt_X12_advance_0 38 75 (.ifCond .eq 7) 3 rfl) (by decide) (fun _ => ?_) (fun _ => ?_)
      · refine x_iconst C (v := 3) (k_dg dt_X12_advance_1 1 82 (.iconst 3) 1 rfl) (by decide) ?_
        refine x_lv [1, 0] rfl ?_
        exact m_X12_advance_83 C r2 3 M7
      · refine x_iconst C (v := 2) (k_dg dt_X12_advance_0 39 78 (.iconst 2) 1 rfl) (by decide) ?_
        refine x_goto C (tgt := 83) (k_dg dt_X12_advance_1 0 79 (.goto 4) 3 rfl) (by decide) ?_
        refine x_lv [1, 0] rfl ?_
        exact m_X12_advance_83 C r2 2 M7
    · refine x_iconst C (v := 1) (k_dg dt_X12_advance_0 34 67 (.iconst 1) 1 rfl) (by decide) ?_
      refine x_goto C (tgt := 83) (k_dg dt_X12_advance_0 35 68 (.goto 15) 3 rfl) (by decide) ?_
      refine x_lv [1, 0] rfl ?_
      exact m_X12_advance_83 C r2 1 M5
  · refine x_iconst C (v := 0) (k_dg dt_X12_advance_0 29 56 (.iconst 0) 1 rfl) (by decide) ?_
    refine x_goto C (tgt := 83) (k_dg dt_X12_advance_0 30 57 (.goto 26) 3 rfl) (by decide) ?_
    refine x_lv [1, 0] rfl ?_
    exact m_X12_advance_83 C r2 0 M3
def f_X12_advance (M : k_M) : Option (Unit × k_M) := bN (sI M 76 14 (M.1 76 15)) (fun M1 => f_X12_advance_8 k_fu M1 (fun M_ => f_X12_advance_34 M_))
theorem m_X12_advance_0 {Z : k_Z} {G : k_G} (C : k_C Z G RX12 cX12_advance (true, 2, 3, 0, 0) none "advance") (M : k_M) : Sm Z G emV (true, 2, 3, 0, 0) (0, 0) 0 [(0, k_ra Z 76)] [] M (f_X12_advance M) := by
  show Sm Z G emV _ _ _ _ _ _ (bN (sI M 76 14 (M.1 76 15)) (fun M1 => f_X12_advance_8 k_fu M1 (fun M_ => f_X12_advance_34 M_)))
  refine x_aload_n C (k_dg dt_X12_advance_0 0 0 (.aload_n 0) 1 rfl) 0 rfl ?_
  refine x_aload_n C (k_dg dt_X12_advance_0 1 1 (.aload_n 0) 1 rfl) 0 rfl ?_
  refine x_getI C (a := 76) (j := 15) rfl rfl (by decide) fl_RX12_115 rfl (k_dg dt_X12_advance_0 2 2 (.getfield 115) 3 rfl) ?_
  refine x_putI C (a := 76) (j := 14) rfl rfl (by decide) fl_RX12_118 rfl pt_10_14 tb_10 rfl rfl (k_dg dt_X12_advance_0 3 5 (.putfield 118) 3 rfl) (fun M1 => ?_)
  exact m_X12_advance_8 C (fun M_ => f_X12_advance_34 M_) (fun M_ => m_X12_advance_34 C M_) k_fu M1
theorem c_X12_advance {Z : k_Z} (hg : k_Gd Z) (l : Launch) (M : k_M) : Con true Z l yX12_advance cX12_advance 2 none 3 0 0 emV [k_ra Z 76] M (f_X12_advance M) := k_con hg (by decide) (Nat.le_of_ble_eq_true rfl) (fun G hl C => m_X12_advance_0 C M)
theorem dt_X12_isWord_0 : k_dec cX12_isWord [(0, .aload_n 0, 1), (1, .getfield 132, 3), (4, .iconst 1, 1), (5, .if_icmp .ne 16, 3), (8, .aload_n 0, 1), (9, .getfield 135, 3), (12, .lload_n 1, 1), (13, .lcmp, 1), (14, .ifCond .ne 7, 3), (17, .iconst 1, 1), (18, .goto 4, 3), (21, .iconst 0, 1), (22, .ireturn, 1)] = true := by decide +kernel
def f_X12_isWord (p1 : Int64) (M : k_M) : Option (Int32 × k_M) := if (M.1 76 13) = 1 then if (lg_cmp (M.2.1 76 16) p1) = 0 then some (1, M) else some (0, M) else some (0, M)
theorem m_X12_isWord_0 {Z : k_Z} {G : k_G} (C : k_C Z G RX12 cX12_isWord (true, 3, 1, 0, 0) (some .boolean) "isWord") (p1 : Int64) (M : k_M) : Sm Z G emI (true, 3, 1, 0, 0) (0, 0) 0 [(0, k_ra Z 76), (1, Value.long p1)] [] M (f_X12_isWord p1 M) := by
  show Sm Z G emI _ _ _ _ _ _ (if (M.1 76 13) = 1 then if (lg_cmp (M.2.1 76 16) p1) = 0 then some (1, M) else some (0, M) else some (0, M))
  refine x_aload_n C (k_dg dt_X12_isWord_0 0 0 (.aload_n 0) 1 rfl) 0 rfl ?_
  refine x_getI C (a := 76) (j := 13) rfl rfl (by decide) fl_RX12_132 rfl (k_dg dt_X12_isWord_0 1 1 (.getfield 132) 3 rfl) ?_
  refine x_iconst C (v := 1) (k_dg dt_X12_isWord_0 2 4 (.iconst 1) 1 rfl) (by decide) ?_
  refine x_icmp_ne C (tgt := 21) (k_dg dt_X12_isWord_0 3 5 (.if_icmp .ne 16) 3 rfl) (by decide) (fun _ => ?_) (fun _ => ?_)
  · refine x_aload_n C (k_dg dt_X12_isWord_0 4 8 (.aload_n 0) 1 rfl) 0 rfl ?_
    refine x_getJ C (a := 76) (j := 16) rfl rfl (by decide) fl_RX12_135 rfl (k_dg dt_X12_isWord_0 5 9 (.getfield 135) 3 rfl) ?_
    refine x_lload_n C (k_dg dt_X12_isWord_0 6 12 (.lload_n 1) 1 rfl) 1 rfl ?_
    refine x_lcmp C (k_dg dt_X12_isWord_0 7 13 (.lcmp) 1 rfl) ?_
    refine x_if_ne C (tgt := 21) (k_dg dt_X12_isWord_0 8 14 (.ifCond .ne 7) 3 rfl) (by decide) (fun _ => ?_) (fun _ => ?_)
    · refine x_iconst C (v := 1) (k_dg dt_X12_isWord_0 9 17 (.iconst 1) 1 rfl) (by decide) ?_
      refine x_goto C (tgt := 22) (k_dg dt_X12_isWord_0 10 18 (.goto 4) 3 rfl) (by decide) ?_
      exact x_zret C (by decide) (by decide) rfl (k_dg dt_X12_isWord_0 12 22 (.ireturn) 1 rfl)
    · refine x_iconst C (v := 0) (k_dg dt_X12_isWord_0 11 21 (.iconst 0) 1 rfl) (by decide) ?_
      exact x_zret C (by decide) (by decide) rfl (k_dg dt_X12_isWord_0 12 22 (.ireturn) 1 rfl)
  · refine x_iconst C (v := 0) (k_dg dt_X12_isWord_0 11 21 (.iconst 0) 1 rfl) (by decide) ?_
    exact x_zret C (by decide) (by decide) rfl (k_dg dt_X12_isWord_0 12 22 (.ireturn) 1 rfl)
theorem c_X12_isWord {Z : k_Z} (hg : k_Gd Z) (l : Launch) (p1 : Int64) (M : k_M) : Con true Z l yX12_isWord cX12_isWord 3 (some .boolean) 1 0 0 emI [k_ra Z 76, Value.long p1] M (f_X12_isWord p1 M) := k_con hg (by decide) (Nat.le_of_ble_eq_true rfl) (fun G hl C => m_X12_isWord_0 C p1 M)
theorem dt_X12_kindHere_0 : k_dec cX12_kindHere [(0, .aload_n 0, 1), (1, .ldc2_w 148, 3), (4, .invokevirtual 150, 3), (7, .ifCond .eq 7, 3), (10, .iconst 0, 1), (11, .goto 74, 3), (14, .aload_n 0, 1), (15, .ldc2_w 154, 3), (18, .invokevirtual 150, 3), (21, .ifCond .eq 7, 3), (24, .iconst 1, 1), (25, .goto 60, 3), (28, .aload_n 0, 1), (29, .ldc2_w 156, 3), (32, .invokevirtual 150, 3), (35, .ifCond .eq 7, 3), (38, .iconst 2, 1), (39, .goto 46, 3), (42, .aload_n 0, 1), (43, .ldc2_w 158, 3), (46, .invokevirtual 150, 3), (49, .ifCond .eq 7, 3), (52, .iconst 3, 1), (53, .goto 32, 3), (56, .aload_n 0, 1), (57, .ldc2_w 160, 3), (60, .invokevirtual 150, 3), (63, .ifCond .eq 7, 3), (66, .iconst 4, 1), (67, .goto 18, 3), (70, .aload_n 0, 1), (71, .ldc2_w 162, 3), (74, .invokevirtual 150, 3), (77, .ifCond .eq 7, 3), (80, .iconst 5, 1), (81, .goto 4, 3), (84, .iconst (-1), 1), (85, .ireturn, 1)] = true := by decide +kernel
def f_X12_kindHere (M : k_M) : Option (Int32 × k_M) := bd (f_X12_isWord 8740067 M) (fun r1 M2 => if r1 = 0 then bd (f_X12_isWord 456690 M2) (fun r3 M4 => if r3 = 0 then bd (f_X12_isWord 262823 M4) (fun r5 M6 => if r5 = 0 then bd (f_X12_isWord 189216023 M6) (fun r7 M8 => if r7 = 0 then bd (f_X12_isWord 281493529 M8) (fun r9 M10 => if r9 = 0 then bd (f_X12_isWord 11927 M10) (fun r11 M12 => if r11 = 0 then some (-1, M12) else some (5, M12)) else some (4, M10)) else some (3, M8)) else some (2, M6)) else some (1, M4)) else some (0, M2))
theorem m_X12_kindHere_0 {Z : k_Z} {G : k_G} (C : k_C Z G RX12 cX12_kindHere (true, 1, 2, 0, 0) (some .int) "kindHere") (M : k_M) : Sm Z G emI (true, 1, 2, 0, 0) (0, 0) 0 [(0, k_ra Z 76)] [] M (f_X12_kindHere M) := by
  show Sm Z G emI _ _ _ _ _ _ (bd (f_X12_isWord 8740067 M) (fun r1 M2 => if r1 = 0 then bd (f_X12_isWord 456690 M2) (fun r3 M4 => if r3 = 0 then bd (f_X12_isWord 262823 M4) (fun r5 M6 => if r5 = 0 then bd (f_X12_isWord 189216023 M6) (fun r7 M8 => if r7 = 0 then bd (f_X12_isWord 281493529 M8) (fun r9 M10 => if r9 = 0 then bd (f_X12_isWord 11927 M10) (fun r11 M12 => if r11 = 0 then some (-1, M12) else some (5, M12)) else some (4, M10)) else some (3, M8)) else some (2, M6)) else some (1, M4)) else some (0, M2)))
  refine x_aload_n C (k_dg dt_X12_kindHere_0 0 0 (.aload_n 0) 1 rfl) 0 rfl ?_
  refine x_ldc2 C (v := 8740067) ct_RX12_148 (k_dg dt_X12_kindHere_0 1 1 (.ldc2_w 148) 3 rfl) ?_
  refine x_callV C (a := 76) (kd := 10) (vs := [Value.long 8740067]) (rest := []) rfl rfl (by decide) (fun r hr => by cases hr; rfl) (c_X12_isWord C.2.2.2.2.2.2.2.2.2 G.2.1 8740067 M) cy_X12_isWord lk_RX12_150 im_X12_isWord se_X12_isWord (by decide) (by decide) (by decide) (by decide) rfl rfl (Nat.le_of_ble_eq_true rfl) (k_dg dt_X12_kindHere_0 2 4 (.invokevirtual 150) 3 rfl) (fun r1 M2 => ?_)
  show Sm Z G _ _ _ _ [(0, k_ra Z 76)] [Value.int r1] _ _
  refine x_if_eq C (tgt := 14) (k_dg dt_X12_kindHere_0 3 7 (.ifCond .eq 7) 3 rfl) (by decide) (fun _ => ?_) (fun _ => ?_)
  · refine x_aload_n C (k_dg dt_X12_kindHere_0 6 14 (.aload_n 0) 1 rfl) 0 rfl ?_
    refine x_ldc2 C (v := 456690) ct_RX12_154 (k_dg dt_X12_kindHere_0 7 15 (.ldc2_w 154) 3 rfl) ?_
    refine x_callV C (a := 76) (kd := 10) (vs := [Value.long 456690]) (rest := []) rfl rfl (by decide) (fun r hr => by cases hr; rfl) (c_X12_isWord C.2.2.2.2.2.2.2.2.2 G.2.1 456690 M2) cy_X12_isWord lk_RX12_150 im_X12_isWord se_X12_isWord (by decide) (by decide) (by decide) (by decide) rfl rfl (Nat.le_of_ble_eq_true rfl) (k_dg dt_X12_kindHere_0 8 18 (.invokevirtual 150) 3 rfl) (fun r3 M4 => ?_)
    show Sm Z G _ _ _ _ [(0, k_ra Z 76)] [Value.int r3] _ _
    refine x_if_eq C (tgt := 28) (k_dg dt_X12_kindHere_0 9 21 (.ifCond .eq 7) 3 rfl) (by decide) (fun _ => ?_) (fun _ => ?_)
    · refine x_aload_n C (k_dg dt_X12_kindHere_0 12 28 (.aload_n 0) 1 rfl) 0 rfl ?_
      refine x_ldc2 C (v := 262823) ct_RX12_156 (k_dg dt_X12_kindHere_0 13 29 (.ldc2_w 156) 3 rfl) ?_
      refine x_callV C (a := 76) (kd := 10) (vs := [Value.long 262823]) (rest := []) rfl rfl (by decide) (fun r hr => by cases hr; rfl) (c_X12_isWord C.2.2.2.2.2.2.2.2.2 G.2.1 262823 M4) cy_X12_isWord lk_RX12_150 im_X12_isWord se_X12_isWord (by decide) (by decide) (by decide) (by decide) rfl rfl (Nat.le_of_ble_eq_true rfl) (k_dg dt_X12_kindHere_0 14 32 (.invokevirtual 150) 3 rfl) (fun r5 M6 => ?_)
      show Sm Z G _ _ _ _ [(0, k_ra Z 76)] [Value.int r5] _ _
      refine x_if_eq C (tgt := 42) (k_dg dt_X12_kindHere_0 15 35 (.ifCond .eq 7) 3 rfl) (by decide) (fun _ => ?_) (fun _ => ?_)
      · refine x_aload_n C (k_dg dt_X12_kindHere_0 18 42 (.aload_n 0) 1 rfl) 0 rfl ?_
        refine x_ldc2 C (v := 189216023) ct_RX12_158 (k_dg dt_X12_kindHere_0 19 43 (.ldc2_w 158) 3 rfl) ?_
        refine x_callV C (a := 76) (kd := 10) (vs := [Value.long 189216023]) (rest := []) rfl rfl (by decide) (fun r hr => by cases hr; rfl) (c_X12_isWord C.2.2.2.2.2.2.2.2.2 G.2.1 189216023 M6) cy_X12_isWord lk_RX12_150 im_X12_isWord se_X12_isWord (by decide) (by decide) (by decide) (by decide) rfl rfl (Nat.le_of_ble_eq_true rfl) (k_dg dt_X12_kindHere_0 20 46 (.invokevirtual 150) 3 rfl) (fun r7 M8 => ?_)
        show Sm Z G _ _ _ _ [(0, k_ra Z 76)] [Value.int r7] _ _
        refine x_if_eq C (tgt := 56) (k_dg dt_X12_kindHere_0 21 49 (.ifCond .eq 7) 3 rfl) (by decide) (fun _ => ?_) (fun _ => ?_)
        · refine x_aload_n C (k_dg dt_X12_kindHere_0 24 56 (.aload_n 0) 1 rfl) 0 rfl ?_
          refine x_ldc2 C (v := 281493529) ct_RX12_160 (k_dg dt_X12_kindHere_0 25 57 (.ldc2_w 160) 3 rfl) ?_
          refine x_callV C (a := 76) (kd := 10) (vs := [Value.long 281493529]) (rest := []) rfl rfl (by decide) (fun r hr => by cases hr; rfl) (c_X12_isWord C.2.2.2.2.2.2.2.2.2 G.2.1 281493529 M8) cy_X12_isWord lk_RX12_150 im_X12_isWord se_X12_isWord (by decide) (by decide) (by decide) (by decide) rfl rfl (Nat.le_of_ble_eq_true rfl) (k_dg dt_X12_kindHere_0 26 60 (.invokevirtual 150) 3 rfl) (fun r9 M10 => ?_)
          show Sm Z G _ _ _ _ [(0, k_ra Z 76)] [Value.int r9] _ _
          refine x_if_eq C (tgt := 70) (k_dg dt_X12_kindHere_0 27 63 (.ifCond .eq 7) 3 rfl) (by decide) (fun _ => ?_) (fun _ => ?_)
          · refine x_aload_n C (k_dg dt_X12_kindHere_0 30 70 (.aload_n 0) 1 rfl) 0 rfl ?_
            refine x_ldc2 C (v := 11927) ct_RX12_162 (k_dg dt_X12_kindHere_0 31 71 (.ldc2_w 162) 3 rfl) ?_
            refine x_callV C (a := 76) (kd := 10) (vs := [Value.long 11927]) (rest := []) rfl rfl (by decide) (fun r hr => by cases hr; rfl) (c_X12_isWord C.2.2.2.2.2.2.2.2.2 G.2.1 11927 M10) cy_X12_isWord lk_RX12_150 im_X12_isWord se_X12_isWord (by decide) (by decide) (by decide) (by decide) rfl rfl (Nat.le_of_ble_eq_true rfl) (k_dg dt_X12_kindHere_0 32 74 (.invokevirtual 150) 3 rfl) (fun r11 M12 => ?_)
            show Sm Z G _ _ _ _ [(0, k_ra Z 76)] [Value.int r11] _ _
            refine x_if_eq C (tgt := 84) (k_dg dt_X12_kindHere_0 33 77 (.ifCond .eq 7) 3 rfl) (by decide) (fun _ => ?_) (fun _ => ?_)
            · refine x_iconst C (v := -1) (k_dg dt_X12_kindHere_0 36 84 (.iconst (-1)) 1 rfl) (by decide) ?_
              exact x_iret C (by decide) (by decide) (k_dg dt_X12_kindHere_0 37 85 (.ireturn) 1 rfl)
            · refine x_iconst C (v := 5) (k_dg dt_X12_kindHere_0 34 80 (.iconst 5) 1 rfl) (by decide) ?_
              refine x_goto C (tgt := 85) (k_dg dt_X12_kindHere_0 35 81 (.goto 4) 3 rfl) (by decide) ?_
              exact x_iret C (by decide) (by decide) (k_dg dt_X12_kindHere_0 37 85 (.ireturn) 1 rfl)
          · refine x_iconst C (v := 4) (k_dg dt_X12_kindHere_0 28 66 (.iconst 4) 1 rfl) (by decide) ?_
            refine x_goto C (tgt := 85) (k_dg dt_X12_kindHere_0 29 67 (.goto 18) 3 rfl) (by decide) ?_
            exact x_iret C (by decide) (by decide) (k_dg dt_X12_kindHere_0 37 85 (.ireturn) 1 rfl)
        · refine x_iconst C (v := 3) (k_dg dt_X12_kindHere_0 22 52 (.iconst 3) 1 rfl) (by decide) ?_
          refine x_goto C (tgt := 85) (k_dg dt_X12_kindHere_0 23 53 (.goto 32) 3 rfl) (by decide) ?_
          exact x_iret C (by decide) (by decide) (k_dg dt_X12_kindHere_0 37 85 (.ireturn) 1 rfl)
      · refine x_iconst C (v := 2) (k_dg dt_X12_kindHere_0 16 38 (.iconst 2) 1 rfl) (by decide) ?_
        refine x_goto C (tgt := 85) (k_dg dt_X12_kindHere_0 17 39 (.goto 46) 3 rfl) (by decide) ?_
        exact x_iret C (by decide) (by decide) (k_dg dt_X12_kindHere_0 37 85 (.ireturn) 1 rfl)
    · refine x_iconst C (v := 1) (k_dg dt_X12_kindHere_0 10 24 (.iconst 1) 1 rfl) (by decide) ?_
      refine x_goto C (tgt := 85) (k_dg dt_X12_kindHere_0 11 25 (.goto 60) 3 rfl) (by decide) ?_
      exact x_iret C (by decide) (by decide) (k_dg dt_X12_kindHere_0 37 85 (.ireturn) 1 rfl)
  · refine x_iconst C (v := 0) (k_dg dt_X12_kindHere_0 4 10 (.iconst 0) 1 rfl) (by decide) ?_
    refine x_goto C (tgt := 85) (k_dg dt_X12_kindHere_0 5 11 (.goto 74) 3 rfl) (by decide) ?_
    exact x_iret C (by decide) (by decide) (k_dg dt_X12_kindHere_0 37 85 (.ireturn) 1 rfl)
theorem c_X12_kindHere {Z : k_Z} (hg : k_Gd Z) (l : Launch) (M : k_M) : Con true Z l yX12_kindHere cX12_kindHere 1 (some .int) 2 0 0 emI [k_ra Z 76] M (f_X12_kindHere M) := k_con hg (by decide) (Nat.le_of_ble_eq_true rfl) (fun G hl C => m_X12_kindHere_0 C M)
theorem dt_X12_wantNumber_0 : k_dec cX12_wantNumber [(0, .aload_n 0, 1), (1, .getfield 139, 3), (4, .istore_n 3, 1), (5, .aload_n 0, 1), (6, .aload_n 0, 1), (7, .getfield 164, 3), (10, .ifCond .eq 24, 3), (13, .aload_n 0, 1), (14, .getfield 132, 3), (17, .iconst 2, 1), (18, .if_icmp .ne 16, 3), (21, .iload_n 3, 1), (22, .iload_n 1, 1), (23, .iload_n 2, 1), (24, .invokestatic 99, 3), (27, .ifCond .eq 7, 3), (30, .iconst 1, 1), (31, .goto 4, 3), (34, .iconst 0, 1), (35, .putfield 164, 3), (38, .aload_n 0, 1), (39, .getfield 164, 3), (42, .ifCond .eq 7, 3), (45, .aload_n 0, 1), (46, .invokevirtual 168, 3), (49, .iload_n 3, 1), (50, .ireturn, 1)] = true := by decide +kernel
def f_X12_wantNumber_49 (l3 : Int32) (M : k_M) : Option (Int32 × k_M) := some (l3, M)
theorem m_X12_wantNumber_49 {Z : k_Z} {G : k_G} (C : k_C Z G RX12 cX12_wantNumber (true, 4, 4, 0, 0) (some .int) "wantNumber") (l3 : Int32) (M : k_M) : Sm Z G emI (true, 4, 4, 0, 0) (0, 0) 49 [(3, Value.int l3)] [] M (f_X12_wantNumber_49 l3 M) := by
  show Sm Z G emI _ _ _ _ _ _ (some (l3, M))
  refine x_iload_n C (k_dg dt_X12_wantNumber_0 25 49 (.iload_n 3) 1 rfl) 0 rfl ?_
  exact x_iret C (by decide) (by decide) (k_dg dt_X12_wantNumber_0 26 50 (.ireturn) 1 rfl)
def f_X12_wantNumber_35 (l3 : Int32) (t1 : Int32) (M : k_M) : Option (Int32 × k_M) := ckZ t1 (bN (sI M 76 18 t1) (fun M1 => if (M1.1 76 18) = 0 then f_X12_wantNumber_49 l3 M1 else bd (f_X12_advance M1) (fun r3 M4 => f_X12_wantNumber_49 l3 M4)))
theorem m_X12_wantNumber_35 {Z : k_Z} {G : k_G} (C : k_C Z G RX12 cX12_wantNumber (true, 4, 4, 0, 0) (some .int) "wantNumber") (l3 : Int32) (t1 : Int32) (M : k_M) : Sm Z G emI (true, 4, 4, 0, 0) (0, 0) 35 [(0, k_ra Z 76), (3, Value.int l3)] [Value.int t1, k_ra Z 76] M (f_X12_wantNumber_35 l3 t1 M) := by
  show Sm Z G emI _ _ _ _ _ _ (ckZ t1 (bN (sI M 76 18 t1) (fun M1 => if (M1.1 76 18) = 0 then f_X12_wantNumber_49 l3 M1 else bd (f_X12_advance M1) (fun r3 M4 => f_X12_wantNumber_49 l3 M4))))
  refine x_ckZ (v := t1) (fun h2 => ?_)
  refine x_putI C (a := 76) (j := 18) rfl rfl (by decide) fl_RX12_164 rfl pt_10_18 tb_10 (k_nz h2) (k_fz h2) (k_dg dt_X12_wantNumber_0 19 35 (.putfield 164) 3 rfl) (fun M1 => ?_)
  refine x_aload_n C (k_dg dt_X12_wantNumber_0 20 38 (.aload_n 0) 1 rfl) 0 rfl ?_
  refine x_getI C (a := 76) (j := 18) rfl rfl (by decide) fl_RX12_164 rfl (k_dg dt_X12_wantNumber_0 21 39 (.getfield 164) 3 rfl) ?_
  refine x_if_eq C (tgt := 49) (k_dg dt_X12_wantNumber_0 22 42 (.ifCond .eq 7) 3 rfl) (by decide) (fun _ => ?_) (fun _ => ?_)
  · refine x_lv [1] rfl ?_
    exact m_X12_wantNumber_49 C l3 M1
  · refine x_aload_n C (k_dg dt_X12_wantNumber_0 23 45 (.aload_n 0) 1 rfl) 0 rfl ?_
    refine x_callV C (a := 76) (kd := 10) (vs := []) (rest := []) rfl rfl (by decide) (fun r hr => by cases hr; rfl) (c_X12_advance C.2.2.2.2.2.2.2.2.2 G.2.1 M1) cy_X12_advance lk_RX12_168 im_X12_advance se_X12_advance (by decide) (by decide) (by decide) (by decide) rfl rfl (Nat.le_of_ble_eq_true rfl) (k_dg dt_X12_wantNumber_0 24 46 (.invokevirtual 168) 3 rfl) (fun r3 M4 => ?_)
    show Sm Z G _ _ _ _ [(0, k_ra Z 76), (3, Value.int l3)] [] _ _
    refine x_lv [1] rfl ?_
    exact m_X12_wantNumber_49 C l3 M4
def f_X12_wantNumber_34 (l3 : Int32) (M : k_M) : Option (Int32 × k_M) := f_X12_wantNumber_35 l3 0 M
theorem m_X12_wantNumber_34 {Z : k_Z} {G : k_G} (C : k_C Z G RX12 cX12_wantNumber (true, 4, 4, 0, 0) (some .int) "wantNumber") (l3 : Int32) (M : k_M) : Sm Z G emI (true, 4, 4, 0, 0) (0, 0) 34 [(0, k_ra Z 76), (3, Value.int l3)] [k_ra Z 76] M (f_X12_wantNumber_34 l3 M) := by
  show Sm Z G emI _ _ _ _ _ _ (f_X12_wantNumber_35 l3 0 M)
  refine x_iconst C (v := 0) (k_dg dt_X12_wantNumber_0 18 34 (.iconst 0) 1 rfl) (by decide) ?_
  exact m_X12_wantNumber_35 C l3 0 M
def f_X12_wantNumber (p1 : Int32) (p2 : Int32) (M : k_M) : Option (Int32 × k_M) := bN (M.1 76 17) (fun v1 => if (M.1 76 18) = 0 then f_X12_wantNumber_34 v1 M else if (M.1 76 13) = 2 then bd (f_X12_in v1 p1 p2 M) (fun r2 M3 => if r2 = 0 then f_X12_wantNumber_34 v1 M3 else f_X12_wantNumber_35 v1 1 M3) else f_X12_wantNumber_34 v1 M)
theorem m_X12_wantNumber_0 {Z : k_Z} {G : k_G} (C : k_C Z G RX12 cX12_wantNumber (true, 4, 4, 0, 0) (some .int) "wantNumber") (p1 : Int32) (p2 : Int32) (M : k_M) : Sm Z G emI (true, 4, 4, 0, 0) (0, 0) 0 [(0, k_ra Z 76), (1, Value.int p1), (2, Value.int p2)] [] M (f_X12_wantNumber p1 p2 M) := by
  show Sm Z G emI _ _ _ _ _ _ (bN (M.1 76 17) (fun v1 => if (M.1 76 18) = 0 then f_X12_wantNumber_34 v1 M else if (M.1 76 13) = 2 then bd (f_X12_in v1 p1 p2 M) (fun r2 M3 => if r2 = 0 then f_X12_wantNumber_34 v1 M3 else f_X12_wantNumber_35 v1 1 M3) else f_X12_wantNumber_34 v1 M))
  refine x_aload_n C (k_dg dt_X12_wantNumber_0 0 0 (.aload_n 0) 1 rfl) 0 rfl ?_
  refine x_getI C (a := 76) (j := 17) rfl rfl (by decide) fl_RX12_139 rfl (k_dg dt_X12_wantNumber_0 1 1 (.getfield 139) 3 rfl) ?_
  refine x_nm (w := Value.int) (fun v1 _ => ?_)
  refine x_istore_n C (lv' := [(3, Value.int v1), (0, k_ra Z 76), (1, Value.int p1), (2, Value.int p2)]) (k_dg dt_X12_wantNumber_0 2 4 (.istore_n 3) 1 rfl) (by decide) rfl ?_
  refine x_aload_n C (k_dg dt_X12_wantNumber_0 3 5 (.aload_n 0) 1 rfl) 1 rfl ?_
  refine x_aload_n C (k_dg dt_X12_wantNumber_0 4 6 (.aload_n 0) 1 rfl) 1 rfl ?_
  refine x_getI C (a := 76) (j := 18) rfl rfl (by decide) fl_RX12_164 rfl (k_dg dt_X12_wantNumber_0 5 7 (.getfield 164) 3 rfl) ?_
  refine x_if_eq C (tgt := 34) (k_dg dt_X12_wantNumber_0 6 10 (.ifCond .eq 24) 3 rfl) (by decide) (fun _ => ?_) (fun _ => ?_)
  · refine x_lv [1, 0] rfl ?_
    exact m_X12_wantNumber_34 C v1 M
  · refine x_aload_n C (k_dg dt_X12_wantNumber_0 7 13 (.aload_n 0) 1 rfl) 1 rfl ?_
    refine x_getI C (a := 76) (j := 13) rfl rfl (by decide) fl_RX12_132 rfl (k_dg dt_X12_wantNumber_0 8 14 (.getfield 132) 3 rfl) ?_
    refine x_iconst C (v := 2) (k_dg dt_X12_wantNumber_0 9 17 (.iconst 2) 1 rfl) (by decide) ?_
    refine x_icmp_ne C (tgt := 34) (k_dg dt_X12_wantNumber_0 10 18 (.if_icmp .ne 16) 3 rfl) (by decide) (fun _ => ?_) (fun _ => ?_)
    · refine x_iload_n C (k_dg dt_X12_wantNumber_0 11 21 (.iload_n 3) 1 rfl) 0 rfl ?_
      refine x_iload_n C (k_dg dt_X12_wantNumber_0 12 22 (.iload_n 1) 1 rfl) 2 rfl ?_
      refine x_iload_n C (k_dg dt_X12_wantNumber_0 13 23 (.iload_n 2) 1 rfl) 3 rfl ?_
      refine x_callS C (vs := [Value.int v1, Value.int p1, Value.int p2]) (rest := [k_ra Z 76]) (c_X12_in C.2.2.2.2.2.2.2.2.2 G.2.1 v1 p1 p2 M) cy_X12_in lk_RX12_99 stt_X12_in (by decide) (by decide) (by decide) (by decide) rfl rfl (Nat.le_of_ble_eq_true rfl) (k_dg dt_X12_wantNumber_0 14 24 (.invokestatic 99) 3 rfl) (fun r2 M3 => ?_)
      show Sm Z G _ _ _ _ [(3, Value.int v1), (0, k_ra Z 76), (1, Value.int p1), (2, Value.int p2)] [Value.int r2, k_ra Z 76] _ _
      refine x_if_eq C (tgt := 34) (k_dg dt_X12_wantNumber_0 15 27 (.ifCond .eq 7) 3 rfl) (by decide) (fun _ => ?_) (fun _ => ?_)
      · refine x_lv [1, 0] rfl ?_
        exact m_X12_wantNumber_34 C v1 M3
      · refine x_iconst C (v := 1) (k_dg dt_X12_wantNumber_0 16 30 (.iconst 1) 1 rfl) (by decide) ?_
        refine x_goto C (tgt := 35) (k_dg dt_X12_wantNumber_0 17 31 (.goto 4) 3 rfl) (by decide) ?_
        refine x_lv [1, 0] rfl ?_
        exact m_X12_wantNumber_35 C v1 1 M3
    · refine x_lv [1, 0] rfl ?_
      exact m_X12_wantNumber_34 C v1 M
theorem c_X12_wantNumber {Z : k_Z} (hg : k_Gd Z) (l : Launch) (p1 : Int32) (p2 : Int32) (M : k_M) : Con true Z l yX12_wantNumber cX12_wantNumber 4 (some .int) 4 0 0 emI [k_ra Z 76, Value.int p1, Value.int p2] M (f_X12_wantNumber p1 p2 M) := k_con hg (by decide) (Nat.le_of_ble_eq_true rfl) (fun G hl C => m_X12_wantNumber_0 C p1 p2 M)
theorem dt_X12_wantEnd_0 : k_dec cX12_wantEnd [(0, .aload_n 0, 1), (1, .aload_n 0, 1), (2, .getfield 164, 3), (5, .ifCond .eq 24, 3), (8, .aload_n 0, 1), (9, .getfield 132, 3), (12, .iconst 3, 1), (13, .if_icmp .ne 16, 3), (16, .aload_n 0, 1), (17, .getfield 139, 3), (20, .bipush 59, 2), (22, .if_icmp .ne 7, 3), (25, .iconst 1, 1), (26, .goto 4, 3), (29, .iconst 0, 1), (30, .putfield 164, 3), (33, .aload_n 0, 1), (34, .getfield 164, 3), (37, .ifCond .eq 7, 3), (40, .aload_n 0, 1), (41, .invokevirtual 168, 3), (44, .return_, 1)] = true := by decide +kernel
def f_X12_wantEnd_30 (t1 : Int32) (M : k_M) : Option (Unit × k_M) := ckZ t1 (bN (sI M 76 18 t1) (fun M1 => if (M1.1 76 18) = 0 then some ((), M1) else bd (f_X12_advance M1) (fun r3 M4 => some ((), M4))))
theorem m_X12_wantEnd_30 {Z : k_Z} {G : k_G} (C : k_C Z G RX12 cX12_wantEnd (true, 1, 4, 0, 0) none "wantEnd") (t1 : Int32) (M : k_M) : Sm Z G emV (true, 1, 4, 0, 0) (0, 0) 30 [(0, k_ra Z 76)] [Value.int t1, k_ra Z 76] M (f_X12_wantEnd_30 t1 M) := by
  show Sm Z G emV _ _ _ _ _ _ (ckZ t1 (bN (sI M 76 18 t1) (fun M1 => if (M1.1 76 18) = 0 then some ((), M1) else bd (f_X12_advance M1) (fun r3 M4 => some ((), M4)))))
  refine x_ckZ (v := t1) (fun h2 => ?_)
  refine x_putI C (a := 76) (j := 18) rfl rfl (by decide) fl_RX12_164 rfl pt_10_18 tb_10 (k_nz h2) (k_fz h2) (k_dg dt_X12_wantEnd_0 15 30 (.putfield 164) 3 rfl) (fun M1 => ?_)
  refine x_aload_n C (k_dg dt_X12_wantEnd_0 16 33 (.aload_n 0) 1 rfl) 0 rfl ?_
  refine x_getI C (a := 76) (j := 18) rfl rfl (by decide) fl_RX12_164 rfl (k_dg dt_X12_wantEnd_0 17 34 (.getfield 164) 3 rfl) ?_
  refine x_if_eq C (tgt := 44) (k_dg dt_X12_wantEnd_0 18 37 (.ifCond .eq 7) 3 rfl) (by decide) (fun _ => ?_) (fun _ => ?_)
  · exact x_vret C (by decide) (by decide) (k_dg dt_X12_wantEnd_0 21 44 (.return_) 1 rfl)
  · refine x_aload_n C (k_dg dt_X12_wantEnd_0 19 40 (.aload_n 0) 1 rfl) 0 rfl ?_
    refine x_callV C (a := 76) (kd := 10) (vs := []) (rest := []) rfl rfl (by decide) (fun r hr => by cases hr; rfl) (c_X12_advance C.2.2.2.2.2.2.2.2.2 G.2.1 M1) cy_X12_advance lk_RX12_168 im_X12_advance se_X12_advance (by decide) (by decide) (by decide) (by decide) rfl rfl (Nat.le_of_ble_eq_true rfl) (k_dg dt_X12_wantEnd_0 20 41 (.invokevirtual 168) 3 rfl) (fun r3 M4 => ?_)
    show Sm Z G _ _ _ _ [(0, k_ra Z 76)] [] _ _
    exact x_vret C (by decide) (by decide) (k_dg dt_X12_wantEnd_0 21 44 (.return_) 1 rfl)
def f_X12_wantEnd_29 (M : k_M) : Option (Unit × k_M) := f_X12_wantEnd_30 0 M
theorem m_X12_wantEnd_29 {Z : k_Z} {G : k_G} (C : k_C Z G RX12 cX12_wantEnd (true, 1, 4, 0, 0) none "wantEnd") (M : k_M) : Sm Z G emV (true, 1, 4, 0, 0) (0, 0) 29 [(0, k_ra Z 76)] [k_ra Z 76] M (f_X12_wantEnd_29 M) := by
  show Sm Z G emV _ _ _ _ _ _ (f_X12_wantEnd_30 0 M)
  refine x_iconst C (v := 0) (k_dg dt_X12_wantEnd_0 14 29 (.iconst 0) 1 rfl) (by decide) ?_
  exact m_X12_wantEnd_30 C 0 M
def f_X12_wantEnd (M : k_M) : Option (Unit × k_M) := if (M.1 76 18) = 0 then f_X12_wantEnd_29 M else if (M.1 76 13) = 3 then if (M.1 76 17) = 59 then f_X12_wantEnd_30 1 M else f_X12_wantEnd_29 M else f_X12_wantEnd_29 M
theorem m_X12_wantEnd_0 {Z : k_Z} {G : k_G} (C : k_C Z G RX12 cX12_wantEnd (true, 1, 4, 0, 0) none "wantEnd") (M : k_M) : Sm Z G emV (true, 1, 4, 0, 0) (0, 0) 0 [(0, k_ra Z 76)] [] M (f_X12_wantEnd M) := by
  show Sm Z G emV _ _ _ _ _ _ (if (M.1 76 18) = 0 then f_X12_wantEnd_29 M else if (M.1 76 13) = 3 then if (M.1 76 17) = 59 then f_X12_wantEnd_30 1 M else f_X12_wantEnd_29 M else f_X12_wantEnd_29 M)
  refine x_aload_n C (k_dg dt_X12_wantEnd_0 0 0 (.aload_n 0) 1 rfl) 0 rfl ?_
  refine x_aload_n C (k_dg dt_X12_wantEnd_0 1 1 (.aload_n 0) 1 rfl) 0 rfl ?_
  refine x_getI C (a := 76) (j := 18) rfl rfl (by decide) fl_RX12_164 rfl (k_dg dt_X12_wantEnd_0 2 2 (.getfield 164) 3 rfl) ?_
  refine x_if_eq C (tgt := 29) (k_dg dt_X12_wantEnd_0 3 5 (.ifCond .eq 24) 3 rfl) (by decide) (fun _ => ?_) (fun _ => ?_)
  · exact m_X12_wantEnd_29 C M
  · refine x_aload_n C (k_dg dt_X12_wantEnd_0 4 8 (.aload_n 0) 1 rfl) 0 rfl ?_
    refine x_getI C (a := 76) (j := 13) rfl rfl (by decide) fl_RX12_132 rfl (k_dg dt_X12_wantEnd_0 5 9 (.getfield 132) 3 rfl) ?_
    refine x_iconst C (v := 3) (k_dg dt_X12_wantEnd_0 6 12 (.iconst 3) 1 rfl) (by decide) ?_
    refine x_icmp_ne C (tgt := 29) (k_dg dt_X12_wantEnd_0 7 13 (.if_icmp .ne 16) 3 rfl) (by decide) (fun _ => ?_) (fun _ => ?_)
    · refine x_aload_n C (k_dg dt_X12_wantEnd_0 8 16 (.aload_n 0) 1 rfl) 0 rfl ?_
      refine x_getI C (a := 76) (j := 17) rfl rfl (by decide) fl_RX12_139 rfl (k_dg dt_X12_wantEnd_0 9 17 (.getfield 139) 3 rfl) ?_
      refine x_bipush C (v := 59) (k_dg dt_X12_wantEnd_0 10 20 (.bipush 59) 2 rfl) (by decide) ?_
      refine x_icmp_ne C (tgt := 29) (k_dg dt_X12_wantEnd_0 11 22 (.if_icmp .ne 7) 3 rfl) (by decide) (fun _ => ?_) (fun _ => ?_)
      · refine x_iconst C (v := 1) (k_dg dt_X12_wantEnd_0 12 25 (.iconst 1) 1 rfl) (by decide) ?_
        refine x_goto C (tgt := 30) (k_dg dt_X12_wantEnd_0 13 26 (.goto 4) 3 rfl) (by decide) ?_
        exact m_X12_wantEnd_30 C 1 M
      · exact m_X12_wantEnd_29 C M
    · exact m_X12_wantEnd_29 C M
theorem c_X12_wantEnd {Z : k_Z} (hg : k_Gd Z) (l : Launch) (M : k_M) : Con true Z l yX12_wantEnd cX12_wantEnd 1 none 4 0 0 emV [k_ra Z 76] M (f_X12_wantEnd M) := k_con hg (by decide) (Nat.le_of_ble_eq_true rfl) (fun G hl C => m_X12_wantEnd_0 C M)
theorem dt_X12_isEndless_0 : k_dec cX12_isEndless [(0, .iload_n 0, 1), (1, .iconst 1, 1), (2, .if_icmp .eq 8, 3), (5, .iload_n 0, 1), (6, .iconst 4, 1), (7, .if_icmp .ne 7, 3), (10, .iconst 1, 1), (11, .goto 4, 3), (14, .iconst 0, 1), (15, .ireturn, 1)] = true := by decide +kernel
def f_X12_isEndless_10 (M : k_M) : Option (Int32 × k_M) := some (1, M)
theorem m_X12_isEndless_10 {Z : k_Z} {G : k_G} (C : k_C Z G RX12 cX12_isEndless (true, 1, 1, 0, 0) (some .boolean) "isEndless") (M : k_M) : Sm Z G emI (true, 1, 1, 0, 0) (0, 0) 10 [] [] M (f_X12_isEndless_10 M) := by
  show Sm Z G emI _ _ _ _ _ _ (some (1, M))
  refine x_iconst C (v := 1) (k_dg dt_X12_isEndless_0 6 10 (.iconst 1) 1 rfl) (by decide) ?_
  refine x_goto C (tgt := 15) (k_dg dt_X12_isEndless_0 7 11 (.goto 4) 3 rfl) (by decide) ?_
  exact x_zret C (by decide) (by decide) rfl (k_dg dt_X12_isEndless_0 9 15 (.ireturn) 1 rfl)
def f_X12_isEndless (p1 : Int32) (M : k_M) : Option (Int32 × k_M) := if p1 = 1 then f_X12_isEndless_10 M else if p1 = 4 then f_X12_isEndless_10 M else some (0, M)
theorem m_X12_isEndless_0 {Z : k_Z} {G : k_G} (C : k_C Z G RX12 cX12_isEndless (true, 1, 1, 0, 0) (some .boolean) "isEndless") (p1 : Int32) (M : k_M) : Sm Z G emI (true, 1, 1, 0, 0) (0, 0) 0 [(0, Value.int p1)] [] M (f_X12_isEndless p1 M) := by
  show Sm Z G emI _ _ _ _ _ _ (if p1 = 1 then f_X12_isEndless_10 M else if p1 = 4 then f_X12_isEndless_10 M else some (0, M))
  refine x_iload_n C (k_dg dt_X12_isEndless_0 0 0 (.iload_n 0) 1 rfl) 0 rfl ?_
  refine x_iconst C (v := 1) (k_dg dt_X12_isEndless_0 1 1 (.iconst 1) 1 rfl) (by decide) ?_
  refine x_icmp_eq C (tgt := 10) (k_dg dt_X12_isEndless_0 2 2 (.if_icmp .eq 8) 3 rfl) (by decide) (fun _ => ?_) (fun _ => ?_)
  · refine x_lv [] rfl ?_
    exact m_X12_isEndless_10 C M
  · refine x_iload_n C (k_dg dt_X12_isEndless_0 3 5 (.iload_n 0) 1 rfl) 0 rfl ?_
    refine x_iconst C (v := 4) (k_dg dt_X12_isEndless_0 4 6 (.iconst 4) 1 rfl) (by decide) ?_
    refine x_icmp_ne C (tgt := 14) (k_dg dt_X12_isEndless_0 5 7 (.if_icmp .ne 7) 3 rfl) (by decide) (fun _ => ?_) (fun _ => ?_)
    · refine x_lv [] rfl ?_
      exact m_X12_isEndless_10 C M
    · refine x_iconst C (v := 0) (k_dg dt_X12_isEndless_0 8 14 (.iconst 0) 1 rfl) (by decide) ?_
      exact x_zret C (by decide) (by decide) rfl (k_dg dt_X12_isEndless_0 9 15 (.ireturn) 1 rfl)
theorem c_X12_isEndless {Z : k_Z} (hg : k_Gd Z) (l : Launch) (p1 : Int32) (M : k_M) : Con true Z l yX12_isEndless cX12_isEndless 1 (some .boolean) 1 0 0 emI [Value.int p1] M (f_X12_isEndless p1 M) := k_con hg (by decide) (Nat.le_of_ble_eq_true rfl) (fun G hl C => m_X12_isEndless_0 C p1 M)
theorem dt_X12_wantPlace_0 : k_dec cX12_wantPlace [(0, .aload_n 0, 1), (1, .invokevirtual 171, 3), (4, .istore_n 1, 1), (5, .aload_n 0, 1), (6, .aload_n 0, 1), (7, .getfield 175, 3), (10, .bipush 8, 2), (12, .if_icmp .ge 7, 3), (15, .iconst 1, 1), (16, .goto 4, 3), (19, .iconst 0, 1), (20, .putfield 164, 3), (23, .aload_n 0, 1), (24, .getfield 164, 3), (27, .ifCond .eq 7, 3), (30, .aload_n 0, 1), (31, .invokevirtual 168, 3), (34, .aload_n 0, 1), (35, .iconst 0, 1), (36, .bipush 9, 2), (38, .invokevirtual 178, 3), (41, .istore_n 2, 1), (42, .iload_n 1, 1), (43, .invokestatic 181, 3), (46, .ifCond .eq 8, 3), (49, .bipush 99, 2), (51, .goto 10, 3), (54, .aload_n 0, 1), (55, .iconst 0, 1), (56, .bipush 99, 2), (58, .invokevirtual 178, 3), (61, .istore_n 3, 1), (62, .aload_n 0, 1), (63, .invokevirtual 184, 3), (66, .aload_n 0, 1), (67, .getfield 164, 3), (70, .ifCond .eq 63, 3), (73, .aload_n 0, 1), (74, .getfield 31, 3), (77, .iconst 3, 1)] = true := by decide +kernel
theorem dt_X12_wantPlace_1 : k_dec cX12_wantPlace [(78, .aload_n 0, 1), (79, .getfield 175, 3), (82, .imul, 1), (83, .iload_n 1, 1), (84, .iastore, 1), (85, .aload_n 0, 1), (86, .getfield 31, 3), (89, .iconst 3, 1), (90, .aload_n 0, 1), (91, .getfield 175, 3), (94, .imul, 1), (95, .iconst 1, 1), (96, .iadd, 1), (97, .iload_n 2, 1), (98, .iastore, 1), (99, .aload_n 0, 1), (100, .getfield 31, 3), (103, .iconst 3, 1), (104, .aload_n 0, 1), (105, .getfield 175, 3), (108, .imul, 1), (109, .iconst 2, 1), (110, .iadd, 1), (111, .iload_n 3, 1), (112, .iastore, 1), (113, .aload_n 0, 1), (114, .getfield 37, 3), (117, .aload_n 0, 1), (118, .getfield 175, 3), (121, .iconst 0, 1), (122, .iastore, 1), (123, .aload_n 0, 1), (124, .dup, 1), (125, .getfield 175, 3), (128, .iconst 1, 1), (129, .iadd, 1), (130, .putfield 175, 3), (133, .return_, 1)] = true := by decide +kernel
def f_X12_wantPlace_61 (l1 : Int32) (l2 : Int32) (t0 : Int32) (M : k_M) : Option (Unit × k_M) := bd (f_X12_wantEnd M) (fun r1 M2 => if (M2.1 76 18) = 0 then some ((), M2) else wrI M2 84 24 (3 * (M2.1 76 19)) l1 (fun M3 => wrI M3 84 24 ((3 * (M3.1 76 19)) + 1) l2 (fun M4 => wrI M4 84 24 ((3 * (M4.1 76 19)) + 2) t0 (fun M5 => wrI M5 86 8 (M5.1 76 19) 0 (fun M6 => bN (sI M6 76 19 ((M6.1 76 19) + 1)) (fun M7 => some ((), M7)))))))
theorem m_X12_wantPlace_61 {Z : k_Z} {G : k_G} (C : k_C Z G RX12 cX12_wantPlace (true, 4, 5, 0, 0) none "wantPlace") (l1 : Int32) (l2 : Int32) (t0 : Int32) (M : k_M) : Sm Z G emV (true, 4, 5, 0, 0) (0, 0) 61 [(0, k_ra Z 76), (1, Value.int l1), (2, Value.int l2)] [Value.int t0] M (f_X12_wantPlace_61 l1 l2 t0 M) := by
  show Sm Z G emV _ _ _ _ _ _ (bd (f_X12_wantEnd M) (fun r1 M2 => if (M2.1 76 18) = 0 then some ((), M2) else wrI M2 84 24 (3 * (M2.1 76 19)) l1 (fun M3 => wrI M3 84 24 ((3 * (M3.1 76 19)) + 1) l2 (fun M4 => wrI M4 84 24 ((3 * (M4.1 76 19)) + 2) t0 (fun M5 => wrI M5 86 8 (M5.1 76 19) 0 (fun M6 => bN (sI M6 76 19 ((M6.1 76 19) + 1)) (fun M7 => some ((), M7))))))))
  refine x_istore_n C (lv' := [(3, Value.int t0), (0, k_ra Z 76), (1, Value.int l1), (2, Value.int l2)]) (k_dg dt_X12_wantPlace_0 31 61 (.istore_n 3) 1 rfl) (by decide) rfl ?_
  refine x_aload_n C (k_dg dt_X12_wantPlace_0 32 62 (.aload_n 0) 1 rfl) 1 rfl ?_
  refine x_callV C (a := 76) (kd := 10) (vs := []) (rest := []) rfl rfl (by decide) (fun r hr => by cases hr; rfl) (c_X12_wantEnd C.2.2.2.2.2.2.2.2.2 G.2.1 M) cy_X12_wantEnd lk_RX12_184 im_X12_wantEnd se_X12_wantEnd (by decide) (by decide) (by decide) (by decide) rfl rfl (Nat.le_of_ble_eq_true rfl) (k_dg dt_X12_wantPlace_0 33 63 (.invokevirtual 184) 3 rfl) (fun r1 M2 => ?_)
  show Sm Z G _ _ _ _ [(3, Value.int t0), (0, k_ra Z 76), (1, Value.int l1), (2, Value.int l2)] [] _ _
  refine x_aload_n C (k_dg dt_X12_wantPlace_0 34 66 (.aload_n 0) 1 rfl) 1 rfl ?_
  refine x_getI C (a := 76) (j := 18) rfl rfl (by decide) fl_RX12_164 rfl (k_dg dt_X12_wantPlace_0 35 67 (.getfield 164) 3 rfl) ?_
  refine x_if_eq C (tgt := 133) (k_dg dt_X12_wantPlace_0 36 70 (.ifCond .eq 63) 3 rfl) (by decide) (fun _ => ?_) (fun _ => ?_)
  · exact x_vret C (by decide) (by decide) (k_dg dt_X12_wantPlace_1 37 133 (.return_) 1 rfl)
  · refine x_aload_n C (k_dg dt_X12_wantPlace_0 37 73 (.aload_n 0) 1 rfl) 1 rfl ?_
    refine x_getR C (a := 76) (j := 21) 84 rfl rfl (by decide) fl_RX12_31 rfl rfl rfl (k_dg dt_X12_wantPlace_0 38 74 (.getfield 31) 3 rfl) ?_
    refine x_iconst C (v := 3) (k_dg dt_X12_wantPlace_0 39 77 (.iconst 3) 1 rfl) (by decide) ?_
    refine x_aload_n C (k_dg dt_X12_wantPlace_1 0 78 (.aload_n 0) 1 rfl) 1 rfl ?_
    refine x_getI C (a := 76) (j := 19) rfl rfl (by decide) fl_RX12_175 rfl (k_dg dt_X12_wantPlace_1 1 79 (.getfield 175) 3 rfl) ?_
    refine x_imul C (k_dg dt_X12_wantPlace_1 2 82 (.imul) 1 rfl) ?_
    refine x_iload_n C (k_dg dt_X12_wantPlace_1 3 83 (.iload_n 1) 1 rfl) 2 rfl ?_
    refine x_iast C (a := 84) (n := 24) rfl rfl (k_dg dt_X12_wantPlace_1 4 84 (.iastore) 1 rfl) (fun M3 => ?_)
    refine x_aload_n C (k_dg dt_X12_wantPlace_1 5 85 (.aload_n 0) 1 rfl) 1 rfl ?_
    refine x_getR C (a := 76) (j := 21) 84 rfl rfl (by decide) fl_RX12_31 rfl rfl rfl (k_dg dt_X12_wantPlace_1 6 86 (.getfield 31) 3 rfl) ?_
    refine x_iconst C (v := 3) (k_dg dt_X12_wantPlace_1 7 89 (.iconst 3) 1 rfl) (by decide) ?_
    refine x_aload_n C (k_dg dt_X12_wantPlace_1 8 90 (.aload_n 0) 1 rfl) 1 rfl ?_
    refine x_getI C (a := 76) (j := 19) rfl rfl (by decide) fl_RX12_175 rfl (k_dg dt_X12_wantPlace_1 9 91 (.getfield 175) 3 rfl) ?_
    refine x_imul C (k_dg dt_X12_wantPlace_1 10 94 (.imul) 1 rfl) ?_
    refine x_iconst C (v := 1) (k_dg dt_X12_wantPlace_1 11 95 (.iconst 1) 1 rfl) (by decide) ?_
    refine x_iadd C (k_dg dt_X12_wantPlace_1 12 96 (.iadd) 1 rfl) ?_
    refine x_iload_n C (k_dg dt_X12_wantPlace_1 13 97 (.iload_n 2) 1 rfl) 3 rfl ?_
    refine x_iast C (a := 84) (n := 24) rfl rfl (k_dg dt_X12_wantPlace_1 14 98 (.iastore) 1 rfl) (fun M4 => ?_)
    refine x_aload_n C (k_dg dt_X12_wantPlace_1 15 99 (.aload_n 0) 1 rfl) 1 rfl ?_
    refine x_getR C (a := 76) (j := 21) 84 rfl rfl (by decide) fl_RX12_31 rfl rfl rfl (k_dg dt_X12_wantPlace_1 16 100 (.getfield 31) 3 rfl) ?_
    refine x_iconst C (v := 3) (k_dg dt_X12_wantPlace_1 17 103 (.iconst 3) 1 rfl) (by decide) ?_
    refine x_aload_n C (k_dg dt_X12_wantPlace_1 18 104 (.aload_n 0) 1 rfl) 1 rfl ?_
    refine x_getI C (a := 76) (j := 19) rfl rfl (by decide) fl_RX12_175 rfl (k_dg dt_X12_wantPlace_1 19 105 (.getfield 175) 3 rfl) ?_
    refine x_imul C (k_dg dt_X12_wantPlace_1 20 108 (.imul) 1 rfl) ?_
    refine x_iconst C (v := 2) (k_dg dt_X12_wantPlace_1 21 109 (.iconst 2) 1 rfl) (by decide) ?_
    refine x_iadd C (k_dg dt_X12_wantPlace_1 22 110 (.iadd) 1 rfl) ?_
    refine x_iload_n C (k_dg dt_X12_wantPlace_1 23 111 (.iload_n 3) 1 rfl) 0 rfl ?_
    refine x_iast C (a := 84) (n := 24) rfl rfl (k_dg dt_X12_wantPlace_1 24 112 (.iastore) 1 rfl) (fun M5 => ?_)
    refine x_aload_n C (k_dg dt_X12_wantPlace_1 25 113 (.aload_n 0) 1 rfl) 1 rfl ?_
    refine x_getR C (a := 76) (j := 23) 86 rfl rfl (by decide) fl_RX12_37 rfl rfl rfl (k_dg dt_X12_wantPlace_1 26 114 (.getfield 37) 3 rfl) ?_
    refine x_aload_n C (k_dg dt_X12_wantPlace_1 27 117 (.aload_n 0) 1 rfl) 1 rfl ?_
    refine x_getI C (a := 76) (j := 19) rfl rfl (by decide) fl_RX12_175 rfl (k_dg dt_X12_wantPlace_1 28 118 (.getfield 175) 3 rfl) ?_
    refine x_iconst C (v := 0) (k_dg dt_X12_wantPlace_1 29 121 (.iconst 0) 1 rfl) (by decide) ?_
    refine x_iast C (a := 86) (n := 8) rfl rfl (k_dg dt_X12_wantPlace_1 30 122 (.iastore) 1 rfl) (fun M6 => ?_)
    refine x_aload_n C (k_dg dt_X12_wantPlace_1 31 123 (.aload_n 0) 1 rfl) 1 rfl ?_
    refine x_dup C (k_dg dt_X12_wantPlace_1 32 124 (.dup) 1 rfl) rfl ?_
    refine x_getI C (a := 76) (j := 19) rfl rfl (by decide) fl_RX12_175 rfl (k_dg dt_X12_wantPlace_1 33 125 (.getfield 175) 3 rfl) ?_
    refine x_iconst C (v := 1) (k_dg dt_X12_wantPlace_1 34 128 (.iconst 1) 1 rfl) (by decide) ?_
    refine x_iadd C (k_dg dt_X12_wantPlace_1 35 129 (.iadd) 1 rfl) ?_
    refine x_putI C (a := 76) (j := 19) rfl rfl (by decide) fl_RX12_175 rfl pt_10_19 tb_10 rfl rfl (k_dg dt_X12_wantPlace_1 36 130 (.putfield 175) 3 rfl) (fun M7 => ?_)
    exact x_vret C (by decide) (by decide) (k_dg dt_X12_wantPlace_1 37 133 (.return_) 1 rfl)
def f_X12_wantPlace_34 (l1 : Int32) (M : k_M) : Option (Unit × k_M) := bd (f_X12_wantNumber 0 9 M) (fun r1 M2 => bd (f_X12_isEndless l1 M2) (fun r3 M4 => if r3 = 0 then bd (f_X12_wantNumber 0 99 M4) (fun r5 M6 => f_X12_wantPlace_61 l1 r1 r5 M6) else f_X12_wantPlace_61 l1 r1 99 M4))
theorem m_X12_wantPlace_34 {Z : k_Z} {G : k_G} (C : k_C Z G RX12 cX12_wantPlace (true, 4, 5, 0, 0) none "wantPlace") (l1 : Int32) (M : k_M) : Sm Z G emV (true, 4, 5, 0, 0) (0, 0) 34 [(0, k_ra Z 76), (1, Value.int l1)] [] M (f_X12_wantPlace_34 l1 M) := by
  show Sm Z G emV _ _ _ _ _ _ (bd (f_X12_wantNumber 0 9 M) (fun r1 M2 => bd (f_X12_isEndless l1 M2) (fun r3 M4 => if r3 = 0 then bd (f_X12_wantNumber 0 99 M4) (fun r5 M6 => f_X12_wantPlace_61 l1 r1 r5 M6) else f_X12_wantPlace_61 l1 r1 99 M4)))
  refine x_aload_n C (k_dg dt_X12_wantPlace_0 17 34 (.aload_n 0) 1 rfl) 0 rfl ?_
  refine x_iconst C (v := 0) (k_dg dt_X12_wantPlace_0 18 35 (.iconst 0) 1 rfl) (by decide) ?_
  refine x_bipush C (v := 9) (k_dg dt_X12_wantPlace_0 19 36 (.bipush 9) 2 rfl) (by decide) ?_
  refine x_callV C (a := 76) (kd := 10) (vs := [Value.int 0, Value.int 9]) (rest := []) rfl rfl (by decide) (fun r hr => by cases hr; rfl) (c_X12_wantNumber C.2.2.2.2.2.2.2.2.2 G.2.1 0 9 M) cy_X12_wantNumber lk_RX12_178 im_X12_wantNumber se_X12_wantNumber (by decide) (by decide) (by decide) (by decide) rfl rfl (Nat.le_of_ble_eq_true rfl) (k_dg dt_X12_wantPlace_0 20 38 (.invokevirtual 178) 3 rfl) (fun r1 M2 => ?_)
  show Sm Z G _ _ _ _ [(0, k_ra Z 76), (1, Value.int l1)] [Value.int r1] _ _
  refine x_istore_n C (lv' := [(2, Value.int r1), (0, k_ra Z 76), (1, Value.int l1)]) (k_dg dt_X12_wantPlace_0 21 41 (.istore_n 2) 1 rfl) (by decide) rfl ?_
  refine x_iload_n C (k_dg dt_X12_wantPlace_0 22 42 (.iload_n 1) 1 rfl) 2 rfl ?_
  refine x_callS C (vs := [Value.int l1]) (rest := []) (c_X12_isEndless C.2.2.2.2.2.2.2.2.2 G.2.1 l1 M2) cy_X12_isEndless lk_RX12_181 stt_X12_isEndless (by decide) (by decide) (by decide) (by decide) rfl rfl (Nat.le_of_ble_eq_true rfl) (k_dg dt_X12_wantPlace_0 23 43 (.invokestatic 181) 3 rfl) (fun r3 M4 => ?_)
  show Sm Z G _ _ _ _ [(2, Value.int r1), (0, k_ra Z 76), (1, Value.int l1)] [Value.int r3] _ _
  refine x_if_eq C (tgt := 54) (k_dg dt_X12_wantPlace_0 24 46 (.ifCond .eq 8) 3 rfl) (by decide) (fun _ => ?_) (fun _ => ?_)
  · refine x_aload_n C (k_dg dt_X12_wantPlace_0 27 54 (.aload_n 0) 1 rfl) 1 rfl ?_
    refine x_iconst C (v := 0) (k_dg dt_X12_wantPlace_0 28 55 (.iconst 0) 1 rfl) (by decide) ?_
    refine x_bipush C (v := 99) (k_dg dt_X12_wantPlace_0 29 56 (.bipush 99) 2 rfl) (by decide) ?_
    refine x_callV C (a := 76) (kd := 10) (vs := [Value.int 0, Value.int 99]) (rest := []) rfl rfl (by decide) (fun r hr => by cases hr; rfl) (c_X12_wantNumber C.2.2.2.2.2.2.2.2.2 G.2.1 0 99 M4) cy_X12_wantNumber lk_RX12_178 im_X12_wantNumber se_X12_wantNumber (by decide) (by decide) (by decide) (by decide) rfl rfl (Nat.le_of_ble_eq_true rfl) (k_dg dt_X12_wantPlace_0 30 58 (.invokevirtual 178) 3 rfl) (fun r5 M6 => ?_)
    show Sm Z G _ _ _ _ [(2, Value.int r1), (0, k_ra Z 76), (1, Value.int l1)] [Value.int r5] _ _
    refine x_lv [1, 2, 0] rfl ?_
    exact m_X12_wantPlace_61 C l1 r1 r5 M6
  · refine x_bipush C (v := 99) (k_dg dt_X12_wantPlace_0 25 49 (.bipush 99) 2 rfl) (by decide) ?_
    refine x_goto C (tgt := 61) (k_dg dt_X12_wantPlace_0 26 51 (.goto 10) 3 rfl) (by decide) ?_
    refine x_lv [1, 2, 0] rfl ?_
    exact m_X12_wantPlace_61 C l1 r1 99 M4
def f_X12_wantPlace_20 (l1 : Int32) (t1 : Int32) (M : k_M) : Option (Unit × k_M) := ckZ t1 (bN (sI M 76 18 t1) (fun M1 => if (M1.1 76 18) = 0 then f_X12_wantPlace_34 l1 M1 else bd (f_X12_advance M1) (fun r3 M4 => f_X12_wantPlace_34 l1 M4)))
theorem m_X12_wantPlace_20 {Z : k_Z} {G : k_G} (C : k_C Z G RX12 cX12_wantPlace (true, 4, 5, 0, 0) none "wantPlace") (l1 : Int32) (t1 : Int32) (M : k_M) : Sm Z G emV (true, 4, 5, 0, 0) (0, 0) 20 [(0, k_ra Z 76), (1, Value.int l1)] [Value.int t1, k_ra Z 76] M (f_X12_wantPlace_20 l1 t1 M) := by
  show Sm Z G emV _ _ _ _ _ _ (ckZ t1 (bN (sI M 76 18 t1) (fun M1 => if (M1.1 76 18) = 0 then f_X12_wantPlace_34 l1 M1 else bd (f_X12_advance M1) (fun r3 M4 => f_X12_wantPlace_34 l1 M4))))
  refine x_ckZ (v := t1) (fun h2 => ?_)
  refine x_putI C (a := 76) (j := 18) rfl rfl (by decide) fl_RX12_164 rfl pt_10_18 tb_10 (k_nz h2) (k_fz h2) (k_dg dt_X12_wantPlace_0 11 20 (.putfield 164) 3 rfl) (fun M1 => ?_)
  refine x_aload_n C (k_dg dt_X12_wantPlace_0 12 23 (.aload_n 0) 1 rfl) 0 rfl ?_
  refine x_getI C (a := 76) (j := 18) rfl rfl (by decide) fl_RX12_164 rfl (k_dg dt_X12_wantPlace_0 13 24 (.getfield 164) 3 rfl) ?_
  refine x_if_eq C (tgt := 34) (k_dg dt_X12_wantPlace_0 14 27 (.ifCond .eq 7) 3 rfl) (by decide) (fun _ => ?_) (fun _ => ?_)
  · exact m_X12_wantPlace_34 C l1 M1
  · refine x_aload_n C (k_dg dt_X12_wantPlace_0 15 30 (.aload_n 0) 1 rfl) 0 rfl ?_
    refine x_callV C (a := 76) (kd := 10) (vs := []) (rest := []) rfl rfl (by decide) (fun r hr => by cases hr; rfl) (c_X12_advance C.2.2.2.2.2.2.2.2.2 G.2.1 M1) cy_X12_advance lk_RX12_168 im_X12_advance se_X12_advance (by decide) (by decide) (by decide) (by decide) rfl rfl (Nat.le_of_ble_eq_true rfl) (k_dg dt_X12_wantPlace_0 16 31 (.invokevirtual 168) 3 rfl) (fun r3 M4 => ?_)
    show Sm Z G _ _ _ _ [(0, k_ra Z 76), (1, Value.int l1)] [] _ _
    exact m_X12_wantPlace_34 C l1 M4
def f_X12_wantPlace (M : k_M) : Option (Unit × k_M) := bd (f_X12_kindHere M) (fun r1 M2 => if 8 ≤ (M2.1 76 19) then f_X12_wantPlace_20 r1 0 M2 else f_X12_wantPlace_20 r1 1 M2)
theorem m_X12_wantPlace_0 {Z : k_Z} {G : k_G} (C : k_C Z G RX12 cX12_wantPlace (true, 4, 5, 0, 0) none "wantPlace") (M : k_M) : Sm Z G emV (true, 4, 5, 0, 0) (0, 0) 0 [(0, k_ra Z 76)] [] M (f_X12_wantPlace M) := by
  show Sm Z G emV _ _ _ _ _ _ (bd (f_X12_kindHere M) (fun r1 M2 => if 8 ≤ (M2.1 76 19) then f_X12_wantPlace_20 r1 0 M2 else f_X12_wantPlace_20 r1 1 M2))
  refine x_aload_n C (k_dg dt_X12_wantPlace_0 0 0 (.aload_n 0) 1 rfl) 0 rfl ?_
  refine x_callV C (a := 76) (kd := 10) (vs := []) (rest := []) rfl rfl (by decide) (fun r hr => by cases hr; rfl) (c_X12_kindHere C.2.2.2.2.2.2.2.2.2 G.2.1 M) cy_X12_kindHere lk_RX12_171 im_X12_kindHere se_X12_kindHere (by decide) (by decide) (by decide) (by decide) rfl rfl (Nat.le_of_ble_eq_true rfl) (k_dg dt_X12_wantPlace_0 1 1 (.invokevirtual 171) 3 rfl) (fun r1 M2 => ?_)
  show Sm Z G _ _ _ _ [(0, k_ra Z 76)] [Value.int r1] _ _
  refine x_istore_n C (lv' := [(1, Value.int r1), (0, k_ra Z 76)]) (k_dg dt_X12_wantPlace_0 2 4 (.istore_n 1) 1 rfl) (by decide) rfl ?_
  refine x_aload_n C (k_dg dt_X12_wantPlace_0 3 5 (.aload_n 0) 1 rfl) 1 rfl ?_
  refine x_aload_n C (k_dg dt_X12_wantPlace_0 4 6 (.aload_n 0) 1 rfl) 1 rfl ?_
  refine x_getI C (a := 76) (j := 19) rfl rfl (by decide) fl_RX12_175 rfl (k_dg dt_X12_wantPlace_0 5 7 (.getfield 175) 3 rfl) ?_
  refine x_bipush C (v := 8) (k_dg dt_X12_wantPlace_0 6 10 (.bipush 8) 2 rfl) (by decide) ?_
  refine x_icmp_ge C (tgt := 19) (k_dg dt_X12_wantPlace_0 7 12 (.if_icmp .ge 7) 3 rfl) (by decide) (fun _ => ?_) (fun _ => ?_)
  · refine x_iconst C (v := 0) (k_dg dt_X12_wantPlace_0 10 19 (.iconst 0) 1 rfl) (by decide) ?_
    refine x_lv [1, 0] rfl ?_
    exact m_X12_wantPlace_20 C r1 0 M2
  · refine x_iconst C (v := 1) (k_dg dt_X12_wantPlace_0 8 15 (.iconst 1) 1 rfl) (by decide) ?_
    refine x_goto C (tgt := 20) (k_dg dt_X12_wantPlace_0 9 16 (.goto 4) 3 rfl) (by decide) ?_
    refine x_lv [1, 0] rfl ?_
    exact m_X12_wantPlace_20 C r1 1 M2
theorem c_X12_wantPlace {Z : k_Z} (hg : k_Gd Z) (l : Launch) (M : k_M) : Con true Z l yX12_wantPlace cX12_wantPlace 4 none 5 0 0 emV [k_ra Z 76] M (f_X12_wantPlace M) := k_con hg (by decide) (Nat.le_of_ble_eq_true rfl) (fun G hl C => m_X12_wantPlace_0 C M)
theorem dt_X12_wantOne_0 : k_dec cX12_wantOne [(0, .aload_n 0, 1), (1, .aload_n 0, 1), (2, .getfield 164, 3), (5, .ifCond .eq 70, 3), (8, .aload_n 0, 1), (9, .getfield 132, 3), (12, .iconst 2, 1), (13, .if_icmp .ne 58, 3), (16, .aload_n 0, 1), (17, .getfield 139, 3), (20, .iconst 0, 1), (21, .aload_n 0, 1), (22, .getfield 175, 3), (25, .iconst 1, 1), (26, .isub, 1), (27, .invokestatic 99, 3), (30, .ifCond .eq 41, 3), (33, .aload_n 0, 1), (34, .getfield 139, 3), (37, .iload_n 1, 1), (38, .if_icmp .eq 37, 3), (41, .aload_n 0, 1), (42, .getfield 37, 3), (45, .aload_n 0, 1), (46, .getfield 139, 3), (49, .iconst 0, 1), (50, .bipush 7, 2), (52, .invokestatic 99, 3), (55, .ifCond .eq 10, 3), (58, .aload_n 0, 1), (59, .getfield 139, 3), (62, .goto 4, 3), (65, .iconst 0, 1), (66, .iaload, 1), (67, .iconst 4, 1), (68, .if_icmp .eq 7, 3), (71, .iconst 1, 1), (72, .goto 4, 3), (75, .iconst 0, 1), (76, .putfield 164, 3)] = true := by decide +kernel
theorem dt_X12_wantOne_1 : k_dec cX12_wantOne [(79, .aload_n 0, 1), (80, .iconst 0, 1), (81, .aload_n 0, 1), (82, .getfield 175, 3), (85, .iconst 1, 1), (86, .isub, 1), (87, .invokevirtual 178, 3), (90, .ireturn, 1)] = true := by decide +kernel
def f_X12_wantOne_76 (t1 : Int32) (M : k_M) : Option (Int32 × k_M) := ckZ t1 (bN (sI M 76 18 t1) (fun M1 => bd (f_X12_wantNumber 0 ((M1.1 76 19) - 1) M1) (fun r3 M4 => some (r3, M4))))
theorem m_X12_wantOne_76 {Z : k_Z} {G : k_G} (C : k_C Z G RX12 cX12_wantOne (true, 2, 5, 0, 0) (some .int) "wantOne") (t1 : Int32) (M : k_M) : Sm Z G emI (true, 2, 5, 0, 0) (0, 0) 76 [(0, k_ra Z 76)] [Value.int t1, k_ra Z 76] M (f_X12_wantOne_76 t1 M) := by
  show Sm Z G emI _ _ _ _ _ _ (ckZ t1 (bN (sI M 76 18 t1) (fun M1 => bd (f_X12_wantNumber 0 ((M1.1 76 19) - 1) M1) (fun r3 M4 => some (r3, M4)))))
  refine x_ckZ (v := t1) (fun h2 => ?_)
  refine x_putI C (a := 76) (j := 18) rfl rfl (by decide) fl_RX12_164 rfl pt_10_18 tb_10 (k_nz h2) (k_fz h2) (k_dg dt_X12_wantOne_0 39 76 (.putfield 164) 3 rfl) (fun M1 => ?_)
  refine x_aload_n C (k_dg dt_X12_wantOne_1 0 79 (.aload_n 0) 1 rfl) 0 rfl ?_
  refine x_iconst C (v := 0) (k_dg dt_X12_wantOne_1 1 80 (.iconst 0) 1 rfl) (by decide) ?_
  refine x_aload_n C (k_dg dt_X12_wantOne_1 2 81 (.aload_n 0) 1 rfl) 0 rfl ?_
  refine x_getI C (a := 76) (j := 19) rfl rfl (by decide) fl_RX12_175 rfl (k_dg dt_X12_wantOne_1 3 82 (.getfield 175) 3 rfl) ?_
  refine x_iconst C (v := 1) (k_dg dt_X12_wantOne_1 4 85 (.iconst 1) 1 rfl) (by decide) ?_
  refine x_isub C (k_dg dt_X12_wantOne_1 5 86 (.isub) 1 rfl) ?_
  refine x_callV C (a := 76) (kd := 10) (vs := [Value.int 0, Value.int ((M1.1 76 19) - 1)]) (rest := []) rfl rfl (by decide) (fun r hr => by cases hr; rfl) (c_X12_wantNumber C.2.2.2.2.2.2.2.2.2 G.2.1 0 ((M1.1 76 19) - 1) M1) cy_X12_wantNumber lk_RX12_178 im_X12_wantNumber se_X12_wantNumber (by decide) (by decide) (by decide) (by decide) rfl rfl (Nat.le_of_ble_eq_true rfl) (k_dg dt_X12_wantOne_1 6 87 (.invokevirtual 178) 3 rfl) (fun r3 M4 => ?_)
  show Sm Z G _ _ _ _ [(0, k_ra Z 76)] [Value.int r3] _ _
  exact x_iret C (by decide) (by decide) (k_dg dt_X12_wantOne_1 7 90 (.ireturn) 1 rfl)
def f_X12_wantOne_71 (M : k_M) : Option (Int32 × k_M) := f_X12_wantOne_76 1 M
theorem m_X12_wantOne_71 {Z : k_Z} {G : k_G} (C : k_C Z G RX12 cX12_wantOne (true, 2, 5, 0, 0) (some .int) "wantOne") (M : k_M) : Sm Z G emI (true, 2, 5, 0, 0) (0, 0) 71 [(0, k_ra Z 76)] [k_ra Z 76] M (f_X12_wantOne_71 M) := by
  show Sm Z G emI _ _ _ _ _ _ (f_X12_wantOne_76 1 M)
  refine x_iconst C (v := 1) (k_dg dt_X12_wantOne_0 36 71 (.iconst 1) 1 rfl) (by decide) ?_
  refine x_goto C (tgt := 76) (k_dg dt_X12_wantOne_0 37 72 (.goto 4) 3 rfl) (by decide) ?_
  exact m_X12_wantOne_76 C 1 M
def f_X12_wantOne_75 (M : k_M) : Option (Int32 × k_M) := f_X12_wantOne_76 0 M
theorem m_X12_wantOne_75 {Z : k_Z} {G : k_G} (C : k_C Z G RX12 cX12_wantOne (true, 2, 5, 0, 0) (some .int) "wantOne") (M : k_M) : Sm Z G emI (true, 2, 5, 0, 0) (0, 0) 75 [(0, k_ra Z 76)] [k_ra Z 76] M (f_X12_wantOne_75 M) := by
  show Sm Z G emI _ _ _ _ _ _ (f_X12_wantOne_76 0 M)
  refine x_iconst C (v := 0) (k_dg dt_X12_wantOne_0 38 75 (.iconst 0) 1 rfl) (by decide) ?_
  exact m_X12_wantOne_76 C 0 M
def f_X12_wantOne_66 (t2 : Int32) (M : k_M) : Option (Int32 × k_M) := rdI M 86 8 t2 (fun v1 => if v1 = 4 then f_X12_wantOne_75 M else f_X12_wantOne_71 M)
theorem m_X12_wantOne_66 {Z : k_Z} {G : k_G} (C : k_C Z G RX12 cX12_wantOne (true, 2, 5, 0, 0) (some .int) "wantOne") (t2 : Int32) (M : k_M) : Sm Z G emI (true, 2, 5, 0, 0) (0, 0) 66 [(0, k_ra Z 76)] [Value.int t2, k_ra Z 86, k_ra Z 76] M (f_X12_wantOne_66 t2 M) := by
  show Sm Z G emI _ _ _ _ _ _ (rdI M 86 8 t2 (fun v1 => if v1 = 4 then f_X12_wantOne_75 M else f_X12_wantOne_71 M))
  refine x_iald C (a := 86) (n := 8) rfl rfl (k_dg dt_X12_wantOne_0 33 66 (.iaload) 1 rfl) (fun v1 => ?_)
  refine x_iconst C (v := 4) (k_dg dt_X12_wantOne_0 34 67 (.iconst 4) 1 rfl) (by decide) ?_
  refine x_icmp_eq C (tgt := 75) (k_dg dt_X12_wantOne_0 35 68 (.if_icmp .eq 7) 3 rfl) (by decide) (fun _ => ?_) (fun _ => ?_)
  · exact m_X12_wantOne_75 C M
  · exact m_X12_wantOne_71 C M
def f_X12_wantOne (p1 : Int32) (M : k_M) : Option (Int32 × k_M) := if (M.1 76 18) = 0 then f_X12_wantOne_75 M else if (M.1 76 13) = 2 then bd (f_X12_in (M.1 76 17) 0 ((M.1 76 19) - 1) M) (fun r1 M2 => if r1 = 0 then f_X12_wantOne_71 M2 else if (M2.1 76 17) = p1 then f_X12_wantOne_75 M2 else bd (f_X12_in (M2.1 76 17) 0 7 M2) (fun r3 M4 => if r3 = 0 then f_X12_wantOne_66 0 M4 else f_X12_wantOne_66 (M4.1 76 17) M4)) else f_X12_wantOne_71 M
theorem m_X12_wantOne_0 {Z : k_Z} {G : k_G} (C : k_C Z G RX12 cX12_wantOne (true, 2, 5, 0, 0) (some .int) "wantOne") (p1 : Int32) (M : k_M) : Sm Z G emI (true, 2, 5, 0, 0) (0, 0) 0 [(0, k_ra Z 76), (1, Value.int p1)] [] M (f_X12_wantOne p1 M) := by
  show Sm Z G emI _ _ _ _ _ _ (if (M.1 76 18) = 0 then f_X12_wantOne_75 M else if (M.1 76 13) = 2 then bd (f_X12_in (M.1 76 17) 0 ((M.1 76 19) - 1) M) (fun r1 M2 => if r1 = 0 then f_X12_wantOne_71 M2 else if (M2.1 76 17) = p1 then f_X12_wantOne_75 M2 else bd (f_X12_in (M2.1 76 17) 0 7 M2) (fun r3 M4 => if r3 = 0 then f_X12_wantOne_66 0 M4 else f_X12_wantOne_66 (M4.1 76 17) M4)) else f_X12_wantOne_71 M)
  refine x_aload_n C (k_dg dt_X12_wantOne_0 0 0 (.aload_n 0) 1 rfl) 0 rfl ?_
  refine x_aload_n C (k_dg dt_X12_wantOne_0 1 1 (.aload_n 0) 1 rfl) 0 rfl ?_
  refine x_getI C (a := 76) (j := 18) rfl rfl (by decide) fl_RX12_164 rfl (k_dg dt_X12_wantOne_0 2 2 (.getfield 164) 3 rfl) ?_
  refine x_if_eq C (tgt := 75) (k_dg dt_X12_wantOne_0 3 5 (.ifCond .eq 70) 3 rfl) (by decide) (fun _ => ?_) (fun _ => ?_)
  · refine x_lv [0] rfl ?_
    exact m_X12_wantOne_75 C M
  · refine x_aload_n C (k_dg dt_X12_wantOne_0 4 8 (.aload_n 0) 1 rfl) 0 rfl ?_
    refine x_getI C (a := 76) (j := 13) rfl rfl (by decide) fl_RX12_132 rfl (k_dg dt_X12_wantOne_0 5 9 (.getfield 132) 3 rfl) ?_
    refine x_iconst C (v := 2) (k_dg dt_X12_wantOne_0 6 12 (.iconst 2) 1 rfl) (by decide) ?_
    refine x_icmp_ne C (tgt := 71) (k_dg dt_X12_wantOne_0 7 13 (.if_icmp .ne 58) 3 rfl) (by decide) (fun _ => ?_) (fun _ => ?_)
    · refine x_aload_n C (k_dg dt_X12_wantOne_0 8 16 (.aload_n 0) 1 rfl) 0 rfl ?_
      refine x_getI C (a := 76) (j := 17) rfl rfl (by decide) fl_RX12_139 rfl (k_dg dt_X12_wantOne_0 9 17 (.getfield 139) 3 rfl) ?_
      refine x_iconst C (v := 0) (k_dg dt_X12_wantOne_0 10 20 (.iconst 0) 1 rfl) (by decide) ?_
      refine x_aload_n C (k_dg dt_X12_wantOne_0 11 21 (.aload_n 0) 1 rfl) 0 rfl ?_
      refine x_getI C (a := 76) (j := 19) rfl rfl (by decide) fl_RX12_175 rfl (k_dg dt_X12_wantOne_0 12 22 (.getfield 175) 3 rfl) ?_
      refine x_iconst C (v := 1) (k_dg dt_X12_wantOne_0 13 25 (.iconst 1) 1 rfl) (by decide) ?_
      refine x_isub C (k_dg dt_X12_wantOne_0 14 26 (.isub) 1 rfl) ?_
      refine x_callS C (vs := [Value.int (M.1 76 17), Value.int 0, Value.int ((M.1 76 19) - 1)]) (rest := [k_ra Z 76]) (c_X12_in C.2.2.2.2.2.2.2.2.2 G.2.1 (M.1 76 17) 0 ((M.1 76 19) - 1) M) cy_X12_in lk_RX12_99 stt_X12_in (by decide) (by decide) (by decide) (by decide) rfl rfl (Nat.le_of_ble_eq_true rfl) (k_dg dt_X12_wantOne_0 15 27 (.invokestatic 99) 3 rfl) (fun r1 M2 => ?_)
      show Sm Z G _ _ _ _ [(0, k_ra Z 76), (1, Value.int p1)] [Value.int r1, k_ra Z 76] _ _
      refine x_if_eq C (tgt := 71) (k_dg dt_X12_wantOne_0 16 30 (.ifCond .eq 41) 3 rfl) (by decide) (fun _ => ?_) (fun _ => ?_)
      · refine x_lv [0] rfl ?_
        exact m_X12_wantOne_71 C M2
      · refine x_aload_n C (k_dg dt_X12_wantOne_0 17 33 (.aload_n 0) 1 rfl) 0 rfl ?_
        refine x_getI C (a := 76) (j := 17) rfl rfl (by decide) fl_RX12_139 rfl (k_dg dt_X12_wantOne_0 18 34 (.getfield 139) 3 rfl) ?_
        refine x_iload_n C (k_dg dt_X12_wantOne_0 19 37 (.iload_n 1) 1 rfl) 1 rfl ?_
        refine x_icmp_eq C (tgt := 75) (k_dg dt_X12_wantOne_0 20 38 (.if_icmp .eq 37) 3 rfl) (by decide) (fun _ => ?_) (fun _ => ?_)
        · refine x_lv [0] rfl ?_
          exact m_X12_wantOne_75 C M2
        · refine x_aload_n C (k_dg dt_X12_wantOne_0 21 41 (.aload_n 0) 1 rfl) 0 rfl ?_
          refine x_getR C (a := 76) (j := 23) 86 rfl rfl (by decide) fl_RX12_37 rfl rfl rfl (k_dg dt_X12_wantOne_0 22 42 (.getfield 37) 3 rfl) ?_
          refine x_aload_n C (k_dg dt_X12_wantOne_0 23 45 (.aload_n 0) 1 rfl) 0 rfl ?_
          refine x_getI C (a := 76) (j := 17) rfl rfl (by decide) fl_RX12_139 rfl (k_dg dt_X12_wantOne_0 24 46 (.getfield 139) 3 rfl) ?_
          refine x_iconst C (v := 0) (k_dg dt_X12_wantOne_0 25 49 (.iconst 0) 1 rfl) (by decide) ?_
          refine x_bipush C (v := 7) (k_dg dt_X12_wantOne_0 26 50 (.bipush 7) 2 rfl) (by decide) ?_
          refine x_callS C (vs := [Value.int (M2.1 76 17), Value.int 0, Value.int 7]) (rest := [k_ra Z 86, k_ra Z 76]) (c_X12_in C.2.2.2.2.2.2.2.2.2 G.2.1 (M2.1 76 17) 0 7 M2) cy_X12_in lk_RX12_99 stt_X12_in (by decide) (by decide) (by decide) (by decide) rfl rfl (Nat.le_of_ble_eq_true rfl) (k_dg dt_X12_wantOne_0 27 52 (.invokestatic 99) 3 rfl) (fun r3 M4 => ?_)
          show Sm Z G _ _ _ _ [(0, k_ra Z 76), (1, Value.int p1)] [Value.int r3, k_ra Z 86, k_ra Z 76] _ _
          refine x_if_eq C (tgt := 65) (k_dg dt_X12_wantOne_0 28 55 (.ifCond .eq 10) 3 rfl) (by decide) (fun _ => ?_) (fun _ => ?_)
          · refine x_iconst C (v := 0) (k_dg dt_X12_wantOne_0 32 65 (.iconst 0) 1 rfl) (by decide) ?_
            refine x_lv [0] rfl ?_
            exact m_X12_wantOne_66 C 0 M4
          · refine x_aload_n C (k_dg dt_X12_wantOne_0 29 58 (.aload_n 0) 1 rfl) 0 rfl ?_
            refine x_getI C (a := 76) (j := 17) rfl rfl (by decide) fl_RX12_139 rfl (k_dg dt_X12_wantOne_0 30 59 (.getfield 139) 3 rfl) ?_
            refine x_goto C (tgt := 66) (k_dg dt_X12_wantOne_0 31 62 (.goto 4) 3 rfl) (by decide) ?_
            refine x_lv [0] rfl ?_
            exact m_X12_wantOne_66 C (M4.1 76 17) M4
    · refine x_lv [0] rfl ?_
      exact m_X12_wantOne_71 C M
theorem c_X12_wantOne {Z : k_Z} (hg : k_Gd Z) (l : Launch) (p1 : Int32) (M : k_M) : Con true Z l yX12_wantOne cX12_wantOne 2 (some .int) 5 0 0 emI [k_ra Z 76, Value.int p1] M (f_X12_wantOne p1 M) := k_con hg (by decide) (Nat.le_of_ble_eq_true rfl) (fun G hl C => m_X12_wantOne_0 C p1 M)
theorem dt_X12_wantWay_0 : k_dec cX12_wantWay [(0, .aload_n 0, 1), (1, .aload_n 0, 1), (2, .getfield 187, 3), (5, .bipush 12, 2), (7, .if_icmp .ge 7, 3), (10, .iconst 1, 1), (11, .goto 4, 3), (14, .iconst 0, 1), (15, .putfield 164, 3), (18, .aload_n 0, 1), (19, .getfield 164, 3), (22, .ifCond .eq 7, 3), (25, .aload_n 0, 1), (26, .invokevirtual 168, 3), (29, .aload_n 0, 1), (30, .iconst (-1), 1), (31, .invokevirtual 190, 3), (34, .istore_n 1, 1), (35, .aload_n 0, 1), (36, .iload_n 1, 1), (37, .invokevirtual 190, 3), (40, .istore_n 2, 1), (41, .aload_n 0, 1), (42, .iconst 1, 1), (43, .iconst 4, 1), (44, .invokevirtual 178, 3), (47, .istore_n 3, 1), (48, .aload_n 0, 1), (49, .iconst 0, 1), (50, .bipush 9, 2), (52, .invokevirtual 178, 3), (55, .istore 4, 2), (57, .iconst 0, 1), (58, .istore 5, 2), (60, .aload_n 0, 1), (61, .getfield 164, 3), (64, .ifCond .eq 17, 3), (67, .aload_n 0, 1), (68, .ldc2_w 193, 3), (71, .invokevirtual 150, 3)] = true := by decide +kernel
theorem dt_X12_wantWay_1 : k_dec cX12_wantWay [(74, .ifCond .eq 7, 3), (77, .iconst 1, 1), (78, .goto 4, 3), (81, .iconst 0, 1), (82, .istore 6, 2), (84, .iload 6, 2), (86, .ifCond .eq 63, 3), (89, .aload_n 0, 1), (90, .invokevirtual 168, 3), (93, .aload_n 0, 1), (94, .iconst 0, 1), (95, .bipush 11, 2), (97, .invokevirtual 178, 3), (100, .istore 7, 2), (102, .iload 5, 2), (104, .aload_n 0, 1), (105, .getfield 164, 3), (108, .ifCond .eq 10, 3), (111, .iconst 1, 1), (112, .iload 7, 2), (114, .ishl, 1), (115, .goto 4, 3), (118, .iconst 0, 1), (119, .ior, 1), (120, .istore 5, 2), (122, .aload_n 0, 1), (123, .getfield 164, 3), (126, .ifCond .eq 17, 3), (129, .aload_n 0, 1), (130, .ldc2_w 195, 3), (133, .invokevirtual 150, 3), (136, .ifCond .eq 7, 3), (139, .iconst 1, 1), (140, .goto 4, 3), (143, .iconst 0, 1), (144, .istore 6, 2), (146, .goto (-62), 3), (149, .aload_n 0, 1), (150, .invokevirtual 184, 3), (153, .aload_n 0, 1)] = true := by decide +kernel
theorem dt_X12_wantWay_2 : k_dec cX12_wantWay [(154, .getfield 164, 3), (157, .ifCond .eq 120, 3), (160, .iconst 5, 1), (161, .aload_n 0, 1), (162, .getfield 187, 3), (165, .imul, 1), (166, .istore 7, 2), (168, .aload_n 0, 1), (169, .getfield 34, 3), (172, .iload 7, 2), (174, .iload_n 1, 1), (175, .iload_n 2, 1), (176, .if_icmp .ge 7, 3), (179, .iload_n 1, 1), (180, .goto 4, 3), (183, .iload_n 2, 1), (184, .iastore, 1), (185, .aload_n 0, 1), (186, .getfield 34, 3), (189, .iload 7, 2), (191, .iconst 1, 1), (192, .iadd, 1), (193, .iload_n 1, 1), (194, .iload_n 2, 1), (195, .if_icmp .ge 7, 3), (198, .iload_n 2, 1), (199, .goto 4, 3), (202, .iload_n 1, 1), (203, .iastore, 1), (204, .aload_n 0, 1), (205, .getfield 34, 3), (208, .iload 7, 2), (210, .iconst 2, 1), (211, .iadd, 1), (212, .iload_n 3, 1), (213, .iastore, 1), (214, .aload_n 0, 1), (215, .getfield 34, 3), (218, .iload 7, 2), (220, .iconst 3, 1)] = true := by decide +kernel
theorem dt_X12_wantWay_3 : k_dec cX12_wantWay [(221, .iadd, 1), (222, .iload 4, 2), (224, .iastore, 1), (225, .aload_n 0, 1), (226, .getfield 34, 3), (229, .iload 7, 2), (231, .iconst 4, 1), (232, .iadd, 1), (233, .iload 5, 2), (235, .ifCond .ne 9, 3), (238, .sipush 4095, 3), (241, .goto 5, 3), (244, .iload 5, 2), (246, .iastore, 1), (247, .aload_n 0, 1), (248, .getfield 37, 3), (251, .iload_n 1, 1), (252, .dup2, 1), (253, .iaload, 1), (254, .iconst 1, 1), (255, .iadd, 1), (256, .iastore, 1), (257, .aload_n 0, 1), (258, .getfield 37, 3), (261, .iload_n 2, 1), (262, .dup2, 1), (263, .iaload, 1), (264, .iconst 1, 1), (265, .iadd, 1), (266, .iastore, 1), (267, .aload_n 0, 1), (268, .dup, 1), (269, .getfield 187, 3), (272, .iconst 1, 1), (273, .iadd, 1), (274, .putfield 187, 3), (277, .return_, 1)] = true := by decide +kernel
def f_X12_wantWay_144 (l1 : Int32) (l2 : Int32) (l3 : Int32) (l4 : Int32) (l5 : Int32) (t0 : Int32) (M : k_M) (kb : Int32 → Int32 → Int32 → Int32 → Int32 → Int32 → k_M → Option (Unit × k_M)) (kx149 : Int32 → Int32 → Int32 → Int32 → Int32 → k_M → Option (Unit × k_M)) : Option (Unit × k_M) := kb l1 l2 l3 l4 l5 t0 M
theorem m_X12_wantWay_144 {Z : k_Z} {G : k_G} (C : k_C Z G RX12 cX12_wantWay (true, 8, 6, 0, 0) none "wantWay") (kb : Int32 → Int32 → Int32 → Int32 → Int32 → Int32 → k_M → Option (Unit × k_M)) (kx149 : Int32 → Int32 → Int32 → Int32 → Int32 → k_M → Option (Unit × k_M)) (Hb : ∀ (l1 : Int32) (l2 : Int32) (l3 : Int32) (l4 : Int32) (l5 : Int32) (l6 : Int32) (M : k_M), Sm Z G emV (true, 8, 6, 0, 0) (0, 0) 84 [(0, k_ra Z 76), (1, Value.int l1), (2, Value.int l2), (3, Value.int l3), (4, Value.int l4), (5, Value.int l5), (6, Value.int l6)] [] M (kb l1 l2 l3 l4 l5 l6 M)) (Hx149 : ∀ (l1 : Int32) (l2 : Int32) (l3 : Int32) (l4 : Int32) (l5 : Int32) (M : k_M), Sm Z G emV (true, 8, 6, 0, 0) (0, 0) 149 [(0, k_ra Z 76), (1, Value.int l1), (2, Value.int l2), (3, Value.int l3), (4, Value.int l4), (5, Value.int l5)] [] M (kx149 l1 l2 l3 l4 l5 M)) (l1 : Int32) (l2 : Int32) (l3 : Int32) (l4 : Int32) (l5 : Int32) (t0 : Int32) (M : k_M) : Sm Z G emV (true, 8, 6, 0, 0) (0, 0) 144 [(0, k_ra Z 76), (1, Value.int l1), (2, Value.int l2), (3, Value.int l3), (4, Value.int l4), (5, Value.int l5)] [Value.int t0] M (f_X12_wantWay_144 l1 l2 l3 l4 l5 t0 M kb kx149) := by
  show Sm Z G emV _ _ _ _ _ _ (kb l1 l2 l3 l4 l5 t0 M)
  refine x_istore C (lv' := [(6, Value.int t0), (0, k_ra Z 76), (1, Value.int l1), (2, Value.int l2), (3, Value.int l3), (4, Value.int l4), (5, Value.int l5)]) (k_dg dt_X12_wantWay_1 35 144 (.istore 6) 2 rfl) (by decide) rfl ?_
  refine x_goto C (tgt := 84) (k_dg dt_X12_wantWay_1 36 146 (.goto (-62)) 3 rfl) (by decide) ?_
  refine x_lv [1, 2, 3, 4, 5, 6, 0] rfl ?_
  exact Hb l1 l2 l3 l4 l5 t0 M
def f_X12_wantWay_143 (l1 : Int32) (l2 : Int32) (l3 : Int32) (l4 : Int32) (l5 : Int32) (M : k_M) (kb : Int32 → Int32 → Int32 → Int32 → Int32 → Int32 → k_M → Option (Unit × k_M)) (kx149 : Int32 → Int32 → Int32 → Int32 → Int32 → k_M → Option (Unit × k_M)) : Option (Unit × k_M) := f_X12_wantWay_144 l1 l2 l3 l4 l5 0 M kb kx149
theorem m_X12_wantWay_143 {Z : k_Z} {G : k_G} (C : k_C Z G RX12 cX12_wantWay (true, 8, 6, 0, 0) none "wantWay") (kb : Int32 → Int32 → Int32 → Int32 → Int32 → Int32 → k_M → Option (Unit × k_M)) (kx149 : Int32 → Int32 → Int32 → Int32 → Int32 → k_M → Option (Unit × k_M)) (Hb : ∀ (l1 : Int32) (l2 : Int32) (l3 : Int32) (l4 : Int32) (l5 : Int32) (l6 : Int32) (M : k_M), Sm Z G emV (true, 8, 6, 0, 0) (0, 0) 84 [(0, k_ra Z 76), (1, Value.int l1), (2, Value.int l2), (3, Value.int l3), (4, Value.int l4), (5, Value.int l5), (6, Value.int l6)] [] M (kb l1 l2 l3 l4 l5 l6 M)) (Hx149 : ∀ (l1 : Int32) (l2 : Int32) (l3 : Int32) (l4 : Int32) (l5 : Int32) (M : k_M), Sm Z G emV (true, 8, 6, 0, 0) (0, 0) 149 [(0, k_ra Z 76), (1, Value.int l1), (2, Value.int l2), (3, Value.int l3), (4, Value.int l4), (5, Value.int l5)] [] M (kx149 l1 l2 l3 l4 l5 M)) (l1 : Int32) (l2 : Int32) (l3 : Int32) (l4 : Int32) (l5 : Int32) (M : k_M) : Sm Z G emV (true, 8, 6, 0, 0) (0, 0) 143 [(0, k_ra Z 76), (1, Value.int l1), (2, Value.int l2), (3, Value.int l3), (4, Value.int l4), (5, Value.int l5)] [] M (f_X12_wantWay_143 l1 l2 l3 l4 l5 M kb kx149) := by
  show Sm Z G emV _ _ _ _ _ _ (f_X12_wantWay_144 l1 l2 l3 l4 l5 0 M kb kx149)
  refine x_iconst C (v := 0) (k_dg dt_X12_wantWay_1 34 143 (.iconst 0) 1 rfl) (by decide) ?_
  exact m_X12_wantWay_144 C kb kx149 Hb Hx149 l1 l2 l3 l4 l5 0 M
def f_X12_wantWay_119 (l1 : Int32) (l2 : Int32) (l3 : Int32) (l4 : Int32) (t0 : Int32) (t1 : Int32) (M : k_M) (kb : Int32 → Int32 → Int32 → Int32 → Int32 → Int32 → k_M → Option (Unit × k_M)) (kx149 : Int32 → Int32 → Int32 → Int32 → Int32 → k_M → Option (Unit × k_M)) : Option (Unit × k_M) := bN (t0 ||| t1) (fun v1 => if (M.1 76 18) = 0 then f_X12_wantWay_143 l1 l2 l3 l4 v1 M kb kx149 else bd (f_X12_isWord 1111 M) (fun r2 M3 => if r2 = 0 then f_X12_wantWay_143 l1 l2 l3 l4 v1 M3 kb kx149 else f_X12_wantWay_144 l1 l2 l3 l4 v1 1 M3 kb kx149))
theorem m_X12_wantWay_119 {Z : k_Z} {G : k_G} (C : k_C Z G RX12 cX12_wantWay (true, 8, 6, 0, 0) none "wantWay") (kb : Int32 → Int32 → Int32 → Int32 → Int32 → Int32 → k_M → Option (Unit × k_M)) (kx149 : Int32 → Int32 → Int32 → Int32 → Int32 → k_M → Option (Unit × k_M)) (Hb : ∀ (l1 : Int32) (l2 : Int32) (l3 : Int32) (l4 : Int32) (l5 : Int32) (l6 : Int32) (M : k_M), Sm Z G emV (true, 8, 6, 0, 0) (0, 0) 84 [(0, k_ra Z 76), (1, Value.int l1), (2, Value.int l2), (3, Value.int l3), (4, Value.int l4), (5, Value.int l5), (6, Value.int l6)] [] M (kb l1 l2 l3 l4 l5 l6 M)) (Hx149 : ∀ (l1 : Int32) (l2 : Int32) (l3 : Int32) (l4 : Int32) (l5 : Int32) (M : k_M), Sm Z G emV (true, 8, 6, 0, 0) (0, 0) 149 [(0, k_ra Z 76), (1, Value.int l1), (2, Value.int l2), (3, Value.int l3), (4, Value.int l4), (5, Value.int l5)] [] M (kx149 l1 l2 l3 l4 l5 M)) (l1 : Int32) (l2 : Int32) (l3 : Int32) (l4 : Int32) (t0 : Int32) (t1 : Int32) (M : k_M) : Sm Z G emV (true, 8, 6, 0, 0) (0, 0) 119 [(0, k_ra Z 76), (1, Value.int l1), (2, Value.int l2), (3, Value.int l3), (4, Value.int l4)] [Value.int t1, Value.int t0] M (f_X12_wantWay_119 l1 l2 l3 l4 t0 t1 M kb kx149) := by
  show Sm Z G emV _ _ _ _ _ _ (bN (t0 ||| t1) (fun v1 => if (M.1 76 18) = 0 then f_X12_wantWay_143 l1 l2 l3 l4 v1 M kb kx149 else bd (f_X12_isWord 1111 M) (fun r2 M3 => if r2 = 0 then f_X12_wantWay_143 l1 l2 l3 l4 v1 M3 kb kx149 else f_X12_wantWay_144 l1 l2 l3 l4 v1 1 M3 kb kx149)))
  refine x_ior C (k_dg dt_X12_wantWay_1 23 119 (.ior) 1 rfl) ?_
  refine x_nm (w := Value.int) (fun v1 _ => ?_)
  refine x_istore C (lv' := [(5, Value.int v1), (0, k_ra Z 76), (1, Value.int l1), (2, Value.int l2), (3, Value.int l3), (4, Value.int l4)]) (k_dg dt_X12_wantWay_1 24 120 (.istore 5) 2 rfl) (by decide) rfl ?_
  refine x_aload_n C (k_dg dt_X12_wantWay_1 25 122 (.aload_n 0) 1 rfl) 1 rfl ?_
  refine x_getI C (a := 76) (j := 18) rfl rfl (by decide) fl_RX12_164 rfl (k_dg dt_X12_wantWay_1 26 123 (.getfield 164) 3 rfl) ?_
  refine x_if_eq C (tgt := 143) (k_dg dt_X12_wantWay_1 27 126 (.ifCond .eq 17) 3 rfl) (by decide) (fun _ => ?_) (fun _ => ?_)
  · refine x_lv [1, 2, 3, 4, 5, 0] rfl ?_
    exact m_X12_wantWay_143 C kb kx149 Hb Hx149 l1 l2 l3 l4 v1 M
  · refine x_aload_n C (k_dg dt_X12_wantWay_1 28 129 (.aload_n 0) 1 rfl) 1 rfl ?_
    refine x_ldc2 C (v := 1111) ct_RX12_195 (k_dg dt_X12_wantWay_1 29 130 (.ldc2_w 195) 3 rfl) ?_
    refine x_callV C (a := 76) (kd := 10) (vs := [Value.long 1111]) (rest := []) rfl rfl (by decide) (fun r hr => by cases hr; rfl) (c_X12_isWord C.2.2.2.2.2.2.2.2.2 G.2.1 1111 M) cy_X12_isWord lk_RX12_150 im_X12_isWord se_X12_isWord (by decide) (by decide) (by decide) (by decide) rfl rfl (Nat.le_of_ble_eq_true rfl) (k_dg dt_X12_wantWay_1 30 133 (.invokevirtual 150) 3 rfl) (fun r2 M3 => ?_)
    show Sm Z G _ _ _ _ [(5, Value.int v1), (0, k_ra Z 76), (1, Value.int l1), (2, Value.int l2), (3, Value.int l3), (4, Value.int l4)] [Value.int r2] _ _
    refine x_if_eq C (tgt := 143) (k_dg dt_X12_wantWay_1 31 136 (.ifCond .eq 7) 3 rfl) (by decide) (fun _ => ?_) (fun _ => ?_)
    · refine x_lv [1, 2, 3, 4, 5, 0] rfl ?_
      exact m_X12_wantWay_143 C kb kx149 Hb Hx149 l1 l2 l3 l4 v1 M3
    · refine x_iconst C (v := 1) (k_dg dt_X12_wantWay_1 32 139 (.iconst 1) 1 rfl) (by decide) ?_
      refine x_goto C (tgt := 144) (k_dg dt_X12_wantWay_1 33 140 (.goto 4) 3 rfl) (by decide) ?_
      refine x_lv [1, 2, 3, 4, 5, 0] rfl ?_
      exact m_X12_wantWay_144 C kb kx149 Hb Hx149 l1 l2 l3 l4 v1 1 M3
def f_X12_wantWay_84 : Nat → Int32 → Int32 → Int32 → Int32 → Int32 → Int32 → k_M → (Int32 → Int32 → Int32 → Int32 → Int32 → k_M → Option (Unit × k_M)) → Option (Unit × k_M)
  | 0, _, _, _, _, _, _, _, _ => none
  | n + 1, l1, l2, l3, l4, l5, l6, M, kx149 => if l6 = 0 then kx149 l1 l2 l3 l4 l5 M else bd (f_X12_advance M) (fun r1 M2 => bd (f_X12_wantNumber 0 11 M2) (fun r3 M4 => if (M4.1 76 18) = 0 then f_X12_wantWay_119 l1 l2 l3 l4 l5 0 M4 ((fun l1_ l2_ l3_ l4_ l5_ l6_ M_ => f_X12_wantWay_84 n l1_ l2_ l3_ l4_ l5_ l6_ M_ kx149)) kx149 else f_X12_wantWay_119 l1 l2 l3 l4 l5 (1 <<< (r3 &&& 31)) M4 ((fun l1_ l2_ l3_ l4_ l5_ l6_ M_ => f_X12_wantWay_84 n l1_ l2_ l3_ l4_ l5_ l6_ M_ kx149)) kx149))
theorem m_X12_wantWay_84 {Z : k_Z} {G : k_G} (C : k_C Z G RX12 cX12_wantWay (true, 8, 6, 0, 0) none "wantWay") (kx149 : Int32 → Int32 → Int32 → Int32 → Int32 → k_M → Option (Unit × k_M)) (Hx149 : ∀ (l1 : Int32) (l2 : Int32) (l3 : Int32) (l4 : Int32) (l5 : Int32) (M : k_M), Sm Z G emV (true, 8, 6, 0, 0) (0, 0) 149 [(0, k_ra Z 76), (1, Value.int l1), (2, Value.int l2), (3, Value.int l3), (4, Value.int l4), (5, Value.int l5)] [] M (kx149 l1 l2 l3 l4 l5 M)) : ∀ (n : Nat) (l1 : Int32) (l2 : Int32) (l3 : Int32) (l4 : Int32) (l5 : Int32) (l6 : Int32) (M : k_M), Sm Z G emV (true, 8, 6, 0, 0) (0, 0) 84 [(0, k_ra Z 76), (1, Value.int l1), (2, Value.int l2), (3, Value.int l3), (4, Value.int l4), (5, Value.int l5), (6, Value.int l6)] [] M (f_X12_wantWay_84 n l1 l2 l3 l4 l5 l6 M kx149)
  | 0, _, _, _, _, _, _, _ => x_none
  | n + 1, l1, l2, l3, l4, l5, l6, M => by
    have ih := m_X12_wantWay_84 C kx149 Hx149 n
    show Sm Z G emV _ _ _ _ _ _ (if l6 = 0 then kx149 l1 l2 l3 l4 l5 M else bd (f_X12_advance M) (fun r1 M2 => bd (f_X12_wantNumber 0 11 M2) (fun r3 M4 => if (M4.1 76 18) = 0 then f_X12_wantWay_119 l1 l2 l3 l4 l5 0 M4 ((fun l1_ l2_ l3_ l4_ l5_ l6_ M_ => f_X12_wantWay_84 n l1_ l2_ l3_ l4_ l5_ l6_ M_ kx149)) kx149 else f_X12_wantWay_119 l1 l2 l3 l4 l5 (1 <<< (r3 &&& 31)) M4 ((fun l1_ l2_ l3_ l4_ l5_ l6_ M_ => f_X12_wantWay_84 n l1_ l2_ l3_ l4_ l5_ l6_ M_ kx149)) kx149)))
    refine x_iload C (k_dg dt_X12_wantWay_1 5 84 (.iload 6) 2 rfl) 6 rfl ?_
    refine x_if_eq C (tgt := 149) (k_dg dt_X12_wantWay_1 6 86 (.ifCond .eq 63) 3 rfl) (by decide) (fun _ => ?_) (fun _ => ?_)
    · refine x_lv [0, 1, 2, 3, 4, 5] rfl ?_
      exact Hx149 l1 l2 l3 l4 l5 M
    · refine x_aload_n C (k_dg dt_X12_wantWay_1 7 89 (.aload_n 0) 1 rfl) 0 rfl ?_
      refine x_callV C (a := 76) (kd := 10) (vs := []) (rest := []) rfl rfl (by decide) (fun r hr => by cases hr; rfl) (c_X12_advance C.2.2.2.2.2.2.2.2.2 G.2.1 M) cy_X12_advance lk_RX12_168 im_X12_advance se_X12_advance (by decide) (by decide) (by decide) (by decide) rfl rfl (Nat.le_of_ble_eq_true rfl) (k_dg dt_X12_wantWay_1 8 90 (.invokevirtual 168) 3 rfl) (fun r1 M2 => ?_)
      show Sm Z G _ _ _ _ [(0, k_ra Z 76), (1, Value.int l1), (2, Value.int l2), (3, Value.int l3), (4, Value.int l4), (5, Value.int l5), (6, Value.int l6)] [] _ _
      refine x_aload_n C (k_dg dt_X12_wantWay_1 9 93 (.aload_n 0) 1 rfl) 0 rfl ?_
      refine x_iconst C (v := 0) (k_dg dt_X12_wantWay_1 10 94 (.iconst 0) 1 rfl) (by decide) ?_
      refine x_bipush C (v := 11) (k_dg dt_X12_wantWay_1 11 95 (.bipush 11) 2 rfl) (by decide) ?_
      refine x_callV C (a := 76) (kd := 10) (vs := [Value.int 0, Value.int 11]) (rest := []) rfl rfl (by decide) (fun r hr => by cases hr; rfl) (c_X12_wantNumber C.2.2.2.2.2.2.2.2.2 G.2.1 0 11 M2) cy_X12_wantNumber lk_RX12_178 im_X12_wantNumber se_X12_wantNumber (by decide) (by decide) (by decide) (by decide) rfl rfl (Nat.le_of_ble_eq_true rfl) (k_dg dt_X12_wantWay_1 12 97 (.invokevirtual 178) 3 rfl) (fun r3 M4 => ?_)
      show Sm Z G _ _ _ _ [(0, k_ra Z 76), (1, Value.int l1), (2, Value.int l2), (3, Value.int l3), (4, Value.int l4), (5, Value.int l5), (6, Value.int l6)] [Value.int r3] _ _
      refine x_istore C (lv' := [(7, Value.int r3), (0, k_ra Z 76), (1, Value.int l1), (2, Value.int l2), (3, Value.int l3), (4, Value.int l4), (5, Value.int l5), (6, Value.int l6)]) (k_dg dt_X12_wantWay_1 13 100 (.istore 7) 2 rfl) (by decide) rfl ?_
      refine x_iload C (k_dg dt_X12_wantWay_1 14 102 (.iload 5) 2 rfl) 6 rfl ?_
      refine x_aload_n C (k_dg dt_X12_wantWay_1 15 104 (.aload_n 0) 1 rfl) 1 rfl ?_
      refine x_getI C (a := 76) (j := 18) rfl rfl (by decide) fl_RX12_164 rfl (k_dg dt_X12_wantWay_1 16 105 (.getfield 164) 3 rfl) ?_
      refine x_if_eq C (tgt := 118) (k_dg dt_X12_wantWay_1 17 108 (.ifCond .eq 10) 3 rfl) (by decide) (fun _ => ?_) (fun _ => ?_)
      · refine x_iconst C (v := 0) (k_dg dt_X12_wantWay_1 22 118 (.iconst 0) 1 rfl) (by decide) ?_
        refine x_lv [1, 2, 3, 4, 5] rfl ?_
        exact m_X12_wantWay_119 C ((fun l1_ l2_ l3_ l4_ l5_ l6_ M_ => f_X12_wantWay_84 n l1_ l2_ l3_ l4_ l5_ l6_ M_ kx149)) kx149 ih Hx149 l1 l2 l3 l4 l5 0 M4
      · refine x_iconst C (v := 1) (k_dg dt_X12_wantWay_1 18 111 (.iconst 1) 1 rfl) (by decide) ?_
        refine x_iload C (k_dg dt_X12_wantWay_1 19 112 (.iload 7) 2 rfl) 0 rfl ?_
        refine x_ishl C (k_dg dt_X12_wantWay_1 20 114 (.ishl) 1 rfl) ?_
        refine x_goto C (tgt := 119) (k_dg dt_X12_wantWay_1 21 115 (.goto 4) 3 rfl) (by decide) ?_
        refine x_lv [1, 2, 3, 4, 5] rfl ?_
        exact m_X12_wantWay_119 C ((fun l1_ l2_ l3_ l4_ l5_ l6_ M_ => f_X12_wantWay_84 n l1_ l2_ l3_ l4_ l5_ l6_ M_ kx149)) kx149 ih Hx149 l1 l2 l3 l4 l5 (1 <<< (r3 &&& 31)) M4
def f_X12_wantWay_246 (l1 : Int32) (l2 : Int32) (t1 : Int32) (t2 : Int32) (M : k_M) : Option (Unit × k_M) := wrI M 85 60 t1 t2 (fun M1 => rdI M1 86 8 l1 (fun v2 => wrI M1 86 8 l1 (v2 + 1) (fun M3 => rdI M3 86 8 l2 (fun v4 => wrI M3 86 8 l2 (v4 + 1) (fun M5 => bN (sI M5 76 20 ((M5.1 76 20) + 1)) (fun M6 => some ((), M6)))))))
theorem m_X12_wantWay_246 {Z : k_Z} {G : k_G} (C : k_C Z G RX12 cX12_wantWay (true, 8, 6, 0, 0) none "wantWay") (l1 : Int32) (l2 : Int32) (t1 : Int32) (t2 : Int32) (M : k_M) : Sm Z G emV (true, 8, 6, 0, 0) (0, 0) 246 [(0, k_ra Z 76), (1, Value.int l1), (2, Value.int l2)] [Value.int t2, Value.int t1, k_ra Z 85] M (f_X12_wantWay_246 l1 l2 t1 t2 M) := by
  show Sm Z G emV _ _ _ _ _ _ (wrI M 85 60 t1 t2 (fun M1 => rdI M1 86 8 l1 (fun v2 => wrI M1 86 8 l1 (v2 + 1) (fun M3 => rdI M3 86 8 l2 (fun v4 => wrI M3 86 8 l2 (v4 + 1) (fun M5 => bN (sI M5 76 20 ((M5.1 76 20) + 1)) (fun M6 => some ((), M6))))))))
  refine x_iast C (a := 85) (n := 60) rfl rfl (k_dg dt_X12_wantWay_3 13 246 (.iastore) 1 rfl) (fun M1 => ?_)
  refine x_aload_n C (k_dg dt_X12_wantWay_3 14 247 (.aload_n 0) 1 rfl) 0 rfl ?_
  refine x_getR C (a := 76) (j := 23) 86 rfl rfl (by decide) fl_RX12_37 rfl rfl rfl (k_dg dt_X12_wantWay_3 15 248 (.getfield 37) 3 rfl) ?_
  refine x_iload_n C (k_dg dt_X12_wantWay_3 16 251 (.iload_n 1) 1 rfl) 1 rfl ?_
  refine x_dup2 C (k_dg dt_X12_wantWay_3 17 252 (.dup2) 1 rfl) rfl rfl ?_
  refine x_iald C (a := 86) (n := 8) rfl rfl (k_dg dt_X12_wantWay_3 18 253 (.iaload) 1 rfl) (fun v2 => ?_)
  refine x_iconst C (v := 1) (k_dg dt_X12_wantWay_3 19 254 (.iconst 1) 1 rfl) (by decide) ?_
  refine x_iadd C (k_dg dt_X12_wantWay_3 20 255 (.iadd) 1 rfl) ?_
  refine x_iast C (a := 86) (n := 8) rfl rfl (k_dg dt_X12_wantWay_3 21 256 (.iastore) 1 rfl) (fun M3 => ?_)
  refine x_aload_n C (k_dg dt_X12_wantWay_3 22 257 (.aload_n 0) 1 rfl) 0 rfl ?_
  refine x_getR C (a := 76) (j := 23) 86 rfl rfl (by decide) fl_RX12_37 rfl rfl rfl (k_dg dt_X12_wantWay_3 23 258 (.getfield 37) 3 rfl) ?_
  refine x_iload_n C (k_dg dt_X12_wantWay_3 24 261 (.iload_n 2) 1 rfl) 2 rfl ?_
  refine x_dup2 C (k_dg dt_X12_wantWay_3 25 262 (.dup2) 1 rfl) rfl rfl ?_
  refine x_iald C (a := 86) (n := 8) rfl rfl (k_dg dt_X12_wantWay_3 26 263 (.iaload) 1 rfl) (fun v4 => ?_)
  refine x_iconst C (v := 1) (k_dg dt_X12_wantWay_3 27 264 (.iconst 1) 1 rfl) (by decide) ?_
  refine x_iadd C (k_dg dt_X12_wantWay_3 28 265 (.iadd) 1 rfl) ?_
  refine x_iast C (a := 86) (n := 8) rfl rfl (k_dg dt_X12_wantWay_3 29 266 (.iastore) 1 rfl) (fun M5 => ?_)
  refine x_aload_n C (k_dg dt_X12_wantWay_3 30 267 (.aload_n 0) 1 rfl) 0 rfl ?_
  refine x_dup C (k_dg dt_X12_wantWay_3 31 268 (.dup) 1 rfl) rfl ?_
  refine x_getI C (a := 76) (j := 20) rfl rfl (by decide) fl_RX12_187 rfl (k_dg dt_X12_wantWay_3 32 269 (.getfield 187) 3 rfl) ?_
  refine x_iconst C (v := 1) (k_dg dt_X12_wantWay_3 33 272 (.iconst 1) 1 rfl) (by decide) ?_
  refine x_iadd C (k_dg dt_X12_wantWay_3 34 273 (.iadd) 1 rfl) ?_
  refine x_putI C (a := 76) (j := 20) rfl rfl (by decide) fl_RX12_187 rfl pt_10_20 tb_10 rfl rfl (k_dg dt_X12_wantWay_3 35 274 (.putfield 187) 3 rfl) (fun M6 => ?_)
  exact x_vret C (by decide) (by decide) (k_dg dt_X12_wantWay_3 36 277 (.return_) 1 rfl)
def f_X12_wantWay_203 (l1 : Int32) (l2 : Int32) (l3 : Int32) (l4 : Int32) (l5 : Int32) (l7 : Int32) (t1 : Int32) (t2 : Int32) (M : k_M) : Option (Unit × k_M) := wrI M 85 60 t1 t2 (fun M1 => wrI M1 85 60 (l7 + 2) l3 (fun M2 => wrI M2 85 60 (l7 + 3) l4 (fun M3 => if l5 = 0 then f_X12_wantWay_246 l1 l2 (l7 + 4) 4095 M3 else f_X12_wantWay_246 l1 l2 (l7 + 4) l5 M3)))
theorem m_X12_wantWay_203 {Z : k_Z} {G : k_G} (C : k_C Z G RX12 cX12_wantWay (true, 8, 6, 0, 0) none "wantWay") (l1 : Int32) (l2 : Int32) (l3 : Int32) (l4 : Int32) (l5 : Int32) (l7 : Int32) (t1 : Int32) (t2 : Int32) (M : k_M) : Sm Z G emV (true, 8, 6, 0, 0) (0, 0) 203 [(0, k_ra Z 76), (1, Value.int l1), (2, Value.int l2), (3, Value.int l3), (4, Value.int l4), (5, Value.int l5), (7, Value.int l7)] [Value.int t2, Value.int t1, k_ra Z 85] M (f_X12_wantWay_203 l1 l2 l3 l4 l5 l7 t1 t2 M) := by
  show Sm Z G emV _ _ _ _ _ _ (wrI M 85 60 t1 t2 (fun M1 => wrI M1 85 60 (l7 + 2) l3 (fun M2 => wrI M2 85 60 (l7 + 3) l4 (fun M3 => if l5 = 0 then f_X12_wantWay_246 l1 l2 (l7 + 4) 4095 M3 else f_X12_wantWay_246 l1 l2 (l7 + 4) l5 M3))))
  refine x_iast C (a := 85) (n := 60) rfl rfl (k_dg dt_X12_wantWay_2 28 203 (.iastore) 1 rfl) (fun M1 => ?_)
  refine x_aload_n C (k_dg dt_X12_wantWay_2 29 204 (.aload_n 0) 1 rfl) 0 rfl ?_
  refine x_getR C (a := 76) (j := 22) 85 rfl rfl (by decide) fl_RX12_34 rfl rfl rfl (k_dg dt_X12_wantWay_2 30 205 (.getfield 34) 3 rfl) ?_
  refine x_iload C (k_dg dt_X12_wantWay_2 31 208 (.iload 7) 2 rfl) 6 rfl ?_
  refine x_iconst C (v := 2) (k_dg dt_X12_wantWay_2 32 210 (.iconst 2) 1 rfl) (by decide) ?_
  refine x_iadd C (k_dg dt_X12_wantWay_2 33 211 (.iadd) 1 rfl) ?_
  refine x_iload_n C (k_dg dt_X12_wantWay_2 34 212 (.iload_n 3) 1 rfl) 3 rfl ?_
  refine x_iast C (a := 85) (n := 60) rfl rfl (k_dg dt_X12_wantWay_2 35 213 (.iastore) 1 rfl) (fun M2 => ?_)
  refine x_aload_n C (k_dg dt_X12_wantWay_2 36 214 (.aload_n 0) 1 rfl) 0 rfl ?_
  refine x_getR C (a := 76) (j := 22) 85 rfl rfl (by decide) fl_RX12_34 rfl rfl rfl (k_dg dt_X12_wantWay_2 37 215 (.getfield 34) 3 rfl) ?_
  refine x_iload C (k_dg dt_X12_wantWay_2 38 218 (.iload 7) 2 rfl) 6 rfl ?_
  refine x_iconst C (v := 3) (k_dg dt_X12_wantWay_2 39 220 (.iconst 3) 1 rfl) (by decide) ?_
  refine x_iadd C (k_dg dt_X12_wantWay_3 0 221 (.iadd) 1 rfl) ?_
  refine x_iload C (k_dg dt_X12_wantWay_3 1 222 (.iload 4) 2 rfl) 4 rfl ?_
  refine x_iast C (a := 85) (n := 60) rfl rfl (k_dg dt_X12_wantWay_3 2 224 (.iastore) 1 rfl) (fun M3 => ?_)
  refine x_aload_n C (k_dg dt_X12_wantWay_3 3 225 (.aload_n 0) 1 rfl) 0 rfl ?_
  refine x_getR C (a := 76) (j := 22) 85 rfl rfl (by decide) fl_RX12_34 rfl rfl rfl (k_dg dt_X12_wantWay_3 4 226 (.getfield 34) 3 rfl) ?_
  refine x_iload C (k_dg dt_X12_wantWay_3 5 229 (.iload 7) 2 rfl) 6 rfl ?_
  refine x_iconst C (v := 4) (k_dg dt_X12_wantWay_3 6 231 (.iconst 4) 1 rfl) (by decide) ?_
  refine x_iadd C (k_dg dt_X12_wantWay_3 7 232 (.iadd) 1 rfl) ?_
  refine x_iload C (k_dg dt_X12_wantWay_3 8 233 (.iload 5) 2 rfl) 5 rfl ?_
  refine x_if_ne C (tgt := 244) (k_dg dt_X12_wantWay_3 9 235 (.ifCond .ne 9) 3 rfl) (by decide) (fun _ => ?_) (fun _ => ?_)
  · refine x_sipush C (v := 4095) (k_dg dt_X12_wantWay_3 10 238 (.sipush 4095) 3 rfl) (by decide) ?_
    refine x_goto C (tgt := 246) (k_dg dt_X12_wantWay_3 11 241 (.goto 5) 3 rfl) (by decide) ?_
    refine x_lv [0, 1, 2] rfl ?_
    exact m_X12_wantWay_246 C l1 l2 (l7 + 4) 4095 M3
  · refine x_iload C (k_dg dt_X12_wantWay_3 12 244 (.iload 5) 2 rfl) 5 rfl ?_
    refine x_lv [0, 1, 2] rfl ?_
    exact m_X12_wantWay_246 C l1 l2 (l7 + 4) l5 M3
def f_X12_wantWay_184 (l1 : Int32) (l2 : Int32) (l3 : Int32) (l4 : Int32) (l5 : Int32) (l7 : Int32) (t1 : Int32) (t2 : Int32) (M : k_M) : Option (Unit × k_M) := wrI M 85 60 t1 t2 (fun M1 => if l2 ≤ l1 then f_X12_wantWay_203 l1 l2 l3 l4 l5 l7 (l7 + 1) l1 M1 else f_X12_wantWay_203 l1 l2 l3 l4 l5 l7 (l7 + 1) l2 M1)
theorem m_X12_wantWay_184 {Z : k_Z} {G : k_G} (C : k_C Z G RX12 cX12_wantWay (true, 8, 6, 0, 0) none "wantWay") (l1 : Int32) (l2 : Int32) (l3 : Int32) (l4 : Int32) (l5 : Int32) (l7 : Int32) (t1 : Int32) (t2 : Int32) (M : k_M) : Sm Z G emV (true, 8, 6, 0, 0) (0, 0) 184 [(0, k_ra Z 76), (1, Value.int l1), (2, Value.int l2), (3, Value.int l3), (4, Value.int l4), (5, Value.int l5), (7, Value.int l7)] [Value.int t2, Value.int t1, k_ra Z 85] M (f_X12_wantWay_184 l1 l2 l3 l4 l5 l7 t1 t2 M) := by
  show Sm Z G emV _ _ _ _ _ _ (wrI M 85 60 t1 t2 (fun M1 => if l2 ≤ l1 then f_X12_wantWay_203 l1 l2 l3 l4 l5 l7 (l7 + 1) l1 M1 else f_X12_wantWay_203 l1 l2 l3 l4 l5 l7 (l7 + 1) l2 M1))
  refine x_iast C (a := 85) (n := 60) rfl rfl (k_dg dt_X12_wantWay_2 16 184 (.iastore) 1 rfl) (fun M1 => ?_)
  refine x_aload_n C (k_dg dt_X12_wantWay_2 17 185 (.aload_n 0) 1 rfl) 0 rfl ?_
  refine x_getR C (a := 76) (j := 22) 85 rfl rfl (by decide) fl_RX12_34 rfl rfl rfl (k_dg dt_X12_wantWay_2 18 186 (.getfield 34) 3 rfl) ?_
  refine x_iload C (k_dg dt_X12_wantWay_2 19 189 (.iload 7) 2 rfl) 6 rfl ?_
  refine x_iconst C (v := 1) (k_dg dt_X12_wantWay_2 20 191 (.iconst 1) 1 rfl) (by decide) ?_
  refine x_iadd C (k_dg dt_X12_wantWay_2 21 192 (.iadd) 1 rfl) ?_
  refine x_iload_n C (k_dg dt_X12_wantWay_2 22 193 (.iload_n 1) 1 rfl) 1 rfl ?_
  refine x_iload_n C (k_dg dt_X12_wantWay_2 23 194 (.iload_n 2) 1 rfl) 2 rfl ?_
  refine x_icmp_ge C (tgt := 202) (k_dg dt_X12_wantWay_2 24 195 (.if_icmp .ge 7) 3 rfl) (by decide) (fun _ => ?_) (fun _ => ?_)
  · refine x_iload_n C (k_dg dt_X12_wantWay_2 27 202 (.iload_n 1) 1 rfl) 1 rfl ?_
    exact m_X12_wantWay_203 C l1 l2 l3 l4 l5 l7 (l7 + 1) l1 M1
  · refine x_iload_n C (k_dg dt_X12_wantWay_2 25 198 (.iload_n 2) 1 rfl) 2 rfl ?_
    refine x_goto C (tgt := 203) (k_dg dt_X12_wantWay_2 26 199 (.goto 4) 3 rfl) (by decide) ?_
    exact m_X12_wantWay_203 C l1 l2 l3 l4 l5 l7 (l7 + 1) l2 M1
def f_X12_wantWay_149 (l1 : Int32) (l2 : Int32) (l3 : Int32) (l4 : Int32) (l5 : Int32) (M : k_M) : Option (Unit × k_M) := bd (f_X12_wantEnd M) (fun r1 M2 => if (M2.1 76 18) = 0 then some ((), M2) else bN (5 * (M2.1 76 20)) (fun v3 => if l2 ≤ l1 then f_X12_wantWay_184 l1 l2 l3 l4 l5 v3 v3 l2 M2 else f_X12_wantWay_184 l1 l2 l3 l4 l5 v3 v3 l1 M2))
theorem m_X12_wantWay_149 {Z : k_Z} {G : k_G} (C : k_C Z G RX12 cX12_wantWay (true, 8, 6, 0, 0) none "wantWay") (l1 : Int32) (l2 : Int32) (l3 : Int32) (l4 : Int32) (l5 : Int32) (M : k_M) : Sm Z G emV (true, 8, 6, 0, 0) (0, 0) 149 [(0, k_ra Z 76), (1, Value.int l1), (2, Value.int l2), (3, Value.int l3), (4, Value.int l4), (5, Value.int l5)] [] M (f_X12_wantWay_149 l1 l2 l3 l4 l5 M) := by
  show Sm Z G emV _ _ _ _ _ _ (bd (f_X12_wantEnd M) (fun r1 M2 => if (M2.1 76 18) = 0 then some ((), M2) else bN (5 * (M2.1 76 20)) (fun v3 => if l2 ≤ l1 then f_X12_wantWay_184 l1 l2 l3 l4 l5 v3 v3 l2 M2 else f_X12_wantWay_184 l1 l2 l3 l4 l5 v3 v3 l1 M2)))
  refine x_aload_n C (k_dg dt_X12_wantWay_1 37 149 (.aload_n 0) 1 rfl) 0 rfl ?_
  refine x_callV C (a := 76) (kd := 10) (vs := []) (rest := []) rfl rfl (by decide) (fun r hr => by cases hr; rfl) (c_X12_wantEnd C.2.2.2.2.2.2.2.2.2 G.2.1 M) cy_X12_wantEnd lk_RX12_184 im_X12_wantEnd se_X12_wantEnd (by decide) (by decide) (by decide) (by decide) rfl rfl (Nat.le_of_ble_eq_true rfl) (k_dg dt_X12_wantWay_1 38 150 (.invokevirtual 184) 3 rfl) (fun r1 M2 => ?_)
  show Sm Z G _ _ _ _ [(0, k_ra Z 76), (1, Value.int l1), (2, Value.int l2), (3, Value.int l3), (4, Value.int l4), (5, Value.int l5)] [] _ _
  refine x_aload_n C (k_dg dt_X12_wantWay_1 39 153 (.aload_n 0) 1 rfl) 0 rfl ?_
  refine x_getI C (a := 76) (j := 18) rfl rfl (by decide) fl_RX12_164 rfl (k_dg dt_X12_wantWay_2 0 154 (.getfield 164) 3 rfl) ?_
  refine x_if_eq C (tgt := 277) (k_dg dt_X12_wantWay_2 1 157 (.ifCond .eq 120) 3 rfl) (by decide) (fun _ => ?_) (fun _ => ?_)
  · exact x_vret C (by decide) (by decide) (k_dg dt_X12_wantWay_3 36 277 (.return_) 1 rfl)
  · refine x_iconst C (v := 5) (k_dg dt_X12_wantWay_2 2 160 (.iconst 5) 1 rfl) (by decide) ?_
    refine x_aload_n C (k_dg dt_X12_wantWay_2 3 161 (.aload_n 0) 1 rfl) 0 rfl ?_
    refine x_getI C (a := 76) (j := 20) rfl rfl (by decide) fl_RX12_187 rfl (k_dg dt_X12_wantWay_2 4 162 (.getfield 187) 3 rfl) ?_
    refine x_imul C (k_dg dt_X12_wantWay_2 5 165 (.imul) 1 rfl) ?_
    refine x_nm (w := Value.int) (fun v3 _ => ?_)
    refine x_istore C (lv' := [(7, Value.int v3), (0, k_ra Z 76), (1, Value.int l1), (2, Value.int l2), (3, Value.int l3), (4, Value.int l4), (5, Value.int l5)]) (k_dg dt_X12_wantWay_2 6 166 (.istore 7) 2 rfl) (by decide) rfl ?_
    refine x_aload_n C (k_dg dt_X12_wantWay_2 7 168 (.aload_n 0) 1 rfl) 1 rfl ?_
    refine x_getR C (a := 76) (j := 22) 85 rfl rfl (by decide) fl_RX12_34 rfl rfl rfl (k_dg dt_X12_wantWay_2 8 169 (.getfield 34) 3 rfl) ?_
    refine x_iload C (k_dg dt_X12_wantWay_2 9 172 (.iload 7) 2 rfl) 0 rfl ?_
    refine x_iload_n C (k_dg dt_X12_wantWay_2 10 174 (.iload_n 1) 1 rfl) 2 rfl ?_
    refine x_iload_n C (k_dg dt_X12_wantWay_2 11 175 (.iload_n 2) 1 rfl) 3 rfl ?_
    refine x_icmp_ge C (tgt := 183) (k_dg dt_X12_wantWay_2 12 176 (.if_icmp .ge 7) 3 rfl) (by decide) (fun _ => ?_) (fun _ => ?_)
    · refine x_iload_n C (k_dg dt_X12_wantWay_2 15 183 (.iload_n 2) 1 rfl) 3 rfl ?_
      refine x_lv [1, 2, 3, 4, 5, 6, 0] rfl ?_
      exact m_X12_wantWay_184 C l1 l2 l3 l4 l5 v3 v3 l2 M2
    · refine x_iload_n C (k_dg dt_X12_wantWay_2 13 179 (.iload_n 1) 1 rfl) 2 rfl ?_
      refine x_goto C (tgt := 184) (k_dg dt_X12_wantWay_2 14 180 (.goto 4) 3 rfl) (by decide) ?_
      refine x_lv [1, 2, 3, 4, 5, 6, 0] rfl ?_
      exact m_X12_wantWay_184 C l1 l2 l3 l4 l5 v3 v3 l1 M2
def f_X12_wantWay_82 (l1 : Int32) (l2 : Int32) (l3 : Int32) (l4 : Int32) (l5 : Int32) (t0 : Int32) (M : k_M) : Option (Unit × k_M) := f_X12_wantWay_84 k_fu l1 l2 l3 l4 l5 t0 M (fun l1_ l2_ l3_ l4_ l5_ M_ => f_X12_wantWay_149 l1_ l2_ l3_ l4_ l5_ M_)
theorem m_X12_wantWay_82 {Z : k_Z} {G : k_G} (C : k_C Z G RX12 cX12_wantWay (true, 8, 6, 0, 0) none "wantWay") (l1 : Int32) (l2 : Int32) (l3 : Int32) (l4 : Int32) (l5 : Int32) (t0 : Int32) (M : k_M) : Sm Z G emV (true, 8, 6, 0, 0) (0, 0) 82 [(0, k_ra Z 76), (1, Value.int l1), (2, Value.int l2), (3, Value.int l3), (4, Value.int l4), (5, Value.int l5)] [Value.int t0] M (f_X12_wantWay_82 l1 l2 l3 l4 l5 t0 M) := by
  show Sm Z G emV _ _ _ _ _ _ (f_X12_wantWay_84 k_fu l1 l2 l3 l4 l5 t0 M (fun l1_ l2_ l3_ l4_ l5_ M_ => f_X12_wantWay_149 l1_ l2_ l3_ l4_ l5_ M_))
  refine x_istore C (lv' := [(6, Value.int t0), (0, k_ra Z 76), (1, Value.int l1), (2, Value.int l2), (3, Value.int l3), (4, Value.int l4), (5, Value.int l5)]) (k_dg dt_X12_wantWay_1 4 82 (.istore 6) 2 rfl) (by decide) rfl ?_
  refine x_lv [1, 2, 3, 4, 5, 6, 0] rfl ?_
  exact m_X12_wantWay_84 C (fun l1_ l2_ l3_ l4_ l5_ M_ => f_X12_wantWay_149 l1_ l2_ l3_ l4_ l5_ M_) (fun l1_ l2_ l3_ l4_ l5_ M_ => m_X12_wantWay_149 C l1_ l2_ l3_ l4_ l5_ M_) k_fu l1 l2 l3 l4 l5 t0 M
def f_X12_wantWay_81 (l1 : Int32) (l2 : Int32) (l3 : Int32) (l4 : Int32) (l5 : Int32) (M : k_M) : Option (Unit × k_M) := f_X12_wantWay_82 l1 l2 l3 l4 l5 0 M
theorem m_X12_wantWay_81 {Z : k_Z} {G : k_G} (C : k_C Z G RX12 cX12_wantWay (true, 8, 6, 0, 0) none "wantWay") (l1 : Int32) (l2 : Int32) (l3 : Int32) (l4 : Int32) (l5 : Int32) (M : k_M) : Sm Z G emV (true, 8, 6, 0, 0) (0, 0) 81 [(0, k_ra Z 76), (1, Value.int l1), (2, Value.int l2), (3, Value.int l3), (4, Value.int l4), (5, Value.int l5)] [] M (f_X12_wantWay_81 l1 l2 l3 l4 l5 M) := by
  show Sm Z G emV _ _ _ _ _ _ (f_X12_wantWay_82 l1 l2 l3 l4 l5 0 M)
  refine x_iconst C (v := 0) (k_dg dt_X12_wantWay_1 3 81 (.iconst 0) 1 rfl) (by decide) ?_
  exact m_X12_wantWay_82 C l1 l2 l3 l4 l5 0 M
def f_X12_wantWay_29 (M : k_M) : Option (Unit × k_M) := bd (f_X12_wantOne (-1) M) (fun r1 M2 => bd (f_X12_wantOne r1 M2) (fun r3 M4 => bd (f_X12_wantNumber 1 4 M4) (fun r5 M6 => bd (f_X12_wantNumber 0 9 M6) (fun r7 M8 => if (M8.1 76 18) = 0 then f_X12_wantWay_81 r1 r3 r5 r7 0 M8 else bd (f_X12_isWord 257 M8) (fun r9 M10 => if r9 = 0 then f_X12_wantWay_81 r1 r3 r5 r7 0 M10 else f_X12_wantWay_82 r1 r3 r5 r7 0 1 M10)))))
theorem m_X12_wantWay_29 {Z : k_Z} {G : k_G} (C : k_C Z G RX12 cX12_wantWay (true, 8, 6, 0, 0) none "wantWay") (M : k_M) : Sm Z G emV (true, 8, 6, 0, 0) (0, 0) 29 [(0, k_ra Z 76)] [] M (f_X12_wantWay_29 M) := by
  show Sm Z G emV _ _ _ _ _ _ (bd (f_X12_wantOne (-1) M) (fun r1 M2 => bd (f_X12_wantOne r1 M2) (fun r3 M4 => bd (f_X12_wantNumber 1 4 M4) (fun r5 M6 => bd (f_X12_wantNumber 0 9 M6) (fun r7 M8 => if (M8.1 76 18) = 0 then f_X12_wantWay_81 r1 r3 r5 r7 0 M8 else bd (f_X12_isWord 257 M8) (fun r9 M10 => if r9 = 0 then f_X12_wantWay_81 r1 r3 r5 r7 0 M10 else f_X12_wantWay_82 r1 r3 r5 r7 0 1 M10))))))
  refine x_aload_n C (k_dg dt_X12_wantWay_0 14 29 (.aload_n 0) 1 rfl) 0 rfl ?_
  refine x_iconst C (v := -1) (k_dg dt_X12_wantWay_0 15 30 (.iconst (-1)) 1 rfl) (by decide) ?_
  refine x_callV C (a := 76) (kd := 10) (vs := [Value.int (-1)]) (rest := []) rfl rfl (by decide) (fun r hr => by cases hr; rfl) (c_X12_wantOne C.2.2.2.2.2.2.2.2.2 G.2.1 (-1) M) cy_X12_wantOne lk_RX12_190 im_X12_wantOne se_X12_wantOne (by decide) (by decide) (by decide) (by decide) rfl rfl (Nat.le_of_ble_eq_true rfl) (k_dg dt_X12_wantWay_0 16 31 (.invokevirtual 190) 3 rfl) (fun r1 M2 => ?_)
  show Sm Z G _ _ _ _ [(0, k_ra Z 76)] [Value.int r1] _ _
  refine x_istore_n C (lv' := [(1, Value.int r1), (0, k_ra Z 76)]) (k_dg dt_X12_wantWay_0 17 34 (.istore_n 1) 1 rfl) (by decide) rfl ?_
  refine x_aload_n C (k_dg dt_X12_wantWay_0 18 35 (.aload_n 0) 1 rfl) 1 rfl ?_
  refine x_iload_n C (k_dg dt_X12_wantWay_0 19 36 (.iload_n 1) 1 rfl) 0 rfl ?_
  refine x_callV C (a := 76) (kd := 10) (vs := [Value.int r1]) (rest := []) rfl rfl (by decide) (fun r hr => by cases hr; rfl) (c_X12_wantOne C.2.2.2.2.2.2.2.2.2 G.2.1 r1 M2) cy_X12_wantOne lk_RX12_190 im_X12_wantOne se_X12_wantOne (by decide) (by decide) (by decide) (by decide) rfl rfl (Nat.le_of_ble_eq_true rfl) (k_dg dt_X12_wantWay_0 20 37 (.invokevirtual 190) 3 rfl) (fun r3 M4 => ?_)
  show Sm Z G _ _ _ _ [(1, Value.int r1), (0, k_ra Z 76)] [Value.int r3] _ _
  refine x_istore_n C (lv' := [(2, Value.int r3), (1, Value.int r1), (0, k_ra Z 76)]) (k_dg dt_X12_wantWay_0 21 40 (.istore_n 2) 1 rfl) (by decide) rfl ?_
  refine x_aload_n C (k_dg dt_X12_wantWay_0 22 41 (.aload_n 0) 1 rfl) 2 rfl ?_
  refine x_iconst C (v := 1) (k_dg dt_X12_wantWay_0 23 42 (.iconst 1) 1 rfl) (by decide) ?_
  refine x_iconst C (v := 4) (k_dg dt_X12_wantWay_0 24 43 (.iconst 4) 1 rfl) (by decide) ?_
  refine x_callV C (a := 76) (kd := 10) (vs := [Value.int 1, Value.int 4]) (rest := []) rfl rfl (by decide) (fun r hr => by cases hr; rfl) (c_X12_wantNumber C.2.2.2.2.2.2.2.2.2 G.2.1 1 4 M4) cy_X12_wantNumber lk_RX12_178 im_X12_wantNumber se_X12_wantNumber (by decide) (by decide) (by decide) (by decide) rfl rfl (Nat.le_of_ble_eq_true rfl) (k_dg dt_X12_wantWay_0 25 44 (.invokevirtual 178) 3 rfl) (fun r5 M6 => ?_)
  show Sm Z G _ _ _ _ [(2, Value.int r3), (1, Value.int r1), (0, k_ra Z 76)] [Value.int r5] _ _
  refine x_istore_n C (lv' := [(3, Value.int r5), (2, Value.int r3), (1, Value.int r1), (0, k_ra Z 76)]) (k_dg dt_X12_wantWay_0 26 47 (.istore_n 3) 1 rfl) (by decide) rfl ?_
  refine x_aload_n C (k_dg dt_X12_wantWay_0 27 48 (.aload_n 0) 1 rfl) 3 rfl ?_
  refine x_iconst C (v := 0) (k_dg dt_X12_wantWay_0 28 49 (.iconst 0) 1 rfl) (by decide) ?_
  refine x_bipush C (v := 9) (k_dg dt_X12_wantWay_0 29 50 (.bipush 9) 2 rfl) (by decide) ?_
  refine x_callV C (a := 76) (kd := 10) (vs := [Value.int 0, Value.int 9]) (rest := []) rfl rfl (by decide) (fun r hr => by cases hr; rfl) (c_X12_wantNumber C.2.2.2.2.2.2.2.2.2 G.2.1 0 9 M6) cy_X12_wantNumber lk_RX12_178 im_X12_wantNumber se_X12_wantNumber (by decide) (by decide) (by decide) (by decide) rfl rfl (Nat.le_of_ble_eq_true rfl) (k_dg dt_X12_wantWay_0 30 52 (.invokevirtual 178) 3 rfl) (fun r7 M8 => ?_)
  show Sm Z G _ _ _ _ [(3, Value.int r5), (2, Value.int r3), (1, Value.int r1), (0, k_ra Z 76)] [Value.int r7] _ _
  refine x_istore C (lv' := [(4, Value.int r7), (3, Value.int r5), (2, Value.int r3), (1, Value.int r1), (0, k_ra Z 76)]) (k_dg dt_X12_wantWay_0 31 55 (.istore 4) 2 rfl) (by decide) rfl ?_
  refine x_iconst C (v := 0) (k_dg dt_X12_wantWay_0 32 57 (.iconst 0) 1 rfl) (by decide) ?_
  refine x_istore C (lv' := [(5, Value.int 0), (4, Value.int r7), (3, Value.int r5), (2, Value.int r3), (1, Value.int r1), (0, k_ra Z 76)]) (k_dg dt_X12_wantWay_0 33 58 (.istore 5) 2 rfl) (by decide) rfl ?_
  refine x_aload_n C (k_dg dt_X12_wantWay_0 34 60 (.aload_n 0) 1 rfl) 5 rfl ?_
  refine x_getI C (a := 76) (j := 18) rfl rfl (by decide) fl_RX12_164 rfl (k_dg dt_X12_wantWay_0 35 61 (.getfield 164) 3 rfl) ?_
  refine x_if_eq C (tgt := 81) (k_dg dt_X12_wantWay_0 36 64 (.ifCond .eq 17) 3 rfl) (by decide) (fun _ => ?_) (fun _ => ?_)
  · refine x_lv [5, 4, 3, 2, 1, 0] rfl ?_
    exact m_X12_wantWay_81 C r1 r3 r5 r7 0 M8
  · refine x_aload_n C (k_dg dt_X12_wantWay_0 37 67 (.aload_n 0) 1 rfl) 5 rfl ?_
    refine x_ldc2 C (v := 257) ct_RX12_193 (k_dg dt_X12_wantWay_0 38 68 (.ldc2_w 193) 3 rfl) ?_
    refine x_callV C (a := 76) (kd := 10) (vs := [Value.long 257]) (rest := []) rfl rfl (by decide) (fun r hr => by cases hr; rfl) (c_X12_isWord C.2.2.2.2.2.2.2.2.2 G.2.1 257 M8) cy_X12_isWord lk_RX12_150 im_X12_isWord se_X12_isWord (by decide) (by decide) (by decide) (by decide) rfl rfl (Nat.le_of_ble_eq_true rfl) (k_dg dt_X12_wantWay_0 39 71 (.invokevirtual 150) 3 rfl) (fun r9 M10 => ?_)
    show Sm Z G _ _ _ _ [(5, Value.int 0), (4, Value.int r7), (3, Value.int r5), (2, Value.int r3), (1, Value.int r1), (0, k_ra Z 76)] [Value.int r9] _ _
    refine x_if_eq C (tgt := 81) (k_dg dt_X12_wantWay_1 0 74 (.ifCond .eq 7) 3 rfl) (by decide) (fun _ => ?_) (fun _ => ?_)
    · refine x_lv [5, 4, 3, 2, 1, 0] rfl ?_
      exact m_X12_wantWay_81 C r1 r3 r5 r7 0 M10
    · refine x_iconst C (v := 1) (k_dg dt_X12_wantWay_1 1 77 (.iconst 1) 1 rfl) (by decide) ?_
      refine x_goto C (tgt := 82) (k_dg dt_X12_wantWay_1 2 78 (.goto 4) 3 rfl) (by decide) ?_
      refine x_lv [5, 4, 3, 2, 1, 0] rfl ?_
      exact m_X12_wantWay_82 C r1 r3 r5 r7 0 1 M10
def f_X12_wantWay_15 (t1 : Int32) (M : k_M) : Option (Unit × k_M) := ckZ t1 (bN (sI M 76 18 t1) (fun M1 => if (M1.1 76 18) = 0 then f_X12_wantWay_29 M1 else bd (f_X12_advance M1) (fun r3 M4 => f_X12_wantWay_29 M4)))
theorem m_X12_wantWay_15 {Z : k_Z} {G : k_G} (C : k_C Z G RX12 cX12_wantWay (true, 8, 6, 0, 0) none "wantWay") (t1 : Int32) (M : k_M) : Sm Z G emV (true, 8, 6, 0, 0) (0, 0) 15 [(0, k_ra Z 76)] [Value.int t1, k_ra Z 76] M (f_X12_wantWay_15 t1 M) := by
  show Sm Z G emV _ _ _ _ _ _ (ckZ t1 (bN (sI M 76 18 t1) (fun M1 => if (M1.1 76 18) = 0 then f_X12_wantWay_29 M1 else bd (f_X12_advance M1) (fun r3 M4 => f_X12_wantWay_29 M4))))
  refine x_ckZ (v := t1) (fun h2 => ?_)
  refine x_putI C (a := 76) (j := 18) rfl rfl (by decide) fl_RX12_164 rfl pt_10_18 tb_10 (k_nz h2) (k_fz h2) (k_dg dt_X12_wantWay_0 8 15 (.putfield 164) 3 rfl) (fun M1 => ?_)
  refine x_aload_n C (k_dg dt_X12_wantWay_0 9 18 (.aload_n 0) 1 rfl) 0 rfl ?_
  refine x_getI C (a := 76) (j := 18) rfl rfl (by decide) fl_RX12_164 rfl (k_dg dt_X12_wantWay_0 10 19 (.getfield 164) 3 rfl) ?_
  refine x_if_eq C (tgt := 29) (k_dg dt_X12_wantWay_0 11 22 (.ifCond .eq 7) 3 rfl) (by decide) (fun _ => ?_) (fun _ => ?_)
  · exact m_X12_wantWay_29 C M1
  · refine x_aload_n C (k_dg dt_X12_wantWay_0 12 25 (.aload_n 0) 1 rfl) 0 rfl ?_
    refine x_callV C (a := 76) (kd := 10) (vs := []) (rest := []) rfl rfl (by decide) (fun r hr => by cases hr; rfl) (c_X12_advance C.2.2.2.2.2.2.2.2.2 G.2.1 M1) cy_X12_advance lk_RX12_168 im_X12_advance se_X12_advance (by decide) (by decide) (by decide) (by decide) rfl rfl (Nat.le_of_ble_eq_true rfl) (k_dg dt_X12_wantWay_0 13 26 (.invokevirtual 168) 3 rfl) (fun r3 M4 => ?_)
    show Sm Z G _ _ _ _ [(0, k_ra Z 76)] [] _ _
    exact m_X12_wantWay_29 C M4
def f_X12_wantWay (M : k_M) : Option (Unit × k_M) := if 12 ≤ (M.1 76 20) then f_X12_wantWay_15 0 M else f_X12_wantWay_15 1 M
theorem m_X12_wantWay_0 {Z : k_Z} {G : k_G} (C : k_C Z G RX12 cX12_wantWay (true, 8, 6, 0, 0) none "wantWay") (M : k_M) : Sm Z G emV (true, 8, 6, 0, 0) (0, 0) 0 [(0, k_ra Z 76)] [] M (f_X12_wantWay M) := by
  show Sm Z G emV _ _ _ _ _ _ (if 12 ≤ (M.1 76 20) then f_X12_wantWay_15 0 M else f_X12_wantWay_15 1 M)
  refine x_aload_n C (k_dg dt_X12_wantWay_0 0 0 (.aload_n 0) 1 rfl) 0 rfl ?_
  refine x_aload_n C (k_dg dt_X12_wantWay_0 1 1 (.aload_n 0) 1 rfl) 0 rfl ?_
  refine x_getI C (a := 76) (j := 20) rfl rfl (by decide) fl_RX12_187 rfl (k_dg dt_X12_wantWay_0 2 2 (.getfield 187) 3 rfl) ?_
  refine x_bipush C (v := 12) (k_dg dt_X12_wantWay_0 3 5 (.bipush 12) 2 rfl) (by decide) ?_
  refine x_icmp_ge C (tgt := 14) (k_dg dt_X12_wantWay_0 4 7 (.if_icmp .ge 7) 3 rfl) (by decide) (fun _ => ?_) (fun _ => ?_)
  · refine x_iconst C (v := 0) (k_dg dt_X12_wantWay_0 7 14 (.iconst 0) 1 rfl) (by decide) ?_
    exact m_X12_wantWay_15 C 0 M
  · refine x_iconst C (v := 1) (k_dg dt_X12_wantWay_0 5 10 (.iconst 1) 1 rfl) (by decide) ?_
    refine x_goto C (tgt := 15) (k_dg dt_X12_wantWay_0 6 11 (.goto 4) 3 rfl) (by decide) ?_
    exact m_X12_wantWay_15 C 1 M
theorem c_X12_wantWay {Z : k_Z} (hg : k_Gd Z) (l : Launch) (M : k_M) : Con true Z l yX12_wantWay cX12_wantWay 8 none 6 0 0 emV [k_ra Z 76] M (f_X12_wantWay M) := k_con hg (by decide) (Nat.le_of_ble_eq_true rfl) (fun G hl C => m_X12_wantWay_0 C M)
theorem dt_X12_refill_0 : k_dec cX12_refill [(0, .iconst 0, 1), (1, .istore_n 1, 1), (2, .iload_n 1, 1), (3, .aload_n 0, 1), (4, .getfield 95, 3), (7, .if_icmp .ge 23, 3), (10, .aload_n 0, 1), (11, .getfield 25, 3), (14, .iconst 5, 1), (15, .iload_n 1, 1), (16, .iadd, 1), (17, .aload_n 0, 1), (18, .iload_n 1, 1), (19, .iconst 2, 1), (20, .invokevirtual 214, 3), (23, .iastore, 1), (24, .iinc 1 1, 3), (27, .goto (-25), 3), (30, .iconst 0, 1), (31, .istore_n 1, 1), (32, .iload_n 1, 1), (33, .aload_n 0, 1), (34, .getfield 103, 3), (37, .if_icmp .ge 24, 3), (40, .aload_n 0, 1), (41, .getfield 25, 3), (44, .bipush 13, 2), (46, .iload_n 1, 1), (47, .iadd, 1), (48, .aload_n 0, 1), (49, .iload_n 1, 1), (50, .iconst 3, 1), (51, .invokevirtual 106, 3), (54, .iastore, 1), (55, .iinc 1 1, 3), (58, .goto (-26), 3), (61, .return_, 1)] = true := by decide +kernel
def f_X12_refill_2 : Nat → Int32 → k_M → (k_M → Option (Unit × k_M)) → Option (Unit × k_M)
  | 0, _, _, _ => none
  | n + 1, l1, M, kx30 => if (M.1 76 0) ≤ l1 then kx30 M else bd (f_X12_its l1 2 M) (fun r1 M2 => wrI M2 82 1100 (5 + l1) r1 (fun M3 => f_X12_refill_2 n (l1 + 1) M3 kx30))
theorem m_X12_refill_2 {Z : k_Z} {G : k_G} (C : k_C Z G RX12 cX12_refill (true, 2, 2, 0, 0) none "refill") (kx30 : k_M → Option (Unit × k_M)) (Hx30 : ∀ (M : k_M), Sm Z G emV (true, 2, 2, 0, 0) (0, 0) 30 [(0, k_ra Z 76)] [] M (kx30 M)) : ∀ (n : Nat) (l1 : Int32) (M : k_M), Sm Z G emV (true, 2, 2, 0, 0) (0, 0) 2 [(0, k_ra Z 76), (1, Value.int l1)] [] M (f_X12_refill_2 n l1 M kx30)
  | 0, _, _ => x_none
  | n + 1, l1, M => by
    have ih := m_X12_refill_2 C kx30 Hx30 n
    show Sm Z G emV _ _ _ _ _ _ (if (M.1 76 0) ≤ l1 then kx30 M else bd (f_X12_its l1 2 M) (fun r1 M2 => wrI M2 82 1100 (5 + l1) r1 (fun M3 => f_X12_refill_2 n (l1 + 1) M3 kx30)))
    refine x_iload_n C (k_dg dt_X12_refill_0 2 2 (.iload_n 1) 1 rfl) 1 rfl ?_
    refine x_aload_n C (k_dg dt_X12_refill_0 3 3 (.aload_n 0) 1 rfl) 0 rfl ?_
    refine x_getI C (a := 76) (j := 0) rfl rfl (by decide) fl_RX12_95 rfl (k_dg dt_X12_refill_0 4 4 (.getfield 95) 3 rfl) ?_
    refine x_icmp_ge C (tgt := 30) (k_dg dt_X12_refill_0 5 7 (.if_icmp .ge 23) 3 rfl) (by decide) (fun _ => ?_) (fun _ => ?_)
    · refine x_lv [0] rfl ?_
      exact Hx30 M
    · refine x_aload_n C (k_dg dt_X12_refill_0 6 10 (.aload_n 0) 1 rfl) 0 rfl ?_
      refine x_getR C (a := 76) (j := 10) 82 rfl rfl (by decide) fl_RX12_25 rfl rfl rfl (k_dg dt_X12_refill_0 7 11 (.getfield 25) 3 rfl) ?_
      refine x_iconst C (v := 5) (k_dg dt_X12_refill_0 8 14 (.iconst 5) 1 rfl) (by decide) ?_
      refine x_iload_n C (k_dg dt_X12_refill_0 9 15 (.iload_n 1) 1 rfl) 1 rfl ?_
      refine x_iadd C (k_dg dt_X12_refill_0 10 16 (.iadd) 1 rfl) ?_
      refine x_aload_n C (k_dg dt_X12_refill_0 11 17 (.aload_n 0) 1 rfl) 0 rfl ?_
      refine x_iload_n C (k_dg dt_X12_refill_0 12 18 (.iload_n 1) 1 rfl) 1 rfl ?_
      refine x_iconst C (v := 2) (k_dg dt_X12_refill_0 13 19 (.iconst 2) 1 rfl) (by decide) ?_
      refine x_callV C (a := 76) (kd := 10) (vs := [Value.int l1, Value.int 2]) (rest := [Value.int (5 + l1), k_ra Z 82]) rfl rfl (by decide) (fun r hr => by cases hr; rfl) (c_X12_its C.2.2.2.2.2.2.2.2.2 G.2.1 l1 2 M) cy_X12_its lk_RX12_214 im_X12_its se_X12_its (by decide) (by decide) (by decide) (by decide) rfl rfl (Nat.le_of_ble_eq_true rfl) (k_dg dt_X12_refill_0 14 20 (.invokevirtual 214) 3 rfl) (fun r1 M2 => ?_)
      show Sm Z G _ _ _ _ [(0, k_ra Z 76), (1, Value.int l1)] [Value.int r1, Value.int (5 + l1), k_ra Z 82] _ _
      refine x_iast C (a := 82) (n := 1100) rfl rfl (k_dg dt_X12_refill_0 15 23 (.iastore) 1 rfl) (fun M3 => ?_)
      refine x_iinc C (v := 1) (lv' := [(1, Value.int (l1 + 1)), (0, k_ra Z 76)]) (k_dg dt_X12_refill_0 16 24 (.iinc 1 1) 3 rfl) 1 rfl (by decide) (by decide) rfl ?_
      refine x_goto C (tgt := 2) (k_dg dt_X12_refill_0 17 27 (.goto (-25)) 3 rfl) (by decide) ?_
      refine x_lv [1, 0] rfl ?_
      exact ih (l1 + 1) M3
def f_X12_refill_32 : Nat → Int32 → k_M → (k_M → Option (Unit × k_M)) → Option (Unit × k_M)
  | 0, _, _, _ => none
  | n + 1, l1, M, kx61 => if (M.1 76 2) ≤ l1 then kx61 M else bd (f_X12_wayIts l1 3 M) (fun r1 M2 => wrI M2 82 1100 (13 + l1) r1 (fun M3 => f_X12_refill_32 n (l1 + 1) M3 kx61))
theorem m_X12_refill_32 {Z : k_Z} {G : k_G} (C : k_C Z G RX12 cX12_refill (true, 2, 2, 0, 0) none "refill") (kx61 : k_M → Option (Unit × k_M)) (Hx61 : ∀ (M : k_M), Sm Z G emV (true, 2, 2, 0, 0) (0, 0) 61 [] [] M (kx61 M)) : ∀ (n : Nat) (l1 : Int32) (M : k_M), Sm Z G emV (true, 2, 2, 0, 0) (0, 0) 32 [(0, k_ra Z 76), (1, Value.int l1)] [] M (f_X12_refill_32 n l1 M kx61)
  | 0, _, _ => x_none
  | n + 1, l1, M => by
    have ih := m_X12_refill_32 C kx61 Hx61 n
    show Sm Z G emV _ _ _ _ _ _ (if (M.1 76 2) ≤ l1 then kx61 M else bd (f_X12_wayIts l1 3 M) (fun r1 M2 => wrI M2 82 1100 (13 + l1) r1 (fun M3 => f_X12_refill_32 n (l1 + 1) M3 kx61)))
    refine x_iload_n C (k_dg dt_X12_refill_0 20 32 (.iload_n 1) 1 rfl) 1 rfl ?_
    refine x_aload_n C (k_dg dt_X12_refill_0 21 33 (.aload_n 0) 1 rfl) 0 rfl ?_
    refine x_getI C (a := 76) (j := 2) rfl rfl (by decide) fl_RX12_103 rfl (k_dg dt_X12_refill_0 22 34 (.getfield 103) 3 rfl) ?_
    refine x_icmp_ge C (tgt := 61) (k_dg dt_X12_refill_0 23 37 (.if_icmp .ge 24) 3 rfl) (by decide) (fun _ => ?_) (fun _ => ?_)
    · refine x_lv [] rfl ?_
      exact Hx61 M
    · refine x_aload_n C (k_dg dt_X12_refill_0 24 40 (.aload_n 0) 1 rfl) 0 rfl ?_
      refine x_getR C (a := 76) (j := 10) 82 rfl rfl (by decide) fl_RX12_25 rfl rfl rfl (k_dg dt_X12_refill_0 25 41 (.getfield 25) 3 rfl) ?_
      refine x_bipush C (v := 13) (k_dg dt_X12_refill_0 26 44 (.bipush 13) 2 rfl) (by decide) ?_
      refine x_iload_n C (k_dg dt_X12_refill_0 27 46 (.iload_n 1) 1 rfl) 1 rfl ?_
      refine x_iadd C (k_dg dt_X12_refill_0 28 47 (.iadd) 1 rfl) ?_
      refine x_aload_n C (k_dg dt_X12_refill_0 29 48 (.aload_n 0) 1 rfl) 0 rfl ?_
      refine x_iload_n C (k_dg dt_X12_refill_0 30 49 (.iload_n 1) 1 rfl) 1 rfl ?_
      refine x_iconst C (v := 3) (k_dg dt_X12_refill_0 31 50 (.iconst 3) 1 rfl) (by decide) ?_
      refine x_callV C (a := 76) (kd := 10) (vs := [Value.int l1, Value.int 3]) (rest := [Value.int (13 + l1), k_ra Z 82]) rfl rfl (by decide) (fun r hr => by cases hr; rfl) (c_X12_wayIts C.2.2.2.2.2.2.2.2.2 G.2.1 l1 3 M) cy_X12_wayIts lk_RX12_106 im_X12_wayIts se_X12_wayIts (by decide) (by decide) (by decide) (by decide) rfl rfl (Nat.le_of_ble_eq_true rfl) (k_dg dt_X12_refill_0 32 51 (.invokevirtual 106) 3 rfl) (fun r1 M2 => ?_)
      show Sm Z G _ _ _ _ [(0, k_ra Z 76), (1, Value.int l1)] [Value.int r1, Value.int (13 + l1), k_ra Z 82] _ _
      refine x_iast C (a := 82) (n := 1100) rfl rfl (k_dg dt_X12_refill_0 33 54 (.iastore) 1 rfl) (fun M3 => ?_)
      refine x_iinc C (v := 1) (lv' := [(1, Value.int (l1 + 1)), (0, k_ra Z 76)]) (k_dg dt_X12_refill_0 34 55 (.iinc 1 1) 3 rfl) 1 rfl (by decide) (by decide) rfl ?_
      refine x_goto C (tgt := 32) (k_dg dt_X12_refill_0 35 58 (.goto (-26)) 3 rfl) (by decide) ?_
      refine x_lv [1, 0] rfl ?_
      exact ih (l1 + 1) M3
def f_X12_refill_61 (M : k_M) : Option (Unit × k_M) := some ((), M)
theorem m_X12_refill_61 {Z : k_Z} {G : k_G} (C : k_C Z G RX12 cX12_refill (true, 2, 2, 0, 0) none "refill") (M : k_M) : Sm Z G emV (true, 2, 2, 0, 0) (0, 0) 61 [] [] M (f_X12_refill_61 M) := by
  show Sm Z G emV _ _ _ _ _ _ (some ((), M))
  exact x_vret C (by decide) (by decide) (k_dg dt_X12_refill_0 36 61 (.return_) 1 rfl)
def f_X12_refill_30 (M : k_M) : Option (Unit × k_M) := f_X12_refill_32 k_fu 0 M (fun M_ => f_X12_refill_61 M_)
theorem m_X12_refill_30 {Z : k_Z} {G : k_G} (C : k_C Z G RX12 cX12_refill (true, 2, 2, 0, 0) none "refill") (M : k_M) : Sm Z G emV (true, 2, 2, 0, 0) (0, 0) 30 [(0, k_ra Z 76)] [] M (f_X12_refill_30 M) := by
  show Sm Z G emV _ _ _ _ _ _ (f_X12_refill_32 k_fu 0 M (fun M_ => f_X12_refill_61 M_))
  refine x_iconst C (v := 0) (k_dg dt_X12_refill_0 18 30 (.iconst 0) 1 rfl) (by decide) ?_
  refine x_istore_n C (lv' := [(1, Value.int 0), (0, k_ra Z 76)]) (k_dg dt_X12_refill_0 19 31 (.istore_n 1) 1 rfl) (by decide) rfl ?_
  refine x_lv [1, 0] rfl ?_
  exact m_X12_refill_32 C (fun M_ => f_X12_refill_61 M_) (fun M_ => m_X12_refill_61 C M_) k_fu 0 M
def f_X12_refill (M : k_M) : Option (Unit × k_M) := f_X12_refill_2 k_fu 0 M (fun M_ => f_X12_refill_30 M_)
theorem m_X12_refill_0 {Z : k_Z} {G : k_G} (C : k_C Z G RX12 cX12_refill (true, 2, 2, 0, 0) none "refill") (M : k_M) : Sm Z G emV (true, 2, 2, 0, 0) (0, 0) 0 [(0, k_ra Z 76)] [] M (f_X12_refill M) := by
  show Sm Z G emV _ _ _ _ _ _ (f_X12_refill_2 k_fu 0 M (fun M_ => f_X12_refill_30 M_))
  refine x_iconst C (v := 0) (k_dg dt_X12_refill_0 0 0 (.iconst 0) 1 rfl) (by decide) ?_
  refine x_istore_n C (lv' := [(1, Value.int 0), (0, k_ra Z 76)]) (k_dg dt_X12_refill_0 1 1 (.istore_n 1) 1 rfl) (by decide) rfl ?_
  refine x_lv [1, 0] rfl ?_
  exact m_X12_refill_2 C (fun M_ => f_X12_refill_30 M_) (fun M_ => m_X12_refill_30 C M_) k_fu 0 M
theorem c_X12_refill {Z : k_Z} (hg : k_Gd Z) (l : Launch) (M : k_M) : Con true Z l yX12_refill cX12_refill 2 none 2 0 0 emV [k_ra Z 76] M (f_X12_refill M) := k_con hg (by decide) (Nat.le_of_ble_eq_true rfl) (fun G hl C => m_X12_refill_0 C M)
