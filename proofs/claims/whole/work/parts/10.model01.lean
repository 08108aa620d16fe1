theorem fl_RX12_16 : k_FL RX12 16 10 4 := ⟨(RX12, TX12, 53), "WheelCityModel", rfl, by decide, iu_10, Or.inl (List.mem_of_getElem? (i := 1100) (by decide +kernel)), Or.inl rfl⟩
theorem fl_RX12_19 : k_FL RX12 19 10 5 := ⟨(RX12, TX12, 53), "WheelCityModel", rfl, by decide, iu_10, Or.inl (List.mem_of_getElem? (i := 1101) (by decide +kernel)), Or.inl rfl⟩
theorem fl_RX12_205 : k_FL RX12 205 10 7 := ⟨(RX12, TX12, 53), "WheelCityModel", rfl, by decide, iu_10, Or.inl (List.mem_of_getElem? (i := 1103) (by decide +kernel)), Or.inl rfl⟩
theorem fl_RX12_208 : k_FL RX12 208 10 36 := ⟨(RX12, TX12, 53), "WheelCityModel", rfl, by decide, iu_10, Or.inl (List.mem_of_getElem? (i := 1132) (by decide +kernel)), Or.inl rfl⟩
theorem fl_RX12_226 : k_FL RX12 226 10 6 := ⟨(RX12, TX12, 53), "WheelCityModel", rfl, by decide, iu_10, Or.inl (List.mem_of_getElem? (i := 1102) (by decide +kernel)), Or.inl rfl⟩
theorem pt_10_0 : k_cls 10 0 .int := fun r hr => by cases hr; exact ⟨rfl, by decide +kernel⟩
theorem pt_10_2 : k_cls 10 2 .int := fun r hr => by cases hr; exact ⟨rfl, by decide +kernel⟩
theorem pt_10_6 : k_cls 10 6 .int := fun r hr => by cases hr; exact ⟨rfl, by decide +kernel⟩
theorem pt_10_7 : k_cls 10 7 .boolean := fun r hr => by cases hr; exact ⟨rfl, by decide +kernel⟩
theorem pt_10_36 : k_cls 10 36 .int := fun r hr => by cases hr; exact ⟨rfl, by decide +kernel⟩
theorem cy_X12_byLeft : k_cy yX12_byLeft cX12_byLeft 5 (some .int) 3 := ⟨List.mem_of_getElem? (i := 1410) (by decide +kernel), List.mem_of_getElem? (i := 112) (by decide +kernel), ⟨by decide +kernel, by decide +kernel⟩, by decide +kernel⟩
theorem cy_X12_byRoom : k_cy yX12_byRoom cX12_byRoom 5 (some .int) 3 := ⟨List.mem_of_getElem? (i := 1414) (by decide +kernel), List.mem_of_getElem? (i := 112) (by decide +kernel), ⟨by decide +kernel, by decide +kernel⟩, by decide +kernel⟩
theorem cy_X12_eats : k_cy yX12_eats cX12_eats 3 (some .int) 2 := ⟨List.mem_of_getElem? (i := 1418) (by decide +kernel), List.mem_of_getElem? (i := 112) (by decide +kernel), ⟨by decide +kernel, by decide +kernel⟩, by decide +kernel⟩
theorem cy_X12_gets : k_cy yX12_gets cX12_gets 8 none 2 := ⟨List.mem_of_getElem? (i := 1399) (by decide +kernel), List.mem_of_getElem? (i := 112) (by decide +kernel), ⟨by decide +kernel, by decide +kernel⟩, by decide +kernel⟩
theorem cy_X12_isPlace : k_cy yX12_isPlace cX12_isPlace 2 (some .boolean) 1 := ⟨List.mem_of_getElem? (i := 1348) (by decide +kernel), List.mem_of_getElem? (i := 112) (by decide +kernel), ⟨by decide +kernel, by decide +kernel⟩, by decide +kernel⟩
theorem cy_X12_isWay : k_cy yX12_isWay cX12_isWay 2 (some .boolean) 1 := ⟨List.mem_of_getElem? (i := 1364) (by decide +kernel), List.mem_of_getElem? (i := 112) (by decide +kernel), ⟨by decide +kernel, by decide +kernel⟩, by decide +kernel⟩
theorem cy_X12_isWet : k_cy yX12_isWet cX12_isWet 3 (some .boolean) 2 := ⟨List.mem_of_getElem? (i := 1406) (by decide +kernel), List.mem_of_getElem? (i := 112) (by decide +kernel), ⟨by decide +kernel, by decide +kernel⟩, by decide +kernel⟩
theorem cy_X12_monthOf : k_cy yX12_monthOf cX12_monthOf 1 (some .int) 1 := ⟨List.mem_of_getElem? (i := 1383) (by decide +kernel), List.mem_of_getElem? (i := 112) (by decide +kernel), ⟨by decide +kernel, by decide +kernel⟩, by decide +kernel⟩
theorem cy_X12_refill : k_cy yX12_refill cX12_refill 2 none 0 := ⟨List.mem_of_getElem? (i := 1328) (by decide +kernel), List.mem_of_getElem? (i := 112) (by decide +kernel), ⟨by decide +kernel, by decide +kernel⟩, by decide +kernel⟩
theorem cy_X12_shedOf : k_cy yX12_shedOf cX12_shedOf 1 (some .int) 1 := ⟨List.mem_of_getElem? (i := 1402) (by decide +kernel), List.mem_of_getElem? (i := 112) (by decide +kernel), ⟨by decide +kernel, by decide +kernel⟩, by decide +kernel⟩
theorem cy_X12_wantPlace : k_cy yX12_wantPlace cX12_wantPlace 4 none 0 := ⟨List.mem_of_getElem? (i := 1302) (by decide +kernel), List.mem_of_getElem? (i := 112) (by decide +kernel), ⟨by decide +kernel, by decide +kernel⟩, by decide +kernel⟩
theorem cy_X12_wantWay : k_cy yX12_wantWay cX12_wantWay 8 none 0 := ⟨List.mem_of_getElem? (i := 1318) (by decide +kernel), List.mem_of_getElem? (i := 112) (by decide +kernel), ⟨by decide +kernel, by decide +kernel⟩, by decide +kernel⟩
theorem cy_X12_waysAt : k_cy yX12_waysAt cX12_waysAt 4 (some .int) 1 := ⟨List.mem_of_getElem? (i := 1352) (by decide +kernel), List.mem_of_getElem? (i := 112) (by decide +kernel), ⟨by decide +kernel, by decide +kernel⟩, by decide +kernel⟩
theorem cy_X12_worthAt : k_cy yX12_worthAt cX12_worthAt 4 (some .int) 1 := ⟨List.mem_of_getElem? (i := 1387) (by decide +kernel), List.mem_of_getElem? (i := 112) (by decide +kernel), ⟨by decide +kernel, by decide +kernel⟩, by decide +kernel⟩
theorem lk_RX12_197 : k_lk RX12 197 yX12_wantPlace := Or.inl (List.mem_of_getElem? (i := 1299) (by decide +kernel))
theorem lk_RX12_202 : k_lk RX12 202 yX12_wantWay := Or.inl (List.mem_of_getElem? (i := 1315) (by decide +kernel))
theorem lk_RX12_211 : k_lk RX12 211 yX12_refill := Or.inl (List.mem_of_getElem? (i := 1325) (by decide +kernel))
theorem lk_RX12_217 : k_lk RX12 217 yX12_isPlace := Or.inl (List.mem_of_getElem? (i := 1345) (by decide +kernel))
theorem lk_RX12_220 : k_lk RX12 220 yX12_waysAt := Or.inl (List.mem_of_getElem? (i := 1349) (by decide +kernel))
theorem lk_RX12_223 : k_lk RX12 223 yX12_isWay := Or.inl (List.mem_of_getElem? (i := 1361) (by decide +kernel))
theorem lk_RX12_229 : k_lk RX12 229 yX12_monthOf := Or.inl (List.mem_of_getElem? (i := 1381) (by decide +kernel))
theorem lk_RX12_232 : k_lk RX12 232 yX12_worthAt := Or.inl (List.mem_of_getElem? (i := 1384) (by decide +kernel))
theorem lk_RX12_235 : k_lk RX12 235 yX12_shedOf := Or.inl (List.mem_of_getElem? (i := 1400) (by decide +kernel))
theorem lk_RX12_238 : k_lk RX12 238 yX12_isWet := Or.inl (List.mem_of_getElem? (i := 1403) (by decide +kernel))
theorem lk_RX12_242 : k_lk RX12 242 yX12_byLeft := Or.inl (List.mem_of_getElem? (i := 1407) (by decide +kernel))
theorem lk_RX12_246 : k_lk RX12 246 yX12_byRoom := Or.inl (List.mem_of_getElem? (i := 1411) (by decide +kernel))
theorem lk_RX12_249 : k_lk RX12 249 yX12_gets := Or.inl (List.mem_of_getElem? (i := 1396) (by decide +kernel))
theorem lk_RX12_253 : k_lk RX12 253 yX12_eats := Or.inl (List.mem_of_getElem? (i := 1415) (by decide +kernel))
theorem im_X12_byLeft : Cond.instanceMethod yX12_byLeft ∈ lw_tbl := List.mem_of_getElem? (i := 1409) (by decide +kernel)
theorem im_X12_byRoom : Cond.instanceMethod yX12_byRoom ∈ lw_tbl := List.mem_of_getElem? (i := 1413) (by decide +kernel)
theorem im_X12_eats : Cond.instanceMethod yX12_eats ∈ lw_tbl := List.mem_of_getElem? (i := 1417) (by decide +kernel)
theorem im_X12_gets : Cond.instanceMethod yX12_gets ∈ lw_tbl := List.mem_of_getElem? (i := 1398) (by decide +kernel)
theorem im_X12_isPlace : Cond.instanceMethod yX12_isPlace ∈ lw_tbl := List.mem_of_getElem? (i := 1347) (by decide +kernel)
theorem im_X12_isWay : Cond.instanceMethod yX12_isWay ∈ lw_tbl := List.mem_of_getElem? (i := 1363) (by decide +kernel)
theorem im_X12_isWet : Cond.instanceMethod yX12_isWet ∈ lw_tbl := List.mem_of_getElem? (i := 1405) (by decide +kernel)
theorem im_X12_refill : Cond.instanceMethod yX12_refill ∈ lw_tbl := List.mem_of_getElem? (i := 1327) (by decide +kernel)
theorem im_X12_wantPlace : Cond.instanceMethod yX12_wantPlace ∈ lw_tbl := List.mem_of_getElem? (i := 1301) (by decide +kernel)
theorem im_X12_wantWay : Cond.instanceMethod yX12_wantWay ∈ lw_tbl := List.mem_of_getElem? (i := 1317) (by decide +kernel)
theorem im_X12_waysAt : Cond.instanceMethod yX12_waysAt ∈ lw_tbl := List.mem_of_getElem? (i := 1351) (by decide +kernel)
theorem im_X12_worthAt : Cond.instanceMethod yX12_worthAt ∈ lw_tbl := List.mem_of_getElem? (i := 1386) (by decide +kernel)
theorem se_X12_byLeft : Cond.selects yX12_byLeft.cls yX12_byLeft yX12_byLeft ∈ lw_tbl := List.mem_of_getElem? (i := 73) (by decide +kernel)
theorem se_X12_byRoom : Cond.selects yX12_byRoom.cls yX12_byRoom yX12_byRoom ∈ lw_tbl := List.mem_of_getElem? (i := 74) (by decide +kernel)
theorem se_X12_eats : Cond.selects yX12_eats.cls yX12_eats yX12_eats ∈ lw_tbl := List.mem_of_getElem? (i := 75) (by decide +kernel)
theorem se_X12_gets : Cond.selects yX12_gets.cls yX12_gets yX12_gets ∈ lw_tbl := List.mem_of_getElem? (i := 71) (by decide +kernel)
theorem se_X12_isPlace : Cond.selects yX12_isPlace.cls yX12_isPlace yX12_isPlace ∈ lw_tbl := List.mem_of_getElem? (i := 66) (by decide +kernel)
theorem se_X12_isWay : Cond.selects yX12_isWay.cls yX12_isWay yX12_isWay ∈ lw_tbl := List.mem_of_getElem? (i := 68) (by decide +kernel)
theorem se_X12_isWet : Cond.selects yX12_isWet.cls yX12_isWet yX12_isWet ∈ lw_tbl := List.mem_of_getElem? (i := 72) (by decide +kernel)
theorem se_X12_refill : Cond.selects yX12_refill.cls yX12_refill yX12_refill ∈ lw_tbl := List.mem_of_getElem? (i := 63) (by decide +kernel)
theorem se_X12_wantPlace : Cond.selects yX12_wantPlace.cls yX12_wantPlace yX12_wantPlace ∈ lw_tbl := List.mem_of_getElem? (i := 58) (by decide +kernel)
theorem se_X12_wantWay : Cond.selects yX12_wantWay.cls yX12_wantWay yX12_wantWay ∈ lw_tbl := List.mem_of_getElem? (i := 61) (by decide +kernel)
theorem se_X12_waysAt : Cond.selects yX12_waysAt.cls yX12_waysAt yX12_waysAt ∈ lw_tbl := List.mem_of_getElem? (i := 67) (by decide +kernel)
theorem se_X12_worthAt : Cond.selects yX12_worthAt.cls yX12_worthAt yX12_worthAt ∈ lw_tbl := List.mem_of_getElem? (i := 69) (by decide +kernel)
theorem stt_X12_monthOf : Cond.static yX12_monthOf ∈ lw_tbl := List.mem_of_getElem? (i := 1382) (by decide +kernel)
theorem stt_X12_shedOf : Cond.static yX12_shedOf ∈ lw_tbl := List.mem_of_getElem? (i := 1401) (by decide +kernel)
theorem ct_RX12_200 : Cond.constantLong RX12 200 16819 ∈ lw_tbl := List.mem_of_getElem? (i := 1314) (by decide +kernel)
theorem dt_X12_plain_0 : k_dec cX12_plain [(0, .aload_n 0, 1), (1, .iconst 0, 1), (2, .putfield 115, 3), (5, .aload_n 0, 1), (6, .iconst 1, 1), (7, .putfield 164, 3), (10, .aload_n 0, 1), (11, .iconst 0, 1), (12, .putfield 175, 3), (15, .aload_n 0, 1), (16, .iconst 0, 1), (17, .putfield 187, 3), (20, .aload_n 0, 1), (21, .invokevirtual 168, 3), (24, .aload_n 0, 1), (25, .getfield 164, 3), (28, .ifCond .eq 49, 3), (31, .aload_n 0, 1), (32, .getfield 132, 3), (35, .ifCond .eq 42, 3), (38, .aload_n 0, 1), (39, .invokevirtual 171, 3), (42, .ifCond .lt 10, 3), (45, .aload_n 0, 1), (46, .invokevirtual 197, 3), (49, .goto (-25), 3), (52, .aload_n 0, 1), (53, .ldc2_w 200, 3), (56, .invokevirtual 150, 3), (59, .ifCond .eq 10, 3), (62, .aload_n 0, 1), (63, .invokevirtual 202, 3), (66, .goto (-42), 3), (69, .aload_n 0, 1), (70, .iconst 0, 1), (71, .putfield 164, 3), (74, .goto (-50), 3), (77, .aload_n 0, 1), (78, .iconst 0, 1), (79, .putfield 110, 3)] = true := by decide +kernel
theorem dt_X12_plain_1 : k_dec cX12_plain [(82, .aload_n 0, 1), (83, .getfield 164, 3), (86, .ifCond .ne 11, 3), (89, .bipush (-100), 2), (91, .aload_n 0, 1), (92, .getfield 118, 3), (95, .isub, 1), (96, .ireturn, 1), (97, .aload_n 0, 1), (98, .aload_n 0, 1), (99, .getfield 175, 3), (102, .putfield 95, 3), (105, .aload_n 0, 1), (106, .aload_n 0, 1), (107, .getfield 187, 3), (110, .putfield 103, 3), (113, .iconst 0, 1), (114, .istore_n 1, 1), (115, .iload_n 1, 1), (116, .bipush 24, 2), (118, .if_icmp .ge 21, 3), (121, .aload_n 0, 1), (122, .getfield 7, 3), (125, .iload_n 1, 1), (126, .aload_n 0, 1), (127, .getfield 31, 3), (130, .iload_n 1, 1), (131, .iaload, 1), (132, .iastore, 1), (133, .iinc 1 1, 3), (136, .goto (-21), 3), (139, .iconst 0, 1), (140, .istore_n 1, 1), (141, .iload_n 1, 1), (142, .bipush 60, 2), (144, .if_icmp .ge 21, 3), (147, .aload_n 0, 1), (148, .getfield 13, 3), (151, .iload_n 1, 1), (152, .aload_n 0, 1)] = true := by decide +kernel
theorem dt_X12_plain_2 : k_dec cX12_plain [(153, .getfield 34, 3), (156, .iload_n 1, 1), (157, .iaload, 1), (158, .iastore, 1), (159, .iinc 1 1, 3), (162, .goto (-21), 3), (165, .aload_n 0, 1), (166, .iconst 0, 1), (167, .putfield 205, 3), (170, .aload_n 0, 1), (171, .iconst 0, 1), (172, .putfield 208, 3), (175, .aload_n 0, 1), (176, .invokevirtual 211, 3), (179, .aload_n 0, 1), (180, .getfield 95, 3), (183, .ireturn, 1)] = true := by decide +kernel
def f_X12_plain_24 : Nat → k_M → (k_M → Option (Int32 × k_M)) → Option (Int32 × k_M)
  | 0, _, _ => none
  | n + 1, M, kx77 => if (M.1 76 18) = 0 then kx77 M else if (M.1 76 13) = 0 then kx77 M else bd (f_X12_kindHere M) (fun r1 M2 => if r1 < 0 then bd (f_X12_isWord 16819 M2) (fun r3 M4 => if r3 = 0 then bN (sI M4 76 18 0) (fun M5 => f_X12_plain_24 n M5 kx77) else bd (f_X12_wantWay M4) (fun r6 M7 => f_X12_plain_24 n M7 kx77)) else bd (f_X12_wantPlace M2) (fun r8 M9 => f_X12_plain_24 n M9 kx77))
theorem m_X12_plain_24 {Z : k_Z} {G : k_G} (C : k_C Z G RX12 cX12_plain (true, 2, 7, 0, 0) (some .int) "plain") (kx77 : k_M → Option (Int32 × k_M)) (Hx77 : ∀ (M : k_M), Sm Z G emI (true, 2, 7, 0, 0) (0, 0) 77 [(0, k_ra Z 76)] [] M (kx77 M)) : ∀ (n : Nat) (M : k_M), Sm Z G emI (true, 2, 7, 0, 0) (0, 0) 24 [(0, k_ra Z 76)] [] M (f_X12_plain_24 n M kx77)
  | 0, _ => x_none
  | n + 1, M => by
    have ih := m_X12_plain_24 C kx77 Hx77 n
    show Sm Z G emI _ _ _ _ _ _ (if (M.1 76 18) = 0 then kx77 M else if (M.1 76 13) = 0 then kx77 M else bd (f_X12_kindHere M) (fun r1 M2 => if r1 < 0 then bd (f_X12_isWord 16819 M2) (fun r3 M4 => if r3 = 0 then bN (sI M4 76 18 0) (fun M5 => f_X12_plain_24 n M5 kx77) else bd (f_X12_wantWay M4) (fun r6 M7 => f_X12_plain_24 n M7 kx77)) else bd (f_X12_wantPlace M2) (fun r8 M9 => f_X12_plain_24 n M9 kx77)))
    refine x_aload_n C (k_dg dt_X12_plain_0 14 24 (.aload_n 0) 1 rfl) 0 rfl ?_
    refine x_getI C (a := 76) (j := 18) rfl rfl (by decide) fl_RX12_164 rfl (k_dg dt_X12_plain_0 15 25 (.getfield 164) 3 rfl) ?_
    refine x_if_eq C (tgt := 77) (k_dg dt_X12_plain_0 16 28 (.ifCond .eq 49) 3 rfl) (by decide) (fun _ => ?_) (fun _ => ?_)
    · exact Hx77 M
    · refine x_aload_n C (k_dg dt_X12_plain_0 17 31 (.aload_n 0) 1 rfl) 0 rfl ?_
      refine x_getI C (a := 76) (j := 13) rfl rfl (by decide) fl_RX12_132 rfl (k_dg dt_X12_plain_0 18 32 (.getfield 132) 3 rfl) ?_
      refine x_if_eq C (tgt := 77) (k_dg dt_X12_plain_0 19 35 (.ifCond .eq 42) 3 rfl) (by decide) (fun _ => ?_) (fun _ => ?_)
      · exact Hx77 M
      · refine x_aload_n C (k_dg dt_X12_plain_0 20 38 (.aload_n 0) 1 rfl) 0 rfl ?_
        refine x_callV C (a := 76) (kd := 10) (vs := []) (rest := []) rfl rfl (by decide) (fun r hr => by cases hr; rfl) (c_X12_kindHere C.2.2.2.2.2.2.2.2.2 G.2.1 M) cy_X12_kindHere lk_RX12_171 im_X12_kindHere se_X12_kindHere (by decide) (by decide) (by decide) (by decide) rfl rfl (Nat.le_of_ble_eq_true rfl) (k_dg dt_X12_plain_0 21 39 (.invokevirtual 171) 3 rfl) (fun r1 M2 => ?_)
        show Sm Z G _ _ _ _ [(0, k_ra Z 76)] [Value.int r1] _ _
        refine x_if_lt C (tgt := 52) (k_dg dt_X12_plain_0 22 42 (.ifCond .lt 10) 3 rfl) (by decide) (fun _ => ?_) (fun _ => ?_)
        · refine x_aload_n C (k_dg dt_X12_plain_0 26 52 (.aload_n 0) 1 rfl) 0 rfl ?_
          refine x_ldc2 C (v := 16819) ct_RX12_200 (k_dg dt_X12_plain_0 27 53 (.ldc2_w 200) 3 rfl) ?_
          refine x_callV C (a := 76) (kd := 10) (vs := [Value.long 16819]) (rest := []) rfl rfl (by decide) (fun r hr => by cases hr; rfl) (c_X12_isWord C.2.2.2.2.2.2.2.2.2 G.2.1 16819 M2) cy_X12_isWord lk_RX12_150 im_X12_isWord se_X12_isWord (by decide) (by decide) (by decide) (by decide) rfl rfl (Nat.le_of_ble_eq_true rfl) (k_dg dt_X12_plain_0 28 56 (.invokevirtual 150) 3 rfl) (fun r3 M4 => ?_)
          show Sm Z G _ _ _ _ [(0, k_ra Z 76)] [Value.int r3] _ _
          refine x_if_eq C (tgt := 69) (k_dg dt_X12_plain_0 29 59 (.ifCond .eq 10) 3 rfl) (by decide) (fun _ => ?_) (fun _ => ?_)
          · refine x_aload_n C (k_dg dt_X12_plain_0 33 69 (.aload_n 0) 1 rfl) 0 rfl ?_
            refine x_iconst C (v := 0) (k_dg dt_X12_plain_0 34 70 (.iconst 0) 1 rfl) (by decide) ?_
            refine x_putI C (a := 76) (j := 18) rfl rfl (by decide) fl_RX12_164 rfl pt_10_18 tb_10 rfl rfl (k_dg dt_X12_plain_0 35 71 (.putfield 164) 3 rfl) (fun M5 => ?_)
            refine x_goto C (tgt := 24) (k_dg dt_X12_plain_0 36 74 (.goto (-50)) 3 rfl) (by decide) ?_
            exact ih M5
          · refine x_aload_n C (k_dg dt_X12_plain_0 30 62 (.aload_n 0) 1 rfl) 0 rfl ?_
            refine x_callV C (a := 76) (kd := 10) (vs := []) (rest := []) rfl rfl (by decide) (fun r hr => by cases hr; rfl) (c_X12_wantWay C.2.2.2.2.2.2.2.2.2 G.2.1 M4) cy_X12_wantWay lk_RX12_202 im_X12_wantWay se_X12_wantWay (by decide) (by decide) (by decide) (by decide) rfl rfl (Nat.le_of_ble_eq_true rfl) (k_dg dt_X12_plain_0 31 63 (.invokevirtual 202) 3 rfl) (fun r6 M7 => ?_)
            show Sm Z G _ _ _ _ [(0, k_ra Z 76)] [] _ _
            refine x_goto C (tgt := 24) (k_dg dt_X12_plain_0 32 66 (.goto (-42)) 3 rfl) (by decide) ?_
            exact ih M7
        · refine x_aload_n C (k_dg dt_X12_plain_0 23 45 (.aload_n 0) 1 rfl) 0 rfl ?_
          refine x_callV C (a := 76) (kd := 10) (vs := []) (rest := []) rfl rfl (by decide) (fun r hr => by cases hr; rfl) (c_X12_wantPlace C.2.2.2.2.2.2.2.2.2 G.2.1 M2) cy_X12_wantPlace lk_RX12_197 im_X12_wantPlace se_X12_wantPlace (by decide) (by decide) (by decide) (by decide) rfl rfl (Nat.le_of_ble_eq_true rfl) (k_dg dt_X12_plain_0 24 46 (.invokevirtual 197) 3 rfl) (fun r8 M9 => ?_)
          show Sm Z G _ _ _ _ [(0, k_ra Z 76)] [] _ _
          refine x_goto C (tgt := 24) (k_dg dt_X12_plain_0 25 49 (.goto (-25)) 3 rfl) (by decide) ?_
          exact ih M9
def f_X12_plain_115 : Nat → Int32 → k_M → (k_M → Option (Int32 × k_M)) → Option (Int32 × k_M)
  | 0, _, _, _ => none
  | n + 1, l1, M, kx139 => if 24 ≤ l1 then kx139 M else rdI M 84 24 l1 (fun v1 => wrI M 77 24 l1 v1 (fun M2 => f_X12_plain_115 n (l1 + 1) M2 kx139))
theorem m_X12_plain_115 {Z : k_Z} {G : k_G} (C : k_C Z G RX12 cX12_plain (true, 2, 7, 0, 0) (some .int) "plain") (kx139 : k_M → Option (Int32 × k_M)) (Hx139 : ∀ (M : k_M), Sm Z G emI (true, 2, 7, 0, 0) (0, 0) 139 [(0, k_ra Z 76)] [] M (kx139 M)) : ∀ (n : Nat) (l1 : Int32) (M : k_M), Sm Z G emI (true, 2, 7, 0, 0) (0, 0) 115 [(0, k_ra Z 76), (1, Value.int l1)] [] M (f_X12_plain_115 n l1 M kx139)
  | 0, _, _ => x_none
  | n + 1, l1, M => by
    have ih := m_X12_plain_115 C kx139 Hx139 n
    show Sm Z G emI _ _ _ _ _ _ (if 24 ≤ l1 then kx139 M else rdI M 84 24 l1 (fun v1 => wrI M 77 24 l1 v1 (fun M2 => f_X12_plain_115 n (l1 + 1) M2 kx139)))
    refine x_iload_n C (k_dg dt_X12_plain_1 18 115 (.iload_n 1) 1 rfl) 1 rfl ?_
    refine x_bipush C (v := 24) (k_dg dt_X12_plain_1 19 116 (.bipush 24) 2 rfl) (by decide) ?_
    refine x_icmp_ge C (tgt := 139) (k_dg dt_X12_plain_1 20 118 (.if_icmp .ge 21) 3 rfl) (by decide) (fun _ => ?_) (fun _ => ?_)
    · refine x_lv [0] rfl ?_
      exact Hx139 M
    · refine x_aload_n C (k_dg dt_X12_plain_1 21 121 (.aload_n 0) 1 rfl) 0 rfl ?_
      refine x_getR C (a := 76) (j := 1) 77 rfl rfl (by decide) fl_RX12_7 rfl rfl rfl (k_dg dt_X12_plain_1 22 122 (.getfield 7) 3 rfl) ?_
      refine x_iload_n C (k_dg dt_X12_plain_1 23 125 (.iload_n 1) 1 rfl) 1 rfl ?_
      refine x_aload_n C (k_dg dt_X12_plain_1 24 126 (.aload_n 0) 1 rfl) 0 rfl ?_
      refine x_getR C (a := 76) (j := 21) 84 rfl rfl (by decide) fl_RX12_31 rfl rfl rfl (k_dg dt_X12_plain_1 25 127 (.getfield 31) 3 rfl) ?_
      refine x_iload_n C (k_dg dt_X12_plain_1 26 130 (.iload_n 1) 1 rfl) 1 rfl ?_
      refine x_iald C (a := 84) (n := 24) rfl rfl (k_dg dt_X12_plain_1 27 131 (.iaload) 1 rfl) (fun v1 => ?_)
      refine x_iast C (a := 77) (n := 24) rfl rfl (k_dg dt_X12_plain_1 28 132 (.iastore) 1 rfl) (fun M2 => ?_)
      refine x_iinc C (v := 1) (lv' := [(1, Value.int (l1 + 1)), (0, k_ra Z 76)]) (k_dg dt_X12_plain_1 29 133 (.iinc 1 1) 3 rfl) 1 rfl (by decide) (by decide) rfl ?_
      refine x_goto C (tgt := 115) (k_dg dt_X12_plain_1 30 136 (.goto (-21)) 3 rfl) (by decide) ?_
      refine x_lv [1, 0] rfl ?_
      exact ih (l1 + 1) M2
def f_X12_plain_141 : Nat → Int32 → k_M → (k_M → Option (Int32 × k_M)) → Option (Int32 × k_M)
  | 0, _, _, _ => none
  | n + 1, l1, M, kx165 => if 60 ≤ l1 then kx165 M else rdI M 85 60 l1 (fun v1 => wrI M 78 60 l1 v1 (fun M2 => f_X12_plain_141 n (l1 + 1) M2 kx165))
theorem m_X12_plain_141 {Z : k_Z} {G : k_G} (C : k_C Z G RX12 cX12_plain (true, 2, 7, 0, 0) (some .int) "plain") (kx165 : k_M → Option (Int32 × k_M)) (Hx165 : ∀ (M : k_M), Sm Z G emI (true, 2, 7, 0, 0) (0, 0) 165 [(0, k_ra Z 76)] [] M (kx165 M)) : ∀ (n : Nat) (l1 : Int32) (M : k_M), Sm Z G emI (true, 2, 7, 0, 0) (0, 0) 141 [(0, k_ra Z 76), (1, Value.int l1)] [] M (f_X12_plain_141 n l1 M kx165)
  | 0, _, _ => x_none
  | n + 1, l1, M => by
    have ih := m_X12_plain_141 C kx165 Hx165 n
    show Sm Z G emI _ _ _ _ _ _ (if 60 ≤ l1 then kx165 M else rdI M 85 60 l1 (fun v1 => wrI M 78 60 l1 v1 (fun M2 => f_X12_plain_141 n (l1 + 1) M2 kx165)))
    refine x_iload_n C (k_dg dt_X12_plain_1 33 141 (.iload_n 1) 1 rfl) 1 rfl ?_
    refine x_bipush C (v := 60) (k_dg dt_X12_plain_1 34 142 (.bipush 60) 2 rfl) (by decide) ?_
    refine x_icmp_ge C (tgt := 165) (k_dg dt_X12_plain_1 35 144 (.if_icmp .ge 21) 3 rfl) (by decide) (fun _ => ?_) (fun _ => ?_)
    · refine x_lv [0] rfl ?_
      exact Hx165 M
    · refine x_aload_n C (k_dg dt_X12_plain_1 36 147 (.aload_n 0) 1 rfl) 0 rfl ?_
      refine x_getR C (a := 76) (j := 3) 78 rfl rfl (by decide) fl_RX12_13 rfl rfl rfl (k_dg dt_X12_plain_1 37 148 (.getfield 13) 3 rfl) ?_
      refine x_iload_n C (k_dg dt_X12_plain_1 38 151 (.iload_n 1) 1 rfl) 1 rfl ?_
      refine x_aload_n C (k_dg dt_X12_plain_1 39 152 (.aload_n 0) 1 rfl) 0 rfl ?_
      refine x_getR C (a := 76) (j := 22) 85 rfl rfl (by decide) fl_RX12_34 rfl rfl rfl (k_dg dt_X12_plain_2 0 153 (.getfield 34) 3 rfl) ?_
      refine x_iload_n C (k_dg dt_X12_plain_2 1 156 (.iload_n 1) 1 rfl) 1 rfl ?_
      refine x_iald C (a := 85) (n := 60) rfl rfl (k_dg dt_X12_plain_2 2 157 (.iaload) 1 rfl) (fun v1 => ?_)
      refine x_iast C (a := 78) (n := 60) rfl rfl (k_dg dt_X12_plain_2 3 158 (.iastore) 1 rfl) (fun M2 => ?_)
      refine x_iinc C (v := 1) (lv' := [(1, Value.int (l1 + 1)), (0, k_ra Z 76)]) (k_dg dt_X12_plain_2 4 159 (.iinc 1 1) 3 rfl) 1 rfl (by decide) (by decide) rfl ?_
      refine x_goto C (tgt := 141) (k_dg dt_X12_plain_2 5 162 (.goto (-21)) 3 rfl) (by decide) ?_
      refine x_lv [1, 0] rfl ?_
      exact ih (l1 + 1) M2
def f_X12_plain_165 (M : k_M) : Option (Int32 × k_M) := bN (sI M 76 7 0) (fun M1 => bN (sI M1 76 36 0) (fun M2 => bd (f_X12_refill M2) (fun r3 M4 => some (M4.1 76 0, M4))))
theorem m_X12_plain_165 {Z : k_Z} {G : k_G} (C : k_C Z G RX12 cX12_plain (true, 2, 7, 0, 0) (some .int) "plain") (M : k_M) : Sm Z G emI (true, 2, 7, 0, 0) (0, 0) 165 [(0, k_ra Z 76)] [] M (f_X12_plain_165 M) := by
  show Sm Z G emI _ _ _ _ _ _ (bN (sI M 76 7 0) (fun M1 => bN (sI M1 76 36 0) (fun M2 => bd (f_X12_refill M2) (fun r3 M4 => some (M4.1 76 0, M4)))))
  refine x_aload_n C (k_dg dt_X12_plain_2 6 165 (.aload_n 0) 1 rfl) 0 rfl ?_
  refine x_iconst C (v := 0) (k_dg dt_X12_plain_2 7 166 (.iconst 0) 1 rfl) (by decide) ?_
  refine x_putI C (a := 76) (j := 7) rfl rfl (by decide) fl_RX12_205 rfl pt_10_7 tb_10 rfl rfl (k_dg dt_X12_plain_2 8 167 (.putfield 205) 3 rfl) (fun M1 => ?_)
  refine x_aload_n C (k_dg dt_X12_plain_2 9 170 (.aload_n 0) 1 rfl) 0 rfl ?_
  refine x_iconst C (v := 0) (k_dg dt_X12_plain_2 10 171 (.iconst 0) 1 rfl) (by decide) ?_
  refine x_putI C (a := 76) (j := 36) rfl rfl (by decide) fl_RX12_208 rfl pt_10_36 tb_10 rfl rfl (k_dg dt_X12_plain_2 11 172 (.putfield 208) 3 rfl) (fun M2 => ?_)
  refine x_aload_n C (k_dg dt_X12_plain_2 12 175 (.aload_n 0) 1 rfl) 0 rfl ?_
  refine x_callV C (a := 76) (kd := 10) (vs := []) (rest := []) rfl rfl (by decide) (fun r hr => by cases hr; rfl) (c_X12_refill C.2.2.2.2.2.2.2.2.2 G.2.1 M2) cy_X12_refill lk_RX12_211 im_X12_refill se_X12_refill (by decide) (by decide) (by decide) (by decide) rfl rfl (Nat.le_of_ble_eq_true rfl) (k_dg dt_X12_plain_2 13 176 (.invokevirtual 211) 3 rfl) (fun r3 M4 => ?_)
  show Sm Z G _ _ _ _ [(0, k_ra Z 76)] [] _ _
  refine x_aload_n C (k_dg dt_X12_plain_2 14 179 (.aload_n 0) 1 rfl) 0 rfl ?_
  refine x_getI C (a := 76) (j := 0) rfl rfl (by decide) fl_RX12_95 rfl (k_dg dt_X12_plain_2 15 180 (.getfield 95) 3 rfl) ?_
  exact x_iret C (by decide) (by decide) (k_dg dt_X12_plain_2 16 183 (.ireturn) 1 rfl)
def f_X12_plain_139 (M : k_M) : Option (Int32 × k_M) := f_X12_plain_141 k_fu 0 M (fun M_ => f_X12_plain_165 M_)
theorem m_X12_plain_139 {Z : k_Z} {G : k_G} (C : k_C Z G RX12 cX12_plain (true, 2, 7, 0, 0) (some .int) "plain") (M : k_M) : Sm Z G emI (true, 2, 7, 0, 0) (0, 0) 139 [(0, k_ra Z 76)] [] M (f_X12_plain_139 M) := by
  show Sm Z G emI _ _ _ _ _ _ (f_X12_plain_141 k_fu 0 M (fun M_ => f_X12_plain_165 M_))
  refine x_iconst C (v := 0) (k_dg dt_X12_plain_1 31 139 (.iconst 0) 1 rfl) (by decide) ?_
  refine x_istore_n C (lv' := [(1, Value.int 0), (0, k_ra Z 76)]) (k_dg dt_X12_plain_1 32 140 (.istore_n 1) 1 rfl) (by decide) rfl ?_
  refine x_lv [1, 0] rfl ?_
  exact m_X12_plain_141 C (fun M_ => f_X12_plain_165 M_) (fun M_ => m_X12_plain_165 C M_) k_fu 0 M
def f_X12_plain_77 (M : k_M) : Option (Int32 × k_M) := bN (sI M 76 12 0) (fun M1 => if (M1.1 76 18) = 0 then some ((-100) - (M1.1 76 14), M1) else bN (sI M1 76 0 (M1.1 76 19)) (fun M2 => bN (sI M2 76 2 (M2.1 76 20)) (fun M3 => f_X12_plain_115 k_fu 0 M3 (fun M_ => f_X12_plain_139 M_))))
theorem m_X12_plain_77 {Z : k_Z} {G : k_G} (C : k_C Z G RX12 cX12_plain (true, 2, 7, 0, 0) (some .int) "plain") (M : k_M) : Sm Z G emI (true, 2, 7, 0, 0) (0, 0) 77 [(0, k_ra Z 76)] [] M (f_X12_plain_77 M) := by
  show Sm Z G emI _ _ _ _ _ _ (bN (sI M 76 12 0) (fun M1 => if (M1.1 76 18) = 0 then some ((-100) - (M1.1 76 14), M1) else bN (sI M1 76 0 (M1.1 76 19)) (fun M2 => bN (sI M2 76 2 (M2.1 76 20)) (fun M3 => f_X12_plain_115 k_fu 0 M3 (fun M_ => f_X12_plain_139 M_)))))
  refine x_aload_n C (k_dg dt_X12_plain_0 37 77 (.aload_n 0) 1 rfl) 0 rfl ?_
  refine x_iconst C (v := 0) (k_dg dt_X12_plain_0 38 78 (.iconst 0) 1 rfl) (by decide) ?_
  refine x_putI C (a := 76) (j := 12) rfl rfl (by decide) fl_RX12_110 rfl pt_10_12 tb_10 rfl rfl (k_dg dt_X12_plain_0 39 79 (.putfield 110) 3 rfl) (fun M1 => ?_)
  refine x_aload_n C (k_dg dt_X12_plain_1 0 82 (.aload_n 0) 1 rfl) 0 rfl ?_
  refine x_getI C (a := 76) (j := 18) rfl rfl (by decide) fl_RX12_164 rfl (k_dg dt_X12_plain_1 1 83 (.getfield 164) 3 rfl) ?_
  refine x_if_ne C (tgt := 97) (k_dg dt_X12_plain_1 2 86 (.ifCond .ne 11) 3 rfl) (by decide) (fun _ => ?_) (fun _ => ?_)
  · refine x_bipush C (v := -100) (k_dg dt_X12_plain_1 3 89 (.bipush (-100)) 2 rfl) (by decide) ?_
    refine x_aload_n C (k_dg dt_X12_plain_1 4 91 (.aload_n 0) 1 rfl) 0 rfl ?_
    refine x_getI C (a := 76) (j := 14) rfl rfl (by decide) fl_RX12_118 rfl (k_dg dt_X12_plain_1 5 92 (.getfield 118) 3 rfl) ?_
    refine x_isub C (k_dg dt_X12_plain_1 6 95 (.isub) 1 rfl) ?_
    exact x_iret C (by decide) (by decide) (k_dg dt_X12_plain_1 7 96 (.ireturn) 1 rfl)
  · refine x_aload_n C (k_dg dt_X12_plain_1 8 97 (.aload_n 0) 1 rfl) 0 rfl ?_
    refine x_aload_n C (k_dg dt_X12_plain_1 9 98 (.aload_n 0) 1 rfl) 0 rfl ?_
    refine x_getI C (a := 76) (j := 19) rfl rfl (by decide) fl_RX12_175 rfl (k_dg dt_X12_plain_1 10 99 (.getfield 175) 3 rfl) ?_
    refine x_putI C (a := 76) (j := 0) rfl rfl (by decide) fl_RX12_95 rfl pt_10_0 tb_10 rfl rfl (k_dg dt_X12_plain_1 11 102 (.putfield 95) 3 rfl) (fun M2 => ?_)
    refine x_aload_n C (k_dg dt_X12_plain_1 12 105 (.aload_n 0) 1 rfl) 0 rfl ?_
    refine x_aload_n C (k_dg dt_X12_plain_1 13 106 (.aload_n 0) 1 rfl) 0 rfl ?_
    refine x_getI C (a := 76) (j := 20) rfl rfl (by decide) fl_RX12_187 rfl (k_dg dt_X12_plain_1 14 107 (.getfield 187) 3 rfl) ?_
    refine x_putI C (a := 76) (j := 2) rfl rfl (by decide) fl_RX12_103 rfl pt_10_2 tb_10 rfl rfl (k_dg dt_X12_plain_1 15 110 (.putfield 103) 3 rfl) (fun M3 => ?_)
    refine x_iconst C (v := 0) (k_dg dt_X12_plain_1 16 113 (.iconst 0) 1 rfl) (by decide) ?_
    refine x_istore_n C (lv' := [(1, Value.int 0), (0, k_ra Z 76)]) (k_dg dt_X12_plain_1 17 114 (.istore_n 1) 1 rfl) (by decide) rfl ?_
    refine x_lv [1, 0] rfl ?_
    exact m_X12_plain_115 C (fun M_ => f_X12_plain_139 M_) (fun M_ => m_X12_plain_139 C M_) k_fu 0 M3
def f_X12_plain (M : k_M) : Option (Int32 × k_M) := bN (sI M 76 15 0) (fun M1 => bN (sI M1 76 18 1) (fun M2 => bN (sI M2 76 19 0) (fun M3 => bN (sI M3 76 20 0) (fun M4 => bd (f_X12_advance M4) (fun r5 M6 => f_X12_plain_24 k_fu M6 (fun M_ => f_X12_plain_77 M_))))))
theorem m_X12_plain_0 {Z : k_Z} {G : k_G} (C : k_C Z G RX12 cX12_plain (true, 2, 7, 0, 0) (some .int) "plain") (M : k_M) : Sm Z G emI (true, 2, 7, 0, 0) (0, 0) 0 [(0, k_ra Z 76)] [] M (f_X12_plain M) := by
  show Sm Z G emI _ _ _ _ _ _ (bN (sI M 76 15 0) (fun M1 => bN (sI M1 76 18 1) (fun M2 => bN (sI M2 76 19 0) (fun M3 => bN (sI M3 76 20 0) (fun M4 => bd (f_X12_advance M4) (fun r5 M6 => f_X12_plain_24 k_fu M6 (fun M_ => f_X12_plain_77 M_)))))))
  refine x_aload_n C (k_dg dt_X12_plain_0 0 0 (.aload_n 0) 1 rfl) 0 rfl ?_
  refine x_iconst C (v := 0) (k_dg dt_X12_plain_0 1 1 (.iconst 0) 1 rfl) (by decide) ?_
  refine x_putI C (a := 76) (j := 15) rfl rfl (by decide) fl_RX12_115 rfl pt_10_15 tb_10 rfl rfl (k_dg dt_X12_plain_0 2 2 (.putfield 115) 3 rfl) (fun M1 => ?_)
  refine x_aload_n C (k_dg dt_X12_plain_0 3 5 (.aload_n 0) 1 rfl) 0 rfl ?_
  refine x_iconst C (v := 1) (k_dg dt_X12_plain_0 4 6 (.iconst 1) 1 rfl) (by decide) ?_
  refine x_putI C (a := 76) (j := 18) rfl rfl (by decide) fl_RX12_164 rfl pt_10_18 tb_10 rfl rfl (k_dg dt_X12_plain_0 5 7 (.putfield 164) 3 rfl) (fun M2 => ?_)
  refine x_aload_n C (k_dg dt_X12_plain_0 6 10 (.aload_n 0) 1 rfl) 0 rfl ?_
  refine x_iconst C (v := 0) (k_dg dt_X12_plain_0 7 11 (.iconst 0) 1 rfl) (by decide) ?_
  refine x_putI C (a := 76) (j := 19) rfl rfl (by decide) fl_RX12_175 rfl pt_10_19 tb_10 rfl rfl (k_dg dt_X12_plain_0 8 12 (.putfield 175) 3 rfl) (fun M3 => ?_)
  refine x_aload_n C (k_dg dt_X12_plain_0 9 15 (.aload_n 0) 1 rfl) 0 rfl ?_
  refine x_iconst C (v := 0) (k_dg dt_X12_plain_0 10 16 (.iconst 0) 1 rfl) (by decide) ?_
  refine x_putI C (a := 76) (j := 20) rfl rfl (by decide) fl_RX12_187 rfl pt_10_20 tb_10 rfl rfl (k_dg dt_X12_plain_0 11 17 (.putfield 187) 3 rfl) (fun M4 => ?_)
  refine x_aload_n C (k_dg dt_X12_plain_0 12 20 (.aload_n 0) 1 rfl) 0 rfl ?_
  refine x_callV C (a := 76) (kd := 10) (vs := []) (rest := []) rfl rfl (by decide) (fun r hr => by cases hr; rfl) (c_X12_advance C.2.2.2.2.2.2.2.2.2 G.2.1 M4) cy_X12_advance lk_RX12_168 im_X12_advance se_X12_advance (by decide) (by decide) (by decide) (by decide) rfl rfl (Nat.le_of_ble_eq_true rfl) (k_dg dt_X12_plain_0 13 21 (.invokevirtual 168) 3 rfl) (fun r5 M6 => ?_)
  show Sm Z G _ _ _ _ [(0, k_ra Z 76)] [] _ _
  exact m_X12_plain_24 C (fun M_ => f_X12_plain_77 M_) (fun M_ => m_X12_plain_77 C M_) k_fu M6
theorem c_X12_plain {Z : k_Z} (hg : k_Gd Z) (l : Launch) (M : k_M) : Con true Z l yX12_plain cX12_plain 2 (some .int) 7 0 0 emI [k_ra Z 76] M (f_X12_plain M) := k_con hg (by decide) (Nat.le_of_ble_eq_true rfl) (fun G hl C => m_X12_plain_0 C M)
theorem dt_X12_place_0 : k_dec cX12_place [(0, .iload_n 1, 1), (1, .iconst 0, 1), (2, .iconst 5, 1), (3, .invokestatic 99, 3), (6, .ifCond .eq 30, 3), (9, .iload_n 2, 1), (10, .iconst 0, 1), (11, .bipush 9, 2), (13, .invokestatic 99, 3), (16, .ifCond .eq 20, 3), (19, .iload_n 1, 1), (20, .invokestatic 181, 3), (23, .ifCond .ne 15, 3), (26, .iload_n 3, 1), (27, .iconst 0, 1), (28, .bipush 99, 2), (30, .invokestatic 99, 3), (33, .ifCond .ne 5, 3), (36, .iconst (-1), 1), (37, .ireturn, 1), (38, .aload_n 0, 1), (39, .getfield 95, 3), (42, .bipush 8, 2), (44, .if_icmp .ne 6, 3), (47, .bipush (-2), 2), (49, .ireturn, 1), (50, .aload_n 0, 1), (51, .getfield 7, 3), (54, .iconst 3, 1), (55, .aload_n 0, 1), (56, .getfield 95, 3), (59, .imul, 1), (60, .iload_n 1, 1), (61, .iastore, 1), (62, .aload_n 0, 1), (63, .getfield 7, 3), (66, .iconst 3, 1), (67, .aload_n 0, 1), (68, .getfield 95, 3), (71, .imul, 1)] = true := by decide +kernel
theorem dt_X12_place_1 : k_dec cX12_place [(72, .iconst 1, 1), (73, .iadd, 1), (74, .iload_n 2, 1), (75, .iastore, 1), (76, .aload_n 0, 1), (77, .getfield 7, 3), (80, .iconst 3, 1), (81, .aload_n 0, 1), (82, .getfield 95, 3), (85, .imul, 1), (86, .iconst 2, 1), (87, .iadd, 1), (88, .iload_n 1, 1), (89, .invokestatic 181, 3), (92, .ifCond .eq 8, 3), (95, .bipush 99, 2), (97, .goto 4, 3), (100, .iload_n 3, 1), (101, .iastore, 1), (102, .aload_n 0, 1), (103, .getfield 25, 3), (106, .iconst 5, 1), (107, .aload_n 0, 1), (108, .getfield 95, 3), (111, .iadd, 1), (112, .aload_n 0, 1), (113, .aload_n 0, 1), (114, .getfield 95, 3), (117, .iconst 2, 1), (118, .invokevirtual 214, 3), (121, .iastore, 1), (122, .aload_n 0, 1), (123, .dup, 1), (124, .getfield 95, 3), (127, .iconst 1, 1), (128, .iadd, 1), (129, .putfield 95, 3), (132, .aload_n 0, 1), (133, .getfield 95, 3), (136, .iconst 1, 1)] = true := by decide +kernel
theorem dt_X12_place_2 : k_dec cX12_place [(137, .isub, 1), (138, .ireturn, 1)] = true := by decide +kernel
def f_X12_place_101 (t1 : Int32) (t2 : Int32) (M : k_M) : Option (Int32 × k_M) := wrI M 77 24 t1 t2 (fun M1 => bd (f_X12_its (M1.1 76 0) 2 M1) (fun r2 M3 => wrI M3 82 1100 (5 + (M1.1 76 0)) r2 (fun M4 => bN (sI M4 76 0 ((M4.1 76 0) + 1)) (fun M5 => some ((M5.1 76 0) - 1, M5)))))
theorem m_X12_place_101 {Z : k_Z} {G : k_G} (C : k_C Z G RX12 cX12_place (true, 4, 2, 0, 0) (some .int) "place") (t1 : Int32) (t2 : Int32) (M : k_M) : Sm Z G emI (true, 4, 2, 0, 0) (0, 0) 101 [(0, k_ra Z 76)] [Value.int t2, Value.int t1, k_ra Z 77] M (f_X12_place_101 t1 t2 M) := by
  show Sm Z G emI _ _ _ _ _ _ (wrI M 77 24 t1 t2 (fun M1 => bd (f_X12_its (M1.1 76 0) 2 M1) (fun r2 M3 => wrI M3 82 1100 (5 + (M1.1 76 0)) r2 (fun M4 => bN (sI M4 76 0 ((M4.1 76 0) + 1)) (fun M5 => some ((M5.1 76 0) - 1, M5))))))
  refine x_iast C (a := 77) (n := 24) rfl rfl (k_dg dt_X12_place_1 18 101 (.iastore) 1 rfl) (fun M1 => ?_)
  refine x_aload_n C (k_dg dt_X12_place_1 19 102 (.aload_n 0) 1 rfl) 0 rfl ?_
  refine x_getR C (a := 76) (j := 10) 82 rfl rfl (by decide) fl_RX12_25 rfl rfl rfl (k_dg dt_X12_place_1 20 103 (.getfield 25) 3 rfl) ?_
  refine x_iconst C (v := 5) (k_dg dt_X12_place_1 21 106 (.iconst 5) 1 rfl) (by decide) ?_
  refine x_aload_n C (k_dg dt_X12_place_1 22 107 (.aload_n 0) 1 rfl) 0 rfl ?_
  refine x_getI C (a := 76) (j := 0) rfl rfl (by decide) fl_RX12_95 rfl (k_dg dt_X12_place_1 23 108 (.getfield 95) 3 rfl) ?_
  refine x_iadd C (k_dg dt_X12_place_1 24 111 (.iadd) 1 rfl) ?_
  refine x_aload_n C (k_dg dt_X12_place_1 25 112 (.aload_n 0) 1 rfl) 0 rfl ?_
  refine x_aload_n C (k_dg dt_X12_place_1 26 113 (.aload_n 0) 1 rfl) 0 rfl ?_
  refine x_getI C (a := 76) (j := 0) rfl rfl (by decide) fl_RX12_95 rfl (k_dg dt_X12_place_1 27 114 (.getfield 95) 3 rfl) ?_
  refine x_iconst C (v := 2) (k_dg dt_X12_place_1 28 117 (.iconst 2) 1 rfl) (by decide) ?_
  refine x_callV C (a := 76) (kd := 10) (vs := [Value.int (M1.1 76 0), Value.int 2]) (rest := [Value.int (5 + (M1.1 76 0)), k_ra Z 82]) rfl rfl (by decide) (fun r hr => by cases hr; rfl) (c_X12_its C.2.2.2.2.2.2.2.2.2 G.2.1 (M1.1 76 0) 2 M1) cy_X12_its lk_RX12_214 im_X12_its se_X12_its (by decide) (by decide) (by decide) (by decide) rfl rfl (Nat.le_of_ble_eq_true rfl) (k_dg dt_X12_place_1 29 118 (.invokevirtual 214) 3 rfl) (fun r2 M3 => ?_)
  show Sm Z G _ _ _ _ [(0, k_ra Z 76)] [Value.int r2, Value.int (5 + (M1.1 76 0)), k_ra Z 82] _ _
  refine x_iast C (a := 82) (n := 1100) rfl rfl (k_dg dt_X12_place_1 30 121 (.iastore) 1 rfl) (fun M4 => ?_)
  refine x_aload_n C (k_dg dt_X12_place_1 31 122 (.aload_n 0) 1 rfl) 0 rfl ?_
  refine x_dup C (k_dg dt_X12_place_1 32 123 (.dup) 1 rfl) rfl ?_
  refine x_getI C (a := 76) (j := 0) rfl rfl (by decide) fl_RX12_95 rfl (k_dg dt_X12_place_1 33 124 (.getfield 95) 3 rfl) ?_
  refine x_iconst C (v := 1) (k_dg dt_X12_place_1 34 127 (.iconst 1) 1 rfl) (by decide) ?_
  refine x_iadd C (k_dg dt_X12_place_1 35 128 (.iadd) 1 rfl) ?_
  refine x_putI C (a := 76) (j := 0) rfl rfl (by decide) fl_RX12_95 rfl pt_10_0 tb_10 rfl rfl (k_dg dt_X12_place_1 36 129 (.putfield 95) 3 rfl) (fun M5 => ?_)
  refine x_aload_n C (k_dg dt_X12_place_1 37 132 (.aload_n 0) 1 rfl) 0 rfl ?_
  refine x_getI C (a := 76) (j := 0) rfl rfl (by decide) fl_RX12_95 rfl (k_dg dt_X12_place_1 38 133 (.getfield 95) 3 rfl) ?_
  refine x_iconst C (v := 1) (k_dg dt_X12_place_1 39 136 (.iconst 1) 1 rfl) (by decide) ?_
  refine x_isub C (k_dg dt_X12_place_2 0 137 (.isub) 1 rfl) ?_
  exact x_iret C (by decide) (by decide) (k_dg dt_X12_place_2 1 138 (.ireturn) 1 rfl)
def f_X12_place_38 (l1 : Int32) (l2 : Int32) (l3 : Int32) (M : k_M) : Option (Int32 × k_M) := if (M.1 76 0) = 8 then some (-2, M) else wrI M 77 24 (3 * (M.1 76 0)) l1 (fun M1 => wrI M1 77 24 ((3 * (M1.1 76 0)) + 1) l2 (fun M2 => bd (f_X12_isEndless l1 M2) (fun r3 M4 => if r3 = 0 then f_X12_place_101 ((3 * (M2.1 76 0)) + 2) l3 M4 else f_X12_place_101 ((3 * (M2.1 76 0)) + 2) 99 M4)))
theorem m_X12_place_38 {Z : k_Z} {G : k_G} (C : k_C Z G RX12 cX12_place (true, 4, 2, 0, 0) (some .int) "place") (l1 : Int32) (l2 : Int32) (l3 : Int32) (M : k_M) : Sm Z G emI (true, 4, 2, 0, 0) (0, 0) 38 [(0, k_ra Z 76), (1, Value.int l1), (2, Value.int l2), (3, Value.int l3)] [] M (f_X12_place_38 l1 l2 l3 M) := by
  show Sm Z G emI _ _ _ _ _ _ (if (M.1 76 0) = 8 then some (-2, M) else wrI M 77 24 (3 * (M.1 76 0)) l1 (fun M1 => wrI M1 77 24 ((3 * (M1.1 76 0)) + 1) l2 (fun M2 => bd (f_X12_isEndless l1 M2) (fun r3 M4 => if r3 = 0 then f_X12_place_101 ((3 * (M2.1 76 0)) + 2) l3 M4 else f_X12_place_101 ((3 * (M2.1 76 0)) + 2) 99 M4))))
  refine x_aload_n C (k_dg dt_X12_place_0 20 38 (.aload_n 0) 1 rfl) 0 rfl ?_
  refine x_getI C (a := 76) (j := 0) rfl rfl (by decide) fl_RX12_95 rfl (k_dg dt_X12_place_0 21 39 (.getfield 95) 3 rfl) ?_
  refine x_bipush C (v := 8) (k_dg dt_X12_place_0 22 42 (.bipush 8) 2 rfl) (by decide) ?_
  refine x_icmp_ne C (tgt := 50) (k_dg dt_X12_place_0 23 44 (.if_icmp .ne 6) 3 rfl) (by decide) (fun _ => ?_) (fun _ => ?_)
  · refine x_bipush C (v := -2) (k_dg dt_X12_place_0 24 47 (.bipush (-2)) 2 rfl) (by decide) ?_
    exact x_iret C (by decide) (by decide) (k_dg dt_X12_place_0 25 49 (.ireturn) 1 rfl)
  · refine x_aload_n C (k_dg dt_X12_place_0 26 50 (.aload_n 0) 1 rfl) 0 rfl ?_
    refine x_getR C (a := 76) (j := 1) 77 rfl rfl (by decide) fl_RX12_7 rfl rfl rfl (k_dg dt_X12_place_0 27 51 (.getfield 7) 3 rfl) ?_
    refine x_iconst C (v := 3) (k_dg dt_X12_place_0 28 54 (.iconst 3) 1 rfl) (by decide) ?_
    refine x_aload_n C (k_dg dt_X12_place_0 29 55 (.aload_n 0) 1 rfl) 0 rfl ?_
    refine x_getI C (a := 76) (j := 0) rfl rfl (by decide) fl_RX12_95 rfl (k_dg dt_X12_place_0 30 56 (.getfield 95) 3 rfl) ?_
    refine x_imul C (k_dg dt_X12_place_0 31 59 (.imul) 1 rfl) ?_
    refine x_iload_n C (k_dg dt_X12_place_0 32 60 (.iload_n 1) 1 rfl) 1 rfl ?_
    refine x_iast C (a := 77) (n := 24) rfl rfl (k_dg dt_X12_place_0 33 61 (.iastore) 1 rfl) (fun M1 => ?_)
    refine x_aload_n C (k_dg dt_X12_place_0 34 62 (.aload_n 0) 1 rfl) 0 rfl ?_
    refine x_getR C (a := 76) (j := 1) 77 rfl rfl (by decide) fl_RX12_7 rfl rfl rfl (k_dg dt_X12_place_0 35 63 (.getfield 7) 3 rfl) ?_
    refine x_iconst C (v := 3) (k_dg dt_X12_place_0 36 66 (.iconst 3) 1 rfl) (by decide) ?_
    refine x_aload_n C (k_dg dt_X12_place_0 37 67 (.aload_n 0) 1 rfl) 0 rfl ?_
    refine x_getI C (a := 76) (j := 0) rfl rfl (by decide) fl_RX12_95 rfl (k_dg dt_X12_place_0 38 68 (.getfield 95) 3 rfl) ?_
    refine x_imul C (k_dg dt_X12_place_0 39 71 (.imul) 1 rfl) ?_
    refine x_iconst C (v := 1) (k_dg dt_X12_place_1 0 72 (.iconst 1) 1 rfl) (by decide) ?_
    refine x_iadd C (k_dg dt_X12_place_1 1 73 (.iadd) 1 rfl) ?_
    refine x_iload_n C (k_dg dt_X12_place_1 2 74 (.iload_n 2) 1 rfl) 2 rfl ?_
    refine x_iast C (a := 77) (n := 24) rfl rfl (k_dg dt_X12_place_1 3 75 (.iastore) 1 rfl) (fun M2 => ?_)
    refine x_aload_n C (k_dg dt_X12_place_1 4 76 (.aload_n 0) 1 rfl) 0 rfl ?_
    refine x_getR C (a := 76) (j := 1) 77 rfl rfl (by decide) fl_RX12_7 rfl rfl rfl (k_dg dt_X12_place_1 5 77 (.getfield 7) 3 rfl) ?_
    refine x_iconst C (v := 3) (k_dg dt_X12_place_1 6 80 (.iconst 3) 1 rfl) (by decide) ?_
    refine x_aload_n C (k_dg dt_X12_place_1 7 81 (.aload_n 0) 1 rfl) 0 rfl ?_
    refine x_getI C (a := 76) (j := 0) rfl rfl (by decide) fl_RX12_95 rfl (k_dg dt_X12_place_1 8 82 (.getfield 95) 3 rfl) ?_
    refine x_imul C (k_dg dt_X12_place_1 9 85 (.imul) 1 rfl) ?_
    refine x_iconst C (v := 2) (k_dg dt_X12_place_1 10 86 (.iconst 2) 1 rfl) (by decide) ?_
    refine x_iadd C (k_dg dt_X12_place_1 11 87 (.iadd) 1 rfl) ?_
    refine x_iload_n C (k_dg dt_X12_place_1 12 88 (.iload_n 1) 1 rfl) 1 rfl ?_
    refine x_callS C (vs := [Value.int l1]) (rest := [Value.int ((3 * (M2.1 76 0)) + 2), k_ra Z 77]) (c_X12_isEndless C.2.2.2.2.2.2.2.2.2 G.2.1 l1 M2) cy_X12_isEndless lk_RX12_181 stt_X12_isEndless (by decide) (by decide) (by decide) (by decide) rfl rfl (Nat.le_of_ble_eq_true rfl) (k_dg dt_X12_place_1 13 89 (.invokestatic 181) 3 rfl) (fun r3 M4 => ?_)
    show Sm Z G _ _ _ _ [(0, k_ra Z 76), (1, Value.int l1), (2, Value.int l2), (3, Value.int l3)] [Value.int r3, Value.int ((3 * (M2.1 76 0)) + 2), k_ra Z 77] _ _
    refine x_if_eq C (tgt := 100) (k_dg dt_X12_place_1 14 92 (.ifCond .eq 8) 3 rfl) (by decide) (fun _ => ?_) (fun _ => ?_)
    · refine x_iload_n C (k_dg dt_X12_place_1 17 100 (.iload_n 3) 1 rfl) 3 rfl ?_
      refine x_lv [0] rfl ?_
      exact m_X12_place_101 C ((3 * (M2.1 76 0)) + 2) l3 M4
    · refine x_bipush C (v := 99) (k_dg dt_X12_place_1 15 95 (.bipush 99) 2 rfl) (by decide) ?_
      refine x_goto C (tgt := 101) (k_dg dt_X12_place_1 16 97 (.goto 4) 3 rfl) (by decide) ?_
      refine x_lv [0] rfl ?_
      exact m_X12_place_101 C ((3 * (M2.1 76 0)) + 2) 99 M4
def f_X12_place (p1 : Int32) (p2 : Int32) (p3 : Int32) (M : k_M) : Option (Int32 × k_M) := bd (f_X12_in p1 0 5 M) (fun r1 M2 => if r1 = 0 then some (-1, M2) else bd (f_X12_in p2 0 9 M2) (fun r3 M4 => if r3 = 0 then some (-1, M4) else bd (f_X12_isEndless p1 M4) (fun r5 M6 => if r5 = 0 then bd (f_X12_in p3 0 99 M6) (fun r7 M8 => if r7 = 0 then some (-1, M8) else f_X12_place_38 p1 p2 p3 M8) else f_X12_place_38 p1 p2 p3 M6)))
theorem m_X12_place_0 {Z : k_Z} {G : k_G} (C : k_C Z G RX12 cX12_place (true, 4, 2, 0, 0) (some .int) "place") (p1 : Int32) (p2 : Int32) (p3 : Int32) (M : k_M) : Sm Z G emI (true, 4, 2, 0, 0) (0, 0) 0 [(0, k_ra Z 76), (1, Value.int p1), (2, Value.int p2), (3, Value.int p3)] [] M (f_X12_place p1 p2 p3 M) := by
  show Sm Z G emI _ _ _ _ _ _ (bd (f_X12_in p1 0 5 M) (fun r1 M2 => if r1 = 0 then some (-1, M2) else bd (f_X12_in p2 0 9 M2) (fun r3 M4 => if r3 = 0 then some (-1, M4) else bd (f_X12_isEndless p1 M4) (fun r5 M6 => if r5 = 0 then bd (f_X12_in p3 0 99 M6) (fun r7 M8 => if r7 = 0 then some (-1, M8) else f_X12_place_38 p1 p2 p3 M8) else f_X12_place_38 p1 p2 p3 M6))))
  refine x_iload_n C (k_dg dt_X12_place_0 0 0 (.iload_n 1) 1 rfl) 1 rfl ?_
  refine x_iconst C (v := 0) (k_dg dt_X12_place_0 1 1 (.iconst 0) 1 rfl) (by decide) ?_
  refine x_iconst C (v := 5) (k_dg dt_X12_place_0 2 2 (.iconst 5) 1 rfl) (by decide) ?_
  refine x_callS C (vs := [Value.int p1, Value.int 0, Value.int 5]) (rest := []) (c_X12_in C.2.2.2.2.2.2.2.2.2 G.2.1 p1 0 5 M) cy_X12_in lk_RX12_99 stt_X12_in (by decide) (by decide) (by decide) (by decide) rfl rfl (Nat.le_of_ble_eq_true rfl) (k_dg dt_X12_place_0 3 3 (.invokestatic 99) 3 rfl) (fun r1 M2 => ?_)
  show Sm Z G _ _ _ _ [(0, k_ra Z 76), (1, Value.int p1), (2, Value.int p2), (3, Value.int p3)] [Value.int r1] _ _
  refine x_if_eq C (tgt := 36) (k_dg dt_X12_place_0 4 6 (.ifCond .eq 30) 3 rfl) (by decide) (fun _ => ?_) (fun _ => ?_)
  · refine x_iconst C (v := -1) (k_dg dt_X12_place_0 18 36 (.iconst (-1)) 1 rfl) (by decide) ?_
    exact x_iret C (by decide) (by decide) (k_dg dt_X12_place_0 19 37 (.ireturn) 1 rfl)
  · refine x_iload_n C (k_dg dt_X12_place_0 5 9 (.iload_n 2) 1 rfl) 2 rfl ?_
    refine x_iconst C (v := 0) (k_dg dt_X12_place_0 6 10 (.iconst 0) 1 rfl) (by decide) ?_
    refine x_bipush C (v := 9) (k_dg dt_X12_place_0 7 11 (.bipush 9) 2 rfl) (by decide) ?_
    refine x_callS C (vs := [Value.int p2, Value.int 0, Value.int 9]) (rest := []) (c_X12_in C.2.2.2.2.2.2.2.2.2 G.2.1 p2 0 9 M2) cy_X12_in lk_RX12_99 stt_X12_in (by decide) (by decide) (by decide) (by decide) rfl rfl (Nat.le_of_ble_eq_true rfl) (k_dg dt_X12_place_0 8 13 (.invokestatic 99) 3 rfl) (fun r3 M4 => ?_)
    show Sm Z G _ _ _ _ [(0, k_ra Z 76), (1, Value.int p1), (2, Value.int p2), (3, Value.int p3)] [Value.int r3] _ _
    refine x_if_eq C (tgt := 36) (k_dg dt_X12_place_0 9 16 (.ifCond .eq 20) 3 rfl) (by decide) (fun _ => ?_) (fun _ => ?_)
    · refine x_iconst C (v := -1) (k_dg dt_X12_place_0 18 36 (.iconst (-1)) 1 rfl) (by decide) ?_
      exact x_iret C (by decide) (by decide) (k_dg dt_X12_place_0 19 37 (.ireturn) 1 rfl)
    · refine x_iload_n C (k_dg dt_X12_place_0 10 19 (.iload_n 1) 1 rfl) 1 rfl ?_
      refine x_callS C (vs := [Value.int p1]) (rest := []) (c_X12_isEndless C.2.2.2.2.2.2.2.2.2 G.2.1 p1 M4) cy_X12_isEndless lk_RX12_181 stt_X12_isEndless (by decide) (by decide) (by decide) (by decide) rfl rfl (Nat.le_of_ble_eq_true rfl) (k_dg dt_X12_place_0 11 20 (.invokestatic 181) 3 rfl) (fun r5 M6 => ?_)
      show Sm Z G _ _ _ _ [(0, k_ra Z 76), (1, Value.int p1), (2, Value.int p2), (3, Value.int p3)] [Value.int r5] _ _
      refine x_if_ne C (tgt := 38) (k_dg dt_X12_place_0 12 23 (.ifCond .ne 15) 3 rfl) (by decide) (fun _ => ?_) (fun _ => ?_)
      · refine x_iload_n C (k_dg dt_X12_place_0 13 26 (.iload_n 3) 1 rfl) 3 rfl ?_
        refine x_iconst C (v := 0) (k_dg dt_X12_place_0 14 27 (.iconst 0) 1 rfl) (by decide) ?_
        refine x_bipush C (v := 99) (k_dg dt_X12_place_0 15 28 (.bipush 99) 2 rfl) (by decide) ?_
        refine x_callS C (vs := [Value.int p3, Value.int 0, Value.int 99]) (rest := []) (c_X12_in C.2.2.2.2.2.2.2.2.2 G.2.1 p3 0 99 M6) cy_X12_in lk_RX12_99 stt_X12_in (by decide) (by decide) (by decide) (by decide) rfl rfl (Nat.le_of_ble_eq_true rfl) (k_dg dt_X12_place_0 16 30 (.invokestatic 99) 3 rfl) (fun r7 M8 => ?_)
        show Sm Z G _ _ _ _ [(0, k_ra Z 76), (1, Value.int p1), (2, Value.int p2), (3, Value.int p3)] [Value.int r7] _ _
        refine x_if_ne C (tgt := 38) (k_dg dt_X12_place_0 17 33 (.ifCond .ne 5) 3 rfl) (by decide) (fun _ => ?_) (fun _ => ?_)
        · refine x_iconst C (v := -1) (k_dg dt_X12_place_0 18 36 (.iconst (-1)) 1 rfl) (by decide) ?_
          exact x_iret C (by decide) (by decide) (k_dg dt_X12_place_0 19 37 (.ireturn) 1 rfl)
        · exact m_X12_place_38 C p1 p2 p3 M8
      · exact m_X12_place_38 C p1 p2 p3 M6
theorem c_X12_place {Z : k_Z} (hg : k_Gd Z) (l : Launch) (p1 : Int32) (p2 : Int32) (p3 : Int32) (M : k_M) : Con true Z l yX12_place cX12_place 4 (some .int) 2 0 0 emI [k_ra Z 76, Value.int p1, Value.int p2, Value.int p3] M (f_X12_place p1 p2 p3 M) := k_con hg (by decide) (Nat.le_of_ble_eq_true rfl) (fun G hl C => m_X12_place_0 C p1 p2 p3 M)
theorem dt_X12_way_0 : k_dec cX12_way [(0, .aload_n 0, 1), (1, .iload_n 1, 1), (2, .invokevirtual 217, 3), (5, .ifCond .eq 48, 3), (8, .aload_n 0, 1), (9, .iload_n 2, 1), (10, .invokevirtual 217, 3), (13, .ifCond .eq 40, 3), (16, .iload_n 1, 1), (17, .iload_n 2, 1), (18, .if_icmp .eq 35, 3), (21, .iload_n 3, 1), (22, .iconst 1, 1), (23, .iconst 4, 1), (24, .invokestatic 99, 3), (27, .ifCond .eq 26, 3), (30, .iload 4, 2), (32, .iconst 0, 1), (33, .bipush 9, 2), (35, .invokestatic 99, 3), (38, .ifCond .eq 15, 3), (41, .iload 5, 2), (43, .iconst 0, 1), (44, .sipush 4095, 3), (47, .invokestatic 99, 3), (50, .ifCond .ne 5, 3), (53, .iconst (-1), 1), (54, .ireturn, 1), (55, .aload_n 0, 1), (56, .getfield 103, 3), (59, .bipush 12, 2), (61, .if_icmp .eq 21, 3), (64, .aload_n 0, 1), (65, .iload_n 1, 1), (66, .invokevirtual 220, 3), (69, .iconst 4, 1), (70, .if_icmp .eq 12, 3), (73, .aload_n 0, 1), (74, .iload_n 2, 1), (75, .invokevirtual 220, 3)] = true := by decide +kernel
theorem dt_X12_way_1 : k_dec cX12_way [(78, .iconst 4, 1), (79, .if_icmp .ne 6, 3), (82, .bipush (-2), 2), (84, .ireturn, 1), (85, .iconst 5, 1), (86, .aload_n 0, 1), (87, .getfield 103, 3), (90, .imul, 1), (91, .istore 6, 2), (93, .aload_n 0, 1), (94, .getfield 13, 3), (97, .iload 6, 2), (99, .iload_n 1, 1), (100, .iload_n 2, 1), (101, .if_icmp .ge 7, 3), (104, .iload_n 1, 1), (105, .goto 4, 3), (108, .iload_n 2, 1), (109, .iastore, 1), (110, .aload_n 0, 1), (111, .getfield 13, 3), (114, .iload 6, 2), (116, .iconst 1, 1), (117, .iadd, 1), (118, .iload_n 1, 1), (119, .iload_n 2, 1), (120, .if_icmp .ge 7, 3), (123, .iload_n 2, 1), (124, .goto 4, 3), (127, .iload_n 1, 1), (128, .iastore, 1), (129, .aload_n 0, 1), (130, .getfield 13, 3), (133, .iload 6, 2), (135, .iconst 2, 1), (136, .iadd, 1), (137, .iload_n 3, 1), (138, .iastore, 1), (139, .aload_n 0, 1), (140, .getfield 13, 3)] = true := by decide +kernel
theorem dt_X12_way_2 : k_dec cX12_way [(143, .iload 6, 2), (145, .iconst 3, 1), (146, .iadd, 1), (147, .iload 4, 2), (149, .iastore, 1), (150, .aload_n 0, 1), (151, .getfield 13, 3), (154, .iload 6, 2), (156, .iconst 4, 1), (157, .iadd, 1), (158, .iload 5, 2), (160, .ifCond .ne 9, 3), (163, .sipush 4095, 3), (166, .goto 5, 3), (169, .iload 5, 2), (171, .iastore, 1), (172, .aload_n 0, 1), (173, .getfield 25, 3), (176, .bipush 13, 2), (178, .aload_n 0, 1), (179, .getfield 103, 3), (182, .iadd, 1), (183, .iload 4, 2), (185, .iastore, 1), (186, .aload_n 0, 1), (187, .dup, 1), (188, .getfield 103, 3), (191, .iconst 1, 1), (192, .iadd, 1), (193, .putfield 103, 3), (196, .aload_n 0, 1), (197, .getfield 103, 3), (200, .iconst 1, 1), (201, .isub, 1), (202, .ireturn, 1)] = true := by decide +kernel
def f_X12_way_82 (M : k_M) : Option (Int32 × k_M) := some (-2, M)
theorem m_X12_way_82 {Z : k_Z} {G : k_G} (C : k_C Z G RX12 cX12_way (true, 7, 3, 0, 0) (some .int) "way") (M : k_M) : Sm Z G emI (true, 7, 3, 0, 0) (0, 0) 82 [] [] M (f_X12_way_82 M) := by
  show Sm Z G emI _ _ _ _ _ _ (some (-2, M))
  refine x_bipush C (v := -2) (k_dg dt_X12_way_1 2 82 (.bipush (-2)) 2 rfl) (by decide) ?_
  exact x_iret C (by decide) (by decide) (k_dg dt_X12_way_1 3 84 (.ireturn) 1 rfl)
def f_X12_way_171 (l4 : Int32) (t1 : Int32) (t2 : Int32) (M : k_M) : Option (Int32 × k_M) := wrI M 78 60 t1 t2 (fun M1 => wrI M1 82 1100 (13 + (M1.1 76 2)) l4 (fun M2 => bN (sI M2 76 2 ((M2.1 76 2) + 1)) (fun M3 => some ((M3.1 76 2) - 1, M3))))
theorem m_X12_way_171 {Z : k_Z} {G : k_G} (C : k_C Z G RX12 cX12_way (true, 7, 3, 0, 0) (some .int) "way") (l4 : Int32) (t1 : Int32) (t2 : Int32) (M : k_M) : Sm Z G emI (true, 7, 3, 0, 0) (0, 0) 171 [(0, k_ra Z 76), (4, Value.int l4)] [Value.int t2, Value.int t1, k_ra Z 78] M (f_X12_way_171 l4 t1 t2 M) := by
  show Sm Z G emI _ _ _ _ _ _ (wrI M 78 60 t1 t2 (fun M1 => wrI M1 82 1100 (13 + (M1.1 76 2)) l4 (fun M2 => bN (sI M2 76 2 ((M2.1 76 2) + 1)) (fun M3 => some ((M3.1 76 2) - 1, M3)))))
  refine x_iast C (a := 78) (n := 60) rfl rfl (k_dg dt_X12_way_2 15 171 (.iastore) 1 rfl) (fun M1 => ?_)
  refine x_aload_n C (k_dg dt_X12_way_2 16 172 (.aload_n 0) 1 rfl) 0 rfl ?_
  refine x_getR C (a := 76) (j := 10) 82 rfl rfl (by decide) fl_RX12_25 rfl rfl rfl (k_dg dt_X12_way_2 17 173 (.getfield 25) 3 rfl) ?_
  refine x_bipush C (v := 13) (k_dg dt_X12_way_2 18 176 (.bipush 13) 2 rfl) (by decide) ?_
  refine x_aload_n C (k_dg dt_X12_way_2 19 178 (.aload_n 0) 1 rfl) 0 rfl ?_
  refine x_getI C (a := 76) (j := 2) rfl rfl (by decide) fl_RX12_103 rfl (k_dg dt_X12_way_2 20 179 (.getfield 103) 3 rfl) ?_
  refine x_iadd C (k_dg dt_X12_way_2 21 182 (.iadd) 1 rfl) ?_
  refine x_iload C (k_dg dt_X12_way_2 22 183 (.iload 4) 2 rfl) 1 rfl ?_
  refine x_iast C (a := 82) (n := 1100) rfl rfl (k_dg dt_X12_way_2 23 185 (.iastore) 1 rfl) (fun M2 => ?_)
  refine x_aload_n C (k_dg dt_X12_way_2 24 186 (.aload_n 0) 1 rfl) 0 rfl ?_
  refine x_dup C (k_dg dt_X12_way_2 25 187 (.dup) 1 rfl) rfl ?_
  refine x_getI C (a := 76) (j := 2) rfl rfl (by decide) fl_RX12_103 rfl (k_dg dt_X12_way_2 26 188 (.getfield 103) 3 rfl) ?_
  refine x_iconst C (v := 1) (k_dg dt_X12_way_2 27 191 (.iconst 1) 1 rfl) (by decide) ?_
  refine x_iadd C (k_dg dt_X12_way_2 28 192 (.iadd) 1 rfl) ?_
  refine x_putI C (a := 76) (j := 2) rfl rfl (by decide) fl_RX12_103 rfl pt_10_2 tb_10 rfl rfl (k_dg dt_X12_way_2 29 193 (.putfield 103) 3 rfl) (fun M3 => ?_)
  refine x_aload_n C (k_dg dt_X12_way_2 30 196 (.aload_n 0) 1 rfl) 0 rfl ?_
  refine x_getI C (a := 76) (j := 2) rfl rfl (by decide) fl_RX12_103 rfl (k_dg dt_X12_way_2 31 197 (.getfield 103) 3 rfl) ?_
  refine x_iconst C (v := 1) (k_dg dt_X12_way_2 32 200 (.iconst 1) 1 rfl) (by decide) ?_
  refine x_isub C (k_dg dt_X12_way_2 33 201 (.isub) 1 rfl) ?_
  exact x_iret C (by decide) (by decide) (k_dg dt_X12_way_2 34 202 (.ireturn) 1 rfl)
def f_X12_way_128 (l3 : Int32) (l4 : Int32) (l5 : Int32) (l6 : Int32) (t1 : Int32) (t2 : Int32) (M : k_M) : Option (Int32 × k_M) := wrI M 78 60 t1 t2 (fun M1 => wrI M1 78 60 (l6 + 2) l3 (fun M2 => wrI M2 78 60 (l6 + 3) l4 (fun M3 => if l5 = 0 then f_X12_way_171 l4 (l6 + 4) 4095 M3 else f_X12_way_171 l4 (l6 + 4) l5 M3)))
theorem m_X12_way_128 {Z : k_Z} {G : k_G} (C : k_C Z G RX12 cX12_way (true, 7, 3, 0, 0) (some .int) "way") (l3 : Int32) (l4 : Int32) (l5 : Int32) (l6 : Int32) (t1 : Int32) (t2 : Int32) (M : k_M) : Sm Z G emI (true, 7, 3, 0, 0) (0, 0) 128 [(0, k_ra Z 76), (3, Value.int l3), (4, Value.int l4), (5, Value.int l5), (6, Value.int l6)] [Value.int t2, Value.int t1, k_ra Z 78] M (f_X12_way_128 l3 l4 l5 l6 t1 t2 M) := by
  show Sm Z G emI _ _ _ _ _ _ (wrI M 78 60 t1 t2 (fun M1 => wrI M1 78 60 (l6 + 2) l3 (fun M2 => wrI M2 78 60 (l6 + 3) l4 (fun M3 => if l5 = 0 then f_X12_way_171 l4 (l6 + 4) 4095 M3 else f_X12_way_171 l4 (l6 + 4) l5 M3))))
  refine x_iast C (a := 78) (n := 60) rfl rfl (k_dg dt_X12_way_1 30 128 (.iastore) 1 rfl) (fun M1 => ?_)
  refine x_aload_n C (k_dg dt_X12_way_1 31 129 (.aload_n 0) 1 rfl) 0 rfl ?_
  refine x_getR C (a := 76) (j := 3) 78 rfl rfl (by decide) fl_RX12_13 rfl rfl rfl (k_dg dt_X12_way_1 32 130 (.getfield 13) 3 rfl) ?_
  refine x_iload C (k_dg dt_X12_way_1 33 133 (.iload 6) 2 rfl) 4 rfl ?_
  refine x_iconst C (v := 2) (k_dg dt_X12_way_1 34 135 (.iconst 2) 1 rfl) (by decide) ?_
  refine x_iadd C (k_dg dt_X12_way_1 35 136 (.iadd) 1 rfl) ?_
  refine x_iload_n C (k_dg dt_X12_way_1 36 137 (.iload_n 3) 1 rfl) 1 rfl ?_
  refine x_iast C (a := 78) (n := 60) rfl rfl (k_dg dt_X12_way_1 37 138 (.iastore) 1 rfl) (fun M2 => ?_)
  refine x_aload_n C (k_dg dt_X12_way_1 38 139 (.aload_n 0) 1 rfl) 0 rfl ?_
  refine x_getR C (a := 76) (j := 3) 78 rfl rfl (by decide) fl_RX12_13 rfl rfl rfl (k_dg dt_X12_way_1 39 140 (.getfield 13) 3 rfl) ?_
  refine x_iload C (k_dg dt_X12_way_2 0 143 (.iload 6) 2 rfl) 4 rfl ?_
  refine x_iconst C (v := 3) (k_dg dt_X12_way_2 1 145 (.iconst 3) 1 rfl) (by decide) ?_
  refine x_iadd C (k_dg dt_X12_way_2 2 146 (.iadd) 1 rfl) ?_
  refine x_iload C (k_dg dt_X12_way_2 3 147 (.iload 4) 2 rfl) 2 rfl ?_
  refine x_iast C (a := 78) (n := 60) rfl rfl (k_dg dt_X12_way_2 4 149 (.iastore) 1 rfl) (fun M3 => ?_)
  refine x_aload_n C (k_dg dt_X12_way_2 5 150 (.aload_n 0) 1 rfl) 0 rfl ?_
  refine x_getR C (a := 76) (j := 3) 78 rfl rfl (by decide) fl_RX12_13 rfl rfl rfl (k_dg dt_X12_way_2 6 151 (.getfield 13) 3 rfl) ?_
  refine x_iload C (k_dg dt_X12_way_2 7 154 (.iload 6) 2 rfl) 4 rfl ?_
  refine x_iconst C (v := 4) (k_dg dt_X12_way_2 8 156 (.iconst 4) 1 rfl) (by decide) ?_
  refine x_iadd C (k_dg dt_X12_way_2 9 157 (.iadd) 1 rfl) ?_
  refine x_iload C (k_dg dt_X12_way_2 10 158 (.iload 5) 2 rfl) 3 rfl ?_
  refine x_if_ne C (tgt := 169) (k_dg dt_X12_way_2 11 160 (.ifCond .ne 9) 3 rfl) (by decide) (fun _ => ?_) (fun _ => ?_)
  · refine x_sipush C (v := 4095) (k_dg dt_X12_way_2 12 163 (.sipush 4095) 3 rfl) (by decide) ?_
    refine x_goto C (tgt := 171) (k_dg dt_X12_way_2 13 166 (.goto 5) 3 rfl) (by decide) ?_
    refine x_lv [0, 2] rfl ?_
    exact m_X12_way_171 C l4 (l6 + 4) 4095 M3
  · refine x_iload C (k_dg dt_X12_way_2 14 169 (.iload 5) 2 rfl) 3 rfl ?_
    refine x_lv [0, 2] rfl ?_
    exact m_X12_way_171 C l4 (l6 + 4) l5 M3
def f_X12_way_109 (l1 : Int32) (l2 : Int32) (l3 : Int32) (l4 : Int32) (l5 : Int32) (l6 : Int32) (t1 : Int32) (t2 : Int32) (M : k_M) : Option (Int32 × k_M) := wrI M 78 60 t1 t2 (fun M1 => if l2 ≤ l1 then f_X12_way_128 l3 l4 l5 l6 (l6 + 1) l1 M1 else f_X12_way_128 l3 l4 l5 l6 (l6 + 1) l2 M1)
theorem m_X12_way_109 {Z : k_Z} {G : k_G} (C : k_C Z G RX12 cX12_way (true, 7, 3, 0, 0) (some .int) "way") (l1 : Int32) (l2 : Int32) (l3 : Int32) (l4 : Int32) (l5 : Int32) (l6 : Int32) (t1 : Int32) (t2 : Int32) (M : k_M) : Sm Z G emI (true, 7, 3, 0, 0) (0, 0) 109 [(0, k_ra Z 76), (1, Value.int l1), (2, Value.int l2), (3, Value.int l3), (4, Value.int l4), (5, Value.int l5), (6, Value.int l6)] [Value.int t2, Value.int t1, k_ra Z 78] M (f_X12_way_109 l1 l2 l3 l4 l5 l6 t1 t2 M) := by
  show Sm Z G emI _ _ _ _ _ _ (wrI M 78 60 t1 t2 (fun M1 => if l2 ≤ l1 then f_X12_way_128 l3 l4 l5 l6 (l6 + 1) l1 M1 else f_X12_way_128 l3 l4 l5 l6 (l6 + 1) l2 M1))
  refine x_iast C (a := 78) (n := 60) rfl rfl (k_dg dt_X12_way_1 18 109 (.iastore) 1 rfl) (fun M1 => ?_)
  refine x_aload_n C (k_dg dt_X12_way_1 19 110 (.aload_n 0) 1 rfl) 0 rfl ?_
  refine x_getR C (a := 76) (j := 3) 78 rfl rfl (by decide) fl_RX12_13 rfl rfl rfl (k_dg dt_X12_way_1 20 111 (.getfield 13) 3 rfl) ?_
  refine x_iload C (k_dg dt_X12_way_1 21 114 (.iload 6) 2 rfl) 6 rfl ?_
  refine x_iconst C (v := 1) (k_dg dt_X12_way_1 22 116 (.iconst 1) 1 rfl) (by decide) ?_
  refine x_iadd C (k_dg dt_X12_way_1 23 117 (.iadd) 1 rfl) ?_
  refine x_iload_n C (k_dg dt_X12_way_1 24 118 (.iload_n 1) 1 rfl) 1 rfl ?_
  refine x_iload_n C (k_dg dt_X12_way_1 25 119 (.iload_n 2) 1 rfl) 2 rfl ?_
  refine x_icmp_ge C (tgt := 127) (k_dg dt_X12_way_1 26 120 (.if_icmp .ge 7) 3 rfl) (by decide) (fun _ => ?_) (fun _ => ?_)
  · refine x_iload_n C (k_dg dt_X12_way_1 29 127 (.iload_n 1) 1 rfl) 1 rfl ?_
    refine x_lv [0, 3, 4, 5, 6] rfl ?_
    exact m_X12_way_128 C l3 l4 l5 l6 (l6 + 1) l1 M1
  · refine x_iload_n C (k_dg dt_X12_way_1 27 123 (.iload_n 2) 1 rfl) 2 rfl ?_
    refine x_goto C (tgt := 128) (k_dg dt_X12_way_1 28 124 (.goto 4) 3 rfl) (by decide) ?_
    refine x_lv [0, 3, 4, 5, 6] rfl ?_
    exact m_X12_way_128 C l3 l4 l5 l6 (l6 + 1) l2 M1
def f_X12_way (p1 : Int32) (p2 : Int32) (p3 : Int32) (p4 : Int32) (p5 : Int32) (M : k_M) : Option (Int32 × k_M) := bd (f_X12_isPlace p1 M) (fun r1 M2 => if r1 = 0 then some (-1, M2) else bd (f_X12_isPlace p2 M2) (fun r3 M4 => if r3 = 0 then some (-1, M4) else if p1 = p2 then some (-1, M4) else bd (f_X12_in p3 1 4 M4) (fun r5 M6 => if r5 = 0 then some (-1, M6) else bd (f_X12_in p4 0 9 M6) (fun r7 M8 => if r7 = 0 then some (-1, M8) else bd (f_X12_in p5 0 4095 M8) (fun r9 M10 => if r9 = 0 then some (-1, M10) else if (M10.1 76 2) = 12 then f_X12_way_82 M10 else bd (f_X12_waysAt p1 M10) (fun r11 M12 => if r11 = 4 then f_X12_way_82 M12 else bd (f_X12_waysAt p2 M12) (fun r13 M14 => if r13 = 4 then f_X12_way_82 M14 else bN (5 * (M14.1 76 2)) (fun v15 => if p2 ≤ p1 then f_X12_way_109 p1 p2 p3 p4 p5 v15 v15 p2 M14 else f_X12_way_109 p1 p2 p3 p4 p5 v15 v15 p1 M14))))))))
theorem m_X12_way_0 {Z : k_Z} {G : k_G} (C : k_C Z G RX12 cX12_way (true, 7, 3, 0, 0) (some .int) "way") (p1 : Int32) (p2 : Int32) (p3 : Int32) (p4 : Int32) (p5 : Int32) (M : k_M) : Sm Z G emI (true, 7, 3, 0, 0) (0, 0) 0 [(0, k_ra Z 76), (1, Value.int p1), (2, Value.int p2), (3, Value.int p3), (4, Value.int p4), (5, Value.int p5)] [] M (f_X12_way p1 p2 p3 p4 p5 M) := by
  show Sm Z G emI _ _ _ _ _ _ (bd (f_X12_isPlace p1 M) (fun r1 M2 => if r1 = 0 then some (-1, M2) else bd (f_X12_isPlace p2 M2) (fun r3 M4 => if r3 = 0 then some (-1, M4) else if p1 = p2 then some (-1, M4) else bd (f_X12_in p3 1 4 M4) (fun r5 M6 => if r5 = 0 then some (-1, M6) else bd (f_X12_in p4 0 9 M6) (fun r7 M8 => if r7 = 0 then some (-1, M8) else bd (f_X12_in p5 0 4095 M8) (fun r9 M10 => if r9 = 0 then some (-1, M10) else if (M10.1 76 2) = 12 then f_X12_way_82 M10 else bd (f_X12_waysAt p1 M10) (fun r11 M12 => if r11 = 4 then f_X12_way_82 M12 else bd (f_X12_waysAt p2 M12) (fun r13 M14 => if r13 = 4 then f_X12_way_82 M14 else bN (5 * (M14.1 76 2)) (fun v15 => if p2 ≤ p1 then f_X12_way_109 p1 p2 p3 p4 p5 v15 v15 p2 M14 else f_X12_way_109 p1 p2 p3 p4 p5 v15 v15 p1 M14)))))))))
  refine x_aload_n C (k_dg dt_X12_way_0 0 0 (.aload_n 0) 1 rfl) 0 rfl ?_
  refine x_iload_n C (k_dg dt_X12_way_0 1 1 (.iload_n 1) 1 rfl) 1 rfl ?_
  refine x_callV C (a := 76) (kd := 10) (vs := [Value.int p1]) (rest := []) rfl rfl (by decide) (fun r hr => by cases hr; rfl) (c_X12_isPlace C.2.2.2.2.2.2.2.2.2 G.2.1 p1 M) cy_X12_isPlace lk_RX12_217 im_X12_isPlace se_X12_isPlace (by decide) (by decide) (by decide) (by decide) rfl rfl (Nat.le_of_ble_eq_true rfl) (k_dg dt_X12_way_0 2 2 (.invokevirtual 217) 3 rfl) (fun r1 M2 => ?_)
  show Sm Z G _ _ _ _ [(0, k_ra Z 76), (1, Value.int p1), (2, Value.int p2), (3, Value.int p3), (4, Value.int p4), (5, Value.int p5)] [Value.int r1] _ _
  refine x_if_eq C (tgt := 53) (k_dg dt_X12_way_0 3 5 (.ifCond .eq 48) 3 rfl) (by decide) (fun _ => ?_) (fun _ => ?_)
  · refine x_iconst C (v := -1) (k_dg dt_X12_way_0 26 53 (.iconst (-1)) 1 rfl) (by decide) ?_
    exact x_iret C (by decide) (by decide) (k_dg dt_X12_way_0 27 54 (.ireturn) 1 rfl)
  · refine x_aload_n C (k_dg dt_X12_way_0 4 8 (.aload_n 0) 1 rfl) 0 rfl ?_
    refine x_iload_n C (k_dg dt_X12_way_0 5 9 (.iload_n 2) 1 rfl) 2 rfl ?_
    refine x_callV C (a := 76) (kd := 10) (vs := [Value.int p2]) (rest := []) rfl rfl (by decide) (fun r hr => by cases hr; rfl) (c_X12_isPlace C.2.2.2.2.2.2.2.2.2 G.2.1 p2 M2) cy_X12_isPlace lk_RX12_217 im_X12_isPlace se_X12_isPlace (by decide) (by decide) (by decide) (by decide) rfl rfl (Nat.le_of_ble_eq_true rfl) (k_dg dt_X12_way_0 6 10 (.invokevirtual 217) 3 rfl) (fun r3 M4 => ?_)
    show Sm Z G _ _ _ _ [(0, k_ra Z 76), (1, Value.int p1), (2, Value.int p2), (3, Value.int p3), (4, Value.int p4), (5, Value.int p5)] [Value.int r3] _ _
    refine x_if_eq C (tgt := 53) (k_dg dt_X12_way_0 7 13 (.ifCond .eq 40) 3 rfl) (by decide) (fun _ => ?_) (fun _ => ?_)
    · refine x_iconst C (v := -1) (k_dg dt_X12_way_0 26 53 (.iconst (-1)) 1 rfl) (by decide) ?_
      exact x_iret C (by decide) (by decide) (k_dg dt_X12_way_0 27 54 (.ireturn) 1 rfl)
    · refine x_iload_n C (k_dg dt_X12_way_0 8 16 (.iload_n 1) 1 rfl) 1 rfl ?_
      refine x_iload_n C (k_dg dt_X12_way_0 9 17 (.iload_n 2) 1 rfl) 2 rfl ?_
      refine x_icmp_eq C (tgt := 53) (k_dg dt_X12_way_0 10 18 (.if_icmp .eq 35) 3 rfl) (by decide) (fun _ => ?_) (fun _ => ?_)
      · refine x_iconst C (v := -1) (k_dg dt_X12_way_0 26 53 (.iconst (-1)) 1 rfl) (by decide) ?_
        exact x_iret C (by decide) (by decide) (k_dg dt_X12_way_0 27 54 (.ireturn) 1 rfl)
      · refine x_iload_n C (k_dg dt_X12_way_0 11 21 (.iload_n 3) 1 rfl) 3 rfl ?_
        refine x_iconst C (v := 1) (k_dg dt_X12_way_0 12 22 (.iconst 1) 1 rfl) (by decide) ?_
        refine x_iconst C (v := 4) (k_dg dt_X12_way_0 13 23 (.iconst 4) 1 rfl) (by decide) ?_
        refine x_callS C (vs := [Value.int p3, Value.int 1, Value.int 4]) (rest := []) (c_X12_in C.2.2.2.2.2.2.2.2.2 G.2.1 p3 1 4 M4) cy_X12_in lk_RX12_99 stt_X12_in (by decide) (by decide) (by decide) (by decide) rfl rfl (Nat.le_of_ble_eq_true rfl) (k_dg dt_X12_way_0 14 24 (.invokestatic 99) 3 rfl) (fun r5 M6 => ?_)
        show Sm Z G _ _ _ _ [(0, k_ra Z 76), (1, Value.int p1), (2, Value.int p2), (3, Value.int p3), (4, Value.int p4), (5, Value.int p5)] [Value.int r5] _ _
        refine x_if_eq C (tgt := 53) (k_dg dt_X12_way_0 15 27 (.ifCond .eq 26) 3 rfl) (by decide) (fun _ => ?_) (fun _ => ?_)
        · refine x_iconst C (v := -1) (k_dg dt_X12_way_0 26 53 (.iconst (-1)) 1 rfl) (by decide) ?_
          exact x_iret C (by decide) (by decide) (k_dg dt_X12_way_0 27 54 (.ireturn) 1 rfl)
        · refine x_iload C (k_dg dt_X12_way_0 16 30 (.iload 4) 2 rfl) 4 rfl ?_
          refine x_iconst C (v := 0) (k_dg dt_X12_way_0 17 32 (.iconst 0) 1 rfl) (by decide) ?_
          refine x_bipush C (v := 9) (k_dg dt_X12_way_0 18 33 (.bipush 9) 2 rfl) (by decide) ?_
          refine x_callS C (vs := [Value.int p4, Value.int 0, Value.int 9]) (rest := []) (c_X12_in C.2.2.2.2.2.2.2.2.2 G.2.1 p4 0 9 M6) cy_X12_in lk_RX12_99 stt_X12_in (by decide) (by decide) (by decide) (by decide) rfl rfl (Nat.le_of_ble_eq_true rfl) (k_dg dt_X12_way_0 19 35 (.invokestatic 99) 3 rfl) (fun r7 M8 => ?_)
          show Sm Z G _ _ _ _ [(0, k_ra Z 76), (1, Value.int p1), (2, Value.int p2), (3, Value.int p3), (4, Value.int p4), (5, Value.int p5)] [Value.int r7] _ _
          refine x_if_eq C (tgt := 53) (k_dg dt_X12_way_0 20 38 (.ifCond .eq 15) 3 rfl) (by decide) (fun _ => ?_) (fun _ => ?_)
          · refine x_iconst C (v := -1) (k_dg dt_X12_way_0 26 53 (.iconst (-1)) 1 rfl) (by decide) ?_
            exact x_iret C (by decide) (by decide) (k_dg dt_X12_way_0 27 54 (.ireturn) 1 rfl)
          · refine x_iload C (k_dg dt_X12_way_0 21 41 (.iload 5) 2 rfl) 5 rfl ?_
            refine x_iconst C (v := 0) (k_dg dt_X12_way_0 22 43 (.iconst 0) 1 rfl) (by decide) ?_
            refine x_sipush C (v := 4095) (k_dg dt_X12_way_0 23 44 (.sipush 4095) 3 rfl) (by decide) ?_
            refine x_callS C (vs := [Value.int p5, Value.int 0, Value.int 4095]) (rest := []) (c_X12_in C.2.2.2.2.2.2.2.2.2 G.2.1 p5 0 4095 M8) cy_X12_in lk_RX12_99 stt_X12_in (by decide) (by decide) (by decide) (by decide) rfl rfl (Nat.le_of_ble_eq_true rfl) (k_dg dt_X12_way_0 24 47 (.invokestatic 99) 3 rfl) (fun r9 M10 => ?_)
            show Sm Z G _ _ _ _ [(0, k_ra Z 76), (1, Value.int p1), (2, Value.int p2), (3, Value.int p3), (4, Value.int p4), (5, Value.int p5)] [Value.int r9] _ _
            refine x_if_ne C (tgt := 55) (k_dg dt_X12_way_0 25 50 (.ifCond .ne 5) 3 rfl) (by decide) (fun _ => ?_) (fun _ => ?_)
            · refine x_iconst C (v := -1) (k_dg dt_X12_way_0 26 53 (.iconst (-1)) 1 rfl) (by decide) ?_
              exact x_iret C (by decide) (by decide) (k_dg dt_X12_way_0 27 54 (.ireturn) 1 rfl)
            · refine x_aload_n C (k_dg dt_X12_way_0 28 55 (.aload_n 0) 1 rfl) 0 rfl ?_
              refine x_getI C (a := 76) (j := 2) rfl rfl (by decide) fl_RX12_103 rfl (k_dg dt_X12_way_0 29 56 (.getfield 103) 3 rfl) ?_
              refine x_bipush C (v := 12) (k_dg dt_X12_way_0 30 59 (.bipush 12) 2 rfl) (by decide) ?_
              refine x_icmp_eq C (tgt := 82) (k_dg dt_X12_way_0 31 61 (.if_icmp .eq 21) 3 rfl) (by decide) (fun _ => ?_) (fun _ => ?_)
              · refine x_lv [] rfl ?_
                exact m_X12_way_82 C M10
              · refine x_aload_n C (k_dg dt_X12_way_0 32 64 (.aload_n 0) 1 rfl) 0 rfl ?_
                refine x_iload_n C (k_dg dt_X12_way_0 33 65 (.iload_n 1) 1 rfl) 1 rfl ?_
                refine x_callV C (a := 76) (kd := 10) (vs := [Value.int p1]) (rest := []) rfl rfl (by decide) (fun r hr => by cases hr; rfl) (c_X12_waysAt C.2.2.2.2.2.2.2.2.2 G.2.1 p1 M10) cy_X12_waysAt lk_RX12_220 im_X12_waysAt se_X12_waysAt (by decide) (by decide) (by decide) (by decide) rfl rfl (Nat.le_of_ble_eq_true rfl) (k_dg dt_X12_way_0 34 66 (.invokevirtual 220) 3 rfl) (fun r11 M12 => ?_)
                show Sm Z G _ _ _ _ [(0, k_ra Z 76), (1, Value.int p1), (2, Value.int p2), (3, Value.int p3), (4, Value.int p4), (5, Value.int p5)] [Value.int r11] _ _
                refine x_iconst C (v := 4) (k_dg dt_X12_way_0 35 69 (.iconst 4) 1 rfl) (by decide) ?_
                refine x_icmp_eq C (tgt := 82) (k_dg dt_X12_way_0 36 70 (.if_icmp .eq 12) 3 rfl) (by decide) (fun _ => ?_) (fun _ => ?_)
                · refine x_lv [] rfl ?_
                  exact m_X12_way_82 C M12
                · refine x_aload_n C (k_dg dt_X12_way_0 37 73 (.aload_n 0) 1 rfl) 0 rfl ?_
                  refine x_iload_n C (k_dg dt_X12_way_0 38 74 (.iload_n 2) 1 rfl) 2 rfl ?_
                  refine x_callV C (a := 76) (kd := 10) (vs := [Value.int p2]) (rest := []) rfl rfl (by decide) (fun r hr => by cases hr; rfl) (c_X12_waysAt C.2.2.2.2.2.2.2.2.2 G.2.1 p2 M12) cy_X12_waysAt lk_RX12_220 im_X12_waysAt se_X12_waysAt (by decide) (by decide) (by decide) (by decide) rfl rfl (Nat.le_of_ble_eq_true rfl) (k_dg dt_X12_way_0 39 75 (.invokevirtual 220) 3 rfl) (fun r13 M14 => ?_)
                  show Sm Z G _ _ _ _ [(0, k_ra Z 76), (1, Value.int p1), (2, Value.int p2), (3, Value.int p3), (4, Value.int p4), (5, Value.int p5)] [Value.int r13] _ _
                  refine x_iconst C (v := 4) (k_dg dt_X12_way_1 0 78 (.iconst 4) 1 rfl) (by decide) ?_
                  refine x_icmp_ne C (tgt := 85) (k_dg dt_X12_way_1 1 79 (.if_icmp .ne 6) 3 rfl) (by decide) (fun _ => ?_) (fun _ => ?_)
                  · refine x_lv [] rfl ?_
                    exact m_X12_way_82 C M14
                  · refine x_iconst C (v := 5) (k_dg dt_X12_way_1 4 85 (.iconst 5) 1 rfl) (by decide) ?_
                    refine x_aload_n C (k_dg dt_X12_way_1 5 86 (.aload_n 0) 1 rfl) 0 rfl ?_
                    refine x_getI C (a := 76) (j := 2) rfl rfl (by decide) fl_RX12_103 rfl (k_dg dt_X12_way_1 6 87 (.getfield 103) 3 rfl) ?_
                    refine x_imul C (k_dg dt_X12_way_1 7 90 (.imul) 1 rfl) ?_
                    refine x_nm (w := Value.int) (fun v15 _ => ?_)
                    refine x_istore C (lv' := [(6, Value.int v15), (0, k_ra Z 76), (1, Value.int p1), (2, Value.int p2), (3, Value.int p3), (4, Value.int p4), (5, Value.int p5)]) (k_dg dt_X12_way_1 8 91 (.istore 6) 2 rfl) (by decide) rfl ?_
                    refine x_aload_n C (k_dg dt_X12_way_1 9 93 (.aload_n 0) 1 rfl) 1 rfl ?_
                    refine x_getR C (a := 76) (j := 3) 78 rfl rfl (by decide) fl_RX12_13 rfl rfl rfl (k_dg dt_X12_way_1 10 94 (.getfield 13) 3 rfl) ?_
                    refine x_iload C (k_dg dt_X12_way_1 11 97 (.iload 6) 2 rfl) 0 rfl ?_
                    refine x_iload_n C (k_dg dt_X12_way_1 12 99 (.iload_n 1) 1 rfl) 2 rfl ?_
                    refine x_iload_n C (k_dg dt_X12_way_1 13 100 (.iload_n 2) 1 rfl) 3 rfl ?_
                    refine x_icmp_ge C (tgt := 108) (k_dg dt_X12_way_1 14 101 (.if_icmp .ge 7) 3 rfl) (by decide) (fun _ => ?_) (fun _ => ?_)
                    · refine x_iload_n C (k_dg dt_X12_way_1 17 108 (.iload_n 2) 1 rfl) 3 rfl ?_
                      refine x_lv [1, 2, 3, 4, 5, 6, 0] rfl ?_
                      exact m_X12_way_109 C p1 p2 p3 p4 p5 v15 v15 p2 M14
                    · refine x_iload_n C (k_dg dt_X12_way_1 15 104 (.iload_n 1) 1 rfl) 2 rfl ?_
                      refine x_goto C (tgt := 109) (k_dg dt_X12_way_1 16 105 (.goto 4) 3 rfl) (by decide) ?_
                      refine x_lv [1, 2, 3, 4, 5, 6, 0] rfl ?_
                      exact m_X12_way_109 C p1 p2 p3 p4 p5 v15 v15 p1 M14
theorem c_X12_way {Z : k_Z} (hg : k_Gd Z) (l : Launch) (p1 : Int32) (p2 : Int32) (p3 : Int32) (p4 : Int32) (p5 : Int32) (M : k_M) : Con true Z l yX12_way cX12_way 7 (some .int) 3 0 0 emI [k_ra Z 76, Value.int p1, Value.int p2, Value.int p3, Value.int p4, Value.int p5] M (f_X12_way p1 p2 p3 p4 p5 M) := k_con hg (by decide) (Nat.le_of_ble_eq_true rfl) (fun G hl C => m_X12_way_0 C p1 p2 p3 p4 p5 M)
theorem dt_X12_placeOf_0 : k_dec cX12_placeOf [(0, .aload_n 0, 1), (1, .iload_n 1, 1), (2, .invokevirtual 217, 3), (5, .ifCond .eq 12, 3), (8, .iload_n 2, 1), (9, .iconst 0, 1), (10, .iconst 2, 1), (11, .invokestatic 99, 3), (14, .ifCond .ne 5, 3), (17, .iconst (-1), 1), (18, .ireturn, 1), (19, .iload_n 2, 1), (20, .iconst 2, 1), (21, .if_icmp .ne 14, 3), (24, .aload_n 0, 1), (25, .getfield 25, 3), (28, .iconst 5, 1), (29, .iload_n 1, 1), (30, .iadd, 1), (31, .iaload, 1), (32, .goto 9, 3), (35, .aload_n 0, 1), (36, .iload_n 1, 1), (37, .iload_n 2, 1), (38, .invokevirtual 214, 3), (41, .ireturn, 1)] = true := by decide +kernel
def f_X12_placeOf (p1 : Int32) (p2 : Int32) (M : k_M) : Option (Int32 × k_M) := bd (f_X12_isPlace p1 M) (fun r1 M2 => if r1 = 0 then some (-1, M2) else bd (f_X12_in p2 0 2 M2) (fun r3 M4 => if r3 = 0 then some (-1, M4) else if p2 = 2 then rdI M4 82 1100 (5 + p1) (fun v7 => some (v7, M4)) else bd (f_X12_its p1 p2 M4) (fun r5 M6 => some (r5, M6))))
theorem m_X12_placeOf_0 {Z : k_Z} {G : k_G} (C : k_C Z G RX12 cX12_placeOf (true, 3, 3, 0, 0) (some .int) "placeOf") (p1 : Int32) (p2 : Int32) (M : k_M) : Sm Z G emI (true, 3, 3, 0, 0) (0, 0) 0 [(0, k_ra Z 76), (1, Value.int p1), (2, Value.int p2)] [] M (f_X12_placeOf p1 p2 M) := by
  show Sm Z G emI _ _ _ _ _ _ (bd (f_X12_isPlace p1 M) (fun r1 M2 => if r1 = 0 then some (-1, M2) else bd (f_X12_in p2 0 2 M2) (fun r3 M4 => if r3 = 0 then some (-1, M4) else if p2 = 2 then rdI M4 82 1100 (5 + p1) (fun v7 => some (v7, M4)) else bd (f_X12_its p1 p2 M4) (fun r5 M6 => some (r5, M6)))))
  refine x_aload_n C (k_dg dt_X12_placeOf_0 0 0 (.aload_n 0) 1 rfl) 0 rfl ?_
  refine x_iload_n C (k_dg dt_X12_placeOf_0 1 1 (.iload_n 1) 1 rfl) 1 rfl ?_
  refine x_callV C (a := 76) (kd := 10) (vs := [Value.int p1]) (rest := []) rfl rfl (by decide) (fun r hr => by cases hr; rfl) (c_X12_isPlace C.2.2.2.2.2.2.2.2.2 G.2.1 p1 M) cy_X12_isPlace lk_RX12_217 im_X12_isPlace se_X12_isPlace (by decide) (by decide) (by decide) (by decide) rfl rfl (Nat.le_of_ble_eq_true rfl) (k_dg dt_X12_placeOf_0 2 2 (.invokevirtual 217) 3 rfl) (fun r1 M2 => ?_)
  show Sm Z G _ _ _ _ [(0, k_ra Z 76), (1, Value.int p1), (2, Value.int p2)] [Value.int r1] _ _
  refine x_if_eq C (tgt := 17) (k_dg dt_X12_placeOf_0 3 5 (.ifCond .eq 12) 3 rfl) (by decide) (fun _ => ?_) (fun _ => ?_)
  · refine x_iconst C (v := -1) (k_dg dt_X12_placeOf_0 9 17 (.iconst (-1)) 1 rfl) (by decide) ?_
    exact x_iret C (by decide) (by decide) (k_dg dt_X12_placeOf_0 10 18 (.ireturn) 1 rfl)
  · refine x_iload_n C (k_dg dt_X12_placeOf_0 4 8 (.iload_n 2) 1 rfl) 2 rfl ?_
    refine x_iconst C (v := 0) (k_dg dt_X12_placeOf_0 5 9 (.iconst 0) 1 rfl) (by decide) ?_
    refine x_iconst C (v := 2) (k_dg dt_X12_placeOf_0 6 10 (.iconst 2) 1 rfl) (by decide) ?_
    refine x_callS C (vs := [Value.int p2, Value.int 0, Value.int 2]) (rest := []) (c_X12_in C.2.2.2.2.2.2.2.2.2 G.2.1 p2 0 2 M2) cy_X12_in lk_RX12_99 stt_X12_in (by decide) (by decide) (by decide) (by decide) rfl rfl (Nat.le_of_ble_eq_true rfl) (k_dg dt_X12_placeOf_0 7 11 (.invokestatic 99) 3 rfl) (fun r3 M4 => ?_)
    show Sm Z G _ _ _ _ [(0, k_ra Z 76), (1, Value.int p1), (2, Value.int p2)] [Value.int r3] _ _
    refine x_if_ne C (tgt := 19) (k_dg dt_X12_placeOf_0 8 14 (.ifCond .ne 5) 3 rfl) (by decide) (fun _ => ?_) (fun _ => ?_)
    · refine x_iconst C (v := -1) (k_dg dt_X12_placeOf_0 9 17 (.iconst (-1)) 1 rfl) (by decide) ?_
      exact x_iret C (by decide) (by decide) (k_dg dt_X12_placeOf_0 10 18 (.ireturn) 1 rfl)
    · refine x_iload_n C (k_dg dt_X12_placeOf_0 11 19 (.iload_n 2) 1 rfl) 2 rfl ?_
      refine x_iconst C (v := 2) (k_dg dt_X12_placeOf_0 12 20 (.iconst 2) 1 rfl) (by decide) ?_
      refine x_icmp_ne C (tgt := 35) (k_dg dt_X12_placeOf_0 13 21 (.if_icmp .ne 14) 3 rfl) (by decide) (fun _ => ?_) (fun _ => ?_)
      · refine x_aload_n C (k_dg dt_X12_placeOf_0 14 24 (.aload_n 0) 1 rfl) 0 rfl ?_
        refine x_getR C (a := 76) (j := 10) 82 rfl rfl (by decide) fl_RX12_25 rfl rfl rfl (k_dg dt_X12_placeOf_0 15 25 (.getfield 25) 3 rfl) ?_
        refine x_iconst C (v := 5) (k_dg dt_X12_placeOf_0 16 28 (.iconst 5) 1 rfl) (by decide) ?_
        refine x_iload_n C (k_dg dt_X12_placeOf_0 17 29 (.iload_n 1) 1 rfl) 1 rfl ?_
        refine x_iadd C (k_dg dt_X12_placeOf_0 18 30 (.iadd) 1 rfl) ?_
        refine x_iald C (a := 82) (n := 1100) rfl rfl (k_dg dt_X12_placeOf_0 19 31 (.iaload) 1 rfl) (fun v7 => ?_)
        refine x_goto C (tgt := 41) (k_dg dt_X12_placeOf_0 20 32 (.goto 9) 3 rfl) (by decide) ?_
        exact x_iret C (by decide) (by decide) (k_dg dt_X12_placeOf_0 25 41 (.ireturn) 1 rfl)
      · refine x_aload_n C (k_dg dt_X12_placeOf_0 21 35 (.aload_n 0) 1 rfl) 0 rfl ?_
        refine x_iload_n C (k_dg dt_X12_placeOf_0 22 36 (.iload_n 1) 1 rfl) 1 rfl ?_
        refine x_iload_n C (k_dg dt_X12_placeOf_0 23 37 (.iload_n 2) 1 rfl) 2 rfl ?_
        refine x_callV C (a := 76) (kd := 10) (vs := [Value.int p1, Value.int p2]) (rest := []) rfl rfl (by decide) (fun r hr => by cases hr; rfl) (c_X12_its C.2.2.2.2.2.2.2.2.2 G.2.1 p1 p2 M4) cy_X12_its lk_RX12_214 im_X12_its se_X12_its (by decide) (by decide) (by decide) (by decide) rfl rfl (Nat.le_of_ble_eq_true rfl) (k_dg dt_X12_placeOf_0 24 38 (.invokevirtual 214) 3 rfl) (fun r5 M6 => ?_)
        show Sm Z G _ _ _ _ [(0, k_ra Z 76), (1, Value.int p1), (2, Value.int p2)] [Value.int r5] _ _
        exact x_iret C (by decide) (by decide) (k_dg dt_X12_placeOf_0 25 41 (.ireturn) 1 rfl)
theorem c_X12_placeOf {Z : k_Z} (hg : k_Gd Z) (l : Launch) (p1 : Int32) (p2 : Int32) (M : k_M) : Con true Z l yX12_placeOf cX12_placeOf 3 (some .int) 3 0 0 emI [k_ra Z 76, Value.int p1, Value.int p2] M (f_X12_placeOf p1 p2 M) := k_con hg (by decide) (Nat.le_of_ble_eq_true rfl) (fun G hl C => m_X12_placeOf_0 C p1 p2 M)
theorem dt_X12_wayOf_0 : k_dec cX12_wayOf [(0, .aload_n 0, 1), (1, .iload_n 1, 1), (2, .invokevirtual 223, 3), (5, .ifCond .eq 12, 3), (8, .iload_n 2, 1), (9, .iconst 0, 1), (10, .iconst 4, 1), (11, .invokestatic 99, 3), (14, .ifCond .ne 5, 3), (17, .iconst (-1), 1), (18, .ireturn, 1), (19, .iload_n 2, 1), (20, .iconst 3, 1), (21, .if_icmp .ne 15, 3), (24, .aload_n 0, 1), (25, .getfield 25, 3), (28, .bipush 13, 2), (30, .iload_n 1, 1), (31, .iadd, 1), (32, .iaload, 1), (33, .goto 9, 3), (36, .aload_n 0, 1), (37, .iload_n 1, 1), (38, .iload_n 2, 1), (39, .invokevirtual 106, 3), (42, .ireturn, 1)] = true := by decide +kernel
def f_X12_wayOf (p1 : Int32) (p2 : Int32) (M : k_M) : Option (Int32 × k_M) := bd (f_X12_isWay p1 M) (fun r1 M2 => if r1 = 0 then some (-1, M2) else bd (f_X12_in p2 0 4 M2) (fun r3 M4 => if r3 = 0 then some (-1, M4) else if p2 = 3 then rdI M4 82 1100 (13 + p1) (fun v7 => some (v7, M4)) else bd (f_X12_wayIts p1 p2 M4) (fun r5 M6 => some (r5, M6))))
theorem m_X12_wayOf_0 {Z : k_Z} {G : k_G} (C : k_C Z G RX12 cX12_wayOf (true, 3, 3, 0, 0) (some .int) "wayOf") (p1 : Int32) (p2 : Int32) (M : k_M) : Sm Z G emI (true, 3, 3, 0, 0) (0, 0) 0 [(0, k_ra Z 76), (1, Value.int p1), (2, Value.int p2)] [] M (f_X12_wayOf p1 p2 M) := by
  show Sm Z G emI _ _ _ _ _ _ (bd (f_X12_isWay p1 M) (fun r1 M2 => if r1 = 0 then some (-1, M2) else bd (f_X12_in p2 0 4 M2) (fun r3 M4 => if r3 = 0 then some (-1, M4) else if p2 = 3 then rdI M4 82 1100 (13 + p1) (fun v7 => some (v7, M4)) else bd (f_X12_wayIts p1 p2 M4) (fun r5 M6 => some (r5, M6)))))
  refine x_aload_n C (k_dg dt_X12_wayOf_0 0 0 (.aload_n 0) 1 rfl) 0 rfl ?_
  refine x_iload_n C (k_dg dt_X12_wayOf_0 1 1 (.iload_n 1) 1 rfl) 1 rfl ?_
  refine x_callV C (a := 76) (kd := 10) (vs := [Value.int p1]) (rest := []) rfl rfl (by decide) (fun r hr => by cases hr; rfl) (c_X12_isWay C.2.2.2.2.2.2.2.2.2 G.2.1 p1 M) cy_X12_isWay lk_RX12_223 im_X12_isWay se_X12_isWay (by decide) (by decide) (by decide) (by decide) rfl rfl (Nat.le_of_ble_eq_true rfl) (k_dg dt_X12_wayOf_0 2 2 (.invokevirtual 223) 3 rfl) (fun r1 M2 => ?_)
  show Sm Z G _ _ _ _ [(0, k_ra Z 76), (1, Value.int p1), (2, Value.int p2)] [Value.int r1] _ _
  refine x_if_eq C (tgt := 17) (k_dg dt_X12_wayOf_0 3 5 (.ifCond .eq 12) 3 rfl) (by decide) (fun _ => ?_) (fun _ => ?_)
  · refine x_iconst C (v := -1) (k_dg dt_X12_wayOf_0 9 17 (.iconst (-1)) 1 rfl) (by decide) ?_
    exact x_iret C (by decide) (by decide) (k_dg dt_X12_wayOf_0 10 18 (.ireturn) 1 rfl)
  · refine x_iload_n C (k_dg dt_X12_wayOf_0 4 8 (.iload_n 2) 1 rfl) 2 rfl ?_
    refine x_iconst C (v := 0) (k_dg dt_X12_wayOf_0 5 9 (.iconst 0) 1 rfl) (by decide) ?_
    refine x_iconst C (v := 4) (k_dg dt_X12_wayOf_0 6 10 (.iconst 4) 1 rfl) (by decide) ?_
    refine x_callS C (vs := [Value.int p2, Value.int 0, Value.int 4]) (rest := []) (c_X12_in C.2.2.2.2.2.2.2.2.2 G.2.1 p2 0 4 M2) cy_X12_in lk_RX12_99 stt_X12_in (by decide) (by decide) (by decide) (by decide) rfl rfl (Nat.le_of_ble_eq_true rfl) (k_dg dt_X12_wayOf_0 7 11 (.invokestatic 99) 3 rfl) (fun r3 M4 => ?_)
    show Sm Z G _ _ _ _ [(0, k_ra Z 76), (1, Value.int p1), (2, Value.int p2)] [Value.int r3] _ _
    refine x_if_ne C (tgt := 19) (k_dg dt_X12_wayOf_0 8 14 (.ifCond .ne 5) 3 rfl) (by decide) (fun _ => ?_) (fun _ => ?_)
    · refine x_iconst C (v := -1) (k_dg dt_X12_wayOf_0 9 17 (.iconst (-1)) 1 rfl) (by decide) ?_
      exact x_iret C (by decide) (by decide) (k_dg dt_X12_wayOf_0 10 18 (.ireturn) 1 rfl)
    · refine x_iload_n C (k_dg dt_X12_wayOf_0 11 19 (.iload_n 2) 1 rfl) 2 rfl ?_
      refine x_iconst C (v := 3) (k_dg dt_X12_wayOf_0 12 20 (.iconst 3) 1 rfl) (by decide) ?_
      refine x_icmp_ne C (tgt := 36) (k_dg dt_X12_wayOf_0 13 21 (.if_icmp .ne 15) 3 rfl) (by decide) (fun _ => ?_) (fun _ => ?_)
      · refine x_aload_n C (k_dg dt_X12_wayOf_0 14 24 (.aload_n 0) 1 rfl) 0 rfl ?_
        refine x_getR C (a := 76) (j := 10) 82 rfl rfl (by decide) fl_RX12_25 rfl rfl rfl (k_dg dt_X12_wayOf_0 15 25 (.getfield 25) 3 rfl) ?_
        refine x_bipush C (v := 13) (k_dg dt_X12_wayOf_0 16 28 (.bipush 13) 2 rfl) (by decide) ?_
        refine x_iload_n C (k_dg dt_X12_wayOf_0 17 30 (.iload_n 1) 1 rfl) 1 rfl ?_
        refine x_iadd C (k_dg dt_X12_wayOf_0 18 31 (.iadd) 1 rfl) ?_
        refine x_iald C (a := 82) (n := 1100) rfl rfl (k_dg dt_X12_wayOf_0 19 32 (.iaload) 1 rfl) (fun v7 => ?_)
        refine x_goto C (tgt := 42) (k_dg dt_X12_wayOf_0 20 33 (.goto 9) 3 rfl) (by decide) ?_
        exact x_iret C (by decide) (by decide) (k_dg dt_X12_wayOf_0 25 42 (.ireturn) 1 rfl)
      · refine x_aload_n C (k_dg dt_X12_wayOf_0 21 36 (.aload_n 0) 1 rfl) 0 rfl ?_
        refine x_iload_n C (k_dg dt_X12_wayOf_0 22 37 (.iload_n 1) 1 rfl) 1 rfl ?_
        refine x_iload_n C (k_dg dt_X12_wayOf_0 23 38 (.iload_n 2) 1 rfl) 2 rfl ?_
        refine x_callV C (a := 76) (kd := 10) (vs := [Value.int p1, Value.int p2]) (rest := []) rfl rfl (by decide) (fun r hr => by cases hr; rfl) (c_X12_wayIts C.2.2.2.2.2.2.2.2.2 G.2.1 p1 p2 M4) cy_X12_wayIts lk_RX12_106 im_X12_wayIts se_X12_wayIts (by decide) (by decide) (by decide) (by decide) rfl rfl (Nat.le_of_ble_eq_true rfl) (k_dg dt_X12_wayOf_0 24 39 (.invokevirtual 106) 3 rfl) (fun r5 M6 => ?_)
        show Sm Z G _ _ _ _ [(0, k_ra Z 76), (1, Value.int p1), (2, Value.int p2)] [Value.int r5] _ _
        exact x_iret C (by decide) (by decide) (k_dg dt_X12_wayOf_0 25 42 (.ireturn) 1 rfl)
theorem c_X12_wayOf {Z : k_Z} (hg : k_Gd Z) (l : Launch) (p1 : Int32) (p2 : Int32) (M : k_M) : Con true Z l yX12_wayOf cX12_wayOf 3 (some .int) 3 0 0 emI [k_ra Z 76, Value.int p1, Value.int p2] M (f_X12_wayOf p1 p2 M) := k_con hg (by decide) (Nat.le_of_ble_eq_true rfl) (fun G hl C => m_X12_wayOf_0 C p1 p2 M)
theorem dt_X12_set_0 : k_dec cX12_set [(0, .iload_n 1, 1), (1, .iconst 0, 1), (2, .bipush 12, 2), (4, .invokestatic 99, 3), (7, .ifCond .eq 31, 3), (10, .iload_n 2, 1), (11, .iconst 0, 1), (12, .aload_n 0, 1), (13, .getfield 19, 3), (16, .iload_n 1, 1), (17, .iconst 0, 1), (18, .bipush 12, 2), (20, .invokestatic 99, 3), (23, .ifCond .eq 7, 3), (26, .iload_n 1, 1), (27, .goto 4, 3), (30, .iconst 0, 1), (31, .iaload, 1), (32, .invokestatic 99, 3), (35, .ifCond .ne 5, 3), (38, .iconst (-1), 1), (39, .ireturn, 1), (40, .aload_n 0, 1), (41, .getfield 16, 3), (44, .iload_n 1, 1), (45, .iaload, 1), (46, .istore_n 3, 1), (47, .aload_n 0, 1), (48, .getfield 16, 3), (51, .iload_n 1, 1), (52, .iload_n 2, 1), (53, .iastore, 1), (54, .iload_n 3, 1), (55, .ireturn, 1)] = true := by decide +kernel
def f_X12_set_31 (l1 : Int32) (l2 : Int32) (t0 : Int32) (t1 : Int32) (t3 : Int32) (M : k_M) : Option (Int32 × k_M) := rdI M 80 13 t3 (fun v1 => bd (f_X12_in t0 t1 v1 M) (fun r2 M3 => if r2 = 0 then some (-1, M3) else rdI M3 79 13 l1 (fun v4 => wrI M3 79 13 l1 l2 (fun M5 => some (v4, M5)))))
theorem m_X12_set_31 {Z : k_Z} {G : k_G} (C : k_C Z G RX12 cX12_set (true, 4, 2, 0, 0) (some .int) "set") (l1 : Int32) (l2 : Int32) (t0 : Int32) (t1 : Int32) (t3 : Int32) (M : k_M) : Sm Z G emI (true, 4, 2, 0, 0) (0, 0) 31 [(0, k_ra Z 76), (1, Value.int l1), (2, Value.int l2)] [Value.int t3, k_ra Z 80, Value.int t1, Value.int t0] M (f_X12_set_31 l1 l2 t0 t1 t3 M) := by
  show Sm Z G emI _ _ _ _ _ _ (rdI M 80 13 t3 (fun v1 => bd (f_X12_in t0 t1 v1 M) (fun r2 M3 => if r2 = 0 then some (-1, M3) else rdI M3 79 13 l1 (fun v4 => wrI M3 79 13 l1 l2 (fun M5 => some (v4, M5))))))
  refine x_iald C (a := 80) (n := 13) rfl rfl (k_dg dt_X12_set_0 17 31 (.iaload) 1 rfl) (fun v1 => ?_)
  refine x_callS C (vs := [Value.int t0, Value.int t1, Value.int v1]) (rest := []) (c_X12_in C.2.2.2.2.2.2.2.2.2 G.2.1 t0 t1 v1 M) cy_X12_in lk_RX12_99 stt_X12_in (by decide) (by decide) (by decide) (by decide) rfl rfl (Nat.le_of_ble_eq_true rfl) (k_dg dt_X12_set_0 18 32 (.invokestatic 99) 3 rfl) (fun r2 M3 => ?_)
  show Sm Z G _ _ _ _ [(0, k_ra Z 76), (1, Value.int l1), (2, Value.int l2)] [Value.int r2] _ _
  refine x_if_ne C (tgt := 40) (k_dg dt_X12_set_0 19 35 (.ifCond .ne 5) 3 rfl) (by decide) (fun _ => ?_) (fun _ => ?_)
  · refine x_iconst C (v := -1) (k_dg dt_X12_set_0 20 38 (.iconst (-1)) 1 rfl) (by decide) ?_
    exact x_iret C (by decide) (by decide) (k_dg dt_X12_set_0 21 39 (.ireturn) 1 rfl)
  · refine x_aload_n C (k_dg dt_X12_set_0 22 40 (.aload_n 0) 1 rfl) 0 rfl ?_
    refine x_getR C (a := 76) (j := 4) 79 rfl rfl (by decide) fl_RX12_16 rfl rfl rfl (k_dg dt_X12_set_0 23 41 (.getfield 16) 3 rfl) ?_
    refine x_iload_n C (k_dg dt_X12_set_0 24 44 (.iload_n 1) 1 rfl) 1 rfl ?_
    refine x_iald C (a := 79) (n := 13) rfl rfl (k_dg dt_X12_set_0 25 45 (.iaload) 1 rfl) (fun v4 => ?_)
    refine x_istore_n C (lv' := [(3, Value.int v4), (0, k_ra Z 76), (1, Value.int l1), (2, Value.int l2)]) (k_dg dt_X12_set_0 26 46 (.istore_n 3) 1 rfl) (by decide) rfl ?_
    refine x_aload_n C (k_dg dt_X12_set_0 27 47 (.aload_n 0) 1 rfl) 1 rfl ?_
    refine x_getR C (a := 76) (j := 4) 79 rfl rfl (by decide) fl_RX12_16 rfl rfl rfl (k_dg dt_X12_set_0 28 48 (.getfield 16) 3 rfl) ?_
    refine x_iload_n C (k_dg dt_X12_set_0 29 51 (.iload_n 1) 1 rfl) 2 rfl ?_
    refine x_iload_n C (k_dg dt_X12_set_0 30 52 (.iload_n 2) 1 rfl) 3 rfl ?_
    refine x_iast C (a := 79) (n := 13) rfl rfl (k_dg dt_X12_set_0 31 53 (.iastore) 1 rfl) (fun M5 => ?_)
    refine x_iload_n C (k_dg dt_X12_set_0 32 54 (.iload_n 3) 1 rfl) 0 rfl ?_
    exact x_iret C (by decide) (by decide) (k_dg dt_X12_set_0 33 55 (.ireturn) 1 rfl)
def f_X12_set (p1 : Int32) (p2 : Int32) (M : k_M) : Option (Int32 × k_M) := bd (f_X12_in p1 0 12 M) (fun r1 M2 => if r1 = 0 then some (-1, M2) else bd (f_X12_in p1 0 12 M2) (fun r3 M4 => if r3 = 0 then f_X12_set_31 p1 p2 p2 0 0 M4 else f_X12_set_31 p1 p2 p2 0 p1 M4))
theorem m_X12_set_0 {Z : k_Z} {G : k_G} (C : k_C Z G RX12 cX12_set (true, 4, 2, 0, 0) (some .int) "set") (p1 : Int32) (p2 : Int32) (M : k_M) : Sm Z G emI (true, 4, 2, 0, 0) (0, 0) 0 [(0, k_ra Z 76), (1, Value.int p1), (2, Value.int p2)] [] M (f_X12_set p1 p2 M) := by
  show Sm Z G emI _ _ _ _ _ _ (bd (f_X12_in p1 0 12 M) (fun r1 M2 => if r1 = 0 then some (-1, M2) else bd (f_X12_in p1 0 12 M2) (fun r3 M4 => if r3 = 0 then f_X12_set_31 p1 p2 p2 0 0 M4 else f_X12_set_31 p1 p2 p2 0 p1 M4)))
  refine x_iload_n C (k_dg dt_X12_set_0 0 0 (.iload_n 1) 1 rfl) 1 rfl ?_
  refine x_iconst C (v := 0) (k_dg dt_X12_set_0 1 1 (.iconst 0) 1 rfl) (by decide) ?_
  refine x_bipush C (v := 12) (k_dg dt_X12_set_0 2 2 (.bipush 12) 2 rfl) (by decide) ?_
  refine x_callS C (vs := [Value.int p1, Value.int 0, Value.int 12]) (rest := []) (c_X12_in C.2.2.2.2.2.2.2.2.2 G.2.1 p1 0 12 M) cy_X12_in lk_RX12_99 stt_X12_in (by decide) (by decide) (by decide) (by decide) rfl rfl (Nat.le_of_ble_eq_true rfl) (k_dg dt_X12_set_0 3 4 (.invokestatic 99) 3 rfl) (fun r1 M2 => ?_)
  show Sm Z G _ _ _ _ [(0, k_ra Z 76), (1, Value.int p1), (2, Value.int p2)] [Value.int r1] _ _
  refine x_if_eq C (tgt := 38) (k_dg dt_X12_set_0 4 7 (.ifCond .eq 31) 3 rfl) (by decide) (fun _ => ?_) (fun _ => ?_)
  · refine x_iconst C (v := -1) (k_dg dt_X12_set_0 20 38 (.iconst (-1)) 1 rfl) (by decide) ?_
    exact x_iret C (by decide) (by decide) (k_dg dt_X12_set_0 21 39 (.ireturn) 1 rfl)
  · refine x_iload_n C (k_dg dt_X12_set_0 5 10 (.iload_n 2) 1 rfl) 2 rfl ?_
    refine x_iconst C (v := 0) (k_dg dt_X12_set_0 6 11 (.iconst 0) 1 rfl) (by decide) ?_
    refine x_aload_n C (k_dg dt_X12_set_0 7 12 (.aload_n 0) 1 rfl) 0 rfl ?_
    refine x_getR C (a := 76) (j := 5) 80 rfl rfl (by decide) fl_RX12_19 rfl rfl rfl (k_dg dt_X12_set_0 8 13 (.getfield 19) 3 rfl) ?_
    refine x_iload_n C (k_dg dt_X12_set_0 9 16 (.iload_n 1) 1 rfl) 1 rfl ?_
    refine x_iconst C (v := 0) (k_dg dt_X12_set_0 10 17 (.iconst 0) 1 rfl) (by decide) ?_
    refine x_bipush C (v := 12) (k_dg dt_X12_set_0 11 18 (.bipush 12) 2 rfl) (by decide) ?_
    refine x_callS C (vs := [Value.int p1, Value.int 0, Value.int 12]) (rest := [k_ra Z 80, Value.int 0, Value.int p2]) (c_X12_in C.2.2.2.2.2.2.2.2.2 G.2.1 p1 0 12 M2) cy_X12_in lk_RX12_99 stt_X12_in (by decide) (by decide) (by decide) (by decide) rfl rfl (Nat.le_of_ble_eq_true rfl) (k_dg dt_X12_set_0 12 20 (.invokestatic 99) 3 rfl) (fun r3 M4 => ?_)
    show Sm Z G _ _ _ _ [(0, k_ra Z 76), (1, Value.int p1), (2, Value.int p2)] [Value.int r3, k_ra Z 80, Value.int 0, Value.int p2] _ _
    refine x_if_eq C (tgt := 30) (k_dg dt_X12_set_0 13 23 (.ifCond .eq 7) 3 rfl) (by decide) (fun _ => ?_) (fun _ => ?_)
    · refine x_iconst C (v := 0) (k_dg dt_X12_set_0 16 30 (.iconst 0) 1 rfl) (by decide) ?_
      exact m_X12_set_31 C p1 p2 p2 0 0 M4
    · refine x_iload_n C (k_dg dt_X12_set_0 14 26 (.iload_n 1) 1 rfl) 1 rfl ?_
      refine x_goto C (tgt := 31) (k_dg dt_X12_set_0 15 27 (.goto 4) 3 rfl) (by decide) ?_
      exact m_X12_set_31 C p1 p2 p2 0 p1 M4
theorem c_X12_set {Z : k_Z} (hg : k_Gd Z) (l : Launch) (p1 : Int32) (p2 : Int32) (M : k_M) : Con true Z l yX12_set cX12_set 4 (some .int) 2 0 0 emI [k_ra Z 76, Value.int p1, Value.int p2] M (f_X12_set p1 p2 M) := k_con hg (by decide) (Nat.le_of_ble_eq_true rfl) (fun G hl C => m_X12_set_0 C p1 p2 M)
theorem dt_X12_rain_0 : k_dec cX12_rain [(0, .aload_n 0, 1), (1, .getfield 226, 3), (4, .istore_n 2, 1), (5, .aload_n 0, 1), (6, .iload_n 1, 1), (7, .putfield 226, 3), (10, .iload_n 2, 1), (11, .ireturn, 1)] = true := by decide +kernel
def f_X12_rain (p1 : Int32) (M : k_M) : Option (Int32 × k_M) := bN (M.1 76 6) (fun v1 => bN (sI M 76 6 p1) (fun M2 => some (v1, M2)))
theorem m_X12_rain_0 {Z : k_Z} {G : k_G} (C : k_C Z G RX12 cX12_rain (true, 3, 1, 0, 0) (some .int) "rain") (p1 : Int32) (M : k_M) : Sm Z G emI (true, 3, 1, 0, 0) (0, 0) 0 [(0, k_ra Z 76), (1, Value.int p1)] [] M (f_X12_rain p1 M) := by
  show Sm Z G emI _ _ _ _ _ _ (bN (M.1 76 6) (fun v1 => bN (sI M 76 6 p1) (fun M2 => some (v1, M2))))
  refine x_aload_n C (k_dg dt_X12_rain_0 0 0 (.aload_n 0) 1 rfl) 0 rfl ?_
  refine x_getI C (a := 76) (j := 6) rfl rfl (by decide) fl_RX12_226 rfl (k_dg dt_X12_rain_0 1 1 (.getfield 226) 3 rfl) ?_
  refine x_nm (w := Value.int) (fun v1 _ => ?_)
  refine x_istore_n C (lv' := [(2, Value.int v1), (0, k_ra Z 76), (1, Value.int p1)]) (k_dg dt_X12_rain_0 2 4 (.istore_n 2) 1 rfl) (by decide) rfl ?_
  refine x_aload_n C (k_dg dt_X12_rain_0 3 5 (.aload_n 0) 1 rfl) 1 rfl ?_
  refine x_iload_n C (k_dg dt_X12_rain_0 4 6 (.iload_n 1) 1 rfl) 2 rfl ?_
  refine x_putI C (a := 76) (j := 6) rfl rfl (by decide) fl_RX12_226 rfl pt_10_6 tb_10 rfl rfl (k_dg dt_X12_rain_0 5 7 (.putfield 226) 3 rfl) (fun M2 => ?_)
  refine x_iload_n C (k_dg dt_X12_rain_0 6 10 (.iload_n 2) 1 rfl) 0 rfl ?_
  exact x_iret C (by decide) (by decide) (k_dg dt_X12_rain_0 7 11 (.ireturn) 1 rfl)
theorem c_X12_rain {Z : k_Z} (hg : k_Gd Z) (l : Launch) (p1 : Int32) (M : k_M) : Con true Z l yX12_rain cX12_rain 3 (some .int) 1 0 0 emI [k_ra Z 76, Value.int p1] M (f_X12_rain p1 M) := k_con hg (by decide) (Nat.le_of_ble_eq_true rfl) (fun G hl C => m_X12_rain_0 C p1 M)
theorem dt_X12_city_0 : k_dec cX12_city [(0, .aload_n 0, 1), (1, .iload_n 1, 1), (2, .invokevirtual 217, 3), (5, .ifCond .eq 34, 3), (8, .iload_n 2, 1), (9, .iconst 0, 1), (10, .bipush 20, 2), (12, .invokestatic 99, 3), (15, .ifCond .eq 24, 3), (18, .iload_n 3, 1), (19, .iconst 0, 1), (20, .bipush 20, 2), (22, .invokestatic 99, 3), (25, .ifCond .eq 14, 3), (28, .iload 4, 2), (30, .iconst 0, 1), (31, .bipush 20, 2), (33, .invokestatic 99, 3), (36, .ifCond .ne 5, 3), (39, .iconst (-1), 1), (40, .ireturn, 1), (41, .aload_n 0, 1), (42, .iconst 1, 1), (43, .putfield 205, 3), (46, .aload_n 0, 1), (47, .getfield 25, 3), (50, .iconst 0, 1), (51, .iload_n 1, 1), (52, .iastore, 1), (53, .aload_n 0, 1), (54, .getfield 25, 3), (57, .iconst 1, 1), (58, .iconst 0, 1), (59, .iastore, 1), (60, .aload_n 0, 1), (61, .getfield 25, 3), (64, .iconst 2, 1), (65, .iload_n 2, 1), (66, .iastore, 1), (67, .aload_n 0, 1)] = true := by decide +kernel
theorem dt_X12_city_1 : k_dec cX12_city [(68, .getfield 25, 3), (71, .iconst 3, 1), (72, .iload_n 3, 1), (73, .iastore, 1), (74, .aload_n 0, 1), (75, .getfield 25, 3), (78, .iconst 4, 1), (79, .iload 4, 2), (81, .iastore, 1), (82, .aload_n 0, 1), (83, .invokevirtual 211, 3), (86, .iconst 1, 1), (87, .ireturn, 1)] = true := by decide +kernel
def f_X12_city (p1 : Int32) (p2 : Int32) (p3 : Int32) (p4 : Int32) (M : k_M) : Option (Int32 × k_M) := bd (f_X12_isPlace p1 M) (fun r1 M2 => if r1 = 0 then some (-1, M2) else bd (f_X12_in p2 0 20 M2) (fun r3 M4 => if r3 = 0 then some (-1, M4) else bd (f_X12_in p3 0 20 M4) (fun r5 M6 => if r5 = 0 then some (-1, M6) else bd (f_X12_in p4 0 20 M6) (fun r7 M8 => if r7 = 0 then some (-1, M8) else bN (sI M8 76 7 1) (fun M9 => wrI M9 82 1100 0 p1 (fun M10 => wrI M10 82 1100 1 0 (fun M11 => wrI M11 82 1100 2 p2 (fun M12 => wrI M12 82 1100 3 p3 (fun M13 => wrI M13 82 1100 4 p4 (fun M14 => bd (f_X12_refill M14) (fun r15 M16 => some (1, M16))))))))))))
theorem m_X12_city_0 {Z : k_Z} {G : k_G} (C : k_C Z G RX12 cX12_city (true, 5, 3, 0, 0) (some .int) "city") (p1 : Int32) (p2 : Int32) (p3 : Int32) (p4 : Int32) (M : k_M) : Sm Z G emI (true, 5, 3, 0, 0) (0, 0) 0 [(0, k_ra Z 76), (1, Value.int p1), (2, Value.int p2), (3, Value.int p3), (4, Value.int p4)] [] M (f_X12_city p1 p2 p3 p4 M) := by
  show Sm Z G emI _ _ _ _ _ _ (bd (f_X12_isPlace p1 M) (fun r1 M2 => if r1 = 0 then some (-1, M2) else bd (f_X12_in p2 0 20 M2) (fun r3 M4 => if r3 = 0 then some (-1, M4) else bd (f_X12_in p3 0 20 M4) (fun r5 M6 => if r5 = 0 then some (-1, M6) else bd (f_X12_in p4 0 20 M6) (fun r7 M8 => if r7 = 0 then some (-1, M8) else bN (sI M8 76 7 1) (fun M9 => wrI M9 82 1100 0 p1 (fun M10 => wrI M10 82 1100 1 0 (fun M11 => wrI M11 82 1100 2 p2 (fun M12 => wrI M12 82 1100 3 p3 (fun M13 => wrI M13 82 1100 4 p4 (fun M14 => bd (f_X12_refill M14) (fun r15 M16 => some (1, M16)))))))))))))
  refine x_aload_n C (k_dg dt_X12_city_0 0 0 (.aload_n 0) 1 rfl) 0 rfl ?_
  refine x_iload_n C (k_dg dt_X12_city_0 1 1 (.iload_n 1) 1 rfl) 1 rfl ?_
  refine x_callV C (a := 76) (kd := 10) (vs := [Value.int p1]) (rest := []) rfl rfl (by decide) (fun r hr => by cases hr; rfl) (c_X12_isPlace C.2.2.2.2.2.2.2.2.2 G.2.1 p1 M) cy_X12_isPlace lk_RX12_217 im_X12_isPlace se_X12_isPlace (by decide) (by decide) (by decide) (by decide) rfl rfl (Nat.le_of_ble_eq_true rfl) (k_dg dt_X12_city_0 2 2 (.invokevirtual 217) 3 rfl) (fun r1 M2 => ?_)
  show Sm Z G _ _ _ _ [(0, k_ra Z 76), (1, Value.int p1), (2, Value.int p2), (3, Value.int p3), (4, Value.int p4)] [Value.int r1] _ _
  refine x_if_eq C (tgt := 39) (k_dg dt_X12_city_0 3 5 (.ifCond .eq 34) 3 rfl) (by decide) (fun _ => ?_) (fun _ => ?_)
  · refine x_iconst C (v := -1) (k_dg dt_X12_city_0 19 39 (.iconst (-1)) 1 rfl) (by decide) ?_
    exact x_iret C (by decide) (by decide) (k_dg dt_X12_city_0 20 40 (.ireturn) 1 rfl)
  · refine x_iload_n C (k_dg dt_X12_city_0 4 8 (.iload_n 2) 1 rfl) 2 rfl ?_
    refine x_iconst C (v := 0) (k_dg dt_X12_city_0 5 9 (.iconst 0) 1 rfl) (by decide) ?_
    refine x_bipush C (v := 20) (k_dg dt_X12_city_0 6 10 (.bipush 20) 2 rfl) (by decide) ?_
    refine x_callS C (vs := [Value.int p2, Value.int 0, Value.int 20]) (rest := []) (c_X12_in C.2.2.2.2.2.2.2.2.2 G.2.1 p2 0 20 M2) cy_X12_in lk_RX12_99 stt_X12_in (by decide) (by decide) (by decide) (by decide) rfl rfl (Nat.le_of_ble_eq_true rfl) (k_dg dt_X12_city_0 7 12 (.invokestatic 99) 3 rfl) (fun r3 M4 => ?_)
    show Sm Z G _ _ _ _ [(0, k_ra Z 76), (1, Value.int p1), (2, Value.int p2), (3, Value.int p3), (4, Value.int p4)] [Value.int r3] _ _
    refine x_if_eq C (tgt := 39) (k_dg dt_X12_city_0 8 15 (.ifCond .eq 24) 3 rfl) (by decide) (fun _ => ?_) (fun _ => ?_)
    · refine x_iconst C (v := -1) (k_dg dt_X12_city_0 19 39 (.iconst (-1)) 1 rfl) (by decide) ?_
      exact x_iret C (by decide) (by decide) (k_dg dt_X12_city_0 20 40 (.ireturn) 1 rfl)
    · refine x_iload_n C (k_dg dt_X12_city_0 9 18 (.iload_n 3) 1 rfl) 3 rfl ?_
      refine x_iconst C (v := 0) (k_dg dt_X12_city_0 10 19 (.iconst 0) 1 rfl) (by decide) ?_
      refine x_bipush C (v := 20) (k_dg dt_X12_city_0 11 20 (.bipush 20) 2 rfl) (by decide) ?_
      refine x_callS C (vs := [Value.int p3, Value.int 0, Value.int 20]) (rest := []) (c_X12_in C.2.2.2.2.2.2.2.2.2 G.2.1 p3 0 20 M4) cy_X12_in lk_RX12_99 stt_X12_in (by decide) (by decide) (by decide) (by decide) rfl rfl (Nat.le_of_ble_eq_true rfl) (k_dg dt_X12_city_0 12 22 (.invokestatic 99) 3 rfl) (fun r5 M6 => ?_)
      show Sm Z G _ _ _ _ [(0, k_ra Z 76), (1, Value.int p1), (2, Value.int p2), (3, Value.int p3), (4, Value.int p4)] [Value.int r5] _ _
      refine x_if_eq C (tgt := 39) (k_dg dt_X12_city_0 13 25 (.ifCond .eq 14) 3 rfl) (by decide) (fun _ => ?_) (fun _ => ?_)
      · refine x_iconst C (v := -1) (k_dg dt_X12_city_0 19 39 (.iconst (-1)) 1 rfl) (by decide) ?_
        exact x_iret C (by decide) (by decide) (k_dg dt_X12_city_0 20 40 (.ireturn) 1 rfl)
      · refine x_iload C (k_dg dt_X12_city_0 14 28 (.iload 4) 2 rfl) 4 rfl ?_
        refine x_iconst C (v := 0) (k_dg dt_X12_city_0 15 30 (.iconst 0) 1 rfl) (by decide) ?_
        refine x_bipush C (v := 20) (k_dg dt_X12_city_0 16 31 (.bipush 20) 2 rfl) (by decide) ?_
        refine x_callS C (vs := [Value.int p4, Value.int 0, Value.int 20]) (rest := []) (c_X12_in C.2.2.2.2.2.2.2.2.2 G.2.1 p4 0 20 M6) cy_X12_in lk_RX12_99 stt_X12_in (by decide) (by decide) (by decide) (by decide) rfl rfl (Nat.le_of_ble_eq_true rfl) (k_dg dt_X12_city_0 17 33 (.invokestatic 99) 3 rfl) (fun r7 M8 => ?_)
        show Sm Z G _ _ _ _ [(0, k_ra Z 76), (1, Value.int p1), (2, Value.int p2), (3, Value.int p3), (4, Value.int p4)] [Value.int r7] _ _
        refine x_if_ne C (tgt := 41) (k_dg dt_X12_city_0 18 36 (.ifCond .ne 5) 3 rfl) (by decide) (fun _ => ?_) (fun _ => ?_)
        · refine x_iconst C (v := -1) (k_dg dt_X12_city_0 19 39 (.iconst (-1)) 1 rfl) (by decide) ?_
          exact x_iret C (by decide) (by decide) (k_dg dt_X12_city_0 20 40 (.ireturn) 1 rfl)
        · refine x_aload_n C (k_dg dt_X12_city_0 21 41 (.aload_n 0) 1 rfl) 0 rfl ?_
          refine x_iconst C (v := 1) (k_dg dt_X12_city_0 22 42 (.iconst 1) 1 rfl) (by decide) ?_
          refine x_putI C (a := 76) (j := 7) rfl rfl (by decide) fl_RX12_205 rfl pt_10_7 tb_10 rfl rfl (k_dg dt_X12_city_0 23 43 (.putfield 205) 3 rfl) (fun M9 => ?_)
          refine x_aload_n C (k_dg dt_X12_city_0 24 46 (.aload_n 0) 1 rfl) 0 rfl ?_
          refine x_getR C (a := 76) (j := 10) 82 rfl rfl (by decide) fl_RX12_25 rfl rfl rfl (k_dg dt_X12_city_0 25 47 (.getfield 25) 3 rfl) ?_
          refine x_iconst C (v := 0) (k_dg dt_X12_city_0 26 50 (.iconst 0) 1 rfl) (by decide) ?_
          refine x_iload_n C (k_dg dt_X12_city_0 27 51 (.iload_n 1) 1 rfl) 1 rfl ?_
          refine x_iast C (a := 82) (n := 1100) rfl rfl (k_dg dt_X12_city_0 28 52 (.iastore) 1 rfl) (fun M10 => ?_)
          refine x_aload_n C (k_dg dt_X12_city_0 29 53 (.aload_n 0) 1 rfl) 0 rfl ?_
          refine x_getR C (a := 76) (j := 10) 82 rfl rfl (by decide) fl_RX12_25 rfl rfl rfl (k_dg dt_X12_city_0 30 54 (.getfield 25) 3 rfl) ?_
          refine x_iconst C (v := 1) (k_dg dt_X12_city_0 31 57 (.iconst 1) 1 rfl) (by decide) ?_
          refine x_iconst C (v := 0) (k_dg dt_X12_city_0 32 58 (.iconst 0) 1 rfl) (by decide) ?_
          refine x_iast C (a := 82) (n := 1100) rfl rfl (k_dg dt_X12_city_0 33 59 (.iastore) 1 rfl) (fun M11 => ?_)
          refine x_aload_n C (k_dg dt_X12_city_0 34 60 (.aload_n 0) 1 rfl) 0 rfl ?_
          refine x_getR C (a := 76) (j := 10) 82 rfl rfl (by decide) fl_RX12_25 rfl rfl rfl (k_dg dt_X12_city_0 35 61 (.getfield 25) 3 rfl) ?_
          refine x_iconst C (v := 2) (k_dg dt_X12_city_0 36 64 (.iconst 2) 1 rfl) (by decide) ?_
          refine x_iload_n C (k_dg dt_X12_city_0 37 65 (.iload_n 2) 1 rfl) 2 rfl ?_
          refine x_iast C (a := 82) (n := 1100) rfl rfl (k_dg dt_X12_city_0 38 66 (.iastore) 1 rfl) (fun M12 => ?_)
          refine x_aload_n C (k_dg dt_X12_city_0 39 67 (.aload_n 0) 1 rfl) 0 rfl ?_
          refine x_getR C (a := 76) (j := 10) 82 rfl rfl (by decide) fl_RX12_25 rfl rfl rfl (k_dg dt_X12_city_1 0 68 (.getfield 25) 3 rfl) ?_
          refine x_iconst C (v := 3) (k_dg dt_X12_city_1 1 71 (.iconst 3) 1 rfl) (by decide) ?_
          refine x_iload_n C (k_dg dt_X12_city_1 2 72 (.iload_n 3) 1 rfl) 3 rfl ?_
          refine x_iast C (a := 82) (n := 1100) rfl rfl (k_dg dt_X12_city_1 3 73 (.iastore) 1 rfl) (fun M13 => ?_)
          refine x_aload_n C (k_dg dt_X12_city_1 4 74 (.aload_n 0) 1 rfl) 0 rfl ?_
          refine x_getR C (a := 76) (j := 10) 82 rfl rfl (by decide) fl_RX12_25 rfl rfl rfl (k_dg dt_X12_city_1 5 75 (.getfield 25) 3 rfl) ?_
          refine x_iconst C (v := 4) (k_dg dt_X12_city_1 6 78 (.iconst 4) 1 rfl) (by decide) ?_
          refine x_iload C (k_dg dt_X12_city_1 7 79 (.iload 4) 2 rfl) 4 rfl ?_
          refine x_iast C (a := 82) (n := 1100) rfl rfl (k_dg dt_X12_city_1 8 81 (.iastore) 1 rfl) (fun M14 => ?_)
          refine x_aload_n C (k_dg dt_X12_city_1 9 82 (.aload_n 0) 1 rfl) 0 rfl ?_
          refine x_callV C (a := 76) (kd := 10) (vs := []) (rest := []) rfl rfl (by decide) (fun r hr => by cases hr; rfl) (c_X12_refill C.2.2.2.2.2.2.2.2.2 G.2.1 M14) cy_X12_refill lk_RX12_211 im_X12_refill se_X12_refill (by decide) (by decide) (by decide) (by decide) rfl rfl (Nat.le_of_ble_eq_true rfl) (k_dg dt_X12_city_1 10 83 (.invokevirtual 211) 3 rfl) (fun r15 M16 => ?_)
          show Sm Z G _ _ _ _ [(0, k_ra Z 76), (1, Value.int p1), (2, Value.int p2), (3, Value.int p3), (4, Value.int p4)] [] _ _
          refine x_iconst C (v := 1) (k_dg dt_X12_city_1 11 86 (.iconst 1) 1 rfl) (by decide) ?_
          exact x_iret C (by decide) (by decide) (k_dg dt_X12_city_1 12 87 (.ireturn) 1 rfl)
theorem c_X12_city {Z : k_Z} (hg : k_Gd Z) (l : Launch) (p1 : Int32) (p2 : Int32) (p3 : Int32) (p4 : Int32) (M : k_M) : Con true Z l yX12_city cX12_city 5 (some .int) 3 0 0 emI [k_ra Z 76, Value.int p1, Value.int p2, Value.int p3, Value.int p4] M (f_X12_city p1 p2 p3 p4 M) := k_con hg (by decide) (Nat.le_of_ble_eq_true rfl) (fun G hl C => m_X12_city_0 C p1 p2 p3 p4 M)
theorem dt_X12_monthOf_0 : k_dec cX12_monthOf [(0, .iload_n 0, 1), (1, .iconst 3, 1), (2, .idiv, 1), (3, .bipush 12, 2), (5, .irem, 1), (6, .ireturn, 1)] = true := by decide +kernel
def f_X12_monthOf (p1 : Int32) (M : k_M) : Option (Int32 × k_M) := some ((p1 / 3) - (p1 / 3) / 12 * 12, M)
theorem m_X12_monthOf_0 {Z : k_Z} {G : k_G} (C : k_C Z G RX12 cX12_monthOf (true, 1, 1, 0, 0) (some .int) "monthOf") (p1 : Int32) (M : k_M) : Sm Z G emI (true, 1, 1, 0, 0) (0, 0) 0 [(0, Value.int p1)] [] M (f_X12_monthOf p1 M) := by
  show Sm Z G emI _ _ _ _ _ _ (some ((p1 / 3) - (p1 / 3) / 12 * 12, M))
  refine x_iload_n C (k_dg dt_X12_monthOf_0 0 0 (.iload_n 0) 1 rfl) 0 rfl ?_
  refine x_iconst C (v := 3) (k_dg dt_X12_monthOf_0 1 1 (.iconst 3) 1 rfl) (by decide) ?_
  refine x_idivC C (k_dg dt_X12_monthOf_0 2 2 (.idiv) 1 rfl) (by decide) ?_
  refine x_bipush C (v := 12) (k_dg dt_X12_monthOf_0 3 3 (.bipush 12) 2 rfl) (by decide) ?_
  refine x_iremC C (k_dg dt_X12_monthOf_0 4 5 (.irem) 1 rfl) (by decide) ?_
  exact x_iret C (by decide) (by decide) (k_dg dt_X12_monthOf_0 5 6 (.ireturn) 1 rfl)
theorem c_X12_monthOf {Z : k_Z} (hg : k_Gd Z) (l : Launch) (p1 : Int32) (M : k_M) : Con true Z l yX12_monthOf cX12_monthOf 1 (some .int) 1 0 0 emI [Value.int p1] M (f_X12_monthOf p1 M) := k_con hg (by decide) (Nat.le_of_ble_eq_true rfl) (fun G hl C => m_X12_monthOf_0 C p1 M)
theorem dt_X12_worthAt_0 : k_dec cX12_worthAt [(0, .aload_n 0, 1), (1, .getfield 16, 3), (4, .bipush 7, 2), (6, .iaload, 1), (7, .aload_n 0, 1), (8, .getfield 16, 3), (11, .bipush 11, 2), (13, .iaload, 1), (14, .imul, 1), (15, .istore_n 2, 1), (16, .iconst 0, 1), (17, .istore_n 3, 1), (18, .iload_n 3, 1), (19, .iconst 3, 1), (20, .if_icmp .ge 35, 3), (23, .iload_n 2, 1), (24, .aload_n 0, 1), (25, .getfield 25, 3), (28, .bipush 25, 2), (30, .iload_n 1, 1), (31, .imul, 1), (32, .iconst 2, 1), (33, .iadd, 1), (34, .iload_n 3, 1), (35, .iadd, 1), (36, .iaload, 1), (37, .aload_n 0, 1), (38, .getfield 16, 3), (41, .bipush 8, 2), (43, .iload_n 3, 1), (44, .iadd, 1), (45, .iaload, 1), (46, .imul, 1), (47, .iadd, 1), (48, .istore_n 2, 1), (49, .iinc 3 1, 3), (52, .goto (-34), 3), (55, .iload_n 2, 1), (56, .ireturn, 1)] = true := by decide +kernel
def f_X12_worthAt_18 : Nat → Int32 → Int32 → Int32 → k_M → (Int32 → k_M → Option (Int32 × k_M)) → Option (Int32 × k_M)
  | 0, _, _, _, _, _ => none
  | n + 1, l1, l2, l3, M, kx55 => if 3 ≤ l3 then kx55 l2 M else rdI M 82 1100 (((25 * l1) + 2) + l3) (fun v1 => rdI M 79 13 (8 + l3) (fun v2 => bN (l2 + (v1 * v2)) (fun v3 => f_X12_worthAt_18 n l1 v3 (l3 + 1) M kx55)))
theorem m_X12_worthAt_18 {Z : k_Z} {G : k_G} (C : k_C Z G RX12 cX12_worthAt (true, 4, 1, 0, 0) (some .int) "worthAt") (kx55 : Int32 → k_M → Option (Int32 × k_M)) (Hx55 : ∀ (l2 : Int32) (M : k_M), Sm Z G emI (true, 4, 1, 0, 0) (0, 0) 55 [(2, Value.int l2)] [] M (kx55 l2 M)) : ∀ (n : Nat) (l1 : Int32) (l2 : Int32) (l3 : Int32) (M : k_M), Sm Z G emI (true, 4, 1, 0, 0) (0, 0) 18 [(0, k_ra Z 76), (1, Value.int l1), (2, Value.int l2), (3, Value.int l3)] [] M (f_X12_worthAt_18 n l1 l2 l3 M kx55)
  | 0, _, _, _, _ => x_none
  | n + 1, l1, l2, l3, M => by
    have ih := m_X12_worthAt_18 C kx55 Hx55 n
    show Sm Z G emI _ _ _ _ _ _ (if 3 ≤ l3 then kx55 l2 M else rdI M 82 1100 (((25 * l1) + 2) + l3) (fun v1 => rdI M 79 13 (8 + l3) (fun v2 => bN (l2 + (v1 * v2)) (fun v3 => f_X12_worthAt_18 n l1 v3 (l3 + 1) M kx55))))
    refine x_iload_n C (k_dg dt_X12_worthAt_0 12 18 (.iload_n 3) 1 rfl) 3 rfl ?_
    refine x_iconst C (v := 3) (k_dg dt_X12_worthAt_0 13 19 (.iconst 3) 1 rfl) (by decide) ?_
    refine x_icmp_ge C (tgt := 55) (k_dg dt_X12_worthAt_0 14 20 (.if_icmp .ge 35) 3 rfl) (by decide) (fun _ => ?_) (fun _ => ?_)
    · refine x_lv [2] rfl ?_
      exact Hx55 l2 M
    · refine x_iload_n C (k_dg dt_X12_worthAt_0 15 23 (.iload_n 2) 1 rfl) 2 rfl ?_
      refine x_aload_n C (k_dg dt_X12_worthAt_0 16 24 (.aload_n 0) 1 rfl) 0 rfl ?_
      refine x_getR C (a := 76) (j := 10) 82 rfl rfl (by decide) fl_RX12_25 rfl rfl rfl (k_dg dt_X12_worthAt_0 17 25 (.getfield 25) 3 rfl) ?_
      refine x_bipush C (v := 25) (k_dg dt_X12_worthAt_0 18 28 (.bipush 25) 2 rfl) (by decide) ?_
      refine x_iload_n C (k_dg dt_X12_worthAt_0 19 30 (.iload_n 1) 1 rfl) 1 rfl ?_
      refine x_imul C (k_dg dt_X12_worthAt_0 20 31 (.imul) 1 rfl) ?_
      refine x_iconst C (v := 2) (k_dg dt_X12_worthAt_0 21 32 (.iconst 2) 1 rfl) (by decide) ?_
      refine x_iadd C (k_dg dt_X12_worthAt_0 22 33 (.iadd) 1 rfl) ?_
      refine x_iload_n C (k_dg dt_X12_worthAt_0 23 34 (.iload_n 3) 1 rfl) 3 rfl ?_
      refine x_iadd C (k_dg dt_X12_worthAt_0 24 35 (.iadd) 1 rfl) ?_
      refine x_iald C (a := 82) (n := 1100) rfl rfl (k_dg dt_X12_worthAt_0 25 36 (.iaload) 1 rfl) (fun v1 => ?_)
      refine x_aload_n C (k_dg dt_X12_worthAt_0 26 37 (.aload_n 0) 1 rfl) 0 rfl ?_
      refine x_getR C (a := 76) (j := 4) 79 rfl rfl (by decide) fl_RX12_16 rfl rfl rfl (k_dg dt_X12_worthAt_0 27 38 (.getfield 16) 3 rfl) ?_
      refine x_bipush C (v := 8) (k_dg dt_X12_worthAt_0 28 41 (.bipush 8) 2 rfl) (by decide) ?_
      refine x_iload_n C (k_dg dt_X12_worthAt_0 29 43 (.iload_n 3) 1 rfl) 3 rfl ?_
      refine x_iadd C (k_dg dt_X12_worthAt_0 30 44 (.iadd) 1 rfl) ?_
      refine x_iald C (a := 79) (n := 13) rfl rfl (k_dg dt_X12_worthAt_0 31 45 (.iaload) 1 rfl) (fun v2 => ?_)
      refine x_imul C (k_dg dt_X12_worthAt_0 32 46 (.imul) 1 rfl) ?_
      refine x_iadd C (k_dg dt_X12_worthAt_0 33 47 (.iadd) 1 rfl) ?_
      refine x_nm (w := Value.int) (fun v3 _ => ?_)
      refine x_istore_n C (lv' := [(2, Value.int v3), (0, k_ra Z 76), (1, Value.int l1), (3, Value.int l3)]) (k_dg dt_X12_worthAt_0 34 48 (.istore_n 2) 1 rfl) (by decide) rfl ?_
      refine x_iinc C (v := 1) (lv' := [(3, Value.int (l3 + 1)), (2, Value.int v3), (0, k_ra Z 76), (1, Value.int l1)]) (k_dg dt_X12_worthAt_0 35 49 (.iinc 3 1) 3 rfl) 3 rfl (by decide) (by decide) rfl ?_
      refine x_goto C (tgt := 18) (k_dg dt_X12_worthAt_0 36 52 (.goto (-34)) 3 rfl) (by decide) ?_
      refine x_lv [2, 3, 1, 0] rfl ?_
      exact ih l1 v3 (l3 + 1) M
def f_X12_worthAt_55 (l2 : Int32) (M : k_M) : Option (Int32 × k_M) := some (l2, M)
theorem m_X12_worthAt_55 {Z : k_Z} {G : k_G} (C : k_C Z G RX12 cX12_worthAt (true, 4, 1, 0, 0) (some .int) "worthAt") (l2 : Int32) (M : k_M) : Sm Z G emI (true, 4, 1, 0, 0) (0, 0) 55 [(2, Value.int l2)] [] M (f_X12_worthAt_55 l2 M) := by
  show Sm Z G emI _ _ _ _ _ _ (some (l2, M))
  refine x_iload_n C (k_dg dt_X12_worthAt_0 37 55 (.iload_n 2) 1 rfl) 0 rfl ?_
  exact x_iret C (by decide) (by decide) (k_dg dt_X12_worthAt_0 38 56 (.ireturn) 1 rfl)
def f_X12_worthAt (p1 : Int32) (M : k_M) : Option (Int32 × k_M) := rdI M 79 13 7 (fun v1 => rdI M 79 13 11 (fun v2 => bN (v1 * v2) (fun v3 => f_X12_worthAt_18 k_fu p1 v3 0 M (fun l2_ M_ => f_X12_worthAt_55 l2_ M_))))
theorem m_X12_worthAt_0 {Z : k_Z} {G : k_G} (C : k_C Z G RX12 cX12_worthAt (true, 4, 1, 0, 0) (some .int) "worthAt") (p1 : Int32) (M : k_M) : Sm Z G emI (true, 4, 1, 0, 0) (0, 0) 0 [(0, k_ra Z 76), (1, Value.int p1)] [] M (f_X12_worthAt p1 M) := by
  show Sm Z G emI _ _ _ _ _ _ (rdI M 79 13 7 (fun v1 => rdI M 79 13 11 (fun v2 => bN (v1 * v2) (fun v3 => f_X12_worthAt_18 k_fu p1 v3 0 M (fun l2_ M_ => f_X12_worthAt_55 l2_ M_)))))
  refine x_aload_n C (k_dg dt_X12_worthAt_0 0 0 (.aload_n 0) 1 rfl) 0 rfl ?_
  refine x_getR C (a := 76) (j := 4) 79 rfl rfl (by decide) fl_RX12_16 rfl rfl rfl (k_dg dt_X12_worthAt_0 1 1 (.getfield 16) 3 rfl) ?_
  refine x_bipush C (v := 7) (k_dg dt_X12_worthAt_0 2 4 (.bipush 7) 2 rfl) (by decide) ?_
  refine x_iald C (a := 79) (n := 13) rfl rfl (k_dg dt_X12_worthAt_0 3 6 (.iaload) 1 rfl) (fun v1 => ?_)
  refine x_aload_n C (k_dg dt_X12_worthAt_0 4 7 (.aload_n 0) 1 rfl) 0 rfl ?_
  refine x_getR C (a := 76) (j := 4) 79 rfl rfl (by decide) fl_RX12_16 rfl rfl rfl (k_dg dt_X12_worthAt_0 5 8 (.getfield 16) 3 rfl) ?_
  refine x_bipush C (v := 11) (k_dg dt_X12_worthAt_0 6 11 (.bipush 11) 2 rfl) (by decide) ?_
  refine x_iald C (a := 79) (n := 13) rfl rfl (k_dg dt_X12_worthAt_0 7 13 (.iaload) 1 rfl) (fun v2 => ?_)
  refine x_imul C (k_dg dt_X12_worthAt_0 8 14 (.imul) 1 rfl) ?_
  refine x_nm (w := Value.int) (fun v3 _ => ?_)
  refine x_istore_n C (lv' := [(2, Value.int v3), (0, k_ra Z 76), (1, Value.int p1)]) (k_dg dt_X12_worthAt_0 9 15 (.istore_n 2) 1 rfl) (by decide) rfl ?_
  refine x_iconst C (v := 0) (k_dg dt_X12_worthAt_0 10 16 (.iconst 0) 1 rfl) (by decide) ?_
  refine x_istore_n C (lv' := [(3, Value.int 0), (2, Value.int v3), (0, k_ra Z 76), (1, Value.int p1)]) (k_dg dt_X12_worthAt_0 11 17 (.istore_n 3) 1 rfl) (by decide) rfl ?_
  refine x_lv [2, 3, 1, 0] rfl ?_
  exact m_X12_worthAt_18 C (fun l2_ M_ => f_X12_worthAt_55 l2_ M_) (fun l2_ M_ => m_X12_worthAt_55 C l2_ M_) k_fu p1 v3 0 M
theorem c_X12_worthAt {Z : k_Z} (hg : k_Gd Z) (l : Launch) (p1 : Int32) (M : k_M) : Con true Z l yX12_worthAt cX12_worthAt 4 (some .int) 1 0 0 emI [k_ra Z 76, Value.int p1] M (f_X12_worthAt p1 M) := k_con hg (by decide) (Nat.le_of_ble_eq_true rfl) (fun G hl C => m_X12_worthAt_0 C p1 M)
theorem dt_X12_cityOf_0 : k_dec cX12_cityOf [(0, .iload_n 1, 1), (1, .iconst 0, 1), (2, .bipush 6, 2), (4, .invokestatic 99, 3), (7, .ifCond .ne 5, 3), (10, .iconst (-1), 1), (11, .ireturn, 1), (12, .aload_n 0, 1), (13, .getfield 205, 3), (16, .ifCond .ne 6, 3), (19, .bipush (-4), 2), (21, .ireturn, 1), (22, .iload_n 1, 1), (23, .iconst 5, 1), (24, .if_icmp .ge 12, 3), (27, .aload_n 0, 1), (28, .getfield 25, 3), (31, .iload_n 1, 1), (32, .iaload, 1), (33, .goto 25, 3), (36, .iload_n 1, 1), (37, .iconst 5, 1), (38, .if_icmp .ne 15, 3), (41, .aload_n 0, 1), (42, .getfield 25, 3), (45, .iconst 1, 1), (46, .iaload, 1), (47, .invokestatic 229, 3), (50, .goto 8, 3), (53, .aload_n 0, 1), (54, .iconst 0, 1), (55, .invokevirtual 232, 3), (58, .ireturn, 1)] = true := by decide +kernel
def f_X12_cityOf (p1 : Int32) (M : k_M) : Option (Int32 × k_M) := bd (f_X12_in p1 0 6 M) (fun r1 M2 => if r1 = 0 then some (-1, M2) else if (M2.1 76 7) = 0 then some (-4, M2) else if 5 ≤ p1 then if p1 = 5 then rdI M2 82 1100 1 (fun v5 => bd (f_X12_monthOf v5 M2) (fun r6 M7 => some (r6, M7))) else bd (f_X12_worthAt 0 M2) (fun r3 M4 => some (r3, M4)) else rdI M2 82 1100 p1 (fun v8 => some (v8, M2)))
theorem m_X12_cityOf_0 {Z : k_Z} {G : k_G} (C : k_C Z G RX12 cX12_cityOf (true, 2, 2, 0, 0) (some .int) "cityOf") (p1 : Int32) (M : k_M) : Sm Z G emI (true, 2, 2, 0, 0) (0, 0) 0 [(0, k_ra Z 76), (1, Value.int p1)] [] M (f_X12_cityOf p1 M) := by
  show Sm Z G emI _ _ _ _ _ _ (bd (f_X12_in p1 0 6 M) (fun r1 M2 => if r1 = 0 then some (-1, M2) else if (M2.1 76 7) = 0 then some (-4, M2) else if 5 ≤ p1 then if p1 = 5 then rdI M2 82 1100 1 (fun v5 => bd (f_X12_monthOf v5 M2) (fun r6 M7 => some (r6, M7))) else bd (f_X12_worthAt 0 M2) (fun r3 M4 => some (r3, M4)) else rdI M2 82 1100 p1 (fun v8 => some (v8, M2))))
  refine x_iload_n C (k_dg dt_X12_cityOf_0 0 0 (.iload_n 1) 1 rfl) 1 rfl ?_
  refine x_iconst C (v := 0) (k_dg dt_X12_cityOf_0 1 1 (.iconst 0) 1 rfl) (by decide) ?_
  refine x_bipush C (v := 6) (k_dg dt_X12_cityOf_0 2 2 (.bipush 6) 2 rfl) (by decide) ?_
  refine x_callS C (vs := [Value.int p1, Value.int 0, Value.int 6]) (rest := []) (c_X12_in C.2.2.2.2.2.2.2.2.2 G.2.1 p1 0 6 M) cy_X12_in lk_RX12_99 stt_X12_in (by decide) (by decide) (by decide) (by decide) rfl rfl (Nat.le_of_ble_eq_true rfl) (k_dg dt_X12_cityOf_0 3 4 (.invokestatic 99) 3 rfl) (fun r1 M2 => ?_)
  show Sm Z G _ _ _ _ [(0, k_ra Z 76), (1, Value.int p1)] [Value.int r1] _ _
  refine x_if_ne C (tgt := 12) (k_dg dt_X12_cityOf_0 4 7 (.ifCond .ne 5) 3 rfl) (by decide) (fun _ => ?_) (fun _ => ?_)
  · refine x_iconst C (v := -1) (k_dg dt_X12_cityOf_0 5 10 (.iconst (-1)) 1 rfl) (by decide) ?_
    exact x_iret C (by decide) (by decide) (k_dg dt_X12_cityOf_0 6 11 (.ireturn) 1 rfl)
  · refine x_aload_n C (k_dg dt_X12_cityOf_0 7 12 (.aload_n 0) 1 rfl) 0 rfl ?_
    refine x_getI C (a := 76) (j := 7) rfl rfl (by decide) fl_RX12_205 rfl (k_dg dt_X12_cityOf_0 8 13 (.getfield 205) 3 rfl) ?_
    refine x_if_ne C (tgt := 22) (k_dg dt_X12_cityOf_0 9 16 (.ifCond .ne 6) 3 rfl) (by decide) (fun _ => ?_) (fun _ => ?_)
    · refine x_bipush C (v := -4) (k_dg dt_X12_cityOf_0 10 19 (.bipush (-4)) 2 rfl) (by decide) ?_
      exact x_iret C (by decide) (by decide) (k_dg dt_X12_cityOf_0 11 21 (.ireturn) 1 rfl)
    · refine x_iload_n C (k_dg dt_X12_cityOf_0 12 22 (.iload_n 1) 1 rfl) 1 rfl ?_
      refine x_iconst C (v := 5) (k_dg dt_X12_cityOf_0 13 23 (.iconst 5) 1 rfl) (by decide) ?_
      refine x_icmp_ge C (tgt := 36) (k_dg dt_X12_cityOf_0 14 24 (.if_icmp .ge 12) 3 rfl) (by decide) (fun _ => ?_) (fun _ => ?_)
      · refine x_iload_n C (k_dg dt_X12_cityOf_0 20 36 (.iload_n 1) 1 rfl) 1 rfl ?_
        refine x_iconst C (v := 5) (k_dg dt_X12_cityOf_0 21 37 (.iconst 5) 1 rfl) (by decide) ?_
        refine x_icmp_ne C (tgt := 53) (k_dg dt_X12_cityOf_0 22 38 (.if_icmp .ne 15) 3 rfl) (by decide) (fun _ => ?_) (fun _ => ?_)
        · refine x_aload_n C (k_dg dt_X12_cityOf_0 23 41 (.aload_n 0) 1 rfl) 0 rfl ?_
          refine x_getR C (a := 76) (j := 10) 82 rfl rfl (by decide) fl_RX12_25 rfl rfl rfl (k_dg dt_X12_cityOf_0 24 42 (.getfield 25) 3 rfl) ?_
          refine x_iconst C (v := 1) (k_dg dt_X12_cityOf_0 25 45 (.iconst 1) 1 rfl) (by decide) ?_
          refine x_iald C (a := 82) (n := 1100) rfl rfl (k_dg dt_X12_cityOf_0 26 46 (.iaload) 1 rfl) (fun v5 => ?_)
          refine x_callS C (vs := [Value.int v5]) (rest := []) (c_X12_monthOf C.2.2.2.2.2.2.2.2.2 G.2.1 v5 M2) cy_X12_monthOf lk_RX12_229 stt_X12_monthOf (by decide) (by decide) (by decide) (by decide) rfl rfl (Nat.le_of_ble_eq_true rfl) (k_dg dt_X12_cityOf_0 27 47 (.invokestatic 229) 3 rfl) (fun r6 M7 => ?_)
          show Sm Z G _ _ _ _ [(0, k_ra Z 76), (1, Value.int p1)] [Value.int r6] _ _
          refine x_goto C (tgt := 58) (k_dg dt_X12_cityOf_0 28 50 (.goto 8) 3 rfl) (by decide) ?_
          exact x_iret C (by decide) (by decide) (k_dg dt_X12_cityOf_0 32 58 (.ireturn) 1 rfl)
        · refine x_aload_n C (k_dg dt_X12_cityOf_0 29 53 (.aload_n 0) 1 rfl) 0 rfl ?_
          refine x_iconst C (v := 0) (k_dg dt_X12_cityOf_0 30 54 (.iconst 0) 1 rfl) (by decide) ?_
          refine x_callV C (a := 76) (kd := 10) (vs := [Value.int 0]) (rest := []) rfl rfl (by decide) (fun r hr => by cases hr; rfl) (c_X12_worthAt C.2.2.2.2.2.2.2.2.2 G.2.1 0 M2) cy_X12_worthAt lk_RX12_232 im_X12_worthAt se_X12_worthAt (by decide) (by decide) (by decide) (by decide) rfl rfl (Nat.le_of_ble_eq_true rfl) (k_dg dt_X12_cityOf_0 31 55 (.invokevirtual 232) 3 rfl) (fun r3 M4 => ?_)
          show Sm Z G _ _ _ _ [(0, k_ra Z 76), (1, Value.int p1)] [Value.int r3] _ _
          exact x_iret C (by decide) (by decide) (k_dg dt_X12_cityOf_0 32 58 (.ireturn) 1 rfl)
      · refine x_aload_n C (k_dg dt_X12_cityOf_0 15 27 (.aload_n 0) 1 rfl) 0 rfl ?_
        refine x_getR C (a := 76) (j := 10) 82 rfl rfl (by decide) fl_RX12_25 rfl rfl rfl (k_dg dt_X12_cityOf_0 16 28 (.getfield 25) 3 rfl) ?_
        refine x_iload_n C (k_dg dt_X12_cityOf_0 17 31 (.iload_n 1) 1 rfl) 1 rfl ?_
        refine x_iald C (a := 82) (n := 1100) rfl rfl (k_dg dt_X12_cityOf_0 18 32 (.iaload) 1 rfl) (fun v8 => ?_)
        refine x_goto C (tgt := 58) (k_dg dt_X12_cityOf_0 19 33 (.goto 25) 3 rfl) (by decide) ?_
        exact x_iret C (by decide) (by decide) (k_dg dt_X12_cityOf_0 32 58 (.ireturn) 1 rfl)
theorem c_X12_cityOf {Z : k_Z} (hg : k_Gd Z) (l : Launch) (p1 : Int32) (M : k_M) : Con true Z l yX12_cityOf cX12_cityOf 2 (some .int) 2 0 0 emI [k_ra Z 76, Value.int p1] M (f_X12_cityOf p1 M) := k_con hg (by decide) (Nat.le_of_ble_eq_true rfl) (fun G hl C => m_X12_cityOf_0 C p1 M)
theorem dt_X12_shedOf_0 : k_dec cX12_shedOf [(0, .iload_n 0, 1), (1, .iconst 2, 1), (2, .if_icmp .eq 8, 3), (5, .iload_n 0, 1), (6, .iconst 5, 1), (7, .if_icmp .ne 7, 3), (10, .iconst 0, 1), (11, .goto 24, 3), (14, .iload_n 0, 1), (15, .invokestatic 181, 3), (18, .ifCond .eq 7, 3), (21, .iconst 1, 1), (22, .goto 13, 3), (25, .iload_n 0, 1), (26, .iconst 3, 1), (27, .if_icmp .ne 7, 3), (30, .iconst 2, 1), (31, .goto 4, 3), (34, .iconst (-1), 1), (35, .ireturn, 1)] = true := by decide +kernel
def f_X12_shedOf_10 (M : k_M) : Option (Int32 × k_M) := some (0, M)
theorem m_X12_shedOf_10 {Z : k_Z} {G : k_G} (C : k_C Z G RX12 cX12_shedOf (true, 1, 2, 0, 0) (some .int) "shedOf") (M : k_M) : Sm Z G emI (true, 1, 2, 0, 0) (0, 0) 10 [] [] M (f_X12_shedOf_10 M) := by
  show Sm Z G emI _ _ _ _ _ _ (some (0, M))
  refine x_iconst C (v := 0) (k_dg dt_X12_shedOf_0 6 10 (.iconst 0) 1 rfl) (by decide) ?_
  refine x_goto C (tgt := 35) (k_dg dt_X12_shedOf_0 7 11 (.goto 24) 3 rfl) (by decide) ?_
  exact x_iret C (by decide) (by decide) (k_dg dt_X12_shedOf_0 19 35 (.ireturn) 1 rfl)
def f_X12_shedOf (p1 : Int32) (M : k_M) : Option (Int32 × k_M) := if p1 = 2 then f_X12_shedOf_10 M else if p1 = 5 then f_X12_shedOf_10 M else bd (f_X12_isEndless p1 M) (fun r1 M2 => if r1 = 0 then if p1 = 3 then some (2, M2) else some (-1, M2) else some (1, M2))
theorem m_X12_shedOf_0 {Z : k_Z} {G : k_G} (C : k_C Z G RX12 cX12_shedOf (true, 1, 2, 0, 0) (some .int) "shedOf") (p1 : Int32) (M : k_M) : Sm Z G emI (true, 1, 2, 0, 0) (0, 0) 0 [(0, Value.int p1)] [] M (f_X12_shedOf p1 M) := by
  show Sm Z G emI _ _ _ _ _ _ (if p1 = 2 then f_X12_shedOf_10 M else if p1 = 5 then f_X12_shedOf_10 M else bd (f_X12_isEndless p1 M) (fun r1 M2 => if r1 = 0 then if p1 = 3 then some (2, M2) else some (-1, M2) else some (1, M2)))
  refine x_iload_n C (k_dg dt_X12_shedOf_0 0 0 (.iload_n 0) 1 rfl) 0 rfl ?_
  refine x_iconst C (v := 2) (k_dg dt_X12_shedOf_0 1 1 (.iconst 2) 1 rfl) (by decide) ?_
  refine x_icmp_eq C (tgt := 10) (k_dg dt_X12_shedOf_0 2 2 (.if_icmp .eq 8) 3 rfl) (by decide) (fun _ => ?_) (fun _ => ?_)
  · refine x_lv [] rfl ?_
    exact m_X12_shedOf_10 C M
  · refine x_iload_n C (k_dg dt_X12_shedOf_0 3 5 (.iload_n 0) 1 rfl) 0 rfl ?_
    refine x_iconst C (v := 5) (k_dg dt_X12_shedOf_0 4 6 (.iconst 5) 1 rfl) (by decide) ?_
    refine x_icmp_ne C (tgt := 14) (k_dg dt_X12_shedOf_0 5 7 (.if_icmp .ne 7) 3 rfl) (by decide) (fun _ => ?_) (fun _ => ?_)
    · refine x_lv [] rfl ?_
      exact m_X12_shedOf_10 C M
    · refine x_iload_n C (k_dg dt_X12_shedOf_0 8 14 (.iload_n 0) 1 rfl) 0 rfl ?_
      refine x_callS C (vs := [Value.int p1]) (rest := []) (c_X12_isEndless C.2.2.2.2.2.2.2.2.2 G.2.1 p1 M) cy_X12_isEndless lk_RX12_181 stt_X12_isEndless (by decide) (by decide) (by decide) (by decide) rfl rfl (Nat.le_of_ble_eq_true rfl) (k_dg dt_X12_shedOf_0 9 15 (.invokestatic 181) 3 rfl) (fun r1 M2 => ?_)
      show Sm Z G _ _ _ _ [(0, Value.int p1)] [Value.int r1] _ _
      refine x_if_eq C (tgt := 25) (k_dg dt_X12_shedOf_0 10 18 (.ifCond .eq 7) 3 rfl) (by decide) (fun _ => ?_) (fun _ => ?_)
      · refine x_iload_n C (k_dg dt_X12_shedOf_0 13 25 (.iload_n 0) 1 rfl) 0 rfl ?_
        refine x_iconst C (v := 3) (k_dg dt_X12_shedOf_0 14 26 (.iconst 3) 1 rfl) (by decide) ?_
        refine x_icmp_ne C (tgt := 34) (k_dg dt_X12_shedOf_0 15 27 (.if_icmp .ne 7) 3 rfl) (by decide) (fun _ => ?_) (fun _ => ?_)
        · refine x_iconst C (v := 2) (k_dg dt_X12_shedOf_0 16 30 (.iconst 2) 1 rfl) (by decide) ?_
          refine x_goto C (tgt := 35) (k_dg dt_X12_shedOf_0 17 31 (.goto 4) 3 rfl) (by decide) ?_
          exact x_iret C (by decide) (by decide) (k_dg dt_X12_shedOf_0 19 35 (.ireturn) 1 rfl)
        · refine x_iconst C (v := -1) (k_dg dt_X12_shedOf_0 18 34 (.iconst (-1)) 1 rfl) (by decide) ?_
          exact x_iret C (by decide) (by decide) (k_dg dt_X12_shedOf_0 19 35 (.ireturn) 1 rfl)
      · refine x_iconst C (v := 1) (k_dg dt_X12_shedOf_0 11 21 (.iconst 1) 1 rfl) (by decide) ?_
        refine x_goto C (tgt := 35) (k_dg dt_X12_shedOf_0 12 22 (.goto 13) 3 rfl) (by decide) ?_
        exact x_iret C (by decide) (by decide) (k_dg dt_X12_shedOf_0 19 35 (.ireturn) 1 rfl)
theorem c_X12_shedOf {Z : k_Z} (hg : k_Gd Z) (l : Launch) (p1 : Int32) (M : k_M) : Con true Z l yX12_shedOf cX12_shedOf 1 (some .int) 2 0 0 emI [Value.int p1] M (f_X12_shedOf p1 M) := k_con hg (by decide) (Nat.le_of_ble_eq_true rfl) (fun G hl C => m_X12_shedOf_0 C p1 M)
theorem dt_X12_eats_0 : k_dec cX12_eats [(0, .aload_n 0, 1), (1, .getfield 16, 3), (4, .iload_n 1, 1), (5, .iload_n 2, 1), (6, .iadd, 1), (7, .iaload, 1), (8, .iload_n 2, 1), (9, .iconst 1, 1), (10, .if_icmp .ne 13, 3), (13, .aload_n 0, 1), (14, .getfield 16, 3), (17, .bipush 7, 2), (19, .iaload, 1), (20, .goto 4, 3), (23, .iconst 0, 1), (24, .iadd, 1), (25, .ireturn, 1)] = true := by decide +kernel
def f_X12_eats_24 (t0 : Int32) (t1 : Int32) (M : k_M) : Option (Int32 × k_M) := some (t0 + t1, M)
theorem m_X12_eats_24 {Z : k_Z} {G : k_G} (C : k_C Z G RX12 cX12_eats (true, 3, 1, 0, 0) (some .int) "eats") (t0 : Int32) (t1 : Int32) (M : k_M) : Sm Z G emI (true, 3, 1, 0, 0) (0, 0) 24 [] [Value.int t1, Value.int t0] M (f_X12_eats_24 t0 t1 M) := by
  show Sm Z G emI _ _ _ _ _ _ (some (t0 + t1, M))
  refine x_iadd C (k_dg dt_X12_eats_0 15 24 (.iadd) 1 rfl) ?_
  exact x_iret C (by decide) (by decide) (k_dg dt_X12_eats_0 16 25 (.ireturn) 1 rfl)
def f_X12_eats (p1 : Int32) (p2 : Int32) (M : k_M) : Option (Int32 × k_M) := rdI M 79 13 (p1 + p2) (fun v1 => if p2 = 1 then rdI M 79 13 7 (fun v2 => f_X12_eats_24 v1 v2 M) else f_X12_eats_24 v1 0 M)
theorem m_X12_eats_0 {Z : k_Z} {G : k_G} (C : k_C Z G RX12 cX12_eats (true, 3, 1, 0, 0) (some .int) "eats") (p1 : Int32) (p2 : Int32) (M : k_M) : Sm Z G emI (true, 3, 1, 0, 0) (0, 0) 0 [(0, k_ra Z 76), (1, Value.int p1), (2, Value.int p2)] [] M (f_X12_eats p1 p2 M) := by
  show Sm Z G emI _ _ _ _ _ _ (rdI M 79 13 (p1 + p2) (fun v1 => if p2 = 1 then rdI M 79 13 7 (fun v2 => f_X12_eats_24 v1 v2 M) else f_X12_eats_24 v1 0 M))
  refine x_aload_n C (k_dg dt_X12_eats_0 0 0 (.aload_n 0) 1 rfl) 0 rfl ?_
  refine x_getR C (a := 76) (j := 4) 79 rfl rfl (by decide) fl_RX12_16 rfl rfl rfl (k_dg dt_X12_eats_0 1 1 (.getfield 16) 3 rfl) ?_
  refine x_iload_n C (k_dg dt_X12_eats_0 2 4 (.iload_n 1) 1 rfl) 1 rfl ?_
  refine x_iload_n C (k_dg dt_X12_eats_0 3 5 (.iload_n 2) 1 rfl) 2 rfl ?_
  refine x_iadd C (k_dg dt_X12_eats_0 4 6 (.iadd) 1 rfl) ?_
  refine x_iald C (a := 79) (n := 13) rfl rfl (k_dg dt_X12_eats_0 5 7 (.iaload) 1 rfl) (fun v1 => ?_)
  refine x_iload_n C (k_dg dt_X12_eats_0 6 8 (.iload_n 2) 1 rfl) 2 rfl ?_
  refine x_iconst C (v := 1) (k_dg dt_X12_eats_0 7 9 (.iconst 1) 1 rfl) (by decide) ?_
  refine x_icmp_ne C (tgt := 23) (k_dg dt_X12_eats_0 8 10 (.if_icmp .ne 13) 3 rfl) (by decide) (fun _ => ?_) (fun _ => ?_)
  · refine x_aload_n C (k_dg dt_X12_eats_0 9 13 (.aload_n 0) 1 rfl) 0 rfl ?_
    refine x_getR C (a := 76) (j := 4) 79 rfl rfl (by decide) fl_RX12_16 rfl rfl rfl (k_dg dt_X12_eats_0 10 14 (.getfield 16) 3 rfl) ?_
    refine x_bipush C (v := 7) (k_dg dt_X12_eats_0 11 17 (.bipush 7) 2 rfl) (by decide) ?_
    refine x_iald C (a := 79) (n := 13) rfl rfl (k_dg dt_X12_eats_0 12 19 (.iaload) 1 rfl) (fun v2 => ?_)
    refine x_goto C (tgt := 24) (k_dg dt_X12_eats_0 13 20 (.goto 4) 3 rfl) (by decide) ?_
    refine x_lv [] rfl ?_
    exact m_X12_eats_24 C v1 v2 M
  · refine x_iconst C (v := 0) (k_dg dt_X12_eats_0 14 23 (.iconst 0) 1 rfl) (by decide) ?_
    refine x_lv [] rfl ?_
    exact m_X12_eats_24 C v1 0 M
theorem c_X12_eats {Z : k_Z} (hg : k_Gd Z) (l : Launch) (p1 : Int32) (p2 : Int32) (M : k_M) : Con true Z l yX12_eats cX12_eats 3 (some .int) 1 0 0 emI [k_ra Z 76, Value.int p1, Value.int p2] M (f_X12_eats p1 p2 M) := k_con hg (by decide) (Nat.le_of_ble_eq_true rfl) (fun G hl C => m_X12_eats_0 C p1 p2 M)
theorem dt_X12_byLeft_0 : k_dec cX12_byLeft [(0, .aload_n 0, 1), (1, .iload_n 2, 1), (2, .iconst 0, 1), (3, .invokevirtual 214, 3), (6, .iconst 5, 1), (7, .if_icmp .ne 18, 3), (10, .aload_n 0, 1), (11, .getfield 25, 3), (14, .iload_n 1, 1), (15, .iconst 5, 1), (16, .iadd, 1), (17, .iload_n 2, 1), (18, .iadd, 1), (19, .iaload, 1), (20, .iconst 2, 1), (21, .idiv, 1), (22, .goto 13, 3), (25, .aload_n 0, 1), (26, .getfield 25, 3), (29, .iload_n 1, 1), (30, .iconst 5, 1), (31, .iadd, 1), (32, .iload_n 2, 1), (33, .iadd, 1), (34, .iaload, 1), (35, .istore 4, 2), (37, .iload_n 3, 1), (38, .iload 4, 2), (40, .if_icmp .ge 7, 3), (43, .iload_n 3, 1), (44, .goto 5, 3), (47, .iload 4, 2), (49, .ireturn, 1)] = true := by decide +kernel
def f_X12_byLeft_35 (l3 : Int32) (t0 : Int32) (M : k_M) : Option (Int32 × k_M) := if t0 ≤ l3 then some (t0, M) else some (l3, M)
theorem m_X12_byLeft_35 {Z : k_Z} {G : k_G} (C : k_C Z G RX12 cX12_byLeft (true, 5, 2, 0, 0) (some .int) "byLeft") (l3 : Int32) (t0 : Int32) (M : k_M) : Sm Z G emI (true, 5, 2, 0, 0) (0, 0) 35 [(3, Value.int l3)] [Value.int t0] M (f_X12_byLeft_35 l3 t0 M) := by
  show Sm Z G emI _ _ _ _ _ _ (if t0 ≤ l3 then some (t0, M) else some (l3, M))
  refine x_istore C (lv' := [(4, Value.int t0), (3, Value.int l3)]) (k_dg dt_X12_byLeft_0 25 35 (.istore 4) 2 rfl) (by decide) rfl ?_
  refine x_iload_n C (k_dg dt_X12_byLeft_0 26 37 (.iload_n 3) 1 rfl) 1 rfl ?_
  refine x_iload C (k_dg dt_X12_byLeft_0 27 38 (.iload 4) 2 rfl) 0 rfl ?_
  refine x_icmp_ge C (tgt := 47) (k_dg dt_X12_byLeft_0 28 40 (.if_icmp .ge 7) 3 rfl) (by decide) (fun _ => ?_) (fun _ => ?_)
  · refine x_iload C (k_dg dt_X12_byLeft_0 31 47 (.iload 4) 2 rfl) 0 rfl ?_
    exact x_iret C (by decide) (by decide) (k_dg dt_X12_byLeft_0 32 49 (.ireturn) 1 rfl)
  · refine x_iload_n C (k_dg dt_X12_byLeft_0 29 43 (.iload_n 3) 1 rfl) 1 rfl ?_
    refine x_goto C (tgt := 49) (k_dg dt_X12_byLeft_0 30 44 (.goto 5) 3 rfl) (by decide) ?_
    exact x_iret C (by decide) (by decide) (k_dg dt_X12_byLeft_0 32 49 (.ireturn) 1 rfl)
def f_X12_byLeft (p1 : Int32) (p2 : Int32) (p3 : Int32) (M : k_M) : Option (Int32 × k_M) := bd (f_X12_its p2 0 M) (fun r1 M2 => if r1 = 5 then rdI M2 82 1100 ((p1 + 5) + p2) (fun v4 => f_X12_byLeft_35 p3 (v4 / 2) M2) else rdI M2 82 1100 ((p1 + 5) + p2) (fun v3 => f_X12_byLeft_35 p3 v3 M2))
theorem m_X12_byLeft_0 {Z : k_Z} {G : k_G} (C : k_C Z G RX12 cX12_byLeft (true, 5, 2, 0, 0) (some .int) "byLeft") (p1 : Int32) (p2 : Int32) (p3 : Int32) (M : k_M) : Sm Z G emI (true, 5, 2, 0, 0) (0, 0) 0 [(0, k_ra Z 76), (1, Value.int p1), (2, Value.int p2), (3, Value.int p3)] [] M (f_X12_byLeft p1 p2 p3 M) := by
  show Sm Z G emI _ _ _ _ _ _ (bd (f_X12_its p2 0 M) (fun r1 M2 => if r1 = 5 then rdI M2 82 1100 ((p1 + 5) + p2) (fun v4 => f_X12_byLeft_35 p3 (v4 / 2) M2) else rdI M2 82 1100 ((p1 + 5) + p2) (fun v3 => f_X12_byLeft_35 p3 v3 M2)))
  refine x_aload_n C (k_dg dt_X12_byLeft_0 0 0 (.aload_n 0) 1 rfl) 0 rfl ?_
  refine x_iload_n C (k_dg dt_X12_byLeft_0 1 1 (.iload_n 2) 1 rfl) 2 rfl ?_
  refine x_iconst C (v := 0) (k_dg dt_X12_byLeft_0 2 2 (.iconst 0) 1 rfl) (by decide) ?_
  refine x_callV C (a := 76) (kd := 10) (vs := [Value.int p2, Value.int 0]) (rest := []) rfl rfl (by decide) (fun r hr => by cases hr; rfl) (c_X12_its C.2.2.2.2.2.2.2.2.2 G.2.1 p2 0 M) cy_X12_its lk_RX12_214 im_X12_its se_X12_its (by decide) (by decide) (by decide) (by decide) rfl rfl (Nat.le_of_ble_eq_true rfl) (k_dg dt_X12_byLeft_0 3 3 (.invokevirtual 214) 3 rfl) (fun r1 M2 => ?_)
  show Sm Z G _ _ _ _ [(0, k_ra Z 76), (1, Value.int p1), (2, Value.int p2), (3, Value.int p3)] [Value.int r1] _ _
  refine x_iconst C (v := 5) (k_dg dt_X12_byLeft_0 4 6 (.iconst 5) 1 rfl) (by decide) ?_
  refine x_icmp_ne C (tgt := 25) (k_dg dt_X12_byLeft_0 5 7 (.if_icmp .ne 18) 3 rfl) (by decide) (fun _ => ?_) (fun _ => ?_)
  · refine x_aload_n C (k_dg dt_X12_byLeft_0 6 10 (.aload_n 0) 1 rfl) 0 rfl ?_
    refine x_getR C (a := 76) (j := 10) 82 rfl rfl (by decide) fl_RX12_25 rfl rfl rfl (k_dg dt_X12_byLeft_0 7 11 (.getfield 25) 3 rfl) ?_
    refine x_iload_n C (k_dg dt_X12_byLeft_0 8 14 (.iload_n 1) 1 rfl) 1 rfl ?_
    refine x_iconst C (v := 5) (k_dg dt_X12_byLeft_0 9 15 (.iconst 5) 1 rfl) (by decide) ?_
    refine x_iadd C (k_dg dt_X12_byLeft_0 10 16 (.iadd) 1 rfl) ?_
    refine x_iload_n C (k_dg dt_X12_byLeft_0 11 17 (.iload_n 2) 1 rfl) 2 rfl ?_
    refine x_iadd C (k_dg dt_X12_byLeft_0 12 18 (.iadd) 1 rfl) ?_
    refine x_iald C (a := 82) (n := 1100) rfl rfl (k_dg dt_X12_byLeft_0 13 19 (.iaload) 1 rfl) (fun v4 => ?_)
    refine x_iconst C (v := 2) (k_dg dt_X12_byLeft_0 14 20 (.iconst 2) 1 rfl) (by decide) ?_
    refine x_idivC C (k_dg dt_X12_byLeft_0 15 21 (.idiv) 1 rfl) (by decide) ?_
    refine x_goto C (tgt := 35) (k_dg dt_X12_byLeft_0 16 22 (.goto 13) 3 rfl) (by decide) ?_
    refine x_lv [3] rfl ?_
    exact m_X12_byLeft_35 C p3 (v4 / 2) M2
  · refine x_aload_n C (k_dg dt_X12_byLeft_0 17 25 (.aload_n 0) 1 rfl) 0 rfl ?_
    refine x_getR C (a := 76) (j := 10) 82 rfl rfl (by decide) fl_RX12_25 rfl rfl rfl (k_dg dt_X12_byLeft_0 18 26 (.getfield 25) 3 rfl) ?_
    refine x_iload_n C (k_dg dt_X12_byLeft_0 19 29 (.iload_n 1) 1 rfl) 1 rfl ?_
    refine x_iconst C (v := 5) (k_dg dt_X12_byLeft_0 20 30 (.iconst 5) 1 rfl) (by decide) ?_
    refine x_iadd C (k_dg dt_X12_byLeft_0 21 31 (.iadd) 1 rfl) ?_
    refine x_iload_n C (k_dg dt_X12_byLeft_0 22 32 (.iload_n 2) 1 rfl) 2 rfl ?_
    refine x_iadd C (k_dg dt_X12_byLeft_0 23 33 (.iadd) 1 rfl) ?_
    refine x_iald C (a := 82) (n := 1100) rfl rfl (k_dg dt_X12_byLeft_0 24 34 (.iaload) 1 rfl) (fun v3 => ?_)
    refine x_lv [3] rfl ?_
    exact m_X12_byLeft_35 C p3 v3 M2
theorem c_X12_byLeft {Z : k_Z} (hg : k_Gd Z) (l : Launch) (p1 : Int32) (p2 : Int32) (p3 : Int32) (M : k_M) : Con true Z l yX12_byLeft cX12_byLeft 5 (some .int) 2 0 0 emI [k_ra Z 76, Value.int p1, Value.int p2, Value.int p3] M (f_X12_byLeft p1 p2 p3 M) := k_con hg (by decide) (Nat.le_of_ble_eq_true rfl) (fun G hl C => m_X12_byLeft_0 C p1 p2 p3 M)
theorem dt_X12_byRoom_0 : k_dec cX12_byRoom [(0, .aload_n 0, 1), (1, .getfield 16, 3), (4, .bipush 6, 2), (6, .iaload, 1), (7, .aload_n 0, 1), (8, .getfield 25, 3), (11, .iload_n 1, 1), (12, .iconst 2, 1), (13, .iadd, 1), (14, .iload_n 2, 1), (15, .iadd, 1), (16, .iaload, 1), (17, .isub, 1), (18, .istore 4, 2), (20, .iload 4, 2), (22, .ifCond .ge 7, 3), (25, .iconst 0, 1), (26, .goto 15, 3), (29, .iload_n 3, 1), (30, .iload 4, 2), (32, .if_icmp .ge 7, 3), (35, .iload_n 3, 1), (36, .goto 5, 3), (39, .iload 4, 2), (41, .ireturn, 1)] = true := by decide +kernel
def f_X12_byRoom (p1 : Int32) (p2 : Int32) (p3 : Int32) (M : k_M) : Option (Int32 × k_M) := rdI M 79 13 6 (fun v1 => rdI M 82 1100 ((p1 + 2) + p2) (fun v2 => bN (v1 - v2) (fun v3 => if 0 ≤ v3 then if v3 ≤ p3 then some (v3, M) else some (p3, M) else some (0, M))))
theorem m_X12_byRoom_0 {Z : k_Z} {G : k_G} (C : k_C Z G RX12 cX12_byRoom (true, 5, 1, 0, 0) (some .int) "byRoom") (p1 : Int32) (p2 : Int32) (p3 : Int32) (M : k_M) : Sm Z G emI (true, 5, 1, 0, 0) (0, 0) 0 [(0, k_ra Z 76), (1, Value.int p1), (2, Value.int p2), (3, Value.int p3)] [] M (f_X12_byRoom p1 p2 p3 M) := by
  show Sm Z G emI _ _ _ _ _ _ (rdI M 79 13 6 (fun v1 => rdI M 82 1100 ((p1 + 2) + p2) (fun v2 => bN (v1 - v2) (fun v3 => if 0 ≤ v3 then if v3 ≤ p3 then some (v3, M) else some (p3, M) else some (0, M)))))
  refine x_aload_n C (k_dg dt_X12_byRoom_0 0 0 (.aload_n 0) 1 rfl) 0 rfl ?_
  refine x_getR C (a := 76) (j := 4) 79 rfl rfl (by decide) fl_RX12_16 rfl rfl rfl (k_dg dt_X12_byRoom_0 1 1 (.getfield 16) 3 rfl) ?_
  refine x_bipush C (v := 6) (k_dg dt_X12_byRoom_0 2 4 (.bipush 6) 2 rfl) (by decide) ?_
  refine x_iald C (a := 79) (n := 13) rfl rfl (k_dg dt_X12_byRoom_0 3 6 (.iaload) 1 rfl) (fun v1 => ?_)
  refine x_aload_n C (k_dg dt_X12_byRoom_0 4 7 (.aload_n 0) 1 rfl) 0 rfl ?_
  refine x_getR C (a := 76) (j := 10) 82 rfl rfl (by decide) fl_RX12_25 rfl rfl rfl (k_dg dt_X12_byRoom_0 5 8 (.getfield 25) 3 rfl) ?_
  refine x_iload_n C (k_dg dt_X12_byRoom_0 6 11 (.iload_n 1) 1 rfl) 1 rfl ?_
  refine x_iconst C (v := 2) (k_dg dt_X12_byRoom_0 7 12 (.iconst 2) 1 rfl) (by decide) ?_
  refine x_iadd C (k_dg dt_X12_byRoom_0 8 13 (.iadd) 1 rfl) ?_
  refine x_iload_n C (k_dg dt_X12_byRoom_0 9 14 (.iload_n 2) 1 rfl) 2 rfl ?_
  refine x_iadd C (k_dg dt_X12_byRoom_0 10 15 (.iadd) 1 rfl) ?_
  refine x_iald C (a := 82) (n := 1100) rfl rfl (k_dg dt_X12_byRoom_0 11 16 (.iaload) 1 rfl) (fun v2 => ?_)
  refine x_isub C (k_dg dt_X12_byRoom_0 12 17 (.isub) 1 rfl) ?_
  refine x_nm (w := Value.int) (fun v3 _ => ?_)
  refine x_istore C (lv' := [(4, Value.int v3), (0, k_ra Z 76), (1, Value.int p1), (2, Value.int p2), (3, Value.int p3)]) (k_dg dt_X12_byRoom_0 13 18 (.istore 4) 2 rfl) (by decide) rfl ?_
  refine x_iload C (k_dg dt_X12_byRoom_0 14 20 (.iload 4) 2 rfl) 0 rfl ?_
  refine x_if_ge C (tgt := 29) (k_dg dt_X12_byRoom_0 15 22 (.ifCond .ge 7) 3 rfl) (by decide) (fun _ => ?_) (fun _ => ?_)
  · refine x_iload_n C (k_dg dt_X12_byRoom_0 18 29 (.iload_n 3) 1 rfl) 4 rfl ?_
    refine x_iload C (k_dg dt_X12_byRoom_0 19 30 (.iload 4) 2 rfl) 0 rfl ?_
    refine x_icmp_ge C (tgt := 39) (k_dg dt_X12_byRoom_0 20 32 (.if_icmp .ge 7) 3 rfl) (by decide) (fun _ => ?_) (fun _ => ?_)
    · refine x_iload C (k_dg dt_X12_byRoom_0 23 39 (.iload 4) 2 rfl) 0 rfl ?_
      exact x_iret C (by decide) (by decide) (k_dg dt_X12_byRoom_0 24 41 (.ireturn) 1 rfl)
    · refine x_iload_n C (k_dg dt_X12_byRoom_0 21 35 (.iload_n 3) 1 rfl) 4 rfl ?_
      refine x_goto C (tgt := 41) (k_dg dt_X12_byRoom_0 22 36 (.goto 5) 3 rfl) (by decide) ?_
      exact x_iret C (by decide) (by decide) (k_dg dt_X12_byRoom_0 24 41 (.ireturn) 1 rfl)
  · refine x_iconst C (v := 0) (k_dg dt_X12_byRoom_0 16 25 (.iconst 0) 1 rfl) (by decide) ?_
    refine x_goto C (tgt := 41) (k_dg dt_X12_byRoom_0 17 26 (.goto 15) 3 rfl) (by decide) ?_
    exact x_iret C (by decide) (by decide) (k_dg dt_X12_byRoom_0 24 41 (.ireturn) 1 rfl)
theorem c_X12_byRoom {Z : k_Z} (hg : k_Gd Z) (l : Launch) (p1 : Int32) (p2 : Int32) (p3 : Int32) (M : k_M) : Con true Z l yX12_byRoom cX12_byRoom 5 (some .int) 1 0 0 emI [k_ra Z 76, Value.int p1, Value.int p2, Value.int p3] M (f_X12_byRoom p1 p2 p3 M) := k_con hg (by decide) (Nat.le_of_ble_eq_true rfl) (fun G hl C => m_X12_byRoom_0 C p1 p2 p3 M)
theorem dt_X12_isWet_0 : k_dec cX12_isWet [(0, .iload_n 2, 1), (1, .iconst 2, 1), (2, .if_icmp .ne 26, 3), (5, .aload_n 0, 1), (6, .getfield 226, 3), (9, .iload_n 1, 1), (10, .bipush 31, 2), (12, .iand, 1), (13, .ishr, 1), (14, .iconst 1, 1), (15, .iand, 1), (16, .iconst 1, 1), (17, .if_icmp .ne 7, 3), (20, .iconst 1, 1), (21, .goto 17, 3), (24, .iconst 0, 1), (25, .goto 13, 3), (28, .iload_n 2, 1), (29, .iconst 1, 1), (30, .if_icmp .ne 7, 3), (33, .iconst 1, 1), (34, .goto 4, 3), (37, .iconst 0, 1), (38, .ireturn, 1)] = true := by decide +kernel
def f_X12_isWet (p1 : Int32) (p2 : Int32) (M : k_M) : Option (Int32 × k_M) := if p2 = 2 then if (((M.1 76 6) >>> ((p1 &&& 31) &&& 31)) &&& 1) = 1 then some (1, M) else some (0, M) else if p2 = 1 then some (1, M) else some (0, M)
theorem m_X12_isWet_0 {Z : k_Z} {G : k_G} (C : k_C Z G RX12 cX12_isWet (true, 3, 1, 0, 0) (some .boolean) "isWet") (p1 : Int32) (p2 : Int32) (M : k_M) : Sm Z G emI (true, 3, 1, 0, 0) (0, 0) 0 [(0, k_ra Z 76), (1, Value.int p1), (2, Value.int p2)] [] M (f_X12_isWet p1 p2 M) := by
  show Sm Z G emI _ _ _ _ _ _ (if p2 = 2 then if (((M.1 76 6) >>> ((p1 &&& 31) &&& 31)) &&& 1) = 1 then some (1, M) else some (0, M) else if p2 = 1 then some (1, M) else some (0, M))
  refine x_iload_n C (k_dg dt_X12_isWet_0 0 0 (.iload_n 2) 1 rfl) 2 rfl ?_
  refine x_iconst C (v := 2) (k_dg dt_X12_isWet_0 1 1 (.iconst 2) 1 rfl) (by decide) ?_
  refine x_icmp_ne C (tgt := 28) (k_dg dt_X12_isWet_0 2 2 (.if_icmp .ne 26) 3 rfl) (by decide) (fun _ => ?_) (fun _ => ?_)
  · refine x_aload_n C (k_dg dt_X12_isWet_0 3 5 (.aload_n 0) 1 rfl) 0 rfl ?_
    refine x_getI C (a := 76) (j := 6) rfl rfl (by decide) fl_RX12_226 rfl (k_dg dt_X12_isWet_0 4 6 (.getfield 226) 3 rfl) ?_
    refine x_iload_n C (k_dg dt_X12_isWet_0 5 9 (.iload_n 1) 1 rfl) 1 rfl ?_
    refine x_bipush C (v := 31) (k_dg dt_X12_isWet_0 6 10 (.bipush 31) 2 rfl) (by decide) ?_
    refine x_iand C (k_dg dt_X12_isWet_0 7 12 (.iand) 1 rfl) ?_
    refine x_ishr C (k_dg dt_X12_isWet_0 8 13 (.ishr) 1 rfl) ?_
    refine x_iconst C (v := 1) (k_dg dt_X12_isWet_0 9 14 (.iconst 1) 1 rfl) (by decide) ?_
    refine x_iand C (k_dg dt_X12_isWet_0 10 15 (.iand) 1 rfl) ?_
    refine x_iconst C (v := 1) (k_dg dt_X12_isWet_0 11 16 (.iconst 1) 1 rfl) (by decide) ?_
    refine x_icmp_ne C (tgt := 24) (k_dg dt_X12_isWet_0 12 17 (.if_icmp .ne 7) 3 rfl) (by decide) (fun _ => ?_) (fun _ => ?_)
    · refine x_iconst C (v := 1) (k_dg dt_X12_isWet_0 13 20 (.iconst 1) 1 rfl) (by decide) ?_
      refine x_goto C (tgt := 38) (k_dg dt_X12_isWet_0 14 21 (.goto 17) 3 rfl) (by decide) ?_
      exact x_zret C (by decide) (by decide) rfl (k_dg dt_X12_isWet_0 23 38 (.ireturn) 1 rfl)
    · refine x_iconst C (v := 0) (k_dg dt_X12_isWet_0 15 24 (.iconst 0) 1 rfl) (by decide) ?_
      refine x_goto C (tgt := 38) (k_dg dt_X12_isWet_0 16 25 (.goto 13) 3 rfl) (by decide) ?_
      exact x_zret C (by decide) (by decide) rfl (k_dg dt_X12_isWet_0 23 38 (.ireturn) 1 rfl)
  · refine x_iload_n C (k_dg dt_X12_isWet_0 17 28 (.iload_n 2) 1 rfl) 2 rfl ?_
    refine x_iconst C (v := 1) (k_dg dt_X12_isWet_0 18 29 (.iconst 1) 1 rfl) (by decide) ?_
    refine x_icmp_ne C (tgt := 37) (k_dg dt_X12_isWet_0 19 30 (.if_icmp .ne 7) 3 rfl) (by decide) (fun _ => ?_) (fun _ => ?_)
    · refine x_iconst C (v := 1) (k_dg dt_X12_isWet_0 20 33 (.iconst 1) 1 rfl) (by decide) ?_
      refine x_goto C (tgt := 38) (k_dg dt_X12_isWet_0 21 34 (.goto 4) 3 rfl) (by decide) ?_
      exact x_zret C (by decide) (by decide) rfl (k_dg dt_X12_isWet_0 23 38 (.ireturn) 1 rfl)
    · refine x_iconst C (v := 0) (k_dg dt_X12_isWet_0 22 37 (.iconst 0) 1 rfl) (by decide) ?_
      exact x_zret C (by decide) (by decide) rfl (k_dg dt_X12_isWet_0 23 38 (.ireturn) 1 rfl)
theorem c_X12_isWet {Z : k_Z} (hg : k_Gd Z) (l : Launch) (p1 : Int32) (p2 : Int32) (M : k_M) : Con true Z l yX12_isWet cX12_isWet 3 (some .boolean) 1 0 0 emI [k_ra Z 76, Value.int p1, Value.int p2] M (f_X12_isWet p1 p2 M) := k_con hg (by decide) (Nat.le_of_ble_eq_true rfl) (fun G hl C => m_X12_isWet_0 C p1 p2 M)
theorem dt_X12_gets_0 : k_dec cX12_gets [(0, .aload_n 0, 1), (1, .getfield 25, 3), (4, .iload_n 1, 1), (5, .iaload, 1), (6, .istore_n 3, 1), (7, .aload_n 0, 1), (8, .iload_n 3, 1), (9, .iconst 0, 1), (10, .invokevirtual 214, 3), (13, .istore 4, 2), (15, .iload 4, 2), (17, .invokestatic 235, 3), (20, .istore 5, 2), (22, .iload 5, 2), (24, .ifCond .ge 4, 3), (27, .return_, 1), (28, .aload_n 0, 1), (29, .getfield 25, 3), (32, .iload_n 1, 1), (33, .iconst 1, 1), (34, .iadd, 1), (35, .iaload, 1), (36, .istore 6, 2), (38, .aload_n 0, 1), (39, .iload_n 3, 1), (40, .iconst 1, 1), (41, .invokevirtual 214, 3), (44, .istore 7, 2), (46, .iload 4, 2), (48, .iconst 4, 1), (49, .if_icmp .ne 20, 3), (52, .iload 6, 2), (54, .invokestatic 229, 3), (57, .iconst 2, 1), (58, .irem, 1), (59, .ifCond .ne 10, 3), (62, .iconst 2, 1), (63, .iload 7, 2), (65, .imul, 1), (66, .goto 5, 3)] = true := by decide +kernel
theorem dt_X12_gets_1 : k_dec cX12_gets [(69, .iload 7, 2), (71, .istore 7, 2), (73, .iload 4, 2), (75, .iconst 3, 1), (76, .if_icmp .ne 17, 3), (79, .aload_n 0, 1), (80, .iload 6, 2), (82, .iload_n 2, 1), (83, .invokevirtual 238, 3), (86, .ifCond .ne 7, 3), (89, .iconst 0, 1), (90, .goto 5, 3), (93, .iload 7, 2), (95, .istore 7, 2), (97, .aload_n 0, 1), (98, .iload_n 1, 1), (99, .iload 5, 2), (101, .aload_n 0, 1), (102, .iload_n 1, 1), (103, .iload_n 3, 1), (104, .iload 7, 2), (106, .invokevirtual 242, 3), (109, .invokevirtual 246, 3), (112, .istore 7, 2), (114, .aload_n 0, 1), (115, .getfield 25, 3), (118, .iload_n 1, 1), (119, .iconst 2, 1), (120, .iadd, 1), (121, .iload 5, 2), (123, .iadd, 1), (124, .dup2, 1), (125, .iaload, 1), (126, .iload 7, 2), (128, .iadd, 1), (129, .iastore, 1), (130, .aload_n 0, 1), (131, .getfield 25, 3), (134, .iload_n 1, 1), (135, .iconst 5, 1)] = true := by decide +kernel
theorem dt_X12_gets_2 : k_dec cX12_gets [(136, .iadd, 1), (137, .iload_n 3, 1), (138, .iadd, 1), (139, .dup2, 1), (140, .iaload, 1), (141, .iload 4, 2), (143, .invokestatic 181, 3), (146, .ifCond .eq 7, 3), (149, .iconst 0, 1), (150, .goto 18, 3), (153, .iload 4, 2), (155, .iconst 5, 1), (156, .if_icmp .ne 10, 3), (159, .iconst 2, 1), (160, .iload 7, 2), (162, .imul, 1), (163, .goto 5, 3), (166, .iload 7, 2), (168, .isub, 1), (169, .iastore, 1), (170, .return_, 1)] = true := by decide +kernel
def f_X12_gets_168 (t1 : Int32) (t2 : Int32) (t3 : Int32) (M : k_M) : Option (Unit × k_M) := wrI M 82 1100 t1 (t2 - t3) (fun M1 => some ((), M1))
theorem m_X12_gets_168 {Z : k_Z} {G : k_G} (C : k_C Z G RX12 cX12_gets (true, 8, 3, 0, 0) none "gets") (t1 : Int32) (t2 : Int32) (t3 : Int32) (M : k_M) : Sm Z G emV (true, 8, 3, 0, 0) (0, 0) 168 [] [Value.int t3, Value.int t2, Value.int t1, k_ra Z 82] M (f_X12_gets_168 t1 t2 t3 M) := by
  show Sm Z G emV _ _ _ _ _ _ (wrI M 82 1100 t1 (t2 - t3) (fun M1 => some ((), M1)))
  refine x_isub C (k_dg dt_X12_gets_2 18 168 (.isub) 1 rfl) ?_
  refine x_iast C (a := 82) (n := 1100) rfl rfl (k_dg dt_X12_gets_2 19 169 (.iastore) 1 rfl) (fun M1 => ?_)
  exact x_vret C (by decide) (by decide) (k_dg dt_X12_gets_2 20 170 (.return_) 1 rfl)
def f_X12_gets_95 (l1 : Int32) (l3 : Int32) (l4 : Int32) (l5 : Int32) (t0 : Int32) (M : k_M) : Option (Unit × k_M) := bd (f_X12_byLeft l1 l3 t0 M) (fun r1 M2 => bd (f_X12_byRoom l1 l5 r1 M2) (fun r3 M4 => rdI M4 82 1100 ((l1 + 2) + l5) (fun v5 => wrI M4 82 1100 ((l1 + 2) + l5) (v5 + r3) (fun M6 => rdI M6 82 1100 ((l1 + 5) + l3) (fun v7 => bd (f_X12_isEndless l4 M6) (fun r8 M9 => if r8 = 0 then if l4 = 5 then f_X12_gets_168 ((l1 + 5) + l3) v7 (2 * r3) M9 else f_X12_gets_168 ((l1 + 5) + l3) v7 r3 M9 else f_X12_gets_168 ((l1 + 5) + l3) v7 0 M9))))))
theorem m_X12_gets_95 {Z : k_Z} {G : k_G} (C : k_C Z G RX12 cX12_gets (true, 8, 3, 0, 0) none "gets") (l1 : Int32) (l3 : Int32) (l4 : Int32) (l5 : Int32) (t0 : Int32) (M : k_M) : Sm Z G emV (true, 8, 3, 0, 0) (0, 0) 95 [(0, k_ra Z 76), (1, Value.int l1), (3, Value.int l3), (4, Value.int l4), (5, Value.int l5)] [Value.int t0] M (f_X12_gets_95 l1 l3 l4 l5 t0 M) := by
  show Sm Z G emV _ _ _ _ _ _ (bd (f_X12_byLeft l1 l3 t0 M) (fun r1 M2 => bd (f_X12_byRoom l1 l5 r1 M2) (fun r3 M4 => rdI M4 82 1100 ((l1 + 2) + l5) (fun v5 => wrI M4 82 1100 ((l1 + 2) + l5) (v5 + r3) (fun M6 => rdI M6 82 1100 ((l1 + 5) + l3) (fun v7 => bd (f_X12_isEndless l4 M6) (fun r8 M9 => if r8 = 0 then if l4 = 5 then f_X12_gets_168 ((l1 + 5) + l3) v7 (2 * r3) M9 else f_X12_gets_168 ((l1 + 5) + l3) v7 r3 M9 else f_X12_gets_168 ((l1 + 5) + l3) v7 0 M9)))))))
  refine x_istore C (lv' := [(7, Value.int t0), (0, k_ra Z 76), (1, Value.int l1), (3, Value.int l3), (4, Value.int l4), (5, Value.int l5)]) (k_dg dt_X12_gets_1 13 95 (.istore 7) 2 rfl) (by decide) rfl ?_
  refine x_aload_n C (k_dg dt_X12_gets_1 14 97 (.aload_n 0) 1 rfl) 1 rfl ?_
  refine x_iload_n C (k_dg dt_X12_gets_1 15 98 (.iload_n 1) 1 rfl) 2 rfl ?_
  refine x_iload C (k_dg dt_X12_gets_1 16 99 (.iload 5) 2 rfl) 5 rfl ?_
  refine x_aload_n C (k_dg dt_X12_gets_1 17 101 (.aload_n 0) 1 rfl) 1 rfl ?_
  refine x_iload_n C (k_dg dt_X12_gets_1 18 102 (.iload_n 1) 1 rfl) 2 rfl ?_
  refine x_iload_n C (k_dg dt_X12_gets_1 19 103 (.iload_n 3) 1 rfl) 3 rfl ?_
  refine x_iload C (k_dg dt_X12_gets_1 20 104 (.iload 7) 2 rfl) 0 rfl ?_
  refine x_callV C (a := 76) (kd := 10) (vs := [Value.int l1, Value.int l3, Value.int t0]) (rest := [Value.int l5, Value.int l1, k_ra Z 76]) rfl rfl (by decide) (fun r hr => by cases hr; rfl) (c_X12_byLeft C.2.2.2.2.2.2.2.2.2 G.2.1 l1 l3 t0 M) cy_X12_byLeft lk_RX12_242 im_X12_byLeft se_X12_byLeft (by decide) (by decide) (by decide) (by decide) rfl rfl (Nat.le_of_ble_eq_true rfl) (k_dg dt_X12_gets_1 21 106 (.invokevirtual 242) 3 rfl) (fun r1 M2 => ?_)
  show Sm Z G _ _ _ _ [(7, Value.int t0), (0, k_ra Z 76), (1, Value.int l1), (3, Value.int l3), (4, Value.int l4), (5, Value.int l5)] [Value.int r1, Value.int l5, Value.int l1, k_ra Z 76] _ _
  refine x_callV C (a := 76) (kd := 10) (vs := [Value.int l1, Value.int l5, Value.int r1]) (rest := []) rfl rfl (by decide) (fun r hr => by cases hr; rfl) (c_X12_byRoom C.2.2.2.2.2.2.2.2.2 G.2.1 l1 l5 r1 M2) cy_X12_byRoom lk_RX12_246 im_X12_byRoom se_X12_byRoom (by decide) (by decide) (by decide) (by decide) rfl rfl (Nat.le_of_ble_eq_true rfl) (k_dg dt_X12_gets_1 22 109 (.invokevirtual 246) 3 rfl) (fun r3 M4 => ?_)
  show Sm Z G _ _ _ _ [(7, Value.int t0), (0, k_ra Z 76), (1, Value.int l1), (3, Value.int l3), (4, Value.int l4), (5, Value.int l5)] [Value.int r3] _ _
  refine x_istore C (lv' := [(7, Value.int r3), (0, k_ra Z 76), (1, Value.int l1), (3, Value.int l3), (4, Value.int l4), (5, Value.int l5)]) (k_dg dt_X12_gets_1 23 112 (.istore 7) 2 rfl) (by decide) rfl ?_
  refine x_aload_n C (k_dg dt_X12_gets_1 24 114 (.aload_n 0) 1 rfl) 1 rfl ?_
  refine x_getR C (a := 76) (j := 10) 82 rfl rfl (by decide) fl_RX12_25 rfl rfl rfl (k_dg dt_X12_gets_1 25 115 (.getfield 25) 3 rfl) ?_
  refine x_iload_n C (k_dg dt_X12_gets_1 26 118 (.iload_n 1) 1 rfl) 2 rfl ?_
  refine x_iconst C (v := 2) (k_dg dt_X12_gets_1 27 119 (.iconst 2) 1 rfl) (by decide) ?_
  refine x_iadd C (k_dg dt_X12_gets_1 28 120 (.iadd) 1 rfl) ?_
  refine x_iload C (k_dg dt_X12_gets_1 29 121 (.iload 5) 2 rfl) 5 rfl ?_
  refine x_iadd C (k_dg dt_X12_gets_1 30 123 (.iadd) 1 rfl) ?_
  refine x_dup2 C (k_dg dt_X12_gets_1 31 124 (.dup2) 1 rfl) rfl rfl ?_
  refine x_iald C (a := 82) (n := 1100) rfl rfl (k_dg dt_X12_gets_1 32 125 (.iaload) 1 rfl) (fun v5 => ?_)
  refine x_iload C (k_dg dt_X12_gets_1 33 126 (.iload 7) 2 rfl) 0 rfl ?_
  refine x_iadd C (k_dg dt_X12_gets_1 34 128 (.iadd) 1 rfl) ?_
  refine x_iast C (a := 82) (n := 1100) rfl rfl (k_dg dt_X12_gets_1 35 129 (.iastore) 1 rfl) (fun M6 => ?_)
  refine x_aload_n C (k_dg dt_X12_gets_1 36 130 (.aload_n 0) 1 rfl) 1 rfl ?_
  refine x_getR C (a := 76) (j := 10) 82 rfl rfl (by decide) fl_RX12_25 rfl rfl rfl (k_dg dt_X12_gets_1 37 131 (.getfield 25) 3 rfl) ?_
  refine x_iload_n C (k_dg dt_X12_gets_1 38 134 (.iload_n 1) 1 rfl) 2 rfl ?_
  refine x_iconst C (v := 5) (k_dg dt_X12_gets_1 39 135 (.iconst 5) 1 rfl) (by decide) ?_
  refine x_iadd C (k_dg dt_X12_gets_2 0 136 (.iadd) 1 rfl) ?_
  refine x_iload_n C (k_dg dt_X12_gets_2 1 137 (.iload_n 3) 1 rfl) 3 rfl ?_
  refine x_iadd C (k_dg dt_X12_gets_2 2 138 (.iadd) 1 rfl) ?_
  refine x_dup2 C (k_dg dt_X12_gets_2 3 139 (.dup2) 1 rfl) rfl rfl ?_
  refine x_iald C (a := 82) (n := 1100) rfl rfl (k_dg dt_X12_gets_2 4 140 (.iaload) 1 rfl) (fun v7 => ?_)
  refine x_iload C (k_dg dt_X12_gets_2 5 141 (.iload 4) 2 rfl) 4 rfl ?_
  refine x_callS C (vs := [Value.int l4]) (rest := [Value.int v7, Value.int ((l1 + 5) + l3), k_ra Z 82]) (c_X12_isEndless C.2.2.2.2.2.2.2.2.2 G.2.1 l4 M6) cy_X12_isEndless lk_RX12_181 stt_X12_isEndless (by decide) (by decide) (by decide) (by decide) rfl rfl (Nat.le_of_ble_eq_true rfl) (k_dg dt_X12_gets_2 6 143 (.invokestatic 181) 3 rfl) (fun r8 M9 => ?_)
  show Sm Z G _ _ _ _ [(7, Value.int r3), (0, k_ra Z 76), (1, Value.int l1), (3, Value.int l3), (4, Value.int l4), (5, Value.int l5)] [Value.int r8, Value.int v7, Value.int ((l1 + 5) + l3), k_ra Z 82] _ _
  refine x_if_eq C (tgt := 153) (k_dg dt_X12_gets_2 7 146 (.ifCond .eq 7) 3 rfl) (by decide) (fun _ => ?_) (fun _ => ?_)
  · refine x_iload C (k_dg dt_X12_gets_2 10 153 (.iload 4) 2 rfl) 4 rfl ?_
    refine x_iconst C (v := 5) (k_dg dt_X12_gets_2 11 155 (.iconst 5) 1 rfl) (by decide) ?_
    refine x_icmp_ne C (tgt := 166) (k_dg dt_X12_gets_2 12 156 (.if_icmp .ne 10) 3 rfl) (by decide) (fun _ => ?_) (fun _ => ?_)
    · refine x_iconst C (v := 2) (k_dg dt_X12_gets_2 13 159 (.iconst 2) 1 rfl) (by decide) ?_
      refine x_iload C (k_dg dt_X12_gets_2 14 160 (.iload 7) 2 rfl) 0 rfl ?_
      refine x_imul C (k_dg dt_X12_gets_2 15 162 (.imul) 1 rfl) ?_
      refine x_goto C (tgt := 168) (k_dg dt_X12_gets_2 16 163 (.goto 5) 3 rfl) (by decide) ?_
      refine x_lv [] rfl ?_
      exact m_X12_gets_168 C ((l1 + 5) + l3) v7 (2 * r3) M9
    · refine x_iload C (k_dg dt_X12_gets_2 17 166 (.iload 7) 2 rfl) 0 rfl ?_
      refine x_lv [] rfl ?_
      exact m_X12_gets_168 C ((l1 + 5) + l3) v7 r3 M9
  · refine x_iconst C (v := 0) (k_dg dt_X12_gets_2 8 149 (.iconst 0) 1 rfl) (by decide) ?_
    refine x_goto C (tgt := 168) (k_dg dt_X12_gets_2 9 150 (.goto 18) 3 rfl) (by decide) ?_
    refine x_lv [] rfl ?_
    exact m_X12_gets_168 C ((l1 + 5) + l3) v7 0 M9
def f_X12_gets_93 (l1 : Int32) (l3 : Int32) (l4 : Int32) (l5 : Int32) (l7 : Int32) (M : k_M) : Option (Unit × k_M) := f_X12_gets_95 l1 l3 l4 l5 l7 M
theorem m_X12_gets_93 {Z : k_Z} {G : k_G} (C : k_C Z G RX12 cX12_gets (true, 8, 3, 0, 0) none "gets") (l1 : Int32) (l3 : Int32) (l4 : Int32) (l5 : Int32) (l7 : Int32) (M : k_M) : Sm Z G emV (true, 8, 3, 0, 0) (0, 0) 93 [(0, k_ra Z 76), (1, Value.int l1), (3, Value.int l3), (4, Value.int l4), (5, Value.int l5), (7, Value.int l7)] [] M (f_X12_gets_93 l1 l3 l4 l5 l7 M) := by
  show Sm Z G emV _ _ _ _ _ _ (f_X12_gets_95 l1 l3 l4 l5 l7 M)
  refine x_iload C (k_dg dt_X12_gets_1 12 93 (.iload 7) 2 rfl) 5 rfl ?_
  refine x_lv [0, 1, 2, 3, 4] rfl ?_
  exact m_X12_gets_95 C l1 l3 l4 l5 l7 M
def f_X12_gets_71 (l1 : Int32) (l2 : Int32) (l3 : Int32) (l4 : Int32) (l5 : Int32) (l6 : Int32) (t0 : Int32) (M : k_M) : Option (Unit × k_M) := if l4 = 3 then bd (f_X12_isWet l6 l2 M) (fun r1 M2 => if r1 = 0 then f_X12_gets_95 l1 l3 l4 l5 0 M2 else f_X12_gets_93 l1 l3 l4 l5 t0 M2) else f_X12_gets_93 l1 l3 l4 l5 t0 M
theorem m_X12_gets_71 {Z : k_Z} {G : k_G} (C : k_C Z G RX12 cX12_gets (true, 8, 3, 0, 0) none "gets") (l1 : Int32) (l2 : Int32) (l3 : Int32) (l4 : Int32) (l5 : Int32) (l6 : Int32) (t0 : Int32) (M : k_M) : Sm Z G emV (true, 8, 3, 0, 0) (0, 0) 71 [(0, k_ra Z 76), (1, Value.int l1), (2, Value.int l2), (3, Value.int l3), (4, Value.int l4), (5, Value.int l5), (6, Value.int l6)] [Value.int t0] M (f_X12_gets_71 l1 l2 l3 l4 l5 l6 t0 M) := by
  show Sm Z G emV _ _ _ _ _ _ (if l4 = 3 then bd (f_X12_isWet l6 l2 M) (fun r1 M2 => if r1 = 0 then f_X12_gets_95 l1 l3 l4 l5 0 M2 else f_X12_gets_93 l1 l3 l4 l5 t0 M2) else f_X12_gets_93 l1 l3 l4 l5 t0 M)
  refine x_istore C (lv' := [(7, Value.int t0), (0, k_ra Z 76), (1, Value.int l1), (2, Value.int l2), (3, Value.int l3), (4, Value.int l4), (5, Value.int l5), (6, Value.int l6)]) (k_dg dt_X12_gets_1 1 71 (.istore 7) 2 rfl) (by decide) rfl ?_
  refine x_iload C (k_dg dt_X12_gets_1 2 73 (.iload 4) 2 rfl) 5 rfl ?_
  refine x_iconst C (v := 3) (k_dg dt_X12_gets_1 3 75 (.iconst 3) 1 rfl) (by decide) ?_
  refine x_icmp_ne C (tgt := 93) (k_dg dt_X12_gets_1 4 76 (.if_icmp .ne 17) 3 rfl) (by decide) (fun _ => ?_) (fun _ => ?_)
  · refine x_aload_n C (k_dg dt_X12_gets_1 5 79 (.aload_n 0) 1 rfl) 1 rfl ?_
    refine x_iload C (k_dg dt_X12_gets_1 6 80 (.iload 6) 2 rfl) 7 rfl ?_
    refine x_iload_n C (k_dg dt_X12_gets_1 7 82 (.iload_n 2) 1 rfl) 3 rfl ?_
    refine x_callV C (a := 76) (kd := 10) (vs := [Value.int l6, Value.int l2]) (rest := []) rfl rfl (by decide) (fun r hr => by cases hr; rfl) (c_X12_isWet C.2.2.2.2.2.2.2.2.2 G.2.1 l6 l2 M) cy_X12_isWet lk_RX12_238 im_X12_isWet se_X12_isWet (by decide) (by decide) (by decide) (by decide) rfl rfl (Nat.le_of_ble_eq_true rfl) (k_dg dt_X12_gets_1 8 83 (.invokevirtual 238) 3 rfl) (fun r1 M2 => ?_)
    show Sm Z G _ _ _ _ [(7, Value.int t0), (0, k_ra Z 76), (1, Value.int l1), (2, Value.int l2), (3, Value.int l3), (4, Value.int l4), (5, Value.int l5), (6, Value.int l6)] [Value.int r1] _ _
    refine x_if_ne C (tgt := 93) (k_dg dt_X12_gets_1 9 86 (.ifCond .ne 7) 3 rfl) (by decide) (fun _ => ?_) (fun _ => ?_)
    · refine x_iconst C (v := 0) (k_dg dt_X12_gets_1 10 89 (.iconst 0) 1 rfl) (by decide) ?_
      refine x_goto C (tgt := 95) (k_dg dt_X12_gets_1 11 90 (.goto 5) 3 rfl) (by decide) ?_
      refine x_lv [1, 2, 4, 5, 6] rfl ?_
      exact m_X12_gets_95 C l1 l3 l4 l5 0 M2
    · refine x_lv [1, 2, 4, 5, 6, 0] rfl ?_
      exact m_X12_gets_93 C l1 l3 l4 l5 t0 M2
  · refine x_lv [1, 2, 4, 5, 6, 0] rfl ?_
    exact m_X12_gets_93 C l1 l3 l4 l5 t0 M
def f_X12_gets_69 (l1 : Int32) (l2 : Int32) (l3 : Int32) (l4 : Int32) (l5 : Int32) (l6 : Int32) (l7 : Int32) (M : k_M) : Option (Unit × k_M) := f_X12_gets_71 l1 l2 l3 l4 l5 l6 l7 M
theorem m_X12_gets_69 {Z : k_Z} {G : k_G} (C : k_C Z G RX12 cX12_gets (true, 8, 3, 0, 0) none "gets") (l1 : Int32) (l2 : Int32) (l3 : Int32) (l4 : Int32) (l5 : Int32) (l6 : Int32) (l7 : Int32) (M : k_M) : Sm Z G emV (true, 8, 3, 0, 0) (0, 0) 69 [(0, k_ra Z 76), (1, Value.int l1), (2, Value.int l2), (3, Value.int l3), (4, Value.int l4), (5, Value.int l5), (6, Value.int l6), (7, Value.int l7)] [] M (f_X12_gets_69 l1 l2 l3 l4 l5 l6 l7 M) := by
  show Sm Z G emV _ _ _ _ _ _ (f_X12_gets_71 l1 l2 l3 l4 l5 l6 l7 M)
  refine x_iload C (k_dg dt_X12_gets_1 0 69 (.iload 7) 2 rfl) 7 rfl ?_
  refine x_lv [0, 1, 2, 3, 4, 5, 6] rfl ?_
  exact m_X12_gets_71 C l1 l2 l3 l4 l5 l6 l7 M
def f_X12_gets (p1 : Int32) (p2 : Int32) (M : k_M) : Option (Unit × k_M) := rdI M 82 1100 p1 (fun v1 => bd (f_X12_its v1 0 M) (fun r2 M3 => bd (f_X12_shedOf r2 M3) (fun r4 M5 => if 0 ≤ r4 then rdI M5 82 1100 (p1 + 1) (fun v6 => bd (f_X12_its v1 1 M5) (fun r7 M8 => if r2 = 4 then bd (f_X12_monthOf v6 M8) (fun r9 M10 => if (r9 - r9 / 2 * 2) = 0 then f_X12_gets_71 p1 p2 v1 r2 r4 v6 (2 * r7) M10 else f_X12_gets_69 p1 p2 v1 r2 r4 v6 r7 M10) else f_X12_gets_69 p1 p2 v1 r2 r4 v6 r7 M8)) else some ((), M5))))
theorem m_X12_gets_0 {Z : k_Z} {G : k_G} (C : k_C Z G RX12 cX12_gets (true, 8, 3, 0, 0) none "gets") (p1 : Int32) (p2 : Int32) (M : k_M) : Sm Z G emV (true, 8, 3, 0, 0) (0, 0) 0 [(0, k_ra Z 76), (1, Value.int p1), (2, Value.int p2)] [] M (f_X12_gets p1 p2 M) := by
  show Sm Z G emV _ _ _ _ _ _ (rdI M 82 1100 p1 (fun v1 => bd (f_X12_its v1 0 M) (fun r2 M3 => bd (f_X12_shedOf r2 M3) (fun r4 M5 => if 0 ≤ r4 then rdI M5 82 1100 (p1 + 1) (fun v6 => bd (f_X12_its v1 1 M5) (fun r7 M8 => if r2 = 4 then bd (f_X12_monthOf v6 M8) (fun r9 M10 => if (r9 - r9 / 2 * 2) = 0 then f_X12_gets_71 p1 p2 v1 r2 r4 v6 (2 * r7) M10 else f_X12_gets_69 p1 p2 v1 r2 r4 v6 r7 M10) else f_X12_gets_69 p1 p2 v1 r2 r4 v6 r7 M8)) else some ((), M5)))))
  refine x_aload_n C (k_dg dt_X12_gets_0 0 0 (.aload_n 0) 1 rfl) 0 rfl ?_
  refine x_getR C (a := 76) (j := 10) 82 rfl rfl (by decide) fl_RX12_25 rfl rfl rfl (k_dg dt_X12_gets_0 1 1 (.getfield 25) 3 rfl) ?_
  refine x_iload_n C (k_dg dt_X12_gets_0 2 4 (.iload_n 1) 1 rfl) 1 rfl ?_
  refine x_iald C (a := 82) (n := 1100) rfl rfl (k_dg dt_X12_gets_0 3 5 (.iaload) 1 rfl) (fun v1 => ?_)
  refine x_istore_n C (lv' := [(3, Value.int v1), (0, k_ra Z 76), (1, Value.int p1), (2, Value.int p2)]) (k_dg dt_X12_gets_0 4 6 (.istore_n 3) 1 rfl) (by decide) rfl ?_
  refine x_aload_n C (k_dg dt_X12_gets_0 5 7 (.aload_n 0) 1 rfl) 1 rfl ?_
  refine x_iload_n C (k_dg dt_X12_gets_0 6 8 (.iload_n 3) 1 rfl) 0 rfl ?_
  refine x_iconst C (v := 0) (k_dg dt_X12_gets_0 7 9 (.iconst 0) 1 rfl) (by decide) ?_
  refine x_callV C (a := 76) (kd := 10) (vs := [Value.int v1, Value.int 0]) (rest := []) rfl rfl (by decide) (fun r hr => by cases hr; rfl) (c_X12_its C.2.2.2.2.2.2.2.2.2 G.2.1 v1 0 M) cy_X12_its lk_RX12_214 im_X12_its se_X12_its (by decide) (by decide) (by decide) (by decide) rfl rfl (Nat.le_of_ble_eq_true rfl) (k_dg dt_X12_gets_0 8 10 (.invokevirtual 214) 3 rfl) (fun r2 M3 => ?_)
  show Sm Z G _ _ _ _ [(3, Value.int v1), (0, k_ra Z 76), (1, Value.int p1), (2, Value.int p2)] [Value.int r2] _ _
  refine x_istore C (lv' := [(4, Value.int r2), (3, Value.int v1), (0, k_ra Z 76), (1, Value.int p1), (2, Value.int p2)]) (k_dg dt_X12_gets_0 9 13 (.istore 4) 2 rfl) (by decide) rfl ?_
  refine x_iload C (k_dg dt_X12_gets_0 10 15 (.iload 4) 2 rfl) 0 rfl ?_
  refine x_callS C (vs := [Value.int r2]) (rest := []) (c_X12_shedOf C.2.2.2.2.2.2.2.2.2 G.2.1 r2 M3) cy_X12_shedOf lk_RX12_235 stt_X12_shedOf (by decide) (by decide) (by decide) (by decide) rfl rfl (Nat.le_of_ble_eq_true rfl) (k_dg dt_X12_gets_0 11 17 (.invokestatic 235) 3 rfl) (fun r4 M5 => ?_)
  show Sm Z G _ _ _ _ [(4, Value.int r2), (3, Value.int v1), (0, k_ra Z 76), (1, Value.int p1), (2, Value.int p2)] [Value.int r4] _ _
  refine x_istore C (lv' := [(5, Value.int r4), (4, Value.int r2), (3, Value.int v1), (0, k_ra Z 76), (1, Value.int p1), (2, Value.int p2)]) (k_dg dt_X12_gets_0 12 20 (.istore 5) 2 rfl) (by decide) rfl ?_
  refine x_iload C (k_dg dt_X12_gets_0 13 22 (.iload 5) 2 rfl) 0 rfl ?_
  refine x_if_ge C (tgt := 28) (k_dg dt_X12_gets_0 14 24 (.ifCond .ge 4) 3 rfl) (by decide) (fun _ => ?_) (fun _ => ?_)
  · refine x_aload_n C (k_dg dt_X12_gets_0 16 28 (.aload_n 0) 1 rfl) 3 rfl ?_
    refine x_getR C (a := 76) (j := 10) 82 rfl rfl (by decide) fl_RX12_25 rfl rfl rfl (k_dg dt_X12_gets_0 17 29 (.getfield 25) 3 rfl) ?_
    refine x_iload_n C (k_dg dt_X12_gets_0 18 32 (.iload_n 1) 1 rfl) 4 rfl ?_
    refine x_iconst C (v := 1) (k_dg dt_X12_gets_0 19 33 (.iconst 1) 1 rfl) (by decide) ?_
    refine x_iadd C (k_dg dt_X12_gets_0 20 34 (.iadd) 1 rfl) ?_
    refine x_iald C (a := 82) (n := 1100) rfl rfl (k_dg dt_X12_gets_0 21 35 (.iaload) 1 rfl) (fun v6 => ?_)
    refine x_istore C (lv' := [(6, Value.int v6), (5, Value.int r4), (4, Value.int r2), (3, Value.int v1), (0, k_ra Z 76), (1, Value.int p1), (2, Value.int p2)]) (k_dg dt_X12_gets_0 22 36 (.istore 6) 2 rfl) (by decide) rfl ?_
    refine x_aload_n C (k_dg dt_X12_gets_0 23 38 (.aload_n 0) 1 rfl) 4 rfl ?_
    refine x_iload_n C (k_dg dt_X12_gets_0 24 39 (.iload_n 3) 1 rfl) 3 rfl ?_
    refine x_iconst C (v := 1) (k_dg dt_X12_gets_0 25 40 (.iconst 1) 1 rfl) (by decide) ?_
    refine x_callV C (a := 76) (kd := 10) (vs := [Value.int v1, Value.int 1]) (rest := []) rfl rfl (by decide) (fun r hr => by cases hr; rfl) (c_X12_its C.2.2.2.2.2.2.2.2.2 G.2.1 v1 1 M5) cy_X12_its lk_RX12_214 im_X12_its se_X12_its (by decide) (by decide) (by decide) (by decide) rfl rfl (Nat.le_of_ble_eq_true rfl) (k_dg dt_X12_gets_0 26 41 (.invokevirtual 214) 3 rfl) (fun r7 M8 => ?_)
    show Sm Z G _ _ _ _ [(6, Value.int v6), (5, Value.int r4), (4, Value.int r2), (3, Value.int v1), (0, k_ra Z 76), (1, Value.int p1), (2, Value.int p2)] [Value.int r7] _ _
    refine x_istore C (lv' := [(7, Value.int r7), (6, Value.int v6), (5, Value.int r4), (4, Value.int r2), (3, Value.int v1), (0, k_ra Z 76), (1, Value.int p1), (2, Value.int p2)]) (k_dg dt_X12_gets_0 27 44 (.istore 7) 2 rfl) (by decide) rfl ?_
    refine x_iload C (k_dg dt_X12_gets_0 28 46 (.iload 4) 2 rfl) 3 rfl ?_
    refine x_iconst C (v := 4) (k_dg dt_X12_gets_0 29 48 (.iconst 4) 1 rfl) (by decide) ?_
    refine x_icmp_ne C (tgt := 69) (k_dg dt_X12_gets_0 30 49 (.if_icmp .ne 20) 3 rfl) (by decide) (fun _ => ?_) (fun _ => ?_)
    · refine x_iload C (k_dg dt_X12_gets_0 31 52 (.iload 6) 2 rfl) 1 rfl ?_
      refine x_callS C (vs := [Value.int v6]) (rest := []) (c_X12_monthOf C.2.2.2.2.2.2.2.2.2 G.2.1 v6 M8) cy_X12_monthOf lk_RX12_229 stt_X12_monthOf (by decide) (by decide) (by decide) (by decide) rfl rfl (Nat.le_of_ble_eq_true rfl) (k_dg dt_X12_gets_0 32 54 (.invokestatic 229) 3 rfl) (fun r9 M10 => ?_)
      show Sm Z G _ _ _ _ [(7, Value.int r7), (6, Value.int v6), (5, Value.int r4), (4, Value.int r2), (3, Value.int v1), (0, k_ra Z 76), (1, Value.int p1), (2, Value.int p2)] [Value.int r9] _ _
      refine x_iconst C (v := 2) (k_dg dt_X12_gets_0 33 57 (.iconst 2) 1 rfl) (by decide) ?_
      refine x_iremC C (k_dg dt_X12_gets_0 34 58 (.irem) 1 rfl) (by decide) ?_
      refine x_if_ne C (tgt := 69) (k_dg dt_X12_gets_0 35 59 (.ifCond .ne 10) 3 rfl) (by decide) (fun _ => ?_) (fun _ => ?_)
      · refine x_iconst C (v := 2) (k_dg dt_X12_gets_0 36 62 (.iconst 2) 1 rfl) (by decide) ?_
        refine x_iload C (k_dg dt_X12_gets_0 37 63 (.iload 7) 2 rfl) 0 rfl ?_
        refine x_imul C (k_dg dt_X12_gets_0 38 65 (.imul) 1 rfl) ?_
        refine x_goto C (tgt := 71) (k_dg dt_X12_gets_0 39 66 (.goto 5) 3 rfl) (by decide) ?_
        refine x_lv [5, 6, 7, 4, 3, 2, 1] rfl ?_
        exact m_X12_gets_71 C p1 p2 v1 r2 r4 v6 (2 * r7) M10
      · refine x_lv [5, 6, 7, 4, 3, 2, 1, 0] rfl ?_
        exact m_X12_gets_69 C p1 p2 v1 r2 r4 v6 r7 M10
    · refine x_lv [5, 6, 7, 4, 3, 2, 1, 0] rfl ?_
      exact m_X12_gets_69 C p1 p2 v1 r2 r4 v6 r7 M8
  · exact x_vret C (by decide) (by decide) (k_dg dt_X12_gets_0 15 27 (.return_) 1 rfl)
theorem c_X12_gets {Z : k_Z} (hg : k_Gd Z) (l : Launch) (p1 : Int32) (p2 : Int32) (M : k_M) : Con true Z l yX12_gets cX12_gets 8 none 3 0 0 emV [k_ra Z 76, Value.int p1, Value.int p2] M (f_X12_gets p1 p2 M) := k_con hg (by decide) (Nat.le_of_ble_eq_true rfl) (fun G hl C => m_X12_gets_0 C p1 p2 M)
theorem dt_X12_goes_0 : k_dec cX12_goes [(0, .bipush 25, 2), (2, .iload_n 1, 1), (3, .imul, 1), (4, .istore 4, 2), (6, .iload 4, 2), (8, .bipush 25, 2), (10, .iadd, 1), (11, .istore 5, 2), (13, .iconst 0, 1), (14, .istore 6, 2), (16, .iload 6, 2), (18, .bipush 25, 2), (20, .if_icmp .ge 29, 3), (23, .aload_n 0, 1), (24, .getfield 25, 3), (27, .iload 5, 2), (29, .iload 6, 2), (31, .iadd, 1), (32, .aload_n 0, 1), (33, .getfield 25, 3), (36, .iload 4, 2), (38, .iload 6, 2), (40, .iadd, 1), (41, .iaload, 1), (42, .iastore, 1), (43, .iinc 6 1, 3), (46, .goto (-30), 3), (49, .iconst 1, 1), (50, .istore 6, 2), (52, .iconst 0, 1), (53, .istore 7, 2), (55, .iload_n 2, 1), (56, .iconst 1, 1), (57, .isub, 1), (58, .istore 8, 2), (60, .iload_n 2, 1), (61, .ifCond .ne 13, 3), (64, .aload_n 0, 1), (65, .iload 5, 2), (67, .iload_n 3, 1)] = true := by decide +kernel
theorem dt_X12_goes_1 : k_dec cX12_goes [(68, .invokevirtual 249, 3), (71, .goto 204, 3), (74, .aload_n 0, 1), (75, .getfield 25, 3), (78, .iload 5, 2), (80, .iaload, 1), (81, .istore 9, 2), (83, .aload_n 0, 1), (84, .iload 8, 2), (86, .invokevirtual 223, 3), (89, .istore 10, 2), (91, .iload 10, 2), (93, .ifCond .eq 67, 3), (96, .aload_n 0, 1), (97, .getfield 25, 3), (100, .iload 5, 2), (102, .bipush 13, 2), (104, .iadd, 1), (105, .iload 10, 2), (107, .ifCond .eq 8, 3), (110, .iload 8, 2), (112, .goto 4, 3), (115, .iconst 0, 1), (116, .iadd, 1), (117, .iaload, 1), (118, .ifCond .le 42, 3), (121, .aload_n 0, 1), (122, .iload 10, 2), (124, .ifCond .eq 8, 3), (127, .iload 8, 2), (129, .goto 4, 3), (132, .iconst 0, 1), (133, .iconst 4, 1), (134, .invokevirtual 106, 3), (137, .aload_n 0, 1), (138, .getfield 25, 3), (141, .iload 5, 2), (143, .iconst 1, 1), (144, .iadd, 1), (145, .iaload, 1)] = true := by decide +kernel
theorem dt_X12_goes_2 : k_dec cX12_goes [(146, .invokestatic 229, 3), (149, .ishr, 1), (150, .iconst 1, 1), (151, .iand, 1), (152, .iconst 1, 1), (153, .if_icmp .ne 7, 3), (156, .iconst 1, 1), (157, .goto 4, 3), (160, .iconst 0, 1), (161, .istore 11, 2), (163, .iload 11, 2), (165, .ifCond .eq 27, 3), (168, .aload_n 0, 1), (169, .iload 8, 2), (171, .iconst 0, 1), (172, .invokevirtual 106, 3), (175, .iload 9, 2), (177, .if_icmp .eq 17, 3), (180, .aload_n 0, 1), (181, .iload 8, 2), (183, .iconst 1, 1), (184, .invokevirtual 106, 3), (187, .iload 9, 2), (189, .if_icmp .eq 5, 3), (192, .iconst 0, 1), (193, .ireturn, 1), (194, .aload_n 0, 1), (195, .iload 8, 2), (197, .iconst 2, 1), (198, .invokevirtual 106, 3), (201, .istore 6, 2), (203, .iconst 3, 1), (204, .istore 7, 2), (206, .aload_n 0, 1), (207, .getfield 25, 3), (210, .iload 5, 2), (212, .aload_n 0, 1), (213, .iload 8, 2), (215, .iconst 0, 1), (216, .invokevirtual 106, 3)] = true := by decide +kernel
theorem dt_X12_goes_3 : k_dec cX12_goes [(219, .iload 9, 2), (221, .if_icmp .ne 13, 3), (224, .aload_n 0, 1), (225, .iload 8, 2), (227, .iconst 1, 1), (228, .invokevirtual 106, 3), (231, .goto 10, 3), (234, .aload_n 0, 1), (235, .iload 8, 2), (237, .iconst 0, 1), (238, .invokevirtual 106, 3), (241, .iastore, 1), (242, .aload_n 0, 1), (243, .getfield 25, 3), (246, .iload 5, 2), (248, .bipush 13, 2), (250, .iadd, 1), (251, .iload 8, 2), (253, .iadd, 1), (254, .dup2, 1), (255, .iaload, 1), (256, .aload_n 0, 1), (257, .iload 8, 2), (259, .iconst 3, 1), (260, .invokevirtual 106, 3), (263, .bipush 9, 2), (265, .if_icmp .ne 7, 3), (268, .iconst 0, 1), (269, .goto 4, 3), (272, .iconst 1, 1), (273, .isub, 1), (274, .iastore, 1), (275, .aload_n 0, 1), (276, .getfield 25, 3), (279, .iload 5, 2), (281, .iconst 1, 1), (282, .iadd, 1), (283, .iaload, 1), (284, .iload 6, 2), (286, .iadd, 1)] = true := by decide +kernel
theorem dt_X12_goes_4 : k_dec cX12_goes [(287, .sipush 999, 3), (290, .if_icmp .gt 7, 3), (293, .iconst 1, 1), (294, .goto 4, 3), (297, .iconst 0, 1), (298, .istore 9, 2), (300, .aload_n 0, 1), (301, .getfield 25, 3), (304, .iload 5, 2), (306, .iconst 1, 1), (307, .iadd, 1), (308, .dup2, 1), (309, .iaload, 1), (310, .iload 6, 2), (312, .iadd, 1), (313, .iastore, 1), (314, .iconst 0, 1), (315, .istore 10, 2), (317, .iload 10, 2), (319, .iconst 3, 1), (320, .if_icmp .ge 62, 3), (323, .aload_n 0, 1), (324, .getfield 25, 3), (327, .iload 5, 2), (329, .iconst 2, 1), (330, .iadd, 1), (331, .iload 10, 2), (333, .iadd, 1), (334, .dup2, 1), (335, .iaload, 1), (336, .iload 6, 2), (338, .aload_n 0, 1), (339, .iload 7, 2), (341, .iload 10, 2), (343, .invokevirtual 253, 3), (346, .imul, 1), (347, .isub, 1), (348, .iastore, 1), (349, .iload 9, 2), (351, .ifCond .eq 22, 3)] = true := by decide +kernel
theorem dt_X12_goes_5 : k_dec cX12_goes [(354, .aload_n 0, 1), (355, .getfield 25, 3), (358, .iload 5, 2), (360, .iconst 2, 1), (361, .iadd, 1), (362, .iload 10, 2), (364, .iadd, 1), (365, .iaload, 1), (366, .ifCond .lt 7, 3), (369, .iconst 1, 1), (370, .goto 4, 3), (373, .iconst 0, 1), (374, .istore 9, 2), (376, .iinc 10 1, 3), (379, .goto (-62), 3), (382, .iload 9, 2), (384, .ifCond .eq 8, 3), (387, .iload 6, 2), (389, .goto 4, 3), (392, .iconst 0, 1), (393, .ireturn, 1)] = true := by decide +kernel
def f_X12_goes_16 : Nat → Int32 → Int32 → Int32 → Int32 → Int32 → k_M → (Int32 → Int32 → Int32 → k_M → Option (Int32 × k_M)) → Option (Int32 × k_M)
  | 0, _, _, _, _, _, _, _ => none
  | n + 1, l2, l3, l4, l5, l6, M, kx49 => if 25 ≤ l6 then kx49 l2 l3 l5 M else rdI M 82 1100 (l4 + l6) (fun v1 => wrI M 82 1100 (l5 + l6) v1 (fun M2 => f_X12_goes_16 n l2 l3 l4 l5 (l6 + 1) M2 kx49))
theorem m_X12_goes_16 {Z : k_Z} {G : k_G} (C : k_C Z G RX12 cX12_goes (true, 12, 4, 0, 0) (some .int) "goes") (kx49 : Int32 → Int32 → Int32 → k_M → Option (Int32 × k_M)) (Hx49 : ∀ (l2 : Int32) (l3 : Int32) (l5 : Int32) (M : k_M), Sm Z G emI (true, 12, 4, 0, 0) (0, 0) 49 [(0, k_ra Z 76), (2, Value.int l2), (3, Value.int l3), (5, Value.int l5)] [] M (kx49 l2 l3 l5 M)) : ∀ (n : Nat) (l2 : Int32) (l3 : Int32) (l4 : Int32) (l5 : Int32) (l6 : Int32) (M : k_M), Sm Z G emI (true, 12, 4, 0, 0) (0, 0) 16 [(0, k_ra Z 76), (2, Value.int l2), (3, Value.int l3), (4, Value.int l4), (5, Value.int l5), (6, Value.int l6)] [] M (f_X12_goes_16 n l2 l3 l4 l5 l6 M kx49)
  | 0, _, _, _, _, _, _ => x_none
  | n + 1, l2, l3, l4, l5, l6, M => by
    have ih := m_X12_goes_16 C kx49 Hx49 n
    show Sm Z G emI _ _ _ _ _ _ (if 25 ≤ l6 then kx49 l2 l3 l5 M else rdI M 82 1100 (l4 + l6) (fun v1 => wrI M 82 1100 (l5 + l6) v1 (fun M2 => f_X12_goes_16 n l2 l3 l4 l5 (l6 + 1) M2 kx49)))
    refine x_iload C (k_dg dt_X12_goes_0 10 16 (.iload 6) 2 rfl) 5 rfl ?_
    refine x_bipush C (v := 25) (k_dg dt_X12_goes_0 11 18 (.bipush 25) 2 rfl) (by decide) ?_
    refine x_icmp_ge C (tgt := 49) (k_dg dt_X12_goes_0 12 20 (.if_icmp .ge 29) 3 rfl) (by decide) (fun _ => ?_) (fun _ => ?_)
    · refine x_lv [0, 1, 2, 4] rfl ?_
      exact Hx49 l2 l3 l5 M
    · refine x_aload_n C (k_dg dt_X12_goes_0 13 23 (.aload_n 0) 1 rfl) 0 rfl ?_
      refine x_getR C (a := 76) (j := 10) 82 rfl rfl (by decide) fl_RX12_25 rfl rfl rfl (k_dg dt_X12_goes_0 14 24 (.getfield 25) 3 rfl) ?_
      refine x_iload C (k_dg dt_X12_goes_0 15 27 (.iload 5) 2 rfl) 4 rfl ?_
      refine x_iload C (k_dg dt_X12_goes_0 16 29 (.iload 6) 2 rfl) 5 rfl ?_
      refine x_iadd C (k_dg dt_X12_goes_0 17 31 (.iadd) 1 rfl) ?_
      refine x_aload_n C (k_dg dt_X12_goes_0 18 32 (.aload_n 0) 1 rfl) 0 rfl ?_
      refine x_getR C (a := 76) (j := 10) 82 rfl rfl (by decide) fl_RX12_25 rfl rfl rfl (k_dg dt_X12_goes_0 19 33 (.getfield 25) 3 rfl) ?_
      refine x_iload C (k_dg dt_X12_goes_0 20 36 (.iload 4) 2 rfl) 3 rfl ?_
      refine x_iload C (k_dg dt_X12_goes_0 21 38 (.iload 6) 2 rfl) 5 rfl ?_
      refine x_iadd C (k_dg dt_X12_goes_0 22 40 (.iadd) 1 rfl) ?_
      refine x_iald C (a := 82) (n := 1100) rfl rfl (k_dg dt_X12_goes_0 23 41 (.iaload) 1 rfl) (fun v1 => ?_)
      refine x_iast C (a := 82) (n := 1100) rfl rfl (k_dg dt_X12_goes_0 24 42 (.iastore) 1 rfl) (fun M2 => ?_)
      refine x_iinc C (v := 1) (lv' := [(6, Value.int (l6 + 1)), (0, k_ra Z 76), (2, Value.int l2), (3, Value.int l3), (4, Value.int l4), (5, Value.int l5)]) (k_dg dt_X12_goes_0 25 43 (.iinc 6 1) 3 rfl) 5 rfl (by decide) (by decide) rfl ?_
      refine x_goto C (tgt := 16) (k_dg dt_X12_goes_0 26 46 (.goto (-30)) 3 rfl) (by decide) ?_
      refine x_lv [1, 2, 3, 4, 5, 0] rfl ?_
      exact ih l2 l3 l4 l5 (l6 + 1) M2
def f_X12_goes_374 (l5 : Int32) (l6 : Int32) (l7 : Int32) (l10 : Int32) (t0 : Int32) (M : k_M) (kb : Int32 → Int32 → Int32 → Int32 → Int32 → k_M → Option (Int32 × k_M)) (kx382 : Int32 → Int32 → k_M → Option (Int32 × k_M)) : Option (Int32 × k_M) := kb l5 l6 l7 t0 (l10 + 1) M
theorem m_X12_goes_374 {Z : k_Z} {G : k_G} (C : k_C Z G RX12 cX12_goes (true, 12, 4, 0, 0) (some .int) "goes") (kb : Int32 → Int32 → Int32 → Int32 → Int32 → k_M → Option (Int32 × k_M)) (kx382 : Int32 → Int32 → k_M → Option (Int32 × k_M)) (Hb : ∀ (l5 : Int32) (l6 : Int32) (l7 : Int32) (l9 : Int32) (l10 : Int32) (M : k_M), Sm Z G emI (true, 12, 4, 0, 0) (0, 0) 317 [(0, k_ra Z 76), (5, Value.int l5), (6, Value.int l6), (7, Value.int l7), (9, Value.int l9), (10, Value.int l10)] [] M (kb l5 l6 l7 l9 l10 M)) (Hx382 : ∀ (l6 : Int32) (l9 : Int32) (M : k_M), Sm Z G emI (true, 12, 4, 0, 0) (0, 0) 382 [(6, Value.int l6), (9, Value.int l9)] [] M (kx382 l6 l9 M)) (l5 : Int32) (l6 : Int32) (l7 : Int32) (l10 : Int32) (t0 : Int32) (M : k_M) : Sm Z G emI (true, 12, 4, 0, 0) (0, 0) 374 [(0, k_ra Z 76), (5, Value.int l5), (6, Value.int l6), (7, Value.int l7), (10, Value.int l10)] [Value.int t0] M (f_X12_goes_374 l5 l6 l7 l10 t0 M kb kx382) := by
  show Sm Z G emI _ _ _ _ _ _ (kb l5 l6 l7 t0 (l10 + 1) M)
  refine x_istore C (lv' := [(9, Value.int t0), (0, k_ra Z 76), (5, Value.int l5), (6, Value.int l6), (7, Value.int l7), (10, Value.int l10)]) (k_dg dt_X12_goes_5 12 374 (.istore 9) 2 rfl) (by decide) rfl ?_
  refine x_iinc C (v := 1) (lv' := [(10, Value.int (l10 + 1)), (9, Value.int t0), (0, k_ra Z 76), (5, Value.int l5), (6, Value.int l6), (7, Value.int l7)]) (k_dg dt_X12_goes_5 13 376 (.iinc 10 1) 3 rfl) 5 rfl (by decide) (by decide) rfl ?_
  refine x_goto C (tgt := 317) (k_dg dt_X12_goes_5 14 379 (.goto (-62)) 3 rfl) (by decide) ?_
  refine x_lv [2, 3, 4, 5, 1, 0] rfl ?_
  exact Hb l5 l6 l7 t0 (l10 + 1) M
def f_X12_goes_373 (l5 : Int32) (l6 : Int32) (l7 : Int32) (l10 : Int32) (M : k_M) (kb : Int32 → Int32 → Int32 → Int32 → Int32 → k_M → Option (Int32 × k_M)) (kx382 : Int32 → Int32 → k_M → Option (Int32 × k_M)) : Option (Int32 × k_M) := f_X12_goes_374 l5 l6 l7 l10 0 M kb kx382
theorem m_X12_goes_373 {Z : k_Z} {G : k_G} (C : k_C Z G RX12 cX12_goes (true, 12, 4, 0, 0) (some .int) "goes") (kb : Int32 → Int32 → Int32 → Int32 → Int32 → k_M → Option (Int32 × k_M)) (kx382 : Int32 → Int32 → k_M → Option (Int32 × k_M)) (Hb : ∀ (l5 : Int32) (l6 : Int32) (l7 : Int32) (l9 : Int32) (l10 : Int32) (M : k_M), Sm Z G emI (true, 12, 4, 0, 0) (0, 0) 317 [(0, k_ra Z 76), (5, Value.int l5), (6, Value.int l6), (7, Value.int l7), (9, Value.int l9), (10, Value.int l10)] [] M (kb l5 l6 l7 l9 l10 M)) (Hx382 : ∀ (l6 : Int32) (l9 : Int32) (M : k_M), Sm Z G emI (true, 12, 4, 0, 0) (0, 0) 382 [(6, Value.int l6), (9, Value.int l9)] [] M (kx382 l6 l9 M)) (l5 : Int32) (l6 : Int32) (l7 : Int32) (l10 : Int32) (M : k_M) : Sm Z G emI (true, 12, 4, 0, 0) (0, 0) 373 [(0, k_ra Z 76), (5, Value.int l5), (6, Value.int l6), (7, Value.int l7), (10, Value.int l10)] [] M (f_X12_goes_373 l5 l6 l7 l10 M kb kx382) := by
  show Sm Z G emI _ _ _ _ _ _ (f_X12_goes_374 l5 l6 l7 l10 0 M kb kx382)
  refine x_iconst C (v := 0) (k_dg dt_X12_goes_5 11 373 (.iconst 0) 1 rfl) (by decide) ?_
  exact m_X12_goes_374 C kb kx382 Hb Hx382 l5 l6 l7 l10 0 M
def f_X12_goes_317 : Nat → Int32 → Int32 → Int32 → Int32 → Int32 → k_M → (Int32 → Int32 → k_M → Option (Int32 × k_M)) → Option (Int32 × k_M)
  | 0, _, _, _, _, _, _, _ => none
  | n + 1, l5, l6, l7, l9, l10, M, kx382 => if 3 ≤ l10 then kx382 l6 l9 M else rdI M 82 1100 ((l5 + 2) + l10) (fun v1 => bd (f_X12_eats l7 l10 M) (fun r2 M3 => wrI M3 82 1100 ((l5 + 2) + l10) (v1 - (l6 * r2)) (fun M4 => if l9 = 0 then f_X12_goes_373 l5 l6 l7 l10 M4 ((fun l5_ l6_ l7_ l9_ l10_ M_ => f_X12_goes_317 n l5_ l6_ l7_ l9_ l10_ M_ kx382)) kx382 else rdI M4 82 1100 ((l5 + 2) + l10) (fun v5 => if v5 < 0 then f_X12_goes_373 l5 l6 l7 l10 M4 ((fun l5_ l6_ l7_ l9_ l10_ M_ => f_X12_goes_317 n l5_ l6_ l7_ l9_ l10_ M_ kx382)) kx382 else f_X12_goes_374 l5 l6 l7 l10 1 M4 ((fun l5_ l6_ l7_ l9_ l10_ M_ => f_X12_goes_317 n l5_ l6_ l7_ l9_ l10_ M_ kx382)) kx382))))
theorem m_X12_goes_317 {Z : k_Z} {G : k_G} (C : k_C Z G RX12 cX12_goes (true, 12, 4, 0, 0) (some .int) "goes") (kx382 : Int32 → Int32 → k_M → Option (Int32 × k_M)) (Hx382 : ∀ (l6 : Int32) (l9 : Int32) (M : k_M), Sm Z G emI (true, 12, 4, 0, 0) (0, 0) 382 [(6, Value.int l6), (9, Value.int l9)] [] M (kx382 l6 l9 M)) : ∀ (n : Nat) (l5 : Int32) (l6 : Int32) (l7 : Int32) (l9 : Int32) (l10 : Int32) (M : k_M), Sm Z G emI (true, 12, 4, 0, 0) (0, 0) 317 [(0, k_ra Z 76), (5, Value.int l5), (6, Value.int l6), (7, Value.int l7), (9, Value.int l9), (10, Value.int l10)] [] M (f_X12_goes_317 n l5 l6 l7 l9 l10 M kx382)
  | 0, _, _, _, _, _, _ => x_none
  | n + 1, l5, l6, l7, l9, l10, M => by
    have ih := m_X12_goes_317 C kx382 Hx382 n
    show Sm Z G emI _ _ _ _ _ _ (if 3 ≤ l10 then kx382 l6 l9 M else rdI M 82 1100 ((l5 + 2) + l10) (fun v1 => bd (f_X12_eats l7 l10 M) (fun r2 M3 => wrI M3 82 1100 ((l5 + 2) + l10) (v1 - (l6 * r2)) (fun M4 => if l9 = 0 then f_X12_goes_373 l5 l6 l7 l10 M4 ((fun l5_ l6_ l7_ l9_ l10_ M_ => f_X12_goes_317 n l5_ l6_ l7_ l9_ l10_ M_ kx382)) kx382 else rdI M4 82 1100 ((l5 + 2) + l10) (fun v5 => if v5 < 0 then f_X12_goes_373 l5 l6 l7 l10 M4 ((fun l5_ l6_ l7_ l9_ l10_ M_ => f_X12_goes_317 n l5_ l6_ l7_ l9_ l10_ M_ kx382)) kx382 else f_X12_goes_374 l5 l6 l7 l10 1 M4 ((fun l5_ l6_ l7_ l9_ l10_ M_ => f_X12_goes_317 n l5_ l6_ l7_ l9_ l10_ M_ kx382)) kx382)))))
    refine x_iload C (k_dg dt_X12_goes_4 18 317 (.iload 10) 2 rfl) 5 rfl ?_
    refine x_iconst C (v := 3) (k_dg dt_X12_goes_4 19 319 (.iconst 3) 1 rfl) (by decide) ?_
    refine x_icmp_ge C (tgt := 382) (k_dg dt_X12_goes_4 20 320 (.if_icmp .ge 62) 3 rfl) (by decide) (fun _ => ?_) (fun _ => ?_)
    · refine x_lv [2, 4] rfl ?_
      exact Hx382 l6 l9 M
    · refine x_aload_n C (k_dg dt_X12_goes_4 21 323 (.aload_n 0) 1 rfl) 0 rfl ?_
      refine x_getR C (a := 76) (j := 10) 82 rfl rfl (by decide) fl_RX12_25 rfl rfl rfl (k_dg dt_X12_goes_4 22 324 (.getfield 25) 3 rfl) ?_
      refine x_iload C (k_dg dt_X12_goes_4 23 327 (.iload 5) 2 rfl) 1 rfl ?_
      refine x_iconst C (v := 2) (k_dg dt_X12_goes_4 24 329 (.iconst 2) 1 rfl) (by decide) ?_
      refine x_iadd C (k_dg dt_X12_goes_4 25 330 (.iadd) 1 rfl) ?_
      refine x_iload C (k_dg dt_X12_goes_4 26 331 (.iload 10) 2 rfl) 5 rfl ?_
      refine x_iadd C (k_dg dt_X12_goes_4 27 333 (.iadd) 1 rfl) ?_
      refine x_dup2 C (k_dg dt_X12_goes_4 28 334 (.dup2) 1 rfl) rfl rfl ?_
      refine x_iald C (a := 82) (n := 1100) rfl rfl (k_dg dt_X12_goes_4 29 335 (.iaload) 1 rfl) (fun v1 => ?_)
      refine x_iload C (k_dg dt_X12_goes_4 30 336 (.iload 6) 2 rfl) 2 rfl ?_
      refine x_aload_n C (k_dg dt_X12_goes_4 31 338 (.aload_n 0) 1 rfl) 0 rfl ?_
      refine x_iload C (k_dg dt_X12_goes_4 32 339 (.iload 7) 2 rfl) 3 rfl ?_
      refine x_iload C (k_dg dt_X12_goes_4 33 341 (.iload 10) 2 rfl) 5 rfl ?_
      refine x_callV C (a := 76) (kd := 10) (vs := [Value.int l7, Value.int l10]) (rest := [Value.int l6, Value.int v1, Value.int ((l5 + 2) + l10), k_ra Z 82]) rfl rfl (by decide) (fun r hr => by cases hr; rfl) (c_X12_eats C.2.2.2.2.2.2.2.2.2 G.2.1 l7 l10 M) cy_X12_eats lk_RX12_253 im_X12_eats se_X12_eats (by decide) (by decide) (by decide) (by decide) rfl rfl (Nat.le_of_ble_eq_true rfl) (k_dg dt_X12_goes_4 34 343 (.invokevirtual 253) 3 rfl) (fun r2 M3 => ?_)
      show Sm Z G _ _ _ _ [(0, k_ra Z 76), (5, Value.int l5), (6, Value.int l6), (7, Value.int l7), (9, Value.int l9), (10, Value.int l10)] [Value.int r2, Value.int l6, Value.int v1, Value.int ((l5 + 2) + l10), k_ra Z 82] _ _
      refine x_imul C (k_dg dt_X12_goes_4 35 346 (.imul) 1 rfl) ?_
      refine x_isub C (k_dg dt_X12_goes_4 36 347 (.isub) 1 rfl) ?_
      refine x_iast C (a := 82) (n := 1100) rfl rfl (k_dg dt_X12_goes_4 37 348 (.iastore) 1 rfl) (fun M4 => ?_)
      refine x_iload C (k_dg dt_X12_goes_4 38 349 (.iload 9) 2 rfl) 4 rfl ?_
      refine x_if_eq C (tgt := 373) (k_dg dt_X12_goes_4 39 351 (.ifCond .eq 22) 3 rfl) (by decide) (fun _ => ?_) (fun _ => ?_)
      · refine x_lv [0, 1, 2, 3, 5] rfl ?_
        exact m_X12_goes_373 C ((fun l5_ l6_ l7_ l9_ l10_ M_ => f_X12_goes_317 n l5_ l6_ l7_ l9_ l10_ M_ kx382)) kx382 ih Hx382 l5 l6 l7 l10 M4
      · refine x_aload_n C (k_dg dt_X12_goes_5 0 354 (.aload_n 0) 1 rfl) 0 rfl ?_
        refine x_getR C (a := 76) (j := 10) 82 rfl rfl (by decide) fl_RX12_25 rfl rfl rfl (k_dg dt_X12_goes_5 1 355 (.getfield 25) 3 rfl) ?_
        refine x_iload C (k_dg dt_X12_goes_5 2 358 (.iload 5) 2 rfl) 1 rfl ?_
        refine x_iconst C (v := 2) (k_dg dt_X12_goes_5 3 360 (.iconst 2) 1 rfl) (by decide) ?_
        refine x_iadd C (k_dg dt_X12_goes_5 4 361 (.iadd) 1 rfl) ?_
        refine x_iload C (k_dg dt_X12_goes_5 5 362 (.iload 10) 2 rfl) 5 rfl ?_
        refine x_iadd C (k_dg dt_X12_goes_5 6 364 (.iadd) 1 rfl) ?_
        refine x_iald C (a := 82) (n := 1100) rfl rfl (k_dg dt_X12_goes_5 7 365 (.iaload) 1 rfl) (fun v5 => ?_)
        refine x_if_lt C (tgt := 373) (k_dg dt_X12_goes_5 8 366 (.ifCond .lt 7) 3 rfl) (by decide) (fun _ => ?_) (fun _ => ?_)
        · refine x_lv [0, 1, 2, 3, 5] rfl ?_
          exact m_X12_goes_373 C ((fun l5_ l6_ l7_ l9_ l10_ M_ => f_X12_goes_317 n l5_ l6_ l7_ l9_ l10_ M_ kx382)) kx382 ih Hx382 l5 l6 l7 l10 M4
        · refine x_iconst C (v := 1) (k_dg dt_X12_goes_5 9 369 (.iconst 1) 1 rfl) (by decide) ?_
          refine x_goto C (tgt := 374) (k_dg dt_X12_goes_5 10 370 (.goto 4) 3 rfl) (by decide) ?_
          refine x_lv [0, 1, 2, 3, 5] rfl ?_
          exact m_X12_goes_374 C ((fun l5_ l6_ l7_ l9_ l10_ M_ => f_X12_goes_317 n l5_ l6_ l7_ l9_ l10_ M_ kx382)) kx382 ih Hx382 l5 l6 l7 l10 1 M4
def f_X12_goes_382 (l6 : Int32) (l9 : Int32) (M : k_M) : Option (Int32 × k_M) := if l9 = 0 then some (0, M) else some (l6, M)
theorem m_X12_goes_382 {Z : k_Z} {G : k_G} (C : k_C Z G RX12 cX12_goes (true, 12, 4, 0, 0) (some .int) "goes") (l6 : Int32) (l9 : Int32) (M : k_M) : Sm Z G emI (true, 12, 4, 0, 0) (0, 0) 382 [(6, Value.int l6), (9, Value.int l9)] [] M (f_X12_goes_382 l6 l9 M) := by
  show Sm Z G emI _ _ _ _ _ _ (if l9 = 0 then some (0, M) else some (l6, M))
  refine x_iload C (k_dg dt_X12_goes_5 15 382 (.iload 9) 2 rfl) 1 rfl ?_
  refine x_if_eq C (tgt := 392) (k_dg dt_X12_goes_5 16 384 (.ifCond .eq 8) 3 rfl) (by decide) (fun _ => ?_) (fun _ => ?_)
  · refine x_iconst C (v := 0) (k_dg dt_X12_goes_5 19 392 (.iconst 0) 1 rfl) (by decide) ?_
    exact x_iret C (by decide) (by decide) (k_dg dt_X12_goes_5 20 393 (.ireturn) 1 rfl)
  · refine x_iload C (k_dg dt_X12_goes_5 17 387 (.iload 6) 2 rfl) 0 rfl ?_
    refine x_goto C (tgt := 393) (k_dg dt_X12_goes_5 18 389 (.goto 4) 3 rfl) (by decide) ?_
    exact x_iret C (by decide) (by decide) (k_dg dt_X12_goes_5 20 393 (.ireturn) 1 rfl)
def f_X12_goes_298 (l5 : Int32) (l6 : Int32) (l7 : Int32) (t0 : Int32) (M : k_M) : Option (Int32 × k_M) := rdI M 82 1100 (l5 + 1) (fun v1 => wrI M 82 1100 (l5 + 1) (v1 + l6) (fun M2 => f_X12_goes_317 k_fu l5 l6 l7 t0 0 M2 (fun l6_ l9_ M_ => f_X12_goes_382 l6_ l9_ M_)))
theorem m_X12_goes_298 {Z : k_Z} {G : k_G} (C : k_C Z G RX12 cX12_goes (true, 12, 4, 0, 0) (some .int) "goes") (l5 : Int32) (l6 : Int32) (l7 : Int32) (t0 : Int32) (M : k_M) : Sm Z G emI (true, 12, 4, 0, 0) (0, 0) 298 [(0, k_ra Z 76), (5, Value.int l5), (6, Value.int l6), (7, Value.int l7)] [Value.int t0] M (f_X12_goes_298 l5 l6 l7 t0 M) := by
  show Sm Z G emI _ _ _ _ _ _ (rdI M 82 1100 (l5 + 1) (fun v1 => wrI M 82 1100 (l5 + 1) (v1 + l6) (fun M2 => f_X12_goes_317 k_fu l5 l6 l7 t0 0 M2 (fun l6_ l9_ M_ => f_X12_goes_382 l6_ l9_ M_))))
  refine x_istore C (lv' := [(9, Value.int t0), (0, k_ra Z 76), (5, Value.int l5), (6, Value.int l6), (7, Value.int l7)]) (k_dg dt_X12_goes_4 5 298 (.istore 9) 2 rfl) (by decide) rfl ?_
  refine x_aload_n C (k_dg dt_X12_goes_4 6 300 (.aload_n 0) 1 rfl) 1 rfl ?_
  refine x_getR C (a := 76) (j := 10) 82 rfl rfl (by decide) fl_RX12_25 rfl rfl rfl (k_dg dt_X12_goes_4 7 301 (.getfield 25) 3 rfl) ?_
  refine x_iload C (k_dg dt_X12_goes_4 8 304 (.iload 5) 2 rfl) 2 rfl ?_
  refine x_iconst C (v := 1) (k_dg dt_X12_goes_4 9 306 (.iconst 1) 1 rfl) (by decide) ?_
  refine x_iadd C (k_dg dt_X12_goes_4 10 307 (.iadd) 1 rfl) ?_
  refine x_dup2 C (k_dg dt_X12_goes_4 11 308 (.dup2) 1 rfl) rfl rfl ?_
  refine x_iald C (a := 82) (n := 1100) rfl rfl (k_dg dt_X12_goes_4 12 309 (.iaload) 1 rfl) (fun v1 => ?_)
  refine x_iload C (k_dg dt_X12_goes_4 13 310 (.iload 6) 2 rfl) 3 rfl ?_
  refine x_iadd C (k_dg dt_X12_goes_4 14 312 (.iadd) 1 rfl) ?_
  refine x_iast C (a := 82) (n := 1100) rfl rfl (k_dg dt_X12_goes_4 15 313 (.iastore) 1 rfl) (fun M2 => ?_)
  refine x_iconst C (v := 0) (k_dg dt_X12_goes_4 16 314 (.iconst 0) 1 rfl) (by decide) ?_
  refine x_istore C (lv' := [(10, Value.int 0), (9, Value.int t0), (0, k_ra Z 76), (5, Value.int l5), (6, Value.int l6), (7, Value.int l7)]) (k_dg dt_X12_goes_4 17 315 (.istore 10) 2 rfl) (by decide) rfl ?_
  refine x_lv [2, 3, 4, 5, 1, 0] rfl ?_
  exact m_X12_goes_317 C (fun l6_ l9_ M_ => f_X12_goes_382 l6_ l9_ M_) (fun l6_ l9_ M_ => m_X12_goes_382 C l6_ l9_ M_) k_fu l5 l6 l7 t0 0 M2
def f_X12_goes_275 (l5 : Int32) (l6 : Int32) (l7 : Int32) (M : k_M) : Option (Int32 × k_M) := rdI M 82 1100 (l5 + 1) (fun v1 => if 999 < (v1 + l6) then f_X12_goes_298 l5 l6 l7 0 M else f_X12_goes_298 l5 l6 l7 1 M)
theorem m_X12_goes_275 {Z : k_Z} {G : k_G} (C : k_C Z G RX12 cX12_goes (true, 12, 4, 0, 0) (some .int) "goes") (l5 : Int32) (l6 : Int32) (l7 : Int32) (M : k_M) : Sm Z G emI (true, 12, 4, 0, 0) (0, 0) 275 [(0, k_ra Z 76), (5, Value.int l5), (6, Value.int l6), (7, Value.int l7)] [] M (f_X12_goes_275 l5 l6 l7 M) := by
  show Sm Z G emI _ _ _ _ _ _ (rdI M 82 1100 (l5 + 1) (fun v1 => if 999 < (v1 + l6) then f_X12_goes_298 l5 l6 l7 0 M else f_X12_goes_298 l5 l6 l7 1 M))
  refine x_aload_n C (k_dg dt_X12_goes_3 32 275 (.aload_n 0) 1 rfl) 0 rfl ?_
  refine x_getR C (a := 76) (j := 10) 82 rfl rfl (by decide) fl_RX12_25 rfl rfl rfl (k_dg dt_X12_goes_3 33 276 (.getfield 25) 3 rfl) ?_
  refine x_iload C (k_dg dt_X12_goes_3 34 279 (.iload 5) 2 rfl) 1 rfl ?_
  refine x_iconst C (v := 1) (k_dg dt_X12_goes_3 35 281 (.iconst 1) 1 rfl) (by decide) ?_
  refine x_iadd C (k_dg dt_X12_goes_3 36 282 (.iadd) 1 rfl) ?_
  refine x_iald C (a := 82) (n := 1100) rfl rfl (k_dg dt_X12_goes_3 37 283 (.iaload) 1 rfl) (fun v1 => ?_)
  refine x_iload C (k_dg dt_X12_goes_3 38 284 (.iload 6) 2 rfl) 2 rfl ?_
  refine x_iadd C (k_dg dt_X12_goes_3 39 286 (.iadd) 1 rfl) ?_
  refine x_sipush C (v := 999) (k_dg dt_X12_goes_4 0 287 (.sipush 999) 3 rfl) (by decide) ?_
  refine x_icmp_gt C (tgt := 297) (k_dg dt_X12_goes_4 1 290 (.if_icmp .gt 7) 3 rfl) (by decide) (fun _ => ?_) (fun _ => ?_)
  · refine x_iconst C (v := 0) (k_dg dt_X12_goes_4 4 297 (.iconst 0) 1 rfl) (by decide) ?_
    exact m_X12_goes_298 C l5 l6 l7 0 M
  · refine x_iconst C (v := 1) (k_dg dt_X12_goes_4 2 293 (.iconst 1) 1 rfl) (by decide) ?_
    refine x_goto C (tgt := 298) (k_dg dt_X12_goes_4 3 294 (.goto 4) 3 rfl) (by decide) ?_
    exact m_X12_goes_298 C l5 l6 l7 1 M
def f_X12_goes_273 (l5 : Int32) (l6 : Int32) (l7 : Int32) (t1 : Int32) (t2 : Int32) (t3 : Int32) (M : k_M) : Option (Int32 × k_M) := wrI M 82 1100 t1 (t2 - t3) (fun M1 => f_X12_goes_275 l5 l6 l7 M1)
theorem m_X12_goes_273 {Z : k_Z} {G : k_G} (C : k_C Z G RX12 cX12_goes (true, 12, 4, 0, 0) (some .int) "goes") (l5 : Int32) (l6 : Int32) (l7 : Int32) (t1 : Int32) (t2 : Int32) (t3 : Int32) (M : k_M) : Sm Z G emI (true, 12, 4, 0, 0) (0, 0) 273 [(0, k_ra Z 76), (5, Value.int l5), (6, Value.int l6), (7, Value.int l7)] [Value.int t3, Value.int t2, Value.int t1, k_ra Z 82] M (f_X12_goes_273 l5 l6 l7 t1 t2 t3 M) := by
  show Sm Z G emI _ _ _ _ _ _ (wrI M 82 1100 t1 (t2 - t3) (fun M1 => f_X12_goes_275 l5 l6 l7 M1))
  refine x_isub C (k_dg dt_X12_goes_3 30 273 (.isub) 1 rfl) ?_
  refine x_iast C (a := 82) (n := 1100) rfl rfl (k_dg dt_X12_goes_3 31 274 (.iastore) 1 rfl) (fun M1 => ?_)
  exact m_X12_goes_275 C l5 l6 l7 M1
def f_X12_goes_241 (l5 : Int32) (l6 : Int32) (l7 : Int32) (l8 : Int32) (t1 : Int32) (t2 : Int32) (M : k_M) : Option (Int32 × k_M) := wrI M 82 1100 t1 t2 (fun M1 => rdI M1 82 1100 ((l5 + 13) + l8) (fun v2 => bd (f_X12_wayIts l8 3 M1) (fun r3 M4 => if r3 = 9 then f_X12_goes_273 l5 l6 l7 ((l5 + 13) + l8) v2 0 M4 else f_X12_goes_273 l5 l6 l7 ((l5 + 13) + l8) v2 1 M4)))
theorem m_X12_goes_241 {Z : k_Z} {G : k_G} (C : k_C Z G RX12 cX12_goes (true, 12, 4, 0, 0) (some .int) "goes") (l5 : Int32) (l6 : Int32) (l7 : Int32) (l8 : Int32) (t1 : Int32) (t2 : Int32) (M : k_M) : Sm Z G emI (true, 12, 4, 0, 0) (0, 0) 241 [(0, k_ra Z 76), (5, Value.int l5), (6, Value.int l6), (7, Value.int l7), (8, Value.int l8)] [Value.int t2, Value.int t1, k_ra Z 82] M (f_X12_goes_241 l5 l6 l7 l8 t1 t2 M) := by
  show Sm Z G emI _ _ _ _ _ _ (wrI M 82 1100 t1 t2 (fun M1 => rdI M1 82 1100 ((l5 + 13) + l8) (fun v2 => bd (f_X12_wayIts l8 3 M1) (fun r3 M4 => if r3 = 9 then f_X12_goes_273 l5 l6 l7 ((l5 + 13) + l8) v2 0 M4 else f_X12_goes_273 l5 l6 l7 ((l5 + 13) + l8) v2 1 M4))))
  refine x_iast C (a := 82) (n := 1100) rfl rfl (k_dg dt_X12_goes_3 11 241 (.iastore) 1 rfl) (fun M1 => ?_)
  refine x_aload_n C (k_dg dt_X12_goes_3 12 242 (.aload_n 0) 1 rfl) 0 rfl ?_
  refine x_getR C (a := 76) (j := 10) 82 rfl rfl (by decide) fl_RX12_25 rfl rfl rfl (k_dg dt_X12_goes_3 13 243 (.getfield 25) 3 rfl) ?_
  refine x_iload C (k_dg dt_X12_goes_3 14 246 (.iload 5) 2 rfl) 1 rfl ?_
  refine x_bipush C (v := 13) (k_dg dt_X12_goes_3 15 248 (.bipush 13) 2 rfl) (by decide) ?_
  refine x_iadd C (k_dg dt_X12_goes_3 16 250 (.iadd) 1 rfl) ?_
  refine x_iload C (k_dg dt_X12_goes_3 17 251 (.iload 8) 2 rfl) 4 rfl ?_
  refine x_iadd C (k_dg dt_X12_goes_3 18 253 (.iadd) 1 rfl) ?_
  refine x_dup2 C (k_dg dt_X12_goes_3 19 254 (.dup2) 1 rfl) rfl rfl ?_
  refine x_iald C (a := 82) (n := 1100) rfl rfl (k_dg dt_X12_goes_3 20 255 (.iaload) 1 rfl) (fun v2 => ?_)
  refine x_aload_n C (k_dg dt_X12_goes_3 21 256 (.aload_n 0) 1 rfl) 0 rfl ?_
  refine x_iload C (k_dg dt_X12_goes_3 22 257 (.iload 8) 2 rfl) 4 rfl ?_
  refine x_iconst C (v := 3) (k_dg dt_X12_goes_3 23 259 (.iconst 3) 1 rfl) (by decide) ?_
  refine x_callV C (a := 76) (kd := 10) (vs := [Value.int l8, Value.int 3]) (rest := [Value.int v2, Value.int ((l5 + 13) + l8), k_ra Z 82]) rfl rfl (by decide) (fun r hr => by cases hr; rfl) (c_X12_wayIts C.2.2.2.2.2.2.2.2.2 G.2.1 l8 3 M1) cy_X12_wayIts lk_RX12_106 im_X12_wayIts se_X12_wayIts (by decide) (by decide) (by decide) (by decide) rfl rfl (Nat.le_of_ble_eq_true rfl) (k_dg dt_X12_goes_3 24 260 (.invokevirtual 106) 3 rfl) (fun r3 M4 => ?_)
  show Sm Z G _ _ _ _ [(0, k_ra Z 76), (5, Value.int l5), (6, Value.int l6), (7, Value.int l7), (8, Value.int l8)] [Value.int r3, Value.int v2, Value.int ((l5 + 13) + l8), k_ra Z 82] _ _
  refine x_bipush C (v := 9) (k_dg dt_X12_goes_3 25 263 (.bipush 9) 2 rfl) (by decide) ?_
  refine x_icmp_ne C (tgt := 272) (k_dg dt_X12_goes_3 26 265 (.if_icmp .ne 7) 3 rfl) (by decide) (fun _ => ?_) (fun _ => ?_)
  · refine x_iconst C (v := 0) (k_dg dt_X12_goes_3 27 268 (.iconst 0) 1 rfl) (by decide) ?_
    refine x_goto C (tgt := 273) (k_dg dt_X12_goes_3 28 269 (.goto 4) 3 rfl) (by decide) ?_
    refine x_lv [0, 1, 2, 3] rfl ?_
    exact m_X12_goes_273 C l5 l6 l7 ((l5 + 13) + l8) v2 0 M4
  · refine x_iconst C (v := 1) (k_dg dt_X12_goes_3 29 272 (.iconst 1) 1 rfl) (by decide) ?_
    refine x_lv [0, 1, 2, 3] rfl ?_
    exact m_X12_goes_273 C l5 l6 l7 ((l5 + 13) + l8) v2 1 M4
def f_X12_goes_194 (l5 : Int32) (l8 : Int32) (l9 : Int32) (M : k_M) : Option (Int32 × k_M) := bd (f_X12_wayIts l8 2 M) (fun r1 M2 => bd (f_X12_wayIts l8 0 M2) (fun r3 M4 => if r3 = l9 then bd (f_X12_wayIts l8 1 M4) (fun r7 M8 => f_X12_goes_241 l5 r1 3 l8 l5 r7 M8) else bd (f_X12_wayIts l8 0 M4) (fun r5 M6 => f_X12_goes_241 l5 r1 3 l8 l5 r5 M6)))
theorem m_X12_goes_194 {Z : k_Z} {G : k_G} (C : k_C Z G RX12 cX12_goes (true, 12, 4, 0, 0) (some .int) "goes") (l5 : Int32) (l8 : Int32) (l9 : Int32) (M : k_M) : Sm Z G emI (true, 12, 4, 0, 0) (0, 0) 194 [(0, k_ra Z 76), (5, Value.int l5), (8, Value.int l8), (9, Value.int l9)] [] M (f_X12_goes_194 l5 l8 l9 M) := by
  show Sm Z G emI _ _ _ _ _ _ (bd (f_X12_wayIts l8 2 M) (fun r1 M2 => bd (f_X12_wayIts l8 0 M2) (fun r3 M4 => if r3 = l9 then bd (f_X12_wayIts l8 1 M4) (fun r7 M8 => f_X12_goes_241 l5 r1 3 l8 l5 r7 M8) else bd (f_X12_wayIts l8 0 M4) (fun r5 M6 => f_X12_goes_241 l5 r1 3 l8 l5 r5 M6))))
  refine x_aload_n C (k_dg dt_X12_goes_2 26 194 (.aload_n 0) 1 rfl) 0 rfl ?_
  refine x_iload C (k_dg dt_X12_goes_2 27 195 (.iload 8) 2 rfl) 2 rfl ?_
  refine x_iconst C (v := 2) (k_dg dt_X12_goes_2 28 197 (.iconst 2) 1 rfl) (by decide) ?_
  refine x_callV C (a := 76) (kd := 10) (vs := [Value.int l8, Value.int 2]) (rest := []) rfl rfl (by decide) (fun r hr => by cases hr; rfl) (c_X12_wayIts C.2.2.2.2.2.2.2.2.2 G.2.1 l8 2 M) cy_X12_wayIts lk_RX12_106 im_X12_wayIts se_X12_wayIts (by decide) (by decide) (by decide) (by decide) rfl rfl (Nat.le_of_ble_eq_true rfl) (k_dg dt_X12_goes_2 29 198 (.invokevirtual 106) 3 rfl) (fun r1 M2 => ?_)
  show Sm Z G _ _ _ _ [(0, k_ra Z 76), (5, Value.int l5), (8, Value.int l8), (9, Value.int l9)] [Value.int r1] _ _
  refine x_istore C (lv' := [(6, Value.int r1), (0, k_ra Z 76), (5, Value.int l5), (8, Value.int l8), (9, Value.int l9)]) (k_dg dt_X12_goes_2 30 201 (.istore 6) 2 rfl) (by decide) rfl ?_
  refine x_iconst C (v := 3) (k_dg dt_X12_goes_2 31 203 (.iconst 3) 1 rfl) (by decide) ?_
  refine x_istore C (lv' := [(7, Value.int 3), (6, Value.int r1), (0, k_ra Z 76), (5, Value.int l5), (8, Value.int l8), (9, Value.int l9)]) (k_dg dt_X12_goes_2 32 204 (.istore 7) 2 rfl) (by decide) rfl ?_
  refine x_aload_n C (k_dg dt_X12_goes_2 33 206 (.aload_n 0) 1 rfl) 2 rfl ?_
  refine x_getR C (a := 76) (j := 10) 82 rfl rfl (by decide) fl_RX12_25 rfl rfl rfl (k_dg dt_X12_goes_2 34 207 (.getfield 25) 3 rfl) ?_
  refine x_iload C (k_dg dt_X12_goes_2 35 210 (.iload 5) 2 rfl) 3 rfl ?_
  refine x_aload_n C (k_dg dt_X12_goes_2 36 212 (.aload_n 0) 1 rfl) 2 rfl ?_
  refine x_iload C (k_dg dt_X12_goes_2 37 213 (.iload 8) 2 rfl) 4 rfl ?_
  refine x_iconst C (v := 0) (k_dg dt_X12_goes_2 38 215 (.iconst 0) 1 rfl) (by decide) ?_
  refine x_callV C (a := 76) (kd := 10) (vs := [Value.int l8, Value.int 0]) (rest := [Value.int l5, k_ra Z 82]) rfl rfl (by decide) (fun r hr => by cases hr; rfl) (c_X12_wayIts C.2.2.2.2.2.2.2.2.2 G.2.1 l8 0 M2) cy_X12_wayIts lk_RX12_106 im_X12_wayIts se_X12_wayIts (by decide) (by decide) (by decide) (by decide) rfl rfl (Nat.le_of_ble_eq_true rfl) (k_dg dt_X12_goes_2 39 216 (.invokevirtual 106) 3 rfl) (fun r3 M4 => ?_)
  show Sm Z G _ _ _ _ [(7, Value.int 3), (6, Value.int r1), (0, k_ra Z 76), (5, Value.int l5), (8, Value.int l8), (9, Value.int l9)] [Value.int r3, Value.int l5, k_ra Z 82] _ _
  refine x_iload C (k_dg dt_X12_goes_3 0 219 (.iload 9) 2 rfl) 5 rfl ?_
  refine x_icmp_ne C (tgt := 234) (k_dg dt_X12_goes_3 1 221 (.if_icmp .ne 13) 3 rfl) (by decide) (fun _ => ?_) (fun _ => ?_)
  · refine x_aload_n C (k_dg dt_X12_goes_3 2 224 (.aload_n 0) 1 rfl) 2 rfl ?_
    refine x_iload C (k_dg dt_X12_goes_3 3 225 (.iload 8) 2 rfl) 4 rfl ?_
    refine x_iconst C (v := 1) (k_dg dt_X12_goes_3 4 227 (.iconst 1) 1 rfl) (by decide) ?_
    refine x_callV C (a := 76) (kd := 10) (vs := [Value.int l8, Value.int 1]) (rest := [Value.int l5, k_ra Z 82]) rfl rfl (by decide) (fun r hr => by cases hr; rfl) (c_X12_wayIts C.2.2.2.2.2.2.2.2.2 G.2.1 l8 1 M4) cy_X12_wayIts lk_RX12_106 im_X12_wayIts se_X12_wayIts (by decide) (by decide) (by decide) (by decide) rfl rfl (Nat.le_of_ble_eq_true rfl) (k_dg dt_X12_goes_3 5 228 (.invokevirtual 106) 3 rfl) (fun r7 M8 => ?_)
    show Sm Z G _ _ _ _ [(7, Value.int 3), (6, Value.int r1), (0, k_ra Z 76), (5, Value.int l5), (8, Value.int l8), (9, Value.int l9)] [Value.int r7, Value.int l5, k_ra Z 82] _ _
    refine x_goto C (tgt := 241) (k_dg dt_X12_goes_3 6 231 (.goto 10) 3 rfl) (by decide) ?_
    refine x_lv [2, 3, 1, 0, 4] rfl ?_
    exact m_X12_goes_241 C l5 r1 3 l8 l5 r7 M8
  · refine x_aload_n C (k_dg dt_X12_goes_3 7 234 (.aload_n 0) 1 rfl) 2 rfl ?_
    refine x_iload C (k_dg dt_X12_goes_3 8 235 (.iload 8) 2 rfl) 4 rfl ?_
    refine x_iconst C (v := 0) (k_dg dt_X12_goes_3 9 237 (.iconst 0) 1 rfl) (by decide) ?_
    refine x_callV C (a := 76) (kd := 10) (vs := [Value.int l8, Value.int 0]) (rest := [Value.int l5, k_ra Z 82]) rfl rfl (by decide) (fun r hr => by cases hr; rfl) (c_X12_wayIts C.2.2.2.2.2.2.2.2.2 G.2.1 l8 0 M4) cy_X12_wayIts lk_RX12_106 im_X12_wayIts se_X12_wayIts (by decide) (by decide) (by decide) (by decide) rfl rfl (Nat.le_of_ble_eq_true rfl) (k_dg dt_X12_goes_3 10 238 (.invokevirtual 106) 3 rfl) (fun r5 M6 => ?_)
    show Sm Z G _ _ _ _ [(7, Value.int 3), (6, Value.int r1), (0, k_ra Z 76), (5, Value.int l5), (8, Value.int l8), (9, Value.int l9)] [Value.int r5, Value.int l5, k_ra Z 82] _ _
    refine x_lv [2, 3, 1, 0, 4] rfl ?_
    exact m_X12_goes_241 C l5 r1 3 l8 l5 r5 M6
def f_X12_goes_161 (l5 : Int32) (l8 : Int32) (l9 : Int32) (t0 : Int32) (M : k_M) : Option (Int32 × k_M) := if t0 = 0 then some (0, M) else bd (f_X12_wayIts l8 0 M) (fun r1 M2 => if r1 = l9 then f_X12_goes_194 l5 l8 l9 M2 else bd (f_X12_wayIts l8 1 M2) (fun r3 M4 => if r3 = l9 then f_X12_goes_194 l5 l8 l9 M4 else some (0, M4)))
theorem m_X12_goes_161 {Z : k_Z} {G : k_G} (C : k_C Z G RX12 cX12_goes (true, 12, 4, 0, 0) (some .int) "goes") (l5 : Int32) (l8 : Int32) (l9 : Int32) (t0 : Int32) (M : k_M) : Sm Z G emI (true, 12, 4, 0, 0) (0, 0) 161 [(0, k_ra Z 76), (5, Value.int l5), (8, Value.int l8), (9, Value.int l9)] [Value.int t0] M (f_X12_goes_161 l5 l8 l9 t0 M) := by
  show Sm Z G emI _ _ _ _ _ _ (if t0 = 0 then some (0, M) else bd (f_X12_wayIts l8 0 M) (fun r1 M2 => if r1 = l9 then f_X12_goes_194 l5 l8 l9 M2 else bd (f_X12_wayIts l8 1 M2) (fun r3 M4 => if r3 = l9 then f_X12_goes_194 l5 l8 l9 M4 else some (0, M4))))
  refine x_istore C (lv' := [(11, Value.int t0), (0, k_ra Z 76), (5, Value.int l5), (8, Value.int l8), (9, Value.int l9)]) (k_dg dt_X12_goes_2 9 161 (.istore 11) 2 rfl) (by decide) rfl ?_
  refine x_iload C (k_dg dt_X12_goes_2 10 163 (.iload 11) 2 rfl) 0 rfl ?_
  refine x_if_eq C (tgt := 192) (k_dg dt_X12_goes_2 11 165 (.ifCond .eq 27) 3 rfl) (by decide) (fun _ => ?_) (fun _ => ?_)
  · refine x_iconst C (v := 0) (k_dg dt_X12_goes_2 24 192 (.iconst 0) 1 rfl) (by decide) ?_
    exact x_iret C (by decide) (by decide) (k_dg dt_X12_goes_2 25 193 (.ireturn) 1 rfl)
  · refine x_aload_n C (k_dg dt_X12_goes_2 12 168 (.aload_n 0) 1 rfl) 1 rfl ?_
    refine x_iload C (k_dg dt_X12_goes_2 13 169 (.iload 8) 2 rfl) 3 rfl ?_
    refine x_iconst C (v := 0) (k_dg dt_X12_goes_2 14 171 (.iconst 0) 1 rfl) (by decide) ?_
    refine x_callV C (a := 76) (kd := 10) (vs := [Value.int l8, Value.int 0]) (rest := []) rfl rfl (by decide) (fun r hr => by cases hr; rfl) (c_X12_wayIts C.2.2.2.2.2.2.2.2.2 G.2.1 l8 0 M) cy_X12_wayIts lk_RX12_106 im_X12_wayIts se_X12_wayIts (by decide) (by decide) (by decide) (by decide) rfl rfl (Nat.le_of_ble_eq_true rfl) (k_dg dt_X12_goes_2 15 172 (.invokevirtual 106) 3 rfl) (fun r1 M2 => ?_)
    show Sm Z G _ _ _ _ [(11, Value.int t0), (0, k_ra Z 76), (5, Value.int l5), (8, Value.int l8), (9, Value.int l9)] [Value.int r1] _ _
    refine x_iload C (k_dg dt_X12_goes_2 16 175 (.iload 9) 2 rfl) 4 rfl ?_
    refine x_icmp_eq C (tgt := 194) (k_dg dt_X12_goes_2 17 177 (.if_icmp .eq 17) 3 rfl) (by decide) (fun _ => ?_) (fun _ => ?_)
    · refine x_lv [1, 2, 3, 4] rfl ?_
      exact m_X12_goes_194 C l5 l8 l9 M2
    · refine x_aload_n C (k_dg dt_X12_goes_2 18 180 (.aload_n 0) 1 rfl) 1 rfl ?_
      refine x_iload C (k_dg dt_X12_goes_2 19 181 (.iload 8) 2 rfl) 3 rfl ?_
      refine x_iconst C (v := 1) (k_dg dt_X12_goes_2 20 183 (.iconst 1) 1 rfl) (by decide) ?_
      refine x_callV C (a := 76) (kd := 10) (vs := [Value.int l8, Value.int 1]) (rest := []) rfl rfl (by decide) (fun r hr => by cases hr; rfl) (c_X12_wayIts C.2.2.2.2.2.2.2.2.2 G.2.1 l8 1 M2) cy_X12_wayIts lk_RX12_106 im_X12_wayIts se_X12_wayIts (by decide) (by decide) (by decide) (by decide) rfl rfl (Nat.le_of_ble_eq_true rfl) (k_dg dt_X12_goes_2 21 184 (.invokevirtual 106) 3 rfl) (fun r3 M4 => ?_)
      show Sm Z G _ _ _ _ [(11, Value.int t0), (0, k_ra Z 76), (5, Value.int l5), (8, Value.int l8), (9, Value.int l9)] [Value.int r3] _ _
      refine x_iload C (k_dg dt_X12_goes_2 22 187 (.iload 9) 2 rfl) 4 rfl ?_
      refine x_icmp_eq C (tgt := 194) (k_dg dt_X12_goes_2 23 189 (.if_icmp .eq 5) 3 rfl) (by decide) (fun _ => ?_) (fun _ => ?_)
      · refine x_lv [1, 2, 3, 4] rfl ?_
        exact m_X12_goes_194 C l5 l8 l9 M4
      · refine x_iconst C (v := 0) (k_dg dt_X12_goes_2 24 192 (.iconst 0) 1 rfl) (by decide) ?_
        exact x_iret C (by decide) (by decide) (k_dg dt_X12_goes_2 25 193 (.ireturn) 1 rfl)
def f_X12_goes_160 (l5 : Int32) (l8 : Int32) (l9 : Int32) (M : k_M) : Option (Int32 × k_M) := f_X12_goes_161 l5 l8 l9 0 M
theorem m_X12_goes_160 {Z : k_Z} {G : k_G} (C : k_C Z G RX12 cX12_goes (true, 12, 4, 0, 0) (some .int) "goes") (l5 : Int32) (l8 : Int32) (l9 : Int32) (M : k_M) : Sm Z G emI (true, 12, 4, 0, 0) (0, 0) 160 [(0, k_ra Z 76), (5, Value.int l5), (8, Value.int l8), (9, Value.int l9)] [] M (f_X12_goes_160 l5 l8 l9 M) := by
  show Sm Z G emI _ _ _ _ _ _ (f_X12_goes_161 l5 l8 l9 0 M)
  refine x_iconst C (v := 0) (k_dg dt_X12_goes_2 8 160 (.iconst 0) 1 rfl) (by decide) ?_
  exact m_X12_goes_161 C l5 l8 l9 0 M
def f_X12_goes_133 (l5 : Int32) (l8 : Int32) (l9 : Int32) (t1 : Int32) (M : k_M) : Option (Int32 × k_M) := bd (f_X12_wayIts t1 4 M) (fun r1 M2 => rdI M2 82 1100 (l5 + 1) (fun v3 => bd (f_X12_monthOf v3 M2) (fun r4 M5 => if ((r1 >>> (r4 &&& 31)) &&& 1) = 1 then f_X12_goes_161 l5 l8 l9 1 M5 else f_X12_goes_160 l5 l8 l9 M5)))
theorem m_X12_goes_133 {Z : k_Z} {G : k_G} (C : k_C Z G RX12 cX12_goes (true, 12, 4, 0, 0) (some .int) "goes") (l5 : Int32) (l8 : Int32) (l9 : Int32) (t1 : Int32) (M : k_M) : Sm Z G emI (true, 12, 4, 0, 0) (0, 0) 133 [(0, k_ra Z 76), (5, Value.int l5), (8, Value.int l8), (9, Value.int l9)] [Value.int t1, k_ra Z 76] M (f_X12_goes_133 l5 l8 l9 t1 M) := by
  show Sm Z G emI _ _ _ _ _ _ (bd (f_X12_wayIts t1 4 M) (fun r1 M2 => rdI M2 82 1100 (l5 + 1) (fun v3 => bd (f_X12_monthOf v3 M2) (fun r4 M5 => if ((r1 >>> (r4 &&& 31)) &&& 1) = 1 then f_X12_goes_161 l5 l8 l9 1 M5 else f_X12_goes_160 l5 l8 l9 M5))))
  refine x_iconst C (v := 4) (k_dg dt_X12_goes_1 32 133 (.iconst 4) 1 rfl) (by decide) ?_
  refine x_callV C (a := 76) (kd := 10) (vs := [Value.int t1, Value.int 4]) (rest := []) rfl rfl (by decide) (fun r hr => by cases hr; rfl) (c_X12_wayIts C.2.2.2.2.2.2.2.2.2 G.2.1 t1 4 M) cy_X12_wayIts lk_RX12_106 im_X12_wayIts se_X12_wayIts (by decide) (by decide) (by decide) (by decide) rfl rfl (Nat.le_of_ble_eq_true rfl) (k_dg dt_X12_goes_1 33 134 (.invokevirtual 106) 3 rfl) (fun r1 M2 => ?_)
  show Sm Z G _ _ _ _ [(0, k_ra Z 76), (5, Value.int l5), (8, Value.int l8), (9, Value.int l9)] [Value.int r1] _ _
  refine x_aload_n C (k_dg dt_X12_goes_1 34 137 (.aload_n 0) 1 rfl) 0 rfl ?_
  refine x_getR C (a := 76) (j := 10) 82 rfl rfl (by decide) fl_RX12_25 rfl rfl rfl (k_dg dt_X12_goes_1 35 138 (.getfield 25) 3 rfl) ?_
  refine x_iload C (k_dg dt_X12_goes_1 36 141 (.iload 5) 2 rfl) 1 rfl ?_
  refine x_iconst C (v := 1) (k_dg dt_X12_goes_1 37 143 (.iconst 1) 1 rfl) (by decide) ?_
  refine x_iadd C (k_dg dt_X12_goes_1 38 144 (.iadd) 1 rfl) ?_
  refine x_iald C (a := 82) (n := 1100) rfl rfl (k_dg dt_X12_goes_1 39 145 (.iaload) 1 rfl) (fun v3 => ?_)
  refine x_callS C (vs := [Value.int v3]) (rest := [Value.int r1]) (c_X12_monthOf C.2.2.2.2.2.2.2.2.2 G.2.1 v3 M2) cy_X12_monthOf lk_RX12_229 stt_X12_monthOf (by decide) (by decide) (by decide) (by decide) rfl rfl (Nat.le_of_ble_eq_true rfl) (k_dg dt_X12_goes_2 0 146 (.invokestatic 229) 3 rfl) (fun r4 M5 => ?_)
  show Sm Z G _ _ _ _ [(0, k_ra Z 76), (5, Value.int l5), (8, Value.int l8), (9, Value.int l9)] [Value.int r4, Value.int r1] _ _
  refine x_ishr C (k_dg dt_X12_goes_2 1 149 (.ishr) 1 rfl) ?_
  refine x_iconst C (v := 1) (k_dg dt_X12_goes_2 2 150 (.iconst 1) 1 rfl) (by decide) ?_
  refine x_iand C (k_dg dt_X12_goes_2 3 151 (.iand) 1 rfl) ?_
  refine x_iconst C (v := 1) (k_dg dt_X12_goes_2 4 152 (.iconst 1) 1 rfl) (by decide) ?_
  refine x_icmp_ne C (tgt := 160) (k_dg dt_X12_goes_2 5 153 (.if_icmp .ne 7) 3 rfl) (by decide) (fun _ => ?_) (fun _ => ?_)
  · refine x_iconst C (v := 1) (k_dg dt_X12_goes_2 6 156 (.iconst 1) 1 rfl) (by decide) ?_
    refine x_goto C (tgt := 161) (k_dg dt_X12_goes_2 7 157 (.goto 4) 3 rfl) (by decide) ?_
    exact m_X12_goes_161 C l5 l8 l9 1 M5
  · exact m_X12_goes_160 C l5 l8 l9 M5
def f_X12_goes_116 (l5 : Int32) (l8 : Int32) (l9 : Int32) (l10 : Int32) (t1 : Int32) (t2 : Int32) (M : k_M) : Option (Int32 × k_M) := rdI M 82 1100 (t1 + t2) (fun v1 => if v1 ≤ 0 then f_X12_goes_160 l5 l8 l9 M else if l10 = 0 then f_X12_goes_133 l5 l8 l9 0 M else f_X12_goes_133 l5 l8 l9 l8 M)
theorem m_X12_goes_116 {Z : k_Z} {G : k_G} (C : k_C Z G RX12 cX12_goes (true, 12, 4, 0, 0) (some .int) "goes") (l5 : Int32) (l8 : Int32) (l9 : Int32) (l10 : Int32) (t1 : Int32) (t2 : Int32) (M : k_M) : Sm Z G emI (true, 12, 4, 0, 0) (0, 0) 116 [(0, k_ra Z 76), (5, Value.int l5), (8, Value.int l8), (9, Value.int l9), (10, Value.int l10)] [Value.int t2, Value.int t1, k_ra Z 82] M (f_X12_goes_116 l5 l8 l9 l10 t1 t2 M) := by
  show Sm Z G emI _ _ _ _ _ _ (rdI M 82 1100 (t1 + t2) (fun v1 => if v1 ≤ 0 then f_X12_goes_160 l5 l8 l9 M else if l10 = 0 then f_X12_goes_133 l5 l8 l9 0 M else f_X12_goes_133 l5 l8 l9 l8 M))
  refine x_iadd C (k_dg dt_X12_goes_1 23 116 (.iadd) 1 rfl) ?_
  refine x_iald C (a := 82) (n := 1100) rfl rfl (k_dg dt_X12_goes_1 24 117 (.iaload) 1 rfl) (fun v1 => ?_)
  refine x_if_le C (tgt := 160) (k_dg dt_X12_goes_1 25 118 (.ifCond .le 42) 3 rfl) (by decide) (fun _ => ?_) (fun _ => ?_)
  · refine x_lv [0, 1, 2, 3] rfl ?_
    exact m_X12_goes_160 C l5 l8 l9 M
  · refine x_aload_n C (k_dg dt_X12_goes_1 26 121 (.aload_n 0) 1 rfl) 0 rfl ?_
    refine x_iload C (k_dg dt_X12_goes_1 27 122 (.iload 10) 2 rfl) 4 rfl ?_
    refine x_if_eq C (tgt := 132) (k_dg dt_X12_goes_1 28 124 (.ifCond .eq 8) 3 rfl) (by decide) (fun _ => ?_) (fun _ => ?_)
    · refine x_iconst C (v := 0) (k_dg dt_X12_goes_1 31 132 (.iconst 0) 1 rfl) (by decide) ?_
      refine x_lv [0, 1, 2, 3] rfl ?_
      exact m_X12_goes_133 C l5 l8 l9 0 M
    · refine x_iload C (k_dg dt_X12_goes_1 29 127 (.iload 8) 2 rfl) 2 rfl ?_
      refine x_goto C (tgt := 133) (k_dg dt_X12_goes_1 30 129 (.goto 4) 3 rfl) (by decide) ?_
      refine x_lv [0, 1, 2, 3] rfl ?_
      exact m_X12_goes_133 C l5 l8 l9 l8 M
def f_X12_goes_49 (l2 : Int32) (l3 : Int32) (l5 : Int32) (M : k_M) : Option (Int32 × k_M) := bN (l2 - 1) (fun v1 => if l2 = 0 then bd (f_X12_gets l5 l3 M) (fun r5 M6 => f_X12_goes_275 l5 1 0 M6) else rdI M 82 1100 l5 (fun v2 => bd (f_X12_isWay v1 M) (fun r3 M4 => if r3 = 0 then f_X12_goes_160 l5 v1 v2 M4 else if r3 = 0 then f_X12_goes_116 l5 v1 v2 r3 (l5 + 13) 0 M4 else f_X12_goes_116 l5 v1 v2 r3 (l5 + 13) v1 M4)))
theorem m_X12_goes_49 {Z : k_Z} {G : k_G} (C : k_C Z G RX12 cX12_goes (true, 12, 4, 0, 0) (some .int) "goes") (l2 : Int32) (l3 : Int32) (l5 : Int32) (M : k_M) : Sm Z G emI (true, 12, 4, 0, 0) (0, 0) 49 [(0, k_ra Z 76), (2, Value.int l2), (3, Value.int l3), (5, Value.int l5)] [] M (f_X12_goes_49 l2 l3 l5 M) := by
  show Sm Z G emI _ _ _ _ _ _ (bN (l2 - 1) (fun v1 => if l2 = 0 then bd (f_X12_gets l5 l3 M) (fun r5 M6 => f_X12_goes_275 l5 1 0 M6) else rdI M 82 1100 l5 (fun v2 => bd (f_X12_isWay v1 M) (fun r3 M4 => if r3 = 0 then f_X12_goes_160 l5 v1 v2 M4 else if r3 = 0 then f_X12_goes_116 l5 v1 v2 r3 (l5 + 13) 0 M4 else f_X12_goes_116 l5 v1 v2 r3 (l5 + 13) v1 M4))))
  refine x_iconst C (v := 1) (k_dg dt_X12_goes_0 27 49 (.iconst 1) 1 rfl) (by decide) ?_
  refine x_istore C (lv' := [(6, Value.int 1), (0, k_ra Z 76), (2, Value.int l2), (3, Value.int l3), (5, Value.int l5)]) (k_dg dt_X12_goes_0 28 50 (.istore 6) 2 rfl) (by decide) rfl ?_
  refine x_iconst C (v := 0) (k_dg dt_X12_goes_0 29 52 (.iconst 0) 1 rfl) (by decide) ?_
  refine x_istore C (lv' := [(7, Value.int 0), (6, Value.int 1), (0, k_ra Z 76), (2, Value.int l2), (3, Value.int l3), (5, Value.int l5)]) (k_dg dt_X12_goes_0 30 53 (.istore 7) 2 rfl) (by decide) rfl ?_
  refine x_iload_n C (k_dg dt_X12_goes_0 31 55 (.iload_n 2) 1 rfl) 3 rfl ?_
  refine x_iconst C (v := 1) (k_dg dt_X12_goes_0 32 56 (.iconst 1) 1 rfl) (by decide) ?_
  refine x_isub C (k_dg dt_X12_goes_0 33 57 (.isub) 1 rfl) ?_
  refine x_nm (w := Value.int) (fun v1 _ => ?_)
  refine x_istore C (lv' := [(8, Value.int v1), (7, Value.int 0), (6, Value.int 1), (0, k_ra Z 76), (2, Value.int l2), (3, Value.int l3), (5, Value.int l5)]) (k_dg dt_X12_goes_0 34 58 (.istore 8) 2 rfl) (by decide) rfl ?_
  refine x_iload_n C (k_dg dt_X12_goes_0 35 60 (.iload_n 2) 1 rfl) 4 rfl ?_
  refine x_if_ne C (tgt := 74) (k_dg dt_X12_goes_0 36 61 (.ifCond .ne 13) 3 rfl) (by decide) (fun _ => ?_) (fun _ => ?_)
  · refine x_aload_n C (k_dg dt_X12_goes_0 37 64 (.aload_n 0) 1 rfl) 3 rfl ?_
    refine x_iload C (k_dg dt_X12_goes_0 38 65 (.iload 5) 2 rfl) 6 rfl ?_
    refine x_iload_n C (k_dg dt_X12_goes_0 39 67 (.iload_n 3) 1 rfl) 5 rfl ?_
    refine x_callV C (a := 76) (kd := 10) (vs := [Value.int l5, Value.int l3]) (rest := []) rfl rfl (by decide) (fun r hr => by cases hr; rfl) (c_X12_gets C.2.2.2.2.2.2.2.2.2 G.2.1 l5 l3 M) cy_X12_gets lk_RX12_249 im_X12_gets se_X12_gets (by decide) (by decide) (by decide) (by decide) rfl rfl (Nat.le_of_ble_eq_true rfl) (k_dg dt_X12_goes_1 0 68 (.invokevirtual 249) 3 rfl) (fun r5 M6 => ?_)
    show Sm Z G _ _ _ _ [(8, Value.int v1), (7, Value.int 0), (6, Value.int 1), (0, k_ra Z 76), (2, Value.int l2), (3, Value.int l3), (5, Value.int l5)] [] _ _
    refine x_goto C (tgt := 275) (k_dg dt_X12_goes_1 1 71 (.goto 204) 3 rfl) (by decide) ?_
    refine x_lv [3, 6, 2, 1] rfl ?_
    exact m_X12_goes_275 C l5 1 0 M6
  · refine x_aload_n C (k_dg dt_X12_goes_1 2 74 (.aload_n 0) 1 rfl) 3 rfl ?_
    refine x_getR C (a := 76) (j := 10) 82 rfl rfl (by decide) fl_RX12_25 rfl rfl rfl (k_dg dt_X12_goes_1 3 75 (.getfield 25) 3 rfl) ?_
    refine x_iload C (k_dg dt_X12_goes_1 4 78 (.iload 5) 2 rfl) 6 rfl ?_
    refine x_iald C (a := 82) (n := 1100) rfl rfl (k_dg dt_X12_goes_1 5 80 (.iaload) 1 rfl) (fun v2 => ?_)
    refine x_istore C (lv' := [(9, Value.int v2), (8, Value.int v1), (7, Value.int 0), (6, Value.int 1), (0, k_ra Z 76), (2, Value.int l2), (3, Value.int l3), (5, Value.int l5)]) (k_dg dt_X12_goes_1 6 81 (.istore 9) 2 rfl) (by decide) rfl ?_
    refine x_aload_n C (k_dg dt_X12_goes_1 7 83 (.aload_n 0) 1 rfl) 4 rfl ?_
    refine x_iload C (k_dg dt_X12_goes_1 8 84 (.iload 8) 2 rfl) 1 rfl ?_
    refine x_callV C (a := 76) (kd := 10) (vs := [Value.int v1]) (rest := []) rfl rfl (by decide) (fun r hr => by cases hr; rfl) (c_X12_isWay C.2.2.2.2.2.2.2.2.2 G.2.1 v1 M) cy_X12_isWay lk_RX12_223 im_X12_isWay se_X12_isWay (by decide) (by decide) (by decide) (by decide) rfl rfl (Nat.le_of_ble_eq_true rfl) (k_dg dt_X12_goes_1 9 86 (.invokevirtual 223) 3 rfl) (fun r3 M4 => ?_)
    show Sm Z G _ _ _ _ [(9, Value.int v2), (8, Value.int v1), (7, Value.int 0), (6, Value.int 1), (0, k_ra Z 76), (2, Value.int l2), (3, Value.int l3), (5, Value.int l5)] [Value.int r3] _ _
    refine x_istore C (lv' := [(10, Value.int r3), (9, Value.int v2), (8, Value.int v1), (7, Value.int 0), (6, Value.int 1), (0, k_ra Z 76), (2, Value.int l2), (3, Value.int l3), (5, Value.int l5)]) (k_dg dt_X12_goes_1 10 89 (.istore 10) 2 rfl) (by decide) rfl ?_
    refine x_iload C (k_dg dt_X12_goes_1 11 91 (.iload 10) 2 rfl) 0 rfl ?_
    refine x_if_eq C (tgt := 160) (k_dg dt_X12_goes_1 12 93 (.ifCond .eq 67) 3 rfl) (by decide) (fun _ => ?_) (fun _ => ?_)
    · refine x_lv [5, 8, 2, 1] rfl ?_
      exact m_X12_goes_160 C l5 v1 v2 M4
    · refine x_aload_n C (k_dg dt_X12_goes_1 13 96 (.aload_n 0) 1 rfl) 5 rfl ?_
      refine x_getR C (a := 76) (j := 10) 82 rfl rfl (by decide) fl_RX12_25 rfl rfl rfl (k_dg dt_X12_goes_1 14 97 (.getfield 25) 3 rfl) ?_
      refine x_iload C (k_dg dt_X12_goes_1 15 100 (.iload 5) 2 rfl) 8 rfl ?_
      refine x_bipush C (v := 13) (k_dg dt_X12_goes_1 16 102 (.bipush 13) 2 rfl) (by decide) ?_
      refine x_iadd C (k_dg dt_X12_goes_1 17 104 (.iadd) 1 rfl) ?_
      refine x_iload C (k_dg dt_X12_goes_1 18 105 (.iload 10) 2 rfl) 0 rfl ?_
      refine x_if_eq C (tgt := 115) (k_dg dt_X12_goes_1 19 107 (.ifCond .eq 8) 3 rfl) (by decide) (fun _ => ?_) (fun _ => ?_)
      · refine x_iconst C (v := 0) (k_dg dt_X12_goes_1 22 115 (.iconst 0) 1 rfl) (by decide) ?_
        refine x_lv [5, 8, 2, 1, 0] rfl ?_
        exact m_X12_goes_116 C l5 v1 v2 r3 (l5 + 13) 0 M4
      · refine x_iload C (k_dg dt_X12_goes_1 20 110 (.iload 8) 2 rfl) 2 rfl ?_
        refine x_goto C (tgt := 116) (k_dg dt_X12_goes_1 21 112 (.goto 4) 3 rfl) (by decide) ?_
        refine x_lv [5, 8, 2, 1, 0] rfl ?_
        exact m_X12_goes_116 C l5 v1 v2 r3 (l5 + 13) v1 M4
def f_X12_goes (p1 : Int32) (p2 : Int32) (p3 : Int32) (M : k_M) : Option (Int32 × k_M) := bN (25 * p1) (fun v1 => bN (v1 + 25) (fun v2 => f_X12_goes_16 k_fu p2 p3 v1 v2 0 M (fun l2_ l3_ l5_ M_ => f_X12_goes_49 l2_ l3_ l5_ M_)))
theorem m_X12_goes_0 {Z : k_Z} {G : k_G} (C : k_C Z G RX12 cX12_goes (true, 12, 4, 0, 0) (some .int) "goes") (p1 : Int32) (p2 : Int32) (p3 : Int32) (M : k_M) : Sm Z G emI (true, 12, 4, 0, 0) (0, 0) 0 [(0, k_ra Z 76), (1, Value.int p1), (2, Value.int p2), (3, Value.int p3)] [] M (f_X12_goes p1 p2 p3 M) := by
  show Sm Z G emI _ _ _ _ _ _ (bN (25 * p1) (fun v1 => bN (v1 + 25) (fun v2 => f_X12_goes_16 k_fu p2 p3 v1 v2 0 M (fun l2_ l3_ l5_ M_ => f_X12_goes_49 l2_ l3_ l5_ M_))))
  refine x_bipush C (v := 25) (k_dg dt_X12_goes_0 0 0 (.bipush 25) 2 rfl) (by decide) ?_
  refine x_iload_n C (k_dg dt_X12_goes_0 1 2 (.iload_n 1) 1 rfl) 1 rfl ?_
  refine x_imul C (k_dg dt_X12_goes_0 2 3 (.imul) 1 rfl) ?_
  refine x_nm (w := Value.int) (fun v1 _ => ?_)
  refine x_istore C (lv' := [(4, Value.int v1), (0, k_ra Z 76), (1, Value.int p1), (2, Value.int p2), (3, Value.int p3)]) (k_dg dt_X12_goes_0 3 4 (.istore 4) 2 rfl) (by decide) rfl ?_
  refine x_iload C (k_dg dt_X12_goes_0 4 6 (.iload 4) 2 rfl) 0 rfl ?_
  refine x_bipush C (v := 25) (k_dg dt_X12_goes_0 5 8 (.bipush 25) 2 rfl) (by decide) ?_
  refine x_iadd C (k_dg dt_X12_goes_0 6 10 (.iadd) 1 rfl) ?_
  refine x_nm (w := Value.int) (fun v2 _ => ?_)
  refine x_istore C (lv' := [(5, Value.int v2), (4, Value.int v1), (0, k_ra Z 76), (1, Value.int p1), (2, Value.int p2), (3, Value.int p3)]) (k_dg dt_X12_goes_0 7 11 (.istore 5) 2 rfl) (by decide) rfl ?_
  refine x_iconst C (v := 0) (k_dg dt_X12_goes_0 8 13 (.iconst 0) 1 rfl) (by decide) ?_
  refine x_istore C (lv' := [(6, Value.int 0), (5, Value.int v2), (4, Value.int v1), (0, k_ra Z 76), (1, Value.int p1), (2, Value.int p2), (3, Value.int p3)]) (k_dg dt_X12_goes_0 9 14 (.istore 6) 2 rfl) (by decide) rfl ?_
  refine x_lv [3, 5, 6, 2, 1, 0] rfl ?_
  exact m_X12_goes_16 C (fun l2_ l3_ l5_ M_ => f_X12_goes_49 l2_ l3_ l5_ M_) (fun l2_ l3_ l5_ M_ => m_X12_goes_49 C l2_ l3_ l5_ M_) k_fu p2 p3 v1 v2 0 M
theorem c_X12_goes {Z : k_Z} (hg : k_Gd Z) (l : Launch) (p1 : Int32) (p2 : Int32) (p3 : Int32) (M : k_M) : Con true Z l yX12_goes cX12_goes 12 (some .int) 4 0 0 emI [k_ra Z 76, Value.int p1, Value.int p2, Value.int p3] M (f_X12_goes p1 p2 p3 M) := k_con hg (by decide) (Nat.le_of_ble_eq_true rfl) (fun G hl C => m_X12_goes_0 C p1 p2 p3 M)
