theorem fl_RX12_385 : k_FL RX12 385 10 51 := ⟨(RX12, TX12, 53), "WheelCityModel", rfl, by decide, iu_10, Or.inl (List.mem_of_getElem? (i := 1147) (by decide +kernel)), Or.inl rfl⟩
theorem fl_RX12_396 : k_FL RX12 396 10 49 := ⟨(RX12, TX12, 53), "WheelCityModel", rfl, by decide, iu_10, Or.inl (List.mem_of_getElem? (i := 1145) (by decide +kernel)), Or.inl rfl⟩
theorem fl_RX12_89 : k_FL RX12 89 10 50 := ⟨(RX12, TX12, 53), "WheelCityModel", rfl, by decide, iu_10, Or.inl (List.mem_of_getElem? (i := 1146) (by decide +kernel)), Or.inl rfl⟩
theorem fl_RX12_92 : k_FL RX12 92 10 52 := ⟨(RX12, TX12, 53), "WheelCityModel", rfl, by decide, iu_10, Or.inl (List.mem_of_getElem? (i := 1148) (by decide +kernel)), Or.inl rfl⟩
theorem pt_10_43 : k_cls 10 43 .int := fun r hr => by cases hr; exact ⟨rfl, by decide +kernel⟩
theorem pt_10_44 : k_cls 10 44 .int := fun r hr => by cases hr; exact ⟨rfl, by decide +kernel⟩
theorem pt_10_45 : k_cls 10 45 .int := fun r hr => by cases hr; exact ⟨rfl, by decide +kernel⟩
theorem pt_10_49 : k_cls 10 49 .boolean := fun r hr => by cases hr; exact ⟨rfl, by decide +kernel⟩
theorem pt_10_51 : k_cls 10 51 .int := fun r hr => by cases hr; exact ⟨rfl, by decide +kernel⟩
theorem cy_X12_move : k_cy yX12_move cX12_move 5 none 3 := ⟨List.mem_of_getElem? (i := 1663) (by decide +kernel), List.mem_of_getElem? (i := 112) (by decide +kernel), ⟨by decide +kernel, by decide +kernel⟩, by decide +kernel⟩
theorem cy_X12_moveAll : k_cy yX12_moveAll cX12_moveAll 2 none 1 := ⟨List.mem_of_getElem? (i := 1659) (by decide +kernel), List.mem_of_getElem? (i := 112) (by decide +kernel), ⟨by decide +kernel, by decide +kernel⟩, by decide +kernel⟩
theorem cy_X12_tellsIt : k_cy yX12_tellsIt cX12_tellsIt 3 (some .int) 1 := ⟨List.mem_of_getElem? (i := 1639) (by decide +kernel), List.mem_of_getElem? (i := 112) (by decide +kernel), ⟨by decide +kernel, by decide +kernel⟩, by decide +kernel⟩
theorem lk_RX12_382 : k_lk RX12 382 yX12_tellsIt := Or.inl (List.mem_of_getElem? (i := 1636) (by decide +kernel))
theorem lk_RX12_388 : k_lk RX12 388 yX12_move := Or.inl (List.mem_of_getElem? (i := 1660) (by decide +kernel))
theorem lk_RX12_392 : k_lk RX12 392 yX12_moveAll := Or.inl (List.mem_of_getElem? (i := 1656) (by decide +kernel))
theorem im_X12_move : Cond.instanceMethod yX12_move ∈ lw_tbl := List.mem_of_getElem? (i := 1662) (by decide +kernel)
theorem im_X12_moveAll : Cond.instanceMethod yX12_moveAll ∈ lw_tbl := List.mem_of_getElem? (i := 1658) (by decide +kernel)
theorem im_X12_tellsIt : Cond.instanceMethod yX12_tellsIt ∈ lw_tbl := List.mem_of_getElem? (i := 1638) (by decide +kernel)
theorem se_X12_move : Cond.selects yX12_move.cls yX12_move yX12_move ∈ lw_tbl := List.mem_of_getElem? (i := 105) (by decide +kernel)
theorem se_X12_moveAll : Cond.selects yX12_moveAll.cls yX12_moveAll yX12_moveAll ∈ lw_tbl := List.mem_of_getElem? (i := 104) (by decide +kernel)
theorem se_X12_tellsIt : Cond.selects yX12_tellsIt.cls yX12_tellsIt yX12_tellsIt ∈ lw_tbl := List.mem_of_getElem? (i := 102) (by decide +kernel)
theorem dt_X12_act_0 : k_dec cX12_act [(0, .aload_n 0, 1), (1, .iconst 0, 1), (2, .putfield 340, 3), (5, .iload_n 1, 1), (6, .invokestatic 303, 3), (9, .ifCond .eq 11, 3), (12, .aload_n 0, 1), (13, .iload_n 1, 1), (14, .invokevirtual 334, 3), (17, .goto 4, 3), (20, .iconst (-1), 1), (21, .istore 4, 2), (23, .iload_n 2, 1), (24, .iconst 0, 1), (25, .iconst 3, 1), (26, .invokestatic 99, 3), (29, .ifCond .eq 13, 3), (32, .iload 4, 2), (34, .iconst 1, 1), (35, .iconst 5, 1), (36, .invokestatic 99, 3), (39, .ifCond .ne 5, 3), (42, .iconst 0, 1), (43, .ireturn, 1), (44, .aload_n 0, 1), (45, .iload 4, 2), (47, .putfield 343, 3), (50, .aload_n 0, 1), (51, .aload_n 0, 1), (52, .getfield 80, 3), (55, .iload_n 1, 1), (56, .iaload, 1), (57, .putfield 349, 3), (60, .aload_n 0, 1), (61, .aload_n 0, 1), (62, .getfield 22, 3), (65, .iconst 3, 1), (66, .aload_n 0, 1), (67, .getfield 349, 3), (70, .imul, 1)] = true := by decide +kernel
theorem dt_X12_act_1 : k_dec cX12_act [(71, .iconst 1, 1), (72, .iadd, 1), (73, .iaload, 1), (74, .putfield 358, 3), (77, .aload_n 0, 1), (78, .iconst 0, 1), (79, .putfield 364, 3), (82, .iload_n 2, 1), (83, .ifCond .ne 11, 3), (86, .aload_n 0, 1), (87, .iload_n 3, 1), (88, .invokevirtual 352, 3), (91, .goto 34, 3), (94, .iload_n 2, 1), (95, .iconst 1, 1), (96, .if_icmp .ne 11, 3), (99, .aload_n 0, 1), (100, .iload_n 3, 1), (101, .invokevirtual 373, 3), (104, .goto 21, 3), (107, .iload_n 2, 1), (108, .iconst 2, 1), (109, .if_icmp .ne 11, 3), (112, .aload_n 0, 1), (113, .iload_n 3, 1), (114, .invokevirtual 379, 3), (117, .goto 8, 3), (120, .aload_n 0, 1), (121, .iload_n 3, 1), (122, .invokevirtual 382, 3), (125, .istore 5, 2), (127, .aload_n 0, 1), (128, .getfield 364, 3), (131, .ifCond .eq 8, 3), (134, .bipush (-15), 2), (136, .goto 5, 3), (139, .iload 5, 2), (141, .ireturn, 1)] = true := by decide +kernel
def f_X12_act_125 (t0 : Int32) (M : k_M) : Option (Int32 × k_M) := if (M.1 76 48) = 0 then some (t0, M) else some (-15, M)
theorem m_X12_act_125 {Z : k_Z} {G : k_G} (C : k_C Z G RX12 cX12_act (true, 6, 8, 0, 0) (some .int) "act") (t0 : Int32) (M : k_M) : Sm Z G emI (true, 6, 8, 0, 0) (0, 0) 125 [(0, k_ra Z 76)] [Value.int t0] M (f_X12_act_125 t0 M) := by
  show Sm Z G emI _ _ _ _ _ _ (if (M.1 76 48) = 0 then some (t0, M) else some (-15, M))
  refine x_istore C (lv' := [(5, Value.int t0), (0, k_ra Z 76)]) (k_dg dt_X12_act_1 30 125 (.istore 5) 2 rfl) (by decide) rfl ?_
  refine x_aload_n C (k_dg dt_X12_act_1 31 127 (.aload_n 0) 1 rfl) 1 rfl ?_
  refine x_getI C (a := 76) (j := 48) rfl rfl (by decide) fl_RX12_364 rfl (k_dg dt_X12_act_1 32 128 (.getfield 364) 3 rfl) ?_
  refine x_if_eq C (tgt := 139) (k_dg dt_X12_act_1 33 131 (.ifCond .eq 8) 3 rfl) (by decide) (fun _ => ?_) (fun _ => ?_)
  · refine x_iload C (k_dg dt_X12_act_1 36 139 (.iload 5) 2 rfl) 0 rfl ?_
    exact x_iret C (by decide) (by decide) (k_dg dt_X12_act_1 37 141 (.ireturn) 1 rfl)
  · refine x_bipush C (v := -15) (k_dg dt_X12_act_1 34 134 (.bipush (-15)) 2 rfl) (by decide) ?_
    refine x_goto C (tgt := 141) (k_dg dt_X12_act_1 35 136 (.goto 5) 3 rfl) (by decide) ?_
    exact x_iret C (by decide) (by decide) (k_dg dt_X12_act_1 37 141 (.ireturn) 1 rfl)
def f_X12_act_21 (l1 : Int32) (l2 : Int32) (l3 : Int32) (t0 : Int32) (M : k_M) : Option (Int32 × k_M) := bd (f_X12_in l2 0 3 M) (fun r1 M2 => if r1 = 0 then some (0, M2) else bd (f_X12_in t0 1 5 M2) (fun r3 M4 => if r3 = 0 then some (0, M4) else bN (sI M4 76 43 t0) (fun M5 => rdI M5 100 4 l1 (fun v6 => bN (sI M5 76 44 v6) (fun M7 => rdI M7 81 12 ((3 * (M7.1 76 44)) + 1) (fun v8 => bN (sI M7 76 45 v8) (fun M9 => bN (sI M9 76 48 0) (fun M10 => if l2 = 0 then bd (f_X12_rollsIt l3 M10) (fun r17 M18 => f_X12_act_125 r17 M18) else if l2 = 1 then bd (f_X12_eatsIt l3 M10) (fun r15 M16 => f_X12_act_125 r15 M16) else if l2 = 2 then bd (f_X12_sharesIt l3 M10) (fun r13 M14 => f_X12_act_125 r13 M14) else bd (f_X12_tellsIt l3 M10) (fun r11 M12 => f_X12_act_125 r11 M12)))))))))
theorem m_X12_act_21 {Z : k_Z} {G : k_G} (C : k_C Z G RX12 cX12_act (true, 6, 8, 0, 0) (some .int) "act") (l1 : Int32) (l2 : Int32) (l3 : Int32) (t0 : Int32) (M : k_M) : Sm Z G emI (true, 6, 8, 0, 0) (0, 0) 21 [(0, k_ra Z 76), (1, Value.int l1), (2, Value.int l2), (3, Value.int l3)] [Value.int t0] M (f_X12_act_21 l1 l2 l3 t0 M) := by
  show Sm Z G emI _ _ _ _ _ _ (bd (f_X12_in l2 0 3 M) (fun r1 M2 => if r1 = 0 then some (0, M2) else bd (f_X12_in t0 1 5 M2) (fun r3 M4 => if r3 = 0 then some (0, M4) else bN (sI M4 76 43 t0) (fun M5 => rdI M5 100 4 l1 (fun v6 => bN (sI M5 76 44 v6) (fun M7 => rdI M7 81 12 ((3 * (M7.1 76 44)) + 1) (fun v8 => bN (sI M7 76 45 v8) (fun M9 => bN (sI M9 76 48 0) (fun M10 => if l2 = 0 then bd (f_X12_rollsIt l3 M10) (fun r17 M18 => f_X12_act_125 r17 M18) else if l2 = 1 then bd (f_X12_eatsIt l3 M10) (fun r15 M16 => f_X12_act_125 r15 M16) else if l2 = 2 then bd (f_X12_sharesIt l3 M10) (fun r13 M14 => f_X12_act_125 r13 M14) else bd (f_X12_tellsIt l3 M10) (fun r11 M12 => f_X12_act_125 r11 M12))))))))))
  refine x_istore C (lv' := [(4, Value.int t0), (0, k_ra Z 76), (1, Value.int l1), (2, Value.int l2), (3, Value.int l3)]) (k_dg dt_X12_act_0 11 21 (.istore 4) 2 rfl) (by decide) rfl ?_
  refine x_iload_n C (k_dg dt_X12_act_0 12 23 (.iload_n 2) 1 rfl) 3 rfl ?_
  refine x_iconst C (v := 0) (k_dg dt_X12_act_0 13 24 (.iconst 0) 1 rfl) (by decide) ?_
  refine x_iconst C (v := 3) (k_dg dt_X12_act_0 14 25 (.iconst 3) 1 rfl) (by decide) ?_
  refine x_callS C (vs := [Value.int l2, Value.int 0, Value.int 3]) (rest := []) (c_X12_in C.2.2.2.2.2.2.2.2.2 G.2.1 l2 0 3 M) cy_X12_in lk_RX12_99 stt_X12_in (by decide) (by decide) (by decide) (by decide) rfl rfl (Nat.le_of_ble_eq_true rfl) (k_dg dt_X12_act_0 15 26 (.invokestatic 99) 3 rfl) (fun r1 M2 => ?_)
  show Sm Z G _ _ _ _ [(4, Value.int t0), (0, k_ra Z 76), (1, Value.int l1), (2, Value.int l2), (3, Value.int l3)] [Value.int r1] _ _
  refine x_if_eq C (tgt := 42) (k_dg dt_X12_act_0 16 29 (.ifCond .eq 13) 3 rfl) (by decide) (fun _ => ?_) (fun _ => ?_)
  · refine x_iconst C (v := 0) (k_dg dt_X12_act_0 22 42 (.iconst 0) 1 rfl) (by decide) ?_
    exact x_iret C (by decide) (by decide) (k_dg dt_X12_act_0 23 43 (.ireturn) 1 rfl)
  · refine x_iload C (k_dg dt_X12_act_0 17 32 (.iload 4) 2 rfl) 0 rfl ?_
    refine x_iconst C (v := 1) (k_dg dt_X12_act_0 18 34 (.iconst 1) 1 rfl) (by decide) ?_
    refine x_iconst C (v := 5) (k_dg dt_X12_act_0 19 35 (.iconst 5) 1 rfl) (by decide) ?_
    refine x_callS C (vs := [Value.int t0, Value.int 1, Value.int 5]) (rest := []) (c_X12_in C.2.2.2.2.2.2.2.2.2 G.2.1 t0 1 5 M2) cy_X12_in lk_RX12_99 stt_X12_in (by decide) (by decide) (by decide) (by decide) rfl rfl (Nat.le_of_ble_eq_true rfl) (k_dg dt_X12_act_0 20 36 (.invokestatic 99) 3 rfl) (fun r3 M4 => ?_)
    show Sm Z G _ _ _ _ [(4, Value.int t0), (0, k_ra Z 76), (1, Value.int l1), (2, Value.int l2), (3, Value.int l3)] [Value.int r3] _ _
    refine x_if_ne C (tgt := 44) (k_dg dt_X12_act_0 21 39 (.ifCond .ne 5) 3 rfl) (by decide) (fun _ => ?_) (fun _ => ?_)
    · refine x_iconst C (v := 0) (k_dg dt_X12_act_0 22 42 (.iconst 0) 1 rfl) (by decide) ?_
      exact x_iret C (by decide) (by decide) (k_dg dt_X12_act_0 23 43 (.ireturn) 1 rfl)
    · refine x_aload_n C (k_dg dt_X12_act_0 24 44 (.aload_n 0) 1 rfl) 1 rfl ?_
      refine x_iload C (k_dg dt_X12_act_0 25 45 (.iload 4) 2 rfl) 0 rfl ?_
      refine x_putI C (a := 76) (j := 43) rfl rfl (by decide) fl_RX12_343 rfl pt_10_43 tb_10 rfl rfl (k_dg dt_X12_act_0 26 47 (.putfield 343) 3 rfl) (fun M5 => ?_)
      refine x_aload_n C (k_dg dt_X12_act_0 27 50 (.aload_n 0) 1 rfl) 1 rfl ?_
      refine x_aload_n C (k_dg dt_X12_act_0 28 51 (.aload_n 0) 1 rfl) 1 rfl ?_
      refine x_getR C (a := 76) (j := 41) 100 rfl rfl (by decide) fl_RX12_80 rfl rfl rfl (k_dg dt_X12_act_0 29 52 (.getfield 80) 3 rfl) ?_
      refine x_iload_n C (k_dg dt_X12_act_0 30 55 (.iload_n 1) 1 rfl) 2 rfl ?_
      refine x_iald C (a := 100) (n := 4) rfl rfl (k_dg dt_X12_act_0 31 56 (.iaload) 1 rfl) (fun v6 => ?_)
      refine x_putI C (a := 76) (j := 44) rfl rfl (by decide) fl_RX12_349 rfl pt_10_44 tb_10 rfl rfl (k_dg dt_X12_act_0 32 57 (.putfield 349) 3 rfl) (fun M7 => ?_)
      refine x_aload_n C (k_dg dt_X12_act_0 33 60 (.aload_n 0) 1 rfl) 1 rfl ?_
      refine x_aload_n C (k_dg dt_X12_act_0 34 61 (.aload_n 0) 1 rfl) 1 rfl ?_
      refine x_getR C (a := 76) (j := 9) 81 rfl rfl (by decide) fl_RX12_22 rfl rfl rfl (k_dg dt_X12_act_0 35 62 (.getfield 22) 3 rfl) ?_
      refine x_iconst C (v := 3) (k_dg dt_X12_act_0 36 65 (.iconst 3) 1 rfl) (by decide) ?_
      refine x_aload_n C (k_dg dt_X12_act_0 37 66 (.aload_n 0) 1 rfl) 1 rfl ?_
      refine x_getI C (a := 76) (j := 44) rfl rfl (by decide) fl_RX12_349 rfl (k_dg dt_X12_act_0 38 67 (.getfield 349) 3 rfl) ?_
      refine x_imul C (k_dg dt_X12_act_0 39 70 (.imul) 1 rfl) ?_
      refine x_iconst C (v := 1) (k_dg dt_X12_act_1 0 71 (.iconst 1) 1 rfl) (by decide) ?_
      refine x_iadd C (k_dg dt_X12_act_1 1 72 (.iadd) 1 rfl) ?_
      refine x_iald C (a := 81) (n := 12) rfl rfl (k_dg dt_X12_act_1 2 73 (.iaload) 1 rfl) (fun v8 => ?_)
      refine x_putI C (a := 76) (j := 45) rfl rfl (by decide) fl_RX12_358 rfl pt_10_45 tb_10 rfl rfl (k_dg dt_X12_act_1 3 74 (.putfield 358) 3 rfl) (fun M9 => ?_)
      refine x_aload_n C (k_dg dt_X12_act_1 4 77 (.aload_n 0) 1 rfl) 1 rfl ?_
      refine x_iconst C (v := 0) (k_dg dt_X12_act_1 5 78 (.iconst 0) 1 rfl) (by decide) ?_
      refine x_putI C (a := 76) (j := 48) rfl rfl (by decide) fl_RX12_364 rfl pt_10_48 tb_10 rfl rfl (k_dg dt_X12_act_1 6 79 (.putfield 364) 3 rfl) (fun M10 => ?_)
      refine x_iload_n C (k_dg dt_X12_act_1 7 82 (.iload_n 2) 1 rfl) 3 rfl ?_
      refine x_if_ne C (tgt := 94) (k_dg dt_X12_act_1 8 83 (.ifCond .ne 11) 3 rfl) (by decide) (fun _ => ?_) (fun _ => ?_)
      · refine x_aload_n C (k_dg dt_X12_act_1 9 86 (.aload_n 0) 1 rfl) 1 rfl ?_
        refine x_iload_n C (k_dg dt_X12_act_1 10 87 (.iload_n 3) 1 rfl) 4 rfl ?_
        refine x_callV C (a := 76) (kd := 10) (vs := [Value.int l3]) (rest := []) rfl rfl (by decide) (fun r hr => by cases hr; rfl) (c_X12_rollsIt C.2.2.2.2.2.2.2.2.2 G.2.1 l3 M10) cy_X12_rollsIt lk_RX12_352 im_X12_rollsIt se_X12_rollsIt (by decide) (by decide) (by decide) (by decide) rfl rfl (Nat.le_of_ble_eq_true rfl) (k_dg dt_X12_act_1 11 88 (.invokevirtual 352) 3 rfl) (fun r17 M18 => ?_)
        show Sm Z G _ _ _ _ [(4, Value.int t0), (0, k_ra Z 76), (1, Value.int l1), (2, Value.int l2), (3, Value.int l3)] [Value.int r17] _ _
        refine x_goto C (tgt := 125) (k_dg dt_X12_act_1 12 91 (.goto 34) 3 rfl) (by decide) ?_
        refine x_lv [1] rfl ?_
        exact m_X12_act_125 C r17 M18
      · refine x_iload_n C (k_dg dt_X12_act_1 13 94 (.iload_n 2) 1 rfl) 3 rfl ?_
        refine x_iconst C (v := 1) (k_dg dt_X12_act_1 14 95 (.iconst 1) 1 rfl) (by decide) ?_
        refine x_icmp_ne C (tgt := 107) (k_dg dt_X12_act_1 15 96 (.if_icmp .ne 11) 3 rfl) (by decide) (fun _ => ?_) (fun _ => ?_)
        · refine x_aload_n C (k_dg dt_X12_act_1 16 99 (.aload_n 0) 1 rfl) 1 rfl ?_
          refine x_iload_n C (k_dg dt_X12_act_1 17 100 (.iload_n 3) 1 rfl) 4 rfl ?_
          refine x_callV C (a := 76) (kd := 10) (vs := [Value.int l3]) (rest := []) rfl rfl (by decide) (fun r hr => by cases hr; rfl) (c_X12_eatsIt C.2.2.2.2.2.2.2.2.2 G.2.1 l3 M10) cy_X12_eatsIt lk_RX12_373 im_X12_eatsIt se_X12_eatsIt (by decide) (by decide) (by decide) (by decide) rfl rfl (Nat.le_of_ble_eq_true rfl) (k_dg dt_X12_act_1 18 101 (.invokevirtual 373) 3 rfl) (fun r15 M16 => ?_)
          show Sm Z G _ _ _ _ [(4, Value.int t0), (0, k_ra Z 76), (1, Value.int l1), (2, Value.int l2), (3, Value.int l3)] [Value.int r15] _ _
          refine x_goto C (tgt := 125) (k_dg dt_X12_act_1 19 104 (.goto 21) 3 rfl) (by decide) ?_
          refine x_lv [1] rfl ?_
          exact m_X12_act_125 C r15 M16
        · refine x_iload_n C (k_dg dt_X12_act_1 20 107 (.iload_n 2) 1 rfl) 3 rfl ?_
          refine x_iconst C (v := 2) (k_dg dt_X12_act_1 21 108 (.iconst 2) 1 rfl) (by decide) ?_
          refine x_icmp_ne C (tgt := 120) (k_dg dt_X12_act_1 22 109 (.if_icmp .ne 11) 3 rfl) (by decide) (fun _ => ?_) (fun _ => ?_)
          · refine x_aload_n C (k_dg dt_X12_act_1 23 112 (.aload_n 0) 1 rfl) 1 rfl ?_
            refine x_iload_n C (k_dg dt_X12_act_1 24 113 (.iload_n 3) 1 rfl) 4 rfl ?_
            refine x_callV C (a := 76) (kd := 10) (vs := [Value.int l3]) (rest := []) rfl rfl (by decide) (fun r hr => by cases hr; rfl) (c_X12_sharesIt C.2.2.2.2.2.2.2.2.2 G.2.1 l3 M10) cy_X12_sharesIt lk_RX12_379 im_X12_sharesIt se_X12_sharesIt (by decide) (by decide) (by decide) (by decide) rfl rfl (Nat.le_of_ble_eq_true rfl) (k_dg dt_X12_act_1 25 114 (.invokevirtual 379) 3 rfl) (fun r13 M14 => ?_)
            show Sm Z G _ _ _ _ [(4, Value.int t0), (0, k_ra Z 76), (1, Value.int l1), (2, Value.int l2), (3, Value.int l3)] [Value.int r13] _ _
            refine x_goto C (tgt := 125) (k_dg dt_X12_act_1 26 117 (.goto 8) 3 rfl) (by decide) ?_
            refine x_lv [1] rfl ?_
            exact m_X12_act_125 C r13 M14
          · refine x_aload_n C (k_dg dt_X12_act_1 27 120 (.aload_n 0) 1 rfl) 1 rfl ?_
            refine x_iload_n C (k_dg dt_X12_act_1 28 121 (.iload_n 3) 1 rfl) 4 rfl ?_
            refine x_callV C (a := 76) (kd := 10) (vs := [Value.int l3]) (rest := []) rfl rfl (by decide) (fun r hr => by cases hr; rfl) (c_X12_tellsIt C.2.2.2.2.2.2.2.2.2 G.2.1 l3 M10) cy_X12_tellsIt lk_RX12_382 im_X12_tellsIt se_X12_tellsIt (by decide) (by decide) (by decide) (by decide) rfl rfl (Nat.le_of_ble_eq_true rfl) (k_dg dt_X12_act_1 29 122 (.invokevirtual 382) 3 rfl) (fun r11 M12 => ?_)
            show Sm Z G _ _ _ _ [(4, Value.int t0), (0, k_ra Z 76), (1, Value.int l1), (2, Value.int l2), (3, Value.int l3)] [Value.int r11] _ _
            refine x_lv [1] rfl ?_
            exact m_X12_act_125 C r11 M12
def f_X12_act (p1 : Int32) (p2 : Int32) (p3 : Int32) (M : k_M) : Option (Int32 × k_M) := bN (sI M 76 47 0) (fun M1 => bd (f_X12_isShelf p1 M1) (fun r2 M3 => if r2 = 0 then f_X12_act_21 p1 p2 p3 (-1) M3 else bd (f_X12_kindOn p1 M3) (fun r4 M5 => f_X12_act_21 p1 p2 p3 r4 M5)))
theorem m_X12_act_0 {Z : k_Z} {G : k_G} (C : k_C Z G RX12 cX12_act (true, 6, 8, 0, 0) (some .int) "act") (p1 : Int32) (p2 : Int32) (p3 : Int32) (M : k_M) : Sm Z G emI (true, 6, 8, 0, 0) (0, 0) 0 [(0, k_ra Z 76), (1, Value.int p1), (2, Value.int p2), (3, Value.int p3)] [] M (f_X12_act p1 p2 p3 M) := by
  show Sm Z G emI _ _ _ _ _ _ (bN (sI M 76 47 0) (fun M1 => bd (f_X12_isShelf p1 M1) (fun r2 M3 => if r2 = 0 then f_X12_act_21 p1 p2 p3 (-1) M3 else bd (f_X12_kindOn p1 M3) (fun r4 M5 => f_X12_act_21 p1 p2 p3 r4 M5))))
  refine x_aload_n C (k_dg dt_X12_act_0 0 0 (.aload_n 0) 1 rfl) 0 rfl ?_
  refine x_iconst C (v := 0) (k_dg dt_X12_act_0 1 1 (.iconst 0) 1 rfl) (by decide) ?_
  refine x_putI C (a := 76) (j := 47) rfl rfl (by decide) fl_RX12_340 rfl pt_10_47 tb_10 rfl rfl (k_dg dt_X12_act_0 2 2 (.putfield 340) 3 rfl) (fun M1 => ?_)
  refine x_iload_n C (k_dg dt_X12_act_0 3 5 (.iload_n 1) 1 rfl) 1 rfl ?_
  refine x_callS C (vs := [Value.int p1]) (rest := []) (c_X12_isShelf C.2.2.2.2.2.2.2.2.2 G.2.1 p1 M1) cy_X12_isShelf lk_RX12_303 stt_X12_isShelf (by decide) (by decide) (by decide) (by decide) rfl rfl (Nat.le_of_ble_eq_true rfl) (k_dg dt_X12_act_0 4 6 (.invokestatic 303) 3 rfl) (fun r2 M3 => ?_)
  show Sm Z G _ _ _ _ [(0, k_ra Z 76), (1, Value.int p1), (2, Value.int p2), (3, Value.int p3)] [Value.int r2] _ _
  refine x_if_eq C (tgt := 20) (k_dg dt_X12_act_0 5 9 (.ifCond .eq 11) 3 rfl) (by decide) (fun _ => ?_) (fun _ => ?_)
  · refine x_iconst C (v := -1) (k_dg dt_X12_act_0 10 20 (.iconst (-1)) 1 rfl) (by decide) ?_
    exact m_X12_act_21 C p1 p2 p3 (-1) M3
  · refine x_aload_n C (k_dg dt_X12_act_0 6 12 (.aload_n 0) 1 rfl) 0 rfl ?_
    refine x_iload_n C (k_dg dt_X12_act_0 7 13 (.iload_n 1) 1 rfl) 1 rfl ?_
    refine x_callV C (a := 76) (kd := 10) (vs := [Value.int p1]) (rest := []) rfl rfl (by decide) (fun r hr => by cases hr; rfl) (c_X12_kindOn C.2.2.2.2.2.2.2.2.2 G.2.1 p1 M3) cy_X12_kindOn lk_RX12_334 im_X12_kindOn se_X12_kindOn (by decide) (by decide) (by decide) (by decide) rfl rfl (Nat.le_of_ble_eq_true rfl) (k_dg dt_X12_act_0 8 14 (.invokevirtual 334) 3 rfl) (fun r4 M5 => ?_)
    show Sm Z G _ _ _ _ [(0, k_ra Z 76), (1, Value.int p1), (2, Value.int p2), (3, Value.int p3)] [Value.int r4] _ _
    refine x_goto C (tgt := 21) (k_dg dt_X12_act_0 9 17 (.goto 4) 3 rfl) (by decide) ?_
    exact m_X12_act_21 C p1 p2 p3 r4 M5
theorem c_X12_act {Z : k_Z} (hg : k_Gd Z) (l : Launch) (p1 : Int32) (p2 : Int32) (p3 : Int32) (M : k_M) : Con true Z l yX12_act cX12_act 6 (some .int) 8 0 0 emI [k_ra Z 76, Value.int p1, Value.int p2, Value.int p3] M (f_X12_act p1 p2 p3 M) := k_con hg (by decide) (Nat.le_of_ble_eq_true rfl) (fun G hl C => m_X12_act_0 C p1 p2 p3 M)
theorem dt_X12_trace_0 : k_dec cX12_trace [(0, .iload_n 1, 1), (1, .iconst 0, 1), (2, .aload_n 0, 1), (3, .getfield 340, 3), (6, .iconst 1, 1), (7, .isub, 1), (8, .invokestatic 99, 3), (11, .ifCond .eq 12, 3), (14, .aload_n 0, 1), (15, .getfield 86, 3), (18, .iload_n 1, 1), (19, .iaload, 1), (20, .goto 5, 3), (23, .bipush (-3), 2), (25, .ireturn, 1)] = true := by decide +kernel
def f_X12_trace (p1 : Int32) (M : k_M) : Option (Int32 × k_M) := bd (f_X12_in p1 0 ((M.1 76 47) - 1) M) (fun r1 M2 => if r1 = 0 then some (-3, M2) else rdI M2 102 30 p1 (fun v3 => some (v3, M2)))
theorem m_X12_trace_0 {Z : k_Z} {G : k_G} (C : k_C Z G RX12 cX12_trace (true, 2, 2, 0, 0) (some .int) "trace") (p1 : Int32) (M : k_M) : Sm Z G emI (true, 2, 2, 0, 0) (0, 0) 0 [(0, k_ra Z 76), (1, Value.int p1)] [] M (f_X12_trace p1 M) := by
  show Sm Z G emI _ _ _ _ _ _ (bd (f_X12_in p1 0 ((M.1 76 47) - 1) M) (fun r1 M2 => if r1 = 0 then some (-3, M2) else rdI M2 102 30 p1 (fun v3 => some (v3, M2))))
  refine x_iload_n C (k_dg dt_X12_trace_0 0 0 (.iload_n 1) 1 rfl) 1 rfl ?_
  refine x_iconst C (v := 0) (k_dg dt_X12_trace_0 1 1 (.iconst 0) 1 rfl) (by decide) ?_
  refine x_aload_n C (k_dg dt_X12_trace_0 2 2 (.aload_n 0) 1 rfl) 0 rfl ?_
  refine x_getI C (a := 76) (j := 47) rfl rfl (by decide) fl_RX12_340 rfl (k_dg dt_X12_trace_0 3 3 (.getfield 340) 3 rfl) ?_
  refine x_iconst C (v := 1) (k_dg dt_X12_trace_0 4 6 (.iconst 1) 1 rfl) (by decide) ?_
  refine x_isub C (k_dg dt_X12_trace_0 5 7 (.isub) 1 rfl) ?_
  refine x_callS C (vs := [Value.int p1, Value.int 0, Value.int ((M.1 76 47) - 1)]) (rest := []) (c_X12_in C.2.2.2.2.2.2.2.2.2 G.2.1 p1 0 ((M.1 76 47) - 1) M) cy_X12_in lk_RX12_99 stt_X12_in (by decide) (by decide) (by decide) (by decide) rfl rfl (Nat.le_of_ble_eq_true rfl) (k_dg dt_X12_trace_0 6 8 (.invokestatic 99) 3 rfl) (fun r1 M2 => ?_)
  show Sm Z G _ _ _ _ [(0, k_ra Z 76), (1, Value.int p1)] [Value.int r1] _ _
  refine x_if_eq C (tgt := 23) (k_dg dt_X12_trace_0 7 11 (.ifCond .eq 12) 3 rfl) (by decide) (fun _ => ?_) (fun _ => ?_)
  · refine x_bipush C (v := -3) (k_dg dt_X12_trace_0 13 23 (.bipush (-3)) 2 rfl) (by decide) ?_
    exact x_iret C (by decide) (by decide) (k_dg dt_X12_trace_0 14 25 (.ireturn) 1 rfl)
  · refine x_aload_n C (k_dg dt_X12_trace_0 8 14 (.aload_n 0) 1 rfl) 0 rfl ?_
    refine x_getR C (a := 76) (j := 46) 102 rfl rfl (by decide) fl_RX12_86 rfl rfl rfl (k_dg dt_X12_trace_0 9 15 (.getfield 86) 3 rfl) ?_
    refine x_iload_n C (k_dg dt_X12_trace_0 10 18 (.iload_n 1) 1 rfl) 1 rfl ?_
    refine x_iald C (a := 102) (n := 30) rfl rfl (k_dg dt_X12_trace_0 11 19 (.iaload) 1 rfl) (fun v3 => ?_)
    refine x_goto C (tgt := 25) (k_dg dt_X12_trace_0 12 20 (.goto 5) 3 rfl) (by decide) ?_
    exact x_iret C (by decide) (by decide) (k_dg dt_X12_trace_0 14 25 (.ireturn) 1 rfl)
theorem c_X12_trace {Z : k_Z} (hg : k_Gd Z) (l : Launch) (p1 : Int32) (M : k_M) : Con true Z l yX12_trace cX12_trace 2 (some .int) 2 0 0 emI [k_ra Z 76, Value.int p1] M (f_X12_trace p1 M) := k_con hg (by decide) (Nat.le_of_ble_eq_true rfl) (fun G hl C => m_X12_trace_0 C p1 M)
theorem dt_X12_many_0 : k_dec cX12_many [(0, .iload_n 1, 1), (1, .tableswitch 86 0 6 #[43, 48, 53, 58, 63, 68, 73], 43), (44, .aload_n 0, 1), (45, .getfield 95, 3), (48, .ireturn, 1), (49, .aload_n 0, 1), (50, .getfield 103, 3), (53, .ireturn, 1), (54, .aload_n 0, 1), (55, .getfield 312, 3), (58, .ireturn, 1), (59, .aload_n 0, 1), (60, .getfield 208, 3), (63, .ireturn, 1), (64, .aload_n 0, 1), (65, .getfield 110, 3), (68, .ireturn, 1), (69, .aload_n 0, 1), (70, .getfield 340, 3), (73, .ireturn, 1), (74, .aload_n 0, 1), (75, .getfield 205, 3), (78, .ifCond .eq 7, 3), (81, .iconst 1, 1), (82, .goto 4, 3), (85, .iconst 0, 1), (86, .ireturn, 1), (87, .iconst (-1), 1), (88, .ireturn, 1)] = true := by decide +kernel
def f_X12_many (p1 : Int32) (M : k_M) : Option (Int32 × k_M) := tsw p1 0 7 (fun i_ => if i_ = 0 then some (M.1 76 0, M) else if i_ = 1 then some (M.1 76 2, M) else if i_ = 2 then some (M.1 76 8, M) else if i_ = 3 then some (M.1 76 36, M) else if i_ = 4 then some (M.1 76 12, M) else if i_ = 5 then some (M.1 76 47, M) else if i_ = 6 then if (M.1 76 7) = 0 then some (0, M) else some (1, M) else some (-1, M)) (some (-1, M))
theorem m_X12_many_0 {Z : k_Z} {G : k_G} (C : k_C Z G RX12 cX12_many (true, 2, 1, 0, 0) (some .int) "many") (p1 : Int32) (M : k_M) : Sm Z G emI (true, 2, 1, 0, 0) (0, 0) 0 [(0, k_ra Z 76), (1, Value.int p1)] [] M (f_X12_many p1 M) := by
  show Sm Z G emI _ _ _ _ _ _ (tsw p1 0 7 (fun i_ => if i_ = 0 then some (M.1 76 0, M) else if i_ = 1 then some (M.1 76 2, M) else if i_ = 2 then some (M.1 76 8, M) else if i_ = 3 then some (M.1 76 36, M) else if i_ = 4 then some (M.1 76 12, M) else if i_ = 5 then some (M.1 76 47, M) else if i_ = 6 then if (M.1 76 7) = 0 then some (0, M) else some (1, M) else some (-1, M)) (some (-1, M)))
  refine x_iload_n C (k_dg dt_X12_many_0 0 0 (.iload_n 1) 1 rfl) 1 rfl ?_
  refine x_tsw C (n := 7) (tgt := 87) (k_dg dt_X12_many_0 1 1 (.tableswitch 86 0 6 #[43, 48, 53, 58, 63, 68, 73]) 43 rfl) (by decide) (by decide) (fun i_ => [44, 49, 54, 59, 64, 69, 74].getD i_ 0) (by decide) (fun i_ hi_ _ => ?_) ?_
  · match i_, hi_ with
    | 0, _ =>
      show Sm Z G emI _ _ 44 _ _ _ (some (M.1 76 0, M))
      refine x_aload_n C (k_dg dt_X12_many_0 2 44 (.aload_n 0) 1 rfl) 0 rfl ?_
      refine x_getI C (a := 76) (j := 0) rfl rfl (by decide) fl_RX12_95 rfl (k_dg dt_X12_many_0 3 45 (.getfield 95) 3 rfl) ?_
      exact x_iret C (by decide) (by decide) (k_dg dt_X12_many_0 4 48 (.ireturn) 1 rfl)
    | 1, _ =>
      show Sm Z G emI _ _ 49 _ _ _ (some (M.1 76 2, M))
      refine x_aload_n C (k_dg dt_X12_many_0 5 49 (.aload_n 0) 1 rfl) 0 rfl ?_
      refine x_getI C (a := 76) (j := 2) rfl rfl (by decide) fl_RX12_103 rfl (k_dg dt_X12_many_0 6 50 (.getfield 103) 3 rfl) ?_
      exact x_iret C (by decide) (by decide) (k_dg dt_X12_many_0 7 53 (.ireturn) 1 rfl)
    | 2, _ =>
      show Sm Z G emI _ _ 54 _ _ _ (some (M.1 76 8, M))
      refine x_aload_n C (k_dg dt_X12_many_0 8 54 (.aload_n 0) 1 rfl) 0 rfl ?_
      refine x_getI C (a := 76) (j := 8) rfl rfl (by decide) fl_RX12_312 rfl (k_dg dt_X12_many_0 9 55 (.getfield 312) 3 rfl) ?_
      exact x_iret C (by decide) (by decide) (k_dg dt_X12_many_0 10 58 (.ireturn) 1 rfl)
    | 3, _ =>
      show Sm Z G emI _ _ 59 _ _ _ (some (M.1 76 36, M))
      refine x_aload_n C (k_dg dt_X12_many_0 11 59 (.aload_n 0) 1 rfl) 0 rfl ?_
      refine x_getI C (a := 76) (j := 36) rfl rfl (by decide) fl_RX12_208 rfl (k_dg dt_X12_many_0 12 60 (.getfield 208) 3 rfl) ?_
      exact x_iret C (by decide) (by decide) (k_dg dt_X12_many_0 13 63 (.ireturn) 1 rfl)
    | 4, _ =>
      show Sm Z G emI _ _ 64 _ _ _ (some (M.1 76 12, M))
      refine x_aload_n C (k_dg dt_X12_many_0 14 64 (.aload_n 0) 1 rfl) 0 rfl ?_
      refine x_getI C (a := 76) (j := 12) rfl rfl (by decide) fl_RX12_110 rfl (k_dg dt_X12_many_0 15 65 (.getfield 110) 3 rfl) ?_
      exact x_iret C (by decide) (by decide) (k_dg dt_X12_many_0 16 68 (.ireturn) 1 rfl)
    | 5, _ =>
      show Sm Z G emI _ _ 69 _ _ _ (some (M.1 76 47, M))
      refine x_aload_n C (k_dg dt_X12_many_0 17 69 (.aload_n 0) 1 rfl) 0 rfl ?_
      refine x_getI C (a := 76) (j := 47) rfl rfl (by decide) fl_RX12_340 rfl (k_dg dt_X12_many_0 18 70 (.getfield 340) 3 rfl) ?_
      exact x_iret C (by decide) (by decide) (k_dg dt_X12_many_0 19 73 (.ireturn) 1 rfl)
    | 6, _ =>
      show Sm Z G emI _ _ 74 _ _ _ (if (M.1 76 7) = 0 then some (0, M) else some (1, M))
      refine x_aload_n C (k_dg dt_X12_many_0 20 74 (.aload_n 0) 1 rfl) 0 rfl ?_
      refine x_getI C (a := 76) (j := 7) rfl rfl (by decide) fl_RX12_205 rfl (k_dg dt_X12_many_0 21 75 (.getfield 205) 3 rfl) ?_
      refine x_if_eq C (tgt := 85) (k_dg dt_X12_many_0 22 78 (.ifCond .eq 7) 3 rfl) (by decide) (fun _ => ?_) (fun _ => ?_)
      · refine x_iconst C (v := 0) (k_dg dt_X12_many_0 25 85 (.iconst 0) 1 rfl) (by decide) ?_
        exact x_iret C (by decide) (by decide) (k_dg dt_X12_many_0 26 86 (.ireturn) 1 rfl)
      · refine x_iconst C (v := 1) (k_dg dt_X12_many_0 23 81 (.iconst 1) 1 rfl) (by decide) ?_
        refine x_goto C (tgt := 86) (k_dg dt_X12_many_0 24 82 (.goto 4) 3 rfl) (by decide) ?_
        exact x_iret C (by decide) (by decide) (k_dg dt_X12_many_0 26 86 (.ireturn) 1 rfl)
    | k + 7, h => exact absurd h (by omega)
  · refine x_iconst C (v := -1) (k_dg dt_X12_many_0 27 87 (.iconst (-1)) 1 rfl) (by decide) ?_
    exact x_iret C (by decide) (by decide) (k_dg dt_X12_many_0 28 88 (.ireturn) 1 rfl)
theorem c_X12_many {Z : k_Z} (hg : k_Gd Z) (l : Launch) (p1 : Int32) (M : k_M) : Con true Z l yX12_many cX12_many 2 (some .int) 1 0 0 emI [k_ra Z 76, Value.int p1] M (f_X12_many p1 M) := k_con hg (by decide) (Nat.le_of_ble_eq_true rfl) (fun G hl C => m_X12_many_0 C p1 M)
theorem dt_X12_move_0 : k_dec cX12_move [(0, .iconst 0, 1), (1, .istore 4, 2), (3, .iload 4, 2), (5, .iload_n 2, 1), (6, .if_icmp .ge 52, 3), (9, .iload_n 3, 1), (10, .ifCond .eq 19, 3), (13, .aload_n 0, 1), (14, .getfield 89, 3), (17, .aload_n 0, 1), (18, .getfield 385, 3), (21, .aload_n 1, 1), (22, .iload 4, 2), (24, .iaload, 1), (25, .iastore, 1), (26, .goto 16, 3), (29, .aload_n 1, 1), (30, .iload 4, 2), (32, .aload_n 0, 1), (33, .getfield 89, 3), (36, .aload_n 0, 1), (37, .getfield 385, 3), (40, .iaload, 1), (41, .iastore, 1), (42, .aload_n 0, 1), (43, .dup, 1), (44, .getfield 385, 3), (47, .iconst 1, 1), (48, .iadd, 1), (49, .putfield 385, 3), (52, .iinc 4 1, 3), (55, .goto (-52), 3), (58, .return_, 1)] = true := by decide +kernel
def f_X12_move_42 (a1 : Nat) (n1 : Nat) (l2 : Int32) (l3 : Int32) (l4 : Int32) (M : k_M) (kb : Int32 → Int32 → Int32 → k_M → Option (Unit × k_M)) (kx58 : k_M → Option (Unit × k_M)) : Option (Unit × k_M) := bN (sI M 76 51 ((M.1 76 51) + 1)) (fun M1 => kb l2 l3 (l4 + 1) M1)
theorem m_X12_move_42 {Z : k_Z} {G : k_G} {a1 : Nat} {n1 : Nat} (C : k_C Z G RX12 cX12_move (true, 5, 1, 0, 0) none "move") (ha1 : k_st a1 = (11, n1)) (kb : Int32 → Int32 → Int32 → k_M → Option (Unit × k_M)) (kx58 : k_M → Option (Unit × k_M)) (Hb : ∀ (l2 : Int32) (l3 : Int32) (l4 : Int32) (M : k_M), Sm Z G emV (true, 5, 1, 0, 0) (0, 0) 3 [(0, k_ra Z 76), (1, k_ra Z a1), (2, Value.int l2), (3, Value.int l3), (4, Value.int l4)] [] M (kb l2 l3 l4 M)) (Hx58 : ∀ (M : k_M), Sm Z G emV (true, 5, 1, 0, 0) (0, 0) 58 [] [] M (kx58 M)) (l2 : Int32) (l3 : Int32) (l4 : Int32) (M : k_M) : Sm Z G emV (true, 5, 1, 0, 0) (0, 0) 42 [(0, k_ra Z 76), (1, k_ra Z a1), (2, Value.int l2), (3, Value.int l3), (4, Value.int l4)] [] M (f_X12_move_42 a1 n1 l2 l3 l4 M kb kx58) := by
  show Sm Z G emV _ _ _ _ _ _ (bN (sI M 76 51 ((M.1 76 51) + 1)) (fun M1 => kb l2 l3 (l4 + 1) M1))
  refine x_aload_n C (k_dg dt_X12_move_0 24 42 (.aload_n 0) 1 rfl) 0 rfl ?_
  refine x_dup C (k_dg dt_X12_move_0 25 43 (.dup) 1 rfl) rfl ?_
  refine x_getI C (a := 76) (j := 51) rfl rfl (by decide) fl_RX12_385 rfl (k_dg dt_X12_move_0 26 44 (.getfield 385) 3 rfl) ?_
  refine x_iconst C (v := 1) (k_dg dt_X12_move_0 27 47 (.iconst 1) 1 rfl) (by decide) ?_
  refine x_iadd C (k_dg dt_X12_move_0 28 48 (.iadd) 1 rfl) ?_
  refine x_putI C (a := 76) (j := 51) rfl rfl (by decide) fl_RX12_385 rfl pt_10_51 tb_10 rfl rfl (k_dg dt_X12_move_0 29 49 (.putfield 385) 3 rfl) (fun M1 => ?_)
  refine x_iinc C (v := 1) (lv' := [(4, Value.int (l4 + 1)), (0, k_ra Z 76), (1, k_ra Z a1), (2, Value.int l2), (3, Value.int l3)]) (k_dg dt_X12_move_0 30 52 (.iinc 4 1) 3 rfl) 4 rfl (by decide) (by decide) rfl ?_
  refine x_goto C (tgt := 3) (k_dg dt_X12_move_0 31 55 (.goto (-52)) 3 rfl) (by decide) ?_
  refine x_lv [1, 2, 3, 4, 0] rfl ?_
  exact Hb l2 l3 (l4 + 1) M1
def f_X12_move_3 (a1 : Nat) (n1 : Nat) : Nat → Int32 → Int32 → Int32 → k_M → (k_M → Option (Unit × k_M)) → Option (Unit × k_M)
  | 0, _, _, _, _, _ => none
  | n + 1, l2, l3, l4, M, kx58 => if l2 ≤ l4 then kx58 M else if l3 = 0 then rdI M 103 150 (M.1 76 51) (fun v1 => wrI M a1 n1 l4 v1 (fun M2 => f_X12_move_42 a1 n1 l2 l3 l4 M2 ((fun l2_ l3_ l4_ M_ => f_X12_move_3 a1 n1 n l2_ l3_ l4_ M_ kx58)) kx58)) else rdI M a1 n1 l4 (fun v3 => wrI M 103 150 (M.1 76 51) v3 (fun M4 => f_X12_move_42 a1 n1 l2 l3 l4 M4 ((fun l2_ l3_ l4_ M_ => f_X12_move_3 a1 n1 n l2_ l3_ l4_ M_ kx58)) kx58))
theorem m_X12_move_3 {Z : k_Z} {G : k_G} {a1 : Nat} {n1 : Nat} (C : k_C Z G RX12 cX12_move (true, 5, 1, 0, 0) none "move") (ha1 : k_st a1 = (11, n1)) (kx58 : k_M → Option (Unit × k_M)) (Hx58 : ∀ (M : k_M), Sm Z G emV (true, 5, 1, 0, 0) (0, 0) 58 [] [] M (kx58 M)) : ∀ (n : Nat) (l2 : Int32) (l3 : Int32) (l4 : Int32) (M : k_M), Sm Z G emV (true, 5, 1, 0, 0) (0, 0) 3 [(0, k_ra Z 76), (1, k_ra Z a1), (2, Value.int l2), (3, Value.int l3), (4, Value.int l4)] [] M (f_X12_move_3 a1 n1 n l2 l3 l4 M kx58)
  | 0, _, _, _, _ => x_none
  | n + 1, l2, l3, l4, M => by
    have ih := m_X12_move_3 C ha1 kx58 Hx58 n
    show Sm Z G emV _ _ _ _ _ _ (if l2 ≤ l4 then kx58 M else if l3 = 0 then rdI M 103 150 (M.1 76 51) (fun v1 => wrI M a1 n1 l4 v1 (fun M2 => f_X12_move_42 a1 n1 l2 l3 l4 M2 ((fun l2_ l3_ l4_ M_ => f_X12_move_3 a1 n1 n l2_ l3_ l4_ M_ kx58)) kx58)) else rdI M a1 n1 l4 (fun v3 => wrI M 103 150 (M.1 76 51) v3 (fun M4 => f_X12_move_42 a1 n1 l2 l3 l4 M4 ((fun l2_ l3_ l4_ M_ => f_X12_move_3 a1 n1 n l2_ l3_ l4_ M_ kx58)) kx58)))
    refine x_iload C (k_dg dt_X12_move_0 2 3 (.iload 4) 2 rfl) 4 rfl ?_
    refine x_iload_n C (k_dg dt_X12_move_0 3 5 (.iload_n 2) 1 rfl) 2 rfl ?_
    refine x_icmp_ge C (tgt := 58) (k_dg dt_X12_move_0 4 6 (.if_icmp .ge 52) 3 rfl) (by decide) (fun _ => ?_) (fun _ => ?_)
    · refine x_lv [] rfl ?_
      exact Hx58 M
    · refine x_iload_n C (k_dg dt_X12_move_0 5 9 (.iload_n 3) 1 rfl) 3 rfl ?_
      refine x_if_eq C (tgt := 29) (k_dg dt_X12_move_0 6 10 (.ifCond .eq 19) 3 rfl) (by decide) (fun _ => ?_) (fun _ => ?_)
      · refine x_aload_n C (k_dg dt_X12_move_0 16 29 (.aload_n 1) 1 rfl) 1 rfl ?_
        refine x_iload C (k_dg dt_X12_move_0 17 30 (.iload 4) 2 rfl) 4 rfl ?_
        refine x_aload_n C (k_dg dt_X12_move_0 18 32 (.aload_n 0) 1 rfl) 0 rfl ?_
        refine x_getR C (a := 76) (j := 50) 103 rfl rfl (by decide) fl_RX12_89 rfl rfl rfl (k_dg dt_X12_move_0 19 33 (.getfield 89) 3 rfl) ?_
        refine x_aload_n C (k_dg dt_X12_move_0 20 36 (.aload_n 0) 1 rfl) 0 rfl ?_
        refine x_getI C (a := 76) (j := 51) rfl rfl (by decide) fl_RX12_385 rfl (k_dg dt_X12_move_0 21 37 (.getfield 385) 3 rfl) ?_
        refine x_iald C (a := 103) (n := 150) rfl rfl (k_dg dt_X12_move_0 22 40 (.iaload) 1 rfl) (fun v1 => ?_)
        refine x_iast C (a := a1) (n := n1) rfl ha1 (k_dg dt_X12_move_0 23 41 (.iastore) 1 rfl) (fun M2 => ?_)
        exact m_X12_move_42 C ha1 ((fun l2_ l3_ l4_ M_ => f_X12_move_3 a1 n1 n l2_ l3_ l4_ M_ kx58)) kx58 ih Hx58 l2 l3 l4 M2
      · refine x_aload_n C (k_dg dt_X12_move_0 7 13 (.aload_n 0) 1 rfl) 0 rfl ?_
        refine x_getR C (a := 76) (j := 50) 103 rfl rfl (by decide) fl_RX12_89 rfl rfl rfl (k_dg dt_X12_move_0 8 14 (.getfield 89) 3 rfl) ?_
        refine x_aload_n C (k_dg dt_X12_move_0 9 17 (.aload_n 0) 1 rfl) 0 rfl ?_
        refine x_getI C (a := 76) (j := 51) rfl rfl (by decide) fl_RX12_385 rfl (k_dg dt_X12_move_0 10 18 (.getfield 385) 3 rfl) ?_
        refine x_aload_n C (k_dg dt_X12_move_0 11 21 (.aload_n 1) 1 rfl) 1 rfl ?_
        refine x_iload C (k_dg dt_X12_move_0 12 22 (.iload 4) 2 rfl) 4 rfl ?_
        refine x_iald C (a := a1) (n := n1) rfl ha1 (k_dg dt_X12_move_0 13 24 (.iaload) 1 rfl) (fun v3 => ?_)
        refine x_iast C (a := 103) (n := 150) rfl rfl (k_dg dt_X12_move_0 14 25 (.iastore) 1 rfl) (fun M4 => ?_)
        refine x_goto C (tgt := 42) (k_dg dt_X12_move_0 15 26 (.goto 16) 3 rfl) (by decide) ?_
        exact m_X12_move_42 C ha1 ((fun l2_ l3_ l4_ M_ => f_X12_move_3 a1 n1 n l2_ l3_ l4_ M_ kx58)) kx58 ih Hx58 l2 l3 l4 M4
def f_X12_move_58 (a1 : Nat) (n1 : Nat) (M : k_M) : Option (Unit × k_M) := some ((), M)
theorem m_X12_move_58 {Z : k_Z} {G : k_G} {a1 : Nat} {n1 : Nat} (C : k_C Z G RX12 cX12_move (true, 5, 1, 0, 0) none "move") (ha1 : k_st a1 = (11, n1)) (M : k_M) : Sm Z G emV (true, 5, 1, 0, 0) (0, 0) 58 [] [] M (f_X12_move_58 a1 n1 M) := by
  show Sm Z G emV _ _ _ _ _ _ (some ((), M))
  exact x_vret C (by decide) (by decide) (k_dg dt_X12_move_0 32 58 (.return_) 1 rfl)
def f_X12_move (a1 : Nat) (n1 : Nat) (p2 : Int32) (p3 : Int32) (M : k_M) : Option (Unit × k_M) := f_X12_move_3 a1 n1 k_fu p2 p3 0 M (fun M_ => f_X12_move_58 a1 n1 M_)
theorem m_X12_move_0 {Z : k_Z} {G : k_G} {a1 : Nat} {n1 : Nat} (C : k_C Z G RX12 cX12_move (true, 5, 1, 0, 0) none "move") (ha1 : k_st a1 = (11, n1)) (p2 : Int32) (p3 : Int32) (M : k_M) : Sm Z G emV (true, 5, 1, 0, 0) (0, 0) 0 [(0, k_ra Z 76), (1, k_ra Z a1), (2, Value.int p2), (3, Value.int p3)] [] M (f_X12_move a1 n1 p2 p3 M) := by
  show Sm Z G emV _ _ _ _ _ _ (f_X12_move_3 a1 n1 k_fu p2 p3 0 M (fun M_ => f_X12_move_58 a1 n1 M_))
  refine x_iconst C (v := 0) (k_dg dt_X12_move_0 0 0 (.iconst 0) 1 rfl) (by decide) ?_
  refine x_istore C (lv' := [(4, Value.int 0), (0, k_ra Z 76), (1, k_ra Z a1), (2, Value.int p2), (3, Value.int p3)]) (k_dg dt_X12_move_0 1 1 (.istore 4) 2 rfl) (by decide) rfl ?_
  refine x_lv [1, 2, 3, 4, 0] rfl ?_
  exact m_X12_move_3 C ha1 (fun M_ => f_X12_move_58 a1 n1 M_) (fun M_ => m_X12_move_58 C ha1 M_) k_fu p2 p3 0 M
theorem c_X12_move {Z : k_Z} (hg : k_Gd Z) (l : Launch) (a1 : Nat) (n1 : Nat) (p2 : Int32) (p3 : Int32) (M : k_M) (ha1 : k_st a1 = (11, n1)) : Con true Z l yX12_move cX12_move 5 none 1 0 0 emV [k_ra Z 76, k_ra Z a1, Value.int p2, Value.int p3] M (f_X12_move a1 n1 p2 p3 M) := k_con hg (by decide) (Nat.le_of_ble_eq_true rfl) (fun G hl C => m_X12_move_0 C ha1 p2 p3 M)
theorem dt_X12_moveAll_0 : k_dec cX12_moveAll [(0, .aload_n 0, 1), (1, .iconst 0, 1), (2, .putfield 385, 3), (5, .aload_n 0, 1), (6, .getfield 92, 3), (9, .iconst 0, 1), (10, .aload_n 0, 1), (11, .getfield 95, 3), (14, .iastore, 1), (15, .aload_n 0, 1), (16, .getfield 92, 3), (19, .iconst 1, 1), (20, .aload_n 0, 1), (21, .getfield 103, 3), (24, .iastore, 1), (25, .aload_n 0, 1), (26, .getfield 92, 3), (29, .iconst 2, 1), (30, .aload_n 0, 1), (31, .getfield 312, 3), (34, .iastore, 1), (35, .aload_n 0, 1), (36, .getfield 92, 3), (39, .iconst 3, 1), (40, .aload_n 0, 1), (41, .getfield 226, 3), (44, .iastore, 1), (45, .aload_n 0, 1), (46, .getfield 92, 3), (49, .iconst 4, 1), (50, .aload_n 0, 1), (51, .getfield 205, 3), (54, .ifCond .eq 7, 3), (57, .iconst 1, 1), (58, .goto 4, 3), (61, .iconst 0, 1), (62, .iastore, 1), (63, .aload_n 0, 1), (64, .aload_n 0, 1), (65, .getfield 92, 3)] = true := by decide +kernel
theorem dt_X12_moveAll_1 : k_dec cX12_moveAll [(68, .iconst 5, 1), (69, .iload_n 1, 1), (70, .invokevirtual 388, 3), (73, .aload_n 0, 1), (74, .aload_n 0, 1), (75, .getfield 7, 3), (78, .bipush 24, 2), (80, .iload_n 1, 1), (81, .invokevirtual 388, 3), (84, .aload_n 0, 1), (85, .aload_n 0, 1), (86, .getfield 13, 3), (89, .bipush 60, 2), (91, .iload_n 1, 1), (92, .invokevirtual 388, 3), (95, .aload_n 0, 1), (96, .aload_n 0, 1), (97, .getfield 16, 3), (100, .bipush 13, 2), (102, .iload_n 1, 1), (103, .invokevirtual 388, 3), (106, .aload_n 0, 1), (107, .aload_n 0, 1), (108, .getfield 22, 3), (111, .bipush 12, 2), (113, .iload_n 1, 1), (114, .invokevirtual 388, 3), (117, .aload_n 0, 1), (118, .aload_n 0, 1), (119, .getfield 25, 3), (122, .bipush 25, 2), (124, .iload_n 1, 1), (125, .invokevirtual 388, 3), (128, .return_, 1)] = true := by decide +kernel
def f_X12_moveAll_62 (l1 : Int32) (t1 : Int32) (t2 : Int32) (M : k_M) : Option (Unit × k_M) := wrI M 104 5 t1 t2 (fun M1 => bd (f_X12_move 104 5 5 l1 M1) (fun r2 M3 => bd (f_X12_move 77 24 24 l1 M3) (fun r4 M5 => bd (f_X12_move 78 60 60 l1 M5) (fun r6 M7 => bd (f_X12_move 79 13 13 l1 M7) (fun r8 M9 => bd (f_X12_move 81 12 12 l1 M9) (fun r10 M11 => bd (f_X12_move 82 1100 25 l1 M11) (fun r12 M13 => some ((), M13))))))))
theorem m_X12_moveAll_62 {Z : k_Z} {G : k_G} (C : k_C Z G RX12 cX12_moveAll (true, 2, 2, 0, 0) none "moveAll") (l1 : Int32) (t1 : Int32) (t2 : Int32) (M : k_M) : Sm Z G emV (true, 2, 2, 0, 0) (0, 0) 62 [(0, k_ra Z 76), (1, Value.int l1)] [Value.int t2, Value.int t1, k_ra Z 104] M (f_X12_moveAll_62 l1 t1 t2 M) := by
  show Sm Z G emV _ _ _ _ _ _ (wrI M 104 5 t1 t2 (fun M1 => bd (f_X12_move 104 5 5 l1 M1) (fun r2 M3 => bd (f_X12_move 77 24 24 l1 M3) (fun r4 M5 => bd (f_X12_move 78 60 60 l1 M5) (fun r6 M7 => bd (f_X12_move 79 13 13 l1 M7) (fun r8 M9 => bd (f_X12_move 81 12 12 l1 M9) (fun r10 M11 => bd (f_X12_move 82 1100 25 l1 M11) (fun r12 M13 => some ((), M13)))))))))
  refine x_iast C (a := 104) (n := 5) rfl rfl (k_dg dt_X12_moveAll_0 36 62 (.iastore) 1 rfl) (fun M1 => ?_)
  refine x_aload_n C (k_dg dt_X12_moveAll_0 37 63 (.aload_n 0) 1 rfl) 0 rfl ?_
  refine x_aload_n C (k_dg dt_X12_moveAll_0 38 64 (.aload_n 0) 1 rfl) 0 rfl ?_
  refine x_getR C (a := 76) (j := 52) 104 rfl rfl (by decide) fl_RX12_92 rfl rfl rfl (k_dg dt_X12_moveAll_0 39 65 (.getfield 92) 3 rfl) ?_
  refine x_iconst C (v := 5) (k_dg dt_X12_moveAll_1 0 68 (.iconst 5) 1 rfl) (by decide) ?_
  refine x_iload_n C (k_dg dt_X12_moveAll_1 1 69 (.iload_n 1) 1 rfl) 1 rfl ?_
  refine x_callV C (a := 76) (kd := 10) (vs := [k_ra Z 104, Value.int 5, Value.int l1]) (rest := []) rfl rfl (by decide) (fun r hr => by cases hr; rfl) (c_X12_move C.2.2.2.2.2.2.2.2.2 G.2.1 104 5 5 l1 M1 rfl) cy_X12_move lk_RX12_388 im_X12_move se_X12_move (by decide) (by decide) (by decide) (by decide) rfl rfl (Nat.le_of_ble_eq_true rfl) (k_dg dt_X12_moveAll_1 2 70 (.invokevirtual 388) 3 rfl) (fun r2 M3 => ?_)
  show Sm Z G _ _ _ _ [(0, k_ra Z 76), (1, Value.int l1)] [] _ _
  refine x_aload_n C (k_dg dt_X12_moveAll_1 3 73 (.aload_n 0) 1 rfl) 0 rfl ?_
  refine x_aload_n C (k_dg dt_X12_moveAll_1 4 74 (.aload_n 0) 1 rfl) 0 rfl ?_
  refine x_getR C (a := 76) (j := 1) 77 rfl rfl (by decide) fl_RX12_7 rfl rfl rfl (k_dg dt_X12_moveAll_1 5 75 (.getfield 7) 3 rfl) ?_
  refine x_bipush C (v := 24) (k_dg dt_X12_moveAll_1 6 78 (.bipush 24) 2 rfl) (by decide) ?_
  refine x_iload_n C (k_dg dt_X12_moveAll_1 7 80 (.iload_n 1) 1 rfl) 1 rfl ?_
  refine x_callV C (a := 76) (kd := 10) (vs := [k_ra Z 77, Value.int 24, Value.int l1]) (rest := []) rfl rfl (by decide) (fun r hr => by cases hr; rfl) (c_X12_move C.2.2.2.2.2.2.2.2.2 G.2.1 77 24 24 l1 M3 rfl) cy_X12_move lk_RX12_388 im_X12_move se_X12_move (by decide) (by decide) (by decide) (by decide) rfl rfl (Nat.le_of_ble_eq_true rfl) (k_dg dt_X12_moveAll_1 8 81 (.invokevirtual 388) 3 rfl) (fun r4 M5 => ?_)
  show Sm Z G _ _ _ _ [(0, k_ra Z 76), (1, Value.int l1)] [] _ _
  refine x_aload_n C (k_dg dt_X12_moveAll_1 9 84 (.aload_n 0) 1 rfl) 0 rfl ?_
  refine x_aload_n C (k_dg dt_X12_moveAll_1 10 85 (.aload_n 0) 1 rfl) 0 rfl ?_
  refine x_getR C (a := 76) (j := 3) 78 rfl rfl (by decide) fl_RX12_13 rfl rfl rfl (k_dg dt_X12_moveAll_1 11 86 (.getfield 13) 3 rfl) ?_
  refine x_bipush C (v := 60) (k_dg dt_X12_moveAll_1 12 89 (.bipush 60) 2 rfl) (by decide) ?_
  refine x_iload_n C (k_dg dt_X12_moveAll_1 13 91 (.iload_n 1) 1 rfl) 1 rfl ?_
  refine x_callV C (a := 76) (kd := 10) (vs := [k_ra Z 78, Value.int 60, Value.int l1]) (rest := []) rfl rfl (by decide) (fun r hr => by cases hr; rfl) (c_X12_move C.2.2.2.2.2.2.2.2.2 G.2.1 78 60 60 l1 M5 rfl) cy_X12_move lk_RX12_388 im_X12_move se_X12_move (by decide) (by decide) (by decide) (by decide) rfl rfl (Nat.le_of_ble_eq_true rfl) (k_dg dt_X12_moveAll_1 14 92 (.invokevirtual 388) 3 rfl) (fun r6 M7 => ?_)
  show Sm Z G _ _ _ _ [(0, k_ra Z 76), (1, Value.int l1)] [] _ _
  refine x_aload_n C (k_dg dt_X12_moveAll_1 15 95 (.aload_n 0) 1 rfl) 0 rfl ?_
  refine x_aload_n C (k_dg dt_X12_moveAll_1 16 96 (.aload_n 0) 1 rfl) 0 rfl ?_
  refine x_getR C (a := 76) (j := 4) 79 rfl rfl (by decide) fl_RX12_16 rfl rfl rfl (k_dg dt_X12_moveAll_1 17 97 (.getfield 16) 3 rfl) ?_
  refine x_bipush C (v := 13) (k_dg dt_X12_moveAll_1 18 100 (.bipush 13) 2 rfl) (by decide) ?_
  refine x_iload_n C (k_dg dt_X12_moveAll_1 19 102 (.iload_n 1) 1 rfl) 1 rfl ?_
  refine x_callV C (a := 76) (kd := 10) (vs := [k_ra Z 79, Value.int 13, Value.int l1]) (rest := []) rfl rfl (by decide) (fun r hr => by cases hr; rfl) (c_X12_move C.2.2.2.2.2.2.2.2.2 G.2.1 79 13 13 l1 M7 rfl) cy_X12_move lk_RX12_388 im_X12_move se_X12_move (by decide) (by decide) (by decide) (by decide) rfl rfl (Nat.le_of_ble_eq_true rfl) (k_dg dt_X12_moveAll_1 20 103 (.invokevirtual 388) 3 rfl) (fun r8 M9 => ?_)
  show Sm Z G _ _ _ _ [(0, k_ra Z 76), (1, Value.int l1)] [] _ _
  refine x_aload_n C (k_dg dt_X12_moveAll_1 21 106 (.aload_n 0) 1 rfl) 0 rfl ?_
  refine x_aload_n C (k_dg dt_X12_moveAll_1 22 107 (.aload_n 0) 1 rfl) 0 rfl ?_
  refine x_getR C (a := 76) (j := 9) 81 rfl rfl (by decide) fl_RX12_22 rfl rfl rfl (k_dg dt_X12_moveAll_1 23 108 (.getfield 22) 3 rfl) ?_
  refine x_bipush C (v := 12) (k_dg dt_X12_moveAll_1 24 111 (.bipush 12) 2 rfl) (by decide) ?_
  refine x_iload_n C (k_dg dt_X12_moveAll_1 25 113 (.iload_n 1) 1 rfl) 1 rfl ?_
  refine x_callV C (a := 76) (kd := 10) (vs := [k_ra Z 81, Value.int 12, Value.int l1]) (rest := []) rfl rfl (by decide) (fun r hr => by cases hr; rfl) (c_X12_move C.2.2.2.2.2.2.2.2.2 G.2.1 81 12 12 l1 M9 rfl) cy_X12_move lk_RX12_388 im_X12_move se_X12_move (by decide) (by decide) (by decide) (by decide) rfl rfl (Nat.le_of_ble_eq_true rfl) (k_dg dt_X12_moveAll_1 26 114 (.invokevirtual 388) 3 rfl) (fun r10 M11 => ?_)
  show Sm Z G _ _ _ _ [(0, k_ra Z 76), (1, Value.int l1)] [] _ _
  refine x_aload_n C (k_dg dt_X12_moveAll_1 27 117 (.aload_n 0) 1 rfl) 0 rfl ?_
  refine x_aload_n C (k_dg dt_X12_moveAll_1 28 118 (.aload_n 0) 1 rfl) 0 rfl ?_
  refine x_getR C (a := 76) (j := 10) 82 rfl rfl (by decide) fl_RX12_25 rfl rfl rfl (k_dg dt_X12_moveAll_1 29 119 (.getfield 25) 3 rfl) ?_
  refine x_bipush C (v := 25) (k_dg dt_X12_moveAll_1 30 122 (.bipush 25) 2 rfl) (by decide) ?_
  refine x_iload_n C (k_dg dt_X12_moveAll_1 31 124 (.iload_n 1) 1 rfl) 1 rfl ?_
  refine x_callV C (a := 76) (kd := 10) (vs := [k_ra Z 82, Value.int 25, Value.int l1]) (rest := []) rfl rfl (by decide) (fun r hr => by cases hr; rfl) (c_X12_move C.2.2.2.2.2.2.2.2.2 G.2.1 82 1100 25 l1 M11 rfl) cy_X12_move lk_RX12_388 im_X12_move se_X12_move (by decide) (by decide) (by decide) (by decide) rfl rfl (Nat.le_of_ble_eq_true rfl) (k_dg dt_X12_moveAll_1 32 125 (.invokevirtual 388) 3 rfl) (fun r12 M13 => ?_)
  show Sm Z G _ _ _ _ [(0, k_ra Z 76), (1, Value.int l1)] [] _ _
  exact x_vret C (by decide) (by decide) (k_dg dt_X12_moveAll_1 33 128 (.return_) 1 rfl)
def f_X12_moveAll (p1 : Int32) (M : k_M) : Option (Unit × k_M) := bN (sI M 76 51 0) (fun M1 => wrI M1 104 5 0 (M1.1 76 0) (fun M2 => wrI M2 104 5 1 (M2.1 76 2) (fun M3 => wrI M3 104 5 2 (M3.1 76 8) (fun M4 => wrI M4 104 5 3 (M4.1 76 6) (fun M5 => if (M5.1 76 7) = 0 then f_X12_moveAll_62 p1 4 0 M5 else f_X12_moveAll_62 p1 4 1 M5)))))
theorem m_X12_moveAll_0 {Z : k_Z} {G : k_G} (C : k_C Z G RX12 cX12_moveAll (true, 2, 2, 0, 0) none "moveAll") (p1 : Int32) (M : k_M) : Sm Z G emV (true, 2, 2, 0, 0) (0, 0) 0 [(0, k_ra Z 76), (1, Value.int p1)] [] M (f_X12_moveAll p1 M) := by
  show Sm Z G emV _ _ _ _ _ _ (bN (sI M 76 51 0) (fun M1 => wrI M1 104 5 0 (M1.1 76 0) (fun M2 => wrI M2 104 5 1 (M2.1 76 2) (fun M3 => wrI M3 104 5 2 (M3.1 76 8) (fun M4 => wrI M4 104 5 3 (M4.1 76 6) (fun M5 => if (M5.1 76 7) = 0 then f_X12_moveAll_62 p1 4 0 M5 else f_X12_moveAll_62 p1 4 1 M5))))))
  refine x_aload_n C (k_dg dt_X12_moveAll_0 0 0 (.aload_n 0) 1 rfl) 0 rfl ?_
  refine x_iconst C (v := 0) (k_dg dt_X12_moveAll_0 1 1 (.iconst 0) 1 rfl) (by decide) ?_
  refine x_putI C (a := 76) (j := 51) rfl rfl (by decide) fl_RX12_385 rfl pt_10_51 tb_10 rfl rfl (k_dg dt_X12_moveAll_0 2 2 (.putfield 385) 3 rfl) (fun M1 => ?_)
  refine x_aload_n C (k_dg dt_X12_moveAll_0 3 5 (.aload_n 0) 1 rfl) 0 rfl ?_
  refine x_getR C (a := 76) (j := 52) 104 rfl rfl (by decide) fl_RX12_92 rfl rfl rfl (k_dg dt_X12_moveAll_0 4 6 (.getfield 92) 3 rfl) ?_
  refine x_iconst C (v := 0) (k_dg dt_X12_moveAll_0 5 9 (.iconst 0) 1 rfl) (by decide) ?_
  refine x_aload_n C (k_dg dt_X12_moveAll_0 6 10 (.aload_n 0) 1 rfl) 0 rfl ?_
  refine x_getI C (a := 76) (j := 0) rfl rfl (by decide) fl_RX12_95 rfl (k_dg dt_X12_moveAll_0 7 11 (.getfield 95) 3 rfl) ?_
  refine x_iast C (a := 104) (n := 5) rfl rfl (k_dg dt_X12_moveAll_0 8 14 (.iastore) 1 rfl) (fun M2 => ?_)
  refine x_aload_n C (k_dg dt_X12_moveAll_0 9 15 (.aload_n 0) 1 rfl) 0 rfl ?_
  refine x_getR C (a := 76) (j := 52) 104 rfl rfl (by decide) fl_RX12_92 rfl rfl rfl (k_dg dt_X12_moveAll_0 10 16 (.getfield 92) 3 rfl) ?_
  refine x_iconst C (v := 1) (k_dg dt_X12_moveAll_0 11 19 (.iconst 1) 1 rfl) (by decide) ?_
  refine x_aload_n C (k_dg dt_X12_moveAll_0 12 20 (.aload_n 0) 1 rfl) 0 rfl ?_
  refine x_getI C (a := 76) (j := 2) rfl rfl (by decide) fl_RX12_103 rfl (k_dg dt_X12_moveAll_0 13 21 (.getfield 103) 3 rfl) ?_
  refine x_iast C (a := 104) (n := 5) rfl rfl (k_dg dt_X12_moveAll_0 14 24 (.iastore) 1 rfl) (fun M3 => ?_)
  refine x_aload_n C (k_dg dt_X12_moveAll_0 15 25 (.aload_n 0) 1 rfl) 0 rfl ?_
  refine x_getR C (a := 76) (j := 52) 104 rfl rfl (by decide) fl_RX12_92 rfl rfl rfl (k_dg dt_X12_moveAll_0 16 26 (.getfield 92) 3 rfl) ?_
  refine x_iconst C (v := 2) (k_dg dt_X12_moveAll_0 17 29 (.iconst 2) 1 rfl) (by decide) ?_
  refine x_aload_n C (k_dg dt_X12_moveAll_0 18 30 (.aload_n 0) 1 rfl) 0 rfl ?_
  refine x_getI C (a := 76) (j := 8) rfl rfl (by decide) fl_RX12_312 rfl (k_dg dt_X12_moveAll_0 19 31 (.getfield 312) 3 rfl) ?_
  refine x_iast C (a := 104) (n := 5) rfl rfl (k_dg dt_X12_moveAll_0 20 34 (.iastore) 1 rfl) (fun M4 => ?_)
  refine x_aload_n C (k_dg dt_X12_moveAll_0 21 35 (.aload_n 0) 1 rfl) 0 rfl ?_
  refine x_getR C (a := 76) (j := 52) 104 rfl rfl (by decide) fl_RX12_92 rfl rfl rfl (k_dg dt_X12_moveAll_0 22 36 (.getfield 92) 3 rfl) ?_
  refine x_iconst C (v := 3) (k_dg dt_X12_moveAll_0 23 39 (.iconst 3) 1 rfl) (by decide) ?_
  refine x_aload_n C (k_dg dt_X12_moveAll_0 24 40 (.aload_n 0) 1 rfl) 0 rfl ?_
  refine x_getI C (a := 76) (j := 6) rfl rfl (by decide) fl_RX12_226 rfl (k_dg dt_X12_moveAll_0 25 41 (.getfield 226) 3 rfl) ?_
  refine x_iast C (a := 104) (n := 5) rfl rfl (k_dg dt_X12_moveAll_0 26 44 (.iastore) 1 rfl) (fun M5 => ?_)
  refine x_aload_n C (k_dg dt_X12_moveAll_0 27 45 (.aload_n 0) 1 rfl) 0 rfl ?_
  refine x_getR C (a := 76) (j := 52) 104 rfl rfl (by decide) fl_RX12_92 rfl rfl rfl (k_dg dt_X12_moveAll_0 28 46 (.getfield 92) 3 rfl) ?_
  refine x_iconst C (v := 4) (k_dg dt_X12_moveAll_0 29 49 (.iconst 4) 1 rfl) (by decide) ?_
  refine x_aload_n C (k_dg dt_X12_moveAll_0 30 50 (.aload_n 0) 1 rfl) 0 rfl ?_
  refine x_getI C (a := 76) (j := 7) rfl rfl (by decide) fl_RX12_205 rfl (k_dg dt_X12_moveAll_0 31 51 (.getfield 205) 3 rfl) ?_
  refine x_if_eq C (tgt := 61) (k_dg dt_X12_moveAll_0 32 54 (.ifCond .eq 7) 3 rfl) (by decide) (fun _ => ?_) (fun _ => ?_)
  · refine x_iconst C (v := 0) (k_dg dt_X12_moveAll_0 35 61 (.iconst 0) 1 rfl) (by decide) ?_
    exact m_X12_moveAll_62 C p1 4 0 M5
  · refine x_iconst C (v := 1) (k_dg dt_X12_moveAll_0 33 57 (.iconst 1) 1 rfl) (by decide) ?_
    refine x_goto C (tgt := 62) (k_dg dt_X12_moveAll_0 34 58 (.goto 4) 3 rfl) (by decide) ?_
    exact m_X12_moveAll_62 C p1 4 1 M5
theorem c_X12_moveAll {Z : k_Z} (hg : k_Gd Z) (l : Launch) (p1 : Int32) (M : k_M) : Con true Z l yX12_moveAll cX12_moveAll 2 none 2 0 0 emV [k_ra Z 76, Value.int p1] M (f_X12_moveAll p1 M) := k_con hg (by decide) (Nat.le_of_ble_eq_true rfl) (fun G hl C => m_X12_moveAll_0 C p1 M)
theorem dt_X12_keep_0 : k_dec cX12_keep [(0, .aload_n 0, 1), (1, .iconst 1, 1), (2, .invokevirtual 392, 3), (5, .aload_n 0, 1), (6, .iconst 1, 1), (7, .putfield 396, 3), (10, .iconst 1, 1), (11, .ireturn, 1)] = true := by decide +kernel
def f_X12_keep (M : k_M) : Option (Int32 × k_M) := bd (f_X12_moveAll 1 M) (fun r1 M2 => bN (sI M2 76 49 1) (fun M3 => some (1, M3)))
theorem m_X12_keep_0 {Z : k_Z} {G : k_G} (C : k_C Z G RX12 cX12_keep (true, 1, 3, 0, 0) (some .int) "keep") (M : k_M) : Sm Z G emI (true, 1, 3, 0, 0) (0, 0) 0 [(0, k_ra Z 76)] [] M (f_X12_keep M) := by
  show Sm Z G emI _ _ _ _ _ _ (bd (f_X12_moveAll 1 M) (fun r1 M2 => bN (sI M2 76 49 1) (fun M3 => some (1, M3))))
  refine x_aload_n C (k_dg dt_X12_keep_0 0 0 (.aload_n 0) 1 rfl) 0 rfl ?_
  refine x_iconst C (v := 1) (k_dg dt_X12_keep_0 1 1 (.iconst 1) 1 rfl) (by decide) ?_
  refine x_callV C (a := 76) (kd := 10) (vs := [Value.int 1]) (rest := []) rfl rfl (by decide) (fun r hr => by cases hr; rfl) (c_X12_moveAll C.2.2.2.2.2.2.2.2.2 G.2.1 1 M) cy_X12_moveAll lk_RX12_392 im_X12_moveAll se_X12_moveAll (by decide) (by decide) (by decide) (by decide) rfl rfl (Nat.le_of_ble_eq_true rfl) (k_dg dt_X12_keep_0 2 2 (.invokevirtual 392) 3 rfl) (fun r1 M2 => ?_)
  show Sm Z G _ _ _ _ [(0, k_ra Z 76)] [] _ _
  refine x_aload_n C (k_dg dt_X12_keep_0 3 5 (.aload_n 0) 1 rfl) 0 rfl ?_
  refine x_iconst C (v := 1) (k_dg dt_X12_keep_0 4 6 (.iconst 1) 1 rfl) (by decide) ?_
  refine x_putI C (a := 76) (j := 49) rfl rfl (by decide) fl_RX12_396 rfl pt_10_49 tb_10 rfl rfl (k_dg dt_X12_keep_0 5 7 (.putfield 396) 3 rfl) (fun M3 => ?_)
  refine x_iconst C (v := 1) (k_dg dt_X12_keep_0 6 10 (.iconst 1) 1 rfl) (by decide) ?_
  exact x_iret C (by decide) (by decide) (k_dg dt_X12_keep_0 7 11 (.ireturn) 1 rfl)
theorem c_X12_keep {Z : k_Z} (hg : k_Gd Z) (l : Launch) (M : k_M) : Con true Z l yX12_keep cX12_keep 1 (some .int) 3 0 0 emI [k_ra Z 76] M (f_X12_keep M) := k_con hg (by decide) (Nat.le_of_ble_eq_true rfl) (fun G hl C => m_X12_keep_0 C M)
theorem dt_X12_again_0 : k_dec cX12_again [(0, .aload_n 0, 1), (1, .getfield 396, 3), (4, .ifCond .ne 6, 3), (7, .bipush (-3), 2), (9, .ireturn, 1), (10, .aload_n 0, 1), (11, .iconst 0, 1), (12, .invokevirtual 392, 3), (15, .aload_n 0, 1), (16, .aload_n 0, 1), (17, .getfield 92, 3), (20, .iconst 0, 1), (21, .iaload, 1), (22, .putfield 95, 3), (25, .aload_n 0, 1), (26, .aload_n 0, 1), (27, .getfield 92, 3), (30, .iconst 1, 1), (31, .iaload, 1), (32, .putfield 103, 3), (35, .aload_n 0, 1), (36, .aload_n 0, 1), (37, .getfield 92, 3), (40, .iconst 2, 1), (41, .iaload, 1), (42, .putfield 312, 3), (45, .aload_n 0, 1), (46, .aload_n 0, 1), (47, .getfield 92, 3), (50, .iconst 3, 1), (51, .iaload, 1), (52, .putfield 226, 3), (55, .aload_n 0, 1), (56, .aload_n 0, 1), (57, .getfield 92, 3), (60, .iconst 4, 1), (61, .iaload, 1), (62, .iconst 1, 1), (63, .if_icmp .ne 7, 3), (66, .iconst 1, 1)] = true := by decide +kernel
theorem dt_X12_again_1 : k_dec cX12_again [(67, .goto 4, 3), (70, .iconst 0, 1), (71, .putfield 205, 3), (74, .aload_n 0, 1), (75, .getfield 95, 3), (78, .ireturn, 1)] = true := by decide +kernel
def f_X12_again_71 (t1 : Int32) (M : k_M) : Option (Int32 × k_M) := ckZ t1 (bN (sI M 76 7 t1) (fun M1 => some (M1.1 76 0, M1)))
theorem m_X12_again_71 {Z : k_Z} {G : k_G} (C : k_C Z G RX12 cX12_again (true, 1, 3, 0, 0) (some .int) "again") (t1 : Int32) (M : k_M) : Sm Z G emI (true, 1, 3, 0, 0) (0, 0) 71 [(0, k_ra Z 76)] [Value.int t1, k_ra Z 76] M (f_X12_again_71 t1 M) := by
  show Sm Z G emI _ _ _ _ _ _ (ckZ t1 (bN (sI M 76 7 t1) (fun M1 => some (M1.1 76 0, M1))))
  refine x_ckZ (v := t1) (fun h2 => ?_)
  refine x_putI C (a := 76) (j := 7) rfl rfl (by decide) fl_RX12_205 rfl pt_10_7 tb_10 (k_nz h2) (k_fz h2) (k_dg dt_X12_again_1 2 71 (.putfield 205) 3 rfl) (fun M1 => ?_)
  refine x_aload_n C (k_dg dt_X12_again_1 3 74 (.aload_n 0) 1 rfl) 0 rfl ?_
  refine x_getI C (a := 76) (j := 0) rfl rfl (by decide) fl_RX12_95 rfl (k_dg dt_X12_again_1 4 75 (.getfield 95) 3 rfl) ?_
  exact x_iret C (by decide) (by decide) (k_dg dt_X12_again_1 5 78 (.ireturn) 1 rfl)
def f_X12_again (M : k_M) : Option (Int32 × k_M) := if (M.1 76 49) = 0 then some (-3, M) else bd (f_X12_moveAll 0 M) (fun r1 M2 => rdI M2 104 5 0 (fun v3 => bN (sI M2 76 0 v3) (fun M4 => rdI M4 104 5 1 (fun v5 => bN (sI M4 76 2 v5) (fun M6 => rdI M6 104 5 2 (fun v7 => bN (sI M6 76 8 v7) (fun M8 => rdI M8 104 5 3 (fun v9 => bN (sI M8 76 6 v9) (fun M10 => rdI M10 104 5 4 (fun v11 => if v11 = 1 then f_X12_again_71 1 M10 else f_X12_again_71 0 M10))))))))))
theorem m_X12_again_0 {Z : k_Z} {G : k_G} (C : k_C Z G RX12 cX12_again (true, 1, 3, 0, 0) (some .int) "again") (M : k_M) : Sm Z G emI (true, 1, 3, 0, 0) (0, 0) 0 [(0, k_ra Z 76)] [] M (f_X12_again M) := by
  show Sm Z G emI _ _ _ _ _ _ (if (M.1 76 49) = 0 then some (-3, M) else bd (f_X12_moveAll 0 M) (fun r1 M2 => rdI M2 104 5 0 (fun v3 => bN (sI M2 76 0 v3) (fun M4 => rdI M4 104 5 1 (fun v5 => bN (sI M4 76 2 v5) (fun M6 => rdI M6 104 5 2 (fun v7 => bN (sI M6 76 8 v7) (fun M8 => rdI M8 104 5 3 (fun v9 => bN (sI M8 76 6 v9) (fun M10 => rdI M10 104 5 4 (fun v11 => if v11 = 1 then f_X12_again_71 1 M10 else f_X12_again_71 0 M10)))))))))))
  refine x_aload_n C (k_dg dt_X12_again_0 0 0 (.aload_n 0) 1 rfl) 0 rfl ?_
  refine x_getI C (a := 76) (j := 49) rfl rfl (by decide) fl_RX12_396 rfl (k_dg dt_X12_again_0 1 1 (.getfield 396) 3 rfl) ?_
  refine x_if_ne C (tgt := 10) (k_dg dt_X12_again_0 2 4 (.ifCond .ne 6) 3 rfl) (by decide) (fun _ => ?_) (fun _ => ?_)
  · refine x_bipush C (v := -3) (k_dg dt_X12_again_0 3 7 (.bipush (-3)) 2 rfl) (by decide) ?_
    exact x_iret C (by decide) (by decide) (k_dg dt_X12_again_0 4 9 (.ireturn) 1 rfl)
  · refine x_aload_n C (k_dg dt_X12_again_0 5 10 (.aload_n 0) 1 rfl) 0 rfl ?_
    refine x_iconst C (v := 0) (k_dg dt_X12_again_0 6 11 (.iconst 0) 1 rfl) (by decide) ?_
    refine x_callV C (a := 76) (kd := 10) (vs := [Value.int 0]) (rest := []) rfl rfl (by decide) (fun r hr => by cases hr; rfl) (c_X12_moveAll C.2.2.2.2.2.2.2.2.2 G.2.1 0 M) cy_X12_moveAll lk_RX12_392 im_X12_moveAll se_X12_moveAll (by decide) (by decide) (by decide) (by decide) rfl rfl (Nat.le_of_ble_eq_true rfl) (k_dg dt_X12_again_0 7 12 (.invokevirtual 392) 3 rfl) (fun r1 M2 => ?_)
    show Sm Z G _ _ _ _ [(0, k_ra Z 76)] [] _ _
    refine x_aload_n C (k_dg dt_X12_again_0 8 15 (.aload_n 0) 1 rfl) 0 rfl ?_
    refine x_aload_n C (k_dg dt_X12_again_0 9 16 (.aload_n 0) 1 rfl) 0 rfl ?_
    refine x_getR C (a := 76) (j := 52) 104 rfl rfl (by decide) fl_RX12_92 rfl rfl rfl (k_dg dt_X12_again_0 10 17 (.getfield 92) 3 rfl) ?_
    refine x_iconst C (v := 0) (k_dg dt_X12_again_0 11 20 (.iconst 0) 1 rfl) (by decide) ?_
    refine x_iald C (a := 104) (n := 5) rfl rfl (k_dg dt_X12_again_0 12 21 (.iaload) 1 rfl) (fun v3 => ?_)
    refine x_putI C (a := 76) (j := 0) rfl rfl (by decide) fl_RX12_95 rfl pt_10_0 tb_10 rfl rfl (k_dg dt_X12_again_0 13 22 (.putfield 95) 3 rfl) (fun M4 => ?_)
    refine x_aload_n C (k_dg dt_X12_again_0 14 25 (.aload_n 0) 1 rfl) 0 rfl ?_
    refine x_aload_n C (k_dg dt_X12_again_0 15 26 (.aload_n 0) 1 rfl) 0 rfl ?_
    refine x_getR C (a := 76) (j := 52) 104 rfl rfl (by decide) fl_RX12_92 rfl rfl rfl (k_dg dt_X12_again_0 16 27 (.getfield 92) 3 rfl) ?_
    refine x_iconst C (v := 1) (k_dg dt_X12_again_0 17 30 (.iconst 1) 1 rfl) (by decide) ?_
    refine x_iald C (a := 104) (n := 5) rfl rfl (k_dg dt_X12_again_0 18 31 (.iaload) 1 rfl) (fun v5 => ?_)
    refine x_putI C (a := 76) (j := 2) rfl rfl (by decide) fl_RX12_103 rfl pt_10_2 tb_10 rfl rfl (k_dg dt_X12_again_0 19 32 (.putfield 103) 3 rfl) (fun M6 => ?_)
    refine x_aload_n C (k_dg dt_X12_again_0 20 35 (.aload_n 0) 1 rfl) 0 rfl ?_
    refine x_aload_n C (k_dg dt_X12_again_0 21 36 (.aload_n 0) 1 rfl) 0 rfl ?_
    refine x_getR C (a := 76) (j := 52) 104 rfl rfl (by decide) fl_RX12_92 rfl rfl rfl (k_dg dt_X12_again_0 22 37 (.getfield 92) 3 rfl) ?_
    refine x_iconst C (v := 2) (k_dg dt_X12_again_0 23 40 (.iconst 2) 1 rfl) (by decide) ?_
    refine x_iald C (a := 104) (n := 5) rfl rfl (k_dg dt_X12_again_0 24 41 (.iaload) 1 rfl) (fun v7 => ?_)
    refine x_putI C (a := 76) (j := 8) rfl rfl (by decide) fl_RX12_312 rfl pt_10_8 tb_10 rfl rfl (k_dg dt_X12_again_0 25 42 (.putfield 312) 3 rfl) (fun M8 => ?_)
    refine x_aload_n C (k_dg dt_X12_again_0 26 45 (.aload_n 0) 1 rfl) 0 rfl ?_
    refine x_aload_n C (k_dg dt_X12_again_0 27 46 (.aload_n 0) 1 rfl) 0 rfl ?_
    refine x_getR C (a := 76) (j := 52) 104 rfl rfl (by decide) fl_RX12_92 rfl rfl rfl (k_dg dt_X12_again_0 28 47 (.getfield 92) 3 rfl) ?_
    refine x_iconst C (v := 3) (k_dg dt_X12_again_0 29 50 (.iconst 3) 1 rfl) (by decide) ?_
    refine x_iald C (a := 104) (n := 5) rfl rfl (k_dg dt_X12_again_0 30 51 (.iaload) 1 rfl) (fun v9 => ?_)
    refine x_putI C (a := 76) (j := 6) rfl rfl (by decide) fl_RX12_226 rfl pt_10_6 tb_10 rfl rfl (k_dg dt_X12_again_0 31 52 (.putfield 226) 3 rfl) (fun M10 => ?_)
    refine x_aload_n C (k_dg dt_X12_again_0 32 55 (.aload_n 0) 1 rfl) 0 rfl ?_
    refine x_aload_n C (k_dg dt_X12_again_0 33 56 (.aload_n 0) 1 rfl) 0 rfl ?_
    refine x_getR C (a := 76) (j := 52) 104 rfl rfl (by decide) fl_RX12_92 rfl rfl rfl (k_dg dt_X12_again_0 34 57 (.getfield 92) 3 rfl) ?_
    refine x_iconst C (v := 4) (k_dg dt_X12_again_0 35 60 (.iconst 4) 1 rfl) (by decide) ?_
    refine x_iald C (a := 104) (n := 5) rfl rfl (k_dg dt_X12_again_0 36 61 (.iaload) 1 rfl) (fun v11 => ?_)
    refine x_iconst C (v := 1) (k_dg dt_X12_again_0 37 62 (.iconst 1) 1 rfl) (by decide) ?_
    refine x_icmp_ne C (tgt := 70) (k_dg dt_X12_again_0 38 63 (.if_icmp .ne 7) 3 rfl) (by decide) (fun _ => ?_) (fun _ => ?_)
    · refine x_iconst C (v := 1) (k_dg dt_X12_again_0 39 66 (.iconst 1) 1 rfl) (by decide) ?_
      refine x_goto C (tgt := 71) (k_dg dt_X12_again_1 0 67 (.goto 4) 3 rfl) (by decide) ?_
      exact m_X12_again_71 C 1 M10
    · refine x_iconst C (v := 0) (k_dg dt_X12_again_1 1 70 (.iconst 0) 1 rfl) (by decide) ?_
      exact m_X12_again_71 C 0 M10
theorem c_X12_again {Z : k_Z} (hg : k_Gd Z) (l : Launch) (M : k_M) : Con true Z l yX12_again cX12_again 1 (some .int) 3 0 0 emI [k_ra Z 76] M (f_X12_again M) := k_con hg (by decide) (Nat.le_of_ble_eq_true rfl) (fun G hl C => m_X12_again_0 C M)
