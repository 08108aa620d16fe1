theorem fl_RX12_22 : k_FL RX12 22 10 9 := ⟨(RX12, TX12, 53), "WheelCityModel", rfl, by decide, iu_10, Or.inl (List.mem_of_getElem? (i := 1105) (by decide +kernel)), Or.inl rfl⟩
theorem fl_RX12_312 : k_FL RX12 312 10 8 := ⟨(RX12, TX12, 53), "WheelCityModel", rfl, by decide, iu_10, Or.inl (List.mem_of_getElem? (i := 1104) (by decide +kernel)), Or.inl rfl⟩
theorem fl_RX12_67 : k_FL RX12 67 10 37 := ⟨(RX12, TX12, 53), "WheelCityModel", rfl, by decide, iu_10, Or.inl (List.mem_of_getElem? (i := 1133) (by decide +kernel)), Or.inl rfl⟩
theorem fl_RX12_70 : k_FL RX12 70 10 38 := ⟨(RX12, TX12, 53), "WheelCityModel", rfl, by decide, iu_10, Or.inl (List.mem_of_getElem? (i := 1134) (by decide +kernel)), Or.inl rfl⟩
theorem fl_RX12_73 : k_FL RX12 73 10 39 := ⟨(RX12, TX12, 53), "WheelCityModel", rfl, by decide, iu_10, Or.inl (List.mem_of_getElem? (i := 1135) (by decide +kernel)), Or.inl rfl⟩
theorem pt_10_8 : k_cls 10 8 .int := fun r hr => by cases hr; exact ⟨rfl, by decide +kernel⟩
theorem cy_X12_findFars : k_cy yX12_findFars cX12_findFars 4 none 0 := ⟨List.mem_of_getElem? (i := 1484) (by decide +kernel), List.mem_of_getElem? (i := 112) (by decide +kernel), ⟨by decide +kernel, by decide +kernel⟩, by decide +kernel⟩
theorem cy_X12_isForEver : k_cy yX12_isForEver cX12_isForEver 4 (some .boolean) 1 := ⟨List.mem_of_getElem? (i := 1515) (by decide +kernel), List.mem_of_getElem? (i := 112) (by decide +kernel), ⟨by decide +kernel, by decide +kernel⟩, by decide +kernel⟩
theorem cy_X12_isRule : k_cy yX12_isRule cX12_isRule 2 (some .boolean) 1 := ⟨List.mem_of_getElem? (i := 1528) (by decide +kernel), List.mem_of_getElem? (i := 112) (by decide +kernel), ⟨by decide +kernel, by decide +kernel⟩, by decide +kernel⟩
theorem cy_X12_isShelf : k_cy yX12_isShelf cX12_isShelf 1 (some .boolean) 1 := ⟨List.mem_of_getElem? (i := 1507) (by decide +kernel), List.mem_of_getElem? (i := 112) (by decide +kernel), ⟨by decide +kernel, by decide +kernel⟩, by decide +kernel⟩
theorem cy_X12_lacksSort : k_cy yX12_lacksSort cX12_lacksSort 3 (some .int) 2 := ⟨List.mem_of_getElem? (i := 1511) (by decide +kernel), List.mem_of_getElem? (i := 112) (by decide +kernel), ⟨by decide +kernel, by decide +kernel⟩, by decide +kernel⟩
theorem cy_X12_leads : k_cy yX12_leads cX12_leads 5 (some .boolean) 3 := ⟨List.mem_of_getElem? (i := 1544) (by decide +kernel), List.mem_of_getElem? (i := 112) (by decide +kernel), ⟨by decide +kernel, by decide +kernel⟩, by decide +kernel⟩
theorem cy_X12_nearAct : k_cy yX12_nearAct cX12_nearAct 7 (some .int) 0 := ⟨List.mem_of_getElem? (i := 1540) (by decide +kernel), List.mem_of_getElem? (i := 112) (by decide +kernel), ⟨by decide +kernel, by decide +kernel⟩, by decide +kernel⟩
theorem cy_X12_nextOf : k_cy yX12_nextOf cX12_nextOf 6 (some .int) 1 := ⟨List.mem_of_getElem? (i := 1536) (by decide +kernel), List.mem_of_getElem? (i := 112) (by decide +kernel), ⟨by decide +kernel, by decide +kernel⟩, by decide +kernel⟩
theorem lk_RX12_300 : k_lk RX12 300 yX12_findFars := Or.inl (List.mem_of_getElem? (i := 1481) (by decide +kernel))
theorem lk_RX12_303 : k_lk RX12 303 yX12_isShelf := Or.inl (List.mem_of_getElem? (i := 1505) (by decide +kernel))
theorem lk_RX12_306 : k_lk RX12 306 yX12_lacksSort := Or.inl (List.mem_of_getElem? (i := 1508) (by decide +kernel))
theorem lk_RX12_309 : k_lk RX12 309 yX12_isForEver := Or.inl (List.mem_of_getElem? (i := 1512) (by decide +kernel))
theorem lk_RX12_316 : k_lk RX12 316 yX12_isRule := Or.inl (List.mem_of_getElem? (i := 1525) (by decide +kernel))
theorem lk_RX12_319 : k_lk RX12 319 yX12_leads := Or.inl (List.mem_of_getElem? (i := 1541) (by decide +kernel))
theorem lk_RX12_322 : k_lk RX12 322 yX12_nearAct := Or.inl (List.mem_of_getElem? (i := 1537) (by decide +kernel))
theorem lk_RX12_325 : k_lk RX12 325 yX12_nextOf := Or.inl (List.mem_of_getElem? (i := 1533) (by decide +kernel))
theorem im_X12_findFars : Cond.instanceMethod yX12_findFars ∈ lw_tbl := List.mem_of_getElem? (i := 1483) (by decide +kernel)
theorem im_X12_isForEver : Cond.instanceMethod yX12_isForEver ∈ lw_tbl := List.mem_of_getElem? (i := 1514) (by decide +kernel)
theorem im_X12_isRule : Cond.instanceMethod yX12_isRule ∈ lw_tbl := List.mem_of_getElem? (i := 1527) (by decide +kernel)
theorem im_X12_lacksSort : Cond.instanceMethod yX12_lacksSort ∈ lw_tbl := List.mem_of_getElem? (i := 1510) (by decide +kernel)
theorem im_X12_leads : Cond.instanceMethod yX12_leads ∈ lw_tbl := List.mem_of_getElem? (i := 1543) (by decide +kernel)
theorem im_X12_nearAct : Cond.instanceMethod yX12_nearAct ∈ lw_tbl := List.mem_of_getElem? (i := 1539) (by decide +kernel)
theorem im_X12_nextOf : Cond.instanceMethod yX12_nextOf ∈ lw_tbl := List.mem_of_getElem? (i := 1535) (by decide +kernel)
theorem se_X12_findFars : Cond.selects yX12_findFars.cls yX12_findFars yX12_findFars ∈ lw_tbl := List.mem_of_getElem? (i := 83) (by decide +kernel)
theorem se_X12_isForEver : Cond.selects yX12_isForEver.cls yX12_isForEver yX12_isForEver ∈ lw_tbl := List.mem_of_getElem? (i := 86) (by decide +kernel)
theorem se_X12_isRule : Cond.selects yX12_isRule.cls yX12_isRule yX12_isRule ∈ lw_tbl := List.mem_of_getElem? (i := 87) (by decide +kernel)
theorem se_X12_lacksSort : Cond.selects yX12_lacksSort.cls yX12_lacksSort yX12_lacksSort ∈ lw_tbl := List.mem_of_getElem? (i := 85) (by decide +kernel)
theorem se_X12_leads : Cond.selects yX12_leads.cls yX12_leads yX12_leads ∈ lw_tbl := List.mem_of_getElem? (i := 90) (by decide +kernel)
theorem se_X12_nearAct : Cond.selects yX12_nearAct.cls yX12_nearAct yX12_nearAct ∈ lw_tbl := List.mem_of_getElem? (i := 89) (by decide +kernel)
theorem se_X12_nextOf : Cond.selects yX12_nextOf.cls yX12_nextOf yX12_nextOf ∈ lw_tbl := List.mem_of_getElem? (i := 88) (by decide +kernel)
theorem stt_X12_isShelf : Cond.static yX12_isShelf ∈ lw_tbl := List.mem_of_getElem? (i := 1506) (by decide +kernel)
theorem ct_RX12_315 : Cond.constant RX12 315 65535 ∈ lw_tbl := List.mem_of_getElem? (i := 1520) (by decide +kernel)
theorem dt_X12_far_0 : k_dec cX12_far [(0, .aload_n 0, 1), (1, .iload_n 1, 1), (2, .invokevirtual 217, 3), (5, .ifCond .eq 11, 3), (8, .aload_n 0, 1), (9, .iload_n 2, 1), (10, .invokevirtual 217, 3), (13, .ifCond .ne 5, 3), (16, .iconst (-1), 1), (17, .ireturn, 1), (18, .aload_n 0, 1), (19, .invokevirtual 300, 3), (22, .aload_n 0, 1), (23, .getfield 61, 3), (26, .bipush 8, 2), (28, .iload_n 1, 1), (29, .imul, 1), (30, .iload_n 2, 1), (31, .iadd, 1), (32, .iaload, 1), (33, .ifCond .ge 8, 3), (36, .bipush (-3), 2), (38, .goto 14, 3), (41, .aload_n 0, 1), (42, .getfield 61, 3), (45, .bipush 8, 2), (47, .iload_n 1, 1), (48, .imul, 1), (49, .iload_n 2, 1), (50, .iadd, 1), (51, .iaload, 1), (52, .ireturn, 1)] = true := by decide +kernel
def f_X12_far (p1 : Int32) (p2 : Int32) (M : k_M) : Option (Int32 × k_M) := bd (f_X12_isPlace p1 M) (fun r1 M2 => if r1 = 0 then some (-1, M2) else bd (f_X12_isPlace p2 M2) (fun r3 M4 => if r3 = 0 then some (-1, M4) else bd (f_X12_findFars M4) (fun r5 M6 => rdI M6 94 64 ((8 * p1) + p2) (fun v7 => if 0 ≤ v7 then rdI M6 94 64 ((8 * p1) + p2) (fun v8 => some (v8, M6)) else some (-3, M6)))))
theorem m_X12_far_0 {Z : k_Z} {G : k_G} (C : k_C Z G RX12 cX12_far (true, 3, 3, 0, 0) (some .int) "far") (p1 : Int32) (p2 : Int32) (M : k_M) : Sm Z G emI (true, 3, 3, 0, 0) (0, 0) 0 [(0, k_ra Z 76), (1, Value.int p1), (2, Value.int p2)] [] M (f_X12_far p1 p2 M) := by
  show Sm Z G emI _ _ _ _ _ _ (bd (f_X12_isPlace p1 M) (fun r1 M2 => if r1 = 0 then some (-1, M2) else bd (f_X12_isPlace p2 M2) (fun r3 M4 => if r3 = 0 then some (-1, M4) else bd (f_X12_findFars M4) (fun r5 M6 => rdI M6 94 64 ((8 * p1) + p2) (fun v7 => if 0 ≤ v7 then rdI M6 94 64 ((8 * p1) + p2) (fun v8 => some (v8, M6)) else some (-3, M6))))))
  refine x_aload_n C (k_dg dt_X12_far_0 0 0 (.aload_n 0) 1 rfl) 0 rfl ?_
  refine x_iload_n C (k_dg dt_X12_far_0 1 1 (.iload_n 1) 1 rfl) 1 rfl ?_
  refine x_callV C (a := 76) (kd := 10) (vs := [Value.int p1]) (rest := []) rfl rfl (by decide) (fun r hr => by cases hr; rfl) (c_X12_isPlace C.2.2.2.2.2.2.2.2.2 G.2.1 p1 M) cy_X12_isPlace lk_RX12_217 im_X12_isPlace se_X12_isPlace (by decide) (by decide) (by decide) (by decide) rfl rfl (Nat.le_of_ble_eq_true rfl) (k_dg dt_X12_far_0 2 2 (.invokevirtual 217) 3 rfl) (fun r1 M2 => ?_)
  show Sm Z G _ _ _ _ [(0, k_ra Z 76), (1, Value.int p1), (2, Value.int p2)] [Value.int r1] _ _
  refine x_if_eq C (tgt := 16) (k_dg dt_X12_far_0 3 5 (.ifCond .eq 11) 3 rfl) (by decide) (fun _ => ?_) (fun _ => ?_)
  · refine x_iconst C (v := -1) (k_dg dt_X12_far_0 8 16 (.iconst (-1)) 1 rfl) (by decide) ?_
    exact x_iret C (by decide) (by decide) (k_dg dt_X12_far_0 9 17 (.ireturn) 1 rfl)
  · refine x_aload_n C (k_dg dt_X12_far_0 4 8 (.aload_n 0) 1 rfl) 0 rfl ?_
    refine x_iload_n C (k_dg dt_X12_far_0 5 9 (.iload_n 2) 1 rfl) 2 rfl ?_
    refine x_callV C (a := 76) (kd := 10) (vs := [Value.int p2]) (rest := []) rfl rfl (by decide) (fun r hr => by cases hr; rfl) (c_X12_isPlace C.2.2.2.2.2.2.2.2.2 G.2.1 p2 M2) cy_X12_isPlace lk_RX12_217 im_X12_isPlace se_X12_isPlace (by decide) (by decide) (by decide) (by decide) rfl rfl (Nat.le_of_ble_eq_true rfl) (k_dg dt_X12_far_0 6 10 (.invokevirtual 217) 3 rfl) (fun r3 M4 => ?_)
    show Sm Z G _ _ _ _ [(0, k_ra Z 76), (1, Value.int p1), (2, Value.int p2)] [Value.int r3] _ _
    refine x_if_ne C (tgt := 18) (k_dg dt_X12_far_0 7 13 (.ifCond .ne 5) 3 rfl) (by decide) (fun _ => ?_) (fun _ => ?_)
    · refine x_iconst C (v := -1) (k_dg dt_X12_far_0 8 16 (.iconst (-1)) 1 rfl) (by decide) ?_
      exact x_iret C (by decide) (by decide) (k_dg dt_X12_far_0 9 17 (.ireturn) 1 rfl)
    · refine x_aload_n C (k_dg dt_X12_far_0 10 18 (.aload_n 0) 1 rfl) 0 rfl ?_
      refine x_callV C (a := 76) (kd := 10) (vs := []) (rest := []) rfl rfl (by decide) (fun r hr => by cases hr; rfl) (c_X12_findFars C.2.2.2.2.2.2.2.2.2 G.2.1 M4) cy_X12_findFars lk_RX12_300 im_X12_findFars se_X12_findFars (by decide) (by decide) (by decide) (by decide) rfl rfl (Nat.le_of_ble_eq_true rfl) (k_dg dt_X12_far_0 11 19 (.invokevirtual 300) 3 rfl) (fun r5 M6 => ?_)
      show Sm Z G _ _ _ _ [(0, k_ra Z 76), (1, Value.int p1), (2, Value.int p2)] [] _ _
      refine x_aload_n C (k_dg dt_X12_far_0 12 22 (.aload_n 0) 1 rfl) 0 rfl ?_
      refine x_getR C (a := 76) (j := 34) 94 rfl rfl (by decide) fl_RX12_61 rfl rfl rfl (k_dg dt_X12_far_0 13 23 (.getfield 61) 3 rfl) ?_
      refine x_bipush C (v := 8) (k_dg dt_X12_far_0 14 26 (.bipush 8) 2 rfl) (by decide) ?_
      refine x_iload_n C (k_dg dt_X12_far_0 15 28 (.iload_n 1) 1 rfl) 1 rfl ?_
      refine x_imul C (k_dg dt_X12_far_0 16 29 (.imul) 1 rfl) ?_
      refine x_iload_n C (k_dg dt_X12_far_0 17 30 (.iload_n 2) 1 rfl) 2 rfl ?_
      refine x_iadd C (k_dg dt_X12_far_0 18 31 (.iadd) 1 rfl) ?_
      refine x_iald C (a := 94) (n := 64) rfl rfl (k_dg dt_X12_far_0 19 32 (.iaload) 1 rfl) (fun v7 => ?_)
      refine x_if_ge C (tgt := 41) (k_dg dt_X12_far_0 20 33 (.ifCond .ge 8) 3 rfl) (by decide) (fun _ => ?_) (fun _ => ?_)
      · refine x_aload_n C (k_dg dt_X12_far_0 23 41 (.aload_n 0) 1 rfl) 0 rfl ?_
        refine x_getR C (a := 76) (j := 34) 94 rfl rfl (by decide) fl_RX12_61 rfl rfl rfl (k_dg dt_X12_far_0 24 42 (.getfield 61) 3 rfl) ?_
        refine x_bipush C (v := 8) (k_dg dt_X12_far_0 25 45 (.bipush 8) 2 rfl) (by decide) ?_
        refine x_iload_n C (k_dg dt_X12_far_0 26 47 (.iload_n 1) 1 rfl) 1 rfl ?_
        refine x_imul C (k_dg dt_X12_far_0 27 48 (.imul) 1 rfl) ?_
        refine x_iload_n C (k_dg dt_X12_far_0 28 49 (.iload_n 2) 1 rfl) 2 rfl ?_
        refine x_iadd C (k_dg dt_X12_far_0 29 50 (.iadd) 1 rfl) ?_
        refine x_iald C (a := 94) (n := 64) rfl rfl (k_dg dt_X12_far_0 30 51 (.iaload) 1 rfl) (fun v8 => ?_)
        exact x_iret C (by decide) (by decide) (k_dg dt_X12_far_0 31 52 (.ireturn) 1 rfl)
      · refine x_bipush C (v := -3) (k_dg dt_X12_far_0 21 36 (.bipush (-3)) 2 rfl) (by decide) ?_
        refine x_goto C (tgt := 52) (k_dg dt_X12_far_0 22 38 (.goto 14) 3 rfl) (by decide) ?_
        exact x_iret C (by decide) (by decide) (k_dg dt_X12_far_0 31 52 (.ireturn) 1 rfl)
theorem c_X12_far {Z : k_Z} (hg : k_Gd Z) (l : Launch) (p1 : Int32) (p2 : Int32) (M : k_M) : Con true Z l yX12_far cX12_far 3 (some .int) 3 0 0 emI [k_ra Z 76, Value.int p1, Value.int p2] M (f_X12_far p1 p2 M) := k_con hg (by decide) (Nat.le_of_ble_eq_true rfl) (fun G hl C => m_X12_far_0 C p1 p2 M)
theorem dt_X12_meet_0 : k_dec cX12_meet [(0, .aload_n 0, 1), (1, .iload_n 1, 1), (2, .invokevirtual 217, 3), (5, .ifCond .ne 5, 3), (8, .iconst (-1), 1), (9, .ireturn, 1), (10, .aload_n 0, 1), (11, .getfield 205, 3), (14, .ifCond .ne 6, 3), (17, .bipush (-4), 2), (19, .ireturn, 1), (20, .aload_n 0, 1), (21, .invokevirtual 300, 3), (24, .bipush (-3), 2), (26, .istore_n 2, 1), (27, .iconst 0, 1), (28, .istore_n 3, 1), (29, .iload_n 3, 1), (30, .aload_n 0, 1), (31, .getfield 95, 3), (34, .if_icmp .ge 83, 3), (37, .aload_n 0, 1), (38, .getfield 61, 3), (41, .bipush 8, 2), (43, .aload_n 0, 1), (44, .getfield 25, 3), (47, .iconst 0, 1), (48, .iaload, 1), (49, .imul, 1), (50, .iload_n 3, 1), (51, .iadd, 1), (52, .iaload, 1), (53, .istore 4, 2), (55, .aload_n 0, 1), (56, .getfield 61, 3), (59, .bipush 8, 2), (61, .iload_n 1, 1), (62, .imul, 1), (63, .iload_n 3, 1), (64, .iadd, 1)] = true := by decide +kernel
theorem dt_X12_meet_1 : k_dec cX12_meet [(65, .iaload, 1), (66, .istore 5, 2), (68, .iload 4, 2), (70, .iload 5, 2), (72, .if_icmp .le 8, 3), (75, .iload 4, 2), (77, .goto 5, 3), (80, .iload 5, 2), (82, .istore 6, 2), (84, .iload 4, 2), (86, .ifCond .lt 23, 3), (89, .iload 5, 2), (91, .ifCond .lt 18, 3), (94, .iload_n 2, 1), (95, .ifCond .lt 9, 3), (98, .iload 6, 2), (100, .iload_n 2, 1), (101, .if_icmp .ge 8, 3), (104, .iload 6, 2), (106, .goto 4, 3), (109, .iload_n 2, 1), (110, .istore_n 2, 1), (111, .iinc 3 1, 3), (114, .goto (-85), 3), (117, .iload_n 2, 1), (118, .ireturn, 1)] = true := by decide +kernel
def f_X12_meet_110 (l1 : Int32) (l3 : Int32) (t0 : Int32) (M : k_M) (kb : Int32 → Int32 → Int32 → k_M → Option (Int32 × k_M)) (kx117 : Int32 → k_M → Option (Int32 × k_M)) : Option (Int32 × k_M) := kb l1 t0 (l3 + 1) M
theorem m_X12_meet_110 {Z : k_Z} {G : k_G} (C : k_C Z G RX12 cX12_meet (true, 7, 3, 0, 0) (some .int) "meet") (kb : Int32 → Int32 → Int32 → k_M → Option (Int32 × k_M)) (kx117 : Int32 → k_M → Option (Int32 × k_M)) (Hb : ∀ (l1 : Int32) (l2 : Int32) (l3 : Int32) (M : k_M), Sm Z G emI (true, 7, 3, 0, 0) (0, 0) 29 [(0, k_ra Z 76), (1, Value.int l1), (2, Value.int l2), (3, Value.int l3)] [] M (kb l1 l2 l3 M)) (Hx117 : ∀ (l2 : Int32) (M : k_M), Sm Z G emI (true, 7, 3, 0, 0) (0, 0) 117 [(2, Value.int l2)] [] M (kx117 l2 M)) (l1 : Int32) (l3 : Int32) (t0 : Int32) (M : k_M) : Sm Z G emI (true, 7, 3, 0, 0) (0, 0) 110 [(0, k_ra Z 76), (1, Value.int l1), (3, Value.int l3)] [Value.int t0] M (f_X12_meet_110 l1 l3 t0 M kb kx117) := by
  show Sm Z G emI _ _ _ _ _ _ (kb l1 t0 (l3 + 1) M)
  refine x_istore_n C (lv' := [(2, Value.int t0), (0, k_ra Z 76), (1, Value.int l1), (3, Value.int l3)]) (k_dg dt_X12_meet_1 21 110 (.istore_n 2) 1 rfl) (by decide) rfl ?_
  refine x_iinc C (v := 1) (lv' := [(3, Value.int (l3 + 1)), (2, Value.int t0), (0, k_ra Z 76), (1, Value.int l1)]) (k_dg dt_X12_meet_1 22 111 (.iinc 3 1) 3 rfl) 3 rfl (by decide) (by decide) rfl ?_
  refine x_goto C (tgt := 29) (k_dg dt_X12_meet_1 23 114 (.goto (-85)) 3 rfl) (by decide) ?_
  refine x_lv [2, 3, 1, 0] rfl ?_
  exact Hb l1 t0 (l3 + 1) M
def f_X12_meet_104 (l1 : Int32) (l3 : Int32) (l6 : Int32) (M : k_M) (kb : Int32 → Int32 → Int32 → k_M → Option (Int32 × k_M)) (kx117 : Int32 → k_M → Option (Int32 × k_M)) : Option (Int32 × k_M) := f_X12_meet_110 l1 l3 l6 M kb kx117
theorem m_X12_meet_104 {Z : k_Z} {G : k_G} (C : k_C Z G RX12 cX12_meet (true, 7, 3, 0, 0) (some .int) "meet") (kb : Int32 → Int32 → Int32 → k_M → Option (Int32 × k_M)) (kx117 : Int32 → k_M → Option (Int32 × k_M)) (Hb : ∀ (l1 : Int32) (l2 : Int32) (l3 : Int32) (M : k_M), Sm Z G emI (true, 7, 3, 0, 0) (0, 0) 29 [(0, k_ra Z 76), (1, Value.int l1), (2, Value.int l2), (3, Value.int l3)] [] M (kb l1 l2 l3 M)) (Hx117 : ∀ (l2 : Int32) (M : k_M), Sm Z G emI (true, 7, 3, 0, 0) (0, 0) 117 [(2, Value.int l2)] [] M (kx117 l2 M)) (l1 : Int32) (l3 : Int32) (l6 : Int32) (M : k_M) : Sm Z G emI (true, 7, 3, 0, 0) (0, 0) 104 [(0, k_ra Z 76), (1, Value.int l1), (3, Value.int l3), (6, Value.int l6)] [] M (f_X12_meet_104 l1 l3 l6 M kb kx117) := by
  show Sm Z G emI _ _ _ _ _ _ (f_X12_meet_110 l1 l3 l6 M kb kx117)
  refine x_iload C (k_dg dt_X12_meet_1 18 104 (.iload 6) 2 rfl) 3 rfl ?_
  refine x_goto C (tgt := 110) (k_dg dt_X12_meet_1 19 106 (.goto 4) 3 rfl) (by decide) ?_
  refine x_lv [0, 1, 2] rfl ?_
  exact m_X12_meet_110 C kb kx117 Hb Hx117 l1 l3 l6 M
def f_X12_meet_109 (l1 : Int32) (l2 : Int32) (l3 : Int32) (M : k_M) (kb : Int32 → Int32 → Int32 → k_M → Option (Int32 × k_M)) (kx117 : Int32 → k_M → Option (Int32 × k_M)) : Option (Int32 × k_M) := f_X12_meet_110 l1 l3 l2 M kb kx117
theorem m_X12_meet_109 {Z : k_Z} {G : k_G} (C : k_C Z G RX12 cX12_meet (true, 7, 3, 0, 0) (some .int) "meet") (kb : Int32 → Int32 → Int32 → k_M → Option (Int32 × k_M)) (kx117 : Int32 → k_M → Option (Int32 × k_M)) (Hb : ∀ (l1 : Int32) (l2 : Int32) (l3 : Int32) (M : k_M), Sm Z G emI (true, 7, 3, 0, 0) (0, 0) 29 [(0, k_ra Z 76), (1, Value.int l1), (2, Value.int l2), (3, Value.int l3)] [] M (kb l1 l2 l3 M)) (Hx117 : ∀ (l2 : Int32) (M : k_M), Sm Z G emI (true, 7, 3, 0, 0) (0, 0) 117 [(2, Value.int l2)] [] M (kx117 l2 M)) (l1 : Int32) (l2 : Int32) (l3 : Int32) (M : k_M) : Sm Z G emI (true, 7, 3, 0, 0) (0, 0) 109 [(0, k_ra Z 76), (1, Value.int l1), (2, Value.int l2), (3, Value.int l3)] [] M (f_X12_meet_109 l1 l2 l3 M kb kx117) := by
  show Sm Z G emI _ _ _ _ _ _ (f_X12_meet_110 l1 l3 l2 M kb kx117)
  refine x_iload_n C (k_dg dt_X12_meet_1 20 109 (.iload_n 2) 1 rfl) 2 rfl ?_
  refine x_lv [0, 1, 3] rfl ?_
  exact m_X12_meet_110 C kb kx117 Hb Hx117 l1 l3 l2 M
def f_X12_meet_82 (l1 : Int32) (l2 : Int32) (l3 : Int32) (l4 : Int32) (l5 : Int32) (t0 : Int32) (M : k_M) (kb : Int32 → Int32 → Int32 → k_M → Option (Int32 × k_M)) (kx117 : Int32 → k_M → Option (Int32 × k_M)) : Option (Int32 × k_M) := if l4 < 0 then f_X12_meet_109 l1 l2 l3 M kb kx117 else if l5 < 0 then f_X12_meet_109 l1 l2 l3 M kb kx117 else if l2 < 0 then f_X12_meet_104 l1 l3 t0 M kb kx117 else if l2 ≤ t0 then f_X12_meet_109 l1 l2 l3 M kb kx117 else f_X12_meet_104 l1 l3 t0 M kb kx117
theorem m_X12_meet_82 {Z : k_Z} {G : k_G} (C : k_C Z G RX12 cX12_meet (true, 7, 3, 0, 0) (some .int) "meet") (kb : Int32 → Int32 → Int32 → k_M → Option (Int32 × k_M)) (kx117 : Int32 → k_M → Option (Int32 × k_M)) (Hb : ∀ (l1 : Int32) (l2 : Int32) (l3 : Int32) (M : k_M), Sm Z G emI (true, 7, 3, 0, 0) (0, 0) 29 [(0, k_ra Z 76), (1, Value.int l1), (2, Value.int l2), (3, Value.int l3)] [] M (kb l1 l2 l3 M)) (Hx117 : ∀ (l2 : Int32) (M : k_M), Sm Z G emI (true, 7, 3, 0, 0) (0, 0) 117 [(2, Value.int l2)] [] M (kx117 l2 M)) (l1 : Int32) (l2 : Int32) (l3 : Int32) (l4 : Int32) (l5 : Int32) (t0 : Int32) (M : k_M) : Sm Z G emI (true, 7, 3, 0, 0) (0, 0) 82 [(0, k_ra Z 76), (1, Value.int l1), (2, Value.int l2), (3, Value.int l3), (4, Value.int l4), (5, Value.int l5)] [Value.int t0] M (f_X12_meet_82 l1 l2 l3 l4 l5 t0 M kb kx117) := by
  show Sm Z G emI _ _ _ _ _ _ (if l4 < 0 then f_X12_meet_109 l1 l2 l3 M kb kx117 else if l5 < 0 then f_X12_meet_109 l1 l2 l3 M kb kx117 else if l2 < 0 then f_X12_meet_104 l1 l3 t0 M kb kx117 else if l2 ≤ t0 then f_X12_meet_109 l1 l2 l3 M kb kx117 else f_X12_meet_104 l1 l3 t0 M kb kx117)
  refine x_istore C (lv' := [(6, Value.int t0), (0, k_ra Z 76), (1, Value.int l1), (2, Value.int l2), (3, Value.int l3), (4, Value.int l4), (5, Value.int l5)]) (k_dg dt_X12_meet_1 8 82 (.istore 6) 2 rfl) (by decide) rfl ?_
  refine x_iload C (k_dg dt_X12_meet_1 9 84 (.iload 4) 2 rfl) 5 rfl ?_
  refine x_if_lt C (tgt := 109) (k_dg dt_X12_meet_1 10 86 (.ifCond .lt 23) 3 rfl) (by decide) (fun _ => ?_) (fun _ => ?_)
  · refine x_lv [1, 2, 3, 4] rfl ?_
    exact m_X12_meet_109 C kb kx117 Hb Hx117 l1 l2 l3 M
  · refine x_iload C (k_dg dt_X12_meet_1 11 89 (.iload 5) 2 rfl) 6 rfl ?_
    refine x_if_lt C (tgt := 109) (k_dg dt_X12_meet_1 12 91 (.ifCond .lt 18) 3 rfl) (by decide) (fun _ => ?_) (fun _ => ?_)
    · refine x_lv [1, 2, 3, 4] rfl ?_
      exact m_X12_meet_109 C kb kx117 Hb Hx117 l1 l2 l3 M
    · refine x_iload_n C (k_dg dt_X12_meet_1 13 94 (.iload_n 2) 1 rfl) 3 rfl ?_
      refine x_if_lt C (tgt := 104) (k_dg dt_X12_meet_1 14 95 (.ifCond .lt 9) 3 rfl) (by decide) (fun _ => ?_) (fun _ => ?_)
      · refine x_lv [1, 2, 4, 0] rfl ?_
        exact m_X12_meet_104 C kb kx117 Hb Hx117 l1 l3 t0 M
      · refine x_iload C (k_dg dt_X12_meet_1 15 98 (.iload 6) 2 rfl) 0 rfl ?_
        refine x_iload_n C (k_dg dt_X12_meet_1 16 100 (.iload_n 2) 1 rfl) 3 rfl ?_
        refine x_icmp_ge C (tgt := 109) (k_dg dt_X12_meet_1 17 101 (.if_icmp .ge 8) 3 rfl) (by decide) (fun _ => ?_) (fun _ => ?_)
        · refine x_lv [1, 2, 3, 4] rfl ?_
          exact m_X12_meet_109 C kb kx117 Hb Hx117 l1 l2 l3 M
        · refine x_lv [1, 2, 4, 0] rfl ?_
          exact m_X12_meet_104 C kb kx117 Hb Hx117 l1 l3 t0 M
def f_X12_meet_29 : Nat → Int32 → Int32 → Int32 → k_M → (Int32 → k_M → Option (Int32 × k_M)) → Option (Int32 × k_M)
  | 0, _, _, _, _, _ => none
  | n + 1, l1, l2, l3, M, kx117 => if (M.1 76 0) ≤ l3 then kx117 l2 M else rdI M 82 1100 0 (fun v1 => rdI M 94 64 ((8 * v1) + l3) (fun v2 => rdI M 94 64 ((8 * l1) + l3) (fun v3 => if v2 ≤ v3 then f_X12_meet_82 l1 l2 l3 v2 v3 v3 M ((fun l1_ l2_ l3_ M_ => f_X12_meet_29 n l1_ l2_ l3_ M_ kx117)) kx117 else f_X12_meet_82 l1 l2 l3 v2 v3 v2 M ((fun l1_ l2_ l3_ M_ => f_X12_meet_29 n l1_ l2_ l3_ M_ kx117)) kx117)))
theorem m_X12_meet_29 {Z : k_Z} {G : k_G} (C : k_C Z G RX12 cX12_meet (true, 7, 3, 0, 0) (some .int) "meet") (kx117 : Int32 → k_M → Option (Int32 × k_M)) (Hx117 : ∀ (l2 : Int32) (M : k_M), Sm Z G emI (true, 7, 3, 0, 0) (0, 0) 117 [(2, Value.int l2)] [] M (kx117 l2 M)) : ∀ (n : Nat) (l1 : Int32) (l2 : Int32) (l3 : Int32) (M : k_M), Sm Z G emI (true, 7, 3, 0, 0) (0, 0) 29 [(0, k_ra Z 76), (1, Value.int l1), (2, Value.int l2), (3, Value.int l3)] [] M (f_X12_meet_29 n l1 l2 l3 M kx117)
  | 0, _, _, _, _ => x_none
  | n + 1, l1, l2, l3, M => by
    have ih := m_X12_meet_29 C kx117 Hx117 n
    show Sm Z G emI _ _ _ _ _ _ (if (M.1 76 0) ≤ l3 then kx117 l2 M else rdI M 82 1100 0 (fun v1 => rdI M 94 64 ((8 * v1) + l3) (fun v2 => rdI M 94 64 ((8 * l1) + l3) (fun v3 => if v2 ≤ v3 then f_X12_meet_82 l1 l2 l3 v2 v3 v3 M ((fun l1_ l2_ l3_ M_ => f_X12_meet_29 n l1_ l2_ l3_ M_ kx117)) kx117 else f_X12_meet_82 l1 l2 l3 v2 v3 v2 M ((fun l1_ l2_ l3_ M_ => f_X12_meet_29 n l1_ l2_ l3_ M_ kx117)) kx117))))
    refine x_iload_n C (k_dg dt_X12_meet_0 17 29 (.iload_n 3) 1 rfl) 3 rfl ?_
    refine x_aload_n C (k_dg dt_X12_meet_0 18 30 (.aload_n 0) 1 rfl) 0 rfl ?_
    refine x_getI C (a := 76) (j := 0) rfl rfl (by decide) fl_RX12_95 rfl (k_dg dt_X12_meet_0 19 31 (.getfield 95) 3 rfl) ?_
    refine x_icmp_ge C (tgt := 117) (k_dg dt_X12_meet_0 20 34 (.if_icmp .ge 83) 3 rfl) (by decide) (fun _ => ?_) (fun _ => ?_)
    · refine x_lv [2] rfl ?_
      exact Hx117 l2 M
    · refine x_aload_n C (k_dg dt_X12_meet_0 21 37 (.aload_n 0) 1 rfl) 0 rfl ?_
      refine x_getR C (a := 76) (j := 34) 94 rfl rfl (by decide) fl_RX12_61 rfl rfl rfl (k_dg dt_X12_meet_0 22 38 (.getfield 61) 3 rfl) ?_
      refine x_bipush C (v := 8) (k_dg dt_X12_meet_0 23 41 (.bipush 8) 2 rfl) (by decide) ?_
      refine x_aload_n C (k_dg dt_X12_meet_0 24 43 (.aload_n 0) 1 rfl) 0 rfl ?_
      refine x_getR C (a := 76) (j := 10) 82 rfl rfl (by decide) fl_RX12_25 rfl rfl rfl (k_dg dt_X12_meet_0 25 44 (.getfield 25) 3 rfl) ?_
      refine x_iconst C (v := 0) (k_dg dt_X12_meet_0 26 47 (.iconst 0) 1 rfl) (by decide) ?_
      refine x_iald C (a := 82) (n := 1100) rfl rfl (k_dg dt_X12_meet_0 27 48 (.iaload) 1 rfl) (fun v1 => ?_)
      refine x_imul C (k_dg dt_X12_meet_0 28 49 (.imul) 1 rfl) ?_
      refine x_iload_n C (k_dg dt_X12_meet_0 29 50 (.iload_n 3) 1 rfl) 3 rfl ?_
      refine x_iadd C (k_dg dt_X12_meet_0 30 51 (.iadd) 1 rfl) ?_
      refine x_iald C (a := 94) (n := 64) rfl rfl (k_dg dt_X12_meet_0 31 52 (.iaload) 1 rfl) (fun v2 => ?_)
      refine x_istore C (lv' := [(4, Value.int v2), (0, k_ra Z 76), (1, Value.int l1), (2, Value.int l2), (3, Value.int l3)]) (k_dg dt_X12_meet_0 32 53 (.istore 4) 2 rfl) (by decide) rfl ?_
      refine x_aload_n C (k_dg dt_X12_meet_0 33 55 (.aload_n 0) 1 rfl) 1 rfl ?_
      refine x_getR C (a := 76) (j := 34) 94 rfl rfl (by decide) fl_RX12_61 rfl rfl rfl (k_dg dt_X12_meet_0 34 56 (.getfield 61) 3 rfl) ?_
      refine x_bipush C (v := 8) (k_dg dt_X12_meet_0 35 59 (.bipush 8) 2 rfl) (by decide) ?_
      refine x_iload_n C (k_dg dt_X12_meet_0 36 61 (.iload_n 1) 1 rfl) 2 rfl ?_
      refine x_imul C (k_dg dt_X12_meet_0 37 62 (.imul) 1 rfl) ?_
      refine x_iload_n C (k_dg dt_X12_meet_0 38 63 (.iload_n 3) 1 rfl) 4 rfl ?_
      refine x_iadd C (k_dg dt_X12_meet_0 39 64 (.iadd) 1 rfl) ?_
      refine x_iald C (a := 94) (n := 64) rfl rfl (k_dg dt_X12_meet_1 0 65 (.iaload) 1 rfl) (fun v3 => ?_)
      refine x_istore C (lv' := [(5, Value.int v3), (4, Value.int v2), (0, k_ra Z 76), (1, Value.int l1), (2, Value.int l2), (3, Value.int l3)]) (k_dg dt_X12_meet_1 1 66 (.istore 5) 2 rfl) (by decide) rfl ?_
      refine x_iload C (k_dg dt_X12_meet_1 2 68 (.iload 4) 2 rfl) 1 rfl ?_
      refine x_iload C (k_dg dt_X12_meet_1 3 70 (.iload 5) 2 rfl) 0 rfl ?_
      refine x_icmp_le C (tgt := 80) (k_dg dt_X12_meet_1 4 72 (.if_icmp .le 8) 3 rfl) (by decide) (fun _ => ?_) (fun _ => ?_)
      · refine x_iload C (k_dg dt_X12_meet_1 7 80 (.iload 5) 2 rfl) 0 rfl ?_
        refine x_lv [2, 3, 4, 5, 1, 0] rfl ?_
        exact m_X12_meet_82 C ((fun l1_ l2_ l3_ M_ => f_X12_meet_29 n l1_ l2_ l3_ M_ kx117)) kx117 ih Hx117 l1 l2 l3 v2 v3 v3 M
      · refine x_iload C (k_dg dt_X12_meet_1 5 75 (.iload 4) 2 rfl) 1 rfl ?_
        refine x_goto C (tgt := 82) (k_dg dt_X12_meet_1 6 77 (.goto 5) 3 rfl) (by decide) ?_
        refine x_lv [2, 3, 4, 5, 1, 0] rfl ?_
        exact m_X12_meet_82 C ((fun l1_ l2_ l3_ M_ => f_X12_meet_29 n l1_ l2_ l3_ M_ kx117)) kx117 ih Hx117 l1 l2 l3 v2 v3 v2 M
def f_X12_meet_117 (l2 : Int32) (M : k_M) : Option (Int32 × k_M) := some (l2, M)
theorem m_X12_meet_117 {Z : k_Z} {G : k_G} (C : k_C Z G RX12 cX12_meet (true, 7, 3, 0, 0) (some .int) "meet") (l2 : Int32) (M : k_M) : Sm Z G emI (true, 7, 3, 0, 0) (0, 0) 117 [(2, Value.int l2)] [] M (f_X12_meet_117 l2 M) := by
  show Sm Z G emI _ _ _ _ _ _ (some (l2, M))
  refine x_iload_n C (k_dg dt_X12_meet_1 24 117 (.iload_n 2) 1 rfl) 0 rfl ?_
  exact x_iret C (by decide) (by decide) (k_dg dt_X12_meet_1 25 118 (.ireturn) 1 rfl)
def f_X12_meet (p1 : Int32) (M : k_M) : Option (Int32 × k_M) := bd (f_X12_isPlace p1 M) (fun r1 M2 => if r1 = 0 then some (-1, M2) else if (M2.1 76 7) = 0 then some (-4, M2) else bd (f_X12_findFars M2) (fun r3 M4 => bN (-3) (fun v5 => f_X12_meet_29 k_fu p1 v5 0 M4 (fun l2_ M_ => f_X12_meet_117 l2_ M_))))
theorem m_X12_meet_0 {Z : k_Z} {G : k_G} (C : k_C Z G RX12 cX12_meet (true, 7, 3, 0, 0) (some .int) "meet") (p1 : Int32) (M : k_M) : Sm Z G emI (true, 7, 3, 0, 0) (0, 0) 0 [(0, k_ra Z 76), (1, Value.int p1)] [] M (f_X12_meet p1 M) := by
  show Sm Z G emI _ _ _ _ _ _ (bd (f_X12_isPlace p1 M) (fun r1 M2 => if r1 = 0 then some (-1, M2) else if (M2.1 76 7) = 0 then some (-4, M2) else bd (f_X12_findFars M2) (fun r3 M4 => bN (-3) (fun v5 => f_X12_meet_29 k_fu p1 v5 0 M4 (fun l2_ M_ => f_X12_meet_117 l2_ M_)))))
  refine x_aload_n C (k_dg dt_X12_meet_0 0 0 (.aload_n 0) 1 rfl) 0 rfl ?_
  refine x_iload_n C (k_dg dt_X12_meet_0 1 1 (.iload_n 1) 1 rfl) 1 rfl ?_
  refine x_callV C (a := 76) (kd := 10) (vs := [Value.int p1]) (rest := []) rfl rfl (by decide) (fun r hr => by cases hr; rfl) (c_X12_isPlace C.2.2.2.2.2.2.2.2.2 G.2.1 p1 M) cy_X12_isPlace lk_RX12_217 im_X12_isPlace se_X12_isPlace (by decide) (by decide) (by decide) (by decide) rfl rfl (Nat.le_of_ble_eq_true rfl) (k_dg dt_X12_meet_0 2 2 (.invokevirtual 217) 3 rfl) (fun r1 M2 => ?_)
  show Sm Z G _ _ _ _ [(0, k_ra Z 76), (1, Value.int p1)] [Value.int r1] _ _
  refine x_if_ne C (tgt := 10) (k_dg dt_X12_meet_0 3 5 (.ifCond .ne 5) 3 rfl) (by decide) (fun _ => ?_) (fun _ => ?_)
  · refine x_iconst C (v := -1) (k_dg dt_X12_meet_0 4 8 (.iconst (-1)) 1 rfl) (by decide) ?_
    exact x_iret C (by decide) (by decide) (k_dg dt_X12_meet_0 5 9 (.ireturn) 1 rfl)
  · refine x_aload_n C (k_dg dt_X12_meet_0 6 10 (.aload_n 0) 1 rfl) 0 rfl ?_
    refine x_getI C (a := 76) (j := 7) rfl rfl (by decide) fl_RX12_205 rfl (k_dg dt_X12_meet_0 7 11 (.getfield 205) 3 rfl) ?_
    refine x_if_ne C (tgt := 20) (k_dg dt_X12_meet_0 8 14 (.ifCond .ne 6) 3 rfl) (by decide) (fun _ => ?_) (fun _ => ?_)
    · refine x_bipush C (v := -4) (k_dg dt_X12_meet_0 9 17 (.bipush (-4)) 2 rfl) (by decide) ?_
      exact x_iret C (by decide) (by decide) (k_dg dt_X12_meet_0 10 19 (.ireturn) 1 rfl)
    · refine x_aload_n C (k_dg dt_X12_meet_0 11 20 (.aload_n 0) 1 rfl) 0 rfl ?_
      refine x_callV C (a := 76) (kd := 10) (vs := []) (rest := []) rfl rfl (by decide) (fun r hr => by cases hr; rfl) (c_X12_findFars C.2.2.2.2.2.2.2.2.2 G.2.1 M2) cy_X12_findFars lk_RX12_300 im_X12_findFars se_X12_findFars (by decide) (by decide) (by decide) (by decide) rfl rfl (Nat.le_of_ble_eq_true rfl) (k_dg dt_X12_meet_0 12 21 (.invokevirtual 300) 3 rfl) (fun r3 M4 => ?_)
      show Sm Z G _ _ _ _ [(0, k_ra Z 76), (1, Value.int p1)] [] _ _
      refine x_bipush C (v := -3) (k_dg dt_X12_meet_0 13 24 (.bipush (-3)) 2 rfl) (by decide) ?_
      refine x_nm (w := Value.int) (fun v5 _ => ?_)
      refine x_istore_n C (lv' := [(2, Value.int v5), (0, k_ra Z 76), (1, Value.int p1)]) (k_dg dt_X12_meet_0 14 26 (.istore_n 2) 1 rfl) (by decide) rfl ?_
      refine x_iconst C (v := 0) (k_dg dt_X12_meet_0 15 27 (.iconst 0) 1 rfl) (by decide) ?_
      refine x_istore_n C (lv' := [(3, Value.int 0), (2, Value.int v5), (0, k_ra Z 76), (1, Value.int p1)]) (k_dg dt_X12_meet_0 16 28 (.istore_n 3) 1 rfl) (by decide) rfl ?_
      refine x_lv [2, 3, 1, 0] rfl ?_
      exact m_X12_meet_29 C (fun l2_ M_ => f_X12_meet_117 l2_ M_) (fun l2_ M_ => m_X12_meet_117 C l2_ M_) k_fu p1 v5 0 M4
theorem c_X12_meet {Z : k_Z} (hg : k_Gd Z) (l : Launch) (p1 : Int32) (M : k_M) : Con true Z l yX12_meet cX12_meet 7 (some .int) 3 0 0 emI [k_ra Z 76, Value.int p1] M (f_X12_meet p1 M) := k_con hg (by decide) (Nat.le_of_ble_eq_true rfl) (fun G hl C => m_X12_meet_0 C p1 M)
theorem dt_X12_party_0 : k_dec cX12_party [(0, .aload_n 0, 1), (1, .iload_n 1, 1), (2, .invokevirtual 217, 3), (5, .ifCond .ne 5, 3), (8, .iconst (-1), 1), (9, .ireturn, 1), (10, .aload_n 0, 1), (11, .getfield 205, 3), (14, .ifCond .ne 6, 3), (17, .bipush (-4), 2), (19, .ireturn, 1), (20, .aload_n 0, 1), (21, .invokevirtual 300, 3), (24, .aload_n 0, 1), (25, .getfield 61, 3), (28, .bipush 8, 2), (30, .aload_n 0, 1), (31, .getfield 25, 3), (34, .iconst 0, 1), (35, .iaload, 1), (36, .imul, 1), (37, .iload_n 1, 1), (38, .iadd, 1), (39, .iaload, 1), (40, .ifCond .ge 6, 3), (43, .bipush (-3), 2), (45, .ireturn, 1), (46, .aload_n 0, 1), (47, .iload_n 1, 1), (48, .iconst 0, 1), (49, .invokevirtual 214, 3), (52, .invokestatic 235, 3), (55, .istore_n 2, 1), (56, .iload_n 2, 1), (57, .ifCond .ge 7, 3), (60, .iconst 0, 1), (61, .goto 21, 3), (64, .aload_n 0, 1), (65, .iconst 0, 1), (66, .iload_n 2, 1)] = true := by decide +kernel
theorem dt_X12_party_1 : k_dec cX12_party [(67, .aload_n 0, 1), (68, .iconst 0, 1), (69, .iload_n 1, 1), (70, .aload_n 0, 1), (71, .iload_n 1, 1), (72, .iconst 1, 1), (73, .invokevirtual 214, 3), (76, .invokevirtual 242, 3), (79, .invokevirtual 246, 3), (82, .ireturn, 1)] = true := by decide +kernel
def f_X12_party (p1 : Int32) (M : k_M) : Option (Int32 × k_M) := bd (f_X12_isPlace p1 M) (fun r1 M2 => if r1 = 0 then some (-1, M2) else if (M2.1 76 7) = 0 then some (-4, M2) else bd (f_X12_findFars M2) (fun r3 M4 => rdI M4 82 1100 0 (fun v5 => rdI M4 94 64 ((8 * v5) + p1) (fun v6 => if 0 ≤ v6 then bd (f_X12_its p1 0 M4) (fun r7 M8 => bd (f_X12_shedOf r7 M8) (fun r9 M10 => if 0 ≤ r9 then bd (f_X12_its p1 1 M10) (fun r11 M12 => bd (f_X12_byLeft 0 p1 r11 M12) (fun r13 M14 => bd (f_X12_byRoom 0 r9 r13 M14) (fun r15 M16 => some (r15, M16)))) else some (0, M10))) else some (-3, M4)))))
theorem m_X12_party_0 {Z : k_Z} {G : k_G} (C : k_C Z G RX12 cX12_party (true, 3, 3, 0, 0) (some .int) "party") (p1 : Int32) (M : k_M) : Sm Z G emI (true, 3, 3, 0, 0) (0, 0) 0 [(0, k_ra Z 76), (1, Value.int p1)] [] M (f_X12_party p1 M) := by
  show Sm Z G emI _ _ _ _ _ _ (bd (f_X12_isPlace p1 M) (fun r1 M2 => if r1 = 0 then some (-1, M2) else if (M2.1 76 7) = 0 then some (-4, M2) else bd (f_X12_findFars M2) (fun r3 M4 => rdI M4 82 1100 0 (fun v5 => rdI M4 94 64 ((8 * v5) + p1) (fun v6 => if 0 ≤ v6 then bd (f_X12_its p1 0 M4) (fun r7 M8 => bd (f_X12_shedOf r7 M8) (fun r9 M10 => if 0 ≤ r9 then bd (f_X12_its p1 1 M10) (fun r11 M12 => bd (f_X12_byLeft 0 p1 r11 M12) (fun r13 M14 => bd (f_X12_byRoom 0 r9 r13 M14) (fun r15 M16 => some (r15, M16)))) else some (0, M10))) else some (-3, M4))))))
  refine x_aload_n C (k_dg dt_X12_party_0 0 0 (.aload_n 0) 1 rfl) 0 rfl ?_
  refine x_iload_n C (k_dg dt_X12_party_0 1 1 (.iload_n 1) 1 rfl) 1 rfl ?_
  refine x_callV C (a := 76) (kd := 10) (vs := [Value.int p1]) (rest := []) rfl rfl (by decide) (fun r hr => by cases hr; rfl) (c_X12_isPlace C.2.2.2.2.2.2.2.2.2 G.2.1 p1 M) cy_X12_isPlace lk_RX12_217 im_X12_isPlace se_X12_isPlace (by decide) (by decide) (by decide) (by decide) rfl rfl (Nat.le_of_ble_eq_true rfl) (k_dg dt_X12_party_0 2 2 (.invokevirtual 217) 3 rfl) (fun r1 M2 => ?_)
  show Sm Z G _ _ _ _ [(0, k_ra Z 76), (1, Value.int p1)] [Value.int r1] _ _
  refine x_if_ne C (tgt := 10) (k_dg dt_X12_party_0 3 5 (.ifCond .ne 5) 3 rfl) (by decide) (fun _ => ?_) (fun _ => ?_)
  · refine x_iconst C (v := -1) (k_dg dt_X12_party_0 4 8 (.iconst (-1)) 1 rfl) (by decide) ?_
    exact x_iret C (by decide) (by decide) (k_dg dt_X12_party_0 5 9 (.ireturn) 1 rfl)
  · refine x_aload_n C (k_dg dt_X12_party_0 6 10 (.aload_n 0) 1 rfl) 0 rfl ?_
    refine x_getI C (a := 76) (j := 7) rfl rfl (by decide) fl_RX12_205 rfl (k_dg dt_X12_party_0 7 11 (.getfield 205) 3 rfl) ?_
    refine x_if_ne C (tgt := 20) (k_dg dt_X12_party_0 8 14 (.ifCond .ne 6) 3 rfl) (by decide) (fun _ => ?_) (fun _ => ?_)
    · refine x_bipush C (v := -4) (k_dg dt_X12_party_0 9 17 (.bipush (-4)) 2 rfl) (by decide) ?_
      exact x_iret C (by decide) (by decide) (k_dg dt_X12_party_0 10 19 (.ireturn) 1 rfl)
    · refine x_aload_n C (k_dg dt_X12_party_0 11 20 (.aload_n 0) 1 rfl) 0 rfl ?_
      refine x_callV C (a := 76) (kd := 10) (vs := []) (rest := []) rfl rfl (by decide) (fun r hr => by cases hr; rfl) (c_X12_findFars C.2.2.2.2.2.2.2.2.2 G.2.1 M2) cy_X12_findFars lk_RX12_300 im_X12_findFars se_X12_findFars (by decide) (by decide) (by decide) (by decide) rfl rfl (Nat.le_of_ble_eq_true rfl) (k_dg dt_X12_party_0 12 21 (.invokevirtual 300) 3 rfl) (fun r3 M4 => ?_)
      show Sm Z G _ _ _ _ [(0, k_ra Z 76), (1, Value.int p1)] [] _ _
      refine x_aload_n C (k_dg dt_X12_party_0 13 24 (.aload_n 0) 1 rfl) 0 rfl ?_
      refine x_getR C (a := 76) (j := 34) 94 rfl rfl (by decide) fl_RX12_61 rfl rfl rfl (k_dg dt_X12_party_0 14 25 (.getfield 61) 3 rfl) ?_
      refine x_bipush C (v := 8) (k_dg dt_X12_party_0 15 28 (.bipush 8) 2 rfl) (by decide) ?_
      refine x_aload_n C (k_dg dt_X12_party_0 16 30 (.aload_n 0) 1 rfl) 0 rfl ?_
      refine x_getR C (a := 76) (j := 10) 82 rfl rfl (by decide) fl_RX12_25 rfl rfl rfl (k_dg dt_X12_party_0 17 31 (.getfield 25) 3 rfl) ?_
      refine x_iconst C (v := 0) (k_dg dt_X12_party_0 18 34 (.iconst 0) 1 rfl) (by decide) ?_
      refine x_iald C (a := 82) (n := 1100) rfl rfl (k_dg dt_X12_party_0 19 35 (.iaload) 1 rfl) (fun v5 => ?_)
      refine x_imul C (k_dg dt_X12_party_0 20 36 (.imul) 1 rfl) ?_
      refine x_iload_n C (k_dg dt_X12_party_0 21 37 (.iload_n 1) 1 rfl) 1 rfl ?_
      refine x_iadd C (k_dg dt_X12_party_0 22 38 (.iadd) 1 rfl) ?_
      refine x_iald C (a := 94) (n := 64) rfl rfl (k_dg dt_X12_party_0 23 39 (.iaload) 1 rfl) (fun v6 => ?_)
      refine x_if_ge C (tgt := 46) (k_dg dt_X12_party_0 24 40 (.ifCond .ge 6) 3 rfl) (by decide) (fun _ => ?_) (fun _ => ?_)
      · refine x_aload_n C (k_dg dt_X12_party_0 27 46 (.aload_n 0) 1 rfl) 0 rfl ?_
        refine x_iload_n C (k_dg dt_X12_party_0 28 47 (.iload_n 1) 1 rfl) 1 rfl ?_
        refine x_iconst C (v := 0) (k_dg dt_X12_party_0 29 48 (.iconst 0) 1 rfl) (by decide) ?_
        refine x_callV C (a := 76) (kd := 10) (vs := [Value.int p1, Value.int 0]) (rest := []) rfl rfl (by decide) (fun r hr => by cases hr; rfl) (c_X12_its C.2.2.2.2.2.2.2.2.2 G.2.1 p1 0 M4) cy_X12_its lk_RX12_214 im_X12_its se_X12_its (by decide) (by decide) (by decide) (by decide) rfl rfl (Nat.le_of_ble_eq_true rfl) (k_dg dt_X12_party_0 30 49 (.invokevirtual 214) 3 rfl) (fun r7 M8 => ?_)
        show Sm Z G _ _ _ _ [(0, k_ra Z 76), (1, Value.int p1)] [Value.int r7] _ _
        refine x_callS C (vs := [Value.int r7]) (rest := []) (c_X12_shedOf C.2.2.2.2.2.2.2.2.2 G.2.1 r7 M8) cy_X12_shedOf lk_RX12_235 stt_X12_shedOf (by decide) (by decide) (by decide) (by decide) rfl rfl (Nat.le_of_ble_eq_true rfl) (k_dg dt_X12_party_0 31 52 (.invokestatic 235) 3 rfl) (fun r9 M10 => ?_)
        show Sm Z G _ _ _ _ [(0, k_ra Z 76), (1, Value.int p1)] [Value.int r9] _ _
        refine x_istore_n C (lv' := [(2, Value.int r9), (0, k_ra Z 76), (1, Value.int p1)]) (k_dg dt_X12_party_0 32 55 (.istore_n 2) 1 rfl) (by decide) rfl ?_
        refine x_iload_n C (k_dg dt_X12_party_0 33 56 (.iload_n 2) 1 rfl) 0 rfl ?_
        refine x_if_ge C (tgt := 64) (k_dg dt_X12_party_0 34 57 (.ifCond .ge 7) 3 rfl) (by decide) (fun _ => ?_) (fun _ => ?_)
        · refine x_aload_n C (k_dg dt_X12_party_0 37 64 (.aload_n 0) 1 rfl) 1 rfl ?_
          refine x_iconst C (v := 0) (k_dg dt_X12_party_0 38 65 (.iconst 0) 1 rfl) (by decide) ?_
          refine x_iload_n C (k_dg dt_X12_party_0 39 66 (.iload_n 2) 1 rfl) 0 rfl ?_
          refine x_aload_n C (k_dg dt_X12_party_1 0 67 (.aload_n 0) 1 rfl) 1 rfl ?_
          refine x_iconst C (v := 0) (k_dg dt_X12_party_1 1 68 (.iconst 0) 1 rfl) (by decide) ?_
          refine x_iload_n C (k_dg dt_X12_party_1 2 69 (.iload_n 1) 1 rfl) 2 rfl ?_
          refine x_aload_n C (k_dg dt_X12_party_1 3 70 (.aload_n 0) 1 rfl) 1 rfl ?_
          refine x_iload_n C (k_dg dt_X12_party_1 4 71 (.iload_n 1) 1 rfl) 2 rfl ?_
          refine x_iconst C (v := 1) (k_dg dt_X12_party_1 5 72 (.iconst 1) 1 rfl) (by decide) ?_
          refine x_callV C (a := 76) (kd := 10) (vs := [Value.int p1, Value.int 1]) (rest := [Value.int p1, Value.int 0, k_ra Z 76, Value.int r9, Value.int 0, k_ra Z 76]) rfl rfl (by decide) (fun r hr => by cases hr; rfl) (c_X12_its C.2.2.2.2.2.2.2.2.2 G.2.1 p1 1 M10) cy_X12_its lk_RX12_214 im_X12_its se_X12_its (by decide) (by decide) (by decide) (by decide) rfl rfl (Nat.le_of_ble_eq_true rfl) (k_dg dt_X12_party_1 6 73 (.invokevirtual 214) 3 rfl) (fun r11 M12 => ?_)
          show Sm Z G _ _ _ _ [(2, Value.int r9), (0, k_ra Z 76), (1, Value.int p1)] [Value.int r11, Value.int p1, Value.int 0, k_ra Z 76, Value.int r9, Value.int 0, k_ra Z 76] _ _
          refine x_callV C (a := 76) (kd := 10) (vs := [Value.int 0, Value.int p1, Value.int r11]) (rest := [Value.int r9, Value.int 0, k_ra Z 76]) rfl rfl (by decide) (fun r hr => by cases hr; rfl) (c_X12_byLeft C.2.2.2.2.2.2.2.2.2 G.2.1 0 p1 r11 M12) cy_X12_byLeft lk_RX12_242 im_X12_byLeft se_X12_byLeft (by decide) (by decide) (by decide) (by decide) rfl rfl (Nat.le_of_ble_eq_true rfl) (k_dg dt_X12_party_1 7 76 (.invokevirtual 242) 3 rfl) (fun r13 M14 => ?_)
          show Sm Z G _ _ _ _ [(2, Value.int r9), (0, k_ra Z 76), (1, Value.int p1)] [Value.int r13, Value.int r9, Value.int 0, k_ra Z 76] _ _
          refine x_callV C (a := 76) (kd := 10) (vs := [Value.int 0, Value.int r9, Value.int r13]) (rest := []) rfl rfl (by decide) (fun r hr => by cases hr; rfl) (c_X12_byRoom C.2.2.2.2.2.2.2.2.2 G.2.1 0 r9 r13 M14) cy_X12_byRoom lk_RX12_246 im_X12_byRoom se_X12_byRoom (by decide) (by decide) (by decide) (by decide) rfl rfl (Nat.le_of_ble_eq_true rfl) (k_dg dt_X12_party_1 8 79 (.invokevirtual 246) 3 rfl) (fun r15 M16 => ?_)
          show Sm Z G _ _ _ _ [(2, Value.int r9), (0, k_ra Z 76), (1, Value.int p1)] [Value.int r15] _ _
          exact x_iret C (by decide) (by decide) (k_dg dt_X12_party_1 9 82 (.ireturn) 1 rfl)
        · refine x_iconst C (v := 0) (k_dg dt_X12_party_0 35 60 (.iconst 0) 1 rfl) (by decide) ?_
          refine x_goto C (tgt := 82) (k_dg dt_X12_party_0 36 61 (.goto 21) 3 rfl) (by decide) ?_
          exact x_iret C (by decide) (by decide) (k_dg dt_X12_party_1 9 82 (.ireturn) 1 rfl)
      · refine x_bipush C (v := -3) (k_dg dt_X12_party_0 25 43 (.bipush (-3)) 2 rfl) (by decide) ?_
        exact x_iret C (by decide) (by decide) (k_dg dt_X12_party_0 26 45 (.ireturn) 1 rfl)
theorem c_X12_party {Z : k_Z} (hg : k_Gd Z) (l : Launch) (p1 : Int32) (M : k_M) : Con true Z l yX12_party cX12_party 3 (some .int) 3 0 0 emI [k_ra Z 76, Value.int p1] M (f_X12_party p1 M) := k_con hg (by decide) (Nat.le_of_ble_eq_true rfl) (fun G hl C => m_X12_party_0 C p1 M)
theorem dt_X12_gate_0 : k_dec cX12_gate [(0, .aload_n 0, 1), (1, .iload_n 1, 1), (2, .invokevirtual 223, 3), (5, .ifCond .eq 14, 3), (8, .iload_n 2, 1), (9, .iconst 0, 1), (10, .sipush 999, 3), (13, .invokestatic 99, 3), (16, .ifCond .ne 5, 3), (19, .iconst (-1), 1), (20, .ireturn, 1), (21, .iload_n 2, 1), (22, .istore_n 3, 1), (23, .iload_n 3, 1), (24, .iload_n 2, 1), (25, .bipush 20, 2), (27, .iadd, 1), (28, .if_icmp .gt 28, 3), (31, .aload_n 0, 1), (32, .iload_n 1, 1), (33, .iconst 4, 1), (34, .invokevirtual 106, 3), (37, .iload_n 3, 1), (38, .invokestatic 229, 3), (41, .ishr, 1), (42, .iconst 1, 1), (43, .iand, 1), (44, .iconst 1, 1), (45, .if_icmp .ne 5, 3), (48, .iload_n 3, 1), (49, .ireturn, 1), (50, .iinc 3 1, 3), (53, .goto (-30), 3), (56, .bipush (-3), 2), (58, .ireturn, 1)] = true := by decide +kernel
def f_X12_gate_23 : Nat → Int32 → Int32 → Int32 → k_M → (Int32 → k_M → Option (Int32 × k_M)) → (k_M → Option (Int32 × k_M)) → Option (Int32 × k_M)
  | 0, _, _, _, _, _, _ => none
  | n + 1, l1, l2, l3, M, kx48, kx56 => if (l2 + 20) < l3 then kx56 M else bd (f_X12_wayIts l1 4 M) (fun r1 M2 => bd (f_X12_monthOf l3 M2) (fun r3 M4 => if ((r1 >>> (r3 &&& 31)) &&& 1) = 1 then kx48 l3 M4 else f_X12_gate_23 n l1 l2 (l3 + 1) M4 kx48 kx56))
theorem m_X12_gate_23 {Z : k_Z} {G : k_G} (C : k_C Z G RX12 cX12_gate (true, 4, 3, 0, 0) (some .int) "gate") (kx48 : Int32 → k_M → Option (Int32 × k_M)) (kx56 : k_M → Option (Int32 × k_M)) (Hx48 : ∀ (l3 : Int32) (M : k_M), Sm Z G emI (true, 4, 3, 0, 0) (0, 0) 48 [(3, Value.int l3)] [] M (kx48 l3 M)) (Hx56 : ∀ (M : k_M), Sm Z G emI (true, 4, 3, 0, 0) (0, 0) 56 [] [] M (kx56 M)) : ∀ (n : Nat) (l1 : Int32) (l2 : Int32) (l3 : Int32) (M : k_M), Sm Z G emI (true, 4, 3, 0, 0) (0, 0) 23 [(0, k_ra Z 76), (1, Value.int l1), (2, Value.int l2), (3, Value.int l3)] [] M (f_X12_gate_23 n l1 l2 l3 M kx48 kx56)
  | 0, _, _, _, _ => x_none
  | n + 1, l1, l2, l3, M => by
    have ih := m_X12_gate_23 C kx48 kx56 Hx48 Hx56 n
    show Sm Z G emI _ _ _ _ _ _ (if (l2 + 20) < l3 then kx56 M else bd (f_X12_wayIts l1 4 M) (fun r1 M2 => bd (f_X12_monthOf l3 M2) (fun r3 M4 => if ((r1 >>> (r3 &&& 31)) &&& 1) = 1 then kx48 l3 M4 else f_X12_gate_23 n l1 l2 (l3 + 1) M4 kx48 kx56)))
    refine x_iload_n C (k_dg dt_X12_gate_0 13 23 (.iload_n 3) 1 rfl) 3 rfl ?_
    refine x_iload_n C (k_dg dt_X12_gate_0 14 24 (.iload_n 2) 1 rfl) 2 rfl ?_
    refine x_bipush C (v := 20) (k_dg dt_X12_gate_0 15 25 (.bipush 20) 2 rfl) (by decide) ?_
    refine x_iadd C (k_dg dt_X12_gate_0 16 27 (.iadd) 1 rfl) ?_
    refine x_icmp_gt C (tgt := 56) (k_dg dt_X12_gate_0 17 28 (.if_icmp .gt 28) 3 rfl) (by decide) (fun _ => ?_) (fun _ => ?_)
    · refine x_lv [] rfl ?_
      exact Hx56 M
    · refine x_aload_n C (k_dg dt_X12_gate_0 18 31 (.aload_n 0) 1 rfl) 0 rfl ?_
      refine x_iload_n C (k_dg dt_X12_gate_0 19 32 (.iload_n 1) 1 rfl) 1 rfl ?_
      refine x_iconst C (v := 4) (k_dg dt_X12_gate_0 20 33 (.iconst 4) 1 rfl) (by decide) ?_
      refine x_callV C (a := 76) (kd := 10) (vs := [Value.int l1, Value.int 4]) (rest := []) rfl rfl (by decide) (fun r hr => by cases hr; rfl) (c_X12_wayIts C.2.2.2.2.2.2.2.2.2 G.2.1 l1 4 M) cy_X12_wayIts lk_RX12_106 im_X12_wayIts se_X12_wayIts (by decide) (by decide) (by decide) (by decide) rfl rfl (Nat.le_of_ble_eq_true rfl) (k_dg dt_X12_gate_0 21 34 (.invokevirtual 106) 3 rfl) (fun r1 M2 => ?_)
      show Sm Z G _ _ _ _ [(0, k_ra Z 76), (1, Value.int l1), (2, Value.int l2), (3, Value.int l3)] [Value.int r1] _ _
      refine x_iload_n C (k_dg dt_X12_gate_0 22 37 (.iload_n 3) 1 rfl) 3 rfl ?_
      refine x_callS C (vs := [Value.int l3]) (rest := [Value.int r1]) (c_X12_monthOf C.2.2.2.2.2.2.2.2.2 G.2.1 l3 M2) cy_X12_monthOf lk_RX12_229 stt_X12_monthOf (by decide) (by decide) (by decide) (by decide) rfl rfl (Nat.le_of_ble_eq_true rfl) (k_dg dt_X12_gate_0 23 38 (.invokestatic 229) 3 rfl) (fun r3 M4 => ?_)
      show Sm Z G _ _ _ _ [(0, k_ra Z 76), (1, Value.int l1), (2, Value.int l2), (3, Value.int l3)] [Value.int r3, Value.int r1] _ _
      refine x_ishr C (k_dg dt_X12_gate_0 24 41 (.ishr) 1 rfl) ?_
      refine x_iconst C (v := 1) (k_dg dt_X12_gate_0 25 42 (.iconst 1) 1 rfl) (by decide) ?_
      refine x_iand C (k_dg dt_X12_gate_0 26 43 (.iand) 1 rfl) ?_
      refine x_iconst C (v := 1) (k_dg dt_X12_gate_0 27 44 (.iconst 1) 1 rfl) (by decide) ?_
      refine x_icmp_ne C (tgt := 50) (k_dg dt_X12_gate_0 28 45 (.if_icmp .ne 5) 3 rfl) (by decide) (fun _ => ?_) (fun _ => ?_)
      · refine x_lv [3] rfl ?_
        exact Hx48 l3 M4
      · refine x_iinc C (v := 1) (lv' := [(3, Value.int (l3 + 1)), (0, k_ra Z 76), (1, Value.int l1), (2, Value.int l2)]) (k_dg dt_X12_gate_0 31 50 (.iinc 3 1) 3 rfl) 3 rfl (by decide) (by decide) rfl ?_
        refine x_goto C (tgt := 23) (k_dg dt_X12_gate_0 32 53 (.goto (-30)) 3 rfl) (by decide) ?_
        refine x_lv [1, 2, 3, 0] rfl ?_
        exact ih l1 l2 (l3 + 1) M4
def f_X12_gate_48 (l3 : Int32) (M : k_M) : Option (Int32 × k_M) := some (l3, M)
theorem m_X12_gate_48 {Z : k_Z} {G : k_G} (C : k_C Z G RX12 cX12_gate (true, 4, 3, 0, 0) (some .int) "gate") (l3 : Int32) (M : k_M) : Sm Z G emI (true, 4, 3, 0, 0) (0, 0) 48 [(3, Value.int l3)] [] M (f_X12_gate_48 l3 M) := by
  show Sm Z G emI _ _ _ _ _ _ (some (l3, M))
  refine x_iload_n C (k_dg dt_X12_gate_0 29 48 (.iload_n 3) 1 rfl) 0 rfl ?_
  exact x_iret C (by decide) (by decide) (k_dg dt_X12_gate_0 30 49 (.ireturn) 1 rfl)
def f_X12_gate_56 (M : k_M) : Option (Int32 × k_M) := some (-3, M)
theorem m_X12_gate_56 {Z : k_Z} {G : k_G} (C : k_C Z G RX12 cX12_gate (true, 4, 3, 0, 0) (some .int) "gate") (M : k_M) : Sm Z G emI (true, 4, 3, 0, 0) (0, 0) 56 [] [] M (f_X12_gate_56 M) := by
  show Sm Z G emI _ _ _ _ _ _ (some (-3, M))
  refine x_bipush C (v := -3) (k_dg dt_X12_gate_0 33 56 (.bipush (-3)) 2 rfl) (by decide) ?_
  exact x_iret C (by decide) (by decide) (k_dg dt_X12_gate_0 34 58 (.ireturn) 1 rfl)
def f_X12_gate (p1 : Int32) (p2 : Int32) (M : k_M) : Option (Int32 × k_M) := bd (f_X12_isWay p1 M) (fun r1 M2 => if r1 = 0 then some (-1, M2) else bd (f_X12_in p2 0 999 M2) (fun r3 M4 => if r3 = 0 then some (-1, M4) else f_X12_gate_23 k_fu p1 p2 p2 M4 (fun l3_ M_ => f_X12_gate_48 l3_ M_) (fun M_ => f_X12_gate_56 M_)))
theorem m_X12_gate_0 {Z : k_Z} {G : k_G} (C : k_C Z G RX12 cX12_gate (true, 4, 3, 0, 0) (some .int) "gate") (p1 : Int32) (p2 : Int32) (M : k_M) : Sm Z G emI (true, 4, 3, 0, 0) (0, 0) 0 [(0, k_ra Z 76), (1, Value.int p1), (2, Value.int p2)] [] M (f_X12_gate p1 p2 M) := by
  show Sm Z G emI _ _ _ _ _ _ (bd (f_X12_isWay p1 M) (fun r1 M2 => if r1 = 0 then some (-1, M2) else bd (f_X12_in p2 0 999 M2) (fun r3 M4 => if r3 = 0 then some (-1, M4) else f_X12_gate_23 k_fu p1 p2 p2 M4 (fun l3_ M_ => f_X12_gate_48 l3_ M_) (fun M_ => f_X12_gate_56 M_))))
  refine x_aload_n C (k_dg dt_X12_gate_0 0 0 (.aload_n 0) 1 rfl) 0 rfl ?_
  refine x_iload_n C (k_dg dt_X12_gate_0 1 1 (.iload_n 1) 1 rfl) 1 rfl ?_
  refine x_callV C (a := 76) (kd := 10) (vs := [Value.int p1]) (rest := []) rfl rfl (by decide) (fun r hr => by cases hr; rfl) (c_X12_isWay C.2.2.2.2.2.2.2.2.2 G.2.1 p1 M) cy_X12_isWay lk_RX12_223 im_X12_isWay se_X12_isWay (by decide) (by decide) (by decide) (by decide) rfl rfl (Nat.le_of_ble_eq_true rfl) (k_dg dt_X12_gate_0 2 2 (.invokevirtual 223) 3 rfl) (fun r1 M2 => ?_)
  show Sm Z G _ _ _ _ [(0, k_ra Z 76), (1, Value.int p1), (2, Value.int p2)] [Value.int r1] _ _
  refine x_if_eq C (tgt := 19) (k_dg dt_X12_gate_0 3 5 (.ifCond .eq 14) 3 rfl) (by decide) (fun _ => ?_) (fun _ => ?_)
  · refine x_iconst C (v := -1) (k_dg dt_X12_gate_0 9 19 (.iconst (-1)) 1 rfl) (by decide) ?_
    exact x_iret C (by decide) (by decide) (k_dg dt_X12_gate_0 10 20 (.ireturn) 1 rfl)
  · refine x_iload_n C (k_dg dt_X12_gate_0 4 8 (.iload_n 2) 1 rfl) 2 rfl ?_
    refine x_iconst C (v := 0) (k_dg dt_X12_gate_0 5 9 (.iconst 0) 1 rfl) (by decide) ?_
    refine x_sipush C (v := 999) (k_dg dt_X12_gate_0 6 10 (.sipush 999) 3 rfl) (by decide) ?_
    refine x_callS C (vs := [Value.int p2, Value.int 0, Value.int 999]) (rest := []) (c_X12_in C.2.2.2.2.2.2.2.2.2 G.2.1 p2 0 999 M2) cy_X12_in lk_RX12_99 stt_X12_in (by decide) (by decide) (by decide) (by decide) rfl rfl (Nat.le_of_ble_eq_true rfl) (k_dg dt_X12_gate_0 7 13 (.invokestatic 99) 3 rfl) (fun r3 M4 => ?_)
    show Sm Z G _ _ _ _ [(0, k_ra Z 76), (1, Value.int p1), (2, Value.int p2)] [Value.int r3] _ _
    refine x_if_ne C (tgt := 21) (k_dg dt_X12_gate_0 8 16 (.ifCond .ne 5) 3 rfl) (by decide) (fun _ => ?_) (fun _ => ?_)
    · refine x_iconst C (v := -1) (k_dg dt_X12_gate_0 9 19 (.iconst (-1)) 1 rfl) (by decide) ?_
      exact x_iret C (by decide) (by decide) (k_dg dt_X12_gate_0 10 20 (.ireturn) 1 rfl)
    · refine x_iload_n C (k_dg dt_X12_gate_0 11 21 (.iload_n 2) 1 rfl) 2 rfl ?_
      refine x_istore_n C (lv' := [(3, Value.int p2), (0, k_ra Z 76), (1, Value.int p1), (2, Value.int p2)]) (k_dg dt_X12_gate_0 12 22 (.istore_n 3) 1 rfl) (by decide) rfl ?_
      refine x_lv [1, 2, 3, 0] rfl ?_
      exact m_X12_gate_23 C (fun l3_ M_ => f_X12_gate_48 l3_ M_) (fun M_ => f_X12_gate_56 M_) (fun l3_ M_ => m_X12_gate_48 C l3_ M_) (fun M_ => m_X12_gate_56 C M_) k_fu p1 p2 p2 M4
theorem c_X12_gate {Z : k_Z} (hg : k_Gd Z) (l : Launch) (p1 : Int32) (p2 : Int32) (M : k_M) : Con true Z l yX12_gate cX12_gate 4 (some .int) 3 0 0 emI [k_ra Z 76, Value.int p1, Value.int p2] M (f_X12_gate p1 p2 M) := k_con hg (by decide) (Nat.le_of_ble_eq_true rfl) (fun G hl C => m_X12_gate_0 C p1 p2 M)
theorem dt_X12_isForEver_0 : k_dec cX12_isForEver [(0, .aload_n 0, 1), (1, .getfield 25, 3), (4, .bipush 25, 2), (6, .iload_n 1, 1), (7, .imul, 1), (8, .iaload, 1), (9, .aload_n 0, 1), (10, .getfield 25, 3), (13, .iconst 0, 1), (14, .iaload, 1), (15, .if_icmp .ne 7, 3), (18, .iconst 1, 1), (19, .goto 4, 3), (22, .iconst 0, 1), (23, .istore_n 2, 1), (24, .iconst 2, 1), (25, .istore_n 3, 1), (26, .iload_n 3, 1), (27, .bipush 13, 2), (29, .aload_n 0, 1), (30, .getfield 103, 3), (33, .iadd, 1), (34, .if_icmp .ge 55, 3), (37, .iload_n 2, 1), (38, .ifCond .eq 43, 3), (41, .aload_n 0, 1), (42, .getfield 25, 3), (45, .bipush 25, 2), (47, .iload_n 1, 1), (48, .imul, 1), (49, .iload_n 3, 1), (50, .iadd, 1), (51, .iaload, 1), (52, .aload_n 0, 1), (53, .getfield 25, 3), (56, .iload_n 3, 1), (57, .iaload, 1), (58, .if_icmp .ge 19, 3), (61, .iload_n 3, 1), (62, .iconst 5, 1)] = true := by decide +kernel
theorem dt_X12_isForEver_1 : k_dec cX12_isForEver [(63, .aload_n 0, 1), (64, .getfield 95, 3), (67, .iadd, 1), (68, .if_icmp .lt 13, 3), (71, .iload_n 3, 1), (72, .bipush 13, 2), (74, .if_icmp .ge 7, 3), (77, .iconst 1, 1), (78, .goto 4, 3), (81, .iconst 0, 1), (82, .istore_n 2, 1), (83, .iinc 3 1, 3), (86, .goto (-60), 3), (89, .iload_n 2, 1), (90, .ireturn, 1)] = true := by decide +kernel
def f_X12_isForEver_82 (l1 : Int32) (l3 : Int32) (t0 : Int32) (M : k_M) (kb : Int32 → Int32 → Int32 → k_M → Option (Int32 × k_M)) (kx89 : Int32 → k_M → Option (Int32 × k_M)) : Option (Int32 × k_M) := kb l1 t0 (l3 + 1) M
theorem m_X12_isForEver_82 {Z : k_Z} {G : k_G} (C : k_C Z G RX12 cX12_isForEver (true, 4, 1, 0, 0) (some .boolean) "isForEver") (kb : Int32 → Int32 → Int32 → k_M → Option (Int32 × k_M)) (kx89 : Int32 → k_M → Option (Int32 × k_M)) (Hb : ∀ (l1 : Int32) (l2 : Int32) (l3 : Int32) (M : k_M), Sm Z G emI (true, 4, 1, 0, 0) (0, 0) 26 [(0, k_ra Z 76), (1, Value.int l1), (2, Value.int l2), (3, Value.int l3)] [] M (kb l1 l2 l3 M)) (Hx89 : ∀ (l2 : Int32) (M : k_M), Sm Z G emI (true, 4, 1, 0, 0) (0, 0) 89 [(2, Value.int l2)] [] M (kx89 l2 M)) (l1 : Int32) (l3 : Int32) (t0 : Int32) (M : k_M) : Sm Z G emI (true, 4, 1, 0, 0) (0, 0) 82 [(0, k_ra Z 76), (1, Value.int l1), (3, Value.int l3)] [Value.int t0] M (f_X12_isForEver_82 l1 l3 t0 M kb kx89) := by
  show Sm Z G emI _ _ _ _ _ _ (kb l1 t0 (l3 + 1) M)
  refine x_istore_n C (lv' := [(2, Value.int t0), (0, k_ra Z 76), (1, Value.int l1), (3, Value.int l3)]) (k_dg dt_X12_isForEver_1 10 82 (.istore_n 2) 1 rfl) (by decide) rfl ?_
  refine x_iinc C (v := 1) (lv' := [(3, Value.int (l3 + 1)), (2, Value.int t0), (0, k_ra Z 76), (1, Value.int l1)]) (k_dg dt_X12_isForEver_1 11 83 (.iinc 3 1) 3 rfl) 3 rfl (by decide) (by decide) rfl ?_
  refine x_goto C (tgt := 26) (k_dg dt_X12_isForEver_1 12 86 (.goto (-60)) 3 rfl) (by decide) ?_
  refine x_lv [2, 3, 1, 0] rfl ?_
  exact Hb l1 t0 (l3 + 1) M
def f_X12_isForEver_77 (l1 : Int32) (l3 : Int32) (M : k_M) (kb : Int32 → Int32 → Int32 → k_M → Option (Int32 × k_M)) (kx89 : Int32 → k_M → Option (Int32 × k_M)) : Option (Int32 × k_M) := f_X12_isForEver_82 l1 l3 1 M kb kx89
theorem m_X12_isForEver_77 {Z : k_Z} {G : k_G} (C : k_C Z G RX12 cX12_isForEver (true, 4, 1, 0, 0) (some .boolean) "isForEver") (kb : Int32 → Int32 → Int32 → k_M → Option (Int32 × k_M)) (kx89 : Int32 → k_M → Option (Int32 × k_M)) (Hb : ∀ (l1 : Int32) (l2 : Int32) (l3 : Int32) (M : k_M), Sm Z G emI (true, 4, 1, 0, 0) (0, 0) 26 [(0, k_ra Z 76), (1, Value.int l1), (2, Value.int l2), (3, Value.int l3)] [] M (kb l1 l2 l3 M)) (Hx89 : ∀ (l2 : Int32) (M : k_M), Sm Z G emI (true, 4, 1, 0, 0) (0, 0) 89 [(2, Value.int l2)] [] M (kx89 l2 M)) (l1 : Int32) (l3 : Int32) (M : k_M) : Sm Z G emI (true, 4, 1, 0, 0) (0, 0) 77 [(0, k_ra Z 76), (1, Value.int l1), (3, Value.int l3)] [] M (f_X12_isForEver_77 l1 l3 M kb kx89) := by
  show Sm Z G emI _ _ _ _ _ _ (f_X12_isForEver_82 l1 l3 1 M kb kx89)
  refine x_iconst C (v := 1) (k_dg dt_X12_isForEver_1 7 77 (.iconst 1) 1 rfl) (by decide) ?_
  refine x_goto C (tgt := 82) (k_dg dt_X12_isForEver_1 8 78 (.goto 4) 3 rfl) (by decide) ?_
  exact m_X12_isForEver_82 C kb kx89 Hb Hx89 l1 l3 1 M
def f_X12_isForEver_81 (l1 : Int32) (l3 : Int32) (M : k_M) (kb : Int32 → Int32 → Int32 → k_M → Option (Int32 × k_M)) (kx89 : Int32 → k_M → Option (Int32 × k_M)) : Option (Int32 × k_M) := f_X12_isForEver_82 l1 l3 0 M kb kx89
theorem m_X12_isForEver_81 {Z : k_Z} {G : k_G} (C : k_C Z G RX12 cX12_isForEver (true, 4, 1, 0, 0) (some .boolean) "isForEver") (kb : Int32 → Int32 → Int32 → k_M → Option (Int32 × k_M)) (kx89 : Int32 → k_M → Option (Int32 × k_M)) (Hb : ∀ (l1 : Int32) (l2 : Int32) (l3 : Int32) (M : k_M), Sm Z G emI (true, 4, 1, 0, 0) (0, 0) 26 [(0, k_ra Z 76), (1, Value.int l1), (2, Value.int l2), (3, Value.int l3)] [] M (kb l1 l2 l3 M)) (Hx89 : ∀ (l2 : Int32) (M : k_M), Sm Z G emI (true, 4, 1, 0, 0) (0, 0) 89 [(2, Value.int l2)] [] M (kx89 l2 M)) (l1 : Int32) (l3 : Int32) (M : k_M) : Sm Z G emI (true, 4, 1, 0, 0) (0, 0) 81 [(0, k_ra Z 76), (1, Value.int l1), (3, Value.int l3)] [] M (f_X12_isForEver_81 l1 l3 M kb kx89) := by
  show Sm Z G emI _ _ _ _ _ _ (f_X12_isForEver_82 l1 l3 0 M kb kx89)
  refine x_iconst C (v := 0) (k_dg dt_X12_isForEver_1 9 81 (.iconst 0) 1 rfl) (by decide) ?_
  exact m_X12_isForEver_82 C kb kx89 Hb Hx89 l1 l3 0 M
def f_X12_isForEver_26 : Nat → Int32 → Int32 → Int32 → k_M → (Int32 → k_M → Option (Int32 × k_M)) → Option (Int32 × k_M)
  | 0, _, _, _, _, _ => none
  | n + 1, l1, l2, l3, M, kx89 => if (13 + (M.1 76 2)) ≤ l3 then kx89 l2 M else if l2 = 0 then f_X12_isForEver_81 l1 l3 M ((fun l1_ l2_ l3_ M_ => f_X12_isForEver_26 n l1_ l2_ l3_ M_ kx89)) kx89 else rdI M 82 1100 ((25 * l1) + l3) (fun v1 => rdI M 82 1100 l3 (fun v2 => if v2 ≤ v1 then f_X12_isForEver_77 l1 l3 M ((fun l1_ l2_ l3_ M_ => f_X12_isForEver_26 n l1_ l2_ l3_ M_ kx89)) kx89 else if l3 < (5 + (M.1 76 0)) then f_X12_isForEver_81 l1 l3 M ((fun l1_ l2_ l3_ M_ => f_X12_isForEver_26 n l1_ l2_ l3_ M_ kx89)) kx89 else if 13 ≤ l3 then f_X12_isForEver_81 l1 l3 M ((fun l1_ l2_ l3_ M_ => f_X12_isForEver_26 n l1_ l2_ l3_ M_ kx89)) kx89 else f_X12_isForEver_77 l1 l3 M ((fun l1_ l2_ l3_ M_ => f_X12_isForEver_26 n l1_ l2_ l3_ M_ kx89)) kx89))
theorem m_X12_isForEver_26 {Z : k_Z} {G : k_G} (C : k_C Z G RX12 cX12_isForEver (true, 4, 1, 0, 0) (some .boolean) "isForEver") (kx89 : Int32 → k_M → Option (Int32 × k_M)) (Hx89 : ∀ (l2 : Int32) (M : k_M), Sm Z G emI (true, 4, 1, 0, 0) (0, 0) 89 [(2, Value.int l2)] [] M (kx89 l2 M)) : ∀ (n : Nat) (l1 : Int32) (l2 : Int32) (l3 : Int32) (M : k_M), Sm Z G emI (true, 4, 1, 0, 0) (0, 0) 26 [(0, k_ra Z 76), (1, Value.int l1), (2, Value.int l2), (3, Value.int l3)] [] M (f_X12_isForEver_26 n l1 l2 l3 M kx89)
  | 0, _, _, _, _ => x_none
  | n + 1, l1, l2, l3, M => by
    have ih := m_X12_isForEver_26 C kx89 Hx89 n
    show Sm Z G emI _ _ _ _ _ _ (if (13 + (M.1 76 2)) ≤ l3 then kx89 l2 M else if l2 = 0 then f_X12_isForEver_81 l1 l3 M ((fun l1_ l2_ l3_ M_ => f_X12_isForEver_26 n l1_ l2_ l3_ M_ kx89)) kx89 else rdI M 82 1100 ((25 * l1) + l3) (fun v1 => rdI M 82 1100 l3 (fun v2 => if v2 ≤ v1 then f_X12_isForEver_77 l1 l3 M ((fun l1_ l2_ l3_ M_ => f_X12_isForEver_26 n l1_ l2_ l3_ M_ kx89)) kx89 else if l3 < (5 + (M.1 76 0)) then f_X12_isForEver_81 l1 l3 M ((fun l1_ l2_ l3_ M_ => f_X12_isForEver_26 n l1_ l2_ l3_ M_ kx89)) kx89 else if 13 ≤ l3 then f_X12_isForEver_81 l1 l3 M ((fun l1_ l2_ l3_ M_ => f_X12_isForEver_26 n l1_ l2_ l3_ M_ kx89)) kx89 else f_X12_isForEver_77 l1 l3 M ((fun l1_ l2_ l3_ M_ => f_X12_isForEver_26 n l1_ l2_ l3_ M_ kx89)) kx89)))
    refine x_iload_n C (k_dg dt_X12_isForEver_0 17 26 (.iload_n 3) 1 rfl) 3 rfl ?_
    refine x_bipush C (v := 13) (k_dg dt_X12_isForEver_0 18 27 (.bipush 13) 2 rfl) (by decide) ?_
    refine x_aload_n C (k_dg dt_X12_isForEver_0 19 29 (.aload_n 0) 1 rfl) 0 rfl ?_
    refine x_getI C (a := 76) (j := 2) rfl rfl (by decide) fl_RX12_103 rfl (k_dg dt_X12_isForEver_0 20 30 (.getfield 103) 3 rfl) ?_
    refine x_iadd C (k_dg dt_X12_isForEver_0 21 33 (.iadd) 1 rfl) ?_
    refine x_icmp_ge C (tgt := 89) (k_dg dt_X12_isForEver_0 22 34 (.if_icmp .ge 55) 3 rfl) (by decide) (fun _ => ?_) (fun _ => ?_)
    · refine x_lv [2] rfl ?_
      exact Hx89 l2 M
    · refine x_iload_n C (k_dg dt_X12_isForEver_0 23 37 (.iload_n 2) 1 rfl) 2 rfl ?_
      refine x_if_eq C (tgt := 81) (k_dg dt_X12_isForEver_0 24 38 (.ifCond .eq 43) 3 rfl) (by decide) (fun _ => ?_) (fun _ => ?_)
      · refine x_lv [0, 1, 3] rfl ?_
        exact m_X12_isForEver_81 C ((fun l1_ l2_ l3_ M_ => f_X12_isForEver_26 n l1_ l2_ l3_ M_ kx89)) kx89 ih Hx89 l1 l3 M
      · refine x_aload_n C (k_dg dt_X12_isForEver_0 25 41 (.aload_n 0) 1 rfl) 0 rfl ?_
        refine x_getR C (a := 76) (j := 10) 82 rfl rfl (by decide) fl_RX12_25 rfl rfl rfl (k_dg dt_X12_isForEver_0 26 42 (.getfield 25) 3 rfl) ?_
        refine x_bipush C (v := 25) (k_dg dt_X12_isForEver_0 27 45 (.bipush 25) 2 rfl) (by decide) ?_
        refine x_iload_n C (k_dg dt_X12_isForEver_0 28 47 (.iload_n 1) 1 rfl) 1 rfl ?_
        refine x_imul C (k_dg dt_X12_isForEver_0 29 48 (.imul) 1 rfl) ?_
        refine x_iload_n C (k_dg dt_X12_isForEver_0 30 49 (.iload_n 3) 1 rfl) 3 rfl ?_
        refine x_iadd C (k_dg dt_X12_isForEver_0 31 50 (.iadd) 1 rfl) ?_
        refine x_iald C (a := 82) (n := 1100) rfl rfl (k_dg dt_X12_isForEver_0 32 51 (.iaload) 1 rfl) (fun v1 => ?_)
        refine x_aload_n C (k_dg dt_X12_isForEver_0 33 52 (.aload_n 0) 1 rfl) 0 rfl ?_
        refine x_getR C (a := 76) (j := 10) 82 rfl rfl (by decide) fl_RX12_25 rfl rfl rfl (k_dg dt_X12_isForEver_0 34 53 (.getfield 25) 3 rfl) ?_
        refine x_iload_n C (k_dg dt_X12_isForEver_0 35 56 (.iload_n 3) 1 rfl) 3 rfl ?_
        refine x_iald C (a := 82) (n := 1100) rfl rfl (k_dg dt_X12_isForEver_0 36 57 (.iaload) 1 rfl) (fun v2 => ?_)
        refine x_icmp_ge C (tgt := 77) (k_dg dt_X12_isForEver_0 37 58 (.if_icmp .ge 19) 3 rfl) (by decide) (fun _ => ?_) (fun _ => ?_)
        · refine x_lv [0, 1, 3] rfl ?_
          exact m_X12_isForEver_77 C ((fun l1_ l2_ l3_ M_ => f_X12_isForEver_26 n l1_ l2_ l3_ M_ kx89)) kx89 ih Hx89 l1 l3 M
        · refine x_iload_n C (k_dg dt_X12_isForEver_0 38 61 (.iload_n 3) 1 rfl) 3 rfl ?_
          refine x_iconst C (v := 5) (k_dg dt_X12_isForEver_0 39 62 (.iconst 5) 1 rfl) (by decide) ?_
          refine x_aload_n C (k_dg dt_X12_isForEver_1 0 63 (.aload_n 0) 1 rfl) 0 rfl ?_
          refine x_getI C (a := 76) (j := 0) rfl rfl (by decide) fl_RX12_95 rfl (k_dg dt_X12_isForEver_1 1 64 (.getfield 95) 3 rfl) ?_
          refine x_iadd C (k_dg dt_X12_isForEver_1 2 67 (.iadd) 1 rfl) ?_
          refine x_icmp_lt C (tgt := 81) (k_dg dt_X12_isForEver_1 3 68 (.if_icmp .lt 13) 3 rfl) (by decide) (fun _ => ?_) (fun _ => ?_)
          · refine x_lv [0, 1, 3] rfl ?_
            exact m_X12_isForEver_81 C ((fun l1_ l2_ l3_ M_ => f_X12_isForEver_26 n l1_ l2_ l3_ M_ kx89)) kx89 ih Hx89 l1 l3 M
          · refine x_iload_n C (k_dg dt_X12_isForEver_1 4 71 (.iload_n 3) 1 rfl) 3 rfl ?_
            refine x_bipush C (v := 13) (k_dg dt_X12_isForEver_1 5 72 (.bipush 13) 2 rfl) (by decide) ?_
            refine x_icmp_ge C (tgt := 81) (k_dg dt_X12_isForEver_1 6 74 (.if_icmp .ge 7) 3 rfl) (by decide) (fun _ => ?_) (fun _ => ?_)
            · refine x_lv [0, 1, 3] rfl ?_
              exact m_X12_isForEver_81 C ((fun l1_ l2_ l3_ M_ => f_X12_isForEver_26 n l1_ l2_ l3_ M_ kx89)) kx89 ih Hx89 l1 l3 M
            · refine x_lv [0, 1, 3] rfl ?_
              exact m_X12_isForEver_77 C ((fun l1_ l2_ l3_ M_ => f_X12_isForEver_26 n l1_ l2_ l3_ M_ kx89)) kx89 ih Hx89 l1 l3 M
def f_X12_isForEver_89 (l2 : Int32) (M : k_M) : Option (Int32 × k_M) := ckZ l2 (some (l2, M))
theorem m_X12_isForEver_89 {Z : k_Z} {G : k_G} (C : k_C Z G RX12 cX12_isForEver (true, 4, 1, 0, 0) (some .boolean) "isForEver") (l2 : Int32) (M : k_M) : Sm Z G emI (true, 4, 1, 0, 0) (0, 0) 89 [(2, Value.int l2)] [] M (f_X12_isForEver_89 l2 M) := by
  show Sm Z G emI _ _ _ _ _ _ (ckZ l2 (some (l2, M)))
  refine x_iload_n C (k_dg dt_X12_isForEver_1 13 89 (.iload_n 2) 1 rfl) 0 rfl ?_
  refine x_ckZ (fun h1 => ?_)
  exact x_zret C (by decide) (by decide) (k_nz h1) (k_dg dt_X12_isForEver_1 14 90 (.ireturn) 1 rfl)
def f_X12_isForEver_23 (l1 : Int32) (t0 : Int32) (M : k_M) : Option (Int32 × k_M) := f_X12_isForEver_26 k_fu l1 t0 2 M (fun l2_ M_ => f_X12_isForEver_89 l2_ M_)
theorem m_X12_isForEver_23 {Z : k_Z} {G : k_G} (C : k_C Z G RX12 cX12_isForEver (true, 4, 1, 0, 0) (some .boolean) "isForEver") (l1 : Int32) (t0 : Int32) (M : k_M) : Sm Z G emI (true, 4, 1, 0, 0) (0, 0) 23 [(0, k_ra Z 76), (1, Value.int l1)] [Value.int t0] M (f_X12_isForEver_23 l1 t0 M) := by
  show Sm Z G emI _ _ _ _ _ _ (f_X12_isForEver_26 k_fu l1 t0 2 M (fun l2_ M_ => f_X12_isForEver_89 l2_ M_))
  refine x_istore_n C (lv' := [(2, Value.int t0), (0, k_ra Z 76), (1, Value.int l1)]) (k_dg dt_X12_isForEver_0 14 23 (.istore_n 2) 1 rfl) (by decide) rfl ?_
  refine x_iconst C (v := 2) (k_dg dt_X12_isForEver_0 15 24 (.iconst 2) 1 rfl) (by decide) ?_
  refine x_istore_n C (lv' := [(3, Value.int 2), (2, Value.int t0), (0, k_ra Z 76), (1, Value.int l1)]) (k_dg dt_X12_isForEver_0 16 25 (.istore_n 3) 1 rfl) (by decide) rfl ?_
  refine x_lv [2, 3, 1, 0] rfl ?_
  exact m_X12_isForEver_26 C (fun l2_ M_ => f_X12_isForEver_89 l2_ M_) (fun l2_ M_ => m_X12_isForEver_89 C l2_ M_) k_fu l1 t0 2 M
def f_X12_isForEver (p1 : Int32) (M : k_M) : Option (Int32 × k_M) := rdI M 82 1100 (25 * p1) (fun v1 => rdI M 82 1100 0 (fun v2 => if v1 = v2 then f_X12_isForEver_23 p1 1 M else f_X12_isForEver_23 p1 0 M))
theorem m_X12_isForEver_0 {Z : k_Z} {G : k_G} (C : k_C Z G RX12 cX12_isForEver (true, 4, 1, 0, 0) (some .boolean) "isForEver") (p1 : Int32) (M : k_M) : Sm Z G emI (true, 4, 1, 0, 0) (0, 0) 0 [(0, k_ra Z 76), (1, Value.int p1)] [] M (f_X12_isForEver p1 M) := by
  show Sm Z G emI _ _ _ _ _ _ (rdI M 82 1100 (25 * p1) (fun v1 => rdI M 82 1100 0 (fun v2 => if v1 = v2 then f_X12_isForEver_23 p1 1 M else f_X12_isForEver_23 p1 0 M)))
  refine x_aload_n C (k_dg dt_X12_isForEver_0 0 0 (.aload_n 0) 1 rfl) 0 rfl ?_
  refine x_getR C (a := 76) (j := 10) 82 rfl rfl (by decide) fl_RX12_25 rfl rfl rfl (k_dg dt_X12_isForEver_0 1 1 (.getfield 25) 3 rfl) ?_
  refine x_bipush C (v := 25) (k_dg dt_X12_isForEver_0 2 4 (.bipush 25) 2 rfl) (by decide) ?_
  refine x_iload_n C (k_dg dt_X12_isForEver_0 3 6 (.iload_n 1) 1 rfl) 1 rfl ?_
  refine x_imul C (k_dg dt_X12_isForEver_0 4 7 (.imul) 1 rfl) ?_
  refine x_iald C (a := 82) (n := 1100) rfl rfl (k_dg dt_X12_isForEver_0 5 8 (.iaload) 1 rfl) (fun v1 => ?_)
  refine x_aload_n C (k_dg dt_X12_isForEver_0 6 9 (.aload_n 0) 1 rfl) 0 rfl ?_
  refine x_getR C (a := 76) (j := 10) 82 rfl rfl (by decide) fl_RX12_25 rfl rfl rfl (k_dg dt_X12_isForEver_0 7 10 (.getfield 25) 3 rfl) ?_
  refine x_iconst C (v := 0) (k_dg dt_X12_isForEver_0 8 13 (.iconst 0) 1 rfl) (by decide) ?_
  refine x_iald C (a := 82) (n := 1100) rfl rfl (k_dg dt_X12_isForEver_0 9 14 (.iaload) 1 rfl) (fun v2 => ?_)
  refine x_icmp_ne C (tgt := 22) (k_dg dt_X12_isForEver_0 10 15 (.if_icmp .ne 7) 3 rfl) (by decide) (fun _ => ?_) (fun _ => ?_)
  · refine x_iconst C (v := 1) (k_dg dt_X12_isForEver_0 11 18 (.iconst 1) 1 rfl) (by decide) ?_
    refine x_goto C (tgt := 23) (k_dg dt_X12_isForEver_0 12 19 (.goto 4) 3 rfl) (by decide) ?_
    exact m_X12_isForEver_23 C p1 1 M
  · refine x_iconst C (v := 0) (k_dg dt_X12_isForEver_0 13 22 (.iconst 0) 1 rfl) (by decide) ?_
    exact m_X12_isForEver_23 C p1 0 M
theorem c_X12_isForEver {Z : k_Z} (hg : k_Gd Z) (l : Launch) (p1 : Int32) (M : k_M) : Con true Z l yX12_isForEver cX12_isForEver 4 (some .boolean) 1 0 0 emI [k_ra Z 76, Value.int p1] M (f_X12_isForEver p1 M) := k_con hg (by decide) (Nat.le_of_ble_eq_true rfl) (fun G hl C => m_X12_isForEver_0 C p1 M)
theorem dt_X12_isShelf_0 : k_dec cX12_isShelf [(0, .iload_n 0, 1), (1, .iconst 0, 1), (2, .iconst 3, 1), (3, .invokestatic 99, 3), (6, .ireturn, 1)] = true := by decide +kernel
def f_X12_isShelf (p1 : Int32) (M : k_M) : Option (Int32 × k_M) := bd (f_X12_in p1 0 3 M) (fun r1 M2 => ckZ r1 (some (r1, M2)))
theorem m_X12_isShelf_0 {Z : k_Z} {G : k_G} (C : k_C Z G RX12 cX12_isShelf (true, 1, 2, 0, 0) (some .boolean) "isShelf") (p1 : Int32) (M : k_M) : Sm Z G emI (true, 1, 2, 0, 0) (0, 0) 0 [(0, Value.int p1)] [] M (f_X12_isShelf p1 M) := by
  show Sm Z G emI _ _ _ _ _ _ (bd (f_X12_in p1 0 3 M) (fun r1 M2 => ckZ r1 (some (r1, M2))))
  refine x_iload_n C (k_dg dt_X12_isShelf_0 0 0 (.iload_n 0) 1 rfl) 0 rfl ?_
  refine x_iconst C (v := 0) (k_dg dt_X12_isShelf_0 1 1 (.iconst 0) 1 rfl) (by decide) ?_
  refine x_iconst C (v := 3) (k_dg dt_X12_isShelf_0 2 2 (.iconst 3) 1 rfl) (by decide) ?_
  refine x_callS C (vs := [Value.int p1, Value.int 0, Value.int 3]) (rest := []) (c_X12_in C.2.2.2.2.2.2.2.2.2 G.2.1 p1 0 3 M) cy_X12_in lk_RX12_99 stt_X12_in (by decide) (by decide) (by decide) (by decide) rfl rfl (Nat.le_of_ble_eq_true rfl) (k_dg dt_X12_isShelf_0 3 3 (.invokestatic 99) 3 rfl) (fun r1 M2 => ?_)
  show Sm Z G _ _ _ _ [(0, Value.int p1)] [Value.int r1] _ _
  refine x_ckZ (fun h3 => ?_)
  exact x_zret C (by decide) (by decide) (k_nz h3) (k_dg dt_X12_isShelf_0 4 6 (.ireturn) 1 rfl)
theorem c_X12_isShelf {Z : k_Z} (hg : k_Gd Z) (l : Launch) (p1 : Int32) (M : k_M) : Con true Z l yX12_isShelf cX12_isShelf 1 (some .boolean) 2 0 0 emI [Value.int p1] M (f_X12_isShelf p1 M) := k_con hg (by decide) (Nat.le_of_ble_eq_true rfl) (fun G hl C => m_X12_isShelf_0 C p1 M)
theorem dt_X12_lacksSort_0 : k_dec cX12_lacksSort [(0, .aload_n 0, 1), (1, .getfield 67, 3), (4, .iload_n 1, 1), (5, .iaload, 1), (6, .ifCond .ge 8, 3), (9, .bipush (-11), 2), (11, .goto 19, 3), (14, .aload_n 0, 1), (15, .getfield 67, 3), (18, .iload_n 1, 1), (19, .iaload, 1), (20, .iload_n 2, 1), (21, .if_icmp .eq 8, 3), (24, .bipush (-13), 2), (26, .goto 4, 3), (29, .iconst 0, 1), (30, .ireturn, 1)] = true := by decide +kernel
def f_X12_lacksSort (p1 : Int32) (p2 : Int32) (M : k_M) : Option (Int32 × k_M) := rdI M 96 4 p1 (fun v1 => if 0 ≤ v1 then rdI M 96 4 p1 (fun v2 => if v2 = p2 then some (0, M) else some (-13, M)) else some (-11, M))
theorem m_X12_lacksSort_0 {Z : k_Z} {G : k_G} (C : k_C Z G RX12 cX12_lacksSort (true, 3, 1, 0, 0) (some .int) "lacksSort") (p1 : Int32) (p2 : Int32) (M : k_M) : Sm Z G emI (true, 3, 1, 0, 0) (0, 0) 0 [(0, k_ra Z 76), (1, Value.int p1), (2, Value.int p2)] [] M (f_X12_lacksSort p1 p2 M) := by
  show Sm Z G emI _ _ _ _ _ _ (rdI M 96 4 p1 (fun v1 => if 0 ≤ v1 then rdI M 96 4 p1 (fun v2 => if v2 = p2 then some (0, M) else some (-13, M)) else some (-11, M)))
  refine x_aload_n C (k_dg dt_X12_lacksSort_0 0 0 (.aload_n 0) 1 rfl) 0 rfl ?_
  refine x_getR C (a := 76) (j := 37) 96 rfl rfl (by decide) fl_RX12_67 rfl rfl rfl (k_dg dt_X12_lacksSort_0 1 1 (.getfield 67) 3 rfl) ?_
  refine x_iload_n C (k_dg dt_X12_lacksSort_0 2 4 (.iload_n 1) 1 rfl) 1 rfl ?_
  refine x_iald C (a := 96) (n := 4) rfl rfl (k_dg dt_X12_lacksSort_0 3 5 (.iaload) 1 rfl) (fun v1 => ?_)
  refine x_if_ge C (tgt := 14) (k_dg dt_X12_lacksSort_0 4 6 (.ifCond .ge 8) 3 rfl) (by decide) (fun _ => ?_) (fun _ => ?_)
  · refine x_aload_n C (k_dg dt_X12_lacksSort_0 7 14 (.aload_n 0) 1 rfl) 0 rfl ?_
    refine x_getR C (a := 76) (j := 37) 96 rfl rfl (by decide) fl_RX12_67 rfl rfl rfl (k_dg dt_X12_lacksSort_0 8 15 (.getfield 67) 3 rfl) ?_
    refine x_iload_n C (k_dg dt_X12_lacksSort_0 9 18 (.iload_n 1) 1 rfl) 1 rfl ?_
    refine x_iald C (a := 96) (n := 4) rfl rfl (k_dg dt_X12_lacksSort_0 10 19 (.iaload) 1 rfl) (fun v2 => ?_)
    refine x_iload_n C (k_dg dt_X12_lacksSort_0 11 20 (.iload_n 2) 1 rfl) 2 rfl ?_
    refine x_icmp_eq C (tgt := 29) (k_dg dt_X12_lacksSort_0 12 21 (.if_icmp .eq 8) 3 rfl) (by decide) (fun _ => ?_) (fun _ => ?_)
    · refine x_iconst C (v := 0) (k_dg dt_X12_lacksSort_0 15 29 (.iconst 0) 1 rfl) (by decide) ?_
      exact x_iret C (by decide) (by decide) (k_dg dt_X12_lacksSort_0 16 30 (.ireturn) 1 rfl)
    · refine x_bipush C (v := -13) (k_dg dt_X12_lacksSort_0 13 24 (.bipush (-13)) 2 rfl) (by decide) ?_
      refine x_goto C (tgt := 30) (k_dg dt_X12_lacksSort_0 14 26 (.goto 4) 3 rfl) (by decide) ?_
      exact x_iret C (by decide) (by decide) (k_dg dt_X12_lacksSort_0 16 30 (.ireturn) 1 rfl)
  · refine x_bipush C (v := -11) (k_dg dt_X12_lacksSort_0 5 9 (.bipush (-11)) 2 rfl) (by decide) ?_
    refine x_goto C (tgt := 30) (k_dg dt_X12_lacksSort_0 6 11 (.goto 19) 3 rfl) (by decide) ?_
    exact x_iret C (by decide) (by decide) (k_dg dt_X12_lacksSort_0 16 30 (.ireturn) 1 rfl)
theorem c_X12_lacksSort {Z : k_Z} (hg : k_Gd Z) (l : Launch) (p1 : Int32) (p2 : Int32) (M : k_M) : Con true Z l yX12_lacksSort cX12_lacksSort 3 (some .int) 1 0 0 emI [k_ra Z 76, Value.int p1, Value.int p2] M (f_X12_lacksSort p1 p2 M) := k_con hg (by decide) (Nat.le_of_ble_eq_true rfl) (fun G hl C => m_X12_lacksSort_0 C p1 p2 M)
theorem dt_X12_round_0 : k_dec cX12_round [(0, .iload_n 1, 1), (1, .invokestatic 303, 3), (4, .ifCond .eq 10, 3), (7, .iload_n 2, 1), (8, .invokestatic 269, 3), (11, .ifCond .ne 5, 3), (14, .iconst (-1), 1), (15, .ireturn, 1), (16, .aload_n 0, 1), (17, .getfield 205, 3), (20, .ifCond .ne 6, 3), (23, .bipush (-4), 2), (25, .ireturn, 1), (26, .aload_n 0, 1), (27, .iload_n 1, 1), (28, .iconst 0, 1), (29, .invokevirtual 306, 3), (32, .istore_n 3, 1), (33, .iload_n 3, 1), (34, .ifCond .eq 5, 3), (37, .iload_n 3, 1), (38, .ireturn, 1), (39, .iconst 0, 1), (40, .istore 4, 2), (42, .iconst 1, 1), (43, .istore 5, 2), (45, .iload 5, 2), (47, .ifCond .eq 77, 3), (50, .iload 4, 2), (52, .aload_n 0, 1), (53, .getfield 70, 3), (56, .iload_n 1, 1), (57, .iaload, 1), (58, .if_icmp .ge 66, 3), (61, .aload_n 0, 1), (62, .getfield 73, 3), (65, .bipush 40, 2), (67, .iload_n 1, 1), (68, .imul, 1), (69, .iload 4, 2)] = true := by decide +kernel
theorem dt_X12_round_1 : k_dec cX12_round [(71, .iadd, 1), (72, .laload, 1), (73, .l2i, 1), (74, .istore 6, 2), (76, .iload 6, 2), (78, .iconst 0, 1), (79, .bipush 12, 2), (81, .invokestatic 99, 3), (84, .ifCond .eq 19, 3), (87, .aload_n 0, 1), (88, .iload 4, 2), (90, .iload 6, 2), (92, .iconst 2, 1), (93, .invokevirtual 256, 3), (96, .ifCond .le 7, 3), (99, .iconst 1, 1), (100, .goto 4, 3), (103, .iconst 0, 1), (104, .istore 5, 2), (106, .iload 4, 2), (108, .iload 5, 2), (110, .ifCond .eq 7, 3), (113, .iconst 1, 1), (114, .goto 4, 3), (117, .iconst 0, 1), (118, .iadd, 1), (119, .istore 4, 2), (121, .goto (-76), 3), (124, .iload_n 2, 1), (125, .ifCond .ne 8, 3), (128, .iload 4, 2), (130, .goto 22, 3), (133, .iload 5, 2), (135, .ifCond .eq 16, 3), (138, .aload_n 0, 1), (139, .iload 4, 2), (141, .invokevirtual 309, 3), (144, .ifCond .eq 7, 3), (147, .iconst 1, 1), (148, .goto 4, 3)] = true := by decide +kernel
theorem dt_X12_round_2 : k_dec cX12_round [(151, .iconst 0, 1), (152, .ireturn, 1)] = true := by decide +kernel
def f_X12_round_118 (l1 : Int32) (l2 : Int32) (l5 : Int32) (t0 : Int32) (t1 : Int32) (M : k_M) (kb : Int32 → Int32 → Int32 → Int32 → k_M → Option (Int32 × k_M)) (kx124 : Int32 → Int32 → Int32 → k_M → Option (Int32 × k_M)) : Option (Int32 × k_M) := bN (t0 + t1) (fun v1 => kb l1 l2 v1 l5 M)
theorem m_X12_round_118 {Z : k_Z} {G : k_G} (C : k_C Z G RX12 cX12_round (true, 7, 5, 0, 0) (some .int) "round") (kb : Int32 → Int32 → Int32 → Int32 → k_M → Option (Int32 × k_M)) (kx124 : Int32 → Int32 → Int32 → k_M → Option (Int32 × k_M)) (Hb : ∀ (l1 : Int32) (l2 : Int32) (l4 : Int32) (l5 : Int32) (M : k_M), Sm Z G emI (true, 7, 5, 0, 0) (0, 0) 45 [(0, k_ra Z 76), (1, Value.int l1), (2, Value.int l2), (4, Value.int l4), (5, Value.int l5)] [] M (kb l1 l2 l4 l5 M)) (Hx124 : ∀ (l2 : Int32) (l4 : Int32) (l5 : Int32) (M : k_M), Sm Z G emI (true, 7, 5, 0, 0) (0, 0) 124 [(0, k_ra Z 76), (2, Value.int l2), (4, Value.int l4), (5, Value.int l5)] [] M (kx124 l2 l4 l5 M)) (l1 : Int32) (l2 : Int32) (l5 : Int32) (t0 : Int32) (t1 : Int32) (M : k_M) : Sm Z G emI (true, 7, 5, 0, 0) (0, 0) 118 [(0, k_ra Z 76), (1, Value.int l1), (2, Value.int l2), (5, Value.int l5)] [Value.int t1, Value.int t0] M (f_X12_round_118 l1 l2 l5 t0 t1 M kb kx124) := by
  show Sm Z G emI _ _ _ _ _ _ (bN (t0 + t1) (fun v1 => kb l1 l2 v1 l5 M))
  refine x_iadd C (k_dg dt_X12_round_1 25 118 (.iadd) 1 rfl) ?_
  refine x_nm (w := Value.int) (fun v1 _ => ?_)
  refine x_istore C (lv' := [(4, Value.int v1), (0, k_ra Z 76), (1, Value.int l1), (2, Value.int l2), (5, Value.int l5)]) (k_dg dt_X12_round_1 26 119 (.istore 4) 2 rfl) (by decide) rfl ?_
  refine x_goto C (tgt := 45) (k_dg dt_X12_round_1 27 121 (.goto (-76)) 3 rfl) (by decide) ?_
  refine x_lv [1, 2, 3, 0, 4] rfl ?_
  exact Hb l1 l2 v1 l5 M
def f_X12_round_104 (l1 : Int32) (l2 : Int32) (l4 : Int32) (t0 : Int32) (M : k_M) (kb : Int32 → Int32 → Int32 → Int32 → k_M → Option (Int32 × k_M)) (kx124 : Int32 → Int32 → Int32 → k_M → Option (Int32 × k_M)) : Option (Int32 × k_M) := if t0 = 0 then f_X12_round_118 l1 l2 t0 l4 0 M kb kx124 else f_X12_round_118 l1 l2 t0 l4 1 M kb kx124
theorem m_X12_round_104 {Z : k_Z} {G : k_G} (C : k_C Z G RX12 cX12_round (true, 7, 5, 0, 0) (some .int) "round") (kb : Int32 → Int32 → Int32 → Int32 → k_M → Option (Int32 × k_M)) (kx124 : Int32 → Int32 → Int32 → k_M → Option (Int32 × k_M)) (Hb : ∀ (l1 : Int32) (l2 : Int32) (l4 : Int32) (l5 : Int32) (M : k_M), Sm Z G emI (true, 7, 5, 0, 0) (0, 0) 45 [(0, k_ra Z 76), (1, Value.int l1), (2, Value.int l2), (4, Value.int l4), (5, Value.int l5)] [] M (kb l1 l2 l4 l5 M)) (Hx124 : ∀ (l2 : Int32) (l4 : Int32) (l5 : Int32) (M : k_M), Sm Z G emI (true, 7, 5, 0, 0) (0, 0) 124 [(0, k_ra Z 76), (2, Value.int l2), (4, Value.int l4), (5, Value.int l5)] [] M (kx124 l2 l4 l5 M)) (l1 : Int32) (l2 : Int32) (l4 : Int32) (t0 : Int32) (M : k_M) : Sm Z G emI (true, 7, 5, 0, 0) (0, 0) 104 [(0, k_ra Z 76), (1, Value.int l1), (2, Value.int l2), (4, Value.int l4)] [Value.int t0] M (f_X12_round_104 l1 l2 l4 t0 M kb kx124) := by
  show Sm Z G emI _ _ _ _ _ _ (if t0 = 0 then f_X12_round_118 l1 l2 t0 l4 0 M kb kx124 else f_X12_round_118 l1 l2 t0 l4 1 M kb kx124)
  refine x_istore C (lv' := [(5, Value.int t0), (0, k_ra Z 76), (1, Value.int l1), (2, Value.int l2), (4, Value.int l4)]) (k_dg dt_X12_round_1 18 104 (.istore 5) 2 rfl) (by decide) rfl ?_
  refine x_iload C (k_dg dt_X12_round_1 19 106 (.iload 4) 2 rfl) 4 rfl ?_
  refine x_iload C (k_dg dt_X12_round_1 20 108 (.iload 5) 2 rfl) 0 rfl ?_
  refine x_if_eq C (tgt := 117) (k_dg dt_X12_round_1 21 110 (.ifCond .eq 7) 3 rfl) (by decide) (fun _ => ?_) (fun _ => ?_)
  · refine x_iconst C (v := 0) (k_dg dt_X12_round_1 24 117 (.iconst 0) 1 rfl) (by decide) ?_
    refine x_lv [1, 2, 3, 0] rfl ?_
    exact m_X12_round_118 C kb kx124 Hb Hx124 l1 l2 t0 l4 0 M
  · refine x_iconst C (v := 1) (k_dg dt_X12_round_1 22 113 (.iconst 1) 1 rfl) (by decide) ?_
    refine x_goto C (tgt := 118) (k_dg dt_X12_round_1 23 114 (.goto 4) 3 rfl) (by decide) ?_
    refine x_lv [1, 2, 3, 0] rfl ?_
    exact m_X12_round_118 C kb kx124 Hb Hx124 l1 l2 t0 l4 1 M
def f_X12_round_103 (l1 : Int32) (l2 : Int32) (l4 : Int32) (M : k_M) (kb : Int32 → Int32 → Int32 → Int32 → k_M → Option (Int32 × k_M)) (kx124 : Int32 → Int32 → Int32 → k_M → Option (Int32 × k_M)) : Option (Int32 × k_M) := f_X12_round_104 l1 l2 l4 0 M kb kx124
theorem m_X12_round_103 {Z : k_Z} {G : k_G} (C : k_C Z G RX12 cX12_round (true, 7, 5, 0, 0) (some .int) "round") (kb : Int32 → Int32 → Int32 → Int32 → k_M → Option (Int32 × k_M)) (kx124 : Int32 → Int32 → Int32 → k_M → Option (Int32 × k_M)) (Hb : ∀ (l1 : Int32) (l2 : Int32) (l4 : Int32) (l5 : Int32) (M : k_M), Sm Z G emI (true, 7, 5, 0, 0) (0, 0) 45 [(0, k_ra Z 76), (1, Value.int l1), (2, Value.int l2), (4, Value.int l4), (5, Value.int l5)] [] M (kb l1 l2 l4 l5 M)) (Hx124 : ∀ (l2 : Int32) (l4 : Int32) (l5 : Int32) (M : k_M), Sm Z G emI (true, 7, 5, 0, 0) (0, 0) 124 [(0, k_ra Z 76), (2, Value.int l2), (4, Value.int l4), (5, Value.int l5)] [] M (kx124 l2 l4 l5 M)) (l1 : Int32) (l2 : Int32) (l4 : Int32) (M : k_M) : Sm Z G emI (true, 7, 5, 0, 0) (0, 0) 103 [(0, k_ra Z 76), (1, Value.int l1), (2, Value.int l2), (4, Value.int l4)] [] M (f_X12_round_103 l1 l2 l4 M kb kx124) := by
  show Sm Z G emI _ _ _ _ _ _ (f_X12_round_104 l1 l2 l4 0 M kb kx124)
  refine x_iconst C (v := 0) (k_dg dt_X12_round_1 17 103 (.iconst 0) 1 rfl) (by decide) ?_
  exact m_X12_round_104 C kb kx124 Hb Hx124 l1 l2 l4 0 M
def f_X12_round_45 : Nat → Int32 → Int32 → Int32 → Int32 → k_M → (Int32 → Int32 → Int32 → k_M → Option (Int32 × k_M)) → Option (Int32 × k_M)
  | 0, _, _, _, _, _, _ => none
  | n + 1, l1, l2, l4, l5, M, kx124 => if l5 = 0 then kx124 l2 l4 l5 M else rdI M 97 4 l1 (fun v1 => if v1 ≤ l4 then kx124 l2 l4 l5 M else rdJ M 98 160 ((40 * l1) + l4) (fun v2 => bN (v2.toInt32) (fun v3 => bd (f_X12_in v3 0 12 M) (fun r4 M5 => if r4 = 0 then f_X12_round_103 l1 l2 l4 M5 ((fun l1_ l2_ l4_ l5_ M_ => f_X12_round_45 n l1_ l2_ l4_ l5_ M_ kx124)) kx124 else bd (f_X12_goes l4 v3 2 M5) (fun r6 M7 => if r6 ≤ 0 then f_X12_round_103 l1 l2 l4 M7 ((fun l1_ l2_ l4_ l5_ M_ => f_X12_round_45 n l1_ l2_ l4_ l5_ M_ kx124)) kx124 else f_X12_round_104 l1 l2 l4 1 M7 ((fun l1_ l2_ l4_ l5_ M_ => f_X12_round_45 n l1_ l2_ l4_ l5_ M_ kx124)) kx124)))))
theorem m_X12_round_45 {Z : k_Z} {G : k_G} (C : k_C Z G RX12 cX12_round (true, 7, 5, 0, 0) (some .int) "round") (kx124 : Int32 → Int32 → Int32 → k_M → Option (Int32 × k_M)) (Hx124 : ∀ (l2 : Int32) (l4 : Int32) (l5 : Int32) (M : k_M), Sm Z G emI (true, 7, 5, 0, 0) (0, 0) 124 [(0, k_ra Z 76), (2, Value.int l2), (4, Value.int l4), (5, Value.int l5)] [] M (kx124 l2 l4 l5 M)) : ∀ (n : Nat) (l1 : Int32) (l2 : Int32) (l4 : Int32) (l5 : Int32) (M : k_M), Sm Z G emI (true, 7, 5, 0, 0) (0, 0) 45 [(0, k_ra Z 76), (1, Value.int l1), (2, Value.int l2), (4, Value.int l4), (5, Value.int l5)] [] M (f_X12_round_45 n l1 l2 l4 l5 M kx124)
  | 0, _, _, _, _, _ => x_none
  | n + 1, l1, l2, l4, l5, M => by
    have ih := m_X12_round_45 C kx124 Hx124 n
    show Sm Z G emI _ _ _ _ _ _ (if l5 = 0 then kx124 l2 l4 l5 M else rdI M 97 4 l1 (fun v1 => if v1 ≤ l4 then kx124 l2 l4 l5 M else rdJ M 98 160 ((40 * l1) + l4) (fun v2 => bN (v2.toInt32) (fun v3 => bd (f_X12_in v3 0 12 M) (fun r4 M5 => if r4 = 0 then f_X12_round_103 l1 l2 l4 M5 ((fun l1_ l2_ l4_ l5_ M_ => f_X12_round_45 n l1_ l2_ l4_ l5_ M_ kx124)) kx124 else bd (f_X12_goes l4 v3 2 M5) (fun r6 M7 => if r6 ≤ 0 then f_X12_round_103 l1 l2 l4 M7 ((fun l1_ l2_ l4_ l5_ M_ => f_X12_round_45 n l1_ l2_ l4_ l5_ M_ kx124)) kx124 else f_X12_round_104 l1 l2 l4 1 M7 ((fun l1_ l2_ l4_ l5_ M_ => f_X12_round_45 n l1_ l2_ l4_ l5_ M_ kx124)) kx124))))))
    refine x_iload C (k_dg dt_X12_round_0 26 45 (.iload 5) 2 rfl) 4 rfl ?_
    refine x_if_eq C (tgt := 124) (k_dg dt_X12_round_0 27 47 (.ifCond .eq 77) 3 rfl) (by decide) (fun _ => ?_) (fun _ => ?_)
    · refine x_lv [0, 2, 3, 4] rfl ?_
      exact Hx124 l2 l4 l5 M
    · refine x_iload C (k_dg dt_X12_round_0 28 50 (.iload 4) 2 rfl) 3 rfl ?_
      refine x_aload_n C (k_dg dt_X12_round_0 29 52 (.aload_n 0) 1 rfl) 0 rfl ?_
      refine x_getR C (a := 76) (j := 38) 97 rfl rfl (by decide) fl_RX12_70 rfl rfl rfl (k_dg dt_X12_round_0 30 53 (.getfield 70) 3 rfl) ?_
      refine x_iload_n C (k_dg dt_X12_round_0 31 56 (.iload_n 1) 1 rfl) 1 rfl ?_
      refine x_iald C (a := 97) (n := 4) rfl rfl (k_dg dt_X12_round_0 32 57 (.iaload) 1 rfl) (fun v1 => ?_)
      refine x_icmp_ge C (tgt := 124) (k_dg dt_X12_round_0 33 58 (.if_icmp .ge 66) 3 rfl) (by decide) (fun _ => ?_) (fun _ => ?_)
      · refine x_lv [0, 2, 3, 4] rfl ?_
        exact Hx124 l2 l4 l5 M
      · refine x_aload_n C (k_dg dt_X12_round_0 34 61 (.aload_n 0) 1 rfl) 0 rfl ?_
        refine x_getR C (a := 76) (j := 39) 98 rfl rfl (by decide) fl_RX12_73 rfl rfl rfl (k_dg dt_X12_round_0 35 62 (.getfield 73) 3 rfl) ?_
        refine x_bipush C (v := 40) (k_dg dt_X12_round_0 36 65 (.bipush 40) 2 rfl) (by decide) ?_
        refine x_iload_n C (k_dg dt_X12_round_0 37 67 (.iload_n 1) 1 rfl) 1 rfl ?_
        refine x_imul C (k_dg dt_X12_round_0 38 68 (.imul) 1 rfl) ?_
        refine x_iload C (k_dg dt_X12_round_0 39 69 (.iload 4) 2 rfl) 3 rfl ?_
        refine x_iadd C (k_dg dt_X12_round_1 0 71 (.iadd) 1 rfl) ?_
        refine x_lald C (a := 98) (n := 160) rfl rfl (k_dg dt_X12_round_1 1 72 (.laload) 1 rfl) (fun v2 => ?_)
        refine x_l2i C (k_dg dt_X12_round_1 2 73 (.l2i) 1 rfl) ?_
        refine x_nm (w := Value.int) (fun v3 _ => ?_)
        refine x_istore C (lv' := [(6, Value.int v3), (0, k_ra Z 76), (1, Value.int l1), (2, Value.int l2), (4, Value.int l4), (5, Value.int l5)]) (k_dg dt_X12_round_1 3 74 (.istore 6) 2 rfl) (by decide) rfl ?_
        refine x_iload C (k_dg dt_X12_round_1 4 76 (.iload 6) 2 rfl) 0 rfl ?_
        refine x_iconst C (v := 0) (k_dg dt_X12_round_1 5 78 (.iconst 0) 1 rfl) (by decide) ?_
        refine x_bipush C (v := 12) (k_dg dt_X12_round_1 6 79 (.bipush 12) 2 rfl) (by decide) ?_
        refine x_callS C (vs := [Value.int v3, Value.int 0, Value.int 12]) (rest := []) (c_X12_in C.2.2.2.2.2.2.2.2.2 G.2.1 v3 0 12 M) cy_X12_in lk_RX12_99 stt_X12_in (by decide) (by decide) (by decide) (by decide) rfl rfl (Nat.le_of_ble_eq_true rfl) (k_dg dt_X12_round_1 7 81 (.invokestatic 99) 3 rfl) (fun r4 M5 => ?_)
        show Sm Z G _ _ _ _ [(6, Value.int v3), (0, k_ra Z 76), (1, Value.int l1), (2, Value.int l2), (4, Value.int l4), (5, Value.int l5)] [Value.int r4] _ _
        refine x_if_eq C (tgt := 103) (k_dg dt_X12_round_1 8 84 (.ifCond .eq 19) 3 rfl) (by decide) (fun _ => ?_) (fun _ => ?_)
        · refine x_lv [1, 2, 3, 4] rfl ?_
          exact m_X12_round_103 C ((fun l1_ l2_ l4_ l5_ M_ => f_X12_round_45 n l1_ l2_ l4_ l5_ M_ kx124)) kx124 ih Hx124 l1 l2 l4 M5
        · refine x_aload_n C (k_dg dt_X12_round_1 9 87 (.aload_n 0) 1 rfl) 1 rfl ?_
          refine x_iload C (k_dg dt_X12_round_1 10 88 (.iload 4) 2 rfl) 4 rfl ?_
          refine x_iload C (k_dg dt_X12_round_1 11 90 (.iload 6) 2 rfl) 0 rfl ?_
          refine x_iconst C (v := 2) (k_dg dt_X12_round_1 12 92 (.iconst 2) 1 rfl) (by decide) ?_
          refine x_callV C (a := 76) (kd := 10) (vs := [Value.int l4, Value.int v3, Value.int 2]) (rest := []) rfl rfl (by decide) (fun r hr => by cases hr; rfl) (c_X12_goes C.2.2.2.2.2.2.2.2.2 G.2.1 l4 v3 2 M5) cy_X12_goes lk_RX12_256 im_X12_goes se_X12_goes (by decide) (by decide) (by decide) (by decide) rfl rfl (Nat.le_of_ble_eq_true rfl) (k_dg dt_X12_round_1 13 93 (.invokevirtual 256) 3 rfl) (fun r6 M7 => ?_)
          show Sm Z G _ _ _ _ [(6, Value.int v3), (0, k_ra Z 76), (1, Value.int l1), (2, Value.int l2), (4, Value.int l4), (5, Value.int l5)] [Value.int r6] _ _
          refine x_if_le C (tgt := 103) (k_dg dt_X12_round_1 14 96 (.ifCond .le 7) 3 rfl) (by decide) (fun _ => ?_) (fun _ => ?_)
          · refine x_lv [1, 2, 3, 4] rfl ?_
            exact m_X12_round_103 C ((fun l1_ l2_ l4_ l5_ M_ => f_X12_round_45 n l1_ l2_ l4_ l5_ M_ kx124)) kx124 ih Hx124 l1 l2 l4 M7
          · refine x_iconst C (v := 1) (k_dg dt_X12_round_1 15 99 (.iconst 1) 1 rfl) (by decide) ?_
            refine x_goto C (tgt := 104) (k_dg dt_X12_round_1 16 100 (.goto 4) 3 rfl) (by decide) ?_
            refine x_lv [1, 2, 3, 4] rfl ?_
            exact m_X12_round_104 C ((fun l1_ l2_ l4_ l5_ M_ => f_X12_round_45 n l1_ l2_ l4_ l5_ M_ kx124)) kx124 ih Hx124 l1 l2 l4 1 M7
def f_X12_round_124 (l2 : Int32) (l4 : Int32) (l5 : Int32) (M : k_M) : Option (Int32 × k_M) := if l2 = 0 then some (l4, M) else if l5 = 0 then some (0, M) else bd (f_X12_isForEver l4 M) (fun r1 M2 => if r1 = 0 then some (0, M2) else some (1, M2))
theorem m_X12_round_124 {Z : k_Z} {G : k_G} (C : k_C Z G RX12 cX12_round (true, 7, 5, 0, 0) (some .int) "round") (l2 : Int32) (l4 : Int32) (l5 : Int32) (M : k_M) : Sm Z G emI (true, 7, 5, 0, 0) (0, 0) 124 [(0, k_ra Z 76), (2, Value.int l2), (4, Value.int l4), (5, Value.int l5)] [] M (f_X12_round_124 l2 l4 l5 M) := by
  show Sm Z G emI _ _ _ _ _ _ (if l2 = 0 then some (l4, M) else if l5 = 0 then some (0, M) else bd (f_X12_isForEver l4 M) (fun r1 M2 => if r1 = 0 then some (0, M2) else some (1, M2)))
  refine x_iload_n C (k_dg dt_X12_round_1 28 124 (.iload_n 2) 1 rfl) 1 rfl ?_
  refine x_if_ne C (tgt := 133) (k_dg dt_X12_round_1 29 125 (.ifCond .ne 8) 3 rfl) (by decide) (fun _ => ?_) (fun _ => ?_)
  · refine x_iload C (k_dg dt_X12_round_1 30 128 (.iload 4) 2 rfl) 2 rfl ?_
    refine x_goto C (tgt := 152) (k_dg dt_X12_round_1 31 130 (.goto 22) 3 rfl) (by decide) ?_
    exact x_iret C (by decide) (by decide) (k_dg dt_X12_round_2 1 152 (.ireturn) 1 rfl)
  · refine x_iload C (k_dg dt_X12_round_1 32 133 (.iload 5) 2 rfl) 3 rfl ?_
    refine x_if_eq C (tgt := 151) (k_dg dt_X12_round_1 33 135 (.ifCond .eq 16) 3 rfl) (by decide) (fun _ => ?_) (fun _ => ?_)
    · refine x_iconst C (v := 0) (k_dg dt_X12_round_2 0 151 (.iconst 0) 1 rfl) (by decide) ?_
      exact x_iret C (by decide) (by decide) (k_dg dt_X12_round_2 1 152 (.ireturn) 1 rfl)
    · refine x_aload_n C (k_dg dt_X12_round_1 34 138 (.aload_n 0) 1 rfl) 0 rfl ?_
      refine x_iload C (k_dg dt_X12_round_1 35 139 (.iload 4) 2 rfl) 2 rfl ?_
      refine x_callV C (a := 76) (kd := 10) (vs := [Value.int l4]) (rest := []) rfl rfl (by decide) (fun r hr => by cases hr; rfl) (c_X12_isForEver C.2.2.2.2.2.2.2.2.2 G.2.1 l4 M) cy_X12_isForEver lk_RX12_309 im_X12_isForEver se_X12_isForEver (by decide) (by decide) (by decide) (by decide) rfl rfl (Nat.le_of_ble_eq_true rfl) (k_dg dt_X12_round_1 36 141 (.invokevirtual 309) 3 rfl) (fun r1 M2 => ?_)
      show Sm Z G _ _ _ _ [(0, k_ra Z 76), (2, Value.int l2), (4, Value.int l4), (5, Value.int l5)] [Value.int r1] _ _
      refine x_if_eq C (tgt := 151) (k_dg dt_X12_round_1 37 144 (.ifCond .eq 7) 3 rfl) (by decide) (fun _ => ?_) (fun _ => ?_)
      · refine x_iconst C (v := 0) (k_dg dt_X12_round_2 0 151 (.iconst 0) 1 rfl) (by decide) ?_
        exact x_iret C (by decide) (by decide) (k_dg dt_X12_round_2 1 152 (.ireturn) 1 rfl)
      · refine x_iconst C (v := 1) (k_dg dt_X12_round_1 38 147 (.iconst 1) 1 rfl) (by decide) ?_
        refine x_goto C (tgt := 152) (k_dg dt_X12_round_1 39 148 (.goto 4) 3 rfl) (by decide) ?_
        exact x_iret C (by decide) (by decide) (k_dg dt_X12_round_2 1 152 (.ireturn) 1 rfl)
def f_X12_round (p1 : Int32) (p2 : Int32) (M : k_M) : Option (Int32 × k_M) := bd (f_X12_isShelf p1 M) (fun r1 M2 => if r1 = 0 then some (-1, M2) else bd (f_X12_isSide p2 M2) (fun r3 M4 => if r3 = 0 then some (-1, M4) else if (M4.1 76 7) = 0 then some (-4, M4) else bd (f_X12_lacksSort p1 0 M4) (fun r5 M6 => if r5 = 0 then f_X12_round_45 k_fu p1 p2 0 1 M6 (fun l2_ l4_ l5_ M_ => f_X12_round_124 l2_ l4_ l5_ M_) else some (r5, M6))))
theorem m_X12_round_0 {Z : k_Z} {G : k_G} (C : k_C Z G RX12 cX12_round (true, 7, 5, 0, 0) (some .int) "round") (p1 : Int32) (p2 : Int32) (M : k_M) : Sm Z G emI (true, 7, 5, 0, 0) (0, 0) 0 [(0, k_ra Z 76), (1, Value.int p1), (2, Value.int p2)] [] M (f_X12_round p1 p2 M) := by
  show Sm Z G emI _ _ _ _ _ _ (bd (f_X12_isShelf p1 M) (fun r1 M2 => if r1 = 0 then some (-1, M2) else bd (f_X12_isSide p2 M2) (fun r3 M4 => if r3 = 0 then some (-1, M4) else if (M4.1 76 7) = 0 then some (-4, M4) else bd (f_X12_lacksSort p1 0 M4) (fun r5 M6 => if r5 = 0 then f_X12_round_45 k_fu p1 p2 0 1 M6 (fun l2_ l4_ l5_ M_ => f_X12_round_124 l2_ l4_ l5_ M_) else some (r5, M6)))))
  refine x_iload_n C (k_dg dt_X12_round_0 0 0 (.iload_n 1) 1 rfl) 1 rfl ?_
  refine x_callS C (vs := [Value.int p1]) (rest := []) (c_X12_isShelf C.2.2.2.2.2.2.2.2.2 G.2.1 p1 M) cy_X12_isShelf lk_RX12_303 stt_X12_isShelf (by decide) (by decide) (by decide) (by decide) rfl rfl (Nat.le_of_ble_eq_true rfl) (k_dg dt_X12_round_0 1 1 (.invokestatic 303) 3 rfl) (fun r1 M2 => ?_)
  show Sm Z G _ _ _ _ [(0, k_ra Z 76), (1, Value.int p1), (2, Value.int p2)] [Value.int r1] _ _
  refine x_if_eq C (tgt := 14) (k_dg dt_X12_round_0 2 4 (.ifCond .eq 10) 3 rfl) (by decide) (fun _ => ?_) (fun _ => ?_)
  · refine x_iconst C (v := -1) (k_dg dt_X12_round_0 6 14 (.iconst (-1)) 1 rfl) (by decide) ?_
    exact x_iret C (by decide) (by decide) (k_dg dt_X12_round_0 7 15 (.ireturn) 1 rfl)
  · refine x_iload_n C (k_dg dt_X12_round_0 3 7 (.iload_n 2) 1 rfl) 2 rfl ?_
    refine x_callS C (vs := [Value.int p2]) (rest := []) (c_X12_isSide C.2.2.2.2.2.2.2.2.2 G.2.1 p2 M2) cy_X12_isSide lk_RX12_269 stt_X12_isSide (by decide) (by decide) (by decide) (by decide) rfl rfl (Nat.le_of_ble_eq_true rfl) (k_dg dt_X12_round_0 4 8 (.invokestatic 269) 3 rfl) (fun r3 M4 => ?_)
    show Sm Z G _ _ _ _ [(0, k_ra Z 76), (1, Value.int p1), (2, Value.int p2)] [Value.int r3] _ _
    refine x_if_ne C (tgt := 16) (k_dg dt_X12_round_0 5 11 (.ifCond .ne 5) 3 rfl) (by decide) (fun _ => ?_) (fun _ => ?_)
    · refine x_iconst C (v := -1) (k_dg dt_X12_round_0 6 14 (.iconst (-1)) 1 rfl) (by decide) ?_
      exact x_iret C (by decide) (by decide) (k_dg dt_X12_round_0 7 15 (.ireturn) 1 rfl)
    · refine x_aload_n C (k_dg dt_X12_round_0 8 16 (.aload_n 0) 1 rfl) 0 rfl ?_
      refine x_getI C (a := 76) (j := 7) rfl rfl (by decide) fl_RX12_205 rfl (k_dg dt_X12_round_0 9 17 (.getfield 205) 3 rfl) ?_
      refine x_if_ne C (tgt := 26) (k_dg dt_X12_round_0 10 20 (.ifCond .ne 6) 3 rfl) (by decide) (fun _ => ?_) (fun _ => ?_)
      · refine x_bipush C (v := -4) (k_dg dt_X12_round_0 11 23 (.bipush (-4)) 2 rfl) (by decide) ?_
        exact x_iret C (by decide) (by decide) (k_dg dt_X12_round_0 12 25 (.ireturn) 1 rfl)
      · refine x_aload_n C (k_dg dt_X12_round_0 13 26 (.aload_n 0) 1 rfl) 0 rfl ?_
        refine x_iload_n C (k_dg dt_X12_round_0 14 27 (.iload_n 1) 1 rfl) 1 rfl ?_
        refine x_iconst C (v := 0) (k_dg dt_X12_round_0 15 28 (.iconst 0) 1 rfl) (by decide) ?_
        refine x_callV C (a := 76) (kd := 10) (vs := [Value.int p1, Value.int 0]) (rest := []) rfl rfl (by decide) (fun r hr => by cases hr; rfl) (c_X12_lacksSort C.2.2.2.2.2.2.2.2.2 G.2.1 p1 0 M4) cy_X12_lacksSort lk_RX12_306 im_X12_lacksSort se_X12_lacksSort (by decide) (by decide) (by decide) (by decide) rfl rfl (Nat.le_of_ble_eq_true rfl) (k_dg dt_X12_round_0 16 29 (.invokevirtual 306) 3 rfl) (fun r5 M6 => ?_)
        show Sm Z G _ _ _ _ [(0, k_ra Z 76), (1, Value.int p1), (2, Value.int p2)] [Value.int r5] _ _
        refine x_istore_n C (lv' := [(3, Value.int r5), (0, k_ra Z 76), (1, Value.int p1), (2, Value.int p2)]) (k_dg dt_X12_round_0 17 32 (.istore_n 3) 1 rfl) (by decide) rfl ?_
        refine x_iload_n C (k_dg dt_X12_round_0 18 33 (.iload_n 3) 1 rfl) 0 rfl ?_
        refine x_if_eq C (tgt := 39) (k_dg dt_X12_round_0 19 34 (.ifCond .eq 5) 3 rfl) (by decide) (fun _ => ?_) (fun _ => ?_)
        · refine x_iconst C (v := 0) (k_dg dt_X12_round_0 22 39 (.iconst 0) 1 rfl) (by decide) ?_
          refine x_istore C (lv' := [(4, Value.int 0), (3, Value.int r5), (0, k_ra Z 76), (1, Value.int p1), (2, Value.int p2)]) (k_dg dt_X12_round_0 23 40 (.istore 4) 2 rfl) (by decide) rfl ?_
          refine x_iconst C (v := 1) (k_dg dt_X12_round_0 24 42 (.iconst 1) 1 rfl) (by decide) ?_
          refine x_istore C (lv' := [(5, Value.int 1), (4, Value.int 0), (3, Value.int r5), (0, k_ra Z 76), (1, Value.int p1), (2, Value.int p2)]) (k_dg dt_X12_round_0 25 43 (.istore 5) 2 rfl) (by decide) rfl ?_
          refine x_lv [3, 4, 5, 1, 0] rfl ?_
          exact m_X12_round_45 C (fun l2_ l4_ l5_ M_ => f_X12_round_124 l2_ l4_ l5_ M_) (fun l2_ l4_ l5_ M_ => m_X12_round_124 C l2_ l4_ l5_ M_) k_fu p1 p2 0 1 M6
        · refine x_iload_n C (k_dg dt_X12_round_0 20 37 (.iload_n 3) 1 rfl) 0 rfl ?_
          exact x_iret C (by decide) (by decide) (k_dg dt_X12_round_0 21 38 (.ireturn) 1 rfl)
theorem c_X12_round {Z : k_Z} (hg : k_Gd Z) (l : Launch) (p1 : Int32) (p2 : Int32) (M : k_M) : Con true Z l yX12_round cX12_round 7 (some .int) 5 0 0 emI [k_ra Z 76, Value.int p1, Value.int p2] M (f_X12_round p1 p2 M) := k_con hg (by decide) (Nat.le_of_ble_eq_true rfl) (fun G hl C => m_X12_round_0 C p1 p2 M)
theorem dt_X12_isRule_0 : k_dec cX12_isRule [(0, .iload_n 1, 1), (1, .iconst 0, 1), (2, .aload_n 0, 1), (3, .getfield 312, 3), (6, .iconst 1, 1), (7, .isub, 1), (8, .invokestatic 99, 3), (11, .ireturn, 1)] = true := by decide +kernel
def f_X12_isRule (p1 : Int32) (M : k_M) : Option (Int32 × k_M) := bd (f_X12_in p1 0 ((M.1 76 8) - 1) M) (fun r1 M2 => ckZ r1 (some (r1, M2)))
theorem m_X12_isRule_0 {Z : k_Z} {G : k_G} (C : k_C Z G RX12 cX12_isRule (true, 2, 2, 0, 0) (some .boolean) "isRule") (p1 : Int32) (M : k_M) : Sm Z G emI (true, 2, 2, 0, 0) (0, 0) 0 [(0, k_ra Z 76), (1, Value.int p1)] [] M (f_X12_isRule p1 M) := by
  show Sm Z G emI _ _ _ _ _ _ (bd (f_X12_in p1 0 ((M.1 76 8) - 1) M) (fun r1 M2 => ckZ r1 (some (r1, M2))))
  refine x_iload_n C (k_dg dt_X12_isRule_0 0 0 (.iload_n 1) 1 rfl) 1 rfl ?_
  refine x_iconst C (v := 0) (k_dg dt_X12_isRule_0 1 1 (.iconst 0) 1 rfl) (by decide) ?_
  refine x_aload_n C (k_dg dt_X12_isRule_0 2 2 (.aload_n 0) 1 rfl) 0 rfl ?_
  refine x_getI C (a := 76) (j := 8) rfl rfl (by decide) fl_RX12_312 rfl (k_dg dt_X12_isRule_0 3 3 (.getfield 312) 3 rfl) ?_
  refine x_iconst C (v := 1) (k_dg dt_X12_isRule_0 4 6 (.iconst 1) 1 rfl) (by decide) ?_
  refine x_isub C (k_dg dt_X12_isRule_0 5 7 (.isub) 1 rfl) ?_
  refine x_callS C (vs := [Value.int p1, Value.int 0, Value.int ((M.1 76 8) - 1)]) (rest := []) (c_X12_in C.2.2.2.2.2.2.2.2.2 G.2.1 p1 0 ((M.1 76 8) - 1) M) cy_X12_in lk_RX12_99 stt_X12_in (by decide) (by decide) (by decide) (by decide) rfl rfl (Nat.le_of_ble_eq_true rfl) (k_dg dt_X12_isRule_0 6 8 (.invokestatic 99) 3 rfl) (fun r1 M2 => ?_)
  show Sm Z G _ _ _ _ [(0, k_ra Z 76), (1, Value.int p1)] [Value.int r1] _ _
  refine x_ckZ (fun h3 => ?_)
  exact x_zret C (by decide) (by decide) (k_nz h3) (k_dg dt_X12_isRule_0 7 11 (.ireturn) 1 rfl)
theorem c_X12_isRule {Z : k_Z} (hg : k_Gd Z) (l : Launch) (p1 : Int32) (M : k_M) : Con true Z l yX12_isRule cX12_isRule 2 (some .boolean) 2 0 0 emI [k_ra Z 76, Value.int p1] M (f_X12_isRule p1 M) := k_con hg (by decide) (Nat.le_of_ble_eq_true rfl) (fun G hl C => m_X12_isRule_0 C p1 M)
theorem dt_X12_rule_0 : k_dec cX12_rule [(0, .iload_n 1, 1), (1, .iconst 1, 1), (2, .iconst 5, 1), (3, .invokestatic 99, 3), (6, .ifCond .eq 14, 3), (9, .iload_n 2, 1), (10, .iconst 0, 1), (11, .ldc_w 315, 3), (14, .invokestatic 99, 3), (17, .ifCond .ne 5, 3), (20, .iconst (-1), 1), (21, .ireturn, 1), (22, .aload_n 0, 1), (23, .getfield 312, 3), (26, .iconst 4, 1), (27, .if_icmp .ne 6, 3), (30, .bipush (-2), 2), (32, .ireturn, 1), (33, .aload_n 0, 1), (34, .getfield 22, 3), (37, .iconst 3, 1), (38, .aload_n 0, 1), (39, .getfield 312, 3), (42, .imul, 1), (43, .iload_n 1, 1), (44, .iastore, 1), (45, .aload_n 0, 1), (46, .getfield 22, 3), (49, .iconst 3, 1), (50, .aload_n 0, 1), (51, .getfield 312, 3), (54, .imul, 1), (55, .iconst 1, 1), (56, .iadd, 1), (57, .iload_n 2, 1), (58, .iastore, 1), (59, .aload_n 0, 1), (60, .getfield 22, 3), (63, .iconst 3, 1), (64, .aload_n 0, 1)] = true := by decide +kernel
theorem dt_X12_rule_1 : k_dec cX12_rule [(65, .getfield 312, 3), (68, .imul, 1), (69, .iconst 2, 1), (70, .iadd, 1), (71, .iconst 0, 1), (72, .iastore, 1), (73, .aload_n 0, 1), (74, .dup, 1), (75, .getfield 312, 3), (78, .iconst 1, 1), (79, .iadd, 1), (80, .putfield 312, 3), (83, .aload_n 0, 1), (84, .getfield 312, 3), (87, .iconst 1, 1), (88, .isub, 1), (89, .ireturn, 1)] = true := by decide +kernel
def f_X12_rule (p1 : Int32) (p2 : Int32) (M : k_M) : Option (Int32 × k_M) := bd (f_X12_in p1 1 5 M) (fun r1 M2 => if r1 = 0 then some (-1, M2) else bd (f_X12_in p2 0 65535 M2) (fun r3 M4 => if r3 = 0 then some (-1, M4) else if (M4.1 76 8) = 4 then some (-2, M4) else wrI M4 81 12 (3 * (M4.1 76 8)) p1 (fun M5 => wrI M5 81 12 ((3 * (M5.1 76 8)) + 1) p2 (fun M6 => wrI M6 81 12 ((3 * (M6.1 76 8)) + 2) 0 (fun M7 => bN (sI M7 76 8 ((M7.1 76 8) + 1)) (fun M8 => some ((M8.1 76 8) - 1, M8)))))))
theorem m_X12_rule_0 {Z : k_Z} {G : k_G} (C : k_C Z G RX12 cX12_rule (true, 3, 2, 0, 0) (some .int) "rule") (p1 : Int32) (p2 : Int32) (M : k_M) : Sm Z G emI (true, 3, 2, 0, 0) (0, 0) 0 [(0, k_ra Z 76), (1, Value.int p1), (2, Value.int p2)] [] M (f_X12_rule p1 p2 M) := by
  show Sm Z G emI _ _ _ _ _ _ (bd (f_X12_in p1 1 5 M) (fun r1 M2 => if r1 = 0 then some (-1, M2) else bd (f_X12_in p2 0 65535 M2) (fun r3 M4 => if r3 = 0 then some (-1, M4) else if (M4.1 76 8) = 4 then some (-2, M4) else wrI M4 81 12 (3 * (M4.1 76 8)) p1 (fun M5 => wrI M5 81 12 ((3 * (M5.1 76 8)) + 1) p2 (fun M6 => wrI M6 81 12 ((3 * (M6.1 76 8)) + 2) 0 (fun M7 => bN (sI M7 76 8 ((M7.1 76 8) + 1)) (fun M8 => some ((M8.1 76 8) - 1, M8))))))))
  refine x_iload_n C (k_dg dt_X12_rule_0 0 0 (.iload_n 1) 1 rfl) 1 rfl ?_
  refine x_iconst C (v := 1) (k_dg dt_X12_rule_0 1 1 (.iconst 1) 1 rfl) (by decide) ?_
  refine x_iconst C (v := 5) (k_dg dt_X12_rule_0 2 2 (.iconst 5) 1 rfl) (by decide) ?_
  refine x_callS C (vs := [Value.int p1, Value.int 1, Value.int 5]) (rest := []) (c_X12_in C.2.2.2.2.2.2.2.2.2 G.2.1 p1 1 5 M) cy_X12_in lk_RX12_99 stt_X12_in (by decide) (by decide) (by decide) (by decide) rfl rfl (Nat.le_of_ble_eq_true rfl) (k_dg dt_X12_rule_0 3 3 (.invokestatic 99) 3 rfl) (fun r1 M2 => ?_)
  show Sm Z G _ _ _ _ [(0, k_ra Z 76), (1, Value.int p1), (2, Value.int p2)] [Value.int r1] _ _
  refine x_if_eq C (tgt := 20) (k_dg dt_X12_rule_0 4 6 (.ifCond .eq 14) 3 rfl) (by decide) (fun _ => ?_) (fun _ => ?_)
  · refine x_iconst C (v := -1) (k_dg dt_X12_rule_0 10 20 (.iconst (-1)) 1 rfl) (by decide) ?_
    exact x_iret C (by decide) (by decide) (k_dg dt_X12_rule_0 11 21 (.ireturn) 1 rfl)
  · refine x_iload_n C (k_dg dt_X12_rule_0 5 9 (.iload_n 2) 1 rfl) 2 rfl ?_
    refine x_iconst C (v := 0) (k_dg dt_X12_rule_0 6 10 (.iconst 0) 1 rfl) (by decide) ?_
    refine x_ldcw C (v := 65535) ct_RX12_315 (k_dg dt_X12_rule_0 7 11 (.ldc_w 315) 3 rfl) ?_
    refine x_callS C (vs := [Value.int p2, Value.int 0, Value.int 65535]) (rest := []) (c_X12_in C.2.2.2.2.2.2.2.2.2 G.2.1 p2 0 65535 M2) cy_X12_in lk_RX12_99 stt_X12_in (by decide) (by decide) (by decide) (by decide) rfl rfl (Nat.le_of_ble_eq_true rfl) (k_dg dt_X12_rule_0 8 14 (.invokestatic 99) 3 rfl) (fun r3 M4 => ?_)
    show Sm Z G _ _ _ _ [(0, k_ra Z 76), (1, Value.int p1), (2, Value.int p2)] [Value.int r3] _ _
    refine x_if_ne C (tgt := 22) (k_dg dt_X12_rule_0 9 17 (.ifCond .ne 5) 3 rfl) (by decide) (fun _ => ?_) (fun _ => ?_)
    · refine x_iconst C (v := -1) (k_dg dt_X12_rule_0 10 20 (.iconst (-1)) 1 rfl) (by decide) ?_
      exact x_iret C (by decide) (by decide) (k_dg dt_X12_rule_0 11 21 (.ireturn) 1 rfl)
    · refine x_aload_n C (k_dg dt_X12_rule_0 12 22 (.aload_n 0) 1 rfl) 0 rfl ?_
      refine x_getI C (a := 76) (j := 8) rfl rfl (by decide) fl_RX12_312 rfl (k_dg dt_X12_rule_0 13 23 (.getfield 312) 3 rfl) ?_
      refine x_iconst C (v := 4) (k_dg dt_X12_rule_0 14 26 (.iconst 4) 1 rfl) (by decide) ?_
      refine x_icmp_ne C (tgt := 33) (k_dg dt_X12_rule_0 15 27 (.if_icmp .ne 6) 3 rfl) (by decide) (fun _ => ?_) (fun _ => ?_)
      · refine x_bipush C (v := -2) (k_dg dt_X12_rule_0 16 30 (.bipush (-2)) 2 rfl) (by decide) ?_
        exact x_iret C (by decide) (by decide) (k_dg dt_X12_rule_0 17 32 (.ireturn) 1 rfl)
      · refine x_aload_n C (k_dg dt_X12_rule_0 18 33 (.aload_n 0) 1 rfl) 0 rfl ?_
        refine x_getR C (a := 76) (j := 9) 81 rfl rfl (by decide) fl_RX12_22 rfl rfl rfl (k_dg dt_X12_rule_0 19 34 (.getfield 22) 3 rfl) ?_
        refine x_iconst C (v := 3) (k_dg dt_X12_rule_0 20 37 (.iconst 3) 1 rfl) (by decide) ?_
        refine x_aload_n C (k_dg dt_X12_rule_0 21 38 (.aload_n 0) 1 rfl) 0 rfl ?_
        refine x_getI C (a := 76) (j := 8) rfl rfl (by decide) fl_RX12_312 rfl (k_dg dt_X12_rule_0 22 39 (.getfield 312) 3 rfl) ?_
        refine x_imul C (k_dg dt_X12_rule_0 23 42 (.imul) 1 rfl) ?_
        refine x_iload_n C (k_dg dt_X12_rule_0 24 43 (.iload_n 1) 1 rfl) 1 rfl ?_
        refine x_iast C (a := 81) (n := 12) rfl rfl (k_dg dt_X12_rule_0 25 44 (.iastore) 1 rfl) (fun M5 => ?_)
        refine x_aload_n C (k_dg dt_X12_rule_0 26 45 (.aload_n 0) 1 rfl) 0 rfl ?_
        refine x_getR C (a := 76) (j := 9) 81 rfl rfl (by decide) fl_RX12_22 rfl rfl rfl (k_dg dt_X12_rule_0 27 46 (.getfield 22) 3 rfl) ?_
        refine x_iconst C (v := 3) (k_dg dt_X12_rule_0 28 49 (.iconst 3) 1 rfl) (by decide) ?_
        refine x_aload_n C (k_dg dt_X12_rule_0 29 50 (.aload_n 0) 1 rfl) 0 rfl ?_
        refine x_getI C (a := 76) (j := 8) rfl rfl (by decide) fl_RX12_312 rfl (k_dg dt_X12_rule_0 30 51 (.getfield 312) 3 rfl) ?_
        refine x_imul C (k_dg dt_X12_rule_0 31 54 (.imul) 1 rfl) ?_
        refine x_iconst C (v := 1) (k_dg dt_X12_rule_0 32 55 (.iconst 1) 1 rfl) (by decide) ?_
        refine x_iadd C (k_dg dt_X12_rule_0 33 56 (.iadd) 1 rfl) ?_
        refine x_iload_n C (k_dg dt_X12_rule_0 34 57 (.iload_n 2) 1 rfl) 2 rfl ?_
        refine x_iast C (a := 81) (n := 12) rfl rfl (k_dg dt_X12_rule_0 35 58 (.iastore) 1 rfl) (fun M6 => ?_)
        refine x_aload_n C (k_dg dt_X12_rule_0 36 59 (.aload_n 0) 1 rfl) 0 rfl ?_
        refine x_getR C (a := 76) (j := 9) 81 rfl rfl (by decide) fl_RX12_22 rfl rfl rfl (k_dg dt_X12_rule_0 37 60 (.getfield 22) 3 rfl) ?_
        refine x_iconst C (v := 3) (k_dg dt_X12_rule_0 38 63 (.iconst 3) 1 rfl) (by decide) ?_
        refine x_aload_n C (k_dg dt_X12_rule_0 39 64 (.aload_n 0) 1 rfl) 0 rfl ?_
        refine x_getI C (a := 76) (j := 8) rfl rfl (by decide) fl_RX12_312 rfl (k_dg dt_X12_rule_1 0 65 (.getfield 312) 3 rfl) ?_
        refine x_imul C (k_dg dt_X12_rule_1 1 68 (.imul) 1 rfl) ?_
        refine x_iconst C (v := 2) (k_dg dt_X12_rule_1 2 69 (.iconst 2) 1 rfl) (by decide) ?_
        refine x_iadd C (k_dg dt_X12_rule_1 3 70 (.iadd) 1 rfl) ?_
        refine x_iconst C (v := 0) (k_dg dt_X12_rule_1 4 71 (.iconst 0) 1 rfl) (by decide) ?_
        refine x_iast C (a := 81) (n := 12) rfl rfl (k_dg dt_X12_rule_1 5 72 (.iastore) 1 rfl) (fun M7 => ?_)
        refine x_aload_n C (k_dg dt_X12_rule_1 6 73 (.aload_n 0) 1 rfl) 0 rfl ?_
        refine x_dup C (k_dg dt_X12_rule_1 7 74 (.dup) 1 rfl) rfl ?_
        refine x_getI C (a := 76) (j := 8) rfl rfl (by decide) fl_RX12_312 rfl (k_dg dt_X12_rule_1 8 75 (.getfield 312) 3 rfl) ?_
        refine x_iconst C (v := 1) (k_dg dt_X12_rule_1 9 78 (.iconst 1) 1 rfl) (by decide) ?_
        refine x_iadd C (k_dg dt_X12_rule_1 10 79 (.iadd) 1 rfl) ?_
        refine x_putI C (a := 76) (j := 8) rfl rfl (by decide) fl_RX12_312 rfl pt_10_8 tb_10 rfl rfl (k_dg dt_X12_rule_1 11 80 (.putfield 312) 3 rfl) (fun M8 => ?_)
        refine x_aload_n C (k_dg dt_X12_rule_1 12 83 (.aload_n 0) 1 rfl) 0 rfl ?_
        refine x_getI C (a := 76) (j := 8) rfl rfl (by decide) fl_RX12_312 rfl (k_dg dt_X12_rule_1 13 84 (.getfield 312) 3 rfl) ?_
        refine x_iconst C (v := 1) (k_dg dt_X12_rule_1 14 87 (.iconst 1) 1 rfl) (by decide) ?_
        refine x_isub C (k_dg dt_X12_rule_1 15 88 (.isub) 1 rfl) ?_
        exact x_iret C (by decide) (by decide) (k_dg dt_X12_rule_1 16 89 (.ireturn) 1 rfl)
theorem c_X12_rule {Z : k_Z} (hg : k_Gd Z) (l : Launch) (p1 : Int32) (p2 : Int32) (M : k_M) : Con true Z l yX12_rule cX12_rule 3 (some .int) 2 0 0 emI [k_ra Z 76, Value.int p1, Value.int p2] M (f_X12_rule p1 p2 M) := k_con hg (by decide) (Nat.le_of_ble_eq_true rfl) (fun G hl C => m_X12_rule_0 C p1 p2 M)
theorem dt_X12_ruleOf_0 : k_dec cX12_ruleOf [(0, .aload_n 0, 1), (1, .iload_n 1, 1), (2, .invokevirtual 316, 3), (5, .ifCond .eq 25, 3), (8, .iload_n 2, 1), (9, .iconst 0, 1), (10, .iconst 2, 1), (11, .invokestatic 99, 3), (14, .ifCond .eq 16, 3), (17, .aload_n 0, 1), (18, .getfield 22, 3), (21, .iconst 3, 1), (22, .iload_n 1, 1), (23, .imul, 1), (24, .iload_n 2, 1), (25, .iadd, 1), (26, .iaload, 1), (27, .goto 4, 3), (30, .iconst (-1), 1), (31, .ireturn, 1)] = true := by decide +kernel
def f_X12_ruleOf (p1 : Int32) (p2 : Int32) (M : k_M) : Option (Int32 × k_M) := bd (f_X12_isRule p1 M) (fun r1 M2 => if r1 = 0 then some (-1, M2) else bd (f_X12_in p2 0 2 M2) (fun r3 M4 => if r3 = 0 then some (-1, M4) else rdI M4 81 12 ((3 * p1) + p2) (fun v5 => some (v5, M4))))
theorem m_X12_ruleOf_0 {Z : k_Z} {G : k_G} (C : k_C Z G RX12 cX12_ruleOf (true, 3, 3, 0, 0) (some .int) "ruleOf") (p1 : Int32) (p2 : Int32) (M : k_M) : Sm Z G emI (true, 3, 3, 0, 0) (0, 0) 0 [(0, k_ra Z 76), (1, Value.int p1), (2, Value.int p2)] [] M (f_X12_ruleOf p1 p2 M) := by
  show Sm Z G emI _ _ _ _ _ _ (bd (f_X12_isRule p1 M) (fun r1 M2 => if r1 = 0 then some (-1, M2) else bd (f_X12_in p2 0 2 M2) (fun r3 M4 => if r3 = 0 then some (-1, M4) else rdI M4 81 12 ((3 * p1) + p2) (fun v5 => some (v5, M4)))))
  refine x_aload_n C (k_dg dt_X12_ruleOf_0 0 0 (.aload_n 0) 1 rfl) 0 rfl ?_
  refine x_iload_n C (k_dg dt_X12_ruleOf_0 1 1 (.iload_n 1) 1 rfl) 1 rfl ?_
  refine x_callV C (a := 76) (kd := 10) (vs := [Value.int p1]) (rest := []) rfl rfl (by decide) (fun r hr => by cases hr; rfl) (c_X12_isRule C.2.2.2.2.2.2.2.2.2 G.2.1 p1 M) cy_X12_isRule lk_RX12_316 im_X12_isRule se_X12_isRule (by decide) (by decide) (by decide) (by decide) rfl rfl (Nat.le_of_ble_eq_true rfl) (k_dg dt_X12_ruleOf_0 2 2 (.invokevirtual 316) 3 rfl) (fun r1 M2 => ?_)
  show Sm Z G _ _ _ _ [(0, k_ra Z 76), (1, Value.int p1), (2, Value.int p2)] [Value.int r1] _ _
  refine x_if_eq C (tgt := 30) (k_dg dt_X12_ruleOf_0 3 5 (.ifCond .eq 25) 3 rfl) (by decide) (fun _ => ?_) (fun _ => ?_)
  · refine x_iconst C (v := -1) (k_dg dt_X12_ruleOf_0 18 30 (.iconst (-1)) 1 rfl) (by decide) ?_
    exact x_iret C (by decide) (by decide) (k_dg dt_X12_ruleOf_0 19 31 (.ireturn) 1 rfl)
  · refine x_iload_n C (k_dg dt_X12_ruleOf_0 4 8 (.iload_n 2) 1 rfl) 2 rfl ?_
    refine x_iconst C (v := 0) (k_dg dt_X12_ruleOf_0 5 9 (.iconst 0) 1 rfl) (by decide) ?_
    refine x_iconst C (v := 2) (k_dg dt_X12_ruleOf_0 6 10 (.iconst 2) 1 rfl) (by decide) ?_
    refine x_callS C (vs := [Value.int p2, Value.int 0, Value.int 2]) (rest := []) (c_X12_in C.2.2.2.2.2.2.2.2.2 G.2.1 p2 0 2 M2) cy_X12_in lk_RX12_99 stt_X12_in (by decide) (by decide) (by decide) (by decide) rfl rfl (Nat.le_of_ble_eq_true rfl) (k_dg dt_X12_ruleOf_0 7 11 (.invokestatic 99) 3 rfl) (fun r3 M4 => ?_)
    show Sm Z G _ _ _ _ [(0, k_ra Z 76), (1, Value.int p1), (2, Value.int p2)] [Value.int r3] _ _
    refine x_if_eq C (tgt := 30) (k_dg dt_X12_ruleOf_0 8 14 (.ifCond .eq 16) 3 rfl) (by decide) (fun _ => ?_) (fun _ => ?_)
    · refine x_iconst C (v := -1) (k_dg dt_X12_ruleOf_0 18 30 (.iconst (-1)) 1 rfl) (by decide) ?_
      exact x_iret C (by decide) (by decide) (k_dg dt_X12_ruleOf_0 19 31 (.ireturn) 1 rfl)
    · refine x_aload_n C (k_dg dt_X12_ruleOf_0 9 17 (.aload_n 0) 1 rfl) 0 rfl ?_
      refine x_getR C (a := 76) (j := 9) 81 rfl rfl (by decide) fl_RX12_22 rfl rfl rfl (k_dg dt_X12_ruleOf_0 10 18 (.getfield 22) 3 rfl) ?_
      refine x_iconst C (v := 3) (k_dg dt_X12_ruleOf_0 11 21 (.iconst 3) 1 rfl) (by decide) ?_
      refine x_iload_n C (k_dg dt_X12_ruleOf_0 12 22 (.iload_n 1) 1 rfl) 1 rfl ?_
      refine x_imul C (k_dg dt_X12_ruleOf_0 13 23 (.imul) 1 rfl) ?_
      refine x_iload_n C (k_dg dt_X12_ruleOf_0 14 24 (.iload_n 2) 1 rfl) 2 rfl ?_
      refine x_iadd C (k_dg dt_X12_ruleOf_0 15 25 (.iadd) 1 rfl) ?_
      refine x_iald C (a := 81) (n := 12) rfl rfl (k_dg dt_X12_ruleOf_0 16 26 (.iaload) 1 rfl) (fun v5 => ?_)
      refine x_goto C (tgt := 31) (k_dg dt_X12_ruleOf_0 17 27 (.goto 4) 3 rfl) (by decide) ?_
      exact x_iret C (by decide) (by decide) (k_dg dt_X12_ruleOf_0 19 31 (.ireturn) 1 rfl)
theorem c_X12_ruleOf {Z : k_Z} (hg : k_Gd Z) (l : Launch) (p1 : Int32) (p2 : Int32) (M : k_M) : Con true Z l yX12_ruleOf cX12_ruleOf 3 (some .int) 3 0 0 emI [k_ra Z 76, Value.int p1, Value.int p2] M (f_X12_ruleOf p1 p2 M) := k_con hg (by decide) (Nat.le_of_ble_eq_true rfl) (fun G hl C => m_X12_ruleOf_0 C p1 p2 M)
theorem dt_X12_leads_0 : k_dec cX12_leads [(0, .aload_n 0, 1), (1, .iload_n 1, 1), (2, .iconst 0, 1), (3, .invokevirtual 106, 3), (6, .iload_n 2, 1), (7, .if_icmp .eq 15, 3), (10, .aload_n 0, 1), (11, .iload_n 1, 1), (12, .iconst 1, 1), (13, .invokevirtual 106, 3), (16, .iload_n 2, 1), (17, .if_icmp .eq 5, 3), (20, .iconst 0, 1), (21, .ireturn, 1), (22, .aload_n 0, 1), (23, .iload_n 1, 1), (24, .iconst 0, 1), (25, .invokevirtual 106, 3), (28, .iload_n 2, 1), (29, .if_icmp .ne 12, 3), (32, .aload_n 0, 1), (33, .iload_n 1, 1), (34, .iconst 1, 1), (35, .invokevirtual 106, 3), (38, .goto 9, 3), (41, .aload_n 0, 1), (42, .iload_n 1, 1), (43, .iconst 0, 1), (44, .invokevirtual 106, 3), (47, .istore 4, 2), (49, .aload_n 0, 1), (50, .getfield 61, 3), (53, .bipush 8, 2), (55, .iload 4, 2), (57, .imul, 1), (58, .iload_n 3, 1), (59, .iadd, 1), (60, .iaload, 1), (61, .ifCond .lt 40, 3), (64, .aload_n 0, 1)] = true := by decide +kernel
theorem dt_X12_leads_1 : k_dec cX12_leads [(65, .iload_n 1, 1), (66, .iconst 2, 1), (67, .invokevirtual 106, 3), (70, .aload_n 0, 1), (71, .getfield 61, 3), (74, .bipush 8, 2), (76, .iload 4, 2), (78, .imul, 1), (79, .iload_n 3, 1), (80, .iadd, 1), (81, .iaload, 1), (82, .iadd, 1), (83, .aload_n 0, 1), (84, .getfield 61, 3), (87, .bipush 8, 2), (89, .iload_n 2, 1), (90, .imul, 1), (91, .iload_n 3, 1), (92, .iadd, 1), (93, .iaload, 1), (94, .if_icmp .ne 7, 3), (97, .iconst 1, 1), (98, .goto 4, 3), (101, .iconst 0, 1), (102, .ireturn, 1)] = true := by decide +kernel
def f_X12_leads_47 (l1 : Int32) (l2 : Int32) (l3 : Int32) (t0 : Int32) (M : k_M) : Option (Int32 × k_M) := rdI M 94 64 ((8 * t0) + l3) (fun v1 => if v1 < 0 then some (0, M) else bd (f_X12_wayIts l1 2 M) (fun r2 M3 => rdI M3 94 64 ((8 * t0) + l3) (fun v4 => rdI M3 94 64 ((8 * l2) + l3) (fun v5 => if (r2 + v4) = v5 then some (1, M3) else some (0, M3)))))
theorem m_X12_leads_47 {Z : k_Z} {G : k_G} (C : k_C Z G RX12 cX12_leads (true, 5, 2, 0, 0) (some .boolean) "leads") (l1 : Int32) (l2 : Int32) (l3 : Int32) (t0 : Int32) (M : k_M) : Sm Z G emI (true, 5, 2, 0, 0) (0, 0) 47 [(0, k_ra Z 76), (1, Value.int l1), (2, Value.int l2), (3, Value.int l3)] [Value.int t0] M (f_X12_leads_47 l1 l2 l3 t0 M) := by
  show Sm Z G emI _ _ _ _ _ _ (rdI M 94 64 ((8 * t0) + l3) (fun v1 => if v1 < 0 then some (0, M) else bd (f_X12_wayIts l1 2 M) (fun r2 M3 => rdI M3 94 64 ((8 * t0) + l3) (fun v4 => rdI M3 94 64 ((8 * l2) + l3) (fun v5 => if (r2 + v4) = v5 then some (1, M3) else some (0, M3))))))
  refine x_istore C (lv' := [(4, Value.int t0), (0, k_ra Z 76), (1, Value.int l1), (2, Value.int l2), (3, Value.int l3)]) (k_dg dt_X12_leads_0 29 47 (.istore 4) 2 rfl) (by decide) rfl ?_
  refine x_aload_n C (k_dg dt_X12_leads_0 30 49 (.aload_n 0) 1 rfl) 1 rfl ?_
  refine x_getR C (a := 76) (j := 34) 94 rfl rfl (by decide) fl_RX12_61 rfl rfl rfl (k_dg dt_X12_leads_0 31 50 (.getfield 61) 3 rfl) ?_
  refine x_bipush C (v := 8) (k_dg dt_X12_leads_0 32 53 (.bipush 8) 2 rfl) (by decide) ?_
  refine x_iload C (k_dg dt_X12_leads_0 33 55 (.iload 4) 2 rfl) 0 rfl ?_
  refine x_imul C (k_dg dt_X12_leads_0 34 57 (.imul) 1 rfl) ?_
  refine x_iload_n C (k_dg dt_X12_leads_0 35 58 (.iload_n 3) 1 rfl) 4 rfl ?_
  refine x_iadd C (k_dg dt_X12_leads_0 36 59 (.iadd) 1 rfl) ?_
  refine x_iald C (a := 94) (n := 64) rfl rfl (k_dg dt_X12_leads_0 37 60 (.iaload) 1 rfl) (fun v1 => ?_)
  refine x_if_lt C (tgt := 101) (k_dg dt_X12_leads_0 38 61 (.ifCond .lt 40) 3 rfl) (by decide) (fun _ => ?_) (fun _ => ?_)
  · refine x_iconst C (v := 0) (k_dg dt_X12_leads_1 23 101 (.iconst 0) 1 rfl) (by decide) ?_
    exact x_zret C (by decide) (by decide) rfl (k_dg dt_X12_leads_1 24 102 (.ireturn) 1 rfl)
  · refine x_aload_n C (k_dg dt_X12_leads_0 39 64 (.aload_n 0) 1 rfl) 1 rfl ?_
    refine x_iload_n C (k_dg dt_X12_leads_1 0 65 (.iload_n 1) 1 rfl) 2 rfl ?_
    refine x_iconst C (v := 2) (k_dg dt_X12_leads_1 1 66 (.iconst 2) 1 rfl) (by decide) ?_
    refine x_callV C (a := 76) (kd := 10) (vs := [Value.int l1, Value.int 2]) (rest := []) rfl rfl (by decide) (fun r hr => by cases hr; rfl) (c_X12_wayIts C.2.2.2.2.2.2.2.2.2 G.2.1 l1 2 M) cy_X12_wayIts lk_RX12_106 im_X12_wayIts se_X12_wayIts (by decide) (by decide) (by decide) (by decide) rfl rfl (Nat.le_of_ble_eq_true rfl) (k_dg dt_X12_leads_1 2 67 (.invokevirtual 106) 3 rfl) (fun r2 M3 => ?_)
    show Sm Z G _ _ _ _ [(4, Value.int t0), (0, k_ra Z 76), (1, Value.int l1), (2, Value.int l2), (3, Value.int l3)] [Value.int r2] _ _
    refine x_aload_n C (k_dg dt_X12_leads_1 3 70 (.aload_n 0) 1 rfl) 1 rfl ?_
    refine x_getR C (a := 76) (j := 34) 94 rfl rfl (by decide) fl_RX12_61 rfl rfl rfl (k_dg dt_X12_leads_1 4 71 (.getfield 61) 3 rfl) ?_
    refine x_bipush C (v := 8) (k_dg dt_X12_leads_1 5 74 (.bipush 8) 2 rfl) (by decide) ?_
    refine x_iload C (k_dg dt_X12_leads_1 6 76 (.iload 4) 2 rfl) 0 rfl ?_
    refine x_imul C (k_dg dt_X12_leads_1 7 78 (.imul) 1 rfl) ?_
    refine x_iload_n C (k_dg dt_X12_leads_1 8 79 (.iload_n 3) 1 rfl) 4 rfl ?_
    refine x_iadd C (k_dg dt_X12_leads_1 9 80 (.iadd) 1 rfl) ?_
    refine x_iald C (a := 94) (n := 64) rfl rfl (k_dg dt_X12_leads_1 10 81 (.iaload) 1 rfl) (fun v4 => ?_)
    refine x_iadd C (k_dg dt_X12_leads_1 11 82 (.iadd) 1 rfl) ?_
    refine x_aload_n C (k_dg dt_X12_leads_1 12 83 (.aload_n 0) 1 rfl) 1 rfl ?_
    refine x_getR C (a := 76) (j := 34) 94 rfl rfl (by decide) fl_RX12_61 rfl rfl rfl (k_dg dt_X12_leads_1 13 84 (.getfield 61) 3 rfl) ?_
    refine x_bipush C (v := 8) (k_dg dt_X12_leads_1 14 87 (.bipush 8) 2 rfl) (by decide) ?_
    refine x_iload_n C (k_dg dt_X12_leads_1 15 89 (.iload_n 2) 1 rfl) 3 rfl ?_
    refine x_imul C (k_dg dt_X12_leads_1 16 90 (.imul) 1 rfl) ?_
    refine x_iload_n C (k_dg dt_X12_leads_1 17 91 (.iload_n 3) 1 rfl) 4 rfl ?_
    refine x_iadd C (k_dg dt_X12_leads_1 18 92 (.iadd) 1 rfl) ?_
    refine x_iald C (a := 94) (n := 64) rfl rfl (k_dg dt_X12_leads_1 19 93 (.iaload) 1 rfl) (fun v5 => ?_)
    refine x_icmp_ne C (tgt := 101) (k_dg dt_X12_leads_1 20 94 (.if_icmp .ne 7) 3 rfl) (by decide) (fun _ => ?_) (fun _ => ?_)
    · refine x_iconst C (v := 1) (k_dg dt_X12_leads_1 21 97 (.iconst 1) 1 rfl) (by decide) ?_
      refine x_goto C (tgt := 102) (k_dg dt_X12_leads_1 22 98 (.goto 4) 3 rfl) (by decide) ?_
      exact x_zret C (by decide) (by decide) rfl (k_dg dt_X12_leads_1 24 102 (.ireturn) 1 rfl)
    · refine x_iconst C (v := 0) (k_dg dt_X12_leads_1 23 101 (.iconst 0) 1 rfl) (by decide) ?_
      exact x_zret C (by decide) (by decide) rfl (k_dg dt_X12_leads_1 24 102 (.ireturn) 1 rfl)
def f_X12_leads_22 (l1 : Int32) (l2 : Int32) (l3 : Int32) (M : k_M) : Option (Int32 × k_M) := bd (f_X12_wayIts l1 0 M) (fun r1 M2 => if r1 = l2 then bd (f_X12_wayIts l1 1 M2) (fun r5 M6 => f_X12_leads_47 l1 l2 l3 r5 M6) else bd (f_X12_wayIts l1 0 M2) (fun r3 M4 => f_X12_leads_47 l1 l2 l3 r3 M4))
theorem m_X12_leads_22 {Z : k_Z} {G : k_G} (C : k_C Z G RX12 cX12_leads (true, 5, 2, 0, 0) (some .boolean) "leads") (l1 : Int32) (l2 : Int32) (l3 : Int32) (M : k_M) : Sm Z G emI (true, 5, 2, 0, 0) (0, 0) 22 [(0, k_ra Z 76), (1, Value.int l1), (2, Value.int l2), (3, Value.int l3)] [] M (f_X12_leads_22 l1 l2 l3 M) := by
  show Sm Z G emI _ _ _ _ _ _ (bd (f_X12_wayIts l1 0 M) (fun r1 M2 => if r1 = l2 then bd (f_X12_wayIts l1 1 M2) (fun r5 M6 => f_X12_leads_47 l1 l2 l3 r5 M6) else bd (f_X12_wayIts l1 0 M2) (fun r3 M4 => f_X12_leads_47 l1 l2 l3 r3 M4)))
  refine x_aload_n C (k_dg dt_X12_leads_0 14 22 (.aload_n 0) 1 rfl) 0 rfl ?_
  refine x_iload_n C (k_dg dt_X12_leads_0 15 23 (.iload_n 1) 1 rfl) 1 rfl ?_
  refine x_iconst C (v := 0) (k_dg dt_X12_leads_0 16 24 (.iconst 0) 1 rfl) (by decide) ?_
  refine x_callV C (a := 76) (kd := 10) (vs := [Value.int l1, Value.int 0]) (rest := []) rfl rfl (by decide) (fun r hr => by cases hr; rfl) (c_X12_wayIts C.2.2.2.2.2.2.2.2.2 G.2.1 l1 0 M) cy_X12_wayIts lk_RX12_106 im_X12_wayIts se_X12_wayIts (by decide) (by decide) (by decide) (by decide) rfl rfl (Nat.le_of_ble_eq_true rfl) (k_dg dt_X12_leads_0 17 25 (.invokevirtual 106) 3 rfl) (fun r1 M2 => ?_)
  show Sm Z G _ _ _ _ [(0, k_ra Z 76), (1, Value.int l1), (2, Value.int l2), (3, Value.int l3)] [Value.int r1] _ _
  refine x_iload_n C (k_dg dt_X12_leads_0 18 28 (.iload_n 2) 1 rfl) 2 rfl ?_
  refine x_icmp_ne C (tgt := 41) (k_dg dt_X12_leads_0 19 29 (.if_icmp .ne 12) 3 rfl) (by decide) (fun _ => ?_) (fun _ => ?_)
  · refine x_aload_n C (k_dg dt_X12_leads_0 20 32 (.aload_n 0) 1 rfl) 0 rfl ?_
    refine x_iload_n C (k_dg dt_X12_leads_0 21 33 (.iload_n 1) 1 rfl) 1 rfl ?_
    refine x_iconst C (v := 1) (k_dg dt_X12_leads_0 22 34 (.iconst 1) 1 rfl) (by decide) ?_
    refine x_callV C (a := 76) (kd := 10) (vs := [Value.int l1, Value.int 1]) (rest := []) rfl rfl (by decide) (fun r hr => by cases hr; rfl) (c_X12_wayIts C.2.2.2.2.2.2.2.2.2 G.2.1 l1 1 M2) cy_X12_wayIts lk_RX12_106 im_X12_wayIts se_X12_wayIts (by decide) (by decide) (by decide) (by decide) rfl rfl (Nat.le_of_ble_eq_true rfl) (k_dg dt_X12_leads_0 23 35 (.invokevirtual 106) 3 rfl) (fun r5 M6 => ?_)
    show Sm Z G _ _ _ _ [(0, k_ra Z 76), (1, Value.int l1), (2, Value.int l2), (3, Value.int l3)] [Value.int r5] _ _
    refine x_goto C (tgt := 47) (k_dg dt_X12_leads_0 24 38 (.goto 9) 3 rfl) (by decide) ?_
    exact m_X12_leads_47 C l1 l2 l3 r5 M6
  · refine x_aload_n C (k_dg dt_X12_leads_0 25 41 (.aload_n 0) 1 rfl) 0 rfl ?_
    refine x_iload_n C (k_dg dt_X12_leads_0 26 42 (.iload_n 1) 1 rfl) 1 rfl ?_
    refine x_iconst C (v := 0) (k_dg dt_X12_leads_0 27 43 (.iconst 0) 1 rfl) (by decide) ?_
    refine x_callV C (a := 76) (kd := 10) (vs := [Value.int l1, Value.int 0]) (rest := []) rfl rfl (by decide) (fun r hr => by cases hr; rfl) (c_X12_wayIts C.2.2.2.2.2.2.2.2.2 G.2.1 l1 0 M2) cy_X12_wayIts lk_RX12_106 im_X12_wayIts se_X12_wayIts (by decide) (by decide) (by decide) (by decide) rfl rfl (Nat.le_of_ble_eq_true rfl) (k_dg dt_X12_leads_0 28 44 (.invokevirtual 106) 3 rfl) (fun r3 M4 => ?_)
    show Sm Z G _ _ _ _ [(0, k_ra Z 76), (1, Value.int l1), (2, Value.int l2), (3, Value.int l3)] [Value.int r3] _ _
    exact m_X12_leads_47 C l1 l2 l3 r3 M4
def f_X12_leads (p1 : Int32) (p2 : Int32) (p3 : Int32) (M : k_M) : Option (Int32 × k_M) := bd (f_X12_wayIts p1 0 M) (fun r1 M2 => if r1 = p2 then f_X12_leads_22 p1 p2 p3 M2 else bd (f_X12_wayIts p1 1 M2) (fun r3 M4 => if r3 = p2 then f_X12_leads_22 p1 p2 p3 M4 else some (0, M4)))
theorem m_X12_leads_0 {Z : k_Z} {G : k_G} (C : k_C Z G RX12 cX12_leads (true, 5, 2, 0, 0) (some .boolean) "leads") (p1 : Int32) (p2 : Int32) (p3 : Int32) (M : k_M) : Sm Z G emI (true, 5, 2, 0, 0) (0, 0) 0 [(0, k_ra Z 76), (1, Value.int p1), (2, Value.int p2), (3, Value.int p3)] [] M (f_X12_leads p1 p2 p3 M) := by
  show Sm Z G emI _ _ _ _ _ _ (bd (f_X12_wayIts p1 0 M) (fun r1 M2 => if r1 = p2 then f_X12_leads_22 p1 p2 p3 M2 else bd (f_X12_wayIts p1 1 M2) (fun r3 M4 => if r3 = p2 then f_X12_leads_22 p1 p2 p3 M4 else some (0, M4))))
  refine x_aload_n C (k_dg dt_X12_leads_0 0 0 (.aload_n 0) 1 rfl) 0 rfl ?_
  refine x_iload_n C (k_dg dt_X12_leads_0 1 1 (.iload_n 1) 1 rfl) 1 rfl ?_
  refine x_iconst C (v := 0) (k_dg dt_X12_leads_0 2 2 (.iconst 0) 1 rfl) (by decide) ?_
  refine x_callV C (a := 76) (kd := 10) (vs := [Value.int p1, Value.int 0]) (rest := []) rfl rfl (by decide) (fun r hr => by cases hr; rfl) (c_X12_wayIts C.2.2.2.2.2.2.2.2.2 G.2.1 p1 0 M) cy_X12_wayIts lk_RX12_106 im_X12_wayIts se_X12_wayIts (by decide) (by decide) (by decide) (by decide) rfl rfl (Nat.le_of_ble_eq_true rfl) (k_dg dt_X12_leads_0 3 3 (.invokevirtual 106) 3 rfl) (fun r1 M2 => ?_)
  show Sm Z G _ _ _ _ [(0, k_ra Z 76), (1, Value.int p1), (2, Value.int p2), (3, Value.int p3)] [Value.int r1] _ _
  refine x_iload_n C (k_dg dt_X12_leads_0 4 6 (.iload_n 2) 1 rfl) 2 rfl ?_
  refine x_icmp_eq C (tgt := 22) (k_dg dt_X12_leads_0 5 7 (.if_icmp .eq 15) 3 rfl) (by decide) (fun _ => ?_) (fun _ => ?_)
  · exact m_X12_leads_22 C p1 p2 p3 M2
  · refine x_aload_n C (k_dg dt_X12_leads_0 6 10 (.aload_n 0) 1 rfl) 0 rfl ?_
    refine x_iload_n C (k_dg dt_X12_leads_0 7 11 (.iload_n 1) 1 rfl) 1 rfl ?_
    refine x_iconst C (v := 1) (k_dg dt_X12_leads_0 8 12 (.iconst 1) 1 rfl) (by decide) ?_
    refine x_callV C (a := 76) (kd := 10) (vs := [Value.int p1, Value.int 1]) (rest := []) rfl rfl (by decide) (fun r hr => by cases hr; rfl) (c_X12_wayIts C.2.2.2.2.2.2.2.2.2 G.2.1 p1 1 M2) cy_X12_wayIts lk_RX12_106 im_X12_wayIts se_X12_wayIts (by decide) (by decide) (by decide) (by decide) rfl rfl (Nat.le_of_ble_eq_true rfl) (k_dg dt_X12_leads_0 9 13 (.invokevirtual 106) 3 rfl) (fun r3 M4 => ?_)
    show Sm Z G _ _ _ _ [(0, k_ra Z 76), (1, Value.int p1), (2, Value.int p2), (3, Value.int p3)] [Value.int r3] _ _
    refine x_iload_n C (k_dg dt_X12_leads_0 10 16 (.iload_n 2) 1 rfl) 2 rfl ?_
    refine x_icmp_eq C (tgt := 22) (k_dg dt_X12_leads_0 11 17 (.if_icmp .eq 5) 3 rfl) (by decide) (fun _ => ?_) (fun _ => ?_)
    · exact m_X12_leads_22 C p1 p2 p3 M4
    · refine x_iconst C (v := 0) (k_dg dt_X12_leads_0 12 20 (.iconst 0) 1 rfl) (by decide) ?_
      exact x_zret C (by decide) (by decide) rfl (k_dg dt_X12_leads_0 13 21 (.ireturn) 1 rfl)
theorem c_X12_leads {Z : k_Z} (hg : k_Gd Z) (l : Launch) (p1 : Int32) (p2 : Int32) (p3 : Int32) (M : k_M) : Con true Z l yX12_leads cX12_leads 5 (some .boolean) 2 0 0 emI [k_ra Z 76, Value.int p1, Value.int p2, Value.int p3] M (f_X12_leads p1 p2 p3 M) := k_con hg (by decide) (Nat.le_of_ble_eq_true rfl) (fun G hl C => m_X12_leads_0 C p1 p2 p3 M)
theorem dt_X12_nearAct_0 : k_dec cX12_nearAct [(0, .iconst 0, 1), (1, .istore_n 1, 1), (2, .iconst 1, 1), (3, .istore_n 2, 1), (4, .iload_n 2, 1), (5, .iconst 3, 1), (6, .if_icmp .ge 34, 3), (9, .aload_n 0, 1), (10, .getfield 25, 3), (13, .iconst 2, 1), (14, .iload_n 2, 1), (15, .iadd, 1), (16, .iaload, 1), (17, .aload_n 0, 1), (18, .getfield 25, 3), (21, .iconst 2, 1), (22, .iload_n 1, 1), (23, .iadd, 1), (24, .iaload, 1), (25, .if_icmp .ge 7, 3), (28, .iload_n 2, 1), (29, .goto 4, 3), (32, .iload_n 1, 1), (33, .istore_n 1, 1), (34, .iinc 2 1, 3), (37, .goto (-33), 3), (40, .aload_n 0, 1), (41, .invokevirtual 300, 3), (44, .aload_n 0, 1), (45, .getfield 25, 3), (48, .iconst 0, 1), (49, .iaload, 1), (50, .istore_n 2, 1), (51, .iconst (-1), 1), (52, .istore_n 3, 1), (53, .iconst 0, 1), (54, .istore 4, 2), (56, .iload 4, 2), (58, .aload_n 0, 1), (59, .getfield 95, 3)] = true := by decide +kernel
theorem dt_X12_nearAct_1 : k_dec cX12_nearAct [(62, .if_icmp .ge 89, 3), (65, .aload_n 0, 1), (66, .getfield 61, 3), (69, .bipush 8, 2), (71, .iload_n 2, 1), (72, .imul, 1), (73, .iload 4, 2), (75, .iadd, 1), (76, .iaload, 1), (77, .istore 5, 2), (79, .aload_n 0, 1), (80, .iload 4, 2), (82, .iconst 0, 1), (83, .invokevirtual 214, 3), (86, .invokestatic 235, 3), (89, .iload_n 1, 1), (90, .if_icmp .ne 12, 3), (93, .iload 5, 2), (95, .ifCond .lt 7, 3), (98, .iconst 1, 1), (99, .goto 4, 3), (102, .iconst 0, 1), (103, .istore 6, 2), (105, .iload 6, 2), (107, .ifCond .eq 36, 3), (110, .iload_n 3, 1), (111, .ifCond .lt 27, 3), (114, .iload 5, 2), (116, .aload_n 0, 1), (117, .getfield 61, 3), (120, .bipush 8, 2), (122, .iload_n 2, 1), (123, .imul, 1), (124, .iload_n 3, 1), (125, .ifCond .ge 7, 3), (128, .iconst 0, 1), (129, .goto 4, 3), (132, .iload_n 3, 1), (133, .iadd, 1), (134, .iaload, 1)] = true := by decide +kernel
theorem dt_X12_nearAct_2 : k_dec cX12_nearAct [(135, .if_icmp .ge 8, 3), (138, .iload 4, 2), (140, .goto 4, 3), (143, .iload_n 3, 1), (144, .istore_n 3, 1), (145, .iinc 4 1, 3), (148, .goto (-92), 3), (151, .iload_n 3, 1), (152, .ifCond .lt 8, 3), (155, .iload_n 3, 1), (156, .iload_n 2, 1), (157, .if_icmp .ne 5, 3), (160, .iconst 0, 1), (161, .ireturn, 1), (162, .iconst 0, 1), (163, .istore 4, 2), (165, .aload_n 0, 1), (166, .iload 4, 2), (168, .iload_n 2, 1), (169, .iload_n 3, 1), (170, .invokevirtual 319, 3), (173, .ifCond .ne 9, 3), (176, .iinc 4 1, 3), (179, .goto (-14), 3), (182, .iload 4, 2), (184, .iconst 1, 1), (185, .iadd, 1), (186, .ireturn, 1)] = true := by decide +kernel
def f_X12_nearAct_33 (l2 : Int32) (t0 : Int32) (M : k_M) (kb : Int32 → Int32 → k_M → Option (Int32 × k_M)) (kx40 : Int32 → k_M → Option (Int32 × k_M)) : Option (Int32 × k_M) := kb t0 (l2 + 1) M
theorem m_X12_nearAct_33 {Z : k_Z} {G : k_G} (C : k_C Z G RX12 cX12_nearAct (true, 7, 3, 0, 0) (some .int) "nearAct") (kb : Int32 → Int32 → k_M → Option (Int32 × k_M)) (kx40 : Int32 → k_M → Option (Int32 × k_M)) (Hb : ∀ (l1 : Int32) (l2 : Int32) (M : k_M), Sm Z G emI (true, 7, 3, 0, 0) (0, 0) 4 [(0, k_ra Z 76), (1, Value.int l1), (2, Value.int l2)] [] M (kb l1 l2 M)) (Hx40 : ∀ (l1 : Int32) (M : k_M), Sm Z G emI (true, 7, 3, 0, 0) (0, 0) 40 [(0, k_ra Z 76), (1, Value.int l1)] [] M (kx40 l1 M)) (l2 : Int32) (t0 : Int32) (M : k_M) : Sm Z G emI (true, 7, 3, 0, 0) (0, 0) 33 [(0, k_ra Z 76), (2, Value.int l2)] [Value.int t0] M (f_X12_nearAct_33 l2 t0 M kb kx40) := by
  show Sm Z G emI _ _ _ _ _ _ (kb t0 (l2 + 1) M)
  refine x_istore_n C (lv' := [(1, Value.int t0), (0, k_ra Z 76), (2, Value.int l2)]) (k_dg dt_X12_nearAct_0 23 33 (.istore_n 1) 1 rfl) (by decide) rfl ?_
  refine x_iinc C (v := 1) (lv' := [(2, Value.int (l2 + 1)), (1, Value.int t0), (0, k_ra Z 76)]) (k_dg dt_X12_nearAct_0 24 34 (.iinc 2 1) 3 rfl) 2 rfl (by decide) (by decide) rfl ?_
  refine x_goto C (tgt := 4) (k_dg dt_X12_nearAct_0 25 37 (.goto (-33)) 3 rfl) (by decide) ?_
  refine x_lv [2, 1, 0] rfl ?_
  exact Hb t0 (l2 + 1) M
def f_X12_nearAct_4 : Nat → Int32 → Int32 → k_M → (Int32 → k_M → Option (Int32 × k_M)) → Option (Int32 × k_M)
  | 0, _, _, _, _ => none
  | n + 1, l1, l2, M, kx40 => if 3 ≤ l2 then kx40 l1 M else rdI M 82 1100 (2 + l2) (fun v1 => rdI M 82 1100 (2 + l1) (fun v2 => if v2 ≤ v1 then f_X12_nearAct_33 l2 l1 M ((fun l1_ l2_ M_ => f_X12_nearAct_4 n l1_ l2_ M_ kx40)) kx40 else f_X12_nearAct_33 l2 l2 M ((fun l1_ l2_ M_ => f_X12_nearAct_4 n l1_ l2_ M_ kx40)) kx40))
theorem m_X12_nearAct_4 {Z : k_Z} {G : k_G} (C : k_C Z G RX12 cX12_nearAct (true, 7, 3, 0, 0) (some .int) "nearAct") (kx40 : Int32 → k_M → Option (Int32 × k_M)) (Hx40 : ∀ (l1 : Int32) (M : k_M), Sm Z G emI (true, 7, 3, 0, 0) (0, 0) 40 [(0, k_ra Z 76), (1, Value.int l1)] [] M (kx40 l1 M)) : ∀ (n : Nat) (l1 : Int32) (l2 : Int32) (M : k_M), Sm Z G emI (true, 7, 3, 0, 0) (0, 0) 4 [(0, k_ra Z 76), (1, Value.int l1), (2, Value.int l2)] [] M (f_X12_nearAct_4 n l1 l2 M kx40)
  | 0, _, _, _ => x_none
  | n + 1, l1, l2, M => by
    have ih := m_X12_nearAct_4 C kx40 Hx40 n
    show Sm Z G emI _ _ _ _ _ _ (if 3 ≤ l2 then kx40 l1 M else rdI M 82 1100 (2 + l2) (fun v1 => rdI M 82 1100 (2 + l1) (fun v2 => if v2 ≤ v1 then f_X12_nearAct_33 l2 l1 M ((fun l1_ l2_ M_ => f_X12_nearAct_4 n l1_ l2_ M_ kx40)) kx40 else f_X12_nearAct_33 l2 l2 M ((fun l1_ l2_ M_ => f_X12_nearAct_4 n l1_ l2_ M_ kx40)) kx40)))
    refine x_iload_n C (k_dg dt_X12_nearAct_0 4 4 (.iload_n 2) 1 rfl) 2 rfl ?_
    refine x_iconst C (v := 3) (k_dg dt_X12_nearAct_0 5 5 (.iconst 3) 1 rfl) (by decide) ?_
    refine x_icmp_ge C (tgt := 40) (k_dg dt_X12_nearAct_0 6 6 (.if_icmp .ge 34) 3 rfl) (by decide) (fun _ => ?_) (fun _ => ?_)
    · refine x_lv [0, 1] rfl ?_
      exact Hx40 l1 M
    · refine x_aload_n C (k_dg dt_X12_nearAct_0 7 9 (.aload_n 0) 1 rfl) 0 rfl ?_
      refine x_getR C (a := 76) (j := 10) 82 rfl rfl (by decide) fl_RX12_25 rfl rfl rfl (k_dg dt_X12_nearAct_0 8 10 (.getfield 25) 3 rfl) ?_
      refine x_iconst C (v := 2) (k_dg dt_X12_nearAct_0 9 13 (.iconst 2) 1 rfl) (by decide) ?_
      refine x_iload_n C (k_dg dt_X12_nearAct_0 10 14 (.iload_n 2) 1 rfl) 2 rfl ?_
      refine x_iadd C (k_dg dt_X12_nearAct_0 11 15 (.iadd) 1 rfl) ?_
      refine x_iald C (a := 82) (n := 1100) rfl rfl (k_dg dt_X12_nearAct_0 12 16 (.iaload) 1 rfl) (fun v1 => ?_)
      refine x_aload_n C (k_dg dt_X12_nearAct_0 13 17 (.aload_n 0) 1 rfl) 0 rfl ?_
      refine x_getR C (a := 76) (j := 10) 82 rfl rfl (by decide) fl_RX12_25 rfl rfl rfl (k_dg dt_X12_nearAct_0 14 18 (.getfield 25) 3 rfl) ?_
      refine x_iconst C (v := 2) (k_dg dt_X12_nearAct_0 15 21 (.iconst 2) 1 rfl) (by decide) ?_
      refine x_iload_n C (k_dg dt_X12_nearAct_0 16 22 (.iload_n 1) 1 rfl) 1 rfl ?_
      refine x_iadd C (k_dg dt_X12_nearAct_0 17 23 (.iadd) 1 rfl) ?_
      refine x_iald C (a := 82) (n := 1100) rfl rfl (k_dg dt_X12_nearAct_0 18 24 (.iaload) 1 rfl) (fun v2 => ?_)
      refine x_icmp_ge C (tgt := 32) (k_dg dt_X12_nearAct_0 19 25 (.if_icmp .ge 7) 3 rfl) (by decide) (fun _ => ?_) (fun _ => ?_)
      · refine x_iload_n C (k_dg dt_X12_nearAct_0 22 32 (.iload_n 1) 1 rfl) 1 rfl ?_
        refine x_lv [0, 2] rfl ?_
        exact m_X12_nearAct_33 C ((fun l1_ l2_ M_ => f_X12_nearAct_4 n l1_ l2_ M_ kx40)) kx40 ih Hx40 l2 l1 M
      · refine x_iload_n C (k_dg dt_X12_nearAct_0 20 28 (.iload_n 2) 1 rfl) 2 rfl ?_
        refine x_goto C (tgt := 33) (k_dg dt_X12_nearAct_0 21 29 (.goto 4) 3 rfl) (by decide) ?_
        refine x_lv [0, 2] rfl ?_
        exact m_X12_nearAct_33 C ((fun l1_ l2_ M_ => f_X12_nearAct_4 n l1_ l2_ M_ kx40)) kx40 ih Hx40 l2 l2 M
def f_X12_nearAct_144 (l1 : Int32) (l2 : Int32) (l4 : Int32) (t0 : Int32) (M : k_M) (kb : Int32 → Int32 → Int32 → Int32 → k_M → Option (Int32 × k_M)) (kx151 : Int32 → Int32 → k_M → Option (Int32 × k_M)) : Option (Int32 × k_M) := kb l1 l2 t0 (l4 + 1) M
theorem m_X12_nearAct_144 {Z : k_Z} {G : k_G} (C : k_C Z G RX12 cX12_nearAct (true, 7, 3, 0, 0) (some .int) "nearAct") (kb : Int32 → Int32 → Int32 → Int32 → k_M → Option (Int32 × k_M)) (kx151 : Int32 → Int32 → k_M → Option (Int32 × k_M)) (Hb : ∀ (l1 : Int32) (l2 : Int32) (l3 : Int32) (l4 : Int32) (M : k_M), Sm Z G emI (true, 7, 3, 0, 0) (0, 0) 56 [(0, k_ra Z 76), (1, Value.int l1), (2, Value.int l2), (3, Value.int l3), (4, Value.int l4)] [] M (kb l1 l2 l3 l4 M)) (Hx151 : ∀ (l2 : Int32) (l3 : Int32) (M : k_M), Sm Z G emI (true, 7, 3, 0, 0) (0, 0) 151 [(0, k_ra Z 76), (2, Value.int l2), (3, Value.int l3)] [] M (kx151 l2 l3 M)) (l1 : Int32) (l2 : Int32) (l4 : Int32) (t0 : Int32) (M : k_M) : Sm Z G emI (true, 7, 3, 0, 0) (0, 0) 144 [(0, k_ra Z 76), (1, Value.int l1), (2, Value.int l2), (4, Value.int l4)] [Value.int t0] M (f_X12_nearAct_144 l1 l2 l4 t0 M kb kx151) := by
  show Sm Z G emI _ _ _ _ _ _ (kb l1 l2 t0 (l4 + 1) M)
  refine x_istore_n C (lv' := [(3, Value.int t0), (0, k_ra Z 76), (1, Value.int l1), (2, Value.int l2), (4, Value.int l4)]) (k_dg dt_X12_nearAct_2 4 144 (.istore_n 3) 1 rfl) (by decide) rfl ?_
  refine x_iinc C (v := 1) (lv' := [(4, Value.int (l4 + 1)), (3, Value.int t0), (0, k_ra Z 76), (1, Value.int l1), (2, Value.int l2)]) (k_dg dt_X12_nearAct_2 5 145 (.iinc 4 1) 3 rfl) 4 rfl (by decide) (by decide) rfl ?_
  refine x_goto C (tgt := 56) (k_dg dt_X12_nearAct_2 6 148 (.goto (-92)) 3 rfl) (by decide) ?_
  refine x_lv [2, 3, 4, 1, 0] rfl ?_
  exact Hb l1 l2 t0 (l4 + 1) M
def f_X12_nearAct_138 (l1 : Int32) (l2 : Int32) (l4 : Int32) (M : k_M) (kb : Int32 → Int32 → Int32 → Int32 → k_M → Option (Int32 × k_M)) (kx151 : Int32 → Int32 → k_M → Option (Int32 × k_M)) : Option (Int32 × k_M) := f_X12_nearAct_144 l1 l2 l4 l4 M kb kx151
theorem m_X12_nearAct_138 {Z : k_Z} {G : k_G} (C : k_C Z G RX12 cX12_nearAct (true, 7, 3, 0, 0) (some .int) "nearAct") (kb : Int32 → Int32 → Int32 → Int32 → k_M → Option (Int32 × k_M)) (kx151 : Int32 → Int32 → k_M → Option (Int32 × k_M)) (Hb : ∀ (l1 : Int32) (l2 : Int32) (l3 : Int32) (l4 : Int32) (M : k_M), Sm Z G emI (true, 7, 3, 0, 0) (0, 0) 56 [(0, k_ra Z 76), (1, Value.int l1), (2, Value.int l2), (3, Value.int l3), (4, Value.int l4)] [] M (kb l1 l2 l3 l4 M)) (Hx151 : ∀ (l2 : Int32) (l3 : Int32) (M : k_M), Sm Z G emI (true, 7, 3, 0, 0) (0, 0) 151 [(0, k_ra Z 76), (2, Value.int l2), (3, Value.int l3)] [] M (kx151 l2 l3 M)) (l1 : Int32) (l2 : Int32) (l4 : Int32) (M : k_M) : Sm Z G emI (true, 7, 3, 0, 0) (0, 0) 138 [(0, k_ra Z 76), (1, Value.int l1), (2, Value.int l2), (4, Value.int l4)] [] M (f_X12_nearAct_138 l1 l2 l4 M kb kx151) := by
  show Sm Z G emI _ _ _ _ _ _ (f_X12_nearAct_144 l1 l2 l4 l4 M kb kx151)
  refine x_iload C (k_dg dt_X12_nearAct_2 1 138 (.iload 4) 2 rfl) 3 rfl ?_
  refine x_goto C (tgt := 144) (k_dg dt_X12_nearAct_2 2 140 (.goto 4) 3 rfl) (by decide) ?_
  exact m_X12_nearAct_144 C kb kx151 Hb Hx151 l1 l2 l4 l4 M
def f_X12_nearAct_143 (l1 : Int32) (l2 : Int32) (l3 : Int32) (l4 : Int32) (M : k_M) (kb : Int32 → Int32 → Int32 → Int32 → k_M → Option (Int32 × k_M)) (kx151 : Int32 → Int32 → k_M → Option (Int32 × k_M)) : Option (Int32 × k_M) := f_X12_nearAct_144 l1 l2 l4 l3 M kb kx151
theorem m_X12_nearAct_143 {Z : k_Z} {G : k_G} (C : k_C Z G RX12 cX12_nearAct (true, 7, 3, 0, 0) (some .int) "nearAct") (kb : Int32 → Int32 → Int32 → Int32 → k_M → Option (Int32 × k_M)) (kx151 : Int32 → Int32 → k_M → Option (Int32 × k_M)) (Hb : ∀ (l1 : Int32) (l2 : Int32) (l3 : Int32) (l4 : Int32) (M : k_M), Sm Z G emI (true, 7, 3, 0, 0) (0, 0) 56 [(0, k_ra Z 76), (1, Value.int l1), (2, Value.int l2), (3, Value.int l3), (4, Value.int l4)] [] M (kb l1 l2 l3 l4 M)) (Hx151 : ∀ (l2 : Int32) (l3 : Int32) (M : k_M), Sm Z G emI (true, 7, 3, 0, 0) (0, 0) 151 [(0, k_ra Z 76), (2, Value.int l2), (3, Value.int l3)] [] M (kx151 l2 l3 M)) (l1 : Int32) (l2 : Int32) (l3 : Int32) (l4 : Int32) (M : k_M) : Sm Z G emI (true, 7, 3, 0, 0) (0, 0) 143 [(0, k_ra Z 76), (1, Value.int l1), (2, Value.int l2), (3, Value.int l3), (4, Value.int l4)] [] M (f_X12_nearAct_143 l1 l2 l3 l4 M kb kx151) := by
  show Sm Z G emI _ _ _ _ _ _ (f_X12_nearAct_144 l1 l2 l4 l3 M kb kx151)
  refine x_iload_n C (k_dg dt_X12_nearAct_2 3 143 (.iload_n 3) 1 rfl) 3 rfl ?_
  refine x_lv [0, 1, 2, 4] rfl ?_
  exact m_X12_nearAct_144 C kb kx151 Hb Hx151 l1 l2 l4 l3 M
def f_X12_nearAct_133 (l1 : Int32) (l2 : Int32) (l3 : Int32) (l4 : Int32) (t0 : Int32) (t2 : Int32) (t3 : Int32) (M : k_M) (kb : Int32 → Int32 → Int32 → Int32 → k_M → Option (Int32 × k_M)) (kx151 : Int32 → Int32 → k_M → Option (Int32 × k_M)) : Option (Int32 × k_M) := rdI M 94 64 (t2 + t3) (fun v1 => if v1 ≤ t0 then f_X12_nearAct_143 l1 l2 l3 l4 M kb kx151 else f_X12_nearAct_138 l1 l2 l4 M kb kx151)
theorem m_X12_nearAct_133 {Z : k_Z} {G : k_G} (C : k_C Z G RX12 cX12_nearAct (true, 7, 3, 0, 0) (some .int) "nearAct") (kb : Int32 → Int32 → Int32 → Int32 → k_M → Option (Int32 × k_M)) (kx151 : Int32 → Int32 → k_M → Option (Int32 × k_M)) (Hb : ∀ (l1 : Int32) (l2 : Int32) (l3 : Int32) (l4 : Int32) (M : k_M), Sm Z G emI (true, 7, 3, 0, 0) (0, 0) 56 [(0, k_ra Z 76), (1, Value.int l1), (2, Value.int l2), (3, Value.int l3), (4, Value.int l4)] [] M (kb l1 l2 l3 l4 M)) (Hx151 : ∀ (l2 : Int32) (l3 : Int32) (M : k_M), Sm Z G emI (true, 7, 3, 0, 0) (0, 0) 151 [(0, k_ra Z 76), (2, Value.int l2), (3, Value.int l3)] [] M (kx151 l2 l3 M)) (l1 : Int32) (l2 : Int32) (l3 : Int32) (l4 : Int32) (t0 : Int32) (t2 : Int32) (t3 : Int32) (M : k_M) : Sm Z G emI (true, 7, 3, 0, 0) (0, 0) 133 [(0, k_ra Z 76), (1, Value.int l1), (2, Value.int l2), (3, Value.int l3), (4, Value.int l4)] [Value.int t3, Value.int t2, k_ra Z 94, Value.int t0] M (f_X12_nearAct_133 l1 l2 l3 l4 t0 t2 t3 M kb kx151) := by
  show Sm Z G emI _ _ _ _ _ _ (rdI M 94 64 (t2 + t3) (fun v1 => if v1 ≤ t0 then f_X12_nearAct_143 l1 l2 l3 l4 M kb kx151 else f_X12_nearAct_138 l1 l2 l4 M kb kx151))
  refine x_iadd C (k_dg dt_X12_nearAct_1 38 133 (.iadd) 1 rfl) ?_
  refine x_iald C (a := 94) (n := 64) rfl rfl (k_dg dt_X12_nearAct_1 39 134 (.iaload) 1 rfl) (fun v1 => ?_)
  refine x_icmp_ge C (tgt := 143) (k_dg dt_X12_nearAct_2 0 135 (.if_icmp .ge 8) 3 rfl) (by decide) (fun _ => ?_) (fun _ => ?_)
  · exact m_X12_nearAct_143 C kb kx151 Hb Hx151 l1 l2 l3 l4 M
  · refine x_lv [0, 1, 2, 4] rfl ?_
    exact m_X12_nearAct_138 C kb kx151 Hb Hx151 l1 l2 l4 M
def f_X12_nearAct_103 (l1 : Int32) (l2 : Int32) (l3 : Int32) (l4 : Int32) (l5 : Int32) (t0 : Int32) (M : k_M) (kb : Int32 → Int32 → Int32 → Int32 → k_M → Option (Int32 × k_M)) (kx151 : Int32 → Int32 → k_M → Option (Int32 × k_M)) : Option (Int32 × k_M) := if t0 = 0 then f_X12_nearAct_143 l1 l2 l3 l4 M kb kx151 else if l3 < 0 then f_X12_nearAct_138 l1 l2 l4 M kb kx151 else if 0 ≤ l3 then f_X12_nearAct_133 l1 l2 l3 l4 l5 (8 * l2) l3 M kb kx151 else f_X12_nearAct_133 l1 l2 l3 l4 l5 (8 * l2) 0 M kb kx151
theorem m_X12_nearAct_103 {Z : k_Z} {G : k_G} (C : k_C Z G RX12 cX12_nearAct (true, 7, 3, 0, 0) (some .int) "nearAct") (kb : Int32 → Int32 → Int32 → Int32 → k_M → Option (Int32 × k_M)) (kx151 : Int32 → Int32 → k_M → Option (Int32 × k_M)) (Hb : ∀ (l1 : Int32) (l2 : Int32) (l3 : Int32) (l4 : Int32) (M : k_M), Sm Z G emI (true, 7, 3, 0, 0) (0, 0) 56 [(0, k_ra Z 76), (1, Value.int l1), (2, Value.int l2), (3, Value.int l3), (4, Value.int l4)] [] M (kb l1 l2 l3 l4 M)) (Hx151 : ∀ (l2 : Int32) (l3 : Int32) (M : k_M), Sm Z G emI (true, 7, 3, 0, 0) (0, 0) 151 [(0, k_ra Z 76), (2, Value.int l2), (3, Value.int l3)] [] M (kx151 l2 l3 M)) (l1 : Int32) (l2 : Int32) (l3 : Int32) (l4 : Int32) (l5 : Int32) (t0 : Int32) (M : k_M) : Sm Z G emI (true, 7, 3, 0, 0) (0, 0) 103 [(0, k_ra Z 76), (1, Value.int l1), (2, Value.int l2), (3, Value.int l3), (4, Value.int l4), (5, Value.int l5)] [Value.int t0] M (f_X12_nearAct_103 l1 l2 l3 l4 l5 t0 M kb kx151) := by
  show Sm Z G emI _ _ _ _ _ _ (if t0 = 0 then f_X12_nearAct_143 l1 l2 l3 l4 M kb kx151 else if l3 < 0 then f_X12_nearAct_138 l1 l2 l4 M kb kx151 else if 0 ≤ l3 then f_X12_nearAct_133 l1 l2 l3 l4 l5 (8 * l2) l3 M kb kx151 else f_X12_nearAct_133 l1 l2 l3 l4 l5 (8 * l2) 0 M kb kx151)
  refine x_istore C (lv' := [(6, Value.int t0), (0, k_ra Z 76), (1, Value.int l1), (2, Value.int l2), (3, Value.int l3), (4, Value.int l4), (5, Value.int l5)]) (k_dg dt_X12_nearAct_1 22 103 (.istore 6) 2 rfl) (by decide) rfl ?_
  refine x_iload C (k_dg dt_X12_nearAct_1 23 105 (.iload 6) 2 rfl) 0 rfl ?_
  refine x_if_eq C (tgt := 143) (k_dg dt_X12_nearAct_1 24 107 (.ifCond .eq 36) 3 rfl) (by decide) (fun _ => ?_) (fun _ => ?_)
  · refine x_lv [1, 2, 3, 4, 5] rfl ?_
    exact m_X12_nearAct_143 C kb kx151 Hb Hx151 l1 l2 l3 l4 M
  · refine x_iload_n C (k_dg dt_X12_nearAct_1 25 110 (.iload_n 3) 1 rfl) 4 rfl ?_
    refine x_if_lt C (tgt := 138) (k_dg dt_X12_nearAct_1 26 111 (.ifCond .lt 27) 3 rfl) (by decide) (fun _ => ?_) (fun _ => ?_)
    · refine x_lv [1, 2, 3, 5] rfl ?_
      exact m_X12_nearAct_138 C kb kx151 Hb Hx151 l1 l2 l4 M
    · refine x_iload C (k_dg dt_X12_nearAct_1 27 114 (.iload 5) 2 rfl) 6 rfl ?_
      refine x_aload_n C (k_dg dt_X12_nearAct_1 28 116 (.aload_n 0) 1 rfl) 1 rfl ?_
      refine x_getR C (a := 76) (j := 34) 94 rfl rfl (by decide) fl_RX12_61 rfl rfl rfl (k_dg dt_X12_nearAct_1 29 117 (.getfield 61) 3 rfl) ?_
      refine x_bipush C (v := 8) (k_dg dt_X12_nearAct_1 30 120 (.bipush 8) 2 rfl) (by decide) ?_
      refine x_iload_n C (k_dg dt_X12_nearAct_1 31 122 (.iload_n 2) 1 rfl) 3 rfl ?_
      refine x_imul C (k_dg dt_X12_nearAct_1 32 123 (.imul) 1 rfl) ?_
      refine x_iload_n C (k_dg dt_X12_nearAct_1 33 124 (.iload_n 3) 1 rfl) 4 rfl ?_
      refine x_if_ge C (tgt := 132) (k_dg dt_X12_nearAct_1 34 125 (.ifCond .ge 7) 3 rfl) (by decide) (fun _ => ?_) (fun _ => ?_)
      · refine x_iload_n C (k_dg dt_X12_nearAct_1 37 132 (.iload_n 3) 1 rfl) 4 rfl ?_
        refine x_lv [1, 2, 3, 4, 5] rfl ?_
        exact m_X12_nearAct_133 C kb kx151 Hb Hx151 l1 l2 l3 l4 l5 (8 * l2) l3 M
      · refine x_iconst C (v := 0) (k_dg dt_X12_nearAct_1 35 128 (.iconst 0) 1 rfl) (by decide) ?_
        refine x_goto C (tgt := 133) (k_dg dt_X12_nearAct_1 36 129 (.goto 4) 3 rfl) (by decide) ?_
        refine x_lv [1, 2, 3, 4, 5] rfl ?_
        exact m_X12_nearAct_133 C kb kx151 Hb Hx151 l1 l2 l3 l4 l5 (8 * l2) 0 M
def f_X12_nearAct_102 (l1 : Int32) (l2 : Int32) (l3 : Int32) (l4 : Int32) (l5 : Int32) (M : k_M) (kb : Int32 → Int32 → Int32 → Int32 → k_M → Option (Int32 × k_M)) (kx151 : Int32 → Int32 → k_M → Option (Int32 × k_M)) : Option (Int32 × k_M) := f_X12_nearAct_103 l1 l2 l3 l4 l5 0 M kb kx151
theorem m_X12_nearAct_102 {Z : k_Z} {G : k_G} (C : k_C Z G RX12 cX12_nearAct (true, 7, 3, 0, 0) (some .int) "nearAct") (kb : Int32 → Int32 → Int32 → Int32 → k_M → Option (Int32 × k_M)) (kx151 : Int32 → Int32 → k_M → Option (Int32 × k_M)) (Hb : ∀ (l1 : Int32) (l2 : Int32) (l3 : Int32) (l4 : Int32) (M : k_M), Sm Z G emI (true, 7, 3, 0, 0) (0, 0) 56 [(0, k_ra Z 76), (1, Value.int l1), (2, Value.int l2), (3, Value.int l3), (4, Value.int l4)] [] M (kb l1 l2 l3 l4 M)) (Hx151 : ∀ (l2 : Int32) (l3 : Int32) (M : k_M), Sm Z G emI (true, 7, 3, 0, 0) (0, 0) 151 [(0, k_ra Z 76), (2, Value.int l2), (3, Value.int l3)] [] M (kx151 l2 l3 M)) (l1 : Int32) (l2 : Int32) (l3 : Int32) (l4 : Int32) (l5 : Int32) (M : k_M) : Sm Z G emI (true, 7, 3, 0, 0) (0, 0) 102 [(0, k_ra Z 76), (1, Value.int l1), (2, Value.int l2), (3, Value.int l3), (4, Value.int l4), (5, Value.int l5)] [] M (f_X12_nearAct_102 l1 l2 l3 l4 l5 M kb kx151) := by
  show Sm Z G emI _ _ _ _ _ _ (f_X12_nearAct_103 l1 l2 l3 l4 l5 0 M kb kx151)
  refine x_iconst C (v := 0) (k_dg dt_X12_nearAct_1 21 102 (.iconst 0) 1 rfl) (by decide) ?_
  exact m_X12_nearAct_103 C kb kx151 Hb Hx151 l1 l2 l3 l4 l5 0 M
def f_X12_nearAct_56 : Nat → Int32 → Int32 → Int32 → Int32 → k_M → (Int32 → Int32 → k_M → Option (Int32 × k_M)) → Option (Int32 × k_M)
  | 0, _, _, _, _, _, _ => none
  | n + 1, l1, l2, l3, l4, M, kx151 => if (M.1 76 0) ≤ l4 then kx151 l2 l3 M else rdI M 94 64 ((8 * l2) + l4) (fun v1 => bd (f_X12_its l4 0 M) (fun r2 M3 => bd (f_X12_shedOf r2 M3) (fun r4 M5 => if r4 = l1 then if v1 < 0 then f_X12_nearAct_102 l1 l2 l3 l4 v1 M5 ((fun l1_ l2_ l3_ l4_ M_ => f_X12_nearAct_56 n l1_ l2_ l3_ l4_ M_ kx151)) kx151 else f_X12_nearAct_103 l1 l2 l3 l4 v1 1 M5 ((fun l1_ l2_ l3_ l4_ M_ => f_X12_nearAct_56 n l1_ l2_ l3_ l4_ M_ kx151)) kx151 else f_X12_nearAct_102 l1 l2 l3 l4 v1 M5 ((fun l1_ l2_ l3_ l4_ M_ => f_X12_nearAct_56 n l1_ l2_ l3_ l4_ M_ kx151)) kx151)))
theorem m_X12_nearAct_56 {Z : k_Z} {G : k_G} (C : k_C Z G RX12 cX12_nearAct (true, 7, 3, 0, 0) (some .int) "nearAct") (kx151 : Int32 → Int32 → k_M → Option (Int32 × k_M)) (Hx151 : ∀ (l2 : Int32) (l3 : Int32) (M : k_M), Sm Z G emI (true, 7, 3, 0, 0) (0, 0) 151 [(0, k_ra Z 76), (2, Value.int l2), (3, Value.int l3)] [] M (kx151 l2 l3 M)) : ∀ (n : Nat) (l1 : Int32) (l2 : Int32) (l3 : Int32) (l4 : Int32) (M : k_M), Sm Z G emI (true, 7, 3, 0, 0) (0, 0) 56 [(0, k_ra Z 76), (1, Value.int l1), (2, Value.int l2), (3, Value.int l3), (4, Value.int l4)] [] M (f_X12_nearAct_56 n l1 l2 l3 l4 M kx151)
  | 0, _, _, _, _, _ => x_none
  | n + 1, l1, l2, l3, l4, M => by
    have ih := m_X12_nearAct_56 C kx151 Hx151 n
    show Sm Z G emI _ _ _ _ _ _ (if (M.1 76 0) ≤ l4 then kx151 l2 l3 M else rdI M 94 64 ((8 * l2) + l4) (fun v1 => bd (f_X12_its l4 0 M) (fun r2 M3 => bd (f_X12_shedOf r2 M3) (fun r4 M5 => if r4 = l1 then if v1 < 0 then f_X12_nearAct_102 l1 l2 l3 l4 v1 M5 ((fun l1_ l2_ l3_ l4_ M_ => f_X12_nearAct_56 n l1_ l2_ l3_ l4_ M_ kx151)) kx151 else f_X12_nearAct_103 l1 l2 l3 l4 v1 1 M5 ((fun l1_ l2_ l3_ l4_ M_ => f_X12_nearAct_56 n l1_ l2_ l3_ l4_ M_ kx151)) kx151 else f_X12_nearAct_102 l1 l2 l3 l4 v1 M5 ((fun l1_ l2_ l3_ l4_ M_ => f_X12_nearAct_56 n l1_ l2_ l3_ l4_ M_ kx151)) kx151))))
    refine x_iload C (k_dg dt_X12_nearAct_0 37 56 (.iload 4) 2 rfl) 4 rfl ?_
    refine x_aload_n C (k_dg dt_X12_nearAct_0 38 58 (.aload_n 0) 1 rfl) 0 rfl ?_
    refine x_getI C (a := 76) (j := 0) rfl rfl (by decide) fl_RX12_95 rfl (k_dg dt_X12_nearAct_0 39 59 (.getfield 95) 3 rfl) ?_
    refine x_icmp_ge C (tgt := 151) (k_dg dt_X12_nearAct_1 0 62 (.if_icmp .ge 89) 3 rfl) (by decide) (fun _ => ?_) (fun _ => ?_)
    · refine x_lv [0, 2, 3] rfl ?_
      exact Hx151 l2 l3 M
    · refine x_aload_n C (k_dg dt_X12_nearAct_1 1 65 (.aload_n 0) 1 rfl) 0 rfl ?_
      refine x_getR C (a := 76) (j := 34) 94 rfl rfl (by decide) fl_RX12_61 rfl rfl rfl (k_dg dt_X12_nearAct_1 2 66 (.getfield 61) 3 rfl) ?_
      refine x_bipush C (v := 8) (k_dg dt_X12_nearAct_1 3 69 (.bipush 8) 2 rfl) (by decide) ?_
      refine x_iload_n C (k_dg dt_X12_nearAct_1 4 71 (.iload_n 2) 1 rfl) 2 rfl ?_
      refine x_imul C (k_dg dt_X12_nearAct_1 5 72 (.imul) 1 rfl) ?_
      refine x_iload C (k_dg dt_X12_nearAct_1 6 73 (.iload 4) 2 rfl) 4 rfl ?_
      refine x_iadd C (k_dg dt_X12_nearAct_1 7 75 (.iadd) 1 rfl) ?_
      refine x_iald C (a := 94) (n := 64) rfl rfl (k_dg dt_X12_nearAct_1 8 76 (.iaload) 1 rfl) (fun v1 => ?_)
      refine x_istore C (lv' := [(5, Value.int v1), (0, k_ra Z 76), (1, Value.int l1), (2, Value.int l2), (3, Value.int l3), (4, Value.int l4)]) (k_dg dt_X12_nearAct_1 9 77 (.istore 5) 2 rfl) (by decide) rfl ?_
      refine x_aload_n C (k_dg dt_X12_nearAct_1 10 79 (.aload_n 0) 1 rfl) 1 rfl ?_
      refine x_iload C (k_dg dt_X12_nearAct_1 11 80 (.iload 4) 2 rfl) 5 rfl ?_
      refine x_iconst C (v := 0) (k_dg dt_X12_nearAct_1 12 82 (.iconst 0) 1 rfl) (by decide) ?_
      refine x_callV C (a := 76) (kd := 10) (vs := [Value.int l4, Value.int 0]) (rest := []) rfl rfl (by decide) (fun r hr => by cases hr; rfl) (c_X12_its C.2.2.2.2.2.2.2.2.2 G.2.1 l4 0 M) cy_X12_its lk_RX12_214 im_X12_its se_X12_its (by decide) (by decide) (by decide) (by decide) rfl rfl (Nat.le_of_ble_eq_true rfl) (k_dg dt_X12_nearAct_1 13 83 (.invokevirtual 214) 3 rfl) (fun r2 M3 => ?_)
      show Sm Z G _ _ _ _ [(5, Value.int v1), (0, k_ra Z 76), (1, Value.int l1), (2, Value.int l2), (3, Value.int l3), (4, Value.int l4)] [Value.int r2] _ _
      refine x_callS C (vs := [Value.int r2]) (rest := []) (c_X12_shedOf C.2.2.2.2.2.2.2.2.2 G.2.1 r2 M3) cy_X12_shedOf lk_RX12_235 stt_X12_shedOf (by decide) (by decide) (by decide) (by decide) rfl rfl (Nat.le_of_ble_eq_true rfl) (k_dg dt_X12_nearAct_1 14 86 (.invokestatic 235) 3 rfl) (fun r4 M5 => ?_)
      show Sm Z G _ _ _ _ [(5, Value.int v1), (0, k_ra Z 76), (1, Value.int l1), (2, Value.int l2), (3, Value.int l3), (4, Value.int l4)] [Value.int r4] _ _
      refine x_iload_n C (k_dg dt_X12_nearAct_1 15 89 (.iload_n 1) 1 rfl) 2 rfl ?_
      refine x_icmp_ne C (tgt := 102) (k_dg dt_X12_nearAct_1 16 90 (.if_icmp .ne 12) 3 rfl) (by decide) (fun _ => ?_) (fun _ => ?_)
      · refine x_iload C (k_dg dt_X12_nearAct_1 17 93 (.iload 5) 2 rfl) 0 rfl ?_
        refine x_if_lt C (tgt := 102) (k_dg dt_X12_nearAct_1 18 95 (.ifCond .lt 7) 3 rfl) (by decide) (fun _ => ?_) (fun _ => ?_)
        · refine x_lv [1, 2, 3, 4, 5, 0] rfl ?_
          exact m_X12_nearAct_102 C ((fun l1_ l2_ l3_ l4_ M_ => f_X12_nearAct_56 n l1_ l2_ l3_ l4_ M_ kx151)) kx151 ih Hx151 l1 l2 l3 l4 v1 M5
        · refine x_iconst C (v := 1) (k_dg dt_X12_nearAct_1 19 98 (.iconst 1) 1 rfl) (by decide) ?_
          refine x_goto C (tgt := 103) (k_dg dt_X12_nearAct_1 20 99 (.goto 4) 3 rfl) (by decide) ?_
          refine x_lv [1, 2, 3, 4, 5, 0] rfl ?_
          exact m_X12_nearAct_103 C ((fun l1_ l2_ l3_ l4_ M_ => f_X12_nearAct_56 n l1_ l2_ l3_ l4_ M_ kx151)) kx151 ih Hx151 l1 l2 l3 l4 v1 1 M5
      · refine x_lv [1, 2, 3, 4, 5, 0] rfl ?_
        exact m_X12_nearAct_102 C ((fun l1_ l2_ l3_ l4_ M_ => f_X12_nearAct_56 n l1_ l2_ l3_ l4_ M_ kx151)) kx151 ih Hx151 l1 l2 l3 l4 v1 M5
def f_X12_nearAct_165 : Nat → Int32 → Int32 → Int32 → k_M → (Int32 → k_M → Option (Int32 × k_M)) → Option (Int32 × k_M)
  | 0, _, _, _, _, _ => none
  | n + 1, l2, l3, l4, M, kx182 => bd (f_X12_leads l4 l2 l3 M) (fun r1 M2 => if r1 = 0 then f_X12_nearAct_165 n l2 l3 (l4 + 1) M2 kx182 else kx182 l4 M2)
theorem m_X12_nearAct_165 {Z : k_Z} {G : k_G} (C : k_C Z G RX12 cX12_nearAct (true, 7, 3, 0, 0) (some .int) "nearAct") (kx182 : Int32 → k_M → Option (Int32 × k_M)) (Hx182 : ∀ (l4 : Int32) (M : k_M), Sm Z G emI (true, 7, 3, 0, 0) (0, 0) 182 [(4, Value.int l4)] [] M (kx182 l4 M)) : ∀ (n : Nat) (l2 : Int32) (l3 : Int32) (l4 : Int32) (M : k_M), Sm Z G emI (true, 7, 3, 0, 0) (0, 0) 165 [(0, k_ra Z 76), (2, Value.int l2), (3, Value.int l3), (4, Value.int l4)] [] M (f_X12_nearAct_165 n l2 l3 l4 M kx182)
  | 0, _, _, _, _ => x_none
  | n + 1, l2, l3, l4, M => by
    have ih := m_X12_nearAct_165 C kx182 Hx182 n
    show Sm Z G emI _ _ _ _ _ _ (bd (f_X12_leads l4 l2 l3 M) (fun r1 M2 => if r1 = 0 then f_X12_nearAct_165 n l2 l3 (l4 + 1) M2 kx182 else kx182 l4 M2))
    refine x_aload_n C (k_dg dt_X12_nearAct_2 16 165 (.aload_n 0) 1 rfl) 0 rfl ?_
    refine x_iload C (k_dg dt_X12_nearAct_2 17 166 (.iload 4) 2 rfl) 3 rfl ?_
    refine x_iload_n C (k_dg dt_X12_nearAct_2 18 168 (.iload_n 2) 1 rfl) 1 rfl ?_
    refine x_iload_n C (k_dg dt_X12_nearAct_2 19 169 (.iload_n 3) 1 rfl) 2 rfl ?_
    refine x_callV C (a := 76) (kd := 10) (vs := [Value.int l4, Value.int l2, Value.int l3]) (rest := []) rfl rfl (by decide) (fun r hr => by cases hr; rfl) (c_X12_leads C.2.2.2.2.2.2.2.2.2 G.2.1 l4 l2 l3 M) cy_X12_leads lk_RX12_319 im_X12_leads se_X12_leads (by decide) (by decide) (by decide) (by decide) rfl rfl (Nat.le_of_ble_eq_true rfl) (k_dg dt_X12_nearAct_2 20 170 (.invokevirtual 319) 3 rfl) (fun r1 M2 => ?_)
    show Sm Z G _ _ _ _ [(0, k_ra Z 76), (2, Value.int l2), (3, Value.int l3), (4, Value.int l4)] [Value.int r1] _ _
    refine x_if_ne C (tgt := 182) (k_dg dt_X12_nearAct_2 21 173 (.ifCond .ne 9) 3 rfl) (by decide) (fun _ => ?_) (fun _ => ?_)
    · refine x_iinc C (v := 1) (lv' := [(4, Value.int (l4 + 1)), (0, k_ra Z 76), (2, Value.int l2), (3, Value.int l3)]) (k_dg dt_X12_nearAct_2 22 176 (.iinc 4 1) 3 rfl) 3 rfl (by decide) (by decide) rfl ?_
      refine x_goto C (tgt := 165) (k_dg dt_X12_nearAct_2 23 179 (.goto (-14)) 3 rfl) (by decide) ?_
      refine x_lv [1, 2, 3, 0] rfl ?_
      exact ih l2 l3 (l4 + 1) M2
    · refine x_lv [3] rfl ?_
      exact Hx182 l4 M2
def f_X12_nearAct_182 (l4 : Int32) (M : k_M) : Option (Int32 × k_M) := some (l4 + 1, M)
theorem m_X12_nearAct_182 {Z : k_Z} {G : k_G} (C : k_C Z G RX12 cX12_nearAct (true, 7, 3, 0, 0) (some .int) "nearAct") (l4 : Int32) (M : k_M) : Sm Z G emI (true, 7, 3, 0, 0) (0, 0) 182 [(4, Value.int l4)] [] M (f_X12_nearAct_182 l4 M) := by
  show Sm Z G emI _ _ _ _ _ _ (some (l4 + 1, M))
  refine x_iload C (k_dg dt_X12_nearAct_2 24 182 (.iload 4) 2 rfl) 0 rfl ?_
  refine x_iconst C (v := 1) (k_dg dt_X12_nearAct_2 25 184 (.iconst 1) 1 rfl) (by decide) ?_
  refine x_iadd C (k_dg dt_X12_nearAct_2 26 185 (.iadd) 1 rfl) ?_
  exact x_iret C (by decide) (by decide) (k_dg dt_X12_nearAct_2 27 186 (.ireturn) 1 rfl)
def f_X12_nearAct_151 (l2 : Int32) (l3 : Int32) (M : k_M) : Option (Int32 × k_M) := if l3 < 0 then some (0, M) else if l3 = l2 then some (0, M) else f_X12_nearAct_165 k_fu l2 l3 0 M (fun l4_ M_ => f_X12_nearAct_182 l4_ M_)
theorem m_X12_nearAct_151 {Z : k_Z} {G : k_G} (C : k_C Z G RX12 cX12_nearAct (true, 7, 3, 0, 0) (some .int) "nearAct") (l2 : Int32) (l3 : Int32) (M : k_M) : Sm Z G emI (true, 7, 3, 0, 0) (0, 0) 151 [(0, k_ra Z 76), (2, Value.int l2), (3, Value.int l3)] [] M (f_X12_nearAct_151 l2 l3 M) := by
  show Sm Z G emI _ _ _ _ _ _ (if l3 < 0 then some (0, M) else if l3 = l2 then some (0, M) else f_X12_nearAct_165 k_fu l2 l3 0 M (fun l4_ M_ => f_X12_nearAct_182 l4_ M_))
  refine x_iload_n C (k_dg dt_X12_nearAct_2 7 151 (.iload_n 3) 1 rfl) 2 rfl ?_
  refine x_if_lt C (tgt := 160) (k_dg dt_X12_nearAct_2 8 152 (.ifCond .lt 8) 3 rfl) (by decide) (fun _ => ?_) (fun _ => ?_)
  · refine x_iconst C (v := 0) (k_dg dt_X12_nearAct_2 12 160 (.iconst 0) 1 rfl) (by decide) ?_
    exact x_iret C (by decide) (by decide) (k_dg dt_X12_nearAct_2 13 161 (.ireturn) 1 rfl)
  · refine x_iload_n C (k_dg dt_X12_nearAct_2 9 155 (.iload_n 3) 1 rfl) 2 rfl ?_
    refine x_iload_n C (k_dg dt_X12_nearAct_2 10 156 (.iload_n 2) 1 rfl) 1 rfl ?_
    refine x_icmp_ne C (tgt := 162) (k_dg dt_X12_nearAct_2 11 157 (.if_icmp .ne 5) 3 rfl) (by decide) (fun _ => ?_) (fun _ => ?_)
    · refine x_iconst C (v := 0) (k_dg dt_X12_nearAct_2 12 160 (.iconst 0) 1 rfl) (by decide) ?_
      exact x_iret C (by decide) (by decide) (k_dg dt_X12_nearAct_2 13 161 (.ireturn) 1 rfl)
    · refine x_iconst C (v := 0) (k_dg dt_X12_nearAct_2 14 162 (.iconst 0) 1 rfl) (by decide) ?_
      refine x_istore C (lv' := [(4, Value.int 0), (0, k_ra Z 76), (2, Value.int l2), (3, Value.int l3)]) (k_dg dt_X12_nearAct_2 15 163 (.istore 4) 2 rfl) (by decide) rfl ?_
      refine x_lv [1, 2, 3, 0] rfl ?_
      exact m_X12_nearAct_165 C (fun l4_ M_ => f_X12_nearAct_182 l4_ M_) (fun l4_ M_ => m_X12_nearAct_182 C l4_ M_) k_fu l2 l3 0 M
def f_X12_nearAct_40 (l1 : Int32) (M : k_M) : Option (Int32 × k_M) := bd (f_X12_findFars M) (fun r1 M2 => rdI M2 82 1100 0 (fun v3 => bN (-1) (fun v4 => f_X12_nearAct_56 k_fu l1 v3 v4 0 M2 (fun l2_ l3_ M_ => f_X12_nearAct_151 l2_ l3_ M_))))
theorem m_X12_nearAct_40 {Z : k_Z} {G : k_G} (C : k_C Z G RX12 cX12_nearAct (true, 7, 3, 0, 0) (some .int) "nearAct") (l1 : Int32) (M : k_M) : Sm Z G emI (true, 7, 3, 0, 0) (0, 0) 40 [(0, k_ra Z 76), (1, Value.int l1)] [] M (f_X12_nearAct_40 l1 M) := by
  show Sm Z G emI _ _ _ _ _ _ (bd (f_X12_findFars M) (fun r1 M2 => rdI M2 82 1100 0 (fun v3 => bN (-1) (fun v4 => f_X12_nearAct_56 k_fu l1 v3 v4 0 M2 (fun l2_ l3_ M_ => f_X12_nearAct_151 l2_ l3_ M_)))))
  refine x_aload_n C (k_dg dt_X12_nearAct_0 26 40 (.aload_n 0) 1 rfl) 0 rfl ?_
  refine x_callV C (a := 76) (kd := 10) (vs := []) (rest := []) rfl rfl (by decide) (fun r hr => by cases hr; rfl) (c_X12_findFars C.2.2.2.2.2.2.2.2.2 G.2.1 M) cy_X12_findFars lk_RX12_300 im_X12_findFars se_X12_findFars (by decide) (by decide) (by decide) (by decide) rfl rfl (Nat.le_of_ble_eq_true rfl) (k_dg dt_X12_nearAct_0 27 41 (.invokevirtual 300) 3 rfl) (fun r1 M2 => ?_)
  show Sm Z G _ _ _ _ [(0, k_ra Z 76), (1, Value.int l1)] [] _ _
  refine x_aload_n C (k_dg dt_X12_nearAct_0 28 44 (.aload_n 0) 1 rfl) 0 rfl ?_
  refine x_getR C (a := 76) (j := 10) 82 rfl rfl (by decide) fl_RX12_25 rfl rfl rfl (k_dg dt_X12_nearAct_0 29 45 (.getfield 25) 3 rfl) ?_
  refine x_iconst C (v := 0) (k_dg dt_X12_nearAct_0 30 48 (.iconst 0) 1 rfl) (by decide) ?_
  refine x_iald C (a := 82) (n := 1100) rfl rfl (k_dg dt_X12_nearAct_0 31 49 (.iaload) 1 rfl) (fun v3 => ?_)
  refine x_istore_n C (lv' := [(2, Value.int v3), (0, k_ra Z 76), (1, Value.int l1)]) (k_dg dt_X12_nearAct_0 32 50 (.istore_n 2) 1 rfl) (by decide) rfl ?_
  refine x_iconst C (v := -1) (k_dg dt_X12_nearAct_0 33 51 (.iconst (-1)) 1 rfl) (by decide) ?_
  refine x_nm (w := Value.int) (fun v4 _ => ?_)
  refine x_istore_n C (lv' := [(3, Value.int v4), (2, Value.int v3), (0, k_ra Z 76), (1, Value.int l1)]) (k_dg dt_X12_nearAct_0 34 52 (.istore_n 3) 1 rfl) (by decide) rfl ?_
  refine x_iconst C (v := 0) (k_dg dt_X12_nearAct_0 35 53 (.iconst 0) 1 rfl) (by decide) ?_
  refine x_istore C (lv' := [(4, Value.int 0), (3, Value.int v4), (2, Value.int v3), (0, k_ra Z 76), (1, Value.int l1)]) (k_dg dt_X12_nearAct_0 36 54 (.istore 4) 2 rfl) (by decide) rfl ?_
  refine x_lv [3, 4, 2, 1, 0] rfl ?_
  exact m_X12_nearAct_56 C (fun l2_ l3_ M_ => f_X12_nearAct_151 l2_ l3_ M_) (fun l2_ l3_ M_ => m_X12_nearAct_151 C l2_ l3_ M_) k_fu l1 v3 v4 0 M2
def f_X12_nearAct (M : k_M) : Option (Int32 × k_M) := f_X12_nearAct_4 k_fu 0 1 M (fun l1_ M_ => f_X12_nearAct_40 l1_ M_)
theorem m_X12_nearAct_0 {Z : k_Z} {G : k_G} (C : k_C Z G RX12 cX12_nearAct (true, 7, 3, 0, 0) (some .int) "nearAct") (M : k_M) : Sm Z G emI (true, 7, 3, 0, 0) (0, 0) 0 [(0, k_ra Z 76)] [] M (f_X12_nearAct M) := by
  show Sm Z G emI _ _ _ _ _ _ (f_X12_nearAct_4 k_fu 0 1 M (fun l1_ M_ => f_X12_nearAct_40 l1_ M_))
  refine x_iconst C (v := 0) (k_dg dt_X12_nearAct_0 0 0 (.iconst 0) 1 rfl) (by decide) ?_
  refine x_istore_n C (lv' := [(1, Value.int 0), (0, k_ra Z 76)]) (k_dg dt_X12_nearAct_0 1 1 (.istore_n 1) 1 rfl) (by decide) rfl ?_
  refine x_iconst C (v := 1) (k_dg dt_X12_nearAct_0 2 2 (.iconst 1) 1 rfl) (by decide) ?_
  refine x_istore_n C (lv' := [(2, Value.int 1), (1, Value.int 0), (0, k_ra Z 76)]) (k_dg dt_X12_nearAct_0 3 3 (.istore_n 2) 1 rfl) (by decide) rfl ?_
  refine x_lv [2, 1, 0] rfl ?_
  exact m_X12_nearAct_4 C (fun l1_ M_ => f_X12_nearAct_40 l1_ M_) (fun l1_ M_ => m_X12_nearAct_40 C l1_ M_) k_fu 0 1 M
theorem c_X12_nearAct {Z : k_Z} (hg : k_Gd Z) (l : Launch) (M : k_M) : Con true Z l yX12_nearAct cX12_nearAct 7 (some .int) 3 0 0 emI [k_ra Z 76] M (f_X12_nearAct M) := k_con hg (by decide) (Nat.le_of_ble_eq_true rfl) (fun G hl C => m_X12_nearAct_0 C M)
theorem dt_X12_nextOf_0 : k_dec cX12_nextOf [(0, .aload_n 0, 1), (1, .getfield 22, 3), (4, .iconst 3, 1), (5, .iload_n 1, 1), (6, .imul, 1), (7, .iaload, 1), (8, .istore_n 2, 1), (9, .aload_n 0, 1), (10, .getfield 22, 3), (13, .iconst 3, 1), (14, .iload_n 1, 1), (15, .imul, 1), (16, .iconst 1, 1), (17, .iadd, 1), (18, .iaload, 1), (19, .istore_n 3, 1), (20, .iload_n 3, 1), (21, .iconst 4, 1), (22, .aload_n 0, 1), (23, .getfield 22, 3), (26, .iconst 3, 1), (27, .iload_n 1, 1), (28, .imul, 1), (29, .iconst 2, 1), (30, .iadd, 1), (31, .iaload, 1), (32, .iconst 4, 1), (33, .irem, 1), (34, .imul, 1), (35, .ishr, 1), (36, .bipush 15, 2), (38, .iand, 1), (39, .istore 4, 2), (41, .iload_n 2, 1), (42, .tableswitch 69 1 5 #[34, 36, 41, 69, 44], 34), (76, .iconst 0, 1), (77, .ireturn, 1), (78, .aload_n 0, 1), (79, .invokevirtual 322, 3), (82, .ireturn, 1)] = true := by decide +kernel
theorem dt_X12_nextOf_1 : k_dec cX12_nextOf [(83, .iload 4, 2), (85, .ireturn, 1), (86, .iload 4, 2), (88, .bipush 12, 2), (90, .if_icmp .gt 19, 3), (93, .aload_n 0, 1), (94, .iconst 0, 1), (95, .iload 4, 2), (97, .iconst 2, 1), (98, .invokevirtual 256, 3), (101, .ifCond .le 8, 3), (104, .iload 4, 2), (106, .goto 4, 3), (109, .iconst 0, 1), (110, .ireturn, 1), (111, .iload_n 3, 1), (112, .bipush 7, 2), (114, .irem, 1), (115, .istore 5, 2), (117, .iload 5, 2), (119, .ifCond .le 21, 3), (122, .aload_n 0, 1), (123, .iload 5, 2), (125, .invokevirtual 272, 3), (128, .ifCond .lt 12, 3), (131, .aload_n 0, 1), (132, .getfield 43, 3), (135, .iconst 0, 1), (136, .iaload, 1), (137, .goto 7, 3), (140, .aload_n 0, 1), (141, .invokevirtual 322, 3), (144, .ireturn, 1)] = true := by decide +kernel
def f_X12_nextOf_140 (M : k_M) : Option (Int32 × k_M) := bd (f_X12_nearAct M) (fun r1 M2 => some (r1, M2))
theorem m_X12_nextOf_140 {Z : k_Z} {G : k_G} (C : k_C Z G RX12 cX12_nextOf (true, 6, 6, 0, 0) (some .int) "nextOf") (M : k_M) : Sm Z G emI (true, 6, 6, 0, 0) (0, 0) 140 [(0, k_ra Z 76)] [] M (f_X12_nextOf_140 M) := by
  show Sm Z G emI _ _ _ _ _ _ (bd (f_X12_nearAct M) (fun r1 M2 => some (r1, M2)))
  refine x_aload_n C (k_dg dt_X12_nextOf_1 30 140 (.aload_n 0) 1 rfl) 0 rfl ?_
  refine x_callV C (a := 76) (kd := 10) (vs := []) (rest := []) rfl rfl (by decide) (fun r hr => by cases hr; rfl) (c_X12_nearAct C.2.2.2.2.2.2.2.2.2 G.2.1 M) cy_X12_nearAct lk_RX12_322 im_X12_nearAct se_X12_nearAct (by decide) (by decide) (by decide) (by decide) rfl rfl (Nat.le_of_ble_eq_true rfl) (k_dg dt_X12_nextOf_1 31 141 (.invokevirtual 322) 3 rfl) (fun r1 M2 => ?_)
  show Sm Z G _ _ _ _ [(0, k_ra Z 76)] [Value.int r1] _ _
  exact x_iret C (by decide) (by decide) (k_dg dt_X12_nextOf_1 32 144 (.ireturn) 1 rfl)
def f_X12_nextOf (p1 : Int32) (M : k_M) : Option (Int32 × k_M) := rdI M 81 12 (3 * p1) (fun v1 => rdI M 81 12 ((3 * p1) + 1) (fun v2 => rdI M 81 12 ((3 * p1) + 2) (fun v3 => bN ((v2 >>> ((4 * (v3 - v3 / 4 * 4)) &&& 31)) &&& 15) (fun v4 => tsw v1 1 5 (fun i_ => if i_ = 0 then some (0, M) else if i_ = 1 then bd (f_X12_nearAct M) (fun r5 M6 => some (r5, M6)) else if i_ = 2 then some (v4, M) else if i_ = 3 then bN (v2 - v2 / 7 * 7) (fun v7 => if v7 ≤ 0 then f_X12_nextOf_140 M else bd (f_X12_findBest v7 M) (fun r8 M9 => if r8 < 0 then f_X12_nextOf_140 M9 else rdI M9 88 8 0 (fun v10 => some (v10, M9)))) else if i_ = 4 then if 12 < v4 then some (0, M) else bd (f_X12_goes 0 v4 2 M) (fun r11 M12 => if r11 ≤ 0 then some (0, M12) else some (v4, M12)) else bN (v2 - v2 / 7 * 7) (fun v13 => if v13 ≤ 0 then f_X12_nextOf_140 M else bd (f_X12_findBest v13 M) (fun r14 M15 => if r14 < 0 then f_X12_nextOf_140 M15 else rdI M15 88 8 0 (fun v16 => some (v16, M15))))) (bN (v2 - v2 / 7 * 7) (fun v13 => if v13 ≤ 0 then f_X12_nextOf_140 M else bd (f_X12_findBest v13 M) (fun r14 M15 => if r14 < 0 then f_X12_nextOf_140 M15 else rdI M15 88 8 0 (fun v16 => some (v16, M15)))))))))
theorem m_X12_nextOf_0 {Z : k_Z} {G : k_G} (C : k_C Z G RX12 cX12_nextOf (true, 6, 6, 0, 0) (some .int) "nextOf") (p1 : Int32) (M : k_M) : Sm Z G emI (true, 6, 6, 0, 0) (0, 0) 0 [(0, k_ra Z 76), (1, Value.int p1)] [] M (f_X12_nextOf p1 M) := by
  show Sm Z G emI _ _ _ _ _ _ (rdI M 81 12 (3 * p1) (fun v1 => rdI M 81 12 ((3 * p1) + 1) (fun v2 => rdI M 81 12 ((3 * p1) + 2) (fun v3 => bN ((v2 >>> ((4 * (v3 - v3 / 4 * 4)) &&& 31)) &&& 15) (fun v4 => tsw v1 1 5 (fun i_ => if i_ = 0 then some (0, M) else if i_ = 1 then bd (f_X12_nearAct M) (fun r5 M6 => some (r5, M6)) else if i_ = 2 then some (v4, M) else if i_ = 3 then bN (v2 - v2 / 7 * 7) (fun v7 => if v7 ≤ 0 then f_X12_nextOf_140 M else bd (f_X12_findBest v7 M) (fun r8 M9 => if r8 < 0 then f_X12_nextOf_140 M9 else rdI M9 88 8 0 (fun v10 => some (v10, M9)))) else if i_ = 4 then if 12 < v4 then some (0, M) else bd (f_X12_goes 0 v4 2 M) (fun r11 M12 => if r11 ≤ 0 then some (0, M12) else some (v4, M12)) else bN (v2 - v2 / 7 * 7) (fun v13 => if v13 ≤ 0 then f_X12_nextOf_140 M else bd (f_X12_findBest v13 M) (fun r14 M15 => if r14 < 0 then f_X12_nextOf_140 M15 else rdI M15 88 8 0 (fun v16 => some (v16, M15))))) (bN (v2 - v2 / 7 * 7) (fun v13 => if v13 ≤ 0 then f_X12_nextOf_140 M else bd (f_X12_findBest v13 M) (fun r14 M15 => if r14 < 0 then f_X12_nextOf_140 M15 else rdI M15 88 8 0 (fun v16 => some (v16, M15))))))))))
  refine x_aload_n C (k_dg dt_X12_nextOf_0 0 0 (.aload_n 0) 1 rfl) 0 rfl ?_
  refine x_getR C (a := 76) (j := 9) 81 rfl rfl (by decide) fl_RX12_22 rfl rfl rfl (k_dg dt_X12_nextOf_0 1 1 (.getfield 22) 3 rfl) ?_
  refine x_iconst C (v := 3) (k_dg dt_X12_nextOf_0 2 4 (.iconst 3) 1 rfl) (by decide) ?_
  refine x_iload_n C (k_dg dt_X12_nextOf_0 3 5 (.iload_n 1) 1 rfl) 1 rfl ?_
  refine x_imul C (k_dg dt_X12_nextOf_0 4 6 (.imul) 1 rfl) ?_
  refine x_iald C (a := 81) (n := 12) rfl rfl (k_dg dt_X12_nextOf_0 5 7 (.iaload) 1 rfl) (fun v1 => ?_)
  refine x_istore_n C (lv' := [(2, Value.int v1), (0, k_ra Z 76), (1, Value.int p1)]) (k_dg dt_X12_nextOf_0 6 8 (.istore_n 2) 1 rfl) (by decide) rfl ?_
  refine x_aload_n C (k_dg dt_X12_nextOf_0 7 9 (.aload_n 0) 1 rfl) 1 rfl ?_
  refine x_getR C (a := 76) (j := 9) 81 rfl rfl (by decide) fl_RX12_22 rfl rfl rfl (k_dg dt_X12_nextOf_0 8 10 (.getfield 22) 3 rfl) ?_
  refine x_iconst C (v := 3) (k_dg dt_X12_nextOf_0 9 13 (.iconst 3) 1 rfl) (by decide) ?_
  refine x_iload_n C (k_dg dt_X12_nextOf_0 10 14 (.iload_n 1) 1 rfl) 2 rfl ?_
  refine x_imul C (k_dg dt_X12_nextOf_0 11 15 (.imul) 1 rfl) ?_
  refine x_iconst C (v := 1) (k_dg dt_X12_nextOf_0 12 16 (.iconst 1) 1 rfl) (by decide) ?_
  refine x_iadd C (k_dg dt_X12_nextOf_0 13 17 (.iadd) 1 rfl) ?_
  refine x_iald C (a := 81) (n := 12) rfl rfl (k_dg dt_X12_nextOf_0 14 18 (.iaload) 1 rfl) (fun v2 => ?_)
  refine x_istore_n C (lv' := [(3, Value.int v2), (2, Value.int v1), (0, k_ra Z 76), (1, Value.int p1)]) (k_dg dt_X12_nextOf_0 15 19 (.istore_n 3) 1 rfl) (by decide) rfl ?_
  refine x_iload_n C (k_dg dt_X12_nextOf_0 16 20 (.iload_n 3) 1 rfl) 0 rfl ?_
  refine x_iconst C (v := 4) (k_dg dt_X12_nextOf_0 17 21 (.iconst 4) 1 rfl) (by decide) ?_
  refine x_aload_n C (k_dg dt_X12_nextOf_0 18 22 (.aload_n 0) 1 rfl) 2 rfl ?_
  refine x_getR C (a := 76) (j := 9) 81 rfl rfl (by decide) fl_RX12_22 rfl rfl rfl (k_dg dt_X12_nextOf_0 19 23 (.getfield 22) 3 rfl) ?_
  refine x_iconst C (v := 3) (k_dg dt_X12_nextOf_0 20 26 (.iconst 3) 1 rfl) (by decide) ?_
  refine x_iload_n C (k_dg dt_X12_nextOf_0 21 27 (.iload_n 1) 1 rfl) 3 rfl ?_
  refine x_imul C (k_dg dt_X12_nextOf_0 22 28 (.imul) 1 rfl) ?_
  refine x_iconst C (v := 2) (k_dg dt_X12_nextOf_0 23 29 (.iconst 2) 1 rfl) (by decide) ?_
  refine x_iadd C (k_dg dt_X12_nextOf_0 24 30 (.iadd) 1 rfl) ?_
  refine x_iald C (a := 81) (n := 12) rfl rfl (k_dg dt_X12_nextOf_0 25 31 (.iaload) 1 rfl) (fun v3 => ?_)
  refine x_iconst C (v := 4) (k_dg dt_X12_nextOf_0 26 32 (.iconst 4) 1 rfl) (by decide) ?_
  refine x_iremC C (k_dg dt_X12_nextOf_0 27 33 (.irem) 1 rfl) (by decide) ?_
  refine x_imul C (k_dg dt_X12_nextOf_0 28 34 (.imul) 1 rfl) ?_
  refine x_ishr C (k_dg dt_X12_nextOf_0 29 35 (.ishr) 1 rfl) ?_
  refine x_bipush C (v := 15) (k_dg dt_X12_nextOf_0 30 36 (.bipush 15) 2 rfl) (by decide) ?_
  refine x_iand C (k_dg dt_X12_nextOf_0 31 38 (.iand) 1 rfl) ?_
  refine x_nm (w := Value.int) (fun v4 _ => ?_)
  refine x_istore C (lv' := [(4, Value.int v4), (3, Value.int v2), (2, Value.int v1), (0, k_ra Z 76), (1, Value.int p1)]) (k_dg dt_X12_nextOf_0 32 39 (.istore 4) 2 rfl) (by decide) rfl ?_
  refine x_iload_n C (k_dg dt_X12_nextOf_0 33 41 (.iload_n 2) 1 rfl) 2 rfl ?_
  refine x_tsw C (n := 5) (tgt := 111) (k_dg dt_X12_nextOf_0 34 42 (.tableswitch 69 1 5 #[34, 36, 41, 69, 44]) 34 rfl) (by decide) (by decide) (fun i_ => [76, 78, 83, 111, 86].getD i_ 0) (by decide) (fun i_ hi_ _ => ?_) ?_
  · match i_, hi_ with
    | 0, _ =>
      show Sm Z G emI _ _ 76 _ _ _ (some (0, M))
      refine x_iconst C (v := 0) (k_dg dt_X12_nextOf_0 35 76 (.iconst 0) 1 rfl) (by decide) ?_
      exact x_iret C (by decide) (by decide) (k_dg dt_X12_nextOf_0 36 77 (.ireturn) 1 rfl)
    | 1, _ =>
      show Sm Z G emI _ _ 78 _ _ _ (bd (f_X12_nearAct M) (fun r5 M6 => some (r5, M6)))
      refine x_aload_n C (k_dg dt_X12_nextOf_0 37 78 (.aload_n 0) 1 rfl) 3 rfl ?_
      refine x_callV C (a := 76) (kd := 10) (vs := []) (rest := []) rfl rfl (by decide) (fun r hr => by cases hr; rfl) (c_X12_nearAct C.2.2.2.2.2.2.2.2.2 G.2.1 M) cy_X12_nearAct lk_RX12_322 im_X12_nearAct se_X12_nearAct (by decide) (by decide) (by decide) (by decide) rfl rfl (Nat.le_of_ble_eq_true rfl) (k_dg dt_X12_nextOf_0 38 79 (.invokevirtual 322) 3 rfl) (fun r5 M6 => ?_)
      show Sm Z G _ _ _ _ [(4, Value.int v4), (3, Value.int v2), (2, Value.int v1), (0, k_ra Z 76), (1, Value.int p1)] [Value.int r5] _ _
      exact x_iret C (by decide) (by decide) (k_dg dt_X12_nextOf_0 39 82 (.ireturn) 1 rfl)
    | 2, _ =>
      show Sm Z G emI _ _ 83 _ _ _ (some (v4, M))
      refine x_iload C (k_dg dt_X12_nextOf_1 0 83 (.iload 4) 2 rfl) 0 rfl ?_
      exact x_iret C (by decide) (by decide) (k_dg dt_X12_nextOf_1 1 85 (.ireturn) 1 rfl)
    | 3, _ =>
      show Sm Z G emI _ _ 111 _ _ _ (bN (v2 - v2 / 7 * 7) (fun v7 => if v7 ≤ 0 then f_X12_nextOf_140 M else bd (f_X12_findBest v7 M) (fun r8 M9 => if r8 < 0 then f_X12_nextOf_140 M9 else rdI M9 88 8 0 (fun v10 => some (v10, M9)))))
      refine x_iload_n C (k_dg dt_X12_nextOf_1 15 111 (.iload_n 3) 1 rfl) 1 rfl ?_
      refine x_bipush C (v := 7) (k_dg dt_X12_nextOf_1 16 112 (.bipush 7) 2 rfl) (by decide) ?_
      refine x_iremC C (k_dg dt_X12_nextOf_1 17 114 (.irem) 1 rfl) (by decide) ?_
      refine x_nm (w := Value.int) (fun v7 _ => ?_)
      refine x_istore C (lv' := [(5, Value.int v7), (4, Value.int v4), (3, Value.int v2), (2, Value.int v1), (0, k_ra Z 76), (1, Value.int p1)]) (k_dg dt_X12_nextOf_1 18 115 (.istore 5) 2 rfl) (by decide) rfl ?_
      refine x_iload C (k_dg dt_X12_nextOf_1 19 117 (.iload 5) 2 rfl) 0 rfl ?_
      refine x_if_le C (tgt := 140) (k_dg dt_X12_nextOf_1 20 119 (.ifCond .le 21) 3 rfl) (by decide) (fun _ => ?_) (fun _ => ?_)
      · refine x_lv [4] rfl ?_
        exact m_X12_nextOf_140 C M
      · refine x_aload_n C (k_dg dt_X12_nextOf_1 21 122 (.aload_n 0) 1 rfl) 4 rfl ?_
        refine x_iload C (k_dg dt_X12_nextOf_1 22 123 (.iload 5) 2 rfl) 0 rfl ?_
        refine x_callV C (a := 76) (kd := 10) (vs := [Value.int v7]) (rest := []) rfl rfl (by decide) (fun r hr => by cases hr; rfl) (c_X12_findBest C.2.2.2.2.2.2.2.2.2 G.2.1 v7 M) cy_X12_findBest lk_RX12_272 im_X12_findBest se_X12_findBest (by decide) (by decide) (by decide) (by decide) rfl rfl (Nat.le_of_ble_eq_true rfl) (k_dg dt_X12_nextOf_1 23 125 (.invokevirtual 272) 3 rfl) (fun r8 M9 => ?_)
        show Sm Z G _ _ _ _ [(5, Value.int v7), (4, Value.int v4), (3, Value.int v2), (2, Value.int v1), (0, k_ra Z 76), (1, Value.int p1)] [Value.int r8] _ _
        refine x_if_lt C (tgt := 140) (k_dg dt_X12_nextOf_1 24 128 (.ifCond .lt 12) 3 rfl) (by decide) (fun _ => ?_) (fun _ => ?_)
        · refine x_lv [4] rfl ?_
          exact m_X12_nextOf_140 C M9
        · refine x_aload_n C (k_dg dt_X12_nextOf_1 25 131 (.aload_n 0) 1 rfl) 4 rfl ?_
          refine x_getR C (a := 76) (j := 25) 88 rfl rfl (by decide) fl_RX12_43 rfl rfl rfl (k_dg dt_X12_nextOf_1 26 132 (.getfield 43) 3 rfl) ?_
          refine x_iconst C (v := 0) (k_dg dt_X12_nextOf_1 27 135 (.iconst 0) 1 rfl) (by decide) ?_
          refine x_iald C (a := 88) (n := 8) rfl rfl (k_dg dt_X12_nextOf_1 28 136 (.iaload) 1 rfl) (fun v10 => ?_)
          refine x_goto C (tgt := 144) (k_dg dt_X12_nextOf_1 29 137 (.goto 7) 3 rfl) (by decide) ?_
          exact x_iret C (by decide) (by decide) (k_dg dt_X12_nextOf_1 32 144 (.ireturn) 1 rfl)
    | 4, _ =>
      show Sm Z G emI _ _ 86 _ _ _ (if 12 < v4 then some (0, M) else bd (f_X12_goes 0 v4 2 M) (fun r11 M12 => if r11 ≤ 0 then some (0, M12) else some (v4, M12)))
      refine x_iload C (k_dg dt_X12_nextOf_1 2 86 (.iload 4) 2 rfl) 0 rfl ?_
      refine x_bipush C (v := 12) (k_dg dt_X12_nextOf_1 3 88 (.bipush 12) 2 rfl) (by decide) ?_
      refine x_icmp_gt C (tgt := 109) (k_dg dt_X12_nextOf_1 4 90 (.if_icmp .gt 19) 3 rfl) (by decide) (fun _ => ?_) (fun _ => ?_)
      · refine x_iconst C (v := 0) (k_dg dt_X12_nextOf_1 13 109 (.iconst 0) 1 rfl) (by decide) ?_
        exact x_iret C (by decide) (by decide) (k_dg dt_X12_nextOf_1 14 110 (.ireturn) 1 rfl)
      · refine x_aload_n C (k_dg dt_X12_nextOf_1 5 93 (.aload_n 0) 1 rfl) 3 rfl ?_
        refine x_iconst C (v := 0) (k_dg dt_X12_nextOf_1 6 94 (.iconst 0) 1 rfl) (by decide) ?_
        refine x_iload C (k_dg dt_X12_nextOf_1 7 95 (.iload 4) 2 rfl) 0 rfl ?_
        refine x_iconst C (v := 2) (k_dg dt_X12_nextOf_1 8 97 (.iconst 2) 1 rfl) (by decide) ?_
        refine x_callV C (a := 76) (kd := 10) (vs := [Value.int 0, Value.int v4, Value.int 2]) (rest := []) rfl rfl (by decide) (fun r hr => by cases hr; rfl) (c_X12_goes C.2.2.2.2.2.2.2.2.2 G.2.1 0 v4 2 M) cy_X12_goes lk_RX12_256 im_X12_goes se_X12_goes (by decide) (by decide) (by decide) (by decide) rfl rfl (Nat.le_of_ble_eq_true rfl) (k_dg dt_X12_nextOf_1 9 98 (.invokevirtual 256) 3 rfl) (fun r11 M12 => ?_)
        show Sm Z G _ _ _ _ [(4, Value.int v4), (3, Value.int v2), (2, Value.int v1), (0, k_ra Z 76), (1, Value.int p1)] [Value.int r11] _ _
        refine x_if_le C (tgt := 109) (k_dg dt_X12_nextOf_1 10 101 (.ifCond .le 8) 3 rfl) (by decide) (fun _ => ?_) (fun _ => ?_)
        · refine x_iconst C (v := 0) (k_dg dt_X12_nextOf_1 13 109 (.iconst 0) 1 rfl) (by decide) ?_
          exact x_iret C (by decide) (by decide) (k_dg dt_X12_nextOf_1 14 110 (.ireturn) 1 rfl)
        · refine x_iload C (k_dg dt_X12_nextOf_1 11 104 (.iload 4) 2 rfl) 0 rfl ?_
          refine x_goto C (tgt := 110) (k_dg dt_X12_nextOf_1 12 106 (.goto 4) 3 rfl) (by decide) ?_
          exact x_iret C (by decide) (by decide) (k_dg dt_X12_nextOf_1 14 110 (.ireturn) 1 rfl)
    | k + 5, h => exact absurd h (by omega)
  · refine x_iload_n C (k_dg dt_X12_nextOf_1 15 111 (.iload_n 3) 1 rfl) 1 rfl ?_
    refine x_bipush C (v := 7) (k_dg dt_X12_nextOf_1 16 112 (.bipush 7) 2 rfl) (by decide) ?_
    refine x_iremC C (k_dg dt_X12_nextOf_1 17 114 (.irem) 1 rfl) (by decide) ?_
    refine x_nm (w := Value.int) (fun v13 _ => ?_)
    refine x_istore C (lv' := [(5, Value.int v13), (4, Value.int v4), (3, Value.int v2), (2, Value.int v1), (0, k_ra Z 76), (1, Value.int p1)]) (k_dg dt_X12_nextOf_1 18 115 (.istore 5) 2 rfl) (by decide) rfl ?_
    refine x_iload C (k_dg dt_X12_nextOf_1 19 117 (.iload 5) 2 rfl) 0 rfl ?_
    refine x_if_le C (tgt := 140) (k_dg dt_X12_nextOf_1 20 119 (.ifCond .le 21) 3 rfl) (by decide) (fun _ => ?_) (fun _ => ?_)
    · refine x_lv [4] rfl ?_
      exact m_X12_nextOf_140 C M
    · refine x_aload_n C (k_dg dt_X12_nextOf_1 21 122 (.aload_n 0) 1 rfl) 4 rfl ?_
      refine x_iload C (k_dg dt_X12_nextOf_1 22 123 (.iload 5) 2 rfl) 0 rfl ?_
      refine x_callV C (a := 76) (kd := 10) (vs := [Value.int v13]) (rest := []) rfl rfl (by decide) (fun r hr => by cases hr; rfl) (c_X12_findBest C.2.2.2.2.2.2.2.2.2 G.2.1 v13 M) cy_X12_findBest lk_RX12_272 im_X12_findBest se_X12_findBest (by decide) (by decide) (by decide) (by decide) rfl rfl (Nat.le_of_ble_eq_true rfl) (k_dg dt_X12_nextOf_1 23 125 (.invokevirtual 272) 3 rfl) (fun r14 M15 => ?_)
      show Sm Z G _ _ _ _ [(5, Value.int v13), (4, Value.int v4), (3, Value.int v2), (2, Value.int v1), (0, k_ra Z 76), (1, Value.int p1)] [Value.int r14] _ _
      refine x_if_lt C (tgt := 140) (k_dg dt_X12_nextOf_1 24 128 (.ifCond .lt 12) 3 rfl) (by decide) (fun _ => ?_) (fun _ => ?_)
      · refine x_lv [4] rfl ?_
        exact m_X12_nextOf_140 C M15
      · refine x_aload_n C (k_dg dt_X12_nextOf_1 25 131 (.aload_n 0) 1 rfl) 4 rfl ?_
        refine x_getR C (a := 76) (j := 25) 88 rfl rfl (by decide) fl_RX12_43 rfl rfl rfl (k_dg dt_X12_nextOf_1 26 132 (.getfield 43) 3 rfl) ?_
        refine x_iconst C (v := 0) (k_dg dt_X12_nextOf_1 27 135 (.iconst 0) 1 rfl) (by decide) ?_
        refine x_iald C (a := 88) (n := 8) rfl rfl (k_dg dt_X12_nextOf_1 28 136 (.iaload) 1 rfl) (fun v16 => ?_)
        refine x_goto C (tgt := 144) (k_dg dt_X12_nextOf_1 29 137 (.goto 7) 3 rfl) (by decide) ?_
        exact x_iret C (by decide) (by decide) (k_dg dt_X12_nextOf_1 32 144 (.ireturn) 1 rfl)
theorem c_X12_nextOf {Z : k_Z} (hg : k_Gd Z) (l : Launch) (p1 : Int32) (M : k_M) : Con true Z l yX12_nextOf cX12_nextOf 6 (some .int) 6 0 0 emI [k_ra Z 76, Value.int p1] M (f_X12_nextOf p1 M) := k_con hg (by decide) (Nat.le_of_ble_eq_true rfl) (fun G hl C => m_X12_nextOf_0 C p1 M)
theorem dt_X12_next_0 : k_dec cX12_next [(0, .aload_n 0, 1), (1, .iload_n 1, 1), (2, .invokevirtual 316, 3), (5, .ifCond .ne 5, 3), (8, .iconst (-1), 1), (9, .ireturn, 1), (10, .aload_n 0, 1), (11, .getfield 205, 3), (14, .ifCond .eq 11, 3), (17, .aload_n 0, 1), (18, .iload_n 1, 1), (19, .invokevirtual 325, 3), (22, .goto 5, 3), (25, .bipush (-4), 2), (27, .ireturn, 1)] = true := by decide +kernel
def f_X12_next (p1 : Int32) (M : k_M) : Option (Int32 × k_M) := bd (f_X12_isRule p1 M) (fun r1 M2 => if r1 = 0 then some (-1, M2) else if (M2.1 76 7) = 0 then some (-4, M2) else bd (f_X12_nextOf p1 M2) (fun r3 M4 => some (r3, M4)))
theorem m_X12_next_0 {Z : k_Z} {G : k_G} (C : k_C Z G RX12 cX12_next (true, 2, 7, 0, 0) (some .int) "next") (p1 : Int32) (M : k_M) : Sm Z G emI (true, 2, 7, 0, 0) (0, 0) 0 [(0, k_ra Z 76), (1, Value.int p1)] [] M (f_X12_next p1 M) := by
  show Sm Z G emI _ _ _ _ _ _ (bd (f_X12_isRule p1 M) (fun r1 M2 => if r1 = 0 then some (-1, M2) else if (M2.1 76 7) = 0 then some (-4, M2) else bd (f_X12_nextOf p1 M2) (fun r3 M4 => some (r3, M4))))
  refine x_aload_n C (k_dg dt_X12_next_0 0 0 (.aload_n 0) 1 rfl) 0 rfl ?_
  refine x_iload_n C (k_dg dt_X12_next_0 1 1 (.iload_n 1) 1 rfl) 1 rfl ?_
  refine x_callV C (a := 76) (kd := 10) (vs := [Value.int p1]) (rest := []) rfl rfl (by decide) (fun r hr => by cases hr; rfl) (c_X12_isRule C.2.2.2.2.2.2.2.2.2 G.2.1 p1 M) cy_X12_isRule lk_RX12_316 im_X12_isRule se_X12_isRule (by decide) (by decide) (by decide) (by decide) rfl rfl (Nat.le_of_ble_eq_true rfl) (k_dg dt_X12_next_0 2 2 (.invokevirtual 316) 3 rfl) (fun r1 M2 => ?_)
  show Sm Z G _ _ _ _ [(0, k_ra Z 76), (1, Value.int p1)] [Value.int r1] _ _
  refine x_if_ne C (tgt := 10) (k_dg dt_X12_next_0 3 5 (.ifCond .ne 5) 3 rfl) (by decide) (fun _ => ?_) (fun _ => ?_)
  · refine x_iconst C (v := -1) (k_dg dt_X12_next_0 4 8 (.iconst (-1)) 1 rfl) (by decide) ?_
    exact x_iret C (by decide) (by decide) (k_dg dt_X12_next_0 5 9 (.ireturn) 1 rfl)
  · refine x_aload_n C (k_dg dt_X12_next_0 6 10 (.aload_n 0) 1 rfl) 0 rfl ?_
    refine x_getI C (a := 76) (j := 7) rfl rfl (by decide) fl_RX12_205 rfl (k_dg dt_X12_next_0 7 11 (.getfield 205) 3 rfl) ?_
    refine x_if_eq C (tgt := 25) (k_dg dt_X12_next_0 8 14 (.ifCond .eq 11) 3 rfl) (by decide) (fun _ => ?_) (fun _ => ?_)
    · refine x_bipush C (v := -4) (k_dg dt_X12_next_0 13 25 (.bipush (-4)) 2 rfl) (by decide) ?_
      exact x_iret C (by decide) (by decide) (k_dg dt_X12_next_0 14 27 (.ireturn) 1 rfl)
    · refine x_aload_n C (k_dg dt_X12_next_0 9 17 (.aload_n 0) 1 rfl) 0 rfl ?_
      refine x_iload_n C (k_dg dt_X12_next_0 10 18 (.iload_n 1) 1 rfl) 1 rfl ?_
      refine x_callV C (a := 76) (kd := 10) (vs := [Value.int p1]) (rest := []) rfl rfl (by decide) (fun r hr => by cases hr; rfl) (c_X12_nextOf C.2.2.2.2.2.2.2.2.2 G.2.1 p1 M2) cy_X12_nextOf lk_RX12_325 im_X12_nextOf se_X12_nextOf (by decide) (by decide) (by decide) (by decide) rfl rfl (Nat.le_of_ble_eq_true rfl) (k_dg dt_X12_next_0 11 19 (.invokevirtual 325) 3 rfl) (fun r3 M4 => ?_)
      show Sm Z G _ _ _ _ [(0, k_ra Z 76), (1, Value.int p1)] [Value.int r3] _ _
      refine x_goto C (tgt := 27) (k_dg dt_X12_next_0 12 22 (.goto 5) 3 rfl) (by decide) ?_
      exact x_iret C (by decide) (by decide) (k_dg dt_X12_next_0 14 27 (.ireturn) 1 rfl)
theorem c_X12_next {Z : k_Z} (hg : k_Gd Z) (l : Launch) (p1 : Int32) (M : k_M) : Con true Z l yX12_next cX12_next 2 (some .int) 7 0 0 emI [k_ra Z 76, Value.int p1] M (f_X12_next p1 M) := k_con hg (by decide) (Nat.le_of_ble_eq_true rfl) (fun G hl C => m_X12_next_0 C p1 M)
