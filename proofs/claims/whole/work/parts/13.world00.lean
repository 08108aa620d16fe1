theorem iu_8 : ∀ w ∈ u_ws RX10 TX10 10, w ∈ lw_tbl ∧ goodWord w = true := k_inU _ [281, 283, 285, 287, 289, 291, 293, 295, 297, 299] (by decide +kernel) (by decide +kernel)
theorem tb_8 : k_tbs 8 := fun r hr => by cases hr; exact ⟨⟨tyX10, tyX10_ok⟩, nmX10⟩
theorem fl_RX10_10 : k_FL RX10 10 8 0 := ⟨(RX10, TX10, 10), "WheelCity$World", rfl, by decide, iu_8, Or.inl (List.mem_of_getElem? (i := 257) (by decide +kernel)), Or.inl rfl⟩
theorem fl_RX10_109 : k_FL RX10 109 2 4 := ⟨(RX3, TX3, 16), "WheelCity$Land", rfl, by decide, iu_2, Or.inr (List.mem_of_getElem? (i := 187) (by decide +kernel)), Or.inl rfl⟩
theorem fl_RX10_119 : k_FL RX10 119 2 12 := ⟨(RX3, TX3, 16), "WheelCity$Land", rfl, by decide, iu_2, Or.inr (List.mem_of_getElem? (i := 208) (by decide +kernel)), Or.inl rfl⟩
theorem fl_RX10_122 : k_FL RX10 122 2 2 := ⟨(RX3, TX3, 16), "WheelCity$Land", rfl, by decide, iu_2, Or.inr (List.mem_of_getElem? (i := 183) (by decide +kernel)), Or.inl rfl⟩
theorem fl_RX10_135 : k_FL RX10 135 2 8 := ⟨(RX3, TX3, 16), "WheelCity$Land", rfl, by decide, iu_2, Or.inr (List.mem_of_getElem? (i := 198) (by decide +kernel)), Or.inl rfl⟩
theorem fl_RX10_138 : k_FL RX10 138 2 9 := ⟨(RX3, TX3, 16), "WheelCity$Land", rfl, by decide, iu_2, Or.inr (List.mem_of_getElem? (i := 201) (by decide +kernel)), Or.inl rfl⟩
theorem fl_RX10_148 : k_FL RX10 148 2 0 := ⟨(RX3, TX3, 16), "WheelCity$Land", rfl, by decide, iu_2, Or.inr (List.mem_of_getElem? (i := 177) (by decide +kernel)), Or.inl rfl⟩
theorem fl_RX10_151 : k_FL RX10 151 2 7 := ⟨(RX3, TX3, 16), "WheelCity$Land", rfl, by decide, iu_2, Or.inr (List.mem_of_getElem? (i := 195) (by decide +kernel)), Or.inl rfl⟩
theorem fl_RX10_25 : k_FL RX10 25 8 1 := ⟨(RX10, TX10, 10), "WheelCity$World", rfl, by decide, iu_8, Or.inl (List.mem_of_getElem? (i := 260) (by decide +kernel)), Or.inl rfl⟩
theorem fl_RX10_28 : k_FL RX10 28 8 2 := ⟨(RX10, TX10, 10), "WheelCity$World", rfl, by decide, iu_8, Or.inl (List.mem_of_getElem? (i := 263) (by decide +kernel)), Or.inl rfl⟩
theorem fl_RX10_32 : k_FL RX10 32 8 3 := ⟨(RX10, TX10, 10), "WheelCity$World", rfl, by decide, iu_8, Or.inl (List.mem_of_getElem? (i := 265) (by decide +kernel)), Or.inl rfl⟩
theorem fl_RX10_36 : k_FL RX10 36 8 4 := ⟨(RX10, TX10, 10), "WheelCity$World", rfl, by decide, iu_8, Or.inl (List.mem_of_getElem? (i := 267) (by decide +kernel)), Or.inl rfl⟩
theorem fl_RX10_39 : k_FL RX10 39 8 5 := ⟨(RX10, TX10, 10), "WheelCity$World", rfl, by decide, iu_8, Or.inl (List.mem_of_getElem? (i := 270) (by decide +kernel)), Or.inl rfl⟩
theorem fl_RX10_42 : k_FL RX10 42 8 6 := ⟨(RX10, TX10, 10), "WheelCity$World", rfl, by decide, iu_8, Or.inl (List.mem_of_getElem? (i := 272) (by decide +kernel)), Or.inl rfl⟩
theorem fl_RX10_45 : k_FL RX10 45 8 7 := ⟨(RX10, TX10, 10), "WheelCity$World", rfl, by decide, iu_8, Or.inl (List.mem_of_getElem? (i := 274) (by decide +kernel)), Or.inl rfl⟩
theorem fl_RX10_50 : k_FL RX10 50 8 8 := ⟨(RX10, TX10, 10), "WheelCity$World", rfl, by decide, iu_8, Or.inl (List.mem_of_getElem? (i := 276) (by decide +kernel)), Or.inl rfl⟩
theorem fl_RX10_54 : k_FL RX10 54 8 9 := ⟨(RX10, TX10, 10), "WheelCity$World", rfl, by decide, iu_8, Or.inl (List.mem_of_getElem? (i := 278) (by decide +kernel)), Or.inl rfl⟩
theorem fl_RX10_68 : k_FL RX10 68 2 5 := ⟨(RX3, TX3, 16), "WheelCity$Land", rfl, by decide, iu_2, Or.inr (List.mem_of_getElem? (i := 189) (by decide +kernel)), Or.inl rfl⟩
theorem fl_RX10_71 : k_FL RX10 71 2 6 := ⟨(RX3, TX3, 16), "WheelCity$Land", rfl, by decide, iu_2, Or.inr (List.mem_of_getElem? (i := 191) (by decide +kernel)), Or.inl rfl⟩
theorem fl_RX10_74 : k_FL RX10 74 2 10 := ⟨(RX3, TX3, 16), "WheelCity$Land", rfl, by decide, iu_2, Or.inr (List.mem_of_getElem? (i := 204) (by decide +kernel)), Or.inl rfl⟩
theorem fl_RX10_77 : k_FL RX10 77 2 1 := ⟨(RX3, TX3, 16), "WheelCity$Land", rfl, by decide, iu_2, Or.inr (List.mem_of_getElem? (i := 180) (by decide +kernel)), Or.inl rfl⟩
theorem pt_8_2 : k_cls 8 2 .int := fun r hr => by cases hr; exact ⟨rfl, by decide +kernel⟩
theorem pt_8_3 : k_cls 8 3 .boolean := fun r hr => by cases hr; exact ⟨rfl, by decide +kernel⟩
theorem pt_8_4 : k_cls 8 4 .int := fun r hr => by cases hr; exact ⟨rfl, by decide +kernel⟩
theorem pt_8_5 : k_cls 8 5 .int := fun r hr => by cases hr; exact ⟨rfl, by decide +kernel⟩
theorem pt_8_7 : k_cls 8 7 .int := fun r hr => by cases hr; exact ⟨rfl, by decide +kernel⟩
theorem cy_X10_attempt : k_cy yX10_attempt cX10_attempt 2 (some .int) 1 := ⟨List.mem_of_getElem? (i := 607) (by decide +kernel), List.mem_of_getElem? (i := 109) (by decide +kernel), ⟨by decide +kernel, by decide +kernel⟩, by decide +kernel⟩
theorem cy_X10_eat : k_cy yX10_eat cX10_eat 6 (some .boolean) 2 := ⟨List.mem_of_getElem? (i := 626) (by decide +kernel), List.mem_of_getElem? (i := 109) (by decide +kernel), ⟨by decide +kernel, by decide +kernel⟩, by decide +kernel⟩
theorem cy_X10_go : k_cy yX10_go cX10_go 2 (some .int) 1 := ⟨List.mem_of_getElem? (i := 633) (by decide +kernel), List.mem_of_getElem? (i := 109) (by decide +kernel), ⟨by decide +kernel, by decide +kernel⟩, by decide +kernel⟩
theorem cy_X10_monthOf : k_cy yX10_monthOf cX10_monthOf 1 (some .int) 1 := ⟨List.mem_of_getElem? (i := 591) (by decide +kernel), List.mem_of_getElem? (i := 109) (by decide +kernel), ⟨by decide +kernel, by decide +kernel⟩, by decide +kernel⟩
theorem cy_X10_noneLess : k_cy yX10_noneLess cX10_noneLess 4 (some .boolean) 3 := ⟨List.mem_of_getElem? (i := 772) (by decide +kernel), List.mem_of_getElem? (i := 109) (by decide +kernel), ⟨by decide +kernel, by decide +kernel⟩, by decide +kernel⟩
theorem cy_X10_rains : k_cy yX10_rains cX10_rains 1 (some .boolean) 0 := ⟨List.mem_of_getElem? (i := 611) (by decide +kernel), List.mem_of_getElem? (i := 109) (by decide +kernel), ⟨by decide +kernel, by decide +kernel⟩, by decide +kernel⟩
theorem cy_X10_spitOut : k_cy yX10_spitOut cX10_spitOut 3 none 2 := ⟨List.mem_of_getElem? (i := 649) (by decide +kernel), List.mem_of_getElem? (i := 109) (by decide +kernel), ⟨by decide +kernel, by decide +kernel⟩, by decide +kernel⟩
theorem cy_X10_stand : k_cy yX10_stand cX10_stand 5 (some .int) 1 := ⟨List.mem_of_getElem? (i := 615) (by decide +kernel), List.mem_of_getElem? (i := 109) (by decide +kernel), ⟨by decide +kernel, by decide +kernel⟩, by decide +kernel⟩
theorem cy_X10_takeBack : k_cy yX10_takeBack cX10_takeBack 4 none 2 := ⟨List.mem_of_getElem? (i := 645) (by decide +kernel), List.mem_of_getElem? (i := 109) (by decide +kernel), ⟨by decide +kernel, by decide +kernel⟩, by decide +kernel⟩
theorem cy_X10_taking : k_cy yX10_taking cX10_taking 8 (some .int) 2 := ⟨List.mem_of_getElem? (i := 620) (by decide +kernel), List.mem_of_getElem? (i := 109) (by decide +kernel), ⟨by decide +kernel, by decide +kernel⟩, by decide +kernel⟩
theorem cy_X3_becomeAsTold : k_cy yX3_becomeAsTold cX3_becomeAsTold 1 none 0 := ⟨List.mem_of_getElem? (i := 584) (by decide +kernel), List.mem_of_getElem? (i := 110) (by decide +kernel), ⟨by decide +kernel, by decide +kernel⟩, by decide +kernel⟩
theorem cy_X3_copyFrom : k_cy yX3_copyFrom cX3_copyFrom 2 none 1 := ⟨List.mem_of_getElem? (i := 517) (by decide +kernel), List.mem_of_getElem? (i := 110) (by decide +kernel), ⟨by decide +kernel, by decide +kernel⟩, by decide +kernel⟩
theorem cy_X3_hasWay : k_cy yX3_hasWay cX3_hasWay 2 (some .boolean) 1 := ⟨List.mem_of_getElem? (i := 558) (by decide +kernel), List.mem_of_getElem? (i := 110) (by decide +kernel), ⟨by decide +kernel, by decide +kernel⟩, by decide +kernel⟩
theorem cy_X3_isOpen : k_cy yX3_isOpen cX3_isOpen 3 (some .boolean) 2 := ⟨List.mem_of_getElem? (i := 637) (by decide +kernel), List.mem_of_getElem? (i := 110) (by decide +kernel), ⟨by decide +kernel, by decide +kernel⟩, by decide +kernel⟩
theorem lk_RX10_57 : k_lk RX10 57 yX3_copyFrom := Or.inr (List.mem_of_getElem? (i := 764) (by decide +kernel))
theorem lk_RX10_61 : k_lk RX10 61 yX3_copy := Or.inr (List.mem_of_getElem? (i := 765) (by decide +kernel))
theorem lk_RX10_65 : k_lk RX10 65 yX3_becomeAsTold := Or.inr (List.mem_of_getElem? (i := 581) (by decide +kernel))
theorem lk_RX10_80 : k_lk RX10 80 yX10_attempt := Or.inl (List.mem_of_getElem? (i := 604) (by decide +kernel))
theorem lk_RX10_84 : k_lk RX10 84 yX10_takeBack := Or.inl (List.mem_of_getElem? (i := 642) (by decide +kernel))
theorem lk_RX10_88 : k_lk RX10 88 yX10_rains := Or.inl (List.mem_of_getElem? (i := 608) (by decide +kernel))
theorem lk_RX10_92 : k_lk RX10 92 yX10_stand := Or.inl (List.mem_of_getElem? (i := 612) (by decide +kernel))
theorem lk_RX10_96 : k_lk RX10 96 yX3_hasWay := Or.inr (List.mem_of_getElem? (i := 629) (by decide +kernel))
theorem lk_RX10_100 : k_lk RX10 100 yX10_go := Or.inl (List.mem_of_getElem? (i := 630) (by decide +kernel))
theorem lk_RX10_103 : k_lk RX10 103 yX10_spitOut := Or.inl (List.mem_of_getElem? (i := 646) (by decide +kernel))
theorem lk_RX10_115 : k_lk RX10 115 yX3_farEnd := Or.inr (List.mem_of_getElem? (i := 638) (by decide +kernel))
theorem lk_RX10_125 : k_lk RX10 125 yX10_monthOf := Or.inl (List.mem_of_getElem? (i := 616) (by decide +kernel))
theorem lk_RX10_128 : k_lk RX10 128 yX10_taking := Or.inl (List.mem_of_getElem? (i := 617) (by decide +kernel))
theorem lk_RX10_131 : k_lk RX10 131 yX10_eat := Or.inl (List.mem_of_getElem? (i := 623) (by decide +kernel))
theorem lk_RX10_141 : k_lk RX10 141 yX3_isOpen := Or.inr (List.mem_of_getElem? (i := 634) (by decide +kernel))
theorem lk_RX10_144 : k_lk RX10 144 yX10_noneLess := Or.inl (List.mem_of_getElem? (i := 770) (by decide +kernel))
theorem im_X10_attempt : Cond.instanceMethod yX10_attempt ∈ lw_tbl := List.mem_of_getElem? (i := 606) (by decide +kernel)
theorem im_X10_eat : Cond.instanceMethod yX10_eat ∈ lw_tbl := List.mem_of_getElem? (i := 625) (by decide +kernel)
theorem im_X10_go : Cond.instanceMethod yX10_go ∈ lw_tbl := List.mem_of_getElem? (i := 632) (by decide +kernel)
theorem im_X10_rains : Cond.instanceMethod yX10_rains ∈ lw_tbl := List.mem_of_getElem? (i := 610) (by decide +kernel)
theorem im_X10_spitOut : Cond.instanceMethod yX10_spitOut ∈ lw_tbl := List.mem_of_getElem? (i := 648) (by decide +kernel)
theorem im_X10_stand : Cond.instanceMethod yX10_stand ∈ lw_tbl := List.mem_of_getElem? (i := 614) (by decide +kernel)
theorem im_X10_takeBack : Cond.instanceMethod yX10_takeBack ∈ lw_tbl := List.mem_of_getElem? (i := 644) (by decide +kernel)
theorem im_X10_taking : Cond.instanceMethod yX10_taking ∈ lw_tbl := List.mem_of_getElem? (i := 619) (by decide +kernel)
theorem im_X3_becomeAsTold : Cond.instanceMethod yX3_becomeAsTold ∈ lw_tbl := List.mem_of_getElem? (i := 583) (by decide +kernel)
theorem im_X3_copyFrom : Cond.instanceMethod yX3_copyFrom ∈ lw_tbl := List.mem_of_getElem? (i := 516) (by decide +kernel)
theorem im_X3_hasWay : Cond.instanceMethod yX3_hasWay ∈ lw_tbl := List.mem_of_getElem? (i := 557) (by decide +kernel)
theorem im_X3_isOpen : Cond.instanceMethod yX3_isOpen ∈ lw_tbl := List.mem_of_getElem? (i := 636) (by decide +kernel)
theorem se_X10_attempt : Cond.selects yX10_attempt.cls yX10_attempt yX10_attempt ∈ lw_tbl := List.mem_of_getElem? (i := 25) (by decide +kernel)
theorem se_X10_eat : Cond.selects yX10_eat.cls yX10_eat yX10_eat ∈ lw_tbl := List.mem_of_getElem? (i := 29) (by decide +kernel)
theorem se_X10_go : Cond.selects yX10_go.cls yX10_go yX10_go ∈ lw_tbl := List.mem_of_getElem? (i := 30) (by decide +kernel)
theorem se_X10_rains : Cond.selects yX10_rains.cls yX10_rains yX10_rains ∈ lw_tbl := List.mem_of_getElem? (i := 26) (by decide +kernel)
theorem se_X10_spitOut : Cond.selects yX10_spitOut.cls yX10_spitOut yX10_spitOut ∈ lw_tbl := List.mem_of_getElem? (i := 34) (by decide +kernel)
theorem se_X10_stand : Cond.selects yX10_stand.cls yX10_stand yX10_stand ∈ lw_tbl := List.mem_of_getElem? (i := 27) (by decide +kernel)
theorem se_X10_takeBack : Cond.selects yX10_takeBack.cls yX10_takeBack yX10_takeBack ∈ lw_tbl := List.mem_of_getElem? (i := 33) (by decide +kernel)
theorem se_X10_taking : Cond.selects yX10_taking.cls yX10_taking yX10_taking ∈ lw_tbl := List.mem_of_getElem? (i := 28) (by decide +kernel)
theorem se_X3_becomeAsTold : Cond.selects yX3_becomeAsTold.cls yX3_becomeAsTold yX3_becomeAsTold ∈ lw_tbl := List.mem_of_getElem? (i := 22) (by decide +kernel)
theorem se_X3_copyFrom : Cond.selects yX3_copyFrom.cls yX3_copyFrom yX3_copyFrom ∈ lw_tbl := List.mem_of_getElem? (i := 18) (by decide +kernel)
theorem se_X3_hasWay : Cond.selects yX3_hasWay.cls yX3_hasWay yX3_hasWay ∈ lw_tbl := List.mem_of_getElem? (i := 20) (by decide +kernel)
theorem se_X3_isOpen : Cond.selects yX3_isOpen.cls yX3_isOpen yX3_isOpen ∈ lw_tbl := List.mem_of_getElem? (i := 31) (by decide +kernel)
theorem stt_X10_monthOf : Cond.static yX10_monthOf ∈ lw_tbl := List.mem_of_getElem? (i := 590) (by decide +kernel)
theorem stt_X10_noneLess : Cond.static yX10_noneLess ∈ lw_tbl := List.mem_of_getElem? (i := 771) (by decide +kernel)
theorem gs_RX10_106 : Cond.fieldLink RX10 106 (k_stN 2).1 (k_stN 2).2.1 "[I" ∈ lw_tbl ∨ Cond.fieldLinkNest RX10 106 (k_stN 2).1 (k_stN 2).2.1 "[I" "WheelCity" ∈ lw_tbl := Or.inr (List.mem_of_getElem? (i := 621) (by decide +kernel))
theorem gs_RX10_112 : Cond.fieldLink RX10 112 (k_stN 3).1 (k_stN 3).2.1 "[I" ∈ lw_tbl ∨ Cond.fieldLinkNest RX10 112 (k_stN 3).1 (k_stN 3).2.1 "[I" "WheelCity" ∈ lw_tbl := Or.inr (List.mem_of_getElem? (i := 627) (by decide +kernel))
theorem dt_X10_monthOf_0 : k_dec cX10_monthOf [(0, .iload_n 0, 1), (1, .iconst 3, 1), (2, .idiv, 1), (3, .bipush 12, 2), (5, .irem, 1), (6, .ireturn, 1)] = true := by decide +kernel
def f_X10_monthOf (p1 : Int32) (M : k_M) : Option (Int32 × k_M) := some ((p1 / 3) - (p1 / 3) / 12 * 12, M)
theorem m_X10_monthOf_0 {Z : k_Z} {G : k_G} (C : k_C Z G RX10 cX10_monthOf (true, 1, 1, 0, 0) (some .int) "monthOf") (p1 : Int32) (M : k_M) : Sm Z G emI (true, 1, 1, 0, 0) (0, 0) 0 [(0, Value.int p1)] [] M (f_X10_monthOf p1 M) := by
  show Sm Z G emI _ _ _ _ _ _ (some ((p1 / 3) - (p1 / 3) / 12 * 12, M))
  refine x_iload_n C (k_dg dt_X10_monthOf_0 0 0 (.iload_n 0) 1 rfl) 0 rfl ?_
  refine x_iconst C (v := 3) (k_dg dt_X10_monthOf_0 1 1 (.iconst 3) 1 rfl) (by decide) ?_
  refine x_idivC C (k_dg dt_X10_monthOf_0 2 2 (.idiv) 1 rfl) (by decide) ?_
  refine x_bipush C (v := 12) (k_dg dt_X10_monthOf_0 3 3 (.bipush 12) 2 rfl) (by decide) ?_
  refine x_iremC C (k_dg dt_X10_monthOf_0 4 5 (.irem) 1 rfl) (by decide) ?_
  exact x_iret C (by decide) (by decide) (k_dg dt_X10_monthOf_0 5 6 (.ireturn) 1 rfl)
theorem c_X10_monthOf {Z : k_Z} (hg : k_Gd Z) (l : Launch) (p1 : Int32) (M : k_M) : Con true Z l yX10_monthOf cX10_monthOf 1 (some .int) 1 0 0 emI [Value.int p1] M (f_X10_monthOf p1 M) := k_con hg (by decide) (Nat.le_of_ble_eq_true rfl) (fun G hl C => m_X10_monthOf_0 C p1 M)
theorem dt_X10_copyFrom_0 : k_dec cX10_copyFrom [(0, .aload_n 0, 1), (1, .getfield 10, 3), (4, .aload_n 1, 1), (5, .getfield 10, 3), (8, .invokevirtual 57, 3), (11, .aload_n 1, 1), (12, .getfield 25, 3), (15, .aload_n 0, 1), (16, .getfield 25, 3), (19, .invokestatic 61, 3), (22, .aload_n 0, 1), (23, .aload_n 1, 1), (24, .getfield 28, 3), (27, .putfield 28, 3), (30, .aload_n 0, 1), (31, .aload_n 1, 1), (32, .getfield 32, 3), (35, .putfield 32, 3), (38, .aload_n 0, 1), (39, .aload_n 1, 1), (40, .getfield 36, 3), (43, .putfield 36, 3), (46, .aload_n 0, 1), (47, .aload_n 1, 1), (48, .getfield 39, 3), (51, .putfield 39, 3), (54, .aload_n 1, 1), (55, .getfield 42, 3), (58, .aload_n 0, 1), (59, .getfield 42, 3), (62, .invokestatic 61, 3), (65, .aload_n 0, 1), (66, .aload_n 1, 1), (67, .getfield 45, 3), (70, .putfield 45, 3), (73, .iconst 0, 1), (74, .istore_n 2, 1), (75, .iload_n 2, 1), (76, .iconst 4, 1), (77, .if_icmp .ge 21, 3)] = true := by decide +kernel
theorem dt_X10_copyFrom_1 : k_dec cX10_copyFrom [(80, .aload_n 0, 1), (81, .getfield 50, 3), (84, .iload_n 2, 1), (85, .aload_n 1, 1), (86, .getfield 50, 3), (89, .iload_n 2, 1), (90, .aaload, 1), (91, .aastore, 1), (92, .iinc 2 1, 3), (95, .goto (-20), 3), (98, .aload_n 1, 1), (99, .getfield 54, 3), (102, .aload_n 0, 1), (103, .getfield 54, 3), (106, .invokestatic 61, 3), (109, .return_, 1)] = true := by decide +kernel
def f_X10_copyFrom_75 (w : Nat) (v : Nat) : Nat → Int32 → k_M → (k_M → Option (Unit × k_M)) → Option (Unit × k_M)
  | 0, _, _, _ => none
  | n + 1, l2, M, kx98 => if 4 ≤ l2 then kx98 M else rdR M (v + 18) 4 l2 (fun q1 => wrR M (w + 18) 4 l2 q1 (fun M2 => f_X10_copyFrom_75 w v n (l2 + 1) M2 kx98))
theorem m_X10_copyFrom_75 {Z : k_Z} {G : k_G} {w : Nat} {v : Nat} (C : k_C Z G RX10 cX10_copyFrom (true, 3, 3, 0, 0) none "copyFrom") (hw : isW w) (hv : isW v) (kx98 : k_M → Option (Unit × k_M)) (Hx98 : ∀ (M : k_M), Sm Z G emV (true, 3, 3, 0, 0) (0, 0) 98 [(0, k_ra Z w), (1, k_ra Z v)] [] M (kx98 M)) : ∀ (n : Nat) (l2 : Int32) (M : k_M), Sm Z G emV (true, 3, 3, 0, 0) (0, 0) 75 [(0, k_ra Z w), (1, k_ra Z v), (2, Value.int l2)] [] M (f_X10_copyFrom_75 w v n l2 M kx98)
  | 0, _, _ => x_none
  | n + 1, l2, M => by
    have ih := m_X10_copyFrom_75 C hw hv kx98 Hx98 n
    show Sm Z G emV _ _ _ _ _ _ (if 4 ≤ l2 then kx98 M else rdR M (v + 18) 4 l2 (fun q1 => wrR M (w + 18) 4 l2 q1 (fun M2 => f_X10_copyFrom_75 w v n (l2 + 1) M2 kx98)))
    refine x_iload_n C (k_dg dt_X10_copyFrom_0 37 75 (.iload_n 2) 1 rfl) 2 rfl ?_
    refine x_iconst C (v := 4) (k_dg dt_X10_copyFrom_0 38 76 (.iconst 4) 1 rfl) (by decide) ?_
    refine x_icmp_ge C (tgt := 98) (k_dg dt_X10_copyFrom_0 39 77 (.if_icmp .ge 21) 3 rfl) (by decide) (fun _ => ?_) (fun _ => ?_)
    · refine x_lv [0, 1] rfl ?_
      exact Hx98 M
    · refine x_aload_n C (k_dg dt_X10_copyFrom_1 0 80 (.aload_n 0) 1 rfl) 0 rfl ?_
      refine x_getR C (a := w) (j := 8) (w + 18) rfl (kW 0 hw rfl) (by decide) fl_RX10_50 rfl rfl rfl (k_dg dt_X10_copyFrom_1 1 81 (.getfield 50) 3 rfl) ?_
      refine x_iload_n C (k_dg dt_X10_copyFrom_1 2 84 (.iload_n 2) 1 rfl) 2 rfl ?_
      refine x_aload_n C (k_dg dt_X10_copyFrom_1 3 85 (.aload_n 1) 1 rfl) 1 rfl ?_
      refine x_getR C (a := v) (j := 8) (v + 18) rfl (kW 0 hv rfl) (by decide) fl_RX10_50 rfl rfl rfl (k_dg dt_X10_copyFrom_1 4 86 (.getfield 50) 3 rfl) ?_
      refine x_iload_n C (k_dg dt_X10_copyFrom_1 5 89 (.iload_n 2) 1 rfl) 2 rfl ?_
      refine x_aald C (a := v + 18) (n := 4) rfl (kW 18 hv rfl) (k_dg dt_X10_copyFrom_1 6 90 (.aaload) 1 rfl) (fun q1 => ?_)
      refine x_aast C (a := w + 18) (n := 4) (q := q1) rfl (kW 18 hw rfl) (k_dg dt_X10_copyFrom_1 7 91 (.aastore) 1 rfl) (fun M2 => ?_)
      refine x_iinc C (v := 1) (lv' := [(2, Value.int (l2 + 1)), (0, k_ra Z w), (1, k_ra Z v)]) (k_dg dt_X10_copyFrom_1 8 92 (.iinc 2 1) 3 rfl) 2 rfl (by decide) (by decide) rfl ?_
      refine x_goto C (tgt := 75) (k_dg dt_X10_copyFrom_1 9 95 (.goto (-20)) 3 rfl) (by decide) ?_
      refine x_lv [1, 2, 0] rfl ?_
      exact ih (l2 + 1) M2
def f_X10_copyFrom_98 (w : Nat) (v : Nat) (M : k_M) : Option (Unit × k_M) := bd (f_X3_copy (v + 19) 4 (w + 19) 4 M) (fun r1 M2 => some ((), M2))
theorem m_X10_copyFrom_98 {Z : k_Z} {G : k_G} {w : Nat} {v : Nat} (C : k_C Z G RX10 cX10_copyFrom (true, 3, 3, 0, 0) none "copyFrom") (hw : isW w) (hv : isW v) (M : k_M) : Sm Z G emV (true, 3, 3, 0, 0) (0, 0) 98 [(0, k_ra Z w), (1, k_ra Z v)] [] M (f_X10_copyFrom_98 w v M) := by
  show Sm Z G emV _ _ _ _ _ _ (bd (f_X3_copy (v + 19) 4 (w + 19) 4 M) (fun r1 M2 => some ((), M2)))
  refine x_aload_n C (k_dg dt_X10_copyFrom_1 10 98 (.aload_n 1) 1 rfl) 1 rfl ?_
  refine x_getR C (a := v) (j := 9) (v + 19) rfl (kW 0 hv rfl) (by decide) fl_RX10_54 rfl rfl rfl (k_dg dt_X10_copyFrom_1 11 99 (.getfield 54) 3 rfl) ?_
  refine x_aload_n C (k_dg dt_X10_copyFrom_1 12 102 (.aload_n 0) 1 rfl) 0 rfl ?_
  refine x_getR C (a := w) (j := 9) (w + 19) rfl (kW 0 hw rfl) (by decide) fl_RX10_54 rfl rfl rfl (k_dg dt_X10_copyFrom_1 13 103 (.getfield 54) 3 rfl) ?_
  refine x_callS C (vs := [k_ra Z (v + 19), k_ra Z (w + 19)]) (rest := []) (c_X3_copy C.2.2.2.2.2.2.2.2.2 G.2.1 (v + 19) 4 (w + 19) 4 M (kW 19 hv rfl) (kW 19 hw rfl)) cy_X3_copy lk_RX10_61 stt_X3_copy (by decide) (by decide) (by decide) (by decide) rfl rfl (Nat.le_of_ble_eq_true rfl) (k_dg dt_X10_copyFrom_1 14 106 (.invokestatic 61) 3 rfl) (fun r1 M2 => ?_)
  show Sm Z G _ _ _ _ [(0, k_ra Z w), (1, k_ra Z v)] [] _ _
  exact x_vret C (by decide) (by decide) (k_dg dt_X10_copyFrom_1 15 109 (.return_) 1 rfl)
def f_X10_copyFrom (w : Nat) (v : Nat) (M : k_M) : Option (Unit × k_M) := bd (f_X3_copyFrom w v M) (fun r1 M2 => bd (f_X3_copy (v + 16) 13 (w + 16) 13 M2) (fun r3 M4 => bN (sI M4 w 2 (M4.1 v 2)) (fun M5 => ckZ (M5.1 v 3) (bN (sI M5 w 3 (M5.1 v 3)) (fun M6 => bN (sI M6 w 4 (M6.1 v 4)) (fun M8 => bN (sI M8 w 5 (M8.1 v 5)) (fun M9 => bd (f_X3_copy (v + 17) 3 (w + 17) 3 M9) (fun r10 M11 => bN (sI M11 w 7 (M11.1 v 7)) (fun M12 => f_X10_copyFrom_75 w v k_fu 0 M12 (fun M_ => f_X10_copyFrom_98 w v M_))))))))))
theorem m_X10_copyFrom_0 {Z : k_Z} {G : k_G} {w : Nat} {v : Nat} (C : k_C Z G RX10 cX10_copyFrom (true, 3, 3, 0, 0) none "copyFrom") (hw : isW w) (hv : isW v) (M : k_M) : Sm Z G emV (true, 3, 3, 0, 0) (0, 0) 0 [(0, k_ra Z w), (1, k_ra Z v)] [] M (f_X10_copyFrom w v M) := by
  show Sm Z G emV _ _ _ _ _ _ (bd (f_X3_copyFrom w v M) (fun r1 M2 => bd (f_X3_copy (v + 16) 13 (w + 16) 13 M2) (fun r3 M4 => bN (sI M4 w 2 (M4.1 v 2)) (fun M5 => ckZ (M5.1 v 3) (bN (sI M5 w 3 (M5.1 v 3)) (fun M6 => bN (sI M6 w 4 (M6.1 v 4)) (fun M8 => bN (sI M8 w 5 (M8.1 v 5)) (fun M9 => bd (f_X3_copy (v + 17) 3 (w + 17) 3 M9) (fun r10 M11 => bN (sI M11 w 7 (M11.1 v 7)) (fun M12 => f_X10_copyFrom_75 w v k_fu 0 M12 (fun M_ => f_X10_copyFrom_98 w v M_)))))))))))
  refine x_aload_n C (k_dg dt_X10_copyFrom_0 0 0 (.aload_n 0) 1 rfl) 0 rfl ?_
  refine x_getR C (a := w) (j := 0) (w + 1) rfl (kW 0 hw rfl) (by decide) fl_RX10_10 rfl rfl rfl (k_dg dt_X10_copyFrom_0 1 1 (.getfield 10) 3 rfl) ?_
  refine x_aload_n C (k_dg dt_X10_copyFrom_0 2 4 (.aload_n 1) 1 rfl) 1 rfl ?_
  refine x_getR C (a := v) (j := 0) (v + 1) rfl (kW 0 hv rfl) (by decide) fl_RX10_10 rfl rfl rfl (k_dg dt_X10_copyFrom_0 3 5 (.getfield 10) 3 rfl) ?_
  refine x_callV C (a := w + 1) (kd := 2) (vs := [k_ra Z (v + 1)]) (rest := []) rfl (kW 1 hw rfl) (by decide) (fun r hr => by cases hr; rfl) (c_X3_copyFrom C.2.2.2.2.2.2.2.2.2 G.2.1 w v M hw hv) cy_X3_copyFrom lk_RX10_57 im_X3_copyFrom se_X3_copyFrom (by decide) (by decide) (by decide) (by decide) rfl rfl (Nat.le_of_ble_eq_true rfl) (k_dg dt_X10_copyFrom_0 4 8 (.invokevirtual 57) 3 rfl) (fun r1 M2 => ?_)
  show Sm Z G _ _ _ _ [(0, k_ra Z w), (1, k_ra Z v)] [] _ _
  refine x_aload_n C (k_dg dt_X10_copyFrom_0 5 11 (.aload_n 1) 1 rfl) 1 rfl ?_
  refine x_getR C (a := v) (j := 1) (v + 16) rfl (kW 0 hv rfl) (by decide) fl_RX10_25 rfl rfl rfl (k_dg dt_X10_copyFrom_0 6 12 (.getfield 25) 3 rfl) ?_
  refine x_aload_n C (k_dg dt_X10_copyFrom_0 7 15 (.aload_n 0) 1 rfl) 0 rfl ?_
  refine x_getR C (a := w) (j := 1) (w + 16) rfl (kW 0 hw rfl) (by decide) fl_RX10_25 rfl rfl rfl (k_dg dt_X10_copyFrom_0 8 16 (.getfield 25) 3 rfl) ?_
  refine x_callS C (vs := [k_ra Z (v + 16), k_ra Z (w + 16)]) (rest := []) (c_X3_copy C.2.2.2.2.2.2.2.2.2 G.2.1 (v + 16) 13 (w + 16) 13 M2 (kW 16 hv rfl) (kW 16 hw rfl)) cy_X3_copy lk_RX10_61 stt_X3_copy (by decide) (by decide) (by decide) (by decide) rfl rfl (Nat.le_of_ble_eq_true rfl) (k_dg dt_X10_copyFrom_0 9 19 (.invokestatic 61) 3 rfl) (fun r3 M4 => ?_)
  show Sm Z G _ _ _ _ [(0, k_ra Z w), (1, k_ra Z v)] [] _ _
  refine x_aload_n C (k_dg dt_X10_copyFrom_0 10 22 (.aload_n 0) 1 rfl) 0 rfl ?_
  refine x_aload_n C (k_dg dt_X10_copyFrom_0 11 23 (.aload_n 1) 1 rfl) 1 rfl ?_
  refine x_getI C (a := v) (j := 2) rfl (kW 0 hv rfl) (by decide) fl_RX10_28 rfl (k_dg dt_X10_copyFrom_0 12 24 (.getfield 28) 3 rfl) ?_
  refine x_putI C (a := w) (j := 2) rfl (kW 0 hw rfl) (by decide) fl_RX10_28 rfl pt_8_2 tb_8 rfl rfl (k_dg dt_X10_copyFrom_0 13 27 (.putfield 28) 3 rfl) (fun M5 => ?_)
  refine x_aload_n C (k_dg dt_X10_copyFrom_0 14 30 (.aload_n 0) 1 rfl) 0 rfl ?_
  refine x_aload_n C (k_dg dt_X10_copyFrom_0 15 31 (.aload_n 1) 1 rfl) 1 rfl ?_
  refine x_getI C (a := v) (j := 3) rfl (kW 0 hv rfl) (by decide) fl_RX10_32 rfl (k_dg dt_X10_copyFrom_0 16 32 (.getfield 32) 3 rfl) ?_
  refine x_ckZ (v := M5.1 v 3) (fun h7 => ?_)
  refine x_putI C (a := w) (j := 3) rfl (kW 0 hw rfl) (by decide) fl_RX10_32 rfl pt_8_3 tb_8 (k_nz h7) (k_fz h7) (k_dg dt_X10_copyFrom_0 17 35 (.putfield 32) 3 rfl) (fun M6 => ?_)
  refine x_aload_n C (k_dg dt_X10_copyFrom_0 18 38 (.aload_n 0) 1 rfl) 0 rfl ?_
  refine x_aload_n C (k_dg dt_X10_copyFrom_0 19 39 (.aload_n 1) 1 rfl) 1 rfl ?_
  refine x_getI C (a := v) (j := 4) rfl (kW 0 hv rfl) (by decide) fl_RX10_36 rfl (k_dg dt_X10_copyFrom_0 20 40 (.getfield 36) 3 rfl) ?_
  refine x_putI C (a := w) (j := 4) rfl (kW 0 hw rfl) (by decide) fl_RX10_36 rfl pt_8_4 tb_8 rfl rfl (k_dg dt_X10_copyFrom_0 21 43 (.putfield 36) 3 rfl) (fun M8 => ?_)
  refine x_aload_n C (k_dg dt_X10_copyFrom_0 22 46 (.aload_n 0) 1 rfl) 0 rfl ?_
  refine x_aload_n C (k_dg dt_X10_copyFrom_0 23 47 (.aload_n 1) 1 rfl) 1 rfl ?_
  refine x_getI C (a := v) (j := 5) rfl (kW 0 hv rfl) (by decide) fl_RX10_39 rfl (k_dg dt_X10_copyFrom_0 24 48 (.getfield 39) 3 rfl) ?_
  refine x_putI C (a := w) (j := 5) rfl (kW 0 hw rfl) (by decide) fl_RX10_39 rfl pt_8_5 tb_8 rfl rfl (k_dg dt_X10_copyFrom_0 25 51 (.putfield 39) 3 rfl) (fun M9 => ?_)
  refine x_aload_n C (k_dg dt_X10_copyFrom_0 26 54 (.aload_n 1) 1 rfl) 1 rfl ?_
  refine x_getR C (a := v) (j := 6) (v + 17) rfl (kW 0 hv rfl) (by decide) fl_RX10_42 rfl rfl rfl (k_dg dt_X10_copyFrom_0 27 55 (.getfield 42) 3 rfl) ?_
  refine x_aload_n C (k_dg dt_X10_copyFrom_0 28 58 (.aload_n 0) 1 rfl) 0 rfl ?_
  refine x_getR C (a := w) (j := 6) (w + 17) rfl (kW 0 hw rfl) (by decide) fl_RX10_42 rfl rfl rfl (k_dg dt_X10_copyFrom_0 29 59 (.getfield 42) 3 rfl) ?_
  refine x_callS C (vs := [k_ra Z (v + 17), k_ra Z (w + 17)]) (rest := []) (c_X3_copy C.2.2.2.2.2.2.2.2.2 G.2.1 (v + 17) 3 (w + 17) 3 M9 (kW 17 hv rfl) (kW 17 hw rfl)) cy_X3_copy lk_RX10_61 stt_X3_copy (by decide) (by decide) (by decide) (by decide) rfl rfl (Nat.le_of_ble_eq_true rfl) (k_dg dt_X10_copyFrom_0 30 62 (.invokestatic 61) 3 rfl) (fun r10 M11 => ?_)
  show Sm Z G _ _ _ _ [(0, k_ra Z w), (1, k_ra Z v)] [] _ _
  refine x_aload_n C (k_dg dt_X10_copyFrom_0 31 65 (.aload_n 0) 1 rfl) 0 rfl ?_
  refine x_aload_n C (k_dg dt_X10_copyFrom_0 32 66 (.aload_n 1) 1 rfl) 1 rfl ?_
  refine x_getI C (a := v) (j := 7) rfl (kW 0 hv rfl) (by decide) fl_RX10_45 rfl (k_dg dt_X10_copyFrom_0 33 67 (.getfield 45) 3 rfl) ?_
  refine x_putI C (a := w) (j := 7) rfl (kW 0 hw rfl) (by decide) fl_RX10_45 rfl pt_8_7 tb_8 rfl rfl (k_dg dt_X10_copyFrom_0 34 70 (.putfield 45) 3 rfl) (fun M12 => ?_)
  refine x_iconst C (v := 0) (k_dg dt_X10_copyFrom_0 35 73 (.iconst 0) 1 rfl) (by decide) ?_
  refine x_istore_n C (lv' := [(2, Value.int 0), (0, k_ra Z w), (1, k_ra Z v)]) (k_dg dt_X10_copyFrom_0 36 74 (.istore_n 2) 1 rfl) (by decide) rfl ?_
  refine x_lv [1, 2, 0] rfl ?_
  exact m_X10_copyFrom_75 C hw hv (fun M_ => f_X10_copyFrom_98 w v M_) (fun M_ => m_X10_copyFrom_98 C hw hv M_) k_fu 0 M12
theorem c_X10_copyFrom {Z : k_Z} (hg : k_Gd Z) (l : Launch) (w : Nat) (v : Nat) (M : k_M) (hw : isW w) (hv : isW v) : Con true Z l yX10_copyFrom cX10_copyFrom 3 none 3 0 0 emV [k_ra Z w, k_ra Z v] M (f_X10_copyFrom w v M) := k_con hg (by decide) (Nat.le_of_ble_eq_true rfl) (fun G hl C => m_X10_copyFrom_0 C hw hv M)
theorem dt_X10_ruleAt_0 : k_dec cX10_ruleAt [(0, .iload_n 1, 1), (1, .ifCond .lt 20, 3), (4, .iload_n 1, 1), (5, .aload_n 0, 1), (6, .getfield 45, 3), (9, .if_icmp .ge 12, 3), (12, .aload_n 0, 1), (13, .getfield 50, 3), (16, .iload_n 1, 1), (17, .aaload, 1), (18, .goto 4, 3), (21, .aconst_null, 1), (22, .areturn, 1)] = true := by decide +kernel
def f_X10_ruleAt_22 (w : Nat) (t0 : Option Nat) (M : k_M) : Option (Option Nat × k_M) := some (t0, M)
theorem m_X10_ruleAt_22 {Z : k_Z} {G : k_G} {w : Nat} (C : k_C Z G RX10 cX10_ruleAt (true, 2, 1, 0, 0) (some (.object "WheelCity$Rule")) "ruleAt") (hw : isW w) (t0 : Option Nat) (M : k_M) : Sm Z G (emR Z) (true, 2, 1, 0, 0) (0, 0) 22 [] [k_rn Z t0] M (f_X10_ruleAt_22 w t0 M) := by
  show Sm Z G (emR Z) _ _ _ _ _ _ (some (t0, M))
  exact x_aret C (by decide) (by decide) (k_dg dt_X10_ruleAt_0 12 22 (.areturn) 1 rfl)
def f_X10_ruleAt_21 (w : Nat) (M : k_M) : Option (Option Nat × k_M) := f_X10_ruleAt_22 w none M
theorem m_X10_ruleAt_21 {Z : k_Z} {G : k_G} {w : Nat} (C : k_C Z G RX10 cX10_ruleAt (true, 2, 1, 0, 0) (some (.object "WheelCity$Rule")) "ruleAt") (hw : isW w) (M : k_M) : Sm Z G (emR Z) (true, 2, 1, 0, 0) (0, 0) 21 [] [] M (f_X10_ruleAt_21 w M) := by
  show Sm Z G (emR Z) _ _ _ _ _ _ (f_X10_ruleAt_22 w none M)
  refine x_null C (k_dg dt_X10_ruleAt_0 11 21 (.aconst_null) 1 rfl) ?_
  exact m_X10_ruleAt_22 C hw none M
def f_X10_ruleAt (w : Nat) (p1 : Int32) (M : k_M) : Option (Option Nat × k_M) := if p1 < 0 then f_X10_ruleAt_21 w M else if (M.1 w 7) ≤ p1 then f_X10_ruleAt_21 w M else rdR M (w + 18) 4 p1 (fun q1 => f_X10_ruleAt_22 w q1 M)
theorem m_X10_ruleAt_0 {Z : k_Z} {G : k_G} {w : Nat} (C : k_C Z G RX10 cX10_ruleAt (true, 2, 1, 0, 0) (some (.object "WheelCity$Rule")) "ruleAt") (hw : isW w) (p1 : Int32) (M : k_M) : Sm Z G (emR Z) (true, 2, 1, 0, 0) (0, 0) 0 [(0, k_ra Z w), (1, Value.int p1)] [] M (f_X10_ruleAt w p1 M) := by
  show Sm Z G (emR Z) _ _ _ _ _ _ (if p1 < 0 then f_X10_ruleAt_21 w M else if (M.1 w 7) ≤ p1 then f_X10_ruleAt_21 w M else rdR M (w + 18) 4 p1 (fun q1 => f_X10_ruleAt_22 w q1 M))
  refine x_iload_n C (k_dg dt_X10_ruleAt_0 0 0 (.iload_n 1) 1 rfl) 1 rfl ?_
  refine x_if_lt C (tgt := 21) (k_dg dt_X10_ruleAt_0 1 1 (.ifCond .lt 20) 3 rfl) (by decide) (fun _ => ?_) (fun _ => ?_)
  · refine x_lv [] rfl ?_
    exact m_X10_ruleAt_21 C hw M
  · refine x_iload_n C (k_dg dt_X10_ruleAt_0 2 4 (.iload_n 1) 1 rfl) 1 rfl ?_
    refine x_aload_n C (k_dg dt_X10_ruleAt_0 3 5 (.aload_n 0) 1 rfl) 0 rfl ?_
    refine x_getI C (a := w) (j := 7) rfl (kW 0 hw rfl) (by decide) fl_RX10_45 rfl (k_dg dt_X10_ruleAt_0 4 6 (.getfield 45) 3 rfl) ?_
    refine x_icmp_ge C (tgt := 21) (k_dg dt_X10_ruleAt_0 5 9 (.if_icmp .ge 12) 3 rfl) (by decide) (fun _ => ?_) (fun _ => ?_)
    · refine x_lv [] rfl ?_
      exact m_X10_ruleAt_21 C hw M
    · refine x_aload_n C (k_dg dt_X10_ruleAt_0 6 12 (.aload_n 0) 1 rfl) 0 rfl ?_
      refine x_getR C (a := w) (j := 8) (w + 18) rfl (kW 0 hw rfl) (by decide) fl_RX10_50 rfl rfl rfl (k_dg dt_X10_ruleAt_0 7 13 (.getfield 50) 3 rfl) ?_
      refine x_iload_n C (k_dg dt_X10_ruleAt_0 8 16 (.iload_n 1) 1 rfl) 1 rfl ?_
      refine x_aald C (a := w + 18) (n := 4) rfl (kW 18 hw rfl) (k_dg dt_X10_ruleAt_0 9 17 (.aaload) 1 rfl) (fun q1 => ?_)
      refine x_goto C (tgt := 22) (k_dg dt_X10_ruleAt_0 10 18 (.goto 4) 3 rfl) (by decide) ?_
      refine x_lv [] rfl ?_
      exact m_X10_ruleAt_22 C hw q1 M
theorem c_X10_ruleAt {Z : k_Z} (hg : k_Gd Z) (l : Launch) (w : Nat) (p1 : Int32) (M : k_M) (hw : isW w) : Con true Z l yX10_ruleAt cX10_ruleAt 2 (some (.object "WheelCity$Rule")) 1 0 0 (emR Z) [k_ra Z w, Value.int p1] M (f_X10_ruleAt w p1 M) := k_con hg (by decide) (Nat.le_of_ble_eq_true rfl) (fun G hl C => m_X10_ruleAt_0 C hw p1 M)
theorem dt_X10_settle_0 : k_dec cX10_settle [(0, .aload_n 0, 1), (1, .getfield 10, 3), (4, .invokevirtual 65, 3), (7, .aload_n 0, 1), (8, .iconst 1, 1), (9, .putfield 32, 3), (12, .aload_n 0, 1), (13, .iload_n 1, 1), (14, .putfield 36, 3), (17, .aload_n 0, 1), (18, .iconst 0, 1), (19, .putfield 39, 3), (22, .aload_n 0, 1), (23, .getfield 42, 3), (26, .iconst 0, 1), (27, .iload_n 2, 1), (28, .iastore, 1), (29, .aload_n 0, 1), (30, .getfield 42, 3), (33, .iconst 1, 1), (34, .iload_n 3, 1), (35, .iastore, 1), (36, .aload_n 0, 1), (37, .getfield 42, 3), (40, .iconst 2, 1), (41, .iload 4, 2), (43, .iastore, 1), (44, .return_, 1)] = true := by decide +kernel
def f_X10_settle (w : Nat) (p1 : Int32) (p2 : Int32) (p3 : Int32) (p4 : Int32) (M : k_M) : Option (Unit × k_M) := bd (f_X3_becomeAsTold w M) (fun r1 M2 => bN (sI M2 w 3 1) (fun M3 => bN (sI M3 w 4 p1) (fun M4 => bN (sI M4 w 5 0) (fun M5 => wrI M5 (w + 17) 3 0 p2 (fun M6 => wrI M6 (w + 17) 3 1 p3 (fun M7 => wrI M7 (w + 17) 3 2 p4 (fun M8 => some ((), M8))))))))
theorem m_X10_settle_0 {Z : k_Z} {G : k_G} {w : Nat} (C : k_C Z G RX10 cX10_settle (true, 5, 3, 0, 0) none "settle") (hw : isW w) (p1 : Int32) (p2 : Int32) (p3 : Int32) (p4 : Int32) (M : k_M) : Sm Z G emV (true, 5, 3, 0, 0) (0, 0) 0 [(0, k_ra Z w), (1, Value.int p1), (2, Value.int p2), (3, Value.int p3), (4, Value.int p4)] [] M (f_X10_settle w p1 p2 p3 p4 M) := by
  show Sm Z G emV _ _ _ _ _ _ (bd (f_X3_becomeAsTold w M) (fun r1 M2 => bN (sI M2 w 3 1) (fun M3 => bN (sI M3 w 4 p1) (fun M4 => bN (sI M4 w 5 0) (fun M5 => wrI M5 (w + 17) 3 0 p2 (fun M6 => wrI M6 (w + 17) 3 1 p3 (fun M7 => wrI M7 (w + 17) 3 2 p4 (fun M8 => some ((), M8)))))))))
  refine x_aload_n C (k_dg dt_X10_settle_0 0 0 (.aload_n 0) 1 rfl) 0 rfl ?_
  refine x_getR C (a := w) (j := 0) (w + 1) rfl (kW 0 hw rfl) (by decide) fl_RX10_10 rfl rfl rfl (k_dg dt_X10_settle_0 1 1 (.getfield 10) 3 rfl) ?_
  refine x_callV C (a := w + 1) (kd := 2) (vs := []) (rest := []) rfl (kW 1 hw rfl) (by decide) (fun r hr => by cases hr; rfl) (c_X3_becomeAsTold C.2.2.2.2.2.2.2.2.2 G.2.1 w M hw) cy_X3_becomeAsTold lk_RX10_65 im_X3_becomeAsTold se_X3_becomeAsTold (by decide) (by decide) (by decide) (by decide) rfl rfl (Nat.le_of_ble_eq_true rfl) (k_dg dt_X10_settle_0 2 4 (.invokevirtual 65) 3 rfl) (fun r1 M2 => ?_)
  show Sm Z G _ _ _ _ [(0, k_ra Z w), (1, Value.int p1), (2, Value.int p2), (3, Value.int p3), (4, Value.int p4)] [] _ _
  refine x_aload_n C (k_dg dt_X10_settle_0 3 7 (.aload_n 0) 1 rfl) 0 rfl ?_
  refine x_iconst C (v := 1) (k_dg dt_X10_settle_0 4 8 (.iconst 1) 1 rfl) (by decide) ?_
  refine x_putI C (a := w) (j := 3) rfl (kW 0 hw rfl) (by decide) fl_RX10_32 rfl pt_8_3 tb_8 rfl rfl (k_dg dt_X10_settle_0 5 9 (.putfield 32) 3 rfl) (fun M3 => ?_)
  refine x_aload_n C (k_dg dt_X10_settle_0 6 12 (.aload_n 0) 1 rfl) 0 rfl ?_
  refine x_iload_n C (k_dg dt_X10_settle_0 7 13 (.iload_n 1) 1 rfl) 1 rfl ?_
  refine x_putI C (a := w) (j := 4) rfl (kW 0 hw rfl) (by decide) fl_RX10_36 rfl pt_8_4 tb_8 rfl rfl (k_dg dt_X10_settle_0 8 14 (.putfield 36) 3 rfl) (fun M4 => ?_)
  refine x_aload_n C (k_dg dt_X10_settle_0 9 17 (.aload_n 0) 1 rfl) 0 rfl ?_
  refine x_iconst C (v := 0) (k_dg dt_X10_settle_0 10 18 (.iconst 0) 1 rfl) (by decide) ?_
  refine x_putI C (a := w) (j := 5) rfl (kW 0 hw rfl) (by decide) fl_RX10_39 rfl pt_8_5 tb_8 rfl rfl (k_dg dt_X10_settle_0 11 19 (.putfield 39) 3 rfl) (fun M5 => ?_)
  refine x_aload_n C (k_dg dt_X10_settle_0 12 22 (.aload_n 0) 1 rfl) 0 rfl ?_
  refine x_getR C (a := w) (j := 6) (w + 17) rfl (kW 0 hw rfl) (by decide) fl_RX10_42 rfl rfl rfl (k_dg dt_X10_settle_0 13 23 (.getfield 42) 3 rfl) ?_
  refine x_iconst C (v := 0) (k_dg dt_X10_settle_0 14 26 (.iconst 0) 1 rfl) (by decide) ?_
  refine x_iload_n C (k_dg dt_X10_settle_0 15 27 (.iload_n 2) 1 rfl) 2 rfl ?_
  refine x_iast C (a := w + 17) (n := 3) rfl (kW 17 hw rfl) (k_dg dt_X10_settle_0 16 28 (.iastore) 1 rfl) (fun M6 => ?_)
  refine x_aload_n C (k_dg dt_X10_settle_0 17 29 (.aload_n 0) 1 rfl) 0 rfl ?_
  refine x_getR C (a := w) (j := 6) (w + 17) rfl (kW 0 hw rfl) (by decide) fl_RX10_42 rfl rfl rfl (k_dg dt_X10_settle_0 18 30 (.getfield 42) 3 rfl) ?_
  refine x_iconst C (v := 1) (k_dg dt_X10_settle_0 19 33 (.iconst 1) 1 rfl) (by decide) ?_
  refine x_iload_n C (k_dg dt_X10_settle_0 20 34 (.iload_n 3) 1 rfl) 3 rfl ?_
  refine x_iast C (a := w + 17) (n := 3) rfl (kW 17 hw rfl) (k_dg dt_X10_settle_0 21 35 (.iastore) 1 rfl) (fun M7 => ?_)
  refine x_aload_n C (k_dg dt_X10_settle_0 22 36 (.aload_n 0) 1 rfl) 0 rfl ?_
  refine x_getR C (a := w) (j := 6) (w + 17) rfl (kW 0 hw rfl) (by decide) fl_RX10_42 rfl rfl rfl (k_dg dt_X10_settle_0 23 37 (.getfield 42) 3 rfl) ?_
  refine x_iconst C (v := 2) (k_dg dt_X10_settle_0 24 40 (.iconst 2) 1 rfl) (by decide) ?_
  refine x_iload C (k_dg dt_X10_settle_0 25 41 (.iload 4) 2 rfl) 4 rfl ?_
  refine x_iast C (a := w + 17) (n := 3) rfl (kW 17 hw rfl) (k_dg dt_X10_settle_0 26 43 (.iastore) 1 rfl) (fun M8 => ?_)
  exact x_vret C (by decide) (by decide) (k_dg dt_X10_settle_0 27 44 (.return_) 1 rfl)
theorem c_X10_settle {Z : k_Z} (hg : k_Gd Z) (l : Launch) (w : Nat) (p1 : Int32) (p2 : Int32) (p3 : Int32) (p4 : Int32) (M : k_M) (hw : isW w) : Con true Z l yX10_settle cX10_settle 5 none 3 0 0 emV [k_ra Z w, Value.int p1, Value.int p2, Value.int p3, Value.int p4] M (f_X10_settle w p1 p2 p3 p4 M) := k_con hg (by decide) (Nat.le_of_ble_eq_true rfl) (fun G hl C => m_X10_settle_0 C hw p1 p2 p3 p4 M)
theorem dt_X10_worth_0 : k_dec cX10_worth [(0, .aload_n 0, 1), (1, .getfield 42, 3), (4, .iconst 0, 1), (5, .iaload, 1), (6, .aload_n 0, 1), (7, .getfield 25, 3), (10, .bipush 8, 2), (12, .iaload, 1), (13, .imul, 1), (14, .aload_n 0, 1), (15, .getfield 42, 3), (18, .iconst 1, 1), (19, .iaload, 1), (20, .aload_n 0, 1), (21, .getfield 25, 3), (24, .bipush 9, 2), (26, .iaload, 1), (27, .imul, 1), (28, .iadd, 1), (29, .aload_n 0, 1), (30, .getfield 42, 3), (33, .iconst 2, 1), (34, .iaload, 1), (35, .aload_n 0, 1), (36, .getfield 25, 3), (39, .bipush 10, 2), (41, .iaload, 1), (42, .imul, 1), (43, .iadd, 1), (44, .aload_n 0, 1), (45, .getfield 25, 3), (48, .bipush 7, 2), (50, .iaload, 1), (51, .aload_n 0, 1), (52, .getfield 25, 3), (55, .bipush 11, 2), (57, .iaload, 1), (58, .imul, 1), (59, .iadd, 1), (60, .ireturn, 1)] = true := by decide +kernel
def f_X10_worth (w : Nat) (M : k_M) : Option (Int32 × k_M) := rdI M (w + 17) 3 0 (fun v1 => rdI M (w + 16) 13 8 (fun v2 => rdI M (w + 17) 3 1 (fun v3 => rdI M (w + 16) 13 9 (fun v4 => rdI M (w + 17) 3 2 (fun v5 => rdI M (w + 16) 13 10 (fun v6 => rdI M (w + 16) 13 7 (fun v7 => rdI M (w + 16) 13 11 (fun v8 => some ((((v1 * v2) + (v3 * v4)) + (v5 * v6)) + (v7 * v8), M)))))))))
theorem m_X10_worth_0 {Z : k_Z} {G : k_G} {w : Nat} (C : k_C Z G RX10 cX10_worth (true, 1, 1, 0, 0) (some .int) "worth") (hw : isW w) (M : k_M) : Sm Z G emI (true, 1, 1, 0, 0) (0, 0) 0 [(0, k_ra Z w)] [] M (f_X10_worth w M) := by
  show Sm Z G emI _ _ _ _ _ _ (rdI M (w + 17) 3 0 (fun v1 => rdI M (w + 16) 13 8 (fun v2 => rdI M (w + 17) 3 1 (fun v3 => rdI M (w + 16) 13 9 (fun v4 => rdI M (w + 17) 3 2 (fun v5 => rdI M (w + 16) 13 10 (fun v6 => rdI M (w + 16) 13 7 (fun v7 => rdI M (w + 16) 13 11 (fun v8 => some ((((v1 * v2) + (v3 * v4)) + (v5 * v6)) + (v7 * v8), M))))))))))
  refine x_aload_n C (k_dg dt_X10_worth_0 0 0 (.aload_n 0) 1 rfl) 0 rfl ?_
  refine x_getR C (a := w) (j := 6) (w + 17) rfl (kW 0 hw rfl) (by decide) fl_RX10_42 rfl rfl rfl (k_dg dt_X10_worth_0 1 1 (.getfield 42) 3 rfl) ?_
  refine x_iconst C (v := 0) (k_dg dt_X10_worth_0 2 4 (.iconst 0) 1 rfl) (by decide) ?_
  refine x_iald C (a := w + 17) (n := 3) rfl (kW 17 hw rfl) (k_dg dt_X10_worth_0 3 5 (.iaload) 1 rfl) (fun v1 => ?_)
  refine x_aload_n C (k_dg dt_X10_worth_0 4 6 (.aload_n 0) 1 rfl) 0 rfl ?_
  refine x_getR C (a := w) (j := 1) (w + 16) rfl (kW 0 hw rfl) (by decide) fl_RX10_25 rfl rfl rfl (k_dg dt_X10_worth_0 5 7 (.getfield 25) 3 rfl) ?_
  refine x_bipush C (v := 8) (k_dg dt_X10_worth_0 6 10 (.bipush 8) 2 rfl) (by decide) ?_
  refine x_iald C (a := w + 16) (n := 13) rfl (kW 16 hw rfl) (k_dg dt_X10_worth_0 7 12 (.iaload) 1 rfl) (fun v2 => ?_)
  refine x_imul C (k_dg dt_X10_worth_0 8 13 (.imul) 1 rfl) ?_
  refine x_aload_n C (k_dg dt_X10_worth_0 9 14 (.aload_n 0) 1 rfl) 0 rfl ?_
  refine x_getR C (a := w) (j := 6) (w + 17) rfl (kW 0 hw rfl) (by decide) fl_RX10_42 rfl rfl rfl (k_dg dt_X10_worth_0 10 15 (.getfield 42) 3 rfl) ?_
  refine x_iconst C (v := 1) (k_dg dt_X10_worth_0 11 18 (.iconst 1) 1 rfl) (by decide) ?_
  refine x_iald C (a := w + 17) (n := 3) rfl (kW 17 hw rfl) (k_dg dt_X10_worth_0 12 19 (.iaload) 1 rfl) (fun v3 => ?_)
  refine x_aload_n C (k_dg dt_X10_worth_0 13 20 (.aload_n 0) 1 rfl) 0 rfl ?_
  refine x_getR C (a := w) (j := 1) (w + 16) rfl (kW 0 hw rfl) (by decide) fl_RX10_25 rfl rfl rfl (k_dg dt_X10_worth_0 14 21 (.getfield 25) 3 rfl) ?_
  refine x_bipush C (v := 9) (k_dg dt_X10_worth_0 15 24 (.bipush 9) 2 rfl) (by decide) ?_
  refine x_iald C (a := w + 16) (n := 13) rfl (kW 16 hw rfl) (k_dg dt_X10_worth_0 16 26 (.iaload) 1 rfl) (fun v4 => ?_)
  refine x_imul C (k_dg dt_X10_worth_0 17 27 (.imul) 1 rfl) ?_
  refine x_iadd C (k_dg dt_X10_worth_0 18 28 (.iadd) 1 rfl) ?_
  refine x_aload_n C (k_dg dt_X10_worth_0 19 29 (.aload_n 0) 1 rfl) 0 rfl ?_
  refine x_getR C (a := w) (j := 6) (w + 17) rfl (kW 0 hw rfl) (by decide) fl_RX10_42 rfl rfl rfl (k_dg dt_X10_worth_0 20 30 (.getfield 42) 3 rfl) ?_
  refine x_iconst C (v := 2) (k_dg dt_X10_worth_0 21 33 (.iconst 2) 1 rfl) (by decide) ?_
  refine x_iald C (a := w + 17) (n := 3) rfl (kW 17 hw rfl) (k_dg dt_X10_worth_0 22 34 (.iaload) 1 rfl) (fun v5 => ?_)
  refine x_aload_n C (k_dg dt_X10_worth_0 23 35 (.aload_n 0) 1 rfl) 0 rfl ?_
  refine x_getR C (a := w) (j := 1) (w + 16) rfl (kW 0 hw rfl) (by decide) fl_RX10_25 rfl rfl rfl (k_dg dt_X10_worth_0 24 36 (.getfield 25) 3 rfl) ?_
  refine x_bipush C (v := 10) (k_dg dt_X10_worth_0 25 39 (.bipush 10) 2 rfl) (by decide) ?_
  refine x_iald C (a := w + 16) (n := 13) rfl (kW 16 hw rfl) (k_dg dt_X10_worth_0 26 41 (.iaload) 1 rfl) (fun v6 => ?_)
  refine x_imul C (k_dg dt_X10_worth_0 27 42 (.imul) 1 rfl) ?_
  refine x_iadd C (k_dg dt_X10_worth_0 28 43 (.iadd) 1 rfl) ?_
  refine x_aload_n C (k_dg dt_X10_worth_0 29 44 (.aload_n 0) 1 rfl) 0 rfl ?_
  refine x_getR C (a := w) (j := 1) (w + 16) rfl (kW 0 hw rfl) (by decide) fl_RX10_25 rfl rfl rfl (k_dg dt_X10_worth_0 30 45 (.getfield 25) 3 rfl) ?_
  refine x_bipush C (v := 7) (k_dg dt_X10_worth_0 31 48 (.bipush 7) 2 rfl) (by decide) ?_
  refine x_iald C (a := w + 16) (n := 13) rfl (kW 16 hw rfl) (k_dg dt_X10_worth_0 32 50 (.iaload) 1 rfl) (fun v7 => ?_)
  refine x_aload_n C (k_dg dt_X10_worth_0 33 51 (.aload_n 0) 1 rfl) 0 rfl ?_
  refine x_getR C (a := w) (j := 1) (w + 16) rfl (kW 0 hw rfl) (by decide) fl_RX10_25 rfl rfl rfl (k_dg dt_X10_worth_0 34 52 (.getfield 25) 3 rfl) ?_
  refine x_bipush C (v := 11) (k_dg dt_X10_worth_0 35 55 (.bipush 11) 2 rfl) (by decide) ?_
  refine x_iald C (a := w + 16) (n := 13) rfl (kW 16 hw rfl) (k_dg dt_X10_worth_0 36 57 (.iaload) 1 rfl) (fun v8 => ?_)
  refine x_imul C (k_dg dt_X10_worth_0 37 58 (.imul) 1 rfl) ?_
  refine x_iadd C (k_dg dt_X10_worth_0 38 59 (.iadd) 1 rfl) ?_
  exact x_iret C (by decide) (by decide) (k_dg dt_X10_worth_0 39 60 (.ireturn) 1 rfl)
theorem c_X10_worth {Z : k_Z} (hg : k_Gd Z) (l : Launch) (w : Nat) (M : k_M) (hw : isW w) : Con true Z l yX10_worth cX10_worth 1 (some .int) 1 0 0 emI [k_ra Z w] M (f_X10_worth w M) := k_con hg (by decide) (Nat.le_of_ble_eq_true rfl) (fun G hl C => m_X10_worth_0 C hw M)
theorem dt_X10_leastShed_0 : k_dec cX10_leastShed [(0, .iconst 0, 1), (1, .istore_n 1, 1), (2, .iconst 1, 1), (3, .istore_n 2, 1), (4, .iload_n 2, 1), (5, .iconst 3, 1), (6, .if_icmp .ge 26, 3), (9, .aload_n 0, 1), (10, .getfield 42, 3), (13, .iload_n 2, 1), (14, .iaload, 1), (15, .aload_n 0, 1), (16, .getfield 42, 3), (19, .iload_n 1, 1), (20, .iaload, 1), (21, .if_icmp .ge 5, 3), (24, .iload_n 2, 1), (25, .istore_n 1, 1), (26, .iinc 2 1, 3), (29, .goto (-25), 3), (32, .iload_n 1, 1), (33, .ireturn, 1)] = true := by decide +kernel
def f_X10_leastShed_26 (w : Nat) (l1 : Int32) (l2 : Int32) (M : k_M) (kb : Int32 → Int32 → k_M → Option (Int32 × k_M)) (kx32 : Int32 → k_M → Option (Int32 × k_M)) : Option (Int32 × k_M) := kb l1 (l2 + 1) M
theorem m_X10_leastShed_26 {Z : k_Z} {G : k_G} {w : Nat} (C : k_C Z G RX10 cX10_leastShed (true, 3, 1, 0, 0) (some .int) "leastShed") (hw : isW w) (kb : Int32 → Int32 → k_M → Option (Int32 × k_M)) (kx32 : Int32 → k_M → Option (Int32 × k_M)) (Hb : ∀ (l1 : Int32) (l2 : Int32) (M : k_M), Sm Z G emI (true, 3, 1, 0, 0) (0, 0) 4 [(0, k_ra Z w), (1, Value.int l1), (2, Value.int l2)] [] M (kb l1 l2 M)) (Hx32 : ∀ (l1 : Int32) (M : k_M), Sm Z G emI (true, 3, 1, 0, 0) (0, 0) 32 [(1, Value.int l1)] [] M (kx32 l1 M)) (l1 : Int32) (l2 : Int32) (M : k_M) : Sm Z G emI (true, 3, 1, 0, 0) (0, 0) 26 [(0, k_ra Z w), (1, Value.int l1), (2, Value.int l2)] [] M (f_X10_leastShed_26 w l1 l2 M kb kx32) := by
  show Sm Z G emI _ _ _ _ _ _ (kb l1 (l2 + 1) M)
  refine x_iinc C (v := 1) (lv' := [(2, Value.int (l2 + 1)), (0, k_ra Z w), (1, Value.int l1)]) (k_dg dt_X10_leastShed_0 18 26 (.iinc 2 1) 3 rfl) 2 rfl (by decide) (by decide) rfl ?_
  refine x_goto C (tgt := 4) (k_dg dt_X10_leastShed_0 19 29 (.goto (-25)) 3 rfl) (by decide) ?_
  refine x_lv [1, 2, 0] rfl ?_
  exact Hb l1 (l2 + 1) M
def f_X10_leastShed_4 (w : Nat) : Nat → Int32 → Int32 → k_M → (Int32 → k_M → Option (Int32 × k_M)) → Option (Int32 × k_M)
  | 0, _, _, _, _ => none
  | n + 1, l1, l2, M, kx32 => if 3 ≤ l2 then kx32 l1 M else rdI M (w + 17) 3 l2 (fun v1 => rdI M (w + 17) 3 l1 (fun v2 => if v2 ≤ v1 then f_X10_leastShed_26 w l1 l2 M ((fun l1_ l2_ M_ => f_X10_leastShed_4 w n l1_ l2_ M_ kx32)) kx32 else f_X10_leastShed_26 w l2 l2 M ((fun l1_ l2_ M_ => f_X10_leastShed_4 w n l1_ l2_ M_ kx32)) kx32))
theorem m_X10_leastShed_4 {Z : k_Z} {G : k_G} {w : Nat} (C : k_C Z G RX10 cX10_leastShed (true, 3, 1, 0, 0) (some .int) "leastShed") (hw : isW w) (kx32 : Int32 → k_M → Option (Int32 × k_M)) (Hx32 : ∀ (l1 : Int32) (M : k_M), Sm Z G emI (true, 3, 1, 0, 0) (0, 0) 32 [(1, Value.int l1)] [] M (kx32 l1 M)) : ∀ (n : Nat) (l1 : Int32) (l2 : Int32) (M : k_M), Sm Z G emI (true, 3, 1, 0, 0) (0, 0) 4 [(0, k_ra Z w), (1, Value.int l1), (2, Value.int l2)] [] M (f_X10_leastShed_4 w n l1 l2 M kx32)
  | 0, _, _, _ => x_none
  | n + 1, l1, l2, M => by
    have ih := m_X10_leastShed_4 C hw kx32 Hx32 n
    show Sm Z G emI _ _ _ _ _ _ (if 3 ≤ l2 then kx32 l1 M else rdI M (w + 17) 3 l2 (fun v1 => rdI M (w + 17) 3 l1 (fun v2 => if v2 ≤ v1 then f_X10_leastShed_26 w l1 l2 M ((fun l1_ l2_ M_ => f_X10_leastShed_4 w n l1_ l2_ M_ kx32)) kx32 else f_X10_leastShed_26 w l2 l2 M ((fun l1_ l2_ M_ => f_X10_leastShed_4 w n l1_ l2_ M_ kx32)) kx32)))
    refine x_iload_n C (k_dg dt_X10_leastShed_0 4 4 (.iload_n 2) 1 rfl) 2 rfl ?_
    refine x_iconst C (v := 3) (k_dg dt_X10_leastShed_0 5 5 (.iconst 3) 1 rfl) (by decide) ?_
    refine x_icmp_ge C (tgt := 32) (k_dg dt_X10_leastShed_0 6 6 (.if_icmp .ge 26) 3 rfl) (by decide) (fun _ => ?_) (fun _ => ?_)
    · refine x_lv [1] rfl ?_
      exact Hx32 l1 M
    · refine x_aload_n C (k_dg dt_X10_leastShed_0 7 9 (.aload_n 0) 1 rfl) 0 rfl ?_
      refine x_getR C (a := w) (j := 6) (w + 17) rfl (kW 0 hw rfl) (by decide) fl_RX10_42 rfl rfl rfl (k_dg dt_X10_leastShed_0 8 10 (.getfield 42) 3 rfl) ?_
      refine x_iload_n C (k_dg dt_X10_leastShed_0 9 13 (.iload_n 2) 1 rfl) 2 rfl ?_
      refine x_iald C (a := w + 17) (n := 3) rfl (kW 17 hw rfl) (k_dg dt_X10_leastShed_0 10 14 (.iaload) 1 rfl) (fun v1 => ?_)
      refine x_aload_n C (k_dg dt_X10_leastShed_0 11 15 (.aload_n 0) 1 rfl) 0 rfl ?_
      refine x_getR C (a := w) (j := 6) (w + 17) rfl (kW 0 hw rfl) (by decide) fl_RX10_42 rfl rfl rfl (k_dg dt_X10_leastShed_0 12 16 (.getfield 42) 3 rfl) ?_
      refine x_iload_n C (k_dg dt_X10_leastShed_0 13 19 (.iload_n 1) 1 rfl) 1 rfl ?_
      refine x_iald C (a := w + 17) (n := 3) rfl (kW 17 hw rfl) (k_dg dt_X10_leastShed_0 14 20 (.iaload) 1 rfl) (fun v2 => ?_)
      refine x_icmp_ge C (tgt := 26) (k_dg dt_X10_leastShed_0 15 21 (.if_icmp .ge 5) 3 rfl) (by decide) (fun _ => ?_) (fun _ => ?_)
      · exact m_X10_leastShed_26 C hw ((fun l1_ l2_ M_ => f_X10_leastShed_4 w n l1_ l2_ M_ kx32)) kx32 ih Hx32 l1 l2 M
      · refine x_iload_n C (k_dg dt_X10_leastShed_0 16 24 (.iload_n 2) 1 rfl) 2 rfl ?_
        refine x_istore_n C (lv' := [(1, Value.int l2), (0, k_ra Z w), (2, Value.int l2)]) (k_dg dt_X10_leastShed_0 17 25 (.istore_n 1) 1 rfl) (by decide) rfl ?_
        refine x_lv [1, 0, 2] rfl ?_
        exact m_X10_leastShed_26 C hw ((fun l1_ l2_ M_ => f_X10_leastShed_4 w n l1_ l2_ M_ kx32)) kx32 ih Hx32 l2 l2 M
def f_X10_leastShed_32 (w : Nat) (l1 : Int32) (M : k_M) : Option (Int32 × k_M) := some (l1, M)
theorem m_X10_leastShed_32 {Z : k_Z} {G : k_G} {w : Nat} (C : k_C Z G RX10 cX10_leastShed (true, 3, 1, 0, 0) (some .int) "leastShed") (hw : isW w) (l1 : Int32) (M : k_M) : Sm Z G emI (true, 3, 1, 0, 0) (0, 0) 32 [(1, Value.int l1)] [] M (f_X10_leastShed_32 w l1 M) := by
  show Sm Z G emI _ _ _ _ _ _ (some (l1, M))
  refine x_iload_n C (k_dg dt_X10_leastShed_0 20 32 (.iload_n 1) 1 rfl) 0 rfl ?_
  exact x_iret C (by decide) (by decide) (k_dg dt_X10_leastShed_0 21 33 (.ireturn) 1 rfl)
def f_X10_leastShed (w : Nat) (M : k_M) : Option (Int32 × k_M) := f_X10_leastShed_4 w k_fu 0 1 M (fun l1_ M_ => f_X10_leastShed_32 w l1_ M_)
theorem m_X10_leastShed_0 {Z : k_Z} {G : k_G} {w : Nat} (C : k_C Z G RX10 cX10_leastShed (true, 3, 1, 0, 0) (some .int) "leastShed") (hw : isW w) (M : k_M) : Sm Z G emI (true, 3, 1, 0, 0) (0, 0) 0 [(0, k_ra Z w)] [] M (f_X10_leastShed w M) := by
  show Sm Z G emI _ _ _ _ _ _ (f_X10_leastShed_4 w k_fu 0 1 M (fun l1_ M_ => f_X10_leastShed_32 w l1_ M_))
  refine x_iconst C (v := 0) (k_dg dt_X10_leastShed_0 0 0 (.iconst 0) 1 rfl) (by decide) ?_
  refine x_istore_n C (lv' := [(1, Value.int 0), (0, k_ra Z w)]) (k_dg dt_X10_leastShed_0 1 1 (.istore_n 1) 1 rfl) (by decide) rfl ?_
  refine x_iconst C (v := 1) (k_dg dt_X10_leastShed_0 2 2 (.iconst 1) 1 rfl) (by decide) ?_
  refine x_istore_n C (lv' := [(2, Value.int 1), (1, Value.int 0), (0, k_ra Z w)]) (k_dg dt_X10_leastShed_0 3 3 (.istore_n 2) 1 rfl) (by decide) rfl ?_
  refine x_lv [2, 1, 0] rfl ?_
  exact m_X10_leastShed_4 C hw (fun l1_ M_ => f_X10_leastShed_32 w l1_ M_) (fun l1_ M_ => m_X10_leastShed_32 C hw l1_ M_) k_fu 0 1 M
theorem c_X10_leastShed {Z : k_Z} (hg : k_Gd Z) (l : Launch) (w : Nat) (M : k_M) (hw : isW w) : Con true Z l yX10_leastShed cX10_leastShed 3 (some .int) 1 0 0 emI [k_ra Z w] M (f_X10_leastShed w M) := k_con hg (by decide) (Nat.le_of_ble_eq_true rfl) (fun G hl C => m_X10_leastShed_0 C hw M)
theorem dt_X10_choices_0 : k_dec cX10_choices [(0, .iconst 1, 1), (1, .aload_n 0, 1), (2, .getfield 10, 3), (5, .getfield 68, 3), (8, .aload_n 0, 1), (9, .getfield 36, 3), (12, .iaload, 1), (13, .iadd, 1), (14, .ireturn, 1)] = true := by decide +kernel
def f_X10_choices (w : Nat) (M : k_M) : Option (Int32 × k_M) := rdI M (w + 6) 8 (M.1 w 4) (fun v1 => some (1 + v1, M))
theorem m_X10_choices_0 {Z : k_Z} {G : k_G} {w : Nat} (C : k_C Z G RX10 cX10_choices (true, 1, 1, 0, 0) (some .int) "choices") (hw : isW w) (M : k_M) : Sm Z G emI (true, 1, 1, 0, 0) (0, 0) 0 [(0, k_ra Z w)] [] M (f_X10_choices w M) := by
  show Sm Z G emI _ _ _ _ _ _ (rdI M (w + 6) 8 (M.1 w 4) (fun v1 => some (1 + v1, M)))
  refine x_iconst C (v := 1) (k_dg dt_X10_choices_0 0 0 (.iconst 1) 1 rfl) (by decide) ?_
  refine x_aload_n C (k_dg dt_X10_choices_0 1 1 (.aload_n 0) 1 rfl) 0 rfl ?_
  refine x_getR C (a := w) (j := 0) (w + 1) rfl (kW 0 hw rfl) (by decide) fl_RX10_10 rfl rfl rfl (k_dg dt_X10_choices_0 2 2 (.getfield 10) 3 rfl) ?_
  refine x_getR C (a := w + 1) (j := 5) (w + 6) rfl (kW 1 hw rfl) (by decide) fl_RX10_68 rfl rfl rfl (k_dg dt_X10_choices_0 3 5 (.getfield 68) 3 rfl) ?_
  refine x_aload_n C (k_dg dt_X10_choices_0 4 8 (.aload_n 0) 1 rfl) 0 rfl ?_
  refine x_getI C (a := w) (j := 4) rfl (kW 0 hw rfl) (by decide) fl_RX10_36 rfl (k_dg dt_X10_choices_0 5 9 (.getfield 36) 3 rfl) ?_
  refine x_iald C (a := w + 6) (n := 8) rfl (kW 6 hw rfl) (k_dg dt_X10_choices_0 6 12 (.iaload) 1 rfl) (fun v1 => ?_)
  refine x_iadd C (k_dg dt_X10_choices_0 7 13 (.iadd) 1 rfl) ?_
  exact x_iret C (by decide) (by decide) (k_dg dt_X10_choices_0 8 14 (.ireturn) 1 rfl)
theorem c_X10_choices {Z : k_Z} (hg : k_Gd Z) (l : Launch) (w : Nat) (M : k_M) (hw : isW w) : Con true Z l yX10_choices cX10_choices 1 (some .int) 1 0 0 emI [k_ra Z w] M (f_X10_choices w M) := k_con hg (by decide) (Nat.le_of_ble_eq_true rfl) (fun G hl C => m_X10_choices_0 C hw M)
theorem dt_X10_choice_0 : k_dec cX10_choice [(0, .iload_n 1, 1), (1, .ifCond .ne 7, 3), (4, .iconst 0, 1), (5, .goto 23, 3), (8, .aload_n 0, 1), (9, .getfield 10, 3), (12, .getfield 71, 3), (15, .aload_n 0, 1), (16, .getfield 36, 3), (19, .iconst 4, 1), (20, .imul, 1), (21, .iload_n 1, 1), (22, .iadd, 1), (23, .iconst 1, 1), (24, .isub, 1), (25, .iaload, 1), (26, .iconst 1, 1), (27, .iadd, 1), (28, .ireturn, 1)] = true := by decide +kernel
def f_X10_choice (w : Nat) (p1 : Int32) (M : k_M) : Option (Int32 × k_M) := if p1 = 0 then some (0, M) else rdI M (w + 7) 32 ((((M.1 w 4) * 4) + p1) - 1) (fun v1 => some (v1 + 1, M))
theorem m_X10_choice_0 {Z : k_Z} {G : k_G} {w : Nat} (C : k_C Z G RX10 cX10_choice (true, 2, 1, 0, 0) (some .int) "choice") (hw : isW w) (p1 : Int32) (M : k_M) : Sm Z G emI (true, 2, 1, 0, 0) (0, 0) 0 [(0, k_ra Z w), (1, Value.int p1)] [] M (f_X10_choice w p1 M) := by
  show Sm Z G emI _ _ _ _ _ _ (if p1 = 0 then some (0, M) else rdI M (w + 7) 32 ((((M.1 w 4) * 4) + p1) - 1) (fun v1 => some (v1 + 1, M)))
  refine x_iload_n C (k_dg dt_X10_choice_0 0 0 (.iload_n 1) 1 rfl) 1 rfl ?_
  refine x_if_ne C (tgt := 8) (k_dg dt_X10_choice_0 1 1 (.ifCond .ne 7) 3 rfl) (by decide) (fun _ => ?_) (fun _ => ?_)
  · refine x_iconst C (v := 0) (k_dg dt_X10_choice_0 2 4 (.iconst 0) 1 rfl) (by decide) ?_
    refine x_goto C (tgt := 28) (k_dg dt_X10_choice_0 3 5 (.goto 23) 3 rfl) (by decide) ?_
    exact x_iret C (by decide) (by decide) (k_dg dt_X10_choice_0 18 28 (.ireturn) 1 rfl)
  · refine x_aload_n C (k_dg dt_X10_choice_0 4 8 (.aload_n 0) 1 rfl) 0 rfl ?_
    refine x_getR C (a := w) (j := 0) (w + 1) rfl (kW 0 hw rfl) (by decide) fl_RX10_10 rfl rfl rfl (k_dg dt_X10_choice_0 5 9 (.getfield 10) 3 rfl) ?_
    refine x_getR C (a := w + 1) (j := 6) (w + 7) rfl (kW 1 hw rfl) (by decide) fl_RX10_71 rfl rfl rfl (k_dg dt_X10_choice_0 6 12 (.getfield 71) 3 rfl) ?_
    refine x_aload_n C (k_dg dt_X10_choice_0 7 15 (.aload_n 0) 1 rfl) 0 rfl ?_
    refine x_getI C (a := w) (j := 4) rfl (kW 0 hw rfl) (by decide) fl_RX10_36 rfl (k_dg dt_X10_choice_0 8 16 (.getfield 36) 3 rfl) ?_
    refine x_iconst C (v := 4) (k_dg dt_X10_choice_0 9 19 (.iconst 4) 1 rfl) (by decide) ?_
    refine x_imul C (k_dg dt_X10_choice_0 10 20 (.imul) 1 rfl) ?_
    refine x_iload_n C (k_dg dt_X10_choice_0 11 21 (.iload_n 1) 1 rfl) 1 rfl ?_
    refine x_iadd C (k_dg dt_X10_choice_0 12 22 (.iadd) 1 rfl) ?_
    refine x_iconst C (v := 1) (k_dg dt_X10_choice_0 13 23 (.iconst 1) 1 rfl) (by decide) ?_
    refine x_isub C (k_dg dt_X10_choice_0 14 24 (.isub) 1 rfl) ?_
    refine x_iald C (a := w + 7) (n := 32) rfl (kW 7 hw rfl) (k_dg dt_X10_choice_0 15 25 (.iaload) 1 rfl) (fun v1 => ?_)
    refine x_iconst C (v := 1) (k_dg dt_X10_choice_0 16 26 (.iconst 1) 1 rfl) (by decide) ?_
    refine x_iadd C (k_dg dt_X10_choice_0 17 27 (.iadd) 1 rfl) ?_
    exact x_iret C (by decide) (by decide) (k_dg dt_X10_choice_0 18 28 (.ireturn) 1 rfl)
theorem c_X10_choice {Z : k_Z} (hg : k_Gd Z) (l : Launch) (w : Nat) (p1 : Int32) (M : k_M) (hw : isW w) : Con true Z l yX10_choice cX10_choice 2 (some .int) 1 0 0 emI [k_ra Z w, Value.int p1] M (f_X10_choice w p1 M) := k_con hg (by decide) (Nat.le_of_ble_eq_true rfl) (fun G hl C => m_X10_choice_0 C hw p1 M)
theorem dt_X10_daysOf_0 : k_dec cX10_daysOf [(0, .iload_n 1, 1), (1, .ifCond .ne 7, 3), (4, .iconst 1, 1), (5, .goto 14, 3), (8, .aload_n 0, 1), (9, .getfield 10, 3), (12, .getfield 74, 3), (15, .iload_n 1, 1), (16, .iconst 1, 1), (17, .isub, 1), (18, .iaload, 1), (19, .ireturn, 1)] = true := by decide +kernel
def f_X10_daysOf (w : Nat) (p1 : Int32) (M : k_M) : Option (Int32 × k_M) := if p1 = 0 then some (1, M) else rdI M (w + 10) 12 (p1 - 1) (fun v1 => some (v1, M))
theorem m_X10_daysOf_0 {Z : k_Z} {G : k_G} {w : Nat} (C : k_C Z G RX10 cX10_daysOf (true, 2, 1, 0, 0) (some .int) "daysOf") (hw : isW w) (p1 : Int32) (M : k_M) : Sm Z G emI (true, 2, 1, 0, 0) (0, 0) 0 [(0, k_ra Z w), (1, Value.int p1)] [] M (f_X10_daysOf w p1 M) := by
  show Sm Z G emI _ _ _ _ _ _ (if p1 = 0 then some (1, M) else rdI M (w + 10) 12 (p1 - 1) (fun v1 => some (v1, M)))
  refine x_iload_n C (k_dg dt_X10_daysOf_0 0 0 (.iload_n 1) 1 rfl) 1 rfl ?_
  refine x_if_ne C (tgt := 8) (k_dg dt_X10_daysOf_0 1 1 (.ifCond .ne 7) 3 rfl) (by decide) (fun _ => ?_) (fun _ => ?_)
  · refine x_iconst C (v := 1) (k_dg dt_X10_daysOf_0 2 4 (.iconst 1) 1 rfl) (by decide) ?_
    refine x_goto C (tgt := 19) (k_dg dt_X10_daysOf_0 3 5 (.goto 14) 3 rfl) (by decide) ?_
    exact x_iret C (by decide) (by decide) (k_dg dt_X10_daysOf_0 11 19 (.ireturn) 1 rfl)
  · refine x_aload_n C (k_dg dt_X10_daysOf_0 4 8 (.aload_n 0) 1 rfl) 0 rfl ?_
    refine x_getR C (a := w) (j := 0) (w + 1) rfl (kW 0 hw rfl) (by decide) fl_RX10_10 rfl rfl rfl (k_dg dt_X10_daysOf_0 5 9 (.getfield 10) 3 rfl) ?_
    refine x_getR C (a := w + 1) (j := 10) (w + 10) rfl (kW 1 hw rfl) (by decide) fl_RX10_74 rfl rfl rfl (k_dg dt_X10_daysOf_0 6 12 (.getfield 74) 3 rfl) ?_
    refine x_iload_n C (k_dg dt_X10_daysOf_0 7 15 (.iload_n 1) 1 rfl) 1 rfl ?_
    refine x_iconst C (v := 1) (k_dg dt_X10_daysOf_0 8 16 (.iconst 1) 1 rfl) (by decide) ?_
    refine x_isub C (k_dg dt_X10_daysOf_0 9 17 (.isub) 1 rfl) ?_
    refine x_iald C (a := w + 10) (n := 12) rfl (kW 10 hw rfl) (k_dg dt_X10_daysOf_0 10 18 (.iaload) 1 rfl) (fun v1 => ?_)
    exact x_iret C (by decide) (by decide) (k_dg dt_X10_daysOf_0 11 19 (.ireturn) 1 rfl)
theorem c_X10_daysOf {Z : k_Z} (hg : k_Gd Z) (l : Launch) (w : Nat) (p1 : Int32) (M : k_M) (hw : isW w) : Con true Z l yX10_daysOf cX10_daysOf 2 (some .int) 1 0 0 emI [k_ra Z w, Value.int p1] M (f_X10_daysOf w p1 M) := k_con hg (by decide) (Nat.le_of_ble_eq_true rfl) (fun G hl C => m_X10_daysOf_0 C hw p1 M)
theorem dt_X10_onMeadow_0 : k_dec cX10_onMeadow [(0, .aload_n 0, 1), (1, .getfield 10, 3), (4, .getfield 77, 3), (7, .aload_n 0, 1), (8, .getfield 36, 3), (11, .iaload, 1), (12, .iconst 3, 1), (13, .if_icmp .ne 7, 3), (16, .iconst 1, 1), (17, .goto 4, 3), (20, .iconst 0, 1), (21, .ireturn, 1)] = true := by decide +kernel
def f_X10_onMeadow (w : Nat) (M : k_M) : Option (Int32 × k_M) := rdI M (w + 2) 8 (M.1 w 4) (fun v1 => if v1 = 3 then some (1, M) else some (0, M))
theorem m_X10_onMeadow_0 {Z : k_Z} {G : k_G} {w : Nat} (C : k_C Z G RX10 cX10_onMeadow (true, 1, 1, 0, 0) (some .boolean) "onMeadow") (hw : isW w) (M : k_M) : Sm Z G emI (true, 1, 1, 0, 0) (0, 0) 0 [(0, k_ra Z w)] [] M (f_X10_onMeadow w M) := by
  show Sm Z G emI _ _ _ _ _ _ (rdI M (w + 2) 8 (M.1 w 4) (fun v1 => if v1 = 3 then some (1, M) else some (0, M)))
  refine x_aload_n C (k_dg dt_X10_onMeadow_0 0 0 (.aload_n 0) 1 rfl) 0 rfl ?_
  refine x_getR C (a := w) (j := 0) (w + 1) rfl (kW 0 hw rfl) (by decide) fl_RX10_10 rfl rfl rfl (k_dg dt_X10_onMeadow_0 1 1 (.getfield 10) 3 rfl) ?_
  refine x_getR C (a := w + 1) (j := 1) (w + 2) rfl (kW 1 hw rfl) (by decide) fl_RX10_77 rfl rfl rfl (k_dg dt_X10_onMeadow_0 2 4 (.getfield 77) 3 rfl) ?_
  refine x_aload_n C (k_dg dt_X10_onMeadow_0 3 7 (.aload_n 0) 1 rfl) 0 rfl ?_
  refine x_getI C (a := w) (j := 4) rfl (kW 0 hw rfl) (by decide) fl_RX10_36 rfl (k_dg dt_X10_onMeadow_0 4 8 (.getfield 36) 3 rfl) ?_
  refine x_iald C (a := w + 2) (n := 8) rfl (kW 2 hw rfl) (k_dg dt_X10_onMeadow_0 5 11 (.iaload) 1 rfl) (fun v1 => ?_)
  refine x_iconst C (v := 3) (k_dg dt_X10_onMeadow_0 6 12 (.iconst 3) 1 rfl) (by decide) ?_
  refine x_icmp_ne C (tgt := 20) (k_dg dt_X10_onMeadow_0 7 13 (.if_icmp .ne 7) 3 rfl) (by decide) (fun _ => ?_) (fun _ => ?_)
  · refine x_iconst C (v := 1) (k_dg dt_X10_onMeadow_0 8 16 (.iconst 1) 1 rfl) (by decide) ?_
    refine x_goto C (tgt := 21) (k_dg dt_X10_onMeadow_0 9 17 (.goto 4) 3 rfl) (by decide) ?_
    exact x_zret C (by decide) (by decide) rfl (k_dg dt_X10_onMeadow_0 11 21 (.ireturn) 1 rfl)
  · refine x_iconst C (v := 0) (k_dg dt_X10_onMeadow_0 10 20 (.iconst 0) 1 rfl) (by decide) ?_
    exact x_zret C (by decide) (by decide) rfl (k_dg dt_X10_onMeadow_0 11 21 (.ireturn) 1 rfl)
theorem c_X10_onMeadow {Z : k_Z} (hg : k_Gd Z) (l : Launch) (w : Nat) (M : k_M) (hw : isW w) : Con true Z l yX10_onMeadow cX10_onMeadow 1 (some .boolean) 1 0 0 emI [k_ra Z w] M (f_X10_onMeadow w M) := k_con hg (by decide) (Nat.le_of_ble_eq_true rfl) (fun G hl C => m_X10_onMeadow_0 C hw M)
theorem dt_X10_rains_0 : k_dec cX10_rains [(0, .aload_n 0, 1), (1, .getfield 28, 3), (4, .aload_n 0, 1), (5, .getfield 39, 3), (8, .bipush 32, 2), (10, .irem, 1), (11, .iushr, 1), (12, .iconst 1, 1), (13, .iand, 1), (14, .iconst 1, 1), (15, .if_icmp .ne 7, 3), (18, .iconst 1, 1), (19, .goto 4, 3), (22, .iconst 0, 1), (23, .ireturn, 1)] = true := by decide +kernel
def f_X10_rains (w : Nat) (M : k_M) : Option (Int32 × k_M) := if ((ushr (M.1 w 2) ((M.1 w 5) - (M.1 w 5) / 32 * 32)) &&& 1) = 1 then some (1, M) else some (0, M)
theorem m_X10_rains_0 {Z : k_Z} {G : k_G} {w : Nat} (C : k_C Z G RX10 cX10_rains (true, 1, 1, 0, 0) (some .boolean) "rains") (hw : isW w) (M : k_M) : Sm Z G emI (true, 1, 1, 0, 0) (0, 0) 0 [(0, k_ra Z w)] [] M (f_X10_rains w M) := by
  show Sm Z G emI _ _ _ _ _ _ (if ((ushr (M.1 w 2) ((M.1 w 5) - (M.1 w 5) / 32 * 32)) &&& 1) = 1 then some (1, M) else some (0, M))
  refine x_aload_n C (k_dg dt_X10_rains_0 0 0 (.aload_n 0) 1 rfl) 0 rfl ?_
  refine x_getI C (a := w) (j := 2) rfl (kW 0 hw rfl) (by decide) fl_RX10_28 rfl (k_dg dt_X10_rains_0 1 1 (.getfield 28) 3 rfl) ?_
  refine x_aload_n C (k_dg dt_X10_rains_0 2 4 (.aload_n 0) 1 rfl) 0 rfl ?_
  refine x_getI C (a := w) (j := 5) rfl (kW 0 hw rfl) (by decide) fl_RX10_39 rfl (k_dg dt_X10_rains_0 3 5 (.getfield 39) 3 rfl) ?_
  refine x_bipush C (v := 32) (k_dg dt_X10_rains_0 4 8 (.bipush 32) 2 rfl) (by decide) ?_
  refine x_iremC C (k_dg dt_X10_rains_0 5 10 (.irem) 1 rfl) (by decide) ?_
  refine x_iushr C (k_dg dt_X10_rains_0 6 11 (.iushr) 1 rfl) ?_
  refine x_iconst C (v := 1) (k_dg dt_X10_rains_0 7 12 (.iconst 1) 1 rfl) (by decide) ?_
  refine x_iand C (k_dg dt_X10_rains_0 8 13 (.iand) 1 rfl) ?_
  refine x_iconst C (v := 1) (k_dg dt_X10_rains_0 9 14 (.iconst 1) 1 rfl) (by decide) ?_
  refine x_icmp_ne C (tgt := 22) (k_dg dt_X10_rains_0 10 15 (.if_icmp .ne 7) 3 rfl) (by decide) (fun _ => ?_) (fun _ => ?_)
  · refine x_iconst C (v := 1) (k_dg dt_X10_rains_0 11 18 (.iconst 1) 1 rfl) (by decide) ?_
    refine x_goto C (tgt := 23) (k_dg dt_X10_rains_0 12 19 (.goto 4) 3 rfl) (by decide) ?_
    exact x_zret C (by decide) (by decide) rfl (k_dg dt_X10_rains_0 14 23 (.ireturn) 1 rfl)
  · refine x_iconst C (v := 0) (k_dg dt_X10_rains_0 13 22 (.iconst 0) 1 rfl) (by decide) ?_
    exact x_zret C (by decide) (by decide) rfl (k_dg dt_X10_rains_0 14 23 (.ireturn) 1 rfl)
theorem c_X10_rains {Z : k_Z} (hg : k_Gd Z) (l : Launch) (w : Nat) (M : k_M) (hw : isW w) : Con true Z l yX10_rains cX10_rains 1 (some .boolean) 1 0 0 emI [k_ra Z w] M (f_X10_rains w M) := k_con hg (by decide) (Nat.le_of_ble_eq_true rfl) (fun G hl C => m_X10_rains_0 C hw M)
theorem dt_X10_taking_0 : k_dec cX10_taking [(0, .aload_n 0, 1), (1, .getfield 10, 3), (4, .getfield 77, 3), (7, .iload_n 1, 1), (8, .iaload, 1), (9, .istore_n 3, 1), (10, .getstatic 106, 3), (13, .iload_n 3, 1), (14, .iaload, 1), (15, .istore 4, 2), (17, .iload 4, 2), (19, .iconst (-1), 1), (20, .if_icmp .ne 5, 3), (23, .iconst 0, 1), (24, .ireturn, 1), (25, .iload_n 3, 1), (26, .iconst 5, 1), (27, .if_icmp .ne 17, 3), (30, .aload_n 0, 1), (31, .getfield 10, 3), (34, .getfield 109, 3), (37, .iload_n 1, 1), (38, .iaload, 1), (39, .iconst 2, 1), (40, .idiv, 1), (41, .goto 12, 3), (44, .aload_n 0, 1), (45, .getfield 10, 3), (48, .getfield 109, 3), (51, .iload_n 1, 1), (52, .iaload, 1), (53, .istore 5, 2), (55, .aload_n 0, 1), (56, .getfield 25, 3), (59, .bipush 6, 2), (61, .iaload, 1), (62, .aload_n 0, 1), (63, .getfield 42, 3), (66, .iload 4, 2), (68, .iaload, 1)] = true := by decide +kernel
theorem dt_X10_taking_1 : k_dec cX10_taking [(69, .isub, 1), (70, .istore 6, 2), (72, .iload_n 2, 1), (73, .iload 5, 2), (75, .if_icmp .ge 7, 3), (78, .iload_n 2, 1), (79, .goto 5, 3), (82, .iload 5, 2), (84, .istore 7, 2), (86, .iload 7, 2), (88, .iload 6, 2), (90, .if_icmp .ge 8, 3), (93, .iload 7, 2), (95, .goto 5, 3), (98, .iload 6, 2), (100, .istore 7, 2), (102, .iload 7, 2), (104, .ifCond .le 8, 3), (107, .iload 7, 2), (109, .goto 4, 3), (112, .iconst 0, 1), (113, .ireturn, 1)] = true := by decide +kernel
def f_X10_taking_100 (w : Nat) (t0 : Int32) (M : k_M) : Option (Int32 × k_M) := if t0 ≤ 0 then some (0, M) else some (t0, M)
theorem m_X10_taking_100 {Z : k_Z} {G : k_G} {w : Nat} (C : k_C Z G RX10 cX10_taking (true, 8, 1, 0, 0) (some .int) "taking") (hw : isW w) (t0 : Int32) (M : k_M) : Sm Z G emI (true, 8, 1, 0, 0) (0, 0) 100 [] [Value.int t0] M (f_X10_taking_100 w t0 M) := by
  show Sm Z G emI _ _ _ _ _ _ (if t0 ≤ 0 then some (0, M) else some (t0, M))
  refine x_istore C (lv' := [(7, Value.int t0)]) (k_dg dt_X10_taking_1 15 100 (.istore 7) 2 rfl) (by decide) rfl ?_
  refine x_iload C (k_dg dt_X10_taking_1 16 102 (.iload 7) 2 rfl) 0 rfl ?_
  refine x_if_le C (tgt := 112) (k_dg dt_X10_taking_1 17 104 (.ifCond .le 8) 3 rfl) (by decide) (fun _ => ?_) (fun _ => ?_)
  · refine x_iconst C (v := 0) (k_dg dt_X10_taking_1 20 112 (.iconst 0) 1 rfl) (by decide) ?_
    exact x_iret C (by decide) (by decide) (k_dg dt_X10_taking_1 21 113 (.ireturn) 1 rfl)
  · refine x_iload C (k_dg dt_X10_taking_1 18 107 (.iload 7) 2 rfl) 0 rfl ?_
    refine x_goto C (tgt := 113) (k_dg dt_X10_taking_1 19 109 (.goto 4) 3 rfl) (by decide) ?_
    exact x_iret C (by decide) (by decide) (k_dg dt_X10_taking_1 21 113 (.ireturn) 1 rfl)
def f_X10_taking_84 (w : Nat) (l6 : Int32) (t0 : Int32) (M : k_M) : Option (Int32 × k_M) := if l6 ≤ t0 then f_X10_taking_100 w l6 M else f_X10_taking_100 w t0 M
theorem m_X10_taking_84 {Z : k_Z} {G : k_G} {w : Nat} (C : k_C Z G RX10 cX10_taking (true, 8, 1, 0, 0) (some .int) "taking") (hw : isW w) (l6 : Int32) (t0 : Int32) (M : k_M) : Sm Z G emI (true, 8, 1, 0, 0) (0, 0) 84 [(6, Value.int l6)] [Value.int t0] M (f_X10_taking_84 w l6 t0 M) := by
  show Sm Z G emI _ _ _ _ _ _ (if l6 ≤ t0 then f_X10_taking_100 w l6 M else f_X10_taking_100 w t0 M)
  refine x_istore C (lv' := [(7, Value.int t0), (6, Value.int l6)]) (k_dg dt_X10_taking_1 8 84 (.istore 7) 2 rfl) (by decide) rfl ?_
  refine x_iload C (k_dg dt_X10_taking_1 9 86 (.iload 7) 2 rfl) 0 rfl ?_
  refine x_iload C (k_dg dt_X10_taking_1 10 88 (.iload 6) 2 rfl) 1 rfl ?_
  refine x_icmp_ge C (tgt := 98) (k_dg dt_X10_taking_1 11 90 (.if_icmp .ge 8) 3 rfl) (by decide) (fun _ => ?_) (fun _ => ?_)
  · refine x_iload C (k_dg dt_X10_taking_1 14 98 (.iload 6) 2 rfl) 1 rfl ?_
    refine x_lv [] rfl ?_
    exact m_X10_taking_100 C hw l6 M
  · refine x_iload C (k_dg dt_X10_taking_1 12 93 (.iload 7) 2 rfl) 0 rfl ?_
    refine x_goto C (tgt := 100) (k_dg dt_X10_taking_1 13 95 (.goto 5) 3 rfl) (by decide) ?_
    refine x_lv [] rfl ?_
    exact m_X10_taking_100 C hw t0 M
def f_X10_taking_53 (w : Nat) (l2 : Int32) (l4 : Int32) (t0 : Int32) (M : k_M) : Option (Int32 × k_M) := rdI M (w + 16) 13 6 (fun v1 => rdI M (w + 17) 3 l4 (fun v2 => bN (v1 - v2) (fun v3 => if t0 ≤ l2 then f_X10_taking_84 w v3 t0 M else f_X10_taking_84 w v3 l2 M)))
theorem m_X10_taking_53 {Z : k_Z} {G : k_G} {w : Nat} (C : k_C Z G RX10 cX10_taking (true, 8, 1, 0, 0) (some .int) "taking") (hw : isW w) (l2 : Int32) (l4 : Int32) (t0 : Int32) (M : k_M) : Sm Z G emI (true, 8, 1, 0, 0) (0, 0) 53 [(0, k_ra Z w), (2, Value.int l2), (4, Value.int l4)] [Value.int t0] M (f_X10_taking_53 w l2 l4 t0 M) := by
  show Sm Z G emI _ _ _ _ _ _ (rdI M (w + 16) 13 6 (fun v1 => rdI M (w + 17) 3 l4 (fun v2 => bN (v1 - v2) (fun v3 => if t0 ≤ l2 then f_X10_taking_84 w v3 t0 M else f_X10_taking_84 w v3 l2 M))))
  refine x_istore C (lv' := [(5, Value.int t0), (0, k_ra Z w), (2, Value.int l2), (4, Value.int l4)]) (k_dg dt_X10_taking_0 31 53 (.istore 5) 2 rfl) (by decide) rfl ?_
  refine x_aload_n C (k_dg dt_X10_taking_0 32 55 (.aload_n 0) 1 rfl) 1 rfl ?_
  refine x_getR C (a := w) (j := 1) (w + 16) rfl (kW 0 hw rfl) (by decide) fl_RX10_25 rfl rfl rfl (k_dg dt_X10_taking_0 33 56 (.getfield 25) 3 rfl) ?_
  refine x_bipush C (v := 6) (k_dg dt_X10_taking_0 34 59 (.bipush 6) 2 rfl) (by decide) ?_
  refine x_iald C (a := w + 16) (n := 13) rfl (kW 16 hw rfl) (k_dg dt_X10_taking_0 35 61 (.iaload) 1 rfl) (fun v1 => ?_)
  refine x_aload_n C (k_dg dt_X10_taking_0 36 62 (.aload_n 0) 1 rfl) 1 rfl ?_
  refine x_getR C (a := w) (j := 6) (w + 17) rfl (kW 0 hw rfl) (by decide) fl_RX10_42 rfl rfl rfl (k_dg dt_X10_taking_0 37 63 (.getfield 42) 3 rfl) ?_
  refine x_iload C (k_dg dt_X10_taking_0 38 66 (.iload 4) 2 rfl) 3 rfl ?_
  refine x_iald C (a := w + 17) (n := 3) rfl (kW 17 hw rfl) (k_dg dt_X10_taking_0 39 68 (.iaload) 1 rfl) (fun v2 => ?_)
  refine x_isub C (k_dg dt_X10_taking_1 0 69 (.isub) 1 rfl) ?_
  refine x_nm (w := Value.int) (fun v3 _ => ?_)
  refine x_istore C (lv' := [(6, Value.int v3), (5, Value.int t0), (0, k_ra Z w), (2, Value.int l2), (4, Value.int l4)]) (k_dg dt_X10_taking_1 1 70 (.istore 6) 2 rfl) (by decide) rfl ?_
  refine x_iload_n C (k_dg dt_X10_taking_1 2 72 (.iload_n 2) 1 rfl) 3 rfl ?_
  refine x_iload C (k_dg dt_X10_taking_1 3 73 (.iload 5) 2 rfl) 1 rfl ?_
  refine x_icmp_ge C (tgt := 82) (k_dg dt_X10_taking_1 4 75 (.if_icmp .ge 7) 3 rfl) (by decide) (fun _ => ?_) (fun _ => ?_)
  · refine x_iload C (k_dg dt_X10_taking_1 7 82 (.iload 5) 2 rfl) 1 rfl ?_
    refine x_lv [0] rfl ?_
    exact m_X10_taking_84 C hw v3 t0 M
  · refine x_iload_n C (k_dg dt_X10_taking_1 5 78 (.iload_n 2) 1 rfl) 3 rfl ?_
    refine x_goto C (tgt := 84) (k_dg dt_X10_taking_1 6 79 (.goto 5) 3 rfl) (by decide) ?_
    refine x_lv [0] rfl ?_
    exact m_X10_taking_84 C hw v3 l2 M
def f_X10_taking (w : Nat) (p1 : Int32) (p2 : Int32) (M : k_M) : Option (Int32 × k_M) := rdI M (w + 2) 8 p1 (fun v1 => rdT 2 v1 (fun v2 => if v2 = (-1) then some (0, M) else if v1 = 5 then rdI M (w + 5) 8 p1 (fun v4 => f_X10_taking_53 w p2 v2 (v4 / 2) M) else rdI M (w + 5) 8 p1 (fun v3 => f_X10_taking_53 w p2 v2 v3 M)))
theorem m_X10_taking_0 {Z : k_Z} {G : k_G} {w : Nat} (C : k_C Z G RX10 cX10_taking (true, 8, 1, 0, 0) (some .int) "taking") (hw : isW w) (p1 : Int32) (p2 : Int32) (M : k_M) : Sm Z G emI (true, 8, 1, 0, 0) (0, 0) 0 [(0, k_ra Z w), (1, Value.int p1), (2, Value.int p2)] [] M (f_X10_taking w p1 p2 M) := by
  show Sm Z G emI _ _ _ _ _ _ (rdI M (w + 2) 8 p1 (fun v1 => rdT 2 v1 (fun v2 => if v2 = (-1) then some (0, M) else if v1 = 5 then rdI M (w + 5) 8 p1 (fun v4 => f_X10_taking_53 w p2 v2 (v4 / 2) M) else rdI M (w + 5) 8 p1 (fun v3 => f_X10_taking_53 w p2 v2 v3 M))))
  refine x_aload_n C (k_dg dt_X10_taking_0 0 0 (.aload_n 0) 1 rfl) 0 rfl ?_
  refine x_getR C (a := w) (j := 0) (w + 1) rfl (kW 0 hw rfl) (by decide) fl_RX10_10 rfl rfl rfl (k_dg dt_X10_taking_0 1 1 (.getfield 10) 3 rfl) ?_
  refine x_getR C (a := w + 1) (j := 1) (w + 2) rfl (kW 1 hw rfl) (by decide) fl_RX10_77 rfl rfl rfl (k_dg dt_X10_taking_0 2 4 (.getfield 77) 3 rfl) ?_
  refine x_iload_n C (k_dg dt_X10_taking_0 3 7 (.iload_n 1) 1 rfl) 1 rfl ?_
  refine x_iald C (a := w + 2) (n := 8) rfl (kW 2 hw rfl) (k_dg dt_X10_taking_0 4 8 (.iaload) 1 rfl) (fun v1 => ?_)
  refine x_istore_n C (lv' := [(3, Value.int v1), (0, k_ra Z w), (1, Value.int p1), (2, Value.int p2)]) (k_dg dt_X10_taking_0 5 9 (.istore_n 3) 1 rfl) (by decide) rfl ?_
  refine x_gets C (t := 2) (by decide) gs_RX10_106 (k_dg dt_X10_taking_0 6 10 (.getstatic 106) 3 rfl) ?_
  refine x_iload_n C (k_dg dt_X10_taking_0 7 13 (.iload_n 3) 1 rfl) 0 rfl ?_
  refine x_tald C (t := 2) (by decide) (k_dg dt_X10_taking_0 8 14 (.iaload) 1 rfl) (fun v2 => ?_)
  refine x_istore C (lv' := [(4, Value.int v2), (3, Value.int v1), (0, k_ra Z w), (1, Value.int p1), (2, Value.int p2)]) (k_dg dt_X10_taking_0 9 15 (.istore 4) 2 rfl) (by decide) rfl ?_
  refine x_iload C (k_dg dt_X10_taking_0 10 17 (.iload 4) 2 rfl) 0 rfl ?_
  refine x_iconst C (v := -1) (k_dg dt_X10_taking_0 11 19 (.iconst (-1)) 1 rfl) (by decide) ?_
  refine x_icmp_ne C (tgt := 25) (k_dg dt_X10_taking_0 12 20 (.if_icmp .ne 5) 3 rfl) (by decide) (fun _ => ?_) (fun _ => ?_)
  · refine x_iconst C (v := 0) (k_dg dt_X10_taking_0 13 23 (.iconst 0) 1 rfl) (by decide) ?_
    exact x_iret C (by decide) (by decide) (k_dg dt_X10_taking_0 14 24 (.ireturn) 1 rfl)
  · refine x_iload_n C (k_dg dt_X10_taking_0 15 25 (.iload_n 3) 1 rfl) 1 rfl ?_
    refine x_iconst C (v := 5) (k_dg dt_X10_taking_0 16 26 (.iconst 5) 1 rfl) (by decide) ?_
    refine x_icmp_ne C (tgt := 44) (k_dg dt_X10_taking_0 17 27 (.if_icmp .ne 17) 3 rfl) (by decide) (fun _ => ?_) (fun _ => ?_)
    · refine x_aload_n C (k_dg dt_X10_taking_0 18 30 (.aload_n 0) 1 rfl) 2 rfl ?_
      refine x_getR C (a := w) (j := 0) (w + 1) rfl (kW 0 hw rfl) (by decide) fl_RX10_10 rfl rfl rfl (k_dg dt_X10_taking_0 19 31 (.getfield 10) 3 rfl) ?_
      refine x_getR C (a := w + 1) (j := 4) (w + 5) rfl (kW 1 hw rfl) (by decide) fl_RX10_109 rfl rfl rfl (k_dg dt_X10_taking_0 20 34 (.getfield 109) 3 rfl) ?_
      refine x_iload_n C (k_dg dt_X10_taking_0 21 37 (.iload_n 1) 1 rfl) 3 rfl ?_
      refine x_iald C (a := w + 5) (n := 8) rfl (kW 5 hw rfl) (k_dg dt_X10_taking_0 22 38 (.iaload) 1 rfl) (fun v4 => ?_)
      refine x_iconst C (v := 2) (k_dg dt_X10_taking_0 23 39 (.iconst 2) 1 rfl) (by decide) ?_
      refine x_idivC C (k_dg dt_X10_taking_0 24 40 (.idiv) 1 rfl) (by decide) ?_
      refine x_goto C (tgt := 53) (k_dg dt_X10_taking_0 25 41 (.goto 12) 3 rfl) (by decide) ?_
      refine x_lv [2, 4, 0] rfl ?_
      exact m_X10_taking_53 C hw p2 v2 (v4 / 2) M
    · refine x_aload_n C (k_dg dt_X10_taking_0 26 44 (.aload_n 0) 1 rfl) 2 rfl ?_
      refine x_getR C (a := w) (j := 0) (w + 1) rfl (kW 0 hw rfl) (by decide) fl_RX10_10 rfl rfl rfl (k_dg dt_X10_taking_0 27 45 (.getfield 10) 3 rfl) ?_
      refine x_getR C (a := w + 1) (j := 4) (w + 5) rfl (kW 1 hw rfl) (by decide) fl_RX10_109 rfl rfl rfl (k_dg dt_X10_taking_0 28 48 (.getfield 109) 3 rfl) ?_
      refine x_iload_n C (k_dg dt_X10_taking_0 29 51 (.iload_n 1) 1 rfl) 3 rfl ?_
      refine x_iald C (a := w + 5) (n := 8) rfl (kW 5 hw rfl) (k_dg dt_X10_taking_0 30 52 (.iaload) 1 rfl) (fun v3 => ?_)
      refine x_lv [2, 4, 0] rfl ?_
      exact m_X10_taking_53 C hw p2 v2 v3 M
theorem c_X10_taking {Z : k_Z} (hg : k_Gd Z) (l : Launch) (w : Nat) (p1 : Int32) (p2 : Int32) (M : k_M) (hw : isW w) : Con true Z l yX10_taking cX10_taking 8 (some .int) 1 0 0 emI [k_ra Z w, Value.int p1, Value.int p2] M (f_X10_taking w p1 p2 M) := k_con hg (by decide) (Nat.le_of_ble_eq_true rfl) (fun G hl C => m_X10_taking_0 C hw p1 p2 M)
theorem dt_X10_eat_0 : k_dec cX10_eat [(0, .aload_n 0, 1), (1, .getfield 42, 3), (4, .iconst 0, 1), (5, .iaload, 1), (6, .iload_n 2, 1), (7, .aload_n 0, 1), (8, .getfield 25, 3), (11, .iload_n 1, 1), (12, .iaload, 1), (13, .imul, 1), (14, .isub, 1), (15, .istore_n 3, 1), (16, .aload_n 0, 1), (17, .getfield 42, 3), (20, .iconst 1, 1), (21, .iaload, 1), (22, .iload_n 2, 1), (23, .aload_n 0, 1), (24, .getfield 25, 3), (27, .iload_n 1, 1), (28, .iconst 1, 1), (29, .iadd, 1), (30, .iaload, 1), (31, .aload_n 0, 1), (32, .getfield 25, 3), (35, .bipush 7, 2), (37, .iaload, 1), (38, .iadd, 1), (39, .imul, 1), (40, .isub, 1), (41, .istore 4, 2), (43, .aload_n 0, 1), (44, .getfield 42, 3), (47, .iconst 2, 1), (48, .iaload, 1), (49, .iload_n 2, 1), (50, .aload_n 0, 1), (51, .getfield 25, 3), (54, .iload_n 1, 1), (55, .iconst 2, 1)] = true := by decide +kernel
theorem dt_X10_eat_1 : k_dec cX10_eat [(56, .iadd, 1), (57, .iaload, 1), (58, .imul, 1), (59, .isub, 1), (60, .istore 5, 2), (62, .iload_n 3, 1), (63, .ifCond .lt 25, 3), (66, .iload 4, 2), (68, .ifCond .lt 20, 3), (71, .iload 5, 2), (73, .ifCond .lt 15, 3), (76, .aload_n 0, 1), (77, .getfield 39, 3), (80, .iload_n 2, 1), (81, .iadd, 1), (82, .sipush 999, 3), (85, .if_icmp .le 5, 3), (88, .iconst 0, 1), (89, .ireturn, 1), (90, .aload_n 0, 1), (91, .getfield 42, 3), (94, .iconst 0, 1), (95, .iload_n 3, 1), (96, .iastore, 1), (97, .aload_n 0, 1), (98, .getfield 42, 3), (101, .iconst 1, 1), (102, .iload 4, 2), (104, .iastore, 1), (105, .aload_n 0, 1), (106, .getfield 42, 3), (109, .iconst 2, 1), (110, .iload 5, 2), (112, .iastore, 1), (113, .aload_n 0, 1), (114, .dup, 1), (115, .getfield 39, 3), (118, .iload_n 2, 1), (119, .iadd, 1), (120, .putfield 39, 3)] = true := by decide +kernel
theorem dt_X10_eat_2 : k_dec cX10_eat [(123, .iconst 1, 1), (124, .ireturn, 1)] = true := by decide +kernel
def f_X10_eat (w : Nat) (p1 : Int32) (p2 : Int32) (M : k_M) : Option (Int32 × k_M) := rdI M (w + 17) 3 0 (fun v1 => rdI M (w + 16) 13 p1 (fun v2 => bN (v1 - (p2 * v2)) (fun v3 => rdI M (w + 17) 3 1 (fun v4 => rdI M (w + 16) 13 (p1 + 1) (fun v5 => rdI M (w + 16) 13 7 (fun v6 => bN (v4 - (p2 * (v5 + v6))) (fun v7 => rdI M (w + 17) 3 2 (fun v8 => rdI M (w + 16) 13 (p1 + 2) (fun v9 => bN (v8 - (p2 * v9)) (fun v10 => if v3 < 0 then some (0, M) else if v7 < 0 then some (0, M) else if v10 < 0 then some (0, M) else if ((M.1 w 5) + p2) ≤ 999 then wrI M (w + 17) 3 0 v3 (fun M11 => wrI M11 (w + 17) 3 1 v7 (fun M12 => wrI M12 (w + 17) 3 2 v10 (fun M13 => bN (sI M13 w 5 ((M13.1 w 5) + p2)) (fun M14 => some (1, M14))))) else some (0, M)))))))))))
theorem m_X10_eat_0 {Z : k_Z} {G : k_G} {w : Nat} (C : k_C Z G RX10 cX10_eat (true, 6, 1, 0, 0) (some .boolean) "eat") (hw : isW w) (p1 : Int32) (p2 : Int32) (M : k_M) : Sm Z G emI (true, 6, 1, 0, 0) (0, 0) 0 [(0, k_ra Z w), (1, Value.int p1), (2, Value.int p2)] [] M (f_X10_eat w p1 p2 M) := by
  show Sm Z G emI _ _ _ _ _ _ (rdI M (w + 17) 3 0 (fun v1 => rdI M (w + 16) 13 p1 (fun v2 => bN (v1 - (p2 * v2)) (fun v3 => rdI M (w + 17) 3 1 (fun v4 => rdI M (w + 16) 13 (p1 + 1) (fun v5 => rdI M (w + 16) 13 7 (fun v6 => bN (v4 - (p2 * (v5 + v6))) (fun v7 => rdI M (w + 17) 3 2 (fun v8 => rdI M (w + 16) 13 (p1 + 2) (fun v9 => bN (v8 - (p2 * v9)) (fun v10 => if v3 < 0 then some (0, M) else if v7 < 0 then some (0, M) else if v10 < 0 then some (0, M) else if ((M.1 w 5) + p2) ≤ 999 then wrI M (w + 17) 3 0 v3 (fun M11 => wrI M11 (w + 17) 3 1 v7 (fun M12 => wrI M12 (w + 17) 3 2 v10 (fun M13 => bN (sI M13 w 5 ((M13.1 w 5) + p2)) (fun M14 => some (1, M14))))) else some (0, M))))))))))))
  refine x_aload_n C (k_dg dt_X10_eat_0 0 0 (.aload_n 0) 1 rfl) 0 rfl ?_
  refine x_getR C (a := w) (j := 6) (w + 17) rfl (kW 0 hw rfl) (by decide) fl_RX10_42 rfl rfl rfl (k_dg dt_X10_eat_0 1 1 (.getfield 42) 3 rfl) ?_
  refine x_iconst C (v := 0) (k_dg dt_X10_eat_0 2 4 (.iconst 0) 1 rfl) (by decide) ?_
  refine x_iald C (a := w + 17) (n := 3) rfl (kW 17 hw rfl) (k_dg dt_X10_eat_0 3 5 (.iaload) 1 rfl) (fun v1 => ?_)
  refine x_iload_n C (k_dg dt_X10_eat_0 4 6 (.iload_n 2) 1 rfl) 2 rfl ?_
  refine x_aload_n C (k_dg dt_X10_eat_0 5 7 (.aload_n 0) 1 rfl) 0 rfl ?_
  refine x_getR C (a := w) (j := 1) (w + 16) rfl (kW 0 hw rfl) (by decide) fl_RX10_25 rfl rfl rfl (k_dg dt_X10_eat_0 6 8 (.getfield 25) 3 rfl) ?_
  refine x_iload_n C (k_dg dt_X10_eat_0 7 11 (.iload_n 1) 1 rfl) 1 rfl ?_
  refine x_iald C (a := w + 16) (n := 13) rfl (kW 16 hw rfl) (k_dg dt_X10_eat_0 8 12 (.iaload) 1 rfl) (fun v2 => ?_)
  refine x_imul C (k_dg dt_X10_eat_0 9 13 (.imul) 1 rfl) ?_
  refine x_isub C (k_dg dt_X10_eat_0 10 14 (.isub) 1 rfl) ?_
  refine x_nm (w := Value.int) (fun v3 _ => ?_)
  refine x_istore_n C (lv' := [(3, Value.int v3), (0, k_ra Z w), (1, Value.int p1), (2, Value.int p2)]) (k_dg dt_X10_eat_0 11 15 (.istore_n 3) 1 rfl) (by decide) rfl ?_
  refine x_aload_n C (k_dg dt_X10_eat_0 12 16 (.aload_n 0) 1 rfl) 1 rfl ?_
  refine x_getR C (a := w) (j := 6) (w + 17) rfl (kW 0 hw rfl) (by decide) fl_RX10_42 rfl rfl rfl (k_dg dt_X10_eat_0 13 17 (.getfield 42) 3 rfl) ?_
  refine x_iconst C (v := 1) (k_dg dt_X10_eat_0 14 20 (.iconst 1) 1 rfl) (by decide) ?_
  refine x_iald C (a := w + 17) (n := 3) rfl (kW 17 hw rfl) (k_dg dt_X10_eat_0 15 21 (.iaload) 1 rfl) (fun v4 => ?_)
  refine x_iload_n C (k_dg dt_X10_eat_0 16 22 (.iload_n 2) 1 rfl) 3 rfl ?_
  refine x_aload_n C (k_dg dt_X10_eat_0 17 23 (.aload_n 0) 1 rfl) 1 rfl ?_
  refine x_getR C (a := w) (j := 1) (w + 16) rfl (kW 0 hw rfl) (by decide) fl_RX10_25 rfl rfl rfl (k_dg dt_X10_eat_0 18 24 (.getfield 25) 3 rfl) ?_
  refine x_iload_n C (k_dg dt_X10_eat_0 19 27 (.iload_n 1) 1 rfl) 2 rfl ?_
  refine x_iconst C (v := 1) (k_dg dt_X10_eat_0 20 28 (.iconst 1) 1 rfl) (by decide) ?_
  refine x_iadd C (k_dg dt_X10_eat_0 21 29 (.iadd) 1 rfl) ?_
  refine x_iald C (a := w + 16) (n := 13) rfl (kW 16 hw rfl) (k_dg dt_X10_eat_0 22 30 (.iaload) 1 rfl) (fun v5 => ?_)
  refine x_aload_n C (k_dg dt_X10_eat_0 23 31 (.aload_n 0) 1 rfl) 1 rfl ?_
  refine x_getR C (a := w) (j := 1) (w + 16) rfl (kW 0 hw rfl) (by decide) fl_RX10_25 rfl rfl rfl (k_dg dt_X10_eat_0 24 32 (.getfield 25) 3 rfl) ?_
  refine x_bipush C (v := 7) (k_dg dt_X10_eat_0 25 35 (.bipush 7) 2 rfl) (by decide) ?_
  refine x_iald C (a := w + 16) (n := 13) rfl (kW 16 hw rfl) (k_dg dt_X10_eat_0 26 37 (.iaload) 1 rfl) (fun v6 => ?_)
  refine x_iadd C (k_dg dt_X10_eat_0 27 38 (.iadd) 1 rfl) ?_
  refine x_imul C (k_dg dt_X10_eat_0 28 39 (.imul) 1 rfl) ?_
  refine x_isub C (k_dg dt_X10_eat_0 29 40 (.isub) 1 rfl) ?_
  refine x_nm (w := Value.int) (fun v7 _ => ?_)
  refine x_istore C (lv' := [(4, Value.int v7), (3, Value.int v3), (0, k_ra Z w), (1, Value.int p1), (2, Value.int p2)]) (k_dg dt_X10_eat_0 30 41 (.istore 4) 2 rfl) (by decide) rfl ?_
  refine x_aload_n C (k_dg dt_X10_eat_0 31 43 (.aload_n 0) 1 rfl) 2 rfl ?_
  refine x_getR C (a := w) (j := 6) (w + 17) rfl (kW 0 hw rfl) (by decide) fl_RX10_42 rfl rfl rfl (k_dg dt_X10_eat_0 32 44 (.getfield 42) 3 rfl) ?_
  refine x_iconst C (v := 2) (k_dg dt_X10_eat_0 33 47 (.iconst 2) 1 rfl) (by decide) ?_
  refine x_iald C (a := w + 17) (n := 3) rfl (kW 17 hw rfl) (k_dg dt_X10_eat_0 34 48 (.iaload) 1 rfl) (fun v8 => ?_)
  refine x_iload_n C (k_dg dt_X10_eat_0 35 49 (.iload_n 2) 1 rfl) 4 rfl ?_
  refine x_aload_n C (k_dg dt_X10_eat_0 36 50 (.aload_n 0) 1 rfl) 2 rfl ?_
  refine x_getR C (a := w) (j := 1) (w + 16) rfl (kW 0 hw rfl) (by decide) fl_RX10_25 rfl rfl rfl (k_dg dt_X10_eat_0 37 51 (.getfield 25) 3 rfl) ?_
  refine x_iload_n C (k_dg dt_X10_eat_0 38 54 (.iload_n 1) 1 rfl) 3 rfl ?_
  refine x_iconst C (v := 2) (k_dg dt_X10_eat_0 39 55 (.iconst 2) 1 rfl) (by decide) ?_
  refine x_iadd C (k_dg dt_X10_eat_1 0 56 (.iadd) 1 rfl) ?_
  refine x_iald C (a := w + 16) (n := 13) rfl (kW 16 hw rfl) (k_dg dt_X10_eat_1 1 57 (.iaload) 1 rfl) (fun v9 => ?_)
  refine x_imul C (k_dg dt_X10_eat_1 2 58 (.imul) 1 rfl) ?_
  refine x_isub C (k_dg dt_X10_eat_1 3 59 (.isub) 1 rfl) ?_
  refine x_nm (w := Value.int) (fun v10 _ => ?_)
  refine x_istore C (lv' := [(5, Value.int v10), (4, Value.int v7), (3, Value.int v3), (0, k_ra Z w), (1, Value.int p1), (2, Value.int p2)]) (k_dg dt_X10_eat_1 4 60 (.istore 5) 2 rfl) (by decide) rfl ?_
  refine x_iload_n C (k_dg dt_X10_eat_1 5 62 (.iload_n 3) 1 rfl) 2 rfl ?_
  refine x_if_lt C (tgt := 88) (k_dg dt_X10_eat_1 6 63 (.ifCond .lt 25) 3 rfl) (by decide) (fun _ => ?_) (fun _ => ?_)
  · refine x_iconst C (v := 0) (k_dg dt_X10_eat_1 17 88 (.iconst 0) 1 rfl) (by decide) ?_
    exact x_zret C (by decide) (by decide) rfl (k_dg dt_X10_eat_1 18 89 (.ireturn) 1 rfl)
  · refine x_iload C (k_dg dt_X10_eat_1 7 66 (.iload 4) 2 rfl) 1 rfl ?_
    refine x_if_lt C (tgt := 88) (k_dg dt_X10_eat_1 8 68 (.ifCond .lt 20) 3 rfl) (by decide) (fun _ => ?_) (fun _ => ?_)
    · refine x_iconst C (v := 0) (k_dg dt_X10_eat_1 17 88 (.iconst 0) 1 rfl) (by decide) ?_
      exact x_zret C (by decide) (by decide) rfl (k_dg dt_X10_eat_1 18 89 (.ireturn) 1 rfl)
    · refine x_iload C (k_dg dt_X10_eat_1 9 71 (.iload 5) 2 rfl) 0 rfl ?_
      refine x_if_lt C (tgt := 88) (k_dg dt_X10_eat_1 10 73 (.ifCond .lt 15) 3 rfl) (by decide) (fun _ => ?_) (fun _ => ?_)
      · refine x_iconst C (v := 0) (k_dg dt_X10_eat_1 17 88 (.iconst 0) 1 rfl) (by decide) ?_
        exact x_zret C (by decide) (by decide) rfl (k_dg dt_X10_eat_1 18 89 (.ireturn) 1 rfl)
      · refine x_aload_n C (k_dg dt_X10_eat_1 11 76 (.aload_n 0) 1 rfl) 3 rfl ?_
        refine x_getI C (a := w) (j := 5) rfl (kW 0 hw rfl) (by decide) fl_RX10_39 rfl (k_dg dt_X10_eat_1 12 77 (.getfield 39) 3 rfl) ?_
        refine x_iload_n C (k_dg dt_X10_eat_1 13 80 (.iload_n 2) 1 rfl) 5 rfl ?_
        refine x_iadd C (k_dg dt_X10_eat_1 14 81 (.iadd) 1 rfl) ?_
        refine x_sipush C (v := 999) (k_dg dt_X10_eat_1 15 82 (.sipush 999) 3 rfl) (by decide) ?_
        refine x_icmp_le C (tgt := 90) (k_dg dt_X10_eat_1 16 85 (.if_icmp .le 5) 3 rfl) (by decide) (fun _ => ?_) (fun _ => ?_)
        · refine x_aload_n C (k_dg dt_X10_eat_1 19 90 (.aload_n 0) 1 rfl) 3 rfl ?_
          refine x_getR C (a := w) (j := 6) (w + 17) rfl (kW 0 hw rfl) (by decide) fl_RX10_42 rfl rfl rfl (k_dg dt_X10_eat_1 20 91 (.getfield 42) 3 rfl) ?_
          refine x_iconst C (v := 0) (k_dg dt_X10_eat_1 21 94 (.iconst 0) 1 rfl) (by decide) ?_
          refine x_iload_n C (k_dg dt_X10_eat_1 22 95 (.iload_n 3) 1 rfl) 2 rfl ?_
          refine x_iast C (a := w + 17) (n := 3) rfl (kW 17 hw rfl) (k_dg dt_X10_eat_1 23 96 (.iastore) 1 rfl) (fun M11 => ?_)
          refine x_aload_n C (k_dg dt_X10_eat_1 24 97 (.aload_n 0) 1 rfl) 3 rfl ?_
          refine x_getR C (a := w) (j := 6) (w + 17) rfl (kW 0 hw rfl) (by decide) fl_RX10_42 rfl rfl rfl (k_dg dt_X10_eat_1 25 98 (.getfield 42) 3 rfl) ?_
          refine x_iconst C (v := 1) (k_dg dt_X10_eat_1 26 101 (.iconst 1) 1 rfl) (by decide) ?_
          refine x_iload C (k_dg dt_X10_eat_1 27 102 (.iload 4) 2 rfl) 1 rfl ?_
          refine x_iast C (a := w + 17) (n := 3) rfl (kW 17 hw rfl) (k_dg dt_X10_eat_1 28 104 (.iastore) 1 rfl) (fun M12 => ?_)
          refine x_aload_n C (k_dg dt_X10_eat_1 29 105 (.aload_n 0) 1 rfl) 3 rfl ?_
          refine x_getR C (a := w) (j := 6) (w + 17) rfl (kW 0 hw rfl) (by decide) fl_RX10_42 rfl rfl rfl (k_dg dt_X10_eat_1 30 106 (.getfield 42) 3 rfl) ?_
          refine x_iconst C (v := 2) (k_dg dt_X10_eat_1 31 109 (.iconst 2) 1 rfl) (by decide) ?_
          refine x_iload C (k_dg dt_X10_eat_1 32 110 (.iload 5) 2 rfl) 0 rfl ?_
          refine x_iast C (a := w + 17) (n := 3) rfl (kW 17 hw rfl) (k_dg dt_X10_eat_1 33 112 (.iastore) 1 rfl) (fun M13 => ?_)
          refine x_aload_n C (k_dg dt_X10_eat_1 34 113 (.aload_n 0) 1 rfl) 3 rfl ?_
          refine x_dup C (k_dg dt_X10_eat_1 35 114 (.dup) 1 rfl) rfl ?_
          refine x_getI C (a := w) (j := 5) rfl (kW 0 hw rfl) (by decide) fl_RX10_39 rfl (k_dg dt_X10_eat_1 36 115 (.getfield 39) 3 rfl) ?_
          refine x_iload_n C (k_dg dt_X10_eat_1 37 118 (.iload_n 2) 1 rfl) 5 rfl ?_
          refine x_iadd C (k_dg dt_X10_eat_1 38 119 (.iadd) 1 rfl) ?_
          refine x_putI C (a := w) (j := 5) rfl (kW 0 hw rfl) (by decide) fl_RX10_39 rfl pt_8_5 tb_8 rfl rfl (k_dg dt_X10_eat_1 39 120 (.putfield 39) 3 rfl) (fun M14 => ?_)
          refine x_iconst C (v := 1) (k_dg dt_X10_eat_2 0 123 (.iconst 1) 1 rfl) (by decide) ?_
          exact x_zret C (by decide) (by decide) rfl (k_dg dt_X10_eat_2 1 124 (.ireturn) 1 rfl)
        · refine x_iconst C (v := 0) (k_dg dt_X10_eat_1 17 88 (.iconst 0) 1 rfl) (by decide) ?_
          exact x_zret C (by decide) (by decide) rfl (k_dg dt_X10_eat_1 18 89 (.ireturn) 1 rfl)
theorem c_X10_eat {Z : k_Z} (hg : k_Gd Z) (l : Launch) (w : Nat) (p1 : Int32) (p2 : Int32) (M : k_M) (hw : isW w) : Con true Z l yX10_eat cX10_eat 6 (some .boolean) 1 0 0 emI [k_ra Z w, Value.int p1, Value.int p2] M (f_X10_eat w p1 p2 M) := k_con hg (by decide) (Nat.le_of_ble_eq_true rfl) (fun G hl C => m_X10_eat_0 C hw p1 p2 M)
theorem dt_X10_stand_0 : k_dec cX10_stand [(0, .aload_n 0, 1), (1, .getfield 10, 3), (4, .getfield 77, 3), (7, .aload_n 0, 1), (8, .getfield 36, 3), (11, .iaload, 1), (12, .istore_n 2, 1), (13, .aload_n 0, 1), (14, .getfield 10, 3), (17, .getfield 122, 3), (20, .aload_n 0, 1), (21, .getfield 36, 3), (24, .iaload, 1), (25, .istore_n 3, 1), (26, .iload_n 2, 1), (27, .iconst 3, 1), (28, .if_icmp .ne 12, 3), (31, .iload_n 1, 1), (32, .ifCond .ne 8, 3), (35, .iconst 0, 1), (36, .istore_n 3, 1), (37, .goto 24, 3), (40, .iload_n 2, 1), (41, .iconst 4, 1), (42, .if_icmp .ne 19, 3), (45, .aload_n 0, 1), (46, .getfield 39, 3), (49, .invokestatic 125, 3), (52, .iconst 2, 1), (53, .irem, 1), (54, .ifCond .ne 7, 3), (57, .iload_n 3, 1), (58, .iconst 2, 1), (59, .imul, 1), (60, .istore_n 3, 1), (61, .aload_n 0, 1), (62, .aload_n 0, 1), (63, .getfield 36, 3), (66, .iload_n 3, 1), (67, .invokevirtual 128, 3)] = true := by decide +kernel
theorem dt_X10_stand_1 : k_dec cX10_stand [(70, .istore 4, 2), (72, .iload 4, 2), (74, .ifCond .le 18, 3), (77, .aload_n 0, 1), (78, .getfield 42, 3), (81, .getstatic 106, 3), (84, .iload_n 2, 1), (85, .iaload, 1), (86, .dup2, 1), (87, .iaload, 1), (88, .iload 4, 2), (90, .iadd, 1), (91, .iastore, 1), (92, .aload_n 0, 1), (93, .iconst 0, 1), (94, .iconst 1, 1), (95, .invokevirtual 131, 3), (98, .ifCond .eq 29, 3), (101, .aload_n 0, 1), (102, .getfield 10, 3), (105, .getfield 109, 3), (108, .aload_n 0, 1), (109, .getfield 36, 3), (112, .dup2, 1), (113, .iaload, 1), (114, .iload 4, 2), (116, .getstatic 112, 3), (119, .iload_n 2, 1), (120, .iaload, 1), (121, .imul, 1), (122, .isub, 1), (123, .iastore, 1), (124, .iload 4, 2), (126, .ireturn, 1), (127, .iload 4, 2), (129, .ifCond .le 18, 3), (132, .aload_n 0, 1), (133, .getfield 42, 3), (136, .getstatic 106, 3), (139, .iload_n 2, 1)] = true := by decide +kernel
theorem dt_X10_stand_2 : k_dec cX10_stand [(140, .iaload, 1), (141, .dup2, 1), (142, .iaload, 1), (143, .iload 4, 2), (145, .isub, 1), (146, .iastore, 1), (147, .iconst (-1), 1), (148, .ireturn, 1)] = true := by decide +kernel
def f_X10_stand_92 (w : Nat) (l2 : Int32) (l4 : Int32) (M : k_M) : Option (Int32 × k_M) := bd (f_X10_eat w 0 1 M) (fun r1 M2 => if r1 = 0 then if l4 ≤ 0 then some (-1, M2) else rdT 2 l2 (fun v3 => rdI M2 (w + 17) 3 v3 (fun v4 => wrI M2 (w + 17) 3 v3 (v4 - l4) (fun M5 => some (-1, M5)))) else rdI M2 (w + 5) 8 (M2.1 w 4) (fun v6 => rdT 3 l2 (fun v7 => wrI M2 (w + 5) 8 (M2.1 w 4) (v6 - (l4 * v7)) (fun M8 => some (l4, M8)))))
theorem m_X10_stand_92 {Z : k_Z} {G : k_G} {w : Nat} (C : k_C Z G RX10 cX10_stand (true, 5, 2, 0, 0) (some .int) "stand") (hw : isW w) (l2 : Int32) (l4 : Int32) (M : k_M) : Sm Z G emI (true, 5, 2, 0, 0) (0, 0) 92 [(0, k_ra Z w), (2, Value.int l2), (4, Value.int l4)] [] M (f_X10_stand_92 w l2 l4 M) := by
  show Sm Z G emI _ _ _ _ _ _ (bd (f_X10_eat w 0 1 M) (fun r1 M2 => if r1 = 0 then if l4 ≤ 0 then some (-1, M2) else rdT 2 l2 (fun v3 => rdI M2 (w + 17) 3 v3 (fun v4 => wrI M2 (w + 17) 3 v3 (v4 - l4) (fun M5 => some (-1, M5)))) else rdI M2 (w + 5) 8 (M2.1 w 4) (fun v6 => rdT 3 l2 (fun v7 => wrI M2 (w + 5) 8 (M2.1 w 4) (v6 - (l4 * v7)) (fun M8 => some (l4, M8))))))
  refine x_aload_n C (k_dg dt_X10_stand_1 13 92 (.aload_n 0) 1 rfl) 0 rfl ?_
  refine x_iconst C (v := 0) (k_dg dt_X10_stand_1 14 93 (.iconst 0) 1 rfl) (by decide) ?_
  refine x_iconst C (v := 1) (k_dg dt_X10_stand_1 15 94 (.iconst 1) 1 rfl) (by decide) ?_
  refine x_callV C (a := w) (kd := 8) (vs := [Value.int 0, Value.int 1]) (rest := []) rfl (kW 0 hw rfl) (by decide) (fun r hr => by cases hr; rfl) (c_X10_eat C.2.2.2.2.2.2.2.2.2 G.2.1 w 0 1 M hw) cy_X10_eat lk_RX10_131 im_X10_eat se_X10_eat (by decide) (by decide) (by decide) (by decide) rfl rfl (Nat.le_of_ble_eq_true rfl) (k_dg dt_X10_stand_1 16 95 (.invokevirtual 131) 3 rfl) (fun r1 M2 => ?_)
  show Sm Z G _ _ _ _ [(0, k_ra Z w), (2, Value.int l2), (4, Value.int l4)] [Value.int r1] _ _
  refine x_if_eq C (tgt := 127) (k_dg dt_X10_stand_1 17 98 (.ifCond .eq 29) 3 rfl) (by decide) (fun _ => ?_) (fun _ => ?_)
  · refine x_iload C (k_dg dt_X10_stand_1 34 127 (.iload 4) 2 rfl) 2 rfl ?_
    refine x_if_le C (tgt := 147) (k_dg dt_X10_stand_1 35 129 (.ifCond .le 18) 3 rfl) (by decide) (fun _ => ?_) (fun _ => ?_)
    · refine x_iconst C (v := -1) (k_dg dt_X10_stand_2 6 147 (.iconst (-1)) 1 rfl) (by decide) ?_
      exact x_iret C (by decide) (by decide) (k_dg dt_X10_stand_2 7 148 (.ireturn) 1 rfl)
    · refine x_aload_n C (k_dg dt_X10_stand_1 36 132 (.aload_n 0) 1 rfl) 0 rfl ?_
      refine x_getR C (a := w) (j := 6) (w + 17) rfl (kW 0 hw rfl) (by decide) fl_RX10_42 rfl rfl rfl (k_dg dt_X10_stand_1 37 133 (.getfield 42) 3 rfl) ?_
      refine x_gets C (t := 2) (by decide) gs_RX10_106 (k_dg dt_X10_stand_1 38 136 (.getstatic 106) 3 rfl) ?_
      refine x_iload_n C (k_dg dt_X10_stand_1 39 139 (.iload_n 2) 1 rfl) 1 rfl ?_
      refine x_tald C (t := 2) (by decide) (k_dg dt_X10_stand_2 0 140 (.iaload) 1 rfl) (fun v3 => ?_)
      refine x_dup2 C (k_dg dt_X10_stand_2 1 141 (.dup2) 1 rfl) rfl rfl ?_
      refine x_iald C (a := w + 17) (n := 3) rfl (kW 17 hw rfl) (k_dg dt_X10_stand_2 2 142 (.iaload) 1 rfl) (fun v4 => ?_)
      refine x_iload C (k_dg dt_X10_stand_2 3 143 (.iload 4) 2 rfl) 2 rfl ?_
      refine x_isub C (k_dg dt_X10_stand_2 4 145 (.isub) 1 rfl) ?_
      refine x_iast C (a := w + 17) (n := 3) rfl (kW 17 hw rfl) (k_dg dt_X10_stand_2 5 146 (.iastore) 1 rfl) (fun M5 => ?_)
      refine x_iconst C (v := -1) (k_dg dt_X10_stand_2 6 147 (.iconst (-1)) 1 rfl) (by decide) ?_
      exact x_iret C (by decide) (by decide) (k_dg dt_X10_stand_2 7 148 (.ireturn) 1 rfl)
  · refine x_aload_n C (k_dg dt_X10_stand_1 18 101 (.aload_n 0) 1 rfl) 0 rfl ?_
    refine x_getR C (a := w) (j := 0) (w + 1) rfl (kW 0 hw rfl) (by decide) fl_RX10_10 rfl rfl rfl (k_dg dt_X10_stand_1 19 102 (.getfield 10) 3 rfl) ?_
    refine x_getR C (a := w + 1) (j := 4) (w + 5) rfl (kW 1 hw rfl) (by decide) fl_RX10_109 rfl rfl rfl (k_dg dt_X10_stand_1 20 105 (.getfield 109) 3 rfl) ?_
    refine x_aload_n C (k_dg dt_X10_stand_1 21 108 (.aload_n 0) 1 rfl) 0 rfl ?_
    refine x_getI C (a := w) (j := 4) rfl (kW 0 hw rfl) (by decide) fl_RX10_36 rfl (k_dg dt_X10_stand_1 22 109 (.getfield 36) 3 rfl) ?_
    refine x_dup2 C (k_dg dt_X10_stand_1 23 112 (.dup2) 1 rfl) rfl rfl ?_
    refine x_iald C (a := w + 5) (n := 8) rfl (kW 5 hw rfl) (k_dg dt_X10_stand_1 24 113 (.iaload) 1 rfl) (fun v6 => ?_)
    refine x_iload C (k_dg dt_X10_stand_1 25 114 (.iload 4) 2 rfl) 2 rfl ?_
    refine x_gets C (t := 3) (by decide) gs_RX10_112 (k_dg dt_X10_stand_1 26 116 (.getstatic 112) 3 rfl) ?_
    refine x_iload_n C (k_dg dt_X10_stand_1 27 119 (.iload_n 2) 1 rfl) 1 rfl ?_
    refine x_tald C (t := 3) (by decide) (k_dg dt_X10_stand_1 28 120 (.iaload) 1 rfl) (fun v7 => ?_)
    refine x_imul C (k_dg dt_X10_stand_1 29 121 (.imul) 1 rfl) ?_
    refine x_isub C (k_dg dt_X10_stand_1 30 122 (.isub) 1 rfl) ?_
    refine x_iast C (a := w + 5) (n := 8) rfl (kW 5 hw rfl) (k_dg dt_X10_stand_1 31 123 (.iastore) 1 rfl) (fun M8 => ?_)
    refine x_iload C (k_dg dt_X10_stand_1 32 124 (.iload 4) 2 rfl) 2 rfl ?_
    exact x_iret C (by decide) (by decide) (k_dg dt_X10_stand_1 33 126 (.ireturn) 1 rfl)
def f_X10_stand_61 (w : Nat) (l2 : Int32) (l3 : Int32) (M : k_M) : Option (Int32 × k_M) := bd (f_X10_taking w (M.1 w 4) l3 M) (fun r1 M2 => if r1 ≤ 0 then f_X10_stand_92 w l2 r1 M2 else rdT 2 l2 (fun v3 => rdI M2 (w + 17) 3 v3 (fun v4 => wrI M2 (w + 17) 3 v3 (v4 + r1) (fun M5 => f_X10_stand_92 w l2 r1 M5))))
theorem m_X10_stand_61 {Z : k_Z} {G : k_G} {w : Nat} (C : k_C Z G RX10 cX10_stand (true, 5, 2, 0, 0) (some .int) "stand") (hw : isW w) (l2 : Int32) (l3 : Int32) (M : k_M) : Sm Z G emI (true, 5, 2, 0, 0) (0, 0) 61 [(0, k_ra Z w), (2, Value.int l2), (3, Value.int l3)] [] M (f_X10_stand_61 w l2 l3 M) := by
  show Sm Z G emI _ _ _ _ _ _ (bd (f_X10_taking w (M.1 w 4) l3 M) (fun r1 M2 => if r1 ≤ 0 then f_X10_stand_92 w l2 r1 M2 else rdT 2 l2 (fun v3 => rdI M2 (w + 17) 3 v3 (fun v4 => wrI M2 (w + 17) 3 v3 (v4 + r1) (fun M5 => f_X10_stand_92 w l2 r1 M5)))))
  refine x_aload_n C (k_dg dt_X10_stand_0 35 61 (.aload_n 0) 1 rfl) 0 rfl ?_
  refine x_aload_n C (k_dg dt_X10_stand_0 36 62 (.aload_n 0) 1 rfl) 0 rfl ?_
  refine x_getI C (a := w) (j := 4) rfl (kW 0 hw rfl) (by decide) fl_RX10_36 rfl (k_dg dt_X10_stand_0 37 63 (.getfield 36) 3 rfl) ?_
  refine x_iload_n C (k_dg dt_X10_stand_0 38 66 (.iload_n 3) 1 rfl) 2 rfl ?_
  refine x_callV C (a := w) (kd := 8) (vs := [Value.int (M.1 w 4), Value.int l3]) (rest := []) rfl (kW 0 hw rfl) (by decide) (fun r hr => by cases hr; rfl) (c_X10_taking C.2.2.2.2.2.2.2.2.2 G.2.1 w (M.1 w 4) l3 M hw) cy_X10_taking lk_RX10_128 im_X10_taking se_X10_taking (by decide) (by decide) (by decide) (by decide) rfl rfl (Nat.le_of_ble_eq_true rfl) (k_dg dt_X10_stand_0 39 67 (.invokevirtual 128) 3 rfl) (fun r1 M2 => ?_)
  show Sm Z G _ _ _ _ [(0, k_ra Z w), (2, Value.int l2), (3, Value.int l3)] [Value.int r1] _ _
  refine x_istore C (lv' := [(4, Value.int r1), (0, k_ra Z w), (2, Value.int l2), (3, Value.int l3)]) (k_dg dt_X10_stand_1 0 70 (.istore 4) 2 rfl) (by decide) rfl ?_
  refine x_iload C (k_dg dt_X10_stand_1 1 72 (.iload 4) 2 rfl) 0 rfl ?_
  refine x_if_le C (tgt := 92) (k_dg dt_X10_stand_1 2 74 (.ifCond .le 18) 3 rfl) (by decide) (fun _ => ?_) (fun _ => ?_)
  · refine x_lv [1, 2, 0] rfl ?_
    exact m_X10_stand_92 C hw l2 r1 M2
  · refine x_aload_n C (k_dg dt_X10_stand_1 3 77 (.aload_n 0) 1 rfl) 1 rfl ?_
    refine x_getR C (a := w) (j := 6) (w + 17) rfl (kW 0 hw rfl) (by decide) fl_RX10_42 rfl rfl rfl (k_dg dt_X10_stand_1 4 78 (.getfield 42) 3 rfl) ?_
    refine x_gets C (t := 2) (by decide) gs_RX10_106 (k_dg dt_X10_stand_1 5 81 (.getstatic 106) 3 rfl) ?_
    refine x_iload_n C (k_dg dt_X10_stand_1 6 84 (.iload_n 2) 1 rfl) 2 rfl ?_
    refine x_tald C (t := 2) (by decide) (k_dg dt_X10_stand_1 7 85 (.iaload) 1 rfl) (fun v3 => ?_)
    refine x_dup2 C (k_dg dt_X10_stand_1 8 86 (.dup2) 1 rfl) rfl rfl ?_
    refine x_iald C (a := w + 17) (n := 3) rfl (kW 17 hw rfl) (k_dg dt_X10_stand_1 9 87 (.iaload) 1 rfl) (fun v4 => ?_)
    refine x_iload C (k_dg dt_X10_stand_1 10 88 (.iload 4) 2 rfl) 0 rfl ?_
    refine x_iadd C (k_dg dt_X10_stand_1 11 90 (.iadd) 1 rfl) ?_
    refine x_iast C (a := w + 17) (n := 3) rfl (kW 17 hw rfl) (k_dg dt_X10_stand_1 12 91 (.iastore) 1 rfl) (fun M5 => ?_)
    refine x_lv [1, 2, 0] rfl ?_
    exact m_X10_stand_92 C hw l2 r1 M5
def f_X10_stand_40 (w : Nat) (l2 : Int32) (l3 : Int32) (M : k_M) : Option (Int32 × k_M) := if l2 = 4 then bd (f_X10_monthOf (M.1 w 5) M) (fun r1 M2 => if (r1 - r1 / 2 * 2) = 0 then bN (l3 * 2) (fun v3 => f_X10_stand_61 w l2 v3 M2) else f_X10_stand_61 w l2 l3 M2) else f_X10_stand_61 w l2 l3 M
theorem m_X10_stand_40 {Z : k_Z} {G : k_G} {w : Nat} (C : k_C Z G RX10 cX10_stand (true, 5, 2, 0, 0) (some .int) "stand") (hw : isW w) (l2 : Int32) (l3 : Int32) (M : k_M) : Sm Z G emI (true, 5, 2, 0, 0) (0, 0) 40 [(0, k_ra Z w), (2, Value.int l2), (3, Value.int l3)] [] M (f_X10_stand_40 w l2 l3 M) := by
  show Sm Z G emI _ _ _ _ _ _ (if l2 = 4 then bd (f_X10_monthOf (M.1 w 5) M) (fun r1 M2 => if (r1 - r1 / 2 * 2) = 0 then bN (l3 * 2) (fun v3 => f_X10_stand_61 w l2 v3 M2) else f_X10_stand_61 w l2 l3 M2) else f_X10_stand_61 w l2 l3 M)
  refine x_iload_n C (k_dg dt_X10_stand_0 22 40 (.iload_n 2) 1 rfl) 1 rfl ?_
  refine x_iconst C (v := 4) (k_dg dt_X10_stand_0 23 41 (.iconst 4) 1 rfl) (by decide) ?_
  refine x_icmp_ne C (tgt := 61) (k_dg dt_X10_stand_0 24 42 (.if_icmp .ne 19) 3 rfl) (by decide) (fun _ => ?_) (fun _ => ?_)
  · refine x_aload_n C (k_dg dt_X10_stand_0 25 45 (.aload_n 0) 1 rfl) 0 rfl ?_
    refine x_getI C (a := w) (j := 5) rfl (kW 0 hw rfl) (by decide) fl_RX10_39 rfl (k_dg dt_X10_stand_0 26 46 (.getfield 39) 3 rfl) ?_
    refine x_callS C (vs := [Value.int (M.1 w 5)]) (rest := []) (c_X10_monthOf C.2.2.2.2.2.2.2.2.2 G.2.1 (M.1 w 5) M) cy_X10_monthOf lk_RX10_125 stt_X10_monthOf (by decide) (by decide) (by decide) (by decide) rfl rfl (Nat.le_of_ble_eq_true rfl) (k_dg dt_X10_stand_0 27 49 (.invokestatic 125) 3 rfl) (fun r1 M2 => ?_)
    show Sm Z G _ _ _ _ [(0, k_ra Z w), (2, Value.int l2), (3, Value.int l3)] [Value.int r1] _ _
    refine x_iconst C (v := 2) (k_dg dt_X10_stand_0 28 52 (.iconst 2) 1 rfl) (by decide) ?_
    refine x_iremC C (k_dg dt_X10_stand_0 29 53 (.irem) 1 rfl) (by decide) ?_
    refine x_if_ne C (tgt := 61) (k_dg dt_X10_stand_0 30 54 (.ifCond .ne 7) 3 rfl) (by decide) (fun _ => ?_) (fun _ => ?_)
    · refine x_iload_n C (k_dg dt_X10_stand_0 31 57 (.iload_n 3) 1 rfl) 2 rfl ?_
      refine x_iconst C (v := 2) (k_dg dt_X10_stand_0 32 58 (.iconst 2) 1 rfl) (by decide) ?_
      refine x_imul C (k_dg dt_X10_stand_0 33 59 (.imul) 1 rfl) ?_
      refine x_nm (w := Value.int) (fun v3 _ => ?_)
      refine x_istore_n C (lv' := [(3, Value.int v3), (0, k_ra Z w), (2, Value.int l2)]) (k_dg dt_X10_stand_0 34 60 (.istore_n 3) 1 rfl) (by decide) rfl ?_
      refine x_lv [1, 2, 0] rfl ?_
      exact m_X10_stand_61 C hw l2 v3 M2
    · exact m_X10_stand_61 C hw l2 l3 M2
  · exact m_X10_stand_61 C hw l2 l3 M
def f_X10_stand (w : Nat) (p1 : Int32) (M : k_M) : Option (Int32 × k_M) := rdI M (w + 2) 8 (M.1 w 4) (fun v1 => rdI M (w + 3) 8 (M.1 w 4) (fun v2 => if v1 = 3 then if p1 = 0 then f_X10_stand_61 w v1 0 M else f_X10_stand_40 w v1 v2 M else f_X10_stand_40 w v1 v2 M))
theorem m_X10_stand_0 {Z : k_Z} {G : k_G} {w : Nat} (C : k_C Z G RX10 cX10_stand (true, 5, 2, 0, 0) (some .int) "stand") (hw : isW w) (p1 : Int32) (M : k_M) : Sm Z G emI (true, 5, 2, 0, 0) (0, 0) 0 [(0, k_ra Z w), (1, Value.int p1)] [] M (f_X10_stand w p1 M) := by
  show Sm Z G emI _ _ _ _ _ _ (rdI M (w + 2) 8 (M.1 w 4) (fun v1 => rdI M (w + 3) 8 (M.1 w 4) (fun v2 => if v1 = 3 then if p1 = 0 then f_X10_stand_61 w v1 0 M else f_X10_stand_40 w v1 v2 M else f_X10_stand_40 w v1 v2 M)))
  refine x_aload_n C (k_dg dt_X10_stand_0 0 0 (.aload_n 0) 1 rfl) 0 rfl ?_
  refine x_getR C (a := w) (j := 0) (w + 1) rfl (kW 0 hw rfl) (by decide) fl_RX10_10 rfl rfl rfl (k_dg dt_X10_stand_0 1 1 (.getfield 10) 3 rfl) ?_
  refine x_getR C (a := w + 1) (j := 1) (w + 2) rfl (kW 1 hw rfl) (by decide) fl_RX10_77 rfl rfl rfl (k_dg dt_X10_stand_0 2 4 (.getfield 77) 3 rfl) ?_
  refine x_aload_n C (k_dg dt_X10_stand_0 3 7 (.aload_n 0) 1 rfl) 0 rfl ?_
  refine x_getI C (a := w) (j := 4) rfl (kW 0 hw rfl) (by decide) fl_RX10_36 rfl (k_dg dt_X10_stand_0 4 8 (.getfield 36) 3 rfl) ?_
  refine x_iald C (a := w + 2) (n := 8) rfl (kW 2 hw rfl) (k_dg dt_X10_stand_0 5 11 (.iaload) 1 rfl) (fun v1 => ?_)
  refine x_istore_n C (lv' := [(2, Value.int v1), (0, k_ra Z w), (1, Value.int p1)]) (k_dg dt_X10_stand_0 6 12 (.istore_n 2) 1 rfl) (by decide) rfl ?_
  refine x_aload_n C (k_dg dt_X10_stand_0 7 13 (.aload_n 0) 1 rfl) 1 rfl ?_
  refine x_getR C (a := w) (j := 0) (w + 1) rfl (kW 0 hw rfl) (by decide) fl_RX10_10 rfl rfl rfl (k_dg dt_X10_stand_0 8 14 (.getfield 10) 3 rfl) ?_
  refine x_getR C (a := w + 1) (j := 2) (w + 3) rfl (kW 1 hw rfl) (by decide) fl_RX10_122 rfl rfl rfl (k_dg dt_X10_stand_0 9 17 (.getfield 122) 3 rfl) ?_
  refine x_aload_n C (k_dg dt_X10_stand_0 10 20 (.aload_n 0) 1 rfl) 1 rfl ?_
  refine x_getI C (a := w) (j := 4) rfl (kW 0 hw rfl) (by decide) fl_RX10_36 rfl (k_dg dt_X10_stand_0 11 21 (.getfield 36) 3 rfl) ?_
  refine x_iald C (a := w + 3) (n := 8) rfl (kW 3 hw rfl) (k_dg dt_X10_stand_0 12 24 (.iaload) 1 rfl) (fun v2 => ?_)
  refine x_istore_n C (lv' := [(3, Value.int v2), (2, Value.int v1), (0, k_ra Z w), (1, Value.int p1)]) (k_dg dt_X10_stand_0 13 25 (.istore_n 3) 1 rfl) (by decide) rfl ?_
  refine x_iload_n C (k_dg dt_X10_stand_0 14 26 (.iload_n 2) 1 rfl) 1 rfl ?_
  refine x_iconst C (v := 3) (k_dg dt_X10_stand_0 15 27 (.iconst 3) 1 rfl) (by decide) ?_
  refine x_icmp_ne C (tgt := 40) (k_dg dt_X10_stand_0 16 28 (.if_icmp .ne 12) 3 rfl) (by decide) (fun _ => ?_) (fun _ => ?_)
  · refine x_iload_n C (k_dg dt_X10_stand_0 17 31 (.iload_n 1) 1 rfl) 3 rfl ?_
    refine x_if_ne C (tgt := 40) (k_dg dt_X10_stand_0 18 32 (.ifCond .ne 8) 3 rfl) (by decide) (fun _ => ?_) (fun _ => ?_)
    · refine x_iconst C (v := 0) (k_dg dt_X10_stand_0 19 35 (.iconst 0) 1 rfl) (by decide) ?_
      refine x_istore_n C (lv' := [(3, Value.int 0), (2, Value.int v1), (0, k_ra Z w), (1, Value.int p1)]) (k_dg dt_X10_stand_0 20 36 (.istore_n 3) 1 rfl) (by decide) rfl ?_
      refine x_goto C (tgt := 61) (k_dg dt_X10_stand_0 21 37 (.goto 24) 3 rfl) (by decide) ?_
      refine x_lv [2, 1, 0] rfl ?_
      exact m_X10_stand_61 C hw v1 0 M
    · refine x_lv [2, 1, 0] rfl ?_
      exact m_X10_stand_40 C hw v1 v2 M
  · refine x_lv [2, 1, 0] rfl ?_
    exact m_X10_stand_40 C hw v1 v2 M
theorem c_X10_stand {Z : k_Z} (hg : k_Gd Z) (l : Launch) (w : Nat) (p1 : Int32) (M : k_M) (hw : isW w) : Con true Z l yX10_stand cX10_stand 5 (some .int) 2 0 0 emI [k_ra Z w, Value.int p1] M (f_X10_stand w p1 M) := k_con hg (by decide) (Nat.le_of_ble_eq_true rfl) (fun G hl C => m_X10_stand_0 C hw p1 M)
theorem dt_X10_go_0 : k_dec cX10_go [(0, .aload_n 0, 1), (1, .getfield 10, 3), (4, .getfield 135, 3), (7, .iload_n 1, 1), (8, .iaload, 1), (9, .aload_n 0, 1), (10, .getfield 36, 3), (13, .if_icmp .eq 21, 3), (16, .aload_n 0, 1), (17, .getfield 10, 3), (20, .getfield 138, 3), (23, .iload_n 1, 1), (24, .iaload, 1), (25, .aload_n 0, 1), (26, .getfield 36, 3), (29, .if_icmp .eq 5, 3), (32, .iconst (-1), 1), (33, .ireturn, 1), (34, .aload_n 0, 1), (35, .getfield 10, 3), (38, .getfield 119, 3), (41, .iload_n 1, 1), (42, .iaload, 1), (43, .ifCond .eq 38, 3), (46, .aload_n 0, 1), (47, .getfield 10, 3), (50, .iload_n 1, 1), (51, .aload_n 0, 1), (52, .getfield 39, 3), (55, .invokestatic 125, 3), (58, .invokevirtual 141, 3), (61, .ifCond .eq 20, 3), (64, .aload_n 0, 1), (65, .iconst 3, 1), (66, .aload_n 0, 1), (67, .getfield 10, 3), (70, .getfield 74, 3), (73, .iload_n 1, 1), (74, .iaload, 1), (75, .invokevirtual 131, 3)] = true := by decide +kernel
theorem dt_X10_go_1 : k_dec cX10_go [(78, .ifCond .ne 5, 3), (81, .iconst (-1), 1), (82, .ireturn, 1), (83, .aload_n 0, 1), (84, .aload_n 0, 1), (85, .getfield 10, 3), (88, .iload_n 1, 1), (89, .aload_n 0, 1), (90, .getfield 36, 3), (93, .invokevirtual 115, 3), (96, .putfield 36, 3), (99, .aload_n 0, 1), (100, .getfield 10, 3), (103, .getfield 119, 3), (106, .iload_n 1, 1), (107, .iaload, 1), (108, .bipush 9, 2), (110, .if_icmp .eq 16, 3), (113, .aload_n 0, 1), (114, .getfield 10, 3), (117, .getfield 119, 3), (120, .iload_n 1, 1), (121, .dup2, 1), (122, .iaload, 1), (123, .iconst 1, 1), (124, .isub, 1), (125, .iastore, 1), (126, .iconst 0, 1), (127, .ireturn, 1)] = true := by decide +kernel
def f_X10_go_34 (w : Nat) (l1 : Int32) (M : k_M) : Option (Int32 × k_M) := rdI M (w + 12) 12 l1 (fun v1 => if v1 = 0 then some (-1, M) else bd (f_X10_monthOf (M.1 w 5) M) (fun r2 M3 => bd (f_X3_isOpen w l1 r2 M3) (fun r4 M5 => if r4 = 0 then some (-1, M5) else rdI M5 (w + 10) 12 l1 (fun v6 => bd (f_X10_eat w 3 v6 M5) (fun r7 M8 => if r7 = 0 then some (-1, M8) else bd (f_X3_farEnd w l1 (M8.1 w 4) M8) (fun r9 M10 => bN (sI M10 w 4 r9) (fun M11 => rdI M11 (w + 12) 12 l1 (fun v12 => if v12 = 9 then some (0, M11) else rdI M11 (w + 12) 12 l1 (fun v13 => wrI M11 (w + 12) 12 l1 (v13 - 1) (fun M14 => some (0, M14)))))))))))
theorem m_X10_go_34 {Z : k_Z} {G : k_G} {w : Nat} (C : k_C Z G RX10 cX10_go (true, 2, 2, 0, 0) (some .int) "go") (hw : isW w) (l1 : Int32) (M : k_M) : Sm Z G emI (true, 2, 2, 0, 0) (0, 0) 34 [(0, k_ra Z w), (1, Value.int l1)] [] M (f_X10_go_34 w l1 M) := by
  show Sm Z G emI _ _ _ _ _ _ (rdI M (w + 12) 12 l1 (fun v1 => if v1 = 0 then some (-1, M) else bd (f_X10_monthOf (M.1 w 5) M) (fun r2 M3 => bd (f_X3_isOpen w l1 r2 M3) (fun r4 M5 => if r4 = 0 then some (-1, M5) else rdI M5 (w + 10) 12 l1 (fun v6 => bd (f_X10_eat w 3 v6 M5) (fun r7 M8 => if r7 = 0 then some (-1, M8) else bd (f_X3_farEnd w l1 (M8.1 w 4) M8) (fun r9 M10 => bN (sI M10 w 4 r9) (fun M11 => rdI M11 (w + 12) 12 l1 (fun v12 => if v12 = 9 then some (0, M11) else rdI M11 (w + 12) 12 l1 (fun v13 => wrI M11 (w + 12) 12 l1 (v13 - 1) (fun M14 => some (0, M14))))))))))))
  refine x_aload_n C (k_dg dt_X10_go_0 18 34 (.aload_n 0) 1 rfl) 0 rfl ?_
  refine x_getR C (a := w) (j := 0) (w + 1) rfl (kW 0 hw rfl) (by decide) fl_RX10_10 rfl rfl rfl (k_dg dt_X10_go_0 19 35 (.getfield 10) 3 rfl) ?_
  refine x_getR C (a := w + 1) (j := 12) (w + 12) rfl (kW 1 hw rfl) (by decide) fl_RX10_119 rfl rfl rfl (k_dg dt_X10_go_0 20 38 (.getfield 119) 3 rfl) ?_
  refine x_iload_n C (k_dg dt_X10_go_0 21 41 (.iload_n 1) 1 rfl) 1 rfl ?_
  refine x_iald C (a := w + 12) (n := 12) rfl (kW 12 hw rfl) (k_dg dt_X10_go_0 22 42 (.iaload) 1 rfl) (fun v1 => ?_)
  refine x_if_eq C (tgt := 81) (k_dg dt_X10_go_0 23 43 (.ifCond .eq 38) 3 rfl) (by decide) (fun _ => ?_) (fun _ => ?_)
  · refine x_iconst C (v := -1) (k_dg dt_X10_go_1 1 81 (.iconst (-1)) 1 rfl) (by decide) ?_
    exact x_iret C (by decide) (by decide) (k_dg dt_X10_go_1 2 82 (.ireturn) 1 rfl)
  · refine x_aload_n C (k_dg dt_X10_go_0 24 46 (.aload_n 0) 1 rfl) 0 rfl ?_
    refine x_getR C (a := w) (j := 0) (w + 1) rfl (kW 0 hw rfl) (by decide) fl_RX10_10 rfl rfl rfl (k_dg dt_X10_go_0 25 47 (.getfield 10) 3 rfl) ?_
    refine x_iload_n C (k_dg dt_X10_go_0 26 50 (.iload_n 1) 1 rfl) 1 rfl ?_
    refine x_aload_n C (k_dg dt_X10_go_0 27 51 (.aload_n 0) 1 rfl) 0 rfl ?_
    refine x_getI C (a := w) (j := 5) rfl (kW 0 hw rfl) (by decide) fl_RX10_39 rfl (k_dg dt_X10_go_0 28 52 (.getfield 39) 3 rfl) ?_
    refine x_callS C (vs := [Value.int (M.1 w 5)]) (rest := [Value.int l1, k_ra Z (w + 1)]) (c_X10_monthOf C.2.2.2.2.2.2.2.2.2 G.2.1 (M.1 w 5) M) cy_X10_monthOf lk_RX10_125 stt_X10_monthOf (by decide) (by decide) (by decide) (by decide) rfl rfl (Nat.le_of_ble_eq_true rfl) (k_dg dt_X10_go_0 29 55 (.invokestatic 125) 3 rfl) (fun r2 M3 => ?_)
    show Sm Z G _ _ _ _ [(0, k_ra Z w), (1, Value.int l1)] [Value.int r2, Value.int l1, k_ra Z (w + 1)] _ _
    refine x_callV C (a := w + 1) (kd := 2) (vs := [Value.int l1, Value.int r2]) (rest := []) rfl (kW 1 hw rfl) (by decide) (fun r hr => by cases hr; rfl) (c_X3_isOpen C.2.2.2.2.2.2.2.2.2 G.2.1 w l1 r2 M3 hw) cy_X3_isOpen lk_RX10_141 im_X3_isOpen se_X3_isOpen (by decide) (by decide) (by decide) (by decide) rfl rfl (Nat.le_of_ble_eq_true rfl) (k_dg dt_X10_go_0 30 58 (.invokevirtual 141) 3 rfl) (fun r4 M5 => ?_)
    show Sm Z G _ _ _ _ [(0, k_ra Z w), (1, Value.int l1)] [Value.int r4] _ _
    refine x_if_eq C (tgt := 81) (k_dg dt_X10_go_0 31 61 (.ifCond .eq 20) 3 rfl) (by decide) (fun _ => ?_) (fun _ => ?_)
    · refine x_iconst C (v := -1) (k_dg dt_X10_go_1 1 81 (.iconst (-1)) 1 rfl) (by decide) ?_
      exact x_iret C (by decide) (by decide) (k_dg dt_X10_go_1 2 82 (.ireturn) 1 rfl)
    · refine x_aload_n C (k_dg dt_X10_go_0 32 64 (.aload_n 0) 1 rfl) 0 rfl ?_
      refine x_iconst C (v := 3) (k_dg dt_X10_go_0 33 65 (.iconst 3) 1 rfl) (by decide) ?_
      refine x_aload_n C (k_dg dt_X10_go_0 34 66 (.aload_n 0) 1 rfl) 0 rfl ?_
      refine x_getR C (a := w) (j := 0) (w + 1) rfl (kW 0 hw rfl) (by decide) fl_RX10_10 rfl rfl rfl (k_dg dt_X10_go_0 35 67 (.getfield 10) 3 rfl) ?_
      refine x_getR C (a := w + 1) (j := 10) (w + 10) rfl (kW 1 hw rfl) (by decide) fl_RX10_74 rfl rfl rfl (k_dg dt_X10_go_0 36 70 (.getfield 74) 3 rfl) ?_
      refine x_iload_n C (k_dg dt_X10_go_0 37 73 (.iload_n 1) 1 rfl) 1 rfl ?_
      refine x_iald C (a := w + 10) (n := 12) rfl (kW 10 hw rfl) (k_dg dt_X10_go_0 38 74 (.iaload) 1 rfl) (fun v6 => ?_)
      refine x_callV C (a := w) (kd := 8) (vs := [Value.int 3, Value.int v6]) (rest := []) rfl (kW 0 hw rfl) (by decide) (fun r hr => by cases hr; rfl) (c_X10_eat C.2.2.2.2.2.2.2.2.2 G.2.1 w 3 v6 M5 hw) cy_X10_eat lk_RX10_131 im_X10_eat se_X10_eat (by decide) (by decide) (by decide) (by decide) rfl rfl (Nat.le_of_ble_eq_true rfl) (k_dg dt_X10_go_0 39 75 (.invokevirtual 131) 3 rfl) (fun r7 M8 => ?_)
      show Sm Z G _ _ _ _ [(0, k_ra Z w), (1, Value.int l1)] [Value.int r7] _ _
      refine x_if_ne C (tgt := 83) (k_dg dt_X10_go_1 0 78 (.ifCond .ne 5) 3 rfl) (by decide) (fun _ => ?_) (fun _ => ?_)
      · refine x_iconst C (v := -1) (k_dg dt_X10_go_1 1 81 (.iconst (-1)) 1 rfl) (by decide) ?_
        exact x_iret C (by decide) (by decide) (k_dg dt_X10_go_1 2 82 (.ireturn) 1 rfl)
      · refine x_aload_n C (k_dg dt_X10_go_1 3 83 (.aload_n 0) 1 rfl) 0 rfl ?_
        refine x_aload_n C (k_dg dt_X10_go_1 4 84 (.aload_n 0) 1 rfl) 0 rfl ?_
        refine x_getR C (a := w) (j := 0) (w + 1) rfl (kW 0 hw rfl) (by decide) fl_RX10_10 rfl rfl rfl (k_dg dt_X10_go_1 5 85 (.getfield 10) 3 rfl) ?_
        refine x_iload_n C (k_dg dt_X10_go_1 6 88 (.iload_n 1) 1 rfl) 1 rfl ?_
        refine x_aload_n C (k_dg dt_X10_go_1 7 89 (.aload_n 0) 1 rfl) 0 rfl ?_
        refine x_getI C (a := w) (j := 4) rfl (kW 0 hw rfl) (by decide) fl_RX10_36 rfl (k_dg dt_X10_go_1 8 90 (.getfield 36) 3 rfl) ?_
        refine x_callV C (a := w + 1) (kd := 2) (vs := [Value.int l1, Value.int (M8.1 w 4)]) (rest := [k_ra Z w]) rfl (kW 1 hw rfl) (by decide) (fun r hr => by cases hr; rfl) (c_X3_farEnd C.2.2.2.2.2.2.2.2.2 G.2.1 w l1 (M8.1 w 4) M8 hw) cy_X3_farEnd lk_RX10_115 im_X3_farEnd se_X3_farEnd (by decide) (by decide) (by decide) (by decide) rfl rfl (Nat.le_of_ble_eq_true rfl) (k_dg dt_X10_go_1 9 93 (.invokevirtual 115) 3 rfl) (fun r9 M10 => ?_)
        show Sm Z G _ _ _ _ [(0, k_ra Z w), (1, Value.int l1)] [Value.int r9, k_ra Z w] _ _
        refine x_putI C (a := w) (j := 4) rfl (kW 0 hw rfl) (by decide) fl_RX10_36 rfl pt_8_4 tb_8 rfl rfl (k_dg dt_X10_go_1 10 96 (.putfield 36) 3 rfl) (fun M11 => ?_)
        refine x_aload_n C (k_dg dt_X10_go_1 11 99 (.aload_n 0) 1 rfl) 0 rfl ?_
        refine x_getR C (a := w) (j := 0) (w + 1) rfl (kW 0 hw rfl) (by decide) fl_RX10_10 rfl rfl rfl (k_dg dt_X10_go_1 12 100 (.getfield 10) 3 rfl) ?_
        refine x_getR C (a := w + 1) (j := 12) (w + 12) rfl (kW 1 hw rfl) (by decide) fl_RX10_119 rfl rfl rfl (k_dg dt_X10_go_1 13 103 (.getfield 119) 3 rfl) ?_
        refine x_iload_n C (k_dg dt_X10_go_1 14 106 (.iload_n 1) 1 rfl) 1 rfl ?_
        refine x_iald C (a := w + 12) (n := 12) rfl (kW 12 hw rfl) (k_dg dt_X10_go_1 15 107 (.iaload) 1 rfl) (fun v12 => ?_)
        refine x_bipush C (v := 9) (k_dg dt_X10_go_1 16 108 (.bipush 9) 2 rfl) (by decide) ?_
        refine x_icmp_eq C (tgt := 126) (k_dg dt_X10_go_1 17 110 (.if_icmp .eq 16) 3 rfl) (by decide) (fun _ => ?_) (fun _ => ?_)
        · refine x_iconst C (v := 0) (k_dg dt_X10_go_1 27 126 (.iconst 0) 1 rfl) (by decide) ?_
          exact x_iret C (by decide) (by decide) (k_dg dt_X10_go_1 28 127 (.ireturn) 1 rfl)
        · refine x_aload_n C (k_dg dt_X10_go_1 18 113 (.aload_n 0) 1 rfl) 0 rfl ?_
          refine x_getR C (a := w) (j := 0) (w + 1) rfl (kW 0 hw rfl) (by decide) fl_RX10_10 rfl rfl rfl (k_dg dt_X10_go_1 19 114 (.getfield 10) 3 rfl) ?_
          refine x_getR C (a := w + 1) (j := 12) (w + 12) rfl (kW 1 hw rfl) (by decide) fl_RX10_119 rfl rfl rfl (k_dg dt_X10_go_1 20 117 (.getfield 119) 3 rfl) ?_
          refine x_iload_n C (k_dg dt_X10_go_1 21 120 (.iload_n 1) 1 rfl) 1 rfl ?_
          refine x_dup2 C (k_dg dt_X10_go_1 22 121 (.dup2) 1 rfl) rfl rfl ?_
          refine x_iald C (a := w + 12) (n := 12) rfl (kW 12 hw rfl) (k_dg dt_X10_go_1 23 122 (.iaload) 1 rfl) (fun v13 => ?_)
          refine x_iconst C (v := 1) (k_dg dt_X10_go_1 24 123 (.iconst 1) 1 rfl) (by decide) ?_
          refine x_isub C (k_dg dt_X10_go_1 25 124 (.isub) 1 rfl) ?_
          refine x_iast C (a := w + 12) (n := 12) rfl (kW 12 hw rfl) (k_dg dt_X10_go_1 26 125 (.iastore) 1 rfl) (fun M14 => ?_)
          refine x_iconst C (v := 0) (k_dg dt_X10_go_1 27 126 (.iconst 0) 1 rfl) (by decide) ?_
          exact x_iret C (by decide) (by decide) (k_dg dt_X10_go_1 28 127 (.ireturn) 1 rfl)
def f_X10_go (w : Nat) (p1 : Int32) (M : k_M) : Option (Int32 × k_M) := rdI M (w + 8) 12 p1 (fun v1 => if v1 = (M.1 w 4) then f_X10_go_34 w p1 M else rdI M (w + 9) 12 p1 (fun v2 => if v2 = (M.1 w 4) then f_X10_go_34 w p1 M else some (-1, M)))
theorem m_X10_go_0 {Z : k_Z} {G : k_G} {w : Nat} (C : k_C Z G RX10 cX10_go (true, 2, 2, 0, 0) (some .int) "go") (hw : isW w) (p1 : Int32) (M : k_M) : Sm Z G emI (true, 2, 2, 0, 0) (0, 0) 0 [(0, k_ra Z w), (1, Value.int p1)] [] M (f_X10_go w p1 M) := by
  show Sm Z G emI _ _ _ _ _ _ (rdI M (w + 8) 12 p1 (fun v1 => if v1 = (M.1 w 4) then f_X10_go_34 w p1 M else rdI M (w + 9) 12 p1 (fun v2 => if v2 = (M.1 w 4) then f_X10_go_34 w p1 M else some (-1, M))))
  refine x_aload_n C (k_dg dt_X10_go_0 0 0 (.aload_n 0) 1 rfl) 0 rfl ?_
  refine x_getR C (a := w) (j := 0) (w + 1) rfl (kW 0 hw rfl) (by decide) fl_RX10_10 rfl rfl rfl (k_dg dt_X10_go_0 1 1 (.getfield 10) 3 rfl) ?_
  refine x_getR C (a := w + 1) (j := 8) (w + 8) rfl (kW 1 hw rfl) (by decide) fl_RX10_135 rfl rfl rfl (k_dg dt_X10_go_0 2 4 (.getfield 135) 3 rfl) ?_
  refine x_iload_n C (k_dg dt_X10_go_0 3 7 (.iload_n 1) 1 rfl) 1 rfl ?_
  refine x_iald C (a := w + 8) (n := 12) rfl (kW 8 hw rfl) (k_dg dt_X10_go_0 4 8 (.iaload) 1 rfl) (fun v1 => ?_)
  refine x_aload_n C (k_dg dt_X10_go_0 5 9 (.aload_n 0) 1 rfl) 0 rfl ?_
  refine x_getI C (a := w) (j := 4) rfl (kW 0 hw rfl) (by decide) fl_RX10_36 rfl (k_dg dt_X10_go_0 6 10 (.getfield 36) 3 rfl) ?_
  refine x_icmp_eq C (tgt := 34) (k_dg dt_X10_go_0 7 13 (.if_icmp .eq 21) 3 rfl) (by decide) (fun _ => ?_) (fun _ => ?_)
  · exact m_X10_go_34 C hw p1 M
  · refine x_aload_n C (k_dg dt_X10_go_0 8 16 (.aload_n 0) 1 rfl) 0 rfl ?_
    refine x_getR C (a := w) (j := 0) (w + 1) rfl (kW 0 hw rfl) (by decide) fl_RX10_10 rfl rfl rfl (k_dg dt_X10_go_0 9 17 (.getfield 10) 3 rfl) ?_
    refine x_getR C (a := w + 1) (j := 9) (w + 9) rfl (kW 1 hw rfl) (by decide) fl_RX10_138 rfl rfl rfl (k_dg dt_X10_go_0 10 20 (.getfield 138) 3 rfl) ?_
    refine x_iload_n C (k_dg dt_X10_go_0 11 23 (.iload_n 1) 1 rfl) 1 rfl ?_
    refine x_iald C (a := w + 9) (n := 12) rfl (kW 9 hw rfl) (k_dg dt_X10_go_0 12 24 (.iaload) 1 rfl) (fun v2 => ?_)
    refine x_aload_n C (k_dg dt_X10_go_0 13 25 (.aload_n 0) 1 rfl) 0 rfl ?_
    refine x_getI C (a := w) (j := 4) rfl (kW 0 hw rfl) (by decide) fl_RX10_36 rfl (k_dg dt_X10_go_0 14 26 (.getfield 36) 3 rfl) ?_
    refine x_icmp_eq C (tgt := 34) (k_dg dt_X10_go_0 15 29 (.if_icmp .eq 5) 3 rfl) (by decide) (fun _ => ?_) (fun _ => ?_)
    · exact m_X10_go_34 C hw p1 M
    · refine x_iconst C (v := -1) (k_dg dt_X10_go_0 16 32 (.iconst (-1)) 1 rfl) (by decide) ?_
      exact x_iret C (by decide) (by decide) (k_dg dt_X10_go_0 17 33 (.ireturn) 1 rfl)
theorem c_X10_go {Z : k_Z} (hg : k_Gd Z) (l : Launch) (w : Nat) (p1 : Int32) (M : k_M) (hw : isW w) : Con true Z l yX10_go cX10_go 2 (some .int) 2 0 0 emI [k_ra Z w, Value.int p1] M (f_X10_go w p1 M) := k_con hg (by decide) (Nat.le_of_ble_eq_true rfl) (fun G hl C => m_X10_go_0 C hw p1 M)
theorem dt_X10_attempt_0 : k_dec cX10_attempt [(0, .iload_n 1, 1), (1, .ifCond .ne 12, 3), (4, .aload_n 0, 1), (5, .aload_n 0, 1), (6, .invokevirtual 88, 3), (9, .invokevirtual 92, 3), (12, .ireturn, 1), (13, .aload_n 0, 1), (14, .getfield 10, 3), (17, .iload_n 1, 1), (18, .iconst 1, 1), (19, .isub, 1), (20, .invokevirtual 96, 3), (23, .ifCond .eq 13, 3), (26, .aload_n 0, 1), (27, .iload_n 1, 1), (28, .iconst 1, 1), (29, .isub, 1), (30, .invokevirtual 100, 3), (33, .goto 4, 3), (36, .iconst (-1), 1), (37, .ireturn, 1)] = true := by decide +kernel
def f_X10_attempt (w : Nat) (p1 : Int32) (M : k_M) : Option (Int32 × k_M) := if p1 = 0 then bd (f_X10_rains w M) (fun r5 M6 => bd (f_X10_stand w r5 M6) (fun r7 M8 => some (r7, M8))) else bd (f_X3_hasWay w (p1 - 1) M) (fun r1 M2 => if r1 = 0 then some (-1, M2) else bd (f_X10_go w (p1 - 1) M2) (fun r3 M4 => some (r3, M4)))
theorem m_X10_attempt_0 {Z : k_Z} {G : k_G} {w : Nat} (C : k_C Z G RX10 cX10_attempt (true, 2, 3, 0, 0) (some .int) "attempt") (hw : isW w) (p1 : Int32) (M : k_M) : Sm Z G emI (true, 2, 3, 0, 0) (0, 0) 0 [(0, k_ra Z w), (1, Value.int p1)] [] M (f_X10_attempt w p1 M) := by
  show Sm Z G emI _ _ _ _ _ _ (if p1 = 0 then bd (f_X10_rains w M) (fun r5 M6 => bd (f_X10_stand w r5 M6) (fun r7 M8 => some (r7, M8))) else bd (f_X3_hasWay w (p1 - 1) M) (fun r1 M2 => if r1 = 0 then some (-1, M2) else bd (f_X10_go w (p1 - 1) M2) (fun r3 M4 => some (r3, M4))))
  refine x_iload_n C (k_dg dt_X10_attempt_0 0 0 (.iload_n 1) 1 rfl) 1 rfl ?_
  refine x_if_ne C (tgt := 13) (k_dg dt_X10_attempt_0 1 1 (.ifCond .ne 12) 3 rfl) (by decide) (fun _ => ?_) (fun _ => ?_)
  · refine x_aload_n C (k_dg dt_X10_attempt_0 2 4 (.aload_n 0) 1 rfl) 0 rfl ?_
    refine x_aload_n C (k_dg dt_X10_attempt_0 3 5 (.aload_n 0) 1 rfl) 0 rfl ?_
    refine x_callV C (a := w) (kd := 8) (vs := []) (rest := [k_ra Z w]) rfl (kW 0 hw rfl) (by decide) (fun r hr => by cases hr; rfl) (c_X10_rains C.2.2.2.2.2.2.2.2.2 G.2.1 w M hw) cy_X10_rains lk_RX10_88 im_X10_rains se_X10_rains (by decide) (by decide) (by decide) (by decide) rfl rfl (Nat.le_of_ble_eq_true rfl) (k_dg dt_X10_attempt_0 4 6 (.invokevirtual 88) 3 rfl) (fun r5 M6 => ?_)
    show Sm Z G _ _ _ _ [(0, k_ra Z w), (1, Value.int p1)] [Value.int r5, k_ra Z w] _ _
    refine x_callV C (a := w) (kd := 8) (vs := [Value.int r5]) (rest := []) rfl (kW 0 hw rfl) (by decide) (fun r hr => by cases hr; rfl) (c_X10_stand C.2.2.2.2.2.2.2.2.2 G.2.1 w r5 M6 hw) cy_X10_stand lk_RX10_92 im_X10_stand se_X10_stand (by decide) (by decide) (by decide) (by decide) rfl rfl (Nat.le_of_ble_eq_true rfl) (k_dg dt_X10_attempt_0 5 9 (.invokevirtual 92) 3 rfl) (fun r7 M8 => ?_)
    show Sm Z G _ _ _ _ [(0, k_ra Z w), (1, Value.int p1)] [Value.int r7] _ _
    exact x_iret C (by decide) (by decide) (k_dg dt_X10_attempt_0 6 12 (.ireturn) 1 rfl)
  · refine x_aload_n C (k_dg dt_X10_attempt_0 7 13 (.aload_n 0) 1 rfl) 0 rfl ?_
    refine x_getR C (a := w) (j := 0) (w + 1) rfl (kW 0 hw rfl) (by decide) fl_RX10_10 rfl rfl rfl (k_dg dt_X10_attempt_0 8 14 (.getfield 10) 3 rfl) ?_
    refine x_iload_n C (k_dg dt_X10_attempt_0 9 17 (.iload_n 1) 1 rfl) 1 rfl ?_
    refine x_iconst C (v := 1) (k_dg dt_X10_attempt_0 10 18 (.iconst 1) 1 rfl) (by decide) ?_
    refine x_isub C (k_dg dt_X10_attempt_0 11 19 (.isub) 1 rfl) ?_
    refine x_callV C (a := w + 1) (kd := 2) (vs := [Value.int (p1 - 1)]) (rest := []) rfl (kW 1 hw rfl) (by decide) (fun r hr => by cases hr; rfl) (c_X3_hasWay C.2.2.2.2.2.2.2.2.2 G.2.1 w (p1 - 1) M hw) cy_X3_hasWay lk_RX10_96 im_X3_hasWay se_X3_hasWay (by decide) (by decide) (by decide) (by decide) rfl rfl (Nat.le_of_ble_eq_true rfl) (k_dg dt_X10_attempt_0 12 20 (.invokevirtual 96) 3 rfl) (fun r1 M2 => ?_)
    show Sm Z G _ _ _ _ [(0, k_ra Z w), (1, Value.int p1)] [Value.int r1] _ _
    refine x_if_eq C (tgt := 36) (k_dg dt_X10_attempt_0 13 23 (.ifCond .eq 13) 3 rfl) (by decide) (fun _ => ?_) (fun _ => ?_)
    · refine x_iconst C (v := -1) (k_dg dt_X10_attempt_0 20 36 (.iconst (-1)) 1 rfl) (by decide) ?_
      exact x_iret C (by decide) (by decide) (k_dg dt_X10_attempt_0 21 37 (.ireturn) 1 rfl)
    · refine x_aload_n C (k_dg dt_X10_attempt_0 14 26 (.aload_n 0) 1 rfl) 0 rfl ?_
      refine x_iload_n C (k_dg dt_X10_attempt_0 15 27 (.iload_n 1) 1 rfl) 1 rfl ?_
      refine x_iconst C (v := 1) (k_dg dt_X10_attempt_0 16 28 (.iconst 1) 1 rfl) (by decide) ?_
      refine x_isub C (k_dg dt_X10_attempt_0 17 29 (.isub) 1 rfl) ?_
      refine x_callV C (a := w) (kd := 8) (vs := [Value.int (p1 - 1)]) (rest := []) rfl (kW 0 hw rfl) (by decide) (fun r hr => by cases hr; rfl) (c_X10_go C.2.2.2.2.2.2.2.2.2 G.2.1 w (p1 - 1) M2 hw) cy_X10_go lk_RX10_100 im_X10_go se_X10_go (by decide) (by decide) (by decide) (by decide) rfl rfl (Nat.le_of_ble_eq_true rfl) (k_dg dt_X10_attempt_0 18 30 (.invokevirtual 100) 3 rfl) (fun r3 M4 => ?_)
      show Sm Z G _ _ _ _ [(0, k_ra Z w), (1, Value.int p1)] [Value.int r3] _ _
      refine x_goto C (tgt := 37) (k_dg dt_X10_attempt_0 19 33 (.goto 4) 3 rfl) (by decide) ?_
      exact x_iret C (by decide) (by decide) (k_dg dt_X10_attempt_0 21 37 (.ireturn) 1 rfl)
theorem c_X10_attempt {Z : k_Z} (hg : k_Gd Z) (l : Launch) (w : Nat) (p1 : Int32) (M : k_M) (hw : isW w) : Con true Z l yX10_attempt cX10_attempt 2 (some .int) 3 0 0 emI [k_ra Z w, Value.int p1] M (f_X10_attempt w p1 M) := k_con hg (by decide) (Nat.le_of_ble_eq_true rfl) (fun G hl C => m_X10_attempt_0 C hw p1 M)
theorem dt_X10_spitOut_0 : k_dec cX10_spitOut [(0, .aload_n 0, 1), (1, .getfield 42, 3), (4, .iconst 0, 1), (5, .dup2, 1), (6, .iaload, 1), (7, .iload_n 2, 1), (8, .aload_n 0, 1), (9, .getfield 25, 3), (12, .iload_n 1, 1), (13, .iaload, 1), (14, .imul, 1), (15, .iadd, 1), (16, .iastore, 1), (17, .aload_n 0, 1), (18, .getfield 42, 3), (21, .iconst 1, 1), (22, .dup2, 1), (23, .iaload, 1), (24, .iload_n 2, 1), (25, .aload_n 0, 1), (26, .getfield 25, 3), (29, .iload_n 1, 1), (30, .iconst 1, 1), (31, .iadd, 1), (32, .iaload, 1), (33, .aload_n 0, 1), (34, .getfield 25, 3), (37, .bipush 7, 2), (39, .iaload, 1), (40, .iadd, 1), (41, .imul, 1), (42, .iadd, 1), (43, .iastore, 1), (44, .aload_n 0, 1), (45, .getfield 42, 3), (48, .iconst 2, 1), (49, .dup2, 1), (50, .iaload, 1), (51, .iload_n 2, 1), (52, .aload_n 0, 1)] = true := by decide +kernel
theorem dt_X10_spitOut_1 : k_dec cX10_spitOut [(53, .getfield 25, 3), (56, .iload_n 1, 1), (57, .iconst 2, 1), (58, .iadd, 1), (59, .iaload, 1), (60, .imul, 1), (61, .iadd, 1), (62, .iastore, 1), (63, .aload_n 0, 1), (64, .dup, 1), (65, .getfield 39, 3), (68, .iload_n 2, 1), (69, .isub, 1), (70, .putfield 39, 3), (73, .return_, 1)] = true := by decide +kernel
def f_X10_spitOut (w : Nat) (p1 : Int32) (p2 : Int32) (M : k_M) : Option (Unit × k_M) := rdI M (w + 17) 3 0 (fun v1 => rdI M (w + 16) 13 p1 (fun v2 => wrI M (w + 17) 3 0 (v1 + (p2 * v2)) (fun M3 => rdI M3 (w + 17) 3 1 (fun v4 => rdI M3 (w + 16) 13 (p1 + 1) (fun v5 => rdI M3 (w + 16) 13 7 (fun v6 => wrI M3 (w + 17) 3 1 (v4 + (p2 * (v5 + v6))) (fun M7 => rdI M7 (w + 17) 3 2 (fun v8 => rdI M7 (w + 16) 13 (p1 + 2) (fun v9 => wrI M7 (w + 17) 3 2 (v8 + (p2 * v9)) (fun M10 => bN (sI M10 w 5 ((M10.1 w 5) - p2)) (fun M11 => some ((), M11))))))))))))
theorem m_X10_spitOut_0 {Z : k_Z} {G : k_G} {w : Nat} (C : k_C Z G RX10 cX10_spitOut (true, 3, 1, 0, 0) none "spitOut") (hw : isW w) (p1 : Int32) (p2 : Int32) (M : k_M) : Sm Z G emV (true, 3, 1, 0, 0) (0, 0) 0 [(0, k_ra Z w), (1, Value.int p1), (2, Value.int p2)] [] M (f_X10_spitOut w p1 p2 M) := by
  show Sm Z G emV _ _ _ _ _ _ (rdI M (w + 17) 3 0 (fun v1 => rdI M (w + 16) 13 p1 (fun v2 => wrI M (w + 17) 3 0 (v1 + (p2 * v2)) (fun M3 => rdI M3 (w + 17) 3 1 (fun v4 => rdI M3 (w + 16) 13 (p1 + 1) (fun v5 => rdI M3 (w + 16) 13 7 (fun v6 => wrI M3 (w + 17) 3 1 (v4 + (p2 * (v5 + v6))) (fun M7 => rdI M7 (w + 17) 3 2 (fun v8 => rdI M7 (w + 16) 13 (p1 + 2) (fun v9 => wrI M7 (w + 17) 3 2 (v8 + (p2 * v9)) (fun M10 => bN (sI M10 w 5 ((M10.1 w 5) - p2)) (fun M11 => some ((), M11)))))))))))))
  refine x_aload_n C (k_dg dt_X10_spitOut_0 0 0 (.aload_n 0) 1 rfl) 0 rfl ?_
  refine x_getR C (a := w) (j := 6) (w + 17) rfl (kW 0 hw rfl) (by decide) fl_RX10_42 rfl rfl rfl (k_dg dt_X10_spitOut_0 1 1 (.getfield 42) 3 rfl) ?_
  refine x_iconst C (v := 0) (k_dg dt_X10_spitOut_0 2 4 (.iconst 0) 1 rfl) (by decide) ?_
  refine x_dup2 C (k_dg dt_X10_spitOut_0 3 5 (.dup2) 1 rfl) rfl rfl ?_
  refine x_iald C (a := w + 17) (n := 3) rfl (kW 17 hw rfl) (k_dg dt_X10_spitOut_0 4 6 (.iaload) 1 rfl) (fun v1 => ?_)
  refine x_iload_n C (k_dg dt_X10_spitOut_0 5 7 (.iload_n 2) 1 rfl) 2 rfl ?_
  refine x_aload_n C (k_dg dt_X10_spitOut_0 6 8 (.aload_n 0) 1 rfl) 0 rfl ?_
  refine x_getR C (a := w) (j := 1) (w + 16) rfl (kW 0 hw rfl) (by decide) fl_RX10_25 rfl rfl rfl (k_dg dt_X10_spitOut_0 7 9 (.getfield 25) 3 rfl) ?_
  refine x_iload_n C (k_dg dt_X10_spitOut_0 8 12 (.iload_n 1) 1 rfl) 1 rfl ?_
  refine x_iald C (a := w + 16) (n := 13) rfl (kW 16 hw rfl) (k_dg dt_X10_spitOut_0 9 13 (.iaload) 1 rfl) (fun v2 => ?_)
  refine x_imul C (k_dg dt_X10_spitOut_0 10 14 (.imul) 1 rfl) ?_
  refine x_iadd C (k_dg dt_X10_spitOut_0 11 15 (.iadd) 1 rfl) ?_
  refine x_iast C (a := w + 17) (n := 3) rfl (kW 17 hw rfl) (k_dg dt_X10_spitOut_0 12 16 (.iastore) 1 rfl) (fun M3 => ?_)
  refine x_aload_n C (k_dg dt_X10_spitOut_0 13 17 (.aload_n 0) 1 rfl) 0 rfl ?_
  refine x_getR C (a := w) (j := 6) (w + 17) rfl (kW 0 hw rfl) (by decide) fl_RX10_42 rfl rfl rfl (k_dg dt_X10_spitOut_0 14 18 (.getfield 42) 3 rfl) ?_
  refine x_iconst C (v := 1) (k_dg dt_X10_spitOut_0 15 21 (.iconst 1) 1 rfl) (by decide) ?_
  refine x_dup2 C (k_dg dt_X10_spitOut_0 16 22 (.dup2) 1 rfl) rfl rfl ?_
  refine x_iald C (a := w + 17) (n := 3) rfl (kW 17 hw rfl) (k_dg dt_X10_spitOut_0 17 23 (.iaload) 1 rfl) (fun v4 => ?_)
  refine x_iload_n C (k_dg dt_X10_spitOut_0 18 24 (.iload_n 2) 1 rfl) 2 rfl ?_
  refine x_aload_n C (k_dg dt_X10_spitOut_0 19 25 (.aload_n 0) 1 rfl) 0 rfl ?_
  refine x_getR C (a := w) (j := 1) (w + 16) rfl (kW 0 hw rfl) (by decide) fl_RX10_25 rfl rfl rfl (k_dg dt_X10_spitOut_0 20 26 (.getfield 25) 3 rfl) ?_
  refine x_iload_n C (k_dg dt_X10_spitOut_0 21 29 (.iload_n 1) 1 rfl) 1 rfl ?_
  refine x_iconst C (v := 1) (k_dg dt_X10_spitOut_0 22 30 (.iconst 1) 1 rfl) (by decide) ?_
  refine x_iadd C (k_dg dt_X10_spitOut_0 23 31 (.iadd) 1 rfl) ?_
  refine x_iald C (a := w + 16) (n := 13) rfl (kW 16 hw rfl) (k_dg dt_X10_spitOut_0 24 32 (.iaload) 1 rfl) (fun v5 => ?_)
  refine x_aload_n C (k_dg dt_X10_spitOut_0 25 33 (.aload_n 0) 1 rfl) 0 rfl ?_
  refine x_getR C (a := w) (j := 1) (w + 16) rfl (kW 0 hw rfl) (by decide) fl_RX10_25 rfl rfl rfl (k_dg dt_X10_spitOut_0 26 34 (.getfield 25) 3 rfl) ?_
  refine x_bipush C (v := 7) (k_dg dt_X10_spitOut_0 27 37 (.bipush 7) 2 rfl) (by decide) ?_
  refine x_iald C (a := w + 16) (n := 13) rfl (kW 16 hw rfl) (k_dg dt_X10_spitOut_0 28 39 (.iaload) 1 rfl) (fun v6 => ?_)
  refine x_iadd C (k_dg dt_X10_spitOut_0 29 40 (.iadd) 1 rfl) ?_
  refine x_imul C (k_dg dt_X10_spitOut_0 30 41 (.imul) 1 rfl) ?_
  refine x_iadd C (k_dg dt_X10_spitOut_0 31 42 (.iadd) 1 rfl) ?_
  refine x_iast C (a := w + 17) (n := 3) rfl (kW 17 hw rfl) (k_dg dt_X10_spitOut_0 32 43 (.iastore) 1 rfl) (fun M7 => ?_)
  refine x_aload_n C (k_dg dt_X10_spitOut_0 33 44 (.aload_n 0) 1 rfl) 0 rfl ?_
  refine x_getR C (a := w) (j := 6) (w + 17) rfl (kW 0 hw rfl) (by decide) fl_RX10_42 rfl rfl rfl (k_dg dt_X10_spitOut_0 34 45 (.getfield 42) 3 rfl) ?_
  refine x_iconst C (v := 2) (k_dg dt_X10_spitOut_0 35 48 (.iconst 2) 1 rfl) (by decide) ?_
  refine x_dup2 C (k_dg dt_X10_spitOut_0 36 49 (.dup2) 1 rfl) rfl rfl ?_
  refine x_iald C (a := w + 17) (n := 3) rfl (kW 17 hw rfl) (k_dg dt_X10_spitOut_0 37 50 (.iaload) 1 rfl) (fun v8 => ?_)
  refine x_iload_n C (k_dg dt_X10_spitOut_0 38 51 (.iload_n 2) 1 rfl) 2 rfl ?_
  refine x_aload_n C (k_dg dt_X10_spitOut_0 39 52 (.aload_n 0) 1 rfl) 0 rfl ?_
  refine x_getR C (a := w) (j := 1) (w + 16) rfl (kW 0 hw rfl) (by decide) fl_RX10_25 rfl rfl rfl (k_dg dt_X10_spitOut_1 0 53 (.getfield 25) 3 rfl) ?_
  refine x_iload_n C (k_dg dt_X10_spitOut_1 1 56 (.iload_n 1) 1 rfl) 1 rfl ?_
  refine x_iconst C (v := 2) (k_dg dt_X10_spitOut_1 2 57 (.iconst 2) 1 rfl) (by decide) ?_
  refine x_iadd C (k_dg dt_X10_spitOut_1 3 58 (.iadd) 1 rfl) ?_
  refine x_iald C (a := w + 16) (n := 13) rfl (kW 16 hw rfl) (k_dg dt_X10_spitOut_1 4 59 (.iaload) 1 rfl) (fun v9 => ?_)
  refine x_imul C (k_dg dt_X10_spitOut_1 5 60 (.imul) 1 rfl) ?_
  refine x_iadd C (k_dg dt_X10_spitOut_1 6 61 (.iadd) 1 rfl) ?_
  refine x_iast C (a := w + 17) (n := 3) rfl (kW 17 hw rfl) (k_dg dt_X10_spitOut_1 7 62 (.iastore) 1 rfl) (fun M10 => ?_)
  refine x_aload_n C (k_dg dt_X10_spitOut_1 8 63 (.aload_n 0) 1 rfl) 0 rfl ?_
  refine x_dup C (k_dg dt_X10_spitOut_1 9 64 (.dup) 1 rfl) rfl ?_
  refine x_getI C (a := w) (j := 5) rfl (kW 0 hw rfl) (by decide) fl_RX10_39 rfl (k_dg dt_X10_spitOut_1 10 65 (.getfield 39) 3 rfl) ?_
  refine x_iload_n C (k_dg dt_X10_spitOut_1 11 68 (.iload_n 2) 1 rfl) 2 rfl ?_
  refine x_isub C (k_dg dt_X10_spitOut_1 12 69 (.isub) 1 rfl) ?_
  refine x_putI C (a := w) (j := 5) rfl (kW 0 hw rfl) (by decide) fl_RX10_39 rfl pt_8_5 tb_8 rfl rfl (k_dg dt_X10_spitOut_1 13 70 (.putfield 39) 3 rfl) (fun M11 => ?_)
  exact x_vret C (by decide) (by decide) (k_dg dt_X10_spitOut_1 14 73 (.return_) 1 rfl)
theorem c_X10_spitOut {Z : k_Z} (hg : k_Gd Z) (l : Launch) (w : Nat) (p1 : Int32) (p2 : Int32) (M : k_M) (hw : isW w) : Con true Z l yX10_spitOut cX10_spitOut 3 none 1 0 0 emV [k_ra Z w, Value.int p1, Value.int p2] M (f_X10_spitOut w p1 p2 M) := k_con hg (by decide) (Nat.le_of_ble_eq_true rfl) (fun G hl C => m_X10_spitOut_0 C hw p1 p2 M)
theorem dt_X10_takeBack_0 : k_dec cX10_takeBack [(0, .iload_n 1, 1), (1, .ifCond .ne 63, 3), (4, .aload_n 0, 1), (5, .iconst 0, 1), (6, .iconst 1, 1), (7, .invokevirtual 103, 3), (10, .aload_n 0, 1), (11, .getfield 10, 3), (14, .getfield 77, 3), (17, .aload_n 0, 1), (18, .getfield 36, 3), (21, .iaload, 1), (22, .istore_n 3, 1), (23, .iload_n 2, 1), (24, .ifCond .le 39, 3), (27, .aload_n 0, 1), (28, .getfield 42, 3), (31, .getstatic 106, 3), (34, .iload_n 3, 1), (35, .iaload, 1), (36, .dup2, 1), (37, .iaload, 1), (38, .iload_n 2, 1), (39, .isub, 1), (40, .iastore, 1), (41, .aload_n 0, 1), (42, .getfield 10, 3), (45, .getfield 109, 3), (48, .aload_n 0, 1), (49, .getfield 36, 3), (52, .dup2, 1), (53, .iaload, 1), (54, .iload_n 2, 1), (55, .getstatic 112, 3), (58, .iload_n 3, 1), (59, .iaload, 1), (60, .imul, 1), (61, .iadd, 1), (62, .iastore, 1), (63, .return_, 1)] = true := by decide +kernel
theorem dt_X10_takeBack_1 : k_dec cX10_takeBack [(64, .iload_n 1, 1), (65, .iconst 1, 1), (66, .isub, 1), (67, .istore_n 3, 1), (68, .aload_n 0, 1), (69, .iconst 3, 1), (70, .aload_n 0, 1), (71, .getfield 10, 3), (74, .getfield 74, 3), (77, .iload_n 3, 1), (78, .iaload, 1), (79, .invokevirtual 103, 3), (82, .aload_n 0, 1), (83, .aload_n 0, 1), (84, .getfield 10, 3), (87, .iload_n 3, 1), (88, .aload_n 0, 1), (89, .getfield 36, 3), (92, .invokevirtual 115, 3), (95, .putfield 36, 3), (98, .aload_n 0, 1), (99, .getfield 10, 3), (102, .getfield 119, 3), (105, .iload_n 3, 1), (106, .iaload, 1), (107, .bipush 9, 2), (109, .if_icmp .eq 16, 3), (112, .aload_n 0, 1), (113, .getfield 10, 3), (116, .getfield 119, 3), (119, .iload_n 3, 1), (120, .dup2, 1), (121, .iaload, 1), (122, .iconst 1, 1), (123, .iadd, 1), (124, .iastore, 1), (125, .return_, 1)] = true := by decide +kernel
def f_X10_takeBack (w : Nat) (p1 : Int32) (p2 : Int32) (M : k_M) : Option (Unit × k_M) := if p1 = 0 then bd (f_X10_spitOut w 0 1 M) (fun r11 M12 => rdI M12 (w + 2) 8 (M12.1 w 4) (fun v13 => if p2 ≤ 0 then some ((), M12) else rdT 2 v13 (fun v14 => rdI M12 (w + 17) 3 v14 (fun v15 => wrI M12 (w + 17) 3 v14 (v15 - p2) (fun M16 => rdI M16 (w + 5) 8 (M16.1 w 4) (fun v17 => rdT 3 v13 (fun v18 => wrI M16 (w + 5) 8 (M16.1 w 4) (v17 + (p2 * v18)) (fun M19 => some ((), M19))))))))) else bN (p1 - 1) (fun v1 => rdI M (w + 10) 12 v1 (fun v2 => bd (f_X10_spitOut w 3 v2 M) (fun r3 M4 => bd (f_X3_farEnd w v1 (M4.1 w 4) M4) (fun r5 M6 => bN (sI M6 w 4 r5) (fun M7 => rdI M7 (w + 12) 12 v1 (fun v8 => if v8 = 9 then some ((), M7) else rdI M7 (w + 12) 12 v1 (fun v9 => wrI M7 (w + 12) 12 v1 (v9 + 1) (fun M10 => some ((), M10)))))))))
theorem m_X10_takeBack_0 {Z : k_Z} {G : k_G} {w : Nat} (C : k_C Z G RX10 cX10_takeBack (true, 4, 2, 0, 0) none "takeBack") (hw : isW w) (p1 : Int32) (p2 : Int32) (M : k_M) : Sm Z G emV (true, 4, 2, 0, 0) (0, 0) 0 [(0, k_ra Z w), (1, Value.int p1), (2, Value.int p2)] [] M (f_X10_takeBack w p1 p2 M) := by
  show Sm Z G emV _ _ _ _ _ _ (if p1 = 0 then bd (f_X10_spitOut w 0 1 M) (fun r11 M12 => rdI M12 (w + 2) 8 (M12.1 w 4) (fun v13 => if p2 ≤ 0 then some ((), M12) else rdT 2 v13 (fun v14 => rdI M12 (w + 17) 3 v14 (fun v15 => wrI M12 (w + 17) 3 v14 (v15 - p2) (fun M16 => rdI M16 (w + 5) 8 (M16.1 w 4) (fun v17 => rdT 3 v13 (fun v18 => wrI M16 (w + 5) 8 (M16.1 w 4) (v17 + (p2 * v18)) (fun M19 => some ((), M19))))))))) else bN (p1 - 1) (fun v1 => rdI M (w + 10) 12 v1 (fun v2 => bd (f_X10_spitOut w 3 v2 M) (fun r3 M4 => bd (f_X3_farEnd w v1 (M4.1 w 4) M4) (fun r5 M6 => bN (sI M6 w 4 r5) (fun M7 => rdI M7 (w + 12) 12 v1 (fun v8 => if v8 = 9 then some ((), M7) else rdI M7 (w + 12) 12 v1 (fun v9 => wrI M7 (w + 12) 12 v1 (v9 + 1) (fun M10 => some ((), M10))))))))))
  refine x_iload_n C (k_dg dt_X10_takeBack_0 0 0 (.iload_n 1) 1 rfl) 1 rfl ?_
  refine x_if_ne C (tgt := 64) (k_dg dt_X10_takeBack_0 1 1 (.ifCond .ne 63) 3 rfl) (by decide) (fun _ => ?_) (fun _ => ?_)
  · refine x_aload_n C (k_dg dt_X10_takeBack_0 2 4 (.aload_n 0) 1 rfl) 0 rfl ?_
    refine x_iconst C (v := 0) (k_dg dt_X10_takeBack_0 3 5 (.iconst 0) 1 rfl) (by decide) ?_
    refine x_iconst C (v := 1) (k_dg dt_X10_takeBack_0 4 6 (.iconst 1) 1 rfl) (by decide) ?_
    refine x_callV C (a := w) (kd := 8) (vs := [Value.int 0, Value.int 1]) (rest := []) rfl (kW 0 hw rfl) (by decide) (fun r hr => by cases hr; rfl) (c_X10_spitOut C.2.2.2.2.2.2.2.2.2 G.2.1 w 0 1 M hw) cy_X10_spitOut lk_RX10_103 im_X10_spitOut se_X10_spitOut (by decide) (by decide) (by decide) (by decide) rfl rfl (Nat.le_of_ble_eq_true rfl) (k_dg dt_X10_takeBack_0 5 7 (.invokevirtual 103) 3 rfl) (fun r11 M12 => ?_)
    show Sm Z G _ _ _ _ [(0, k_ra Z w), (1, Value.int p1), (2, Value.int p2)] [] _ _
    refine x_aload_n C (k_dg dt_X10_takeBack_0 6 10 (.aload_n 0) 1 rfl) 0 rfl ?_
    refine x_getR C (a := w) (j := 0) (w + 1) rfl (kW 0 hw rfl) (by decide) fl_RX10_10 rfl rfl rfl (k_dg dt_X10_takeBack_0 7 11 (.getfield 10) 3 rfl) ?_
    refine x_getR C (a := w + 1) (j := 1) (w + 2) rfl (kW 1 hw rfl) (by decide) fl_RX10_77 rfl rfl rfl (k_dg dt_X10_takeBack_0 8 14 (.getfield 77) 3 rfl) ?_
    refine x_aload_n C (k_dg dt_X10_takeBack_0 9 17 (.aload_n 0) 1 rfl) 0 rfl ?_
    refine x_getI C (a := w) (j := 4) rfl (kW 0 hw rfl) (by decide) fl_RX10_36 rfl (k_dg dt_X10_takeBack_0 10 18 (.getfield 36) 3 rfl) ?_
    refine x_iald C (a := w + 2) (n := 8) rfl (kW 2 hw rfl) (k_dg dt_X10_takeBack_0 11 21 (.iaload) 1 rfl) (fun v13 => ?_)
    refine x_istore_n C (lv' := [(3, Value.int v13), (0, k_ra Z w), (1, Value.int p1), (2, Value.int p2)]) (k_dg dt_X10_takeBack_0 12 22 (.istore_n 3) 1 rfl) (by decide) rfl ?_
    refine x_iload_n C (k_dg dt_X10_takeBack_0 13 23 (.iload_n 2) 1 rfl) 3 rfl ?_
    refine x_if_le C (tgt := 63) (k_dg dt_X10_takeBack_0 14 24 (.ifCond .le 39) 3 rfl) (by decide) (fun _ => ?_) (fun _ => ?_)
    · exact x_vret C (by decide) (by decide) (k_dg dt_X10_takeBack_0 39 63 (.return_) 1 rfl)
    · refine x_aload_n C (k_dg dt_X10_takeBack_0 15 27 (.aload_n 0) 1 rfl) 1 rfl ?_
      refine x_getR C (a := w) (j := 6) (w + 17) rfl (kW 0 hw rfl) (by decide) fl_RX10_42 rfl rfl rfl (k_dg dt_X10_takeBack_0 16 28 (.getfield 42) 3 rfl) ?_
      refine x_gets C (t := 2) (by decide) gs_RX10_106 (k_dg dt_X10_takeBack_0 17 31 (.getstatic 106) 3 rfl) ?_
      refine x_iload_n C (k_dg dt_X10_takeBack_0 18 34 (.iload_n 3) 1 rfl) 0 rfl ?_
      refine x_tald C (t := 2) (by decide) (k_dg dt_X10_takeBack_0 19 35 (.iaload) 1 rfl) (fun v14 => ?_)
      refine x_dup2 C (k_dg dt_X10_takeBack_0 20 36 (.dup2) 1 rfl) rfl rfl ?_
      refine x_iald C (a := w + 17) (n := 3) rfl (kW 17 hw rfl) (k_dg dt_X10_takeBack_0 21 37 (.iaload) 1 rfl) (fun v15 => ?_)
      refine x_iload_n C (k_dg dt_X10_takeBack_0 22 38 (.iload_n 2) 1 rfl) 3 rfl ?_
      refine x_isub C (k_dg dt_X10_takeBack_0 23 39 (.isub) 1 rfl) ?_
      refine x_iast C (a := w + 17) (n := 3) rfl (kW 17 hw rfl) (k_dg dt_X10_takeBack_0 24 40 (.iastore) 1 rfl) (fun M16 => ?_)
      refine x_aload_n C (k_dg dt_X10_takeBack_0 25 41 (.aload_n 0) 1 rfl) 1 rfl ?_
      refine x_getR C (a := w) (j := 0) (w + 1) rfl (kW 0 hw rfl) (by decide) fl_RX10_10 rfl rfl rfl (k_dg dt_X10_takeBack_0 26 42 (.getfield 10) 3 rfl) ?_
      refine x_getR C (a := w + 1) (j := 4) (w + 5) rfl (kW 1 hw rfl) (by decide) fl_RX10_109 rfl rfl rfl (k_dg dt_X10_takeBack_0 27 45 (.getfield 109) 3 rfl) ?_
      refine x_aload_n C (k_dg dt_X10_takeBack_0 28 48 (.aload_n 0) 1 rfl) 1 rfl ?_
      refine x_getI C (a := w) (j := 4) rfl (kW 0 hw rfl) (by decide) fl_RX10_36 rfl (k_dg dt_X10_takeBack_0 29 49 (.getfield 36) 3 rfl) ?_
      refine x_dup2 C (k_dg dt_X10_takeBack_0 30 52 (.dup2) 1 rfl) rfl rfl ?_
      refine x_iald C (a := w + 5) (n := 8) rfl (kW 5 hw rfl) (k_dg dt_X10_takeBack_0 31 53 (.iaload) 1 rfl) (fun v17 => ?_)
      refine x_iload_n C (k_dg dt_X10_takeBack_0 32 54 (.iload_n 2) 1 rfl) 3 rfl ?_
      refine x_gets C (t := 3) (by decide) gs_RX10_112 (k_dg dt_X10_takeBack_0 33 55 (.getstatic 112) 3 rfl) ?_
      refine x_iload_n C (k_dg dt_X10_takeBack_0 34 58 (.iload_n 3) 1 rfl) 0 rfl ?_
      refine x_tald C (t := 3) (by decide) (k_dg dt_X10_takeBack_0 35 59 (.iaload) 1 rfl) (fun v18 => ?_)
      refine x_imul C (k_dg dt_X10_takeBack_0 36 60 (.imul) 1 rfl) ?_
      refine x_iadd C (k_dg dt_X10_takeBack_0 37 61 (.iadd) 1 rfl) ?_
      refine x_iast C (a := w + 5) (n := 8) rfl (kW 5 hw rfl) (k_dg dt_X10_takeBack_0 38 62 (.iastore) 1 rfl) (fun M19 => ?_)
      exact x_vret C (by decide) (by decide) (k_dg dt_X10_takeBack_0 39 63 (.return_) 1 rfl)
  · refine x_iload_n C (k_dg dt_X10_takeBack_1 0 64 (.iload_n 1) 1 rfl) 1 rfl ?_
    refine x_iconst C (v := 1) (k_dg dt_X10_takeBack_1 1 65 (.iconst 1) 1 rfl) (by decide) ?_
    refine x_isub C (k_dg dt_X10_takeBack_1 2 66 (.isub) 1 rfl) ?_
    refine x_nm (w := Value.int) (fun v1 _ => ?_)
    refine x_istore_n C (lv' := [(3, Value.int v1), (0, k_ra Z w), (1, Value.int p1), (2, Value.int p2)]) (k_dg dt_X10_takeBack_1 3 67 (.istore_n 3) 1 rfl) (by decide) rfl ?_
    refine x_aload_n C (k_dg dt_X10_takeBack_1 4 68 (.aload_n 0) 1 rfl) 1 rfl ?_
    refine x_iconst C (v := 3) (k_dg dt_X10_takeBack_1 5 69 (.iconst 3) 1 rfl) (by decide) ?_
    refine x_aload_n C (k_dg dt_X10_takeBack_1 6 70 (.aload_n 0) 1 rfl) 1 rfl ?_
    refine x_getR C (a := w) (j := 0) (w + 1) rfl (kW 0 hw rfl) (by decide) fl_RX10_10 rfl rfl rfl (k_dg dt_X10_takeBack_1 7 71 (.getfield 10) 3 rfl) ?_
    refine x_getR C (a := w + 1) (j := 10) (w + 10) rfl (kW 1 hw rfl) (by decide) fl_RX10_74 rfl rfl rfl (k_dg dt_X10_takeBack_1 8 74 (.getfield 74) 3 rfl) ?_
    refine x_iload_n C (k_dg dt_X10_takeBack_1 9 77 (.iload_n 3) 1 rfl) 0 rfl ?_
    refine x_iald C (a := w + 10) (n := 12) rfl (kW 10 hw rfl) (k_dg dt_X10_takeBack_1 10 78 (.iaload) 1 rfl) (fun v2 => ?_)
    refine x_callV C (a := w) (kd := 8) (vs := [Value.int 3, Value.int v2]) (rest := []) rfl (kW 0 hw rfl) (by decide) (fun r hr => by cases hr; rfl) (c_X10_spitOut C.2.2.2.2.2.2.2.2.2 G.2.1 w 3 v2 M hw) cy_X10_spitOut lk_RX10_103 im_X10_spitOut se_X10_spitOut (by decide) (by decide) (by decide) (by decide) rfl rfl (Nat.le_of_ble_eq_true rfl) (k_dg dt_X10_takeBack_1 11 79 (.invokevirtual 103) 3 rfl) (fun r3 M4 => ?_)
    show Sm Z G _ _ _ _ [(3, Value.int v1), (0, k_ra Z w), (1, Value.int p1), (2, Value.int p2)] [] _ _
    refine x_aload_n C (k_dg dt_X10_takeBack_1 12 82 (.aload_n 0) 1 rfl) 1 rfl ?_
    refine x_aload_n C (k_dg dt_X10_takeBack_1 13 83 (.aload_n 0) 1 rfl) 1 rfl ?_
    refine x_getR C (a := w) (j := 0) (w + 1) rfl (kW 0 hw rfl) (by decide) fl_RX10_10 rfl rfl rfl (k_dg dt_X10_takeBack_1 14 84 (.getfield 10) 3 rfl) ?_
    refine x_iload_n C (k_dg dt_X10_takeBack_1 15 87 (.iload_n 3) 1 rfl) 0 rfl ?_
    refine x_aload_n C (k_dg dt_X10_takeBack_1 16 88 (.aload_n 0) 1 rfl) 1 rfl ?_
    refine x_getI C (a := w) (j := 4) rfl (kW 0 hw rfl) (by decide) fl_RX10_36 rfl (k_dg dt_X10_takeBack_1 17 89 (.getfield 36) 3 rfl) ?_
    refine x_callV C (a := w + 1) (kd := 2) (vs := [Value.int v1, Value.int (M4.1 w 4)]) (rest := [k_ra Z w]) rfl (kW 1 hw rfl) (by decide) (fun r hr => by cases hr; rfl) (c_X3_farEnd C.2.2.2.2.2.2.2.2.2 G.2.1 w v1 (M4.1 w 4) M4 hw) cy_X3_farEnd lk_RX10_115 im_X3_farEnd se_X3_farEnd (by decide) (by decide) (by decide) (by decide) rfl rfl (Nat.le_of_ble_eq_true rfl) (k_dg dt_X10_takeBack_1 18 92 (.invokevirtual 115) 3 rfl) (fun r5 M6 => ?_)
    show Sm Z G _ _ _ _ [(3, Value.int v1), (0, k_ra Z w), (1, Value.int p1), (2, Value.int p2)] [Value.int r5, k_ra Z w] _ _
    refine x_putI C (a := w) (j := 4) rfl (kW 0 hw rfl) (by decide) fl_RX10_36 rfl pt_8_4 tb_8 rfl rfl (k_dg dt_X10_takeBack_1 19 95 (.putfield 36) 3 rfl) (fun M7 => ?_)
    refine x_aload_n C (k_dg dt_X10_takeBack_1 20 98 (.aload_n 0) 1 rfl) 1 rfl ?_
    refine x_getR C (a := w) (j := 0) (w + 1) rfl (kW 0 hw rfl) (by decide) fl_RX10_10 rfl rfl rfl (k_dg dt_X10_takeBack_1 21 99 (.getfield 10) 3 rfl) ?_
    refine x_getR C (a := w + 1) (j := 12) (w + 12) rfl (kW 1 hw rfl) (by decide) fl_RX10_119 rfl rfl rfl (k_dg dt_X10_takeBack_1 22 102 (.getfield 119) 3 rfl) ?_
    refine x_iload_n C (k_dg dt_X10_takeBack_1 23 105 (.iload_n 3) 1 rfl) 0 rfl ?_
    refine x_iald C (a := w + 12) (n := 12) rfl (kW 12 hw rfl) (k_dg dt_X10_takeBack_1 24 106 (.iaload) 1 rfl) (fun v8 => ?_)
    refine x_bipush C (v := 9) (k_dg dt_X10_takeBack_1 25 107 (.bipush 9) 2 rfl) (by decide) ?_
    refine x_icmp_eq C (tgt := 125) (k_dg dt_X10_takeBack_1 26 109 (.if_icmp .eq 16) 3 rfl) (by decide) (fun _ => ?_) (fun _ => ?_)
    · exact x_vret C (by decide) (by decide) (k_dg dt_X10_takeBack_1 36 125 (.return_) 1 rfl)
    · refine x_aload_n C (k_dg dt_X10_takeBack_1 27 112 (.aload_n 0) 1 rfl) 1 rfl ?_
      refine x_getR C (a := w) (j := 0) (w + 1) rfl (kW 0 hw rfl) (by decide) fl_RX10_10 rfl rfl rfl (k_dg dt_X10_takeBack_1 28 113 (.getfield 10) 3 rfl) ?_
      refine x_getR C (a := w + 1) (j := 12) (w + 12) rfl (kW 1 hw rfl) (by decide) fl_RX10_119 rfl rfl rfl (k_dg dt_X10_takeBack_1 29 116 (.getfield 119) 3 rfl) ?_
      refine x_iload_n C (k_dg dt_X10_takeBack_1 30 119 (.iload_n 3) 1 rfl) 0 rfl ?_
      refine x_dup2 C (k_dg dt_X10_takeBack_1 31 120 (.dup2) 1 rfl) rfl rfl ?_
      refine x_iald C (a := w + 12) (n := 12) rfl (kW 12 hw rfl) (k_dg dt_X10_takeBack_1 32 121 (.iaload) 1 rfl) (fun v9 => ?_)
      refine x_iconst C (v := 1) (k_dg dt_X10_takeBack_1 33 122 (.iconst 1) 1 rfl) (by decide) ?_
      refine x_iadd C (k_dg dt_X10_takeBack_1 34 123 (.iadd) 1 rfl) ?_
      refine x_iast C (a := w + 12) (n := 12) rfl (kW 12 hw rfl) (k_dg dt_X10_takeBack_1 35 124 (.iastore) 1 rfl) (fun M10 => ?_)
      exact x_vret C (by decide) (by decide) (k_dg dt_X10_takeBack_1 36 125 (.return_) 1 rfl)
theorem c_X10_takeBack {Z : k_Z} (hg : k_Gd Z) (l : Launch) (w : Nat) (p1 : Int32) (p2 : Int32) (M : k_M) (hw : isW w) : Con true Z l yX10_takeBack cX10_takeBack 4 none 2 0 0 emV [k_ra Z w, Value.int p1, Value.int p2] M (f_X10_takeBack w p1 p2 M) := k_con hg (by decide) (Nat.le_of_ble_eq_true rfl) (fun G hl C => m_X10_takeBack_0 C hw p1 p2 M)
theorem dt_X10_can_0 : k_dec cX10_can [(0, .aload_n 0, 1), (1, .iload_n 1, 1), (2, .invokevirtual 80, 3), (5, .istore_n 2, 1), (6, .iload_n 2, 1), (7, .iconst (-1), 1), (8, .if_icmp .ne 5, 3), (11, .iconst 0, 1), (12, .ireturn, 1), (13, .aload_n 0, 1), (14, .iload_n 1, 1), (15, .iload_n 2, 1), (16, .invokevirtual 84, 3), (19, .iconst 1, 1), (20, .ireturn, 1)] = true := by decide +kernel
def f_X10_can (w : Nat) (p1 : Int32) (M : k_M) : Option (Int32 × k_M) := bd (f_X10_attempt w p1 M) (fun r1 M2 => if r1 = (-1) then some (0, M2) else bd (f_X10_takeBack w p1 r1 M2) (fun r3 M4 => some (1, M4)))
theorem m_X10_can_0 {Z : k_Z} {G : k_G} {w : Nat} (C : k_C Z G RX10 cX10_can (true, 3, 4, 0, 0) (some .boolean) "can") (hw : isW w) (p1 : Int32) (M : k_M) : Sm Z G emI (true, 3, 4, 0, 0) (0, 0) 0 [(0, k_ra Z w), (1, Value.int p1)] [] M (f_X10_can w p1 M) := by
  show Sm Z G emI _ _ _ _ _ _ (bd (f_X10_attempt w p1 M) (fun r1 M2 => if r1 = (-1) then some (0, M2) else bd (f_X10_takeBack w p1 r1 M2) (fun r3 M4 => some (1, M4))))
  refine x_aload_n C (k_dg dt_X10_can_0 0 0 (.aload_n 0) 1 rfl) 0 rfl ?_
  refine x_iload_n C (k_dg dt_X10_can_0 1 1 (.iload_n 1) 1 rfl) 1 rfl ?_
  refine x_callV C (a := w) (kd := 8) (vs := [Value.int p1]) (rest := []) rfl (kW 0 hw rfl) (by decide) (fun r hr => by cases hr; rfl) (c_X10_attempt C.2.2.2.2.2.2.2.2.2 G.2.1 w p1 M hw) cy_X10_attempt lk_RX10_80 im_X10_attempt se_X10_attempt (by decide) (by decide) (by decide) (by decide) rfl rfl (Nat.le_of_ble_eq_true rfl) (k_dg dt_X10_can_0 2 2 (.invokevirtual 80) 3 rfl) (fun r1 M2 => ?_)
  show Sm Z G _ _ _ _ [(0, k_ra Z w), (1, Value.int p1)] [Value.int r1] _ _
  refine x_istore_n C (lv' := [(2, Value.int r1), (0, k_ra Z w), (1, Value.int p1)]) (k_dg dt_X10_can_0 3 5 (.istore_n 2) 1 rfl) (by decide) rfl ?_
  refine x_iload_n C (k_dg dt_X10_can_0 4 6 (.iload_n 2) 1 rfl) 0 rfl ?_
  refine x_iconst C (v := -1) (k_dg dt_X10_can_0 5 7 (.iconst (-1)) 1 rfl) (by decide) ?_
  refine x_icmp_ne C (tgt := 13) (k_dg dt_X10_can_0 6 8 (.if_icmp .ne 5) 3 rfl) (by decide) (fun _ => ?_) (fun _ => ?_)
  · refine x_iconst C (v := 0) (k_dg dt_X10_can_0 7 11 (.iconst 0) 1 rfl) (by decide) ?_
    exact x_zret C (by decide) (by decide) rfl (k_dg dt_X10_can_0 8 12 (.ireturn) 1 rfl)
  · refine x_aload_n C (k_dg dt_X10_can_0 9 13 (.aload_n 0) 1 rfl) 1 rfl ?_
    refine x_iload_n C (k_dg dt_X10_can_0 10 14 (.iload_n 1) 1 rfl) 2 rfl ?_
    refine x_iload_n C (k_dg dt_X10_can_0 11 15 (.iload_n 2) 1 rfl) 0 rfl ?_
    refine x_callV C (a := w) (kd := 8) (vs := [Value.int p1, Value.int r1]) (rest := []) rfl (kW 0 hw rfl) (by decide) (fun r hr => by cases hr; rfl) (c_X10_takeBack C.2.2.2.2.2.2.2.2.2 G.2.1 w p1 r1 M2 hw) cy_X10_takeBack lk_RX10_84 im_X10_takeBack se_X10_takeBack (by decide) (by decide) (by decide) (by decide) rfl rfl (Nat.le_of_ble_eq_true rfl) (k_dg dt_X10_can_0 12 16 (.invokevirtual 84) 3 rfl) (fun r3 M4 => ?_)
    show Sm Z G _ _ _ _ [(2, Value.int r1), (0, k_ra Z w), (1, Value.int p1)] [] _ _
    refine x_iconst C (v := 1) (k_dg dt_X10_can_0 13 19 (.iconst 1) 1 rfl) (by decide) ?_
    exact x_zret C (by decide) (by decide) rfl (k_dg dt_X10_can_0 14 20 (.ireturn) 1 rfl)
theorem c_X10_can {Z : k_Z} (hg : k_Gd Z) (l : Launch) (w : Nat) (p1 : Int32) (M : k_M) (hw : isW w) : Con true Z l yX10_can cX10_can 3 (some .boolean) 4 0 0 emI [k_ra Z w, Value.int p1] M (f_X10_can w p1 M) := k_con hg (by decide) (Nat.le_of_ble_eq_true rfl) (fun G hl C => m_X10_can_0 C hw p1 M)
theorem dt_X10_noneLess_0 : k_dec cX10_noneLess [(0, .iconst 0, 1), (1, .istore_n 3, 1), (2, .iload_n 3, 1), (3, .iload_n 2, 1), (4, .if_icmp .ge 20, 3), (7, .aload_n 0, 1), (8, .iload_n 3, 1), (9, .iaload, 1), (10, .aload_n 1, 1), (11, .iload_n 3, 1), (12, .iaload, 1), (13, .if_icmp .ge 5, 3), (16, .iconst 0, 1), (17, .ireturn, 1), (18, .iinc 3 1, 3), (21, .goto (-19), 3), (24, .iconst 1, 1), (25, .ireturn, 1)] = true := by decide +kernel
def f_X10_noneLess_2 (a1 : Nat) (n1 : Nat) (a2 : Nat) (n2 : Nat) : Nat → Int32 → Int32 → k_M → (k_M → Option (Int32 × k_M)) → (k_M → Option (Int32 × k_M)) → Option (Int32 × k_M)
  | 0, _, _, _, _, _ => none
  | n + 1, l2, l3, M, kx16, kx24 => if l2 ≤ l3 then kx24 M else rdI M a1 n1 l3 (fun v1 => rdI M a2 n2 l3 (fun v2 => if v2 ≤ v1 then f_X10_noneLess_2 a1 n1 a2 n2 n l2 (l3 + 1) M kx16 kx24 else kx16 M))
theorem m_X10_noneLess_2 {Z : k_Z} {G : k_G} {a1 : Nat} {n1 : Nat} {a2 : Nat} {n2 : Nat} (C : k_C Z G RX10 cX10_noneLess (true, 4, 1, 0, 0) (some .boolean) "noneLess") (ha1 : k_st a1 = (11, n1)) (ha2 : k_st a2 = (11, n2)) (kx16 : k_M → Option (Int32 × k_M)) (kx24 : k_M → Option (Int32 × k_M)) (Hx16 : ∀ (M : k_M), Sm Z G emI (true, 4, 1, 0, 0) (0, 0) 16 [] [] M (kx16 M)) (Hx24 : ∀ (M : k_M), Sm Z G emI (true, 4, 1, 0, 0) (0, 0) 24 [] [] M (kx24 M)) : ∀ (n : Nat) (l2 : Int32) (l3 : Int32) (M : k_M), Sm Z G emI (true, 4, 1, 0, 0) (0, 0) 2 [(0, k_ra Z a1), (1, k_ra Z a2), (2, Value.int l2), (3, Value.int l3)] [] M (f_X10_noneLess_2 a1 n1 a2 n2 n l2 l3 M kx16 kx24)
  | 0, _, _, _ => x_none
  | n + 1, l2, l3, M => by
    have ih := m_X10_noneLess_2 C ha1 ha2 kx16 kx24 Hx16 Hx24 n
    show Sm Z G emI _ _ _ _ _ _ (if l2 ≤ l3 then kx24 M else rdI M a1 n1 l3 (fun v1 => rdI M a2 n2 l3 (fun v2 => if v2 ≤ v1 then f_X10_noneLess_2 a1 n1 a2 n2 n l2 (l3 + 1) M kx16 kx24 else kx16 M)))
    refine x_iload_n C (k_dg dt_X10_noneLess_0 2 2 (.iload_n 3) 1 rfl) 3 rfl ?_
    refine x_iload_n C (k_dg dt_X10_noneLess_0 3 3 (.iload_n 2) 1 rfl) 2 rfl ?_
    refine x_icmp_ge C (tgt := 24) (k_dg dt_X10_noneLess_0 4 4 (.if_icmp .ge 20) 3 rfl) (by decide) (fun _ => ?_) (fun _ => ?_)
    · refine x_lv [] rfl ?_
      exact Hx24 M
    · refine x_aload_n C (k_dg dt_X10_noneLess_0 5 7 (.aload_n 0) 1 rfl) 0 rfl ?_
      refine x_iload_n C (k_dg dt_X10_noneLess_0 6 8 (.iload_n 3) 1 rfl) 3 rfl ?_
      refine x_iald C (a := a1) (n := n1) rfl ha1 (k_dg dt_X10_noneLess_0 7 9 (.iaload) 1 rfl) (fun v1 => ?_)
      refine x_aload_n C (k_dg dt_X10_noneLess_0 8 10 (.aload_n 1) 1 rfl) 1 rfl ?_
      refine x_iload_n C (k_dg dt_X10_noneLess_0 9 11 (.iload_n 3) 1 rfl) 3 rfl ?_
      refine x_iald C (a := a2) (n := n2) rfl ha2 (k_dg dt_X10_noneLess_0 10 12 (.iaload) 1 rfl) (fun v2 => ?_)
      refine x_icmp_ge C (tgt := 18) (k_dg dt_X10_noneLess_0 11 13 (.if_icmp .ge 5) 3 rfl) (by decide) (fun _ => ?_) (fun _ => ?_)
      · refine x_iinc C (v := 1) (lv' := [(3, Value.int (l3 + 1)), (0, k_ra Z a1), (1, k_ra Z a2), (2, Value.int l2)]) (k_dg dt_X10_noneLess_0 14 18 (.iinc 3 1) 3 rfl) 3 rfl (by decide) (by decide) rfl ?_
        refine x_goto C (tgt := 2) (k_dg dt_X10_noneLess_0 15 21 (.goto (-19)) 3 rfl) (by decide) ?_
        refine x_lv [1, 2, 3, 0] rfl ?_
        exact ih l2 (l3 + 1) M
      · refine x_lv [] rfl ?_
        exact Hx16 M
def f_X10_noneLess_16 (a1 : Nat) (n1 : Nat) (a2 : Nat) (n2 : Nat) (M : k_M) : Option (Int32 × k_M) := some (0, M)
theorem m_X10_noneLess_16 {Z : k_Z} {G : k_G} {a1 : Nat} {n1 : Nat} {a2 : Nat} {n2 : Nat} (C : k_C Z G RX10 cX10_noneLess (true, 4, 1, 0, 0) (some .boolean) "noneLess") (ha1 : k_st a1 = (11, n1)) (ha2 : k_st a2 = (11, n2)) (M : k_M) : Sm Z G emI (true, 4, 1, 0, 0) (0, 0) 16 [] [] M (f_X10_noneLess_16 a1 n1 a2 n2 M) := by
  show Sm Z G emI _ _ _ _ _ _ (some (0, M))
  refine x_iconst C (v := 0) (k_dg dt_X10_noneLess_0 12 16 (.iconst 0) 1 rfl) (by decide) ?_
  exact x_zret C (by decide) (by decide) rfl (k_dg dt_X10_noneLess_0 13 17 (.ireturn) 1 rfl)
def f_X10_noneLess_24 (a1 : Nat) (n1 : Nat) (a2 : Nat) (n2 : Nat) (M : k_M) : Option (Int32 × k_M) := some (1, M)
theorem m_X10_noneLess_24 {Z : k_Z} {G : k_G} {a1 : Nat} {n1 : Nat} {a2 : Nat} {n2 : Nat} (C : k_C Z G RX10 cX10_noneLess (true, 4, 1, 0, 0) (some .boolean) "noneLess") (ha1 : k_st a1 = (11, n1)) (ha2 : k_st a2 = (11, n2)) (M : k_M) : Sm Z G emI (true, 4, 1, 0, 0) (0, 0) 24 [] [] M (f_X10_noneLess_24 a1 n1 a2 n2 M) := by
  show Sm Z G emI _ _ _ _ _ _ (some (1, M))
  refine x_iconst C (v := 1) (k_dg dt_X10_noneLess_0 16 24 (.iconst 1) 1 rfl) (by decide) ?_
  exact x_zret C (by decide) (by decide) rfl (k_dg dt_X10_noneLess_0 17 25 (.ireturn) 1 rfl)
def f_X10_noneLess (a1 : Nat) (n1 : Nat) (a2 : Nat) (n2 : Nat) (p3 : Int32) (M : k_M) : Option (Int32 × k_M) := f_X10_noneLess_2 a1 n1 a2 n2 k_fu p3 0 M (fun M_ => f_X10_noneLess_16 a1 n1 a2 n2 M_) (fun M_ => f_X10_noneLess_24 a1 n1 a2 n2 M_)
theorem m_X10_noneLess_0 {Z : k_Z} {G : k_G} {a1 : Nat} {n1 : Nat} {a2 : Nat} {n2 : Nat} (C : k_C Z G RX10 cX10_noneLess (true, 4, 1, 0, 0) (some .boolean) "noneLess") (ha1 : k_st a1 = (11, n1)) (ha2 : k_st a2 = (11, n2)) (p3 : Int32) (M : k_M) : Sm Z G emI (true, 4, 1, 0, 0) (0, 0) 0 [(0, k_ra Z a1), (1, k_ra Z a2), (2, Value.int p3)] [] M (f_X10_noneLess a1 n1 a2 n2 p3 M) := by
  show Sm Z G emI _ _ _ _ _ _ (f_X10_noneLess_2 a1 n1 a2 n2 k_fu p3 0 M (fun M_ => f_X10_noneLess_16 a1 n1 a2 n2 M_) (fun M_ => f_X10_noneLess_24 a1 n1 a2 n2 M_))
  refine x_iconst C (v := 0) (k_dg dt_X10_noneLess_0 0 0 (.iconst 0) 1 rfl) (by decide) ?_
  refine x_istore_n C (lv' := [(3, Value.int 0), (0, k_ra Z a1), (1, k_ra Z a2), (2, Value.int p3)]) (k_dg dt_X10_noneLess_0 1 1 (.istore_n 3) 1 rfl) (by decide) rfl ?_
  refine x_lv [1, 2, 3, 0] rfl ?_
  exact m_X10_noneLess_2 C ha1 ha2 (fun M_ => f_X10_noneLess_16 a1 n1 a2 n2 M_) (fun M_ => f_X10_noneLess_24 a1 n1 a2 n2 M_) (fun M_ => m_X10_noneLess_16 C ha1 ha2 M_) (fun M_ => m_X10_noneLess_24 C ha1 ha2 M_) k_fu p3 0 M
theorem c_X10_noneLess {Z : k_Z} (hg : k_Gd Z) (l : Launch) (a1 : Nat) (n1 : Nat) (a2 : Nat) (n2 : Nat) (p3 : Int32) (M : k_M) (ha1 : k_st a1 = (11, n1)) (ha2 : k_st a2 = (11, n2)) : Con true Z l yX10_noneLess cX10_noneLess 4 (some .boolean) 1 0 0 emI [k_ra Z a1, k_ra Z a2, Value.int p3] M (f_X10_noneLess a1 n1 a2 n2 p3 M) := k_con hg (by decide) (Nat.le_of_ble_eq_true rfl) (fun G hl C => m_X10_noneLess_0 C ha1 ha2 p3 M)
theorem dt_X10_isNoWorseThan_0 : k_dec cX10_isNoWorseThan [(0, .aload_n 0, 1), (1, .getfield 36, 3), (4, .aload_n 1, 1), (5, .getfield 36, 3), (8, .if_icmp .eq 5, 3), (11, .iconst 0, 1), (12, .ireturn, 1), (13, .aload_n 0, 1), (14, .getfield 42, 3), (17, .aload_n 1, 1), (18, .getfield 42, 3), (21, .iconst 3, 1), (22, .invokestatic 144, 3), (25, .ifCond .eq 61, 3), (28, .aload_n 0, 1), (29, .getfield 10, 3), (32, .getfield 109, 3), (35, .aload_n 1, 1), (36, .getfield 10, 3), (39, .getfield 109, 3), (42, .aload_n 0, 1), (43, .getfield 10, 3), (46, .getfield 148, 3), (49, .invokestatic 144, 3), (52, .ifCond .eq 34, 3), (55, .aload_n 0, 1), (56, .getfield 10, 3), (59, .getfield 119, 3), (62, .aload_n 1, 1), (63, .getfield 10, 3), (66, .getfield 119, 3), (69, .aload_n 0, 1), (70, .getfield 10, 3), (73, .getfield 151, 3), (76, .invokestatic 144, 3), (79, .ifCond .eq 7, 3), (82, .iconst 1, 1), (83, .goto 4, 3), (86, .iconst 0, 1), (87, .ireturn, 1)] = true := by decide +kernel
def f_X10_isNoWorseThan (w : Nat) (v : Nat) (M : k_M) : Option (Int32 × k_M) := if (M.1 w 4) = (M.1 v 4) then bd (f_X10_noneLess (w + 17) 3 (v + 17) 3 3 M) (fun r1 M2 => if r1 = 0 then some (0, M2) else bd (f_X10_noneLess (w + 5) 8 (v + 5) 8 (M2.1 (w + 1) 0) M2) (fun r3 M4 => if r3 = 0 then some (0, M4) else bd (f_X10_noneLess (w + 12) 12 (v + 12) 12 (M4.1 (w + 1) 7) M4) (fun r5 M6 => if r5 = 0 then some (0, M6) else some (1, M6)))) else some (0, M)
theorem m_X10_isNoWorseThan_0 {Z : k_Z} {G : k_G} {w : Nat} {v : Nat} (C : k_C Z G RX10 cX10_isNoWorseThan (true, 2, 2, 0, 0) (some .boolean) "isNoWorseThan") (hw : isW w) (hv : isW v) (M : k_M) : Sm Z G emI (true, 2, 2, 0, 0) (0, 0) 0 [(0, k_ra Z w), (1, k_ra Z v)] [] M (f_X10_isNoWorseThan w v M) := by
  show Sm Z G emI _ _ _ _ _ _ (if (M.1 w 4) = (M.1 v 4) then bd (f_X10_noneLess (w + 17) 3 (v + 17) 3 3 M) (fun r1 M2 => if r1 = 0 then some (0, M2) else bd (f_X10_noneLess (w + 5) 8 (v + 5) 8 (M2.1 (w + 1) 0) M2) (fun r3 M4 => if r3 = 0 then some (0, M4) else bd (f_X10_noneLess (w + 12) 12 (v + 12) 12 (M4.1 (w + 1) 7) M4) (fun r5 M6 => if r5 = 0 then some (0, M6) else some (1, M6)))) else some (0, M))
  refine x_aload_n C (k_dg dt_X10_isNoWorseThan_0 0 0 (.aload_n 0) 1 rfl) 0 rfl ?_
  refine x_getI C (a := w) (j := 4) rfl (kW 0 hw rfl) (by decide) fl_RX10_36 rfl (k_dg dt_X10_isNoWorseThan_0 1 1 (.getfield 36) 3 rfl) ?_
  refine x_aload_n C (k_dg dt_X10_isNoWorseThan_0 2 4 (.aload_n 1) 1 rfl) 1 rfl ?_
  refine x_getI C (a := v) (j := 4) rfl (kW 0 hv rfl) (by decide) fl_RX10_36 rfl (k_dg dt_X10_isNoWorseThan_0 3 5 (.getfield 36) 3 rfl) ?_
  refine x_icmp_eq C (tgt := 13) (k_dg dt_X10_isNoWorseThan_0 4 8 (.if_icmp .eq 5) 3 rfl) (by decide) (fun _ => ?_) (fun _ => ?_)
  · refine x_aload_n C (k_dg dt_X10_isNoWorseThan_0 7 13 (.aload_n 0) 1 rfl) 0 rfl ?_
    refine x_getR C (a := w) (j := 6) (w + 17) rfl (kW 0 hw rfl) (by decide) fl_RX10_42 rfl rfl rfl (k_dg dt_X10_isNoWorseThan_0 8 14 (.getfield 42) 3 rfl) ?_
    refine x_aload_n C (k_dg dt_X10_isNoWorseThan_0 9 17 (.aload_n 1) 1 rfl) 1 rfl ?_
    refine x_getR C (a := v) (j := 6) (v + 17) rfl (kW 0 hv rfl) (by decide) fl_RX10_42 rfl rfl rfl (k_dg dt_X10_isNoWorseThan_0 10 18 (.getfield 42) 3 rfl) ?_
    refine x_iconst C (v := 3) (k_dg dt_X10_isNoWorseThan_0 11 21 (.iconst 3) 1 rfl) (by decide) ?_
    refine x_callS C (vs := [k_ra Z (w + 17), k_ra Z (v + 17), Value.int 3]) (rest := []) (c_X10_noneLess C.2.2.2.2.2.2.2.2.2 G.2.1 (w + 17) 3 (v + 17) 3 3 M (kW 17 hw rfl) (kW 17 hv rfl)) cy_X10_noneLess lk_RX10_144 stt_X10_noneLess (by decide) (by decide) (by decide) (by decide) rfl rfl (Nat.le_of_ble_eq_true rfl) (k_dg dt_X10_isNoWorseThan_0 12 22 (.invokestatic 144) 3 rfl) (fun r1 M2 => ?_)
    show Sm Z G _ _ _ _ [(0, k_ra Z w), (1, k_ra Z v)] [Value.int r1] _ _
    refine x_if_eq C (tgt := 86) (k_dg dt_X10_isNoWorseThan_0 13 25 (.ifCond .eq 61) 3 rfl) (by decide) (fun _ => ?_) (fun _ => ?_)
    · refine x_iconst C (v := 0) (k_dg dt_X10_isNoWorseThan_0 38 86 (.iconst 0) 1 rfl) (by decide) ?_
      exact x_zret C (by decide) (by decide) rfl (k_dg dt_X10_isNoWorseThan_0 39 87 (.ireturn) 1 rfl)
    · refine x_aload_n C (k_dg dt_X10_isNoWorseThan_0 14 28 (.aload_n 0) 1 rfl) 0 rfl ?_
      refine x_getR C (a := w) (j := 0) (w + 1) rfl (kW 0 hw rfl) (by decide) fl_RX10_10 rfl rfl rfl (k_dg dt_X10_isNoWorseThan_0 15 29 (.getfield 10) 3 rfl) ?_
      refine x_getR C (a := w + 1) (j := 4) (w + 5) rfl (kW 1 hw rfl) (by decide) fl_RX10_109 rfl rfl rfl (k_dg dt_X10_isNoWorseThan_0 16 32 (.getfield 109) 3 rfl) ?_
      refine x_aload_n C (k_dg dt_X10_isNoWorseThan_0 17 35 (.aload_n 1) 1 rfl) 1 rfl ?_
      refine x_getR C (a := v) (j := 0) (v + 1) rfl (kW 0 hv rfl) (by decide) fl_RX10_10 rfl rfl rfl (k_dg dt_X10_isNoWorseThan_0 18 36 (.getfield 10) 3 rfl) ?_
      refine x_getR C (a := v + 1) (j := 4) (v + 5) rfl (kW 1 hv rfl) (by decide) fl_RX10_109 rfl rfl rfl (k_dg dt_X10_isNoWorseThan_0 19 39 (.getfield 109) 3 rfl) ?_
      refine x_aload_n C (k_dg dt_X10_isNoWorseThan_0 20 42 (.aload_n 0) 1 rfl) 0 rfl ?_
      refine x_getR C (a := w) (j := 0) (w + 1) rfl (kW 0 hw rfl) (by decide) fl_RX10_10 rfl rfl rfl (k_dg dt_X10_isNoWorseThan_0 21 43 (.getfield 10) 3 rfl) ?_
      refine x_getI C (a := w + 1) (j := 0) rfl (kW 1 hw rfl) (by decide) fl_RX10_148 rfl (k_dg dt_X10_isNoWorseThan_0 22 46 (.getfield 148) 3 rfl) ?_
      refine x_callS C (vs := [k_ra Z (w + 5), k_ra Z (v + 5), Value.int (M2.1 (w + 1) 0)]) (rest := []) (c_X10_noneLess C.2.2.2.2.2.2.2.2.2 G.2.1 (w + 5) 8 (v + 5) 8 (M2.1 (w + 1) 0) M2 (kW 5 hw rfl) (kW 5 hv rfl)) cy_X10_noneLess lk_RX10_144 stt_X10_noneLess (by decide) (by decide) (by decide) (by decide) rfl rfl (Nat.le_of_ble_eq_true rfl) (k_dg dt_X10_isNoWorseThan_0 23 49 (.invokestatic 144) 3 rfl) (fun r3 M4 => ?_)
      show Sm Z G _ _ _ _ [(0, k_ra Z w), (1, k_ra Z v)] [Value.int r3] _ _
      refine x_if_eq C (tgt := 86) (k_dg dt_X10_isNoWorseThan_0 24 52 (.ifCond .eq 34) 3 rfl) (by decide) (fun _ => ?_) (fun _ => ?_)
      · refine x_iconst C (v := 0) (k_dg dt_X10_isNoWorseThan_0 38 86 (.iconst 0) 1 rfl) (by decide) ?_
        exact x_zret C (by decide) (by decide) rfl (k_dg dt_X10_isNoWorseThan_0 39 87 (.ireturn) 1 rfl)
      · refine x_aload_n C (k_dg dt_X10_isNoWorseThan_0 25 55 (.aload_n 0) 1 rfl) 0 rfl ?_
        refine x_getR C (a := w) (j := 0) (w + 1) rfl (kW 0 hw rfl) (by decide) fl_RX10_10 rfl rfl rfl (k_dg dt_X10_isNoWorseThan_0 26 56 (.getfield 10) 3 rfl) ?_
        refine x_getR C (a := w + 1) (j := 12) (w + 12) rfl (kW 1 hw rfl) (by decide) fl_RX10_119 rfl rfl rfl (k_dg dt_X10_isNoWorseThan_0 27 59 (.getfield 119) 3 rfl) ?_
        refine x_aload_n C (k_dg dt_X10_isNoWorseThan_0 28 62 (.aload_n 1) 1 rfl) 1 rfl ?_
        refine x_getR C (a := v) (j := 0) (v + 1) rfl (kW 0 hv rfl) (by decide) fl_RX10_10 rfl rfl rfl (k_dg dt_X10_isNoWorseThan_0 29 63 (.getfield 10) 3 rfl) ?_
        refine x_getR C (a := v + 1) (j := 12) (v + 12) rfl (kW 1 hv rfl) (by decide) fl_RX10_119 rfl rfl rfl (k_dg dt_X10_isNoWorseThan_0 30 66 (.getfield 119) 3 rfl) ?_
        refine x_aload_n C (k_dg dt_X10_isNoWorseThan_0 31 69 (.aload_n 0) 1 rfl) 0 rfl ?_
        refine x_getR C (a := w) (j := 0) (w + 1) rfl (kW 0 hw rfl) (by decide) fl_RX10_10 rfl rfl rfl (k_dg dt_X10_isNoWorseThan_0 32 70 (.getfield 10) 3 rfl) ?_
        refine x_getI C (a := w + 1) (j := 7) rfl (kW 1 hw rfl) (by decide) fl_RX10_151 rfl (k_dg dt_X10_isNoWorseThan_0 33 73 (.getfield 151) 3 rfl) ?_
        refine x_callS C (vs := [k_ra Z (w + 12), k_ra Z (v + 12), Value.int (M4.1 (w + 1) 7)]) (rest := []) (c_X10_noneLess C.2.2.2.2.2.2.2.2.2 G.2.1 (w + 12) 12 (v + 12) 12 (M4.1 (w + 1) 7) M4 (kW 12 hw rfl) (kW 12 hv rfl)) cy_X10_noneLess lk_RX10_144 stt_X10_noneLess (by decide) (by decide) (by decide) (by decide) rfl rfl (Nat.le_of_ble_eq_true rfl) (k_dg dt_X10_isNoWorseThan_0 34 76 (.invokestatic 144) 3 rfl) (fun r5 M6 => ?_)
        show Sm Z G _ _ _ _ [(0, k_ra Z w), (1, k_ra Z v)] [Value.int r5] _ _
        refine x_if_eq C (tgt := 86) (k_dg dt_X10_isNoWorseThan_0 35 79 (.ifCond .eq 7) 3 rfl) (by decide) (fun _ => ?_) (fun _ => ?_)
        · refine x_iconst C (v := 0) (k_dg dt_X10_isNoWorseThan_0 38 86 (.iconst 0) 1 rfl) (by decide) ?_
          exact x_zret C (by decide) (by decide) rfl (k_dg dt_X10_isNoWorseThan_0 39 87 (.ireturn) 1 rfl)
        · refine x_iconst C (v := 1) (k_dg dt_X10_isNoWorseThan_0 36 82 (.iconst 1) 1 rfl) (by decide) ?_
          refine x_goto C (tgt := 87) (k_dg dt_X10_isNoWorseThan_0 37 83 (.goto 4) 3 rfl) (by decide) ?_
          exact x_zret C (by decide) (by decide) rfl (k_dg dt_X10_isNoWorseThan_0 39 87 (.ireturn) 1 rfl)
  · refine x_iconst C (v := 0) (k_dg dt_X10_isNoWorseThan_0 5 11 (.iconst 0) 1 rfl) (by decide) ?_
    exact x_zret C (by decide) (by decide) rfl (k_dg dt_X10_isNoWorseThan_0 6 12 (.ireturn) 1 rfl)
theorem c_X10_isNoWorseThan {Z : k_Z} (hg : k_Gd Z) (l : Launch) (w : Nat) (v : Nat) (M : k_M) (hw : isW w) (hv : isW v) : Con true Z l yX10_isNoWorseThan cX10_isNoWorseThan 2 (some .boolean) 2 0 0 emI [k_ra Z w, k_ra Z v] M (f_X10_isNoWorseThan w v M) := k_con hg (by decide) (Nat.le_of_ble_eq_true rfl) (fun G hl C => m_X10_isNoWorseThan_0 C hw hv M)
