theorem iu_5 : ∀ w ∈ u_ws RX7 TX7 6, w ∈ lw_tbl ∧ goodWord w = true := k_inU _ [148, 150, 152, 154, 156, 158] (by decide +kernel) (by decide +kernel)
theorem tb_5 : k_tbs 5 := fun r hr => by cases hr; exact ⟨⟨tyX7, tyX7_ok⟩, nmX7⟩
theorem fl_RX7_13 : k_FL RX7 13 5 1 := ⟨(RX7, TX7, 6), "WheelCity$Tape", rfl, by decide, iu_5, Or.inl (List.mem_of_getElem? (i := 142) (by decide +kernel)), Or.inl rfl⟩
theorem fl_RX7_17 : k_FL RX7 17 5 2 := ⟨(RX7, TX7, 6), "WheelCity$Tape", rfl, by decide, iu_5, Or.inl (List.mem_of_getElem? (i := 144) (by decide +kernel)), Or.inl rfl⟩
theorem fl_RX7_20 : k_FL RX7 20 5 3 := ⟨(RX7, TX7, 6), "WheelCity$Tape", rfl, by decide, iu_5, Or.inl (List.mem_of_getElem? (i := 145) (by decide +kernel)), Or.inl rfl⟩
theorem fl_RX7_23 : k_FL RX7 23 5 4 := ⟨(RX7, TX7, 6), "WheelCity$Tape", rfl, by decide, iu_5, Or.inl (List.mem_of_getElem? (i := 146) (by decide +kernel)), Or.inl rfl⟩
theorem fl_RX7_26 : k_FL RX7 26 5 5 := ⟨(RX7, TX7, 6), "WheelCity$Tape", rfl, by decide, iu_5, Or.inl (List.mem_of_getElem? (i := 147) (by decide +kernel)), Or.inl rfl⟩
theorem fl_RX7_47 : k_FL RX7 47 2 7 := ⟨(RX3, TX3, 16), "WheelCity$Land", rfl, by decide, iu_2, Or.inr (List.mem_of_getElem? (i := 193) (by decide +kernel)), Or.inl rfl⟩
theorem fl_RX7_57 : k_FL RX7 57 2 0 := ⟨(RX3, TX3, 16), "WheelCity$Land", rfl, by decide, iu_2, Or.inr (List.mem_of_getElem? (i := 176) (by decide +kernel)), Or.inl rfl⟩
theorem fl_RX7_9 : k_FL RX7 9 5 0 := ⟨(RX7, TX7, 6), "WheelCity$Tape", rfl, by decide, iu_5, Or.inl (List.mem_of_getElem? (i := 141) (by decide +kernel)), Or.inl rfl⟩
theorem pt_5_1 : k_cls 5 1 .int := fun r hr => by cases hr; exact ⟨rfl, by decide +kernel⟩
theorem pt_5_2 : k_cls 5 2 .int := fun r hr => by cases hr; exact ⟨rfl, by decide +kernel⟩
theorem pt_5_3 : k_cls 5 3 .int := fun r hr => by cases hr; exact ⟨rfl, by decide +kernel⟩
theorem pt_5_4 : k_cls 5 4 .int := fun r hr => by cases hr; exact ⟨rfl, by decide +kernel⟩
theorem pt_5_5 : k_cls 5 5 .int := fun r hr => by cases hr; exact ⟨rfl, by decide +kernel⟩
theorem cy_X3_addPlace : k_cy yX3_addPlace cX3_addPlace 5 (some .int) 3 := ⟨List.mem_of_getElem? (i := 512) (by decide +kernel), List.mem_of_getElem? (i := 110) (by decide +kernel), ⟨by decide +kernel, by decide +kernel⟩, by decide +kernel⟩
theorem cy_X3_addWay : k_cy yX3_addWay cX3_addWay 7 (some .int) 5 := ⟨List.mem_of_getElem? (i := 487) (by decide +kernel), List.mem_of_getElem? (i := 110) (by decide +kernel), ⟨by decide +kernel, by decide +kernel⟩, by decide +kernel⟩
theorem cy_X3_canJoin : k_cy yX3_canJoin cX3_canJoin 2 (some .boolean) 1 := ⟨List.mem_of_getElem? (i := 473) (by decide +kernel), List.mem_of_getElem? (i := 110) (by decide +kernel), ⟨by decide +kernel, by decide +kernel⟩, by decide +kernel⟩
theorem cy_X3_clear : k_cy yX3_clear cX3_clear 1 none 0 := ⟨List.mem_of_getElem? (i := 389) (by decide +kernel), List.mem_of_getElem? (i := 110) (by decide +kernel), ⟨by decide +kernel, by decide +kernel⟩, by decide +kernel⟩
theorem cy_X7_isEndOfPiece : k_cy yX7_isEndOfPiece cX7_isEndOfPiece 1 (some .boolean) 0 := ⟨List.mem_of_getElem? (i := 483) (by decide +kernel), List.mem_of_getElem? (i := 108) (by decide +kernel), ⟨by decide +kernel, by decide +kernel⟩, by decide +kernel⟩
theorem cy_X7_isFreePlace : k_cy yX7_isFreePlace cX7_isFreePlace 2 (some .boolean) 1 := ⟨List.mem_of_getElem? (i := 465) (by decide +kernel), List.mem_of_getElem? (i := 108) (by decide +kernel), ⟨by decide +kernel, by decide +kernel⟩, by decide +kernel⟩
theorem cy_X7_isNamed : k_cy yX7_isNamed cX7_isNamed 3 (some .boolean) 1 := ⟨List.mem_of_getElem? (i := 409) (by decide +kernel), List.mem_of_getElem? (i := 108) (by decide +kernel), ⟨by decide +kernel, by decide +kernel⟩, by decide +kernel⟩
theorem cy_X7_isNumber : k_cy yX7_isNumber cX7_isNumber 3 (some .boolean) 2 := ⟨List.mem_of_getElem? (i := 469) (by decide +kernel), List.mem_of_getElem? (i := 108) (by decide +kernel), ⟨by decide +kernel, by decide +kernel⟩, by decide +kernel⟩
theorem cy_X7_kindNamed : k_cy yX7_kindNamed cX7_kindNamed 1 (some .int) 0 := ⟨List.mem_of_getElem? (i := 495) (by decide +kernel), List.mem_of_getElem? (i := 108) (by decide +kernel), ⟨by decide +kernel, by decide +kernel⟩, by decide +kernel⟩
theorem cy_X7_numberHere : k_cy yX7_numberHere cX7_numberHere 3 (some .int) 0 := ⟨List.mem_of_getElem? (i := 400) (by decide +kernel), List.mem_of_getElem? (i := 108) (by decide +kernel), ⟨by decide +kernel, by decide +kernel⟩, by decide +kernel⟩
theorem cy_X7_readMonths : k_cy yX7_readMonths cX7_readMonths 4 (some .int) 0 := ⟨List.mem_of_getElem? (i := 477) (by decide +kernel), List.mem_of_getElem? (i := 108) (by decide +kernel), ⟨by decide +kernel, by decide +kernel⟩, by decide +kernel⟩
theorem cy_X7_readPiece : k_cy yX7_readPiece cX7_readPiece 3 (some .boolean) 1 := ⟨List.mem_of_getElem? (i := 404) (by decide +kernel), List.mem_of_getElem? (i := 108) (by decide +kernel), ⟨by decide +kernel, by decide +kernel⟩, by decide +kernel⟩
theorem cy_X7_readPlace : k_cy yX7_readPlace cX7_readPlace 5 (some .boolean) 2 := ⟨List.mem_of_getElem? (i := 505) (by decide +kernel), List.mem_of_getElem? (i := 108) (by decide +kernel), ⟨by decide +kernel, by decide +kernel⟩, by decide +kernel⟩
theorem cy_X7_readWay : k_cy yX7_readWay cX7_readWay 7 (some .boolean) 1 := ⟨List.mem_of_getElem? (i := 461) (by decide +kernel), List.mem_of_getElem? (i := 108) (by decide +kernel), ⟨by decide +kernel, by decide +kernel⟩, by decide +kernel⟩
theorem cy_X7_sortOf : k_cy yX7_sortOf cX7_sortOf 1 (some .int) 1 := ⟨List.mem_of_getElem? (i := 396) (by decide +kernel), List.mem_of_getElem? (i := 108) (by decide +kernel), ⟨by decide +kernel, by decide +kernel⟩, by decide +kernel⟩
theorem cy_X7_step : k_cy yX7_step cX7_step 1 none 0 := ⟨List.mem_of_getElem? (i := 393) (by decide +kernel), List.mem_of_getElem? (i := 108) (by decide +kernel), ⟨by decide +kernel, by decide +kernel⟩, by decide +kernel⟩
theorem lk_RX7_29 : k_lk RX7 29 yX3_clear := Or.inr (List.mem_of_getElem? (i := 386) (by decide +kernel))
theorem lk_RX7_34 : k_lk RX7 34 yX7_step := Or.inl (List.mem_of_getElem? (i := 390) (by decide +kernel))
theorem lk_RX7_37 : k_lk RX7 37 yX7_readPiece := Or.inl (List.mem_of_getElem? (i := 401) (by decide +kernel))
theorem lk_RX7_43 : k_lk RX7 43 yX7_isNamed := Or.inl (List.mem_of_getElem? (i := 406) (by decide +kernel))
theorem lk_RX7_50 : k_lk RX7 50 yX7_readWay := Or.inl (List.mem_of_getElem? (i := 458) (by decide +kernel))
theorem lk_RX7_53 : k_lk RX7 53 yX7_kindNamed := Or.inl (List.mem_of_getElem? (i := 492) (by decide +kernel))
theorem lk_RX7_60 : k_lk RX7 60 yX7_readPlace := Or.inl (List.mem_of_getElem? (i := 502) (by decide +kernel))
theorem lk_RX7_64 : k_lk RX7 64 yX7_isNumber := Or.inl (List.mem_of_getElem? (i := 466) (by decide +kernel))
theorem lk_RX7_68 : k_lk RX7 68 yX3_isEndless := Or.inr (List.mem_of_getElem? (i := 506) (by decide +kernel))
theorem lk_RX7_72 : k_lk RX7 72 yX7_isEndOfPiece := Or.inl (List.mem_of_getElem? (i := 480) (by decide +kernel))
theorem lk_RX7_76 : k_lk RX7 76 yX3_addPlace := Or.inr (List.mem_of_getElem? (i := 509) (by decide +kernel))
theorem lk_RX7_80 : k_lk RX7 80 yX7_isFreePlace := Or.inl (List.mem_of_getElem? (i := 462) (by decide +kernel))
theorem lk_RX7_83 : k_lk RX7 83 yX7_readMonths := Or.inl (List.mem_of_getElem? (i := 474) (by decide +kernel))
theorem lk_RX7_86 : k_lk RX7 86 yX3_addWay := Or.inr (List.mem_of_getElem? (i := 484) (by decide +kernel))
theorem lk_RX7_94 : k_lk RX7 94 yX3_canJoin := Or.inr (List.mem_of_getElem? (i := 470) (by decide +kernel))
theorem lk_RX7_118 : k_lk RX7 118 yX7_sortOf := Or.inl (List.mem_of_getElem? (i := 394) (by decide +kernel))
theorem lk_RX7_122 : k_lk RX7 122 yX7_numberHere := Or.inl (List.mem_of_getElem? (i := 397) (by decide +kernel))
theorem im_X3_addPlace : Cond.instanceMethod yX3_addPlace ∈ lw_tbl := List.mem_of_getElem? (i := 511) (by decide +kernel)
theorem im_X3_addWay : Cond.instanceMethod yX3_addWay ∈ lw_tbl := List.mem_of_getElem? (i := 486) (by decide +kernel)
theorem im_X3_canJoin : Cond.instanceMethod yX3_canJoin ∈ lw_tbl := List.mem_of_getElem? (i := 472) (by decide +kernel)
theorem im_X3_clear : Cond.instanceMethod yX3_clear ∈ lw_tbl := List.mem_of_getElem? (i := 388) (by decide +kernel)
theorem im_X7_isEndOfPiece : Cond.instanceMethod yX7_isEndOfPiece ∈ lw_tbl := List.mem_of_getElem? (i := 482) (by decide +kernel)
theorem im_X7_isFreePlace : Cond.instanceMethod yX7_isFreePlace ∈ lw_tbl := List.mem_of_getElem? (i := 464) (by decide +kernel)
theorem im_X7_isNamed : Cond.instanceMethod yX7_isNamed ∈ lw_tbl := List.mem_of_getElem? (i := 408) (by decide +kernel)
theorem im_X7_isNumber : Cond.instanceMethod yX7_isNumber ∈ lw_tbl := List.mem_of_getElem? (i := 468) (by decide +kernel)
theorem im_X7_kindNamed : Cond.instanceMethod yX7_kindNamed ∈ lw_tbl := List.mem_of_getElem? (i := 494) (by decide +kernel)
theorem im_X7_numberHere : Cond.instanceMethod yX7_numberHere ∈ lw_tbl := List.mem_of_getElem? (i := 399) (by decide +kernel)
theorem im_X7_readMonths : Cond.instanceMethod yX7_readMonths ∈ lw_tbl := List.mem_of_getElem? (i := 476) (by decide +kernel)
theorem im_X7_readPiece : Cond.instanceMethod yX7_readPiece ∈ lw_tbl := List.mem_of_getElem? (i := 403) (by decide +kernel)
theorem im_X7_readPlace : Cond.instanceMethod yX7_readPlace ∈ lw_tbl := List.mem_of_getElem? (i := 504) (by decide +kernel)
theorem im_X7_readWay : Cond.instanceMethod yX7_readWay ∈ lw_tbl := List.mem_of_getElem? (i := 460) (by decide +kernel)
theorem im_X7_step : Cond.instanceMethod yX7_step ∈ lw_tbl := List.mem_of_getElem? (i := 392) (by decide +kernel)
theorem se_X3_addPlace : Cond.selects yX3_addPlace.cls yX3_addPlace yX3_addPlace ∈ lw_tbl := List.mem_of_getElem? (i := 17) (by decide +kernel)
theorem se_X3_addWay : Cond.selects yX3_addWay.cls yX3_addWay yX3_addWay ∈ lw_tbl := List.mem_of_getElem? (i := 13) (by decide +kernel)
theorem se_X3_canJoin : Cond.selects yX3_canJoin.cls yX3_canJoin yX3_canJoin ∈ lw_tbl := List.mem_of_getElem? (i := 10) (by decide +kernel)
theorem se_X3_clear : Cond.selects yX3_clear.cls yX3_clear yX3_clear ∈ lw_tbl := List.mem_of_getElem? (i := 2) (by decide +kernel)
theorem se_X7_isEndOfPiece : Cond.selects yX7_isEndOfPiece.cls yX7_isEndOfPiece yX7_isEndOfPiece ∈ lw_tbl := List.mem_of_getElem? (i := 12) (by decide +kernel)
theorem se_X7_isFreePlace : Cond.selects yX7_isFreePlace.cls yX7_isFreePlace yX7_isFreePlace ∈ lw_tbl := List.mem_of_getElem? (i := 8) (by decide +kernel)
theorem se_X7_isNamed : Cond.selects yX7_isNamed.cls yX7_isNamed yX7_isNamed ∈ lw_tbl := List.mem_of_getElem? (i := 6) (by decide +kernel)
theorem se_X7_isNumber : Cond.selects yX7_isNumber.cls yX7_isNumber yX7_isNumber ∈ lw_tbl := List.mem_of_getElem? (i := 9) (by decide +kernel)
theorem se_X7_kindNamed : Cond.selects yX7_kindNamed.cls yX7_kindNamed yX7_kindNamed ∈ lw_tbl := List.mem_of_getElem? (i := 15) (by decide +kernel)
theorem se_X7_numberHere : Cond.selects yX7_numberHere.cls yX7_numberHere yX7_numberHere ∈ lw_tbl := List.mem_of_getElem? (i := 4) (by decide +kernel)
theorem se_X7_readMonths : Cond.selects yX7_readMonths.cls yX7_readMonths yX7_readMonths ∈ lw_tbl := List.mem_of_getElem? (i := 11) (by decide +kernel)
theorem se_X7_readPiece : Cond.selects yX7_readPiece.cls yX7_readPiece yX7_readPiece ∈ lw_tbl := List.mem_of_getElem? (i := 5) (by decide +kernel)
theorem se_X7_readPlace : Cond.selects yX7_readPlace.cls yX7_readPlace yX7_readPlace ∈ lw_tbl := List.mem_of_getElem? (i := 16) (by decide +kernel)
theorem se_X7_readWay : Cond.selects yX7_readWay.cls yX7_readWay yX7_readWay ∈ lw_tbl := List.mem_of_getElem? (i := 7) (by decide +kernel)
theorem se_X7_step : Cond.selects yX7_step.cls yX7_step yX7_step ∈ lw_tbl := List.mem_of_getElem? (i := 3) (by decide +kernel)
theorem stt_X7_sortOf : Cond.static yX7_sortOf ∈ lw_tbl := List.mem_of_getElem? (i := 395) (by decide +kernel)
theorem sl_RX7_109 : Cond.methodLink RX7 109 yJ0_length_8abf5 ∈ lw_tbl := List.mem_of_getElem? (i := 410) (by decide +kernel)
theorem sl_RX7_114 : Cond.methodLink RX7 114 yJ0_charAt_5068e ∈ lw_tbl := List.mem_of_getElem? (i := 420) (by decide +kernel)
theorem dt_X7_takes_0 : k_dec cX7_takes [(0, .aload_n 0, 1), (1, .getfield 13, 3), (4, .iload_n 3, 1), (5, .iadd, 1), (6, .sipush 200, 3), (9, .if_icmp .le 5, 3), (12, .iconst 0, 1), (13, .ireturn, 1), (14, .iconst 0, 1), (15, .istore 4, 2), (17, .iload 4, 2), (19, .iload_n 3, 1), (20, .if_icmp .ge 40, 3), (23, .aload_n 0, 1), (24, .getfield 9, 3), (27, .aload_n 0, 1), (28, .getfield 13, 3), (31, .lload_n 1, 1), (32, .bipush 8, 2), (34, .iload 4, 2), (36, .imul, 1), (37, .lushr, 1), (38, .l2i, 1), (39, .sipush 255, 3), (42, .iand, 1), (43, .iastore, 1), (44, .aload_n 0, 1), (45, .dup, 1), (46, .getfield 13, 3), (49, .iconst 1, 1), (50, .iadd, 1), (51, .putfield 13, 3), (54, .iinc 4 1, 3), (57, .goto (-40), 3), (60, .iconst 1, 1), (61, .ireturn, 1)] = true := by decide +kernel
def f_X7_takes_17 : Nat → Int64 → Int32 → Int32 → k_M → (k_M → Option (Int32 × k_M)) → Option (Int32 × k_M)
  | 0, _, _, _, _, _ => none
  | n + 1, l1, l3, l4, M, kx60 => if l3 ≤ l4 then kx60 M else wrI M 2 200 (M.1 1 1) (((ushrL l1 (8 * l4)).toInt32) &&& 255) (fun M1 => bN (sI M1 1 1 ((M1.1 1 1) + 1)) (fun M2 => f_X7_takes_17 n l1 l3 (l4 + 1) M2 kx60))
theorem m_X7_takes_17 {Z : k_Z} {G : k_G} (C : k_C Z G RX7 cX7_takes (true, 5, 1, 0, 0) (some .boolean) "takes") (kx60 : k_M → Option (Int32 × k_M)) (Hx60 : ∀ (M : k_M), Sm Z G emI (true, 5, 1, 0, 0) (0, 0) 60 [] [] M (kx60 M)) : ∀ (n : Nat) (l1 : Int64) (l3 : Int32) (l4 : Int32) (M : k_M), Sm Z G emI (true, 5, 1, 0, 0) (0, 0) 17 [(0, k_ra Z 1), (1, Value.long l1), (3, Value.int l3), (4, Value.int l4)] [] M (f_X7_takes_17 n l1 l3 l4 M kx60)
  | 0, _, _, _, _ => x_none
  | n + 1, l1, l3, l4, M => by
    have ih := m_X7_takes_17 C kx60 Hx60 n
    show Sm Z G emI _ _ _ _ _ _ (if l3 ≤ l4 then kx60 M else wrI M 2 200 (M.1 1 1) (((ushrL l1 (8 * l4)).toInt32) &&& 255) (fun M1 => bN (sI M1 1 1 ((M1.1 1 1) + 1)) (fun M2 => f_X7_takes_17 n l1 l3 (l4 + 1) M2 kx60)))
    refine x_iload C (k_dg dt_X7_takes_0 10 17 (.iload 4) 2 rfl) 3 rfl ?_
    refine x_iload_n C (k_dg dt_X7_takes_0 11 19 (.iload_n 3) 1 rfl) 2 rfl ?_
    refine x_icmp_ge C (tgt := 60) (k_dg dt_X7_takes_0 12 20 (.if_icmp .ge 40) 3 rfl) (by decide) (fun _ => ?_) (fun _ => ?_)
    · refine x_lv [] rfl ?_
      exact Hx60 M
    · refine x_aload_n C (k_dg dt_X7_takes_0 13 23 (.aload_n 0) 1 rfl) 0 rfl ?_
      refine x_getR C (a := 1) (j := 0) 2 rfl rfl (by decide) fl_RX7_9 rfl rfl rfl (k_dg dt_X7_takes_0 14 24 (.getfield 9) 3 rfl) ?_
      refine x_aload_n C (k_dg dt_X7_takes_0 15 27 (.aload_n 0) 1 rfl) 0 rfl ?_
      refine x_getI C (a := 1) (j := 1) rfl rfl (by decide) fl_RX7_13 rfl (k_dg dt_X7_takes_0 16 28 (.getfield 13) 3 rfl) ?_
      refine x_lload_n C (k_dg dt_X7_takes_0 17 31 (.lload_n 1) 1 rfl) 1 rfl ?_
      refine x_bipush C (v := 8) (k_dg dt_X7_takes_0 18 32 (.bipush 8) 2 rfl) (by decide) ?_
      refine x_iload C (k_dg dt_X7_takes_0 19 34 (.iload 4) 2 rfl) 3 rfl ?_
      refine x_imul C (k_dg dt_X7_takes_0 20 36 (.imul) 1 rfl) ?_
      refine x_lushr C (k_dg dt_X7_takes_0 21 37 (.lushr) 1 rfl) ?_
      refine x_l2i C (k_dg dt_X7_takes_0 22 38 (.l2i) 1 rfl) ?_
      refine x_sipush C (v := 255) (k_dg dt_X7_takes_0 23 39 (.sipush 255) 3 rfl) (by decide) ?_
      refine x_iand C (k_dg dt_X7_takes_0 24 42 (.iand) 1 rfl) ?_
      refine x_iast C (a := 2) (n := 200) rfl rfl (k_dg dt_X7_takes_0 25 43 (.iastore) 1 rfl) (fun M1 => ?_)
      refine x_aload_n C (k_dg dt_X7_takes_0 26 44 (.aload_n 0) 1 rfl) 0 rfl ?_
      refine x_dup C (k_dg dt_X7_takes_0 27 45 (.dup) 1 rfl) rfl ?_
      refine x_getI C (a := 1) (j := 1) rfl rfl (by decide) fl_RX7_13 rfl (k_dg dt_X7_takes_0 28 46 (.getfield 13) 3 rfl) ?_
      refine x_iconst C (v := 1) (k_dg dt_X7_takes_0 29 49 (.iconst 1) 1 rfl) (by decide) ?_
      refine x_iadd C (k_dg dt_X7_takes_0 30 50 (.iadd) 1 rfl) ?_
      refine x_putI C (a := 1) (j := 1) rfl rfl (by decide) fl_RX7_13 rfl pt_5_1 tb_5 rfl rfl (k_dg dt_X7_takes_0 31 51 (.putfield 13) 3 rfl) (fun M2 => ?_)
      refine x_iinc C (v := 1) (lv' := [(4, Value.int (l4 + 1)), (0, k_ra Z 1), (1, Value.long l1), (3, Value.int l3)]) (k_dg dt_X7_takes_0 32 54 (.iinc 4 1) 3 rfl) 3 rfl (by decide) (by decide) rfl ?_
      refine x_goto C (tgt := 17) (k_dg dt_X7_takes_0 33 57 (.goto (-40)) 3 rfl) (by decide) ?_
      refine x_lv [1, 2, 3, 0] rfl ?_
      exact ih l1 l3 (l4 + 1) M2
def f_X7_takes_60 (M : k_M) : Option (Int32 × k_M) := some (1, M)
theorem m_X7_takes_60 {Z : k_Z} {G : k_G} (C : k_C Z G RX7 cX7_takes (true, 5, 1, 0, 0) (some .boolean) "takes") (M : k_M) : Sm Z G emI (true, 5, 1, 0, 0) (0, 0) 60 [] [] M (f_X7_takes_60 M) := by
  show Sm Z G emI _ _ _ _ _ _ (some (1, M))
  refine x_iconst C (v := 1) (k_dg dt_X7_takes_0 34 60 (.iconst 1) 1 rfl) (by decide) ?_
  exact x_zret C (by decide) (by decide) rfl (k_dg dt_X7_takes_0 35 61 (.ireturn) 1 rfl)
def f_X7_takes (p1 : Int64) (p2 : Int32) (M : k_M) : Option (Int32 × k_M) := if ((M.1 1 1) + p2) ≤ 200 then f_X7_takes_17 k_fu p1 p2 0 M (fun M_ => f_X7_takes_60 M_) else some (0, M)
theorem m_X7_takes_0 {Z : k_Z} {G : k_G} (C : k_C Z G RX7 cX7_takes (true, 5, 1, 0, 0) (some .boolean) "takes") (p1 : Int64) (p2 : Int32) (M : k_M) : Sm Z G emI (true, 5, 1, 0, 0) (0, 0) 0 [(0, k_ra Z 1), (1, Value.long p1), (3, Value.int p2)] [] M (f_X7_takes p1 p2 M) := by
  show Sm Z G emI _ _ _ _ _ _ (if ((M.1 1 1) + p2) ≤ 200 then f_X7_takes_17 k_fu p1 p2 0 M (fun M_ => f_X7_takes_60 M_) else some (0, M))
  refine x_aload_n C (k_dg dt_X7_takes_0 0 0 (.aload_n 0) 1 rfl) 0 rfl ?_
  refine x_getI C (a := 1) (j := 1) rfl rfl (by decide) fl_RX7_13 rfl (k_dg dt_X7_takes_0 1 1 (.getfield 13) 3 rfl) ?_
  refine x_iload_n C (k_dg dt_X7_takes_0 2 4 (.iload_n 3) 1 rfl) 2 rfl ?_
  refine x_iadd C (k_dg dt_X7_takes_0 3 5 (.iadd) 1 rfl) ?_
  refine x_sipush C (v := 200) (k_dg dt_X7_takes_0 4 6 (.sipush 200) 3 rfl) (by decide) ?_
  refine x_icmp_le C (tgt := 14) (k_dg dt_X7_takes_0 5 9 (.if_icmp .le 5) 3 rfl) (by decide) (fun _ => ?_) (fun _ => ?_)
  · refine x_iconst C (v := 0) (k_dg dt_X7_takes_0 8 14 (.iconst 0) 1 rfl) (by decide) ?_
    refine x_istore C (lv' := [(4, Value.int 0), (0, k_ra Z 1), (1, Value.long p1), (3, Value.int p2)]) (k_dg dt_X7_takes_0 9 15 (.istore 4) 2 rfl) (by decide) rfl ?_
    refine x_lv [1, 2, 3, 0] rfl ?_
    exact m_X7_takes_17 C (fun M_ => f_X7_takes_60 M_) (fun M_ => m_X7_takes_60 C M_) k_fu p1 p2 0 M
  · refine x_iconst C (v := 0) (k_dg dt_X7_takes_0 6 12 (.iconst 0) 1 rfl) (by decide) ?_
    exact x_zret C (by decide) (by decide) rfl (k_dg dt_X7_takes_0 7 13 (.ireturn) 1 rfl)
theorem c_X7_takes {Z : k_Z} (hg : k_Gd Z) (l : Launch) (p1 : Int64) (p2 : Int32) (M : k_M) : Con true Z l yX7_takes cX7_takes 5 (some .boolean) 1 0 0 emI [k_ra Z 1, Value.long p1, Value.int p2] M (f_X7_takes p1 p2 M) := k_con hg (by decide) (Nat.le_of_ble_eq_true rfl) (fun G hl C => m_X7_takes_0 C p1 p2 M)
theorem dt_X7_sortOf_0 : k_dec cX7_sortOf [(0, .iload_n 0, 1), (1, .bipush 97, 2), (3, .if_icmp .lt 11, 3), (6, .iload_n 0, 1), (7, .bipush 122, 2), (9, .if_icmp .gt 5, 3), (12, .iconst 1, 1), (13, .ireturn, 1), (14, .iload_n 0, 1), (15, .bipush 48, 2), (17, .if_icmp .lt 13, 3), (20, .iload_n 0, 1), (21, .bipush 57, 2), (23, .if_icmp .gt 7, 3), (26, .iconst 2, 1), (27, .goto 4, 3), (30, .iconst 3, 1), (31, .ireturn, 1)] = true := by decide +kernel
def f_X7_sortOf_30 (M : k_M) : Option (Int32 × k_M) := some (3, M)
theorem m_X7_sortOf_30 {Z : k_Z} {G : k_G} (C : k_C Z G RX7 cX7_sortOf (true, 1, 1, 0, 0) (some .int) "sortOf") (M : k_M) : Sm Z G emI (true, 1, 1, 0, 0) (0, 0) 30 [] [] M (f_X7_sortOf_30 M) := by
  show Sm Z G emI _ _ _ _ _ _ (some (3, M))
  refine x_iconst C (v := 3) (k_dg dt_X7_sortOf_0 16 30 (.iconst 3) 1 rfl) (by decide) ?_
  exact x_iret C (by decide) (by decide) (k_dg dt_X7_sortOf_0 17 31 (.ireturn) 1 rfl)
def f_X7_sortOf_14 (l0 : Int32) (M : k_M) : Option (Int32 × k_M) := if l0 < 48 then f_X7_sortOf_30 M else if 57 < l0 then f_X7_sortOf_30 M else some (2, M)
theorem m_X7_sortOf_14 {Z : k_Z} {G : k_G} (C : k_C Z G RX7 cX7_sortOf (true, 1, 1, 0, 0) (some .int) "sortOf") (l0 : Int32) (M : k_M) : Sm Z G emI (true, 1, 1, 0, 0) (0, 0) 14 [(0, Value.int l0)] [] M (f_X7_sortOf_14 l0 M) := by
  show Sm Z G emI _ _ _ _ _ _ (if l0 < 48 then f_X7_sortOf_30 M else if 57 < l0 then f_X7_sortOf_30 M else some (2, M))
  refine x_iload_n C (k_dg dt_X7_sortOf_0 8 14 (.iload_n 0) 1 rfl) 0 rfl ?_
  refine x_bipush C (v := 48) (k_dg dt_X7_sortOf_0 9 15 (.bipush 48) 2 rfl) (by decide) ?_
  refine x_icmp_lt C (tgt := 30) (k_dg dt_X7_sortOf_0 10 17 (.if_icmp .lt 13) 3 rfl) (by decide) (fun _ => ?_) (fun _ => ?_)
  · refine x_lv [] rfl ?_
    exact m_X7_sortOf_30 C M
  · refine x_iload_n C (k_dg dt_X7_sortOf_0 11 20 (.iload_n 0) 1 rfl) 0 rfl ?_
    refine x_bipush C (v := 57) (k_dg dt_X7_sortOf_0 12 21 (.bipush 57) 2 rfl) (by decide) ?_
    refine x_icmp_gt C (tgt := 30) (k_dg dt_X7_sortOf_0 13 23 (.if_icmp .gt 7) 3 rfl) (by decide) (fun _ => ?_) (fun _ => ?_)
    · refine x_lv [] rfl ?_
      exact m_X7_sortOf_30 C M
    · refine x_iconst C (v := 2) (k_dg dt_X7_sortOf_0 14 26 (.iconst 2) 1 rfl) (by decide) ?_
      refine x_goto C (tgt := 31) (k_dg dt_X7_sortOf_0 15 27 (.goto 4) 3 rfl) (by decide) ?_
      exact x_iret C (by decide) (by decide) (k_dg dt_X7_sortOf_0 17 31 (.ireturn) 1 rfl)
def f_X7_sortOf (p1 : Int32) (M : k_M) : Option (Int32 × k_M) := if p1 < 97 then f_X7_sortOf_14 p1 M else if 122 < p1 then f_X7_sortOf_14 p1 M else some (1, M)
theorem m_X7_sortOf_0 {Z : k_Z} {G : k_G} (C : k_C Z G RX7 cX7_sortOf (true, 1, 1, 0, 0) (some .int) "sortOf") (p1 : Int32) (M : k_M) : Sm Z G emI (true, 1, 1, 0, 0) (0, 0) 0 [(0, Value.int p1)] [] M (f_X7_sortOf p1 M) := by
  show Sm Z G emI _ _ _ _ _ _ (if p1 < 97 then f_X7_sortOf_14 p1 M else if 122 < p1 then f_X7_sortOf_14 p1 M else some (1, M))
  refine x_iload_n C (k_dg dt_X7_sortOf_0 0 0 (.iload_n 0) 1 rfl) 0 rfl ?_
  refine x_bipush C (v := 97) (k_dg dt_X7_sortOf_0 1 1 (.bipush 97) 2 rfl) (by decide) ?_
  refine x_icmp_lt C (tgt := 14) (k_dg dt_X7_sortOf_0 2 3 (.if_icmp .lt 11) 3 rfl) (by decide) (fun _ => ?_) (fun _ => ?_)
  · exact m_X7_sortOf_14 C p1 M
  · refine x_iload_n C (k_dg dt_X7_sortOf_0 3 6 (.iload_n 0) 1 rfl) 0 rfl ?_
    refine x_bipush C (v := 122) (k_dg dt_X7_sortOf_0 4 7 (.bipush 122) 2 rfl) (by decide) ?_
    refine x_icmp_gt C (tgt := 14) (k_dg dt_X7_sortOf_0 5 9 (.if_icmp .gt 5) 3 rfl) (by decide) (fun _ => ?_) (fun _ => ?_)
    · exact m_X7_sortOf_14 C p1 M
    · refine x_iconst C (v := 1) (k_dg dt_X7_sortOf_0 6 12 (.iconst 1) 1 rfl) (by decide) ?_
      exact x_iret C (by decide) (by decide) (k_dg dt_X7_sortOf_0 7 13 (.ireturn) 1 rfl)
theorem c_X7_sortOf {Z : k_Z} (hg : k_Gd Z) (l : Launch) (p1 : Int32) (M : k_M) : Con true Z l yX7_sortOf cX7_sortOf 1 (some .int) 1 0 0 emI [Value.int p1] M (f_X7_sortOf p1 M) := k_con hg (by decide) (Nat.le_of_ble_eq_true rfl) (fun G hl C => m_X7_sortOf_0 C p1 M)
theorem dt_X7_numberHere_0 : k_dec cX7_numberHere [(0, .aload_n 0, 1), (1, .getfield 23, 3), (4, .aload_n 0, 1), (5, .getfield 20, 3), (8, .isub, 1), (9, .iconst 2, 1), (10, .if_icmp .le 7, 3), (13, .sipush 1000, 3), (16, .ireturn, 1), (17, .iconst 0, 1), (18, .istore_n 1, 1), (19, .aload_n 0, 1), (20, .getfield 20, 3), (23, .istore_n 2, 1), (24, .iload_n 2, 1), (25, .aload_n 0, 1), (26, .getfield 23, 3), (29, .if_icmp .ge 24, 3), (32, .iload_n 1, 1), (33, .bipush 10, 2), (35, .imul, 1), (36, .aload_n 0, 1), (37, .getfield 9, 3), (40, .iload_n 2, 1), (41, .iaload, 1), (42, .iadd, 1), (43, .bipush 48, 2), (45, .isub, 1), (46, .istore_n 1, 1), (47, .iinc 2 1, 3), (50, .goto (-26), 3), (53, .iload_n 1, 1), (54, .ireturn, 1)] = true := by decide +kernel
def f_X7_numberHere_24 : Nat → Int32 → Int32 → k_M → (Int32 → k_M → Option (Int32 × k_M)) → Option (Int32 × k_M)
  | 0, _, _, _, _ => none
  | n + 1, l1, l2, M, kx53 => if (M.1 1 4) ≤ l2 then kx53 l1 M else rdI M 2 200 l2 (fun v1 => bN (((l1 * 10) + v1) - 48) (fun v2 => f_X7_numberHere_24 n v2 (l2 + 1) M kx53))
theorem m_X7_numberHere_24 {Z : k_Z} {G : k_G} (C : k_C Z G RX7 cX7_numberHere (true, 3, 1, 0, 0) (some .int) "numberHere") (kx53 : Int32 → k_M → Option (Int32 × k_M)) (Hx53 : ∀ (l1 : Int32) (M : k_M), Sm Z G emI (true, 3, 1, 0, 0) (0, 0) 53 [(1, Value.int l1)] [] M (kx53 l1 M)) : ∀ (n : Nat) (l1 : Int32) (l2 : Int32) (M : k_M), Sm Z G emI (true, 3, 1, 0, 0) (0, 0) 24 [(0, k_ra Z 1), (1, Value.int l1), (2, Value.int l2)] [] M (f_X7_numberHere_24 n l1 l2 M kx53)
  | 0, _, _, _ => x_none
  | n + 1, l1, l2, M => by
    have ih := m_X7_numberHere_24 C kx53 Hx53 n
    show Sm Z G emI _ _ _ _ _ _ (if (M.1 1 4) ≤ l2 then kx53 l1 M else rdI M 2 200 l2 (fun v1 => bN (((l1 * 10) + v1) - 48) (fun v2 => f_X7_numberHere_24 n v2 (l2 + 1) M kx53)))
    refine x_iload_n C (k_dg dt_X7_numberHere_0 14 24 (.iload_n 2) 1 rfl) 2 rfl ?_
    refine x_aload_n C (k_dg dt_X7_numberHere_0 15 25 (.aload_n 0) 1 rfl) 0 rfl ?_
    refine x_getI C (a := 1) (j := 4) rfl rfl (by decide) fl_RX7_23 rfl (k_dg dt_X7_numberHere_0 16 26 (.getfield 23) 3 rfl) ?_
    refine x_icmp_ge C (tgt := 53) (k_dg dt_X7_numberHere_0 17 29 (.if_icmp .ge 24) 3 rfl) (by decide) (fun _ => ?_) (fun _ => ?_)
    · refine x_lv [1] rfl ?_
      exact Hx53 l1 M
    · refine x_iload_n C (k_dg dt_X7_numberHere_0 18 32 (.iload_n 1) 1 rfl) 1 rfl ?_
      refine x_bipush C (v := 10) (k_dg dt_X7_numberHere_0 19 33 (.bipush 10) 2 rfl) (by decide) ?_
      refine x_imul C (k_dg dt_X7_numberHere_0 20 35 (.imul) 1 rfl) ?_
      refine x_aload_n C (k_dg dt_X7_numberHere_0 21 36 (.aload_n 0) 1 rfl) 0 rfl ?_
      refine x_getR C (a := 1) (j := 0) 2 rfl rfl (by decide) fl_RX7_9 rfl rfl rfl (k_dg dt_X7_numberHere_0 22 37 (.getfield 9) 3 rfl) ?_
      refine x_iload_n C (k_dg dt_X7_numberHere_0 23 40 (.iload_n 2) 1 rfl) 2 rfl ?_
      refine x_iald C (a := 2) (n := 200) rfl rfl (k_dg dt_X7_numberHere_0 24 41 (.iaload) 1 rfl) (fun v1 => ?_)
      refine x_iadd C (k_dg dt_X7_numberHere_0 25 42 (.iadd) 1 rfl) ?_
      refine x_bipush C (v := 48) (k_dg dt_X7_numberHere_0 26 43 (.bipush 48) 2 rfl) (by decide) ?_
      refine x_isub C (k_dg dt_X7_numberHere_0 27 45 (.isub) 1 rfl) ?_
      refine x_nm (w := Value.int) (fun v2 _ => ?_)
      refine x_istore_n C (lv' := [(1, Value.int v2), (0, k_ra Z 1), (2, Value.int l2)]) (k_dg dt_X7_numberHere_0 28 46 (.istore_n 1) 1 rfl) (by decide) rfl ?_
      refine x_iinc C (v := 1) (lv' := [(2, Value.int (l2 + 1)), (1, Value.int v2), (0, k_ra Z 1)]) (k_dg dt_X7_numberHere_0 29 47 (.iinc 2 1) 3 rfl) 2 rfl (by decide) (by decide) rfl ?_
      refine x_goto C (tgt := 24) (k_dg dt_X7_numberHere_0 30 50 (.goto (-26)) 3 rfl) (by decide) ?_
      refine x_lv [2, 1, 0] rfl ?_
      exact ih v2 (l2 + 1) M
def f_X7_numberHere_53 (l1 : Int32) (M : k_M) : Option (Int32 × k_M) := some (l1, M)
theorem m_X7_numberHere_53 {Z : k_Z} {G : k_G} (C : k_C Z G RX7 cX7_numberHere (true, 3, 1, 0, 0) (some .int) "numberHere") (l1 : Int32) (M : k_M) : Sm Z G emI (true, 3, 1, 0, 0) (0, 0) 53 [(1, Value.int l1)] [] M (f_X7_numberHere_53 l1 M) := by
  show Sm Z G emI _ _ _ _ _ _ (some (l1, M))
  refine x_iload_n C (k_dg dt_X7_numberHere_0 31 53 (.iload_n 1) 1 rfl) 0 rfl ?_
  exact x_iret C (by decide) (by decide) (k_dg dt_X7_numberHere_0 32 54 (.ireturn) 1 rfl)
def f_X7_numberHere (M : k_M) : Option (Int32 × k_M) := if ((M.1 1 4) - (M.1 1 3)) ≤ 2 then bN (M.1 1 3) (fun v1 => f_X7_numberHere_24 k_fu 0 v1 M (fun l1_ M_ => f_X7_numberHere_53 l1_ M_)) else some (1000, M)
theorem m_X7_numberHere_0 {Z : k_Z} {G : k_G} (C : k_C Z G RX7 cX7_numberHere (true, 3, 1, 0, 0) (some .int) "numberHere") (M : k_M) : Sm Z G emI (true, 3, 1, 0, 0) (0, 0) 0 [(0, k_ra Z 1)] [] M (f_X7_numberHere M) := by
  show Sm Z G emI _ _ _ _ _ _ (if ((M.1 1 4) - (M.1 1 3)) ≤ 2 then bN (M.1 1 3) (fun v1 => f_X7_numberHere_24 k_fu 0 v1 M (fun l1_ M_ => f_X7_numberHere_53 l1_ M_)) else some (1000, M))
  refine x_aload_n C (k_dg dt_X7_numberHere_0 0 0 (.aload_n 0) 1 rfl) 0 rfl ?_
  refine x_getI C (a := 1) (j := 4) rfl rfl (by decide) fl_RX7_23 rfl (k_dg dt_X7_numberHere_0 1 1 (.getfield 23) 3 rfl) ?_
  refine x_aload_n C (k_dg dt_X7_numberHere_0 2 4 (.aload_n 0) 1 rfl) 0 rfl ?_
  refine x_getI C (a := 1) (j := 3) rfl rfl (by decide) fl_RX7_20 rfl (k_dg dt_X7_numberHere_0 3 5 (.getfield 20) 3 rfl) ?_
  refine x_isub C (k_dg dt_X7_numberHere_0 4 8 (.isub) 1 rfl) ?_
  refine x_iconst C (v := 2) (k_dg dt_X7_numberHere_0 5 9 (.iconst 2) 1 rfl) (by decide) ?_
  refine x_icmp_le C (tgt := 17) (k_dg dt_X7_numberHere_0 6 10 (.if_icmp .le 7) 3 rfl) (by decide) (fun _ => ?_) (fun _ => ?_)
  · refine x_iconst C (v := 0) (k_dg dt_X7_numberHere_0 9 17 (.iconst 0) 1 rfl) (by decide) ?_
    refine x_istore_n C (lv' := [(1, Value.int 0), (0, k_ra Z 1)]) (k_dg dt_X7_numberHere_0 10 18 (.istore_n 1) 1 rfl) (by decide) rfl ?_
    refine x_aload_n C (k_dg dt_X7_numberHere_0 11 19 (.aload_n 0) 1 rfl) 1 rfl ?_
    refine x_getI C (a := 1) (j := 3) rfl rfl (by decide) fl_RX7_20 rfl (k_dg dt_X7_numberHere_0 12 20 (.getfield 20) 3 rfl) ?_
    refine x_nm (w := Value.int) (fun v1 _ => ?_)
    refine x_istore_n C (lv' := [(2, Value.int v1), (1, Value.int 0), (0, k_ra Z 1)]) (k_dg dt_X7_numberHere_0 13 23 (.istore_n 2) 1 rfl) (by decide) rfl ?_
    refine x_lv [2, 1, 0] rfl ?_
    exact m_X7_numberHere_24 C (fun l1_ M_ => f_X7_numberHere_53 l1_ M_) (fun l1_ M_ => m_X7_numberHere_53 C l1_ M_) k_fu 0 v1 M
  · refine x_sipush C (v := 1000) (k_dg dt_X7_numberHere_0 7 13 (.sipush 1000) 3 rfl) (by decide) ?_
    exact x_iret C (by decide) (by decide) (k_dg dt_X7_numberHere_0 8 16 (.ireturn) 1 rfl)
theorem c_X7_numberHere {Z : k_Z} (hg : k_Gd Z) (l : Launch) (M : k_M) : Con true Z l yX7_numberHere cX7_numberHere 3 (some .int) 1 0 0 emI [k_ra Z 1] M (f_X7_numberHere M) := k_con hg (by decide) (Nat.le_of_ble_eq_true rfl) (fun G hl C => m_X7_numberHere_0 C M)
theorem dt_X7_step_0 : k_dec cX7_step [(0, .aload_n 0, 1), (1, .getfield 23, 3), (4, .aload_n 0, 1), (5, .getfield 13, 3), (8, .if_icmp .ge 30, 3), (11, .aload_n 0, 1), (12, .getfield 9, 3), (15, .aload_n 0, 1), (16, .getfield 23, 3), (19, .iaload, 1), (20, .bipush 32, 2), (22, .if_icmp .ne 16, 3), (25, .aload_n 0, 1), (26, .dup, 1), (27, .getfield 23, 3), (30, .iconst 1, 1), (31, .iadd, 1), (32, .putfield 23, 3), (35, .goto (-35), 3), (38, .aload_n 0, 1), (39, .aload_n 0, 1), (40, .getfield 23, 3), (43, .putfield 20, 3), (46, .aload_n 0, 1), (47, .getfield 20, 3), (50, .aload_n 0, 1), (51, .getfield 13, 3), (54, .if_icmp .lt 9, 3), (57, .aload_n 0, 1), (58, .iconst 0, 1), (59, .putfield 17, 3), (62, .return_, 1), (63, .aload_n 0, 1), (64, .aload_n 0, 1), (65, .getfield 9, 3), (68, .aload_n 0, 1), (69, .getfield 20, 3), (72, .iaload, 1), (73, .invokestatic 118, 3), (76, .putfield 17, 3)] = true := by decide +kernel
theorem dt_X7_step_1 : k_dec cX7_step [(79, .aload_n 0, 1), (80, .dup, 1), (81, .getfield 23, 3), (84, .iconst 1, 1), (85, .iadd, 1), (86, .putfield 23, 3), (89, .aload_n 0, 1), (90, .getfield 17, 3), (93, .iconst 3, 1), (94, .if_icmp .eq 46, 3), (97, .aload_n 0, 1), (98, .getfield 23, 3), (101, .aload_n 0, 1), (102, .getfield 13, 3), (105, .if_icmp .ge 35, 3), (108, .aload_n 0, 1), (109, .getfield 9, 3), (112, .aload_n 0, 1), (113, .getfield 23, 3), (116, .iaload, 1), (117, .invokestatic 118, 3), (120, .aload_n 0, 1), (121, .getfield 17, 3), (124, .if_icmp .ne 16, 3), (127, .aload_n 0, 1), (128, .dup, 1), (129, .getfield 23, 3), (132, .iconst 1, 1), (133, .iadd, 1), (134, .putfield 23, 3), (137, .goto (-48), 3), (140, .aload_n 0, 1), (141, .getfield 17, 3), (144, .iconst 2, 1), (145, .if_icmp .ne 11, 3), (148, .aload_n 0, 1), (149, .aload_n 0, 1), (150, .invokevirtual 122, 3), (153, .putfield 26, 3), (156, .return_, 1)] = true := by decide +kernel
def f_X7_step_0 : Nat → k_M → (k_M → Option (Unit × k_M)) → Option (Unit × k_M)
  | 0, _, _ => none
  | n + 1, M, kx38 => if (M.1 1 1) ≤ (M.1 1 4) then kx38 M else rdI M 2 200 (M.1 1 4) (fun v1 => if v1 = 32 then bN (sI M 1 4 ((M.1 1 4) + 1)) (fun M2 => f_X7_step_0 n M2 kx38) else kx38 M)
theorem m_X7_step_0 {Z : k_Z} {G : k_G} (C : k_C Z G RX7 cX7_step (true, 1, 2, 0, 0) none "step") (kx38 : k_M → Option (Unit × k_M)) (Hx38 : ∀ (M : k_M), Sm Z G emV (true, 1, 2, 0, 0) (0, 0) 38 [(0, k_ra Z 1)] [] M (kx38 M)) : ∀ (n : Nat) (M : k_M), Sm Z G emV (true, 1, 2, 0, 0) (0, 0) 0 [(0, k_ra Z 1)] [] M (f_X7_step_0 n M kx38)
  | 0, _ => x_none
  | n + 1, M => by
    have ih := m_X7_step_0 C kx38 Hx38 n
    show Sm Z G emV _ _ _ _ _ _ (if (M.1 1 1) ≤ (M.1 1 4) then kx38 M else rdI M 2 200 (M.1 1 4) (fun v1 => if v1 = 32 then bN (sI M 1 4 ((M.1 1 4) + 1)) (fun M2 => f_X7_step_0 n M2 kx38) else kx38 M))
    refine x_aload_n C (k_dg dt_X7_step_0 0 0 (.aload_n 0) 1 rfl) 0 rfl ?_
    refine x_getI C (a := 1) (j := 4) rfl rfl (by decide) fl_RX7_23 rfl (k_dg dt_X7_step_0 1 1 (.getfield 23) 3 rfl) ?_
    refine x_aload_n C (k_dg dt_X7_step_0 2 4 (.aload_n 0) 1 rfl) 0 rfl ?_
    refine x_getI C (a := 1) (j := 1) rfl rfl (by decide) fl_RX7_13 rfl (k_dg dt_X7_step_0 3 5 (.getfield 13) 3 rfl) ?_
    refine x_icmp_ge C (tgt := 38) (k_dg dt_X7_step_0 4 8 (.if_icmp .ge 30) 3 rfl) (by decide) (fun _ => ?_) (fun _ => ?_)
    · exact Hx38 M
    · refine x_aload_n C (k_dg dt_X7_step_0 5 11 (.aload_n 0) 1 rfl) 0 rfl ?_
      refine x_getR C (a := 1) (j := 0) 2 rfl rfl (by decide) fl_RX7_9 rfl rfl rfl (k_dg dt_X7_step_0 6 12 (.getfield 9) 3 rfl) ?_
      refine x_aload_n C (k_dg dt_X7_step_0 7 15 (.aload_n 0) 1 rfl) 0 rfl ?_
      refine x_getI C (a := 1) (j := 4) rfl rfl (by decide) fl_RX7_23 rfl (k_dg dt_X7_step_0 8 16 (.getfield 23) 3 rfl) ?_
      refine x_iald C (a := 2) (n := 200) rfl rfl (k_dg dt_X7_step_0 9 19 (.iaload) 1 rfl) (fun v1 => ?_)
      refine x_bipush C (v := 32) (k_dg dt_X7_step_0 10 20 (.bipush 32) 2 rfl) (by decide) ?_
      refine x_icmp_ne C (tgt := 38) (k_dg dt_X7_step_0 11 22 (.if_icmp .ne 16) 3 rfl) (by decide) (fun _ => ?_) (fun _ => ?_)
      · refine x_aload_n C (k_dg dt_X7_step_0 12 25 (.aload_n 0) 1 rfl) 0 rfl ?_
        refine x_dup C (k_dg dt_X7_step_0 13 26 (.dup) 1 rfl) rfl ?_
        refine x_getI C (a := 1) (j := 4) rfl rfl (by decide) fl_RX7_23 rfl (k_dg dt_X7_step_0 14 27 (.getfield 23) 3 rfl) ?_
        refine x_iconst C (v := 1) (k_dg dt_X7_step_0 15 30 (.iconst 1) 1 rfl) (by decide) ?_
        refine x_iadd C (k_dg dt_X7_step_0 16 31 (.iadd) 1 rfl) ?_
        refine x_putI C (a := 1) (j := 4) rfl rfl (by decide) fl_RX7_23 rfl pt_5_4 tb_5 rfl rfl (k_dg dt_X7_step_0 17 32 (.putfield 23) 3 rfl) (fun M2 => ?_)
        refine x_goto C (tgt := 0) (k_dg dt_X7_step_0 18 35 (.goto (-35)) 3 rfl) (by decide) ?_
        exact ih M2
      · exact Hx38 M
def f_X7_step_89 : Nat → k_M → (k_M → Option (Unit × k_M)) → Option (Unit × k_M)
  | 0, _, _ => none
  | n + 1, M, kx140 => if (M.1 1 2) = 3 then kx140 M else if (M.1 1 1) ≤ (M.1 1 4) then kx140 M else rdI M 2 200 (M.1 1 4) (fun v1 => bd (f_X7_sortOf v1 M) (fun r2 M3 => if r2 = (M3.1 1 2) then bN (sI M3 1 4 ((M3.1 1 4) + 1)) (fun M4 => f_X7_step_89 n M4 kx140) else kx140 M3))
theorem m_X7_step_89 {Z : k_Z} {G : k_G} (C : k_C Z G RX7 cX7_step (true, 1, 2, 0, 0) none "step") (kx140 : k_M → Option (Unit × k_M)) (Hx140 : ∀ (M : k_M), Sm Z G emV (true, 1, 2, 0, 0) (0, 0) 140 [(0, k_ra Z 1)] [] M (kx140 M)) : ∀ (n : Nat) (M : k_M), Sm Z G emV (true, 1, 2, 0, 0) (0, 0) 89 [(0, k_ra Z 1)] [] M (f_X7_step_89 n M kx140)
  | 0, _ => x_none
  | n + 1, M => by
    have ih := m_X7_step_89 C kx140 Hx140 n
    show Sm Z G emV _ _ _ _ _ _ (if (M.1 1 2) = 3 then kx140 M else if (M.1 1 1) ≤ (M.1 1 4) then kx140 M else rdI M 2 200 (M.1 1 4) (fun v1 => bd (f_X7_sortOf v1 M) (fun r2 M3 => if r2 = (M3.1 1 2) then bN (sI M3 1 4 ((M3.1 1 4) + 1)) (fun M4 => f_X7_step_89 n M4 kx140) else kx140 M3)))
    refine x_aload_n C (k_dg dt_X7_step_1 6 89 (.aload_n 0) 1 rfl) 0 rfl ?_
    refine x_getI C (a := 1) (j := 2) rfl rfl (by decide) fl_RX7_17 rfl (k_dg dt_X7_step_1 7 90 (.getfield 17) 3 rfl) ?_
    refine x_iconst C (v := 3) (k_dg dt_X7_step_1 8 93 (.iconst 3) 1 rfl) (by decide) ?_
    refine x_icmp_eq C (tgt := 140) (k_dg dt_X7_step_1 9 94 (.if_icmp .eq 46) 3 rfl) (by decide) (fun _ => ?_) (fun _ => ?_)
    · exact Hx140 M
    · refine x_aload_n C (k_dg dt_X7_step_1 10 97 (.aload_n 0) 1 rfl) 0 rfl ?_
      refine x_getI C (a := 1) (j := 4) rfl rfl (by decide) fl_RX7_23 rfl (k_dg dt_X7_step_1 11 98 (.getfield 23) 3 rfl) ?_
      refine x_aload_n C (k_dg dt_X7_step_1 12 101 (.aload_n 0) 1 rfl) 0 rfl ?_
      refine x_getI C (a := 1) (j := 1) rfl rfl (by decide) fl_RX7_13 rfl (k_dg dt_X7_step_1 13 102 (.getfield 13) 3 rfl) ?_
      refine x_icmp_ge C (tgt := 140) (k_dg dt_X7_step_1 14 105 (.if_icmp .ge 35) 3 rfl) (by decide) (fun _ => ?_) (fun _ => ?_)
      · exact Hx140 M
      · refine x_aload_n C (k_dg dt_X7_step_1 15 108 (.aload_n 0) 1 rfl) 0 rfl ?_
        refine x_getR C (a := 1) (j := 0) 2 rfl rfl (by decide) fl_RX7_9 rfl rfl rfl (k_dg dt_X7_step_1 16 109 (.getfield 9) 3 rfl) ?_
        refine x_aload_n C (k_dg dt_X7_step_1 17 112 (.aload_n 0) 1 rfl) 0 rfl ?_
        refine x_getI C (a := 1) (j := 4) rfl rfl (by decide) fl_RX7_23 rfl (k_dg dt_X7_step_1 18 113 (.getfield 23) 3 rfl) ?_
        refine x_iald C (a := 2) (n := 200) rfl rfl (k_dg dt_X7_step_1 19 116 (.iaload) 1 rfl) (fun v1 => ?_)
        refine x_callS C (vs := [Value.int v1]) (rest := []) (c_X7_sortOf C.2.2.2.2.2.2.2.2.2 G.2.1 v1 M) cy_X7_sortOf lk_RX7_118 stt_X7_sortOf (by decide) (by decide) (by decide) (by decide) rfl rfl (Nat.le_of_ble_eq_true rfl) (k_dg dt_X7_step_1 20 117 (.invokestatic 118) 3 rfl) (fun r2 M3 => ?_)
        show Sm Z G _ _ _ _ [(0, k_ra Z 1)] [Value.int r2] _ _
        refine x_aload_n C (k_dg dt_X7_step_1 21 120 (.aload_n 0) 1 rfl) 0 rfl ?_
        refine x_getI C (a := 1) (j := 2) rfl rfl (by decide) fl_RX7_17 rfl (k_dg dt_X7_step_1 22 121 (.getfield 17) 3 rfl) ?_
        refine x_icmp_ne C (tgt := 140) (k_dg dt_X7_step_1 23 124 (.if_icmp .ne 16) 3 rfl) (by decide) (fun _ => ?_) (fun _ => ?_)
        · refine x_aload_n C (k_dg dt_X7_step_1 24 127 (.aload_n 0) 1 rfl) 0 rfl ?_
          refine x_dup C (k_dg dt_X7_step_1 25 128 (.dup) 1 rfl) rfl ?_
          refine x_getI C (a := 1) (j := 4) rfl rfl (by decide) fl_RX7_23 rfl (k_dg dt_X7_step_1 26 129 (.getfield 23) 3 rfl) ?_
          refine x_iconst C (v := 1) (k_dg dt_X7_step_1 27 132 (.iconst 1) 1 rfl) (by decide) ?_
          refine x_iadd C (k_dg dt_X7_step_1 28 133 (.iadd) 1 rfl) ?_
          refine x_putI C (a := 1) (j := 4) rfl rfl (by decide) fl_RX7_23 rfl pt_5_4 tb_5 rfl rfl (k_dg dt_X7_step_1 29 134 (.putfield 23) 3 rfl) (fun M4 => ?_)
          refine x_goto C (tgt := 89) (k_dg dt_X7_step_1 30 137 (.goto (-48)) 3 rfl) (by decide) ?_
          exact ih M4
        · exact Hx140 M3
def f_X7_step_140 (M : k_M) : Option (Unit × k_M) := if (M.1 1 2) = 2 then bd (f_X7_numberHere M) (fun r1 M2 => bN (sI M2 1 5 r1) (fun M3 => some ((), M3))) else some ((), M)
theorem m_X7_step_140 {Z : k_Z} {G : k_G} (C : k_C Z G RX7 cX7_step (true, 1, 2, 0, 0) none "step") (M : k_M) : Sm Z G emV (true, 1, 2, 0, 0) (0, 0) 140 [(0, k_ra Z 1)] [] M (f_X7_step_140 M) := by
  show Sm Z G emV _ _ _ _ _ _ (if (M.1 1 2) = 2 then bd (f_X7_numberHere M) (fun r1 M2 => bN (sI M2 1 5 r1) (fun M3 => some ((), M3))) else some ((), M))
  refine x_aload_n C (k_dg dt_X7_step_1 31 140 (.aload_n 0) 1 rfl) 0 rfl ?_
  refine x_getI C (a := 1) (j := 2) rfl rfl (by decide) fl_RX7_17 rfl (k_dg dt_X7_step_1 32 141 (.getfield 17) 3 rfl) ?_
  refine x_iconst C (v := 2) (k_dg dt_X7_step_1 33 144 (.iconst 2) 1 rfl) (by decide) ?_
  refine x_icmp_ne C (tgt := 156) (k_dg dt_X7_step_1 34 145 (.if_icmp .ne 11) 3 rfl) (by decide) (fun _ => ?_) (fun _ => ?_)
  · refine x_aload_n C (k_dg dt_X7_step_1 35 148 (.aload_n 0) 1 rfl) 0 rfl ?_
    refine x_aload_n C (k_dg dt_X7_step_1 36 149 (.aload_n 0) 1 rfl) 0 rfl ?_
    refine x_callV C (a := 1) (kd := 5) (vs := []) (rest := [k_ra Z 1]) rfl rfl (by decide) (fun r hr => by cases hr; rfl) (c_X7_numberHere C.2.2.2.2.2.2.2.2.2 G.2.1 M) cy_X7_numberHere lk_RX7_122 im_X7_numberHere se_X7_numberHere (by decide) (by decide) (by decide) (by decide) rfl rfl (Nat.le_of_ble_eq_true rfl) (k_dg dt_X7_step_1 37 150 (.invokevirtual 122) 3 rfl) (fun r1 M2 => ?_)
    show Sm Z G _ _ _ _ [(0, k_ra Z 1)] [Value.int r1, k_ra Z 1] _ _
    refine x_putI C (a := 1) (j := 5) rfl rfl (by decide) fl_RX7_26 rfl pt_5_5 tb_5 rfl rfl (k_dg dt_X7_step_1 38 153 (.putfield 26) 3 rfl) (fun M3 => ?_)
    exact x_vret C (by decide) (by decide) (k_dg dt_X7_step_1 39 156 (.return_) 1 rfl)
  · exact x_vret C (by decide) (by decide) (k_dg dt_X7_step_1 39 156 (.return_) 1 rfl)
def f_X7_step_38 (M : k_M) : Option (Unit × k_M) := bN (sI M 1 3 (M.1 1 4)) (fun M1 => if (M1.1 1 3) < (M1.1 1 1) then rdI M1 2 200 (M1.1 1 3) (fun v2 => bd (f_X7_sortOf v2 M1) (fun r3 M4 => bN (sI M4 1 2 r3) (fun M5 => bN (sI M5 1 4 ((M5.1 1 4) + 1)) (fun M6 => f_X7_step_89 k_fu M6 (fun M_ => f_X7_step_140 M_))))) else bN (sI M1 1 2 0) (fun M7 => some ((), M7)))
theorem m_X7_step_38 {Z : k_Z} {G : k_G} (C : k_C Z G RX7 cX7_step (true, 1, 2, 0, 0) none "step") (M : k_M) : Sm Z G emV (true, 1, 2, 0, 0) (0, 0) 38 [(0, k_ra Z 1)] [] M (f_X7_step_38 M) := by
  show Sm Z G emV _ _ _ _ _ _ (bN (sI M 1 3 (M.1 1 4)) (fun M1 => if (M1.1 1 3) < (M1.1 1 1) then rdI M1 2 200 (M1.1 1 3) (fun v2 => bd (f_X7_sortOf v2 M1) (fun r3 M4 => bN (sI M4 1 2 r3) (fun M5 => bN (sI M5 1 4 ((M5.1 1 4) + 1)) (fun M6 => f_X7_step_89 k_fu M6 (fun M_ => f_X7_step_140 M_))))) else bN (sI M1 1 2 0) (fun M7 => some ((), M7))))
  refine x_aload_n C (k_dg dt_X7_step_0 19 38 (.aload_n 0) 1 rfl) 0 rfl ?_
  refine x_aload_n C (k_dg dt_X7_step_0 20 39 (.aload_n 0) 1 rfl) 0 rfl ?_
  refine x_getI C (a := 1) (j := 4) rfl rfl (by decide) fl_RX7_23 rfl (k_dg dt_X7_step_0 21 40 (.getfield 23) 3 rfl) ?_
  refine x_putI C (a := 1) (j := 3) rfl rfl (by decide) fl_RX7_20 rfl pt_5_3 tb_5 rfl rfl (k_dg dt_X7_step_0 22 43 (.putfield 20) 3 rfl) (fun M1 => ?_)
  refine x_aload_n C (k_dg dt_X7_step_0 23 46 (.aload_n 0) 1 rfl) 0 rfl ?_
  refine x_getI C (a := 1) (j := 3) rfl rfl (by decide) fl_RX7_20 rfl (k_dg dt_X7_step_0 24 47 (.getfield 20) 3 rfl) ?_
  refine x_aload_n C (k_dg dt_X7_step_0 25 50 (.aload_n 0) 1 rfl) 0 rfl ?_
  refine x_getI C (a := 1) (j := 1) rfl rfl (by decide) fl_RX7_13 rfl (k_dg dt_X7_step_0 26 51 (.getfield 13) 3 rfl) ?_
  refine x_icmp_lt C (tgt := 63) (k_dg dt_X7_step_0 27 54 (.if_icmp .lt 9) 3 rfl) (by decide) (fun _ => ?_) (fun _ => ?_)
  · refine x_aload_n C (k_dg dt_X7_step_0 32 63 (.aload_n 0) 1 rfl) 0 rfl ?_
    refine x_aload_n C (k_dg dt_X7_step_0 33 64 (.aload_n 0) 1 rfl) 0 rfl ?_
    refine x_getR C (a := 1) (j := 0) 2 rfl rfl (by decide) fl_RX7_9 rfl rfl rfl (k_dg dt_X7_step_0 34 65 (.getfield 9) 3 rfl) ?_
    refine x_aload_n C (k_dg dt_X7_step_0 35 68 (.aload_n 0) 1 rfl) 0 rfl ?_
    refine x_getI C (a := 1) (j := 3) rfl rfl (by decide) fl_RX7_20 rfl (k_dg dt_X7_step_0 36 69 (.getfield 20) 3 rfl) ?_
    refine x_iald C (a := 2) (n := 200) rfl rfl (k_dg dt_X7_step_0 37 72 (.iaload) 1 rfl) (fun v2 => ?_)
    refine x_callS C (vs := [Value.int v2]) (rest := [k_ra Z 1]) (c_X7_sortOf C.2.2.2.2.2.2.2.2.2 G.2.1 v2 M1) cy_X7_sortOf lk_RX7_118 stt_X7_sortOf (by decide) (by decide) (by decide) (by decide) rfl rfl (Nat.le_of_ble_eq_true rfl) (k_dg dt_X7_step_0 38 73 (.invokestatic 118) 3 rfl) (fun r3 M4 => ?_)
    show Sm Z G _ _ _ _ [(0, k_ra Z 1)] [Value.int r3, k_ra Z 1] _ _
    refine x_putI C (a := 1) (j := 2) rfl rfl (by decide) fl_RX7_17 rfl pt_5_2 tb_5 rfl rfl (k_dg dt_X7_step_0 39 76 (.putfield 17) 3 rfl) (fun M5 => ?_)
    refine x_aload_n C (k_dg dt_X7_step_1 0 79 (.aload_n 0) 1 rfl) 0 rfl ?_
    refine x_dup C (k_dg dt_X7_step_1 1 80 (.dup) 1 rfl) rfl ?_
    refine x_getI C (a := 1) (j := 4) rfl rfl (by decide) fl_RX7_23 rfl (k_dg dt_X7_step_1 2 81 (.getfield 23) 3 rfl) ?_
    refine x_iconst C (v := 1) (k_dg dt_X7_step_1 3 84 (.iconst 1) 1 rfl) (by decide) ?_
    refine x_iadd C (k_dg dt_X7_step_1 4 85 (.iadd) 1 rfl) ?_
    refine x_putI C (a := 1) (j := 4) rfl rfl (by decide) fl_RX7_23 rfl pt_5_4 tb_5 rfl rfl (k_dg dt_X7_step_1 5 86 (.putfield 23) 3 rfl) (fun M6 => ?_)
    exact m_X7_step_89 C (fun M_ => f_X7_step_140 M_) (fun M_ => m_X7_step_140 C M_) k_fu M6
  · refine x_aload_n C (k_dg dt_X7_step_0 28 57 (.aload_n 0) 1 rfl) 0 rfl ?_
    refine x_iconst C (v := 0) (k_dg dt_X7_step_0 29 58 (.iconst 0) 1 rfl) (by decide) ?_
    refine x_putI C (a := 1) (j := 2) rfl rfl (by decide) fl_RX7_17 rfl pt_5_2 tb_5 rfl rfl (k_dg dt_X7_step_0 30 59 (.putfield 17) 3 rfl) (fun M7 => ?_)
    exact x_vret C (by decide) (by decide) (k_dg dt_X7_step_0 31 62 (.return_) 1 rfl)
def f_X7_step (M : k_M) : Option (Unit × k_M) := f_X7_step_0 k_fu M (fun M_ => f_X7_step_38 M_)
theorem m_X7_step_e {Z : k_Z} {G : k_G} (C : k_C Z G RX7 cX7_step (true, 1, 2, 0, 0) none "step") (M : k_M) : Sm Z G emV (true, 1, 2, 0, 0) (0, 0) 0 [(0, k_ra Z 1)] [] M (f_X7_step M) := x_lv [0] rfl (m_X7_step_0 C (fun M_ => f_X7_step_38 M_) (fun M_ => m_X7_step_38 C M_) k_fu M)
theorem c_X7_step {Z : k_Z} (hg : k_Gd Z) (l : Launch) (M : k_M) : Con true Z l yX7_step cX7_step 1 none 2 0 0 emV [k_ra Z 1] M (f_X7_step M) := k_con hg (by decide) (Nat.le_of_ble_eq_true rfl) (fun G hl C => m_X7_step_e C M)
theorem dt_X7_isNamed_0 : k_dec cX7_isNamed [(0, .aload_n 0, 1), (1, .getfield 17, 3), (4, .iconst 1, 1), (5, .if_icmp .ne 19, 3), (8, .aload_n 0, 1), (9, .getfield 23, 3), (12, .aload_n 0, 1), (13, .getfield 20, 3), (16, .isub, 1), (17, .aload_n 1, 1), (18, .invokevirtual 109, 3), (21, .if_icmp .eq 5, 3), (24, .iconst 0, 1), (25, .ireturn, 1), (26, .iconst 0, 1), (27, .istore_n 2, 1), (28, .iload_n 2, 1), (29, .aload_n 1, 1), (30, .invokevirtual 109, 3), (33, .if_icmp .ge 30, 3), (36, .aload_n 0, 1), (37, .getfield 9, 3), (40, .aload_n 0, 1), (41, .getfield 20, 3), (44, .iload_n 2, 1), (45, .iadd, 1), (46, .iaload, 1), (47, .aload_n 1, 1), (48, .iload_n 2, 1), (49, .invokevirtual 114, 3), (52, .if_icmp .eq 5, 3), (55, .iconst 0, 1), (56, .ireturn, 1), (57, .iinc 2 1, 3), (60, .goto (-32), 3), (63, .iconst 1, 1), (64, .ireturn, 1)] = true := by decide +kernel
def f_X7_isNamed_28 (s1 : Nat) : Nat → Int32 → k_M → (k_M → Option (Int32 × k_M)) → (k_M → Option (Int32 × k_M)) → Option (Int32 × k_M)
  | 0, _, _, _, _ => none
  | n + 1, l2, M, kx55, kx63 => if (Int32.ofNat (k_txL.getD s1 0)) ≤ l2 then kx63 M else rdI M 2 200 ((M.1 1 3) + l2) (fun v1 => rdS s1 l2 (fun v2 => if v1 = v2 then f_X7_isNamed_28 s1 n (l2 + 1) M kx55 kx63 else kx55 M))
theorem m_X7_isNamed_28 {Z : k_Z} {G : k_G} {s1 : Nat} (C : k_C Z G RX7 cX7_isNamed (true, 3, 5, 0, 0) (some .boolean) "isNamed") (hs1 : s1 < 9) (kx55 : k_M → Option (Int32 × k_M)) (kx63 : k_M → Option (Int32 × k_M)) (Hx55 : ∀ (M : k_M), Sm Z G emI (true, 3, 5, 0, 0) (0, 0) 55 [] [] M (kx55 M)) (Hx63 : ∀ (M : k_M), Sm Z G emI (true, 3, 5, 0, 0) (0, 0) 63 [] [] M (kx63 M)) : ∀ (n : Nat) (l2 : Int32) (M : k_M), Sm Z G emI (true, 3, 5, 0, 0) (0, 0) 28 [(0, k_ra Z 1), (1, k_sa Z s1), (2, Value.int l2)] [] M (f_X7_isNamed_28 s1 n l2 M kx55 kx63)
  | 0, _, _ => x_none
  | n + 1, l2, M => by
    have ih := m_X7_isNamed_28 C hs1 kx55 kx63 Hx55 Hx63 n
    show Sm Z G emI _ _ _ _ _ _ (if (Int32.ofNat (k_txL.getD s1 0)) ≤ l2 then kx63 M else rdI M 2 200 ((M.1 1 3) + l2) (fun v1 => rdS s1 l2 (fun v2 => if v1 = v2 then f_X7_isNamed_28 s1 n (l2 + 1) M kx55 kx63 else kx55 M)))
    refine x_iload_n C (k_dg dt_X7_isNamed_0 16 28 (.iload_n 2) 1 rfl) 2 rfl ?_
    refine x_aload_n C (k_dg dt_X7_isNamed_0 17 29 (.aload_n 1) 1 rfl) 1 rfl ?_
    refine x_slen C (i := s1) hs1 sl_RX7_109 (by decide) (by decide) (by decide) (Nat.le_of_ble_eq_true rfl) (k_dg dt_X7_isNamed_0 18 30 (.invokevirtual 109) 3 rfl) ?_
    refine x_icmp_ge C (tgt := 63) (k_dg dt_X7_isNamed_0 19 33 (.if_icmp .ge 30) 3 rfl) (by decide) (fun _ => ?_) (fun _ => ?_)
    · refine x_lv [] rfl ?_
      exact Hx63 M
    · refine x_aload_n C (k_dg dt_X7_isNamed_0 20 36 (.aload_n 0) 1 rfl) 0 rfl ?_
      refine x_getR C (a := 1) (j := 0) 2 rfl rfl (by decide) fl_RX7_9 rfl rfl rfl (k_dg dt_X7_isNamed_0 21 37 (.getfield 9) 3 rfl) ?_
      refine x_aload_n C (k_dg dt_X7_isNamed_0 22 40 (.aload_n 0) 1 rfl) 0 rfl ?_
      refine x_getI C (a := 1) (j := 3) rfl rfl (by decide) fl_RX7_20 rfl (k_dg dt_X7_isNamed_0 23 41 (.getfield 20) 3 rfl) ?_
      refine x_iload_n C (k_dg dt_X7_isNamed_0 24 44 (.iload_n 2) 1 rfl) 2 rfl ?_
      refine x_iadd C (k_dg dt_X7_isNamed_0 25 45 (.iadd) 1 rfl) ?_
      refine x_iald C (a := 2) (n := 200) rfl rfl (k_dg dt_X7_isNamed_0 26 46 (.iaload) 1 rfl) (fun v1 => ?_)
      refine x_aload_n C (k_dg dt_X7_isNamed_0 27 47 (.aload_n 1) 1 rfl) 1 rfl ?_
      refine x_iload_n C (k_dg dt_X7_isNamed_0 28 48 (.iload_n 2) 1 rfl) 2 rfl ?_
      refine x_schr C (i := s1) hs1 sl_RX7_114 (by decide) (by decide) (by decide) (Nat.le_of_ble_eq_true rfl) (k_dg dt_X7_isNamed_0 29 49 (.invokevirtual 114) 3 rfl) (fun v2 => ?_)
      refine x_icmp_eq C (tgt := 57) (k_dg dt_X7_isNamed_0 30 52 (.if_icmp .eq 5) 3 rfl) (by decide) (fun _ => ?_) (fun _ => ?_)
      · refine x_iinc C (v := 1) (lv' := [(2, Value.int (l2 + 1)), (0, k_ra Z 1), (1, k_sa Z s1)]) (k_dg dt_X7_isNamed_0 33 57 (.iinc 2 1) 3 rfl) 2 rfl (by decide) (by decide) rfl ?_
        refine x_goto C (tgt := 28) (k_dg dt_X7_isNamed_0 34 60 (.goto (-32)) 3 rfl) (by decide) ?_
        refine x_lv [1, 2, 0] rfl ?_
        exact ih (l2 + 1) M
      · refine x_lv [] rfl ?_
        exact Hx55 M
def f_X7_isNamed_55 (s1 : Nat) (M : k_M) : Option (Int32 × k_M) := some (0, M)
theorem m_X7_isNamed_55 {Z : k_Z} {G : k_G} {s1 : Nat} (C : k_C Z G RX7 cX7_isNamed (true, 3, 5, 0, 0) (some .boolean) "isNamed") (hs1 : s1 < 9) (M : k_M) : Sm Z G emI (true, 3, 5, 0, 0) (0, 0) 55 [] [] M (f_X7_isNamed_55 s1 M) := by
  show Sm Z G emI _ _ _ _ _ _ (some (0, M))
  refine x_iconst C (v := 0) (k_dg dt_X7_isNamed_0 31 55 (.iconst 0) 1 rfl) (by decide) ?_
  exact x_zret C (by decide) (by decide) rfl (k_dg dt_X7_isNamed_0 32 56 (.ireturn) 1 rfl)
def f_X7_isNamed_63 (s1 : Nat) (M : k_M) : Option (Int32 × k_M) := some (1, M)
theorem m_X7_isNamed_63 {Z : k_Z} {G : k_G} {s1 : Nat} (C : k_C Z G RX7 cX7_isNamed (true, 3, 5, 0, 0) (some .boolean) "isNamed") (hs1 : s1 < 9) (M : k_M) : Sm Z G emI (true, 3, 5, 0, 0) (0, 0) 63 [] [] M (f_X7_isNamed_63 s1 M) := by
  show Sm Z G emI _ _ _ _ _ _ (some (1, M))
  refine x_iconst C (v := 1) (k_dg dt_X7_isNamed_0 35 63 (.iconst 1) 1 rfl) (by decide) ?_
  exact x_zret C (by decide) (by decide) rfl (k_dg dt_X7_isNamed_0 36 64 (.ireturn) 1 rfl)
def f_X7_isNamed (s1 : Nat) (M : k_M) : Option (Int32 × k_M) := if (M.1 1 2) = 1 then if ((M.1 1 4) - (M.1 1 3)) = (Int32.ofNat (k_txL.getD s1 0)) then f_X7_isNamed_28 s1 k_fu 0 M (fun M_ => f_X7_isNamed_55 s1 M_) (fun M_ => f_X7_isNamed_63 s1 M_) else some (0, M) else some (0, M)
theorem m_X7_isNamed_0 {Z : k_Z} {G : k_G} {s1 : Nat} (C : k_C Z G RX7 cX7_isNamed (true, 3, 5, 0, 0) (some .boolean) "isNamed") (hs1 : s1 < 9) (M : k_M) : Sm Z G emI (true, 3, 5, 0, 0) (0, 0) 0 [(0, k_ra Z 1), (1, k_sa Z s1)] [] M (f_X7_isNamed s1 M) := by
  show Sm Z G emI _ _ _ _ _ _ (if (M.1 1 2) = 1 then if ((M.1 1 4) - (M.1 1 3)) = (Int32.ofNat (k_txL.getD s1 0)) then f_X7_isNamed_28 s1 k_fu 0 M (fun M_ => f_X7_isNamed_55 s1 M_) (fun M_ => f_X7_isNamed_63 s1 M_) else some (0, M) else some (0, M))
  refine x_aload_n C (k_dg dt_X7_isNamed_0 0 0 (.aload_n 0) 1 rfl) 0 rfl ?_
  refine x_getI C (a := 1) (j := 2) rfl rfl (by decide) fl_RX7_17 rfl (k_dg dt_X7_isNamed_0 1 1 (.getfield 17) 3 rfl) ?_
  refine x_iconst C (v := 1) (k_dg dt_X7_isNamed_0 2 4 (.iconst 1) 1 rfl) (by decide) ?_
  refine x_icmp_ne C (tgt := 24) (k_dg dt_X7_isNamed_0 3 5 (.if_icmp .ne 19) 3 rfl) (by decide) (fun _ => ?_) (fun _ => ?_)
  · refine x_aload_n C (k_dg dt_X7_isNamed_0 4 8 (.aload_n 0) 1 rfl) 0 rfl ?_
    refine x_getI C (a := 1) (j := 4) rfl rfl (by decide) fl_RX7_23 rfl (k_dg dt_X7_isNamed_0 5 9 (.getfield 23) 3 rfl) ?_
    refine x_aload_n C (k_dg dt_X7_isNamed_0 6 12 (.aload_n 0) 1 rfl) 0 rfl ?_
    refine x_getI C (a := 1) (j := 3) rfl rfl (by decide) fl_RX7_20 rfl (k_dg dt_X7_isNamed_0 7 13 (.getfield 20) 3 rfl) ?_
    refine x_isub C (k_dg dt_X7_isNamed_0 8 16 (.isub) 1 rfl) ?_
    refine x_aload_n C (k_dg dt_X7_isNamed_0 9 17 (.aload_n 1) 1 rfl) 1 rfl ?_
    refine x_slen C (i := s1) hs1 sl_RX7_109 (by decide) (by decide) (by decide) (Nat.le_of_ble_eq_true rfl) (k_dg dt_X7_isNamed_0 10 18 (.invokevirtual 109) 3 rfl) ?_
    refine x_icmp_eq C (tgt := 26) (k_dg dt_X7_isNamed_0 11 21 (.if_icmp .eq 5) 3 rfl) (by decide) (fun _ => ?_) (fun _ => ?_)
    · refine x_iconst C (v := 0) (k_dg dt_X7_isNamed_0 14 26 (.iconst 0) 1 rfl) (by decide) ?_
      refine x_istore_n C (lv' := [(2, Value.int 0), (0, k_ra Z 1), (1, k_sa Z s1)]) (k_dg dt_X7_isNamed_0 15 27 (.istore_n 2) 1 rfl) (by decide) rfl ?_
      refine x_lv [1, 2, 0] rfl ?_
      exact m_X7_isNamed_28 C hs1 (fun M_ => f_X7_isNamed_55 s1 M_) (fun M_ => f_X7_isNamed_63 s1 M_) (fun M_ => m_X7_isNamed_55 C hs1 M_) (fun M_ => m_X7_isNamed_63 C hs1 M_) k_fu 0 M
    · refine x_iconst C (v := 0) (k_dg dt_X7_isNamed_0 12 24 (.iconst 0) 1 rfl) (by decide) ?_
      exact x_zret C (by decide) (by decide) rfl (k_dg dt_X7_isNamed_0 13 25 (.ireturn) 1 rfl)
  · refine x_iconst C (v := 0) (k_dg dt_X7_isNamed_0 12 24 (.iconst 0) 1 rfl) (by decide) ?_
    exact x_zret C (by decide) (by decide) rfl (k_dg dt_X7_isNamed_0 13 25 (.ireturn) 1 rfl)
theorem c_X7_isNamed {Z : k_Z} (hg : k_Gd Z) (l : Launch) (s1 : Nat) (M : k_M) (hs1 : s1 < 9) : Con true Z l yX7_isNamed cX7_isNamed 3 (some .boolean) 5 0 0 emI [k_ra Z 1, k_sa Z s1] M (f_X7_isNamed s1 M) := k_con hg (by decide) (Nat.le_of_ble_eq_true rfl) (fun G hl C => m_X7_isNamed_0 C hs1 M)
theorem dt_X7_isNumber_0 : k_dec cX7_isNumber [(0, .aload_n 0, 1), (1, .getfield 17, 3), (4, .iconst 2, 1), (5, .if_icmp .ne 23, 3), (8, .aload_n 0, 1), (9, .getfield 26, 3), (12, .iload_n 1, 1), (13, .if_icmp .lt 15, 3), (16, .aload_n 0, 1), (17, .getfield 26, 3), (20, .iload_n 2, 1), (21, .if_icmp .gt 7, 3), (24, .iconst 1, 1), (25, .goto 4, 3), (28, .iconst 0, 1), (29, .ireturn, 1)] = true := by decide +kernel
def f_X7_isNumber (p1 : Int32) (p2 : Int32) (M : k_M) : Option (Int32 × k_M) := if (M.1 1 2) = 2 then if (M.1 1 5) < p1 then some (0, M) else if p2 < (M.1 1 5) then some (0, M) else some (1, M) else some (0, M)
theorem m_X7_isNumber_0 {Z : k_Z} {G : k_G} (C : k_C Z G RX7 cX7_isNumber (true, 3, 1, 0, 0) (some .boolean) "isNumber") (p1 : Int32) (p2 : Int32) (M : k_M) : Sm Z G emI (true, 3, 1, 0, 0) (0, 0) 0 [(0, k_ra Z 1), (1, Value.int p1), (2, Value.int p2)] [] M (f_X7_isNumber p1 p2 M) := by
  show Sm Z G emI _ _ _ _ _ _ (if (M.1 1 2) = 2 then if (M.1 1 5) < p1 then some (0, M) else if p2 < (M.1 1 5) then some (0, M) else some (1, M) else some (0, M))
  refine x_aload_n C (k_dg dt_X7_isNumber_0 0 0 (.aload_n 0) 1 rfl) 0 rfl ?_
  refine x_getI C (a := 1) (j := 2) rfl rfl (by decide) fl_RX7_17 rfl (k_dg dt_X7_isNumber_0 1 1 (.getfield 17) 3 rfl) ?_
  refine x_iconst C (v := 2) (k_dg dt_X7_isNumber_0 2 4 (.iconst 2) 1 rfl) (by decide) ?_
  refine x_icmp_ne C (tgt := 28) (k_dg dt_X7_isNumber_0 3 5 (.if_icmp .ne 23) 3 rfl) (by decide) (fun _ => ?_) (fun _ => ?_)
  · refine x_aload_n C (k_dg dt_X7_isNumber_0 4 8 (.aload_n 0) 1 rfl) 0 rfl ?_
    refine x_getI C (a := 1) (j := 5) rfl rfl (by decide) fl_RX7_26 rfl (k_dg dt_X7_isNumber_0 5 9 (.getfield 26) 3 rfl) ?_
    refine x_iload_n C (k_dg dt_X7_isNumber_0 6 12 (.iload_n 1) 1 rfl) 1 rfl ?_
    refine x_icmp_lt C (tgt := 28) (k_dg dt_X7_isNumber_0 7 13 (.if_icmp .lt 15) 3 rfl) (by decide) (fun _ => ?_) (fun _ => ?_)
    · refine x_iconst C (v := 0) (k_dg dt_X7_isNumber_0 14 28 (.iconst 0) 1 rfl) (by decide) ?_
      exact x_zret C (by decide) (by decide) rfl (k_dg dt_X7_isNumber_0 15 29 (.ireturn) 1 rfl)
    · refine x_aload_n C (k_dg dt_X7_isNumber_0 8 16 (.aload_n 0) 1 rfl) 0 rfl ?_
      refine x_getI C (a := 1) (j := 5) rfl rfl (by decide) fl_RX7_26 rfl (k_dg dt_X7_isNumber_0 9 17 (.getfield 26) 3 rfl) ?_
      refine x_iload_n C (k_dg dt_X7_isNumber_0 10 20 (.iload_n 2) 1 rfl) 2 rfl ?_
      refine x_icmp_gt C (tgt := 28) (k_dg dt_X7_isNumber_0 11 21 (.if_icmp .gt 7) 3 rfl) (by decide) (fun _ => ?_) (fun _ => ?_)
      · refine x_iconst C (v := 0) (k_dg dt_X7_isNumber_0 14 28 (.iconst 0) 1 rfl) (by decide) ?_
        exact x_zret C (by decide) (by decide) rfl (k_dg dt_X7_isNumber_0 15 29 (.ireturn) 1 rfl)
      · refine x_iconst C (v := 1) (k_dg dt_X7_isNumber_0 12 24 (.iconst 1) 1 rfl) (by decide) ?_
        refine x_goto C (tgt := 29) (k_dg dt_X7_isNumber_0 13 25 (.goto 4) 3 rfl) (by decide) ?_
        exact x_zret C (by decide) (by decide) rfl (k_dg dt_X7_isNumber_0 15 29 (.ireturn) 1 rfl)
  · refine x_iconst C (v := 0) (k_dg dt_X7_isNumber_0 14 28 (.iconst 0) 1 rfl) (by decide) ?_
    exact x_zret C (by decide) (by decide) rfl (k_dg dt_X7_isNumber_0 15 29 (.ireturn) 1 rfl)
theorem c_X7_isNumber {Z : k_Z} (hg : k_Gd Z) (l : Launch) (p1 : Int32) (p2 : Int32) (M : k_M) : Con true Z l yX7_isNumber cX7_isNumber 3 (some .boolean) 1 0 0 emI [k_ra Z 1, Value.int p1, Value.int p2] M (f_X7_isNumber p1 p2 M) := k_con hg (by decide) (Nat.le_of_ble_eq_true rfl) (fun G hl C => m_X7_isNumber_0 C p1 p2 M)
theorem dt_X7_isFreePlace_0 : k_dec cX7_isFreePlace [(0, .aload_n 0, 1), (1, .iconst 0, 1), (2, .aload_n 1, 1), (3, .getfield 57, 3), (6, .iconst 1, 1), (7, .isub, 1), (8, .invokevirtual 64, 3), (11, .ifCond .eq 18, 3), (14, .aload_n 1, 1), (15, .aload_n 0, 1), (16, .getfield 26, 3), (19, .invokevirtual 94, 3), (22, .ifCond .eq 7, 3), (25, .iconst 1, 1), (26, .goto 4, 3), (29, .iconst 0, 1), (30, .ireturn, 1)] = true := by decide +kernel
def f_X7_isFreePlace (v : Nat) (M : k_M) : Option (Int32 × k_M) := bd (f_X7_isNumber 0 ((M.1 (v + 1) 0) - 1) M) (fun r1 M2 => if r1 = 0 then some (0, M2) else bd (f_X3_canJoin v (M2.1 1 5) M2) (fun r3 M4 => if r3 = 0 then some (0, M4) else some (1, M4)))
theorem m_X7_isFreePlace_0 {Z : k_Z} {G : k_G} {v : Nat} (C : k_C Z G RX7 cX7_isFreePlace (true, 2, 2, 0, 0) (some .boolean) "isFreePlace") (hv : isW v) (M : k_M) : Sm Z G emI (true, 2, 2, 0, 0) (0, 0) 0 [(0, k_ra Z 1), (1, k_ra Z (v + 1))] [] M (f_X7_isFreePlace v M) := by
  show Sm Z G emI _ _ _ _ _ _ (bd (f_X7_isNumber 0 ((M.1 (v + 1) 0) - 1) M) (fun r1 M2 => if r1 = 0 then some (0, M2) else bd (f_X3_canJoin v (M2.1 1 5) M2) (fun r3 M4 => if r3 = 0 then some (0, M4) else some (1, M4))))
  refine x_aload_n C (k_dg dt_X7_isFreePlace_0 0 0 (.aload_n 0) 1 rfl) 0 rfl ?_
  refine x_iconst C (v := 0) (k_dg dt_X7_isFreePlace_0 1 1 (.iconst 0) 1 rfl) (by decide) ?_
  refine x_aload_n C (k_dg dt_X7_isFreePlace_0 2 2 (.aload_n 1) 1 rfl) 1 rfl ?_
  refine x_getI C (a := v + 1) (j := 0) rfl (kW 1 hv rfl) (by decide) fl_RX7_57 rfl (k_dg dt_X7_isFreePlace_0 3 3 (.getfield 57) 3 rfl) ?_
  refine x_iconst C (v := 1) (k_dg dt_X7_isFreePlace_0 4 6 (.iconst 1) 1 rfl) (by decide) ?_
  refine x_isub C (k_dg dt_X7_isFreePlace_0 5 7 (.isub) 1 rfl) ?_
  refine x_callV C (a := 1) (kd := 5) (vs := [Value.int 0, Value.int ((M.1 (v + 1) 0) - 1)]) (rest := []) rfl rfl (by decide) (fun r hr => by cases hr; rfl) (c_X7_isNumber C.2.2.2.2.2.2.2.2.2 G.2.1 0 ((M.1 (v + 1) 0) - 1) M) cy_X7_isNumber lk_RX7_64 im_X7_isNumber se_X7_isNumber (by decide) (by decide) (by decide) (by decide) rfl rfl (Nat.le_of_ble_eq_true rfl) (k_dg dt_X7_isFreePlace_0 6 8 (.invokevirtual 64) 3 rfl) (fun r1 M2 => ?_)
  show Sm Z G _ _ _ _ [(0, k_ra Z 1), (1, k_ra Z (v + 1))] [Value.int r1] _ _
  refine x_if_eq C (tgt := 29) (k_dg dt_X7_isFreePlace_0 7 11 (.ifCond .eq 18) 3 rfl) (by decide) (fun _ => ?_) (fun _ => ?_)
  · refine x_iconst C (v := 0) (k_dg dt_X7_isFreePlace_0 15 29 (.iconst 0) 1 rfl) (by decide) ?_
    exact x_zret C (by decide) (by decide) rfl (k_dg dt_X7_isFreePlace_0 16 30 (.ireturn) 1 rfl)
  · refine x_aload_n C (k_dg dt_X7_isFreePlace_0 8 14 (.aload_n 1) 1 rfl) 1 rfl ?_
    refine x_aload_n C (k_dg dt_X7_isFreePlace_0 9 15 (.aload_n 0) 1 rfl) 0 rfl ?_
    refine x_getI C (a := 1) (j := 5) rfl rfl (by decide) fl_RX7_26 rfl (k_dg dt_X7_isFreePlace_0 10 16 (.getfield 26) 3 rfl) ?_
    refine x_callV C (a := v + 1) (kd := 2) (vs := [Value.int (M2.1 1 5)]) (rest := []) rfl (kW 1 hv rfl) (by decide) (fun r hr => by cases hr; rfl) (c_X3_canJoin C.2.2.2.2.2.2.2.2.2 G.2.1 v (M2.1 1 5) M2 hv) cy_X3_canJoin lk_RX7_94 im_X3_canJoin se_X3_canJoin (by decide) (by decide) (by decide) (by decide) rfl rfl (Nat.le_of_ble_eq_true rfl) (k_dg dt_X7_isFreePlace_0 11 19 (.invokevirtual 94) 3 rfl) (fun r3 M4 => ?_)
    show Sm Z G _ _ _ _ [(0, k_ra Z 1), (1, k_ra Z (v + 1))] [Value.int r3] _ _
    refine x_if_eq C (tgt := 29) (k_dg dt_X7_isFreePlace_0 12 22 (.ifCond .eq 7) 3 rfl) (by decide) (fun _ => ?_) (fun _ => ?_)
    · refine x_iconst C (v := 0) (k_dg dt_X7_isFreePlace_0 15 29 (.iconst 0) 1 rfl) (by decide) ?_
      exact x_zret C (by decide) (by decide) rfl (k_dg dt_X7_isFreePlace_0 16 30 (.ireturn) 1 rfl)
    · refine x_iconst C (v := 1) (k_dg dt_X7_isFreePlace_0 13 25 (.iconst 1) 1 rfl) (by decide) ?_
      refine x_goto C (tgt := 30) (k_dg dt_X7_isFreePlace_0 14 26 (.goto 4) 3 rfl) (by decide) ?_
      exact x_zret C (by decide) (by decide) rfl (k_dg dt_X7_isFreePlace_0 16 30 (.ireturn) 1 rfl)
theorem c_X7_isFreePlace {Z : k_Z} (hg : k_Gd Z) (l : Launch) (v : Nat) (M : k_M) (hv : isW v) : Con true Z l yX7_isFreePlace cX7_isFreePlace 2 (some .boolean) 2 0 0 emI [k_ra Z 1, k_ra Z (v + 1)] M (f_X7_isFreePlace v M) := k_con hg (by decide) (Nat.le_of_ble_eq_true rfl) (fun G hl C => m_X7_isFreePlace_0 C hv M)
theorem dt_X7_readMonths_0 : k_dec cX7_readMonths [(0, .iconst 0, 1), (1, .istore_n 1, 1), (2, .aload_n 0, 1), (3, .ldc 90, 2), (5, .invokevirtual 43, 3), (8, .istore_n 2, 1), (9, .iconst 0, 1), (10, .istore_n 3, 1), (11, .iload_n 3, 1), (12, .sipush 200, 3), (15, .if_icmp .ge 49, 3), (18, .iload_n 2, 1), (19, .ifCond .eq 45, 3), (22, .aload_n 0, 1), (23, .invokevirtual 34, 3), (26, .aload_n 0, 1), (27, .iconst 0, 1), (28, .bipush 11, 2), (30, .invokevirtual 64, 3), (33, .ifCond .ne 5, 3), (36, .iconst (-1), 1), (37, .ireturn, 1), (38, .iload_n 1, 1), (39, .iconst 1, 1), (40, .aload_n 0, 1), (41, .getfield 26, 3), (44, .ishl, 1), (45, .ior, 1), (46, .istore_n 1, 1), (47, .aload_n 0, 1), (48, .invokevirtual 34, 3), (51, .aload_n 0, 1), (52, .ldc 92, 2), (54, .invokevirtual 43, 3), (57, .istore_n 2, 1), (58, .iinc 3 1, 3), (61, .goto (-50), 3), (64, .iload_n 1, 1), (65, .ireturn, 1)] = true := by decide +kernel
def f_X7_readMonths_11 : Nat → Int32 → Int32 → Int32 → k_M → (k_M → Option (Int32 × k_M)) → (Int32 → k_M → Option (Int32 × k_M)) → Option (Int32 × k_M)
  | 0, _, _, _, _, _, _ => none
  | n + 1, l1, l2, l3, M, kx36, kx64 => if 200 ≤ l3 then kx64 l1 M else if l2 = 0 then kx64 l1 M else bd (f_X7_step M) (fun r1 M2 => bd (f_X7_isNumber 0 11 M2) (fun r3 M4 => if r3 = 0 then kx36 M4 else bN (l1 ||| (1 <<< ((M4.1 1 5) &&& 31))) (fun v5 => bd (f_X7_step M4) (fun r6 M7 => bd (f_X7_isNamed 2 M7) (fun r8 M9 => f_X7_readMonths_11 n v5 r8 (l3 + 1) M9 kx36 kx64)))))
theorem m_X7_readMonths_11 {Z : k_Z} {G : k_G} (C : k_C Z G RX7 cX7_readMonths (true, 4, 6, 0, 0) (some .int) "readMonths") (kx36 : k_M → Option (Int32 × k_M)) (kx64 : Int32 → k_M → Option (Int32 × k_M)) (Hx36 : ∀ (M : k_M), Sm Z G emI (true, 4, 6, 0, 0) (0, 0) 36 [] [] M (kx36 M)) (Hx64 : ∀ (l1 : Int32) (M : k_M), Sm Z G emI (true, 4, 6, 0, 0) (0, 0) 64 [(1, Value.int l1)] [] M (kx64 l1 M)) : ∀ (n : Nat) (l1 : Int32) (l2 : Int32) (l3 : Int32) (M : k_M), Sm Z G emI (true, 4, 6, 0, 0) (0, 0) 11 [(0, k_ra Z 1), (1, Value.int l1), (2, Value.int l2), (3, Value.int l3)] [] M (f_X7_readMonths_11 n l1 l2 l3 M kx36 kx64)
  | 0, _, _, _, _ => x_none
  | n + 1, l1, l2, l3, M => by
    have ih := m_X7_readMonths_11 C kx36 kx64 Hx36 Hx64 n
    show Sm Z G emI _ _ _ _ _ _ (if 200 ≤ l3 then kx64 l1 M else if l2 = 0 then kx64 l1 M else bd (f_X7_step M) (fun r1 M2 => bd (f_X7_isNumber 0 11 M2) (fun r3 M4 => if r3 = 0 then kx36 M4 else bN (l1 ||| (1 <<< ((M4.1 1 5) &&& 31))) (fun v5 => bd (f_X7_step M4) (fun r6 M7 => bd (f_X7_isNamed 2 M7) (fun r8 M9 => f_X7_readMonths_11 n v5 r8 (l3 + 1) M9 kx36 kx64))))))
    refine x_iload_n C (k_dg dt_X7_readMonths_0 8 11 (.iload_n 3) 1 rfl) 3 rfl ?_
    refine x_sipush C (v := 200) (k_dg dt_X7_readMonths_0 9 12 (.sipush 200) 3 rfl) (by decide) ?_
    refine x_icmp_ge C (tgt := 64) (k_dg dt_X7_readMonths_0 10 15 (.if_icmp .ge 49) 3 rfl) (by decide) (fun _ => ?_) (fun _ => ?_)
    · refine x_lv [1] rfl ?_
      exact Hx64 l1 M
    · refine x_iload_n C (k_dg dt_X7_readMonths_0 11 18 (.iload_n 2) 1 rfl) 2 rfl ?_
      refine x_if_eq C (tgt := 64) (k_dg dt_X7_readMonths_0 12 19 (.ifCond .eq 45) 3 rfl) (by decide) (fun _ => ?_) (fun _ => ?_)
      · refine x_lv [1] rfl ?_
        exact Hx64 l1 M
      · refine x_aload_n C (k_dg dt_X7_readMonths_0 13 22 (.aload_n 0) 1 rfl) 0 rfl ?_
        refine x_callV C (a := 1) (kd := 5) (vs := []) (rest := []) rfl rfl (by decide) (fun r hr => by cases hr; rfl) (c_X7_step C.2.2.2.2.2.2.2.2.2 G.2.1 M) cy_X7_step lk_RX7_34 im_X7_step se_X7_step (by decide) (by decide) (by decide) (by decide) rfl rfl (Nat.le_of_ble_eq_true rfl) (k_dg dt_X7_readMonths_0 14 23 (.invokevirtual 34) 3 rfl) (fun r1 M2 => ?_)
        show Sm Z G _ _ _ _ [(0, k_ra Z 1), (1, Value.int l1), (2, Value.int l2), (3, Value.int l3)] [] _ _
        refine x_aload_n C (k_dg dt_X7_readMonths_0 15 26 (.aload_n 0) 1 rfl) 0 rfl ?_
        refine x_iconst C (v := 0) (k_dg dt_X7_readMonths_0 16 27 (.iconst 0) 1 rfl) (by decide) ?_
        refine x_bipush C (v := 11) (k_dg dt_X7_readMonths_0 17 28 (.bipush 11) 2 rfl) (by decide) ?_
        refine x_callV C (a := 1) (kd := 5) (vs := [Value.int 0, Value.int 11]) (rest := []) rfl rfl (by decide) (fun r hr => by cases hr; rfl) (c_X7_isNumber C.2.2.2.2.2.2.2.2.2 G.2.1 0 11 M2) cy_X7_isNumber lk_RX7_64 im_X7_isNumber se_X7_isNumber (by decide) (by decide) (by decide) (by decide) rfl rfl (Nat.le_of_ble_eq_true rfl) (k_dg dt_X7_readMonths_0 18 30 (.invokevirtual 64) 3 rfl) (fun r3 M4 => ?_)
        show Sm Z G _ _ _ _ [(0, k_ra Z 1), (1, Value.int l1), (2, Value.int l2), (3, Value.int l3)] [Value.int r3] _ _
        refine x_if_ne C (tgt := 38) (k_dg dt_X7_readMonths_0 19 33 (.ifCond .ne 5) 3 rfl) (by decide) (fun _ => ?_) (fun _ => ?_)
        · refine x_lv [] rfl ?_
          exact Hx36 M4
        · refine x_iload_n C (k_dg dt_X7_readMonths_0 22 38 (.iload_n 1) 1 rfl) 1 rfl ?_
          refine x_iconst C (v := 1) (k_dg dt_X7_readMonths_0 23 39 (.iconst 1) 1 rfl) (by decide) ?_
          refine x_aload_n C (k_dg dt_X7_readMonths_0 24 40 (.aload_n 0) 1 rfl) 0 rfl ?_
          refine x_getI C (a := 1) (j := 5) rfl rfl (by decide) fl_RX7_26 rfl (k_dg dt_X7_readMonths_0 25 41 (.getfield 26) 3 rfl) ?_
          refine x_ishl C (k_dg dt_X7_readMonths_0 26 44 (.ishl) 1 rfl) ?_
          refine x_ior C (k_dg dt_X7_readMonths_0 27 45 (.ior) 1 rfl) ?_
          refine x_nm (w := Value.int) (fun v5 _ => ?_)
          refine x_istore_n C (lv' := [(1, Value.int v5), (0, k_ra Z 1), (2, Value.int l2), (3, Value.int l3)]) (k_dg dt_X7_readMonths_0 28 46 (.istore_n 1) 1 rfl) (by decide) rfl ?_
          refine x_aload_n C (k_dg dt_X7_readMonths_0 29 47 (.aload_n 0) 1 rfl) 1 rfl ?_
          refine x_callV C (a := 1) (kd := 5) (vs := []) (rest := []) rfl rfl (by decide) (fun r hr => by cases hr; rfl) (c_X7_step C.2.2.2.2.2.2.2.2.2 G.2.1 M4) cy_X7_step lk_RX7_34 im_X7_step se_X7_step (by decide) (by decide) (by decide) (by decide) rfl rfl (Nat.le_of_ble_eq_true rfl) (k_dg dt_X7_readMonths_0 30 48 (.invokevirtual 34) 3 rfl) (fun r6 M7 => ?_)
          show Sm Z G _ _ _ _ [(1, Value.int v5), (0, k_ra Z 1), (2, Value.int l2), (3, Value.int l3)] [] _ _
          refine x_aload_n C (k_dg dt_X7_readMonths_0 31 51 (.aload_n 0) 1 rfl) 1 rfl ?_
          refine x_lds C 2 (by decide) rfl (k_dg dt_X7_readMonths_0 32 52 (.ldc 92) 2 rfl) ?_
          refine x_callV C (a := 1) (kd := 5) (vs := [k_sa Z 2]) (rest := []) rfl rfl (by decide) (fun r hr => by cases hr; rfl) (c_X7_isNamed C.2.2.2.2.2.2.2.2.2 G.2.1 2 M7 (by decide)) cy_X7_isNamed lk_RX7_43 im_X7_isNamed se_X7_isNamed (by decide) (by decide) (by decide) (by decide) rfl rfl (Nat.le_of_ble_eq_true rfl) (k_dg dt_X7_readMonths_0 33 54 (.invokevirtual 43) 3 rfl) (fun r8 M9 => ?_)
          show Sm Z G _ _ _ _ [(1, Value.int v5), (0, k_ra Z 1), (2, Value.int l2), (3, Value.int l3)] [Value.int r8] _ _
          refine x_istore_n C (lv' := [(2, Value.int r8), (1, Value.int v5), (0, k_ra Z 1), (3, Value.int l3)]) (k_dg dt_X7_readMonths_0 34 57 (.istore_n 2) 1 rfl) (by decide) rfl ?_
          refine x_iinc C (v := 1) (lv' := [(3, Value.int (l3 + 1)), (2, Value.int r8), (1, Value.int v5), (0, k_ra Z 1)]) (k_dg dt_X7_readMonths_0 35 58 (.iinc 3 1) 3 rfl) 3 rfl (by decide) (by decide) rfl ?_
          refine x_goto C (tgt := 11) (k_dg dt_X7_readMonths_0 36 61 (.goto (-50)) 3 rfl) (by decide) ?_
          refine x_lv [3, 2, 1, 0] rfl ?_
          exact ih v5 r8 (l3 + 1) M9
def f_X7_readMonths_36 (M : k_M) : Option (Int32 × k_M) := some (-1, M)
theorem m_X7_readMonths_36 {Z : k_Z} {G : k_G} (C : k_C Z G RX7 cX7_readMonths (true, 4, 6, 0, 0) (some .int) "readMonths") (M : k_M) : Sm Z G emI (true, 4, 6, 0, 0) (0, 0) 36 [] [] M (f_X7_readMonths_36 M) := by
  show Sm Z G emI _ _ _ _ _ _ (some (-1, M))
  refine x_iconst C (v := -1) (k_dg dt_X7_readMonths_0 20 36 (.iconst (-1)) 1 rfl) (by decide) ?_
  exact x_iret C (by decide) (by decide) (k_dg dt_X7_readMonths_0 21 37 (.ireturn) 1 rfl)
def f_X7_readMonths_64 (l1 : Int32) (M : k_M) : Option (Int32 × k_M) := some (l1, M)
theorem m_X7_readMonths_64 {Z : k_Z} {G : k_G} (C : k_C Z G RX7 cX7_readMonths (true, 4, 6, 0, 0) (some .int) "readMonths") (l1 : Int32) (M : k_M) : Sm Z G emI (true, 4, 6, 0, 0) (0, 0) 64 [(1, Value.int l1)] [] M (f_X7_readMonths_64 l1 M) := by
  show Sm Z G emI _ _ _ _ _ _ (some (l1, M))
  refine x_iload_n C (k_dg dt_X7_readMonths_0 37 64 (.iload_n 1) 1 rfl) 0 rfl ?_
  exact x_iret C (by decide) (by decide) (k_dg dt_X7_readMonths_0 38 65 (.ireturn) 1 rfl)
def f_X7_readMonths (M : k_M) : Option (Int32 × k_M) := bd (f_X7_isNamed 1 M) (fun r1 M2 => f_X7_readMonths_11 k_fu 0 r1 0 M2 (fun M_ => f_X7_readMonths_36 M_) (fun l1_ M_ => f_X7_readMonths_64 l1_ M_))
theorem m_X7_readMonths_0 {Z : k_Z} {G : k_G} (C : k_C Z G RX7 cX7_readMonths (true, 4, 6, 0, 0) (some .int) "readMonths") (M : k_M) : Sm Z G emI (true, 4, 6, 0, 0) (0, 0) 0 [(0, k_ra Z 1)] [] M (f_X7_readMonths M) := by
  show Sm Z G emI _ _ _ _ _ _ (bd (f_X7_isNamed 1 M) (fun r1 M2 => f_X7_readMonths_11 k_fu 0 r1 0 M2 (fun M_ => f_X7_readMonths_36 M_) (fun l1_ M_ => f_X7_readMonths_64 l1_ M_)))
  refine x_iconst C (v := 0) (k_dg dt_X7_readMonths_0 0 0 (.iconst 0) 1 rfl) (by decide) ?_
  refine x_istore_n C (lv' := [(1, Value.int 0), (0, k_ra Z 1)]) (k_dg dt_X7_readMonths_0 1 1 (.istore_n 1) 1 rfl) (by decide) rfl ?_
  refine x_aload_n C (k_dg dt_X7_readMonths_0 2 2 (.aload_n 0) 1 rfl) 1 rfl ?_
  refine x_lds C 1 (by decide) rfl (k_dg dt_X7_readMonths_0 3 3 (.ldc 90) 2 rfl) ?_
  refine x_callV C (a := 1) (kd := 5) (vs := [k_sa Z 1]) (rest := []) rfl rfl (by decide) (fun r hr => by cases hr; rfl) (c_X7_isNamed C.2.2.2.2.2.2.2.2.2 G.2.1 1 M (by decide)) cy_X7_isNamed lk_RX7_43 im_X7_isNamed se_X7_isNamed (by decide) (by decide) (by decide) (by decide) rfl rfl (Nat.le_of_ble_eq_true rfl) (k_dg dt_X7_readMonths_0 4 5 (.invokevirtual 43) 3 rfl) (fun r1 M2 => ?_)
  show Sm Z G _ _ _ _ [(1, Value.int 0), (0, k_ra Z 1)] [Value.int r1] _ _
  refine x_istore_n C (lv' := [(2, Value.int r1), (1, Value.int 0), (0, k_ra Z 1)]) (k_dg dt_X7_readMonths_0 5 8 (.istore_n 2) 1 rfl) (by decide) rfl ?_
  refine x_iconst C (v := 0) (k_dg dt_X7_readMonths_0 6 9 (.iconst 0) 1 rfl) (by decide) ?_
  refine x_istore_n C (lv' := [(3, Value.int 0), (2, Value.int r1), (1, Value.int 0), (0, k_ra Z 1)]) (k_dg dt_X7_readMonths_0 7 10 (.istore_n 3) 1 rfl) (by decide) rfl ?_
  refine x_lv [3, 2, 1, 0] rfl ?_
  exact m_X7_readMonths_11 C (fun M_ => f_X7_readMonths_36 M_) (fun l1_ M_ => f_X7_readMonths_64 l1_ M_) (fun M_ => m_X7_readMonths_36 C M_) (fun l1_ M_ => m_X7_readMonths_64 C l1_ M_) k_fu 0 r1 0 M2
theorem c_X7_readMonths {Z : k_Z} (hg : k_Gd Z) (l : Launch) (M : k_M) : Con true Z l yX7_readMonths cX7_readMonths 4 (some .int) 6 0 0 emI [k_ra Z 1] M (f_X7_readMonths M) := k_con hg (by decide) (Nat.le_of_ble_eq_true rfl) (fun G hl C => m_X7_readMonths_0 C M)
theorem dt_X7_isEndOfPiece_0 : k_dec cX7_isEndOfPiece [(0, .aload_n 0, 1), (1, .getfield 17, 3), (4, .iconst 3, 1), (5, .if_icmp .ne 21, 3), (8, .aload_n 0, 1), (9, .getfield 9, 3), (12, .aload_n 0, 1), (13, .getfield 20, 3), (16, .iaload, 1), (17, .bipush 59, 2), (19, .if_icmp .ne 7, 3), (22, .iconst 1, 1), (23, .goto 4, 3), (26, .iconst 0, 1), (27, .ireturn, 1)] = true := by decide +kernel
def f_X7_isEndOfPiece (M : k_M) : Option (Int32 × k_M) := if (M.1 1 2) = 3 then rdI M 2 200 (M.1 1 3) (fun v1 => if v1 = 59 then some (1, M) else some (0, M)) else some (0, M)
theorem m_X7_isEndOfPiece_0 {Z : k_Z} {G : k_G} (C : k_C Z G RX7 cX7_isEndOfPiece (true, 1, 1, 0, 0) (some .boolean) "isEndOfPiece") (M : k_M) : Sm Z G emI (true, 1, 1, 0, 0) (0, 0) 0 [(0, k_ra Z 1)] [] M (f_X7_isEndOfPiece M) := by
  show Sm Z G emI _ _ _ _ _ _ (if (M.1 1 2) = 3 then rdI M 2 200 (M.1 1 3) (fun v1 => if v1 = 59 then some (1, M) else some (0, M)) else some (0, M))
  refine x_aload_n C (k_dg dt_X7_isEndOfPiece_0 0 0 (.aload_n 0) 1 rfl) 0 rfl ?_
  refine x_getI C (a := 1) (j := 2) rfl rfl (by decide) fl_RX7_17 rfl (k_dg dt_X7_isEndOfPiece_0 1 1 (.getfield 17) 3 rfl) ?_
  refine x_iconst C (v := 3) (k_dg dt_X7_isEndOfPiece_0 2 4 (.iconst 3) 1 rfl) (by decide) ?_
  refine x_icmp_ne C (tgt := 26) (k_dg dt_X7_isEndOfPiece_0 3 5 (.if_icmp .ne 21) 3 rfl) (by decide) (fun _ => ?_) (fun _ => ?_)
  · refine x_aload_n C (k_dg dt_X7_isEndOfPiece_0 4 8 (.aload_n 0) 1 rfl) 0 rfl ?_
    refine x_getR C (a := 1) (j := 0) 2 rfl rfl (by decide) fl_RX7_9 rfl rfl rfl (k_dg dt_X7_isEndOfPiece_0 5 9 (.getfield 9) 3 rfl) ?_
    refine x_aload_n C (k_dg dt_X7_isEndOfPiece_0 6 12 (.aload_n 0) 1 rfl) 0 rfl ?_
    refine x_getI C (a := 1) (j := 3) rfl rfl (by decide) fl_RX7_20 rfl (k_dg dt_X7_isEndOfPiece_0 7 13 (.getfield 20) 3 rfl) ?_
    refine x_iald C (a := 2) (n := 200) rfl rfl (k_dg dt_X7_isEndOfPiece_0 8 16 (.iaload) 1 rfl) (fun v1 => ?_)
    refine x_bipush C (v := 59) (k_dg dt_X7_isEndOfPiece_0 9 17 (.bipush 59) 2 rfl) (by decide) ?_
    refine x_icmp_ne C (tgt := 26) (k_dg dt_X7_isEndOfPiece_0 10 19 (.if_icmp .ne 7) 3 rfl) (by decide) (fun _ => ?_) (fun _ => ?_)
    · refine x_iconst C (v := 1) (k_dg dt_X7_isEndOfPiece_0 11 22 (.iconst 1) 1 rfl) (by decide) ?_
      refine x_goto C (tgt := 27) (k_dg dt_X7_isEndOfPiece_0 12 23 (.goto 4) 3 rfl) (by decide) ?_
      exact x_zret C (by decide) (by decide) rfl (k_dg dt_X7_isEndOfPiece_0 14 27 (.ireturn) 1 rfl)
    · refine x_iconst C (v := 0) (k_dg dt_X7_isEndOfPiece_0 13 26 (.iconst 0) 1 rfl) (by decide) ?_
      exact x_zret C (by decide) (by decide) rfl (k_dg dt_X7_isEndOfPiece_0 14 27 (.ireturn) 1 rfl)
  · refine x_iconst C (v := 0) (k_dg dt_X7_isEndOfPiece_0 13 26 (.iconst 0) 1 rfl) (by decide) ?_
    exact x_zret C (by decide) (by decide) rfl (k_dg dt_X7_isEndOfPiece_0 14 27 (.ireturn) 1 rfl)
theorem c_X7_isEndOfPiece {Z : k_Z} (hg : k_Gd Z) (l : Launch) (M : k_M) : Con true Z l yX7_isEndOfPiece cX7_isEndOfPiece 1 (some .boolean) 1 0 0 emI [k_ra Z 1] M (f_X7_isEndOfPiece M) := k_con hg (by decide) (Nat.le_of_ble_eq_true rfl) (fun G hl C => m_X7_isEndOfPiece_0 C M)
theorem dt_X7_readWay_0 : k_dec cX7_readWay [(0, .aload_n 0, 1), (1, .invokevirtual 34, 3), (4, .aload_n 0, 1), (5, .aload_n 1, 1), (6, .invokevirtual 80, 3), (9, .ifCond .ne 5, 3), (12, .iconst 0, 1), (13, .ireturn, 1), (14, .aload_n 0, 1), (15, .getfield 26, 3), (18, .istore_n 2, 1), (19, .aload_n 0, 1), (20, .invokevirtual 34, 3), (23, .aload_n 0, 1), (24, .aload_n 1, 1), (25, .invokevirtual 80, 3), (28, .ifCond .eq 11, 3), (31, .aload_n 0, 1), (32, .getfield 26, 3), (35, .iload_n 2, 1), (36, .if_icmp .ne 5, 3), (39, .iconst 0, 1), (40, .ireturn, 1), (41, .aload_n 0, 1), (42, .getfield 26, 3), (45, .istore_n 3, 1), (46, .aload_n 0, 1), (47, .invokevirtual 34, 3), (50, .aload_n 0, 1), (51, .iconst 1, 1), (52, .iconst 4, 1), (53, .invokevirtual 64, 3), (56, .ifCond .ne 5, 3), (59, .iconst 0, 1), (60, .ireturn, 1), (61, .aload_n 0, 1), (62, .getfield 26, 3), (65, .istore 4, 2), (67, .aload_n 0, 1), (68, .invokevirtual 34, 3)] = true := by decide +kernel
theorem dt_X7_readWay_1 : k_dec cX7_readWay [(71, .aload_n 0, 1), (72, .iconst 0, 1), (73, .bipush 9, 2), (75, .invokevirtual 64, 3), (78, .ifCond .ne 5, 3), (81, .iconst 0, 1), (82, .ireturn, 1), (83, .aload_n 0, 1), (84, .getfield 26, 3), (87, .istore 5, 2), (89, .aload_n 0, 1), (90, .invokevirtual 34, 3), (93, .aload_n 0, 1), (94, .invokevirtual 83, 3), (97, .istore 6, 2), (99, .iload 6, 2), (101, .iconst (-1), 1), (102, .if_icmp .eq 10, 3), (105, .aload_n 0, 1), (106, .invokevirtual 72, 3), (109, .ifCond .ne 5, 3), (112, .iconst 0, 1), (113, .ireturn, 1), (114, .aload_n 1, 1), (115, .iload_n 2, 1), (116, .iload_n 3, 1), (117, .iload 4, 2), (119, .iload 5, 2), (121, .iload 6, 2), (123, .invokevirtual 86, 3), (126, .pop, 1), (127, .iconst 1, 1), (128, .ireturn, 1)] = true := by decide +kernel
def f_X7_readWay (v : Nat) (M : k_M) : Option (Int32 × k_M) := bd (f_X7_step M) (fun r1 M2 => bd (f_X7_isFreePlace v M2) (fun r3 M4 => if r3 = 0 then some (0, M4) else bN (M4.1 1 5) (fun v5 => bd (f_X7_step M4) (fun r6 M7 => bd (f_X7_isFreePlace v M7) (fun r8 M9 => if r8 = 0 then some (0, M9) else if (M9.1 1 5) = v5 then some (0, M9) else bN (M9.1 1 5) (fun v10 => bd (f_X7_step M9) (fun r11 M12 => bd (f_X7_isNumber 1 4 M12) (fun r13 M14 => if r13 = 0 then some (0, M14) else bN (M14.1 1 5) (fun v15 => bd (f_X7_step M14) (fun r16 M17 => bd (f_X7_isNumber 0 9 M17) (fun r18 M19 => if r18 = 0 then some (0, M19) else bN (M19.1 1 5) (fun v20 => bd (f_X7_step M19) (fun r21 M22 => bd (f_X7_readMonths M22) (fun r23 M24 => if r23 = (-1) then some (0, M24) else bd (f_X7_isEndOfPiece M24) (fun r25 M26 => if r25 = 0 then some (0, M26) else bd (f_X3_addWay v v5 v10 v15 v20 r23 M26) (fun r27 M28 => some (1, M28)))))))))))))))))
theorem m_X7_readWay_0 {Z : k_Z} {G : k_G} {v : Nat} (C : k_C Z G RX7 cX7_readWay (true, 7, 7, 0, 0) (some .boolean) "readWay") (hv : isW v) (M : k_M) : Sm Z G emI (true, 7, 7, 0, 0) (0, 0) 0 [(0, k_ra Z 1), (1, k_ra Z (v + 1))] [] M (f_X7_readWay v M) := by
  show Sm Z G emI _ _ _ _ _ _ (bd (f_X7_step M) (fun r1 M2 => bd (f_X7_isFreePlace v M2) (fun r3 M4 => if r3 = 0 then some (0, M4) else bN (M4.1 1 5) (fun v5 => bd (f_X7_step M4) (fun r6 M7 => bd (f_X7_isFreePlace v M7) (fun r8 M9 => if r8 = 0 then some (0, M9) else if (M9.1 1 5) = v5 then some (0, M9) else bN (M9.1 1 5) (fun v10 => bd (f_X7_step M9) (fun r11 M12 => bd (f_X7_isNumber 1 4 M12) (fun r13 M14 => if r13 = 0 then some (0, M14) else bN (M14.1 1 5) (fun v15 => bd (f_X7_step M14) (fun r16 M17 => bd (f_X7_isNumber 0 9 M17) (fun r18 M19 => if r18 = 0 then some (0, M19) else bN (M19.1 1 5) (fun v20 => bd (f_X7_step M19) (fun r21 M22 => bd (f_X7_readMonths M22) (fun r23 M24 => if r23 = (-1) then some (0, M24) else bd (f_X7_isEndOfPiece M24) (fun r25 M26 => if r25 = 0 then some (0, M26) else bd (f_X3_addWay v v5 v10 v15 v20 r23 M26) (fun r27 M28 => some (1, M28))))))))))))))))))
  refine x_aload_n C (k_dg dt_X7_readWay_0 0 0 (.aload_n 0) 1 rfl) 0 rfl ?_
  refine x_callV C (a := 1) (kd := 5) (vs := []) (rest := []) rfl rfl (by decide) (fun r hr => by cases hr; rfl) (c_X7_step C.2.2.2.2.2.2.2.2.2 G.2.1 M) cy_X7_step lk_RX7_34 im_X7_step se_X7_step (by decide) (by decide) (by decide) (by decide) rfl rfl (Nat.le_of_ble_eq_true rfl) (k_dg dt_X7_readWay_0 1 1 (.invokevirtual 34) 3 rfl) (fun r1 M2 => ?_)
  show Sm Z G _ _ _ _ [(0, k_ra Z 1), (1, k_ra Z (v + 1))] [] _ _
  refine x_aload_n C (k_dg dt_X7_readWay_0 2 4 (.aload_n 0) 1 rfl) 0 rfl ?_
  refine x_aload_n C (k_dg dt_X7_readWay_0 3 5 (.aload_n 1) 1 rfl) 1 rfl ?_
  refine x_callV C (a := 1) (kd := 5) (vs := [k_ra Z (v + 1)]) (rest := []) rfl rfl (by decide) (fun r hr => by cases hr; rfl) (c_X7_isFreePlace C.2.2.2.2.2.2.2.2.2 G.2.1 v M2 hv) cy_X7_isFreePlace lk_RX7_80 im_X7_isFreePlace se_X7_isFreePlace (by decide) (by decide) (by decide) (by decide) rfl rfl (Nat.le_of_ble_eq_true rfl) (k_dg dt_X7_readWay_0 4 6 (.invokevirtual 80) 3 rfl) (fun r3 M4 => ?_)
  show Sm Z G _ _ _ _ [(0, k_ra Z 1), (1, k_ra Z (v + 1))] [Value.int r3] _ _
  refine x_if_ne C (tgt := 14) (k_dg dt_X7_readWay_0 5 9 (.ifCond .ne 5) 3 rfl) (by decide) (fun _ => ?_) (fun _ => ?_)
  · refine x_iconst C (v := 0) (k_dg dt_X7_readWay_0 6 12 (.iconst 0) 1 rfl) (by decide) ?_
    exact x_zret C (by decide) (by decide) rfl (k_dg dt_X7_readWay_0 7 13 (.ireturn) 1 rfl)
  · refine x_aload_n C (k_dg dt_X7_readWay_0 8 14 (.aload_n 0) 1 rfl) 0 rfl ?_
    refine x_getI C (a := 1) (j := 5) rfl rfl (by decide) fl_RX7_26 rfl (k_dg dt_X7_readWay_0 9 15 (.getfield 26) 3 rfl) ?_
    refine x_nm (w := Value.int) (fun v5 _ => ?_)
    refine x_istore_n C (lv' := [(2, Value.int v5), (0, k_ra Z 1), (1, k_ra Z (v + 1))]) (k_dg dt_X7_readWay_0 10 18 (.istore_n 2) 1 rfl) (by decide) rfl ?_
    refine x_aload_n C (k_dg dt_X7_readWay_0 11 19 (.aload_n 0) 1 rfl) 1 rfl ?_
    refine x_callV C (a := 1) (kd := 5) (vs := []) (rest := []) rfl rfl (by decide) (fun r hr => by cases hr; rfl) (c_X7_step C.2.2.2.2.2.2.2.2.2 G.2.1 M4) cy_X7_step lk_RX7_34 im_X7_step se_X7_step (by decide) (by decide) (by decide) (by decide) rfl rfl (Nat.le_of_ble_eq_true rfl) (k_dg dt_X7_readWay_0 12 20 (.invokevirtual 34) 3 rfl) (fun r6 M7 => ?_)
    show Sm Z G _ _ _ _ [(2, Value.int v5), (0, k_ra Z 1), (1, k_ra Z (v + 1))] [] _ _
    refine x_aload_n C (k_dg dt_X7_readWay_0 13 23 (.aload_n 0) 1 rfl) 1 rfl ?_
    refine x_aload_n C (k_dg dt_X7_readWay_0 14 24 (.aload_n 1) 1 rfl) 2 rfl ?_
    refine x_callV C (a := 1) (kd := 5) (vs := [k_ra Z (v + 1)]) (rest := []) rfl rfl (by decide) (fun r hr => by cases hr; rfl) (c_X7_isFreePlace C.2.2.2.2.2.2.2.2.2 G.2.1 v M7 hv) cy_X7_isFreePlace lk_RX7_80 im_X7_isFreePlace se_X7_isFreePlace (by decide) (by decide) (by decide) (by decide) rfl rfl (Nat.le_of_ble_eq_true rfl) (k_dg dt_X7_readWay_0 15 25 (.invokevirtual 80) 3 rfl) (fun r8 M9 => ?_)
    show Sm Z G _ _ _ _ [(2, Value.int v5), (0, k_ra Z 1), (1, k_ra Z (v + 1))] [Value.int r8] _ _
    refine x_if_eq C (tgt := 39) (k_dg dt_X7_readWay_0 16 28 (.ifCond .eq 11) 3 rfl) (by decide) (fun _ => ?_) (fun _ => ?_)
    · refine x_iconst C (v := 0) (k_dg dt_X7_readWay_0 21 39 (.iconst 0) 1 rfl) (by decide) ?_
      exact x_zret C (by decide) (by decide) rfl (k_dg dt_X7_readWay_0 22 40 (.ireturn) 1 rfl)
    · refine x_aload_n C (k_dg dt_X7_readWay_0 17 31 (.aload_n 0) 1 rfl) 1 rfl ?_
      refine x_getI C (a := 1) (j := 5) rfl rfl (by decide) fl_RX7_26 rfl (k_dg dt_X7_readWay_0 18 32 (.getfield 26) 3 rfl) ?_
      refine x_iload_n C (k_dg dt_X7_readWay_0 19 35 (.iload_n 2) 1 rfl) 0 rfl ?_
      refine x_icmp_ne C (tgt := 41) (k_dg dt_X7_readWay_0 20 36 (.if_icmp .ne 5) 3 rfl) (by decide) (fun _ => ?_) (fun _ => ?_)
      · refine x_iconst C (v := 0) (k_dg dt_X7_readWay_0 21 39 (.iconst 0) 1 rfl) (by decide) ?_
        exact x_zret C (by decide) (by decide) rfl (k_dg dt_X7_readWay_0 22 40 (.ireturn) 1 rfl)
      · refine x_aload_n C (k_dg dt_X7_readWay_0 23 41 (.aload_n 0) 1 rfl) 1 rfl ?_
        refine x_getI C (a := 1) (j := 5) rfl rfl (by decide) fl_RX7_26 rfl (k_dg dt_X7_readWay_0 24 42 (.getfield 26) 3 rfl) ?_
        refine x_nm (w := Value.int) (fun v10 _ => ?_)
        refine x_istore_n C (lv' := [(3, Value.int v10), (2, Value.int v5), (0, k_ra Z 1), (1, k_ra Z (v + 1))]) (k_dg dt_X7_readWay_0 25 45 (.istore_n 3) 1 rfl) (by decide) rfl ?_
        refine x_aload_n C (k_dg dt_X7_readWay_0 26 46 (.aload_n 0) 1 rfl) 2 rfl ?_
        refine x_callV C (a := 1) (kd := 5) (vs := []) (rest := []) rfl rfl (by decide) (fun r hr => by cases hr; rfl) (c_X7_step C.2.2.2.2.2.2.2.2.2 G.2.1 M9) cy_X7_step lk_RX7_34 im_X7_step se_X7_step (by decide) (by decide) (by decide) (by decide) rfl rfl (Nat.le_of_ble_eq_true rfl) (k_dg dt_X7_readWay_0 27 47 (.invokevirtual 34) 3 rfl) (fun r11 M12 => ?_)
        show Sm Z G _ _ _ _ [(3, Value.int v10), (2, Value.int v5), (0, k_ra Z 1), (1, k_ra Z (v + 1))] [] _ _
        refine x_aload_n C (k_dg dt_X7_readWay_0 28 50 (.aload_n 0) 1 rfl) 2 rfl ?_
        refine x_iconst C (v := 1) (k_dg dt_X7_readWay_0 29 51 (.iconst 1) 1 rfl) (by decide) ?_
        refine x_iconst C (v := 4) (k_dg dt_X7_readWay_0 30 52 (.iconst 4) 1 rfl) (by decide) ?_
        refine x_callV C (a := 1) (kd := 5) (vs := [Value.int 1, Value.int 4]) (rest := []) rfl rfl (by decide) (fun r hr => by cases hr; rfl) (c_X7_isNumber C.2.2.2.2.2.2.2.2.2 G.2.1 1 4 M12) cy_X7_isNumber lk_RX7_64 im_X7_isNumber se_X7_isNumber (by decide) (by decide) (by decide) (by decide) rfl rfl (Nat.le_of_ble_eq_true rfl) (k_dg dt_X7_readWay_0 31 53 (.invokevirtual 64) 3 rfl) (fun r13 M14 => ?_)
        show Sm Z G _ _ _ _ [(3, Value.int v10), (2, Value.int v5), (0, k_ra Z 1), (1, k_ra Z (v + 1))] [Value.int r13] _ _
        refine x_if_ne C (tgt := 61) (k_dg dt_X7_readWay_0 32 56 (.ifCond .ne 5) 3 rfl) (by decide) (fun _ => ?_) (fun _ => ?_)
        · refine x_iconst C (v := 0) (k_dg dt_X7_readWay_0 33 59 (.iconst 0) 1 rfl) (by decide) ?_
          exact x_zret C (by decide) (by decide) rfl (k_dg dt_X7_readWay_0 34 60 (.ireturn) 1 rfl)
        · refine x_aload_n C (k_dg dt_X7_readWay_0 35 61 (.aload_n 0) 1 rfl) 2 rfl ?_
          refine x_getI C (a := 1) (j := 5) rfl rfl (by decide) fl_RX7_26 rfl (k_dg dt_X7_readWay_0 36 62 (.getfield 26) 3 rfl) ?_
          refine x_nm (w := Value.int) (fun v15 _ => ?_)
          refine x_istore C (lv' := [(4, Value.int v15), (3, Value.int v10), (2, Value.int v5), (0, k_ra Z 1), (1, k_ra Z (v + 1))]) (k_dg dt_X7_readWay_0 37 65 (.istore 4) 2 rfl) (by decide) rfl ?_
          refine x_aload_n C (k_dg dt_X7_readWay_0 38 67 (.aload_n 0) 1 rfl) 3 rfl ?_
          refine x_callV C (a := 1) (kd := 5) (vs := []) (rest := []) rfl rfl (by decide) (fun r hr => by cases hr; rfl) (c_X7_step C.2.2.2.2.2.2.2.2.2 G.2.1 M14) cy_X7_step lk_RX7_34 im_X7_step se_X7_step (by decide) (by decide) (by decide) (by decide) rfl rfl (Nat.le_of_ble_eq_true rfl) (k_dg dt_X7_readWay_0 39 68 (.invokevirtual 34) 3 rfl) (fun r16 M17 => ?_)
          show Sm Z G _ _ _ _ [(4, Value.int v15), (3, Value.int v10), (2, Value.int v5), (0, k_ra Z 1), (1, k_ra Z (v + 1))] [] _ _
          refine x_aload_n C (k_dg dt_X7_readWay_1 0 71 (.aload_n 0) 1 rfl) 3 rfl ?_
          refine x_iconst C (v := 0) (k_dg dt_X7_readWay_1 1 72 (.iconst 0) 1 rfl) (by decide) ?_
          refine x_bipush C (v := 9) (k_dg dt_X7_readWay_1 2 73 (.bipush 9) 2 rfl) (by decide) ?_
          refine x_callV C (a := 1) (kd := 5) (vs := [Value.int 0, Value.int 9]) (rest := []) rfl rfl (by decide) (fun r hr => by cases hr; rfl) (c_X7_isNumber C.2.2.2.2.2.2.2.2.2 G.2.1 0 9 M17) cy_X7_isNumber lk_RX7_64 im_X7_isNumber se_X7_isNumber (by decide) (by decide) (by decide) (by decide) rfl rfl (Nat.le_of_ble_eq_true rfl) (k_dg dt_X7_readWay_1 3 75 (.invokevirtual 64) 3 rfl) (fun r18 M19 => ?_)
          show Sm Z G _ _ _ _ [(4, Value.int v15), (3, Value.int v10), (2, Value.int v5), (0, k_ra Z 1), (1, k_ra Z (v + 1))] [Value.int r18] _ _
          refine x_if_ne C (tgt := 83) (k_dg dt_X7_readWay_1 4 78 (.ifCond .ne 5) 3 rfl) (by decide) (fun _ => ?_) (fun _ => ?_)
          · refine x_iconst C (v := 0) (k_dg dt_X7_readWay_1 5 81 (.iconst 0) 1 rfl) (by decide) ?_
            exact x_zret C (by decide) (by decide) rfl (k_dg dt_X7_readWay_1 6 82 (.ireturn) 1 rfl)
          · refine x_aload_n C (k_dg dt_X7_readWay_1 7 83 (.aload_n 0) 1 rfl) 3 rfl ?_
            refine x_getI C (a := 1) (j := 5) rfl rfl (by decide) fl_RX7_26 rfl (k_dg dt_X7_readWay_1 8 84 (.getfield 26) 3 rfl) ?_
            refine x_nm (w := Value.int) (fun v20 _ => ?_)
            refine x_istore C (lv' := [(5, Value.int v20), (4, Value.int v15), (3, Value.int v10), (2, Value.int v5), (0, k_ra Z 1), (1, k_ra Z (v + 1))]) (k_dg dt_X7_readWay_1 9 87 (.istore 5) 2 rfl) (by decide) rfl ?_
            refine x_aload_n C (k_dg dt_X7_readWay_1 10 89 (.aload_n 0) 1 rfl) 4 rfl ?_
            refine x_callV C (a := 1) (kd := 5) (vs := []) (rest := []) rfl rfl (by decide) (fun r hr => by cases hr; rfl) (c_X7_step C.2.2.2.2.2.2.2.2.2 G.2.1 M19) cy_X7_step lk_RX7_34 im_X7_step se_X7_step (by decide) (by decide) (by decide) (by decide) rfl rfl (Nat.le_of_ble_eq_true rfl) (k_dg dt_X7_readWay_1 11 90 (.invokevirtual 34) 3 rfl) (fun r21 M22 => ?_)
            show Sm Z G _ _ _ _ [(5, Value.int v20), (4, Value.int v15), (3, Value.int v10), (2, Value.int v5), (0, k_ra Z 1), (1, k_ra Z (v + 1))] [] _ _
            refine x_aload_n C (k_dg dt_X7_readWay_1 12 93 (.aload_n 0) 1 rfl) 4 rfl ?_
            refine x_callV C (a := 1) (kd := 5) (vs := []) (rest := []) rfl rfl (by decide) (fun r hr => by cases hr; rfl) (c_X7_readMonths C.2.2.2.2.2.2.2.2.2 G.2.1 M22) cy_X7_readMonths lk_RX7_83 im_X7_readMonths se_X7_readMonths (by decide) (by decide) (by decide) (by decide) rfl rfl (Nat.le_of_ble_eq_true rfl) (k_dg dt_X7_readWay_1 13 94 (.invokevirtual 83) 3 rfl) (fun r23 M24 => ?_)
            show Sm Z G _ _ _ _ [(5, Value.int v20), (4, Value.int v15), (3, Value.int v10), (2, Value.int v5), (0, k_ra Z 1), (1, k_ra Z (v + 1))] [Value.int r23] _ _
            refine x_istore C (lv' := [(6, Value.int r23), (5, Value.int v20), (4, Value.int v15), (3, Value.int v10), (2, Value.int v5), (0, k_ra Z 1), (1, k_ra Z (v + 1))]) (k_dg dt_X7_readWay_1 14 97 (.istore 6) 2 rfl) (by decide) rfl ?_
            refine x_iload C (k_dg dt_X7_readWay_1 15 99 (.iload 6) 2 rfl) 0 rfl ?_
            refine x_iconst C (v := -1) (k_dg dt_X7_readWay_1 16 101 (.iconst (-1)) 1 rfl) (by decide) ?_
            refine x_icmp_eq C (tgt := 112) (k_dg dt_X7_readWay_1 17 102 (.if_icmp .eq 10) 3 rfl) (by decide) (fun _ => ?_) (fun _ => ?_)
            · refine x_iconst C (v := 0) (k_dg dt_X7_readWay_1 21 112 (.iconst 0) 1 rfl) (by decide) ?_
              exact x_zret C (by decide) (by decide) rfl (k_dg dt_X7_readWay_1 22 113 (.ireturn) 1 rfl)
            · refine x_aload_n C (k_dg dt_X7_readWay_1 18 105 (.aload_n 0) 1 rfl) 5 rfl ?_
              refine x_callV C (a := 1) (kd := 5) (vs := []) (rest := []) rfl rfl (by decide) (fun r hr => by cases hr; rfl) (c_X7_isEndOfPiece C.2.2.2.2.2.2.2.2.2 G.2.1 M24) cy_X7_isEndOfPiece lk_RX7_72 im_X7_isEndOfPiece se_X7_isEndOfPiece (by decide) (by decide) (by decide) (by decide) rfl rfl (Nat.le_of_ble_eq_true rfl) (k_dg dt_X7_readWay_1 19 106 (.invokevirtual 72) 3 rfl) (fun r25 M26 => ?_)
              show Sm Z G _ _ _ _ [(6, Value.int r23), (5, Value.int v20), (4, Value.int v15), (3, Value.int v10), (2, Value.int v5), (0, k_ra Z 1), (1, k_ra Z (v + 1))] [Value.int r25] _ _
              refine x_if_ne C (tgt := 114) (k_dg dt_X7_readWay_1 20 109 (.ifCond .ne 5) 3 rfl) (by decide) (fun _ => ?_) (fun _ => ?_)
              · refine x_iconst C (v := 0) (k_dg dt_X7_readWay_1 21 112 (.iconst 0) 1 rfl) (by decide) ?_
                exact x_zret C (by decide) (by decide) rfl (k_dg dt_X7_readWay_1 22 113 (.ireturn) 1 rfl)
              · refine x_aload_n C (k_dg dt_X7_readWay_1 23 114 (.aload_n 1) 1 rfl) 6 rfl ?_
                refine x_iload_n C (k_dg dt_X7_readWay_1 24 115 (.iload_n 2) 1 rfl) 4 rfl ?_
                refine x_iload_n C (k_dg dt_X7_readWay_1 25 116 (.iload_n 3) 1 rfl) 3 rfl ?_
                refine x_iload C (k_dg dt_X7_readWay_1 26 117 (.iload 4) 2 rfl) 2 rfl ?_
                refine x_iload C (k_dg dt_X7_readWay_1 27 119 (.iload 5) 2 rfl) 1 rfl ?_
                refine x_iload C (k_dg dt_X7_readWay_1 28 121 (.iload 6) 2 rfl) 0 rfl ?_
                refine x_callV C (a := v + 1) (kd := 2) (vs := [Value.int v5, Value.int v10, Value.int v15, Value.int v20, Value.int r23]) (rest := []) rfl (kW 1 hv rfl) (by decide) (fun r hr => by cases hr; rfl) (c_X3_addWay C.2.2.2.2.2.2.2.2.2 G.2.1 v v5 v10 v15 v20 r23 M26 hv) cy_X3_addWay lk_RX7_86 im_X3_addWay se_X3_addWay (by decide) (by decide) (by decide) (by decide) rfl rfl (Nat.le_of_ble_eq_true rfl) (k_dg dt_X7_readWay_1 29 123 (.invokevirtual 86) 3 rfl) (fun r27 M28 => ?_)
                show Sm Z G _ _ _ _ [(6, Value.int r23), (5, Value.int v20), (4, Value.int v15), (3, Value.int v10), (2, Value.int v5), (0, k_ra Z 1), (1, k_ra Z (v + 1))] [Value.int r27] _ _
                refine x_pop C (k_dg dt_X7_readWay_1 30 126 (.pop) 1 rfl) rfl ?_
                refine x_iconst C (v := 1) (k_dg dt_X7_readWay_1 31 127 (.iconst 1) 1 rfl) (by decide) ?_
                exact x_zret C (by decide) (by decide) rfl (k_dg dt_X7_readWay_1 32 128 (.ireturn) 1 rfl)
theorem c_X7_readWay {Z : k_Z} (hg : k_Gd Z) (l : Launch) (v : Nat) (M : k_M) (hv : isW v) : Con true Z l yX7_readWay cX7_readWay 7 (some .boolean) 7 0 0 emI [k_ra Z 1, k_ra Z (v + 1)] M (f_X7_readWay v M) := k_con hg (by decide) (Nat.le_of_ble_eq_true rfl) (fun G hl C => m_X7_readWay_0 C hv M)
theorem dt_X7_kindNamed_0 : k_dec cX7_kindNamed [(0, .aload_n 0, 1), (1, .ldc 97, 2), (3, .invokevirtual 43, 3), (6, .ifCond .eq 5, 3), (9, .iconst 0, 1), (10, .ireturn, 1), (11, .aload_n 0, 1), (12, .ldc 99, 2), (14, .invokevirtual 43, 3), (17, .ifCond .eq 5, 3), (20, .iconst 1, 1), (21, .ireturn, 1), (22, .aload_n 0, 1), (23, .ldc 101, 2), (25, .invokevirtual 43, 3), (28, .ifCond .eq 5, 3), (31, .iconst 2, 1), (32, .ireturn, 1), (33, .aload_n 0, 1), (34, .ldc 103, 2), (36, .invokevirtual 43, 3), (39, .ifCond .eq 5, 3), (42, .iconst 3, 1), (43, .ireturn, 1), (44, .aload_n 0, 1), (45, .ldc 105, 2), (47, .invokevirtual 43, 3), (50, .ifCond .eq 5, 3), (53, .iconst 4, 1), (54, .ireturn, 1), (55, .aload_n 0, 1), (56, .ldc 107, 2), (58, .invokevirtual 43, 3), (61, .ifCond .eq 7, 3), (64, .iconst 5, 1), (65, .goto 4, 3), (68, .iconst (-1), 1), (69, .ireturn, 1)] = true := by decide +kernel
def f_X7_kindNamed (M : k_M) : Option (Int32 × k_M) := bd (f_X7_isNamed 3 M) (fun r1 M2 => if r1 = 0 then bd (f_X7_isNamed 4 M2) (fun r3 M4 => if r3 = 0 then bd (f_X7_isNamed 5 M4) (fun r5 M6 => if r5 = 0 then bd (f_X7_isNamed 6 M6) (fun r7 M8 => if r7 = 0 then bd (f_X7_isNamed 7 M8) (fun r9 M10 => if r9 = 0 then bd (f_X7_isNamed 8 M10) (fun r11 M12 => if r11 = 0 then some (-1, M12) else some (5, M12)) else some (4, M10)) else some (3, M8)) else some (2, M6)) else some (1, M4)) else some (0, M2))
theorem m_X7_kindNamed_0 {Z : k_Z} {G : k_G} (C : k_C Z G RX7 cX7_kindNamed (true, 1, 6, 0, 0) (some .int) "kindNamed") (M : k_M) : Sm Z G emI (true, 1, 6, 0, 0) (0, 0) 0 [(0, k_ra Z 1)] [] M (f_X7_kindNamed M) := by
  show Sm Z G emI _ _ _ _ _ _ (bd (f_X7_isNamed 3 M) (fun r1 M2 => if r1 = 0 then bd (f_X7_isNamed 4 M2) (fun r3 M4 => if r3 = 0 then bd (f_X7_isNamed 5 M4) (fun r5 M6 => if r5 = 0 then bd (f_X7_isNamed 6 M6) (fun r7 M8 => if r7 = 0 then bd (f_X7_isNamed 7 M8) (fun r9 M10 => if r9 = 0 then bd (f_X7_isNamed 8 M10) (fun r11 M12 => if r11 = 0 then some (-1, M12) else some (5, M12)) else some (4, M10)) else some (3, M8)) else some (2, M6)) else some (1, M4)) else some (0, M2)))
  refine x_aload_n C (k_dg dt_X7_kindNamed_0 0 0 (.aload_n 0) 1 rfl) 0 rfl ?_
  refine x_lds C 3 (by decide) rfl (k_dg dt_X7_kindNamed_0 1 1 (.ldc 97) 2 rfl) ?_
  refine x_callV C (a := 1) (kd := 5) (vs := [k_sa Z 3]) (rest := []) rfl rfl (by decide) (fun r hr => by cases hr; rfl) (c_X7_isNamed C.2.2.2.2.2.2.2.2.2 G.2.1 3 M (by decide)) cy_X7_isNamed lk_RX7_43 im_X7_isNamed se_X7_isNamed (by decide) (by decide) (by decide) (by decide) rfl rfl (Nat.le_of_ble_eq_true rfl) (k_dg dt_X7_kindNamed_0 2 3 (.invokevirtual 43) 3 rfl) (fun r1 M2 => ?_)
  show Sm Z G _ _ _ _ [(0, k_ra Z 1)] [Value.int r1] _ _
  refine x_if_eq C (tgt := 11) (k_dg dt_X7_kindNamed_0 3 6 (.ifCond .eq 5) 3 rfl) (by decide) (fun _ => ?_) (fun _ => ?_)
  · refine x_aload_n C (k_dg dt_X7_kindNamed_0 6 11 (.aload_n 0) 1 rfl) 0 rfl ?_
    refine x_lds C 4 (by decide) rfl (k_dg dt_X7_kindNamed_0 7 12 (.ldc 99) 2 rfl) ?_
    refine x_callV C (a := 1) (kd := 5) (vs := [k_sa Z 4]) (rest := []) rfl rfl (by decide) (fun r hr => by cases hr; rfl) (c_X7_isNamed C.2.2.2.2.2.2.2.2.2 G.2.1 4 M2 (by decide)) cy_X7_isNamed lk_RX7_43 im_X7_isNamed se_X7_isNamed (by decide) (by decide) (by decide) (by decide) rfl rfl (Nat.le_of_ble_eq_true rfl) (k_dg dt_X7_kindNamed_0 8 14 (.invokevirtual 43) 3 rfl) (fun r3 M4 => ?_)
    show Sm Z G _ _ _ _ [(0, k_ra Z 1)] [Value.int r3] _ _
    refine x_if_eq C (tgt := 22) (k_dg dt_X7_kindNamed_0 9 17 (.ifCond .eq 5) 3 rfl) (by decide) (fun _ => ?_) (fun _ => ?_)
    · refine x_aload_n C (k_dg dt_X7_kindNamed_0 12 22 (.aload_n 0) 1 rfl) 0 rfl ?_
      refine x_lds C 5 (by decide) rfl (k_dg dt_X7_kindNamed_0 13 23 (.ldc 101) 2 rfl) ?_
      refine x_callV C (a := 1) (kd := 5) (vs := [k_sa Z 5]) (rest := []) rfl rfl (by decide) (fun r hr => by cases hr; rfl) (c_X7_isNamed C.2.2.2.2.2.2.2.2.2 G.2.1 5 M4 (by decide)) cy_X7_isNamed lk_RX7_43 im_X7_isNamed se_X7_isNamed (by decide) (by decide) (by decide) (by decide) rfl rfl (Nat.le_of_ble_eq_true rfl) (k_dg dt_X7_kindNamed_0 14 25 (.invokevirtual 43) 3 rfl) (fun r5 M6 => ?_)
      show Sm Z G _ _ _ _ [(0, k_ra Z 1)] [Value.int r5] _ _
      refine x_if_eq C (tgt := 33) (k_dg dt_X7_kindNamed_0 15 28 (.ifCond .eq 5) 3 rfl) (by decide) (fun _ => ?_) (fun _ => ?_)
      · refine x_aload_n C (k_dg dt_X7_kindNamed_0 18 33 (.aload_n 0) 1 rfl) 0 rfl ?_
        refine x_lds C 6 (by decide) rfl (k_dg dt_X7_kindNamed_0 19 34 (.ldc 103) 2 rfl) ?_
        refine x_callV C (a := 1) (kd := 5) (vs := [k_sa Z 6]) (rest := []) rfl rfl (by decide) (fun r hr => by cases hr; rfl) (c_X7_isNamed C.2.2.2.2.2.2.2.2.2 G.2.1 6 M6 (by decide)) cy_X7_isNamed lk_RX7_43 im_X7_isNamed se_X7_isNamed (by decide) (by decide) (by decide) (by decide) rfl rfl (Nat.le_of_ble_eq_true rfl) (k_dg dt_X7_kindNamed_0 20 36 (.invokevirtual 43) 3 rfl) (fun r7 M8 => ?_)
        show Sm Z G _ _ _ _ [(0, k_ra Z 1)] [Value.int r7] _ _
        refine x_if_eq C (tgt := 44) (k_dg dt_X7_kindNamed_0 21 39 (.ifCond .eq 5) 3 rfl) (by decide) (fun _ => ?_) (fun _ => ?_)
        · refine x_aload_n C (k_dg dt_X7_kindNamed_0 24 44 (.aload_n 0) 1 rfl) 0 rfl ?_
          refine x_lds C 7 (by decide) rfl (k_dg dt_X7_kindNamed_0 25 45 (.ldc 105) 2 rfl) ?_
          refine x_callV C (a := 1) (kd := 5) (vs := [k_sa Z 7]) (rest := []) rfl rfl (by decide) (fun r hr => by cases hr; rfl) (c_X7_isNamed C.2.2.2.2.2.2.2.2.2 G.2.1 7 M8 (by decide)) cy_X7_isNamed lk_RX7_43 im_X7_isNamed se_X7_isNamed (by decide) (by decide) (by decide) (by decide) rfl rfl (Nat.le_of_ble_eq_true rfl) (k_dg dt_X7_kindNamed_0 26 47 (.invokevirtual 43) 3 rfl) (fun r9 M10 => ?_)
          show Sm Z G _ _ _ _ [(0, k_ra Z 1)] [Value.int r9] _ _
          refine x_if_eq C (tgt := 55) (k_dg dt_X7_kindNamed_0 27 50 (.ifCond .eq 5) 3 rfl) (by decide) (fun _ => ?_) (fun _ => ?_)
          · refine x_aload_n C (k_dg dt_X7_kindNamed_0 30 55 (.aload_n 0) 1 rfl) 0 rfl ?_
            refine x_lds C 8 (by decide) rfl (k_dg dt_X7_kindNamed_0 31 56 (.ldc 107) 2 rfl) ?_
            refine x_callV C (a := 1) (kd := 5) (vs := [k_sa Z 8]) (rest := []) rfl rfl (by decide) (fun r hr => by cases hr; rfl) (c_X7_isNamed C.2.2.2.2.2.2.2.2.2 G.2.1 8 M10 (by decide)) cy_X7_isNamed lk_RX7_43 im_X7_isNamed se_X7_isNamed (by decide) (by decide) (by decide) (by decide) rfl rfl (Nat.le_of_ble_eq_true rfl) (k_dg dt_X7_kindNamed_0 32 58 (.invokevirtual 43) 3 rfl) (fun r11 M12 => ?_)
            show Sm Z G _ _ _ _ [(0, k_ra Z 1)] [Value.int r11] _ _
            refine x_if_eq C (tgt := 68) (k_dg dt_X7_kindNamed_0 33 61 (.ifCond .eq 7) 3 rfl) (by decide) (fun _ => ?_) (fun _ => ?_)
            · refine x_iconst C (v := -1) (k_dg dt_X7_kindNamed_0 36 68 (.iconst (-1)) 1 rfl) (by decide) ?_
              exact x_iret C (by decide) (by decide) (k_dg dt_X7_kindNamed_0 37 69 (.ireturn) 1 rfl)
            · refine x_iconst C (v := 5) (k_dg dt_X7_kindNamed_0 34 64 (.iconst 5) 1 rfl) (by decide) ?_
              refine x_goto C (tgt := 69) (k_dg dt_X7_kindNamed_0 35 65 (.goto 4) 3 rfl) (by decide) ?_
              exact x_iret C (by decide) (by decide) (k_dg dt_X7_kindNamed_0 37 69 (.ireturn) 1 rfl)
          · refine x_iconst C (v := 4) (k_dg dt_X7_kindNamed_0 28 53 (.iconst 4) 1 rfl) (by decide) ?_
            exact x_iret C (by decide) (by decide) (k_dg dt_X7_kindNamed_0 29 54 (.ireturn) 1 rfl)
        · refine x_iconst C (v := 3) (k_dg dt_X7_kindNamed_0 22 42 (.iconst 3) 1 rfl) (by decide) ?_
          exact x_iret C (by decide) (by decide) (k_dg dt_X7_kindNamed_0 23 43 (.ireturn) 1 rfl)
      · refine x_iconst C (v := 2) (k_dg dt_X7_kindNamed_0 16 31 (.iconst 2) 1 rfl) (by decide) ?_
        exact x_iret C (by decide) (by decide) (k_dg dt_X7_kindNamed_0 17 32 (.ireturn) 1 rfl)
    · refine x_iconst C (v := 1) (k_dg dt_X7_kindNamed_0 10 20 (.iconst 1) 1 rfl) (by decide) ?_
      exact x_iret C (by decide) (by decide) (k_dg dt_X7_kindNamed_0 11 21 (.ireturn) 1 rfl)
  · refine x_iconst C (v := 0) (k_dg dt_X7_kindNamed_0 4 9 (.iconst 0) 1 rfl) (by decide) ?_
    exact x_iret C (by decide) (by decide) (k_dg dt_X7_kindNamed_0 5 10 (.ireturn) 1 rfl)
theorem c_X7_kindNamed {Z : k_Z} (hg : k_Gd Z) (l : Launch) (M : k_M) : Con true Z l yX7_kindNamed cX7_kindNamed 1 (some .int) 6 0 0 emI [k_ra Z 1] M (f_X7_kindNamed M) := k_con hg (by decide) (Nat.le_of_ble_eq_true rfl) (fun G hl C => m_X7_kindNamed_0 C M)
theorem dt_X7_readPlace_0 : k_dec cX7_readPlace [(0, .aload_n 0, 1), (1, .invokevirtual 34, 3), (4, .aload_n 0, 1), (5, .iconst 0, 1), (6, .bipush 9, 2), (8, .invokevirtual 64, 3), (11, .ifCond .ne 5, 3), (14, .iconst 0, 1), (15, .ireturn, 1), (16, .aload_n 0, 1), (17, .getfield 26, 3), (20, .istore_n 3, 1), (21, .bipush 99, 2), (23, .istore 4, 2), (25, .aload_n 0, 1), (26, .invokevirtual 34, 3), (29, .iload_n 2, 1), (30, .invokestatic 68, 3), (33, .ifCond .ne 25, 3), (36, .aload_n 0, 1), (37, .iconst 0, 1), (38, .bipush 99, 2), (40, .invokevirtual 64, 3), (43, .ifCond .ne 5, 3), (46, .iconst 0, 1), (47, .ireturn, 1), (48, .aload_n 0, 1), (49, .getfield 26, 3), (52, .istore 4, 2), (54, .aload_n 0, 1), (55, .invokevirtual 34, 3), (58, .aload_n 0, 1), (59, .invokevirtual 72, 3), (62, .ifCond .ne 5, 3), (65, .iconst 0, 1), (66, .ireturn, 1), (67, .aload_n 1, 1), (68, .iload_n 2, 1), (69, .iload_n 3, 1), (70, .iload 4, 2)] = true := by decide +kernel
theorem dt_X7_readPlace_1 : k_dec cX7_readPlace [(72, .invokevirtual 76, 3), (75, .pop, 1), (76, .iconst 1, 1), (77, .ireturn, 1)] = true := by decide +kernel
def f_X7_readPlace_58 (v : Nat) (l2 : Int32) (l3 : Int32) (l4 : Int32) (M : k_M) : Option (Int32 × k_M) := bd (f_X7_isEndOfPiece M) (fun r1 M2 => if r1 = 0 then some (0, M2) else bd (f_X3_addPlace v l2 l3 l4 M2) (fun r3 M4 => some (1, M4)))
theorem m_X7_readPlace_58 {Z : k_Z} {G : k_G} {v : Nat} (C : k_C Z G RX7 cX7_readPlace (true, 5, 3, 0, 0) (some .boolean) "readPlace") (hv : isW v) (l2 : Int32) (l3 : Int32) (l4 : Int32) (M : k_M) : Sm Z G emI (true, 5, 3, 0, 0) (0, 0) 58 [(0, k_ra Z 1), (1, k_ra Z (v + 1)), (2, Value.int l2), (3, Value.int l3), (4, Value.int l4)] [] M (f_X7_readPlace_58 v l2 l3 l4 M) := by
  show Sm Z G emI _ _ _ _ _ _ (bd (f_X7_isEndOfPiece M) (fun r1 M2 => if r1 = 0 then some (0, M2) else bd (f_X3_addPlace v l2 l3 l4 M2) (fun r3 M4 => some (1, M4))))
  refine x_aload_n C (k_dg dt_X7_readPlace_0 31 58 (.aload_n 0) 1 rfl) 0 rfl ?_
  refine x_callV C (a := 1) (kd := 5) (vs := []) (rest := []) rfl rfl (by decide) (fun r hr => by cases hr; rfl) (c_X7_isEndOfPiece C.2.2.2.2.2.2.2.2.2 G.2.1 M) cy_X7_isEndOfPiece lk_RX7_72 im_X7_isEndOfPiece se_X7_isEndOfPiece (by decide) (by decide) (by decide) (by decide) rfl rfl (Nat.le_of_ble_eq_true rfl) (k_dg dt_X7_readPlace_0 32 59 (.invokevirtual 72) 3 rfl) (fun r1 M2 => ?_)
  show Sm Z G _ _ _ _ [(0, k_ra Z 1), (1, k_ra Z (v + 1)), (2, Value.int l2), (3, Value.int l3), (4, Value.int l4)] [Value.int r1] _ _
  refine x_if_ne C (tgt := 67) (k_dg dt_X7_readPlace_0 33 62 (.ifCond .ne 5) 3 rfl) (by decide) (fun _ => ?_) (fun _ => ?_)
  · refine x_iconst C (v := 0) (k_dg dt_X7_readPlace_0 34 65 (.iconst 0) 1 rfl) (by decide) ?_
    exact x_zret C (by decide) (by decide) rfl (k_dg dt_X7_readPlace_0 35 66 (.ireturn) 1 rfl)
  · refine x_aload_n C (k_dg dt_X7_readPlace_0 36 67 (.aload_n 1) 1 rfl) 1 rfl ?_
    refine x_iload_n C (k_dg dt_X7_readPlace_0 37 68 (.iload_n 2) 1 rfl) 2 rfl ?_
    refine x_iload_n C (k_dg dt_X7_readPlace_0 38 69 (.iload_n 3) 1 rfl) 3 rfl ?_
    refine x_iload C (k_dg dt_X7_readPlace_0 39 70 (.iload 4) 2 rfl) 4 rfl ?_
    refine x_callV C (a := v + 1) (kd := 2) (vs := [Value.int l2, Value.int l3, Value.int l4]) (rest := []) rfl (kW 1 hv rfl) (by decide) (fun r hr => by cases hr; rfl) (c_X3_addPlace C.2.2.2.2.2.2.2.2.2 G.2.1 v l2 l3 l4 M2 hv) cy_X3_addPlace lk_RX7_76 im_X3_addPlace se_X3_addPlace (by decide) (by decide) (by decide) (by decide) rfl rfl (Nat.le_of_ble_eq_true rfl) (k_dg dt_X7_readPlace_1 0 72 (.invokevirtual 76) 3 rfl) (fun r3 M4 => ?_)
    show Sm Z G _ _ _ _ [(0, k_ra Z 1), (1, k_ra Z (v + 1)), (2, Value.int l2), (3, Value.int l3), (4, Value.int l4)] [Value.int r3] _ _
    refine x_pop C (k_dg dt_X7_readPlace_1 1 75 (.pop) 1 rfl) rfl ?_
    refine x_iconst C (v := 1) (k_dg dt_X7_readPlace_1 2 76 (.iconst 1) 1 rfl) (by decide) ?_
    exact x_zret C (by decide) (by decide) rfl (k_dg dt_X7_readPlace_1 3 77 (.ireturn) 1 rfl)
def f_X7_readPlace (v : Nat) (p2 : Int32) (M : k_M) : Option (Int32 × k_M) := bd (f_X7_step M) (fun r1 M2 => bd (f_X7_isNumber 0 9 M2) (fun r3 M4 => if r3 = 0 then some (0, M4) else bN (M4.1 1 5) (fun v5 => bd (f_X7_step M4) (fun r6 M7 => bd (f_X3_isEndless p2 M7) (fun r8 M9 => if r8 = 0 then bd (f_X7_isNumber 0 99 M9) (fun r10 M11 => if r10 = 0 then some (0, M11) else bN (M11.1 1 5) (fun v12 => bd (f_X7_step M11) (fun r13 M14 => f_X7_readPlace_58 v p2 v5 v12 M14))) else f_X7_readPlace_58 v p2 v5 99 M9)))))
theorem m_X7_readPlace_0 {Z : k_Z} {G : k_G} {v : Nat} (C : k_C Z G RX7 cX7_readPlace (true, 5, 3, 0, 0) (some .boolean) "readPlace") (hv : isW v) (p2 : Int32) (M : k_M) : Sm Z G emI (true, 5, 3, 0, 0) (0, 0) 0 [(0, k_ra Z 1), (1, k_ra Z (v + 1)), (2, Value.int p2)] [] M (f_X7_readPlace v p2 M) := by
  show Sm Z G emI _ _ _ _ _ _ (bd (f_X7_step M) (fun r1 M2 => bd (f_X7_isNumber 0 9 M2) (fun r3 M4 => if r3 = 0 then some (0, M4) else bN (M4.1 1 5) (fun v5 => bd (f_X7_step M4) (fun r6 M7 => bd (f_X3_isEndless p2 M7) (fun r8 M9 => if r8 = 0 then bd (f_X7_isNumber 0 99 M9) (fun r10 M11 => if r10 = 0 then some (0, M11) else bN (M11.1 1 5) (fun v12 => bd (f_X7_step M11) (fun r13 M14 => f_X7_readPlace_58 v p2 v5 v12 M14))) else f_X7_readPlace_58 v p2 v5 99 M9))))))
  refine x_aload_n C (k_dg dt_X7_readPlace_0 0 0 (.aload_n 0) 1 rfl) 0 rfl ?_
  refine x_callV C (a := 1) (kd := 5) (vs := []) (rest := []) rfl rfl (by decide) (fun r hr => by cases hr; rfl) (c_X7_step C.2.2.2.2.2.2.2.2.2 G.2.1 M) cy_X7_step lk_RX7_34 im_X7_step se_X7_step (by decide) (by decide) (by decide) (by decide) rfl rfl (Nat.le_of_ble_eq_true rfl) (k_dg dt_X7_readPlace_0 1 1 (.invokevirtual 34) 3 rfl) (fun r1 M2 => ?_)
  show Sm Z G _ _ _ _ [(0, k_ra Z 1), (1, k_ra Z (v + 1)), (2, Value.int p2)] [] _ _
  refine x_aload_n C (k_dg dt_X7_readPlace_0 2 4 (.aload_n 0) 1 rfl) 0 rfl ?_
  refine x_iconst C (v := 0) (k_dg dt_X7_readPlace_0 3 5 (.iconst 0) 1 rfl) (by decide) ?_
  refine x_bipush C (v := 9) (k_dg dt_X7_readPlace_0 4 6 (.bipush 9) 2 rfl) (by decide) ?_
  refine x_callV C (a := 1) (kd := 5) (vs := [Value.int 0, Value.int 9]) (rest := []) rfl rfl (by decide) (fun r hr => by cases hr; rfl) (c_X7_isNumber C.2.2.2.2.2.2.2.2.2 G.2.1 0 9 M2) cy_X7_isNumber lk_RX7_64 im_X7_isNumber se_X7_isNumber (by decide) (by decide) (by decide) (by decide) rfl rfl (Nat.le_of_ble_eq_true rfl) (k_dg dt_X7_readPlace_0 5 8 (.invokevirtual 64) 3 rfl) (fun r3 M4 => ?_)
  show Sm Z G _ _ _ _ [(0, k_ra Z 1), (1, k_ra Z (v + 1)), (2, Value.int p2)] [Value.int r3] _ _
  refine x_if_ne C (tgt := 16) (k_dg dt_X7_readPlace_0 6 11 (.ifCond .ne 5) 3 rfl) (by decide) (fun _ => ?_) (fun _ => ?_)
  · refine x_iconst C (v := 0) (k_dg dt_X7_readPlace_0 7 14 (.iconst 0) 1 rfl) (by decide) ?_
    exact x_zret C (by decide) (by decide) rfl (k_dg dt_X7_readPlace_0 8 15 (.ireturn) 1 rfl)
  · refine x_aload_n C (k_dg dt_X7_readPlace_0 9 16 (.aload_n 0) 1 rfl) 0 rfl ?_
    refine x_getI C (a := 1) (j := 5) rfl rfl (by decide) fl_RX7_26 rfl (k_dg dt_X7_readPlace_0 10 17 (.getfield 26) 3 rfl) ?_
    refine x_nm (w := Value.int) (fun v5 _ => ?_)
    refine x_istore_n C (lv' := [(3, Value.int v5), (0, k_ra Z 1), (1, k_ra Z (v + 1)), (2, Value.int p2)]) (k_dg dt_X7_readPlace_0 11 20 (.istore_n 3) 1 rfl) (by decide) rfl ?_
    refine x_bipush C (v := 99) (k_dg dt_X7_readPlace_0 12 21 (.bipush 99) 2 rfl) (by decide) ?_
    refine x_istore C (lv' := [(4, Value.int 99), (3, Value.int v5), (0, k_ra Z 1), (1, k_ra Z (v + 1)), (2, Value.int p2)]) (k_dg dt_X7_readPlace_0 13 23 (.istore 4) 2 rfl) (by decide) rfl ?_
    refine x_aload_n C (k_dg dt_X7_readPlace_0 14 25 (.aload_n 0) 1 rfl) 2 rfl ?_
    refine x_callV C (a := 1) (kd := 5) (vs := []) (rest := []) rfl rfl (by decide) (fun r hr => by cases hr; rfl) (c_X7_step C.2.2.2.2.2.2.2.2.2 G.2.1 M4) cy_X7_step lk_RX7_34 im_X7_step se_X7_step (by decide) (by decide) (by decide) (by decide) rfl rfl (Nat.le_of_ble_eq_true rfl) (k_dg dt_X7_readPlace_0 15 26 (.invokevirtual 34) 3 rfl) (fun r6 M7 => ?_)
    show Sm Z G _ _ _ _ [(4, Value.int 99), (3, Value.int v5), (0, k_ra Z 1), (1, k_ra Z (v + 1)), (2, Value.int p2)] [] _ _
    refine x_iload_n C (k_dg dt_X7_readPlace_0 16 29 (.iload_n 2) 1 rfl) 4 rfl ?_
    refine x_callS C (vs := [Value.int p2]) (rest := []) (c_X3_isEndless C.2.2.2.2.2.2.2.2.2 G.2.1 p2 M7) cy_X3_isEndless lk_RX7_68 stt_X3_isEndless (by decide) (by decide) (by decide) (by decide) rfl rfl (Nat.le_of_ble_eq_true rfl) (k_dg dt_X7_readPlace_0 17 30 (.invokestatic 68) 3 rfl) (fun r8 M9 => ?_)
    show Sm Z G _ _ _ _ [(4, Value.int 99), (3, Value.int v5), (0, k_ra Z 1), (1, k_ra Z (v + 1)), (2, Value.int p2)] [Value.int r8] _ _
    refine x_if_ne C (tgt := 58) (k_dg dt_X7_readPlace_0 18 33 (.ifCond .ne 25) 3 rfl) (by decide) (fun _ => ?_) (fun _ => ?_)
    · refine x_aload_n C (k_dg dt_X7_readPlace_0 19 36 (.aload_n 0) 1 rfl) 2 rfl ?_
      refine x_iconst C (v := 0) (k_dg dt_X7_readPlace_0 20 37 (.iconst 0) 1 rfl) (by decide) ?_
      refine x_bipush C (v := 99) (k_dg dt_X7_readPlace_0 21 38 (.bipush 99) 2 rfl) (by decide) ?_
      refine x_callV C (a := 1) (kd := 5) (vs := [Value.int 0, Value.int 99]) (rest := []) rfl rfl (by decide) (fun r hr => by cases hr; rfl) (c_X7_isNumber C.2.2.2.2.2.2.2.2.2 G.2.1 0 99 M9) cy_X7_isNumber lk_RX7_64 im_X7_isNumber se_X7_isNumber (by decide) (by decide) (by decide) (by decide) rfl rfl (Nat.le_of_ble_eq_true rfl) (k_dg dt_X7_readPlace_0 22 40 (.invokevirtual 64) 3 rfl) (fun r10 M11 => ?_)
      show Sm Z G _ _ _ _ [(4, Value.int 99), (3, Value.int v5), (0, k_ra Z 1), (1, k_ra Z (v + 1)), (2, Value.int p2)] [Value.int r10] _ _
      refine x_if_ne C (tgt := 48) (k_dg dt_X7_readPlace_0 23 43 (.ifCond .ne 5) 3 rfl) (by decide) (fun _ => ?_) (fun _ => ?_)
      · refine x_iconst C (v := 0) (k_dg dt_X7_readPlace_0 24 46 (.iconst 0) 1 rfl) (by decide) ?_
        exact x_zret C (by decide) (by decide) rfl (k_dg dt_X7_readPlace_0 25 47 (.ireturn) 1 rfl)
      · refine x_aload_n C (k_dg dt_X7_readPlace_0 26 48 (.aload_n 0) 1 rfl) 2 rfl ?_
        refine x_getI C (a := 1) (j := 5) rfl rfl (by decide) fl_RX7_26 rfl (k_dg dt_X7_readPlace_0 27 49 (.getfield 26) 3 rfl) ?_
        refine x_nm (w := Value.int) (fun v12 _ => ?_)
        refine x_istore C (lv' := [(4, Value.int v12), (3, Value.int v5), (0, k_ra Z 1), (1, k_ra Z (v + 1)), (2, Value.int p2)]) (k_dg dt_X7_readPlace_0 28 52 (.istore 4) 2 rfl) (by decide) rfl ?_
        refine x_aload_n C (k_dg dt_X7_readPlace_0 29 54 (.aload_n 0) 1 rfl) 2 rfl ?_
        refine x_callV C (a := 1) (kd := 5) (vs := []) (rest := []) rfl rfl (by decide) (fun r hr => by cases hr; rfl) (c_X7_step C.2.2.2.2.2.2.2.2.2 G.2.1 M11) cy_X7_step lk_RX7_34 im_X7_step se_X7_step (by decide) (by decide) (by decide) (by decide) rfl rfl (Nat.le_of_ble_eq_true rfl) (k_dg dt_X7_readPlace_0 30 55 (.invokevirtual 34) 3 rfl) (fun r13 M14 => ?_)
        show Sm Z G _ _ _ _ [(4, Value.int v12), (3, Value.int v5), (0, k_ra Z 1), (1, k_ra Z (v + 1)), (2, Value.int p2)] [] _ _
        refine x_lv [2, 3, 4, 1, 0] rfl ?_
        exact m_X7_readPlace_58 C hv p2 v5 v12 M14
    · refine x_lv [2, 3, 4, 1, 0] rfl ?_
      exact m_X7_readPlace_58 C hv p2 v5 99 M9
theorem c_X7_readPlace {Z : k_Z} (hg : k_Gd Z) (l : Launch) (v : Nat) (p2 : Int32) (M : k_M) (hv : isW v) : Con true Z l yX7_readPlace cX7_readPlace 5 (some .boolean) 3 0 0 emI [k_ra Z 1, k_ra Z (v + 1), Value.int p2] M (f_X7_readPlace v p2 M) := k_con hg (by decide) (Nat.le_of_ble_eq_true rfl) (fun G hl C => m_X7_readPlace_0 C hv p2 M)
theorem dt_X7_readPiece_0 : k_dec cX7_readPiece [(0, .aload_n 0, 1), (1, .ldc 41, 2), (3, .invokevirtual 43, 3), (6, .ifCond .eq 26, 3), (9, .aload_n 1, 1), (10, .getfield 47, 3), (13, .bipush 12, 2), (15, .if_icmp .ge 15, 3), (18, .aload_n 0, 1), (19, .aload_n 1, 1), (20, .invokevirtual 50, 3), (23, .ifCond .eq 7, 3), (26, .iconst 1, 1), (27, .goto 4, 3), (30, .iconst 0, 1), (31, .ireturn, 1), (32, .aload_n 0, 1), (33, .invokevirtual 53, 3), (36, .istore_n 2, 1), (37, .iload_n 2, 1), (38, .iconst (-1), 1), (39, .if_icmp .eq 25, 3), (42, .aload_n 1, 1), (43, .getfield 57, 3), (46, .bipush 8, 2), (48, .if_icmp .ge 16, 3), (51, .aload_n 0, 1), (52, .aload_n 1, 1), (53, .iload_n 2, 1), (54, .invokevirtual 60, 3), (57, .ifCond .eq 7, 3), (60, .iconst 1, 1), (61, .goto 4, 3), (64, .iconst 0, 1), (65, .ireturn, 1)] = true := by decide +kernel
def f_X7_readPiece (v : Nat) (M : k_M) : Option (Int32 × k_M) := bd (f_X7_isNamed 0 M) (fun r1 M2 => if r1 = 0 then bd (f_X7_kindNamed M2) (fun r3 M4 => if r3 = (-1) then some (0, M4) else if 8 ≤ (M4.1 (v + 1) 0) then some (0, M4) else bd (f_X7_readPlace v r3 M4) (fun r5 M6 => if r5 = 0 then some (0, M6) else some (1, M6))) else if 12 ≤ (M2.1 (v + 1) 7) then some (0, M2) else bd (f_X7_readWay v M2) (fun r7 M8 => if r7 = 0 then some (0, M8) else some (1, M8)))
theorem m_X7_readPiece_0 {Z : k_Z} {G : k_G} {v : Nat} (C : k_C Z G RX7 cX7_readPiece (true, 3, 8, 0, 0) (some .boolean) "readPiece") (hv : isW v) (M : k_M) : Sm Z G emI (true, 3, 8, 0, 0) (0, 0) 0 [(0, k_ra Z 1), (1, k_ra Z (v + 1))] [] M (f_X7_readPiece v M) := by
  show Sm Z G emI _ _ _ _ _ _ (bd (f_X7_isNamed 0 M) (fun r1 M2 => if r1 = 0 then bd (f_X7_kindNamed M2) (fun r3 M4 => if r3 = (-1) then some (0, M4) else if 8 ≤ (M4.1 (v + 1) 0) then some (0, M4) else bd (f_X7_readPlace v r3 M4) (fun r5 M6 => if r5 = 0 then some (0, M6) else some (1, M6))) else if 12 ≤ (M2.1 (v + 1) 7) then some (0, M2) else bd (f_X7_readWay v M2) (fun r7 M8 => if r7 = 0 then some (0, M8) else some (1, M8))))
  refine x_aload_n C (k_dg dt_X7_readPiece_0 0 0 (.aload_n 0) 1 rfl) 0 rfl ?_
  refine x_lds C 0 (by decide) rfl (k_dg dt_X7_readPiece_0 1 1 (.ldc 41) 2 rfl) ?_
  refine x_callV C (a := 1) (kd := 5) (vs := [k_sa Z 0]) (rest := []) rfl rfl (by decide) (fun r hr => by cases hr; rfl) (c_X7_isNamed C.2.2.2.2.2.2.2.2.2 G.2.1 0 M (by decide)) cy_X7_isNamed lk_RX7_43 im_X7_isNamed se_X7_isNamed (by decide) (by decide) (by decide) (by decide) rfl rfl (Nat.le_of_ble_eq_true rfl) (k_dg dt_X7_readPiece_0 2 3 (.invokevirtual 43) 3 rfl) (fun r1 M2 => ?_)
  show Sm Z G _ _ _ _ [(0, k_ra Z 1), (1, k_ra Z (v + 1))] [Value.int r1] _ _
  refine x_if_eq C (tgt := 32) (k_dg dt_X7_readPiece_0 3 6 (.ifCond .eq 26) 3 rfl) (by decide) (fun _ => ?_) (fun _ => ?_)
  · refine x_aload_n C (k_dg dt_X7_readPiece_0 16 32 (.aload_n 0) 1 rfl) 0 rfl ?_
    refine x_callV C (a := 1) (kd := 5) (vs := []) (rest := []) rfl rfl (by decide) (fun r hr => by cases hr; rfl) (c_X7_kindNamed C.2.2.2.2.2.2.2.2.2 G.2.1 M2) cy_X7_kindNamed lk_RX7_53 im_X7_kindNamed se_X7_kindNamed (by decide) (by decide) (by decide) (by decide) rfl rfl (Nat.le_of_ble_eq_true rfl) (k_dg dt_X7_readPiece_0 17 33 (.invokevirtual 53) 3 rfl) (fun r3 M4 => ?_)
    show Sm Z G _ _ _ _ [(0, k_ra Z 1), (1, k_ra Z (v + 1))] [Value.int r3] _ _
    refine x_istore_n C (lv' := [(2, Value.int r3), (0, k_ra Z 1), (1, k_ra Z (v + 1))]) (k_dg dt_X7_readPiece_0 18 36 (.istore_n 2) 1 rfl) (by decide) rfl ?_
    refine x_iload_n C (k_dg dt_X7_readPiece_0 19 37 (.iload_n 2) 1 rfl) 0 rfl ?_
    refine x_iconst C (v := -1) (k_dg dt_X7_readPiece_0 20 38 (.iconst (-1)) 1 rfl) (by decide) ?_
    refine x_icmp_eq C (tgt := 64) (k_dg dt_X7_readPiece_0 21 39 (.if_icmp .eq 25) 3 rfl) (by decide) (fun _ => ?_) (fun _ => ?_)
    · refine x_iconst C (v := 0) (k_dg dt_X7_readPiece_0 33 64 (.iconst 0) 1 rfl) (by decide) ?_
      exact x_zret C (by decide) (by decide) rfl (k_dg dt_X7_readPiece_0 34 65 (.ireturn) 1 rfl)
    · refine x_aload_n C (k_dg dt_X7_readPiece_0 22 42 (.aload_n 1) 1 rfl) 2 rfl ?_
      refine x_getI C (a := v + 1) (j := 0) rfl (kW 1 hv rfl) (by decide) fl_RX7_57 rfl (k_dg dt_X7_readPiece_0 23 43 (.getfield 57) 3 rfl) ?_
      refine x_bipush C (v := 8) (k_dg dt_X7_readPiece_0 24 46 (.bipush 8) 2 rfl) (by decide) ?_
      refine x_icmp_ge C (tgt := 64) (k_dg dt_X7_readPiece_0 25 48 (.if_icmp .ge 16) 3 rfl) (by decide) (fun _ => ?_) (fun _ => ?_)
      · refine x_iconst C (v := 0) (k_dg dt_X7_readPiece_0 33 64 (.iconst 0) 1 rfl) (by decide) ?_
        exact x_zret C (by decide) (by decide) rfl (k_dg dt_X7_readPiece_0 34 65 (.ireturn) 1 rfl)
      · refine x_aload_n C (k_dg dt_X7_readPiece_0 26 51 (.aload_n 0) 1 rfl) 1 rfl ?_
        refine x_aload_n C (k_dg dt_X7_readPiece_0 27 52 (.aload_n 1) 1 rfl) 2 rfl ?_
        refine x_iload_n C (k_dg dt_X7_readPiece_0 28 53 (.iload_n 2) 1 rfl) 0 rfl ?_
        refine x_callV C (a := 1) (kd := 5) (vs := [k_ra Z (v + 1), Value.int r3]) (rest := []) rfl rfl (by decide) (fun r hr => by cases hr; rfl) (c_X7_readPlace C.2.2.2.2.2.2.2.2.2 G.2.1 v r3 M4 hv) cy_X7_readPlace lk_RX7_60 im_X7_readPlace se_X7_readPlace (by decide) (by decide) (by decide) (by decide) rfl rfl (Nat.le_of_ble_eq_true rfl) (k_dg dt_X7_readPiece_0 29 54 (.invokevirtual 60) 3 rfl) (fun r5 M6 => ?_)
        show Sm Z G _ _ _ _ [(2, Value.int r3), (0, k_ra Z 1), (1, k_ra Z (v + 1))] [Value.int r5] _ _
        refine x_if_eq C (tgt := 64) (k_dg dt_X7_readPiece_0 30 57 (.ifCond .eq 7) 3 rfl) (by decide) (fun _ => ?_) (fun _ => ?_)
        · refine x_iconst C (v := 0) (k_dg dt_X7_readPiece_0 33 64 (.iconst 0) 1 rfl) (by decide) ?_
          exact x_zret C (by decide) (by decide) rfl (k_dg dt_X7_readPiece_0 34 65 (.ireturn) 1 rfl)
        · refine x_iconst C (v := 1) (k_dg dt_X7_readPiece_0 31 60 (.iconst 1) 1 rfl) (by decide) ?_
          refine x_goto C (tgt := 65) (k_dg dt_X7_readPiece_0 32 61 (.goto 4) 3 rfl) (by decide) ?_
          exact x_zret C (by decide) (by decide) rfl (k_dg dt_X7_readPiece_0 34 65 (.ireturn) 1 rfl)
  · refine x_aload_n C (k_dg dt_X7_readPiece_0 4 9 (.aload_n 1) 1 rfl) 1 rfl ?_
    refine x_getI C (a := v + 1) (j := 7) rfl (kW 1 hv rfl) (by decide) fl_RX7_47 rfl (k_dg dt_X7_readPiece_0 5 10 (.getfield 47) 3 rfl) ?_
    refine x_bipush C (v := 12) (k_dg dt_X7_readPiece_0 6 13 (.bipush 12) 2 rfl) (by decide) ?_
    refine x_icmp_ge C (tgt := 30) (k_dg dt_X7_readPiece_0 7 15 (.if_icmp .ge 15) 3 rfl) (by decide) (fun _ => ?_) (fun _ => ?_)
    · refine x_iconst C (v := 0) (k_dg dt_X7_readPiece_0 14 30 (.iconst 0) 1 rfl) (by decide) ?_
      exact x_zret C (by decide) (by decide) rfl (k_dg dt_X7_readPiece_0 15 31 (.ireturn) 1 rfl)
    · refine x_aload_n C (k_dg dt_X7_readPiece_0 8 18 (.aload_n 0) 1 rfl) 0 rfl ?_
      refine x_aload_n C (k_dg dt_X7_readPiece_0 9 19 (.aload_n 1) 1 rfl) 1 rfl ?_
      refine x_callV C (a := 1) (kd := 5) (vs := [k_ra Z (v + 1)]) (rest := []) rfl rfl (by decide) (fun r hr => by cases hr; rfl) (c_X7_readWay C.2.2.2.2.2.2.2.2.2 G.2.1 v M2 hv) cy_X7_readWay lk_RX7_50 im_X7_readWay se_X7_readWay (by decide) (by decide) (by decide) (by decide) rfl rfl (Nat.le_of_ble_eq_true rfl) (k_dg dt_X7_readPiece_0 10 20 (.invokevirtual 50) 3 rfl) (fun r7 M8 => ?_)
      show Sm Z G _ _ _ _ [(0, k_ra Z 1), (1, k_ra Z (v + 1))] [Value.int r7] _ _
      refine x_if_eq C (tgt := 30) (k_dg dt_X7_readPiece_0 11 23 (.ifCond .eq 7) 3 rfl) (by decide) (fun _ => ?_) (fun _ => ?_)
      · refine x_iconst C (v := 0) (k_dg dt_X7_readPiece_0 14 30 (.iconst 0) 1 rfl) (by decide) ?_
        exact x_zret C (by decide) (by decide) rfl (k_dg dt_X7_readPiece_0 15 31 (.ireturn) 1 rfl)
      · refine x_iconst C (v := 1) (k_dg dt_X7_readPiece_0 12 26 (.iconst 1) 1 rfl) (by decide) ?_
        refine x_goto C (tgt := 31) (k_dg dt_X7_readPiece_0 13 27 (.goto 4) 3 rfl) (by decide) ?_
        exact x_zret C (by decide) (by decide) rfl (k_dg dt_X7_readPiece_0 15 31 (.ireturn) 1 rfl)
theorem c_X7_readPiece {Z : k_Z} (hg : k_Gd Z) (l : Launch) (v : Nat) (M : k_M) (hv : isW v) : Con true Z l yX7_readPiece cX7_readPiece 3 (some .boolean) 8 0 0 emI [k_ra Z 1, k_ra Z (v + 1)] M (f_X7_readPiece v M) := k_con hg (by decide) (Nat.le_of_ble_eq_true rfl) (fun G hl C => m_X7_readPiece_0 C hv M)
theorem dt_X7_readInto_0 : k_dec cX7_readInto [(0, .aload_n 1, 1), (1, .invokevirtual 29, 3), (4, .aload_n 0, 1), (5, .iconst 0, 1), (6, .putfield 23, 3), (9, .aload_n 0, 1), (10, .invokevirtual 34, 3), (13, .iconst 0, 1), (14, .istore_n 2, 1), (15, .iload_n 2, 1), (16, .sipush 200, 3), (19, .if_icmp .gt 33, 3), (22, .aload_n 0, 1), (23, .getfield 17, 3), (26, .ifCond .eq 26, 3), (29, .aload_n 0, 1), (30, .aload_n 1, 1), (31, .invokevirtual 37, 3), (34, .ifCond .ne 8, 3), (37, .aload_n 0, 1), (38, .getfield 20, 3), (41, .ireturn, 1), (42, .aload_n 0, 1), (43, .invokevirtual 34, 3), (46, .iinc 2 1, 3), (49, .goto (-34), 3), (52, .iconst (-1), 1), (53, .ireturn, 1)] = true := by decide +kernel
def f_X7_readInto_15 (v : Nat) : Nat → Int32 → k_M → (k_M → Option (Int32 × k_M)) → (k_M → Option (Int32 × k_M)) → Option (Int32 × k_M)
  | 0, _, _, _, _ => none
  | n + 1, l2, M, kx37, kx52 => if 200 < l2 then kx52 M else if (M.1 1 2) = 0 then kx52 M else bd (f_X7_readPiece v M) (fun r1 M2 => if r1 = 0 then kx37 M2 else bd (f_X7_step M2) (fun r3 M4 => f_X7_readInto_15 v n (l2 + 1) M4 kx37 kx52))
theorem m_X7_readInto_15 {Z : k_Z} {G : k_G} {v : Nat} (C : k_C Z G RX7 cX7_readInto (true, 3, 9, 0, 0) (some .int) "readInto") (hv : isW v) (kx37 : k_M → Option (Int32 × k_M)) (kx52 : k_M → Option (Int32 × k_M)) (Hx37 : ∀ (M : k_M), Sm Z G emI (true, 3, 9, 0, 0) (0, 0) 37 [(0, k_ra Z 1)] [] M (kx37 M)) (Hx52 : ∀ (M : k_M), Sm Z G emI (true, 3, 9, 0, 0) (0, 0) 52 [] [] M (kx52 M)) : ∀ (n : Nat) (l2 : Int32) (M : k_M), Sm Z G emI (true, 3, 9, 0, 0) (0, 0) 15 [(0, k_ra Z 1), (1, k_ra Z (v + 1)), (2, Value.int l2)] [] M (f_X7_readInto_15 v n l2 M kx37 kx52)
  | 0, _, _ => x_none
  | n + 1, l2, M => by
    have ih := m_X7_readInto_15 C hv kx37 kx52 Hx37 Hx52 n
    show Sm Z G emI _ _ _ _ _ _ (if 200 < l2 then kx52 M else if (M.1 1 2) = 0 then kx52 M else bd (f_X7_readPiece v M) (fun r1 M2 => if r1 = 0 then kx37 M2 else bd (f_X7_step M2) (fun r3 M4 => f_X7_readInto_15 v n (l2 + 1) M4 kx37 kx52)))
    refine x_iload_n C (k_dg dt_X7_readInto_0 9 15 (.iload_n 2) 1 rfl) 2 rfl ?_
    refine x_sipush C (v := 200) (k_dg dt_X7_readInto_0 10 16 (.sipush 200) 3 rfl) (by decide) ?_
    refine x_icmp_gt C (tgt := 52) (k_dg dt_X7_readInto_0 11 19 (.if_icmp .gt 33) 3 rfl) (by decide) (fun _ => ?_) (fun _ => ?_)
    · refine x_lv [] rfl ?_
      exact Hx52 M
    · refine x_aload_n C (k_dg dt_X7_readInto_0 12 22 (.aload_n 0) 1 rfl) 0 rfl ?_
      refine x_getI C (a := 1) (j := 2) rfl rfl (by decide) fl_RX7_17 rfl (k_dg dt_X7_readInto_0 13 23 (.getfield 17) 3 rfl) ?_
      refine x_if_eq C (tgt := 52) (k_dg dt_X7_readInto_0 14 26 (.ifCond .eq 26) 3 rfl) (by decide) (fun _ => ?_) (fun _ => ?_)
      · refine x_lv [] rfl ?_
        exact Hx52 M
      · refine x_aload_n C (k_dg dt_X7_readInto_0 15 29 (.aload_n 0) 1 rfl) 0 rfl ?_
        refine x_aload_n C (k_dg dt_X7_readInto_0 16 30 (.aload_n 1) 1 rfl) 1 rfl ?_
        refine x_callV C (a := 1) (kd := 5) (vs := [k_ra Z (v + 1)]) (rest := []) rfl rfl (by decide) (fun r hr => by cases hr; rfl) (c_X7_readPiece C.2.2.2.2.2.2.2.2.2 G.2.1 v M hv) cy_X7_readPiece lk_RX7_37 im_X7_readPiece se_X7_readPiece (by decide) (by decide) (by decide) (by decide) rfl rfl (Nat.le_of_ble_eq_true rfl) (k_dg dt_X7_readInto_0 17 31 (.invokevirtual 37) 3 rfl) (fun r1 M2 => ?_)
        show Sm Z G _ _ _ _ [(0, k_ra Z 1), (1, k_ra Z (v + 1)), (2, Value.int l2)] [Value.int r1] _ _
        refine x_if_ne C (tgt := 42) (k_dg dt_X7_readInto_0 18 34 (.ifCond .ne 8) 3 rfl) (by decide) (fun _ => ?_) (fun _ => ?_)
        · refine x_lv [0] rfl ?_
          exact Hx37 M2
        · refine x_aload_n C (k_dg dt_X7_readInto_0 22 42 (.aload_n 0) 1 rfl) 0 rfl ?_
          refine x_callV C (a := 1) (kd := 5) (vs := []) (rest := []) rfl rfl (by decide) (fun r hr => by cases hr; rfl) (c_X7_step C.2.2.2.2.2.2.2.2.2 G.2.1 M2) cy_X7_step lk_RX7_34 im_X7_step se_X7_step (by decide) (by decide) (by decide) (by decide) rfl rfl (Nat.le_of_ble_eq_true rfl) (k_dg dt_X7_readInto_0 23 43 (.invokevirtual 34) 3 rfl) (fun r3 M4 => ?_)
          show Sm Z G _ _ _ _ [(0, k_ra Z 1), (1, k_ra Z (v + 1)), (2, Value.int l2)] [] _ _
          refine x_iinc C (v := 1) (lv' := [(2, Value.int (l2 + 1)), (0, k_ra Z 1), (1, k_ra Z (v + 1))]) (k_dg dt_X7_readInto_0 24 46 (.iinc 2 1) 3 rfl) 2 rfl (by decide) (by decide) rfl ?_
          refine x_goto C (tgt := 15) (k_dg dt_X7_readInto_0 25 49 (.goto (-34)) 3 rfl) (by decide) ?_
          refine x_lv [1, 2, 0] rfl ?_
          exact ih (l2 + 1) M4
def f_X7_readInto_37 (v : Nat) (M : k_M) : Option (Int32 × k_M) := some (M.1 1 3, M)
theorem m_X7_readInto_37 {Z : k_Z} {G : k_G} {v : Nat} (C : k_C Z G RX7 cX7_readInto (true, 3, 9, 0, 0) (some .int) "readInto") (hv : isW v) (M : k_M) : Sm Z G emI (true, 3, 9, 0, 0) (0, 0) 37 [(0, k_ra Z 1)] [] M (f_X7_readInto_37 v M) := by
  show Sm Z G emI _ _ _ _ _ _ (some (M.1 1 3, M))
  refine x_aload_n C (k_dg dt_X7_readInto_0 19 37 (.aload_n 0) 1 rfl) 0 rfl ?_
  refine x_getI C (a := 1) (j := 3) rfl rfl (by decide) fl_RX7_20 rfl (k_dg dt_X7_readInto_0 20 38 (.getfield 20) 3 rfl) ?_
  exact x_iret C (by decide) (by decide) (k_dg dt_X7_readInto_0 21 41 (.ireturn) 1 rfl)
def f_X7_readInto_52 (v : Nat) (M : k_M) : Option (Int32 × k_M) := some (-1, M)
theorem m_X7_readInto_52 {Z : k_Z} {G : k_G} {v : Nat} (C : k_C Z G RX7 cX7_readInto (true, 3, 9, 0, 0) (some .int) "readInto") (hv : isW v) (M : k_M) : Sm Z G emI (true, 3, 9, 0, 0) (0, 0) 52 [] [] M (f_X7_readInto_52 v M) := by
  show Sm Z G emI _ _ _ _ _ _ (some (-1, M))
  refine x_iconst C (v := -1) (k_dg dt_X7_readInto_0 26 52 (.iconst (-1)) 1 rfl) (by decide) ?_
  exact x_iret C (by decide) (by decide) (k_dg dt_X7_readInto_0 27 53 (.ireturn) 1 rfl)
def f_X7_readInto (v : Nat) (M : k_M) : Option (Int32 × k_M) := bd (f_X3_clear v M) (fun r1 M2 => bN (sI M2 1 4 0) (fun M3 => bd (f_X7_step M3) (fun r4 M5 => f_X7_readInto_15 v k_fu 0 M5 (fun M_ => f_X7_readInto_37 v M_) (fun M_ => f_X7_readInto_52 v M_))))
theorem m_X7_readInto_0 {Z : k_Z} {G : k_G} {v : Nat} (C : k_C Z G RX7 cX7_readInto (true, 3, 9, 0, 0) (some .int) "readInto") (hv : isW v) (M : k_M) : Sm Z G emI (true, 3, 9, 0, 0) (0, 0) 0 [(0, k_ra Z 1), (1, k_ra Z (v + 1))] [] M (f_X7_readInto v M) := by
  show Sm Z G emI _ _ _ _ _ _ (bd (f_X3_clear v M) (fun r1 M2 => bN (sI M2 1 4 0) (fun M3 => bd (f_X7_step M3) (fun r4 M5 => f_X7_readInto_15 v k_fu 0 M5 (fun M_ => f_X7_readInto_37 v M_) (fun M_ => f_X7_readInto_52 v M_)))))
  refine x_aload_n C (k_dg dt_X7_readInto_0 0 0 (.aload_n 1) 1 rfl) 1 rfl ?_
  refine x_callV C (a := v + 1) (kd := 2) (vs := []) (rest := []) rfl (kW 1 hv rfl) (by decide) (fun r hr => by cases hr; rfl) (c_X3_clear C.2.2.2.2.2.2.2.2.2 G.2.1 v M hv) cy_X3_clear lk_RX7_29 im_X3_clear se_X3_clear (by decide) (by decide) (by decide) (by decide) rfl rfl (Nat.le_of_ble_eq_true rfl) (k_dg dt_X7_readInto_0 1 1 (.invokevirtual 29) 3 rfl) (fun r1 M2 => ?_)
  show Sm Z G _ _ _ _ [(0, k_ra Z 1), (1, k_ra Z (v + 1))] [] _ _
  refine x_aload_n C (k_dg dt_X7_readInto_0 2 4 (.aload_n 0) 1 rfl) 0 rfl ?_
  refine x_iconst C (v := 0) (k_dg dt_X7_readInto_0 3 5 (.iconst 0) 1 rfl) (by decide) ?_
  refine x_putI C (a := 1) (j := 4) rfl rfl (by decide) fl_RX7_23 rfl pt_5_4 tb_5 rfl rfl (k_dg dt_X7_readInto_0 4 6 (.putfield 23) 3 rfl) (fun M3 => ?_)
  refine x_aload_n C (k_dg dt_X7_readInto_0 5 9 (.aload_n 0) 1 rfl) 0 rfl ?_
  refine x_callV C (a := 1) (kd := 5) (vs := []) (rest := []) rfl rfl (by decide) (fun r hr => by cases hr; rfl) (c_X7_step C.2.2.2.2.2.2.2.2.2 G.2.1 M3) cy_X7_step lk_RX7_34 im_X7_step se_X7_step (by decide) (by decide) (by decide) (by decide) rfl rfl (Nat.le_of_ble_eq_true rfl) (k_dg dt_X7_readInto_0 6 10 (.invokevirtual 34) 3 rfl) (fun r4 M5 => ?_)
  show Sm Z G _ _ _ _ [(0, k_ra Z 1), (1, k_ra Z (v + 1))] [] _ _
  refine x_iconst C (v := 0) (k_dg dt_X7_readInto_0 7 13 (.iconst 0) 1 rfl) (by decide) ?_
  refine x_istore_n C (lv' := [(2, Value.int 0), (0, k_ra Z 1), (1, k_ra Z (v + 1))]) (k_dg dt_X7_readInto_0 8 14 (.istore_n 2) 1 rfl) (by decide) rfl ?_
  refine x_lv [1, 2, 0] rfl ?_
  exact m_X7_readInto_15 C hv (fun M_ => f_X7_readInto_37 v M_) (fun M_ => f_X7_readInto_52 v M_) (fun M_ => m_X7_readInto_37 C hv M_) (fun M_ => m_X7_readInto_52 C hv M_) k_fu 0 M5
theorem c_X7_readInto {Z : k_Z} (hg : k_Gd Z) (l : Launch) (v : Nat) (M : k_M) (hv : isW v) : Con true Z l yX7_readInto cX7_readInto 3 (some .int) 9 0 0 emI [k_ra Z 1, k_ra Z (v + 1)] M (f_X7_readInto v M) := k_con hg (by decide) (Nat.le_of_ble_eq_true rfl) (fun G hl C => m_X7_readInto_0 C hv M)
