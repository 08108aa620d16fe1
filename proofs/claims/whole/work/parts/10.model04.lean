theorem fl_RX12_340 : k_FL RX12 340 10 47 := ⟨(RX12, TX12, 53), "WheelCityModel", rfl, by decide, iu_10, Or.inl (List.mem_of_getElem? (i := 1143) (by decide +kernel)), Or.inl rfl⟩
theorem fl_RX12_343 : k_FL RX12 343 10 43 := ⟨(RX12, TX12, 53), "WheelCityModel", rfl, by decide, iu_10, Or.inl (List.mem_of_getElem? (i := 1139) (by decide +kernel)), Or.inl rfl⟩
theorem fl_RX12_349 : k_FL RX12 349 10 44 := ⟨(RX12, TX12, 53), "WheelCityModel", rfl, by decide, iu_10, Or.inl (List.mem_of_getElem? (i := 1140) (by decide +kernel)), Or.inl rfl⟩
theorem fl_RX12_358 : k_FL RX12 358 10 45 := ⟨(RX12, TX12, 53), "WheelCityModel", rfl, by decide, iu_10, Or.inl (List.mem_of_getElem? (i := 1141) (by decide +kernel)), Or.inl rfl⟩
theorem fl_RX12_364 : k_FL RX12 364 10 48 := ⟨(RX12, TX12, 53), "WheelCityModel", rfl, by decide, iu_10, Or.inl (List.mem_of_getElem? (i := 1144) (by decide +kernel)), Or.inl rfl⟩
theorem fl_RX12_64 : k_FL RX12 64 10 35 := ⟨(RX12, TX12, 53), "WheelCityModel", rfl, by decide, iu_10, Or.inl (List.mem_of_getElem? (i := 1131) (by decide +kernel)), Or.inl rfl⟩
theorem fl_RX12_77 : k_FL RX12 77 10 40 := ⟨(RX12, TX12, 53), "WheelCityModel", rfl, by decide, iu_10, Or.inl (List.mem_of_getElem? (i := 1136) (by decide +kernel)), Or.inl rfl⟩
theorem fl_RX12_80 : k_FL RX12 80 10 41 := ⟨(RX12, TX12, 53), "WheelCityModel", rfl, by decide, iu_10, Or.inl (List.mem_of_getElem? (i := 1137) (by decide +kernel)), Or.inl rfl⟩
theorem fl_RX12_83 : k_FL RX12 83 10 42 := ⟨(RX12, TX12, 53), "WheelCityModel", rfl, by decide, iu_10, Or.inl (List.mem_of_getElem? (i := 1138) (by decide +kernel)), Or.inl rfl⟩
theorem fl_RX12_86 : k_FL RX12 86 10 46 := ⟨(RX12, TX12, 53), "WheelCityModel", rfl, by decide, iu_10, Or.inl (List.mem_of_getElem? (i := 1142) (by decide +kernel)), Or.inl rfl⟩
theorem pt_10_47 : k_cls 10 47 .int := fun r hr => by cases hr; exact ⟨rfl, by decide +kernel⟩
theorem pt_10_48 : k_cls 10 48 .boolean := fun r hr => by cases hr; exact ⟨rfl, by decide +kernel⟩
theorem cy_X12_eatsIt : k_cy yX12_eatsIt cX12_eatsIt 3 (some .int) 1 := ⟨List.mem_of_getElem? (i := 1615) (by decide +kernel), List.mem_of_getElem? (i := 112) (by decide +kernel), ⟨by decide +kernel, by decide +kernel⟩, by decide +kernel⟩
theorem cy_X12_isHeld : k_cy yX12_isHeld cX12_isHeld 3 (some .boolean) 2 := ⟨List.mem_of_getElem? (i := 1588) (by decide +kernel), List.mem_of_getElem? (i := 112) (by decide +kernel), ⟨by decide +kernel, by decide +kernel⟩, by decide +kernel⟩
theorem cy_X12_isRow : k_cy yX12_isRow cX12_isRow 3 (some .boolean) 2 := ⟨List.mem_of_getElem? (i := 1560) (by decide +kernel), List.mem_of_getElem? (i := 112) (by decide +kernel), ⟨by decide +kernel, by decide +kernel⟩, by decide +kernel⟩
theorem cy_X12_isUnder : k_cy yX12_isUnder cX12_isUnder 2 (some .boolean) 2 := ⟨List.mem_of_getElem? (i := 1599) (by decide +kernel), List.mem_of_getElem? (i := 112) (by decide +kernel), ⟨by decide +kernel, by decide +kernel⟩, by decide +kernel⟩
theorem cy_X12_kindOn : k_cy yX12_kindOn cX12_kindOn 2 (some .int) 1 := ⟨List.mem_of_getElem? (i := 1596) (by decide +kernel), List.mem_of_getElem? (i := 112) (by decide +kernel), ⟨by decide +kernel, by decide +kernel⟩, by decide +kernel⟩
theorem cy_X12_loopShares : k_cy yX12_loopShares cX12_loopShares 2 (some .int) 1 := ⟨List.mem_of_getElem? (i := 1631) (by decide +kernel), List.mem_of_getElem? (i := 112) (by decide +kernel), ⟨by decide +kernel, by decide +kernel⟩, by decide +kernel⟩
theorem cy_X12_nearEats : k_cy yX12_nearEats cX12_nearEats 2 (some .int) 1 := ⟨List.mem_of_getElem? (i := 1619) (by decide +kernel), List.mem_of_getElem? (i := 112) (by decide +kernel), ⟨by decide +kernel, by decide +kernel⟩, by decide +kernel⟩
theorem cy_X12_plainEats : k_cy yX12_plainEats cX12_plainEats 2 (some .int) 1 := ⟨List.mem_of_getElem? (i := 1623) (by decide +kernel), List.mem_of_getElem? (i := 112) (by decide +kernel), ⟨by decide +kernel, by decide +kernel⟩, by decide +kernel⟩
theorem cy_X12_plainShares : k_cy yX12_plainShares cX12_plainShares 2 (some .int) 1 := ⟨List.mem_of_getElem? (i := 1635) (by decide +kernel), List.mem_of_getElem? (i := 112) (by decide +kernel), ⟨by decide +kernel, by decide +kernel⟩, by decide +kernel⟩
theorem cy_X12_plainTells : k_cy yX12_plainTells cX12_plainTells 2 (some .int) 1 := ⟨List.mem_of_getElem? (i := 1643) (by decide +kernel), List.mem_of_getElem? (i := 112) (by decide +kernel), ⟨by decide +kernel, by decide +kernel⟩, by decide +kernel⟩
theorem cy_X12_ran : k_cy yX12_ran cX12_ran 2 none 1 := ⟨List.mem_of_getElem? (i := 1611) (by decide +kernel), List.mem_of_getElem? (i := 112) (by decide +kernel), ⟨by decide +kernel, by decide +kernel⟩, by decide +kernel⟩
theorem cy_X12_rollsIt : k_cy yX12_rollsIt cX12_rollsIt 4 (some .int) 1 := ⟨List.mem_of_getElem? (i := 1607) (by decide +kernel), List.mem_of_getElem? (i := 112) (by decide +kernel), ⟨by decide +kernel, by decide +kernel⟩, by decide +kernel⟩
theorem cy_X12_sharesIt : k_cy yX12_sharesIt cX12_sharesIt 3 (some .int) 1 := ⟨List.mem_of_getElem? (i := 1627) (by decide +kernel), List.mem_of_getElem? (i := 112) (by decide +kernel), ⟨by decide +kernel, by decide +kernel⟩, by decide +kernel⟩
theorem lk_RX12_328 : k_lk RX12 328 yX12_isRow := Or.inl (List.mem_of_getElem? (i := 1557) (by decide +kernel))
theorem lk_RX12_331 : k_lk RX12 331 yX12_isHeld := Or.inl (List.mem_of_getElem? (i := 1585) (by decide +kernel))
theorem lk_RX12_334 : k_lk RX12 334 yX12_kindOn := Or.inl (List.mem_of_getElem? (i := 1593) (by decide +kernel))
theorem lk_RX12_337 : k_lk RX12 337 yX12_isUnder := Or.inl (List.mem_of_getElem? (i := 1597) (by decide +kernel))
theorem lk_RX12_346 : k_lk RX12 346 yX12_ran := Or.inl (List.mem_of_getElem? (i := 1608) (by decide +kernel))
theorem lk_RX12_352 : k_lk RX12 352 yX12_rollsIt := Or.inl (List.mem_of_getElem? (i := 1604) (by decide +kernel))
theorem lk_RX12_355 : k_lk RX12 355 yX12_plainEats := Or.inl (List.mem_of_getElem? (i := 1620) (by decide +kernel))
theorem lk_RX12_361 : k_lk RX12 361 yX12_nearEats := Or.inl (List.mem_of_getElem? (i := 1616) (by decide +kernel))
theorem lk_RX12_367 : k_lk RX12 367 yX12_plainShares := Or.inl (List.mem_of_getElem? (i := 1632) (by decide +kernel))
theorem lk_RX12_370 : k_lk RX12 370 yX12_loopShares := Or.inl (List.mem_of_getElem? (i := 1628) (by decide +kernel))
theorem lk_RX12_373 : k_lk RX12 373 yX12_eatsIt := Or.inl (List.mem_of_getElem? (i := 1612) (by decide +kernel))
theorem lk_RX12_376 : k_lk RX12 376 yX12_plainTells := Or.inl (List.mem_of_getElem? (i := 1640) (by decide +kernel))
theorem lk_RX12_379 : k_lk RX12 379 yX12_sharesIt := Or.inl (List.mem_of_getElem? (i := 1624) (by decide +kernel))
theorem im_X12_eatsIt : Cond.instanceMethod yX12_eatsIt ∈ lw_tbl := List.mem_of_getElem? (i := 1614) (by decide +kernel)
theorem im_X12_isHeld : Cond.instanceMethod yX12_isHeld ∈ lw_tbl := List.mem_of_getElem? (i := 1587) (by decide +kernel)
theorem im_X12_isRow : Cond.instanceMethod yX12_isRow ∈ lw_tbl := List.mem_of_getElem? (i := 1559) (by decide +kernel)
theorem im_X12_kindOn : Cond.instanceMethod yX12_kindOn ∈ lw_tbl := List.mem_of_getElem? (i := 1595) (by decide +kernel)
theorem im_X12_loopShares : Cond.instanceMethod yX12_loopShares ∈ lw_tbl := List.mem_of_getElem? (i := 1630) (by decide +kernel)
theorem im_X12_nearEats : Cond.instanceMethod yX12_nearEats ∈ lw_tbl := List.mem_of_getElem? (i := 1618) (by decide +kernel)
theorem im_X12_plainEats : Cond.instanceMethod yX12_plainEats ∈ lw_tbl := List.mem_of_getElem? (i := 1622) (by decide +kernel)
theorem im_X12_plainShares : Cond.instanceMethod yX12_plainShares ∈ lw_tbl := List.mem_of_getElem? (i := 1634) (by decide +kernel)
theorem im_X12_plainTells : Cond.instanceMethod yX12_plainTells ∈ lw_tbl := List.mem_of_getElem? (i := 1642) (by decide +kernel)
theorem im_X12_ran : Cond.instanceMethod yX12_ran ∈ lw_tbl := List.mem_of_getElem? (i := 1610) (by decide +kernel)
theorem im_X12_rollsIt : Cond.instanceMethod yX12_rollsIt ∈ lw_tbl := List.mem_of_getElem? (i := 1606) (by decide +kernel)
theorem im_X12_sharesIt : Cond.instanceMethod yX12_sharesIt ∈ lw_tbl := List.mem_of_getElem? (i := 1626) (by decide +kernel)
theorem se_X12_eatsIt : Cond.selects yX12_eatsIt.cls yX12_eatsIt yX12_eatsIt ∈ lw_tbl := List.mem_of_getElem? (i := 96) (by decide +kernel)
theorem se_X12_isHeld : Cond.selects yX12_isHeld.cls yX12_isHeld yX12_isHeld ∈ lw_tbl := List.mem_of_getElem? (i := 92) (by decide +kernel)
theorem se_X12_isRow : Cond.selects yX12_isRow.cls yX12_isRow yX12_isRow ∈ lw_tbl := List.mem_of_getElem? (i := 91) (by decide +kernel)
theorem se_X12_kindOn : Cond.selects yX12_kindOn.cls yX12_kindOn yX12_kindOn ∈ lw_tbl := List.mem_of_getElem? (i := 93) (by decide +kernel)
theorem se_X12_loopShares : Cond.selects yX12_loopShares.cls yX12_loopShares yX12_loopShares ∈ lw_tbl := List.mem_of_getElem? (i := 100) (by decide +kernel)
theorem se_X12_nearEats : Cond.selects yX12_nearEats.cls yX12_nearEats yX12_nearEats ∈ lw_tbl := List.mem_of_getElem? (i := 97) (by decide +kernel)
theorem se_X12_plainEats : Cond.selects yX12_plainEats.cls yX12_plainEats yX12_plainEats ∈ lw_tbl := List.mem_of_getElem? (i := 98) (by decide +kernel)
theorem se_X12_plainShares : Cond.selects yX12_plainShares.cls yX12_plainShares yX12_plainShares ∈ lw_tbl := List.mem_of_getElem? (i := 101) (by decide +kernel)
theorem se_X12_plainTells : Cond.selects yX12_plainTells.cls yX12_plainTells yX12_plainTells ∈ lw_tbl := List.mem_of_getElem? (i := 103) (by decide +kernel)
theorem se_X12_ran : Cond.selects yX12_ran.cls yX12_ran yX12_ran ∈ lw_tbl := List.mem_of_getElem? (i := 95) (by decide +kernel)
theorem se_X12_rollsIt : Cond.selects yX12_rollsIt.cls yX12_rollsIt yX12_rollsIt ∈ lw_tbl := List.mem_of_getElem? (i := 94) (by decide +kernel)
theorem se_X12_sharesIt : Cond.selects yX12_sharesIt.cls yX12_sharesIt yX12_sharesIt ∈ lw_tbl := List.mem_of_getElem? (i := 99) (by decide +kernel)
theorem stt_X12_isUnder : Cond.static yX12_isUnder ∈ lw_tbl := List.mem_of_getElem? (i := 1598) (by decide +kernel)
theorem dt_X12_follow_0 : k_dec cX12_follow [(0, .aload_n 0, 1), (1, .iload_n 1, 1), (2, .invokevirtual 316, 3), (5, .ifCond .eq 13, 3), (8, .iload_n 2, 1), (9, .iconst 0, 1), (10, .bipush 20, 2), (12, .invokestatic 99, 3), (15, .ifCond .ne 5, 3), (18, .iconst (-1), 1), (19, .ireturn, 1), (20, .aload_n 0, 1), (21, .getfield 205, 3), (24, .ifCond .ne 6, 3), (27, .bipush (-4), 2), (29, .ireturn, 1), (30, .iconst 0, 1), (31, .istore_n 3, 1), (32, .iload_n 3, 1), (33, .iload_n 2, 1), (34, .if_icmp .ge 35, 3), (37, .aload_n 0, 1), (38, .aload_n 0, 1), (39, .iload_n 1, 1), (40, .invokevirtual 325, 3), (43, .invokevirtual 263, 3), (46, .ifCond .le 23, 3), (49, .aload_n 0, 1), (50, .getfield 22, 3), (53, .iconst 3, 1), (54, .iload_n 1, 1), (55, .imul, 1), (56, .iconst 2, 1), (57, .iadd, 1), (58, .dup2, 1), (59, .iaload, 1), (60, .iconst 1, 1), (61, .iadd, 1), (62, .iastore, 1), (63, .iinc 3 1, 3)] = true := by decide +kernel
theorem dt_X12_follow_1 : k_dec cX12_follow [(66, .goto (-34), 3), (69, .iload_n 3, 1), (70, .ireturn, 1)] = true := by decide +kernel
def f_X12_follow_32 : Nat → Int32 → Int32 → Int32 → k_M → (Int32 → k_M → Option (Int32 × k_M)) → Option (Int32 × k_M)
  | 0, _, _, _, _, _ => none
  | n + 1, l1, l2, l3, M, kx69 => if l2 ≤ l3 then kx69 l3 M else bd (f_X12_nextOf l1 M) (fun r1 M2 => bd (f_X12_doesIt r1 M2) (fun r3 M4 => if r3 ≤ 0 then kx69 l3 M4 else rdI M4 81 12 ((3 * l1) + 2) (fun v5 => wrI M4 81 12 ((3 * l1) + 2) (v5 + 1) (fun M6 => f_X12_follow_32 n l1 l2 (l3 + 1) M6 kx69))))
theorem m_X12_follow_32 {Z : k_Z} {G : k_G} (C : k_C Z G RX12 cX12_follow (true, 4, 7, 0, 0) (some .int) "follow") (kx69 : Int32 → k_M → Option (Int32 × k_M)) (Hx69 : ∀ (l3 : Int32) (M : k_M), Sm Z G emI (true, 4, 7, 0, 0) (0, 0) 69 [(3, Value.int l3)] [] M (kx69 l3 M)) : ∀ (n : Nat) (l1 : Int32) (l2 : Int32) (l3 : Int32) (M : k_M), Sm Z G emI (true, 4, 7, 0, 0) (0, 0) 32 [(0, k_ra Z 76), (1, Value.int l1), (2, Value.int l2), (3, Value.int l3)] [] M (f_X12_follow_32 n l1 l2 l3 M kx69)
  | 0, _, _, _, _ => x_none
  | n + 1, l1, l2, l3, M => by
    have ih := m_X12_follow_32 C kx69 Hx69 n
    show Sm Z G emI _ _ _ _ _ _ (if l2 ≤ l3 then kx69 l3 M else bd (f_X12_nextOf l1 M) (fun r1 M2 => bd (f_X12_doesIt r1 M2) (fun r3 M4 => if r3 ≤ 0 then kx69 l3 M4 else rdI M4 81 12 ((3 * l1) + 2) (fun v5 => wrI M4 81 12 ((3 * l1) + 2) (v5 + 1) (fun M6 => f_X12_follow_32 n l1 l2 (l3 + 1) M6 kx69)))))
    refine x_iload_n C (k_dg dt_X12_follow_0 18 32 (.iload_n 3) 1 rfl) 3 rfl ?_
    refine x_iload_n C (k_dg dt_X12_follow_0 19 33 (.iload_n 2) 1 rfl) 2 rfl ?_
    refine x_icmp_ge C (tgt := 69) (k_dg dt_X12_follow_0 20 34 (.if_icmp .ge 35) 3 rfl) (by decide) (fun _ => ?_) (fun _ => ?_)
    · refine x_lv [3] rfl ?_
      exact Hx69 l3 M
    · refine x_aload_n C (k_dg dt_X12_follow_0 21 37 (.aload_n 0) 1 rfl) 0 rfl ?_
      refine x_aload_n C (k_dg dt_X12_follow_0 22 38 (.aload_n 0) 1 rfl) 0 rfl ?_
      refine x_iload_n C (k_dg dt_X12_follow_0 23 39 (.iload_n 1) 1 rfl) 1 rfl ?_
      refine x_callV C (a := 76) (kd := 10) (vs := [Value.int l1]) (rest := [k_ra Z 76]) rfl rfl (by decide) (fun r hr => by cases hr; rfl) (c_X12_nextOf C.2.2.2.2.2.2.2.2.2 G.2.1 l1 M) cy_X12_nextOf lk_RX12_325 im_X12_nextOf se_X12_nextOf (by decide) (by decide) (by decide) (by decide) rfl rfl (Nat.le_of_ble_eq_true rfl) (k_dg dt_X12_follow_0 24 40 (.invokevirtual 325) 3 rfl) (fun r1 M2 => ?_)
      show Sm Z G _ _ _ _ [(0, k_ra Z 76), (1, Value.int l1), (2, Value.int l2), (3, Value.int l3)] [Value.int r1, k_ra Z 76] _ _
      refine x_callV C (a := 76) (kd := 10) (vs := [Value.int r1]) (rest := []) rfl rfl (by decide) (fun r hr => by cases hr; rfl) (c_X12_doesIt C.2.2.2.2.2.2.2.2.2 G.2.1 r1 M2) cy_X12_doesIt lk_RX12_263 im_X12_doesIt se_X12_doesIt (by decide) (by decide) (by decide) (by decide) rfl rfl (Nat.le_of_ble_eq_true rfl) (k_dg dt_X12_follow_0 25 43 (.invokevirtual 263) 3 rfl) (fun r3 M4 => ?_)
      show Sm Z G _ _ _ _ [(0, k_ra Z 76), (1, Value.int l1), (2, Value.int l2), (3, Value.int l3)] [Value.int r3] _ _
      refine x_if_le C (tgt := 69) (k_dg dt_X12_follow_0 26 46 (.ifCond .le 23) 3 rfl) (by decide) (fun _ => ?_) (fun _ => ?_)
      · refine x_lv [3] rfl ?_
        exact Hx69 l3 M4
      · refine x_aload_n C (k_dg dt_X12_follow_0 27 49 (.aload_n 0) 1 rfl) 0 rfl ?_
        refine x_getR C (a := 76) (j := 9) 81 rfl rfl (by decide) fl_RX12_22 rfl rfl rfl (k_dg dt_X12_follow_0 28 50 (.getfield 22) 3 rfl) ?_
        refine x_iconst C (v := 3) (k_dg dt_X12_follow_0 29 53 (.iconst 3) 1 rfl) (by decide) ?_
        refine x_iload_n C (k_dg dt_X12_follow_0 30 54 (.iload_n 1) 1 rfl) 1 rfl ?_
        refine x_imul C (k_dg dt_X12_follow_0 31 55 (.imul) 1 rfl) ?_
        refine x_iconst C (v := 2) (k_dg dt_X12_follow_0 32 56 (.iconst 2) 1 rfl) (by decide) ?_
        refine x_iadd C (k_dg dt_X12_follow_0 33 57 (.iadd) 1 rfl) ?_
        refine x_dup2 C (k_dg dt_X12_follow_0 34 58 (.dup2) 1 rfl) rfl rfl ?_
        refine x_iald C (a := 81) (n := 12) rfl rfl (k_dg dt_X12_follow_0 35 59 (.iaload) 1 rfl) (fun v5 => ?_)
        refine x_iconst C (v := 1) (k_dg dt_X12_follow_0 36 60 (.iconst 1) 1 rfl) (by decide) ?_
        refine x_iadd C (k_dg dt_X12_follow_0 37 61 (.iadd) 1 rfl) ?_
        refine x_iast C (a := 81) (n := 12) rfl rfl (k_dg dt_X12_follow_0 38 62 (.iastore) 1 rfl) (fun M6 => ?_)
        refine x_iinc C (v := 1) (lv' := [(3, Value.int (l3 + 1)), (0, k_ra Z 76), (1, Value.int l1), (2, Value.int l2)]) (k_dg dt_X12_follow_0 39 63 (.iinc 3 1) 3 rfl) 3 rfl (by decide) (by decide) rfl ?_
        refine x_goto C (tgt := 32) (k_dg dt_X12_follow_1 0 66 (.goto (-34)) 3 rfl) (by decide) ?_
        refine x_lv [1, 2, 3, 0] rfl ?_
        exact ih l1 l2 (l3 + 1) M6
def f_X12_follow_69 (l3 : Int32) (M : k_M) : Option (Int32 × k_M) := some (l3, M)
theorem m_X12_follow_69 {Z : k_Z} {G : k_G} (C : k_C Z G RX12 cX12_follow (true, 4, 7, 0, 0) (some .int) "follow") (l3 : Int32) (M : k_M) : Sm Z G emI (true, 4, 7, 0, 0) (0, 0) 69 [(3, Value.int l3)] [] M (f_X12_follow_69 l3 M) := by
  show Sm Z G emI _ _ _ _ _ _ (some (l3, M))
  refine x_iload_n C (k_dg dt_X12_follow_1 1 69 (.iload_n 3) 1 rfl) 0 rfl ?_
  exact x_iret C (by decide) (by decide) (k_dg dt_X12_follow_1 2 70 (.ireturn) 1 rfl)
def f_X12_follow (p1 : Int32) (p2 : Int32) (M : k_M) : Option (Int32 × k_M) := bd (f_X12_isRule p1 M) (fun r1 M2 => if r1 = 0 then some (-1, M2) else bd (f_X12_in p2 0 20 M2) (fun r3 M4 => if r3 = 0 then some (-1, M4) else if (M4.1 76 7) = 0 then some (-4, M4) else f_X12_follow_32 k_fu p1 p2 0 M4 (fun l3_ M_ => f_X12_follow_69 l3_ M_)))
theorem m_X12_follow_0 {Z : k_Z} {G : k_G} (C : k_C Z G RX12 cX12_follow (true, 4, 7, 0, 0) (some .int) "follow") (p1 : Int32) (p2 : Int32) (M : k_M) : Sm Z G emI (true, 4, 7, 0, 0) (0, 0) 0 [(0, k_ra Z 76), (1, Value.int p1), (2, Value.int p2)] [] M (f_X12_follow p1 p2 M) := by
  show Sm Z G emI _ _ _ _ _ _ (bd (f_X12_isRule p1 M) (fun r1 M2 => if r1 = 0 then some (-1, M2) else bd (f_X12_in p2 0 20 M2) (fun r3 M4 => if r3 = 0 then some (-1, M4) else if (M4.1 76 7) = 0 then some (-4, M4) else f_X12_follow_32 k_fu p1 p2 0 M4 (fun l3_ M_ => f_X12_follow_69 l3_ M_))))
  refine x_aload_n C (k_dg dt_X12_follow_0 0 0 (.aload_n 0) 1 rfl) 0 rfl ?_
  refine x_iload_n C (k_dg dt_X12_follow_0 1 1 (.iload_n 1) 1 rfl) 1 rfl ?_
  refine x_callV C (a := 76) (kd := 10) (vs := [Value.int p1]) (rest := []) rfl rfl (by decide) (fun r hr => by cases hr; rfl) (c_X12_isRule C.2.2.2.2.2.2.2.2.2 G.2.1 p1 M) cy_X12_isRule lk_RX12_316 im_X12_isRule se_X12_isRule (by decide) (by decide) (by decide) (by decide) rfl rfl (Nat.le_of_ble_eq_true rfl) (k_dg dt_X12_follow_0 2 2 (.invokevirtual 316) 3 rfl) (fun r1 M2 => ?_)
  show Sm Z G _ _ _ _ [(0, k_ra Z 76), (1, Value.int p1), (2, Value.int p2)] [Value.int r1] _ _
  refine x_if_eq C (tgt := 18) (k_dg dt_X12_follow_0 3 5 (.ifCond .eq 13) 3 rfl) (by decide) (fun _ => ?_) (fun _ => ?_)
  · refine x_iconst C (v := -1) (k_dg dt_X12_follow_0 9 18 (.iconst (-1)) 1 rfl) (by decide) ?_
    exact x_iret C (by decide) (by decide) (k_dg dt_X12_follow_0 10 19 (.ireturn) 1 rfl)
  · refine x_iload_n C (k_dg dt_X12_follow_0 4 8 (.iload_n 2) 1 rfl) 2 rfl ?_
    refine x_iconst C (v := 0) (k_dg dt_X12_follow_0 5 9 (.iconst 0) 1 rfl) (by decide) ?_
    refine x_bipush C (v := 20) (k_dg dt_X12_follow_0 6 10 (.bipush 20) 2 rfl) (by decide) ?_
    refine x_callS C (vs := [Value.int p2, Value.int 0, Value.int 20]) (rest := []) (c_X12_in C.2.2.2.2.2.2.2.2.2 G.2.1 p2 0 20 M2) cy_X12_in lk_RX12_99 stt_X12_in (by decide) (by decide) (by decide) (by decide) rfl rfl (Nat.le_of_ble_eq_true rfl) (k_dg dt_X12_follow_0 7 12 (.invokestatic 99) 3 rfl) (fun r3 M4 => ?_)
    show Sm Z G _ _ _ _ [(0, k_ra Z 76), (1, Value.int p1), (2, Value.int p2)] [Value.int r3] _ _
    refine x_if_ne C (tgt := 20) (k_dg dt_X12_follow_0 8 15 (.ifCond .ne 5) 3 rfl) (by decide) (fun _ => ?_) (fun _ => ?_)
    · refine x_iconst C (v := -1) (k_dg dt_X12_follow_0 9 18 (.iconst (-1)) 1 rfl) (by decide) ?_
      exact x_iret C (by decide) (by decide) (k_dg dt_X12_follow_0 10 19 (.ireturn) 1 rfl)
    · refine x_aload_n C (k_dg dt_X12_follow_0 11 20 (.aload_n 0) 1 rfl) 0 rfl ?_
      refine x_getI C (a := 76) (j := 7) rfl rfl (by decide) fl_RX12_205 rfl (k_dg dt_X12_follow_0 12 21 (.getfield 205) 3 rfl) ?_
      refine x_if_ne C (tgt := 30) (k_dg dt_X12_follow_0 13 24 (.ifCond .ne 6) 3 rfl) (by decide) (fun _ => ?_) (fun _ => ?_)
      · refine x_bipush C (v := -4) (k_dg dt_X12_follow_0 14 27 (.bipush (-4)) 2 rfl) (by decide) ?_
        exact x_iret C (by decide) (by decide) (k_dg dt_X12_follow_0 15 29 (.ireturn) 1 rfl)
      · refine x_iconst C (v := 0) (k_dg dt_X12_follow_0 16 30 (.iconst 0) 1 rfl) (by decide) ?_
        refine x_istore_n C (lv' := [(3, Value.int 0), (0, k_ra Z 76), (1, Value.int p1), (2, Value.int p2)]) (k_dg dt_X12_follow_0 17 31 (.istore_n 3) 1 rfl) (by decide) rfl ?_
        refine x_lv [1, 2, 3, 0] rfl ?_
        exact m_X12_follow_32 C (fun l3_ M_ => f_X12_follow_69 l3_ M_) (fun l3_ M_ => m_X12_follow_69 C l3_ M_) k_fu p1 p2 0 M4
theorem c_X12_follow {Z : k_Z} (hg : k_Gd Z) (l : Launch) (p1 : Int32) (p2 : Int32) (M : k_M) : Con true Z l yX12_follow cX12_follow 4 (some .int) 7 0 0 emI [k_ra Z 76, Value.int p1, Value.int p2] M (f_X12_follow p1 p2 M) := k_con hg (by decide) (Nat.le_of_ble_eq_true rfl) (fun G hl C => m_X12_follow_0 C p1 p2 M)
theorem dt_X12_prove_0 : k_dec cX12_prove [(0, .iload_n 1, 1), (1, .iconst 0, 1), (2, .bipush 6, 2), (4, .invokestatic 99, 3), (7, .ifCond .ne 5, 3), (10, .iconst (-1), 1), (11, .ireturn, 1), (12, .aload_n 0, 1), (13, .getfield 205, 3), (16, .ifCond .ne 6, 3), (19, .bipush (-4), 2), (21, .ireturn, 1), (22, .aload_n 0, 1), (23, .iload_n 1, 1), (24, .invokevirtual 272, 3), (27, .ifCond .ge 6, 3), (30, .bipush (-3), 2), (32, .ireturn, 1), (33, .aload_n 0, 1), (34, .aload_n 0, 1), (35, .getfield 266, 3), (38, .putfield 208, 3), (41, .iconst 0, 1), (42, .istore_n 2, 1), (43, .iload_n 2, 1), (44, .aload_n 0, 1), (45, .getfield 208, 3), (48, .if_icmp .ge 82, 3), (51, .aload_n 0, 1), (52, .iload_n 2, 1), (53, .aload_n 0, 1), (54, .getfield 43, 3), (57, .iload_n 2, 1), (58, .iaload, 1), (59, .iconst 2, 1), (60, .invokevirtual 256, 3), (63, .istore_n 3, 1), (64, .aload_n 0, 1), (65, .getfield 64, 3), (68, .iconst 3, 1)] = true := by decide +kernel
theorem dt_X12_prove_1 : k_dec cX12_prove [(69, .iload_n 2, 1), (70, .imul, 1), (71, .aload_n 0, 1), (72, .getfield 43, 3), (75, .iload_n 2, 1), (76, .iaload, 1), (77, .iastore, 1), (78, .aload_n 0, 1), (79, .getfield 64, 3), (82, .iconst 3, 1), (83, .iload_n 2, 1), (84, .imul, 1), (85, .iconst 1, 1), (86, .iadd, 1), (87, .iload_n 3, 1), (88, .ifCond .le 17, 3), (91, .aload_n 0, 1), (92, .getfield 25, 3), (95, .bipush 25, 2), (97, .iload_n 2, 1), (98, .iconst 1, 1), (99, .iadd, 1), (100, .imul, 1), (101, .iaload, 1), (102, .goto 4, 3), (105, .iconst 0, 1), (106, .iastore, 1), (107, .aload_n 0, 1), (108, .getfield 64, 3), (111, .iconst 3, 1), (112, .iload_n 2, 1), (113, .imul, 1), (114, .iconst 2, 1), (115, .iadd, 1), (116, .aload_n 0, 1), (117, .iload_n 2, 1), (118, .iconst 1, 1), (119, .iadd, 1), (120, .invokevirtual 232, 3), (123, .iastore, 1)] = true := by decide +kernel
theorem dt_X12_prove_2 : k_dec cX12_prove [(124, .iinc 2 1, 3), (127, .goto (-84), 3), (130, .aload_n 0, 1), (131, .getfield 208, 3), (134, .ireturn, 1)] = true := by decide +kernel
def f_X12_prove_106 (l2 : Int32) (t1 : Int32) (t2 : Int32) (M : k_M) (kb : Int32 → k_M → Option (Int32 × k_M)) (kx130 : k_M → Option (Int32 × k_M)) : Option (Int32 × k_M) := wrI M 95 18 t1 t2 (fun M1 => bd (f_X12_worthAt (l2 + 1) M1) (fun r2 M3 => wrI M3 95 18 ((3 * l2) + 2) r2 (fun M4 => kb (l2 + 1) M4)))
theorem m_X12_prove_106 {Z : k_Z} {G : k_G} (C : k_C Z G RX12 cX12_prove (true, 4, 6, 0, 0) (some .int) "prove") (kb : Int32 → k_M → Option (Int32 × k_M)) (kx130 : k_M → Option (Int32 × k_M)) (Hb : ∀ (l2 : Int32) (M : k_M), Sm Z G emI (true, 4, 6, 0, 0) (0, 0) 43 [(0, k_ra Z 76), (2, Value.int l2)] [] M (kb l2 M)) (Hx130 : ∀ (M : k_M), Sm Z G emI (true, 4, 6, 0, 0) (0, 0) 130 [(0, k_ra Z 76)] [] M (kx130 M)) (l2 : Int32) (t1 : Int32) (t2 : Int32) (M : k_M) : Sm Z G emI (true, 4, 6, 0, 0) (0, 0) 106 [(0, k_ra Z 76), (2, Value.int l2)] [Value.int t2, Value.int t1, k_ra Z 95] M (f_X12_prove_106 l2 t1 t2 M kb kx130) := by
  show Sm Z G emI _ _ _ _ _ _ (wrI M 95 18 t1 t2 (fun M1 => bd (f_X12_worthAt (l2 + 1) M1) (fun r2 M3 => wrI M3 95 18 ((3 * l2) + 2) r2 (fun M4 => kb (l2 + 1) M4))))
  refine x_iast C (a := 95) (n := 18) rfl rfl (k_dg dt_X12_prove_1 26 106 (.iastore) 1 rfl) (fun M1 => ?_)
  refine x_aload_n C (k_dg dt_X12_prove_1 27 107 (.aload_n 0) 1 rfl) 0 rfl ?_
  refine x_getR C (a := 76) (j := 35) 95 rfl rfl (by decide) fl_RX12_64 rfl rfl rfl (k_dg dt_X12_prove_1 28 108 (.getfield 64) 3 rfl) ?_
  refine x_iconst C (v := 3) (k_dg dt_X12_prove_1 29 111 (.iconst 3) 1 rfl) (by decide) ?_
  refine x_iload_n C (k_dg dt_X12_prove_1 30 112 (.iload_n 2) 1 rfl) 1 rfl ?_
  refine x_imul C (k_dg dt_X12_prove_1 31 113 (.imul) 1 rfl) ?_
  refine x_iconst C (v := 2) (k_dg dt_X12_prove_1 32 114 (.iconst 2) 1 rfl) (by decide) ?_
  refine x_iadd C (k_dg dt_X12_prove_1 33 115 (.iadd) 1 rfl) ?_
  refine x_aload_n C (k_dg dt_X12_prove_1 34 116 (.aload_n 0) 1 rfl) 0 rfl ?_
  refine x_iload_n C (k_dg dt_X12_prove_1 35 117 (.iload_n 2) 1 rfl) 1 rfl ?_
  refine x_iconst C (v := 1) (k_dg dt_X12_prove_1 36 118 (.iconst 1) 1 rfl) (by decide) ?_
  refine x_iadd C (k_dg dt_X12_prove_1 37 119 (.iadd) 1 rfl) ?_
  refine x_callV C (a := 76) (kd := 10) (vs := [Value.int (l2 + 1)]) (rest := [Value.int ((3 * l2) + 2), k_ra Z 95]) rfl rfl (by decide) (fun r hr => by cases hr; rfl) (c_X12_worthAt C.2.2.2.2.2.2.2.2.2 G.2.1 (l2 + 1) M1) cy_X12_worthAt lk_RX12_232 im_X12_worthAt se_X12_worthAt (by decide) (by decide) (by decide) (by decide) rfl rfl (Nat.le_of_ble_eq_true rfl) (k_dg dt_X12_prove_1 38 120 (.invokevirtual 232) 3 rfl) (fun r2 M3 => ?_)
  show Sm Z G _ _ _ _ [(0, k_ra Z 76), (2, Value.int l2)] [Value.int r2, Value.int ((3 * l2) + 2), k_ra Z 95] _ _
  refine x_iast C (a := 95) (n := 18) rfl rfl (k_dg dt_X12_prove_1 39 123 (.iastore) 1 rfl) (fun M4 => ?_)
  refine x_iinc C (v := 1) (lv' := [(2, Value.int (l2 + 1)), (0, k_ra Z 76)]) (k_dg dt_X12_prove_2 0 124 (.iinc 2 1) 3 rfl) 1 rfl (by decide) (by decide) rfl ?_
  refine x_goto C (tgt := 43) (k_dg dt_X12_prove_2 1 127 (.goto (-84)) 3 rfl) (by decide) ?_
  refine x_lv [1, 0] rfl ?_
  exact Hb (l2 + 1) M4
def f_X12_prove_43 : Nat → Int32 → k_M → (k_M → Option (Int32 × k_M)) → Option (Int32 × k_M)
  | 0, _, _, _ => none
  | n + 1, l2, M, kx130 => if (M.1 76 36) ≤ l2 then kx130 M else rdI M 88 8 l2 (fun v1 => bd (f_X12_goes l2 v1 2 M) (fun r2 M3 => rdI M3 88 8 l2 (fun v4 => wrI M3 95 18 (3 * l2) v4 (fun M5 => if r2 ≤ 0 then f_X12_prove_106 l2 ((3 * l2) + 1) 0 M5 ((fun l2_ M_ => f_X12_prove_43 n l2_ M_ kx130)) kx130 else rdI M5 82 1100 (25 * (l2 + 1)) (fun v6 => f_X12_prove_106 l2 ((3 * l2) + 1) v6 M5 ((fun l2_ M_ => f_X12_prove_43 n l2_ M_ kx130)) kx130)))))
theorem m_X12_prove_43 {Z : k_Z} {G : k_G} (C : k_C Z G RX12 cX12_prove (true, 4, 6, 0, 0) (some .int) "prove") (kx130 : k_M → Option (Int32 × k_M)) (Hx130 : ∀ (M : k_M), Sm Z G emI (true, 4, 6, 0, 0) (0, 0) 130 [(0, k_ra Z 76)] [] M (kx130 M)) : ∀ (n : Nat) (l2 : Int32) (M : k_M), Sm Z G emI (true, 4, 6, 0, 0) (0, 0) 43 [(0, k_ra Z 76), (2, Value.int l2)] [] M (f_X12_prove_43 n l2 M kx130)
  | 0, _, _ => x_none
  | n + 1, l2, M => by
    have ih := m_X12_prove_43 C kx130 Hx130 n
    show Sm Z G emI _ _ _ _ _ _ (if (M.1 76 36) ≤ l2 then kx130 M else rdI M 88 8 l2 (fun v1 => bd (f_X12_goes l2 v1 2 M) (fun r2 M3 => rdI M3 88 8 l2 (fun v4 => wrI M3 95 18 (3 * l2) v4 (fun M5 => if r2 ≤ 0 then f_X12_prove_106 l2 ((3 * l2) + 1) 0 M5 ((fun l2_ M_ => f_X12_prove_43 n l2_ M_ kx130)) kx130 else rdI M5 82 1100 (25 * (l2 + 1)) (fun v6 => f_X12_prove_106 l2 ((3 * l2) + 1) v6 M5 ((fun l2_ M_ => f_X12_prove_43 n l2_ M_ kx130)) kx130))))))
    refine x_iload_n C (k_dg dt_X12_prove_0 24 43 (.iload_n 2) 1 rfl) 1 rfl ?_
    refine x_aload_n C (k_dg dt_X12_prove_0 25 44 (.aload_n 0) 1 rfl) 0 rfl ?_
    refine x_getI C (a := 76) (j := 36) rfl rfl (by decide) fl_RX12_208 rfl (k_dg dt_X12_prove_0 26 45 (.getfield 208) 3 rfl) ?_
    refine x_icmp_ge C (tgt := 130) (k_dg dt_X12_prove_0 27 48 (.if_icmp .ge 82) 3 rfl) (by decide) (fun _ => ?_) (fun _ => ?_)
    · refine x_lv [0] rfl ?_
      exact Hx130 M
    · refine x_aload_n C (k_dg dt_X12_prove_0 28 51 (.aload_n 0) 1 rfl) 0 rfl ?_
      refine x_iload_n C (k_dg dt_X12_prove_0 29 52 (.iload_n 2) 1 rfl) 1 rfl ?_
      refine x_aload_n C (k_dg dt_X12_prove_0 30 53 (.aload_n 0) 1 rfl) 0 rfl ?_
      refine x_getR C (a := 76) (j := 25) 88 rfl rfl (by decide) fl_RX12_43 rfl rfl rfl (k_dg dt_X12_prove_0 31 54 (.getfield 43) 3 rfl) ?_
      refine x_iload_n C (k_dg dt_X12_prove_0 32 57 (.iload_n 2) 1 rfl) 1 rfl ?_
      refine x_iald C (a := 88) (n := 8) rfl rfl (k_dg dt_X12_prove_0 33 58 (.iaload) 1 rfl) (fun v1 => ?_)
      refine x_iconst C (v := 2) (k_dg dt_X12_prove_0 34 59 (.iconst 2) 1 rfl) (by decide) ?_
      refine x_callV C (a := 76) (kd := 10) (vs := [Value.int l2, Value.int v1, Value.int 2]) (rest := []) rfl rfl (by decide) (fun r hr => by cases hr; rfl) (c_X12_goes C.2.2.2.2.2.2.2.2.2 G.2.1 l2 v1 2 M) cy_X12_goes lk_RX12_256 im_X12_goes se_X12_goes (by decide) (by decide) (by decide) (by decide) rfl rfl (Nat.le_of_ble_eq_true rfl) (k_dg dt_X12_prove_0 35 60 (.invokevirtual 256) 3 rfl) (fun r2 M3 => ?_)
      show Sm Z G _ _ _ _ [(0, k_ra Z 76), (2, Value.int l2)] [Value.int r2] _ _
      refine x_istore_n C (lv' := [(3, Value.int r2), (0, k_ra Z 76), (2, Value.int l2)]) (k_dg dt_X12_prove_0 36 63 (.istore_n 3) 1 rfl) (by decide) rfl ?_
      refine x_aload_n C (k_dg dt_X12_prove_0 37 64 (.aload_n 0) 1 rfl) 1 rfl ?_
      refine x_getR C (a := 76) (j := 35) 95 rfl rfl (by decide) fl_RX12_64 rfl rfl rfl (k_dg dt_X12_prove_0 38 65 (.getfield 64) 3 rfl) ?_
      refine x_iconst C (v := 3) (k_dg dt_X12_prove_0 39 68 (.iconst 3) 1 rfl) (by decide) ?_
      refine x_iload_n C (k_dg dt_X12_prove_1 0 69 (.iload_n 2) 1 rfl) 2 rfl ?_
      refine x_imul C (k_dg dt_X12_prove_1 1 70 (.imul) 1 rfl) ?_
      refine x_aload_n C (k_dg dt_X12_prove_1 2 71 (.aload_n 0) 1 rfl) 1 rfl ?_
      refine x_getR C (a := 76) (j := 25) 88 rfl rfl (by decide) fl_RX12_43 rfl rfl rfl (k_dg dt_X12_prove_1 3 72 (.getfield 43) 3 rfl) ?_
      refine x_iload_n C (k_dg dt_X12_prove_1 4 75 (.iload_n 2) 1 rfl) 2 rfl ?_
      refine x_iald C (a := 88) (n := 8) rfl rfl (k_dg dt_X12_prove_1 5 76 (.iaload) 1 rfl) (fun v4 => ?_)
      refine x_iast C (a := 95) (n := 18) rfl rfl (k_dg dt_X12_prove_1 6 77 (.iastore) 1 rfl) (fun M5 => ?_)
      refine x_aload_n C (k_dg dt_X12_prove_1 7 78 (.aload_n 0) 1 rfl) 1 rfl ?_
      refine x_getR C (a := 76) (j := 35) 95 rfl rfl (by decide) fl_RX12_64 rfl rfl rfl (k_dg dt_X12_prove_1 8 79 (.getfield 64) 3 rfl) ?_
      refine x_iconst C (v := 3) (k_dg dt_X12_prove_1 9 82 (.iconst 3) 1 rfl) (by decide) ?_
      refine x_iload_n C (k_dg dt_X12_prove_1 10 83 (.iload_n 2) 1 rfl) 2 rfl ?_
      refine x_imul C (k_dg dt_X12_prove_1 11 84 (.imul) 1 rfl) ?_
      refine x_iconst C (v := 1) (k_dg dt_X12_prove_1 12 85 (.iconst 1) 1 rfl) (by decide) ?_
      refine x_iadd C (k_dg dt_X12_prove_1 13 86 (.iadd) 1 rfl) ?_
      refine x_iload_n C (k_dg dt_X12_prove_1 14 87 (.iload_n 3) 1 rfl) 0 rfl ?_
      refine x_if_le C (tgt := 105) (k_dg dt_X12_prove_1 15 88 (.ifCond .le 17) 3 rfl) (by decide) (fun _ => ?_) (fun _ => ?_)
      · refine x_iconst C (v := 0) (k_dg dt_X12_prove_1 25 105 (.iconst 0) 1 rfl) (by decide) ?_
        refine x_lv [1, 2] rfl ?_
        exact m_X12_prove_106 C ((fun l2_ M_ => f_X12_prove_43 n l2_ M_ kx130)) kx130 ih Hx130 l2 ((3 * l2) + 1) 0 M5
      · refine x_aload_n C (k_dg dt_X12_prove_1 16 91 (.aload_n 0) 1 rfl) 1 rfl ?_
        refine x_getR C (a := 76) (j := 10) 82 rfl rfl (by decide) fl_RX12_25 rfl rfl rfl (k_dg dt_X12_prove_1 17 92 (.getfield 25) 3 rfl) ?_
        refine x_bipush C (v := 25) (k_dg dt_X12_prove_1 18 95 (.bipush 25) 2 rfl) (by decide) ?_
        refine x_iload_n C (k_dg dt_X12_prove_1 19 97 (.iload_n 2) 1 rfl) 2 rfl ?_
        refine x_iconst C (v := 1) (k_dg dt_X12_prove_1 20 98 (.iconst 1) 1 rfl) (by decide) ?_
        refine x_iadd C (k_dg dt_X12_prove_1 21 99 (.iadd) 1 rfl) ?_
        refine x_imul C (k_dg dt_X12_prove_1 22 100 (.imul) 1 rfl) ?_
        refine x_iald C (a := 82) (n := 1100) rfl rfl (k_dg dt_X12_prove_1 23 101 (.iaload) 1 rfl) (fun v6 => ?_)
        refine x_goto C (tgt := 106) (k_dg dt_X12_prove_1 24 102 (.goto 4) 3 rfl) (by decide) ?_
        refine x_lv [1, 2] rfl ?_
        exact m_X12_prove_106 C ((fun l2_ M_ => f_X12_prove_43 n l2_ M_ kx130)) kx130 ih Hx130 l2 ((3 * l2) + 1) v6 M5
def f_X12_prove_130 (M : k_M) : Option (Int32 × k_M) := some (M.1 76 36, M)
theorem m_X12_prove_130 {Z : k_Z} {G : k_G} (C : k_C Z G RX12 cX12_prove (true, 4, 6, 0, 0) (some .int) "prove") (M : k_M) : Sm Z G emI (true, 4, 6, 0, 0) (0, 0) 130 [(0, k_ra Z 76)] [] M (f_X12_prove_130 M) := by
  show Sm Z G emI _ _ _ _ _ _ (some (M.1 76 36, M))
  refine x_aload_n C (k_dg dt_X12_prove_2 2 130 (.aload_n 0) 1 rfl) 0 rfl ?_
  refine x_getI C (a := 76) (j := 36) rfl rfl (by decide) fl_RX12_208 rfl (k_dg dt_X12_prove_2 3 131 (.getfield 208) 3 rfl) ?_
  exact x_iret C (by decide) (by decide) (k_dg dt_X12_prove_2 4 134 (.ireturn) 1 rfl)
def f_X12_prove (p1 : Int32) (M : k_M) : Option (Int32 × k_M) := bd (f_X12_in p1 0 6 M) (fun r1 M2 => if r1 = 0 then some (-1, M2) else if (M2.1 76 7) = 0 then some (-4, M2) else bd (f_X12_findBest p1 M2) (fun r3 M4 => if 0 ≤ r3 then bN (sI M4 76 36 (M4.1 76 26)) (fun M5 => f_X12_prove_43 k_fu 0 M5 (fun M_ => f_X12_prove_130 M_)) else some (-3, M4)))
theorem m_X12_prove_0 {Z : k_Z} {G : k_G} (C : k_C Z G RX12 cX12_prove (true, 4, 6, 0, 0) (some .int) "prove") (p1 : Int32) (M : k_M) : Sm Z G emI (true, 4, 6, 0, 0) (0, 0) 0 [(0, k_ra Z 76), (1, Value.int p1)] [] M (f_X12_prove p1 M) := by
  show Sm Z G emI _ _ _ _ _ _ (bd (f_X12_in p1 0 6 M) (fun r1 M2 => if r1 = 0 then some (-1, M2) else if (M2.1 76 7) = 0 then some (-4, M2) else bd (f_X12_findBest p1 M2) (fun r3 M4 => if 0 ≤ r3 then bN (sI M4 76 36 (M4.1 76 26)) (fun M5 => f_X12_prove_43 k_fu 0 M5 (fun M_ => f_X12_prove_130 M_)) else some (-3, M4))))
  refine x_iload_n C (k_dg dt_X12_prove_0 0 0 (.iload_n 1) 1 rfl) 1 rfl ?_
  refine x_iconst C (v := 0) (k_dg dt_X12_prove_0 1 1 (.iconst 0) 1 rfl) (by decide) ?_
  refine x_bipush C (v := 6) (k_dg dt_X12_prove_0 2 2 (.bipush 6) 2 rfl) (by decide) ?_
  refine x_callS C (vs := [Value.int p1, Value.int 0, Value.int 6]) (rest := []) (c_X12_in C.2.2.2.2.2.2.2.2.2 G.2.1 p1 0 6 M) cy_X12_in lk_RX12_99 stt_X12_in (by decide) (by decide) (by decide) (by decide) rfl rfl (Nat.le_of_ble_eq_true rfl) (k_dg dt_X12_prove_0 3 4 (.invokestatic 99) 3 rfl) (fun r1 M2 => ?_)
  show Sm Z G _ _ _ _ [(0, k_ra Z 76), (1, Value.int p1)] [Value.int r1] _ _
  refine x_if_ne C (tgt := 12) (k_dg dt_X12_prove_0 4 7 (.ifCond .ne 5) 3 rfl) (by decide) (fun _ => ?_) (fun _ => ?_)
  · refine x_iconst C (v := -1) (k_dg dt_X12_prove_0 5 10 (.iconst (-1)) 1 rfl) (by decide) ?_
    exact x_iret C (by decide) (by decide) (k_dg dt_X12_prove_0 6 11 (.ireturn) 1 rfl)
  · refine x_aload_n C (k_dg dt_X12_prove_0 7 12 (.aload_n 0) 1 rfl) 0 rfl ?_
    refine x_getI C (a := 76) (j := 7) rfl rfl (by decide) fl_RX12_205 rfl (k_dg dt_X12_prove_0 8 13 (.getfield 205) 3 rfl) ?_
    refine x_if_ne C (tgt := 22) (k_dg dt_X12_prove_0 9 16 (.ifCond .ne 6) 3 rfl) (by decide) (fun _ => ?_) (fun _ => ?_)
    · refine x_bipush C (v := -4) (k_dg dt_X12_prove_0 10 19 (.bipush (-4)) 2 rfl) (by decide) ?_
      exact x_iret C (by decide) (by decide) (k_dg dt_X12_prove_0 11 21 (.ireturn) 1 rfl)
    · refine x_aload_n C (k_dg dt_X12_prove_0 12 22 (.aload_n 0) 1 rfl) 0 rfl ?_
      refine x_iload_n C (k_dg dt_X12_prove_0 13 23 (.iload_n 1) 1 rfl) 1 rfl ?_
      refine x_callV C (a := 76) (kd := 10) (vs := [Value.int p1]) (rest := []) rfl rfl (by decide) (fun r hr => by cases hr; rfl) (c_X12_findBest C.2.2.2.2.2.2.2.2.2 G.2.1 p1 M2) cy_X12_findBest lk_RX12_272 im_X12_findBest se_X12_findBest (by decide) (by decide) (by decide) (by decide) rfl rfl (Nat.le_of_ble_eq_true rfl) (k_dg dt_X12_prove_0 14 24 (.invokevirtual 272) 3 rfl) (fun r3 M4 => ?_)
      show Sm Z G _ _ _ _ [(0, k_ra Z 76), (1, Value.int p1)] [Value.int r3] _ _
      refine x_if_ge C (tgt := 33) (k_dg dt_X12_prove_0 15 27 (.ifCond .ge 6) 3 rfl) (by decide) (fun _ => ?_) (fun _ => ?_)
      · refine x_aload_n C (k_dg dt_X12_prove_0 18 33 (.aload_n 0) 1 rfl) 0 rfl ?_
        refine x_aload_n C (k_dg dt_X12_prove_0 19 34 (.aload_n 0) 1 rfl) 0 rfl ?_
        refine x_getI C (a := 76) (j := 26) rfl rfl (by decide) fl_RX12_266 rfl (k_dg dt_X12_prove_0 20 35 (.getfield 266) 3 rfl) ?_
        refine x_putI C (a := 76) (j := 36) rfl rfl (by decide) fl_RX12_208 rfl pt_10_36 tb_10 rfl rfl (k_dg dt_X12_prove_0 21 38 (.putfield 208) 3 rfl) (fun M5 => ?_)
        refine x_iconst C (v := 0) (k_dg dt_X12_prove_0 22 41 (.iconst 0) 1 rfl) (by decide) ?_
        refine x_istore_n C (lv' := [(2, Value.int 0), (0, k_ra Z 76), (1, Value.int p1)]) (k_dg dt_X12_prove_0 23 42 (.istore_n 2) 1 rfl) (by decide) rfl ?_
        refine x_lv [1, 0] rfl ?_
        exact m_X12_prove_43 C (fun M_ => f_X12_prove_130 M_) (fun M_ => m_X12_prove_130 C M_) k_fu 0 M5
      · refine x_bipush C (v := -3) (k_dg dt_X12_prove_0 16 30 (.bipush (-3)) 2 rfl) (by decide) ?_
        exact x_iret C (by decide) (by decide) (k_dg dt_X12_prove_0 17 32 (.ireturn) 1 rfl)
theorem c_X12_prove {Z : k_Z} (hg : k_Gd Z) (l : Launch) (p1 : Int32) (M : k_M) : Con true Z l yX12_prove cX12_prove 4 (some .int) 6 0 0 emI [k_ra Z 76, Value.int p1] M (f_X12_prove p1 M) := k_con hg (by decide) (Nat.le_of_ble_eq_true rfl) (fun G hl C => m_X12_prove_0 C p1 M)
theorem dt_X12_isRow_0 : k_dec cX12_isRow [(0, .iload_n 1, 1), (1, .iconst 0, 1), (2, .aload_n 0, 1), (3, .getfield 208, 3), (6, .iconst 1, 1), (7, .isub, 1), (8, .invokestatic 99, 3), (11, .ifCond .eq 16, 3), (14, .iload_n 2, 1), (15, .iconst 0, 1), (16, .iconst 2, 1), (17, .invokestatic 99, 3), (20, .ifCond .eq 7, 3), (23, .iconst 1, 1), (24, .goto 4, 3), (27, .iconst 0, 1), (28, .ireturn, 1)] = true := by decide +kernel
def f_X12_isRow (p1 : Int32) (p2 : Int32) (M : k_M) : Option (Int32 × k_M) := bd (f_X12_in p1 0 ((M.1 76 36) - 1) M) (fun r1 M2 => if r1 = 0 then some (0, M2) else bd (f_X12_in p2 0 2 M2) (fun r3 M4 => if r3 = 0 then some (0, M4) else some (1, M4)))
theorem m_X12_isRow_0 {Z : k_Z} {G : k_G} (C : k_C Z G RX12 cX12_isRow (true, 3, 2, 0, 0) (some .boolean) "isRow") (p1 : Int32) (p2 : Int32) (M : k_M) : Sm Z G emI (true, 3, 2, 0, 0) (0, 0) 0 [(0, k_ra Z 76), (1, Value.int p1), (2, Value.int p2)] [] M (f_X12_isRow p1 p2 M) := by
  show Sm Z G emI _ _ _ _ _ _ (bd (f_X12_in p1 0 ((M.1 76 36) - 1) M) (fun r1 M2 => if r1 = 0 then some (0, M2) else bd (f_X12_in p2 0 2 M2) (fun r3 M4 => if r3 = 0 then some (0, M4) else some (1, M4))))
  refine x_iload_n C (k_dg dt_X12_isRow_0 0 0 (.iload_n 1) 1 rfl) 1 rfl ?_
  refine x_iconst C (v := 0) (k_dg dt_X12_isRow_0 1 1 (.iconst 0) 1 rfl) (by decide) ?_
  refine x_aload_n C (k_dg dt_X12_isRow_0 2 2 (.aload_n 0) 1 rfl) 0 rfl ?_
  refine x_getI C (a := 76) (j := 36) rfl rfl (by decide) fl_RX12_208 rfl (k_dg dt_X12_isRow_0 3 3 (.getfield 208) 3 rfl) ?_
  refine x_iconst C (v := 1) (k_dg dt_X12_isRow_0 4 6 (.iconst 1) 1 rfl) (by decide) ?_
  refine x_isub C (k_dg dt_X12_isRow_0 5 7 (.isub) 1 rfl) ?_
  refine x_callS C (vs := [Value.int p1, Value.int 0, Value.int ((M.1 76 36) - 1)]) (rest := []) (c_X12_in C.2.2.2.2.2.2.2.2.2 G.2.1 p1 0 ((M.1 76 36) - 1) M) cy_X12_in lk_RX12_99 stt_X12_in (by decide) (by decide) (by decide) (by decide) rfl rfl (Nat.le_of_ble_eq_true rfl) (k_dg dt_X12_isRow_0 6 8 (.invokestatic 99) 3 rfl) (fun r1 M2 => ?_)
  show Sm Z G _ _ _ _ [(0, k_ra Z 76), (1, Value.int p1), (2, Value.int p2)] [Value.int r1] _ _
  refine x_if_eq C (tgt := 27) (k_dg dt_X12_isRow_0 7 11 (.ifCond .eq 16) 3 rfl) (by decide) (fun _ => ?_) (fun _ => ?_)
  · refine x_iconst C (v := 0) (k_dg dt_X12_isRow_0 15 27 (.iconst 0) 1 rfl) (by decide) ?_
    exact x_zret C (by decide) (by decide) rfl (k_dg dt_X12_isRow_0 16 28 (.ireturn) 1 rfl)
  · refine x_iload_n C (k_dg dt_X12_isRow_0 8 14 (.iload_n 2) 1 rfl) 2 rfl ?_
    refine x_iconst C (v := 0) (k_dg dt_X12_isRow_0 9 15 (.iconst 0) 1 rfl) (by decide) ?_
    refine x_iconst C (v := 2) (k_dg dt_X12_isRow_0 10 16 (.iconst 2) 1 rfl) (by decide) ?_
    refine x_callS C (vs := [Value.int p2, Value.int 0, Value.int 2]) (rest := []) (c_X12_in C.2.2.2.2.2.2.2.2.2 G.2.1 p2 0 2 M2) cy_X12_in lk_RX12_99 stt_X12_in (by decide) (by decide) (by decide) (by decide) rfl rfl (Nat.le_of_ble_eq_true rfl) (k_dg dt_X12_isRow_0 11 17 (.invokestatic 99) 3 rfl) (fun r3 M4 => ?_)
    show Sm Z G _ _ _ _ [(0, k_ra Z 76), (1, Value.int p1), (2, Value.int p2)] [Value.int r3] _ _
    refine x_if_eq C (tgt := 27) (k_dg dt_X12_isRow_0 12 20 (.ifCond .eq 7) 3 rfl) (by decide) (fun _ => ?_) (fun _ => ?_)
    · refine x_iconst C (v := 0) (k_dg dt_X12_isRow_0 15 27 (.iconst 0) 1 rfl) (by decide) ?_
      exact x_zret C (by decide) (by decide) rfl (k_dg dt_X12_isRow_0 16 28 (.ireturn) 1 rfl)
    · refine x_iconst C (v := 1) (k_dg dt_X12_isRow_0 13 23 (.iconst 1) 1 rfl) (by decide) ?_
      refine x_goto C (tgt := 28) (k_dg dt_X12_isRow_0 14 24 (.goto 4) 3 rfl) (by decide) ?_
      exact x_zret C (by decide) (by decide) rfl (k_dg dt_X12_isRow_0 16 28 (.ireturn) 1 rfl)
theorem c_X12_isRow {Z : k_Z} (hg : k_Gd Z) (l : Launch) (p1 : Int32) (p2 : Int32) (M : k_M) : Con true Z l yX12_isRow cX12_isRow 3 (some .boolean) 2 0 0 emI [k_ra Z 76, Value.int p1, Value.int p2] M (f_X12_isRow p1 p2 M) := k_con hg (by decide) (Nat.le_of_ble_eq_true rfl) (fun G hl C => m_X12_isRow_0 C p1 p2 M)
theorem dt_X12_row_0 : k_dec cX12_row [(0, .aload_n 0, 1), (1, .iload_n 1, 1), (2, .iload_n 2, 1), (3, .invokevirtual 328, 3), (6, .ifCond .eq 16, 3), (9, .aload_n 0, 1), (10, .getfield 64, 3), (13, .iconst 3, 1), (14, .iload_n 1, 1), (15, .imul, 1), (16, .iload_n 2, 1), (17, .iadd, 1), (18, .iaload, 1), (19, .goto 5, 3), (22, .bipush (-9), 2), (24, .ireturn, 1)] = true := by decide +kernel
def f_X12_row (p1 : Int32) (p2 : Int32) (M : k_M) : Option (Int32 × k_M) := bd (f_X12_isRow p1 p2 M) (fun r1 M2 => if r1 = 0 then some (-9, M2) else rdI M2 95 18 ((3 * p1) + p2) (fun v3 => some (v3, M2)))
theorem m_X12_row_0 {Z : k_Z} {G : k_G} (C : k_C Z G RX12 cX12_row (true, 3, 3, 0, 0) (some .int) "row") (p1 : Int32) (p2 : Int32) (M : k_M) : Sm Z G emI (true, 3, 3, 0, 0) (0, 0) 0 [(0, k_ra Z 76), (1, Value.int p1), (2, Value.int p2)] [] M (f_X12_row p1 p2 M) := by
  show Sm Z G emI _ _ _ _ _ _ (bd (f_X12_isRow p1 p2 M) (fun r1 M2 => if r1 = 0 then some (-9, M2) else rdI M2 95 18 ((3 * p1) + p2) (fun v3 => some (v3, M2))))
  refine x_aload_n C (k_dg dt_X12_row_0 0 0 (.aload_n 0) 1 rfl) 0 rfl ?_
  refine x_iload_n C (k_dg dt_X12_row_0 1 1 (.iload_n 1) 1 rfl) 1 rfl ?_
  refine x_iload_n C (k_dg dt_X12_row_0 2 2 (.iload_n 2) 1 rfl) 2 rfl ?_
  refine x_callV C (a := 76) (kd := 10) (vs := [Value.int p1, Value.int p2]) (rest := []) rfl rfl (by decide) (fun r hr => by cases hr; rfl) (c_X12_isRow C.2.2.2.2.2.2.2.2.2 G.2.1 p1 p2 M) cy_X12_isRow lk_RX12_328 im_X12_isRow se_X12_isRow (by decide) (by decide) (by decide) (by decide) rfl rfl (Nat.le_of_ble_eq_true rfl) (k_dg dt_X12_row_0 3 3 (.invokevirtual 328) 3 rfl) (fun r1 M2 => ?_)
  show Sm Z G _ _ _ _ [(0, k_ra Z 76), (1, Value.int p1), (2, Value.int p2)] [Value.int r1] _ _
  refine x_if_eq C (tgt := 22) (k_dg dt_X12_row_0 4 6 (.ifCond .eq 16) 3 rfl) (by decide) (fun _ => ?_) (fun _ => ?_)
  · refine x_bipush C (v := -9) (k_dg dt_X12_row_0 14 22 (.bipush (-9)) 2 rfl) (by decide) ?_
    exact x_iret C (by decide) (by decide) (k_dg dt_X12_row_0 15 24 (.ireturn) 1 rfl)
  · refine x_aload_n C (k_dg dt_X12_row_0 5 9 (.aload_n 0) 1 rfl) 0 rfl ?_
    refine x_getR C (a := 76) (j := 35) 95 rfl rfl (by decide) fl_RX12_64 rfl rfl rfl (k_dg dt_X12_row_0 6 10 (.getfield 64) 3 rfl) ?_
    refine x_iconst C (v := 3) (k_dg dt_X12_row_0 7 13 (.iconst 3) 1 rfl) (by decide) ?_
    refine x_iload_n C (k_dg dt_X12_row_0 8 14 (.iload_n 1) 1 rfl) 1 rfl ?_
    refine x_imul C (k_dg dt_X12_row_0 9 15 (.imul) 1 rfl) ?_
    refine x_iload_n C (k_dg dt_X12_row_0 10 16 (.iload_n 2) 1 rfl) 2 rfl ?_
    refine x_iadd C (k_dg dt_X12_row_0 11 17 (.iadd) 1 rfl) ?_
    refine x_iald C (a := 95) (n := 18) rfl rfl (k_dg dt_X12_row_0 12 18 (.iaload) 1 rfl) (fun v3 => ?_)
    refine x_goto C (tgt := 24) (k_dg dt_X12_row_0 13 19 (.goto 5) 3 rfl) (by decide) ?_
    exact x_iret C (by decide) (by decide) (k_dg dt_X12_row_0 15 24 (.ireturn) 1 rfl)
theorem c_X12_row {Z : k_Z} (hg : k_Gd Z) (l : Launch) (p1 : Int32) (p2 : Int32) (M : k_M) : Con true Z l yX12_row cX12_row 3 (some .int) 3 0 0 emI [k_ra Z 76, Value.int p1, Value.int p2] M (f_X12_row p1 p2 M) := k_con hg (by decide) (Nat.le_of_ble_eq_true rfl) (fun G hl C => m_X12_row_0 C p1 p2 M)
theorem dt_X12_alterRow_0 : k_dec cX12_alterRow [(0, .aload_n 0, 1), (1, .iload_n 1, 1), (2, .iload_n 2, 1), (3, .invokevirtual 328, 3), (6, .ifCond .ne 6, 3), (9, .bipush (-9), 2), (11, .ireturn, 1), (12, .aload_n 0, 1), (13, .getfield 64, 3), (16, .iconst 3, 1), (17, .iload_n 1, 1), (18, .imul, 1), (19, .iload_n 2, 1), (20, .iadd, 1), (21, .iaload, 1), (22, .istore 4, 2), (24, .aload_n 0, 1), (25, .getfield 64, 3), (28, .iconst 3, 1), (29, .iload_n 1, 1), (30, .imul, 1), (31, .iload_n 2, 1), (32, .iadd, 1), (33, .iload_n 3, 1), (34, .iastore, 1), (35, .iload 4, 2), (37, .ireturn, 1)] = true := by decide +kernel
def f_X12_alterRow (p1 : Int32) (p2 : Int32) (p3 : Int32) (M : k_M) : Option (Int32 × k_M) := bd (f_X12_isRow p1 p2 M) (fun r1 M2 => if r1 = 0 then some (-9, M2) else rdI M2 95 18 ((3 * p1) + p2) (fun v3 => wrI M2 95 18 ((3 * p1) + p2) p3 (fun M4 => some (v3, M4))))
theorem m_X12_alterRow_0 {Z : k_Z} {G : k_G} (C : k_C Z G RX12 cX12_alterRow (true, 5, 3, 0, 0) (some .int) "alterRow") (p1 : Int32) (p2 : Int32) (p3 : Int32) (M : k_M) : Sm Z G emI (true, 5, 3, 0, 0) (0, 0) 0 [(0, k_ra Z 76), (1, Value.int p1), (2, Value.int p2), (3, Value.int p3)] [] M (f_X12_alterRow p1 p2 p3 M) := by
  show Sm Z G emI _ _ _ _ _ _ (bd (f_X12_isRow p1 p2 M) (fun r1 M2 => if r1 = 0 then some (-9, M2) else rdI M2 95 18 ((3 * p1) + p2) (fun v3 => wrI M2 95 18 ((3 * p1) + p2) p3 (fun M4 => some (v3, M4)))))
  refine x_aload_n C (k_dg dt_X12_alterRow_0 0 0 (.aload_n 0) 1 rfl) 0 rfl ?_
  refine x_iload_n C (k_dg dt_X12_alterRow_0 1 1 (.iload_n 1) 1 rfl) 1 rfl ?_
  refine x_iload_n C (k_dg dt_X12_alterRow_0 2 2 (.iload_n 2) 1 rfl) 2 rfl ?_
  refine x_callV C (a := 76) (kd := 10) (vs := [Value.int p1, Value.int p2]) (rest := []) rfl rfl (by decide) (fun r hr => by cases hr; rfl) (c_X12_isRow C.2.2.2.2.2.2.2.2.2 G.2.1 p1 p2 M) cy_X12_isRow lk_RX12_328 im_X12_isRow se_X12_isRow (by decide) (by decide) (by decide) (by decide) rfl rfl (Nat.le_of_ble_eq_true rfl) (k_dg dt_X12_alterRow_0 3 3 (.invokevirtual 328) 3 rfl) (fun r1 M2 => ?_)
  show Sm Z G _ _ _ _ [(0, k_ra Z 76), (1, Value.int p1), (2, Value.int p2), (3, Value.int p3)] [Value.int r1] _ _
  refine x_if_ne C (tgt := 12) (k_dg dt_X12_alterRow_0 4 6 (.ifCond .ne 6) 3 rfl) (by decide) (fun _ => ?_) (fun _ => ?_)
  · refine x_bipush C (v := -9) (k_dg dt_X12_alterRow_0 5 9 (.bipush (-9)) 2 rfl) (by decide) ?_
    exact x_iret C (by decide) (by decide) (k_dg dt_X12_alterRow_0 6 11 (.ireturn) 1 rfl)
  · refine x_aload_n C (k_dg dt_X12_alterRow_0 7 12 (.aload_n 0) 1 rfl) 0 rfl ?_
    refine x_getR C (a := 76) (j := 35) 95 rfl rfl (by decide) fl_RX12_64 rfl rfl rfl (k_dg dt_X12_alterRow_0 8 13 (.getfield 64) 3 rfl) ?_
    refine x_iconst C (v := 3) (k_dg dt_X12_alterRow_0 9 16 (.iconst 3) 1 rfl) (by decide) ?_
    refine x_iload_n C (k_dg dt_X12_alterRow_0 10 17 (.iload_n 1) 1 rfl) 1 rfl ?_
    refine x_imul C (k_dg dt_X12_alterRow_0 11 18 (.imul) 1 rfl) ?_
    refine x_iload_n C (k_dg dt_X12_alterRow_0 12 19 (.iload_n 2) 1 rfl) 2 rfl ?_
    refine x_iadd C (k_dg dt_X12_alterRow_0 13 20 (.iadd) 1 rfl) ?_
    refine x_iald C (a := 95) (n := 18) rfl rfl (k_dg dt_X12_alterRow_0 14 21 (.iaload) 1 rfl) (fun v3 => ?_)
    refine x_istore C (lv' := [(4, Value.int v3), (0, k_ra Z 76), (1, Value.int p1), (2, Value.int p2), (3, Value.int p3)]) (k_dg dt_X12_alterRow_0 15 22 (.istore 4) 2 rfl) (by decide) rfl ?_
    refine x_aload_n C (k_dg dt_X12_alterRow_0 16 24 (.aload_n 0) 1 rfl) 1 rfl ?_
    refine x_getR C (a := 76) (j := 35) 95 rfl rfl (by decide) fl_RX12_64 rfl rfl rfl (k_dg dt_X12_alterRow_0 17 25 (.getfield 64) 3 rfl) ?_
    refine x_iconst C (v := 3) (k_dg dt_X12_alterRow_0 18 28 (.iconst 3) 1 rfl) (by decide) ?_
    refine x_iload_n C (k_dg dt_X12_alterRow_0 19 29 (.iload_n 1) 1 rfl) 2 rfl ?_
    refine x_imul C (k_dg dt_X12_alterRow_0 20 30 (.imul) 1 rfl) ?_
    refine x_iload_n C (k_dg dt_X12_alterRow_0 21 31 (.iload_n 2) 1 rfl) 3 rfl ?_
    refine x_iadd C (k_dg dt_X12_alterRow_0 22 32 (.iadd) 1 rfl) ?_
    refine x_iload_n C (k_dg dt_X12_alterRow_0 23 33 (.iload_n 3) 1 rfl) 4 rfl ?_
    refine x_iast C (a := 95) (n := 18) rfl rfl (k_dg dt_X12_alterRow_0 24 34 (.iastore) 1 rfl) (fun M4 => ?_)
    refine x_iload C (k_dg dt_X12_alterRow_0 25 35 (.iload 4) 2 rfl) 0 rfl ?_
    exact x_iret C (by decide) (by decide) (k_dg dt_X12_alterRow_0 26 37 (.ireturn) 1 rfl)
theorem c_X12_alterRow {Z : k_Z} (hg : k_Gd Z) (l : Launch) (p1 : Int32) (p2 : Int32) (p3 : Int32) (M : k_M) : Con true Z l yX12_alterRow cX12_alterRow 5 (some .int) 3 0 0 emI [k_ra Z 76, Value.int p1, Value.int p2, Value.int p3] M (f_X12_alterRow p1 p2 p3 M) := k_con hg (by decide) (Nat.le_of_ble_eq_true rfl) (fun G hl C => m_X12_alterRow_0 C p1 p2 p3 M)
theorem dt_X12_judge_0 : k_dec cX12_judge [(0, .aload_n 0, 1), (1, .getfield 205, 3), (4, .ifCond .ne 6, 3), (7, .bipush (-4), 2), (9, .ireturn, 1), (10, .iconst 0, 1), (11, .istore_n 1, 1), (12, .iload_n 1, 1), (13, .aload_n 0, 1), (14, .getfield 208, 3), (17, .if_icmp .ge 86, 3), (20, .aload_n 0, 1), (21, .getfield 64, 3), (24, .iconst 3, 1), (25, .iload_n 1, 1), (26, .imul, 1), (27, .iaload, 1), (28, .istore_n 2, 1), (29, .iload_n 2, 1), (30, .iconst 0, 1), (31, .bipush 12, 2), (33, .invokestatic 99, 3), (36, .ifCond .eq 57, 3), (39, .aload_n 0, 1), (40, .iload_n 1, 1), (41, .iload_n 2, 1), (42, .iconst 2, 1), (43, .invokevirtual 256, 3), (46, .ifCond .eq 47, 3), (49, .aload_n 0, 1), (50, .getfield 64, 3), (53, .iconst 3, 1), (54, .iload_n 1, 1), (55, .imul, 1), (56, .iconst 1, 1), (57, .iadd, 1), (58, .iaload, 1), (59, .aload_n 0, 1), (60, .getfield 25, 3), (63, .bipush 25, 2)] = true := by decide +kernel
theorem dt_X12_judge_1 : k_dec cX12_judge [(65, .iload_n 1, 1), (66, .iconst 1, 1), (67, .iadd, 1), (68, .imul, 1), (69, .iaload, 1), (70, .if_icmp .ne 23, 3), (73, .aload_n 0, 1), (74, .getfield 64, 3), (77, .iconst 3, 1), (78, .iload_n 1, 1), (79, .imul, 1), (80, .iconst 2, 1), (81, .iadd, 1), (82, .iaload, 1), (83, .aload_n 0, 1), (84, .iload_n 1, 1), (85, .iconst 1, 1), (86, .iadd, 1), (87, .invokevirtual 232, 3), (90, .if_icmp .eq 7, 3), (93, .iload_n 1, 1), (94, .iconst 1, 1), (95, .iadd, 1), (96, .ireturn, 1), (97, .iinc 1 1, 3), (100, .goto (-88), 3), (103, .iconst 0, 1), (104, .ireturn, 1)] = true := by decide +kernel
def f_X12_judge_12 : Nat → Int32 → k_M → (Int32 → k_M → Option (Int32 × k_M)) → (k_M → Option (Int32 × k_M)) → Option (Int32 × k_M)
  | 0, _, _, _, _ => none
  | n + 1, l1, M, kx93, kx103 => if (M.1 76 36) ≤ l1 then kx103 M else rdI M 95 18 (3 * l1) (fun v1 => bd (f_X12_in v1 0 12 M) (fun r2 M3 => if r2 = 0 then kx93 l1 M3 else bd (f_X12_goes l1 v1 2 M3) (fun r4 M5 => if r4 = 0 then kx93 l1 M5 else rdI M5 95 18 ((3 * l1) + 1) (fun v6 => rdI M5 82 1100 (25 * (l1 + 1)) (fun v7 => if v6 = v7 then rdI M5 95 18 ((3 * l1) + 2) (fun v8 => bd (f_X12_worthAt (l1 + 1) M5) (fun r9 M10 => if v8 = r9 then f_X12_judge_12 n (l1 + 1) M10 kx93 kx103 else kx93 l1 M10)) else kx93 l1 M5)))))
theorem m_X12_judge_12 {Z : k_Z} {G : k_G} (C : k_C Z G RX12 cX12_judge (true, 3, 5, 0, 0) (some .int) "judge") (kx93 : Int32 → k_M → Option (Int32 × k_M)) (kx103 : k_M → Option (Int32 × k_M)) (Hx93 : ∀ (l1 : Int32) (M : k_M), Sm Z G emI (true, 3, 5, 0, 0) (0, 0) 93 [(1, Value.int l1)] [] M (kx93 l1 M)) (Hx103 : ∀ (M : k_M), Sm Z G emI (true, 3, 5, 0, 0) (0, 0) 103 [] [] M (kx103 M)) : ∀ (n : Nat) (l1 : Int32) (M : k_M), Sm Z G emI (true, 3, 5, 0, 0) (0, 0) 12 [(0, k_ra Z 76), (1, Value.int l1)] [] M (f_X12_judge_12 n l1 M kx93 kx103)
  | 0, _, _ => x_none
  | n + 1, l1, M => by
    have ih := m_X12_judge_12 C kx93 kx103 Hx93 Hx103 n
    show Sm Z G emI _ _ _ _ _ _ (if (M.1 76 36) ≤ l1 then kx103 M else rdI M 95 18 (3 * l1) (fun v1 => bd (f_X12_in v1 0 12 M) (fun r2 M3 => if r2 = 0 then kx93 l1 M3 else bd (f_X12_goes l1 v1 2 M3) (fun r4 M5 => if r4 = 0 then kx93 l1 M5 else rdI M5 95 18 ((3 * l1) + 1) (fun v6 => rdI M5 82 1100 (25 * (l1 + 1)) (fun v7 => if v6 = v7 then rdI M5 95 18 ((3 * l1) + 2) (fun v8 => bd (f_X12_worthAt (l1 + 1) M5) (fun r9 M10 => if v8 = r9 then f_X12_judge_12 n (l1 + 1) M10 kx93 kx103 else kx93 l1 M10)) else kx93 l1 M5))))))
    refine x_iload_n C (k_dg dt_X12_judge_0 7 12 (.iload_n 1) 1 rfl) 1 rfl ?_
    refine x_aload_n C (k_dg dt_X12_judge_0 8 13 (.aload_n 0) 1 rfl) 0 rfl ?_
    refine x_getI C (a := 76) (j := 36) rfl rfl (by decide) fl_RX12_208 rfl (k_dg dt_X12_judge_0 9 14 (.getfield 208) 3 rfl) ?_
    refine x_icmp_ge C (tgt := 103) (k_dg dt_X12_judge_0 10 17 (.if_icmp .ge 86) 3 rfl) (by decide) (fun _ => ?_) (fun _ => ?_)
    · refine x_lv [] rfl ?_
      exact Hx103 M
    · refine x_aload_n C (k_dg dt_X12_judge_0 11 20 (.aload_n 0) 1 rfl) 0 rfl ?_
      refine x_getR C (a := 76) (j := 35) 95 rfl rfl (by decide) fl_RX12_64 rfl rfl rfl (k_dg dt_X12_judge_0 12 21 (.getfield 64) 3 rfl) ?_
      refine x_iconst C (v := 3) (k_dg dt_X12_judge_0 13 24 (.iconst 3) 1 rfl) (by decide) ?_
      refine x_iload_n C (k_dg dt_X12_judge_0 14 25 (.iload_n 1) 1 rfl) 1 rfl ?_
      refine x_imul C (k_dg dt_X12_judge_0 15 26 (.imul) 1 rfl) ?_
      refine x_iald C (a := 95) (n := 18) rfl rfl (k_dg dt_X12_judge_0 16 27 (.iaload) 1 rfl) (fun v1 => ?_)
      refine x_istore_n C (lv' := [(2, Value.int v1), (0, k_ra Z 76), (1, Value.int l1)]) (k_dg dt_X12_judge_0 17 28 (.istore_n 2) 1 rfl) (by decide) rfl ?_
      refine x_iload_n C (k_dg dt_X12_judge_0 18 29 (.iload_n 2) 1 rfl) 0 rfl ?_
      refine x_iconst C (v := 0) (k_dg dt_X12_judge_0 19 30 (.iconst 0) 1 rfl) (by decide) ?_
      refine x_bipush C (v := 12) (k_dg dt_X12_judge_0 20 31 (.bipush 12) 2 rfl) (by decide) ?_
      refine x_callS C (vs := [Value.int v1, Value.int 0, Value.int 12]) (rest := []) (c_X12_in C.2.2.2.2.2.2.2.2.2 G.2.1 v1 0 12 M) cy_X12_in lk_RX12_99 stt_X12_in (by decide) (by decide) (by decide) (by decide) rfl rfl (Nat.le_of_ble_eq_true rfl) (k_dg dt_X12_judge_0 21 33 (.invokestatic 99) 3 rfl) (fun r2 M3 => ?_)
      show Sm Z G _ _ _ _ [(2, Value.int v1), (0, k_ra Z 76), (1, Value.int l1)] [Value.int r2] _ _
      refine x_if_eq C (tgt := 93) (k_dg dt_X12_judge_0 22 36 (.ifCond .eq 57) 3 rfl) (by decide) (fun _ => ?_) (fun _ => ?_)
      · refine x_lv [2] rfl ?_
        exact Hx93 l1 M3
      · refine x_aload_n C (k_dg dt_X12_judge_0 23 39 (.aload_n 0) 1 rfl) 1 rfl ?_
        refine x_iload_n C (k_dg dt_X12_judge_0 24 40 (.iload_n 1) 1 rfl) 2 rfl ?_
        refine x_iload_n C (k_dg dt_X12_judge_0 25 41 (.iload_n 2) 1 rfl) 0 rfl ?_
        refine x_iconst C (v := 2) (k_dg dt_X12_judge_0 26 42 (.iconst 2) 1 rfl) (by decide) ?_
        refine x_callV C (a := 76) (kd := 10) (vs := [Value.int l1, Value.int v1, Value.int 2]) (rest := []) rfl rfl (by decide) (fun r hr => by cases hr; rfl) (c_X12_goes C.2.2.2.2.2.2.2.2.2 G.2.1 l1 v1 2 M3) cy_X12_goes lk_RX12_256 im_X12_goes se_X12_goes (by decide) (by decide) (by decide) (by decide) rfl rfl (Nat.le_of_ble_eq_true rfl) (k_dg dt_X12_judge_0 27 43 (.invokevirtual 256) 3 rfl) (fun r4 M5 => ?_)
        show Sm Z G _ _ _ _ [(2, Value.int v1), (0, k_ra Z 76), (1, Value.int l1)] [Value.int r4] _ _
        refine x_if_eq C (tgt := 93) (k_dg dt_X12_judge_0 28 46 (.ifCond .eq 47) 3 rfl) (by decide) (fun _ => ?_) (fun _ => ?_)
        · refine x_lv [2] rfl ?_
          exact Hx93 l1 M5
        · refine x_aload_n C (k_dg dt_X12_judge_0 29 49 (.aload_n 0) 1 rfl) 1 rfl ?_
          refine x_getR C (a := 76) (j := 35) 95 rfl rfl (by decide) fl_RX12_64 rfl rfl rfl (k_dg dt_X12_judge_0 30 50 (.getfield 64) 3 rfl) ?_
          refine x_iconst C (v := 3) (k_dg dt_X12_judge_0 31 53 (.iconst 3) 1 rfl) (by decide) ?_
          refine x_iload_n C (k_dg dt_X12_judge_0 32 54 (.iload_n 1) 1 rfl) 2 rfl ?_
          refine x_imul C (k_dg dt_X12_judge_0 33 55 (.imul) 1 rfl) ?_
          refine x_iconst C (v := 1) (k_dg dt_X12_judge_0 34 56 (.iconst 1) 1 rfl) (by decide) ?_
          refine x_iadd C (k_dg dt_X12_judge_0 35 57 (.iadd) 1 rfl) ?_
          refine x_iald C (a := 95) (n := 18) rfl rfl (k_dg dt_X12_judge_0 36 58 (.iaload) 1 rfl) (fun v6 => ?_)
          refine x_aload_n C (k_dg dt_X12_judge_0 37 59 (.aload_n 0) 1 rfl) 1 rfl ?_
          refine x_getR C (a := 76) (j := 10) 82 rfl rfl (by decide) fl_RX12_25 rfl rfl rfl (k_dg dt_X12_judge_0 38 60 (.getfield 25) 3 rfl) ?_
          refine x_bipush C (v := 25) (k_dg dt_X12_judge_0 39 63 (.bipush 25) 2 rfl) (by decide) ?_
          refine x_iload_n C (k_dg dt_X12_judge_1 0 65 (.iload_n 1) 1 rfl) 2 rfl ?_
          refine x_iconst C (v := 1) (k_dg dt_X12_judge_1 1 66 (.iconst 1) 1 rfl) (by decide) ?_
          refine x_iadd C (k_dg dt_X12_judge_1 2 67 (.iadd) 1 rfl) ?_
          refine x_imul C (k_dg dt_X12_judge_1 3 68 (.imul) 1 rfl) ?_
          refine x_iald C (a := 82) (n := 1100) rfl rfl (k_dg dt_X12_judge_1 4 69 (.iaload) 1 rfl) (fun v7 => ?_)
          refine x_icmp_ne C (tgt := 93) (k_dg dt_X12_judge_1 5 70 (.if_icmp .ne 23) 3 rfl) (by decide) (fun _ => ?_) (fun _ => ?_)
          · refine x_aload_n C (k_dg dt_X12_judge_1 6 73 (.aload_n 0) 1 rfl) 1 rfl ?_
            refine x_getR C (a := 76) (j := 35) 95 rfl rfl (by decide) fl_RX12_64 rfl rfl rfl (k_dg dt_X12_judge_1 7 74 (.getfield 64) 3 rfl) ?_
            refine x_iconst C (v := 3) (k_dg dt_X12_judge_1 8 77 (.iconst 3) 1 rfl) (by decide) ?_
            refine x_iload_n C (k_dg dt_X12_judge_1 9 78 (.iload_n 1) 1 rfl) 2 rfl ?_
            refine x_imul C (k_dg dt_X12_judge_1 10 79 (.imul) 1 rfl) ?_
            refine x_iconst C (v := 2) (k_dg dt_X12_judge_1 11 80 (.iconst 2) 1 rfl) (by decide) ?_
            refine x_iadd C (k_dg dt_X12_judge_1 12 81 (.iadd) 1 rfl) ?_
            refine x_iald C (a := 95) (n := 18) rfl rfl (k_dg dt_X12_judge_1 13 82 (.iaload) 1 rfl) (fun v8 => ?_)
            refine x_aload_n C (k_dg dt_X12_judge_1 14 83 (.aload_n 0) 1 rfl) 1 rfl ?_
            refine x_iload_n C (k_dg dt_X12_judge_1 15 84 (.iload_n 1) 1 rfl) 2 rfl ?_
            refine x_iconst C (v := 1) (k_dg dt_X12_judge_1 16 85 (.iconst 1) 1 rfl) (by decide) ?_
            refine x_iadd C (k_dg dt_X12_judge_1 17 86 (.iadd) 1 rfl) ?_
            refine x_callV C (a := 76) (kd := 10) (vs := [Value.int (l1 + 1)]) (rest := [Value.int v8]) rfl rfl (by decide) (fun r hr => by cases hr; rfl) (c_X12_worthAt C.2.2.2.2.2.2.2.2.2 G.2.1 (l1 + 1) M5) cy_X12_worthAt lk_RX12_232 im_X12_worthAt se_X12_worthAt (by decide) (by decide) (by decide) (by decide) rfl rfl (Nat.le_of_ble_eq_true rfl) (k_dg dt_X12_judge_1 18 87 (.invokevirtual 232) 3 rfl) (fun r9 M10 => ?_)
            show Sm Z G _ _ _ _ [(2, Value.int v1), (0, k_ra Z 76), (1, Value.int l1)] [Value.int r9, Value.int v8] _ _
            refine x_icmp_eq C (tgt := 97) (k_dg dt_X12_judge_1 19 90 (.if_icmp .eq 7) 3 rfl) (by decide) (fun _ => ?_) (fun _ => ?_)
            · refine x_iinc C (v := 1) (lv' := [(1, Value.int (l1 + 1)), (2, Value.int v1), (0, k_ra Z 76)]) (k_dg dt_X12_judge_1 24 97 (.iinc 1 1) 3 rfl) 2 rfl (by decide) (by decide) rfl ?_
              refine x_goto C (tgt := 12) (k_dg dt_X12_judge_1 25 100 (.goto (-88)) 3 rfl) (by decide) ?_
              refine x_lv [2, 0] rfl ?_
              exact ih (l1 + 1) M10
            · refine x_lv [2] rfl ?_
              exact Hx93 l1 M10
          · refine x_lv [2] rfl ?_
            exact Hx93 l1 M5
def f_X12_judge_93 (l1 : Int32) (M : k_M) : Option (Int32 × k_M) := some (l1 + 1, M)
theorem m_X12_judge_93 {Z : k_Z} {G : k_G} (C : k_C Z G RX12 cX12_judge (true, 3, 5, 0, 0) (some .int) "judge") (l1 : Int32) (M : k_M) : Sm Z G emI (true, 3, 5, 0, 0) (0, 0) 93 [(1, Value.int l1)] [] M (f_X12_judge_93 l1 M) := by
  show Sm Z G emI _ _ _ _ _ _ (some (l1 + 1, M))
  refine x_iload_n C (k_dg dt_X12_judge_1 20 93 (.iload_n 1) 1 rfl) 0 rfl ?_
  refine x_iconst C (v := 1) (k_dg dt_X12_judge_1 21 94 (.iconst 1) 1 rfl) (by decide) ?_
  refine x_iadd C (k_dg dt_X12_judge_1 22 95 (.iadd) 1 rfl) ?_
  exact x_iret C (by decide) (by decide) (k_dg dt_X12_judge_1 23 96 (.ireturn) 1 rfl)
def f_X12_judge_103 (M : k_M) : Option (Int32 × k_M) := some (0, M)
theorem m_X12_judge_103 {Z : k_Z} {G : k_G} (C : k_C Z G RX12 cX12_judge (true, 3, 5, 0, 0) (some .int) "judge") (M : k_M) : Sm Z G emI (true, 3, 5, 0, 0) (0, 0) 103 [] [] M (f_X12_judge_103 M) := by
  show Sm Z G emI _ _ _ _ _ _ (some (0, M))
  refine x_iconst C (v := 0) (k_dg dt_X12_judge_1 26 103 (.iconst 0) 1 rfl) (by decide) ?_
  exact x_iret C (by decide) (by decide) (k_dg dt_X12_judge_1 27 104 (.ireturn) 1 rfl)
def f_X12_judge (M : k_M) : Option (Int32 × k_M) := if (M.1 76 7) = 0 then some (-4, M) else f_X12_judge_12 k_fu 0 M (fun l1_ M_ => f_X12_judge_93 l1_ M_) (fun M_ => f_X12_judge_103 M_)
theorem m_X12_judge_0 {Z : k_Z} {G : k_G} (C : k_C Z G RX12 cX12_judge (true, 3, 5, 0, 0) (some .int) "judge") (M : k_M) : Sm Z G emI (true, 3, 5, 0, 0) (0, 0) 0 [(0, k_ra Z 76)] [] M (f_X12_judge M) := by
  show Sm Z G emI _ _ _ _ _ _ (if (M.1 76 7) = 0 then some (-4, M) else f_X12_judge_12 k_fu 0 M (fun l1_ M_ => f_X12_judge_93 l1_ M_) (fun M_ => f_X12_judge_103 M_))
  refine x_aload_n C (k_dg dt_X12_judge_0 0 0 (.aload_n 0) 1 rfl) 0 rfl ?_
  refine x_getI C (a := 76) (j := 7) rfl rfl (by decide) fl_RX12_205 rfl (k_dg dt_X12_judge_0 1 1 (.getfield 205) 3 rfl) ?_
  refine x_if_ne C (tgt := 10) (k_dg dt_X12_judge_0 2 4 (.ifCond .ne 6) 3 rfl) (by decide) (fun _ => ?_) (fun _ => ?_)
  · refine x_bipush C (v := -4) (k_dg dt_X12_judge_0 3 7 (.bipush (-4)) 2 rfl) (by decide) ?_
    exact x_iret C (by decide) (by decide) (k_dg dt_X12_judge_0 4 9 (.ireturn) 1 rfl)
  · refine x_iconst C (v := 0) (k_dg dt_X12_judge_0 5 10 (.iconst 0) 1 rfl) (by decide) ?_
    refine x_istore_n C (lv' := [(1, Value.int 0), (0, k_ra Z 76)]) (k_dg dt_X12_judge_0 6 11 (.istore_n 1) 1 rfl) (by decide) rfl ?_
    refine x_lv [1, 0] rfl ?_
    exact m_X12_judge_12 C (fun l1_ M_ => f_X12_judge_93 l1_ M_) (fun M_ => f_X12_judge_103 M_) (fun l1_ M_ => m_X12_judge_93 C l1_ M_) (fun M_ => m_X12_judge_103 C M_) k_fu 0 M
theorem c_X12_judge {Z : k_Z} (hg : k_Gd Z) (l : Launch) (M : k_M) : Con true Z l yX12_judge cX12_judge 3 (some .int) 5 0 0 emI [k_ra Z 76] M (f_X12_judge M) := k_con hg (by decide) (Nat.le_of_ble_eq_true rfl) (fun G hl C => m_X12_judge_0 C M)
theorem dt_X12_sheet_0 : k_dec cX12_sheet [(0, .iload_n 1, 1), (1, .invokestatic 303, 3), (4, .ifCond .eq 22, 3), (7, .iload_n 2, 1), (8, .iconst (-1), 1), (9, .iconst 3, 1), (10, .invokestatic 99, 3), (13, .ifCond .eq 13, 3), (16, .iload_n 2, 1), (17, .ifCond .lt 11, 3), (20, .iload_n 3, 1), (21, .bipush 40, 2), (23, .if_icmp .le 5, 3), (26, .iconst (-1), 1), (27, .ireturn, 1), (28, .iload_n 2, 1), (29, .ifCond .lt 10, 3), (32, .iload_n 3, 1), (33, .ifCond .ge 6, 3), (36, .bipush (-14), 2), (38, .ireturn, 1), (39, .aload_n 0, 1), (40, .getfield 67, 3), (43, .iload_n 1, 1), (44, .iload_n 2, 1), (45, .iastore, 1), (46, .aload_n 0, 1), (47, .getfield 70, 3), (50, .iload_n 1, 1), (51, .iload_n 2, 1), (52, .ifCond .ge 7, 3), (55, .iconst 0, 1), (56, .goto 4, 3), (59, .iload_n 3, 1), (60, .iastore, 1), (61, .iconst 0, 1), (62, .istore 4, 2), (64, .iload 4, 2), (66, .bipush 40, 2), (68, .if_icmp .ge 22, 3)] = true := by decide +kernel
theorem dt_X12_sheet_1 : k_dec cX12_sheet [(71, .aload_n 0, 1), (72, .getfield 73, 3), (75, .bipush 40, 2), (77, .iload_n 1, 1), (78, .imul, 1), (79, .iload 4, 2), (81, .iadd, 1), (82, .lconst 0, 1), (83, .lastore, 1), (84, .iinc 4 1, 3), (87, .goto (-23), 3), (90, .iconst 1, 1), (91, .ireturn, 1)] = true := by decide +kernel
def f_X12_sheet_64 : Nat → Int32 → Int32 → k_M → (k_M → Option (Int32 × k_M)) → Option (Int32 × k_M)
  | 0, _, _, _, _ => none
  | n + 1, l1, l4, M, kx90 => if 40 ≤ l4 then kx90 M else wrJ M 98 160 ((40 * l1) + l4) 0 (fun M1 => f_X12_sheet_64 n l1 (l4 + 1) M1 kx90)
theorem m_X12_sheet_64 {Z : k_Z} {G : k_G} (C : k_C Z G RX12 cX12_sheet (true, 5, 3, 0, 0) (some .int) "sheet") (kx90 : k_M → Option (Int32 × k_M)) (Hx90 : ∀ (M : k_M), Sm Z G emI (true, 5, 3, 0, 0) (0, 0) 90 [] [] M (kx90 M)) : ∀ (n : Nat) (l1 : Int32) (l4 : Int32) (M : k_M), Sm Z G emI (true, 5, 3, 0, 0) (0, 0) 64 [(0, k_ra Z 76), (1, Value.int l1), (4, Value.int l4)] [] M (f_X12_sheet_64 n l1 l4 M kx90)
  | 0, _, _, _ => x_none
  | n + 1, l1, l4, M => by
    have ih := m_X12_sheet_64 C kx90 Hx90 n
    show Sm Z G emI _ _ _ _ _ _ (if 40 ≤ l4 then kx90 M else wrJ M 98 160 ((40 * l1) + l4) 0 (fun M1 => f_X12_sheet_64 n l1 (l4 + 1) M1 kx90))
    refine x_iload C (k_dg dt_X12_sheet_0 37 64 (.iload 4) 2 rfl) 2 rfl ?_
    refine x_bipush C (v := 40) (k_dg dt_X12_sheet_0 38 66 (.bipush 40) 2 rfl) (by decide) ?_
    refine x_icmp_ge C (tgt := 90) (k_dg dt_X12_sheet_0 39 68 (.if_icmp .ge 22) 3 rfl) (by decide) (fun _ => ?_) (fun _ => ?_)
    · refine x_lv [] rfl ?_
      exact Hx90 M
    · refine x_aload_n C (k_dg dt_X12_sheet_1 0 71 (.aload_n 0) 1 rfl) 0 rfl ?_
      refine x_getR C (a := 76) (j := 39) 98 rfl rfl (by decide) fl_RX12_73 rfl rfl rfl (k_dg dt_X12_sheet_1 1 72 (.getfield 73) 3 rfl) ?_
      refine x_bipush C (v := 40) (k_dg dt_X12_sheet_1 2 75 (.bipush 40) 2 rfl) (by decide) ?_
      refine x_iload_n C (k_dg dt_X12_sheet_1 3 77 (.iload_n 1) 1 rfl) 1 rfl ?_
      refine x_imul C (k_dg dt_X12_sheet_1 4 78 (.imul) 1 rfl) ?_
      refine x_iload C (k_dg dt_X12_sheet_1 5 79 (.iload 4) 2 rfl) 2 rfl ?_
      refine x_iadd C (k_dg dt_X12_sheet_1 6 81 (.iadd) 1 rfl) ?_
      refine x_lconst C (v := 0) (k_dg dt_X12_sheet_1 7 82 (.lconst 0) 1 rfl) (by decide) ?_
      refine x_last C (a := 98) (n := 160) rfl rfl (k_dg dt_X12_sheet_1 8 83 (.lastore) 1 rfl) (fun M1 => ?_)
      refine x_iinc C (v := 1) (lv' := [(4, Value.int (l4 + 1)), (0, k_ra Z 76), (1, Value.int l1)]) (k_dg dt_X12_sheet_1 9 84 (.iinc 4 1) 3 rfl) 2 rfl (by decide) (by decide) rfl ?_
      refine x_goto C (tgt := 64) (k_dg dt_X12_sheet_1 10 87 (.goto (-23)) 3 rfl) (by decide) ?_
      refine x_lv [1, 2, 0] rfl ?_
      exact ih l1 (l4 + 1) M1
def f_X12_sheet_90 (M : k_M) : Option (Int32 × k_M) := some (1, M)
theorem m_X12_sheet_90 {Z : k_Z} {G : k_G} (C : k_C Z G RX12 cX12_sheet (true, 5, 3, 0, 0) (some .int) "sheet") (M : k_M) : Sm Z G emI (true, 5, 3, 0, 0) (0, 0) 90 [] [] M (f_X12_sheet_90 M) := by
  show Sm Z G emI _ _ _ _ _ _ (some (1, M))
  refine x_iconst C (v := 1) (k_dg dt_X12_sheet_1 11 90 (.iconst 1) 1 rfl) (by decide) ?_
  exact x_iret C (by decide) (by decide) (k_dg dt_X12_sheet_1 12 91 (.ireturn) 1 rfl)
def f_X12_sheet_60 (l1 : Int32) (t1 : Int32) (t2 : Int32) (M : k_M) : Option (Int32 × k_M) := wrI M 97 4 t1 t2 (fun M1 => f_X12_sheet_64 k_fu l1 0 M1 (fun M_ => f_X12_sheet_90 M_))
theorem m_X12_sheet_60 {Z : k_Z} {G : k_G} (C : k_C Z G RX12 cX12_sheet (true, 5, 3, 0, 0) (some .int) "sheet") (l1 : Int32) (t1 : Int32) (t2 : Int32) (M : k_M) : Sm Z G emI (true, 5, 3, 0, 0) (0, 0) 60 [(0, k_ra Z 76), (1, Value.int l1)] [Value.int t2, Value.int t1, k_ra Z 97] M (f_X12_sheet_60 l1 t1 t2 M) := by
  show Sm Z G emI _ _ _ _ _ _ (wrI M 97 4 t1 t2 (fun M1 => f_X12_sheet_64 k_fu l1 0 M1 (fun M_ => f_X12_sheet_90 M_)))
  refine x_iast C (a := 97) (n := 4) rfl rfl (k_dg dt_X12_sheet_0 34 60 (.iastore) 1 rfl) (fun M1 => ?_)
  refine x_iconst C (v := 0) (k_dg dt_X12_sheet_0 35 61 (.iconst 0) 1 rfl) (by decide) ?_
  refine x_istore C (lv' := [(4, Value.int 0), (0, k_ra Z 76), (1, Value.int l1)]) (k_dg dt_X12_sheet_0 36 62 (.istore 4) 2 rfl) (by decide) rfl ?_
  refine x_lv [1, 2, 0] rfl ?_
  exact m_X12_sheet_64 C (fun M_ => f_X12_sheet_90 M_) (fun M_ => m_X12_sheet_90 C M_) k_fu l1 0 M1
def f_X12_sheet_39 (l1 : Int32) (l2 : Int32) (l3 : Int32) (M : k_M) : Option (Int32 × k_M) := wrI M 96 4 l1 l2 (fun M1 => if 0 ≤ l2 then f_X12_sheet_60 l1 l1 l3 M1 else f_X12_sheet_60 l1 l1 0 M1)
theorem m_X12_sheet_39 {Z : k_Z} {G : k_G} (C : k_C Z G RX12 cX12_sheet (true, 5, 3, 0, 0) (some .int) "sheet") (l1 : Int32) (l2 : Int32) (l3 : Int32) (M : k_M) : Sm Z G emI (true, 5, 3, 0, 0) (0, 0) 39 [(0, k_ra Z 76), (1, Value.int l1), (2, Value.int l2), (3, Value.int l3)] [] M (f_X12_sheet_39 l1 l2 l3 M) := by
  show Sm Z G emI _ _ _ _ _ _ (wrI M 96 4 l1 l2 (fun M1 => if 0 ≤ l2 then f_X12_sheet_60 l1 l1 l3 M1 else f_X12_sheet_60 l1 l1 0 M1))
  refine x_aload_n C (k_dg dt_X12_sheet_0 21 39 (.aload_n 0) 1 rfl) 0 rfl ?_
  refine x_getR C (a := 76) (j := 37) 96 rfl rfl (by decide) fl_RX12_67 rfl rfl rfl (k_dg dt_X12_sheet_0 22 40 (.getfield 67) 3 rfl) ?_
  refine x_iload_n C (k_dg dt_X12_sheet_0 23 43 (.iload_n 1) 1 rfl) 1 rfl ?_
  refine x_iload_n C (k_dg dt_X12_sheet_0 24 44 (.iload_n 2) 1 rfl) 2 rfl ?_
  refine x_iast C (a := 96) (n := 4) rfl rfl (k_dg dt_X12_sheet_0 25 45 (.iastore) 1 rfl) (fun M1 => ?_)
  refine x_aload_n C (k_dg dt_X12_sheet_0 26 46 (.aload_n 0) 1 rfl) 0 rfl ?_
  refine x_getR C (a := 76) (j := 38) 97 rfl rfl (by decide) fl_RX12_70 rfl rfl rfl (k_dg dt_X12_sheet_0 27 47 (.getfield 70) 3 rfl) ?_
  refine x_iload_n C (k_dg dt_X12_sheet_0 28 50 (.iload_n 1) 1 rfl) 1 rfl ?_
  refine x_iload_n C (k_dg dt_X12_sheet_0 29 51 (.iload_n 2) 1 rfl) 2 rfl ?_
  refine x_if_ge C (tgt := 59) (k_dg dt_X12_sheet_0 30 52 (.ifCond .ge 7) 3 rfl) (by decide) (fun _ => ?_) (fun _ => ?_)
  · refine x_iload_n C (k_dg dt_X12_sheet_0 33 59 (.iload_n 3) 1 rfl) 3 rfl ?_
    refine x_lv [0, 1] rfl ?_
    exact m_X12_sheet_60 C l1 l1 l3 M1
  · refine x_iconst C (v := 0) (k_dg dt_X12_sheet_0 31 55 (.iconst 0) 1 rfl) (by decide) ?_
    refine x_goto C (tgt := 60) (k_dg dt_X12_sheet_0 32 56 (.goto 4) 3 rfl) (by decide) ?_
    refine x_lv [0, 1] rfl ?_
    exact m_X12_sheet_60 C l1 l1 0 M1
def f_X12_sheet_28 (l1 : Int32) (l2 : Int32) (l3 : Int32) (M : k_M) : Option (Int32 × k_M) := if l2 < 0 then f_X12_sheet_39 l1 l2 l3 M else if 0 ≤ l3 then f_X12_sheet_39 l1 l2 l3 M else some (-14, M)
theorem m_X12_sheet_28 {Z : k_Z} {G : k_G} (C : k_C Z G RX12 cX12_sheet (true, 5, 3, 0, 0) (some .int) "sheet") (l1 : Int32) (l2 : Int32) (l3 : Int32) (M : k_M) : Sm Z G emI (true, 5, 3, 0, 0) (0, 0) 28 [(0, k_ra Z 76), (1, Value.int l1), (2, Value.int l2), (3, Value.int l3)] [] M (f_X12_sheet_28 l1 l2 l3 M) := by
  show Sm Z G emI _ _ _ _ _ _ (if l2 < 0 then f_X12_sheet_39 l1 l2 l3 M else if 0 ≤ l3 then f_X12_sheet_39 l1 l2 l3 M else some (-14, M))
  refine x_iload_n C (k_dg dt_X12_sheet_0 15 28 (.iload_n 2) 1 rfl) 2 rfl ?_
  refine x_if_lt C (tgt := 39) (k_dg dt_X12_sheet_0 16 29 (.ifCond .lt 10) 3 rfl) (by decide) (fun _ => ?_) (fun _ => ?_)
  · exact m_X12_sheet_39 C l1 l2 l3 M
  · refine x_iload_n C (k_dg dt_X12_sheet_0 17 32 (.iload_n 3) 1 rfl) 3 rfl ?_
    refine x_if_ge C (tgt := 39) (k_dg dt_X12_sheet_0 18 33 (.ifCond .ge 6) 3 rfl) (by decide) (fun _ => ?_) (fun _ => ?_)
    · exact m_X12_sheet_39 C l1 l2 l3 M
    · refine x_bipush C (v := -14) (k_dg dt_X12_sheet_0 19 36 (.bipush (-14)) 2 rfl) (by decide) ?_
      exact x_iret C (by decide) (by decide) (k_dg dt_X12_sheet_0 20 38 (.ireturn) 1 rfl)
def f_X12_sheet (p1 : Int32) (p2 : Int32) (p3 : Int32) (M : k_M) : Option (Int32 × k_M) := bd (f_X12_isShelf p1 M) (fun r1 M2 => if r1 = 0 then some (-1, M2) else bd (f_X12_in p2 (-1) 3 M2) (fun r3 M4 => if r3 = 0 then some (-1, M4) else if p2 < 0 then f_X12_sheet_28 p1 p2 p3 M4 else if p3 ≤ 40 then f_X12_sheet_28 p1 p2 p3 M4 else some (-1, M4)))
theorem m_X12_sheet_0 {Z : k_Z} {G : k_G} (C : k_C Z G RX12 cX12_sheet (true, 5, 3, 0, 0) (some .int) "sheet") (p1 : Int32) (p2 : Int32) (p3 : Int32) (M : k_M) : Sm Z G emI (true, 5, 3, 0, 0) (0, 0) 0 [(0, k_ra Z 76), (1, Value.int p1), (2, Value.int p2), (3, Value.int p3)] [] M (f_X12_sheet p1 p2 p3 M) := by
  show Sm Z G emI _ _ _ _ _ _ (bd (f_X12_isShelf p1 M) (fun r1 M2 => if r1 = 0 then some (-1, M2) else bd (f_X12_in p2 (-1) 3 M2) (fun r3 M4 => if r3 = 0 then some (-1, M4) else if p2 < 0 then f_X12_sheet_28 p1 p2 p3 M4 else if p3 ≤ 40 then f_X12_sheet_28 p1 p2 p3 M4 else some (-1, M4))))
  refine x_iload_n C (k_dg dt_X12_sheet_0 0 0 (.iload_n 1) 1 rfl) 1 rfl ?_
  refine x_callS C (vs := [Value.int p1]) (rest := []) (c_X12_isShelf C.2.2.2.2.2.2.2.2.2 G.2.1 p1 M) cy_X12_isShelf lk_RX12_303 stt_X12_isShelf (by decide) (by decide) (by decide) (by decide) rfl rfl (Nat.le_of_ble_eq_true rfl) (k_dg dt_X12_sheet_0 1 1 (.invokestatic 303) 3 rfl) (fun r1 M2 => ?_)
  show Sm Z G _ _ _ _ [(0, k_ra Z 76), (1, Value.int p1), (2, Value.int p2), (3, Value.int p3)] [Value.int r1] _ _
  refine x_if_eq C (tgt := 26) (k_dg dt_X12_sheet_0 2 4 (.ifCond .eq 22) 3 rfl) (by decide) (fun _ => ?_) (fun _ => ?_)
  · refine x_iconst C (v := -1) (k_dg dt_X12_sheet_0 13 26 (.iconst (-1)) 1 rfl) (by decide) ?_
    exact x_iret C (by decide) (by decide) (k_dg dt_X12_sheet_0 14 27 (.ireturn) 1 rfl)
  · refine x_iload_n C (k_dg dt_X12_sheet_0 3 7 (.iload_n 2) 1 rfl) 2 rfl ?_
    refine x_iconst C (v := -1) (k_dg dt_X12_sheet_0 4 8 (.iconst (-1)) 1 rfl) (by decide) ?_
    refine x_iconst C (v := 3) (k_dg dt_X12_sheet_0 5 9 (.iconst 3) 1 rfl) (by decide) ?_
    refine x_callS C (vs := [Value.int p2, Value.int (-1), Value.int 3]) (rest := []) (c_X12_in C.2.2.2.2.2.2.2.2.2 G.2.1 p2 (-1) 3 M2) cy_X12_in lk_RX12_99 stt_X12_in (by decide) (by decide) (by decide) (by decide) rfl rfl (Nat.le_of_ble_eq_true rfl) (k_dg dt_X12_sheet_0 6 10 (.invokestatic 99) 3 rfl) (fun r3 M4 => ?_)
    show Sm Z G _ _ _ _ [(0, k_ra Z 76), (1, Value.int p1), (2, Value.int p2), (3, Value.int p3)] [Value.int r3] _ _
    refine x_if_eq C (tgt := 26) (k_dg dt_X12_sheet_0 7 13 (.ifCond .eq 13) 3 rfl) (by decide) (fun _ => ?_) (fun _ => ?_)
    · refine x_iconst C (v := -1) (k_dg dt_X12_sheet_0 13 26 (.iconst (-1)) 1 rfl) (by decide) ?_
      exact x_iret C (by decide) (by decide) (k_dg dt_X12_sheet_0 14 27 (.ireturn) 1 rfl)
    · refine x_iload_n C (k_dg dt_X12_sheet_0 8 16 (.iload_n 2) 1 rfl) 2 rfl ?_
      refine x_if_lt C (tgt := 28) (k_dg dt_X12_sheet_0 9 17 (.ifCond .lt 11) 3 rfl) (by decide) (fun _ => ?_) (fun _ => ?_)
      · exact m_X12_sheet_28 C p1 p2 p3 M4
      · refine x_iload_n C (k_dg dt_X12_sheet_0 10 20 (.iload_n 3) 1 rfl) 3 rfl ?_
        refine x_bipush C (v := 40) (k_dg dt_X12_sheet_0 11 21 (.bipush 40) 2 rfl) (by decide) ?_
        refine x_icmp_le C (tgt := 28) (k_dg dt_X12_sheet_0 12 23 (.if_icmp .le 5) 3 rfl) (by decide) (fun _ => ?_) (fun _ => ?_)
        · exact m_X12_sheet_28 C p1 p2 p3 M4
        · refine x_iconst C (v := -1) (k_dg dt_X12_sheet_0 13 26 (.iconst (-1)) 1 rfl) (by decide) ?_
          exact x_iret C (by decide) (by decide) (k_dg dt_X12_sheet_0 14 27 (.ireturn) 1 rfl)
theorem c_X12_sheet {Z : k_Z} (hg : k_Gd Z) (l : Launch) (p1 : Int32) (p2 : Int32) (p3 : Int32) (M : k_M) : Con true Z l yX12_sheet cX12_sheet 5 (some .int) 3 0 0 emI [k_ra Z 76, Value.int p1, Value.int p2, Value.int p3] M (f_X12_sheet p1 p2 p3 M) := k_con hg (by decide) (Nat.le_of_ble_eq_true rfl) (fun G hl C => m_X12_sheet_0 C p1 p2 p3 M)
theorem dt_X12_put_0 : k_dec cX12_put [(0, .iload_n 1, 1), (1, .invokestatic 303, 3), (4, .ifCond .ne 5, 3), (7, .iconst (-1), 1), (8, .ireturn, 1), (9, .aload_n 0, 1), (10, .getfield 67, 3), (13, .iload_n 1, 1), (14, .iaload, 1), (15, .ifCond .ge 6, 3), (18, .bipush (-11), 2), (20, .ireturn, 1), (21, .iload_n 2, 1), (22, .iconst 0, 1), (23, .aload_n 0, 1), (24, .getfield 70, 3), (27, .iload_n 1, 1), (28, .iaload, 1), (29, .iconst 1, 1), (30, .isub, 1), (31, .invokestatic 99, 3), (34, .ifCond .ne 6, 3), (37, .bipush (-12), 2), (39, .ireturn, 1), (40, .aload_n 0, 1), (41, .getfield 73, 3), (44, .bipush 40, 2), (46, .iload_n 1, 1), (47, .imul, 1), (48, .iload_n 2, 1), (49, .iadd, 1), (50, .aload_n 0, 1), (51, .getfield 67, 3), (54, .iload_n 1, 1), (55, .iaload, 1), (56, .ifCond .ne 9, 3), (59, .iload_n 3, 1), (60, .i2b, 1), (61, .i2l, 1), (62, .goto 21, 3)] = true := by decide +kernel
theorem dt_X12_put_1 : k_dec cX12_put [(65, .aload_n 0, 1), (66, .getfield 67, 3), (69, .iload_n 1, 1), (70, .iaload, 1), (71, .iconst 1, 1), (72, .if_icmp .ne 9, 3), (75, .iload_n 3, 1), (76, .i2s, 1), (77, .i2l, 1), (78, .goto 5, 3), (81, .iload_n 3, 1), (82, .i2l, 1), (83, .lastore, 1), (84, .iconst 1, 1), (85, .ireturn, 1)] = true := by decide +kernel
def f_X12_put_83 (t1 : Int32) (t2 : Int64) (M : k_M) : Option (Int32 × k_M) := wrJ M 98 160 t1 t2 (fun M1 => some (1, M1))
theorem m_X12_put_83 {Z : k_Z} {G : k_G} (C : k_C Z G RX12 cX12_put (true, 4, 3, 0, 0) (some .int) "put") (t1 : Int32) (t2 : Int64) (M : k_M) : Sm Z G emI (true, 4, 3, 0, 0) (0, 0) 83 [] [Value.long t2, Value.int t1, k_ra Z 98] M (f_X12_put_83 t1 t2 M) := by
  show Sm Z G emI _ _ _ _ _ _ (wrJ M 98 160 t1 t2 (fun M1 => some (1, M1)))
  refine x_last C (a := 98) (n := 160) rfl rfl (k_dg dt_X12_put_1 12 83 (.lastore) 1 rfl) (fun M1 => ?_)
  refine x_iconst C (v := 1) (k_dg dt_X12_put_1 13 84 (.iconst 1) 1 rfl) (by decide) ?_
  exact x_iret C (by decide) (by decide) (k_dg dt_X12_put_1 14 85 (.ireturn) 1 rfl)
def f_X12_put (p1 : Int32) (p2 : Int32) (p3 : Int32) (M : k_M) : Option (Int32 × k_M) := bd (f_X12_isShelf p1 M) (fun r1 M2 => if r1 = 0 then some (-1, M2) else rdI M2 96 4 p1 (fun v3 => if 0 ≤ v3 then rdI M2 97 4 p1 (fun v4 => bd (f_X12_in p2 0 (v4 - 1) M2) (fun r5 M6 => if r5 = 0 then some (-12, M6) else rdI M6 96 4 p1 (fun v7 => if v7 = 0 then f_X12_put_83 ((40 * p1) + p2) p3.toInt8.toInt32.toInt64 M6 else rdI M6 96 4 p1 (fun v8 => if v8 = 1 then f_X12_put_83 ((40 * p1) + p2) p3.toInt16.toInt32.toInt64 M6 else f_X12_put_83 ((40 * p1) + p2) p3.toInt64 M6)))) else some (-11, M2)))
theorem m_X12_put_0 {Z : k_Z} {G : k_G} (C : k_C Z G RX12 cX12_put (true, 4, 3, 0, 0) (some .int) "put") (p1 : Int32) (p2 : Int32) (p3 : Int32) (M : k_M) : Sm Z G emI (true, 4, 3, 0, 0) (0, 0) 0 [(0, k_ra Z 76), (1, Value.int p1), (2, Value.int p2), (3, Value.int p3)] [] M (f_X12_put p1 p2 p3 M) := by
  show Sm Z G emI _ _ _ _ _ _ (bd (f_X12_isShelf p1 M) (fun r1 M2 => if r1 = 0 then some (-1, M2) else rdI M2 96 4 p1 (fun v3 => if 0 ≤ v3 then rdI M2 97 4 p1 (fun v4 => bd (f_X12_in p2 0 (v4 - 1) M2) (fun r5 M6 => if r5 = 0 then some (-12, M6) else rdI M6 96 4 p1 (fun v7 => if v7 = 0 then f_X12_put_83 ((40 * p1) + p2) p3.toInt8.toInt32.toInt64 M6 else rdI M6 96 4 p1 (fun v8 => if v8 = 1 then f_X12_put_83 ((40 * p1) + p2) p3.toInt16.toInt32.toInt64 M6 else f_X12_put_83 ((40 * p1) + p2) p3.toInt64 M6)))) else some (-11, M2))))
  refine x_iload_n C (k_dg dt_X12_put_0 0 0 (.iload_n 1) 1 rfl) 1 rfl ?_
  refine x_callS C (vs := [Value.int p1]) (rest := []) (c_X12_isShelf C.2.2.2.2.2.2.2.2.2 G.2.1 p1 M) cy_X12_isShelf lk_RX12_303 stt_X12_isShelf (by decide) (by decide) (by decide) (by decide) rfl rfl (Nat.le_of_ble_eq_true rfl) (k_dg dt_X12_put_0 1 1 (.invokestatic 303) 3 rfl) (fun r1 M2 => ?_)
  show Sm Z G _ _ _ _ [(0, k_ra Z 76), (1, Value.int p1), (2, Value.int p2), (3, Value.int p3)] [Value.int r1] _ _
  refine x_if_ne C (tgt := 9) (k_dg dt_X12_put_0 2 4 (.ifCond .ne 5) 3 rfl) (by decide) (fun _ => ?_) (fun _ => ?_)
  · refine x_iconst C (v := -1) (k_dg dt_X12_put_0 3 7 (.iconst (-1)) 1 rfl) (by decide) ?_
    exact x_iret C (by decide) (by decide) (k_dg dt_X12_put_0 4 8 (.ireturn) 1 rfl)
  · refine x_aload_n C (k_dg dt_X12_put_0 5 9 (.aload_n 0) 1 rfl) 0 rfl ?_
    refine x_getR C (a := 76) (j := 37) 96 rfl rfl (by decide) fl_RX12_67 rfl rfl rfl (k_dg dt_X12_put_0 6 10 (.getfield 67) 3 rfl) ?_
    refine x_iload_n C (k_dg dt_X12_put_0 7 13 (.iload_n 1) 1 rfl) 1 rfl ?_
    refine x_iald C (a := 96) (n := 4) rfl rfl (k_dg dt_X12_put_0 8 14 (.iaload) 1 rfl) (fun v3 => ?_)
    refine x_if_ge C (tgt := 21) (k_dg dt_X12_put_0 9 15 (.ifCond .ge 6) 3 rfl) (by decide) (fun _ => ?_) (fun _ => ?_)
    · refine x_iload_n C (k_dg dt_X12_put_0 12 21 (.iload_n 2) 1 rfl) 2 rfl ?_
      refine x_iconst C (v := 0) (k_dg dt_X12_put_0 13 22 (.iconst 0) 1 rfl) (by decide) ?_
      refine x_aload_n C (k_dg dt_X12_put_0 14 23 (.aload_n 0) 1 rfl) 0 rfl ?_
      refine x_getR C (a := 76) (j := 38) 97 rfl rfl (by decide) fl_RX12_70 rfl rfl rfl (k_dg dt_X12_put_0 15 24 (.getfield 70) 3 rfl) ?_
      refine x_iload_n C (k_dg dt_X12_put_0 16 27 (.iload_n 1) 1 rfl) 1 rfl ?_
      refine x_iald C (a := 97) (n := 4) rfl rfl (k_dg dt_X12_put_0 17 28 (.iaload) 1 rfl) (fun v4 => ?_)
      refine x_iconst C (v := 1) (k_dg dt_X12_put_0 18 29 (.iconst 1) 1 rfl) (by decide) ?_
      refine x_isub C (k_dg dt_X12_put_0 19 30 (.isub) 1 rfl) ?_
      refine x_callS C (vs := [Value.int p2, Value.int 0, Value.int (v4 - 1)]) (rest := []) (c_X12_in C.2.2.2.2.2.2.2.2.2 G.2.1 p2 0 (v4 - 1) M2) cy_X12_in lk_RX12_99 stt_X12_in (by decide) (by decide) (by decide) (by decide) rfl rfl (Nat.le_of_ble_eq_true rfl) (k_dg dt_X12_put_0 20 31 (.invokestatic 99) 3 rfl) (fun r5 M6 => ?_)
      show Sm Z G _ _ _ _ [(0, k_ra Z 76), (1, Value.int p1), (2, Value.int p2), (3, Value.int p3)] [Value.int r5] _ _
      refine x_if_ne C (tgt := 40) (k_dg dt_X12_put_0 21 34 (.ifCond .ne 6) 3 rfl) (by decide) (fun _ => ?_) (fun _ => ?_)
      · refine x_bipush C (v := -12) (k_dg dt_X12_put_0 22 37 (.bipush (-12)) 2 rfl) (by decide) ?_
        exact x_iret C (by decide) (by decide) (k_dg dt_X12_put_0 23 39 (.ireturn) 1 rfl)
      · refine x_aload_n C (k_dg dt_X12_put_0 24 40 (.aload_n 0) 1 rfl) 0 rfl ?_
        refine x_getR C (a := 76) (j := 39) 98 rfl rfl (by decide) fl_RX12_73 rfl rfl rfl (k_dg dt_X12_put_0 25 41 (.getfield 73) 3 rfl) ?_
        refine x_bipush C (v := 40) (k_dg dt_X12_put_0 26 44 (.bipush 40) 2 rfl) (by decide) ?_
        refine x_iload_n C (k_dg dt_X12_put_0 27 46 (.iload_n 1) 1 rfl) 1 rfl ?_
        refine x_imul C (k_dg dt_X12_put_0 28 47 (.imul) 1 rfl) ?_
        refine x_iload_n C (k_dg dt_X12_put_0 29 48 (.iload_n 2) 1 rfl) 2 rfl ?_
        refine x_iadd C (k_dg dt_X12_put_0 30 49 (.iadd) 1 rfl) ?_
        refine x_aload_n C (k_dg dt_X12_put_0 31 50 (.aload_n 0) 1 rfl) 0 rfl ?_
        refine x_getR C (a := 76) (j := 37) 96 rfl rfl (by decide) fl_RX12_67 rfl rfl rfl (k_dg dt_X12_put_0 32 51 (.getfield 67) 3 rfl) ?_
        refine x_iload_n C (k_dg dt_X12_put_0 33 54 (.iload_n 1) 1 rfl) 1 rfl ?_
        refine x_iald C (a := 96) (n := 4) rfl rfl (k_dg dt_X12_put_0 34 55 (.iaload) 1 rfl) (fun v7 => ?_)
        refine x_if_ne C (tgt := 65) (k_dg dt_X12_put_0 35 56 (.ifCond .ne 9) 3 rfl) (by decide) (fun _ => ?_) (fun _ => ?_)
        · refine x_iload_n C (k_dg dt_X12_put_0 36 59 (.iload_n 3) 1 rfl) 3 rfl ?_
          refine x_i2b C (k_dg dt_X12_put_0 37 60 (.i2b) 1 rfl) ?_
          refine x_i2l C (k_dg dt_X12_put_0 38 61 (.i2l) 1 rfl) ?_
          refine x_goto C (tgt := 83) (k_dg dt_X12_put_0 39 62 (.goto 21) 3 rfl) (by decide) ?_
          refine x_lv [] rfl ?_
          exact m_X12_put_83 C ((40 * p1) + p2) p3.toInt8.toInt32.toInt64 M6
        · refine x_aload_n C (k_dg dt_X12_put_1 0 65 (.aload_n 0) 1 rfl) 0 rfl ?_
          refine x_getR C (a := 76) (j := 37) 96 rfl rfl (by decide) fl_RX12_67 rfl rfl rfl (k_dg dt_X12_put_1 1 66 (.getfield 67) 3 rfl) ?_
          refine x_iload_n C (k_dg dt_X12_put_1 2 69 (.iload_n 1) 1 rfl) 1 rfl ?_
          refine x_iald C (a := 96) (n := 4) rfl rfl (k_dg dt_X12_put_1 3 70 (.iaload) 1 rfl) (fun v8 => ?_)
          refine x_iconst C (v := 1) (k_dg dt_X12_put_1 4 71 (.iconst 1) 1 rfl) (by decide) ?_
          refine x_icmp_ne C (tgt := 81) (k_dg dt_X12_put_1 5 72 (.if_icmp .ne 9) 3 rfl) (by decide) (fun _ => ?_) (fun _ => ?_)
          · refine x_iload_n C (k_dg dt_X12_put_1 6 75 (.iload_n 3) 1 rfl) 3 rfl ?_
            refine x_i2s C (k_dg dt_X12_put_1 7 76 (.i2s) 1 rfl) ?_
            refine x_i2l C (k_dg dt_X12_put_1 8 77 (.i2l) 1 rfl) ?_
            refine x_goto C (tgt := 83) (k_dg dt_X12_put_1 9 78 (.goto 5) 3 rfl) (by decide) ?_
            refine x_lv [] rfl ?_
            exact m_X12_put_83 C ((40 * p1) + p2) p3.toInt16.toInt32.toInt64 M6
          · refine x_iload_n C (k_dg dt_X12_put_1 10 81 (.iload_n 3) 1 rfl) 3 rfl ?_
            refine x_i2l C (k_dg dt_X12_put_1 11 82 (.i2l) 1 rfl) ?_
            refine x_lv [] rfl ?_
            exact m_X12_put_83 C ((40 * p1) + p2) p3.toInt64 M6
    · refine x_bipush C (v := -11) (k_dg dt_X12_put_0 10 18 (.bipush (-11)) 2 rfl) (by decide) ?_
      exact x_iret C (by decide) (by decide) (k_dg dt_X12_put_0 11 20 (.ireturn) 1 rfl)
theorem c_X12_put {Z : k_Z} (hg : k_Gd Z) (l : Launch) (p1 : Int32) (p2 : Int32) (p3 : Int32) (M : k_M) : Con true Z l yX12_put cX12_put 4 (some .int) 3 0 0 emI [k_ra Z 76, Value.int p1, Value.int p2, Value.int p3] M (f_X12_put p1 p2 p3 M) := k_con hg (by decide) (Nat.le_of_ble_eq_true rfl) (fun G hl C => m_X12_put_0 C p1 p2 p3 M)
theorem dt_X12_item_0 : k_dec cX12_item [(0, .iload_n 1, 1), (1, .invokestatic 303, 3), (4, .ifCond .eq 12, 3), (7, .iload_n 2, 1), (8, .iconst 0, 1), (9, .iconst 3, 1), (10, .invokestatic 99, 3), (13, .ifCond .ne 5, 3), (16, .iconst (-1), 1), (17, .ireturn, 1), (18, .aload_n 0, 1), (19, .iload_n 1, 1), (20, .iload_n 2, 1), (21, .invokevirtual 306, 3), (24, .istore 4, 2), (26, .iload 4, 2), (28, .ifCond .eq 6, 3), (31, .iload 4, 2), (33, .ireturn, 1), (34, .iload_n 3, 1), (35, .iconst 0, 1), (36, .aload_n 0, 1), (37, .getfield 70, 3), (40, .iload_n 1, 1), (41, .iaload, 1), (42, .iconst 1, 1), (43, .isub, 1), (44, .invokestatic 99, 3), (47, .ifCond .eq 18, 3), (50, .aload_n 0, 1), (51, .getfield 73, 3), (54, .bipush 40, 2), (56, .iload_n 1, 1), (57, .imul, 1), (58, .iload_n 3, 1), (59, .iadd, 1), (60, .laload, 1), (61, .l2i, 1), (62, .goto 5, 3), (65, .bipush (-12), 2)] = true := by decide +kernel
theorem dt_X12_item_1 : k_dec cX12_item [(67, .ireturn, 1)] = true := by decide +kernel
def f_X12_item (p1 : Int32) (p2 : Int32) (p3 : Int32) (M : k_M) : Option (Int32 × k_M) := bd (f_X12_isShelf p1 M) (fun r1 M2 => if r1 = 0 then some (-1, M2) else bd (f_X12_in p2 0 3 M2) (fun r3 M4 => if r3 = 0 then some (-1, M4) else bd (f_X12_lacksSort p1 p2 M4) (fun r5 M6 => if r5 = 0 then rdI M6 97 4 p1 (fun v7 => bd (f_X12_in p3 0 (v7 - 1) M6) (fun r8 M9 => if r8 = 0 then some (-12, M9) else rdJ M9 98 160 ((40 * p1) + p3) (fun v10 => some (v10.toInt32, M9)))) else some (r5, M6))))
theorem m_X12_item_0 {Z : k_Z} {G : k_G} (C : k_C Z G RX12 cX12_item (true, 5, 3, 0, 0) (some .int) "item") (p1 : Int32) (p2 : Int32) (p3 : Int32) (M : k_M) : Sm Z G emI (true, 5, 3, 0, 0) (0, 0) 0 [(0, k_ra Z 76), (1, Value.int p1), (2, Value.int p2), (3, Value.int p3)] [] M (f_X12_item p1 p2 p3 M) := by
  show Sm Z G emI _ _ _ _ _ _ (bd (f_X12_isShelf p1 M) (fun r1 M2 => if r1 = 0 then some (-1, M2) else bd (f_X12_in p2 0 3 M2) (fun r3 M4 => if r3 = 0 then some (-1, M4) else bd (f_X12_lacksSort p1 p2 M4) (fun r5 M6 => if r5 = 0 then rdI M6 97 4 p1 (fun v7 => bd (f_X12_in p3 0 (v7 - 1) M6) (fun r8 M9 => if r8 = 0 then some (-12, M9) else rdJ M9 98 160 ((40 * p1) + p3) (fun v10 => some (v10.toInt32, M9)))) else some (r5, M6)))))
  refine x_iload_n C (k_dg dt_X12_item_0 0 0 (.iload_n 1) 1 rfl) 1 rfl ?_
  refine x_callS C (vs := [Value.int p1]) (rest := []) (c_X12_isShelf C.2.2.2.2.2.2.2.2.2 G.2.1 p1 M) cy_X12_isShelf lk_RX12_303 stt_X12_isShelf (by decide) (by decide) (by decide) (by decide) rfl rfl (Nat.le_of_ble_eq_true rfl) (k_dg dt_X12_item_0 1 1 (.invokestatic 303) 3 rfl) (fun r1 M2 => ?_)
  show Sm Z G _ _ _ _ [(0, k_ra Z 76), (1, Value.int p1), (2, Value.int p2), (3, Value.int p3)] [Value.int r1] _ _
  refine x_if_eq C (tgt := 16) (k_dg dt_X12_item_0 2 4 (.ifCond .eq 12) 3 rfl) (by decide) (fun _ => ?_) (fun _ => ?_)
  · refine x_iconst C (v := -1) (k_dg dt_X12_item_0 8 16 (.iconst (-1)) 1 rfl) (by decide) ?_
    exact x_iret C (by decide) (by decide) (k_dg dt_X12_item_0 9 17 (.ireturn) 1 rfl)
  · refine x_iload_n C (k_dg dt_X12_item_0 3 7 (.iload_n 2) 1 rfl) 2 rfl ?_
    refine x_iconst C (v := 0) (k_dg dt_X12_item_0 4 8 (.iconst 0) 1 rfl) (by decide) ?_
    refine x_iconst C (v := 3) (k_dg dt_X12_item_0 5 9 (.iconst 3) 1 rfl) (by decide) ?_
    refine x_callS C (vs := [Value.int p2, Value.int 0, Value.int 3]) (rest := []) (c_X12_in C.2.2.2.2.2.2.2.2.2 G.2.1 p2 0 3 M2) cy_X12_in lk_RX12_99 stt_X12_in (by decide) (by decide) (by decide) (by decide) rfl rfl (Nat.le_of_ble_eq_true rfl) (k_dg dt_X12_item_0 6 10 (.invokestatic 99) 3 rfl) (fun r3 M4 => ?_)
    show Sm Z G _ _ _ _ [(0, k_ra Z 76), (1, Value.int p1), (2, Value.int p2), (3, Value.int p3)] [Value.int r3] _ _
    refine x_if_ne C (tgt := 18) (k_dg dt_X12_item_0 7 13 (.ifCond .ne 5) 3 rfl) (by decide) (fun _ => ?_) (fun _ => ?_)
    · refine x_iconst C (v := -1) (k_dg dt_X12_item_0 8 16 (.iconst (-1)) 1 rfl) (by decide) ?_
      exact x_iret C (by decide) (by decide) (k_dg dt_X12_item_0 9 17 (.ireturn) 1 rfl)
    · refine x_aload_n C (k_dg dt_X12_item_0 10 18 (.aload_n 0) 1 rfl) 0 rfl ?_
      refine x_iload_n C (k_dg dt_X12_item_0 11 19 (.iload_n 1) 1 rfl) 1 rfl ?_
      refine x_iload_n C (k_dg dt_X12_item_0 12 20 (.iload_n 2) 1 rfl) 2 rfl ?_
      refine x_callV C (a := 76) (kd := 10) (vs := [Value.int p1, Value.int p2]) (rest := []) rfl rfl (by decide) (fun r hr => by cases hr; rfl) (c_X12_lacksSort C.2.2.2.2.2.2.2.2.2 G.2.1 p1 p2 M4) cy_X12_lacksSort lk_RX12_306 im_X12_lacksSort se_X12_lacksSort (by decide) (by decide) (by decide) (by decide) rfl rfl (Nat.le_of_ble_eq_true rfl) (k_dg dt_X12_item_0 13 21 (.invokevirtual 306) 3 rfl) (fun r5 M6 => ?_)
      show Sm Z G _ _ _ _ [(0, k_ra Z 76), (1, Value.int p1), (2, Value.int p2), (3, Value.int p3)] [Value.int r5] _ _
      refine x_istore C (lv' := [(4, Value.int r5), (0, k_ra Z 76), (1, Value.int p1), (2, Value.int p2), (3, Value.int p3)]) (k_dg dt_X12_item_0 14 24 (.istore 4) 2 rfl) (by decide) rfl ?_
      refine x_iload C (k_dg dt_X12_item_0 15 26 (.iload 4) 2 rfl) 0 rfl ?_
      refine x_if_eq C (tgt := 34) (k_dg dt_X12_item_0 16 28 (.ifCond .eq 6) 3 rfl) (by decide) (fun _ => ?_) (fun _ => ?_)
      · refine x_iload_n C (k_dg dt_X12_item_0 19 34 (.iload_n 3) 1 rfl) 4 rfl ?_
        refine x_iconst C (v := 0) (k_dg dt_X12_item_0 20 35 (.iconst 0) 1 rfl) (by decide) ?_
        refine x_aload_n C (k_dg dt_X12_item_0 21 36 (.aload_n 0) 1 rfl) 1 rfl ?_
        refine x_getR C (a := 76) (j := 38) 97 rfl rfl (by decide) fl_RX12_70 rfl rfl rfl (k_dg dt_X12_item_0 22 37 (.getfield 70) 3 rfl) ?_
        refine x_iload_n C (k_dg dt_X12_item_0 23 40 (.iload_n 1) 1 rfl) 2 rfl ?_
        refine x_iald C (a := 97) (n := 4) rfl rfl (k_dg dt_X12_item_0 24 41 (.iaload) 1 rfl) (fun v7 => ?_)
        refine x_iconst C (v := 1) (k_dg dt_X12_item_0 25 42 (.iconst 1) 1 rfl) (by decide) ?_
        refine x_isub C (k_dg dt_X12_item_0 26 43 (.isub) 1 rfl) ?_
        refine x_callS C (vs := [Value.int p3, Value.int 0, Value.int (v7 - 1)]) (rest := []) (c_X12_in C.2.2.2.2.2.2.2.2.2 G.2.1 p3 0 (v7 - 1) M6) cy_X12_in lk_RX12_99 stt_X12_in (by decide) (by decide) (by decide) (by decide) rfl rfl (Nat.le_of_ble_eq_true rfl) (k_dg dt_X12_item_0 27 44 (.invokestatic 99) 3 rfl) (fun r8 M9 => ?_)
        show Sm Z G _ _ _ _ [(4, Value.int r5), (0, k_ra Z 76), (1, Value.int p1), (2, Value.int p2), (3, Value.int p3)] [Value.int r8] _ _
        refine x_if_eq C (tgt := 65) (k_dg dt_X12_item_0 28 47 (.ifCond .eq 18) 3 rfl) (by decide) (fun _ => ?_) (fun _ => ?_)
        · refine x_bipush C (v := -12) (k_dg dt_X12_item_0 39 65 (.bipush (-12)) 2 rfl) (by decide) ?_
          exact x_iret C (by decide) (by decide) (k_dg dt_X12_item_1 0 67 (.ireturn) 1 rfl)
        · refine x_aload_n C (k_dg dt_X12_item_0 29 50 (.aload_n 0) 1 rfl) 1 rfl ?_
          refine x_getR C (a := 76) (j := 39) 98 rfl rfl (by decide) fl_RX12_73 rfl rfl rfl (k_dg dt_X12_item_0 30 51 (.getfield 73) 3 rfl) ?_
          refine x_bipush C (v := 40) (k_dg dt_X12_item_0 31 54 (.bipush 40) 2 rfl) (by decide) ?_
          refine x_iload_n C (k_dg dt_X12_item_0 32 56 (.iload_n 1) 1 rfl) 2 rfl ?_
          refine x_imul C (k_dg dt_X12_item_0 33 57 (.imul) 1 rfl) ?_
          refine x_iload_n C (k_dg dt_X12_item_0 34 58 (.iload_n 3) 1 rfl) 4 rfl ?_
          refine x_iadd C (k_dg dt_X12_item_0 35 59 (.iadd) 1 rfl) ?_
          refine x_lald C (a := 98) (n := 160) rfl rfl (k_dg dt_X12_item_0 36 60 (.laload) 1 rfl) (fun v10 => ?_)
          refine x_l2i C (k_dg dt_X12_item_0 37 61 (.l2i) 1 rfl) ?_
          refine x_goto C (tgt := 67) (k_dg dt_X12_item_0 38 62 (.goto 5) 3 rfl) (by decide) ?_
          exact x_iret C (by decide) (by decide) (k_dg dt_X12_item_1 0 67 (.ireturn) 1 rfl)
      · refine x_iload C (k_dg dt_X12_item_0 17 31 (.iload 4) 2 rfl) 0 rfl ?_
        exact x_iret C (by decide) (by decide) (k_dg dt_X12_item_0 18 33 (.ireturn) 1 rfl)
theorem c_X12_item {Z : k_Z} (hg : k_Gd Z) (l : Launch) (p1 : Int32) (p2 : Int32) (p3 : Int32) (M : k_M) : Con true Z l yX12_item cX12_item 5 (some .int) 3 0 0 emI [k_ra Z 76, Value.int p1, Value.int p2, Value.int p3] M (f_X12_item p1 p2 p3 M) := k_con hg (by decide) (Nat.le_of_ble_eq_true rfl) (fun G hl C => m_X12_item_0 C p1 p2 p3 M)
theorem dt_X12_isHeld_0 : k_dec cX12_isHeld [(0, .iload_n 1, 1), (1, .ifCond .ne 11, 3), (4, .aload_n 0, 1), (5, .iload_n 2, 1), (6, .invokevirtual 316, 3), (9, .goto 25, 3), (12, .iload_n 1, 1), (13, .iconst 1, 1), (14, .if_icmp .ne 10, 3), (17, .iload_n 2, 1), (18, .invokestatic 303, 3), (21, .goto 13, 3), (24, .iload_n 1, 1), (25, .iconst 2, 1), (26, .if_icmp .ne 7, 3), (29, .iconst 1, 1), (30, .goto 4, 3), (33, .iconst 0, 1), (34, .ireturn, 1)] = true := by decide +kernel
def f_X12_isHeld (p1 : Int32) (p2 : Int32) (M : k_M) : Option (Int32 × k_M) := if p1 = 0 then bd (f_X12_isRule p2 M) (fun r4 M5 => ckZ r4 (some (r4, M5))) else if p1 = 1 then bd (f_X12_isShelf p2 M) (fun r1 M2 => ckZ r1 (some (r1, M2))) else if p1 = 2 then some (1, M) else some (0, M)
theorem m_X12_isHeld_0 {Z : k_Z} {G : k_G} (C : k_C Z G RX12 cX12_isHeld (true, 3, 3, 0, 0) (some .boolean) "isHeld") (p1 : Int32) (p2 : Int32) (M : k_M) : Sm Z G emI (true, 3, 3, 0, 0) (0, 0) 0 [(0, k_ra Z 76), (1, Value.int p1), (2, Value.int p2)] [] M (f_X12_isHeld p1 p2 M) := by
  show Sm Z G emI _ _ _ _ _ _ (if p1 = 0 then bd (f_X12_isRule p2 M) (fun r4 M5 => ckZ r4 (some (r4, M5))) else if p1 = 1 then bd (f_X12_isShelf p2 M) (fun r1 M2 => ckZ r1 (some (r1, M2))) else if p1 = 2 then some (1, M) else some (0, M))
  refine x_iload_n C (k_dg dt_X12_isHeld_0 0 0 (.iload_n 1) 1 rfl) 1 rfl ?_
  refine x_if_ne C (tgt := 12) (k_dg dt_X12_isHeld_0 1 1 (.ifCond .ne 11) 3 rfl) (by decide) (fun _ => ?_) (fun _ => ?_)
  · refine x_aload_n C (k_dg dt_X12_isHeld_0 2 4 (.aload_n 0) 1 rfl) 0 rfl ?_
    refine x_iload_n C (k_dg dt_X12_isHeld_0 3 5 (.iload_n 2) 1 rfl) 2 rfl ?_
    refine x_callV C (a := 76) (kd := 10) (vs := [Value.int p2]) (rest := []) rfl rfl (by decide) (fun r hr => by cases hr; rfl) (c_X12_isRule C.2.2.2.2.2.2.2.2.2 G.2.1 p2 M) cy_X12_isRule lk_RX12_316 im_X12_isRule se_X12_isRule (by decide) (by decide) (by decide) (by decide) rfl rfl (Nat.le_of_ble_eq_true rfl) (k_dg dt_X12_isHeld_0 4 6 (.invokevirtual 316) 3 rfl) (fun r4 M5 => ?_)
    show Sm Z G _ _ _ _ [(0, k_ra Z 76), (1, Value.int p1), (2, Value.int p2)] [Value.int r4] _ _
    refine x_goto C (tgt := 34) (k_dg dt_X12_isHeld_0 5 9 (.goto 25) 3 rfl) (by decide) ?_
    refine x_ckZ (fun h6 => ?_)
    exact x_zret C (by decide) (by decide) (k_nz h6) (k_dg dt_X12_isHeld_0 18 34 (.ireturn) 1 rfl)
  · refine x_iload_n C (k_dg dt_X12_isHeld_0 6 12 (.iload_n 1) 1 rfl) 1 rfl ?_
    refine x_iconst C (v := 1) (k_dg dt_X12_isHeld_0 7 13 (.iconst 1) 1 rfl) (by decide) ?_
    refine x_icmp_ne C (tgt := 24) (k_dg dt_X12_isHeld_0 8 14 (.if_icmp .ne 10) 3 rfl) (by decide) (fun _ => ?_) (fun _ => ?_)
    · refine x_iload_n C (k_dg dt_X12_isHeld_0 9 17 (.iload_n 2) 1 rfl) 2 rfl ?_
      refine x_callS C (vs := [Value.int p2]) (rest := []) (c_X12_isShelf C.2.2.2.2.2.2.2.2.2 G.2.1 p2 M) cy_X12_isShelf lk_RX12_303 stt_X12_isShelf (by decide) (by decide) (by decide) (by decide) rfl rfl (Nat.le_of_ble_eq_true rfl) (k_dg dt_X12_isHeld_0 10 18 (.invokestatic 303) 3 rfl) (fun r1 M2 => ?_)
      show Sm Z G _ _ _ _ [(0, k_ra Z 76), (1, Value.int p1), (2, Value.int p2)] [Value.int r1] _ _
      refine x_goto C (tgt := 34) (k_dg dt_X12_isHeld_0 11 21 (.goto 13) 3 rfl) (by decide) ?_
      refine x_ckZ (fun h3 => ?_)
      exact x_zret C (by decide) (by decide) (k_nz h3) (k_dg dt_X12_isHeld_0 18 34 (.ireturn) 1 rfl)
    · refine x_iload_n C (k_dg dt_X12_isHeld_0 12 24 (.iload_n 1) 1 rfl) 1 rfl ?_
      refine x_iconst C (v := 2) (k_dg dt_X12_isHeld_0 13 25 (.iconst 2) 1 rfl) (by decide) ?_
      refine x_icmp_ne C (tgt := 33) (k_dg dt_X12_isHeld_0 14 26 (.if_icmp .ne 7) 3 rfl) (by decide) (fun _ => ?_) (fun _ => ?_)
      · refine x_iconst C (v := 1) (k_dg dt_X12_isHeld_0 15 29 (.iconst 1) 1 rfl) (by decide) ?_
        refine x_goto C (tgt := 34) (k_dg dt_X12_isHeld_0 16 30 (.goto 4) 3 rfl) (by decide) ?_
        exact x_zret C (by decide) (by decide) rfl (k_dg dt_X12_isHeld_0 18 34 (.ireturn) 1 rfl)
      · refine x_iconst C (v := 0) (k_dg dt_X12_isHeld_0 17 33 (.iconst 0) 1 rfl) (by decide) ?_
        exact x_zret C (by decide) (by decide) rfl (k_dg dt_X12_isHeld_0 18 34 (.ireturn) 1 rfl)
theorem c_X12_isHeld {Z : k_Z} (hg : k_Gd Z) (l : Launch) (p1 : Int32) (p2 : Int32) (M : k_M) : Con true Z l yX12_isHeld cX12_isHeld 3 (some .boolean) 3 0 0 emI [k_ra Z 76, Value.int p1, Value.int p2] M (f_X12_isHeld p1 p2 M) := k_con hg (by decide) (Nat.le_of_ble_eq_true rfl) (fun G hl C => m_X12_isHeld_0 C p1 p2 M)
theorem dt_X12_shelf_0 : k_dec cX12_shelf [(0, .iload_n 1, 1), (1, .invokestatic 303, 3), (4, .ifCond .eq 12, 3), (7, .aload_n 0, 1), (8, .iload_n 2, 1), (9, .iload_n 3, 1), (10, .invokevirtual 331, 3), (13, .ifCond .ne 5, 3), (16, .iconst (-1), 1), (17, .ireturn, 1), (18, .aload_n 0, 1), (19, .getfield 77, 3), (22, .iload_n 1, 1), (23, .iload_n 2, 1), (24, .iconst 2, 1), (25, .if_icmp .eq 17, 3), (28, .iload_n 2, 1), (29, .iconst 1, 1), (30, .if_icmp .ne 16, 3), (33, .aload_n 0, 1), (34, .getfield 67, 3), (37, .iload_n 3, 1), (38, .iaload, 1), (39, .ifCond .ge 7, 3), (42, .iconst (-1), 1), (43, .goto 4, 3), (46, .iload_n 2, 1), (47, .iastore, 1), (48, .aload_n 0, 1), (49, .getfield 80, 3), (52, .iload_n 1, 1), (53, .iload_n 2, 1), (54, .iconst 1, 1), (55, .if_icmp .ne 12, 3), (58, .aload_n 0, 1), (59, .getfield 67, 3), (62, .iload_n 3, 1), (63, .iaload, 1), (64, .goto 4, 3), (67, .iload_n 3, 1)] = true := by decide +kernel
theorem dt_X12_shelf_1 : k_dec cX12_shelf [(68, .iastore, 1), (69, .aload_n 0, 1), (70, .getfield 83, 3), (73, .iload_n 1, 1), (74, .iload_n 2, 1), (75, .iconst 1, 1), (76, .if_icmp .ne 12, 3), (79, .aload_n 0, 1), (80, .getfield 70, 3), (83, .iload_n 3, 1), (84, .iaload, 1), (85, .goto 4, 3), (88, .iconst 0, 1), (89, .iastore, 1), (90, .iconst 1, 1), (91, .ireturn, 1)] = true := by decide +kernel
def f_X12_shelf_89 (t1 : Int32) (t2 : Int32) (M : k_M) : Option (Int32 × k_M) := wrI M 101 4 t1 t2 (fun M1 => some (1, M1))
theorem m_X12_shelf_89 {Z : k_Z} {G : k_G} (C : k_C Z G RX12 cX12_shelf (true, 4, 4, 0, 0) (some .int) "shelf") (t1 : Int32) (t2 : Int32) (M : k_M) : Sm Z G emI (true, 4, 4, 0, 0) (0, 0) 89 [] [Value.int t2, Value.int t1, k_ra Z 101] M (f_X12_shelf_89 t1 t2 M) := by
  show Sm Z G emI _ _ _ _ _ _ (wrI M 101 4 t1 t2 (fun M1 => some (1, M1)))
  refine x_iast C (a := 101) (n := 4) rfl rfl (k_dg dt_X12_shelf_1 13 89 (.iastore) 1 rfl) (fun M1 => ?_)
  refine x_iconst C (v := 1) (k_dg dt_X12_shelf_1 14 90 (.iconst 1) 1 rfl) (by decide) ?_
  exact x_iret C (by decide) (by decide) (k_dg dt_X12_shelf_1 15 91 (.ireturn) 1 rfl)
def f_X12_shelf_68 (l1 : Int32) (l2 : Int32) (l3 : Int32) (t1 : Int32) (t2 : Int32) (M : k_M) : Option (Int32 × k_M) := wrI M 100 4 t1 t2 (fun M1 => if l2 = 1 then rdI M1 97 4 l3 (fun v2 => f_X12_shelf_89 l1 v2 M1) else f_X12_shelf_89 l1 0 M1)
theorem m_X12_shelf_68 {Z : k_Z} {G : k_G} (C : k_C Z G RX12 cX12_shelf (true, 4, 4, 0, 0) (some .int) "shelf") (l1 : Int32) (l2 : Int32) (l3 : Int32) (t1 : Int32) (t2 : Int32) (M : k_M) : Sm Z G emI (true, 4, 4, 0, 0) (0, 0) 68 [(0, k_ra Z 76), (1, Value.int l1), (2, Value.int l2), (3, Value.int l3)] [Value.int t2, Value.int t1, k_ra Z 100] M (f_X12_shelf_68 l1 l2 l3 t1 t2 M) := by
  show Sm Z G emI _ _ _ _ _ _ (wrI M 100 4 t1 t2 (fun M1 => if l2 = 1 then rdI M1 97 4 l3 (fun v2 => f_X12_shelf_89 l1 v2 M1) else f_X12_shelf_89 l1 0 M1))
  refine x_iast C (a := 100) (n := 4) rfl rfl (k_dg dt_X12_shelf_1 0 68 (.iastore) 1 rfl) (fun M1 => ?_)
  refine x_aload_n C (k_dg dt_X12_shelf_1 1 69 (.aload_n 0) 1 rfl) 0 rfl ?_
  refine x_getR C (a := 76) (j := 42) 101 rfl rfl (by decide) fl_RX12_83 rfl rfl rfl (k_dg dt_X12_shelf_1 2 70 (.getfield 83) 3 rfl) ?_
  refine x_iload_n C (k_dg dt_X12_shelf_1 3 73 (.iload_n 1) 1 rfl) 1 rfl ?_
  refine x_iload_n C (k_dg dt_X12_shelf_1 4 74 (.iload_n 2) 1 rfl) 2 rfl ?_
  refine x_iconst C (v := 1) (k_dg dt_X12_shelf_1 5 75 (.iconst 1) 1 rfl) (by decide) ?_
  refine x_icmp_ne C (tgt := 88) (k_dg dt_X12_shelf_1 6 76 (.if_icmp .ne 12) 3 rfl) (by decide) (fun _ => ?_) (fun _ => ?_)
  · refine x_aload_n C (k_dg dt_X12_shelf_1 7 79 (.aload_n 0) 1 rfl) 0 rfl ?_
    refine x_getR C (a := 76) (j := 38) 97 rfl rfl (by decide) fl_RX12_70 rfl rfl rfl (k_dg dt_X12_shelf_1 8 80 (.getfield 70) 3 rfl) ?_
    refine x_iload_n C (k_dg dt_X12_shelf_1 9 83 (.iload_n 3) 1 rfl) 3 rfl ?_
    refine x_iald C (a := 97) (n := 4) rfl rfl (k_dg dt_X12_shelf_1 10 84 (.iaload) 1 rfl) (fun v2 => ?_)
    refine x_goto C (tgt := 89) (k_dg dt_X12_shelf_1 11 85 (.goto 4) 3 rfl) (by decide) ?_
    refine x_lv [] rfl ?_
    exact m_X12_shelf_89 C l1 v2 M1
  · refine x_iconst C (v := 0) (k_dg dt_X12_shelf_1 12 88 (.iconst 0) 1 rfl) (by decide) ?_
    refine x_lv [] rfl ?_
    exact m_X12_shelf_89 C l1 0 M1
def f_X12_shelf_47 (l1 : Int32) (l2 : Int32) (l3 : Int32) (t1 : Int32) (t2 : Int32) (M : k_M) : Option (Int32 × k_M) := wrI M 99 4 t1 t2 (fun M1 => if l2 = 1 then rdI M1 96 4 l3 (fun v2 => f_X12_shelf_68 l1 l2 l3 l1 v2 M1) else f_X12_shelf_68 l1 l2 l3 l1 l3 M1)
theorem m_X12_shelf_47 {Z : k_Z} {G : k_G} (C : k_C Z G RX12 cX12_shelf (true, 4, 4, 0, 0) (some .int) "shelf") (l1 : Int32) (l2 : Int32) (l3 : Int32) (t1 : Int32) (t2 : Int32) (M : k_M) : Sm Z G emI (true, 4, 4, 0, 0) (0, 0) 47 [(0, k_ra Z 76), (1, Value.int l1), (2, Value.int l2), (3, Value.int l3)] [Value.int t2, Value.int t1, k_ra Z 99] M (f_X12_shelf_47 l1 l2 l3 t1 t2 M) := by
  show Sm Z G emI _ _ _ _ _ _ (wrI M 99 4 t1 t2 (fun M1 => if l2 = 1 then rdI M1 96 4 l3 (fun v2 => f_X12_shelf_68 l1 l2 l3 l1 v2 M1) else f_X12_shelf_68 l1 l2 l3 l1 l3 M1))
  refine x_iast C (a := 99) (n := 4) rfl rfl (k_dg dt_X12_shelf_0 27 47 (.iastore) 1 rfl) (fun M1 => ?_)
  refine x_aload_n C (k_dg dt_X12_shelf_0 28 48 (.aload_n 0) 1 rfl) 0 rfl ?_
  refine x_getR C (a := 76) (j := 41) 100 rfl rfl (by decide) fl_RX12_80 rfl rfl rfl (k_dg dt_X12_shelf_0 29 49 (.getfield 80) 3 rfl) ?_
  refine x_iload_n C (k_dg dt_X12_shelf_0 30 52 (.iload_n 1) 1 rfl) 1 rfl ?_
  refine x_iload_n C (k_dg dt_X12_shelf_0 31 53 (.iload_n 2) 1 rfl) 2 rfl ?_
  refine x_iconst C (v := 1) (k_dg dt_X12_shelf_0 32 54 (.iconst 1) 1 rfl) (by decide) ?_
  refine x_icmp_ne C (tgt := 67) (k_dg dt_X12_shelf_0 33 55 (.if_icmp .ne 12) 3 rfl) (by decide) (fun _ => ?_) (fun _ => ?_)
  · refine x_aload_n C (k_dg dt_X12_shelf_0 34 58 (.aload_n 0) 1 rfl) 0 rfl ?_
    refine x_getR C (a := 76) (j := 37) 96 rfl rfl (by decide) fl_RX12_67 rfl rfl rfl (k_dg dt_X12_shelf_0 35 59 (.getfield 67) 3 rfl) ?_
    refine x_iload_n C (k_dg dt_X12_shelf_0 36 62 (.iload_n 3) 1 rfl) 3 rfl ?_
    refine x_iald C (a := 96) (n := 4) rfl rfl (k_dg dt_X12_shelf_0 37 63 (.iaload) 1 rfl) (fun v2 => ?_)
    refine x_goto C (tgt := 68) (k_dg dt_X12_shelf_0 38 64 (.goto 4) 3 rfl) (by decide) ?_
    exact m_X12_shelf_68 C l1 l2 l3 l1 v2 M1
  · refine x_iload_n C (k_dg dt_X12_shelf_0 39 67 (.iload_n 3) 1 rfl) 3 rfl ?_
    exact m_X12_shelf_68 C l1 l2 l3 l1 l3 M1
def f_X12_shelf_42 (l1 : Int32) (l2 : Int32) (l3 : Int32) (t1 : Int32) (M : k_M) : Option (Int32 × k_M) := f_X12_shelf_47 l1 l2 l3 t1 (-1) M
theorem m_X12_shelf_42 {Z : k_Z} {G : k_G} (C : k_C Z G RX12 cX12_shelf (true, 4, 4, 0, 0) (some .int) "shelf") (l1 : Int32) (l2 : Int32) (l3 : Int32) (t1 : Int32) (M : k_M) : Sm Z G emI (true, 4, 4, 0, 0) (0, 0) 42 [(0, k_ra Z 76), (1, Value.int l1), (2, Value.int l2), (3, Value.int l3)] [Value.int t1, k_ra Z 99] M (f_X12_shelf_42 l1 l2 l3 t1 M) := by
  show Sm Z G emI _ _ _ _ _ _ (f_X12_shelf_47 l1 l2 l3 t1 (-1) M)
  refine x_iconst C (v := -1) (k_dg dt_X12_shelf_0 24 42 (.iconst (-1)) 1 rfl) (by decide) ?_
  refine x_goto C (tgt := 47) (k_dg dt_X12_shelf_0 25 43 (.goto 4) 3 rfl) (by decide) ?_
  exact m_X12_shelf_47 C l1 l2 l3 t1 (-1) M
def f_X12_shelf_46 (l1 : Int32) (l2 : Int32) (l3 : Int32) (t1 : Int32) (M : k_M) : Option (Int32 × k_M) := f_X12_shelf_47 l1 l2 l3 t1 l2 M
theorem m_X12_shelf_46 {Z : k_Z} {G : k_G} (C : k_C Z G RX12 cX12_shelf (true, 4, 4, 0, 0) (some .int) "shelf") (l1 : Int32) (l2 : Int32) (l3 : Int32) (t1 : Int32) (M : k_M) : Sm Z G emI (true, 4, 4, 0, 0) (0, 0) 46 [(0, k_ra Z 76), (1, Value.int l1), (2, Value.int l2), (3, Value.int l3)] [Value.int t1, k_ra Z 99] M (f_X12_shelf_46 l1 l2 l3 t1 M) := by
  show Sm Z G emI _ _ _ _ _ _ (f_X12_shelf_47 l1 l2 l3 t1 l2 M)
  refine x_iload_n C (k_dg dt_X12_shelf_0 26 46 (.iload_n 2) 1 rfl) 2 rfl ?_
  exact m_X12_shelf_47 C l1 l2 l3 t1 l2 M
def f_X12_shelf (p1 : Int32) (p2 : Int32) (p3 : Int32) (M : k_M) : Option (Int32 × k_M) := bd (f_X12_isShelf p1 M) (fun r1 M2 => if r1 = 0 then some (-1, M2) else bd (f_X12_isHeld p2 p3 M2) (fun r3 M4 => if r3 = 0 then some (-1, M4) else if p2 = 2 then f_X12_shelf_42 p1 p2 p3 p1 M4 else if p2 = 1 then rdI M4 96 4 p3 (fun v5 => if 0 ≤ v5 then f_X12_shelf_46 p1 p2 p3 p1 M4 else f_X12_shelf_42 p1 p2 p3 p1 M4) else f_X12_shelf_46 p1 p2 p3 p1 M4))
theorem m_X12_shelf_0 {Z : k_Z} {G : k_G} (C : k_C Z G RX12 cX12_shelf (true, 4, 4, 0, 0) (some .int) "shelf") (p1 : Int32) (p2 : Int32) (p3 : Int32) (M : k_M) : Sm Z G emI (true, 4, 4, 0, 0) (0, 0) 0 [(0, k_ra Z 76), (1, Value.int p1), (2, Value.int p2), (3, Value.int p3)] [] M (f_X12_shelf p1 p2 p3 M) := by
  show Sm Z G emI _ _ _ _ _ _ (bd (f_X12_isShelf p1 M) (fun r1 M2 => if r1 = 0 then some (-1, M2) else bd (f_X12_isHeld p2 p3 M2) (fun r3 M4 => if r3 = 0 then some (-1, M4) else if p2 = 2 then f_X12_shelf_42 p1 p2 p3 p1 M4 else if p2 = 1 then rdI M4 96 4 p3 (fun v5 => if 0 ≤ v5 then f_X12_shelf_46 p1 p2 p3 p1 M4 else f_X12_shelf_42 p1 p2 p3 p1 M4) else f_X12_shelf_46 p1 p2 p3 p1 M4)))
  refine x_iload_n C (k_dg dt_X12_shelf_0 0 0 (.iload_n 1) 1 rfl) 1 rfl ?_
  refine x_callS C (vs := [Value.int p1]) (rest := []) (c_X12_isShelf C.2.2.2.2.2.2.2.2.2 G.2.1 p1 M) cy_X12_isShelf lk_RX12_303 stt_X12_isShelf (by decide) (by decide) (by decide) (by decide) rfl rfl (Nat.le_of_ble_eq_true rfl) (k_dg dt_X12_shelf_0 1 1 (.invokestatic 303) 3 rfl) (fun r1 M2 => ?_)
  show Sm Z G _ _ _ _ [(0, k_ra Z 76), (1, Value.int p1), (2, Value.int p2), (3, Value.int p3)] [Value.int r1] _ _
  refine x_if_eq C (tgt := 16) (k_dg dt_X12_shelf_0 2 4 (.ifCond .eq 12) 3 rfl) (by decide) (fun _ => ?_) (fun _ => ?_)
  · refine x_iconst C (v := -1) (k_dg dt_X12_shelf_0 8 16 (.iconst (-1)) 1 rfl) (by decide) ?_
    exact x_iret C (by decide) (by decide) (k_dg dt_X12_shelf_0 9 17 (.ireturn) 1 rfl)
  · refine x_aload_n C (k_dg dt_X12_shelf_0 3 7 (.aload_n 0) 1 rfl) 0 rfl ?_
    refine x_iload_n C (k_dg dt_X12_shelf_0 4 8 (.iload_n 2) 1 rfl) 2 rfl ?_
    refine x_iload_n C (k_dg dt_X12_shelf_0 5 9 (.iload_n 3) 1 rfl) 3 rfl ?_
    refine x_callV C (a := 76) (kd := 10) (vs := [Value.int p2, Value.int p3]) (rest := []) rfl rfl (by decide) (fun r hr => by cases hr; rfl) (c_X12_isHeld C.2.2.2.2.2.2.2.2.2 G.2.1 p2 p3 M2) cy_X12_isHeld lk_RX12_331 im_X12_isHeld se_X12_isHeld (by decide) (by decide) (by decide) (by decide) rfl rfl (Nat.le_of_ble_eq_true rfl) (k_dg dt_X12_shelf_0 6 10 (.invokevirtual 331) 3 rfl) (fun r3 M4 => ?_)
    show Sm Z G _ _ _ _ [(0, k_ra Z 76), (1, Value.int p1), (2, Value.int p2), (3, Value.int p3)] [Value.int r3] _ _
    refine x_if_ne C (tgt := 18) (k_dg dt_X12_shelf_0 7 13 (.ifCond .ne 5) 3 rfl) (by decide) (fun _ => ?_) (fun _ => ?_)
    · refine x_iconst C (v := -1) (k_dg dt_X12_shelf_0 8 16 (.iconst (-1)) 1 rfl) (by decide) ?_
      exact x_iret C (by decide) (by decide) (k_dg dt_X12_shelf_0 9 17 (.ireturn) 1 rfl)
    · refine x_aload_n C (k_dg dt_X12_shelf_0 10 18 (.aload_n 0) 1 rfl) 0 rfl ?_
      refine x_getR C (a := 76) (j := 40) 99 rfl rfl (by decide) fl_RX12_77 rfl rfl rfl (k_dg dt_X12_shelf_0 11 19 (.getfield 77) 3 rfl) ?_
      refine x_iload_n C (k_dg dt_X12_shelf_0 12 22 (.iload_n 1) 1 rfl) 1 rfl ?_
      refine x_iload_n C (k_dg dt_X12_shelf_0 13 23 (.iload_n 2) 1 rfl) 2 rfl ?_
      refine x_iconst C (v := 2) (k_dg dt_X12_shelf_0 14 24 (.iconst 2) 1 rfl) (by decide) ?_
      refine x_icmp_eq C (tgt := 42) (k_dg dt_X12_shelf_0 15 25 (.if_icmp .eq 17) 3 rfl) (by decide) (fun _ => ?_) (fun _ => ?_)
      · exact m_X12_shelf_42 C p1 p2 p3 p1 M4
      · refine x_iload_n C (k_dg dt_X12_shelf_0 16 28 (.iload_n 2) 1 rfl) 2 rfl ?_
        refine x_iconst C (v := 1) (k_dg dt_X12_shelf_0 17 29 (.iconst 1) 1 rfl) (by decide) ?_
        refine x_icmp_ne C (tgt := 46) (k_dg dt_X12_shelf_0 18 30 (.if_icmp .ne 16) 3 rfl) (by decide) (fun _ => ?_) (fun _ => ?_)
        · refine x_aload_n C (k_dg dt_X12_shelf_0 19 33 (.aload_n 0) 1 rfl) 0 rfl ?_
          refine x_getR C (a := 76) (j := 37) 96 rfl rfl (by decide) fl_RX12_67 rfl rfl rfl (k_dg dt_X12_shelf_0 20 34 (.getfield 67) 3 rfl) ?_
          refine x_iload_n C (k_dg dt_X12_shelf_0 21 37 (.iload_n 3) 1 rfl) 3 rfl ?_
          refine x_iald C (a := 96) (n := 4) rfl rfl (k_dg dt_X12_shelf_0 22 38 (.iaload) 1 rfl) (fun v5 => ?_)
          refine x_if_ge C (tgt := 46) (k_dg dt_X12_shelf_0 23 39 (.ifCond .ge 7) 3 rfl) (by decide) (fun _ => ?_) (fun _ => ?_)
          · exact m_X12_shelf_46 C p1 p2 p3 p1 M4
          · exact m_X12_shelf_42 C p1 p2 p3 p1 M4
        · exact m_X12_shelf_46 C p1 p2 p3 p1 M4
theorem c_X12_shelf {Z : k_Z} (hg : k_Gd Z) (l : Launch) (p1 : Int32) (p2 : Int32) (p3 : Int32) (M : k_M) : Con true Z l yX12_shelf cX12_shelf 4 (some .int) 4 0 0 emI [k_ra Z 76, Value.int p1, Value.int p2, Value.int p3] M (f_X12_shelf p1 p2 p3 M) := k_con hg (by decide) (Nat.le_of_ble_eq_true rfl) (fun G hl C => m_X12_shelf_0 C p1 p2 p3 M)
theorem dt_X12_kindOn_0 : k_dec cX12_kindOn [(0, .aload_n 0, 1), (1, .getfield 77, 3), (4, .iload_n 1, 1), (5, .iaload, 1), (6, .ifCond .eq 19, 3), (9, .aload_n 0, 1), (10, .getfield 77, 3), (13, .iload_n 1, 1), (14, .iaload, 1), (15, .ifCond .ge 7, 3), (18, .iconst (-1), 1), (19, .goto 5, 3), (22, .bipush 9, 2), (24, .ireturn, 1), (25, .aload_n 0, 1), (26, .aload_n 0, 1), (27, .getfield 80, 3), (30, .iload_n 1, 1), (31, .iaload, 1), (32, .invokevirtual 316, 3), (35, .ifCond .eq 19, 3), (38, .aload_n 0, 1), (39, .getfield 22, 3), (42, .iconst 3, 1), (43, .aload_n 0, 1), (44, .getfield 80, 3), (47, .iload_n 1, 1), (48, .iaload, 1), (49, .imul, 1), (50, .iaload, 1), (51, .goto 4, 3), (54, .iconst (-1), 1), (55, .ireturn, 1)] = true := by decide +kernel
def f_X12_kindOn (p1 : Int32) (M : k_M) : Option (Int32 × k_M) := rdI M 99 4 p1 (fun v1 => if v1 = 0 then rdI M 100 4 p1 (fun v2 => bd (f_X12_isRule v2 M) (fun r3 M4 => if r3 = 0 then some (-1, M4) else rdI M4 100 4 p1 (fun v5 => rdI M4 81 12 (3 * v5) (fun v6 => some (v6, M4))))) else rdI M 99 4 p1 (fun v7 => if 0 ≤ v7 then some (9, M) else some (-1, M)))
theorem m_X12_kindOn_0 {Z : k_Z} {G : k_G} (C : k_C Z G RX12 cX12_kindOn (true, 2, 3, 0, 0) (some .int) "kindOn") (p1 : Int32) (M : k_M) : Sm Z G emI (true, 2, 3, 0, 0) (0, 0) 0 [(0, k_ra Z 76), (1, Value.int p1)] [] M (f_X12_kindOn p1 M) := by
  show Sm Z G emI _ _ _ _ _ _ (rdI M 99 4 p1 (fun v1 => if v1 = 0 then rdI M 100 4 p1 (fun v2 => bd (f_X12_isRule v2 M) (fun r3 M4 => if r3 = 0 then some (-1, M4) else rdI M4 100 4 p1 (fun v5 => rdI M4 81 12 (3 * v5) (fun v6 => some (v6, M4))))) else rdI M 99 4 p1 (fun v7 => if 0 ≤ v7 then some (9, M) else some (-1, M))))
  refine x_aload_n C (k_dg dt_X12_kindOn_0 0 0 (.aload_n 0) 1 rfl) 0 rfl ?_
  refine x_getR C (a := 76) (j := 40) 99 rfl rfl (by decide) fl_RX12_77 rfl rfl rfl (k_dg dt_X12_kindOn_0 1 1 (.getfield 77) 3 rfl) ?_
  refine x_iload_n C (k_dg dt_X12_kindOn_0 2 4 (.iload_n 1) 1 rfl) 1 rfl ?_
  refine x_iald C (a := 99) (n := 4) rfl rfl (k_dg dt_X12_kindOn_0 3 5 (.iaload) 1 rfl) (fun v1 => ?_)
  refine x_if_eq C (tgt := 25) (k_dg dt_X12_kindOn_0 4 6 (.ifCond .eq 19) 3 rfl) (by decide) (fun _ => ?_) (fun _ => ?_)
  · refine x_aload_n C (k_dg dt_X12_kindOn_0 14 25 (.aload_n 0) 1 rfl) 0 rfl ?_
    refine x_aload_n C (k_dg dt_X12_kindOn_0 15 26 (.aload_n 0) 1 rfl) 0 rfl ?_
    refine x_getR C (a := 76) (j := 41) 100 rfl rfl (by decide) fl_RX12_80 rfl rfl rfl (k_dg dt_X12_kindOn_0 16 27 (.getfield 80) 3 rfl) ?_
    refine x_iload_n C (k_dg dt_X12_kindOn_0 17 30 (.iload_n 1) 1 rfl) 1 rfl ?_
    refine x_iald C (a := 100) (n := 4) rfl rfl (k_dg dt_X12_kindOn_0 18 31 (.iaload) 1 rfl) (fun v2 => ?_)
    refine x_callV C (a := 76) (kd := 10) (vs := [Value.int v2]) (rest := []) rfl rfl (by decide) (fun r hr => by cases hr; rfl) (c_X12_isRule C.2.2.2.2.2.2.2.2.2 G.2.1 v2 M) cy_X12_isRule lk_RX12_316 im_X12_isRule se_X12_isRule (by decide) (by decide) (by decide) (by decide) rfl rfl (Nat.le_of_ble_eq_true rfl) (k_dg dt_X12_kindOn_0 19 32 (.invokevirtual 316) 3 rfl) (fun r3 M4 => ?_)
    show Sm Z G _ _ _ _ [(0, k_ra Z 76), (1, Value.int p1)] [Value.int r3] _ _
    refine x_if_eq C (tgt := 54) (k_dg dt_X12_kindOn_0 20 35 (.ifCond .eq 19) 3 rfl) (by decide) (fun _ => ?_) (fun _ => ?_)
    · refine x_iconst C (v := -1) (k_dg dt_X12_kindOn_0 31 54 (.iconst (-1)) 1 rfl) (by decide) ?_
      exact x_iret C (by decide) (by decide) (k_dg dt_X12_kindOn_0 32 55 (.ireturn) 1 rfl)
    · refine x_aload_n C (k_dg dt_X12_kindOn_0 21 38 (.aload_n 0) 1 rfl) 0 rfl ?_
      refine x_getR C (a := 76) (j := 9) 81 rfl rfl (by decide) fl_RX12_22 rfl rfl rfl (k_dg dt_X12_kindOn_0 22 39 (.getfield 22) 3 rfl) ?_
      refine x_iconst C (v := 3) (k_dg dt_X12_kindOn_0 23 42 (.iconst 3) 1 rfl) (by decide) ?_
      refine x_aload_n C (k_dg dt_X12_kindOn_0 24 43 (.aload_n 0) 1 rfl) 0 rfl ?_
      refine x_getR C (a := 76) (j := 41) 100 rfl rfl (by decide) fl_RX12_80 rfl rfl rfl (k_dg dt_X12_kindOn_0 25 44 (.getfield 80) 3 rfl) ?_
      refine x_iload_n C (k_dg dt_X12_kindOn_0 26 47 (.iload_n 1) 1 rfl) 1 rfl ?_
      refine x_iald C (a := 100) (n := 4) rfl rfl (k_dg dt_X12_kindOn_0 27 48 (.iaload) 1 rfl) (fun v5 => ?_)
      refine x_imul C (k_dg dt_X12_kindOn_0 28 49 (.imul) 1 rfl) ?_
      refine x_iald C (a := 81) (n := 12) rfl rfl (k_dg dt_X12_kindOn_0 29 50 (.iaload) 1 rfl) (fun v6 => ?_)
      refine x_goto C (tgt := 55) (k_dg dt_X12_kindOn_0 30 51 (.goto 4) 3 rfl) (by decide) ?_
      exact x_iret C (by decide) (by decide) (k_dg dt_X12_kindOn_0 32 55 (.ireturn) 1 rfl)
  · refine x_aload_n C (k_dg dt_X12_kindOn_0 5 9 (.aload_n 0) 1 rfl) 0 rfl ?_
    refine x_getR C (a := 76) (j := 40) 99 rfl rfl (by decide) fl_RX12_77 rfl rfl rfl (k_dg dt_X12_kindOn_0 6 10 (.getfield 77) 3 rfl) ?_
    refine x_iload_n C (k_dg dt_X12_kindOn_0 7 13 (.iload_n 1) 1 rfl) 1 rfl ?_
    refine x_iald C (a := 99) (n := 4) rfl rfl (k_dg dt_X12_kindOn_0 8 14 (.iaload) 1 rfl) (fun v7 => ?_)
    refine x_if_ge C (tgt := 22) (k_dg dt_X12_kindOn_0 9 15 (.ifCond .ge 7) 3 rfl) (by decide) (fun _ => ?_) (fun _ => ?_)
    · refine x_bipush C (v := 9) (k_dg dt_X12_kindOn_0 12 22 (.bipush 9) 2 rfl) (by decide) ?_
      exact x_iret C (by decide) (by decide) (k_dg dt_X12_kindOn_0 13 24 (.ireturn) 1 rfl)
    · refine x_iconst C (v := -1) (k_dg dt_X12_kindOn_0 10 18 (.iconst (-1)) 1 rfl) (by decide) ?_
      refine x_goto C (tgt := 24) (k_dg dt_X12_kindOn_0 11 19 (.goto 5) 3 rfl) (by decide) ?_
      exact x_iret C (by decide) (by decide) (k_dg dt_X12_kindOn_0 13 24 (.ireturn) 1 rfl)
theorem c_X12_kindOn {Z : k_Z} (hg : k_Gd Z) (l : Launch) (p1 : Int32) (M : k_M) : Con true Z l yX12_kindOn cX12_kindOn 2 (some .int) 3 0 0 emI [k_ra Z 76, Value.int p1] M (f_X12_kindOn p1 M) := k_con hg (by decide) (Nat.le_of_ble_eq_true rfl) (fun G hl C => m_X12_kindOn_0 C p1 M)
theorem dt_X12_isUnder_0 : k_dec cX12_isUnder [(0, .iload_n 1, 1), (1, .ifCond .eq 28, 3), (4, .iload_n 1, 1), (5, .iload_n 0, 1), (6, .if_icmp .eq 23, 3), (9, .iload_n 1, 1), (10, .iconst 2, 1), (11, .if_icmp .ne 8, 3), (14, .iload_n 0, 1), (15, .iconst 4, 1), (16, .if_icmp .eq 13, 3), (19, .iload_n 1, 1), (20, .iconst 3, 1), (21, .if_icmp .ne 12, 3), (24, .iload_n 0, 1), (25, .iconst 5, 1), (26, .if_icmp .ne 7, 3), (29, .iconst 1, 1), (30, .goto 4, 3), (33, .iconst 0, 1), (34, .ireturn, 1)] = true := by decide +kernel
def f_X12_isUnder_29 (M : k_M) : Option (Int32 × k_M) := some (1, M)
theorem m_X12_isUnder_29 {Z : k_Z} {G : k_G} (C : k_C Z G RX12 cX12_isUnder (true, 2, 1, 0, 0) (some .boolean) "isUnder") (M : k_M) : Sm Z G emI (true, 2, 1, 0, 0) (0, 0) 29 [] [] M (f_X12_isUnder_29 M) := by
  show Sm Z G emI _ _ _ _ _ _ (some (1, M))
  refine x_iconst C (v := 1) (k_dg dt_X12_isUnder_0 17 29 (.iconst 1) 1 rfl) (by decide) ?_
  refine x_goto C (tgt := 34) (k_dg dt_X12_isUnder_0 18 30 (.goto 4) 3 rfl) (by decide) ?_
  exact x_zret C (by decide) (by decide) rfl (k_dg dt_X12_isUnder_0 20 34 (.ireturn) 1 rfl)
def f_X12_isUnder_19 (l0 : Int32) (l1 : Int32) (M : k_M) : Option (Int32 × k_M) := if l1 = 3 then if l0 = 5 then f_X12_isUnder_29 M else some (0, M) else some (0, M)
theorem m_X12_isUnder_19 {Z : k_Z} {G : k_G} (C : k_C Z G RX12 cX12_isUnder (true, 2, 1, 0, 0) (some .boolean) "isUnder") (l0 : Int32) (l1 : Int32) (M : k_M) : Sm Z G emI (true, 2, 1, 0, 0) (0, 0) 19 [(0, Value.int l0), (1, Value.int l1)] [] M (f_X12_isUnder_19 l0 l1 M) := by
  show Sm Z G emI _ _ _ _ _ _ (if l1 = 3 then if l0 = 5 then f_X12_isUnder_29 M else some (0, M) else some (0, M))
  refine x_iload_n C (k_dg dt_X12_isUnder_0 11 19 (.iload_n 1) 1 rfl) 1 rfl ?_
  refine x_iconst C (v := 3) (k_dg dt_X12_isUnder_0 12 20 (.iconst 3) 1 rfl) (by decide) ?_
  refine x_icmp_ne C (tgt := 33) (k_dg dt_X12_isUnder_0 13 21 (.if_icmp .ne 12) 3 rfl) (by decide) (fun _ => ?_) (fun _ => ?_)
  · refine x_iload_n C (k_dg dt_X12_isUnder_0 14 24 (.iload_n 0) 1 rfl) 0 rfl ?_
    refine x_iconst C (v := 5) (k_dg dt_X12_isUnder_0 15 25 (.iconst 5) 1 rfl) (by decide) ?_
    refine x_icmp_ne C (tgt := 33) (k_dg dt_X12_isUnder_0 16 26 (.if_icmp .ne 7) 3 rfl) (by decide) (fun _ => ?_) (fun _ => ?_)
    · refine x_lv [] rfl ?_
      exact m_X12_isUnder_29 C M
    · refine x_iconst C (v := 0) (k_dg dt_X12_isUnder_0 19 33 (.iconst 0) 1 rfl) (by decide) ?_
      exact x_zret C (by decide) (by decide) rfl (k_dg dt_X12_isUnder_0 20 34 (.ireturn) 1 rfl)
  · refine x_iconst C (v := 0) (k_dg dt_X12_isUnder_0 19 33 (.iconst 0) 1 rfl) (by decide) ?_
    exact x_zret C (by decide) (by decide) rfl (k_dg dt_X12_isUnder_0 20 34 (.ireturn) 1 rfl)
def f_X12_isUnder (p1 : Int32) (p2 : Int32) (M : k_M) : Option (Int32 × k_M) := if p2 = 0 then f_X12_isUnder_29 M else if p2 = p1 then f_X12_isUnder_29 M else if p2 = 2 then if p1 = 4 then f_X12_isUnder_29 M else f_X12_isUnder_19 p1 p2 M else f_X12_isUnder_19 p1 p2 M
theorem m_X12_isUnder_0 {Z : k_Z} {G : k_G} (C : k_C Z G RX12 cX12_isUnder (true, 2, 1, 0, 0) (some .boolean) "isUnder") (p1 : Int32) (p2 : Int32) (M : k_M) : Sm Z G emI (true, 2, 1, 0, 0) (0, 0) 0 [(0, Value.int p1), (1, Value.int p2)] [] M (f_X12_isUnder p1 p2 M) := by
  show Sm Z G emI _ _ _ _ _ _ (if p2 = 0 then f_X12_isUnder_29 M else if p2 = p1 then f_X12_isUnder_29 M else if p2 = 2 then if p1 = 4 then f_X12_isUnder_29 M else f_X12_isUnder_19 p1 p2 M else f_X12_isUnder_19 p1 p2 M)
  refine x_iload_n C (k_dg dt_X12_isUnder_0 0 0 (.iload_n 1) 1 rfl) 1 rfl ?_
  refine x_if_eq C (tgt := 29) (k_dg dt_X12_isUnder_0 1 1 (.ifCond .eq 28) 3 rfl) (by decide) (fun _ => ?_) (fun _ => ?_)
  · refine x_lv [] rfl ?_
    exact m_X12_isUnder_29 C M
  · refine x_iload_n C (k_dg dt_X12_isUnder_0 2 4 (.iload_n 1) 1 rfl) 1 rfl ?_
    refine x_iload_n C (k_dg dt_X12_isUnder_0 3 5 (.iload_n 0) 1 rfl) 0 rfl ?_
    refine x_icmp_eq C (tgt := 29) (k_dg dt_X12_isUnder_0 4 6 (.if_icmp .eq 23) 3 rfl) (by decide) (fun _ => ?_) (fun _ => ?_)
    · refine x_lv [] rfl ?_
      exact m_X12_isUnder_29 C M
    · refine x_iload_n C (k_dg dt_X12_isUnder_0 5 9 (.iload_n 1) 1 rfl) 1 rfl ?_
      refine x_iconst C (v := 2) (k_dg dt_X12_isUnder_0 6 10 (.iconst 2) 1 rfl) (by decide) ?_
      refine x_icmp_ne C (tgt := 19) (k_dg dt_X12_isUnder_0 7 11 (.if_icmp .ne 8) 3 rfl) (by decide) (fun _ => ?_) (fun _ => ?_)
      · refine x_iload_n C (k_dg dt_X12_isUnder_0 8 14 (.iload_n 0) 1 rfl) 0 rfl ?_
        refine x_iconst C (v := 4) (k_dg dt_X12_isUnder_0 9 15 (.iconst 4) 1 rfl) (by decide) ?_
        refine x_icmp_eq C (tgt := 29) (k_dg dt_X12_isUnder_0 10 16 (.if_icmp .eq 13) 3 rfl) (by decide) (fun _ => ?_) (fun _ => ?_)
        · refine x_lv [] rfl ?_
          exact m_X12_isUnder_29 C M
        · exact m_X12_isUnder_19 C p1 p2 M
      · exact m_X12_isUnder_19 C p1 p2 M
theorem c_X12_isUnder {Z : k_Z} (hg : k_Gd Z) (l : Launch) (p1 : Int32) (p2 : Int32) (M : k_M) : Con true Z l yX12_isUnder cX12_isUnder 2 (some .boolean) 1 0 0 emI [Value.int p1, Value.int p2] M (f_X12_isUnder p1 p2 M) := k_con hg (by decide) (Nat.le_of_ble_eq_true rfl) (fun G hl C => m_X12_isUnder_0 C p1 p2 M)
theorem dt_X12_taken_0 : k_dec cX12_taken [(0, .iload_n 1, 1), (1, .invokestatic 303, 3), (4, .ifCond .eq 23, 3), (7, .iload_n 2, 1), (8, .iconst 0, 1), (9, .iconst 5, 1), (10, .invokestatic 99, 3), (13, .ifCond .ne 16, 3), (16, .iload_n 2, 1), (17, .bipush 10, 2), (19, .bipush 13, 2), (21, .invokestatic 99, 3), (24, .ifCond .ne 5, 3), (27, .iconst (-1), 1), (28, .ireturn, 1), (29, .aload_n 0, 1), (30, .iload_n 1, 1), (31, .invokevirtual 334, 3), (34, .istore_n 3, 1), (35, .iload_n 3, 1), (36, .ifCond .ge 6, 3), (39, .bipush (-11), 2), (41, .ireturn, 1), (42, .iload_n 3, 1), (43, .bipush 9, 2), (45, .if_icmp .ne 28, 3), (48, .iload_n 2, 1), (49, .bipush 10, 2), (51, .aload_n 0, 1), (52, .getfield 80, 3), (55, .iload_n 1, 1), (56, .iaload, 1), (57, .iadd, 1), (58, .if_icmp .ne 12, 3), (61, .aload_n 0, 1), (62, .getfield 83, 3), (65, .iload_n 1, 1), (66, .iaload, 1), (67, .goto 5, 3), (70, .bipush (-13), 2)] = true := by decide +kernel
theorem dt_X12_taken_1 : k_dec cX12_taken [(72, .ireturn, 1), (73, .iload_n 2, 1), (74, .bipush 10, 2), (76, .if_icmp .ge 20, 3), (79, .iload_n 3, 1), (80, .iload_n 2, 1), (81, .invokestatic 337, 3), (84, .ifCond .eq 12, 3), (87, .aload_n 0, 1), (88, .getfield 80, 3), (91, .iload_n 1, 1), (92, .iaload, 1), (93, .goto 5, 3), (96, .bipush (-13), 2), (98, .ireturn, 1)] = true := by decide +kernel
def f_X12_taken_96 (M : k_M) : Option (Int32 × k_M) := some (-13, M)
theorem m_X12_taken_96 {Z : k_Z} {G : k_G} (C : k_C Z G RX12 cX12_taken (true, 4, 4, 0, 0) (some .int) "taken") (M : k_M) : Sm Z G emI (true, 4, 4, 0, 0) (0, 0) 96 [] [] M (f_X12_taken_96 M) := by
  show Sm Z G emI _ _ _ _ _ _ (some (-13, M))
  refine x_bipush C (v := -13) (k_dg dt_X12_taken_1 13 96 (.bipush (-13)) 2 rfl) (by decide) ?_
  exact x_iret C (by decide) (by decide) (k_dg dt_X12_taken_1 14 98 (.ireturn) 1 rfl)
def f_X12_taken_29 (l1 : Int32) (l2 : Int32) (M : k_M) : Option (Int32 × k_M) := bd (f_X12_kindOn l1 M) (fun r1 M2 => if 0 ≤ r1 then if r1 = 9 then rdI M2 100 4 l1 (fun v6 => if l2 = (10 + v6) then rdI M2 101 4 l1 (fun v7 => some (v7, M2)) else some (-13, M2)) else if 10 ≤ l2 then f_X12_taken_96 M2 else bd (f_X12_isUnder r1 l2 M2) (fun r3 M4 => if r3 = 0 then f_X12_taken_96 M4 else rdI M4 100 4 l1 (fun v5 => some (v5, M4))) else some (-11, M2))
theorem m_X12_taken_29 {Z : k_Z} {G : k_G} (C : k_C Z G RX12 cX12_taken (true, 4, 4, 0, 0) (some .int) "taken") (l1 : Int32) (l2 : Int32) (M : k_M) : Sm Z G emI (true, 4, 4, 0, 0) (0, 0) 29 [(0, k_ra Z 76), (1, Value.int l1), (2, Value.int l2)] [] M (f_X12_taken_29 l1 l2 M) := by
  show Sm Z G emI _ _ _ _ _ _ (bd (f_X12_kindOn l1 M) (fun r1 M2 => if 0 ≤ r1 then if r1 = 9 then rdI M2 100 4 l1 (fun v6 => if l2 = (10 + v6) then rdI M2 101 4 l1 (fun v7 => some (v7, M2)) else some (-13, M2)) else if 10 ≤ l2 then f_X12_taken_96 M2 else bd (f_X12_isUnder r1 l2 M2) (fun r3 M4 => if r3 = 0 then f_X12_taken_96 M4 else rdI M4 100 4 l1 (fun v5 => some (v5, M4))) else some (-11, M2)))
  refine x_aload_n C (k_dg dt_X12_taken_0 15 29 (.aload_n 0) 1 rfl) 0 rfl ?_
  refine x_iload_n C (k_dg dt_X12_taken_0 16 30 (.iload_n 1) 1 rfl) 1 rfl ?_
  refine x_callV C (a := 76) (kd := 10) (vs := [Value.int l1]) (rest := []) rfl rfl (by decide) (fun r hr => by cases hr; rfl) (c_X12_kindOn C.2.2.2.2.2.2.2.2.2 G.2.1 l1 M) cy_X12_kindOn lk_RX12_334 im_X12_kindOn se_X12_kindOn (by decide) (by decide) (by decide) (by decide) rfl rfl (Nat.le_of_ble_eq_true rfl) (k_dg dt_X12_taken_0 17 31 (.invokevirtual 334) 3 rfl) (fun r1 M2 => ?_)
  show Sm Z G _ _ _ _ [(0, k_ra Z 76), (1, Value.int l1), (2, Value.int l2)] [Value.int r1] _ _
  refine x_istore_n C (lv' := [(3, Value.int r1), (0, k_ra Z 76), (1, Value.int l1), (2, Value.int l2)]) (k_dg dt_X12_taken_0 18 34 (.istore_n 3) 1 rfl) (by decide) rfl ?_
  refine x_iload_n C (k_dg dt_X12_taken_0 19 35 (.iload_n 3) 1 rfl) 0 rfl ?_
  refine x_if_ge C (tgt := 42) (k_dg dt_X12_taken_0 20 36 (.ifCond .ge 6) 3 rfl) (by decide) (fun _ => ?_) (fun _ => ?_)
  · refine x_iload_n C (k_dg dt_X12_taken_0 23 42 (.iload_n 3) 1 rfl) 0 rfl ?_
    refine x_bipush C (v := 9) (k_dg dt_X12_taken_0 24 43 (.bipush 9) 2 rfl) (by decide) ?_
    refine x_icmp_ne C (tgt := 73) (k_dg dt_X12_taken_0 25 45 (.if_icmp .ne 28) 3 rfl) (by decide) (fun _ => ?_) (fun _ => ?_)
    · refine x_iload_n C (k_dg dt_X12_taken_0 26 48 (.iload_n 2) 1 rfl) 3 rfl ?_
      refine x_bipush C (v := 10) (k_dg dt_X12_taken_0 27 49 (.bipush 10) 2 rfl) (by decide) ?_
      refine x_aload_n C (k_dg dt_X12_taken_0 28 51 (.aload_n 0) 1 rfl) 1 rfl ?_
      refine x_getR C (a := 76) (j := 41) 100 rfl rfl (by decide) fl_RX12_80 rfl rfl rfl (k_dg dt_X12_taken_0 29 52 (.getfield 80) 3 rfl) ?_
      refine x_iload_n C (k_dg dt_X12_taken_0 30 55 (.iload_n 1) 1 rfl) 2 rfl ?_
      refine x_iald C (a := 100) (n := 4) rfl rfl (k_dg dt_X12_taken_0 31 56 (.iaload) 1 rfl) (fun v6 => ?_)
      refine x_iadd C (k_dg dt_X12_taken_0 32 57 (.iadd) 1 rfl) ?_
      refine x_icmp_ne C (tgt := 70) (k_dg dt_X12_taken_0 33 58 (.if_icmp .ne 12) 3 rfl) (by decide) (fun _ => ?_) (fun _ => ?_)
      · refine x_aload_n C (k_dg dt_X12_taken_0 34 61 (.aload_n 0) 1 rfl) 1 rfl ?_
        refine x_getR C (a := 76) (j := 42) 101 rfl rfl (by decide) fl_RX12_83 rfl rfl rfl (k_dg dt_X12_taken_0 35 62 (.getfield 83) 3 rfl) ?_
        refine x_iload_n C (k_dg dt_X12_taken_0 36 65 (.iload_n 1) 1 rfl) 2 rfl ?_
        refine x_iald C (a := 101) (n := 4) rfl rfl (k_dg dt_X12_taken_0 37 66 (.iaload) 1 rfl) (fun v7 => ?_)
        refine x_goto C (tgt := 72) (k_dg dt_X12_taken_0 38 67 (.goto 5) 3 rfl) (by decide) ?_
        exact x_iret C (by decide) (by decide) (k_dg dt_X12_taken_1 0 72 (.ireturn) 1 rfl)
      · refine x_bipush C (v := -13) (k_dg dt_X12_taken_0 39 70 (.bipush (-13)) 2 rfl) (by decide) ?_
        exact x_iret C (by decide) (by decide) (k_dg dt_X12_taken_1 0 72 (.ireturn) 1 rfl)
    · refine x_iload_n C (k_dg dt_X12_taken_1 1 73 (.iload_n 2) 1 rfl) 3 rfl ?_
      refine x_bipush C (v := 10) (k_dg dt_X12_taken_1 2 74 (.bipush 10) 2 rfl) (by decide) ?_
      refine x_icmp_ge C (tgt := 96) (k_dg dt_X12_taken_1 3 76 (.if_icmp .ge 20) 3 rfl) (by decide) (fun _ => ?_) (fun _ => ?_)
      · refine x_lv [] rfl ?_
        exact m_X12_taken_96 C M2
      · refine x_iload_n C (k_dg dt_X12_taken_1 4 79 (.iload_n 3) 1 rfl) 0 rfl ?_
        refine x_iload_n C (k_dg dt_X12_taken_1 5 80 (.iload_n 2) 1 rfl) 3 rfl ?_
        refine x_callS C (vs := [Value.int r1, Value.int l2]) (rest := []) (c_X12_isUnder C.2.2.2.2.2.2.2.2.2 G.2.1 r1 l2 M2) cy_X12_isUnder lk_RX12_337 stt_X12_isUnder (by decide) (by decide) (by decide) (by decide) rfl rfl (Nat.le_of_ble_eq_true rfl) (k_dg dt_X12_taken_1 6 81 (.invokestatic 337) 3 rfl) (fun r3 M4 => ?_)
        show Sm Z G _ _ _ _ [(3, Value.int r1), (0, k_ra Z 76), (1, Value.int l1), (2, Value.int l2)] [Value.int r3] _ _
        refine x_if_eq C (tgt := 96) (k_dg dt_X12_taken_1 7 84 (.ifCond .eq 12) 3 rfl) (by decide) (fun _ => ?_) (fun _ => ?_)
        · refine x_lv [] rfl ?_
          exact m_X12_taken_96 C M4
        · refine x_aload_n C (k_dg dt_X12_taken_1 8 87 (.aload_n 0) 1 rfl) 1 rfl ?_
          refine x_getR C (a := 76) (j := 41) 100 rfl rfl (by decide) fl_RX12_80 rfl rfl rfl (k_dg dt_X12_taken_1 9 88 (.getfield 80) 3 rfl) ?_
          refine x_iload_n C (k_dg dt_X12_taken_1 10 91 (.iload_n 1) 1 rfl) 2 rfl ?_
          refine x_iald C (a := 100) (n := 4) rfl rfl (k_dg dt_X12_taken_1 11 92 (.iaload) 1 rfl) (fun v5 => ?_)
          refine x_goto C (tgt := 98) (k_dg dt_X12_taken_1 12 93 (.goto 5) 3 rfl) (by decide) ?_
          exact x_iret C (by decide) (by decide) (k_dg dt_X12_taken_1 14 98 (.ireturn) 1 rfl)
  · refine x_bipush C (v := -11) (k_dg dt_X12_taken_0 21 39 (.bipush (-11)) 2 rfl) (by decide) ?_
    exact x_iret C (by decide) (by decide) (k_dg dt_X12_taken_0 22 41 (.ireturn) 1 rfl)
def f_X12_taken (p1 : Int32) (p2 : Int32) (M : k_M) : Option (Int32 × k_M) := bd (f_X12_isShelf p1 M) (fun r1 M2 => if r1 = 0 then some (-1, M2) else bd (f_X12_in p2 0 5 M2) (fun r3 M4 => if r3 = 0 then bd (f_X12_in p2 10 13 M4) (fun r5 M6 => if r5 = 0 then some (-1, M6) else f_X12_taken_29 p1 p2 M6) else f_X12_taken_29 p1 p2 M4))
theorem m_X12_taken_0 {Z : k_Z} {G : k_G} (C : k_C Z G RX12 cX12_taken (true, 4, 4, 0, 0) (some .int) "taken") (p1 : Int32) (p2 : Int32) (M : k_M) : Sm Z G emI (true, 4, 4, 0, 0) (0, 0) 0 [(0, k_ra Z 76), (1, Value.int p1), (2, Value.int p2)] [] M (f_X12_taken p1 p2 M) := by
  show Sm Z G emI _ _ _ _ _ _ (bd (f_X12_isShelf p1 M) (fun r1 M2 => if r1 = 0 then some (-1, M2) else bd (f_X12_in p2 0 5 M2) (fun r3 M4 => if r3 = 0 then bd (f_X12_in p2 10 13 M4) (fun r5 M6 => if r5 = 0 then some (-1, M6) else f_X12_taken_29 p1 p2 M6) else f_X12_taken_29 p1 p2 M4)))
  refine x_iload_n C (k_dg dt_X12_taken_0 0 0 (.iload_n 1) 1 rfl) 1 rfl ?_
  refine x_callS C (vs := [Value.int p1]) (rest := []) (c_X12_isShelf C.2.2.2.2.2.2.2.2.2 G.2.1 p1 M) cy_X12_isShelf lk_RX12_303 stt_X12_isShelf (by decide) (by decide) (by decide) (by decide) rfl rfl (Nat.le_of_ble_eq_true rfl) (k_dg dt_X12_taken_0 1 1 (.invokestatic 303) 3 rfl) (fun r1 M2 => ?_)
  show Sm Z G _ _ _ _ [(0, k_ra Z 76), (1, Value.int p1), (2, Value.int p2)] [Value.int r1] _ _
  refine x_if_eq C (tgt := 27) (k_dg dt_X12_taken_0 2 4 (.ifCond .eq 23) 3 rfl) (by decide) (fun _ => ?_) (fun _ => ?_)
  · refine x_iconst C (v := -1) (k_dg dt_X12_taken_0 13 27 (.iconst (-1)) 1 rfl) (by decide) ?_
    exact x_iret C (by decide) (by decide) (k_dg dt_X12_taken_0 14 28 (.ireturn) 1 rfl)
  · refine x_iload_n C (k_dg dt_X12_taken_0 3 7 (.iload_n 2) 1 rfl) 2 rfl ?_
    refine x_iconst C (v := 0) (k_dg dt_X12_taken_0 4 8 (.iconst 0) 1 rfl) (by decide) ?_
    refine x_iconst C (v := 5) (k_dg dt_X12_taken_0 5 9 (.iconst 5) 1 rfl) (by decide) ?_
    refine x_callS C (vs := [Value.int p2, Value.int 0, Value.int 5]) (rest := []) (c_X12_in C.2.2.2.2.2.2.2.2.2 G.2.1 p2 0 5 M2) cy_X12_in lk_RX12_99 stt_X12_in (by decide) (by decide) (by decide) (by decide) rfl rfl (Nat.le_of_ble_eq_true rfl) (k_dg dt_X12_taken_0 6 10 (.invokestatic 99) 3 rfl) (fun r3 M4 => ?_)
    show Sm Z G _ _ _ _ [(0, k_ra Z 76), (1, Value.int p1), (2, Value.int p2)] [Value.int r3] _ _
    refine x_if_ne C (tgt := 29) (k_dg dt_X12_taken_0 7 13 (.ifCond .ne 16) 3 rfl) (by decide) (fun _ => ?_) (fun _ => ?_)
    · refine x_iload_n C (k_dg dt_X12_taken_0 8 16 (.iload_n 2) 1 rfl) 2 rfl ?_
      refine x_bipush C (v := 10) (k_dg dt_X12_taken_0 9 17 (.bipush 10) 2 rfl) (by decide) ?_
      refine x_bipush C (v := 13) (k_dg dt_X12_taken_0 10 19 (.bipush 13) 2 rfl) (by decide) ?_
      refine x_callS C (vs := [Value.int p2, Value.int 10, Value.int 13]) (rest := []) (c_X12_in C.2.2.2.2.2.2.2.2.2 G.2.1 p2 10 13 M4) cy_X12_in lk_RX12_99 stt_X12_in (by decide) (by decide) (by decide) (by decide) rfl rfl (Nat.le_of_ble_eq_true rfl) (k_dg dt_X12_taken_0 11 21 (.invokestatic 99) 3 rfl) (fun r5 M6 => ?_)
      show Sm Z G _ _ _ _ [(0, k_ra Z 76), (1, Value.int p1), (2, Value.int p2)] [Value.int r5] _ _
      refine x_if_ne C (tgt := 29) (k_dg dt_X12_taken_0 12 24 (.ifCond .ne 5) 3 rfl) (by decide) (fun _ => ?_) (fun _ => ?_)
      · refine x_iconst C (v := -1) (k_dg dt_X12_taken_0 13 27 (.iconst (-1)) 1 rfl) (by decide) ?_
        exact x_iret C (by decide) (by decide) (k_dg dt_X12_taken_0 14 28 (.ireturn) 1 rfl)
      · exact m_X12_taken_29 C p1 p2 M6
    · exact m_X12_taken_29 C p1 p2 M4
theorem c_X12_taken {Z : k_Z} (hg : k_Gd Z) (l : Launch) (p1 : Int32) (p2 : Int32) (M : k_M) : Con true Z l yX12_taken cX12_taken 4 (some .int) 4 0 0 emI [k_ra Z 76, Value.int p1, Value.int p2] M (f_X12_taken p1 p2 M) := k_con hg (by decide) (Nat.le_of_ble_eq_true rfl) (fun G hl C => m_X12_taken_0 C p1 p2 M)
theorem dt_X12_ran_0 : k_dec cX12_ran [(0, .aload_n 0, 1), (1, .getfield 340, 3), (4, .bipush 30, 2), (6, .if_icmp .ge 23, 3), (9, .aload_n 0, 1), (10, .getfield 86, 3), (13, .aload_n 0, 1), (14, .getfield 340, 3), (17, .iload_n 1, 1), (18, .iastore, 1), (19, .aload_n 0, 1), (20, .dup, 1), (21, .getfield 340, 3), (24, .iconst 1, 1), (25, .iadd, 1), (26, .putfield 340, 3), (29, .return_, 1)] = true := by decide +kernel
def f_X12_ran (p1 : Int32) (M : k_M) : Option (Unit × k_M) := if 30 ≤ (M.1 76 47) then some ((), M) else wrI M 102 30 (M.1 76 47) p1 (fun M1 => bN (sI M1 76 47 ((M1.1 76 47) + 1)) (fun M2 => some ((), M2)))
theorem m_X12_ran_0 {Z : k_Z} {G : k_G} (C : k_C Z G RX12 cX12_ran (true, 2, 1, 0, 0) none "ran") (p1 : Int32) (M : k_M) : Sm Z G emV (true, 2, 1, 0, 0) (0, 0) 0 [(0, k_ra Z 76), (1, Value.int p1)] [] M (f_X12_ran p1 M) := by
  show Sm Z G emV _ _ _ _ _ _ (if 30 ≤ (M.1 76 47) then some ((), M) else wrI M 102 30 (M.1 76 47) p1 (fun M1 => bN (sI M1 76 47 ((M1.1 76 47) + 1)) (fun M2 => some ((), M2))))
  refine x_aload_n C (k_dg dt_X12_ran_0 0 0 (.aload_n 0) 1 rfl) 0 rfl ?_
  refine x_getI C (a := 76) (j := 47) rfl rfl (by decide) fl_RX12_340 rfl (k_dg dt_X12_ran_0 1 1 (.getfield 340) 3 rfl) ?_
  refine x_bipush C (v := 30) (k_dg dt_X12_ran_0 2 4 (.bipush 30) 2 rfl) (by decide) ?_
  refine x_icmp_ge C (tgt := 29) (k_dg dt_X12_ran_0 3 6 (.if_icmp .ge 23) 3 rfl) (by decide) (fun _ => ?_) (fun _ => ?_)
  · exact x_vret C (by decide) (by decide) (k_dg dt_X12_ran_0 16 29 (.return_) 1 rfl)
  · refine x_aload_n C (k_dg dt_X12_ran_0 4 9 (.aload_n 0) 1 rfl) 0 rfl ?_
    refine x_getR C (a := 76) (j := 46) 102 rfl rfl (by decide) fl_RX12_86 rfl rfl rfl (k_dg dt_X12_ran_0 5 10 (.getfield 86) 3 rfl) ?_
    refine x_aload_n C (k_dg dt_X12_ran_0 6 13 (.aload_n 0) 1 rfl) 0 rfl ?_
    refine x_getI C (a := 76) (j := 47) rfl rfl (by decide) fl_RX12_340 rfl (k_dg dt_X12_ran_0 7 14 (.getfield 340) 3 rfl) ?_
    refine x_iload_n C (k_dg dt_X12_ran_0 8 17 (.iload_n 1) 1 rfl) 1 rfl ?_
    refine x_iast C (a := 102) (n := 30) rfl rfl (k_dg dt_X12_ran_0 9 18 (.iastore) 1 rfl) (fun M1 => ?_)
    refine x_aload_n C (k_dg dt_X12_ran_0 10 19 (.aload_n 0) 1 rfl) 0 rfl ?_
    refine x_dup C (k_dg dt_X12_ran_0 11 20 (.dup) 1 rfl) rfl ?_
    refine x_getI C (a := 76) (j := 47) rfl rfl (by decide) fl_RX12_340 rfl (k_dg dt_X12_ran_0 12 21 (.getfield 340) 3 rfl) ?_
    refine x_iconst C (v := 1) (k_dg dt_X12_ran_0 13 24 (.iconst 1) 1 rfl) (by decide) ?_
    refine x_iadd C (k_dg dt_X12_ran_0 14 25 (.iadd) 1 rfl) ?_
    refine x_putI C (a := 76) (j := 47) rfl rfl (by decide) fl_RX12_340 rfl pt_10_47 tb_10 rfl rfl (k_dg dt_X12_ran_0 15 26 (.putfield 340) 3 rfl) (fun M2 => ?_)
    exact x_vret C (by decide) (by decide) (k_dg dt_X12_ran_0 16 29 (.return_) 1 rfl)
theorem c_X12_ran {Z : k_Z} (hg : k_Gd Z) (l : Launch) (p1 : Int32) (M : k_M) : Con true Z l yX12_ran cX12_ran 2 none 1 0 0 emV [k_ra Z 76, Value.int p1] M (f_X12_ran p1 M) := k_con hg (by decide) (Nat.le_of_ble_eq_true rfl) (fun G hl C => m_X12_ran_0 C p1 M)
theorem dt_X12_rollsIt_0 : k_dec cX12_rollsIt [(0, .aload_n 0, 1), (1, .getfield 343, 3), (4, .iconst 1, 1), (5, .if_icmp .ne 8, 3), (8, .bipush 20, 2), (10, .goto 17, 3), (13, .aload_n 0, 1), (14, .getfield 343, 3), (17, .iconst 4, 1), (18, .if_icmp .ne 8, 3), (21, .bipush 50, 2), (23, .goto 4, 3), (26, .iconst 0, 1), (27, .istore_n 2, 1), (28, .iload_n 2, 1), (29, .ifCond .le 8, 3), (32, .aload_n 0, 1), (33, .iload_n 2, 1), (34, .invokevirtual 346, 3), (37, .aload_n 0, 1), (38, .bipush 10, 2), (40, .invokevirtual 346, 3), (43, .iload_n 1, 1), (44, .aload_n 0, 1), (45, .getfield 349, 3), (48, .iadd, 1), (49, .istore_n 3, 1), (50, .iload_n 2, 1), (51, .bipush 20, 2), (53, .if_icmp .ne 9, 3), (56, .iconst 0, 1), (57, .iload_n 3, 1), (58, .isub, 1), (59, .goto 16, 3), (62, .iload_n 2, 1), (63, .bipush 50, 2), (65, .if_icmp .ne 9, 3), (68, .iload_n 3, 1), (69, .iconst 3, 1), (70, .imul, 1)] = true := by decide +kernel
theorem dt_X12_rollsIt_1 : k_dec cX12_rollsIt [(71, .goto 4, 3), (74, .iload_n 3, 1), (75, .ireturn, 1)] = true := by decide +kernel
def f_X12_rollsIt_37 (l1 : Int32) (l2 : Int32) (M : k_M) : Option (Int32 × k_M) := bd (f_X12_ran 10 M) (fun r1 M2 => bN (l1 + (M2.1 76 44)) (fun v3 => if l2 = 20 then some (0 - v3, M2) else if l2 = 50 then some (v3 * 3, M2) else some (v3, M2)))
theorem m_X12_rollsIt_37 {Z : k_Z} {G : k_G} (C : k_C Z G RX12 cX12_rollsIt (true, 4, 2, 0, 0) (some .int) "rollsIt") (l1 : Int32) (l2 : Int32) (M : k_M) : Sm Z G emI (true, 4, 2, 0, 0) (0, 0) 37 [(0, k_ra Z 76), (1, Value.int l1), (2, Value.int l2)] [] M (f_X12_rollsIt_37 l1 l2 M) := by
  show Sm Z G emI _ _ _ _ _ _ (bd (f_X12_ran 10 M) (fun r1 M2 => bN (l1 + (M2.1 76 44)) (fun v3 => if l2 = 20 then some (0 - v3, M2) else if l2 = 50 then some (v3 * 3, M2) else some (v3, M2))))
  refine x_aload_n C (k_dg dt_X12_rollsIt_0 19 37 (.aload_n 0) 1 rfl) 0 rfl ?_
  refine x_bipush C (v := 10) (k_dg dt_X12_rollsIt_0 20 38 (.bipush 10) 2 rfl) (by decide) ?_
  refine x_callV C (a := 76) (kd := 10) (vs := [Value.int 10]) (rest := []) rfl rfl (by decide) (fun r hr => by cases hr; rfl) (c_X12_ran C.2.2.2.2.2.2.2.2.2 G.2.1 10 M) cy_X12_ran lk_RX12_346 im_X12_ran se_X12_ran (by decide) (by decide) (by decide) (by decide) rfl rfl (Nat.le_of_ble_eq_true rfl) (k_dg dt_X12_rollsIt_0 21 40 (.invokevirtual 346) 3 rfl) (fun r1 M2 => ?_)
  show Sm Z G _ _ _ _ [(0, k_ra Z 76), (1, Value.int l1), (2, Value.int l2)] [] _ _
  refine x_iload_n C (k_dg dt_X12_rollsIt_0 22 43 (.iload_n 1) 1 rfl) 1 rfl ?_
  refine x_aload_n C (k_dg dt_X12_rollsIt_0 23 44 (.aload_n 0) 1 rfl) 0 rfl ?_
  refine x_getI C (a := 76) (j := 44) rfl rfl (by decide) fl_RX12_349 rfl (k_dg dt_X12_rollsIt_0 24 45 (.getfield 349) 3 rfl) ?_
  refine x_iadd C (k_dg dt_X12_rollsIt_0 25 48 (.iadd) 1 rfl) ?_
  refine x_nm (w := Value.int) (fun v3 _ => ?_)
  refine x_istore_n C (lv' := [(3, Value.int v3), (0, k_ra Z 76), (1, Value.int l1), (2, Value.int l2)]) (k_dg dt_X12_rollsIt_0 26 49 (.istore_n 3) 1 rfl) (by decide) rfl ?_
  refine x_iload_n C (k_dg dt_X12_rollsIt_0 27 50 (.iload_n 2) 1 rfl) 3 rfl ?_
  refine x_bipush C (v := 20) (k_dg dt_X12_rollsIt_0 28 51 (.bipush 20) 2 rfl) (by decide) ?_
  refine x_icmp_ne C (tgt := 62) (k_dg dt_X12_rollsIt_0 29 53 (.if_icmp .ne 9) 3 rfl) (by decide) (fun _ => ?_) (fun _ => ?_)
  · refine x_iconst C (v := 0) (k_dg dt_X12_rollsIt_0 30 56 (.iconst 0) 1 rfl) (by decide) ?_
    refine x_iload_n C (k_dg dt_X12_rollsIt_0 31 57 (.iload_n 3) 1 rfl) 0 rfl ?_
    refine x_isub C (k_dg dt_X12_rollsIt_0 32 58 (.isub) 1 rfl) ?_
    refine x_goto C (tgt := 75) (k_dg dt_X12_rollsIt_0 33 59 (.goto 16) 3 rfl) (by decide) ?_
    exact x_iret C (by decide) (by decide) (k_dg dt_X12_rollsIt_1 2 75 (.ireturn) 1 rfl)
  · refine x_iload_n C (k_dg dt_X12_rollsIt_0 34 62 (.iload_n 2) 1 rfl) 3 rfl ?_
    refine x_bipush C (v := 50) (k_dg dt_X12_rollsIt_0 35 63 (.bipush 50) 2 rfl) (by decide) ?_
    refine x_icmp_ne C (tgt := 74) (k_dg dt_X12_rollsIt_0 36 65 (.if_icmp .ne 9) 3 rfl) (by decide) (fun _ => ?_) (fun _ => ?_)
    · refine x_iload_n C (k_dg dt_X12_rollsIt_0 37 68 (.iload_n 3) 1 rfl) 0 rfl ?_
      refine x_iconst C (v := 3) (k_dg dt_X12_rollsIt_0 38 69 (.iconst 3) 1 rfl) (by decide) ?_
      refine x_imul C (k_dg dt_X12_rollsIt_0 39 70 (.imul) 1 rfl) ?_
      refine x_goto C (tgt := 75) (k_dg dt_X12_rollsIt_1 0 71 (.goto 4) 3 rfl) (by decide) ?_
      exact x_iret C (by decide) (by decide) (k_dg dt_X12_rollsIt_1 2 75 (.ireturn) 1 rfl)
    · refine x_iload_n C (k_dg dt_X12_rollsIt_1 1 74 (.iload_n 3) 1 rfl) 0 rfl ?_
      exact x_iret C (by decide) (by decide) (k_dg dt_X12_rollsIt_1 2 75 (.ireturn) 1 rfl)
def f_X12_rollsIt_27 (l1 : Int32) (t0 : Int32) (M : k_M) : Option (Int32 × k_M) := if t0 ≤ 0 then f_X12_rollsIt_37 l1 t0 M else bd (f_X12_ran t0 M) (fun r1 M2 => f_X12_rollsIt_37 l1 t0 M2)
theorem m_X12_rollsIt_27 {Z : k_Z} {G : k_G} (C : k_C Z G RX12 cX12_rollsIt (true, 4, 2, 0, 0) (some .int) "rollsIt") (l1 : Int32) (t0 : Int32) (M : k_M) : Sm Z G emI (true, 4, 2, 0, 0) (0, 0) 27 [(0, k_ra Z 76), (1, Value.int l1)] [Value.int t0] M (f_X12_rollsIt_27 l1 t0 M) := by
  show Sm Z G emI _ _ _ _ _ _ (if t0 ≤ 0 then f_X12_rollsIt_37 l1 t0 M else bd (f_X12_ran t0 M) (fun r1 M2 => f_X12_rollsIt_37 l1 t0 M2))
  refine x_istore_n C (lv' := [(2, Value.int t0), (0, k_ra Z 76), (1, Value.int l1)]) (k_dg dt_X12_rollsIt_0 13 27 (.istore_n 2) 1 rfl) (by decide) rfl ?_
  refine x_iload_n C (k_dg dt_X12_rollsIt_0 14 28 (.iload_n 2) 1 rfl) 0 rfl ?_
  refine x_if_le C (tgt := 37) (k_dg dt_X12_rollsIt_0 15 29 (.ifCond .le 8) 3 rfl) (by decide) (fun _ => ?_) (fun _ => ?_)
  · refine x_lv [1, 2, 0] rfl ?_
    exact m_X12_rollsIt_37 C l1 t0 M
  · refine x_aload_n C (k_dg dt_X12_rollsIt_0 16 32 (.aload_n 0) 1 rfl) 1 rfl ?_
    refine x_iload_n C (k_dg dt_X12_rollsIt_0 17 33 (.iload_n 2) 1 rfl) 0 rfl ?_
    refine x_callV C (a := 76) (kd := 10) (vs := [Value.int t0]) (rest := []) rfl rfl (by decide) (fun r hr => by cases hr; rfl) (c_X12_ran C.2.2.2.2.2.2.2.2.2 G.2.1 t0 M) cy_X12_ran lk_RX12_346 im_X12_ran se_X12_ran (by decide) (by decide) (by decide) (by decide) rfl rfl (Nat.le_of_ble_eq_true rfl) (k_dg dt_X12_rollsIt_0 18 34 (.invokevirtual 346) 3 rfl) (fun r1 M2 => ?_)
    show Sm Z G _ _ _ _ [(2, Value.int t0), (0, k_ra Z 76), (1, Value.int l1)] [] _ _
    refine x_lv [1, 2, 0] rfl ?_
    exact m_X12_rollsIt_37 C l1 t0 M2
def f_X12_rollsIt (p1 : Int32) (M : k_M) : Option (Int32 × k_M) := if (M.1 76 43) = 1 then f_X12_rollsIt_27 p1 20 M else if (M.1 76 43) = 4 then f_X12_rollsIt_27 p1 50 M else f_X12_rollsIt_27 p1 0 M
theorem m_X12_rollsIt_0 {Z : k_Z} {G : k_G} (C : k_C Z G RX12 cX12_rollsIt (true, 4, 2, 0, 0) (some .int) "rollsIt") (p1 : Int32) (M : k_M) : Sm Z G emI (true, 4, 2, 0, 0) (0, 0) 0 [(0, k_ra Z 76), (1, Value.int p1)] [] M (f_X12_rollsIt p1 M) := by
  show Sm Z G emI _ _ _ _ _ _ (if (M.1 76 43) = 1 then f_X12_rollsIt_27 p1 20 M else if (M.1 76 43) = 4 then f_X12_rollsIt_27 p1 50 M else f_X12_rollsIt_27 p1 0 M)
  refine x_aload_n C (k_dg dt_X12_rollsIt_0 0 0 (.aload_n 0) 1 rfl) 0 rfl ?_
  refine x_getI C (a := 76) (j := 43) rfl rfl (by decide) fl_RX12_343 rfl (k_dg dt_X12_rollsIt_0 1 1 (.getfield 343) 3 rfl) ?_
  refine x_iconst C (v := 1) (k_dg dt_X12_rollsIt_0 2 4 (.iconst 1) 1 rfl) (by decide) ?_
  refine x_icmp_ne C (tgt := 13) (k_dg dt_X12_rollsIt_0 3 5 (.if_icmp .ne 8) 3 rfl) (by decide) (fun _ => ?_) (fun _ => ?_)
  · refine x_bipush C (v := 20) (k_dg dt_X12_rollsIt_0 4 8 (.bipush 20) 2 rfl) (by decide) ?_
    refine x_goto C (tgt := 27) (k_dg dt_X12_rollsIt_0 5 10 (.goto 17) 3 rfl) (by decide) ?_
    exact m_X12_rollsIt_27 C p1 20 M
  · refine x_aload_n C (k_dg dt_X12_rollsIt_0 6 13 (.aload_n 0) 1 rfl) 0 rfl ?_
    refine x_getI C (a := 76) (j := 43) rfl rfl (by decide) fl_RX12_343 rfl (k_dg dt_X12_rollsIt_0 7 14 (.getfield 343) 3 rfl) ?_
    refine x_iconst C (v := 4) (k_dg dt_X12_rollsIt_0 8 17 (.iconst 4) 1 rfl) (by decide) ?_
    refine x_icmp_ne C (tgt := 26) (k_dg dt_X12_rollsIt_0 9 18 (.if_icmp .ne 8) 3 rfl) (by decide) (fun _ => ?_) (fun _ => ?_)
    · refine x_bipush C (v := 50) (k_dg dt_X12_rollsIt_0 10 21 (.bipush 50) 2 rfl) (by decide) ?_
      refine x_goto C (tgt := 27) (k_dg dt_X12_rollsIt_0 11 23 (.goto 4) 3 rfl) (by decide) ?_
      exact m_X12_rollsIt_27 C p1 50 M
    · refine x_iconst C (v := 0) (k_dg dt_X12_rollsIt_0 12 26 (.iconst 0) 1 rfl) (by decide) ?_
      exact m_X12_rollsIt_27 C p1 0 M
theorem c_X12_rollsIt {Z : k_Z} (hg : k_Gd Z) (l : Launch) (p1 : Int32) (M : k_M) : Con true Z l yX12_rollsIt cX12_rollsIt 4 (some .int) 2 0 0 emI [k_ra Z 76, Value.int p1] M (f_X12_rollsIt p1 M) := k_con hg (by decide) (Nat.le_of_ble_eq_true rfl) (fun G hl C => m_X12_rollsIt_0 C p1 M)
theorem dt_X12_plainEats_0 : k_dec cX12_plainEats [(0, .aload_n 0, 1), (1, .bipush 11, 2), (3, .invokevirtual 346, 3), (6, .aload_n 0, 1), (7, .iload_n 1, 1), (8, .invokevirtual 352, 3), (11, .iconst 2, 1), (12, .imul, 1), (13, .ireturn, 1)] = true := by decide +kernel
def f_X12_plainEats (p1 : Int32) (M : k_M) : Option (Int32 × k_M) := bd (f_X12_ran 11 M) (fun r1 M2 => bd (f_X12_rollsIt p1 M2) (fun r3 M4 => some (r3 * 2, M4)))
theorem m_X12_plainEats_0 {Z : k_Z} {G : k_G} (C : k_C Z G RX12 cX12_plainEats (true, 2, 3, 0, 0) (some .int) "plainEats") (p1 : Int32) (M : k_M) : Sm Z G emI (true, 2, 3, 0, 0) (0, 0) 0 [(0, k_ra Z 76), (1, Value.int p1)] [] M (f_X12_plainEats p1 M) := by
  show Sm Z G emI _ _ _ _ _ _ (bd (f_X12_ran 11 M) (fun r1 M2 => bd (f_X12_rollsIt p1 M2) (fun r3 M4 => some (r3 * 2, M4))))
  refine x_aload_n C (k_dg dt_X12_plainEats_0 0 0 (.aload_n 0) 1 rfl) 0 rfl ?_
  refine x_bipush C (v := 11) (k_dg dt_X12_plainEats_0 1 1 (.bipush 11) 2 rfl) (by decide) ?_
  refine x_callV C (a := 76) (kd := 10) (vs := [Value.int 11]) (rest := []) rfl rfl (by decide) (fun r hr => by cases hr; rfl) (c_X12_ran C.2.2.2.2.2.2.2.2.2 G.2.1 11 M) cy_X12_ran lk_RX12_346 im_X12_ran se_X12_ran (by decide) (by decide) (by decide) (by decide) rfl rfl (Nat.le_of_ble_eq_true rfl) (k_dg dt_X12_plainEats_0 2 3 (.invokevirtual 346) 3 rfl) (fun r1 M2 => ?_)
  show Sm Z G _ _ _ _ [(0, k_ra Z 76), (1, Value.int p1)] [] _ _
  refine x_aload_n C (k_dg dt_X12_plainEats_0 3 6 (.aload_n 0) 1 rfl) 0 rfl ?_
  refine x_iload_n C (k_dg dt_X12_plainEats_0 4 7 (.iload_n 1) 1 rfl) 1 rfl ?_
  refine x_callV C (a := 76) (kd := 10) (vs := [Value.int p1]) (rest := []) rfl rfl (by decide) (fun r hr => by cases hr; rfl) (c_X12_rollsIt C.2.2.2.2.2.2.2.2.2 G.2.1 p1 M2) cy_X12_rollsIt lk_RX12_352 im_X12_rollsIt se_X12_rollsIt (by decide) (by decide) (by decide) (by decide) rfl rfl (Nat.le_of_ble_eq_true rfl) (k_dg dt_X12_plainEats_0 5 8 (.invokevirtual 352) 3 rfl) (fun r3 M4 => ?_)
  show Sm Z G _ _ _ _ [(0, k_ra Z 76), (1, Value.int p1)] [Value.int r3] _ _
  refine x_iconst C (v := 2) (k_dg dt_X12_plainEats_0 6 11 (.iconst 2) 1 rfl) (by decide) ?_
  refine x_imul C (k_dg dt_X12_plainEats_0 7 12 (.imul) 1 rfl) ?_
  exact x_iret C (by decide) (by decide) (k_dg dt_X12_plainEats_0 8 13 (.ireturn) 1 rfl)
theorem c_X12_plainEats {Z : k_Z} (hg : k_Gd Z) (l : Launch) (p1 : Int32) (M : k_M) : Con true Z l yX12_plainEats cX12_plainEats 2 (some .int) 3 0 0 emI [k_ra Z 76, Value.int p1] M (f_X12_plainEats p1 M) := k_con hg (by decide) (Nat.le_of_ble_eq_true rfl) (fun G hl C => m_X12_plainEats_0 C p1 M)
theorem dt_X12_nearEats_0 : k_dec cX12_nearEats [(0, .aload_n 0, 1), (1, .bipush 30, 2), (3, .invokevirtual 346, 3), (6, .aload_n 0, 1), (7, .iload_n 1, 1), (8, .invokevirtual 355, 3), (11, .aload_n 0, 1), (12, .getfield 358, 3), (15, .isub, 1), (16, .ireturn, 1)] = true := by decide +kernel
def f_X12_nearEats (p1 : Int32) (M : k_M) : Option (Int32 × k_M) := bd (f_X12_ran 30 M) (fun r1 M2 => bd (f_X12_plainEats p1 M2) (fun r3 M4 => some (r3 - (M4.1 76 45), M4)))
theorem m_X12_nearEats_0 {Z : k_Z} {G : k_G} (C : k_C Z G RX12 cX12_nearEats (true, 2, 4, 0, 0) (some .int) "nearEats") (p1 : Int32) (M : k_M) : Sm Z G emI (true, 2, 4, 0, 0) (0, 0) 0 [(0, k_ra Z 76), (1, Value.int p1)] [] M (f_X12_nearEats p1 M) := by
  show Sm Z G emI _ _ _ _ _ _ (bd (f_X12_ran 30 M) (fun r1 M2 => bd (f_X12_plainEats p1 M2) (fun r3 M4 => some (r3 - (M4.1 76 45), M4))))
  refine x_aload_n C (k_dg dt_X12_nearEats_0 0 0 (.aload_n 0) 1 rfl) 0 rfl ?_
  refine x_bipush C (v := 30) (k_dg dt_X12_nearEats_0 1 1 (.bipush 30) 2 rfl) (by decide) ?_
  refine x_callV C (a := 76) (kd := 10) (vs := [Value.int 30]) (rest := []) rfl rfl (by decide) (fun r hr => by cases hr; rfl) (c_X12_ran C.2.2.2.2.2.2.2.2.2 G.2.1 30 M) cy_X12_ran lk_RX12_346 im_X12_ran se_X12_ran (by decide) (by decide) (by decide) (by decide) rfl rfl (Nat.le_of_ble_eq_true rfl) (k_dg dt_X12_nearEats_0 2 3 (.invokevirtual 346) 3 rfl) (fun r1 M2 => ?_)
  show Sm Z G _ _ _ _ [(0, k_ra Z 76), (1, Value.int p1)] [] _ _
  refine x_aload_n C (k_dg dt_X12_nearEats_0 3 6 (.aload_n 0) 1 rfl) 0 rfl ?_
  refine x_iload_n C (k_dg dt_X12_nearEats_0 4 7 (.iload_n 1) 1 rfl) 1 rfl ?_
  refine x_callV C (a := 76) (kd := 10) (vs := [Value.int p1]) (rest := []) rfl rfl (by decide) (fun r hr => by cases hr; rfl) (c_X12_plainEats C.2.2.2.2.2.2.2.2.2 G.2.1 p1 M2) cy_X12_plainEats lk_RX12_355 im_X12_plainEats se_X12_plainEats (by decide) (by decide) (by decide) (by decide) rfl rfl (Nat.le_of_ble_eq_true rfl) (k_dg dt_X12_nearEats_0 5 8 (.invokevirtual 355) 3 rfl) (fun r3 M4 => ?_)
  show Sm Z G _ _ _ _ [(0, k_ra Z 76), (1, Value.int p1)] [Value.int r3] _ _
  refine x_aload_n C (k_dg dt_X12_nearEats_0 6 11 (.aload_n 0) 1 rfl) 0 rfl ?_
  refine x_getI C (a := 76) (j := 45) rfl rfl (by decide) fl_RX12_358 rfl (k_dg dt_X12_nearEats_0 7 12 (.getfield 358) 3 rfl) ?_
  refine x_isub C (k_dg dt_X12_nearEats_0 8 15 (.isub) 1 rfl) ?_
  exact x_iret C (by decide) (by decide) (k_dg dt_X12_nearEats_0 9 16 (.ireturn) 1 rfl)
theorem c_X12_nearEats {Z : k_Z} (hg : k_Gd Z) (l : Launch) (p1 : Int32) (M : k_M) : Con true Z l yX12_nearEats cX12_nearEats 2 (some .int) 4 0 0 emI [k_ra Z 76, Value.int p1] M (f_X12_nearEats p1 M) := k_con hg (by decide) (Nat.le_of_ble_eq_true rfl) (fun G hl C => m_X12_nearEats_0 C p1 M)
theorem dt_X12_eatsIt_0 : k_dec cX12_eatsIt [(0, .aload_n 0, 1), (1, .getfield 343, 3), (4, .iconst 4, 1), (5, .if_icmp .ne 26, 3), (8, .aload_n 0, 1), (9, .bipush 51, 2), (11, .invokevirtual 346, 3), (14, .aload_n 0, 1), (15, .iload_n 1, 1), (16, .invokevirtual 361, 3), (19, .istore_n 2, 1), (20, .iload_n 2, 1), (21, .aload_n 0, 1), (22, .aload_n 0, 1), (23, .getfield 349, 3), (26, .invokevirtual 352, 3), (29, .iadd, 1), (30, .ireturn, 1), (31, .aload_n 0, 1), (32, .getfield 343, 3), (35, .iconst 2, 1), (36, .if_icmp .ne 11, 3), (39, .aload_n 0, 1), (40, .iload_n 1, 1), (41, .invokevirtual 361, 3), (44, .goto 8, 3), (47, .aload_n 0, 1), (48, .iload_n 1, 1), (49, .invokevirtual 355, 3), (52, .ireturn, 1)] = true := by decide +kernel
def f_X12_eatsIt (p1 : Int32) (M : k_M) : Option (Int32 × k_M) := if (M.1 76 43) = 4 then bd (f_X12_ran 51 M) (fun r5 M6 => bd (f_X12_nearEats p1 M6) (fun r7 M8 => bd (f_X12_rollsIt (M8.1 76 44) M8) (fun r9 M10 => some (r7 + r9, M10)))) else if (M.1 76 43) = 2 then bd (f_X12_nearEats p1 M) (fun r3 M4 => some (r3, M4)) else bd (f_X12_plainEats p1 M) (fun r1 M2 => some (r1, M2))
theorem m_X12_eatsIt_0 {Z : k_Z} {G : k_G} (C : k_C Z G RX12 cX12_eatsIt (true, 3, 5, 0, 0) (some .int) "eatsIt") (p1 : Int32) (M : k_M) : Sm Z G emI (true, 3, 5, 0, 0) (0, 0) 0 [(0, k_ra Z 76), (1, Value.int p1)] [] M (f_X12_eatsIt p1 M) := by
  show Sm Z G emI _ _ _ _ _ _ (if (M.1 76 43) = 4 then bd (f_X12_ran 51 M) (fun r5 M6 => bd (f_X12_nearEats p1 M6) (fun r7 M8 => bd (f_X12_rollsIt (M8.1 76 44) M8) (fun r9 M10 => some (r7 + r9, M10)))) else if (M.1 76 43) = 2 then bd (f_X12_nearEats p1 M) (fun r3 M4 => some (r3, M4)) else bd (f_X12_plainEats p1 M) (fun r1 M2 => some (r1, M2)))
  refine x_aload_n C (k_dg dt_X12_eatsIt_0 0 0 (.aload_n 0) 1 rfl) 0 rfl ?_
  refine x_getI C (a := 76) (j := 43) rfl rfl (by decide) fl_RX12_343 rfl (k_dg dt_X12_eatsIt_0 1 1 (.getfield 343) 3 rfl) ?_
  refine x_iconst C (v := 4) (k_dg dt_X12_eatsIt_0 2 4 (.iconst 4) 1 rfl) (by decide) ?_
  refine x_icmp_ne C (tgt := 31) (k_dg dt_X12_eatsIt_0 3 5 (.if_icmp .ne 26) 3 rfl) (by decide) (fun _ => ?_) (fun _ => ?_)
  · refine x_aload_n C (k_dg dt_X12_eatsIt_0 4 8 (.aload_n 0) 1 rfl) 0 rfl ?_
    refine x_bipush C (v := 51) (k_dg dt_X12_eatsIt_0 5 9 (.bipush 51) 2 rfl) (by decide) ?_
    refine x_callV C (a := 76) (kd := 10) (vs := [Value.int 51]) (rest := []) rfl rfl (by decide) (fun r hr => by cases hr; rfl) (c_X12_ran C.2.2.2.2.2.2.2.2.2 G.2.1 51 M) cy_X12_ran lk_RX12_346 im_X12_ran se_X12_ran (by decide) (by decide) (by decide) (by decide) rfl rfl (Nat.le_of_ble_eq_true rfl) (k_dg dt_X12_eatsIt_0 6 11 (.invokevirtual 346) 3 rfl) (fun r5 M6 => ?_)
    show Sm Z G _ _ _ _ [(0, k_ra Z 76), (1, Value.int p1)] [] _ _
    refine x_aload_n C (k_dg dt_X12_eatsIt_0 7 14 (.aload_n 0) 1 rfl) 0 rfl ?_
    refine x_iload_n C (k_dg dt_X12_eatsIt_0 8 15 (.iload_n 1) 1 rfl) 1 rfl ?_
    refine x_callV C (a := 76) (kd := 10) (vs := [Value.int p1]) (rest := []) rfl rfl (by decide) (fun r hr => by cases hr; rfl) (c_X12_nearEats C.2.2.2.2.2.2.2.2.2 G.2.1 p1 M6) cy_X12_nearEats lk_RX12_361 im_X12_nearEats se_X12_nearEats (by decide) (by decide) (by decide) (by decide) rfl rfl (Nat.le_of_ble_eq_true rfl) (k_dg dt_X12_eatsIt_0 9 16 (.invokevirtual 361) 3 rfl) (fun r7 M8 => ?_)
    show Sm Z G _ _ _ _ [(0, k_ra Z 76), (1, Value.int p1)] [Value.int r7] _ _
    refine x_istore_n C (lv' := [(2, Value.int r7), (0, k_ra Z 76), (1, Value.int p1)]) (k_dg dt_X12_eatsIt_0 10 19 (.istore_n 2) 1 rfl) (by decide) rfl ?_
    refine x_iload_n C (k_dg dt_X12_eatsIt_0 11 20 (.iload_n 2) 1 rfl) 0 rfl ?_
    refine x_aload_n C (k_dg dt_X12_eatsIt_0 12 21 (.aload_n 0) 1 rfl) 1 rfl ?_
    refine x_aload_n C (k_dg dt_X12_eatsIt_0 13 22 (.aload_n 0) 1 rfl) 1 rfl ?_
    refine x_getI C (a := 76) (j := 44) rfl rfl (by decide) fl_RX12_349 rfl (k_dg dt_X12_eatsIt_0 14 23 (.getfield 349) 3 rfl) ?_
    refine x_callV C (a := 76) (kd := 10) (vs := [Value.int (M8.1 76 44)]) (rest := [Value.int r7]) rfl rfl (by decide) (fun r hr => by cases hr; rfl) (c_X12_rollsIt C.2.2.2.2.2.2.2.2.2 G.2.1 (M8.1 76 44) M8) cy_X12_rollsIt lk_RX12_352 im_X12_rollsIt se_X12_rollsIt (by decide) (by decide) (by decide) (by decide) rfl rfl (Nat.le_of_ble_eq_true rfl) (k_dg dt_X12_eatsIt_0 15 26 (.invokevirtual 352) 3 rfl) (fun r9 M10 => ?_)
    show Sm Z G _ _ _ _ [(2, Value.int r7), (0, k_ra Z 76), (1, Value.int p1)] [Value.int r9, Value.int r7] _ _
    refine x_iadd C (k_dg dt_X12_eatsIt_0 16 29 (.iadd) 1 rfl) ?_
    exact x_iret C (by decide) (by decide) (k_dg dt_X12_eatsIt_0 17 30 (.ireturn) 1 rfl)
  · refine x_aload_n C (k_dg dt_X12_eatsIt_0 18 31 (.aload_n 0) 1 rfl) 0 rfl ?_
    refine x_getI C (a := 76) (j := 43) rfl rfl (by decide) fl_RX12_343 rfl (k_dg dt_X12_eatsIt_0 19 32 (.getfield 343) 3 rfl) ?_
    refine x_iconst C (v := 2) (k_dg dt_X12_eatsIt_0 20 35 (.iconst 2) 1 rfl) (by decide) ?_
    refine x_icmp_ne C (tgt := 47) (k_dg dt_X12_eatsIt_0 21 36 (.if_icmp .ne 11) 3 rfl) (by decide) (fun _ => ?_) (fun _ => ?_)
    · refine x_aload_n C (k_dg dt_X12_eatsIt_0 22 39 (.aload_n 0) 1 rfl) 0 rfl ?_
      refine x_iload_n C (k_dg dt_X12_eatsIt_0 23 40 (.iload_n 1) 1 rfl) 1 rfl ?_
      refine x_callV C (a := 76) (kd := 10) (vs := [Value.int p1]) (rest := []) rfl rfl (by decide) (fun r hr => by cases hr; rfl) (c_X12_nearEats C.2.2.2.2.2.2.2.2.2 G.2.1 p1 M) cy_X12_nearEats lk_RX12_361 im_X12_nearEats se_X12_nearEats (by decide) (by decide) (by decide) (by decide) rfl rfl (Nat.le_of_ble_eq_true rfl) (k_dg dt_X12_eatsIt_0 24 41 (.invokevirtual 361) 3 rfl) (fun r3 M4 => ?_)
      show Sm Z G _ _ _ _ [(0, k_ra Z 76), (1, Value.int p1)] [Value.int r3] _ _
      refine x_goto C (tgt := 52) (k_dg dt_X12_eatsIt_0 25 44 (.goto 8) 3 rfl) (by decide) ?_
      exact x_iret C (by decide) (by decide) (k_dg dt_X12_eatsIt_0 29 52 (.ireturn) 1 rfl)
    · refine x_aload_n C (k_dg dt_X12_eatsIt_0 26 47 (.aload_n 0) 1 rfl) 0 rfl ?_
      refine x_iload_n C (k_dg dt_X12_eatsIt_0 27 48 (.iload_n 1) 1 rfl) 1 rfl ?_
      refine x_callV C (a := 76) (kd := 10) (vs := [Value.int p1]) (rest := []) rfl rfl (by decide) (fun r hr => by cases hr; rfl) (c_X12_plainEats C.2.2.2.2.2.2.2.2.2 G.2.1 p1 M) cy_X12_plainEats lk_RX12_355 im_X12_plainEats se_X12_plainEats (by decide) (by decide) (by decide) (by decide) rfl rfl (Nat.le_of_ble_eq_true rfl) (k_dg dt_X12_eatsIt_0 28 49 (.invokevirtual 355) 3 rfl) (fun r1 M2 => ?_)
      show Sm Z G _ _ _ _ [(0, k_ra Z 76), (1, Value.int p1)] [Value.int r1] _ _
      exact x_iret C (by decide) (by decide) (k_dg dt_X12_eatsIt_0 29 52 (.ireturn) 1 rfl)
theorem c_X12_eatsIt {Z : k_Z} (hg : k_Gd Z) (l : Launch) (p1 : Int32) (M : k_M) : Con true Z l yX12_eatsIt cX12_eatsIt 3 (some .int) 5 0 0 emI [k_ra Z 76, Value.int p1] M (f_X12_eatsIt p1 M) := k_con hg (by decide) (Nat.le_of_ble_eq_true rfl) (fun G hl C => m_X12_eatsIt_0 C p1 M)
theorem dt_X12_plainShares_0 : k_dec cX12_plainShares [(0, .aload_n 0, 1), (1, .bipush 12, 2), (3, .invokevirtual 346, 3), (6, .aload_n 0, 1), (7, .getfield 358, 3), (10, .aload_n 0, 1), (11, .getfield 349, 3), (14, .if_icmp .ne 10, 3), (17, .aload_n 0, 1), (18, .iconst 1, 1), (19, .putfield 364, 3), (22, .iconst 0, 1), (23, .ireturn, 1), (24, .iload_n 1, 1), (25, .aload_n 0, 1), (26, .getfield 358, 3), (29, .aload_n 0, 1), (30, .getfield 349, 3), (33, .isub, 1), (34, .idiv, 1), (35, .ireturn, 1)] = true := by decide +kernel
def f_X12_plainShares (p1 : Int32) (M : k_M) : Option (Int32 × k_M) := bd (f_X12_ran 12 M) (fun r1 M2 => if (M2.1 76 45) = (M2.1 76 44) then bN (sI M2 76 48 1) (fun M4 => some (0, M4)) else dv ((M2.1 76 45) - (M2.1 76 44)) (some (p1 / ((M2.1 76 45) - (M2.1 76 44)), M2)))
theorem m_X12_plainShares_0 {Z : k_Z} {G : k_G} (C : k_C Z G RX12 cX12_plainShares (true, 2, 2, 0, 0) (some .int) "plainShares") (p1 : Int32) (M : k_M) : Sm Z G emI (true, 2, 2, 0, 0) (0, 0) 0 [(0, k_ra Z 76), (1, Value.int p1)] [] M (f_X12_plainShares p1 M) := by
  show Sm Z G emI _ _ _ _ _ _ (bd (f_X12_ran 12 M) (fun r1 M2 => if (M2.1 76 45) = (M2.1 76 44) then bN (sI M2 76 48 1) (fun M4 => some (0, M4)) else dv ((M2.1 76 45) - (M2.1 76 44)) (some (p1 / ((M2.1 76 45) - (M2.1 76 44)), M2))))
  refine x_aload_n C (k_dg dt_X12_plainShares_0 0 0 (.aload_n 0) 1 rfl) 0 rfl ?_
  refine x_bipush C (v := 12) (k_dg dt_X12_plainShares_0 1 1 (.bipush 12) 2 rfl) (by decide) ?_
  refine x_callV C (a := 76) (kd := 10) (vs := [Value.int 12]) (rest := []) rfl rfl (by decide) (fun r hr => by cases hr; rfl) (c_X12_ran C.2.2.2.2.2.2.2.2.2 G.2.1 12 M) cy_X12_ran lk_RX12_346 im_X12_ran se_X12_ran (by decide) (by decide) (by decide) (by decide) rfl rfl (Nat.le_of_ble_eq_true rfl) (k_dg dt_X12_plainShares_0 2 3 (.invokevirtual 346) 3 rfl) (fun r1 M2 => ?_)
  show Sm Z G _ _ _ _ [(0, k_ra Z 76), (1, Value.int p1)] [] _ _
  refine x_aload_n C (k_dg dt_X12_plainShares_0 3 6 (.aload_n 0) 1 rfl) 0 rfl ?_
  refine x_getI C (a := 76) (j := 45) rfl rfl (by decide) fl_RX12_358 rfl (k_dg dt_X12_plainShares_0 4 7 (.getfield 358) 3 rfl) ?_
  refine x_aload_n C (k_dg dt_X12_plainShares_0 5 10 (.aload_n 0) 1 rfl) 0 rfl ?_
  refine x_getI C (a := 76) (j := 44) rfl rfl (by decide) fl_RX12_349 rfl (k_dg dt_X12_plainShares_0 6 11 (.getfield 349) 3 rfl) ?_
  refine x_icmp_ne C (tgt := 24) (k_dg dt_X12_plainShares_0 7 14 (.if_icmp .ne 10) 3 rfl) (by decide) (fun _ => ?_) (fun _ => ?_)
  · refine x_aload_n C (k_dg dt_X12_plainShares_0 8 17 (.aload_n 0) 1 rfl) 0 rfl ?_
    refine x_iconst C (v := 1) (k_dg dt_X12_plainShares_0 9 18 (.iconst 1) 1 rfl) (by decide) ?_
    refine x_putI C (a := 76) (j := 48) rfl rfl (by decide) fl_RX12_364 rfl pt_10_48 tb_10 rfl rfl (k_dg dt_X12_plainShares_0 10 19 (.putfield 364) 3 rfl) (fun M4 => ?_)
    refine x_iconst C (v := 0) (k_dg dt_X12_plainShares_0 11 22 (.iconst 0) 1 rfl) (by decide) ?_
    exact x_iret C (by decide) (by decide) (k_dg dt_X12_plainShares_0 12 23 (.ireturn) 1 rfl)
  · refine x_iload_n C (k_dg dt_X12_plainShares_0 13 24 (.iload_n 1) 1 rfl) 1 rfl ?_
    refine x_aload_n C (k_dg dt_X12_plainShares_0 14 25 (.aload_n 0) 1 rfl) 0 rfl ?_
    refine x_getI C (a := 76) (j := 45) rfl rfl (by decide) fl_RX12_358 rfl (k_dg dt_X12_plainShares_0 15 26 (.getfield 358) 3 rfl) ?_
    refine x_aload_n C (k_dg dt_X12_plainShares_0 16 29 (.aload_n 0) 1 rfl) 0 rfl ?_
    refine x_getI C (a := 76) (j := 44) rfl rfl (by decide) fl_RX12_349 rfl (k_dg dt_X12_plainShares_0 17 30 (.getfield 349) 3 rfl) ?_
    refine x_isub C (k_dg dt_X12_plainShares_0 18 33 (.isub) 1 rfl) ?_
    refine x_dv (y := (M2.1 76 45) - (M2.1 76 44)) (fun h3 => ?_)
    refine x_idivC C (k_dg dt_X12_plainShares_0 19 34 (.idiv) 1 rfl) h3 ?_
    exact x_iret C (by decide) (by decide) (k_dg dt_X12_plainShares_0 20 35 (.ireturn) 1 rfl)
theorem c_X12_plainShares {Z : k_Z} (hg : k_Gd Z) (l : Launch) (p1 : Int32) (M : k_M) : Con true Z l yX12_plainShares cX12_plainShares 2 (some .int) 2 0 0 emI [k_ra Z 76, Value.int p1] M (f_X12_plainShares p1 M) := k_con hg (by decide) (Nat.le_of_ble_eq_true rfl) (fun G hl C => m_X12_plainShares_0 C p1 M)
theorem dt_X12_loopShares_0 : k_dec cX12_loopShares [(0, .aload_n 0, 1), (1, .bipush 40, 2), (3, .invokevirtual 346, 3), (6, .aload_n 0, 1), (7, .iload_n 1, 1), (8, .iconst 2, 1), (9, .iadd, 1), (10, .invokevirtual 367, 3), (13, .iconst 1, 1), (14, .ixor, 1), (15, .ireturn, 1)] = true := by decide +kernel
def f_X12_loopShares (p1 : Int32) (M : k_M) : Option (Int32 × k_M) := bd (f_X12_ran 40 M) (fun r1 M2 => bd (f_X12_plainShares (p1 + 2) M2) (fun r3 M4 => some (r3 ^^^ 1, M4)))
theorem m_X12_loopShares_0 {Z : k_Z} {G : k_G} (C : k_C Z G RX12 cX12_loopShares (true, 2, 3, 0, 0) (some .int) "loopShares") (p1 : Int32) (M : k_M) : Sm Z G emI (true, 2, 3, 0, 0) (0, 0) 0 [(0, k_ra Z 76), (1, Value.int p1)] [] M (f_X12_loopShares p1 M) := by
  show Sm Z G emI _ _ _ _ _ _ (bd (f_X12_ran 40 M) (fun r1 M2 => bd (f_X12_plainShares (p1 + 2) M2) (fun r3 M4 => some (r3 ^^^ 1, M4))))
  refine x_aload_n C (k_dg dt_X12_loopShares_0 0 0 (.aload_n 0) 1 rfl) 0 rfl ?_
  refine x_bipush C (v := 40) (k_dg dt_X12_loopShares_0 1 1 (.bipush 40) 2 rfl) (by decide) ?_
  refine x_callV C (a := 76) (kd := 10) (vs := [Value.int 40]) (rest := []) rfl rfl (by decide) (fun r hr => by cases hr; rfl) (c_X12_ran C.2.2.2.2.2.2.2.2.2 G.2.1 40 M) cy_X12_ran lk_RX12_346 im_X12_ran se_X12_ran (by decide) (by decide) (by decide) (by decide) rfl rfl (Nat.le_of_ble_eq_true rfl) (k_dg dt_X12_loopShares_0 2 3 (.invokevirtual 346) 3 rfl) (fun r1 M2 => ?_)
  show Sm Z G _ _ _ _ [(0, k_ra Z 76), (1, Value.int p1)] [] _ _
  refine x_aload_n C (k_dg dt_X12_loopShares_0 3 6 (.aload_n 0) 1 rfl) 0 rfl ?_
  refine x_iload_n C (k_dg dt_X12_loopShares_0 4 7 (.iload_n 1) 1 rfl) 1 rfl ?_
  refine x_iconst C (v := 2) (k_dg dt_X12_loopShares_0 5 8 (.iconst 2) 1 rfl) (by decide) ?_
  refine x_iadd C (k_dg dt_X12_loopShares_0 6 9 (.iadd) 1 rfl) ?_
  refine x_callV C (a := 76) (kd := 10) (vs := [Value.int (p1 + 2)]) (rest := []) rfl rfl (by decide) (fun r hr => by cases hr; rfl) (c_X12_plainShares C.2.2.2.2.2.2.2.2.2 G.2.1 (p1 + 2) M2) cy_X12_plainShares lk_RX12_367 im_X12_plainShares se_X12_plainShares (by decide) (by decide) (by decide) (by decide) rfl rfl (Nat.le_of_ble_eq_true rfl) (k_dg dt_X12_loopShares_0 7 10 (.invokevirtual 367) 3 rfl) (fun r3 M4 => ?_)
  show Sm Z G _ _ _ _ [(0, k_ra Z 76), (1, Value.int p1)] [Value.int r3] _ _
  refine x_iconst C (v := 1) (k_dg dt_X12_loopShares_0 8 13 (.iconst 1) 1 rfl) (by decide) ?_
  refine x_ixor C (k_dg dt_X12_loopShares_0 9 14 (.ixor) 1 rfl) ?_
  exact x_iret C (by decide) (by decide) (k_dg dt_X12_loopShares_0 10 15 (.ireturn) 1 rfl)
theorem c_X12_loopShares {Z : k_Z} (hg : k_Gd Z) (l : Launch) (p1 : Int32) (M : k_M) : Con true Z l yX12_loopShares cX12_loopShares 2 (some .int) 3 0 0 emI [k_ra Z 76, Value.int p1] M (f_X12_loopShares p1 M) := k_con hg (by decide) (Nat.le_of_ble_eq_true rfl) (fun G hl C => m_X12_loopShares_0 C p1 M)
theorem dt_X12_sharesIt_0 : k_dec cX12_sharesIt [(0, .aload_n 0, 1), (1, .getfield 343, 3), (4, .iconst 5, 1), (5, .if_icmp .ne 37, 3), (8, .aload_n 0, 1), (9, .bipush 60, 2), (11, .invokevirtual 346, 3), (14, .aload_n 0, 1), (15, .iload_n 1, 1), (16, .invokevirtual 370, 3), (19, .istore_n 2, 1), (20, .aload_n 0, 1), (21, .getfield 364, 3), (24, .ifCond .eq 7, 3), (27, .iconst 0, 1), (28, .goto 13, 3), (31, .iload_n 2, 1), (32, .aload_n 0, 1), (33, .aload_n 0, 1), (34, .getfield 358, 3), (37, .invokevirtual 373, 3), (40, .iadd, 1), (41, .ireturn, 1), (42, .aload_n 0, 1), (43, .getfield 343, 3), (46, .iconst 3, 1), (47, .if_icmp .ne 11, 3), (50, .aload_n 0, 1), (51, .iload_n 1, 1), (52, .invokevirtual 370, 3), (55, .goto 8, 3), (58, .aload_n 0, 1), (59, .iload_n 1, 1), (60, .invokevirtual 367, 3), (63, .ireturn, 1)] = true := by decide +kernel
def f_X12_sharesIt (p1 : Int32) (M : k_M) : Option (Int32 × k_M) := if (M.1 76 43) = 5 then bd (f_X12_ran 60 M) (fun r5 M6 => bd (f_X12_loopShares p1 M6) (fun r7 M8 => if (M8.1 76 48) = 0 then bd (f_X12_eatsIt (M8.1 76 45) M8) (fun r9 M10 => some (r7 + r9, M10)) else some (0, M8))) else if (M.1 76 43) = 3 then bd (f_X12_loopShares p1 M) (fun r3 M4 => some (r3, M4)) else bd (f_X12_plainShares p1 M) (fun r1 M2 => some (r1, M2))
theorem m_X12_sharesIt_0 {Z : k_Z} {G : k_G} (C : k_C Z G RX12 cX12_sharesIt (true, 3, 6, 0, 0) (some .int) "sharesIt") (p1 : Int32) (M : k_M) : Sm Z G emI (true, 3, 6, 0, 0) (0, 0) 0 [(0, k_ra Z 76), (1, Value.int p1)] [] M (f_X12_sharesIt p1 M) := by
  show Sm Z G emI _ _ _ _ _ _ (if (M.1 76 43) = 5 then bd (f_X12_ran 60 M) (fun r5 M6 => bd (f_X12_loopShares p1 M6) (fun r7 M8 => if (M8.1 76 48) = 0 then bd (f_X12_eatsIt (M8.1 76 45) M8) (fun r9 M10 => some (r7 + r9, M10)) else some (0, M8))) else if (M.1 76 43) = 3 then bd (f_X12_loopShares p1 M) (fun r3 M4 => some (r3, M4)) else bd (f_X12_plainShares p1 M) (fun r1 M2 => some (r1, M2)))
  refine x_aload_n C (k_dg dt_X12_sharesIt_0 0 0 (.aload_n 0) 1 rfl) 0 rfl ?_
  refine x_getI C (a := 76) (j := 43) rfl rfl (by decide) fl_RX12_343 rfl (k_dg dt_X12_sharesIt_0 1 1 (.getfield 343) 3 rfl) ?_
  refine x_iconst C (v := 5) (k_dg dt_X12_sharesIt_0 2 4 (.iconst 5) 1 rfl) (by decide) ?_
  refine x_icmp_ne C (tgt := 42) (k_dg dt_X12_sharesIt_0 3 5 (.if_icmp .ne 37) 3 rfl) (by decide) (fun _ => ?_) (fun _ => ?_)
  · refine x_aload_n C (k_dg dt_X12_sharesIt_0 4 8 (.aload_n 0) 1 rfl) 0 rfl ?_
    refine x_bipush C (v := 60) (k_dg dt_X12_sharesIt_0 5 9 (.bipush 60) 2 rfl) (by decide) ?_
    refine x_callV C (a := 76) (kd := 10) (vs := [Value.int 60]) (rest := []) rfl rfl (by decide) (fun r hr => by cases hr; rfl) (c_X12_ran C.2.2.2.2.2.2.2.2.2 G.2.1 60 M) cy_X12_ran lk_RX12_346 im_X12_ran se_X12_ran (by decide) (by decide) (by decide) (by decide) rfl rfl (Nat.le_of_ble_eq_true rfl) (k_dg dt_X12_sharesIt_0 6 11 (.invokevirtual 346) 3 rfl) (fun r5 M6 => ?_)
    show Sm Z G _ _ _ _ [(0, k_ra Z 76), (1, Value.int p1)] [] _ _
    refine x_aload_n C (k_dg dt_X12_sharesIt_0 7 14 (.aload_n 0) 1 rfl) 0 rfl ?_
    refine x_iload_n C (k_dg dt_X12_sharesIt_0 8 15 (.iload_n 1) 1 rfl) 1 rfl ?_
    refine x_callV C (a := 76) (kd := 10) (vs := [Value.int p1]) (rest := []) rfl rfl (by decide) (fun r hr => by cases hr; rfl) (c_X12_loopShares C.2.2.2.2.2.2.2.2.2 G.2.1 p1 M6) cy_X12_loopShares lk_RX12_370 im_X12_loopShares se_X12_loopShares (by decide) (by decide) (by decide) (by decide) rfl rfl (Nat.le_of_ble_eq_true rfl) (k_dg dt_X12_sharesIt_0 9 16 (.invokevirtual 370) 3 rfl) (fun r7 M8 => ?_)
    show Sm Z G _ _ _ _ [(0, k_ra Z 76), (1, Value.int p1)] [Value.int r7] _ _
    refine x_istore_n C (lv' := [(2, Value.int r7), (0, k_ra Z 76), (1, Value.int p1)]) (k_dg dt_X12_sharesIt_0 10 19 (.istore_n 2) 1 rfl) (by decide) rfl ?_
    refine x_aload_n C (k_dg dt_X12_sharesIt_0 11 20 (.aload_n 0) 1 rfl) 1 rfl ?_
    refine x_getI C (a := 76) (j := 48) rfl rfl (by decide) fl_RX12_364 rfl (k_dg dt_X12_sharesIt_0 12 21 (.getfield 364) 3 rfl) ?_
    refine x_if_eq C (tgt := 31) (k_dg dt_X12_sharesIt_0 13 24 (.ifCond .eq 7) 3 rfl) (by decide) (fun _ => ?_) (fun _ => ?_)
    · refine x_iload_n C (k_dg dt_X12_sharesIt_0 16 31 (.iload_n 2) 1 rfl) 0 rfl ?_
      refine x_aload_n C (k_dg dt_X12_sharesIt_0 17 32 (.aload_n 0) 1 rfl) 1 rfl ?_
      refine x_aload_n C (k_dg dt_X12_sharesIt_0 18 33 (.aload_n 0) 1 rfl) 1 rfl ?_
      refine x_getI C (a := 76) (j := 45) rfl rfl (by decide) fl_RX12_358 rfl (k_dg dt_X12_sharesIt_0 19 34 (.getfield 358) 3 rfl) ?_
      refine x_callV C (a := 76) (kd := 10) (vs := [Value.int (M8.1 76 45)]) (rest := [Value.int r7]) rfl rfl (by decide) (fun r hr => by cases hr; rfl) (c_X12_eatsIt C.2.2.2.2.2.2.2.2.2 G.2.1 (M8.1 76 45) M8) cy_X12_eatsIt lk_RX12_373 im_X12_eatsIt se_X12_eatsIt (by decide) (by decide) (by decide) (by decide) rfl rfl (Nat.le_of_ble_eq_true rfl) (k_dg dt_X12_sharesIt_0 20 37 (.invokevirtual 373) 3 rfl) (fun r9 M10 => ?_)
      show Sm Z G _ _ _ _ [(2, Value.int r7), (0, k_ra Z 76), (1, Value.int p1)] [Value.int r9, Value.int r7] _ _
      refine x_iadd C (k_dg dt_X12_sharesIt_0 21 40 (.iadd) 1 rfl) ?_
      exact x_iret C (by decide) (by decide) (k_dg dt_X12_sharesIt_0 22 41 (.ireturn) 1 rfl)
    · refine x_iconst C (v := 0) (k_dg dt_X12_sharesIt_0 14 27 (.iconst 0) 1 rfl) (by decide) ?_
      refine x_goto C (tgt := 41) (k_dg dt_X12_sharesIt_0 15 28 (.goto 13) 3 rfl) (by decide) ?_
      exact x_iret C (by decide) (by decide) (k_dg dt_X12_sharesIt_0 22 41 (.ireturn) 1 rfl)
  · refine x_aload_n C (k_dg dt_X12_sharesIt_0 23 42 (.aload_n 0) 1 rfl) 0 rfl ?_
    refine x_getI C (a := 76) (j := 43) rfl rfl (by decide) fl_RX12_343 rfl (k_dg dt_X12_sharesIt_0 24 43 (.getfield 343) 3 rfl) ?_
    refine x_iconst C (v := 3) (k_dg dt_X12_sharesIt_0 25 46 (.iconst 3) 1 rfl) (by decide) ?_
    refine x_icmp_ne C (tgt := 58) (k_dg dt_X12_sharesIt_0 26 47 (.if_icmp .ne 11) 3 rfl) (by decide) (fun _ => ?_) (fun _ => ?_)
    · refine x_aload_n C (k_dg dt_X12_sharesIt_0 27 50 (.aload_n 0) 1 rfl) 0 rfl ?_
      refine x_iload_n C (k_dg dt_X12_sharesIt_0 28 51 (.iload_n 1) 1 rfl) 1 rfl ?_
      refine x_callV C (a := 76) (kd := 10) (vs := [Value.int p1]) (rest := []) rfl rfl (by decide) (fun r hr => by cases hr; rfl) (c_X12_loopShares C.2.2.2.2.2.2.2.2.2 G.2.1 p1 M) cy_X12_loopShares lk_RX12_370 im_X12_loopShares se_X12_loopShares (by decide) (by decide) (by decide) (by decide) rfl rfl (Nat.le_of_ble_eq_true rfl) (k_dg dt_X12_sharesIt_0 29 52 (.invokevirtual 370) 3 rfl) (fun r3 M4 => ?_)
      show Sm Z G _ _ _ _ [(0, k_ra Z 76), (1, Value.int p1)] [Value.int r3] _ _
      refine x_goto C (tgt := 63) (k_dg dt_X12_sharesIt_0 30 55 (.goto 8) 3 rfl) (by decide) ?_
      exact x_iret C (by decide) (by decide) (k_dg dt_X12_sharesIt_0 34 63 (.ireturn) 1 rfl)
    · refine x_aload_n C (k_dg dt_X12_sharesIt_0 31 58 (.aload_n 0) 1 rfl) 0 rfl ?_
      refine x_iload_n C (k_dg dt_X12_sharesIt_0 32 59 (.iload_n 1) 1 rfl) 1 rfl ?_
      refine x_callV C (a := 76) (kd := 10) (vs := [Value.int p1]) (rest := []) rfl rfl (by decide) (fun r hr => by cases hr; rfl) (c_X12_plainShares C.2.2.2.2.2.2.2.2.2 G.2.1 p1 M) cy_X12_plainShares lk_RX12_367 im_X12_plainShares se_X12_plainShares (by decide) (by decide) (by decide) (by decide) rfl rfl (Nat.le_of_ble_eq_true rfl) (k_dg dt_X12_sharesIt_0 33 60 (.invokevirtual 367) 3 rfl) (fun r1 M2 => ?_)
      show Sm Z G _ _ _ _ [(0, k_ra Z 76), (1, Value.int p1)] [Value.int r1] _ _
      exact x_iret C (by decide) (by decide) (k_dg dt_X12_sharesIt_0 34 63 (.ireturn) 1 rfl)
theorem c_X12_sharesIt {Z : k_Z} (hg : k_Gd Z) (l : Launch) (p1 : Int32) (M : k_M) : Con true Z l yX12_sharesIt cX12_sharesIt 3 (some .int) 6 0 0 emI [k_ra Z 76, Value.int p1] M (f_X12_sharesIt p1 M) := k_con hg (by decide) (Nat.le_of_ble_eq_true rfl) (fun G hl C => m_X12_sharesIt_0 C p1 M)
theorem dt_X12_plainTells_0 : k_dec cX12_plainTells [(0, .aload_n 0, 1), (1, .bipush 13, 2), (3, .invokevirtual 346, 3), (6, .aload_n 0, 1), (7, .iload_n 1, 1), (8, .invokevirtual 373, 3), (11, .aload_n 0, 1), (12, .getfield 358, 3), (15, .ixor, 1), (16, .ireturn, 1)] = true := by decide +kernel
def f_X12_plainTells (p1 : Int32) (M : k_M) : Option (Int32 × k_M) := bd (f_X12_ran 13 M) (fun r1 M2 => bd (f_X12_eatsIt p1 M2) (fun r3 M4 => some (r3 ^^^ (M4.1 76 45), M4)))
theorem m_X12_plainTells_0 {Z : k_Z} {G : k_G} (C : k_C Z G RX12 cX12_plainTells (true, 2, 6, 0, 0) (some .int) "plainTells") (p1 : Int32) (M : k_M) : Sm Z G emI (true, 2, 6, 0, 0) (0, 0) 0 [(0, k_ra Z 76), (1, Value.int p1)] [] M (f_X12_plainTells p1 M) := by
  show Sm Z G emI _ _ _ _ _ _ (bd (f_X12_ran 13 M) (fun r1 M2 => bd (f_X12_eatsIt p1 M2) (fun r3 M4 => some (r3 ^^^ (M4.1 76 45), M4))))
  refine x_aload_n C (k_dg dt_X12_plainTells_0 0 0 (.aload_n 0) 1 rfl) 0 rfl ?_
  refine x_bipush C (v := 13) (k_dg dt_X12_plainTells_0 1 1 (.bipush 13) 2 rfl) (by decide) ?_
  refine x_callV C (a := 76) (kd := 10) (vs := [Value.int 13]) (rest := []) rfl rfl (by decide) (fun r hr => by cases hr; rfl) (c_X12_ran C.2.2.2.2.2.2.2.2.2 G.2.1 13 M) cy_X12_ran lk_RX12_346 im_X12_ran se_X12_ran (by decide) (by decide) (by decide) (by decide) rfl rfl (Nat.le_of_ble_eq_true rfl) (k_dg dt_X12_plainTells_0 2 3 (.invokevirtual 346) 3 rfl) (fun r1 M2 => ?_)
  show Sm Z G _ _ _ _ [(0, k_ra Z 76), (1, Value.int p1)] [] _ _
  refine x_aload_n C (k_dg dt_X12_plainTells_0 3 6 (.aload_n 0) 1 rfl) 0 rfl ?_
  refine x_iload_n C (k_dg dt_X12_plainTells_0 4 7 (.iload_n 1) 1 rfl) 1 rfl ?_
  refine x_callV C (a := 76) (kd := 10) (vs := [Value.int p1]) (rest := []) rfl rfl (by decide) (fun r hr => by cases hr; rfl) (c_X12_eatsIt C.2.2.2.2.2.2.2.2.2 G.2.1 p1 M2) cy_X12_eatsIt lk_RX12_373 im_X12_eatsIt se_X12_eatsIt (by decide) (by decide) (by decide) (by decide) rfl rfl (Nat.le_of_ble_eq_true rfl) (k_dg dt_X12_plainTells_0 5 8 (.invokevirtual 373) 3 rfl) (fun r3 M4 => ?_)
  show Sm Z G _ _ _ _ [(0, k_ra Z 76), (1, Value.int p1)] [Value.int r3] _ _
  refine x_aload_n C (k_dg dt_X12_plainTells_0 6 11 (.aload_n 0) 1 rfl) 0 rfl ?_
  refine x_getI C (a := 76) (j := 45) rfl rfl (by decide) fl_RX12_358 rfl (k_dg dt_X12_plainTells_0 7 12 (.getfield 358) 3 rfl) ?_
  refine x_ixor C (k_dg dt_X12_plainTells_0 8 15 (.ixor) 1 rfl) ?_
  exact x_iret C (by decide) (by decide) (k_dg dt_X12_plainTells_0 9 16 (.ireturn) 1 rfl)
theorem c_X12_plainTells {Z : k_Z} (hg : k_Gd Z) (l : Launch) (p1 : Int32) (M : k_M) : Con true Z l yX12_plainTells cX12_plainTells 2 (some .int) 6 0 0 emI [k_ra Z 76, Value.int p1] M (f_X12_plainTells p1 M) := k_con hg (by decide) (Nat.le_of_ble_eq_true rfl) (fun G hl C => m_X12_plainTells_0 C p1 M)
theorem dt_X12_tellsIt_0 : k_dec cX12_tellsIt [(0, .aload_n 0, 1), (1, .getfield 343, 3), (4, .iconst 2, 1), (5, .if_icmp .eq 11, 3), (8, .aload_n 0, 1), (9, .getfield 343, 3), (12, .iconst 4, 1), (13, .if_icmp .ne 26, 3), (16, .aload_n 0, 1), (17, .bipush 31, 2), (19, .invokevirtual 346, 3), (22, .aload_n 0, 1), (23, .iload_n 1, 1), (24, .invokevirtual 376, 3), (27, .istore_n 2, 1), (28, .iload_n 2, 1), (29, .aload_n 0, 1), (30, .aload_n 0, 1), (31, .getfield 349, 3), (34, .invokevirtual 379, 3), (37, .iadd, 1), (38, .ireturn, 1), (39, .aload_n 0, 1), (40, .getfield 343, 3), (43, .iconst 5, 1), (44, .if_icmp .ne 17, 3), (47, .aload_n 0, 1), (48, .bipush 61, 2), (50, .invokevirtual 346, 3), (53, .aload_n 0, 1), (54, .iload_n 1, 1), (55, .invokevirtual 376, 3), (58, .iconst 2, 1), (59, .imul, 1), (60, .ireturn, 1), (61, .aload_n 0, 1), (62, .iload_n 1, 1), (63, .invokevirtual 376, 3), (66, .ireturn, 1)] = true := by decide +kernel
def f_X12_tellsIt_16 (l1 : Int32) (M : k_M) : Option (Int32 × k_M) := bd (f_X12_ran 31 M) (fun r1 M2 => bd (f_X12_plainTells l1 M2) (fun r3 M4 => bd (f_X12_sharesIt (M4.1 76 44) M4) (fun r5 M6 => some (r3 + r5, M6))))
theorem m_X12_tellsIt_16 {Z : k_Z} {G : k_G} (C : k_C Z G RX12 cX12_tellsIt (true, 3, 7, 0, 0) (some .int) "tellsIt") (l1 : Int32) (M : k_M) : Sm Z G emI (true, 3, 7, 0, 0) (0, 0) 16 [(0, k_ra Z 76), (1, Value.int l1)] [] M (f_X12_tellsIt_16 l1 M) := by
  show Sm Z G emI _ _ _ _ _ _ (bd (f_X12_ran 31 M) (fun r1 M2 => bd (f_X12_plainTells l1 M2) (fun r3 M4 => bd (f_X12_sharesIt (M4.1 76 44) M4) (fun r5 M6 => some (r3 + r5, M6)))))
  refine x_aload_n C (k_dg dt_X12_tellsIt_0 8 16 (.aload_n 0) 1 rfl) 0 rfl ?_
  refine x_bipush C (v := 31) (k_dg dt_X12_tellsIt_0 9 17 (.bipush 31) 2 rfl) (by decide) ?_
  refine x_callV C (a := 76) (kd := 10) (vs := [Value.int 31]) (rest := []) rfl rfl (by decide) (fun r hr => by cases hr; rfl) (c_X12_ran C.2.2.2.2.2.2.2.2.2 G.2.1 31 M) cy_X12_ran lk_RX12_346 im_X12_ran se_X12_ran (by decide) (by decide) (by decide) (by decide) rfl rfl (Nat.le_of_ble_eq_true rfl) (k_dg dt_X12_tellsIt_0 10 19 (.invokevirtual 346) 3 rfl) (fun r1 M2 => ?_)
  show Sm Z G _ _ _ _ [(0, k_ra Z 76), (1, Value.int l1)] [] _ _
  refine x_aload_n C (k_dg dt_X12_tellsIt_0 11 22 (.aload_n 0) 1 rfl) 0 rfl ?_
  refine x_iload_n C (k_dg dt_X12_tellsIt_0 12 23 (.iload_n 1) 1 rfl) 1 rfl ?_
  refine x_callV C (a := 76) (kd := 10) (vs := [Value.int l1]) (rest := []) rfl rfl (by decide) (fun r hr => by cases hr; rfl) (c_X12_plainTells C.2.2.2.2.2.2.2.2.2 G.2.1 l1 M2) cy_X12_plainTells lk_RX12_376 im_X12_plainTells se_X12_plainTells (by decide) (by decide) (by decide) (by decide) rfl rfl (Nat.le_of_ble_eq_true rfl) (k_dg dt_X12_tellsIt_0 13 24 (.invokevirtual 376) 3 rfl) (fun r3 M4 => ?_)
  show Sm Z G _ _ _ _ [(0, k_ra Z 76), (1, Value.int l1)] [Value.int r3] _ _
  refine x_istore_n C (lv' := [(2, Value.int r3), (0, k_ra Z 76), (1, Value.int l1)]) (k_dg dt_X12_tellsIt_0 14 27 (.istore_n 2) 1 rfl) (by decide) rfl ?_
  refine x_iload_n C (k_dg dt_X12_tellsIt_0 15 28 (.iload_n 2) 1 rfl) 0 rfl ?_
  refine x_aload_n C (k_dg dt_X12_tellsIt_0 16 29 (.aload_n 0) 1 rfl) 1 rfl ?_
  refine x_aload_n C (k_dg dt_X12_tellsIt_0 17 30 (.aload_n 0) 1 rfl) 1 rfl ?_
  refine x_getI C (a := 76) (j := 44) rfl rfl (by decide) fl_RX12_349 rfl (k_dg dt_X12_tellsIt_0 18 31 (.getfield 349) 3 rfl) ?_
  refine x_callV C (a := 76) (kd := 10) (vs := [Value.int (M4.1 76 44)]) (rest := [Value.int r3]) rfl rfl (by decide) (fun r hr => by cases hr; rfl) (c_X12_sharesIt C.2.2.2.2.2.2.2.2.2 G.2.1 (M4.1 76 44) M4) cy_X12_sharesIt lk_RX12_379 im_X12_sharesIt se_X12_sharesIt (by decide) (by decide) (by decide) (by decide) rfl rfl (Nat.le_of_ble_eq_true rfl) (k_dg dt_X12_tellsIt_0 19 34 (.invokevirtual 379) 3 rfl) (fun r5 M6 => ?_)
  show Sm Z G _ _ _ _ [(2, Value.int r3), (0, k_ra Z 76), (1, Value.int l1)] [Value.int r5, Value.int r3] _ _
  refine x_iadd C (k_dg dt_X12_tellsIt_0 20 37 (.iadd) 1 rfl) ?_
  exact x_iret C (by decide) (by decide) (k_dg dt_X12_tellsIt_0 21 38 (.ireturn) 1 rfl)
def f_X12_tellsIt (p1 : Int32) (M : k_M) : Option (Int32 × k_M) := if (M.1 76 43) = 2 then f_X12_tellsIt_16 p1 M else if (M.1 76 43) = 4 then f_X12_tellsIt_16 p1 M else if (M.1 76 43) = 5 then bd (f_X12_ran 61 M) (fun r3 M4 => bd (f_X12_plainTells p1 M4) (fun r5 M6 => some (r5 * 2, M6))) else bd (f_X12_plainTells p1 M) (fun r1 M2 => some (r1, M2))
theorem m_X12_tellsIt_0 {Z : k_Z} {G : k_G} (C : k_C Z G RX12 cX12_tellsIt (true, 3, 7, 0, 0) (some .int) "tellsIt") (p1 : Int32) (M : k_M) : Sm Z G emI (true, 3, 7, 0, 0) (0, 0) 0 [(0, k_ra Z 76), (1, Value.int p1)] [] M (f_X12_tellsIt p1 M) := by
  show Sm Z G emI _ _ _ _ _ _ (if (M.1 76 43) = 2 then f_X12_tellsIt_16 p1 M else if (M.1 76 43) = 4 then f_X12_tellsIt_16 p1 M else if (M.1 76 43) = 5 then bd (f_X12_ran 61 M) (fun r3 M4 => bd (f_X12_plainTells p1 M4) (fun r5 M6 => some (r5 * 2, M6))) else bd (f_X12_plainTells p1 M) (fun r1 M2 => some (r1, M2)))
  refine x_aload_n C (k_dg dt_X12_tellsIt_0 0 0 (.aload_n 0) 1 rfl) 0 rfl ?_
  refine x_getI C (a := 76) (j := 43) rfl rfl (by decide) fl_RX12_343 rfl (k_dg dt_X12_tellsIt_0 1 1 (.getfield 343) 3 rfl) ?_
  refine x_iconst C (v := 2) (k_dg dt_X12_tellsIt_0 2 4 (.iconst 2) 1 rfl) (by decide) ?_
  refine x_icmp_eq C (tgt := 16) (k_dg dt_X12_tellsIt_0 3 5 (.if_icmp .eq 11) 3 rfl) (by decide) (fun _ => ?_) (fun _ => ?_)
  · exact m_X12_tellsIt_16 C p1 M
  · refine x_aload_n C (k_dg dt_X12_tellsIt_0 4 8 (.aload_n 0) 1 rfl) 0 rfl ?_
    refine x_getI C (a := 76) (j := 43) rfl rfl (by decide) fl_RX12_343 rfl (k_dg dt_X12_tellsIt_0 5 9 (.getfield 343) 3 rfl) ?_
    refine x_iconst C (v := 4) (k_dg dt_X12_tellsIt_0 6 12 (.iconst 4) 1 rfl) (by decide) ?_
    refine x_icmp_ne C (tgt := 39) (k_dg dt_X12_tellsIt_0 7 13 (.if_icmp .ne 26) 3 rfl) (by decide) (fun _ => ?_) (fun _ => ?_)
    · exact m_X12_tellsIt_16 C p1 M
    · refine x_aload_n C (k_dg dt_X12_tellsIt_0 22 39 (.aload_n 0) 1 rfl) 0 rfl ?_
      refine x_getI C (a := 76) (j := 43) rfl rfl (by decide) fl_RX12_343 rfl (k_dg dt_X12_tellsIt_0 23 40 (.getfield 343) 3 rfl) ?_
      refine x_iconst C (v := 5) (k_dg dt_X12_tellsIt_0 24 43 (.iconst 5) 1 rfl) (by decide) ?_
      refine x_icmp_ne C (tgt := 61) (k_dg dt_X12_tellsIt_0 25 44 (.if_icmp .ne 17) 3 rfl) (by decide) (fun _ => ?_) (fun _ => ?_)
      · refine x_aload_n C (k_dg dt_X12_tellsIt_0 26 47 (.aload_n 0) 1 rfl) 0 rfl ?_
        refine x_bipush C (v := 61) (k_dg dt_X12_tellsIt_0 27 48 (.bipush 61) 2 rfl) (by decide) ?_
        refine x_callV C (a := 76) (kd := 10) (vs := [Value.int 61]) (rest := []) rfl rfl (by decide) (fun r hr => by cases hr; rfl) (c_X12_ran C.2.2.2.2.2.2.2.2.2 G.2.1 61 M) cy_X12_ran lk_RX12_346 im_X12_ran se_X12_ran (by decide) (by decide) (by decide) (by decide) rfl rfl (Nat.le_of_ble_eq_true rfl) (k_dg dt_X12_tellsIt_0 28 50 (.invokevirtual 346) 3 rfl) (fun r3 M4 => ?_)
        show Sm Z G _ _ _ _ [(0, k_ra Z 76), (1, Value.int p1)] [] _ _
        refine x_aload_n C (k_dg dt_X12_tellsIt_0 29 53 (.aload_n 0) 1 rfl) 0 rfl ?_
        refine x_iload_n C (k_dg dt_X12_tellsIt_0 30 54 (.iload_n 1) 1 rfl) 1 rfl ?_
        refine x_callV C (a := 76) (kd := 10) (vs := [Value.int p1]) (rest := []) rfl rfl (by decide) (fun r hr => by cases hr; rfl) (c_X12_plainTells C.2.2.2.2.2.2.2.2.2 G.2.1 p1 M4) cy_X12_plainTells lk_RX12_376 im_X12_plainTells se_X12_plainTells (by decide) (by decide) (by decide) (by decide) rfl rfl (Nat.le_of_ble_eq_true rfl) (k_dg dt_X12_tellsIt_0 31 55 (.invokevirtual 376) 3 rfl) (fun r5 M6 => ?_)
        show Sm Z G _ _ _ _ [(0, k_ra Z 76), (1, Value.int p1)] [Value.int r5] _ _
        refine x_iconst C (v := 2) (k_dg dt_X12_tellsIt_0 32 58 (.iconst 2) 1 rfl) (by decide) ?_
        refine x_imul C (k_dg dt_X12_tellsIt_0 33 59 (.imul) 1 rfl) ?_
        exact x_iret C (by decide) (by decide) (k_dg dt_X12_tellsIt_0 34 60 (.ireturn) 1 rfl)
      · refine x_aload_n C (k_dg dt_X12_tellsIt_0 35 61 (.aload_n 0) 1 rfl) 0 rfl ?_
        refine x_iload_n C (k_dg dt_X12_tellsIt_0 36 62 (.iload_n 1) 1 rfl) 1 rfl ?_
        refine x_callV C (a := 76) (kd := 10) (vs := [Value.int p1]) (rest := []) rfl rfl (by decide) (fun r hr => by cases hr; rfl) (c_X12_plainTells C.2.2.2.2.2.2.2.2.2 G.2.1 p1 M) cy_X12_plainTells lk_RX12_376 im_X12_plainTells se_X12_plainTells (by decide) (by decide) (by decide) (by decide) rfl rfl (Nat.le_of_ble_eq_true rfl) (k_dg dt_X12_tellsIt_0 37 63 (.invokevirtual 376) 3 rfl) (fun r1 M2 => ?_)
        show Sm Z G _ _ _ _ [(0, k_ra Z 76), (1, Value.int p1)] [Value.int r1] _ _
        exact x_iret C (by decide) (by decide) (k_dg dt_X12_tellsIt_0 38 66 (.ireturn) 1 rfl)
theorem c_X12_tellsIt {Z : k_Z} (hg : k_Gd Z) (l : Launch) (p1 : Int32) (M : k_M) : Con true Z l yX12_tellsIt cX12_tellsIt 3 (some .int) 7 0 0 emI [k_ra Z 76, Value.int p1] M (f_X12_tellsIt p1 M) := k_con hg (by decide) (Nat.le_of_ble_eq_true rfl) (fun G hl C => m_X12_tellsIt_0 C p1 M)
