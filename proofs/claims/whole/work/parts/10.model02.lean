theorem fl_RX12_266 : k_FL RX12 266 10 26 := ⟨(RX12, TX12, 53), "WheelCityModel", rfl, by decide, iu_10, Or.inl (List.mem_of_getElem? (i := 1122) (by decide +kernel)), Or.inl rfl⟩
theorem fl_RX12_284 : k_FL RX12 284 10 32 := ⟨(RX12, TX12, 53), "WheelCityModel", rfl, by decide, iu_10, Or.inl (List.mem_of_getElem? (i := 1128) (by decide +kernel)), Or.inl rfl⟩
theorem fl_RX12_287 : k_FL RX12 287 10 33 := ⟨(RX12, TX12, 53), "WheelCityModel", rfl, by decide, iu_10, Or.inl (List.mem_of_getElem? (i := 1129) (by decide +kernel)), Or.inl rfl⟩
theorem fl_RX12_40 : k_FL RX12 40 10 24 := ⟨(RX12, TX12, 53), "WheelCityModel", rfl, by decide, iu_10, Or.inl (List.mem_of_getElem? (i := 1120) (by decide +kernel)), Or.inl rfl⟩
theorem fl_RX12_43 : k_FL RX12 43 10 25 := ⟨(RX12, TX12, 53), "WheelCityModel", rfl, by decide, iu_10, Or.inl (List.mem_of_getElem? (i := 1121) (by decide +kernel)), Or.inl rfl⟩
theorem fl_RX12_46 : k_FL RX12 46 10 27 := ⟨(RX12, TX12, 53), "WheelCityModel", rfl, by decide, iu_10, Or.inl (List.mem_of_getElem? (i := 1123) (by decide +kernel)), Or.inl rfl⟩
theorem fl_RX12_49 : k_FL RX12 49 10 28 := ⟨(RX12, TX12, 53), "WheelCityModel", rfl, by decide, iu_10, Or.inl (List.mem_of_getElem? (i := 1124) (by decide +kernel)), Or.inl rfl⟩
theorem fl_RX12_52 : k_FL RX12 52 10 29 := ⟨(RX12, TX12, 53), "WheelCityModel", rfl, by decide, iu_10, Or.inl (List.mem_of_getElem? (i := 1125) (by decide +kernel)), Or.inl rfl⟩
theorem fl_RX12_55 : k_FL RX12 55 10 30 := ⟨(RX12, TX12, 53), "WheelCityModel", rfl, by decide, iu_10, Or.inl (List.mem_of_getElem? (i := 1126) (by decide +kernel)), Or.inl rfl⟩
theorem fl_RX12_58 : k_FL RX12 58 10 31 := ⟨(RX12, TX12, 53), "WheelCityModel", rfl, by decide, iu_10, Or.inl (List.mem_of_getElem? (i := 1127) (by decide +kernel)), Or.inl rfl⟩
theorem fl_RX12_61 : k_FL RX12 61 10 34 := ⟨(RX12, TX12, 53), "WheelCityModel", rfl, by decide, iu_10, Or.inl (List.mem_of_getElem? (i := 1130) (by decide +kernel)), Or.inl rfl⟩
theorem pt_10_26 : k_cls 10 26 .int := fun r hr => by cases hr; exact ⟨rfl, by decide +kernel⟩
theorem pt_10_32 : k_cls 10 32 .int := fun r hr => by cases hr; exact ⟨rfl, by decide +kernel⟩
theorem pt_10_33 : k_cls 10 33 .int := fun r hr => by cases hr; exact ⟨rfl, by decide +kernel⟩
theorem cy_X12_becomes : k_cy yX12_becomes cX12_becomes 3 none 1 := ⟨List.mem_of_getElem? (i := 1430) (by decide +kernel), List.mem_of_getElem? (i := 112) (by decide +kernel), ⟨by decide +kernel, by decide +kernel⟩, by decide +kernel⟩
theorem cy_X12_doesIt : k_cy yX12_doesIt cX12_doesIt 3 (some .int) 1 := ⟨List.mem_of_getElem? (i := 1426) (by decide +kernel), List.mem_of_getElem? (i := 112) (by decide +kernel), ⟨by decide +kernel, by decide +kernel⟩, by decide +kernel⟩
theorem cy_X12_down : k_cy yX12_down cX12_down 5 (some .int) 3 := ⟨List.mem_of_getElem? (i := 1468) (by decide +kernel), List.mem_of_getElem? (i := 112) (by decide +kernel), ⟨by decide +kernel, by decide +kernel⟩, by decide +kernel⟩
theorem cy_X12_findBest : k_cy yX12_findBest cX12_findBest 6 (some .int) 1 := ⟨List.mem_of_getElem? (i := 1445) (by decide +kernel), List.mem_of_getElem? (i := 112) (by decide +kernel), ⟨by decide +kernel, by decide +kernel⟩, by decide +kernel⟩
theorem cy_X12_findSurest : k_cy yX12_findSurest cX12_findSurest 8 (some .int) 1 := ⟨List.mem_of_getElem? (i := 1457) (by decide +kernel), List.mem_of_getElem? (i := 112) (by decide +kernel), ⟨by decide +kernel, by decide +kernel⟩, by decide +kernel⟩
theorem cy_X12_goes : k_cy yX12_goes cX12_goes 12 (some .int) 3 := ⟨List.mem_of_getElem? (i := 1395) (by decide +kernel), List.mem_of_getElem? (i := 112) (by decide +kernel), ⟨by decide +kernel, by decide +kernel⟩, by decide +kernel⟩
theorem cy_X12_isOnMeadow : k_cy yX12_isOnMeadow cX12_isOnMeadow 2 (some .boolean) 1 := ⟨List.mem_of_getElem? (i := 1464) (by decide +kernel), List.mem_of_getElem? (i := 112) (by decide +kernel), ⟨by decide +kernel, by decide +kernel⟩, by decide +kernel⟩
theorem cy_X12_isSide : k_cy yX12_isSide cX12_isSide 1 (some .boolean) 1 := ⟨List.mem_of_getElem? (i := 1441) (by decide +kernel), List.mem_of_getElem? (i := 112) (by decide +kernel), ⟨by decide +kernel, by decide +kernel⟩, by decide +kernel⟩
theorem cy_X12_lowest : k_cy yX12_lowest cX12_lowest 6 none 2 := ⟨List.mem_of_getElem? (i := 1472) (by decide +kernel), List.mem_of_getElem? (i := 112) (by decide +kernel), ⟨by decide +kernel, by decide +kernel⟩, by decide +kernel⟩
theorem cy_X12_nearer : k_cy yX12_nearer cX12_nearer 4 none 3 := ⟨List.mem_of_getElem? (i := 1488) (by decide +kernel), List.mem_of_getElem? (i := 112) (by decide +kernel), ⟨by decide +kernel, by decide +kernel⟩, by decide +kernel⟩
theorem cy_X12_power : k_cy yX12_power cX12_power 1 (some .int) 1 := ⟨List.mem_of_getElem? (i := 1460) (by decide +kernel), List.mem_of_getElem? (i := 112) (by decide +kernel), ⟨by decide +kernel, by decide +kernel⟩, by decide +kernel⟩
theorem lk_RX12_256 : k_lk RX12 256 yX12_goes := Or.inl (List.mem_of_getElem? (i := 1392) (by decide +kernel))
theorem lk_RX12_259 : k_lk RX12 259 yX12_becomes := Or.inl (List.mem_of_getElem? (i := 1427) (by decide +kernel))
theorem lk_RX12_263 : k_lk RX12 263 yX12_doesIt := Or.inl (List.mem_of_getElem? (i := 1423) (by decide +kernel))
theorem lk_RX12_269 : k_lk RX12 269 yX12_isSide := Or.inl (List.mem_of_getElem? (i := 1439) (by decide +kernel))
theorem lk_RX12_272 : k_lk RX12 272 yX12_findBest := Or.inl (List.mem_of_getElem? (i := 1442) (by decide +kernel))
theorem lk_RX12_275 : k_lk RX12 275 yX12_power := Or.inl (List.mem_of_getElem? (i := 1458) (by decide +kernel))
theorem lk_RX12_278 : k_lk RX12 278 yX12_isOnMeadow := Or.inl (List.mem_of_getElem? (i := 1461) (by decide +kernel))
theorem lk_RX12_281 : k_lk RX12 281 yX12_down := Or.inl (List.mem_of_getElem? (i := 1465) (by decide +kernel))
theorem lk_RX12_290 : k_lk RX12 290 yX12_findSurest := Or.inl (List.mem_of_getElem? (i := 1454) (by decide +kernel))
theorem lk_RX12_293 : k_lk RX12 293 yX12_lowest := Or.inl (List.mem_of_getElem? (i := 1469) (by decide +kernel))
theorem lk_RX12_296 : k_lk RX12 296 yX12_nearer := Or.inl (List.mem_of_getElem? (i := 1485) (by decide +kernel))
theorem im_X12_becomes : Cond.instanceMethod yX12_becomes ∈ lw_tbl := List.mem_of_getElem? (i := 1429) (by decide +kernel)
theorem im_X12_doesIt : Cond.instanceMethod yX12_doesIt ∈ lw_tbl := List.mem_of_getElem? (i := 1425) (by decide +kernel)
theorem im_X12_down : Cond.instanceMethod yX12_down ∈ lw_tbl := List.mem_of_getElem? (i := 1467) (by decide +kernel)
theorem im_X12_findBest : Cond.instanceMethod yX12_findBest ∈ lw_tbl := List.mem_of_getElem? (i := 1444) (by decide +kernel)
theorem im_X12_findSurest : Cond.instanceMethod yX12_findSurest ∈ lw_tbl := List.mem_of_getElem? (i := 1456) (by decide +kernel)
theorem im_X12_goes : Cond.instanceMethod yX12_goes ∈ lw_tbl := List.mem_of_getElem? (i := 1394) (by decide +kernel)
theorem im_X12_isOnMeadow : Cond.instanceMethod yX12_isOnMeadow ∈ lw_tbl := List.mem_of_getElem? (i := 1463) (by decide +kernel)
theorem im_X12_lowest : Cond.instanceMethod yX12_lowest ∈ lw_tbl := List.mem_of_getElem? (i := 1471) (by decide +kernel)
theorem im_X12_nearer : Cond.instanceMethod yX12_nearer ∈ lw_tbl := List.mem_of_getElem? (i := 1487) (by decide +kernel)
theorem se_X12_becomes : Cond.selects yX12_becomes.cls yX12_becomes yX12_becomes ∈ lw_tbl := List.mem_of_getElem? (i := 77) (by decide +kernel)
theorem se_X12_doesIt : Cond.selects yX12_doesIt.cls yX12_doesIt yX12_doesIt ∈ lw_tbl := List.mem_of_getElem? (i := 76) (by decide +kernel)
theorem se_X12_down : Cond.selects yX12_down.cls yX12_down yX12_down ∈ lw_tbl := List.mem_of_getElem? (i := 81) (by decide +kernel)
theorem se_X12_findBest : Cond.selects yX12_findBest.cls yX12_findBest yX12_findBest ∈ lw_tbl := List.mem_of_getElem? (i := 78) (by decide +kernel)
theorem se_X12_findSurest : Cond.selects yX12_findSurest.cls yX12_findSurest yX12_findSurest ∈ lw_tbl := List.mem_of_getElem? (i := 79) (by decide +kernel)
theorem se_X12_goes : Cond.selects yX12_goes.cls yX12_goes yX12_goes ∈ lw_tbl := List.mem_of_getElem? (i := 70) (by decide +kernel)
theorem se_X12_isOnMeadow : Cond.selects yX12_isOnMeadow.cls yX12_isOnMeadow yX12_isOnMeadow ∈ lw_tbl := List.mem_of_getElem? (i := 80) (by decide +kernel)
theorem se_X12_lowest : Cond.selects yX12_lowest.cls yX12_lowest yX12_lowest ∈ lw_tbl := List.mem_of_getElem? (i := 82) (by decide +kernel)
theorem se_X12_nearer : Cond.selects yX12_nearer.cls yX12_nearer yX12_nearer ∈ lw_tbl := List.mem_of_getElem? (i := 84) (by decide +kernel)
theorem stt_X12_isSide : Cond.static yX12_isSide ∈ lw_tbl := List.mem_of_getElem? (i := 1440) (by decide +kernel)
theorem stt_X12_power : Cond.static yX12_power ∈ lw_tbl := List.mem_of_getElem? (i := 1459) (by decide +kernel)
theorem dt_X12_becomes_0 : k_dec cX12_becomes [(0, .iconst 0, 1), (1, .istore_n 2, 1), (2, .iload_n 2, 1), (3, .bipush 25, 2), (5, .if_icmp .ge 26, 3), (8, .aload_n 0, 1), (9, .getfield 25, 3), (12, .iload_n 2, 1), (13, .aload_n 0, 1), (14, .getfield 25, 3), (17, .bipush 25, 2), (19, .iload_n 1, 1), (20, .imul, 1), (21, .iload_n 2, 1), (22, .iadd, 1), (23, .iaload, 1), (24, .iastore, 1), (25, .iinc 2 1, 3), (28, .goto (-26), 3), (31, .return_, 1)] = true := by decide +kernel
def f_X12_becomes_2 : Nat → Int32 → Int32 → k_M → (k_M → Option (Unit × k_M)) → Option (Unit × k_M)
  | 0, _, _, _, _ => none
  | n + 1, l1, l2, M, kx31 => if 25 ≤ l2 then kx31 M else rdI M 82 1100 ((25 * l1) + l2) (fun v1 => wrI M 82 1100 l2 v1 (fun M2 => f_X12_becomes_2 n l1 (l2 + 1) M2 kx31))
theorem m_X12_becomes_2 {Z : k_Z} {G : k_G} (C : k_C Z G RX12 cX12_becomes (true, 3, 1, 0, 0) none "becomes") (kx31 : k_M → Option (Unit × k_M)) (Hx31 : ∀ (M : k_M), Sm Z G emV (true, 3, 1, 0, 0) (0, 0) 31 [] [] M (kx31 M)) : ∀ (n : Nat) (l1 : Int32) (l2 : Int32) (M : k_M), Sm Z G emV (true, 3, 1, 0, 0) (0, 0) 2 [(0, k_ra Z 76), (1, Value.int l1), (2, Value.int l2)] [] M (f_X12_becomes_2 n l1 l2 M kx31)
  | 0, _, _, _ => x_none
  | n + 1, l1, l2, M => by
    have ih := m_X12_becomes_2 C kx31 Hx31 n
    show Sm Z G emV _ _ _ _ _ _ (if 25 ≤ l2 then kx31 M else rdI M 82 1100 ((25 * l1) + l2) (fun v1 => wrI M 82 1100 l2 v1 (fun M2 => f_X12_becomes_2 n l1 (l2 + 1) M2 kx31)))
    refine x_iload_n C (k_dg dt_X12_becomes_0 2 2 (.iload_n 2) 1 rfl) 2 rfl ?_
    refine x_bipush C (v := 25) (k_dg dt_X12_becomes_0 3 3 (.bipush 25) 2 rfl) (by decide) ?_
    refine x_icmp_ge C (tgt := 31) (k_dg dt_X12_becomes_0 4 5 (.if_icmp .ge 26) 3 rfl) (by decide) (fun _ => ?_) (fun _ => ?_)
    · refine x_lv [] rfl ?_
      exact Hx31 M
    · refine x_aload_n C (k_dg dt_X12_becomes_0 5 8 (.aload_n 0) 1 rfl) 0 rfl ?_
      refine x_getR C (a := 76) (j := 10) 82 rfl rfl (by decide) fl_RX12_25 rfl rfl rfl (k_dg dt_X12_becomes_0 6 9 (.getfield 25) 3 rfl) ?_
      refine x_iload_n C (k_dg dt_X12_becomes_0 7 12 (.iload_n 2) 1 rfl) 2 rfl ?_
      refine x_aload_n C (k_dg dt_X12_becomes_0 8 13 (.aload_n 0) 1 rfl) 0 rfl ?_
      refine x_getR C (a := 76) (j := 10) 82 rfl rfl (by decide) fl_RX12_25 rfl rfl rfl (k_dg dt_X12_becomes_0 9 14 (.getfield 25) 3 rfl) ?_
      refine x_bipush C (v := 25) (k_dg dt_X12_becomes_0 10 17 (.bipush 25) 2 rfl) (by decide) ?_
      refine x_iload_n C (k_dg dt_X12_becomes_0 11 19 (.iload_n 1) 1 rfl) 1 rfl ?_
      refine x_imul C (k_dg dt_X12_becomes_0 12 20 (.imul) 1 rfl) ?_
      refine x_iload_n C (k_dg dt_X12_becomes_0 13 21 (.iload_n 2) 1 rfl) 2 rfl ?_
      refine x_iadd C (k_dg dt_X12_becomes_0 14 22 (.iadd) 1 rfl) ?_
      refine x_iald C (a := 82) (n := 1100) rfl rfl (k_dg dt_X12_becomes_0 15 23 (.iaload) 1 rfl) (fun v1 => ?_)
      refine x_iast C (a := 82) (n := 1100) rfl rfl (k_dg dt_X12_becomes_0 16 24 (.iastore) 1 rfl) (fun M2 => ?_)
      refine x_iinc C (v := 1) (lv' := [(2, Value.int (l2 + 1)), (0, k_ra Z 76), (1, Value.int l1)]) (k_dg dt_X12_becomes_0 17 25 (.iinc 2 1) 3 rfl) 2 rfl (by decide) (by decide) rfl ?_
      refine x_goto C (tgt := 2) (k_dg dt_X12_becomes_0 18 28 (.goto (-26)) 3 rfl) (by decide) ?_
      refine x_lv [1, 2, 0] rfl ?_
      exact ih l1 (l2 + 1) M2
def f_X12_becomes_31 (M : k_M) : Option (Unit × k_M) := some ((), M)
theorem m_X12_becomes_31 {Z : k_Z} {G : k_G} (C : k_C Z G RX12 cX12_becomes (true, 3, 1, 0, 0) none "becomes") (M : k_M) : Sm Z G emV (true, 3, 1, 0, 0) (0, 0) 31 [] [] M (f_X12_becomes_31 M) := by
  show Sm Z G emV _ _ _ _ _ _ (some ((), M))
  exact x_vret C (by decide) (by decide) (k_dg dt_X12_becomes_0 19 31 (.return_) 1 rfl)
def f_X12_becomes (p1 : Int32) (M : k_M) : Option (Unit × k_M) := f_X12_becomes_2 k_fu p1 0 M (fun M_ => f_X12_becomes_31 M_)
theorem m_X12_becomes_0 {Z : k_Z} {G : k_G} (C : k_C Z G RX12 cX12_becomes (true, 3, 1, 0, 0) none "becomes") (p1 : Int32) (M : k_M) : Sm Z G emV (true, 3, 1, 0, 0) (0, 0) 0 [(0, k_ra Z 76), (1, Value.int p1)] [] M (f_X12_becomes p1 M) := by
  show Sm Z G emV _ _ _ _ _ _ (f_X12_becomes_2 k_fu p1 0 M (fun M_ => f_X12_becomes_31 M_))
  refine x_iconst C (v := 0) (k_dg dt_X12_becomes_0 0 0 (.iconst 0) 1 rfl) (by decide) ?_
  refine x_istore_n C (lv' := [(2, Value.int 0), (0, k_ra Z 76), (1, Value.int p1)]) (k_dg dt_X12_becomes_0 1 1 (.istore_n 2) 1 rfl) (by decide) rfl ?_
  refine x_lv [1, 2, 0] rfl ?_
  exact m_X12_becomes_2 C (fun M_ => f_X12_becomes_31 M_) (fun M_ => m_X12_becomes_31 C M_) k_fu p1 0 M
theorem c_X12_becomes {Z : k_Z} (hg : k_Gd Z) (l : Launch) (p1 : Int32) (M : k_M) : Con true Z l yX12_becomes cX12_becomes 3 none 1 0 0 emV [k_ra Z 76, Value.int p1] M (f_X12_becomes p1 M) := k_con hg (by decide) (Nat.le_of_ble_eq_true rfl) (fun G hl C => m_X12_becomes_0 C p1 M)
theorem dt_X12_may_0 : k_dec cX12_may [(0, .iload_n 1, 1), (1, .iconst 0, 1), (2, .bipush 12, 2), (4, .invokestatic 99, 3), (7, .ifCond .ne 5, 3), (10, .iconst (-1), 1), (11, .ireturn, 1), (12, .aload_n 0, 1), (13, .getfield 205, 3), (16, .ifCond .ne 6, 3), (19, .bipush (-4), 2), (21, .ireturn, 1), (22, .aload_n 0, 1), (23, .iconst 0, 1), (24, .iload_n 1, 1), (25, .iconst 2, 1), (26, .invokevirtual 256, 3), (29, .ifCond .le 7, 3), (32, .iconst 1, 1), (33, .goto 4, 3), (36, .iconst 0, 1), (37, .ireturn, 1)] = true := by decide +kernel
def f_X12_may (p1 : Int32) (M : k_M) : Option (Int32 × k_M) := bd (f_X12_in p1 0 12 M) (fun r1 M2 => if r1 = 0 then some (-1, M2) else if (M2.1 76 7) = 0 then some (-4, M2) else bd (f_X12_goes 0 p1 2 M2) (fun r3 M4 => if r3 ≤ 0 then some (0, M4) else some (1, M4)))
theorem m_X12_may_0 {Z : k_Z} {G : k_G} (C : k_C Z G RX12 cX12_may (true, 2, 5, 0, 0) (some .int) "may") (p1 : Int32) (M : k_M) : Sm Z G emI (true, 2, 5, 0, 0) (0, 0) 0 [(0, k_ra Z 76), (1, Value.int p1)] [] M (f_X12_may p1 M) := by
  show Sm Z G emI _ _ _ _ _ _ (bd (f_X12_in p1 0 12 M) (fun r1 M2 => if r1 = 0 then some (-1, M2) else if (M2.1 76 7) = 0 then some (-4, M2) else bd (f_X12_goes 0 p1 2 M2) (fun r3 M4 => if r3 ≤ 0 then some (0, M4) else some (1, M4))))
  refine x_iload_n C (k_dg dt_X12_may_0 0 0 (.iload_n 1) 1 rfl) 1 rfl ?_
  refine x_iconst C (v := 0) (k_dg dt_X12_may_0 1 1 (.iconst 0) 1 rfl) (by decide) ?_
  refine x_bipush C (v := 12) (k_dg dt_X12_may_0 2 2 (.bipush 12) 2 rfl) (by decide) ?_
  refine x_callS C (vs := [Value.int p1, Value.int 0, Value.int 12]) (rest := []) (c_X12_in C.2.2.2.2.2.2.2.2.2 G.2.1 p1 0 12 M) cy_X12_in lk_RX12_99 stt_X12_in (by decide) (by decide) (by decide) (by decide) rfl rfl (Nat.le_of_ble_eq_true rfl) (k_dg dt_X12_may_0 3 4 (.invokestatic 99) 3 rfl) (fun r1 M2 => ?_)
  show Sm Z G _ _ _ _ [(0, k_ra Z 76), (1, Value.int p1)] [Value.int r1] _ _
  refine x_if_ne C (tgt := 12) (k_dg dt_X12_may_0 4 7 (.ifCond .ne 5) 3 rfl) (by decide) (fun _ => ?_) (fun _ => ?_)
  · refine x_iconst C (v := -1) (k_dg dt_X12_may_0 5 10 (.iconst (-1)) 1 rfl) (by decide) ?_
    exact x_iret C (by decide) (by decide) (k_dg dt_X12_may_0 6 11 (.ireturn) 1 rfl)
  · refine x_aload_n C (k_dg dt_X12_may_0 7 12 (.aload_n 0) 1 rfl) 0 rfl ?_
    refine x_getI C (a := 76) (j := 7) rfl rfl (by decide) fl_RX12_205 rfl (k_dg dt_X12_may_0 8 13 (.getfield 205) 3 rfl) ?_
    refine x_if_ne C (tgt := 22) (k_dg dt_X12_may_0 9 16 (.ifCond .ne 6) 3 rfl) (by decide) (fun _ => ?_) (fun _ => ?_)
    · refine x_bipush C (v := -4) (k_dg dt_X12_may_0 10 19 (.bipush (-4)) 2 rfl) (by decide) ?_
      exact x_iret C (by decide) (by decide) (k_dg dt_X12_may_0 11 21 (.ireturn) 1 rfl)
    · refine x_aload_n C (k_dg dt_X12_may_0 12 22 (.aload_n 0) 1 rfl) 0 rfl ?_
      refine x_iconst C (v := 0) (k_dg dt_X12_may_0 13 23 (.iconst 0) 1 rfl) (by decide) ?_
      refine x_iload_n C (k_dg dt_X12_may_0 14 24 (.iload_n 1) 1 rfl) 1 rfl ?_
      refine x_iconst C (v := 2) (k_dg dt_X12_may_0 15 25 (.iconst 2) 1 rfl) (by decide) ?_
      refine x_callV C (a := 76) (kd := 10) (vs := [Value.int 0, Value.int p1, Value.int 2]) (rest := []) rfl rfl (by decide) (fun r hr => by cases hr; rfl) (c_X12_goes C.2.2.2.2.2.2.2.2.2 G.2.1 0 p1 2 M2) cy_X12_goes lk_RX12_256 im_X12_goes se_X12_goes (by decide) (by decide) (by decide) (by decide) rfl rfl (Nat.le_of_ble_eq_true rfl) (k_dg dt_X12_may_0 16 26 (.invokevirtual 256) 3 rfl) (fun r3 M4 => ?_)
      show Sm Z G _ _ _ _ [(0, k_ra Z 76), (1, Value.int p1)] [Value.int r3] _ _
      refine x_if_le C (tgt := 36) (k_dg dt_X12_may_0 17 29 (.ifCond .le 7) 3 rfl) (by decide) (fun _ => ?_) (fun _ => ?_)
      · refine x_iconst C (v := 0) (k_dg dt_X12_may_0 20 36 (.iconst 0) 1 rfl) (by decide) ?_
        exact x_iret C (by decide) (by decide) (k_dg dt_X12_may_0 21 37 (.ireturn) 1 rfl)
      · refine x_iconst C (v := 1) (k_dg dt_X12_may_0 18 32 (.iconst 1) 1 rfl) (by decide) ?_
        refine x_goto C (tgt := 37) (k_dg dt_X12_may_0 19 33 (.goto 4) 3 rfl) (by decide) ?_
        exact x_iret C (by decide) (by decide) (k_dg dt_X12_may_0 21 37 (.ireturn) 1 rfl)
theorem c_X12_may {Z : k_Z} (hg : k_Gd Z) (l : Launch) (p1 : Int32) (M : k_M) : Con true Z l yX12_may cX12_may 2 (some .int) 5 0 0 emI [k_ra Z 76, Value.int p1] M (f_X12_may p1 M) := k_con hg (by decide) (Nat.le_of_ble_eq_true rfl) (fun G hl C => m_X12_may_0 C p1 M)
theorem dt_X12_doesIt_0 : k_dec cX12_doesIt [(0, .iload_n 1, 1), (1, .iconst 0, 1), (2, .bipush 12, 2), (4, .invokestatic 99, 3), (7, .ifCond .eq 13, 3), (10, .aload_n 0, 1), (11, .iconst 0, 1), (12, .iload_n 1, 1), (13, .iconst 2, 1), (14, .invokevirtual 256, 3), (17, .goto 4, 3), (20, .iconst 0, 1), (21, .istore_n 2, 1), (22, .iload_n 2, 1), (23, .ifCond .le 8, 3), (26, .aload_n 0, 1), (27, .iconst 1, 1), (28, .invokevirtual 259, 3), (31, .iload_n 2, 1), (32, .ireturn, 1)] = true := by decide +kernel
def f_X12_doesIt_31 (l2 : Int32) (M : k_M) : Option (Int32 × k_M) := some (l2, M)
theorem m_X12_doesIt_31 {Z : k_Z} {G : k_G} (C : k_C Z G RX12 cX12_doesIt (true, 3, 5, 0, 0) (some .int) "doesIt") (l2 : Int32) (M : k_M) : Sm Z G emI (true, 3, 5, 0, 0) (0, 0) 31 [(2, Value.int l2)] [] M (f_X12_doesIt_31 l2 M) := by
  show Sm Z G emI _ _ _ _ _ _ (some (l2, M))
  refine x_iload_n C (k_dg dt_X12_doesIt_0 18 31 (.iload_n 2) 1 rfl) 0 rfl ?_
  exact x_iret C (by decide) (by decide) (k_dg dt_X12_doesIt_0 19 32 (.ireturn) 1 rfl)
def f_X12_doesIt_21 (t0 : Int32) (M : k_M) : Option (Int32 × k_M) := if t0 ≤ 0 then f_X12_doesIt_31 t0 M else bd (f_X12_becomes 1 M) (fun r1 M2 => f_X12_doesIt_31 t0 M2)
theorem m_X12_doesIt_21 {Z : k_Z} {G : k_G} (C : k_C Z G RX12 cX12_doesIt (true, 3, 5, 0, 0) (some .int) "doesIt") (t0 : Int32) (M : k_M) : Sm Z G emI (true, 3, 5, 0, 0) (0, 0) 21 [(0, k_ra Z 76)] [Value.int t0] M (f_X12_doesIt_21 t0 M) := by
  show Sm Z G emI _ _ _ _ _ _ (if t0 ≤ 0 then f_X12_doesIt_31 t0 M else bd (f_X12_becomes 1 M) (fun r1 M2 => f_X12_doesIt_31 t0 M2))
  refine x_istore_n C (lv' := [(2, Value.int t0), (0, k_ra Z 76)]) (k_dg dt_X12_doesIt_0 12 21 (.istore_n 2) 1 rfl) (by decide) rfl ?_
  refine x_iload_n C (k_dg dt_X12_doesIt_0 13 22 (.iload_n 2) 1 rfl) 0 rfl ?_
  refine x_if_le C (tgt := 31) (k_dg dt_X12_doesIt_0 14 23 (.ifCond .le 8) 3 rfl) (by decide) (fun _ => ?_) (fun _ => ?_)
  · refine x_lv [0] rfl ?_
    exact m_X12_doesIt_31 C t0 M
  · refine x_aload_n C (k_dg dt_X12_doesIt_0 15 26 (.aload_n 0) 1 rfl) 1 rfl ?_
    refine x_iconst C (v := 1) (k_dg dt_X12_doesIt_0 16 27 (.iconst 1) 1 rfl) (by decide) ?_
    refine x_callV C (a := 76) (kd := 10) (vs := [Value.int 1]) (rest := []) rfl rfl (by decide) (fun r hr => by cases hr; rfl) (c_X12_becomes C.2.2.2.2.2.2.2.2.2 G.2.1 1 M) cy_X12_becomes lk_RX12_259 im_X12_becomes se_X12_becomes (by decide) (by decide) (by decide) (by decide) rfl rfl (Nat.le_of_ble_eq_true rfl) (k_dg dt_X12_doesIt_0 17 28 (.invokevirtual 259) 3 rfl) (fun r1 M2 => ?_)
    show Sm Z G _ _ _ _ [(2, Value.int t0), (0, k_ra Z 76)] [] _ _
    refine x_lv [0] rfl ?_
    exact m_X12_doesIt_31 C t0 M2
def f_X12_doesIt (p1 : Int32) (M : k_M) : Option (Int32 × k_M) := bd (f_X12_in p1 0 12 M) (fun r1 M2 => if r1 = 0 then f_X12_doesIt_21 0 M2 else bd (f_X12_goes 0 p1 2 M2) (fun r3 M4 => f_X12_doesIt_21 r3 M4))
theorem m_X12_doesIt_0 {Z : k_Z} {G : k_G} (C : k_C Z G RX12 cX12_doesIt (true, 3, 5, 0, 0) (some .int) "doesIt") (p1 : Int32) (M : k_M) : Sm Z G emI (true, 3, 5, 0, 0) (0, 0) 0 [(0, k_ra Z 76), (1, Value.int p1)] [] M (f_X12_doesIt p1 M) := by
  show Sm Z G emI _ _ _ _ _ _ (bd (f_X12_in p1 0 12 M) (fun r1 M2 => if r1 = 0 then f_X12_doesIt_21 0 M2 else bd (f_X12_goes 0 p1 2 M2) (fun r3 M4 => f_X12_doesIt_21 r3 M4)))
  refine x_iload_n C (k_dg dt_X12_doesIt_0 0 0 (.iload_n 1) 1 rfl) 1 rfl ?_
  refine x_iconst C (v := 0) (k_dg dt_X12_doesIt_0 1 1 (.iconst 0) 1 rfl) (by decide) ?_
  refine x_bipush C (v := 12) (k_dg dt_X12_doesIt_0 2 2 (.bipush 12) 2 rfl) (by decide) ?_
  refine x_callS C (vs := [Value.int p1, Value.int 0, Value.int 12]) (rest := []) (c_X12_in C.2.2.2.2.2.2.2.2.2 G.2.1 p1 0 12 M) cy_X12_in lk_RX12_99 stt_X12_in (by decide) (by decide) (by decide) (by decide) rfl rfl (Nat.le_of_ble_eq_true rfl) (k_dg dt_X12_doesIt_0 3 4 (.invokestatic 99) 3 rfl) (fun r1 M2 => ?_)
  show Sm Z G _ _ _ _ [(0, k_ra Z 76), (1, Value.int p1)] [Value.int r1] _ _
  refine x_if_eq C (tgt := 20) (k_dg dt_X12_doesIt_0 4 7 (.ifCond .eq 13) 3 rfl) (by decide) (fun _ => ?_) (fun _ => ?_)
  · refine x_iconst C (v := 0) (k_dg dt_X12_doesIt_0 11 20 (.iconst 0) 1 rfl) (by decide) ?_
    refine x_lv [0] rfl ?_
    exact m_X12_doesIt_21 C 0 M2
  · refine x_aload_n C (k_dg dt_X12_doesIt_0 5 10 (.aload_n 0) 1 rfl) 0 rfl ?_
    refine x_iconst C (v := 0) (k_dg dt_X12_doesIt_0 6 11 (.iconst 0) 1 rfl) (by decide) ?_
    refine x_iload_n C (k_dg dt_X12_doesIt_0 7 12 (.iload_n 1) 1 rfl) 1 rfl ?_
    refine x_iconst C (v := 2) (k_dg dt_X12_doesIt_0 8 13 (.iconst 2) 1 rfl) (by decide) ?_
    refine x_callV C (a := 76) (kd := 10) (vs := [Value.int 0, Value.int p1, Value.int 2]) (rest := []) rfl rfl (by decide) (fun r hr => by cases hr; rfl) (c_X12_goes C.2.2.2.2.2.2.2.2.2 G.2.1 0 p1 2 M2) cy_X12_goes lk_RX12_256 im_X12_goes se_X12_goes (by decide) (by decide) (by decide) (by decide) rfl rfl (Nat.le_of_ble_eq_true rfl) (k_dg dt_X12_doesIt_0 9 14 (.invokevirtual 256) 3 rfl) (fun r3 M4 => ?_)
    show Sm Z G _ _ _ _ [(0, k_ra Z 76), (1, Value.int p1)] [Value.int r3] _ _
    refine x_goto C (tgt := 21) (k_dg dt_X12_doesIt_0 10 17 (.goto 4) 3 rfl) (by decide) ?_
    refine x_lv [0] rfl ?_
    exact m_X12_doesIt_21 C r3 M4
theorem c_X12_doesIt {Z : k_Z} (hg : k_Gd Z) (l : Launch) (p1 : Int32) (M : k_M) : Con true Z l yX12_doesIt cX12_doesIt 3 (some .int) 5 0 0 emI [k_ra Z 76, Value.int p1] M (f_X12_doesIt p1 M) := k_con hg (by decide) (Nat.le_of_ble_eq_true rfl) (fun G hl C => m_X12_doesIt_0 C p1 M)
theorem dt_X12_does_0 : k_dec cX12_does [(0, .iload_n 1, 1), (1, .iconst 0, 1), (2, .bipush 12, 2), (4, .invokestatic 99, 3), (7, .ifCond .ne 5, 3), (10, .iconst (-1), 1), (11, .ireturn, 1), (12, .aload_n 0, 1), (13, .getfield 205, 3), (16, .ifCond .ne 6, 3), (19, .bipush (-4), 2), (21, .ireturn, 1), (22, .aload_n 0, 1), (23, .iload_n 1, 1), (24, .invokevirtual 263, 3), (27, .istore_n 2, 1), (28, .iload_n 2, 1), (29, .ifCond .le 7, 3), (32, .iload_n 2, 1), (33, .goto 5, 3), (36, .bipush (-3), 2), (38, .ireturn, 1)] = true := by decide +kernel
def f_X12_does (p1 : Int32) (M : k_M) : Option (Int32 × k_M) := bd (f_X12_in p1 0 12 M) (fun r1 M2 => if r1 = 0 then some (-1, M2) else if (M2.1 76 7) = 0 then some (-4, M2) else bd (f_X12_doesIt p1 M2) (fun r3 M4 => if r3 ≤ 0 then some (-3, M4) else some (r3, M4)))
theorem m_X12_does_0 {Z : k_Z} {G : k_G} (C : k_C Z G RX12 cX12_does (true, 3, 6, 0, 0) (some .int) "does") (p1 : Int32) (M : k_M) : Sm Z G emI (true, 3, 6, 0, 0) (0, 0) 0 [(0, k_ra Z 76), (1, Value.int p1)] [] M (f_X12_does p1 M) := by
  show Sm Z G emI _ _ _ _ _ _ (bd (f_X12_in p1 0 12 M) (fun r1 M2 => if r1 = 0 then some (-1, M2) else if (M2.1 76 7) = 0 then some (-4, M2) else bd (f_X12_doesIt p1 M2) (fun r3 M4 => if r3 ≤ 0 then some (-3, M4) else some (r3, M4))))
  refine x_iload_n C (k_dg dt_X12_does_0 0 0 (.iload_n 1) 1 rfl) 1 rfl ?_
  refine x_iconst C (v := 0) (k_dg dt_X12_does_0 1 1 (.iconst 0) 1 rfl) (by decide) ?_
  refine x_bipush C (v := 12) (k_dg dt_X12_does_0 2 2 (.bipush 12) 2 rfl) (by decide) ?_
  refine x_callS C (vs := [Value.int p1, Value.int 0, Value.int 12]) (rest := []) (c_X12_in C.2.2.2.2.2.2.2.2.2 G.2.1 p1 0 12 M) cy_X12_in lk_RX12_99 stt_X12_in (by decide) (by decide) (by decide) (by decide) rfl rfl (Nat.le_of_ble_eq_true rfl) (k_dg dt_X12_does_0 3 4 (.invokestatic 99) 3 rfl) (fun r1 M2 => ?_)
  show Sm Z G _ _ _ _ [(0, k_ra Z 76), (1, Value.int p1)] [Value.int r1] _ _
  refine x_if_ne C (tgt := 12) (k_dg dt_X12_does_0 4 7 (.ifCond .ne 5) 3 rfl) (by decide) (fun _ => ?_) (fun _ => ?_)
  · refine x_iconst C (v := -1) (k_dg dt_X12_does_0 5 10 (.iconst (-1)) 1 rfl) (by decide) ?_
    exact x_iret C (by decide) (by decide) (k_dg dt_X12_does_0 6 11 (.ireturn) 1 rfl)
  · refine x_aload_n C (k_dg dt_X12_does_0 7 12 (.aload_n 0) 1 rfl) 0 rfl ?_
    refine x_getI C (a := 76) (j := 7) rfl rfl (by decide) fl_RX12_205 rfl (k_dg dt_X12_does_0 8 13 (.getfield 205) 3 rfl) ?_
    refine x_if_ne C (tgt := 22) (k_dg dt_X12_does_0 9 16 (.ifCond .ne 6) 3 rfl) (by decide) (fun _ => ?_) (fun _ => ?_)
    · refine x_bipush C (v := -4) (k_dg dt_X12_does_0 10 19 (.bipush (-4)) 2 rfl) (by decide) ?_
      exact x_iret C (by decide) (by decide) (k_dg dt_X12_does_0 11 21 (.ireturn) 1 rfl)
    · refine x_aload_n C (k_dg dt_X12_does_0 12 22 (.aload_n 0) 1 rfl) 0 rfl ?_
      refine x_iload_n C (k_dg dt_X12_does_0 13 23 (.iload_n 1) 1 rfl) 1 rfl ?_
      refine x_callV C (a := 76) (kd := 10) (vs := [Value.int p1]) (rest := []) rfl rfl (by decide) (fun r hr => by cases hr; rfl) (c_X12_doesIt C.2.2.2.2.2.2.2.2.2 G.2.1 p1 M2) cy_X12_doesIt lk_RX12_263 im_X12_doesIt se_X12_doesIt (by decide) (by decide) (by decide) (by decide) rfl rfl (Nat.le_of_ble_eq_true rfl) (k_dg dt_X12_does_0 14 24 (.invokevirtual 263) 3 rfl) (fun r3 M4 => ?_)
      show Sm Z G _ _ _ _ [(0, k_ra Z 76), (1, Value.int p1)] [Value.int r3] _ _
      refine x_istore_n C (lv' := [(2, Value.int r3), (0, k_ra Z 76), (1, Value.int p1)]) (k_dg dt_X12_does_0 15 27 (.istore_n 2) 1 rfl) (by decide) rfl ?_
      refine x_iload_n C (k_dg dt_X12_does_0 16 28 (.iload_n 2) 1 rfl) 0 rfl ?_
      refine x_if_le C (tgt := 36) (k_dg dt_X12_does_0 17 29 (.ifCond .le 7) 3 rfl) (by decide) (fun _ => ?_) (fun _ => ?_)
      · refine x_bipush C (v := -3) (k_dg dt_X12_does_0 20 36 (.bipush (-3)) 2 rfl) (by decide) ?_
        exact x_iret C (by decide) (by decide) (k_dg dt_X12_does_0 21 38 (.ireturn) 1 rfl)
      · refine x_iload_n C (k_dg dt_X12_does_0 18 32 (.iload_n 2) 1 rfl) 0 rfl ?_
        refine x_goto C (tgt := 38) (k_dg dt_X12_does_0 19 33 (.goto 5) 3 rfl) (by decide) ?_
        exact x_iret C (by decide) (by decide) (k_dg dt_X12_does_0 21 38 (.ireturn) 1 rfl)
theorem c_X12_does {Z : k_Z} (hg : k_Gd Z) (l : Launch) (p1 : Int32) (M : k_M) : Con true Z l yX12_does cX12_does 3 (some .int) 6 0 0 emI [k_ra Z 76, Value.int p1] M (f_X12_does p1 M) := k_con hg (by decide) (Nat.le_of_ble_eq_true rfl) (fun G hl C => m_X12_does_0 C p1 M)
theorem dt_X12_stuck_0 : k_dec cX12_stuck [(0, .aload_n 0, 1), (1, .getfield 205, 3), (4, .ifCond .ne 6, 3), (7, .bipush (-4), 2), (9, .ireturn, 1), (10, .iconst 0, 1), (11, .istore_n 1, 1), (12, .iload_n 1, 1), (13, .aload_n 0, 1), (14, .getfield 103, 3), (17, .if_icmp .gt 21, 3), (20, .aload_n 0, 1), (21, .iconst 0, 1), (22, .iload_n 1, 1), (23, .iconst 2, 1), (24, .invokevirtual 256, 3), (27, .ifCond .le 5, 3), (30, .iconst 0, 1), (31, .ireturn, 1), (32, .iinc 1 1, 3), (35, .goto (-23), 3), (38, .iconst 1, 1), (39, .ireturn, 1)] = true := by decide +kernel
def f_X12_stuck_12 : Nat → Int32 → k_M → (k_M → Option (Int32 × k_M)) → (k_M → Option (Int32 × k_M)) → Option (Int32 × k_M)
  | 0, _, _, _, _ => none
  | n + 1, l1, M, kx30, kx38 => if (M.1 76 2) < l1 then kx38 M else bd (f_X12_goes 0 l1 2 M) (fun r1 M2 => if r1 ≤ 0 then f_X12_stuck_12 n (l1 + 1) M2 kx30 kx38 else kx30 M2)
theorem m_X12_stuck_12 {Z : k_Z} {G : k_G} (C : k_C Z G RX12 cX12_stuck (true, 2, 5, 0, 0) (some .int) "stuck") (kx30 : k_M → Option (Int32 × k_M)) (kx38 : k_M → Option (Int32 × k_M)) (Hx30 : ∀ (M : k_M), Sm Z G emI (true, 2, 5, 0, 0) (0, 0) 30 [] [] M (kx30 M)) (Hx38 : ∀ (M : k_M), Sm Z G emI (true, 2, 5, 0, 0) (0, 0) 38 [] [] M (kx38 M)) : ∀ (n : Nat) (l1 : Int32) (M : k_M), Sm Z G emI (true, 2, 5, 0, 0) (0, 0) 12 [(0, k_ra Z 76), (1, Value.int l1)] [] M (f_X12_stuck_12 n l1 M kx30 kx38)
  | 0, _, _ => x_none
  | n + 1, l1, M => by
    have ih := m_X12_stuck_12 C kx30 kx38 Hx30 Hx38 n
    show Sm Z G emI _ _ _ _ _ _ (if (M.1 76 2) < l1 then kx38 M else bd (f_X12_goes 0 l1 2 M) (fun r1 M2 => if r1 ≤ 0 then f_X12_stuck_12 n (l1 + 1) M2 kx30 kx38 else kx30 M2))
    refine x_iload_n C (k_dg dt_X12_stuck_0 7 12 (.iload_n 1) 1 rfl) 1 rfl ?_
    refine x_aload_n C (k_dg dt_X12_stuck_0 8 13 (.aload_n 0) 1 rfl) 0 rfl ?_
    refine x_getI C (a := 76) (j := 2) rfl rfl (by decide) fl_RX12_103 rfl (k_dg dt_X12_stuck_0 9 14 (.getfield 103) 3 rfl) ?_
    refine x_icmp_gt C (tgt := 38) (k_dg dt_X12_stuck_0 10 17 (.if_icmp .gt 21) 3 rfl) (by decide) (fun _ => ?_) (fun _ => ?_)
    · refine x_lv [] rfl ?_
      exact Hx38 M
    · refine x_aload_n C (k_dg dt_X12_stuck_0 11 20 (.aload_n 0) 1 rfl) 0 rfl ?_
      refine x_iconst C (v := 0) (k_dg dt_X12_stuck_0 12 21 (.iconst 0) 1 rfl) (by decide) ?_
      refine x_iload_n C (k_dg dt_X12_stuck_0 13 22 (.iload_n 1) 1 rfl) 1 rfl ?_
      refine x_iconst C (v := 2) (k_dg dt_X12_stuck_0 14 23 (.iconst 2) 1 rfl) (by decide) ?_
      refine x_callV C (a := 76) (kd := 10) (vs := [Value.int 0, Value.int l1, Value.int 2]) (rest := []) rfl rfl (by decide) (fun r hr => by cases hr; rfl) (c_X12_goes C.2.2.2.2.2.2.2.2.2 G.2.1 0 l1 2 M) cy_X12_goes lk_RX12_256 im_X12_goes se_X12_goes (by decide) (by decide) (by decide) (by decide) rfl rfl (Nat.le_of_ble_eq_true rfl) (k_dg dt_X12_stuck_0 15 24 (.invokevirtual 256) 3 rfl) (fun r1 M2 => ?_)
      show Sm Z G _ _ _ _ [(0, k_ra Z 76), (1, Value.int l1)] [Value.int r1] _ _
      refine x_if_le C (tgt := 32) (k_dg dt_X12_stuck_0 16 27 (.ifCond .le 5) 3 rfl) (by decide) (fun _ => ?_) (fun _ => ?_)
      · refine x_iinc C (v := 1) (lv' := [(1, Value.int (l1 + 1)), (0, k_ra Z 76)]) (k_dg dt_X12_stuck_0 19 32 (.iinc 1 1) 3 rfl) 1 rfl (by decide) (by decide) rfl ?_
        refine x_goto C (tgt := 12) (k_dg dt_X12_stuck_0 20 35 (.goto (-23)) 3 rfl) (by decide) ?_
        refine x_lv [1, 0] rfl ?_
        exact ih (l1 + 1) M2
      · refine x_lv [] rfl ?_
        exact Hx30 M2
def f_X12_stuck_30 (M : k_M) : Option (Int32 × k_M) := some (0, M)
theorem m_X12_stuck_30 {Z : k_Z} {G : k_G} (C : k_C Z G RX12 cX12_stuck (true, 2, 5, 0, 0) (some .int) "stuck") (M : k_M) : Sm Z G emI (true, 2, 5, 0, 0) (0, 0) 30 [] [] M (f_X12_stuck_30 M) := by
  show Sm Z G emI _ _ _ _ _ _ (some (0, M))
  refine x_iconst C (v := 0) (k_dg dt_X12_stuck_0 17 30 (.iconst 0) 1 rfl) (by decide) ?_
  exact x_iret C (by decide) (by decide) (k_dg dt_X12_stuck_0 18 31 (.ireturn) 1 rfl)
def f_X12_stuck_38 (M : k_M) : Option (Int32 × k_M) := some (1, M)
theorem m_X12_stuck_38 {Z : k_Z} {G : k_G} (C : k_C Z G RX12 cX12_stuck (true, 2, 5, 0, 0) (some .int) "stuck") (M : k_M) : Sm Z G emI (true, 2, 5, 0, 0) (0, 0) 38 [] [] M (f_X12_stuck_38 M) := by
  show Sm Z G emI _ _ _ _ _ _ (some (1, M))
  refine x_iconst C (v := 1) (k_dg dt_X12_stuck_0 21 38 (.iconst 1) 1 rfl) (by decide) ?_
  exact x_iret C (by decide) (by decide) (k_dg dt_X12_stuck_0 22 39 (.ireturn) 1 rfl)
def f_X12_stuck (M : k_M) : Option (Int32 × k_M) := if (M.1 76 7) = 0 then some (-4, M) else f_X12_stuck_12 k_fu 0 M (fun M_ => f_X12_stuck_30 M_) (fun M_ => f_X12_stuck_38 M_)
theorem m_X12_stuck_0 {Z : k_Z} {G : k_G} (C : k_C Z G RX12 cX12_stuck (true, 2, 5, 0, 0) (some .int) "stuck") (M : k_M) : Sm Z G emI (true, 2, 5, 0, 0) (0, 0) 0 [(0, k_ra Z 76)] [] M (f_X12_stuck M) := by
  show Sm Z G emI _ _ _ _ _ _ (if (M.1 76 7) = 0 then some (-4, M) else f_X12_stuck_12 k_fu 0 M (fun M_ => f_X12_stuck_30 M_) (fun M_ => f_X12_stuck_38 M_))
  refine x_aload_n C (k_dg dt_X12_stuck_0 0 0 (.aload_n 0) 1 rfl) 0 rfl ?_
  refine x_getI C (a := 76) (j := 7) rfl rfl (by decide) fl_RX12_205 rfl (k_dg dt_X12_stuck_0 1 1 (.getfield 205) 3 rfl) ?_
  refine x_if_ne C (tgt := 10) (k_dg dt_X12_stuck_0 2 4 (.ifCond .ne 6) 3 rfl) (by decide) (fun _ => ?_) (fun _ => ?_)
  · refine x_bipush C (v := -4) (k_dg dt_X12_stuck_0 3 7 (.bipush (-4)) 2 rfl) (by decide) ?_
    exact x_iret C (by decide) (by decide) (k_dg dt_X12_stuck_0 4 9 (.ireturn) 1 rfl)
  · refine x_iconst C (v := 0) (k_dg dt_X12_stuck_0 5 10 (.iconst 0) 1 rfl) (by decide) ?_
    refine x_istore_n C (lv' := [(1, Value.int 0), (0, k_ra Z 76)]) (k_dg dt_X12_stuck_0 6 11 (.istore_n 1) 1 rfl) (by decide) rfl ?_
    refine x_lv [1, 0] rfl ?_
    exact m_X12_stuck_12 C (fun M_ => f_X12_stuck_30 M_) (fun M_ => f_X12_stuck_38 M_) (fun M_ => m_X12_stuck_30 C M_) (fun M_ => m_X12_stuck_38 C M_) k_fu 0 M
theorem c_X12_stuck {Z : k_Z} (hg : k_Gd Z) (l : Launch) (M : k_M) : Con true Z l yX12_stuck cX12_stuck 2 (some .int) 5 0 0 emI [k_ra Z 76] M (f_X12_stuck M) := k_con hg (by decide) (Nat.le_of_ble_eq_true rfl) (fun G hl C => m_X12_stuck_0 C M)
theorem dt_X12_findBest_0 : k_dec cX12_findBest [(0, .iconst (-1), 1), (1, .istore_n 2, 1), (2, .iconst 0, 1), (3, .istore_n 3, 1), (4, .aload_n 0, 1), (5, .getfield 25, 3), (8, .iconst 1, 1), (9, .iaload, 1), (10, .iload_n 1, 1), (11, .iadd, 1), (12, .istore 4, 2), (14, .aload_n 0, 1), (15, .getfield 40, 3), (18, .iconst 0, 1), (19, .iconst (-1), 1), (20, .iastore, 1), (21, .aload_n 0, 1), (22, .iconst 0, 1), (23, .putfield 266, 3), (26, .iload_n 1, 1), (27, .ifCond .ne 9, 3), (30, .aload_n 0, 1), (31, .iconst 0, 1), (32, .invokevirtual 232, 3), (35, .ireturn, 1), (36, .iload_n 3, 1), (37, .ifCond .lt 157, 3), (40, .aload_n 0, 1), (41, .getfield 40, 3), (44, .iload_n 3, 1), (45, .dup2, 1), (46, .iaload, 1), (47, .iconst 1, 1), (48, .iadd, 1), (49, .iastore, 1), (50, .aload_n 0, 1), (51, .getfield 40, 3), (54, .iload_n 3, 1), (55, .iaload, 1), (56, .aload_n 0, 1)] = true := by decide +kernel
theorem dt_X12_findBest_1 : k_dec cX12_findBest [(57, .getfield 103, 3), (60, .if_icmp .le 9, 3), (63, .iinc 3 (-1), 3), (66, .goto (-30), 3), (69, .aload_n 0, 1), (70, .iload_n 3, 1), (71, .aload_n 0, 1), (72, .getfield 40, 3), (75, .iload_n 3, 1), (76, .iaload, 1), (77, .iconst 2, 1), (78, .invokevirtual 256, 3), (81, .ifCond .eq (-45), 3), (84, .aload_n 0, 1), (85, .getfield 25, 3), (88, .bipush 25, 2), (90, .iload_n 3, 1), (91, .iconst 1, 1), (92, .iadd, 1), (93, .imul, 1), (94, .iconst 1, 1), (95, .iadd, 1), (96, .iaload, 1), (97, .iload 4, 2), (99, .if_icmp .le 6, 3), (102, .goto (-66), 3), (105, .aload_n 0, 1), (106, .getfield 25, 3), (109, .bipush 25, 2), (111, .iload_n 3, 1), (112, .iconst 1, 1), (113, .iadd, 1), (114, .imul, 1), (115, .iconst 1, 1), (116, .iadd, 1), (117, .iaload, 1), (118, .iload 4, 2), (120, .if_icmp .ge 16, 3), (123, .iinc 3 1, 3), (126, .aload_n 0, 1)] = true := by decide +kernel
theorem dt_X12_findBest_2 : k_dec cX12_findBest [(127, .getfield 40, 3), (130, .iload_n 3, 1), (131, .iconst (-1), 1), (132, .iastore, 1), (133, .goto (-97), 3), (136, .aload_n 0, 1), (137, .iload_n 3, 1), (138, .iconst 1, 1), (139, .iadd, 1), (140, .invokevirtual 232, 3), (143, .iload_n 2, 1), (144, .if_icmp .le (-108), 3), (147, .aload_n 0, 1), (148, .iload_n 3, 1), (149, .iconst 1, 1), (150, .iadd, 1), (151, .invokevirtual 232, 3), (154, .istore_n 2, 1), (155, .aload_n 0, 1), (156, .iload_n 3, 1), (157, .iconst 1, 1), (158, .iadd, 1), (159, .putfield 266, 3), (162, .iconst 0, 1), (163, .istore 5, 2), (165, .iload 5, 2), (167, .iload_n 3, 1), (168, .if_icmp .gt 23, 3), (171, .aload_n 0, 1), (172, .getfield 43, 3), (175, .iload 5, 2), (177, .aload_n 0, 1), (178, .getfield 40, 3), (181, .iload 5, 2), (183, .iaload, 1), (184, .iastore, 1), (185, .iinc 5 1, 3), (188, .goto (-23), 3), (191, .goto (-155), 3), (194, .iload_n 2, 1)] = true := by decide +kernel
theorem dt_X12_findBest_3 : k_dec cX12_findBest [(195, .ireturn, 1)] = true := by decide +kernel
def f_X12_findBest_165 : Nat → Int32 → Int32 → Int32 → Int32 → k_M → (Int32 → Int32 → Int32 → k_M → Option (Int32 × k_M)) → Option (Int32 × k_M)
  | 0, _, _, _, _, _, _ => none
  | n + 1, l2, l3, l4, l5, M, kx191 => if l3 < l5 then kx191 l2 l3 l4 M else rdI M 87 8 l5 (fun v1 => wrI M 88 8 l5 v1 (fun M2 => f_X12_findBest_165 n l2 l3 l4 (l5 + 1) M2 kx191))
theorem m_X12_findBest_165 {Z : k_Z} {G : k_G} (C : k_C Z G RX12 cX12_findBest (true, 6, 5, 0, 0) (some .int) "findBest") (kx191 : Int32 → Int32 → Int32 → k_M → Option (Int32 × k_M)) (Hx191 : ∀ (l2 : Int32) (l3 : Int32) (l4 : Int32) (M : k_M), Sm Z G emI (true, 6, 5, 0, 0) (0, 0) 191 [(0, k_ra Z 76), (2, Value.int l2), (3, Value.int l3), (4, Value.int l4)] [] M (kx191 l2 l3 l4 M)) : ∀ (n : Nat) (l2 : Int32) (l3 : Int32) (l4 : Int32) (l5 : Int32) (M : k_M), Sm Z G emI (true, 6, 5, 0, 0) (0, 0) 165 [(0, k_ra Z 76), (2, Value.int l2), (3, Value.int l3), (4, Value.int l4), (5, Value.int l5)] [] M (f_X12_findBest_165 n l2 l3 l4 l5 M kx191)
  | 0, _, _, _, _, _ => x_none
  | n + 1, l2, l3, l4, l5, M => by
    have ih := m_X12_findBest_165 C kx191 Hx191 n
    show Sm Z G emI _ _ _ _ _ _ (if l3 < l5 then kx191 l2 l3 l4 M else rdI M 87 8 l5 (fun v1 => wrI M 88 8 l5 v1 (fun M2 => f_X12_findBest_165 n l2 l3 l4 (l5 + 1) M2 kx191)))
    refine x_iload C (k_dg dt_X12_findBest_2 25 165 (.iload 5) 2 rfl) 4 rfl ?_
    refine x_iload_n C (k_dg dt_X12_findBest_2 26 167 (.iload_n 3) 1 rfl) 2 rfl ?_
    refine x_icmp_gt C (tgt := 191) (k_dg dt_X12_findBest_2 27 168 (.if_icmp .gt 23) 3 rfl) (by decide) (fun _ => ?_) (fun _ => ?_)
    · refine x_lv [0, 1, 2, 3] rfl ?_
      exact Hx191 l2 l3 l4 M
    · refine x_aload_n C (k_dg dt_X12_findBest_2 28 171 (.aload_n 0) 1 rfl) 0 rfl ?_
      refine x_getR C (a := 76) (j := 25) 88 rfl rfl (by decide) fl_RX12_43 rfl rfl rfl (k_dg dt_X12_findBest_2 29 172 (.getfield 43) 3 rfl) ?_
      refine x_iload C (k_dg dt_X12_findBest_2 30 175 (.iload 5) 2 rfl) 4 rfl ?_
      refine x_aload_n C (k_dg dt_X12_findBest_2 31 177 (.aload_n 0) 1 rfl) 0 rfl ?_
      refine x_getR C (a := 76) (j := 24) 87 rfl rfl (by decide) fl_RX12_40 rfl rfl rfl (k_dg dt_X12_findBest_2 32 178 (.getfield 40) 3 rfl) ?_
      refine x_iload C (k_dg dt_X12_findBest_2 33 181 (.iload 5) 2 rfl) 4 rfl ?_
      refine x_iald C (a := 87) (n := 8) rfl rfl (k_dg dt_X12_findBest_2 34 183 (.iaload) 1 rfl) (fun v1 => ?_)
      refine x_iast C (a := 88) (n := 8) rfl rfl (k_dg dt_X12_findBest_2 35 184 (.iastore) 1 rfl) (fun M2 => ?_)
      refine x_iinc C (v := 1) (lv' := [(5, Value.int (l5 + 1)), (0, k_ra Z 76), (2, Value.int l2), (3, Value.int l3), (4, Value.int l4)]) (k_dg dt_X12_findBest_2 36 185 (.iinc 5 1) 3 rfl) 4 rfl (by decide) (by decide) rfl ?_
      refine x_goto C (tgt := 165) (k_dg dt_X12_findBest_2 37 188 (.goto (-23)) 3 rfl) (by decide) ?_
      refine x_lv [1, 2, 3, 4, 0] rfl ?_
      exact ih l2 l3 l4 (l5 + 1) M2
def f_X12_findBest_191 (l2 : Int32) (l3 : Int32) (l4 : Int32) (M : k_M) (kb : Int32 → Int32 → Int32 → k_M → Option (Int32 × k_M)) (kx194 : Int32 → k_M → Option (Int32 × k_M)) : Option (Int32 × k_M) := kb l2 l3 l4 M
theorem m_X12_findBest_191 {Z : k_Z} {G : k_G} (C : k_C Z G RX12 cX12_findBest (true, 6, 5, 0, 0) (some .int) "findBest") (kb : Int32 → Int32 → Int32 → k_M → Option (Int32 × k_M)) (kx194 : Int32 → k_M → Option (Int32 × k_M)) (Hb : ∀ (l2 : Int32) (l3 : Int32) (l4 : Int32) (M : k_M), Sm Z G emI (true, 6, 5, 0, 0) (0, 0) 36 [(0, k_ra Z 76), (2, Value.int l2), (3, Value.int l3), (4, Value.int l4)] [] M (kb l2 l3 l4 M)) (Hx194 : ∀ (l2 : Int32) (M : k_M), Sm Z G emI (true, 6, 5, 0, 0) (0, 0) 194 [(2, Value.int l2)] [] M (kx194 l2 M)) (l2 : Int32) (l3 : Int32) (l4 : Int32) (M : k_M) : Sm Z G emI (true, 6, 5, 0, 0) (0, 0) 191 [(0, k_ra Z 76), (2, Value.int l2), (3, Value.int l3), (4, Value.int l4)] [] M (f_X12_findBest_191 l2 l3 l4 M kb kx194) := by
  show Sm Z G emI _ _ _ _ _ _ (kb l2 l3 l4 M)
  refine x_goto C (tgt := 36) (k_dg dt_X12_findBest_2 38 191 (.goto (-155)) 3 rfl) (by decide) ?_
  exact Hb l2 l3 l4 M
def f_X12_findBest_36 : Nat → Int32 → Int32 → Int32 → k_M → (Int32 → k_M → Option (Int32 × k_M)) → Option (Int32 × k_M)
  | 0, _, _, _, _, _ => none
  | n + 1, l2, l3, l4, M, kx194 => if l3 < 0 then kx194 l2 M else rdI M 87 8 l3 (fun v1 => wrI M 87 8 l3 (v1 + 1) (fun M2 => rdI M2 87 8 l3 (fun v3 => if v3 ≤ (M2.1 76 2) then rdI M2 87 8 l3 (fun v4 => bd (f_X12_goes l3 v4 2 M2) (fun r5 M6 => if r5 = 0 then f_X12_findBest_36 n l2 l3 l4 M6 kx194 else rdI M6 82 1100 ((25 * (l3 + 1)) + 1) (fun v7 => if v7 ≤ l4 then rdI M6 82 1100 ((25 * (l3 + 1)) + 1) (fun v8 => if l4 ≤ v8 then bd (f_X12_worthAt (l3 + 1) M6) (fun r9 M10 => if r9 ≤ l2 then f_X12_findBest_36 n l2 l3 l4 M10 kx194 else bd (f_X12_worthAt (l3 + 1) M10) (fun r11 M12 => bN (sI M12 76 26 (l3 + 1)) (fun M13 => f_X12_findBest_165 k_fu r11 l3 l4 0 M13 (fun l2_ l3_ l4_ M_ => f_X12_findBest_191 l2_ l3_ l4_ M_ ((fun l2_ l3_ l4_ M_ => f_X12_findBest_36 n l2_ l3_ l4_ M_ kx194)) kx194)))) else wrI M6 87 8 (l3 + 1) (-1) (fun M14 => f_X12_findBest_36 n l2 (l3 + 1) l4 M14 kx194)) else f_X12_findBest_36 n l2 l3 l4 M6 kx194))) else f_X12_findBest_36 n l2 (l3 + (-1)) l4 M2 kx194)))
theorem m_X12_findBest_36 {Z : k_Z} {G : k_G} (C : k_C Z G RX12 cX12_findBest (true, 6, 5, 0, 0) (some .int) "findBest") (kx194 : Int32 → k_M → Option (Int32 × k_M)) (Hx194 : ∀ (l2 : Int32) (M : k_M), Sm Z G emI (true, 6, 5, 0, 0) (0, 0) 194 [(2, Value.int l2)] [] M (kx194 l2 M)) : ∀ (n : Nat) (l2 : Int32) (l3 : Int32) (l4 : Int32) (M : k_M), Sm Z G emI (true, 6, 5, 0, 0) (0, 0) 36 [(0, k_ra Z 76), (2, Value.int l2), (3, Value.int l3), (4, Value.int l4)] [] M (f_X12_findBest_36 n l2 l3 l4 M kx194)
  | 0, _, _, _, _ => x_none
  | n + 1, l2, l3, l4, M => by
    have ih := m_X12_findBest_36 C kx194 Hx194 n
    show Sm Z G emI _ _ _ _ _ _ (if l3 < 0 then kx194 l2 M else rdI M 87 8 l3 (fun v1 => wrI M 87 8 l3 (v1 + 1) (fun M2 => rdI M2 87 8 l3 (fun v3 => if v3 ≤ (M2.1 76 2) then rdI M2 87 8 l3 (fun v4 => bd (f_X12_goes l3 v4 2 M2) (fun r5 M6 => if r5 = 0 then f_X12_findBest_36 n l2 l3 l4 M6 kx194 else rdI M6 82 1100 ((25 * (l3 + 1)) + 1) (fun v7 => if v7 ≤ l4 then rdI M6 82 1100 ((25 * (l3 + 1)) + 1) (fun v8 => if l4 ≤ v8 then bd (f_X12_worthAt (l3 + 1) M6) (fun r9 M10 => if r9 ≤ l2 then f_X12_findBest_36 n l2 l3 l4 M10 kx194 else bd (f_X12_worthAt (l3 + 1) M10) (fun r11 M12 => bN (sI M12 76 26 (l3 + 1)) (fun M13 => f_X12_findBest_165 k_fu r11 l3 l4 0 M13 (fun l2_ l3_ l4_ M_ => f_X12_findBest_191 l2_ l3_ l4_ M_ ((fun l2_ l3_ l4_ M_ => f_X12_findBest_36 n l2_ l3_ l4_ M_ kx194)) kx194)))) else wrI M6 87 8 (l3 + 1) (-1) (fun M14 => f_X12_findBest_36 n l2 (l3 + 1) l4 M14 kx194)) else f_X12_findBest_36 n l2 l3 l4 M6 kx194))) else f_X12_findBest_36 n l2 (l3 + (-1)) l4 M2 kx194))))
    refine x_iload_n C (k_dg dt_X12_findBest_0 25 36 (.iload_n 3) 1 rfl) 2 rfl ?_
    refine x_if_lt C (tgt := 194) (k_dg dt_X12_findBest_0 26 37 (.ifCond .lt 157) 3 rfl) (by decide) (fun _ => ?_) (fun _ => ?_)
    · refine x_lv [1] rfl ?_
      exact Hx194 l2 M
    · refine x_aload_n C (k_dg dt_X12_findBest_0 27 40 (.aload_n 0) 1 rfl) 0 rfl ?_
      refine x_getR C (a := 76) (j := 24) 87 rfl rfl (by decide) fl_RX12_40 rfl rfl rfl (k_dg dt_X12_findBest_0 28 41 (.getfield 40) 3 rfl) ?_
      refine x_iload_n C (k_dg dt_X12_findBest_0 29 44 (.iload_n 3) 1 rfl) 2 rfl ?_
      refine x_dup2 C (k_dg dt_X12_findBest_0 30 45 (.dup2) 1 rfl) rfl rfl ?_
      refine x_iald C (a := 87) (n := 8) rfl rfl (k_dg dt_X12_findBest_0 31 46 (.iaload) 1 rfl) (fun v1 => ?_)
      refine x_iconst C (v := 1) (k_dg dt_X12_findBest_0 32 47 (.iconst 1) 1 rfl) (by decide) ?_
      refine x_iadd C (k_dg dt_X12_findBest_0 33 48 (.iadd) 1 rfl) ?_
      refine x_iast C (a := 87) (n := 8) rfl rfl (k_dg dt_X12_findBest_0 34 49 (.iastore) 1 rfl) (fun M2 => ?_)
      refine x_aload_n C (k_dg dt_X12_findBest_0 35 50 (.aload_n 0) 1 rfl) 0 rfl ?_
      refine x_getR C (a := 76) (j := 24) 87 rfl rfl (by decide) fl_RX12_40 rfl rfl rfl (k_dg dt_X12_findBest_0 36 51 (.getfield 40) 3 rfl) ?_
      refine x_iload_n C (k_dg dt_X12_findBest_0 37 54 (.iload_n 3) 1 rfl) 2 rfl ?_
      refine x_iald C (a := 87) (n := 8) rfl rfl (k_dg dt_X12_findBest_0 38 55 (.iaload) 1 rfl) (fun v3 => ?_)
      refine x_aload_n C (k_dg dt_X12_findBest_0 39 56 (.aload_n 0) 1 rfl) 0 rfl ?_
      refine x_getI C (a := 76) (j := 2) rfl rfl (by decide) fl_RX12_103 rfl (k_dg dt_X12_findBest_1 0 57 (.getfield 103) 3 rfl) ?_
      refine x_icmp_le C (tgt := 69) (k_dg dt_X12_findBest_1 1 60 (.if_icmp .le 9) 3 rfl) (by decide) (fun _ => ?_) (fun _ => ?_)
      · refine x_aload_n C (k_dg dt_X12_findBest_1 4 69 (.aload_n 0) 1 rfl) 0 rfl ?_
        refine x_iload_n C (k_dg dt_X12_findBest_1 5 70 (.iload_n 3) 1 rfl) 2 rfl ?_
        refine x_aload_n C (k_dg dt_X12_findBest_1 6 71 (.aload_n 0) 1 rfl) 0 rfl ?_
        refine x_getR C (a := 76) (j := 24) 87 rfl rfl (by decide) fl_RX12_40 rfl rfl rfl (k_dg dt_X12_findBest_1 7 72 (.getfield 40) 3 rfl) ?_
        refine x_iload_n C (k_dg dt_X12_findBest_1 8 75 (.iload_n 3) 1 rfl) 2 rfl ?_
        refine x_iald C (a := 87) (n := 8) rfl rfl (k_dg dt_X12_findBest_1 9 76 (.iaload) 1 rfl) (fun v4 => ?_)
        refine x_iconst C (v := 2) (k_dg dt_X12_findBest_1 10 77 (.iconst 2) 1 rfl) (by decide) ?_
        refine x_callV C (a := 76) (kd := 10) (vs := [Value.int l3, Value.int v4, Value.int 2]) (rest := []) rfl rfl (by decide) (fun r hr => by cases hr; rfl) (c_X12_goes C.2.2.2.2.2.2.2.2.2 G.2.1 l3 v4 2 M2) cy_X12_goes lk_RX12_256 im_X12_goes se_X12_goes (by decide) (by decide) (by decide) (by decide) rfl rfl (Nat.le_of_ble_eq_true rfl) (k_dg dt_X12_findBest_1 11 78 (.invokevirtual 256) 3 rfl) (fun r5 M6 => ?_)
        show Sm Z G _ _ _ _ [(0, k_ra Z 76), (2, Value.int l2), (3, Value.int l3), (4, Value.int l4)] [Value.int r5] _ _
        refine x_if_eq C (tgt := 36) (k_dg dt_X12_findBest_1 12 81 (.ifCond .eq (-45)) 3 rfl) (by decide) (fun _ => ?_) (fun _ => ?_)
        · exact ih l2 l3 l4 M6
        · refine x_aload_n C (k_dg dt_X12_findBest_1 13 84 (.aload_n 0) 1 rfl) 0 rfl ?_
          refine x_getR C (a := 76) (j := 10) 82 rfl rfl (by decide) fl_RX12_25 rfl rfl rfl (k_dg dt_X12_findBest_1 14 85 (.getfield 25) 3 rfl) ?_
          refine x_bipush C (v := 25) (k_dg dt_X12_findBest_1 15 88 (.bipush 25) 2 rfl) (by decide) ?_
          refine x_iload_n C (k_dg dt_X12_findBest_1 16 90 (.iload_n 3) 1 rfl) 2 rfl ?_
          refine x_iconst C (v := 1) (k_dg dt_X12_findBest_1 17 91 (.iconst 1) 1 rfl) (by decide) ?_
          refine x_iadd C (k_dg dt_X12_findBest_1 18 92 (.iadd) 1 rfl) ?_
          refine x_imul C (k_dg dt_X12_findBest_1 19 93 (.imul) 1 rfl) ?_
          refine x_iconst C (v := 1) (k_dg dt_X12_findBest_1 20 94 (.iconst 1) 1 rfl) (by decide) ?_
          refine x_iadd C (k_dg dt_X12_findBest_1 21 95 (.iadd) 1 rfl) ?_
          refine x_iald C (a := 82) (n := 1100) rfl rfl (k_dg dt_X12_findBest_1 22 96 (.iaload) 1 rfl) (fun v7 => ?_)
          refine x_iload C (k_dg dt_X12_findBest_1 23 97 (.iload 4) 2 rfl) 3 rfl ?_
          refine x_icmp_le C (tgt := 105) (k_dg dt_X12_findBest_1 24 99 (.if_icmp .le 6) 3 rfl) (by decide) (fun _ => ?_) (fun _ => ?_)
          · refine x_aload_n C (k_dg dt_X12_findBest_1 26 105 (.aload_n 0) 1 rfl) 0 rfl ?_
            refine x_getR C (a := 76) (j := 10) 82 rfl rfl (by decide) fl_RX12_25 rfl rfl rfl (k_dg dt_X12_findBest_1 27 106 (.getfield 25) 3 rfl) ?_
            refine x_bipush C (v := 25) (k_dg dt_X12_findBest_1 28 109 (.bipush 25) 2 rfl) (by decide) ?_
            refine x_iload_n C (k_dg dt_X12_findBest_1 29 111 (.iload_n 3) 1 rfl) 2 rfl ?_
            refine x_iconst C (v := 1) (k_dg dt_X12_findBest_1 30 112 (.iconst 1) 1 rfl) (by decide) ?_
            refine x_iadd C (k_dg dt_X12_findBest_1 31 113 (.iadd) 1 rfl) ?_
            refine x_imul C (k_dg dt_X12_findBest_1 32 114 (.imul) 1 rfl) ?_
            refine x_iconst C (v := 1) (k_dg dt_X12_findBest_1 33 115 (.iconst 1) 1 rfl) (by decide) ?_
            refine x_iadd C (k_dg dt_X12_findBest_1 34 116 (.iadd) 1 rfl) ?_
            refine x_iald C (a := 82) (n := 1100) rfl rfl (k_dg dt_X12_findBest_1 35 117 (.iaload) 1 rfl) (fun v8 => ?_)
            refine x_iload C (k_dg dt_X12_findBest_1 36 118 (.iload 4) 2 rfl) 3 rfl ?_
            refine x_icmp_ge C (tgt := 136) (k_dg dt_X12_findBest_1 37 120 (.if_icmp .ge 16) 3 rfl) (by decide) (fun _ => ?_) (fun _ => ?_)
            · refine x_aload_n C (k_dg dt_X12_findBest_2 5 136 (.aload_n 0) 1 rfl) 0 rfl ?_
              refine x_iload_n C (k_dg dt_X12_findBest_2 6 137 (.iload_n 3) 1 rfl) 2 rfl ?_
              refine x_iconst C (v := 1) (k_dg dt_X12_findBest_2 7 138 (.iconst 1) 1 rfl) (by decide) ?_
              refine x_iadd C (k_dg dt_X12_findBest_2 8 139 (.iadd) 1 rfl) ?_
              refine x_callV C (a := 76) (kd := 10) (vs := [Value.int (l3 + 1)]) (rest := []) rfl rfl (by decide) (fun r hr => by cases hr; rfl) (c_X12_worthAt C.2.2.2.2.2.2.2.2.2 G.2.1 (l3 + 1) M6) cy_X12_worthAt lk_RX12_232 im_X12_worthAt se_X12_worthAt (by decide) (by decide) (by decide) (by decide) rfl rfl (Nat.le_of_ble_eq_true rfl) (k_dg dt_X12_findBest_2 9 140 (.invokevirtual 232) 3 rfl) (fun r9 M10 => ?_)
              show Sm Z G _ _ _ _ [(0, k_ra Z 76), (2, Value.int l2), (3, Value.int l3), (4, Value.int l4)] [Value.int r9] _ _
              refine x_iload_n C (k_dg dt_X12_findBest_2 10 143 (.iload_n 2) 1 rfl) 1 rfl ?_
              refine x_icmp_le C (tgt := 36) (k_dg dt_X12_findBest_2 11 144 (.if_icmp .le (-108)) 3 rfl) (by decide) (fun _ => ?_) (fun _ => ?_)
              · exact ih l2 l3 l4 M10
              · refine x_aload_n C (k_dg dt_X12_findBest_2 12 147 (.aload_n 0) 1 rfl) 0 rfl ?_
                refine x_iload_n C (k_dg dt_X12_findBest_2 13 148 (.iload_n 3) 1 rfl) 2 rfl ?_
                refine x_iconst C (v := 1) (k_dg dt_X12_findBest_2 14 149 (.iconst 1) 1 rfl) (by decide) ?_
                refine x_iadd C (k_dg dt_X12_findBest_2 15 150 (.iadd) 1 rfl) ?_
                refine x_callV C (a := 76) (kd := 10) (vs := [Value.int (l3 + 1)]) (rest := []) rfl rfl (by decide) (fun r hr => by cases hr; rfl) (c_X12_worthAt C.2.2.2.2.2.2.2.2.2 G.2.1 (l3 + 1) M10) cy_X12_worthAt lk_RX12_232 im_X12_worthAt se_X12_worthAt (by decide) (by decide) (by decide) (by decide) rfl rfl (Nat.le_of_ble_eq_true rfl) (k_dg dt_X12_findBest_2 16 151 (.invokevirtual 232) 3 rfl) (fun r11 M12 => ?_)
                show Sm Z G _ _ _ _ [(0, k_ra Z 76), (2, Value.int l2), (3, Value.int l3), (4, Value.int l4)] [Value.int r11] _ _
                refine x_istore_n C (lv' := [(2, Value.int r11), (0, k_ra Z 76), (3, Value.int l3), (4, Value.int l4)]) (k_dg dt_X12_findBest_2 17 154 (.istore_n 2) 1 rfl) (by decide) rfl ?_
                refine x_aload_n C (k_dg dt_X12_findBest_2 18 155 (.aload_n 0) 1 rfl) 1 rfl ?_
                refine x_iload_n C (k_dg dt_X12_findBest_2 19 156 (.iload_n 3) 1 rfl) 2 rfl ?_
                refine x_iconst C (v := 1) (k_dg dt_X12_findBest_2 20 157 (.iconst 1) 1 rfl) (by decide) ?_
                refine x_iadd C (k_dg dt_X12_findBest_2 21 158 (.iadd) 1 rfl) ?_
                refine x_putI C (a := 76) (j := 26) rfl rfl (by decide) fl_RX12_266 rfl pt_10_26 tb_10 rfl rfl (k_dg dt_X12_findBest_2 22 159 (.putfield 266) 3 rfl) (fun M13 => ?_)
                refine x_iconst C (v := 0) (k_dg dt_X12_findBest_2 23 162 (.iconst 0) 1 rfl) (by decide) ?_
                refine x_istore C (lv' := [(5, Value.int 0), (2, Value.int r11), (0, k_ra Z 76), (3, Value.int l3), (4, Value.int l4)]) (k_dg dt_X12_findBest_2 24 163 (.istore 5) 2 rfl) (by decide) rfl ?_
                refine x_lv [2, 1, 3, 4, 0] rfl ?_
                exact m_X12_findBest_165 C (fun l2_ l3_ l4_ M_ => f_X12_findBest_191 l2_ l3_ l4_ M_ ((fun l2_ l3_ l4_ M_ => f_X12_findBest_36 n l2_ l3_ l4_ M_ kx194)) kx194) (fun l2_ l3_ l4_ M_ => m_X12_findBest_191 C ((fun l2_ l3_ l4_ M_ => f_X12_findBest_36 n l2_ l3_ l4_ M_ kx194)) kx194 ih Hx194 l2_ l3_ l4_ M_) k_fu r11 l3 l4 0 M13
            · refine x_iinc C (v := 1) (lv' := [(3, Value.int (l3 + 1)), (0, k_ra Z 76), (2, Value.int l2), (4, Value.int l4)]) (k_dg dt_X12_findBest_1 38 123 (.iinc 3 1) 3 rfl) 2 rfl (by decide) (by decide) rfl ?_
              refine x_aload_n C (k_dg dt_X12_findBest_1 39 126 (.aload_n 0) 1 rfl) 1 rfl ?_
              refine x_getR C (a := 76) (j := 24) 87 rfl rfl (by decide) fl_RX12_40 rfl rfl rfl (k_dg dt_X12_findBest_2 0 127 (.getfield 40) 3 rfl) ?_
              refine x_iload_n C (k_dg dt_X12_findBest_2 1 130 (.iload_n 3) 1 rfl) 0 rfl ?_
              refine x_iconst C (v := -1) (k_dg dt_X12_findBest_2 2 131 (.iconst (-1)) 1 rfl) (by decide) ?_
              refine x_iast C (a := 87) (n := 8) rfl rfl (k_dg dt_X12_findBest_2 3 132 (.iastore) 1 rfl) (fun M14 => ?_)
              refine x_goto C (tgt := 36) (k_dg dt_X12_findBest_2 4 133 (.goto (-97)) 3 rfl) (by decide) ?_
              refine x_lv [1, 2, 0, 3] rfl ?_
              exact ih l2 (l3 + 1) l4 M14
          · refine x_goto C (tgt := 36) (k_dg dt_X12_findBest_1 25 102 (.goto (-66)) 3 rfl) (by decide) ?_
            exact ih l2 l3 l4 M6
      · refine x_iinc C (v := -1) (lv' := [(3, Value.int (l3 + (-1))), (0, k_ra Z 76), (2, Value.int l2), (4, Value.int l4)]) (k_dg dt_X12_findBest_1 2 63 (.iinc 3 (-1)) 3 rfl) 2 rfl (by decide) (by decide) rfl ?_
        refine x_goto C (tgt := 36) (k_dg dt_X12_findBest_1 3 66 (.goto (-30)) 3 rfl) (by decide) ?_
        refine x_lv [1, 2, 0, 3] rfl ?_
        exact ih l2 (l3 + (-1)) l4 M2
def f_X12_findBest_194 (l2 : Int32) (M : k_M) : Option (Int32 × k_M) := some (l2, M)
theorem m_X12_findBest_194 {Z : k_Z} {G : k_G} (C : k_C Z G RX12 cX12_findBest (true, 6, 5, 0, 0) (some .int) "findBest") (l2 : Int32) (M : k_M) : Sm Z G emI (true, 6, 5, 0, 0) (0, 0) 194 [(2, Value.int l2)] [] M (f_X12_findBest_194 l2 M) := by
  show Sm Z G emI _ _ _ _ _ _ (some (l2, M))
  refine x_iload_n C (k_dg dt_X12_findBest_2 39 194 (.iload_n 2) 1 rfl) 0 rfl ?_
  exact x_iret C (by decide) (by decide) (k_dg dt_X12_findBest_3 0 195 (.ireturn) 1 rfl)
def f_X12_findBest (p1 : Int32) (M : k_M) : Option (Int32 × k_M) := bN (-1) (fun v1 => rdI M 82 1100 1 (fun v2 => bN (v2 + p1) (fun v3 => wrI M 87 8 0 (-1) (fun M4 => bN (sI M4 76 26 0) (fun M5 => if p1 = 0 then bd (f_X12_worthAt 0 M5) (fun r6 M7 => some (r6, M7)) else f_X12_findBest_36 k_fu v1 0 v3 M5 (fun l2_ M_ => f_X12_findBest_194 l2_ M_))))))
theorem m_X12_findBest_0 {Z : k_Z} {G : k_G} (C : k_C Z G RX12 cX12_findBest (true, 6, 5, 0, 0) (some .int) "findBest") (p1 : Int32) (M : k_M) : Sm Z G emI (true, 6, 5, 0, 0) (0, 0) 0 [(0, k_ra Z 76), (1, Value.int p1)] [] M (f_X12_findBest p1 M) := by
  show Sm Z G emI _ _ _ _ _ _ (bN (-1) (fun v1 => rdI M 82 1100 1 (fun v2 => bN (v2 + p1) (fun v3 => wrI M 87 8 0 (-1) (fun M4 => bN (sI M4 76 26 0) (fun M5 => if p1 = 0 then bd (f_X12_worthAt 0 M5) (fun r6 M7 => some (r6, M7)) else f_X12_findBest_36 k_fu v1 0 v3 M5 (fun l2_ M_ => f_X12_findBest_194 l2_ M_)))))))
  refine x_iconst C (v := -1) (k_dg dt_X12_findBest_0 0 0 (.iconst (-1)) 1 rfl) (by decide) ?_
  refine x_nm (w := Value.int) (fun v1 _ => ?_)
  refine x_istore_n C (lv' := [(2, Value.int v1), (0, k_ra Z 76), (1, Value.int p1)]) (k_dg dt_X12_findBest_0 1 1 (.istore_n 2) 1 rfl) (by decide) rfl ?_
  refine x_iconst C (v := 0) (k_dg dt_X12_findBest_0 2 2 (.iconst 0) 1 rfl) (by decide) ?_
  refine x_istore_n C (lv' := [(3, Value.int 0), (2, Value.int v1), (0, k_ra Z 76), (1, Value.int p1)]) (k_dg dt_X12_findBest_0 3 3 (.istore_n 3) 1 rfl) (by decide) rfl ?_
  refine x_aload_n C (k_dg dt_X12_findBest_0 4 4 (.aload_n 0) 1 rfl) 2 rfl ?_
  refine x_getR C (a := 76) (j := 10) 82 rfl rfl (by decide) fl_RX12_25 rfl rfl rfl (k_dg dt_X12_findBest_0 5 5 (.getfield 25) 3 rfl) ?_
  refine x_iconst C (v := 1) (k_dg dt_X12_findBest_0 6 8 (.iconst 1) 1 rfl) (by decide) ?_
  refine x_iald C (a := 82) (n := 1100) rfl rfl (k_dg dt_X12_findBest_0 7 9 (.iaload) 1 rfl) (fun v2 => ?_)
  refine x_iload_n C (k_dg dt_X12_findBest_0 8 10 (.iload_n 1) 1 rfl) 3 rfl ?_
  refine x_iadd C (k_dg dt_X12_findBest_0 9 11 (.iadd) 1 rfl) ?_
  refine x_nm (w := Value.int) (fun v3 _ => ?_)
  refine x_istore C (lv' := [(4, Value.int v3), (3, Value.int 0), (2, Value.int v1), (0, k_ra Z 76), (1, Value.int p1)]) (k_dg dt_X12_findBest_0 10 12 (.istore 4) 2 rfl) (by decide) rfl ?_
  refine x_aload_n C (k_dg dt_X12_findBest_0 11 14 (.aload_n 0) 1 rfl) 3 rfl ?_
  refine x_getR C (a := 76) (j := 24) 87 rfl rfl (by decide) fl_RX12_40 rfl rfl rfl (k_dg dt_X12_findBest_0 12 15 (.getfield 40) 3 rfl) ?_
  refine x_iconst C (v := 0) (k_dg dt_X12_findBest_0 13 18 (.iconst 0) 1 rfl) (by decide) ?_
  refine x_iconst C (v := -1) (k_dg dt_X12_findBest_0 14 19 (.iconst (-1)) 1 rfl) (by decide) ?_
  refine x_iast C (a := 87) (n := 8) rfl rfl (k_dg dt_X12_findBest_0 15 20 (.iastore) 1 rfl) (fun M4 => ?_)
  refine x_aload_n C (k_dg dt_X12_findBest_0 16 21 (.aload_n 0) 1 rfl) 3 rfl ?_
  refine x_iconst C (v := 0) (k_dg dt_X12_findBest_0 17 22 (.iconst 0) 1 rfl) (by decide) ?_
  refine x_putI C (a := 76) (j := 26) rfl rfl (by decide) fl_RX12_266 rfl pt_10_26 tb_10 rfl rfl (k_dg dt_X12_findBest_0 18 23 (.putfield 266) 3 rfl) (fun M5 => ?_)
  refine x_iload_n C (k_dg dt_X12_findBest_0 19 26 (.iload_n 1) 1 rfl) 4 rfl ?_
  refine x_if_ne C (tgt := 36) (k_dg dt_X12_findBest_0 20 27 (.ifCond .ne 9) 3 rfl) (by decide) (fun _ => ?_) (fun _ => ?_)
  · refine x_aload_n C (k_dg dt_X12_findBest_0 21 30 (.aload_n 0) 1 rfl) 3 rfl ?_
    refine x_iconst C (v := 0) (k_dg dt_X12_findBest_0 22 31 (.iconst 0) 1 rfl) (by decide) ?_
    refine x_callV C (a := 76) (kd := 10) (vs := [Value.int 0]) (rest := []) rfl rfl (by decide) (fun r hr => by cases hr; rfl) (c_X12_worthAt C.2.2.2.2.2.2.2.2.2 G.2.1 0 M5) cy_X12_worthAt lk_RX12_232 im_X12_worthAt se_X12_worthAt (by decide) (by decide) (by decide) (by decide) rfl rfl (Nat.le_of_ble_eq_true rfl) (k_dg dt_X12_findBest_0 23 32 (.invokevirtual 232) 3 rfl) (fun r6 M7 => ?_)
    show Sm Z G _ _ _ _ [(4, Value.int v3), (3, Value.int 0), (2, Value.int v1), (0, k_ra Z 76), (1, Value.int p1)] [Value.int r6] _ _
    exact x_iret C (by decide) (by decide) (k_dg dt_X12_findBest_0 24 35 (.ireturn) 1 rfl)
  · refine x_lv [3, 2, 1, 0] rfl ?_
    exact m_X12_findBest_36 C (fun l2_ M_ => f_X12_findBest_194 l2_ M_) (fun l2_ M_ => m_X12_findBest_194 C l2_ M_) k_fu v1 0 v3 M5
theorem c_X12_findBest {Z : k_Z} (hg : k_Gd Z) (l : Launch) (p1 : Int32) (M : k_M) : Con true Z l yX12_findBest cX12_findBest 6 (some .int) 5 0 0 emI [k_ra Z 76, Value.int p1] M (f_X12_findBest p1 M) := k_con hg (by decide) (Nat.le_of_ble_eq_true rfl) (fun G hl C => m_X12_findBest_0 C p1 M)
theorem dt_X12_best_0 : k_dec cX12_best [(0, .iload_n 1, 1), (1, .iconst 0, 1), (2, .bipush 6, 2), (4, .invokestatic 99, 3), (7, .ifCond .eq 10, 3), (10, .iload_n 2, 1), (11, .invokestatic 269, 3), (14, .ifCond .ne 5, 3), (17, .iconst (-1), 1), (18, .ireturn, 1), (19, .aload_n 0, 1), (20, .getfield 205, 3), (23, .ifCond .ne 6, 3), (26, .bipush (-4), 2), (28, .ireturn, 1), (29, .aload_n 0, 1), (30, .iload_n 1, 1), (31, .invokevirtual 272, 3), (34, .istore_n 3, 1), (35, .iload_n 3, 1), (36, .ifCond .ge 8, 3), (39, .bipush (-3), 2), (41, .goto 26, 3), (44, .iload_n 2, 1), (45, .ifCond .ne 7, 3), (48, .iload_n 3, 1), (49, .goto 18, 3), (52, .iload_n 1, 1), (53, .ifCond .ne 8, 3), (56, .bipush (-9), 2), (58, .goto 9, 3), (61, .aload_n 0, 1), (62, .getfield 43, 3), (65, .iconst 0, 1), (66, .iaload, 1), (67, .ireturn, 1)] = true := by decide +kernel
def f_X12_best (p1 : Int32) (p2 : Int32) (M : k_M) : Option (Int32 × k_M) := bd (f_X12_in p1 0 6 M) (fun r1 M2 => if r1 = 0 then some (-1, M2) else bd (f_X12_isSide p2 M2) (fun r3 M4 => if r3 = 0 then some (-1, M4) else if (M4.1 76 7) = 0 then some (-4, M4) else bd (f_X12_findBest p1 M4) (fun r5 M6 => if 0 ≤ r5 then if p2 = 0 then some (r5, M6) else if p1 = 0 then some (-9, M6) else rdI M6 88 8 0 (fun v7 => some (v7, M6)) else some (-3, M6))))
theorem m_X12_best_0 {Z : k_Z} {G : k_G} (C : k_C Z G RX12 cX12_best (true, 4, 6, 0, 0) (some .int) "best") (p1 : Int32) (p2 : Int32) (M : k_M) : Sm Z G emI (true, 4, 6, 0, 0) (0, 0) 0 [(0, k_ra Z 76), (1, Value.int p1), (2, Value.int p2)] [] M (f_X12_best p1 p2 M) := by
  show Sm Z G emI _ _ _ _ _ _ (bd (f_X12_in p1 0 6 M) (fun r1 M2 => if r1 = 0 then some (-1, M2) else bd (f_X12_isSide p2 M2) (fun r3 M4 => if r3 = 0 then some (-1, M4) else if (M4.1 76 7) = 0 then some (-4, M4) else bd (f_X12_findBest p1 M4) (fun r5 M6 => if 0 ≤ r5 then if p2 = 0 then some (r5, M6) else if p1 = 0 then some (-9, M6) else rdI M6 88 8 0 (fun v7 => some (v7, M6)) else some (-3, M6)))))
  refine x_iload_n C (k_dg dt_X12_best_0 0 0 (.iload_n 1) 1 rfl) 1 rfl ?_
  refine x_iconst C (v := 0) (k_dg dt_X12_best_0 1 1 (.iconst 0) 1 rfl) (by decide) ?_
  refine x_bipush C (v := 6) (k_dg dt_X12_best_0 2 2 (.bipush 6) 2 rfl) (by decide) ?_
  refine x_callS C (vs := [Value.int p1, Value.int 0, Value.int 6]) (rest := []) (c_X12_in C.2.2.2.2.2.2.2.2.2 G.2.1 p1 0 6 M) cy_X12_in lk_RX12_99 stt_X12_in (by decide) (by decide) (by decide) (by decide) rfl rfl (Nat.le_of_ble_eq_true rfl) (k_dg dt_X12_best_0 3 4 (.invokestatic 99) 3 rfl) (fun r1 M2 => ?_)
  show Sm Z G _ _ _ _ [(0, k_ra Z 76), (1, Value.int p1), (2, Value.int p2)] [Value.int r1] _ _
  refine x_if_eq C (tgt := 17) (k_dg dt_X12_best_0 4 7 (.ifCond .eq 10) 3 rfl) (by decide) (fun _ => ?_) (fun _ => ?_)
  · refine x_iconst C (v := -1) (k_dg dt_X12_best_0 8 17 (.iconst (-1)) 1 rfl) (by decide) ?_
    exact x_iret C (by decide) (by decide) (k_dg dt_X12_best_0 9 18 (.ireturn) 1 rfl)
  · refine x_iload_n C (k_dg dt_X12_best_0 5 10 (.iload_n 2) 1 rfl) 2 rfl ?_
    refine x_callS C (vs := [Value.int p2]) (rest := []) (c_X12_isSide C.2.2.2.2.2.2.2.2.2 G.2.1 p2 M2) cy_X12_isSide lk_RX12_269 stt_X12_isSide (by decide) (by decide) (by decide) (by decide) rfl rfl (Nat.le_of_ble_eq_true rfl) (k_dg dt_X12_best_0 6 11 (.invokestatic 269) 3 rfl) (fun r3 M4 => ?_)
    show Sm Z G _ _ _ _ [(0, k_ra Z 76), (1, Value.int p1), (2, Value.int p2)] [Value.int r3] _ _
    refine x_if_ne C (tgt := 19) (k_dg dt_X12_best_0 7 14 (.ifCond .ne 5) 3 rfl) (by decide) (fun _ => ?_) (fun _ => ?_)
    · refine x_iconst C (v := -1) (k_dg dt_X12_best_0 8 17 (.iconst (-1)) 1 rfl) (by decide) ?_
      exact x_iret C (by decide) (by decide) (k_dg dt_X12_best_0 9 18 (.ireturn) 1 rfl)
    · refine x_aload_n C (k_dg dt_X12_best_0 10 19 (.aload_n 0) 1 rfl) 0 rfl ?_
      refine x_getI C (a := 76) (j := 7) rfl rfl (by decide) fl_RX12_205 rfl (k_dg dt_X12_best_0 11 20 (.getfield 205) 3 rfl) ?_
      refine x_if_ne C (tgt := 29) (k_dg dt_X12_best_0 12 23 (.ifCond .ne 6) 3 rfl) (by decide) (fun _ => ?_) (fun _ => ?_)
      · refine x_bipush C (v := -4) (k_dg dt_X12_best_0 13 26 (.bipush (-4)) 2 rfl) (by decide) ?_
        exact x_iret C (by decide) (by decide) (k_dg dt_X12_best_0 14 28 (.ireturn) 1 rfl)
      · refine x_aload_n C (k_dg dt_X12_best_0 15 29 (.aload_n 0) 1 rfl) 0 rfl ?_
        refine x_iload_n C (k_dg dt_X12_best_0 16 30 (.iload_n 1) 1 rfl) 1 rfl ?_
        refine x_callV C (a := 76) (kd := 10) (vs := [Value.int p1]) (rest := []) rfl rfl (by decide) (fun r hr => by cases hr; rfl) (c_X12_findBest C.2.2.2.2.2.2.2.2.2 G.2.1 p1 M4) cy_X12_findBest lk_RX12_272 im_X12_findBest se_X12_findBest (by decide) (by decide) (by decide) (by decide) rfl rfl (Nat.le_of_ble_eq_true rfl) (k_dg dt_X12_best_0 17 31 (.invokevirtual 272) 3 rfl) (fun r5 M6 => ?_)
        show Sm Z G _ _ _ _ [(0, k_ra Z 76), (1, Value.int p1), (2, Value.int p2)] [Value.int r5] _ _
        refine x_istore_n C (lv' := [(3, Value.int r5), (0, k_ra Z 76), (1, Value.int p1), (2, Value.int p2)]) (k_dg dt_X12_best_0 18 34 (.istore_n 3) 1 rfl) (by decide) rfl ?_
        refine x_iload_n C (k_dg dt_X12_best_0 19 35 (.iload_n 3) 1 rfl) 0 rfl ?_
        refine x_if_ge C (tgt := 44) (k_dg dt_X12_best_0 20 36 (.ifCond .ge 8) 3 rfl) (by decide) (fun _ => ?_) (fun _ => ?_)
        · refine x_iload_n C (k_dg dt_X12_best_0 23 44 (.iload_n 2) 1 rfl) 3 rfl ?_
          refine x_if_ne C (tgt := 52) (k_dg dt_X12_best_0 24 45 (.ifCond .ne 7) 3 rfl) (by decide) (fun _ => ?_) (fun _ => ?_)
          · refine x_iload_n C (k_dg dt_X12_best_0 25 48 (.iload_n 3) 1 rfl) 0 rfl ?_
            refine x_goto C (tgt := 67) (k_dg dt_X12_best_0 26 49 (.goto 18) 3 rfl) (by decide) ?_
            exact x_iret C (by decide) (by decide) (k_dg dt_X12_best_0 35 67 (.ireturn) 1 rfl)
          · refine x_iload_n C (k_dg dt_X12_best_0 27 52 (.iload_n 1) 1 rfl) 2 rfl ?_
            refine x_if_ne C (tgt := 61) (k_dg dt_X12_best_0 28 53 (.ifCond .ne 8) 3 rfl) (by decide) (fun _ => ?_) (fun _ => ?_)
            · refine x_bipush C (v := -9) (k_dg dt_X12_best_0 29 56 (.bipush (-9)) 2 rfl) (by decide) ?_
              refine x_goto C (tgt := 67) (k_dg dt_X12_best_0 30 58 (.goto 9) 3 rfl) (by decide) ?_
              exact x_iret C (by decide) (by decide) (k_dg dt_X12_best_0 35 67 (.ireturn) 1 rfl)
            · refine x_aload_n C (k_dg dt_X12_best_0 31 61 (.aload_n 0) 1 rfl) 1 rfl ?_
              refine x_getR C (a := 76) (j := 25) 88 rfl rfl (by decide) fl_RX12_43 rfl rfl rfl (k_dg dt_X12_best_0 32 62 (.getfield 43) 3 rfl) ?_
              refine x_iconst C (v := 0) (k_dg dt_X12_best_0 33 65 (.iconst 0) 1 rfl) (by decide) ?_
              refine x_iald C (a := 88) (n := 8) rfl rfl (k_dg dt_X12_best_0 34 66 (.iaload) 1 rfl) (fun v7 => ?_)
              exact x_iret C (by decide) (by decide) (k_dg dt_X12_best_0 35 67 (.ireturn) 1 rfl)
        · refine x_bipush C (v := -3) (k_dg dt_X12_best_0 21 39 (.bipush (-3)) 2 rfl) (by decide) ?_
          refine x_goto C (tgt := 67) (k_dg dt_X12_best_0 22 41 (.goto 26) 3 rfl) (by decide) ?_
          exact x_iret C (by decide) (by decide) (k_dg dt_X12_best_0 35 67 (.ireturn) 1 rfl)
theorem c_X12_best {Z : k_Z} (hg : k_Gd Z) (l : Launch) (p1 : Int32) (p2 : Int32) (M : k_M) : Con true Z l yX12_best cX12_best 4 (some .int) 6 0 0 emI [k_ra Z 76, Value.int p1, Value.int p2] M (f_X12_best p1 p2 M) := k_con hg (by decide) (Nat.le_of_ble_eq_true rfl) (fun G hl C => m_X12_best_0 C p1 p2 M)
theorem dt_X12_last_0 : k_dec cX12_last [(0, .aload_n 0, 1), (1, .getfield 205, 3), (4, .ifCond .ne 6, 3), (7, .bipush (-4), 2), (9, .ireturn, 1), (10, .bipush 6, 2), (12, .istore_n 1, 1), (13, .aload_n 0, 1), (14, .iload_n 1, 1), (15, .invokevirtual 272, 3), (18, .ifCond .ge 9, 3), (21, .iinc 1 (-1), 3), (24, .goto (-11), 3), (27, .iload_n 1, 1), (28, .ireturn, 1)] = true := by decide +kernel
def f_X12_last_13 : Nat → Int32 → k_M → (Int32 → k_M → Option (Int32 × k_M)) → Option (Int32 × k_M)
  | 0, _, _, _ => none
  | n + 1, l1, M, kx27 => bd (f_X12_findBest l1 M) (fun r1 M2 => if 0 ≤ r1 then kx27 l1 M2 else f_X12_last_13 n (l1 + (-1)) M2 kx27)
theorem m_X12_last_13 {Z : k_Z} {G : k_G} (C : k_C Z G RX12 cX12_last (true, 2, 6, 0, 0) (some .int) "last") (kx27 : Int32 → k_M → Option (Int32 × k_M)) (Hx27 : ∀ (l1 : Int32) (M : k_M), Sm Z G emI (true, 2, 6, 0, 0) (0, 0) 27 [(1, Value.int l1)] [] M (kx27 l1 M)) : ∀ (n : Nat) (l1 : Int32) (M : k_M), Sm Z G emI (true, 2, 6, 0, 0) (0, 0) 13 [(0, k_ra Z 76), (1, Value.int l1)] [] M (f_X12_last_13 n l1 M kx27)
  | 0, _, _ => x_none
  | n + 1, l1, M => by
    have ih := m_X12_last_13 C kx27 Hx27 n
    show Sm Z G emI _ _ _ _ _ _ (bd (f_X12_findBest l1 M) (fun r1 M2 => if 0 ≤ r1 then kx27 l1 M2 else f_X12_last_13 n (l1 + (-1)) M2 kx27))
    refine x_aload_n C (k_dg dt_X12_last_0 7 13 (.aload_n 0) 1 rfl) 0 rfl ?_
    refine x_iload_n C (k_dg dt_X12_last_0 8 14 (.iload_n 1) 1 rfl) 1 rfl ?_
    refine x_callV C (a := 76) (kd := 10) (vs := [Value.int l1]) (rest := []) rfl rfl (by decide) (fun r hr => by cases hr; rfl) (c_X12_findBest C.2.2.2.2.2.2.2.2.2 G.2.1 l1 M) cy_X12_findBest lk_RX12_272 im_X12_findBest se_X12_findBest (by decide) (by decide) (by decide) (by decide) rfl rfl (Nat.le_of_ble_eq_true rfl) (k_dg dt_X12_last_0 9 15 (.invokevirtual 272) 3 rfl) (fun r1 M2 => ?_)
    show Sm Z G _ _ _ _ [(0, k_ra Z 76), (1, Value.int l1)] [Value.int r1] _ _
    refine x_if_ge C (tgt := 27) (k_dg dt_X12_last_0 10 18 (.ifCond .ge 9) 3 rfl) (by decide) (fun _ => ?_) (fun _ => ?_)
    · refine x_lv [1] rfl ?_
      exact Hx27 l1 M2
    · refine x_iinc C (v := -1) (lv' := [(1, Value.int (l1 + (-1))), (0, k_ra Z 76)]) (k_dg dt_X12_last_0 11 21 (.iinc 1 (-1)) 3 rfl) 1 rfl (by decide) (by decide) rfl ?_
      refine x_goto C (tgt := 13) (k_dg dt_X12_last_0 12 24 (.goto (-11)) 3 rfl) (by decide) ?_
      refine x_lv [1, 0] rfl ?_
      exact ih (l1 + (-1)) M2
def f_X12_last_27 (l1 : Int32) (M : k_M) : Option (Int32 × k_M) := some (l1, M)
theorem m_X12_last_27 {Z : k_Z} {G : k_G} (C : k_C Z G RX12 cX12_last (true, 2, 6, 0, 0) (some .int) "last") (l1 : Int32) (M : k_M) : Sm Z G emI (true, 2, 6, 0, 0) (0, 0) 27 [(1, Value.int l1)] [] M (f_X12_last_27 l1 M) := by
  show Sm Z G emI _ _ _ _ _ _ (some (l1, M))
  refine x_iload_n C (k_dg dt_X12_last_0 13 27 (.iload_n 1) 1 rfl) 0 rfl ?_
  exact x_iret C (by decide) (by decide) (k_dg dt_X12_last_0 14 28 (.ireturn) 1 rfl)
def f_X12_last (M : k_M) : Option (Int32 × k_M) := if (M.1 76 7) = 0 then some (-4, M) else f_X12_last_13 k_fu 6 M (fun l1_ M_ => f_X12_last_27 l1_ M_)
theorem m_X12_last_0 {Z : k_Z} {G : k_G} (C : k_C Z G RX12 cX12_last (true, 2, 6, 0, 0) (some .int) "last") (M : k_M) : Sm Z G emI (true, 2, 6, 0, 0) (0, 0) 0 [(0, k_ra Z 76)] [] M (f_X12_last M) := by
  show Sm Z G emI _ _ _ _ _ _ (if (M.1 76 7) = 0 then some (-4, M) else f_X12_last_13 k_fu 6 M (fun l1_ M_ => f_X12_last_27 l1_ M_))
  refine x_aload_n C (k_dg dt_X12_last_0 0 0 (.aload_n 0) 1 rfl) 0 rfl ?_
  refine x_getI C (a := 76) (j := 7) rfl rfl (by decide) fl_RX12_205 rfl (k_dg dt_X12_last_0 1 1 (.getfield 205) 3 rfl) ?_
  refine x_if_ne C (tgt := 10) (k_dg dt_X12_last_0 2 4 (.ifCond .ne 6) 3 rfl) (by decide) (fun _ => ?_) (fun _ => ?_)
  · refine x_bipush C (v := -4) (k_dg dt_X12_last_0 3 7 (.bipush (-4)) 2 rfl) (by decide) ?_
    exact x_iret C (by decide) (by decide) (k_dg dt_X12_last_0 4 9 (.ireturn) 1 rfl)
  · refine x_bipush C (v := 6) (k_dg dt_X12_last_0 5 10 (.bipush 6) 2 rfl) (by decide) ?_
    refine x_istore_n C (lv' := [(1, Value.int 6), (0, k_ra Z 76)]) (k_dg dt_X12_last_0 6 12 (.istore_n 1) 1 rfl) (by decide) rfl ?_
    refine x_lv [1, 0] rfl ?_
    exact m_X12_last_13 C (fun l1_ M_ => f_X12_last_27 l1_ M_) (fun l1_ M_ => m_X12_last_27 C l1_ M_) k_fu 6 M
theorem c_X12_last {Z : k_Z} (hg : k_Gd Z) (l : Launch) (M : k_M) : Con true Z l yX12_last cX12_last 2 (some .int) 6 0 0 emI [k_ra Z 76] M (f_X12_last M) := k_con hg (by decide) (Nat.le_of_ble_eq_true rfl) (fun G hl C => m_X12_last_0 C M)
theorem dt_X12_power_0 : k_dec cX12_power [(0, .iconst 1, 1), (1, .iconst 2, 1), (2, .iload_n 0, 1), (3, .imul, 1), (4, .ishl, 1), (5, .ireturn, 1)] = true := by decide +kernel
def f_X12_power (p1 : Int32) (M : k_M) : Option (Int32 × k_M) := some (1 <<< ((2 * p1) &&& 31), M)
theorem m_X12_power_0 {Z : k_Z} {G : k_G} (C : k_C Z G RX12 cX12_power (true, 1, 1, 0, 0) (some .int) "power") (p1 : Int32) (M : k_M) : Sm Z G emI (true, 1, 1, 0, 0) (0, 0) 0 [(0, Value.int p1)] [] M (f_X12_power p1 M) := by
  show Sm Z G emI _ _ _ _ _ _ (some (1 <<< ((2 * p1) &&& 31), M))
  refine x_iconst C (v := 1) (k_dg dt_X12_power_0 0 0 (.iconst 1) 1 rfl) (by decide) ?_
  refine x_iconst C (v := 2) (k_dg dt_X12_power_0 1 1 (.iconst 2) 1 rfl) (by decide) ?_
  refine x_iload_n C (k_dg dt_X12_power_0 2 2 (.iload_n 0) 1 rfl) 0 rfl ?_
  refine x_imul C (k_dg dt_X12_power_0 3 3 (.imul) 1 rfl) ?_
  refine x_ishl C (k_dg dt_X12_power_0 4 4 (.ishl) 1 rfl) ?_
  exact x_iret C (by decide) (by decide) (k_dg dt_X12_power_0 5 5 (.ireturn) 1 rfl)
theorem c_X12_power {Z : k_Z} (hg : k_Gd Z) (l : Launch) (p1 : Int32) (M : k_M) : Con true Z l yX12_power cX12_power 1 (some .int) 1 0 0 emI [Value.int p1] M (f_X12_power p1 M) := k_con hg (by decide) (Nat.le_of_ble_eq_true rfl) (fun G hl C => m_X12_power_0 C p1 M)
theorem dt_X12_isOnMeadow_0 : k_dec cX12_isOnMeadow [(0, .aload_n 0, 1), (1, .aload_n 0, 1), (2, .getfield 25, 3), (5, .bipush 25, 2), (7, .iload_n 1, 1), (8, .imul, 1), (9, .iaload, 1), (10, .iconst 0, 1), (11, .invokevirtual 214, 3), (14, .iconst 3, 1), (15, .if_icmp .ne 7, 3), (18, .iconst 1, 1), (19, .goto 4, 3), (22, .iconst 0, 1), (23, .ireturn, 1)] = true := by decide +kernel
def f_X12_isOnMeadow (p1 : Int32) (M : k_M) : Option (Int32 × k_M) := rdI M 82 1100 (25 * p1) (fun v1 => bd (f_X12_its v1 0 M) (fun r2 M3 => if r2 = 3 then some (1, M3) else some (0, M3)))
theorem m_X12_isOnMeadow_0 {Z : k_Z} {G : k_G} (C : k_C Z G RX12 cX12_isOnMeadow (true, 2, 2, 0, 0) (some .boolean) "isOnMeadow") (p1 : Int32) (M : k_M) : Sm Z G emI (true, 2, 2, 0, 0) (0, 0) 0 [(0, k_ra Z 76), (1, Value.int p1)] [] M (f_X12_isOnMeadow p1 M) := by
  show Sm Z G emI _ _ _ _ _ _ (rdI M 82 1100 (25 * p1) (fun v1 => bd (f_X12_its v1 0 M) (fun r2 M3 => if r2 = 3 then some (1, M3) else some (0, M3))))
  refine x_aload_n C (k_dg dt_X12_isOnMeadow_0 0 0 (.aload_n 0) 1 rfl) 0 rfl ?_
  refine x_aload_n C (k_dg dt_X12_isOnMeadow_0 1 1 (.aload_n 0) 1 rfl) 0 rfl ?_
  refine x_getR C (a := 76) (j := 10) 82 rfl rfl (by decide) fl_RX12_25 rfl rfl rfl (k_dg dt_X12_isOnMeadow_0 2 2 (.getfield 25) 3 rfl) ?_
  refine x_bipush C (v := 25) (k_dg dt_X12_isOnMeadow_0 3 5 (.bipush 25) 2 rfl) (by decide) ?_
  refine x_iload_n C (k_dg dt_X12_isOnMeadow_0 4 7 (.iload_n 1) 1 rfl) 1 rfl ?_
  refine x_imul C (k_dg dt_X12_isOnMeadow_0 5 8 (.imul) 1 rfl) ?_
  refine x_iald C (a := 82) (n := 1100) rfl rfl (k_dg dt_X12_isOnMeadow_0 6 9 (.iaload) 1 rfl) (fun v1 => ?_)
  refine x_iconst C (v := 0) (k_dg dt_X12_isOnMeadow_0 7 10 (.iconst 0) 1 rfl) (by decide) ?_
  refine x_callV C (a := 76) (kd := 10) (vs := [Value.int v1, Value.int 0]) (rest := []) rfl rfl (by decide) (fun r hr => by cases hr; rfl) (c_X12_its C.2.2.2.2.2.2.2.2.2 G.2.1 v1 0 M) cy_X12_its lk_RX12_214 im_X12_its se_X12_its (by decide) (by decide) (by decide) (by decide) rfl rfl (Nat.le_of_ble_eq_true rfl) (k_dg dt_X12_isOnMeadow_0 8 11 (.invokevirtual 214) 3 rfl) (fun r2 M3 => ?_)
  show Sm Z G _ _ _ _ [(0, k_ra Z 76), (1, Value.int p1)] [Value.int r2] _ _
  refine x_iconst C (v := 3) (k_dg dt_X12_isOnMeadow_0 9 14 (.iconst 3) 1 rfl) (by decide) ?_
  refine x_icmp_ne C (tgt := 22) (k_dg dt_X12_isOnMeadow_0 10 15 (.if_icmp .ne 7) 3 rfl) (by decide) (fun _ => ?_) (fun _ => ?_)
  · refine x_iconst C (v := 1) (k_dg dt_X12_isOnMeadow_0 11 18 (.iconst 1) 1 rfl) (by decide) ?_
    refine x_goto C (tgt := 23) (k_dg dt_X12_isOnMeadow_0 12 19 (.goto 4) 3 rfl) (by decide) ?_
    exact x_zret C (by decide) (by decide) rfl (k_dg dt_X12_isOnMeadow_0 14 23 (.ireturn) 1 rfl)
  · refine x_iconst C (v := 0) (k_dg dt_X12_isOnMeadow_0 13 22 (.iconst 0) 1 rfl) (by decide) ?_
    exact x_zret C (by decide) (by decide) rfl (k_dg dt_X12_isOnMeadow_0 14 23 (.ireturn) 1 rfl)
theorem c_X12_isOnMeadow {Z : k_Z} (hg : k_Gd Z) (l : Launch) (p1 : Int32) (M : k_M) : Con true Z l yX12_isOnMeadow cX12_isOnMeadow 2 (some .boolean) 2 0 0 emI [k_ra Z 76, Value.int p1] M (f_X12_isOnMeadow p1 M) := k_con hg (by decide) (Nat.le_of_ble_eq_true rfl) (fun G hl C => m_X12_isOnMeadow_0 C p1 M)
theorem dt_X12_down_0 : k_dec cX12_down [(0, .aload_n 0, 1), (1, .iload_n 1, 1), (2, .iload_n 2, 1), (3, .iload_n 3, 1), (4, .invokevirtual 256, 3), (7, .istore 4, 2), (9, .iload 4, 2), (11, .ifCond .ne 5, 3), (14, .iconst 0, 1), (15, .ireturn, 1), (16, .iload 4, 2), (18, .aload_n 0, 1), (19, .getfield 46, 3), (22, .iload_n 1, 1), (23, .iaload, 1), (24, .if_icmp .lt 13, 3), (27, .aload_n 0, 1), (28, .getfield 46, 3), (31, .iload_n 1, 1), (32, .iaload, 1), (33, .invokestatic 275, 3), (36, .ireturn, 1), (37, .aload_n 0, 1), (38, .getfield 46, 3), (41, .iload_n 1, 1), (42, .iconst 1, 1), (43, .iadd, 1), (44, .aload_n 0, 1), (45, .getfield 46, 3), (48, .iload_n 1, 1), (49, .iaload, 1), (50, .iload 4, 2), (52, .isub, 1), (53, .iastore, 1), (54, .aload_n 0, 1), (55, .getfield 49, 3), (58, .iload_n 1, 1), (59, .iconst 1, 1), (60, .iadd, 1), (61, .iconst 0, 1)] = true := by decide +kernel
theorem dt_X12_down_1 : k_dec cX12_down [(62, .iastore, 1), (63, .aload_n 0, 1), (64, .getfield 52, 3), (67, .iload_n 1, 1), (68, .iconst 1, 1), (69, .iadd, 1), (70, .iconst 0, 1), (71, .iastore, 1), (72, .aload_n 0, 1), (73, .getfield 58, 3), (76, .iload_n 1, 1), (77, .iconst 1, 1), (78, .iadd, 1), (79, .iconst 0, 1), (80, .iastore, 1), (81, .iconst (-1), 1), (82, .ireturn, 1)] = true := by decide +kernel
def f_X12_down (p1 : Int32) (p2 : Int32) (p3 : Int32) (M : k_M) : Option (Int32 × k_M) := bd (f_X12_goes p1 p2 p3 M) (fun r1 M2 => if r1 = 0 then some (0, M2) else rdI M2 89 6 p1 (fun v3 => if r1 < v3 then rdI M2 89 6 p1 (fun v4 => wrI M2 89 6 (p1 + 1) (v4 - r1) (fun M5 => wrI M5 90 6 (p1 + 1) 0 (fun M6 => wrI M6 91 6 (p1 + 1) 0 (fun M7 => wrI M7 93 6 (p1 + 1) 0 (fun M8 => some (-1, M8)))))) else rdI M2 89 6 p1 (fun v9 => bd (f_X12_power v9 M2) (fun r10 M11 => some (r10, M11)))))
theorem m_X12_down_0 {Z : k_Z} {G : k_G} (C : k_C Z G RX12 cX12_down (true, 5, 5, 0, 0) (some .int) "down") (p1 : Int32) (p2 : Int32) (p3 : Int32) (M : k_M) : Sm Z G emI (true, 5, 5, 0, 0) (0, 0) 0 [(0, k_ra Z 76), (1, Value.int p1), (2, Value.int p2), (3, Value.int p3)] [] M (f_X12_down p1 p2 p3 M) := by
  show Sm Z G emI _ _ _ _ _ _ (bd (f_X12_goes p1 p2 p3 M) (fun r1 M2 => if r1 = 0 then some (0, M2) else rdI M2 89 6 p1 (fun v3 => if r1 < v3 then rdI M2 89 6 p1 (fun v4 => wrI M2 89 6 (p1 + 1) (v4 - r1) (fun M5 => wrI M5 90 6 (p1 + 1) 0 (fun M6 => wrI M6 91 6 (p1 + 1) 0 (fun M7 => wrI M7 93 6 (p1 + 1) 0 (fun M8 => some (-1, M8)))))) else rdI M2 89 6 p1 (fun v9 => bd (f_X12_power v9 M2) (fun r10 M11 => some (r10, M11))))))
  refine x_aload_n C (k_dg dt_X12_down_0 0 0 (.aload_n 0) 1 rfl) 0 rfl ?_
  refine x_iload_n C (k_dg dt_X12_down_0 1 1 (.iload_n 1) 1 rfl) 1 rfl ?_
  refine x_iload_n C (k_dg dt_X12_down_0 2 2 (.iload_n 2) 1 rfl) 2 rfl ?_
  refine x_iload_n C (k_dg dt_X12_down_0 3 3 (.iload_n 3) 1 rfl) 3 rfl ?_
  refine x_callV C (a := 76) (kd := 10) (vs := [Value.int p1, Value.int p2, Value.int p3]) (rest := []) rfl rfl (by decide) (fun r hr => by cases hr; rfl) (c_X12_goes C.2.2.2.2.2.2.2.2.2 G.2.1 p1 p2 p3 M) cy_X12_goes lk_RX12_256 im_X12_goes se_X12_goes (by decide) (by decide) (by decide) (by decide) rfl rfl (Nat.le_of_ble_eq_true rfl) (k_dg dt_X12_down_0 4 4 (.invokevirtual 256) 3 rfl) (fun r1 M2 => ?_)
  show Sm Z G _ _ _ _ [(0, k_ra Z 76), (1, Value.int p1), (2, Value.int p2), (3, Value.int p3)] [Value.int r1] _ _
  refine x_istore C (lv' := [(4, Value.int r1), (0, k_ra Z 76), (1, Value.int p1), (2, Value.int p2), (3, Value.int p3)]) (k_dg dt_X12_down_0 5 7 (.istore 4) 2 rfl) (by decide) rfl ?_
  refine x_iload C (k_dg dt_X12_down_0 6 9 (.iload 4) 2 rfl) 0 rfl ?_
  refine x_if_ne C (tgt := 16) (k_dg dt_X12_down_0 7 11 (.ifCond .ne 5) 3 rfl) (by decide) (fun _ => ?_) (fun _ => ?_)
  · refine x_iconst C (v := 0) (k_dg dt_X12_down_0 8 14 (.iconst 0) 1 rfl) (by decide) ?_
    exact x_iret C (by decide) (by decide) (k_dg dt_X12_down_0 9 15 (.ireturn) 1 rfl)
  · refine x_iload C (k_dg dt_X12_down_0 10 16 (.iload 4) 2 rfl) 0 rfl ?_
    refine x_aload_n C (k_dg dt_X12_down_0 11 18 (.aload_n 0) 1 rfl) 1 rfl ?_
    refine x_getR C (a := 76) (j := 27) 89 rfl rfl (by decide) fl_RX12_46 rfl rfl rfl (k_dg dt_X12_down_0 12 19 (.getfield 46) 3 rfl) ?_
    refine x_iload_n C (k_dg dt_X12_down_0 13 22 (.iload_n 1) 1 rfl) 2 rfl ?_
    refine x_iald C (a := 89) (n := 6) rfl rfl (k_dg dt_X12_down_0 14 23 (.iaload) 1 rfl) (fun v3 => ?_)
    refine x_icmp_lt C (tgt := 37) (k_dg dt_X12_down_0 15 24 (.if_icmp .lt 13) 3 rfl) (by decide) (fun _ => ?_) (fun _ => ?_)
    · refine x_aload_n C (k_dg dt_X12_down_0 22 37 (.aload_n 0) 1 rfl) 1 rfl ?_
      refine x_getR C (a := 76) (j := 27) 89 rfl rfl (by decide) fl_RX12_46 rfl rfl rfl (k_dg dt_X12_down_0 23 38 (.getfield 46) 3 rfl) ?_
      refine x_iload_n C (k_dg dt_X12_down_0 24 41 (.iload_n 1) 1 rfl) 2 rfl ?_
      refine x_iconst C (v := 1) (k_dg dt_X12_down_0 25 42 (.iconst 1) 1 rfl) (by decide) ?_
      refine x_iadd C (k_dg dt_X12_down_0 26 43 (.iadd) 1 rfl) ?_
      refine x_aload_n C (k_dg dt_X12_down_0 27 44 (.aload_n 0) 1 rfl) 1 rfl ?_
      refine x_getR C (a := 76) (j := 27) 89 rfl rfl (by decide) fl_RX12_46 rfl rfl rfl (k_dg dt_X12_down_0 28 45 (.getfield 46) 3 rfl) ?_
      refine x_iload_n C (k_dg dt_X12_down_0 29 48 (.iload_n 1) 1 rfl) 2 rfl ?_
      refine x_iald C (a := 89) (n := 6) rfl rfl (k_dg dt_X12_down_0 30 49 (.iaload) 1 rfl) (fun v4 => ?_)
      refine x_iload C (k_dg dt_X12_down_0 31 50 (.iload 4) 2 rfl) 0 rfl ?_
      refine x_isub C (k_dg dt_X12_down_0 32 52 (.isub) 1 rfl) ?_
      refine x_iast C (a := 89) (n := 6) rfl rfl (k_dg dt_X12_down_0 33 53 (.iastore) 1 rfl) (fun M5 => ?_)
      refine x_aload_n C (k_dg dt_X12_down_0 34 54 (.aload_n 0) 1 rfl) 1 rfl ?_
      refine x_getR C (a := 76) (j := 28) 90 rfl rfl (by decide) fl_RX12_49 rfl rfl rfl (k_dg dt_X12_down_0 35 55 (.getfield 49) 3 rfl) ?_
      refine x_iload_n C (k_dg dt_X12_down_0 36 58 (.iload_n 1) 1 rfl) 2 rfl ?_
      refine x_iconst C (v := 1) (k_dg dt_X12_down_0 37 59 (.iconst 1) 1 rfl) (by decide) ?_
      refine x_iadd C (k_dg dt_X12_down_0 38 60 (.iadd) 1 rfl) ?_
      refine x_iconst C (v := 0) (k_dg dt_X12_down_0 39 61 (.iconst 0) 1 rfl) (by decide) ?_
      refine x_iast C (a := 90) (n := 6) rfl rfl (k_dg dt_X12_down_1 0 62 (.iastore) 1 rfl) (fun M6 => ?_)
      refine x_aload_n C (k_dg dt_X12_down_1 1 63 (.aload_n 0) 1 rfl) 1 rfl ?_
      refine x_getR C (a := 76) (j := 29) 91 rfl rfl (by decide) fl_RX12_52 rfl rfl rfl (k_dg dt_X12_down_1 2 64 (.getfield 52) 3 rfl) ?_
      refine x_iload_n C (k_dg dt_X12_down_1 3 67 (.iload_n 1) 1 rfl) 2 rfl ?_
      refine x_iconst C (v := 1) (k_dg dt_X12_down_1 4 68 (.iconst 1) 1 rfl) (by decide) ?_
      refine x_iadd C (k_dg dt_X12_down_1 5 69 (.iadd) 1 rfl) ?_
      refine x_iconst C (v := 0) (k_dg dt_X12_down_1 6 70 (.iconst 0) 1 rfl) (by decide) ?_
      refine x_iast C (a := 91) (n := 6) rfl rfl (k_dg dt_X12_down_1 7 71 (.iastore) 1 rfl) (fun M7 => ?_)
      refine x_aload_n C (k_dg dt_X12_down_1 8 72 (.aload_n 0) 1 rfl) 1 rfl ?_
      refine x_getR C (a := 76) (j := 31) 93 rfl rfl (by decide) fl_RX12_58 rfl rfl rfl (k_dg dt_X12_down_1 9 73 (.getfield 58) 3 rfl) ?_
      refine x_iload_n C (k_dg dt_X12_down_1 10 76 (.iload_n 1) 1 rfl) 2 rfl ?_
      refine x_iconst C (v := 1) (k_dg dt_X12_down_1 11 77 (.iconst 1) 1 rfl) (by decide) ?_
      refine x_iadd C (k_dg dt_X12_down_1 12 78 (.iadd) 1 rfl) ?_
      refine x_iconst C (v := 0) (k_dg dt_X12_down_1 13 79 (.iconst 0) 1 rfl) (by decide) ?_
      refine x_iast C (a := 93) (n := 6) rfl rfl (k_dg dt_X12_down_1 14 80 (.iastore) 1 rfl) (fun M8 => ?_)
      refine x_iconst C (v := -1) (k_dg dt_X12_down_1 15 81 (.iconst (-1)) 1 rfl) (by decide) ?_
      exact x_iret C (by decide) (by decide) (k_dg dt_X12_down_1 16 82 (.ireturn) 1 rfl)
    · refine x_aload_n C (k_dg dt_X12_down_0 16 27 (.aload_n 0) 1 rfl) 1 rfl ?_
      refine x_getR C (a := 76) (j := 27) 89 rfl rfl (by decide) fl_RX12_46 rfl rfl rfl (k_dg dt_X12_down_0 17 28 (.getfield 46) 3 rfl) ?_
      refine x_iload_n C (k_dg dt_X12_down_0 18 31 (.iload_n 1) 1 rfl) 2 rfl ?_
      refine x_iald C (a := 89) (n := 6) rfl rfl (k_dg dt_X12_down_0 19 32 (.iaload) 1 rfl) (fun v9 => ?_)
      refine x_callS C (vs := [Value.int v9]) (rest := []) (c_X12_power C.2.2.2.2.2.2.2.2.2 G.2.1 v9 M2) cy_X12_power lk_RX12_275 stt_X12_power (by decide) (by decide) (by decide) (by decide) rfl rfl (Nat.le_of_ble_eq_true rfl) (k_dg dt_X12_down_0 20 33 (.invokestatic 275) 3 rfl) (fun r10 M11 => ?_)
      show Sm Z G _ _ _ _ [(4, Value.int r1), (0, k_ra Z 76), (1, Value.int p1), (2, Value.int p2), (3, Value.int p3)] [Value.int r10] _ _
      exact x_iret C (by decide) (by decide) (k_dg dt_X12_down_0 21 36 (.ireturn) 1 rfl)
theorem c_X12_down {Z : k_Z} (hg : k_Gd Z) (l : Launch) (p1 : Int32) (p2 : Int32) (p3 : Int32) (M : k_M) : Con true Z l yX12_down cX12_down 5 (some .int) 5 0 0 emI [k_ra Z 76, Value.int p1, Value.int p2, Value.int p3] M (f_X12_down p1 p2 p3 M) := k_con hg (by decide) (Nat.le_of_ble_eq_true rfl) (fun G hl C => m_X12_down_0 C p1 p2 p3 M)
theorem dt_X12_findSurest_0 : k_dec cX12_findSurest [(0, .iconst 0, 1), (1, .istore_n 2, 1), (2, .aload_n 0, 1), (3, .getfield 46, 3), (6, .iconst 0, 1), (7, .iload_n 1, 1), (8, .iastore, 1), (9, .aload_n 0, 1), (10, .getfield 49, 3), (13, .iconst 0, 1), (14, .iconst 0, 1), (15, .iastore, 1), (16, .aload_n 0, 1), (17, .getfield 52, 3), (20, .iconst 0, 1), (21, .iconst 0, 1), (22, .iastore, 1), (23, .aload_n 0, 1), (24, .getfield 58, 3), (27, .iconst 0, 1), (28, .iconst 0, 1), (29, .iastore, 1), (30, .iconst (-1), 1), (31, .istore_n 3, 1), (32, .aload_n 0, 1), (33, .getfield 52, 3), (36, .iload_n 2, 1), (37, .iaload, 1), (38, .istore 4, 2), (40, .iload 4, 2), (42, .aload_n 0, 1), (43, .getfield 103, 3), (46, .if_icmp .le 46, 3), (49, .iload_n 2, 1), (50, .ifCond .ne 10, 3), (53, .aload_n 0, 1), (54, .getfield 49, 3), (57, .iconst 0, 1), (58, .iaload, 1), (59, .ireturn, 1)] = true := by decide +kernel
theorem dt_X12_findSurest_1 : k_dec cX12_findSurest [(60, .aload_n 0, 1), (61, .getfield 49, 3), (64, .iload_n 2, 1), (65, .iaload, 1), (66, .aload_n 0, 1), (67, .getfield 46, 3), (70, .iload_n 2, 1), (71, .iconst 1, 1), (72, .isub, 1), (73, .iaload, 1), (74, .aload_n 0, 1), (75, .getfield 46, 3), (78, .iload_n 2, 1), (79, .iaload, 1), (80, .isub, 1), (81, .invokestatic 275, 3), (84, .imul, 1), (85, .istore_n 3, 1), (86, .iinc 2 (-1), 3), (89, .goto (-57), 3), (92, .iload 4, 2), (94, .ifCond .ne 15, 3), (97, .aload_n 0, 1), (98, .iload_n 2, 1), (99, .invokevirtual 278, 3), (102, .ifCond .eq 7, 3), (105, .iconst 1, 1), (106, .goto 4, 3), (109, .iconst 0, 1), (110, .istore 5, 2), (112, .aload_n 0, 1), (113, .getfield 58, 3), (116, .iload_n 2, 1), (117, .iaload, 1), (118, .iconst 2, 1), (119, .irem, 1), (120, .ifCond .ne 50, 3), (123, .iload_n 3, 1), (124, .ifCond .ge 46, 3), (127, .aload_n 0, 1)] = true := by decide +kernel
theorem dt_X12_findSurest_2 : k_dec cX12_findSurest [(128, .iload_n 2, 1), (129, .iload 4, 2), (131, .aload_n 0, 1), (132, .getfield 58, 3), (135, .iload_n 2, 1), (136, .iaload, 1), (137, .iconst 2, 1), (138, .if_icmp .ne 7, 3), (141, .iconst 1, 1), (142, .goto 4, 3), (145, .iconst 0, 1), (146, .invokevirtual 281, 3), (149, .istore_n 3, 1), (150, .aload_n 0, 1), (151, .getfield 58, 3), (154, .iload_n 2, 1), (155, .dup2, 1), (156, .iaload, 1), (157, .iconst 1, 1), (158, .iadd, 1), (159, .iastore, 1), (160, .iload_n 3, 1), (161, .ifCond .ge (-129), 3), (164, .iinc 2 1, 3), (167, .goto (-135), 3), (170, .iload_n 3, 1), (171, .istore 6, 2), (173, .iconst (-1), 1), (174, .istore_n 3, 1), (175, .iload 5, 2), (177, .ifCond .eq 31, 3), (180, .aload_n 0, 1), (181, .getfield 58, 3), (184, .iload_n 2, 1), (185, .iaload, 1), (186, .iconst 1, 1), (187, .if_icmp .ne 21, 3), (190, .aload_n 0, 1), (191, .getfield 55, 3), (194, .iload_n 2, 1)] = true := by decide +kernel
theorem dt_X12_findSurest_3 : k_dec cX12_findSurest [(195, .iload 6, 2), (197, .iastore, 1), (198, .aload_n 0, 1), (199, .getfield 58, 3), (202, .iload_n 2, 1), (203, .iconst 2, 1), (204, .iastore, 1), (205, .goto (-173), 3), (208, .iload 5, 2), (210, .ifCond .eq 35, 3), (213, .aload_n 0, 1), (214, .getfield 55, 3), (217, .iload_n 2, 1), (218, .iaload, 1), (219, .iconst 4, 1), (220, .aload_n 0, 1), (221, .getfield 16, 3), (224, .bipush 12, 2), (226, .iaload, 1), (227, .isub, 1), (228, .imul, 1), (229, .iload 6, 2), (231, .aload_n 0, 1), (232, .getfield 16, 3), (235, .bipush 12, 2), (237, .iaload, 1), (238, .imul, 1), (239, .iadd, 1), (240, .iconst 4, 1), (241, .idiv, 1), (242, .goto 5, 3), (245, .iload 6, 2), (247, .istore 7, 2), (249, .aload_n 0, 1), (250, .getfield 49, 3), (253, .iload_n 2, 1), (254, .iload 7, 2), (256, .aload_n 0, 1), (257, .getfield 49, 3), (260, .iload_n 2, 1)] = true := by decide +kernel
theorem dt_X12_findSurest_4 : k_dec cX12_findSurest [(261, .iaload, 1), (262, .if_icmp .le 8, 3), (265, .iload 7, 2), (267, .goto 9, 3), (270, .aload_n 0, 1), (271, .getfield 49, 3), (274, .iload_n 2, 1), (275, .iaload, 1), (276, .iastore, 1), (277, .aload_n 0, 1), (278, .getfield 52, 3), (281, .iload_n 2, 1), (282, .dup2, 1), (283, .iaload, 1), (284, .iconst 1, 1), (285, .iadd, 1), (286, .iastore, 1), (287, .aload_n 0, 1), (288, .getfield 58, 3), (291, .iload_n 2, 1), (292, .iconst 0, 1), (293, .iastore, 1), (294, .goto (-262), 3)] = true := by decide +kernel
def f_X12_findSurest_146 (l2 : Int32) (t1 : Int32) (t2 : Int32) (t3 : Int32) (M : k_M) (kb : Int32 → Int32 → k_M → Option (Int32 × k_M)) (kx53 : k_M → Option (Int32 × k_M)) : Option (Int32 × k_M) := bd (f_X12_down t1 t2 t3 M) (fun r1 M2 => rdI M2 93 6 l2 (fun v3 => wrI M2 93 6 l2 (v3 + 1) (fun M4 => if 0 ≤ r1 then kb l2 r1 M4 else kb (l2 + 1) r1 M4)))
theorem m_X12_findSurest_146 {Z : k_Z} {G : k_G} (C : k_C Z G RX12 cX12_findSurest (true, 8, 6, 0, 0) (some .int) "findSurest") (kb : Int32 → Int32 → k_M → Option (Int32 × k_M)) (kx53 : k_M → Option (Int32 × k_M)) (Hb : ∀ (l2 : Int32) (l3 : Int32) (M : k_M), Sm Z G emI (true, 8, 6, 0, 0) (0, 0) 32 [(0, k_ra Z 76), (2, Value.int l2), (3, Value.int l3)] [] M (kb l2 l3 M)) (Hx53 : ∀ (M : k_M), Sm Z G emI (true, 8, 6, 0, 0) (0, 0) 53 [(0, k_ra Z 76)] [] M (kx53 M)) (l2 : Int32) (t1 : Int32) (t2 : Int32) (t3 : Int32) (M : k_M) : Sm Z G emI (true, 8, 6, 0, 0) (0, 0) 146 [(0, k_ra Z 76), (2, Value.int l2)] [Value.int t3, Value.int t2, Value.int t1, k_ra Z 76] M (f_X12_findSurest_146 l2 t1 t2 t3 M kb kx53) := by
  show Sm Z G emI _ _ _ _ _ _ (bd (f_X12_down t1 t2 t3 M) (fun r1 M2 => rdI M2 93 6 l2 (fun v3 => wrI M2 93 6 l2 (v3 + 1) (fun M4 => if 0 ≤ r1 then kb l2 r1 M4 else kb (l2 + 1) r1 M4))))
  refine x_callV C (a := 76) (kd := 10) (vs := [Value.int t1, Value.int t2, Value.int t3]) (rest := []) rfl rfl (by decide) (fun r hr => by cases hr; rfl) (c_X12_down C.2.2.2.2.2.2.2.2.2 G.2.1 t1 t2 t3 M) cy_X12_down lk_RX12_281 im_X12_down se_X12_down (by decide) (by decide) (by decide) (by decide) rfl rfl (Nat.le_of_ble_eq_true rfl) (k_dg dt_X12_findSurest_2 11 146 (.invokevirtual 281) 3 rfl) (fun r1 M2 => ?_)
  show Sm Z G _ _ _ _ [(0, k_ra Z 76), (2, Value.int l2)] [Value.int r1] _ _
  refine x_istore_n C (lv' := [(3, Value.int r1), (0, k_ra Z 76), (2, Value.int l2)]) (k_dg dt_X12_findSurest_2 12 149 (.istore_n 3) 1 rfl) (by decide) rfl ?_
  refine x_aload_n C (k_dg dt_X12_findSurest_2 13 150 (.aload_n 0) 1 rfl) 1 rfl ?_
  refine x_getR C (a := 76) (j := 31) 93 rfl rfl (by decide) fl_RX12_58 rfl rfl rfl (k_dg dt_X12_findSurest_2 14 151 (.getfield 58) 3 rfl) ?_
  refine x_iload_n C (k_dg dt_X12_findSurest_2 15 154 (.iload_n 2) 1 rfl) 2 rfl ?_
  refine x_dup2 C (k_dg dt_X12_findSurest_2 16 155 (.dup2) 1 rfl) rfl rfl ?_
  refine x_iald C (a := 93) (n := 6) rfl rfl (k_dg dt_X12_findSurest_2 17 156 (.iaload) 1 rfl) (fun v3 => ?_)
  refine x_iconst C (v := 1) (k_dg dt_X12_findSurest_2 18 157 (.iconst 1) 1 rfl) (by decide) ?_
  refine x_iadd C (k_dg dt_X12_findSurest_2 19 158 (.iadd) 1 rfl) ?_
  refine x_iast C (a := 93) (n := 6) rfl rfl (k_dg dt_X12_findSurest_2 20 159 (.iastore) 1 rfl) (fun M4 => ?_)
  refine x_iload_n C (k_dg dt_X12_findSurest_2 21 160 (.iload_n 3) 1 rfl) 0 rfl ?_
  refine x_if_ge C (tgt := 32) (k_dg dt_X12_findSurest_2 22 161 (.ifCond .ge (-129)) 3 rfl) (by decide) (fun _ => ?_) (fun _ => ?_)
  · refine x_lv [1, 2, 0] rfl ?_
    exact Hb l2 r1 M4
  · refine x_iinc C (v := 1) (lv' := [(2, Value.int (l2 + 1)), (3, Value.int r1), (0, k_ra Z 76)]) (k_dg dt_X12_findSurest_2 23 164 (.iinc 2 1) 3 rfl) 2 rfl (by decide) (by decide) rfl ?_
    refine x_goto C (tgt := 32) (k_dg dt_X12_findSurest_2 24 167 (.goto (-135)) 3 rfl) (by decide) ?_
    refine x_lv [2, 0, 1] rfl ?_
    exact Hb (l2 + 1) r1 M4
def f_X12_findSurest_276 (l2 : Int32) (l3 : Int32) (t1 : Int32) (t2 : Int32) (M : k_M) (kb : Int32 → Int32 → k_M → Option (Int32 × k_M)) (kx53 : k_M → Option (Int32 × k_M)) : Option (Int32 × k_M) := wrI M 90 6 t1 t2 (fun M1 => rdI M1 91 6 l2 (fun v2 => wrI M1 91 6 l2 (v2 + 1) (fun M3 => wrI M3 93 6 l2 0 (fun M4 => kb l2 l3 M4))))
theorem m_X12_findSurest_276 {Z : k_Z} {G : k_G} (C : k_C Z G RX12 cX12_findSurest (true, 8, 6, 0, 0) (some .int) "findSurest") (kb : Int32 → Int32 → k_M → Option (Int32 × k_M)) (kx53 : k_M → Option (Int32 × k_M)) (Hb : ∀ (l2 : Int32) (l3 : Int32) (M : k_M), Sm Z G emI (true, 8, 6, 0, 0) (0, 0) 32 [(0, k_ra Z 76), (2, Value.int l2), (3, Value.int l3)] [] M (kb l2 l3 M)) (Hx53 : ∀ (M : k_M), Sm Z G emI (true, 8, 6, 0, 0) (0, 0) 53 [(0, k_ra Z 76)] [] M (kx53 M)) (l2 : Int32) (l3 : Int32) (t1 : Int32) (t2 : Int32) (M : k_M) : Sm Z G emI (true, 8, 6, 0, 0) (0, 0) 276 [(0, k_ra Z 76), (2, Value.int l2), (3, Value.int l3)] [Value.int t2, Value.int t1, k_ra Z 90] M (f_X12_findSurest_276 l2 l3 t1 t2 M kb kx53) := by
  show Sm Z G emI _ _ _ _ _ _ (wrI M 90 6 t1 t2 (fun M1 => rdI M1 91 6 l2 (fun v2 => wrI M1 91 6 l2 (v2 + 1) (fun M3 => wrI M3 93 6 l2 0 (fun M4 => kb l2 l3 M4)))))
  refine x_iast C (a := 90) (n := 6) rfl rfl (k_dg dt_X12_findSurest_4 8 276 (.iastore) 1 rfl) (fun M1 => ?_)
  refine x_aload_n C (k_dg dt_X12_findSurest_4 9 277 (.aload_n 0) 1 rfl) 0 rfl ?_
  refine x_getR C (a := 76) (j := 29) 91 rfl rfl (by decide) fl_RX12_52 rfl rfl rfl (k_dg dt_X12_findSurest_4 10 278 (.getfield 52) 3 rfl) ?_
  refine x_iload_n C (k_dg dt_X12_findSurest_4 11 281 (.iload_n 2) 1 rfl) 1 rfl ?_
  refine x_dup2 C (k_dg dt_X12_findSurest_4 12 282 (.dup2) 1 rfl) rfl rfl ?_
  refine x_iald C (a := 91) (n := 6) rfl rfl (k_dg dt_X12_findSurest_4 13 283 (.iaload) 1 rfl) (fun v2 => ?_)
  refine x_iconst C (v := 1) (k_dg dt_X12_findSurest_4 14 284 (.iconst 1) 1 rfl) (by decide) ?_
  refine x_iadd C (k_dg dt_X12_findSurest_4 15 285 (.iadd) 1 rfl) ?_
  refine x_iast C (a := 91) (n := 6) rfl rfl (k_dg dt_X12_findSurest_4 16 286 (.iastore) 1 rfl) (fun M3 => ?_)
  refine x_aload_n C (k_dg dt_X12_findSurest_4 17 287 (.aload_n 0) 1 rfl) 0 rfl ?_
  refine x_getR C (a := 76) (j := 31) 93 rfl rfl (by decide) fl_RX12_58 rfl rfl rfl (k_dg dt_X12_findSurest_4 18 288 (.getfield 58) 3 rfl) ?_
  refine x_iload_n C (k_dg dt_X12_findSurest_4 19 291 (.iload_n 2) 1 rfl) 1 rfl ?_
  refine x_iconst C (v := 0) (k_dg dt_X12_findSurest_4 20 292 (.iconst 0) 1 rfl) (by decide) ?_
  refine x_iast C (a := 93) (n := 6) rfl rfl (k_dg dt_X12_findSurest_4 21 293 (.iastore) 1 rfl) (fun M4 => ?_)
  refine x_goto C (tgt := 32) (k_dg dt_X12_findSurest_4 22 294 (.goto (-262)) 3 rfl) (by decide) ?_
  exact Hb l2 l3 M4
def f_X12_findSurest_247 (l2 : Int32) (l3 : Int32) (t0 : Int32) (M : k_M) (kb : Int32 → Int32 → k_M → Option (Int32 × k_M)) (kx53 : k_M → Option (Int32 × k_M)) : Option (Int32 × k_M) := rdI M 90 6 l2 (fun v1 => if t0 ≤ v1 then rdI M 90 6 l2 (fun v2 => f_X12_findSurest_276 l2 l3 l2 v2 M kb kx53) else f_X12_findSurest_276 l2 l3 l2 t0 M kb kx53)
theorem m_X12_findSurest_247 {Z : k_Z} {G : k_G} (C : k_C Z G RX12 cX12_findSurest (true, 8, 6, 0, 0) (some .int) "findSurest") (kb : Int32 → Int32 → k_M → Option (Int32 × k_M)) (kx53 : k_M → Option (Int32 × k_M)) (Hb : ∀ (l2 : Int32) (l3 : Int32) (M : k_M), Sm Z G emI (true, 8, 6, 0, 0) (0, 0) 32 [(0, k_ra Z 76), (2, Value.int l2), (3, Value.int l3)] [] M (kb l2 l3 M)) (Hx53 : ∀ (M : k_M), Sm Z G emI (true, 8, 6, 0, 0) (0, 0) 53 [(0, k_ra Z 76)] [] M (kx53 M)) (l2 : Int32) (l3 : Int32) (t0 : Int32) (M : k_M) : Sm Z G emI (true, 8, 6, 0, 0) (0, 0) 247 [(0, k_ra Z 76), (2, Value.int l2), (3, Value.int l3)] [Value.int t0] M (f_X12_findSurest_247 l2 l3 t0 M kb kx53) := by
  show Sm Z G emI _ _ _ _ _ _ (rdI M 90 6 l2 (fun v1 => if t0 ≤ v1 then rdI M 90 6 l2 (fun v2 => f_X12_findSurest_276 l2 l3 l2 v2 M kb kx53) else f_X12_findSurest_276 l2 l3 l2 t0 M kb kx53))
  refine x_istore C (lv' := [(7, Value.int t0), (0, k_ra Z 76), (2, Value.int l2), (3, Value.int l3)]) (k_dg dt_X12_findSurest_3 32 247 (.istore 7) 2 rfl) (by decide) rfl ?_
  refine x_aload_n C (k_dg dt_X12_findSurest_3 33 249 (.aload_n 0) 1 rfl) 1 rfl ?_
  refine x_getR C (a := 76) (j := 28) 90 rfl rfl (by decide) fl_RX12_49 rfl rfl rfl (k_dg dt_X12_findSurest_3 34 250 (.getfield 49) 3 rfl) ?_
  refine x_iload_n C (k_dg dt_X12_findSurest_3 35 253 (.iload_n 2) 1 rfl) 2 rfl ?_
  refine x_iload C (k_dg dt_X12_findSurest_3 36 254 (.iload 7) 2 rfl) 0 rfl ?_
  refine x_aload_n C (k_dg dt_X12_findSurest_3 37 256 (.aload_n 0) 1 rfl) 1 rfl ?_
  refine x_getR C (a := 76) (j := 28) 90 rfl rfl (by decide) fl_RX12_49 rfl rfl rfl (k_dg dt_X12_findSurest_3 38 257 (.getfield 49) 3 rfl) ?_
  refine x_iload_n C (k_dg dt_X12_findSurest_3 39 260 (.iload_n 2) 1 rfl) 2 rfl ?_
  refine x_iald C (a := 90) (n := 6) rfl rfl (k_dg dt_X12_findSurest_4 0 261 (.iaload) 1 rfl) (fun v1 => ?_)
  refine x_icmp_le C (tgt := 270) (k_dg dt_X12_findSurest_4 1 262 (.if_icmp .le 8) 3 rfl) (by decide) (fun _ => ?_) (fun _ => ?_)
  · refine x_aload_n C (k_dg dt_X12_findSurest_4 4 270 (.aload_n 0) 1 rfl) 1 rfl ?_
    refine x_getR C (a := 76) (j := 28) 90 rfl rfl (by decide) fl_RX12_49 rfl rfl rfl (k_dg dt_X12_findSurest_4 5 271 (.getfield 49) 3 rfl) ?_
    refine x_iload_n C (k_dg dt_X12_findSurest_4 6 274 (.iload_n 2) 1 rfl) 2 rfl ?_
    refine x_iald C (a := 90) (n := 6) rfl rfl (k_dg dt_X12_findSurest_4 7 275 (.iaload) 1 rfl) (fun v2 => ?_)
    refine x_lv [1, 2, 3] rfl ?_
    exact m_X12_findSurest_276 C kb kx53 Hb Hx53 l2 l3 l2 v2 M
  · refine x_iload C (k_dg dt_X12_findSurest_4 2 265 (.iload 7) 2 rfl) 0 rfl ?_
    refine x_goto C (tgt := 276) (k_dg dt_X12_findSurest_4 3 267 (.goto 9) 3 rfl) (by decide) ?_
    refine x_lv [1, 2, 3] rfl ?_
    exact m_X12_findSurest_276 C kb kx53 Hb Hx53 l2 l3 l2 t0 M
def f_X12_findSurest_208 (l2 : Int32) (l3 : Int32) (l5 : Int32) (l6 : Int32) (M : k_M) (kb : Int32 → Int32 → k_M → Option (Int32 × k_M)) (kx53 : k_M → Option (Int32 × k_M)) : Option (Int32 × k_M) := if l5 = 0 then f_X12_findSurest_247 l2 l3 l6 M kb kx53 else rdI M 92 6 l2 (fun v1 => rdI M 79 13 12 (fun v2 => rdI M 79 13 12 (fun v3 => f_X12_findSurest_247 l2 l3 (((v1 * (4 - v2)) + (l6 * v3)) / 4) M kb kx53)))
theorem m_X12_findSurest_208 {Z : k_Z} {G : k_G} (C : k_C Z G RX12 cX12_findSurest (true, 8, 6, 0, 0) (some .int) "findSurest") (kb : Int32 → Int32 → k_M → Option (Int32 × k_M)) (kx53 : k_M → Option (Int32 × k_M)) (Hb : ∀ (l2 : Int32) (l3 : Int32) (M : k_M), Sm Z G emI (true, 8, 6, 0, 0) (0, 0) 32 [(0, k_ra Z 76), (2, Value.int l2), (3, Value.int l3)] [] M (kb l2 l3 M)) (Hx53 : ∀ (M : k_M), Sm Z G emI (true, 8, 6, 0, 0) (0, 0) 53 [(0, k_ra Z 76)] [] M (kx53 M)) (l2 : Int32) (l3 : Int32) (l5 : Int32) (l6 : Int32) (M : k_M) : Sm Z G emI (true, 8, 6, 0, 0) (0, 0) 208 [(0, k_ra Z 76), (2, Value.int l2), (3, Value.int l3), (5, Value.int l5), (6, Value.int l6)] [] M (f_X12_findSurest_208 l2 l3 l5 l6 M kb kx53) := by
  show Sm Z G emI _ _ _ _ _ _ (if l5 = 0 then f_X12_findSurest_247 l2 l3 l6 M kb kx53 else rdI M 92 6 l2 (fun v1 => rdI M 79 13 12 (fun v2 => rdI M 79 13 12 (fun v3 => f_X12_findSurest_247 l2 l3 (((v1 * (4 - v2)) + (l6 * v3)) / 4) M kb kx53))))
  refine x_iload C (k_dg dt_X12_findSurest_3 8 208 (.iload 5) 2 rfl) 3 rfl ?_
  refine x_if_eq C (tgt := 245) (k_dg dt_X12_findSurest_3 9 210 (.ifCond .eq 35) 3 rfl) (by decide) (fun _ => ?_) (fun _ => ?_)
  · refine x_iload C (k_dg dt_X12_findSurest_3 31 245 (.iload 6) 2 rfl) 4 rfl ?_
    refine x_lv [0, 1, 2] rfl ?_
    exact m_X12_findSurest_247 C kb kx53 Hb Hx53 l2 l3 l6 M
  · refine x_aload_n C (k_dg dt_X12_findSurest_3 10 213 (.aload_n 0) 1 rfl) 0 rfl ?_
    refine x_getR C (a := 76) (j := 30) 92 rfl rfl (by decide) fl_RX12_55 rfl rfl rfl (k_dg dt_X12_findSurest_3 11 214 (.getfield 55) 3 rfl) ?_
    refine x_iload_n C (k_dg dt_X12_findSurest_3 12 217 (.iload_n 2) 1 rfl) 1 rfl ?_
    refine x_iald C (a := 92) (n := 6) rfl rfl (k_dg dt_X12_findSurest_3 13 218 (.iaload) 1 rfl) (fun v1 => ?_)
    refine x_iconst C (v := 4) (k_dg dt_X12_findSurest_3 14 219 (.iconst 4) 1 rfl) (by decide) ?_
    refine x_aload_n C (k_dg dt_X12_findSurest_3 15 220 (.aload_n 0) 1 rfl) 0 rfl ?_
    refine x_getR C (a := 76) (j := 4) 79 rfl rfl (by decide) fl_RX12_16 rfl rfl rfl (k_dg dt_X12_findSurest_3 16 221 (.getfield 16) 3 rfl) ?_
    refine x_bipush C (v := 12) (k_dg dt_X12_findSurest_3 17 224 (.bipush 12) 2 rfl) (by decide) ?_
    refine x_iald C (a := 79) (n := 13) rfl rfl (k_dg dt_X12_findSurest_3 18 226 (.iaload) 1 rfl) (fun v2 => ?_)
    refine x_isub C (k_dg dt_X12_findSurest_3 19 227 (.isub) 1 rfl) ?_
    refine x_imul C (k_dg dt_X12_findSurest_3 20 228 (.imul) 1 rfl) ?_
    refine x_iload C (k_dg dt_X12_findSurest_3 21 229 (.iload 6) 2 rfl) 4 rfl ?_
    refine x_aload_n C (k_dg dt_X12_findSurest_3 22 231 (.aload_n 0) 1 rfl) 0 rfl ?_
    refine x_getR C (a := 76) (j := 4) 79 rfl rfl (by decide) fl_RX12_16 rfl rfl rfl (k_dg dt_X12_findSurest_3 23 232 (.getfield 16) 3 rfl) ?_
    refine x_bipush C (v := 12) (k_dg dt_X12_findSurest_3 24 235 (.bipush 12) 2 rfl) (by decide) ?_
    refine x_iald C (a := 79) (n := 13) rfl rfl (k_dg dt_X12_findSurest_3 25 237 (.iaload) 1 rfl) (fun v3 => ?_)
    refine x_imul C (k_dg dt_X12_findSurest_3 26 238 (.imul) 1 rfl) ?_
    refine x_iadd C (k_dg dt_X12_findSurest_3 27 239 (.iadd) 1 rfl) ?_
    refine x_iconst C (v := 4) (k_dg dt_X12_findSurest_3 28 240 (.iconst 4) 1 rfl) (by decide) ?_
    refine x_idivC C (k_dg dt_X12_findSurest_3 29 241 (.idiv) 1 rfl) (by decide) ?_
    refine x_goto C (tgt := 247) (k_dg dt_X12_findSurest_3 30 242 (.goto 5) 3 rfl) (by decide) ?_
    refine x_lv [0, 1, 2] rfl ?_
    exact m_X12_findSurest_247 C kb kx53 Hb Hx53 l2 l3 (((v1 * (4 - v2)) + (l6 * v3)) / 4) M
def f_X12_findSurest_170 (l2 : Int32) (l3 : Int32) (l5 : Int32) (M : k_M) (kb : Int32 → Int32 → k_M → Option (Int32 × k_M)) (kx53 : k_M → Option (Int32 × k_M)) : Option (Int32 × k_M) := bN (-1) (fun v1 => if l5 = 0 then f_X12_findSurest_208 l2 v1 l5 l3 M kb kx53 else rdI M 93 6 l2 (fun v2 => if v2 = 1 then wrI M 92 6 l2 l3 (fun M3 => wrI M3 93 6 l2 2 (fun M4 => kb l2 v1 M4)) else f_X12_findSurest_208 l2 v1 l5 l3 M kb kx53))
theorem m_X12_findSurest_170 {Z : k_Z} {G : k_G} (C : k_C Z G RX12 cX12_findSurest (true, 8, 6, 0, 0) (some .int) "findSurest") (kb : Int32 → Int32 → k_M → Option (Int32 × k_M)) (kx53 : k_M → Option (Int32 × k_M)) (Hb : ∀ (l2 : Int32) (l3 : Int32) (M : k_M), Sm Z G emI (true, 8, 6, 0, 0) (0, 0) 32 [(0, k_ra Z 76), (2, Value.int l2), (3, Value.int l3)] [] M (kb l2 l3 M)) (Hx53 : ∀ (M : k_M), Sm Z G emI (true, 8, 6, 0, 0) (0, 0) 53 [(0, k_ra Z 76)] [] M (kx53 M)) (l2 : Int32) (l3 : Int32) (l5 : Int32) (M : k_M) : Sm Z G emI (true, 8, 6, 0, 0) (0, 0) 170 [(0, k_ra Z 76), (2, Value.int l2), (3, Value.int l3), (5, Value.int l5)] [] M (f_X12_findSurest_170 l2 l3 l5 M kb kx53) := by
  show Sm Z G emI _ _ _ _ _ _ (bN (-1) (fun v1 => if l5 = 0 then f_X12_findSurest_208 l2 v1 l5 l3 M kb kx53 else rdI M 93 6 l2 (fun v2 => if v2 = 1 then wrI M 92 6 l2 l3 (fun M3 => wrI M3 93 6 l2 2 (fun M4 => kb l2 v1 M4)) else f_X12_findSurest_208 l2 v1 l5 l3 M kb kx53)))
  refine x_iload_n C (k_dg dt_X12_findSurest_2 25 170 (.iload_n 3) 1 rfl) 2 rfl ?_
  refine x_istore C (lv' := [(6, Value.int l3), (0, k_ra Z 76), (2, Value.int l2), (3, Value.int l3), (5, Value.int l5)]) (k_dg dt_X12_findSurest_2 26 171 (.istore 6) 2 rfl) (by decide) rfl ?_
  refine x_iconst C (v := -1) (k_dg dt_X12_findSurest_2 27 173 (.iconst (-1)) 1 rfl) (by decide) ?_
  refine x_nm (w := Value.int) (fun v1 _ => ?_)
  refine x_istore_n C (lv' := [(3, Value.int v1), (6, Value.int l3), (0, k_ra Z 76), (2, Value.int l2), (5, Value.int l5)]) (k_dg dt_X12_findSurest_2 28 174 (.istore_n 3) 1 rfl) (by decide) rfl ?_
  refine x_iload C (k_dg dt_X12_findSurest_2 29 175 (.iload 5) 2 rfl) 4 rfl ?_
  refine x_if_eq C (tgt := 208) (k_dg dt_X12_findSurest_2 30 177 (.ifCond .eq 31) 3 rfl) (by decide) (fun _ => ?_) (fun _ => ?_)
  · refine x_lv [2, 3, 0, 4, 1] rfl ?_
    exact m_X12_findSurest_208 C kb kx53 Hb Hx53 l2 v1 l5 l3 M
  · refine x_aload_n C (k_dg dt_X12_findSurest_2 31 180 (.aload_n 0) 1 rfl) 2 rfl ?_
    refine x_getR C (a := 76) (j := 31) 93 rfl rfl (by decide) fl_RX12_58 rfl rfl rfl (k_dg dt_X12_findSurest_2 32 181 (.getfield 58) 3 rfl) ?_
    refine x_iload_n C (k_dg dt_X12_findSurest_2 33 184 (.iload_n 2) 1 rfl) 3 rfl ?_
    refine x_iald C (a := 93) (n := 6) rfl rfl (k_dg dt_X12_findSurest_2 34 185 (.iaload) 1 rfl) (fun v2 => ?_)
    refine x_iconst C (v := 1) (k_dg dt_X12_findSurest_2 35 186 (.iconst 1) 1 rfl) (by decide) ?_
    refine x_icmp_ne C (tgt := 208) (k_dg dt_X12_findSurest_2 36 187 (.if_icmp .ne 21) 3 rfl) (by decide) (fun _ => ?_) (fun _ => ?_)
    · refine x_aload_n C (k_dg dt_X12_findSurest_2 37 190 (.aload_n 0) 1 rfl) 2 rfl ?_
      refine x_getR C (a := 76) (j := 30) 92 rfl rfl (by decide) fl_RX12_55 rfl rfl rfl (k_dg dt_X12_findSurest_2 38 191 (.getfield 55) 3 rfl) ?_
      refine x_iload_n C (k_dg dt_X12_findSurest_2 39 194 (.iload_n 2) 1 rfl) 3 rfl ?_
      refine x_iload C (k_dg dt_X12_findSurest_3 0 195 (.iload 6) 2 rfl) 1 rfl ?_
      refine x_iast C (a := 92) (n := 6) rfl rfl (k_dg dt_X12_findSurest_3 1 197 (.iastore) 1 rfl) (fun M3 => ?_)
      refine x_aload_n C (k_dg dt_X12_findSurest_3 2 198 (.aload_n 0) 1 rfl) 2 rfl ?_
      refine x_getR C (a := 76) (j := 31) 93 rfl rfl (by decide) fl_RX12_58 rfl rfl rfl (k_dg dt_X12_findSurest_3 3 199 (.getfield 58) 3 rfl) ?_
      refine x_iload_n C (k_dg dt_X12_findSurest_3 4 202 (.iload_n 2) 1 rfl) 3 rfl ?_
      refine x_iconst C (v := 2) (k_dg dt_X12_findSurest_3 5 203 (.iconst 2) 1 rfl) (by decide) ?_
      refine x_iast C (a := 93) (n := 6) rfl rfl (k_dg dt_X12_findSurest_3 6 204 (.iastore) 1 rfl) (fun M4 => ?_)
      refine x_goto C (tgt := 32) (k_dg dt_X12_findSurest_3 7 205 (.goto (-173)) 3 rfl) (by decide) ?_
      refine x_lv [2, 3, 0] rfl ?_
      exact Hb l2 v1 M4
    · refine x_lv [2, 3, 0, 4, 1] rfl ?_
      exact m_X12_findSurest_208 C kb kx53 Hb Hx53 l2 v1 l5 l3 M
def f_X12_findSurest_110 (l2 : Int32) (l3 : Int32) (l4 : Int32) (t0 : Int32) (M : k_M) (kb : Int32 → Int32 → k_M → Option (Int32 × k_M)) (kx53 : k_M → Option (Int32 × k_M)) : Option (Int32 × k_M) := rdI M 93 6 l2 (fun v1 => if (v1 - v1 / 2 * 2) = 0 then if 0 ≤ l3 then f_X12_findSurest_170 l2 l3 t0 M kb kx53 else rdI M 93 6 l2 (fun v2 => if v2 = 2 then f_X12_findSurest_146 l2 l2 l4 1 M kb kx53 else f_X12_findSurest_146 l2 l2 l4 0 M kb kx53) else f_X12_findSurest_170 l2 l3 t0 M kb kx53)
theorem m_X12_findSurest_110 {Z : k_Z} {G : k_G} (C : k_C Z G RX12 cX12_findSurest (true, 8, 6, 0, 0) (some .int) "findSurest") (kb : Int32 → Int32 → k_M → Option (Int32 × k_M)) (kx53 : k_M → Option (Int32 × k_M)) (Hb : ∀ (l2 : Int32) (l3 : Int32) (M : k_M), Sm Z G emI (true, 8, 6, 0, 0) (0, 0) 32 [(0, k_ra Z 76), (2, Value.int l2), (3, Value.int l3)] [] M (kb l2 l3 M)) (Hx53 : ∀ (M : k_M), Sm Z G emI (true, 8, 6, 0, 0) (0, 0) 53 [(0, k_ra Z 76)] [] M (kx53 M)) (l2 : Int32) (l3 : Int32) (l4 : Int32) (t0 : Int32) (M : k_M) : Sm Z G emI (true, 8, 6, 0, 0) (0, 0) 110 [(0, k_ra Z 76), (2, Value.int l2), (3, Value.int l3), (4, Value.int l4)] [Value.int t0] M (f_X12_findSurest_110 l2 l3 l4 t0 M kb kx53) := by
  show Sm Z G emI _ _ _ _ _ _ (rdI M 93 6 l2 (fun v1 => if (v1 - v1 / 2 * 2) = 0 then if 0 ≤ l3 then f_X12_findSurest_170 l2 l3 t0 M kb kx53 else rdI M 93 6 l2 (fun v2 => if v2 = 2 then f_X12_findSurest_146 l2 l2 l4 1 M kb kx53 else f_X12_findSurest_146 l2 l2 l4 0 M kb kx53) else f_X12_findSurest_170 l2 l3 t0 M kb kx53))
  refine x_istore C (lv' := [(5, Value.int t0), (0, k_ra Z 76), (2, Value.int l2), (3, Value.int l3), (4, Value.int l4)]) (k_dg dt_X12_findSurest_1 29 110 (.istore 5) 2 rfl) (by decide) rfl ?_
  refine x_aload_n C (k_dg dt_X12_findSurest_1 30 112 (.aload_n 0) 1 rfl) 1 rfl ?_
  refine x_getR C (a := 76) (j := 31) 93 rfl rfl (by decide) fl_RX12_58 rfl rfl rfl (k_dg dt_X12_findSurest_1 31 113 (.getfield 58) 3 rfl) ?_
  refine x_iload_n C (k_dg dt_X12_findSurest_1 32 116 (.iload_n 2) 1 rfl) 2 rfl ?_
  refine x_iald C (a := 93) (n := 6) rfl rfl (k_dg dt_X12_findSurest_1 33 117 (.iaload) 1 rfl) (fun v1 => ?_)
  refine x_iconst C (v := 2) (k_dg dt_X12_findSurest_1 34 118 (.iconst 2) 1 rfl) (by decide) ?_
  refine x_iremC C (k_dg dt_X12_findSurest_1 35 119 (.irem) 1 rfl) (by decide) ?_
  refine x_if_ne C (tgt := 170) (k_dg dt_X12_findSurest_1 36 120 (.ifCond .ne 50) 3 rfl) (by decide) (fun _ => ?_) (fun _ => ?_)
  · refine x_iload_n C (k_dg dt_X12_findSurest_1 37 123 (.iload_n 3) 1 rfl) 3 rfl ?_
    refine x_if_ge C (tgt := 170) (k_dg dt_X12_findSurest_1 38 124 (.ifCond .ge 46) 3 rfl) (by decide) (fun _ => ?_) (fun _ => ?_)
    · refine x_lv [1, 2, 3, 0] rfl ?_
      exact m_X12_findSurest_170 C kb kx53 Hb Hx53 l2 l3 t0 M
    · refine x_aload_n C (k_dg dt_X12_findSurest_1 39 127 (.aload_n 0) 1 rfl) 1 rfl ?_
      refine x_iload_n C (k_dg dt_X12_findSurest_2 0 128 (.iload_n 2) 1 rfl) 2 rfl ?_
      refine x_iload C (k_dg dt_X12_findSurest_2 1 129 (.iload 4) 2 rfl) 4 rfl ?_
      refine x_aload_n C (k_dg dt_X12_findSurest_2 2 131 (.aload_n 0) 1 rfl) 1 rfl ?_
      refine x_getR C (a := 76) (j := 31) 93 rfl rfl (by decide) fl_RX12_58 rfl rfl rfl (k_dg dt_X12_findSurest_2 3 132 (.getfield 58) 3 rfl) ?_
      refine x_iload_n C (k_dg dt_X12_findSurest_2 4 135 (.iload_n 2) 1 rfl) 2 rfl ?_
      refine x_iald C (a := 93) (n := 6) rfl rfl (k_dg dt_X12_findSurest_2 5 136 (.iaload) 1 rfl) (fun v2 => ?_)
      refine x_iconst C (v := 2) (k_dg dt_X12_findSurest_2 6 137 (.iconst 2) 1 rfl) (by decide) ?_
      refine x_icmp_ne C (tgt := 145) (k_dg dt_X12_findSurest_2 7 138 (.if_icmp .ne 7) 3 rfl) (by decide) (fun _ => ?_) (fun _ => ?_)
      · refine x_iconst C (v := 1) (k_dg dt_X12_findSurest_2 8 141 (.iconst 1) 1 rfl) (by decide) ?_
        refine x_goto C (tgt := 146) (k_dg dt_X12_findSurest_2 9 142 (.goto 4) 3 rfl) (by decide) ?_
        refine x_lv [1, 2] rfl ?_
        exact m_X12_findSurest_146 C kb kx53 Hb Hx53 l2 l2 l4 1 M
      · refine x_iconst C (v := 0) (k_dg dt_X12_findSurest_2 10 145 (.iconst 0) 1 rfl) (by decide) ?_
        refine x_lv [1, 2] rfl ?_
        exact m_X12_findSurest_146 C kb kx53 Hb Hx53 l2 l2 l4 0 M
  · refine x_lv [1, 2, 3, 0] rfl ?_
    exact m_X12_findSurest_170 C kb kx53 Hb Hx53 l2 l3 t0 M
def f_X12_findSurest_109 (l2 : Int32) (l3 : Int32) (l4 : Int32) (M : k_M) (kb : Int32 → Int32 → k_M → Option (Int32 × k_M)) (kx53 : k_M → Option (Int32 × k_M)) : Option (Int32 × k_M) := f_X12_findSurest_110 l2 l3 l4 0 M kb kx53
theorem m_X12_findSurest_109 {Z : k_Z} {G : k_G} (C : k_C Z G RX12 cX12_findSurest (true, 8, 6, 0, 0) (some .int) "findSurest") (kb : Int32 → Int32 → k_M → Option (Int32 × k_M)) (kx53 : k_M → Option (Int32 × k_M)) (Hb : ∀ (l2 : Int32) (l3 : Int32) (M : k_M), Sm Z G emI (true, 8, 6, 0, 0) (0, 0) 32 [(0, k_ra Z 76), (2, Value.int l2), (3, Value.int l3)] [] M (kb l2 l3 M)) (Hx53 : ∀ (M : k_M), Sm Z G emI (true, 8, 6, 0, 0) (0, 0) 53 [(0, k_ra Z 76)] [] M (kx53 M)) (l2 : Int32) (l3 : Int32) (l4 : Int32) (M : k_M) : Sm Z G emI (true, 8, 6, 0, 0) (0, 0) 109 [(0, k_ra Z 76), (2, Value.int l2), (3, Value.int l3), (4, Value.int l4)] [] M (f_X12_findSurest_109 l2 l3 l4 M kb kx53) := by
  show Sm Z G emI _ _ _ _ _ _ (f_X12_findSurest_110 l2 l3 l4 0 M kb kx53)
  refine x_iconst C (v := 0) (k_dg dt_X12_findSurest_1 28 109 (.iconst 0) 1 rfl) (by decide) ?_
  exact m_X12_findSurest_110 C kb kx53 Hb Hx53 l2 l3 l4 0 M
def f_X12_findSurest_32 : Nat → Int32 → Int32 → k_M → (k_M → Option (Int32 × k_M)) → Option (Int32 × k_M)
  | 0, _, _, _, _ => none
  | n + 1, l2, l3, M, kx53 => rdI M 91 6 l2 (fun v1 => if v1 ≤ (M.1 76 2) then if v1 = 0 then bd (f_X12_isOnMeadow l2 M) (fun r2 M3 => if r2 = 0 then f_X12_findSurest_109 l2 l3 v1 M3 ((fun l2_ l3_ M_ => f_X12_findSurest_32 n l2_ l3_ M_ kx53)) kx53 else f_X12_findSurest_110 l2 l3 v1 1 M3 ((fun l2_ l3_ M_ => f_X12_findSurest_32 n l2_ l3_ M_ kx53)) kx53) else f_X12_findSurest_109 l2 l3 v1 M ((fun l2_ l3_ M_ => f_X12_findSurest_32 n l2_ l3_ M_ kx53)) kx53 else if l2 = 0 then kx53 M else rdI M 90 6 l2 (fun v4 => rdI M 89 6 (l2 - 1) (fun v5 => rdI M 89 6 l2 (fun v6 => bd (f_X12_power (v5 - v6) M) (fun r7 M8 => bN (v4 * r7) (fun v9 => f_X12_findSurest_32 n (l2 + (-1)) v9 M8 kx53))))))
theorem m_X12_findSurest_32 {Z : k_Z} {G : k_G} (C : k_C Z G RX12 cX12_findSurest (true, 8, 6, 0, 0) (some .int) "findSurest") (kx53 : k_M → Option (Int32 × k_M)) (Hx53 : ∀ (M : k_M), Sm Z G emI (true, 8, 6, 0, 0) (0, 0) 53 [(0, k_ra Z 76)] [] M (kx53 M)) : ∀ (n : Nat) (l2 : Int32) (l3 : Int32) (M : k_M), Sm Z G emI (true, 8, 6, 0, 0) (0, 0) 32 [(0, k_ra Z 76), (2, Value.int l2), (3, Value.int l3)] [] M (f_X12_findSurest_32 n l2 l3 M kx53)
  | 0, _, _, _ => x_none
  | n + 1, l2, l3, M => by
    have ih := m_X12_findSurest_32 C kx53 Hx53 n
    show Sm Z G emI _ _ _ _ _ _ (rdI M 91 6 l2 (fun v1 => if v1 ≤ (M.1 76 2) then if v1 = 0 then bd (f_X12_isOnMeadow l2 M) (fun r2 M3 => if r2 = 0 then f_X12_findSurest_109 l2 l3 v1 M3 ((fun l2_ l3_ M_ => f_X12_findSurest_32 n l2_ l3_ M_ kx53)) kx53 else f_X12_findSurest_110 l2 l3 v1 1 M3 ((fun l2_ l3_ M_ => f_X12_findSurest_32 n l2_ l3_ M_ kx53)) kx53) else f_X12_findSurest_109 l2 l3 v1 M ((fun l2_ l3_ M_ => f_X12_findSurest_32 n l2_ l3_ M_ kx53)) kx53 else if l2 = 0 then kx53 M else rdI M 90 6 l2 (fun v4 => rdI M 89 6 (l2 - 1) (fun v5 => rdI M 89 6 l2 (fun v6 => bd (f_X12_power (v5 - v6) M) (fun r7 M8 => bN (v4 * r7) (fun v9 => f_X12_findSurest_32 n (l2 + (-1)) v9 M8 kx53)))))))
    refine x_aload_n C (k_dg dt_X12_findSurest_0 24 32 (.aload_n 0) 1 rfl) 0 rfl ?_
    refine x_getR C (a := 76) (j := 29) 91 rfl rfl (by decide) fl_RX12_52 rfl rfl rfl (k_dg dt_X12_findSurest_0 25 33 (.getfield 52) 3 rfl) ?_
    refine x_iload_n C (k_dg dt_X12_findSurest_0 26 36 (.iload_n 2) 1 rfl) 1 rfl ?_
    refine x_iald C (a := 91) (n := 6) rfl rfl (k_dg dt_X12_findSurest_0 27 37 (.iaload) 1 rfl) (fun v1 => ?_)
    refine x_istore C (lv' := [(4, Value.int v1), (0, k_ra Z 76), (2, Value.int l2), (3, Value.int l3)]) (k_dg dt_X12_findSurest_0 28 38 (.istore 4) 2 rfl) (by decide) rfl ?_
    refine x_iload C (k_dg dt_X12_findSurest_0 29 40 (.iload 4) 2 rfl) 0 rfl ?_
    refine x_aload_n C (k_dg dt_X12_findSurest_0 30 42 (.aload_n 0) 1 rfl) 1 rfl ?_
    refine x_getI C (a := 76) (j := 2) rfl rfl (by decide) fl_RX12_103 rfl (k_dg dt_X12_findSurest_0 31 43 (.getfield 103) 3 rfl) ?_
    refine x_icmp_le C (tgt := 92) (k_dg dt_X12_findSurest_0 32 46 (.if_icmp .le 46) 3 rfl) (by decide) (fun _ => ?_) (fun _ => ?_)
    · refine x_iload C (k_dg dt_X12_findSurest_1 20 92 (.iload 4) 2 rfl) 0 rfl ?_
      refine x_if_ne C (tgt := 109) (k_dg dt_X12_findSurest_1 21 94 (.ifCond .ne 15) 3 rfl) (by decide) (fun _ => ?_) (fun _ => ?_)
      · refine x_aload_n C (k_dg dt_X12_findSurest_1 22 97 (.aload_n 0) 1 rfl) 1 rfl ?_
        refine x_iload_n C (k_dg dt_X12_findSurest_1 23 98 (.iload_n 2) 1 rfl) 2 rfl ?_
        refine x_callV C (a := 76) (kd := 10) (vs := [Value.int l2]) (rest := []) rfl rfl (by decide) (fun r hr => by cases hr; rfl) (c_X12_isOnMeadow C.2.2.2.2.2.2.2.2.2 G.2.1 l2 M) cy_X12_isOnMeadow lk_RX12_278 im_X12_isOnMeadow se_X12_isOnMeadow (by decide) (by decide) (by decide) (by decide) rfl rfl (Nat.le_of_ble_eq_true rfl) (k_dg dt_X12_findSurest_1 24 99 (.invokevirtual 278) 3 rfl) (fun r2 M3 => ?_)
        show Sm Z G _ _ _ _ [(4, Value.int v1), (0, k_ra Z 76), (2, Value.int l2), (3, Value.int l3)] [Value.int r2] _ _
        refine x_if_eq C (tgt := 109) (k_dg dt_X12_findSurest_1 25 102 (.ifCond .eq 7) 3 rfl) (by decide) (fun _ => ?_) (fun _ => ?_)
        · refine x_lv [1, 2, 3, 0] rfl ?_
          exact m_X12_findSurest_109 C ((fun l2_ l3_ M_ => f_X12_findSurest_32 n l2_ l3_ M_ kx53)) kx53 ih Hx53 l2 l3 v1 M3
        · refine x_iconst C (v := 1) (k_dg dt_X12_findSurest_1 26 105 (.iconst 1) 1 rfl) (by decide) ?_
          refine x_goto C (tgt := 110) (k_dg dt_X12_findSurest_1 27 106 (.goto 4) 3 rfl) (by decide) ?_
          refine x_lv [1, 2, 3, 0] rfl ?_
          exact m_X12_findSurest_110 C ((fun l2_ l3_ M_ => f_X12_findSurest_32 n l2_ l3_ M_ kx53)) kx53 ih Hx53 l2 l3 v1 1 M3
      · refine x_lv [1, 2, 3, 0] rfl ?_
        exact m_X12_findSurest_109 C ((fun l2_ l3_ M_ => f_X12_findSurest_32 n l2_ l3_ M_ kx53)) kx53 ih Hx53 l2 l3 v1 M
    · refine x_iload_n C (k_dg dt_X12_findSurest_0 33 49 (.iload_n 2) 1 rfl) 2 rfl ?_
      refine x_if_ne C (tgt := 60) (k_dg dt_X12_findSurest_0 34 50 (.ifCond .ne 10) 3 rfl) (by decide) (fun _ => ?_) (fun _ => ?_)
      · refine x_lv [1] rfl ?_
        exact Hx53 M
      · refine x_aload_n C (k_dg dt_X12_findSurest_1 0 60 (.aload_n 0) 1 rfl) 1 rfl ?_
        refine x_getR C (a := 76) (j := 28) 90 rfl rfl (by decide) fl_RX12_49 rfl rfl rfl (k_dg dt_X12_findSurest_1 1 61 (.getfield 49) 3 rfl) ?_
        refine x_iload_n C (k_dg dt_X12_findSurest_1 2 64 (.iload_n 2) 1 rfl) 2 rfl ?_
        refine x_iald C (a := 90) (n := 6) rfl rfl (k_dg dt_X12_findSurest_1 3 65 (.iaload) 1 rfl) (fun v4 => ?_)
        refine x_aload_n C (k_dg dt_X12_findSurest_1 4 66 (.aload_n 0) 1 rfl) 1 rfl ?_
        refine x_getR C (a := 76) (j := 27) 89 rfl rfl (by decide) fl_RX12_46 rfl rfl rfl (k_dg dt_X12_findSurest_1 5 67 (.getfield 46) 3 rfl) ?_
        refine x_iload_n C (k_dg dt_X12_findSurest_1 6 70 (.iload_n 2) 1 rfl) 2 rfl ?_
        refine x_iconst C (v := 1) (k_dg dt_X12_findSurest_1 7 71 (.iconst 1) 1 rfl) (by decide) ?_
        refine x_isub C (k_dg dt_X12_findSurest_1 8 72 (.isub) 1 rfl) ?_
        refine x_iald C (a := 89) (n := 6) rfl rfl (k_dg dt_X12_findSurest_1 9 73 (.iaload) 1 rfl) (fun v5 => ?_)
        refine x_aload_n C (k_dg dt_X12_findSurest_1 10 74 (.aload_n 0) 1 rfl) 1 rfl ?_
        refine x_getR C (a := 76) (j := 27) 89 rfl rfl (by decide) fl_RX12_46 rfl rfl rfl (k_dg dt_X12_findSurest_1 11 75 (.getfield 46) 3 rfl) ?_
        refine x_iload_n C (k_dg dt_X12_findSurest_1 12 78 (.iload_n 2) 1 rfl) 2 rfl ?_
        refine x_iald C (a := 89) (n := 6) rfl rfl (k_dg dt_X12_findSurest_1 13 79 (.iaload) 1 rfl) (fun v6 => ?_)
        refine x_isub C (k_dg dt_X12_findSurest_1 14 80 (.isub) 1 rfl) ?_
        refine x_callS C (vs := [Value.int (v5 - v6)]) (rest := [Value.int v4]) (c_X12_power C.2.2.2.2.2.2.2.2.2 G.2.1 (v5 - v6) M) cy_X12_power lk_RX12_275 stt_X12_power (by decide) (by decide) (by decide) (by decide) rfl rfl (Nat.le_of_ble_eq_true rfl) (k_dg dt_X12_findSurest_1 15 81 (.invokestatic 275) 3 rfl) (fun r7 M8 => ?_)
        show Sm Z G _ _ _ _ [(4, Value.int v1), (0, k_ra Z 76), (2, Value.int l2), (3, Value.int l3)] [Value.int r7, Value.int v4] _ _
        refine x_imul C (k_dg dt_X12_findSurest_1 16 84 (.imul) 1 rfl) ?_
        refine x_nm (w := Value.int) (fun v9 _ => ?_)
        refine x_istore_n C (lv' := [(3, Value.int v9), (4, Value.int v1), (0, k_ra Z 76), (2, Value.int l2)]) (k_dg dt_X12_findSurest_1 17 85 (.istore_n 3) 1 rfl) (by decide) rfl ?_
        refine x_iinc C (v := -1) (lv' := [(2, Value.int (l2 + (-1))), (3, Value.int v9), (4, Value.int v1), (0, k_ra Z 76)]) (k_dg dt_X12_findSurest_1 18 86 (.iinc 2 (-1)) 3 rfl) 3 rfl (by decide) (by decide) rfl ?_
        refine x_goto C (tgt := 32) (k_dg dt_X12_findSurest_1 19 89 (.goto (-57)) 3 rfl) (by decide) ?_
        refine x_lv [3, 0, 1] rfl ?_
        exact ih (l2 + (-1)) v9 M8
def f_X12_findSurest_53 (M : k_M) : Option (Int32 × k_M) := rdI M 90 6 0 (fun v1 => some (v1, M))
theorem m_X12_findSurest_53 {Z : k_Z} {G : k_G} (C : k_C Z G RX12 cX12_findSurest (true, 8, 6, 0, 0) (some .int) "findSurest") (M : k_M) : Sm Z G emI (true, 8, 6, 0, 0) (0, 0) 53 [(0, k_ra Z 76)] [] M (f_X12_findSurest_53 M) := by
  show Sm Z G emI _ _ _ _ _ _ (rdI M 90 6 0 (fun v1 => some (v1, M)))
  refine x_aload_n C (k_dg dt_X12_findSurest_0 35 53 (.aload_n 0) 1 rfl) 0 rfl ?_
  refine x_getR C (a := 76) (j := 28) 90 rfl rfl (by decide) fl_RX12_49 rfl rfl rfl (k_dg dt_X12_findSurest_0 36 54 (.getfield 49) 3 rfl) ?_
  refine x_iconst C (v := 0) (k_dg dt_X12_findSurest_0 37 57 (.iconst 0) 1 rfl) (by decide) ?_
  refine x_iald C (a := 90) (n := 6) rfl rfl (k_dg dt_X12_findSurest_0 38 58 (.iaload) 1 rfl) (fun v1 => ?_)
  exact x_iret C (by decide) (by decide) (k_dg dt_X12_findSurest_0 39 59 (.ireturn) 1 rfl)
def f_X12_findSurest (p1 : Int32) (M : k_M) : Option (Int32 × k_M) := wrI M 89 6 0 p1 (fun M1 => wrI M1 90 6 0 0 (fun M2 => wrI M2 91 6 0 0 (fun M3 => wrI M3 93 6 0 0 (fun M4 => bN (-1) (fun v5 => f_X12_findSurest_32 k_fu 0 v5 M4 (fun M_ => f_X12_findSurest_53 M_))))))
theorem m_X12_findSurest_0 {Z : k_Z} {G : k_G} (C : k_C Z G RX12 cX12_findSurest (true, 8, 6, 0, 0) (some .int) "findSurest") (p1 : Int32) (M : k_M) : Sm Z G emI (true, 8, 6, 0, 0) (0, 0) 0 [(0, k_ra Z 76), (1, Value.int p1)] [] M (f_X12_findSurest p1 M) := by
  show Sm Z G emI _ _ _ _ _ _ (wrI M 89 6 0 p1 (fun M1 => wrI M1 90 6 0 0 (fun M2 => wrI M2 91 6 0 0 (fun M3 => wrI M3 93 6 0 0 (fun M4 => bN (-1) (fun v5 => f_X12_findSurest_32 k_fu 0 v5 M4 (fun M_ => f_X12_findSurest_53 M_)))))))
  refine x_iconst C (v := 0) (k_dg dt_X12_findSurest_0 0 0 (.iconst 0) 1 rfl) (by decide) ?_
  refine x_istore_n C (lv' := [(2, Value.int 0), (0, k_ra Z 76), (1, Value.int p1)]) (k_dg dt_X12_findSurest_0 1 1 (.istore_n 2) 1 rfl) (by decide) rfl ?_
  refine x_aload_n C (k_dg dt_X12_findSurest_0 2 2 (.aload_n 0) 1 rfl) 1 rfl ?_
  refine x_getR C (a := 76) (j := 27) 89 rfl rfl (by decide) fl_RX12_46 rfl rfl rfl (k_dg dt_X12_findSurest_0 3 3 (.getfield 46) 3 rfl) ?_
  refine x_iconst C (v := 0) (k_dg dt_X12_findSurest_0 4 6 (.iconst 0) 1 rfl) (by decide) ?_
  refine x_iload_n C (k_dg dt_X12_findSurest_0 5 7 (.iload_n 1) 1 rfl) 2 rfl ?_
  refine x_iast C (a := 89) (n := 6) rfl rfl (k_dg dt_X12_findSurest_0 6 8 (.iastore) 1 rfl) (fun M1 => ?_)
  refine x_aload_n C (k_dg dt_X12_findSurest_0 7 9 (.aload_n 0) 1 rfl) 1 rfl ?_
  refine x_getR C (a := 76) (j := 28) 90 rfl rfl (by decide) fl_RX12_49 rfl rfl rfl (k_dg dt_X12_findSurest_0 8 10 (.getfield 49) 3 rfl) ?_
  refine x_iconst C (v := 0) (k_dg dt_X12_findSurest_0 9 13 (.iconst 0) 1 rfl) (by decide) ?_
  refine x_iconst C (v := 0) (k_dg dt_X12_findSurest_0 10 14 (.iconst 0) 1 rfl) (by decide) ?_
  refine x_iast C (a := 90) (n := 6) rfl rfl (k_dg dt_X12_findSurest_0 11 15 (.iastore) 1 rfl) (fun M2 => ?_)
  refine x_aload_n C (k_dg dt_X12_findSurest_0 12 16 (.aload_n 0) 1 rfl) 1 rfl ?_
  refine x_getR C (a := 76) (j := 29) 91 rfl rfl (by decide) fl_RX12_52 rfl rfl rfl (k_dg dt_X12_findSurest_0 13 17 (.getfield 52) 3 rfl) ?_
  refine x_iconst C (v := 0) (k_dg dt_X12_findSurest_0 14 20 (.iconst 0) 1 rfl) (by decide) ?_
  refine x_iconst C (v := 0) (k_dg dt_X12_findSurest_0 15 21 (.iconst 0) 1 rfl) (by decide) ?_
  refine x_iast C (a := 91) (n := 6) rfl rfl (k_dg dt_X12_findSurest_0 16 22 (.iastore) 1 rfl) (fun M3 => ?_)
  refine x_aload_n C (k_dg dt_X12_findSurest_0 17 23 (.aload_n 0) 1 rfl) 1 rfl ?_
  refine x_getR C (a := 76) (j := 31) 93 rfl rfl (by decide) fl_RX12_58 rfl rfl rfl (k_dg dt_X12_findSurest_0 18 24 (.getfield 58) 3 rfl) ?_
  refine x_iconst C (v := 0) (k_dg dt_X12_findSurest_0 19 27 (.iconst 0) 1 rfl) (by decide) ?_
  refine x_iconst C (v := 0) (k_dg dt_X12_findSurest_0 20 28 (.iconst 0) 1 rfl) (by decide) ?_
  refine x_iast C (a := 93) (n := 6) rfl rfl (k_dg dt_X12_findSurest_0 21 29 (.iastore) 1 rfl) (fun M4 => ?_)
  refine x_iconst C (v := -1) (k_dg dt_X12_findSurest_0 22 30 (.iconst (-1)) 1 rfl) (by decide) ?_
  refine x_nm (w := Value.int) (fun v5 _ => ?_)
  refine x_istore_n C (lv' := [(3, Value.int v5), (2, Value.int 0), (0, k_ra Z 76), (1, Value.int p1)]) (k_dg dt_X12_findSurest_0 23 31 (.istore_n 3) 1 rfl) (by decide) rfl ?_
  refine x_lv [2, 1, 0] rfl ?_
  exact m_X12_findSurest_32 C (fun M_ => f_X12_findSurest_53 M_) (fun M_ => m_X12_findSurest_53 C M_) k_fu 0 v5 M4
theorem c_X12_findSurest {Z : k_Z} (hg : k_Gd Z) (l : Launch) (p1 : Int32) (M : k_M) : Con true Z l yX12_findSurest cX12_findSurest 8 (some .int) 6 0 0 emI [k_ra Z 76, Value.int p1] M (f_X12_findSurest p1 M) := k_con hg (by decide) (Nat.le_of_ble_eq_true rfl) (fun G hl C => m_X12_findSurest_0 C p1 M)
theorem dt_X12_lowest_0 : k_dec cX12_lowest [(0, .iload_n 1, 1), (1, .istore_n 3, 1), (2, .iload_n 2, 1), (3, .istore 4, 2), (5, .iload 4, 2), (7, .ifCond .eq 19, 3), (10, .iload_n 3, 1), (11, .iload 4, 2), (13, .irem, 1), (14, .istore 5, 2), (16, .iload 4, 2), (18, .istore_n 3, 1), (19, .iload 5, 2), (21, .istore 4, 2), (23, .goto (-18), 3), (26, .aload_n 0, 1), (27, .iload_n 1, 1), (28, .iload_n 3, 1), (29, .idiv, 1), (30, .putfield 284, 3), (33, .aload_n 0, 1), (34, .iload_n 2, 1), (35, .iload_n 3, 1), (36, .idiv, 1), (37, .putfield 287, 3), (40, .return_, 1)] = true := by decide +kernel
def f_X12_lowest_5 : Nat → Int32 → Int32 → Int32 → Int32 → k_M → (Int32 → Int32 → Int32 → k_M → Option (Unit × k_M)) → Option (Unit × k_M)
  | 0, _, _, _, _, _, _ => none
  | n + 1, l1, l2, l3, l4, M, kx26 => if l4 = 0 then kx26 l1 l2 l3 M else dv l4 (bN (l3 - l3 / l4 * l4) (fun v2 => f_X12_lowest_5 n l1 l2 l4 v2 M kx26))
theorem m_X12_lowest_5 {Z : k_Z} {G : k_G} (C : k_C Z G RX12 cX12_lowest (true, 6, 1, 0, 0) none "lowest") (kx26 : Int32 → Int32 → Int32 → k_M → Option (Unit × k_M)) (Hx26 : ∀ (l1 : Int32) (l2 : Int32) (l3 : Int32) (M : k_M), Sm Z G emV (true, 6, 1, 0, 0) (0, 0) 26 [(0, k_ra Z 76), (1, Value.int l1), (2, Value.int l2), (3, Value.int l3)] [] M (kx26 l1 l2 l3 M)) : ∀ (n : Nat) (l1 : Int32) (l2 : Int32) (l3 : Int32) (l4 : Int32) (M : k_M), Sm Z G emV (true, 6, 1, 0, 0) (0, 0) 5 [(0, k_ra Z 76), (1, Value.int l1), (2, Value.int l2), (3, Value.int l3), (4, Value.int l4)] [] M (f_X12_lowest_5 n l1 l2 l3 l4 M kx26)
  | 0, _, _, _, _, _ => x_none
  | n + 1, l1, l2, l3, l4, M => by
    have ih := m_X12_lowest_5 C kx26 Hx26 n
    show Sm Z G emV _ _ _ _ _ _ (if l4 = 0 then kx26 l1 l2 l3 M else dv l4 (bN (l3 - l3 / l4 * l4) (fun v2 => f_X12_lowest_5 n l1 l2 l4 v2 M kx26)))
    refine x_iload C (k_dg dt_X12_lowest_0 4 5 (.iload 4) 2 rfl) 4 rfl ?_
    refine x_if_eq C (tgt := 26) (k_dg dt_X12_lowest_0 5 7 (.ifCond .eq 19) 3 rfl) (by decide) (fun _ => ?_) (fun _ => ?_)
    · refine x_lv [0, 1, 2, 3] rfl ?_
      exact Hx26 l1 l2 l3 M
    · refine x_iload_n C (k_dg dt_X12_lowest_0 6 10 (.iload_n 3) 1 rfl) 3 rfl ?_
      refine x_iload C (k_dg dt_X12_lowest_0 7 11 (.iload 4) 2 rfl) 4 rfl ?_
      refine x_dv (y := l4) (fun h1 => ?_)
      refine x_iremC C (k_dg dt_X12_lowest_0 8 13 (.irem) 1 rfl) h1 ?_
      refine x_nm (w := Value.int) (fun v2 _ => ?_)
      refine x_istore C (lv' := [(5, Value.int v2), (0, k_ra Z 76), (1, Value.int l1), (2, Value.int l2), (3, Value.int l3), (4, Value.int l4)]) (k_dg dt_X12_lowest_0 9 14 (.istore 5) 2 rfl) (by decide) rfl ?_
      refine x_iload C (k_dg dt_X12_lowest_0 10 16 (.iload 4) 2 rfl) 5 rfl ?_
      refine x_istore_n C (lv' := [(3, Value.int l4), (5, Value.int v2), (0, k_ra Z 76), (1, Value.int l1), (2, Value.int l2), (4, Value.int l4)]) (k_dg dt_X12_lowest_0 11 18 (.istore_n 3) 1 rfl) (by decide) rfl ?_
      refine x_iload C (k_dg dt_X12_lowest_0 12 19 (.iload 5) 2 rfl) 1 rfl ?_
      refine x_istore C (lv' := [(4, Value.int v2), (3, Value.int l4), (5, Value.int v2), (0, k_ra Z 76), (1, Value.int l1), (2, Value.int l2)]) (k_dg dt_X12_lowest_0 13 21 (.istore 4) 2 rfl) (by decide) rfl ?_
      refine x_goto C (tgt := 5) (k_dg dt_X12_lowest_0 14 23 (.goto (-18)) 3 rfl) (by decide) ?_
      refine x_lv [3, 4, 5, 1, 0] rfl ?_
      exact ih l1 l2 l4 v2 M
def f_X12_lowest_26 (l1 : Int32) (l2 : Int32) (l3 : Int32) (M : k_M) : Option (Unit × k_M) := dv l3 (bN (sI M 76 32 (l1 / l3)) (fun M2 => dv l3 (bN (sI M2 76 33 (l2 / l3)) (fun M4 => some ((), M4)))))
theorem m_X12_lowest_26 {Z : k_Z} {G : k_G} (C : k_C Z G RX12 cX12_lowest (true, 6, 1, 0, 0) none "lowest") (l1 : Int32) (l2 : Int32) (l3 : Int32) (M : k_M) : Sm Z G emV (true, 6, 1, 0, 0) (0, 0) 26 [(0, k_ra Z 76), (1, Value.int l1), (2, Value.int l2), (3, Value.int l3)] [] M (f_X12_lowest_26 l1 l2 l3 M) := by
  show Sm Z G emV _ _ _ _ _ _ (dv l3 (bN (sI M 76 32 (l1 / l3)) (fun M2 => dv l3 (bN (sI M2 76 33 (l2 / l3)) (fun M4 => some ((), M4))))))
  refine x_aload_n C (k_dg dt_X12_lowest_0 15 26 (.aload_n 0) 1 rfl) 0 rfl ?_
  refine x_iload_n C (k_dg dt_X12_lowest_0 16 27 (.iload_n 1) 1 rfl) 1 rfl ?_
  refine x_iload_n C (k_dg dt_X12_lowest_0 17 28 (.iload_n 3) 1 rfl) 3 rfl ?_
  refine x_dv (y := l3) (fun h1 => ?_)
  refine x_idivC C (k_dg dt_X12_lowest_0 18 29 (.idiv) 1 rfl) h1 ?_
  refine x_putI C (a := 76) (j := 32) rfl rfl (by decide) fl_RX12_284 rfl pt_10_32 tb_10 rfl rfl (k_dg dt_X12_lowest_0 19 30 (.putfield 284) 3 rfl) (fun M2 => ?_)
  refine x_aload_n C (k_dg dt_X12_lowest_0 20 33 (.aload_n 0) 1 rfl) 0 rfl ?_
  refine x_iload_n C (k_dg dt_X12_lowest_0 21 34 (.iload_n 2) 1 rfl) 2 rfl ?_
  refine x_iload_n C (k_dg dt_X12_lowest_0 22 35 (.iload_n 3) 1 rfl) 3 rfl ?_
  refine x_dv (y := l3) (fun h3 => ?_)
  refine x_idivC C (k_dg dt_X12_lowest_0 23 36 (.idiv) 1 rfl) h3 ?_
  refine x_putI C (a := 76) (j := 33) rfl rfl (by decide) fl_RX12_287 rfl pt_10_33 tb_10 rfl rfl (k_dg dt_X12_lowest_0 24 37 (.putfield 287) 3 rfl) (fun M4 => ?_)
  exact x_vret C (by decide) (by decide) (k_dg dt_X12_lowest_0 25 40 (.return_) 1 rfl)
def f_X12_lowest (p1 : Int32) (p2 : Int32) (M : k_M) : Option (Unit × k_M) := f_X12_lowest_5 k_fu p1 p2 p1 p2 M (fun l1_ l2_ l3_ M_ => f_X12_lowest_26 l1_ l2_ l3_ M_)
theorem m_X12_lowest_0 {Z : k_Z} {G : k_G} (C : k_C Z G RX12 cX12_lowest (true, 6, 1, 0, 0) none "lowest") (p1 : Int32) (p2 : Int32) (M : k_M) : Sm Z G emV (true, 6, 1, 0, 0) (0, 0) 0 [(0, k_ra Z 76), (1, Value.int p1), (2, Value.int p2)] [] M (f_X12_lowest p1 p2 M) := by
  show Sm Z G emV _ _ _ _ _ _ (f_X12_lowest_5 k_fu p1 p2 p1 p2 M (fun l1_ l2_ l3_ M_ => f_X12_lowest_26 l1_ l2_ l3_ M_))
  refine x_iload_n C (k_dg dt_X12_lowest_0 0 0 (.iload_n 1) 1 rfl) 1 rfl ?_
  refine x_istore_n C (lv' := [(3, Value.int p1), (0, k_ra Z 76), (1, Value.int p1), (2, Value.int p2)]) (k_dg dt_X12_lowest_0 1 1 (.istore_n 3) 1 rfl) (by decide) rfl ?_
  refine x_iload_n C (k_dg dt_X12_lowest_0 2 2 (.iload_n 2) 1 rfl) 3 rfl ?_
  refine x_istore C (lv' := [(4, Value.int p2), (3, Value.int p1), (0, k_ra Z 76), (1, Value.int p1), (2, Value.int p2)]) (k_dg dt_X12_lowest_0 3 3 (.istore 4) 2 rfl) (by decide) rfl ?_
  refine x_lv [2, 3, 4, 1, 0] rfl ?_
  exact m_X12_lowest_5 C (fun l1_ l2_ l3_ M_ => f_X12_lowest_26 l1_ l2_ l3_ M_) (fun l1_ l2_ l3_ M_ => m_X12_lowest_26 C l1_ l2_ l3_ M_) k_fu p1 p2 p1 p2 M
theorem c_X12_lowest {Z : k_Z} (hg : k_Gd Z) (l : Launch) (p1 : Int32) (p2 : Int32) (M : k_M) : Con true Z l yX12_lowest cX12_lowest 6 none 1 0 0 emV [k_ra Z 76, Value.int p1, Value.int p2] M (f_X12_lowest p1 p2 M) := k_con hg (by decide) (Nat.le_of_ble_eq_true rfl) (fun G hl C => m_X12_lowest_0 C p1 p2 M)
theorem dt_X12_surest_0 : k_dec cX12_surest [(0, .iload_n 1, 1), (1, .iconst 0, 1), (2, .iconst 4, 1), (3, .invokestatic 99, 3), (6, .ifCond .eq 10, 3), (9, .iload_n 2, 1), (10, .invokestatic 269, 3), (13, .ifCond .ne 5, 3), (16, .iconst (-1), 1), (17, .ireturn, 1), (18, .aload_n 0, 1), (19, .getfield 205, 3), (22, .ifCond .ne 6, 3), (25, .bipush (-4), 2), (27, .ireturn, 1), (28, .aload_n 0, 1), (29, .iload_n 1, 1), (30, .ifCond .ne 7, 3), (33, .iconst 1, 1), (34, .goto 8, 3), (37, .aload_n 0, 1), (38, .iload_n 1, 1), (39, .invokevirtual 290, 3), (42, .iload_n 1, 1), (43, .invokestatic 275, 3), (46, .invokevirtual 293, 3), (49, .iload_n 2, 1), (50, .ifCond .ne 10, 3), (53, .aload_n 0, 1), (54, .getfield 284, 3), (57, .goto 7, 3), (60, .aload_n 0, 1), (61, .getfield 287, 3), (64, .ireturn, 1)] = true := by decide +kernel
def f_X12_surest_42 (l1 : Int32) (l2 : Int32) (t1 : Int32) (M : k_M) : Option (Int32 × k_M) := bd (f_X12_power l1 M) (fun r1 M2 => bd (f_X12_lowest t1 r1 M2) (fun r3 M4 => if l2 = 0 then some (M4.1 76 32, M4) else some (M4.1 76 33, M4)))
theorem m_X12_surest_42 {Z : k_Z} {G : k_G} (C : k_C Z G RX12 cX12_surest (true, 3, 7, 0, 0) (some .int) "surest") (l1 : Int32) (l2 : Int32) (t1 : Int32) (M : k_M) : Sm Z G emI (true, 3, 7, 0, 0) (0, 0) 42 [(0, k_ra Z 76), (1, Value.int l1), (2, Value.int l2)] [Value.int t1, k_ra Z 76] M (f_X12_surest_42 l1 l2 t1 M) := by
  show Sm Z G emI _ _ _ _ _ _ (bd (f_X12_power l1 M) (fun r1 M2 => bd (f_X12_lowest t1 r1 M2) (fun r3 M4 => if l2 = 0 then some (M4.1 76 32, M4) else some (M4.1 76 33, M4))))
  refine x_iload_n C (k_dg dt_X12_surest_0 23 42 (.iload_n 1) 1 rfl) 1 rfl ?_
  refine x_callS C (vs := [Value.int l1]) (rest := [Value.int t1, k_ra Z 76]) (c_X12_power C.2.2.2.2.2.2.2.2.2 G.2.1 l1 M) cy_X12_power lk_RX12_275 stt_X12_power (by decide) (by decide) (by decide) (by decide) rfl rfl (Nat.le_of_ble_eq_true rfl) (k_dg dt_X12_surest_0 24 43 (.invokestatic 275) 3 rfl) (fun r1 M2 => ?_)
  show Sm Z G _ _ _ _ [(0, k_ra Z 76), (1, Value.int l1), (2, Value.int l2)] [Value.int r1, Value.int t1, k_ra Z 76] _ _
  refine x_callV C (a := 76) (kd := 10) (vs := [Value.int t1, Value.int r1]) (rest := []) rfl rfl (by decide) (fun r hr => by cases hr; rfl) (c_X12_lowest C.2.2.2.2.2.2.2.2.2 G.2.1 t1 r1 M2) cy_X12_lowest lk_RX12_293 im_X12_lowest se_X12_lowest (by decide) (by decide) (by decide) (by decide) rfl rfl (Nat.le_of_ble_eq_true rfl) (k_dg dt_X12_surest_0 25 46 (.invokevirtual 293) 3 rfl) (fun r3 M4 => ?_)
  show Sm Z G _ _ _ _ [(0, k_ra Z 76), (1, Value.int l1), (2, Value.int l2)] [] _ _
  refine x_iload_n C (k_dg dt_X12_surest_0 26 49 (.iload_n 2) 1 rfl) 2 rfl ?_
  refine x_if_ne C (tgt := 60) (k_dg dt_X12_surest_0 27 50 (.ifCond .ne 10) 3 rfl) (by decide) (fun _ => ?_) (fun _ => ?_)
  · refine x_aload_n C (k_dg dt_X12_surest_0 28 53 (.aload_n 0) 1 rfl) 0 rfl ?_
    refine x_getI C (a := 76) (j := 32) rfl rfl (by decide) fl_RX12_284 rfl (k_dg dt_X12_surest_0 29 54 (.getfield 284) 3 rfl) ?_
    refine x_goto C (tgt := 64) (k_dg dt_X12_surest_0 30 57 (.goto 7) 3 rfl) (by decide) ?_
    exact x_iret C (by decide) (by decide) (k_dg dt_X12_surest_0 33 64 (.ireturn) 1 rfl)
  · refine x_aload_n C (k_dg dt_X12_surest_0 31 60 (.aload_n 0) 1 rfl) 0 rfl ?_
    refine x_getI C (a := 76) (j := 33) rfl rfl (by decide) fl_RX12_287 rfl (k_dg dt_X12_surest_0 32 61 (.getfield 287) 3 rfl) ?_
    exact x_iret C (by decide) (by decide) (k_dg dt_X12_surest_0 33 64 (.ireturn) 1 rfl)
def f_X12_surest (p1 : Int32) (p2 : Int32) (M : k_M) : Option (Int32 × k_M) := bd (f_X12_in p1 0 4 M) (fun r1 M2 => if r1 = 0 then some (-1, M2) else bd (f_X12_isSide p2 M2) (fun r3 M4 => if r3 = 0 then some (-1, M4) else if (M4.1 76 7) = 0 then some (-4, M4) else if p1 = 0 then f_X12_surest_42 p1 p2 1 M4 else bd (f_X12_findSurest p1 M4) (fun r5 M6 => f_X12_surest_42 p1 p2 r5 M6)))
theorem m_X12_surest_0 {Z : k_Z} {G : k_G} (C : k_C Z G RX12 cX12_surest (true, 3, 7, 0, 0) (some .int) "surest") (p1 : Int32) (p2 : Int32) (M : k_M) : Sm Z G emI (true, 3, 7, 0, 0) (0, 0) 0 [(0, k_ra Z 76), (1, Value.int p1), (2, Value.int p2)] [] M (f_X12_surest p1 p2 M) := by
  show Sm Z G emI _ _ _ _ _ _ (bd (f_X12_in p1 0 4 M) (fun r1 M2 => if r1 = 0 then some (-1, M2) else bd (f_X12_isSide p2 M2) (fun r3 M4 => if r3 = 0 then some (-1, M4) else if (M4.1 76 7) = 0 then some (-4, M4) else if p1 = 0 then f_X12_surest_42 p1 p2 1 M4 else bd (f_X12_findSurest p1 M4) (fun r5 M6 => f_X12_surest_42 p1 p2 r5 M6))))
  refine x_iload_n C (k_dg dt_X12_surest_0 0 0 (.iload_n 1) 1 rfl) 1 rfl ?_
  refine x_iconst C (v := 0) (k_dg dt_X12_surest_0 1 1 (.iconst 0) 1 rfl) (by decide) ?_
  refine x_iconst C (v := 4) (k_dg dt_X12_surest_0 2 2 (.iconst 4) 1 rfl) (by decide) ?_
  refine x_callS C (vs := [Value.int p1, Value.int 0, Value.int 4]) (rest := []) (c_X12_in C.2.2.2.2.2.2.2.2.2 G.2.1 p1 0 4 M) cy_X12_in lk_RX12_99 stt_X12_in (by decide) (by decide) (by decide) (by decide) rfl rfl (Nat.le_of_ble_eq_true rfl) (k_dg dt_X12_surest_0 3 3 (.invokestatic 99) 3 rfl) (fun r1 M2 => ?_)
  show Sm Z G _ _ _ _ [(0, k_ra Z 76), (1, Value.int p1), (2, Value.int p2)] [Value.int r1] _ _
  refine x_if_eq C (tgt := 16) (k_dg dt_X12_surest_0 4 6 (.ifCond .eq 10) 3 rfl) (by decide) (fun _ => ?_) (fun _ => ?_)
  · refine x_iconst C (v := -1) (k_dg dt_X12_surest_0 8 16 (.iconst (-1)) 1 rfl) (by decide) ?_
    exact x_iret C (by decide) (by decide) (k_dg dt_X12_surest_0 9 17 (.ireturn) 1 rfl)
  · refine x_iload_n C (k_dg dt_X12_surest_0 5 9 (.iload_n 2) 1 rfl) 2 rfl ?_
    refine x_callS C (vs := [Value.int p2]) (rest := []) (c_X12_isSide C.2.2.2.2.2.2.2.2.2 G.2.1 p2 M2) cy_X12_isSide lk_RX12_269 stt_X12_isSide (by decide) (by decide) (by decide) (by decide) rfl rfl (Nat.le_of_ble_eq_true rfl) (k_dg dt_X12_surest_0 6 10 (.invokestatic 269) 3 rfl) (fun r3 M4 => ?_)
    show Sm Z G _ _ _ _ [(0, k_ra Z 76), (1, Value.int p1), (2, Value.int p2)] [Value.int r3] _ _
    refine x_if_ne C (tgt := 18) (k_dg dt_X12_surest_0 7 13 (.ifCond .ne 5) 3 rfl) (by decide) (fun _ => ?_) (fun _ => ?_)
    · refine x_iconst C (v := -1) (k_dg dt_X12_surest_0 8 16 (.iconst (-1)) 1 rfl) (by decide) ?_
      exact x_iret C (by decide) (by decide) (k_dg dt_X12_surest_0 9 17 (.ireturn) 1 rfl)
    · refine x_aload_n C (k_dg dt_X12_surest_0 10 18 (.aload_n 0) 1 rfl) 0 rfl ?_
      refine x_getI C (a := 76) (j := 7) rfl rfl (by decide) fl_RX12_205 rfl (k_dg dt_X12_surest_0 11 19 (.getfield 205) 3 rfl) ?_
      refine x_if_ne C (tgt := 28) (k_dg dt_X12_surest_0 12 22 (.ifCond .ne 6) 3 rfl) (by decide) (fun _ => ?_) (fun _ => ?_)
      · refine x_bipush C (v := -4) (k_dg dt_X12_surest_0 13 25 (.bipush (-4)) 2 rfl) (by decide) ?_
        exact x_iret C (by decide) (by decide) (k_dg dt_X12_surest_0 14 27 (.ireturn) 1 rfl)
      · refine x_aload_n C (k_dg dt_X12_surest_0 15 28 (.aload_n 0) 1 rfl) 0 rfl ?_
        refine x_iload_n C (k_dg dt_X12_surest_0 16 29 (.iload_n 1) 1 rfl) 1 rfl ?_
        refine x_if_ne C (tgt := 37) (k_dg dt_X12_surest_0 17 30 (.ifCond .ne 7) 3 rfl) (by decide) (fun _ => ?_) (fun _ => ?_)
        · refine x_iconst C (v := 1) (k_dg dt_X12_surest_0 18 33 (.iconst 1) 1 rfl) (by decide) ?_
          refine x_goto C (tgt := 42) (k_dg dt_X12_surest_0 19 34 (.goto 8) 3 rfl) (by decide) ?_
          exact m_X12_surest_42 C p1 p2 1 M4
        · refine x_aload_n C (k_dg dt_X12_surest_0 20 37 (.aload_n 0) 1 rfl) 0 rfl ?_
          refine x_iload_n C (k_dg dt_X12_surest_0 21 38 (.iload_n 1) 1 rfl) 1 rfl ?_
          refine x_callV C (a := 76) (kd := 10) (vs := [Value.int p1]) (rest := [k_ra Z 76]) rfl rfl (by decide) (fun r hr => by cases hr; rfl) (c_X12_findSurest C.2.2.2.2.2.2.2.2.2 G.2.1 p1 M4) cy_X12_findSurest lk_RX12_290 im_X12_findSurest se_X12_findSurest (by decide) (by decide) (by decide) (by decide) rfl rfl (Nat.le_of_ble_eq_true rfl) (k_dg dt_X12_surest_0 22 39 (.invokevirtual 290) 3 rfl) (fun r5 M6 => ?_)
          show Sm Z G _ _ _ _ [(0, k_ra Z 76), (1, Value.int p1), (2, Value.int p2)] [Value.int r5, k_ra Z 76] _ _
          exact m_X12_surest_42 C p1 p2 r5 M6
theorem c_X12_surest {Z : k_Z} (hg : k_Gd Z) (l : Launch) (p1 : Int32) (p2 : Int32) (M : k_M) : Con true Z l yX12_surest cX12_surest 3 (some .int) 7 0 0 emI [k_ra Z 76, Value.int p1, Value.int p2] M (f_X12_surest p1 p2 M) := k_con hg (by decide) (Nat.le_of_ble_eq_true rfl) (fun G hl C => m_X12_surest_0 C p1 p2 M)
theorem dt_X12_light_0 : k_dec cX12_light [(0, .iload_n 1, 1), (1, .iconst 0, 1), (2, .bipush 6, 2), (4, .invokestatic 99, 3), (7, .ifCond .ne 5, 3), (10, .iconst (-1), 1), (11, .ireturn, 1), (12, .aload_n 0, 1), (13, .getfield 205, 3), (16, .ifCond .ne 6, 3), (19, .bipush (-4), 2), (21, .ireturn, 1), (22, .aload_n 0, 1), (23, .getfield 16, 3), (26, .bipush 7, 2), (28, .iaload, 1), (29, .istore_n 2, 1), (30, .iload_n 2, 1), (31, .istore_n 3, 1), (32, .aload_n 0, 1), (33, .getfield 16, 3), (36, .bipush 7, 2), (38, .iload_n 3, 1), (39, .iastore, 1), (40, .iload_n 3, 1), (41, .ifCond .lt 33, 3), (44, .aload_n 0, 1), (45, .iload_n 1, 1), (46, .invokevirtual 272, 3), (49, .ifCond .ge 25, 3), (52, .iinc 3 (-1), 3), (55, .aload_n 0, 1), (56, .getfield 16, 3), (59, .bipush 7, 2), (61, .iload_n 3, 1), (62, .ifCond .ge 7, 3), (65, .iconst 0, 1), (66, .goto 4, 3), (69, .iload_n 3, 1), (70, .iastore, 1)] = true := by decide +kernel
theorem dt_X12_light_1 : k_dec cX12_light [(71, .goto (-31), 3), (74, .aload_n 0, 1), (75, .getfield 16, 3), (78, .bipush 7, 2), (80, .iload_n 2, 1), (81, .iastore, 1), (82, .iload_n 3, 1), (83, .ifCond .ge 8, 3), (86, .bipush (-3), 2), (88, .goto 4, 3), (91, .iload_n 3, 1), (92, .ireturn, 1)] = true := by decide +kernel
def f_X12_light_70 (l1 : Int32) (l2 : Int32) (l3 : Int32) (t1 : Int32) (t2 : Int32) (M : k_M) (kb : Int32 → Int32 → Int32 → k_M → Option (Int32 × k_M)) (kx74 : Int32 → Int32 → k_M → Option (Int32 × k_M)) : Option (Int32 × k_M) := wrI M 79 13 t1 t2 (fun M1 => kb l1 l2 l3 M1)
theorem m_X12_light_70 {Z : k_Z} {G : k_G} (C : k_C Z G RX12 cX12_light (true, 4, 6, 0, 0) (some .int) "light") (kb : Int32 → Int32 → Int32 → k_M → Option (Int32 × k_M)) (kx74 : Int32 → Int32 → k_M → Option (Int32 × k_M)) (Hb : ∀ (l1 : Int32) (l2 : Int32) (l3 : Int32) (M : k_M), Sm Z G emI (true, 4, 6, 0, 0) (0, 0) 40 [(0, k_ra Z 76), (1, Value.int l1), (2, Value.int l2), (3, Value.int l3)] [] M (kb l1 l2 l3 M)) (Hx74 : ∀ (l2 : Int32) (l3 : Int32) (M : k_M), Sm Z G emI (true, 4, 6, 0, 0) (0, 0) 74 [(0, k_ra Z 76), (2, Value.int l2), (3, Value.int l3)] [] M (kx74 l2 l3 M)) (l1 : Int32) (l2 : Int32) (l3 : Int32) (t1 : Int32) (t2 : Int32) (M : k_M) : Sm Z G emI (true, 4, 6, 0, 0) (0, 0) 70 [(0, k_ra Z 76), (1, Value.int l1), (2, Value.int l2), (3, Value.int l3)] [Value.int t2, Value.int t1, k_ra Z 79] M (f_X12_light_70 l1 l2 l3 t1 t2 M kb kx74) := by
  show Sm Z G emI _ _ _ _ _ _ (wrI M 79 13 t1 t2 (fun M1 => kb l1 l2 l3 M1))
  refine x_iast C (a := 79) (n := 13) rfl rfl (k_dg dt_X12_light_0 39 70 (.iastore) 1 rfl) (fun M1 => ?_)
  refine x_goto C (tgt := 40) (k_dg dt_X12_light_1 0 71 (.goto (-31)) 3 rfl) (by decide) ?_
  exact Hb l1 l2 l3 M1
def f_X12_light_40 : Nat → Int32 → Int32 → Int32 → k_M → (Int32 → Int32 → k_M → Option (Int32 × k_M)) → Option (Int32 × k_M)
  | 0, _, _, _, _, _ => none
  | n + 1, l1, l2, l3, M, kx74 => if l3 < 0 then kx74 l2 l3 M else bd (f_X12_findBest l1 M) (fun r1 M2 => if 0 ≤ r1 then kx74 l2 l3 M2 else if 0 ≤ (l3 + (-1)) then f_X12_light_70 l1 l2 (l3 + (-1)) 7 (l3 + (-1)) M2 ((fun l1_ l2_ l3_ M_ => f_X12_light_40 n l1_ l2_ l3_ M_ kx74)) kx74 else f_X12_light_70 l1 l2 (l3 + (-1)) 7 0 M2 ((fun l1_ l2_ l3_ M_ => f_X12_light_40 n l1_ l2_ l3_ M_ kx74)) kx74)
theorem m_X12_light_40 {Z : k_Z} {G : k_G} (C : k_C Z G RX12 cX12_light (true, 4, 6, 0, 0) (some .int) "light") (kx74 : Int32 → Int32 → k_M → Option (Int32 × k_M)) (Hx74 : ∀ (l2 : Int32) (l3 : Int32) (M : k_M), Sm Z G emI (true, 4, 6, 0, 0) (0, 0) 74 [(0, k_ra Z 76), (2, Value.int l2), (3, Value.int l3)] [] M (kx74 l2 l3 M)) : ∀ (n : Nat) (l1 : Int32) (l2 : Int32) (l3 : Int32) (M : k_M), Sm Z G emI (true, 4, 6, 0, 0) (0, 0) 40 [(0, k_ra Z 76), (1, Value.int l1), (2, Value.int l2), (3, Value.int l3)] [] M (f_X12_light_40 n l1 l2 l3 M kx74)
  | 0, _, _, _, _ => x_none
  | n + 1, l1, l2, l3, M => by
    have ih := m_X12_light_40 C kx74 Hx74 n
    show Sm Z G emI _ _ _ _ _ _ (if l3 < 0 then kx74 l2 l3 M else bd (f_X12_findBest l1 M) (fun r1 M2 => if 0 ≤ r1 then kx74 l2 l3 M2 else if 0 ≤ (l3 + (-1)) then f_X12_light_70 l1 l2 (l3 + (-1)) 7 (l3 + (-1)) M2 ((fun l1_ l2_ l3_ M_ => f_X12_light_40 n l1_ l2_ l3_ M_ kx74)) kx74 else f_X12_light_70 l1 l2 (l3 + (-1)) 7 0 M2 ((fun l1_ l2_ l3_ M_ => f_X12_light_40 n l1_ l2_ l3_ M_ kx74)) kx74))
    refine x_iload_n C (k_dg dt_X12_light_0 24 40 (.iload_n 3) 1 rfl) 3 rfl ?_
    refine x_if_lt C (tgt := 74) (k_dg dt_X12_light_0 25 41 (.ifCond .lt 33) 3 rfl) (by decide) (fun _ => ?_) (fun _ => ?_)
    · refine x_lv [0, 2, 3] rfl ?_
      exact Hx74 l2 l3 M
    · refine x_aload_n C (k_dg dt_X12_light_0 26 44 (.aload_n 0) 1 rfl) 0 rfl ?_
      refine x_iload_n C (k_dg dt_X12_light_0 27 45 (.iload_n 1) 1 rfl) 1 rfl ?_
      refine x_callV C (a := 76) (kd := 10) (vs := [Value.int l1]) (rest := []) rfl rfl (by decide) (fun r hr => by cases hr; rfl) (c_X12_findBest C.2.2.2.2.2.2.2.2.2 G.2.1 l1 M) cy_X12_findBest lk_RX12_272 im_X12_findBest se_X12_findBest (by decide) (by decide) (by decide) (by decide) rfl rfl (Nat.le_of_ble_eq_true rfl) (k_dg dt_X12_light_0 28 46 (.invokevirtual 272) 3 rfl) (fun r1 M2 => ?_)
      show Sm Z G _ _ _ _ [(0, k_ra Z 76), (1, Value.int l1), (2, Value.int l2), (3, Value.int l3)] [Value.int r1] _ _
      refine x_if_ge C (tgt := 74) (k_dg dt_X12_light_0 29 49 (.ifCond .ge 25) 3 rfl) (by decide) (fun _ => ?_) (fun _ => ?_)
      · refine x_lv [0, 2, 3] rfl ?_
        exact Hx74 l2 l3 M2
      · refine x_iinc C (v := -1) (lv' := [(3, Value.int (l3 + (-1))), (0, k_ra Z 76), (1, Value.int l1), (2, Value.int l2)]) (k_dg dt_X12_light_0 30 52 (.iinc 3 (-1)) 3 rfl) 3 rfl (by decide) (by decide) rfl ?_
        refine x_aload_n C (k_dg dt_X12_light_0 31 55 (.aload_n 0) 1 rfl) 1 rfl ?_
        refine x_getR C (a := 76) (j := 4) 79 rfl rfl (by decide) fl_RX12_16 rfl rfl rfl (k_dg dt_X12_light_0 32 56 (.getfield 16) 3 rfl) ?_
        refine x_bipush C (v := 7) (k_dg dt_X12_light_0 33 59 (.bipush 7) 2 rfl) (by decide) ?_
        refine x_iload_n C (k_dg dt_X12_light_0 34 61 (.iload_n 3) 1 rfl) 0 rfl ?_
        refine x_if_ge C (tgt := 69) (k_dg dt_X12_light_0 35 62 (.ifCond .ge 7) 3 rfl) (by decide) (fun _ => ?_) (fun _ => ?_)
        · refine x_iload_n C (k_dg dt_X12_light_0 38 69 (.iload_n 3) 1 rfl) 0 rfl ?_
          refine x_lv [1, 2, 3, 0] rfl ?_
          exact m_X12_light_70 C ((fun l1_ l2_ l3_ M_ => f_X12_light_40 n l1_ l2_ l3_ M_ kx74)) kx74 ih Hx74 l1 l2 (l3 + (-1)) 7 (l3 + (-1)) M2
        · refine x_iconst C (v := 0) (k_dg dt_X12_light_0 36 65 (.iconst 0) 1 rfl) (by decide) ?_
          refine x_goto C (tgt := 70) (k_dg dt_X12_light_0 37 66 (.goto 4) 3 rfl) (by decide) ?_
          refine x_lv [1, 2, 3, 0] rfl ?_
          exact m_X12_light_70 C ((fun l1_ l2_ l3_ M_ => f_X12_light_40 n l1_ l2_ l3_ M_ kx74)) kx74 ih Hx74 l1 l2 (l3 + (-1)) 7 0 M2
def f_X12_light_74 (l2 : Int32) (l3 : Int32) (M : k_M) : Option (Int32 × k_M) := wrI M 79 13 7 l2 (fun M1 => if 0 ≤ l3 then some (l3, M1) else some (-3, M1))
theorem m_X12_light_74 {Z : k_Z} {G : k_G} (C : k_C Z G RX12 cX12_light (true, 4, 6, 0, 0) (some .int) "light") (l2 : Int32) (l3 : Int32) (M : k_M) : Sm Z G emI (true, 4, 6, 0, 0) (0, 0) 74 [(0, k_ra Z 76), (2, Value.int l2), (3, Value.int l3)] [] M (f_X12_light_74 l2 l3 M) := by
  show Sm Z G emI _ _ _ _ _ _ (wrI M 79 13 7 l2 (fun M1 => if 0 ≤ l3 then some (l3, M1) else some (-3, M1)))
  refine x_aload_n C (k_dg dt_X12_light_1 1 74 (.aload_n 0) 1 rfl) 0 rfl ?_
  refine x_getR C (a := 76) (j := 4) 79 rfl rfl (by decide) fl_RX12_16 rfl rfl rfl (k_dg dt_X12_light_1 2 75 (.getfield 16) 3 rfl) ?_
  refine x_bipush C (v := 7) (k_dg dt_X12_light_1 3 78 (.bipush 7) 2 rfl) (by decide) ?_
  refine x_iload_n C (k_dg dt_X12_light_1 4 80 (.iload_n 2) 1 rfl) 1 rfl ?_
  refine x_iast C (a := 79) (n := 13) rfl rfl (k_dg dt_X12_light_1 5 81 (.iastore) 1 rfl) (fun M1 => ?_)
  refine x_iload_n C (k_dg dt_X12_light_1 6 82 (.iload_n 3) 1 rfl) 2 rfl ?_
  refine x_if_ge C (tgt := 91) (k_dg dt_X12_light_1 7 83 (.ifCond .ge 8) 3 rfl) (by decide) (fun _ => ?_) (fun _ => ?_)
  · refine x_iload_n C (k_dg dt_X12_light_1 10 91 (.iload_n 3) 1 rfl) 2 rfl ?_
    exact x_iret C (by decide) (by decide) (k_dg dt_X12_light_1 11 92 (.ireturn) 1 rfl)
  · refine x_bipush C (v := -3) (k_dg dt_X12_light_1 8 86 (.bipush (-3)) 2 rfl) (by decide) ?_
    refine x_goto C (tgt := 92) (k_dg dt_X12_light_1 9 88 (.goto 4) 3 rfl) (by decide) ?_
    exact x_iret C (by decide) (by decide) (k_dg dt_X12_light_1 11 92 (.ireturn) 1 rfl)
def f_X12_light (p1 : Int32) (M : k_M) : Option (Int32 × k_M) := bd (f_X12_in p1 0 6 M) (fun r1 M2 => if r1 = 0 then some (-1, M2) else if (M2.1 76 7) = 0 then some (-4, M2) else rdI M2 79 13 7 (fun v3 => wrI M2 79 13 7 v3 (fun M4 => f_X12_light_40 k_fu p1 v3 v3 M4 (fun l2_ l3_ M_ => f_X12_light_74 l2_ l3_ M_))))
theorem m_X12_light_0 {Z : k_Z} {G : k_G} (C : k_C Z G RX12 cX12_light (true, 4, 6, 0, 0) (some .int) "light") (p1 : Int32) (M : k_M) : Sm Z G emI (true, 4, 6, 0, 0) (0, 0) 0 [(0, k_ra Z 76), (1, Value.int p1)] [] M (f_X12_light p1 M) := by
  show Sm Z G emI _ _ _ _ _ _ (bd (f_X12_in p1 0 6 M) (fun r1 M2 => if r1 = 0 then some (-1, M2) else if (M2.1 76 7) = 0 then some (-4, M2) else rdI M2 79 13 7 (fun v3 => wrI M2 79 13 7 v3 (fun M4 => f_X12_light_40 k_fu p1 v3 v3 M4 (fun l2_ l3_ M_ => f_X12_light_74 l2_ l3_ M_)))))
  refine x_iload_n C (k_dg dt_X12_light_0 0 0 (.iload_n 1) 1 rfl) 1 rfl ?_
  refine x_iconst C (v := 0) (k_dg dt_X12_light_0 1 1 (.iconst 0) 1 rfl) (by decide) ?_
  refine x_bipush C (v := 6) (k_dg dt_X12_light_0 2 2 (.bipush 6) 2 rfl) (by decide) ?_
  refine x_callS C (vs := [Value.int p1, Value.int 0, Value.int 6]) (rest := []) (c_X12_in C.2.2.2.2.2.2.2.2.2 G.2.1 p1 0 6 M) cy_X12_in lk_RX12_99 stt_X12_in (by decide) (by decide) (by decide) (by decide) rfl rfl (Nat.le_of_ble_eq_true rfl) (k_dg dt_X12_light_0 3 4 (.invokestatic 99) 3 rfl) (fun r1 M2 => ?_)
  show Sm Z G _ _ _ _ [(0, k_ra Z 76), (1, Value.int p1)] [Value.int r1] _ _
  refine x_if_ne C (tgt := 12) (k_dg dt_X12_light_0 4 7 (.ifCond .ne 5) 3 rfl) (by decide) (fun _ => ?_) (fun _ => ?_)
  · refine x_iconst C (v := -1) (k_dg dt_X12_light_0 5 10 (.iconst (-1)) 1 rfl) (by decide) ?_
    exact x_iret C (by decide) (by decide) (k_dg dt_X12_light_0 6 11 (.ireturn) 1 rfl)
  · refine x_aload_n C (k_dg dt_X12_light_0 7 12 (.aload_n 0) 1 rfl) 0 rfl ?_
    refine x_getI C (a := 76) (j := 7) rfl rfl (by decide) fl_RX12_205 rfl (k_dg dt_X12_light_0 8 13 (.getfield 205) 3 rfl) ?_
    refine x_if_ne C (tgt := 22) (k_dg dt_X12_light_0 9 16 (.ifCond .ne 6) 3 rfl) (by decide) (fun _ => ?_) (fun _ => ?_)
    · refine x_bipush C (v := -4) (k_dg dt_X12_light_0 10 19 (.bipush (-4)) 2 rfl) (by decide) ?_
      exact x_iret C (by decide) (by decide) (k_dg dt_X12_light_0 11 21 (.ireturn) 1 rfl)
    · refine x_aload_n C (k_dg dt_X12_light_0 12 22 (.aload_n 0) 1 rfl) 0 rfl ?_
      refine x_getR C (a := 76) (j := 4) 79 rfl rfl (by decide) fl_RX12_16 rfl rfl rfl (k_dg dt_X12_light_0 13 23 (.getfield 16) 3 rfl) ?_
      refine x_bipush C (v := 7) (k_dg dt_X12_light_0 14 26 (.bipush 7) 2 rfl) (by decide) ?_
      refine x_iald C (a := 79) (n := 13) rfl rfl (k_dg dt_X12_light_0 15 28 (.iaload) 1 rfl) (fun v3 => ?_)
      refine x_istore_n C (lv' := [(2, Value.int v3), (0, k_ra Z 76), (1, Value.int p1)]) (k_dg dt_X12_light_0 16 29 (.istore_n 2) 1 rfl) (by decide) rfl ?_
      refine x_iload_n C (k_dg dt_X12_light_0 17 30 (.iload_n 2) 1 rfl) 0 rfl ?_
      refine x_istore_n C (lv' := [(3, Value.int v3), (2, Value.int v3), (0, k_ra Z 76), (1, Value.int p1)]) (k_dg dt_X12_light_0 18 31 (.istore_n 3) 1 rfl) (by decide) rfl ?_
      refine x_aload_n C (k_dg dt_X12_light_0 19 32 (.aload_n 0) 1 rfl) 2 rfl ?_
      refine x_getR C (a := 76) (j := 4) 79 rfl rfl (by decide) fl_RX12_16 rfl rfl rfl (k_dg dt_X12_light_0 20 33 (.getfield 16) 3 rfl) ?_
      refine x_bipush C (v := 7) (k_dg dt_X12_light_0 21 36 (.bipush 7) 2 rfl) (by decide) ?_
      refine x_iload_n C (k_dg dt_X12_light_0 22 38 (.iload_n 3) 1 rfl) 0 rfl ?_
      refine x_iast C (a := 79) (n := 13) rfl rfl (k_dg dt_X12_light_0 23 39 (.iastore) 1 rfl) (fun M4 => ?_)
      refine x_lv [2, 3, 1, 0] rfl ?_
      exact m_X12_light_40 C (fun l2_ l3_ M_ => f_X12_light_74 l2_ l3_ M_) (fun l2_ l3_ M_ => m_X12_light_74 C l2_ l3_ M_) k_fu p1 v3 v3 M4
theorem c_X12_light {Z : k_Z} (hg : k_Gd Z) (l : Launch) (p1 : Int32) (M : k_M) : Con true Z l yX12_light cX12_light 4 (some .int) 6 0 0 emI [k_ra Z 76, Value.int p1] M (f_X12_light p1 M) := k_con hg (by decide) (Nat.le_of_ble_eq_true rfl) (fun G hl C => m_X12_light_0 C p1 M)
theorem dt_X12_nearer_0 : k_dec cX12_nearer [(0, .aload_n 0, 1), (1, .getfield 61, 3), (4, .bipush 8, 2), (6, .iload_n 1, 1), (7, .imul, 1), (8, .iload_n 2, 1), (9, .iadd, 1), (10, .aload_n 0, 1), (11, .getfield 61, 3), (14, .bipush 8, 2), (16, .iload_n 1, 1), (17, .imul, 1), (18, .iload_n 2, 1), (19, .iadd, 1), (20, .iaload, 1), (21, .ifCond .lt 18, 3), (24, .iload_n 3, 1), (25, .aload_n 0, 1), (26, .getfield 61, 3), (29, .bipush 8, 2), (31, .iload_n 1, 1), (32, .imul, 1), (33, .iload_n 2, 1), (34, .iadd, 1), (35, .iaload, 1), (36, .if_icmp .ge 7, 3), (39, .iload_n 3, 1), (40, .goto 14, 3), (43, .aload_n 0, 1), (44, .getfield 61, 3), (47, .bipush 8, 2), (49, .iload_n 1, 1), (50, .imul, 1), (51, .iload_n 2, 1), (52, .iadd, 1), (53, .iaload, 1), (54, .iastore, 1), (55, .return_, 1)] = true := by decide +kernel
def f_X12_nearer_54 (t1 : Int32) (t2 : Int32) (M : k_M) : Option (Unit × k_M) := wrI M 94 64 t1 t2 (fun M1 => some ((), M1))
theorem m_X12_nearer_54 {Z : k_Z} {G : k_G} (C : k_C Z G RX12 cX12_nearer (true, 4, 1, 0, 0) none "nearer") (t1 : Int32) (t2 : Int32) (M : k_M) : Sm Z G emV (true, 4, 1, 0, 0) (0, 0) 54 [] [Value.int t2, Value.int t1, k_ra Z 94] M (f_X12_nearer_54 t1 t2 M) := by
  show Sm Z G emV _ _ _ _ _ _ (wrI M 94 64 t1 t2 (fun M1 => some ((), M1)))
  refine x_iast C (a := 94) (n := 64) rfl rfl (k_dg dt_X12_nearer_0 36 54 (.iastore) 1 rfl) (fun M1 => ?_)
  exact x_vret C (by decide) (by decide) (k_dg dt_X12_nearer_0 37 55 (.return_) 1 rfl)
def f_X12_nearer_39 (l3 : Int32) (t1 : Int32) (M : k_M) : Option (Unit × k_M) := f_X12_nearer_54 t1 l3 M
theorem m_X12_nearer_39 {Z : k_Z} {G : k_G} (C : k_C Z G RX12 cX12_nearer (true, 4, 1, 0, 0) none "nearer") (l3 : Int32) (t1 : Int32) (M : k_M) : Sm Z G emV (true, 4, 1, 0, 0) (0, 0) 39 [(3, Value.int l3)] [Value.int t1, k_ra Z 94] M (f_X12_nearer_39 l3 t1 M) := by
  show Sm Z G emV _ _ _ _ _ _ (f_X12_nearer_54 t1 l3 M)
  refine x_iload_n C (k_dg dt_X12_nearer_0 26 39 (.iload_n 3) 1 rfl) 0 rfl ?_
  refine x_goto C (tgt := 54) (k_dg dt_X12_nearer_0 27 40 (.goto 14) 3 rfl) (by decide) ?_
  refine x_lv [] rfl ?_
  exact m_X12_nearer_54 C t1 l3 M
def f_X12_nearer (p1 : Int32) (p2 : Int32) (p3 : Int32) (M : k_M) : Option (Unit × k_M) := rdI M 94 64 ((8 * p1) + p2) (fun v1 => if v1 < 0 then f_X12_nearer_39 p3 ((8 * p1) + p2) M else rdI M 94 64 ((8 * p1) + p2) (fun v2 => if v2 ≤ p3 then rdI M 94 64 ((8 * p1) + p2) (fun v3 => f_X12_nearer_54 ((8 * p1) + p2) v3 M) else f_X12_nearer_39 p3 ((8 * p1) + p2) M))
theorem m_X12_nearer_0 {Z : k_Z} {G : k_G} (C : k_C Z G RX12 cX12_nearer (true, 4, 1, 0, 0) none "nearer") (p1 : Int32) (p2 : Int32) (p3 : Int32) (M : k_M) : Sm Z G emV (true, 4, 1, 0, 0) (0, 0) 0 [(0, k_ra Z 76), (1, Value.int p1), (2, Value.int p2), (3, Value.int p3)] [] M (f_X12_nearer p1 p2 p3 M) := by
  show Sm Z G emV _ _ _ _ _ _ (rdI M 94 64 ((8 * p1) + p2) (fun v1 => if v1 < 0 then f_X12_nearer_39 p3 ((8 * p1) + p2) M else rdI M 94 64 ((8 * p1) + p2) (fun v2 => if v2 ≤ p3 then rdI M 94 64 ((8 * p1) + p2) (fun v3 => f_X12_nearer_54 ((8 * p1) + p2) v3 M) else f_X12_nearer_39 p3 ((8 * p1) + p2) M)))
  refine x_aload_n C (k_dg dt_X12_nearer_0 0 0 (.aload_n 0) 1 rfl) 0 rfl ?_
  refine x_getR C (a := 76) (j := 34) 94 rfl rfl (by decide) fl_RX12_61 rfl rfl rfl (k_dg dt_X12_nearer_0 1 1 (.getfield 61) 3 rfl) ?_
  refine x_bipush C (v := 8) (k_dg dt_X12_nearer_0 2 4 (.bipush 8) 2 rfl) (by decide) ?_
  refine x_iload_n C (k_dg dt_X12_nearer_0 3 6 (.iload_n 1) 1 rfl) 1 rfl ?_
  refine x_imul C (k_dg dt_X12_nearer_0 4 7 (.imul) 1 rfl) ?_
  refine x_iload_n C (k_dg dt_X12_nearer_0 5 8 (.iload_n 2) 1 rfl) 2 rfl ?_
  refine x_iadd C (k_dg dt_X12_nearer_0 6 9 (.iadd) 1 rfl) ?_
  refine x_aload_n C (k_dg dt_X12_nearer_0 7 10 (.aload_n 0) 1 rfl) 0 rfl ?_
  refine x_getR C (a := 76) (j := 34) 94 rfl rfl (by decide) fl_RX12_61 rfl rfl rfl (k_dg dt_X12_nearer_0 8 11 (.getfield 61) 3 rfl) ?_
  refine x_bipush C (v := 8) (k_dg dt_X12_nearer_0 9 14 (.bipush 8) 2 rfl) (by decide) ?_
  refine x_iload_n C (k_dg dt_X12_nearer_0 10 16 (.iload_n 1) 1 rfl) 1 rfl ?_
  refine x_imul C (k_dg dt_X12_nearer_0 11 17 (.imul) 1 rfl) ?_
  refine x_iload_n C (k_dg dt_X12_nearer_0 12 18 (.iload_n 2) 1 rfl) 2 rfl ?_
  refine x_iadd C (k_dg dt_X12_nearer_0 13 19 (.iadd) 1 rfl) ?_
  refine x_iald C (a := 94) (n := 64) rfl rfl (k_dg dt_X12_nearer_0 14 20 (.iaload) 1 rfl) (fun v1 => ?_)
  refine x_if_lt C (tgt := 39) (k_dg dt_X12_nearer_0 15 21 (.ifCond .lt 18) 3 rfl) (by decide) (fun _ => ?_) (fun _ => ?_)
  · refine x_lv [3] rfl ?_
    exact m_X12_nearer_39 C p3 ((8 * p1) + p2) M
  · refine x_iload_n C (k_dg dt_X12_nearer_0 16 24 (.iload_n 3) 1 rfl) 3 rfl ?_
    refine x_aload_n C (k_dg dt_X12_nearer_0 17 25 (.aload_n 0) 1 rfl) 0 rfl ?_
    refine x_getR C (a := 76) (j := 34) 94 rfl rfl (by decide) fl_RX12_61 rfl rfl rfl (k_dg dt_X12_nearer_0 18 26 (.getfield 61) 3 rfl) ?_
    refine x_bipush C (v := 8) (k_dg dt_X12_nearer_0 19 29 (.bipush 8) 2 rfl) (by decide) ?_
    refine x_iload_n C (k_dg dt_X12_nearer_0 20 31 (.iload_n 1) 1 rfl) 1 rfl ?_
    refine x_imul C (k_dg dt_X12_nearer_0 21 32 (.imul) 1 rfl) ?_
    refine x_iload_n C (k_dg dt_X12_nearer_0 22 33 (.iload_n 2) 1 rfl) 2 rfl ?_
    refine x_iadd C (k_dg dt_X12_nearer_0 23 34 (.iadd) 1 rfl) ?_
    refine x_iald C (a := 94) (n := 64) rfl rfl (k_dg dt_X12_nearer_0 24 35 (.iaload) 1 rfl) (fun v2 => ?_)
    refine x_icmp_ge C (tgt := 43) (k_dg dt_X12_nearer_0 25 36 (.if_icmp .ge 7) 3 rfl) (by decide) (fun _ => ?_) (fun _ => ?_)
    · refine x_aload_n C (k_dg dt_X12_nearer_0 28 43 (.aload_n 0) 1 rfl) 0 rfl ?_
      refine x_getR C (a := 76) (j := 34) 94 rfl rfl (by decide) fl_RX12_61 rfl rfl rfl (k_dg dt_X12_nearer_0 29 44 (.getfield 61) 3 rfl) ?_
      refine x_bipush C (v := 8) (k_dg dt_X12_nearer_0 30 47 (.bipush 8) 2 rfl) (by decide) ?_
      refine x_iload_n C (k_dg dt_X12_nearer_0 31 49 (.iload_n 1) 1 rfl) 1 rfl ?_
      refine x_imul C (k_dg dt_X12_nearer_0 32 50 (.imul) 1 rfl) ?_
      refine x_iload_n C (k_dg dt_X12_nearer_0 33 51 (.iload_n 2) 1 rfl) 2 rfl ?_
      refine x_iadd C (k_dg dt_X12_nearer_0 34 52 (.iadd) 1 rfl) ?_
      refine x_iald C (a := 94) (n := 64) rfl rfl (k_dg dt_X12_nearer_0 35 53 (.iaload) 1 rfl) (fun v3 => ?_)
      refine x_lv [] rfl ?_
      exact m_X12_nearer_54 C ((8 * p1) + p2) v3 M
    · refine x_lv [3] rfl ?_
      exact m_X12_nearer_39 C p3 ((8 * p1) + p2) M
theorem c_X12_nearer {Z : k_Z} (hg : k_Gd Z) (l : Launch) (p1 : Int32) (p2 : Int32) (p3 : Int32) (M : k_M) : Con true Z l yX12_nearer cX12_nearer 4 none 1 0 0 emV [k_ra Z 76, Value.int p1, Value.int p2, Value.int p3] M (f_X12_nearer p1 p2 p3 M) := k_con hg (by decide) (Nat.le_of_ble_eq_true rfl) (fun G hl C => m_X12_nearer_0 C p1 p2 p3 M)
theorem dt_X12_findFars_0 : k_dec cX12_findFars [(0, .iconst 0, 1), (1, .istore_n 1, 1), (2, .iload_n 1, 1), (3, .bipush 64, 2), (5, .if_icmp .ge 31, 3), (8, .aload_n 0, 1), (9, .getfield 61, 3), (12, .iload_n 1, 1), (13, .iload_n 1, 1), (14, .bipush 8, 2), (16, .idiv, 1), (17, .iload_n 1, 1), (18, .bipush 8, 2), (20, .irem, 1), (21, .if_icmp .ne 7, 3), (24, .iconst 0, 1), (25, .goto 4, 3), (28, .iconst (-1), 1), (29, .iastore, 1), (30, .iinc 1 1, 3), (33, .goto (-31), 3), (36, .iconst 0, 1), (37, .istore_n 1, 1), (38, .iload_n 1, 1), (39, .aload_n 0, 1), (40, .getfield 103, 3), (43, .if_icmp .ge 53, 3), (46, .aload_n 0, 1), (47, .aload_n 0, 1), (48, .iload_n 1, 1), (49, .iconst 0, 1), (50, .invokevirtual 106, 3), (53, .aload_n 0, 1), (54, .iload_n 1, 1), (55, .iconst 1, 1), (56, .invokevirtual 106, 3), (59, .aload_n 0, 1), (60, .iload_n 1, 1), (61, .iconst 2, 1), (62, .invokevirtual 106, 3)] = true := by decide +kernel
theorem dt_X12_findFars_1 : k_dec cX12_findFars [(65, .invokevirtual 296, 3), (68, .aload_n 0, 1), (69, .aload_n 0, 1), (70, .iload_n 1, 1), (71, .iconst 1, 1), (72, .invokevirtual 106, 3), (75, .aload_n 0, 1), (76, .iload_n 1, 1), (77, .iconst 0, 1), (78, .invokevirtual 106, 3), (81, .aload_n 0, 1), (82, .iload_n 1, 1), (83, .iconst 2, 1), (84, .invokevirtual 106, 3), (87, .invokevirtual 296, 3), (90, .iinc 1 1, 3), (93, .goto (-55), 3), (96, .iconst 0, 1), (97, .istore_n 1, 1), (98, .iload_n 1, 1), (99, .aload_n 0, 1), (100, .getfield 95, 3), (103, .if_icmp .ge 98, 3), (106, .iconst 0, 1), (107, .istore_n 2, 1), (108, .iload_n 2, 1), (109, .aload_n 0, 1), (110, .getfield 95, 3), (113, .if_icmp .ge 82, 3), (116, .iconst 0, 1), (117, .istore_n 3, 1), (118, .iload_n 3, 1), (119, .aload_n 0, 1), (120, .getfield 95, 3), (123, .if_icmp .ge 66, 3), (126, .aload_n 0, 1), (127, .getfield 61, 3), (130, .bipush 8, 2), (132, .iload_n 2, 1), (133, .imul, 1)] = true := by decide +kernel
theorem dt_X12_findFars_2 : k_dec cX12_findFars [(134, .iload_n 1, 1), (135, .iadd, 1), (136, .iaload, 1), (137, .ifCond .lt 46, 3), (140, .aload_n 0, 1), (141, .getfield 61, 3), (144, .bipush 8, 2), (146, .iload_n 1, 1), (147, .imul, 1), (148, .iload_n 3, 1), (149, .iadd, 1), (150, .iaload, 1), (151, .ifCond .lt 32, 3), (154, .aload_n 0, 1), (155, .iload_n 2, 1), (156, .iload_n 3, 1), (157, .aload_n 0, 1), (158, .getfield 61, 3), (161, .bipush 8, 2), (163, .iload_n 2, 1), (164, .imul, 1), (165, .iload_n 1, 1), (166, .iadd, 1), (167, .iaload, 1), (168, .aload_n 0, 1), (169, .getfield 61, 3), (172, .bipush 8, 2), (174, .iload_n 1, 1), (175, .imul, 1), (176, .iload_n 3, 1), (177, .iadd, 1), (178, .iaload, 1), (179, .iadd, 1), (180, .invokevirtual 296, 3), (183, .iinc 3 1, 3), (186, .goto (-68), 3), (189, .iinc 2 1, 3), (192, .goto (-84), 3), (195, .iinc 1 1, 3), (198, .goto (-100), 3)] = true := by decide +kernel
theorem dt_X12_findFars_3 : k_dec cX12_findFars [(201, .return_, 1)] = true := by decide +kernel
def f_X12_findFars_29 (l1 : Int32) (t1 : Int32) (t2 : Int32) (M : k_M) (kb : Int32 → k_M → Option (Unit × k_M)) (kx36 : k_M → Option (Unit × k_M)) : Option (Unit × k_M) := wrI M 94 64 t1 t2 (fun M1 => kb (l1 + 1) M1)
theorem m_X12_findFars_29 {Z : k_Z} {G : k_G} (C : k_C Z G RX12 cX12_findFars (true, 4, 2, 0, 0) none "findFars") (kb : Int32 → k_M → Option (Unit × k_M)) (kx36 : k_M → Option (Unit × k_M)) (Hb : ∀ (l1 : Int32) (M : k_M), Sm Z G emV (true, 4, 2, 0, 0) (0, 0) 2 [(0, k_ra Z 76), (1, Value.int l1)] [] M (kb l1 M)) (Hx36 : ∀ (M : k_M), Sm Z G emV (true, 4, 2, 0, 0) (0, 0) 36 [(0, k_ra Z 76)] [] M (kx36 M)) (l1 : Int32) (t1 : Int32) (t2 : Int32) (M : k_M) : Sm Z G emV (true, 4, 2, 0, 0) (0, 0) 29 [(0, k_ra Z 76), (1, Value.int l1)] [Value.int t2, Value.int t1, k_ra Z 94] M (f_X12_findFars_29 l1 t1 t2 M kb kx36) := by
  show Sm Z G emV _ _ _ _ _ _ (wrI M 94 64 t1 t2 (fun M1 => kb (l1 + 1) M1))
  refine x_iast C (a := 94) (n := 64) rfl rfl (k_dg dt_X12_findFars_0 18 29 (.iastore) 1 rfl) (fun M1 => ?_)
  refine x_iinc C (v := 1) (lv' := [(1, Value.int (l1 + 1)), (0, k_ra Z 76)]) (k_dg dt_X12_findFars_0 19 30 (.iinc 1 1) 3 rfl) 1 rfl (by decide) (by decide) rfl ?_
  refine x_goto C (tgt := 2) (k_dg dt_X12_findFars_0 20 33 (.goto (-31)) 3 rfl) (by decide) ?_
  refine x_lv [1, 0] rfl ?_
  exact Hb (l1 + 1) M1
def f_X12_findFars_2 : Nat → Int32 → k_M → (k_M → Option (Unit × k_M)) → Option (Unit × k_M)
  | 0, _, _, _ => none
  | n + 1, l1, M, kx36 => if 64 ≤ l1 then kx36 M else if (l1 / 8) = (l1 - l1 / 8 * 8) then f_X12_findFars_29 l1 l1 0 M ((fun l1_ M_ => f_X12_findFars_2 n l1_ M_ kx36)) kx36 else f_X12_findFars_29 l1 l1 (-1) M ((fun l1_ M_ => f_X12_findFars_2 n l1_ M_ kx36)) kx36
theorem m_X12_findFars_2 {Z : k_Z} {G : k_G} (C : k_C Z G RX12 cX12_findFars (true, 4, 2, 0, 0) none "findFars") (kx36 : k_M → Option (Unit × k_M)) (Hx36 : ∀ (M : k_M), Sm Z G emV (true, 4, 2, 0, 0) (0, 0) 36 [(0, k_ra Z 76)] [] M (kx36 M)) : ∀ (n : Nat) (l1 : Int32) (M : k_M), Sm Z G emV (true, 4, 2, 0, 0) (0, 0) 2 [(0, k_ra Z 76), (1, Value.int l1)] [] M (f_X12_findFars_2 n l1 M kx36)
  | 0, _, _ => x_none
  | n + 1, l1, M => by
    have ih := m_X12_findFars_2 C kx36 Hx36 n
    show Sm Z G emV _ _ _ _ _ _ (if 64 ≤ l1 then kx36 M else if (l1 / 8) = (l1 - l1 / 8 * 8) then f_X12_findFars_29 l1 l1 0 M ((fun l1_ M_ => f_X12_findFars_2 n l1_ M_ kx36)) kx36 else f_X12_findFars_29 l1 l1 (-1) M ((fun l1_ M_ => f_X12_findFars_2 n l1_ M_ kx36)) kx36)
    refine x_iload_n C (k_dg dt_X12_findFars_0 2 2 (.iload_n 1) 1 rfl) 1 rfl ?_
    refine x_bipush C (v := 64) (k_dg dt_X12_findFars_0 3 3 (.bipush 64) 2 rfl) (by decide) ?_
    refine x_icmp_ge C (tgt := 36) (k_dg dt_X12_findFars_0 4 5 (.if_icmp .ge 31) 3 rfl) (by decide) (fun _ => ?_) (fun _ => ?_)
    · refine x_lv [0] rfl ?_
      exact Hx36 M
    · refine x_aload_n C (k_dg dt_X12_findFars_0 5 8 (.aload_n 0) 1 rfl) 0 rfl ?_
      refine x_getR C (a := 76) (j := 34) 94 rfl rfl (by decide) fl_RX12_61 rfl rfl rfl (k_dg dt_X12_findFars_0 6 9 (.getfield 61) 3 rfl) ?_
      refine x_iload_n C (k_dg dt_X12_findFars_0 7 12 (.iload_n 1) 1 rfl) 1 rfl ?_
      refine x_iload_n C (k_dg dt_X12_findFars_0 8 13 (.iload_n 1) 1 rfl) 1 rfl ?_
      refine x_bipush C (v := 8) (k_dg dt_X12_findFars_0 9 14 (.bipush 8) 2 rfl) (by decide) ?_
      refine x_idivC C (k_dg dt_X12_findFars_0 10 16 (.idiv) 1 rfl) (by decide) ?_
      refine x_iload_n C (k_dg dt_X12_findFars_0 11 17 (.iload_n 1) 1 rfl) 1 rfl ?_
      refine x_bipush C (v := 8) (k_dg dt_X12_findFars_0 12 18 (.bipush 8) 2 rfl) (by decide) ?_
      refine x_iremC C (k_dg dt_X12_findFars_0 13 20 (.irem) 1 rfl) (by decide) ?_
      refine x_icmp_ne C (tgt := 28) (k_dg dt_X12_findFars_0 14 21 (.if_icmp .ne 7) 3 rfl) (by decide) (fun _ => ?_) (fun _ => ?_)
      · refine x_iconst C (v := 0) (k_dg dt_X12_findFars_0 15 24 (.iconst 0) 1 rfl) (by decide) ?_
        refine x_goto C (tgt := 29) (k_dg dt_X12_findFars_0 16 25 (.goto 4) 3 rfl) (by decide) ?_
        exact m_X12_findFars_29 C ((fun l1_ M_ => f_X12_findFars_2 n l1_ M_ kx36)) kx36 ih Hx36 l1 l1 0 M
      · refine x_iconst C (v := -1) (k_dg dt_X12_findFars_0 17 28 (.iconst (-1)) 1 rfl) (by decide) ?_
        exact m_X12_findFars_29 C ((fun l1_ M_ => f_X12_findFars_2 n l1_ M_ kx36)) kx36 ih Hx36 l1 l1 (-1) M
def f_X12_findFars_38 : Nat → Int32 → k_M → (k_M → Option (Unit × k_M)) → Option (Unit × k_M)
  | 0, _, _, _ => none
  | n + 1, l1, M, kx96 => if (M.1 76 2) ≤ l1 then kx96 M else bd (f_X12_wayIts l1 0 M) (fun r1 M2 => bd (f_X12_wayIts l1 1 M2) (fun r3 M4 => bd (f_X12_wayIts l1 2 M4) (fun r5 M6 => bd (f_X12_nearer r1 r3 r5 M6) (fun r7 M8 => bd (f_X12_wayIts l1 1 M8) (fun r9 M10 => bd (f_X12_wayIts l1 0 M10) (fun r11 M12 => bd (f_X12_wayIts l1 2 M12) (fun r13 M14 => bd (f_X12_nearer r9 r11 r13 M14) (fun r15 M16 => f_X12_findFars_38 n (l1 + 1) M16 kx96))))))))
theorem m_X12_findFars_38 {Z : k_Z} {G : k_G} (C : k_C Z G RX12 cX12_findFars (true, 4, 2, 0, 0) none "findFars") (kx96 : k_M → Option (Unit × k_M)) (Hx96 : ∀ (M : k_M), Sm Z G emV (true, 4, 2, 0, 0) (0, 0) 96 [(0, k_ra Z 76)] [] M (kx96 M)) : ∀ (n : Nat) (l1 : Int32) (M : k_M), Sm Z G emV (true, 4, 2, 0, 0) (0, 0) 38 [(0, k_ra Z 76), (1, Value.int l1)] [] M (f_X12_findFars_38 n l1 M kx96)
  | 0, _, _ => x_none
  | n + 1, l1, M => by
    have ih := m_X12_findFars_38 C kx96 Hx96 n
    show Sm Z G emV _ _ _ _ _ _ (if (M.1 76 2) ≤ l1 then kx96 M else bd (f_X12_wayIts l1 0 M) (fun r1 M2 => bd (f_X12_wayIts l1 1 M2) (fun r3 M4 => bd (f_X12_wayIts l1 2 M4) (fun r5 M6 => bd (f_X12_nearer r1 r3 r5 M6) (fun r7 M8 => bd (f_X12_wayIts l1 1 M8) (fun r9 M10 => bd (f_X12_wayIts l1 0 M10) (fun r11 M12 => bd (f_X12_wayIts l1 2 M12) (fun r13 M14 => bd (f_X12_nearer r9 r11 r13 M14) (fun r15 M16 => f_X12_findFars_38 n (l1 + 1) M16 kx96)))))))))
    refine x_iload_n C (k_dg dt_X12_findFars_0 23 38 (.iload_n 1) 1 rfl) 1 rfl ?_
    refine x_aload_n C (k_dg dt_X12_findFars_0 24 39 (.aload_n 0) 1 rfl) 0 rfl ?_
    refine x_getI C (a := 76) (j := 2) rfl rfl (by decide) fl_RX12_103 rfl (k_dg dt_X12_findFars_0 25 40 (.getfield 103) 3 rfl) ?_
    refine x_icmp_ge C (tgt := 96) (k_dg dt_X12_findFars_0 26 43 (.if_icmp .ge 53) 3 rfl) (by decide) (fun _ => ?_) (fun _ => ?_)
    · refine x_lv [0] rfl ?_
      exact Hx96 M
    · refine x_aload_n C (k_dg dt_X12_findFars_0 27 46 (.aload_n 0) 1 rfl) 0 rfl ?_
      refine x_aload_n C (k_dg dt_X12_findFars_0 28 47 (.aload_n 0) 1 rfl) 0 rfl ?_
      refine x_iload_n C (k_dg dt_X12_findFars_0 29 48 (.iload_n 1) 1 rfl) 1 rfl ?_
      refine x_iconst C (v := 0) (k_dg dt_X12_findFars_0 30 49 (.iconst 0) 1 rfl) (by decide) ?_
      refine x_callV C (a := 76) (kd := 10) (vs := [Value.int l1, Value.int 0]) (rest := [k_ra Z 76]) rfl rfl (by decide) (fun r hr => by cases hr; rfl) (c_X12_wayIts C.2.2.2.2.2.2.2.2.2 G.2.1 l1 0 M) cy_X12_wayIts lk_RX12_106 im_X12_wayIts se_X12_wayIts (by decide) (by decide) (by decide) (by decide) rfl rfl (Nat.le_of_ble_eq_true rfl) (k_dg dt_X12_findFars_0 31 50 (.invokevirtual 106) 3 rfl) (fun r1 M2 => ?_)
      show Sm Z G _ _ _ _ [(0, k_ra Z 76), (1, Value.int l1)] [Value.int r1, k_ra Z 76] _ _
      refine x_aload_n C (k_dg dt_X12_findFars_0 32 53 (.aload_n 0) 1 rfl) 0 rfl ?_
      refine x_iload_n C (k_dg dt_X12_findFars_0 33 54 (.iload_n 1) 1 rfl) 1 rfl ?_
      refine x_iconst C (v := 1) (k_dg dt_X12_findFars_0 34 55 (.iconst 1) 1 rfl) (by decide) ?_
      refine x_callV C (a := 76) (kd := 10) (vs := [Value.int l1, Value.int 1]) (rest := [Value.int r1, k_ra Z 76]) rfl rfl (by decide) (fun r hr => by cases hr; rfl) (c_X12_wayIts C.2.2.2.2.2.2.2.2.2 G.2.1 l1 1 M2) cy_X12_wayIts lk_RX12_106 im_X12_wayIts se_X12_wayIts (by decide) (by decide) (by decide) (by decide) rfl rfl (Nat.le_of_ble_eq_true rfl) (k_dg dt_X12_findFars_0 35 56 (.invokevirtual 106) 3 rfl) (fun r3 M4 => ?_)
      show Sm Z G _ _ _ _ [(0, k_ra Z 76), (1, Value.int l1)] [Value.int r3, Value.int r1, k_ra Z 76] _ _
      refine x_aload_n C (k_dg dt_X12_findFars_0 36 59 (.aload_n 0) 1 rfl) 0 rfl ?_
      refine x_iload_n C (k_dg dt_X12_findFars_0 37 60 (.iload_n 1) 1 rfl) 1 rfl ?_
      refine x_iconst C (v := 2) (k_dg dt_X12_findFars_0 38 61 (.iconst 2) 1 rfl) (by decide) ?_
      refine x_callV C (a := 76) (kd := 10) (vs := [Value.int l1, Value.int 2]) (rest := [Value.int r3, Value.int r1, k_ra Z 76]) rfl rfl (by decide) (fun r hr => by cases hr; rfl) (c_X12_wayIts C.2.2.2.2.2.2.2.2.2 G.2.1 l1 2 M4) cy_X12_wayIts lk_RX12_106 im_X12_wayIts se_X12_wayIts (by decide) (by decide) (by decide) (by decide) rfl rfl (Nat.le_of_ble_eq_true rfl) (k_dg dt_X12_findFars_0 39 62 (.invokevirtual 106) 3 rfl) (fun r5 M6 => ?_)
      show Sm Z G _ _ _ _ [(0, k_ra Z 76), (1, Value.int l1)] [Value.int r5, Value.int r3, Value.int r1, k_ra Z 76] _ _
      refine x_callV C (a := 76) (kd := 10) (vs := [Value.int r1, Value.int r3, Value.int r5]) (rest := []) rfl rfl (by decide) (fun r hr => by cases hr; rfl) (c_X12_nearer C.2.2.2.2.2.2.2.2.2 G.2.1 r1 r3 r5 M6) cy_X12_nearer lk_RX12_296 im_X12_nearer se_X12_nearer (by decide) (by decide) (by decide) (by decide) rfl rfl (Nat.le_of_ble_eq_true rfl) (k_dg dt_X12_findFars_1 0 65 (.invokevirtual 296) 3 rfl) (fun r7 M8 => ?_)
      show Sm Z G _ _ _ _ [(0, k_ra Z 76), (1, Value.int l1)] [] _ _
      refine x_aload_n C (k_dg dt_X12_findFars_1 1 68 (.aload_n 0) 1 rfl) 0 rfl ?_
      refine x_aload_n C (k_dg dt_X12_findFars_1 2 69 (.aload_n 0) 1 rfl) 0 rfl ?_
      refine x_iload_n C (k_dg dt_X12_findFars_1 3 70 (.iload_n 1) 1 rfl) 1 rfl ?_
      refine x_iconst C (v := 1) (k_dg dt_X12_findFars_1 4 71 (.iconst 1) 1 rfl) (by decide) ?_
      refine x_callV C (a := 76) (kd := 10) (vs := [Value.int l1, Value.int 1]) (rest := [k_ra Z 76]) rfl rfl (by decide) (fun r hr => by cases hr; rfl) (c_X12_wayIts C.2.2.2.2.2.2.2.2.2 G.2.1 l1 1 M8) cy_X12_wayIts lk_RX12_106 im_X12_wayIts se_X12_wayIts (by decide) (by decide) (by decide) (by decide) rfl rfl (Nat.le_of_ble_eq_true rfl) (k_dg dt_X12_findFars_1 5 72 (.invokevirtual 106) 3 rfl) (fun r9 M10 => ?_)
      show Sm Z G _ _ _ _ [(0, k_ra Z 76), (1, Value.int l1)] [Value.int r9, k_ra Z 76] _ _
      refine x_aload_n C (k_dg dt_X12_findFars_1 6 75 (.aload_n 0) 1 rfl) 0 rfl ?_
      refine x_iload_n C (k_dg dt_X12_findFars_1 7 76 (.iload_n 1) 1 rfl) 1 rfl ?_
      refine x_iconst C (v := 0) (k_dg dt_X12_findFars_1 8 77 (.iconst 0) 1 rfl) (by decide) ?_
      refine x_callV C (a := 76) (kd := 10) (vs := [Value.int l1, Value.int 0]) (rest := [Value.int r9, k_ra Z 76]) rfl rfl (by decide) (fun r hr => by cases hr; rfl) (c_X12_wayIts C.2.2.2.2.2.2.2.2.2 G.2.1 l1 0 M10) cy_X12_wayIts lk_RX12_106 im_X12_wayIts se_X12_wayIts (by decide) (by decide) (by decide) (by decide) rfl rfl (Nat.le_of_ble_eq_true rfl) (k_dg dt_X12_findFars_1 9 78 (.invokevirtual 106) 3 rfl) (fun r11 M12 => ?_)
      show Sm Z G _ _ _ _ [(0, k_ra Z 76), (1, Value.int l1)] [Value.int r11, Value.int r9, k_ra Z 76] _ _
      refine x_aload_n C (k_dg dt_X12_findFars_1 10 81 (.aload_n 0) 1 rfl) 0 rfl ?_
      refine x_iload_n C (k_dg dt_X12_findFars_1 11 82 (.iload_n 1) 1 rfl) 1 rfl ?_
      refine x_iconst C (v := 2) (k_dg dt_X12_findFars_1 12 83 (.iconst 2) 1 rfl) (by decide) ?_
      refine x_callV C (a := 76) (kd := 10) (vs := [Value.int l1, Value.int 2]) (rest := [Value.int r11, Value.int r9, k_ra Z 76]) rfl rfl (by decide) (fun r hr => by cases hr; rfl) (c_X12_wayIts C.2.2.2.2.2.2.2.2.2 G.2.1 l1 2 M12) cy_X12_wayIts lk_RX12_106 im_X12_wayIts se_X12_wayIts (by decide) (by decide) (by decide) (by decide) rfl rfl (Nat.le_of_ble_eq_true rfl) (k_dg dt_X12_findFars_1 13 84 (.invokevirtual 106) 3 rfl) (fun r13 M14 => ?_)
      show Sm Z G _ _ _ _ [(0, k_ra Z 76), (1, Value.int l1)] [Value.int r13, Value.int r11, Value.int r9, k_ra Z 76] _ _
      refine x_callV C (a := 76) (kd := 10) (vs := [Value.int r9, Value.int r11, Value.int r13]) (rest := []) rfl rfl (by decide) (fun r hr => by cases hr; rfl) (c_X12_nearer C.2.2.2.2.2.2.2.2.2 G.2.1 r9 r11 r13 M14) cy_X12_nearer lk_RX12_296 im_X12_nearer se_X12_nearer (by decide) (by decide) (by decide) (by decide) rfl rfl (Nat.le_of_ble_eq_true rfl) (k_dg dt_X12_findFars_1 14 87 (.invokevirtual 296) 3 rfl) (fun r15 M16 => ?_)
      show Sm Z G _ _ _ _ [(0, k_ra Z 76), (1, Value.int l1)] [] _ _
      refine x_iinc C (v := 1) (lv' := [(1, Value.int (l1 + 1)), (0, k_ra Z 76)]) (k_dg dt_X12_findFars_1 15 90 (.iinc 1 1) 3 rfl) 1 rfl (by decide) (by decide) rfl ?_
      refine x_goto C (tgt := 38) (k_dg dt_X12_findFars_1 16 93 (.goto (-55)) 3 rfl) (by decide) ?_
      refine x_lv [1, 0] rfl ?_
      exact ih (l1 + 1) M16
def f_X12_findFars_183 (l1 : Int32) (l2 : Int32) (l3 : Int32) (M : k_M) (kb : Int32 → Int32 → Int32 → k_M → Option (Unit × k_M)) (kx189 : Int32 → Int32 → k_M → Option (Unit × k_M)) : Option (Unit × k_M) := kb l1 l2 (l3 + 1) M
theorem m_X12_findFars_183 {Z : k_Z} {G : k_G} (C : k_C Z G RX12 cX12_findFars (true, 4, 2, 0, 0) none "findFars") (kb : Int32 → Int32 → Int32 → k_M → Option (Unit × k_M)) (kx189 : Int32 → Int32 → k_M → Option (Unit × k_M)) (Hb : ∀ (l1 : Int32) (l2 : Int32) (l3 : Int32) (M : k_M), Sm Z G emV (true, 4, 2, 0, 0) (0, 0) 118 [(0, k_ra Z 76), (1, Value.int l1), (2, Value.int l2), (3, Value.int l3)] [] M (kb l1 l2 l3 M)) (Hx189 : ∀ (l1 : Int32) (l2 : Int32) (M : k_M), Sm Z G emV (true, 4, 2, 0, 0) (0, 0) 189 [(0, k_ra Z 76), (1, Value.int l1), (2, Value.int l2)] [] M (kx189 l1 l2 M)) (l1 : Int32) (l2 : Int32) (l3 : Int32) (M : k_M) : Sm Z G emV (true, 4, 2, 0, 0) (0, 0) 183 [(0, k_ra Z 76), (1, Value.int l1), (2, Value.int l2), (3, Value.int l3)] [] M (f_X12_findFars_183 l1 l2 l3 M kb kx189) := by
  show Sm Z G emV _ _ _ _ _ _ (kb l1 l2 (l3 + 1) M)
  refine x_iinc C (v := 1) (lv' := [(3, Value.int (l3 + 1)), (0, k_ra Z 76), (1, Value.int l1), (2, Value.int l2)]) (k_dg dt_X12_findFars_2 34 183 (.iinc 3 1) 3 rfl) 3 rfl (by decide) (by decide) rfl ?_
  refine x_goto C (tgt := 118) (k_dg dt_X12_findFars_2 35 186 (.goto (-68)) 3 rfl) (by decide) ?_
  refine x_lv [1, 2, 3, 0] rfl ?_
  exact Hb l1 l2 (l3 + 1) M
def f_X12_findFars_118 : Nat → Int32 → Int32 → Int32 → k_M → (Int32 → Int32 → k_M → Option (Unit × k_M)) → Option (Unit × k_M)
  | 0, _, _, _, _, _ => none
  | n + 1, l1, l2, l3, M, kx189 => if (M.1 76 0) ≤ l3 then kx189 l1 l2 M else rdI M 94 64 ((8 * l2) + l1) (fun v1 => if v1 < 0 then f_X12_findFars_183 l1 l2 l3 M ((fun l1_ l2_ l3_ M_ => f_X12_findFars_118 n l1_ l2_ l3_ M_ kx189)) kx189 else rdI M 94 64 ((8 * l1) + l3) (fun v2 => if v2 < 0 then f_X12_findFars_183 l1 l2 l3 M ((fun l1_ l2_ l3_ M_ => f_X12_findFars_118 n l1_ l2_ l3_ M_ kx189)) kx189 else rdI M 94 64 ((8 * l2) + l1) (fun v3 => rdI M 94 64 ((8 * l1) + l3) (fun v4 => bd (f_X12_nearer l2 l3 (v3 + v4) M) (fun r5 M6 => f_X12_findFars_183 l1 l2 l3 M6 ((fun l1_ l2_ l3_ M_ => f_X12_findFars_118 n l1_ l2_ l3_ M_ kx189)) kx189)))))
theorem m_X12_findFars_118 {Z : k_Z} {G : k_G} (C : k_C Z G RX12 cX12_findFars (true, 4, 2, 0, 0) none "findFars") (kx189 : Int32 → Int32 → k_M → Option (Unit × k_M)) (Hx189 : ∀ (l1 : Int32) (l2 : Int32) (M : k_M), Sm Z G emV (true, 4, 2, 0, 0) (0, 0) 189 [(0, k_ra Z 76), (1, Value.int l1), (2, Value.int l2)] [] M (kx189 l1 l2 M)) : ∀ (n : Nat) (l1 : Int32) (l2 : Int32) (l3 : Int32) (M : k_M), Sm Z G emV (true, 4, 2, 0, 0) (0, 0) 118 [(0, k_ra Z 76), (1, Value.int l1), (2, Value.int l2), (3, Value.int l3)] [] M (f_X12_findFars_118 n l1 l2 l3 M kx189)
  | 0, _, _, _, _ => x_none
  | n + 1, l1, l2, l3, M => by
    have ih := m_X12_findFars_118 C kx189 Hx189 n
    show Sm Z G emV _ _ _ _ _ _ (if (M.1 76 0) ≤ l3 then kx189 l1 l2 M else rdI M 94 64 ((8 * l2) + l1) (fun v1 => if v1 < 0 then f_X12_findFars_183 l1 l2 l3 M ((fun l1_ l2_ l3_ M_ => f_X12_findFars_118 n l1_ l2_ l3_ M_ kx189)) kx189 else rdI M 94 64 ((8 * l1) + l3) (fun v2 => if v2 < 0 then f_X12_findFars_183 l1 l2 l3 M ((fun l1_ l2_ l3_ M_ => f_X12_findFars_118 n l1_ l2_ l3_ M_ kx189)) kx189 else rdI M 94 64 ((8 * l2) + l1) (fun v3 => rdI M 94 64 ((8 * l1) + l3) (fun v4 => bd (f_X12_nearer l2 l3 (v3 + v4) M) (fun r5 M6 => f_X12_findFars_183 l1 l2 l3 M6 ((fun l1_ l2_ l3_ M_ => f_X12_findFars_118 n l1_ l2_ l3_ M_ kx189)) kx189))))))
    refine x_iload_n C (k_dg dt_X12_findFars_1 31 118 (.iload_n 3) 1 rfl) 3 rfl ?_
    refine x_aload_n C (k_dg dt_X12_findFars_1 32 119 (.aload_n 0) 1 rfl) 0 rfl ?_
    refine x_getI C (a := 76) (j := 0) rfl rfl (by decide) fl_RX12_95 rfl (k_dg dt_X12_findFars_1 33 120 (.getfield 95) 3 rfl) ?_
    refine x_icmp_ge C (tgt := 189) (k_dg dt_X12_findFars_1 34 123 (.if_icmp .ge 66) 3 rfl) (by decide) (fun _ => ?_) (fun _ => ?_)
    · refine x_lv [0, 1, 2] rfl ?_
      exact Hx189 l1 l2 M
    · refine x_aload_n C (k_dg dt_X12_findFars_1 35 126 (.aload_n 0) 1 rfl) 0 rfl ?_
      refine x_getR C (a := 76) (j := 34) 94 rfl rfl (by decide) fl_RX12_61 rfl rfl rfl (k_dg dt_X12_findFars_1 36 127 (.getfield 61) 3 rfl) ?_
      refine x_bipush C (v := 8) (k_dg dt_X12_findFars_1 37 130 (.bipush 8) 2 rfl) (by decide) ?_
      refine x_iload_n C (k_dg dt_X12_findFars_1 38 132 (.iload_n 2) 1 rfl) 2 rfl ?_
      refine x_imul C (k_dg dt_X12_findFars_1 39 133 (.imul) 1 rfl) ?_
      refine x_iload_n C (k_dg dt_X12_findFars_2 0 134 (.iload_n 1) 1 rfl) 1 rfl ?_
      refine x_iadd C (k_dg dt_X12_findFars_2 1 135 (.iadd) 1 rfl) ?_
      refine x_iald C (a := 94) (n := 64) rfl rfl (k_dg dt_X12_findFars_2 2 136 (.iaload) 1 rfl) (fun v1 => ?_)
      refine x_if_lt C (tgt := 183) (k_dg dt_X12_findFars_2 3 137 (.ifCond .lt 46) 3 rfl) (by decide) (fun _ => ?_) (fun _ => ?_)
      · exact m_X12_findFars_183 C ((fun l1_ l2_ l3_ M_ => f_X12_findFars_118 n l1_ l2_ l3_ M_ kx189)) kx189 ih Hx189 l1 l2 l3 M
      · refine x_aload_n C (k_dg dt_X12_findFars_2 4 140 (.aload_n 0) 1 rfl) 0 rfl ?_
        refine x_getR C (a := 76) (j := 34) 94 rfl rfl (by decide) fl_RX12_61 rfl rfl rfl (k_dg dt_X12_findFars_2 5 141 (.getfield 61) 3 rfl) ?_
        refine x_bipush C (v := 8) (k_dg dt_X12_findFars_2 6 144 (.bipush 8) 2 rfl) (by decide) ?_
        refine x_iload_n C (k_dg dt_X12_findFars_2 7 146 (.iload_n 1) 1 rfl) 1 rfl ?_
        refine x_imul C (k_dg dt_X12_findFars_2 8 147 (.imul) 1 rfl) ?_
        refine x_iload_n C (k_dg dt_X12_findFars_2 9 148 (.iload_n 3) 1 rfl) 3 rfl ?_
        refine x_iadd C (k_dg dt_X12_findFars_2 10 149 (.iadd) 1 rfl) ?_
        refine x_iald C (a := 94) (n := 64) rfl rfl (k_dg dt_X12_findFars_2 11 150 (.iaload) 1 rfl) (fun v2 => ?_)
        refine x_if_lt C (tgt := 183) (k_dg dt_X12_findFars_2 12 151 (.ifCond .lt 32) 3 rfl) (by decide) (fun _ => ?_) (fun _ => ?_)
        · exact m_X12_findFars_183 C ((fun l1_ l2_ l3_ M_ => f_X12_findFars_118 n l1_ l2_ l3_ M_ kx189)) kx189 ih Hx189 l1 l2 l3 M
        · refine x_aload_n C (k_dg dt_X12_findFars_2 13 154 (.aload_n 0) 1 rfl) 0 rfl ?_
          refine x_iload_n C (k_dg dt_X12_findFars_2 14 155 (.iload_n 2) 1 rfl) 2 rfl ?_
          refine x_iload_n C (k_dg dt_X12_findFars_2 15 156 (.iload_n 3) 1 rfl) 3 rfl ?_
          refine x_aload_n C (k_dg dt_X12_findFars_2 16 157 (.aload_n 0) 1 rfl) 0 rfl ?_
          refine x_getR C (a := 76) (j := 34) 94 rfl rfl (by decide) fl_RX12_61 rfl rfl rfl (k_dg dt_X12_findFars_2 17 158 (.getfield 61) 3 rfl) ?_
          refine x_bipush C (v := 8) (k_dg dt_X12_findFars_2 18 161 (.bipush 8) 2 rfl) (by decide) ?_
          refine x_iload_n C (k_dg dt_X12_findFars_2 19 163 (.iload_n 2) 1 rfl) 2 rfl ?_
          refine x_imul C (k_dg dt_X12_findFars_2 20 164 (.imul) 1 rfl) ?_
          refine x_iload_n C (k_dg dt_X12_findFars_2 21 165 (.iload_n 1) 1 rfl) 1 rfl ?_
          refine x_iadd C (k_dg dt_X12_findFars_2 22 166 (.iadd) 1 rfl) ?_
          refine x_iald C (a := 94) (n := 64) rfl rfl (k_dg dt_X12_findFars_2 23 167 (.iaload) 1 rfl) (fun v3 => ?_)
          refine x_aload_n C (k_dg dt_X12_findFars_2 24 168 (.aload_n 0) 1 rfl) 0 rfl ?_
          refine x_getR C (a := 76) (j := 34) 94 rfl rfl (by decide) fl_RX12_61 rfl rfl rfl (k_dg dt_X12_findFars_2 25 169 (.getfield 61) 3 rfl) ?_
          refine x_bipush C (v := 8) (k_dg dt_X12_findFars_2 26 172 (.bipush 8) 2 rfl) (by decide) ?_
          refine x_iload_n C (k_dg dt_X12_findFars_2 27 174 (.iload_n 1) 1 rfl) 1 rfl ?_
          refine x_imul C (k_dg dt_X12_findFars_2 28 175 (.imul) 1 rfl) ?_
          refine x_iload_n C (k_dg dt_X12_findFars_2 29 176 (.iload_n 3) 1 rfl) 3 rfl ?_
          refine x_iadd C (k_dg dt_X12_findFars_2 30 177 (.iadd) 1 rfl) ?_
          refine x_iald C (a := 94) (n := 64) rfl rfl (k_dg dt_X12_findFars_2 31 178 (.iaload) 1 rfl) (fun v4 => ?_)
          refine x_iadd C (k_dg dt_X12_findFars_2 32 179 (.iadd) 1 rfl) ?_
          refine x_callV C (a := 76) (kd := 10) (vs := [Value.int l2, Value.int l3, Value.int (v3 + v4)]) (rest := []) rfl rfl (by decide) (fun r hr => by cases hr; rfl) (c_X12_nearer C.2.2.2.2.2.2.2.2.2 G.2.1 l2 l3 (v3 + v4) M) cy_X12_nearer lk_RX12_296 im_X12_nearer se_X12_nearer (by decide) (by decide) (by decide) (by decide) rfl rfl (Nat.le_of_ble_eq_true rfl) (k_dg dt_X12_findFars_2 33 180 (.invokevirtual 296) 3 rfl) (fun r5 M6 => ?_)
          show Sm Z G _ _ _ _ [(0, k_ra Z 76), (1, Value.int l1), (2, Value.int l2), (3, Value.int l3)] [] _ _
          exact m_X12_findFars_183 C ((fun l1_ l2_ l3_ M_ => f_X12_findFars_118 n l1_ l2_ l3_ M_ kx189)) kx189 ih Hx189 l1 l2 l3 M6
def f_X12_findFars_189 (l1 : Int32) (l2 : Int32) (M : k_M) (kb : Int32 → Int32 → k_M → Option (Unit × k_M)) (kx195 : Int32 → k_M → Option (Unit × k_M)) : Option (Unit × k_M) := kb l1 (l2 + 1) M
theorem m_X12_findFars_189 {Z : k_Z} {G : k_G} (C : k_C Z G RX12 cX12_findFars (true, 4, 2, 0, 0) none "findFars") (kb : Int32 → Int32 → k_M → Option (Unit × k_M)) (kx195 : Int32 → k_M → Option (Unit × k_M)) (Hb : ∀ (l1 : Int32) (l2 : Int32) (M : k_M), Sm Z G emV (true, 4, 2, 0, 0) (0, 0) 108 [(0, k_ra Z 76), (1, Value.int l1), (2, Value.int l2)] [] M (kb l1 l2 M)) (Hx195 : ∀ (l1 : Int32) (M : k_M), Sm Z G emV (true, 4, 2, 0, 0) (0, 0) 195 [(0, k_ra Z 76), (1, Value.int l1)] [] M (kx195 l1 M)) (l1 : Int32) (l2 : Int32) (M : k_M) : Sm Z G emV (true, 4, 2, 0, 0) (0, 0) 189 [(0, k_ra Z 76), (1, Value.int l1), (2, Value.int l2)] [] M (f_X12_findFars_189 l1 l2 M kb kx195) := by
  show Sm Z G emV _ _ _ _ _ _ (kb l1 (l2 + 1) M)
  refine x_iinc C (v := 1) (lv' := [(2, Value.int (l2 + 1)), (0, k_ra Z 76), (1, Value.int l1)]) (k_dg dt_X12_findFars_2 36 189 (.iinc 2 1) 3 rfl) 2 rfl (by decide) (by decide) rfl ?_
  refine x_goto C (tgt := 108) (k_dg dt_X12_findFars_2 37 192 (.goto (-84)) 3 rfl) (by decide) ?_
  refine x_lv [1, 2, 0] rfl ?_
  exact Hb l1 (l2 + 1) M
def f_X12_findFars_108 : Nat → Int32 → Int32 → k_M → (Int32 → k_M → Option (Unit × k_M)) → Option (Unit × k_M)
  | 0, _, _, _, _ => none
  | n + 1, l1, l2, M, kx195 => if (M.1 76 0) ≤ l2 then kx195 l1 M else f_X12_findFars_118 k_fu l1 l2 0 M (fun l1_ l2_ M_ => f_X12_findFars_189 l1_ l2_ M_ ((fun l1_ l2_ M_ => f_X12_findFars_108 n l1_ l2_ M_ kx195)) kx195)
theorem m_X12_findFars_108 {Z : k_Z} {G : k_G} (C : k_C Z G RX12 cX12_findFars (true, 4, 2, 0, 0) none "findFars") (kx195 : Int32 → k_M → Option (Unit × k_M)) (Hx195 : ∀ (l1 : Int32) (M : k_M), Sm Z G emV (true, 4, 2, 0, 0) (0, 0) 195 [(0, k_ra Z 76), (1, Value.int l1)] [] M (kx195 l1 M)) : ∀ (n : Nat) (l1 : Int32) (l2 : Int32) (M : k_M), Sm Z G emV (true, 4, 2, 0, 0) (0, 0) 108 [(0, k_ra Z 76), (1, Value.int l1), (2, Value.int l2)] [] M (f_X12_findFars_108 n l1 l2 M kx195)
  | 0, _, _, _ => x_none
  | n + 1, l1, l2, M => by
    have ih := m_X12_findFars_108 C kx195 Hx195 n
    show Sm Z G emV _ _ _ _ _ _ (if (M.1 76 0) ≤ l2 then kx195 l1 M else f_X12_findFars_118 k_fu l1 l2 0 M (fun l1_ l2_ M_ => f_X12_findFars_189 l1_ l2_ M_ ((fun l1_ l2_ M_ => f_X12_findFars_108 n l1_ l2_ M_ kx195)) kx195))
    refine x_iload_n C (k_dg dt_X12_findFars_1 25 108 (.iload_n 2) 1 rfl) 2 rfl ?_
    refine x_aload_n C (k_dg dt_X12_findFars_1 26 109 (.aload_n 0) 1 rfl) 0 rfl ?_
    refine x_getI C (a := 76) (j := 0) rfl rfl (by decide) fl_RX12_95 rfl (k_dg dt_X12_findFars_1 27 110 (.getfield 95) 3 rfl) ?_
    refine x_icmp_ge C (tgt := 195) (k_dg dt_X12_findFars_1 28 113 (.if_icmp .ge 82) 3 rfl) (by decide) (fun _ => ?_) (fun _ => ?_)
    · refine x_lv [0, 1] rfl ?_
      exact Hx195 l1 M
    · refine x_iconst C (v := 0) (k_dg dt_X12_findFars_1 29 116 (.iconst 0) 1 rfl) (by decide) ?_
      refine x_istore_n C (lv' := [(3, Value.int 0), (0, k_ra Z 76), (1, Value.int l1), (2, Value.int l2)]) (k_dg dt_X12_findFars_1 30 117 (.istore_n 3) 1 rfl) (by decide) rfl ?_
      refine x_lv [1, 2, 3, 0] rfl ?_
      exact m_X12_findFars_118 C (fun l1_ l2_ M_ => f_X12_findFars_189 l1_ l2_ M_ ((fun l1_ l2_ M_ => f_X12_findFars_108 n l1_ l2_ M_ kx195)) kx195) (fun l1_ l2_ M_ => m_X12_findFars_189 C ((fun l1_ l2_ M_ => f_X12_findFars_108 n l1_ l2_ M_ kx195)) kx195 ih Hx195 l1_ l2_ M_) k_fu l1 l2 0 M
def f_X12_findFars_195 (l1 : Int32) (M : k_M) (kb : Int32 → k_M → Option (Unit × k_M)) (kx201 : k_M → Option (Unit × k_M)) : Option (Unit × k_M) := kb (l1 + 1) M
theorem m_X12_findFars_195 {Z : k_Z} {G : k_G} (C : k_C Z G RX12 cX12_findFars (true, 4, 2, 0, 0) none "findFars") (kb : Int32 → k_M → Option (Unit × k_M)) (kx201 : k_M → Option (Unit × k_M)) (Hb : ∀ (l1 : Int32) (M : k_M), Sm Z G emV (true, 4, 2, 0, 0) (0, 0) 98 [(0, k_ra Z 76), (1, Value.int l1)] [] M (kb l1 M)) (Hx201 : ∀ (M : k_M), Sm Z G emV (true, 4, 2, 0, 0) (0, 0) 201 [] [] M (kx201 M)) (l1 : Int32) (M : k_M) : Sm Z G emV (true, 4, 2, 0, 0) (0, 0) 195 [(0, k_ra Z 76), (1, Value.int l1)] [] M (f_X12_findFars_195 l1 M kb kx201) := by
  show Sm Z G emV _ _ _ _ _ _ (kb (l1 + 1) M)
  refine x_iinc C (v := 1) (lv' := [(1, Value.int (l1 + 1)), (0, k_ra Z 76)]) (k_dg dt_X12_findFars_2 38 195 (.iinc 1 1) 3 rfl) 1 rfl (by decide) (by decide) rfl ?_
  refine x_goto C (tgt := 98) (k_dg dt_X12_findFars_2 39 198 (.goto (-100)) 3 rfl) (by decide) ?_
  refine x_lv [1, 0] rfl ?_
  exact Hb (l1 + 1) M
def f_X12_findFars_98 : Nat → Int32 → k_M → (k_M → Option (Unit × k_M)) → Option (Unit × k_M)
  | 0, _, _, _ => none
  | n + 1, l1, M, kx201 => if (M.1 76 0) ≤ l1 then kx201 M else f_X12_findFars_108 k_fu l1 0 M (fun l1_ M_ => f_X12_findFars_195 l1_ M_ ((fun l1_ M_ => f_X12_findFars_98 n l1_ M_ kx201)) kx201)
theorem m_X12_findFars_98 {Z : k_Z} {G : k_G} (C : k_C Z G RX12 cX12_findFars (true, 4, 2, 0, 0) none "findFars") (kx201 : k_M → Option (Unit × k_M)) (Hx201 : ∀ (M : k_M), Sm Z G emV (true, 4, 2, 0, 0) (0, 0) 201 [] [] M (kx201 M)) : ∀ (n : Nat) (l1 : Int32) (M : k_M), Sm Z G emV (true, 4, 2, 0, 0) (0, 0) 98 [(0, k_ra Z 76), (1, Value.int l1)] [] M (f_X12_findFars_98 n l1 M kx201)
  | 0, _, _ => x_none
  | n + 1, l1, M => by
    have ih := m_X12_findFars_98 C kx201 Hx201 n
    show Sm Z G emV _ _ _ _ _ _ (if (M.1 76 0) ≤ l1 then kx201 M else f_X12_findFars_108 k_fu l1 0 M (fun l1_ M_ => f_X12_findFars_195 l1_ M_ ((fun l1_ M_ => f_X12_findFars_98 n l1_ M_ kx201)) kx201))
    refine x_iload_n C (k_dg dt_X12_findFars_1 19 98 (.iload_n 1) 1 rfl) 1 rfl ?_
    refine x_aload_n C (k_dg dt_X12_findFars_1 20 99 (.aload_n 0) 1 rfl) 0 rfl ?_
    refine x_getI C (a := 76) (j := 0) rfl rfl (by decide) fl_RX12_95 rfl (k_dg dt_X12_findFars_1 21 100 (.getfield 95) 3 rfl) ?_
    refine x_icmp_ge C (tgt := 201) (k_dg dt_X12_findFars_1 22 103 (.if_icmp .ge 98) 3 rfl) (by decide) (fun _ => ?_) (fun _ => ?_)
    · refine x_lv [] rfl ?_
      exact Hx201 M
    · refine x_iconst C (v := 0) (k_dg dt_X12_findFars_1 23 106 (.iconst 0) 1 rfl) (by decide) ?_
      refine x_istore_n C (lv' := [(2, Value.int 0), (0, k_ra Z 76), (1, Value.int l1)]) (k_dg dt_X12_findFars_1 24 107 (.istore_n 2) 1 rfl) (by decide) rfl ?_
      refine x_lv [1, 2, 0] rfl ?_
      exact m_X12_findFars_108 C (fun l1_ M_ => f_X12_findFars_195 l1_ M_ ((fun l1_ M_ => f_X12_findFars_98 n l1_ M_ kx201)) kx201) (fun l1_ M_ => m_X12_findFars_195 C ((fun l1_ M_ => f_X12_findFars_98 n l1_ M_ kx201)) kx201 ih Hx201 l1_ M_) k_fu l1 0 M
def f_X12_findFars_201 (M : k_M) : Option (Unit × k_M) := some ((), M)
theorem m_X12_findFars_201 {Z : k_Z} {G : k_G} (C : k_C Z G RX12 cX12_findFars (true, 4, 2, 0, 0) none "findFars") (M : k_M) : Sm Z G emV (true, 4, 2, 0, 0) (0, 0) 201 [] [] M (f_X12_findFars_201 M) := by
  show Sm Z G emV _ _ _ _ _ _ (some ((), M))
  exact x_vret C (by decide) (by decide) (k_dg dt_X12_findFars_3 0 201 (.return_) 1 rfl)
def f_X12_findFars_96 (M : k_M) : Option (Unit × k_M) := f_X12_findFars_98 k_fu 0 M (fun M_ => f_X12_findFars_201 M_)
theorem m_X12_findFars_96 {Z : k_Z} {G : k_G} (C : k_C Z G RX12 cX12_findFars (true, 4, 2, 0, 0) none "findFars") (M : k_M) : Sm Z G emV (true, 4, 2, 0, 0) (0, 0) 96 [(0, k_ra Z 76)] [] M (f_X12_findFars_96 M) := by
  show Sm Z G emV _ _ _ _ _ _ (f_X12_findFars_98 k_fu 0 M (fun M_ => f_X12_findFars_201 M_))
  refine x_iconst C (v := 0) (k_dg dt_X12_findFars_1 17 96 (.iconst 0) 1 rfl) (by decide) ?_
  refine x_istore_n C (lv' := [(1, Value.int 0), (0, k_ra Z 76)]) (k_dg dt_X12_findFars_1 18 97 (.istore_n 1) 1 rfl) (by decide) rfl ?_
  refine x_lv [1, 0] rfl ?_
  exact m_X12_findFars_98 C (fun M_ => f_X12_findFars_201 M_) (fun M_ => m_X12_findFars_201 C M_) k_fu 0 M
def f_X12_findFars_36 (M : k_M) : Option (Unit × k_M) := f_X12_findFars_38 k_fu 0 M (fun M_ => f_X12_findFars_96 M_)
theorem m_X12_findFars_36 {Z : k_Z} {G : k_G} (C : k_C Z G RX12 cX12_findFars (true, 4, 2, 0, 0) none "findFars") (M : k_M) : Sm Z G emV (true, 4, 2, 0, 0) (0, 0) 36 [(0, k_ra Z 76)] [] M (f_X12_findFars_36 M) := by
  show Sm Z G emV _ _ _ _ _ _ (f_X12_findFars_38 k_fu 0 M (fun M_ => f_X12_findFars_96 M_))
  refine x_iconst C (v := 0) (k_dg dt_X12_findFars_0 21 36 (.iconst 0) 1 rfl) (by decide) ?_
  refine x_istore_n C (lv' := [(1, Value.int 0), (0, k_ra Z 76)]) (k_dg dt_X12_findFars_0 22 37 (.istore_n 1) 1 rfl) (by decide) rfl ?_
  refine x_lv [1, 0] rfl ?_
  exact m_X12_findFars_38 C (fun M_ => f_X12_findFars_96 M_) (fun M_ => m_X12_findFars_96 C M_) k_fu 0 M
def f_X12_findFars (M : k_M) : Option (Unit × k_M) := f_X12_findFars_2 k_fu 0 M (fun M_ => f_X12_findFars_36 M_)
theorem m_X12_findFars_0 {Z : k_Z} {G : k_G} (C : k_C Z G RX12 cX12_findFars (true, 4, 2, 0, 0) none "findFars") (M : k_M) : Sm Z G emV (true, 4, 2, 0, 0) (0, 0) 0 [(0, k_ra Z 76)] [] M (f_X12_findFars M) := by
  show Sm Z G emV _ _ _ _ _ _ (f_X12_findFars_2 k_fu 0 M (fun M_ => f_X12_findFars_36 M_))
  refine x_iconst C (v := 0) (k_dg dt_X12_findFars_0 0 0 (.iconst 0) 1 rfl) (by decide) ?_
  refine x_istore_n C (lv' := [(1, Value.int 0), (0, k_ra Z 76)]) (k_dg dt_X12_findFars_0 1 1 (.istore_n 1) 1 rfl) (by decide) rfl ?_
  refine x_lv [1, 0] rfl ?_
  exact m_X12_findFars_2 C (fun M_ => f_X12_findFars_36 M_) (fun M_ => m_X12_findFars_36 C M_) k_fu 0 M
theorem c_X12_findFars {Z : k_Z} (hg : k_Gd Z) (l : Launch) (M : k_M) : Con true Z l yX12_findFars cX12_findFars 4 none 2 0 0 emV [k_ra Z 76] M (f_X12_findFars M) := k_con hg (by decide) (Nat.le_of_ble_eq_true rfl) (fun G hl C => m_X12_findFars_0 C M)
