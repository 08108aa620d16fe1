theorem fl_RX11_23 : k_FL RX11 23 9 2 := ⟨(RX11, TX11, 14), "WheelCity", rfl, by decide, iu_9, Or.inl (List.mem_of_getElem? (i := 329) (by decide +kernel)), Or.inl rfl⟩
theorem fl_RX11_29 : k_FL RX11 29 9 4 := ⟨(RX11, TX11, 14), "WheelCity", rfl, by decide, iu_9, Or.inl (List.mem_of_getElem? (i := 331) (by decide +kernel)), Or.inl rfl⟩
theorem pt_9_4 : k_cls 9 4 .boolean := fun r hr => by cases hr; exact ⟨rfl, by decide +kernel⟩
theorem dt_X11_keep_0 : k_dec cX11_keep [(0, .aload_n 0, 1), (1, .getfield 23, 3), (4, .aload_n 0, 1), (5, .getfield 19, 3), (8, .invokevirtual 227, 3), (11, .aload_n 0, 1), (12, .iconst 1, 1), (13, .putfield 29, 3), (16, .iconst 1, 1), (17, .ireturn, 1)] = true := by decide +kernel
def f_X11_keep (M : k_M) : Option (Int32 × k_M) := bd (f_X10_copyFrom 23 3 M) (fun r1 M2 => bN (sI M2 0 4 1) (fun M3 => some (1, M3)))
theorem m_X11_keep_0 {Z : k_Z} {G : k_G} (C : k_C Z G RX11 cX11_keep (true, 1, 4, 0, 0) (some .int) "keep") (M : k_M) : Sm Z G emI (true, 1, 4, 0, 0) (0, 0) 0 [(0, k_ra Z 0)] [] M (f_X11_keep M) := by
  show Sm Z G emI _ _ _ _ _ _ (bd (f_X10_copyFrom 23 3 M) (fun r1 M2 => bN (sI M2 0 4 1) (fun M3 => some (1, M3))))
  refine x_aload_n C (k_dg dt_X11_keep_0 0 0 (.aload_n 0) 1 rfl) 0 rfl ?_
  refine x_getR C (a := 0) (j := 2) 23 rfl rfl (by decide) fl_RX11_23 rfl rfl rfl (k_dg dt_X11_keep_0 1 1 (.getfield 23) 3 rfl) ?_
  refine x_aload_n C (k_dg dt_X11_keep_0 2 4 (.aload_n 0) 1 rfl) 0 rfl ?_
  refine x_getR C (a := 0) (j := 1) 3 rfl rfl (by decide) fl_RX11_19 rfl rfl rfl (k_dg dt_X11_keep_0 3 5 (.getfield 19) 3 rfl) ?_
  refine x_callV C (a := 23) (kd := 8) (vs := [k_ra Z 3]) (rest := []) rfl rfl (by decide) (fun r hr => by cases hr; rfl) (c_X10_copyFrom C.2.2.2.2.2.2.2.2.2 G.2.1 23 3 M isW23 isW3) cy_X10_copyFrom lk_RX11_227 im_X10_copyFrom se_X10_copyFrom (by decide) (by decide) (by decide) (by decide) rfl rfl (Nat.le_of_ble_eq_true rfl) (k_dg dt_X11_keep_0 4 8 (.invokevirtual 227) 3 rfl) (fun r1 M2 => ?_)
  show Sm Z G _ _ _ _ [(0, k_ra Z 0)] [] _ _
  refine x_aload_n C (k_dg dt_X11_keep_0 5 11 (.aload_n 0) 1 rfl) 0 rfl ?_
  refine x_iconst C (v := 1) (k_dg dt_X11_keep_0 6 12 (.iconst 1) 1 rfl) (by decide) ?_
  refine x_putI C (a := 0) (j := 4) rfl rfl (by decide) fl_RX11_29 rfl pt_9_4 tb_9 rfl rfl (k_dg dt_X11_keep_0 7 13 (.putfield 29) 3 rfl) (fun M3 => ?_)
  refine x_iconst C (v := 1) (k_dg dt_X11_keep_0 8 16 (.iconst 1) 1 rfl) (by decide) ?_
  exact x_iret C (by decide) (by decide) (k_dg dt_X11_keep_0 9 17 (.ireturn) 1 rfl)
theorem c_X11_keep {Z : k_Z} (hg : k_Gd Z) (l : Launch) (M : k_M) : Con true Z l yX11_keep cX11_keep 1 (some .int) 4 0 0 emI [k_ra Z 0] M (f_X11_keep M) := k_con hg (by decide) (Nat.le_of_ble_eq_true rfl) (fun G hl C => m_X11_keep_0 C M)
theorem dt_X11_again_0 : k_dec cX11_again [(0, .aload_n 0, 1), (1, .getfield 29, 3), (4, .ifCond .ne 6, 3), (7, .bipush (-3), 2), (9, .ireturn, 1), (10, .aload_n 0, 1), (11, .getfield 19, 3), (14, .aload_n 0, 1), (15, .getfield 23, 3), (18, .invokevirtual 227, 3), (21, .aload_n 0, 1), (22, .getfield 19, 3), (25, .getfield 75, 3), (28, .getfield 92, 3), (31, .ireturn, 1)] = true := by decide +kernel
def f_X11_again (M : k_M) : Option (Int32 × k_M) := if (M.1 0 4) = 0 then some (-3, M) else bd (f_X10_copyFrom 3 23 M) (fun r1 M2 => some (M2.1 4 0, M2))
theorem m_X11_again_0 {Z : k_Z} {G : k_G} (C : k_C Z G RX11 cX11_again (true, 1, 4, 0, 0) (some .int) "again") (M : k_M) : Sm Z G emI (true, 1, 4, 0, 0) (0, 0) 0 [(0, k_ra Z 0)] [] M (f_X11_again M) := by
  show Sm Z G emI _ _ _ _ _ _ (if (M.1 0 4) = 0 then some (-3, M) else bd (f_X10_copyFrom 3 23 M) (fun r1 M2 => some (M2.1 4 0, M2)))
  refine x_aload_n C (k_dg dt_X11_again_0 0 0 (.aload_n 0) 1 rfl) 0 rfl ?_
  refine x_getI C (a := 0) (j := 4) rfl rfl (by decide) fl_RX11_29 rfl (k_dg dt_X11_again_0 1 1 (.getfield 29) 3 rfl) ?_
  refine x_if_ne C (tgt := 10) (k_dg dt_X11_again_0 2 4 (.ifCond .ne 6) 3 rfl) (by decide) (fun _ => ?_) (fun _ => ?_)
  · refine x_bipush C (v := -3) (k_dg dt_X11_again_0 3 7 (.bipush (-3)) 2 rfl) (by decide) ?_
    exact x_iret C (by decide) (by decide) (k_dg dt_X11_again_0 4 9 (.ireturn) 1 rfl)
  · refine x_aload_n C (k_dg dt_X11_again_0 5 10 (.aload_n 0) 1 rfl) 0 rfl ?_
    refine x_getR C (a := 0) (j := 1) 3 rfl rfl (by decide) fl_RX11_19 rfl rfl rfl (k_dg dt_X11_again_0 6 11 (.getfield 19) 3 rfl) ?_
    refine x_aload_n C (k_dg dt_X11_again_0 7 14 (.aload_n 0) 1 rfl) 0 rfl ?_
    refine x_getR C (a := 0) (j := 2) 23 rfl rfl (by decide) fl_RX11_23 rfl rfl rfl (k_dg dt_X11_again_0 8 15 (.getfield 23) 3 rfl) ?_
    refine x_callV C (a := 3) (kd := 8) (vs := [k_ra Z 23]) (rest := []) rfl rfl (by decide) (fun r hr => by cases hr; rfl) (c_X10_copyFrom C.2.2.2.2.2.2.2.2.2 G.2.1 3 23 M isW3 isW23) cy_X10_copyFrom lk_RX11_227 im_X10_copyFrom se_X10_copyFrom (by decide) (by decide) (by decide) (by decide) rfl rfl (Nat.le_of_ble_eq_true rfl) (k_dg dt_X11_again_0 9 18 (.invokevirtual 227) 3 rfl) (fun r1 M2 => ?_)
    show Sm Z G _ _ _ _ [(0, k_ra Z 0)] [] _ _
    refine x_aload_n C (k_dg dt_X11_again_0 10 21 (.aload_n 0) 1 rfl) 0 rfl ?_
    refine x_getR C (a := 0) (j := 1) 3 rfl rfl (by decide) fl_RX11_19 rfl rfl rfl (k_dg dt_X11_again_0 11 22 (.getfield 19) 3 rfl) ?_
    refine x_getR C (a := 3) (j := 0) 4 rfl rfl (by decide) fl_RX11_75 rfl rfl rfl (k_dg dt_X11_again_0 12 25 (.getfield 75) 3 rfl) ?_
    refine x_getI C (a := 4) (j := 0) rfl rfl (by decide) fl_RX11_92 rfl (k_dg dt_X11_again_0 13 28 (.getfield 92) 3 rfl) ?_
    exact x_iret C (by decide) (by decide) (k_dg dt_X11_again_0 14 31 (.ireturn) 1 rfl)
theorem c_X11_again {Z : k_Z} (hg : k_Gd Z) (l : Launch) (M : k_M) : Con true Z l yX11_again cX11_again 1 (some .int) 4 0 0 emI [k_ra Z 0] M (f_X11_again M) := k_con hg (by decide) (Nat.le_of_ble_eq_true rfl) (fun G hl C => m_X11_again_0 C M)
