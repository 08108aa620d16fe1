theorem iu_7 : ∀ w ∈ u_ws RX9 TX9 3, w ∈ lw_tbl ∧ goodWord w = true := k_inU _ [319, 321, 323] (by decide +kernel) (by decide +kernel)
theorem tb_7 : k_tbs 7 := fun r hr => by cases hr; exact ⟨⟨tyX9, tyX9_ok⟩, nmX9⟩
theorem fl_RX9_13 : k_FL RX9 13 7 1 := ⟨(RX9, TX9, 3), "WheelCity$Trace", rfl, by decide, iu_7, Or.inl (List.mem_of_getElem? (i := 313) (by decide +kernel)), Or.inl rfl⟩
theorem fl_RX9_17 : k_FL RX9 17 7 2 := ⟨(RX9, TX9, 3), "WheelCity$Trace", rfl, by decide, iu_7, Or.inl (List.mem_of_getElem? (i := 316) (by decide +kernel)), Or.inl rfl⟩
theorem fl_RX9_9 : k_FL RX9 9 7 0 := ⟨(RX9, TX9, 3), "WheelCity$Trace", rfl, by decide, iu_7, Or.inl (List.mem_of_getElem? (i := 310) (by decide +kernel)), Or.inl rfl⟩
theorem pt_7_1 : k_cls 7 1 .int := fun r hr => by cases hr; exact ⟨rfl, by decide +kernel⟩
theorem pt_7_2 : k_cls 7 2 .boolean := fun r hr => by cases hr; exact ⟨rfl, by decide +kernel⟩
theorem dt_X9_clear_0 : k_dec cX9_clear [(0, .aload_n 0, 1), (1, .iconst 0, 1), (2, .putfield 13, 3), (5, .aload_n 0, 1), (6, .iconst 0, 1), (7, .putfield 17, 3), (10, .return_, 1)] = true := by decide +kernel
def f_X9_clear (M : k_M) : Option (Unit × k_M) := bN (sI M 74 1 0) (fun M1 => bN (sI M1 74 2 0) (fun M2 => some ((), M2)))
theorem m_X9_clear_0 {Z : k_Z} {G : k_G} (C : k_C Z G RX9 cX9_clear (true, 1, 1, 0, 0) none "clear") (M : k_M) : Sm Z G emV (true, 1, 1, 0, 0) (0, 0) 0 [(0, k_ra Z 74)] [] M (f_X9_clear M) := by
  show Sm Z G emV _ _ _ _ _ _ (bN (sI M 74 1 0) (fun M1 => bN (sI M1 74 2 0) (fun M2 => some ((), M2))))
  refine x_aload_n C (k_dg dt_X9_clear_0 0 0 (.aload_n 0) 1 rfl) 0 rfl ?_
  refine x_iconst C (v := 0) (k_dg dt_X9_clear_0 1 1 (.iconst 0) 1 rfl) (by decide) ?_
  refine x_putI C (a := 74) (j := 1) rfl rfl (by decide) fl_RX9_13 rfl pt_7_1 tb_7 rfl rfl (k_dg dt_X9_clear_0 2 2 (.putfield 13) 3 rfl) (fun M1 => ?_)
  refine x_aload_n C (k_dg dt_X9_clear_0 3 5 (.aload_n 0) 1 rfl) 0 rfl ?_
  refine x_iconst C (v := 0) (k_dg dt_X9_clear_0 4 6 (.iconst 0) 1 rfl) (by decide) ?_
  refine x_putI C (a := 74) (j := 2) rfl rfl (by decide) fl_RX9_17 rfl pt_7_2 tb_7 rfl rfl (k_dg dt_X9_clear_0 5 7 (.putfield 17) 3 rfl) (fun M2 => ?_)
  exact x_vret C (by decide) (by decide) (k_dg dt_X9_clear_0 6 10 (.return_) 1 rfl)
theorem c_X9_clear {Z : k_Z} (hg : k_Gd Z) (l : Launch) (M : k_M) : Con true Z l yX9_clear cX9_clear 1 none 1 0 0 emV [k_ra Z 74] M (f_X9_clear M) := k_con hg (by decide) (Nat.le_of_ble_eq_true rfl) (fun G hl C => m_X9_clear_0 C M)
theorem dt_X9_begin_0 : k_dec cX9_begin [(0, .aload_n 0, 1), (1, .getfield 17, 3), (4, .ifCond .ne 32, 3), (7, .aload_n 0, 1), (8, .getfield 13, 3), (11, .bipush 30, 2), (13, .if_icmp .ge 23, 3), (16, .aload_n 0, 1), (17, .getfield 9, 3), (20, .aload_n 0, 1), (21, .getfield 13, 3), (24, .iload_n 1, 1), (25, .iastore, 1), (26, .aload_n 0, 1), (27, .dup, 1), (28, .getfield 13, 3), (31, .iconst 1, 1), (32, .iadd, 1), (33, .putfield 13, 3), (36, .return_, 1)] = true := by decide +kernel
def f_X9_begin (p1 : Int32) (M : k_M) : Option (Unit × k_M) := if (M.1 74 2) = 0 then if 30 ≤ (M.1 74 1) then some ((), M) else wrI M 75 30 (M.1 74 1) p1 (fun M1 => bN (sI M1 74 1 ((M1.1 74 1) + 1)) (fun M2 => some ((), M2))) else some ((), M)
theorem m_X9_begin_0 {Z : k_Z} {G : k_G} (C : k_C Z G RX9 cX9_begin (true, 2, 1, 0, 0) none "begin") (p1 : Int32) (M : k_M) : Sm Z G emV (true, 2, 1, 0, 0) (0, 0) 0 [(0, k_ra Z 74), (1, Value.int p1)] [] M (f_X9_begin p1 M) := by
  show Sm Z G emV _ _ _ _ _ _ (if (M.1 74 2) = 0 then if 30 ≤ (M.1 74 1) then some ((), M) else wrI M 75 30 (M.1 74 1) p1 (fun M1 => bN (sI M1 74 1 ((M1.1 74 1) + 1)) (fun M2 => some ((), M2))) else some ((), M))
  refine x_aload_n C (k_dg dt_X9_begin_0 0 0 (.aload_n 0) 1 rfl) 0 rfl ?_
  refine x_getI C (a := 74) (j := 2) rfl rfl (by decide) fl_RX9_17 rfl (k_dg dt_X9_begin_0 1 1 (.getfield 17) 3 rfl) ?_
  refine x_if_ne C (tgt := 36) (k_dg dt_X9_begin_0 2 4 (.ifCond .ne 32) 3 rfl) (by decide) (fun _ => ?_) (fun _ => ?_)
  · refine x_aload_n C (k_dg dt_X9_begin_0 3 7 (.aload_n 0) 1 rfl) 0 rfl ?_
    refine x_getI C (a := 74) (j := 1) rfl rfl (by decide) fl_RX9_13 rfl (k_dg dt_X9_begin_0 4 8 (.getfield 13) 3 rfl) ?_
    refine x_bipush C (v := 30) (k_dg dt_X9_begin_0 5 11 (.bipush 30) 2 rfl) (by decide) ?_
    refine x_icmp_ge C (tgt := 36) (k_dg dt_X9_begin_0 6 13 (.if_icmp .ge 23) 3 rfl) (by decide) (fun _ => ?_) (fun _ => ?_)
    · exact x_vret C (by decide) (by decide) (k_dg dt_X9_begin_0 19 36 (.return_) 1 rfl)
    · refine x_aload_n C (k_dg dt_X9_begin_0 7 16 (.aload_n 0) 1 rfl) 0 rfl ?_
      refine x_getR C (a := 74) (j := 0) 75 rfl rfl (by decide) fl_RX9_9 rfl rfl rfl (k_dg dt_X9_begin_0 8 17 (.getfield 9) 3 rfl) ?_
      refine x_aload_n C (k_dg dt_X9_begin_0 9 20 (.aload_n 0) 1 rfl) 0 rfl ?_
      refine x_getI C (a := 74) (j := 1) rfl rfl (by decide) fl_RX9_13 rfl (k_dg dt_X9_begin_0 10 21 (.getfield 13) 3 rfl) ?_
      refine x_iload_n C (k_dg dt_X9_begin_0 11 24 (.iload_n 1) 1 rfl) 1 rfl ?_
      refine x_iast C (a := 75) (n := 30) rfl rfl (k_dg dt_X9_begin_0 12 25 (.iastore) 1 rfl) (fun M1 => ?_)
      refine x_aload_n C (k_dg dt_X9_begin_0 13 26 (.aload_n 0) 1 rfl) 0 rfl ?_
      refine x_dup C (k_dg dt_X9_begin_0 14 27 (.dup) 1 rfl) rfl ?_
      refine x_getI C (a := 74) (j := 1) rfl rfl (by decide) fl_RX9_13 rfl (k_dg dt_X9_begin_0 15 28 (.getfield 13) 3 rfl) ?_
      refine x_iconst C (v := 1) (k_dg dt_X9_begin_0 16 31 (.iconst 1) 1 rfl) (by decide) ?_
      refine x_iadd C (k_dg dt_X9_begin_0 17 32 (.iadd) 1 rfl) ?_
      refine x_putI C (a := 74) (j := 1) rfl rfl (by decide) fl_RX9_13 rfl pt_7_1 tb_7 rfl rfl (k_dg dt_X9_begin_0 18 33 (.putfield 13) 3 rfl) (fun M2 => ?_)
      exact x_vret C (by decide) (by decide) (k_dg dt_X9_begin_0 19 36 (.return_) 1 rfl)
  · exact x_vret C (by decide) (by decide) (k_dg dt_X9_begin_0 19 36 (.return_) 1 rfl)
theorem c_X9_begin {Z : k_Z} (hg : k_Gd Z) (l : Launch) (p1 : Int32) (M : k_M) : Con true Z l yX9_begin cX9_begin 2 none 1 0 0 emV [k_ra Z 74, Value.int p1] M (f_X9_begin p1 M) := k_con hg (by decide) (Nat.le_of_ble_eq_true rfl) (fun G hl C => m_X9_begin_0 C p1 M)
