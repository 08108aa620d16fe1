theorem iu_2 : ∀ w ∈ u_ws RX3 TX3 16, w ∈ lw_tbl ∧ goodWord w = true := k_inU _ [213, 215, 217, 219, 221, 223, 225, 227, 229, 231, 233, 235, 237, 239, 241, 243] (by decide +kernel) (by decide +kernel)
theorem tb_2 : k_tbs 2 := fun r hr => by cases hr; exact ⟨⟨tyX3, tyX3_ok⟩, nmX3⟩
theorem fl_RX3_13 : k_FL RX3 13 2 1 := ⟨(RX3, TX3, 16), "WheelCity$Land", rfl, by decide, iu_2, Or.inl (List.mem_of_getElem? (i := 178) (by decide +kernel)), Or.inl rfl⟩
theorem fl_RX3_17 : k_FL RX3 17 2 2 := ⟨(RX3, TX3, 16), "WheelCity$Land", rfl, by decide, iu_2, Or.inl (List.mem_of_getElem? (i := 181) (by decide +kernel)), Or.inl rfl⟩
theorem fl_RX3_20 : k_FL RX3 20 2 3 := ⟨(RX3, TX3, 16), "WheelCity$Land", rfl, by decide, iu_2, Or.inl (List.mem_of_getElem? (i := 184) (by decide +kernel)), Or.inl rfl⟩
theorem fl_RX3_23 : k_FL RX3 23 2 4 := ⟨(RX3, TX3, 16), "WheelCity$Land", rfl, by decide, iu_2, Or.inl (List.mem_of_getElem? (i := 185) (by decide +kernel)), Or.inl rfl⟩
theorem fl_RX3_26 : k_FL RX3 26 2 5 := ⟨(RX3, TX3, 16), "WheelCity$Land", rfl, by decide, iu_2, Or.inl (List.mem_of_getElem? (i := 188) (by decide +kernel)), Or.inl rfl⟩
theorem fl_RX3_29 : k_FL RX3 29 2 6 := ⟨(RX3, TX3, 16), "WheelCity$Land", rfl, by decide, iu_2, Or.inl (List.mem_of_getElem? (i := 190) (by decide +kernel)), Or.inl rfl⟩
theorem fl_RX3_32 : k_FL RX3 32 2 7 := ⟨(RX3, TX3, 16), "WheelCity$Land", rfl, by decide, iu_2, Or.inl (List.mem_of_getElem? (i := 192) (by decide +kernel)), Or.inl rfl⟩
theorem fl_RX3_35 : k_FL RX3 35 2 8 := ⟨(RX3, TX3, 16), "WheelCity$Land", rfl, by decide, iu_2, Or.inl (List.mem_of_getElem? (i := 196) (by decide +kernel)), Or.inl rfl⟩
theorem fl_RX3_38 : k_FL RX3 38 2 9 := ⟨(RX3, TX3, 16), "WheelCity$Land", rfl, by decide, iu_2, Or.inl (List.mem_of_getElem? (i := 199) (by decide +kernel)), Or.inl rfl⟩
theorem fl_RX3_41 : k_FL RX3 41 2 10 := ⟨(RX3, TX3, 16), "WheelCity$Land", rfl, by decide, iu_2, Or.inl (List.mem_of_getElem? (i := 202) (by decide +kernel)), Or.inl rfl⟩
theorem fl_RX3_44 : k_FL RX3 44 2 11 := ⟨(RX3, TX3, 16), "WheelCity$Land", rfl, by decide, iu_2, Or.inl (List.mem_of_getElem? (i := 205) (by decide +kernel)), Or.inl rfl⟩
theorem fl_RX3_47 : k_FL RX3 47 2 12 := ⟨(RX3, TX3, 16), "WheelCity$Land", rfl, by decide, iu_2, Or.inl (List.mem_of_getElem? (i := 206) (by decide +kernel)), Or.inl rfl⟩
theorem fl_RX3_50 : k_FL RX3 50 2 13 := ⟨(RX3, TX3, 16), "WheelCity$Land", rfl, by decide, iu_2, Or.inl (List.mem_of_getElem? (i := 209) (by decide +kernel)), Or.inl rfl⟩
theorem fl_RX3_53 : k_FL RX3 53 2 14 := ⟨(RX3, TX3, 16), "WheelCity$Land", rfl, by decide, iu_2, Or.inl (List.mem_of_getElem? (i := 211) (by decide +kernel)), Or.inl rfl⟩
theorem fl_RX3_56 : k_FL RX3 56 2 15 := ⟨(RX3, TX3, 16), "WheelCity$Land", rfl, by decide, iu_2, Or.inl (List.mem_of_getElem? (i := 212) (by decide +kernel)), Or.inl rfl⟩
theorem fl_RX3_7 : k_FL RX3 7 2 0 := ⟨(RX3, TX3, 16), "WheelCity$Land", rfl, by decide, iu_2, Or.inl (List.mem_of_getElem? (i := 174) (by decide +kernel)), Or.inl rfl⟩
theorem pt_2_0 : k_cls 2 0 .int := fun r hr => by cases hr; exact ⟨rfl, by decide +kernel⟩
theorem pt_2_7 : k_cls 2 7 .int := fun r hr => by cases hr; exact ⟨rfl, by decide +kernel⟩
theorem cy_J7_fill_53178 : k_cy yJ7_fill_53178 cJ7_fill_53178 4 none 2 := ⟨List.mem_of_getElem? (i := 736) (by decide +kernel), List.mem_of_getElem? (i := 120) (by decide +kernel), ⟨by decide +kernel, by decide +kernel⟩, by decide +kernel⟩
theorem cy_X3_copy : k_cy yX3_copy cX3_copy 2 none 2 := ⟨List.mem_of_getElem? (i := 520) (by decide +kernel), List.mem_of_getElem? (i := 110) (by decide +kernel), ⟨by decide +kernel, by decide +kernel⟩, by decide +kernel⟩
theorem cy_X3_farEnd : k_cy yX3_farEnd cX3_farEnd 3 (some .int) 2 := ⟨List.mem_of_getElem? (i := 641) (by decide +kernel), List.mem_of_getElem? (i := 110) (by decide +kernel), ⟨by decide +kernel, by decide +kernel⟩, by decide +kernel⟩
theorem cy_X3_isEndless : k_cy yX3_isEndless cX3_isEndless 1 (some .boolean) 1 := ⟨List.mem_of_getElem? (i := 508) (by decide +kernel), List.mem_of_getElem? (i := 110) (by decide +kernel), ⟨by decide +kernel, by decide +kernel⟩, by decide +kernel⟩
theorem cy_X3_join : k_cy yX3_join cX3_join 3 none 2 := ⟨List.mem_of_getElem? (i := 491) (by decide +kernel), List.mem_of_getElem? (i := 110) (by decide +kernel), ⟨by decide +kernel, by decide +kernel⟩, by decide +kernel⟩
theorem cy_X3_measure : k_cy yX3_measure cX3_measure 7 none 2 := ⟨List.mem_of_getElem? (i := 733) (by decide +kernel), List.mem_of_getElem? (i := 110) (by decide +kernel), ⟨by decide +kernel, by decide +kernel⟩, by decide +kernel⟩
theorem lk_RX3_59 : k_lk RX3 59 yX3_isEndless := Or.inl (List.mem_of_getElem? (i := 513) (by decide +kernel))
theorem lk_RX3_63 : k_lk RX3 63 yX3_join := Or.inl (List.mem_of_getElem? (i := 488) (by decide +kernel))
theorem lk_RX3_67 : k_lk RX3 67 yX3_copy := Or.inl (List.mem_of_getElem? (i := 518) (by decide +kernel))
theorem lk_RX3_83 : k_lk RX3 83 yJ7_fill_53178 := Or.inl (List.mem_of_getElem? (i := 734) (by decide +kernel))
theorem lk_RX3_89 : k_lk RX3 89 yX3_measure := Or.inl (List.mem_of_getElem? (i := 730) (by decide +kernel))
theorem lk_RX3_99 : k_lk RX3 99 yX3_farEnd := Or.inl (List.mem_of_getElem? (i := 892) (by decide +kernel))
theorem im_X3_farEnd : Cond.instanceMethod yX3_farEnd ∈ lw_tbl := List.mem_of_getElem? (i := 640) (by decide +kernel)
theorem im_X3_join : Cond.instanceMethod yX3_join ∈ lw_tbl := List.mem_of_getElem? (i := 490) (by decide +kernel)
theorem im_X3_measure : Cond.instanceMethod yX3_measure ∈ lw_tbl := List.mem_of_getElem? (i := 732) (by decide +kernel)
theorem se_X3_farEnd : Cond.selects yX3_farEnd.cls yX3_farEnd yX3_farEnd ∈ lw_tbl := List.mem_of_getElem? (i := 32) (by decide +kernel)
theorem se_X3_join : Cond.selects yX3_join.cls yX3_join yX3_join ∈ lw_tbl := List.mem_of_getElem? (i := 14) (by decide +kernel)
theorem se_X3_measure : Cond.selects yX3_measure.cls yX3_measure yX3_measure ∈ lw_tbl := List.mem_of_getElem? (i := 40) (by decide +kernel)
theorem stt_J7_fill_53178 : Cond.static yJ7_fill_53178 ∈ lw_tbl := List.mem_of_getElem? (i := 735) (by decide +kernel)
theorem stt_X3_copy : Cond.static yX3_copy ∈ lw_tbl := List.mem_of_getElem? (i := 519) (by decide +kernel)
theorem stt_X3_isEndless : Cond.static yX3_isEndless ∈ lw_tbl := List.mem_of_getElem? (i := 507) (by decide +kernel)
theorem ml_RX3_71 : Cond.methodLink RX3 71 Lib.Math.min.name ∈ lw_tbl := List.mem_of_getElem? (i := 521) (by decide +kernel)
theorem ml_RX3_93 : Cond.methodLink RX3 93 Lib.Math.max.name ∈ lw_tbl := List.mem_of_getElem? (i := 745) (by decide +kernel)
theorem ac_RX3_77 : Cond.methodLink RX3 77 arraycopyName ∈ lw_tbl := List.mem_of_getElem? (i := 524) (by decide +kernel)
theorem gs_RX3_96 : Cond.fieldLink RX3 96 (k_stN 2).1 (k_stN 2).2.1 "[I" ∈ lw_tbl ∨ Cond.fieldLinkNest RX3 96 (k_stN 2).1 (k_stN 2).2.1 "[I" "WheelCity" ∈ lw_tbl := Or.inl (List.mem_of_getElem? (i := 887) (by decide +kernel))
theorem dt_J7_fill_53178_0 : k_dec cJ7_fill_53178 [(0, .iconst 0, 1), (1, .istore_n 2, 1), (2, .aload_n 0, 1), (3, .arraylength, 1), (4, .istore_n 3, 1), (5, .iload_n 2, 1), (6, .iload_n 3, 1), (7, .if_icmp .ge 13, 3), (10, .aload_n 0, 1), (11, .iload_n 2, 1), (12, .iload_n 1, 1), (13, .iastore, 1), (14, .iinc 2 1, 3), (17, .goto (-12), 3), (20, .return_, 1)] = true := by decide +kernel
def f_J7_fill_53178_5 (a1 : Nat) (n1 : Nat) : Nat → Int32 → Int32 → Int32 → k_M → (k_M → Option (Unit × k_M)) → Option (Unit × k_M)
  | 0, _, _, _, _, _ => none
  | n + 1, l1, l2, l3, M, kx20 => if l3 ≤ l2 then kx20 M else wrI M a1 n1 l2 l1 (fun M1 => f_J7_fill_53178_5 a1 n1 n l1 (l2 + 1) l3 M1 kx20)
theorem m_J7_fill_53178_5 {Z : k_Z} {G : k_G} {a1 : Nat} {n1 : Nat} (C : k_C Z G RJ7 cJ7_fill_53178 (true, 4, 1, 0, 0) none "fill") (ha1 : k_st a1 = (11, n1)) (kx20 : k_M → Option (Unit × k_M)) (Hx20 : ∀ (M : k_M), Sm Z G emV (true, 4, 1, 0, 0) (0, 0) 20 [] [] M (kx20 M)) : ∀ (n : Nat) (l1 : Int32) (l2 : Int32) (l3 : Int32) (M : k_M), Sm Z G emV (true, 4, 1, 0, 0) (0, 0) 5 [(0, k_ra Z a1), (1, Value.int l1), (2, Value.int l2), (3, Value.int l3)] [] M (f_J7_fill_53178_5 a1 n1 n l1 l2 l3 M kx20)
  | 0, _, _, _, _ => x_none
  | n + 1, l1, l2, l3, M => by
    have ih := m_J7_fill_53178_5 C ha1 kx20 Hx20 n
    show Sm Z G emV _ _ _ _ _ _ (if l3 ≤ l2 then kx20 M else wrI M a1 n1 l2 l1 (fun M1 => f_J7_fill_53178_5 a1 n1 n l1 (l2 + 1) l3 M1 kx20))
    refine x_iload_n C (k_dg dt_J7_fill_53178_0 5 5 (.iload_n 2) 1 rfl) 2 rfl ?_
    refine x_iload_n C (k_dg dt_J7_fill_53178_0 6 6 (.iload_n 3) 1 rfl) 3 rfl ?_
    refine x_icmp_ge C (tgt := 20) (k_dg dt_J7_fill_53178_0 7 7 (.if_icmp .ge 13) 3 rfl) (by decide) (fun _ => ?_) (fun _ => ?_)
    · refine x_lv [] rfl ?_
      exact Hx20 M
    · refine x_aload_n C (k_dg dt_J7_fill_53178_0 8 10 (.aload_n 0) 1 rfl) 0 rfl ?_
      refine x_iload_n C (k_dg dt_J7_fill_53178_0 9 11 (.iload_n 2) 1 rfl) 2 rfl ?_
      refine x_iload_n C (k_dg dt_J7_fill_53178_0 10 12 (.iload_n 1) 1 rfl) 1 rfl ?_
      refine x_iast C (a := a1) (n := n1) rfl ha1 (k_dg dt_J7_fill_53178_0 11 13 (.iastore) 1 rfl) (fun M1 => ?_)
      refine x_iinc C (v := 1) (lv' := [(2, Value.int (l2 + 1)), (0, k_ra Z a1), (1, Value.int l1), (3, Value.int l3)]) (k_dg dt_J7_fill_53178_0 12 14 (.iinc 2 1) 3 rfl) 2 rfl (by decide) (by decide) rfl ?_
      refine x_goto C (tgt := 5) (k_dg dt_J7_fill_53178_0 13 17 (.goto (-12)) 3 rfl) (by decide) ?_
      refine x_lv [1, 2, 0, 3] rfl ?_
      exact ih l1 (l2 + 1) l3 M1
def f_J7_fill_53178_20 (a1 : Nat) (n1 : Nat) (M : k_M) : Option (Unit × k_M) := some ((), M)
theorem m_J7_fill_53178_20 {Z : k_Z} {G : k_G} {a1 : Nat} {n1 : Nat} (C : k_C Z G RJ7 cJ7_fill_53178 (true, 4, 1, 0, 0) none "fill") (ha1 : k_st a1 = (11, n1)) (M : k_M) : Sm Z G emV (true, 4, 1, 0, 0) (0, 0) 20 [] [] M (f_J7_fill_53178_20 a1 n1 M) := by
  show Sm Z G emV _ _ _ _ _ _ (some ((), M))
  exact x_vret C (by decide) (by decide) (k_dg dt_J7_fill_53178_0 14 20 (.return_) 1 rfl)
def f_J7_fill_53178 (a1 : Nat) (n1 : Nat) (p2 : Int32) (M : k_M) : Option (Unit × k_M) := bN (Int32.ofNat n1) (fun v1 => f_J7_fill_53178_5 a1 n1 k_fu p2 0 v1 M (fun M_ => f_J7_fill_53178_20 a1 n1 M_))
theorem m_J7_fill_53178_0 {Z : k_Z} {G : k_G} {a1 : Nat} {n1 : Nat} (C : k_C Z G RJ7 cJ7_fill_53178 (true, 4, 1, 0, 0) none "fill") (ha1 : k_st a1 = (11, n1)) (p2 : Int32) (M : k_M) : Sm Z G emV (true, 4, 1, 0, 0) (0, 0) 0 [(0, k_ra Z a1), (1, Value.int p2)] [] M (f_J7_fill_53178 a1 n1 p2 M) := by
  show Sm Z G emV _ _ _ _ _ _ (bN (Int32.ofNat n1) (fun v1 => f_J7_fill_53178_5 a1 n1 k_fu p2 0 v1 M (fun M_ => f_J7_fill_53178_20 a1 n1 M_)))
  refine x_iconst C (v := 0) (k_dg dt_J7_fill_53178_0 0 0 (.iconst 0) 1 rfl) (by decide) ?_
  refine x_istore_n C (lv' := [(2, Value.int 0), (0, k_ra Z a1), (1, Value.int p2)]) (k_dg dt_J7_fill_53178_0 1 1 (.istore_n 2) 1 rfl) (by decide) rfl ?_
  refine x_aload_n C (k_dg dt_J7_fill_53178_0 2 2 (.aload_n 0) 1 rfl) 1 rfl ?_
  refine x_ilen C (a := a1) (v := Int32.ofNat n1) rfl ha1 rfl (k_dg dt_J7_fill_53178_0 3 3 (.arraylength) 1 rfl) ?_
  refine x_nm (w := Value.int) (fun v1 _ => ?_)
  refine x_istore_n C (lv' := [(3, Value.int v1), (2, Value.int 0), (0, k_ra Z a1), (1, Value.int p2)]) (k_dg dt_J7_fill_53178_0 4 4 (.istore_n 3) 1 rfl) (by decide) rfl ?_
  refine x_lv [2, 3, 1, 0] rfl ?_
  exact m_J7_fill_53178_5 C ha1 (fun M_ => f_J7_fill_53178_20 a1 n1 M_) (fun M_ => m_J7_fill_53178_20 C ha1 M_) k_fu p2 0 v1 M
theorem c_J7_fill_53178 {Z : k_Z} (hg : k_Gd Z) (l : Launch) (a1 : Nat) (n1 : Nat) (p2 : Int32) (M : k_M) (ha1 : k_st a1 = (11, n1)) : Con true Z l yJ7_fill_53178 cJ7_fill_53178 4 none 1 0 0 emV [k_ra Z a1, Value.int p2] M (f_J7_fill_53178 a1 n1 p2 M) := k_con hg (by decide) (Nat.le_of_ble_eq_true rfl) (fun G hl C => m_J7_fill_53178_0 C ha1 p2 M)
theorem dt_J7_fill_d0a16_0 : k_dec cJ7_fill_d0a16 [(0, .iconst 0, 1), (1, .istore_n 3, 1), (2, .aload_n 0, 1), (3, .arraylength, 1), (4, .istore 4, 2), (6, .iload_n 3, 1), (7, .iload 4, 2), (9, .if_icmp .ge 13, 3), (12, .aload_n 0, 1), (13, .iload_n 3, 1), (14, .lload_n 1, 1), (15, .lastore, 1), (16, .iinc 3 1, 3), (19, .goto (-13), 3), (22, .return_, 1)] = true := by decide +kernel
def f_J7_fill_d0a16_6 (a1 : Nat) (n1 : Nat) : Nat → Int64 → Int32 → Int32 → k_M → (k_M → Option (Unit × k_M)) → Option (Unit × k_M)
  | 0, _, _, _, _, _ => none
  | n + 1, l1, l3, l4, M, kx22 => if l4 ≤ l3 then kx22 M else wrJ M a1 n1 l3 l1 (fun M1 => f_J7_fill_d0a16_6 a1 n1 n l1 (l3 + 1) l4 M1 kx22)
theorem m_J7_fill_d0a16_6 {Z : k_Z} {G : k_G} {a1 : Nat} {n1 : Nat} (C : k_C Z G RJ7 cJ7_fill_d0a16 (true, 5, 1, 0, 0) none "fill") (ha1 : k_st a1 = (12, n1)) (kx22 : k_M → Option (Unit × k_M)) (Hx22 : ∀ (M : k_M), Sm Z G emV (true, 5, 1, 0, 0) (0, 0) 22 [] [] M (kx22 M)) : ∀ (n : Nat) (l1 : Int64) (l3 : Int32) (l4 : Int32) (M : k_M), Sm Z G emV (true, 5, 1, 0, 0) (0, 0) 6 [(0, k_ra Z a1), (1, Value.long l1), (3, Value.int l3), (4, Value.int l4)] [] M (f_J7_fill_d0a16_6 a1 n1 n l1 l3 l4 M kx22)
  | 0, _, _, _, _ => x_none
  | n + 1, l1, l3, l4, M => by
    have ih := m_J7_fill_d0a16_6 C ha1 kx22 Hx22 n
    show Sm Z G emV _ _ _ _ _ _ (if l4 ≤ l3 then kx22 M else wrJ M a1 n1 l3 l1 (fun M1 => f_J7_fill_d0a16_6 a1 n1 n l1 (l3 + 1) l4 M1 kx22))
    refine x_iload_n C (k_dg dt_J7_fill_d0a16_0 5 6 (.iload_n 3) 1 rfl) 2 rfl ?_
    refine x_iload C (k_dg dt_J7_fill_d0a16_0 6 7 (.iload 4) 2 rfl) 3 rfl ?_
    refine x_icmp_ge C (tgt := 22) (k_dg dt_J7_fill_d0a16_0 7 9 (.if_icmp .ge 13) 3 rfl) (by decide) (fun _ => ?_) (fun _ => ?_)
    · refine x_lv [] rfl ?_
      exact Hx22 M
    · refine x_aload_n C (k_dg dt_J7_fill_d0a16_0 8 12 (.aload_n 0) 1 rfl) 0 rfl ?_
      refine x_iload_n C (k_dg dt_J7_fill_d0a16_0 9 13 (.iload_n 3) 1 rfl) 2 rfl ?_
      refine x_lload_n C (k_dg dt_J7_fill_d0a16_0 10 14 (.lload_n 1) 1 rfl) 1 rfl ?_
      refine x_last C (a := a1) (n := n1) rfl ha1 (k_dg dt_J7_fill_d0a16_0 11 15 (.lastore) 1 rfl) (fun M1 => ?_)
      refine x_iinc C (v := 1) (lv' := [(3, Value.int (l3 + 1)), (0, k_ra Z a1), (1, Value.long l1), (4, Value.int l4)]) (k_dg dt_J7_fill_d0a16_0 12 16 (.iinc 3 1) 3 rfl) 2 rfl (by decide) (by decide) rfl ?_
      refine x_goto C (tgt := 6) (k_dg dt_J7_fill_d0a16_0 13 19 (.goto (-13)) 3 rfl) (by decide) ?_
      refine x_lv [1, 2, 0, 3] rfl ?_
      exact ih l1 (l3 + 1) l4 M1
def f_J7_fill_d0a16_22 (a1 : Nat) (n1 : Nat) (M : k_M) : Option (Unit × k_M) := some ((), M)
theorem m_J7_fill_d0a16_22 {Z : k_Z} {G : k_G} {a1 : Nat} {n1 : Nat} (C : k_C Z G RJ7 cJ7_fill_d0a16 (true, 5, 1, 0, 0) none "fill") (ha1 : k_st a1 = (12, n1)) (M : k_M) : Sm Z G emV (true, 5, 1, 0, 0) (0, 0) 22 [] [] M (f_J7_fill_d0a16_22 a1 n1 M) := by
  show Sm Z G emV _ _ _ _ _ _ (some ((), M))
  exact x_vret C (by decide) (by decide) (k_dg dt_J7_fill_d0a16_0 14 22 (.return_) 1 rfl)
def f_J7_fill_d0a16 (a1 : Nat) (n1 : Nat) (p2 : Int64) (M : k_M) : Option (Unit × k_M) := bN (Int32.ofNat n1) (fun v1 => f_J7_fill_d0a16_6 a1 n1 k_fu p2 0 v1 M (fun M_ => f_J7_fill_d0a16_22 a1 n1 M_))
theorem m_J7_fill_d0a16_0 {Z : k_Z} {G : k_G} {a1 : Nat} {n1 : Nat} (C : k_C Z G RJ7 cJ7_fill_d0a16 (true, 5, 1, 0, 0) none "fill") (ha1 : k_st a1 = (12, n1)) (p2 : Int64) (M : k_M) : Sm Z G emV (true, 5, 1, 0, 0) (0, 0) 0 [(0, k_ra Z a1), (1, Value.long p2)] [] M (f_J7_fill_d0a16 a1 n1 p2 M) := by
  show Sm Z G emV _ _ _ _ _ _ (bN (Int32.ofNat n1) (fun v1 => f_J7_fill_d0a16_6 a1 n1 k_fu p2 0 v1 M (fun M_ => f_J7_fill_d0a16_22 a1 n1 M_)))
  refine x_iconst C (v := 0) (k_dg dt_J7_fill_d0a16_0 0 0 (.iconst 0) 1 rfl) (by decide) ?_
  refine x_istore_n C (lv' := [(3, Value.int 0), (0, k_ra Z a1), (1, Value.long p2)]) (k_dg dt_J7_fill_d0a16_0 1 1 (.istore_n 3) 1 rfl) (by decide) rfl ?_
  refine x_aload_n C (k_dg dt_J7_fill_d0a16_0 2 2 (.aload_n 0) 1 rfl) 1 rfl ?_
  refine x_llen C (a := a1) (v := Int32.ofNat n1) rfl ha1 rfl (k_dg dt_J7_fill_d0a16_0 3 3 (.arraylength) 1 rfl) ?_
  refine x_nm (w := Value.int) (fun v1 _ => ?_)
  refine x_istore C (lv' := [(4, Value.int v1), (3, Value.int 0), (0, k_ra Z a1), (1, Value.long p2)]) (k_dg dt_J7_fill_d0a16_0 4 4 (.istore 4) 2 rfl) (by decide) rfl ?_
  refine x_lv [2, 3, 1, 0] rfl ?_
  exact m_J7_fill_d0a16_6 C ha1 (fun M_ => f_J7_fill_d0a16_22 a1 n1 M_) (fun M_ => m_J7_fill_d0a16_22 C ha1 M_) k_fu p2 0 v1 M
theorem c_J7_fill_d0a16 {Z : k_Z} (hg : k_Gd Z) (l : Launch) (a1 : Nat) (n1 : Nat) (p2 : Int64) (M : k_M) (ha1 : k_st a1 = (12, n1)) : Con true Z l yJ7_fill_d0a16 cJ7_fill_d0a16 5 none 1 0 0 emV [k_ra Z a1, Value.long p2] M (f_J7_fill_d0a16 a1 n1 p2 M) := k_con hg (by decide) (Nat.le_of_ble_eq_true rfl) (fun G hl C => m_J7_fill_d0a16_0 C ha1 p2 M)
theorem dt_X3_isEndless_0 : k_dec cX3_isEndless [(0, .iload_n 0, 1), (1, .iconst 1, 1), (2, .if_icmp .eq 8, 3), (5, .iload_n 0, 1), (6, .iconst 4, 1), (7, .if_icmp .ne 7, 3), (10, .iconst 1, 1), (11, .goto 4, 3), (14, .iconst 0, 1), (15, .ireturn, 1)] = true := by decide +kernel
def f_X3_isEndless_10 (M : k_M) : Option (Int32 × k_M) := some (1, M)
theorem m_X3_isEndless_10 {Z : k_Z} {G : k_G} (C : k_C Z G RX3 cX3_isEndless (true, 1, 1, 0, 0) (some .boolean) "isEndless") (M : k_M) : Sm Z G emI (true, 1, 1, 0, 0) (0, 0) 10 [] [] M (f_X3_isEndless_10 M) := by
  show Sm Z G emI _ _ _ _ _ _ (some (1, M))
  refine x_iconst C (v := 1) (k_dg dt_X3_isEndless_0 6 10 (.iconst 1) 1 rfl) (by decide) ?_
  refine x_goto C (tgt := 15) (k_dg dt_X3_isEndless_0 7 11 (.goto 4) 3 rfl) (by decide) ?_
  exact x_zret C (by decide) (by decide) rfl (k_dg dt_X3_isEndless_0 9 15 (.ireturn) 1 rfl)
def f_X3_isEndless (p1 : Int32) (M : k_M) : Option (Int32 × k_M) := if p1 = 1 then f_X3_isEndless_10 M else if p1 = 4 then f_X3_isEndless_10 M else some (0, M)
theorem m_X3_isEndless_0 {Z : k_Z} {G : k_G} (C : k_C Z G RX3 cX3_isEndless (true, 1, 1, 0, 0) (some .boolean) "isEndless") (p1 : Int32) (M : k_M) : Sm Z G emI (true, 1, 1, 0, 0) (0, 0) 0 [(0, Value.int p1)] [] M (f_X3_isEndless p1 M) := by
  show Sm Z G emI _ _ _ _ _ _ (if p1 = 1 then f_X3_isEndless_10 M else if p1 = 4 then f_X3_isEndless_10 M else some (0, M))
  refine x_iload_n C (k_dg dt_X3_isEndless_0 0 0 (.iload_n 0) 1 rfl) 0 rfl ?_
  refine x_iconst C (v := 1) (k_dg dt_X3_isEndless_0 1 1 (.iconst 1) 1 rfl) (by decide) ?_
  refine x_icmp_eq C (tgt := 10) (k_dg dt_X3_isEndless_0 2 2 (.if_icmp .eq 8) 3 rfl) (by decide) (fun _ => ?_) (fun _ => ?_)
  · refine x_lv [] rfl ?_
    exact m_X3_isEndless_10 C M
  · refine x_iload_n C (k_dg dt_X3_isEndless_0 3 5 (.iload_n 0) 1 rfl) 0 rfl ?_
    refine x_iconst C (v := 4) (k_dg dt_X3_isEndless_0 4 6 (.iconst 4) 1 rfl) (by decide) ?_
    refine x_icmp_ne C (tgt := 14) (k_dg dt_X3_isEndless_0 5 7 (.if_icmp .ne 7) 3 rfl) (by decide) (fun _ => ?_) (fun _ => ?_)
    · refine x_lv [] rfl ?_
      exact m_X3_isEndless_10 C M
    · refine x_iconst C (v := 0) (k_dg dt_X3_isEndless_0 8 14 (.iconst 0) 1 rfl) (by decide) ?_
      exact x_zret C (by decide) (by decide) rfl (k_dg dt_X3_isEndless_0 9 15 (.ireturn) 1 rfl)
theorem c_X3_isEndless {Z : k_Z} (hg : k_Gd Z) (l : Launch) (p1 : Int32) (M : k_M) : Con true Z l yX3_isEndless cX3_isEndless 1 (some .boolean) 1 0 0 emI [Value.int p1] M (f_X3_isEndless p1 M) := k_con hg (by decide) (Nat.le_of_ble_eq_true rfl) (fun G hl C => m_X3_isEndless_0 C p1 M)
theorem dt_X3_clear_0 : k_dec cX3_clear [(0, .aload_n 0, 1), (1, .iconst 0, 1), (2, .putfield 7, 3), (5, .aload_n 0, 1), (6, .iconst 0, 1), (7, .putfield 32, 3), (10, .return_, 1)] = true := by decide +kernel
def f_X3_clear (w : Nat) (M : k_M) : Option (Unit × k_M) := bN (sI M (w + 1) 0 0) (fun M1 => bN (sI M1 (w + 1) 7 0) (fun M2 => some ((), M2)))
theorem m_X3_clear_0 {Z : k_Z} {G : k_G} {w : Nat} (C : k_C Z G RX3 cX3_clear (true, 1, 1, 0, 0) none "clear") (hw : isW w) (M : k_M) : Sm Z G emV (true, 1, 1, 0, 0) (0, 0) 0 [(0, k_ra Z (w + 1))] [] M (f_X3_clear w M) := by
  show Sm Z G emV _ _ _ _ _ _ (bN (sI M (w + 1) 0 0) (fun M1 => bN (sI M1 (w + 1) 7 0) (fun M2 => some ((), M2))))
  refine x_aload_n C (k_dg dt_X3_clear_0 0 0 (.aload_n 0) 1 rfl) 0 rfl ?_
  refine x_iconst C (v := 0) (k_dg dt_X3_clear_0 1 1 (.iconst 0) 1 rfl) (by decide) ?_
  refine x_putI C (a := w + 1) (j := 0) rfl (kW 1 hw rfl) (by decide) fl_RX3_7 rfl pt_2_0 tb_2 rfl rfl (k_dg dt_X3_clear_0 2 2 (.putfield 7) 3 rfl) (fun M1 => ?_)
  refine x_aload_n C (k_dg dt_X3_clear_0 3 5 (.aload_n 0) 1 rfl) 0 rfl ?_
  refine x_iconst C (v := 0) (k_dg dt_X3_clear_0 4 6 (.iconst 0) 1 rfl) (by decide) ?_
  refine x_putI C (a := w + 1) (j := 7) rfl (kW 1 hw rfl) (by decide) fl_RX3_32 rfl pt_2_7 tb_2 rfl rfl (k_dg dt_X3_clear_0 5 7 (.putfield 32) 3 rfl) (fun M2 => ?_)
  exact x_vret C (by decide) (by decide) (k_dg dt_X3_clear_0 6 10 (.return_) 1 rfl)
theorem c_X3_clear {Z : k_Z} (hg : k_Gd Z) (l : Launch) (w : Nat) (M : k_M) (hw : isW w) : Con true Z l yX3_clear cX3_clear 1 none 1 0 0 emV [k_ra Z (w + 1)] M (f_X3_clear w M) := k_con hg (by decide) (Nat.le_of_ble_eq_true rfl) (fun G hl C => m_X3_clear_0 C hw M)
theorem dt_X3_hasPlace_0 : k_dec cX3_hasPlace [(0, .iload_n 1, 1), (1, .ifCond .lt 15, 3), (4, .iload_n 1, 1), (5, .aload_n 0, 1), (6, .getfield 7, 3), (9, .if_icmp .ge 7, 3), (12, .iconst 1, 1), (13, .goto 4, 3), (16, .iconst 0, 1), (17, .ireturn, 1)] = true := by decide +kernel
def f_X3_hasPlace (w : Nat) (p1 : Int32) (M : k_M) : Option (Int32 × k_M) := if p1 < 0 then some (0, M) else if (M.1 (w + 1) 0) ≤ p1 then some (0, M) else some (1, M)
theorem m_X3_hasPlace_0 {Z : k_Z} {G : k_G} {w : Nat} (C : k_C Z G RX3 cX3_hasPlace (true, 2, 1, 0, 0) (some .boolean) "hasPlace") (hw : isW w) (p1 : Int32) (M : k_M) : Sm Z G emI (true, 2, 1, 0, 0) (0, 0) 0 [(0, k_ra Z (w + 1)), (1, Value.int p1)] [] M (f_X3_hasPlace w p1 M) := by
  show Sm Z G emI _ _ _ _ _ _ (if p1 < 0 then some (0, M) else if (M.1 (w + 1) 0) ≤ p1 then some (0, M) else some (1, M))
  refine x_iload_n C (k_dg dt_X3_hasPlace_0 0 0 (.iload_n 1) 1 rfl) 1 rfl ?_
  refine x_if_lt C (tgt := 16) (k_dg dt_X3_hasPlace_0 1 1 (.ifCond .lt 15) 3 rfl) (by decide) (fun _ => ?_) (fun _ => ?_)
  · refine x_iconst C (v := 0) (k_dg dt_X3_hasPlace_0 8 16 (.iconst 0) 1 rfl) (by decide) ?_
    exact x_zret C (by decide) (by decide) rfl (k_dg dt_X3_hasPlace_0 9 17 (.ireturn) 1 rfl)
  · refine x_iload_n C (k_dg dt_X3_hasPlace_0 2 4 (.iload_n 1) 1 rfl) 1 rfl ?_
    refine x_aload_n C (k_dg dt_X3_hasPlace_0 3 5 (.aload_n 0) 1 rfl) 0 rfl ?_
    refine x_getI C (a := w + 1) (j := 0) rfl (kW 1 hw rfl) (by decide) fl_RX3_7 rfl (k_dg dt_X3_hasPlace_0 4 6 (.getfield 7) 3 rfl) ?_
    refine x_icmp_ge C (tgt := 16) (k_dg dt_X3_hasPlace_0 5 9 (.if_icmp .ge 7) 3 rfl) (by decide) (fun _ => ?_) (fun _ => ?_)
    · refine x_iconst C (v := 0) (k_dg dt_X3_hasPlace_0 8 16 (.iconst 0) 1 rfl) (by decide) ?_
      exact x_zret C (by decide) (by decide) rfl (k_dg dt_X3_hasPlace_0 9 17 (.ireturn) 1 rfl)
    · refine x_iconst C (v := 1) (k_dg dt_X3_hasPlace_0 6 12 (.iconst 1) 1 rfl) (by decide) ?_
      refine x_goto C (tgt := 17) (k_dg dt_X3_hasPlace_0 7 13 (.goto 4) 3 rfl) (by decide) ?_
      exact x_zret C (by decide) (by decide) rfl (k_dg dt_X3_hasPlace_0 9 17 (.ireturn) 1 rfl)
theorem c_X3_hasPlace {Z : k_Z} (hg : k_Gd Z) (l : Launch) (w : Nat) (p1 : Int32) (M : k_M) (hw : isW w) : Con true Z l yX3_hasPlace cX3_hasPlace 2 (some .boolean) 1 0 0 emI [k_ra Z (w + 1), Value.int p1] M (f_X3_hasPlace w p1 M) := k_con hg (by decide) (Nat.le_of_ble_eq_true rfl) (fun G hl C => m_X3_hasPlace_0 C hw p1 M)
theorem dt_X3_hasWay_0 : k_dec cX3_hasWay [(0, .iload_n 1, 1), (1, .ifCond .lt 15, 3), (4, .iload_n 1, 1), (5, .aload_n 0, 1), (6, .getfield 32, 3), (9, .if_icmp .ge 7, 3), (12, .iconst 1, 1), (13, .goto 4, 3), (16, .iconst 0, 1), (17, .ireturn, 1)] = true := by decide +kernel
def f_X3_hasWay (w : Nat) (p1 : Int32) (M : k_M) : Option (Int32 × k_M) := if p1 < 0 then some (0, M) else if (M.1 (w + 1) 7) ≤ p1 then some (0, M) else some (1, M)
theorem m_X3_hasWay_0 {Z : k_Z} {G : k_G} {w : Nat} (C : k_C Z G RX3 cX3_hasWay (true, 2, 1, 0, 0) (some .boolean) "hasWay") (hw : isW w) (p1 : Int32) (M : k_M) : Sm Z G emI (true, 2, 1, 0, 0) (0, 0) 0 [(0, k_ra Z (w + 1)), (1, Value.int p1)] [] M (f_X3_hasWay w p1 M) := by
  show Sm Z G emI _ _ _ _ _ _ (if p1 < 0 then some (0, M) else if (M.1 (w + 1) 7) ≤ p1 then some (0, M) else some (1, M))
  refine x_iload_n C (k_dg dt_X3_hasWay_0 0 0 (.iload_n 1) 1 rfl) 1 rfl ?_
  refine x_if_lt C (tgt := 16) (k_dg dt_X3_hasWay_0 1 1 (.ifCond .lt 15) 3 rfl) (by decide) (fun _ => ?_) (fun _ => ?_)
  · refine x_iconst C (v := 0) (k_dg dt_X3_hasWay_0 8 16 (.iconst 0) 1 rfl) (by decide) ?_
    exact x_zret C (by decide) (by decide) rfl (k_dg dt_X3_hasWay_0 9 17 (.ireturn) 1 rfl)
  · refine x_iload_n C (k_dg dt_X3_hasWay_0 2 4 (.iload_n 1) 1 rfl) 1 rfl ?_
    refine x_aload_n C (k_dg dt_X3_hasWay_0 3 5 (.aload_n 0) 1 rfl) 0 rfl ?_
    refine x_getI C (a := w + 1) (j := 7) rfl (kW 1 hw rfl) (by decide) fl_RX3_32 rfl (k_dg dt_X3_hasWay_0 4 6 (.getfield 32) 3 rfl) ?_
    refine x_icmp_ge C (tgt := 16) (k_dg dt_X3_hasWay_0 5 9 (.if_icmp .ge 7) 3 rfl) (by decide) (fun _ => ?_) (fun _ => ?_)
    · refine x_iconst C (v := 0) (k_dg dt_X3_hasWay_0 8 16 (.iconst 0) 1 rfl) (by decide) ?_
      exact x_zret C (by decide) (by decide) rfl (k_dg dt_X3_hasWay_0 9 17 (.ireturn) 1 rfl)
    · refine x_iconst C (v := 1) (k_dg dt_X3_hasWay_0 6 12 (.iconst 1) 1 rfl) (by decide) ?_
      refine x_goto C (tgt := 17) (k_dg dt_X3_hasWay_0 7 13 (.goto 4) 3 rfl) (by decide) ?_
      exact x_zret C (by decide) (by decide) rfl (k_dg dt_X3_hasWay_0 9 17 (.ireturn) 1 rfl)
theorem c_X3_hasWay {Z : k_Z} (hg : k_Gd Z) (l : Launch) (w : Nat) (p1 : Int32) (M : k_M) (hw : isW w) : Con true Z l yX3_hasWay cX3_hasWay 2 (some .boolean) 1 0 0 emI [k_ra Z (w + 1), Value.int p1] M (f_X3_hasWay w p1 M) := k_con hg (by decide) (Nat.le_of_ble_eq_true rfl) (fun G hl C => m_X3_hasWay_0 C hw p1 M)
theorem dt_X3_canJoin_0 : k_dec cX3_canJoin [(0, .aload_n 0, 1), (1, .getfield 26, 3), (4, .iload_n 1, 1), (5, .iaload, 1), (6, .iconst 4, 1), (7, .if_icmp .ge 7, 3), (10, .iconst 1, 1), (11, .goto 4, 3), (14, .iconst 0, 1), (15, .ireturn, 1)] = true := by decide +kernel
def f_X3_canJoin (w : Nat) (p1 : Int32) (M : k_M) : Option (Int32 × k_M) := rdI M (w + 6) 8 p1 (fun v1 => if 4 ≤ v1 then some (0, M) else some (1, M))
theorem m_X3_canJoin_0 {Z : k_Z} {G : k_G} {w : Nat} (C : k_C Z G RX3 cX3_canJoin (true, 2, 1, 0, 0) (some .boolean) "canJoin") (hw : isW w) (p1 : Int32) (M : k_M) : Sm Z G emI (true, 2, 1, 0, 0) (0, 0) 0 [(0, k_ra Z (w + 1)), (1, Value.int p1)] [] M (f_X3_canJoin w p1 M) := by
  show Sm Z G emI _ _ _ _ _ _ (rdI M (w + 6) 8 p1 (fun v1 => if 4 ≤ v1 then some (0, M) else some (1, M)))
  refine x_aload_n C (k_dg dt_X3_canJoin_0 0 0 (.aload_n 0) 1 rfl) 0 rfl ?_
  refine x_getR C (a := w + 1) (j := 5) (w + 6) rfl (kW 1 hw rfl) (by decide) fl_RX3_26 rfl rfl rfl (k_dg dt_X3_canJoin_0 1 1 (.getfield 26) 3 rfl) ?_
  refine x_iload_n C (k_dg dt_X3_canJoin_0 2 4 (.iload_n 1) 1 rfl) 1 rfl ?_
  refine x_iald C (a := w + 6) (n := 8) rfl (kW 6 hw rfl) (k_dg dt_X3_canJoin_0 3 5 (.iaload) 1 rfl) (fun v1 => ?_)
  refine x_iconst C (v := 4) (k_dg dt_X3_canJoin_0 4 6 (.iconst 4) 1 rfl) (by decide) ?_
  refine x_icmp_ge C (tgt := 14) (k_dg dt_X3_canJoin_0 5 7 (.if_icmp .ge 7) 3 rfl) (by decide) (fun _ => ?_) (fun _ => ?_)
  · refine x_iconst C (v := 0) (k_dg dt_X3_canJoin_0 8 14 (.iconst 0) 1 rfl) (by decide) ?_
    exact x_zret C (by decide) (by decide) rfl (k_dg dt_X3_canJoin_0 9 15 (.ireturn) 1 rfl)
  · refine x_iconst C (v := 1) (k_dg dt_X3_canJoin_0 6 10 (.iconst 1) 1 rfl) (by decide) ?_
    refine x_goto C (tgt := 15) (k_dg dt_X3_canJoin_0 7 11 (.goto 4) 3 rfl) (by decide) ?_
    exact x_zret C (by decide) (by decide) rfl (k_dg dt_X3_canJoin_0 9 15 (.ireturn) 1 rfl)
theorem c_X3_canJoin {Z : k_Z} (hg : k_Gd Z) (l : Launch) (w : Nat) (p1 : Int32) (M : k_M) (hw : isW w) : Con true Z l yX3_canJoin cX3_canJoin 2 (some .boolean) 1 0 0 emI [k_ra Z (w + 1), Value.int p1] M (f_X3_canJoin w p1 M) := k_con hg (by decide) (Nat.le_of_ble_eq_true rfl) (fun G hl C => m_X3_canJoin_0 C hw p1 M)
theorem dt_X3_isOpen_0 : k_dec cX3_isOpen [(0, .aload_n 0, 1), (1, .getfield 50, 3), (4, .iload_n 1, 1), (5, .iaload, 1), (6, .iload_n 2, 1), (7, .ishr, 1), (8, .iconst 1, 1), (9, .iand, 1), (10, .iconst 1, 1), (11, .if_icmp .ne 7, 3), (14, .iconst 1, 1), (15, .goto 4, 3), (18, .iconst 0, 1), (19, .ireturn, 1)] = true := by decide +kernel
def f_X3_isOpen (w : Nat) (p1 : Int32) (p2 : Int32) (M : k_M) : Option (Int32 × k_M) := rdI M (w + 13) 12 p1 (fun v1 => if ((v1 >>> (p2 &&& 31)) &&& 1) = 1 then some (1, M) else some (0, M))
theorem m_X3_isOpen_0 {Z : k_Z} {G : k_G} {w : Nat} (C : k_C Z G RX3 cX3_isOpen (true, 3, 1, 0, 0) (some .boolean) "isOpen") (hw : isW w) (p1 : Int32) (p2 : Int32) (M : k_M) : Sm Z G emI (true, 3, 1, 0, 0) (0, 0) 0 [(0, k_ra Z (w + 1)), (1, Value.int p1), (2, Value.int p2)] [] M (f_X3_isOpen w p1 p2 M) := by
  show Sm Z G emI _ _ _ _ _ _ (rdI M (w + 13) 12 p1 (fun v1 => if ((v1 >>> (p2 &&& 31)) &&& 1) = 1 then some (1, M) else some (0, M)))
  refine x_aload_n C (k_dg dt_X3_isOpen_0 0 0 (.aload_n 0) 1 rfl) 0 rfl ?_
  refine x_getR C (a := w + 1) (j := 13) (w + 13) rfl (kW 1 hw rfl) (by decide) fl_RX3_50 rfl rfl rfl (k_dg dt_X3_isOpen_0 1 1 (.getfield 50) 3 rfl) ?_
  refine x_iload_n C (k_dg dt_X3_isOpen_0 2 4 (.iload_n 1) 1 rfl) 1 rfl ?_
  refine x_iald C (a := w + 13) (n := 12) rfl (kW 13 hw rfl) (k_dg dt_X3_isOpen_0 3 5 (.iaload) 1 rfl) (fun v1 => ?_)
  refine x_iload_n C (k_dg dt_X3_isOpen_0 4 6 (.iload_n 2) 1 rfl) 2 rfl ?_
  refine x_ishr C (k_dg dt_X3_isOpen_0 5 7 (.ishr) 1 rfl) ?_
  refine x_iconst C (v := 1) (k_dg dt_X3_isOpen_0 6 8 (.iconst 1) 1 rfl) (by decide) ?_
  refine x_iand C (k_dg dt_X3_isOpen_0 7 9 (.iand) 1 rfl) ?_
  refine x_iconst C (v := 1) (k_dg dt_X3_isOpen_0 8 10 (.iconst 1) 1 rfl) (by decide) ?_
  refine x_icmp_ne C (tgt := 18) (k_dg dt_X3_isOpen_0 9 11 (.if_icmp .ne 7) 3 rfl) (by decide) (fun _ => ?_) (fun _ => ?_)
  · refine x_iconst C (v := 1) (k_dg dt_X3_isOpen_0 10 14 (.iconst 1) 1 rfl) (by decide) ?_
    refine x_goto C (tgt := 19) (k_dg dt_X3_isOpen_0 11 15 (.goto 4) 3 rfl) (by decide) ?_
    exact x_zret C (by decide) (by decide) rfl (k_dg dt_X3_isOpen_0 13 19 (.ireturn) 1 rfl)
  · refine x_iconst C (v := 0) (k_dg dt_X3_isOpen_0 12 18 (.iconst 0) 1 rfl) (by decide) ?_
    exact x_zret C (by decide) (by decide) rfl (k_dg dt_X3_isOpen_0 13 19 (.ireturn) 1 rfl)
theorem c_X3_isOpen {Z : k_Z} (hg : k_Gd Z) (l : Launch) (w : Nat) (p1 : Int32) (p2 : Int32) (M : k_M) (hw : isW w) : Con true Z l yX3_isOpen cX3_isOpen 3 (some .boolean) 1 0 0 emI [k_ra Z (w + 1), Value.int p1, Value.int p2] M (f_X3_isOpen w p1 p2 M) := k_con hg (by decide) (Nat.le_of_ble_eq_true rfl) (fun G hl C => m_X3_isOpen_0 C hw p1 p2 M)
theorem dt_X3_farEnd_0 : k_dec cX3_farEnd [(0, .aload_n 0, 1), (1, .getfield 35, 3), (4, .iload_n 1, 1), (5, .iaload, 1), (6, .iload_n 2, 1), (7, .if_icmp .ne 12, 3), (10, .aload_n 0, 1), (11, .getfield 38, 3), (14, .iload_n 1, 1), (15, .iaload, 1), (16, .goto 9, 3), (19, .aload_n 0, 1), (20, .getfield 35, 3), (23, .iload_n 1, 1), (24, .iaload, 1), (25, .ireturn, 1)] = true := by decide +kernel
def f_X3_farEnd (w : Nat) (p1 : Int32) (p2 : Int32) (M : k_M) : Option (Int32 × k_M) := rdI M (w + 8) 12 p1 (fun v1 => if v1 = p2 then rdI M (w + 9) 12 p1 (fun v3 => some (v3, M)) else rdI M (w + 8) 12 p1 (fun v2 => some (v2, M)))
theorem m_X3_farEnd_0 {Z : k_Z} {G : k_G} {w : Nat} (C : k_C Z G RX3 cX3_farEnd (true, 3, 1, 0, 0) (some .int) "farEnd") (hw : isW w) (p1 : Int32) (p2 : Int32) (M : k_M) : Sm Z G emI (true, 3, 1, 0, 0) (0, 0) 0 [(0, k_ra Z (w + 1)), (1, Value.int p1), (2, Value.int p2)] [] M (f_X3_farEnd w p1 p2 M) := by
  show Sm Z G emI _ _ _ _ _ _ (rdI M (w + 8) 12 p1 (fun v1 => if v1 = p2 then rdI M (w + 9) 12 p1 (fun v3 => some (v3, M)) else rdI M (w + 8) 12 p1 (fun v2 => some (v2, M))))
  refine x_aload_n C (k_dg dt_X3_farEnd_0 0 0 (.aload_n 0) 1 rfl) 0 rfl ?_
  refine x_getR C (a := w + 1) (j := 8) (w + 8) rfl (kW 1 hw rfl) (by decide) fl_RX3_35 rfl rfl rfl (k_dg dt_X3_farEnd_0 1 1 (.getfield 35) 3 rfl) ?_
  refine x_iload_n C (k_dg dt_X3_farEnd_0 2 4 (.iload_n 1) 1 rfl) 1 rfl ?_
  refine x_iald C (a := w + 8) (n := 12) rfl (kW 8 hw rfl) (k_dg dt_X3_farEnd_0 3 5 (.iaload) 1 rfl) (fun v1 => ?_)
  refine x_iload_n C (k_dg dt_X3_farEnd_0 4 6 (.iload_n 2) 1 rfl) 2 rfl ?_
  refine x_icmp_ne C (tgt := 19) (k_dg dt_X3_farEnd_0 5 7 (.if_icmp .ne 12) 3 rfl) (by decide) (fun _ => ?_) (fun _ => ?_)
  · refine x_aload_n C (k_dg dt_X3_farEnd_0 6 10 (.aload_n 0) 1 rfl) 0 rfl ?_
    refine x_getR C (a := w + 1) (j := 9) (w + 9) rfl (kW 1 hw rfl) (by decide) fl_RX3_38 rfl rfl rfl (k_dg dt_X3_farEnd_0 7 11 (.getfield 38) 3 rfl) ?_
    refine x_iload_n C (k_dg dt_X3_farEnd_0 8 14 (.iload_n 1) 1 rfl) 1 rfl ?_
    refine x_iald C (a := w + 9) (n := 12) rfl (kW 9 hw rfl) (k_dg dt_X3_farEnd_0 9 15 (.iaload) 1 rfl) (fun v3 => ?_)
    refine x_goto C (tgt := 25) (k_dg dt_X3_farEnd_0 10 16 (.goto 9) 3 rfl) (by decide) ?_
    exact x_iret C (by decide) (by decide) (k_dg dt_X3_farEnd_0 15 25 (.ireturn) 1 rfl)
  · refine x_aload_n C (k_dg dt_X3_farEnd_0 11 19 (.aload_n 0) 1 rfl) 0 rfl ?_
    refine x_getR C (a := w + 1) (j := 8) (w + 8) rfl (kW 1 hw rfl) (by decide) fl_RX3_35 rfl rfl rfl (k_dg dt_X3_farEnd_0 12 20 (.getfield 35) 3 rfl) ?_
    refine x_iload_n C (k_dg dt_X3_farEnd_0 13 23 (.iload_n 1) 1 rfl) 1 rfl ?_
    refine x_iald C (a := w + 8) (n := 12) rfl (kW 8 hw rfl) (k_dg dt_X3_farEnd_0 14 24 (.iaload) 1 rfl) (fun v2 => ?_)
    exact x_iret C (by decide) (by decide) (k_dg dt_X3_farEnd_0 15 25 (.ireturn) 1 rfl)
theorem c_X3_farEnd {Z : k_Z} (hg : k_Gd Z) (l : Launch) (w : Nat) (p1 : Int32) (p2 : Int32) (M : k_M) (hw : isW w) : Con true Z l yX3_farEnd cX3_farEnd 3 (some .int) 1 0 0 emI [k_ra Z (w + 1), Value.int p1, Value.int p2] M (f_X3_farEnd w p1 p2 M) := k_con hg (by decide) (Nat.le_of_ble_eq_true rfl) (fun G hl C => m_X3_farEnd_0 C hw p1 p2 M)
theorem dt_X3_addPlace_0 : k_dec cX3_addPlace [(0, .aload_n 0, 1), (1, .getfield 7, 3), (4, .istore 4, 2), (6, .aload_n 0, 1), (7, .getfield 13, 3), (10, .iload 4, 2), (12, .iload_n 1, 1), (13, .iastore, 1), (14, .aload_n 0, 1), (15, .getfield 17, 3), (18, .iload 4, 2), (20, .iload_n 2, 1), (21, .iastore, 1), (22, .aload_n 0, 1), (23, .getfield 20, 3), (26, .iload 4, 2), (28, .iload_n 1, 1), (29, .invokestatic 59, 3), (32, .ifCond .eq 8, 3), (35, .bipush 99, 2), (37, .goto 4, 3), (40, .iload_n 3, 1), (41, .iastore, 1), (42, .aload_n 0, 1), (43, .getfield 23, 3), (46, .iload 4, 2), (48, .aload_n 0, 1), (49, .getfield 20, 3), (52, .iload 4, 2), (54, .iaload, 1), (55, .iastore, 1), (56, .aload_n 0, 1), (57, .getfield 26, 3), (60, .iload 4, 2), (62, .iconst 0, 1), (63, .iastore, 1), (64, .aload_n 0, 1), (65, .dup, 1), (66, .getfield 7, 3), (69, .iconst 1, 1)] = true := by decide +kernel
theorem dt_X3_addPlace_1 : k_dec cX3_addPlace [(70, .iadd, 1), (71, .putfield 7, 3), (74, .iload 4, 2), (76, .ireturn, 1)] = true := by decide +kernel
def f_X3_addPlace_41 (w : Nat) (l4 : Int32) (t1 : Int32) (t2 : Int32) (M : k_M) : Option (Int32 × k_M) := wrI M (w + 4) 8 t1 t2 (fun M1 => rdI M1 (w + 4) 8 l4 (fun v2 => wrI M1 (w + 5) 8 l4 v2 (fun M3 => wrI M3 (w + 6) 8 l4 0 (fun M4 => bN (sI M4 (w + 1) 0 ((M4.1 (w + 1) 0) + 1)) (fun M5 => some (l4, M5))))))
theorem m_X3_addPlace_41 {Z : k_Z} {G : k_G} {w : Nat} (C : k_C Z G RX3 cX3_addPlace (true, 5, 2, 0, 0) (some .int) "addPlace") (hw : isW w) (l4 : Int32) (t1 : Int32) (t2 : Int32) (M : k_M) : Sm Z G emI (true, 5, 2, 0, 0) (0, 0) 41 [(0, k_ra Z (w + 1)), (4, Value.int l4)] [Value.int t2, Value.int t1, k_ra Z (w + 4)] M (f_X3_addPlace_41 w l4 t1 t2 M) := by
  show Sm Z G emI _ _ _ _ _ _ (wrI M (w + 4) 8 t1 t2 (fun M1 => rdI M1 (w + 4) 8 l4 (fun v2 => wrI M1 (w + 5) 8 l4 v2 (fun M3 => wrI M3 (w + 6) 8 l4 0 (fun M4 => bN (sI M4 (w + 1) 0 ((M4.1 (w + 1) 0) + 1)) (fun M5 => some (l4, M5)))))))
  refine x_iast C (a := w + 4) (n := 8) rfl (kW 4 hw rfl) (k_dg dt_X3_addPlace_0 22 41 (.iastore) 1 rfl) (fun M1 => ?_)
  refine x_aload_n C (k_dg dt_X3_addPlace_0 23 42 (.aload_n 0) 1 rfl) 0 rfl ?_
  refine x_getR C (a := w + 1) (j := 4) (w + 5) rfl (kW 1 hw rfl) (by decide) fl_RX3_23 rfl rfl rfl (k_dg dt_X3_addPlace_0 24 43 (.getfield 23) 3 rfl) ?_
  refine x_iload C (k_dg dt_X3_addPlace_0 25 46 (.iload 4) 2 rfl) 1 rfl ?_
  refine x_aload_n C (k_dg dt_X3_addPlace_0 26 48 (.aload_n 0) 1 rfl) 0 rfl ?_
  refine x_getR C (a := w + 1) (j := 3) (w + 4) rfl (kW 1 hw rfl) (by decide) fl_RX3_20 rfl rfl rfl (k_dg dt_X3_addPlace_0 27 49 (.getfield 20) 3 rfl) ?_
  refine x_iload C (k_dg dt_X3_addPlace_0 28 52 (.iload 4) 2 rfl) 1 rfl ?_
  refine x_iald C (a := w + 4) (n := 8) rfl (kW 4 hw rfl) (k_dg dt_X3_addPlace_0 29 54 (.iaload) 1 rfl) (fun v2 => ?_)
  refine x_iast C (a := w + 5) (n := 8) rfl (kW 5 hw rfl) (k_dg dt_X3_addPlace_0 30 55 (.iastore) 1 rfl) (fun M3 => ?_)
  refine x_aload_n C (k_dg dt_X3_addPlace_0 31 56 (.aload_n 0) 1 rfl) 0 rfl ?_
  refine x_getR C (a := w + 1) (j := 5) (w + 6) rfl (kW 1 hw rfl) (by decide) fl_RX3_26 rfl rfl rfl (k_dg dt_X3_addPlace_0 32 57 (.getfield 26) 3 rfl) ?_
  refine x_iload C (k_dg dt_X3_addPlace_0 33 60 (.iload 4) 2 rfl) 1 rfl ?_
  refine x_iconst C (v := 0) (k_dg dt_X3_addPlace_0 34 62 (.iconst 0) 1 rfl) (by decide) ?_
  refine x_iast C (a := w + 6) (n := 8) rfl (kW 6 hw rfl) (k_dg dt_X3_addPlace_0 35 63 (.iastore) 1 rfl) (fun M4 => ?_)
  refine x_aload_n C (k_dg dt_X3_addPlace_0 36 64 (.aload_n 0) 1 rfl) 0 rfl ?_
  refine x_dup C (k_dg dt_X3_addPlace_0 37 65 (.dup) 1 rfl) rfl ?_
  refine x_getI C (a := w + 1) (j := 0) rfl (kW 1 hw rfl) (by decide) fl_RX3_7 rfl (k_dg dt_X3_addPlace_0 38 66 (.getfield 7) 3 rfl) ?_
  refine x_iconst C (v := 1) (k_dg dt_X3_addPlace_0 39 69 (.iconst 1) 1 rfl) (by decide) ?_
  refine x_iadd C (k_dg dt_X3_addPlace_1 0 70 (.iadd) 1 rfl) ?_
  refine x_putI C (a := w + 1) (j := 0) rfl (kW 1 hw rfl) (by decide) fl_RX3_7 rfl pt_2_0 tb_2 rfl rfl (k_dg dt_X3_addPlace_1 1 71 (.putfield 7) 3 rfl) (fun M5 => ?_)
  refine x_iload C (k_dg dt_X3_addPlace_1 2 74 (.iload 4) 2 rfl) 1 rfl ?_
  exact x_iret C (by decide) (by decide) (k_dg dt_X3_addPlace_1 3 76 (.ireturn) 1 rfl)
def f_X3_addPlace (w : Nat) (p1 : Int32) (p2 : Int32) (p3 : Int32) (M : k_M) : Option (Int32 × k_M) := bN (M.1 (w + 1) 0) (fun v1 => wrI M (w + 2) 8 v1 p1 (fun M2 => wrI M2 (w + 3) 8 v1 p2 (fun M3 => bd (f_X3_isEndless p1 M3) (fun r4 M5 => if r4 = 0 then f_X3_addPlace_41 w v1 v1 p3 M5 else f_X3_addPlace_41 w v1 v1 99 M5))))
theorem m_X3_addPlace_0 {Z : k_Z} {G : k_G} {w : Nat} (C : k_C Z G RX3 cX3_addPlace (true, 5, 2, 0, 0) (some .int) "addPlace") (hw : isW w) (p1 : Int32) (p2 : Int32) (p3 : Int32) (M : k_M) : Sm Z G emI (true, 5, 2, 0, 0) (0, 0) 0 [(0, k_ra Z (w + 1)), (1, Value.int p1), (2, Value.int p2), (3, Value.int p3)] [] M (f_X3_addPlace w p1 p2 p3 M) := by
  show Sm Z G emI _ _ _ _ _ _ (bN (M.1 (w + 1) 0) (fun v1 => wrI M (w + 2) 8 v1 p1 (fun M2 => wrI M2 (w + 3) 8 v1 p2 (fun M3 => bd (f_X3_isEndless p1 M3) (fun r4 M5 => if r4 = 0 then f_X3_addPlace_41 w v1 v1 p3 M5 else f_X3_addPlace_41 w v1 v1 99 M5)))))
  refine x_aload_n C (k_dg dt_X3_addPlace_0 0 0 (.aload_n 0) 1 rfl) 0 rfl ?_
  refine x_getI C (a := w + 1) (j := 0) rfl (kW 1 hw rfl) (by decide) fl_RX3_7 rfl (k_dg dt_X3_addPlace_0 1 1 (.getfield 7) 3 rfl) ?_
  refine x_nm (w := Value.int) (fun v1 _ => ?_)
  refine x_istore C (lv' := [(4, Value.int v1), (0, k_ra Z (w + 1)), (1, Value.int p1), (2, Value.int p2), (3, Value.int p3)]) (k_dg dt_X3_addPlace_0 2 4 (.istore 4) 2 rfl) (by decide) rfl ?_
  refine x_aload_n C (k_dg dt_X3_addPlace_0 3 6 (.aload_n 0) 1 rfl) 1 rfl ?_
  refine x_getR C (a := w + 1) (j := 1) (w + 2) rfl (kW 1 hw rfl) (by decide) fl_RX3_13 rfl rfl rfl (k_dg dt_X3_addPlace_0 4 7 (.getfield 13) 3 rfl) ?_
  refine x_iload C (k_dg dt_X3_addPlace_0 5 10 (.iload 4) 2 rfl) 0 rfl ?_
  refine x_iload_n C (k_dg dt_X3_addPlace_0 6 12 (.iload_n 1) 1 rfl) 2 rfl ?_
  refine x_iast C (a := w + 2) (n := 8) rfl (kW 2 hw rfl) (k_dg dt_X3_addPlace_0 7 13 (.iastore) 1 rfl) (fun M2 => ?_)
  refine x_aload_n C (k_dg dt_X3_addPlace_0 8 14 (.aload_n 0) 1 rfl) 1 rfl ?_
  refine x_getR C (a := w + 1) (j := 2) (w + 3) rfl (kW 1 hw rfl) (by decide) fl_RX3_17 rfl rfl rfl (k_dg dt_X3_addPlace_0 9 15 (.getfield 17) 3 rfl) ?_
  refine x_iload C (k_dg dt_X3_addPlace_0 10 18 (.iload 4) 2 rfl) 0 rfl ?_
  refine x_iload_n C (k_dg dt_X3_addPlace_0 11 20 (.iload_n 2) 1 rfl) 3 rfl ?_
  refine x_iast C (a := w + 3) (n := 8) rfl (kW 3 hw rfl) (k_dg dt_X3_addPlace_0 12 21 (.iastore) 1 rfl) (fun M3 => ?_)
  refine x_aload_n C (k_dg dt_X3_addPlace_0 13 22 (.aload_n 0) 1 rfl) 1 rfl ?_
  refine x_getR C (a := w + 1) (j := 3) (w + 4) rfl (kW 1 hw rfl) (by decide) fl_RX3_20 rfl rfl rfl (k_dg dt_X3_addPlace_0 14 23 (.getfield 20) 3 rfl) ?_
  refine x_iload C (k_dg dt_X3_addPlace_0 15 26 (.iload 4) 2 rfl) 0 rfl ?_
  refine x_iload_n C (k_dg dt_X3_addPlace_0 16 28 (.iload_n 1) 1 rfl) 2 rfl ?_
  refine x_callS C (vs := [Value.int p1]) (rest := [Value.int v1, k_ra Z (w + 4)]) (c_X3_isEndless C.2.2.2.2.2.2.2.2.2 G.2.1 p1 M3) cy_X3_isEndless lk_RX3_59 stt_X3_isEndless (by decide) (by decide) (by decide) (by decide) rfl rfl (Nat.le_of_ble_eq_true rfl) (k_dg dt_X3_addPlace_0 17 29 (.invokestatic 59) 3 rfl) (fun r4 M5 => ?_)
  show Sm Z G _ _ _ _ [(4, Value.int v1), (0, k_ra Z (w + 1)), (1, Value.int p1), (2, Value.int p2), (3, Value.int p3)] [Value.int r4, Value.int v1, k_ra Z (w + 4)] _ _
  refine x_if_eq C (tgt := 40) (k_dg dt_X3_addPlace_0 18 32 (.ifCond .eq 8) 3 rfl) (by decide) (fun _ => ?_) (fun _ => ?_)
  · refine x_iload_n C (k_dg dt_X3_addPlace_0 21 40 (.iload_n 3) 1 rfl) 4 rfl ?_
    refine x_lv [1, 0] rfl ?_
    exact m_X3_addPlace_41 C hw v1 v1 p3 M5
  · refine x_bipush C (v := 99) (k_dg dt_X3_addPlace_0 19 35 (.bipush 99) 2 rfl) (by decide) ?_
    refine x_goto C (tgt := 41) (k_dg dt_X3_addPlace_0 20 37 (.goto 4) 3 rfl) (by decide) ?_
    refine x_lv [1, 0] rfl ?_
    exact m_X3_addPlace_41 C hw v1 v1 99 M5
theorem c_X3_addPlace {Z : k_Z} (hg : k_Gd Z) (l : Launch) (w : Nat) (p1 : Int32) (p2 : Int32) (p3 : Int32) (M : k_M) (hw : isW w) : Con true Z l yX3_addPlace cX3_addPlace 5 (some .int) 2 0 0 emI [k_ra Z (w + 1), Value.int p1, Value.int p2, Value.int p3] M (f_X3_addPlace w p1 p2 p3 M) := k_con hg (by decide) (Nat.le_of_ble_eq_true rfl) (fun G hl C => m_X3_addPlace_0 C hw p1 p2 p3 M)
theorem dt_X3_join_0 : k_dec cX3_join [(0, .aload_n 0, 1), (1, .getfield 29, 3), (4, .iload_n 1, 1), (5, .iconst 4, 1), (6, .imul, 1), (7, .aload_n 0, 1), (8, .getfield 26, 3), (11, .iload_n 1, 1), (12, .iaload, 1), (13, .iadd, 1), (14, .iload_n 2, 1), (15, .iastore, 1), (16, .aload_n 0, 1), (17, .getfield 26, 3), (20, .iload_n 1, 1), (21, .dup2, 1), (22, .iaload, 1), (23, .iconst 1, 1), (24, .iadd, 1), (25, .iastore, 1), (26, .return_, 1)] = true := by decide +kernel
def f_X3_join (w : Nat) (p1 : Int32) (p2 : Int32) (M : k_M) : Option (Unit × k_M) := rdI M (w + 6) 8 p1 (fun v1 => wrI M (w + 7) 32 ((p1 * 4) + v1) p2 (fun M2 => rdI M2 (w + 6) 8 p1 (fun v3 => wrI M2 (w + 6) 8 p1 (v3 + 1) (fun M4 => some ((), M4)))))
theorem m_X3_join_0 {Z : k_Z} {G : k_G} {w : Nat} (C : k_C Z G RX3 cX3_join (true, 3, 1, 0, 0) none "join") (hw : isW w) (p1 : Int32) (p2 : Int32) (M : k_M) : Sm Z G emV (true, 3, 1, 0, 0) (0, 0) 0 [(0, k_ra Z (w + 1)), (1, Value.int p1), (2, Value.int p2)] [] M (f_X3_join w p1 p2 M) := by
  show Sm Z G emV _ _ _ _ _ _ (rdI M (w + 6) 8 p1 (fun v1 => wrI M (w + 7) 32 ((p1 * 4) + v1) p2 (fun M2 => rdI M2 (w + 6) 8 p1 (fun v3 => wrI M2 (w + 6) 8 p1 (v3 + 1) (fun M4 => some ((), M4))))))
  refine x_aload_n C (k_dg dt_X3_join_0 0 0 (.aload_n 0) 1 rfl) 0 rfl ?_
  refine x_getR C (a := w + 1) (j := 6) (w + 7) rfl (kW 1 hw rfl) (by decide) fl_RX3_29 rfl rfl rfl (k_dg dt_X3_join_0 1 1 (.getfield 29) 3 rfl) ?_
  refine x_iload_n C (k_dg dt_X3_join_0 2 4 (.iload_n 1) 1 rfl) 1 rfl ?_
  refine x_iconst C (v := 4) (k_dg dt_X3_join_0 3 5 (.iconst 4) 1 rfl) (by decide) ?_
  refine x_imul C (k_dg dt_X3_join_0 4 6 (.imul) 1 rfl) ?_
  refine x_aload_n C (k_dg dt_X3_join_0 5 7 (.aload_n 0) 1 rfl) 0 rfl ?_
  refine x_getR C (a := w + 1) (j := 5) (w + 6) rfl (kW 1 hw rfl) (by decide) fl_RX3_26 rfl rfl rfl (k_dg dt_X3_join_0 6 8 (.getfield 26) 3 rfl) ?_
  refine x_iload_n C (k_dg dt_X3_join_0 7 11 (.iload_n 1) 1 rfl) 1 rfl ?_
  refine x_iald C (a := w + 6) (n := 8) rfl (kW 6 hw rfl) (k_dg dt_X3_join_0 8 12 (.iaload) 1 rfl) (fun v1 => ?_)
  refine x_iadd C (k_dg dt_X3_join_0 9 13 (.iadd) 1 rfl) ?_
  refine x_iload_n C (k_dg dt_X3_join_0 10 14 (.iload_n 2) 1 rfl) 2 rfl ?_
  refine x_iast C (a := w + 7) (n := 32) rfl (kW 7 hw rfl) (k_dg dt_X3_join_0 11 15 (.iastore) 1 rfl) (fun M2 => ?_)
  refine x_aload_n C (k_dg dt_X3_join_0 12 16 (.aload_n 0) 1 rfl) 0 rfl ?_
  refine x_getR C (a := w + 1) (j := 5) (w + 6) rfl (kW 1 hw rfl) (by decide) fl_RX3_26 rfl rfl rfl (k_dg dt_X3_join_0 13 17 (.getfield 26) 3 rfl) ?_
  refine x_iload_n C (k_dg dt_X3_join_0 14 20 (.iload_n 1) 1 rfl) 1 rfl ?_
  refine x_dup2 C (k_dg dt_X3_join_0 15 21 (.dup2) 1 rfl) rfl rfl ?_
  refine x_iald C (a := w + 6) (n := 8) rfl (kW 6 hw rfl) (k_dg dt_X3_join_0 16 22 (.iaload) 1 rfl) (fun v3 => ?_)
  refine x_iconst C (v := 1) (k_dg dt_X3_join_0 17 23 (.iconst 1) 1 rfl) (by decide) ?_
  refine x_iadd C (k_dg dt_X3_join_0 18 24 (.iadd) 1 rfl) ?_
  refine x_iast C (a := w + 6) (n := 8) rfl (kW 6 hw rfl) (k_dg dt_X3_join_0 19 25 (.iastore) 1 rfl) (fun M4 => ?_)
  exact x_vret C (by decide) (by decide) (k_dg dt_X3_join_0 20 26 (.return_) 1 rfl)
theorem c_X3_join {Z : k_Z} (hg : k_Gd Z) (l : Launch) (w : Nat) (p1 : Int32) (p2 : Int32) (M : k_M) (hw : isW w) : Con true Z l yX3_join cX3_join 3 none 1 0 0 emV [k_ra Z (w + 1), Value.int p1, Value.int p2] M (f_X3_join w p1 p2 M) := k_con hg (by decide) (Nat.le_of_ble_eq_true rfl) (fun G hl C => m_X3_join_0 C hw p1 p2 M)
theorem dt_X3_addWay_0 : k_dec cX3_addWay [(0, .aload_n 0, 1), (1, .getfield 32, 3), (4, .istore 6, 2), (6, .aload_n 0, 1), (7, .getfield 35, 3), (10, .iload 6, 2), (12, .iload_n 1, 1), (13, .iastore, 1), (14, .aload_n 0, 1), (15, .getfield 38, 3), (18, .iload 6, 2), (20, .iload_n 2, 1), (21, .iastore, 1), (22, .aload_n 0, 1), (23, .getfield 41, 3), (26, .iload 6, 2), (28, .iload_n 3, 1), (29, .iastore, 1), (30, .aload_n 0, 1), (31, .getfield 44, 3), (34, .iload 6, 2), (36, .iload 4, 2), (38, .iastore, 1), (39, .aload_n 0, 1), (40, .getfield 47, 3), (43, .iload 6, 2), (45, .iload 4, 2), (47, .iastore, 1), (48, .aload_n 0, 1), (49, .getfield 50, 3), (52, .iload 6, 2), (54, .iload 5, 2), (56, .ifCond .ne 9, 3), (59, .sipush 4095, 3), (62, .goto 5, 3), (65, .iload 5, 2), (67, .iastore, 1), (68, .aload_n 0, 1), (69, .iload_n 1, 1), (70, .iload 6, 2)] = true := by decide +kernel
theorem dt_X3_addWay_1 : k_dec cX3_addWay [(72, .invokevirtual 63, 3), (75, .aload_n 0, 1), (76, .iload_n 2, 1), (77, .iload 6, 2), (79, .invokevirtual 63, 3), (82, .aload_n 0, 1), (83, .dup, 1), (84, .getfield 32, 3), (87, .iconst 1, 1), (88, .iadd, 1), (89, .putfield 32, 3), (92, .iload 6, 2), (94, .ireturn, 1)] = true := by decide +kernel
def f_X3_addWay_67 (w : Nat) (l1 : Int32) (l2 : Int32) (l6 : Int32) (t1 : Int32) (t2 : Int32) (M : k_M) : Option (Int32 × k_M) := wrI M (w + 13) 12 t1 t2 (fun M1 => bd (f_X3_join w l1 l6 M1) (fun r2 M3 => bd (f_X3_join w l2 l6 M3) (fun r4 M5 => bN (sI M5 (w + 1) 7 ((M5.1 (w + 1) 7) + 1)) (fun M6 => some (l6, M6)))))
theorem m_X3_addWay_67 {Z : k_Z} {G : k_G} {w : Nat} (C : k_C Z G RX3 cX3_addWay (true, 7, 2, 0, 0) (some .int) "addWay") (hw : isW w) (l1 : Int32) (l2 : Int32) (l6 : Int32) (t1 : Int32) (t2 : Int32) (M : k_M) : Sm Z G emI (true, 7, 2, 0, 0) (0, 0) 67 [(0, k_ra Z (w + 1)), (1, Value.int l1), (2, Value.int l2), (6, Value.int l6)] [Value.int t2, Value.int t1, k_ra Z (w + 13)] M (f_X3_addWay_67 w l1 l2 l6 t1 t2 M) := by
  show Sm Z G emI _ _ _ _ _ _ (wrI M (w + 13) 12 t1 t2 (fun M1 => bd (f_X3_join w l1 l6 M1) (fun r2 M3 => bd (f_X3_join w l2 l6 M3) (fun r4 M5 => bN (sI M5 (w + 1) 7 ((M5.1 (w + 1) 7) + 1)) (fun M6 => some (l6, M6))))))
  refine x_iast C (a := w + 13) (n := 12) rfl (kW 13 hw rfl) (k_dg dt_X3_addWay_0 36 67 (.iastore) 1 rfl) (fun M1 => ?_)
  refine x_aload_n C (k_dg dt_X3_addWay_0 37 68 (.aload_n 0) 1 rfl) 0 rfl ?_
  refine x_iload_n C (k_dg dt_X3_addWay_0 38 69 (.iload_n 1) 1 rfl) 1 rfl ?_
  refine x_iload C (k_dg dt_X3_addWay_0 39 70 (.iload 6) 2 rfl) 3 rfl ?_
  refine x_callV C (a := w + 1) (kd := 2) (vs := [Value.int l1, Value.int l6]) (rest := []) rfl (kW 1 hw rfl) (by decide) (fun r hr => by cases hr; rfl) (c_X3_join C.2.2.2.2.2.2.2.2.2 G.2.1 w l1 l6 M1 hw) cy_X3_join lk_RX3_63 im_X3_join se_X3_join (by decide) (by decide) (by decide) (by decide) rfl rfl (Nat.le_of_ble_eq_true rfl) (k_dg dt_X3_addWay_1 0 72 (.invokevirtual 63) 3 rfl) (fun r2 M3 => ?_)
  show Sm Z G _ _ _ _ [(0, k_ra Z (w + 1)), (1, Value.int l1), (2, Value.int l2), (6, Value.int l6)] [] _ _
  refine x_aload_n C (k_dg dt_X3_addWay_1 1 75 (.aload_n 0) 1 rfl) 0 rfl ?_
  refine x_iload_n C (k_dg dt_X3_addWay_1 2 76 (.iload_n 2) 1 rfl) 2 rfl ?_
  refine x_iload C (k_dg dt_X3_addWay_1 3 77 (.iload 6) 2 rfl) 3 rfl ?_
  refine x_callV C (a := w + 1) (kd := 2) (vs := [Value.int l2, Value.int l6]) (rest := []) rfl (kW 1 hw rfl) (by decide) (fun r hr => by cases hr; rfl) (c_X3_join C.2.2.2.2.2.2.2.2.2 G.2.1 w l2 l6 M3 hw) cy_X3_join lk_RX3_63 im_X3_join se_X3_join (by decide) (by decide) (by decide) (by decide) rfl rfl (Nat.le_of_ble_eq_true rfl) (k_dg dt_X3_addWay_1 4 79 (.invokevirtual 63) 3 rfl) (fun r4 M5 => ?_)
  show Sm Z G _ _ _ _ [(0, k_ra Z (w + 1)), (1, Value.int l1), (2, Value.int l2), (6, Value.int l6)] [] _ _
  refine x_aload_n C (k_dg dt_X3_addWay_1 5 82 (.aload_n 0) 1 rfl) 0 rfl ?_
  refine x_dup C (k_dg dt_X3_addWay_1 6 83 (.dup) 1 rfl) rfl ?_
  refine x_getI C (a := w + 1) (j := 7) rfl (kW 1 hw rfl) (by decide) fl_RX3_32 rfl (k_dg dt_X3_addWay_1 7 84 (.getfield 32) 3 rfl) ?_
  refine x_iconst C (v := 1) (k_dg dt_X3_addWay_1 8 87 (.iconst 1) 1 rfl) (by decide) ?_
  refine x_iadd C (k_dg dt_X3_addWay_1 9 88 (.iadd) 1 rfl) ?_
  refine x_putI C (a := w + 1) (j := 7) rfl (kW 1 hw rfl) (by decide) fl_RX3_32 rfl pt_2_7 tb_2 rfl rfl (k_dg dt_X3_addWay_1 10 89 (.putfield 32) 3 rfl) (fun M6 => ?_)
  refine x_iload C (k_dg dt_X3_addWay_1 11 92 (.iload 6) 2 rfl) 3 rfl ?_
  exact x_iret C (by decide) (by decide) (k_dg dt_X3_addWay_1 12 94 (.ireturn) 1 rfl)
def f_X3_addWay (w : Nat) (p1 : Int32) (p2 : Int32) (p3 : Int32) (p4 : Int32) (p5 : Int32) (M : k_M) : Option (Int32 × k_M) := bN (M.1 (w + 1) 7) (fun v1 => wrI M (w + 8) 12 v1 p1 (fun M2 => wrI M2 (w + 9) 12 v1 p2 (fun M3 => wrI M3 (w + 10) 12 v1 p3 (fun M4 => wrI M4 (w + 11) 12 v1 p4 (fun M5 => wrI M5 (w + 12) 12 v1 p4 (fun M6 => if p5 = 0 then f_X3_addWay_67 w p1 p2 v1 v1 4095 M6 else f_X3_addWay_67 w p1 p2 v1 v1 p5 M6))))))
theorem m_X3_addWay_0 {Z : k_Z} {G : k_G} {w : Nat} (C : k_C Z G RX3 cX3_addWay (true, 7, 2, 0, 0) (some .int) "addWay") (hw : isW w) (p1 : Int32) (p2 : Int32) (p3 : Int32) (p4 : Int32) (p5 : Int32) (M : k_M) : Sm Z G emI (true, 7, 2, 0, 0) (0, 0) 0 [(0, k_ra Z (w + 1)), (1, Value.int p1), (2, Value.int p2), (3, Value.int p3), (4, Value.int p4), (5, Value.int p5)] [] M (f_X3_addWay w p1 p2 p3 p4 p5 M) := by
  show Sm Z G emI _ _ _ _ _ _ (bN (M.1 (w + 1) 7) (fun v1 => wrI M (w + 8) 12 v1 p1 (fun M2 => wrI M2 (w + 9) 12 v1 p2 (fun M3 => wrI M3 (w + 10) 12 v1 p3 (fun M4 => wrI M4 (w + 11) 12 v1 p4 (fun M5 => wrI M5 (w + 12) 12 v1 p4 (fun M6 => if p5 = 0 then f_X3_addWay_67 w p1 p2 v1 v1 4095 M6 else f_X3_addWay_67 w p1 p2 v1 v1 p5 M6)))))))
  refine x_aload_n C (k_dg dt_X3_addWay_0 0 0 (.aload_n 0) 1 rfl) 0 rfl ?_
  refine x_getI C (a := w + 1) (j := 7) rfl (kW 1 hw rfl) (by decide) fl_RX3_32 rfl (k_dg dt_X3_addWay_0 1 1 (.getfield 32) 3 rfl) ?_
  refine x_nm (w := Value.int) (fun v1 _ => ?_)
  refine x_istore C (lv' := [(6, Value.int v1), (0, k_ra Z (w + 1)), (1, Value.int p1), (2, Value.int p2), (3, Value.int p3), (4, Value.int p4), (5, Value.int p5)]) (k_dg dt_X3_addWay_0 2 4 (.istore 6) 2 rfl) (by decide) rfl ?_
  refine x_aload_n C (k_dg dt_X3_addWay_0 3 6 (.aload_n 0) 1 rfl) 1 rfl ?_
  refine x_getR C (a := w + 1) (j := 8) (w + 8) rfl (kW 1 hw rfl) (by decide) fl_RX3_35 rfl rfl rfl (k_dg dt_X3_addWay_0 4 7 (.getfield 35) 3 rfl) ?_
  refine x_iload C (k_dg dt_X3_addWay_0 5 10 (.iload 6) 2 rfl) 0 rfl ?_
  refine x_iload_n C (k_dg dt_X3_addWay_0 6 12 (.iload_n 1) 1 rfl) 2 rfl ?_
  refine x_iast C (a := w + 8) (n := 12) rfl (kW 8 hw rfl) (k_dg dt_X3_addWay_0 7 13 (.iastore) 1 rfl) (fun M2 => ?_)
  refine x_aload_n C (k_dg dt_X3_addWay_0 8 14 (.aload_n 0) 1 rfl) 1 rfl ?_
  refine x_getR C (a := w + 1) (j := 9) (w + 9) rfl (kW 1 hw rfl) (by decide) fl_RX3_38 rfl rfl rfl (k_dg dt_X3_addWay_0 9 15 (.getfield 38) 3 rfl) ?_
  refine x_iload C (k_dg dt_X3_addWay_0 10 18 (.iload 6) 2 rfl) 0 rfl ?_
  refine x_iload_n C (k_dg dt_X3_addWay_0 11 20 (.iload_n 2) 1 rfl) 3 rfl ?_
  refine x_iast C (a := w + 9) (n := 12) rfl (kW 9 hw rfl) (k_dg dt_X3_addWay_0 12 21 (.iastore) 1 rfl) (fun M3 => ?_)
  refine x_aload_n C (k_dg dt_X3_addWay_0 13 22 (.aload_n 0) 1 rfl) 1 rfl ?_
  refine x_getR C (a := w + 1) (j := 10) (w + 10) rfl (kW 1 hw rfl) (by decide) fl_RX3_41 rfl rfl rfl (k_dg dt_X3_addWay_0 14 23 (.getfield 41) 3 rfl) ?_
  refine x_iload C (k_dg dt_X3_addWay_0 15 26 (.iload 6) 2 rfl) 0 rfl ?_
  refine x_iload_n C (k_dg dt_X3_addWay_0 16 28 (.iload_n 3) 1 rfl) 4 rfl ?_
  refine x_iast C (a := w + 10) (n := 12) rfl (kW 10 hw rfl) (k_dg dt_X3_addWay_0 17 29 (.iastore) 1 rfl) (fun M4 => ?_)
  refine x_aload_n C (k_dg dt_X3_addWay_0 18 30 (.aload_n 0) 1 rfl) 1 rfl ?_
  refine x_getR C (a := w + 1) (j := 11) (w + 11) rfl (kW 1 hw rfl) (by decide) fl_RX3_44 rfl rfl rfl (k_dg dt_X3_addWay_0 19 31 (.getfield 44) 3 rfl) ?_
  refine x_iload C (k_dg dt_X3_addWay_0 20 34 (.iload 6) 2 rfl) 0 rfl ?_
  refine x_iload C (k_dg dt_X3_addWay_0 21 36 (.iload 4) 2 rfl) 5 rfl ?_
  refine x_iast C (a := w + 11) (n := 12) rfl (kW 11 hw rfl) (k_dg dt_X3_addWay_0 22 38 (.iastore) 1 rfl) (fun M5 => ?_)
  refine x_aload_n C (k_dg dt_X3_addWay_0 23 39 (.aload_n 0) 1 rfl) 1 rfl ?_
  refine x_getR C (a := w + 1) (j := 12) (w + 12) rfl (kW 1 hw rfl) (by decide) fl_RX3_47 rfl rfl rfl (k_dg dt_X3_addWay_0 24 40 (.getfield 47) 3 rfl) ?_
  refine x_iload C (k_dg dt_X3_addWay_0 25 43 (.iload 6) 2 rfl) 0 rfl ?_
  refine x_iload C (k_dg dt_X3_addWay_0 26 45 (.iload 4) 2 rfl) 5 rfl ?_
  refine x_iast C (a := w + 12) (n := 12) rfl (kW 12 hw rfl) (k_dg dt_X3_addWay_0 27 47 (.iastore) 1 rfl) (fun M6 => ?_)
  refine x_aload_n C (k_dg dt_X3_addWay_0 28 48 (.aload_n 0) 1 rfl) 1 rfl ?_
  refine x_getR C (a := w + 1) (j := 13) (w + 13) rfl (kW 1 hw rfl) (by decide) fl_RX3_50 rfl rfl rfl (k_dg dt_X3_addWay_0 29 49 (.getfield 50) 3 rfl) ?_
  refine x_iload C (k_dg dt_X3_addWay_0 30 52 (.iload 6) 2 rfl) 0 rfl ?_
  refine x_iload C (k_dg dt_X3_addWay_0 31 54 (.iload 5) 2 rfl) 6 rfl ?_
  refine x_if_ne C (tgt := 65) (k_dg dt_X3_addWay_0 32 56 (.ifCond .ne 9) 3 rfl) (by decide) (fun _ => ?_) (fun _ => ?_)
  · refine x_sipush C (v := 4095) (k_dg dt_X3_addWay_0 33 59 (.sipush 4095) 3 rfl) (by decide) ?_
    refine x_goto C (tgt := 67) (k_dg dt_X3_addWay_0 34 62 (.goto 5) 3 rfl) (by decide) ?_
    refine x_lv [1, 2, 3, 0] rfl ?_
    exact m_X3_addWay_67 C hw p1 p2 v1 v1 4095 M6
  · refine x_iload C (k_dg dt_X3_addWay_0 35 65 (.iload 5) 2 rfl) 6 rfl ?_
    refine x_lv [1, 2, 3, 0] rfl ?_
    exact m_X3_addWay_67 C hw p1 p2 v1 v1 p5 M6
theorem c_X3_addWay {Z : k_Z} (hg : k_Gd Z) (l : Launch) (w : Nat) (p1 : Int32) (p2 : Int32) (p3 : Int32) (p4 : Int32) (p5 : Int32) (M : k_M) (hw : isW w) : Con true Z l yX3_addWay cX3_addWay 7 (some .int) 2 0 0 emI [k_ra Z (w + 1), Value.int p1, Value.int p2, Value.int p3, Value.int p4, Value.int p5] M (f_X3_addWay w p1 p2 p3 p4 p5 M) := k_con hg (by decide) (Nat.le_of_ble_eq_true rfl) (fun G hl C => m_X3_addWay_0 C hw p1 p2 p3 p4 p5 M)
theorem dt_X3_copy_0 : k_dec cX3_copy [(0, .aload_n 0, 1), (1, .iconst 0, 1), (2, .aload_n 1, 1), (3, .iconst 0, 1), (4, .aload_n 0, 1), (5, .arraylength, 1), (6, .aload_n 1, 1), (7, .arraylength, 1), (8, .invokestatic 71, 3), (11, .invokestatic 77, 3), (14, .return_, 1)] = true := by decide +kernel
def f_X3_copy (a1 : Nat) (n1 : Nat) (a2 : Nat) (n2 : Nat) (M : k_M) : Option (Unit × k_M) := acp M a1 n1 a2 n2 0 0 (mnI (Int32.ofNat n1) (Int32.ofNat n2)) (fun M1 => some ((), M1))
theorem m_X3_copy_0 {Z : k_Z} {G : k_G} {a1 : Nat} {n1 : Nat} {a2 : Nat} {n2 : Nat} (C : k_C Z G RX3 cX3_copy (true, 2, 1, 0, 0) none "copy") (ha1 : k_st a1 = (11, n1)) (ha2 : k_st a2 = (11, n2)) (M : k_M) : Sm Z G emV (true, 2, 1, 0, 0) (0, 0) 0 [(0, k_ra Z a1), (1, k_ra Z a2)] [] M (f_X3_copy a1 n1 a2 n2 M) := by
  show Sm Z G emV _ _ _ _ _ _ (acp M a1 n1 a2 n2 0 0 (mnI (Int32.ofNat n1) (Int32.ofNat n2)) (fun M1 => some ((), M1)))
  refine x_aload_n C (k_dg dt_X3_copy_0 0 0 (.aload_n 0) 1 rfl) 0 rfl ?_
  refine x_iconst C (v := 0) (k_dg dt_X3_copy_0 1 1 (.iconst 0) 1 rfl) (by decide) ?_
  refine x_aload_n C (k_dg dt_X3_copy_0 2 2 (.aload_n 1) 1 rfl) 1 rfl ?_
  refine x_iconst C (v := 0) (k_dg dt_X3_copy_0 3 3 (.iconst 0) 1 rfl) (by decide) ?_
  refine x_aload_n C (k_dg dt_X3_copy_0 4 4 (.aload_n 0) 1 rfl) 0 rfl ?_
  refine x_ilen C (a := a1) (v := Int32.ofNat n1) rfl ha1 rfl (k_dg dt_X3_copy_0 5 5 (.arraylength) 1 rfl) ?_
  refine x_aload_n C (k_dg dt_X3_copy_0 6 6 (.aload_n 1) 1 rfl) 1 rfl ?_
  refine x_ilen C (a := a2) (v := Int32.ofNat n2) rfl ha2 rfl (k_dg dt_X3_copy_0 7 7 (.arraylength) 1 rfl) ?_
  refine x_min C ml_RX3_71 (by decide) (Nat.le_of_ble_eq_true rfl) (by decide) (by decide) (k_dg dt_X3_copy_0 8 8 (.invokestatic 71) 3 rfl) ?_
  refine x_copy C (a0 := a1) (n0 := n1) (a := a2) (n := n2) rfl ha1 ha2 ac_RX3_77 (by decide) (Nat.le_of_ble_eq_true rfl) (k_dg dt_X3_copy_0 9 11 (.invokestatic 77) 3 rfl) (fun M1 => ?_)
  exact x_vret C (by decide) (by decide) (k_dg dt_X3_copy_0 10 14 (.return_) 1 rfl)
theorem c_X3_copy {Z : k_Z} (hg : k_Gd Z) (l : Launch) (a1 : Nat) (n1 : Nat) (a2 : Nat) (n2 : Nat) (M : k_M) (ha1 : k_st a1 = (11, n1)) (ha2 : k_st a2 = (11, n2)) : Con true Z l yX3_copy cX3_copy 2 none 1 0 0 emV [k_ra Z a1, k_ra Z a2] M (f_X3_copy a1 n1 a2 n2 M) := k_con hg (by decide) (Nat.le_of_ble_eq_true rfl) (fun G hl C => m_X3_copy_0 C ha1 ha2 M)
theorem dt_X3_becomeAsTold_0 : k_dec cX3_becomeAsTold [(0, .aload_n 0, 1), (1, .getfield 20, 3), (4, .aload_n 0, 1), (5, .getfield 23, 3), (8, .invokestatic 67, 3), (11, .aload_n 0, 1), (12, .getfield 44, 3), (15, .aload_n 0, 1), (16, .getfield 47, 3), (19, .invokestatic 67, 3), (22, .return_, 1)] = true := by decide +kernel
def f_X3_becomeAsTold (w : Nat) (M : k_M) : Option (Unit × k_M) := bd (f_X3_copy (w + 4) 8 (w + 5) 8 M) (fun r1 M2 => bd (f_X3_copy (w + 11) 12 (w + 12) 12 M2) (fun r3 M4 => some ((), M4)))
theorem m_X3_becomeAsTold_0 {Z : k_Z} {G : k_G} {w : Nat} (C : k_C Z G RX3 cX3_becomeAsTold (true, 1, 2, 0, 0) none "becomeAsTold") (hw : isW w) (M : k_M) : Sm Z G emV (true, 1, 2, 0, 0) (0, 0) 0 [(0, k_ra Z (w + 1))] [] M (f_X3_becomeAsTold w M) := by
  show Sm Z G emV _ _ _ _ _ _ (bd (f_X3_copy (w + 4) 8 (w + 5) 8 M) (fun r1 M2 => bd (f_X3_copy (w + 11) 12 (w + 12) 12 M2) (fun r3 M4 => some ((), M4))))
  refine x_aload_n C (k_dg dt_X3_becomeAsTold_0 0 0 (.aload_n 0) 1 rfl) 0 rfl ?_
  refine x_getR C (a := w + 1) (j := 3) (w + 4) rfl (kW 1 hw rfl) (by decide) fl_RX3_20 rfl rfl rfl (k_dg dt_X3_becomeAsTold_0 1 1 (.getfield 20) 3 rfl) ?_
  refine x_aload_n C (k_dg dt_X3_becomeAsTold_0 2 4 (.aload_n 0) 1 rfl) 0 rfl ?_
  refine x_getR C (a := w + 1) (j := 4) (w + 5) rfl (kW 1 hw rfl) (by decide) fl_RX3_23 rfl rfl rfl (k_dg dt_X3_becomeAsTold_0 3 5 (.getfield 23) 3 rfl) ?_
  refine x_callS C (vs := [k_ra Z (w + 4), k_ra Z (w + 5)]) (rest := []) (c_X3_copy C.2.2.2.2.2.2.2.2.2 G.2.1 (w + 4) 8 (w + 5) 8 M (kW 4 hw rfl) (kW 5 hw rfl)) cy_X3_copy lk_RX3_67 stt_X3_copy (by decide) (by decide) (by decide) (by decide) rfl rfl (Nat.le_of_ble_eq_true rfl) (k_dg dt_X3_becomeAsTold_0 4 8 (.invokestatic 67) 3 rfl) (fun r1 M2 => ?_)
  show Sm Z G _ _ _ _ [(0, k_ra Z (w + 1))] [] _ _
  refine x_aload_n C (k_dg dt_X3_becomeAsTold_0 5 11 (.aload_n 0) 1 rfl) 0 rfl ?_
  refine x_getR C (a := w + 1) (j := 11) (w + 11) rfl (kW 1 hw rfl) (by decide) fl_RX3_44 rfl rfl rfl (k_dg dt_X3_becomeAsTold_0 6 12 (.getfield 44) 3 rfl) ?_
  refine x_aload_n C (k_dg dt_X3_becomeAsTold_0 7 15 (.aload_n 0) 1 rfl) 0 rfl ?_
  refine x_getR C (a := w + 1) (j := 12) (w + 12) rfl (kW 1 hw rfl) (by decide) fl_RX3_47 rfl rfl rfl (k_dg dt_X3_becomeAsTold_0 8 16 (.getfield 47) 3 rfl) ?_
  refine x_callS C (vs := [k_ra Z (w + 11), k_ra Z (w + 12)]) (rest := []) (c_X3_copy C.2.2.2.2.2.2.2.2.2 G.2.1 (w + 11) 12 (w + 12) 12 M2 (kW 11 hw rfl) (kW 12 hw rfl)) cy_X3_copy lk_RX3_67 stt_X3_copy (by decide) (by decide) (by decide) (by decide) rfl rfl (Nat.le_of_ble_eq_true rfl) (k_dg dt_X3_becomeAsTold_0 9 19 (.invokestatic 67) 3 rfl) (fun r3 M4 => ?_)
  show Sm Z G _ _ _ _ [(0, k_ra Z (w + 1))] [] _ _
  exact x_vret C (by decide) (by decide) (k_dg dt_X3_becomeAsTold_0 10 22 (.return_) 1 rfl)
theorem c_X3_becomeAsTold {Z : k_Z} (hg : k_Gd Z) (l : Launch) (w : Nat) (M : k_M) (hw : isW w) : Con true Z l yX3_becomeAsTold cX3_becomeAsTold 1 none 2 0 0 emV [k_ra Z (w + 1)] M (f_X3_becomeAsTold w M) := k_con hg (by decide) (Nat.le_of_ble_eq_true rfl) (fun G hl C => m_X3_becomeAsTold_0 C hw M)
theorem dt_X3_copyFrom_0 : k_dec cX3_copyFrom [(0, .aload_n 0, 1), (1, .aload_n 1, 1), (2, .getfield 7, 3), (5, .putfield 7, 3), (8, .aload_n 1, 1), (9, .getfield 13, 3), (12, .aload_n 0, 1), (13, .getfield 13, 3), (16, .invokestatic 67, 3), (19, .aload_n 1, 1), (20, .getfield 17, 3), (23, .aload_n 0, 1), (24, .getfield 17, 3), (27, .invokestatic 67, 3), (30, .aload_n 1, 1), (31, .getfield 20, 3), (34, .aload_n 0, 1), (35, .getfield 20, 3), (38, .invokestatic 67, 3), (41, .aload_n 1, 1), (42, .getfield 23, 3), (45, .aload_n 0, 1), (46, .getfield 23, 3), (49, .invokestatic 67, 3), (52, .aload_n 1, 1), (53, .getfield 26, 3), (56, .aload_n 0, 1), (57, .getfield 26, 3), (60, .invokestatic 67, 3), (63, .aload_n 1, 1), (64, .getfield 29, 3), (67, .aload_n 0, 1), (68, .getfield 29, 3), (71, .invokestatic 67, 3), (74, .aload_n 0, 1), (75, .aload_n 1, 1), (76, .getfield 32, 3), (79, .putfield 32, 3), (82, .aload_n 1, 1), (83, .getfield 35, 3)] = true := by decide +kernel
theorem dt_X3_copyFrom_1 : k_dec cX3_copyFrom [(86, .aload_n 0, 1), (87, .getfield 35, 3), (90, .invokestatic 67, 3), (93, .aload_n 1, 1), (94, .getfield 38, 3), (97, .aload_n 0, 1), (98, .getfield 38, 3), (101, .invokestatic 67, 3), (104, .aload_n 1, 1), (105, .getfield 41, 3), (108, .aload_n 0, 1), (109, .getfield 41, 3), (112, .invokestatic 67, 3), (115, .aload_n 1, 1), (116, .getfield 44, 3), (119, .aload_n 0, 1), (120, .getfield 44, 3), (123, .invokestatic 67, 3), (126, .aload_n 1, 1), (127, .getfield 47, 3), (130, .aload_n 0, 1), (131, .getfield 47, 3), (134, .invokestatic 67, 3), (137, .aload_n 1, 1), (138, .getfield 50, 3), (141, .aload_n 0, 1), (142, .getfield 50, 3), (145, .invokestatic 67, 3), (148, .return_, 1)] = true := by decide +kernel
def f_X3_copyFrom (w : Nat) (v : Nat) (M : k_M) : Option (Unit × k_M) := bN (sI M (w + 1) 0 (M.1 (v + 1) 0)) (fun M1 => bd (f_X3_copy (v + 2) 8 (w + 2) 8 M1) (fun r2 M3 => bd (f_X3_copy (v + 3) 8 (w + 3) 8 M3) (fun r4 M5 => bd (f_X3_copy (v + 4) 8 (w + 4) 8 M5) (fun r6 M7 => bd (f_X3_copy (v + 5) 8 (w + 5) 8 M7) (fun r8 M9 => bd (f_X3_copy (v + 6) 8 (w + 6) 8 M9) (fun r10 M11 => bd (f_X3_copy (v + 7) 32 (w + 7) 32 M11) (fun r12 M13 => bN (sI M13 (w + 1) 7 (M13.1 (v + 1) 7)) (fun M14 => bd (f_X3_copy (v + 8) 12 (w + 8) 12 M14) (fun r15 M16 => bd (f_X3_copy (v + 9) 12 (w + 9) 12 M16) (fun r17 M18 => bd (f_X3_copy (v + 10) 12 (w + 10) 12 M18) (fun r19 M20 => bd (f_X3_copy (v + 11) 12 (w + 11) 12 M20) (fun r21 M22 => bd (f_X3_copy (v + 12) 12 (w + 12) 12 M22) (fun r23 M24 => bd (f_X3_copy (v + 13) 12 (w + 13) 12 M24) (fun r25 M26 => some ((), M26)))))))))))))))
theorem m_X3_copyFrom_0 {Z : k_Z} {G : k_G} {w : Nat} {v : Nat} (C : k_C Z G RX3 cX3_copyFrom (true, 2, 2, 0, 0) none "copyFrom") (hw : isW w) (hv : isW v) (M : k_M) : Sm Z G emV (true, 2, 2, 0, 0) (0, 0) 0 [(0, k_ra Z (w + 1)), (1, k_ra Z (v + 1))] [] M (f_X3_copyFrom w v M) := by
  show Sm Z G emV _ _ _ _ _ _ (bN (sI M (w + 1) 0 (M.1 (v + 1) 0)) (fun M1 => bd (f_X3_copy (v + 2) 8 (w + 2) 8 M1) (fun r2 M3 => bd (f_X3_copy (v + 3) 8 (w + 3) 8 M3) (fun r4 M5 => bd (f_X3_copy (v + 4) 8 (w + 4) 8 M5) (fun r6 M7 => bd (f_X3_copy (v + 5) 8 (w + 5) 8 M7) (fun r8 M9 => bd (f_X3_copy (v + 6) 8 (w + 6) 8 M9) (fun r10 M11 => bd (f_X3_copy (v + 7) 32 (w + 7) 32 M11) (fun r12 M13 => bN (sI M13 (w + 1) 7 (M13.1 (v + 1) 7)) (fun M14 => bd (f_X3_copy (v + 8) 12 (w + 8) 12 M14) (fun r15 M16 => bd (f_X3_copy (v + 9) 12 (w + 9) 12 M16) (fun r17 M18 => bd (f_X3_copy (v + 10) 12 (w + 10) 12 M18) (fun r19 M20 => bd (f_X3_copy (v + 11) 12 (w + 11) 12 M20) (fun r21 M22 => bd (f_X3_copy (v + 12) 12 (w + 12) 12 M22) (fun r23 M24 => bd (f_X3_copy (v + 13) 12 (w + 13) 12 M24) (fun r25 M26 => some ((), M26))))))))))))))))
  refine x_aload_n C (k_dg dt_X3_copyFrom_0 0 0 (.aload_n 0) 1 rfl) 0 rfl ?_
  refine x_aload_n C (k_dg dt_X3_copyFrom_0 1 1 (.aload_n 1) 1 rfl) 1 rfl ?_
  refine x_getI C (a := v + 1) (j := 0) rfl (kW 1 hv rfl) (by decide) fl_RX3_7 rfl (k_dg dt_X3_copyFrom_0 2 2 (.getfield 7) 3 rfl) ?_
  refine x_putI C (a := w + 1) (j := 0) rfl (kW 1 hw rfl) (by decide) fl_RX3_7 rfl pt_2_0 tb_2 rfl rfl (k_dg dt_X3_copyFrom_0 3 5 (.putfield 7) 3 rfl) (fun M1 => ?_)
  refine x_aload_n C (k_dg dt_X3_copyFrom_0 4 8 (.aload_n 1) 1 rfl) 1 rfl ?_
  refine x_getR C (a := v + 1) (j := 1) (v + 2) rfl (kW 1 hv rfl) (by decide) fl_RX3_13 rfl rfl rfl (k_dg dt_X3_copyFrom_0 5 9 (.getfield 13) 3 rfl) ?_
  refine x_aload_n C (k_dg dt_X3_copyFrom_0 6 12 (.aload_n 0) 1 rfl) 0 rfl ?_
  refine x_getR C (a := w + 1) (j := 1) (w + 2) rfl (kW 1 hw rfl) (by decide) fl_RX3_13 rfl rfl rfl (k_dg dt_X3_copyFrom_0 7 13 (.getfield 13) 3 rfl) ?_
  refine x_callS C (vs := [k_ra Z (v + 2), k_ra Z (w + 2)]) (rest := []) (c_X3_copy C.2.2.2.2.2.2.2.2.2 G.2.1 (v + 2) 8 (w + 2) 8 M1 (kW 2 hv rfl) (kW 2 hw rfl)) cy_X3_copy lk_RX3_67 stt_X3_copy (by decide) (by decide) (by decide) (by decide) rfl rfl (Nat.le_of_ble_eq_true rfl) (k_dg dt_X3_copyFrom_0 8 16 (.invokestatic 67) 3 rfl) (fun r2 M3 => ?_)
  show Sm Z G _ _ _ _ [(0, k_ra Z (w + 1)), (1, k_ra Z (v + 1))] [] _ _
  refine x_aload_n C (k_dg dt_X3_copyFrom_0 9 19 (.aload_n 1) 1 rfl) 1 rfl ?_
  refine x_getR C (a := v + 1) (j := 2) (v + 3) rfl (kW 1 hv rfl) (by decide) fl_RX3_17 rfl rfl rfl (k_dg dt_X3_copyFrom_0 10 20 (.getfield 17) 3 rfl) ?_
  refine x_aload_n C (k_dg dt_X3_copyFrom_0 11 23 (.aload_n 0) 1 rfl) 0 rfl ?_
  refine x_getR C (a := w + 1) (j := 2) (w + 3) rfl (kW 1 hw rfl) (by decide) fl_RX3_17 rfl rfl rfl (k_dg dt_X3_copyFrom_0 12 24 (.getfield 17) 3 rfl) ?_
  refine x_callS C (vs := [k_ra Z (v + 3), k_ra Z (w + 3)]) (rest := []) (c_X3_copy C.2.2.2.2.2.2.2.2.2 G.2.1 (v + 3) 8 (w + 3) 8 M3 (kW 3 hv rfl) (kW 3 hw rfl)) cy_X3_copy lk_RX3_67 stt_X3_copy (by decide) (by decide) (by decide) (by decide) rfl rfl (Nat.le_of_ble_eq_true rfl) (k_dg dt_X3_copyFrom_0 13 27 (.invokestatic 67) 3 rfl) (fun r4 M5 => ?_)
  show Sm Z G _ _ _ _ [(0, k_ra Z (w + 1)), (1, k_ra Z (v + 1))] [] _ _
  refine x_aload_n C (k_dg dt_X3_copyFrom_0 14 30 (.aload_n 1) 1 rfl) 1 rfl ?_
  refine x_getR C (a := v + 1) (j := 3) (v + 4) rfl (kW 1 hv rfl) (by decide) fl_RX3_20 rfl rfl rfl (k_dg dt_X3_copyFrom_0 15 31 (.getfield 20) 3 rfl) ?_
  refine x_aload_n C (k_dg dt_X3_copyFrom_0 16 34 (.aload_n 0) 1 rfl) 0 rfl ?_
  refine x_getR C (a := w + 1) (j := 3) (w + 4) rfl (kW 1 hw rfl) (by decide) fl_RX3_20 rfl rfl rfl (k_dg dt_X3_copyFrom_0 17 35 (.getfield 20) 3 rfl) ?_
  refine x_callS C (vs := [k_ra Z (v + 4), k_ra Z (w + 4)]) (rest := []) (c_X3_copy C.2.2.2.2.2.2.2.2.2 G.2.1 (v + 4) 8 (w + 4) 8 M5 (kW 4 hv rfl) (kW 4 hw rfl)) cy_X3_copy lk_RX3_67 stt_X3_copy (by decide) (by decide) (by decide) (by decide) rfl rfl (Nat.le_of_ble_eq_true rfl) (k_dg dt_X3_copyFrom_0 18 38 (.invokestatic 67) 3 rfl) (fun r6 M7 => ?_)
  show Sm Z G _ _ _ _ [(0, k_ra Z (w + 1)), (1, k_ra Z (v + 1))] [] _ _
  refine x_aload_n C (k_dg dt_X3_copyFrom_0 19 41 (.aload_n 1) 1 rfl) 1 rfl ?_
  refine x_getR C (a := v + 1) (j := 4) (v + 5) rfl (kW 1 hv rfl) (by decide) fl_RX3_23 rfl rfl rfl (k_dg dt_X3_copyFrom_0 20 42 (.getfield 23) 3 rfl) ?_
  refine x_aload_n C (k_dg dt_X3_copyFrom_0 21 45 (.aload_n 0) 1 rfl) 0 rfl ?_
  refine x_getR C (a := w + 1) (j := 4) (w + 5) rfl (kW 1 hw rfl) (by decide) fl_RX3_23 rfl rfl rfl (k_dg dt_X3_copyFrom_0 22 46 (.getfield 23) 3 rfl) ?_
  refine x_callS C (vs := [k_ra Z (v + 5), k_ra Z (w + 5)]) (rest := []) (c_X3_copy C.2.2.2.2.2.2.2.2.2 G.2.1 (v + 5) 8 (w + 5) 8 M7 (kW 5 hv rfl) (kW 5 hw rfl)) cy_X3_copy lk_RX3_67 stt_X3_copy (by decide) (by decide) (by decide) (by decide) rfl rfl (Nat.le_of_ble_eq_true rfl) (k_dg dt_X3_copyFrom_0 23 49 (.invokestatic 67) 3 rfl) (fun r8 M9 => ?_)
  show Sm Z G _ _ _ _ [(0, k_ra Z (w + 1)), (1, k_ra Z (v + 1))] [] _ _
  refine x_aload_n C (k_dg dt_X3_copyFrom_0 24 52 (.aload_n 1) 1 rfl) 1 rfl ?_
  refine x_getR C (a := v + 1) (j := 5) (v + 6) rfl (kW 1 hv rfl) (by decide) fl_RX3_26 rfl rfl rfl (k_dg dt_X3_copyFrom_0 25 53 (.getfield 26) 3 rfl) ?_
  refine x_aload_n C (k_dg dt_X3_copyFrom_0 26 56 (.aload_n 0) 1 rfl) 0 rfl ?_
  refine x_getR C (a := w + 1) (j := 5) (w + 6) rfl (kW 1 hw rfl) (by decide) fl_RX3_26 rfl rfl rfl (k_dg dt_X3_copyFrom_0 27 57 (.getfield 26) 3 rfl) ?_
  refine x_callS C (vs := [k_ra Z (v + 6), k_ra Z (w + 6)]) (rest := []) (c_X3_copy C.2.2.2.2.2.2.2.2.2 G.2.1 (v + 6) 8 (w + 6) 8 M9 (kW 6 hv rfl) (kW 6 hw rfl)) cy_X3_copy lk_RX3_67 stt_X3_copy (by decide) (by decide) (by decide) (by decide) rfl rfl (Nat.le_of_ble_eq_true rfl) (k_dg dt_X3_copyFrom_0 28 60 (.invokestatic 67) 3 rfl) (fun r10 M11 => ?_)
  show Sm Z G _ _ _ _ [(0, k_ra Z (w + 1)), (1, k_ra Z (v + 1))] [] _ _
  refine x_aload_n C (k_dg dt_X3_copyFrom_0 29 63 (.aload_n 1) 1 rfl) 1 rfl ?_
  refine x_getR C (a := v + 1) (j := 6) (v + 7) rfl (kW 1 hv rfl) (by decide) fl_RX3_29 rfl rfl rfl (k_dg dt_X3_copyFrom_0 30 64 (.getfield 29) 3 rfl) ?_
  refine x_aload_n C (k_dg dt_X3_copyFrom_0 31 67 (.aload_n 0) 1 rfl) 0 rfl ?_
  refine x_getR C (a := w + 1) (j := 6) (w + 7) rfl (kW 1 hw rfl) (by decide) fl_RX3_29 rfl rfl rfl (k_dg dt_X3_copyFrom_0 32 68 (.getfield 29) 3 rfl) ?_
  refine x_callS C (vs := [k_ra Z (v + 7), k_ra Z (w + 7)]) (rest := []) (c_X3_copy C.2.2.2.2.2.2.2.2.2 G.2.1 (v + 7) 32 (w + 7) 32 M11 (kW 7 hv rfl) (kW 7 hw rfl)) cy_X3_copy lk_RX3_67 stt_X3_copy (by decide) (by decide) (by decide) (by decide) rfl rfl (Nat.le_of_ble_eq_true rfl) (k_dg dt_X3_copyFrom_0 33 71 (.invokestatic 67) 3 rfl) (fun r12 M13 => ?_)
  show Sm Z G _ _ _ _ [(0, k_ra Z (w + 1)), (1, k_ra Z (v + 1))] [] _ _
  refine x_aload_n C (k_dg dt_X3_copyFrom_0 34 74 (.aload_n 0) 1 rfl) 0 rfl ?_
  refine x_aload_n C (k_dg dt_X3_copyFrom_0 35 75 (.aload_n 1) 1 rfl) 1 rfl ?_
  refine x_getI C (a := v + 1) (j := 7) rfl (kW 1 hv rfl) (by decide) fl_RX3_32 rfl (k_dg dt_X3_copyFrom_0 36 76 (.getfield 32) 3 rfl) ?_
  refine x_putI C (a := w + 1) (j := 7) rfl (kW 1 hw rfl) (by decide) fl_RX3_32 rfl pt_2_7 tb_2 rfl rfl (k_dg dt_X3_copyFrom_0 37 79 (.putfield 32) 3 rfl) (fun M14 => ?_)
  refine x_aload_n C (k_dg dt_X3_copyFrom_0 38 82 (.aload_n 1) 1 rfl) 1 rfl ?_
  refine x_getR C (a := v + 1) (j := 8) (v + 8) rfl (kW 1 hv rfl) (by decide) fl_RX3_35 rfl rfl rfl (k_dg dt_X3_copyFrom_0 39 83 (.getfield 35) 3 rfl) ?_
  refine x_aload_n C (k_dg dt_X3_copyFrom_1 0 86 (.aload_n 0) 1 rfl) 0 rfl ?_
  refine x_getR C (a := w + 1) (j := 8) (w + 8) rfl (kW 1 hw rfl) (by decide) fl_RX3_35 rfl rfl rfl (k_dg dt_X3_copyFrom_1 1 87 (.getfield 35) 3 rfl) ?_
  refine x_callS C (vs := [k_ra Z (v + 8), k_ra Z (w + 8)]) (rest := []) (c_X3_copy C.2.2.2.2.2.2.2.2.2 G.2.1 (v + 8) 12 (w + 8) 12 M14 (kW 8 hv rfl) (kW 8 hw rfl)) cy_X3_copy lk_RX3_67 stt_X3_copy (by decide) (by decide) (by decide) (by decide) rfl rfl (Nat.le_of_ble_eq_true rfl) (k_dg dt_X3_copyFrom_1 2 90 (.invokestatic 67) 3 rfl) (fun r15 M16 => ?_)
  show Sm Z G _ _ _ _ [(0, k_ra Z (w + 1)), (1, k_ra Z (v + 1))] [] _ _
  refine x_aload_n C (k_dg dt_X3_copyFrom_1 3 93 (.aload_n 1) 1 rfl) 1 rfl ?_
  refine x_getR C (a := v + 1) (j := 9) (v + 9) rfl (kW 1 hv rfl) (by decide) fl_RX3_38 rfl rfl rfl (k_dg dt_X3_copyFrom_1 4 94 (.getfield 38) 3 rfl) ?_
  refine x_aload_n C (k_dg dt_X3_copyFrom_1 5 97 (.aload_n 0) 1 rfl) 0 rfl ?_
  refine x_getR C (a := w + 1) (j := 9) (w + 9) rfl (kW 1 hw rfl) (by decide) fl_RX3_38 rfl rfl rfl (k_dg dt_X3_copyFrom_1 6 98 (.getfield 38) 3 rfl) ?_
  refine x_callS C (vs := [k_ra Z (v + 9), k_ra Z (w + 9)]) (rest := []) (c_X3_copy C.2.2.2.2.2.2.2.2.2 G.2.1 (v + 9) 12 (w + 9) 12 M16 (kW 9 hv rfl) (kW 9 hw rfl)) cy_X3_copy lk_RX3_67 stt_X3_copy (by decide) (by decide) (by decide) (by decide) rfl rfl (Nat.le_of_ble_eq_true rfl) (k_dg dt_X3_copyFrom_1 7 101 (.invokestatic 67) 3 rfl) (fun r17 M18 => ?_)
  show Sm Z G _ _ _ _ [(0, k_ra Z (w + 1)), (1, k_ra Z (v + 1))] [] _ _
  refine x_aload_n C (k_dg dt_X3_copyFrom_1 8 104 (.aload_n 1) 1 rfl) 1 rfl ?_
  refine x_getR C (a := v + 1) (j := 10) (v + 10) rfl (kW 1 hv rfl) (by decide) fl_RX3_41 rfl rfl rfl (k_dg dt_X3_copyFrom_1 9 105 (.getfield 41) 3 rfl) ?_
  refine x_aload_n C (k_dg dt_X3_copyFrom_1 10 108 (.aload_n 0) 1 rfl) 0 rfl ?_
  refine x_getR C (a := w + 1) (j := 10) (w + 10) rfl (kW 1 hw rfl) (by decide) fl_RX3_41 rfl rfl rfl (k_dg dt_X3_copyFrom_1 11 109 (.getfield 41) 3 rfl) ?_
  refine x_callS C (vs := [k_ra Z (v + 10), k_ra Z (w + 10)]) (rest := []) (c_X3_copy C.2.2.2.2.2.2.2.2.2 G.2.1 (v + 10) 12 (w + 10) 12 M18 (kW 10 hv rfl) (kW 10 hw rfl)) cy_X3_copy lk_RX3_67 stt_X3_copy (by decide) (by decide) (by decide) (by decide) rfl rfl (Nat.le_of_ble_eq_true rfl) (k_dg dt_X3_copyFrom_1 12 112 (.invokestatic 67) 3 rfl) (fun r19 M20 => ?_)
  show Sm Z G _ _ _ _ [(0, k_ra Z (w + 1)), (1, k_ra Z (v + 1))] [] _ _
  refine x_aload_n C (k_dg dt_X3_copyFrom_1 13 115 (.aload_n 1) 1 rfl) 1 rfl ?_
  refine x_getR C (a := v + 1) (j := 11) (v + 11) rfl (kW 1 hv rfl) (by decide) fl_RX3_44 rfl rfl rfl (k_dg dt_X3_copyFrom_1 14 116 (.getfield 44) 3 rfl) ?_
  refine x_aload_n C (k_dg dt_X3_copyFrom_1 15 119 (.aload_n 0) 1 rfl) 0 rfl ?_
  refine x_getR C (a := w + 1) (j := 11) (w + 11) rfl (kW 1 hw rfl) (by decide) fl_RX3_44 rfl rfl rfl (k_dg dt_X3_copyFrom_1 16 120 (.getfield 44) 3 rfl) ?_
  refine x_callS C (vs := [k_ra Z (v + 11), k_ra Z (w + 11)]) (rest := []) (c_X3_copy C.2.2.2.2.2.2.2.2.2 G.2.1 (v + 11) 12 (w + 11) 12 M20 (kW 11 hv rfl) (kW 11 hw rfl)) cy_X3_copy lk_RX3_67 stt_X3_copy (by decide) (by decide) (by decide) (by decide) rfl rfl (Nat.le_of_ble_eq_true rfl) (k_dg dt_X3_copyFrom_1 17 123 (.invokestatic 67) 3 rfl) (fun r21 M22 => ?_)
  show Sm Z G _ _ _ _ [(0, k_ra Z (w + 1)), (1, k_ra Z (v + 1))] [] _ _
  refine x_aload_n C (k_dg dt_X3_copyFrom_1 18 126 (.aload_n 1) 1 rfl) 1 rfl ?_
  refine x_getR C (a := v + 1) (j := 12) (v + 12) rfl (kW 1 hv rfl) (by decide) fl_RX3_47 rfl rfl rfl (k_dg dt_X3_copyFrom_1 19 127 (.getfield 47) 3 rfl) ?_
  refine x_aload_n C (k_dg dt_X3_copyFrom_1 20 130 (.aload_n 0) 1 rfl) 0 rfl ?_
  refine x_getR C (a := w + 1) (j := 12) (w + 12) rfl (kW 1 hw rfl) (by decide) fl_RX3_47 rfl rfl rfl (k_dg dt_X3_copyFrom_1 21 131 (.getfield 47) 3 rfl) ?_
  refine x_callS C (vs := [k_ra Z (v + 12), k_ra Z (w + 12)]) (rest := []) (c_X3_copy C.2.2.2.2.2.2.2.2.2 G.2.1 (v + 12) 12 (w + 12) 12 M22 (kW 12 hv rfl) (kW 12 hw rfl)) cy_X3_copy lk_RX3_67 stt_X3_copy (by decide) (by decide) (by decide) (by decide) rfl rfl (Nat.le_of_ble_eq_true rfl) (k_dg dt_X3_copyFrom_1 22 134 (.invokestatic 67) 3 rfl) (fun r23 M24 => ?_)
  show Sm Z G _ _ _ _ [(0, k_ra Z (w + 1)), (1, k_ra Z (v + 1))] [] _ _
  refine x_aload_n C (k_dg dt_X3_copyFrom_1 23 137 (.aload_n 1) 1 rfl) 1 rfl ?_
  refine x_getR C (a := v + 1) (j := 13) (v + 13) rfl (kW 1 hv rfl) (by decide) fl_RX3_50 rfl rfl rfl (k_dg dt_X3_copyFrom_1 24 138 (.getfield 50) 3 rfl) ?_
  refine x_aload_n C (k_dg dt_X3_copyFrom_1 25 141 (.aload_n 0) 1 rfl) 0 rfl ?_
  refine x_getR C (a := w + 1) (j := 13) (w + 13) rfl (kW 1 hw rfl) (by decide) fl_RX3_50 rfl rfl rfl (k_dg dt_X3_copyFrom_1 26 142 (.getfield 50) 3 rfl) ?_
  refine x_callS C (vs := [k_ra Z (v + 13), k_ra Z (w + 13)]) (rest := []) (c_X3_copy C.2.2.2.2.2.2.2.2.2 G.2.1 (v + 13) 12 (w + 13) 12 M24 (kW 13 hv rfl) (kW 13 hw rfl)) cy_X3_copy lk_RX3_67 stt_X3_copy (by decide) (by decide) (by decide) (by decide) rfl rfl (Nat.le_of_ble_eq_true rfl) (k_dg dt_X3_copyFrom_1 27 145 (.invokestatic 67) 3 rfl) (fun r25 M26 => ?_)
  show Sm Z G _ _ _ _ [(0, k_ra Z (w + 1)), (1, k_ra Z (v + 1))] [] _ _
  exact x_vret C (by decide) (by decide) (k_dg dt_X3_copyFrom_1 28 148 (.return_) 1 rfl)
theorem c_X3_copyFrom {Z : k_Z} (hg : k_Gd Z) (l : Launch) (w : Nat) (v : Nat) (M : k_M) (hw : isW w) (hv : isW v) : Con true Z l yX3_copyFrom cX3_copyFrom 2 none 2 0 0 emV [k_ra Z (w + 1), k_ra Z (v + 1)] M (f_X3_copyFrom w v M) := k_con hg (by decide) (Nat.le_of_ble_eq_true rfl) (fun G hl C => m_X3_copyFrom_0 C hw hv M)
theorem dt_X3_measure_0 : k_dec cX3_measure [(0, .aload_n 2, 1), (1, .sipush 10000, 3), (4, .invokestatic 83, 3), (7, .aload_n 2, 1), (8, .iload_n 1, 1), (9, .iconst 0, 1), (10, .iastore, 1), (11, .iconst 1, 1), (12, .istore_n 3, 1), (13, .iload_n 3, 1), (14, .aload_n 0, 1), (15, .getfield 7, 3), (18, .if_icmp .ge 91, 3), (21, .iconst 0, 1), (22, .istore 4, 2), (24, .iload 4, 2), (26, .aload_n 0, 1), (27, .getfield 32, 3), (30, .if_icmp .ge 73, 3), (33, .aload_n 0, 1), (34, .getfield 35, 3), (37, .iload 4, 2), (39, .iaload, 1), (40, .istore 5, 2), (42, .aload_n 0, 1), (43, .getfield 38, 3), (46, .iload 4, 2), (48, .iaload, 1), (49, .istore 6, 2), (51, .aload_n 2, 1), (52, .iload 5, 2), (54, .aload_n 2, 1), (55, .iload 5, 2), (57, .iaload, 1), (58, .aload_n 2, 1), (59, .iload 6, 2), (61, .iaload, 1), (62, .aload_n 0, 1), (63, .getfield 41, 3), (66, .iload 4, 2)] = true := by decide +kernel
theorem dt_X3_measure_1 : k_dec cX3_measure [(68, .iaload, 1), (69, .iadd, 1), (70, .invokestatic 71, 3), (73, .iastore, 1), (74, .aload_n 2, 1), (75, .iload 6, 2), (77, .aload_n 2, 1), (78, .iload 6, 2), (80, .iaload, 1), (81, .aload_n 2, 1), (82, .iload 5, 2), (84, .iaload, 1), (85, .aload_n 0, 1), (86, .getfield 41, 3), (89, .iload 4, 2), (91, .iaload, 1), (92, .iadd, 1), (93, .invokestatic 71, 3), (96, .iastore, 1), (97, .iinc 4 1, 3), (100, .goto (-76), 3), (103, .iinc 3 1, 3), (106, .goto (-93), 3), (109, .return_, 1)] = true := by decide +kernel
def f_X3_measure_24 (w : Nat) (a2 : Nat) (n2 : Nat) : Nat → Int32 → Int32 → k_M → (Int32 → k_M → Option (Unit × k_M)) → Option (Unit × k_M)
  | 0, _, _, _, _ => none
  | n + 1, l3, l4, M, kx103 => if (M.1 (w + 1) 7) ≤ l4 then kx103 l3 M else rdI M (w + 8) 12 l4 (fun v1 => rdI M (w + 9) 12 l4 (fun v2 => rdI M a2 n2 v1 (fun v3 => rdI M a2 n2 v2 (fun v4 => rdI M (w + 10) 12 l4 (fun v5 => wrI M a2 n2 v1 (mnI v3 (v4 + v5)) (fun M6 => rdI M6 a2 n2 v2 (fun v7 => rdI M6 a2 n2 v1 (fun v8 => rdI M6 (w + 10) 12 l4 (fun v9 => wrI M6 a2 n2 v2 (mnI v7 (v8 + v9)) (fun M10 => f_X3_measure_24 w a2 n2 n l3 (l4 + 1) M10 kx103))))))))))
theorem m_X3_measure_24 {Z : k_Z} {G : k_G} {w : Nat} {a2 : Nat} {n2 : Nat} (C : k_C Z G RX3 cX3_measure (true, 7, 2, 0, 0) none "measure") (hw : isW w) (ha2 : k_st a2 = (11, n2)) (kx103 : Int32 → k_M → Option (Unit × k_M)) (Hx103 : ∀ (l3 : Int32) (M : k_M), Sm Z G emV (true, 7, 2, 0, 0) (0, 0) 103 [(0, k_ra Z (w + 1)), (2, k_ra Z a2), (3, Value.int l3)] [] M (kx103 l3 M)) : ∀ (n : Nat) (l3 : Int32) (l4 : Int32) (M : k_M), Sm Z G emV (true, 7, 2, 0, 0) (0, 0) 24 [(0, k_ra Z (w + 1)), (2, k_ra Z a2), (3, Value.int l3), (4, Value.int l4)] [] M (f_X3_measure_24 w a2 n2 n l3 l4 M kx103)
  | 0, _, _, _ => x_none
  | n + 1, l3, l4, M => by
    have ih := m_X3_measure_24 C hw ha2 kx103 Hx103 n
    show Sm Z G emV _ _ _ _ _ _ (if (M.1 (w + 1) 7) ≤ l4 then kx103 l3 M else rdI M (w + 8) 12 l4 (fun v1 => rdI M (w + 9) 12 l4 (fun v2 => rdI M a2 n2 v1 (fun v3 => rdI M a2 n2 v2 (fun v4 => rdI M (w + 10) 12 l4 (fun v5 => wrI M a2 n2 v1 (mnI v3 (v4 + v5)) (fun M6 => rdI M6 a2 n2 v2 (fun v7 => rdI M6 a2 n2 v1 (fun v8 => rdI M6 (w + 10) 12 l4 (fun v9 => wrI M6 a2 n2 v2 (mnI v7 (v8 + v9)) (fun M10 => f_X3_measure_24 w a2 n2 n l3 (l4 + 1) M10 kx103)))))))))))
    refine x_iload C (k_dg dt_X3_measure_0 15 24 (.iload 4) 2 rfl) 3 rfl ?_
    refine x_aload_n C (k_dg dt_X3_measure_0 16 26 (.aload_n 0) 1 rfl) 0 rfl ?_
    refine x_getI C (a := w + 1) (j := 7) rfl (kW 1 hw rfl) (by decide) fl_RX3_32 rfl (k_dg dt_X3_measure_0 17 27 (.getfield 32) 3 rfl) ?_
    refine x_icmp_ge C (tgt := 103) (k_dg dt_X3_measure_0 18 30 (.if_icmp .ge 73) 3 rfl) (by decide) (fun _ => ?_) (fun _ => ?_)
    · refine x_lv [0, 1, 2] rfl ?_
      exact Hx103 l3 M
    · refine x_aload_n C (k_dg dt_X3_measure_0 19 33 (.aload_n 0) 1 rfl) 0 rfl ?_
      refine x_getR C (a := w + 1) (j := 8) (w + 8) rfl (kW 1 hw rfl) (by decide) fl_RX3_35 rfl rfl rfl (k_dg dt_X3_measure_0 20 34 (.getfield 35) 3 rfl) ?_
      refine x_iload C (k_dg dt_X3_measure_0 21 37 (.iload 4) 2 rfl) 3 rfl ?_
      refine x_iald C (a := w + 8) (n := 12) rfl (kW 8 hw rfl) (k_dg dt_X3_measure_0 22 39 (.iaload) 1 rfl) (fun v1 => ?_)
      refine x_istore C (lv' := [(5, Value.int v1), (0, k_ra Z (w + 1)), (2, k_ra Z a2), (3, Value.int l3), (4, Value.int l4)]) (k_dg dt_X3_measure_0 23 40 (.istore 5) 2 rfl) (by decide) rfl ?_
      refine x_aload_n C (k_dg dt_X3_measure_0 24 42 (.aload_n 0) 1 rfl) 1 rfl ?_
      refine x_getR C (a := w + 1) (j := 9) (w + 9) rfl (kW 1 hw rfl) (by decide) fl_RX3_38 rfl rfl rfl (k_dg dt_X3_measure_0 25 43 (.getfield 38) 3 rfl) ?_
      refine x_iload C (k_dg dt_X3_measure_0 26 46 (.iload 4) 2 rfl) 4 rfl ?_
      refine x_iald C (a := w + 9) (n := 12) rfl (kW 9 hw rfl) (k_dg dt_X3_measure_0 27 48 (.iaload) 1 rfl) (fun v2 => ?_)
      refine x_istore C (lv' := [(6, Value.int v2), (5, Value.int v1), (0, k_ra Z (w + 1)), (2, k_ra Z a2), (3, Value.int l3), (4, Value.int l4)]) (k_dg dt_X3_measure_0 28 49 (.istore 6) 2 rfl) (by decide) rfl ?_
      refine x_aload_n C (k_dg dt_X3_measure_0 29 51 (.aload_n 2) 1 rfl) 3 rfl ?_
      refine x_iload C (k_dg dt_X3_measure_0 30 52 (.iload 5) 2 rfl) 1 rfl ?_
      refine x_aload_n C (k_dg dt_X3_measure_0 31 54 (.aload_n 2) 1 rfl) 3 rfl ?_
      refine x_iload C (k_dg dt_X3_measure_0 32 55 (.iload 5) 2 rfl) 1 rfl ?_
      refine x_iald C (a := a2) (n := n2) rfl ha2 (k_dg dt_X3_measure_0 33 57 (.iaload) 1 rfl) (fun v3 => ?_)
      refine x_aload_n C (k_dg dt_X3_measure_0 34 58 (.aload_n 2) 1 rfl) 3 rfl ?_
      refine x_iload C (k_dg dt_X3_measure_0 35 59 (.iload 6) 2 rfl) 0 rfl ?_
      refine x_iald C (a := a2) (n := n2) rfl ha2 (k_dg dt_X3_measure_0 36 61 (.iaload) 1 rfl) (fun v4 => ?_)
      refine x_aload_n C (k_dg dt_X3_measure_0 37 62 (.aload_n 0) 1 rfl) 2 rfl ?_
      refine x_getR C (a := w + 1) (j := 10) (w + 10) rfl (kW 1 hw rfl) (by decide) fl_RX3_41 rfl rfl rfl (k_dg dt_X3_measure_0 38 63 (.getfield 41) 3 rfl) ?_
      refine x_iload C (k_dg dt_X3_measure_0 39 66 (.iload 4) 2 rfl) 5 rfl ?_
      refine x_iald C (a := w + 10) (n := 12) rfl (kW 10 hw rfl) (k_dg dt_X3_measure_1 0 68 (.iaload) 1 rfl) (fun v5 => ?_)
      refine x_iadd C (k_dg dt_X3_measure_1 1 69 (.iadd) 1 rfl) ?_
      refine x_min C ml_RX3_71 (by decide) (Nat.le_of_ble_eq_true rfl) (by decide) (by decide) (k_dg dt_X3_measure_1 2 70 (.invokestatic 71) 3 rfl) ?_
      refine x_iast C (a := a2) (n := n2) rfl ha2 (k_dg dt_X3_measure_1 3 73 (.iastore) 1 rfl) (fun M6 => ?_)
      refine x_aload_n C (k_dg dt_X3_measure_1 4 74 (.aload_n 2) 1 rfl) 3 rfl ?_
      refine x_iload C (k_dg dt_X3_measure_1 5 75 (.iload 6) 2 rfl) 0 rfl ?_
      refine x_aload_n C (k_dg dt_X3_measure_1 6 77 (.aload_n 2) 1 rfl) 3 rfl ?_
      refine x_iload C (k_dg dt_X3_measure_1 7 78 (.iload 6) 2 rfl) 0 rfl ?_
      refine x_iald C (a := a2) (n := n2) rfl ha2 (k_dg dt_X3_measure_1 8 80 (.iaload) 1 rfl) (fun v7 => ?_)
      refine x_aload_n C (k_dg dt_X3_measure_1 9 81 (.aload_n 2) 1 rfl) 3 rfl ?_
      refine x_iload C (k_dg dt_X3_measure_1 10 82 (.iload 5) 2 rfl) 1 rfl ?_
      refine x_iald C (a := a2) (n := n2) rfl ha2 (k_dg dt_X3_measure_1 11 84 (.iaload) 1 rfl) (fun v8 => ?_)
      refine x_aload_n C (k_dg dt_X3_measure_1 12 85 (.aload_n 0) 1 rfl) 2 rfl ?_
      refine x_getR C (a := w + 1) (j := 10) (w + 10) rfl (kW 1 hw rfl) (by decide) fl_RX3_41 rfl rfl rfl (k_dg dt_X3_measure_1 13 86 (.getfield 41) 3 rfl) ?_
      refine x_iload C (k_dg dt_X3_measure_1 14 89 (.iload 4) 2 rfl) 5 rfl ?_
      refine x_iald C (a := w + 10) (n := 12) rfl (kW 10 hw rfl) (k_dg dt_X3_measure_1 15 91 (.iaload) 1 rfl) (fun v9 => ?_)
      refine x_iadd C (k_dg dt_X3_measure_1 16 92 (.iadd) 1 rfl) ?_
      refine x_min C ml_RX3_71 (by decide) (Nat.le_of_ble_eq_true rfl) (by decide) (by decide) (k_dg dt_X3_measure_1 17 93 (.invokestatic 71) 3 rfl) ?_
      refine x_iast C (a := a2) (n := n2) rfl ha2 (k_dg dt_X3_measure_1 18 96 (.iastore) 1 rfl) (fun M10 => ?_)
      refine x_iinc C (v := 1) (lv' := [(4, Value.int (l4 + 1)), (6, Value.int v2), (5, Value.int v1), (0, k_ra Z (w + 1)), (2, k_ra Z a2), (3, Value.int l3)]) (k_dg dt_X3_measure_1 19 97 (.iinc 4 1) 3 rfl) 5 rfl (by decide) (by decide) rfl ?_
      refine x_goto C (tgt := 24) (k_dg dt_X3_measure_1 20 100 (.goto (-76)) 3 rfl) (by decide) ?_
      refine x_lv [3, 4, 5, 0] rfl ?_
      exact ih l3 (l4 + 1) M10
def f_X3_measure_103 (w : Nat) (a2 : Nat) (n2 : Nat) (l3 : Int32) (M : k_M) (kb : Int32 → k_M → Option (Unit × k_M)) (kx109 : k_M → Option (Unit × k_M)) : Option (Unit × k_M) := kb (l3 + 1) M
theorem m_X3_measure_103 {Z : k_Z} {G : k_G} {w : Nat} {a2 : Nat} {n2 : Nat} (C : k_C Z G RX3 cX3_measure (true, 7, 2, 0, 0) none "measure") (hw : isW w) (ha2 : k_st a2 = (11, n2)) (kb : Int32 → k_M → Option (Unit × k_M)) (kx109 : k_M → Option (Unit × k_M)) (Hb : ∀ (l3 : Int32) (M : k_M), Sm Z G emV (true, 7, 2, 0, 0) (0, 0) 13 [(0, k_ra Z (w + 1)), (2, k_ra Z a2), (3, Value.int l3)] [] M (kb l3 M)) (Hx109 : ∀ (M : k_M), Sm Z G emV (true, 7, 2, 0, 0) (0, 0) 109 [] [] M (kx109 M)) (l3 : Int32) (M : k_M) : Sm Z G emV (true, 7, 2, 0, 0) (0, 0) 103 [(0, k_ra Z (w + 1)), (2, k_ra Z a2), (3, Value.int l3)] [] M (f_X3_measure_103 w a2 n2 l3 M kb kx109) := by
  show Sm Z G emV _ _ _ _ _ _ (kb (l3 + 1) M)
  refine x_iinc C (v := 1) (lv' := [(3, Value.int (l3 + 1)), (0, k_ra Z (w + 1)), (2, k_ra Z a2)]) (k_dg dt_X3_measure_1 21 103 (.iinc 3 1) 3 rfl) 2 rfl (by decide) (by decide) rfl ?_
  refine x_goto C (tgt := 13) (k_dg dt_X3_measure_1 22 106 (.goto (-93)) 3 rfl) (by decide) ?_
  refine x_lv [1, 2, 0] rfl ?_
  exact Hb (l3 + 1) M
def f_X3_measure_13 (w : Nat) (a2 : Nat) (n2 : Nat) : Nat → Int32 → k_M → (k_M → Option (Unit × k_M)) → Option (Unit × k_M)
  | 0, _, _, _ => none
  | n + 1, l3, M, kx109 => if (M.1 (w + 1) 0) ≤ l3 then kx109 M else f_X3_measure_24 w a2 n2 k_fu l3 0 M (fun l3_ M_ => f_X3_measure_103 w a2 n2 l3_ M_ ((fun l3_ M_ => f_X3_measure_13 w a2 n2 n l3_ M_ kx109)) kx109)
theorem m_X3_measure_13 {Z : k_Z} {G : k_G} {w : Nat} {a2 : Nat} {n2 : Nat} (C : k_C Z G RX3 cX3_measure (true, 7, 2, 0, 0) none "measure") (hw : isW w) (ha2 : k_st a2 = (11, n2)) (kx109 : k_M → Option (Unit × k_M)) (Hx109 : ∀ (M : k_M), Sm Z G emV (true, 7, 2, 0, 0) (0, 0) 109 [] [] M (kx109 M)) : ∀ (n : Nat) (l3 : Int32) (M : k_M), Sm Z G emV (true, 7, 2, 0, 0) (0, 0) 13 [(0, k_ra Z (w + 1)), (2, k_ra Z a2), (3, Value.int l3)] [] M (f_X3_measure_13 w a2 n2 n l3 M kx109)
  | 0, _, _ => x_none
  | n + 1, l3, M => by
    have ih := m_X3_measure_13 C hw ha2 kx109 Hx109 n
    show Sm Z G emV _ _ _ _ _ _ (if (M.1 (w + 1) 0) ≤ l3 then kx109 M else f_X3_measure_24 w a2 n2 k_fu l3 0 M (fun l3_ M_ => f_X3_measure_103 w a2 n2 l3_ M_ ((fun l3_ M_ => f_X3_measure_13 w a2 n2 n l3_ M_ kx109)) kx109))
    refine x_iload_n C (k_dg dt_X3_measure_0 9 13 (.iload_n 3) 1 rfl) 2 rfl ?_
    refine x_aload_n C (k_dg dt_X3_measure_0 10 14 (.aload_n 0) 1 rfl) 0 rfl ?_
    refine x_getI C (a := w + 1) (j := 0) rfl (kW 1 hw rfl) (by decide) fl_RX3_7 rfl (k_dg dt_X3_measure_0 11 15 (.getfield 7) 3 rfl) ?_
    refine x_icmp_ge C (tgt := 109) (k_dg dt_X3_measure_0 12 18 (.if_icmp .ge 91) 3 rfl) (by decide) (fun _ => ?_) (fun _ => ?_)
    · refine x_lv [] rfl ?_
      exact Hx109 M
    · refine x_iconst C (v := 0) (k_dg dt_X3_measure_0 13 21 (.iconst 0) 1 rfl) (by decide) ?_
      refine x_istore C (lv' := [(4, Value.int 0), (0, k_ra Z (w + 1)), (2, k_ra Z a2), (3, Value.int l3)]) (k_dg dt_X3_measure_0 14 22 (.istore 4) 2 rfl) (by decide) rfl ?_
      refine x_lv [1, 2, 3, 0] rfl ?_
      exact m_X3_measure_24 C hw ha2 (fun l3_ M_ => f_X3_measure_103 w a2 n2 l3_ M_ ((fun l3_ M_ => f_X3_measure_13 w a2 n2 n l3_ M_ kx109)) kx109) (fun l3_ M_ => m_X3_measure_103 C hw ha2 ((fun l3_ M_ => f_X3_measure_13 w a2 n2 n l3_ M_ kx109)) kx109 ih Hx109 l3_ M_) k_fu l3 0 M
def f_X3_measure_109 (w : Nat) (a2 : Nat) (n2 : Nat) (M : k_M) : Option (Unit × k_M) := some ((), M)
theorem m_X3_measure_109 {Z : k_Z} {G : k_G} {w : Nat} {a2 : Nat} {n2 : Nat} (C : k_C Z G RX3 cX3_measure (true, 7, 2, 0, 0) none "measure") (hw : isW w) (ha2 : k_st a2 = (11, n2)) (M : k_M) : Sm Z G emV (true, 7, 2, 0, 0) (0, 0) 109 [] [] M (f_X3_measure_109 w a2 n2 M) := by
  show Sm Z G emV _ _ _ _ _ _ (some ((), M))
  exact x_vret C (by decide) (by decide) (k_dg dt_X3_measure_1 23 109 (.return_) 1 rfl)
def f_X3_measure (w : Nat) (a2 : Nat) (n2 : Nat) (p1 : Int32) (M : k_M) : Option (Unit × k_M) := bd (f_J7_fill_53178 a2 n2 10000 M) (fun r1 M2 => wrI M2 a2 n2 p1 0 (fun M3 => f_X3_measure_13 w a2 n2 k_fu 1 M3 (fun M_ => f_X3_measure_109 w a2 n2 M_)))
theorem m_X3_measure_0 {Z : k_Z} {G : k_G} {w : Nat} {a2 : Nat} {n2 : Nat} (C : k_C Z G RX3 cX3_measure (true, 7, 2, 0, 0) none "measure") (hw : isW w) (ha2 : k_st a2 = (11, n2)) (p1 : Int32) (M : k_M) : Sm Z G emV (true, 7, 2, 0, 0) (0, 0) 0 [(0, k_ra Z (w + 1)), (1, Value.int p1), (2, k_ra Z a2)] [] M (f_X3_measure w a2 n2 p1 M) := by
  show Sm Z G emV _ _ _ _ _ _ (bd (f_J7_fill_53178 a2 n2 10000 M) (fun r1 M2 => wrI M2 a2 n2 p1 0 (fun M3 => f_X3_measure_13 w a2 n2 k_fu 1 M3 (fun M_ => f_X3_measure_109 w a2 n2 M_))))
  refine x_aload_n C (k_dg dt_X3_measure_0 0 0 (.aload_n 2) 1 rfl) 2 rfl ?_
  refine x_sipush C (v := 10000) (k_dg dt_X3_measure_0 1 1 (.sipush 10000) 3 rfl) (by decide) ?_
  refine x_callS C (vs := [k_ra Z a2, Value.int 10000]) (rest := []) (c_J7_fill_53178 C.2.2.2.2.2.2.2.2.2 G.2.1 a2 n2 10000 M ha2) cy_J7_fill_53178 lk_RX3_83 stt_J7_fill_53178 (by decide) (by decide) (by decide) (by decide) rfl rfl (Nat.le_of_ble_eq_true rfl) (k_dg dt_X3_measure_0 2 4 (.invokestatic 83) 3 rfl) (fun r1 M2 => ?_)
  show Sm Z G _ _ _ _ [(0, k_ra Z (w + 1)), (1, Value.int p1), (2, k_ra Z a2)] [] _ _
  refine x_aload_n C (k_dg dt_X3_measure_0 3 7 (.aload_n 2) 1 rfl) 2 rfl ?_
  refine x_iload_n C (k_dg dt_X3_measure_0 4 8 (.iload_n 1) 1 rfl) 1 rfl ?_
  refine x_iconst C (v := 0) (k_dg dt_X3_measure_0 5 9 (.iconst 0) 1 rfl) (by decide) ?_
  refine x_iast C (a := a2) (n := n2) rfl ha2 (k_dg dt_X3_measure_0 6 10 (.iastore) 1 rfl) (fun M3 => ?_)
  refine x_iconst C (v := 1) (k_dg dt_X3_measure_0 7 11 (.iconst 1) 1 rfl) (by decide) ?_
  refine x_istore_n C (lv' := [(3, Value.int 1), (0, k_ra Z (w + 1)), (1, Value.int p1), (2, k_ra Z a2)]) (k_dg dt_X3_measure_0 8 12 (.istore_n 3) 1 rfl) (by decide) rfl ?_
  refine x_lv [1, 3, 0] rfl ?_
  exact m_X3_measure_13 C hw ha2 (fun M_ => f_X3_measure_109 w a2 n2 M_) (fun M_ => m_X3_measure_109 C hw ha2 M_) k_fu 1 M3
theorem c_X3_measure {Z : k_Z} (hg : k_Gd Z) (l : Launch) (w : Nat) (p1 : Int32) (a2 : Nat) (n2 : Nat) (M : k_M) (hw : isW w) (ha2 : k_st a2 = (11, n2)) : Con true Z l yX3_measure cX3_measure 7 none 2 0 0 emV [k_ra Z (w + 1), Value.int p1, k_ra Z a2] M (f_X3_measure w a2 n2 p1 M) := k_con hg (by decide) (Nat.le_of_ble_eq_true rfl) (fun G hl C => m_X3_measure_0 C hw ha2 p1 M)
theorem dt_X3_daysBetween_0 : k_dec cX3_daysBetween [(0, .aload_n 0, 1), (1, .iload_n 1, 1), (2, .aload_n 0, 1), (3, .getfield 53, 3), (6, .invokevirtual 89, 3), (9, .aload_n 0, 1), (10, .getfield 53, 3), (13, .iload_n 2, 1), (14, .iaload, 1), (15, .ireturn, 1)] = true := by decide +kernel
def f_X3_daysBetween (w : Nat) (p1 : Int32) (p2 : Int32) (M : k_M) : Option (Int32 × k_M) := bd (f_X3_measure w (w + 14) 8 p1 M) (fun r1 M2 => rdI M2 (w + 14) 8 p2 (fun v3 => some (v3, M2)))
theorem m_X3_daysBetween_0 {Z : k_Z} {G : k_G} {w : Nat} (C : k_C Z G RX3 cX3_daysBetween (true, 3, 3, 0, 0) (some .int) "daysBetween") (hw : isW w) (p1 : Int32) (p2 : Int32) (M : k_M) : Sm Z G emI (true, 3, 3, 0, 0) (0, 0) 0 [(0, k_ra Z (w + 1)), (1, Value.int p1), (2, Value.int p2)] [] M (f_X3_daysBetween w p1 p2 M) := by
  show Sm Z G emI _ _ _ _ _ _ (bd (f_X3_measure w (w + 14) 8 p1 M) (fun r1 M2 => rdI M2 (w + 14) 8 p2 (fun v3 => some (v3, M2))))
  refine x_aload_n C (k_dg dt_X3_daysBetween_0 0 0 (.aload_n 0) 1 rfl) 0 rfl ?_
  refine x_iload_n C (k_dg dt_X3_daysBetween_0 1 1 (.iload_n 1) 1 rfl) 1 rfl ?_
  refine x_aload_n C (k_dg dt_X3_daysBetween_0 2 2 (.aload_n 0) 1 rfl) 0 rfl ?_
  refine x_getR C (a := w + 1) (j := 14) (w + 14) rfl (kW 1 hw rfl) (by decide) fl_RX3_53 rfl rfl rfl (k_dg dt_X3_daysBetween_0 3 3 (.getfield 53) 3 rfl) ?_
  refine x_callV C (a := w + 1) (kd := 2) (vs := [Value.int p1, k_ra Z (w + 14)]) (rest := []) rfl (kW 1 hw rfl) (by decide) (fun r hr => by cases hr; rfl) (c_X3_measure C.2.2.2.2.2.2.2.2.2 G.2.1 w p1 (w + 14) 8 M hw (kW 14 hw rfl)) cy_X3_measure lk_RX3_89 im_X3_measure se_X3_measure (by decide) (by decide) (by decide) (by decide) rfl rfl (Nat.le_of_ble_eq_true rfl) (k_dg dt_X3_daysBetween_0 4 6 (.invokevirtual 89) 3 rfl) (fun r1 M2 => ?_)
  show Sm Z G _ _ _ _ [(0, k_ra Z (w + 1)), (1, Value.int p1), (2, Value.int p2)] [] _ _
  refine x_aload_n C (k_dg dt_X3_daysBetween_0 5 9 (.aload_n 0) 1 rfl) 0 rfl ?_
  refine x_getR C (a := w + 1) (j := 14) (w + 14) rfl (kW 1 hw rfl) (by decide) fl_RX3_53 rfl rfl rfl (k_dg dt_X3_daysBetween_0 6 10 (.getfield 53) 3 rfl) ?_
  refine x_iload_n C (k_dg dt_X3_daysBetween_0 7 13 (.iload_n 2) 1 rfl) 2 rfl ?_
  refine x_iald C (a := w + 14) (n := 8) rfl (kW 14 hw rfl) (k_dg dt_X3_daysBetween_0 8 14 (.iaload) 1 rfl) (fun v3 => ?_)
  exact x_iret C (by decide) (by decide) (k_dg dt_X3_daysBetween_0 9 15 (.ireturn) 1 rfl)
theorem c_X3_daysBetween {Z : k_Z} (hg : k_Gd Z) (l : Launch) (w : Nat) (p1 : Int32) (p2 : Int32) (M : k_M) (hw : isW w) : Con true Z l yX3_daysBetween cX3_daysBetween 3 (some .int) 3 0 0 emI [k_ra Z (w + 1), Value.int p1, Value.int p2] M (f_X3_daysBetween w p1 p2 M) := k_con hg (by decide) (Nat.le_of_ble_eq_true rfl) (fun G hl C => m_X3_daysBetween_0 C hw p1 p2 M)
theorem dt_X3_daysToMeet_0 : k_dec cX3_daysToMeet [(0, .aload_n 0, 1), (1, .iload_n 1, 1), (2, .aload_n 0, 1), (3, .getfield 53, 3), (6, .invokevirtual 89, 3), (9, .aload_n 0, 1), (10, .iload_n 2, 1), (11, .aload_n 0, 1), (12, .getfield 56, 3), (15, .invokevirtual 89, 3), (18, .sipush 10000, 3), (21, .istore_n 3, 1), (22, .iconst 0, 1), (23, .istore 4, 2), (25, .iload 4, 2), (27, .aload_n 0, 1), (28, .getfield 7, 3), (31, .if_icmp .ge 31, 3), (34, .iload_n 3, 1), (35, .aload_n 0, 1), (36, .getfield 53, 3), (39, .iload 4, 2), (41, .iaload, 1), (42, .aload_n 0, 1), (43, .getfield 56, 3), (46, .iload 4, 2), (48, .iaload, 1), (49, .invokestatic 93, 3), (52, .invokestatic 71, 3), (55, .istore_n 3, 1), (56, .iinc 4 1, 3), (59, .goto (-34), 3), (62, .iload_n 3, 1), (63, .ireturn, 1)] = true := by decide +kernel
def f_X3_daysToMeet_25 (w : Nat) : Nat → Int32 → Int32 → k_M → (Int32 → k_M → Option (Int32 × k_M)) → Option (Int32 × k_M)
  | 0, _, _, _, _ => none
  | n + 1, l3, l4, M, kx62 => if (M.1 (w + 1) 0) ≤ l4 then kx62 l3 M else rdI M (w + 14) 8 l4 (fun v1 => rdI M (w + 15) 8 l4 (fun v2 => bN (mnI l3 (mxI v1 v2)) (fun v3 => f_X3_daysToMeet_25 w n v3 (l4 + 1) M kx62)))
theorem m_X3_daysToMeet_25 {Z : k_Z} {G : k_G} {w : Nat} (C : k_C Z G RX3 cX3_daysToMeet (true, 5, 3, 0, 0) (some .int) "daysToMeet") (hw : isW w) (kx62 : Int32 → k_M → Option (Int32 × k_M)) (Hx62 : ∀ (l3 : Int32) (M : k_M), Sm Z G emI (true, 5, 3, 0, 0) (0, 0) 62 [(3, Value.int l3)] [] M (kx62 l3 M)) : ∀ (n : Nat) (l3 : Int32) (l4 : Int32) (M : k_M), Sm Z G emI (true, 5, 3, 0, 0) (0, 0) 25 [(0, k_ra Z (w + 1)), (3, Value.int l3), (4, Value.int l4)] [] M (f_X3_daysToMeet_25 w n l3 l4 M kx62)
  | 0, _, _, _ => x_none
  | n + 1, l3, l4, M => by
    have ih := m_X3_daysToMeet_25 C hw kx62 Hx62 n
    show Sm Z G emI _ _ _ _ _ _ (if (M.1 (w + 1) 0) ≤ l4 then kx62 l3 M else rdI M (w + 14) 8 l4 (fun v1 => rdI M (w + 15) 8 l4 (fun v2 => bN (mnI l3 (mxI v1 v2)) (fun v3 => f_X3_daysToMeet_25 w n v3 (l4 + 1) M kx62))))
    refine x_iload C (k_dg dt_X3_daysToMeet_0 14 25 (.iload 4) 2 rfl) 2 rfl ?_
    refine x_aload_n C (k_dg dt_X3_daysToMeet_0 15 27 (.aload_n 0) 1 rfl) 0 rfl ?_
    refine x_getI C (a := w + 1) (j := 0) rfl (kW 1 hw rfl) (by decide) fl_RX3_7 rfl (k_dg dt_X3_daysToMeet_0 16 28 (.getfield 7) 3 rfl) ?_
    refine x_icmp_ge C (tgt := 62) (k_dg dt_X3_daysToMeet_0 17 31 (.if_icmp .ge 31) 3 rfl) (by decide) (fun _ => ?_) (fun _ => ?_)
    · refine x_lv [1] rfl ?_
      exact Hx62 l3 M
    · refine x_iload_n C (k_dg dt_X3_daysToMeet_0 18 34 (.iload_n 3) 1 rfl) 1 rfl ?_
      refine x_aload_n C (k_dg dt_X3_daysToMeet_0 19 35 (.aload_n 0) 1 rfl) 0 rfl ?_
      refine x_getR C (a := w + 1) (j := 14) (w + 14) rfl (kW 1 hw rfl) (by decide) fl_RX3_53 rfl rfl rfl (k_dg dt_X3_daysToMeet_0 20 36 (.getfield 53) 3 rfl) ?_
      refine x_iload C (k_dg dt_X3_daysToMeet_0 21 39 (.iload 4) 2 rfl) 2 rfl ?_
      refine x_iald C (a := w + 14) (n := 8) rfl (kW 14 hw rfl) (k_dg dt_X3_daysToMeet_0 22 41 (.iaload) 1 rfl) (fun v1 => ?_)
      refine x_aload_n C (k_dg dt_X3_daysToMeet_0 23 42 (.aload_n 0) 1 rfl) 0 rfl ?_
      refine x_getR C (a := w + 1) (j := 15) (w + 15) rfl (kW 1 hw rfl) (by decide) fl_RX3_56 rfl rfl rfl (k_dg dt_X3_daysToMeet_0 24 43 (.getfield 56) 3 rfl) ?_
      refine x_iload C (k_dg dt_X3_daysToMeet_0 25 46 (.iload 4) 2 rfl) 2 rfl ?_
      refine x_iald C (a := w + 15) (n := 8) rfl (kW 15 hw rfl) (k_dg dt_X3_daysToMeet_0 26 48 (.iaload) 1 rfl) (fun v2 => ?_)
      refine x_max C ml_RX3_93 (by decide) (Nat.le_of_ble_eq_true rfl) (by decide) (by decide) (k_dg dt_X3_daysToMeet_0 27 49 (.invokestatic 93) 3 rfl) ?_
      refine x_min C ml_RX3_71 (by decide) (Nat.le_of_ble_eq_true rfl) (by decide) (by decide) (k_dg dt_X3_daysToMeet_0 28 52 (.invokestatic 71) 3 rfl) ?_
      refine x_nm (w := Value.int) (fun v3 _ => ?_)
      refine x_istore_n C (lv' := [(3, Value.int v3), (0, k_ra Z (w + 1)), (4, Value.int l4)]) (k_dg dt_X3_daysToMeet_0 29 55 (.istore_n 3) 1 rfl) (by decide) rfl ?_
      refine x_iinc C (v := 1) (lv' := [(4, Value.int (l4 + 1)), (3, Value.int v3), (0, k_ra Z (w + 1))]) (k_dg dt_X3_daysToMeet_0 30 56 (.iinc 4 1) 3 rfl) 2 rfl (by decide) (by decide) rfl ?_
      refine x_goto C (tgt := 25) (k_dg dt_X3_daysToMeet_0 31 59 (.goto (-34)) 3 rfl) (by decide) ?_
      refine x_lv [2, 1, 0] rfl ?_
      exact ih v3 (l4 + 1) M
def f_X3_daysToMeet_62 (w : Nat) (l3 : Int32) (M : k_M) : Option (Int32 × k_M) := some (l3, M)
theorem m_X3_daysToMeet_62 {Z : k_Z} {G : k_G} {w : Nat} (C : k_C Z G RX3 cX3_daysToMeet (true, 5, 3, 0, 0) (some .int) "daysToMeet") (hw : isW w) (l3 : Int32) (M : k_M) : Sm Z G emI (true, 5, 3, 0, 0) (0, 0) 62 [(3, Value.int l3)] [] M (f_X3_daysToMeet_62 w l3 M) := by
  show Sm Z G emI _ _ _ _ _ _ (some (l3, M))
  refine x_iload_n C (k_dg dt_X3_daysToMeet_0 32 62 (.iload_n 3) 1 rfl) 0 rfl ?_
  exact x_iret C (by decide) (by decide) (k_dg dt_X3_daysToMeet_0 33 63 (.ireturn) 1 rfl)
def f_X3_daysToMeet (w : Nat) (p1 : Int32) (p2 : Int32) (M : k_M) : Option (Int32 × k_M) := bd (f_X3_measure w (w + 14) 8 p1 M) (fun r1 M2 => bd (f_X3_measure w (w + 15) 8 p2 M2) (fun r3 M4 => f_X3_daysToMeet_25 w k_fu 10000 0 M4 (fun l3_ M_ => f_X3_daysToMeet_62 w l3_ M_)))
theorem m_X3_daysToMeet_0 {Z : k_Z} {G : k_G} {w : Nat} (C : k_C Z G RX3 cX3_daysToMeet (true, 5, 3, 0, 0) (some .int) "daysToMeet") (hw : isW w) (p1 : Int32) (p2 : Int32) (M : k_M) : Sm Z G emI (true, 5, 3, 0, 0) (0, 0) 0 [(0, k_ra Z (w + 1)), (1, Value.int p1), (2, Value.int p2)] [] M (f_X3_daysToMeet w p1 p2 M) := by
  show Sm Z G emI _ _ _ _ _ _ (bd (f_X3_measure w (w + 14) 8 p1 M) (fun r1 M2 => bd (f_X3_measure w (w + 15) 8 p2 M2) (fun r3 M4 => f_X3_daysToMeet_25 w k_fu 10000 0 M4 (fun l3_ M_ => f_X3_daysToMeet_62 w l3_ M_))))
  refine x_aload_n C (k_dg dt_X3_daysToMeet_0 0 0 (.aload_n 0) 1 rfl) 0 rfl ?_
  refine x_iload_n C (k_dg dt_X3_daysToMeet_0 1 1 (.iload_n 1) 1 rfl) 1 rfl ?_
  refine x_aload_n C (k_dg dt_X3_daysToMeet_0 2 2 (.aload_n 0) 1 rfl) 0 rfl ?_
  refine x_getR C (a := w + 1) (j := 14) (w + 14) rfl (kW 1 hw rfl) (by decide) fl_RX3_53 rfl rfl rfl (k_dg dt_X3_daysToMeet_0 3 3 (.getfield 53) 3 rfl) ?_
  refine x_callV C (a := w + 1) (kd := 2) (vs := [Value.int p1, k_ra Z (w + 14)]) (rest := []) rfl (kW 1 hw rfl) (by decide) (fun r hr => by cases hr; rfl) (c_X3_measure C.2.2.2.2.2.2.2.2.2 G.2.1 w p1 (w + 14) 8 M hw (kW 14 hw rfl)) cy_X3_measure lk_RX3_89 im_X3_measure se_X3_measure (by decide) (by decide) (by decide) (by decide) rfl rfl (Nat.le_of_ble_eq_true rfl) (k_dg dt_X3_daysToMeet_0 4 6 (.invokevirtual 89) 3 rfl) (fun r1 M2 => ?_)
  show Sm Z G _ _ _ _ [(0, k_ra Z (w + 1)), (1, Value.int p1), (2, Value.int p2)] [] _ _
  refine x_aload_n C (k_dg dt_X3_daysToMeet_0 5 9 (.aload_n 0) 1 rfl) 0 rfl ?_
  refine x_iload_n C (k_dg dt_X3_daysToMeet_0 6 10 (.iload_n 2) 1 rfl) 2 rfl ?_
  refine x_aload_n C (k_dg dt_X3_daysToMeet_0 7 11 (.aload_n 0) 1 rfl) 0 rfl ?_
  refine x_getR C (a := w + 1) (j := 15) (w + 15) rfl (kW 1 hw rfl) (by decide) fl_RX3_56 rfl rfl rfl (k_dg dt_X3_daysToMeet_0 8 12 (.getfield 56) 3 rfl) ?_
  refine x_callV C (a := w + 1) (kd := 2) (vs := [Value.int p2, k_ra Z (w + 15)]) (rest := []) rfl (kW 1 hw rfl) (by decide) (fun r hr => by cases hr; rfl) (c_X3_measure C.2.2.2.2.2.2.2.2.2 G.2.1 w p2 (w + 15) 8 M2 hw (kW 15 hw rfl)) cy_X3_measure lk_RX3_89 im_X3_measure se_X3_measure (by decide) (by decide) (by decide) (by decide) rfl rfl (Nat.le_of_ble_eq_true rfl) (k_dg dt_X3_daysToMeet_0 9 15 (.invokevirtual 89) 3 rfl) (fun r3 M4 => ?_)
  show Sm Z G _ _ _ _ [(0, k_ra Z (w + 1)), (1, Value.int p1), (2, Value.int p2)] [] _ _
  refine x_sipush C (v := 10000) (k_dg dt_X3_daysToMeet_0 10 18 (.sipush 10000) 3 rfl) (by decide) ?_
  refine x_istore_n C (lv' := [(3, Value.int 10000), (0, k_ra Z (w + 1)), (1, Value.int p1), (2, Value.int p2)]) (k_dg dt_X3_daysToMeet_0 11 21 (.istore_n 3) 1 rfl) (by decide) rfl ?_
  refine x_iconst C (v := 0) (k_dg dt_X3_daysToMeet_0 12 22 (.iconst 0) 1 rfl) (by decide) ?_
  refine x_istore C (lv' := [(4, Value.int 0), (3, Value.int 10000), (0, k_ra Z (w + 1)), (1, Value.int p1), (2, Value.int p2)]) (k_dg dt_X3_daysToMeet_0 13 23 (.istore 4) 2 rfl) (by decide) rfl ?_
  refine x_lv [2, 1, 0] rfl ?_
  exact m_X3_daysToMeet_25 C hw (fun l3_ M_ => f_X3_daysToMeet_62 w l3_ M_) (fun l3_ M_ => m_X3_daysToMeet_62 C hw l3_ M_) k_fu 10000 0 M4
theorem c_X3_daysToMeet {Z : k_Z} (hg : k_Gd Z) (l : Launch) (w : Nat) (p1 : Int32) (p2 : Int32) (M : k_M) (hw : isW w) : Con true Z l yX3_daysToMeet cX3_daysToMeet 5 (some .int) 3 0 0 emI [k_ra Z (w + 1), Value.int p1, Value.int p2] M (f_X3_daysToMeet w p1 p2 M) := k_con hg (by decide) (Nat.le_of_ble_eq_true rfl) (fun G hl C => m_X3_daysToMeet_0 C hw p1 p2 M)
theorem dt_X3_nearestFor_0 : k_dec cX3_nearestFor [(0, .aload_n 0, 1), (1, .iload_n 2, 1), (2, .aload_n 0, 1), (3, .getfield 53, 3), (6, .invokevirtual 89, 3), (9, .iconst (-1), 1), (10, .istore_n 3, 1), (11, .sipush 10000, 3), (14, .istore 4, 2), (16, .iconst 0, 1), (17, .istore 5, 2), (19, .iload 5, 2), (21, .aload_n 0, 1), (22, .getfield 7, 3), (25, .if_icmp .ge 48, 3), (28, .getstatic 96, 3), (31, .aload_n 0, 1), (32, .getfield 13, 3), (35, .iload 5, 2), (37, .iaload, 1), (38, .iaload, 1), (39, .iload_n 1, 1), (40, .if_icmp .ne 27, 3), (43, .aload_n 0, 1), (44, .getfield 53, 3), (47, .iload 5, 2), (49, .iaload, 1), (50, .iload 4, 2), (52, .if_icmp .ge 15, 3), (55, .iload 5, 2), (57, .istore_n 3, 1), (58, .aload_n 0, 1), (59, .getfield 53, 3), (62, .iload 5, 2), (64, .iaload, 1), (65, .istore 4, 2), (67, .iinc 5 1, 3), (70, .goto (-51), 3), (73, .iload_n 3, 1), (74, .ireturn, 1)] = true := by decide +kernel
def f_X3_nearestFor_67 (w : Nat) (l1 : Int32) (l3 : Int32) (l4 : Int32) (l5 : Int32) (M : k_M) (kb : Int32 → Int32 → Int32 → Int32 → k_M → Option (Int32 × k_M)) (kx73 : Int32 → k_M → Option (Int32 × k_M)) : Option (Int32 × k_M) := kb l1 l3 l4 (l5 + 1) M
theorem m_X3_nearestFor_67 {Z : k_Z} {G : k_G} {w : Nat} (C : k_C Z G RX3 cX3_nearestFor (true, 6, 3, 0, 0) (some .int) "nearestFor") (hw : isW w) (kb : Int32 → Int32 → Int32 → Int32 → k_M → Option (Int32 × k_M)) (kx73 : Int32 → k_M → Option (Int32 × k_M)) (Hb : ∀ (l1 : Int32) (l3 : Int32) (l4 : Int32) (l5 : Int32) (M : k_M), Sm Z G emI (true, 6, 3, 0, 0) (0, 0) 19 [(0, k_ra Z (w + 1)), (1, Value.int l1), (3, Value.int l3), (4, Value.int l4), (5, Value.int l5)] [] M (kb l1 l3 l4 l5 M)) (Hx73 : ∀ (l3 : Int32) (M : k_M), Sm Z G emI (true, 6, 3, 0, 0) (0, 0) 73 [(3, Value.int l3)] [] M (kx73 l3 M)) (l1 : Int32) (l3 : Int32) (l4 : Int32) (l5 : Int32) (M : k_M) : Sm Z G emI (true, 6, 3, 0, 0) (0, 0) 67 [(0, k_ra Z (w + 1)), (1, Value.int l1), (3, Value.int l3), (4, Value.int l4), (5, Value.int l5)] [] M (f_X3_nearestFor_67 w l1 l3 l4 l5 M kb kx73) := by
  show Sm Z G emI _ _ _ _ _ _ (kb l1 l3 l4 (l5 + 1) M)
  refine x_iinc C (v := 1) (lv' := [(5, Value.int (l5 + 1)), (0, k_ra Z (w + 1)), (1, Value.int l1), (3, Value.int l3), (4, Value.int l4)]) (k_dg dt_X3_nearestFor_0 36 67 (.iinc 5 1) 3 rfl) 4 rfl (by decide) (by decide) rfl ?_
  refine x_goto C (tgt := 19) (k_dg dt_X3_nearestFor_0 37 70 (.goto (-51)) 3 rfl) (by decide) ?_
  refine x_lv [1, 2, 3, 4, 0] rfl ?_
  exact Hb l1 l3 l4 (l5 + 1) M
def f_X3_nearestFor_19 (w : Nat) : Nat → Int32 → Int32 → Int32 → Int32 → k_M → (Int32 → k_M → Option (Int32 × k_M)) → Option (Int32 × k_M)
  | 0, _, _, _, _, _, _ => none
  | n + 1, l1, l3, l4, l5, M, kx73 => if (M.1 (w + 1) 0) ≤ l5 then kx73 l3 M else rdI M (w + 2) 8 l5 (fun v1 => rdT 2 v1 (fun v2 => if v2 = l1 then rdI M (w + 14) 8 l5 (fun v3 => if l4 ≤ v3 then f_X3_nearestFor_67 w l1 l3 l4 l5 M ((fun l1_ l3_ l4_ l5_ M_ => f_X3_nearestFor_19 w n l1_ l3_ l4_ l5_ M_ kx73)) kx73 else rdI M (w + 14) 8 l5 (fun v4 => f_X3_nearestFor_67 w l1 l5 v4 l5 M ((fun l1_ l3_ l4_ l5_ M_ => f_X3_nearestFor_19 w n l1_ l3_ l4_ l5_ M_ kx73)) kx73)) else f_X3_nearestFor_67 w l1 l3 l4 l5 M ((fun l1_ l3_ l4_ l5_ M_ => f_X3_nearestFor_19 w n l1_ l3_ l4_ l5_ M_ kx73)) kx73))
theorem m_X3_nearestFor_19 {Z : k_Z} {G : k_G} {w : Nat} (C : k_C Z G RX3 cX3_nearestFor (true, 6, 3, 0, 0) (some .int) "nearestFor") (hw : isW w) (kx73 : Int32 → k_M → Option (Int32 × k_M)) (Hx73 : ∀ (l3 : Int32) (M : k_M), Sm Z G emI (true, 6, 3, 0, 0) (0, 0) 73 [(3, Value.int l3)] [] M (kx73 l3 M)) : ∀ (n : Nat) (l1 : Int32) (l3 : Int32) (l4 : Int32) (l5 : Int32) (M : k_M), Sm Z G emI (true, 6, 3, 0, 0) (0, 0) 19 [(0, k_ra Z (w + 1)), (1, Value.int l1), (3, Value.int l3), (4, Value.int l4), (5, Value.int l5)] [] M (f_X3_nearestFor_19 w n l1 l3 l4 l5 M kx73)
  | 0, _, _, _, _, _ => x_none
  | n + 1, l1, l3, l4, l5, M => by
    have ih := m_X3_nearestFor_19 C hw kx73 Hx73 n
    show Sm Z G emI _ _ _ _ _ _ (if (M.1 (w + 1) 0) ≤ l5 then kx73 l3 M else rdI M (w + 2) 8 l5 (fun v1 => rdT 2 v1 (fun v2 => if v2 = l1 then rdI M (w + 14) 8 l5 (fun v3 => if l4 ≤ v3 then f_X3_nearestFor_67 w l1 l3 l4 l5 M ((fun l1_ l3_ l4_ l5_ M_ => f_X3_nearestFor_19 w n l1_ l3_ l4_ l5_ M_ kx73)) kx73 else rdI M (w + 14) 8 l5 (fun v4 => f_X3_nearestFor_67 w l1 l5 v4 l5 M ((fun l1_ l3_ l4_ l5_ M_ => f_X3_nearestFor_19 w n l1_ l3_ l4_ l5_ M_ kx73)) kx73)) else f_X3_nearestFor_67 w l1 l3 l4 l5 M ((fun l1_ l3_ l4_ l5_ M_ => f_X3_nearestFor_19 w n l1_ l3_ l4_ l5_ M_ kx73)) kx73)))
    refine x_iload C (k_dg dt_X3_nearestFor_0 11 19 (.iload 5) 2 rfl) 4 rfl ?_
    refine x_aload_n C (k_dg dt_X3_nearestFor_0 12 21 (.aload_n 0) 1 rfl) 0 rfl ?_
    refine x_getI C (a := w + 1) (j := 0) rfl (kW 1 hw rfl) (by decide) fl_RX3_7 rfl (k_dg dt_X3_nearestFor_0 13 22 (.getfield 7) 3 rfl) ?_
    refine x_icmp_ge C (tgt := 73) (k_dg dt_X3_nearestFor_0 14 25 (.if_icmp .ge 48) 3 rfl) (by decide) (fun _ => ?_) (fun _ => ?_)
    · refine x_lv [2] rfl ?_
      exact Hx73 l3 M
    · refine x_gets C (t := 2) (by decide) gs_RX3_96 (k_dg dt_X3_nearestFor_0 15 28 (.getstatic 96) 3 rfl) ?_
      refine x_aload_n C (k_dg dt_X3_nearestFor_0 16 31 (.aload_n 0) 1 rfl) 0 rfl ?_
      refine x_getR C (a := w + 1) (j := 1) (w + 2) rfl (kW 1 hw rfl) (by decide) fl_RX3_13 rfl rfl rfl (k_dg dt_X3_nearestFor_0 17 32 (.getfield 13) 3 rfl) ?_
      refine x_iload C (k_dg dt_X3_nearestFor_0 18 35 (.iload 5) 2 rfl) 4 rfl ?_
      refine x_iald C (a := w + 2) (n := 8) rfl (kW 2 hw rfl) (k_dg dt_X3_nearestFor_0 19 37 (.iaload) 1 rfl) (fun v1 => ?_)
      refine x_tald C (t := 2) (by decide) (k_dg dt_X3_nearestFor_0 20 38 (.iaload) 1 rfl) (fun v2 => ?_)
      refine x_iload_n C (k_dg dt_X3_nearestFor_0 21 39 (.iload_n 1) 1 rfl) 1 rfl ?_
      refine x_icmp_ne C (tgt := 67) (k_dg dt_X3_nearestFor_0 22 40 (.if_icmp .ne 27) 3 rfl) (by decide) (fun _ => ?_) (fun _ => ?_)
      · refine x_aload_n C (k_dg dt_X3_nearestFor_0 23 43 (.aload_n 0) 1 rfl) 0 rfl ?_
        refine x_getR C (a := w + 1) (j := 14) (w + 14) rfl (kW 1 hw rfl) (by decide) fl_RX3_53 rfl rfl rfl (k_dg dt_X3_nearestFor_0 24 44 (.getfield 53) 3 rfl) ?_
        refine x_iload C (k_dg dt_X3_nearestFor_0 25 47 (.iload 5) 2 rfl) 4 rfl ?_
        refine x_iald C (a := w + 14) (n := 8) rfl (kW 14 hw rfl) (k_dg dt_X3_nearestFor_0 26 49 (.iaload) 1 rfl) (fun v3 => ?_)
        refine x_iload C (k_dg dt_X3_nearestFor_0 27 50 (.iload 4) 2 rfl) 3 rfl ?_
        refine x_icmp_ge C (tgt := 67) (k_dg dt_X3_nearestFor_0 28 52 (.if_icmp .ge 15) 3 rfl) (by decide) (fun _ => ?_) (fun _ => ?_)
        · exact m_X3_nearestFor_67 C hw ((fun l1_ l3_ l4_ l5_ M_ => f_X3_nearestFor_19 w n l1_ l3_ l4_ l5_ M_ kx73)) kx73 ih Hx73 l1 l3 l4 l5 M
        · refine x_iload C (k_dg dt_X3_nearestFor_0 29 55 (.iload 5) 2 rfl) 4 rfl ?_
          refine x_istore_n C (lv' := [(3, Value.int l5), (0, k_ra Z (w + 1)), (1, Value.int l1), (4, Value.int l4), (5, Value.int l5)]) (k_dg dt_X3_nearestFor_0 30 57 (.istore_n 3) 1 rfl) (by decide) rfl ?_
          refine x_aload_n C (k_dg dt_X3_nearestFor_0 31 58 (.aload_n 0) 1 rfl) 1 rfl ?_
          refine x_getR C (a := w + 1) (j := 14) (w + 14) rfl (kW 1 hw rfl) (by decide) fl_RX3_53 rfl rfl rfl (k_dg dt_X3_nearestFor_0 32 59 (.getfield 53) 3 rfl) ?_
          refine x_iload C (k_dg dt_X3_nearestFor_0 33 62 (.iload 5) 2 rfl) 4 rfl ?_
          refine x_iald C (a := w + 14) (n := 8) rfl (kW 14 hw rfl) (k_dg dt_X3_nearestFor_0 34 64 (.iaload) 1 rfl) (fun v4 => ?_)
          refine x_istore C (lv' := [(4, Value.int v4), (3, Value.int l5), (0, k_ra Z (w + 1)), (1, Value.int l1), (5, Value.int l5)]) (k_dg dt_X3_nearestFor_0 35 65 (.istore 4) 2 rfl) (by decide) rfl ?_
          refine x_lv [2, 3, 1, 0, 4] rfl ?_
          exact m_X3_nearestFor_67 C hw ((fun l1_ l3_ l4_ l5_ M_ => f_X3_nearestFor_19 w n l1_ l3_ l4_ l5_ M_ kx73)) kx73 ih Hx73 l1 l5 v4 l5 M
      · exact m_X3_nearestFor_67 C hw ((fun l1_ l3_ l4_ l5_ M_ => f_X3_nearestFor_19 w n l1_ l3_ l4_ l5_ M_ kx73)) kx73 ih Hx73 l1 l3 l4 l5 M
def f_X3_nearestFor_73 (w : Nat) (l3 : Int32) (M : k_M) : Option (Int32 × k_M) := some (l3, M)
theorem m_X3_nearestFor_73 {Z : k_Z} {G : k_G} {w : Nat} (C : k_C Z G RX3 cX3_nearestFor (true, 6, 3, 0, 0) (some .int) "nearestFor") (hw : isW w) (l3 : Int32) (M : k_M) : Sm Z G emI (true, 6, 3, 0, 0) (0, 0) 73 [(3, Value.int l3)] [] M (f_X3_nearestFor_73 w l3 M) := by
  show Sm Z G emI _ _ _ _ _ _ (some (l3, M))
  refine x_iload_n C (k_dg dt_X3_nearestFor_0 38 73 (.iload_n 3) 1 rfl) 0 rfl ?_
  exact x_iret C (by decide) (by decide) (k_dg dt_X3_nearestFor_0 39 74 (.ireturn) 1 rfl)
def f_X3_nearestFor (w : Nat) (p1 : Int32) (p2 : Int32) (M : k_M) : Option (Int32 × k_M) := bd (f_X3_measure w (w + 14) 8 p2 M) (fun r1 M2 => bN (-1) (fun v3 => f_X3_nearestFor_19 w k_fu p1 v3 10000 0 M2 (fun l3_ M_ => f_X3_nearestFor_73 w l3_ M_)))
theorem m_X3_nearestFor_0 {Z : k_Z} {G : k_G} {w : Nat} (C : k_C Z G RX3 cX3_nearestFor (true, 6, 3, 0, 0) (some .int) "nearestFor") (hw : isW w) (p1 : Int32) (p2 : Int32) (M : k_M) : Sm Z G emI (true, 6, 3, 0, 0) (0, 0) 0 [(0, k_ra Z (w + 1)), (1, Value.int p1), (2, Value.int p2)] [] M (f_X3_nearestFor w p1 p2 M) := by
  show Sm Z G emI _ _ _ _ _ _ (bd (f_X3_measure w (w + 14) 8 p2 M) (fun r1 M2 => bN (-1) (fun v3 => f_X3_nearestFor_19 w k_fu p1 v3 10000 0 M2 (fun l3_ M_ => f_X3_nearestFor_73 w l3_ M_))))
  refine x_aload_n C (k_dg dt_X3_nearestFor_0 0 0 (.aload_n 0) 1 rfl) 0 rfl ?_
  refine x_iload_n C (k_dg dt_X3_nearestFor_0 1 1 (.iload_n 2) 1 rfl) 2 rfl ?_
  refine x_aload_n C (k_dg dt_X3_nearestFor_0 2 2 (.aload_n 0) 1 rfl) 0 rfl ?_
  refine x_getR C (a := w + 1) (j := 14) (w + 14) rfl (kW 1 hw rfl) (by decide) fl_RX3_53 rfl rfl rfl (k_dg dt_X3_nearestFor_0 3 3 (.getfield 53) 3 rfl) ?_
  refine x_callV C (a := w + 1) (kd := 2) (vs := [Value.int p2, k_ra Z (w + 14)]) (rest := []) rfl (kW 1 hw rfl) (by decide) (fun r hr => by cases hr; rfl) (c_X3_measure C.2.2.2.2.2.2.2.2.2 G.2.1 w p2 (w + 14) 8 M hw (kW 14 hw rfl)) cy_X3_measure lk_RX3_89 im_X3_measure se_X3_measure (by decide) (by decide) (by decide) (by decide) rfl rfl (Nat.le_of_ble_eq_true rfl) (k_dg dt_X3_nearestFor_0 4 6 (.invokevirtual 89) 3 rfl) (fun r1 M2 => ?_)
  show Sm Z G _ _ _ _ [(0, k_ra Z (w + 1)), (1, Value.int p1), (2, Value.int p2)] [] _ _
  refine x_iconst C (v := -1) (k_dg dt_X3_nearestFor_0 5 9 (.iconst (-1)) 1 rfl) (by decide) ?_
  refine x_nm (w := Value.int) (fun v3 _ => ?_)
  refine x_istore_n C (lv' := [(3, Value.int v3), (0, k_ra Z (w + 1)), (1, Value.int p1), (2, Value.int p2)]) (k_dg dt_X3_nearestFor_0 6 10 (.istore_n 3) 1 rfl) (by decide) rfl ?_
  refine x_sipush C (v := 10000) (k_dg dt_X3_nearestFor_0 7 11 (.sipush 10000) 3 rfl) (by decide) ?_
  refine x_istore C (lv' := [(4, Value.int 10000), (3, Value.int v3), (0, k_ra Z (w + 1)), (1, Value.int p1), (2, Value.int p2)]) (k_dg dt_X3_nearestFor_0 8 14 (.istore 4) 2 rfl) (by decide) rfl ?_
  refine x_iconst C (v := 0) (k_dg dt_X3_nearestFor_0 9 16 (.iconst 0) 1 rfl) (by decide) ?_
  refine x_istore C (lv' := [(5, Value.int 0), (4, Value.int 10000), (3, Value.int v3), (0, k_ra Z (w + 1)), (1, Value.int p1), (2, Value.int p2)]) (k_dg dt_X3_nearestFor_0 10 17 (.istore 5) 2 rfl) (by decide) rfl ?_
  refine x_lv [3, 4, 2, 1, 0] rfl ?_
  exact m_X3_nearestFor_19 C hw (fun l3_ M_ => f_X3_nearestFor_73 w l3_ M_) (fun l3_ M_ => m_X3_nearestFor_73 C hw l3_ M_) k_fu p1 v3 10000 0 M2
theorem c_X3_nearestFor {Z : k_Z} (hg : k_Gd Z) (l : Launch) (w : Nat) (p1 : Int32) (p2 : Int32) (M : k_M) (hw : isW w) : Con true Z l yX3_nearestFor cX3_nearestFor 6 (some .int) 3 0 0 emI [k_ra Z (w + 1), Value.int p1, Value.int p2] M (f_X3_nearestFor w p1 p2 M) := k_con hg (by decide) (Nat.le_of_ble_eq_true rfl) (fun G hl C => m_X3_nearestFor_0 C hw p1 p2 M)
theorem dt_X3_wayTowards_0 : k_dec cX3_wayTowards [(0, .aload_n 0, 1), (1, .iload_n 1, 1), (2, .aload_n 0, 1), (3, .getfield 56, 3), (6, .invokevirtual 89, 3), (9, .iconst 0, 1), (10, .istore_n 3, 1), (11, .iload_n 3, 1), (12, .aload_n 0, 1), (13, .getfield 26, 3), (16, .iload_n 2, 1), (17, .iaload, 1), (18, .if_icmp .ge 53, 3), (21, .aload_n 0, 1), (22, .getfield 29, 3), (25, .iload_n 2, 1), (26, .iconst 4, 1), (27, .imul, 1), (28, .iload_n 3, 1), (29, .iadd, 1), (30, .iaload, 1), (31, .istore 4, 2), (33, .aload_n 0, 1), (34, .getfield 41, 3), (37, .iload 4, 2), (39, .iaload, 1), (40, .aload_n 0, 1), (41, .getfield 56, 3), (44, .aload_n 0, 1), (45, .iload 4, 2), (47, .iload_n 2, 1), (48, .invokevirtual 99, 3), (51, .iaload, 1), (52, .iadd, 1), (53, .aload_n 0, 1), (54, .getfield 56, 3), (57, .iload_n 2, 1), (58, .iaload, 1), (59, .if_icmp .ne 6, 3), (62, .iload 4, 2)] = true := by decide +kernel
theorem dt_X3_wayTowards_1 : k_dec cX3_wayTowards [(64, .ireturn, 1), (65, .iinc 3 1, 3), (68, .goto (-57), 3), (71, .iconst (-1), 1), (72, .ireturn, 1)] = true := by decide +kernel
def f_X3_wayTowards_11 (w : Nat) : Nat → Int32 → Int32 → k_M → (Int32 → k_M → Option (Int32 × k_M)) → (k_M → Option (Int32 × k_M)) → Option (Int32 × k_M)
  | 0, _, _, _, _, _ => none
  | n + 1, l2, l3, M, kx62, kx71 => rdI M (w + 6) 8 l2 (fun v1 => if v1 ≤ l3 then kx71 M else rdI M (w + 7) 32 ((l2 * 4) + l3) (fun v2 => rdI M (w + 10) 12 v2 (fun v3 => bd (f_X3_farEnd w v2 l2 M) (fun r4 M5 => rdI M5 (w + 15) 8 r4 (fun v6 => rdI M5 (w + 15) 8 l2 (fun v7 => if (v3 + v6) = v7 then kx62 v2 M5 else f_X3_wayTowards_11 w n l2 (l3 + 1) M5 kx62 kx71))))))
theorem m_X3_wayTowards_11 {Z : k_Z} {G : k_G} {w : Nat} (C : k_C Z G RX3 cX3_wayTowards (true, 5, 3, 0, 0) (some .int) "wayTowards") (hw : isW w) (kx62 : Int32 → k_M → Option (Int32 × k_M)) (kx71 : k_M → Option (Int32 × k_M)) (Hx62 : ∀ (l4 : Int32) (M : k_M), Sm Z G emI (true, 5, 3, 0, 0) (0, 0) 62 [(4, Value.int l4)] [] M (kx62 l4 M)) (Hx71 : ∀ (M : k_M), Sm Z G emI (true, 5, 3, 0, 0) (0, 0) 71 [] [] M (kx71 M)) : ∀ (n : Nat) (l2 : Int32) (l3 : Int32) (M : k_M), Sm Z G emI (true, 5, 3, 0, 0) (0, 0) 11 [(0, k_ra Z (w + 1)), (2, Value.int l2), (3, Value.int l3)] [] M (f_X3_wayTowards_11 w n l2 l3 M kx62 kx71)
  | 0, _, _, _ => x_none
  | n + 1, l2, l3, M => by
    have ih := m_X3_wayTowards_11 C hw kx62 kx71 Hx62 Hx71 n
    show Sm Z G emI _ _ _ _ _ _ (rdI M (w + 6) 8 l2 (fun v1 => if v1 ≤ l3 then kx71 M else rdI M (w + 7) 32 ((l2 * 4) + l3) (fun v2 => rdI M (w + 10) 12 v2 (fun v3 => bd (f_X3_farEnd w v2 l2 M) (fun r4 M5 => rdI M5 (w + 15) 8 r4 (fun v6 => rdI M5 (w + 15) 8 l2 (fun v7 => if (v3 + v6) = v7 then kx62 v2 M5 else f_X3_wayTowards_11 w n l2 (l3 + 1) M5 kx62 kx71)))))))
    refine x_iload_n C (k_dg dt_X3_wayTowards_0 7 11 (.iload_n 3) 1 rfl) 2 rfl ?_
    refine x_aload_n C (k_dg dt_X3_wayTowards_0 8 12 (.aload_n 0) 1 rfl) 0 rfl ?_
    refine x_getR C (a := w + 1) (j := 5) (w + 6) rfl (kW 1 hw rfl) (by decide) fl_RX3_26 rfl rfl rfl (k_dg dt_X3_wayTowards_0 9 13 (.getfield 26) 3 rfl) ?_
    refine x_iload_n C (k_dg dt_X3_wayTowards_0 10 16 (.iload_n 2) 1 rfl) 1 rfl ?_
    refine x_iald C (a := w + 6) (n := 8) rfl (kW 6 hw rfl) (k_dg dt_X3_wayTowards_0 11 17 (.iaload) 1 rfl) (fun v1 => ?_)
    refine x_icmp_ge C (tgt := 71) (k_dg dt_X3_wayTowards_0 12 18 (.if_icmp .ge 53) 3 rfl) (by decide) (fun _ => ?_) (fun _ => ?_)
    · refine x_lv [] rfl ?_
      exact Hx71 M
    · refine x_aload_n C (k_dg dt_X3_wayTowards_0 13 21 (.aload_n 0) 1 rfl) 0 rfl ?_
      refine x_getR C (a := w + 1) (j := 6) (w + 7) rfl (kW 1 hw rfl) (by decide) fl_RX3_29 rfl rfl rfl (k_dg dt_X3_wayTowards_0 14 22 (.getfield 29) 3 rfl) ?_
      refine x_iload_n C (k_dg dt_X3_wayTowards_0 15 25 (.iload_n 2) 1 rfl) 1 rfl ?_
      refine x_iconst C (v := 4) (k_dg dt_X3_wayTowards_0 16 26 (.iconst 4) 1 rfl) (by decide) ?_
      refine x_imul C (k_dg dt_X3_wayTowards_0 17 27 (.imul) 1 rfl) ?_
      refine x_iload_n C (k_dg dt_X3_wayTowards_0 18 28 (.iload_n 3) 1 rfl) 2 rfl ?_
      refine x_iadd C (k_dg dt_X3_wayTowards_0 19 29 (.iadd) 1 rfl) ?_
      refine x_iald C (a := w + 7) (n := 32) rfl (kW 7 hw rfl) (k_dg dt_X3_wayTowards_0 20 30 (.iaload) 1 rfl) (fun v2 => ?_)
      refine x_istore C (lv' := [(4, Value.int v2), (0, k_ra Z (w + 1)), (2, Value.int l2), (3, Value.int l3)]) (k_dg dt_X3_wayTowards_0 21 31 (.istore 4) 2 rfl) (by decide) rfl ?_
      refine x_aload_n C (k_dg dt_X3_wayTowards_0 22 33 (.aload_n 0) 1 rfl) 1 rfl ?_
      refine x_getR C (a := w + 1) (j := 10) (w + 10) rfl (kW 1 hw rfl) (by decide) fl_RX3_41 rfl rfl rfl (k_dg dt_X3_wayTowards_0 23 34 (.getfield 41) 3 rfl) ?_
      refine x_iload C (k_dg dt_X3_wayTowards_0 24 37 (.iload 4) 2 rfl) 0 rfl ?_
      refine x_iald C (a := w + 10) (n := 12) rfl (kW 10 hw rfl) (k_dg dt_X3_wayTowards_0 25 39 (.iaload) 1 rfl) (fun v3 => ?_)
      refine x_aload_n C (k_dg dt_X3_wayTowards_0 26 40 (.aload_n 0) 1 rfl) 1 rfl ?_
      refine x_getR C (a := w + 1) (j := 15) (w + 15) rfl (kW 1 hw rfl) (by decide) fl_RX3_56 rfl rfl rfl (k_dg dt_X3_wayTowards_0 27 41 (.getfield 56) 3 rfl) ?_
      refine x_aload_n C (k_dg dt_X3_wayTowards_0 28 44 (.aload_n 0) 1 rfl) 1 rfl ?_
      refine x_iload C (k_dg dt_X3_wayTowards_0 29 45 (.iload 4) 2 rfl) 0 rfl ?_
      refine x_iload_n C (k_dg dt_X3_wayTowards_0 30 47 (.iload_n 2) 1 rfl) 2 rfl ?_
      refine x_callV C (a := w + 1) (kd := 2) (vs := [Value.int v2, Value.int l2]) (rest := [k_ra Z (w + 15), Value.int v3]) rfl (kW 1 hw rfl) (by decide) (fun r hr => by cases hr; rfl) (c_X3_farEnd C.2.2.2.2.2.2.2.2.2 G.2.1 w v2 l2 M hw) cy_X3_farEnd lk_RX3_99 im_X3_farEnd se_X3_farEnd (by decide) (by decide) (by decide) (by decide) rfl rfl (Nat.le_of_ble_eq_true rfl) (k_dg dt_X3_wayTowards_0 31 48 (.invokevirtual 99) 3 rfl) (fun r4 M5 => ?_)
      show Sm Z G _ _ _ _ [(4, Value.int v2), (0, k_ra Z (w + 1)), (2, Value.int l2), (3, Value.int l3)] [Value.int r4, k_ra Z (w + 15), Value.int v3] _ _
      refine x_iald C (a := w + 15) (n := 8) rfl (kW 15 hw rfl) (k_dg dt_X3_wayTowards_0 32 51 (.iaload) 1 rfl) (fun v6 => ?_)
      refine x_iadd C (k_dg dt_X3_wayTowards_0 33 52 (.iadd) 1 rfl) ?_
      refine x_aload_n C (k_dg dt_X3_wayTowards_0 34 53 (.aload_n 0) 1 rfl) 1 rfl ?_
      refine x_getR C (a := w + 1) (j := 15) (w + 15) rfl (kW 1 hw rfl) (by decide) fl_RX3_56 rfl rfl rfl (k_dg dt_X3_wayTowards_0 35 54 (.getfield 56) 3 rfl) ?_
      refine x_iload_n C (k_dg dt_X3_wayTowards_0 36 57 (.iload_n 2) 1 rfl) 2 rfl ?_
      refine x_iald C (a := w + 15) (n := 8) rfl (kW 15 hw rfl) (k_dg dt_X3_wayTowards_0 37 58 (.iaload) 1 rfl) (fun v7 => ?_)
      refine x_icmp_ne C (tgt := 65) (k_dg dt_X3_wayTowards_0 38 59 (.if_icmp .ne 6) 3 rfl) (by decide) (fun _ => ?_) (fun _ => ?_)
      · refine x_lv [0] rfl ?_
        exact Hx62 v2 M5
      · refine x_iinc C (v := 1) (lv' := [(3, Value.int (l3 + 1)), (4, Value.int v2), (0, k_ra Z (w + 1)), (2, Value.int l2)]) (k_dg dt_X3_wayTowards_1 1 65 (.iinc 3 1) 3 rfl) 3 rfl (by decide) (by decide) rfl ?_
        refine x_goto C (tgt := 11) (k_dg dt_X3_wayTowards_1 2 68 (.goto (-57)) 3 rfl) (by decide) ?_
        refine x_lv [2, 3, 0] rfl ?_
        exact ih l2 (l3 + 1) M5
def f_X3_wayTowards_62 (w : Nat) (l4 : Int32) (M : k_M) : Option (Int32 × k_M) := some (l4, M)
theorem m_X3_wayTowards_62 {Z : k_Z} {G : k_G} {w : Nat} (C : k_C Z G RX3 cX3_wayTowards (true, 5, 3, 0, 0) (some .int) "wayTowards") (hw : isW w) (l4 : Int32) (M : k_M) : Sm Z G emI (true, 5, 3, 0, 0) (0, 0) 62 [(4, Value.int l4)] [] M (f_X3_wayTowards_62 w l4 M) := by
  show Sm Z G emI _ _ _ _ _ _ (some (l4, M))
  refine x_iload C (k_dg dt_X3_wayTowards_0 39 62 (.iload 4) 2 rfl) 0 rfl ?_
  exact x_iret C (by decide) (by decide) (k_dg dt_X3_wayTowards_1 0 64 (.ireturn) 1 rfl)
def f_X3_wayTowards_71 (w : Nat) (M : k_M) : Option (Int32 × k_M) := some (-1, M)
theorem m_X3_wayTowards_71 {Z : k_Z} {G : k_G} {w : Nat} (C : k_C Z G RX3 cX3_wayTowards (true, 5, 3, 0, 0) (some .int) "wayTowards") (hw : isW w) (M : k_M) : Sm Z G emI (true, 5, 3, 0, 0) (0, 0) 71 [] [] M (f_X3_wayTowards_71 w M) := by
  show Sm Z G emI _ _ _ _ _ _ (some (-1, M))
  refine x_iconst C (v := -1) (k_dg dt_X3_wayTowards_1 3 71 (.iconst (-1)) 1 rfl) (by decide) ?_
  exact x_iret C (by decide) (by decide) (k_dg dt_X3_wayTowards_1 4 72 (.ireturn) 1 rfl)
def f_X3_wayTowards (w : Nat) (p1 : Int32) (p2 : Int32) (M : k_M) : Option (Int32 × k_M) := bd (f_X3_measure w (w + 15) 8 p1 M) (fun r1 M2 => f_X3_wayTowards_11 w k_fu p2 0 M2 (fun l4_ M_ => f_X3_wayTowards_62 w l4_ M_) (fun M_ => f_X3_wayTowards_71 w M_))
theorem m_X3_wayTowards_0 {Z : k_Z} {G : k_G} {w : Nat} (C : k_C Z G RX3 cX3_wayTowards (true, 5, 3, 0, 0) (some .int) "wayTowards") (hw : isW w) (p1 : Int32) (p2 : Int32) (M : k_M) : Sm Z G emI (true, 5, 3, 0, 0) (0, 0) 0 [(0, k_ra Z (w + 1)), (1, Value.int p1), (2, Value.int p2)] [] M (f_X3_wayTowards w p1 p2 M) := by
  show Sm Z G emI _ _ _ _ _ _ (bd (f_X3_measure w (w + 15) 8 p1 M) (fun r1 M2 => f_X3_wayTowards_11 w k_fu p2 0 M2 (fun l4_ M_ => f_X3_wayTowards_62 w l4_ M_) (fun M_ => f_X3_wayTowards_71 w M_)))
  refine x_aload_n C (k_dg dt_X3_wayTowards_0 0 0 (.aload_n 0) 1 rfl) 0 rfl ?_
  refine x_iload_n C (k_dg dt_X3_wayTowards_0 1 1 (.iload_n 1) 1 rfl) 1 rfl ?_
  refine x_aload_n C (k_dg dt_X3_wayTowards_0 2 2 (.aload_n 0) 1 rfl) 0 rfl ?_
  refine x_getR C (a := w + 1) (j := 15) (w + 15) rfl (kW 1 hw rfl) (by decide) fl_RX3_56 rfl rfl rfl (k_dg dt_X3_wayTowards_0 3 3 (.getfield 56) 3 rfl) ?_
  refine x_callV C (a := w + 1) (kd := 2) (vs := [Value.int p1, k_ra Z (w + 15)]) (rest := []) rfl (kW 1 hw rfl) (by decide) (fun r hr => by cases hr; rfl) (c_X3_measure C.2.2.2.2.2.2.2.2.2 G.2.1 w p1 (w + 15) 8 M hw (kW 15 hw rfl)) cy_X3_measure lk_RX3_89 im_X3_measure se_X3_measure (by decide) (by decide) (by decide) (by decide) rfl rfl (Nat.le_of_ble_eq_true rfl) (k_dg dt_X3_wayTowards_0 4 6 (.invokevirtual 89) 3 rfl) (fun r1 M2 => ?_)
  show Sm Z G _ _ _ _ [(0, k_ra Z (w + 1)), (1, Value.int p1), (2, Value.int p2)] [] _ _
  refine x_iconst C (v := 0) (k_dg dt_X3_wayTowards_0 5 9 (.iconst 0) 1 rfl) (by decide) ?_
  refine x_istore_n C (lv' := [(3, Value.int 0), (0, k_ra Z (w + 1)), (1, Value.int p1), (2, Value.int p2)]) (k_dg dt_X3_wayTowards_0 6 10 (.istore_n 3) 1 rfl) (by decide) rfl ?_
  refine x_lv [1, 3, 0] rfl ?_
  exact m_X3_wayTowards_11 C hw (fun l4_ M_ => f_X3_wayTowards_62 w l4_ M_) (fun M_ => f_X3_wayTowards_71 w M_) (fun l4_ M_ => m_X3_wayTowards_62 C hw l4_ M_) (fun M_ => m_X3_wayTowards_71 C hw M_) k_fu p2 0 M2
theorem c_X3_wayTowards {Z : k_Z} (hg : k_Gd Z) (l : Launch) (w : Nat) (p1 : Int32) (p2 : Int32) (M : k_M) (hw : isW w) : Con true Z l yX3_wayTowards cX3_wayTowards 5 (some .int) 3 0 0 emI [k_ra Z (w + 1), Value.int p1, Value.int p2] M (f_X3_wayTowards w p1 p2 M) := k_con hg (by decide) (Nat.le_of_ble_eq_true rfl) (fun G hl C => m_X3_wayTowards_0 C hw p1 p2 M)
