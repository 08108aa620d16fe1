theorem k_inU (ws : List Cond) (is : List Nat) (h : ws = is.filterMap (fun i => lw_tbl[i]?)) (hg : ws.all goodWord = true) : ∀ w ∈ ws, w ∈ lw_tbl ∧ goodWord w = true := by
  intro w hw
  refine ⟨?_, List.all_eq_true.mp hg w hw⟩
  rw [h] at hw
  obtain ⟨i, -, hi⟩ := List.mem_filterMap.mp hw
  exact List.mem_of_getElem? hi
def k_fu : Nat := 1000000000
theorem iu_10 : ∀ w ∈ u_ws RX12 TX12 53, w ∈ lw_tbl ∧ goodWord w = true := k_inU _ [1149, 1151, 1153, 1155, 1157, 1159, 1161, 1163, 1165, 1167, 1169, 1171, 1173, 1175, 1177, 1179, 1181, 1183, 1185, 1187, 1189, 1191, 1193, 1195, 1197, 1199, 1201, 1203, 1205, 1207, 1209, 1211, 1213, 1215, 1217, 1219, 1221, 1223, 1225, 1227, 1229, 1231, 1233, 1235, 1237, 1239, 1241, 1243, 1245, 1247, 1249, 1251, 1253] (by decide +kernel) (by decide +kernel)
theorem tb_10 : k_tbs 10 := fun r hr => by cases hr; exact ⟨⟨tyX12, tyX12_ok⟩, nmX12⟩
theorem fl_RX12_95 : k_FL RX12 95 10 0 := ⟨(RX12, TX12, 53), "WheelCityModel", rfl, by decide, iu_10, Or.inl (List.mem_of_getElem? (i := 1096) (by decide +kernel)), Or.inl rfl⟩
theorem cy_X12_in : k_cy yX12_in cX12_in 3 (some .boolean) 3 := ⟨List.mem_of_getElem? (i := 1262) (by decide +kernel), List.mem_of_getElem? (i := 112) (by decide +kernel), ⟨by decide +kernel, by decide +kernel⟩, by decide +kernel⟩
theorem lk_RX12_99 : k_lk RX12 99 yX12_in := Or.inl (List.mem_of_getElem? (i := 1260) (by decide +kernel))
theorem stt_X12_in : Cond.static yX12_in ∈ lw_tbl := List.mem_of_getElem? (i := 1261) (by decide +kernel)
theorem dt_X12_in_0 : k_dec cX12_in [(0, .iload_n 0, 1), (1, .iload_n 1, 1), (2, .if_icmp .lt 12, 3), (5, .iload_n 0, 1), (6, .iload_n 2, 1), (7, .if_icmp .gt 7, 3), (10, .iconst 1, 1), (11, .goto 4, 3), (14, .iconst 0, 1), (15, .ireturn, 1)] = true := by decide +kernel
def f_X12_in (p1 : Int32) (p2 : Int32) (p3 : Int32) (M : k_M) : Option (Int32 × k_M) := if p1 < p2 then some (0, M) else if p3 < p1 then some (0, M) else some (1, M)
theorem m_X12_in_0 {Z : k_Z} {G : k_G} (C : k_C Z G RX12 cX12_in (true, 3, 1, 0, 0) (some .boolean) "in") (p1 : Int32) (p2 : Int32) (p3 : Int32) (M : k_M) : Sm Z G emI (true, 3, 1, 0, 0) (0, 0) 0 [(0, Value.int p1), (1, Value.int p2), (2, Value.int p3)] [] M (f_X12_in p1 p2 p3 M) := by
  show Sm Z G emI _ _ _ _ _ _ (if p1 < p2 then some (0, M) else if p3 < p1 then some (0, M) else some (1, M))
  refine x_iload_n C (k_dg dt_X12_in_0 0 0 (.iload_n 0) 1 rfl) 0 rfl ?_
  refine x_iload_n C (k_dg dt_X12_in_0 1 1 (.iload_n 1) 1 rfl) 1 rfl ?_
  refine x_icmp_lt C (tgt := 14) (k_dg dt_X12_in_0 2 2 (.if_icmp .lt 12) 3 rfl) (by decide) (fun _ => ?_) (fun _ => ?_)
  · refine x_iconst C (v := 0) (k_dg dt_X12_in_0 8 14 (.iconst 0) 1 rfl) (by decide) ?_
    exact x_zret C (by decide) (by decide) rfl (k_dg dt_X12_in_0 9 15 (.ireturn) 1 rfl)
  · refine x_iload_n C (k_dg dt_X12_in_0 3 5 (.iload_n 0) 1 rfl) 0 rfl ?_
    refine x_iload_n C (k_dg dt_X12_in_0 4 6 (.iload_n 2) 1 rfl) 2 rfl ?_
    refine x_icmp_gt C (tgt := 14) (k_dg dt_X12_in_0 5 7 (.if_icmp .gt 7) 3 rfl) (by decide) (fun _ => ?_) (fun _ => ?_)
    · refine x_iconst C (v := 0) (k_dg dt_X12_in_0 8 14 (.iconst 0) 1 rfl) (by decide) ?_
      exact x_zret C (by decide) (by decide) rfl (k_dg dt_X12_in_0 9 15 (.ireturn) 1 rfl)
    · refine x_iconst C (v := 1) (k_dg dt_X12_in_0 6 10 (.iconst 1) 1 rfl) (by decide) ?_
      refine x_goto C (tgt := 15) (k_dg dt_X12_in_0 7 11 (.goto 4) 3 rfl) (by decide) ?_
      exact x_zret C (by decide) (by decide) rfl (k_dg dt_X12_in_0 9 15 (.ireturn) 1 rfl)
theorem c_X12_in {Z : k_Z} (hg : k_Gd Z) (l : Launch) (p1 : Int32) (p2 : Int32) (p3 : Int32) (M : k_M) : Con true Z l yX12_in cX12_in 3 (some .boolean) 1 0 0 emI [Value.int p1, Value.int p2, Value.int p3] M (f_X12_in p1 p2 p3 M) := k_con hg (by decide) (Nat.le_of_ble_eq_true rfl) (fun G hl C => m_X12_in_0 C p1 p2 p3 M)
theorem dt_X12_isPlace_0 : k_dec cX12_isPlace [(0, .iload_n 1, 1), (1, .iconst 0, 1), (2, .aload_n 0, 1), (3, .getfield 95, 3), (6, .iconst 1, 1), (7, .isub, 1), (8, .invokestatic 99, 3), (11, .ireturn, 1)] = true := by decide +kernel
def f_X12_isPlace (p1 : Int32) (M : k_M) : Option (Int32 × k_M) := bd (f_X12_in p1 0 ((M.1 76 0) - 1) M) (fun r1 M2 => ckZ r1 (some (r1, M2)))
theorem m_X12_isPlace_0 {Z : k_Z} {G : k_G} (C : k_C Z G RX12 cX12_isPlace (true, 2, 2, 0, 0) (some .boolean) "isPlace") (p1 : Int32) (M : k_M) : Sm Z G emI (true, 2, 2, 0, 0) (0, 0) 0 [(0, k_ra Z 76), (1, Value.int p1)] [] M (f_X12_isPlace p1 M) := by
  show Sm Z G emI _ _ _ _ _ _ (bd (f_X12_in p1 0 ((M.1 76 0) - 1) M) (fun r1 M2 => ckZ r1 (some (r1, M2))))
  refine x_iload_n C (k_dg dt_X12_isPlace_0 0 0 (.iload_n 1) 1 rfl) 1 rfl ?_
  refine x_iconst C (v := 0) (k_dg dt_X12_isPlace_0 1 1 (.iconst 0) 1 rfl) (by decide) ?_
  refine x_aload_n C (k_dg dt_X12_isPlace_0 2 2 (.aload_n 0) 1 rfl) 0 rfl ?_
  refine x_getI C (a := 76) (j := 0) rfl rfl (by decide) fl_RX12_95 rfl (k_dg dt_X12_isPlace_0 3 3 (.getfield 95) 3 rfl) ?_
  refine x_iconst C (v := 1) (k_dg dt_X12_isPlace_0 4 6 (.iconst 1) 1 rfl) (by decide) ?_
  refine x_isub C (k_dg dt_X12_isPlace_0 5 7 (.isub) 1 rfl) ?_
  refine x_callS C (vs := [Value.int p1, Value.int 0, Value.int ((M.1 76 0) - 1)]) (rest := []) (c_X12_in C.2.2.2.2.2.2.2.2.2 G.2.1 p1 0 ((M.1 76 0) - 1) M) cy_X12_in lk_RX12_99 stt_X12_in (by decide) (by decide) (by decide) (by decide) rfl rfl (Nat.le_of_ble_eq_true rfl) (k_dg dt_X12_isPlace_0 6 8 (.invokestatic 99) 3 rfl) (fun r1 M2 => ?_)
  show Sm Z G _ _ _ _ [(0, k_ra Z 76), (1, Value.int p1)] [Value.int r1] _ _
  refine x_ckZ (fun h3 => ?_)
  exact x_zret C (by decide) (by decide) (k_nz h3) (k_dg dt_X12_isPlace_0 7 11 (.ireturn) 1 rfl)
theorem c_X12_isPlace {Z : k_Z} (hg : k_Gd Z) (l : Launch) (p1 : Int32) (M : k_M) : Con true Z l yX12_isPlace cX12_isPlace 2 (some .boolean) 2 0 0 emI [k_ra Z 76, Value.int p1] M (f_X12_isPlace p1 M) := k_con hg (by decide) (Nat.le_of_ble_eq_true rfl) (fun G hl C => m_X12_isPlace_0 C p1 M)
