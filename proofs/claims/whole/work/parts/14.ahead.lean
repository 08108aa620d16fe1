theorem fl_RX0_64 : k_FL RX0 64 8 1 := ⟨(RX10, TX10, 10), "WheelCity$World", rfl, by decide, iu_8, Or.inr (List.mem_of_getElem? (i := 261) (by decide +kernel)), Or.inl rfl⟩
theorem cy_X0_lasts : k_cy yX0_lasts cX0_lasts 8 (some .boolean) 2 := ⟨List.mem_of_getElem? (i := 696) (by decide +kernel), List.mem_of_getElem? (i := 119) (by decide +kernel), ⟨by decide +kernel, by decide +kernel⟩, by decide +kernel⟩
theorem cy_X0_mostWorth : k_cy yX0_mostWorth cX0_mostWorth 6 (some .int) 2 := ⟨List.mem_of_getElem? (i := 673) (by decide +kernel), List.mem_of_getElem? (i := 119) (by decide +kernel), ⟨by decide +kernel, by decide +kernel⟩, by decide +kernel⟩
theorem cy_X0_sureness : k_cy yX0_sureness cX0_sureness 7 (some .int) 2 := ⟨List.mem_of_getElem? (i := 704) (by decide +kernel), List.mem_of_getElem? (i := 119) (by decide +kernel), ⟨by decide +kernel, by decide +kernel⟩, by decide +kernel⟩
theorem cy_X0_surenessOfDay : k_cy yX0_surenessOfDay cX0_surenessOfDay 5 (some .int) 3 := ⟨List.mem_of_getElem? (i := 710) (by decide +kernel), List.mem_of_getElem? (i := 119) (by decide +kernel), ⟨by decide +kernel, by decide +kernel⟩, by decide +kernel⟩
theorem cy_X0_surenessOfStanding : k_cy yX0_surenessOfStanding cX0_surenessOfStanding 4 (some .int) 2 := ⟨List.mem_of_getElem? (i := 707) (by decide +kernel), List.mem_of_getElem? (i := 119) (by decide +kernel), ⟨by decide +kernel, by decide +kernel⟩, by decide +kernel⟩
theorem cy_X0_worthBehind : k_cy yX0_worthBehind cX0_worthBehind 6 (some .int) 3 := ⟨List.mem_of_getElem? (i := 679) (by decide +kernel), List.mem_of_getElem? (i := 119) (by decide +kernel), ⟨by decide +kernel, by decide +kernel⟩, by decide +kernel⟩
theorem cy_X10_choice : k_cy yX10_choice cX10_choice 2 (some .int) 1 := ⟨List.mem_of_getElem? (i := 666) (by decide +kernel), List.mem_of_getElem? (i := 109) (by decide +kernel), ⟨by decide +kernel, by decide +kernel⟩, by decide +kernel⟩
theorem cy_X10_choices : k_cy yX10_choices cX10_choices 1 (some .int) 0 := ⟨List.mem_of_getElem? (i := 662) (by decide +kernel), List.mem_of_getElem? (i := 109) (by decide +kernel), ⟨by decide +kernel, by decide +kernel⟩, by decide +kernel⟩
theorem cy_X10_daysOf : k_cy yX10_daysOf cX10_daysOf 2 (some .int) 1 := ⟨List.mem_of_getElem? (i := 683) (by decide +kernel), List.mem_of_getElem? (i := 109) (by decide +kernel), ⟨by decide +kernel, by decide +kernel⟩, by decide +kernel⟩
theorem cy_X10_onMeadow : k_cy yX10_onMeadow cX10_onMeadow 1 (some .boolean) 0 := ⟨List.mem_of_getElem? (i := 716) (by decide +kernel), List.mem_of_getElem? (i := 109) (by decide +kernel), ⟨by decide +kernel, by decide +kernel⟩, by decide +kernel⟩
theorem cy_X10_worth : k_cy yX10_worth cX10_worth 1 (some .int) 0 := ⟨List.mem_of_getElem? (i := 595) (by decide +kernel), List.mem_of_getElem? (i := 109) (by decide +kernel), ⟨by decide +kernel, by decide +kernel⟩, by decide +kernel⟩
theorem lk_RX0_7 : k_lk RX0 7 yX10_worth := Or.inr (List.mem_of_getElem? (i := 674) (by decide +kernel))
theorem lk_RX0_15 : k_lk RX0 15 yX10_choices := Or.inr (List.mem_of_getElem? (i := 675) (by decide +kernel))
theorem lk_RX0_18 : k_lk RX0 18 yX10_choice := Or.inr (List.mem_of_getElem? (i := 676) (by decide +kernel))
theorem lk_RX0_22 : k_lk RX0 22 yX0_worthBehind := Or.inl (List.mem_of_getElem? (i := 677) (by decide +kernel))
theorem lk_RX0_26 : k_lk RX0 26 yX10_daysOf := Or.inr (List.mem_of_getElem? (i := 680) (by decide +kernel))
theorem lk_RX0_29 : k_lk RX0 29 yX10_attempt := Or.inr (List.mem_of_getElem? (i := 684) (by decide +kernel))
theorem lk_RX0_32 : k_lk RX0 32 yX0_mostWorth := Or.inl (List.mem_of_getElem? (i := 685) (by decide +kernel))
theorem lk_RX0_36 : k_lk RX0 36 yX10_takeBack := Or.inr (List.mem_of_getElem? (i := 686) (by decide +kernel))
theorem lk_RX0_40 : k_lk RX0 40 yX0_lasts := Or.inl (List.mem_of_getElem? (i := 697) (by decide +kernel))
theorem lk_RX0_44 : k_lk RX0 44 yX0_surenessOfStanding := Or.inl (List.mem_of_getElem? (i := 705) (by decide +kernel))
theorem lk_RX0_47 : k_lk RX0 47 yX0_sureness := Or.inl (List.mem_of_getElem? (i := 712) (by decide +kernel))
theorem lk_RX0_56 : k_lk RX0 56 yX0_surenessOfDay := Or.inl (List.mem_of_getElem? (i := 708) (by decide +kernel))
theorem lk_RX0_60 : k_lk RX0 60 yX10_onMeadow := Or.inr (List.mem_of_getElem? (i := 713) (by decide +kernel))
theorem lk_RX0_68 : k_lk RX0 68 yX10_stand := Or.inr (List.mem_of_getElem? (i := 711) (by decide +kernel))
theorem im_X10_choice : Cond.instanceMethod yX10_choice ∈ lw_tbl := List.mem_of_getElem? (i := 665) (by decide +kernel)
theorem im_X10_choices : Cond.instanceMethod yX10_choices ∈ lw_tbl := List.mem_of_getElem? (i := 661) (by decide +kernel)
theorem im_X10_daysOf : Cond.instanceMethod yX10_daysOf ∈ lw_tbl := List.mem_of_getElem? (i := 682) (by decide +kernel)
theorem im_X10_onMeadow : Cond.instanceMethod yX10_onMeadow ∈ lw_tbl := List.mem_of_getElem? (i := 715) (by decide +kernel)
theorem im_X10_worth : Cond.instanceMethod yX10_worth ∈ lw_tbl := List.mem_of_getElem? (i := 594) (by decide +kernel)
theorem se_X10_choice : Cond.selects yX10_choice.cls yX10_choice yX10_choice ∈ lw_tbl := List.mem_of_getElem? (i := 36) (by decide +kernel)
theorem se_X10_choices : Cond.selects yX10_choices.cls yX10_choices yX10_choices ∈ lw_tbl := List.mem_of_getElem? (i := 35) (by decide +kernel)
theorem se_X10_daysOf : Cond.selects yX10_daysOf.cls yX10_daysOf yX10_daysOf ∈ lw_tbl := List.mem_of_getElem? (i := 37) (by decide +kernel)
theorem se_X10_onMeadow : Cond.selects yX10_onMeadow.cls yX10_onMeadow yX10_onMeadow ∈ lw_tbl := List.mem_of_getElem? (i := 38) (by decide +kernel)
theorem se_X10_worth : Cond.selects yX10_worth.cls yX10_worth yX10_worth ∈ lw_tbl := List.mem_of_getElem? (i := 23) (by decide +kernel)
theorem stt_X0_lasts : Cond.static yX0_lasts ∈ lw_tbl := List.mem_of_getElem? (i := 695) (by decide +kernel)
theorem stt_X0_mostWorth : Cond.static yX0_mostWorth ∈ lw_tbl := List.mem_of_getElem? (i := 672) (by decide +kernel)
theorem stt_X0_sureness : Cond.static yX0_sureness ∈ lw_tbl := List.mem_of_getElem? (i := 703) (by decide +kernel)
theorem stt_X0_surenessOfDay : Cond.static yX0_surenessOfDay ∈ lw_tbl := List.mem_of_getElem? (i := 709) (by decide +kernel)
theorem stt_X0_surenessOfStanding : Cond.static yX0_surenessOfStanding ∈ lw_tbl := List.mem_of_getElem? (i := 706) (by decide +kernel)
theorem stt_X0_worthBehind : Cond.static yX0_worthBehind ∈ lw_tbl := List.mem_of_getElem? (i := 678) (by decide +kernel)
theorem ml_RX0_50 : Cond.methodLink RX0 50 Lib.Math.max.name ∈ lw_tbl := List.mem_of_getElem? (i := 717) (by decide +kernel)
theorem dt_X0_worthBehind_0 : k_dec cX0_worthBehind [(0, .aload_n 0, 1), (1, .iload_n 1, 1), (2, .invokevirtual 26, 3), (5, .istore_n 3, 1), (6, .iload_n 3, 1), (7, .iload_n 2, 1), (8, .if_icmp .le 5, 3), (11, .iconst (-1), 1), (12, .ireturn, 1), (13, .aload_n 0, 1), (14, .iload_n 1, 1), (15, .invokevirtual 29, 3), (18, .istore 4, 2), (20, .iload 4, 2), (22, .iconst (-1), 1), (23, .if_icmp .ne 5, 3), (26, .iconst (-1), 1), (27, .ireturn, 1), (28, .aload_n 0, 1), (29, .iload_n 2, 1), (30, .iload_n 3, 1), (31, .isub, 1), (32, .invokestatic 32, 3), (35, .istore 5, 2), (37, .aload_n 0, 1), (38, .iload_n 1, 1), (39, .iload 4, 2), (41, .invokevirtual 36, 3), (44, .iload 5, 2), (46, .ireturn, 1)] = true := by decide +kernel
def f_X0_worthBehind (g : Nat → Int32 → k_M → Option (Int32 × k_M)) (v : Nat) (p2 : Int32) (p3 : Int32) (M : k_M) : Option (Int32 × k_M) := bd (f_X10_daysOf v p2 M) (fun r1 M2 => if r1 ≤ p3 then bd (f_X10_attempt v p2 M2) (fun r3 M4 => if r3 = (-1) then some (-1, M4) else bd (g v (p3 - r1) M4) (fun r5 M6 => bd (f_X10_takeBack v p2 r3 M6) (fun r7 M8 => some (r5, M8)))) else some (-1, M2))
theorem m_X0_worthBehind_0 {Z : k_Z} {G : k_G} {v : Nat} {g : Nat → Int32 → k_M → Option (Int32 × k_M)} {e : Nat} (C : k_C Z G RX0 cX0_worthBehind (true, 6, (e + 1), 0, 0) (some .int) "worthBehind") (hv : isW v) (he : 3 ≤ e) (hrec : ∀ (v : Nat) (p2 : Int32) (M : k_M), isW v → Con true Z G.2.1 yX0_mostWorth cX0_mostWorth 6 (some .int) e 0 0 emI [k_ra Z v, Value.int p2] M (g v p2 M)) (p2 : Int32) (p3 : Int32) (M : k_M) : Sm Z G emI (true, 6, (e + 1), 0, 0) (0, 0) 0 [(0, k_ra Z v), (1, Value.int p2), (2, Value.int p3)] [] M (f_X0_worthBehind g v p2 p3 M) := by
  show Sm Z G emI _ _ _ _ _ _ (bd (f_X10_daysOf v p2 M) (fun r1 M2 => if r1 ≤ p3 then bd (f_X10_attempt v p2 M2) (fun r3 M4 => if r3 = (-1) then some (-1, M4) else bd (g v (p3 - r1) M4) (fun r5 M6 => bd (f_X10_takeBack v p2 r3 M6) (fun r7 M8 => some (r5, M8)))) else some (-1, M2)))
  refine x_aload_n C (k_dg dt_X0_worthBehind_0 0 0 (.aload_n 0) 1 rfl) 0 rfl ?_
  refine x_iload_n C (k_dg dt_X0_worthBehind_0 1 1 (.iload_n 1) 1 rfl) 1 rfl ?_
  refine x_callV C (a := v) (kd := 8) (vs := [Value.int p2]) (rest := []) rfl (kW 0 hv rfl) (by decide) (fun r hr => by cases hr; rfl) (c_X10_daysOf C.2.2.2.2.2.2.2.2.2 G.2.1 v p2 M hv) cy_X10_daysOf lk_RX0_26 im_X10_daysOf se_X10_daysOf (by show _ + 1 ≤ e + 1; omega) (by decide) (Nat.le_of_ble_eq_true rfl) (Nat.le_of_ble_eq_true rfl) rfl rfl (Nat.le_of_ble_eq_true rfl) (k_dg dt_X0_worthBehind_0 2 2 (.invokevirtual 26) 3 rfl) (fun r1 M2 => ?_)
  show Sm Z G _ _ _ _ [(0, k_ra Z v), (1, Value.int p2), (2, Value.int p3)] [Value.int r1] _ _
  refine x_istore_n C (lv' := [(3, Value.int r1), (0, k_ra Z v), (1, Value.int p2), (2, Value.int p3)]) (k_dg dt_X0_worthBehind_0 3 5 (.istore_n 3) 1 rfl) (Nat.le_of_ble_eq_true rfl) rfl ?_
  refine x_iload_n C (k_dg dt_X0_worthBehind_0 4 6 (.iload_n 3) 1 rfl) 0 rfl ?_
  refine x_iload_n C (k_dg dt_X0_worthBehind_0 5 7 (.iload_n 2) 1 rfl) 3 rfl ?_
  refine x_icmp_le C (tgt := 13) (k_dg dt_X0_worthBehind_0 6 8 (.if_icmp .le 5) 3 rfl) (by decide) (fun _ => ?_) (fun _ => ?_)
  · refine x_aload_n C (k_dg dt_X0_worthBehind_0 9 13 (.aload_n 0) 1 rfl) 1 rfl ?_
    refine x_iload_n C (k_dg dt_X0_worthBehind_0 10 14 (.iload_n 1) 1 rfl) 2 rfl ?_
    refine x_callV C (a := v) (kd := 8) (vs := [Value.int p2]) (rest := []) rfl (kW 0 hv rfl) (by decide) (fun r hr => by cases hr; rfl) (c_X10_attempt C.2.2.2.2.2.2.2.2.2 G.2.1 v p2 M2 hv) cy_X10_attempt lk_RX0_29 im_X10_attempt se_X10_attempt (by show _ + 1 ≤ e + 1; omega) (by decide) (Nat.le_of_ble_eq_true rfl) (Nat.le_of_ble_eq_true rfl) rfl rfl (Nat.le_of_ble_eq_true rfl) (k_dg dt_X0_worthBehind_0 11 15 (.invokevirtual 29) 3 rfl) (fun r3 M4 => ?_)
    show Sm Z G _ _ _ _ [(3, Value.int r1), (0, k_ra Z v), (1, Value.int p2), (2, Value.int p3)] [Value.int r3] _ _
    refine x_istore C (lv' := [(4, Value.int r3), (3, Value.int r1), (0, k_ra Z v), (1, Value.int p2), (2, Value.int p3)]) (k_dg dt_X0_worthBehind_0 12 18 (.istore 4) 2 rfl) (Nat.le_of_ble_eq_true rfl) rfl ?_
    refine x_iload C (k_dg dt_X0_worthBehind_0 13 20 (.iload 4) 2 rfl) 0 rfl ?_
    refine x_iconst C (v := -1) (k_dg dt_X0_worthBehind_0 14 22 (.iconst (-1)) 1 rfl) (by decide) ?_
    refine x_icmp_ne C (tgt := 28) (k_dg dt_X0_worthBehind_0 15 23 (.if_icmp .ne 5) 3 rfl) (by decide) (fun _ => ?_) (fun _ => ?_)
    · refine x_iconst C (v := -1) (k_dg dt_X0_worthBehind_0 16 26 (.iconst (-1)) 1 rfl) (by decide) ?_
      exact x_iret C (Nat.le_of_ble_eq_true rfl) (Nat.le_of_ble_eq_true rfl) (k_dg dt_X0_worthBehind_0 17 27 (.ireturn) 1 rfl)
    · refine x_aload_n C (k_dg dt_X0_worthBehind_0 18 28 (.aload_n 0) 1 rfl) 2 rfl ?_
      refine x_iload_n C (k_dg dt_X0_worthBehind_0 19 29 (.iload_n 2) 1 rfl) 4 rfl ?_
      refine x_iload_n C (k_dg dt_X0_worthBehind_0 20 30 (.iload_n 3) 1 rfl) 1 rfl ?_
      refine x_isub C (k_dg dt_X0_worthBehind_0 21 31 (.isub) 1 rfl) ?_
      refine x_callS C (vs := [k_ra Z v, Value.int (p3 - r1)]) (rest := []) (hrec v (p3 - r1) M4 hv) cy_X0_mostWorth lk_RX0_32 stt_X0_mostWorth (by show _ + 1 ≤ e + 1; omega) (by decide) (Nat.le_of_ble_eq_true rfl) (Nat.le_of_ble_eq_true rfl) rfl rfl (Nat.le_of_ble_eq_true rfl) (k_dg dt_X0_worthBehind_0 22 32 (.invokestatic 32) 3 rfl) (fun r5 M6 => ?_)
      show Sm Z G _ _ _ _ [(4, Value.int r3), (3, Value.int r1), (0, k_ra Z v), (1, Value.int p2), (2, Value.int p3)] [Value.int r5] _ _
      refine x_istore C (lv' := [(5, Value.int r5), (4, Value.int r3), (3, Value.int r1), (0, k_ra Z v), (1, Value.int p2), (2, Value.int p3)]) (k_dg dt_X0_worthBehind_0 23 35 (.istore 5) 2 rfl) (Nat.le_of_ble_eq_true rfl) rfl ?_
      refine x_aload_n C (k_dg dt_X0_worthBehind_0 24 37 (.aload_n 0) 1 rfl) 3 rfl ?_
      refine x_iload_n C (k_dg dt_X0_worthBehind_0 25 38 (.iload_n 1) 1 rfl) 4 rfl ?_
      refine x_iload C (k_dg dt_X0_worthBehind_0 26 39 (.iload 4) 2 rfl) 1 rfl ?_
      refine x_callV C (a := v) (kd := 8) (vs := [Value.int p2, Value.int r3]) (rest := []) rfl (kW 0 hv rfl) (by decide) (fun r hr => by cases hr; rfl) (c_X10_takeBack C.2.2.2.2.2.2.2.2.2 G.2.1 v p2 r3 M6 hv) cy_X10_takeBack lk_RX0_36 im_X10_takeBack se_X10_takeBack (by show _ + 1 ≤ e + 1; omega) (by decide) (Nat.le_of_ble_eq_true rfl) (Nat.le_of_ble_eq_true rfl) rfl rfl (Nat.le_of_ble_eq_true rfl) (k_dg dt_X0_worthBehind_0 27 41 (.invokevirtual 36) 3 rfl) (fun r7 M8 => ?_)
      show Sm Z G _ _ _ _ [(5, Value.int r5), (4, Value.int r3), (3, Value.int r1), (0, k_ra Z v), (1, Value.int p2), (2, Value.int p3)] [] _ _
      refine x_iload C (k_dg dt_X0_worthBehind_0 28 44 (.iload 5) 2 rfl) 0 rfl ?_
      exact x_iret C (Nat.le_of_ble_eq_true rfl) (Nat.le_of_ble_eq_true rfl) (k_dg dt_X0_worthBehind_0 29 46 (.ireturn) 1 rfl)
  · refine x_iconst C (v := -1) (k_dg dt_X0_worthBehind_0 7 11 (.iconst (-1)) 1 rfl) (by decide) ?_
    exact x_iret C (Nat.le_of_ble_eq_true rfl) (Nat.le_of_ble_eq_true rfl) (k_dg dt_X0_worthBehind_0 8 12 (.ireturn) 1 rfl)
theorem c_X0_worthBehind {Z : k_Z} (hg : k_Gd Z) (l : Launch) {g : Nat → Int32 → k_M → Option (Int32 × k_M)} {e : Nat} (he : 3 ≤ e) (hrec : ∀ (v : Nat) (p2 : Int32) (M : k_M), isW v → Con true Z l yX0_mostWorth cX0_mostWorth 6 (some .int) e 0 0 emI [k_ra Z v, Value.int p2] M (g v p2 M)) (v : Nat) (p2 : Int32) (p3 : Int32) (M : k_M) (hv : isW v) : Con true Z l yX0_worthBehind cX0_worthBehind 6 (some .int) (e + 1) 0 0 emI [k_ra Z v, Value.int p2, Value.int p3] M (f_X0_worthBehind g v p2 p3 M) := k_con hg (by decide) (Nat.le_of_ble_eq_true rfl) (fun G hl C => by subst hl; exact m_X0_worthBehind_0 C hv he hrec p2 p3 M)
theorem dt_X0_mostWorth_0 : k_dec cX0_mostWorth [(0, .iload_n 1, 1), (1, .ifCond .gt 8, 3), (4, .aload_n 0, 1), (5, .invokevirtual 7, 3), (8, .ireturn, 1), (9, .iconst (-1), 1), (10, .istore_n 2, 1), (11, .aload_n 0, 1), (12, .invokevirtual 15, 3), (15, .istore_n 3, 1), (16, .iconst 0, 1), (17, .istore 4, 2), (19, .iload 4, 2), (21, .iload_n 3, 1), (22, .if_icmp .ge 31, 3), (25, .aload_n 0, 1), (26, .aload_n 0, 1), (27, .iload 4, 2), (29, .invokevirtual 18, 3), (32, .iload_n 1, 1), (33, .invokestatic 22, 3), (36, .istore 5, 2), (38, .iload 5, 2), (40, .iload_n 2, 1), (41, .if_icmp .le 6, 3), (44, .iload 5, 2), (46, .istore_n 2, 1), (47, .iinc 4 1, 3), (50, .goto (-31), 3), (53, .iload_n 2, 1), (54, .ireturn, 1)] = true := by decide +kernel
def f_X0_mostWorthS_47 (g : Nat → Int32 → k_M → Option (Int32 × k_M)) (v : Nat) (l1 : Int32) (l2 : Int32) (l3 : Int32) (l4 : Int32) (M : k_M) (kb : Int32 → Int32 → Int32 → Int32 → k_M → Option (Int32 × k_M)) (kx53 : Int32 → k_M → Option (Int32 × k_M)) : Option (Int32 × k_M) := kb l1 l2 l3 (l4 + 1) M
theorem m_X0_mostWorth_47 {Z : k_Z} {G : k_G} {v : Nat} {g : Nat → Int32 → k_M → Option (Int32 × k_M)} {e : Nat} (C : k_C Z G RX0 cX0_mostWorth (true, 6, (e + 2), 0, 0) (some .int) "mostWorth") (hv : isW v) (he : 3 ≤ e) (hrec : ∀ (v : Nat) (p2 : Int32) (M : k_M), isW v → Con true Z G.2.1 yX0_mostWorth cX0_mostWorth 6 (some .int) e 0 0 emI [k_ra Z v, Value.int p2] M (g v p2 M)) (kb : Int32 → Int32 → Int32 → Int32 → k_M → Option (Int32 × k_M)) (kx53 : Int32 → k_M → Option (Int32 × k_M)) (Hb : ∀ (l1 : Int32) (l2 : Int32) (l3 : Int32) (l4 : Int32) (M : k_M), Sm Z G emI (true, 6, (e + 2), 0, 0) (0, 0) 19 [(0, k_ra Z v), (1, Value.int l1), (2, Value.int l2), (3, Value.int l3), (4, Value.int l4)] [] M (kb l1 l2 l3 l4 M)) (Hx53 : ∀ (l2 : Int32) (M : k_M), Sm Z G emI (true, 6, (e + 2), 0, 0) (0, 0) 53 [(2, Value.int l2)] [] M (kx53 l2 M)) (l1 : Int32) (l2 : Int32) (l3 : Int32) (l4 : Int32) (M : k_M) : Sm Z G emI (true, 6, (e + 2), 0, 0) (0, 0) 47 [(0, k_ra Z v), (1, Value.int l1), (2, Value.int l2), (3, Value.int l3), (4, Value.int l4)] [] M (f_X0_mostWorthS_47 g v l1 l2 l3 l4 M kb kx53) := by
  show Sm Z G emI _ _ _ _ _ _ (kb l1 l2 l3 (l4 + 1) M)
  refine x_iinc C (v := 1) (lv' := [(4, Value.int (l4 + 1)), (0, k_ra Z v), (1, Value.int l1), (2, Value.int l2), (3, Value.int l3)]) (k_dg dt_X0_mostWorth_0 27 47 (.iinc 4 1) 3 rfl) 4 rfl (by decide) (Nat.le_of_ble_eq_true rfl) rfl ?_
  refine x_goto C (tgt := 19) (k_dg dt_X0_mostWorth_0 28 50 (.goto (-31)) 3 rfl) (by decide) ?_
  refine x_lv [1, 2, 3, 4, 0] rfl ?_
  exact Hb l1 l2 l3 (l4 + 1) M
def f_X0_mostWorthS_19 (g : Nat → Int32 → k_M → Option (Int32 × k_M)) (v : Nat) : Nat → Int32 → Int32 → Int32 → Int32 → k_M → (Int32 → k_M → Option (Int32 × k_M)) → Option (Int32 × k_M)
  | 0, _, _, _, _, _, _ => none
  | n + 1, l1, l2, l3, l4, M, kx53 => if l3 ≤ l4 then kx53 l2 M else bd (f_X10_choice v l4 M) (fun r1 M2 => bd (f_X0_worthBehind g v r1 l1 M2) (fun r3 M4 => if r3 ≤ l2 then f_X0_mostWorthS_47 g v l1 l2 l3 l4 M4 ((fun l1_ l2_ l3_ l4_ M_ => f_X0_mostWorthS_19 g v n l1_ l2_ l3_ l4_ M_ kx53)) kx53 else f_X0_mostWorthS_47 g v l1 r3 l3 l4 M4 ((fun l1_ l2_ l3_ l4_ M_ => f_X0_mostWorthS_19 g v n l1_ l2_ l3_ l4_ M_ kx53)) kx53))
theorem m_X0_mostWorth_19 {Z : k_Z} {G : k_G} {v : Nat} {g : Nat → Int32 → k_M → Option (Int32 × k_M)} {e : Nat} (C : k_C Z G RX0 cX0_mostWorth (true, 6, (e + 2), 0, 0) (some .int) "mostWorth") (hv : isW v) (he : 3 ≤ e) (hrec : ∀ (v : Nat) (p2 : Int32) (M : k_M), isW v → Con true Z G.2.1 yX0_mostWorth cX0_mostWorth 6 (some .int) e 0 0 emI [k_ra Z v, Value.int p2] M (g v p2 M)) (kx53 : Int32 → k_M → Option (Int32 × k_M)) (Hx53 : ∀ (l2 : Int32) (M : k_M), Sm Z G emI (true, 6, (e + 2), 0, 0) (0, 0) 53 [(2, Value.int l2)] [] M (kx53 l2 M)) : ∀ (n : Nat) (l1 : Int32) (l2 : Int32) (l3 : Int32) (l4 : Int32) (M : k_M), Sm Z G emI (true, 6, (e + 2), 0, 0) (0, 0) 19 [(0, k_ra Z v), (1, Value.int l1), (2, Value.int l2), (3, Value.int l3), (4, Value.int l4)] [] M (f_X0_mostWorthS_19 g v n l1 l2 l3 l4 M kx53)
  | 0, _, _, _, _, _ => x_none
  | n + 1, l1, l2, l3, l4, M => by
    have ih := m_X0_mostWorth_19 C hv he hrec kx53 Hx53 n
    show Sm Z G emI _ _ _ _ _ _ (if l3 ≤ l4 then kx53 l2 M else bd (f_X10_choice v l4 M) (fun r1 M2 => bd (f_X0_worthBehind g v r1 l1 M2) (fun r3 M4 => if r3 ≤ l2 then f_X0_mostWorthS_47 g v l1 l2 l3 l4 M4 ((fun l1_ l2_ l3_ l4_ M_ => f_X0_mostWorthS_19 g v n l1_ l2_ l3_ l4_ M_ kx53)) kx53 else f_X0_mostWorthS_47 g v l1 r3 l3 l4 M4 ((fun l1_ l2_ l3_ l4_ M_ => f_X0_mostWorthS_19 g v n l1_ l2_ l3_ l4_ M_ kx53)) kx53)))
    refine x_iload C (k_dg dt_X0_mostWorth_0 12 19 (.iload 4) 2 rfl) 4 rfl ?_
    refine x_iload_n C (k_dg dt_X0_mostWorth_0 13 21 (.iload_n 3) 1 rfl) 3 rfl ?_
    refine x_icmp_ge C (tgt := 53) (k_dg dt_X0_mostWorth_0 14 22 (.if_icmp .ge 31) 3 rfl) (by decide) (fun _ => ?_) (fun _ => ?_)
    · refine x_lv [2] rfl ?_
      exact Hx53 l2 M
    · refine x_aload_n C (k_dg dt_X0_mostWorth_0 15 25 (.aload_n 0) 1 rfl) 0 rfl ?_
      refine x_aload_n C (k_dg dt_X0_mostWorth_0 16 26 (.aload_n 0) 1 rfl) 0 rfl ?_
      refine x_iload C (k_dg dt_X0_mostWorth_0 17 27 (.iload 4) 2 rfl) 4 rfl ?_
      refine x_callV C (a := v) (kd := 8) (vs := [Value.int l4]) (rest := [k_ra Z v]) rfl (kW 0 hv rfl) (by decide) (fun r hr => by cases hr; rfl) (c_X10_choice C.2.2.2.2.2.2.2.2.2 G.2.1 v l4 M hv) cy_X10_choice lk_RX0_18 im_X10_choice se_X10_choice (by show _ + 1 ≤ e + 2; omega) (by decide) (Nat.le_of_ble_eq_true rfl) (Nat.le_of_ble_eq_true rfl) rfl rfl (Nat.le_of_ble_eq_true rfl) (k_dg dt_X0_mostWorth_0 18 29 (.invokevirtual 18) 3 rfl) (fun r1 M2 => ?_)
      show Sm Z G _ _ _ _ [(0, k_ra Z v), (1, Value.int l1), (2, Value.int l2), (3, Value.int l3), (4, Value.int l4)] [Value.int r1, k_ra Z v] _ _
      refine x_iload_n C (k_dg dt_X0_mostWorth_0 19 32 (.iload_n 1) 1 rfl) 1 rfl ?_
      refine x_callS C (vs := [k_ra Z v, Value.int r1, Value.int l1]) (rest := []) (c_X0_worthBehind C.2.2.2.2.2.2.2.2.2 G.2.1 he hrec v r1 l1 M2 hv) cy_X0_worthBehind lk_RX0_22 stt_X0_worthBehind (by show _ + 1 ≤ e + 2; omega) (by decide) (Nat.le_of_ble_eq_true rfl) (Nat.le_of_ble_eq_true rfl) rfl rfl (Nat.le_of_ble_eq_true rfl) (k_dg dt_X0_mostWorth_0 20 33 (.invokestatic 22) 3 rfl) (fun r3 M4 => ?_)
      show Sm Z G _ _ _ _ [(0, k_ra Z v), (1, Value.int l1), (2, Value.int l2), (3, Value.int l3), (4, Value.int l4)] [Value.int r3] _ _
      refine x_istore C (lv' := [(5, Value.int r3), (0, k_ra Z v), (1, Value.int l1), (2, Value.int l2), (3, Value.int l3), (4, Value.int l4)]) (k_dg dt_X0_mostWorth_0 21 36 (.istore 5) 2 rfl) (Nat.le_of_ble_eq_true rfl) rfl ?_
      refine x_iload C (k_dg dt_X0_mostWorth_0 22 38 (.iload 5) 2 rfl) 0 rfl ?_
      refine x_iload_n C (k_dg dt_X0_mostWorth_0 23 40 (.iload_n 2) 1 rfl) 3 rfl ?_
      refine x_icmp_le C (tgt := 47) (k_dg dt_X0_mostWorth_0 24 41 (.if_icmp .le 6) 3 rfl) (by decide) (fun _ => ?_) (fun _ => ?_)
      · refine x_lv [1, 2, 3, 4, 5] rfl ?_
        exact m_X0_mostWorth_47 C hv he hrec ((fun l1_ l2_ l3_ l4_ M_ => f_X0_mostWorthS_19 g v n l1_ l2_ l3_ l4_ M_ kx53)) kx53 ih Hx53 l1 l2 l3 l4 M4
      · refine x_iload C (k_dg dt_X0_mostWorth_0 25 44 (.iload 5) 2 rfl) 0 rfl ?_
        refine x_istore_n C (lv' := [(2, Value.int r3), (5, Value.int r3), (0, k_ra Z v), (1, Value.int l1), (3, Value.int l3), (4, Value.int l4)]) (k_dg dt_X0_mostWorth_0 26 46 (.istore_n 2) 1 rfl) (Nat.le_of_ble_eq_true rfl) rfl ?_
        refine x_lv [2, 3, 0, 4, 5] rfl ?_
        exact m_X0_mostWorth_47 C hv he hrec ((fun l1_ l2_ l3_ l4_ M_ => f_X0_mostWorthS_19 g v n l1_ l2_ l3_ l4_ M_ kx53)) kx53 ih Hx53 l1 r3 l3 l4 M4
def f_X0_mostWorthS_53 (g : Nat → Int32 → k_M → Option (Int32 × k_M)) (v : Nat) (l2 : Int32) (M : k_M) : Option (Int32 × k_M) := some (l2, M)
theorem m_X0_mostWorth_53 {Z : k_Z} {G : k_G} {v : Nat} {g : Nat → Int32 → k_M → Option (Int32 × k_M)} {e : Nat} (C : k_C Z G RX0 cX0_mostWorth (true, 6, (e + 2), 0, 0) (some .int) "mostWorth") (hv : isW v) (he : 3 ≤ e) (hrec : ∀ (v : Nat) (p2 : Int32) (M : k_M), isW v → Con true Z G.2.1 yX0_mostWorth cX0_mostWorth 6 (some .int) e 0 0 emI [k_ra Z v, Value.int p2] M (g v p2 M)) (l2 : Int32) (M : k_M) : Sm Z G emI (true, 6, (e + 2), 0, 0) (0, 0) 53 [(2, Value.int l2)] [] M (f_X0_mostWorthS_53 g v l2 M) := by
  show Sm Z G emI _ _ _ _ _ _ (some (l2, M))
  refine x_iload_n C (k_dg dt_X0_mostWorth_0 29 53 (.iload_n 2) 1 rfl) 0 rfl ?_
  exact x_iret C (Nat.le_of_ble_eq_true rfl) (Nat.le_of_ble_eq_true rfl) (k_dg dt_X0_mostWorth_0 30 54 (.ireturn) 1 rfl)
def f_X0_mostWorthS (g : Nat → Int32 → k_M → Option (Int32 × k_M)) (v : Nat) (p2 : Int32) (M : k_M) : Option (Int32 × k_M) := if 0 < p2 then bN (-1) (fun v1 => bd (f_X10_choices v M) (fun r2 M3 => f_X0_mostWorthS_19 g v k_fu p2 v1 r2 0 M3 (fun l2_ M_ => f_X0_mostWorthS_53 g v l2_ M_))) else bd (f_X10_worth v M) (fun r4 M5 => some (r4, M5))
theorem m_X0_mostWorth_0 {Z : k_Z} {G : k_G} {v : Nat} {g : Nat → Int32 → k_M → Option (Int32 × k_M)} {e : Nat} (C : k_C Z G RX0 cX0_mostWorth (true, 6, (e + 2), 0, 0) (some .int) "mostWorth") (hv : isW v) (he : 3 ≤ e) (hrec : ∀ (v : Nat) (p2 : Int32) (M : k_M), isW v → Con true Z G.2.1 yX0_mostWorth cX0_mostWorth 6 (some .int) e 0 0 emI [k_ra Z v, Value.int p2] M (g v p2 M)) (p2 : Int32) (M : k_M) : Sm Z G emI (true, 6, (e + 2), 0, 0) (0, 0) 0 [(0, k_ra Z v), (1, Value.int p2)] [] M (f_X0_mostWorthS g v p2 M) := by
  show Sm Z G emI _ _ _ _ _ _ (if 0 < p2 then bN (-1) (fun v1 => bd (f_X10_choices v M) (fun r2 M3 => f_X0_mostWorthS_19 g v k_fu p2 v1 r2 0 M3 (fun l2_ M_ => f_X0_mostWorthS_53 g v l2_ M_))) else bd (f_X10_worth v M) (fun r4 M5 => some (r4, M5)))
  refine x_iload_n C (k_dg dt_X0_mostWorth_0 0 0 (.iload_n 1) 1 rfl) 1 rfl ?_
  refine x_if_gt C (tgt := 9) (k_dg dt_X0_mostWorth_0 1 1 (.ifCond .gt 8) 3 rfl) (by decide) (fun _ => ?_) (fun _ => ?_)
  · refine x_iconst C (v := -1) (k_dg dt_X0_mostWorth_0 5 9 (.iconst (-1)) 1 rfl) (by decide) ?_
    refine x_nm (w := Value.int) (fun v1 _ => ?_)
    refine x_istore_n C (lv' := [(2, Value.int v1), (0, k_ra Z v), (1, Value.int p2)]) (k_dg dt_X0_mostWorth_0 6 10 (.istore_n 2) 1 rfl) (Nat.le_of_ble_eq_true rfl) rfl ?_
    refine x_aload_n C (k_dg dt_X0_mostWorth_0 7 11 (.aload_n 0) 1 rfl) 1 rfl ?_
    refine x_callV C (a := v) (kd := 8) (vs := []) (rest := []) rfl (kW 0 hv rfl) (by decide) (fun r hr => by cases hr; rfl) (c_X10_choices C.2.2.2.2.2.2.2.2.2 G.2.1 v M hv) cy_X10_choices lk_RX0_15 im_X10_choices se_X10_choices (by show _ + 1 ≤ e + 2; omega) (by decide) (Nat.le_of_ble_eq_true rfl) (Nat.le_of_ble_eq_true rfl) rfl rfl (Nat.le_of_ble_eq_true rfl) (k_dg dt_X0_mostWorth_0 8 12 (.invokevirtual 15) 3 rfl) (fun r2 M3 => ?_)
    show Sm Z G _ _ _ _ [(2, Value.int v1), (0, k_ra Z v), (1, Value.int p2)] [Value.int r2] _ _
    refine x_istore_n C (lv' := [(3, Value.int r2), (2, Value.int v1), (0, k_ra Z v), (1, Value.int p2)]) (k_dg dt_X0_mostWorth_0 9 15 (.istore_n 3) 1 rfl) (Nat.le_of_ble_eq_true rfl) rfl ?_
    refine x_iconst C (v := 0) (k_dg dt_X0_mostWorth_0 10 16 (.iconst 0) 1 rfl) (by decide) ?_
    refine x_istore C (lv' := [(4, Value.int 0), (3, Value.int r2), (2, Value.int v1), (0, k_ra Z v), (1, Value.int p2)]) (k_dg dt_X0_mostWorth_0 11 17 (.istore 4) 2 rfl) (Nat.le_of_ble_eq_true rfl) rfl ?_
    refine x_lv [3, 4, 2, 1, 0] rfl ?_
    exact m_X0_mostWorth_19 C hv he hrec (fun l2_ M_ => f_X0_mostWorthS_53 g v l2_ M_) (fun l2_ M_ => m_X0_mostWorth_53 C hv he hrec l2_ M_) k_fu p2 v1 r2 0 M3
  · refine x_aload_n C (k_dg dt_X0_mostWorth_0 2 4 (.aload_n 0) 1 rfl) 0 rfl ?_
    refine x_callV C (a := v) (kd := 8) (vs := []) (rest := []) rfl (kW 0 hv rfl) (by decide) (fun r hr => by cases hr; rfl) (c_X10_worth C.2.2.2.2.2.2.2.2.2 G.2.1 v M hv) cy_X10_worth lk_RX0_7 im_X10_worth se_X10_worth (by show _ + 1 ≤ e + 2; omega) (by decide) (Nat.le_of_ble_eq_true rfl) (Nat.le_of_ble_eq_true rfl) rfl rfl (Nat.le_of_ble_eq_true rfl) (k_dg dt_X0_mostWorth_0 3 5 (.invokevirtual 7) 3 rfl) (fun r4 M5 => ?_)
    show Sm Z G _ _ _ _ [(0, k_ra Z v), (1, Value.int p2)] [Value.int r4] _ _
    exact x_iret C (Nat.le_of_ble_eq_true rfl) (Nat.le_of_ble_eq_true rfl) (k_dg dt_X0_mostWorth_0 4 8 (.ireturn) 1 rfl)
theorem c_X0_mostWorthS {Z : k_Z} (hg : k_Gd Z) (l : Launch) {g : Nat → Int32 → k_M → Option (Int32 × k_M)} {e : Nat} (he : 3 ≤ e) (hrec : ∀ (v : Nat) (p2 : Int32) (M : k_M), isW v → Con true Z l yX0_mostWorth cX0_mostWorth 6 (some .int) e 0 0 emI [k_ra Z v, Value.int p2] M (g v p2 M)) (v : Nat) (p2 : Int32) (M : k_M) (hv : isW v) : Con true Z l yX0_mostWorth cX0_mostWorth 6 (some .int) (e + 2) 0 0 emI [k_ra Z v, Value.int p2] M (f_X0_mostWorthS g v p2 M) := k_con hg (by decide) (Nat.le_of_ble_eq_true rfl) (fun G hl C => by subst hl; exact m_X0_mostWorth_0 C hv he hrec p2 M)
def f_X0_mostWorth : Nat → Nat → Int32 → k_M → Option (Int32 × k_M)
  | 0, _, _, _ => none
  | n + 1, v, p2, M => f_X0_mostWorthS (f_X0_mostWorth n) v p2 M
theorem c_X0_mostWorth {Z : k_Z} (hg : k_Gd Z) (l : Launch) : ∀ (n : Nat) (v : Nat) (p2 : Int32) (M : k_M) (hv : isW v), Con true Z l yX0_mostWorth cX0_mostWorth 6 (some .int) (3 + 2 * n) 0 0 emI [k_ra Z v, Value.int p2] M (f_X0_mostWorth n v p2 M)
  | 0, _, _, _, _ => fun r M' h => by cases h
  | n + 1, v, p2, M, hv => c_X0_mostWorthS hg l (e := 3 + 2 * n) (Nat.le_add_right _ _) (fun v p2 M hv => c_X0_mostWorth hg l n v p2 M hv) v p2 M hv
theorem dt_X0_firstAct_0 : k_dec cX0_firstAct [(0, .iconst (-1), 1), (1, .istore_n 2, 1), (2, .iconst (-1), 1), (3, .istore_n 3, 1), (4, .iload_n 1, 1), (5, .ifCond .gt 5, 3), (8, .iload_n 2, 1), (9, .ireturn, 1), (10, .aload_n 0, 1), (11, .invokevirtual 15, 3), (14, .istore 4, 2), (16, .iconst 0, 1), (17, .istore 5, 2), (19, .iload 5, 2), (21, .iload 4, 2), (23, .if_icmp .ge 38, 3), (26, .aload_n 0, 1), (27, .iload 5, 2), (29, .invokevirtual 18, 3), (32, .istore 6, 2), (34, .aload_n 0, 1), (35, .iload 6, 2), (37, .iload_n 1, 1), (38, .invokestatic 22, 3), (41, .istore 7, 2), (43, .iload 7, 2), (45, .iload_n 3, 1), (46, .if_icmp .le 9, 3), (49, .iload 7, 2), (51, .istore_n 3, 1), (52, .iload 6, 2), (54, .istore_n 2, 1), (55, .iinc 5 1, 3), (58, .goto (-39), 3), (61, .iload_n 2, 1), (62, .ireturn, 1)] = true := by decide +kernel
def f_X0_firstAct_55 (v : Nat) (l1 : Int32) (l2 : Int32) (l3 : Int32) (l4 : Int32) (l5 : Int32) (M : k_M) (kb : Int32 → Int32 → Int32 → Int32 → Int32 → k_M → Option (Int32 × k_M)) (kx61 : Int32 → k_M → Option (Int32 × k_M)) : Option (Int32 × k_M) := kb l1 l2 l3 l4 (l5 + 1) M
theorem m_X0_firstAct_55 {Z : k_Z} {G : k_G} {v : Nat} (C : k_C Z G RX0 cX0_firstAct (true, 8, 21, 0, 0) (some .int) "firstAct") (hv : isW v) (kb : Int32 → Int32 → Int32 → Int32 → Int32 → k_M → Option (Int32 × k_M)) (kx61 : Int32 → k_M → Option (Int32 × k_M)) (Hb : ∀ (l1 : Int32) (l2 : Int32) (l3 : Int32) (l4 : Int32) (l5 : Int32) (M : k_M), Sm Z G emI (true, 8, 21, 0, 0) (0, 0) 19 [(0, k_ra Z v), (1, Value.int l1), (2, Value.int l2), (3, Value.int l3), (4, Value.int l4), (5, Value.int l5)] [] M (kb l1 l2 l3 l4 l5 M)) (Hx61 : ∀ (l2 : Int32) (M : k_M), Sm Z G emI (true, 8, 21, 0, 0) (0, 0) 61 [(2, Value.int l2)] [] M (kx61 l2 M)) (l1 : Int32) (l2 : Int32) (l3 : Int32) (l4 : Int32) (l5 : Int32) (M : k_M) : Sm Z G emI (true, 8, 21, 0, 0) (0, 0) 55 [(0, k_ra Z v), (1, Value.int l1), (2, Value.int l2), (3, Value.int l3), (4, Value.int l4), (5, Value.int l5)] [] M (f_X0_firstAct_55 v l1 l2 l3 l4 l5 M kb kx61) := by
  show Sm Z G emI _ _ _ _ _ _ (kb l1 l2 l3 l4 (l5 + 1) M)
  refine x_iinc C (v := 1) (lv' := [(5, Value.int (l5 + 1)), (0, k_ra Z v), (1, Value.int l1), (2, Value.int l2), (3, Value.int l3), (4, Value.int l4)]) (k_dg dt_X0_firstAct_0 32 55 (.iinc 5 1) 3 rfl) 5 rfl (by decide) (by decide) rfl ?_
  refine x_goto C (tgt := 19) (k_dg dt_X0_firstAct_0 33 58 (.goto (-39)) 3 rfl) (by decide) ?_
  refine x_lv [1, 2, 3, 4, 5, 0] rfl ?_
  exact Hb l1 l2 l3 l4 (l5 + 1) M
def f_X0_firstAct_19 (v : Nat) : Nat → Int32 → Int32 → Int32 → Int32 → Int32 → k_M → (Int32 → k_M → Option (Int32 × k_M)) → Option (Int32 × k_M)
  | 0, _, _, _, _, _, _, _ => none
  | n + 1, l1, l2, l3, l4, l5, M, kx61 => if l4 ≤ l5 then kx61 l2 M else bd (f_X10_choice v l5 M) (fun r1 M2 => bd (f_X0_worthBehind (f_X0_mostWorth 8) v r1 l1 M2) (fun r3 M4 => if r3 ≤ l3 then f_X0_firstAct_55 v l1 l2 l3 l4 l5 M4 ((fun l1_ l2_ l3_ l4_ l5_ M_ => f_X0_firstAct_19 v n l1_ l2_ l3_ l4_ l5_ M_ kx61)) kx61 else f_X0_firstAct_55 v l1 r1 r3 l4 l5 M4 ((fun l1_ l2_ l3_ l4_ l5_ M_ => f_X0_firstAct_19 v n l1_ l2_ l3_ l4_ l5_ M_ kx61)) kx61))
theorem m_X0_firstAct_19 {Z : k_Z} {G : k_G} {v : Nat} (C : k_C Z G RX0 cX0_firstAct (true, 8, 21, 0, 0) (some .int) "firstAct") (hv : isW v) (kx61 : Int32 → k_M → Option (Int32 × k_M)) (Hx61 : ∀ (l2 : Int32) (M : k_M), Sm Z G emI (true, 8, 21, 0, 0) (0, 0) 61 [(2, Value.int l2)] [] M (kx61 l2 M)) : ∀ (n : Nat) (l1 : Int32) (l2 : Int32) (l3 : Int32) (l4 : Int32) (l5 : Int32) (M : k_M), Sm Z G emI (true, 8, 21, 0, 0) (0, 0) 19 [(0, k_ra Z v), (1, Value.int l1), (2, Value.int l2), (3, Value.int l3), (4, Value.int l4), (5, Value.int l5)] [] M (f_X0_firstAct_19 v n l1 l2 l3 l4 l5 M kx61)
  | 0, _, _, _, _, _, _ => x_none
  | n + 1, l1, l2, l3, l4, l5, M => by
    have ih := m_X0_firstAct_19 C hv kx61 Hx61 n
    show Sm Z G emI _ _ _ _ _ _ (if l4 ≤ l5 then kx61 l2 M else bd (f_X10_choice v l5 M) (fun r1 M2 => bd (f_X0_worthBehind (f_X0_mostWorth 8) v r1 l1 M2) (fun r3 M4 => if r3 ≤ l3 then f_X0_firstAct_55 v l1 l2 l3 l4 l5 M4 ((fun l1_ l2_ l3_ l4_ l5_ M_ => f_X0_firstAct_19 v n l1_ l2_ l3_ l4_ l5_ M_ kx61)) kx61 else f_X0_firstAct_55 v l1 r1 r3 l4 l5 M4 ((fun l1_ l2_ l3_ l4_ l5_ M_ => f_X0_firstAct_19 v n l1_ l2_ l3_ l4_ l5_ M_ kx61)) kx61)))
    refine x_iload C (k_dg dt_X0_firstAct_0 13 19 (.iload 5) 2 rfl) 5 rfl ?_
    refine x_iload C (k_dg dt_X0_firstAct_0 14 21 (.iload 4) 2 rfl) 4 rfl ?_
    refine x_icmp_ge C (tgt := 61) (k_dg dt_X0_firstAct_0 15 23 (.if_icmp .ge 38) 3 rfl) (by decide) (fun _ => ?_) (fun _ => ?_)
    · refine x_lv [2] rfl ?_
      exact Hx61 l2 M
    · refine x_aload_n C (k_dg dt_X0_firstAct_0 16 26 (.aload_n 0) 1 rfl) 0 rfl ?_
      refine x_iload C (k_dg dt_X0_firstAct_0 17 27 (.iload 5) 2 rfl) 5 rfl ?_
      refine x_callV C (a := v) (kd := 8) (vs := [Value.int l5]) (rest := []) rfl (kW 0 hv rfl) (by decide) (fun r hr => by cases hr; rfl) (c_X10_choice C.2.2.2.2.2.2.2.2.2 G.2.1 v l5 M hv) cy_X10_choice lk_RX0_18 im_X10_choice se_X10_choice (by decide) (by decide) (by decide) (by decide) rfl rfl (Nat.le_of_ble_eq_true rfl) (k_dg dt_X0_firstAct_0 18 29 (.invokevirtual 18) 3 rfl) (fun r1 M2 => ?_)
      show Sm Z G _ _ _ _ [(0, k_ra Z v), (1, Value.int l1), (2, Value.int l2), (3, Value.int l3), (4, Value.int l4), (5, Value.int l5)] [Value.int r1] _ _
      refine x_istore C (lv' := [(6, Value.int r1), (0, k_ra Z v), (1, Value.int l1), (2, Value.int l2), (3, Value.int l3), (4, Value.int l4), (5, Value.int l5)]) (k_dg dt_X0_firstAct_0 19 32 (.istore 6) 2 rfl) (by decide) rfl ?_
      refine x_aload_n C (k_dg dt_X0_firstAct_0 20 34 (.aload_n 0) 1 rfl) 1 rfl ?_
      refine x_iload C (k_dg dt_X0_firstAct_0 21 35 (.iload 6) 2 rfl) 0 rfl ?_
      refine x_iload_n C (k_dg dt_X0_firstAct_0 22 37 (.iload_n 1) 1 rfl) 2 rfl ?_
      refine x_callS C (vs := [k_ra Z v, Value.int r1, Value.int l1]) (rest := []) (c_X0_worthBehind C.2.2.2.2.2.2.2.2.2 G.2.1 (by decide) (fun v p2 M hv => c_X0_mostWorth C.2.2.2.2.2.2.2.2.2 G.2.1 8 v p2 M hv) v r1 l1 M2 hv) cy_X0_worthBehind lk_RX0_22 stt_X0_worthBehind (by decide) (by decide) (by decide) (by decide) rfl rfl (Nat.le_of_ble_eq_true rfl) (k_dg dt_X0_firstAct_0 23 38 (.invokestatic 22) 3 rfl) (fun r3 M4 => ?_)
      show Sm Z G _ _ _ _ [(6, Value.int r1), (0, k_ra Z v), (1, Value.int l1), (2, Value.int l2), (3, Value.int l3), (4, Value.int l4), (5, Value.int l5)] [Value.int r3] _ _
      refine x_istore C (lv' := [(7, Value.int r3), (6, Value.int r1), (0, k_ra Z v), (1, Value.int l1), (2, Value.int l2), (3, Value.int l3), (4, Value.int l4), (5, Value.int l5)]) (k_dg dt_X0_firstAct_0 24 41 (.istore 7) 2 rfl) (by decide) rfl ?_
      refine x_iload C (k_dg dt_X0_firstAct_0 25 43 (.iload 7) 2 rfl) 0 rfl ?_
      refine x_iload_n C (k_dg dt_X0_firstAct_0 26 45 (.iload_n 3) 1 rfl) 5 rfl ?_
      refine x_icmp_le C (tgt := 55) (k_dg dt_X0_firstAct_0 27 46 (.if_icmp .le 9) 3 rfl) (by decide) (fun _ => ?_) (fun _ => ?_)
      · refine x_lv [2, 3, 4, 5, 6, 7] rfl ?_
        exact m_X0_firstAct_55 C hv ((fun l1_ l2_ l3_ l4_ l5_ M_ => f_X0_firstAct_19 v n l1_ l2_ l3_ l4_ l5_ M_ kx61)) kx61 ih Hx61 l1 l2 l3 l4 l5 M4
      · refine x_iload C (k_dg dt_X0_firstAct_0 28 49 (.iload 7) 2 rfl) 0 rfl ?_
        refine x_istore_n C (lv' := [(3, Value.int r3), (7, Value.int r3), (6, Value.int r1), (0, k_ra Z v), (1, Value.int l1), (2, Value.int l2), (4, Value.int l4), (5, Value.int l5)]) (k_dg dt_X0_firstAct_0 29 51 (.istore_n 3) 1 rfl) (by decide) rfl ?_
        refine x_iload C (k_dg dt_X0_firstAct_0 30 52 (.iload 6) 2 rfl) 2 rfl ?_
        refine x_istore_n C (lv' := [(2, Value.int r1), (3, Value.int r3), (7, Value.int r3), (6, Value.int r1), (0, k_ra Z v), (1, Value.int l1), (4, Value.int l4), (5, Value.int l5)]) (k_dg dt_X0_firstAct_0 31 54 (.istore_n 2) 1 rfl) (by decide) rfl ?_
        refine x_lv [4, 5, 0, 1, 6, 7] rfl ?_
        exact m_X0_firstAct_55 C hv ((fun l1_ l2_ l3_ l4_ l5_ M_ => f_X0_firstAct_19 v n l1_ l2_ l3_ l4_ l5_ M_ kx61)) kx61 ih Hx61 l1 r1 r3 l4 l5 M4
def f_X0_firstAct_61 (v : Nat) (l2 : Int32) (M : k_M) : Option (Int32 × k_M) := some (l2, M)
theorem m_X0_firstAct_61 {Z : k_Z} {G : k_G} {v : Nat} (C : k_C Z G RX0 cX0_firstAct (true, 8, 21, 0, 0) (some .int) "firstAct") (hv : isW v) (l2 : Int32) (M : k_M) : Sm Z G emI (true, 8, 21, 0, 0) (0, 0) 61 [(2, Value.int l2)] [] M (f_X0_firstAct_61 v l2 M) := by
  show Sm Z G emI _ _ _ _ _ _ (some (l2, M))
  refine x_iload_n C (k_dg dt_X0_firstAct_0 34 61 (.iload_n 2) 1 rfl) 0 rfl ?_
  exact x_iret C (by decide) (by decide) (k_dg dt_X0_firstAct_0 35 62 (.ireturn) 1 rfl)
def f_X0_firstAct (v : Nat) (p2 : Int32) (M : k_M) : Option (Int32 × k_M) := bN (-1) (fun v1 => bN (-1) (fun v2 => if 0 < p2 then bd (f_X10_choices v M) (fun r3 M4 => f_X0_firstAct_19 v k_fu p2 v1 v2 r3 0 M4 (fun l2_ M_ => f_X0_firstAct_61 v l2_ M_)) else some (v1, M)))
theorem m_X0_firstAct_0 {Z : k_Z} {G : k_G} {v : Nat} (C : k_C Z G RX0 cX0_firstAct (true, 8, 21, 0, 0) (some .int) "firstAct") (hv : isW v) (p2 : Int32) (M : k_M) : Sm Z G emI (true, 8, 21, 0, 0) (0, 0) 0 [(0, k_ra Z v), (1, Value.int p2)] [] M (f_X0_firstAct v p2 M) := by
  show Sm Z G emI _ _ _ _ _ _ (bN (-1) (fun v1 => bN (-1) (fun v2 => if 0 < p2 then bd (f_X10_choices v M) (fun r3 M4 => f_X0_firstAct_19 v k_fu p2 v1 v2 r3 0 M4 (fun l2_ M_ => f_X0_firstAct_61 v l2_ M_)) else some (v1, M))))
  refine x_iconst C (v := -1) (k_dg dt_X0_firstAct_0 0 0 (.iconst (-1)) 1 rfl) (by decide) ?_
  refine x_nm (w := Value.int) (fun v1 _ => ?_)
  refine x_istore_n C (lv' := [(2, Value.int v1), (0, k_ra Z v), (1, Value.int p2)]) (k_dg dt_X0_firstAct_0 1 1 (.istore_n 2) 1 rfl) (by decide) rfl ?_
  refine x_iconst C (v := -1) (k_dg dt_X0_firstAct_0 2 2 (.iconst (-1)) 1 rfl) (by decide) ?_
  refine x_nm (w := Value.int) (fun v2 _ => ?_)
  refine x_istore_n C (lv' := [(3, Value.int v2), (2, Value.int v1), (0, k_ra Z v), (1, Value.int p2)]) (k_dg dt_X0_firstAct_0 3 3 (.istore_n 3) 1 rfl) (by decide) rfl ?_
  refine x_iload_n C (k_dg dt_X0_firstAct_0 4 4 (.iload_n 1) 1 rfl) 3 rfl ?_
  refine x_if_gt C (tgt := 10) (k_dg dt_X0_firstAct_0 5 5 (.ifCond .gt 5) 3 rfl) (by decide) (fun _ => ?_) (fun _ => ?_)
  · refine x_aload_n C (k_dg dt_X0_firstAct_0 8 10 (.aload_n 0) 1 rfl) 2 rfl ?_
    refine x_callV C (a := v) (kd := 8) (vs := []) (rest := []) rfl (kW 0 hv rfl) (by decide) (fun r hr => by cases hr; rfl) (c_X10_choices C.2.2.2.2.2.2.2.2.2 G.2.1 v M hv) cy_X10_choices lk_RX0_15 im_X10_choices se_X10_choices (by decide) (by decide) (by decide) (by decide) rfl rfl (Nat.le_of_ble_eq_true rfl) (k_dg dt_X0_firstAct_0 9 11 (.invokevirtual 15) 3 rfl) (fun r3 M4 => ?_)
    show Sm Z G _ _ _ _ [(3, Value.int v2), (2, Value.int v1), (0, k_ra Z v), (1, Value.int p2)] [Value.int r3] _ _
    refine x_istore C (lv' := [(4, Value.int r3), (3, Value.int v2), (2, Value.int v1), (0, k_ra Z v), (1, Value.int p2)]) (k_dg dt_X0_firstAct_0 10 14 (.istore 4) 2 rfl) (by decide) rfl ?_
    refine x_iconst C (v := 0) (k_dg dt_X0_firstAct_0 11 16 (.iconst 0) 1 rfl) (by decide) ?_
    refine x_istore C (lv' := [(5, Value.int 0), (4, Value.int r3), (3, Value.int v2), (2, Value.int v1), (0, k_ra Z v), (1, Value.int p2)]) (k_dg dt_X0_firstAct_0 12 17 (.istore 5) 2 rfl) (by decide) rfl ?_
    refine x_lv [4, 5, 3, 2, 1, 0] rfl ?_
    exact m_X0_firstAct_19 C hv (fun l2_ M_ => f_X0_firstAct_61 v l2_ M_) (fun l2_ M_ => m_X0_firstAct_61 C hv l2_ M_) k_fu p2 v1 v2 r3 0 M4
  · refine x_iload_n C (k_dg dt_X0_firstAct_0 6 8 (.iload_n 2) 1 rfl) 1 rfl ?_
    exact x_iret C (by decide) (by decide) (k_dg dt_X0_firstAct_0 7 9 (.ireturn) 1 rfl)
theorem c_X0_firstAct {Z : k_Z} (hg : k_Gd Z) (l : Launch) (v : Nat) (p2 : Int32) (M : k_M) (hv : isW v) : Con true Z l yX0_firstAct cX0_firstAct 8 (some .int) 21 0 0 emI [k_ra Z v, Value.int p2] M (f_X0_firstAct v p2 M) := k_con hg (by decide) (Nat.le_of_ble_eq_true rfl) (fun G hl C => m_X0_firstAct_0 C hv p2 M)
theorem dt_X0_lasts_0 : k_dec cX0_lasts [(0, .iload_n 1, 1), (1, .ifCond .gt 7, 3), (4, .iconst 1, 1), (5, .goto 4, 3), (8, .iconst 0, 1), (9, .istore_n 2, 1), (10, .aload_n 0, 1), (11, .invokevirtual 15, 3), (14, .istore_n 3, 1), (15, .iconst 0, 1), (16, .istore 4, 2), (18, .iload 4, 2), (20, .iload_n 3, 1), (21, .if_icmp .ge 70, 3), (24, .iload_n 2, 1), (25, .ifCond .ne 66, 3), (28, .aload_n 0, 1), (29, .iload 4, 2), (31, .invokevirtual 18, 3), (34, .istore 5, 2), (36, .aload_n 0, 1), (37, .iload 5, 2), (39, .invokevirtual 26, 3), (42, .istore 6, 2), (44, .iload 6, 2), (46, .iload_n 1, 1), (47, .if_icmp .le 7, 3), (50, .iconst (-1), 1), (51, .goto 9, 3), (54, .aload_n 0, 1), (55, .iload 5, 2), (57, .invokevirtual 29, 3), (60, .istore 7, 2), (62, .iload 7, 2), (64, .iconst (-1), 1), (65, .if_icmp .eq 20, 3), (68, .aload_n 0, 1), (69, .iload_n 1, 1), (70, .iload 6, 2), (72, .isub, 1)] = true := by decide +kernel
theorem dt_X0_lasts_1 : k_dec cX0_lasts [(73, .invokestatic 40, 3), (76, .istore_n 2, 1), (77, .aload_n 0, 1), (78, .iload 5, 2), (80, .iload 7, 2), (82, .invokevirtual 36, 3), (85, .iinc 4 1, 3), (88, .goto (-70), 3), (91, .iload_n 2, 1), (92, .ireturn, 1)] = true := by decide +kernel
def f_X0_lastsS_85 (g : Nat → Int32 → k_M → Option (Int32 × k_M)) (v : Nat) (l1 : Int32) (l2 : Int32) (l3 : Int32) (l4 : Int32) (M : k_M) (kb : Int32 → Int32 → Int32 → Int32 → k_M → Option (Int32 × k_M)) (kx91 : Int32 → k_M → Option (Int32 × k_M)) : Option (Int32 × k_M) := kb l1 l2 l3 (l4 + 1) M
theorem m_X0_lasts_85 {Z : k_Z} {G : k_G} {v : Nat} {g : Nat → Int32 → k_M → Option (Int32 × k_M)} {e : Nat} (C : k_C Z G RX0 cX0_lasts (true, 8, (e + 1), 0, 0) (some .boolean) "lasts") (hv : isW v) (he : 3 ≤ e) (hrec : ∀ (v : Nat) (p2 : Int32) (M : k_M), isW v → Con true Z G.2.1 yX0_lasts cX0_lasts 8 (some .boolean) e 0 0 emI [k_ra Z v, Value.int p2] M (g v p2 M)) (kb : Int32 → Int32 → Int32 → Int32 → k_M → Option (Int32 × k_M)) (kx91 : Int32 → k_M → Option (Int32 × k_M)) (Hb : ∀ (l1 : Int32) (l2 : Int32) (l3 : Int32) (l4 : Int32) (M : k_M), Sm Z G emI (true, 8, (e + 1), 0, 0) (0, 0) 18 [(0, k_ra Z v), (1, Value.int l1), (2, Value.int l2), (3, Value.int l3), (4, Value.int l4)] [] M (kb l1 l2 l3 l4 M)) (Hx91 : ∀ (l2 : Int32) (M : k_M), Sm Z G emI (true, 8, (e + 1), 0, 0) (0, 0) 91 [(2, Value.int l2)] [] M (kx91 l2 M)) (l1 : Int32) (l2 : Int32) (l3 : Int32) (l4 : Int32) (M : k_M) : Sm Z G emI (true, 8, (e + 1), 0, 0) (0, 0) 85 [(0, k_ra Z v), (1, Value.int l1), (2, Value.int l2), (3, Value.int l3), (4, Value.int l4)] [] M (f_X0_lastsS_85 g v l1 l2 l3 l4 M kb kx91) := by
  show Sm Z G emI _ _ _ _ _ _ (kb l1 l2 l3 (l4 + 1) M)
  refine x_iinc C (v := 1) (lv' := [(4, Value.int (l4 + 1)), (0, k_ra Z v), (1, Value.int l1), (2, Value.int l2), (3, Value.int l3)]) (k_dg dt_X0_lasts_1 6 85 (.iinc 4 1) 3 rfl) 4 rfl (by decide) (Nat.le_of_ble_eq_true rfl) rfl ?_
  refine x_goto C (tgt := 18) (k_dg dt_X0_lasts_1 7 88 (.goto (-70)) 3 rfl) (by decide) ?_
  refine x_lv [1, 2, 3, 4, 0] rfl ?_
  exact Hb l1 l2 l3 (l4 + 1) M
def f_X0_lastsS_60 (g : Nat → Int32 → k_M → Option (Int32 × k_M)) (v : Nat) (l1 : Int32) (l2 : Int32) (l3 : Int32) (l4 : Int32) (l5 : Int32) (l6 : Int32) (t0 : Int32) (M : k_M) (kb : Int32 → Int32 → Int32 → Int32 → k_M → Option (Int32 × k_M)) (kx91 : Int32 → k_M → Option (Int32 × k_M)) : Option (Int32 × k_M) := if t0 = (-1) then f_X0_lastsS_85 g v l1 l2 l3 l4 M kb kx91 else bd (g v (l1 - l6) M) (fun r1 M2 => bd (f_X10_takeBack v l5 t0 M2) (fun r3 M4 => f_X0_lastsS_85 g v l1 r1 l3 l4 M4 kb kx91))
theorem m_X0_lasts_60 {Z : k_Z} {G : k_G} {v : Nat} {g : Nat → Int32 → k_M → Option (Int32 × k_M)} {e : Nat} (C : k_C Z G RX0 cX0_lasts (true, 8, (e + 1), 0, 0) (some .boolean) "lasts") (hv : isW v) (he : 3 ≤ e) (hrec : ∀ (v : Nat) (p2 : Int32) (M : k_M), isW v → Con true Z G.2.1 yX0_lasts cX0_lasts 8 (some .boolean) e 0 0 emI [k_ra Z v, Value.int p2] M (g v p2 M)) (kb : Int32 → Int32 → Int32 → Int32 → k_M → Option (Int32 × k_M)) (kx91 : Int32 → k_M → Option (Int32 × k_M)) (Hb : ∀ (l1 : Int32) (l2 : Int32) (l3 : Int32) (l4 : Int32) (M : k_M), Sm Z G emI (true, 8, (e + 1), 0, 0) (0, 0) 18 [(0, k_ra Z v), (1, Value.int l1), (2, Value.int l2), (3, Value.int l3), (4, Value.int l4)] [] M (kb l1 l2 l3 l4 M)) (Hx91 : ∀ (l2 : Int32) (M : k_M), Sm Z G emI (true, 8, (e + 1), 0, 0) (0, 0) 91 [(2, Value.int l2)] [] M (kx91 l2 M)) (l1 : Int32) (l2 : Int32) (l3 : Int32) (l4 : Int32) (l5 : Int32) (l6 : Int32) (t0 : Int32) (M : k_M) : Sm Z G emI (true, 8, (e + 1), 0, 0) (0, 0) 60 [(0, k_ra Z v), (1, Value.int l1), (2, Value.int l2), (3, Value.int l3), (4, Value.int l4), (5, Value.int l5), (6, Value.int l6)] [Value.int t0] M (f_X0_lastsS_60 g v l1 l2 l3 l4 l5 l6 t0 M kb kx91) := by
  show Sm Z G emI _ _ _ _ _ _ (if t0 = (-1) then f_X0_lastsS_85 g v l1 l2 l3 l4 M kb kx91 else bd (g v (l1 - l6) M) (fun r1 M2 => bd (f_X10_takeBack v l5 t0 M2) (fun r3 M4 => f_X0_lastsS_85 g v l1 r1 l3 l4 M4 kb kx91)))
  refine x_istore C (lv' := [(7, Value.int t0), (0, k_ra Z v), (1, Value.int l1), (2, Value.int l2), (3, Value.int l3), (4, Value.int l4), (5, Value.int l5), (6, Value.int l6)]) (k_dg dt_X0_lasts_0 32 60 (.istore 7) 2 rfl) (Nat.le_of_ble_eq_true rfl) rfl ?_
  refine x_iload C (k_dg dt_X0_lasts_0 33 62 (.iload 7) 2 rfl) 0 rfl ?_
  refine x_iconst C (v := -1) (k_dg dt_X0_lasts_0 34 64 (.iconst (-1)) 1 rfl) (by decide) ?_
  refine x_icmp_eq C (tgt := 85) (k_dg dt_X0_lasts_0 35 65 (.if_icmp .eq 20) 3 rfl) (by decide) (fun _ => ?_) (fun _ => ?_)
  · refine x_lv [1, 2, 3, 4, 5] rfl ?_
    exact m_X0_lasts_85 C hv he hrec kb kx91 Hb Hx91 l1 l2 l3 l4 M
  · refine x_aload_n C (k_dg dt_X0_lasts_0 36 68 (.aload_n 0) 1 rfl) 1 rfl ?_
    refine x_iload_n C (k_dg dt_X0_lasts_0 37 69 (.iload_n 1) 1 rfl) 2 rfl ?_
    refine x_iload C (k_dg dt_X0_lasts_0 38 70 (.iload 6) 2 rfl) 7 rfl ?_
    refine x_isub C (k_dg dt_X0_lasts_0 39 72 (.isub) 1 rfl) ?_
    refine x_callS C (vs := [k_ra Z v, Value.int (l1 - l6)]) (rest := []) (hrec v (l1 - l6) M hv) cy_X0_lasts lk_RX0_40 stt_X0_lasts (by show _ + 1 ≤ e + 1; omega) (by decide) (Nat.le_of_ble_eq_true rfl) (Nat.le_of_ble_eq_true rfl) rfl rfl (Nat.le_of_ble_eq_true rfl) (k_dg dt_X0_lasts_1 0 73 (.invokestatic 40) 3 rfl) (fun r1 M2 => ?_)
    show Sm Z G _ _ _ _ [(7, Value.int t0), (0, k_ra Z v), (1, Value.int l1), (2, Value.int l2), (3, Value.int l3), (4, Value.int l4), (5, Value.int l5), (6, Value.int l6)] [Value.int r1] _ _
    refine x_istore_n C (lv' := [(2, Value.int r1), (7, Value.int t0), (0, k_ra Z v), (1, Value.int l1), (3, Value.int l3), (4, Value.int l4), (5, Value.int l5), (6, Value.int l6)]) (k_dg dt_X0_lasts_1 1 76 (.istore_n 2) 1 rfl) (Nat.le_of_ble_eq_true rfl) rfl ?_
    refine x_aload_n C (k_dg dt_X0_lasts_1 2 77 (.aload_n 0) 1 rfl) 2 rfl ?_
    refine x_iload C (k_dg dt_X0_lasts_1 3 78 (.iload 5) 2 rfl) 6 rfl ?_
    refine x_iload C (k_dg dt_X0_lasts_1 4 80 (.iload 7) 2 rfl) 1 rfl ?_
    refine x_callV C (a := v) (kd := 8) (vs := [Value.int l5, Value.int t0]) (rest := []) rfl (kW 0 hv rfl) (by decide) (fun r hr => by cases hr; rfl) (c_X10_takeBack C.2.2.2.2.2.2.2.2.2 G.2.1 v l5 t0 M2 hv) cy_X10_takeBack lk_RX0_36 im_X10_takeBack se_X10_takeBack (by show _ + 1 ≤ e + 1; omega) (by decide) (Nat.le_of_ble_eq_true rfl) (Nat.le_of_ble_eq_true rfl) rfl rfl (Nat.le_of_ble_eq_true rfl) (k_dg dt_X0_lasts_1 5 82 (.invokevirtual 36) 3 rfl) (fun r3 M4 => ?_)
    show Sm Z G _ _ _ _ [(2, Value.int r1), (7, Value.int t0), (0, k_ra Z v), (1, Value.int l1), (3, Value.int l3), (4, Value.int l4), (5, Value.int l5), (6, Value.int l6)] [] _ _
    refine x_lv [2, 3, 0, 4, 5] rfl ?_
    exact m_X0_lasts_85 C hv he hrec kb kx91 Hb Hx91 l1 r1 l3 l4 M4
def f_X0_lastsS_18 (g : Nat → Int32 → k_M → Option (Int32 × k_M)) (v : Nat) : Nat → Int32 → Int32 → Int32 → Int32 → k_M → (Int32 → k_M → Option (Int32 × k_M)) → Option (Int32 × k_M)
  | 0, _, _, _, _, _, _ => none
  | n + 1, l1, l2, l3, l4, M, kx91 => if l3 ≤ l4 then kx91 l2 M else if l2 = 0 then bd (f_X10_choice v l4 M) (fun r1 M2 => bd (f_X10_daysOf v r1 M2) (fun r3 M4 => if r3 ≤ l1 then bd (f_X10_attempt v r1 M4) (fun r5 M6 => f_X0_lastsS_60 g v l1 l2 l3 l4 r1 r3 r5 M6 ((fun l1_ l2_ l3_ l4_ M_ => f_X0_lastsS_18 g v n l1_ l2_ l3_ l4_ M_ kx91)) kx91) else f_X0_lastsS_60 g v l1 l2 l3 l4 r1 r3 (-1) M4 ((fun l1_ l2_ l3_ l4_ M_ => f_X0_lastsS_18 g v n l1_ l2_ l3_ l4_ M_ kx91)) kx91)) else kx91 l2 M
theorem m_X0_lasts_18 {Z : k_Z} {G : k_G} {v : Nat} {g : Nat → Int32 → k_M → Option (Int32 × k_M)} {e : Nat} (C : k_C Z G RX0 cX0_lasts (true, 8, (e + 1), 0, 0) (some .boolean) "lasts") (hv : isW v) (he : 3 ≤ e) (hrec : ∀ (v : Nat) (p2 : Int32) (M : k_M), isW v → Con true Z G.2.1 yX0_lasts cX0_lasts 8 (some .boolean) e 0 0 emI [k_ra Z v, Value.int p2] M (g v p2 M)) (kx91 : Int32 → k_M → Option (Int32 × k_M)) (Hx91 : ∀ (l2 : Int32) (M : k_M), Sm Z G emI (true, 8, (e + 1), 0, 0) (0, 0) 91 [(2, Value.int l2)] [] M (kx91 l2 M)) : ∀ (n : Nat) (l1 : Int32) (l2 : Int32) (l3 : Int32) (l4 : Int32) (M : k_M), Sm Z G emI (true, 8, (e + 1), 0, 0) (0, 0) 18 [(0, k_ra Z v), (1, Value.int l1), (2, Value.int l2), (3, Value.int l3), (4, Value.int l4)] [] M (f_X0_lastsS_18 g v n l1 l2 l3 l4 M kx91)
  | 0, _, _, _, _, _ => x_none
  | n + 1, l1, l2, l3, l4, M => by
    have ih := m_X0_lasts_18 C hv he hrec kx91 Hx91 n
    show Sm Z G emI _ _ _ _ _ _ (if l3 ≤ l4 then kx91 l2 M else if l2 = 0 then bd (f_X10_choice v l4 M) (fun r1 M2 => bd (f_X10_daysOf v r1 M2) (fun r3 M4 => if r3 ≤ l1 then bd (f_X10_attempt v r1 M4) (fun r5 M6 => f_X0_lastsS_60 g v l1 l2 l3 l4 r1 r3 r5 M6 ((fun l1_ l2_ l3_ l4_ M_ => f_X0_lastsS_18 g v n l1_ l2_ l3_ l4_ M_ kx91)) kx91) else f_X0_lastsS_60 g v l1 l2 l3 l4 r1 r3 (-1) M4 ((fun l1_ l2_ l3_ l4_ M_ => f_X0_lastsS_18 g v n l1_ l2_ l3_ l4_ M_ kx91)) kx91)) else kx91 l2 M)
    refine x_iload C (k_dg dt_X0_lasts_0 11 18 (.iload 4) 2 rfl) 4 rfl ?_
    refine x_iload_n C (k_dg dt_X0_lasts_0 12 20 (.iload_n 3) 1 rfl) 3 rfl ?_
    refine x_icmp_ge C (tgt := 91) (k_dg dt_X0_lasts_0 13 21 (.if_icmp .ge 70) 3 rfl) (by decide) (fun _ => ?_) (fun _ => ?_)
    · refine x_lv [2] rfl ?_
      exact Hx91 l2 M
    · refine x_iload_n C (k_dg dt_X0_lasts_0 14 24 (.iload_n 2) 1 rfl) 2 rfl ?_
      refine x_if_ne C (tgt := 91) (k_dg dt_X0_lasts_0 15 25 (.ifCond .ne 66) 3 rfl) (by decide) (fun _ => ?_) (fun _ => ?_)
      · refine x_aload_n C (k_dg dt_X0_lasts_0 16 28 (.aload_n 0) 1 rfl) 0 rfl ?_
        refine x_iload C (k_dg dt_X0_lasts_0 17 29 (.iload 4) 2 rfl) 4 rfl ?_
        refine x_callV C (a := v) (kd := 8) (vs := [Value.int l4]) (rest := []) rfl (kW 0 hv rfl) (by decide) (fun r hr => by cases hr; rfl) (c_X10_choice C.2.2.2.2.2.2.2.2.2 G.2.1 v l4 M hv) cy_X10_choice lk_RX0_18 im_X10_choice se_X10_choice (by show _ + 1 ≤ e + 1; omega) (by decide) (Nat.le_of_ble_eq_true rfl) (Nat.le_of_ble_eq_true rfl) rfl rfl (Nat.le_of_ble_eq_true rfl) (k_dg dt_X0_lasts_0 18 31 (.invokevirtual 18) 3 rfl) (fun r1 M2 => ?_)
        show Sm Z G _ _ _ _ [(0, k_ra Z v), (1, Value.int l1), (2, Value.int l2), (3, Value.int l3), (4, Value.int l4)] [Value.int r1] _ _
        refine x_istore C (lv' := [(5, Value.int r1), (0, k_ra Z v), (1, Value.int l1), (2, Value.int l2), (3, Value.int l3), (4, Value.int l4)]) (k_dg dt_X0_lasts_0 19 34 (.istore 5) 2 rfl) (Nat.le_of_ble_eq_true rfl) rfl ?_
        refine x_aload_n C (k_dg dt_X0_lasts_0 20 36 (.aload_n 0) 1 rfl) 1 rfl ?_
        refine x_iload C (k_dg dt_X0_lasts_0 21 37 (.iload 5) 2 rfl) 0 rfl ?_
        refine x_callV C (a := v) (kd := 8) (vs := [Value.int r1]) (rest := []) rfl (kW 0 hv rfl) (by decide) (fun r hr => by cases hr; rfl) (c_X10_daysOf C.2.2.2.2.2.2.2.2.2 G.2.1 v r1 M2 hv) cy_X10_daysOf lk_RX0_26 im_X10_daysOf se_X10_daysOf (by show _ + 1 ≤ e + 1; omega) (by decide) (Nat.le_of_ble_eq_true rfl) (Nat.le_of_ble_eq_true rfl) rfl rfl (Nat.le_of_ble_eq_true rfl) (k_dg dt_X0_lasts_0 22 39 (.invokevirtual 26) 3 rfl) (fun r3 M4 => ?_)
        show Sm Z G _ _ _ _ [(5, Value.int r1), (0, k_ra Z v), (1, Value.int l1), (2, Value.int l2), (3, Value.int l3), (4, Value.int l4)] [Value.int r3] _ _
        refine x_istore C (lv' := [(6, Value.int r3), (5, Value.int r1), (0, k_ra Z v), (1, Value.int l1), (2, Value.int l2), (3, Value.int l3), (4, Value.int l4)]) (k_dg dt_X0_lasts_0 23 42 (.istore 6) 2 rfl) (Nat.le_of_ble_eq_true rfl) rfl ?_
        refine x_iload C (k_dg dt_X0_lasts_0 24 44 (.iload 6) 2 rfl) 0 rfl ?_
        refine x_iload_n C (k_dg dt_X0_lasts_0 25 46 (.iload_n 1) 1 rfl) 3 rfl ?_
        refine x_icmp_le C (tgt := 54) (k_dg dt_X0_lasts_0 26 47 (.if_icmp .le 7) 3 rfl) (by decide) (fun _ => ?_) (fun _ => ?_)
        · refine x_aload_n C (k_dg dt_X0_lasts_0 29 54 (.aload_n 0) 1 rfl) 2 rfl ?_
          refine x_iload C (k_dg dt_X0_lasts_0 30 55 (.iload 5) 2 rfl) 1 rfl ?_
          refine x_callV C (a := v) (kd := 8) (vs := [Value.int r1]) (rest := []) rfl (kW 0 hv rfl) (by decide) (fun r hr => by cases hr; rfl) (c_X10_attempt C.2.2.2.2.2.2.2.2.2 G.2.1 v r1 M4 hv) cy_X10_attempt lk_RX0_29 im_X10_attempt se_X10_attempt (by show _ + 1 ≤ e + 1; omega) (by decide) (Nat.le_of_ble_eq_true rfl) (Nat.le_of_ble_eq_true rfl) rfl rfl (Nat.le_of_ble_eq_true rfl) (k_dg dt_X0_lasts_0 31 57 (.invokevirtual 29) 3 rfl) (fun r5 M6 => ?_)
          show Sm Z G _ _ _ _ [(6, Value.int r3), (5, Value.int r1), (0, k_ra Z v), (1, Value.int l1), (2, Value.int l2), (3, Value.int l3), (4, Value.int l4)] [Value.int r5] _ _
          refine x_lv [2, 3, 4, 5, 6, 1, 0] rfl ?_
          exact m_X0_lasts_60 C hv he hrec ((fun l1_ l2_ l3_ l4_ M_ => f_X0_lastsS_18 g v n l1_ l2_ l3_ l4_ M_ kx91)) kx91 ih Hx91 l1 l2 l3 l4 r1 r3 r5 M6
        · refine x_iconst C (v := -1) (k_dg dt_X0_lasts_0 27 50 (.iconst (-1)) 1 rfl) (by decide) ?_
          refine x_goto C (tgt := 60) (k_dg dt_X0_lasts_0 28 51 (.goto 9) 3 rfl) (by decide) ?_
          refine x_lv [2, 3, 4, 5, 6, 1, 0] rfl ?_
          exact m_X0_lasts_60 C hv he hrec ((fun l1_ l2_ l3_ l4_ M_ => f_X0_lastsS_18 g v n l1_ l2_ l3_ l4_ M_ kx91)) kx91 ih Hx91 l1 l2 l3 l4 r1 r3 (-1) M4
      · refine x_lv [2] rfl ?_
        exact Hx91 l2 M
def f_X0_lastsS_91 (g : Nat → Int32 → k_M → Option (Int32 × k_M)) (v : Nat) (l2 : Int32) (M : k_M) : Option (Int32 × k_M) := ckZ l2 (some (l2, M))
theorem m_X0_lasts_91 {Z : k_Z} {G : k_G} {v : Nat} {g : Nat → Int32 → k_M → Option (Int32 × k_M)} {e : Nat} (C : k_C Z G RX0 cX0_lasts (true, 8, (e + 1), 0, 0) (some .boolean) "lasts") (hv : isW v) (he : 3 ≤ e) (hrec : ∀ (v : Nat) (p2 : Int32) (M : k_M), isW v → Con true Z G.2.1 yX0_lasts cX0_lasts 8 (some .boolean) e 0 0 emI [k_ra Z v, Value.int p2] M (g v p2 M)) (l2 : Int32) (M : k_M) : Sm Z G emI (true, 8, (e + 1), 0, 0) (0, 0) 91 [(2, Value.int l2)] [] M (f_X0_lastsS_91 g v l2 M) := by
  show Sm Z G emI _ _ _ _ _ _ (ckZ l2 (some (l2, M)))
  refine x_iload_n C (k_dg dt_X0_lasts_1 8 91 (.iload_n 2) 1 rfl) 0 rfl ?_
  refine x_ckZ (fun h1 => ?_)
  exact x_zret C (Nat.le_of_ble_eq_true rfl) (Nat.le_of_ble_eq_true rfl) (k_nz h1) (k_dg dt_X0_lasts_1 9 92 (.ireturn) 1 rfl)
def f_X0_lastsS_9 (g : Nat → Int32 → k_M → Option (Int32 × k_M)) (v : Nat) (l1 : Int32) (t0 : Int32) (M : k_M) : Option (Int32 × k_M) := bd (f_X10_choices v M) (fun r1 M2 => f_X0_lastsS_18 g v k_fu l1 t0 r1 0 M2 (fun l2_ M_ => f_X0_lastsS_91 g v l2_ M_))
theorem m_X0_lasts_9 {Z : k_Z} {G : k_G} {v : Nat} {g : Nat → Int32 → k_M → Option (Int32 × k_M)} {e : Nat} (C : k_C Z G RX0 cX0_lasts (true, 8, (e + 1), 0, 0) (some .boolean) "lasts") (hv : isW v) (he : 3 ≤ e) (hrec : ∀ (v : Nat) (p2 : Int32) (M : k_M), isW v → Con true Z G.2.1 yX0_lasts cX0_lasts 8 (some .boolean) e 0 0 emI [k_ra Z v, Value.int p2] M (g v p2 M)) (l1 : Int32) (t0 : Int32) (M : k_M) : Sm Z G emI (true, 8, (e + 1), 0, 0) (0, 0) 9 [(0, k_ra Z v), (1, Value.int l1)] [Value.int t0] M (f_X0_lastsS_9 g v l1 t0 M) := by
  show Sm Z G emI _ _ _ _ _ _ (bd (f_X10_choices v M) (fun r1 M2 => f_X0_lastsS_18 g v k_fu l1 t0 r1 0 M2 (fun l2_ M_ => f_X0_lastsS_91 g v l2_ M_)))
  refine x_istore_n C (lv' := [(2, Value.int t0), (0, k_ra Z v), (1, Value.int l1)]) (k_dg dt_X0_lasts_0 5 9 (.istore_n 2) 1 rfl) (Nat.le_of_ble_eq_true rfl) rfl ?_
  refine x_aload_n C (k_dg dt_X0_lasts_0 6 10 (.aload_n 0) 1 rfl) 1 rfl ?_
  refine x_callV C (a := v) (kd := 8) (vs := []) (rest := []) rfl (kW 0 hv rfl) (by decide) (fun r hr => by cases hr; rfl) (c_X10_choices C.2.2.2.2.2.2.2.2.2 G.2.1 v M hv) cy_X10_choices lk_RX0_15 im_X10_choices se_X10_choices (by show _ + 1 ≤ e + 1; omega) (by decide) (Nat.le_of_ble_eq_true rfl) (Nat.le_of_ble_eq_true rfl) rfl rfl (Nat.le_of_ble_eq_true rfl) (k_dg dt_X0_lasts_0 7 11 (.invokevirtual 15) 3 rfl) (fun r1 M2 => ?_)
  show Sm Z G _ _ _ _ [(2, Value.int t0), (0, k_ra Z v), (1, Value.int l1)] [Value.int r1] _ _
  refine x_istore_n C (lv' := [(3, Value.int r1), (2, Value.int t0), (0, k_ra Z v), (1, Value.int l1)]) (k_dg dt_X0_lasts_0 8 14 (.istore_n 3) 1 rfl) (Nat.le_of_ble_eq_true rfl) rfl ?_
  refine x_iconst C (v := 0) (k_dg dt_X0_lasts_0 9 15 (.iconst 0) 1 rfl) (by decide) ?_
  refine x_istore C (lv' := [(4, Value.int 0), (3, Value.int r1), (2, Value.int t0), (0, k_ra Z v), (1, Value.int l1)]) (k_dg dt_X0_lasts_0 10 16 (.istore 4) 2 rfl) (Nat.le_of_ble_eq_true rfl) rfl ?_
  refine x_lv [3, 4, 2, 1, 0] rfl ?_
  exact m_X0_lasts_18 C hv he hrec (fun l2_ M_ => f_X0_lastsS_91 g v l2_ M_) (fun l2_ M_ => m_X0_lasts_91 C hv he hrec l2_ M_) k_fu l1 t0 r1 0 M2
def f_X0_lastsS (g : Nat → Int32 → k_M → Option (Int32 × k_M)) (v : Nat) (p2 : Int32) (M : k_M) : Option (Int32 × k_M) := if 0 < p2 then f_X0_lastsS_9 g v p2 0 M else f_X0_lastsS_9 g v p2 1 M
theorem m_X0_lasts_0 {Z : k_Z} {G : k_G} {v : Nat} {g : Nat → Int32 → k_M → Option (Int32 × k_M)} {e : Nat} (C : k_C Z G RX0 cX0_lasts (true, 8, (e + 1), 0, 0) (some .boolean) "lasts") (hv : isW v) (he : 3 ≤ e) (hrec : ∀ (v : Nat) (p2 : Int32) (M : k_M), isW v → Con true Z G.2.1 yX0_lasts cX0_lasts 8 (some .boolean) e 0 0 emI [k_ra Z v, Value.int p2] M (g v p2 M)) (p2 : Int32) (M : k_M) : Sm Z G emI (true, 8, (e + 1), 0, 0) (0, 0) 0 [(0, k_ra Z v), (1, Value.int p2)] [] M (f_X0_lastsS g v p2 M) := by
  show Sm Z G emI _ _ _ _ _ _ (if 0 < p2 then f_X0_lastsS_9 g v p2 0 M else f_X0_lastsS_9 g v p2 1 M)
  refine x_iload_n C (k_dg dt_X0_lasts_0 0 0 (.iload_n 1) 1 rfl) 1 rfl ?_
  refine x_if_gt C (tgt := 8) (k_dg dt_X0_lasts_0 1 1 (.ifCond .gt 7) 3 rfl) (by decide) (fun _ => ?_) (fun _ => ?_)
  · refine x_iconst C (v := 0) (k_dg dt_X0_lasts_0 4 8 (.iconst 0) 1 rfl) (by decide) ?_
    exact m_X0_lasts_9 C hv he hrec p2 0 M
  · refine x_iconst C (v := 1) (k_dg dt_X0_lasts_0 2 4 (.iconst 1) 1 rfl) (by decide) ?_
    refine x_goto C (tgt := 9) (k_dg dt_X0_lasts_0 3 5 (.goto 4) 3 rfl) (by decide) ?_
    exact m_X0_lasts_9 C hv he hrec p2 1 M
theorem c_X0_lastsS {Z : k_Z} (hg : k_Gd Z) (l : Launch) {g : Nat → Int32 → k_M → Option (Int32 × k_M)} {e : Nat} (he : 3 ≤ e) (hrec : ∀ (v : Nat) (p2 : Int32) (M : k_M), isW v → Con true Z l yX0_lasts cX0_lasts 8 (some .boolean) e 0 0 emI [k_ra Z v, Value.int p2] M (g v p2 M)) (v : Nat) (p2 : Int32) (M : k_M) (hv : isW v) : Con true Z l yX0_lasts cX0_lasts 8 (some .boolean) (e + 1) 0 0 emI [k_ra Z v, Value.int p2] M (f_X0_lastsS g v p2 M) := k_con hg (by decide) (Nat.le_of_ble_eq_true rfl) (fun G hl C => by subst hl; exact m_X0_lasts_0 C hv he hrec p2 M)
def f_X0_lasts : Nat → Nat → Int32 → k_M → Option (Int32 × k_M)
  | 0, _, _, _ => none
  | n + 1, v, p2, M => f_X0_lastsS (f_X0_lasts n) v p2 M
theorem c_X0_lasts {Z : k_Z} (hg : k_Gd Z) (l : Launch) : ∀ (n : Nat) (v : Nat) (p2 : Int32) (M : k_M) (hv : isW v), Con true Z l yX0_lasts cX0_lasts 8 (some .boolean) (3 + 1 * n) 0 0 emI [k_ra Z v, Value.int p2] M (f_X0_lasts n v p2 M)
  | 0, _, _, _, _ => fun r M' h => by cases h
  | n + 1, v, p2, M, hv => c_X0_lastsS hg l (e := 3 + 1 * n) (Nat.le_add_right _ _) (fun v p2 M hv => c_X0_lasts hg l n v p2 M hv) v p2 M hv
theorem dt_X0_surenessOfDay_0 : k_dec cX0_surenessOfDay [(0, .aload_n 0, 1), (1, .iload_n 2, 1), (2, .invokevirtual 68, 3), (5, .istore_n 3, 1), (6, .iload_n 3, 1), (7, .iconst (-1), 1), (8, .if_icmp .ne 5, 3), (11, .iconst 0, 1), (12, .ireturn, 1), (13, .aload_n 0, 1), (14, .iload_n 1, 1), (15, .iconst 1, 1), (16, .isub, 1), (17, .invokestatic 47, 3), (20, .istore 4, 2), (22, .aload_n 0, 1), (23, .iconst 0, 1), (24, .iload_n 3, 1), (25, .invokevirtual 36, 3), (28, .iload 4, 2), (30, .ireturn, 1)] = true := by decide +kernel
def f_X0_surenessOfDay (g : Nat → Int32 → k_M → Option (Int32 × k_M)) (v : Nat) (p2 : Int32) (p3 : Int32) (M : k_M) : Option (Int32 × k_M) := bd (f_X10_stand v p3 M) (fun r1 M2 => if r1 = (-1) then some (0, M2) else bd (g v (p2 - 1) M2) (fun r3 M4 => bd (f_X10_takeBack v 0 r1 M4) (fun r5 M6 => some (r3, M6))))
theorem m_X0_surenessOfDay_0 {Z : k_Z} {G : k_G} {v : Nat} {g : Nat → Int32 → k_M → Option (Int32 × k_M)} {e : Nat} (C : k_C Z G RX0 cX0_surenessOfDay (true, 5, (e + 1), 0, 0) (some .int) "surenessOfDay") (hv : isW v) (he : 3 ≤ e) (hrec : ∀ (v : Nat) (p2 : Int32) (M : k_M), isW v → Con true Z G.2.1 yX0_sureness cX0_sureness 7 (some .int) e 0 0 emI [k_ra Z v, Value.int p2] M (g v p2 M)) (p2 : Int32) (p3 : Int32) (M : k_M) : Sm Z G emI (true, 5, (e + 1), 0, 0) (0, 0) 0 [(0, k_ra Z v), (1, Value.int p2), (2, Value.int p3)] [] M (f_X0_surenessOfDay g v p2 p3 M) := by
  show Sm Z G emI _ _ _ _ _ _ (bd (f_X10_stand v p3 M) (fun r1 M2 => if r1 = (-1) then some (0, M2) else bd (g v (p2 - 1) M2) (fun r3 M4 => bd (f_X10_takeBack v 0 r1 M4) (fun r5 M6 => some (r3, M6)))))
  refine x_aload_n C (k_dg dt_X0_surenessOfDay_0 0 0 (.aload_n 0) 1 rfl) 0 rfl ?_
  refine x_iload_n C (k_dg dt_X0_surenessOfDay_0 1 1 (.iload_n 2) 1 rfl) 2 rfl ?_
  refine x_callV C (a := v) (kd := 8) (vs := [Value.int p3]) (rest := []) rfl (kW 0 hv rfl) (by decide) (fun r hr => by cases hr; rfl) (c_X10_stand C.2.2.2.2.2.2.2.2.2 G.2.1 v p3 M hv) cy_X10_stand lk_RX0_68 im_X10_stand se_X10_stand (by show _ + 1 ≤ e + 1; omega) (by decide) (Nat.le_of_ble_eq_true rfl) (Nat.le_of_ble_eq_true rfl) rfl rfl (Nat.le_of_ble_eq_true rfl) (k_dg dt_X0_surenessOfDay_0 2 2 (.invokevirtual 68) 3 rfl) (fun r1 M2 => ?_)
  show Sm Z G _ _ _ _ [(0, k_ra Z v), (1, Value.int p2), (2, Value.int p3)] [Value.int r1] _ _
  refine x_istore_n C (lv' := [(3, Value.int r1), (0, k_ra Z v), (1, Value.int p2), (2, Value.int p3)]) (k_dg dt_X0_surenessOfDay_0 3 5 (.istore_n 3) 1 rfl) (Nat.le_of_ble_eq_true rfl) rfl ?_
  refine x_iload_n C (k_dg dt_X0_surenessOfDay_0 4 6 (.iload_n 3) 1 rfl) 0 rfl ?_
  refine x_iconst C (v := -1) (k_dg dt_X0_surenessOfDay_0 5 7 (.iconst (-1)) 1 rfl) (by decide) ?_
  refine x_icmp_ne C (tgt := 13) (k_dg dt_X0_surenessOfDay_0 6 8 (.if_icmp .ne 5) 3 rfl) (by decide) (fun _ => ?_) (fun _ => ?_)
  · refine x_iconst C (v := 0) (k_dg dt_X0_surenessOfDay_0 7 11 (.iconst 0) 1 rfl) (by decide) ?_
    exact x_iret C (Nat.le_of_ble_eq_true rfl) (Nat.le_of_ble_eq_true rfl) (k_dg dt_X0_surenessOfDay_0 8 12 (.ireturn) 1 rfl)
  · refine x_aload_n C (k_dg dt_X0_surenessOfDay_0 9 13 (.aload_n 0) 1 rfl) 1 rfl ?_
    refine x_iload_n C (k_dg dt_X0_surenessOfDay_0 10 14 (.iload_n 1) 1 rfl) 2 rfl ?_
    refine x_iconst C (v := 1) (k_dg dt_X0_surenessOfDay_0 11 15 (.iconst 1) 1 rfl) (by decide) ?_
    refine x_isub C (k_dg dt_X0_surenessOfDay_0 12 16 (.isub) 1 rfl) ?_
    refine x_callS C (vs := [k_ra Z v, Value.int (p2 - 1)]) (rest := []) (hrec v (p2 - 1) M2 hv) cy_X0_sureness lk_RX0_47 stt_X0_sureness (by show _ + 1 ≤ e + 1; omega) (by decide) (Nat.le_of_ble_eq_true rfl) (Nat.le_of_ble_eq_true rfl) rfl rfl (Nat.le_of_ble_eq_true rfl) (k_dg dt_X0_surenessOfDay_0 13 17 (.invokestatic 47) 3 rfl) (fun r3 M4 => ?_)
    show Sm Z G _ _ _ _ [(3, Value.int r1), (0, k_ra Z v), (1, Value.int p2), (2, Value.int p3)] [Value.int r3] _ _
    refine x_istore C (lv' := [(4, Value.int r3), (3, Value.int r1), (0, k_ra Z v), (1, Value.int p2), (2, Value.int p3)]) (k_dg dt_X0_surenessOfDay_0 14 20 (.istore 4) 2 rfl) (Nat.le_of_ble_eq_true rfl) rfl ?_
    refine x_aload_n C (k_dg dt_X0_surenessOfDay_0 15 22 (.aload_n 0) 1 rfl) 2 rfl ?_
    refine x_iconst C (v := 0) (k_dg dt_X0_surenessOfDay_0 16 23 (.iconst 0) 1 rfl) (by decide) ?_
    refine x_iload_n C (k_dg dt_X0_surenessOfDay_0 17 24 (.iload_n 3) 1 rfl) 1 rfl ?_
    refine x_callV C (a := v) (kd := 8) (vs := [Value.int 0, Value.int r1]) (rest := []) rfl (kW 0 hv rfl) (by decide) (fun r hr => by cases hr; rfl) (c_X10_takeBack C.2.2.2.2.2.2.2.2.2 G.2.1 v 0 r1 M4 hv) cy_X10_takeBack lk_RX0_36 im_X10_takeBack se_X10_takeBack (by show _ + 1 ≤ e + 1; omega) (by decide) (Nat.le_of_ble_eq_true rfl) (Nat.le_of_ble_eq_true rfl) rfl rfl (Nat.le_of_ble_eq_true rfl) (k_dg dt_X0_surenessOfDay_0 18 25 (.invokevirtual 36) 3 rfl) (fun r5 M6 => ?_)
    show Sm Z G _ _ _ _ [(4, Value.int r3), (3, Value.int r1), (0, k_ra Z v), (1, Value.int p2), (2, Value.int p3)] [] _ _
    refine x_iload C (k_dg dt_X0_surenessOfDay_0 19 28 (.iload 4) 2 rfl) 0 rfl ?_
    exact x_iret C (Nat.le_of_ble_eq_true rfl) (Nat.le_of_ble_eq_true rfl) (k_dg dt_X0_surenessOfDay_0 20 30 (.ireturn) 1 rfl)
theorem c_X0_surenessOfDay {Z : k_Z} (hg : k_Gd Z) (l : Launch) {g : Nat → Int32 → k_M → Option (Int32 × k_M)} {e : Nat} (he : 3 ≤ e) (hrec : ∀ (v : Nat) (p2 : Int32) (M : k_M), isW v → Con true Z l yX0_sureness cX0_sureness 7 (some .int) e 0 0 emI [k_ra Z v, Value.int p2] M (g v p2 M)) (v : Nat) (p2 : Int32) (p3 : Int32) (M : k_M) (hv : isW v) : Con true Z l yX0_surenessOfDay cX0_surenessOfDay 5 (some .int) (e + 1) 0 0 emI [k_ra Z v, Value.int p2, Value.int p3] M (f_X0_surenessOfDay g v p2 p3 M) := k_con hg (by decide) (Nat.le_of_ble_eq_true rfl) (fun G hl C => by subst hl; exact m_X0_surenessOfDay_0 C hv he hrec p2 p3 M)
theorem dt_X0_surenessOfStanding_0 : k_dec cX0_surenessOfStanding [(0, .aload_n 0, 1), (1, .iload_n 1, 1), (2, .iconst 0, 1), (3, .invokestatic 56, 3), (6, .istore_n 2, 1), (7, .aload_n 0, 1), (8, .invokevirtual 60, 3), (11, .ifCond .ne 5, 3), (14, .iload_n 2, 1), (15, .ireturn, 1), (16, .aload_n 0, 1), (17, .getfield 64, 3), (20, .bipush 12, 2), (22, .iaload, 1), (23, .istore_n 3, 1), (24, .iload_n 3, 1), (25, .aload_n 0, 1), (26, .iload_n 1, 1), (27, .iconst 1, 1), (28, .invokestatic 56, 3), (31, .imul, 1), (32, .iconst 4, 1), (33, .iload_n 3, 1), (34, .isub, 1), (35, .iload_n 2, 1), (36, .imul, 1), (37, .iadd, 1), (38, .iconst 4, 1), (39, .idiv, 1), (40, .ireturn, 1)] = true := by decide +kernel
def f_X0_surenessOfStanding (g : Nat → Int32 → k_M → Option (Int32 × k_M)) (v : Nat) (p2 : Int32) (M : k_M) : Option (Int32 × k_M) := bd (f_X0_surenessOfDay g v p2 0 M) (fun r1 M2 => bd (f_X10_onMeadow v M2) (fun r3 M4 => if r3 = 0 then some (r1, M4) else rdI M4 (v + 16) 13 12 (fun v5 => bd (f_X0_surenessOfDay g v p2 1 M4) (fun r6 M7 => some (((v5 * r6) + ((4 - v5) * r1)) / 4, M7)))))
theorem m_X0_surenessOfStanding_0 {Z : k_Z} {G : k_G} {v : Nat} {g : Nat → Int32 → k_M → Option (Int32 × k_M)} {e : Nat} (C : k_C Z G RX0 cX0_surenessOfStanding (true, 4, (e + 2), 0, 0) (some .int) "surenessOfStanding") (hv : isW v) (he : 3 ≤ e) (hrec : ∀ (v : Nat) (p2 : Int32) (M : k_M), isW v → Con true Z G.2.1 yX0_sureness cX0_sureness 7 (some .int) e 0 0 emI [k_ra Z v, Value.int p2] M (g v p2 M)) (p2 : Int32) (M : k_M) : Sm Z G emI (true, 4, (e + 2), 0, 0) (0, 0) 0 [(0, k_ra Z v), (1, Value.int p2)] [] M (f_X0_surenessOfStanding g v p2 M) := by
  show Sm Z G emI _ _ _ _ _ _ (bd (f_X0_surenessOfDay g v p2 0 M) (fun r1 M2 => bd (f_X10_onMeadow v M2) (fun r3 M4 => if r3 = 0 then some (r1, M4) else rdI M4 (v + 16) 13 12 (fun v5 => bd (f_X0_surenessOfDay g v p2 1 M4) (fun r6 M7 => some (((v5 * r6) + ((4 - v5) * r1)) / 4, M7))))))
  refine x_aload_n C (k_dg dt_X0_surenessOfStanding_0 0 0 (.aload_n 0) 1 rfl) 0 rfl ?_
  refine x_iload_n C (k_dg dt_X0_surenessOfStanding_0 1 1 (.iload_n 1) 1 rfl) 1 rfl ?_
  refine x_iconst C (v := 0) (k_dg dt_X0_surenessOfStanding_0 2 2 (.iconst 0) 1 rfl) (by decide) ?_
  refine x_callS C (vs := [k_ra Z v, Value.int p2, Value.int 0]) (rest := []) (c_X0_surenessOfDay C.2.2.2.2.2.2.2.2.2 G.2.1 he hrec v p2 0 M hv) cy_X0_surenessOfDay lk_RX0_56 stt_X0_surenessOfDay (by show _ + 1 ≤ e + 2; omega) (by decide) (Nat.le_of_ble_eq_true rfl) (Nat.le_of_ble_eq_true rfl) rfl rfl (Nat.le_of_ble_eq_true rfl) (k_dg dt_X0_surenessOfStanding_0 3 3 (.invokestatic 56) 3 rfl) (fun r1 M2 => ?_)
  show Sm Z G _ _ _ _ [(0, k_ra Z v), (1, Value.int p2)] [Value.int r1] _ _
  refine x_istore_n C (lv' := [(2, Value.int r1), (0, k_ra Z v), (1, Value.int p2)]) (k_dg dt_X0_surenessOfStanding_0 4 6 (.istore_n 2) 1 rfl) (Nat.le_of_ble_eq_true rfl) rfl ?_
  refine x_aload_n C (k_dg dt_X0_surenessOfStanding_0 5 7 (.aload_n 0) 1 rfl) 1 rfl ?_
  refine x_callV C (a := v) (kd := 8) (vs := []) (rest := []) rfl (kW 0 hv rfl) (by decide) (fun r hr => by cases hr; rfl) (c_X10_onMeadow C.2.2.2.2.2.2.2.2.2 G.2.1 v M2 hv) cy_X10_onMeadow lk_RX0_60 im_X10_onMeadow se_X10_onMeadow (by show _ + 1 ≤ e + 2; omega) (by decide) (Nat.le_of_ble_eq_true rfl) (Nat.le_of_ble_eq_true rfl) rfl rfl (Nat.le_of_ble_eq_true rfl) (k_dg dt_X0_surenessOfStanding_0 6 8 (.invokevirtual 60) 3 rfl) (fun r3 M4 => ?_)
  show Sm Z G _ _ _ _ [(2, Value.int r1), (0, k_ra Z v), (1, Value.int p2)] [Value.int r3] _ _
  refine x_if_ne C (tgt := 16) (k_dg dt_X0_surenessOfStanding_0 7 11 (.ifCond .ne 5) 3 rfl) (by decide) (fun _ => ?_) (fun _ => ?_)
  · refine x_iload_n C (k_dg dt_X0_surenessOfStanding_0 8 14 (.iload_n 2) 1 rfl) 0 rfl ?_
    exact x_iret C (Nat.le_of_ble_eq_true rfl) (Nat.le_of_ble_eq_true rfl) (k_dg dt_X0_surenessOfStanding_0 9 15 (.ireturn) 1 rfl)
  · refine x_aload_n C (k_dg dt_X0_surenessOfStanding_0 10 16 (.aload_n 0) 1 rfl) 1 rfl ?_
    refine x_getR C (a := v) (j := 1) (v + 16) rfl (kW 0 hv rfl) (by decide) fl_RX0_64 rfl rfl rfl (k_dg dt_X0_surenessOfStanding_0 11 17 (.getfield 64) 3 rfl) ?_
    refine x_bipush C (v := 12) (k_dg dt_X0_surenessOfStanding_0 12 20 (.bipush 12) 2 rfl) (by decide) ?_
    refine x_iald C (a := v + 16) (n := 13) rfl (kW 16 hv rfl) (k_dg dt_X0_surenessOfStanding_0 13 22 (.iaload) 1 rfl) (fun v5 => ?_)
    refine x_istore_n C (lv' := [(3, Value.int v5), (2, Value.int r1), (0, k_ra Z v), (1, Value.int p2)]) (k_dg dt_X0_surenessOfStanding_0 14 23 (.istore_n 3) 1 rfl) (Nat.le_of_ble_eq_true rfl) rfl ?_
    refine x_iload_n C (k_dg dt_X0_surenessOfStanding_0 15 24 (.iload_n 3) 1 rfl) 0 rfl ?_
    refine x_aload_n C (k_dg dt_X0_surenessOfStanding_0 16 25 (.aload_n 0) 1 rfl) 2 rfl ?_
    refine x_iload_n C (k_dg dt_X0_surenessOfStanding_0 17 26 (.iload_n 1) 1 rfl) 3 rfl ?_
    refine x_iconst C (v := 1) (k_dg dt_X0_surenessOfStanding_0 18 27 (.iconst 1) 1 rfl) (by decide) ?_
    refine x_callS C (vs := [k_ra Z v, Value.int p2, Value.int 1]) (rest := [Value.int v5]) (c_X0_surenessOfDay C.2.2.2.2.2.2.2.2.2 G.2.1 he hrec v p2 1 M4 hv) cy_X0_surenessOfDay lk_RX0_56 stt_X0_surenessOfDay (by show _ + 1 ≤ e + 2; omega) (by decide) (Nat.le_of_ble_eq_true rfl) (Nat.le_of_ble_eq_true rfl) rfl rfl (Nat.le_of_ble_eq_true rfl) (k_dg dt_X0_surenessOfStanding_0 19 28 (.invokestatic 56) 3 rfl) (fun r6 M7 => ?_)
    show Sm Z G _ _ _ _ [(3, Value.int v5), (2, Value.int r1), (0, k_ra Z v), (1, Value.int p2)] [Value.int r6, Value.int v5] _ _
    refine x_imul C (k_dg dt_X0_surenessOfStanding_0 20 31 (.imul) 1 rfl) ?_
    refine x_iconst C (v := 4) (k_dg dt_X0_surenessOfStanding_0 21 32 (.iconst 4) 1 rfl) (by decide) ?_
    refine x_iload_n C (k_dg dt_X0_surenessOfStanding_0 22 33 (.iload_n 3) 1 rfl) 0 rfl ?_
    refine x_isub C (k_dg dt_X0_surenessOfStanding_0 23 34 (.isub) 1 rfl) ?_
    refine x_iload_n C (k_dg dt_X0_surenessOfStanding_0 24 35 (.iload_n 2) 1 rfl) 1 rfl ?_
    refine x_imul C (k_dg dt_X0_surenessOfStanding_0 25 36 (.imul) 1 rfl) ?_
    refine x_iadd C (k_dg dt_X0_surenessOfStanding_0 26 37 (.iadd) 1 rfl) ?_
    refine x_iconst C (v := 4) (k_dg dt_X0_surenessOfStanding_0 27 38 (.iconst 4) 1 rfl) (by decide) ?_
    refine x_idivC C (k_dg dt_X0_surenessOfStanding_0 28 39 (.idiv) 1 rfl) (by decide) ?_
    exact x_iret C (Nat.le_of_ble_eq_true rfl) (Nat.le_of_ble_eq_true rfl) (k_dg dt_X0_surenessOfStanding_0 29 40 (.ireturn) 1 rfl)
theorem c_X0_surenessOfStanding {Z : k_Z} (hg : k_Gd Z) (l : Launch) {g : Nat → Int32 → k_M → Option (Int32 × k_M)} {e : Nat} (he : 3 ≤ e) (hrec : ∀ (v : Nat) (p2 : Int32) (M : k_M), isW v → Con true Z l yX0_sureness cX0_sureness 7 (some .int) e 0 0 emI [k_ra Z v, Value.int p2] M (g v p2 M)) (v : Nat) (p2 : Int32) (M : k_M) (hv : isW v) : Con true Z l yX0_surenessOfStanding cX0_surenessOfStanding 4 (some .int) (e + 2) 0 0 emI [k_ra Z v, Value.int p2] M (f_X0_surenessOfStanding g v p2 M) := k_con hg (by decide) (Nat.le_of_ble_eq_true rfl) (fun G hl C => by subst hl; exact m_X0_surenessOfStanding_0 C hv he hrec p2 M)
theorem dt_X0_sureness_0 : k_dec cX0_sureness [(0, .iload_n 1, 1), (1, .ifCond .gt 7, 3), (4, .sipush 256, 3), (7, .ireturn, 1), (8, .aload_n 0, 1), (9, .iload_n 1, 1), (10, .invokestatic 44, 3), (13, .istore_n 2, 1), (14, .aload_n 0, 1), (15, .invokevirtual 15, 3), (18, .istore_n 3, 1), (19, .iconst 1, 1), (20, .istore 4, 2), (22, .iload 4, 2), (24, .iload_n 3, 1), (25, .if_icmp .ge 63, 3), (28, .iload_n 2, 1), (29, .sipush 256, 3), (32, .if_icmp .ge 56, 3), (35, .aload_n 0, 1), (36, .iload 4, 2), (38, .invokevirtual 18, 3), (41, .istore 5, 2), (43, .aload_n 0, 1), (44, .iload 5, 2), (46, .invokevirtual 29, 3), (49, .istore 6, 2), (51, .iload 6, 2), (53, .iconst (-1), 1), (54, .if_icmp .eq 28, 3), (57, .iload_n 2, 1), (58, .aload_n 0, 1), (59, .iload_n 1, 1), (60, .aload_n 0, 1), (61, .iload 5, 2), (63, .invokevirtual 26, 3), (66, .isub, 1), (67, .invokestatic 47, 3), (70, .invokestatic 50, 3), (73, .istore_n 2, 1)] = true := by decide +kernel
theorem dt_X0_sureness_1 : k_dec cX0_sureness [(74, .aload_n 0, 1), (75, .iload 5, 2), (77, .iload 6, 2), (79, .invokevirtual 36, 3), (82, .iinc 4 1, 3), (85, .goto (-63), 3), (88, .iload_n 2, 1), (89, .ireturn, 1)] = true := by decide +kernel
def f_X0_surenessS_82 (g : Nat → Int32 → k_M → Option (Int32 × k_M)) (v : Nat) (l1 : Int32) (l2 : Int32) (l3 : Int32) (l4 : Int32) (M : k_M) (kb : Int32 → Int32 → Int32 → Int32 → k_M → Option (Int32 × k_M)) (kx88 : Int32 → k_M → Option (Int32 × k_M)) : Option (Int32 × k_M) := kb l1 l2 l3 (l4 + 1) M
theorem m_X0_sureness_82 {Z : k_Z} {G : k_G} {v : Nat} {g : Nat → Int32 → k_M → Option (Int32 × k_M)} {e : Nat} (C : k_C Z G RX0 cX0_sureness (true, 7, (e + 3), 0, 0) (some .int) "sureness") (hv : isW v) (he : 3 ≤ e) (hrec : ∀ (v : Nat) (p2 : Int32) (M : k_M), isW v → Con true Z G.2.1 yX0_sureness cX0_sureness 7 (some .int) e 0 0 emI [k_ra Z v, Value.int p2] M (g v p2 M)) (kb : Int32 → Int32 → Int32 → Int32 → k_M → Option (Int32 × k_M)) (kx88 : Int32 → k_M → Option (Int32 × k_M)) (Hb : ∀ (l1 : Int32) (l2 : Int32) (l3 : Int32) (l4 : Int32) (M : k_M), Sm Z G emI (true, 7, (e + 3), 0, 0) (0, 0) 22 [(0, k_ra Z v), (1, Value.int l1), (2, Value.int l2), (3, Value.int l3), (4, Value.int l4)] [] M (kb l1 l2 l3 l4 M)) (Hx88 : ∀ (l2 : Int32) (M : k_M), Sm Z G emI (true, 7, (e + 3), 0, 0) (0, 0) 88 [(2, Value.int l2)] [] M (kx88 l2 M)) (l1 : Int32) (l2 : Int32) (l3 : Int32) (l4 : Int32) (M : k_M) : Sm Z G emI (true, 7, (e + 3), 0, 0) (0, 0) 82 [(0, k_ra Z v), (1, Value.int l1), (2, Value.int l2), (3, Value.int l3), (4, Value.int l4)] [] M (f_X0_surenessS_82 g v l1 l2 l3 l4 M kb kx88) := by
  show Sm Z G emI _ _ _ _ _ _ (kb l1 l2 l3 (l4 + 1) M)
  refine x_iinc C (v := 1) (lv' := [(4, Value.int (l4 + 1)), (0, k_ra Z v), (1, Value.int l1), (2, Value.int l2), (3, Value.int l3)]) (k_dg dt_X0_sureness_1 4 82 (.iinc 4 1) 3 rfl) 4 rfl (by decide) (Nat.le_of_ble_eq_true rfl) rfl ?_
  refine x_goto C (tgt := 22) (k_dg dt_X0_sureness_1 5 85 (.goto (-63)) 3 rfl) (by decide) ?_
  refine x_lv [1, 2, 3, 4, 0] rfl ?_
  exact Hb l1 l2 l3 (l4 + 1) M
def f_X0_surenessS_22 (g : Nat → Int32 → k_M → Option (Int32 × k_M)) (v : Nat) : Nat → Int32 → Int32 → Int32 → Int32 → k_M → (Int32 → k_M → Option (Int32 × k_M)) → Option (Int32 × k_M)
  | 0, _, _, _, _, _, _ => none
  | n + 1, l1, l2, l3, l4, M, kx88 => if l3 ≤ l4 then kx88 l2 M else if 256 ≤ l2 then kx88 l2 M else bd (f_X10_choice v l4 M) (fun r1 M2 => bd (f_X10_attempt v r1 M2) (fun r3 M4 => if r3 = (-1) then f_X0_surenessS_82 g v l1 l2 l3 l4 M4 ((fun l1_ l2_ l3_ l4_ M_ => f_X0_surenessS_22 g v n l1_ l2_ l3_ l4_ M_ kx88)) kx88 else bd (f_X10_daysOf v r1 M4) (fun r5 M6 => bd (g v (l1 - r5) M6) (fun r7 M8 => bN (mxI l2 r7) (fun v9 => bd (f_X10_takeBack v r1 r3 M8) (fun r10 M11 => f_X0_surenessS_82 g v l1 v9 l3 l4 M11 ((fun l1_ l2_ l3_ l4_ M_ => f_X0_surenessS_22 g v n l1_ l2_ l3_ l4_ M_ kx88)) kx88))))))
theorem m_X0_sureness_22 {Z : k_Z} {G : k_G} {v : Nat} {g : Nat → Int32 → k_M → Option (Int32 × k_M)} {e : Nat} (C : k_C Z G RX0 cX0_sureness (true, 7, (e + 3), 0, 0) (some .int) "sureness") (hv : isW v) (he : 3 ≤ e) (hrec : ∀ (v : Nat) (p2 : Int32) (M : k_M), isW v → Con true Z G.2.1 yX0_sureness cX0_sureness 7 (some .int) e 0 0 emI [k_ra Z v, Value.int p2] M (g v p2 M)) (kx88 : Int32 → k_M → Option (Int32 × k_M)) (Hx88 : ∀ (l2 : Int32) (M : k_M), Sm Z G emI (true, 7, (e + 3), 0, 0) (0, 0) 88 [(2, Value.int l2)] [] M (kx88 l2 M)) : ∀ (n : Nat) (l1 : Int32) (l2 : Int32) (l3 : Int32) (l4 : Int32) (M : k_M), Sm Z G emI (true, 7, (e + 3), 0, 0) (0, 0) 22 [(0, k_ra Z v), (1, Value.int l1), (2, Value.int l2), (3, Value.int l3), (4, Value.int l4)] [] M (f_X0_surenessS_22 g v n l1 l2 l3 l4 M kx88)
  | 0, _, _, _, _, _ => x_none
  | n + 1, l1, l2, l3, l4, M => by
    have ih := m_X0_sureness_22 C hv he hrec kx88 Hx88 n
    show Sm Z G emI _ _ _ _ _ _ (if l3 ≤ l4 then kx88 l2 M else if 256 ≤ l2 then kx88 l2 M else bd (f_X10_choice v l4 M) (fun r1 M2 => bd (f_X10_attempt v r1 M2) (fun r3 M4 => if r3 = (-1) then f_X0_surenessS_82 g v l1 l2 l3 l4 M4 ((fun l1_ l2_ l3_ l4_ M_ => f_X0_surenessS_22 g v n l1_ l2_ l3_ l4_ M_ kx88)) kx88 else bd (f_X10_daysOf v r1 M4) (fun r5 M6 => bd (g v (l1 - r5) M6) (fun r7 M8 => bN (mxI l2 r7) (fun v9 => bd (f_X10_takeBack v r1 r3 M8) (fun r10 M11 => f_X0_surenessS_82 g v l1 v9 l3 l4 M11 ((fun l1_ l2_ l3_ l4_ M_ => f_X0_surenessS_22 g v n l1_ l2_ l3_ l4_ M_ kx88)) kx88)))))))
    refine x_iload C (k_dg dt_X0_sureness_0 13 22 (.iload 4) 2 rfl) 4 rfl ?_
    refine x_iload_n C (k_dg dt_X0_sureness_0 14 24 (.iload_n 3) 1 rfl) 3 rfl ?_
    refine x_icmp_ge C (tgt := 88) (k_dg dt_X0_sureness_0 15 25 (.if_icmp .ge 63) 3 rfl) (by decide) (fun _ => ?_) (fun _ => ?_)
    · refine x_lv [2] rfl ?_
      exact Hx88 l2 M
    · refine x_iload_n C (k_dg dt_X0_sureness_0 16 28 (.iload_n 2) 1 rfl) 2 rfl ?_
      refine x_sipush C (v := 256) (k_dg dt_X0_sureness_0 17 29 (.sipush 256) 3 rfl) (by decide) ?_
      refine x_icmp_ge C (tgt := 88) (k_dg dt_X0_sureness_0 18 32 (.if_icmp .ge 56) 3 rfl) (by decide) (fun _ => ?_) (fun _ => ?_)
      · refine x_lv [2] rfl ?_
        exact Hx88 l2 M
      · refine x_aload_n C (k_dg dt_X0_sureness_0 19 35 (.aload_n 0) 1 rfl) 0 rfl ?_
        refine x_iload C (k_dg dt_X0_sureness_0 20 36 (.iload 4) 2 rfl) 4 rfl ?_
        refine x_callV C (a := v) (kd := 8) (vs := [Value.int l4]) (rest := []) rfl (kW 0 hv rfl) (by decide) (fun r hr => by cases hr; rfl) (c_X10_choice C.2.2.2.2.2.2.2.2.2 G.2.1 v l4 M hv) cy_X10_choice lk_RX0_18 im_X10_choice se_X10_choice (by show _ + 1 ≤ e + 3; omega) (by decide) (Nat.le_of_ble_eq_true rfl) (Nat.le_of_ble_eq_true rfl) rfl rfl (Nat.le_of_ble_eq_true rfl) (k_dg dt_X0_sureness_0 21 38 (.invokevirtual 18) 3 rfl) (fun r1 M2 => ?_)
        show Sm Z G _ _ _ _ [(0, k_ra Z v), (1, Value.int l1), (2, Value.int l2), (3, Value.int l3), (4, Value.int l4)] [Value.int r1] _ _
        refine x_istore C (lv' := [(5, Value.int r1), (0, k_ra Z v), (1, Value.int l1), (2, Value.int l2), (3, Value.int l3), (4, Value.int l4)]) (k_dg dt_X0_sureness_0 22 41 (.istore 5) 2 rfl) (Nat.le_of_ble_eq_true rfl) rfl ?_
        refine x_aload_n C (k_dg dt_X0_sureness_0 23 43 (.aload_n 0) 1 rfl) 1 rfl ?_
        refine x_iload C (k_dg dt_X0_sureness_0 24 44 (.iload 5) 2 rfl) 0 rfl ?_
        refine x_callV C (a := v) (kd := 8) (vs := [Value.int r1]) (rest := []) rfl (kW 0 hv rfl) (by decide) (fun r hr => by cases hr; rfl) (c_X10_attempt C.2.2.2.2.2.2.2.2.2 G.2.1 v r1 M2 hv) cy_X10_attempt lk_RX0_29 im_X10_attempt se_X10_attempt (by show _ + 1 ≤ e + 3; omega) (by decide) (Nat.le_of_ble_eq_true rfl) (Nat.le_of_ble_eq_true rfl) rfl rfl (Nat.le_of_ble_eq_true rfl) (k_dg dt_X0_sureness_0 25 46 (.invokevirtual 29) 3 rfl) (fun r3 M4 => ?_)
        show Sm Z G _ _ _ _ [(5, Value.int r1), (0, k_ra Z v), (1, Value.int l1), (2, Value.int l2), (3, Value.int l3), (4, Value.int l4)] [Value.int r3] _ _
        refine x_istore C (lv' := [(6, Value.int r3), (5, Value.int r1), (0, k_ra Z v), (1, Value.int l1), (2, Value.int l2), (3, Value.int l3), (4, Value.int l4)]) (k_dg dt_X0_sureness_0 26 49 (.istore 6) 2 rfl) (Nat.le_of_ble_eq_true rfl) rfl ?_
        refine x_iload C (k_dg dt_X0_sureness_0 27 51 (.iload 6) 2 rfl) 0 rfl ?_
        refine x_iconst C (v := -1) (k_dg dt_X0_sureness_0 28 53 (.iconst (-1)) 1 rfl) (by decide) ?_
        refine x_icmp_eq C (tgt := 82) (k_dg dt_X0_sureness_0 29 54 (.if_icmp .eq 28) 3 rfl) (by decide) (fun _ => ?_) (fun _ => ?_)
        · refine x_lv [2, 3, 4, 5, 6] rfl ?_
          exact m_X0_sureness_82 C hv he hrec ((fun l1_ l2_ l3_ l4_ M_ => f_X0_surenessS_22 g v n l1_ l2_ l3_ l4_ M_ kx88)) kx88 ih Hx88 l1 l2 l3 l4 M4
        · refine x_iload_n C (k_dg dt_X0_sureness_0 30 57 (.iload_n 2) 1 rfl) 4 rfl ?_
          refine x_aload_n C (k_dg dt_X0_sureness_0 31 58 (.aload_n 0) 1 rfl) 2 rfl ?_
          refine x_iload_n C (k_dg dt_X0_sureness_0 32 59 (.iload_n 1) 1 rfl) 3 rfl ?_
          refine x_aload_n C (k_dg dt_X0_sureness_0 33 60 (.aload_n 0) 1 rfl) 2 rfl ?_
          refine x_iload C (k_dg dt_X0_sureness_0 34 61 (.iload 5) 2 rfl) 1 rfl ?_
          refine x_callV C (a := v) (kd := 8) (vs := [Value.int r1]) (rest := [Value.int l1, k_ra Z v, Value.int l2]) rfl (kW 0 hv rfl) (by decide) (fun r hr => by cases hr; rfl) (c_X10_daysOf C.2.2.2.2.2.2.2.2.2 G.2.1 v r1 M4 hv) cy_X10_daysOf lk_RX0_26 im_X10_daysOf se_X10_daysOf (by show _ + 1 ≤ e + 3; omega) (by decide) (Nat.le_of_ble_eq_true rfl) (Nat.le_of_ble_eq_true rfl) rfl rfl (Nat.le_of_ble_eq_true rfl) (k_dg dt_X0_sureness_0 35 63 (.invokevirtual 26) 3 rfl) (fun r5 M6 => ?_)
          show Sm Z G _ _ _ _ [(6, Value.int r3), (5, Value.int r1), (0, k_ra Z v), (1, Value.int l1), (2, Value.int l2), (3, Value.int l3), (4, Value.int l4)] [Value.int r5, Value.int l1, k_ra Z v, Value.int l2] _ _
          refine x_isub C (k_dg dt_X0_sureness_0 36 66 (.isub) 1 rfl) ?_
          refine x_callS C (vs := [k_ra Z v, Value.int (l1 - r5)]) (rest := [Value.int l2]) (hrec v (l1 - r5) M6 hv) cy_X0_sureness lk_RX0_47 stt_X0_sureness (by show _ + 1 ≤ e + 3; omega) (by decide) (Nat.le_of_ble_eq_true rfl) (Nat.le_of_ble_eq_true rfl) rfl rfl (Nat.le_of_ble_eq_true rfl) (k_dg dt_X0_sureness_0 37 67 (.invokestatic 47) 3 rfl) (fun r7 M8 => ?_)
          show Sm Z G _ _ _ _ [(6, Value.int r3), (5, Value.int r1), (0, k_ra Z v), (1, Value.int l1), (2, Value.int l2), (3, Value.int l3), (4, Value.int l4)] [Value.int r7, Value.int l2] _ _
          refine x_max C ml_RX0_50 (Nat.le_of_ble_eq_true rfl) (Nat.le_of_ble_eq_true rfl) (Nat.le_of_ble_eq_true rfl) (Nat.le_of_ble_eq_true rfl) (k_dg dt_X0_sureness_0 38 70 (.invokestatic 50) 3 rfl) ?_
          refine x_nm (w := Value.int) (fun v9 _ => ?_)
          refine x_istore_n C (lv' := [(2, Value.int v9), (6, Value.int r3), (5, Value.int r1), (0, k_ra Z v), (1, Value.int l1), (3, Value.int l3), (4, Value.int l4)]) (k_dg dt_X0_sureness_0 39 73 (.istore_n 2) 1 rfl) (Nat.le_of_ble_eq_true rfl) rfl ?_
          refine x_aload_n C (k_dg dt_X0_sureness_1 0 74 (.aload_n 0) 1 rfl) 3 rfl ?_
          refine x_iload C (k_dg dt_X0_sureness_1 1 75 (.iload 5) 2 rfl) 2 rfl ?_
          refine x_iload C (k_dg dt_X0_sureness_1 2 77 (.iload 6) 2 rfl) 1 rfl ?_
          refine x_callV C (a := v) (kd := 8) (vs := [Value.int r1, Value.int r3]) (rest := []) rfl (kW 0 hv rfl) (by decide) (fun r hr => by cases hr; rfl) (c_X10_takeBack C.2.2.2.2.2.2.2.2.2 G.2.1 v r1 r3 M8 hv) cy_X10_takeBack lk_RX0_36 im_X10_takeBack se_X10_takeBack (by show _ + 1 ≤ e + 3; omega) (by decide) (Nat.le_of_ble_eq_true rfl) (Nat.le_of_ble_eq_true rfl) rfl rfl (Nat.le_of_ble_eq_true rfl) (k_dg dt_X0_sureness_1 3 79 (.invokevirtual 36) 3 rfl) (fun r10 M11 => ?_)
          show Sm Z G _ _ _ _ [(2, Value.int v9), (6, Value.int r3), (5, Value.int r1), (0, k_ra Z v), (1, Value.int l1), (3, Value.int l3), (4, Value.int l4)] [] _ _
          refine x_lv [3, 4, 0, 5, 6] rfl ?_
          exact m_X0_sureness_82 C hv he hrec ((fun l1_ l2_ l3_ l4_ M_ => f_X0_surenessS_22 g v n l1_ l2_ l3_ l4_ M_ kx88)) kx88 ih Hx88 l1 v9 l3 l4 M11
def f_X0_surenessS_88 (g : Nat → Int32 → k_M → Option (Int32 × k_M)) (v : Nat) (l2 : Int32) (M : k_M) : Option (Int32 × k_M) := some (l2, M)
theorem m_X0_sureness_88 {Z : k_Z} {G : k_G} {v : Nat} {g : Nat → Int32 → k_M → Option (Int32 × k_M)} {e : Nat} (C : k_C Z G RX0 cX0_sureness (true, 7, (e + 3), 0, 0) (some .int) "sureness") (hv : isW v) (he : 3 ≤ e) (hrec : ∀ (v : Nat) (p2 : Int32) (M : k_M), isW v → Con true Z G.2.1 yX0_sureness cX0_sureness 7 (some .int) e 0 0 emI [k_ra Z v, Value.int p2] M (g v p2 M)) (l2 : Int32) (M : k_M) : Sm Z G emI (true, 7, (e + 3), 0, 0) (0, 0) 88 [(2, Value.int l2)] [] M (f_X0_surenessS_88 g v l2 M) := by
  show Sm Z G emI _ _ _ _ _ _ (some (l2, M))
  refine x_iload_n C (k_dg dt_X0_sureness_1 6 88 (.iload_n 2) 1 rfl) 0 rfl ?_
  exact x_iret C (Nat.le_of_ble_eq_true rfl) (Nat.le_of_ble_eq_true rfl) (k_dg dt_X0_sureness_1 7 89 (.ireturn) 1 rfl)
def f_X0_surenessS (g : Nat → Int32 → k_M → Option (Int32 × k_M)) (v : Nat) (p2 : Int32) (M : k_M) : Option (Int32 × k_M) := if 0 < p2 then bd (f_X0_surenessOfStanding g v p2 M) (fun r1 M2 => bd (f_X10_choices v M2) (fun r3 M4 => f_X0_surenessS_22 g v k_fu p2 r1 r3 1 M4 (fun l2_ M_ => f_X0_surenessS_88 g v l2_ M_))) else some (256, M)
theorem m_X0_sureness_0 {Z : k_Z} {G : k_G} {v : Nat} {g : Nat → Int32 → k_M → Option (Int32 × k_M)} {e : Nat} (C : k_C Z G RX0 cX0_sureness (true, 7, (e + 3), 0, 0) (some .int) "sureness") (hv : isW v) (he : 3 ≤ e) (hrec : ∀ (v : Nat) (p2 : Int32) (M : k_M), isW v → Con true Z G.2.1 yX0_sureness cX0_sureness 7 (some .int) e 0 0 emI [k_ra Z v, Value.int p2] M (g v p2 M)) (p2 : Int32) (M : k_M) : Sm Z G emI (true, 7, (e + 3), 0, 0) (0, 0) 0 [(0, k_ra Z v), (1, Value.int p2)] [] M (f_X0_surenessS g v p2 M) := by
  show Sm Z G emI _ _ _ _ _ _ (if 0 < p2 then bd (f_X0_surenessOfStanding g v p2 M) (fun r1 M2 => bd (f_X10_choices v M2) (fun r3 M4 => f_X0_surenessS_22 g v k_fu p2 r1 r3 1 M4 (fun l2_ M_ => f_X0_surenessS_88 g v l2_ M_))) else some (256, M))
  refine x_iload_n C (k_dg dt_X0_sureness_0 0 0 (.iload_n 1) 1 rfl) 1 rfl ?_
  refine x_if_gt C (tgt := 8) (k_dg dt_X0_sureness_0 1 1 (.ifCond .gt 7) 3 rfl) (by decide) (fun _ => ?_) (fun _ => ?_)
  · refine x_aload_n C (k_dg dt_X0_sureness_0 4 8 (.aload_n 0) 1 rfl) 0 rfl ?_
    refine x_iload_n C (k_dg dt_X0_sureness_0 5 9 (.iload_n 1) 1 rfl) 1 rfl ?_
    refine x_callS C (vs := [k_ra Z v, Value.int p2]) (rest := []) (c_X0_surenessOfStanding C.2.2.2.2.2.2.2.2.2 G.2.1 he hrec v p2 M hv) cy_X0_surenessOfStanding lk_RX0_44 stt_X0_surenessOfStanding (by show _ + 1 ≤ e + 3; omega) (by decide) (Nat.le_of_ble_eq_true rfl) (Nat.le_of_ble_eq_true rfl) rfl rfl (Nat.le_of_ble_eq_true rfl) (k_dg dt_X0_sureness_0 6 10 (.invokestatic 44) 3 rfl) (fun r1 M2 => ?_)
    show Sm Z G _ _ _ _ [(0, k_ra Z v), (1, Value.int p2)] [Value.int r1] _ _
    refine x_istore_n C (lv' := [(2, Value.int r1), (0, k_ra Z v), (1, Value.int p2)]) (k_dg dt_X0_sureness_0 7 13 (.istore_n 2) 1 rfl) (Nat.le_of_ble_eq_true rfl) rfl ?_
    refine x_aload_n C (k_dg dt_X0_sureness_0 8 14 (.aload_n 0) 1 rfl) 1 rfl ?_
    refine x_callV C (a := v) (kd := 8) (vs := []) (rest := []) rfl (kW 0 hv rfl) (by decide) (fun r hr => by cases hr; rfl) (c_X10_choices C.2.2.2.2.2.2.2.2.2 G.2.1 v M2 hv) cy_X10_choices lk_RX0_15 im_X10_choices se_X10_choices (by show _ + 1 ≤ e + 3; omega) (by decide) (Nat.le_of_ble_eq_true rfl) (Nat.le_of_ble_eq_true rfl) rfl rfl (Nat.le_of_ble_eq_true rfl) (k_dg dt_X0_sureness_0 9 15 (.invokevirtual 15) 3 rfl) (fun r3 M4 => ?_)
    show Sm Z G _ _ _ _ [(2, Value.int r1), (0, k_ra Z v), (1, Value.int p2)] [Value.int r3] _ _
    refine x_istore_n C (lv' := [(3, Value.int r3), (2, Value.int r1), (0, k_ra Z v), (1, Value.int p2)]) (k_dg dt_X0_sureness_0 10 18 (.istore_n 3) 1 rfl) (Nat.le_of_ble_eq_true rfl) rfl ?_
    refine x_iconst C (v := 1) (k_dg dt_X0_sureness_0 11 19 (.iconst 1) 1 rfl) (by decide) ?_
    refine x_istore C (lv' := [(4, Value.int 1), (3, Value.int r3), (2, Value.int r1), (0, k_ra Z v), (1, Value.int p2)]) (k_dg dt_X0_sureness_0 12 20 (.istore 4) 2 rfl) (Nat.le_of_ble_eq_true rfl) rfl ?_
    refine x_lv [3, 4, 2, 1, 0] rfl ?_
    exact m_X0_sureness_22 C hv he hrec (fun l2_ M_ => f_X0_surenessS_88 g v l2_ M_) (fun l2_ M_ => m_X0_sureness_88 C hv he hrec l2_ M_) k_fu p2 r1 r3 1 M4
  · refine x_sipush C (v := 256) (k_dg dt_X0_sureness_0 2 4 (.sipush 256) 3 rfl) (by decide) ?_
    exact x_iret C (Nat.le_of_ble_eq_true rfl) (Nat.le_of_ble_eq_true rfl) (k_dg dt_X0_sureness_0 3 7 (.ireturn) 1 rfl)
theorem c_X0_surenessS {Z : k_Z} (hg : k_Gd Z) (l : Launch) {g : Nat → Int32 → k_M → Option (Int32 × k_M)} {e : Nat} (he : 3 ≤ e) (hrec : ∀ (v : Nat) (p2 : Int32) (M : k_M), isW v → Con true Z l yX0_sureness cX0_sureness 7 (some .int) e 0 0 emI [k_ra Z v, Value.int p2] M (g v p2 M)) (v : Nat) (p2 : Int32) (M : k_M) (hv : isW v) : Con true Z l yX0_sureness cX0_sureness 7 (some .int) (e + 3) 0 0 emI [k_ra Z v, Value.int p2] M (f_X0_surenessS g v p2 M) := k_con hg (by decide) (Nat.le_of_ble_eq_true rfl) (fun G hl C => by subst hl; exact m_X0_sureness_0 C hv he hrec p2 M)
def f_X0_sureness : Nat → Nat → Int32 → k_M → Option (Int32 × k_M)
  | 0, _, _, _ => none
  | n + 1, v, p2, M => f_X0_surenessS (f_X0_sureness n) v p2 M
theorem c_X0_sureness {Z : k_Z} (hg : k_Gd Z) (l : Launch) : ∀ (n : Nat) (v : Nat) (p2 : Int32) (M : k_M) (hv : isW v), Con true Z l yX0_sureness cX0_sureness 7 (some .int) (3 + 3 * n) 0 0 emI [k_ra Z v, Value.int p2] M (f_X0_sureness n v p2 M)
  | 0, _, _, _, _ => fun r M' h => by cases h
  | n + 1, v, p2, M, hv => c_X0_surenessS hg l (e := 3 + 3 * n) (Nat.le_add_right _ _) (fun v p2 M hv => c_X0_sureness hg l n v p2 M hv) v p2 M hv
