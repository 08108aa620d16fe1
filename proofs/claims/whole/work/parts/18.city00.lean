section XQ
variable {Z : k_Z} {G : k_G} {ρ : Type} {em : ρ → Option Value} {F : k_F} {K : Nat × Nat} {pc : Nat} {lv lv' : List (Nat × Value)} {st rest : List Value} {M : k_M} {o o2 : Option (ρ × k_M)} {own : String} {cc : ByteArray} {ret : Option FieldType} {nm : String}
theorem x_aload_Q (C : k_C Z G own cc F ret nm) {k : Nat} {x : Option Nat} (hdg : decode cc pc = .ok (.aload k, 2)) (i : Nat) (hi : lv[i]? = some (k, k_rn Z x)) (kk : Sm Z G em F K (pc + 2) lv (k_rn Z x :: st) M o) : Sm Z G em F K pc lv st M o := by
  intro r M' ho H locs ls hl hP hL
  cases x with
  | none => exact lv_aloadN C.1 C.2.1 hdg (lv_at hl i hi) (kk r M' ho H locs ls hl hP hL)
  | some x => exact lv_aload C.1 C.2.1 hdg (lv_at hl i hi) (kk r M' ho H locs ls hl hP hL)
theorem x_astore_Q (C : k_C Z G own cc F ret nm) {k : Nat} {x : Option Nat} (hdg : decode cc pc = .ok (.astore k, 2)) (hn : k < F.2.1) (hl' : (k, k_rn Z x) :: lv.filter (fun q => !(q.1 == k) && !(q.1 + 1 == k && q.2.category == 2)) = lv') (kk : Sm Z G em F K (pc + 2) lv' rest M o) : Sm Z G em F K pc lv (k_rn Z x :: rest) M o := by
  intro r M' ho H locs ls hl hP hL
  cases x with
  | none => exact lv_astoreN C.1 C.2.1 hdg hl hn hl' (fun ls' h' => kk r M' ho H locs ls' h' hP hL)
  | some x => exact lv_astore C.1 C.2.1 hdg hl hn hl' (fun ls' h' => kk r M' ho H locs ls' h' hP hL)
end XQ
theorem iu_9 : ∀ w ∈ u_ws RX11 TX11 14, w ∈ lw_tbl ∧ goodWord w = true := k_inU _ [341, 343, 345, 347, 349, 351, 353, 355, 357, 359, 361, 363, 365, 367] (by decide +kernel) (by decide +kernel)
theorem tb_9 : k_tbs 9 := fun r hr => by cases hr; exact ⟨⟨tyX11, tyX11_ok⟩, nmX11⟩
theorem fl_RX11_10 : k_FL RX11 10 9 0 := ⟨(RX11, TX11, 14), "WheelCity", rfl, by decide, iu_9, Or.inl (List.mem_of_getElem? (i := 327) (by decide +kernel)), Or.inl rfl⟩
theorem fl_RX11_110 : k_FL RX11 110 2 7 := ⟨(RX3, TX3, 16), "WheelCity$Land", rfl, by decide, iu_2, Or.inr (List.mem_of_getElem? (i := 194) (by decide +kernel)), Or.inl rfl⟩
theorem fl_RX11_120 : k_FL RX11 120 2 1 := ⟨(RX3, TX3, 16), "WheelCity$Land", rfl, by decide, iu_2, Or.inr (List.mem_of_getElem? (i := 179) (by decide +kernel)), Or.inl rfl⟩
theorem fl_RX11_123 : k_FL RX11 123 2 2 := ⟨(RX3, TX3, 16), "WheelCity$Land", rfl, by decide, iu_2, Or.inr (List.mem_of_getElem? (i := 182) (by decide +kernel)), Or.inl rfl⟩
theorem fl_RX11_126 : k_FL RX11 126 2 4 := ⟨(RX3, TX3, 16), "WheelCity$Land", rfl, by decide, iu_2, Or.inr (List.mem_of_getElem? (i := 186) (by decide +kernel)), Or.inl rfl⟩
theorem fl_RX11_132 : k_FL RX11 132 2 8 := ⟨(RX3, TX3, 16), "WheelCity$Land", rfl, by decide, iu_2, Or.inr (List.mem_of_getElem? (i := 197) (by decide +kernel)), Or.inl rfl⟩
theorem fl_RX11_135 : k_FL RX11 135 2 9 := ⟨(RX3, TX3, 16), "WheelCity$Land", rfl, by decide, iu_2, Or.inr (List.mem_of_getElem? (i := 200) (by decide +kernel)), Or.inl rfl⟩
theorem fl_RX11_147 : k_FL RX11 147 2 10 := ⟨(RX3, TX3, 16), "WheelCity$Land", rfl, by decide, iu_2, Or.inr (List.mem_of_getElem? (i := 203) (by decide +kernel)), Or.inl rfl⟩
theorem fl_RX11_150 : k_FL RX11 150 2 12 := ⟨(RX3, TX3, 16), "WheelCity$Land", rfl, by decide, iu_2, Or.inr (List.mem_of_getElem? (i := 207) (by decide +kernel)), Or.inl rfl⟩
theorem fl_RX11_153 : k_FL RX11 153 2 13 := ⟨(RX3, TX3, 16), "WheelCity$Land", rfl, by decide, iu_2, Or.inr (List.mem_of_getElem? (i := 210) (by decide +kernel)), Or.inl rfl⟩
theorem fl_RX11_159 : k_FL RX11 159 8 1 := ⟨(RX10, TX10, 10), "WheelCity$World", rfl, by decide, iu_8, Or.inr (List.mem_of_getElem? (i := 262) (by decide +kernel)), Or.inl rfl⟩
theorem fl_RX11_162 : k_FL RX11 162 8 2 := ⟨(RX10, TX10, 10), "WheelCity$World", rfl, by decide, iu_8, Or.inr (List.mem_of_getElem? (i := 264) (by decide +kernel)), Or.inl rfl⟩
theorem fl_RX11_169 : k_FL RX11 169 8 4 := ⟨(RX10, TX10, 10), "WheelCity$World", rfl, by decide, iu_8, Or.inr (List.mem_of_getElem? (i := 269) (by decide +kernel)), Or.inl rfl⟩
theorem fl_RX11_172 : k_FL RX11 172 8 5 := ⟨(RX10, TX10, 10), "WheelCity$World", rfl, by decide, iu_8, Or.inr (List.mem_of_getElem? (i := 271) (by decide +kernel)), Or.inl rfl⟩
theorem fl_RX11_183 : k_FL RX11 183 8 6 := ⟨(RX10, TX10, 10), "WheelCity$World", rfl, by decide, iu_8, Or.inr (List.mem_of_getElem? (i := 273) (by decide +kernel)), Or.inl rfl⟩
theorem fl_RX11_19 : k_FL RX11 19 9 1 := ⟨(RX11, TX11, 14), "WheelCity", rfl, by decide, iu_9, Or.inl (List.mem_of_getElem? (i := 328) (by decide +kernel)), Or.inl rfl⟩
theorem fl_RX11_26 : k_FL RX11 26 9 3 := ⟨(RX11, TX11, 14), "WheelCity", rfl, by decide, iu_9, Or.inl (List.mem_of_getElem? (i := 330) (by decide +kernel)), Or.inl rfl⟩
theorem fl_RX11_37 : k_FL RX11 37 9 6 := ⟨(RX11, TX11, 14), "WheelCity", rfl, by decide, iu_9, Or.inl (List.mem_of_getElem? (i := 333) (by decide +kernel)), Or.inl rfl⟩
theorem fl_RX11_41 : k_FL RX11 41 9 7 := ⟨(RX11, TX11, 14), "WheelCity", rfl, by decide, iu_9, Or.inl (List.mem_of_getElem? (i := 334) (by decide +kernel)), Or.inl rfl⟩
theorem fl_RX11_44 : k_FL RX11 44 9 8 := ⟨(RX11, TX11, 14), "WheelCity", rfl, by decide, iu_9, Or.inl (List.mem_of_getElem? (i := 335) (by decide +kernel)), Or.inl rfl⟩
theorem fl_RX11_49 : k_FL RX11 49 9 9 := ⟨(RX11, TX11, 14), "WheelCity", rfl, by decide, iu_9, Or.inl (List.mem_of_getElem? (i := 336) (by decide +kernel)), Or.inl rfl⟩
theorem fl_RX11_72 : k_FL RX11 72 5 1 := ⟨(RX7, TX7, 6), "WheelCity$Tape", rfl, by decide, iu_5, Or.inr (List.mem_of_getElem? (i := 143) (by decide +kernel)), Or.inl rfl⟩
theorem fl_RX11_75 : k_FL RX11 75 8 0 := ⟨(RX10, TX10, 10), "WheelCity$World", rfl, by decide, iu_8, Or.inr (List.mem_of_getElem? (i := 259) (by decide +kernel)), Or.inl rfl⟩
theorem fl_RX11_89 : k_FL RX11 89 8 3 := ⟨(RX10, TX10, 10), "WheelCity$World", rfl, by decide, iu_8, Or.inr (List.mem_of_getElem? (i := 266) (by decide +kernel)), Or.inl rfl⟩
theorem fl_RX11_92 : k_FL RX11 92 2 0 := ⟨(RX3, TX3, 16), "WheelCity$Land", rfl, by decide, iu_2, Or.inr (List.mem_of_getElem? (i := 175) (by decide +kernel)), Or.inl rfl⟩
theorem pt_9_6 : k_cls 9 6 .int := fun r hr => by cases hr; exact ⟨rfl, by decide +kernel⟩
theorem cy_X10_copyFrom : k_cy yX10_copyFrom cX10_copyFrom 3 none 1 := ⟨List.mem_of_getElem? (i := 763) (by decide +kernel), List.mem_of_getElem? (i := 109) (by decide +kernel), ⟨by decide +kernel, by decide +kernel⟩, by decide +kernel⟩
theorem cy_X10_isNoWorseThan : k_cy yX10_isNoWorseThan cX10_isNoWorseThan 2 (some .boolean) 1 := ⟨List.mem_of_getElem? (i := 769) (by decide +kernel), List.mem_of_getElem? (i := 109) (by decide +kernel), ⟨by decide +kernel, by decide +kernel⟩, by decide +kernel⟩
theorem cy_X10_settle : k_cy yX10_settle cX10_settle 5 none 4 := ⟨List.mem_of_getElem? (i := 580) (by decide +kernel), List.mem_of_getElem? (i := 109) (by decide +kernel), ⟨by decide +kernel, by decide +kernel⟩, by decide +kernel⟩
theorem cy_X11_within : k_cy yX11_within cX11_within 3 (some .boolean) 3 := ⟨List.mem_of_getElem? (i := 534) (by decide +kernel), List.mem_of_getElem? (i := 107) (by decide +kernel), ⟨by decide +kernel, by decide +kernel⟩, by decide +kernel⟩
theorem cy_X3_daysBetween : k_cy yX3_daysBetween cX3_daysBetween 3 (some .int) 2 := ⟨List.mem_of_getElem? (i := 729) (by decide +kernel), List.mem_of_getElem? (i := 110) (by decide +kernel), ⟨by decide +kernel, by decide +kernel⟩, by decide +kernel⟩
theorem cy_X3_daysToMeet : k_cy yX3_daysToMeet cX3_daysToMeet 5 (some .int) 2 := ⟨List.mem_of_getElem? (i := 744) (by decide +kernel), List.mem_of_getElem? (i := 110) (by decide +kernel), ⟨by decide +kernel, by decide +kernel⟩, by decide +kernel⟩
theorem cy_X3_hasPlace : k_cy yX3_hasPlace cX3_hasPlace 2 (some .boolean) 1 := ⟨List.mem_of_getElem? (i := 544) (by decide +kernel), List.mem_of_getElem? (i := 110) (by decide +kernel), ⟨by decide +kernel, by decide +kernel⟩, by decide +kernel⟩
theorem cy_X7_readInto : k_cy yX7_readInto cX7_readInto 3 (some .int) 1 := ⟨List.mem_of_getElem? (i := 385) (by decide +kernel), List.mem_of_getElem? (i := 108) (by decide +kernel), ⟨by decide +kernel, by decide +kernel⟩, by decide +kernel⟩
theorem cy_X7_takes : k_cy yX7_takes cX7_takes 5 (some .boolean) 2 := ⟨List.mem_of_getElem? (i := 377) (by decide +kernel), List.mem_of_getElem? (i := 108) (by decide +kernel), ⟨by decide +kernel, by decide +kernel⟩, by decide +kernel⟩
theorem lk_RX11_68 : k_lk RX11 68 yX7_takes := Or.inr (List.mem_of_getElem? (i := 374) (by decide +kernel))
theorem lk_RX11_79 : k_lk RX11 79 yX7_readInto := Or.inr (List.mem_of_getElem? (i := 382) (by decide +kernel))
theorem lk_RX11_83 : k_lk RX11 83 yX3_copyFrom := Or.inr (List.mem_of_getElem? (i := 514) (by decide +kernel))
theorem lk_RX11_95 : k_lk RX11 95 yX11_within := Or.inl (List.mem_of_getElem? (i := 532) (by decide +kernel))
theorem lk_RX11_99 : k_lk RX11 99 yX3_isEndless := Or.inr (List.mem_of_getElem? (i := 535) (by decide +kernel))
theorem lk_RX11_103 : k_lk RX11 103 yX3_addPlace := Or.inr (List.mem_of_getElem? (i := 536) (by decide +kernel))
theorem lk_RX11_107 : k_lk RX11 107 yX3_hasPlace := Or.inr (List.mem_of_getElem? (i := 541) (by decide +kernel))
theorem lk_RX11_113 : k_lk RX11 113 yX3_canJoin := Or.inr (List.mem_of_getElem? (i := 545) (by decide +kernel))
theorem lk_RX11_116 : k_lk RX11 116 yX3_addWay := Or.inr (List.mem_of_getElem? (i := 546) (by decide +kernel))
theorem lk_RX11_129 : k_lk RX11 129 yX3_hasWay := Or.inr (List.mem_of_getElem? (i := 555) (by decide +kernel))
theorem lk_RX11_165 : k_lk RX11 165 yX10_settle := Or.inr (List.mem_of_getElem? (i := 577) (by decide +kernel))
theorem lk_RX11_175 : k_lk RX11 175 yX10_monthOf := Or.inr (List.mem_of_getElem? (i := 589) (by decide +kernel))
theorem lk_RX11_179 : k_lk RX11 179 yX10_worth := Or.inr (List.mem_of_getElem? (i := 592) (by decide +kernel))
theorem lk_RX11_186 : k_lk RX11 186 yX10_can := Or.inr (List.mem_of_getElem? (i := 600) (by decide +kernel))
theorem lk_RX11_189 : k_lk RX11 189 yX10_attempt := Or.inr (List.mem_of_getElem? (i := 654) (by decide +kernel))
theorem lk_RX11_192 : k_lk RX11 192 yX10_choices := Or.inr (List.mem_of_getElem? (i := 659) (by decide +kernel))
theorem lk_RX11_195 : k_lk RX11 195 yX10_choice := Or.inr (List.mem_of_getElem? (i := 663) (by decide +kernel))
theorem lk_RX11_198 : k_lk RX11 198 yX0_mostWorth := Or.inr (List.mem_of_getElem? (i := 671) (by decide +kernel))
theorem lk_RX11_204 : k_lk RX11 204 yX0_firstAct := Or.inr (List.mem_of_getElem? (i := 687) (by decide +kernel))
theorem lk_RX11_207 : k_lk RX11 207 yX0_lasts := Or.inr (List.mem_of_getElem? (i := 694) (by decide +kernel))
theorem lk_RX11_211 : k_lk RX11 211 yX0_sureness := Or.inr (List.mem_of_getElem? (i := 702) (by decide +kernel))
theorem lk_RX11_214 : k_lk RX11 214 yX3_daysBetween := Or.inr (List.mem_of_getElem? (i := 726) (by decide +kernel))
theorem lk_RX11_217 : k_lk RX11 217 yX3_daysToMeet := Or.inr (List.mem_of_getElem? (i := 741) (by decide +kernel))
theorem lk_RX11_220 : k_lk RX11 220 yX10_taking := Or.inr (List.mem_of_getElem? (i := 750) (by decide +kernel))
theorem lk_RX11_223 : k_lk RX11 223 yX3_isOpen := Or.inr (List.mem_of_getElem? (i := 755) (by decide +kernel))
theorem lk_RX11_227 : k_lk RX11 227 yX10_copyFrom := Or.inr (List.mem_of_getElem? (i := 760) (by decide +kernel))
theorem lk_RX11_230 : k_lk RX11 230 yX10_isNoWorseThan := Or.inr (List.mem_of_getElem? (i := 766) (by decide +kernel))
theorem im_X10_copyFrom : Cond.instanceMethod yX10_copyFrom ∈ lw_tbl := List.mem_of_getElem? (i := 762) (by decide +kernel)
theorem im_X10_isNoWorseThan : Cond.instanceMethod yX10_isNoWorseThan ∈ lw_tbl := List.mem_of_getElem? (i := 768) (by decide +kernel)
theorem im_X10_settle : Cond.instanceMethod yX10_settle ∈ lw_tbl := List.mem_of_getElem? (i := 579) (by decide +kernel)
theorem im_X3_daysBetween : Cond.instanceMethod yX3_daysBetween ∈ lw_tbl := List.mem_of_getElem? (i := 728) (by decide +kernel)
theorem im_X3_daysToMeet : Cond.instanceMethod yX3_daysToMeet ∈ lw_tbl := List.mem_of_getElem? (i := 743) (by decide +kernel)
theorem im_X3_hasPlace : Cond.instanceMethod yX3_hasPlace ∈ lw_tbl := List.mem_of_getElem? (i := 543) (by decide +kernel)
theorem im_X7_readInto : Cond.instanceMethod yX7_readInto ∈ lw_tbl := List.mem_of_getElem? (i := 384) (by decide +kernel)
theorem im_X7_takes : Cond.instanceMethod yX7_takes ∈ lw_tbl := List.mem_of_getElem? (i := 376) (by decide +kernel)
theorem se_X10_copyFrom : Cond.selects yX10_copyFrom.cls yX10_copyFrom yX10_copyFrom ∈ lw_tbl := List.mem_of_getElem? (i := 42) (by decide +kernel)
theorem se_X10_isNoWorseThan : Cond.selects yX10_isNoWorseThan.cls yX10_isNoWorseThan yX10_isNoWorseThan ∈ lw_tbl := List.mem_of_getElem? (i := 43) (by decide +kernel)
theorem se_X10_settle : Cond.selects yX10_settle.cls yX10_settle yX10_settle ∈ lw_tbl := List.mem_of_getElem? (i := 21) (by decide +kernel)
theorem se_X3_daysBetween : Cond.selects yX3_daysBetween.cls yX3_daysBetween yX3_daysBetween ∈ lw_tbl := List.mem_of_getElem? (i := 39) (by decide +kernel)
theorem se_X3_daysToMeet : Cond.selects yX3_daysToMeet.cls yX3_daysToMeet yX3_daysToMeet ∈ lw_tbl := List.mem_of_getElem? (i := 41) (by decide +kernel)
theorem se_X3_hasPlace : Cond.selects yX3_hasPlace.cls yX3_hasPlace yX3_hasPlace ∈ lw_tbl := List.mem_of_getElem? (i := 19) (by decide +kernel)
theorem se_X7_readInto : Cond.selects yX7_readInto.cls yX7_readInto yX7_readInto ∈ lw_tbl := List.mem_of_getElem? (i := 1) (by decide +kernel)
theorem se_X7_takes : Cond.selects yX7_takes.cls yX7_takes yX7_takes ∈ lw_tbl := List.mem_of_getElem? (i := 0) (by decide +kernel)
theorem stt_X11_within : Cond.static yX11_within ∈ lw_tbl := List.mem_of_getElem? (i := 533) (by decide +kernel)
theorem ml_RX11_138 : Cond.methodLink RX11 138 Lib.Math.min.name ∈ lw_tbl := List.mem_of_getElem? (i := 559) (by decide +kernel)
theorem ml_RX11_144 : Cond.methodLink RX11 144 Lib.Math.max.name ∈ lw_tbl := List.mem_of_getElem? (i := 560) (by decide +kernel)
theorem gs_RX11_156 : Cond.fieldLink RX11 156 (k_stN 0).1 (k_stN 0).2.1 "[I" ∈ lw_tbl ∨ Cond.fieldLinkNest RX11 156 (k_stN 0).1 (k_stN 0).2.1 "[I" "WheelCity" ∈ lw_tbl := Or.inr (List.mem_of_getElem? (i := 567) (by decide +kernel))
theorem dt_X11_feed_0 : k_dec cX11_feed [(0, .iload_n 3, 1), (1, .iconst 1, 1), (2, .if_icmp .lt 9, 3), (5, .iload_n 3, 1), (6, .bipush 8, 2), (8, .if_icmp .le 5, 3), (11, .iconst (-1), 1), (12, .ireturn, 1), (13, .aload_n 0, 1), (14, .getfield 10, 3), (17, .lload_n 1, 1), (18, .iload_n 3, 1), (19, .invokevirtual 68, 3), (22, .ifCond .eq 13, 3), (25, .aload_n 0, 1), (26, .getfield 10, 3), (29, .getfield 72, 3), (32, .goto 5, 3), (35, .bipush (-2), 2), (37, .ireturn, 1)] = true := by decide +kernel
def f_X11_feed (p1 : Int64) (p2 : Int32) (M : k_M) : Option (Int32 × k_M) := if p2 < 1 then some (-1, M) else if p2 ≤ 8 then bd (f_X7_takes p1 p2 M) (fun r1 M2 => if r1 = 0 then some (-2, M2) else some (M2.1 1 1, M2)) else some (-1, M)
theorem m_X11_feed_0 {Z : k_Z} {G : k_G} (C : k_C Z G RX11 cX11_feed (true, 4, 2, 0, 0) (some .int) "feed") (p1 : Int64) (p2 : Int32) (M : k_M) : Sm Z G emI (true, 4, 2, 0, 0) (0, 0) 0 [(0, k_ra Z 0), (1, Value.long p1), (3, Value.int p2)] [] M (f_X11_feed p1 p2 M) := by
  show Sm Z G emI _ _ _ _ _ _ (if p2 < 1 then some (-1, M) else if p2 ≤ 8 then bd (f_X7_takes p1 p2 M) (fun r1 M2 => if r1 = 0 then some (-2, M2) else some (M2.1 1 1, M2)) else some (-1, M))
  refine x_iload_n C (k_dg dt_X11_feed_0 0 0 (.iload_n 3) 1 rfl) 2 rfl ?_
  refine x_iconst C (v := 1) (k_dg dt_X11_feed_0 1 1 (.iconst 1) 1 rfl) (by decide) ?_
  refine x_icmp_lt C (tgt := 11) (k_dg dt_X11_feed_0 2 2 (.if_icmp .lt 9) 3 rfl) (by decide) (fun _ => ?_) (fun _ => ?_)
  · refine x_iconst C (v := -1) (k_dg dt_X11_feed_0 6 11 (.iconst (-1)) 1 rfl) (by decide) ?_
    exact x_iret C (by decide) (by decide) (k_dg dt_X11_feed_0 7 12 (.ireturn) 1 rfl)
  · refine x_iload_n C (k_dg dt_X11_feed_0 3 5 (.iload_n 3) 1 rfl) 2 rfl ?_
    refine x_bipush C (v := 8) (k_dg dt_X11_feed_0 4 6 (.bipush 8) 2 rfl) (by decide) ?_
    refine x_icmp_le C (tgt := 13) (k_dg dt_X11_feed_0 5 8 (.if_icmp .le 5) 3 rfl) (by decide) (fun _ => ?_) (fun _ => ?_)
    · refine x_aload_n C (k_dg dt_X11_feed_0 8 13 (.aload_n 0) 1 rfl) 0 rfl ?_
      refine x_getR C (a := 0) (j := 0) 1 rfl rfl (by decide) fl_RX11_10 rfl rfl rfl (k_dg dt_X11_feed_0 9 14 (.getfield 10) 3 rfl) ?_
      refine x_lload_n C (k_dg dt_X11_feed_0 10 17 (.lload_n 1) 1 rfl) 1 rfl ?_
      refine x_iload_n C (k_dg dt_X11_feed_0 11 18 (.iload_n 3) 1 rfl) 2 rfl ?_
      refine x_callV C (a := 1) (kd := 5) (vs := [Value.long p1, Value.int p2]) (rest := []) rfl rfl (by decide) (fun r hr => by cases hr; rfl) (c_X7_takes C.2.2.2.2.2.2.2.2.2 G.2.1 p1 p2 M) cy_X7_takes lk_RX11_68 im_X7_takes se_X7_takes (by decide) (by decide) (by decide) (by decide) rfl rfl (Nat.le_of_ble_eq_true rfl) (k_dg dt_X11_feed_0 12 19 (.invokevirtual 68) 3 rfl) (fun r1 M2 => ?_)
      show Sm Z G _ _ _ _ [(0, k_ra Z 0), (1, Value.long p1), (3, Value.int p2)] [Value.int r1] _ _
      refine x_if_eq C (tgt := 35) (k_dg dt_X11_feed_0 13 22 (.ifCond .eq 13) 3 rfl) (by decide) (fun _ => ?_) (fun _ => ?_)
      · refine x_bipush C (v := -2) (k_dg dt_X11_feed_0 18 35 (.bipush (-2)) 2 rfl) (by decide) ?_
        exact x_iret C (by decide) (by decide) (k_dg dt_X11_feed_0 19 37 (.ireturn) 1 rfl)
      · refine x_aload_n C (k_dg dt_X11_feed_0 14 25 (.aload_n 0) 1 rfl) 0 rfl ?_
        refine x_getR C (a := 0) (j := 0) 1 rfl rfl (by decide) fl_RX11_10 rfl rfl rfl (k_dg dt_X11_feed_0 15 26 (.getfield 10) 3 rfl) ?_
        refine x_getI C (a := 1) (j := 1) rfl rfl (by decide) fl_RX11_72 rfl (k_dg dt_X11_feed_0 16 29 (.getfield 72) 3 rfl) ?_
        refine x_goto C (tgt := 37) (k_dg dt_X11_feed_0 17 32 (.goto 5) 3 rfl) (by decide) ?_
        exact x_iret C (by decide) (by decide) (k_dg dt_X11_feed_0 19 37 (.ireturn) 1 rfl)
    · refine x_iconst C (v := -1) (k_dg dt_X11_feed_0 6 11 (.iconst (-1)) 1 rfl) (by decide) ?_
      exact x_iret C (by decide) (by decide) (k_dg dt_X11_feed_0 7 12 (.ireturn) 1 rfl)
theorem c_X11_feed {Z : k_Z} (hg : k_Gd Z) (l : Launch) (p1 : Int64) (p2 : Int32) (M : k_M) : Con true Z l yX11_feed cX11_feed 4 (some .int) 2 0 0 emI [k_ra Z 0, Value.long p1, Value.int p2] M (f_X11_feed p1 p2 M) := k_con hg (by decide) (Nat.le_of_ble_eq_true rfl) (fun G hl C => m_X11_feed_0 C p1 p2 M)
theorem dt_X11_plain_0 : k_dec cX11_plain [(0, .aload_n 0, 1), (1, .getfield 10, 3), (4, .aload_n 0, 1), (5, .getfield 26, 3), (8, .getfield 75, 3), (11, .invokevirtual 79, 3), (14, .istore_n 1, 1), (15, .aload_n 0, 1), (16, .getfield 10, 3), (19, .iconst 0, 1), (20, .putfield 72, 3), (23, .iload_n 1, 1), (24, .ifCond .lt 8, 3), (27, .bipush (-100), 2), (29, .iload_n 1, 1), (30, .isub, 1), (31, .ireturn, 1), (32, .aload_n 0, 1), (33, .getfield 19, 3), (36, .getfield 75, 3), (39, .aload_n 0, 1), (40, .getfield 26, 3), (43, .getfield 75, 3), (46, .invokevirtual 83, 3), (49, .aload_n 0, 1), (50, .getfield 19, 3), (53, .iconst 0, 1), (54, .putfield 89, 3), (57, .aload_n 0, 1), (58, .iconst 0, 1), (59, .putfield 37, 3), (62, .aload_n 0, 1), (63, .getfield 19, 3), (66, .getfield 75, 3), (69, .getfield 92, 3), (72, .ireturn, 1)] = true := by decide +kernel
def f_X11_plain (M : k_M) : Option (Int32 × k_M) := bd (f_X7_readInto 43 M) (fun r1 M2 => bN (sI M2 1 1 0) (fun M3 => if r1 < 0 then bd (f_X3_copyFrom 3 43 M3) (fun r4 M5 => bN (sI M5 3 3 0) (fun M6 => bN (sI M6 0 6 0) (fun M7 => some (M7.1 4 0, M7)))) else some ((-100) - r1, M3)))
theorem m_X11_plain_0 {Z : k_Z} {G : k_G} (C : k_C Z G RX11 cX11_plain (true, 2, 10, 0, 0) (some .int) "plain") (M : k_M) : Sm Z G emI (true, 2, 10, 0, 0) (0, 0) 0 [(0, k_ra Z 0)] [] M (f_X11_plain M) := by
  show Sm Z G emI _ _ _ _ _ _ (bd (f_X7_readInto 43 M) (fun r1 M2 => bN (sI M2 1 1 0) (fun M3 => if r1 < 0 then bd (f_X3_copyFrom 3 43 M3) (fun r4 M5 => bN (sI M5 3 3 0) (fun M6 => bN (sI M6 0 6 0) (fun M7 => some (M7.1 4 0, M7)))) else some ((-100) - r1, M3))))
  refine x_aload_n C (k_dg dt_X11_plain_0 0 0 (.aload_n 0) 1 rfl) 0 rfl ?_
  refine x_getR C (a := 0) (j := 0) 1 rfl rfl (by decide) fl_RX11_10 rfl rfl rfl (k_dg dt_X11_plain_0 1 1 (.getfield 10) 3 rfl) ?_
  refine x_aload_n C (k_dg dt_X11_plain_0 2 4 (.aload_n 0) 1 rfl) 0 rfl ?_
  refine x_getR C (a := 0) (j := 3) 43 rfl rfl (by decide) fl_RX11_26 rfl rfl rfl (k_dg dt_X11_plain_0 3 5 (.getfield 26) 3 rfl) ?_
  refine x_getR C (a := 43) (j := 0) 44 rfl rfl (by decide) fl_RX11_75 rfl rfl rfl (k_dg dt_X11_plain_0 4 8 (.getfield 75) 3 rfl) ?_
  refine x_callV C (a := 1) (kd := 5) (vs := [k_ra Z 44]) (rest := []) rfl rfl (by decide) (fun r hr => by cases hr; rfl) (c_X7_readInto C.2.2.2.2.2.2.2.2.2 G.2.1 43 M isW43) cy_X7_readInto lk_RX11_79 im_X7_readInto se_X7_readInto (by decide) (by decide) (by decide) (by decide) rfl rfl (Nat.le_of_ble_eq_true rfl) (k_dg dt_X11_plain_0 5 11 (.invokevirtual 79) 3 rfl) (fun r1 M2 => ?_)
  show Sm Z G _ _ _ _ [(0, k_ra Z 0)] [Value.int r1] _ _
  refine x_istore_n C (lv' := [(1, Value.int r1), (0, k_ra Z 0)]) (k_dg dt_X11_plain_0 6 14 (.istore_n 1) 1 rfl) (by decide) rfl ?_
  refine x_aload_n C (k_dg dt_X11_plain_0 7 15 (.aload_n 0) 1 rfl) 1 rfl ?_
  refine x_getR C (a := 0) (j := 0) 1 rfl rfl (by decide) fl_RX11_10 rfl rfl rfl (k_dg dt_X11_plain_0 8 16 (.getfield 10) 3 rfl) ?_
  refine x_iconst C (v := 0) (k_dg dt_X11_plain_0 9 19 (.iconst 0) 1 rfl) (by decide) ?_
  refine x_putI C (a := 1) (j := 1) rfl rfl (by decide) fl_RX11_72 rfl pt_5_1 tb_5 rfl rfl (k_dg dt_X11_plain_0 10 20 (.putfield 72) 3 rfl) (fun M3 => ?_)
  refine x_iload_n C (k_dg dt_X11_plain_0 11 23 (.iload_n 1) 1 rfl) 0 rfl ?_
  refine x_if_lt C (tgt := 32) (k_dg dt_X11_plain_0 12 24 (.ifCond .lt 8) 3 rfl) (by decide) (fun _ => ?_) (fun _ => ?_)
  · refine x_aload_n C (k_dg dt_X11_plain_0 17 32 (.aload_n 0) 1 rfl) 1 rfl ?_
    refine x_getR C (a := 0) (j := 1) 3 rfl rfl (by decide) fl_RX11_19 rfl rfl rfl (k_dg dt_X11_plain_0 18 33 (.getfield 19) 3 rfl) ?_
    refine x_getR C (a := 3) (j := 0) 4 rfl rfl (by decide) fl_RX11_75 rfl rfl rfl (k_dg dt_X11_plain_0 19 36 (.getfield 75) 3 rfl) ?_
    refine x_aload_n C (k_dg dt_X11_plain_0 20 39 (.aload_n 0) 1 rfl) 1 rfl ?_
    refine x_getR C (a := 0) (j := 3) 43 rfl rfl (by decide) fl_RX11_26 rfl rfl rfl (k_dg dt_X11_plain_0 21 40 (.getfield 26) 3 rfl) ?_
    refine x_getR C (a := 43) (j := 0) 44 rfl rfl (by decide) fl_RX11_75 rfl rfl rfl (k_dg dt_X11_plain_0 22 43 (.getfield 75) 3 rfl) ?_
    refine x_callV C (a := 4) (kd := 2) (vs := [k_ra Z 44]) (rest := []) rfl rfl (by decide) (fun r hr => by cases hr; rfl) (c_X3_copyFrom C.2.2.2.2.2.2.2.2.2 G.2.1 3 43 M3 isW3 isW43) cy_X3_copyFrom lk_RX11_83 im_X3_copyFrom se_X3_copyFrom (by decide) (by decide) (by decide) (by decide) rfl rfl (Nat.le_of_ble_eq_true rfl) (k_dg dt_X11_plain_0 23 46 (.invokevirtual 83) 3 rfl) (fun r4 M5 => ?_)
    show Sm Z G _ _ _ _ [(1, Value.int r1), (0, k_ra Z 0)] [] _ _
    refine x_aload_n C (k_dg dt_X11_plain_0 24 49 (.aload_n 0) 1 rfl) 1 rfl ?_
    refine x_getR C (a := 0) (j := 1) 3 rfl rfl (by decide) fl_RX11_19 rfl rfl rfl (k_dg dt_X11_plain_0 25 50 (.getfield 19) 3 rfl) ?_
    refine x_iconst C (v := 0) (k_dg dt_X11_plain_0 26 53 (.iconst 0) 1 rfl) (by decide) ?_
    refine x_putI C (a := 3) (j := 3) rfl rfl (by decide) fl_RX11_89 rfl pt_8_3 tb_8 rfl rfl (k_dg dt_X11_plain_0 27 54 (.putfield 89) 3 rfl) (fun M6 => ?_)
    refine x_aload_n C (k_dg dt_X11_plain_0 28 57 (.aload_n 0) 1 rfl) 1 rfl ?_
    refine x_iconst C (v := 0) (k_dg dt_X11_plain_0 29 58 (.iconst 0) 1 rfl) (by decide) ?_
    refine x_putI C (a := 0) (j := 6) rfl rfl (by decide) fl_RX11_37 rfl pt_9_6 tb_9 rfl rfl (k_dg dt_X11_plain_0 30 59 (.putfield 37) 3 rfl) (fun M7 => ?_)
    refine x_aload_n C (k_dg dt_X11_plain_0 31 62 (.aload_n 0) 1 rfl) 1 rfl ?_
    refine x_getR C (a := 0) (j := 1) 3 rfl rfl (by decide) fl_RX11_19 rfl rfl rfl (k_dg dt_X11_plain_0 32 63 (.getfield 19) 3 rfl) ?_
    refine x_getR C (a := 3) (j := 0) 4 rfl rfl (by decide) fl_RX11_75 rfl rfl rfl (k_dg dt_X11_plain_0 33 66 (.getfield 75) 3 rfl) ?_
    refine x_getI C (a := 4) (j := 0) rfl rfl (by decide) fl_RX11_92 rfl (k_dg dt_X11_plain_0 34 69 (.getfield 92) 3 rfl) ?_
    exact x_iret C (by decide) (by decide) (k_dg dt_X11_plain_0 35 72 (.ireturn) 1 rfl)
  · refine x_bipush C (v := -100) (k_dg dt_X11_plain_0 13 27 (.bipush (-100)) 2 rfl) (by decide) ?_
    refine x_iload_n C (k_dg dt_X11_plain_0 14 29 (.iload_n 1) 1 rfl) 0 rfl ?_
    refine x_isub C (k_dg dt_X11_plain_0 15 30 (.isub) 1 rfl) ?_
    exact x_iret C (by decide) (by decide) (k_dg dt_X11_plain_0 16 31 (.ireturn) 1 rfl)
theorem c_X11_plain {Z : k_Z} (hg : k_Gd Z) (l : Launch) (M : k_M) : Con true Z l yX11_plain cX11_plain 2 (some .int) 10 0 0 emI [k_ra Z 0] M (f_X11_plain M) := k_con hg (by decide) (Nat.le_of_ble_eq_true rfl) (fun G hl C => m_X11_plain_0 C M)
theorem dt_X11_within_0 : k_dec cX11_within [(0, .iload_n 0, 1), (1, .iload_n 1, 1), (2, .if_icmp .lt 12, 3), (5, .iload_n 0, 1), (6, .iload_n 2, 1), (7, .if_icmp .gt 7, 3), (10, .iconst 1, 1), (11, .goto 4, 3), (14, .iconst 0, 1), (15, .ireturn, 1)] = true := by decide +kernel
def f_X11_within (p1 : Int32) (p2 : Int32) (p3 : Int32) (M : k_M) : Option (Int32 × k_M) := if p1 < p2 then some (0, M) else if p3 < p1 then some (0, M) else some (1, M)
theorem m_X11_within_0 {Z : k_Z} {G : k_G} (C : k_C Z G RX11 cX11_within (true, 3, 1, 0, 0) (some .boolean) "within") (p1 : Int32) (p2 : Int32) (p3 : Int32) (M : k_M) : Sm Z G emI (true, 3, 1, 0, 0) (0, 0) 0 [(0, Value.int p1), (1, Value.int p2), (2, Value.int p3)] [] M (f_X11_within p1 p2 p3 M) := by
  show Sm Z G emI _ _ _ _ _ _ (if p1 < p2 then some (0, M) else if p3 < p1 then some (0, M) else some (1, M))
  refine x_iload_n C (k_dg dt_X11_within_0 0 0 (.iload_n 0) 1 rfl) 0 rfl ?_
  refine x_iload_n C (k_dg dt_X11_within_0 1 1 (.iload_n 1) 1 rfl) 1 rfl ?_
  refine x_icmp_lt C (tgt := 14) (k_dg dt_X11_within_0 2 2 (.if_icmp .lt 12) 3 rfl) (by decide) (fun _ => ?_) (fun _ => ?_)
  · refine x_iconst C (v := 0) (k_dg dt_X11_within_0 8 14 (.iconst 0) 1 rfl) (by decide) ?_
    exact x_zret C (by decide) (by decide) rfl (k_dg dt_X11_within_0 9 15 (.ireturn) 1 rfl)
  · refine x_iload_n C (k_dg dt_X11_within_0 3 5 (.iload_n 0) 1 rfl) 0 rfl ?_
    refine x_iload_n C (k_dg dt_X11_within_0 4 6 (.iload_n 2) 1 rfl) 2 rfl ?_
    refine x_icmp_gt C (tgt := 14) (k_dg dt_X11_within_0 5 7 (.if_icmp .gt 7) 3 rfl) (by decide) (fun _ => ?_) (fun _ => ?_)
    · refine x_iconst C (v := 0) (k_dg dt_X11_within_0 8 14 (.iconst 0) 1 rfl) (by decide) ?_
      exact x_zret C (by decide) (by decide) rfl (k_dg dt_X11_within_0 9 15 (.ireturn) 1 rfl)
    · refine x_iconst C (v := 1) (k_dg dt_X11_within_0 6 10 (.iconst 1) 1 rfl) (by decide) ?_
      refine x_goto C (tgt := 15) (k_dg dt_X11_within_0 7 11 (.goto 4) 3 rfl) (by decide) ?_
      exact x_zret C (by decide) (by decide) rfl (k_dg dt_X11_within_0 9 15 (.ireturn) 1 rfl)
theorem c_X11_within {Z : k_Z} (hg : k_Gd Z) (l : Launch) (p1 : Int32) (p2 : Int32) (p3 : Int32) (M : k_M) : Con true Z l yX11_within cX11_within 3 (some .boolean) 1 0 0 emI [Value.int p1, Value.int p2, Value.int p3] M (f_X11_within p1 p2 p3 M) := k_con hg (by decide) (Nat.le_of_ble_eq_true rfl) (fun G hl C => m_X11_within_0 C p1 p2 p3 M)
theorem dt_X11_place_0 : k_dec cX11_place [(0, .iload_n 1, 1), (1, .iconst 0, 1), (2, .iconst 5, 1), (3, .invokestatic 95, 3), (6, .ifCond .eq 13, 3), (9, .iload_n 2, 1), (10, .iconst 0, 1), (11, .bipush 9, 2), (13, .invokestatic 95, 3), (16, .ifCond .ne 5, 3), (19, .iconst (-1), 1), (20, .ireturn, 1), (21, .iload_n 1, 1), (22, .invokestatic 99, 3), (25, .ifCond .ne 15, 3), (28, .iload_n 3, 1), (29, .iconst 0, 1), (30, .bipush 99, 2), (32, .invokestatic 95, 3), (35, .ifCond .ne 5, 3), (38, .iconst (-1), 1), (39, .ireturn, 1), (40, .aload_n 0, 1), (41, .getfield 19, 3), (44, .getfield 75, 3), (47, .getfield 92, 3), (50, .bipush 8, 2), (52, .if_icmp .ge 19, 3), (55, .aload_n 0, 1), (56, .getfield 19, 3), (59, .getfield 75, 3), (62, .iload_n 1, 1), (63, .iload_n 2, 1), (64, .iload_n 3, 1), (65, .invokevirtual 103, 3), (68, .goto 5, 3), (71, .bipush (-2), 2), (73, .ireturn, 1)] = true := by decide +kernel
def f_X11_place_40 (l1 : Int32) (l2 : Int32) (l3 : Int32) (M : k_M) : Option (Int32 × k_M) := if 8 ≤ (M.1 4 0) then some (-2, M) else bd (f_X3_addPlace 3 l1 l2 l3 M) (fun r1 M2 => some (r1, M2))
theorem m_X11_place_40 {Z : k_Z} {G : k_G} (C : k_C Z G RX11 cX11_place (true, 4, 3, 0, 0) (some .int) "place") (l1 : Int32) (l2 : Int32) (l3 : Int32) (M : k_M) : Sm Z G emI (true, 4, 3, 0, 0) (0, 0) 40 [(0, k_ra Z 0), (1, Value.int l1), (2, Value.int l2), (3, Value.int l3)] [] M (f_X11_place_40 l1 l2 l3 M) := by
  show Sm Z G emI _ _ _ _ _ _ (if 8 ≤ (M.1 4 0) then some (-2, M) else bd (f_X3_addPlace 3 l1 l2 l3 M) (fun r1 M2 => some (r1, M2)))
  refine x_aload_n C (k_dg dt_X11_place_0 22 40 (.aload_n 0) 1 rfl) 0 rfl ?_
  refine x_getR C (a := 0) (j := 1) 3 rfl rfl (by decide) fl_RX11_19 rfl rfl rfl (k_dg dt_X11_place_0 23 41 (.getfield 19) 3 rfl) ?_
  refine x_getR C (a := 3) (j := 0) 4 rfl rfl (by decide) fl_RX11_75 rfl rfl rfl (k_dg dt_X11_place_0 24 44 (.getfield 75) 3 rfl) ?_
  refine x_getI C (a := 4) (j := 0) rfl rfl (by decide) fl_RX11_92 rfl (k_dg dt_X11_place_0 25 47 (.getfield 92) 3 rfl) ?_
  refine x_bipush C (v := 8) (k_dg dt_X11_place_0 26 50 (.bipush 8) 2 rfl) (by decide) ?_
  refine x_icmp_ge C (tgt := 71) (k_dg dt_X11_place_0 27 52 (.if_icmp .ge 19) 3 rfl) (by decide) (fun _ => ?_) (fun _ => ?_)
  · refine x_bipush C (v := -2) (k_dg dt_X11_place_0 36 71 (.bipush (-2)) 2 rfl) (by decide) ?_
    exact x_iret C (by decide) (by decide) (k_dg dt_X11_place_0 37 73 (.ireturn) 1 rfl)
  · refine x_aload_n C (k_dg dt_X11_place_0 28 55 (.aload_n 0) 1 rfl) 0 rfl ?_
    refine x_getR C (a := 0) (j := 1) 3 rfl rfl (by decide) fl_RX11_19 rfl rfl rfl (k_dg dt_X11_place_0 29 56 (.getfield 19) 3 rfl) ?_
    refine x_getR C (a := 3) (j := 0) 4 rfl rfl (by decide) fl_RX11_75 rfl rfl rfl (k_dg dt_X11_place_0 30 59 (.getfield 75) 3 rfl) ?_
    refine x_iload_n C (k_dg dt_X11_place_0 31 62 (.iload_n 1) 1 rfl) 1 rfl ?_
    refine x_iload_n C (k_dg dt_X11_place_0 32 63 (.iload_n 2) 1 rfl) 2 rfl ?_
    refine x_iload_n C (k_dg dt_X11_place_0 33 64 (.iload_n 3) 1 rfl) 3 rfl ?_
    refine x_callV C (a := 4) (kd := 2) (vs := [Value.int l1, Value.int l2, Value.int l3]) (rest := []) rfl rfl (by decide) (fun r hr => by cases hr; rfl) (c_X3_addPlace C.2.2.2.2.2.2.2.2.2 G.2.1 3 l1 l2 l3 M isW3) cy_X3_addPlace lk_RX11_103 im_X3_addPlace se_X3_addPlace (by decide) (by decide) (by decide) (by decide) rfl rfl (Nat.le_of_ble_eq_true rfl) (k_dg dt_X11_place_0 34 65 (.invokevirtual 103) 3 rfl) (fun r1 M2 => ?_)
    show Sm Z G _ _ _ _ [(0, k_ra Z 0), (1, Value.int l1), (2, Value.int l2), (3, Value.int l3)] [Value.int r1] _ _
    refine x_goto C (tgt := 73) (k_dg dt_X11_place_0 35 68 (.goto 5) 3 rfl) (by decide) ?_
    exact x_iret C (by decide) (by decide) (k_dg dt_X11_place_0 37 73 (.ireturn) 1 rfl)
def f_X11_place (p1 : Int32) (p2 : Int32) (p3 : Int32) (M : k_M) : Option (Int32 × k_M) := bd (f_X11_within p1 0 5 M) (fun r1 M2 => if r1 = 0 then some (-1, M2) else bd (f_X11_within p2 0 9 M2) (fun r3 M4 => if r3 = 0 then some (-1, M4) else bd (f_X3_isEndless p1 M4) (fun r5 M6 => if r5 = 0 then bd (f_X11_within p3 0 99 M6) (fun r7 M8 => if r7 = 0 then some (-1, M8) else f_X11_place_40 p1 p2 p3 M8) else f_X11_place_40 p1 p2 p3 M6)))
theorem m_X11_place_0 {Z : k_Z} {G : k_G} (C : k_C Z G RX11 cX11_place (true, 4, 3, 0, 0) (some .int) "place") (p1 : Int32) (p2 : Int32) (p3 : Int32) (M : k_M) : Sm Z G emI (true, 4, 3, 0, 0) (0, 0) 0 [(0, k_ra Z 0), (1, Value.int p1), (2, Value.int p2), (3, Value.int p3)] [] M (f_X11_place p1 p2 p3 M) := by
  show Sm Z G emI _ _ _ _ _ _ (bd (f_X11_within p1 0 5 M) (fun r1 M2 => if r1 = 0 then some (-1, M2) else bd (f_X11_within p2 0 9 M2) (fun r3 M4 => if r3 = 0 then some (-1, M4) else bd (f_X3_isEndless p1 M4) (fun r5 M6 => if r5 = 0 then bd (f_X11_within p3 0 99 M6) (fun r7 M8 => if r7 = 0 then some (-1, M8) else f_X11_place_40 p1 p2 p3 M8) else f_X11_place_40 p1 p2 p3 M6))))
  refine x_iload_n C (k_dg dt_X11_place_0 0 0 (.iload_n 1) 1 rfl) 1 rfl ?_
  refine x_iconst C (v := 0) (k_dg dt_X11_place_0 1 1 (.iconst 0) 1 rfl) (by decide) ?_
  refine x_iconst C (v := 5) (k_dg dt_X11_place_0 2 2 (.iconst 5) 1 rfl) (by decide) ?_
  refine x_callS C (vs := [Value.int p1, Value.int 0, Value.int 5]) (rest := []) (c_X11_within C.2.2.2.2.2.2.2.2.2 G.2.1 p1 0 5 M) cy_X11_within lk_RX11_95 stt_X11_within (by decide) (by decide) (by decide) (by decide) rfl rfl (Nat.le_of_ble_eq_true rfl) (k_dg dt_X11_place_0 3 3 (.invokestatic 95) 3 rfl) (fun r1 M2 => ?_)
  show Sm Z G _ _ _ _ [(0, k_ra Z 0), (1, Value.int p1), (2, Value.int p2), (3, Value.int p3)] [Value.int r1] _ _
  refine x_if_eq C (tgt := 19) (k_dg dt_X11_place_0 4 6 (.ifCond .eq 13) 3 rfl) (by decide) (fun _ => ?_) (fun _ => ?_)
  · refine x_iconst C (v := -1) (k_dg dt_X11_place_0 10 19 (.iconst (-1)) 1 rfl) (by decide) ?_
    exact x_iret C (by decide) (by decide) (k_dg dt_X11_place_0 11 20 (.ireturn) 1 rfl)
  · refine x_iload_n C (k_dg dt_X11_place_0 5 9 (.iload_n 2) 1 rfl) 2 rfl ?_
    refine x_iconst C (v := 0) (k_dg dt_X11_place_0 6 10 (.iconst 0) 1 rfl) (by decide) ?_
    refine x_bipush C (v := 9) (k_dg dt_X11_place_0 7 11 (.bipush 9) 2 rfl) (by decide) ?_
    refine x_callS C (vs := [Value.int p2, Value.int 0, Value.int 9]) (rest := []) (c_X11_within C.2.2.2.2.2.2.2.2.2 G.2.1 p2 0 9 M2) cy_X11_within lk_RX11_95 stt_X11_within (by decide) (by decide) (by decide) (by decide) rfl rfl (Nat.le_of_ble_eq_true rfl) (k_dg dt_X11_place_0 8 13 (.invokestatic 95) 3 rfl) (fun r3 M4 => ?_)
    show Sm Z G _ _ _ _ [(0, k_ra Z 0), (1, Value.int p1), (2, Value.int p2), (3, Value.int p3)] [Value.int r3] _ _
    refine x_if_ne C (tgt := 21) (k_dg dt_X11_place_0 9 16 (.ifCond .ne 5) 3 rfl) (by decide) (fun _ => ?_) (fun _ => ?_)
    · refine x_iconst C (v := -1) (k_dg dt_X11_place_0 10 19 (.iconst (-1)) 1 rfl) (by decide) ?_
      exact x_iret C (by decide) (by decide) (k_dg dt_X11_place_0 11 20 (.ireturn) 1 rfl)
    · refine x_iload_n C (k_dg dt_X11_place_0 12 21 (.iload_n 1) 1 rfl) 1 rfl ?_
      refine x_callS C (vs := [Value.int p1]) (rest := []) (c_X3_isEndless C.2.2.2.2.2.2.2.2.2 G.2.1 p1 M4) cy_X3_isEndless lk_RX11_99 stt_X3_isEndless (by decide) (by decide) (by decide) (by decide) rfl rfl (Nat.le_of_ble_eq_true rfl) (k_dg dt_X11_place_0 13 22 (.invokestatic 99) 3 rfl) (fun r5 M6 => ?_)
      show Sm Z G _ _ _ _ [(0, k_ra Z 0), (1, Value.int p1), (2, Value.int p2), (3, Value.int p3)] [Value.int r5] _ _
      refine x_if_ne C (tgt := 40) (k_dg dt_X11_place_0 14 25 (.ifCond .ne 15) 3 rfl) (by decide) (fun _ => ?_) (fun _ => ?_)
      · refine x_iload_n C (k_dg dt_X11_place_0 15 28 (.iload_n 3) 1 rfl) 3 rfl ?_
        refine x_iconst C (v := 0) (k_dg dt_X11_place_0 16 29 (.iconst 0) 1 rfl) (by decide) ?_
        refine x_bipush C (v := 99) (k_dg dt_X11_place_0 17 30 (.bipush 99) 2 rfl) (by decide) ?_
        refine x_callS C (vs := [Value.int p3, Value.int 0, Value.int 99]) (rest := []) (c_X11_within C.2.2.2.2.2.2.2.2.2 G.2.1 p3 0 99 M6) cy_X11_within lk_RX11_95 stt_X11_within (by decide) (by decide) (by decide) (by decide) rfl rfl (Nat.le_of_ble_eq_true rfl) (k_dg dt_X11_place_0 18 32 (.invokestatic 95) 3 rfl) (fun r7 M8 => ?_)
        show Sm Z G _ _ _ _ [(0, k_ra Z 0), (1, Value.int p1), (2, Value.int p2), (3, Value.int p3)] [Value.int r7] _ _
        refine x_if_ne C (tgt := 40) (k_dg dt_X11_place_0 19 35 (.ifCond .ne 5) 3 rfl) (by decide) (fun _ => ?_) (fun _ => ?_)
        · refine x_iconst C (v := -1) (k_dg dt_X11_place_0 20 38 (.iconst (-1)) 1 rfl) (by decide) ?_
          exact x_iret C (by decide) (by decide) (k_dg dt_X11_place_0 21 39 (.ireturn) 1 rfl)
        · exact m_X11_place_40 C p1 p2 p3 M8
      · exact m_X11_place_40 C p1 p2 p3 M6
theorem c_X11_place {Z : k_Z} (hg : k_Gd Z) (l : Launch) (p1 : Int32) (p2 : Int32) (p3 : Int32) (M : k_M) : Con true Z l yX11_place cX11_place 4 (some .int) 3 0 0 emI [k_ra Z 0, Value.int p1, Value.int p2, Value.int p3] M (f_X11_place p1 p2 p3 M) := k_con hg (by decide) (Nat.le_of_ble_eq_true rfl) (fun G hl C => m_X11_place_0 C p1 p2 p3 M)
theorem dt_X11_way_0 : k_dec cX11_way [(0, .aload_n 0, 1), (1, .getfield 19, 3), (4, .getfield 75, 3), (7, .astore 6, 2), (9, .aload 6, 2), (11, .iload_n 1, 1), (12, .invokevirtual 107, 3), (15, .ifCond .eq 17, 3), (18, .aload 6, 2), (20, .iload_n 2, 1), (21, .invokevirtual 107, 3), (24, .ifCond .eq 8, 3), (27, .iload_n 1, 1), (28, .iload_n 2, 1), (29, .if_icmp .ne 5, 3), (32, .iconst (-1), 1), (33, .ireturn, 1), (34, .iload_n 3, 1), (35, .iconst 1, 1), (36, .iconst 4, 1), (37, .invokestatic 95, 3), (40, .ifCond .eq 26, 3), (43, .iload 4, 2), (45, .iconst 0, 1), (46, .bipush 9, 2), (48, .invokestatic 95, 3), (51, .ifCond .eq 15, 3), (54, .iload 5, 2), (56, .iconst 0, 1), (57, .sipush 4095, 3), (60, .invokestatic 95, 3), (63, .ifCond .ne 5, 3), (66, .iconst (-1), 1), (67, .ireturn, 1), (68, .aload 6, 2), (70, .getfield 110, 3), (73, .bipush 12, 2), (75, .if_icmp .ge 21, 3), (78, .aload 6, 2), (80, .iload_n 1, 1)] = true := by decide +kernel
theorem dt_X11_way_1 : k_dec cX11_way [(81, .invokevirtual 113, 3), (84, .ifCond .eq 12, 3), (87, .aload 6, 2), (89, .iload_n 2, 1), (90, .invokevirtual 113, 3), (93, .ifCond .ne 6, 3), (96, .bipush (-2), 2), (98, .ireturn, 1), (99, .aload 6, 2), (101, .iload_n 1, 1), (102, .iload_n 2, 1), (103, .iload_n 3, 1), (104, .iload 4, 2), (106, .iload 5, 2), (108, .invokevirtual 116, 3), (111, .ireturn, 1)] = true := by decide +kernel
def f_X11_way_96 (M : k_M) : Option (Int32 × k_M) := some (-2, M)
theorem m_X11_way_96 {Z : k_Z} {G : k_G} (C : k_C Z G RX11 cX11_way (true, 7, 3, 0, 0) (some .int) "way") (M : k_M) : Sm Z G emI (true, 7, 3, 0, 0) (0, 0) 96 [] [] M (f_X11_way_96 M) := by
  show Sm Z G emI _ _ _ _ _ _ (some (-2, M))
  refine x_bipush C (v := -2) (k_dg dt_X11_way_1 6 96 (.bipush (-2)) 2 rfl) (by decide) ?_
  exact x_iret C (by decide) (by decide) (k_dg dt_X11_way_1 7 98 (.ireturn) 1 rfl)
def f_X11_way (p1 : Int32) (p2 : Int32) (p3 : Int32) (p4 : Int32) (p5 : Int32) (M : k_M) : Option (Int32 × k_M) := bd (f_X3_hasPlace 3 p1 M) (fun r1 M2 => if r1 = 0 then some (-1, M2) else bd (f_X3_hasPlace 3 p2 M2) (fun r3 M4 => if r3 = 0 then some (-1, M4) else if p1 = p2 then some (-1, M4) else bd (f_X11_within p3 1 4 M4) (fun r5 M6 => if r5 = 0 then some (-1, M6) else bd (f_X11_within p4 0 9 M6) (fun r7 M8 => if r7 = 0 then some (-1, M8) else bd (f_X11_within p5 0 4095 M8) (fun r9 M10 => if r9 = 0 then some (-1, M10) else if 12 ≤ (M10.1 4 7) then f_X11_way_96 M10 else bd (f_X3_canJoin 3 p1 M10) (fun r11 M12 => if r11 = 0 then f_X11_way_96 M12 else bd (f_X3_canJoin 3 p2 M12) (fun r13 M14 => if r13 = 0 then f_X11_way_96 M14 else bd (f_X3_addWay 3 p1 p2 p3 p4 p5 M14) (fun r15 M16 => some (r15, M16)))))))))
theorem m_X11_way_0 {Z : k_Z} {G : k_G} (C : k_C Z G RX11 cX11_way (true, 7, 3, 0, 0) (some .int) "way") (p1 : Int32) (p2 : Int32) (p3 : Int32) (p4 : Int32) (p5 : Int32) (M : k_M) : Sm Z G emI (true, 7, 3, 0, 0) (0, 0) 0 [(0, k_ra Z 0), (1, Value.int p1), (2, Value.int p2), (3, Value.int p3), (4, Value.int p4), (5, Value.int p5)] [] M (f_X11_way p1 p2 p3 p4 p5 M) := by
  show Sm Z G emI _ _ _ _ _ _ (bd (f_X3_hasPlace 3 p1 M) (fun r1 M2 => if r1 = 0 then some (-1, M2) else bd (f_X3_hasPlace 3 p2 M2) (fun r3 M4 => if r3 = 0 then some (-1, M4) else if p1 = p2 then some (-1, M4) else bd (f_X11_within p3 1 4 M4) (fun r5 M6 => if r5 = 0 then some (-1, M6) else bd (f_X11_within p4 0 9 M6) (fun r7 M8 => if r7 = 0 then some (-1, M8) else bd (f_X11_within p5 0 4095 M8) (fun r9 M10 => if r9 = 0 then some (-1, M10) else if 12 ≤ (M10.1 4 7) then f_X11_way_96 M10 else bd (f_X3_canJoin 3 p1 M10) (fun r11 M12 => if r11 = 0 then f_X11_way_96 M12 else bd (f_X3_canJoin 3 p2 M12) (fun r13 M14 => if r13 = 0 then f_X11_way_96 M14 else bd (f_X3_addWay 3 p1 p2 p3 p4 p5 M14) (fun r15 M16 => some (r15, M16))))))))))
  refine x_aload_n C (k_dg dt_X11_way_0 0 0 (.aload_n 0) 1 rfl) 0 rfl ?_
  refine x_getR C (a := 0) (j := 1) 3 rfl rfl (by decide) fl_RX11_19 rfl rfl rfl (k_dg dt_X11_way_0 1 1 (.getfield 19) 3 rfl) ?_
  refine x_getR C (a := 3) (j := 0) 4 rfl rfl (by decide) fl_RX11_75 rfl rfl rfl (k_dg dt_X11_way_0 2 4 (.getfield 75) 3 rfl) ?_
  refine x_astore C (lv' := [(6, k_ra Z 4), (0, k_ra Z 0), (1, Value.int p1), (2, Value.int p2), (3, Value.int p3), (4, Value.int p4), (5, Value.int p5)]) (k_dg dt_X11_way_0 3 7 (.astore 6) 2 rfl) (by decide) rfl ?_
  refine x_aload C (k_dg dt_X11_way_0 4 9 (.aload 6) 2 rfl) 0 rfl ?_
  refine x_iload_n C (k_dg dt_X11_way_0 5 11 (.iload_n 1) 1 rfl) 2 rfl ?_
  refine x_callV C (a := 4) (kd := 2) (vs := [Value.int p1]) (rest := []) rfl rfl (by decide) (fun r hr => by cases hr; rfl) (c_X3_hasPlace C.2.2.2.2.2.2.2.2.2 G.2.1 3 p1 M isW3) cy_X3_hasPlace lk_RX11_107 im_X3_hasPlace se_X3_hasPlace (by decide) (by decide) (by decide) (by decide) rfl rfl (Nat.le_of_ble_eq_true rfl) (k_dg dt_X11_way_0 6 12 (.invokevirtual 107) 3 rfl) (fun r1 M2 => ?_)
  show Sm Z G _ _ _ _ [(6, k_ra Z 4), (0, k_ra Z 0), (1, Value.int p1), (2, Value.int p2), (3, Value.int p3), (4, Value.int p4), (5, Value.int p5)] [Value.int r1] _ _
  refine x_if_eq C (tgt := 32) (k_dg dt_X11_way_0 7 15 (.ifCond .eq 17) 3 rfl) (by decide) (fun _ => ?_) (fun _ => ?_)
  · refine x_iconst C (v := -1) (k_dg dt_X11_way_0 15 32 (.iconst (-1)) 1 rfl) (by decide) ?_
    exact x_iret C (by decide) (by decide) (k_dg dt_X11_way_0 16 33 (.ireturn) 1 rfl)
  · refine x_aload C (k_dg dt_X11_way_0 8 18 (.aload 6) 2 rfl) 0 rfl ?_
    refine x_iload_n C (k_dg dt_X11_way_0 9 20 (.iload_n 2) 1 rfl) 3 rfl ?_
    refine x_callV C (a := 4) (kd := 2) (vs := [Value.int p2]) (rest := []) rfl rfl (by decide) (fun r hr => by cases hr; rfl) (c_X3_hasPlace C.2.2.2.2.2.2.2.2.2 G.2.1 3 p2 M2 isW3) cy_X3_hasPlace lk_RX11_107 im_X3_hasPlace se_X3_hasPlace (by decide) (by decide) (by decide) (by decide) rfl rfl (Nat.le_of_ble_eq_true rfl) (k_dg dt_X11_way_0 10 21 (.invokevirtual 107) 3 rfl) (fun r3 M4 => ?_)
    show Sm Z G _ _ _ _ [(6, k_ra Z 4), (0, k_ra Z 0), (1, Value.int p1), (2, Value.int p2), (3, Value.int p3), (4, Value.int p4), (5, Value.int p5)] [Value.int r3] _ _
    refine x_if_eq C (tgt := 32) (k_dg dt_X11_way_0 11 24 (.ifCond .eq 8) 3 rfl) (by decide) (fun _ => ?_) (fun _ => ?_)
    · refine x_iconst C (v := -1) (k_dg dt_X11_way_0 15 32 (.iconst (-1)) 1 rfl) (by decide) ?_
      exact x_iret C (by decide) (by decide) (k_dg dt_X11_way_0 16 33 (.ireturn) 1 rfl)
    · refine x_iload_n C (k_dg dt_X11_way_0 12 27 (.iload_n 1) 1 rfl) 2 rfl ?_
      refine x_iload_n C (k_dg dt_X11_way_0 13 28 (.iload_n 2) 1 rfl) 3 rfl ?_
      refine x_icmp_ne C (tgt := 34) (k_dg dt_X11_way_0 14 29 (.if_icmp .ne 5) 3 rfl) (by decide) (fun _ => ?_) (fun _ => ?_)
      · refine x_iconst C (v := -1) (k_dg dt_X11_way_0 15 32 (.iconst (-1)) 1 rfl) (by decide) ?_
        exact x_iret C (by decide) (by decide) (k_dg dt_X11_way_0 16 33 (.ireturn) 1 rfl)
      · refine x_iload_n C (k_dg dt_X11_way_0 17 34 (.iload_n 3) 1 rfl) 4 rfl ?_
        refine x_iconst C (v := 1) (k_dg dt_X11_way_0 18 35 (.iconst 1) 1 rfl) (by decide) ?_
        refine x_iconst C (v := 4) (k_dg dt_X11_way_0 19 36 (.iconst 4) 1 rfl) (by decide) ?_
        refine x_callS C (vs := [Value.int p3, Value.int 1, Value.int 4]) (rest := []) (c_X11_within C.2.2.2.2.2.2.2.2.2 G.2.1 p3 1 4 M4) cy_X11_within lk_RX11_95 stt_X11_within (by decide) (by decide) (by decide) (by decide) rfl rfl (Nat.le_of_ble_eq_true rfl) (k_dg dt_X11_way_0 20 37 (.invokestatic 95) 3 rfl) (fun r5 M6 => ?_)
        show Sm Z G _ _ _ _ [(6, k_ra Z 4), (0, k_ra Z 0), (1, Value.int p1), (2, Value.int p2), (3, Value.int p3), (4, Value.int p4), (5, Value.int p5)] [Value.int r5] _ _
        refine x_if_eq C (tgt := 66) (k_dg dt_X11_way_0 21 40 (.ifCond .eq 26) 3 rfl) (by decide) (fun _ => ?_) (fun _ => ?_)
        · refine x_iconst C (v := -1) (k_dg dt_X11_way_0 32 66 (.iconst (-1)) 1 rfl) (by decide) ?_
          exact x_iret C (by decide) (by decide) (k_dg dt_X11_way_0 33 67 (.ireturn) 1 rfl)
        · refine x_iload C (k_dg dt_X11_way_0 22 43 (.iload 4) 2 rfl) 5 rfl ?_
          refine x_iconst C (v := 0) (k_dg dt_X11_way_0 23 45 (.iconst 0) 1 rfl) (by decide) ?_
          refine x_bipush C (v := 9) (k_dg dt_X11_way_0 24 46 (.bipush 9) 2 rfl) (by decide) ?_
          refine x_callS C (vs := [Value.int p4, Value.int 0, Value.int 9]) (rest := []) (c_X11_within C.2.2.2.2.2.2.2.2.2 G.2.1 p4 0 9 M6) cy_X11_within lk_RX11_95 stt_X11_within (by decide) (by decide) (by decide) (by decide) rfl rfl (Nat.le_of_ble_eq_true rfl) (k_dg dt_X11_way_0 25 48 (.invokestatic 95) 3 rfl) (fun r7 M8 => ?_)
          show Sm Z G _ _ _ _ [(6, k_ra Z 4), (0, k_ra Z 0), (1, Value.int p1), (2, Value.int p2), (3, Value.int p3), (4, Value.int p4), (5, Value.int p5)] [Value.int r7] _ _
          refine x_if_eq C (tgt := 66) (k_dg dt_X11_way_0 26 51 (.ifCond .eq 15) 3 rfl) (by decide) (fun _ => ?_) (fun _ => ?_)
          · refine x_iconst C (v := -1) (k_dg dt_X11_way_0 32 66 (.iconst (-1)) 1 rfl) (by decide) ?_
            exact x_iret C (by decide) (by decide) (k_dg dt_X11_way_0 33 67 (.ireturn) 1 rfl)
          · refine x_iload C (k_dg dt_X11_way_0 27 54 (.iload 5) 2 rfl) 6 rfl ?_
            refine x_iconst C (v := 0) (k_dg dt_X11_way_0 28 56 (.iconst 0) 1 rfl) (by decide) ?_
            refine x_sipush C (v := 4095) (k_dg dt_X11_way_0 29 57 (.sipush 4095) 3 rfl) (by decide) ?_
            refine x_callS C (vs := [Value.int p5, Value.int 0, Value.int 4095]) (rest := []) (c_X11_within C.2.2.2.2.2.2.2.2.2 G.2.1 p5 0 4095 M8) cy_X11_within lk_RX11_95 stt_X11_within (by decide) (by decide) (by decide) (by decide) rfl rfl (Nat.le_of_ble_eq_true rfl) (k_dg dt_X11_way_0 30 60 (.invokestatic 95) 3 rfl) (fun r9 M10 => ?_)
            show Sm Z G _ _ _ _ [(6, k_ra Z 4), (0, k_ra Z 0), (1, Value.int p1), (2, Value.int p2), (3, Value.int p3), (4, Value.int p4), (5, Value.int p5)] [Value.int r9] _ _
            refine x_if_ne C (tgt := 68) (k_dg dt_X11_way_0 31 63 (.ifCond .ne 5) 3 rfl) (by decide) (fun _ => ?_) (fun _ => ?_)
            · refine x_iconst C (v := -1) (k_dg dt_X11_way_0 32 66 (.iconst (-1)) 1 rfl) (by decide) ?_
              exact x_iret C (by decide) (by decide) (k_dg dt_X11_way_0 33 67 (.ireturn) 1 rfl)
            · refine x_aload C (k_dg dt_X11_way_0 34 68 (.aload 6) 2 rfl) 0 rfl ?_
              refine x_getI C (a := 4) (j := 7) rfl rfl (by decide) fl_RX11_110 rfl (k_dg dt_X11_way_0 35 70 (.getfield 110) 3 rfl) ?_
              refine x_bipush C (v := 12) (k_dg dt_X11_way_0 36 73 (.bipush 12) 2 rfl) (by decide) ?_
              refine x_icmp_ge C (tgt := 96) (k_dg dt_X11_way_0 37 75 (.if_icmp .ge 21) 3 rfl) (by decide) (fun _ => ?_) (fun _ => ?_)
              · refine x_lv [] rfl ?_
                exact m_X11_way_96 C M10
              · refine x_aload C (k_dg dt_X11_way_0 38 78 (.aload 6) 2 rfl) 0 rfl ?_
                refine x_iload_n C (k_dg dt_X11_way_0 39 80 (.iload_n 1) 1 rfl) 2 rfl ?_
                refine x_callV C (a := 4) (kd := 2) (vs := [Value.int p1]) (rest := []) rfl rfl (by decide) (fun r hr => by cases hr; rfl) (c_X3_canJoin C.2.2.2.2.2.2.2.2.2 G.2.1 3 p1 M10 isW3) cy_X3_canJoin lk_RX11_113 im_X3_canJoin se_X3_canJoin (by decide) (by decide) (by decide) (by decide) rfl rfl (Nat.le_of_ble_eq_true rfl) (k_dg dt_X11_way_1 0 81 (.invokevirtual 113) 3 rfl) (fun r11 M12 => ?_)
                show Sm Z G _ _ _ _ [(6, k_ra Z 4), (0, k_ra Z 0), (1, Value.int p1), (2, Value.int p2), (3, Value.int p3), (4, Value.int p4), (5, Value.int p5)] [Value.int r11] _ _
                refine x_if_eq C (tgt := 96) (k_dg dt_X11_way_1 1 84 (.ifCond .eq 12) 3 rfl) (by decide) (fun _ => ?_) (fun _ => ?_)
                · refine x_lv [] rfl ?_
                  exact m_X11_way_96 C M12
                · refine x_aload C (k_dg dt_X11_way_1 2 87 (.aload 6) 2 rfl) 0 rfl ?_
                  refine x_iload_n C (k_dg dt_X11_way_1 3 89 (.iload_n 2) 1 rfl) 3 rfl ?_
                  refine x_callV C (a := 4) (kd := 2) (vs := [Value.int p2]) (rest := []) rfl rfl (by decide) (fun r hr => by cases hr; rfl) (c_X3_canJoin C.2.2.2.2.2.2.2.2.2 G.2.1 3 p2 M12 isW3) cy_X3_canJoin lk_RX11_113 im_X3_canJoin se_X3_canJoin (by decide) (by decide) (by decide) (by decide) rfl rfl (Nat.le_of_ble_eq_true rfl) (k_dg dt_X11_way_1 4 90 (.invokevirtual 113) 3 rfl) (fun r13 M14 => ?_)
                  show Sm Z G _ _ _ _ [(6, k_ra Z 4), (0, k_ra Z 0), (1, Value.int p1), (2, Value.int p2), (3, Value.int p3), (4, Value.int p4), (5, Value.int p5)] [Value.int r13] _ _
                  refine x_if_ne C (tgt := 99) (k_dg dt_X11_way_1 5 93 (.ifCond .ne 6) 3 rfl) (by decide) (fun _ => ?_) (fun _ => ?_)
                  · refine x_lv [] rfl ?_
                    exact m_X11_way_96 C M14
                  · refine x_aload C (k_dg dt_X11_way_1 8 99 (.aload 6) 2 rfl) 0 rfl ?_
                    refine x_iload_n C (k_dg dt_X11_way_1 9 101 (.iload_n 1) 1 rfl) 2 rfl ?_
                    refine x_iload_n C (k_dg dt_X11_way_1 10 102 (.iload_n 2) 1 rfl) 3 rfl ?_
                    refine x_iload_n C (k_dg dt_X11_way_1 11 103 (.iload_n 3) 1 rfl) 4 rfl ?_
                    refine x_iload C (k_dg dt_X11_way_1 12 104 (.iload 4) 2 rfl) 5 rfl ?_
                    refine x_iload C (k_dg dt_X11_way_1 13 106 (.iload 5) 2 rfl) 6 rfl ?_
                    refine x_callV C (a := 4) (kd := 2) (vs := [Value.int p1, Value.int p2, Value.int p3, Value.int p4, Value.int p5]) (rest := []) rfl rfl (by decide) (fun r hr => by cases hr; rfl) (c_X3_addWay C.2.2.2.2.2.2.2.2.2 G.2.1 3 p1 p2 p3 p4 p5 M14 isW3) cy_X3_addWay lk_RX11_116 im_X3_addWay se_X3_addWay (by decide) (by decide) (by decide) (by decide) rfl rfl (Nat.le_of_ble_eq_true rfl) (k_dg dt_X11_way_1 14 108 (.invokevirtual 116) 3 rfl) (fun r15 M16 => ?_)
                    show Sm Z G _ _ _ _ [(6, k_ra Z 4), (0, k_ra Z 0), (1, Value.int p1), (2, Value.int p2), (3, Value.int p3), (4, Value.int p4), (5, Value.int p5)] [Value.int r15] _ _
                    exact x_iret C (by decide) (by decide) (k_dg dt_X11_way_1 15 111 (.ireturn) 1 rfl)
theorem c_X11_way {Z : k_Z} (hg : k_Gd Z) (l : Launch) (p1 : Int32) (p2 : Int32) (p3 : Int32) (p4 : Int32) (p5 : Int32) (M : k_M) : Con true Z l yX11_way cX11_way 7 (some .int) 3 0 0 emI [k_ra Z 0, Value.int p1, Value.int p2, Value.int p3, Value.int p4, Value.int p5] M (f_X11_way p1 p2 p3 p4 p5 M) := k_con hg (by decide) (Nat.le_of_ble_eq_true rfl) (fun G hl C => m_X11_way_0 C p1 p2 p3 p4 p5 M)
theorem dt_X11_placeOf_0 : k_dec cX11_placeOf [(0, .aload_n 0, 1), (1, .getfield 19, 3), (4, .getfield 75, 3), (7, .astore_n 3, 1), (8, .aload_n 3, 1), (9, .iload_n 1, 1), (10, .invokevirtual 107, 3), (13, .ifCond .ne 5, 3), (16, .iconst (-1), 1), (17, .ireturn, 1), (18, .iload_n 2, 1), (19, .tableswitch 46 0 2 #[25, 32, 39], 25), (44, .aload_n 3, 1), (45, .getfield 120, 3), (48, .iload_n 1, 1), (49, .iaload, 1), (50, .ireturn, 1), (51, .aload_n 3, 1), (52, .getfield 123, 3), (55, .iload_n 1, 1), (56, .iaload, 1), (57, .ireturn, 1), (58, .aload_n 3, 1), (59, .getfield 126, 3), (62, .iload_n 1, 1), (63, .iaload, 1), (64, .ireturn, 1), (65, .iconst (-1), 1), (66, .ireturn, 1)] = true := by decide +kernel
def f_X11_placeOf (p1 : Int32) (p2 : Int32) (M : k_M) : Option (Int32 × k_M) := bd (f_X3_hasPlace 3 p1 M) (fun r1 M2 => if r1 = 0 then some (-1, M2) else tsw p2 0 3 (fun i_ => if i_ = 0 then rdI M2 5 8 p1 (fun v3 => some (v3, M2)) else if i_ = 1 then rdI M2 6 8 p1 (fun v4 => some (v4, M2)) else if i_ = 2 then rdI M2 8 8 p1 (fun v5 => some (v5, M2)) else some (-1, M2)) (some (-1, M2)))
theorem m_X11_placeOf_0 {Z : k_Z} {G : k_G} (C : k_C Z G RX11 cX11_placeOf (true, 4, 2, 0, 0) (some .int) "placeOf") (p1 : Int32) (p2 : Int32) (M : k_M) : Sm Z G emI (true, 4, 2, 0, 0) (0, 0) 0 [(0, k_ra Z 0), (1, Value.int p1), (2, Value.int p2)] [] M (f_X11_placeOf p1 p2 M) := by
  show Sm Z G emI _ _ _ _ _ _ (bd (f_X3_hasPlace 3 p1 M) (fun r1 M2 => if r1 = 0 then some (-1, M2) else tsw p2 0 3 (fun i_ => if i_ = 0 then rdI M2 5 8 p1 (fun v3 => some (v3, M2)) else if i_ = 1 then rdI M2 6 8 p1 (fun v4 => some (v4, M2)) else if i_ = 2 then rdI M2 8 8 p1 (fun v5 => some (v5, M2)) else some (-1, M2)) (some (-1, M2))))
  refine x_aload_n C (k_dg dt_X11_placeOf_0 0 0 (.aload_n 0) 1 rfl) 0 rfl ?_
  refine x_getR C (a := 0) (j := 1) 3 rfl rfl (by decide) fl_RX11_19 rfl rfl rfl (k_dg dt_X11_placeOf_0 1 1 (.getfield 19) 3 rfl) ?_
  refine x_getR C (a := 3) (j := 0) 4 rfl rfl (by decide) fl_RX11_75 rfl rfl rfl (k_dg dt_X11_placeOf_0 2 4 (.getfield 75) 3 rfl) ?_
  refine x_astore_n C (lv' := [(3, k_ra Z 4), (0, k_ra Z 0), (1, Value.int p1), (2, Value.int p2)]) (k_dg dt_X11_placeOf_0 3 7 (.astore_n 3) 1 rfl) (by decide) rfl ?_
  refine x_aload_n C (k_dg dt_X11_placeOf_0 4 8 (.aload_n 3) 1 rfl) 0 rfl ?_
  refine x_iload_n C (k_dg dt_X11_placeOf_0 5 9 (.iload_n 1) 1 rfl) 2 rfl ?_
  refine x_callV C (a := 4) (kd := 2) (vs := [Value.int p1]) (rest := []) rfl rfl (by decide) (fun r hr => by cases hr; rfl) (c_X3_hasPlace C.2.2.2.2.2.2.2.2.2 G.2.1 3 p1 M isW3) cy_X3_hasPlace lk_RX11_107 im_X3_hasPlace se_X3_hasPlace (by decide) (by decide) (by decide) (by decide) rfl rfl (Nat.le_of_ble_eq_true rfl) (k_dg dt_X11_placeOf_0 6 10 (.invokevirtual 107) 3 rfl) (fun r1 M2 => ?_)
  show Sm Z G _ _ _ _ [(3, k_ra Z 4), (0, k_ra Z 0), (1, Value.int p1), (2, Value.int p2)] [Value.int r1] _ _
  refine x_if_ne C (tgt := 18) (k_dg dt_X11_placeOf_0 7 13 (.ifCond .ne 5) 3 rfl) (by decide) (fun _ => ?_) (fun _ => ?_)
  · refine x_iconst C (v := -1) (k_dg dt_X11_placeOf_0 8 16 (.iconst (-1)) 1 rfl) (by decide) ?_
    exact x_iret C (by decide) (by decide) (k_dg dt_X11_placeOf_0 9 17 (.ireturn) 1 rfl)
  · refine x_iload_n C (k_dg dt_X11_placeOf_0 10 18 (.iload_n 2) 1 rfl) 3 rfl ?_
    refine x_tsw C (n := 3) (tgt := 65) (k_dg dt_X11_placeOf_0 11 19 (.tableswitch 46 0 2 #[25, 32, 39]) 25 rfl) (by decide) (by decide) (fun i_ => [44, 51, 58].getD i_ 0) (by decide) (fun i_ hi_ _ => ?_) ?_
    · match i_, hi_ with
      | 0, _ =>
        show Sm Z G emI _ _ 44 _ _ _ (rdI M2 5 8 p1 (fun v3 => some (v3, M2)))
        refine x_aload_n C (k_dg dt_X11_placeOf_0 12 44 (.aload_n 3) 1 rfl) 0 rfl ?_
        refine x_getR C (a := 4) (j := 1) 5 rfl rfl (by decide) fl_RX11_120 rfl rfl rfl (k_dg dt_X11_placeOf_0 13 45 (.getfield 120) 3 rfl) ?_
        refine x_iload_n C (k_dg dt_X11_placeOf_0 14 48 (.iload_n 1) 1 rfl) 2 rfl ?_
        refine x_iald C (a := 5) (n := 8) rfl rfl (k_dg dt_X11_placeOf_0 15 49 (.iaload) 1 rfl) (fun v3 => ?_)
        exact x_iret C (by decide) (by decide) (k_dg dt_X11_placeOf_0 16 50 (.ireturn) 1 rfl)
      | 1, _ =>
        show Sm Z G emI _ _ 51 _ _ _ (rdI M2 6 8 p1 (fun v4 => some (v4, M2)))
        refine x_aload_n C (k_dg dt_X11_placeOf_0 17 51 (.aload_n 3) 1 rfl) 0 rfl ?_
        refine x_getR C (a := 4) (j := 2) 6 rfl rfl (by decide) fl_RX11_123 rfl rfl rfl (k_dg dt_X11_placeOf_0 18 52 (.getfield 123) 3 rfl) ?_
        refine x_iload_n C (k_dg dt_X11_placeOf_0 19 55 (.iload_n 1) 1 rfl) 2 rfl ?_
        refine x_iald C (a := 6) (n := 8) rfl rfl (k_dg dt_X11_placeOf_0 20 56 (.iaload) 1 rfl) (fun v4 => ?_)
        exact x_iret C (by decide) (by decide) (k_dg dt_X11_placeOf_0 21 57 (.ireturn) 1 rfl)
      | 2, _ =>
        show Sm Z G emI _ _ 58 _ _ _ (rdI M2 8 8 p1 (fun v5 => some (v5, M2)))
        refine x_aload_n C (k_dg dt_X11_placeOf_0 22 58 (.aload_n 3) 1 rfl) 0 rfl ?_
        refine x_getR C (a := 4) (j := 4) 8 rfl rfl (by decide) fl_RX11_126 rfl rfl rfl (k_dg dt_X11_placeOf_0 23 59 (.getfield 126) 3 rfl) ?_
        refine x_iload_n C (k_dg dt_X11_placeOf_0 24 62 (.iload_n 1) 1 rfl) 2 rfl ?_
        refine x_iald C (a := 8) (n := 8) rfl rfl (k_dg dt_X11_placeOf_0 25 63 (.iaload) 1 rfl) (fun v5 => ?_)
        exact x_iret C (by decide) (by decide) (k_dg dt_X11_placeOf_0 26 64 (.ireturn) 1 rfl)
      | k + 3, h => exact absurd h (by omega)
    · refine x_iconst C (v := -1) (k_dg dt_X11_placeOf_0 27 65 (.iconst (-1)) 1 rfl) (by decide) ?_
      exact x_iret C (by decide) (by decide) (k_dg dt_X11_placeOf_0 28 66 (.ireturn) 1 rfl)
theorem c_X11_placeOf {Z : k_Z} (hg : k_Gd Z) (l : Launch) (p1 : Int32) (p2 : Int32) (M : k_M) : Con true Z l yX11_placeOf cX11_placeOf 4 (some .int) 2 0 0 emI [k_ra Z 0, Value.int p1, Value.int p2] M (f_X11_placeOf p1 p2 M) := k_con hg (by decide) (Nat.le_of_ble_eq_true rfl) (fun G hl C => m_X11_placeOf_0 C p1 p2 M)
theorem dt_X11_wayOf_0 : k_dec cX11_wayOf [(0, .aload_n 0, 1), (1, .getfield 19, 3), (4, .getfield 75, 3), (7, .astore_n 3, 1), (8, .aload_n 3, 1), (9, .iload_n 1, 1), (10, .invokevirtual 129, 3), (13, .ifCond .ne 5, 3), (16, .iconst (-1), 1), (17, .ireturn, 1), (18, .iload_n 2, 1), (19, .tableswitch 86 0 4 #[33, 49, 65, 72, 79], 33), (52, .aload_n 3, 1), (53, .getfield 132, 3), (56, .iload_n 1, 1), (57, .iaload, 1), (58, .aload_n 3, 1), (59, .getfield 135, 3), (62, .iload_n 1, 1), (63, .iaload, 1), (64, .invokestatic 138, 3), (67, .ireturn, 1), (68, .aload_n 3, 1), (69, .getfield 132, 3), (72, .iload_n 1, 1), (73, .iaload, 1), (74, .aload_n 3, 1), (75, .getfield 135, 3), (78, .iload_n 1, 1), (79, .iaload, 1), (80, .invokestatic 144, 3), (83, .ireturn, 1), (84, .aload_n 3, 1), (85, .getfield 147, 3), (88, .iload_n 1, 1), (89, .iaload, 1), (90, .ireturn, 1), (91, .aload_n 3, 1), (92, .getfield 150, 3), (95, .iload_n 1, 1)] = true := by decide +kernel
theorem dt_X11_wayOf_1 : k_dec cX11_wayOf [(96, .iaload, 1), (97, .ireturn, 1), (98, .aload_n 3, 1), (99, .getfield 153, 3), (102, .iload_n 1, 1), (103, .iaload, 1), (104, .ireturn, 1), (105, .iconst (-1), 1), (106, .ireturn, 1)] = true := by decide +kernel
def f_X11_wayOf (p1 : Int32) (p2 : Int32) (M : k_M) : Option (Int32 × k_M) := bd (f_X3_hasWay 3 p1 M) (fun r1 M2 => if r1 = 0 then some (-1, M2) else tsw p2 0 5 (fun i_ => if i_ = 0 then rdI M2 11 12 p1 (fun v3 => rdI M2 12 12 p1 (fun v4 => some (mnI v3 v4, M2))) else if i_ = 1 then rdI M2 11 12 p1 (fun v5 => rdI M2 12 12 p1 (fun v6 => some (mxI v5 v6, M2))) else if i_ = 2 then rdI M2 13 12 p1 (fun v7 => some (v7, M2)) else if i_ = 3 then rdI M2 15 12 p1 (fun v8 => some (v8, M2)) else if i_ = 4 then rdI M2 16 12 p1 (fun v9 => some (v9, M2)) else some (-1, M2)) (some (-1, M2)))
theorem m_X11_wayOf_0 {Z : k_Z} {G : k_G} (C : k_C Z G RX11 cX11_wayOf (true, 4, 2, 0, 0) (some .int) "wayOf") (p1 : Int32) (p2 : Int32) (M : k_M) : Sm Z G emI (true, 4, 2, 0, 0) (0, 0) 0 [(0, k_ra Z 0), (1, Value.int p1), (2, Value.int p2)] [] M (f_X11_wayOf p1 p2 M) := by
  show Sm Z G emI _ _ _ _ _ _ (bd (f_X3_hasWay 3 p1 M) (fun r1 M2 => if r1 = 0 then some (-1, M2) else tsw p2 0 5 (fun i_ => if i_ = 0 then rdI M2 11 12 p1 (fun v3 => rdI M2 12 12 p1 (fun v4 => some (mnI v3 v4, M2))) else if i_ = 1 then rdI M2 11 12 p1 (fun v5 => rdI M2 12 12 p1 (fun v6 => some (mxI v5 v6, M2))) else if i_ = 2 then rdI M2 13 12 p1 (fun v7 => some (v7, M2)) else if i_ = 3 then rdI M2 15 12 p1 (fun v8 => some (v8, M2)) else if i_ = 4 then rdI M2 16 12 p1 (fun v9 => some (v9, M2)) else some (-1, M2)) (some (-1, M2))))
  refine x_aload_n C (k_dg dt_X11_wayOf_0 0 0 (.aload_n 0) 1 rfl) 0 rfl ?_
  refine x_getR C (a := 0) (j := 1) 3 rfl rfl (by decide) fl_RX11_19 rfl rfl rfl (k_dg dt_X11_wayOf_0 1 1 (.getfield 19) 3 rfl) ?_
  refine x_getR C (a := 3) (j := 0) 4 rfl rfl (by decide) fl_RX11_75 rfl rfl rfl (k_dg dt_X11_wayOf_0 2 4 (.getfield 75) 3 rfl) ?_
  refine x_astore_n C (lv' := [(3, k_ra Z 4), (0, k_ra Z 0), (1, Value.int p1), (2, Value.int p2)]) (k_dg dt_X11_wayOf_0 3 7 (.astore_n 3) 1 rfl) (by decide) rfl ?_
  refine x_aload_n C (k_dg dt_X11_wayOf_0 4 8 (.aload_n 3) 1 rfl) 0 rfl ?_
  refine x_iload_n C (k_dg dt_X11_wayOf_0 5 9 (.iload_n 1) 1 rfl) 2 rfl ?_
  refine x_callV C (a := 4) (kd := 2) (vs := [Value.int p1]) (rest := []) rfl rfl (by decide) (fun r hr => by cases hr; rfl) (c_X3_hasWay C.2.2.2.2.2.2.2.2.2 G.2.1 3 p1 M isW3) cy_X3_hasWay lk_RX11_129 im_X3_hasWay se_X3_hasWay (by decide) (by decide) (by decide) (by decide) rfl rfl (Nat.le_of_ble_eq_true rfl) (k_dg dt_X11_wayOf_0 6 10 (.invokevirtual 129) 3 rfl) (fun r1 M2 => ?_)
  show Sm Z G _ _ _ _ [(3, k_ra Z 4), (0, k_ra Z 0), (1, Value.int p1), (2, Value.int p2)] [Value.int r1] _ _
  refine x_if_ne C (tgt := 18) (k_dg dt_X11_wayOf_0 7 13 (.ifCond .ne 5) 3 rfl) (by decide) (fun _ => ?_) (fun _ => ?_)
  · refine x_iconst C (v := -1) (k_dg dt_X11_wayOf_0 8 16 (.iconst (-1)) 1 rfl) (by decide) ?_
    exact x_iret C (by decide) (by decide) (k_dg dt_X11_wayOf_0 9 17 (.ireturn) 1 rfl)
  · refine x_iload_n C (k_dg dt_X11_wayOf_0 10 18 (.iload_n 2) 1 rfl) 3 rfl ?_
    refine x_tsw C (n := 5) (tgt := 105) (k_dg dt_X11_wayOf_0 11 19 (.tableswitch 86 0 4 #[33, 49, 65, 72, 79]) 33 rfl) (by decide) (by decide) (fun i_ => [52, 68, 84, 91, 98].getD i_ 0) (by decide) (fun i_ hi_ _ => ?_) ?_
    · match i_, hi_ with
      | 0, _ =>
        show Sm Z G emI _ _ 52 _ _ _ (rdI M2 11 12 p1 (fun v3 => rdI M2 12 12 p1 (fun v4 => some (mnI v3 v4, M2))))
        refine x_aload_n C (k_dg dt_X11_wayOf_0 12 52 (.aload_n 3) 1 rfl) 0 rfl ?_
        refine x_getR C (a := 4) (j := 8) 11 rfl rfl (by decide) fl_RX11_132 rfl rfl rfl (k_dg dt_X11_wayOf_0 13 53 (.getfield 132) 3 rfl) ?_
        refine x_iload_n C (k_dg dt_X11_wayOf_0 14 56 (.iload_n 1) 1 rfl) 2 rfl ?_
        refine x_iald C (a := 11) (n := 12) rfl rfl (k_dg dt_X11_wayOf_0 15 57 (.iaload) 1 rfl) (fun v3 => ?_)
        refine x_aload_n C (k_dg dt_X11_wayOf_0 16 58 (.aload_n 3) 1 rfl) 0 rfl ?_
        refine x_getR C (a := 4) (j := 9) 12 rfl rfl (by decide) fl_RX11_135 rfl rfl rfl (k_dg dt_X11_wayOf_0 17 59 (.getfield 135) 3 rfl) ?_
        refine x_iload_n C (k_dg dt_X11_wayOf_0 18 62 (.iload_n 1) 1 rfl) 2 rfl ?_
        refine x_iald C (a := 12) (n := 12) rfl rfl (k_dg dt_X11_wayOf_0 19 63 (.iaload) 1 rfl) (fun v4 => ?_)
        refine x_min C ml_RX11_138 (by decide) (Nat.le_of_ble_eq_true rfl) (by decide) (by decide) (k_dg dt_X11_wayOf_0 20 64 (.invokestatic 138) 3 rfl) ?_
        exact x_iret C (by decide) (by decide) (k_dg dt_X11_wayOf_0 21 67 (.ireturn) 1 rfl)
      | 1, _ =>
        show Sm Z G emI _ _ 68 _ _ _ (rdI M2 11 12 p1 (fun v5 => rdI M2 12 12 p1 (fun v6 => some (mxI v5 v6, M2))))
        refine x_aload_n C (k_dg dt_X11_wayOf_0 22 68 (.aload_n 3) 1 rfl) 0 rfl ?_
        refine x_getR C (a := 4) (j := 8) 11 rfl rfl (by decide) fl_RX11_132 rfl rfl rfl (k_dg dt_X11_wayOf_0 23 69 (.getfield 132) 3 rfl) ?_
        refine x_iload_n C (k_dg dt_X11_wayOf_0 24 72 (.iload_n 1) 1 rfl) 2 rfl ?_
        refine x_iald C (a := 11) (n := 12) rfl rfl (k_dg dt_X11_wayOf_0 25 73 (.iaload) 1 rfl) (fun v5 => ?_)
        refine x_aload_n C (k_dg dt_X11_wayOf_0 26 74 (.aload_n 3) 1 rfl) 0 rfl ?_
        refine x_getR C (a := 4) (j := 9) 12 rfl rfl (by decide) fl_RX11_135 rfl rfl rfl (k_dg dt_X11_wayOf_0 27 75 (.getfield 135) 3 rfl) ?_
        refine x_iload_n C (k_dg dt_X11_wayOf_0 28 78 (.iload_n 1) 1 rfl) 2 rfl ?_
        refine x_iald C (a := 12) (n := 12) rfl rfl (k_dg dt_X11_wayOf_0 29 79 (.iaload) 1 rfl) (fun v6 => ?_)
        refine x_max C ml_RX11_144 (by decide) (Nat.le_of_ble_eq_true rfl) (by decide) (by decide) (k_dg dt_X11_wayOf_0 30 80 (.invokestatic 144) 3 rfl) ?_
        exact x_iret C (by decide) (by decide) (k_dg dt_X11_wayOf_0 31 83 (.ireturn) 1 rfl)
      | 2, _ =>
        show Sm Z G emI _ _ 84 _ _ _ (rdI M2 13 12 p1 (fun v7 => some (v7, M2)))
        refine x_aload_n C (k_dg dt_X11_wayOf_0 32 84 (.aload_n 3) 1 rfl) 0 rfl ?_
        refine x_getR C (a := 4) (j := 10) 13 rfl rfl (by decide) fl_RX11_147 rfl rfl rfl (k_dg dt_X11_wayOf_0 33 85 (.getfield 147) 3 rfl) ?_
        refine x_iload_n C (k_dg dt_X11_wayOf_0 34 88 (.iload_n 1) 1 rfl) 2 rfl ?_
        refine x_iald C (a := 13) (n := 12) rfl rfl (k_dg dt_X11_wayOf_0 35 89 (.iaload) 1 rfl) (fun v7 => ?_)
        exact x_iret C (by decide) (by decide) (k_dg dt_X11_wayOf_0 36 90 (.ireturn) 1 rfl)
      | 3, _ =>
        show Sm Z G emI _ _ 91 _ _ _ (rdI M2 15 12 p1 (fun v8 => some (v8, M2)))
        refine x_aload_n C (k_dg dt_X11_wayOf_0 37 91 (.aload_n 3) 1 rfl) 0 rfl ?_
        refine x_getR C (a := 4) (j := 12) 15 rfl rfl (by decide) fl_RX11_150 rfl rfl rfl (k_dg dt_X11_wayOf_0 38 92 (.getfield 150) 3 rfl) ?_
        refine x_iload_n C (k_dg dt_X11_wayOf_0 39 95 (.iload_n 1) 1 rfl) 2 rfl ?_
        refine x_iald C (a := 15) (n := 12) rfl rfl (k_dg dt_X11_wayOf_1 0 96 (.iaload) 1 rfl) (fun v8 => ?_)
        exact x_iret C (by decide) (by decide) (k_dg dt_X11_wayOf_1 1 97 (.ireturn) 1 rfl)
      | 4, _ =>
        show Sm Z G emI _ _ 98 _ _ _ (rdI M2 16 12 p1 (fun v9 => some (v9, M2)))
        refine x_aload_n C (k_dg dt_X11_wayOf_1 2 98 (.aload_n 3) 1 rfl) 0 rfl ?_
        refine x_getR C (a := 4) (j := 13) 16 rfl rfl (by decide) fl_RX11_153 rfl rfl rfl (k_dg dt_X11_wayOf_1 3 99 (.getfield 153) 3 rfl) ?_
        refine x_iload_n C (k_dg dt_X11_wayOf_1 4 102 (.iload_n 1) 1 rfl) 2 rfl ?_
        refine x_iald C (a := 16) (n := 12) rfl rfl (k_dg dt_X11_wayOf_1 5 103 (.iaload) 1 rfl) (fun v9 => ?_)
        exact x_iret C (by decide) (by decide) (k_dg dt_X11_wayOf_1 6 104 (.ireturn) 1 rfl)
      | k + 5, h => exact absurd h (by omega)
    · refine x_iconst C (v := -1) (k_dg dt_X11_wayOf_1 7 105 (.iconst (-1)) 1 rfl) (by decide) ?_
      exact x_iret C (by decide) (by decide) (k_dg dt_X11_wayOf_1 8 106 (.ireturn) 1 rfl)
theorem c_X11_wayOf {Z : k_Z} (hg : k_Gd Z) (l : Launch) (p1 : Int32) (p2 : Int32) (M : k_M) : Con true Z l yX11_wayOf cX11_wayOf 4 (some .int) 2 0 0 emI [k_ra Z 0, Value.int p1, Value.int p2] M (f_X11_wayOf p1 p2 M) := k_con hg (by decide) (Nat.le_of_ble_eq_true rfl) (fun G hl C => m_X11_wayOf_0 C p1 p2 M)
theorem dt_X11_set_0 : k_dec cX11_set [(0, .iload_n 1, 1), (1, .ifCond .lt 24, 3), (4, .iload_n 1, 1), (5, .getstatic 156, 3), (8, .arraylength, 1), (9, .if_icmp .ge 16, 3), (12, .iload_n 2, 1), (13, .iconst 0, 1), (14, .getstatic 156, 3), (17, .iload_n 1, 1), (18, .iaload, 1), (19, .invokestatic 95, 3), (22, .ifCond .ne 5, 3), (25, .iconst (-1), 1), (26, .ireturn, 1), (27, .aload_n 0, 1), (28, .getfield 19, 3), (31, .getfield 159, 3), (34, .iload_n 1, 1), (35, .iaload, 1), (36, .istore_n 3, 1), (37, .aload_n 0, 1), (38, .getfield 19, 3), (41, .getfield 159, 3), (44, .iload_n 1, 1), (45, .iload_n 2, 1), (46, .iastore, 1), (47, .iload_n 3, 1), (48, .ireturn, 1)] = true := by decide +kernel
def f_X11_set (p1 : Int32) (p2 : Int32) (M : k_M) : Option (Int32 × k_M) := if p1 < 0 then some (-1, M) else if 13 ≤ p1 then some (-1, M) else rdT 0 p1 (fun v1 => bd (f_X11_within p2 0 v1 M) (fun r2 M3 => if r2 = 0 then some (-1, M3) else rdI M3 19 13 p1 (fun v4 => wrI M3 19 13 p1 p2 (fun M5 => some (v4, M5)))))
theorem m_X11_set_0 {Z : k_Z} {G : k_G} (C : k_C Z G RX11 cX11_set (true, 4, 2, 0, 0) (some .int) "set") (p1 : Int32) (p2 : Int32) (M : k_M) : Sm Z G emI (true, 4, 2, 0, 0) (0, 0) 0 [(0, k_ra Z 0), (1, Value.int p1), (2, Value.int p2)] [] M (f_X11_set p1 p2 M) := by
  show Sm Z G emI _ _ _ _ _ _ (if p1 < 0 then some (-1, M) else if 13 ≤ p1 then some (-1, M) else rdT 0 p1 (fun v1 => bd (f_X11_within p2 0 v1 M) (fun r2 M3 => if r2 = 0 then some (-1, M3) else rdI M3 19 13 p1 (fun v4 => wrI M3 19 13 p1 p2 (fun M5 => some (v4, M5))))))
  refine x_iload_n C (k_dg dt_X11_set_0 0 0 (.iload_n 1) 1 rfl) 1 rfl ?_
  refine x_if_lt C (tgt := 25) (k_dg dt_X11_set_0 1 1 (.ifCond .lt 24) 3 rfl) (by decide) (fun _ => ?_) (fun _ => ?_)
  · refine x_iconst C (v := -1) (k_dg dt_X11_set_0 13 25 (.iconst (-1)) 1 rfl) (by decide) ?_
    exact x_iret C (by decide) (by decide) (k_dg dt_X11_set_0 14 26 (.ireturn) 1 rfl)
  · refine x_iload_n C (k_dg dt_X11_set_0 2 4 (.iload_n 1) 1 rfl) 1 rfl ?_
    refine x_gets C (t := 0) (by decide) gs_RX11_156 (k_dg dt_X11_set_0 3 5 (.getstatic 156) 3 rfl) ?_
    refine x_tlen C (t := 0) (v := 13) (by decide) (by decide) (k_dg dt_X11_set_0 4 8 (.arraylength) 1 rfl) ?_
    refine x_icmp_ge C (tgt := 25) (k_dg dt_X11_set_0 5 9 (.if_icmp .ge 16) 3 rfl) (by decide) (fun _ => ?_) (fun _ => ?_)
    · refine x_iconst C (v := -1) (k_dg dt_X11_set_0 13 25 (.iconst (-1)) 1 rfl) (by decide) ?_
      exact x_iret C (by decide) (by decide) (k_dg dt_X11_set_0 14 26 (.ireturn) 1 rfl)
    · refine x_iload_n C (k_dg dt_X11_set_0 6 12 (.iload_n 2) 1 rfl) 2 rfl ?_
      refine x_iconst C (v := 0) (k_dg dt_X11_set_0 7 13 (.iconst 0) 1 rfl) (by decide) ?_
      refine x_gets C (t := 0) (by decide) gs_RX11_156 (k_dg dt_X11_set_0 8 14 (.getstatic 156) 3 rfl) ?_
      refine x_iload_n C (k_dg dt_X11_set_0 9 17 (.iload_n 1) 1 rfl) 1 rfl ?_
      refine x_tald C (t := 0) (by decide) (k_dg dt_X11_set_0 10 18 (.iaload) 1 rfl) (fun v1 => ?_)
      refine x_callS C (vs := [Value.int p2, Value.int 0, Value.int v1]) (rest := []) (c_X11_within C.2.2.2.2.2.2.2.2.2 G.2.1 p2 0 v1 M) cy_X11_within lk_RX11_95 stt_X11_within (by decide) (by decide) (by decide) (by decide) rfl rfl (Nat.le_of_ble_eq_true rfl) (k_dg dt_X11_set_0 11 19 (.invokestatic 95) 3 rfl) (fun r2 M3 => ?_)
      show Sm Z G _ _ _ _ [(0, k_ra Z 0), (1, Value.int p1), (2, Value.int p2)] [Value.int r2] _ _
      refine x_if_ne C (tgt := 27) (k_dg dt_X11_set_0 12 22 (.ifCond .ne 5) 3 rfl) (by decide) (fun _ => ?_) (fun _ => ?_)
      · refine x_iconst C (v := -1) (k_dg dt_X11_set_0 13 25 (.iconst (-1)) 1 rfl) (by decide) ?_
        exact x_iret C (by decide) (by decide) (k_dg dt_X11_set_0 14 26 (.ireturn) 1 rfl)
      · refine x_aload_n C (k_dg dt_X11_set_0 15 27 (.aload_n 0) 1 rfl) 0 rfl ?_
        refine x_getR C (a := 0) (j := 1) 3 rfl rfl (by decide) fl_RX11_19 rfl rfl rfl (k_dg dt_X11_set_0 16 28 (.getfield 19) 3 rfl) ?_
        refine x_getR C (a := 3) (j := 1) 19 rfl rfl (by decide) fl_RX11_159 rfl rfl rfl (k_dg dt_X11_set_0 17 31 (.getfield 159) 3 rfl) ?_
        refine x_iload_n C (k_dg dt_X11_set_0 18 34 (.iload_n 1) 1 rfl) 1 rfl ?_
        refine x_iald C (a := 19) (n := 13) rfl rfl (k_dg dt_X11_set_0 19 35 (.iaload) 1 rfl) (fun v4 => ?_)
        refine x_istore_n C (lv' := [(3, Value.int v4), (0, k_ra Z 0), (1, Value.int p1), (2, Value.int p2)]) (k_dg dt_X11_set_0 20 36 (.istore_n 3) 1 rfl) (by decide) rfl ?_
        refine x_aload_n C (k_dg dt_X11_set_0 21 37 (.aload_n 0) 1 rfl) 1 rfl ?_
        refine x_getR C (a := 0) (j := 1) 3 rfl rfl (by decide) fl_RX11_19 rfl rfl rfl (k_dg dt_X11_set_0 22 38 (.getfield 19) 3 rfl) ?_
        refine x_getR C (a := 3) (j := 1) 19 rfl rfl (by decide) fl_RX11_159 rfl rfl rfl (k_dg dt_X11_set_0 23 41 (.getfield 159) 3 rfl) ?_
        refine x_iload_n C (k_dg dt_X11_set_0 24 44 (.iload_n 1) 1 rfl) 2 rfl ?_
        refine x_iload_n C (k_dg dt_X11_set_0 25 45 (.iload_n 2) 1 rfl) 3 rfl ?_
        refine x_iast C (a := 19) (n := 13) rfl rfl (k_dg dt_X11_set_0 26 46 (.iastore) 1 rfl) (fun M5 => ?_)
        refine x_iload_n C (k_dg dt_X11_set_0 27 47 (.iload_n 3) 1 rfl) 0 rfl ?_
        exact x_iret C (by decide) (by decide) (k_dg dt_X11_set_0 28 48 (.ireturn) 1 rfl)
theorem c_X11_set {Z : k_Z} (hg : k_Gd Z) (l : Launch) (p1 : Int32) (p2 : Int32) (M : k_M) : Con true Z l yX11_set cX11_set 4 (some .int) 2 0 0 emI [k_ra Z 0, Value.int p1, Value.int p2] M (f_X11_set p1 p2 M) := k_con hg (by decide) (Nat.le_of_ble_eq_true rfl) (fun G hl C => m_X11_set_0 C p1 p2 M)
theorem dt_X11_rain_0 : k_dec cX11_rain [(0, .aload_n 0, 1), (1, .getfield 19, 3), (4, .getfield 162, 3), (7, .istore_n 2, 1), (8, .aload_n 0, 1), (9, .getfield 19, 3), (12, .iload_n 1, 1), (13, .putfield 162, 3), (16, .iload_n 2, 1), (17, .ireturn, 1)] = true := by decide +kernel
def f_X11_rain (p1 : Int32) (M : k_M) : Option (Int32 × k_M) := bN (M.1 3 2) (fun v1 => bN (sI M 3 2 p1) (fun M2 => some (v1, M2)))
theorem m_X11_rain_0 {Z : k_Z} {G : k_G} (C : k_C Z G RX11 cX11_rain (true, 3, 1, 0, 0) (some .int) "rain") (p1 : Int32) (M : k_M) : Sm Z G emI (true, 3, 1, 0, 0) (0, 0) 0 [(0, k_ra Z 0), (1, Value.int p1)] [] M (f_X11_rain p1 M) := by
  show Sm Z G emI _ _ _ _ _ _ (bN (M.1 3 2) (fun v1 => bN (sI M 3 2 p1) (fun M2 => some (v1, M2))))
  refine x_aload_n C (k_dg dt_X11_rain_0 0 0 (.aload_n 0) 1 rfl) 0 rfl ?_
  refine x_getR C (a := 0) (j := 1) 3 rfl rfl (by decide) fl_RX11_19 rfl rfl rfl (k_dg dt_X11_rain_0 1 1 (.getfield 19) 3 rfl) ?_
  refine x_getI C (a := 3) (j := 2) rfl rfl (by decide) fl_RX11_162 rfl (k_dg dt_X11_rain_0 2 4 (.getfield 162) 3 rfl) ?_
  refine x_nm (w := Value.int) (fun v1 _ => ?_)
  refine x_istore_n C (lv' := [(2, Value.int v1), (0, k_ra Z 0), (1, Value.int p1)]) (k_dg dt_X11_rain_0 3 7 (.istore_n 2) 1 rfl) (by decide) rfl ?_
  refine x_aload_n C (k_dg dt_X11_rain_0 4 8 (.aload_n 0) 1 rfl) 1 rfl ?_
  refine x_getR C (a := 0) (j := 1) 3 rfl rfl (by decide) fl_RX11_19 rfl rfl rfl (k_dg dt_X11_rain_0 5 9 (.getfield 19) 3 rfl) ?_
  refine x_iload_n C (k_dg dt_X11_rain_0 6 12 (.iload_n 1) 1 rfl) 2 rfl ?_
  refine x_putI C (a := 3) (j := 2) rfl rfl (by decide) fl_RX11_162 rfl pt_8_2 tb_8 rfl rfl (k_dg dt_X11_rain_0 7 13 (.putfield 162) 3 rfl) (fun M2 => ?_)
  refine x_iload_n C (k_dg dt_X11_rain_0 8 16 (.iload_n 2) 1 rfl) 0 rfl ?_
  exact x_iret C (by decide) (by decide) (k_dg dt_X11_rain_0 9 17 (.ireturn) 1 rfl)
theorem c_X11_rain {Z : k_Z} (hg : k_Gd Z) (l : Launch) (p1 : Int32) (M : k_M) : Con true Z l yX11_rain cX11_rain 3 (some .int) 1 0 0 emI [k_ra Z 0, Value.int p1] M (f_X11_rain p1 M) := k_con hg (by decide) (Nat.le_of_ble_eq_true rfl) (fun G hl C => m_X11_rain_0 C p1 M)
theorem dt_X11_city_0 : k_dec cX11_city [(0, .aload_n 0, 1), (1, .getfield 19, 3), (4, .getfield 75, 3), (7, .iload_n 1, 1), (8, .invokevirtual 107, 3), (11, .ifCond .ne 5, 3), (14, .iconst (-1), 1), (15, .ireturn, 1), (16, .iload_n 2, 1), (17, .iconst 0, 1), (18, .bipush 20, 2), (20, .invokestatic 95, 3), (23, .ifCond .eq 24, 3), (26, .iload_n 3, 1), (27, .iconst 0, 1), (28, .bipush 20, 2), (30, .invokestatic 95, 3), (33, .ifCond .eq 14, 3), (36, .iload 4, 2), (38, .iconst 0, 1), (39, .bipush 20, 2), (41, .invokestatic 95, 3), (44, .ifCond .ne 5, 3), (47, .iconst (-1), 1), (48, .ireturn, 1), (49, .aload_n 0, 1), (50, .getfield 19, 3), (53, .iload_n 1, 1), (54, .iload_n 2, 1), (55, .iload_n 3, 1), (56, .iload 4, 2), (58, .invokevirtual 165, 3), (61, .iconst 1, 1), (62, .ireturn, 1)] = true := by decide +kernel
def f_X11_city (p1 : Int32) (p2 : Int32) (p3 : Int32) (p4 : Int32) (M : k_M) : Option (Int32 × k_M) := bd (f_X3_hasPlace 3 p1 M) (fun r1 M2 => if r1 = 0 then some (-1, M2) else bd (f_X11_within p2 0 20 M2) (fun r3 M4 => if r3 = 0 then some (-1, M4) else bd (f_X11_within p3 0 20 M4) (fun r5 M6 => if r5 = 0 then some (-1, M6) else bd (f_X11_within p4 0 20 M6) (fun r7 M8 => if r7 = 0 then some (-1, M8) else bd (f_X10_settle 3 p1 p2 p3 p4 M8) (fun r9 M10 => some (1, M10))))))
theorem m_X11_city_0 {Z : k_Z} {G : k_G} (C : k_C Z G RX11 cX11_city (true, 5, 4, 0, 0) (some .int) "city") (p1 : Int32) (p2 : Int32) (p3 : Int32) (p4 : Int32) (M : k_M) : Sm Z G emI (true, 5, 4, 0, 0) (0, 0) 0 [(0, k_ra Z 0), (1, Value.int p1), (2, Value.int p2), (3, Value.int p3), (4, Value.int p4)] [] M (f_X11_city p1 p2 p3 p4 M) := by
  show Sm Z G emI _ _ _ _ _ _ (bd (f_X3_hasPlace 3 p1 M) (fun r1 M2 => if r1 = 0 then some (-1, M2) else bd (f_X11_within p2 0 20 M2) (fun r3 M4 => if r3 = 0 then some (-1, M4) else bd (f_X11_within p3 0 20 M4) (fun r5 M6 => if r5 = 0 then some (-1, M6) else bd (f_X11_within p4 0 20 M6) (fun r7 M8 => if r7 = 0 then some (-1, M8) else bd (f_X10_settle 3 p1 p2 p3 p4 M8) (fun r9 M10 => some (1, M10)))))))
  refine x_aload_n C (k_dg dt_X11_city_0 0 0 (.aload_n 0) 1 rfl) 0 rfl ?_
  refine x_getR C (a := 0) (j := 1) 3 rfl rfl (by decide) fl_RX11_19 rfl rfl rfl (k_dg dt_X11_city_0 1 1 (.getfield 19) 3 rfl) ?_
  refine x_getR C (a := 3) (j := 0) 4 rfl rfl (by decide) fl_RX11_75 rfl rfl rfl (k_dg dt_X11_city_0 2 4 (.getfield 75) 3 rfl) ?_
  refine x_iload_n C (k_dg dt_X11_city_0 3 7 (.iload_n 1) 1 rfl) 1 rfl ?_
  refine x_callV C (a := 4) (kd := 2) (vs := [Value.int p1]) (rest := []) rfl rfl (by decide) (fun r hr => by cases hr; rfl) (c_X3_hasPlace C.2.2.2.2.2.2.2.2.2 G.2.1 3 p1 M isW3) cy_X3_hasPlace lk_RX11_107 im_X3_hasPlace se_X3_hasPlace (by decide) (by decide) (by decide) (by decide) rfl rfl (Nat.le_of_ble_eq_true rfl) (k_dg dt_X11_city_0 4 8 (.invokevirtual 107) 3 rfl) (fun r1 M2 => ?_)
  show Sm Z G _ _ _ _ [(0, k_ra Z 0), (1, Value.int p1), (2, Value.int p2), (3, Value.int p3), (4, Value.int p4)] [Value.int r1] _ _
  refine x_if_ne C (tgt := 16) (k_dg dt_X11_city_0 5 11 (.ifCond .ne 5) 3 rfl) (by decide) (fun _ => ?_) (fun _ => ?_)
  · refine x_iconst C (v := -1) (k_dg dt_X11_city_0 6 14 (.iconst (-1)) 1 rfl) (by decide) ?_
    exact x_iret C (by decide) (by decide) (k_dg dt_X11_city_0 7 15 (.ireturn) 1 rfl)
  · refine x_iload_n C (k_dg dt_X11_city_0 8 16 (.iload_n 2) 1 rfl) 2 rfl ?_
    refine x_iconst C (v := 0) (k_dg dt_X11_city_0 9 17 (.iconst 0) 1 rfl) (by decide) ?_
    refine x_bipush C (v := 20) (k_dg dt_X11_city_0 10 18 (.bipush 20) 2 rfl) (by decide) ?_
    refine x_callS C (vs := [Value.int p2, Value.int 0, Value.int 20]) (rest := []) (c_X11_within C.2.2.2.2.2.2.2.2.2 G.2.1 p2 0 20 M2) cy_X11_within lk_RX11_95 stt_X11_within (by decide) (by decide) (by decide) (by decide) rfl rfl (Nat.le_of_ble_eq_true rfl) (k_dg dt_X11_city_0 11 20 (.invokestatic 95) 3 rfl) (fun r3 M4 => ?_)
    show Sm Z G _ _ _ _ [(0, k_ra Z 0), (1, Value.int p1), (2, Value.int p2), (3, Value.int p3), (4, Value.int p4)] [Value.int r3] _ _
    refine x_if_eq C (tgt := 47) (k_dg dt_X11_city_0 12 23 (.ifCond .eq 24) 3 rfl) (by decide) (fun _ => ?_) (fun _ => ?_)
    · refine x_iconst C (v := -1) (k_dg dt_X11_city_0 23 47 (.iconst (-1)) 1 rfl) (by decide) ?_
      exact x_iret C (by decide) (by decide) (k_dg dt_X11_city_0 24 48 (.ireturn) 1 rfl)
    · refine x_iload_n C (k_dg dt_X11_city_0 13 26 (.iload_n 3) 1 rfl) 3 rfl ?_
      refine x_iconst C (v := 0) (k_dg dt_X11_city_0 14 27 (.iconst 0) 1 rfl) (by decide) ?_
      refine x_bipush C (v := 20) (k_dg dt_X11_city_0 15 28 (.bipush 20) 2 rfl) (by decide) ?_
      refine x_callS C (vs := [Value.int p3, Value.int 0, Value.int 20]) (rest := []) (c_X11_within C.2.2.2.2.2.2.2.2.2 G.2.1 p3 0 20 M4) cy_X11_within lk_RX11_95 stt_X11_within (by decide) (by decide) (by decide) (by decide) rfl rfl (Nat.le_of_ble_eq_true rfl) (k_dg dt_X11_city_0 16 30 (.invokestatic 95) 3 rfl) (fun r5 M6 => ?_)
      show Sm Z G _ _ _ _ [(0, k_ra Z 0), (1, Value.int p1), (2, Value.int p2), (3, Value.int p3), (4, Value.int p4)] [Value.int r5] _ _
      refine x_if_eq C (tgt := 47) (k_dg dt_X11_city_0 17 33 (.ifCond .eq 14) 3 rfl) (by decide) (fun _ => ?_) (fun _ => ?_)
      · refine x_iconst C (v := -1) (k_dg dt_X11_city_0 23 47 (.iconst (-1)) 1 rfl) (by decide) ?_
        exact x_iret C (by decide) (by decide) (k_dg dt_X11_city_0 24 48 (.ireturn) 1 rfl)
      · refine x_iload C (k_dg dt_X11_city_0 18 36 (.iload 4) 2 rfl) 4 rfl ?_
        refine x_iconst C (v := 0) (k_dg dt_X11_city_0 19 38 (.iconst 0) 1 rfl) (by decide) ?_
        refine x_bipush C (v := 20) (k_dg dt_X11_city_0 20 39 (.bipush 20) 2 rfl) (by decide) ?_
        refine x_callS C (vs := [Value.int p4, Value.int 0, Value.int 20]) (rest := []) (c_X11_within C.2.2.2.2.2.2.2.2.2 G.2.1 p4 0 20 M6) cy_X11_within lk_RX11_95 stt_X11_within (by decide) (by decide) (by decide) (by decide) rfl rfl (Nat.le_of_ble_eq_true rfl) (k_dg dt_X11_city_0 21 41 (.invokestatic 95) 3 rfl) (fun r7 M8 => ?_)
        show Sm Z G _ _ _ _ [(0, k_ra Z 0), (1, Value.int p1), (2, Value.int p2), (3, Value.int p3), (4, Value.int p4)] [Value.int r7] _ _
        refine x_if_ne C (tgt := 49) (k_dg dt_X11_city_0 22 44 (.ifCond .ne 5) 3 rfl) (by decide) (fun _ => ?_) (fun _ => ?_)
        · refine x_iconst C (v := -1) (k_dg dt_X11_city_0 23 47 (.iconst (-1)) 1 rfl) (by decide) ?_
          exact x_iret C (by decide) (by decide) (k_dg dt_X11_city_0 24 48 (.ireturn) 1 rfl)
        · refine x_aload_n C (k_dg dt_X11_city_0 25 49 (.aload_n 0) 1 rfl) 0 rfl ?_
          refine x_getR C (a := 0) (j := 1) 3 rfl rfl (by decide) fl_RX11_19 rfl rfl rfl (k_dg dt_X11_city_0 26 50 (.getfield 19) 3 rfl) ?_
          refine x_iload_n C (k_dg dt_X11_city_0 27 53 (.iload_n 1) 1 rfl) 1 rfl ?_
          refine x_iload_n C (k_dg dt_X11_city_0 28 54 (.iload_n 2) 1 rfl) 2 rfl ?_
          refine x_iload_n C (k_dg dt_X11_city_0 29 55 (.iload_n 3) 1 rfl) 3 rfl ?_
          refine x_iload C (k_dg dt_X11_city_0 30 56 (.iload 4) 2 rfl) 4 rfl ?_
          refine x_callV C (a := 3) (kd := 8) (vs := [Value.int p1, Value.int p2, Value.int p3, Value.int p4]) (rest := []) rfl rfl (by decide) (fun r hr => by cases hr; rfl) (c_X10_settle C.2.2.2.2.2.2.2.2.2 G.2.1 3 p1 p2 p3 p4 M8 isW3) cy_X10_settle lk_RX11_165 im_X10_settle se_X10_settle (by decide) (by decide) (by decide) (by decide) rfl rfl (Nat.le_of_ble_eq_true rfl) (k_dg dt_X11_city_0 31 58 (.invokevirtual 165) 3 rfl) (fun r9 M10 => ?_)
          show Sm Z G _ _ _ _ [(0, k_ra Z 0), (1, Value.int p1), (2, Value.int p2), (3, Value.int p3), (4, Value.int p4)] [] _ _
          refine x_iconst C (v := 1) (k_dg dt_X11_city_0 32 61 (.iconst 1) 1 rfl) (by decide) ?_
          exact x_iret C (by decide) (by decide) (k_dg dt_X11_city_0 33 62 (.ireturn) 1 rfl)
theorem c_X11_city {Z : k_Z} (hg : k_Gd Z) (l : Launch) (p1 : Int32) (p2 : Int32) (p3 : Int32) (p4 : Int32) (M : k_M) : Con true Z l yX11_city cX11_city 5 (some .int) 4 0 0 emI [k_ra Z 0, Value.int p1, Value.int p2, Value.int p3, Value.int p4] M (f_X11_city p1 p2 p3 p4 M) := k_con hg (by decide) (Nat.le_of_ble_eq_true rfl) (fun G hl C => m_X11_city_0 C p1 p2 p3 p4 M)
theorem dt_X11_cityOf_0 : k_dec cX11_cityOf [(0, .iload_n 1, 1), (1, .iconst 0, 1), (2, .bipush 6, 2), (4, .invokestatic 95, 3), (7, .ifCond .ne 5, 3), (10, .iconst (-1), 1), (11, .ireturn, 1), (12, .aload_n 0, 1), (13, .getfield 19, 3), (16, .getfield 89, 3), (19, .ifCond .ne 6, 3), (22, .bipush (-4), 2), (24, .ireturn, 1), (25, .iload_n 1, 1), (26, .tableswitch 77 0 6 #[42, 50, 77, 77, 77, 58, 69], 42), (68, .aload_n 0, 1), (69, .getfield 19, 3), (72, .getfield 169, 3), (75, .ireturn, 1), (76, .aload_n 0, 1), (77, .getfield 19, 3), (80, .getfield 172, 3), (83, .ireturn, 1), (84, .aload_n 0, 1), (85, .getfield 19, 3), (88, .getfield 172, 3), (91, .invokestatic 175, 3), (94, .ireturn, 1), (95, .aload_n 0, 1), (96, .getfield 19, 3), (99, .invokevirtual 179, 3), (102, .ireturn, 1), (103, .aload_n 0, 1), (104, .getfield 19, 3), (107, .getfield 183, 3), (110, .iload_n 1, 1), (111, .iconst 2, 1), (112, .isub, 1), (113, .iaload, 1), (114, .ireturn, 1)] = true := by decide +kernel
def f_X11_cityOf (p1 : Int32) (M : k_M) : Option (Int32 × k_M) := bd (f_X11_within p1 0 6 M) (fun r1 M2 => if r1 = 0 then some (-1, M2) else if (M2.1 3 3) = 0 then some (-4, M2) else tsw p1 0 7 (fun i_ => if i_ = 0 then some (M2.1 3 4, M2) else if i_ = 1 then some (M2.1 3 5, M2) else if i_ = 2 then rdI M2 20 3 (p1 - 2) (fun v3 => some (v3, M2)) else if i_ = 3 then rdI M2 20 3 (p1 - 2) (fun v4 => some (v4, M2)) else if i_ = 4 then rdI M2 20 3 (p1 - 2) (fun v5 => some (v5, M2)) else if i_ = 5 then bd (f_X10_monthOf (M2.1 3 5) M2) (fun r6 M7 => some (r6, M7)) else if i_ = 6 then bd (f_X10_worth 3 M2) (fun r8 M9 => some (r8, M9)) else rdI M2 20 3 (p1 - 2) (fun v10 => some (v10, M2))) (rdI M2 20 3 (p1 - 2) (fun v10 => some (v10, M2))))
theorem m_X11_cityOf_0 {Z : k_Z} {G : k_G} (C : k_C Z G RX11 cX11_cityOf (true, 2, 2, 0, 0) (some .int) "cityOf") (p1 : Int32) (M : k_M) : Sm Z G emI (true, 2, 2, 0, 0) (0, 0) 0 [(0, k_ra Z 0), (1, Value.int p1)] [] M (f_X11_cityOf p1 M) := by
  show Sm Z G emI _ _ _ _ _ _ (bd (f_X11_within p1 0 6 M) (fun r1 M2 => if r1 = 0 then some (-1, M2) else if (M2.1 3 3) = 0 then some (-4, M2) else tsw p1 0 7 (fun i_ => if i_ = 0 then some (M2.1 3 4, M2) else if i_ = 1 then some (M2.1 3 5, M2) else if i_ = 2 then rdI M2 20 3 (p1 - 2) (fun v3 => some (v3, M2)) else if i_ = 3 then rdI M2 20 3 (p1 - 2) (fun v4 => some (v4, M2)) else if i_ = 4 then rdI M2 20 3 (p1 - 2) (fun v5 => some (v5, M2)) else if i_ = 5 then bd (f_X10_monthOf (M2.1 3 5) M2) (fun r6 M7 => some (r6, M7)) else if i_ = 6 then bd (f_X10_worth 3 M2) (fun r8 M9 => some (r8, M9)) else rdI M2 20 3 (p1 - 2) (fun v10 => some (v10, M2))) (rdI M2 20 3 (p1 - 2) (fun v10 => some (v10, M2)))))
  refine x_iload_n C (k_dg dt_X11_cityOf_0 0 0 (.iload_n 1) 1 rfl) 1 rfl ?_
  refine x_iconst C (v := 0) (k_dg dt_X11_cityOf_0 1 1 (.iconst 0) 1 rfl) (by decide) ?_
  refine x_bipush C (v := 6) (k_dg dt_X11_cityOf_0 2 2 (.bipush 6) 2 rfl) (by decide) ?_
  refine x_callS C (vs := [Value.int p1, Value.int 0, Value.int 6]) (rest := []) (c_X11_within C.2.2.2.2.2.2.2.2.2 G.2.1 p1 0 6 M) cy_X11_within lk_RX11_95 stt_X11_within (by decide) (by decide) (by decide) (by decide) rfl rfl (Nat.le_of_ble_eq_true rfl) (k_dg dt_X11_cityOf_0 3 4 (.invokestatic 95) 3 rfl) (fun r1 M2 => ?_)
  show Sm Z G _ _ _ _ [(0, k_ra Z 0), (1, Value.int p1)] [Value.int r1] _ _
  refine x_if_ne C (tgt := 12) (k_dg dt_X11_cityOf_0 4 7 (.ifCond .ne 5) 3 rfl) (by decide) (fun _ => ?_) (fun _ => ?_)
  · refine x_iconst C (v := -1) (k_dg dt_X11_cityOf_0 5 10 (.iconst (-1)) 1 rfl) (by decide) ?_
    exact x_iret C (by decide) (by decide) (k_dg dt_X11_cityOf_0 6 11 (.ireturn) 1 rfl)
  · refine x_aload_n C (k_dg dt_X11_cityOf_0 7 12 (.aload_n 0) 1 rfl) 0 rfl ?_
    refine x_getR C (a := 0) (j := 1) 3 rfl rfl (by decide) fl_RX11_19 rfl rfl rfl (k_dg dt_X11_cityOf_0 8 13 (.getfield 19) 3 rfl) ?_
    refine x_getI C (a := 3) (j := 3) rfl rfl (by decide) fl_RX11_89 rfl (k_dg dt_X11_cityOf_0 9 16 (.getfield 89) 3 rfl) ?_
    refine x_if_ne C (tgt := 25) (k_dg dt_X11_cityOf_0 10 19 (.ifCond .ne 6) 3 rfl) (by decide) (fun _ => ?_) (fun _ => ?_)
    · refine x_bipush C (v := -4) (k_dg dt_X11_cityOf_0 11 22 (.bipush (-4)) 2 rfl) (by decide) ?_
      exact x_iret C (by decide) (by decide) (k_dg dt_X11_cityOf_0 12 24 (.ireturn) 1 rfl)
    · refine x_iload_n C (k_dg dt_X11_cityOf_0 13 25 (.iload_n 1) 1 rfl) 1 rfl ?_
      refine x_tsw C (n := 7) (tgt := 103) (k_dg dt_X11_cityOf_0 14 26 (.tableswitch 77 0 6 #[42, 50, 77, 77, 77, 58, 69]) 42 rfl) (by decide) (by decide) (fun i_ => [68, 76, 103, 103, 103, 84, 95].getD i_ 0) (by decide) (fun i_ hi_ _ => ?_) ?_
      · match i_, hi_ with
        | 0, _ =>
          show Sm Z G emI _ _ 68 _ _ _ (some (M2.1 3 4, M2))
          refine x_aload_n C (k_dg dt_X11_cityOf_0 15 68 (.aload_n 0) 1 rfl) 0 rfl ?_
          refine x_getR C (a := 0) (j := 1) 3 rfl rfl (by decide) fl_RX11_19 rfl rfl rfl (k_dg dt_X11_cityOf_0 16 69 (.getfield 19) 3 rfl) ?_
          refine x_getI C (a := 3) (j := 4) rfl rfl (by decide) fl_RX11_169 rfl (k_dg dt_X11_cityOf_0 17 72 (.getfield 169) 3 rfl) ?_
          exact x_iret C (by decide) (by decide) (k_dg dt_X11_cityOf_0 18 75 (.ireturn) 1 rfl)
        | 1, _ =>
          show Sm Z G emI _ _ 76 _ _ _ (some (M2.1 3 5, M2))
          refine x_aload_n C (k_dg dt_X11_cityOf_0 19 76 (.aload_n 0) 1 rfl) 0 rfl ?_
          refine x_getR C (a := 0) (j := 1) 3 rfl rfl (by decide) fl_RX11_19 rfl rfl rfl (k_dg dt_X11_cityOf_0 20 77 (.getfield 19) 3 rfl) ?_
          refine x_getI C (a := 3) (j := 5) rfl rfl (by decide) fl_RX11_172 rfl (k_dg dt_X11_cityOf_0 21 80 (.getfield 172) 3 rfl) ?_
          exact x_iret C (by decide) (by decide) (k_dg dt_X11_cityOf_0 22 83 (.ireturn) 1 rfl)
        | 2, _ =>
          show Sm Z G emI _ _ 103 _ _ _ (rdI M2 20 3 (p1 - 2) (fun v3 => some (v3, M2)))
          refine x_aload_n C (k_dg dt_X11_cityOf_0 32 103 (.aload_n 0) 1 rfl) 0 rfl ?_
          refine x_getR C (a := 0) (j := 1) 3 rfl rfl (by decide) fl_RX11_19 rfl rfl rfl (k_dg dt_X11_cityOf_0 33 104 (.getfield 19) 3 rfl) ?_
          refine x_getR C (a := 3) (j := 6) 20 rfl rfl (by decide) fl_RX11_183 rfl rfl rfl (k_dg dt_X11_cityOf_0 34 107 (.getfield 183) 3 rfl) ?_
          refine x_iload_n C (k_dg dt_X11_cityOf_0 35 110 (.iload_n 1) 1 rfl) 1 rfl ?_
          refine x_iconst C (v := 2) (k_dg dt_X11_cityOf_0 36 111 (.iconst 2) 1 rfl) (by decide) ?_
          refine x_isub C (k_dg dt_X11_cityOf_0 37 112 (.isub) 1 rfl) ?_
          refine x_iald C (a := 20) (n := 3) rfl rfl (k_dg dt_X11_cityOf_0 38 113 (.iaload) 1 rfl) (fun v3 => ?_)
          exact x_iret C (by decide) (by decide) (k_dg dt_X11_cityOf_0 39 114 (.ireturn) 1 rfl)
        | 3, _ =>
          show Sm Z G emI _ _ 103 _ _ _ (rdI M2 20 3 (p1 - 2) (fun v4 => some (v4, M2)))
          refine x_aload_n C (k_dg dt_X11_cityOf_0 32 103 (.aload_n 0) 1 rfl) 0 rfl ?_
          refine x_getR C (a := 0) (j := 1) 3 rfl rfl (by decide) fl_RX11_19 rfl rfl rfl (k_dg dt_X11_cityOf_0 33 104 (.getfield 19) 3 rfl) ?_
          refine x_getR C (a := 3) (j := 6) 20 rfl rfl (by decide) fl_RX11_183 rfl rfl rfl (k_dg dt_X11_cityOf_0 34 107 (.getfield 183) 3 rfl) ?_
          refine x_iload_n C (k_dg dt_X11_cityOf_0 35 110 (.iload_n 1) 1 rfl) 1 rfl ?_
          refine x_iconst C (v := 2) (k_dg dt_X11_cityOf_0 36 111 (.iconst 2) 1 rfl) (by decide) ?_
          refine x_isub C (k_dg dt_X11_cityOf_0 37 112 (.isub) 1 rfl) ?_
          refine x_iald C (a := 20) (n := 3) rfl rfl (k_dg dt_X11_cityOf_0 38 113 (.iaload) 1 rfl) (fun v4 => ?_)
          exact x_iret C (by decide) (by decide) (k_dg dt_X11_cityOf_0 39 114 (.ireturn) 1 rfl)
        | 4, _ =>
          show Sm Z G emI _ _ 103 _ _ _ (rdI M2 20 3 (p1 - 2) (fun v5 => some (v5, M2)))
          refine x_aload_n C (k_dg dt_X11_cityOf_0 32 103 (.aload_n 0) 1 rfl) 0 rfl ?_
          refine x_getR C (a := 0) (j := 1) 3 rfl rfl (by decide) fl_RX11_19 rfl rfl rfl (k_dg dt_X11_cityOf_0 33 104 (.getfield 19) 3 rfl) ?_
          refine x_getR C (a := 3) (j := 6) 20 rfl rfl (by decide) fl_RX11_183 rfl rfl rfl (k_dg dt_X11_cityOf_0 34 107 (.getfield 183) 3 rfl) ?_
          refine x_iload_n C (k_dg dt_X11_cityOf_0 35 110 (.iload_n 1) 1 rfl) 1 rfl ?_
          refine x_iconst C (v := 2) (k_dg dt_X11_cityOf_0 36 111 (.iconst 2) 1 rfl) (by decide) ?_
          refine x_isub C (k_dg dt_X11_cityOf_0 37 112 (.isub) 1 rfl) ?_
          refine x_iald C (a := 20) (n := 3) rfl rfl (k_dg dt_X11_cityOf_0 38 113 (.iaload) 1 rfl) (fun v5 => ?_)
          exact x_iret C (by decide) (by decide) (k_dg dt_X11_cityOf_0 39 114 (.ireturn) 1 rfl)
        | 5, _ =>
          show Sm Z G emI _ _ 84 _ _ _ (bd (f_X10_monthOf (M2.1 3 5) M2) (fun r6 M7 => some (r6, M7)))
          refine x_aload_n C (k_dg dt_X11_cityOf_0 23 84 (.aload_n 0) 1 rfl) 0 rfl ?_
          refine x_getR C (a := 0) (j := 1) 3 rfl rfl (by decide) fl_RX11_19 rfl rfl rfl (k_dg dt_X11_cityOf_0 24 85 (.getfield 19) 3 rfl) ?_
          refine x_getI C (a := 3) (j := 5) rfl rfl (by decide) fl_RX11_172 rfl (k_dg dt_X11_cityOf_0 25 88 (.getfield 172) 3 rfl) ?_
          refine x_callS C (vs := [Value.int (M2.1 3 5)]) (rest := []) (c_X10_monthOf C.2.2.2.2.2.2.2.2.2 G.2.1 (M2.1 3 5) M2) cy_X10_monthOf lk_RX11_175 stt_X10_monthOf (by decide) (by decide) (by decide) (by decide) rfl rfl (Nat.le_of_ble_eq_true rfl) (k_dg dt_X11_cityOf_0 26 91 (.invokestatic 175) 3 rfl) (fun r6 M7 => ?_)
          show Sm Z G _ _ _ _ [(0, k_ra Z 0), (1, Value.int p1)] [Value.int r6] _ _
          exact x_iret C (by decide) (by decide) (k_dg dt_X11_cityOf_0 27 94 (.ireturn) 1 rfl)
        | 6, _ =>
          show Sm Z G emI _ _ 95 _ _ _ (bd (f_X10_worth 3 M2) (fun r8 M9 => some (r8, M9)))
          refine x_aload_n C (k_dg dt_X11_cityOf_0 28 95 (.aload_n 0) 1 rfl) 0 rfl ?_
          refine x_getR C (a := 0) (j := 1) 3 rfl rfl (by decide) fl_RX11_19 rfl rfl rfl (k_dg dt_X11_cityOf_0 29 96 (.getfield 19) 3 rfl) ?_
          refine x_callV C (a := 3) (kd := 8) (vs := []) (rest := []) rfl rfl (by decide) (fun r hr => by cases hr; rfl) (c_X10_worth C.2.2.2.2.2.2.2.2.2 G.2.1 3 M2 isW3) cy_X10_worth lk_RX11_179 im_X10_worth se_X10_worth (by decide) (by decide) (by decide) (by decide) rfl rfl (Nat.le_of_ble_eq_true rfl) (k_dg dt_X11_cityOf_0 30 99 (.invokevirtual 179) 3 rfl) (fun r8 M9 => ?_)
          show Sm Z G _ _ _ _ [(0, k_ra Z 0), (1, Value.int p1)] [Value.int r8] _ _
          exact x_iret C (by decide) (by decide) (k_dg dt_X11_cityOf_0 31 102 (.ireturn) 1 rfl)
        | k + 7, h => exact absurd h (by omega)
      · refine x_aload_n C (k_dg dt_X11_cityOf_0 32 103 (.aload_n 0) 1 rfl) 0 rfl ?_
        refine x_getR C (a := 0) (j := 1) 3 rfl rfl (by decide) fl_RX11_19 rfl rfl rfl (k_dg dt_X11_cityOf_0 33 104 (.getfield 19) 3 rfl) ?_
        refine x_getR C (a := 3) (j := 6) 20 rfl rfl (by decide) fl_RX11_183 rfl rfl rfl (k_dg dt_X11_cityOf_0 34 107 (.getfield 183) 3 rfl) ?_
        refine x_iload_n C (k_dg dt_X11_cityOf_0 35 110 (.iload_n 1) 1 rfl) 1 rfl ?_
        refine x_iconst C (v := 2) (k_dg dt_X11_cityOf_0 36 111 (.iconst 2) 1 rfl) (by decide) ?_
        refine x_isub C (k_dg dt_X11_cityOf_0 37 112 (.isub) 1 rfl) ?_
        refine x_iald C (a := 20) (n := 3) rfl rfl (k_dg dt_X11_cityOf_0 38 113 (.iaload) 1 rfl) (fun v10 => ?_)
        exact x_iret C (by decide) (by decide) (k_dg dt_X11_cityOf_0 39 114 (.ireturn) 1 rfl)
theorem c_X11_cityOf {Z : k_Z} (hg : k_Gd Z) (l : Launch) (p1 : Int32) (M : k_M) : Con true Z l yX11_cityOf cX11_cityOf 2 (some .int) 2 0 0 emI [k_ra Z 0, Value.int p1] M (f_X11_cityOf p1 M) := k_con hg (by decide) (Nat.le_of_ble_eq_true rfl) (fun G hl C => m_X11_cityOf_0 C p1 M)
theorem dt_X11_may_0 : k_dec cX11_may [(0, .iload_n 1, 1), (1, .iconst 0, 1), (2, .bipush 12, 2), (4, .invokestatic 95, 3), (7, .ifCond .ne 5, 3), (10, .iconst (-1), 1), (11, .ireturn, 1), (12, .aload_n 0, 1), (13, .getfield 19, 3), (16, .getfield 89, 3), (19, .ifCond .ne 6, 3), (22, .bipush (-4), 2), (24, .ireturn, 1), (25, .aload_n 0, 1), (26, .getfield 19, 3), (29, .iload_n 1, 1), (30, .invokevirtual 186, 3), (33, .ifCond .eq 7, 3), (36, .iconst 1, 1), (37, .goto 4, 3), (40, .iconst 0, 1), (41, .ireturn, 1)] = true := by decide +kernel
def f_X11_may (p1 : Int32) (M : k_M) : Option (Int32 × k_M) := bd (f_X11_within p1 0 12 M) (fun r1 M2 => if r1 = 0 then some (-1, M2) else if (M2.1 3 3) = 0 then some (-4, M2) else bd (f_X10_can 3 p1 M2) (fun r3 M4 => if r3 = 0 then some (0, M4) else some (1, M4)))
theorem m_X11_may_0 {Z : k_Z} {G : k_G} (C : k_C Z G RX11 cX11_may (true, 2, 5, 0, 0) (some .int) "may") (p1 : Int32) (M : k_M) : Sm Z G emI (true, 2, 5, 0, 0) (0, 0) 0 [(0, k_ra Z 0), (1, Value.int p1)] [] M (f_X11_may p1 M) := by
  show Sm Z G emI _ _ _ _ _ _ (bd (f_X11_within p1 0 12 M) (fun r1 M2 => if r1 = 0 then some (-1, M2) else if (M2.1 3 3) = 0 then some (-4, M2) else bd (f_X10_can 3 p1 M2) (fun r3 M4 => if r3 = 0 then some (0, M4) else some (1, M4))))
  refine x_iload_n C (k_dg dt_X11_may_0 0 0 (.iload_n 1) 1 rfl) 1 rfl ?_
  refine x_iconst C (v := 0) (k_dg dt_X11_may_0 1 1 (.iconst 0) 1 rfl) (by decide) ?_
  refine x_bipush C (v := 12) (k_dg dt_X11_may_0 2 2 (.bipush 12) 2 rfl) (by decide) ?_
  refine x_callS C (vs := [Value.int p1, Value.int 0, Value.int 12]) (rest := []) (c_X11_within C.2.2.2.2.2.2.2.2.2 G.2.1 p1 0 12 M) cy_X11_within lk_RX11_95 stt_X11_within (by decide) (by decide) (by decide) (by decide) rfl rfl (Nat.le_of_ble_eq_true rfl) (k_dg dt_X11_may_0 3 4 (.invokestatic 95) 3 rfl) (fun r1 M2 => ?_)
  show Sm Z G _ _ _ _ [(0, k_ra Z 0), (1, Value.int p1)] [Value.int r1] _ _
  refine x_if_ne C (tgt := 12) (k_dg dt_X11_may_0 4 7 (.ifCond .ne 5) 3 rfl) (by decide) (fun _ => ?_) (fun _ => ?_)
  · refine x_iconst C (v := -1) (k_dg dt_X11_may_0 5 10 (.iconst (-1)) 1 rfl) (by decide) ?_
    exact x_iret C (by decide) (by decide) (k_dg dt_X11_may_0 6 11 (.ireturn) 1 rfl)
  · refine x_aload_n C (k_dg dt_X11_may_0 7 12 (.aload_n 0) 1 rfl) 0 rfl ?_
    refine x_getR C (a := 0) (j := 1) 3 rfl rfl (by decide) fl_RX11_19 rfl rfl rfl (k_dg dt_X11_may_0 8 13 (.getfield 19) 3 rfl) ?_
    refine x_getI C (a := 3) (j := 3) rfl rfl (by decide) fl_RX11_89 rfl (k_dg dt_X11_may_0 9 16 (.getfield 89) 3 rfl) ?_
    refine x_if_ne C (tgt := 25) (k_dg dt_X11_may_0 10 19 (.ifCond .ne 6) 3 rfl) (by decide) (fun _ => ?_) (fun _ => ?_)
    · refine x_bipush C (v := -4) (k_dg dt_X11_may_0 11 22 (.bipush (-4)) 2 rfl) (by decide) ?_
      exact x_iret C (by decide) (by decide) (k_dg dt_X11_may_0 12 24 (.ireturn) 1 rfl)
    · refine x_aload_n C (k_dg dt_X11_may_0 13 25 (.aload_n 0) 1 rfl) 0 rfl ?_
      refine x_getR C (a := 0) (j := 1) 3 rfl rfl (by decide) fl_RX11_19 rfl rfl rfl (k_dg dt_X11_may_0 14 26 (.getfield 19) 3 rfl) ?_
      refine x_iload_n C (k_dg dt_X11_may_0 15 29 (.iload_n 1) 1 rfl) 1 rfl ?_
      refine x_callV C (a := 3) (kd := 8) (vs := [Value.int p1]) (rest := []) rfl rfl (by decide) (fun r hr => by cases hr; rfl) (c_X10_can C.2.2.2.2.2.2.2.2.2 G.2.1 3 p1 M2 isW3) cy_X10_can lk_RX11_186 im_X10_can se_X10_can (by decide) (by decide) (by decide) (by decide) rfl rfl (Nat.le_of_ble_eq_true rfl) (k_dg dt_X11_may_0 16 30 (.invokevirtual 186) 3 rfl) (fun r3 M4 => ?_)
      show Sm Z G _ _ _ _ [(0, k_ra Z 0), (1, Value.int p1)] [Value.int r3] _ _
      refine x_if_eq C (tgt := 40) (k_dg dt_X11_may_0 17 33 (.ifCond .eq 7) 3 rfl) (by decide) (fun _ => ?_) (fun _ => ?_)
      · refine x_iconst C (v := 0) (k_dg dt_X11_may_0 20 40 (.iconst 0) 1 rfl) (by decide) ?_
        exact x_iret C (by decide) (by decide) (k_dg dt_X11_may_0 21 41 (.ireturn) 1 rfl)
      · refine x_iconst C (v := 1) (k_dg dt_X11_may_0 18 36 (.iconst 1) 1 rfl) (by decide) ?_
        refine x_goto C (tgt := 41) (k_dg dt_X11_may_0 19 37 (.goto 4) 3 rfl) (by decide) ?_
        exact x_iret C (by decide) (by decide) (k_dg dt_X11_may_0 21 41 (.ireturn) 1 rfl)
theorem c_X11_may {Z : k_Z} (hg : k_Gd Z) (l : Launch) (p1 : Int32) (M : k_M) : Con true Z l yX11_may cX11_may 2 (some .int) 5 0 0 emI [k_ra Z 0, Value.int p1] M (f_X11_may p1 M) := k_con hg (by decide) (Nat.le_of_ble_eq_true rfl) (fun G hl C => m_X11_may_0 C p1 M)
theorem dt_X11_does_0 : k_dec cX11_does [(0, .iload_n 1, 1), (1, .iconst 0, 1), (2, .bipush 12, 2), (4, .invokestatic 95, 3), (7, .ifCond .ne 5, 3), (10, .iconst (-1), 1), (11, .ireturn, 1), (12, .aload_n 0, 1), (13, .getfield 19, 3), (16, .getfield 89, 3), (19, .ifCond .ne 6, 3), (22, .bipush (-4), 2), (24, .ireturn, 1), (25, .aload_n 0, 1), (26, .getfield 19, 3), (29, .getfield 172, 3), (32, .istore_n 2, 1), (33, .aload_n 0, 1), (34, .getfield 19, 3), (37, .iload_n 1, 1), (38, .invokevirtual 189, 3), (41, .iconst (-1), 1), (42, .if_icmp .ne 8, 3), (45, .bipush (-3), 2), (47, .goto 12, 3), (50, .aload_n 0, 1), (51, .getfield 19, 3), (54, .getfield 172, 3), (57, .iload_n 2, 1), (58, .isub, 1), (59, .ireturn, 1)] = true := by decide +kernel
def f_X11_does (p1 : Int32) (M : k_M) : Option (Int32 × k_M) := bd (f_X11_within p1 0 12 M) (fun r1 M2 => if r1 = 0 then some (-1, M2) else if (M2.1 3 3) = 0 then some (-4, M2) else bN (M2.1 3 5) (fun v3 => bd (f_X10_attempt 3 p1 M2) (fun r4 M5 => if r4 = (-1) then some (-3, M5) else some ((M5.1 3 5) - v3, M5))))
theorem m_X11_does_0 {Z : k_Z} {G : k_G} (C : k_C Z G RX11 cX11_does (true, 3, 4, 0, 0) (some .int) "does") (p1 : Int32) (M : k_M) : Sm Z G emI (true, 3, 4, 0, 0) (0, 0) 0 [(0, k_ra Z 0), (1, Value.int p1)] [] M (f_X11_does p1 M) := by
  show Sm Z G emI _ _ _ _ _ _ (bd (f_X11_within p1 0 12 M) (fun r1 M2 => if r1 = 0 then some (-1, M2) else if (M2.1 3 3) = 0 then some (-4, M2) else bN (M2.1 3 5) (fun v3 => bd (f_X10_attempt 3 p1 M2) (fun r4 M5 => if r4 = (-1) then some (-3, M5) else some ((M5.1 3 5) - v3, M5)))))
  refine x_iload_n C (k_dg dt_X11_does_0 0 0 (.iload_n 1) 1 rfl) 1 rfl ?_
  refine x_iconst C (v := 0) (k_dg dt_X11_does_0 1 1 (.iconst 0) 1 rfl) (by decide) ?_
  refine x_bipush C (v := 12) (k_dg dt_X11_does_0 2 2 (.bipush 12) 2 rfl) (by decide) ?_
  refine x_callS C (vs := [Value.int p1, Value.int 0, Value.int 12]) (rest := []) (c_X11_within C.2.2.2.2.2.2.2.2.2 G.2.1 p1 0 12 M) cy_X11_within lk_RX11_95 stt_X11_within (by decide) (by decide) (by decide) (by decide) rfl rfl (Nat.le_of_ble_eq_true rfl) (k_dg dt_X11_does_0 3 4 (.invokestatic 95) 3 rfl) (fun r1 M2 => ?_)
  show Sm Z G _ _ _ _ [(0, k_ra Z 0), (1, Value.int p1)] [Value.int r1] _ _
  refine x_if_ne C (tgt := 12) (k_dg dt_X11_does_0 4 7 (.ifCond .ne 5) 3 rfl) (by decide) (fun _ => ?_) (fun _ => ?_)
  · refine x_iconst C (v := -1) (k_dg dt_X11_does_0 5 10 (.iconst (-1)) 1 rfl) (by decide) ?_
    exact x_iret C (by decide) (by decide) (k_dg dt_X11_does_0 6 11 (.ireturn) 1 rfl)
  · refine x_aload_n C (k_dg dt_X11_does_0 7 12 (.aload_n 0) 1 rfl) 0 rfl ?_
    refine x_getR C (a := 0) (j := 1) 3 rfl rfl (by decide) fl_RX11_19 rfl rfl rfl (k_dg dt_X11_does_0 8 13 (.getfield 19) 3 rfl) ?_
    refine x_getI C (a := 3) (j := 3) rfl rfl (by decide) fl_RX11_89 rfl (k_dg dt_X11_does_0 9 16 (.getfield 89) 3 rfl) ?_
    refine x_if_ne C (tgt := 25) (k_dg dt_X11_does_0 10 19 (.ifCond .ne 6) 3 rfl) (by decide) (fun _ => ?_) (fun _ => ?_)
    · refine x_bipush C (v := -4) (k_dg dt_X11_does_0 11 22 (.bipush (-4)) 2 rfl) (by decide) ?_
      exact x_iret C (by decide) (by decide) (k_dg dt_X11_does_0 12 24 (.ireturn) 1 rfl)
    · refine x_aload_n C (k_dg dt_X11_does_0 13 25 (.aload_n 0) 1 rfl) 0 rfl ?_
      refine x_getR C (a := 0) (j := 1) 3 rfl rfl (by decide) fl_RX11_19 rfl rfl rfl (k_dg dt_X11_does_0 14 26 (.getfield 19) 3 rfl) ?_
      refine x_getI C (a := 3) (j := 5) rfl rfl (by decide) fl_RX11_172 rfl (k_dg dt_X11_does_0 15 29 (.getfield 172) 3 rfl) ?_
      refine x_nm (w := Value.int) (fun v3 _ => ?_)
      refine x_istore_n C (lv' := [(2, Value.int v3), (0, k_ra Z 0), (1, Value.int p1)]) (k_dg dt_X11_does_0 16 32 (.istore_n 2) 1 rfl) (by decide) rfl ?_
      refine x_aload_n C (k_dg dt_X11_does_0 17 33 (.aload_n 0) 1 rfl) 1 rfl ?_
      refine x_getR C (a := 0) (j := 1) 3 rfl rfl (by decide) fl_RX11_19 rfl rfl rfl (k_dg dt_X11_does_0 18 34 (.getfield 19) 3 rfl) ?_
      refine x_iload_n C (k_dg dt_X11_does_0 19 37 (.iload_n 1) 1 rfl) 2 rfl ?_
      refine x_callV C (a := 3) (kd := 8) (vs := [Value.int p1]) (rest := []) rfl rfl (by decide) (fun r hr => by cases hr; rfl) (c_X10_attempt C.2.2.2.2.2.2.2.2.2 G.2.1 3 p1 M2 isW3) cy_X10_attempt lk_RX11_189 im_X10_attempt se_X10_attempt (by decide) (by decide) (by decide) (by decide) rfl rfl (Nat.le_of_ble_eq_true rfl) (k_dg dt_X11_does_0 20 38 (.invokevirtual 189) 3 rfl) (fun r4 M5 => ?_)
      show Sm Z G _ _ _ _ [(2, Value.int v3), (0, k_ra Z 0), (1, Value.int p1)] [Value.int r4] _ _
      refine x_iconst C (v := -1) (k_dg dt_X11_does_0 21 41 (.iconst (-1)) 1 rfl) (by decide) ?_
      refine x_icmp_ne C (tgt := 50) (k_dg dt_X11_does_0 22 42 (.if_icmp .ne 8) 3 rfl) (by decide) (fun _ => ?_) (fun _ => ?_)
      · refine x_bipush C (v := -3) (k_dg dt_X11_does_0 23 45 (.bipush (-3)) 2 rfl) (by decide) ?_
        refine x_goto C (tgt := 59) (k_dg dt_X11_does_0 24 47 (.goto 12) 3 rfl) (by decide) ?_
        exact x_iret C (by decide) (by decide) (k_dg dt_X11_does_0 30 59 (.ireturn) 1 rfl)
      · refine x_aload_n C (k_dg dt_X11_does_0 25 50 (.aload_n 0) 1 rfl) 1 rfl ?_
        refine x_getR C (a := 0) (j := 1) 3 rfl rfl (by decide) fl_RX11_19 rfl rfl rfl (k_dg dt_X11_does_0 26 51 (.getfield 19) 3 rfl) ?_
        refine x_getI C (a := 3) (j := 5) rfl rfl (by decide) fl_RX11_172 rfl (k_dg dt_X11_does_0 27 54 (.getfield 172) 3 rfl) ?_
        refine x_iload_n C (k_dg dt_X11_does_0 28 57 (.iload_n 2) 1 rfl) 0 rfl ?_
        refine x_isub C (k_dg dt_X11_does_0 29 58 (.isub) 1 rfl) ?_
        exact x_iret C (by decide) (by decide) (k_dg dt_X11_does_0 30 59 (.ireturn) 1 rfl)
theorem c_X11_does {Z : k_Z} (hg : k_Gd Z) (l : Launch) (p1 : Int32) (M : k_M) : Con true Z l yX11_does cX11_does 3 (some .int) 4 0 0 emI [k_ra Z 0, Value.int p1] M (f_X11_does p1 M) := k_con hg (by decide) (Nat.le_of_ble_eq_true rfl) (fun G hl C => m_X11_does_0 C p1 M)
theorem dt_X11_stuck_0 : k_dec cX11_stuck [(0, .aload_n 0, 1), (1, .getfield 19, 3), (4, .getfield 89, 3), (7, .ifCond .ne 6, 3), (10, .bipush (-4), 2), (12, .ireturn, 1), (13, .iconst 0, 1), (14, .istore_n 1, 1), (15, .iload_n 1, 1), (16, .aload_n 0, 1), (17, .getfield 19, 3), (20, .invokevirtual 192, 3), (23, .if_icmp .ge 29, 3), (26, .aload_n 0, 1), (27, .getfield 19, 3), (30, .aload_n 0, 1), (31, .getfield 19, 3), (34, .iload_n 1, 1), (35, .invokevirtual 195, 3), (38, .invokevirtual 186, 3), (41, .ifCond .eq 5, 3), (44, .iconst 0, 1), (45, .ireturn, 1), (46, .iinc 1 1, 3), (49, .goto (-34), 3), (52, .iconst 1, 1), (53, .ireturn, 1)] = true := by decide +kernel
def f_X11_stuck_15 : Nat → Int32 → k_M → (k_M → Option (Int32 × k_M)) → (k_M → Option (Int32 × k_M)) → Option (Int32 × k_M)
  | 0, _, _, _, _ => none
  | n + 1, l1, M, kx44, kx52 => bd (f_X10_choices 3 M) (fun r1 M2 => if r1 ≤ l1 then kx52 M2 else bd (f_X10_choice 3 l1 M2) (fun r3 M4 => bd (f_X10_can 3 r3 M4) (fun r5 M6 => if r5 = 0 then f_X11_stuck_15 n (l1 + 1) M6 kx44 kx52 else kx44 M6)))
theorem m_X11_stuck_15 {Z : k_Z} {G : k_G} (C : k_C Z G RX11 cX11_stuck (true, 2, 5, 0, 0) (some .int) "stuck") (kx44 : k_M → Option (Int32 × k_M)) (kx52 : k_M → Option (Int32 × k_M)) (Hx44 : ∀ (M : k_M), Sm Z G emI (true, 2, 5, 0, 0) (0, 0) 44 [] [] M (kx44 M)) (Hx52 : ∀ (M : k_M), Sm Z G emI (true, 2, 5, 0, 0) (0, 0) 52 [] [] M (kx52 M)) : ∀ (n : Nat) (l1 : Int32) (M : k_M), Sm Z G emI (true, 2, 5, 0, 0) (0, 0) 15 [(0, k_ra Z 0), (1, Value.int l1)] [] M (f_X11_stuck_15 n l1 M kx44 kx52)
  | 0, _, _ => x_none
  | n + 1, l1, M => by
    have ih := m_X11_stuck_15 C kx44 kx52 Hx44 Hx52 n
    show Sm Z G emI _ _ _ _ _ _ (bd (f_X10_choices 3 M) (fun r1 M2 => if r1 ≤ l1 then kx52 M2 else bd (f_X10_choice 3 l1 M2) (fun r3 M4 => bd (f_X10_can 3 r3 M4) (fun r5 M6 => if r5 = 0 then f_X11_stuck_15 n (l1 + 1) M6 kx44 kx52 else kx44 M6))))
    refine x_iload_n C (k_dg dt_X11_stuck_0 8 15 (.iload_n 1) 1 rfl) 1 rfl ?_
    refine x_aload_n C (k_dg dt_X11_stuck_0 9 16 (.aload_n 0) 1 rfl) 0 rfl ?_
    refine x_getR C (a := 0) (j := 1) 3 rfl rfl (by decide) fl_RX11_19 rfl rfl rfl (k_dg dt_X11_stuck_0 10 17 (.getfield 19) 3 rfl) ?_
    refine x_callV C (a := 3) (kd := 8) (vs := []) (rest := [Value.int l1]) rfl rfl (by decide) (fun r hr => by cases hr; rfl) (c_X10_choices C.2.2.2.2.2.2.2.2.2 G.2.1 3 M isW3) cy_X10_choices lk_RX11_192 im_X10_choices se_X10_choices (by decide) (by decide) (by decide) (by decide) rfl rfl (Nat.le_of_ble_eq_true rfl) (k_dg dt_X11_stuck_0 11 20 (.invokevirtual 192) 3 rfl) (fun r1 M2 => ?_)
    show Sm Z G _ _ _ _ [(0, k_ra Z 0), (1, Value.int l1)] [Value.int r1, Value.int l1] _ _
    refine x_icmp_ge C (tgt := 52) (k_dg dt_X11_stuck_0 12 23 (.if_icmp .ge 29) 3 rfl) (by decide) (fun _ => ?_) (fun _ => ?_)
    · refine x_lv [] rfl ?_
      exact Hx52 M2
    · refine x_aload_n C (k_dg dt_X11_stuck_0 13 26 (.aload_n 0) 1 rfl) 0 rfl ?_
      refine x_getR C (a := 0) (j := 1) 3 rfl rfl (by decide) fl_RX11_19 rfl rfl rfl (k_dg dt_X11_stuck_0 14 27 (.getfield 19) 3 rfl) ?_
      refine x_aload_n C (k_dg dt_X11_stuck_0 15 30 (.aload_n 0) 1 rfl) 0 rfl ?_
      refine x_getR C (a := 0) (j := 1) 3 rfl rfl (by decide) fl_RX11_19 rfl rfl rfl (k_dg dt_X11_stuck_0 16 31 (.getfield 19) 3 rfl) ?_
      refine x_iload_n C (k_dg dt_X11_stuck_0 17 34 (.iload_n 1) 1 rfl) 1 rfl ?_
      refine x_callV C (a := 3) (kd := 8) (vs := [Value.int l1]) (rest := [k_ra Z 3]) rfl rfl (by decide) (fun r hr => by cases hr; rfl) (c_X10_choice C.2.2.2.2.2.2.2.2.2 G.2.1 3 l1 M2 isW3) cy_X10_choice lk_RX11_195 im_X10_choice se_X10_choice (by decide) (by decide) (by decide) (by decide) rfl rfl (Nat.le_of_ble_eq_true rfl) (k_dg dt_X11_stuck_0 18 35 (.invokevirtual 195) 3 rfl) (fun r3 M4 => ?_)
      show Sm Z G _ _ _ _ [(0, k_ra Z 0), (1, Value.int l1)] [Value.int r3, k_ra Z 3] _ _
      refine x_callV C (a := 3) (kd := 8) (vs := [Value.int r3]) (rest := []) rfl rfl (by decide) (fun r hr => by cases hr; rfl) (c_X10_can C.2.2.2.2.2.2.2.2.2 G.2.1 3 r3 M4 isW3) cy_X10_can lk_RX11_186 im_X10_can se_X10_can (by decide) (by decide) (by decide) (by decide) rfl rfl (Nat.le_of_ble_eq_true rfl) (k_dg dt_X11_stuck_0 19 38 (.invokevirtual 186) 3 rfl) (fun r5 M6 => ?_)
      show Sm Z G _ _ _ _ [(0, k_ra Z 0), (1, Value.int l1)] [Value.int r5] _ _
      refine x_if_eq C (tgt := 46) (k_dg dt_X11_stuck_0 20 41 (.ifCond .eq 5) 3 rfl) (by decide) (fun _ => ?_) (fun _ => ?_)
      · refine x_iinc C (v := 1) (lv' := [(1, Value.int (l1 + 1)), (0, k_ra Z 0)]) (k_dg dt_X11_stuck_0 23 46 (.iinc 1 1) 3 rfl) 1 rfl (by decide) (by decide) rfl ?_
        refine x_goto C (tgt := 15) (k_dg dt_X11_stuck_0 24 49 (.goto (-34)) 3 rfl) (by decide) ?_
        refine x_lv [1, 0] rfl ?_
        exact ih (l1 + 1) M6
      · refine x_lv [] rfl ?_
        exact Hx44 M6
def f_X11_stuck_44 (M : k_M) : Option (Int32 × k_M) := some (0, M)
theorem m_X11_stuck_44 {Z : k_Z} {G : k_G} (C : k_C Z G RX11 cX11_stuck (true, 2, 5, 0, 0) (some .int) "stuck") (M : k_M) : Sm Z G emI (true, 2, 5, 0, 0) (0, 0) 44 [] [] M (f_X11_stuck_44 M) := by
  show Sm Z G emI _ _ _ _ _ _ (some (0, M))
  refine x_iconst C (v := 0) (k_dg dt_X11_stuck_0 21 44 (.iconst 0) 1 rfl) (by decide) ?_
  exact x_iret C (by decide) (by decide) (k_dg dt_X11_stuck_0 22 45 (.ireturn) 1 rfl)
def f_X11_stuck_52 (M : k_M) : Option (Int32 × k_M) := some (1, M)
theorem m_X11_stuck_52 {Z : k_Z} {G : k_G} (C : k_C Z G RX11 cX11_stuck (true, 2, 5, 0, 0) (some .int) "stuck") (M : k_M) : Sm Z G emI (true, 2, 5, 0, 0) (0, 0) 52 [] [] M (f_X11_stuck_52 M) := by
  show Sm Z G emI _ _ _ _ _ _ (some (1, M))
  refine x_iconst C (v := 1) (k_dg dt_X11_stuck_0 25 52 (.iconst 1) 1 rfl) (by decide) ?_
  exact x_iret C (by decide) (by decide) (k_dg dt_X11_stuck_0 26 53 (.ireturn) 1 rfl)
def f_X11_stuck (M : k_M) : Option (Int32 × k_M) := if (M.1 3 3) = 0 then some (-4, M) else f_X11_stuck_15 k_fu 0 M (fun M_ => f_X11_stuck_44 M_) (fun M_ => f_X11_stuck_52 M_)
theorem m_X11_stuck_0 {Z : k_Z} {G : k_G} (C : k_C Z G RX11 cX11_stuck (true, 2, 5, 0, 0) (some .int) "stuck") (M : k_M) : Sm Z G emI (true, 2, 5, 0, 0) (0, 0) 0 [(0, k_ra Z 0)] [] M (f_X11_stuck M) := by
  show Sm Z G emI _ _ _ _ _ _ (if (M.1 3 3) = 0 then some (-4, M) else f_X11_stuck_15 k_fu 0 M (fun M_ => f_X11_stuck_44 M_) (fun M_ => f_X11_stuck_52 M_))
  refine x_aload_n C (k_dg dt_X11_stuck_0 0 0 (.aload_n 0) 1 rfl) 0 rfl ?_
  refine x_getR C (a := 0) (j := 1) 3 rfl rfl (by decide) fl_RX11_19 rfl rfl rfl (k_dg dt_X11_stuck_0 1 1 (.getfield 19) 3 rfl) ?_
  refine x_getI C (a := 3) (j := 3) rfl rfl (by decide) fl_RX11_89 rfl (k_dg dt_X11_stuck_0 2 4 (.getfield 89) 3 rfl) ?_
  refine x_if_ne C (tgt := 13) (k_dg dt_X11_stuck_0 3 7 (.ifCond .ne 6) 3 rfl) (by decide) (fun _ => ?_) (fun _ => ?_)
  · refine x_bipush C (v := -4) (k_dg dt_X11_stuck_0 4 10 (.bipush (-4)) 2 rfl) (by decide) ?_
    exact x_iret C (by decide) (by decide) (k_dg dt_X11_stuck_0 5 12 (.ireturn) 1 rfl)
  · refine x_iconst C (v := 0) (k_dg dt_X11_stuck_0 6 13 (.iconst 0) 1 rfl) (by decide) ?_
    refine x_istore_n C (lv' := [(1, Value.int 0), (0, k_ra Z 0)]) (k_dg dt_X11_stuck_0 7 14 (.istore_n 1) 1 rfl) (by decide) rfl ?_
    refine x_lv [1, 0] rfl ?_
    exact m_X11_stuck_15 C (fun M_ => f_X11_stuck_44 M_) (fun M_ => f_X11_stuck_52 M_) (fun M_ => m_X11_stuck_44 C M_) (fun M_ => m_X11_stuck_52 C M_) k_fu 0 M
theorem c_X11_stuck {Z : k_Z} (hg : k_Gd Z) (l : Launch) (M : k_M) : Con true Z l yX11_stuck cX11_stuck 2 (some .int) 5 0 0 emI [k_ra Z 0] M (f_X11_stuck M) := k_con hg (by decide) (Nat.le_of_ble_eq_true rfl) (fun G hl C => m_X11_stuck_0 C M)
theorem dt_X11_best_0 : k_dec cX11_best [(0, .iload_n 1, 1), (1, .iconst 0, 1), (2, .bipush 6, 2), (4, .invokestatic 95, 3), (7, .ifCond .eq 12, 3), (10, .iload_n 2, 1), (11, .iconst 0, 1), (12, .iconst 1, 1), (13, .invokestatic 95, 3), (16, .ifCond .ne 5, 3), (19, .iconst (-1), 1), (20, .ireturn, 1), (21, .aload_n 0, 1), (22, .getfield 19, 3), (25, .getfield 89, 3), (28, .ifCond .ne 6, 3), (31, .bipush (-4), 2), (33, .ireturn, 1), (34, .iload_n 2, 1), (35, .iconst 1, 1), (36, .if_icmp .ne 10, 3), (39, .iload_n 1, 1), (40, .ifCond .ne 6, 3), (43, .bipush (-9), 2), (45, .ireturn, 1), (46, .iload_n 2, 1), (47, .ifCond .ne 14, 3), (50, .aload_n 0, 1), (51, .getfield 19, 3), (54, .iload_n 1, 1), (55, .invokestatic 198, 3), (58, .goto 11, 3), (61, .aload_n 0, 1), (62, .getfield 19, 3), (65, .iload_n 1, 1), (66, .invokestatic 204, 3), (69, .istore_n 3, 1), (70, .iload_n 3, 1), (71, .iconst (-1), 1), (72, .if_icmp .ne 8, 3)] = true := by decide +kernel
theorem dt_X11_best_1 : k_dec cX11_best [(75, .bipush (-3), 2), (77, .goto 4, 3), (80, .iload_n 3, 1), (81, .ireturn, 1)] = true := by decide +kernel
def f_X11_best_69 (t0 : Int32) (M : k_M) : Option (Int32 × k_M) := if t0 = (-1) then some (-3, M) else some (t0, M)
theorem m_X11_best_69 {Z : k_Z} {G : k_G} (C : k_C Z G RX11 cX11_best (true, 4, 22, 0, 0) (some .int) "best") (t0 : Int32) (M : k_M) : Sm Z G emI (true, 4, 22, 0, 0) (0, 0) 69 [] [Value.int t0] M (f_X11_best_69 t0 M) := by
  show Sm Z G emI _ _ _ _ _ _ (if t0 = (-1) then some (-3, M) else some (t0, M))
  refine x_istore_n C (lv' := [(3, Value.int t0)]) (k_dg dt_X11_best_0 36 69 (.istore_n 3) 1 rfl) (by decide) rfl ?_
  refine x_iload_n C (k_dg dt_X11_best_0 37 70 (.iload_n 3) 1 rfl) 0 rfl ?_
  refine x_iconst C (v := -1) (k_dg dt_X11_best_0 38 71 (.iconst (-1)) 1 rfl) (by decide) ?_
  refine x_icmp_ne C (tgt := 80) (k_dg dt_X11_best_0 39 72 (.if_icmp .ne 8) 3 rfl) (by decide) (fun _ => ?_) (fun _ => ?_)
  · refine x_bipush C (v := -3) (k_dg dt_X11_best_1 0 75 (.bipush (-3)) 2 rfl) (by decide) ?_
    refine x_goto C (tgt := 81) (k_dg dt_X11_best_1 1 77 (.goto 4) 3 rfl) (by decide) ?_
    exact x_iret C (by decide) (by decide) (k_dg dt_X11_best_1 3 81 (.ireturn) 1 rfl)
  · refine x_iload_n C (k_dg dt_X11_best_1 2 80 (.iload_n 3) 1 rfl) 0 rfl ?_
    exact x_iret C (by decide) (by decide) (k_dg dt_X11_best_1 3 81 (.ireturn) 1 rfl)
def f_X11_best_46 (l1 : Int32) (l2 : Int32) (M : k_M) : Option (Int32 × k_M) := if l2 = 0 then bd (f_X0_mostWorth 8 3 l1 M) (fun r3 M4 => f_X11_best_69 r3 M4) else bd (f_X0_firstAct 3 l1 M) (fun r1 M2 => f_X11_best_69 r1 M2)
theorem m_X11_best_46 {Z : k_Z} {G : k_G} (C : k_C Z G RX11 cX11_best (true, 4, 22, 0, 0) (some .int) "best") (l1 : Int32) (l2 : Int32) (M : k_M) : Sm Z G emI (true, 4, 22, 0, 0) (0, 0) 46 [(0, k_ra Z 0), (1, Value.int l1), (2, Value.int l2)] [] M (f_X11_best_46 l1 l2 M) := by
  show Sm Z G emI _ _ _ _ _ _ (if l2 = 0 then bd (f_X0_mostWorth 8 3 l1 M) (fun r3 M4 => f_X11_best_69 r3 M4) else bd (f_X0_firstAct 3 l1 M) (fun r1 M2 => f_X11_best_69 r1 M2))
  refine x_iload_n C (k_dg dt_X11_best_0 25 46 (.iload_n 2) 1 rfl) 2 rfl ?_
  refine x_if_ne C (tgt := 61) (k_dg dt_X11_best_0 26 47 (.ifCond .ne 14) 3 rfl) (by decide) (fun _ => ?_) (fun _ => ?_)
  · refine x_aload_n C (k_dg dt_X11_best_0 27 50 (.aload_n 0) 1 rfl) 0 rfl ?_
    refine x_getR C (a := 0) (j := 1) 3 rfl rfl (by decide) fl_RX11_19 rfl rfl rfl (k_dg dt_X11_best_0 28 51 (.getfield 19) 3 rfl) ?_
    refine x_iload_n C (k_dg dt_X11_best_0 29 54 (.iload_n 1) 1 rfl) 1 rfl ?_
    refine x_callS C (vs := [k_ra Z 3, Value.int l1]) (rest := []) (c_X0_mostWorth C.2.2.2.2.2.2.2.2.2 G.2.1 8 3 l1 M isW3) cy_X0_mostWorth lk_RX11_198 stt_X0_mostWorth (by decide) (by decide) (by decide) (by decide) rfl rfl (Nat.le_of_ble_eq_true rfl) (k_dg dt_X11_best_0 30 55 (.invokestatic 198) 3 rfl) (fun r3 M4 => ?_)
    show Sm Z G _ _ _ _ [(0, k_ra Z 0), (1, Value.int l1), (2, Value.int l2)] [Value.int r3] _ _
    refine x_goto C (tgt := 69) (k_dg dt_X11_best_0 31 58 (.goto 11) 3 rfl) (by decide) ?_
    refine x_lv [] rfl ?_
    exact m_X11_best_69 C r3 M4
  · refine x_aload_n C (k_dg dt_X11_best_0 32 61 (.aload_n 0) 1 rfl) 0 rfl ?_
    refine x_getR C (a := 0) (j := 1) 3 rfl rfl (by decide) fl_RX11_19 rfl rfl rfl (k_dg dt_X11_best_0 33 62 (.getfield 19) 3 rfl) ?_
    refine x_iload_n C (k_dg dt_X11_best_0 34 65 (.iload_n 1) 1 rfl) 1 rfl ?_
    refine x_callS C (vs := [k_ra Z 3, Value.int l1]) (rest := []) (c_X0_firstAct C.2.2.2.2.2.2.2.2.2 G.2.1 3 l1 M isW3) cy_X0_firstAct lk_RX11_204 stt_X0_firstAct (by decide) (by decide) (by decide) (by decide) rfl rfl (Nat.le_of_ble_eq_true rfl) (k_dg dt_X11_best_0 35 66 (.invokestatic 204) 3 rfl) (fun r1 M2 => ?_)
    show Sm Z G _ _ _ _ [(0, k_ra Z 0), (1, Value.int l1), (2, Value.int l2)] [Value.int r1] _ _
    refine x_lv [] rfl ?_
    exact m_X11_best_69 C r1 M2
def f_X11_best (p1 : Int32) (p2 : Int32) (M : k_M) : Option (Int32 × k_M) := bd (f_X11_within p1 0 6 M) (fun r1 M2 => if r1 = 0 then some (-1, M2) else bd (f_X11_within p2 0 1 M2) (fun r3 M4 => if r3 = 0 then some (-1, M4) else if (M4.1 3 3) = 0 then some (-4, M4) else if p2 = 1 then if p1 = 0 then some (-9, M4) else f_X11_best_46 p1 p2 M4 else f_X11_best_46 p1 p2 M4))
theorem m_X11_best_0 {Z : k_Z} {G : k_G} (C : k_C Z G RX11 cX11_best (true, 4, 22, 0, 0) (some .int) "best") (p1 : Int32) (p2 : Int32) (M : k_M) : Sm Z G emI (true, 4, 22, 0, 0) (0, 0) 0 [(0, k_ra Z 0), (1, Value.int p1), (2, Value.int p2)] [] M (f_X11_best p1 p2 M) := by
  show Sm Z G emI _ _ _ _ _ _ (bd (f_X11_within p1 0 6 M) (fun r1 M2 => if r1 = 0 then some (-1, M2) else bd (f_X11_within p2 0 1 M2) (fun r3 M4 => if r3 = 0 then some (-1, M4) else if (M4.1 3 3) = 0 then some (-4, M4) else if p2 = 1 then if p1 = 0 then some (-9, M4) else f_X11_best_46 p1 p2 M4 else f_X11_best_46 p1 p2 M4)))
  refine x_iload_n C (k_dg dt_X11_best_0 0 0 (.iload_n 1) 1 rfl) 1 rfl ?_
  refine x_iconst C (v := 0) (k_dg dt_X11_best_0 1 1 (.iconst 0) 1 rfl) (by decide) ?_
  refine x_bipush C (v := 6) (k_dg dt_X11_best_0 2 2 (.bipush 6) 2 rfl) (by decide) ?_
  refine x_callS C (vs := [Value.int p1, Value.int 0, Value.int 6]) (rest := []) (c_X11_within C.2.2.2.2.2.2.2.2.2 G.2.1 p1 0 6 M) cy_X11_within lk_RX11_95 stt_X11_within (by decide) (by decide) (by decide) (by decide) rfl rfl (Nat.le_of_ble_eq_true rfl) (k_dg dt_X11_best_0 3 4 (.invokestatic 95) 3 rfl) (fun r1 M2 => ?_)
  show Sm Z G _ _ _ _ [(0, k_ra Z 0), (1, Value.int p1), (2, Value.int p2)] [Value.int r1] _ _
  refine x_if_eq C (tgt := 19) (k_dg dt_X11_best_0 4 7 (.ifCond .eq 12) 3 rfl) (by decide) (fun _ => ?_) (fun _ => ?_)
  · refine x_iconst C (v := -1) (k_dg dt_X11_best_0 10 19 (.iconst (-1)) 1 rfl) (by decide) ?_
    exact x_iret C (by decide) (by decide) (k_dg dt_X11_best_0 11 20 (.ireturn) 1 rfl)
  · refine x_iload_n C (k_dg dt_X11_best_0 5 10 (.iload_n 2) 1 rfl) 2 rfl ?_
    refine x_iconst C (v := 0) (k_dg dt_X11_best_0 6 11 (.iconst 0) 1 rfl) (by decide) ?_
    refine x_iconst C (v := 1) (k_dg dt_X11_best_0 7 12 (.iconst 1) 1 rfl) (by decide) ?_
    refine x_callS C (vs := [Value.int p2, Value.int 0, Value.int 1]) (rest := []) (c_X11_within C.2.2.2.2.2.2.2.2.2 G.2.1 p2 0 1 M2) cy_X11_within lk_RX11_95 stt_X11_within (by decide) (by decide) (by decide) (by decide) rfl rfl (Nat.le_of_ble_eq_true rfl) (k_dg dt_X11_best_0 8 13 (.invokestatic 95) 3 rfl) (fun r3 M4 => ?_)
    show Sm Z G _ _ _ _ [(0, k_ra Z 0), (1, Value.int p1), (2, Value.int p2)] [Value.int r3] _ _
    refine x_if_ne C (tgt := 21) (k_dg dt_X11_best_0 9 16 (.ifCond .ne 5) 3 rfl) (by decide) (fun _ => ?_) (fun _ => ?_)
    · refine x_iconst C (v := -1) (k_dg dt_X11_best_0 10 19 (.iconst (-1)) 1 rfl) (by decide) ?_
      exact x_iret C (by decide) (by decide) (k_dg dt_X11_best_0 11 20 (.ireturn) 1 rfl)
    · refine x_aload_n C (k_dg dt_X11_best_0 12 21 (.aload_n 0) 1 rfl) 0 rfl ?_
      refine x_getR C (a := 0) (j := 1) 3 rfl rfl (by decide) fl_RX11_19 rfl rfl rfl (k_dg dt_X11_best_0 13 22 (.getfield 19) 3 rfl) ?_
      refine x_getI C (a := 3) (j := 3) rfl rfl (by decide) fl_RX11_89 rfl (k_dg dt_X11_best_0 14 25 (.getfield 89) 3 rfl) ?_
      refine x_if_ne C (tgt := 34) (k_dg dt_X11_best_0 15 28 (.ifCond .ne 6) 3 rfl) (by decide) (fun _ => ?_) (fun _ => ?_)
      · refine x_bipush C (v := -4) (k_dg dt_X11_best_0 16 31 (.bipush (-4)) 2 rfl) (by decide) ?_
        exact x_iret C (by decide) (by decide) (k_dg dt_X11_best_0 17 33 (.ireturn) 1 rfl)
      · refine x_iload_n C (k_dg dt_X11_best_0 18 34 (.iload_n 2) 1 rfl) 2 rfl ?_
        refine x_iconst C (v := 1) (k_dg dt_X11_best_0 19 35 (.iconst 1) 1 rfl) (by decide) ?_
        refine x_icmp_ne C (tgt := 46) (k_dg dt_X11_best_0 20 36 (.if_icmp .ne 10) 3 rfl) (by decide) (fun _ => ?_) (fun _ => ?_)
        · refine x_iload_n C (k_dg dt_X11_best_0 21 39 (.iload_n 1) 1 rfl) 1 rfl ?_
          refine x_if_ne C (tgt := 46) (k_dg dt_X11_best_0 22 40 (.ifCond .ne 6) 3 rfl) (by decide) (fun _ => ?_) (fun _ => ?_)
          · refine x_bipush C (v := -9) (k_dg dt_X11_best_0 23 43 (.bipush (-9)) 2 rfl) (by decide) ?_
            exact x_iret C (by decide) (by decide) (k_dg dt_X11_best_0 24 45 (.ireturn) 1 rfl)
          · exact m_X11_best_46 C p1 p2 M4
        · exact m_X11_best_46 C p1 p2 M4
theorem c_X11_best {Z : k_Z} (hg : k_Gd Z) (l : Launch) (p1 : Int32) (p2 : Int32) (M : k_M) : Con true Z l yX11_best cX11_best 4 (some .int) 22 0 0 emI [k_ra Z 0, Value.int p1, Value.int p2] M (f_X11_best p1 p2 M) := k_con hg (by decide) (Nat.le_of_ble_eq_true rfl) (fun G hl C => m_X11_best_0 C p1 p2 M)
theorem dt_X11_last_0 : k_dec cX11_last [(0, .aload_n 0, 1), (1, .getfield 19, 3), (4, .getfield 89, 3), (7, .ifCond .ne 6, 3), (10, .bipush (-4), 2), (12, .ireturn, 1), (13, .bipush 6, 2), (15, .istore_n 1, 1), (16, .iload_n 1, 1), (17, .ifCond .le 22, 3), (20, .aload_n 0, 1), (21, .getfield 19, 3), (24, .iload_n 1, 1), (25, .invokestatic 207, 3), (28, .ifCond .eq 5, 3), (31, .iload_n 1, 1), (32, .ireturn, 1), (33, .iinc 1 (-1), 3), (36, .goto (-20), 3), (39, .iconst 0, 1), (40, .ireturn, 1)] = true := by decide +kernel
def f_X11_last_16 : Nat → Int32 → k_M → (Int32 → k_M → Option (Int32 × k_M)) → (k_M → Option (Int32 × k_M)) → Option (Int32 × k_M)
  | 0, _, _, _, _ => none
  | n + 1, l1, M, kx31, kx39 => if l1 ≤ 0 then kx39 M else bd (f_X0_lasts 8 3 l1 M) (fun r1 M2 => if r1 = 0 then f_X11_last_16 n (l1 + (-1)) M2 kx31 kx39 else kx31 l1 M2)
theorem m_X11_last_16 {Z : k_Z} {G : k_G} (C : k_C Z G RX11 cX11_last (true, 2, 12, 0, 0) (some .int) "last") (kx31 : Int32 → k_M → Option (Int32 × k_M)) (kx39 : k_M → Option (Int32 × k_M)) (Hx31 : ∀ (l1 : Int32) (M : k_M), Sm Z G emI (true, 2, 12, 0, 0) (0, 0) 31 [(1, Value.int l1)] [] M (kx31 l1 M)) (Hx39 : ∀ (M : k_M), Sm Z G emI (true, 2, 12, 0, 0) (0, 0) 39 [] [] M (kx39 M)) : ∀ (n : Nat) (l1 : Int32) (M : k_M), Sm Z G emI (true, 2, 12, 0, 0) (0, 0) 16 [(0, k_ra Z 0), (1, Value.int l1)] [] M (f_X11_last_16 n l1 M kx31 kx39)
  | 0, _, _ => x_none
  | n + 1, l1, M => by
    have ih := m_X11_last_16 C kx31 kx39 Hx31 Hx39 n
    show Sm Z G emI _ _ _ _ _ _ (if l1 ≤ 0 then kx39 M else bd (f_X0_lasts 8 3 l1 M) (fun r1 M2 => if r1 = 0 then f_X11_last_16 n (l1 + (-1)) M2 kx31 kx39 else kx31 l1 M2))
    refine x_iload_n C (k_dg dt_X11_last_0 8 16 (.iload_n 1) 1 rfl) 1 rfl ?_
    refine x_if_le C (tgt := 39) (k_dg dt_X11_last_0 9 17 (.ifCond .le 22) 3 rfl) (by decide) (fun _ => ?_) (fun _ => ?_)
    · refine x_lv [] rfl ?_
      exact Hx39 M
    · refine x_aload_n C (k_dg dt_X11_last_0 10 20 (.aload_n 0) 1 rfl) 0 rfl ?_
      refine x_getR C (a := 0) (j := 1) 3 rfl rfl (by decide) fl_RX11_19 rfl rfl rfl (k_dg dt_X11_last_0 11 21 (.getfield 19) 3 rfl) ?_
      refine x_iload_n C (k_dg dt_X11_last_0 12 24 (.iload_n 1) 1 rfl) 1 rfl ?_
      refine x_callS C (vs := [k_ra Z 3, Value.int l1]) (rest := []) (c_X0_lasts C.2.2.2.2.2.2.2.2.2 G.2.1 8 3 l1 M isW3) cy_X0_lasts lk_RX11_207 stt_X0_lasts (by decide) (by decide) (by decide) (by decide) rfl rfl (Nat.le_of_ble_eq_true rfl) (k_dg dt_X11_last_0 13 25 (.invokestatic 207) 3 rfl) (fun r1 M2 => ?_)
      show Sm Z G _ _ _ _ [(0, k_ra Z 0), (1, Value.int l1)] [Value.int r1] _ _
      refine x_if_eq C (tgt := 33) (k_dg dt_X11_last_0 14 28 (.ifCond .eq 5) 3 rfl) (by decide) (fun _ => ?_) (fun _ => ?_)
      · refine x_iinc C (v := -1) (lv' := [(1, Value.int (l1 + (-1))), (0, k_ra Z 0)]) (k_dg dt_X11_last_0 17 33 (.iinc 1 (-1)) 3 rfl) 1 rfl (by decide) (by decide) rfl ?_
        refine x_goto C (tgt := 16) (k_dg dt_X11_last_0 18 36 (.goto (-20)) 3 rfl) (by decide) ?_
        refine x_lv [1, 0] rfl ?_
        exact ih (l1 + (-1)) M2
      · refine x_lv [1] rfl ?_
        exact Hx31 l1 M2
def f_X11_last_31 (l1 : Int32) (M : k_M) : Option (Int32 × k_M) := some (l1, M)
theorem m_X11_last_31 {Z : k_Z} {G : k_G} (C : k_C Z G RX11 cX11_last (true, 2, 12, 0, 0) (some .int) "last") (l1 : Int32) (M : k_M) : Sm Z G emI (true, 2, 12, 0, 0) (0, 0) 31 [(1, Value.int l1)] [] M (f_X11_last_31 l1 M) := by
  show Sm Z G emI _ _ _ _ _ _ (some (l1, M))
  refine x_iload_n C (k_dg dt_X11_last_0 15 31 (.iload_n 1) 1 rfl) 0 rfl ?_
  exact x_iret C (by decide) (by decide) (k_dg dt_X11_last_0 16 32 (.ireturn) 1 rfl)
def f_X11_last_39 (M : k_M) : Option (Int32 × k_M) := some (0, M)
theorem m_X11_last_39 {Z : k_Z} {G : k_G} (C : k_C Z G RX11 cX11_last (true, 2, 12, 0, 0) (some .int) "last") (M : k_M) : Sm Z G emI (true, 2, 12, 0, 0) (0, 0) 39 [] [] M (f_X11_last_39 M) := by
  show Sm Z G emI _ _ _ _ _ _ (some (0, M))
  refine x_iconst C (v := 0) (k_dg dt_X11_last_0 19 39 (.iconst 0) 1 rfl) (by decide) ?_
  exact x_iret C (by decide) (by decide) (k_dg dt_X11_last_0 20 40 (.ireturn) 1 rfl)
def f_X11_last (M : k_M) : Option (Int32 × k_M) := if (M.1 3 3) = 0 then some (-4, M) else f_X11_last_16 k_fu 6 M (fun l1_ M_ => f_X11_last_31 l1_ M_) (fun M_ => f_X11_last_39 M_)
theorem m_X11_last_0 {Z : k_Z} {G : k_G} (C : k_C Z G RX11 cX11_last (true, 2, 12, 0, 0) (some .int) "last") (M : k_M) : Sm Z G emI (true, 2, 12, 0, 0) (0, 0) 0 [(0, k_ra Z 0)] [] M (f_X11_last M) := by
  show Sm Z G emI _ _ _ _ _ _ (if (M.1 3 3) = 0 then some (-4, M) else f_X11_last_16 k_fu 6 M (fun l1_ M_ => f_X11_last_31 l1_ M_) (fun M_ => f_X11_last_39 M_))
  refine x_aload_n C (k_dg dt_X11_last_0 0 0 (.aload_n 0) 1 rfl) 0 rfl ?_
  refine x_getR C (a := 0) (j := 1) 3 rfl rfl (by decide) fl_RX11_19 rfl rfl rfl (k_dg dt_X11_last_0 1 1 (.getfield 19) 3 rfl) ?_
  refine x_getI C (a := 3) (j := 3) rfl rfl (by decide) fl_RX11_89 rfl (k_dg dt_X11_last_0 2 4 (.getfield 89) 3 rfl) ?_
  refine x_if_ne C (tgt := 13) (k_dg dt_X11_last_0 3 7 (.ifCond .ne 6) 3 rfl) (by decide) (fun _ => ?_) (fun _ => ?_)
  · refine x_bipush C (v := -4) (k_dg dt_X11_last_0 4 10 (.bipush (-4)) 2 rfl) (by decide) ?_
    exact x_iret C (by decide) (by decide) (k_dg dt_X11_last_0 5 12 (.ireturn) 1 rfl)
  · refine x_bipush C (v := 6) (k_dg dt_X11_last_0 6 13 (.bipush 6) 2 rfl) (by decide) ?_
    refine x_istore_n C (lv' := [(1, Value.int 6), (0, k_ra Z 0)]) (k_dg dt_X11_last_0 7 15 (.istore_n 1) 1 rfl) (by decide) rfl ?_
    refine x_lv [1, 0] rfl ?_
    exact m_X11_last_16 C (fun l1_ M_ => f_X11_last_31 l1_ M_) (fun M_ => f_X11_last_39 M_) (fun l1_ M_ => m_X11_last_31 C l1_ M_) (fun M_ => m_X11_last_39 C M_) k_fu 6 M
theorem c_X11_last {Z : k_Z} (hg : k_Gd Z) (l : Launch) (M : k_M) : Con true Z l yX11_last cX11_last 2 (some .int) 12 0 0 emI [k_ra Z 0] M (f_X11_last M) := k_con hg (by decide) (Nat.le_of_ble_eq_true rfl) (fun G hl C => m_X11_last_0 C M)
theorem dt_X11_surest_0 : k_dec cX11_surest [(0, .iload_n 1, 1), (1, .iconst 0, 1), (2, .iconst 4, 1), (3, .invokestatic 95, 3), (6, .ifCond .eq 12, 3), (9, .iload_n 2, 1), (10, .iconst 0, 1), (11, .iconst 1, 1), (12, .invokestatic 95, 3), (15, .ifCond .ne 5, 3), (18, .iconst (-1), 1), (19, .ireturn, 1), (20, .aload_n 0, 1), (21, .getfield 19, 3), (24, .getfield 89, 3), (27, .ifCond .ne 6, 3), (30, .bipush (-4), 2), (32, .ireturn, 1), (33, .aload_n 0, 1), (34, .getfield 19, 3), (37, .iload_n 1, 1), (38, .invokestatic 211, 3), (41, .istore_n 3, 1), (42, .sipush 256, 3), (45, .istore 4, 2), (47, .iload 4, 2), (49, .iconst 1, 1), (50, .if_icmp .le 22, 3), (53, .iload_n 3, 1), (54, .iconst 2, 1), (55, .irem, 1), (56, .ifCond .ne 16, 3), (59, .iload_n 3, 1), (60, .iconst 2, 1), (61, .idiv, 1), (62, .istore_n 3, 1), (63, .iload 4, 2), (65, .iconst 2, 1), (66, .idiv, 1), (67, .istore 4, 2)] = true := by decide +kernel
theorem dt_X11_surest_1 : k_dec cX11_surest [(69, .goto (-22), 3), (72, .iload_n 2, 1), (73, .ifCond .ne 7, 3), (76, .iload_n 3, 1), (77, .goto 5, 3), (80, .iload 4, 2), (82, .ireturn, 1)] = true := by decide +kernel
def f_X11_surest_47 : Nat → Int32 → Int32 → Int32 → k_M → (Int32 → Int32 → Int32 → k_M → Option (Int32 × k_M)) → Option (Int32 × k_M)
  | 0, _, _, _, _, _ => none
  | n + 1, l2, l3, l4, M, kx72 => if l4 ≤ 1 then kx72 l2 l3 l4 M else if (l3 - l3 / 2 * 2) = 0 then bN (l3 / 2) (fun v1 => bN (l4 / 2) (fun v2 => f_X11_surest_47 n l2 v1 v2 M kx72)) else kx72 l2 l3 l4 M
theorem m_X11_surest_47 {Z : k_Z} {G : k_G} (C : k_C Z G RX11 cX11_surest (true, 5, 22, 0, 0) (some .int) "surest") (kx72 : Int32 → Int32 → Int32 → k_M → Option (Int32 × k_M)) (Hx72 : ∀ (l2 : Int32) (l3 : Int32) (l4 : Int32) (M : k_M), Sm Z G emI (true, 5, 22, 0, 0) (0, 0) 72 [(2, Value.int l2), (3, Value.int l3), (4, Value.int l4)] [] M (kx72 l2 l3 l4 M)) : ∀ (n : Nat) (l2 : Int32) (l3 : Int32) (l4 : Int32) (M : k_M), Sm Z G emI (true, 5, 22, 0, 0) (0, 0) 47 [(2, Value.int l2), (3, Value.int l3), (4, Value.int l4)] [] M (f_X11_surest_47 n l2 l3 l4 M kx72)
  | 0, _, _, _, _ => x_none
  | n + 1, l2, l3, l4, M => by
    have ih := m_X11_surest_47 C kx72 Hx72 n
    show Sm Z G emI _ _ _ _ _ _ (if l4 ≤ 1 then kx72 l2 l3 l4 M else if (l3 - l3 / 2 * 2) = 0 then bN (l3 / 2) (fun v1 => bN (l4 / 2) (fun v2 => f_X11_surest_47 n l2 v1 v2 M kx72)) else kx72 l2 l3 l4 M)
    refine x_iload C (k_dg dt_X11_surest_0 25 47 (.iload 4) 2 rfl) 2 rfl ?_
    refine x_iconst C (v := 1) (k_dg dt_X11_surest_0 26 49 (.iconst 1) 1 rfl) (by decide) ?_
    refine x_icmp_le C (tgt := 72) (k_dg dt_X11_surest_0 27 50 (.if_icmp .le 22) 3 rfl) (by decide) (fun _ => ?_) (fun _ => ?_)
    · exact Hx72 l2 l3 l4 M
    · refine x_iload_n C (k_dg dt_X11_surest_0 28 53 (.iload_n 3) 1 rfl) 1 rfl ?_
      refine x_iconst C (v := 2) (k_dg dt_X11_surest_0 29 54 (.iconst 2) 1 rfl) (by decide) ?_
      refine x_iremC C (k_dg dt_X11_surest_0 30 55 (.irem) 1 rfl) (by decide) ?_
      refine x_if_ne C (tgt := 72) (k_dg dt_X11_surest_0 31 56 (.ifCond .ne 16) 3 rfl) (by decide) (fun _ => ?_) (fun _ => ?_)
      · refine x_iload_n C (k_dg dt_X11_surest_0 32 59 (.iload_n 3) 1 rfl) 1 rfl ?_
        refine x_iconst C (v := 2) (k_dg dt_X11_surest_0 33 60 (.iconst 2) 1 rfl) (by decide) ?_
        refine x_idivC C (k_dg dt_X11_surest_0 34 61 (.idiv) 1 rfl) (by decide) ?_
        refine x_nm (w := Value.int) (fun v1 _ => ?_)
        refine x_istore_n C (lv' := [(3, Value.int v1), (2, Value.int l2), (4, Value.int l4)]) (k_dg dt_X11_surest_0 35 62 (.istore_n 3) 1 rfl) (by decide) rfl ?_
        refine x_iload C (k_dg dt_X11_surest_0 36 63 (.iload 4) 2 rfl) 2 rfl ?_
        refine x_iconst C (v := 2) (k_dg dt_X11_surest_0 37 65 (.iconst 2) 1 rfl) (by decide) ?_
        refine x_idivC C (k_dg dt_X11_surest_0 38 66 (.idiv) 1 rfl) (by decide) ?_
        refine x_nm (w := Value.int) (fun v2 _ => ?_)
        refine x_istore C (lv' := [(4, Value.int v2), (3, Value.int v1), (2, Value.int l2)]) (k_dg dt_X11_surest_0 39 67 (.istore 4) 2 rfl) (by decide) rfl ?_
        refine x_goto C (tgt := 47) (k_dg dt_X11_surest_1 0 69 (.goto (-22)) 3 rfl) (by decide) ?_
        refine x_lv [2, 1, 0] rfl ?_
        exact ih l2 v1 v2 M
      · exact Hx72 l2 l3 l4 M
def f_X11_surest_72 (l2 : Int32) (l3 : Int32) (l4 : Int32) (M : k_M) : Option (Int32 × k_M) := if l2 = 0 then some (l3, M) else some (l4, M)
theorem m_X11_surest_72 {Z : k_Z} {G : k_G} (C : k_C Z G RX11 cX11_surest (true, 5, 22, 0, 0) (some .int) "surest") (l2 : Int32) (l3 : Int32) (l4 : Int32) (M : k_M) : Sm Z G emI (true, 5, 22, 0, 0) (0, 0) 72 [(2, Value.int l2), (3, Value.int l3), (4, Value.int l4)] [] M (f_X11_surest_72 l2 l3 l4 M) := by
  show Sm Z G emI _ _ _ _ _ _ (if l2 = 0 then some (l3, M) else some (l4, M))
  refine x_iload_n C (k_dg dt_X11_surest_1 1 72 (.iload_n 2) 1 rfl) 0 rfl ?_
  refine x_if_ne C (tgt := 80) (k_dg dt_X11_surest_1 2 73 (.ifCond .ne 7) 3 rfl) (by decide) (fun _ => ?_) (fun _ => ?_)
  · refine x_iload_n C (k_dg dt_X11_surest_1 3 76 (.iload_n 3) 1 rfl) 1 rfl ?_
    refine x_goto C (tgt := 82) (k_dg dt_X11_surest_1 4 77 (.goto 5) 3 rfl) (by decide) ?_
    exact x_iret C (by decide) (by decide) (k_dg dt_X11_surest_1 6 82 (.ireturn) 1 rfl)
  · refine x_iload C (k_dg dt_X11_surest_1 5 80 (.iload 4) 2 rfl) 2 rfl ?_
    exact x_iret C (by decide) (by decide) (k_dg dt_X11_surest_1 6 82 (.ireturn) 1 rfl)
def f_X11_surest (p1 : Int32) (p2 : Int32) (M : k_M) : Option (Int32 × k_M) := bd (f_X11_within p1 0 4 M) (fun r1 M2 => if r1 = 0 then some (-1, M2) else bd (f_X11_within p2 0 1 M2) (fun r3 M4 => if r3 = 0 then some (-1, M4) else if (M4.1 3 3) = 0 then some (-4, M4) else bd (f_X0_sureness 6 3 p1 M4) (fun r5 M6 => f_X11_surest_47 k_fu p2 r5 256 M6 (fun l2_ l3_ l4_ M_ => f_X11_surest_72 l2_ l3_ l4_ M_))))
theorem m_X11_surest_0 {Z : k_Z} {G : k_G} (C : k_C Z G RX11 cX11_surest (true, 5, 22, 0, 0) (some .int) "surest") (p1 : Int32) (p2 : Int32) (M : k_M) : Sm Z G emI (true, 5, 22, 0, 0) (0, 0) 0 [(0, k_ra Z 0), (1, Value.int p1), (2, Value.int p2)] [] M (f_X11_surest p1 p2 M) := by
  show Sm Z G emI _ _ _ _ _ _ (bd (f_X11_within p1 0 4 M) (fun r1 M2 => if r1 = 0 then some (-1, M2) else bd (f_X11_within p2 0 1 M2) (fun r3 M4 => if r3 = 0 then some (-1, M4) else if (M4.1 3 3) = 0 then some (-4, M4) else bd (f_X0_sureness 6 3 p1 M4) (fun r5 M6 => f_X11_surest_47 k_fu p2 r5 256 M6 (fun l2_ l3_ l4_ M_ => f_X11_surest_72 l2_ l3_ l4_ M_)))))
  refine x_iload_n C (k_dg dt_X11_surest_0 0 0 (.iload_n 1) 1 rfl) 1 rfl ?_
  refine x_iconst C (v := 0) (k_dg dt_X11_surest_0 1 1 (.iconst 0) 1 rfl) (by decide) ?_
  refine x_iconst C (v := 4) (k_dg dt_X11_surest_0 2 2 (.iconst 4) 1 rfl) (by decide) ?_
  refine x_callS C (vs := [Value.int p1, Value.int 0, Value.int 4]) (rest := []) (c_X11_within C.2.2.2.2.2.2.2.2.2 G.2.1 p1 0 4 M) cy_X11_within lk_RX11_95 stt_X11_within (by decide) (by decide) (by decide) (by decide) rfl rfl (Nat.le_of_ble_eq_true rfl) (k_dg dt_X11_surest_0 3 3 (.invokestatic 95) 3 rfl) (fun r1 M2 => ?_)
  show Sm Z G _ _ _ _ [(0, k_ra Z 0), (1, Value.int p1), (2, Value.int p2)] [Value.int r1] _ _
  refine x_if_eq C (tgt := 18) (k_dg dt_X11_surest_0 4 6 (.ifCond .eq 12) 3 rfl) (by decide) (fun _ => ?_) (fun _ => ?_)
  · refine x_iconst C (v := -1) (k_dg dt_X11_surest_0 10 18 (.iconst (-1)) 1 rfl) (by decide) ?_
    exact x_iret C (by decide) (by decide) (k_dg dt_X11_surest_0 11 19 (.ireturn) 1 rfl)
  · refine x_iload_n C (k_dg dt_X11_surest_0 5 9 (.iload_n 2) 1 rfl) 2 rfl ?_
    refine x_iconst C (v := 0) (k_dg dt_X11_surest_0 6 10 (.iconst 0) 1 rfl) (by decide) ?_
    refine x_iconst C (v := 1) (k_dg dt_X11_surest_0 7 11 (.iconst 1) 1 rfl) (by decide) ?_
    refine x_callS C (vs := [Value.int p2, Value.int 0, Value.int 1]) (rest := []) (c_X11_within C.2.2.2.2.2.2.2.2.2 G.2.1 p2 0 1 M2) cy_X11_within lk_RX11_95 stt_X11_within (by decide) (by decide) (by decide) (by decide) rfl rfl (Nat.le_of_ble_eq_true rfl) (k_dg dt_X11_surest_0 8 12 (.invokestatic 95) 3 rfl) (fun r3 M4 => ?_)
    show Sm Z G _ _ _ _ [(0, k_ra Z 0), (1, Value.int p1), (2, Value.int p2)] [Value.int r3] _ _
    refine x_if_ne C (tgt := 20) (k_dg dt_X11_surest_0 9 15 (.ifCond .ne 5) 3 rfl) (by decide) (fun _ => ?_) (fun _ => ?_)
    · refine x_iconst C (v := -1) (k_dg dt_X11_surest_0 10 18 (.iconst (-1)) 1 rfl) (by decide) ?_
      exact x_iret C (by decide) (by decide) (k_dg dt_X11_surest_0 11 19 (.ireturn) 1 rfl)
    · refine x_aload_n C (k_dg dt_X11_surest_0 12 20 (.aload_n 0) 1 rfl) 0 rfl ?_
      refine x_getR C (a := 0) (j := 1) 3 rfl rfl (by decide) fl_RX11_19 rfl rfl rfl (k_dg dt_X11_surest_0 13 21 (.getfield 19) 3 rfl) ?_
      refine x_getI C (a := 3) (j := 3) rfl rfl (by decide) fl_RX11_89 rfl (k_dg dt_X11_surest_0 14 24 (.getfield 89) 3 rfl) ?_
      refine x_if_ne C (tgt := 33) (k_dg dt_X11_surest_0 15 27 (.ifCond .ne 6) 3 rfl) (by decide) (fun _ => ?_) (fun _ => ?_)
      · refine x_bipush C (v := -4) (k_dg dt_X11_surest_0 16 30 (.bipush (-4)) 2 rfl) (by decide) ?_
        exact x_iret C (by decide) (by decide) (k_dg dt_X11_surest_0 17 32 (.ireturn) 1 rfl)
      · refine x_aload_n C (k_dg dt_X11_surest_0 18 33 (.aload_n 0) 1 rfl) 0 rfl ?_
        refine x_getR C (a := 0) (j := 1) 3 rfl rfl (by decide) fl_RX11_19 rfl rfl rfl (k_dg dt_X11_surest_0 19 34 (.getfield 19) 3 rfl) ?_
        refine x_iload_n C (k_dg dt_X11_surest_0 20 37 (.iload_n 1) 1 rfl) 1 rfl ?_
        refine x_callS C (vs := [k_ra Z 3, Value.int p1]) (rest := []) (c_X0_sureness C.2.2.2.2.2.2.2.2.2 G.2.1 6 3 p1 M4 isW3) cy_X0_sureness lk_RX11_211 stt_X0_sureness (by decide) (by decide) (by decide) (by decide) rfl rfl (Nat.le_of_ble_eq_true rfl) (k_dg dt_X11_surest_0 21 38 (.invokestatic 211) 3 rfl) (fun r5 M6 => ?_)
        show Sm Z G _ _ _ _ [(0, k_ra Z 0), (1, Value.int p1), (2, Value.int p2)] [Value.int r5] _ _
        refine x_istore_n C (lv' := [(3, Value.int r5), (0, k_ra Z 0), (1, Value.int p1), (2, Value.int p2)]) (k_dg dt_X11_surest_0 22 41 (.istore_n 3) 1 rfl) (by decide) rfl ?_
        refine x_sipush C (v := 256) (k_dg dt_X11_surest_0 23 42 (.sipush 256) 3 rfl) (by decide) ?_
        refine x_istore C (lv' := [(4, Value.int 256), (3, Value.int r5), (0, k_ra Z 0), (1, Value.int p1), (2, Value.int p2)]) (k_dg dt_X11_surest_0 24 45 (.istore 4) 2 rfl) (by decide) rfl ?_
        refine x_lv [4, 1, 0] rfl ?_
        exact m_X11_surest_47 C (fun l2_ l3_ l4_ M_ => f_X11_surest_72 l2_ l3_ l4_ M_) (fun l2_ l3_ l4_ M_ => m_X11_surest_72 C l2_ l3_ l4_ M_) k_fu p2 r5 256 M6
theorem c_X11_surest {Z : k_Z} (hg : k_Gd Z) (l : Launch) (p1 : Int32) (p2 : Int32) (M : k_M) : Con true Z l yX11_surest cX11_surest 5 (some .int) 22 0 0 emI [k_ra Z 0, Value.int p1, Value.int p2] M (f_X11_surest p1 p2 M) := k_con hg (by decide) (Nat.le_of_ble_eq_true rfl) (fun G hl C => m_X11_surest_0 C p1 p2 M)
theorem dt_X11_light_0 : k_dec cX11_light [(0, .iload_n 1, 1), (1, .iconst 0, 1), (2, .bipush 6, 2), (4, .invokestatic 95, 3), (7, .ifCond .ne 5, 3), (10, .iconst (-1), 1), (11, .ireturn, 1), (12, .aload_n 0, 1), (13, .getfield 19, 3), (16, .getfield 89, 3), (19, .ifCond .ne 6, 3), (22, .bipush (-4), 2), (24, .ireturn, 1), (25, .aload_n 0, 1), (26, .getfield 19, 3), (29, .getfield 159, 3), (32, .bipush 7, 2), (34, .iaload, 1), (35, .istore_n 2, 1), (36, .bipush (-3), 2), (38, .istore_n 3, 1), (39, .iload_n 2, 1), (40, .istore 4, 2), (42, .iload 4, 2), (44, .ifCond .lt 41, 3), (47, .iload_n 3, 1), (48, .bipush (-3), 2), (50, .if_icmp .ne 35, 3), (53, .aload_n 0, 1), (54, .getfield 19, 3), (57, .getfield 159, 3), (60, .bipush 7, 2), (62, .iload 4, 2), (64, .iastore, 1), (65, .aload_n 0, 1), (66, .getfield 19, 3), (69, .iload_n 1, 1), (70, .invokestatic 207, 3), (73, .ifCond .eq 6, 3), (76, .iload 4, 2)] = true := by decide +kernel
theorem dt_X11_light_1 : k_dec cX11_light [(78, .istore_n 3, 1), (79, .iinc 4 (-1), 3), (82, .goto (-40), 3), (85, .aload_n 0, 1), (86, .getfield 19, 3), (89, .getfield 159, 3), (92, .bipush 7, 2), (94, .iload_n 2, 1), (95, .iastore, 1), (96, .iload_n 3, 1), (97, .ireturn, 1)] = true := by decide +kernel
def f_X11_light_79 (l1 : Int32) (l2 : Int32) (l3 : Int32) (l4 : Int32) (M : k_M) (kb : Int32 → Int32 → Int32 → Int32 → k_M → Option (Int32 × k_M)) (kx85 : Int32 → Int32 → k_M → Option (Int32 × k_M)) : Option (Int32 × k_M) := kb l1 l2 l3 (l4 + (-1)) M
theorem m_X11_light_79 {Z : k_Z} {G : k_G} (C : k_C Z G RX11 cX11_light (true, 5, 12, 0, 0) (some .int) "light") (kb : Int32 → Int32 → Int32 → Int32 → k_M → Option (Int32 × k_M)) (kx85 : Int32 → Int32 → k_M → Option (Int32 × k_M)) (Hb : ∀ (l1 : Int32) (l2 : Int32) (l3 : Int32) (l4 : Int32) (M : k_M), Sm Z G emI (true, 5, 12, 0, 0) (0, 0) 42 [(0, k_ra Z 0), (1, Value.int l1), (2, Value.int l2), (3, Value.int l3), (4, Value.int l4)] [] M (kb l1 l2 l3 l4 M)) (Hx85 : ∀ (l2 : Int32) (l3 : Int32) (M : k_M), Sm Z G emI (true, 5, 12, 0, 0) (0, 0) 85 [(0, k_ra Z 0), (2, Value.int l2), (3, Value.int l3)] [] M (kx85 l2 l3 M)) (l1 : Int32) (l2 : Int32) (l3 : Int32) (l4 : Int32) (M : k_M) : Sm Z G emI (true, 5, 12, 0, 0) (0, 0) 79 [(0, k_ra Z 0), (1, Value.int l1), (2, Value.int l2), (3, Value.int l3), (4, Value.int l4)] [] M (f_X11_light_79 l1 l2 l3 l4 M kb kx85) := by
  show Sm Z G emI _ _ _ _ _ _ (kb l1 l2 l3 (l4 + (-1)) M)
  refine x_iinc C (v := -1) (lv' := [(4, Value.int (l4 + (-1))), (0, k_ra Z 0), (1, Value.int l1), (2, Value.int l2), (3, Value.int l3)]) (k_dg dt_X11_light_1 1 79 (.iinc 4 (-1)) 3 rfl) 4 rfl (by decide) (by decide) rfl ?_
  refine x_goto C (tgt := 42) (k_dg dt_X11_light_1 2 82 (.goto (-40)) 3 rfl) (by decide) ?_
  refine x_lv [1, 2, 3, 4, 0] rfl ?_
  exact Hb l1 l2 l3 (l4 + (-1)) M
def f_X11_light_42 : Nat → Int32 → Int32 → Int32 → Int32 → k_M → (Int32 → Int32 → k_M → Option (Int32 × k_M)) → Option (Int32 × k_M)
  | 0, _, _, _, _, _, _ => none
  | n + 1, l1, l2, l3, l4, M, kx85 => if l4 < 0 then kx85 l2 l3 M else if l3 = (-3) then wrI M 19 13 7 l4 (fun M1 => bd (f_X0_lasts 8 3 l1 M1) (fun r2 M3 => if r2 = 0 then f_X11_light_79 l1 l2 l3 l4 M3 ((fun l1_ l2_ l3_ l4_ M_ => f_X11_light_42 n l1_ l2_ l3_ l4_ M_ kx85)) kx85 else f_X11_light_79 l1 l2 l4 l4 M3 ((fun l1_ l2_ l3_ l4_ M_ => f_X11_light_42 n l1_ l2_ l3_ l4_ M_ kx85)) kx85)) else kx85 l2 l3 M
theorem m_X11_light_42 {Z : k_Z} {G : k_G} (C : k_C Z G RX11 cX11_light (true, 5, 12, 0, 0) (some .int) "light") (kx85 : Int32 → Int32 → k_M → Option (Int32 × k_M)) (Hx85 : ∀ (l2 : Int32) (l3 : Int32) (M : k_M), Sm Z G emI (true, 5, 12, 0, 0) (0, 0) 85 [(0, k_ra Z 0), (2, Value.int l2), (3, Value.int l3)] [] M (kx85 l2 l3 M)) : ∀ (n : Nat) (l1 : Int32) (l2 : Int32) (l3 : Int32) (l4 : Int32) (M : k_M), Sm Z G emI (true, 5, 12, 0, 0) (0, 0) 42 [(0, k_ra Z 0), (1, Value.int l1), (2, Value.int l2), (3, Value.int l3), (4, Value.int l4)] [] M (f_X11_light_42 n l1 l2 l3 l4 M kx85)
  | 0, _, _, _, _, _ => x_none
  | n + 1, l1, l2, l3, l4, M => by
    have ih := m_X11_light_42 C kx85 Hx85 n
    show Sm Z G emI _ _ _ _ _ _ (if l4 < 0 then kx85 l2 l3 M else if l3 = (-3) then wrI M 19 13 7 l4 (fun M1 => bd (f_X0_lasts 8 3 l1 M1) (fun r2 M3 => if r2 = 0 then f_X11_light_79 l1 l2 l3 l4 M3 ((fun l1_ l2_ l3_ l4_ M_ => f_X11_light_42 n l1_ l2_ l3_ l4_ M_ kx85)) kx85 else f_X11_light_79 l1 l2 l4 l4 M3 ((fun l1_ l2_ l3_ l4_ M_ => f_X11_light_42 n l1_ l2_ l3_ l4_ M_ kx85)) kx85)) else kx85 l2 l3 M)
    refine x_iload C (k_dg dt_X11_light_0 23 42 (.iload 4) 2 rfl) 4 rfl ?_
    refine x_if_lt C (tgt := 85) (k_dg dt_X11_light_0 24 44 (.ifCond .lt 41) 3 rfl) (by decide) (fun _ => ?_) (fun _ => ?_)
    · refine x_lv [0, 2, 3] rfl ?_
      exact Hx85 l2 l3 M
    · refine x_iload_n C (k_dg dt_X11_light_0 25 47 (.iload_n 3) 1 rfl) 3 rfl ?_
      refine x_bipush C (v := -3) (k_dg dt_X11_light_0 26 48 (.bipush (-3)) 2 rfl) (by decide) ?_
      refine x_icmp_ne C (tgt := 85) (k_dg dt_X11_light_0 27 50 (.if_icmp .ne 35) 3 rfl) (by decide) (fun _ => ?_) (fun _ => ?_)
      · refine x_aload_n C (k_dg dt_X11_light_0 28 53 (.aload_n 0) 1 rfl) 0 rfl ?_
        refine x_getR C (a := 0) (j := 1) 3 rfl rfl (by decide) fl_RX11_19 rfl rfl rfl (k_dg dt_X11_light_0 29 54 (.getfield 19) 3 rfl) ?_
        refine x_getR C (a := 3) (j := 1) 19 rfl rfl (by decide) fl_RX11_159 rfl rfl rfl (k_dg dt_X11_light_0 30 57 (.getfield 159) 3 rfl) ?_
        refine x_bipush C (v := 7) (k_dg dt_X11_light_0 31 60 (.bipush 7) 2 rfl) (by decide) ?_
        refine x_iload C (k_dg dt_X11_light_0 32 62 (.iload 4) 2 rfl) 4 rfl ?_
        refine x_iast C (a := 19) (n := 13) rfl rfl (k_dg dt_X11_light_0 33 64 (.iastore) 1 rfl) (fun M1 => ?_)
        refine x_aload_n C (k_dg dt_X11_light_0 34 65 (.aload_n 0) 1 rfl) 0 rfl ?_
        refine x_getR C (a := 0) (j := 1) 3 rfl rfl (by decide) fl_RX11_19 rfl rfl rfl (k_dg dt_X11_light_0 35 66 (.getfield 19) 3 rfl) ?_
        refine x_iload_n C (k_dg dt_X11_light_0 36 69 (.iload_n 1) 1 rfl) 1 rfl ?_
        refine x_callS C (vs := [k_ra Z 3, Value.int l1]) (rest := []) (c_X0_lasts C.2.2.2.2.2.2.2.2.2 G.2.1 8 3 l1 M1 isW3) cy_X0_lasts lk_RX11_207 stt_X0_lasts (by decide) (by decide) (by decide) (by decide) rfl rfl (Nat.le_of_ble_eq_true rfl) (k_dg dt_X11_light_0 37 70 (.invokestatic 207) 3 rfl) (fun r2 M3 => ?_)
        show Sm Z G _ _ _ _ [(0, k_ra Z 0), (1, Value.int l1), (2, Value.int l2), (3, Value.int l3), (4, Value.int l4)] [Value.int r2] _ _
        refine x_if_eq C (tgt := 79) (k_dg dt_X11_light_0 38 73 (.ifCond .eq 6) 3 rfl) (by decide) (fun _ => ?_) (fun _ => ?_)
        · exact m_X11_light_79 C ((fun l1_ l2_ l3_ l4_ M_ => f_X11_light_42 n l1_ l2_ l3_ l4_ M_ kx85)) kx85 ih Hx85 l1 l2 l3 l4 M3
        · refine x_iload C (k_dg dt_X11_light_0 39 76 (.iload 4) 2 rfl) 4 rfl ?_
          refine x_istore_n C (lv' := [(3, Value.int l4), (0, k_ra Z 0), (1, Value.int l1), (2, Value.int l2), (4, Value.int l4)]) (k_dg dt_X11_light_1 0 78 (.istore_n 3) 1 rfl) (by decide) rfl ?_
          refine x_lv [1, 2, 3, 0, 4] rfl ?_
          exact m_X11_light_79 C ((fun l1_ l2_ l3_ l4_ M_ => f_X11_light_42 n l1_ l2_ l3_ l4_ M_ kx85)) kx85 ih Hx85 l1 l2 l4 l4 M3
      · refine x_lv [0, 2, 3] rfl ?_
        exact Hx85 l2 l3 M
def f_X11_light_85 (l2 : Int32) (l3 : Int32) (M : k_M) : Option (Int32 × k_M) := wrI M 19 13 7 l2 (fun M1 => some (l3, M1))
theorem m_X11_light_85 {Z : k_Z} {G : k_G} (C : k_C Z G RX11 cX11_light (true, 5, 12, 0, 0) (some .int) "light") (l2 : Int32) (l3 : Int32) (M : k_M) : Sm Z G emI (true, 5, 12, 0, 0) (0, 0) 85 [(0, k_ra Z 0), (2, Value.int l2), (3, Value.int l3)] [] M (f_X11_light_85 l2 l3 M) := by
  show Sm Z G emI _ _ _ _ _ _ (wrI M 19 13 7 l2 (fun M1 => some (l3, M1)))
  refine x_aload_n C (k_dg dt_X11_light_1 3 85 (.aload_n 0) 1 rfl) 0 rfl ?_
  refine x_getR C (a := 0) (j := 1) 3 rfl rfl (by decide) fl_RX11_19 rfl rfl rfl (k_dg dt_X11_light_1 4 86 (.getfield 19) 3 rfl) ?_
  refine x_getR C (a := 3) (j := 1) 19 rfl rfl (by decide) fl_RX11_159 rfl rfl rfl (k_dg dt_X11_light_1 5 89 (.getfield 159) 3 rfl) ?_
  refine x_bipush C (v := 7) (k_dg dt_X11_light_1 6 92 (.bipush 7) 2 rfl) (by decide) ?_
  refine x_iload_n C (k_dg dt_X11_light_1 7 94 (.iload_n 2) 1 rfl) 1 rfl ?_
  refine x_iast C (a := 19) (n := 13) rfl rfl (k_dg dt_X11_light_1 8 95 (.iastore) 1 rfl) (fun M1 => ?_)
  refine x_iload_n C (k_dg dt_X11_light_1 9 96 (.iload_n 3) 1 rfl) 2 rfl ?_
  exact x_iret C (by decide) (by decide) (k_dg dt_X11_light_1 10 97 (.ireturn) 1 rfl)
def f_X11_light (p1 : Int32) (M : k_M) : Option (Int32 × k_M) := bd (f_X11_within p1 0 6 M) (fun r1 M2 => if r1 = 0 then some (-1, M2) else if (M2.1 3 3) = 0 then some (-4, M2) else rdI M2 19 13 7 (fun v3 => bN (-3) (fun v4 => f_X11_light_42 k_fu p1 v3 v4 v3 M2 (fun l2_ l3_ M_ => f_X11_light_85 l2_ l3_ M_))))
theorem m_X11_light_0 {Z : k_Z} {G : k_G} (C : k_C Z G RX11 cX11_light (true, 5, 12, 0, 0) (some .int) "light") (p1 : Int32) (M : k_M) : Sm Z G emI (true, 5, 12, 0, 0) (0, 0) 0 [(0, k_ra Z 0), (1, Value.int p1)] [] M (f_X11_light p1 M) := by
  show Sm Z G emI _ _ _ _ _ _ (bd (f_X11_within p1 0 6 M) (fun r1 M2 => if r1 = 0 then some (-1, M2) else if (M2.1 3 3) = 0 then some (-4, M2) else rdI M2 19 13 7 (fun v3 => bN (-3) (fun v4 => f_X11_light_42 k_fu p1 v3 v4 v3 M2 (fun l2_ l3_ M_ => f_X11_light_85 l2_ l3_ M_)))))
  refine x_iload_n C (k_dg dt_X11_light_0 0 0 (.iload_n 1) 1 rfl) 1 rfl ?_
  refine x_iconst C (v := 0) (k_dg dt_X11_light_0 1 1 (.iconst 0) 1 rfl) (by decide) ?_
  refine x_bipush C (v := 6) (k_dg dt_X11_light_0 2 2 (.bipush 6) 2 rfl) (by decide) ?_
  refine x_callS C (vs := [Value.int p1, Value.int 0, Value.int 6]) (rest := []) (c_X11_within C.2.2.2.2.2.2.2.2.2 G.2.1 p1 0 6 M) cy_X11_within lk_RX11_95 stt_X11_within (by decide) (by decide) (by decide) (by decide) rfl rfl (Nat.le_of_ble_eq_true rfl) (k_dg dt_X11_light_0 3 4 (.invokestatic 95) 3 rfl) (fun r1 M2 => ?_)
  show Sm Z G _ _ _ _ [(0, k_ra Z 0), (1, Value.int p1)] [Value.int r1] _ _
  refine x_if_ne C (tgt := 12) (k_dg dt_X11_light_0 4 7 (.ifCond .ne 5) 3 rfl) (by decide) (fun _ => ?_) (fun _ => ?_)
  · refine x_iconst C (v := -1) (k_dg dt_X11_light_0 5 10 (.iconst (-1)) 1 rfl) (by decide) ?_
    exact x_iret C (by decide) (by decide) (k_dg dt_X11_light_0 6 11 (.ireturn) 1 rfl)
  · refine x_aload_n C (k_dg dt_X11_light_0 7 12 (.aload_n 0) 1 rfl) 0 rfl ?_
    refine x_getR C (a := 0) (j := 1) 3 rfl rfl (by decide) fl_RX11_19 rfl rfl rfl (k_dg dt_X11_light_0 8 13 (.getfield 19) 3 rfl) ?_
    refine x_getI C (a := 3) (j := 3) rfl rfl (by decide) fl_RX11_89 rfl (k_dg dt_X11_light_0 9 16 (.getfield 89) 3 rfl) ?_
    refine x_if_ne C (tgt := 25) (k_dg dt_X11_light_0 10 19 (.ifCond .ne 6) 3 rfl) (by decide) (fun _ => ?_) (fun _ => ?_)
    · refine x_bipush C (v := -4) (k_dg dt_X11_light_0 11 22 (.bipush (-4)) 2 rfl) (by decide) ?_
      exact x_iret C (by decide) (by decide) (k_dg dt_X11_light_0 12 24 (.ireturn) 1 rfl)
    · refine x_aload_n C (k_dg dt_X11_light_0 13 25 (.aload_n 0) 1 rfl) 0 rfl ?_
      refine x_getR C (a := 0) (j := 1) 3 rfl rfl (by decide) fl_RX11_19 rfl rfl rfl (k_dg dt_X11_light_0 14 26 (.getfield 19) 3 rfl) ?_
      refine x_getR C (a := 3) (j := 1) 19 rfl rfl (by decide) fl_RX11_159 rfl rfl rfl (k_dg dt_X11_light_0 15 29 (.getfield 159) 3 rfl) ?_
      refine x_bipush C (v := 7) (k_dg dt_X11_light_0 16 32 (.bipush 7) 2 rfl) (by decide) ?_
      refine x_iald C (a := 19) (n := 13) rfl rfl (k_dg dt_X11_light_0 17 34 (.iaload) 1 rfl) (fun v3 => ?_)
      refine x_istore_n C (lv' := [(2, Value.int v3), (0, k_ra Z 0), (1, Value.int p1)]) (k_dg dt_X11_light_0 18 35 (.istore_n 2) 1 rfl) (by decide) rfl ?_
      refine x_bipush C (v := -3) (k_dg dt_X11_light_0 19 36 (.bipush (-3)) 2 rfl) (by decide) ?_
      refine x_nm (w := Value.int) (fun v4 _ => ?_)
      refine x_istore_n C (lv' := [(3, Value.int v4), (2, Value.int v3), (0, k_ra Z 0), (1, Value.int p1)]) (k_dg dt_X11_light_0 20 38 (.istore_n 3) 1 rfl) (by decide) rfl ?_
      refine x_iload_n C (k_dg dt_X11_light_0 21 39 (.iload_n 2) 1 rfl) 1 rfl ?_
      refine x_istore C (lv' := [(4, Value.int v3), (3, Value.int v4), (2, Value.int v3), (0, k_ra Z 0), (1, Value.int p1)]) (k_dg dt_X11_light_0 22 40 (.istore 4) 2 rfl) (by decide) rfl ?_
      refine x_lv [3, 4, 2, 1, 0] rfl ?_
      exact m_X11_light_42 C (fun l2_ l3_ M_ => f_X11_light_85 l2_ l3_ M_) (fun l2_ l3_ M_ => m_X11_light_85 C l2_ l3_ M_) k_fu p1 v3 v4 v3 M2
theorem c_X11_light {Z : k_Z} (hg : k_Gd Z) (l : Launch) (p1 : Int32) (M : k_M) : Con true Z l yX11_light cX11_light 5 (some .int) 12 0 0 emI [k_ra Z 0, Value.int p1] M (f_X11_light p1 M) := k_con hg (by decide) (Nat.le_of_ble_eq_true rfl) (fun G hl C => m_X11_light_0 C p1 M)
theorem dt_X11_far_0 : k_dec cX11_far [(0, .aload_n 0, 1), (1, .getfield 19, 3), (4, .getfield 75, 3), (7, .iload_n 1, 1), (8, .invokevirtual 107, 3), (11, .ifCond .eq 17, 3), (14, .aload_n 0, 1), (15, .getfield 19, 3), (18, .getfield 75, 3), (21, .iload_n 2, 1), (22, .invokevirtual 107, 3), (25, .ifCond .ne 5, 3), (28, .iconst (-1), 1), (29, .ireturn, 1), (30, .aload_n 0, 1), (31, .getfield 19, 3), (34, .getfield 75, 3), (37, .iload_n 1, 1), (38, .iload_n 2, 1), (39, .invokevirtual 214, 3), (42, .istore_n 3, 1), (43, .iload_n 3, 1), (44, .sipush 10000, 3), (47, .if_icmp .ne 8, 3), (50, .bipush (-3), 2), (52, .goto 4, 3), (55, .iload_n 3, 1), (56, .ireturn, 1)] = true := by decide +kernel
def f_X11_far (p1 : Int32) (p2 : Int32) (M : k_M) : Option (Int32 × k_M) := bd (f_X3_hasPlace 3 p1 M) (fun r1 M2 => if r1 = 0 then some (-1, M2) else bd (f_X3_hasPlace 3 p2 M2) (fun r3 M4 => if r3 = 0 then some (-1, M4) else bd (f_X3_daysBetween 3 p1 p2 M4) (fun r5 M6 => if r5 = 10000 then some (-3, M6) else some (r5, M6))))
theorem m_X11_far_0 {Z : k_Z} {G : k_G} (C : k_C Z G RX11 cX11_far (true, 4, 4, 0, 0) (some .int) "far") (p1 : Int32) (p2 : Int32) (M : k_M) : Sm Z G emI (true, 4, 4, 0, 0) (0, 0) 0 [(0, k_ra Z 0), (1, Value.int p1), (2, Value.int p2)] [] M (f_X11_far p1 p2 M) := by
  show Sm Z G emI _ _ _ _ _ _ (bd (f_X3_hasPlace 3 p1 M) (fun r1 M2 => if r1 = 0 then some (-1, M2) else bd (f_X3_hasPlace 3 p2 M2) (fun r3 M4 => if r3 = 0 then some (-1, M4) else bd (f_X3_daysBetween 3 p1 p2 M4) (fun r5 M6 => if r5 = 10000 then some (-3, M6) else some (r5, M6)))))
  refine x_aload_n C (k_dg dt_X11_far_0 0 0 (.aload_n 0) 1 rfl) 0 rfl ?_
  refine x_getR C (a := 0) (j := 1) 3 rfl rfl (by decide) fl_RX11_19 rfl rfl rfl (k_dg dt_X11_far_0 1 1 (.getfield 19) 3 rfl) ?_
  refine x_getR C (a := 3) (j := 0) 4 rfl rfl (by decide) fl_RX11_75 rfl rfl rfl (k_dg dt_X11_far_0 2 4 (.getfield 75) 3 rfl) ?_
  refine x_iload_n C (k_dg dt_X11_far_0 3 7 (.iload_n 1) 1 rfl) 1 rfl ?_
  refine x_callV C (a := 4) (kd := 2) (vs := [Value.int p1]) (rest := []) rfl rfl (by decide) (fun r hr => by cases hr; rfl) (c_X3_hasPlace C.2.2.2.2.2.2.2.2.2 G.2.1 3 p1 M isW3) cy_X3_hasPlace lk_RX11_107 im_X3_hasPlace se_X3_hasPlace (by decide) (by decide) (by decide) (by decide) rfl rfl (Nat.le_of_ble_eq_true rfl) (k_dg dt_X11_far_0 4 8 (.invokevirtual 107) 3 rfl) (fun r1 M2 => ?_)
  show Sm Z G _ _ _ _ [(0, k_ra Z 0), (1, Value.int p1), (2, Value.int p2)] [Value.int r1] _ _
  refine x_if_eq C (tgt := 28) (k_dg dt_X11_far_0 5 11 (.ifCond .eq 17) 3 rfl) (by decide) (fun _ => ?_) (fun _ => ?_)
  · refine x_iconst C (v := -1) (k_dg dt_X11_far_0 12 28 (.iconst (-1)) 1 rfl) (by decide) ?_
    exact x_iret C (by decide) (by decide) (k_dg dt_X11_far_0 13 29 (.ireturn) 1 rfl)
  · refine x_aload_n C (k_dg dt_X11_far_0 6 14 (.aload_n 0) 1 rfl) 0 rfl ?_
    refine x_getR C (a := 0) (j := 1) 3 rfl rfl (by decide) fl_RX11_19 rfl rfl rfl (k_dg dt_X11_far_0 7 15 (.getfield 19) 3 rfl) ?_
    refine x_getR C (a := 3) (j := 0) 4 rfl rfl (by decide) fl_RX11_75 rfl rfl rfl (k_dg dt_X11_far_0 8 18 (.getfield 75) 3 rfl) ?_
    refine x_iload_n C (k_dg dt_X11_far_0 9 21 (.iload_n 2) 1 rfl) 2 rfl ?_
    refine x_callV C (a := 4) (kd := 2) (vs := [Value.int p2]) (rest := []) rfl rfl (by decide) (fun r hr => by cases hr; rfl) (c_X3_hasPlace C.2.2.2.2.2.2.2.2.2 G.2.1 3 p2 M2 isW3) cy_X3_hasPlace lk_RX11_107 im_X3_hasPlace se_X3_hasPlace (by decide) (by decide) (by decide) (by decide) rfl rfl (Nat.le_of_ble_eq_true rfl) (k_dg dt_X11_far_0 10 22 (.invokevirtual 107) 3 rfl) (fun r3 M4 => ?_)
    show Sm Z G _ _ _ _ [(0, k_ra Z 0), (1, Value.int p1), (2, Value.int p2)] [Value.int r3] _ _
    refine x_if_ne C (tgt := 30) (k_dg dt_X11_far_0 11 25 (.ifCond .ne 5) 3 rfl) (by decide) (fun _ => ?_) (fun _ => ?_)
    · refine x_iconst C (v := -1) (k_dg dt_X11_far_0 12 28 (.iconst (-1)) 1 rfl) (by decide) ?_
      exact x_iret C (by decide) (by decide) (k_dg dt_X11_far_0 13 29 (.ireturn) 1 rfl)
    · refine x_aload_n C (k_dg dt_X11_far_0 14 30 (.aload_n 0) 1 rfl) 0 rfl ?_
      refine x_getR C (a := 0) (j := 1) 3 rfl rfl (by decide) fl_RX11_19 rfl rfl rfl (k_dg dt_X11_far_0 15 31 (.getfield 19) 3 rfl) ?_
      refine x_getR C (a := 3) (j := 0) 4 rfl rfl (by decide) fl_RX11_75 rfl rfl rfl (k_dg dt_X11_far_0 16 34 (.getfield 75) 3 rfl) ?_
      refine x_iload_n C (k_dg dt_X11_far_0 17 37 (.iload_n 1) 1 rfl) 1 rfl ?_
      refine x_iload_n C (k_dg dt_X11_far_0 18 38 (.iload_n 2) 1 rfl) 2 rfl ?_
      refine x_callV C (a := 4) (kd := 2) (vs := [Value.int p1, Value.int p2]) (rest := []) rfl rfl (by decide) (fun r hr => by cases hr; rfl) (c_X3_daysBetween C.2.2.2.2.2.2.2.2.2 G.2.1 3 p1 p2 M4 isW3) cy_X3_daysBetween lk_RX11_214 im_X3_daysBetween se_X3_daysBetween (by decide) (by decide) (by decide) (by decide) rfl rfl (Nat.le_of_ble_eq_true rfl) (k_dg dt_X11_far_0 19 39 (.invokevirtual 214) 3 rfl) (fun r5 M6 => ?_)
      show Sm Z G _ _ _ _ [(0, k_ra Z 0), (1, Value.int p1), (2, Value.int p2)] [Value.int r5] _ _
      refine x_istore_n C (lv' := [(3, Value.int r5), (0, k_ra Z 0), (1, Value.int p1), (2, Value.int p2)]) (k_dg dt_X11_far_0 20 42 (.istore_n 3) 1 rfl) (by decide) rfl ?_
      refine x_iload_n C (k_dg dt_X11_far_0 21 43 (.iload_n 3) 1 rfl) 0 rfl ?_
      refine x_sipush C (v := 10000) (k_dg dt_X11_far_0 22 44 (.sipush 10000) 3 rfl) (by decide) ?_
      refine x_icmp_ne C (tgt := 55) (k_dg dt_X11_far_0 23 47 (.if_icmp .ne 8) 3 rfl) (by decide) (fun _ => ?_) (fun _ => ?_)
      · refine x_bipush C (v := -3) (k_dg dt_X11_far_0 24 50 (.bipush (-3)) 2 rfl) (by decide) ?_
        refine x_goto C (tgt := 56) (k_dg dt_X11_far_0 25 52 (.goto 4) 3 rfl) (by decide) ?_
        exact x_iret C (by decide) (by decide) (k_dg dt_X11_far_0 27 56 (.ireturn) 1 rfl)
      · refine x_iload_n C (k_dg dt_X11_far_0 26 55 (.iload_n 3) 1 rfl) 0 rfl ?_
        exact x_iret C (by decide) (by decide) (k_dg dt_X11_far_0 27 56 (.ireturn) 1 rfl)
theorem c_X11_far {Z : k_Z} (hg : k_Gd Z) (l : Launch) (p1 : Int32) (p2 : Int32) (M : k_M) : Con true Z l yX11_far cX11_far 4 (some .int) 4 0 0 emI [k_ra Z 0, Value.int p1, Value.int p2] M (f_X11_far p1 p2 M) := k_con hg (by decide) (Nat.le_of_ble_eq_true rfl) (fun G hl C => m_X11_far_0 C p1 p2 M)
theorem dt_X11_meet_0 : k_dec cX11_meet [(0, .aload_n 0, 1), (1, .getfield 19, 3), (4, .getfield 75, 3), (7, .iload_n 1, 1), (8, .invokevirtual 107, 3), (11, .ifCond .ne 5, 3), (14, .iconst (-1), 1), (15, .ireturn, 1), (16, .aload_n 0, 1), (17, .getfield 19, 3), (20, .getfield 89, 3), (23, .ifCond .ne 6, 3), (26, .bipush (-4), 2), (28, .ireturn, 1), (29, .aload_n 0, 1), (30, .getfield 19, 3), (33, .getfield 75, 3), (36, .aload_n 0, 1), (37, .getfield 19, 3), (40, .getfield 169, 3), (43, .iload_n 1, 1), (44, .invokevirtual 217, 3), (47, .istore_n 2, 1), (48, .iload_n 2, 1), (49, .sipush 10000, 3), (52, .if_icmp .ne 8, 3), (55, .bipush (-3), 2), (57, .goto 4, 3), (60, .iload_n 2, 1), (61, .ireturn, 1)] = true := by decide +kernel
def f_X11_meet (p1 : Int32) (M : k_M) : Option (Int32 × k_M) := bd (f_X3_hasPlace 3 p1 M) (fun r1 M2 => if r1 = 0 then some (-1, M2) else if (M2.1 3 3) = 0 then some (-4, M2) else bd (f_X3_daysToMeet 3 (M2.1 3 4) p1 M2) (fun r3 M4 => if r3 = 10000 then some (-3, M4) else some (r3, M4)))
theorem m_X11_meet_0 {Z : k_Z} {G : k_G} (C : k_C Z G RX11 cX11_meet (true, 3, 4, 0, 0) (some .int) "meet") (p1 : Int32) (M : k_M) : Sm Z G emI (true, 3, 4, 0, 0) (0, 0) 0 [(0, k_ra Z 0), (1, Value.int p1)] [] M (f_X11_meet p1 M) := by
  show Sm Z G emI _ _ _ _ _ _ (bd (f_X3_hasPlace 3 p1 M) (fun r1 M2 => if r1 = 0 then some (-1, M2) else if (M2.1 3 3) = 0 then some (-4, M2) else bd (f_X3_daysToMeet 3 (M2.1 3 4) p1 M2) (fun r3 M4 => if r3 = 10000 then some (-3, M4) else some (r3, M4))))
  refine x_aload_n C (k_dg dt_X11_meet_0 0 0 (.aload_n 0) 1 rfl) 0 rfl ?_
  refine x_getR C (a := 0) (j := 1) 3 rfl rfl (by decide) fl_RX11_19 rfl rfl rfl (k_dg dt_X11_meet_0 1 1 (.getfield 19) 3 rfl) ?_
  refine x_getR C (a := 3) (j := 0) 4 rfl rfl (by decide) fl_RX11_75 rfl rfl rfl (k_dg dt_X11_meet_0 2 4 (.getfield 75) 3 rfl) ?_
  refine x_iload_n C (k_dg dt_X11_meet_0 3 7 (.iload_n 1) 1 rfl) 1 rfl ?_
  refine x_callV C (a := 4) (kd := 2) (vs := [Value.int p1]) (rest := []) rfl rfl (by decide) (fun r hr => by cases hr; rfl) (c_X3_hasPlace C.2.2.2.2.2.2.2.2.2 G.2.1 3 p1 M isW3) cy_X3_hasPlace lk_RX11_107 im_X3_hasPlace se_X3_hasPlace (by decide) (by decide) (by decide) (by decide) rfl rfl (Nat.le_of_ble_eq_true rfl) (k_dg dt_X11_meet_0 4 8 (.invokevirtual 107) 3 rfl) (fun r1 M2 => ?_)
  show Sm Z G _ _ _ _ [(0, k_ra Z 0), (1, Value.int p1)] [Value.int r1] _ _
  refine x_if_ne C (tgt := 16) (k_dg dt_X11_meet_0 5 11 (.ifCond .ne 5) 3 rfl) (by decide) (fun _ => ?_) (fun _ => ?_)
  · refine x_iconst C (v := -1) (k_dg dt_X11_meet_0 6 14 (.iconst (-1)) 1 rfl) (by decide) ?_
    exact x_iret C (by decide) (by decide) (k_dg dt_X11_meet_0 7 15 (.ireturn) 1 rfl)
  · refine x_aload_n C (k_dg dt_X11_meet_0 8 16 (.aload_n 0) 1 rfl) 0 rfl ?_
    refine x_getR C (a := 0) (j := 1) 3 rfl rfl (by decide) fl_RX11_19 rfl rfl rfl (k_dg dt_X11_meet_0 9 17 (.getfield 19) 3 rfl) ?_
    refine x_getI C (a := 3) (j := 3) rfl rfl (by decide) fl_RX11_89 rfl (k_dg dt_X11_meet_0 10 20 (.getfield 89) 3 rfl) ?_
    refine x_if_ne C (tgt := 29) (k_dg dt_X11_meet_0 11 23 (.ifCond .ne 6) 3 rfl) (by decide) (fun _ => ?_) (fun _ => ?_)
    · refine x_bipush C (v := -4) (k_dg dt_X11_meet_0 12 26 (.bipush (-4)) 2 rfl) (by decide) ?_
      exact x_iret C (by decide) (by decide) (k_dg dt_X11_meet_0 13 28 (.ireturn) 1 rfl)
    · refine x_aload_n C (k_dg dt_X11_meet_0 14 29 (.aload_n 0) 1 rfl) 0 rfl ?_
      refine x_getR C (a := 0) (j := 1) 3 rfl rfl (by decide) fl_RX11_19 rfl rfl rfl (k_dg dt_X11_meet_0 15 30 (.getfield 19) 3 rfl) ?_
      refine x_getR C (a := 3) (j := 0) 4 rfl rfl (by decide) fl_RX11_75 rfl rfl rfl (k_dg dt_X11_meet_0 16 33 (.getfield 75) 3 rfl) ?_
      refine x_aload_n C (k_dg dt_X11_meet_0 17 36 (.aload_n 0) 1 rfl) 0 rfl ?_
      refine x_getR C (a := 0) (j := 1) 3 rfl rfl (by decide) fl_RX11_19 rfl rfl rfl (k_dg dt_X11_meet_0 18 37 (.getfield 19) 3 rfl) ?_
      refine x_getI C (a := 3) (j := 4) rfl rfl (by decide) fl_RX11_169 rfl (k_dg dt_X11_meet_0 19 40 (.getfield 169) 3 rfl) ?_
      refine x_iload_n C (k_dg dt_X11_meet_0 20 43 (.iload_n 1) 1 rfl) 1 rfl ?_
      refine x_callV C (a := 4) (kd := 2) (vs := [Value.int (M2.1 3 4), Value.int p1]) (rest := []) rfl rfl (by decide) (fun r hr => by cases hr; rfl) (c_X3_daysToMeet C.2.2.2.2.2.2.2.2.2 G.2.1 3 (M2.1 3 4) p1 M2 isW3) cy_X3_daysToMeet lk_RX11_217 im_X3_daysToMeet se_X3_daysToMeet (by decide) (by decide) (by decide) (by decide) rfl rfl (Nat.le_of_ble_eq_true rfl) (k_dg dt_X11_meet_0 21 44 (.invokevirtual 217) 3 rfl) (fun r3 M4 => ?_)
      show Sm Z G _ _ _ _ [(0, k_ra Z 0), (1, Value.int p1)] [Value.int r3] _ _
      refine x_istore_n C (lv' := [(2, Value.int r3), (0, k_ra Z 0), (1, Value.int p1)]) (k_dg dt_X11_meet_0 22 47 (.istore_n 2) 1 rfl) (by decide) rfl ?_
      refine x_iload_n C (k_dg dt_X11_meet_0 23 48 (.iload_n 2) 1 rfl) 0 rfl ?_
      refine x_sipush C (v := 10000) (k_dg dt_X11_meet_0 24 49 (.sipush 10000) 3 rfl) (by decide) ?_
      refine x_icmp_ne C (tgt := 60) (k_dg dt_X11_meet_0 25 52 (.if_icmp .ne 8) 3 rfl) (by decide) (fun _ => ?_) (fun _ => ?_)
      · refine x_bipush C (v := -3) (k_dg dt_X11_meet_0 26 55 (.bipush (-3)) 2 rfl) (by decide) ?_
        refine x_goto C (tgt := 61) (k_dg dt_X11_meet_0 27 57 (.goto 4) 3 rfl) (by decide) ?_
        exact x_iret C (by decide) (by decide) (k_dg dt_X11_meet_0 29 61 (.ireturn) 1 rfl)
      · refine x_iload_n C (k_dg dt_X11_meet_0 28 60 (.iload_n 2) 1 rfl) 0 rfl ?_
        exact x_iret C (by decide) (by decide) (k_dg dt_X11_meet_0 29 61 (.ireturn) 1 rfl)
theorem c_X11_meet {Z : k_Z} (hg : k_Gd Z) (l : Launch) (p1 : Int32) (M : k_M) : Con true Z l yX11_meet cX11_meet 3 (some .int) 4 0 0 emI [k_ra Z 0, Value.int p1] M (f_X11_meet p1 M) := k_con hg (by decide) (Nat.le_of_ble_eq_true rfl) (fun G hl C => m_X11_meet_0 C p1 M)
theorem dt_X11_party_0 : k_dec cX11_party [(0, .aload_n 0, 1), (1, .getfield 19, 3), (4, .getfield 75, 3), (7, .iload_n 1, 1), (8, .invokevirtual 107, 3), (11, .ifCond .ne 5, 3), (14, .iconst (-1), 1), (15, .ireturn, 1), (16, .aload_n 0, 1), (17, .getfield 19, 3), (20, .getfield 89, 3), (23, .ifCond .ne 6, 3), (26, .bipush (-4), 2), (28, .ireturn, 1), (29, .aload_n 0, 1), (30, .getfield 19, 3), (33, .getfield 75, 3), (36, .aload_n 0, 1), (37, .getfield 19, 3), (40, .getfield 169, 3), (43, .iload_n 1, 1), (44, .invokevirtual 214, 3), (47, .sipush 10000, 3), (50, .if_icmp .ne 6, 3), (53, .bipush (-3), 2), (55, .ireturn, 1), (56, .aload_n 0, 1), (57, .getfield 19, 3), (60, .iload_n 1, 1), (61, .aload_n 0, 1), (62, .getfield 19, 3), (65, .getfield 75, 3), (68, .getfield 123, 3), (71, .iload_n 1, 1), (72, .iaload, 1), (73, .invokevirtual 220, 3), (76, .ireturn, 1)] = true := by decide +kernel
def f_X11_party (p1 : Int32) (M : k_M) : Option (Int32 × k_M) := bd (f_X3_hasPlace 3 p1 M) (fun r1 M2 => if r1 = 0 then some (-1, M2) else if (M2.1 3 3) = 0 then some (-4, M2) else bd (f_X3_daysBetween 3 (M2.1 3 4) p1 M2) (fun r3 M4 => if r3 = 10000 then some (-3, M4) else rdI M4 6 8 p1 (fun v5 => bd (f_X10_taking 3 p1 v5 M4) (fun r6 M7 => some (r6, M7)))))
theorem m_X11_party_0 {Z : k_Z} {G : k_G} (C : k_C Z G RX11 cX11_party (true, 2, 4, 0, 0) (some .int) "party") (p1 : Int32) (M : k_M) : Sm Z G emI (true, 2, 4, 0, 0) (0, 0) 0 [(0, k_ra Z 0), (1, Value.int p1)] [] M (f_X11_party p1 M) := by
  show Sm Z G emI _ _ _ _ _ _ (bd (f_X3_hasPlace 3 p1 M) (fun r1 M2 => if r1 = 0 then some (-1, M2) else if (M2.1 3 3) = 0 then some (-4, M2) else bd (f_X3_daysBetween 3 (M2.1 3 4) p1 M2) (fun r3 M4 => if r3 = 10000 then some (-3, M4) else rdI M4 6 8 p1 (fun v5 => bd (f_X10_taking 3 p1 v5 M4) (fun r6 M7 => some (r6, M7))))))
  refine x_aload_n C (k_dg dt_X11_party_0 0 0 (.aload_n 0) 1 rfl) 0 rfl ?_
  refine x_getR C (a := 0) (j := 1) 3 rfl rfl (by decide) fl_RX11_19 rfl rfl rfl (k_dg dt_X11_party_0 1 1 (.getfield 19) 3 rfl) ?_
  refine x_getR C (a := 3) (j := 0) 4 rfl rfl (by decide) fl_RX11_75 rfl rfl rfl (k_dg dt_X11_party_0 2 4 (.getfield 75) 3 rfl) ?_
  refine x_iload_n C (k_dg dt_X11_party_0 3 7 (.iload_n 1) 1 rfl) 1 rfl ?_
  refine x_callV C (a := 4) (kd := 2) (vs := [Value.int p1]) (rest := []) rfl rfl (by decide) (fun r hr => by cases hr; rfl) (c_X3_hasPlace C.2.2.2.2.2.2.2.2.2 G.2.1 3 p1 M isW3) cy_X3_hasPlace lk_RX11_107 im_X3_hasPlace se_X3_hasPlace (by decide) (by decide) (by decide) (by decide) rfl rfl (Nat.le_of_ble_eq_true rfl) (k_dg dt_X11_party_0 4 8 (.invokevirtual 107) 3 rfl) (fun r1 M2 => ?_)
  show Sm Z G _ _ _ _ [(0, k_ra Z 0), (1, Value.int p1)] [Value.int r1] _ _
  refine x_if_ne C (tgt := 16) (k_dg dt_X11_party_0 5 11 (.ifCond .ne 5) 3 rfl) (by decide) (fun _ => ?_) (fun _ => ?_)
  · refine x_iconst C (v := -1) (k_dg dt_X11_party_0 6 14 (.iconst (-1)) 1 rfl) (by decide) ?_
    exact x_iret C (by decide) (by decide) (k_dg dt_X11_party_0 7 15 (.ireturn) 1 rfl)
  · refine x_aload_n C (k_dg dt_X11_party_0 8 16 (.aload_n 0) 1 rfl) 0 rfl ?_
    refine x_getR C (a := 0) (j := 1) 3 rfl rfl (by decide) fl_RX11_19 rfl rfl rfl (k_dg dt_X11_party_0 9 17 (.getfield 19) 3 rfl) ?_
    refine x_getI C (a := 3) (j := 3) rfl rfl (by decide) fl_RX11_89 rfl (k_dg dt_X11_party_0 10 20 (.getfield 89) 3 rfl) ?_
    refine x_if_ne C (tgt := 29) (k_dg dt_X11_party_0 11 23 (.ifCond .ne 6) 3 rfl) (by decide) (fun _ => ?_) (fun _ => ?_)
    · refine x_bipush C (v := -4) (k_dg dt_X11_party_0 12 26 (.bipush (-4)) 2 rfl) (by decide) ?_
      exact x_iret C (by decide) (by decide) (k_dg dt_X11_party_0 13 28 (.ireturn) 1 rfl)
    · refine x_aload_n C (k_dg dt_X11_party_0 14 29 (.aload_n 0) 1 rfl) 0 rfl ?_
      refine x_getR C (a := 0) (j := 1) 3 rfl rfl (by decide) fl_RX11_19 rfl rfl rfl (k_dg dt_X11_party_0 15 30 (.getfield 19) 3 rfl) ?_
      refine x_getR C (a := 3) (j := 0) 4 rfl rfl (by decide) fl_RX11_75 rfl rfl rfl (k_dg dt_X11_party_0 16 33 (.getfield 75) 3 rfl) ?_
      refine x_aload_n C (k_dg dt_X11_party_0 17 36 (.aload_n 0) 1 rfl) 0 rfl ?_
      refine x_getR C (a := 0) (j := 1) 3 rfl rfl (by decide) fl_RX11_19 rfl rfl rfl (k_dg dt_X11_party_0 18 37 (.getfield 19) 3 rfl) ?_
      refine x_getI C (a := 3) (j := 4) rfl rfl (by decide) fl_RX11_169 rfl (k_dg dt_X11_party_0 19 40 (.getfield 169) 3 rfl) ?_
      refine x_iload_n C (k_dg dt_X11_party_0 20 43 (.iload_n 1) 1 rfl) 1 rfl ?_
      refine x_callV C (a := 4) (kd := 2) (vs := [Value.int (M2.1 3 4), Value.int p1]) (rest := []) rfl rfl (by decide) (fun r hr => by cases hr; rfl) (c_X3_daysBetween C.2.2.2.2.2.2.2.2.2 G.2.1 3 (M2.1 3 4) p1 M2 isW3) cy_X3_daysBetween lk_RX11_214 im_X3_daysBetween se_X3_daysBetween (by decide) (by decide) (by decide) (by decide) rfl rfl (Nat.le_of_ble_eq_true rfl) (k_dg dt_X11_party_0 21 44 (.invokevirtual 214) 3 rfl) (fun r3 M4 => ?_)
      show Sm Z G _ _ _ _ [(0, k_ra Z 0), (1, Value.int p1)] [Value.int r3] _ _
      refine x_sipush C (v := 10000) (k_dg dt_X11_party_0 22 47 (.sipush 10000) 3 rfl) (by decide) ?_
      refine x_icmp_ne C (tgt := 56) (k_dg dt_X11_party_0 23 50 (.if_icmp .ne 6) 3 rfl) (by decide) (fun _ => ?_) (fun _ => ?_)
      · refine x_bipush C (v := -3) (k_dg dt_X11_party_0 24 53 (.bipush (-3)) 2 rfl) (by decide) ?_
        exact x_iret C (by decide) (by decide) (k_dg dt_X11_party_0 25 55 (.ireturn) 1 rfl)
      · refine x_aload_n C (k_dg dt_X11_party_0 26 56 (.aload_n 0) 1 rfl) 0 rfl ?_
        refine x_getR C (a := 0) (j := 1) 3 rfl rfl (by decide) fl_RX11_19 rfl rfl rfl (k_dg dt_X11_party_0 27 57 (.getfield 19) 3 rfl) ?_
        refine x_iload_n C (k_dg dt_X11_party_0 28 60 (.iload_n 1) 1 rfl) 1 rfl ?_
        refine x_aload_n C (k_dg dt_X11_party_0 29 61 (.aload_n 0) 1 rfl) 0 rfl ?_
        refine x_getR C (a := 0) (j := 1) 3 rfl rfl (by decide) fl_RX11_19 rfl rfl rfl (k_dg dt_X11_party_0 30 62 (.getfield 19) 3 rfl) ?_
        refine x_getR C (a := 3) (j := 0) 4 rfl rfl (by decide) fl_RX11_75 rfl rfl rfl (k_dg dt_X11_party_0 31 65 (.getfield 75) 3 rfl) ?_
        refine x_getR C (a := 4) (j := 2) 6 rfl rfl (by decide) fl_RX11_123 rfl rfl rfl (k_dg dt_X11_party_0 32 68 (.getfield 123) 3 rfl) ?_
        refine x_iload_n C (k_dg dt_X11_party_0 33 71 (.iload_n 1) 1 rfl) 1 rfl ?_
        refine x_iald C (a := 6) (n := 8) rfl rfl (k_dg dt_X11_party_0 34 72 (.iaload) 1 rfl) (fun v5 => ?_)
        refine x_callV C (a := 3) (kd := 8) (vs := [Value.int p1, Value.int v5]) (rest := []) rfl rfl (by decide) (fun r hr => by cases hr; rfl) (c_X10_taking C.2.2.2.2.2.2.2.2.2 G.2.1 3 p1 v5 M4 isW3) cy_X10_taking lk_RX11_220 im_X10_taking se_X10_taking (by decide) (by decide) (by decide) (by decide) rfl rfl (Nat.le_of_ble_eq_true rfl) (k_dg dt_X11_party_0 35 73 (.invokevirtual 220) 3 rfl) (fun r6 M7 => ?_)
        show Sm Z G _ _ _ _ [(0, k_ra Z 0), (1, Value.int p1)] [Value.int r6] _ _
        exact x_iret C (by decide) (by decide) (k_dg dt_X11_party_0 36 76 (.ireturn) 1 rfl)
theorem c_X11_party {Z : k_Z} (hg : k_Gd Z) (l : Launch) (p1 : Int32) (M : k_M) : Con true Z l yX11_party cX11_party 2 (some .int) 4 0 0 emI [k_ra Z 0, Value.int p1] M (f_X11_party p1 M) := k_con hg (by decide) (Nat.le_of_ble_eq_true rfl) (fun G hl C => m_X11_party_0 C p1 M)
theorem dt_X11_gate_0 : k_dec cX11_gate [(0, .aload_n 0, 1), (1, .getfield 19, 3), (4, .getfield 75, 3), (7, .iload_n 1, 1), (8, .invokevirtual 129, 3), (11, .ifCond .eq 14, 3), (14, .iload_n 2, 1), (15, .iconst 0, 1), (16, .sipush 999, 3), (19, .invokestatic 95, 3), (22, .ifCond .ne 5, 3), (25, .iconst (-1), 1), (26, .ireturn, 1), (27, .iload_n 2, 1), (28, .istore_n 3, 1), (29, .iload_n 3, 1), (30, .iload_n 2, 1), (31, .bipush 20, 2), (33, .iadd, 1), (34, .if_icmp .gt 29, 3), (37, .aload_n 0, 1), (38, .getfield 19, 3), (41, .getfield 75, 3), (44, .iload_n 1, 1), (45, .iload_n 3, 1), (46, .invokestatic 175, 3), (49, .invokevirtual 223, 3), (52, .ifCond .eq 5, 3), (55, .iload_n 3, 1), (56, .ireturn, 1), (57, .iinc 3 1, 3), (60, .goto (-31), 3), (63, .bipush (-3), 2), (65, .ireturn, 1)] = true := by decide +kernel
def f_X11_gate_29 : Nat → Int32 → Int32 → Int32 → k_M → (Int32 → k_M → Option (Int32 × k_M)) → (k_M → Option (Int32 × k_M)) → Option (Int32 × k_M)
  | 0, _, _, _, _, _, _ => none
  | n + 1, l1, l2, l3, M, kx55, kx63 => if (l2 + 20) < l3 then kx63 M else bd (f_X10_monthOf l3 M) (fun r1 M2 => bd (f_X3_isOpen 3 l1 r1 M2) (fun r3 M4 => if r3 = 0 then f_X11_gate_29 n l1 l2 (l3 + 1) M4 kx55 kx63 else kx55 l3 M4))
theorem m_X11_gate_29 {Z : k_Z} {G : k_G} (C : k_C Z G RX11 cX11_gate (true, 4, 2, 0, 0) (some .int) "gate") (kx55 : Int32 → k_M → Option (Int32 × k_M)) (kx63 : k_M → Option (Int32 × k_M)) (Hx55 : ∀ (l3 : Int32) (M : k_M), Sm Z G emI (true, 4, 2, 0, 0) (0, 0) 55 [(3, Value.int l3)] [] M (kx55 l3 M)) (Hx63 : ∀ (M : k_M), Sm Z G emI (true, 4, 2, 0, 0) (0, 0) 63 [] [] M (kx63 M)) : ∀ (n : Nat) (l1 : Int32) (l2 : Int32) (l3 : Int32) (M : k_M), Sm Z G emI (true, 4, 2, 0, 0) (0, 0) 29 [(0, k_ra Z 0), (1, Value.int l1), (2, Value.int l2), (3, Value.int l3)] [] M (f_X11_gate_29 n l1 l2 l3 M kx55 kx63)
  | 0, _, _, _, _ => x_none
  | n + 1, l1, l2, l3, M => by
    have ih := m_X11_gate_29 C kx55 kx63 Hx55 Hx63 n
    show Sm Z G emI _ _ _ _ _ _ (if (l2 + 20) < l3 then kx63 M else bd (f_X10_monthOf l3 M) (fun r1 M2 => bd (f_X3_isOpen 3 l1 r1 M2) (fun r3 M4 => if r3 = 0 then f_X11_gate_29 n l1 l2 (l3 + 1) M4 kx55 kx63 else kx55 l3 M4)))
    refine x_iload_n C (k_dg dt_X11_gate_0 15 29 (.iload_n 3) 1 rfl) 3 rfl ?_
    refine x_iload_n C (k_dg dt_X11_gate_0 16 30 (.iload_n 2) 1 rfl) 2 rfl ?_
    refine x_bipush C (v := 20) (k_dg dt_X11_gate_0 17 31 (.bipush 20) 2 rfl) (by decide) ?_
    refine x_iadd C (k_dg dt_X11_gate_0 18 33 (.iadd) 1 rfl) ?_
    refine x_icmp_gt C (tgt := 63) (k_dg dt_X11_gate_0 19 34 (.if_icmp .gt 29) 3 rfl) (by decide) (fun _ => ?_) (fun _ => ?_)
    · refine x_lv [] rfl ?_
      exact Hx63 M
    · refine x_aload_n C (k_dg dt_X11_gate_0 20 37 (.aload_n 0) 1 rfl) 0 rfl ?_
      refine x_getR C (a := 0) (j := 1) 3 rfl rfl (by decide) fl_RX11_19 rfl rfl rfl (k_dg dt_X11_gate_0 21 38 (.getfield 19) 3 rfl) ?_
      refine x_getR C (a := 3) (j := 0) 4 rfl rfl (by decide) fl_RX11_75 rfl rfl rfl (k_dg dt_X11_gate_0 22 41 (.getfield 75) 3 rfl) ?_
      refine x_iload_n C (k_dg dt_X11_gate_0 23 44 (.iload_n 1) 1 rfl) 1 rfl ?_
      refine x_iload_n C (k_dg dt_X11_gate_0 24 45 (.iload_n 3) 1 rfl) 3 rfl ?_
      refine x_callS C (vs := [Value.int l3]) (rest := [Value.int l1, k_ra Z 4]) (c_X10_monthOf C.2.2.2.2.2.2.2.2.2 G.2.1 l3 M) cy_X10_monthOf lk_RX11_175 stt_X10_monthOf (by decide) (by decide) (by decide) (by decide) rfl rfl (Nat.le_of_ble_eq_true rfl) (k_dg dt_X11_gate_0 25 46 (.invokestatic 175) 3 rfl) (fun r1 M2 => ?_)
      show Sm Z G _ _ _ _ [(0, k_ra Z 0), (1, Value.int l1), (2, Value.int l2), (3, Value.int l3)] [Value.int r1, Value.int l1, k_ra Z 4] _ _
      refine x_callV C (a := 4) (kd := 2) (vs := [Value.int l1, Value.int r1]) (rest := []) rfl rfl (by decide) (fun r hr => by cases hr; rfl) (c_X3_isOpen C.2.2.2.2.2.2.2.2.2 G.2.1 3 l1 r1 M2 isW3) cy_X3_isOpen lk_RX11_223 im_X3_isOpen se_X3_isOpen (by decide) (by decide) (by decide) (by decide) rfl rfl (Nat.le_of_ble_eq_true rfl) (k_dg dt_X11_gate_0 26 49 (.invokevirtual 223) 3 rfl) (fun r3 M4 => ?_)
      show Sm Z G _ _ _ _ [(0, k_ra Z 0), (1, Value.int l1), (2, Value.int l2), (3, Value.int l3)] [Value.int r3] _ _
      refine x_if_eq C (tgt := 57) (k_dg dt_X11_gate_0 27 52 (.ifCond .eq 5) 3 rfl) (by decide) (fun _ => ?_) (fun _ => ?_)
      · refine x_iinc C (v := 1) (lv' := [(3, Value.int (l3 + 1)), (0, k_ra Z 0), (1, Value.int l1), (2, Value.int l2)]) (k_dg dt_X11_gate_0 30 57 (.iinc 3 1) 3 rfl) 3 rfl (by decide) (by decide) rfl ?_
        refine x_goto C (tgt := 29) (k_dg dt_X11_gate_0 31 60 (.goto (-31)) 3 rfl) (by decide) ?_
        refine x_lv [1, 2, 3, 0] rfl ?_
        exact ih l1 l2 (l3 + 1) M4
      · refine x_lv [3] rfl ?_
        exact Hx55 l3 M4
def f_X11_gate_55 (l3 : Int32) (M : k_M) : Option (Int32 × k_M) := some (l3, M)
theorem m_X11_gate_55 {Z : k_Z} {G : k_G} (C : k_C Z G RX11 cX11_gate (true, 4, 2, 0, 0) (some .int) "gate") (l3 : Int32) (M : k_M) : Sm Z G emI (true, 4, 2, 0, 0) (0, 0) 55 [(3, Value.int l3)] [] M (f_X11_gate_55 l3 M) := by
  show Sm Z G emI _ _ _ _ _ _ (some (l3, M))
  refine x_iload_n C (k_dg dt_X11_gate_0 28 55 (.iload_n 3) 1 rfl) 0 rfl ?_
  exact x_iret C (by decide) (by decide) (k_dg dt_X11_gate_0 29 56 (.ireturn) 1 rfl)
def f_X11_gate_63 (M : k_M) : Option (Int32 × k_M) := some (-3, M)
theorem m_X11_gate_63 {Z : k_Z} {G : k_G} (C : k_C Z G RX11 cX11_gate (true, 4, 2, 0, 0) (some .int) "gate") (M : k_M) : Sm Z G emI (true, 4, 2, 0, 0) (0, 0) 63 [] [] M (f_X11_gate_63 M) := by
  show Sm Z G emI _ _ _ _ _ _ (some (-3, M))
  refine x_bipush C (v := -3) (k_dg dt_X11_gate_0 32 63 (.bipush (-3)) 2 rfl) (by decide) ?_
  exact x_iret C (by decide) (by decide) (k_dg dt_X11_gate_0 33 65 (.ireturn) 1 rfl)
def f_X11_gate (p1 : Int32) (p2 : Int32) (M : k_M) : Option (Int32 × k_M) := bd (f_X3_hasWay 3 p1 M) (fun r1 M2 => if r1 = 0 then some (-1, M2) else bd (f_X11_within p2 0 999 M2) (fun r3 M4 => if r3 = 0 then some (-1, M4) else f_X11_gate_29 k_fu p1 p2 p2 M4 (fun l3_ M_ => f_X11_gate_55 l3_ M_) (fun M_ => f_X11_gate_63 M_)))
theorem m_X11_gate_0 {Z : k_Z} {G : k_G} (C : k_C Z G RX11 cX11_gate (true, 4, 2, 0, 0) (some .int) "gate") (p1 : Int32) (p2 : Int32) (M : k_M) : Sm Z G emI (true, 4, 2, 0, 0) (0, 0) 0 [(0, k_ra Z 0), (1, Value.int p1), (2, Value.int p2)] [] M (f_X11_gate p1 p2 M) := by
  show Sm Z G emI _ _ _ _ _ _ (bd (f_X3_hasWay 3 p1 M) (fun r1 M2 => if r1 = 0 then some (-1, M2) else bd (f_X11_within p2 0 999 M2) (fun r3 M4 => if r3 = 0 then some (-1, M4) else f_X11_gate_29 k_fu p1 p2 p2 M4 (fun l3_ M_ => f_X11_gate_55 l3_ M_) (fun M_ => f_X11_gate_63 M_))))
  refine x_aload_n C (k_dg dt_X11_gate_0 0 0 (.aload_n 0) 1 rfl) 0 rfl ?_
  refine x_getR C (a := 0) (j := 1) 3 rfl rfl (by decide) fl_RX11_19 rfl rfl rfl (k_dg dt_X11_gate_0 1 1 (.getfield 19) 3 rfl) ?_
  refine x_getR C (a := 3) (j := 0) 4 rfl rfl (by decide) fl_RX11_75 rfl rfl rfl (k_dg dt_X11_gate_0 2 4 (.getfield 75) 3 rfl) ?_
  refine x_iload_n C (k_dg dt_X11_gate_0 3 7 (.iload_n 1) 1 rfl) 1 rfl ?_
  refine x_callV C (a := 4) (kd := 2) (vs := [Value.int p1]) (rest := []) rfl rfl (by decide) (fun r hr => by cases hr; rfl) (c_X3_hasWay C.2.2.2.2.2.2.2.2.2 G.2.1 3 p1 M isW3) cy_X3_hasWay lk_RX11_129 im_X3_hasWay se_X3_hasWay (by decide) (by decide) (by decide) (by decide) rfl rfl (Nat.le_of_ble_eq_true rfl) (k_dg dt_X11_gate_0 4 8 (.invokevirtual 129) 3 rfl) (fun r1 M2 => ?_)
  show Sm Z G _ _ _ _ [(0, k_ra Z 0), (1, Value.int p1), (2, Value.int p2)] [Value.int r1] _ _
  refine x_if_eq C (tgt := 25) (k_dg dt_X11_gate_0 5 11 (.ifCond .eq 14) 3 rfl) (by decide) (fun _ => ?_) (fun _ => ?_)
  · refine x_iconst C (v := -1) (k_dg dt_X11_gate_0 11 25 (.iconst (-1)) 1 rfl) (by decide) ?_
    exact x_iret C (by decide) (by decide) (k_dg dt_X11_gate_0 12 26 (.ireturn) 1 rfl)
  · refine x_iload_n C (k_dg dt_X11_gate_0 6 14 (.iload_n 2) 1 rfl) 2 rfl ?_
    refine x_iconst C (v := 0) (k_dg dt_X11_gate_0 7 15 (.iconst 0) 1 rfl) (by decide) ?_
    refine x_sipush C (v := 999) (k_dg dt_X11_gate_0 8 16 (.sipush 999) 3 rfl) (by decide) ?_
    refine x_callS C (vs := [Value.int p2, Value.int 0, Value.int 999]) (rest := []) (c_X11_within C.2.2.2.2.2.2.2.2.2 G.2.1 p2 0 999 M2) cy_X11_within lk_RX11_95 stt_X11_within (by decide) (by decide) (by decide) (by decide) rfl rfl (Nat.le_of_ble_eq_true rfl) (k_dg dt_X11_gate_0 9 19 (.invokestatic 95) 3 rfl) (fun r3 M4 => ?_)
    show Sm Z G _ _ _ _ [(0, k_ra Z 0), (1, Value.int p1), (2, Value.int p2)] [Value.int r3] _ _
    refine x_if_ne C (tgt := 27) (k_dg dt_X11_gate_0 10 22 (.ifCond .ne 5) 3 rfl) (by decide) (fun _ => ?_) (fun _ => ?_)
    · refine x_iconst C (v := -1) (k_dg dt_X11_gate_0 11 25 (.iconst (-1)) 1 rfl) (by decide) ?_
      exact x_iret C (by decide) (by decide) (k_dg dt_X11_gate_0 12 26 (.ireturn) 1 rfl)
    · refine x_iload_n C (k_dg dt_X11_gate_0 13 27 (.iload_n 2) 1 rfl) 2 rfl ?_
      refine x_istore_n C (lv' := [(3, Value.int p2), (0, k_ra Z 0), (1, Value.int p1), (2, Value.int p2)]) (k_dg dt_X11_gate_0 14 28 (.istore_n 3) 1 rfl) (by decide) rfl ?_
      refine x_lv [1, 2, 3, 0] rfl ?_
      exact m_X11_gate_29 C (fun l3_ M_ => f_X11_gate_55 l3_ M_) (fun M_ => f_X11_gate_63 M_) (fun l3_ M_ => m_X11_gate_55 C l3_ M_) (fun M_ => m_X11_gate_63 C M_) k_fu p1 p2 p2 M4
theorem c_X11_gate {Z : k_Z} (hg : k_Gd Z) (l : Launch) (p1 : Int32) (p2 : Int32) (M : k_M) : Con true Z l yX11_gate cX11_gate 4 (some .int) 2 0 0 emI [k_ra Z 0, Value.int p1, Value.int p2] M (f_X11_gate p1 p2 M) := k_con hg (by decide) (Nat.le_of_ble_eq_true rfl) (fun G hl C => m_X11_gate_0 C p1 p2 M)
theorem dt_X11_round_0 : k_dec cX11_round [(0, .iload_n 1, 1), (1, .iconst 0, 1), (2, .iconst 3, 1), (3, .invokestatic 95, 3), (6, .ifCond .eq 12, 3), (9, .iload_n 2, 1), (10, .iconst 0, 1), (11, .iconst 1, 1), (12, .invokestatic 95, 3), (15, .ifCond .ne 5, 3), (18, .iconst (-1), 1), (19, .ireturn, 1), (20, .aload_n 0, 1), (21, .getfield 19, 3), (24, .getfield 89, 3), (27, .ifCond .ne 6, 3), (30, .bipush (-4), 2), (32, .ireturn, 1), (33, .aload_n 0, 1), (34, .getfield 41, 3), (37, .iload_n 1, 1), (38, .iaload, 1), (39, .iconst (-1), 1), (40, .if_icmp .ne 6, 3), (43, .bipush (-11), 2), (45, .ireturn, 1), (46, .aload_n 0, 1), (47, .getfield 41, 3), (50, .iload_n 1, 1), (51, .iaload, 1), (52, .ifCond .eq 6, 3), (55, .bipush (-13), 2), (57, .ireturn, 1), (58, .aload_n 0, 1), (59, .getfield 44, 3), (62, .iload_n 1, 1), (63, .iaload, 1), (64, .istore_n 3, 1), (65, .aload_n 0, 1), (66, .getfield 26, 3)] = true := by decide +kernel
theorem dt_X11_round_1 : k_dec cX11_round [(69, .aload_n 0, 1), (70, .getfield 19, 3), (73, .invokevirtual 227, 3), (76, .iconst 0, 1), (77, .istore 4, 2), (79, .iload 4, 2), (81, .iload_n 3, 1), (82, .if_icmp .ge 30, 3), (85, .aload_n 0, 1), (86, .getfield 26, 3), (89, .aload_n 0, 1), (90, .getfield 49, 3), (93, .iload_n 1, 1), (94, .aaload, 1), (95, .iload 4, 2), (97, .laload, 1), (98, .l2i, 1), (99, .invokevirtual 189, 3), (102, .iconst (-1), 1), (103, .if_icmp .eq 9, 3), (106, .iinc 4 1, 3), (109, .goto (-30), 3), (112, .iload_n 2, 1), (113, .ifCond .ne 6, 3), (116, .iload 4, 2), (118, .ireturn, 1), (119, .iload 4, 2), (121, .iload_n 3, 1), (122, .if_icmp .ne 21, 3), (125, .aload_n 0, 1), (126, .getfield 26, 3), (129, .aload_n 0, 1), (130, .getfield 19, 3), (133, .invokevirtual 230, 3), (136, .ifCond .eq 7, 3), (139, .iconst 1, 1), (140, .goto 4, 3), (143, .iconst 0, 1), (144, .ireturn, 1)] = true := by decide +kernel
def f_X11_round_79 : Nat → Int32 → Int32 → Int32 → Int32 → k_M → (Int32 → Int32 → Int32 → k_M → Option (Int32 × k_M)) → Option (Int32 × k_M)
  | 0, _, _, _, _, _, _ => none
  | n + 1, l1, l2, l3, l4, M, kx112 => if l3 ≤ l4 then kx112 l2 l3 l4 M else rdLL 66 l1 (fun q1 => rdJ M q1 40 l4 (fun v2 => bd (f_X10_attempt 43 v2.toInt32 M) (fun r3 M4 => if r3 = (-1) then kx112 l2 l3 l4 M4 else f_X11_round_79 n l1 l2 l3 (l4 + 1) M4 kx112)))
theorem m_X11_round_79 {Z : k_Z} {G : k_G} (C : k_C Z G RX11 cX11_round (true, 5, 4, 0, 0) (some .int) "round") (kx112 : Int32 → Int32 → Int32 → k_M → Option (Int32 × k_M)) (Hx112 : ∀ (l2 : Int32) (l3 : Int32) (l4 : Int32) (M : k_M), Sm Z G emI (true, 5, 4, 0, 0) (0, 0) 112 [(0, k_ra Z 0), (2, Value.int l2), (3, Value.int l3), (4, Value.int l4)] [] M (kx112 l2 l3 l4 M)) : ∀ (n : Nat) (l1 : Int32) (l2 : Int32) (l3 : Int32) (l4 : Int32) (M : k_M), Sm Z G emI (true, 5, 4, 0, 0) (0, 0) 79 [(0, k_ra Z 0), (1, Value.int l1), (2, Value.int l2), (3, Value.int l3), (4, Value.int l4)] [] M (f_X11_round_79 n l1 l2 l3 l4 M kx112)
  | 0, _, _, _, _, _ => x_none
  | n + 1, l1, l2, l3, l4, M => by
    have ih := m_X11_round_79 C kx112 Hx112 n
    show Sm Z G emI _ _ _ _ _ _ (if l3 ≤ l4 then kx112 l2 l3 l4 M else rdLL 66 l1 (fun q1 => rdJ M q1 40 l4 (fun v2 => bd (f_X10_attempt 43 v2.toInt32 M) (fun r3 M4 => if r3 = (-1) then kx112 l2 l3 l4 M4 else f_X11_round_79 n l1 l2 l3 (l4 + 1) M4 kx112))))
    refine x_iload C (k_dg dt_X11_round_1 5 79 (.iload 4) 2 rfl) 4 rfl ?_
    refine x_iload_n C (k_dg dt_X11_round_1 6 81 (.iload_n 3) 1 rfl) 3 rfl ?_
    refine x_icmp_ge C (tgt := 112) (k_dg dt_X11_round_1 7 82 (.if_icmp .ge 30) 3 rfl) (by decide) (fun _ => ?_) (fun _ => ?_)
    · refine x_lv [0, 2, 3, 4] rfl ?_
      exact Hx112 l2 l3 l4 M
    · refine x_aload_n C (k_dg dt_X11_round_1 8 85 (.aload_n 0) 1 rfl) 0 rfl ?_
      refine x_getR C (a := 0) (j := 3) 43 rfl rfl (by decide) fl_RX11_26 rfl rfl rfl (k_dg dt_X11_round_1 9 86 (.getfield 26) 3 rfl) ?_
      refine x_aload_n C (k_dg dt_X11_round_1 10 89 (.aload_n 0) 1 rfl) 0 rfl ?_
      refine x_getR C (a := 0) (j := 9) 66 rfl rfl (by decide) fl_RX11_49 rfl rfl rfl (k_dg dt_X11_round_1 11 90 (.getfield 49) 3 rfl) ?_
      refine x_iload_n C (k_dg dt_X11_round_1 12 93 (.iload_n 1) 1 rfl) 1 rfl ?_
      refine x_aall C rfl (k_dg dt_X11_round_1 13 94 (.aaload) 1 rfl) (fun q1 hq1 => ?_)
      refine x_iload C (k_dg dt_X11_round_1 14 95 (.iload 4) 2 rfl) 4 rfl ?_
      refine x_lald C (a := q1) (n := 40) rfl hq1 (k_dg dt_X11_round_1 15 97 (.laload) 1 rfl) (fun v2 => ?_)
      refine x_l2i C (k_dg dt_X11_round_1 16 98 (.l2i) 1 rfl) ?_
      refine x_callV C (a := 43) (kd := 8) (vs := [Value.int v2.toInt32]) (rest := []) rfl rfl (by decide) (fun r hr => by cases hr; rfl) (c_X10_attempt C.2.2.2.2.2.2.2.2.2 G.2.1 43 v2.toInt32 M isW43) cy_X10_attempt lk_RX11_189 im_X10_attempt se_X10_attempt (by decide) (by decide) (by decide) (by decide) rfl rfl (Nat.le_of_ble_eq_true rfl) (k_dg dt_X11_round_1 17 99 (.invokevirtual 189) 3 rfl) (fun r3 M4 => ?_)
      show Sm Z G _ _ _ _ [(0, k_ra Z 0), (1, Value.int l1), (2, Value.int l2), (3, Value.int l3), (4, Value.int l4)] [Value.int r3] _ _
      refine x_iconst C (v := -1) (k_dg dt_X11_round_1 18 102 (.iconst (-1)) 1 rfl) (by decide) ?_
      refine x_icmp_eq C (tgt := 112) (k_dg dt_X11_round_1 19 103 (.if_icmp .eq 9) 3 rfl) (by decide) (fun _ => ?_) (fun _ => ?_)
      · refine x_lv [0, 2, 3, 4] rfl ?_
        exact Hx112 l2 l3 l4 M4
      · refine x_iinc C (v := 1) (lv' := [(4, Value.int (l4 + 1)), (0, k_ra Z 0), (1, Value.int l1), (2, Value.int l2), (3, Value.int l3)]) (k_dg dt_X11_round_1 20 106 (.iinc 4 1) 3 rfl) 4 rfl (by decide) (by decide) rfl ?_
        refine x_goto C (tgt := 79) (k_dg dt_X11_round_1 21 109 (.goto (-30)) 3 rfl) (by decide) ?_
        refine x_lv [1, 2, 3, 4, 0] rfl ?_
        exact ih l1 l2 l3 (l4 + 1) M4
def f_X11_round_112 (l2 : Int32) (l3 : Int32) (l4 : Int32) (M : k_M) : Option (Int32 × k_M) := if l2 = 0 then some (l4, M) else if l4 = l3 then bd (f_X10_isNoWorseThan 43 3 M) (fun r1 M2 => if r1 = 0 then some (0, M2) else some (1, M2)) else some (0, M)
theorem m_X11_round_112 {Z : k_Z} {G : k_G} (C : k_C Z G RX11 cX11_round (true, 5, 4, 0, 0) (some .int) "round") (l2 : Int32) (l3 : Int32) (l4 : Int32) (M : k_M) : Sm Z G emI (true, 5, 4, 0, 0) (0, 0) 112 [(0, k_ra Z 0), (2, Value.int l2), (3, Value.int l3), (4, Value.int l4)] [] M (f_X11_round_112 l2 l3 l4 M) := by
  show Sm Z G emI _ _ _ _ _ _ (if l2 = 0 then some (l4, M) else if l4 = l3 then bd (f_X10_isNoWorseThan 43 3 M) (fun r1 M2 => if r1 = 0 then some (0, M2) else some (1, M2)) else some (0, M))
  refine x_iload_n C (k_dg dt_X11_round_1 22 112 (.iload_n 2) 1 rfl) 1 rfl ?_
  refine x_if_ne C (tgt := 119) (k_dg dt_X11_round_1 23 113 (.ifCond .ne 6) 3 rfl) (by decide) (fun _ => ?_) (fun _ => ?_)
  · refine x_iload C (k_dg dt_X11_round_1 24 116 (.iload 4) 2 rfl) 3 rfl ?_
    exact x_iret C (by decide) (by decide) (k_dg dt_X11_round_1 25 118 (.ireturn) 1 rfl)
  · refine x_iload C (k_dg dt_X11_round_1 26 119 (.iload 4) 2 rfl) 3 rfl ?_
    refine x_iload_n C (k_dg dt_X11_round_1 27 121 (.iload_n 3) 1 rfl) 2 rfl ?_
    refine x_icmp_ne C (tgt := 143) (k_dg dt_X11_round_1 28 122 (.if_icmp .ne 21) 3 rfl) (by decide) (fun _ => ?_) (fun _ => ?_)
    · refine x_aload_n C (k_dg dt_X11_round_1 29 125 (.aload_n 0) 1 rfl) 0 rfl ?_
      refine x_getR C (a := 0) (j := 3) 43 rfl rfl (by decide) fl_RX11_26 rfl rfl rfl (k_dg dt_X11_round_1 30 126 (.getfield 26) 3 rfl) ?_
      refine x_aload_n C (k_dg dt_X11_round_1 31 129 (.aload_n 0) 1 rfl) 0 rfl ?_
      refine x_getR C (a := 0) (j := 1) 3 rfl rfl (by decide) fl_RX11_19 rfl rfl rfl (k_dg dt_X11_round_1 32 130 (.getfield 19) 3 rfl) ?_
      refine x_callV C (a := 43) (kd := 8) (vs := [k_ra Z 3]) (rest := []) rfl rfl (by decide) (fun r hr => by cases hr; rfl) (c_X10_isNoWorseThan C.2.2.2.2.2.2.2.2.2 G.2.1 43 3 M isW43 isW3) cy_X10_isNoWorseThan lk_RX11_230 im_X10_isNoWorseThan se_X10_isNoWorseThan (by decide) (by decide) (by decide) (by decide) rfl rfl (Nat.le_of_ble_eq_true rfl) (k_dg dt_X11_round_1 33 133 (.invokevirtual 230) 3 rfl) (fun r1 M2 => ?_)
      show Sm Z G _ _ _ _ [(0, k_ra Z 0), (2, Value.int l2), (3, Value.int l3), (4, Value.int l4)] [Value.int r1] _ _
      refine x_if_eq C (tgt := 143) (k_dg dt_X11_round_1 34 136 (.ifCond .eq 7) 3 rfl) (by decide) (fun _ => ?_) (fun _ => ?_)
      · refine x_iconst C (v := 0) (k_dg dt_X11_round_1 37 143 (.iconst 0) 1 rfl) (by decide) ?_
        exact x_iret C (by decide) (by decide) (k_dg dt_X11_round_1 38 144 (.ireturn) 1 rfl)
      · refine x_iconst C (v := 1) (k_dg dt_X11_round_1 35 139 (.iconst 1) 1 rfl) (by decide) ?_
        refine x_goto C (tgt := 144) (k_dg dt_X11_round_1 36 140 (.goto 4) 3 rfl) (by decide) ?_
        exact x_iret C (by decide) (by decide) (k_dg dt_X11_round_1 38 144 (.ireturn) 1 rfl)
    · refine x_iconst C (v := 0) (k_dg dt_X11_round_1 37 143 (.iconst 0) 1 rfl) (by decide) ?_
      exact x_iret C (by decide) (by decide) (k_dg dt_X11_round_1 38 144 (.ireturn) 1 rfl)
def f_X11_round (p1 : Int32) (p2 : Int32) (M : k_M) : Option (Int32 × k_M) := bd (f_X11_within p1 0 3 M) (fun r1 M2 => if r1 = 0 then some (-1, M2) else bd (f_X11_within p2 0 1 M2) (fun r3 M4 => if r3 = 0 then some (-1, M4) else if (M4.1 3 3) = 0 then some (-4, M4) else rdI M4 64 4 p1 (fun v5 => if v5 = (-1) then some (-11, M4) else rdI M4 64 4 p1 (fun v6 => if v6 = 0 then rdI M4 65 4 p1 (fun v7 => bd (f_X10_copyFrom 43 3 M4) (fun r8 M9 => f_X11_round_79 k_fu p1 p2 v7 0 M9 (fun l2_ l3_ l4_ M_ => f_X11_round_112 l2_ l3_ l4_ M_))) else some (-13, M4)))))
theorem m_X11_round_0 {Z : k_Z} {G : k_G} (C : k_C Z G RX11 cX11_round (true, 5, 4, 0, 0) (some .int) "round") (p1 : Int32) (p2 : Int32) (M : k_M) : Sm Z G emI (true, 5, 4, 0, 0) (0, 0) 0 [(0, k_ra Z 0), (1, Value.int p1), (2, Value.int p2)] [] M (f_X11_round p1 p2 M) := by
  show Sm Z G emI _ _ _ _ _ _ (bd (f_X11_within p1 0 3 M) (fun r1 M2 => if r1 = 0 then some (-1, M2) else bd (f_X11_within p2 0 1 M2) (fun r3 M4 => if r3 = 0 then some (-1, M4) else if (M4.1 3 3) = 0 then some (-4, M4) else rdI M4 64 4 p1 (fun v5 => if v5 = (-1) then some (-11, M4) else rdI M4 64 4 p1 (fun v6 => if v6 = 0 then rdI M4 65 4 p1 (fun v7 => bd (f_X10_copyFrom 43 3 M4) (fun r8 M9 => f_X11_round_79 k_fu p1 p2 v7 0 M9 (fun l2_ l3_ l4_ M_ => f_X11_round_112 l2_ l3_ l4_ M_))) else some (-13, M4))))))
  refine x_iload_n C (k_dg dt_X11_round_0 0 0 (.iload_n 1) 1 rfl) 1 rfl ?_
  refine x_iconst C (v := 0) (k_dg dt_X11_round_0 1 1 (.iconst 0) 1 rfl) (by decide) ?_
  refine x_iconst C (v := 3) (k_dg dt_X11_round_0 2 2 (.iconst 3) 1 rfl) (by decide) ?_
  refine x_callS C (vs := [Value.int p1, Value.int 0, Value.int 3]) (rest := []) (c_X11_within C.2.2.2.2.2.2.2.2.2 G.2.1 p1 0 3 M) cy_X11_within lk_RX11_95 stt_X11_within (by decide) (by decide) (by decide) (by decide) rfl rfl (Nat.le_of_ble_eq_true rfl) (k_dg dt_X11_round_0 3 3 (.invokestatic 95) 3 rfl) (fun r1 M2 => ?_)
  show Sm Z G _ _ _ _ [(0, k_ra Z 0), (1, Value.int p1), (2, Value.int p2)] [Value.int r1] _ _
  refine x_if_eq C (tgt := 18) (k_dg dt_X11_round_0 4 6 (.ifCond .eq 12) 3 rfl) (by decide) (fun _ => ?_) (fun _ => ?_)
  · refine x_iconst C (v := -1) (k_dg dt_X11_round_0 10 18 (.iconst (-1)) 1 rfl) (by decide) ?_
    exact x_iret C (by decide) (by decide) (k_dg dt_X11_round_0 11 19 (.ireturn) 1 rfl)
  · refine x_iload_n C (k_dg dt_X11_round_0 5 9 (.iload_n 2) 1 rfl) 2 rfl ?_
    refine x_iconst C (v := 0) (k_dg dt_X11_round_0 6 10 (.iconst 0) 1 rfl) (by decide) ?_
    refine x_iconst C (v := 1) (k_dg dt_X11_round_0 7 11 (.iconst 1) 1 rfl) (by decide) ?_
    refine x_callS C (vs := [Value.int p2, Value.int 0, Value.int 1]) (rest := []) (c_X11_within C.2.2.2.2.2.2.2.2.2 G.2.1 p2 0 1 M2) cy_X11_within lk_RX11_95 stt_X11_within (by decide) (by decide) (by decide) (by decide) rfl rfl (Nat.le_of_ble_eq_true rfl) (k_dg dt_X11_round_0 8 12 (.invokestatic 95) 3 rfl) (fun r3 M4 => ?_)
    show Sm Z G _ _ _ _ [(0, k_ra Z 0), (1, Value.int p1), (2, Value.int p2)] [Value.int r3] _ _
    refine x_if_ne C (tgt := 20) (k_dg dt_X11_round_0 9 15 (.ifCond .ne 5) 3 rfl) (by decide) (fun _ => ?_) (fun _ => ?_)
    · refine x_iconst C (v := -1) (k_dg dt_X11_round_0 10 18 (.iconst (-1)) 1 rfl) (by decide) ?_
      exact x_iret C (by decide) (by decide) (k_dg dt_X11_round_0 11 19 (.ireturn) 1 rfl)
    · refine x_aload_n C (k_dg dt_X11_round_0 12 20 (.aload_n 0) 1 rfl) 0 rfl ?_
      refine x_getR C (a := 0) (j := 1) 3 rfl rfl (by decide) fl_RX11_19 rfl rfl rfl (k_dg dt_X11_round_0 13 21 (.getfield 19) 3 rfl) ?_
      refine x_getI C (a := 3) (j := 3) rfl rfl (by decide) fl_RX11_89 rfl (k_dg dt_X11_round_0 14 24 (.getfield 89) 3 rfl) ?_
      refine x_if_ne C (tgt := 33) (k_dg dt_X11_round_0 15 27 (.ifCond .ne 6) 3 rfl) (by decide) (fun _ => ?_) (fun _ => ?_)
      · refine x_bipush C (v := -4) (k_dg dt_X11_round_0 16 30 (.bipush (-4)) 2 rfl) (by decide) ?_
        exact x_iret C (by decide) (by decide) (k_dg dt_X11_round_0 17 32 (.ireturn) 1 rfl)
      · refine x_aload_n C (k_dg dt_X11_round_0 18 33 (.aload_n 0) 1 rfl) 0 rfl ?_
        refine x_getR C (a := 0) (j := 7) 64 rfl rfl (by decide) fl_RX11_41 rfl rfl rfl (k_dg dt_X11_round_0 19 34 (.getfield 41) 3 rfl) ?_
        refine x_iload_n C (k_dg dt_X11_round_0 20 37 (.iload_n 1) 1 rfl) 1 rfl ?_
        refine x_iald C (a := 64) (n := 4) rfl rfl (k_dg dt_X11_round_0 21 38 (.iaload) 1 rfl) (fun v5 => ?_)
        refine x_iconst C (v := -1) (k_dg dt_X11_round_0 22 39 (.iconst (-1)) 1 rfl) (by decide) ?_
        refine x_icmp_ne C (tgt := 46) (k_dg dt_X11_round_0 23 40 (.if_icmp .ne 6) 3 rfl) (by decide) (fun _ => ?_) (fun _ => ?_)
        · refine x_bipush C (v := -11) (k_dg dt_X11_round_0 24 43 (.bipush (-11)) 2 rfl) (by decide) ?_
          exact x_iret C (by decide) (by decide) (k_dg dt_X11_round_0 25 45 (.ireturn) 1 rfl)
        · refine x_aload_n C (k_dg dt_X11_round_0 26 46 (.aload_n 0) 1 rfl) 0 rfl ?_
          refine x_getR C (a := 0) (j := 7) 64 rfl rfl (by decide) fl_RX11_41 rfl rfl rfl (k_dg dt_X11_round_0 27 47 (.getfield 41) 3 rfl) ?_
          refine x_iload_n C (k_dg dt_X11_round_0 28 50 (.iload_n 1) 1 rfl) 1 rfl ?_
          refine x_iald C (a := 64) (n := 4) rfl rfl (k_dg dt_X11_round_0 29 51 (.iaload) 1 rfl) (fun v6 => ?_)
          refine x_if_eq C (tgt := 58) (k_dg dt_X11_round_0 30 52 (.ifCond .eq 6) 3 rfl) (by decide) (fun _ => ?_) (fun _ => ?_)
          · refine x_aload_n C (k_dg dt_X11_round_0 33 58 (.aload_n 0) 1 rfl) 0 rfl ?_
            refine x_getR C (a := 0) (j := 8) 65 rfl rfl (by decide) fl_RX11_44 rfl rfl rfl (k_dg dt_X11_round_0 34 59 (.getfield 44) 3 rfl) ?_
            refine x_iload_n C (k_dg dt_X11_round_0 35 62 (.iload_n 1) 1 rfl) 1 rfl ?_
            refine x_iald C (a := 65) (n := 4) rfl rfl (k_dg dt_X11_round_0 36 63 (.iaload) 1 rfl) (fun v7 => ?_)
            refine x_istore_n C (lv' := [(3, Value.int v7), (0, k_ra Z 0), (1, Value.int p1), (2, Value.int p2)]) (k_dg dt_X11_round_0 37 64 (.istore_n 3) 1 rfl) (by decide) rfl ?_
            refine x_aload_n C (k_dg dt_X11_round_0 38 65 (.aload_n 0) 1 rfl) 1 rfl ?_
            refine x_getR C (a := 0) (j := 3) 43 rfl rfl (by decide) fl_RX11_26 rfl rfl rfl (k_dg dt_X11_round_0 39 66 (.getfield 26) 3 rfl) ?_
            refine x_aload_n C (k_dg dt_X11_round_1 0 69 (.aload_n 0) 1 rfl) 1 rfl ?_
            refine x_getR C (a := 0) (j := 1) 3 rfl rfl (by decide) fl_RX11_19 rfl rfl rfl (k_dg dt_X11_round_1 1 70 (.getfield 19) 3 rfl) ?_
            refine x_callV C (a := 43) (kd := 8) (vs := [k_ra Z 3]) (rest := []) rfl rfl (by decide) (fun r hr => by cases hr; rfl) (c_X10_copyFrom C.2.2.2.2.2.2.2.2.2 G.2.1 43 3 M4 isW43 isW3) cy_X10_copyFrom lk_RX11_227 im_X10_copyFrom se_X10_copyFrom (by decide) (by decide) (by decide) (by decide) rfl rfl (Nat.le_of_ble_eq_true rfl) (k_dg dt_X11_round_1 2 73 (.invokevirtual 227) 3 rfl) (fun r8 M9 => ?_)
            show Sm Z G _ _ _ _ [(3, Value.int v7), (0, k_ra Z 0), (1, Value.int p1), (2, Value.int p2)] [] _ _
            refine x_iconst C (v := 0) (k_dg dt_X11_round_1 3 76 (.iconst 0) 1 rfl) (by decide) ?_
            refine x_istore C (lv' := [(4, Value.int 0), (3, Value.int v7), (0, k_ra Z 0), (1, Value.int p1), (2, Value.int p2)]) (k_dg dt_X11_round_1 4 77 (.istore 4) 2 rfl) (by decide) rfl ?_
            refine x_lv [2, 3, 4, 1, 0] rfl ?_
            exact m_X11_round_79 C (fun l2_ l3_ l4_ M_ => f_X11_round_112 l2_ l3_ l4_ M_) (fun l2_ l3_ l4_ M_ => m_X11_round_112 C l2_ l3_ l4_ M_) k_fu p1 p2 v7 0 M9
          · refine x_bipush C (v := -13) (k_dg dt_X11_round_0 31 55 (.bipush (-13)) 2 rfl) (by decide) ?_
            exact x_iret C (by decide) (by decide) (k_dg dt_X11_round_0 32 57 (.ireturn) 1 rfl)
theorem c_X11_round {Z : k_Z} (hg : k_Gd Z) (l : Launch) (p1 : Int32) (p2 : Int32) (M : k_M) : Con true Z l yX11_round cX11_round 5 (some .int) 4 0 0 emI [k_ra Z 0, Value.int p1, Value.int p2] M (f_X11_round p1 p2 M) := k_con hg (by decide) (Nat.le_of_ble_eq_true rfl) (fun G hl C => m_X11_round_0 C p1 p2 M)
